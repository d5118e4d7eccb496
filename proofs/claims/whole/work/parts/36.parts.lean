/-! Parts of the cable -/
theorem fs_spec {ρ : Nat → Int} : ∀ (b : Nat), fsN ρ b ≤ b ∧ (∀ k, fsN ρ b ≤ k → k < b → ρ (292 + 3 * k) = 0) ∧ (fsN ρ b = 0 ∨ ρ (292 + 3 * (fsN ρ b - 1)) ≠ 0)
  | 0 => ⟨Nat.le_refl _, fun k _ h => absurd h (by omega), Or.inl rfl⟩
  | b + 1 => by
    have ih := fs_spec (ρ := ρ) b
    unfold fsN
    by_cases h : ρ (292 + 3 * b) = 0
    · rw [if_pos h]
      refine ⟨by omega, fun k h1 h2 => ?_, ih.2.2⟩
      by_cases hk : k = b
      · rw [hk]; exact h
      · exact ih.2.1 k h1 (by omega)
    · rw [if_neg h]
      refine ⟨by omega, fun k h1 h2 => by omega, Or.inr ?_⟩
      rw [show b + 1 - 1 = b by omega]; exact h
theorem fs_uni {ρ : Nat → Int} {a b : Nat} (h1 : a ≤ b) (h2 : ∀ k, a ≤ k → k < b → ρ (292 + 3 * k) = 0) (h3 : a = 0 ∨ ρ (292 + 3 * (a - 1)) ≠ 0) : fsN ρ b = a := by
  have s := fs_spec (ρ := ρ) b
  rcases Nat.lt_trichotomy (fsN ρ b) a with h | h | h
  · rcases h3 with h3 | h3
    · omega
    · exact absurd (s.2.1 (a - 1) (by omega) (by omega)) h3
  · exact h
  · rcases s.2.2 with h4 | h4
    · omega
    · exact absurd (h2 (fsN ρ b - 1) (by omega) (by omega)) h4
theorem la_spec {ρ : Nat → Int} : ∀ (f b : Nat), b ≤ laN ρ f b ∧ laN ρ f b ≤ b + f ∧ (∀ k, b ≤ k → k < laN ρ f b → ρ (292 + 3 * k) = 0) ∧ (laN ρ f b = b + f ∨ ρ (292 + 3 * laN ρ f b) ≠ 0)
  | 0, b => ⟨Nat.le_refl _, Nat.le_refl _, fun k h1 h2 => by unfold laN at h2; omega, Or.inl rfl⟩
  | f + 1, b => by
    have ih := la_spec (ρ := ρ) f (b + 1)
    unfold laN
    by_cases h : ρ (292 + 3 * b) = 0
    · rw [if_pos h]
      refine ⟨by omega, by omega, fun k h1 h2 => ?_, ?_⟩
      · by_cases hk : k = b
        · rw [hk]; exact h
        · exact ih.2.2.1 k (by omega) h2
      · rcases ih.2.2.2 with h4 | h4
        · exact Or.inl (by omega)
        · exact Or.inr h4
    · rw [if_neg h]
      exact ⟨Nat.le_refl _, by omega, fun k h1 h2 => by omega, Or.inr h⟩
theorem la_uni {ρ : Nat → Int} {f b l : Nat} (h1 : b ≤ l) (h0 : l ≤ b + f) (h2 : ∀ k, b ≤ k → k < l → ρ (292 + 3 * k) = 0) (h3 : l = b + f ∨ ρ (292 + 3 * l) ≠ 0) : laN ρ f b = l := by
  have s := la_spec (ρ := ρ) f b
  rcases Nat.lt_trichotomy (laN ρ f b) l with h | h | h
  · rcases s.2.2.2 with h4 | h4
    · omega
    · exact absurd (h2 (laN ρ f b) (by omega) (by omega)) h4
  · exact h
  · rcases h3 with h4 | h4
    · omega
    · exact absurd (s.2.2.1 l h1 (by omega)) h4
/-- boats a .. a + n - 1 hang together, and no other with them -/
def prt (ρ : Nat → Int) (a n : Nat) : Prop := 0 < n ∧ ((a + n : Nat) : Int) ≤ ρ 2 ∧ (∀ k, a ≤ k → k + 1 < a + n → ρ (292 + 3 * k) = 0) ∧ (a = 0 ∨ ρ (292 + 3 * (a - 1)) ≠ 0) ∧ (((a + n : Nat) : Int) = ρ 2 ∨ ρ (292 + 3 * (a + n - 1)) ≠ 0)
theorem prt_of {ρ : Nat → Int} {k : Nat} (hk : (k : Int) < ρ 2) : prt ρ (fsN ρ k) (szR ρ k) := by
  have s := fs_spec (ρ := ρ) k
  have t := la_spec (ρ := ρ) ((ρ 2).toNat - 1 - k) k
  have p := part_n hk
  refine ⟨by omega, p.2.2.1, fun i h1 h2 => ?_, s.2.2, ?_⟩
  · by_cases hi : i < k
    · exact s.2.1 i h1 hi
    · exact t.2.2.1 i (by omega) (by omega)
  · rcases t.2.2.2 with h | h
    · exact Or.inl (by omega)
    · rw [p.2.2.2] at h; exact Or.inr h
theorem prt.fs {ρ : Nat → Int} {a n k : Nat} (p : prt ρ a n) (h1 : a ≤ k) (h2 : k < a + n) : fsN ρ k = a := fs_uni h1 (fun i p1 p2 => p.2.2.1 i p1 (by omega)) p.2.2.2.1
theorem prt.la {ρ : Nat → Int} {a n k : Nat} (p : prt ρ a n) (h1 : a ≤ k) (h2 : k < a + n) : laN ρ ((ρ 2).toNat - 1 - k) k = a + n - 1 := by
  have := p.2.1
  refine la_uni (by omega) (by omega) (fun i p1 p2 => p.2.2.1 i (by omega) (by omega)) ?_
  rcases p.2.2.2.2 with h | h
  · exact Or.inl (by omega)
  · exact Or.inr h
theorem prt.sz {ρ : Nat → Int} {a n k : Nat} (p : prt ρ a n) (h1 : a ≤ k) (h2 : k < a + n) : szR ρ k = n := by
  have e1 := p.fs h1 h2
  have e2 := p.la h1 h2
  unfold szR
  rw [e1, e2]
  have := p.1
  omega
/-- what tears: links before m -/
def trR (ρ F : Nat → Int) (m : Nat) (j : Nat) : Int := if 292 ≤ j ∧ (j - 292) % 3 = 0 ∧ (j - 292) / 3 < m ∧ ρ j = 0 ∧ wtR ρ F ((j - 292) / 3) = 1 then 1 else ρ j
theorem trR_l {ρ F : Nat → Int} {m k : Nat} : trR ρ F m (292 + 3 * k) = if k < m ∧ ρ (292 + 3 * k) = 0 ∧ wtR ρ F k = 1 then 1 else ρ (292 + 3 * k) := by
  unfold trR
  rw [show (292 + 3 * k - 292) / 3 = k by omega]
  by_cases h : k < m ∧ ρ (292 + 3 * k) = 0 ∧ wtR ρ F k = 1
  · rw [if_pos h, if_pos ⟨by omega, by omega, h.1, h.2.1, h.2.2⟩]
  · rw [if_neg h, if_neg (fun q => h ⟨q.2.2.1, q.2.2.2.1, q.2.2.2.2⟩)]
theorem trR_o {ρ F : Nat → Int} {m j : Nat} (h : ¬ (292 ≤ j ∧ (j - 292) % 3 = 0)) : trR ρ F m j = ρ j := if_neg (fun q => h ⟨q.1, q.2.1⟩)
theorem trR_n {ρ F : Nat → Int} {m j : Nat} (h : ¬ (292 ≤ j ∧ (j - 292) % 3 = 0 ∧ (j - 292) / 3 < m)) : trR ρ F m j = ρ j := if_neg (fun q => h ⟨q.1, q.2.1, q.2.2.1⟩)
theorem trR_s {ρ F : Nat → Int} {m k : Nat} : trR ρ F (m + 1) = fun j => if j = 292 + 3 * m then (if ρ j = 0 ∧ wtR ρ F m = 1 then 1 else ρ j) else trR ρ F m j := by
  funext j
  by_cases h : j = 292 + 3 * m
  · rw [if_pos h, h, trR_l]
    by_cases h2 : ρ (292 + 3 * m) = 0 ∧ wtR ρ F m = 1
    · rw [if_pos h2, if_pos ⟨by omega, h2⟩]
    · rw [if_neg h2, if_neg (fun q => h2 q.2)]
  · rw [if_neg h]
    unfold trR
    by_cases h2 : 292 ≤ j ∧ (j - 292) % 3 = 0 ∧ (j - 292) / 3 < m ∧ ρ j = 0 ∧ wtR ρ F ((j - 292) / 3) = 1
    · rw [if_pos h2, if_pos ⟨h2.1, h2.2.1, by omega, h2.2.2.2⟩]
    · rw [if_neg h2, if_neg (fun q => h2 ⟨q.1, q.2.1, by omega, q.2.2.2⟩)]
theorem tr_0 {ρ F : Nat → Int} : trR ρ F 0 = ρ := by funext j; exact if_neg (fun q => absurd q.2.2.1 (by omega))
/-- a change of torn links alone keeps what is well formed, and the forces -/
theorem WF.tr {ρ ρ' : Nat → Int} (w : WF ρ) (ho : ∀ j, ¬ (292 ≤ j ∧ j < 310 ∧ (j - 292) % 3 = 0) → ρ' j = ρ j) (hl : ∀ k, k < 6 → ρ' (292 + 3 * k) = 0 ∨ ρ' (292 + 3 * k) = 1) : WF ρ' := by
  have e : ∀ j, j < 292 → ρ' j = ρ j := fun j h => ho j (by omega)
  unfold WF BW
  rw [e 0 (by omega), e 1 (by omega), e 2 (by omega), e 3 (by omega), e 4 (by omega), e 5 (by omega)]
  have h7 := w.n
  refine ⟨w.1, w.2.1, w.2.2.1, w.2.2.2.1, w.2.2.2.2.1, w.2.2.2.2.2.1, fun c hc => ?_, fun b hb => ?_, fun k hk => ?_⟩
  · rw [e _ (by omega), e _ (by omega), e _ (by omega)]; exact w.c hc
  · have hw := w.b hb
    rw [e (202 + 12 * b) (by omega), e (203 + 12 * b) (by omega), e (204 + 12 * b) (by omega), e (205 + 12 * b) (by omega), e (206 + 12 * b) (by omega), e (207 + 12 * b) (by omega), e (208 + 12 * b) (by omega), e (209 + 12 * b) (by omega), e (210 + 12 * b) (by omega), e (211 + 12 * b) (by omega), e (212 + 12 * b) (by omega)]
    rw [e (10 + 3 * (8 * ρ (204 + 12 * b) + ρ (203 + 12 * b)).toNat) (by have := hw.2.1; have := hw.2.2.1; omega)]
    exact hw
  · rw [ho (290 + 3 * k) (by omega), ho (291 + 3 * k) (by omega)]
    exact ⟨(w.l hk).1, (w.l hk).2.1, hl k hk⟩
theorem fc_tr {ρ ρ' : Nat → Int} {P : List (Int × Int)} {dx dy h g : Int} {b : Nat} (hb : b < 7) (ho : ∀ j, j < 292 → ρ' j = ρ j) : fcR ρ' P dx dy h g b = fcR ρ P dx dy h g b := by
  unfold fcR frR pulR ooR
  rw [ho _ (by omega), ho _ (by omega), ho _ (by rw [Int.toNat_natCast]; omega), ho (202 + 12 * (b : Int).toNat + (0 : Int).toNat) (by rw [Int.toNat_natCast]; omega)]
theorem tr_wf {ρ F : Nat → Int} {m : Nat} (w : WF ρ) (hm : m ≤ 6) : WF (trR ρ F m) := by
  refine w.tr (fun j h => trR_n (by omega)) (fun k hk => ?_)
  rw [trR_l]
  split
  · exact Or.inr rfl
  · exact (w.l hk).2.2
theorem Rep.tr {σ α α' : Nat → Nat → Int} {ρ ρ' : Nat → Int} (R : Rep σ α ρ) (f : Fα [47] α α') (ho : ∀ j, ¬ (292 ≤ j ∧ j < 310 ∧ (j - 292) % 3 = 0) → ρ' j = ρ j) (hw : ρ 2 ≤ 7) (hl : ∀ k, k < 6 → α' 47 k = ρ' (292 + 3 * k)) : Rep σ α' ρ' := by
  have g : ∀ z, z ≠ 47 → α' z = α z := fun z h => f z (by simp [h])
  have e : ∀ j, j < 292 → ρ' j = ρ j := fun j h => ho j (by omega)
  unfold Rep
  rw [e 0 (by omega), e 1 (by omega), e 2 (by omega), e 3 (by omega), e 4 (by omega), e 5 (by omega), g 24 (by decide), g 25 (by decide), g 26 (by decide), g 27 (by decide), g 28 (by decide), g 29 (by decide), g 30 (by decide), g 31 (by decide), g 32 (by decide), g 33 (by decide), g 41 (by decide), g 42 (by decide), g 43 (by decide), g 44 (by decide), g 45 (by decide), g 46 (by decide)]
  refine ⟨R.1, R.2.1, R.2.2.1, R.2.2.2.1, R.2.2.2.2.1, R.2.2.2.2.2.1, fun c hc => ?_, fun b hb => ?_, fun k hk => ?_⟩
  · rw [e _ (by omega), e _ (by omega), e _ (by omega)]; exact R.c hc
  · rw [e (202 + 12 * b) (by omega), e (203 + 12 * b) (by omega), e (204 + 12 * b) (by omega), e (205 + 12 * b) (by omega), e (206 + 12 * b) (by omega), e (207 + 12 * b) (by omega), e (208 + 12 * b) (by omega), e (209 + 12 * b) (by omega), e (210 + 12 * b) (by omega), e (211 + 12 * b) (by omega), e (212 + 12 * b) (by omega)]
    exact R.b hb
  · rw [ho (290 + 3 * k) (by omega), ho (291 + 3 * k) (by omega)]
    exact ⟨(R.l hk).1, (R.l hk).2.1, hl k hk⟩
