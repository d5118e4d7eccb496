/-! The bay as a row of numbers (the reference's own), and the small questions about it -/
def dst (a b : Int) : Int := if a < b then b - a else a - b
def ooR (ρ : Nat → Int) (b k : Int) : Int := ρ (202 + 12 * b.toNat + k.toNat)
def tnR (ρ : Nat → Int) (k : Int) : Int := ρ (292 + 3 * k.toNat)
def sgR (ρ : Nat → Int) (k : Int) : Int := ρ (291 + 3 * k.toNat)
def lnR (ρ : Nat → Int) (k : Int) : Int := ρ (290 + 3 * k.toNat)
def rkR (ρ : Nat → Int) (x y : Int) : Int := ρ (10 + 3 * (8 * y + x).toNat)
def inR (ρ : Nat → Int) (x y : Int) : Int := if 0 ≤ x ∧ x < ρ 0 ∧ 0 ≤ y ∧ y < ρ 1 then 1 else 0
def waR (ρ : Nat → Int) (x y : Int) : Int := if 0 ≤ x ∧ x < ρ 0 ∧ 0 ≤ y ∧ y < ρ 1 ∧ rkR ρ x y = 0 then 1 else 0
def holR (ρ : Nat → Int) (b : Int) : Int := if ooR ρ b 0 = 3 then (ooR ρ b 5).tdiv 2 else ooR ρ b 5
def pulR (ρ : Nat → Int) (b : Int) : Int := ooR ρ b 6 + (if ooR ρ b 0 = 2 then 5 else 0)
def apR (ρ : Nat → Int) (k : Int) : Int := dst (ooR ρ k 1) (ooR ρ (k + 1) 1) + dst (ooR ρ k 2) (ooR ρ (k + 1) 2)
def fsN (ρ : Nat → Int) : Nat → Nat
  | 0 => 0
  | b + 1 => if ρ (292 + 3 * b) = 0 then fsN ρ b else b + 1
def laN (ρ : Nat → Int) : Nat → Nat → Nat
  | 0, b => b
  | f + 1, b => if ρ (292 + 3 * b) = 0 then laN ρ f (b + 1) else b
def fsR (ρ : Nat → Int) (b : Int) : Int := fsN ρ b.toNat
def laR (ρ : Nat → Int) (b : Int) : Int := laN ρ ((ρ 2).toNat - 1 - b.toNat) b.toNat
/-- what the numbers of a bay are -/
def BW (ρ : Nat → Int) (b : Nat) : Prop :=
  (0 ≤ ρ (202 + 12 * b) ∧ ρ (202 + 12 * b) ≤ 4) ∧ (0 ≤ ρ (203 + 12 * b) ∧ ρ (203 + 12 * b) < ρ 0) ∧ (0 ≤ ρ (204 + 12 * b) ∧ ρ (204 + 12 * b) < ρ 1) ∧
  (0 ≤ ρ (205 + 12 * b) ∧ ρ (205 + 12 * b) < 8) ∧ (0 ≤ ρ (206 + 12 * b) ∧ ρ (206 + 12 * b) < 8) ∧ (0 ≤ ρ (207 + 12 * b) ∧ ρ (207 + 12 * b) ≤ 99) ∧ (0 ≤ ρ (208 + 12 * b) ∧ ρ (208 + 12 * b) ≤ 99) ∧
  (0 ≤ ρ (209 + 12 * b) ∧ ρ (209 + 12 * b) ≤ 9) ∧ (0 ≤ ρ (210 + 12 * b) ∧ ρ (210 + 12 * b) ≤ (if ρ (202 + 12 * b) = 3 then (ρ (207 + 12 * b)).tdiv 2 else ρ (207 + 12 * b))) ∧ (0 ≤ ρ (211 + 12 * b) ∧ ρ (211 + 12 * b) ≤ 999) ∧ (0 ≤ ρ (212 + 12 * b) ∧ ρ (212 + 12 * b) ≤ 4) ∧
  ρ (10 + 3 * (8 * ρ (204 + 12 * b) + ρ (203 + 12 * b)).toNat) = 0
def WF (ρ : Nat → Int) : Prop :=
  (2 ≤ ρ 0 ∧ ρ 0 ≤ 8) ∧ (2 ≤ ρ 1 ∧ ρ 1 ≤ 8) ∧ (0 ≤ ρ 2 ∧ ρ 2 ≤ 7) ∧ (0 ≤ ρ 3 ∧ ρ 3 ≤ 100000) ∧ (0 ≤ ρ 4 ∧ ρ 4 ≤ 50) ∧ (0 ≤ ρ 5 ∧ ρ 5 ≤ 99) ∧
  (∀ c : Nat, c < 64 → (ρ (10 + 3 * c) = 0 ∨ ρ (10 + 3 * c) = 1) ∧ 0 ≤ ρ (12 + 3 * c) ∧ ρ (12 + 3 * c) ≤ ρ (11 + 3 * c) ∧ ρ (11 + 3 * c) ≤ 99) ∧
  (∀ b : Nat, (b : Int) < ρ 2 → BW ρ b) ∧
  (∀ k : Nat, k < 6 → (1 ≤ ρ (290 + 3 * k) ∧ ρ (290 + 3 * k) ≤ 9) ∧ (0 ≤ ρ (291 + 3 * k) ∧ ρ (291 + 3 * k) ≤ 99) ∧ (ρ (292 + 3 * k) = 0 ∨ ρ (292 + 3 * k) = 1))
/-- the class' cells hold this bay -/
def Rep (σ α : Nat → Nat → Int) (ρ : Nat → Int) : Prop :=
  σ 23 0 = ρ 0 ∧ σ 23 1 = ρ 1 ∧ σ 23 2 = ρ 2 ∧ σ 23 3 = ρ 4 ∧ σ 23 4 = ρ 5 ∧ σ 40 1 = ρ 3 ∧
  (∀ c : Nat, c < 64 → α 24 c = ρ (10 + 3 * c) ∧ α 25 c = ρ (11 + 3 * c) ∧ α 41 c = ρ (12 + 3 * c)) ∧
  (∀ b : Nat, (b : Int) < ρ 2 → α 26 b = ρ (202 + 12 * b) ∧ α 42 b = ρ (203 + 12 * b) ∧ α 43 b = ρ (204 + 12 * b) ∧ α 27 b = ρ (205 + 12 * b) ∧ α 28 b = ρ (206 + 12 * b) ∧ α 29 b = ρ (207 + 12 * b) ∧ α 30 b = ρ (208 + 12 * b) ∧ α 31 b = ρ (209 + 12 * b) ∧ α 44 b = ρ (210 + 12 * b) ∧ α 46 b = ρ (211 + 12 * b) ∧ α 45 b = ρ (212 + 12 * b)) ∧
  (∀ k : Nat, k < 6 → α 32 k = ρ (290 + 3 * k) ∧ α 33 k = ρ (291 + 3 * k) ∧ α 47 k = ρ (292 + 3 * k))
/-- the reference's leaves -/
theorem m_of {X : mXX} {d : Nat} {Q : Option mV → mS → Prop} {σ α : Nat → Nat → Int} {b k : Int} (hb : 0 ≤ b ∧ b < 7) (h : Q (some (vI (ooR (α 110) b k))) (S0, σ, α)) (hk : 0 ≤ k ∧ k < 12 := by decide) : Ca X (d + 1) 161 [vR 104, vI b, vI k] (S0, σ, α) Q := by
  refine vc161_0 ?_
  have e : wr (wr (202 + wr (12 * b)) + k) = 202 + 12 * b + k := by unfold wr; omega
  rw [e]
  refine ⟨by unfold mInA; omega, ?_⟩
  have e2 : (202 + 12 * b + k).toNat = 202 + 12 * b.toNat + k.toNat := by omega
  rw [e2]
  exact h
theorem m_steps {X : mXX} {d : Nat} {Q : Option mV → mS → Prop} {σ α : Nat → Nat → Int} {a b : Int} (hb : (-1000 ≤ a ∧ a ≤ 1000) ∧ -1000 ≤ b ∧ b ≤ 1000) (h : Q (some (vI (dst a b))) (S0, σ, α)) : Ca X (d + 1) 162 [vI a, vI b] (S0, σ, α) Q := by
  refine vc162_0 ?_
  unfold dst at h
  refine ⟨fun h1 => ?_, fun h1 => ?_⟩
  · rw [if_neg h1] at h; rw [wr_of (by omega) (by omega)]; exact h
  · rw [if_pos h1] at h; rw [wr_of (by omega) (by omega)]; exact h
theorem m_torn {X : mXX} {d : Nat} {Q : Option mV → mS → Prop} {σ α : Nat → Nat → Int} {k : Int} (w : WF (α 110)) (hb : 0 ≤ k ∧ k < 6) (h : Q (some (vI (tnR (α 110) k))) (S0, σ, α)) : Ca X (d + 1) 172 [vR 104, vI k] (S0, σ, α) Q := by
  refine vc172_0 ?_
  have e : wr (wr (290 + wr (3 * k)) + 2) = 292 + 3 * k := by unfold wr; omega
  rw [e]
  refine ⟨by unfold mInA; omega, ?_⟩
  have e2 : (292 + 3 * k).toNat = 292 + 3 * k.toNat := by omega
  rw [e2]
  have w1 := (w.2.2.2.2.2.2.2.2 k.toNat (by omega)).2.2
  unfold tnR at h
  rcases w1 with w1 | w1
  · rw [w1] at h; exact ⟨fun _ => h, fun q => absurd q (by rw [w1]; decide)⟩
  · rw [w1] at h; exact ⟨fun q => absurd w1 q, fun _ => h⟩
theorem m_strong {X : mXX} {d : Nat} {Q : Option mV → mS → Prop} {σ α : Nat → Nat → Int} {k : Int} (hb : 0 ≤ k ∧ k < 6) (h : Q (some (vI (sgR (α 110) k))) (S0, σ, α)) : Ca X (d + 1) 191 [vR 104, vI k] (S0, σ, α) Q := by
  refine vc191_0 ?_
  have e : wr (wr (290 + wr (3 * k)) + 1) = 291 + 3 * k := by unfold wr; omega
  rw [e]
  refine ⟨by unfold mInA; omega, ?_⟩
  have e2 : (291 + 3 * k).toNat = 291 + 3 * k.toNat := by omega
  rw [e2]
  exact h
theorem m_isIn {X : mXX} {d : Nat} {Q : Option mV → mS → Prop} {σ α : Nat → Nat → Int} {x y : Int} (h : Q (some (vI (inR (α 110) x y))) (S0, σ, α)) : Ca X (d + 1) 180 [vR 104, vI x, vI y] (S0, σ, α) Q := by
  refine vc180_0 ?_
  unfold inR at h
  refine ⟨fun h1 => ?_, fun h1 => ⟨fun h2 => ?_, fun h2 => ⟨fun h3 => ?_, fun h3 => ⟨fun h4 => ?_, fun h4 => ?_⟩⟩⟩⟩
  · rw [if_neg (by omega)] at h; exact h
  · rw [if_neg (by omega)] at h; exact h
  · rw [if_neg (by omega)] at h; exact h
  · rw [if_neg (by omega)] at h; exact h
  · rw [if_pos (by omega)] at h; exact h
theorem m_isWater {X : mXX} {d : Nat} {Q : Option mV → mS → Prop} {σ α : Nat → Nat → Int} {x y : Int} (w : WF (α 110)) (h : Q (some (vI (waR (α 110) x y))) (S0, σ, α)) : Ca X (d + 2) 188 [vR 104, vI x, vI y] (S0, σ, α) Q := by
  refine vc188_0 ?_
  refine m_isIn ?_
  refine vc188_6 ?_
  obtain ⟨w0, w1, -⟩ := w
  unfold inR
  unfold waR at h
  by_cases hi : 0 ≤ x ∧ x < α 110 0 ∧ 0 ≤ y ∧ y < α 110 1
  · rw [if_pos hi]
    refine ⟨fun q => absurd q (by decide), fun _ => ?_⟩
    have e : wr (10 + wr (3 * wr (wr (8 * y) + x))) = 10 + 3 * (8 * y + x) := by unfold wr; omega
    rw [e]
    refine ⟨by unfold mInA; omega, ?_⟩
    have e2 : (10 + 3 * (8 * y + x)).toNat = 10 + 3 * (8 * y + x).toNat := by omega
    rw [e2]
    refine ⟨fun q => ?_, fun q => ?_⟩
    · rw [if_neg (fun z => q z.2.2.2.2)] at h; exact h
    · rw [if_pos ⟨hi.1, hi.2.1, hi.2.2.1, hi.2.2.2, q⟩] at h; exact h
  · rw [if_neg hi]
    refine ⟨fun _ => ?_, fun q => absurd rfl q⟩
    rw [if_neg (fun z => hi ⟨z.1, z.2.1, z.2.2.1, z.2.2.2.1⟩)] at h
    exact h
theorem m_holds {X : mXX} {d : Nat} {Q : Option mV → mS → Prop} {σ α : Nat → Nat → Int} {b : Int} (w : WF (α 110)) (hb : 0 ≤ b ∧ b < α 110 2) (h : Q (some (vI (holR (α 110) b))) (S0, σ, α)) : Ca X (d + 2) 165 [vR 104, vI b] (S0, σ, α) Q := by
  have hn := w.2.2.1
  have hbw := w.2.2.2.2.2.2.2.1 b.toNat (by omega)
  refine vc165_0 ?_
  refine m_of ⟨hb.1, by omega⟩ ?_
  refine vc165_6 ?_
  unfold holR at h
  refine ⟨fun q => ?_, fun q => ?_⟩
  · refine m_of ⟨hb.1, by omega⟩ ?_
    refine vc165_27 ?_
    rw [if_neg q] at h; exact h
  · refine m_of ⟨hb.1, by omega⟩ ?_
    refine vc165_16 ?_
    refine vc165_27 ?_
    rw [if_pos q] at h
    have hh : 0 ≤ ooR (α 110) b 5 ∧ ooR (α 110) b 5 ≤ 99 := by
      have := hbw.2.2.2.2.2.1
      have e : ooR (α 110) b 5 = α 110 (207 + 12 * b.toNat) := by unfold ooR; congr 1; omega
      rw [e]; exact this
    have e3 : wr ((ooR (α 110) b 5).tdiv 2) = (ooR (α 110) b 5).tdiv 2 := by
      apply wr_of
      · have := Int.tdiv_nonneg hh.1 (show (0 : Int) ≤ 2 by decide); omega
      · have := Int.tdiv_le_self 2 hh.1; omega
    rw [e3]; exact h
theorem m_pull {X : mXX} {d : Nat} {Q : Option mV → mS → Prop} {σ α : Nat → Nat → Int} {b : Int} (w : WF (α 110)) (hb : 0 ≤ b ∧ b < α 110 2) (h : Q (some (vI (pulR (α 110) b))) (S0, σ, α)) : Ca X (d + 2) 170 [vR 104, vI b] (S0, σ, α) Q := by
  have hn := w.2.2.1
  have hbw := w.2.2.2.2.2.2.2.1 b.toNat (by omega)
  refine vc170_0 ?_
  refine m_of ⟨hb.1, by omega⟩ ?_
  refine vc170_7 ?_
  refine m_of ⟨hb.1, by omega⟩ ?_
  refine vc170_13 ?_
  unfold pulR at h
  have hh : 0 ≤ ooR (α 110) b 6 ∧ ooR (α 110) b 6 ≤ 99 := by
    have := hbw.2.2.2.2.2.2.1
    have e : ooR (α 110) b 6 = α 110 (208 + 12 * b.toNat) := by unfold ooR; congr 1; omega
    rw [e]; exact this
  refine ⟨fun q => ?_, fun q => ?_⟩
  · rw [if_neg q] at h; rw [wr_of (by omega) (by omega)]; exact h
  · rw [if_pos q] at h; rw [wr_of (by omega) (by omega)]; exact h
theorem oo_e (ρ : Nat → Int) (b : Nat) (k : Nat) : ooR ρ (b : Int) (k : Int) = ρ (202 + 12 * b + k) := by unfold ooR; congr 1
theorem m_apart {X : mXX} {d : Nat} {Q : Option mV → mS → Prop} {σ α : Nat → Nat → Int} {k : Int} (w : WF (α 110)) (hb : 0 ≤ k ∧ k + 1 < α 110 2) (h : Q (some (vI (apR (α 110) k))) (S0, σ, α)) : Ca X (d + 2) 160 [vR 104, vI k] (S0, σ, α) Q := by
  have hn := w.2.2.1
  have hW := w.1
  have hD := w.2.1
  have b1 := w.2.2.2.2.2.2.2.1 k.toNat (by omega)
  have b2 := w.2.2.2.2.2.2.2.1 (k.toNat + 1) (by omega)
  have e1 : ooR (α 110) k 1 = α 110 (203 + 12 * k.toNat) := by unfold ooR; congr 1; omega
  have e2 : ooR (α 110) k 2 = α 110 (204 + 12 * k.toNat) := by unfold ooR; congr 1; omega
  have e3 : ooR (α 110) (k + 1) 1 = α 110 (203 + 12 * (k.toNat + 1)) := by unfold ooR; congr 1; omega
  have e4 : ooR (α 110) (k + 1) 2 = α 110 (204 + 12 * (k.toNat + 1)) := by unfold ooR; congr 1; omega
  have ek : wr (k + 1) = k + 1 := wr_of (by omega) (by omega)
  obtain ⟨-, p1, p2, -⟩ := b1
  obtain ⟨-, q1, q2, -⟩ := b2
  refine vc160_0 ?_
  refine m_of ⟨hb.1, by omega⟩ ?_
  refine vc160_6 ?_
  rw [ek]
  refine m_of ⟨by omega, by omega⟩ ?_
  refine vc160_14 ?_
  refine m_steps ⟨by omega, by omega⟩ ?_
  refine vc160_17 ?_
  refine m_of ⟨hb.1, by omega⟩ ?_
  refine vc160_23 ?_
  rw [ek]
  refine m_of ⟨by omega, by omega⟩ ?_
  refine vc160_31 ?_
  refine m_steps ⟨by omega, by omega⟩ ?_
  refine vc160_34 ?_
  have ed : ∀ x y : Int, 0 ≤ x ∧ x < 8 → 0 ≤ y ∧ y < 8 → 0 ≤ dst x y ∧ dst x y < 8 := by
    intro x y hx hy
    unfold dst
    split <;> omega
  have d1 := ed _ _ (⟨by rw [e1]; omega, by rw [e1]; omega⟩ : 0 ≤ ooR (α 110) k 1 ∧ ooR (α 110) k 1 < 8) (⟨by rw [e3]; omega, by rw [e3]; omega⟩ : 0 ≤ ooR (α 110) (k + 1) 1 ∧ ooR (α 110) (k + 1) 1 < 8)
  have d2 := ed _ _ (⟨by rw [e2]; omega, by rw [e2]; omega⟩ : 0 ≤ ooR (α 110) k 2 ∧ ooR (α 110) k 2 < 8) (⟨by rw [e4]; omega, by rw [e4]; omega⟩ : 0 ≤ ooR (α 110) (k + 1) 2 ∧ ooR (α 110) (k + 1) 2 < 8)
  rw [wr_of (by omega) (by omega)]
  exact h
theorem fsN_le (ρ : Nat → Int) : ∀ b, fsN ρ b ≤ b
  | 0 => Nat.le_refl _
  | b + 1 => by
    unfold fsN
    split
    · exact Nat.le_succ_of_le (fsN_le ρ b)
    · exact Nat.le_refl _
theorem laN_le (ρ : Nat → Int) : ∀ f b, b ≤ laN ρ f b ∧ laN ρ f b ≤ b + f
  | 0, b => by unfold laN; omega
  | f + 1, b => by
    unfold laN
    split
    · have := laN_le ρ f (b + 1); omega
    · omega
theorem m_first {X : mXX} {d : Nat} {Q : Option mV → mS → Prop} {σ α : Nat → Nat → Int} {b : Int} (w : WF (α 110)) (hb : 0 ≤ b ∧ b < 7) (h : Q (some (vI (fsR (α 110) b))) (S0, σ, α)) : Ca X (d + 2) 171 [vR 104, vI b] (S0, σ, α) Q := by
  obtain ⟨n, rfl⟩ := Int.eq_ofNat_of_zero_le hb.1
  refine vc171_0 ?_
  have key : ∀ f : Nat, f < 7 → fsN (α 110) f = fsN (α 110) n → Go X (d + 1) 171 2 [some (vR 104), some (vI (n : Int)), some (vI (f : Int))] [] (S0, σ, α) (0, 0) Q := by
    intro f
    induction f with
    | zero =>
      intro _ e
      refine vc171_2 ⟨fun _ => ?_, fun q => absurd q (by decide)⟩
      unfold fsR at h
      rw [Int.toNat_natCast, ← e] at h
      exact h
    | succ f ih =>
      intro hf e
      refine vc171_2 ⟨fun q => absurd (show (0 : Int) < ((f + 1 : Nat) : Int) by omega) q, fun _ => ?_⟩
      have e1 : wr (((f + 1 : Nat) : Int) - 1) = (f : Int) := by rw [wr_of (by omega) (by omega)]; omega
      have e2 : wr (((f + 1 : Nat) : Int) + -1) = (f : Int) := by rw [wr_of (by omega) (by omega)]; omega
      rw [e1]
      refine m_torn w ⟨by omega, by omega⟩ ?_
      refine vc171_13 ⟨fun q => ?_, fun q => ?_⟩
      · have hq : ¬ α 110 (292 + 3 * f) = 0 := by simpa [tnR] using q
        rw [show fsN (α 110) (f + 1) = f + 1 from if_neg hq] at e
        unfold fsR at h
        rw [Int.toNat_natCast, ← e] at h
        exact h
      · have hq : α 110 (292 + 3 * f) = 0 := by simpa [tnR] using q
        rw [e2]
        refine ih (by omega) ?_
        rw [← e]
        exact (show fsN (α 110) (f + 1) = fsN (α 110) f from if_pos hq).symm
  exact key n (by omega) rfl
theorem m_last {X : mXX} {d : Nat} {Q : Option mV → mS → Prop} {σ α : Nat → Nat → Int} {b : Int} (w : WF (α 110)) (hb : 0 ≤ b ∧ b < α 110 2) (h : Q (some (vI (laR (α 110) b))) (S0, σ, α)) : Ca X (d + 2) 177 [vR 104, vI b] (S0, σ, α) Q := by
  obtain ⟨n, rfl⟩ := Int.eq_ofNat_of_zero_le hb.1
  have hn := w.2.2.1
  refine vc177_0 ?_
  have key : ∀ (f : Nat) (l : Nat), l + f + 1 = (α 110 2).toNat → laN (α 110) f l = laN (α 110) ((α 110 2).toNat - 1 - n) n → Go X (d + 1) 177 2 [some (vR 104), some (vI (n : Int)), some (vI (l : Int))] [] (S0, σ, α) (0, 0) Q := by
    intro f
    induction f with
    | zero =>
      intro l hl e
      refine vc177_2 ?_
      refine vc159_0 ?_
      refine vc177_7 ⟨fun _ => ?_, fun q => ?_⟩
      · unfold laR at h
        rw [Int.toNat_natCast, ← e] at h
        exact h
      · rw [wr_of (by omega) (by omega)] at q; omega
    | succ f ih =>
      intro l hl e
      refine vc177_2 ?_
      refine vc159_0 ?_
      refine vc177_7 ⟨fun q => ?_, fun _ => ?_⟩
      · rw [wr_of (by omega) (by omega)] at q; omega
      · refine m_torn w ⟨by omega, by omega⟩ ?_
        refine vc177_17 ⟨fun q => ?_, fun q => ?_⟩
        · have hq : ¬ α 110 (292 + 3 * l) = 0 := by simpa [tnR] using q
          rw [show laN (α 110) (f + 1) l = l from if_neg hq] at e
          unfold laR at h
          rw [Int.toNat_natCast, ← e] at h
          exact h
        · have hq : α 110 (292 + 3 * l) = 0 := by simpa [tnR] using q
          have e1 : wr ((l : Int) + 1) = ((l + 1 : Nat) : Int) := by rw [wr_of (by omega) (by omega)]; omega
          rw [e1]
          refine ih (l + 1) (by omega) ?_
          rw [← e]
          exact (show laN (α 110) (f + 1) l = laN (α 110) f (l + 1) from if_pos hq).symm
  exact key _ n (by omega) rfl

def wxR (w : Int) : Int := if w = 2 then 1 else if w = 4 then -1 else 0
def wyR (w : Int) : Int := if w = 1 then 1 else if w = 3 then -1 else 0
theorem m_stepX {X : mXX} {d : Nat} {Q : Option mV → mS → Prop} {σ α : Nat → Nat → Int} {w : Int} (h : Q (some (vI (wxR w))) (S0, σ, α)) : Ca X (d + 1) 186 [vI w] (S0, σ, α) Q := by
  refine vc186_0 ?_
  unfold wxR at h
  refine ⟨fun q => ⟨fun q2 => ?_, fun q2 => ?_⟩, fun q => ?_⟩
  · rw [if_neg q, if_neg q2] at h; exact h
  · rw [if_neg q, if_pos q2] at h; exact h
  · rw [if_pos q] at h; exact h
theorem m_stepY {X : mXX} {d : Nat} {Q : Option mV → mS → Prop} {σ α : Nat → Nat → Int} {w : Int} (h : Q (some (vI (wyR w))) (S0, σ, α)) : Ca X (d + 1) 187 [vI w] (S0, σ, α) Q := by
  refine vc187_0 ?_
  unfold wyR at h
  refine ⟨fun q => ⟨fun q2 => ?_, fun q2 => ?_⟩, fun q => ?_⟩
  · rw [if_neg q, if_neg q2] at h; exact h
  · rw [if_neg q, if_pos q2] at h; exact h
  · rw [if_pos q] at h; exact h
theorem wX_R {w : Int} (h : 0 ≤ w ∧ w < 5) : wX w.toNat = wxR w := by
  have : w = 0 ∨ w = 1 ∨ w = 2 ∨ w = 3 ∨ w = 4 := by omega
  rcases this with rfl | rfl | rfl | rfl | rfl <;> rfl
theorem wY_R {w : Int} (h : 0 ≤ w ∧ w < 5) : wY w.toNat = wyR w := by
  have : w = 0 ∨ w = 1 ∨ w = 2 ∨ w = 3 ∨ w = 4 := by omega
  rcases this with rfl | rfl | rfl | rfl | rfl <;> rfl
/-! the class' leaves -/
theorem Rep.c {σ α : Nat → Nat → Int} {ρ : Nat → Int} (R : Rep σ α ρ) {c : Nat} (h : c < 64) : α 24 c = ρ (10 + 3 * c) ∧ α 25 c = ρ (11 + 3 * c) ∧ α 41 c = ρ (12 + 3 * c) := R.2.2.2.2.2.2.1 c h
theorem Rep.b {σ α : Nat → Nat → Int} {ρ : Nat → Int} (R : Rep σ α ρ) {b : Nat} (h : (b : Int) < ρ 2) : α 26 b = ρ (202 + 12 * b) ∧ α 42 b = ρ (203 + 12 * b) ∧ α 43 b = ρ (204 + 12 * b) ∧ α 27 b = ρ (205 + 12 * b) ∧ α 28 b = ρ (206 + 12 * b) ∧ α 29 b = ρ (207 + 12 * b) ∧ α 30 b = ρ (208 + 12 * b) ∧ α 31 b = ρ (209 + 12 * b) ∧ α 44 b = ρ (210 + 12 * b) ∧ α 46 b = ρ (211 + 12 * b) ∧ α 45 b = ρ (212 + 12 * b) := R.2.2.2.2.2.2.2.1 b h
theorem Rep.l {σ α : Nat → Nat → Int} {ρ : Nat → Int} (R : Rep σ α ρ) {k : Nat} (h : k < 6) : α 32 k = ρ (290 + 3 * k) ∧ α 33 k = ρ (291 + 3 * k) ∧ α 47 k = ρ (292 + 3 * k) := R.2.2.2.2.2.2.2.2 k h
theorem WF.b {ρ : Nat → Int} (w : WF ρ) {b : Nat} (h : (b : Int) < ρ 2) : BW ρ b := w.2.2.2.2.2.2.2.1 b h
theorem WF.l {ρ : Nat → Int} (w : WF ρ) {k : Nat} (h : k < 6) : (1 ≤ ρ (290 + 3 * k) ∧ ρ (290 + 3 * k) ≤ 9) ∧ (0 ≤ ρ (291 + 3 * k) ∧ ρ (291 + 3 * k) ≤ 99) ∧ (ρ (292 + 3 * k) = 0 ∨ ρ (292 + 3 * k) = 1) := w.2.2.2.2.2.2.2.2 k h
theorem WF.c {ρ : Nat → Int} (w : WF ρ) {c : Nat} (h : c < 64) : (ρ (10 + 3 * c) = 0 ∨ ρ (10 + 3 * c) = 1) ∧ 0 ≤ ρ (12 + 3 * c) ∧ ρ (12 + 3 * c) ≤ ρ (11 + 3 * c) ∧ ρ (11 + 3 * c) ≤ 99 := w.2.2.2.2.2.2.1 c h
theorem c_inside {X : mXX} {d : Nat} {Q : Option mV → mS → Prop} {σ α : Nat → Nat → Int} {ρ : Nat → Int} {x y : Int} (R : Rep σ α ρ) (h : Q (some (vI (inR ρ x y))) (S0, σ, α)) : Ca X (d + 1) 7 [vR 23, vI x, vI y] (S0, σ, α) Q := by
  refine vc7_0 ?_
  have r0 := R.1
  have r1 := R.2.1
  unfold inR at h
  refine ⟨fun h1 => ?_, fun h1 => ⟨fun h2 => ?_, fun h2 => ⟨fun h3 => ?_, fun h3 => ⟨fun h4 => ?_, fun h4 => ?_⟩⟩⟩⟩
  · rw [if_neg (by omega)] at h; exact h
  · rw [if_neg (by omega)] at h; exact h
  · rw [if_neg (by omega)] at h; exact h
  · rw [if_neg (by omega)] at h; exact h
  · rw [if_pos (by omega)] at h; exact h
theorem c_open {X : mXX} {d : Nat} {Q : Option mV → mS → Prop} {σ α : Nat → Nat → Int} {ρ : Nat → Int} {x y : Int} (R : Rep σ α ρ) (w : WF ρ) (h : Q (some (vI (waR ρ x y))) (S0, σ, α)) : Ca X (d + 2) 8 [vR 23, vI x, vI y] (S0, σ, α) Q := by
  refine vc8_0 ?_
  refine c_inside R ?_
  refine vc8_6 ?_
  obtain ⟨w0, w1, -⟩ := w
  unfold inR
  unfold waR at h
  by_cases hi : 0 ≤ x ∧ x < ρ 0 ∧ 0 ≤ y ∧ y < ρ 1
  · rw [if_pos hi]
    refine ⟨fun q => absurd q (by decide), fun _ => ?_⟩
    have e : wr (wr (y * 8) + x) = 8 * y + x := by unfold wr; omega
    rw [e]
    refine ⟨by unfold mInA; omega, ?_⟩
    rw [(R.c (c := (8 * y + x).toNat) (by omega)).1]
    refine ⟨fun q => ?_, fun q => ?_⟩
    · rw [if_neg (fun z => q z.2.2.2.2)] at h; exact h
    · rw [if_pos ⟨hi.1, hi.2.1, hi.2.2.1, hi.2.2.2, q⟩] at h; exact h
  · rw [if_neg hi]
    refine ⟨fun _ => ?_, fun q => absurd rfl q⟩
    rw [if_neg (fun z => hi ⟨z.1, z.2.1, z.2.2.1, z.2.2.2.1⟩)] at h
    exact h
theorem c_holds {X : mXX} {d : Nat} {Q : Option mV → mS → Prop} {σ α : Nat → Nat → Int} {ρ : Nat → Int} {b : Int} (R : Rep σ α ρ) (w : WF ρ) (hb : 0 ≤ b ∧ b < ρ 2) (h : Q (some (vI (holR ρ b))) (S0, σ, α)) : Ca X (d + 1) 6 [vR 23, vI b] (S0, σ, α) Q := by
  obtain ⟨n, rfl⟩ := Int.eq_ofNat_of_zero_le hb.1
  have hn := w.2.2.1
  have hw := w.b hb.2
  obtain ⟨q1, -, -, -, -, q2, -⟩ := R.b hb.2
  refine vc6_0 ?_
  unfold holR at h
  rw [show ooR ρ (n : Int) 0 = ρ (202 + 12 * n) from oo_e ρ n 0, show ooR ρ (n : Int) 5 = ρ (207 + 12 * n) by rw [show (5 : Int) = ((5 : Nat) : Int) from rfl, oo_e]; congr 1; omega] at h
  refine ⟨mInA_n (by omega), ?_⟩
  rw [Int.toNat_natCast, q1, q2]
  have h5 := hw.2.2.2.2.2.1
  refine ⟨fun q => ⟨mInA_n (by omega), ?_⟩, fun q => ⟨mInA_n (by omega), ?_⟩⟩
  · rw [if_neg q] at h; exact h
  · rw [if_pos q] at h
    have e3 : wr ((ρ (207 + 12 * n)).tdiv 2) = (ρ (207 + 12 * n)).tdiv 2 := by
      apply wr_of
      · have := Int.tdiv_nonneg h5.1 (show (0 : Int) ≤ 2 by decide); omega
      · have := Int.tdiv_le_self 2 h5.1; omega
    rw [e3]; exact h
theorem c_first {X : mXX} {d : Nat} {Q : Option mV → mS → Prop} {σ α : Nat → Nat → Int} {ρ : Nat → Int} {b : Int} (R : Rep σ α ρ) (hb : 0 ≤ b ∧ b < 7) (h : Q (some (vI (fsR ρ b))) (S0, σ, α)) : Ca X (d + 1) 10 [vR 84, vI b] (S0, σ, α) Q := by
  obtain ⟨n, rfl⟩ := Int.eq_ofNat_of_zero_le hb.1
  refine vc10_0 ?_
  have key : ∀ f : Nat, f < 7 → fsN ρ f = fsN ρ n → Go X d 10 2 [some (vR 84), some (vI (n : Int)), some (vI (f : Int))] [] (S0, σ, α) (0, 0) Q := by
    intro f
    induction f with
    | zero =>
      intro _ e
      refine vc10_2 ⟨fun _ => ?_, fun q => absurd q (by decide)⟩
      unfold fsR at h
      rw [Int.toNat_natCast, ← e] at h
      exact h
    | succ f ih =>
      intro hf e
      have e1 : wr (((f + 1 : Nat) : Int) - 1) = (f : Int) := by rw [wr_of (by omega) (by omega)]; omega
      have e2 : wr (((f + 1 : Nat) : Int) + -1) = (f : Int) := by rw [wr_of (by omega) (by omega)]; omega
      refine vc10_2 ⟨fun q => absurd (show (0 : Int) < ((f + 1 : Nat) : Int) by omega) q, fun _ => ?_⟩
      rw [e1, e2, Int.toNat_natCast, (R.l (k := f) (by omega)).2.2]
      refine ⟨mInA_n (by omega), fun q => ?_, fun q => ?_⟩
      · rw [show fsN ρ (f + 1) = f + 1 from if_neg q] at e
        unfold fsR at h
        rw [Int.toNat_natCast, ← e] at h
        exact h
      · refine ih (by omega) ?_
        rw [← e]
        exact (show fsN ρ (f + 1) = fsN ρ f from if_pos q).symm
  exact key n (by omega) rfl
theorem c_last {X : mXX} {d : Nat} {Q : Option mV → mS → Prop} {σ α : Nat → Nat → Int} {ρ : Nat → Int} {b : Int} (R : Rep σ α ρ) (w : WF ρ) (hb : 0 ≤ b ∧ b < ρ 2) (h : Q (some (vI (laR ρ b))) (S0, σ, α)) : Ca X (d + 1) 12 [vR 84, vI b] (S0, σ, α) Q := by
  obtain ⟨n, rfl⟩ := Int.eq_ofNat_of_zero_le hb.1
  have hn := w.2.2.1
  have r2 := R.2.2.1
  refine vc12_0 ?_
  have key : ∀ (f : Nat) (l : Nat), l + f + 1 = (ρ 2).toNat → laN ρ f l = laN ρ ((ρ 2).toNat - 1 - n) n → Go X d 12 2 [some (vR 84), some (vI (n : Int)), some (vI (l : Int))] [] (S0, σ, α) (0, 0) Q := by
    intro f
    induction f with
    | zero =>
      intro l hl e
      refine vc12_2 ⟨fun _ => ?_, fun q => ?_⟩
      · unfold laR at h
        rw [Int.toNat_natCast, ← e] at h
        exact h
      · rw [wr_of (by omega) (by omega)] at q; omega
    | succ f ih =>
      intro l hl e
      refine vc12_2 ⟨fun q => ?_, fun _ => ?_⟩
      · rw [wr_of (by omega) (by omega)] at q; omega
      · have e1 : wr ((l : Int) + 1) = ((l + 1 : Nat) : Int) := by rw [wr_of (by omega) (by omega)]; omega
        rw [e1, Int.toNat_natCast, (R.l (k := l) (by omega)).2.2]
        refine ⟨mInA_n (by omega), fun q => ?_, fun q => ?_⟩
        · rw [show laN ρ (f + 1) l = l from if_neg q] at e
          unfold laR at h
          rw [Int.toNat_natCast, ← e] at h
          exact h
        · refine ih (l + 1) (by omega) ?_
          rw [← e]
          exact (show laN ρ (f + 1) l = laN ρ f (l + 1) from if_pos q).symm
  exact key _ n (by omega) rfl
