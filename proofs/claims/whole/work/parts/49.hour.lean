/-! What an hour ends with -/
def enG (ρ : Nat → Int) (s : FS) (mb mc j : Nat) : Int := if 10 ≤ j ∧ j < 202 ∧ (j - 10) / 3 < mc ∧ (j - 10) % 3 = 2 then min (s.1 ((j - 10) / 3) + 1) (ρ (j - 1)) else if 202 ≤ j ∧ (j - 202) / 12 < mb ∧ (j - 202) % 12 = 8 then s.2 ((j - 202) / 12) else if 202 ≤ j ∧ (j - 202) / 12 < mb ∧ (j - 202) % 12 = 10 then 0 else ρ j
theorem enG_o {ρ : Nat → Int} {s : FS} {mb mc j : Nat} (h1 : ¬ (10 ≤ j ∧ j < 202 ∧ (j - 10) / 3 < mc ∧ (j - 10) % 3 = 2)) (h2 : ¬ (202 ≤ j ∧ (j - 202) / 12 < mb ∧ ((j - 202) % 12 = 8 ∨ (j - 202) % 12 = 10))) : enG ρ s mb mc j = ρ j := by
  unfold enG
  rw [if_neg h1, if_neg (fun q => h2 ⟨q.1, q.2.1, Or.inl q.2.2⟩), if_neg (fun q => h2 ⟨q.1, q.2.1, Or.inr q.2.2⟩)]
theorem enG_f {ρ : Nat → Int} {s : FS} {mb mc c : Nat} (h : c < mc) (h6 : c < 64) : enG ρ s mb mc (12 + 3 * c) = min (s.1 c + 1) (ρ (11 + 3 * c)) := by
  unfold enG
  have e : (12 + 3 * c - 10) / 3 = c := by omega
  have e2 : 12 + 3 * c - 1 = 11 + 3 * c := by omega
  rw [e, e2, if_pos ⟨by omega, by omega, h, by omega⟩]
theorem enG_h {ρ : Nat → Int} {s : FS} {mb mc b : Nat} (h : b < mb) : enG ρ s mb mc (210 + 12 * b) = s.2 b := by
  unfold enG
  have e : (210 + 12 * b - 202) / 12 = b := by omega
  rw [e, if_neg (by omega), if_pos ⟨by omega, h, by omega⟩]
theorem enG_w {ρ : Nat → Int} {s : FS} {mb mc b : Nat} (h : b < mb) : enG ρ s mb mc (212 + 12 * b) = 0 := by
  unfold enG
  have e : (212 + 12 * b - 202) / 12 = b := by omega
  rw [e, if_neg (by omega), if_neg (by omega), if_pos ⟨by omega, h, by omega⟩]
theorem enG_b {ρ : Nat → Int} {s : FS} {mb j : Nat} : enG ρ s (mb + 1) 0 j = if j = 212 + 12 * mb then 0 else if j = 210 + 12 * mb then s.2 mb else enG ρ s mb 0 j := by
  by_cases h1 : j = 212 + 12 * mb
  · rw [if_pos h1, h1, enG_w (by omega)]
  · rw [if_neg h1]
    by_cases h2 : j = 210 + 12 * mb
    · rw [if_pos h2, h2, enG_h (by omega)]
    · rw [if_neg h2]
      unfold enG
      have g : ¬ (10 ≤ j ∧ j < 202 ∧ (j - 10) / 3 < 0 ∧ (j - 10) % 3 = 2) := by omega
      rw [if_neg g, if_neg g]
      by_cases h3 : 202 ≤ j ∧ (j - 202) / 12 < mb + 1 ∧ (j - 202) % 12 = 8
      · rw [if_pos h3, if_pos (show 202 ≤ j ∧ (j - 202) / 12 < mb ∧ (j - 202) % 12 = 8 by omega)]
      · rw [if_neg h3, if_neg (show ¬ (202 ≤ j ∧ (j - 202) / 12 < mb ∧ (j - 202) % 12 = 8) by omega)]
        by_cases h4 : 202 ≤ j ∧ (j - 202) / 12 < mb + 1 ∧ (j - 202) % 12 = 10
        · rw [if_pos h4, if_pos (show 202 ≤ j ∧ (j - 202) / 12 < mb ∧ (j - 202) % 12 = 10 by omega)]
        · rw [if_neg h4, if_neg (show ¬ (202 ≤ j ∧ (j - 202) / 12 < mb ∧ (j - 202) % 12 = 10) by omega)]
theorem enG_c {ρ : Nat → Int} {s : FS} {mb mc j : Nat} (h6 : mc < 64) : enG ρ s mb (mc + 1) j = if j = 12 + 3 * mc then min (s.1 mc + 1) (ρ (11 + 3 * mc)) else enG ρ s mb mc j := by
  by_cases h1 : j = 12 + 3 * mc
  · rw [if_pos h1, h1, enG_f (by omega) h6]
  · rw [if_neg h1]
    unfold enG
    by_cases h3 : 10 ≤ j ∧ j < 202 ∧ (j - 10) / 3 < mc + 1 ∧ (j - 10) % 3 = 2
    · rw [if_pos h3, if_pos (show 10 ≤ j ∧ j < 202 ∧ (j - 10) / 3 < mc ∧ (j - 10) % 3 = 2 by omega)]
    · rw [if_neg h3, if_neg (show ¬ (10 ≤ j ∧ j < 202 ∧ (j - 10) / 3 < mc ∧ (j - 10) % 3 = 2) by omega)]
theorem enG_0 {ρ : Nat → Int} {s : FS} : enG ρ s 0 0 = ρ := by funext j; exact enG_o (by omega) (by omega)
def enR (ρ : Nat → Int) (s : FS) (j : Nat) : Int := if j = 3 then ρ 3 + 1 else enG ρ s (ρ 2).toNat 64 j
theorem en_n {ρ : Nat → Int} {s : FS} {j : Nat} (h : j ≠ 3) : enR ρ s j = enG ρ s (ρ 2).toNat 64 j := if_neg h
theorem en_3 {ρ : Nat → Int} {s : FS} : enR ρ s 3 = ρ 3 + 1 := if_pos rfl
theorem en_tld {ρ : Nat → Int} {s : FS} (h7 : (ρ 2).toNat ≤ 7) : tld ρ (enR ρ s) := fun j h => by
  unfold tldI at h
  have h3 : j ≠ 3 := by omega
  rw [en_n h3]
  generalize (ρ 2).toNat = n at *
  exact enG_o (by omega) (by omega)
theorem en_f {ρ : Nat → Int} {s : FS} {c : Nat} (h : c < 64) : enR ρ s (12 + 3 * c) = min (s.1 c + 1) (ρ (11 + 3 * c)) := by rw [en_n (by omega), enG_f h h]
theorem ltN {b : Nat} {z : Int} (h : (b : Int) < z) : b < z.toNat := by omega
theorem en_h {ρ : Nat → Int} {s : FS} {b : Nat} (h : (b : Int) < ρ 2) : enR ρ s (210 + 12 * b) = s.2 b := by rw [en_n (by omega), enG_h (ltN h)]
theorem en_w {ρ : Nat → Int} {s : FS} {b : Nat} (h : (b : Int) < ρ 2) : enR ρ s (212 + 12 * b) = 0 := by rw [en_n (by omega), enG_w (ltN h)]
theorem en_x {ρ : Nat → Int} {s : FS} {b k : Nat} (hk : k = 203 ∨ k = 204 ∨ k = 211) : enR ρ s (k + 12 * b) = ρ (k + 12 * b) := by
  rw [en_n (by omega)]
  generalize (ρ 2).toNat = n
  exact enG_o (by omega) (by omega)
theorem en_l {ρ : Nat → Int} {s : FS} {k : Nat} (h7 : (ρ 2).toNat ≤ 7) : enR ρ s (292 + 3 * k) = ρ (292 + 3 * k) := by
  rw [en_n (by omega)]
  generalize (ρ 2).toNat = n at *
  exact enG_o (by omega) (by omega)
theorem nmin {f g s : Int} (h1 : 0 ≤ f) (h2 : f ≤ s) : 0 ≤ min (f + 1) s ∧ min (f + 1) s ≤ s := by omega
theorem WF.n7 {ρ : Nat → Int} (w : WF ρ) : (ρ 2).toNat ≤ 7 := by have := w.2.2.1; omega
theorem en_wf {ρ : Nat → Int} {s : FS} (w : WF ρ) (B : FB ρ s) (h3 : ρ 3 < 100000) : WF (enR ρ s) := by
  have w3 := w.2.2.2.1
  refine w.st (en_tld w.n7) (by rw [en_3]; omega) (fun c hc => ?_) (fun b hb => ?_) (fun k hk => ?_)
  · rw [en_f hc]; exact nmin (B.1 c hc).1 (B.1 c hc).2 (g := 0)
  · have hw := w.b hb
    rw [en_x (Or.inl rfl), en_x (Or.inr (Or.inl rfl)), en_h hb, en_x (Or.inr (Or.inr rfl)), en_w hb]
    exact ⟨hw.wa, ⟨Int.le_trans hw.2.2.2.2.2.2.2.2.1.1 (B.2 b hb).1, (B.2 b hb).2⟩, hw.2.2.2.2.2.2.2.2.2.1, by decide⟩
  · rw [en_l w.n7]; exact (w.l hk).2.2
theorem in0 {ρ : Nat → Int} {a n : Nat} (w : WF ρ) (hz : ((a + n : Nat) : Int) ≤ ρ 2) : inB ρ a n 0 0 := fun b b1 b2 => by
  have hb : (b : Int) < ρ 2 := by omega
  have h := w.b hb
  rw [Int.add_zero, Int.add_zero]
  exact ⟨h.x w, h.y w⟩
/-- the class -/
theorem c_hold2 {X : mXX} {d : Nat} {Q : Option mV → mS → Prop} {σ α : Nat → Nat → Int} {ρ : Nat → Int} {b : Nat} (w : WF ρ) (hb : (b : Int) < ρ 2) (e1 : α 26 b = ρ (202 + 12 * b)) (e2 : α 29 b = ρ (207 + 12 * b)) (h : Q (some (vI (hoN ρ b))) (S0, σ, α)) : Ca X (d + 1) 6 [vR 23, vI (b : Int)] (S0, σ, α) Q := by
  have b7 := w.m7 hb
  have h5 := (w.b hb).2.2.2.2.2.1
  refine vc6_0 ?_
  unfold hoN at h
  refine ⟨mInA_n b7, ?_⟩
  rw [Int.toNat_natCast, e1, e2]
  refine ⟨fun q => ⟨mInA_n b7, ?_⟩, fun q => ⟨mInA_n b7, ?_⟩⟩
  · rw [if_neg q] at h; exact h
  · rw [if_pos q] at h
    have e3 : wr ((ρ (207 + 12 * b)).tdiv 2) = (ρ (207 + 12 * b)).tdiv 2 := by
      have h1 := Int.tdiv_nonneg h5.1 (show (0 : Int) ≤ 2 by decide)
      have h2 := Int.tdiv_le_self 2 h5.1
      have h3 := Int.le_trans h2 h5.2
      clear h2 h5 e1 e2 q h
      exact wr_of (by omega) (by omega)
    rw [e3]; exact h
theorem nkp {H h g : Int} (h1 : g ≤ h ∧ h ≤ H) (h2 : 0 ≤ H ∧ H ≤ 99) (h3 : 0 ≤ g) : wr (H - (H - h)) = h := by rw [show H - (H - h) = h by omega]; exact wr_of (by omega) (by omega)
theorem c_keep {X : mXX} {d : Nat} {Q : Option mV → mS → Prop} {σ α : Nat → Nat → Int} {ρ : Nat → Int} {s : FS} {n : Nat} (R : Rep σ α ρ) (w : WF ρ) (B : FB ρ s) (F : CF α ρ s 0 n) (hn : (n : Int) = ρ 2) (hQ : ∀ α', Fα [41, 44] α α' → (∀ c, c < 64 → α' 41 c = s.1 c) → (∀ b, b < n → α' 44 b = s.2 b) → Q none (S0, σ, α')) : Ca X (d + 2) 50 [vR 86] (S0, σ, α) Q := by
  have r2 := R.2.2.1
  refine vc50_0 ?_
  have key : ∀ (m b : Nat) (γ : Nat → Nat → Int), b + m = n → Fα [41, 44] α γ → (∀ c, c < 64 → γ 41 c = s.1 c) → (∀ i, i < b → γ 44 i = s.2 i) → Go X (d + 1) 50 20 [some (vR 86), some (vI (b : Int))] [] (S0, σ, γ) (0, 0) Q := by
    intro m
    induction m with
    | zero =>
      intro b γ hb hf F1 F2
      have e : b = n := hb
      subst e
      exact vc50_20 ⟨fun _ => hQ γ hf F1 F2, fun q => absurd q (by rw [r2]; omega)⟩
    | succ m ih =>
      intro b γ hb hf F1 F2
      have hb2 : (b : Int) < ρ 2 := by omega
      have hb0 : (b : Int) < σ 23 2 := by omega
      have bn : b < 0 + n := by omega
      have b7 := w.m7 hb2
      have ek := wrS (k := b) (by omega)
      have bm : b + 1 + m = n := by omega
      have hs := B.2 b hb2
      have h9 := FB.h99 w hb2
      have h0 := (w.b hb2).2.2.2.2.2.2.2.2.1.1
      have f2 := F.2 b (Nat.zero_le _) bn
      have g88 : γ 88 = α 88 := hf 88 (by decide)
      have g26 : γ 26 = α 26 := hf 26 (by decide)
      have g29 : γ 29 = α 29 := hf 29 (by decide)
      have r := R.b hb2
      refine vc50_20 ⟨fun q => absurd hb0 q, fun _ => ?_⟩
      refine c_hold2 w hb2 (by rw [g26]; exact r.1) (by rw [g29]; exact r.2.2.2.2.2.1) ?_
      refine vc50_47 ⟨mInA_n b7, mInA_n b7, ?_⟩
      rw [Int.toNat_natCast, g88, f2, ek, nkp hs h9 h0]
      refine ih (b + 1) _ bm (hf.tr (Fα.up (by decide))) (fun c hc => by rw [up_o (by decide)]; exact F1 c hc) (fun i hi => ?_)
      rw [up_a]
      by_cases h : i = b
      · rw [if_pos h, h]
      · rw [if_neg h]; exact F2 i (Nat.lt_of_le_of_ne (Nat.le_of_lt_succ hi) h)
  exact key n 0 _ (Nat.zero_add n) (Fα.cp (by decide)) (fun c hc => by rw [cp_s hc]; exact F.1 c hc) (fun i hi => absurd hi (by omega))
theorem nfi {f s M : Int} (h1 : 0 ≤ f) (h2 : f ≤ s) (h3 : s ≤ 99) : wr (f + 1) = f + 1 := wr_of (by omega) (by omega)
theorem c_endH {X : mXX} {d : Nat} {Q : Option mV → mS → Prop} {σ α : Nat → Nat → Int} {ρ : Nat → Int} {s : FS} (w : WF ρ) (B : FB ρ s) (h4 : ∀ c, c < 64 → α 41 c = s.1 c) (h5 : ∀ c, c < 64 → α 25 c = ρ (11 + 3 * c)) (hQ : ∀ α', Fα [41, 45] α α' → (∀ c, c < 64 → α' 41 c = min (s.1 c + 1) (ρ (11 + 3 * c))) → (∀ b, b < 7 → α' 45 b = 0) → Q none (S0, mUp σ 40 1 (wr (σ 40 1 + 1)), α')) : Ca X (d + 2) 59 [vR 40, vR 23] (S0, σ, α) Q := by
  refine vc59_0 ?_
  have key : ∀ (m c : Nat) (γ : Nat → Nat → Int), c + m = 64 → Fα [41, 45] α γ → (∀ i, i < c → γ 41 i = min (s.1 i + 1) (ρ (11 + 3 * i))) → (∀ i, c ≤ i → i < 64 → γ 41 i = s.1 i) → Go X (d + 1) 59 2 [some (vR 40), some (vR 23), some (vI (c : Int))] [] (S0, σ, γ) (0, 0) Q := by
    intro m
    induction m with
    | zero =>
      intro c γ hc hf F1 F2
      have e : c = 64 := hc
      subst e
      refine vc59_2 ⟨fun _ => ?_, fun q => absurd q (by decide)⟩
      refine c_fill45 ?_
      intro δ hd F3
      refine vc59_55 ?_
      exact hQ δ (hf.tr (hd.wk (by decide))) (fun i hi => by rw [hd 41 (by decide)]; exact F1 i hi) F3
    | succ m ih =>
      intro c γ hc hf F1 F2
      have c6 : c < 64 := by omega
      have cl : (c : Int) < 64 := by omega
      have ek := wrS (k := c) (by omega)
      have cm : c + 1 + m = 64 := by omega
      have g25 : γ 25 = α 25 := hf 25 (by decide)
      refine vc59_2 ⟨fun q => absurd cl q, fun _ => ⟨mInA_n c6, mInA_n c6, mInA_n c6, ?_⟩⟩
      rw [Int.toNat_natCast, ek, g25, h5 c c6, F2 c (Nat.le_refl _) c6, nfi (B.1 c c6).1 (B.1 c c6).2 (w.c c6).2.2.2 (M := 0)]
      refine ih (c + 1) _ cm (hf.tr (Fα.up (by decide))) (fun i hi => ?_) (fun i h1 h2 => ?_)
      · rw [up_a]
        by_cases h : i = c
        · rw [if_pos h, h]
        · rw [if_neg h]; exact F1 i (Nat.lt_of_le_of_ne (Nat.le_of_lt_succ hi) h)
      · rw [up_a, if_neg (by omega)]; exact F2 i (Nat.le_of_lt h1) h2
  exact key 64 0 α (Nat.zero_add _) Fα.rf (fun i hi => absurd hi (by omega)) (fun i _ hi => h4 i hi)
def psR (ρ : Nat → Int) (P : List (Int × Int)) : Nat → Int := tearR (goR ρ (ρ 2).toNat) P
def passR (ρ : Nat → Int) (P : List (Int × Int)) : Nat → Int := enR (psR ρ P) (ctF (psR ρ P) 0 (ρ 2).toNat 0 0)
theorem tear_o {ρ : Nat → Int} {P : List (Int × Int)} {j : Nat} (h : ¬ (292 ≤ j ∧ (j - 292) % 3 = 0)) : tearR ρ P j = ρ j := trR_o h
theorem tear_wf {ρ : Nat → Int} {P : List (Int × Int)} (w : WF ρ) : WF (tearR ρ P) := tr_wf w (by have := w.n7; omega)
theorem tear_tld {ρ : Nat → Int} {P : List (Int × Int)} (w : WF ρ) : tld ρ (tearR ρ P) := fun j h => tear_o (by unfold tldI at h; omega)
theorem ps_2 {ρ : Nat → Int} {P : List (Int × Int)} : psR ρ P 2 = ρ 2 ∧ psR ρ P 3 = ρ 3 := by
  unfold psR
  rw [tear_o (by omega), tear_o (by omega)]
  exact ⟨goR_o (fun z => absurd z.1 (by decide)), goR_o (fun z => absurd z.1 (by decide))⟩
theorem ps_wf {ρ : Nat → Int} {P : List (Int × Int)} (w : WF ρ) : WF (psR ρ P) := tear_wf (go_wf w w.n7)
theorem n_z {z : Int} (h : 0 ≤ z) : ((0 + z.toNat : Nat) : Int) = z := by omega
theorem ps_fb {ρ : Nat → Int} {P : List (Int × Int)} (w : WF ρ) : FB (psR ρ P) (ctF (psR ρ P) 0 (ρ 2).toNat 0 0) := by
  have hz : ((0 + (ρ 2).toNat : Nat) : Int) ≤ psR ρ P 2 := by rw [ps_2.1]; exact Int.le_of_eq (n_z w.2.2.1.1)
  exact FB.ct (ps_wf w) hz (in0 (ps_wf w) hz)
theorem pass_wf {ρ : Nat → Int} {P : List (Int × Int)} (w : WF ρ) (h3 : ρ 3 < 100000) : WF (passR ρ P) := en_wf (ps_wf w) (ps_fb w) (by rw [ps_2.2]; exact h3)
theorem pass_tld {ρ : Nat → Int} {P : List (Int × Int)} (w : WF ρ) : tld ρ (passR ρ P) := ((go_tld w.n7).tr (tear_tld (go_wf w w.n7))).tr (en_tld (ps_wf w).n7)
theorem pass_3 {ρ : Nat → Int} {P : List (Int × Int)} : passR ρ P 3 = ρ 3 + 1 := by
  unfold passR
  rw [en_3, ps_2.2]
