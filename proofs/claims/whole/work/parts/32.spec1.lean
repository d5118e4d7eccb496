/-! The bay as a row of numbers (the reference's own), and the small questions about it -/
def dst (a b : Int) : Int := if a < b then b - a else a - b
def ooR (ρ : Nat → Int) (b k : Int) : Int := ρ (202 + 12 * b.toNat + k.toNat)
def tnR (ρ : Nat → Int) (k : Int) : Int := ρ (292 + 3 * k.toNat)
def sgR (ρ : Nat → Int) (k : Int) : Int := ρ (291 + 3 * k.toNat)
def lnR (ρ : Nat → Int) (k : Int) : Int := ρ (290 + 3 * k.toNat)
def rkR (ρ : Nat → Int) (x y : Int) : Int := ρ (10 + 3 * (8 * y + x).toNat)
def inR (ρ : Nat → Int) (x y : Int) : Int := if 0 ≤ x ∧ x < ρ 0 ∧ 0 ≤ y ∧ y < ρ 1 then 1 else 0
def waR (ρ : Nat → Int) (x y : Int) : Int := if 0 ≤ x ∧ x < ρ 0 ∧ 0 ≤ y ∧ y < ρ 1 ∧ rkR ρ x y = 0 then 1 else 0
def holR (ρ : Nat → Int) (b : Int) : Int := if ooR ρ b 0 = 3 then (ooR ρ b 5).tdiv 2 else ooR ρ b 5
def pulR (ρ : Nat → Int) (b : Int) : Int := ooR ρ b 6 + (if ooR ρ b 0 = 2 then 5 else 0)
def apR (ρ : Nat → Int) (k : Int) : Int := dst (ooR ρ k 1) (ooR ρ (k + 1) 1) + dst (ooR ρ k 2) (ooR ρ (k + 1) 2)
def fsN (ρ : Nat → Int) : Nat → Nat
  | 0 => 0
  | b + 1 => if ρ (292 + 3 * b) = 0 then fsN ρ b else b + 1
def laN (ρ : Nat → Int) : Nat → Nat → Nat
  | 0, b => b
  | f + 1, b => if ρ (292 + 3 * b) = 0 then laN ρ f (b + 1) else b
def fsR (ρ : Nat → Int) (b : Int) : Int := fsN ρ b.toNat
def laR (ρ : Nat → Int) (b : Int) : Int := laN ρ ((ρ 2).toNat - 1 - b.toNat) b.toNat
/-- what the numbers of a bay are -/
def BW (ρ : Nat → Int) (b : Nat) : Prop :=
  (0 ≤ ρ (202 + 12 * b) ∧ ρ (202 + 12 * b) ≤ 4) ∧ (0 ≤ ρ (203 + 12 * b) ∧ ρ (203 + 12 * b) < ρ 0) ∧ (0 ≤ ρ (204 + 12 * b) ∧ ρ (204 + 12 * b) < ρ 1) ∧
  (0 ≤ ρ (205 + 12 * b) ∧ ρ (205 + 12 * b) < 8) ∧ (0 ≤ ρ (206 + 12 * b) ∧ ρ (206 + 12 * b) < 8) ∧ (0 ≤ ρ (207 + 12 * b) ∧ ρ (207 + 12 * b) ≤ 99) ∧ (0 ≤ ρ (208 + 12 * b) ∧ ρ (208 + 12 * b) ≤ 99) ∧
  (0 ≤ ρ (209 + 12 * b) ∧ ρ (209 + 12 * b) ≤ 9) ∧ (0 ≤ ρ (210 + 12 * b) ∧ ρ (210 + 12 * b) ≤ (if ρ (202 + 12 * b) = 3 then (ρ (207 + 12 * b)).tdiv 2 else ρ (207 + 12 * b))) ∧ (0 ≤ ρ (211 + 12 * b) ∧ ρ (211 + 12 * b) ≤ 999) ∧ (0 ≤ ρ (212 + 12 * b) ∧ ρ (212 + 12 * b) ≤ 4) ∧
  ρ (10 + 3 * (8 * ρ (204 + 12 * b) + ρ (203 + 12 * b)).toNat) = 0
def WF (ρ : Nat → Int) : Prop :=
  (2 ≤ ρ 0 ∧ ρ 0 ≤ 8) ∧ (2 ≤ ρ 1 ∧ ρ 1 ≤ 8) ∧ (0 ≤ ρ 2 ∧ ρ 2 ≤ 7) ∧ (0 ≤ ρ 3 ∧ ρ 3 ≤ 100000) ∧ (0 ≤ ρ 4 ∧ ρ 4 ≤ 50) ∧ (0 ≤ ρ 5 ∧ ρ 5 ≤ 99) ∧
  (∀ c : Nat, c < 64 → (ρ (10 + 3 * c) = 0 ∨ ρ (10 + 3 * c) = 1) ∧ 0 ≤ ρ (12 + 3 * c) ∧ ρ (12 + 3 * c) ≤ ρ (11 + 3 * c) ∧ ρ (11 + 3 * c) ≤ 99) ∧
  (∀ b : Nat, (b : Int) < ρ 2 → BW ρ b) ∧
  (∀ k : Nat, k < 6 → (1 ≤ ρ (290 + 3 * k) ∧ ρ (290 + 3 * k) ≤ 9) ∧ (0 ≤ ρ (291 + 3 * k) ∧ ρ (291 + 3 * k) ≤ 99) ∧ (ρ (292 + 3 * k) = 0 ∨ ρ (292 + 3 * k) = 1))
/-- the class' cells hold this bay -/
def Rep (σ α : Nat → Nat → Int) (ρ : Nat → Int) : Prop :=
  σ 23 0 = ρ 0 ∧ σ 23 1 = ρ 1 ∧ σ 23 2 = ρ 2 ∧ σ 23 3 = ρ 4 ∧ σ 23 4 = ρ 5 ∧ σ 40 1 = ρ 3 ∧
  (∀ c : Nat, c < 64 → α 24 c = ρ (10 + 3 * c) ∧ α 25 c = ρ (11 + 3 * c) ∧ α 41 c = ρ (12 + 3 * c)) ∧
  (∀ b : Nat, (b : Int) < ρ 2 → α 26 b = ρ (202 + 12 * b) ∧ α 42 b = ρ (203 + 12 * b) ∧ α 43 b = ρ (204 + 12 * b) ∧ α 27 b = ρ (205 + 12 * b) ∧ α 28 b = ρ (206 + 12 * b) ∧ α 29 b = ρ (207 + 12 * b) ∧ α 30 b = ρ (208 + 12 * b) ∧ α 31 b = ρ (209 + 12 * b) ∧ α 44 b = ρ (210 + 12 * b) ∧ α 46 b = ρ (211 + 12 * b) ∧ α 45 b = ρ (212 + 12 * b)) ∧
  (∀ k : Nat, k < 6 → α 32 k = ρ (290 + 3 * k) ∧ α 33 k = ρ (291 + 3 * k) ∧ α 47 k = ρ (292 + 3 * k))
/-- the reference's leaves -/
theorem m_of {X : mXX} {d : Nat} {Q : Option mV → mS → Prop} {σ α : Nat → Nat → Int} {b k : Int} (hb : 0 ≤ b ∧ b < 7) (h : Q (some (vI (ooR (α 110) b k))) (S0, σ, α)) (hk : 0 ≤ k ∧ k < 12 := by decide) : Ca X (d + 1) 161 [vR 104, vI b, vI k] (S0, σ, α) Q := by
  refine vc161_0 ?_
  have e : wr (wr (202 + wr (12 * b)) + k) = 202 + 12 * b + k := by unfold wr; omega
  rw [e]
  refine ⟨by unfold mInA; omega, ?_⟩
  have e2 : (202 + 12 * b + k).toNat = 202 + 12 * b.toNat + k.toNat := by omega
  rw [e2]
  exact h
theorem m_steps {X : mXX} {d : Nat} {Q : Option mV → mS → Prop} {σ α : Nat → Nat → Int} {a b : Int} (hb : (-1000 ≤ a ∧ a ≤ 1000) ∧ -1000 ≤ b ∧ b ≤ 1000) (h : Q (some (vI (dst a b))) (S0, σ, α)) : Ca X (d + 1) 162 [vI a, vI b] (S0, σ, α) Q := by
  refine vc162_0 ?_
  unfold dst at h
  refine ⟨fun h1 => ?_, fun h1 => ?_⟩
  · rw [if_neg h1] at h; rw [wr_of (by omega) (by omega)]; exact h
  · rw [if_pos h1] at h; rw [wr_of (by omega) (by omega)]; exact h
theorem m_torn {X : mXX} {d : Nat} {Q : Option mV → mS → Prop} {σ α : Nat → Nat → Int} {k : Int} (w : WF (α 110)) (hb : 0 ≤ k ∧ k < 6) (h : Q (some (vI (tnR (α 110) k))) (S0, σ, α)) : Ca X (d + 1) 172 [vR 104, vI k] (S0, σ, α) Q := by
  refine vc172_0 ?_
  have e : wr (wr (290 + wr (3 * k)) + 2) = 292 + 3 * k := by unfold wr; omega
  rw [e]
  refine ⟨by unfold mInA; omega, ?_⟩
  have e2 : (292 + 3 * k).toNat = 292 + 3 * k.toNat := by omega
  rw [e2]
  have w1 := (w.2.2.2.2.2.2.2.2 k.toNat (by omega)).2.2
  unfold tnR at h
  rcases w1 with w1 | w1
  · rw [w1] at h; exact ⟨fun _ => h, fun q => absurd q (by rw [w1]; decide)⟩
  · rw [w1] at h; exact ⟨fun q => absurd w1 q, fun _ => h⟩
theorem m_strong {X : mXX} {d : Nat} {Q : Option mV → mS → Prop} {σ α : Nat → Nat → Int} {k : Int} (hb : 0 ≤ k ∧ k < 6) (h : Q (some (vI (sgR (α 110) k))) (S0, σ, α)) : Ca X (d + 1) 191 [vR 104, vI k] (S0, σ, α) Q := by
  refine vc191_0 ?_
  have e : wr (wr (290 + wr (3 * k)) + 1) = 291 + 3 * k := by unfold wr; omega
  rw [e]
  refine ⟨by unfold mInA; omega, ?_⟩
  have e2 : (291 + 3 * k).toNat = 291 + 3 * k.toNat := by omega
  rw [e2]
  exact h
theorem m_isIn {X : mXX} {d : Nat} {Q : Option mV → mS → Prop} {σ α : Nat → Nat → Int} {x y : Int} (h : Q (some (vI (inR (α 110) x y))) (S0, σ, α)) : Ca X (d + 1) 180 [vR 104, vI x, vI y] (S0, σ, α) Q := by
  refine vc180_0 ?_
  unfold inR at h
  refine ⟨fun h1 => ?_, fun h1 => ⟨fun h2 => ?_, fun h2 => ⟨fun h3 => ?_, fun h3 => ⟨fun h4 => ?_, fun h4 => ?_⟩⟩⟩⟩
  · rw [if_neg (by omega)] at h; exact h
  · rw [if_neg (by omega)] at h; exact h
  · rw [if_neg (by omega)] at h; exact h
  · rw [if_neg (by omega)] at h; exact h
  · rw [if_pos (by omega)] at h; exact h
theorem m_isWater {X : mXX} {d : Nat} {Q : Option mV → mS → Prop} {σ α : Nat → Nat → Int} {x y : Int} (w : WF (α 110)) (h : Q (some (vI (waR (α 110) x y))) (S0, σ, α)) : Ca X (d + 2) 188 [vR 104, vI x, vI y] (S0, σ, α) Q := by
  refine vc188_0 ?_
  refine m_isIn ?_
  refine vc188_6 ?_
  obtain ⟨w0, w1, -⟩ := w
  unfold inR
  unfold waR at h
  by_cases hi : 0 ≤ x ∧ x < α 110 0 ∧ 0 ≤ y ∧ y < α 110 1
  · rw [if_pos hi]
    refine ⟨fun q => absurd q (by decide), fun _ => ?_⟩
    have e : wr (10 + wr (3 * wr (wr (8 * y) + x))) = 10 + 3 * (8 * y + x) := by unfold wr; omega
    rw [e]
    refine ⟨by unfold mInA; omega, ?_⟩
    have e2 : (10 + 3 * (8 * y + x)).toNat = 10 + 3 * (8 * y + x).toNat := by omega
    rw [e2]
    refine ⟨fun q => ?_, fun q => ?_⟩
    · rw [if_neg (fun z => q z.2.2.2.2)] at h; exact h
    · rw [if_pos ⟨hi.1, hi.2.1, hi.2.2.1, hi.2.2.2, q⟩] at h; exact h
  · rw [if_neg hi]
    refine ⟨fun _ => ?_, fun q => absurd rfl q⟩
    rw [if_neg (fun z => hi ⟨z.1, z.2.1, z.2.2.1, z.2.2.2.1⟩)] at h
    exact h
theorem m_holds {X : mXX} {d : Nat} {Q : Option mV → mS → Prop} {σ α : Nat → Nat → Int} {b : Int} (w : WF (α 110)) (hb : 0 ≤ b ∧ b < α 110 2) (h : Q (some (vI (holR (α 110) b))) (S0, σ, α)) : Ca X (d + 2) 165 [vR 104, vI b] (S0, σ, α) Q := by
  have hn := w.2.2.1
  have hbw := w.2.2.2.2.2.2.2.1 b.toNat (by omega)
  refine vc165_0 ?_
  refine m_of ⟨hb.1, by omega⟩ ?_
  refine vc165_6 ?_
  unfold holR at h
  refine ⟨fun q => ?_, fun q => ?_⟩
  · refine m_of ⟨hb.1, by omega⟩ ?_
    refine vc165_27 ?_
    rw [if_neg q] at h; exact h
  · refine m_of ⟨hb.1, by omega⟩ ?_
    refine vc165_16 ?_
    refine vc165_27 ?_
    rw [if_pos q] at h
    have hh : 0 ≤ ooR (α 110) b 5 ∧ ooR (α 110) b 5 ≤ 99 := by
      have := hbw.2.2.2.2.2.1
      have e : ooR (α 110) b 5 = α 110 (207 + 12 * b.toNat) := by unfold ooR; congr 1; omega
      rw [e]; exact this
    have e3 : wr ((ooR (α 110) b 5).tdiv 2) = (ooR (α 110) b 5).tdiv 2 := by
      apply wr_of
      · have := Int.tdiv_nonneg hh.1 (show (0 : Int) ≤ 2 by decide); omega
      · have := Int.tdiv_le_self 2 hh.1; omega
    rw [e3]; exact h
theorem m_pull {X : mXX} {d : Nat} {Q : Option mV → mS → Prop} {σ α : Nat → Nat → Int} {b : Int} (w : WF (α 110)) (hb : 0 ≤ b ∧ b < α 110 2) (h : Q (some (vI (pulR (α 110) b))) (S0, σ, α)) : Ca X (d + 2) 170 [vR 104, vI b] (S0, σ, α) Q := by
  sorry
