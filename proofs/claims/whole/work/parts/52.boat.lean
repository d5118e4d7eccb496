/-! What is asked of a boat, a link, a cell -/
def hbR (ρ : Nat → Int) (b : Int) : Int := if 0 ≤ b ∧ b < ρ 2 then 1 else 0
theorem c_hasBoat {X : mXX} {d : Nat} {Q : Option mV → mS → Prop} {σ α : Nat → Nat → Int} {ρ : Nat → Int} {b : Int} (e2 : σ 23 2 = ρ 2) (h : Q (some (vI (hbR ρ b))) (S0, σ, α)) : Ca X (d + 1) 5 [vR 23, vI b] (S0, σ, α) Q := by
  refine vc5_0 ?_
  unfold hbR at h
  rw [e2]
  refine ⟨fun q => ?_, fun q => ⟨fun q2 => ?_, fun q2 => ?_⟩⟩
  · rw [if_neg (by omega)] at h; exact h
  · rw [if_neg (by omega)] at h; exact h
  · rw [if_pos (by omega)] at h; exact h
theorem m_isBoat {X : mXX} {d : Nat} {Q : Option mV → mS → Prop} {σ α : Nat → Nat → Int} {b : Int} (h : Q (some (vI (hbR (α 110) b))) (S0, σ, α)) : Ca X (d + 2) 164 [vR 104, vI b] (S0, σ, α) Q := by
  refine vc164_0 ?_
  unfold hbR at h
  refine ⟨fun q => ?_, fun q => ?_⟩
  · rw [if_neg (by omega)] at h; exact h
  · refine vc159_0 ?_
    refine vc164_9 ⟨fun q2 => ?_, fun q2 => ?_⟩
    · rw [if_neg (by omega)] at h; exact h
    · rw [if_pos (by omega)] at h; exact h
def hlR (ρ : Nat → Int) (k : Int) : Int := if 0 ≤ k ∧ k + 1 < ρ 2 then 1 else 0
theorem c_hasLink {X : mXX} {d : Nat} {Q : Option mV → mS → Prop} {σ α : Nat → Nat → Int} {ρ : Nat → Int} {k : Int} (e2 : σ 23 2 = ρ 2) (h7 : 0 ≤ ρ 2 ∧ ρ 2 ≤ 7) (h : Q (some (vI (hlR ρ k))) (S0, σ, α)) : Ca X (d + 1) 3 [vR 23, vI k] (S0, σ, α) Q := by
  refine vc3r23_0 ?_
  unfold hlR at h
  rw [e2, wr_of (by omega) (by omega)]
  refine ⟨fun q => ?_, fun q => ⟨fun q2 => ?_, fun q2 => ?_⟩⟩
  · rw [if_neg (by omega)] at h; exact h
  · rw [if_neg (by omega)] at h; exact h
  · rw [if_pos (by omega)] at h; exact h
theorem m_isLink {X : mXX} {d : Nat} {Q : Option mV → mS → Prop} {σ α : Nat → Nat → Int} {k : Int} (w : WF (α 110)) (h : Q (some (vI (hlR (α 110) k))) (S0, σ, α)) : Ca X (d + 3) 174 [vR 104, vI k] (S0, σ, α) Q := by
  have w2 := w.2.2.1
  refine vc174_0 ?_
  unfold hlR at h
  refine ⟨fun q => ?_, fun q => ?_⟩
  · rw [if_neg (by omega)] at h; exact h
  · refine m_links w ?_
    refine vc174_9 ⟨fun q2 => ?_, fun q2 => ?_⟩
    · rw [if_neg (by omega)] at h; exact h
    · rw [if_pos (by omega)] at h; exact h
def boV (ρ : Nat → Int) (P : List (Int × Int)) (b : Nat) : Nat → Int
  | 0 => ρ (202 + 12 * b)
  | 1 => ρ (203 + 12 * b)
  | 2 => ρ (204 + 12 * b)
  | 3 => ρ (210 + 12 * b)
  | 4 => hoN ρ b
  | 5 => frR ρ P b (ρ (203 + 12 * b)) (ρ (204 + 12 * b)) (ρ 3) 0
  | 6 => fsN ρ b
  | 7 => ρ (209 + 12 * b)
  | 8 => ρ (211 + 12 * b)
  | _ => -1
def boR (ρ : Nat → Int) (P : List (Int × Int)) (b v : Int) : Int := if 0 ≤ b ∧ b < ρ 2 then (if v < 0 ∨ 8 < v then -1 else boV ρ P b.toNat v.toNat) else -1
theorem c_boat {X : mXX} {d : Nat} {Q : Option mV → mS → Prop} {σ α : Nat → Nat → Int} {ρ : Nat → Int} {P W : List (Int × Int)} {b v : Int} (C : CI σ α ρ P W) (w : WF ρ) (o : lwO 3 P) (hQ : ∀ α', Fα [36, 82, 83] α α' → CI σ α' ρ P W → Q (some (vI (boR ρ P b v))) (S0, σ, α')) : Ca X (d + 5) 101 [vR 0, vI b, vI v] (S0, σ, α) Q := by
  have r2 := C.1.2.2.1
  have r3 := C.1.2.2.2.2.2.1
  refine vc101_0 ?_
  refine c_hasBoat r2 ?_
  unfold boR at hQ
  refine vc101_8 ?_
  by_cases hb : 0 ≤ b ∧ b < ρ 2
  · rw [if_pos hb] at hQ
    rw [show hbR ρ b = 1 from if_pos hb]
    obtain ⟨n, hn⟩ := Int.eq_ofNat_of_zero_le hb.1
    subst hn
    have b7 := w.m7 hb.2
    have j7 : mInA (n : Int) 7 := mInA_n b7
    have f7 : 0 ≤ (n : Int) ∧ (n : Int) < 7 := by have := hb.1; omega
    rw [Int.toNat_natCast] at hQ
    have r := C.1.b hb.2
    have hw := w.b hb.2
    have x1 := hw.x w
    have y1 := hw.y w
    have z := hQ α Fα.rf C
    refine ⟨fun _ => ⟨fun q => ?_, fun q => ?_, fun q => ?_, fun q => ?_, fun q => ?_, fun q => ?_, fun q => ?_, fun q => ?_, fun q => ?_, fun q => ?_, trivial⟩, fun q => absurd q (by decide)⟩
    · rw [if_pos q] at z; exact z
    · subst q; rw [if_neg (by decide)] at z; refine ⟨j7, ?_⟩; rw [Int.toNat_natCast, r.1]; exact z
    · subst q; rw [if_neg (by decide)] at z; refine ⟨j7, ?_⟩; rw [Int.toNat_natCast, r.2.1]; exact z
    · subst q; rw [if_neg (by decide)] at z; refine ⟨j7, ?_⟩; rw [Int.toNat_natCast, r.2.2.1]; exact z
    · subst q; rw [if_neg (by decide)] at z; refine ⟨j7, ?_⟩; rw [Int.toNat_natCast, r.2.2.2.2.2.2.2.2.1]; exact z
    · subst q; rw [if_neg (by decide)] at z
      refine c_holds C.1 w hb ?_
      rw [ho_N]
      exact vc101_112 z
    · subst q
      rw [if_neg (by decide)] at hQ
      refine ⟨j7, j7, ?_⟩
      rw [Int.toNat_natCast, r.2.1, r.2.2.1, r3]
      refine c_force C w o hb x1 y1 (hrW w) (by decide) ?_
      intro α' hf C'
      exact vc101_147 (hQ α' hf C')
    · subst q; rw [if_neg (by decide)] at z
      refine c_first C.1 f7 ?_
      exact vc101_156 z
    · subst q; rw [if_neg (by decide)] at z; refine ⟨j7, ?_⟩; rw [Int.toNat_natCast, r.2.2.2.2.2.2.2.1]; exact z
    · subst q; rw [if_neg (by decide)] at z; refine ⟨j7, ?_⟩; rw [Int.toNat_natCast, r.2.2.2.2.2.2.2.2.2.1]; exact z
  · rw [if_neg hb] at hQ
    rw [show hbR ρ b = 0 from if_neg hb]
    exact ⟨fun q => absurd rfl q, fun _ => hQ α Fα.rf C⟩
theorem m_boat {X : mXX} {d : Nat} {Q : Option mV → mS → Prop} {σ α : Nat → Nat → Int} {P : List (Int × Int)} {b v : Int} (w : WF (α 110)) (l : lwM α 6 10 P) (o : lwO 3 P) (hQ : ∀ α', Fα [115, 116] α α' → Q (some (vI (boR (α 110) P b v))) (S0, mUp σ 104 0 0, α')) : Ca X (d + 5) 163 [vR 104, vI b, vI v] (S0, σ, α) Q := by
  refine vc163_0 ?_
  refine m_isBoat ?_
  unfold boR at hQ
  refine vc163_10 ?_
  by_cases hb : 0 ≤ b ∧ b < α 110 2
  · rw [if_pos hb] at hQ
    rw [show hbR (α 110) b = 1 from if_pos hb]
    obtain ⟨n, hn⟩ := Int.eq_ofNat_of_zero_le hb.1
    subst hn
    have b7 := w.m7 hb.2
    have f7 : 0 ≤ (n : Int) ∧ (n : Int) < 7 := by have := hb.1; omega
    rw [Int.toNat_natCast] at hQ
    have z := hQ α Fα.rf
    refine ⟨fun _ => ⟨fun q => ?_, fun q => ?_, fun q => ?_, fun q => ?_, fun q => ?_, fun q => ?_, fun q => ?_, fun q => ?_, fun q => ?_, fun q => ?_, trivial⟩, fun q => absurd q (by decide)⟩
    · rw [if_pos q] at z; exact z
    · subst q; rw [if_neg (by decide)] at z; refine m_of f7 ?_; rw [oo0]; exact vc163_74 z
    · subst q; rw [if_neg (by decide)] at z; refine m_of f7 ?_; rw [oo1]; exact vc163_81 z
    · subst q; rw [if_neg (by decide)] at z; refine m_of f7 ?_; rw [oo2]; exact vc163_88 z
    · subst q; rw [if_neg (by decide)] at z; refine m_of f7 ?_; rw [oo8]; exact vc163_96 z
    · subst q; rw [if_neg (by decide)] at z
      refine m_holds w hb ?_
      rw [ho_N]
      exact vc163_102 z
    · subst q
      rw [if_neg (by decide)] at hQ
      refine m_of f7 ?_
      rw [oo1]
      refine vc163_111 ?_
      refine m_of f7 ?_
      rw [oo2]
      refine vc163_117 ?_
      refine m_forceAt w l o hb (by decide) ?_
      intro α' hf
      exact vc163_127 (hQ α' hf)
    · subst q; rw [if_neg (by decide)] at z
      refine m_first w f7 ?_
      exact vc163_133 z
    · subst q; rw [if_neg (by decide)] at z; refine m_of f7 ?_; rw [oo7]; exact vc163_141 z
    · subst q; rw [if_neg (by decide)] at z; refine m_of f7 ?_; rw [oo9]; exact vc163_149 z
  · rw [if_neg hb] at hQ
    rw [show hbR (α 110) b = 0 from if_neg hb]
    exact ⟨fun q => absurd rfl q, fun _ => hQ α Fα.rf⟩
