def liV (ρ : Nat → Int) (P : List (Int × Int)) (k : Nat) : Nat → Int
  | 0 => ρ (290 + 3 * k)
  | 1 => ρ (291 + 3 * k)
  | 2 => ρ (292 + 3 * k)
  | 3 => if ρ (292 + 3 * k) = 0 then stR (fnR ρ P) (fsN ρ k) (fsN ρ k + szR ρ k - 1) k else -1
  | _ => -1
def liR (ρ : Nat → Int) (P : List (Int × Int)) (k v : Int) : Int := if 0 ≤ k ∧ k + 1 < ρ 2 then (if v < 0 ∨ 3 < v then -1 else liV ρ P k.toNat v.toNat) else -1
theorem p7 {ρ : Nat → Int} {a n : Nat} (w : WF ρ) (h : ((a + n : Nat) : Int) ≤ ρ 2) : a + n ≤ 7 := by have := w.2.2.1.2; omega
theorem fR_e {ρ : Nat → Int} {k : Nat} : fsR ρ (k : Int) = ((fsN ρ k : Nat) : Int) := by unfold fsR; rw [Int.toNat_natCast]
theorem lR_e {ρ : Nat → Int} {k : Nat} (hk : (k : Int) < ρ 2) : laR ρ (k : Int) = ((fsN ρ k + szR ρ k - 1 : Nat) : Int) := by unfold laR; rw [Int.toNat_natCast, (part_n hk).2.2.2]
theorem c_strainNow {X : mXX} {d : Nat} {Q : Option mV → mS → Prop} {σ α : Nat → Nat → Int} {ρ : Nat → Int} {P W : List (Int × Int)} {k : Nat} (C : CI σ α ρ P W) (w : WF ρ) (o : lwO 3 P) (hk : (k : Int) < ρ 2) (hQ : ∀ α', Fα [36, 82, 83, 85] α α' → CI σ α' ρ P W → Q (some (vI (stR (fnR ρ P) (fsN ρ k) (fsN ρ k + szR ρ k - 1) k))) (S0, σ, α')) : Ca X (d + 6) 11 [vR 84, vI (k : Int)] (S0, σ, α) Q := by
  have pn := part_n hk
  have k7 := w.m7 hk
  have f7 : 0 ≤ (k : Int) ∧ (k : Int) < 7 := by omega
  have p0 : 0 < szR ρ k := by omega
  have pz := pn.2.2.1
  have a7 := p7 w pz
  have kk : fsN ρ k ≤ k ∧ k < fsN ρ k + szR ρ k := ⟨pn.1, pn.2.1⟩
  have r3 := C.1.2.2.2.2.2.1
  refine vc11_0 ?_
  refine c_first C.1 f7 ?_
  rw [fR_e]
  refine vc11_5 ?_
  refine c_last C.1 w ⟨f7.1, hk⟩ ?_
  rw [lR_e hk]
  refine vc11_11 ?_
  rw [r3]
  refine c_weigh C w o pz p0 (in0 w pz) (hrW w) (by decide) ?_
  intro β hb Cb bf
  refine vc11_28 ?_
  refine c_strain a7 kk (fun b b1 b2 => fc_bd w (Int.lt_of_lt_of_le (Int.ofNat_lt.mpr b2) pz)) bf ?_
  exact vc11_35 (hQ β hb Cb)
theorem c_link {X : mXX} {d : Nat} {Q : Option mV → mS → Prop} {σ α : Nat → Nat → Int} {ρ : Nat → Int} {P W : List (Int × Int)} {k v : Int} (C : CI σ α ρ P W) (w : WF ρ) (o : lwO 3 P) (hQ : ∀ α', Fα [36, 82, 83, 85] α α' → CI σ α' ρ P W → Q (some (vI (liR ρ P k v))) (S0, σ, α')) : Ca X (d + 7) 103 [vR 0, vI k, vI v] (S0, σ, α) Q := by
  have r2 := C.1.2.2.1
  refine vc103_0 ?_
  refine c_hasLink r2 w.2.2.1 ?_
  unfold liR at hQ
  refine vc103_8 ?_
  by_cases hb : 0 ≤ k ∧ k + 1 < ρ 2
  · rw [if_pos hb] at hQ
    rw [show hlR ρ k = 1 from if_pos hb]
    obtain ⟨n, hn⟩ := Int.eq_ofNat_of_zero_le hb.1
    subst hn
    have hk : (n : Int) < ρ 2 := by omega
    have n6 : n < 6 := by have := w.2.2.1.2; omega
    have j6 : mInA (n : Int) 6 := mInA_n n6
    rw [Int.toNat_natCast] at hQ
    have r := C.1.l n6
    have z := hQ α Fα.rf C
    refine ⟨fun _ => ⟨fun q => ?_, fun q => ?_, fun q => ?_, fun q => ?_, fun q => ?_, trivial⟩, fun q => absurd q (by decide)⟩
    · rw [if_pos q] at z; exact z
    · subst q; rw [if_neg (by decide)] at z; refine ⟨j6, ?_⟩; rw [Int.toNat_natCast, r.1]; exact z
    · subst q; rw [if_neg (by decide)] at z; refine ⟨j6, ?_⟩; rw [Int.toNat_natCast, r.2.1]; exact z
    · subst q; rw [if_neg (by decide)] at z; refine ⟨j6, ?_⟩; rw [Int.toNat_natCast, r.2.2]; exact z
    · subst q
      rw [if_neg (by decide)] at hQ
      refine ⟨j6, ?_⟩
      rw [Int.toNat_natCast, r.2.2]
      refine ⟨fun q => ?_, fun q => ?_⟩
      · refine c_strainNow C w o hk ?_
        intro β hb Cb
        refine vc103_98 ?_
        have z2 := hQ β hb Cb
        rw [show liV ρ P n (0 + 1 + 1 + 1 : Int).toNat = stR (fnR ρ P) (fsN ρ n) (fsN ρ n + szR ρ n - 1) n from if_pos q] at z2
        exact z2
      · refine vc103_98 ?_
        have z2 := hQ α Fα.rf C
        rw [show liV ρ P n (0 + 1 + 1 + 1 : Int).toNat = -1 from if_neg q] at z2
        exact z2
  · rw [if_neg hb] at hQ
    rw [show hlR ρ k = 0 from if_neg hb]
    exact ⟨fun q => absurd rfl q, fun _ => hQ α Fα.rf C⟩
theorem ixLv {k : Nat} {v : Int} (h : k < 6) (h1 : 0 ≤ v) (h2 : v < 3) : wr (wr (290 + wr (3 * (k : Int))) + v) = ((290 + 3 * k + v.toNat : Nat) : Int) := by
  rw [wr_of (x := 3 * (k : Int)) (by omega) (by omega), wr_of (x := 290 + 3 * (k : Int)) (by omega) (by omega), wr_of (by omega) (by omega)]; omega
theorem m_link {X : mXX} {d : Nat} {Q : Option mV → mS → Prop} {σ α : Nat → Nat → Int} {P : List (Int × Int)} {k v : Int} (w : WF (α 110)) (l : lwM α 6 10 P) (o : lwO 3 P) (hQ : ∀ α', Fα [115, 116, 118] α α' → Q (some (vI (liR (α 110) P k v))) (S0, mUp σ 104 0 0, α')) : Ca X (d + 6) 173 [vR 104, vI k, vI v] (S0, σ, α) Q := by
  refine vc173_0 ?_
  refine m_isLink w ?_
  unfold liR at hQ
  by_cases hb : 0 ≤ k ∧ k + 1 < α 110 2
  · rw [if_pos hb] at hQ
    rw [show hlR (α 110) k = 1 from if_pos hb]
    obtain ⟨n, hn⟩ := Int.eq_ofNat_of_zero_le hb.1
    subst hn
    have hk : (n : Int) < α 110 2 := by omega
    have n6 : n < 6 := by have := w.2.2.1.2; omega
    have f6 : 0 ≤ (n : Int) ∧ (n : Int) < 6 := by omega
    have f7 : 0 ≤ (n : Int) ∧ (n : Int) < 7 := by omega
    rw [Int.toNat_natCast] at hQ
    refine vc173_10 ⟨fun q => absurd q (by decide), fun _ => ?_⟩
    refine m_within ?_
    refine vc173_19 ?_
    by_cases hv : v < 0 ∨ 3 < v
    · rw [if_pos hv] at hQ
      rw [wi0 (by omega)]
      exact ⟨fun q => absurd rfl q, fun _ => hQ α Fα.rf⟩
    · rw [if_neg hv] at hQ
      rw [wi1 (by omega)]
      refine ⟨fun _ => ⟨fun q => ?_, fun q => ?_⟩, fun q => absurd q (by decide)⟩
      · have e : v = 3 := by omega
        subst e
        refine m_findForces w l o (by decide) (by decide) ?_
        intro β hf eF
        have z := hQ β hf
        have eb : β 110 = α 110 := hf 110 (by decide)
        have wb : WF (β 110) := by rw [eb]; exact w
        refine vc173_57 ?_
        refine m_torn wb f6 ?_
        unfold tnR
        rw [eb, Int.toNat_natCast]
        refine vc173_62 ⟨fun q => ?_, fun q => ?_⟩
        · refine m_first wb f7 ?_
          rw [eb, fR_e]
          refine vc173_75 ?_
          refine m_last wb (by rw [eb]; exact ⟨f7.1, hk⟩) ?_
          rw [eb, lR_e hk]
          refine vc173_80 ?_
          have pn := part_n hk
          have a7 := p7 w pn.2.2.1
          refine m_strain (F := fnR (α 110) P) a7 ⟨pn.1, pn.2.1⟩ (fun b b1 b2 => fc_bd w (Int.lt_of_lt_of_le (Int.ofNat_lt.mpr b2) pn.2.2.1)) (fun b b1 b2 => eF b (Int.lt_of_lt_of_le (Int.ofNat_lt.mpr b2) pn.2.2.1)) ?_
          refine vc173_84 ?_
          rw [show liV (α 110) P n (3 : Int).toNat = stR (fnR (α 110) P) (fsN (α 110) n) (fsN (α 110) n + szR (α 110) n - 1) n from if_pos q] at z
          exact z
        · refine vc173_84 ?_
          rw [show liV (α 110) P n (3 : Int).toNat = -1 from if_neg q] at z
          exact z
      · have z := hQ α Fα.rf
        have e : v = 0 ∨ v = 1 ∨ v = 2 := by omega
        have ii : 290 + 3 * n + v.toNat < 2240 := by omega
        rw [ixLv n6 (by omega) q]
        refine ⟨mInA_n ii, ?_⟩
        rw [Int.toNat_natCast]
        rcases e with e | e | e <;> subst e
        · exact z
        · rw [show 290 + 3 * n + (1 : Int).toNat = 291 + 3 * n by show 290 + 3 * n + 1 = 291 + 3 * n; omega]; exact z
        · rw [show 290 + 3 * n + (2 : Int).toNat = 292 + 3 * n by show 290 + 3 * n + 2 = 292 + 3 * n; omega]; exact z
  · rw [if_neg hb] at hQ
    rw [show hlR (α 110) k = 0 from if_neg hb]
    exact vc173_10 ⟨fun _ => hQ α Fα.rf, fun q => absurd rfl q⟩
