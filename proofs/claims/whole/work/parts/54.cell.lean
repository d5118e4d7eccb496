theorem iOr0 {x : Int} (h : r32 x) : iOr x 0 = x := by
  unfold iOr
  rw [show Int32.ofInt 0 = 0 from rfl, Int32.or_zero, i32_of h]
def btR (ρ : Nat → Int) (x y : Int) : Nat → Int
  | 0 => 0
  | n + 1 => if ρ (203 + 12 * n) = x ∧ ρ (204 + 12 * n) = y then iOr (btR ρ x y n) (iShl 1 (n : Int)) else btR ρ x y n
theorem bt_r {ρ : Nat → Int} {x y : Int} : ∀ {n : Nat}, r32 (btR ρ x y n)
  | 0 => by unfold r32 btR; decide
  | n + 1 => by
    unfold btR
    split
    · exact i32_r _
    · exact bt_r
theorem c_boatsAt {X : mXX} {d : Nat} {Q : Option mV → mS → Prop} {σ α : Nat → Nat → Int} {ρ : Nat → Int} {x y : Int} (R : Rep σ α ρ) (w : WF ρ) (hQ : Q (some (vI (btR ρ x y (ρ 2).toNat))) (S0, σ, α)) : Ca X (d + 1) 105 [vR 0, vI x, vI y] (S0, σ, α) Q := by
  have r2 := R.2.2.1
  have w2 := w.2.2.1
  refine vc105_0 ?_
  have key : ∀ (m j : Nat), ((j + m : Nat) : Int) = ρ 2 → Go X d 105 5 [some (vR 0), some (vI x), some (vI y), some (vI (btR ρ x y j)), some (vI (j : Int))] [] (S0, σ, α) (0, 0) Q := by
    intro m
    induction m with
    | zero =>
      intro j hj
      have e : (ρ 2).toNat = j := by omega
      have nj : ¬ (j : Int) < ρ 2 := by omega
      rw [e] at hQ
      exact vc105_5 ⟨fun _ => hQ, fun q => absurd q (by rw [r2]; exact nj)⟩
    | succ m ih =>
      intro j hj
      have hb : (j : Int) < ρ 2 := by omega
      have jm : ((j + 1 + m : Nat) : Int) = ρ 2 := by omega
      have b7 := w.m7 hb
      have ek := wrS (k := j) (by omega)
      have i1 := ih (j + 1) jm
      have r := R.b hb
      have go0 : ¬ (ρ (203 + 12 * j) = x ∧ ρ (204 + 12 * j) = y) → Go X d 105 5 [some (vR 0), some (vI x), some (vI y), some (vI (btR ρ x y j)), some (vI ((j + 1 : Nat) : Int))] [] (S0, σ, α) (0, 0) Q := by
        intro h
        rw [show btR ρ x y (j + 1) = btR ρ x y j from if_neg h] at i1
        exact i1
      refine vc105_5 ⟨fun q => absurd (by rw [r2]; exact hb) q, fun _ => ⟨mInA_n b7, ?_⟩⟩
      rw [Int.toNat_natCast, r.2.1, r.2.2.1, ek]
      refine ⟨fun q => go0 (fun z => q z.1), fun q => ⟨mInA_n b7, fun q2 => go0 (fun z => q2 z.2), fun q2 => ?_⟩⟩
      rw [show btR ρ x y (j + 1) = iOr (btR ρ x y j) (iShl 1 (j : Int)) from if_pos ⟨q, q2⟩] at i1
      exact i1
  exact key (ρ 2).toNat 0 (n_z w2.1)
def ceV (ρ : Nat → Int) (P : List (Int × Int)) (x y : Int) : Nat → Int
  | 0 => ρ (12 + 3 * clN x y)
  | 1 => swV P x y ((ρ 3).tmod 24)
  | 2 => ρ (10 + 3 * clN x y)
  | 3 => btR ρ x y (ρ 2).toNat
  | _ => -1
def ceR (ρ : Nat → Int) (P : List (Int × Int)) (x y v : Int) : Int := if 0 ≤ x ∧ x < ρ 0 ∧ 0 ≤ y ∧ y < ρ 1 then (if v < 0 ∨ 3 < v then -1 else ceV ρ P x y v.toNat) else -1
theorem c_cell {X : mXX} {d : Nat} {Q : Option mV → mS → Prop} {σ α : Nat → Nat → Int} {ρ : Nat → Int} {P W : List (Int × Int)} {x y v : Int} (C : CI σ α ρ P W) (w : WF ρ) (o : lwO 3 P) (hQ : ∀ α', Fα [36, 82, 83] α α' → CI σ α' ρ P W → Q (some (vI (ceR ρ P x y v))) (S0, σ, α')) : Ca X (d + 4) 104 [vR 0, vI x, vI y, vI v] (S0, σ, α) Q := by
  have r3 := C.1.2.2.2.2.2.1
  refine vc104_0 ?_
  refine c_inside C.1 ?_
  unfold ceR at hQ
  refine vc104_9 ?_
  by_cases hb : 0 ≤ x ∧ x < ρ 0 ∧ 0 ≤ y ∧ y < ρ 1
  · rw [if_pos hb] at hQ
    rw [show inR ρ x y = 1 from if_pos hb]
    have w0 := w.1.2
    have w1 := w.2.1.2
    have hx : 0 ≤ x ∧ x < 8 := by omega
    have hy : 0 ≤ y ∧ y < 8 := by omega
    have c6 := cl64 hx hy
    have r := C.1.c c6
    have z := hQ α Fα.rf C
    refine ⟨fun _ => ⟨fun q => ?_, fun q => ?_, fun q => ?_, fun q => ?_, fun q => ?_, trivial⟩, fun q => absurd q (by decide)⟩
    · rw [if_pos q] at z; exact z
    · subst q; rw [if_neg (by decide)] at z; rw [ixC hx hy]; refine ⟨mInA_n c6, ?_⟩; rw [Int.toNat_natCast, r.2.2]; exact z
    · subst q
      rw [if_neg (by decide)] at hQ
      rw [r3]
      refine c_swell C o hx hy (hrW w) ?_
      intro β hf Cb
      exact vc104_75 (hQ β hf Cb)
    · subst q; rw [if_neg (by decide)] at z; rw [ixC hx hy]; refine ⟨mInA_n c6, ?_⟩; rw [Int.toNat_natCast, r.1]; exact z
    · subst q; rw [if_neg (by decide)] at z
      refine c_boatsAt C.1 w ?_
      exact vc104_97 z
  · rw [if_neg hb] at hQ
    rw [show inR ρ x y = 0 from if_neg hb]
    exact ⟨fun q => absurd rfl q, fun _ => hQ α Fα.rf C⟩
theorem sw0 {P : List (Int × Int)} {x y h : Int} : min 99 (swV P x y h + 0) = swV P x y h := by
  have := swV_le (P := P) (x := x) (y := y) (h := h)
  generalize swV P x y h = v at *
  omega
theorem m_cell {X : mXX} {d : Nat} {Q : Option mV → mS → Prop} {σ α : Nat → Nat → Int} {P : List (Int × Int)} {x y v : Int} (w : WF (α 110)) (l : lwM α 6 10 P) (o : lwO 3 P) (hQ : ∀ α', Fα [115, 116] α α' → Q (some (vI (ceR (α 110) P x y v))) (S0, mUp σ 104 0 0, α')) : Ca X (d + 4) 179 [vR 104, vI x, vI y, vI v] (S0, σ, α) Q := by
  refine vc179_0 ?_
  refine m_isIn ?_
  unfold ceR at hQ
  by_cases hb : 0 ≤ x ∧ x < α 110 0 ∧ 0 ≤ y ∧ y < α 110 1
  · rw [if_pos hb] at hQ
    rw [show inR (α 110) x y = 1 from if_pos hb]
    have w0 := w.1.2
    have w1 := w.2.1.2
    have w2 := w.2.2.1
    have hx : 0 ≤ x ∧ x < 8 := by omega
    have hy : 0 ≤ y ∧ y < 8 := by omega
    have c6 := cl64 hx hy
    refine vc179_11 ⟨fun q => absurd q (by decide), fun _ => ?_⟩
    refine m_within ?_
    by_cases hv : v < 0 ∨ 3 < v
    · rw [if_pos hv] at hQ
      rw [wi0 (by omega)]
      exact vc179_20 ⟨fun q => absurd rfl q, fun _ => hQ α Fα.rf⟩
    · rw [if_neg hv] at hQ
      rw [wi1 (by omega)]
      refine vc179_20 ⟨fun _ => ?_, fun q => absurd q (by decide)⟩
      have i10 : mInA ((10 + 3 * clN x y : Nat) : Int) 2240 := mInA_n (by omega)
      have i12 : mInA ((12 + 3 * clN x y : Nat) : Int) 2240 := mInA_n (by omega)
      have key : ∀ (m j : Nat), ((j + m : Nat) : Int) = α 110 2 → Go X (d + 3) 179 31 [some (vR 104), some (vI x), some (vI y), some (vI v), some (vI (btR (α 110) x y j)), some (vI (j : Int))] [] (S0, mUp σ 104 0 0, α) (0, 0) Q := by
        intro m
        induction m with
        | zero =>
          intro j hj
          have e : (α 110 2).toNat = j := by omega
          have nj : ¬ (j : Int) < α 110 2 := by omega
          refine vc179_31 ?_
          refine vc159_0 ?_
          refine vc179_37 ⟨fun _ => ⟨fun q => ⟨fun q2 => ⟨fun q3 => ?_, fun q3 => ?_⟩, fun q2 => ?_⟩, fun q => ?_⟩, fun q => absurd q nj⟩
          · have z := hQ α Fα.rf
            have e3 : v = 3 := by omega
            subst e3
            rw [← e]
            exact z
          · subst q3
            rw [ixD hx hy, ixF0 c6]
            refine ⟨i10, ?_⟩
            rw [Int.toNat_natCast]
            exact hQ α Fα.rf
          · subst q2
            refine m_swellAt l o (by decide) ?_
            intro β hf
            rw [sw0]
            exact vc179_128 (hQ β hf)
          · subst q
            rw [ixD hx hy, ixF2 c6]
            refine ⟨i12, ?_⟩
            rw [Int.toNat_natCast]
            exact hQ α Fα.rf
        | succ m ih =>
          intro j hj
          have hb : (j : Int) < α 110 2 := by omega
          have jm : ((j + 1 + m : Nat) : Int) = α 110 2 := by omega
          have b7 := w.m7 hb
          have f7 : 0 ≤ (j : Int) ∧ (j : Int) < 7 := by omega
          have ek := wrS (k := j) (by omega)
          have i1 := ih (j + 1) jm
          have go0 : ¬ (α 110 (203 + 12 * j) = x ∧ α 110 (204 + 12 * j) = y) → Go X (d + 3) 179 31 [some (vR 104), some (vI x), some (vI y), some (vI v), some (vI (btR (α 110) x y j)), some (vI ((j + 1 : Nat) : Int))] [] (S0, mUp σ 104 0 0, α) (0, 0) Q := by
            intro h
            rw [show btR (α 110) x y (j + 1) = btR (α 110) x y j from if_neg h] at i1
            exact i1
          refine vc179_31 ?_
          refine vc159_0 ?_
          refine vc179_37 ⟨fun q => absurd hb q, fun _ => ?_⟩
          refine m_of f7 ?_
          rw [oo1]
          refine vc179_49 ?_
          rw [iOr0 bt_r, ek]
          refine ⟨fun q => go0 (fun z => q z.1), fun q => ?_⟩
          refine m_of f7 ?_
          rw [oo2]
          refine vc179_60 ?_
          rw [iOr0 bt_r, ek]
          refine ⟨fun q2 => go0 (fun z => q2 z.2), fun q2 => ?_⟩
          rw [show btR (α 110) x y (j + 1) = iOr (btR (α 110) x y j) (iShl 1 (j : Int)) from if_pos ⟨q, q2⟩] at i1
          exact i1
      exact key (α 110 2).toNat 0 (n_z w2.1)
  · rw [if_neg hb] at hQ
    rw [show inR (α 110) x y = 0 from if_neg hb]
    exact vc179_11 ⟨fun _ => hQ α Fα.rf, fun q => absurd rfl q⟩
