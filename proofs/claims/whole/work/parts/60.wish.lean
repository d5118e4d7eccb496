/-! What the boats wish -/
def f7 (ρ : Nat → Int) (P : List (Int × Int)) (b : Nat) (x y : Int) : Nat → Int
  | 0 => x
  | 1 => y
  | 2 => (ρ 3).tmod 24
  | 3 => ρ (12 + 3 * clN x y)
  | 4 => swV P x y ((ρ 3).tmod 24)
  | 5 => hoN ρ b - ρ (210 + 12 * b)
  | _ => dst x (ρ (205 + 12 * b)) + dst y (ρ (206 + 12 * b))
def wvR (ρ : Nat → Int) (P W : List (Int × Int)) (b : Nat) (x y : Int) : Int := max 0 (min 99 (evV (f7 ρ P b x y) W))
theorem wv_bd {ρ : Nat → Int} {P W : List (Int × Int)} {b : Nat} {x y : Int} : 0 ≤ wvR ρ P W b x y ∧ wvR ρ P W b x y ≤ 99 := by
  unfold wvR
  generalize evV (f7 ρ P b x y) W = v
  omega
theorem lt7 {a : Nat} (h : (a : Int) < 7) : a = 0 ∨ a = 1 ∨ a = 2 ∨ a = 3 ∨ a = 4 ∨ a = 5 ∨ a = 6 := by omega
theorem c_wished {X : mXX} {d : Nat} {Q : Option mV → mS → Prop} {σ α : Nat → Nat → Int} {ρ : Nat → Int} {P W : List (Int × Int)} {b : Nat} {x y : Int} (C : CI σ α ρ P W) (w : WF ρ) (o : lwO 3 P) (ow : lwO 7 W) (hb : (b : Int) < ρ 2) (hx : 0 ≤ x ∧ x < 8) (hy : 0 ≤ y ∧ y < 8) (hQ : ∀ α', Fα [36, 39, 82, 83, 99] α α' → CI σ α' ρ P W → Q (some (vI (wvR ρ P W b x y))) (S0, σ, α')) : Ca X (d + 4) 29 [vR 96, vI (b : Int), vI x, vI y] (S0, σ, α) Q := by
  have c6 := cl64 hx hy
  have b7 := w.m7 hb
  have b0 : 0 ≤ (b : Int) := Int.natCast_nonneg b
  have r3 := C.1.2.2.2.2.2.1
  have m1 : mInA 1 7 := by unfold mInA; decide
  have m2 : mInA 2 7 := by unfold mInA; decide
  have m6 : mInA 6 7 := by unfold mInA; decide
  have hw := w.b hb
  have hh : 0 ≤ ρ (210 + 12 * b) ∧ ρ (210 + 12 * b) ≤ hoN ρ b := hw.2.2.2.2.2.2.2.2.1
  have h9 := FB.h99 w hb
  have d1 := dst_bd hx hw.2.2.2.1
  have d2 := dst_bd hy hw.2.2.2.2.1
  refine vc29_0 ?_
  rw [ixC hx hy]
  refine ⟨mInA_n c6, ?_⟩
  rw [Int.toNat_natCast, (C.1.c c6).2.2, r3]
  have C1 : CI σ (mUp α 99 0 (ρ (12 + 3 * clN x y))) ρ P W := C.fr (Z := [99]) (Fα.up (by decide))
  refine c_swell C1 o hx hy (hrW w) ?_
  intro β hf Cb
  refine vc29_41 ⟨m1, ?_⟩
  have C2 : CI σ (mUp β 99 (Int.toNat 1) (swV P x y ((ρ 3).tmod 24))) ρ P W := Cb.fr (Z := [99]) (Fα.up (by decide))
  refine c_holds C2.1 w ⟨b0, hb⟩ ?_
  rw [ho_N]
  refine vc29_55 ⟨mInA_n b7, m2, mInA_n b7, mInA_n b7, ?_⟩
  have r := C2.1.b hb
  rw [Int.toNat_natCast, r.2.2.2.2.2.2.2.2.1, r.2.2.2.1, r.2.2.2.2.1, abs_d hx hw.2.2.2.1, abs_d hy hw.2.2.2.2.1, nad d1 d2, nhs hh h9.2, r3]
  refine c_floor (hrW w) ?_
  refine vc29_133 ⟨m6, ?_⟩
  refine c_valueW (m := 7) (f := f7 ρ P b x y) (by decide) (P := W) (by rw [up_o (by decide), up_o (by decide), up_o (by decide), up_o (by decide), up_o (by decide)]; exact C2.2.2.1.1) C2.2.2.1.2 ow.2 ?_ ow.1 ?_
  · intro a ha
    rcases lt7 ha with e | e | e | e | e | e | e <;> subst e
    · rw [up_n (by decide), up_n (by decide)]; exact up_s
    · rw [up_n (by decide)]; exact up_s
    · exact up_s
    · rw [up_n (by decide), up_n (by decide), up_n (by decide), up_n (by decide), up_n (by decide), up_n (by decide), hf 99 (by decide)]; exact up_s
    · rw [up_n (by decide), up_n (by decide), up_n (by decide), up_n (by decide), up_n (by decide)]; exact up_s
    · rw [up_n (by decide), up_n (by decide), up_n (by decide), up_n (by decide)]; exact up_s
    · rw [up_n (by decide), up_n (by decide), up_n (by decide)]; exact up_s
  intro γ hg
  refine vc29_148 ?_
  refine vc102_0 ?_
  refine vc29_151 ?_
  have f1 : Fα [36, 39, 82, 83, 99] α β := (Fα.up (by decide)).tr (hf.wk (by decide))
  have f2 : Fα [39, 99] β γ := (Fα.up (by decide)).tr ((Fα.up (by decide)).tr ((Fα.up (by decide)).tr ((Fα.up (by decide)).tr ((Fα.up (by decide)).tr ((Fα.up (by decide)).tr (hg.wk (by decide)))))))
  exact hQ γ (f1.tr (f2.wk (by decide))) (Cb.fr f2)
/-- the reference -/
def lwW (α : Nat → Nat → Int) (W : List (Int × Int)) : Prop := (α 110 7 < 0 ∧ W = [(2, 3)]) ∨ (0 ≤ α 110 7 ∧ pgM (α 111) (α 112) (α 110 7).toNat W)
theorem lwW.st {α α' : Nat → Nat → Int} {W : List (Int × Int)} (l : lwW α W) (e : α' 110 7 = α 110 7) (e1 : α' 111 = α 111) (e2 : α' 112 = α 112) : lwW α' W := by unfold lwW; rw [e, e1, e2]; exact l
theorem ncl {v : Int} (h : 0 ≤ v ∧ v ≤ 99) : max 0 (min 99 v) = v := by omega
theorem ncl2 {v : Int} (h : 99 < v) : max 0 (min 99 v) = 99 := by omega
theorem ncl3 {v : Int} (h : v < 0) : max 0 (min 99 v) = 0 := by omega
theorem m_wishOf {X : mXX} {d : Nat} {Q : Option mV → mS → Prop} {σ α : Nat → Nat → Int} {P W : List (Int × Int)} {b : Nat} {v x y : Int} (w : WF (α 110)) (l : lwM α 6 10 P) (o : lwO 3 P) (lw : lwW α W) (ow : lwO 7 W) (hb : (b : Int) < α 110 2) (ex : x = α 110 (203 + 12 * b) + wxR v) (ey : y = α 110 (204 + 12 * b) + wyR v) (hx : 0 ≤ x ∧ x < 8) (hy : 0 ≤ y ∧ y < 8) (hQ : ∀ α', Fα [115, 116] α α' → Q (some (vI (wvR (α 110) P W b x y))) (S0, σ, α')) : Ca X (d + 4) 205 [vR 104, vI (b : Int), vI v] (S0, σ, α) Q := by
  have c6 := cl64 hx hy
  have b7 := w.m7 hb
  have f0 : 0 ≤ (b : Int) ∧ (b : Int) < 7 := ⟨Int.natCast_nonneg b, Int.ofNat_lt.mpr b7⟩
  have hw := w.b hb
  have i12 : mInA ((12 + 3 * clN x y : Nat) : Int) 2240 := mInA_n (by clear ex ey; omega)
  have x1 := nx0 (hw.x w) (wx_bd (v := v))
  have y1 := nx0 (hw.y w) (wy_bd (v := v))
  rw [← ex] at x1
  rw [← ey] at y1
  refine vc205_0 ?_
  refine m_of f0 ?_
  rw [oo1]
  refine vc205_6 ?_
  refine m_stepX ?_
  refine vc205_10 ?_
  rw [← ex, n8 hx]
  refine m_of f0 ?_
  rw [oo2]
  refine vc205_18 ?_
  refine m_stepY ?_
  refine vc205_22 ?_
  rw [← ey, n8 hy, ixD hx hy, ixF2 c6]
  refine ⟨i12, ?_⟩
  rw [Int.toNat_natCast]
  have hf := w.c c6
  have fb : 0 ≤ α 110 (12 + 3 * clN x y) ∧ α 110 (12 + 3 * clN x y) ≤ 99 := ⟨hf.2.1, Int.le_trans hf.2.2.1 hf.2.2.2⟩
  refine ⟨fun q => ?_, fun q => ?_⟩
  · rcases lw with lw | lw
    · have e : wvR (α 110) P W b x y = α 110 (12 + 3 * clN x y) := by
        unfold wvR
        rw [lw.2]
        exact ncl fb
      rw [e] at hQ
      exact ⟨fun q1 => ⟨fun q2 => hQ α Fα.rf, fun q2 => absurd fb.2 (Int.not_le.mpr q2)⟩, fun q1 => absurd fb.1 (Int.not_le.mpr q1)⟩
    · exact absurd lw.1 (Int.not_le.mpr q)
  · rcases lw with lw | lw
    · exact absurd lw.1 q
    · refine m_swellAt l o (by decide) ?_
      intro β hfb
      have eb : β 110 = α 110 := hfb 110 (by decide)
      have m5 : mInA 5 7 := by unfold mInA; decide
      have m6 : mInA 6 7 := by unfold mInA; decide
      have hh : 0 ≤ α 110 (210 + 12 * b) ∧ α 110 (210 + 12 * b) ≤ hoN (α 110) b := hw.2.2.2.2.2.2.2.2.1
      have h9 := FB.h99 w hb
      have d1 := dst_bd hx hw.2.2.2.1
      have d2 := dst_bd hy hw.2.2.2.2.1
      rw [sw0]
      refine vc205_74 ?_
      rw [eb]
      have u : ∀ γ : Nat → Nat → Int, Fα [115, 116] β γ → γ 110 = α 110 := fun γ h => (h 110 (by decide)).trans eb
      have u5 : Fα [115, 116] β (mUp (mUp (mUp (mUp (mUp β 115 0 x) 115 1 y) 115 2 ((α 110 3).tmod 24)) 115 3 (α 110 (12 + 3 * clN x y))) 115 4 (swV P x y ((α 110 3).tmod 24))) := (Fα.up (by decide)).tr ((Fα.up (by decide)).tr ((Fα.up (by decide)).tr ((Fα.up (by decide)).tr (Fα.up (by decide)))))
      have e5 := u _ u5
      refine m_holds (by rw [e5]; exact w) (by rw [e5]; exact ⟨f0.1, hb⟩) ?_
      rw [ho_N, e5]
      refine vc205_132 ?_
      refine m_of f0 ?_
      rw [oo8, e5]
      refine vc205_139 ⟨m5, ?_⟩
      rw [nhs hh h9.2]
      refine m_of f0 ?_
      rw [oo3, up_o (x := 110) (by decide), e5]
      refine vc205_154 ?_
      refine m_steps (n1k hx hw.2.2.2.1) ?_
      refine vc205_157 ?_
      refine m_of f0 ?_
      rw [oo4, up_o (x := 110) (by decide), e5]
      refine vc205_165 ?_
      refine m_steps (n1k hy hw.2.2.2.2.1) ?_
      refine vc205_168 ⟨m6, ?_⟩
      rw [nad d1 d2, up_o (x := 110) (by decide), e5]
      obtain ⟨p, hp⟩ := Int.eq_ofNat_of_zero_le lw.1
      have lp := lw.2
      rw [hp, Int.toNat_natCast] at lp
      rw [hp]
      refine m_worthAt (m := 7) (by decide) (P := W) ?_ ow.1 ?_
      · rw [up_o (x := 111) (by decide), up_o (x := 112) (by decide), up_o (x := 111) (by decide), up_o (x := 112) (by decide), u5 111 (by decide), u5 112 (by decide), hfb 111 (by decide), hfb 112 (by decide)]
        exact lp
      intro γ hg
      have fin : Fα [115, 116] α γ := hfb.tr (u5.tr ((Fα.up (by decide)).tr ((Fα.up (by decide)).tr (hg.wk (by decide)))))
      have z := hQ γ fin
      have ev : evV (mUp (mUp (mUp (mUp (mUp (mUp (mUp β 115 0 x) 115 1 y) 115 2 ((α 110 3).tmod 24)) 115 3 (α 110 (12 + 3 * clN x y))) 115 4 (swV P x y ((α 110 3).tmod 24))) 115 (Int.toNat 5) (hoN (α 110) b - α 110 (210 + 12 * b))) 115 (Int.toNat 6) (dst x (α 110 (205 + 12 * b)) + dst y (α 110 (206 + 12 * b))) 115) W = evV (f7 (α 110) P b x y) W := by
        refine evV_cg (m := 7) (fun a ha => ?_) ow.1
        rcases lt7 ha with e | e | e | e | e | e | e <;> subst e
        · rw [up_n (by decide), up_n (by decide), up_n (by decide), up_n (by decide), up_n (by decide), up_n (by decide)]; exact up_s
        · rw [up_n (by decide), up_n (by decide), up_n (by decide), up_n (by decide), up_n (by decide)]; exact up_s
        · rw [up_n (by decide), up_n (by decide), up_n (by decide), up_n (by decide)]; exact up_s
        · rw [up_n (by decide), up_n (by decide), up_n (by decide)]; exact up_s
        · rw [up_n (by decide), up_n (by decide)]; exact up_s
        · rw [up_n (by decide)]; exact up_s
        · exact up_s
      rw [ev]
      unfold wvR at z
      refine vc205_181 ?_
      generalize evV (f7 (α 110) P b x y) W = g at z
      refine ⟨fun q1 => ⟨fun q2 => ?_, fun q2 => ?_⟩, fun q1 => ?_⟩
      · rw [ncl ⟨Int.not_lt.mp q1, Int.not_lt.mp q2⟩] at z; exact z
      · rw [ncl2 q2] at z; exact z
      · rw [ncl3 q1] at z; exact z
