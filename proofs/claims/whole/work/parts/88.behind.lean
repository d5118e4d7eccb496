/-! How soon, in the reference: offsets of the first boat -/
def ocC (ρ : Nat → Int) (a c : Nat) : Nat := 15 * (dyC ρ a c + 7).toNat + (dxC ρ a c + 7).toNat
theorem dC_bd {ρ : Nat → Int} {a c : Nat} (w : WF ρ) (ha : (a : Int) < ρ 2) (c6 : c < 64) : (-7 ≤ dxC ρ a c ∧ dxC ρ a c ≤ 7) ∧ -7 ≤ dyC ρ a c ∧ dyC ρ a c ≤ 7 := by
  have hw := w.b ha
  have x := hw.x w
  have y := hw.y w
  have h8 := c8 c6
  unfold dxC dyC
  clear hw
  generalize ρ (203 + 12 * a) = u at *
  generalize ρ (204 + 12 * a) = v at *
  omega
theorem oc_e {p q : Int} (hp : -7 ≤ p ∧ p ≤ 7) (hq : -7 ≤ q ∧ q ≤ 7) : Int.tmod ((15 * (q + 7).toNat + (p + 7).toNat : Nat) : Int) 15 - 7 = p ∧ Int.tdiv ((15 * (q + 7).toNat + (p + 7).toNat : Nat) : Int) 15 - 7 = q ∧ 15 * (q + 7).toNat + (p + 7).toNat < 225 := by
  have e1 : Int.tmod ((15 * (q + 7).toNat + (p + 7).toNat : Nat) : Int) 15 = (((15 * (q + 7).toNat + (p + 7).toNat) % 15 : Nat) : Int) := rfl
  have e2 : Int.tdiv ((15 * (q + 7).toNat + (p + 7).toNat : Nat) : Int) 15 = (((15 * (q + 7).toNat + (p + 7).toNat) / 15 : Nat) : Int) := rfl
  rw [e1, e2]
  omega
theorem oc_p {ρ : Nat → Int} {a c : Nat} (w : WF ρ) (ha : (a : Int) < ρ 2) (c6 : c < 64) : wr (Int.tmod ((ocC ρ a c : Nat) : Int) 15 - 7) = dxC ρ a c ∧ wr (wr (Int.tdiv ((ocC ρ a c : Nat) : Int) 15) - 7) = dyC ρ a c ∧ ocC ρ a c < 225 := by
  have b := dC_bd w ha c6
  have e := oc_e b.1 b.2
  unfold ocC
  refine ⟨?_, ?_, e.2.2⟩
  · rw [e.1]; exact wr_of (by clear e; omega) (by clear e; omega)
  · have e2 := e.2.1
    have t : Int.tdiv ((15 * (dyC ρ a c + 7).toNat + (dxC ρ a c + 7).toNat : Nat) : Int) 15 = dyC ρ a c + 7 := by
      clear e
      generalize Int.tdiv ((15 * (dyC ρ a c + 7).toNat + (dxC ρ a c + 7).toNat : Nat) : Int) 15 = q at *
      omega
    rw [t, wr_of (x := dyC ρ a c + 7) (by clear e e2 t; omega) (by clear e e2 t; omega), show dyC ρ a c + 7 - 7 = dyC ρ a c from Int.add_sub_cancel _ _]
    exact wr_of (by clear e e2 t; omega) (by clear e e2 t; omega)
theorem oc_inj {ρ : Nat → Int} {a c t : Nat} (w : WF ρ) (ha : (a : Int) < ρ 2) (c6 : c < 64) (t6 : t < 64) (e : ocC ρ a c = ocC ρ a t) : c = t := by
  have b := dC_bd w ha c6
  have b2 := dC_bd w ha t6
  unfold ocC at e
  have e1 : dxC ρ a c = dxC ρ a t := by
    generalize dxC ρ a c = p at *
    generalize dyC ρ a c = q at *
    generalize dxC ρ a t = p' at *
    generalize dyC ρ a t = q' at *
    omega
  have e2 : dyC ρ a c = dyC ρ a t := by
    generalize dxC ρ a c = p at *
    generalize dyC ρ a c = q at *
    generalize dxC ρ a t = p' at *
    generalize dyC ρ a t = q' at *
    omega
  clear e b b2
  unfold dxC at e1
  unfold dyC at e2
  generalize ρ (203 + 12 * a) = u at *
  generalize ρ (204 + 12 * a) = v at *
  omega
theorem oc_0 {ρ : Nat → Int} {a : Nat} (w : WF ρ) (ha : (a : Int) < ρ 2) : ocC ρ a (c0C ρ a) = 112 := by
  have hw := w.b ha
  have cx := cl_x (hw.x w) (hw.y w)
  have e1 : dxC ρ a (c0C ρ a) = 0 := by unfold dxC c0C; rw [cx.1]; exact Int.sub_self _
  have e2 : dyC ρ a (c0C ρ a) = 0 := by unfold dyC c0C; rw [cx.2]; exact Int.sub_self _
  unfold ocC
  rw [e1, e2]
  rfl
/-- what behind answers -/
noncomputable def bhC (ρ : Nat → Int) (P : List (Int × Int)) (a n h c v : Nat) : Int := match mvC ρ P a n h c v with
  | none => -1
  | some t => ((ocC ρ a t : Nat) : Int)
theorem bh_n {ρ : Nat → Int} {P : List (Int × Int)} {a n h c v : Nat} (q : mvC ρ P a n h c v = none) : bhC ρ P a n h c v = -1 := by unfold bhC; rw [q]
theorem bh_y {ρ : Nat → Int} {P : List (Int × Int)} {a n h c v t : Nat} (q : mvC ρ P a n h c v = some t) : bhC ρ P a n h c v = ((ocC ρ a t : Nat) : Int) := by unfold bhC; rw [q]
theorem nof {q p : Int} {x y : Int} (hp : -7 ≤ p ∧ p ≤ 7) (hq : -7 ≤ q ∧ q ≤ 7) (hx : -7 ≤ p + x ∧ p + x ≤ 7) (hy : -7 ≤ q + y ∧ q + y ≤ 7) (bx : -1 ≤ x ∧ x ≤ 1) (byy : -1 ≤ y ∧ y ≤ 1) : wr (wr (((15 * (q + 7).toNat + (p + 7).toNat : Nat) : Int) + x) + wr (15 * y)) = ((15 * (q + y + 7).toNat + (p + x + 7).toNat : Nat) : Int) := by
  rw [wr_of (x := 15 * y) (by omega) (by omega), wr_of (x := ((15 * (q + 7).toNat + (p + 7).toNat : Nat) : Int) + x) (by omega) (by omega), wr_of (by omega) (by omega)]
  omega
theorem nd1 {p x : Int} (hp : -7 ≤ p ∧ p ≤ 7) (bx : -1 ≤ x ∧ x ≤ 1) : wr (p + x) = p + x ∧ -1000 ≤ p + x ∧ p + x ≤ 1000 := ⟨wr_of (by omega) (by omega), by omega, by omega⟩
theorem nd2 {p : Int} (hp : -7 ≤ p ∧ p ≤ 7) : -1000 ≤ p ∧ p ≤ 1000 := by omega
theorem nsa {x y z : Int} : x - z + y = x + y - z := by omega
theorem nac {x z : Int} : z + (x - z) = x := by omega
theorem m_bhL {X : mXX} {d : Nat} {Q : Option mV → mS → Prop} {σ β : Nat → Nat → Int} {ρ F : Nat → Int} {a n : Nat} {v3 v4 v5 v6 v7 v8 : Int} (er : β 110 = ρ) (w : WF ρ) (a7 : a + n ≤ 7) (hn : 0 < n) (hF : ∀ b, a ≤ b → b < a + n → 0 ≤ F b ∧ F b ≤ 99) (hFb : ∀ b, a ≤ b → b < a + n → β 118 b = F b) (hY : atN ρ F a n (n - 1) = 0 → Ca X (d + 1) 186 [vI v5] (S0, σ, β) (fun r s' => aI r (fun n_1 => Go X (d + 1) 201 119 [some (vR 104), some (vI (a : Int)), some (vI ((a + n - 1 : Nat) : Int)), some (vI v3), some (vI v4), some (vI v5), some (vI v6), some (vI v7), some (vI v8), some (vI ((a + (n - 1) : Nat) : Int))] [vI n_1, vI v4] s' (0, 0) Q))) (hN : atN ρ F a n (n - 1) = 1 → Q (some (vI (-1))) (S0, σ, β)) : ∀ (t j : Nat), j + t = n - 1 → atN ρ F a n j = 0 → Go X (d + 1) 201 75 [some (vR 104), some (vI (a : Int)), some (vI ((a + n - 1 : Nat) : Int)), some (vI v3), some (vI v4), some (vI v5), some (vI v6), some (vI v7), some (vI v8), some (vI ((a + j : Nat) : Int))] [] (S0, σ, β) (0, 0) Q := by
  have n7 : n ≤ 7 := by omega
  have esz : wr (wr (((a + n - 1 : Nat) : Int) - (a : Int)) + 1) = (n : Int) := by
    rw [wr_of (x := ((a + n - 1 : Nat) : Int) - (a : Int)) (by omega) (by omega), wr_of (by omega) (by omega)]; omega
  intro t
  induction t with
  | zero =>
    intro j hj h0
    have e : j = n - 1 := hj
    have jn : ¬ ((a + j : Nat) : Int) < ((a + n - 1 : Nat) : Int) := by clear h0 esz; omega
    subst e
    exact vc201_75 ⟨fun _ => hY h0, fun q => absurd q jn⟩
  | succ t ih =>
    intro j hj h0
    have jn : ((a + j : Nat) : Int) < ((a + n - 1 : Nat) : Int) := by clear h0 esz; omega
    have jt : j + 1 + t = n - 1 := by clear h0 esz; omega
    have jk : a ≤ a + j ∧ a + j < a + n := by clear h0 esz; omega
    have j6 : a + j < 6 := by clear h0 esz; omega
    have jb : 0 ≤ ((a + j : Nat) : Int) ∧ ((a + j : Nat) : Int) < 6 := by clear h0 esz; omega
    have j1 : j + 1 ≤ n - 1 := by clear h0 esz; omega
    have ek := wrT (a := a) (j := j) (by clear h0 esz; omega)
    have gb := nsb (w.l j6).2.1 n7
    refine vc201_75 ⟨fun q => absurd jn q, fun _ => ?_⟩
    refine m_strain (F := F) a7 jk hF hFb ?_
    refine vc201_89 ?_
    rw [esz]
    refine m_strong jb ?_
    unfold sgR
    rw [er, Int.toNat_natCast]
    refine vc201_100 ?_
    rw [n693 gb, ek]
    have es : atN ρ F a n (j + 1) = if 0 < exR ρ F a n (a + j) then 1 else 0 := by
      show (if atN ρ F a n j = 0 then (if 0 < exR ρ F a n (a + j) then 1 else 0) else 1) = _
      rw [if_pos h0]
    have ex : 0 < exR ρ F a n (a + j) ↔ (n : Int) * ρ (291 + 3 * (a + j)) < stR F a (a + n - 1) (a + j) := by
      show 0 < stR F a (a + n - 1) (a + j) - (n : Int) * ρ (291 + 3 * (a + j)) ↔ _
      exact Int.sub_pos
    refine ⟨fun q => ih (j + 1) jt (by rw [es, if_neg (fun z => q (ex.mp z))]), fun q => hN (at_up j1 (by rw [es, if_pos (ex.mpr q)]))⟩
theorem m_behind {X : mXX} {d : Nat} {Q : Option mV → mS → Prop} {σ α : Nat → Nat → Int} {P : List (Int × Int)} {a n h c v : Nat} (w : WF (α 110)) (l : lwM α 6 10 P) (o : lwO 3 P) (hz : ((a + n : Nat) : Int) ≤ α 110 2) (hn : 0 < n) (hh : h < 25) (c6 : c < 64) (fc : fiC (α 110) a n c = 1) (hQ : ∀ α', Fα [115, 116, 118] α α' → Q (some (vI (bhC (α 110) P a n h c v))) (S0, σ, α')) : Ca X (d + 6) 201 [vR 104, vI (a : Int), vI ((a + n - 1 : Nat) : Int), vI (h : Int), vI ((ocC (α 110) a c : Nat) : Int), vI (v : Int)] (S0, σ, α) Q := by
  have ha : (a : Int) < α 110 2 := by omega
  have a7 := p7 w hz
  have b := dC_bd w ha c6
  have op := oc_p w ha c6
  have nh := nhh w.2.2.2.1 hh
  have bx := wx_bd (v := (v : Int))
  have byy := wy_bd (v := (v : Int))
  have n1 := nd1 b.1 bx
  have n2 := nd1 b.2 byy
  have etx : dxC (α 110) a c + wxR (v : Int) = txC c v - α 110 (203 + 12 * a) := by unfold dxC txC; exact nsa
  have ety : dyC (α 110) a c + wyR (v : Int) = tyC c v - α 110 (204 + 12 * a) := by unfold dyC tyC; exact nsa
  refine vc201_0 ?_
  rw [op.1, op.2.1, nh.1]
  refine m_canGo w hz hn (nd2 b.1) (nd2 b.2) nh.2.1 ?_
  -- a target that the part fits into
  have tgt : ftN (α 110) a (dxC (α 110) a c + wxR (v : Int)) (dyC (α 110) a c + wyR (v : Int)) n = 1 → (0 ≤ txC c v ∧ txC c v < α 110 0 ∧ 0 ≤ tyC c v ∧ tyC c v < α 110 1) ∧ dxC (α 110) a (clN (txC c v) (tyC c v)) = dxC (α 110) a c + wxR (v : Int) ∧ dyC (α 110) a (clN (txC c v) (tyC c v)) = dyC (α 110) a c + wyR (v : Int) := by
    intro f
    have fa := wa_in (ft_all f a (Nat.le_refl _) (Nat.lt_add_of_pos_right hn))
    rw [etx, ety] at fa
    have e1 : α 110 (203 + 12 * a) + (txC c v - α 110 (203 + 12 * a)) = txC c v := nac
    have e2 : α 110 (204 + 12 * a) + (tyC c v - α 110 (204 + 12 * a)) = tyC c v := nac
    rw [e1, e2] at fa
    have hx : 0 ≤ txC c v ∧ txC c v < 8 := ⟨fa.1, Int.lt_of_lt_of_le fa.2.1 w.1.2⟩
    have hy : 0 ≤ tyC c v ∧ tyC c v < 8 := ⟨fa.2.2.1, Int.lt_of_lt_of_le fa.2.2.2.1 w.2.1.2⟩
    have cx := cl_x hx hy
    refine ⟨⟨fa.1, fa.2.1, fa.2.2.1, fa.2.2.2.1⟩, ?_, ?_⟩
    · rw [etx]; unfold dxC; rw [cx.1]
    · rw [ety]; unfold dyC; rw [cx.2]
  have back : okMv (α 110) P a n h c v → ftN (α 110) a (dxC (α 110) a c + wxR (v : Int)) (dyC (α 110) a c + wyR (v : Int)) n = 1 := by
    intro ok
    have hi := ok.2.1
    have hx : 0 ≤ txC c v ∧ txC c v < 8 := ⟨hi.1, Int.lt_of_lt_of_le hi.2.1 w.1.2⟩
    have hy : 0 ≤ tyC c v ∧ tyC c v < 8 := ⟨hi.2.2.1, Int.lt_of_lt_of_le hi.2.2.2 w.2.1.2⟩
    have cx := cl_x hx hy
    have f := ok.2.2.1
    unfold fiC at f
    have g1 : dxC (α 110) a (clN (txC c v) (tyC c v)) = dxC (α 110) a c + wxR (v : Int) := by rw [etx]; unfold dxC; rw [cx.1]
    have g2 : dyC (α 110) a (clN (txC c v) (tyC c v)) = dyC (α 110) a c + wyR (v : Int) := by rw [ety]; unfold dyC; rw [cx.2]
    rw [g1, g2] at f
    exact f
  refine vc201_44 ⟨fun q => ?_, fun q => ?_⟩
  · have q1 := cg01.resolve_left q
    have fv : ftN (α 110) a (dxC (α 110) a c + wxR (v : Int)) (dyC (α 110) a c + wyR (v : Int)) n = 1 ∧ (v = 0 ∨ ¬ hdC (α 110) a n h) := by
      by_cases v0 : v = 0
      · subst v0
        refine ⟨?_, Or.inl rfl⟩
        have : ftN (α 110) a (dxC (α 110) a c + 0) (dyC (α 110) a c + 0) n = 1 := by rw [Int.add_zero, Int.add_zero]; exact fc
        exact this
      · have vp : ¬ ((v : Int) ≤ 0) := fun z => v0 (Nat.le_zero.mp (Int.ofNat_le.mp z))
        unfold cgR at q1
        rw [if_neg vp] at q1
        unfold cg0 at q1
        by_cases z : ftN (α 110) a (dxC (α 110) a c + wxR (v : Int)) (dyC (α 110) a c + wyR (v : Int)) n = 1 ∧ ¬ (slN (α 110) a n = 1 ∧ (α 110 3 + (h : Int)).tmod 2 = 1)
        · exact ⟨z.1, Or.inr z.2⟩
        · rw [if_neg z] at q1; exact absurd q1 (by decide)
    obtain ⟨hi, g1, g2⟩ := tgt fv.1
    have hx : 0 ≤ txC c v ∧ txC c v < 8 := ⟨hi.1, Int.lt_of_lt_of_le hi.2.1 w.1.2⟩
    have hy : 0 ≤ tyC c v ∧ tyC c v < 8 := ⟨hi.2.2.1, Int.lt_of_lt_of_le hi.2.2.2 w.2.1.2⟩
    have t6 := cl64 hx hy
    have bt := dC_bd w ha t6
    have te : teC (α 110) P a n h (clN (txC c v) (tyC c v)) = atN (α 110) (fcR (α 110) P (dxC (α 110) a c + wxR (v : Int)) (dyC (α 110) a c + wyR (v : Int)) (α 110 3 + (h : Int)) 0) a n (n - 1) := by unfold teC; rw [g1, g2]
    have ft : fiC (α 110) a n (clN (txC c v) (tyC c v)) = 1 := by unfold fiC; rw [g1, g2]; exact fv.1
    refine m_stepX ?_
    refine vc201_57 ?_
    refine m_stepY ?_
    refine vc201_65 ?_
    rw [n1.1, n2.1]
    refine m_findForces w l o ⟨n1.2, n2.2⟩ (by decide) ?_
    intro β hb eF
    refine vc201_72 ?_
    have eb : β 110 = α 110 := hb 110 (by decide)
    generalize hFF : fcR (α 110) P (dxC (α 110) a c + wxR (v : Int)) (dyC (α 110) a c + wyR (v : Int)) (α 110 3 + (h : Int)) 0 = F at *
    have hF : ∀ b, a ≤ b → b < a + n → 0 ≤ F b ∧ F b ≤ 99 := fun b _ b2 => by rw [← hFF]; exact fc_bd w (Int.lt_of_lt_of_le (Int.ofNat_lt.mpr b2) hz)
    have hFb : ∀ b, a ≤ b → b < a + n → β 118 b = F b := fun b _ b2 => eF b (Int.lt_of_lt_of_le (Int.ofNat_lt.mpr b2) hz)
    refine m_bhL (F := F) (d := d + 4) eb w a7 hn hF hFb (fun h0 => ?_) (fun h1 => ?_) (n - 1) 0 (Nat.zero_add _) rfl
    · refine m_stepX ?_
      refine vc201_119 ?_
      refine m_stepY ?_
      refine vc201_127 ?_
      have em := mv_y (P := P) ⟨fv.2, hi, ft, te.trans h0⟩
      have z := hQ β hb
      rw [bh_y em] at z
      unfold ocC at z ⊢
      rw [g1, g2] at z bt
      rw [nof b.1 b.2 bt.1 bt.2 bx byy]
      exact z
    · have em : mvC (α 110) P a n h c v = none := mv_n (fun ok => by
        have z := ok.2.2.2
        rw [te, h1] at z
        exact absurd z (by decide))
      have z := hQ β hb
      rw [bh_n em] at z
      exact z
  · have e : mvC (α 110) P a n h c v = none := mv_n (fun ok => by
      have f := back ok
      unfold cgR cg0 at q
      by_cases vp : (v : Int) ≤ 0
      · rw [if_pos vp] at q; exact absurd q (by decide)
      · rw [if_neg vp] at q
        have v0 : v ≠ 0 := fun z => vp (by rw [z]; decide)
        rw [if_pos ⟨f, ok.1.resolve_left v0⟩] at q
        exact absurd q (by decide))
    rw [bh_n e] at hQ
    exact hQ α Fα.rf
