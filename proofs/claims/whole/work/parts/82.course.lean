/-! The part's cells, and its moves -/
def dxC (ρ : Nat → Int) (a c : Nat) : Int := ((c % 8 : Nat) : Int) - ρ (203 + 12 * a)
def dyC (ρ : Nat → Int) (a c : Nat) : Int := ((c / 8 : Nat) : Int) - ρ (204 + 12 * a)
def fiC (ρ : Nat → Int) (a n c : Nat) : Int := ftN ρ a (dxC ρ a c) (dyC ρ a c) n
def teC (ρ : Nat → Int) (P : List (Int × Int)) (a n h c : Nat) : Int := atN ρ (fcR ρ P (dxC ρ a c) (dyC ρ a c) (ρ 3 + (h : Int)) 0) a n (n - 1)
def hdC (ρ : Nat → Int) (a n h : Nat) : Prop := slN ρ a n = 1 ∧ (ρ 3 + (h : Int)).tmod 2 = 1
def txC (c v : Nat) : Int := ((c % 8 : Nat) : Int) + wxR (v : Int)
def tyC (c v : Nat) : Int := ((c / 8 : Nat) : Int) + wyR (v : Int)
def okMv (ρ : Nat → Int) (P : List (Int × Int)) (a n h c v : Nat) : Prop := (v = 0 ∨ ¬ hdC ρ a n h) ∧ (0 ≤ txC c v ∧ txC c v < ρ 0 ∧ 0 ≤ tyC c v ∧ tyC c v < ρ 1) ∧ fiC ρ a n (clN (txC c v) (tyC c v)) = 1 ∧ teC ρ P a n h (clN (txC c v) (tyC c v)) = 0
noncomputable def mvC (ρ : Nat → Int) (P : List (Int × Int)) (a n h c v : Nat) : Option Nat := @ite _ (okMv ρ P a n h c v) (Classical.propDecidable _) (some (clN (txC c v) (tyC c v))) none
theorem mv_y {ρ : Nat → Int} {P : List (Int × Int)} {a n h c v : Nat} (q : okMv ρ P a n h c v) : mvC ρ P a n h c v = some (clN (txC c v) (tyC c v)) := if_pos q
theorem mv_n {ρ : Nat → Int} {P : List (Int × Int)} {a n h c v : Nat} (q : ¬ okMv ρ P a n h c v) : mvC ρ P a n h c v = none := if_neg q
theorem mv_i {ρ : Nat → Int} {P : List (Int × Int)} {a n h c v t : Nat} (e : mvC ρ P a n h c v = some t) : okMv ρ P a n h c v ∧ t = clN (txC c v) (tyC c v) := by
  by_cases q : okMv ρ P a n h c v
  · rw [mv_y q] at e
    exact ⟨q, (Option.some.inj e).symm⟩
  · rw [mv_n q] at e
    exact absurd e (by simp)
theorem cl_x {x y : Int} (hx : 0 ≤ x ∧ x < 8) (hy : 0 ≤ y ∧ y < 8) : ((clN x y % 8 : Nat) : Int) = x ∧ ((clN x y / 8 : Nat) : Int) = y := by unfold clN; omega
theorem cl_c {c : Nat} (h : c < 64) : clN ((c % 8 : Nat) : Int) ((c / 8 : Nat) : Int) = c := by unfold clN; omega
theorem c8 {c : Nat} (h : c < 64) : (0 ≤ ((c % 8 : Nat) : Int) ∧ ((c % 8 : Nat) : Int) < 8) ∧ 0 ≤ ((c / 8 : Nat) : Int) ∧ ((c / 8 : Nat) : Int) < 8 := by omega
theorem tm8 {c : Nat} : Int.tmod (c : Int) 8 = ((c % 8 : Nat) : Int) := rfl
theorem td8 {c : Nat} : Int.tdiv (c : Int) 8 = ((c / 8 : Nat) : Int) := rfl
theorem td8w {c : Nat} (h : c < 64) : wr (Int.tdiv (c : Int) 8) = ((c / 8 : Nat) : Int) := by rw [td8]; exact wr_of (by omega) (by omega)
theorem ndx {x z : Int} (h1 : 0 ≤ x ∧ x < 8) (h2 : 0 ≤ z ∧ z < 8) : wr (x - z) = x - z ∧ -1000 ≤ x - z ∧ x - z ≤ 1000 := ⟨wr_of (by omega) (by omega), by omega, by omega⟩
theorem fi01 {ρ : Nat → Int} {a n c : Nat} : fiC ρ a n c = 0 ∨ fiC ρ a n c = 1 := ft01
theorem fi_in {ρ : Nat → Int} {a n c : Nat} (w : WF ρ) (h : fiC ρ a n c = 1) : inB ρ a n (dxC ρ a c) (dyC ρ a c) := by
  intro b b1 b2
  obtain ⟨i1, i2, i3, i4, -⟩ := wa_in (ft_all h b b1 b2)
  exact ⟨⟨i1, Int.lt_of_lt_of_le i2 w.1.2⟩, i3, Int.lt_of_lt_of_le i4 w.2.1.2⟩
theorem fi_bx {ρ : Nat → Int} {a n c : Nat} (h : fiC ρ a n c = 1) (hn : 0 < n) : 0 ≤ ((c % 8 : Nat) : Int) ∧ ((c % 8 : Nat) : Int) < ρ 0 ∧ 0 ≤ ((c / 8 : Nat) : Int) ∧ ((c / 8 : Nat) : Int) < ρ 1 := by
  obtain ⟨i1, i2, i3, i4, -⟩ := wa_in (ft_all h a (Nat.le_refl _) (by omega))
  unfold dxC at i1 i2
  unfold dyC at i3 i4
  generalize ρ (203 + 12 * a) = u at *
  generalize ρ (204 + 12 * a) = v at *
  omega
noncomputable def gvC (ρ : Nat → Int) (a n : Nat) (f : Int) (c : Nat) : Int := if fiC ρ a n c = 0 then 0 else if ctR ρ a n (dxC ρ a c) (dyC ρ a c) < f then 1 else 2
def glC (ρ : Nat → Int) (a n : Nat) (f : Int) (c : Nat) : Prop := ¬ ctR ρ a n (dxC ρ a c) (dyC ρ a c) < f
theorem gv0 {ρ : Nat → Int} {a n : Nat} {f : Int} {c : Nat} : gvC ρ a n f c = 0 ↔ fiC ρ a n c = 0 := by
  unfold gvC
  by_cases h : fiC ρ a n c = 0
  · rw [if_pos h]; exact ⟨fun _ => h, fun _ => rfl⟩
  · rw [if_neg h]
    refine ⟨fun z => ?_, fun z => absurd z h⟩
    by_cases q : ctR ρ a n (dxC ρ a c) (dyC ρ a c) < f
    · rw [if_pos q] at z; exact absurd z (by decide)
    · rw [if_neg q] at z; exact absurd z (by decide)
theorem gv2 {ρ : Nat → Int} {a n : Nat} {f : Int} {c : Nat} (h : fiC ρ a n c = 1) : gvC ρ a n f c = 2 ↔ glC ρ a n f c := by
  unfold gvC glC
  rw [if_neg (by rw [h]; decide)]
  by_cases q : ctR ρ a n (dxC ρ a c) (dyC ρ a c) < f
  · rw [if_pos q]; exact ⟨fun z => absurd z (by decide), fun z => absurd q z⟩
  · rw [if_neg q]; exact ⟨fun _ => q, fun _ => rfl⟩
theorem c_sortC {X : mXX} {d : Nat} {Q : Option mV → mS → Prop} {σ α : Nat → Nat → Int} {ρ : Nat → Int} {a n : Nat} {f : Int} (R : Rep σ α ρ) (w : WF ρ) (hz : ((a + n : Nat) : Int) ≤ ρ 2) (hn : 0 < n) (s9 : σ 90 9 = (a : Int)) (s10 : σ 90 10 = ((a + n - 1 : Nat) : Int)) (hQ : ∀ α', Fα [87, 88, 92] α α' → (∀ c, c < 64 → α' 92 c = gvC ρ a n f c) → Q none (S0, σ, α')) : Ca X (d + 4) 35 [vR 90, vI f] (S0, σ, α) Q := by
  have ha : (a : Int) < ρ 2 := by omega
  have a7 := w.m7 ha
  refine vc35_0 ?_
  have key : ∀ (m c : Nat) (γ : Nat → Nat → Int) (x3 x4 : Option mV), c + m = 64 → Fα [87, 88, 92] α γ → (∀ i, i < c → γ 92 i = gvC ρ a n f i) → Go X (d + 3) 35 2 [some (vR 90), some (vI f), some (vI (c : Int)), x3, x4] [] (S0, σ, γ) (0, 0) Q := by
    intro m
    induction m with
    | zero =>
      intro c γ x3 x4 hc hf F
      have e : c = 64 := hc
      subst e
      exact vc35_2 ⟨fun _ => hQ γ hf F, fun q => absurd q (by decide)⟩
    | succ m ih =>
      intro c γ x3 x4 hc hf F
      have cl : (c : Int) < 64 := by omega
      have c6 : c < 64 := by omega
      have cm : c + 1 + m = 64 := by omega
      have ek := wrS (k := c) (by omega)
      have hw := w.b ha
      have Rg := R.fr hf
      have r := Rg.b ha
      have nx := ndx (c8 c6).1 (hw.x w)
      have ny := ndx (c8 c6).2 (hw.y w)
      have nxt : ∀ (δ : Nat → Nat → Int) (v : Int) (y3 y4 : Option mV), Fα [87, 88, 92] α δ → (∀ i, i < c → δ 92 i = gvC ρ a n f i) → v = gvC ρ a n f c → Go X (d + 3) 35 2 [some (vR 90), some (vI f), some (vI (wr ((c : Int) + 1))), y3, y4] [] (S0, σ, mUp δ 92 c v) (0, 0) Q := by
        intro δ v y3 y4 hd F2 hv
        rw [ek]
        refine ih (c + 1) _ y3 y4 cm (hd.tr (Fα.up (by decide))) (fun i hi => ?_)
        rw [up_a]
        by_cases h : i = c
        · rw [if_pos h, h]; exact hv
        · rw [if_neg h]; exact F2 i (Nat.lt_of_le_of_ne (Nat.le_of_lt_succ hi) h)
      refine vc35_2 ⟨fun q => absurd cl q, fun _ => ?_⟩
      rw [s9, s10]
      refine ⟨mInA_n a7, mInA_n a7, ?_⟩
      rw [Int.toNat_natCast, tm8, td8w c6, r.2.1, r.2.2.1, nx.1, ny.1]
      refine c_fits (dx := dxC ρ a c) (dy := dyC ρ a c) Rg w hz hn ⟨nx.2, ny.2⟩ ?_
      refine vc35_63 ⟨fun q => ?_, fun q => ⟨mInA_n c6, ?_⟩⟩
      · have q1 : fiC ρ a n c = 1 := ft01.resolve_left q
        have q0 : ¬ fiC ρ a n c = 0 := q
        rw [s9, s10]
        refine c_haul Rg w hz (pez hn) (fi_in w q1) ?_
        intro δ hd _
        have hfd := hf.tr (hd.wk (show ∀ q ∈ [87, 88], q ∈ [87, 88, 92] by decide))
        have F2 : ∀ i, i < c → δ 92 i = gvC ρ a n f i := by rw [hd 92 (by decide)]; exact F
        refine vc35_99 ⟨fun q2 => ⟨mInA_n c6, ?_⟩, fun q2 => ⟨mInA_n c6, ?_⟩⟩
        · rw [Int.toNat_natCast]
          refine nxt δ 1 _ _ hfd F2 ?_
          have q2' : ctR ρ a n (dxC ρ a c) (dyC ρ a c) < f := q2
          unfold gvC
          rw [if_neg q0, if_pos q2']
        · rw [Int.toNat_natCast]
          refine nxt δ 2 _ _ hfd F2 ?_
          have q2' : ¬ ctR ρ a n (dxC ρ a c) (dyC ρ a c) < f := q2
          unfold gvC
          rw [if_neg q0, if_neg q2']
      · rw [Int.toNat_natCast]
        exact nxt γ 0 _ _ hf F (gv0.mpr q).symm
  exact key 64 0 α none none (Nat.zero_add _) Fα.rf (fun i hi => absurd hi (Nat.not_lt_zero i))
