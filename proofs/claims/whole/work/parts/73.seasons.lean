theorem nmx2 {l x y : Int} : l < max x y ↔ l < x ∨ l < y := by omega
theorem nmx3 {x y : Int} (h1 : 0 ≤ x ∧ x ≤ 99) (h2 : 0 ≤ y ∧ y ≤ 99) : 0 ≤ max x y ∧ max x y ≤ 99 := by omega
theorem nl1 {s : Int} {n : Nat} (h : 0 ≤ s ∧ s ≤ (n : Int)) (hn : n < 100000) : wr (s + 0) = s + 0 ∧ wr (s + 1) = s + 1 := ⟨wr_of (by omega) (by omega), wr_of (by omega) (by omega)⟩
theorem ls_s {ρ : Nat → Int} {P : List (Int × Int)} {g : Int} {b h : Nat} : lsP ρ P g b (h + 1) ↔ lsP ρ P g b h ∨ ρ 5 < fcR ρ P 0 0 (h : Int) g b := by
  constructor
  · intro ⟨i, i1, i2⟩
    by_cases e : i = h
    · rw [e] at i2; exact Or.inr i2
    · exact Or.inl ⟨i, Nat.lt_of_le_of_ne (Nat.le_of_lt_succ i1) e, i2⟩
  · intro z
    rcases z with ⟨i, i1, i2⟩ | z
    · exact ⟨i, Nat.lt_succ_of_lt i1, i2⟩
    · exact ⟨h, Nat.lt_succ_self h, z⟩
theorem c_lost {X : mXX} {d : Nat} {Q : Option mV → mS → Prop} {σ α : Nat → Nat → Int} {ρ : Nat → Int} {P W : List (Int × Int)} {g : Int} (C : CI σ α ρ P W) (w : WF ρ) (o : lwO 3 P) (hg : 0 ≤ g ∧ g ≤ 50) (hQ : ∀ α', Fα [36, 82, 83, 85] α α' → CI σ α' ρ P W → Q (some (vI (lsS ρ P g (ρ 2).toNat))) (S0, σ, α')) : Ca X (d + 5) 25 [vR 84, vI g] (S0, σ, α) Q := by
  have w2 := w.2.2.1
  have r2 := C.1.2.2.1
  have r5 : σ 23 4 = ρ 5 := C.1.2.2.2.2.1
  have l0 : ¬ ρ 5 < 0 := by have := w.2.2.2.2.2.1.1; omega
  have hg' : -1000 ≤ g ∧ g ≤ 1000 := by omega
  refine vc25_0 ?_
  have key : ∀ (m b : Nat) (γ : Nat → Nat → Int) (x4 x5 : Option mV), ((b + m : Nat) : Int) = ρ 2 → Fα [36, 82, 83, 85] α γ → CI σ γ ρ P W → Go X (d + 4) 25 4 [some (vR 84), some (vI g), some (vI (lsS ρ P g b)), some (vI (b : Int)), x4, x5] [] (S0, σ, γ) (0, 0) Q := by
    intro m
    induction m with
    | zero =>
      intro b γ x4 x5 hb hf Cg
      have nb : ¬ (b : Int) < ρ 2 := by omega
      have e : (ρ 2).toNat = b := by omega
      have z := hQ γ hf Cg
      rw [e] at z
      exact vc25_4 ⟨fun _ => z, fun q => absurd q (by rw [r2]; exact nb)⟩
    | succ m ih =>
      intro b γ x4 x5 hb hf Cg
      have hb2 : (b : Int) < ρ 2 := by omega
      have bm : ((b + 1 + m : Nat) : Int) = ρ 2 := by omega
      have b7 := w.m7 hb2
      have bb : 0 ≤ (b : Int) ∧ (b : Int) < ρ 2 := by omega
      have bn : b < 100000 := by omega
      have ek := wrS (k := b) (by omega)
      have hw := w.b hb2
      have nl := nl1 (ls_b (ρ := ρ) (P := P) (g := g) (n := b)) bn
      have ls1 : lsS ρ P g (b + 1) = lsS ρ P g b + lsI ρ P g (0 + b) := rfl
      rw [Nat.zero_add] at ls1
      have i1 := ih (b + 1)
      rw [ls1] at i1
      refine vc25_4 ⟨fun q => absurd (by rw [r2]; exact hb2) q, fun _ => ?_⟩
      have inner : ∀ (u h : Nat) (x : Int) (δ : Nat → Nat → Int), h + u = 24 → Fα [36, 82, 83, 85] α δ → CI σ δ ρ P W → 0 ≤ x ∧ x ≤ 99 → (ρ 5 < x ↔ lsP ρ P g b h) → Go X (d + 4) 25 21 [some (vR 84), some (vI g), some (vI (lsS ρ P g b)), some (vI (b : Int)), some (vI x), some (vI (h : Int))] [] (S0, σ, δ) (0, 0) Q := by
        intro u
        induction u with
        | zero =>
          intro h x δ hh hd Cd hx L
          have eh : h = 24 := hh
          subst eh
          refine vc25_21 ⟨fun _ => ?_, fun q => absurd q (by decide)⟩
          rw [r5, ek, nl.1, nl.2]
          refine ⟨fun q => ?_, fun q => ?_⟩
          · rw [ls_0 (fun z => q (L.mpr z))] at i1
            exact i1 δ _ _ bm hd Cd
          · rw [ls_1 (L.mp q)] at i1
            exact i1 δ _ _ bm hd Cd
        | succ u ihu =>
          intro h x δ hh hd Cd hx L
          have hl : (h : Int) < 24 := by clear L; omega
          have hu : h + 1 + u = 24 := by clear L; omega
          have h0 : 0 ≤ (h : Int) := Int.natCast_nonneg h
          have eh := wrS (k := h) (by clear L ek nl; omega)
          have r := Cd.1.b hb2
          refine vc25_21 ⟨fun q => absurd hl q, fun _ => ⟨mInA_n b7, mInA_n b7, ?_⟩⟩
          rw [Int.toNat_natCast, r.2.1, r.2.2.1]
          refine c_force Cd w o bb (hw.x w) (hw.y w) ⟨h0, Int.le_trans (Int.le_of_lt hl) (by decide)⟩ hg' ?_
          intro ε he Ce
          have ef : frR ρ P (b : Int) (ρ (203 + 12 * b)) (ρ (204 + 12 * b)) (h : Int) g = fcR ρ P 0 0 (h : Int) g b := by
            unfold fcR
            rw [Int.add_zero, Int.add_zero]
          rw [ef]
          refine vc25_59 ?_
          rw [eh]
          refine ihu (h + 1) _ ε hu (hd.tr (he.wk (by decide))) Ce (nmx3 hx (fc_bd w hb2)) ?_
          rw [nmx2, L, ls_s]
      exact inner 24 0 0 γ (Nat.zero_add _) hf Cg (by decide) ⟨fun z => absurd z l0, fun ⟨i, i1, _⟩ => absurd i1 (Nat.not_lt_zero i)⟩
  exact key (ρ 2).toNat 0 α none none (n_z w2.1) Fα.rf C
noncomputable def sva (ρ : Nat → Int) (P : List (Int × Int)) (seed : Int) (i : Nat) : Int := tdI ρ P (gaG (ρ 4 + 1) (gS seed (i + 1)))
noncomputable def svb (ρ : Nat → Int) (P : List (Int × Int)) (seed : Int) (i : Nat) : Int := lsS ρ P (gaG (ρ 4 + 1) (gS seed (i + 1))) (ρ 2).toNat
def seB (seed days what : Int) : Prop := (0 ≤ seed ∧ seed ≤ 9999) ∧ (1 ≤ days ∧ days ≤ 99) ∧ (0 ≤ what ∧ what ≤ 1)
noncomputable def seR (ρ : Nat → Int) (P : List (Int × Int)) (seed days what : Int) : Int := if what = 0 then smF (sva ρ P seed) 0 days.toNat else smF (svb ρ P seed) 0 days.toNat
theorem sv_b {F : Nat → Int} (h : ∀ i, 0 ≤ F i ∧ F i ≤ 7) (n : Nat) : 0 ≤ smF F 0 n ∧ smF F 0 n ≤ 7 * (n : Int) := sm_bk (fun i _ => h i)
theorem sva_b {ρ : Nat → Int} {P : List (Int × Int)} {seed : Int} : ∀ i, 0 ≤ sva ρ P seed i ∧ sva ρ P seed i ≤ 7 := fun _ => td_b
theorem svb_b {ρ : Nat → Int} {P : List (Int × Int)} {seed : Int} (w : WF ρ) : ∀ i, 0 ≤ svb ρ P seed i ∧ svb ρ P seed i ≤ 7 := fun i => by
  have h := ls_b (ρ := ρ) (P := P) (g := gaG (ρ 4 + 1) (gS seed (i + 1))) (n := (ρ 2).toNat)
  have h7 := w.n7
  refine ⟨h.1, Int.le_trans h.2 ?_⟩
  clear h
  omega
theorem nse {s v : Int} {n : Nat} (h1 : 0 ≤ s ∧ s ≤ 7 * (n : Int)) (h2 : 0 ≤ v ∧ v ≤ 7) (hn : n < 100) : wr (s + v) = s + v := wr_of (by omega) (by omega)
theorem c_seasons {X : mXX} {d : Nat} {Q : Option mV → mS → Prop} {σ α : Nat → Nat → Int} {ρ : Nat → Int} {P W : List (Int × Int)} {seed days what : Int} (C : CI σ α ρ P W) (w : WF ρ) (o : lwO 3 P) (h1 : seB seed days what → ∀ α', Fα [36, 82, 83, 85] α α' → CI σ α' ρ P W → Q (some (vI (seR ρ P seed days what))) (S0, σ, α')) (h0 : ¬ seB seed days what → Q (some (vI (-1))) (S0, σ, α)) : Ca X (d + 7) 119 [vR 0, vI seed, vI days, vI what] (S0, σ, α) Q := by
  unfold seB at h1 h0
  refine vc119_0 ⟨fun q => h0 (fun z => absurd z.1.1 (Int.not_le.mpr q)), fun q1 => ⟨fun q => h0 (fun z => absurd z.1.2 (Int.not_le.mpr q)), fun q2 => ⟨fun q => h0 (fun z => absurd z.2.1.1 (Int.not_le.mpr q)), fun q3 => ⟨fun q => h0 (fun z => absurd z.2.1.2 (Int.not_le.mpr q)), fun q4 => ⟨fun q => h0 (fun z => absurd z.2.2.1 (Int.not_le.mpr q)), fun q5 => ⟨fun q6 => ?_, fun q => h0 (fun z => absurd z.2.2.2 (Int.not_le.mpr q))⟩⟩⟩⟩⟩⟩
  have hs : 0 ≤ seed ∧ seed ≤ 9999 := ⟨Int.not_lt.mp q1, Int.not_lt.mp q2⟩
  have hd : 1 ≤ days ∧ days ≤ 99 := ⟨Int.not_lt.mp q3, Int.not_lt.mp q4⟩
  have hw : 0 ≤ what ∧ what ≤ 1 := ⟨Int.not_lt.mp q5, Int.not_lt.mp q6⟩
  have hQ := h1 ⟨hs, hd, hw⟩
  clear h1 h0 q1 q2 q3 q4 q5 q6
  obtain ⟨N, hN⟩ := Int.eq_ofNat_of_zero_le (show 0 ≤ days by omega)
  subst hN
  have w4 := w.2.2.2.2.1
  have r4 : σ 23 3 = ρ 4 := C.1.2.2.2.1
  have e4 : wr (ρ 4 + 1) = ρ 4 + 1 := wr_of (by clear hQ; omega) (by clear hQ; omega)
  have n4 : ρ 4 + 1 ≠ 0 := by clear hQ e4; omega
  have m4 : 0 < ρ 4 + 1 ∧ ρ 4 + 1 ≤ 51 := by clear hQ e4; omega
  unfold seR at hQ
  rw [Int.toNat_natCast] at hQ
  have key : ∀ (m i : Nat) (γ : Nat → Nat → Int) (x8 : Option mV), i + m = N → Fα [36, 82, 83, 85] α γ → CI σ γ ρ P W → Go X (d + 6) 119 43 [some (vR 0), some (vI seed), some (vI (N : Int)), some (vI what), some (vL (gS seed i)), none, some (vI (if what = 0 then smF (sva ρ P seed) 0 i else smF (svb ρ P seed) 0 i)), some (vI (i : Int)), x8] [] (S0, σ, γ) (0, 0) Q := by
    intro m
    induction m with
    | zero =>
      intro i γ x8 hi hf Cg
      have e : i = N := hi
      subst e
      exact vc119_43 ⟨fun _ => hQ γ hf Cg, fun q => absurd q (Int.lt_irrefl _)⟩
    | succ m ih =>
      intro i γ x8 hi hf Cg
      have il : (i : Int) < (N : Int) := by clear hQ e4; omega
      have im : i + 1 + m = N := by clear hQ e4; omega
      have i100 : i < 100 := by clear hQ e4; omega
      have ek := wrS (k := i) (by clear hQ e4; omega)
      have gb := ga_bd (gS_bd (i := i + 1) hs) m4
      have i1 := ih (i + 1)
      have g1 : Int.tmod (wl (wl (gS seed i * 1103515245) + 12345)) 2147483648 = gS seed (i + 1) := rfl
      have g2 : wr (Int.tmod (wl (Int.tdiv (gS seed (i + 1)) 65536)) (ρ 4 + 1)) = gaG (ρ 4 + 1) (gS seed (i + 1)) := rfl
      refine vc119_43 ⟨fun q => absurd il q, fun _ => ?_⟩
      rw [r4, e4, g1, g2]
      refine ⟨n4, fun q => ?_, fun q => ?_⟩
      · refine c_lost Cg w o gb ?_
        intro δ hd2 Cd
        refine vc119_112 ?_
        rw [if_neg q] at i1 ⊢
        rw [show lsS ρ P (gaG (ρ 4 + 1) (gS seed (i + 1))) (ρ 2).toNat = svb ρ P seed i from rfl, ek, nse (sv_b (svb_b (P := P) (seed := seed) w) i) (svb_b (P := P) (seed := seed) w i) i100]
        have es : smF (svb ρ P seed) 0 (i + 1) = smF (svb ρ P seed) 0 i + svb ρ P seed (0 + i) := rfl
        rw [Nat.zero_add] at es
        rw [es] at i1
        exact i1 δ _ im (hf.tr hd2) Cd
      · refine c_torn Cg w o gb ?_
        intro δ hd2 Cd
        refine vc119_100 ?_
        refine vc119_112 ?_
        rw [if_pos q] at i1 ⊢
        rw [show tdI ρ P (gaG (ρ 4 + 1) (gS seed (i + 1))) = sva ρ P seed i from rfl, ek, nse (sv_b (sva_b (ρ := ρ) (P := P) (seed := seed)) i) (sva_b (ρ := ρ) (P := P) (seed := seed) i) i100]
        have es : smF (sva ρ P seed) 0 (i + 1) = smF (sva ρ P seed) 0 i + sva ρ P seed (0 + i) := rfl
        rw [Nat.zero_add] at es
        rw [es] at i1
        exact i1 δ _ im (hf.tr hd2) Cd
  have k0 := key N 0 α none (Nat.zero_add N) Fα.rf C
  rw [show (if what = 0 then smF (sva ρ P seed) 0 0 else smF (svb ρ P seed) 0 0) = 0 by split <;> rfl] at k0
  exact k0
