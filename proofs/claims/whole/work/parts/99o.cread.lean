/-! The class reads a bay -/
theorem cLn.to {T : Nat → Int} {N : Nat} {r : bLn} {σ α : Nat → Nat → Int} {Q Q' : Option mV → mS → Prop} (h : cLn T N r σ α Q) (k : ∀ v σ' α', (v = 0 ∨ v = 1) → Q (some (vI v)) (S0, σ', α') → Q' (some (vI v)) (S0, σ', α')) : cLn T N r σ α Q' := ⟨fun e σ' α' F E c d => k 1 σ' α' (Or.inr rfl) (h.1 e σ' α' F E c d), fun e σ' α' F E c => k 0 σ' α' (Or.inl rfl) (h.2 e σ' α' F E c)⟩
theorem c_line {X : mXX} {d : Nat} {Q : Option mV → mS → Prop} {σ α : Nat → Nat → Int} {T : Nat → Int} {N i : Nat} {s : bSt} (hT : α 2 = T) (ok : okT T N) (C : CTk σ T N i) (ne : NE T N i) (D : DR T N σ α s) (w : SW s) (hq : cLn T N (lneR T N s i) σ α Q) : Ca X (d + 82) 83 [vR 3] (S0, σ, α) Q := by
  have e4 := C.2.2.2.1
  have bad : twI T N i < 1 ∨ 8 < twI T N i → Ca X (d + 81) 79 [vR 3, vI 1] (S0, σ, α) (fun r s' => aI r (fun n => Go X (d + 81) 83 130 [some (vR 3)] [vI n] s' (0, 0) Q)) := by
    intro z
    have e : lneR T N s i = (fa T N 1 i, i, s) := by
      unfold lneR
      rw [if_neg (by omega), if_neg (by omega), if_neg (by omega), if_neg (by omega), if_neg (by omega), if_neg (by omega), if_neg (by omega), if_neg (by omega)]
    rw [e] at hq
    exact c_fail ok.1 C (by decide) (vc83_130 ⟨Or.inl rfl, hq.2 (fa_0 (by decide)) _ α (Fσ.up (by decide)) Fα.rf up_s⟩)
  refine vc83_0 ⟨fun z => ⟨fun _ => bad ?_, fun y => absurd y (by decide), fun y => absurd y (by decide), fun y => absurd y (by decide), fun y => absurd y (by decide), fun y => absurd y (by decide), fun y => absurd y (by decide), fun y => absurd y (by decide), fun y => absurd y (by decide), trivial⟩, fun z => ?_⟩
  · rw [e4] at z
    rw [tw_n z]; decide
  · rw [e4] at z
    rw [C.w z]
    have n1 := ne.s (k_s z (by decide))
    unfold lneR at hq
    generalize twI T N i = t at *
    refine ⟨fun y => bad (by clear hq bad; omega), fun y => ?_, fun y => ?_, fun y => ?_, fun y => ?_, fun y => ?_, fun y => ?_, fun y => ?_, fun y => ?_, trivial⟩
    · have et : t = 1 := Int.ofNat.inj y
      rw [if_pos et] at hq
      exact c_rock hT ok C D w (hq.to (fun v σ' α' hv q => vc83_72 ⟨hv, q⟩))
    · have et : t = 2 := Int.ofNat.inj y
      rw [if_neg (by rw [et]; decide), if_pos et] at hq
      exact c_shoal hT ok C D w (hq.to (fun v σ' α' hv q => vc83_77 ⟨hv, q⟩))
    · have et : t = 3 := Int.ofNat.inj y
      rw [if_neg (by rw [et]; decide), if_neg (by rw [et]; decide), if_pos et] at hq
      exact c_boatL hT ok C D w (hq.to (fun v σ' α' hv q => vc83_82 ⟨hv, q⟩))
    · have et : t = 4 := Int.ofNat.inj y
      rw [if_neg (by rw [et]; decide), if_neg (by rw [et]; decide), if_neg (by rw [et]; decide), if_pos et] at hq
      exact c_cable hT ok C D w (hq.to (fun v σ' α' hv q => vc83_87 ⟨hv, q⟩))
    · have et : t = 5 := Int.ofNat.inj y
      rw [if_neg (by rw [et]; decide), if_neg (by rw [et]; decide), if_neg (by rw [et]; decide), if_neg (by rw [et]; decide), if_pos et] at hq
      exact c_swellL hT ok C n1 D w (hq.to (fun v σ' α' hv q => vc83_100 ⟨hv, q⟩))
    · have et : t = 6 := Int.ofNat.inj y
      rw [if_neg (by rw [et]; decide), if_neg (by rw [et]; decide), if_neg (by rw [et]; decide), if_neg (by rw [et]; decide), if_neg (by rw [et]; decide), if_pos et] at hq
      exact c_wishL hT ok C n1 D w (hq.to (fun v σ' α' hv q => vc83_114 ⟨hv, q⟩))
    · have et : t = 7 := Int.ofNat.inj y
      rw [if_neg (by rw [et]; decide), if_neg (by rw [et]; decide), if_neg (by rw [et]; decide), if_neg (by rw [et]; decide), if_neg (by rw [et]; decide), if_neg (by rw [et]; decide), if_pos et] at hq
      exact c_gales hT ok C D w (hq.to (fun v σ' α' hv q => vc83_119 ⟨hv, q⟩))
    · have et : t = 8 := Int.ofNat.inj y
      rw [if_neg (by rw [et]; decide), if_neg (by rw [et]; decide), if_neg (by rw [et]; decide), if_neg (by rw [et]; decide), if_neg (by rw [et]; decide), if_neg (by rw [et]; decide), if_neg (by rw [et]; decide), if_pos et] at hq
      exact c_loose hT ok C D w (hq.to (fun v σ' α' hv q => vc83_124 ⟨hv, q⟩))
def byF (T : Nat → Int) (N : Nat) : Int := ft (wdF T N 0 0) (ft (nbF T N 2 8 1) (ft (nbF T N 2 8 2) (sgF T N 59 3)))
theorem c_bayLine {X : mXX} {d : Nat} {Q : Option mV → mS → Prop} {σ α : Nat → Nat → Int} {T : Nat → Int} {N : Nat} (hT : α 2 = T) (ok : okT T N) (C : CTk σ T N 0) (h1 : byF T N = 0 → ∀ σ', Fσ ((4, 0) :: (4, 1) :: STg) σ σ' → CTk σ' T N 4 → σ' 4 0 = nbI T N 1 → σ' 4 1 = nbI T N 2 → Q (some (vI 1)) (S0, σ', α)) (h0 : byF T N ≠ 0 → ∀ σ', Fσ ((4, 0) :: (4, 1) :: STk) σ σ' → σ' 3 6 = byF T N → Q (some (vI 0)) (S0, σ', α)) : Ca X (d + 9) 77 [vR 3] (S0, σ, α) Q := by
  unfold byF at h1 h0
  refine vc77_0 (c_takeWord (w := 0) hT ok C (by decide) (fun z1 σ1 F1 C1 => ?_) (fun z1 => ?_))
  · rw [show wdF T N 0 0 = 0 from z1, ft_0] at h1 h0
    have F1' : Fσ ((4, 0) :: (4, 1) :: STg) σ σ1 := F1.wk (by decide)
    refine vc77_5 ⟨fun y => absurd y (by decide), fun _ => c_takeNumber hT ok C1 (fun z2 σ2 F2 C2 e7 => ?_) (fun z2 σ2 F2 e6 => ?_)⟩
    · rw [show nbF T N 2 8 1 = 0 from z2, ft_0] at h1 h0
      refine vc77_15 ⟨fun _ => ?_, fun y => absurd y (by decide)⟩
      rw [e7]
      have F2' : Fσ ((4, 0) :: (4, 1) :: STg) σ (mUp σ2 4 0 (nbI T N 1)) := (F1'.tr (F2.wk (by decide))).tr (Fσ.up (by decide))
      have g0 : mUp σ2 4 0 (nbI T N 1) 4 0 = nbI T N 1 := up_s
      have C2' : CTk (mUp σ2 4 0 (nbI T N 1)) T N 2 := C2.up (by decide)
      generalize hs : mUp σ2 4 0 (nbI T N 1) = σ3 at F2' g0 C2'
      refine c_takeNumber hT ok C2' (fun z3 σ4 F4 C4 e7' => ?_) (fun z3 σ4 F4 e6 => ?_)
      · rw [z3, ft_0] at h1 h0
        refine vc77_38 ⟨fun _ => ?_, fun y => absurd y (by decide)⟩
        rw [e7']
        have F5' : Fσ ((4, 0) :: (4, 1) :: STg) σ (mUp σ4 4 1 (nbI T N 2)) := (F2'.tr (F4.wk (by decide))).tr (Fσ.up (by decide))
        refine c_takeSign hT ok (C4.up (by decide)) (fun z5 σ6 F6 C6 => vc77_60 ⟨Or.inr rfl, ?_⟩) (fun z5 => vc77_60 ⟨Or.inl rfl, ?_⟩)
        · refine h1 z5 σ6 (F5'.tr (F6.wk (by decide))) C6 ?_ ?_
          · rw [F6 4 0 (by decide), up_n (by decide), F4 4 0 (by decide)]; exact g0
          · rw [F6 4 1 (by decide), up_s]
        · exact h0 z5 _ ((F5'.wk (by decide)).tr (Fσ.up (by decide))) up_s
      · rw [ft_n z3] at h0
        exact vc77_38 ⟨fun y => absurd rfl y, fun _ => h0 z3 σ4 ((F2'.wk (by decide)).tr (F4.wk (by decide))) e6⟩
    · rw [show ft (nbF T N 2 8 1) _ = nbF T N 2 8 1 from ft_n z2] at h0
      exact vc77_15 ⟨fun y => absurd rfl y, fun _ => h0 z2 σ2 ((F1'.wk (by decide)).tr (F2.wk (by decide))) e6⟩
  · rw [ft_n z1] at h0
    exact vc77_5 ⟨fun _ => h0 z1 _ (Fσ.up (by decide)) up_s, fun y => absurd rfl y⟩
/-- what is told of a bay when nothing is -/
def sa0 (j : Nat) : Int := if j = 4 then 10 else if j = 5 then 20 else if j = 6 ∨ j = 7 then -1 else if 290 ≤ j ∧ j < 308 then (if (j - 290) % 3 = 0 then 3 else if (j - 290) % 3 = 1 then 20 else 0) else 0
def iS (T : Nat → Int) (N : Nat) (ρ : Nat → Int) : bSt := (rU (rU ρ 0 (nbI T N 1)) 1 (nbI T N 2), ([(1, 10)], [(2, 3)]), (0, 0, 0), fun _ => 0)
def byR (T : Nat → Int) (N : Nat) : Nat → Nat → bSt → Int × bSt
  | 0, _, s => (-1, s)
  | f + 1, i, s => if kdI T N i = 0 then (0, s) else if (lneR T N s i).1 = 0 then byR T N f (lneR T N s i).2.1 (lneR T N s i).2.2 else ((lneR T N s i).1, s)
def ryR (T : Nat → Int) (N : Nat) (ρ : Nat → Int) : Int × bSt := if byF T N = 0 then byR T N 1001 4 (iS T N ρ) else (byF T N, iS T N ρ)
theorem by_ok {T : Nat → Int} {N : Nat} (hN : N ≤ 1000) : ∀ (f i : Nat) (s : bSt), N - i < f → SW s → NE T N i → s.2.2.1.2.2 ≤ i → (byR T N f i s).1 = 0 → SW (byR T N f i s).2 ∧ (byR T N f i s).2.2.2.1.2.2 ≤ 1000
  | 0, _, _, h, _, _, _, _ => absurd h (Nat.not_lt_zero _)
  | f + 1, i, s, h, w, ne, hc, h0 => by
    unfold byR at h0 ⊢
    by_cases q : kdI T N i = 0
    · rw [if_pos q]
      exact ⟨w, Nat.le_trans hc (Nat.le_trans (ne_b ne) hN)⟩
    · rw [if_neg q] at h0 ⊢
      by_cases e : (lneR T N s i).1 = 0
      · rw [if_pos e] at h0 ⊢
        have g := ln_ok hN w ne hc e
        have n1 := ne_b (ne.s q)
        have g3 := g.2.2.1
        exact by_ok hN f _ _ (by clear h0 q e; omega) g.1 g.2.1 g.2.2.2 h0
      · rw [if_neg e] at h0; exact absurd h0 e
theorem iS_ok {T : Nat → Int} {N : Nat} {ρ : Nat → Int} (h : ∀ j, j < 320 → ρ j = sa0 j) (h0 : byF T N = 0) : SW (iS T N ρ) ∧ NE T N 4 := by
  unfold byF at h0
  have a := ftz.mp h0
  have b := ftz.mp a.2
  have c := ftz.mp b.2
  have x := nbF_z.mp b.1
  have y := nbF_z.mp c.1
  have n0 : NE T N 0 := fun j hj => absurd hj (Nat.not_lt_zero j)
  have n4 : NE T N 4 := ((((n0.wd (wdF_z.mp a.1) (by decide)).n3 x.1).n3 y.1).sg c.2)
  have g : ∀ j, 2 ≤ j → j < 320 → (iS T N ρ).1 j = sa0 j := fun j j1 j2 => by
    show rU (rU ρ 0 (nbI T N 1)) 1 (nbI T N 2) j = _
    rw [rU_n (by omega), rU_n (by omega)]; exact h j j2
  have e0 : (iS T N ρ).1 0 = nbI T N 1 := by
    show rU (rU ρ 0 (nbI T N 1)) 1 (nbI T N 2) 0 = _
    rw [rU_n (by decide), rU_s]
  have e1 : (iS T N ρ).1 1 = nbI T N 2 := by
    show rU (rU ρ 0 (nbI T N 1)) 1 (nbI T N 2) 1 = _
    exact rU_s
  have z2 : (iS T N ρ).1 2 = 0 := (g 2 (by decide) (by decide)).trans (by decide)
  have cz : ∀ c, c < 64 → sa0 (10 + 3 * c) = 0 ∧ sa0 (11 + 3 * c) = 0 ∧ sa0 (12 + 3 * c) = 0 := fun c hc => by
    unfold sa0
    refine ⟨?_, ?_, ?_⟩ <;> rw [if_neg (by omega), if_neg (by omega), if_neg (by omega), if_neg (by omega)]
  have bz : ∀ j, 202 ≤ j → j < 290 → sa0 j = 0 := fun j j1 j2 => by
    unfold sa0
    rw [if_neg (by omega), if_neg (by omega), if_neg (by omega), if_neg (by omega)]
  have lz : ∀ k, k < 6 → sa0 (290 + 3 * k) = 3 ∧ sa0 (291 + 3 * k) = 20 ∧ sa0 (292 + 3 * k) = 0 := by decide
  refine ⟨⟨⟨?_, ?_, ?_, ?_, ?_, ?_, fun c hc => ?_, fun b hb => ?_, fun k hk => ?_⟩, fun c hc => ?_, fun b hb => ?_, ⟨?_, fun k hk => ?_⟩, Or.inr rfl, by show 0 < 16; decide, ?_, ?_⟩, n4⟩
  · rw [e0]; exact x.2
  · rw [e1]; exact y.2
  · rw [z2]; decide
  · rw [g 3 (by decide) (by decide)]; decide
  · rw [g 4 (by decide) (by decide)]; decide
  · rw [g 5 (by decide) (by decide)]; decide
  · rw [g (10 + 3 * c) (by omega) (by omega), g (11 + 3 * c) (by omega) (by omega), g (12 + 3 * c) (by omega) (by omega), (cz c hc).1, (cz c hc).2.1, (cz c hc).2.2]
    decide
  · rw [z2] at hb
    exact absurd hb (Int.not_lt.mpr (Int.ofNat_nonneg _))
  · rw [g (290 + 3 * k) (by omega) (by omega), g (291 + 3 * k) (by omega) (by omega), g (292 + 3 * k) (by omega) (by omega), (lz k hk).1, (lz k hk).2.1, (lz k hk).2.2]
    decide
  · rw [g (11 + 3 * c) (by omega) (by omega), g (12 + 3 * c) (by omega) (by omega), (cz c hc).2.1, (cz c hc).2.2]
  · rw [g (205 + 12 * b) (by omega) (by omega), g (203 + 12 * b) (by omega) (by omega), g (206 + 12 * b) (by omega) (by omega), g (204 + 12 * b) (by omega) (by omega), g (210 + 12 * b) (by omega) (by omega), g (211 + 12 * b) (by omega) (by omega), g (212 + 12 * b) (by omega) (by omega)]
    rw [bz (205 + 12 * b) (by omega) (by omega), bz (203 + 12 * b) (by omega) (by omega), bz (206 + 12 * b) (by omega) (by omega), bz (204 + 12 * b) (by omega) (by omega), bz (210 + 12 * b) (by omega) (by omega), bz (211 + 12 * b) (by omega) (by omega), bz (212 + 12 * b) (by omega) (by omega)]
    exact ⟨rfl, rfl, rfl, rfl, rfl⟩
  · rw [g 3 (by decide) (by decide)]; decide
  · rw [g (292 + 3 * k) (by omega) (by omega), (lz k hk).2.2]
  · exact ⟨Or.inl ⟨rfl, by decide, by decide, rfl⟩, by show 1 ≤ 1000; decide⟩
  · exact ⟨Or.inr (Or.inl ⟨rfl, by decide, by decide, rfl⟩), by show 1 ≤ 1000; decide⟩
def SCl : List (Nat × Nat) := [(4, 0), (4, 1), (4, 2), (4, 3), (4, 4), (15, 2), (18, 2)]
def ACl : List Nat := [5, 6, 13, 14, 16, 19]
theorem c_onlyS {X : mXX} {d : Nat} {Q : Option mV → mS → Prop} {σ α : Nat → Nat → Int} {c : Int} {q : Int × Int} (hc : c = ecl q) (h : ∀ σ' α', Fσ [(15, 2)] σ σ' → Fα [16] α α' → LC 15 16 σ' α' [q] → Q none (S0, σ', α')) : Ca X (d + 2) 40 [vR 15, vI c] (S0, σ, α) Q :=
  vc40r15_0 (c_putS (P := []) ⟨up_s, trivial⟩ (by decide) hc (fun σ' α' F E l => vc40r15_10 (h σ' α' ((Fσ.up (by decide)).tr F) E l)))
theorem c_onlyW {X : mXX} {d : Nat} {Q : Option mV → mS → Prop} {σ α : Nat → Nat → Int} {c : Int} {q : Int × Int} (hc : c = ecl q) (h : ∀ σ' α', Fσ [(18, 2)] σ σ' → Fα [19] α α' → LC 18 19 σ' α' [q] → Q none (S0, σ', α')) : Ca X (d + 2) 40 [vR 18, vI c] (S0, σ, α) Q :=
  vc40r18_0 (c_putW (P := []) ⟨up_s, trivial⟩ (by decide) hc (fun σ' α' F E l => vc40r18_10 (h σ' α' ((Fσ.up (by decide)).tr F) E l)))
theorem c_clear {X : mXX} {d : Nat} {Q : Option mV → mS → Prop} {σ α : Nat → Nat → Int} (h : ∀ σ' α', Fσ SCl σ σ' → Fα ACl α α' → (σ' 4 2 = 0 ∧ σ' 4 3 = 10 ∧ σ' 4 4 = 20) → (∀ c, c < 64 → α' 5 c = 0 ∧ α' 6 c = 0) → (∀ k, k < 6 → α' 13 k = 3 ∧ α' 14 k = 20) → LC 15 16 σ' α' [(1, 10)] → LC 18 19 σ' α' [(2, 3)] → Q none (S0, σ', α')) : Ca X (d + 3) 1 [vR 4] (S0, σ, α) Q := by
  refine vc1_0 (c_fill5 (fun α1 E1 f1 => vc1_35 (c_fill6 (fun α2 E2 f2 => vc1_43 (c_fill13 (fun α3 E3 f3 => vc1_51 (c_fill14 (fun α4 E4 f4 => vc1_60 (c_onlyS (q := (1, 10)) rfl (fun σ5 α5 F5 E5 l5 => vc1_69 (c_onlyW (q := (2, 3)) rfl (fun σ6 α6 F6 E6 l6 => vc1_77 ?_))))))))))))
  have F0 : Fσ SCl σ (mUp (mUp (mUp (mUp (mUp σ 4 0 2) 4 1 2) 4 2 0) 4 3 10) 4 4 20) := ((((Fσ.up (by decide)).tr (Fσ.up (by decide))).tr (Fσ.up (by decide))).tr (Fσ.up (by decide))).tr (Fσ.up (by decide))
  refine h σ6 α6 ((F0.tr (F5.wk (by decide))).tr (F6.wk (by decide))) ((((((E1.wk (by decide)).tr (E2.wk (by decide))).tr (E3.wk (by decide))).tr (E4.wk (by decide))).tr (E5.wk (by decide))).tr (E6.wk (by decide))) ⟨?_, ?_, ?_⟩ (fun c hc => ⟨?_, ?_⟩) (fun k hk => ⟨?_, ?_⟩) ?_ l6
  · rw [F6 4 2 (by decide), F5 4 2 (by decide), up_n (by decide), up_n (by decide), up_s]
  · rw [F6 4 3 (by decide), F5 4 3 (by decide), up_n (by decide), up_s]
  · rw [F6 4 4 (by decide), F5 4 4 (by decide), up_s]
  · rw [E6 5 (by decide), E5 5 (by decide), E4 5 (by decide), E3 5 (by decide), E2 5 (by decide)]; exact f1 c hc
  · rw [E6 6 (by decide), E5 6 (by decide), E4 6 (by decide), E3 6 (by decide)]; exact f2 c hc
  · rw [E6 13 (by decide), E5 13 (by decide), E4 13 (by decide)]; exact f3 k hk
  · rw [E6 14 (by decide), E5 14 (by decide)]; exact f4 k hk
  · unfold LC
    rw [F6 15 2 (by decide), E6 16 (by decide)]; exact l5
/-- the class reads all lines -/
theorem c_loop {X : mXX} {d : Nat} {Q : Option mV → mS → Prop} {T : Nat → Int} {N : Nat} (ok : okT T N) : ∀ (f i : Nat) (s : bSt) (ln : Nat) (σ α : Nat → Nat → Int), N - i < f → α 2 = T → CTk σ T N i → NE T N i → DR T N σ α s → SW s → s.2.2.1.2.2 ≤ i → ln ≤ i → σ 3 6 = 0 → ((byR T N f i s).1 = 0 → ∀ σ' α', Fσ SB σ σ' → Fα AB α α' → DR T N σ' α' (byR T N f i s).2 → Q (some (vI 0)) (S0, σ', α')) → ((byR T N f i s).1 ≠ 0 → ∀ σ' α', Fσ SB σ σ' → Fα AB α α' → Q (some (vI (byR T N f i s).1)) (S0, σ', α')) → Go X (d + 82) 76 36 [some (vR 3), some (vI 1), some (vI (ln : Int))] [] (S0, σ, α) (0, 0) Q
  | 0, _, _, _, _, _, h, _, _, _, _, _, _, _, _, _, _ => absurd h (Nat.not_lt_zero _)
  | f + 1, i, s, ln, σ, α, h, hT, C, ne, D, w, hc, hl, e6, h1, h0 => by
    unfold byR at h1 h0
    have iN := ne_b ne
    have oN := ok.1
    have e4 := C.2.2.2.1
    have fin : kdI T N i = 0 → Q (some (vI (σ 3 6))) (S0, σ, α) := fun q => by
      rw [if_pos q] at h1
      rw [e6]
      exact h1 rfl σ α (fun _ _ _ => rfl) Fα.rf D
    refine vc76_36 ⟨fun z => fin ?_, fun z => ⟨fun y => absurd y (by decide), fun _ => ⟨fun y => fin (by rw [← e4]; exact y), fun y => ?_⟩⟩⟩
    · by_cases q : kdI T N i = 0
      · exact q
      · have n1 := ne_b (ne.s q)
        exact absurd (by clear q e4 h1 h0; omega) z
    · rw [e4] at y
      rw [if_neg y] at h1 h0
      have n1 := ne_b (ne.s y)
      have eln := wrS (k := ln) (by clear e4 h1 h0 y; omega)
      refine c_line hT ok C ne D w ⟨fun e σ1 α1 F1 E1 C1 D1 => vc76_61 ?_, fun e σ1 α1 F1 E1 g6 => vc76_61 ?_⟩
      · rw [if_pos e] at h1 h0
        have g := ln_ok ok.1 w ne hc e
        have g3 := g.2.2.1
        rw [eln]
        exact c_loop ok f _ _ (ln + 1) σ1 α1 (by clear e4 h1 h0 y e eln; omega) ((E1 2 (by decide)).trans hT) C1 g.2.1 D1 g.1 g.2.2.2 (Nat.lt_of_le_of_lt hl g3) ((F1 3 6 (by decide)).trans e6) (fun e' σ' α' F' E' D' => h1 e' σ' α' ((F1.wk SBw).tr F') (E1.tr E') D') (fun e' σ' α' F' E' => h0 e' σ' α' ((F1.wk SBw).tr F') (E1.tr E'))
      · rw [if_neg e] at h0
        have r := h0 e σ1 α1 F1 E1
        refine vc76_36 ⟨fun _ => by rw [g6]; exact r, fun _ => ⟨fun _ => by rw [g6]; exact r, fun u => absurd rfl u⟩⟩
theorem c_read {X : mXX} {d : Nat} {Q : Option mV → mS → Prop} {σ α : Nat → Nat → Int} {T : Nat → Int} {N : Nat} {ρ : Nat → Int} (hT : α 2 = T) (ok : okT T N) (e11 : σ 1 1 = (N : Int)) (hρ : ∀ j, j < 320 → ρ j = sa0 j) (h1 : (ryR T N ρ).1 = 0 → ∀ σ' α', Fσ SB σ σ' → Fα AB α α' → DR T N σ' α' (ryR T N ρ).2 → Q (some (vI 0)) (S0, σ', α')) (h0 : (ryR T N ρ).1 ≠ 0 → ∀ σ' α', Fσ SB σ σ' → Fα AB α α' → Q (some (vI (ryR T N ρ).1)) (S0, σ', α')) : Ca X (d + 83) 76 [vR 3] (S0, σ, α) Q := by
  refine vc76_0 (c_clear (fun σ1 α1 F1 E1 c1 c2 c3 l1 l2 => vc76_7 ?_))
  have F2 : Fσ SB σ (mUp (mUp (mUp σ1 3 4 0) 3 5 0) 3 6 0) := (((F1.wk (by decide)).tr (Fσ.up (by decide))).tr (Fσ.up (by decide))).tr (Fσ.up (by decide))
  have g34 : mUp (mUp (mUp σ1 3 4 0) 3 5 0) 3 6 0 3 4 = 0 := by rw [up_n (by decide), up_n (by decide), up_s]
  have g35 : mUp (mUp (mUp σ1 3 4 0) 3 5 0) 3 6 0 3 5 = 0 := by rw [up_n (by decide), up_s]
  have g36 : mUp (mUp (mUp σ1 3 4 0) 3 5 0) 3 6 0 3 6 = 0 := up_s
  have G2 : Fσ [(3, 4), (3, 5), (3, 6)] σ1 (mUp (mUp (mUp σ1 3 4 0) 3 5 0) 3 6 0) := ((Fσ.up (by decide)).tr (Fσ.up (by decide))).tr (Fσ.up (by decide))
  generalize mUp (mUp (mUp σ1 3 4 0) 3 5 0) 3 6 0 = σ2 at *
  have hT1 : α1 2 = T := (E1 2 (by decide)).trans hT
  have e11' : mUp σ2 1 3 0 1 1 = (N : Int) := by rw [up_n (by decide), F2 1 1 (by decide)]; exact e11
  refine vc67_0 (c_advP (i := 0) hT1 ok e11' up_s (fun σ3 F3 C3 => vc67_9 (vc76_29 ?_)))
  have F3' : Fσ S5 σ2 σ3 := (Fσ.up (by decide)).tr F3
  have AA : ∀ q ∈ ACl, q ∈ AB := by decide
  unfold ryR at h1 h0
  refine c_bayLine hT1 ok C3 (fun b σ4 F4 C4 x y => vc76_33 ?_) (fun b σ4 F4 e6 => vc76_33 ?_)
  · rw [if_pos b] at h1 h0
    have io := iS_ok hρ b
    have F24 : Fσ SB σ σ4 := (F2.tr (F3'.wk (by decide))).tr (F4.wk (by decide))
    have t4 : ∀ a k, (a, k) ∉ ((4, 0) :: (4, 1) :: STg) → (a, k) ∉ S5 → σ4 a k = σ2 a k := fun a k p q => (F4 a k p).trans (F3' a k q)
    have z2 : (iS T N ρ).1 2 = 0 := by
      show rU (rU ρ 0 (nbI T N 1)) 1 (nbI T N 2) 2 = 0
      rw [rU_n (by decide), rU_n (by decide), hρ 2 (by decide)]; decide
    have g : ∀ j, 2 ≤ j → j < 320 → (iS T N ρ).1 j = sa0 j := fun j j1 j2 => by
      show rU (rU ρ 0 (nbI T N 1)) 1 (nbI T N 2) j = _
      rw [rU_n (by omega), rU_n (by omega)]; exact hρ j j2
    have D : DR T N σ4 α1 (iS T N ρ) := by
      refine ⟨⟨?_, ?_, ?_, ?_, ?_⟩, fun c hc => ?_, fun b hb => ?_, fun k hk => ?_, ?_, ?_, ?_, ?_⟩
      · rw [x]
        show _ = rU (rU ρ 0 (nbI T N 1)) 1 (nbI T N 2) 0
        rw [rU_n (by decide), rU_s]
      · rw [y]
        show _ = rU (rU ρ 0 (nbI T N 1)) 1 (nbI T N 2) 1
        rw [rU_s]
      · rw [t4 4 2 (by decide) (by decide), G2 4 2 (by decide), c1.1, z2]
      · rw [t4 4 3 (by decide) (by decide), G2 4 3 (by decide), c1.2.1, g 4 (by decide) (by decide)]; decide
      · rw [t4 4 4 (by decide) (by decide), G2 4 4 (by decide), c1.2.2, g 5 (by decide) (by decide)]; decide
      · rw [(c2 c hc).1, (c2 c hc).2, g (10 + 3 * c) (by omega) (by omega), g (11 + 3 * c) (by omega) (by omega)]
        unfold sa0
        exact ⟨by rw [if_neg (by omega), if_neg (by omega), if_neg (by omega), if_neg (by omega)], by rw [if_neg (by omega), if_neg (by omega), if_neg (by omega), if_neg (by omega)]⟩
      · rw [z2] at hb
        exact absurd hb (Int.not_lt.mpr (Int.ofNat_nonneg _))
      · have lz : ∀ k, k < 6 → sa0 (290 + 3 * k) = 3 ∧ sa0 (291 + 3 * k) = 20 := by decide
        rw [(c3 k hk).1, (c3 k hk).2, g (290 + 3 * k) (by omega) (by omega), g (291 + 3 * k) (by omega) (by omega), (lz k hk).1, (lz k hk).2]
        exact ⟨rfl, rfl⟩
      · unfold LC
        rw [t4 15 2 (by decide) (by decide), G2 15 2 (by decide)]; exact l1
      · unfold LC
        rw [t4 18 2 (by decide) (by decide), G2 18 2 (by decide)]; exact l2
      · rw [t4 3 4 (by decide) (by decide), g34]; rfl
      · rw [t4 3 5 (by decide) (by decide), g35]; rfl
    have e6 : σ4 3 6 = 0 := (t4 3 6 (by decide) (by decide)).trans g36
    have N1 := ok.1
    exact c_loop ok 1001 4 (iS T N ρ) 0 σ4 α1 (by clear h1 h0 e6 z2 x y e11 e11' g34 g35 g36 c1; omega) hT1 C4 io.2 D io.1 (Nat.zero_le _) (Nat.zero_le _) e6 (fun e' σ' α' F' E' D' => h1 e' σ' α' (F24.tr F') ((E1.wk AA).tr E') D') (fun e' σ' α' F' E' => h0 e' σ' α' (F24.tr F') ((E1.wk AA).tr E'))
  · rw [if_neg b] at h0
    have r := h0 b σ4 α1 ((F2.tr (F3'.wk (by decide))).tr (F4.wk (by decide))) (E1.wk AA)
    exact vc76_36 ⟨fun _ => by rw [e6]; exact r, fun _ => ⟨fun _ => by rw [e6]; exact r, fun u => absurd rfl u⟩⟩
