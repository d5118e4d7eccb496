/-! The reference reads a bay -/
theorem m_line {X : mXX} {d : Nat} {Q : Option mV → mS → Prop} {σ α : Nat → Nat → Int} {T : Nat → Int} {N i : Nat} {s : bSt} (M : MC α T N) (S : MS σ T N i 0) (D : DM T N σ α s) (w : SW s) (hc : s.2.2.1.2.2 ≤ i) (hq : mLn T N (lneR T N s i) σ α Q) : Ca X (d + 62) 142 [vR 104] (S0, σ, α) Q := by
  unfold lneR at hq
  have nx : ∀ {w : Nat}, ((0 : Int) = 0 → twI T N i ≠ w) → ¬ twI T N i = w := fun h => h rfl
  have tos : ∀ (pc : Nat) (r : bLn), (∀ σ' α', Go X (d + 61) 142 102 [some (vR 104)] [] (S0, σ', α') (0, 0) Q → Go X (d + 61) 142 pc [some (vR 104)] [] (S0, σ', α') (0, 0) Q) → mLn T N r σ α Q → mLn T N r σ α (fun _ s' => Go X (d + 61) 142 pc [some (vR 104)] [] s' (0, 0) Q) := fun pc r h g σ' α' f' i' s' a b c e u v => h σ' α' (vc142_102 (g σ' α' f' i' s' a b c e u v))
  refine vc142_0 (m_isWord (w := 1) M S (by decide) (by decide) (fun _ q => vc142_5 ⟨fun _ => ?_, fun y => absurd y (by decide)⟩) (fun q1 => vc142_5 ⟨fun y => absurd rfl y, fun _ => ?_⟩))
  · rw [if_pos q] at hq
    exact m_rock M S D w q (tos 20 _ (fun _ _ h => vc142_20 h) hq)
  rw [if_neg (nx q1)] at hq
  refine m_isWord (w := 2) M S (by decide) (by decide) (fun _ q => vc142_13 ⟨fun y => absurd y (by decide), fun _ => ?_⟩) (fun q2 => vc142_13 ⟨fun _ => ?_, fun y => absurd rfl y⟩)
  · rw [if_pos q] at hq
    exact m_shoal M S D w q (tos 20 _ (fun _ _ h => vc142_20 h) hq)
  rw [if_neg (nx q2)] at hq
  refine m_isWord (w := 3) M S (by decide) (by decide) (fun _ q => vc142_28 ⟨fun y => absurd y (by decide), fun _ => ?_⟩) (fun q3 => vc142_28 ⟨fun _ => ?_, fun y => absurd rfl y⟩)
  · rw [if_pos q] at hq
    exact m_boatL M S D w q (tos 35 _ (fun _ _ h => vc142_35 h) hq)
  rw [if_neg (nx q3)] at hq
  refine m_isWord (w := 4) M S (by decide) (by decide) (fun _ q => vc142_44 ⟨fun y => absurd y (by decide), fun _ => ?_⟩) (fun q4 => vc142_44 ⟨fun _ => ?_, fun y => absurd rfl y⟩)
  · rw [if_pos q] at hq
    exact m_cable M S D w q (tos 51 _ (fun _ _ h => vc142_51 h) hq)
  rw [if_neg (nx q4)] at hq
  refine m_isWord (w := 5) M S (by decide) (by decide) (fun _ q => vc142_60 ⟨fun _ => ?_, fun y => absurd y (by decide)⟩) (fun q5 => vc142_60 ⟨fun y => absurd rfl y, fun _ => ?_⟩)
  · rw [if_pos q] at hq
    exact m_swellL M S D w hc q (tos 94 _ (fun _ _ h => vc142_94 h) hq)
  rw [if_neg (nx q5)] at hq
  refine m_isWord (w := 6) M S (by decide) (by decide) (fun _ q => vc142_69 ⟨fun _ => ?_, fun y => absurd y (by decide)⟩) (fun q6 => vc142_69 ⟨fun y => absurd rfl y, fun _ => ?_⟩)
  · rw [if_pos q] at hq
    exact m_wishL M S D w hc q (tos 94 _ (fun _ _ h => vc142_94 h) hq)
  rw [if_neg (nx q6)] at hq
  refine m_isWord (w := 7) M S (by decide) (by decide) (fun _ q => vc142_78 ⟨fun _ => ?_, fun y => absurd y (by decide)⟩) (fun q7 => vc142_78 ⟨fun y => absurd rfl y, fun _ => ?_⟩)
  · rw [if_pos q] at hq
    exact m_gales M S D w q (tos 94 _ (fun _ _ h => vc142_94 h) hq)
  rw [if_neg (nx q7)] at hq
  refine m_isWord (w := 8) M S (by decide) (by decide) (fun _ q => vc142_87 ⟨fun y => absurd y (by decide), fun _ => ?_⟩) (fun q8 => vc142_87 ⟨fun _ => ?_, fun y => absurd rfl y⟩)
  · rw [if_pos q] at hq
    exact m_loose M S D w q (tos 94 _ (fun _ _ h => vc142_94 h) hq)
  rw [if_neg (nx q8)] at hq
  refine m_wrong (j := i) M S (by decide) (fun σ1 F1 T1 => vc142_102 ?_)
  rw [ft_0] at T1
  exact hq σ1 α (fa T N 1 i) i s (F1.wk (by decide)) FM.rf T1 (fun y => absurd y (fa_0 (by decide))) (ft_n (fa_0 (by decide))).symm (fun y => absurd y (fa_0 (by decide)))
/-- as always -/
def sz0 (j : Nat) : Int := if j = 4 then 10 else if j = 5 then 20 else if j = 6 ∨ j = 7 then -1 else 0
def szK (k j : Nat) : Int := if 290 ≤ j ∧ j < 290 + 3 * k then (if (j - 290) % 3 = 0 then 3 else if (j - 290) % 3 = 1 then 20 else 0) else sz0 j
theorem sz_6 {j : Nat} : szK 6 j = sa0 j := by
  unfold szK sa0 sz0
  by_cases a : 290 ≤ j ∧ j < 308
  · rw [if_pos (show 290 ≤ j ∧ j < 290 + 3 * 6 from a), if_neg (show ¬ j = 4 by omega), if_neg (show ¬ j = 5 by omega), if_neg (show ¬ (j = 6 ∨ j = 7) by omega), if_pos a]
  · rw [if_neg (show ¬ (290 ≤ j ∧ j < 290 + 3 * 6) from a), if_neg a]
theorem sz_s {k j : Nat} : szK (k + 1) j = if j = 291 + 3 * k then 20 else if j = 290 + 3 * k then 3 else szK k j := by
  unfold szK
  by_cases a : j = 291 + 3 * k
  · rw [if_pos a, if_pos (by omega), if_neg (by omega), if_pos (by omega)]
  · rw [if_neg a]
    by_cases b : j = 290 + 3 * k
    · rw [if_pos b, if_pos (by omega), if_pos (by omega)]
    · rw [if_neg b]
      by_cases c : 290 ≤ j ∧ j < 290 + 3 * k
      · rw [if_pos c, if_pos (by omega)]
      · rw [if_neg c]
        by_cases e : j = 292 + 3 * k
        · rw [if_pos (by omega), if_neg (by omega), if_neg (by omega)]
          unfold sz0
          rw [if_neg (by omega), if_neg (by omega), if_neg (by omega)]
        · rw [if_neg (by omega)]
theorem m_stands {X : mXX} {d : Nat} {Q : Option mV → mS → Prop} {σ α : Nat → Nat → Int} (h : ∀ α', Fα [110] α α' → (∀ j, j < 320 ∨ 640 ≤ j → α' 110 j = α 110 j) → (∀ j, j < 320 → dfR α' j = sa0 j) → Q none (S0, σ, α')) : Ca X (d + 1) 128 [vR 104, vI 320] (S0, σ, α) Q := by
  refine vc128_0 ?_
  have l2 : ∀ (g k : Nat) (γ : Nat → Nat → Int), k + g = 6 → Fα [110] α γ → (∀ j, j < 320 ∨ 640 ≤ j → γ 110 j = α 110 j) → (∀ j, j < 320 → dfR γ j = szK k j) → Go X d 128 68 [some (vR 104), some (vI 320), some (vI (k : Int))] [] (S0, σ, γ) (0, 0) Q := by
    intro g
    induction g with
    | zero =>
      intro k γ hk E o z
      have ek : k = 6 := hk
      subst ek
      exact vc128_68 ⟨fun _ => h γ E o (fun j hj => (z j hj).trans sz_6), fun y => absurd y (by decide)⟩
    | succ g ih =>
      intro k γ hk E o z
      have k6 : k < 6 := by clear z o; omega
      have kl : (k : Int) < 6 := by clear z o; omega
      have x1 : wr (wr (320 + 290) + wr (3 * (k : Int))) = ((610 + 3 * k : Nat) : Int) := by
        clear z o
        rw [wr_of (x := 320 + 290) (by decide) (by decide), wr_of (x := 3 * (k : Int)) (by omega) (by omega), wr_of (by omega) (by omega)]; omega
      have x2 : wr (((610 + 3 * k : Nat) : Int) + 1) = ((611 + 3 * k : Nat) : Int) := by
        clear z o x1
        rw [wr_of (by omega) (by omega)]; omega
      have ek := wrS (k := k) (by clear z o x1 x2; omega)
      refine vc128_68 ⟨fun y => absurd kl y, fun _ => ?_⟩
      rw [x1, x2, Int.toNat_natCast, Int.toNat_natCast, ek]
      refine ⟨mInA_n (by clear z o x1 x2 ek; omega), mInA_n (by clear z o x1 x2 ek; omega), ?_⟩
      refine ih (k + 1) _ (by clear z o x1 x2 ek; omega) ((E.tr (Fα.up (by decide))).tr (Fα.up (by decide))) (fun j hj => ?_) (fun j hj => ?_)
      · rw [up_a, if_neg (by clear z o x1 x2 ek; omega), up_a, if_neg (by clear z o x1 x2 ek; omega)]; exact o j hj
      · rw [df_u (j := 291 + 3 * k) (by clear z o x1 x2 ek; omega), df_u (j := 290 + 3 * k) (by clear z o x1 x2 ek; omega), sz_s]
        unfold rU
        rw [z j hj]
  have l1 : ∀ (g k : Nat) (γ : Nat → Nat → Int), k + g = 320 → Fα [110] α γ → (∀ j, j < 320 ∨ 640 ≤ j → γ 110 j = α 110 j) → (∀ j, j < k → dfR γ j = 0) → Go X d 128 2 [some (vR 104), some (vI 320), some (vI (k : Int))] [] (S0, σ, γ) (0, 0) Q := by
    intro g
    induction g with
    | zero =>
      intro k γ hk E o z
      have ek : k = 320 := hk
      subst ek
      refine vc128_2 ⟨fun _ => ⟨mInA_n (i := 324) (by decide), mInA_n (i := 325) (by decide), mInA_n (i := 326) (by decide), mInA_n (i := 327) (by decide), ?_⟩, fun y => absurd y (by decide)⟩
      show Go X d 128 68 [some (vR 104), some (vI 320), some (vI 0)] [] (S0, σ, mUp (mUp (mUp (mUp γ 110 324 10) 110 325 20) 110 326 (-1)) 110 327 (-1)) (0, 0) Q
      refine l2 6 0 _ rfl ((((E.tr (Fα.up (by decide))).tr (Fα.up (by decide))).tr (Fα.up (by decide))).tr (Fα.up (by decide))) (fun j hj => ?_) (fun j hj => ?_)
      · rw [up_a, if_neg (by clear z o; omega), up_a, if_neg (by clear z o; omega), up_a, if_neg (by clear z o; omega), up_a, if_neg (by clear z o; omega)]; exact o j hj
      · rw [df_u (j := 7) (by decide), df_u (j := 6) (by decide), df_u (j := 5) (by decide), df_u (j := 4) (by decide)]
        unfold szK sz0 rU
        rw [if_neg (show ¬ (290 ≤ j ∧ j < 290 + 3 * 0) by omega), z j hj]
        by_cases a7 : j = 7
        · subst a7; decide
        · rw [if_neg a7]
          by_cases a6 : j = 6
          · subst a6; decide
          · rw [if_neg a6]
            by_cases a5 : j = 5
            · subst a5; decide
            · rw [if_neg a5]
              by_cases a4 : j = 4
              · subst a4; decide
              · rw [if_neg a4, if_neg a4, if_neg a5, if_neg (by omega)]
    | succ g ih =>
      intro k γ hk E o z
      have k6 : k < 320 := by clear z o; omega
      have kl : (k : Int) < 320 := by clear z o; omega
      have x1 : wr (320 + (k : Int)) = ((320 + k : Nat) : Int) := by
        clear z o
        rw [wr_of (by omega) (by omega)]; omega
      have ek := wrS (k := k) (by clear z o x1; omega)
      refine vc128_2 ⟨fun y => absurd kl y, fun _ => ?_⟩
      rw [x1, Int.toNat_natCast, ek]
      refine ⟨mInA_n (by clear z o x1 ek; omega), ?_⟩
      refine ih (k + 1) _ (by clear z o x1 ek; omega) (E.tr (Fα.up (by decide))) (fun j hj => ?_) (fun j hj => ?_)
      · rw [up_a, if_neg (by clear z o x1 ek; omega)]; exact o j hj
      · rw [df_u (j := k) rfl]
        by_cases e : j = k
        · rw [e, rU_s]
        · rw [rU_n e]; exact z j (Nat.lt_of_le_of_ne (Nat.lt_succ_iff.mp hj) e)
  exact l1 320 0 α rfl Fα.rf (fun _ _ => rfl) (fun j hj => absurd hj (Nat.not_lt_zero j))
theorem m_loop {X : mXX} {d : Nat} {Q : Option mV → mS → Prop} {T : Nat → Int} {N : Nat} : ∀ (f i : Nat) (s : bSt) (σ α : Nat → Nat → Int), N - i < f → MC α T N → MS σ T N i 0 → DM T N σ α s → SW s → s.2.2.1.2.2 ≤ i → ((byR T N f i s).1 = 0 → ∀ σ' α', Fσ SMm σ σ' → FM α α' → DM T N σ' α' (byR T N f i s).2 → Ca X (d + 62) 157 [vR 104, vI 1, vI 0] (S0, σ', α') (fun r s' => Go X (d + 62) 129 122 [some (vR 104), none] [] s' (0, 0) Q)) → ((byR T N f i s).1 ≠ 0 → ∀ σ' α', Fσ SMm σ σ' → FM α α' → Q (some (vI (byR T N f i s).1)) (S0, σ', α')) → Go X (d + 62) 129 72 [some (vR 104), none] [] (S0, σ, α) (0, 0) Q
  | 0, _, _, _, _, h, _, _, _, _, _, _, _ => absurd h (Nat.not_lt_zero _)
  | f + 1, i, s, σ, α, h, M, S, D, w, hc, h1, h0 => by
    unfold byR at h1 h0
    obtain ⟨ib, e7, mi, ne⟩ := S.i M
    have srt := (sr_k (kd_r (T := T) (N := N) (i := i))).1
    refine vc129_72 ⟨fun z => absurd S.1 z, fun _ => ?_⟩
    rw [e7, Int.toNat_natCast, mi.1]
    refine ⟨ib, fun z => ⟨fun _ => ?_, fun y => absurd y (by rw [S.1]; decide)⟩, fun z => ?_⟩
    · have q := srt.mp z
      rw [if_pos q] at h1
      exact h1 rfl σ α (fun _ _ _ => rfl) FM.rf D
    · have q : ¬ kdI T N i = 0 := fun y => z (srt.mpr y)
      rw [if_neg q] at h1 h0
      refine m_line M S D w hc (fun σ1 α1 f' i' s' F1 U1 S1 D1 e e2 => vc129_95 ?_)
      refine m_takeSign (M.fm U1) S1 (fun σ2 F2 S2 => vc129_101 ?_)
      rw [← e] at S2
      have F12 : Fσ SMm σ σ2 := F1.tr (F2.wk (by decide))
      by_cases l0 : (lneR T N s i).1 = 0
      · rw [if_pos l0] at h1 h0
        have g := ln_ok M.2.2 w ne hc l0
        have f0 : f' = 0 := (ftz.mp (e.symm.trans l0)).1
        have ee := e2 f0
        rw [l0] at S2
        have n1 := ne_b (ne.s q)
        have g3 := g.2.2.1
        have D2 : DM T N σ2 α1 (lneR T N s i).2.2 := by
          rw [ee.2]
          have d1 := D1 f0
          refine ⟨d1.1, ?_, d1.2.2⟩
          rw [F2 104 13 (by decide), F2 104 15 (by decide), F2 104 16 (by decide)]; exact d1.2.1
        rw [← ee.1] at S2
        exact m_loop f _ _ σ2 α1 (by clear h1 h0 e e2 ee l0 f0 e7 q; omega) (M.fm U1) S2 D2 g.1 g.2.2.2 (fun e' σ' α' F' U' D' => h1 e' σ' α' (F12.tr F') (U1.tr U') D') (fun e' σ' α' F' U' => h0 e' σ' α' (F12.tr F') (U1.tr U'))
      · rw [if_neg l0] at h0
        have sp := S2.p l0
        have r := h0 l0 σ2 α1 F12 U1
        refine vc129_72 ⟨fun _ => ⟨fun y => absurd sp.2 y, fun _ => ?_⟩, fun y => absurd y sp.1⟩
        rw [S2.1]; exact r
/-- what the reference's draft is before a line is read -/
def rbR (α : Nat → Nat → Int) (j : Nat) : Int := if j < 320 then sa0 j else α 110 (320 + j)
theorem rb_lo {α : Nat → Nat → Int} {j : Nat} (h : j < 320) : rbR α j = sa0 j := if_pos h
/-- up to where the bay is told -/
theorem m_read {X : mXX} {d : Nat} {Q : Option mV → mS → Prop} {σ α : Nat → Nat → Int} {T : Nat → Int} {N : Nat} (hT : ∀ j, j < N → α 105 j = T j) (ok : okT T N) (s2 : σ 104 2 = (N : Int)) (wd : WDm α) (h1 : (ryR T N (rbR α)).1 = 0 → ∀ σ' α', Fσ ((104, 0) :: (104, 2) :: (104, 3) :: SMm) σ σ' → Fα [106, 107, 108, 110, 111, 112, 113] α α' → (∀ j, j < 320 ∨ 640 ≤ j → α' 110 j = α 110 j) → (∀ p, p < 1100 → α' 111 p = α 111 p ∧ α' 112 p = α 112 p) → σ' 104 2 = 0 → DM T N σ' α' (ryR T N (rbR α)).2 → Ca X (d + 62) 157 [vR 104, vI 1, vI 0] (S0, σ', α') (fun r s' => Go X (d + 62) 129 122 [some (vR 104), none] [] s' (0, 0) Q)) (h0 : (ryR T N (rbR α)).1 ≠ 0 → ∀ σ' α', Fσ ((104, 0) :: (104, 2) :: (104, 3) :: SMm) σ σ' → Fα [106, 107, 108, 110, 111, 112, 113] α α' → (∀ j, j < 320 ∨ 640 ≤ j → α' 110 j = α 110 j) → (∀ p, p < 1100 → α' 111 p = α 111 p ∧ α' 112 p = α 112 p) → σ' 104 2 = 0 → Q (some (vI (ryR T N (rbR α)).1)) (S0, σ', α')) : Ca X (d + 63) 129 [vR 104] (S0, σ, α) Q := by
  refine vc129_0 ?_
  refine m_cutAll (σ := mUp σ 104 0 0) hT ok (by rw [up_n (by decide)]; exact s2) (fun σ1 α1 F1 E1 t2 t7 t8 mt => vc129_9 ?_)
  refine m_stands (fun α2 E2 o2 z2 => vc129_31 ?_)
  have F2 : Fσ ((104, 0) :: (104, 2) :: (104, 3) :: SMm) σ (mUp (mUp (mUp σ1 104 13 0) 104 15 0) 104 16 0) := (((((Fσ.up (by decide)).tr (F1.wk (by decide))).tr (Fσ.up (by decide))).tr (Fσ.up (by decide))).tr (Fσ.up (by decide)))
  have g2 : mUp (mUp (mUp σ1 104 13 0) 104 15 0) 104 16 0 104 2 = 0 := by rw [up_n (by decide), up_n (by decide), up_n (by decide)]; exact t2
  have g7 : mUp (mUp (mUp σ1 104 13 0) 104 15 0) 104 16 0 104 7 = 0 := by rw [up_n (by decide), up_n (by decide), up_n (by decide)]; exact t7
  have g8 : mUp (mUp (mUp σ1 104 13 0) 104 15 0) 104 16 0 104 8 = 0 := by rw [up_n (by decide), up_n (by decide), up_n (by decide)]; exact t8
  have g13 : mUp (mUp (mUp σ1 104 13 0) 104 15 0) 104 16 0 104 13 = 0 := by rw [up_n (by decide), up_n (by decide), up_s]
  have g15 : mUp (mUp (mUp σ1 104 13 0) 104 15 0) 104 16 0 104 15 = 0 := by rw [up_n (by decide), up_s]
  have g16 : mUp (mUp (mUp σ1 104 13 0) 104 15 0) 104 16 0 104 16 = 0 := up_s
  generalize mUp (mUp (mUp σ1 104 13 0) 104 15 0) 104 16 0 = σ2 at *
  have M2 : MC α2 T N := ⟨mt.fr E2, (wd.fr E1).fr E2, ok.1⟩
  have n0 : NE T N 0 := fun j hj => absurd hj (Nat.not_lt_zero j)
  have S2 : MS σ2 T N 0 0 := ⟨g8, Int.le_refl _, fun _ => ⟨g7, n0⟩⟩
  have E12 : Fα [106, 107, 108, 110, 111, 112, 113] α α2 := (E1.wk (by decide)).tr (E2.wk (by decide))
  have p12 : ∀ p, p < 1100 → α2 111 p = α 111 p ∧ α2 112 p = α 112 p := fun p _ => by rw [E2 111 (by decide), E2 112 (by decide), E1 111 (by decide), E1 112 (by decide)]; exact ⟨rfl, rfl⟩
  have o12 : ∀ j, j < 320 ∨ 640 ≤ j → α2 110 j = α 110 j := fun j hj => by rw [o2 j hj, E1 110 (by decide)]
  have er : rbR α = dfR α2 := by
    funext j
    unfold rbR
    by_cases hj : j < 320
    · rw [if_pos hj]; exact (z2 j hj).symm
    · rw [if_neg hj]; exact (o12 (320 + j) (Or.inr (by clear h1 h0 z2 o12 o2; omega))).symm
  rw [er] at h1 h0
  have a1 := h1
  have a0 := h0
  clear h1 h0
  refine m_takeWord (w := 0) M2 S2 (by decide) (by decide) (fun σ3 F3 S3 => vc129_36 ?_)
  rw [ft_0] at S3
  refine m_takeNumber M2 S3 (fun σ4 v1 F4 S4 q1 _ => vc129_50 ⟨mInA_n (i := 320) (by decide), ?_⟩)
  show Ca X (d + 62) 139 [vR 104, vI 2, vI 8] (S0, σ4, mUp α2 110 320 v1) _
  have U4 : FM α2 (mUp α2 110 320 v1) := FM.u (by decide)
  refine m_takeNumber (M2.fm U4) S4 (fun σ5 v2 F5 S5' q2 _ => vc129_65 ⟨mInA_n (i := 321) (by decide), ?_⟩)
  show Ca X (d + 62) 140 [vR 104, vI 59] (S0, σ5, mUp (mUp α2 110 320 v1) 110 321 v2) _
  have U5 : FM α2 (mUp (mUp α2 110 320 v1) 110 321 v2) := U4.tr (FM.u (by decide))
  refine m_takeSign (M2.fm U5) S5' (fun σ6 F6 S6 => ?_)
  have eb : ft (ft (ft (wdF T N 0 0) (nbF T N 2 8 1)) (nbF T N 2 8 2)) (sgF T N 59 3) = byF T N := by
    unfold byF
    rw [ft_a, ft_a]
  rw [show ft (ft (ft (wdF T N 0 0) (nbF T N 2 8 (0 + 1))) (nbF T N 2 8 (0 + 1 + 1))) (sgF T N 59 (0 + 1 + 1 + 1)) = _ from eb] at S6
  have F26 : Fσ S78 σ2 σ6 := ((F3.tr F4).tr F5).tr F6
  have F06 : Fσ ((104, 0) :: (104, 2) :: (104, 3) :: SMm) σ σ6 := F2.tr (F26.wk (by decide))
  have h62 : σ6 104 2 = 0 := (F26 104 2 (by decide)).trans g2
  have out : ∀ σ' α', Fσ SMm σ6 σ' → FM (mUp (mUp α2 110 320 v1) 110 321 v2) α' → Fσ ((104, 0) :: (104, 2) :: (104, 3) :: SMm) σ σ' ∧ Fα [106, 107, 108, 110, 111, 112, 113] α α' ∧ (∀ j, j < 320 ∨ 640 ≤ j → α' 110 j = α 110 j) ∧ (∀ p, p < 1100 → α' 111 p = α 111 p ∧ α' 112 p = α 112 p) ∧ σ' 104 2 = 0 := by
    intro σ' α' F' U'
    have U := U5.tr U'
    refine ⟨F06.tr (F'.wk (by decide)), E12.tr (U.1.wk (by decide)), fun j hj => (U.2.1 j hj).trans (o12 j hj), fun p hp => ?_, (F' 104 2 (by decide)).trans h62⟩
    rw [(U.2.2 p hp).1, (U.2.2 p hp).2]; exact p12 p hp
  unfold ryR at a1 a0
  by_cases b0 : byF T N = 0
  · rw [if_pos b0] at a1 a0
    rw [b0] at S6
    have io := iS_ok z2 b0
    have y := ftz.mp (eb.trans b0)
    have y1 := ftz.mp y.1
    have ev1 : v1 = nbI T N 1 := q1 y1.1
    have ev2 : v2 = nbI T N 2 := q2 y.1
    have D6 : DM T N σ6 (mUp (mUp α2 110 320 v1) 110 321 v2) (iS T N (dfR α2)) := by
      refine ⟨?_, ⟨?_, ?_, ?_⟩, fun b hb => ?_, Or.inl ⟨?_, rfl⟩, Or.inl ⟨?_, rfl⟩⟩
      · rw [df_u (j := 1) (by decide), df_u (j := 0) (by decide), ev1, ev2]; rfl
      · rw [F26 104 13 (by decide)]; exact g13
      · rw [F26 104 15 (by decide)]; exact g15
      · rw [F26 104 16 (by decide)]; exact g16
      · have hb' : (b : Int) < rU (rU (dfR α2) 0 (nbI T N 1)) 1 (nbI T N 2) 2 := hb
        rw [rU_n (by decide), rU_n (by decide), z2 2 (by decide)] at hb'
        exact absurd hb' (Int.not_lt.mpr (Int.ofNat_nonneg _))
      · show rU (rU (dfR α2) 0 (nbI T N 1)) 1 (nbI T N 2) 6 = -1
        rw [rU_n (by decide), rU_n (by decide), z2 6 (by decide)]; decide
      · show rU (rU (dfR α2) 0 (nbI T N 1)) 1 (nbI T N 2) 7 = -1
        rw [rU_n (by decide), rU_n (by decide), z2 7 (by decide)]; decide
    have N1 := ok.1
    refine m_loop 1001 4 (iS T N (dfR α2)) σ6 _ (by clear a1 a0 h62 eb y y1 S6; omega) (M2.fm U5) S6 D6 io.1 (Nat.zero_le _) (fun e' σ' α' F' U' D' => ?_) (fun e' σ' α' F' U' => ?_)
    · obtain ⟨k1, k2, k3, k4, k5⟩ := out σ' α' F' U'
      exact a1 e' σ' α' k1 k2 k3 k4 k5 D'
    · obtain ⟨k1, k2, k3, k4, k5⟩ := out σ' α' F' U'
      exact a0 e' σ' α' k1 k2 k3 k4 k5
  · rw [if_neg b0] at a0
    obtain ⟨k1, k2, k3, k4, k5⟩ := out σ6 _ (fun _ _ _ => rfl) FM.rf
    have r := a0 b0 σ6 _ k1 k2 k3 k4 k5
    have sp := S6.p b0
    refine vc129_72 ⟨fun _ => ⟨fun y => absurd sp.2 y, fun _ => ?_⟩, fun y => absurd y sp.1⟩
    rw [S6.1]; exact r
