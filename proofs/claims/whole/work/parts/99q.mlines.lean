/-! The lines of the reference -/
theorem DM.rows {T : Nat → Int} {N : Nat} {σ σ' α α' : Nat → Nat → Int} {s : bSt} {ρ' : Nat → Int} (D : DM T N σ α s) (F : Fσ S78 σ σ') (hd : dfR α' = ρ') (E : Fα [110] α α') (e2 : ρ' 2 = s.1 2) (e6 : ρ' 6 = s.1 6) (e7 : ρ' 7 = s.1 7) : DM T N σ' α' (ρ', s.2) := by
  refine ⟨hd, ?_, fun b hb => ?_, ?_, ?_⟩
  · rw [F 104 13 (by decide), F 104 15 (by decide), F 104 16 (by decide)]; exact D.2.1
  · rw [E 113 (by decide)]
    exact D.2.2.1 b (by rw [← e2]; exact hb)
  · exact D.2.2.2.1.cg e6 (Nat.le_refl _) (fun p _ => by rw [E 111 (by decide), E 112 (by decide)]; exact ⟨rfl, rfl⟩)
  · exact D.2.2.2.2.cg e7 (Nat.le_refl _) (fun p _ => by rw [E 111 (by decide), E 112 (by decide)]; exact ⟨rfl, rfl⟩)
theorem mUp3 {α : Nat → Nat → Int} {c : Nat} {a b e : Int} (hc : c < 64) : dfR (mUp (mUp (mUp α 110 (330 + 3 * c) a) 110 (331 + 3 * c) b) 110 (332 + 3 * c) e) = rU (rU (rU (dfR α) (10 + 3 * c) a) (11 + 3 * c) b) (12 + 3 * c) e ∧ FM α (mUp (mUp (mUp α 110 (330 + 3 * c) a) 110 (331 + 3 * c) b) 110 (332 + 3 * c) e) := by
  refine ⟨?_, ((FM.u (by omega)).tr (FM.u (by omega))).tr (FM.u (by omega))⟩
  rw [df_u (j := 12 + 3 * c) (by omega), df_u (j := 11 + 3 * c) (by omega), df_u (j := 10 + 3 * c) (by omega)]
theorem m_rock {X : mXX} {d : Nat} {Q : Option mV → mS → Prop} {σ α : Nat → Nat → Int} {T : Nat → Int} {N i : Nat} {s : bSt} (M : MC α T N) (S : MS σ T N i 0) (D : DM T N σ α s) (w : SW s) (ht : twI T N i = 1) (hq : mLn T N (lnRock T N s i) σ α Q) : Ca X (d + 6) 143 [vR 104] (S0, σ, α) Q := by
  have S1 := S.nx M.2.2 (k_s (k_n ht (by decide)) (by decide))
  refine vc143_0 (m_isWord (w := 1) M S (by decide) (by decide) (fun _ _ => vc143_5 ⟨fun y => absurd y (by decide), fun _ => ?_⟩) (fun y => absurd ht (y rfl)))
  refine m_takeCell M S1 D.1 w (by decide) (fun σ2 v F2 S2 hv => ?_)
  have F12 : Fσ S78 σ σ2 := (Fσ.up (by decide)).tr F2
  rw [ft_0] at S2 hv
  refine vc143_30 ⟨fun y => absurd y (by decide), fun _ => ?_⟩
  by_cases q : cellF T N s.1 7 (i + 1) = 0
  · rw [hv q]
    have c6 := cell_6 w.1 q
    have i3 := ixm3 c6
    have u3 := mUp3 (α := α) (a := 1) (b := 0) (e := 0) c6
    refine vc143_47 ⟨fun y => absurd (by rw [S2.1]; exact q) y, fun _ => ⟨fun y => absurd y (by decide), fun _ => ?_⟩⟩
    rw [i3.1, i3.2.1, i3.2.2, Int.toNat_natCast, Int.toNat_natCast, Int.toNat_natCast]
    have c1 : 330 + 3 * celN T N (i + 1) < 2240 := by clear i3 u3 hv; omega
    have c2 : 331 + 3 * celN T N (i + 1) < 2240 := by clear i3 u3 hv; omega
    have c3 : 332 + 3 * celN T N (i + 1) < 2240 := by clear i3 u3 hv; omega
    refine ⟨mInA_n c1, fun y => absurd y (by decide), fun _ => ⟨mInA_n c2, fun y => absurd y (by decide), fun _ => ⟨mInA_n c3, ?_⟩⟩⟩
    refine hq σ2 _ (cellF T N s.1 7 (i + 1)) (i + 3) (lnRock T N s i).2.2 (F12.wk (by decide)) u3.2 S2 (fun _ => ?_) rfl (fun _ => ⟨rfl, rfl⟩)
    refine D.rows F12 ?_ (((Fα.up (by decide)).tr (Fα.up (by decide))).tr (Fα.up (by decide))) ?_ ?_ ?_
    · rw [u3.1, D.1]
    · rw [rU_n (by omega), rU_n (by omega), rU_n (by omega)]
    · rw [rU_n (by omega), rU_n (by omega), rU_n (by omega)]
    · rw [rU_n (by omega), rU_n (by omega), rU_n (by omega)]
  · refine vc143_47 ⟨fun _ => ?_, fun y => absurd y (by rw [S2.1]; exact q)⟩
    exact hq σ2 α (cellF T N s.1 7 (i + 1)) (i + 3) s (F12.wk (by decide)) FM.rf S2 (fun y => absurd y q) rfl (fun y => absurd y q)
theorem m_shoal {X : mXX} {d : Nat} {Q : Option mV → mS → Prop} {σ α : Nat → Nat → Int} {T : Nat → Int} {N i : Nat} {s : bSt} (M : MC α T N) (S : MS σ T N i 0) (D : DM T N σ α s) (w : SW s) (ht : twI T N i = 2) (hq : mLn T N (lnShoal T N s i) σ α Q) : Ca X (d + 6) 143 [vR 104] (S0, σ, α) Q := by
  have S1 := S.nx M.2.2 (k_s (k_n ht (by decide)) (by decide))
  refine vc143_0 (m_isWord (w := 1) M S (by decide) (by decide) (fun _ y => absurd (ht.symm.trans y) (by decide)) (fun _ => vc143_5 ⟨fun _ => ?_, fun y => absurd rfl y⟩))
  refine m_takeCell M S1 D.1 w (by decide) (fun σ2 v F2 S2 hv => ?_)
  have F12 : Fσ S78 σ σ2 := (Fσ.up (by decide)).tr F2
  rw [ft_0] at S2 hv
  refine vc143_30 ⟨fun _ => ?_, fun y => absurd rfl y⟩
  refine m_takeAfter (w := 22) M S2 (by decide) (by decide) (fun σ3 n F3 S3 hn _ => ?_)
  have F13 := F12.tr F3
  by_cases q : ft (ft (cellF T N s.1 3 (i + 1)) (wdF T N 22 (i + 3))) (nbF T N 1 99 (i + 4)) = 0
  · have q1 := (ftz.mp (ftz.mp q).1).1
    rw [hv q1, hn q]
    have c6 := cell_6 w.1 q1
    have i3 := ixm3 c6
    have u3 := mUp3 (α := α) (a := 0) (b := nbI T N (i + 4)) (e := nbI T N (i + 4)) c6
    refine vc143_47 ⟨fun y => absurd (by rw [S3.1]; exact q) y, fun _ => ⟨fun _ => ?_, fun y => absurd rfl y⟩⟩
    rw [i3.1, i3.2.1, i3.2.2, Int.toNat_natCast, Int.toNat_natCast, Int.toNat_natCast]
    have c1 : 330 + 3 * celN T N (i + 1) < 2240 := by clear i3 u3 hv hn q q1; omega
    have c2 : 331 + 3 * celN T N (i + 1) < 2240 := by clear i3 u3 hv hn q q1; omega
    have c3 : 332 + 3 * celN T N (i + 1) < 2240 := by clear i3 u3 hv hn q q1; omega
    refine ⟨mInA_n c1, fun _ => ⟨mInA_n c2, fun _ => ⟨mInA_n c3, ?_⟩, fun y => absurd rfl y⟩, fun y => absurd rfl y⟩
    refine hq σ3 _ (ft (ft (cellF T N s.1 3 (i + 1)) (wdF T N 22 (i + 3))) (nbF T N 1 99 (i + 4))) (i + 5) (lnShoal T N s i).2.2 (F13.wk (by decide)) u3.2 S3 (fun _ => ?_) rfl (fun _ => ⟨rfl, rfl⟩)
    refine D.rows F13 ?_ (((Fα.up (by decide)).tr (Fα.up (by decide))).tr (Fα.up (by decide))) ?_ ?_ ?_
    · rw [show dfR _ = _ from u3.1, D.1]
    · rw [rU_n (by omega), rU_n (by omega), rU_n (by omega)]
    · rw [rU_n (by omega), rU_n (by omega), rU_n (by omega)]
    · rw [rU_n (by omega), rU_n (by omega), rU_n (by omega)]
  · refine vc143_47 ⟨fun _ => ?_, fun y => absurd y (by rw [S3.1]; exact q)⟩
    exact hq σ3 α (ft (ft (cellF T N s.1 3 (i + 1)) (wdF T N 22 (i + 3))) (nbF T N 1 99 (i + 4))) (i + 5) s (F13.wk (by decide)) FM.rf S3 (fun y => absurd y q) rfl (fun y => absurd y q)
theorem m_cable {X : mXX} {d : Nat} {Q : Option mV → mS → Prop} {σ α : Nat → Nat → Int} {T : Nat → Int} {N i : Nat} {s : bSt} (M : MC α T N) (S : MS σ T N i 0) (D : DM T N σ α s) (w : SW s) (ht : twI T N i = 4) (hq : mLn T N (lnCable T N s i) σ α Q) : Ca X (d + 6) 148 [vR 104] (S0, σ, α) Q := by
  have S1 := S.nx M.2.2 (k_s (k_n ht (by decide)) (by decide))
  have e322 : α 110 322 = s.1 2 := df_v D.1 rfl
  have e15 := D.2.1.2.1
  have b2 := w.1.2.2.1
  have ew : wr (α 110 322 - 1) = s.1 2 - 1 := by
    rw [e322]
    generalize s.1 2 = v at *
    clear hq
    rw [wr_of (by omega) (by omega)]
  unfold lnCable at hq
  refine vc148_0 ?_
  rw [ew, e15]
  refine ⟨fun z => ?_, fun z => ?_⟩
  · rw [if_pos z] at hq
    have k6 : s.2.2.1.1 < 6 := by
      have := b2.2
      generalize s.1 2 = v at *
      clear hq ew e15
      omega
    have x1 : wr (610 + wr (3 * (s.2.2.1.1 : Int))) = ((610 + 3 * s.2.2.1.1 : Nat) : Int) := by
      clear hq ew e15 z e322
      rw [wr_of (x := 3 * (s.2.2.1.1 : Int)) (by omega) (by omega), wr_of (by omega) (by omega)]; omega
    have x2 : wr (((610 + 3 * s.2.2.1.1 : Nat) : Int) + 1) = ((611 + 3 * s.2.2.1.1 : Nat) : Int) := by
      clear hq ew e15 z e322 x1
      rw [wr_of (by omega) (by omega)]; omega
    have c1 : 610 + 3 * s.2.2.1.1 < 2240 := by clear hq ew e15 z e322 x1 x2; omega
    have c2 : 611 + 3 * s.2.2.1.1 < 2240 := by clear hq ew e15 z e322 x1 x2; omega
    have ek := wrS (k := s.2.2.1.1) (by clear hq ew e15 z e322 x1 x2; omega)
    rw [x1]
    refine m_takeNumber M S1 (fun σ2 v1 F2 S2 p1 _ => vc148_54 ⟨mInA_n c1, ?_⟩)
    rw [ft_0] at S2 p1
    have F12 : Fσ S78 σ σ2 := (Fσ.up (by decide)).tr F2
    rw [Int.toNat_natCast, show σ2 104 15 = (s.2.2.1.1 : Int) from (F12 104 15 (by decide)).trans e15, x1, x2]
    have U1 : FM α (mUp α 110 (610 + 3 * s.2.2.1.1) v1) := FM.u (by clear hq ew e15 z e322 x1 x2 ek; omega)
    refine m_takeAfter (w := 13) (M.fm U1) S2 (by decide) (by decide) (fun σ3 v2 F3 S3 p2 _ => vc148_80 ⟨mInA_n c2, ?_⟩)
    have F13 := F12.tr F3
    rw [Int.toNat_natCast, show σ3 104 15 = (s.2.2.1.1 : Int) from (F13 104 15 (by decide)).trans e15, ek]
    have U2 : FM α (mUp (mUp α 110 (610 + 3 * s.2.2.1.1) v1) 110 (611 + 3 * s.2.2.1.1) v2) := U1.tr (FM.u (by clear hq ew e15 z e322 x1 x2 ek; omega))
    refine hq _ _ (ft (ft (nbF T N 1 9 (i + 1)) (wdF T N 13 (i + 2))) (nbF T N 0 99 (i + 3))) (i + 4) _ ((F13.wk (by decide)).tr (Fσ.up (by decide))) U2 (S3.fr (Z := [(104, 15)]) (Fσ.up (by decide)) (by decide)) (fun q => ?_) rfl (fun _ => ⟨rfl, rfl⟩)
    have q1 := (ftz.mp (ftz.mp q).1).1
    rw [p1 q1, p2 q]
    refine ⟨?_, ⟨?_, up_s, ?_⟩, fun b hb => ?_, ?_, ?_⟩
    · rw [df_u (j := 291 + 3 * s.2.2.1.1) (by clear hq ew e15 z e322 x1 x2 ek; omega), df_u (j := 290 + 3 * s.2.2.1.1) (by clear hq ew e15 z e322 x1 x2 ek; omega), D.1]
    · rw [up_n (by decide), F13 104 13 (by decide)]; exact D.2.1.1
    · rw [up_n (by decide), F13 104 16 (by decide)]; exact D.2.1.2.2
    · rw [up_o (by decide), up_o (by decide)]
      refine D.2.2.1 b ?_
      have hb' : (b : Int) < rU (rU s.1 (290 + 3 * s.2.2.1.1) (nbI T N (i + 1))) (291 + 3 * s.2.2.1.1) (nbI T N (i + 3)) 2 := hb
      rw [rU_n (by omega), rU_n (by omega)] at hb'
      exact hb'
    · refine D.2.2.2.1.cg ?_ (Nat.le_refl _) (fun p _ => ?_)
      · show rU (rU s.1 (290 + 3 * s.2.2.1.1) (nbI T N (i + 1))) (291 + 3 * s.2.2.1.1) (nbI T N (i + 3)) 6 = _
        rw [rU_n (by omega), rU_n (by omega)]
      · rw [up_o (by decide), up_o (by decide), up_o (by decide), up_o (by decide)]; exact ⟨rfl, rfl⟩
    · refine D.2.2.2.2.cg ?_ (Nat.le_refl _) (fun p _ => ?_)
      · show rU (rU s.1 (290 + 3 * s.2.2.1.1) (nbI T N (i + 1))) (291 + 3 * s.2.2.1.1) (nbI T N (i + 3)) 7 = _
        rw [rU_n (by omega), rU_n (by omega)]
      · rw [up_o (by decide), up_o (by decide), up_o (by decide), up_o (by decide)]; exact ⟨rfl, rfl⟩
  · rw [if_neg z] at hq
    refine m_wrong (j := i) M S (by decide) (fun σ1 F1 T1 => vc148_22 ?_)
    rw [ft_0] at T1
    exact hq σ1 α (fa T N 5 i) i s (F1.wk (by decide)) FM.rf T1 (fun y => absurd y (fa_0 (by decide))) (ft_n (fa_0 (by decide))).symm (fun y => absurd y (fa_0 (by decide)))
theorem onceM : ∀ t : Fin 16, ∀ k : Fin 4, (iAnd (iShr ((t.val : Nat) : Int) ((k.val : Nat) : Int)) 1 = 1 ↔ tdB t.val k.val ≠ 0) ∧ (tdB t.val k.val = 0 → iOr ((t.val : Nat) : Int) (iShl 1 ((k.val : Nat) : Int)) = ((t.val + 2 ^ k.val : Nat) : Int)) := by decide +kernel
theorem rf5 : ∀ k : Fin 4, rfW (5 + k.val) = 11 + k.val := by decide +kernel
theorem pgP.sp {A B : Nat → Int} : ∀ {P : pRow} {p : Nat} {q : Int × Int}, pgP A B p (P ++ [q]) → pgP A B p P ∧ A (p + P.length) = q.1
  | [], _, _, h => ⟨trivial, h.1⟩
  | x :: P, p, q, h => by
    have g := pgP.sp (P := P) h.2.2
    rw [len_c]
    exact ⟨⟨h.1, h.2.1, g.1⟩, g.2⟩
theorem m_find {X : mXX} {d : Nat} {Q : Option mV → mS → Prop} {σ α : Nat → Nat → Int} {T : Nat → Int} {N i k : Nat} (M : MC α T N) (S : MS σ T N i 0) (hk : k < 4) (ht : twI T N i = 5 + k) (h : Go X (d + 1) 149 10 [some (vR 104), some (vI (k : Int))] [vI 1] (S0, σ, α) (0, 0) Q) : Ca X (d + 2) 149 [vR 104] (S0, σ, α) Q := by
  refine vc149_0 ?_
  have key : ∀ g j : Nat, j + g = k → Go X (d + 1) 149 2 [some (vR 104), some (vI (j : Int))] [] (S0, σ, α) (0, 0) Q := by
    intro g
    induction g with
    | zero =>
      intro j hj
      have ej : j = k := hj
      subst ej
      have ew : wr (11 + (j : Int)) = ((rfW (5 + j) : Nat) : Int) := by
        rw [rf5 ⟨j, hk⟩, wr_of (by omega) (by omega)]
        show 11 + (j : Int) = ((11 + j : Nat) : Int)
        omega
      exact vc149_2 (m_isWord (w := 5 + j) M S (by omega) ew (fun _ _ => h) (fun y => absurd ht (y rfl)))
    | succ g ih =>
      intro j hj
      have j4 : j < 4 := by omega
      have ew : wr (11 + (j : Int)) = ((rfW (5 + j) : Nat) : Int) := by
        rw [rf5 ⟨j, j4⟩, wr_of (by omega) (by omega)]
        show 11 + (j : Int) = ((11 + j : Nat) : Int)
        omega
      have ej := wrS (k := j) (by clear ew; omega)
      refine vc149_2 (m_isWord (w := 5 + j) M S (by omega) ew (fun _ y => absurd (ht.symm.trans y) (by clear ew ej; omega)) (fun _ => vc149_10 ⟨fun y => absurd rfl y, fun _ => ?_⟩))
      rw [ej]
      exact ih (j + 1) (by clear ew ej; omega)
  exact key k 0 (Nat.zero_add _)
theorem m_told {X : mXX} {d : Nat} {Q : Option mV → mS → Prop} {σ α : Nat → Nat → Int} {T : Nat → Int} {N i k : Nat} {s : bSt} {r : bLn} (M : MC α T N) (S : MS σ T N i 0) (D : DM T N σ α s) (w : SW s) (hk : k < 4) (hb : tdB s.2.2.1.2.1 k ≠ 0) (er : r = (fa T N 3 i, i, s)) (hq : mLn T N r σ α Q) : Go X (d + 1) 149 10 [some (vR 104), some (vI (k : Int))] [vI 1] (S0, σ, α) (0, 0) Q := by
  have o := (onceM ⟨s.2.2.1.2.1, w.2.2.2.2.2.1⟩ ⟨k, hk⟩).1
  refine vc149_10 ⟨fun _ => ⟨fun y => absurd (by rw [D.2.1.2.2]; exact o.mpr hb) y, fun _ => ?_⟩, fun y => absurd y (by decide)⟩
  refine m_wrong (j := i) M S (by decide) (fun σ1 F1 T1 => vc149_36 ?_)
  rw [ft_0] at T1
  rw [er] at hq
  exact hq σ1 α (fa T N 3 i) i s (F1.wk (by decide)) FM.rf T1 (fun y => absurd y (fa_0 (by decide))) (ft_n (fa_0 (by decide))).symm (fun y => absurd y (fa_0 (by decide)))
theorem m_gales {X : mXX} {d : Nat} {Q : Option mV → mS → Prop} {σ α : Nat → Nat → Int} {T : Nat → Int} {N i : Nat} {s : bSt} (M : MC α T N) (S : MS σ T N i 0) (D : DM T N σ α s) (w : SW s) (ht : twI T N i = 7) (hq : mLn T N (lnNum T N s 2 50 i) σ α Q) : Ca X (d + 4) 149 [vR 104] (S0, σ, α) Q := by
  have S1 := S.nx M.2.2 (k_s (k_n ht (by decide)) (by decide))
  refine m_find (k := 2) M S (by decide) ht ?_
  by_cases z : tdB s.2.2.1.2.1 2 = 0
  · have o := onceM ⟨s.2.2.1.2.1, w.2.2.2.2.2.1⟩ ⟨2, by decide⟩
    have e16 := D.2.1.2.2
    unfold lnNum at hq
    rw [if_pos z] at hq
    refine vc149_10 ⟨fun _ => ⟨fun _ => ⟨fun y => absurd (by decide) y, fun _ => ⟨fun y => absurd rfl y, fun _ => ?_⟩⟩, fun y => absurd z (o.1.mp (by rw [← e16]; exact y))⟩, fun y => absurd y (by decide)⟩
    rw [e16, show iOr (s.2.2.1.2.1 : Int) (iShl 1 ((2 : Nat) : Int)) = _ from o.2 z]
    have T1 : MS (mUp (mUp σ 104 16 ((s.2.2.1.2.1 + 2 ^ 2 : Nat) : Int)) 104 7 (wr (σ 104 7 + 1))) T N (i + 1) 0 := by
      have S0' : MS (mUp σ 104 16 ((s.2.2.1.2.1 + 2 ^ 2 : Nat) : Int)) T N i 0 := S.fr (Z := [(104, 16)]) (Fσ.up (by decide)) (by decide)
      have h := S0'.nx M.2.2 (k_s (k_n ht (by decide)) (by decide))
      rw [up_n (by decide)] at h
      exact h
    refine m_takeNumber M T1 (fun σ2 v F2 S2 p1 _ => vc149_92 ⟨mInA_n (i := 324) (by decide), ?_⟩)
    rw [ft_0] at S2 p1
    have F12 : Fσ SMm σ σ2 := ((Fσ.up (by decide)).tr (Fσ.up (by decide))).tr (F2.wk (by decide))
    have U1 : FM α (mUp α 110 324 v) := FM.u (by decide)
    refine hq σ2 _ (nbF T N 0 50 (i + 1)) (i + 2) _ F12 U1 S2 (fun q => ?_) rfl (fun _ => ⟨rfl, rfl⟩)
    rw [p1 q]
    refine ⟨?_, ⟨?_, ?_, ?_⟩, fun b hb => ?_, ?_, ?_⟩
    · show dfR (mUp α 110 324 _) = _
      rw [df_u (j := 4) (by decide), D.1]
    · rw [F2 104 13 (by decide), up_n (by decide), up_n (by decide)]; exact D.2.1.1
    · rw [F2 104 15 (by decide), up_n (by decide), up_n (by decide)]; exact D.2.1.2.1
    · rw [F2 104 16 (by decide), up_n (by decide), up_s]
    · rw [up_o (by decide)]
      refine D.2.2.1 b ?_
      have hb' : (b : Int) < rU s.1 4 (nbI T N (i + 1)) 2 := hb
      rw [rU_n (by decide)] at hb'
      exact hb'
    · refine D.2.2.2.1.cg ?_ (Nat.le_refl _) (fun p _ => ?_)
      · show rU s.1 4 (nbI T N (i + 1)) 6 = _
        rw [rU_n (by decide)]
      · rw [up_o (by decide), up_o (by decide)]; exact ⟨rfl, rfl⟩
    · refine D.2.2.2.2.cg ?_ (Nat.le_refl _) (fun p _ => ?_)
      · show rU s.1 4 (nbI T N (i + 1)) 7 = _
        rw [rU_n (by decide)]
      · rw [up_o (by decide), up_o (by decide)]; exact ⟨rfl, rfl⟩
  · exact m_told M S D w (by decide) z (by unfold lnNum; rw [if_neg z]) hq
theorem m_loose {X : mXX} {d : Nat} {Q : Option mV → mS → Prop} {σ α : Nat → Nat → Int} {T : Nat → Int} {N i : Nat} {s : bSt} (M : MC α T N) (S : MS σ T N i 0) (D : DM T N σ α s) (w : SW s) (ht : twI T N i = 8) (hq : mLn T N (lnNum T N s 3 99 i) σ α Q) : Ca X (d + 4) 149 [vR 104] (S0, σ, α) Q := by
  have S1 := S.nx M.2.2 (k_s (k_n ht (by decide)) (by decide))
  refine m_find (k := 3) M S (by decide) ht ?_
  by_cases z : tdB s.2.2.1.2.1 3 = 0
  · have o := onceM ⟨s.2.2.1.2.1, w.2.2.2.2.2.1⟩ ⟨3, by decide⟩
    have e16 := D.2.1.2.2
    unfold lnNum at hq
    rw [if_pos z] at hq
    refine vc149_10 ⟨fun _ => ⟨fun _ => ⟨fun y => absurd (by decide) y, fun _ => ⟨fun _ => ?_, fun y => absurd y (by decide)⟩⟩, fun y => absurd z (o.1.mp (by rw [← e16]; exact y))⟩, fun y => absurd y (by decide)⟩
    rw [e16, show iOr (s.2.2.1.2.1 : Int) (iShl 1 ((3 : Nat) : Int)) = _ from o.2 z]
    have T1 : MS (mUp (mUp σ 104 16 ((s.2.2.1.2.1 + 2 ^ 3 : Nat) : Int)) 104 7 (wr (σ 104 7 + 1))) T N (i + 1) 0 := by
      have S0' : MS (mUp σ 104 16 ((s.2.2.1.2.1 + 2 ^ 3 : Nat) : Int)) T N i 0 := S.fr (Z := [(104, 16)]) (Fσ.up (by decide)) (by decide)
      have h := S0'.nx M.2.2 (k_s (k_n ht (by decide)) (by decide))
      rw [up_n (by decide)] at h
      exact h
    refine m_takeNumber M T1 (fun σ2 v F2 S2 p1 _ => vc149_92 ⟨mInA_n (i := 325) (by decide), ?_⟩)
    rw [ft_0] at S2 p1
    have F12 : Fσ SMm σ σ2 := ((Fσ.up (by decide)).tr (Fσ.up (by decide))).tr (F2.wk (by decide))
    have U1 : FM α (mUp α 110 325 v) := FM.u (by decide)
    refine hq σ2 _ (nbF T N 0 99 (i + 1)) (i + 2) _ F12 U1 S2 (fun q => ?_) rfl (fun _ => ⟨rfl, rfl⟩)
    rw [p1 q]
    refine ⟨?_, ⟨?_, ?_, ?_⟩, fun b hb => ?_, ?_, ?_⟩
    · show dfR (mUp α 110 325 _) = _
      rw [df_u (j := 5) (by decide), D.1]
    · rw [F2 104 13 (by decide), up_n (by decide), up_n (by decide)]; exact D.2.1.1
    · rw [F2 104 15 (by decide), up_n (by decide), up_n (by decide)]; exact D.2.1.2.1
    · rw [F2 104 16 (by decide), up_n (by decide), up_s]
    · rw [up_o (by decide)]
      refine D.2.2.1 b ?_
      have hb' : (b : Int) < rU s.1 5 (nbI T N (i + 1)) 2 := hb
      rw [rU_n (by decide)] at hb'
      exact hb'
    · refine D.2.2.2.1.cg ?_ (Nat.le_refl _) (fun p _ => ?_)
      · show rU s.1 5 (nbI T N (i + 1)) 6 = _
        rw [rU_n (by decide)]
      · rw [up_o (by decide), up_o (by decide)]; exact ⟨rfl, rfl⟩
    · refine D.2.2.2.2.cg ?_ (Nat.le_refl _) (fun p _ => ?_)
      · show rU s.1 5 (nbI T N (i + 1)) 7 = _
        rw [rU_n (by decide)]
      · rw [up_o (by decide), up_o (by decide)]; exact ⟨rfl, rfl⟩
  · exact m_told M S D w (by decide) z (by unfold lnNum; rw [if_neg z]) hq
theorem m_swellL {X : mXX} {d : Nat} {Q : Option mV → mS → Prop} {σ α : Nat → Nat → Int} {T : Nat → Int} {N i : Nat} {s : bSt} (M : MC α T N) (S : MS σ T N i 0) (D : DM T N σ α s) (w : SW s) (hc : s.2.2.1.2.2 ≤ i) (ht : twI T N i = 5) (hq : mLn T N (lnSwell T N s i) σ α Q) : Ca X (d + 61) 149 [vR 104] (S0, σ, α) Q := by
  refine m_find (k := 0) M S (by decide) ht ?_
  by_cases z : tdB s.2.2.1.2.1 0 = 0
  · have o := onceM ⟨s.2.2.1.2.1, w.2.2.2.2.2.1⟩ ⟨0, by decide⟩
    have e16 := D.2.1.2.2
    have e13 := D.2.1.1
    unfold lnSwell at hq
    rw [if_pos z] at hq
    refine vc149_10 ⟨fun _ => ⟨fun _ => ⟨fun _ => ⟨fun _ => ?_, fun y => absurd y (by decide)⟩, fun y => absurd y (by decide)⟩, fun y => absurd z (o.1.mp (by rw [← e16]; exact y))⟩, fun y => absurd y (by decide)⟩
    rw [e16, e13, show iOr (s.2.2.1.2.1 : Int) (iShl 1 ((0 : Nat) : Int)) = _ from o.2 z]
    have T1 : MS (mUp (mUp (mUp σ 104 16 ((s.2.2.1.2.1 + 2 ^ 0 : Nat) : Int)) 104 7 (wr (σ 104 7 + 1))) 104 17 0) T N (i + 1) 0 := by
      have S0' : MS (mUp σ 104 16 ((s.2.2.1.2.1 + 2 ^ 0 : Nat) : Int)) T N i 0 := S.fr (Z := [(104, 16)]) (Fσ.up (by decide)) (by decide)
      have h := S0'.nx M.2.2 (k_s (k_n ht (by decide)) (by decide))
      rw [up_n (by decide)] at h
      exact h.fr (Z := [(104, 17)]) (Fσ.up (by decide)) (by decide)
    have U1 : FM α (mUp α 110 326 (s.2.2.1.2.2 : Int)) := FM.u (by decide)
    have G1 : Fσ SMm σ (mUp (mUp (mUp σ 104 16 ((s.2.2.1.2.1 + 2 ^ 0 : Nat) : Int)) 104 7 (wr (σ 104 7 + 1))) 104 17 0) := ((Fσ.up (by decide)).tr (Fσ.up (by decide))).tr (Fσ.up (by decide))
    have g13 : mUp (mUp (mUp σ 104 16 ((s.2.2.1.2.1 + 2 ^ 0 : Nat) : Int)) 104 7 (wr (σ 104 7 + 1))) 104 17 0 104 13 = (s.2.2.1.2.2 : Int) := by rw [up_n (by decide), up_n (by decide), up_n (by decide)]; exact e13
    have g15 : mUp (mUp (mUp σ 104 16 ((s.2.2.1.2.1 + 2 ^ 0 : Nat) : Int)) 104 7 (wr (σ 104 7 + 1))) 104 17 0 104 15 = (s.2.2.1.1 : Int) := by rw [up_n (by decide), up_n (by decide), up_n (by decide)]; exact D.2.1.2.1
    have g16 : mUp (mUp (mUp σ 104 16 ((s.2.2.1.2.1 + 2 ^ 0 : Nat) : Int)) 104 7 (wr (σ 104 7 + 1))) 104 17 0 104 16 = ((s.2.2.1.2.1 + 2 ^ 0 : Nat) : Int) := by rw [up_n (by decide), up_n (by decide), up_s]
    have g17 : mUp (mUp (mUp σ 104 16 ((s.2.2.1.2.1 + 2 ^ 0 : Nat) : Int)) 104 7 (wr (σ 104 7 + 1))) 104 17 0 104 17 = 0 := up_s
    refine ⟨mInA_n (i := 326) (by decide), ?_⟩
    show Ca X (d + 60) 150 [vR 104, vI 0] (S0, mUp (mUp (mUp σ 104 16 ((s.2.2.1.2.1 + 2 ^ 0 : Nat) : Int)) 104 7 (wr (σ 104 7 + 1))) 104 17 0, mUp α 110 326 (s.2.2.1.2.2 : Int)) _
    generalize mUp (mUp (mUp σ 104 16 ((s.2.2.1.2.1 + 2 ^ 0 : Nat) : Int)) 104 7 (wr (σ 104 7 + 1))) 104 17 0 = σ1 at *
    have lo := lw_ok (T := T) (N := N) (m := 3) (i := i + 1) (Or.inl rfl) M.2.2 (T1.2.2 rfl).2
    refine m_law (m := 3) (B := s.2.2.1.2.2) (Or.inl rfl) (M.fm U1) T1 g13 (Nat.le_succ_of_le hc) g17 (fun σ2 α2 F2 E2 em S2 => ?_)
    generalize lwX T N 3 (i + 1) = r at *
    have rN := ne_b lo.2.2.2.1
    have MN := M.2.2
    have l1 := lo.2.1
    have l2 := lo.2.2.1
    have bb : s.2.2.1.2.2 + r.2.2.length ≤ 1000 := by clear lo hq o z g13 g15 g16 g17 e16 e13; omega
    refine vc149_127 (m_emit em bb (fun σ3 α3 F3 E3 em3 => vc149_133 ?_))
    have U3 : FM α α3 := (U1.tr (FM.e E2)).tr (FM.e E3)
    refine hq σ3 α3 r.1 r.2.1 _ ((G1.tr (F2.wk (by decide))).tr (F3.wk (by decide))) U3 (S2.fr F3) (fun q => ?_) rfl (fun _ => ⟨rfl, rfl⟩)
    have e110 : α3 110 = mUp α 110 326 (s.2.2.1.2.2 : Int) 110 := by rw [E3.1 110 (by decide), E2.1 110 (by decide)]
    have old : ∀ p, p < 1100 + s.2.2.1.2.2 → α3 111 p = α 111 p ∧ α3 112 p = α 112 p := fun p hp => by
      have a := E3.2 p hp
      have b := E2.2 p hp
      rw [a.1, a.2, b.1, b.2, up_o (by decide), up_o (by decide)]
      exact ⟨rfl, rfl⟩
    have lenr : (r.2.2 ++ [((0 : Int), (0 : Int))]).length = r.2.2.length + 1 := len_a
    have pe : pgP (α3 111) (α3 112) (1100 + s.2.2.1.2.2) r.2.2 ∧ α3 111 (1100 + s.2.2.1.2.2 + r.2.2.length) = 0 := pgP.sp em3.2
    refine ⟨?_, ⟨?_, ?_, ?_⟩, fun b hb => ?_, ?_, ?_⟩
    · show dfR α3 = rU s.1 6 _
      rw [← D.1, ← df_u (k := 326) (by decide)]
      funext x
      unfold dfR
      rw [e110]
    · rw [em3.1, lenr]
      rfl
    · rw [F3 104 15 (by decide), F2 104 15 (by decide)]; exact g15
    · rw [F3 104 16 (by decide), F2 104 16 (by decide)]; exact g16
    · rw [E3.1 113 (by decide), E2.1 113 (by decide), up_o (by decide)]
      refine D.2.2.1 b ?_
      have hb' : (b : Int) < rU s.1 6 (s.2.2.1.2.2 : Int) 2 := hb
      rw [rU_n (by decide)] at hb'
      exact hb'
    · exact Or.inr ⟨s.2.2.1.2.2, (by show rU s.1 6 _ 6 = _; exact rU_s), pe.1, pe.2, Nat.lt_succ_self _⟩
    · exact D.2.2.2.2.cg (show rU s.1 6 (s.2.2.1.2.2 : Int) 7 = s.1 7 from rU_n (by decide)) (Nat.le_trans (Nat.le_add_right _ _) (Nat.le_succ _)) old
  · exact m_told M S D w (by decide) z (by unfold lnSwell; rw [if_neg z]) hq
theorem m_wishL {X : mXX} {d : Nat} {Q : Option mV → mS → Prop} {σ α : Nat → Nat → Int} {T : Nat → Int} {N i : Nat} {s : bSt} (M : MC α T N) (S : MS σ T N i 0) (D : DM T N σ α s) (w : SW s) (hc : s.2.2.1.2.2 ≤ i) (ht : twI T N i = 6) (hq : mLn T N (lnWish T N s i) σ α Q) : Ca X (d + 61) 149 [vR 104] (S0, σ, α) Q := by
  refine m_find (k := 1) M S (by decide) ht ?_
  by_cases z : tdB s.2.2.1.2.1 1 = 0
  · have o := onceM ⟨s.2.2.1.2.1, w.2.2.2.2.2.1⟩ ⟨1, by decide⟩
    have e16 := D.2.1.2.2
    have e13 := D.2.1.1
    unfold lnWish at hq
    rw [if_pos z] at hq
    refine vc149_10 ⟨fun _ => ⟨fun _ => ⟨fun _ => ⟨fun y => absurd rfl y, fun _ => ?_⟩, fun y => absurd y (by decide)⟩, fun y => absurd z (o.1.mp (by rw [← e16]; exact y))⟩, fun y => absurd y (by decide)⟩
    rw [e16, e13, show iOr (s.2.2.1.2.1 : Int) (iShl 1 ((1 : Nat) : Int)) = _ from o.2 z]
    have T1 : MS (mUp (mUp (mUp σ 104 16 ((s.2.2.1.2.1 + 2 ^ 1 : Nat) : Int)) 104 7 (wr (σ 104 7 + 1))) 104 17 1) T N (i + 1) 0 := by
      have S0' : MS (mUp σ 104 16 ((s.2.2.1.2.1 + 2 ^ 1 : Nat) : Int)) T N i 0 := S.fr (Z := [(104, 16)]) (Fσ.up (by decide)) (by decide)
      have h := S0'.nx M.2.2 (k_s (k_n ht (by decide)) (by decide))
      rw [up_n (by decide)] at h
      exact h.fr (Z := [(104, 17)]) (Fσ.up (by decide)) (by decide)
    have U1 : FM α (mUp α 110 327 (s.2.2.1.2.2 : Int)) := FM.u (by decide)
    have G1 : Fσ SMm σ (mUp (mUp (mUp σ 104 16 ((s.2.2.1.2.1 + 2 ^ 1 : Nat) : Int)) 104 7 (wr (σ 104 7 + 1))) 104 17 1) := ((Fσ.up (by decide)).tr (Fσ.up (by decide))).tr (Fσ.up (by decide))
    have g13 : mUp (mUp (mUp σ 104 16 ((s.2.2.1.2.1 + 2 ^ 1 : Nat) : Int)) 104 7 (wr (σ 104 7 + 1))) 104 17 1 104 13 = (s.2.2.1.2.2 : Int) := by rw [up_n (by decide), up_n (by decide), up_n (by decide)]; exact e13
    have g15 : mUp (mUp (mUp σ 104 16 ((s.2.2.1.2.1 + 2 ^ 1 : Nat) : Int)) 104 7 (wr (σ 104 7 + 1))) 104 17 1 104 15 = (s.2.2.1.1 : Int) := by rw [up_n (by decide), up_n (by decide), up_n (by decide)]; exact D.2.1.2.1
    have g16 : mUp (mUp (mUp σ 104 16 ((s.2.2.1.2.1 + 2 ^ 1 : Nat) : Int)) 104 7 (wr (σ 104 7 + 1))) 104 17 1 104 16 = ((s.2.2.1.2.1 + 2 ^ 1 : Nat) : Int) := by rw [up_n (by decide), up_n (by decide), up_s]
    have g17 : mUp (mUp (mUp σ 104 16 ((s.2.2.1.2.1 + 2 ^ 1 : Nat) : Int)) 104 7 (wr (σ 104 7 + 1))) 104 17 1 104 17 = 1 := up_s
    refine ⟨mInA_n (i := 327) (by decide), ?_⟩
    show Ca X (d + 60) 150 [vR 104, vI 0] (S0, mUp (mUp (mUp σ 104 16 ((s.2.2.1.2.1 + 2 ^ 1 : Nat) : Int)) 104 7 (wr (σ 104 7 + 1))) 104 17 1, mUp α 110 327 (s.2.2.1.2.2 : Int)) _
    generalize mUp (mUp (mUp σ 104 16 ((s.2.2.1.2.1 + 2 ^ 1 : Nat) : Int)) 104 7 (wr (σ 104 7 + 1))) 104 17 1 = σ1 at *
    have lo := lw_ok (T := T) (N := N) (m := 7) (i := i + 1) (Or.inr rfl) M.2.2 (T1.2.2 rfl).2
    refine m_law (m := 7) (B := s.2.2.1.2.2) (Or.inr rfl) (M.fm U1) T1 g13 (Nat.le_succ_of_le hc) g17 (fun σ2 α2 F2 E2 em S2 => ?_)
    generalize lwX T N 7 (i + 1) = r at *
    have rN := ne_b lo.2.2.2.1
    have MN := M.2.2
    have l1 := lo.2.1
    have l2 := lo.2.2.1
    have bb : s.2.2.1.2.2 + r.2.2.length ≤ 1000 := by clear lo hq o z g13 g15 g16 g17 e16 e13; omega
    refine vc149_127 (m_emit em bb (fun σ3 α3 F3 E3 em3 => vc149_133 ?_))
    have U3 : FM α α3 := (U1.tr (FM.e E2)).tr (FM.e E3)
    refine hq σ3 α3 r.1 r.2.1 _ ((G1.tr (F2.wk (by decide))).tr (F3.wk (by decide))) U3 (S2.fr F3) (fun q => ?_) rfl (fun _ => ⟨rfl, rfl⟩)
    have e110 : α3 110 = mUp α 110 327 (s.2.2.1.2.2 : Int) 110 := by rw [E3.1 110 (by decide), E2.1 110 (by decide)]
    have old : ∀ p, p < 1100 + s.2.2.1.2.2 → α3 111 p = α 111 p ∧ α3 112 p = α 112 p := fun p hp => by
      have a := E3.2 p hp
      have b := E2.2 p hp
      rw [a.1, a.2, b.1, b.2, up_o (by decide), up_o (by decide)]
      exact ⟨rfl, rfl⟩
    have lenr : (r.2.2 ++ [((0 : Int), (0 : Int))]).length = r.2.2.length + 1 := len_a
    have pe : pgP (α3 111) (α3 112) (1100 + s.2.2.1.2.2) r.2.2 ∧ α3 111 (1100 + s.2.2.1.2.2 + r.2.2.length) = 0 := pgP.sp em3.2
    refine ⟨?_, ⟨?_, ?_, ?_⟩, fun b hb => ?_, ?_, ?_⟩
    · show dfR α3 = rU s.1 7 _
      rw [← D.1, ← df_u (k := 327) (by decide)]
      funext x
      unfold dfR
      rw [e110]
    · rw [em3.1, lenr]
      rfl
    · rw [F3 104 15 (by decide), F2 104 15 (by decide)]; exact g15
    · rw [F3 104 16 (by decide), F2 104 16 (by decide)]; exact g16
    · rw [E3.1 113 (by decide), E2.1 113 (by decide), up_o (by decide)]
      refine D.2.2.1 b ?_
      have hb' : (b : Int) < rU s.1 7 (s.2.2.1.2.2 : Int) 2 := hb
      rw [rU_n (by decide)] at hb'
      exact hb'
    · exact D.2.2.2.1.cg (show rU s.1 7 (s.2.2.1.2.2 : Int) 6 = s.1 6 from rU_n (by decide)) (Nat.le_trans (Nat.le_add_right _ _) (Nat.le_succ _)) old
    · exact Or.inr ⟨s.2.2.1.2.2, (by show rU s.1 7 _ 7 = _; exact rU_s), pe.1, pe.2, Nat.lt_succ_self _⟩
  · exact m_told M S D w (by decide) z (by unfold lnWish; rw [if_neg z]) hq
