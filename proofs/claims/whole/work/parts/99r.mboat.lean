/-! The reference reads a boat -/
def ivL : List Nat := [0, 1, 2, 22, 3, 9, 10, 11, 12, 4, 13, 5, 6, 7, 8, 14, 15, 16, 17, 18, 19, 20, 21]
def ivW (k : Nat) : Nat := ivL.getD k 0
theorem iv_r : ∀ k : Fin 23, rfW (ivW k.val) = k.val ∧ ivW k.val < 23 := by decide +kernel
theorem ri_v : ∀ w : Fin 23, ivW (rfW w.val) = w.val ∧ rfW w.val < 23 := by decide +kernel
theorem m_isName {X : mXX} {d : Nat} {Q : Option mV → mS → Prop} {σ α : Nat → Nat → Int} {T : Nat → Int} {N i : Nat} (M : MC α T N) (S : MS σ T N i 0) (h1 : kdI T N i = 2 → 22 < twI T N i → Q (some (vI 1)) (S0, σ, α)) (h0 : ¬ (kdI T N i = 2 ∧ 22 < twI T N i) → Q (some (vI 0)) (S0, σ, α)) : Ca X (d + 1) 147 [vR 104] (S0, σ, α) Q := by
  obtain ⟨ib, e7, mi, ne⟩ := S.i M
  have srt := (sr_k (kd_r (T := T) (N := N) (i := i))).2.1
  have dead : ¬ (kdI T N i = 2 ∧ 22 < twI T N i) → ∀ g k : Nat, k + g = 23 → Go X d 147 28 [some (vR 104), some (vI 0), some (vI (k : Int))] [] (S0, σ, α) (0, 0) Q := by
    intro nn g
    induction g with
    | zero =>
      intro k hk
      have ek : k = 23 := hk
      subst ek
      exact vc147_28 ⟨fun _ => ⟨Or.inl rfl, h0 nn⟩, fun z => absurd z (by decide)⟩
    | succ g ih =>
      intro k hk
      have kl : (k : Int) < 23 := by omega
      have ek := wrS (k := k) (by omega)
      refine vc147_28 ⟨fun z => absurd kl z, fun _ => ⟨fun _ => ?_, fun z => absurd rfl z⟩⟩
      rw [ek]
      exact ih (k + 1) (by clear ek; omega)
  refine vc147_0 ⟨fun z => absurd S.1 z, fun _ => ?_⟩
  rw [e7, Int.toNat_natCast, mi.1]
  refine ⟨ib, fun z => dead (fun y => z (srt.mpr y.1)) 23 0 rfl, fun z => ?_⟩
  have k2 := srt.mp z
  have e8 : α 108 i = hsI T N i := mi.2.2.1 k2
  have key : ∀ g k : Nat, k + g = 23 → (∀ j, j < k → twI T N i ≠ ivW j) → Go X d 147 28 [some (vR 104), some (vI 1), some (vI (k : Int))] [] (S0, σ, α) (0, 0) Q := by
    intro g
    induction g with
    | zero =>
      intro k hk hh
      have ek : k = 23 := hk
      subst ek
      refine vc147_28 ⟨fun _ => ⟨Or.inr rfl, h1 k2 ?_⟩, fun z => absurd z (by decide)⟩
      by_cases q : 22 < twI T N i
      · exact q
      · have t23 : twI T N i < 23 := Nat.lt_succ_of_le (Nat.not_lt.mp q)
        have rv := ri_v ⟨twI T N i, t23⟩
        exact absurd rv.1.symm (hh _ rv.2)
    | succ g ih =>
      intro k hk hh
      have kl : (k : Int) < 23 := by clear hh ih; omega
      have k23 : k < 23 := by clear hh ih; omega
      have ek := wrS (k := k) (by clear hh ih; omega)
      have iv := iv_r ⟨k, k23⟩
      have w29 : ivW k < 29 := Nat.lt_trans iv.2 (by decide)
      have ew : α 109 k = hsW (ivW k) := by
        have := M.2.1.1 (ivW k) w29
        rw [show rfW (ivW k) = k from iv.1] at this
        exact this
      have tw := tw_hs (T := T) (N := N) (i := i) (w := ivW k) k2 w29
      have nx := hh
      refine vc147_28 ⟨fun y => absurd kl y, fun _ => ⟨fun y => absurd y (by decide), fun _ => ?_⟩⟩
      rw [e7, Int.toNat_natCast, Int.toNat_natCast, e8, ew, ek]
      refine ⟨ib, mInA_n (Nat.lt_trans k23 (by decide)), fun y => ?_, fun y => ?_⟩
      · have et := tw.mpr (lc0.mp y)
        refine dead (fun u => absurd u.2 (by rw [et]; exact Nat.not_lt.mpr (Nat.le_of_lt_succ iv.2))) g (k + 1) (by clear hh ih ek; omega)
      · refine ih (k + 1) (by clear hh ih ek; omega) (fun j hj => ?_)
        by_cases e : j = k
        · rw [e]; exact fun u => y (lc0.mpr (tw.mp u))
        · exact nx j (Nat.lt_of_le_of_ne (Nat.lt_succ_iff.mp hj) e)
  exact key 23 0 rfl (fun j hj => absurd hj (Nat.not_lt_zero j))
def kiI (T : Nat → Int) (N i j : Nat) : Int := if 14 ≤ twI T N i ∧ twI T N i < 14 + j then ((twI T N i - 14 : Nat) : Int) else -1
theorem rf14 : ∀ k : Fin 5, rfW (14 + k.val) = 15 + k.val := by decide +kernel
theorem ki_1 {T : Nat → Int} {N i j : Nat} (h : twI T N i = 14 + j) : kiI T N i (j + 1) = (j : Int) := by
  unfold kiI
  rw [h, if_pos (by omega)]
  congr 1
  omega
theorem ki_0 {T : Nat → Int} {N i j : Nat} (h : twI T N i ≠ 14 + j) : kiI T N i (j + 1) = kiI T N i j := by
  unfold kiI
  generalize twI T N i = t at *
  by_cases q : 14 ≤ t ∧ t < 14 + j
  · rw [if_pos q, if_pos (by omega)]
  · rw [if_neg q, if_neg (by omega)]
theorem ki_5 {T : Nat → Int} {N i : Nat} : (kdF T N i = 0 → kiI T N i 5 = ((twI T N i - 14 : Nat) : Int)) ∧ (kdF T N i ≠ 0 → kiI T N i 5 = -1 ∧ kdF T N i = fa T N 1 i) := by
  unfold kdF kiI
  by_cases q : 14 ≤ twI T N i ∧ twI T N i ≤ 18
  · have q' : 14 ≤ twI T N i ∧ twI T N i < 14 + 5 := by omega
    rw [if_pos q, if_pos q']
    exact ⟨fun _ => rfl, fun y => absurd rfl y⟩
  · have q' : ¬ (14 ≤ twI T N i ∧ twI T N i < 14 + 5) := by omega
    rw [if_neg q, if_neg q']
    exact ⟨fun y => absurd y (fa_0 (by decide)), fun _ => ⟨rfl, rfl⟩⟩
theorem cdm {x y : Int} (hx : 0 ≤ x ∧ x < 8) (hy : 0 ≤ y ∧ y < 8) : Int.tmod (((8 * y + x).toNat : Nat) : Int) 8 = x ∧ wr (Int.tdiv (((8 * y + x).toNat : Nat) : Int) 8) = y := by
  have e : (((8 * y + x).toNat : Nat) : Int) = 8 * y + x := Int.toNat_of_nonneg (by omega)
  rw [e, Int.tmod_eq_emod_of_nonneg (by omega), Int.tdiv_eq_ediv_of_nonneg (by omega)]
  have e2 : (8 * y + x) / 8 = y := by omega
  rw [e2, wr_of (by omega) (by omega)]
  exact ⟨by omega, rfl⟩
theorem ixn {n k : Nat} (h : n < 7) (hk : k < 12) : wr (((522 + 12 * n : Nat) : Int) + (k : Int)) = ((522 + 12 * n + k : Nat) : Int) := ixk (by omega)
theorem m_boatL {X : mXX} {d : Nat} {Q : Option mV → mS → Prop} {σ α : Nat → Nat → Int} {T : Nat → Int} {N i : Nat} {s : bSt} (M : MC α T N) (S : MS σ T N i 0) (D : DM T N σ α s) (w : SW s) (ht : twI T N i = 3) (hq : mLn T N (lnBoat T N s i) σ α Q) : Ca X (d + 6) 146 [vR 104] (S0, σ, α) Q := by
  have S1 := S.nx M.2.2 (k_s (k_n ht (by decide)) (by decide))
  have e322 : α 110 322 = s.1 2 := df_v D.1 rfl
  have b2 := w.1.2.2.1
  obtain ⟨n, hn⟩ : ∃ n : Nat, s.1 2 = (n : Int) := ⟨(s.1 2).toNat, (Int.toNat_of_nonneg b2.1).symm⟩
  have eN : (s.1 2).toNat = n := by rw [hn, Int.toNat_natCast]
  unfold lnBoat at hq
  refine vc146_0 ?_
  rw [e322, hn]
  refine ⟨fun z => ?_, fun z => ?_⟩
  · rw [if_neg (fun y => z (by rw [← hn]; exact y)), eN] at hq
    have n7 : n < 7 := by
      have := b2.2
      rw [hn] at this
      clear hq e322 hn eN
      omega
    have E : ft (boF T N s n i) (sgF T N 59 (i + 12)) = ft (nmF T N s.2.2.2 n (i + 1)) (ft (kdF T N (i + 2)) (ft (ft (ft (ft (ft (ft (ft (ft (wdF T N 9 (i + 3)) (cellF T N s.1 1 (i + 4))) (wdF T N 10 (i + 6))) (nbF T N 0 99 (i + 7))) (wdF T N 11 (i + 8))) (nbF T N 0 99 (i + 9))) (wdF T N 12 (i + 10))) (nbF T N 0 9 (i + 11))) (sgF T N 59 (i + 12)))) := by
      unfold boF
      simp only [ft_a]
    rw [E] at hq
    have F1 : Fσ S78 σ (mUp σ 104 7 (wr (σ 104 7 + 1))) := Fσ.up (by decide)
    generalize mUp σ 104 7 (wr (σ 104 7 + 1)) = σ1 at *
    -- the name cannot stand
    have dead : ∀ (l2 : Int) (σ2 : Nat → Nat → Int) (g : Int), Fσ S78 σ σ2 → MS σ2 T N (i + 1) g → g ≠ 0 → nmF T N s.2.2.2 n (i + 1) = g → Go X (d + 5) 146 45 [some (vR 104), some (vI (n : Int)), some (vI l2), none, none] [] (S0, σ2, α) (0, 0) Q := by
      intro l2 σ2 g F2 S2 hg eg
      rw [eg, ft_n hg] at hq
      have sp := S2.p hg
      have r : Q none (S0, σ2, α) := hq σ2 α g (i + 1) s (F2.wk (by decide)) FM.rf S2 (fun y => absurd y hg) (ft_n hg).symm (fun y => absurd y hg)
      exact vc146_45 ⟨fun _ => ⟨fun y => absurd sp.2 y, fun _ => r⟩, fun _ => ⟨fun _ => ⟨fun y => absurd sp.2 y, fun _ => r⟩, fun y => absurd y sp.1⟩⟩
    refine m_isName M S1 (fun k2 t22 => vc146_35 ⟨fun _ => vc146_43 ?_, fun y => absurd y (by decide)⟩) (fun nn => vc146_35 ⟨fun y => absurd rfl y, fun _ => ?_⟩)
    · obtain ⟨ib, e7, mi, ne⟩ := S1.i M
      have e8 : α 108 (i + 1) = hsI T N (i + 1) := mi.2.2.1 k2
      have en : nmF T N s.2.2.2 n (i + 1) = if dpN T N s.2.2.2 (i + 1) n = 0 then 0 else fa T N 3 (i + 1) := if_pos ⟨k2, t22⟩
      have key : ∀ g b : Nat, b + g = n → (∀ k, k < b → hsI T N (s.2.2.2 k) ≠ hsI T N (i + 1)) → Go X (d + 5) 146 45 [some (vR 104), some (vI (n : Int)), some (vI (b : Int)), none, none] [] (S0, σ1, α) (0, 0) Q := by
        intro g
        induction g with
        | succ g ih =>
          intro b hb hk
          have bn : b < n := by clear hq e322 hn eN en e7; omega
          have bl : (b : Int) < s.1 2 := by rw [hn]; exact Int.ofNat_lt.mpr bn
          have eb := wrS (k := b) (by clear hq e322 hn eN en e7; omega)
          refine vc146_45 ⟨fun y => absurd (Int.ofNat_lt.mpr bn) y, fun _ => ⟨fun y => absurd S1.1 y, fun _ => ⟨mInA_n (Nat.lt_trans bn n7), by rw [e7]; exact ib, ?_⟩⟩⟩
          rw [e7, Int.toNat_natCast, Int.toNat_natCast, e8, D.2.2.1 b bl]
          refine ⟨fun y => vc146_81 ?_, fun y => ?_⟩
          · rw [eb]
            refine ih (b + 1) (by clear hq e322 hn eN en e7 eb; omega) (fun k hk' => ?_)
            by_cases e : k = b
            · rw [e]; exact fun u => y (lc0.mpr u)
            · exact hk k (Nat.lt_of_le_of_ne (Nat.lt_succ_iff.mp hk') e)
          · rw [if_neg (dp_p bn (lc0.mp y))] at en
            refine m_wrong (j := i + 1) M S1 (by decide) (fun σ2 F2 S2 => vc146_81 (dead _ σ2 _ (F1.tr (F2.wk (by decide))) S2 (fa_0 (by decide)) ?_))
            rw [ft_0]; exact en
        | zero =>
          intro b hb hk
          have eb : b = n := hb
          subst eb
          rw [if_pos (dp_z hk)] at en
          rw [en, ft_0] at hq
          have S2 := S1.nx M.2.2 (k_s k2 (by decide))
          have F2 : Fσ S78 σ (mUp σ1 104 7 (wr (σ1 104 7 + 1))) := F1.tr (Fσ.up (by decide))
          refine vc146_45 ⟨fun _ => ⟨fun _ => ⟨by rw [e7]; exact ib, mInA_n n7, ?_⟩, fun y => absurd y (by rw [S1.1]; decide)⟩, fun y => absurd y (Int.lt_irrefl _)⟩
          rw [show α 108 (Int.toNat (σ1 104 7)) = hsI T N (i + 1) by rw [e7, Int.toNat_natCast]; exact e8, Int.toNat_natCast]
          generalize mUp σ1 104 7 (wr (σ1 104 7 + 1)) = σ2 at *
          have U2 : FM α (mUp α 113 b (hsI T N (i + 1))) := FM.n
          have d2 : dfR (mUp α 113 b (hsI T N (i + 1))) = s.1 := by rw [df_o (by decide)]; exact D.1
          have m2 : ∀ k : Nat, (k : Int) < s.1 2 → mUp α 113 b (hsI T N (i + 1)) 113 k = hsI T N (s.2.2.2 k) := fun k hk' => by
            rw [hn] at hk'
            rw [up_a, if_neg (Nat.ne_of_lt (Int.ofNat_lt.mp hk'))]
            exact D.2.2.1 k (by rw [hn]; exact hk')
          have m2n : mUp α 113 b (hsI T N (i + 1)) 113 b = hsI T N (i + 1) := up_s
          have o2 : ∀ p, mUp α 113 b (hsI T N (i + 1)) 111 p = α 111 p ∧ mUp α 113 b (hsI T N (i + 1)) 112 p = α 112 p := fun p => by rw [up_o (by decide), up_o (by decide)]; exact ⟨rfl, rfl⟩
          have M2 := M.fm U2
          generalize mUp α 113 b (hsI T N (i + 1)) = β at *
          -- the kind
          have kl : ∀ g j : Nat, j + g = 5 → Go X (d + 5) 146 124 [some (vR 104), some (vI (b : Int)), some (vI (kiI T N (i + 2) j)), some (vI (j : Int)), none] [] (S0, σ2, β) (0, 0) Q := by
            intro g
            induction g with
            | succ g ih =>
              intro j hj
              have j5 : j < 5 := by clear hq e322 hn eN en e7; omega
              have jl : (j : Int) < 5 := by clear hq e322 hn eN en e7; omega
              have ew : wr (15 + (j : Int)) = ((rfW (14 + j) : Nat) : Int) := by
                rw [rf14 ⟨j, j5⟩]
                clear hq e322 hn eN en e7
                rw [wr_of (by omega) (by omega)]
                show 15 + (j : Int) = ((15 + j : Nat) : Int)
                omega
              have ej := wrS (k := j) (by clear hq e322 hn eN en e7 ew; omega)
              have i1 := ih (j + 1) (by clear hq e322 hn eN en e7 ew ej; omega)
              refine vc146_124 ⟨fun y => absurd jl y, fun _ => m_isWord (w := 14 + j) M2 S2 (by clear hq e322 hn eN en e7 ew ej; omega) ew (fun _ y => vc146_137 ⟨fun u => absurd u (by decide), fun _ => ?_⟩) (fun y => vc146_137 ⟨fun _ => ?_, fun u => absurd rfl u⟩)⟩
              · rw [ej]
                rw [ki_1 y] at i1
                exact i1
              · rw [ej]
                rw [ki_0 (y rfl)] at i1
                exact i1
            | zero =>
              intro j hj
              have e5 : j = 5 := hj
              subst e5
              by_cases kz : kdF T N (i + 2) = 0
              · have ek := ki_5.1 kz
                rw [kz, ft_0] at hq
                rw [ek]
                have kt : 14 ≤ twI T N (i + 2) ∧ twI T N (i + 2) ≤ 18 := by
                  unfold kdF at kz
                  by_cases p : 14 ≤ twI T N (i + 2) ∧ twI T N (i + 2) ≤ 18
                  · exact p
                  · rw [if_neg p] at kz; exact absurd kz (fa_0 (by decide))
                have S3 := S2.nx M.2.2 (k_s (k_n rfl (Nat.lt_of_le_of_lt kt.2 (by decide))) (by decide))
                refine vc146_124 ⟨fun _ => ⟨fun _ => ?_, fun y => absurd y (Int.not_lt.mpr (Int.ofNat_nonneg _))⟩, fun y => absurd y (by decide)⟩
                have F3 : Fσ S78 σ (mUp σ2 104 7 (wr (σ2 104 7 + 1))) := F2.tr (Fσ.up (by decide))
                generalize mUp σ2 104 7 (wr (σ2 104 7 + 1)) = σ3 at *
                refine m_takeWord (w := 9) M2 S3 (by decide) (by decide) (fun σ4 F4 S4 => vc146_177 ?_)
                rw [ft_0] at S4
                refine m_takeCell M2 S4 d2 w (by decide) (fun σ5 v F5 S5' hv => vc146_182 ?_)
                have x0 := ixb n7
                have x1 := ixn (k := 0) n7 (by decide)
                have x2 := ixn (k := 1) n7 (by decide)
                have x3 := ixn (k := 2) n7 (by decide)
                have x4 := ixn (k := 3) n7 (by decide)
                have x5 := ixn (k := 4) n7 (by decide)
                have x6 := ixn (k := 5) n7 (by decide)
                have x7 := ixn (k := 6) n7 (by decide)
                have x8 := ixn (k := 7) n7 (by decide)
                rw [x0, show wr (((522 + 12 * b : Nat) : Int) + 0) = _ from x1, show wr (((522 + 12 * b : Nat) : Int) + 1) = _ from x2, show wr (((522 + 12 * b : Nat) : Int) + 2) = _ from x3, show wr (((522 + 12 * b : Nat) : Int) + 3) = _ from x4, show wr (((522 + 12 * b : Nat) : Int) + 4) = _ from x5, show wr (((522 + 12 * b : Nat) : Int) + 5) = _ from x6]
                have bd : ∀ k, k < 12 → 522 + 12 * b + k < 640 := fun k hk' => by clear hq e322 hn eN en e7 x0 x1 x2 x3 x4 x5 x6 x7 x8; omega
                have bi : ∀ k, k < 12 → mInA (((522 + 12 * b + k : Nat)) : Int) 2240 := fun k hk' => mInA_n (Nat.lt_trans (bd k hk') (by decide))
                have fu : ∀ (γ : Nat → Nat → Int) (k : Nat) (u : Int), k < 12 → FM γ (mUp γ 110 (522 + 12 * b + k) u) := fun γ k u hk' => FM.u ⟨by clear hq e322 hn eN en e7 x0 x1 x2 x3 x4 x5 x6 x7 x8; omega, bd k hk'⟩
                have fd : ∀ (γ : Nat → Nat → Int) (k : Nat) (u : Int), dfR (mUp γ 110 (522 + 12 * b + k) u) = rU (dfR γ) (202 + 12 * b + k) u := fun γ k u => df_u (by clear hq e322 hn eN en e7 x0 x1 x2 x3 x4 x5 x6 x7 x8; omega)
                rw [Int.toNat_natCast, Int.toNat_natCast, Int.toNat_natCast, Int.toNat_natCast, Int.toNat_natCast]
                refine ⟨bi 0 (by decide), bi 1 (by decide), bi 2 (by decide), bi 3 (by decide), bi 4 (by decide), ?_⟩
                have U5 := (((fu β 0 ((twI T N (i + 2) - 14 : Nat) : Int) (by decide)).tr (fu _ 1 (Int.tmod v 8) (by decide))).tr (fu _ 2 (wr (Int.tdiv v 8)) (by decide))).tr ((fu _ 3 (Int.tmod v 8) (by decide)).tr (fu _ 4 (wr (Int.tdiv v 8)) (by decide)))
                have V5 : ∀ q, q ≠ 110 → mUp (mUp (mUp (mUp (mUp β 110 (522 + 12 * b + 0) ((twI T N (i + 2) - 14 : Nat) : Int)) 110 (522 + 12 * b + 1) (Int.tmod v 8)) 110 (522 + 12 * b + 2) (wr (Int.tdiv v 8))) 110 (522 + 12 * b + 3) (Int.tmod v 8)) 110 (522 + 12 * b + 4) (wr (Int.tdiv v 8)) q = β q := fun q hq' => by rw [up_o hq', up_o hq', up_o hq', up_o hq', up_o hq']
                have W5 : dfR (mUp (mUp (mUp (mUp (mUp β 110 (522 + 12 * b + 0) ((twI T N (i + 2) - 14 : Nat) : Int)) 110 (522 + 12 * b + 1) (Int.tmod v 8)) 110 (522 + 12 * b + 2) (wr (Int.tdiv v 8))) 110 (522 + 12 * b + 3) (Int.tmod v 8)) 110 (522 + 12 * b + 4) (wr (Int.tdiv v 8))) = rU (rU (rU (rU (rU s.1 (202 + 12 * b + 0) ((twI T N (i + 2) - 14 : Nat) : Int)) (202 + 12 * b + 1) (Int.tmod v 8)) (202 + 12 * b + 2) (wr (Int.tdiv v 8))) (202 + 12 * b + 3) (Int.tmod v 8)) (202 + 12 * b + 4) (wr (Int.tdiv v 8)) := by rw [fd, fd, fd, fd, fd, d2]
                generalize mUp (mUp (mUp (mUp (mUp β 110 (522 + 12 * b + 0) ((twI T N (i + 2) - 14 : Nat) : Int)) 110 (522 + 12 * b + 1) (Int.tmod v 8)) 110 (522 + 12 * b + 2) (wr (Int.tdiv v 8))) 110 (522 + 12 * b + 3) (Int.tmod v 8)) 110 (522 + 12 * b + 4) (wr (Int.tdiv v 8)) = γ at *
                refine m_takeAfter (w := 10) (M2.fm U5) S5' (by decide) (by decide) (fun σ6 v6 F6 S6 p6 _ => vc146_272 ⟨bi 5 (by decide), ?_⟩)
                rw [Int.toNat_natCast, show wr (((522 + 12 * b : Nat) : Int) + 6) = _ from x7]
                have U6 := U5.tr (fu γ 5 v6 (by decide))
                refine m_takeAfter (w := 11) (M2.fm U6) S6 (by decide) (by decide) (fun σ7 v7 F7 S7 p7 _ => vc146_291 ⟨bi 6 (by decide), ?_⟩)
                rw [Int.toNat_natCast, show wr (((522 + 12 * b : Nat) : Int) + 7) = _ from x8]
                have U7 := U6.tr (fu _ 6 v7 (by decide))
                refine m_takeAfter (w := 12) (M2.fm U7) S7 (by decide) (by decide) (fun σ8 v8 F8 S8 p8 _ => vc146_310 ⟨bi 7 (by decide), ?_⟩)
                rw [Int.toNat_natCast]
                have U8 := U7.tr (fu _ 7 v8 (by decide))
                have F8' : Fσ S78 σ σ8 := ((((F3.tr F4).tr F5).tr F6).tr F7).tr F8
                have ek2 : mUp (mUp (mUp γ 110 (522 + 12 * b + 5) v6) 110 (522 + 12 * b + 6) v7) 110 (522 + 12 * b + 7) v8 110 322 = (b : Int) := by
                  have e0 : γ 110 322 = dfR γ 2 := rfl
                  rw [up_a, if_neg (by clear hq e322 hn eN en e7 x0 x1 x2 x3 x4 x5 x6 x7 x8 W5; omega), up_a, if_neg (by clear hq e322 hn eN en e7 x0 x1 x2 x3 x4 x5 x6 x7 x8 W5; omega), up_a, if_neg (by clear hq e322 hn eN en e7 x0 x1 x2 x3 x4 x5 x6 x7 x8 W5; omega), e0, W5]
                  clear hq e322 eN en e7 x0 x1 x2 x3 x4 x5 x6 x7 x8 W5 e0
                  rw [rU_n (by omega), rU_n (by omega), rU_n (by omega), rU_n (by omega), rU_n (by omega)]
                  exact hn
                rw [ek2, wrS (k := b) (Nat.lt_trans n7 (by decide))]
                refine hq σ8 _ _ (i + 12) _ (F8'.wk (by decide)) ((U2.tr U8).tr (FM.u (by decide))) S8 (fun qz => ?_) rfl (fun _ => ⟨rfl, rfl⟩)
                have y1 := ftz.mp qz
                have y2 := ftz.mp y1.1
                have y3 := ftz.mp y2.1
                have y4 := ftz.mp y3.1
                have y5 := ftz.mp y4.1
                have y6 := ftz.mp y5.1
                have cz := cell_z (ftz.mp y6.1).2
                have cx := cdm (x := nbI T N (i + 4)) (y := nbI T N (i + 4 + 1)) ⟨cz.1.2.1, Int.lt_of_lt_of_le cz.1.2.2 w.1.1.2⟩ ⟨cz.2.1.2.1, Int.lt_of_lt_of_le cz.2.1.2.2 w.1.2.1.2⟩
                have hv' : v = (((8 * nbI T N (i + 4 + 1) + nbI T N (i + 4)).toNat : Nat) : Int) := hv y6.1
                rw [p6 y4.1, p7 y2.1, p8 qz]
                rw [hv', cx.1, cx.2] at W5
                refine ⟨?_, ⟨?_, ?_, ?_⟩, fun k hk' => ?_, ?_, ?_⟩
                · rw [df_u (j := 2) (by decide), fd, fd, fd, W5]
                  show rU (rU (rU (rU (rU (rU (rU (rU (rU s.1 (202 + 12 * b + 0) _) (202 + 12 * b + 1) _) (202 + 12 * b + 2) _) (202 + 12 * b + 3) _) (202 + 12 * b + 4) _) (202 + 12 * b + 5) _) (202 + 12 * b + 6) _) (202 + 12 * b + 7) _) 2 _ = bnwR T N s.1 b i
                  unfold bnwR
                  rw [show 202 + 12 * b + 1 = 203 + 12 * b from Nat.add_right_comm 202 (12 * b) 1, show 202 + 12 * b + 2 = 204 + 12 * b from Nat.add_right_comm 202 (12 * b) 2, show 202 + 12 * b + 3 = 205 + 12 * b from Nat.add_right_comm 202 (12 * b) 3, show 202 + 12 * b + 4 = 206 + 12 * b from Nat.add_right_comm 202 (12 * b) 4, show 202 + 12 * b + 5 = 207 + 12 * b from Nat.add_right_comm 202 (12 * b) 5, show 202 + 12 * b + 6 = 208 + 12 * b from Nat.add_right_comm 202 (12 * b) 6, show 202 + 12 * b + 7 = 209 + 12 * b from Nat.add_right_comm 202 (12 * b) 7]
                  rfl
                · rw [F8' 104 13 (by decide)]; exact D.2.1.1
                · rw [F8' 104 15 (by decide)]; exact D.2.1.2.1
                · rw [F8' 104 16 (by decide)]; exact D.2.1.2.2
                · rw [up_o (by decide), up_o (by decide), up_o (by decide), up_o (by decide), V5 113 (by decide)]
                  show β 113 k = hsI T N (if k = b then i + 1 else s.2.2.2 k)
                  have kb : (k : Int) < ((b + 1 : Nat) : Int) := by
                    have h2 : (k : Int) < bnwR T N s.1 b i 2 := hk'
                    rw [bnw_v.1] at h2
                    exact h2
                  by_cases e : k = b
                  · rw [if_pos e, e]; exact m2n
                  · rw [if_neg e]
                    exact m2 k (by rw [hn]; exact Int.ofNat_lt.mpr (Nat.lt_of_le_of_ne (Nat.lt_succ_iff.mp (Int.ofNat_lt.mp kb)) e))
                · refine D.2.2.2.1.cg ?_ (Nat.le_refl _) (fun p _ => ?_)
                  · exact (show bnwR T N s.1 b i 6 = s.1 6 from bnw_n (by decide) (Or.inl (Nat.lt_of_lt_of_le (by decide : 6 < 202) (Nat.le_add_right _ _))))
                  · rw [up_o (by decide), up_o (by decide), up_o (by decide), up_o (by decide), up_o (by decide), up_o (by decide), up_o (by decide), up_o (by decide), V5 111 (by decide), V5 112 (by decide)]; exact o2 p
                · refine D.2.2.2.2.cg ?_ (Nat.le_refl _) (fun p _ => ?_)
                  · exact (show bnwR T N s.1 b i 7 = s.1 7 from bnw_n (by decide) (Or.inl (Nat.lt_of_lt_of_le (by decide : 7 < 202) (Nat.le_add_right _ _))))
                  · rw [up_o (by decide), up_o (by decide), up_o (by decide), up_o (by decide), up_o (by decide), up_o (by decide), up_o (by decide), up_o (by decide), V5 111 (by decide), V5 112 (by decide)]; exact o2 p
              · have ek := ki_5.2 kz
                rw [ek.2, ft_n (fa_0 (by decide))] at hq
                rw [ek.1]
                refine vc146_124 ⟨fun _ => ⟨fun y => absurd (by decide) y, fun _ => ?_⟩, fun y => absurd y (by decide)⟩
                refine m_wrong (j := i + 2) M2 S2 (by decide) (fun σ3 F3 S3 => vc146_161 ?_)
                rw [ft_0] at S3
                exact hq σ3 β (fa T N 1 (i + 2)) (i + 2) s ((F2.tr (F3.wk (by decide))).wk (by decide)) U2 S3 (fun y => absurd y (fa_0 (by decide))) (ft_n (fa_0 (by decide))).symm (fun y => absurd y (fa_0 (by decide)))
          have r := kl 5 0 rfl
          rw [show kiI T N (i + 2) 0 = -1 from if_neg (fun y => absurd y.2 (Nat.not_lt.mpr y.1))] at r
          exact r
      exact key n 0 (Nat.zero_add _) (fun k hk => absurd hk (Nat.not_lt_zero k))
    · have en : nmF T N s.2.2.2 n (i + 1) = fa T N 1 (i + 1) := if_neg nn
      refine m_wrong (j := i + 1) M S1 (by decide) (fun σ2 F2 S2 => vc146_43 (dead _ σ2 _ (F1.tr (F2.wk (by decide))) S2 (fa_0 (by decide)) ?_))
      rw [ft_0]; exact en
  · rw [if_pos (by rw [hn]; exact z)] at hq
    refine m_wrong (j := i) M S (by decide) (fun σ1 F1 T1 => vc146_20 ?_)
    rw [ft_0] at T1
    exact hq σ1 α (fa T N 5 i) i s (F1.wk (by decide)) FM.rf T1 (fun y => absurd y (fa_0 (by decide))) (ft_n (fa_0 (by decide))).symm (fun y => absurd y (fa_0 (by decide)))
