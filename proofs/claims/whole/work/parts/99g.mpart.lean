/-! The reference takes a part of a law -/
theorem fo_t {t j : Nat} (hj : j < 7) : t = fcW j ↔ (22 ≤ t ∧ t ≤ 28) ∧ (if 26 ≤ t then t - 26 else t - 19) = j := by
  unfold fcW
  by_cases a : j < 3
  · rw [if_pos a]
    by_cases b : 26 ≤ t
    · rw [if_pos b]; omega
    · rw [if_neg b]; omega
  · rw [if_neg a]
    by_cases b : 26 ≤ t
    · rw [if_pos b]; omega
    · rw [if_neg b]; omega
def foI (T : Nat → Int) (N i j : Nat) : Int := if (22 ≤ twI T N i ∧ twI T N i ≤ 28) ∧ fkI T N i < j then (fkI T N i : Int) else -1
theorem fo_1 {T : Nat → Int} {N i j : Nat} (hj : j < 7) (h : twI T N i = fcW j) : foI T N i (j + 1) = (j : Int) := by
  have a := (fo_t hj).mp h
  have e : fkI T N i = j := a.2
  unfold foI
  rw [e, if_pos ⟨a.1, Nat.lt_succ_self _⟩]
theorem fo_0 {T : Nat → Int} {N i j : Nat} (hj : j < 7) (h : twI T N i ≠ fcW j) : foI T N i (j + 1) = foI T N i j := by
  have a : ¬ ((22 ≤ twI T N i ∧ twI T N i ≤ 28) ∧ fkI T N i = j) := fun z => h ((fo_t hj).mpr z)
  unfold foI
  by_cases b : (22 ≤ twI T N i ∧ twI T N i ≤ 28) ∧ fkI T N i < j
  · rw [if_pos b, if_pos ⟨b.1, Nat.lt_succ_of_lt b.2⟩]
  · rw [if_neg b, if_neg (fun z => b ⟨z.1, Nat.lt_of_le_of_ne (Nat.lt_succ_iff.mp z.2) (fun e => a ⟨z.1, e⟩)⟩)]
theorem fo_z {T : Nat → Int} {N i : Nat} : foI T N i 0 = -1 := if_neg (fun z => absurd z.2 (Nat.not_lt_zero _))
theorem fo_m {T : Nat → Int} {N m i : Nat} (hm : m = 3 ∨ m = 7) : foI T N i m = if isF T N m i then (fkI T N i : Int) else -1 := by
  have key : ((22 ≤ twI T N i ∧ twI T N i ≤ 28) ∧ fkI T N i < m) ↔ isF T N m i := by
    unfold fkI
    show _ ↔ (29 ≤ twI T N i + m ∧ twI T N i ≤ 28)
    generalize twI T N i = t
    by_cases b : 26 ≤ t
    · rw [if_pos b]; omega
    · rw [if_neg b]; omega
  unfold foI
  by_cases h : isF T N m i
  · rw [if_pos h, if_pos (key.mpr h)]
  · rw [if_neg h, if_neg (fun z => h (key.mp z))]
theorem m_p32 {X : mXX} {d : Nat} {Q : Option mV → mS → Prop} {σ α : Nat → Nat → Int} {m : Nat} {l1 l2 l3 l4 : Int} (hm : m = 3 ∨ m = 7) (hw : σ 104 17 = if m = 7 then 1 else 0) (hl : l4 = (m : Int)) (a : ¬ l3 < 0 → ((¬ (l1 : Int) = 5 → Go X d 154 121 [some (vR 104), some (vI l1), some (vI l2), some (vI l3), some (vI l4)] [] (S0, σ, α) (0, 0) Q) ∧ ((l1 : Int) = 5 → (Ca X d 138 [vR 104, vI 5] (S0, σ, α) (fun r s' => Go X d 154 121 [some (vR 104), some (vI l1), some (vI l2), some (vI l3), some (vI l4)] [] s' (0, 0) Q))))) (b : l3 < 0 → ¬ l2 = 0 → ((¬ (l1 : Int) = 5 → Go X d 154 121 [some (vR 104), some (vI l1), some (vI l2), some (vI l3), some (vI l4)] [] (S0, σ, α) (0, 0) Q) ∧ ((l1 : Int) = 5 → (Ca X d 138 [vR 104, vI 5] (S0, σ, α) (fun r s' => Go X d 154 121 [some (vR 104), some (vI l1), some (vI l2), some (vI l3), some (vI l4)] [] s' (0, 0) Q))))) (c : l3 < 0 → l2 = 0 → Ca X d 141 [vR 104, vI 40] (S0, σ, α) (fun r s' => aI r (fun n => Go X d 154 91 [some (vR 104), some (vI l1), some (vI l2), some (vI l3), some (vI l4)] [vI n] s' (0, 0) Q))) : Go X d 154 32 [some (vR 104), some (vI l1), some (vI l2), some (vI l3), some (vI l4)] [] (S0, σ, α) (0, 0) Q := by
  rcases hm with rfl | rfl
  · have w0 : σ 104 17 = 0 := hw
    exact vc154_32 ⟨fun _ => ⟨fun _ => ⟨a, fun q => ⟨b q, c q⟩⟩, fun z => absurd z (by rw [hl]; decide)⟩, fun z => absurd w0 z⟩
  · have w0 : σ 104 17 = 1 := hw
    exact vc154_32 ⟨fun z => absurd (w0.symm.trans z) (by decide), fun _ => ⟨fun _ => ⟨a, fun q => ⟨b q, c q⟩⟩, fun z => absurd z (by rw [hl]; decide)⟩⟩
theorem m_p32s {X : mXX} {d : Nat} {Q : Option mV → mS → Prop} {σ α : Nat → Nat → Int} {m j : Nat} {l1 l2 l3 l4 : Int} (hm : m = 3 ∨ m = 7) (hw : σ 104 17 = if m = 7 then 1 else 0) (hl : l4 = (j : Int)) (hj : j < m) (a : Ca X d 137 [vR 104, vI (α 114 j)] (S0, σ, α) (fun r s' => aI r (fun n => Go X d 154 61 [some (vR 104), some (vI l1), some (vI l2), some (vI l3), some (vI l4)] [vI n] s' (0, 0) Q))) : Go X d 154 32 [some (vR 104), some (vI l1), some (vI l2), some (vI l3), some (vI l4)] [] (S0, σ, α) (0, 0) Q := by
  have et : Int.toNat l4 = j := by rw [hl, Int.toNat_natCast]
  rw [← et] at a
  have b7 : mInA l4 7 := by rw [hl]; exact mInA_n (by clear a et; omega)
  rcases hm with rfl | rfl
  · have w0 : σ 104 17 = 0 := hw
    have l3' : l4 < 3 := by rw [hl]; exact Int.ofNat_lt.mpr hj
    exact vc154_32 ⟨fun _ => ⟨fun z => absurd l3' z, fun _ => ⟨b7, a⟩⟩, fun z => absurd w0 z⟩
  · have w0 : σ 104 17 = 1 := hw
    have l3' : l4 < 7 := by rw [hl]; exact Int.ofNat_lt.mpr hj
    exact vc154_32 ⟨fun z => absurd (w0.symm.trans z) (by decide), fun _ => ⟨fun z => absurd l3' z, fun _ => ⟨b7, a⟩⟩⟩
theorem t19 {T : Nat → Int} {N m i : Nat} (hm : m = 3 ∨ m = 7) (h : twI T N i = 19) : ¬ isF T N m i := fun z => by
  have := z.1
  rw [h] at this
  clear z
  omega
theorem m_part {X : mXX} {T : Nat → Int} {N m B f : Nat} (hm : m = 3 ∨ m = 7) (A : mAf X T N m B f) : ∀ (dep i : Nat) (P : pRow) (e : Nat) (σ α : Nat → Nat → Int) (Q : Option mV → mS → Prop), mLPre T N m B dep i P σ α → 0 ≤ (pX T N m (f + 1) 4 dep i P).1 → 20 + 6 * (6 - dep) ≤ e → mLPost T N B (pX T N m (f + 1) 4 dep i P) σ α Q → Ca X e 154 [vR 104, vI (dep : Int)] (S0, σ, α) Q := by
  intro dep i P e σ α Q hp h0 he hq
  obtain ⟨d, rfl⟩ : ∃ d, e = d + 5 := ⟨e - 5, by omega⟩
  obtain ⟨M, S, E, hb, hw, hd⟩ := id hp
  obtain ⟨ib, e7, mi, ne⟩ := S.i M
  have iN := ne_b ne
  have bP : B + P.length ≤ 1000 := Nat.le_trans hb (Nat.le_trans iN M.2.2)
  rw [px_4] at h0 hq
  have srt := (sr_k (kd_r (T := T) (N := N) (i := i))).2.2.1
  have d121 : ∀ (l2 l3 l4 : Int) (g : Int) σ1, Fσ [(104, 8)] σ σ1 → MS σ1 T N i g → g ≠ 0 → mLPost T N B (g, i, P) σ α Q → Go X (d + 4) 154 121 [some (vR 104), some (vI (dep : Int)), some (vI l2), some (vI l3), some (vI l4)] [] (S0, σ1, α) (0, 0) Q := by
    intro l2 l3 l4 g σ1 F1 S1 hg hq1
    exact vc154_121 ⟨fun z => absurd (S1.p hg).2 z, fun _ => hq1 σ1 α (F1.wk (by decide)) EF.rf (E.fr (F1.wk (by decide))) S1⟩
  have bad5 : isP T N m i → dep = 5 → ∀ l2 l3 l4 : Int, Ca X (d + 4) 138 [vR 104, vI 5] (S0, σ, α) (fun r s' => Go X (d + 4) 154 121 [some (vR 104), some (vI (dep : Int)), some (vI l2), some (vI l3), some (vI l4)] [] s' (0, 0) Q) := by
    intro p5 h5 l2 l3 l4
    rw [if_pos p5, if_pos h5] at hq
    refine m_wrong (j := i) M S (by decide) (fun σ1 F1 S1 => d121 l2 l3 l4 _ σ1 F1 S1 (fa_0 (by decide)) ?_)
    rw [ft_0]
    exact hq
  have a121 : isP T N m i → dep ≠ 5 → ∀ l2 l4 : Int, (kdI T N i = 3 → l2 = 1) → (kdI T N i ≠ 3 → l2 = 0) → Go X (d + 4) 154 121 [some (vR 104), some (vI (dep : Int)), some (vI l2), some (vI (foI T N i m)), some (vI l4)] [] (S0, σ, α) (0, 0) Q := by
    intro p5 h5 l2 l4 y3 n3
    rw [if_pos p5, if_neg h5] at h0 hq
    have d1 : dep + 1 ≤ 5 := by clear h0 hq e7 mi y3 n3; omega
    have kn := isP_k p5
    have ed := wrS (k := dep) (by clear h0 hq e7 mi y3 n3; omega)
    refine vc154_121 ⟨fun _ => m_hasWord (w := 19) M S (by decide) (by decide) (fun _ q σ1 F1 S1 => ?_) (fun q σ1 F1 S1 => ?_), fun z => absurd z (by rw [S.1]; decide)⟩
    · -- not
      have k2 := k_n q (by decide)
      have k3 : ¬ kdI T N i = 3 := by rw [k2]; decide
      rw [if_neg k3, if_neg (t19 hm q), if_pos q] at h0 hq
      refine vc154_135 ⟨fun z => absurd z (by decide), fun _ => ?_⟩
      rw [ed]
      have o := (px_b (T := T) (N := N) (m := m) f 4 (dep + 1) (i + 1) P).1
      have bb := pr_b hp (o.ad (c := 3) kn)
      refine A 4 (dep + 1) (i + 1) P (d + 4) σ1 α _ (by decide) (hp.go (F1.wk (by decide)) EF.rf (E.fr (F1.wk (by decide))) S1 (Nat.le_succ_of_le hb) d1) h0 (by clear h0 hq e7 mi y3 n3 ed bb; omega) (fun σ2 α2 F2 E2 em S2 => ?_)
      generalize pX T N m f 4 (dep + 1) (i + 1) P = r at *
      have b2 : B + r.2.2.length ≤ 1000 := by
        have b3 : B + (r.2.2 ++ [((3 : Int), (0 : Int))]).length ≤ 1000 := bb.2
        rw [len_a] at b3
        clear h0 hq e7 mi y3 n3 ed bb
        omega
      refine vc154_145 (m_emit em b2 (fun σ3 α3 F3 E3 em3 => vc154_151 ?_))
      exact hq σ3 α3 (((F1.wk (by decide)).tr F2).tr (F3.wk (by decide))) (E2.tr E3) em3 (S2.fr F3)
    · have q19 := q rfl
      refine vc154_135 ⟨fun _ => m_hasSign M S1 (fun _ q2 σ2 F2 S2 => ?_) (fun q2 σ2 F2 S2 => ?_), fun z => absurd rfl z⟩
      · -- ( )
        have k4 := (sgF_z.mp q2).1
        have k3 : ¬ kdI T N i = 3 := by rw [k4]; decide
        have kf : ¬ isF T N m i := fun z => by
          have k2 := k_n rfl (Nat.lt_succ_of_le z.2)
          rw [k4] at k2
          exact absurd k2 (by decide)
        rw [if_neg k3, if_neg kf, if_neg q19] at h0 hq
        refine vc154_160 ⟨fun z => absurd z (by decide), fun _ => ?_⟩
        rw [ed]
        have F12 := F1.tr F2
        have h1 : 0 ≤ (pX T N m f 0 (dep + 1) (i + 1) P).1 := by
          unfold pEnd at h0
          by_cases e : (pX T N m f 0 (dep + 1) (i + 1) P).1 = 0
          · rw [e]; exact Int.le_refl _
          · rw [if_neg e] at h0; exact h0
        refine A 0 (dep + 1) (i + 1) P (d + 4) σ2 α _ (by decide) (hp.go (F12.wk (by decide)) EF.rf (E.fr (F12.wk (by decide))) S2 (Nat.le_succ_of_le hb) d1) h1 (by clear h0 hq e7 mi y3 n3 ed h1; omega) (fun σ3 α3 F3 E3 em S3 => ?_)
        refine vc154_170 (m_takeSign (M.fr E3.1) S3 (fun σ4 F4 S4 => vc154_176 ?_))
        generalize pX T N m f 0 (dep + 1) (i + 1) P = r at *
        have em4 : EM σ4 α3 B r.2.2 := em.fr F4
        have F14 : Fσ SE σ σ4 := ((F12.wk (by decide)).tr F3).tr (F4.wk (by decide))
        unfold pEnd at hq
        by_cases e : r.1 = 0
        · rw [if_pos e] at hq
          rw [e, ft_0] at S4
          by_cases s : sgF T N 41 r.2.1 = 0
          · rw [if_pos s] at hq
            rw [s] at S4
            exact hq σ4 α3 F14 E3 em4 S4
          · rw [if_neg s] at hq
            exact hq σ4 α3 F14 E3 em4 (S4.d s rfl)
        · rw [if_neg e] at hq
          rw [ft_n e] at S4
          exact hq σ4 α3 F14 E3 em4 (S4.d e rfl)
      · -- a number or a fact
        have F12 := F1.tr F2
        have E2 : EM σ2 α B P := E.fr (F12.wk (by decide))
        have e72 := (S2.2.2 rfl).1
        have fin : ∀ c a : Int, mLPost T N B (0, i + 1, P ++ [(c, a)]) σ α Q → Ca X (d + 4) 155 [vR 104, vI c, vI a] (S0, σ2, α) (fun r s' => Go X (d + 4) 154 210 [some (vR 104), some (vI (dep : Int)), some (vI l2), some (vI (foI T N i m)), some (vI l4)] [] s' (0, 0) Q) := by
          intro c a hq1
          refine m_emit E2 bP (fun σ3 α3 F3 E3 em3 => vc154_210 ?_)
          exact hq1 _ α3 (((F12.wk (by decide)).tr (F3.wk (by decide))).tr (Fσ.up (by decide))) E3 (em3.fr (Fσ.up (by decide))) ((S2.fr F3).nx M.2.2 kn)
        by_cases k3 : kdI T N i = 3
        · rw [if_pos k3] at hq
          have l1 : ¬ l2 = 0 := by rw [y3 k3]; decide
          have ev : wr (α 108 (Int.toNat (σ2 104 7))) = nbI T N i := by
            rw [e72, Int.toNat_natCast]
            have e8 : α 108 i = nbI T N i := mi.2.2.2.1 k3
            rw [e8, nbw k3]
          refine vc154_160 ⟨fun _ => ⟨fun z => absurd z l1, fun _ => ⟨fun z => absurd z l1, fun _ => ⟨by rw [e72]; exact ib, ?_⟩⟩⟩, fun z => absurd rfl z⟩
          rw [ev]
          exact fin 1 _ hq
        · have l0 : l2 = 0 := n3 k3
          have kf : isF T N m i := by
            rcases p5 with z | z | z | z
            · exact absurd z k3
            · exact z
            · exact absurd z q19
            · exact absurd z (q2 rfl)
          rw [if_neg k3, if_pos kf] at hq
          have ef : foI T N i m = (fkI T N i : Int) := by rw [fo_m hm, if_pos kf]
          refine vc154_160 ⟨fun _ => ⟨fun _ => ⟨fun _ => ?_, fun z => absurd l0 z⟩, fun z => absurd l0 z⟩, fun z => absurd rfl z⟩
          refine fin 2 _ ?_
          rw [ef]
          exact hq
  have five : ∀ x : Int, (x = (dep : Int)) → (x = 5 ↔ dep = 5) := fun x hx => by rw [hx]; exact ⟨fun z => Int.ofNat.inj z, fun z => by rw [z]; rfl⟩
  have gg : isP T N m i → ∀ l2 l4 : Int, (kdI T N i = 3 → l2 = 1) → (kdI T N i ≠ 3 → l2 = 0) → ((¬ ((dep : Nat) : Int) = 5 → Go X (d + 4) 154 121 [some (vR 104), some (vI (dep : Int)), some (vI l2), some (vI (foI T N i m)), some (vI l4)] [] (S0, σ, α) (0, 0) Q) ∧ (((dep : Nat) : Int) = 5 → (Ca X (d + 4) 138 [vR 104, vI 5] (S0, σ, α) (fun r s' => Go X (d + 4) 154 121 [some (vR 104), some (vI (dep : Int)), some (vI l2), some (vI (foI T N i m)), some (vI l4)] [] s' (0, 0) Q)))) := fun p5 l2 l4 y3 n3 => ⟨fun z => a121 p5 (fun q => z ((five _ rfl).mpr q)) l2 l4 y3 n3, fun z => bad5 p5 ((five _ rfl).mp z) l2 _ l4⟩
  have m7 : m ≤ 7 := by clear h0 hq e7 mi; omega
  have loop : ∀ (l2 : Int), (kdI T N i = 3 → l2 = 1) → (kdI T N i ≠ 3 → l2 = 0) → ∀ (g j : Nat), j + g = m → Go X (d + 4) 154 32 [some (vR 104), some (vI (dep : Int)), some (vI l2), some (vI (foI T N i j)), some (vI (j : Int))] [] (S0, σ, α) (0, 0) Q := by
    intro l2 y3 n3 g
    induction g with
    | zero =>
      intro j hj
      have ej : j = m := hj
      subst ej
      have fm := fo_m (T := T) (N := N) (i := i) hm
      refine m_p32 hm hw rfl (fun z => gg ?_ l2 _ y3 n3) (fun z z2 => gg ?_ l2 _ y3 n3) (fun z z2 => ?_)
      · by_cases kf : isF T N j i
        · exact Or.inr (Or.inl kf)
        · rw [fm, if_neg kf] at z; exact absurd (by decide) z
      · by_cases k3 : kdI T N i = 3
        · exact Or.inl k3
        · exact absurd (n3 k3) z2
      · refine m_isSign M S (fun _ q => ?_) (fun q => ?_)
        · exact vc154_91 ⟨fun _ => gg (Or.inr (Or.inr (Or.inr q))) l2 _ y3 n3, fun z => absurd z (by decide)⟩
        · refine vc154_91 ⟨fun z => absurd rfl z, fun _ => m_isWord (w := 19) M S (by decide) (by decide) (fun _ q2 => ?_) (fun q2 => ?_)⟩
          · exact vc154_100 ⟨fun _ => gg (Or.inr (Or.inr (Or.inl q2))) l2 _ y3 n3, fun z => absurd z (by decide)⟩
          · have np : ¬ isP T N j i := by
              intro p
              rcases p with p | p | p | p
              · have := y3 p
                rw [this] at z2
                exact absurd z2 (by decide)
              · rw [fm, if_pos p] at z
                exact absurd z (Int.not_lt.mpr (Int.ofNat_nonneg _))
              · exact q2 rfl p
              · exact q rfl p
            rw [if_neg np] at hq
            refine vc154_100 ⟨fun z => absurd rfl z, fun _ => m_wrong (j := i) M S (by decide) (fun σ1 F1 S1 => vc154_108 (d121 l2 _ _ _ σ1 F1 S1 (fa_0 (by decide)) ?_))⟩
            rw [ft_0]
            exact hq
    | succ g ih =>
      intro j hj
      have jm : j < m := by clear h0 hq e7 mi y3 n3; omega
      have j7 : j < 7 := Nat.lt_of_lt_of_le jm m7
      have fw : fcW j < 29 := by
        unfold fcW
        clear h0 hq e7 mi y3 n3
        split <;> omega
      have i1 := ih (j + 1) (by clear h0 hq e7 mi y3 n3; omega)
      have ej := wrS (k := j) (by clear h0 hq e7 mi y3 n3; omega)
      refine m_p32s hm hw rfl jm ?_
      refine m_isWord (w := fcW j) M S fw (M.2.1.2 j j7) (fun _ q => ?_) (fun q => ?_)
      · refine vc154_61 ⟨fun z => absurd z (by decide), fun _ => ?_⟩
        rw [ej]
        rw [fo_1 j7 q] at i1
        exact i1
      · refine vc154_61 ⟨fun _ => ?_, fun z => absurd rfl z⟩
        rw [ej]
        rw [fo_0 j7 (q rfl)] at i1
        exact i1
  have l0 := fun l2 y3 n3 => loop l2 y3 n3 m 0 (Nat.zero_add _)
  rw [fo_z] at l0
  refine vc154_0 ⟨fun _ => ?_, fun z => absurd z (by rw [S.1]; decide)⟩
  rw [e7, Int.toNat_natCast, mi.1]
  refine ⟨ib, fun z => ?_, fun z => ?_⟩
  · have k3 : ¬ kdI T N i = 3 := fun y => z (srt.mpr y)
    exact l0 0 (fun y => absurd y k3) (fun _ => rfl)
  · have k3 := srt.mp z
    exact l0 1 (fun _ => rfl) (fun y => absurd k3 y)
theorem m_all {X : mXX} {T : Nat → Int} {N m B : Nat} (hm : m = 3 ∨ m = 7) : ∀ f, mAf X T N m B f ∧ mLf0 X T N m B f ∧ mLf1 X T N m B f ∧ mLf2 X T N m B f ∧ mLf3 X T N m B f
  | 0 => by
    have z : ∀ (k dep i : Nat) (P : pRow), ¬ 0 ≤ (pX T N m 0 k dep i P).1 := fun _ _ _ _ h => absurd h (by show ¬ (0 : Int) ≤ -1; decide)
    exact ⟨fun k dep i P _ _ _ _ _ _ h => absurd h (z _ _ _ _), fun dep i P _ _ _ _ _ _ h => absurd h (z _ _ _ _), fun dep i P _ _ _ _ _ h => absurd h (z _ _ _ _), fun dep i P _ _ _ _ _ _ h => absurd h (z _ _ _ _), fun dep i P _ _ _ _ _ h => absurd h (z _ _ _ _)⟩
  | f + 1 => by
    obtain ⟨A, L0, L1, L2, L3⟩ := m_all (X := X) (T := T) (N := N) (m := m) (B := B) hm f
    refine ⟨?_, m_l0 A L0, m_l1 A, m_l2 A L2, m_l3 A L3⟩
    intro k dep i P e σ α Q hk hp h0 he hq
    by_cases h4 : k = 4
    · subst h4
      exact m_part hm A dep i P e σ α Q hp h0 he hq
    · have hl : k < 4 := Nat.lt_of_le_of_ne hk h4
      obtain ⟨d, rfl⟩ : ∃ d, e = d + 3 := ⟨e - 3, by omega⟩
      rw [px_l hl] at h0 hq
      have h1 := th_p h0
      have b := (px_b (T := T) (N := N) (m := m) f (k + 1) dep i P).1
      have bb := pr_b hp b
      have sub := fun Q' hh => A (k + 1) dep i P (d + 2) σ α Q' hl hp h1 (by omega) hh
      have he' : 19 + 6 * (6 - dep) + (4 - k) ≤ d + 2 := by omega
      clear he
      have hpp : ∀ σ2 α2, Fσ SE σ σ2 → EF B α α2 → EM σ2 α2 B (pX T N m f (k + 1) dep i P).2.2 → MS σ2 T N (pX T N m f (k + 1) dep i P).2.1 (pX T N m f (k + 1) dep i P).1 → (pX T N m f (k + 1) dep i P).1 = 0 → mLPre T N m B dep (pX T N m f (k + 1) dep i P).2.1 (pX T N m f (k + 1) dep i P).2.2 σ2 α2 ∧ 0 ≤ (pX T N m f (k + 5) dep (pX T N m f (k + 1) dep i P).2.1 (pX T N m f (k + 1) dep i P).2.2).1 ∧ mLPost T N B (pX T N m f (k + 5) dep (pX T N m f (k + 1) dep i P).2.1 (pX T N m f (k + 1) dep i P).2.2) σ2 α2 Q := by
        intro σ2 α2 F2 E2 em S2 e
        rw [th_0 e] at h0 hq
        rw [e] at S2
        exact ⟨hp.go F2 E2 em S2 bb.1 hp.2.2.2.2.2, h0, hq.mv F2 E2⟩
      have hnn : ∀ σ2 α2, Fσ SE σ σ2 → EF B α α2 → EM σ2 α2 B (pX T N m f (k + 1) dep i P).2.2 → (pX T N m f (k + 1) dep i P).1 ≠ 0 → ∀ σ', Fσ [(104, 7), (104, 8)] σ2 σ' → MS σ' T N (pX T N m f (k + 1) dep i P).2.1 (pX T N m f (k + 1) dep i P).1 → Q none (S0, σ', α2) := by
        intro σ2 α2 F2 E2 em e σ' F' S'
        rw [th_n e] at hq
        exact hq σ' α2 (F2.tr (F'.wk (by decide))) E2 (em.fr F') S'
      have : k = 0 ∨ k = 1 ∨ k = 2 ∨ k = 3 := by clear h0 hq bb he' hpp hnn sub; omega
      rcases this with rfl | rfl | rfl | rfl
      · refine vc150_0 (sub _ (fun σ2 α2 F2 E2 em S2 => ?_))
        by_cases e : (pX T N m f (0 + 1) dep i P).1 = 0
        · have w := hpp σ2 α2 F2 E2 em S2 e
          exact L0 dep _ _ (d + 2) σ2 α2 Q _ w.1 w.2.1 he' w.2.2
        · exact m_no0 (hp.1.fr E2.1) S2 (fun z => absurd z e) (hnn σ2 α2 F2 E2 em e)
      · refine vc151_0 (sub _ (fun σ2 α2 F2 E2 em S2 => ?_))
        by_cases e : (pX T N m f (1 + 1) dep i P).1 = 0
        · have w := hpp σ2 α2 F2 E2 em S2 e
          exact L1 dep _ _ (d + 2) σ2 α2 Q w.1 w.2.1 he' w.2.2
        · exact m_no1 (hp.1.fr E2.1) S2 (fun z => absurd z e) (hnn σ2 α2 F2 E2 em e)
      · refine vc152_0 (sub _ (fun σ2 α2 F2 E2 em S2 => ?_))
        by_cases e : (pX T N m f (2 + 1) dep i P).1 = 0
        · have w := hpp σ2 α2 F2 E2 em S2 e
          exact L2 dep _ _ (d + 2) σ2 α2 Q _ w.1 w.2.1 he' w.2.2
        · exact m_no2 (hp.1.fr E2.1) S2 (fun z => absurd z e) (hnn σ2 α2 F2 E2 em e)
      · refine vc153_0 (sub _ (fun σ2 α2 F2 E2 em S2 => ?_))
        by_cases e : (pX T N m f (3 + 1) dep i P).1 = 0
        · have w := hpp σ2 α2 F2 E2 em S2 e
          exact L3 dep _ _ (d + 2) σ2 α2 Q w.1 w.2.1 he' w.2.2
        · exact m_no3 (hp.1.fr E2.1) S2 (fun z => absurd z e) (hnn σ2 α2 F2 E2 em e)
/-- the reference reads a law whole -/
theorem m_law {X : mXX} {d : Nat} {Q : Option mV → mS → Prop} {σ α : Nat → Nat → Int} {T : Nat → Int} {N m B i : Nat} (hm : m = 3 ∨ m = 7) (M : MC α T N) (S : MS σ T N i 0) (e13 : σ 104 13 = (B : Int)) (hb : B ≤ i) (hw : σ 104 17 = if m = 7 then 1 else 0) (hq : mLPost T N B (lwX T N m i) σ α Q) : Ca X (d + 60) 150 [vR 104, vI 0] (S0, σ, α) Q := by
  have lo := lw_ok (T := T) (N := N) (i := i) hm M.2.2 (S.2.2 rfl).2
  exact (m_all hm 20000).1 0 0 i [] (d + 60) σ α Q (by decide) ⟨M, S, ⟨e13, trivial⟩, hb, hw, by decide⟩ lo.1 (by omega) hq
