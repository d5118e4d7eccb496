/-! The draft of the reference -/
def dfR (α : Nat → Nat → Int) (x : Nat) : Int := α 110 (320 + x)
theorem df_u {α : Nat → Nat → Int} {j k : Nat} {v : Int} (e : k = 320 + j) : dfR (mUp α 110 k v) = rU (dfR α) j v := by
  funext x
  unfold dfR rU
  rw [e, up_a]
  by_cases h : x = j
  · rw [if_pos h, if_pos (by rw [h])]
  · rw [if_neg h, if_neg (by omega)]
theorem df_o {α : Nat → Nat → Int} {a k : Nat} {v : Int} (h : a ≠ 110) : dfR (mUp α a k v) = dfR α := by
  funext x
  unfold dfR
  rw [up_o (fun e => h e.symm)]
def FM (α α' : Nat → Nat → Int) : Prop := Fα [110, 111, 112, 113] α α' ∧ (∀ j, j < 320 ∨ 640 ≤ j → α' 110 j = α 110 j) ∧ (∀ p, p < 1100 → α' 111 p = α 111 p ∧ α' 112 p = α 112 p)
theorem FM.rf {α : Nat → Nat → Int} : FM α α := ⟨Fα.rf, fun _ _ => rfl, fun _ _ => ⟨rfl, rfl⟩⟩
theorem FM.tr {α α' α'' : Nat → Nat → Int} (h : FM α α') (g : FM α' α'') : FM α α'' := ⟨h.1.tr g.1, fun j q => (g.2.1 j q).trans (h.2.1 j q), fun p q => ⟨(g.2.2 p q).1.trans (h.2.2 p q).1, (g.2.2 p q).2.trans (h.2.2 p q).2⟩⟩
theorem FM.u {α : Nat → Nat → Int} {k : Nat} {v : Int} (h : 320 ≤ k ∧ k < 640) : FM α (mUp α 110 k v) := by
  refine ⟨Fα.up (by decide), fun j q => ?_, fun p _ => ?_⟩
  · rw [up_a, if_neg (by omega)]
  · rw [up_o (by decide), up_o (by decide)]; exact ⟨rfl, rfl⟩
theorem FM.n {α : Nat → Nat → Int} {k : Nat} {v : Int} : FM α (mUp α 113 k v) := by
  refine ⟨Fα.up (by decide), fun j q => ?_, fun p _ => ?_⟩
  · rw [up_o (by decide)]
  · rw [up_o (by decide), up_o (by decide)]; exact ⟨rfl, rfl⟩
theorem FM.e {B : Nat} {α α' : Nat → Nat → Int} (h : EF B α α') : FM α α' := ⟨h.1.wk (by decide), fun j _ => by rw [h.1 110 (by decide)], fun p hp => h.2 p (Nat.lt_of_lt_of_le hp (Nat.le_add_right _ _))⟩
def lwD (α : Nat → Nat → Int) (cd : Nat) (n : Int) (P0 P : pRow) : Prop := (n = -1 ∧ P = P0) ∨ ∃ p : Nat, n = (p : Int) ∧ pgP (α 111) (α 112) (1100 + p) P ∧ α 111 (1100 + p + P.length) = 0 ∧ p + P.length < cd
def DM (T : Nat → Int) (N : Nat) (σ α : Nat → Nat → Int) (s : bSt) : Prop := dfR α = s.1 ∧ (σ 104 13 = (s.2.2.1.2.2 : Int) ∧ σ 104 15 = (s.2.2.1.1 : Int) ∧ σ 104 16 = (s.2.2.1.2.1 : Int)) ∧ (∀ b : Nat, (b : Int) < s.1 2 → α 113 b = hsI T N (s.2.2.2 b)) ∧ lwD α s.2.2.1.2.2 (s.1 6) [(1, 10)] s.2.1.1 ∧ lwD α s.2.2.1.2.2 (s.1 7) [(2, 3)] s.2.1.2
theorem lwD.cg {α α' : Nat → Nat → Int} {cd cd' : Nat} {n n' : Int} {P0 P : pRow} (h : lwD α cd n P0 P) (en : n' = n) (hc : cd ≤ cd') (e : ∀ p, p < 1100 + cd → α' 111 p = α 111 p ∧ α' 112 p = α 112 p) : lwD α' cd' n' P0 P := by
  subst en
  rcases h with h | ⟨p, h1, h2, h3, h4⟩
  · exact Or.inl h
  · refine Or.inr ⟨p, h1, h2.cg (fun t t1 t2 => e t (by clear h1; omega)), ?_, Nat.lt_of_lt_of_le h4 hc⟩
    rw [(e _ (by clear h1; omega)).1]; exact h3
def SMm : List (Nat × Nat) := [(104, 7), (104, 8), (104, 13), (104, 15), (104, 16), (104, 17)]
/-- what is there after a line but its last sign -/
def mLn (T : Nat → Int) (N : Nat) (r : bLn) (σ α : Nat → Nat → Int) (Q : Option mV → mS → Prop) : Prop := ∀ (σ' α' : Nat → Nat → Int) (f' : Int) (i' : Nat) (s' : bSt), Fσ SMm σ σ' → FM α α' → MS σ' T N i' f' → (f' = 0 → DM T N σ' α' s') → r.1 = ft f' (sgF T N 59 i') → (f' = 0 → r.2.1 = i' + 1 ∧ r.2.2 = s') → Q none (S0, σ', α')
theorem MC.fm {α α' : Nat → Nat → Int} {T : Nat → Int} {N : Nat} (M : MC α T N) (h : FM α α') : MC α' T N := M.fr h.1
theorem or0 {u t : Int} (hu : u = 0 ∨ u = 1 ∨ u = 2 ∨ u = 3) (ht : t = 0 ∨ t = 4) : iOr (u + t) 0 = u + t := by
  rcases hu with rfl | rfl | rfl | rfl <;> rcases ht with rfl | rfl <;> decide +kernel
theorem ixm {x y : Int} (hx : 0 ≤ x ∧ x < 8) (hy : 0 ≤ y ∧ y < 8) : wr (wr (8 * y) + x) = (((8 * y + x).toNat : Nat) : Int) ∧ (8 * y + x).toNat < 64 := by
  rw [wr_of (x := 8 * y) (by omega) (by omega), wr_of (by omega) (by omega)]
  constructor <;> omega
theorem ixm3 {c : Nat} (h : c < 64) : wr (330 + wr (3 * (c : Int))) = ((330 + 3 * c : Nat) : Int) ∧ wr (((330 + 3 * c : Nat) : Int) + 1) = ((331 + 3 * c : Nat) : Int) ∧ wr (((330 + 3 * c : Nat) : Int) + 2) = ((332 + 3 * c : Nat) : Int) := by
  rw [wr_of (x := 3 * (c : Int)) (by omega) (by omega), wr_of (by omega) (by omega), wr_of (by omega) (by omega), wr_of (by omega) (by omega)]
  refine ⟨?_, ?_, ?_⟩ <;> omega
theorem ixb {b : Nat} (h : b < 7) : wr (522 + wr (12 * (b : Int))) = ((522 + 12 * b : Nat) : Int) := by
  rw [wr_of (x := 12 * (b : Int)) (by omega) (by omega), wr_of (by omega) (by omega)]; omega
theorem ixk {a k : Nat} (h : a + k < 100000) : wr (((a : Nat) : Int) + (k : Int)) = ((a + k : Nat) : Int) := wadd h
theorem df_v {α : Nat → Nat → Int} {ρ : Nat → Int} {j k : Nat} (h : dfR α = ρ) (e : k = 320 + j) : α 110 k = ρ j := by rw [← h, e]; rfl
theorem m_takeCell {X : mXX} {d : Nat} {Q : Option mV → mS → Prop} {σ α : Nat → Nat → Int} {T : Nat → Int} {N j : Nat} {s : bSt} {wo f : Int} (M : MC α T N) (S : MS σ T N j f) (hd : dfR α = s.1) (w : SW s) (hwo : iAnd 0 wo = 0) (h : ∀ σ' v, Fσ S78 σ σ' → MS σ' T N (j + 2) (ft f (cellF T N s.1 wo j)) → (ft f (cellF T N s.1 wo j) = 0 → v = ((celN T N j : Nat) : Int)) → Q (some (vI v)) (S0, σ', α)) : Ca X (d + 3) 144 [vR 104, vI wo] (S0, σ, α) Q := by
  have e320 : α 110 320 = s.1 0 := df_v hd rfl
  have e321 : α 110 321 = s.1 1 := df_v hd rfl
  have e322 : α 110 322 = s.1 2 := df_v hd rfl
  have w0 := wr1 w.1.1
  have w1 := wr1 w.1.2.1
  refine vc144_0 ?_
  rw [e320, w0]
  refine m_takeNumber M S (fun σ1 v1 F1 S1 p1 _ => vc144_15 ?_)
  rw [e321, w1]
  refine m_takeNumber M S1 (fun σ2 v2 F2 S2 p2 _ => ?_)
  have F12 := F1.tr F2
  have ec : ft f (cellF T N s.1 wo j) = ft (ft (ft f (nbF T N 0 (s.1 0 - 1) j)) (nbF T N 0 (s.1 1 - 1) (j + 1))) (if iAnd (lieR s.1 (nbI T N j) (nbI T N (j + 1))) wo = 0 then 0 else fa T N 3 (j + 1)) := by
    unfold cellF
    rw [ft_a, ft_a]
  by_cases q : ft (ft f (nbF T N 0 (s.1 0 - 1) j)) (nbF T N 0 (s.1 1 - 1) (j + 1)) = 0
  · have q1 := ftz.mp q
    have q2 := ftz.mp q1.1
    have n1 := nbF_z.mp q2.2
    have n2 := nbF_z.mp q1.2
    rw [q, ft_0] at ec
    rw [ec] at h
    have ev1 := p1 q1.1
    have ev2 := p2 q
    rw [q] at S2
    obtain ⟨jb, e7, mi, ne⟩ := S2.i M
    have x8 : nbI T N j < 8 := Int.lt_of_le_of_lt n1.2.2 (by have := w.1.1.2; clear n1 n2 w0 w1 ec ev1 ev2 e320 e321 e322 e7; omega)
    have y8 : nbI T N (j + 1) < 8 := Int.lt_of_le_of_lt n2.2.2 (by have := w.1.2.1.2; clear n1 n2 w0 w1 ec ev1 ev2 e320 e321 e322 e7 x8; omega)
    have ix := ixm (x := nbI T N j) (y := nbI T N (j + 1)) ⟨n1.2.1, x8⟩ ⟨n2.2.1, y8⟩
    have i3 := ixm3 ix.2
    have b2 := w.1.2.2.1
    obtain ⟨n, hn⟩ : ∃ n : Nat, s.1 2 = (n : Int) := ⟨(s.1 2).toNat, (Int.toNat_of_nonneg b2.1).symm⟩
    have n7 : n ≤ 7 := by rw [hn] at b2; clear hn n1 n2 w0 w1 ec ev1 ev2 e320 e321 e322 e7 i3; omega
    have eN : (s.1 2).toNat = n := by rw [hn, Int.toNat_natCast]
    have wc := (w.1.c ix.2).1
    have lie : lieR s.1 (nbI T N j) (nbI T N (j + 1)) = s.1 (10 + 3 * (8 * nbI T N (j + 1) + nbI T N j).toNat) + (if 0 < s.1 (11 + 3 * (8 * nbI T N (j + 1) + nbI T N j).toNat) then 2 else 0) + btN s.1 (nbI T N j) (nbI T N (j + 1)) n := by unfold lieR; rw [eN]
    have fin : ∀ (l6 : Int) (x7 : Option mV), (iAnd (lieR s.1 (nbI T N j) (nbI T N (j + 1))) wo = 0 → Go X (d + 2) 144 188 [some (vR 104), some (vI wo), some (vI (nbI T N j)), some (vI (nbI T N (j + 1))), some (vI ((((8 * nbI T N (j + 1) + nbI T N j).toNat : Nat)) : Int)), some (vI (lieR s.1 (nbI T N j) (nbI T N (j + 1)))), some (vI l6), x7] [] (S0, σ2, α) (0, 0) Q) ∧ (¬ iAnd (lieR s.1 (nbI T N j) (nbI T N (j + 1))) wo = 0 → Ca X (d + 2) 138 [vR 104, vI 3] (S0, mUp σ2 104 7 (wr (σ2 104 7 - 1)), α) (fun r s' => Go X (d + 2) 144 188 [some (vR 104), some (vI wo), some (vI (nbI T N j)), some (vI (nbI T N (j + 1))), some (vI ((((8 * nbI T N (j + 1) + nbI T N j).toNat : Nat)) : Int)), some (vI (lieR s.1 (nbI T N j) (nbI T N (j + 1)))), some (vI l6), x7] [] s' (0, 0) Q)) := by
      intro l6 x7
      refine ⟨fun z => ?_, fun z => ?_⟩
      · rw [if_pos z] at h
        exact vc144_188 (h σ2 _ F12 S2 (fun _ => rfl))
      · rw [if_neg z] at h
        have jN := ne_b ne
        have eb : wr (σ2 104 7 - 1) = ((j + 1 : Nat) : Int) := by
          rw [e7]
          have := M.2.2
          clear n1 n2 w0 w1 ec ev1 ev2 e320 e321 e322 e7 i3 lie
          rw [wr_of (by omega) (by omega)]; omega
        have ne1 : NE T N (j + 1) := fun t ht => ne t (Nat.lt_succ_of_lt ht)
        have S3 : MS (mUp σ2 104 7 (wr (σ2 104 7 - 1))) T N (j + 1) 0 := by
          refine ⟨?_, Int.le_refl _, fun _ => ⟨?_, ne1⟩⟩
          · rw [up_n (by decide)]; exact S2.1
          · rw [up_s, eb]
        refine m_wrong (j := j + 2) M S3 (by decide) (fun σ4 F4 S4 => vc144_188 ?_)
        rw [ft_0] at S4
        exact h σ4 _ ((F12.tr (Fσ.up (by decide))).tr (F4.wk (by decide))) S4 (fun y => absurd y (fa_0 (by decide)))
    have loop : ∀ (u : Int), (u = 0 ∨ u = 1 ∨ u = 2 ∨ u = 3) → lieR s.1 (nbI T N j) (nbI T N (j + 1)) = u + btN s.1 (nbI T N j) (nbI T N (j + 1)) n → ∀ g b : Nat, b + g = n → ∀ x7, Go X (d + 2) 144 93 [some (vR 104), some (vI wo), some (vI (nbI T N j)), some (vI (nbI T N (j + 1))), some (vI ((((8 * nbI T N (j + 1) + nbI T N j).toNat : Nat)) : Int)), some (vI (u + btN s.1 (nbI T N j) (nbI T N (j + 1)) b)), some (vI (b : Int)), x7] [] (S0, σ2, α) (0, 0) Q := by
      intro u hu el g
      induction g with
      | zero =>
        intro b hb x7
        have eb : b = n := hb
        subst eb
        rw [← el]
        exact vc144_93 ⟨fun _ => fin _ _, fun z => absurd z (by rw [e322, hn]; exact Int.lt_irrefl _)⟩
      | succ g ih =>
        intro b hb x7
        have bn : b < n := by clear hn n1 n2 w0 w1 ec ev1 ev2 e320 e321 e322 e7 i3 lie wc el hu; omega
        have bl : (b : Int) < s.1 2 := by rw [hn]; exact Int.ofNat_lt.mpr bn
        have b7 : b < 7 := Nat.lt_of_lt_of_le bn n7
        have i1 := fun x7 => ih (b + 1) (by clear hn n1 n2 w0 w1 ec ev1 ev2 e320 e321 e322 e7 i3 lie wc el hu; omega) x7
        have eb := wrS (k := b) (by clear hn n1 n2 w0 w1 ec ev1 ev2 e320 e321 e322 e7 i3 lie wc el hu; omega)
        have et := or4 hu (btr4 (ρ := s.1) (x := nbI T N j) (y := nbI T N (j + 1)) b)
        have eo := or0 hu (btr4 (ρ := s.1) (x := nbI T N j) (y := nbI T N (j + 1)) b)
        have xb := ixb b7
        have k1 : wr (((522 + 12 * b : Nat) : Int) + 1) = ((523 + 12 * b : Nat) : Int) := by rw [wr_of (by clear xb eb; omega) (by clear xb eb; omega)]; clear xb eb; omega
        have k2 : wr (((522 + 12 * b : Nat) : Int) + 2) = ((524 + 12 * b : Nat) : Int) := by rw [wr_of (by clear xb eb k1; omega) (by clear xb eb k1; omega)]; clear xb eb k1; omega
        have v1 : α 110 (523 + 12 * b) = s.1 (203 + 12 * b) := df_v hd (by clear hn n1 n2 w0 w1 ec ev1 ev2 e320 e321 e322 e7 i3 lie wc el hu xb eb k1 k2; omega)
        have v2 : α 110 (524 + 12 * b) = s.1 (204 + 12 * b) := df_v hd (by clear hn n1 n2 w0 w1 ec ev1 ev2 e320 e321 e322 e7 i3 lie wc el hu xb eb k1 k2 v1; omega)
        have c1 : 523 + 12 * b < 2240 := by clear hn n1 n2 w0 w1 ec ev1 ev2 e320 e321 e322 e7 i3 lie wc el hu xb eb k1 k2 v1 v2; omega
        have c2 : 524 + 12 * b < 2240 := by clear hn n1 n2 w0 w1 ec ev1 ev2 e320 e321 e322 e7 i3 lie wc el hu xb eb k1 k2 v1 v2; omega
        refine vc144_93 ⟨fun z => absurd (by rw [e322]; exact bl) z, fun _ => ⟨fun z => absurd S2.1 z, fun _ => ?_⟩⟩
        rw [xb, k1, k2, Int.toNat_natCast, Int.toNat_natCast, v1, v2, eb, et, eo]
        refine ⟨mInA_n c1, fun z => ?_, fun z => ⟨mInA_n c2, fun z2 => ?_, fun z2 => ?_⟩⟩
        · have : btN s.1 (nbI T N j) (nbI T N (j + 1)) (b + 1) = btN s.1 (nbI T N j) (nbI T N (j + 1)) b := if_neg (fun y => z y.1)
          rw [this] at i1
          exact i1 _
        · have : btN s.1 (nbI T N j) (nbI T N (j + 1)) (b + 1) = btN s.1 (nbI T N j) (nbI T N (j + 1)) b := if_neg (fun y => z2 y.2)
          rw [this] at i1
          exact i1 _
        · have : btN s.1 (nbI T N j) (nbI T N (j + 1)) (b + 1) = 4 := if_pos ⟨z, z2⟩
          rw [this] at i1
          exact i1 _
    have l0 := fun u hu el => loop u hu el n 0 (Nat.zero_add _) none
    refine vc144_31 ⟨fun _ => ?_, fun z => absurd z (by rw [S2.1]; decide)⟩
    rw [ev1, ev2, ix.1, i3.1, i3.2.1, Int.toNat_natCast, Int.toNat_natCast]
    have v0 : α 110 (330 + 3 * (8 * nbI T N (j + 1) + nbI T N j).toNat) = s.1 (10 + 3 * (8 * nbI T N (j + 1) + nbI T N j).toNat) := df_v hd (by rw [← Nat.add_assoc])
    have v1 : α 110 (331 + 3 * (8 * nbI T N (j + 1) + nbI T N j).toNat) = s.1 (11 + 3 * (8 * nbI T N (j + 1) + nbI T N j).toNat) := df_v hd (by rw [← Nat.add_assoc])
    rw [v0, v1]
    have cc := ix.2
    have c1 : 330 + 3 * (8 * nbI T N (j + 1) + nbI T N j).toNat < 2240 := by
      generalize (8 * nbI T N (j + 1) + nbI T N j).toNat = c at cc
      clear hn n1 n2 w0 w1 ec ev1 ev2 e320 e321 e322 e7 i3 lie wc v0 v1; omega
    have c2 : 331 + 3 * (8 * nbI T N (j + 1) + nbI T N j).toNat < 2240 := by
      generalize (8 * nbI T N (j + 1) + nbI T N j).toNat = c at cc
      clear hn n1 n2 w0 w1 ec ev1 ev2 e320 e321 e322 e7 i3 lie wc v0 v1 c1; omega
    refine ⟨mInA_n c1, mInA_n c2, fun z => ?_, fun z => ?_⟩
    · rw [if_neg z] at lie
      rcases wc with u | u
      · rw [u] at lie ⊢
        exact l0 0 (by decide) lie
      · rw [u] at lie ⊢
        exact l0 1 (by decide) lie
    · rw [if_pos z] at lie
      rcases wc with u | u
      · rw [u] at lie ⊢
        exact l0 2 (by decide) lie
      · rw [u] at lie ⊢
        exact l0 3 (by decide) lie
  · have ef : ft f (cellF T N s.1 wo j) = ft (ft f (nbF T N 0 (s.1 0 - 1) j)) (nbF T N 0 (s.1 1 - 1) (j + 1)) := by rw [ec, ft_n q]
    rw [ef] at h
    have sp := S2.p q
    refine vc144_31 ⟨fun z => absurd sp.2 z, fun _ => ?_⟩
    have gg : ∀ v, Go X (d + 2) 144 188 [some (vR 104), some (vI wo), some (vI v1), some (vI v2), some (vI v), some (vI 0), some (vI 0), none] [] (S0, σ2, α) (0, 0) Q := fun v => vc144_188 (h σ2 v F12 S2 (fun y => absurd y q))
    exact vc144_93 ⟨fun _ => ⟨fun _ => gg _, fun z => absurd hwo z⟩, fun _ => ⟨fun _ => ⟨fun _ => gg _, fun z => absurd hwo z⟩, fun z => absurd z sp.1⟩⟩
