/-! feed: both tapes take the same signs -/
/-- the k-th byte from the end -/
def byt (v : Int) (k : Nat) : Int := iAnd (wr (lUshr v (8 * (k : Int)))) 255
theorem iAnd255 (x : Int) : 0 ≤ iAnd x 255 ∧ iAnd x 255 ≤ 255 := by
  unfold iAnd
  have h : Int32.ofInt 255 = 255 := by decide
  rw [h]
  obtain ⟨j, hj, e⟩ := pk_andE (Int32.ofInt x) (m := 255) 8 (by decide)
  rw [e, nI_toInt (by omega)]
  omega
theorem iB_id {x : Int} (h : -128 ≤ x ∧ x < 128) : iB x = x := by
  unfold iB
  rw [Int8.toInt_toInt32, Int32.toInt_toInt8, i32_of (by unfold r32; omega), Int.bmod_def]
  omega
theorem shr_byt (v : Int) (k : Nat) (hk : k < 8) : iAnd (wr (lShr v (8 * (k : Int)))) 255 = byt v k := by
  have e1 : ∀ x : Int, iAnd (wr x) 255 = ((Int64.ofInt x).toInt32 &&& 255).toInt := fun x => by
    unfold iAnd
    rw [← e_l2i]; rfl
  unfold byt
  rw [e1, e1]
  unfold lShr lUshr
  rw [of_i64, of_i64]
  congr 1
  have hs : Int32.ofInt (8 * (k : Int)) = nI (8 * k) := by
    show Int32.ofInt (8 * (k : Int)) = Int32.ofNat (8 * k)
    rw [← Int32.ofInt_eq_ofNat]; congr 1
  rw [hs]
  generalize Int64.ofInt v = x
  apply Int32.toBitVec_inj.mp
  have h1 : ((nI (8 * k)).toInt64 &&& 63).toBitVec.smod 64 = BitVec.ofNat 64 (8 * k) := by
    have : ∀ k, k < 8 → ((nI (8 * k)).toInt64 &&& 63).toBitVec.smod 64 = BitVec.ofNat 64 (8 * k) := by decide
    exact this k hk
  have h2 : ((nI (8 * k)).toInt64.toUInt64 &&& Int64.toUInt64 63) = UInt64.ofNat (8 * k) := by
    have : ∀ k, k < 8 → ((nI (8 * k)).toInt64.toUInt64 &&& Int64.toUInt64 63) = UInt64.ofNat (8 * k) := by decide
    exact this k hk
  rw [h2]
  have e2 : (x >>> ((nI (8 * k)).toInt64 &&& 63)).toBitVec = x.toBitVec.sshiftRight (8 * k) := by
    rw [Int64.toBitVec_shiftRight, h1, BitVec.sshiftRight_eq']
    congr 1
    rw [BitVec.toNat_ofNat]
    omega
  have e3 : ((x.toUInt64 >>> UInt64.ofNat (8 * k)).toInt64).toBitVec = x.toBitVec >>> (8 * k) := by
    show (x.toUInt64 >>> UInt64.ofNat (8 * k)).toBitVec = _
    rw [UInt64.toBitVec_shiftRight]
    apply BitVec.eq_of_toNat_eq
    have : ∀ k, k < 8 → ((UInt64.ofNat (8 * k)).toBitVec % 64).toNat = 8 * k := by decide
    rw [BitVec.ushiftRight_eq', BitVec.toNat_ushiftRight, BitVec.toNat_ushiftRight, this k hk]
    rfl
  rw [Int32.toBitVec_and, Int32.toBitVec_and, Int64.toBitVec_toInt32, Int64.toBitVec_toInt32, e2, e3]
  apply BitVec.eq_of_getLsbD_eq
  intro i hi
  simp only [BitVec.getLsbD_and, BitVec.getLsbD_setWidth, BitVec.getLsbD_sshiftRight, BitVec.getLsbD_ushiftRight]
  by_cases h8 : i < 8
  · rw [BitVec.getLsbD_signExtend, BitVec.getLsbD_signExtend, if_pos (show i < 64 by omega), if_pos (show i < 64 by omega), BitVec.getLsbD_sshiftRight, BitVec.getLsbD_ushiftRight, if_pos (show 8 * k + i < 64 by omega)]
    simp [show ¬ 64 ≤ i by omega]
  · have h255 : (255 : Int32).toBitVec.getLsbD i = false := by
      have : ∀ i, i < 32 → 8 ≤ i → (255 : Int32).toBitVec.getLsbD i = false := by decide
      exact this i hi (by omega)
    rw [h255, Bool.and_false, Bool.and_false]

abbrev TP : Type := Int × (Nat → Int)
def tp1 (c : Int) (t : TP) : TP := if (c = 10 ∨ (32 ≤ c ∧ c ≤ 126)) ∧ t.1 < 1000 then (t.1 + 1, fun j => if j = t.1.toNat then c else t.2 j) else t
def tpk (v : Int) : Nat → TP → TP
  | 0, t => t
  | k + 1, t => tpk v k (tp1 (byt v k) t)
theorem tp_y {c : Int} {t : TP} (h : (c = 10 ∨ (32 ≤ c ∧ c ≤ 126)) ∧ t.1 < 1000) : tp1 c t = (t.1 + 1, fun j => if j = t.1.toNat then c else t.2 j) := if_pos h
theorem tp_n {c : Int} {t : TP} (h : ¬ ((c = 10 ∨ (32 ≤ c ∧ c ≤ 126)) ∧ t.1 < 1000)) : tp1 c t = t := if_neg h
theorem tp_b {c : Int} {t : TP} (h : 0 ≤ t.1 ∧ t.1 ≤ 1000) : 0 ≤ (tp1 c t).1 ∧ (tp1 c t).1 ≤ 1000 := by
  by_cases q : (c = 10 ∨ (32 ≤ c ∧ c ≤ 126)) ∧ t.1 < 1000
  · rw [tp_y q]
    show 0 ≤ t.1 + 1 ∧ t.1 + 1 ≤ 1000
    have := q.2
    omega
  · rw [tp_n q]; exact h
/-- two tapes that say the same -/
def tpE (t u : TP) : Prop := u.1 = t.1 ∧ (0 ≤ t.1 ∧ t.1 ≤ 1000) ∧ ∀ j : Nat, (j : Int) < t.1 → u.2 j = t.2 j ∧ okc (t.2 j)
theorem tpE.s {c : Int} {t u : TP} (e : tpE t u) : tpE (tp1 c t) (tp1 c u) := by
  obtain ⟨e1, e2, e3⟩ := e
  by_cases q : (c = 10 ∨ (32 ≤ c ∧ c ≤ 126)) ∧ t.1 < 1000
  · have q' : (c = 10 ∨ (32 ≤ c ∧ c ≤ 126)) ∧ u.1 < 1000 := by rw [e1]; exact q
    refine ⟨?_, tp_b e2, ?_⟩
    · rw [tp_y q, tp_y q']
      show u.1 + 1 = t.1 + 1
      rw [e1]
    · rw [tp_y q, tp_y q']
      show ∀ j : Nat, (j : Int) < t.1 + 1 → (if j = u.1.toNat then c else u.2 j) = (if j = t.1.toNat then c else t.2 j) ∧ okc (if j = t.1.toNat then c else t.2 j)
      intro j hj
      rw [e1]
      by_cases h : j = t.1.toNat
      · rw [if_pos h, if_pos h]; exact ⟨rfl, q.1⟩
      · rw [if_neg h, if_neg h]; exact e3 j (by omega)
  · have q' : ¬ ((c = 10 ∨ (32 ≤ c ∧ c ≤ 126)) ∧ u.1 < 1000) := by rw [e1]; exact q
    rw [tp_n q, tp_n q']
    exact ⟨e1, e2, e3⟩
theorem tpE.k {v : Int} : ∀ {k : Nat} {t u : TP}, tpE t u → tpE (tpk v k t) (tpk v k u)
  | 0, _, _, e => e
  | k + 1, t, u, e => by
    show tpE (tpk v k (tp1 (byt v k) t)) (tpk v k (tp1 (byt v k) u))
    exact tpE.k e.s
theorem byt_b {v : Int} {k : Nat} : 0 ≤ byt v k ∧ byt v k ≤ 255 := iAnd255 _
theorem nby {k : Nat} (h : k < 8) : wr (8 * (k : Int) + -8) = 8 * (k : Int) - 8 := by rw [wr_of (by omega) (by omega)]; omega
theorem iBB {c : Int} (h : c = 10 ∨ (32 ≤ c ∧ c ≤ 126)) : iB (iB c) = c := by
  have e : iB c = c := iB_id (by omega)
  rw [e, e]
theorem c_put {X : mXX} {d : Nat} {Q : Option mV → mS → Prop} {v : Int} {σ α : Nat → Nat → Int} {t : TP} (e1 : σ 1 1 = t.1) (e2 : α 2 = t.2) (tb : 0 ≤ t.1 ∧ t.1 ≤ 1000) (hQ : ∀ σ' α', Fσ [(1, 1)] σ σ' → Fα [2] α α' → σ' 1 1 = (tpk v 8 t).1 → α' 2 = (tpk v 8 t).2 → Q none (S0, σ', α')) : Ca X (d + 1) 66 [vR 1, vL v] (S0, σ, α) Q := by
  refine vc66_0 ?_
  have key : ∀ (k : Nat) (σ1 γ : Nat → Nat → Int) (u : TP) (x4 x5 : Option mV), k ≤ 8 → Fσ [(1, 1)] σ σ1 → Fα [2] α γ → σ1 1 1 = u.1 → γ 2 = u.2 → 0 ≤ u.1 ∧ u.1 ≤ 1000 → tpk v k u = tpk v 8 t → Go X d 66 3 [some (vR 1), some (vL v), none, some (vI (8 * (k : Int) - 8)), x4, x5] [] (S0, σ1, γ) (0, 0) Q := by
    intro k
    induction k with
    | zero =>
      intro σ1 γ u x4 x5 _ hs hf h1 h2 ub e
      have e' : u = tpk v 8 t := e
      refine vc66_3 ⟨fun _ => hQ σ1 γ hs hf (by rw [h1, e']) (by rw [h2, e']), fun q => absurd (by decide) q⟩
    | succ k ih =>
      intro σ1 γ u x4 x5 hk hs hf h1 h2 ub e
      have k8 : k < 8 := by omega
      have kl : ¬ (8 * (k : Int)) < 0 := by omega
      have es : 8 * ((k + 1 : Nat) : Int) - 8 = 8 * (k : Int) := by omega
      have en := nby k8
      rw [es]
      have e' : tpk v k (tp1 (byt v k) u) = tpk v 8 t := e
      have cb : iAnd (wr (lUshr v (8 * (k : Int)))) 255 = byt v k := rfl
      have go0 : ∀ y4 y5, ¬ ((byt v k = 10 ∨ (32 ≤ byt v k ∧ byt v k ≤ 126)) ∧ u.1 < 1000) → Go X d 66 3 [some (vR 1), some (vL v), none, some (vI (wr (8 * (k : Int) + -8))), y4, y5] [] (S0, σ1, γ) (0, 0) Q := by
        intro y4 y5 h
        rw [tp_n h] at e'
        rw [en]
        exact ih σ1 γ u y4 y5 (Nat.le_of_lt k8) hs hf h1 h2 ub e'
      have go1 : ∀ y4 y5, (byt v k = 10 ∨ (32 ≤ byt v k ∧ byt v k ≤ 126)) ∧ u.1 < 1000 → Go X d 66 3 [some (vR 1), some (vL v), none, some (vI (wr (8 * (k : Int) + -8))), y4, y5] [] (S0, mUp σ1 1 1 (wr (u.1 + 1)), mUp γ 2 u.1.toNat (iB (iB (byt v k)))) (0, 0) Q := by
        intro y4 y5 h
        have tb' := tp_b (c := byt v k) ub
        rw [en, iBB h.1, wr_of (x := u.1 + 1) (by clear e' en cb; omega) (by clear e' en cb; omega)]
        refine ih _ _ (tp1 (byt v k) u) y4 y5 (Nat.le_of_lt k8) (hs.tr (Fσ.up (by decide))) (hf.tr (Fα.up (by decide))) ?_ ?_ tb' e'
        · rw [up_s, tp_y h]
        · rw [up_f, h2, tp_y h]
      have im : u.1 < 1000 → mInA u.1 1000 := fun h => by unfold mInA; clear e' en cb; omega
      refine vc66_3 ⟨fun q => absurd q kl, fun _ => ?_⟩
      rw [cb, h1]
      refine ⟨fun q => ⟨fun q2 => go0 _ _ (fun z => q2 z.2), fun q2 => ⟨im q2, go1 _ _ ⟨Or.inl q, q2⟩⟩⟩, fun q => ⟨fun q2 => go0 _ _ (fun z => ?_), fun q2 => ⟨fun q3 => go0 _ _ (fun z => ?_), fun q3 => ⟨fun q4 => go0 _ _ (fun z => q4 z.2), fun q4 => ⟨im q4, go1 _ _ ⟨Or.inr ⟨Int.not_lt.mp q2, Int.not_lt.mp q3⟩, q4⟩⟩⟩⟩⟩⟩
      · rcases z.1 with y | y
        · exact q y
        · exact absurd y.1 (Int.not_le.mpr q2)
      · rcases z.1 with y | y
        · exact q y
        · exact absurd y.2 (Int.not_le.mpr q3)
  exact key 8 σ α t none none (Nat.le_refl _) Fσ.rf Fα.rf e1 e2 tb rfl
theorem m_lay {X : mXX} {d : Nat} {Q : Option mV → mS → Prop} {v : Int} {σ α : Nat → Nat → Int} {t : TP} (e1 : σ 104 2 = t.1) (e2 : α 105 = t.2) (tb : 0 ≤ t.1 ∧ t.1 ≤ 1000) (hQ : ∀ σ' α', Fσ [(104, 2)] σ σ' → Fα [105] α α' → σ' 104 2 = (tpk v 8 t).1 → α' 105 = (tpk v 8 t).2 → Q none (S0, σ', α')) : Ca X (d + 1) 126 [vR 104, vL v] (S0, σ, α) Q := by
  refine vc126_0 ?_
  have key : ∀ (k : Nat) (σ1 γ : Nat → Nat → Int) (u : TP) (x4 : Option mV), k ≤ 8 → Fσ [(104, 2)] σ σ1 → Fα [105] α γ → σ1 104 2 = u.1 → γ 105 = u.2 → 0 ≤ u.1 ∧ u.1 ≤ 1000 → tpk v k u = tpk v 8 t → Go X d 126 3 [some (vR 104), some (vL v), none, some (vI (8 * (k : Int) - 8)), x4] [] (S0, σ1, γ) (0, 0) Q := by
    intro k
    induction k with
    | zero =>
      intro σ1 γ u x4 _ hs hf h1 h2 ub e
      have e' : u = tpk v 8 t := e
      refine vc126_3 ⟨fun _ => hQ σ1 γ hs hf (by rw [h1, e']) (by rw [h2, e']), fun q => absurd (by decide) q⟩
    | succ k ih =>
      intro σ1 γ u x4 hk hs hf h1 h2 ub e
      have k8 : k < 8 := by omega
      have kl : ¬ (8 * (k : Int)) < 0 := by omega
      have es : 8 * ((k + 1 : Nat) : Int) - 8 = 8 * (k : Int) := by omega
      have en := nby k8
      rw [es]
      have e' : tpk v k (tp1 (byt v k) u) = tpk v 8 t := e
      have cb : iAnd (wr (lShr v (8 * (k : Int)))) 255 = byt v k := shr_byt v k k8
      have go0 : ∀ y4, ¬ ((byt v k = 10 ∨ (32 ≤ byt v k ∧ byt v k ≤ 126)) ∧ u.1 < 1000) → Go X d 126 3 [some (vR 104), some (vL v), none, some (vI (wr (8 * (k : Int) + -8))), y4] [] (S0, σ1, γ) (0, 0) Q := by
        intro y4 h
        rw [tp_n h] at e'
        rw [en]
        exact ih σ1 γ u y4 (Nat.le_of_lt k8) hs hf h1 h2 ub e'
      have go1 : ∀ y4, (byt v k = 10 ∨ (32 ≤ byt v k ∧ byt v k ≤ 126)) ∧ u.1 < 1000 → Go X d 126 3 [some (vR 104), some (vL v), none, some (vI (wr (8 * (k : Int) + -8))), y4] [] (S0, mUp σ1 104 2 (wr (u.1 + 1)), mUp γ 105 u.1.toNat (byt v k)) (0, 0) Q := by
        intro y4 h
        have tb' := tp_b (c := byt v k) ub
        rw [en, wr_of (x := u.1 + 1) (by clear e' en cb; omega) (by clear e' en cb; omega)]
        refine ih _ _ (tp1 (byt v k) u) y4 (Nat.le_of_lt k8) (hs.tr (Fσ.up (by decide))) (hf.tr (Fα.up (by decide))) ?_ ?_ tb' e'
        · rw [up_s, tp_y h]
        · rw [up_f, h2, tp_y h]
      have im : u.1 < 1000 → mInA u.1 1000 := fun h => by unfold mInA; clear e' en cb; omega
      refine vc126_3 ⟨fun q => absurd q kl, fun _ => ?_⟩
      rw [cb, h1]
      refine ⟨fun q => ⟨fun q2 => go0 _ (fun z => q2 z.2), fun q2 => ⟨im q2, go1 _ ⟨Or.inl q, q2⟩⟩⟩, fun q => ⟨fun q2 => go0 _ (fun z => ?_), fun q2 => ⟨fun q3 => go0 _ (fun z => ?_), fun q3 => ⟨fun q4 => go0 _ (fun z => q4 z.2), fun q4 => ⟨im q4, go1 _ ⟨Or.inr ⟨Int.not_lt.mp q2, Int.not_lt.mp q3⟩, q4⟩⟩⟩⟩⟩⟩
      · rcases z.1 with y | y
        · exact q y
        · exact absurd y.1 (Int.not_le.mpr q2)
      · rcases z.1 with y | y
        · exact q y
        · exact absurd y.2 (Int.not_le.mpr q3)
  exact key 8 σ α t none (Nat.le_refl _) Fσ.rf Fα.rf e1 e2 tb rfl
theorem tpk_b {v : Int} : ∀ {k : Nat} {t : TP}, 0 ≤ t.1 ∧ t.1 ≤ 1000 → 0 ≤ (tpk v k t).1 ∧ (tpk v k t).1 ≤ 1000
  | 0, _, h => h
  | k + 1, t, h => by
    show 0 ≤ (tpk v k (tp1 (byt v k) t)).1 ∧ (tpk v k (tp1 (byt v k) t)).1 ≤ 1000
    exact tpk_b (tp_b h)
theorem c_feed {X : mXX} {d : Nat} {Q : Option mV → mS → Prop} {a b c : Int} {σ α : Nat → Nat → Int} {t : TP} (e1 : σ 1 1 = t.1) (e2 : α 2 = t.2) (tb : 0 ≤ t.1 ∧ t.1 ≤ 1000) (hQ : ∀ σ' α', Fσ [(1, 1)] σ σ' → Fα [2] α α' → σ' 1 1 = (tpk c 8 (tpk b 8 (tpk a 8 t))).1 → α' 2 = (tpk c 8 (tpk b 8 (tpk a 8 t))).2 → Q (some (vI (tpk c 8 (tpk b 8 (tpk a 8 t))).1)) (S0, σ', α')) : Ca X (d + 2) 99 [vR 0, vL a, vL b, vL c] (S0, σ, α) Q := by
  refine vc99_0 ?_
  refine c_put e1 e2 tb ?_
  intro σ1 α1 s1 a1 f1 g1
  refine vc99_8 ?_
  refine c_put f1 g1 (tpk_b tb) ?_
  intro σ2 α2 s2 a2 f2 g2
  refine vc99_16 ?_
  refine c_put f2 g2 (tpk_b (tpk_b tb)) ?_
  intro σ3 α3 s3 a3 f3 g3
  refine vc99_25 ?_
  rw [f3]
  exact hQ σ3 α3 ((s1.tr s2).tr s3) ((a1.tr a2).tr a3) f3 g3
theorem m_feed {X : mXX} {d : Nat} {Q : Option mV → mS → Prop} {a b c : Int} {σ α : Nat → Nat → Int} {t : TP} (e1 : σ 104 2 = t.1) (e2 : α 105 = t.2) (tb : 0 ≤ t.1 ∧ t.1 ≤ 1000) (hQ : ∀ σ' α', Fσ [(104, 0), (104, 2)] σ σ' → Fα [105] α α' → σ' 104 2 = (tpk c 8 (tpk b 8 (tpk a 8 t))).1 → α' 105 = (tpk c 8 (tpk b 8 (tpk a 8 t))).2 → Q (some (vI (tpk c 8 (tpk b 8 (tpk a 8 t))).1)) (S0, σ', α')) : Ca X (d + 2) 125 [vR 104, vL a, vL b, vL c] (S0, σ, α) Q := by
  refine vc125_0 ?_
  refine m_lay (t := t) (by rw [up_n (by decide)]; exact e1) e2 tb ?_
  intro σ1 α1 s1 a1 f1 g1
  refine vc125_10 ?_
  refine m_lay f1 g1 (tpk_b tb) ?_
  intro σ2 α2 s2 a2 f2 g2
  refine vc125_15 ?_
  refine m_lay f2 g2 (tpk_b (tpk_b tb)) ?_
  intro σ3 α3 s3 a3 f3 g3
  refine vc125_21 ?_
  rw [f3]
  exact hQ σ3 α3 ((Fσ.up (by decide)).tr ((s1.wk (by decide)).tr ((s2.wk (by decide)).tr (s3.wk (by decide))))) ((a1.tr a2).tr a3) f3 g3
