/-! The class advances -/
theorem ndg {u t : Int} (h1 : 0 ≤ u ∧ u < 1000000) (h2 : 48 ≤ t ∧ t ≤ 57) : wr (wr (wr (u * 10) + t) - 48) = u * 10 + t - 48 := by
  rw [wr_of (x := u * 10) (by omega) (by omega), wr_of (x := u * 10 + t) (by omega) (by omega), wr_of (by omega) (by omega)]
theorem pw4 {k : Nat} (h : k ≤ 4) : (10 : Int) ^ k ≤ 10000 := by
  have : k = 0 ∨ k = 1 ∨ k = 2 ∨ k = 3 ∨ k = 4 := by omega
  rcases this with rfl | rfl | rfl | rfl | rfl <;> decide
theorem c_digits {X : mXX} {d : Nat} {Q : Option mV → mS → Prop} {σ α : Nat → Nat → Int} {T : Nat → Int} {q e : Nat} (hT : α 2 = T) (he : e ≤ 1000) (hqe : q ≤ e) (h4 : e - q ≤ 4) (hd : ∀ j, q ≤ j → j < e → 48 ≤ T j ∧ T j ≤ 57) (s2 : σ 1 2 = (q : Int)) (s3 : σ 1 3 = (e : Int)) (hQ : Q (some (vI (nmN T q (e - q)))) (S0, σ, α)) : Ca X (d + 1) 71 [vR 1] (S0, σ, α) Q := by
  refine vc71_0 ?_
  rw [s2]
  have key : ∀ (m k : Nat), k + m = e - q → Go X d 71 7 [some (vR 1), some (vI (nmN T q k)), some (vI ((q + k : Nat) : Int))] [] (S0, σ, α) (0, 0) Q := by
    intro m
    induction m with
    | zero =>
      intro k hk
      have ek : k = e - q := hk
      have nk : ¬ ((q + k : Nat) : Int) < (e : Int) := by omega
      rw [← ek] at hQ
      exact vc71_7 ⟨fun _ => hQ, fun z => absurd z (by rw [s3]; exact nk)⟩
    | succ m ih =>
      intro k hk
      have kl : ((q + k : Nat) : Int) < (e : Int) := by omega
      have kn : q + k < e := by omega
      have k1 : q + k < 1000 := by omega
      have km : k + 1 + m = e - q := by omega
      have k4 : k ≤ 4 := by omega
      have qk : q ≤ q + k := Nat.le_add_right _ _
      have hj : ∀ j, j < k → 48 ≤ T (q + j) ∧ T (q + j) ≤ 57 := fun j hj => hd (q + j) (Nat.le_add_right _ _) (by omega)
      have et := wrT (a := q) (j := k) (by omega)
      have nb := nm_b hj
      have p4 := pw4 k4
      have nb' : 0 ≤ nmN T q k ∧ nmN T q k < 1000000 := ⟨nb.1, Int.lt_of_lt_of_le (Int.lt_of_lt_of_le nb.2 p4) (by decide)⟩
      refine vc71_7 ⟨fun z => absurd (by rw [s3]; exact kl) z, fun _ => ⟨mInA_n k1, ?_⟩⟩
      rw [Int.toNat_natCast, hT, et, ndg nb' (hd (q + k) qk kn)]
      exact ih (k + 1) km
  exact key (e - q) 0 (Nat.zero_add _)
def S5 : List (Nat × Nat) := [(1, 2), (1, 3), (1, 4), (1, 5)]
theorem nsub {q e : Nat} (h : q ≤ e) (he : e ≤ 1000) : wr ((e : Int) - (q : Int)) = ((e - q : Nat) : Int) := by rw [wr_of (by omega) (by omega)]; omega
/-- at the token's first sign -/
theorem c_adv2 {X : mXX} {d : Nat} {Q : Option mV → mS → Prop} {σ α : Nat → Nat → Int} {T : Nat → Int} {N i : Nat} (hT : α 2 = T) (ok : okT T N) (s1 : σ 1 1 = (N : Int)) (s3 : σ 1 3 = ((plI T N i : Nat) : Int)) (hQ : ∀ σ', Fσ S5 σ σ' → CTk σ' T N i → Q none (S0, σ', α)) : Go X (d + 6) 68 52 [some (vR 1)] [] (S0, σ, α) (0, 0) Q := by
  have pb := pl_b (T := T) (N := N) (i := i)
  have eb := en_b (T := T) (N := N) (i := i)
  unfold CTk kdI enI at hQ
  unfold enI at eb
  generalize plI T N i = q at *
  have N1 := ok.1
  refine vc68_52 ?_
  rw [s1, s3]
  by_cases qN : q < N
  · have q1 : q < 1000 := Nat.lt_of_lt_of_le qN N1
    have qi : (q : Int) < (N : Int) := Int.ofNat_lt.mpr qN
    have oc := ok.2 q qN
    refine ⟨fun _ => ⟨mInA_n q1, ?_⟩, fun z => absurd qi z⟩
    rw [Int.toNat_natCast, hT]
    -- not a letter
    have nolet : ¬ (97 ≤ T q ∧ T q ≤ 122) → Go X (d + 6) 68 161 [some (vR 1)] [] (S0, mUp σ 1 2 (q : Int), α) (0, 0) Q := by
      intro nl
      have t3 : mUp σ 1 2 (q : Int) 1 3 = (q : Int) := by rw [up_n (by decide)]; exact s3
      have t1 : mUp σ 1 2 (q : Int) 1 1 = (N : Int) := by rw [up_n (by decide)]; exact s1
      have t2 : mUp σ 1 2 (q : Int) 1 2 = (q : Int) := up_s
      have tf : Fσ S5 σ (mUp σ 1 2 (q : Int)) := Fσ.up (by decide)
      generalize mUp σ 1 2 (q : Int) = τ at *
      have nodig : ¬ (48 ≤ T q ∧ T q ≤ 57) → Go X (d + 6) 68 242 [some (vR 1)] [] (S0, τ, α) (0, 0) Q := by
        intro nd
        have te : teQ T N q = q + 1 := by unfold teQ; rw [if_pos qN, if_neg nl, if_neg nd]
        have ek := wrS (k := q) (Nat.lt_of_lt_of_le q1 (by decide))
        have cb : 0 ≤ T q ∧ T q < 127 := by
          rcases oc with z | z
          · rw [z]; decide
          · exact ⟨Int.le_trans (by decide) z.1, Int.lt_of_le_of_lt z.2 (by decide)⟩
        refine vc68_242 ?_
        rw [t3]
        refine ⟨mInA_n q1, ?_⟩
        rw [Int.toNat_natCast, hT]
        refine c_indexOf cb (fun ns r hr => ?_) (fun ys r hr => ?_)
        · have tk : tkQ T N q = 1 := by unfold tkQ; rw [if_pos qN, if_neg nl, if_neg nd]; exact if_neg ns
          refine vc68_266 ⟨fun _ => ?_, fun z => absurd hr z⟩
          rw [up_n (x := 1) (y := 3) (by decide), t3, ek]
          refine hQ _ (tf.tr ((Fσ.up (by decide)).tr ((Fσ.up (by decide)).tr (Fσ.up (by decide))))) ?_
          rw [tk, te]
          refine ⟨?_, ?_, up_s, ?_, fun z => absurd z (by decide), fun z => absurd z (by decide), fun z => absurd z (by decide)⟩
          · rw [up_n (by decide), up_n (by decide), up_n (by decide)]; exact t1
          · rw [up_n (by decide), up_n (by decide), up_n (by decide)]; exact t2
          · rw [up_n (by decide), up_s]
        · have tk : tkQ T N q = 4 := by unfold tkQ; rw [if_pos qN, if_neg nl, if_neg nd]; exact if_pos ys
          refine vc68_266 ⟨fun z => absurd z hr, fun _ => ?_⟩
          rw [up_n (x := 1) (y := 3) (by decide), t3, ek]
          refine hQ _ (tf.tr ((Fσ.up (by decide)).tr ((Fσ.up (by decide)).tr (Fσ.up (by decide))))) ?_
          rw [tk, te]
          refine ⟨?_, ?_, up_s, ?_, fun z => absurd z (by decide), fun z => absurd z (by decide), fun _ => ?_⟩
          · rw [up_n (by decide), up_n (by decide), up_n (by decide)]; exact t1
          · rw [up_n (by decide), up_n (by decide), up_n (by decide)]; exact t2
          · rw [up_n (by decide), up_s]
          · rw [up_n (by decide), up_n (by decide), up_s]
      refine vc68_161 ?_
      rw [t3]
      refine ⟨mInA_n q1, ?_⟩
      rw [Int.toNat_natCast, hT]
      refine ⟨fun z => nodig (fun y => absurd y.1 (Int.not_le.mpr z)), fun z => ⟨mInA_n q1, fun z2 => nodig (fun y => absurd y.2 (Int.not_le.mpr z2)), fun z2 => ?_⟩⟩
      have dg : 48 ≤ T q ∧ T q ≤ 57 := ⟨Int.not_lt.mp z, Int.not_lt.mp z2⟩
      have te : teQ T N q = rnN T N 48 57 (N - q) q := by unfold teQ; rw [if_pos qN, if_neg nl, if_pos dg]
      have sp := rn_sp (T := T) (N := N) (lo := 48) (hi := 57) (f := N - q) (p := q) (Nat.add_sub_cancel' pb.2)
      refine c_pass hT N1 (N - q) q τ (Nat.add_sub_cancel' pb.2) t1 t3 (fun υ hs e3 => ?_)
      rw [← te] at e3 sp
      have u1 : υ 1 1 = (N : Int) := (hs 1 1 (by decide)).trans t1
      have u2 : υ 1 2 = (q : Int) := (hs 1 2 (by decide)).trans t2
      have uf := tf.tr (hs.wk (show ∀ z ∈ [(1, 3)], z ∈ S5 by decide))
      have ee : teQ T N q ≤ 1000 := Nat.le_trans eb.2.1 N1
      refine vc68_197 ?_
      rw [e3, u2, nsub eb.1 ee]
      refine ⟨fun y => ?_, fun y => ?_⟩
      · have n4 : ¬ teQ T N q - q ≤ 4 := fun z => absurd (Int.ofNat_lt.mp y) (Nat.not_lt.mpr z)
        have tk : tkQ T N q = 1 := by unfold tkQ; rw [if_pos qN, if_neg nl, if_pos dg, if_neg n4]
        refine hQ _ (uf.tr ((Fσ.up (by decide)).tr (Fσ.up (by decide)))) ?_
        rw [tk]
        refine ⟨?_, ?_, ?_, ?_, fun z => absurd z (by decide), fun z => absurd z (by decide), fun z => absurd z (by decide)⟩
        · rw [up_n (by decide), up_n (by decide)]; exact u1
        · rw [up_n (by decide), up_n (by decide)]; exact u2
        · rw [up_n (by decide), up_n (by decide)]; exact e3
        · rw [up_n (by decide), up_s]
      · have y4 : teQ T N q - q ≤ 4 := by
          by_cases z : teQ T N q - q ≤ 4
          · exact z
          · exact absurd (Int.ofNat_lt.mpr (Nat.not_le.mp z)) y
        have tk : tkQ T N q = 3 := by unfold tkQ; rw [if_pos qN, if_neg nl, if_pos dg, if_pos y4]
        refine c_digits hT ee eb.1 y4 sp.2.2 (by rw [up_n (by decide)]; exact u2) (by rw [up_n (by decide)]; exact e3) ?_
        refine vc68_232 ?_
        refine hQ _ (uf.tr ((Fσ.up (by decide)).tr (Fσ.up (by decide)))) ?_
        rw [tk]
        refine ⟨?_, ?_, ?_, ?_, fun z => absurd z (by decide), fun _ => up_s, fun z => absurd z (by decide)⟩
        · rw [up_n (by decide), up_n (by decide)]; exact u1
        · rw [up_n (by decide), up_n (by decide)]; exact u2
        · rw [up_n (by decide), up_n (by decide)]; exact e3
        · rw [up_n (by decide), up_s]
    refine ⟨fun z => nolet (fun y => absurd y.1 (Int.not_le.mpr z)), fun z => ⟨mInA_n q1, fun z2 => nolet (fun y => absurd y.2 (Int.not_le.mpr z2)), fun z2 => ?_⟩⟩
    have lt : 97 ≤ T q ∧ T q ≤ 122 := ⟨Int.not_lt.mp z, Int.not_lt.mp z2⟩
    have te : teQ T N q = rnN T N 97 122 (N - q) q := by unfold teQ; rw [if_pos qN, if_pos lt]
    have sp := rn_sp (T := T) (N := N) (lo := 97) (hi := 122) (f := N - q) (p := q) (Nat.add_sub_cancel' pb.2)
    refine c_pass hT N1 (N - q) q _ (Nat.add_sub_cancel' pb.2) (by rw [up_n (by decide)]; exact s1) (by rw [up_n (by decide)]; exact s3) (fun υ hs e3 => ?_)
    rw [← te] at e3 sp
    have u1 : υ 1 1 = (N : Int) := (hs 1 1 (by decide)).trans (by rw [up_n (by decide)]; exact s1)
    have u2 : υ 1 2 = (q : Int) := (hs 1 2 (by decide)).trans up_s
    have uf : Fσ S5 σ υ := (Fσ.up (by decide)).tr (hs.wk (show ∀ z ∈ [(1, 3)], z ∈ S5 by decide))
    have ee : teQ T N q ≤ 1000 := Nat.le_trans eb.2.1 N1
    refine vc68_115 ?_
    rw [e3, u2, nsub eb.1 ee]
    refine ⟨fun y => ?_, fun y => ?_⟩
    · have n4 : ¬ teQ T N q - q ≤ 8 := fun z => absurd (Int.ofNat_lt.mp y) (Nat.not_lt.mpr z)
      have tk : tkQ T N q = 1 := by unfold tkQ; rw [if_pos qN, if_pos lt, if_neg n4]
      refine hQ _ (uf.tr ((Fσ.up (by decide)).tr (Fσ.up (by decide)))) ?_
      rw [tk]
      refine ⟨?_, ?_, ?_, ?_, fun z => absurd z (by decide), fun z => absurd z (by decide), fun z => absurd z (by decide)⟩
      · rw [up_n (by decide), up_n (by decide)]; exact u1
      · rw [up_n (by decide), up_n (by decide)]; exact u2
      · rw [up_n (by decide), up_n (by decide)]; exact e3
      · rw [up_n (by decide), up_s]
    · have y8 : teQ T N q - q ≤ 8 := by
        by_cases z : teQ T N q - q ≤ 8
        · exact z
        · exact absurd (Int.ofNat_lt.mpr (Nat.not_le.mp z)) y
      have tk : tkQ T N q = 2 := by unfold tkQ; rw [if_pos qN, if_pos lt, if_pos y8]
      have hl : ltL (chL T q (teQ T N q)) := by
        refine ⟨by rw [ch_n]; exact y8, fun c hc => ?_⟩
        unfold chL at hc
        obtain ⟨j, j1, j2⟩ := List.mem_map.mp hc
        have jr := List.mem_range.mp j1
        rw [← j2]
        exact sp.2.2 (q + j) (Nat.le_add_right _ _) (Nat.add_lt_of_lt_sub' jr)
      refine c_wordN hT ee eb.1 hl (by rw [up_n (by decide)]; exact u2) (by rw [up_n (by decide)]; exact e3) ?_
      refine vc68_151 ?_
      refine hQ _ (uf.tr ((Fσ.up (by decide)).tr (Fσ.up (by decide)))) ?_
      rw [tk]
      refine ⟨?_, ?_, ?_, ?_, fun _ => up_s, fun z => absurd z (by decide), fun z => absurd z (by decide)⟩
      · rw [up_n (by decide), up_n (by decide)]; exact u1
      · rw [up_n (by decide), up_n (by decide)]; exact u2
      · rw [up_n (by decide), up_n (by decide)]; exact e3
      · rw [up_n (by decide), up_s]
  · have qi : ¬ (q : Int) < (N : Int) := fun z => qN (Int.ofNat_lt.mp z)
    have tk : tkQ T N q = 0 := by unfold tkQ; rw [if_neg qN]
    have te : teQ T N q = q := by unfold teQ; rw [if_neg qN]
    refine ⟨fun z => absurd z qi, fun _ => hQ _ ((Fσ.up (by decide)).tr (Fσ.up (by decide))) ?_⟩
    rw [tk, te]
    refine ⟨?_, ?_, ?_, up_s, fun z => absurd z (by decide), fun z => absurd z (by decide), fun z => absurd z (by decide)⟩
    · rw [up_n (by decide), up_n (by decide)]; exact s1
    · rw [up_n (by decide), up_s]
    · rw [up_n (by decide), up_n (by decide)]; exact s3
theorem c_advP {X : mXX} {d : Nat} {Q : Option mV → mS → Prop} {σ α : Nat → Nat → Int} {T : Nat → Int} {N i : Nat} (hT : α 2 = T) (ok : okT T N) (s1 : σ 1 1 = (N : Int)) (s3 : σ 1 3 = ((psI T N i : Nat) : Int)) (hQ : ∀ σ', Fσ S5 σ σ' → CTk σ' T N i → Q none (S0, σ', α)) : Ca X (d + 7) 68 [vR 1] (S0, σ, α) Q := by
  have N1 := ok.1
  have pN := ps_b (T := T) (N := N) (i := i)
  have key : ∀ (f p : Nat) (τ : Nat → Nat → Int), p + f = N → skN T N f p = plI T N i → Fσ S5 σ τ → τ 1 1 = (N : Int) → τ 1 3 = (p : Int) → Go X (d + 6) 68 0 [some (vR 1)] [] (S0, τ, α) (0, 0) Q := by
    intro f
    induction f with
    | zero =>
      intro p τ hp es hs t1 t3
      have e : p = N := hp
      have es' : p = plI T N i := es
      have go := c_adv2 (X := X) (d := d) (Q := Q) (σ := τ) (i := i) hT ok t1 (by rw [t3, es']) (fun σ' h c => hQ σ' (hs.tr h) c)
      refine vc68_0 ⟨fun _ => go, fun z => absurd z (by rw [t1, t3, e]; exact Int.lt_irrefl _)⟩
    | succ f ih =>
      intro p τ hp es hs t1 t3
      have pl : (p : Int) < (N : Int) := by clear es; omega
      have pn : p < N := by clear es; omega
      have p1 : p < 1000 := by clear es; omega
      have pf : p + 1 + f = N := by clear es; omega
      have ek := wrS (k := p) (by clear es; omega)
      have nxt : (T p = 10 ∨ T p = 32) → Go X (d + 6) 68 0 [some (vR 1)] [] (S0, mUp τ 1 3 (wr ((p : Int) + 1)), α) (0, 0) Q := by
        intro h
        rw [ek]
        refine ih (p + 1) _ pf ?_ (hs.tr (Fσ.up (by decide))) (by rw [up_n (by decide)]; exact t1) up_s
        rw [← es]
        exact (show skN T N (f + 1) p = skN T N f (p + 1) from if_pos ⟨pn, h⟩).symm
      refine vc68_0 ⟨fun z => absurd (by rw [t1, t3]; exact pl) z, fun _ => ?_⟩
      rw [t3]
      refine ⟨mInA_n p1, ?_⟩
      rw [Int.toNat_natCast, hT]
      refine ⟨fun z => nxt (Or.inl z), fun z => ⟨mInA_n p1, fun z2 => ?_, fun z2 => nxt (Or.inr z2)⟩⟩
      have es' : p = plI T N i := by
        rw [← es]
        exact (show skN T N (f + 1) p = p from if_neg (fun y => y.2.elim z z2)).symm
      exact c_adv2 (i := i) hT ok t1 (by rw [t3, ← es']) (fun σ' h c => hQ σ' (hs.tr h) c)
  exact key (N - psI T N i) (psI T N i) σ (Nat.add_sub_cancel' pN) rfl Fσ.rf s1 s3
