/-- digits of a number -/
theorem m_cutD {X : mXX} {d : Nat} {Q : Option mV → mS → Prop} {σ α : Nat → Nat → Int} {T : Nat → Int} {N i q : Nat} {c : Int} (hT : ∀ j, j < N → α 105 j = T j) (N1 : N ≤ 1000) (i2 : i < 1002) (qN : q < N) (nl0 : ¬ (97 ≤ T q ∧ T q ≤ 122)) (lt : 48 ≤ T q ∧ T q ≤ 57) (s3 : σ 104 3 = (N : Int)) (hQ : ∀ α' (v : Int) x3, Fα [106, 108] α α' → α' 106 = (fun j => if j = i then srK (tkQ T N q) else α 106 j) → α' 108 = (fun j => if j = i then v else α 108 j) → (teQ T N q - q ≤ 4 → v = nmN T q (teQ T N q - q)) → Go X (d + 3) 130 17 [some (vR 104), some (vI (wr ((i : Int) + 1))), some (vI ((teQ T N q : Nat) : Int)), x3, some (vI (q : Int)), some (vL v), none] [] (S0, σ, α') (0, 0) Q) : Go X (d + 3) 130 159 [some (vR 104), some (vI (i : Int)), some (vI (q : Int)), some (vI c), some (vI (q : Int)), some (vL 0), none] [] (S0, σ, α) (0, 0) Q := by
  have te : teQ T N q = rnN T N 48 57 (N - q) q := by unfold teQ; rw [if_pos qN, if_neg nl0, if_pos lt]
  have key : ∀ (f k : Nat), k + f = N → q ≤ k → (∀ j, q ≤ j → j < k → 48 ≤ T j ∧ T j ≤ 57) → rnN T N 48 57 f k = teQ T N q → Go X (d + 3) 130 159 [some (vR 104), some (vI (i : Int)), some (vI (k : Int)), some (vI c), some (vI (q : Int)), some (vL (nmN T q (min (k - q) 4))), none] [] (S0, σ, α) (0, 0) Q := by
    intro f
    induction f with
    | zero =>
      intro k hk hqk hl er
      have e : k = N := hk
      have er' : k = teQ T N q := er
      have nk : ¬ (k : Int) < (N : Int) := by rw [e]; exact Int.lt_irrefl _
      have es := nsub hqk (by rw [e]; exact N1)
      refine vc130_159 ⟨fun _ => ?_, fun z => absurd z (by rw [s3]; exact nk)⟩
      rw [es]
      have fin : ∀ r : Int, r = srK (tkQ T N q) → Go X (d + 3) 130 17 [some (vR 104), some (vI (wr ((i : Int) + 1))), some (vI (k : Int)), some (vI c), some (vI (q : Int)), some (vL (nmN T q (min (k - q) 4))), none] [] (S0, σ, mUp (mUp α 106 i r) 108 i (nmN T q (min (k - q) 4))) (0, 0) Q := by
        intro r hr
        rw [er']
        refine hQ _ _ _ ((Fα.up (by decide)).tr (Fα.up (by decide))) ?_ ?_ (fun h8 => ?_)
        · rw [up_o (by decide), up_f, hr]
        · rw [up_f, up_o (by decide)]
        · rw [Nat.min_eq_left h8]
      refine ⟨fun y => ⟨mInA_n i2, mInA_n i2, ?_⟩, fun y => ⟨mInA_n i2, mInA_n i2, ?_⟩⟩
      · rw [Int.toNat_natCast]
        refine fin 2 ?_
        have y8 : teQ T N q - q ≤ 4 := by rw [← er']; exact Nat.not_lt.mp (fun z => y (Int.ofNat_lt.mpr z))
        rw [show tkQ T N q = 3 by unfold tkQ; rw [if_pos qN, if_neg nl0, if_pos lt, if_pos y8]]; rfl
      · rw [Int.toNat_natCast]
        refine fin 4 ?_
        have n8 : ¬ teQ T N q - q ≤ 4 := by rw [← er']; exact Nat.not_le.mpr (Int.ofNat_lt.mp y)
        rw [show tkQ T N q = 1 by unfold tkQ; rw [if_pos qN, if_neg nl0, if_pos lt, if_neg n8]]; rfl
    | succ f ih =>
      intro k hk hqk hl er
      have kl : (k : Int) < (N : Int) := by clear er te; omega
      have kn : k < N := by clear er te; omega
      have k1 : k < 1000 := by clear er te; omega
      have kf : k + 1 + f = N := by clear er te; omega
      have hq1 : q ≤ k + 1 := by clear er te; omega
      have mm : min (k - q) 4 ≤ 4 := Nat.min_le_right _ _
      have mq : ∀ j, j < min (k - q) 4 → q ≤ q + j ∧ q + j < k := by clear er te; intro j hj; omega
      have m8 : ¬ ((k - q : Nat) : Int) < 4 → min (k + 1 - q) 4 = min (k - q) 4 := by clear er te; intro z; omega
      have m9 : ((k - q : Nat) : Int) < 4 → min (k + 1 - q) 4 = min (k - q) 4 + 1 ∧ q + min (k - q) 4 = k := by clear er te; intro z; omega
      have ek := wrS (k := k) (by clear er te; omega)
      have es := nsub hqk (Nat.le_of_lt k1)
      have hb := nm_b (T := T) (q := q) (k := min (k - q) 4) (fun j hj => hl (q + j) (mq j hj).1 (mq j hj).2)
      have hb' : 0 ≤ nmN T q (min (k - q) 4) ∧ nmN T q (min (k - q) 4) < 1000000 := ⟨hb.1, Int.lt_of_lt_of_le (Int.lt_of_lt_of_le hb.2 (pw4 mm)) (by decide)⟩
      refine vc130_159 ⟨fun z => absurd (by rw [s3]; exact kl) z, fun _ => ⟨mInA_n k1, ?_⟩⟩
      rw [Int.toNat_natCast, hT k kn]
      refine m_isDigit (fun yl => ?_) (fun nl => ?_)
      · have i1 := ih (k + 1) kf hq1 (fun j j1 j2 => by
          by_cases e : j = k
          · rw [e]; exact yl
          · exact hl j j1 (Nat.lt_of_le_of_ne (Nat.le_of_lt_succ j2) e)) (by
          rw [← er]
          exact (show rnN T N 48 57 (f + 1) k = rnN T N 48 57 f (k + 1) from if_pos ⟨kn, yl⟩).symm)
        refine vc130_176 ⟨fun z => absurd z (by decide), fun _ => ?_⟩
        rw [es, ek]
        refine ⟨fun y => ?_, fun y => ⟨mInA_n k1, ?_⟩⟩
        · rw [m8 y] at i1; exact i1
        · rw [Int.toNat_natCast, hT k kn, nnm2 hb' yl]
          rw [(m9 y).1] at i1
          have eh : nmN T q (min (k - q) 4 + 1) = nmN T q (min (k - q) 4) * 10 + T (q + min (k - q) 4) - 48 := rfl
          rw [eh, (m9 y).2] at i1
          exact i1
      · have er' : k = teQ T N q := by
          rw [← er]
          exact (show rnN T N 48 57 (f + 1) k = k from if_neg (fun z => nl z.2)).symm
        refine vc130_176 ⟨fun _ => ?_, fun z => absurd rfl z⟩
        rw [es]
        have fin : ∀ r : Int, r = srK (tkQ T N q) → Go X (d + 3) 130 17 [some (vR 104), some (vI (wr ((i : Int) + 1))), some (vI (k : Int)), some (vI c), some (vI (q : Int)), some (vL (nmN T q (min (k - q) 4))), none] [] (S0, σ, mUp (mUp α 106 i r) 108 i (nmN T q (min (k - q) 4))) (0, 0) Q := by
          intro r hr
          rw [er']
          refine hQ _ _ _ ((Fα.up (by decide)).tr (Fα.up (by decide))) ?_ ?_ (fun h8 => ?_)
          · rw [up_o (by decide), up_f, hr]
          · rw [up_f, up_o (by decide)]
          · rw [Nat.min_eq_left h8]
        refine ⟨fun y => ⟨mInA_n i2, mInA_n i2, ?_⟩, fun y => ⟨mInA_n i2, mInA_n i2, ?_⟩⟩
        · rw [Int.toNat_natCast]
          refine fin 2 ?_
          have y8 : teQ T N q - q ≤ 4 := by rw [← er']; exact Nat.not_lt.mp (fun z => y (Int.ofNat_lt.mpr z))
          rw [show tkQ T N q = 3 by unfold tkQ; rw [if_pos qN, if_neg nl0, if_pos lt, if_pos y8]]; rfl
        · rw [Int.toNat_natCast]
          refine fin 4 ?_
          have n8 : ¬ teQ T N q - q ≤ 4 := by rw [← er']; exact Nat.not_le.mpr (Int.ofNat_lt.mp y)
          rw [show tkQ T N q = 1 by unfold tkQ; rw [if_pos qN, if_neg nl0, if_pos lt, if_neg n8]]; rfl
  have r := key (N - q) q (Nat.add_sub_cancel' (Nat.le_of_lt qN)) (Nat.le_refl _) (fun j j1 j2 => absurd j2 (Nat.not_lt.mpr j1)) te.symm
  rw [Nat.sub_self, Nat.zero_min] at r
  exact r
