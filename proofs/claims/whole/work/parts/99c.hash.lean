/-! Tokens as both sides see them -/
theorem kd_r {T : Nat → Int} {N i : Nat} : kdI T N i = 0 ∨ kdI T N i = 1 ∨ kdI T N i = 2 ∨ kdI T N i = 3 ∨ kdI T N i = 4 := by
  unfold kdI tkQ
  split
  · split
    · split
      · exact Or.inr (Or.inr (Or.inl rfl))
      · exact Or.inr (Or.inl rfl)
    · split
      · split
        · exact Or.inr (Or.inr (Or.inr (Or.inl rfl)))
        · exact Or.inr (Or.inl rfl)
      · split
        · exact Or.inr (Or.inr (Or.inr (Or.inr rfl)))
        · exact Or.inr (Or.inl rfl)
  · exact Or.inl rfl
theorem kd_2 {T : Nat → Int} {N i : Nat} (h : kdI T N i = 2) : enI T N i - plI T N i ≤ 8 ∧ ∀ j, plI T N i ≤ j → j < enI T N i → 97 ≤ T j ∧ T j ≤ 122 := by
  unfold kdI tkQ at h
  unfold enI
  have pb := (pl_b (T := T) (N := N) (i := i)).2
  generalize plI T N i = q at *
  by_cases h1 : q < N
  · rw [if_pos h1] at h
    by_cases h2 : 97 ≤ T q ∧ T q ≤ 122
    · rw [if_pos h2] at h
      by_cases h3 : teQ T N q - q ≤ 8
      · refine ⟨h3, ?_⟩
        have e : teQ T N q = rnN T N 97 122 (N - q) q := by unfold teQ; rw [if_pos h1, if_pos h2]
        rw [e]
        exact (rn_sp (by omega)).2.2
      · rw [if_neg h3] at h; exact absurd h (by decide)
    · rw [if_neg h2] at h
      split at h
      · split at h <;> exact absurd h (by decide)
      · split at h <;> exact absurd h (by decide)
  · rw [if_neg h1] at h; exact absurd h (by decide)
theorem kd_3 {T : Nat → Int} {N i : Nat} (h : kdI T N i = 3) : enI T N i - plI T N i ≤ 4 ∧ ∀ j, plI T N i ≤ j → j < enI T N i → 48 ≤ T j ∧ T j ≤ 57 := by
  unfold kdI tkQ at h
  unfold enI
  have pb := (pl_b (T := T) (N := N) (i := i)).2
  generalize plI T N i = q at *
  by_cases h1 : q < N
  · rw [if_pos h1] at h
    by_cases h2 : 97 ≤ T q ∧ T q ≤ 122
    · rw [if_pos h2] at h
      split at h <;> exact absurd h (by decide)
    · rw [if_neg h2] at h
      by_cases h3 : 48 ≤ T q ∧ T q ≤ 57
      · rw [if_pos h3] at h
        by_cases h4 : teQ T N q - q ≤ 4
        · refine ⟨h4, ?_⟩
          have e : teQ T N q = rnN T N 48 57 (N - q) q := by unfold teQ; rw [if_pos h1, if_neg h2, if_pos h3]
          rw [e]
          exact (rn_sp (by omega)).2.2
        · rw [if_neg h4] at h; exact absurd h (by decide)
      · rw [if_neg h3] at h
        split at h <;> exact absurd h (by decide)
  · rw [if_neg h1] at h; exact absurd h (by decide)
theorem kd_0 {T : Nat → Int} {N i : Nat} (h : kdI T N i ≠ 0) : plI T N i < N := by
  unfold kdI tkQ at h
  by_cases h1 : plI T N i < N
  · exact h1
  · rw [if_neg h1] at h; exact absurd rfl h
theorem hs_step {u u' a a' : Int} (ha : 1 ≤ a ∧ a ≤ 26) (ha' : 1 ≤ a' ∧ a' ≤ 26) (h : 37 * u + a = 37 * u' + a') : u = u' ∧ a = a' := by omega
/-- the hash tells words apart -/
theorem hs_inj {T T' : Nat → Int} {q q' : Nat} : ∀ {k k' : Nat}, (∀ j, j < k → 97 ≤ T (q + j) ∧ T (q + j) ≤ 122) → (∀ j, j < k' → 97 ≤ T' (q' + j) ∧ T' (q' + j) ≤ 122) → hsN T q k = hsN T' q' k' → k = k' ∧ ∀ j, j < k → T (q + j) = T' (q' + j)
  | 0, 0, _, _, _ => ⟨rfl, fun j hj => absurd hj (Nat.not_lt_zero _)⟩
  | 0, k' + 1, _, h', e => by
    have b := (hs_b (T := T') (q := q') (k := k') (fun j hj => h' j (Nat.lt_succ_of_lt hj))).1
    have t := h' k' (Nat.lt_succ_self _)
    have e' : (0 : Int) = 37 * hsN T' q' k' + (T' (q' + k') - 96) := e
    generalize hsN T' q' k' = u at *
    omega
  | k + 1, 0, h, _, e => by
    have b := (hs_b (T := T) (q := q) (k := k) (fun j hj => h j (Nat.lt_succ_of_lt hj))).1
    have t := h k (Nat.lt_succ_self _)
    have e' : 37 * hsN T q k + (T (q + k) - 96) = 0 := e
    generalize hsN T q k = u at *
    omega
  | k + 1, k' + 1, h, h', e => by
    have e' : 37 * hsN T q k + (T (q + k) - 96) = 37 * hsN T' q' k' + (T' (q' + k') - 96) := e
    have t := h k (Nat.lt_succ_self _)
    have t' := h' k' (Nat.lt_succ_self _)
    have st := hs_step (by omega) (by omega) e'
    have ih := hs_inj (k := k) (k' := k') (fun j hj => h j (Nat.lt_succ_of_lt hj)) (fun j hj => h' j (Nat.lt_succ_of_lt hj)) st.1
    refine ⟨by rw [ih.1], fun j hj => ?_⟩
    by_cases hk : j = k
    · have s2 := st.2
      have kk := ih.1
      subst hk
      subst kk
      omega
    · exact ih.2 j (by omega)
theorem hs_cg {T T' : Nat → Int} {q q' : Nat} : ∀ {k : Nat}, (∀ j, j < k → T (q + j) = T' (q' + j)) → hsN T q k = hsN T' q' k
  | 0, _ => rfl
  | k + 1, h => by
    show 37 * hsN T q k + (T (q + k) - 96) = 37 * hsN T' q' k + (T' (q' + k) - 96)
    rw [hs_cg (k := k) (fun j hj => h j (Nat.lt_succ_of_lt hj)), h k (Nat.lt_succ_self _)]
/-- the hash of a word of the language -/
def hsW (w : Nat) : Int := hsN (fun j => (wdA w).getD j 32) 0 (wdA w).length
def twI (T : Nat → Int) (N i : Nat) : Nat := if kdI T N i = 2 then wnW (chL T (plI T N i) (enI T N i)) else 30
def nbI (T : Nat → Int) (N i : Nat) : Int := nmN T (plI T N i) (enI T N i - plI T N i)
def hsI (T : Nat → Int) (N i : Nat) : Int := hsN T (plI T N i) (enI T N i - plI T N i)
def fa (T : Nat → Int) (N : Nat) (k : Int) (i : Nat) : Int := k + 16 * ((plI T N i : Nat) : Int)
theorem chL_eq {T : Nat → Int} {q e : Nat} {l : List Int} : chL T q e = l ↔ l.length = e - q ∧ ∀ j, j < e - q → T (q + j) = l.getD j 32 := by
  constructor
  · intro h
    refine ⟨by rw [← h, ch_n], fun j hj => ?_⟩
    rw [← h, ch_g, if_pos (by omega)]
  · intro ⟨h1, h2⟩
    apply List.ext_getElem?
    intro j
    by_cases hj : j < e - q
    · have a := h2 j hj
      have b := ch_g (T := T) (q := q) (e := e) (i := j)
      rw [if_pos (by omega), a] at b
      rw [List.getD_eq_getElem?_getD, List.getD_eq_getElem?_getD] at b
      have l1 : j < (chL T q e).length := by rw [ch_n]; exact hj
      have l2 : j < l.length := by rw [h1]; exact hj
      rw [List.getElem?_eq_getElem l1, List.getElem?_eq_getElem l2] at b ⊢
      rw [Option.getD_some, Option.getD_some] at b
      rw [b]
    · rw [List.getElem?_eq_none (by rw [ch_n]; omega), List.getElem?_eq_none (by omega)]
theorem wd_l {w j : Nat} (hw : w < 29) (hj : j < (wdA w).length) : 97 ≤ (wdA w).getD j 32 ∧ (wdA w).getD j 32 ≤ 122 := by
  refine (wd_lt hw).2 _ ?_
  rw [List.getD_eq_getElem?_getD, List.getElem?_eq_getElem hj]
  exact List.getElem_mem hj
theorem tw_hs {T : Nat → Int} {N i w : Nat} (hk : kdI T N i = 2) (hw : w < 29) : twI T N i = w ↔ hsI T N i = hsW w := by
  have e : twI T N i = wnW (chL T (plI T N i) (enI T N i)) := if_pos hk
  have k2 := kd_2 hk
  rw [e, wn_iff hw, chL_eq]
  unfold hsI hsW
  constructor
  · intro ⟨h1, h2⟩
    rw [h1]
    exact hs_cg (fun j hj => by rw [Nat.zero_add]; exact h2 j hj)
  · intro h
    have r := hs_inj (T := T) (T' := fun j => (wdA w).getD j 32) (q := plI T N i) (q' := 0) (fun j hj => k2.2 _ (Nat.le_add_right _ _) (by omega)) (fun j hj => by rw [Nat.zero_add]; exact wd_l hw hj) h
    refine ⟨r.1.symm, fun j hj => ?_⟩
    have := r.2 j hj
    rw [Nat.zero_add] at this
    exact this
theorem tw_n {T : Nat → Int} {N i : Nat} (hk : kdI T N i ≠ 2) : twI T N i = 30 := if_neg hk
theorem tw_y {T : Nat → Int} {N i : Nat} (hk : kdI T N i = 2) : twI T N i ≤ 29 := by
  rw [show twI T N i = wnW (chL T (plI T N i) (enI T N i)) from if_pos hk]
  have := (wnF_le (l := chL T (plI T N i) (enI T N i)) (m := 29) (w := 0)).2
  unfold wnW
  omega
theorem nb_b {T : Nat → Int} {N i : Nat} (hk : kdI T N i = 3) : 0 ≤ nbI T N i ∧ nbI T N i < 10000 := by
  have k3 := kd_3 hk
  have b := nm_b (T := T) (q := plI T N i) (k := enI T N i - plI T N i) (fun j hj => k3.2 _ (Nat.le_add_right _ _) (by omega))
  have p := pw4 k3.1
  unfold nbI
  exact ⟨b.1, Int.lt_of_lt_of_le b.2 p⟩
theorem fa_p {T : Nat → Int} {N i : Nat} {k : Int} (hk : 1 ≤ k) : 0 < fa T N k i := by unfold fa; omega
theorem fa_w {T : Nat → Int} {N i : Nat} {k : Int} (hN : N ≤ 1000) (hk : 1 ≤ k ∧ k ≤ 5) : wr (k + wr (16 * ((plI T N i : Nat) : Int))) = fa T N k i := by
  have pb := (pl_b (T := T) (N := N) (i := i)).2
  unfold fa
  generalize plI T N i = q at *
  rw [wr_of (x := 16 * (q : Int)) (by omega) (by omega), wr_of (by omega) (by omega)]
def wdF (T : Nat → Int) (N w i : Nat) : Int := if twI T N i = w then 0 else fa T N 1 i
def sgF (T : Nat → Int) (N : Nat) (c : Int) (i : Nat) : Int := if kdI T N i = 4 ∧ T (plI T N i) = c then 0 else fa T N 1 i
def nbF (T : Nat → Int) (N : Nat) (lo hi : Int) (i : Nat) : Int := if kdI T N i = 3 then (if lo ≤ nbI T N i ∧ nbI T N i ≤ hi then 0 else fa T N 4 i) else fa T N 1 i
theorem fa_0 {T : Nat → Int} {N i : Nat} {k : Int} (hk : 1 ≤ k) : fa T N k i ≠ 0 := fun h => absurd (fa_p (T := T) (N := N) (i := i) hk) (by rw [h]; decide)
theorem wdF_p {T : Nat → Int} {N w i : Nat} (h : wdF T N w i ≠ 0) : twI T N i ≠ w ∧ wdF T N w i = fa T N 1 i := by
  unfold wdF at *
  by_cases q : twI T N i = w
  · rw [if_pos q] at h; exact absurd rfl h
  · exact ⟨q, if_neg q⟩
theorem wdF_z {T : Nat → Int} {N w i : Nat} : wdF T N w i = 0 ↔ twI T N i = w := by
  unfold wdF
  by_cases q : twI T N i = w
  · rw [if_pos q]; exact ⟨fun _ => q, fun _ => rfl⟩
  · rw [if_neg q]; exact ⟨fun h => absurd h (fa_0 (by decide)), fun h => absurd h q⟩
theorem sgF_z {T : Nat → Int} {N i : Nat} {c : Int} : sgF T N c i = 0 ↔ (kdI T N i = 4 ∧ T (plI T N i) = c) := by
  unfold sgF
  by_cases q : kdI T N i = 4 ∧ T (plI T N i) = c
  · rw [if_pos q]; exact ⟨fun _ => q, fun _ => rfl⟩
  · rw [if_neg q]; exact ⟨fun h => absurd h (fa_0 (by decide)), fun h => absurd h q⟩
theorem nbF_z {T : Nat → Int} {N i : Nat} {lo hi : Int} : nbF T N lo hi i = 0 ↔ (kdI T N i = 3 ∧ lo ≤ nbI T N i ∧ nbI T N i ≤ hi) := by
  unfold nbF
  by_cases q : kdI T N i = 3
  · rw [if_pos q]
    by_cases q2 : lo ≤ nbI T N i ∧ nbI T N i ≤ hi
    · rw [if_pos q2]; exact ⟨fun _ => ⟨q, q2⟩, fun _ => rfl⟩
    · rw [if_neg q2]; exact ⟨fun h => absurd h (fa_0 (by decide)), fun h => absurd h.2 q2⟩
  · rw [if_neg q]; exact ⟨fun h => absurd h (fa_0 (by decide)), fun h => absurd h.1 q⟩
theorem CTk.w {σ : Nat → Nat → Int} {T : Nat → Int} {N i : Nat} (C : CTk σ T N i) (h : kdI T N i = 2) : σ 1 5 = ((twI T N i : Nat) : Int) := by
  rw [C.2.2.2.2.1 h, show twI T N i = wnW (chL T (plI T N i) (enI T N i)) from if_pos h]
theorem CTk.fr {σ σ' : Nat → Nat → Int} {T : Nat → Int} {N i : Nat} {Z : List (Nat × Nat)} (C : CTk σ T N i) (h : Fσ Z σ σ') (hz : ∀ q ∈ Z, q.1 ≠ 1 := by decide) : CTk σ' T N i := by
  have e : ∀ k, σ' 1 k = σ 1 k := fun k => h 1 k (fun q => hz _ q rfl)
  unfold CTk
  rw [e 1, e 2, e 3, e 4, e 5]
  exact C
theorem CTk.up {σ : Nat → Nat → Int} {T : Nat → Int} {N i a k : Nat} {v : Int} (C : CTk σ T N i) (ha : a ≠ 1) : CTk (mUp σ a k v) T N i := C.fr (Z := [(a, k)]) (Fσ.up (List.mem_cons_self ..)) (by
  intro q hq
  rcases List.mem_cons.mp hq with h | h
  · rw [h]; exact ha
  · exact absurd h (List.not_mem_nil))
/-- the class looks -/
theorem c_isWord {X : mXX} {d : Nat} {Q : Option mV → mS → Prop} {σ α : Nat → Nat → Int} {T : Nat → Int} {N i w : Nat} (C : CTk σ T N i) (hw : w < 29) (h1 : twI T N i = w → Q (some (vI 1)) (S0, σ, α)) (h0 : twI T N i ≠ w → Q (some (vI 0)) (S0, σ, α)) : Ca X (d + 1) 72 [vR 1, vI (w : Int)] (S0, σ, α) Q := by
  have e4 := C.2.2.2.1
  refine vc72_0 ⟨fun q => h0 ?_, fun q => ⟨fun q2 => h0 ?_, fun q2 => h1 ?_⟩⟩
  · rw [e4] at q
    rw [tw_n q]; omega
  · rw [e4] at q
    rw [C.w q] at q2
    exact fun z => q2 (by rw [z])
  · rw [e4] at q
    rw [C.w q] at q2
    exact Int.ofNat.inj q2
theorem c_isSign {X : mXX} {d : Nat} {Q : Option mV → mS → Prop} {σ α : Nat → Nat → Int} {T : Nat → Int} {N i : Nat} {c : Int} (C : CTk σ T N i) (h1 : sgF T N c i = 0 → Q (some (vI 1)) (S0, σ, α)) (h0 : sgF T N c i ≠ 0 → Q (some (vI 0)) (S0, σ, α)) : Ca X (d + 1) 73 [vR 1, vI c] (S0, σ, α) Q := by
  have e4 := C.2.2.2.1
  refine vc73_0 ⟨fun q => h0 ?_, fun q => ⟨fun q2 => h0 ?_, fun q2 => h1 ?_⟩⟩
  · rw [e4] at q
    exact fun z => q (sgF_z.mp z).1
  · rw [e4] at q
    rw [C.2.2.2.2.2.2 q] at q2
    exact fun z => q2 (sgF_z.mp z).2
  · rw [e4] at q
    rw [C.2.2.2.2.2.2 q] at q2
    exact sgF_z.mpr ⟨q, q2⟩
theorem c_fail {X : mXX} {d : Nat} {Q : Option mV → mS → Prop} {σ α : Nat → Nat → Int} {T : Nat → Int} {N i : Nat} {k : Int} (hN : N ≤ 1000) (C : CTk σ T N i) (hk : 1 ≤ k ∧ k ≤ 5) (h : Q (some (vI 0)) (S0, mUp σ 3 6 (fa T N k i), α)) : Ca X (d + 1) 79 [vR 3, vI k] (S0, σ, α) Q := by
  refine vc79_0 ?_
  rw [C.2.1, fa_w hN hk]
  exact h
theorem c_adv {X : mXX} {d : Nat} {Q : Option mV → mS → Prop} {σ α : Nat → Nat → Int} {T : Nat → Int} {N i : Nat} (hT : α 2 = T) (ok : okT T N) (C : CTk σ T N i) (hQ : ∀ σ', Fσ S5 σ σ' → CTk σ' T N (i + 1) → Q none (S0, σ', α)) : Ca X (d + 7) 68 [vR 1] (S0, σ, α) Q := c_advP (i := i + 1) hT ok C.1 C.2.2.1 hQ
theorem c_takeWord {X : mXX} {d : Nat} {Q : Option mV → mS → Prop} {σ α : Nat → Nat → Int} {T : Nat → Int} {N i w : Nat} (hT : α 2 = T) (ok : okT T N) (C : CTk σ T N i) (hw : w < 29) (h1 : wdF T N w i = 0 → ∀ σ', Fσ S5 σ σ' → CTk σ' T N (i + 1) → Q (some (vI 1)) (S0, σ', α)) (h0 : wdF T N w i ≠ 0 → Q (some (vI 0)) (S0, mUp σ 3 6 (wdF T N w i), α)) : Ca X (d + 8) 78 [vR 3, vI (w : Int)] (S0, σ, α) Q := by
  refine vc78_0 ?_
  refine c_isWord C hw (fun q => ?_) (fun q => ?_)
  · refine vc78_8 ⟨fun _ => ?_, fun z => absurd z (by decide)⟩
    refine c_adv hT ok C (fun σ' f C' => ?_)
    exact vc78_24 (h1 (wdF_z.mpr q) σ' f C')
  · refine vc78_8 ⟨fun z => absurd rfl z, fun _ => ?_⟩
    have hf : wdF T N w i ≠ 0 := fun z => q (wdF_z.mp z)
    refine c_fail ok.1 C (by decide) ?_
    refine vc78_16 ⟨Or.inl rfl, ?_⟩
    have := h0 hf
    rw [(wdF_p hf).2] at this
    exact this
theorem c_takeSign {X : mXX} {d : Nat} {Q : Option mV → mS → Prop} {σ α : Nat → Nat → Int} {T : Nat → Int} {N i : Nat} {c : Int} (hT : α 2 = T) (ok : okT T N) (C : CTk σ T N i) (h1 : sgF T N c i = 0 → ∀ σ', Fσ S5 σ σ' → CTk σ' T N (i + 1) → Q (some (vI 1)) (S0, σ', α)) (h0 : sgF T N c i ≠ 0 → Q (some (vI 0)) (S0, mUp σ 3 6 (sgF T N c i), α)) : Ca X (d + 8) 82 [vR 3, vI c] (S0, σ, α) Q := by
  refine vc82_0 ?_
  refine c_isSign C (fun q => ?_) (fun q => ?_)
  · refine vc82_8 ⟨fun _ => ?_, fun z => absurd z (by decide)⟩
    refine c_adv hT ok C (fun σ' f C' => ?_)
    exact vc82_24 (h1 q σ' f C')
  · refine vc82_8 ⟨fun z => absurd rfl z, fun _ => ?_⟩
    refine c_fail ok.1 C (by decide) ?_
    refine vc82_16 ⟨Or.inl rfl, ?_⟩
    have := h0 q
    rw [show sgF T N c i = fa T N 1 i from if_neg (fun z => q (sgF_z.mpr z))] at this
    exact this
theorem c_seesNumber {X : mXX} {d : Nat} {Q : Option mV → mS → Prop} {σ α : Nat → Nat → Int} {T : Nat → Int} {N i : Nat} {lo hi : Int} (hN : N ≤ 1000) (C : CTk σ T N i) (h1 : nbF T N lo hi i = 0 → Q (some (vI 1)) (S0, mUp σ 3 7 (nbI T N i), α)) (h0 : nbF T N lo hi i ≠ 0 → ∀ σ', Fσ [(3, 6), (3, 7)] σ σ' → σ' 3 6 = nbF T N lo hi i → Q (some (vI 0)) (S0, σ', α)) : Ca X (d + 2) 81 [vR 3, vI lo, vI hi] (S0, σ, α) Q := by
  have e4 := C.2.2.2.1
  have bad : kdI T N i = 3 → ¬ (lo ≤ nbI T N i ∧ nbI T N i ≤ hi) → Ca X (d + 1) 79 [vR 3, vI 4] (S0, mUp σ 3 7 (nbI T N i), α) (fun r s' => aI r (fun n => Go X (d + 1) 81 49 [some (vR 3), some (vI lo), some (vI hi)] [vI n] s' (0, 0) Q)) := by
    intro k3 hb
    have en : nbF T N lo hi i = fa T N 4 i := by unfold nbF; rw [if_pos k3, if_neg hb]
    refine c_fail hN (C.up (by decide)) (by decide) ?_
    refine vc81_49 ⟨fun _ => ?_, fun z => absurd rfl z⟩
    refine h0 (by rw [en]; exact fa_0 (by decide)) _ ((Fσ.up (by decide)).tr (Fσ.up (by decide))) ?_
    rw [up_s, en]
  refine vc81_0 ⟨fun q => ?_, fun q => ?_⟩
  · rw [e4] at q
    have e5 := C.2.2.2.2.2.1 q
    have e5' : σ 1 5 = nbI T N i := e5
    rw [e5']
    refine ⟨fun q2 => bad q (fun z => absurd z.1 (Int.not_le.mpr q2)), fun q2 => ⟨fun q3 => ?_, fun q3 => bad q (fun z => absurd z.2 (Int.not_le.mpr q3))⟩⟩
    exact h1 (nbF_z.mpr ⟨q, Int.not_lt.mp q2, Int.not_lt.mp q3⟩)
  · rw [e4] at q
    have en : nbF T N lo hi i = fa T N 1 i := by unfold nbF; rw [if_neg q]
    refine c_fail hN C (by decide) ?_
    refine vc81_16 ⟨Or.inl rfl, ?_⟩
    refine h0 (by rw [en]; exact fa_0 (by decide)) _ (Fσ.up (by decide)) ?_
    rw [up_s, en]
theorem c_takeNumber {X : mXX} {d : Nat} {Q : Option mV → mS → Prop} {σ α : Nat → Nat → Int} {T : Nat → Int} {N i : Nat} {lo hi : Int} (hT : α 2 = T) (ok : okT T N) (C : CTk σ T N i) (h1 : nbF T N lo hi i = 0 → ∀ σ', Fσ ((3, 7) :: S5) σ σ' → CTk σ' T N (i + 1) → σ' 3 7 = nbI T N i → Q (some (vI 1)) (S0, σ', α)) (h0 : nbF T N lo hi i ≠ 0 → ∀ σ', Fσ [(3, 6), (3, 7)] σ σ' → σ' 3 6 = nbF T N lo hi i → Q (some (vI 0)) (S0, σ', α)) : Ca X (d + 8) 80 [vR 3, vI lo, vI hi] (S0, σ, α) Q := by
  refine vc80_0 ?_
  refine c_seesNumber ok.1 C (fun q => ?_) (fun q σ' f e => ?_)
  · refine vc80_6 ⟨fun _ => ?_, fun z => absurd z (by decide)⟩
    refine c_adv hT ok (C.up (by decide)) (fun σ' f C' => ?_)
    refine vc80_18 (h1 q σ' ((Fσ.up (by decide)).tr (f.wk (by decide))) C' ?_)
    rw [f 3 7 (by decide), up_s]
  · refine vc80_6 ⟨fun z => absurd rfl z, fun _ => ?_⟩
    exact h0 q σ' f e
