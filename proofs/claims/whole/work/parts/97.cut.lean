/-! The reference cuts its tape -/
def hsN (T : Nat → Int) (q : Nat) : Nat → Int
  | 0 => 0
  | k + 1 => 37 * hsN T q k + (T (q + k) - 96)
theorem hs_b {T : Nat → Int} {q : Nat} : ∀ {k : Nat}, (∀ j, j < k → 97 ≤ T (q + j) ∧ T (q + j) ≤ 122) → 0 ≤ hsN T q k ∧ hsN T q k < 37 ^ k
  | 0, _ => by
    show (0 : Int) ≤ 0 ∧ (0 : Int) < 37 ^ 0
    decide
  | k + 1, h => by
    have ih := hs_b (T := T) (q := q) (k := k) (fun j hj => h j (by omega))
    have t := h k (Nat.lt_succ_self k)
    show 0 ≤ 37 * hsN T q k + (T (q + k) - 96) ∧ 37 * hsN T q k + (T (q + k) - 96) < 37 ^ (k + 1)
    rw [Int.pow_succ]
    generalize hsN T q k = u at *
    generalize (37 : Int) ^ k = v at *
    omega
theorem pw8 {k : Nat} (h : k ≤ 8) : (37 : Int) ^ k ≤ 3512479453921 := by
  have : k = 0 ∨ k = 1 ∨ k = 2 ∨ k = 3 ∨ k = 4 ∨ k = 5 ∨ k = 6 ∨ k = 7 ∨ k = 8 := by omega
  rcases this with rfl | rfl | rfl | rfl | rfl | rfl | rfl | rfl | rfl <;> decide
theorem nhs2 {u t : Int} (h1 : 0 ≤ u ∧ u < 3512479453921) (h2 : 97 ≤ t ∧ t ≤ 122) : wl (wl (37 * u) + wr (t - 96)) = 37 * u + (t - 96) := by
  rw [wr_of (x := t - 96) (by omega) (by omega), wl_of (x := 37 * u) (by omega) (by omega), wl_of (by omega) (by omega)]
theorem nnm2 {u t : Int} (h1 : 0 ≤ u ∧ u < 1000000) (h2 : 48 ≤ t ∧ t ≤ 57) : wl (wl (wl (10 * u) + t) - 48) = u * 10 + t - 48 := by
  rw [wl_of (x := 10 * u) (by omega) (by omega), wl_of (x := 10 * u + t) (by omega) (by omega), wl_of (by omega) (by omega)]; omega
def srK (k : Int) : Int := if k = 0 then 0 else if k = 1 then 4 else k - 1
/-- a token in the reference's rows -/
def MTi (α : Nat → Nat → Int) (T : Nat → Int) (N i : Nat) : Prop := α 106 i = srK (kdI T N i) ∧ α 107 i = ((plI T N i : Nat) : Int) ∧ (kdI T N i = 2 → α 108 i = hsN T (plI T N i) (enI T N i - plI T N i)) ∧ (kdI T N i = 3 → α 108 i = nmN T (plI T N i) (enI T N i - plI T N i)) ∧ (kdI T N i = 4 → α 108 i = T (plI T N i))
def MTk (α : Nat → Nat → Int) (T : Nat → Int) (N : Nat) : Prop := ∀ i, (∀ j, j < i → kdI T N j ≠ 0) → MTi α T N i
theorem MTi.fr {α α' : Nat → Nat → Int} {T : Nat → Int} {N i : Nat} (M : MTi α T N i) (h6 : α' 106 i = α 106 i) (h7 : α' 107 i = α 107 i) (h8 : α' 108 i = α 108 i) : MTi α' T N i := by
  unfold MTi
  rw [h6, h7, h8]
  exact M
theorem m_isLetter {X : mXX} {d : Nat} {Q : Option mV → mS → Prop} {σ α : Nat → Nat → Int} {c : Int} (h1 : 97 ≤ c ∧ c ≤ 122 → Q (some (vI 1)) (S0, σ, α)) (h0 : ¬ (97 ≤ c ∧ c ≤ 122) → Q (some (vI 0)) (S0, σ, α)) : Ca X (d + 1) 131 [vI c] (S0, σ, α) Q := by
  refine vc131_0 ⟨fun q => h0 (fun z => absurd z.1 (Int.not_le.mpr q)), fun q => ⟨fun q2 => h0 (fun z => absurd z.2 (Int.not_le.mpr q2)), fun q2 => h1 ⟨Int.not_lt.mp q, Int.not_lt.mp q2⟩⟩⟩
theorem m_isDigit {X : mXX} {d : Nat} {Q : Option mV → mS → Prop} {σ α : Nat → Nat → Int} {c : Int} (h1 : 48 ≤ c ∧ c ≤ 57 → Q (some (vI 1)) (S0, σ, α)) (h0 : ¬ (48 ≤ c ∧ c ≤ 57) → Q (some (vI 0)) (S0, σ, α)) : Ca X (d + 1) 133 [vI c] (S0, σ, α) Q := by
  refine vc133_0 ⟨fun q => h0 (fun z => absurd z.1 (Int.not_le.mpr q)), fun q => ⟨fun q2 => h0 (fun z => absurd z.2 (Int.not_le.mpr q2)), fun q2 => h1 ⟨Int.not_lt.mp q, Int.not_lt.mp q2⟩⟩⟩
theorem m_rank {X : mXX} {d : Nat} {Q : Option mV → mS → Prop} {σ α : Nat → Nat → Int} {c : Int} (hc : 97 ≤ c ∧ c ≤ 122) (h : Q (some (vI (wr (c - 96)))) (S0, σ, α)) : Ca X (d + 2) 132 [vI c] (S0, σ, α) Q := by
  refine vc132_0 ?_
  refine m_isLetter (fun _ => ?_) (fun z => absurd hc z)
  exact vc132_4 ⟨fun q => absurd q (by decide), fun _ => h⟩
theorem m_isSignOf {X : mXX} {d : Nat} {Q : Option mV → mS → Prop} {σ α : Nat → Nat → Int} {c : Int} (h1 : sgP c → Q (some (vI 1)) (S0, σ, α)) (h0 : ¬ sgP c → Q (some (vI 0)) (S0, σ, α)) : Ca X (d + 1) 134 [vI c] (S0, σ, α) Q := by
  unfold sgP at h1 h0
  exact vc134_0 ⟨fun q => h1 (by omega), fun q1 => ⟨fun q => h1 (by omega), fun q2 => ⟨fun q => h1 (by omega), fun q3 => ⟨fun q => h1 (by omega), fun q4 => ⟨fun q => h1 (by omega), fun q5 => ⟨fun q => h1 (by omega), fun q6 => ⟨fun q => h1 (by omega), fun q7 => ⟨fun q => h0 (by omega), fun q => h1 (by omega)⟩⟩⟩⟩⟩⟩⟩⟩
theorem ps_i {T : Nat → Int} {N : Nat} : ∀ {i : Nat}, (∀ j, j < i → kdI T N j ≠ 0) → i ≤ psI T N i
  | 0, _ => Nat.zero_le _
  | i + 1, h => by
    have ih := ps_i (T := T) (N := N) (i := i) (fun j hj => h j (Nat.lt_succ_of_lt hj))
    have hk := h i (Nat.lt_succ_self i)
    have pb := pl_b (T := T) (N := N) (i := i)
    have eb := en_b (T := T) (N := N) (i := i)
    have lt : plI T N i < N := by
      by_cases q : plI T N i < N
      · exact q
      · exact absurd (show kdI T N i = 0 by unfold kdI tkQ; rw [if_neg q]) hk
    have := eb.2.2 lt
    show i + 1 ≤ enI T N i
    exact Nat.lt_of_le_of_lt (Nat.le_trans ih pb.1) this
