/-! Tokens of a tape -/
def skN (T : Nat → Int) (N : Nat) : Nat → Nat → Nat
  | 0, p => p
  | f + 1, p => if p < N ∧ (T p = 10 ∨ T p = 32) then skN T N f (p + 1) else p
def rnN (T : Nat → Int) (N : Nat) (lo hi : Int) : Nat → Nat → Nat
  | 0, p => p
  | f + 1, p => if p < N ∧ lo ≤ T p ∧ T p ≤ hi then rnN T N lo hi f (p + 1) else p
theorem sk_sp {T : Nat → Int} {N : Nat} : ∀ {f p : Nat}, p + f = N → p ≤ skN T N f p ∧ skN T N f p ≤ N ∧ (skN T N f p = N ∨ ¬ (T (skN T N f p) = 10 ∨ T (skN T N f p) = 32))
  | 0, p, h => ⟨Nat.le_refl _, Nat.le_of_eq h, Or.inl h⟩
  | f + 1, p, h => by
    unfold skN
    by_cases q : p < N ∧ (T p = 10 ∨ T p = 32)
    · rw [if_pos q]
      have ih := sk_sp (T := T) (N := N) (f := f) (p := p + 1) (by omega)
      exact ⟨by omega, ih.2.1, ih.2.2⟩
    · rw [if_neg q]
      have pn : p < N := by omega
      exact ⟨Nat.le_refl _, Nat.le_of_lt pn, Or.inr (fun z => q ⟨pn, z⟩)⟩
theorem rn_sp {T : Nat → Int} {N : Nat} {lo hi : Int} : ∀ {f p : Nat}, p + f = N → p ≤ rnN T N lo hi f p ∧ rnN T N lo hi f p ≤ N ∧ ∀ j, p ≤ j → j < rnN T N lo hi f p → lo ≤ T j ∧ T j ≤ hi
  | 0, p, h => ⟨Nat.le_refl _, Nat.le_of_eq h, fun j h1 h2 => absurd h2 (Nat.not_lt.mpr h1)⟩
  | f + 1, p, h => by
    unfold rnN
    by_cases q : p < N ∧ lo ≤ T p ∧ T p ≤ hi
    · rw [if_pos q]
      have ih := rn_sp (T := T) (N := N) (lo := lo) (hi := hi) (f := f) (p := p + 1) (by omega)
      refine ⟨by omega, ih.2.1, fun j h1 h2 => ?_⟩
      by_cases e : j = p
      · rw [e]; exact q.2
      · exact ih.2.2 j (by omega) h2
    · rw [if_neg q]
      have pn : p < N := by omega
      exact ⟨Nat.le_refl _, Nat.le_of_lt pn, fun j h1 h2 => absurd h2 (Nat.not_lt.mpr h1)⟩
theorem rn_lt {T : Nat → Int} {N : Nat} {lo hi : Int} {f p : Nat} (h : p + f = N) (pn : p < N) (hp : lo ≤ T p ∧ T p ≤ hi) : p < rnN T N lo hi f p := by
  obtain ⟨g, rfl⟩ : ∃ g, f = g + 1 := ⟨f - 1, by omega⟩
  unfold rnN
  rw [if_pos ⟨pn, hp⟩]
  have := (rn_sp (T := T) (N := N) (lo := lo) (hi := hi) (f := g) (p := p + 1) (by omega)).1
  omega
def tqP (T : Nat → Int) (N p : Nat) : Nat := skN T N (N - p) p
def isLt (c : Int) : Prop := 97 ≤ c ∧ c ≤ 122
def isDg (c : Int) : Prop := 48 ≤ c ∧ c ≤ 57
def teQ (T : Nat → Int) (N q : Nat) : Nat := if q < N then (if 97 ≤ T q ∧ T q ≤ 122 then rnN T N 97 122 (N - q) q else if 48 ≤ T q ∧ T q ≤ 57 then rnN T N 48 57 (N - q) q else q + 1) else q
def tkQ (T : Nat → Int) (N q : Nat) : Int := if q < N then (if 97 ≤ T q ∧ T q ≤ 122 then (if teQ T N q - q ≤ 8 then 2 else 1) else if 48 ≤ T q ∧ T q ≤ 57 then (if teQ T N q - q ≤ 4 then 3 else 1) else (if T q = 40 ∨ T q = 41 ∨ T q = 60 ∨ T q = 61 ∨ T q = 43 ∨ T q = 45 ∨ T q = 42 ∨ T q = 59 then 4 else 1)) else 0
def psI (T : Nat → Int) (N : Nat) : Nat → Nat
  | 0 => 0
  | i + 1 => teQ T N (tqP T N (psI T N i))
def plI (T : Nat → Int) (N i : Nat) : Nat := tqP T N (psI T N i)
def enI (T : Nat → Int) (N i : Nat) : Nat := teQ T N (plI T N i)
def kdI (T : Nat → Int) (N i : Nat) : Int := tkQ T N (plI T N i)
theorem ps_s {T : Nat → Int} {N i : Nat} : psI T N (i + 1) = enI T N i := rfl
theorem te_b {T : Nat → Int} {N q : Nat} (h : q ≤ N) : q ≤ teQ T N q ∧ teQ T N q ≤ N ∧ (q < N → q < teQ T N q) := by
  unfold teQ
  by_cases h1 : q < N
  · rw [if_pos h1]
    by_cases h2 : 97 ≤ T q ∧ T q ≤ 122
    · rw [if_pos h2]
      have s := rn_sp (T := T) (N := N) (lo := 97) (hi := 122) (f := N - q) (p := q) (by omega)
      exact ⟨s.1, s.2.1, fun _ => rn_lt (by omega) h1 h2⟩
    · rw [if_neg h2]
      by_cases h3 : 48 ≤ T q ∧ T q ≤ 57
      · rw [if_pos h3]
        have s := rn_sp (T := T) (N := N) (lo := 48) (hi := 57) (f := N - q) (p := q) (by omega)
        exact ⟨s.1, s.2.1, fun _ => rn_lt (by omega) h1 h3⟩
      · rw [if_neg h3]
        exact ⟨Nat.le_succ q, h1, fun _ => Nat.lt_succ_self q⟩
  · rw [if_neg h1]
    exact ⟨Nat.le_refl _, h, fun z => absurd z h1⟩
theorem tq_b {T : Nat → Int} {N p : Nat} (h : p ≤ N) : p ≤ tqP T N p ∧ tqP T N p ≤ N ∧ (tqP T N p = N ∨ ¬ (T (tqP T N p) = 10 ∨ T (tqP T N p) = 32)) := sk_sp (by omega)
theorem ps_b {T : Nat → Int} {N : Nat} : ∀ {i : Nat}, psI T N i ≤ N
  | 0 => Nat.zero_le _
  | _ + 1 => (te_b (tq_b ps_b).2.1).2.1
theorem pl_b {T : Nat → Int} {N i : Nat} : psI T N i ≤ plI T N i ∧ plI T N i ≤ N := ⟨(tq_b ps_b).1, (tq_b ps_b).2.1⟩
theorem en_b {T : Nat → Int} {N i : Nat} : plI T N i ≤ enI T N i ∧ enI T N i ≤ N ∧ (plI T N i < N → plI T N i < enI T N i) := te_b pl_b.2
def chL (T : Nat → Int) (q e : Nat) : List Int := (List.range (e - q)).map (fun j => T (q + j))
theorem ch_g {T : Nat → Int} {q e i : Nat} : (chL T q e).getD i 32 = if q + i < e then T (q + i) else 32 := by
  unfold chL
  rw [List.getD_eq_getElem?_getD, List.getElem?_map]
  by_cases h : q + i < e
  · rw [if_pos h, List.getElem?_range (by omega)]; rfl
  · rw [if_neg h, List.getElem?_eq_none (by rw [List.length_range]; omega)]; rfl
theorem ch_n {T : Nat → Int} {q e : Nat} : (chL T q e).length = e - q := by unfold chL; rw [List.length_map, List.length_range]
def nmN (T : Nat → Int) (q : Nat) : Nat → Int
  | 0 => 0
  | k + 1 => nmN T q k * 10 + T (q + k) - 48
theorem nm_b {T : Nat → Int} {q : Nat} : ∀ {k : Nat}, (∀ j, j < k → 48 ≤ T (q + j) ∧ T (q + j) ≤ 57) → 0 ≤ nmN T q k ∧ nmN T q k < 10 ^ k
  | 0, _ => by
    show (0 : Int) ≤ 0 ∧ (0 : Int) < 10 ^ 0
    decide
  | k + 1, h => by
    have ih := nm_b (T := T) (q := q) (k := k) (fun j hj => h j (by omega))
    have t := h k (Nat.lt_succ_self k)
    show 0 ≤ nmN T q k * 10 + T (q + k) - 48 ∧ nmN T q k * 10 + T (q + k) - 48 < 10 ^ (k + 1)
    rw [Int.pow_succ]
    generalize nmN T q k = u at *
    generalize (10 : Int) ^ k = v at *
    omega
/-- the token that the class looks at -/
def CTk (σ : Nat → Nat → Int) (T : Nat → Int) (N i : Nat) : Prop := σ 1 1 = (N : Int) ∧ σ 1 2 = ((plI T N i : Nat) : Int) ∧ σ 1 3 = ((enI T N i : Nat) : Int) ∧ σ 1 4 = kdI T N i ∧ (kdI T N i = 2 → σ 1 5 = ((wnW (chL T (plI T N i) (enI T N i)) : Nat) : Int)) ∧ (kdI T N i = 3 → σ 1 5 = nmN T (plI T N i) (enI T N i - plI T N i)) ∧ (kdI T N i = 4 → σ 1 5 = T (plI T N i))
/-- a tape's signs -/
def okT (T : Nat → Int) (N : Nat) : Prop := N ≤ 1000 ∧ ∀ j, j < N → okc (T j)
theorem c_pass {X : mXX} {d : Nat} {Q : Option mV → mS → Prop} {α : Nat → Nat → Int} {T : Nat → Int} {N : Nat} {lo hi : Int} (hT : α 2 = T) (hN : N ≤ 1000) : ∀ (f p : Nat) (σ : Nat → Nat → Int), p + f = N → σ 1 1 = (N : Int) → σ 1 3 = (p : Int) → (∀ σ', Fσ [(1, 3)] σ σ' → σ' 1 3 = ((rnN T N lo hi f p : Nat) : Int) → Q none (S0, σ', α)) → Go X d 69 0 [some (vR 1), some (vI lo), some (vI hi)] [] (S0, σ, α) (0, 0) Q := by
  intro f
  induction f with
  | zero =>
    intro p σ hp s1 s3 hQ
    have e : p = N := hp
    subst e
    refine vc69_0 ⟨fun _ => hQ σ Fσ.rf s3, fun q => absurd q (by rw [s1, s3]; exact Int.lt_irrefl _)⟩
  | succ f ih =>
    intro p σ hp s1 s3 hQ
    have pl : (p : Int) < (N : Int) := by omega
    have pn : p < N := by omega
    have p1 : p < 1000 := by omega
    have pf : p + 1 + f = N := by omega
    have ek := wrS (k := p) (by omega)
    have stay : ¬ (lo ≤ T p ∧ T p ≤ hi) → Q none (S0, σ, α) := fun h => by
      refine hQ σ Fσ.rf ?_
      rw [s3]
      unfold rnN
      rw [if_neg (fun z => h z.2)]
    refine vc69_0 ⟨fun q => absurd (by rw [s1, s3]; exact pl) q, fun _ => ?_⟩
    rw [s3, hT]
    refine ⟨mInA_n p1, ?_⟩
    rw [Int.toNat_natCast]
    refine ⟨fun q => stay (fun z => absurd z.1 (Int.not_le.mpr q)), fun q => ⟨mInA_n p1, fun q2 => stay (fun z => absurd z.2 (Int.not_le.mpr q2)), fun q2 => ?_⟩⟩
    rw [ek]
    refine ih (p + 1) _ pf (by rw [up_n (by decide)]; exact s1) up_s (fun σ' hs e => hQ σ' ((Fσ.up (by decide)).tr hs) ?_)
    rw [e, show rnN T N lo hi (f + 1) p = rnN T N lo hi f (p + 1) from if_pos ⟨pn, Int.not_lt.mp q, Int.not_lt.mp q2⟩]
theorem ixw {w i : Nat} (hw : w < 29) (hi : i < 8) : wr (wr ((w : Int) * 8) + (i : Int)) = ((8 * w + i : Nat) : Int) ∧ 8 * w + i < 232 := by
  refine ⟨?_, by omega⟩
  rw [wr_of (x := (w : Int) * 8) (by omega) (by omega), wr_of (by omega) (by omega)]; omega
