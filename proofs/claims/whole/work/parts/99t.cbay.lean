/-! A bay is told: what it is then, and the class's bay (printed by wip/tool/gen99t.py) -/
def bg1 (ρ : Nat → Int) (k : Nat) : Int := if ρ (290 + 3 * k) < apN ρ k then 1 else 0
def bgN (ρ : Nat → Int) : Nat → Nat → Int
  | 0 => ρ
  | n + 1 => rU (bgN ρ n) (292 + 3 * n) (bg1 ρ n)
theorem bg_o {ρ : Nat → Int} : ∀ {n j : Nat}, (∀ k, k < n → j ≠ 292 + 3 * k) → bgN ρ n j = ρ j
  | 0, _, _ => rfl
  | n + 1, j, h => (rU_n (h n (Nat.lt_succ_self n))).trans (bg_o (fun k hk => h k (Nat.lt_succ_of_lt hk)))
theorem bg_v {ρ : Nat → Int} : ∀ {n k : Nat}, k < n → bgN ρ n (292 + 3 * k) = bg1 ρ k
  | 0, k, h => absurd h (Nat.not_lt_zero k)
  | n + 1, k, h => by
    by_cases e : k = n
    · rw [e]; exact rU_s
    · exact (rU_n (by omega)).trans (bg_v (Nat.lt_of_le_of_ne (Nat.le_of_lt_succ h) e))
theorem bg_lt {ρ : Nat → Int} {n j : Nat} (hj : j < 292) : bgN ρ n j = ρ j := bg_o (fun k _ => by omega)
theorem bg_ho {ρ : Nat → Int} {n j : Nat} (hn : n ≤ 6) (h : ¬ (292 ≤ j ∧ j < 310 ∧ (j - 292) % 3 = 0)) : bgN ρ n j = ρ j := bg_o (fun k hk e => h (by omega))
theorem bg_01 {ρ : Nat → Int} {n k : Nat} (z : ∀ k, k < 6 → ρ (292 + 3 * k) = 0) (hk : k < 6) : bgN ρ n (292 + 3 * k) = 0 ∨ bgN ρ n (292 + 3 * k) = 1 := by
  by_cases h : k < n
  · rw [bg_v h]
    unfold bg1
    by_cases q : ρ (290 + 3 * k) < apN ρ k
    · rw [if_pos q]; exact Or.inr rfl
    · rw [if_neg q]; exact Or.inl rfl
  · rw [bg_o (fun i hi e => by omega), z k hk]; exact Or.inl rfl
theorem bg_wf {ρ : Nat → Int} {n : Nat} (w : WF ρ) (z : ∀ k, k < 6 → ρ (292 + 3 * k) = 0) (hn : n ≤ 6) : WF (bgN ρ n) := w.tr (fun j h => bg_ho hn h) (fun k hk => bg_01 z hk)
theorem bg_ap {ρ : Nat → Int} {n k : Nat} (hk : k < 6) : apN (bgN ρ n) k = apN ρ k := by
  unfold apN
  rw [bg_lt (j := 203 + 12 * k) (by omega), bg_lt (j := 203 + 12 * (k + 1)) (by omega), bg_lt (j := 204 + 12 * k) (by omega), bg_lt (j := 204 + 12 * (k + 1)) (by omega)]
theorem Rep.bg {σ γ : Nat → Nat → Int} {ρ : Nat → Int} {k : Nat} {v : Int} (R : Rep σ γ (bgN ρ k)) (k6 : k < 6) (h7 : ρ 2 ≤ 7) (hv : v = bg1 ρ k) : Rep σ (mUp γ 47 k v) (bgN ρ (k + 1)) := by
  refine R.tr (Fα.up (by decide)) (fun j h => rU_n (fun e => h (by omega))) (by rw [bg_lt (by decide)]; exact h7) (fun i hi => ?_)
  rw [up_a]
  by_cases e : i = k
  · rw [if_pos e, e, hv]; exact rU_s.symm
  · rw [if_neg e, (R.l hi).2.2]; exact (rU_n (by omega)).symm
def bsN (ρ : Nat → Int) : Nat := (ρ 2).toNat - 1
theorem bs_6 {ρ : Nat → Int} (w : WF ρ) : bsN ρ ≤ 6 := by
  have := w.2.2.1
  unfold bsN
  generalize ρ 2 = v at *
  clear w
  omega
theorem bs_w {v : Int} (h : 0 ≤ v ∧ v ≤ 7) : wr (v - 1) = v - 1 := wr_of (by omega) (by omega)
theorem bs_l {v : Int} {k : Nat} (h : 0 ≤ v ∧ v ≤ 7) : (k : Int) < v - 1 ↔ k < v.toNat - 1 := by omega
theorem bs_l2 {v : Int} {k : Nat} (h : 0 ≤ v ∧ v ≤ 7) (hk : k < v.toNat - 1) : ((k + 1 : Nat) : Int) < v := by omega
/-- the torn links at the start -/
theorem c_begL {X : mXX} {d : Nat} {Q : Option mV → mS → Prop} {σ α : Nat → Nat → Int} {ρ : Nat → Int} (w : WF ρ) (z : ∀ k, k < 6 → ρ (292 + 3 * k) = 0) (h : ∀ α', Fα [47] α α' → Rep σ α' (bgN ρ (bsN ρ)) → Q none (S0, σ, α')) : ∀ (g k : Nat) (γ : Nat → Nat → Int), k + g = bsN ρ → Fα [47] α γ → Rep σ γ (bgN ρ k) → Go X (d + 1) 57 84 [some (vR 40), some (vR 23), some (vI (k : Int))] [] (S0, σ, γ) (0, 0) Q := by
  have b2 := w.2.2.1
  have s6 := bs_6 w
  intro g
  induction g with
  | zero =>
    intro k γ hk E R
    have ek : k = bsN ρ := hk
    have r2 : σ 23 2 = ρ 2 := R.2.2.1.trans (bg_lt (by decide))
    refine vc57_84 ⟨fun _ => h γ E (by rw [← ek]; exact R), fun q => ?_⟩
    rw [r2, bs_w b2, bs_l b2] at q
    exact absurd q (by rw [ek]; exact Nat.lt_irrefl _)
  | succ g ih =>
    intro k γ hk E R
    have kl : k < bsN ρ := by clear R E; omega
    have k6 : k < 6 := Nat.lt_of_lt_of_le kl s6
    have k1 : k + 1 + g = bsN ρ := by clear R E; omega
    have ek := wrS (k := k) (by clear R E; omega)
    have r2 : σ 23 2 = ρ 2 := R.2.2.1.trans (bg_lt (by decide))
    have hb : ((k + 1 : Nat) : Int) < bgN ρ k 2 := by rw [bg_lt (by decide)]; exact bs_l2 b2 kl
    have e32 : γ 32 k = ρ (290 + 3 * k) := (R.l k6).1.trans (bg_o (fun i _ => by clear R E ek hb r2; omega))
    refine vc57_84 ⟨fun q => absurd (by rw [r2, bs_w b2, bs_l b2]; exact kl) q, fun _ => c_apart R (bg_wf w z (Nat.le_of_lt k6)) hb (vc57_104 ?_)⟩
    rw [Int.toNat_natCast, ek, e32, bg_ap k6]
    refine ⟨mInA_n k6, fun q => ⟨mInA_n k6, ?_⟩, fun q => ⟨mInA_n k6, ?_⟩⟩
    · exact ih (k + 1) _ k1 (E.tr (Fα.up (by decide))) (R.bg k6 b2.2 (if_neg q).symm)
    · exact ih (k + 1) _ k1 (E.tr (Fα.up (by decide))) (R.bg k6 b2.2 (if_pos q).symm)
/-- what the class's told bay is -/
def BT (σ α : Nat → Nat → Int) (s : bSt) : Prop := (σ 23 0 = s.1 0 ∧ σ 23 1 = s.1 1 ∧ σ 23 2 = s.1 2 ∧ σ 23 3 = s.1 4 ∧ σ 23 4 = s.1 5) ∧ (∀ c, c < 64 → α 24 c = s.1 (10 + 3 * c) ∧ α 25 c = s.1 (11 + 3 * c)) ∧ (∀ b : Nat, (b : Int) < s.1 2 → α 26 b = s.1 (202 + 12 * b) ∧ α 27 b = s.1 (205 + 12 * b) ∧ α 28 b = s.1 (206 + 12 * b) ∧ α 29 b = s.1 (207 + 12 * b) ∧ α 30 b = s.1 (208 + 12 * b) ∧ α 31 b = s.1 (209 + 12 * b)) ∧ (∀ k, k < 6 → α 32 k = s.1 (290 + 3 * k) ∧ α 33 k = s.1 (291 + 3 * k)) ∧ (pgC (α 35) 0 s.2.1.1 ∧ σ 34 2 = s.2.1.1.length) ∧ (pgC (α 38) 0 s.2.1.2 ∧ σ 37 2 = s.2.1.2.length)
def STt : List (Nat × Nat) := [(23, 0), (23, 1), (23, 2), (23, 3), (23, 4), (34, 2), (37, 2)]
def ATt : List Nat := [24, 25, 26, 27, 28, 29, 30, 31, 32, 33, 35, 38]
theorem c_bayTake {X : mXX} {d : Nat} {Q : Option mV → mS → Prop} {σ α : Nat → Nat → Int} {T : Nat → Int} {N : Nat} {s : bSt} (D : DR T N σ α s) (w : SW s) (h : ∀ σ' α', Fσ STt σ σ' → Fα ATt α α' → BT σ' α' s → Q none (S0, σ', α')) : Ca X (d + 2) 4 [vR 23, vR 4] (S0, σ, α) Q := by
  refine vc4_0 (vc4_55 (vc4_70 (vc4_85 (vc4_100 (vc4_115 (vc4_130 (vc4_145 (vc4_160 (vc4_175 (vc4_190 ?_))))))))))
  have F1 : Fσ [(23, 0), (23, 1), (23, 2), (23, 3), (23, 4)] σ (mUp (mUp (mUp (mUp (mUp σ 23 0 (σ 4 0)) 23 1 (σ 4 1)) 23 2 (σ 4 2)) 23 3 (σ 4 3)) 23 4 (σ 4 4)) := ((((Fσ.up (by decide)).tr (Fσ.up (by decide))).tr (Fσ.up (by decide))).tr (Fσ.up (by decide))).tr (Fσ.up (by decide))
  have s0 : (mUp (mUp (mUp (mUp (mUp σ 23 0 (σ 4 0)) 23 1 (σ 4 1)) 23 2 (σ 4 2)) 23 3 (σ 4 3)) 23 4 (σ 4 4)) 23 0 = σ 4 0 := by rw [up_n (by decide), up_n (by decide), up_n (by decide), up_n (by decide), up_s]
  have s1 : (mUp (mUp (mUp (mUp (mUp σ 23 0 (σ 4 0)) 23 1 (σ 4 1)) 23 2 (σ 4 2)) 23 3 (σ 4 3)) 23 4 (σ 4 4)) 23 1 = σ 4 1 := by rw [up_n (by decide), up_n (by decide), up_n (by decide), up_s]
  have s2 : (mUp (mUp (mUp (mUp (mUp σ 23 0 (σ 4 0)) 23 1 (σ 4 1)) 23 2 (σ 4 2)) 23 3 (σ 4 3)) 23 4 (σ 4 4)) 23 2 = σ 4 2 := by rw [up_n (by decide), up_n (by decide), up_s]
  have s3 : (mUp (mUp (mUp (mUp (mUp σ 23 0 (σ 4 0)) 23 1 (σ 4 1)) 23 2 (σ 4 2)) 23 3 (σ 4 3)) 23 4 (σ 4 4)) 23 3 = σ 4 3 := by rw [up_n (by decide), up_s]
  have s4 : (mUp (mUp (mUp (mUp (mUp σ 23 0 (σ 4 0)) 23 1 (σ 4 1)) 23 2 (σ 4 2)) 23 3 (σ 4 3)) 23 4 (σ 4 4)) 23 4 = σ 4 4 := by rw [up_s]
  have E1 : Fα [24, 25, 26, 27, 28, 29, 30, 31, 32, 33] α (mCp (mCp (mCp (mCp (mCp (mCp (mCp (mCp (mCp (mCp α 5 0 24 0 64) 6 0 25 0 64) 7 0 26 0 7) 8 0 27 0 7) 9 0 28 0 7) 10 0 29 0 7) 11 0 30 0 7) 12 0 31 0 7) 13 0 32 0 6) 14 0 33 0 6) := (((((((((Fα.cp (by decide)).tr (Fα.cp (by decide))).tr (Fα.cp (by decide))).tr (Fα.cp (by decide))).tr (Fα.cp (by decide))).tr (Fα.cp (by decide))).tr (Fα.cp (by decide))).tr (Fα.cp (by decide))).tr (Fα.cp (by decide))).tr (Fα.cp (by decide))
  have a24 : ∀ c, c < 64 → (mCp (mCp (mCp (mCp (mCp (mCp (mCp (mCp (mCp (mCp α 5 0 24 0 64) 6 0 25 0 64) 7 0 26 0 7) 8 0 27 0 7) 9 0 28 0 7) 10 0 29 0 7) 11 0 30 0 7) 12 0 31 0 7) 13 0 32 0 6) 14 0 33 0 6) 24 c = α 5 c := fun c hc => by rw [cp_o (by decide), cp_o (by decide), cp_o (by decide), cp_o (by decide), cp_o (by decide), cp_o (by decide), cp_o (by decide), cp_o (by decide), cp_o (by decide), cp_s hc]
  have a25 : ∀ c, c < 64 → (mCp (mCp (mCp (mCp (mCp (mCp (mCp (mCp (mCp (mCp α 5 0 24 0 64) 6 0 25 0 64) 7 0 26 0 7) 8 0 27 0 7) 9 0 28 0 7) 10 0 29 0 7) 11 0 30 0 7) 12 0 31 0 7) 13 0 32 0 6) 14 0 33 0 6) 25 c = α 6 c := fun c hc => by rw [cp_o (by decide), cp_o (by decide), cp_o (by decide), cp_o (by decide), cp_o (by decide), cp_o (by decide), cp_o (by decide), cp_o (by decide), cp_s hc, cp_o (by decide)]
  have a26 : ∀ c, c < 7 → (mCp (mCp (mCp (mCp (mCp (mCp (mCp (mCp (mCp (mCp α 5 0 24 0 64) 6 0 25 0 64) 7 0 26 0 7) 8 0 27 0 7) 9 0 28 0 7) 10 0 29 0 7) 11 0 30 0 7) 12 0 31 0 7) 13 0 32 0 6) 14 0 33 0 6) 26 c = α 7 c := fun c hc => by rw [cp_o (by decide), cp_o (by decide), cp_o (by decide), cp_o (by decide), cp_o (by decide), cp_o (by decide), cp_o (by decide), cp_s hc, cp_o (by decide), cp_o (by decide)]
  have a27 : ∀ c, c < 7 → (mCp (mCp (mCp (mCp (mCp (mCp (mCp (mCp (mCp (mCp α 5 0 24 0 64) 6 0 25 0 64) 7 0 26 0 7) 8 0 27 0 7) 9 0 28 0 7) 10 0 29 0 7) 11 0 30 0 7) 12 0 31 0 7) 13 0 32 0 6) 14 0 33 0 6) 27 c = α 8 c := fun c hc => by rw [cp_o (by decide), cp_o (by decide), cp_o (by decide), cp_o (by decide), cp_o (by decide), cp_o (by decide), cp_s hc, cp_o (by decide), cp_o (by decide), cp_o (by decide)]
  have a28 : ∀ c, c < 7 → (mCp (mCp (mCp (mCp (mCp (mCp (mCp (mCp (mCp (mCp α 5 0 24 0 64) 6 0 25 0 64) 7 0 26 0 7) 8 0 27 0 7) 9 0 28 0 7) 10 0 29 0 7) 11 0 30 0 7) 12 0 31 0 7) 13 0 32 0 6) 14 0 33 0 6) 28 c = α 9 c := fun c hc => by rw [cp_o (by decide), cp_o (by decide), cp_o (by decide), cp_o (by decide), cp_o (by decide), cp_s hc, cp_o (by decide), cp_o (by decide), cp_o (by decide), cp_o (by decide)]
  have a29 : ∀ c, c < 7 → (mCp (mCp (mCp (mCp (mCp (mCp (mCp (mCp (mCp (mCp α 5 0 24 0 64) 6 0 25 0 64) 7 0 26 0 7) 8 0 27 0 7) 9 0 28 0 7) 10 0 29 0 7) 11 0 30 0 7) 12 0 31 0 7) 13 0 32 0 6) 14 0 33 0 6) 29 c = α 10 c := fun c hc => by rw [cp_o (by decide), cp_o (by decide), cp_o (by decide), cp_o (by decide), cp_s hc, cp_o (by decide), cp_o (by decide), cp_o (by decide), cp_o (by decide), cp_o (by decide)]
  have a30 : ∀ c, c < 7 → (mCp (mCp (mCp (mCp (mCp (mCp (mCp (mCp (mCp (mCp α 5 0 24 0 64) 6 0 25 0 64) 7 0 26 0 7) 8 0 27 0 7) 9 0 28 0 7) 10 0 29 0 7) 11 0 30 0 7) 12 0 31 0 7) 13 0 32 0 6) 14 0 33 0 6) 30 c = α 11 c := fun c hc => by rw [cp_o (by decide), cp_o (by decide), cp_o (by decide), cp_s hc, cp_o (by decide), cp_o (by decide), cp_o (by decide), cp_o (by decide), cp_o (by decide), cp_o (by decide)]
  have a31 : ∀ c, c < 7 → (mCp (mCp (mCp (mCp (mCp (mCp (mCp (mCp (mCp (mCp α 5 0 24 0 64) 6 0 25 0 64) 7 0 26 0 7) 8 0 27 0 7) 9 0 28 0 7) 10 0 29 0 7) 11 0 30 0 7) 12 0 31 0 7) 13 0 32 0 6) 14 0 33 0 6) 31 c = α 12 c := fun c hc => by rw [cp_o (by decide), cp_o (by decide), cp_s hc, cp_o (by decide), cp_o (by decide), cp_o (by decide), cp_o (by decide), cp_o (by decide), cp_o (by decide), cp_o (by decide)]
  have a32 : ∀ c, c < 6 → (mCp (mCp (mCp (mCp (mCp (mCp (mCp (mCp (mCp (mCp α 5 0 24 0 64) 6 0 25 0 64) 7 0 26 0 7) 8 0 27 0 7) 9 0 28 0 7) 10 0 29 0 7) 11 0 30 0 7) 12 0 31 0 7) 13 0 32 0 6) 14 0 33 0 6) 32 c = α 13 c := fun c hc => by rw [cp_o (by decide), cp_s hc, cp_o (by decide), cp_o (by decide), cp_o (by decide), cp_o (by decide), cp_o (by decide), cp_o (by decide), cp_o (by decide), cp_o (by decide)]
  have a33 : ∀ c, c < 6 → (mCp (mCp (mCp (mCp (mCp (mCp (mCp (mCp (mCp (mCp α 5 0 24 0 64) 6 0 25 0 64) 7 0 26 0 7) 8 0 27 0 7) 9 0 28 0 7) 10 0 29 0 7) 11 0 30 0 7) 12 0 31 0 7) 13 0 32 0 6) 14 0 33 0 6) 33 c = α 14 c := fun c hc => by rw [cp_s hc, cp_o (by decide), cp_o (by decide), cp_o (by decide), cp_o (by decide), cp_o (by decide), cp_o (by decide), cp_o (by decide), cp_o (by decide), cp_o (by decide)]
  generalize mUp (mUp (mUp (mUp (mUp σ 23 0 (σ 4 0)) 23 1 (σ 4 1)) 23 2 (σ 4 2)) 23 3 (σ 4 3)) 23 4 (σ 4 4) = σ1 at *
  generalize mCp (mCp (mCp (mCp (mCp (mCp (mCp (mCp (mCp (mCp α 5 0 24 0 64) 6 0 25 0 64) 7 0 26 0 7) 8 0 27 0 7) 9 0 28 0 7) 10 0 29 0 7) 11 0 30 0 7) 12 0 31 0 7) 13 0 32 0 6) 14 0 33 0 6 = α1 at *
  obtain ⟨d0, d1, d2, d3, d4, d5, d6, d7⟩ := D
  have w7 := w.2.2.2.2.2.2
  have n1 : s.2.1.1.length ≤ 1000 := w7.1.2
  have n2 : s.2.1.2.length ≤ 1000 := w7.2.2
  have l1 : σ1 15 2 = ((s.2.1.1.length : Nat) : Int) := (F1 15 2 (by decide)).trans d4.1
  have l2 : σ1 18 2 = ((s.2.1.2.length : Nat) : Int) := (F1 18 2 (by decide)).trans d5.1
  have nn1 : (0 ≤ ((s.2.1.1.length : Nat) : Int) ∧ 0 ≤ (0 : Int) ∧ 0 ≤ (0 : Int) ∧ (0 : Int) + ((s.2.1.1.length : Nat) : Int) ≤ 1000 ∧ (0 : Int) + ((s.2.1.1.length : Nat) : Int) ≤ 1000) := by
    generalize s.2.1.1.length = v at n1
    clear l1 l2 s0 s1 s2 s3 s4 d0 d4 d5 d6 d7
    omega
  have nn2 : (0 ≤ ((s.2.1.2.length : Nat) : Int) ∧ 0 ≤ (0 : Int) ∧ 0 ≤ (0 : Int) ∧ (0 : Int) + ((s.2.1.2.length : Nat) : Int) ≤ 1000 ∧ (0 : Int) + ((s.2.1.2.length : Nat) : Int) ≤ 1000) := by
    generalize s.2.1.2.length = v at n2
    clear l1 l2 s0 s1 s2 s3 s4 d0 d4 d5 d6 d7 nn1
    omega
  refine vc42r34r15_0 ?_
  rw [l1, Int.toNat_natCast]
  refine ⟨nn1, vc4_201 (vc42r37r18_0 ?_)⟩
  rw [up_n (f := σ1) (a := 34) (k := 2) (x := 18) (y := 2) (by decide), l2, Int.toNat_natCast]
  refine ⟨nn2, vc4_212 ?_⟩
  refine h _ _ (((F1.wk (by decide)).tr (Fσ.up (by decide))).tr (Fσ.up (by decide))) (((E1.wk (by decide)).tr (Fα.cp (by decide))).tr (Fα.cp (by decide))) ?_
  have q : ∀ z k, z ≠ 35 → z ≠ 38 → mCp (mCp α1 16 0 35 0 s.2.1.1.length) 19 0 38 0 s.2.1.2.length z k = α1 z k := fun z k z1 z2 => by rw [cp_o z2, cp_o z1]
  refine ⟨⟨?_, ?_, ?_, ?_, ?_⟩, fun c hc => ⟨?_, ?_⟩, fun b hb => ?_, fun k hk => ⟨?_, ?_⟩, ⟨?_, ?_⟩, ⟨?_, ?_⟩⟩
  · rw [up_n (by decide), up_n (by decide), s0]; exact d0.1
  · rw [up_n (by decide), up_n (by decide), s1]; exact d0.2.1
  · rw [up_n (by decide), up_n (by decide), s2]; exact d0.2.2.1
  · rw [up_n (by decide), up_n (by decide), s3]; exact d0.2.2.2.1
  · rw [up_n (by decide), up_n (by decide), s4]; exact d0.2.2.2.2
  · rw [q 24 c (by decide) (by decide), a24 c hc]; exact (d1 c hc).1
  · rw [q 25 c (by decide) (by decide), a25 c hc]; exact (d1 c hc).2
  · have b7 := w.1.bt hb
    have r := d2 b hb
    rw [q 26 b (by decide) (by decide), q 27 b (by decide) (by decide), q 28 b (by decide) (by decide), q 29 b (by decide) (by decide), q 30 b (by decide) (by decide), q 31 b (by decide) (by decide), a26 b b7, a27 b b7, a28 b b7, a29 b b7, a30 b b7, a31 b b7]
    exact ⟨r.1, r.2.1, r.2.2.1, r.2.2.2.1, r.2.2.2.2.1, r.2.2.2.2.2.1⟩
  · rw [q 32 k (by decide) (by decide), a32 k hk]; exact (d3 k hk).1
  · rw [q 33 k (by decide) (by decide), a33 k hk]; exact (d3 k hk).2
  · rw [cp_o (by decide)]
    refine d4.2.cg (fun t _ t2 => ?_)
    rw [Nat.zero_add] at t2
    rw [cp_s t2, E1 16 (by decide)]
  · rw [up_n (by decide), up_s]
  · refine d5.2.cg (fun t _ t2 => ?_)
    rw [Nat.zero_add] at t2
    rw [cp_s t2, cp_o (by decide), E1 19 (by decide)]
  · rw [up_s]
def ABg : List Nat := [41, 42, 43, 44, 45, 46, 47]
theorem c_begin {X : mXX} {d : Nat} {Q : Option mV → mS → Prop} {σ α : Nat → Nat → Int} {s : bSt} (B : BT σ α s) (w : SW s) (h : ∀ α', Fα ABg α α' → Rep (mUp σ 40 1 0) α' (bgN s.1 (bsN s.1)) → Q none (S0, mUp σ 40 1 0, α')) : Ca X (d + 2) 57 [vR 40, vR 23] (S0, σ, α) Q := by
  refine vc57_0 ?_
  have E0 : Fα ABg α (mCp (mCp (mCp α 25 0 41 0 64) 27 0 42 0 7) 28 0 43 0 7) := ((Fα.cp (by decide)).tr (Fα.cp (by decide))).tr (Fα.cp (by decide))
  have a41 : ∀ c, c < 64 → (mCp (mCp (mCp α 25 0 41 0 64) 27 0 42 0 7) 28 0 43 0 7) 41 c = α 25 c := fun c hc => by rw [cp_o (by decide), cp_o (by decide), cp_s hc]
  have a42 : ∀ c, c < 7 → (mCp (mCp (mCp α 25 0 41 0 64) 27 0 42 0 7) 28 0 43 0 7) 42 c = α 27 c := fun c hc => by rw [cp_o (by decide), cp_s hc, cp_o (by decide)]
  have a43 : ∀ c, c < 7 → (mCp (mCp (mCp α 25 0 41 0 64) 27 0 42 0 7) 28 0 43 0 7) 43 c = α 28 c := fun c hc => by rw [cp_s hc, cp_o (by decide), cp_o (by decide)]
  generalize mCp (mCp (mCp α 25 0 41 0 64) 27 0 42 0 7) 28 0 43 0 7 = α0 at *
  refine c_fill44 (fun α1 E1 f1 => vc57_58 (c_fill45 (fun α2 E2 f2 => vc57_66 (c_fill46 (fun α3 E3 f3 => vc57_74 (c_fill47 (fun α4 E4 f4 => vc57_82 ?_)))))))
  have E14 : Fα [44, 45, 46, 47] α0 α4 := (((E1.wk (by decide)).tr (E2.wk (by decide))).tr (E3.wk (by decide))).tr (E4.wk (by decide))
  have E04 : Fα ABg α α4 := E0.tr (E14.wk (by decide))
  obtain ⟨w1, w2, w3, w4, w5⟩ := w
  obtain ⟨d0, d1, d2, d3, d4⟩ := B
  have R : Rep (mUp σ 40 1 0) α4 (bgN s.1 0) := by
    show Rep (mUp σ 40 1 0) α4 s.1
    refine ⟨?_, ?_, ?_, ?_, ?_, ?_, fun c hc => ⟨?_, ?_, ?_⟩, fun b hb => ?_, fun k hk => ⟨?_, ?_, ?_⟩⟩
    · rw [up_n (by decide)]; exact d0.1
    · rw [up_n (by decide)]; exact d0.2.1
    · rw [up_n (by decide)]; exact d0.2.2.1
    · rw [up_n (by decide)]; exact d0.2.2.2.1
    · rw [up_n (by decide)]; exact d0.2.2.2.2
    · rw [up_s]; exact w4.1.symm
    · rw [E04 24 (by decide)]; exact (d1 c hc).1
    · rw [E04 25 (by decide)]; exact (d1 c hc).2
    · rw [E14 41 (by decide), a41 c hc, (d1 c hc).2]; exact (w2 c hc).symm
    · have b7 := w1.bt hb
      have r := d2 b hb
      have v := w3 b b7
      rw [E04 26 (by decide), E14 42 (by decide), E14 43 (by decide), E04 27 (by decide), E04 28 (by decide), E04 29 (by decide), E04 30 (by decide), E04 31 (by decide), a42 b b7, a43 b b7]
      refine ⟨r.1, r.2.1.trans v.1, r.2.2.1.trans v.2.1, r.2.1, r.2.2.1, r.2.2.2.1, r.2.2.2.2.1, r.2.2.2.2.2, ?_, ?_, ?_⟩
      · rw [E4 44 (by decide), E3 44 (by decide), E2 44 (by decide), f1 b b7]; exact v.2.2.1.symm
      · rw [E4 46 (by decide), f3 b b7]; exact v.2.2.2.1.symm
      · rw [E4 45 (by decide), E3 45 (by decide), f2 b b7]; exact v.2.2.2.2.symm
    · rw [E04 32 (by decide)]; exact (d3 k hk).1
    · rw [E04 33 (by decide)]; exact (d3 k hk).2
    · rw [f4 k hk]; exact (w4.2 k hk).symm
  exact c_begL (d := d) w1 w4.2 (fun α' E' R' => h α' (E04.tr (E'.wk (by decide))) R') (bsN s.1) 0 α4 (Nat.zero_add _) Fα.rf R
theorem ry_ok {T : Nat → Int} {N : Nat} {ρ : Nat → Int} (hN : N ≤ 1000) (hρ : ∀ j, j < 320 → ρ j = sa0 j) (h : (ryR T N ρ).1 = 0) : SW (ryR T N ρ).2 ∧ (ryR T N ρ).2.2.2.1.2.2 ≤ 1000 := by
  unfold ryR at h ⊢
  by_cases b : byF T N = 0
  · rw [if_pos b] at h ⊢
    have io := iS_ok hρ b
    exact by_ok hN 1001 4 (iS T N ρ) (by clear h b io; omega) io.1 io.2 (Nat.zero_le _) h
  · rw [if_neg b] at h
    exact absurd h b
def SYc : List (Nat × Nat) := [(1, 1), (1, 2), (1, 3), (1, 4), (1, 5), (3, 4), (3, 5), (3, 6), (3, 7), (3, 8), (3, 9), (4, 0), (4, 1), (4, 2), (4, 3), (4, 4), (15, 2), (18, 2)]
def SYd : List (Nat × Nat) := SYc ++ [(23, 0), (23, 1), (23, 2), (23, 3), (23, 4), (34, 2), (37, 2), (40, 1), (49, 0), (57, 0), (65, 0), (73, 0)]
def AYd : List Nat := AB ++ [24, 25, 26, 27, 28, 29, 30, 31, 32, 33, 35, 38, 41, 42, 43, 44, 45, 46, 47, 82]
theorem c_bay {X : mXX} {d : Nat} {Q : Option mV → mS → Prop} {σ α : Nat → Nat → Int} {T : Nat → Int} {N : Nat} {ρ : Nat → Int} (hT : α 2 = T) (ok : okT T N) (e11 : σ 1 1 = (N : Int)) (hρ : ∀ j, j < 320 → ρ j = sa0 j) (h1 : (ryR T N ρ).1 = 0 → ∀ σ' α', Fσ SYd σ σ' → Fα AYd α α' → σ' 1 1 = 0 → (σ' 49 0 = 0 ∧ σ' 57 0 = 0 ∧ σ' 65 0 = 0 ∧ σ' 73 0 = 0) → CI σ' α' (bgN (ryR T N ρ).2.1 (bsN (ryR T N ρ).2.1)) (ryR T N ρ).2.2.1.1 (ryR T N ρ).2.2.1.2 → Q (some (vI 0)) (S0, σ', α')) (h0 : (ryR T N ρ).1 ≠ 0 → ∀ σ' α', Fσ SYc σ σ' → Fα AB α α' → σ' 1 1 = 0 → Q (some (vI (ryR T N ρ).1)) (S0, σ', α')) : Ca X (d + 84) 100 [vR 0] (S0, σ, α) Q := by
  refine vc100_0 (c_read hT ok e11 hρ (fun z σ1 α1 F1 E1 D => vc100_7 ⟨fun _ => ?_, fun q => absurd rfl q⟩) (fun z σ1 α1 F1 E1 => vc100_7 ⟨fun q => absurd q z, fun _ => h0 z _ α1 ((F1.wk (by decide)).tr (Fσ.up (by decide))) E1 up_s⟩))
  have w := (ry_ok ok.1 hρ z).1
  have h2 := h1 z
  clear h1 h0
  generalize (ryR T N ρ).2 = s at *
  have D2 : DR T N (mUp σ1 1 1 0) α1 s := by
    obtain ⟨d0, d1, d2, d3, d4, d5, d6, d7⟩ := D
    refine ⟨?_, d1, d2, d3, ?_, ?_, ?_, ?_⟩
    · rw [up_n (by decide), up_n (by decide), up_n (by decide), up_n (by decide), up_n (by decide)]; exact d0
    · unfold LC; rw [up_n (by decide)]; exact d4
    · unfold LC; rw [up_n (by decide)]; exact d5
    · rw [up_n (by decide)]; exact d6
    · rw [up_n (by decide)]; exact d7
  refine c_bayTake D2 w (fun σ2 α2 F2 E2 B2 => vc100_36 (vc53_0 (c_fill82 (fun α3 E3 f3 => vc53_8 (vc100_43 ?_)))))
  have B3 : BT σ2 α3 s := by
    unfold BT
    rw [E3 24 (by decide), E3 25 (by decide), E3 26 (by decide), E3 27 (by decide), E3 28 (by decide), E3 29 (by decide), E3 30 (by decide), E3 31 (by decide), E3 32 (by decide), E3 33 (by decide), E3 35 (by decide), E3 38 (by decide)]
    exact B2
  refine c_begin B3 w (fun α4 E4 R4 => vc100_54 ?_)
  have F02 : Fσ SYd σ σ2 := ((F1.wk (by decide)).tr (Fσ.up (by decide))).tr (F2.wk (by decide))
  have G : Fσ [(49, 0), (57, 0), (65, 0), (73, 0)] (mUp σ2 40 1 0) (mUp (mUp (mUp (mUp (mUp σ2 40 1 0) 49 0 0) 57 0 0) 65 0 0) 73 0 0) := (((Fσ.up (by decide)).tr (Fσ.up (by decide))).tr (Fσ.up (by decide))).tr (Fσ.up (by decide))
  have e1 : mUp (mUp (mUp (mUp (mUp σ2 40 1 0) 49 0 0) 57 0 0) 65 0 0) 73 0 0 49 0 = 0 := by rw [up_n (by decide), up_n (by decide), up_n (by decide), up_s]
  have e2 : mUp (mUp (mUp (mUp (mUp σ2 40 1 0) 49 0 0) 57 0 0) 65 0 0) 73 0 0 57 0 = 0 := by rw [up_n (by decide), up_n (by decide), up_s]
  have e3 : mUp (mUp (mUp (mUp (mUp σ2 40 1 0) 49 0 0) 57 0 0) 65 0 0) 73 0 0 65 0 = 0 := by rw [up_n (by decide), up_s]
  have e4 : mUp (mUp (mUp (mUp (mUp σ2 40 1 0) 49 0 0) 57 0 0) 65 0 0) 73 0 0 73 0 = 0 := up_s
  generalize mUp (mUp (mUp (mUp (mUp σ2 40 1 0) 49 0 0) 57 0 0) 65 0 0) 73 0 0 = σ5 at *
  have s5 : ∀ a k, (a, k) ∉ [(49, 0), (57, 0), (65, 0), (73, 0)] → (a, k) ≠ (40, 1) → σ5 a k = σ2 a k := fun a k p q => by
    rw [G a k p, up_n (fun e => q (by rw [e.1, e.2]))]
  refine h2 σ5 α4 ((F02.tr (Fσ.up (by decide))).tr (G.wk (by decide))) ((((E1.wk (by decide)).tr (E2.wk (by decide))).tr (E3.wk (by decide))).tr (E4.wk (by decide))) ?_ ⟨e1, e2, e3, e4⟩ ?_
  · rw [s5 1 1 (by decide) (by decide), F2 1 1 (by decide), up_s]
  · refine ⟨R4.sg (fun k => G 23 k (by simp)) (G 40 1 (by decide)), ?_, ?_, fun c hc => Or.inl ?_⟩
    · rw [E4 35 (by decide), s5 34 2 (by decide) (by decide)]; exact B3.2.2.2.2.1
    · rw [E4 38 (by decide), s5 37 2 (by decide) (by decide)]; exact B3.2.2.2.2.2
    · rw [E4 82 (by decide)]; exact f3 c hc
