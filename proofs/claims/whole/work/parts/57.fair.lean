/-! Fair shares -/
def mxR (ρ : Nat → Int) (T : Nat → Int) (k : Nat) : Nat → Int
  | 0 => 0
  | i + 1 => max (mxR ρ T k i) (T i + ctR ρ i (k - i) 0 0)
def tgT (ρ : Nat → Int) : Nat → Nat → Int
  | 0 => fun _ => 0
  | k + 1 => fun j => if j = k + 1 then mxR ρ (tgT ρ k) (k + 1) (k + 1) else tgT ρ k j
theorem ct_bd {ρ : Nat → Int} {a n : Nat} (w : WF ρ) (hz : ((a + n : Nat) : Int) ≤ ρ 2) : 0 ≤ ctR ρ a n 0 0 ∧ ctR ρ a n 0 0 ≤ 99 * (n : Int) := gt_bd w (FB.ct w hz (in0 w hz)) hz
theorem nmx {a t c : Int} {i k : Nat} (h1 : 0 ≤ a ∧ a ≤ 99 * (k : Int)) (h2 : 0 ≤ t ∧ t ≤ 99 * (i : Int)) (h3 : 0 ≤ c ∧ c ≤ 99 * ((k - i : Nat) : Int)) (hik : i < k) : 0 ≤ max a (t + c) ∧ max a (t + c) ≤ 99 * (k : Int) := by omega
theorem mx_bd {ρ T : Nat → Int} {k : Nat} (w : WF ρ) (hk : (k : Int) ≤ ρ 2) (hT : ∀ i, i < k → 0 ≤ T i ∧ T i ≤ 99 * (i : Int)) : ∀ {i : Nat}, i ≤ k → 0 ≤ mxR ρ T k i ∧ mxR ρ T k i ≤ 99 * (k : Int)
  | 0, _ => ⟨Int.le_refl _, by show (0 : Int) ≤ _; omega⟩
  | i + 1, h => by
    have ik : i < k := by omega
    have hz : ((i + (k - i) : Nat) : Int) ≤ ρ 2 := by omega
    exact nmx (mx_bd w hk hT (i := i) (Nat.le_of_lt ik)) (hT i ik) (ct_bd w hz) ik
theorem tg_bd {ρ : Nat → Int} (w : WF ρ) : ∀ {k : Nat}, (k : Int) ≤ ρ 2 → ∀ j, j ≤ k → 0 ≤ tgT ρ k j ∧ tgT ρ k j ≤ 99 * (j : Int)
  | 0, _, j, _ => ⟨Int.le_refl _, by show (0 : Int) ≤ _; omega⟩
  | k + 1, hk, j, hj => by
    have ih := tg_bd w (k := k) (by omega)
    show 0 ≤ (if j = k + 1 then mxR ρ (tgT ρ k) (k + 1) (k + 1) else tgT ρ k j) ∧ (if j = k + 1 then mxR ρ (tgT ρ k) (k + 1) (k + 1) else tgT ρ k j) ≤ 99 * (j : Int)
    by_cases h : j = k + 1
    · rw [if_pos h, h]
      exact mx_bd w hk (fun i hi => ih i (Nat.le_of_lt_succ hi)) (Nat.le_refl _)
    · rw [if_neg h]; exact ih j (by omega)
def faR (ρ : Nat → Int) (b : Int) : Int := if 0 ≤ b ∧ b < ρ 2 then (if tgT ρ (ρ 2).toNat (ρ 2).toNat = ctR ρ 0 (ρ 2).toNat 0 0 then tgT ρ (ρ 2).toNat (b.toNat + 1) - tgT ρ (ρ 2).toNat b.toNat else -1) else -1
theorem nfa {t c : Int} {i k : Nat} (h2 : 0 ≤ t ∧ t ≤ 99 * (i : Int)) (h3 : 0 ≤ c ∧ c ≤ 99 * ((k - i : Nat) : Int)) (hik : i < k) (hk : k ≤ 7) : wr (t + c) = t + c := wr_of (by omega) (by omega)
theorem nfb {t u : Int} {i j : Nat} (h2 : 0 ≤ t ∧ t ≤ 99 * (i : Int)) (h3 : 0 ≤ u ∧ u ≤ 99 * (j : Int)) (hi : i ≤ 7) (hj : j ≤ 7) : wr (t - u) = t - u := wr_of (by omega) (by omega)
theorem c_fa2 {X : mXX} {d : Nat} {Q : Option mV → mS → Prop} {σ α : Nat → Nat → Int} {ρ : Nat → Int} {b : Int} {k : Nat} (R : Rep σ α ρ) (w : WF ρ) (hk : ((k + 1 : Nat) : Int) ≤ ρ 2) (hQ : ∀ γ x3, Fα [87, 88, 89] α γ → (∀ j, j ≤ k + 1 → γ 89 j = tgT ρ (k + 1) j) → Go X (d + 3) 51 9 [some (vR 86), some (vI b), some (vI (wr (((k + 1 : Nat) : Int) + 1))), x3] [] (S0, σ, γ) (0, 0) Q) : ∀ (m i : Nat) (γ : Nat → Nat → Int), i + m = k + 1 → Fα [87, 88, 89] α γ → (∀ j, j ≤ k → γ 89 j = tgT ρ k j) → γ 89 (k + 1) = mxR ρ (tgT ρ k) (k + 1) i → Go X (d + 3) 51 29 [some (vR 86), some (vI b), some (vI ((k + 1 : Nat) : Int)), some (vI (i : Int))] [] (S0, σ, γ) (0, 0) Q := by
  intro m
  induction m with
  | zero =>
    intro i γ hi hf h1 h2
    have e : i = k + 1 := hi
    subst e
    refine vc51_29 ⟨fun _ => hQ γ _ hf (fun j hj => ?_), fun q => absurd q (by omega)⟩
    show _ = if j = k + 1 then _ else _
    by_cases h : j = k + 1
    · rw [if_pos h, h]; exact h2
    · rw [if_neg h]; exact h1 j (by omega)
  | succ m ih =>
    intro i γ hi hf h1 h2
    have ik : i < k + 1 := by omega
    have il : (i : Int) < ((k + 1 : Nat) : Int) := by omega
    have ik' : i ≤ k := by omega
    have im : i + 1 + m = k + 1 := by omega
    have k8 : k + 1 < 8 := by have := w.2.2.1.2; omega
    have k7 : k + 1 ≤ 7 := by omega
    have i8 : i < 8 := by omega
    have ki : (k : Int) ≤ ρ 2 := by omega
    have ek := wrS (k := i) (by omega)
    have hz : ((i + (k + 1 - i) : Nat) : Int) ≤ ρ 2 := by omega
    have ez : wr (((k + 1 : Nat) : Int) - 1) = ((i + (k + 1 - i) : Nat) : Int) - 1 := by rw [wr_of (by omega) (by omega)]; omega
    have tb := tg_bd w ki i ik'
    have cb := ct_bd w hz
    refine vc51_29 ⟨fun q => absurd il q, fun _ => ⟨mInA_n k8, mInA_n i8, ?_⟩⟩
    rw [Int.toNat_natCast, Int.toNat_natCast, h1 i ik', h2, ez]
    refine c_haul (R.fr (hf.wk (show ∀ q ∈ [87, 88, 89], q ∈ [87, 88, 89] by decide))) w hz rfl (in0 w hz) ?_
    intro δ hd _
    refine vc51_61 ⟨mInA_n k8, ?_⟩
    rw [Int.toNat_natCast, ek, nfa tb cb ik k7]
    have e9 : δ 89 = γ 89 := hd 89 (by decide)
    refine ih (i + 1) _ im ((hf.tr (hd.wk (by decide))).tr (Fα.up (by decide))) (fun j hj => ?_) (by rw [up_s]; rfl)
    rw [up_a, if_neg (by omega), e9]; exact h1 j hj
theorem c_fair {X : mXX} {d : Nat} {Q : Option mV → mS → Prop} {σ α : Nat → Nat → Int} {ρ : Nat → Int} {b : Int} (R : Rep σ α ρ) (w : WF ρ) (hQ : ∀ α', Fα [87, 88, 89] α α' → Q (some (vI (faR ρ b))) (S0, σ, α')) : Ca X (d + 5) 117 [vR 0, vI b] (S0, σ, α) Q := by
  have r2 := R.2.2.1
  have w2 := w.2.2.1
  refine vc117_0 ?_
  refine c_hasBoat r2 ?_
  unfold faR at hQ
  by_cases hb : 0 ≤ b ∧ b < ρ 2
  · rw [if_pos hb] at hQ
    rw [show hbR ρ b = 1 from if_pos hb]
    obtain ⟨n, hn⟩ := Int.eq_ofNat_of_zero_le hb.1
    subst hn
    rw [Int.toNat_natCast] at hQ
    obtain ⟨N, hN⟩ : ∃ N : Nat, (ρ 2).toNat = N := ⟨_, rfl⟩
    have hN' : ρ 2 = (N : Int) := by omega
    rw [hN] at hQ
    have n7 : N ≤ 7 := by omega
    have nN : n < N := by omega
    refine vc117_8 ⟨fun q => absurd q (by decide), fun _ => ?_⟩
    refine vc51_0 ?_
    have fin : ∀ (γ : Nat → Nat → Int) (x3 : Option mV), Fα [87, 88, 89] α γ → (∀ j, j ≤ N → γ 89 j = tgT ρ N j) → Go X (d + 3) 51 9 [some (vR 86), some (vI (n : Int)), some (vI ((N + 1 : Nat) : Int)), x3] [] (S0, σ, γ) (0, 0) (fun r s' => aI r (fun n_1 => Go X (d + 4) 117 19 [some (vR 0), some (vI (n : Int))] [vI n_1] s' (0, 0) Q)) := by
      intro γ x3 hf h1
      have hz : ((0 + N : Nat) : Int) ≤ ρ 2 := by omega
      have ez : wr ((N : Int) - 1) = ((0 + N : Nat) : Int) - 1 := by rw [wr_of (by omega) (by omega)]; omega
      have lt : (N : Int) < ((N + 1 : Nat) : Int) := by omega
      have N8 : N < 8 := by omega
      have n8 : n < 8 := by omega
      have n18 : n + 1 < 8 := by omega
      have nn1 : n + 1 ≤ N := by omega
      have nn0 : n ≤ N := by omega
      have n17 : n + 1 ≤ 7 := by omega
      have n07 : n ≤ 7 := by omega
      have ek := wrS (k := n) (by omega)
      have hNle : (N : Int) ≤ ρ 2 := by omega
      have t1 := tg_bd w hNle (n + 1) nn1
      have t0 := tg_bd w hNle n nn0
      refine vc51_9 ⟨fun _ => ?_, fun q => absurd (by rw [r2, hN']; exact lt) q⟩
      rw [r2, hN', ez]
      refine ⟨mInA_n N8, ?_⟩
      rw [Int.toNat_natCast, h1 N (Nat.le_refl _)]
      refine c_haul (R.fr (hf.wk (show ∀ q ∈ [87, 88, 89], q ∈ [87, 88, 89] by decide))) w hz rfl (in0 w hz) ?_
      intro δ hd _
      have e9 : δ 89 = γ 89 := hd 89 (by decide)
      have z := hQ δ (hf.tr (hd.wk (by decide)))
      refine vc51_106 ⟨fun q => ?_, fun q => ?_⟩
      · rw [if_neg q] at z
        exact vc117_19 z
      · rw [if_pos q] at z
        rw [ek]
        refine ⟨mInA_n n18, mInA_n n8, ?_⟩
        rw [Int.toNat_natCast, Int.toNat_natCast, e9, h1 (n + 1) nn1, h1 n nn0, nfb t1 t0 n17 n07]
        exact vc117_19 z
    have key : ∀ (m k : Nat) (γ : Nat → Nat → Int) (x3 : Option mV), k + m = N → Fα [87, 88, 89] α γ → (∀ j, j ≤ k → γ 89 j = tgT ρ k j) → Go X (d + 3) 51 9 [some (vR 86), some (vI (n : Int)), some (vI ((k + 1 : Nat) : Int)), x3] [] (S0, σ, γ) (0, 0) (fun r s' => aI r (fun n_1 => Go X (d + 4) 117 19 [some (vR 0), some (vI (n : Int))] [vI n_1] s' (0, 0) Q)) := by
      intro m
      induction m with
      | zero =>
        intro k γ x3 hk hf h1
        have e : k = N := hk
        subst e
        exact fin γ x3 hf h1
      | succ m ih =>
        intro k γ x3 hk hf h1
        have kl : ¬ ρ 2 < ((k + 1 : Nat) : Int) := by omega
        have km : k + 1 + m = N := by omega
        have k8 : k + 1 < 8 := by omega
        have kz : ((k + 1 : Nat) : Int) ≤ ρ 2 := by omega
        have ek := wrS (k := k + 1) (by omega)
        refine vc51_9 ⟨fun q => absurd q (by rw [r2]; exact kl), fun _ => ⟨mInA_n k8, ?_⟩⟩
        rw [Int.toNat_natCast]
        refine c_fa2 (α := α) R w kz (fun δ y3 hd h2 => ?_) (k + 1) 0 _ (Nat.zero_add _) (hf.tr (Fα.up (by decide))) (fun j hj => ?_) up_s
        · rw [ek]; exact ih (k + 1) δ y3 km hd h2
        · rw [up_a, if_neg (by omega)]; exact h1 j hj
    refine key N 0 _ none (Nat.zero_add _) (Fα.up (by decide)) (fun j hj => ?_)
    have e : j = 0 := Nat.le_zero.mp hj
    subst e
    exact up_s
  · rw [if_neg hb] at hQ
    rw [show hbR ρ b = 0 from if_neg hb]
    exact vc117_8 ⟨fun _ => hQ α Fα.rf, fun q => absurd rfl q⟩
