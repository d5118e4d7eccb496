theorem tg_0 {ρ : Nat → Int} : ∀ k, tgT ρ k 0 = 0
  | 0 => rfl
  | k + 1 => by
    show (if 0 = k + 1 then mxR ρ (tgT ρ k) (k + 1) (k + 1) else tgT ρ k 0) = 0
    rw [if_neg (by omega)]; exact tg_0 k
theorem nm1 {A B v : Int} (h : ¬ max A B < v) : max A B = max A (max B v) := by omega
theorem nm2 {A B v : Int} (h : max A B < v) : v = max A (max B v) := by omega
theorem nm3 {A B c : Int} (h : 0 ≤ c) : max A (max B (A + c)) = max B (A + c) := by omega
theorem m_fa2 {X : mXX} {d : Nat} {Q : Option mV → mS → Prop} {σ α : Nat → Nat → Int} {ρ : Nat → Int} {b : Int} {k : Nat} (er : α 110 = ρ) (w : WF ρ) (hk : ((k + 1 : Nat) : Int) ≤ ρ 2) (hQ : ∀ γ x3 x4, Fα [120, 121, 124] α γ → (∀ j, j ≤ k + 1 → γ 124 j = tgT ρ (k + 1) j) → Go X (d + 5) 215 17 [some (vR 104), some (vI b), some (vI (wr ((k : Int) + 1))), x3, x4] [] (S0, σ, γ) (0, 0) Q) : ∀ (m i : Nat) (γ : Nat → Nat → Int) (x4 : Option mV), i + m = k + 1 → Fα [120, 121, 124] α γ → (∀ j, j ≤ k → γ 124 j = tgT ρ k j) → γ 124 (k + 1) = max (tgT ρ k k) (mxR ρ (tgT ρ k) (k + 1) i) → Go X (d + 5) 215 41 [some (vR 104), some (vI b), some (vI (k : Int)), some (vI (i : Int)), x4] [] (S0, σ, γ) (0, 0) Q := by
  intro m
  induction m with
  | zero =>
    intro i γ x4 hi hf h1 h2
    have e : i = k + 1 := hi
    subst e
    have kl : (k : Int) < ((k + 1 : Nat) : Int) := by omega
    have hz : ((k + (k + 1 - k) : Nat) : Int) ≤ ρ 2 := by omega
    have cb := ct_bd w hz
    refine vc215_41 ⟨fun _ => hQ γ _ _ hf (fun j hj => ?_), fun q => absurd kl q⟩
    show _ = if j = k + 1 then _ else _
    by_cases h : j = k + 1
    · rw [if_pos h, h, h2]
      exact nm3 cb.1
    · rw [if_neg h]; exact h1 j (by omega)
  | succ m ih =>
    intro i γ x4 hi hf h1 h2
    have ik : i < k + 1 := by omega
    have il : ¬ (k : Int) < (i : Int) := by omega
    have ik' : i ≤ k := by omega
    have im : i + 1 + m = k + 1 := by omega
    have k8 : k + 1 < 8 := by have := w.2.2.1.2; omega
    have k7 : k + 1 ≤ 7 := by omega
    have i8 : i < 8 := by omega
    have ki : (k : Int) ≤ ρ 2 := by omega
    have ek := wrS (k := i) (by omega)
    have ekk := wrS (k := k) (by omega)
    have hz : ((i + (k + 1 - i) : Nat) : Int) ≤ ρ 2 := by omega
    have ez : (k : Int) = ((i + (k + 1 - i) : Nat) : Int) - 1 := by omega
    have tb := tg_bd w ki i ik'
    have cb := ct_bd w hz
    have eg : γ 110 = ρ := (hf 110 (by decide)).trans er
    refine vc215_41 ⟨fun q => absurd q il, fun _ => ⟨mInA_n i8, ?_⟩⟩
    rw [Int.toNat_natCast, h1 i ik']
    refine m_catches (by rw [eg]; exact w) (by rw [eg]; exact hz) ez (by rw [eg]; exact in0 w hz) ?_
    intro δ hd _
    rw [eg]
    have e9 : δ 124 = γ 124 := hd 124 (by decide)
    refine vc215_60 ?_
    rw [ekk]
    refine ⟨mInA_n k8, ?_⟩
    rw [Int.toNat_natCast, ek, nfa tb cb ik k7, e9, h2]
    have nx : ∀ (v : Int) (y4 : Option mV), v = max (tgT ρ k k) (mxR ρ (tgT ρ k) (k + 1) (i + 1)) → Go X (d + 5) 215 41 [some (vR 104), some (vI b), some (vI (k : Int)), some (vI ((i + 1 : Nat) : Int)), y4] [] (S0, σ, mUp δ 124 (k + 1) v) (0, 0) Q := by
      intro v y4 hv
      refine ih (i + 1) _ y4 im ((hf.tr (hd.wk (by decide))).tr (Fα.up (by decide))) (fun j hj => ?_) (by rw [up_s]; exact hv)
      rw [up_a, if_neg (by omega), e9]; exact h1 j hj
    refine ⟨fun q => ⟨mInA_n k8, mInA_n k8, nx _ _ (nm1 q)⟩, fun q => ⟨mInA_n k8, nx _ _ (nm2 q)⟩⟩
theorem m_fair {X : mXX} {d : Nat} {Q : Option mV → mS → Prop} {σ α : Nat → Nat → Int} {b : Int} (w : WF (α 110)) (l0 : α 124 0 = 0) (hQ : ∀ α', Fα [120, 121, 124] α α' → α' 124 0 = 0 → Q (some (vI (faR (α 110) b))) (S0, mUp σ 104 0 0, α')) : Ca X (d + 6) 215 [vR 104, vI b] (S0, σ, α) Q := by
  have w2 := w.2.2.1
  refine vc215_0 ?_
  refine m_isBoat ?_
  unfold faR at hQ
  by_cases hb : 0 ≤ b ∧ b < α 110 2
  · rw [if_pos hb] at hQ
    rw [show hbR (α 110) b = 1 from if_pos hb]
    obtain ⟨n, hn⟩ := Int.eq_ofNat_of_zero_le hb.1
    subst hn
    rw [Int.toNat_natCast] at hQ
    obtain ⟨N, hN⟩ : ∃ N : Nat, (α 110 2).toNat = N := ⟨_, rfl⟩
    have hN' : α 110 2 = (N : Int) := by omega
    rw [hN] at hQ
    have n7 : N ≤ 7 := by omega
    have nN : n < N := by omega
    refine vc215_10 ⟨fun _ => ?_, fun q => absurd q (by decide)⟩
    have fin : ∀ (γ : Nat → Nat → Int) (x3 x4 : Option mV), Fα [120, 121, 124] α γ → (∀ j, j ≤ N → γ 124 j = tgT (α 110) N j) → Go X (d + 5) 215 17 [some (vR 104), some (vI (n : Int)), some (vI (N : Int)), x3, x4] [] (S0, mUp σ 104 0 0, γ) (0, 0) Q := by
      intro γ x3 x4 hf h1
      have hz : ((0 + N : Nat) : Int) ≤ α 110 2 := by omega
      have ez : wr ((N : Int) - 1) = ((0 + N : Nat) : Int) - 1 := by rw [wr_of (by omega) (by omega)]; omega
      have lt : ¬ (N : Int) < (N : Int) := by omega
      have N8 : N < 8 := by omega
      have n8 : n < 8 := by omega
      have n18 : n + 1 < 8 := by omega
      have nn1 : n + 1 ≤ N := by omega
      have nn0 : n ≤ N := by omega
      have n17 : n + 1 ≤ 7 := by omega
      have n07 : n ≤ 7 := by omega
      have ek := wrS (k := n) (by omega)
      have hNle : (N : Int) ≤ α 110 2 := by omega
      have t1 := tg_bd w hNle (n + 1) nn1
      have t0 := tg_bd w hNle n nn0
      have eg : γ 110 = α 110 := hf 110 (by decide)
      refine vc215_17 ?_
      refine vc159_0 ?_
      rw [eg, hN']
      refine vc215_22 ⟨fun _ => ?_, fun q => absurd q lt⟩
      refine vc159_0 ?_
      rw [eg, hN']
      refine vc215_117 ⟨mInA_n N8, ?_⟩
      rw [Int.toNat_natCast, h1 N (Nat.le_refl _)]
      refine vc159_0 ?_
      rw [eg, hN']
      refine vc215_124 ?_
      rw [ez]
      refine m_catches (a := 0) (n := N) (by rw [eg]; exact w) (by rw [eg]; exact hz) rfl (by rw [eg]; exact in0 w hz) ?_
      intro δ hd _
      rw [eg]
      have e9 : δ 124 = γ 124 := hd 124 (by decide)
      have z := hQ δ (hf.tr (hd.wk (by decide))) (by rw [e9, h1 0 (Nat.zero_le _)]; exact tg_0 N)
      refine vc215_131 ⟨fun q => ?_, fun q => ?_⟩
      · rw [if_neg q] at z
        exact z
      · rw [if_pos q] at z
        rw [ek]
        refine ⟨mInA_n n18, mInA_n n8, ?_⟩
        rw [Int.toNat_natCast, Int.toNat_natCast, e9, h1 (n + 1) nn1, h1 n nn0, nfb t1 t0 n17 n07]
        exact z
    have key : ∀ (m k : Nat) (γ : Nat → Nat → Int) (x3 x4 : Option mV), k + m = N → Fα [120, 121, 124] α γ → (∀ j, j ≤ k → γ 124 j = tgT (α 110) k j) → Go X (d + 5) 215 17 [some (vR 104), some (vI (n : Int)), some (vI (k : Int)), x3, x4] [] (S0, mUp σ 104 0 0, γ) (0, 0) Q := by
      intro m
      induction m with
      | zero =>
        intro k γ x3 x4 hk hf h1
        have e : k = N := hk
        subst e
        exact fin γ x3 x4 hf h1
      | succ m ih =>
        intro k γ x3 x4 hk hf h1
        have kl : (k : Int) < (N : Int) := by omega
        have km : k + 1 + m = N := by omega
        have k8 : k + 1 < 8 := by omega
        have k08 : k < 8 := by omega
        have ki : (k : Int) ≤ α 110 2 := by omega
        have kz : ((k + 1 : Nat) : Int) ≤ α 110 2 := by omega
        have ek := wrS (k := k) (by omega)
        have tb := tg_bd w ki k (Nat.le_refl _)
        have eg : γ 110 = α 110 := hf 110 (by decide)
        refine vc215_17 ?_
        refine vc159_0 ?_
        rw [eg, hN']
        refine vc215_22 ⟨fun q => absurd kl q, fun _ => ⟨mInA_n k08, ?_⟩⟩
        rw [ek]
        refine ⟨mInA_n k8, ?_⟩
        rw [Int.toNat_natCast, Int.toNat_natCast, h1 k (Nat.le_refl _)]
        refine m_fa2 (α := α) rfl w kz (fun δ y3 y4 hd h2 => ?_) (k + 1) 0 _ x4 (Nat.zero_add _) (hf.tr (Fα.up (by decide))) (fun j hj => ?_) ?_
        · rw [ek]; exact ih (k + 1) δ y3 y4 km hd h2
        · rw [up_a, if_neg (by omega)]; exact h1 j hj
        · rw [up_s]; exact (Int.max_eq_left tb.1).symm
    refine key N 0 α none none (Nat.zero_add _) Fα.rf (fun j hj => ?_)
    have e : j = 0 := Nat.le_zero.mp hj
    subst e
    exact l0
  · rw [if_neg hb] at hQ
    rw [show hbR (α 110) b = 0 from if_neg hb]
    exact vc215_10 ⟨fun q => absurd rfl q, fun _ => hQ α Fα.rf l0⟩
