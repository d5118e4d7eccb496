/-! What tears, in the reference -/
theorem m_tears2 {X : mXX} {d : Nat} {Q : Option mV → mS → Prop} {σ α : Nat → Nat → Int} {ρ F : Nat → Int} {L : Nat} (w : WF ρ) (h6 : L ≤ 6) (hL : (ρ 2).toNat - 1 = L) (hQ : ∀ α', Fα [110, 115, 116, 118, 119] α α' → α' 110 = trR ρ F L → Q none (S0, σ, α')) : ∀ (m k : Nat) (γ : Nat → Nat → Int), k + m = L → Fα [110, 115, 116, 118, 119] α γ → γ 110 = trR ρ F k → (∀ i, i < L → γ 119 i = if ρ (292 + 3 * i) = 0 ∧ wtR ρ F i = 1 then 1 else 0) → Go X (d + 5) 189 58 [some (vR 104), some (vI (k : Int))] [] (S0, σ, γ) (0, 0) Q := by
  intro m
  induction m with
  | zero =>
    intro k γ hk hg eg ht
    refine vc189_58 ?_
    refine m_links (by rw [eg]; exact tr_wf w (by omega)) ?_
    rw [eg, trR_o (by omega), hL]
    refine vc189_63 ⟨fun _ => hQ γ hg ?_, fun q => by omega⟩
    rw [eg, show k = L by omega]
  | succ m ih =>
    intro k γ hk hg eg ht
    refine vc189_58 ?_
    refine m_links (by rw [eg]; exact tr_wf w (by omega)) ?_
    rw [eg, trR_o (by omega), hL]
    have ei := ixL (k := k) (by omega)
    have ek : wr ((k : Int) + 1) = ((k + 1 : Nat) : Int) := by rw [wr_of (by omega) (by omega)]; omega
    refine vc189_63 ⟨fun q => by omega, fun _ => ⟨mInA_n (by omega), ?_⟩⟩
    rw [ei, ek, Int.toNat_natCast, Int.toNat_natCast, ht k (by omega), eg]
    have goN : ∀ v : Int, v = (if ρ (292 + 3 * k) = 0 ∧ wtR ρ F k = 1 then 1 else ρ (292 + 3 * k)) → Go X (d + 5) 189 58 [some (vR 104), some (vI ((k + 1 : Nat) : Int))] [] (S0, σ, mUp γ 110 (292 + 3 * k) v) (0, 0) Q := by
      intro v hv
      refine ih (k + 1) _ (by omega) (hg.tr (Fα.up (by decide))) ?_ (by rw [up_o (by decide)]; exact ht)
      rw [up_f, trR_s (k := 0), eg]
      funext j
      by_cases hj : j = 292 + 3 * k
      · rw [if_pos hj, if_pos hj, hj]; exact hv
      · rw [if_neg hj, if_neg hj]
    have i1 : mInA ((292 + 3 * k : Nat) : Int) 2240 := mInA_n (by omega)
    by_cases hc : ρ (292 + 3 * k) = 0 ∧ wtR ρ F k = 1
    · rw [if_pos hc]
      refine ⟨fun q => absurd q (by decide), fun _ => ⟨i1, goN 1 ?_⟩⟩
      rw [if_pos hc]
    · rw [if_neg hc]
      refine ⟨fun _ => ⟨i1, i1, goN _ ?_⟩, fun q => absurd rfl q⟩
      rw [if_neg hc]
      exact trR_n (by omega)
theorem m_tears1 {X : mXX} {d : Nat} {Q : Option mV → mS → Prop} {σ α : Nat → Nat → Int} {ρ F : Nat → Int} {L : Nat} (w : WF ρ) (h6 : L ≤ 6) (hL : (ρ 2).toNat - 1 = L) (FB : ∀ b : Nat, (b : Int) < ρ 2 → 0 ≤ F b ∧ F b ≤ 99) (hQ : ∀ α', Fα [110, 115, 116, 118, 119] α α' → α' 110 = trR ρ F L → Q none (S0, σ, α')) : ∀ (m k : Nat) (γ : Nat → Nat → Int), k + m = L → Fα [110, 115, 116, 118, 119] α γ → γ 110 = ρ → (∀ b : Nat, (b : Int) < ρ 2 → γ 118 b = F b) → (∀ i, i < k → γ 119 i = if ρ (292 + 3 * i) = 0 ∧ wtR ρ F i = 1 then 1 else 0) → Go X (d + 5) 189 15 [some (vR 104), some (vI (k : Int))] [] (S0, σ, γ) (0, 0) Q := by
  intro m
  induction m with
  | zero =>
    intro k γ hk hg eg e8 ht
    refine vc189_15 ?_
    refine m_links (by rw [eg]; exact w) ?_
    rw [eg, hL]
    refine vc189_20 ⟨fun _ => ?_, fun q => by omega⟩
    exact m_tears2 w h6 hL hQ L 0 γ (by omega) hg (by rw [eg, tr_0]) (fun i hi => ht i (by omega))
  | succ m ih =>
    intro k γ hk hg eg e8 ht
    have k6 : k < 6 := by omega
    have hk2 : (k : Int) + 1 < ρ 2 := by omega
    have ek : wr ((k : Int) + 1) = ((k + 1 : Nat) : Int) := by rw [wr_of (by omega) (by omega)]; omega
    have i1 : mInA (k : Int) 6 := mInA_n k6
    have goN : ∀ v : Int, v = (if ρ (292 + 3 * k) = 0 ∧ wtR ρ F k = 1 then 1 else 0) → Go X (d + 5) 189 15 [some (vR 104), some (vI ((k + 1 : Nat) : Int))] [] (S0, σ, mUp γ 119 k v) (0, 0) Q := by
      intro v hv
      refine ih (k + 1) _ (by omega) (hg.tr (Fα.up (by decide))) (by rw [up_o (by decide)]; exact eg) (by rw [up_o (by decide)]; exact e8) ?_
      intro i hi
      rw [up_a]
      by_cases hik : i = k
      · rw [if_pos hik, hik]; exact hv
      · rw [if_neg hik]; exact ht i (by omega)
    refine vc189_15 ?_
    refine m_links (by rw [eg]; exact w) ?_
    rw [eg, hL]
    refine vc189_20 ⟨fun q => by omega, fun _ => ?_⟩
    refine m_torn (k := (k : Int)) (by rw [eg]; exact w) ⟨by omega, by omega⟩ ?_
    unfold tnR
    rw [eg, Int.toNat_natCast]
    refine vc189_33 ⟨fun q => ⟨i1, ?_⟩, fun q => ?_⟩
    · rw [ek, Int.toNat_natCast]
      exact goN 0 (by rw [if_neg (fun z => q z.1)])
    · refine m_wouldTear (F := F) (k := k) (by rw [eg]; exact w) (by rw [eg]; exact hk2) (by rw [eg]; exact q) (by rw [eg]; exact FB) (by rw [eg]; exact e8) ?_
      rw [eg]
      refine vc189_41 ⟨fun q2 => ⟨i1, ?_⟩, fun q2 => ⟨i1, ?_⟩⟩
      · rw [ek, Int.toNat_natCast]
        exact goN 0 (by rw [if_neg (by omega)])
      · rw [ek, Int.toNat_natCast]
        refine goN 1 ?_
        rcases wt01 (ρ := ρ) (F := F) (k := k) with h | h
        · exact absurd h q2
        · rw [if_pos ⟨q, h⟩]
theorem m_tearsAll {X : mXX} {d : Nat} {Q : Option mV → mS → Prop} {σ α : Nat → Nat → Int} {P : List (Int × Int)} (w : WF (α 110)) (l : lwM α 6 10 P) (o : lwO 3 P) (hQ : ∀ α', Fα [110, 115, 116, 118, 119] α α' → α' 110 = tearR (α 110) P → Q none (S0, σ, α')) : Ca X (d + 6) 189 [vR 104] (S0, σ, α) Q := by
  have h7 := w.n
  refine vc189_0 ?_
  refine m_findForces w l o ⟨⟨by decide, by decide⟩, by decide, by decide⟩ ⟨by decide, by decide⟩ ?_
  intro β hf hb
  refine vc189_13 ?_
  exact m_tears1 (ρ := α 110) (F := fnR (α 110) P) (L := (α 110 2).toNat - 1) (α := α) w (by omega) rfl (fun b hb => fc_bd w hb) hQ ((α 110 2).toNat - 1) 0 β (by omega) (hf.wk (by decide)) (hf 110 (by decide)) hb (fun i hi => absurd hi (by omega))
