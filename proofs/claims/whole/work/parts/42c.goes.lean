theorem m_goes {X : mXX} {d : Nat} {Q : Option mV → mS → Prop} {σ α : Nat → Nat → Int} {ρ : Nat → Int} (w : WF ρ) (hQ : ∀ γ, Fα [110] α γ → γ 110 = goR ρ (ρ 2).toNat → Q none (S0, σ, γ)) : ∀ (m t : Nat) (γ : Nat → Nat → Int) (x2 x3 x4 : Option mV), (ρ 2).toNat ≤ t + m → (t : Int) ≤ ρ 2 → ((t : Int) = ρ 2 ∨ fsN ρ t = t) → Fα [110] α γ → γ 110 = goR ρ t → Go X (d + 5) 184 2 [some (vR 104), some (vI (t : Int)), x2, x3, x4] [] (S0, σ, γ) (0, 0) Q := by
  have w2 := w.2.2.1
  have h30 := w.2.2.2.1.1
  intro m
  induction m with
  | zero =>
    intro t γ x2 x3 x4 hm ht h1 hf e
    have e2 : γ 110 2 = ρ 2 := by rw [e]; exact goR_o (by clear h1; omega)
    have et : (ρ 2).toNat = t := by clear h1; omega
    have nt : ¬ (t : Int) < ρ 2 := by clear h1; omega
    refine vc184_2 ?_
    refine vc159_0 ?_
    rw [e2]
    exact vc184_7 ⟨fun _ => hQ γ hf (by rw [e, et]), fun q => absurd q nt⟩
  | succ m ih =>
    intro t γ x2 x3 x4 hm ht h1 hf e
    have e2 : γ 110 2 = ρ 2 := by rw [e]; exact goR_o (by clear h1; omega)
    refine vc184_2 ?_
    refine vc159_0 ?_
    rw [e2]
    by_cases hlt : (t : Int) < ρ 2
    · have hft : fsN ρ t = t := h1.resolve_left (Int.ne_of_lt hlt)
      have t7 := w.m7 hlt
      have p := prt_of hlt
      rw [hft] at p
      clear h1 hft
      generalize szR ρ t = n at p
      have p0 := p.1
      have p1 := p.2.1
      have t8 : t ≤ 7 := Nat.le_of_lt t7
      have tf : (ρ 2).toNat - 1 - t + t < 7 := by omega
      have tn : t < t + n := by omega
      have jb : 0 ≤ (t : Int) ∧ (t : Int) < 7 := by omega
      have j0 : 0 ≤ (t : Int) := jb.1
      have hm' : (ρ 2).toNat ≤ t + n + m := by omega
      have o1 : ∀ b, t ≤ b → ¬ (202 ≤ 203 + 12 * b ∧ (203 + 12 * b - 202) / 12 < t ∧ ((203 + 12 * b - 202) % 12 = 1 ∨ (203 + 12 * b - 202) % 12 = 2)) := fun b hb => by omega
      have o2 : ∀ b, t ≤ b → ¬ (202 ≤ 204 + 12 * b ∧ (204 + 12 * b - 202) / 12 < t ∧ ((204 + 12 * b - 202) % 12 = 1 ∨ (204 + 12 * b - 202) % 12 = 2)) := fun b hb => by omega
      have o0 : ∀ b, ¬ (202 ≤ 202 + 12 * b ∧ (202 + 12 * b - 202) / 12 < t ∧ ((202 + 12 * b - 202) % 12 = 1 ∨ (202 + 12 * b - 202) % 12 = 2)) := fun b => by omega
      have o10 : ¬ (202 ≤ 212 + 12 * t ∧ (212 + 12 * t - 202) / 12 < t ∧ ((212 + 12 * t - 202) % 12 = 1 ∨ (212 + 12 * t - 202) % 12 = 2)) := by omega
      have ek : wr (((t + n - 1 : Nat) : Int) + 1) = ((t + n : Nat) : Int) := by rw [wr_of (by omega) (by omega)]; omega
      have wm : WF (γ 110) := by rw [e]; exact go_wf w t8
      have hla : laR (γ 110) (t : Int) = ((t + n - 1 : Nat) : Int) := by
        unfold laR
        rw [Int.toNat_natCast, e2, e, go_la tf t8, p.la (Nat.le_refl _) tn]
      have hv : γ 110 (212 + 12 * t) = ρ (212 + 12 * t) := by rw [e]; exact goR_o o10
      have h3 : γ 110 3 = ρ 3 := by rw [e]; exact goR_o (fun z => absurd z.1 (by decide))
      have hc : cgR (γ 110) t n 0 0 (ρ (212 + 12 * t)) (ρ 3) = cgR ρ t n 0 0 (ρ (212 + 12 * t)) (ρ 3) := by
        rw [e]
        exact cg_cg (fun x y => (go_tld t8).wa w) (fun b b1 b2 => ⟨goR_o (o1 b b1), goR_o (o2 b b1)⟩) (fun b b1 b2 => goR_o (o0 b))
      refine vc184_7 ⟨fun q => absurd hlt q, fun _ => ?_⟩
      refine m_last wm (by rw [e2]; exact ⟨j0, hlt⟩) ?_
      rw [hla]
      refine vc184_15 ?_
      refine m_of jb ?_
      rw [oo10, hv]
      refine vc184_23 ?_
      rw [h3]
      refine m_canGo wm (by rw [e2]; exact p1) p0 (by decide) (by decide) h30 ?_
      rw [hc]
      refine vc184_39 ⟨fun q => ?_, fun q => ?_⟩
      · rw [ek]
        refine ih (t + n) γ _ _ _ hm' p1 p.nx hf ?_
        rw [e]
        refine (go_st (fun b b1 b2 => ?_)).symm
        have g := p.dg b1 b2
        rw [g.2.1, g.2.2, q]
        exact ⟨rfl, rfl⟩
      · have q1 := cg01.resolve_left q
        refine m_go1 (α := α) (ρ := ρ) w p1 (fun b b1 b2 => ?_) (fun δ x4 hd ed => ?_) n 0 γ (Nat.zero_add n) p0 hf e
        · have g := p.dg b1 b2
          rw [g.2.1, g.2.2, q1]
          exact ⟨rfl, rfl⟩
        · rw [ek]
          exact ih (t + n) δ _ _ _ hm' p1 p.nx hd ed
    · have et : (ρ 2).toNat = t := by clear h1; omega
      exact vc184_7 ⟨fun _ => hQ γ hf (by rw [e, et]), fun q => absurd q hlt⟩
theorem m_goesAll {X : mXX} {d : Nat} {Q : Option mV → mS → Prop} {σ α : Nat → Nat → Int} (w : WF (α 110)) (hQ : ∀ γ, Fα [110] α γ → γ 110 = goR (α 110) (α 110 2).toNat → Q none (S0, σ, γ)) : Ca X (d + 6) 184 [vR 104] (S0, σ, α) Q := by
  have w2 := w.2.2.1
  refine vc184_0 ?_
  exact m_goes (ρ := α 110) (α := α) w hQ (α 110 2).toNat 0 α none none none (by omega) w2.1 (Or.inr rfl) Fα.rf goR_0.symm
