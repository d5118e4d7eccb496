/-! What a part catches, in the reference -/
theorem nsum {G h g N : Int} (hN : N ≤ 7) (h1 : g ≤ h) (h2 : h ≤ 99) (h3 : 0 ≤ g) (g2 : 0 ≤ G + (h - g) ∧ G + (h - g) ≤ 99 * N) : wr (G + wr (h - g)) = G + (h - g) := by
  rw [wr_of (x := h - g) (by omega) (by omega), wr_of (by omega) (by omega)]
theorem ixF2 {c : Nat} (h : c < 64) : wr (wr (10 + wr (3 * (c : Int))) + 2) = ((12 + 3 * c : Nat) : Int) := by
  rw [wr_of (x := 3 * (c : Int)) (by omega) (by omega), wr_of (x := 10 + 3 * (c : Int)) (by omega) (by omega), wr_of (by omega) (by omega)]; omega
theorem ixF1 {c : Nat} (h : c < 64) : wr (wr (10 + wr (3 * (c : Int))) + 1) = ((11 + 3 * c : Nat) : Int) := by
  rw [wr_of (x := 3 * (c : Int)) (by omega) (by omega), wr_of (x := 10 + 3 * (c : Int)) (by omega) (by omega), wr_of (by omega) (by omega)]; omega
theorem ixF0 {c : Nat} (h : c < 64) : wr (10 + wr (3 * (c : Int))) = ((10 + 3 * c : Nat) : Int) := by
  rw [wr_of (x := 3 * (c : Int)) (by omega) (by omega), wr_of (by omega) (by omega)]; omega
theorem m_ct5 {X : mXX} {d : Nat} {Q : Option mV → mS → Prop} {σ γ : Nat → Nat → Int} {ρ : Nat → Int} {s : FS} {a n : Nat} {dx dy z : Int} (er : γ 110 = ρ) (w : WF ρ) (B : FB ρ s) (F : MF γ ρ s) (hz : ((a + n : Nat) : Int) ≤ ρ 2) (ez : z = ((a + n : Nat) : Int) - 1) (hQ : Q (some (vI (gtR ρ s a n))) (S0, σ, γ)) : ∀ (m j : Nat), j + m = n → Go X (d + 4) 192 165 [some (vR 104), some (vI (a : Int)), some (vI z), some (vI dx), some (vI dy), some (vI (gtR ρ s a j)), some (vI ((a + j : Nat) : Int))] [] (S0, σ, γ) (0, 0) Q := by
  intro m
  induction m with
  | zero =>
    intro j hj
    have e : j = n := hj
    subst e
    exact vc192_165 ⟨fun _ => hQ, fun q => absurd (show z < ((a + j : Nat) : Int) by omega) q⟩
  | succ m ih =>
    intro j hj
    have hb : ((a + j : Nat) : Int) < ρ 2 := by omega
    have hz' : ((a + (j + 1) : Nat) : Int) ≤ ρ 2 := by omega
    have jz : ¬ z < ((a + j : Nat) : Int) := by omega
    have jm : j + 1 + m = n := by omega
    have b7 := w.m7 hb
    have jb : 0 ≤ ((a + j : Nat) : Int) ∧ ((a + j : Nat) : Int) < 7 := by omega
    have j7 : ((j + 1 : Nat) : Int) ≤ 7 := by omega
    have ek := wrT (a := a) (j := j) (by omega)
    have f2 := F.2 _ hb
    have g2 := gt_bd w B hz'
    have hc := B.2 _ hb
    have h9 := FB.h99 w hb
    have h0 := (w.b hb).2.2.2.2.2.2.2.2.1.1
    have es : gtR ρ s a (j + 1) = gtR ρ s a j + (s.2 (a + j) - ρ (210 + 12 * (a + j))) := rfl
    rw [es] at g2
    have i1 := ih (j + 1) jm
    rw [es] at i1
    refine vc192_165 ⟨fun q => absurd q jz, fun _ => ⟨mInA_n b7, ?_⟩⟩
    rw [Int.toNat_natCast, f2]
    refine m_of jb ?_
    rw [oo8, er]
    refine vc192_188 ?_
    rw [ek, nsum j7 hc.1 (Int.le_trans hc.2 h9.2) h0 g2]
    exact i1
theorem m_ct4 {X : mXX} {d : Nat} {Q : Option mV → mS → Prop} {σ α : Nat → Nat → Int} {ρ : Nat → Int} {s : FS} {a n : Nat} {dx dy z : Int} (er : α 110 = ρ) (w : WF ρ) (B : FB ρ s) (hz : ((a + n : Nat) : Int) ≤ ρ 2) (ez : z = ((a + n : Nat) : Int) - 1) (hi : inB ρ a n dx dy) (hQ : ∀ α', Fα [120, 121] α α' → MF α' ρ (sws ρ dx dy a s (n - 1)) → Q (some (vI (gtR ρ (sws ρ dx dy a s (n - 1)) a n))) (S0, σ, α')) (Bn : FB ρ (sws ρ dx dy a s (n - 1))) : ∀ (m j : Nat) (γ : Nat → Nat → Int), j + m = n - 1 → Fα [120, 121] α γ → MF γ ρ (sws ρ dx dy a s j) → Go X (d + 4) 192 129 [some (vR 104), some (vI (a : Int)), some (vI z), some (vI dx), some (vI dy), some (vI ((a + j : Nat) : Int)), none] [] (S0, σ, γ) (0, 0) Q := by
  intro m
  induction m with
  | zero =>
    intro j γ hj hf F
    have e : j = n - 1 := hj
    subst e
    refine vc192_129 ⟨fun _ => ?_, fun q => absurd q (by omega)⟩
    have k0 := m_ct5 (X := X) (d := d) (dx := dx) (dy := dy) ((hf 110 (by decide)).trans er) w Bn F hz ez (hQ γ hf F) n 0 (Nat.zero_add n)
    exact k0
  | succ m ih =>
    intro j γ hj hf F
    have hk1 : ((a + j + 1 : Nat) : Int) < ρ 2 := by omega
    have k7 := w.m7 hk1
    have ja : a ≤ a + j := by omega
    have jn : a + j + 1 < a + n := by omega
    have jm : j + 1 + m = n - 1 := by omega
    have jz : ((a + j : Nat) : Int) < z := by omega
    have jb : 0 ≤ ((a + j : Nat) : Int) ∧ ((a + j : Nat) : Int) < 6 := by omega
    have ek := wrT (a := a) (j := j) (by omega)
    have Bi := FB.ws w B (n := j) (by omega) (fun b b1 b2 => hi b b1 (by omega))
    have l := hi.ln (k := a + j) ja jn
    have eg : γ 110 = ρ := (hf 110 (by decide)).trans er
    have i1 := ih (j + 1)
    refine vc192_129 ⟨fun q => absurd jz q, fun _ => ?_⟩
    refine m_torn (by rw [eg]; exact w) jb ?_
    unfold tnR
    rw [eg, Int.toNat_natCast]
    unfold sws at i1
    refine vc192_141 ⟨fun q => ?_, fun q => ?_⟩
    · rw [if_neg q] at i1
      refine vc192_153 ?_
      rw [ek]
      exact i1 γ jm hf F
    · rw [if_pos q] at i1
      refine m_sweeps (by rw [eg]; exact w) (by rw [eg]; exact Bi) (by rw [eg]; exact F) (by rw [eg]; exact hk1) (by rw [eg]; exact l) ?_
      intro δ hd F2
      rw [eg] at F2
      refine vc192_153 ?_
      rw [ek]
      exact i1 δ jm (hf.tr hd) F2
theorem m_ct3 {X : mXX} {d : Nat} {Q : Option mV → mS → Prop} {σ α : Nat → Nat → Int} {ρ : Nat → Int} {a n : Nat} {dx dy z : Int} (er : α 110 = ρ) (w : WF ρ) (hz : ((a + n : Nat) : Int) ≤ ρ 2) (ez : z = ((a + n : Nat) : Int) - 1) (hi : inB ρ a n dx dy) (hQ : ∀ α', Fα [120, 121] α α' → MF α' ρ (ctF ρ a n dx dy) → Q (some (vI (ctR ρ a n dx dy))) (S0, σ, α')) : ∀ (m j : Nat) (γ : Nat → Nat → Int), j + m = n → Fα [120, 121] α γ → MF γ ρ (btF ρ dx dy a (fs0 ρ) j) → Go X (d + 4) 192 73 [some (vR 104), some (vI (a : Int)), some (vI z), some (vI dx), some (vI dy), some (vI ((a + j : Nat) : Int)), none] [] (S0, σ, γ) (0, 0) Q := by
  intro m
  induction m with
  | zero =>
    intro j γ hj hf F
    have e : j = n := hj
    subst e
    refine vc192_73 ⟨fun _ => ?_, fun q => absurd (show z < ((a + j : Nat) : Int) by omega) q⟩
    exact m_ct4 (s := btF ρ dx dy a (fs0 ρ) j) er w ((FB.f0 w).bt hz hi) hz ez hi hQ (FB.ct w hz hi) (j - 1) 0 γ (Nat.zero_add _) hf F
  | succ m ih =>
    intro j γ hj hf F
    have hb : ((a + j : Nat) : Int) < ρ 2 := by omega
    have b7 := w.m7 hb
    have ja : a ≤ a + j := by omega
    have jn : a + j < a + n := by omega
    have jm : j + 1 + m = n := by omega
    have jz : ¬ z < ((a + j : Nat) : Int) := by omega
    have jb : 0 ≤ ((a + j : Nat) : Int) ∧ ((a + j : Nat) : Int) < 7 := by omega
    have ek := wrT (a := a) (j := j) (by omega)
    have Bj : FB ρ (btF ρ dx dy a (fs0 ρ) j) := (FB.f0 w).bt (by omega) (fun b b1 b2 => hi b b1 (by omega))
    have inn := hi (a + j) ja jn
    have eg : γ 110 = ρ := (hf 110 (by decide)).trans er
    have i1 := ih (j + 1)
    refine vc192_73 ⟨fun q => absurd q jz, fun _ => ?_⟩
    refine m_of jb ?_
    rw [oo1, eg]
    refine vc192_89 ?_
    refine m_of jb ?_
    rw [oo2, eg]
    refine vc192_98 ?_
    refine m_of jb ?_
    rw [oo0, eg, n8 inn.1]
    refine vc192_108 ?_
    rw [n8 inn.2]
    unfold btF at i1
    refine ⟨fun q => ?_, fun q => ?_⟩
    · rw [if_neg q] at i1
      refine m_takes (by rw [eg]; exact w) (by rw [eg]; exact F) (by rw [eg]; exact Bj) (by rw [eg]; exact hb) inn.1 inn.2 (by decide) ?_
      intro δ hd F2
      rw [eg] at F2
      refine vc192_120 ?_
      rw [ek]
      exact i1 δ jm (hf.tr hd) F2
    · rw [if_pos q] at i1
      refine m_takes (by rw [eg]; exact w) (by rw [eg]; exact F) (by rw [eg]; exact Bj) (by rw [eg]; exact hb) inn.1 inn.2 (by decide) ?_
      intro δ hd F2
      rw [eg] at F2
      refine vc192_120 ?_
      rw [ek]
      exact i1 δ jm (hf.tr hd) F2
theorem m_ct2 {X : mXX} {d : Nat} {Q : Option mV → mS → Prop} {σ α : Nat → Nat → Int} {ρ : Nat → Int} {a n : Nat} {dx dy z : Int} (er : α 110 = ρ) (w : WF ρ) (hz : ((a + n : Nat) : Int) ≤ ρ 2) (ez : z = ((a + n : Nat) : Int) - 1) (hi : inB ρ a n dx dy) (hQ : ∀ α', Fα [120, 121] α α' → MF α' ρ (ctF ρ a n dx dy) → Q (some (vI (ctR ρ a n dx dy))) (S0, σ, α')) : ∀ (m j : Nat) (γ : Nat → Nat → Int), ((j + m : Nat) : Int) = ρ 2 → Fα [120, 121] α γ → (∀ c, c < 64 → γ 120 c = ρ (12 + 3 * c)) → (∀ b, b < j → γ 121 b = ρ (210 + 12 * b)) → Go X (d + 4) 192 40 [some (vR 104), some (vI (a : Int)), some (vI z), some (vI dx), some (vI dy), some (vI (j : Int)), none] [] (S0, σ, γ) (0, 0) Q := by
  intro m
  induction m with
  | zero =>
    intro j γ hj hf F1 F2
    have eg : γ 110 = ρ := (hf 110 (by decide)).trans er
    have nj : ¬ (j : Int) < ρ 2 := by omega
    have lj : ∀ b : Nat, (b : Int) < ρ 2 → b < j := fun b hb => by omega
    refine vc192_40 ?_
    refine vc159_0 ?_
    rw [eg]
    refine vc192_46 ⟨fun _ => ?_, fun q => absurd q nj⟩
    exact m_ct3 er w hz ez hi hQ n 0 γ (Nat.zero_add n) hf ⟨F1, fun b hb => F2 b (lj b hb)⟩
  | succ m ih =>
    intro j γ hj hf F1 F2
    have eg : γ 110 = ρ := (hf 110 (by decide)).trans er
    have hb : (j : Int) < ρ 2 := by omega
    have b7 := w.m7 hb
    have jb : 0 ≤ (j : Int) ∧ (j : Int) < 7 := by omega
    have ek := wrS (k := j) (by omega)
    have jm : ((j + 1 + m : Nat) : Int) = ρ 2 := by omega
    refine vc192_40 ?_
    refine vc159_0 ?_
    rw [eg]
    refine vc192_46 ⟨fun q => absurd hb q, fun _ => ?_⟩
    refine m_of jb ?_
    rw [oo8, eg]
    refine vc192_63 ⟨mInA_n b7, ?_⟩
    rw [Int.toNat_natCast, ek]
    refine ih (j + 1) _ jm (hf.tr (Fα.up (by decide))) (fun c hc => by rw [up_o (by decide)]; exact F1 c hc) (fun b hb => ?_)
    rw [up_a]
    by_cases h : b = j
    · rw [if_pos h, h]
    · rw [if_neg h]; exact F2 b (Nat.lt_of_le_of_ne (Nat.le_of_lt_succ hb) h)
theorem m_catches {X : mXX} {d : Nat} {Q : Option mV → mS → Prop} {σ α : Nat → Nat → Int} {a n : Nat} {dx dy z : Int} (w : WF (α 110)) (hz : ((a + n : Nat) : Int) ≤ α 110 2) (ez : z = ((a + n : Nat) : Int) - 1) (hi : inB (α 110) a n dx dy) (hQ : ∀ α', Fα [120, 121] α α' → MF α' (α 110) (ctF (α 110) a n dx dy) → Q (some (vI (ctR (α 110) a n dx dy))) (S0, σ, α')) : Ca X (d + 5) 192 [vR 104, vI (a : Int), vI z, vI dx, vI dy] (S0, σ, α) Q := by
  refine vc192_0 ?_
  have e2 : ((0 + (α 110 2).toNat : Nat) : Int) = α 110 2 := by have := w.2.2.1.1; omega
  have key : ∀ (m k : Nat) (γ : Nat → Nat → Int), k + m = 64 → Fα [120, 121] α γ → (∀ c, c < k → γ 120 c = α 110 (12 + 3 * c)) → Go X (d + 4) 192 3 [some (vR 104), some (vI (a : Int)), some (vI z), some (vI dx), some (vI dy), some (vI (k : Int)), none] [] (S0, σ, γ) (0, 0) Q := by
    intro m
    induction m with
    | zero =>
      intro k γ hk hf F
      have e : k = 64 := hk
      subst e
      refine vc192_3 ⟨fun _ => ?_, fun q => absurd q (by decide)⟩
      exact m_ct2 (ρ := α 110) rfl w hz ez hi hQ (α 110 2).toNat 0 γ e2 hf F (fun b hb => absurd hb (by omega))
    | succ m ih =>
      intro k γ hk hf F
      have k6 : k < 64 := by omega
      have ek := wrS (k := k) (by omega)
      have kl : (k : Int) < 64 := by omega
      have ki : 12 + 3 * k < 2240 := by omega
      have jm : k + 1 + m = 64 := by omega
      have eg : γ 110 = α 110 := hf 110 (by decide)
      refine vc192_3 ⟨fun q => absurd kl q, fun _ => ?_⟩
      rw [ixF2 k6]
      refine ⟨mInA_n ki, mInA_n k6, ?_⟩
      rw [Int.toNat_natCast, Int.toNat_natCast, ek, eg]
      refine ih (k + 1) _ jm (hf.tr (Fα.up (by decide))) (fun c hc => ?_)
      rw [up_a]
      by_cases h : c = k
      · rw [if_pos h, h]
      · rw [if_neg h]; exact F c (Nat.lt_of_le_of_ne (Nat.le_of_lt_succ hc) h)
  exact key 64 0 α rfl Fα.rf (fun c hc => absurd hc (by omega))
