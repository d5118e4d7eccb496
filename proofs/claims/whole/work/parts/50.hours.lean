/-! An hour passes -/
theorem lwM.st {α α' : Nat → Nat → Int} {k : Nat} {v : Int} {P : List (Int × Int)} (l : lwM α k v P) (e : α' 110 k = α 110 k) (e1 : α' 111 = α 111) (e2 : α' 112 = α 112) : lwM α' k v P := by unfold lwM; rw [e, e1, e2]; exact l
theorem nps1 {f s : Int} (h1 : f ≤ s) (h2 : ¬ f < s) : f = min (f + 1) s := by omega
theorem nps2 {f s : Int} (h0 : 0 ≤ f) (h1 : f < s) (h2 : s ≤ 99) : wr (f + 1) = min (f + 1) s := by rw [wr_of (by omega) (by omega)]; omega
theorem nhr {h : Int} (h0 : 0 ≤ h) (h1 : h < 100000) : wr (h + 1) = h + 1 := wr_of (by omega) (by omega)
theorem m_ps2 {X : mXX} {d : Nat} {Q : Option mV → mS → Prop} {σ α : Nat → Nat → Int} {ρ : Nat → Int} {s : FS} {n : Nat} (w : WF ρ) (B : FB ρ s) (hn : (ρ 2).toNat = n) (h3 : ρ 3 < 100000) (hQ : ∀ α', Fα [110, 115, 116, 118, 119, 120, 121] α α' → α' 110 = enR ρ s → Q none (S0, σ, α')) : ∀ (m c : Nat) (γ : Nat → Nat → Int) (x2 : Option mV), c + m = 64 → Fα [110, 115, 116, 118, 119, 120, 121] α γ → (∀ i, i < 64 → γ 120 i = s.1 i) → γ 110 = enG ρ s n c → Go X (d + 6) 183 79 [some (vR 104), some (vI (c : Int)), x2] [] (S0, σ, γ) (0, 0) Q := by
  intro m
  induction m with
  | zero =>
    intro c γ x2 hc hf F e
    have ec : c = 64 := hc
    subst ec
    have e3 : γ 110 3 = ρ 3 := by rw [e]; exact enG_o (by omega) (by omega)
    refine vc183_79 ⟨fun _ => ?_, fun q => absurd q (by decide)⟩
    rw [e3, nhr w.2.2.2.1.1 h3]
    refine hQ _ (hf.tr (Fα.up (by decide))) ?_
    rw [up_f, e, ← hn]
    rfl
  | succ m ih =>
    intro c γ x2 hc hf F e
    have c6 : c < 64 := by omega
    have cl : (c : Int) < 64 := by omega
    have ek := wrS (k := c) (by omega)
    have cm : c + 1 + m = 64 := by omega
    have i1 : mInA ((11 + 3 * c : Nat) : Int) 2240 := mInA_n (by omega)
    have i2 : mInA ((12 + 3 * c : Nat) : Int) 2240 := mInA_n (by omega)
    have e1 : γ 110 (11 + 3 * c) = ρ (11 + 3 * c) := by rw [e]; exact enG_o (by omega) (by omega)
    have nx : ∀ (v : Int) (x2 : Option mV), v = min (s.1 c + 1) (ρ (11 + 3 * c)) → Go X (d + 6) 183 79 [some (vR 104), some (vI ((c + 1 : Nat) : Int)), x2] [] (S0, σ, mUp γ 110 (12 + 3 * c) v) (0, 0) Q := by
      intro v x2 hv
      refine ih (c + 1) _ x2 cm (hf.tr (Fα.up (by decide))) (by rw [up_o (by decide)]; exact F) ?_
      rw [up_f, e]
      funext j
      rw [enG_c c6]
      by_cases h : j = 12 + 3 * c
      · rw [if_pos h, if_pos h]; exact hv
      · rw [if_neg h, if_neg h]
    have b1 := B.1 c c6
    have b2 := (w.c c6).2.2.2
    refine vc183_79 ⟨fun q => absurd cl q, fun _ => ⟨mInA_n c6, ?_⟩⟩
    rw [ixF1 c6, ixF2 c6]
    refine ⟨i1, ?_⟩
    rw [Int.toNat_natCast, Int.toNat_natCast, Int.toNat_natCast, ek, F c c6, e1]
    refine ⟨fun q => ⟨mInA_n c6, i2, nx _ _ (nps1 b1.2 q)⟩, fun q => ⟨mInA_n c6, i2, nx _ _ (nps2 b1.1 q b2)⟩⟩
theorem m_ps1 {X : mXX} {d : Nat} {Q : Option mV → mS → Prop} {σ α : Nat → Nat → Int} {ρ : Nat → Int} {s : FS} {n : Nat} (w : WF ρ) (B : FB ρ s) (hn : (ρ 2).toNat = n) (h3 : ρ 3 < 100000) (hQ : ∀ α', Fα [110, 115, 116, 118, 119, 120, 121] α α' → α' 110 = enR ρ s → Q none (S0, σ, α')) : ∀ (m b : Nat) (γ : Nat → Nat → Int), b + m = n → Fα [110, 115, 116, 118, 119, 120, 121] α γ → (∀ i, i < 64 → γ 120 i = s.1 i) → (∀ i : Nat, (i : Int) < ρ 2 → γ 121 i = s.2 i) → γ 110 = enG ρ s b 0 → Go X (d + 6) 183 24 [some (vR 104), some (vI (b : Int)), none] [] (S0, σ, γ) (0, 0) Q := by
  have w2 := w.2.2.1
  intro m
  induction m with
  | zero =>
    intro b γ hb hf F1 F2 e
    have eb : b = n := hb
    subst eb
    have e2 : γ 110 2 = ρ 2 := by rw [e]; exact enG_o (by omega) (by omega)
    have nb : ¬ (b : Int) < ρ 2 := by omega
    refine vc183_24 ?_
    refine vc159_0 ?_
    rw [e2]
    refine vc183_29 ⟨fun _ => ?_, fun q => absurd q nb⟩
    exact m_ps2 w B hn h3 hQ 64 0 γ none (Nat.zero_add _) hf F1 e
  | succ m ih =>
    intro b γ hb hf F1 F2 e
    have hb2 : (b : Int) < ρ 2 := by omega
    have b7 := w.m7 hb2
    have ek := wrS (k := b) (by omega)
    have bm : b + 1 + m = n := by omega
    have e2 : γ 110 2 = ρ 2 := by rw [e]; exact enG_o (by omega) (by omega)
    have i8 : mInA ((210 + 12 * b : Nat) : Int) 2240 := mInA_n (by omega)
    have i10 : mInA ((212 + 12 * b : Nat) : Int) 2240 := mInA_n (by omega)
    refine vc183_24 ?_
    refine vc159_0 ?_
    rw [e2]
    refine vc183_29 ⟨fun q => absurd hb2 q, fun _ => ⟨mInA_n b7, ?_⟩⟩
    rw [ixB8 b7, ixB10 b7]
    refine ⟨i8, i10, ?_⟩
    rw [Int.toNat_natCast, Int.toNat_natCast, Int.toNat_natCast, ek, F2 b hb2]
    refine ih (b + 1) _ bm (hf.tr ((Fα.up (by decide)).tr (Fα.up (by decide)))) (by rw [up_o (by decide), up_o (by decide)]; exact F1) (by rw [up_o (by decide), up_o (by decide)]; exact F2) ?_
    rw [up_f, up_f, e]
    funext j
    rw [enG_b]
theorem m_passes {X : mXX} {d : Nat} {Q : Option mV → mS → Prop} {σ α : Nat → Nat → Int} {P : List (Int × Int)} (w : WF (α 110)) (l : lwM α 6 10 P) (o : lwO 3 P) (h3 : α 110 3 < 100000) (hQ : ∀ α', Fα [110, 115, 116, 118, 119, 120, 121] α α' → α' 110 = passR (α 110) P → Q none (S0, σ, α')) : Ca X (d + 7) 183 [vR 104] (S0, σ, α) Q := by
  have w2 := w.2.2.1
  have hz : wr (α 110 2 - 1) = ((0 + (α 110 2).toNat : Nat) : Int) - 1 := by rw [wr_of (by omega) (by omega)]; omega
  have n0 := n_z w2.1
  refine vc183_0 ?_
  refine m_goesAll w ?_
  intro β hb eb
  refine vc183_4 ?_
  have wb : WF (β 110) := by rw [eb]; exact go_wf w w.n7
  have lb : lwM β 6 10 P := l.st (by rw [eb]; exact goR_o (fun z => absurd z.1 (by decide))) (hb 111 (by decide)) (hb 112 (by decide))
  refine m_tearsAll wb lb o ?_
  intro γ hg eg
  have eg' : γ 110 = psR (α 110) P := by rw [eg, eb]; rfl
  have wg : WF (γ 110) := by rw [eg']; exact ps_wf w
  have g2 : γ 110 2 = α 110 2 := by rw [eg']; exact ps_2.1
  refine vc183_8 ?_
  refine vc159_0 ?_
  rw [g2]
  refine vc183_14 ?_
  rw [hz]
  refine m_catches (a := 0) (n := (α 110 2).toNat) wg (by rw [g2, n0]; exact Int.le_refl _) rfl (in0 wg (by rw [g2, n0]; exact Int.le_refl _)) ?_
  intro δ hd F
  refine vc183_21 ?_
  have ed : δ 110 = psR (α 110) P := (hd 110 (by decide)).trans eg'
  rw [eg'] at F
  have hfr : Fα [110, 115, 116, 118, 119, 120, 121] α δ := ((hb.wk (by decide)).tr (hg.wk (by decide))).tr (hd.wk (by decide))
  exact m_ps1 (ρ := psR (α 110) P) (s := ctF (psR (α 110) P) 0 (α 110 2).toNat 0 0) (α := α) (n := (α 110 2).toNat) (ps_wf w) (ps_fb w) (by rw [ps_2.1]) (by rw [ps_2.2]; exact h3) hQ (α 110 2).toNat 0 δ (Nat.zero_add _) hfr F.1 F.2 (by rw [ed, enG_0])
/-- many hours -/
def hrR (ρ : Nat → Int) (P : List (Int × Int)) : Nat → Nat → Int
  | 0 => ρ
  | n + 1 => passR (hrR ρ P n) P
theorem hr_all {ρ : Nat → Int} {P : List (Int × Int)} (w : WF ρ) : ∀ {n : Nat}, ρ 3 + n ≤ 100000 → WF (hrR ρ P n) ∧ tld ρ (hrR ρ P n) ∧ hrR ρ P n 3 = ρ 3 + n
  | 0, _ => ⟨w, tld.rf, by show ρ 3 = ρ 3 + ((0 : Nat) : Int); omega⟩
  | n + 1, h => by
    have ih := hr_all (P := P) w (n := n) (by omega)
    refine ⟨pass_wf ih.1 (by rw [ih.2.2]; omega), ih.2.1.tr (pass_tld ih.1), ?_⟩
    show passR (hrR ρ P n) P 3 = _
    rw [pass_3, ih.2.2]; omega
def wiR (v a b : Int) : Int := if v < a then 0 else if b < v then 0 else 1
theorem m_within {X : mXX} {d : Nat} {Q : Option mV → mS → Prop} {σ α : Nat → Nat → Int} {v a b : Int} (h : Q (some (vI (wiR v a b))) (S0, σ, α)) : Ca X (d + 1) 175 [vI v, vI a, vI b] (S0, σ, α) Q := by
  refine vc175_0 ?_
  unfold wiR at h
  refine ⟨fun q => ?_, fun q => ⟨fun q2 => ?_, fun q2 => ?_⟩⟩
  · rw [if_pos q] at h; exact h
  · rw [if_neg q, if_pos q2] at h; exact h
  · rw [if_neg q, if_neg q2] at h; exact h
theorem wi1 {v a b : Int} (h : a ≤ v ∧ v ≤ b) : wiR v a b = 1 := by unfold wiR; rw [if_neg (by omega), if_neg (by omega)]
theorem wi0 {v a b : Int} (h : ¬ (a ≤ v ∧ v ≤ b)) : wiR v a b = 0 := by
  unfold wiR
  by_cases q : v < a
  · rw [if_pos q]
  · rw [if_neg q, if_pos (by omega)]
