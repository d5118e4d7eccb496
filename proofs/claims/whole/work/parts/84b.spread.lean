theorem c_spread {X : mXX} {d : Nat} {Q : Option mV → mS → Prop} {σ γ : Nat → Nat → Int} {ρ : Nat → Int} {P W : List (Int × Int)} {a n h B c : Nat} {f : Int} {acc : LY} (w : WF ρ) (o : lwO 3 P) (hz : ((a + n : Nat) : Int) ≤ ρ 2) (hn : 0 < n) (s9 : σ 90 9 = (a : Int)) (s10 : σ 90 10 = ((a + n - 1 : Nat) : Int)) (hh : h < 24) (c6 : c < 64) (hB : B + 64 < 1600) (C : CI σ γ ρ P W) (so : ∀ i, i < 64 → γ 92 i = gvC ρ a n f i) (S : SPI σ γ ρ P a n h B acc) (hQ : ∀ σ' γ', Fσ [(90, 11)] σ σ' → Fα ZP γ γ' → CI σ' γ' ρ P W → OLD γ γ' h B → SPI σ' γ' ρ P a n h B (bldV (mvC ρ P a n h c) 5 acc) → Q none (S0, σ', γ')) : Ca X (d + 7) 37 [vR 90, vI (c : Int), vI (h : Int)] (S0, σ, γ) Q := by
  have h7 : ρ 2 ≤ 7 := w.2.2.1.2
  have nh := nhh w.2.2.2.1 (Nat.lt_succ_of_lt hh)
  have r3 := C.1.2.2.2.2.2.1
  refine vc37_0 ?_
  rw [s9, s10, r3, nh.1]
  refine c_slow C.1 hz h7 hn nh.2 ?_
  have key : ∀ (W3 : Nat) (m v : Nat) (σ1 δ : Nat → Nat → Int) (x5 x6 : Option mV), W3 ≤ 5 → (W3 = 1 ∨ ¬ hdC ρ a n h) → v + m = W3 → Fσ [(90, 11)] σ σ1 → Fα ZP γ δ → CI σ1 δ ρ P W → OLD γ δ h B → SPI σ1 δ ρ P a n h B (bldV (mvC ρ P a n h c) v acc) → (∀ σ' γ', Fσ [(90, 11)] σ σ' → Fα ZP γ γ' → CI σ' γ' ρ P W → OLD γ γ' h B → SPI σ' γ' ρ P a n h B (bldV (mvC ρ P a n h c) W3 acc) → Q none (S0, σ', γ')) → Go X (d + 6) 37 36 [some (vR 90), some (vI (c : Int)), some (vI (h : Int)), some (vI (W3 : Int)), some (vI (v : Int)), x5, x6] [] (S0, σ1, δ) (0, 0) Q := by
    intro W3 m
    induction m with
    | zero =>
      intro v σ1 δ x5 x6 w5 hW hv hs hf Cd od Sd hk
      have e : v = W3 := hv
      subst e
      exact vc37_36 ⟨fun _ => hk σ1 δ hs hf Cd od Sd, fun q => absurd q (Int.lt_irrefl _)⟩
    | succ m ih =>
      intro v σ1 δ x5 x6 w5 hW hv hs hf Cd od Sd hk
      have vl : (v : Int) < (W3 : Int) := by clear nh; omega
      have v5 : v < 5 := by clear nh; omega
      have vm : v + 1 + m = W3 := by clear nh; omega
      have v0 : v = 0 ∨ ¬ hdC ρ a n h := by
        rcases hW with q | q
        · exact Or.inl (by clear nh; omega)
        · exact Or.inr q
      have ek := wrS (k := v) (by clear nh; omega)
      have s9' : σ1 90 9 = (a : Int) := (hs 90 9 (by decide)).trans s9
      have s10' : σ1 90 10 = ((a + n - 1 : Nat) : Int) := (hs 90 10 (by decide)).trans s10
      refine c_way (W := W) (f := f) (α := γ) w o hz hn s9' s10' hh c6 v5 hB vl v0 Cd (by rw [hf 92 (by decide)]; exact so) Sd ?_
      intro σ2 ε y5 y6 hs2 he Ce oe Se
      rw [ek]
      exact ih (v + 1) σ2 ε y5 y6 w5 hW vm (hs.tr hs2) (hf.tr he) Ce (od.tr oe) Se hk
  by_cases hd : hdC ρ a n h
  · rw [if_pos (show slN ρ a n = 1 ∧ (ρ 3 + (h : Int)).tmod 2 = 1 from hd)]
    refine vc37_24 ⟨fun q => absurd q (by decide), fun _ => ?_⟩
    refine key 1 1 0 σ γ none none (by decide) (Or.inl rfl) rfl Fσ.rf Fα.rf C OLD.rf S (fun σ' γ' hs hf Cd od Sd => hQ σ' γ' hs hf Cd od ?_)
    have e : bldV (mvC ρ P a n h c) 5 acc = bldV (mvC ρ P a n h c) 1 acc := bv_held (n := 4) (fun v hv => mv_n (fun z => by
      rcases z.1 with q | q
      · exact absurd q (Nat.ne_of_gt hv)
      · exact q hd))
    rw [e]
    exact Sd
  · rw [if_neg (show ¬ (slN ρ a n = 1 ∧ (ρ 3 + (h : Int)).tmod 2 = 1) from hd)]
    refine vc37_24 ⟨fun _ => ?_, fun q => absurd rfl q⟩
    exact key 5 5 0 σ γ none none (by decide) (Or.inr hd) rfl Fσ.rf Fα.rf C OLD.rf S hQ
