/-- the reference finds how soon -/
def FSN (ρ : Nat → Int) (P : List (Int × Int)) (a n : Nat) (f r : Int) (A : Nat → Int) : Prop := (∃ H : Nat, H ≤ 24 ∧ r = (H : Int) ∧ (∃ c, RS (mvC ρ P a n) (c0C ρ a) H c ∧ glC ρ a n f c) ∧ (∀ h c, h < H → RS (mvC ρ P a n) (c0C ρ a) h c → ¬ glC ρ a n f c) ∧ ∀ h, h ≤ H → LV A ρ a h (RS (mvC ρ P a n) (c0C ρ a) h)) ∨ ((∀ h c, h ≤ 24 → RS (mvC ρ P a n) (c0C ρ a) h c → ¬ glC ρ a n f c) ∧ r = -1)
theorem m_findSoon {X : mXX} {d : Nat} {Q : Option mV → mS → Prop} {σ α : Nat → Nat → Int} {ρ : Nat → Int} {P : List (Int × Int)} {a n : Nat} {f : Int} (w : WF ρ) (er : α 110 = ρ) (l : lwM α 6 10 P) (o : lwO 3 P) (hz : ((a + n : Nat) : Int) ≤ ρ 2) (hn : 0 < n) (hQ : ∀ α' r, Fα ZN α α' → FSN ρ P a n f r (α' 122) → Q (some (vI r)) (S0, σ, α')) : Ca X (d + 8) 199 [vR 104, vI (a : Int), vI ((a + n - 1 : Nat) : Int), vI f] (S0, σ, α) Q := by
  have ha : (a : Int) < ρ 2 := by omega
  refine vc199_0 ?_
  have main : ∀ (m h : Nat) (γ : Nat → Nat → Int) (x5 x6 x7 : Option mV), h + m = 25 → Fα ZN α γ → (∀ h', h' ≤ h → h < 25 → LV (γ 122) ρ a h' (RS (mvC ρ P a n) (c0C ρ a) h')) → (∀ j, 225 * (h + 1) ≤ j → j < 5625 → γ 122 j = 0) → (∀ h' c, h' < h → RS (mvC ρ P a n) (c0C ρ a) h' c → ¬ glC ρ a n f c) → Go X (d + 7) 199 39 [some (vR 104), some (vI (a : Int)), some (vI ((a + n - 1 : Nat) : Int)), some (vI f), some (vI (h : Int)), x5, x6, x7] [] (S0, σ, γ) (0, 0) Q := by
    intro m
    induction m with
    | zero =>
      intro h γ x5 x6 x7 hm hf L Z ng
      have e : h = 25 := hm
      subst e
      exact vc199_39 ⟨fun _ => hQ γ (-1) hf (Or.inr ⟨fun h' c h1 => ng h' c (Nat.lt_succ_of_le h1), rfl⟩), fun q => absurd (by decide) q⟩
    | succ m ih =>
      intro h γ x5 x6 x7 hm hf L Z ng
      have h24 : ¬ (24 : Int) < (h : Int) := by omega
      have hle : h ≤ 24 := by omega
      have h25 : h < 25 := by omega
      have hm1 : h + 1 + m = 25 := by omega
      have eh := wrS (k := h) (by omega)
      have Lh := L h (Nat.le_refl _) h25
      refine vc199_39 ⟨fun q => absurd q h24, fun _ => ?_⟩
      have scan : ∀ (u k : Nat) (δ : Nat → Nat → Int), k + u = 225 → Fα ZN α δ → δ 122 = γ 122 → (∀ c, c < 64 → ocC ρ a c < k → RS (mvC ρ P a n) (c0C ρ a) h c → ¬ glC ρ a n f c) → Go X (d + 7) 199 49 [some (vR 104), some (vI (a : Int)), some (vI ((a + n - 1 : Nat) : Int)), some (vI f), some (vI (h : Int)), some (vI (k : Int)), x6, x7] [] (S0, σ, δ) (0, 0) Q := by
        intro u
        induction u with
        | zero =>
          intro k δ hk hd e22 nk
          have e : k = 225 := hk
          subst e
          have ngh : ∀ h' c, h' < h + 1 → RS (mvC ρ P a n) (c0C ρ a) h' c → ¬ glC ρ a n f c := fun h' c h1 hr => by
            by_cases e : h' = h
            · rw [e] at hr
              have c6 := (rs_ok w hz hn hr).1
              exact nk c c6 (oc_p w ha c6).2.2 hr
            · exact ng h' c (Nat.lt_of_le_of_ne (Nat.le_of_lt_succ h1) e) hr
          refine vc199_49 ⟨fun _ => ?_, fun q => absurd q (by decide)⟩
          by_cases hlt : h < 24
          · have ed : δ 110 = ρ := (hd 110 (by decide)).trans er
            refine m_fs2 (α := δ) (P := P) w ed (l.st (by rw [ed, er]) (hd 111 (by decide)) (hd 112 (by decide))) o hz hn hlt (fun ε y5 y6 y7 he lo hi Le => ?_) (by rw [e22]; exact Lh) 225 0 δ x6 x7 (Nat.zero_add _) Fα.rf (fun _ _ => rfl) (fun _ _ => rfl) (fun k hk2 => Or.inr ⟨?_, fun c c6 ec z => ?_⟩)
            · rw [eh]
              refine ih (h + 1) ε _ _ _ hm1 (hd.tr he) (fun h' h1 h2 => ?_) (fun j j1 j2 => ?_) ngh
              · by_cases e : h' = h + 1
                · rw [e]; exact Le
                · have h1' : h' ≤ h := by clear eh; omega
                  refine (L h' h1' h25).fr (fun k hk2 => ?_)
                  rw [lo _ (by clear eh; omega), e22]
              · rw [hi j j1, e22]
                exact Z j (by clear eh; omega) j2
            · rw [e22]
              exact Z _ (by clear eh; omega) (by clear eh; omega)
            · obtain ⟨c', u', z1, z2, z3, z4⟩ := z
              rcases z4 with z4 | ⟨_, z4⟩
              · exact absurd z4 (Nat.not_lt_zero _)
              · exact absurd z4 (Nat.not_lt_zero _)
          · have e24 : h = 24 := by clear eh; omega
            have hi24 : ¬ (h : Int) < 24 := by clear eh; omega
            refine vc199_98 ⟨fun q => absurd (by decide) q, fun _ => ⟨fun _ => ?_, fun q => absurd q hi24⟩⟩
            rw [eh]
            refine ih (h + 1) δ _ _ _ hm1 hd (fun h' h1 h2 => ?_) (fun j j1 j2 => ?_) ngh
            · exact absurd h2 (by clear eh; omega)
            · exact absurd j2 (by clear eh; omega)
        | succ u ihu =>
          intro k δ hk hd e22 nk
          have kl : (k : Int) < 225 := by clear eh; omega
          have k2 : k < 225 := by clear eh; omega
          have ku : k + 1 + u = 225 := by clear eh; omega
          have ek := wrS (k := k) (by clear eh; omega)
          have ix := ixO (h := h) (k := k) h25 k2
          refine vc199_49 ⟨fun q => absurd kl q, fun _ => ?_⟩
          rw [ix.1]
          refine ⟨mInA_n ix.2, ?_⟩
          rw [Int.toNat_natCast, e22]
          rcases Lh k k2 with ⟨a1, c, c6, ec, rs⟩ | ⟨a0, no⟩
          · rw [a1]
            refine ⟨fun q => absurd q (by decide), fun _ => ?_⟩
            have ed : δ 110 = ρ := (hd 110 (by decide)).trans er
            have eo : (k : Int) = ((ocC (δ 110) a c : Nat) : Int) := by rw [ed, ec]
            rw [eo]
            refine m_isGoal (n := n) (c := c) (f := f) (by rw [ed]; exact w) (by rw [ed]; exact hz) hn c6 (by rw [ed]; exact (rs_ok w hz hn rs).2) (fun g ε he => ?_) (fun g ε he => ?_)
            · rw [ed] at g
              rw [← eo]
              refine vc199_83 ⟨fun q => absurd q (by decide), fun _ => hQ ε _ (hd.tr (he.wk (by decide))) (Or.inl ⟨h, hle, rfl, ⟨c, rs, g⟩, ng, fun h' h1 => ?_⟩)⟩
              rw [he 122 (by decide), e22]
              exact L h' h1 h25
            · rw [ed] at g
              rw [← eo]
              refine vc199_83 ⟨fun _ => ?_, fun q => absurd rfl q⟩
              rw [ek]
              refine ihu (k + 1) ε ku (hd.tr (he.wk (by decide))) ((he 122 (by decide)).trans e22) (fun c' c6' oc' rs' => ?_)
              by_cases e : ocC ρ a c' = k
              · have ecc : c' = c := oc_inj w ha c6' c6 (e.trans ec.symm)
                rw [ecc]; exact g
              · exact nk c' c6' (Nat.lt_of_le_of_ne (Nat.le_of_lt_succ oc') e) rs'
          · rw [a0]
            refine ⟨fun _ => ?_, fun q => absurd rfl q⟩
            rw [ek]
            refine ihu (k + 1) δ ku hd e22 (fun c' c6' oc' rs' => ?_)
            by_cases e : ocC ρ a c' = k
            · exact absurd rs' (no c' c6' e)
            · exact nk c' c6' (Nat.lt_of_le_of_ne (Nat.le_of_lt_succ oc') e) rs'
      exact scan 225 0 γ (Nat.zero_add _) hf rfl (fun c _ z => absurd z (Nat.not_lt_zero _))
  have init : ∀ (m k : Nat) (γ : Nat → Nat → Int), k + m = 5625 → Fα ZN α γ → (∀ j, j < k → γ 122 j = if j = 112 then 1 else 0) → Go X (d + 7) 199 3 [some (vR 104), some (vI (a : Int)), some (vI ((a + n - 1 : Nat) : Int)), some (vI f), some (vI (k : Int)), none, none, none] [] (S0, σ, γ) (0, 0) Q := by
    intro m
    induction m with
    | zero =>
      intro k γ hk hf F
      have e : k = 5625 := hk
      subst e
      refine vc199_3 ⟨fun _ => ?_, fun q => absurd q (by decide)⟩
      refine main 25 0 γ none none none (Nat.zero_add _) hf (fun h' h1 _ => ?_) (fun j j1 j2 => ?_) (fun h' c h1 => absurd h1 (Nat.not_lt_zero h'))
      · have e0 : h' = 0 := Nat.le_zero.mp h1
        subst e0
        intro k hk2
        have c0 := c0_ok w hz hn
        have o0 := oc_0 w ha
        rw [Nat.mul_zero, Nat.zero_add, F k (Nat.lt_trans hk2 (by decide))]
        by_cases e : k = 112
        · rw [if_pos e]
          exact Or.inl ⟨rfl, c0C ρ a, c0.1, o0.trans e.symm, rfl⟩
        · rw [if_neg e]
          refine Or.inr ⟨rfl, fun c c6 ec z => ?_⟩
          have z' : c = c0C ρ a := z
          rw [z', o0] at ec
          exact e ec.symm
      · rw [F j j2, if_neg (by omega)]
    | succ m ih =>
      intro k γ hk hf F
      have kl : (k : Int) < 5625 := by omega
      have k2 : k < 5625 := by omega
      have km : k + 1 + m = 5625 := by omega
      have ek := wrS (k := k) (by omega)
      have nx : ∀ v : Int, v = (if k = 112 then 1 else 0) → Go X (d + 7) 199 3 [some (vR 104), some (vI (a : Int)), some (vI ((a + n - 1 : Nat) : Int)), some (vI f), some (vI (wr ((k : Int) + 1))), none, none, none] [] (S0, σ, mUp γ 122 k v) (0, 0) Q := by
        intro v hv
        rw [ek]
        refine ih (k + 1) _ km (hf.tr (Fα.up (by decide))) (fun j hj => ?_)
        rw [up_a]
        by_cases e : j = k
        · rw [if_pos e, e]; exact hv
        · rw [if_neg e]; exact F j (Nat.lt_of_le_of_ne (Nat.le_of_lt_succ hj) e)
      refine vc199_3 ⟨fun q => absurd kl q, fun _ => ⟨fun q => ⟨mInA_n k2, ?_⟩, fun q => ⟨mInA_n k2, ?_⟩⟩⟩
      · rw [Int.toNat_natCast]
        exact nx 0 (by rw [if_neg (fun z => q (by rw [z]; rfl))])
      · rw [Int.toNat_natCast]
        exact nx 1 (by rw [if_pos (Int.ofNat_inj.mp q)])
  exact init 5625 0 α (Nat.zero_add _) Fα.rf (fun j hj => absurd hj (Nat.not_lt_zero j))
