/-! What leads on, and the moves, in the reference -/
def ZL : List Nat := [115, 116, 118, 120, 121, 122, 123]
/-- one offset's lead -/
theorem LV.set {A : Nat → Int} {ρ : Nat → Int} {a h k : Nat} {D : Nat → Prop} {v : Int} (l : ∀ j, j < k → (A (225 * h + j) = 1 ∧ ∃ c, c < 64 ∧ ocC ρ a c = j ∧ D c) ∨ (A (225 * h + j) = 0 ∧ ∀ c, c < 64 → ocC ρ a c = j → ¬ D c)) (hv : (v = 1 ∧ ∃ c, c < 64 ∧ ocC ρ a c = k ∧ D c) ∨ (v = 0 ∧ ∀ c, c < 64 → ocC ρ a c = k → ¬ D c)) : ∀ j, j < k + 1 → ((fun i => if i = 225 * h + k then v else A i) (225 * h + j) = 1 ∧ ∃ c, c < 64 ∧ ocC ρ a c = j ∧ D c) ∨ ((fun i => if i = 225 * h + k then v else A i) (225 * h + j) = 0 ∧ ∀ c, c < 64 → ocC ρ a c = j → ¬ D c) := fun j hj => by
  show ((if 225 * h + j = 225 * h + k then v else A (225 * h + j)) = 1 ∧ _) ∨ ((if 225 * h + j = 225 * h + k then v else A (225 * h + j)) = 0 ∧ _)
  by_cases e : j = k
  · rw [if_pos (by rw [e]), e]; exact hv
  · rw [if_neg (fun q => e (Nat.add_left_cancel q))]
    exact l j (Nat.lt_of_le_of_ne (Nat.le_of_lt_succ hj) e)
theorem m_findLeads {X : mXX} {d : Nat} {Q : Option mV → mS → Prop} {σ α : Nat → Nat → Int} {ρ : Nat → Int} {P : List (Int × Int)} {a n H : Nat} {f : Int} (w : WF ρ) (er : α 110 = ρ) (l : lwM α 6 10 P) (o : lwO 3 P) (hz : ((a + n : Nat) : Int) ≤ ρ 2) (hn : 0 < n) (hH : H ≤ 24) (R : ∀ h, h ≤ H → LV (α 122) ρ a h (RS (mvC ρ P a n) (c0C ρ a) h)) (hQ : ∀ α', Fα ZL α α' → (∀ h, h ≤ H → LV (α' 123) ρ a h (LD (mvC ρ P a n) (c0C ρ a) (glC ρ a n f) H h)) → Q none (S0, σ, α')) : Ca X (d + 8) 202 [vR 104, vI (a : Int), vI ((a + n - 1 : Nat) : Int), vI (H : Int), vI f] (S0, σ, α) Q := by
  have ha : (a : Int) < ρ 2 := by omega
  generalize hD : LD (mvC ρ P a n) (c0C ρ a) (glC ρ a n f) H = D at *
  refine vc202_0 ?_
  have main : ∀ (m : Nat) (γ : Nat → Nat → Int) (x6 x7 x8 x9 : Option mV), m ≤ H + 1 → Fα ZL α γ → γ 122 = α 122 → (∀ h, m ≤ h → h ≤ H → LV (γ 123) ρ a h (D h)) → Go X (d + 7) 202 3 [some (vR 104), some (vI (a : Int)), some (vI ((a + n - 1 : Nat) : Int)), some (vI (H : Int)), some (vI f), some (vI ((m : Int) - 1)), x6, x7, x8, x9] [] (S0, σ, γ) (0, 0) Q := by
    intro m
    induction m with
    | zero =>
      intro γ x6 x7 x8 x9 hm hf e2 L
      exact vc202_3 ⟨fun _ => hQ γ hf (fun h h1 => L h (Nat.zero_le _) h1), fun q => absurd (by decide) q⟩
    | succ h ih =>
      intro γ x6 x7 x8 x9 hm hf e2 L
      have hH1 : h ≤ H := by omega
      have h25 : h < 25 := by omega
      have hi : ((h + 1 : Nat) : Int) - 1 = (h : Int) := by omega
      have h0 : ¬ (h : Int) < 0 := by omega
      have e1 : wr ((h : Int) + -1) = (h : Int) - 1 := by rw [wr_of (by omega) (by omega)]; omega
      have Rh := R h hH1
      rw [hi]
      refine vc202_3 ⟨fun q => absurd q h0, fun _ => ?_⟩
      have row : ∀ (u k : Nat) (δ : Nat → Nat → Int) (y7 y8 y9 : Option mV), k + u = 225 → Fα ZL α δ → δ 122 = α 122 → (∀ h', h + 1 ≤ h' → h' ≤ H → LV (δ 123) ρ a h' (D h')) → (∀ j, j < k → (δ 123 (225 * h + j) = 1 ∧ ∃ c, c < 64 ∧ ocC ρ a c = j ∧ D h c) ∨ (δ 123 (225 * h + j) = 0 ∧ ∀ c, c < 64 → ocC ρ a c = j → ¬ D h c)) → Go X (d + 7) 202 11 [some (vR 104), some (vI (a : Int)), some (vI ((a + n - 1 : Nat) : Int)), some (vI (H : Int)), some (vI f), some (vI (h : Int)), some (vI (k : Int)), y7, y8, y9] [] (S0, σ, δ) (0, 0) Q := by
        intro u
        induction u with
        | zero =>
          intro k δ y7 y8 y9 hk hd d2 Ld Lk
          have e : k = 225 := hk
          subst e
          refine vc202_11 ⟨fun _ => ?_, fun q => absurd q (by decide)⟩
          rw [e1]
          refine ih δ _ _ _ _ (Nat.le_of_succ_le hm) hd d2 (fun h' h1 h2 => ?_)
          by_cases e : h' = h
          · rw [e]; exact Lk
          · exact Ld h' (Nat.lt_of_le_of_ne h1 (fun q => e q.symm)) h2
        | succ u ihu =>
          intro k δ y7 y8 y9 hk hd d2 Ld Lk
          have kl : (k : Int) < 225 := by clear e1; omega
          have k2 : k < 225 := by clear e1; omega
          have ku : k + 1 + u = 225 := by clear e1; omega
          have ek := wrS (k := k) (by clear e1; omega)
          have ix := ixO (h := h) (k := k) h25 k2
          have nbr : ∀ h' k', h + 1 ≤ h' → 225 * h' + k' ≠ 225 * h + k := by clear e1 ek ix; intro h' k' z; omega
          -- the lead is set
          have sett : ∀ (ε : Nat → Nat → Int) (v x8' : Int) (z9 : Option mV), Fα ZL α ε → ε 122 = α 122 → (∀ h', h + 1 ≤ h' → h' ≤ H → LV (ε 123) ρ a h' (D h')) → (∀ j, j < k → (ε 123 (225 * h + j) = 1 ∧ ∃ c, c < 64 ∧ ocC ρ a c = j ∧ D h c) ∨ (ε 123 (225 * h + j) = 0 ∧ ∀ c, c < 64 → ocC ρ a c = j → ¬ D h c)) → ((v = 1 ∧ ∃ c, c < 64 ∧ ocC ρ a c = k ∧ D h c) ∨ (v = 0 ∧ ∀ c, c < 64 → ocC ρ a c = k → ¬ D h c)) → Go X (d + 7) 202 11 [some (vR 104), some (vI (a : Int)), some (vI ((a + n - 1 : Nat) : Int)), some (vI (H : Int)), some (vI f), some (vI (h : Int)), some (vI (wr ((k : Int) + 1))), some (vI v), some (vI x8'), z9] [] (S0, σ, mUp ε 123 (225 * h + k) v) (0, 0) Q := by
            intro ε v x8' z9 he e22 Le Lk2 hv
            rw [ek]
            refine ihu (k + 1) _ _ _ _ ku (he.tr (Fα.up (by decide))) (by rw [up_o (by decide)]; exact e22) (fun h' h1 h2 => ?_) ?_
            · refine (Le h' h1 h2).fr (fun k' _ => ?_)
              rw [up_a, if_neg (nbr h' k' h1)]
            · rw [up_f]
              exact LV.set Lk2 hv
          have v01 : ∀ v : Int, ((v = 1 ∧ ∃ c, c < 64 ∧ ocC ρ a c = k ∧ D h c) ∨ (v = 0 ∧ ∀ c, c < 64 → ocC ρ a c = k → ¬ D h c)) → v = 0 ∨ v = 1 := fun v z => by
            rcases z with z | z
            · exact Or.inr z.1
            · exact Or.inl z.1
          refine vc202_11 ⟨fun q => absurd kl q, fun _ => ?_⟩
          by_cases eH : h = H
          · -- the last hour
            have eHi : (h : Int) = (H : Int) := by rw [eH]
            have nHi : ¬ (h : Int) < (H : Int) := by rw [eHi]; exact Int.lt_irrefl _
            have fin : ∀ (ε : Nat → Nat → Int) (v : Int) (z9 : Option mV), Fα ZL α ε → ε 122 = α 122 → (∀ h', h + 1 ≤ h' → h' ≤ H → LV (ε 123) ρ a h' (D h')) → (∀ j, j < k → (ε 123 (225 * h + j) = 1 ∧ ∃ c, c < 64 ∧ ocC ρ a c = j ∧ D h c) ∨ (ε 123 (225 * h + j) = 0 ∧ ∀ c, c < 64 → ocC ρ a c = j → ¬ D h c)) → ((v = 1 ∧ ∃ c, c < 64 ∧ ocC ρ a c = k ∧ D h c) ∨ (v = 0 ∧ ∀ c, c < 64 → ocC ρ a c = k → ¬ D h c)) → Go X (d + 7) 202 65 [some (vR 104), some (vI (a : Int)), some (vI ((a + n - 1 : Nat) : Int)), some (vI (H : Int)), some (vI f), some (vI (h : Int)), some (vI (k : Int)), some (vI v), some (vI 0), z9] [] (S0, σ, ε) (0, 0) Q := by
              intro ε v z9 he e22 Le Lk2 hv
              have r := sett ε v 0 z9 he e22 Le Lk2 hv
              refine vc202_65 ⟨fun q => absurd (by decide) q, fun _ => ⟨fun _ => ?_, fun q => absurd q nHi⟩⟩
              rw [ix.1]
              refine ⟨mInA_n ix.2, v01 v hv, ?_⟩
              rw [Int.toNat_natCast]
              exact r
            have DH : ∀ c, D h c ↔ RS (mvC ρ P a n) (c0C ρ a) h c ∧ glC ρ a n f c := fun c => by
              rw [eH, ← hD]; exact LD_H
            refine ⟨fun q => absurd eHi q, fun _ => ?_⟩
            rw [ix.1]
            refine ⟨mInA_n ix.2, ?_⟩
            rw [Int.toNat_natCast, d2]
            rcases Rh k k2 with ⟨a1, c, c6, ec, rs⟩ | ⟨a0, no⟩
            · rw [a1]
              refine ⟨fun q => absurd q (by decide), fun _ => ?_⟩
              have ed : δ 110 = ρ := (hd 110 (by decide)).trans er
              have eo : (k : Int) = ((ocC (δ 110) a c : Nat) : Int) := by rw [ed, ec]
              rw [eo]
              refine m_isGoal (n := n) (c := c) (f := f) (by rw [ed]; exact w) (by rw [ed]; exact hz) hn c6 (by rw [ed]; exact (rs_ok w hz hn rs).2) (fun g ε he => ?_) (fun g ε he => ?_)
              · rw [ed] at g
                rw [← eo]
                refine vc202_52 ⟨fun q => absurd q (by decide), fun _ => ?_⟩
                have e23 : ε 123 = δ 123 := he 123 (by decide)
                exact fin ε 1 _ (hd.tr (he.wk (by decide))) ((he 122 (by decide)).trans d2) (by rw [e23]; exact Ld) (by rw [e23]; exact Lk) (Or.inl ⟨rfl, c, c6, ec, (DH c).mpr ⟨rs, g⟩⟩)
              · rw [ed] at g
                rw [← eo]
                refine vc202_52 ⟨fun _ => ?_, fun q => absurd rfl q⟩
                have e23 : ε 123 = δ 123 := he 123 (by decide)
                refine fin ε 0 _ (hd.tr (he.wk (by decide))) ((he 122 (by decide)).trans d2) (by rw [e23]; exact Ld) (by rw [e23]; exact Lk) (Or.inr ⟨rfl, fun c' c6' ec' z => ?_⟩)
                have ecc : c' = c := oc_inj w ha c6' c6 (ec'.trans ec.symm)
                rw [ecc] at z
                exact g ((DH c).mp z).2
            · rw [a0]
              refine ⟨fun _ => ?_, fun q => absurd rfl q⟩
              exact fin δ 0 _ hd d2 Ld Lk (Or.inr ⟨rfl, fun c' c6' ec' z => no c' c6' ec' ((DH c').mp z).1⟩)
          · -- an hour before
            have hlt : h < H := Nat.lt_of_le_of_ne hH1 eH
            have h24 : h < 24 := by clear e1 ek ix; omega
            have nHi : ¬ (h : Int) = (H : Int) := fun z => eH (Int.ofNat_inj.mp z)
            have ltH : (h : Int) < (H : Int) := Int.ofNat_lt.mpr hlt
            have DS : ∀ c, D h c ↔ RS (mvC ρ P a n) (c0C ρ a) h c ∧ ∃ v t, v < 5 ∧ mvC ρ P a n h c v = some t ∧ D (h + 1) t := fun c => by
              rw [← hD]; exact LD_s hlt
            refine ⟨fun _ => ?_, fun q => absurd q nHi⟩
            rcases Rh k k2 with ⟨a1, c, c6, ec, rs⟩ | ⟨a0, no⟩
            · have fc := (rs_ok w hz hn rs).2
              have inner : ∀ (u' v : Nat) (x : Int) (ε : Nat → Nat → Int) (z9 : Option mV), v + u' = 5 → Fα ZL α ε → ε 122 = α 122 → ε 123 = δ 123 → ((x = 1 ∧ ∃ v' t, v' < v ∧ mvC ρ P a n h c v' = some t ∧ D (h + 1) t) ∨ (x = 0 ∧ ∀ v' t, v' < v → mvC ρ P a n h c v' = some t → ¬ D (h + 1) t)) → Go X (d + 7) 202 65 [some (vR 104), some (vI (a : Int)), some (vI ((a + n - 1 : Nat) : Int)), some (vI (H : Int)), some (vI f), some (vI (h : Int)), some (vI (k : Int)), some (vI x), some (vI (v : Int)), z9] [] (S0, σ, ε) (0, 0) Q := by
                intro u'
                induction u' with
                | zero =>
                  intro v x ε z9 hv he e22 e23 hx
                  have e : v = 5 := hv
                  subst e
                  have hv2 : (x = 1 ∧ ∃ c, c < 64 ∧ ocC ρ a c = k ∧ D h c) ∨ (x = 0 ∧ ∀ c, c < 64 → ocC ρ a c = k → ¬ D h c) := by
                    rcases hx with ⟨x1, v', t, q1, q2, q3⟩ | ⟨x0, q⟩
                    · exact Or.inl ⟨x1, c, c6, ec, (DS c).mpr ⟨rs, v', t, q1, q2, q3⟩⟩
                    · refine Or.inr ⟨x0, fun c' c6' ec' z => ?_⟩
                      have ecc : c' = c := oc_inj w ha c6' c6 (ec'.trans ec.symm)
                      rw [ecc] at z
                      obtain ⟨_, v', t, q1, q2, q3⟩ := (DS c).mp z
                      exact q v' t q1 q2 q3
                  have r := sett ε x 5 z9 he e22 (by rw [e23]; exact Ld) (by rw [e23]; exact Lk) hv2
                  refine vc202_65 ⟨fun _ => ?_, fun q => absurd q (by decide)⟩
                  rw [ix.1]
                  refine ⟨mInA_n ix.2, v01 x hv2, ?_⟩
                  rw [Int.toNat_natCast]
                  exact r
                | succ u' ihv =>
                  intro v x ε z9 hv he e22 e23 hx
                  have vl : (v : Int) < 5 := by clear e1 ek ix; omega
                  have vm : v + 1 + u' = 5 := by clear e1 ek ix; omega
                  have ev := wrS (k := v) (by clear e1 ek ix; omega)
                  have ee : ε 110 = ρ := (he 110 (by decide)).trans er
                  refine vc202_65 ⟨fun q => absurd vl q, fun _ => ⟨fun q => absurd ltH q, fun _ => ?_⟩⟩
                  rw [ix.1]
                  refine ⟨mInA_n ix.2, ?_⟩
                  rw [Int.toNat_natCast, e22, a1]
                  refine ⟨fun q => absurd q (by decide), fun _ => ?_⟩
                  have eo : (k : Int) = ((ocC (ε 110) a c : Nat) : Int) := by rw [ee, ec]
                  rw [eo]
                  refine m_behind (P := P) (n := n) (h := h) (c := c) (v := v) (by rw [ee]; exact w) (l.st (by rw [ee, er]) (he 111 (by decide)) (he 112 (by decide))) o (by rw [ee]; exact hz) hn h25 c6 (by rw [ee]; exact fc) ?_
                  intro ζ hzz
                  rw [← eo, ee]
                  have hez := he.tr (hzz.wk (show ∀ q ∈ [115, 116, 118], q ∈ ZL by decide))
                  have z22 : ζ 122 = α 122 := (hzz 122 (by decide)).trans e22
                  have z23 : ζ 123 = δ 123 := (hzz 123 (by decide)).trans e23
                  refine vc202_106 ⟨fun q => ?_, fun q => ?_⟩
                  · rw [ev]
                    refine ihv (v + 1) 1 ζ _ vm hez z22 z23 (Or.inl ⟨rfl, ?_⟩)
                    rcases hx with ⟨_, v', t, q1, q2, q3⟩ | ⟨x0, _⟩
                    · exact ⟨v', t, Nat.lt_succ_of_lt q1, q2, q3⟩
                    · exact absurd x0 q
                  · have nox : ∀ v' t, v' < v → mvC ρ P a n h c v' = some t → ¬ D (h + 1) t := by
                      rcases hx with ⟨x1, _⟩ | ⟨_, z⟩
                      · rw [x1] at q; exact absurd q (by decide)
                      · exact z
                    have stay : (∀ t, mvC ρ P a n h c v = some t → ¬ D (h + 1) t) → ∀ y9 : Option mV, Go X (d + 7) 202 65 [some (vR 104), some (vI (a : Int)), some (vI ((a + n - 1 : Nat) : Int)), some (vI (H : Int)), some (vI f), some (vI (h : Int)), some (vI (k : Int)), some (vI 0), some (vI (wr ((v : Int) + 1))), y9] [] (S0, σ, ζ) (0, 0) Q := by
                      intro nv y9
                      rw [ev]
                      refine ihv (v + 1) 0 ζ y9 vm hez z22 z23 (Or.inr ⟨rfl, fun v' t q1 q2 => ?_⟩)
                      by_cases e : v' = v
                      · rw [e] at q2; exact nv t q2
                      · exact nox v' t (Nat.lt_of_le_of_ne (Nat.le_of_lt_succ q1) e) q2
                    cases hm2 : mvC ρ P a n h c v with
                    | none =>
                      rw [bh_n hm2]
                      exact ⟨fun _ => stay (fun t z => by rw [hm2] at z; exact absurd z (by simp)) _, fun q2 => absurd (by decide) q2⟩
                    | some t =>
                      have t6 := (mv_ok w hm2).1
                      have ot := (oc_p w ha t6).2.2
                      have im : 225 * (h + 1) + ocC ρ a t < 5625 := (ixO (h := h + 1) (by clear e1 ek ix ev; omega) ot).2
                      rw [bh_y hm2]
                      refine ⟨fun q2 => absurd q2 (Int.not_lt.mpr (Int.natCast_nonneg _)), fun _ => ?_⟩
                      rw [ixO1 h24 ot]
                      refine ⟨mInA_n im, ?_⟩
                      rw [Int.toNat_natCast, z23]
                      rcases Ld (h + 1) (Nat.le_refl _) hlt (ocC ρ a t) ot with ⟨b1, c', c6', ec', Dc⟩ | ⟨b0, nb⟩
                      · rw [b1]
                        have ect : c' = t := oc_inj w ha c6' t6 ec'
                        rw [ect] at Dc
                        refine ⟨fun q2 => absurd q2 (by decide), fun _ => ?_⟩
                        rw [ev]
                        exact ihv (v + 1) 1 ζ _ vm hez z22 z23 (Or.inl ⟨rfl, v, t, Nat.lt_succ_self v, hm2, Dc⟩)
                      · rw [b0]
                        refine ⟨fun _ => stay (fun t' z => ?_) _, fun q2 => absurd rfl q2⟩
                        rw [hm2] at z
                        rw [← Option.some.inj z]
                        exact nb t t6 rfl
              exact inner 5 0 0 δ y9 (Nat.zero_add _) hd d2 rfl (Or.inr ⟨rfl, fun v' t z => absurd z (Nat.not_lt_zero v')⟩)
            · have r := sett δ 0 0 y9 hd d2 Ld Lk (Or.inr ⟨rfl, fun c' c6' ec' z => no c' c6' ec' ((DS c').mp z).1⟩)
              refine vc202_65 ⟨fun q => absurd (by decide) q, fun _ => ⟨fun q => absurd ltH q, fun _ => ?_⟩⟩
              rw [ix.1]
              refine ⟨mInA_n ix.2, ?_⟩
              rw [Int.toNat_natCast, d2, a0]
              refine ⟨fun _ => ⟨mInA_n ix.2, Or.inl rfl, r⟩, fun q => absurd rfl q⟩
      exact row 225 0 γ _ _ _ (Nat.zero_add _) hf e2 (fun h' h1 h2 => L h' h1 h2) (fun j hj => absurd hj (Nat.not_lt_zero j))
  have eH1 : (H : Int) = ((H + 1 : Nat) : Int) - 1 := by omega
  have r := main (H + 1) α none none none none (Nat.le_refl _) Fα.rf rfl (fun h h1 h2 => absurd h2 (Nat.not_le.mpr h1))
  rw [← eH1] at r
  exact r
