theorem m_s4 {X : mXX} {d : Nat} {Q : Option mV → mS → Prop} {σ γ : Nat → Nat → Int} {ρ : Nat → Int} {P : List (Int × Int)} {g v1 v2 v3 v4 v5 v6 v8 : Int} {h : Nat} (w : WF ρ) (eg : γ 110 = ρ) (eF : ∀ b : Nat, (b : Int) < ρ 2 → γ 118 b = fcR ρ P 0 0 (h : Int) g b) (hQ : ∀ x y11, lbX ρ P g (h + 1) 0 x → Go X (d + 7) 220 81 [some (vR 104), some (vI v1), some (vI v2), some (vI v3), some (vI v4), some (vI v5), some (vI v6), some (vI g), some (vI v8), some (vI x), some (vI (wr ((h : Int) + 1))), y11] [] (S0, σ, γ) (0, 0) Q) : ∀ (m b : Nat) (x : Int), ((b + m : Nat) : Int) = ρ 2 → lbX ρ P g h b x → Go X (d + 7) 220 149 [some (vR 104), some (vI v1), some (vI v2), some (vI v3), some (vI v4), some (vI v5), some (vI v6), some (vI g), some (vI v8), some (vI x), some (vI (h : Int)), some (vI (b : Int))] [] (S0, σ, γ) (0, 0) Q := by
  intro m
  induction m with
  | zero =>
    intro b x hb L
    have nb : ¬ (b : Int) < ρ 2 := by omega
    refine vc220_149 ?_
    refine vc159_0 ?_
    rw [eg]
    exact vc220_155 ⟨fun _ => hQ x _ (lb_h nb L), fun q => absurd q nb⟩
  | succ m ih =>
    intro b x hb L
    have hb2 : (b : Int) < ρ 2 := by omega
    have bm : ((b + 1 + m : Nat) : Int) = ρ 2 := by omega
    have b7 := w.m7 hb2
    have b8 : b < 8 := by omega
    have ek := wrS (k := b) (by omega)
    have xr : r32 x := by have := L.1; unfold r32; omega
    refine vc220_149 ?_
    refine vc159_0 ?_
    rw [eg]
    refine vc220_155 ⟨fun q => absurd hb2 q, fun _ => ⟨mInA_n b8, ?_⟩⟩
    rw [Int.toNat_natCast, eF b hb2, ek, eg, iOr0 xr]
    exact ⟨fun q => ih (b + 1) x bm (lb_n L q), fun q => ih (b + 1) _ bm (lb_y w hb2 L q)⟩
theorem m_s3 {X : mXX} {d : Nat} {Q : Option mV → mS → Prop} {σ γ : Nat → Nat → Int} {ρ : Nat → Int} {P : List (Int × Int)} {g v1 v2 v3 v4 v5 v6 v9 : Int} {h : Nat} (w : WF ρ) (eg : γ 110 = ρ) (eF : ∀ b : Nat, (b : Int) < ρ 2 → γ 118 b = fcR ρ P 0 0 (h : Int) g b) (hQ : ∀ x, tdX ρ P g (h + 1) 0 x → Go X (d + 7) 220 149 [some (vR 104), some (vI v1), some (vI v2), some (vI v3), some (vI v4), some (vI v5), some (vI v6), some (vI g), some (vI x), some (vI v9), some (vI (h : Int)), some (vI 0)] [] (S0, σ, γ) (0, 0) Q) : ∀ (m k : Nat) (x : Int), k + m = (ρ 2).toNat - 1 → tdX ρ P g h k x → Go X (d + 7) 220 101 [some (vR 104), some (vI v1), some (vI v2), some (vI v3), some (vI v4), some (vI v5), some (vI v6), some (vI g), some (vI x), some (vI v9), some (vI (h : Int)), some (vI (k : Int))] [] (S0, σ, γ) (0, 0) Q := by
  have w2 := w.2.2.1
  have wg : WF (γ 110) := by rw [eg]; exact w
  intro m
  induction m with
  | zero =>
    intro k x hk T
    have nk : ¬ ((k + 1 : Nat) : Int) < ρ 2 := by omega
    have nk2 : ¬ (k : Int) < (((ρ 2).toNat - 1 : Nat) : Int) := by omega
    refine vc220_101 ?_
    refine m_links wg ?_
    rw [eg]
    exact vc220_107 ⟨fun _ => hQ x (tdX_h nk T), fun q => absurd q nk2⟩
  | succ m ih =>
    intro k x hk T
    have kl : (k : Int) < (((ρ 2).toNat - 1 : Nat) : Int) := by omega
    have k1 : ((k + 1 : Nat) : Int) < ρ 2 := by omega
    have k1' : (k : Int) + 1 < ρ 2 := by omega
    have km : k + 1 + m = (ρ 2).toNat - 1 := by omega
    have k6 : 0 ≤ (k : Int) ∧ (k : Int) < 6 := by omega
    have ek := wrS (k := k) (by omega)
    refine vc220_101 ?_
    refine m_links wg ?_
    rw [eg]
    refine vc220_107 ⟨fun q => absurd kl q, fun _ => ⟨fun q => ?_, fun q => ?_⟩⟩
    · rcases T with T | T
      · rw [ek]
        exact ih (k + 1) 1 km (Or.inl ⟨rfl, tdT_s.mpr (Or.inl T.2)⟩)
      · exact absurd T.1 q
    · rcases T with T | T
      · rw [T.1] at q; exact absurd q (by decide)
      · have go0 : ¬ (((k + 1 : Nat) : Int) < ρ 2 ∧ ρ (292 + 3 * k) = 0 ∧ wtR ρ (fcR ρ P 0 0 (h : Int) g) k = 1) → Go X (d + 7) 220 101 [some (vR 104), some (vI v1), some (vI v2), some (vI v3), some (vI v4), some (vI v5), some (vI v6), some (vI g), some (vI 0), some (vI v9), some (vI (h : Int)), some (vI (wr ((k : Int) + 1)))] [] (S0, σ, γ) (0, 0) Q := by
          intro z
          rw [ek]
          refine ih (k + 1) 0 km (Or.inr ⟨rfl, fun y => ?_⟩)
          rcases tdT_s.mp y with y | y
          · exact T.2 y
          · exact z y
        refine m_torn wg k6 ?_
        unfold tnR
        rw [eg, Int.toNat_natCast]
        refine vc220_121 ⟨fun q2 => go0 (fun z => q2 z.2.1), fun q2 => ?_⟩
        refine m_wouldTear (F := fcR ρ P 0 0 (h : Int) g) (k := k) wg (by rw [eg]; exact k1') (by rw [eg]; exact q2) (by rw [eg]; exact fun b hb => fc_bd w hb) (by rw [eg]; exact eF) ?_
        rw [eg]
        refine vc220_130 ⟨fun q3 => go0 (fun z => by rw [z.2.2] at q3; exact absurd q3 (by decide)), fun q3 => ?_⟩
        rw [ek]
        exact ih (k + 1) 1 km (Or.inl ⟨rfl, tdT_s.mpr (Or.inr ⟨k1, q2, wt01.resolve_left q3⟩)⟩)
theorem m_s2 {X : mXX} {d : Nat} {Q : Option mV → mS → Prop} {σ α : Nat → Nat → Int} {ρ : Nat → Int} {P : List (Int × Int)} {g v1 v2 v3 v4 v5 v6 : Int} (w : WF ρ) (er : α 110 = ρ) (l : lwM α 6 10 P) (o : lwO 3 P) (hg : -1000 ≤ g ∧ g ≤ 1000) (hQ : ∀ γ x9 y11, Fα [115, 116, 118] α γ → lbX ρ P g 24 0 x9 → Go X (d + 7) 220 217 [some (vR 104), some (vI v1), some (vI v2), some (vI v3), some (vI (wr (v4 + tdI ρ P g))), some (vI v5), some (vI v6), some (vI g), some (vI (tdI ρ P g)), some (vI x9), some (vI 0), y11] [] (S0, σ, γ) (0, 0) Q) : ∀ (m h : Nat) (x8 x9 : Int) (γ : Nat → Nat → Int) (y11 : Option mV), h + m = 24 → Fα [115, 116, 118] α γ → tdX ρ P g h 0 x8 → lbX ρ P g h 0 x9 → Go X (d + 7) 220 81 [some (vR 104), some (vI v1), some (vI v2), some (vI v3), some (vI v4), some (vI v5), some (vI v6), some (vI g), some (vI x8), some (vI x9), some (vI (h : Int)), y11] [] (S0, σ, γ) (0, 0) Q := by
  have w2 := w.2.2.1
  intro m
  induction m with
  | zero =>
    intro h x8 x9 γ y11 hh hf T L
    have eh : h = 24 := hh
    subst eh
    have e := tdX_i T
    have z := hQ γ x9 y11 hf L
    rw [← e] at z
    refine vc220_81 ⟨fun _ => ⟨fun q => ?_, fun q => ?_⟩, fun q => absurd q (by decide)⟩
    · rw [q] at z ⊢; exact z
    · have q1 : x8 = 1 := by
        rcases T with T | T
        · exact T.1
        · exact absurd T.1 q
      rw [q1] at z ⊢; exact z
  | succ m ih =>
    intro h x8 x9 γ y11 hh hf T L
    have hl : (h : Int) < 24 := by omega
    have hm : h + 1 + m = 24 := by omega
    have eh := wrS (k := h) (by omega)
    have eg : γ 110 = ρ := (hf 110 (by decide)).trans er
    refine vc220_81 ⟨fun q => absurd hl q, fun _ => ?_⟩
    refine m_findForces (P := P) (by rw [eg]; exact w) (l.st (by rw [eg, er]) (hf 111 (by decide)) (hf 112 (by decide))) o (by decide) hg ?_
    intro δ hd eF
    rw [eg] at eF
    have ed : δ 110 = ρ := (hd 110 (by decide)).trans eg
    refine vc220_98 ?_
    refine m_s3 (P := P) w ed eF (fun x T2 => ?_) ((ρ 2).toNat - 1) 0 x8 (Nat.zero_add _) T
    refine m_s4 (P := P) w ed eF (fun x2 z11 L2 => ?_) (ρ 2).toNat 0 x9 (n_z w2.1) L
    rw [eh]
    exact ih (h + 1) x x2 δ z11 hm (hf.tr hd) T2 L2
theorem nls1 {s v : Int} {n : Nat} (h1 : 0 ≤ s ∧ s ≤ 7 * (n : Int)) (h2 : 0 ≤ v ∧ v ≤ 7) (hn : n < 100) : -1000 ≤ s + v ∧ s + v ≤ 1000 := by omega
theorem nls2 {s : Int} (h : -1000 ≤ s ∧ s ≤ 1000) : wr s = s := wr_of (by omega) (by omega)
theorem m_s1 {X : mXX} {d : Nat} {Q : Option mV → mS → Prop} {σ γ : Nat → Nat → Int} {ρ : Nat → Int} {P : List (Int × Int)} {g v1 v2 v3 v4 v5 v6 v8 x : Int} (w : WF ρ) (eg : γ 110 = ρ) (L : lbX ρ P g 24 0 x) (v6b : 0 ≤ v6 ∧ v6 < 100) (v5b : 0 ≤ v5 ∧ v5 ≤ 7 * v6) (hQ : ∀ x10 y11, Go X (d + 7) 220 52 [some (vR 104), some (vI v1), some (vI v2), some (vI v3), some (vI v4), some (vI (v5 + lsS ρ P g (ρ 2).toNat)), some (vI (wr (v6 + 1))), some (vI g), some (vI v8), some (vI x), x10, y11] [] (S0, σ, γ) (0, 0) Q) : ∀ (m b : Nat) (y11 : Option mV), ((b + m : Nat) : Int) = ρ 2 → Go X (d + 7) 220 217 [some (vR 104), some (vI v1), some (vI v2), some (vI v3), some (vI v4), some (vI (v5 + lsS ρ P g b)), some (vI v6), some (vI g), some (vI v8), some (vI x), some (vI (b : Int)), y11] [] (S0, σ, γ) (0, 0) Q := by
  have w2 := w.2.2.1
  intro m
  induction m with
  | zero =>
    intro b y11 hb
    have nb : ¬ (b : Int) < ρ 2 := by omega
    have e : (ρ 2).toNat = b := by omega
    rw [e] at hQ
    refine vc220_217 ?_
    refine vc159_0 ?_
    rw [eg]
    exact vc220_223 ⟨fun _ => hQ _ _, fun q => absurd q nb⟩
  | succ m ih =>
    intro b y11 hb
    have hb2 : (b : Int) < ρ 2 := by omega
    have bm : ((b + 1 + m : Nat) : Int) = ρ 2 := by omega
    have b7 := w.m7 hb2
    have ek := wrS (k := b) (by omega)
    have lb := ls_b (ρ := ρ) (P := P) (g := g) (n := b + 1)
    have es : lsS ρ P g (b + 1) = lsS ρ P g b + lsI ρ P g (0 + b) := rfl
    rw [Nat.zero_add] at es
    have ei : iAnd (iShr x (b : Int)) 1 = lsI ρ P g b := by
      by_cases h : lsP ρ P g b 24
      · rw [ls_1 h]; exact (L.2 b hb2).1 (Or.inl h)
      · rw [ls_0 h]
        refine (L.2 b hb2).2 (fun z => ?_)
        rcases z with z | ⟨z, _⟩
        · exact h z
        · exact absurd z (Nat.not_lt_zero b)
    have i1 := ih (b + 1)
    rw [es] at i1 lb
    refine vc220_217 ?_
    refine vc159_0 ?_
    rw [eg]
    refine vc220_223 ⟨fun q => absurd hb2 q, fun _ => ?_⟩
    rw [ei, ek]
    have en : wr (v5 + lsS ρ P g b + lsI ρ P g b) = v5 + (lsS ρ P g b + lsI ρ P g b) := by
      clear ei es i1 ih hQ L eg ek
      generalize lsS ρ P g b = u at *
      generalize lsI ρ P g b = t at *
      rw [wr_of (by omega) (by omega)]; omega
    rw [en]
    exact i1 _ bm
theorem m_seasons {X : mXX} {d : Nat} {Q : Option mV → mS → Prop} {σ α : Nat → Nat → Int} {P : List (Int × Int)} {seed days what : Int} (w : WF (α 110)) (l : lwM α 6 10 P) (o : lwO 3 P) (h1 : seB seed days what → ∀ σ' α', Fσ [(104, 0), (104, 33)] σ σ' → Fα [115, 116, 118] α α' → Q (some (vI (seR (α 110) P seed days what))) (S0, σ', α')) (h0 : ¬ seB seed days what → Q (some (vI (-1))) (S0, mUp σ 104 0 0, α)) : Ca X (d + 8) 220 [vR 104, vI seed, vI days, vI what] (S0, σ, α) Q := by
  unfold seB at h1 h0
  have w2 := w.2.2.1
  refine vc220_0 ?_
  refine m_within ?_
  by_cases hs : 0 ≤ seed ∧ seed ≤ 9999
  · rw [wi1 hs]
    refine vc220_13 ⟨fun q => absurd q (by decide), fun _ => ?_⟩
    refine m_within ?_
    by_cases hd : 1 ≤ days ∧ days ≤ 99
    · rw [wi1 hd]
      refine vc220_23 ⟨fun q => absurd q (by decide), fun _ => ?_⟩
      refine m_within ?_
      by_cases hw : 0 ≤ what ∧ what ≤ 1
      · rw [wi1 hw]
        refine vc220_32 ⟨fun _ => ?_, fun q => absurd q (by decide)⟩
        have hQ := h1 ⟨hs, hd, hw⟩
        clear h1 h0
        obtain ⟨N, hN⟩ := Int.eq_ofNat_of_zero_le (show 0 ≤ days by omega)
        subst hN
        have w4 := w.2.2.2.2.1
        have e4 : wr (α 110 4 + 1) = α 110 4 + 1 := wr_of (by omega) (by omega)
        have n4 : α 110 4 + 1 ≠ 0 := by clear e4; omega
        have m4 : 0 < α 110 4 + 1 ∧ α 110 4 + 1 ≤ 51 := by clear e4; omega
        unfold seR at hQ
        rw [Int.toNat_natCast] at hQ
        have key : ∀ (m i : Nat) (σ1 γ : Nat → Nat → Int) (x7 x8 x9 x10 x11 : Option mV), i + m = N → Fσ [(104, 0), (104, 33)] σ σ1 → σ1 104 33 = gS seed i → Fα [115, 116, 118] α γ → Go X (d + 7) 220 52 [some (vR 104), some (vI seed), some (vI (N : Int)), some (vI what), some (vI (smF (sva (α 110) P seed) 0 i)), some (vI (smF (svb (α 110) P seed) 0 i)), some (vI (i : Int)), x7, x8, x9, x10, x11] [] (S0, σ1, γ) (0, 0) Q := by
          intro m
          induction m with
          | zero =>
            intro i σ1 γ x7 x8 x9 x10 x11 hi hs1 e33 hf
            have e : i = N := hi
            subst e
            have z := hQ σ1 γ hs1 hf
            refine vc220_52 ⟨fun _ => ⟨fun q => ?_, fun q => ?_⟩, fun q => absurd q (Int.lt_irrefl _)⟩
            · rw [if_neg q] at z; exact z
            · rw [if_pos q] at z; exact z
          | succ m ih =>
            intro i σ1 γ x7 x8 x9 x10 x11 hi hs1 e33 hf
            have il : (i : Int) < (N : Int) := by clear e33 e4; omega
            have im : i + 1 + m = N := by clear e33 e4; omega
            have i100 : i < 100 := by clear e33 e4; omega
            have ib : 0 ≤ (i : Int) ∧ (i : Int) < 100 := by clear e33 e4; omega
            have ek := wrS (k := i) (by clear e33 e4; omega)
            have gb := ga_bd (gS_bd (i := i + 1) hs) m4
            have gb' : -1000 ≤ gaG (α 110 4 + 1) (gS seed (i + 1)) ∧ gaG (α 110 4 + 1) (gS seed (i + 1)) ≤ 1000 := ⟨Int.le_trans (by decide) gb.1, Int.le_trans gb.2 (by decide)⟩
            have eg : γ 110 = α 110 := hf 110 (by decide)
            refine vc220_52 ⟨fun q => absurd il q, fun _ => ?_⟩
            rw [eg, e4]
            refine vc221_0 ⟨n4, ?_⟩
            rw [e33]
            have g1 : Int.tmod (wl (wl (gS seed i * 1103515245) + 12345)) 2147483648 = gS seed (i + 1) := rfl
            have g2 : wr (Int.tmod (wl (Int.tdiv (gS seed (i + 1)) 65536)) (α 110 4 + 1)) = gaG (α 110 4 + 1) (gS seed (i + 1)) := rfl
            rw [g1, g2]
            refine vc220_70 ?_
            have hs2 : Fσ [(104, 0), (104, 33)] σ (mUp σ1 104 33 (gS seed (i + 1))) := hs1.tr (Fσ.up (by decide))
            have i1 := ih (i + 1) (mUp σ1 104 33 (gS seed (i + 1)))
            have ea : smF (sva (α 110) P seed) 0 (i + 1) = smF (sva (α 110) P seed) 0 i + sva (α 110) P seed (0 + i) := rfl
            have eb : smF (svb (α 110) P seed) 0 (i + 1) = smF (svb (α 110) P seed) 0 i + svb (α 110) P seed (0 + i) := rfl
            rw [Nat.zero_add] at ea eb
            rw [ea, eb] at i1
            have sb := sv_b (svb_b (P := P) (seed := seed) w) i
            refine m_s2 (P := P) (α := γ) (by exact w) eg (l.st (by rw [eg]) (hf 111 (by decide)) (hf 112 (by decide))) o gb' (fun δ y9 y11 hd2 L => ?_) 24 0 0 0 γ x11 (Nat.zero_add _) Fα.rf (Or.inr ⟨rfl, fun ⟨h', k', a, _⟩ => ?_⟩) (lb_0 w)
            · rw [show tdI (α 110) P (gaG (α 110 4 + 1) (gS seed (i + 1))) = sva (α 110) P seed i from rfl, nse (sv_b (sva_b (ρ := α 110) (P := P) (seed := seed)) i) (sva_b (ρ := α 110) (P := P) (seed := seed) i) i100]
              have ed : δ 110 = α 110 := (hd2 110 (by decide)).trans eg
              have r := m_s1 (X := X) (d := d) (Q := Q) (σ := mUp σ1 104 33 (gS seed (i + 1))) (γ := δ) (P := P) (v1 := seed) (v2 := (N : Int)) (v3 := what) (v4 := smF (sva (α 110) P seed) 0 i + sva (α 110) P seed i) (v8 := sva (α 110) P seed i) w ed L ib sb (fun x10' y11' => ?_) (α 110 2).toNat 0 y11 (n_z w2.1)
              · rw [show lsS (α 110) P (gaG (α 110 4 + 1) (gS seed (i + 1))) 0 = 0 from rfl, Int.add_zero] at r
                exact r
              · rw [ek]
                exact i1 δ _ _ _ _ _ im hs2 up_s (hf.tr hd2)
            · rcases a with a | ⟨_, a⟩
              · exact absurd a (Nat.not_lt_zero h')
              · exact absurd a (Nat.not_lt_zero k')
        exact key N 0 _ α none none none none none (Nat.zero_add N) ((Fσ.up (by decide)).tr (Fσ.up (by decide))) up_s Fα.rf
      · rw [wi0 hw]
        exact vc220_32 ⟨fun q => absurd rfl q, fun _ => h0 (fun z => hw z.2.2)⟩
    · rw [wi0 hd]
      exact vc220_23 ⟨fun _ => h0 (fun z => hd z.2.1), fun q => absurd rfl q⟩
  · rw [wi0 hs]
    exact vc220_13 ⟨fun _ => h0 (fun z => hs z.1), fun q => absurd rfl q⟩
