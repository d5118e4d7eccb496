theorem c_gains {X : mXX} {d : Nat} {Q : Option mV → mS → Prop} {σ α : Nat → Nat → Int} {ρ : Nat → Int} {P W : List (Int × Int)} {b : Nat} (R : Rep σ α ρ) (w : WF ρ) (H : HRD α ρ P W 5) (hb : (b : Int) < ρ 2) (hQ : ∀ α', Fα [98] α α' → Q (some (vI (gnF (ggR ρ P W b) 5))) (S0, σ, α')) : Ca X (d + 2) 32 [vR 96, vI (b : Int)] (S0, σ, α) Q := by
  have b7 := w.m7 hb
  refine vc32_0 ?_
  have key : ∀ (m a : Nat) (γ : Nat → Nat → Int) (x4 : Option mV), a + m = 5 → Fα [98] α γ → (∀ v, v < 5 → cnR ρ v = 1 → ∀ i : Nat, (i : Int) < ρ 2 → i ≠ b → γ 98 (5 * i + v) = wsR ρ P W i v) → Go X (d + 1) 32 4 [some (vR 96), some (vI (b : Int)), some (vI (gnF (ggR ρ P W b) a)), some (vI (a : Int)), x4] [] (S0, σ, γ) (0, 0) Q := by
    intro m
    induction m with
    | zero =>
      intro a γ x4 ha hf h8
      have e : a = 5 := ha
      subst e
      exact vc32_4 ⟨fun _ => hQ γ hf, fun q => absurd q (by decide)⟩
    | succ m ih =>
      intro a γ x4 ha hf h8
      have a5 : a < 5 := by omega
      have al : (a : Int) < 5 := by omega
      have am : a + 1 + m = 5 := by omega
      have ek := wrS (k := a) (by omega)
      refine vc32_4 ⟨fun q => absurd al q, fun _ => ?_⟩
      have inner : ∀ (m' v : Nat) (δ : Nat → Nat → Int), v + m' = 5 → Fα [98] α δ → (∀ v, v < 5 → cnR ρ v = 1 → ∀ i : Nat, (i : Int) < ρ 2 → i ≠ b → δ 98 (5 * i + v) = wsR ρ P W i v) → (∀ u, u < v → δ 98 (5 * b + u) = if u = a then 99 else 0) → Go X (d + 1) 32 12 [some (vR 96), some (vI (b : Int)), some (vI (gnF (ggR ρ P W b) a)), some (vI (a : Int)), some (vI (v : Int))] [] (S0, σ, δ) (0, 0) Q := by
        intro m'
        induction m' with
        | zero =>
          intro v δ hv hd g8 gb
          have e : v = 5 := hv
          subst e
          refine vc32_12 ⟨fun _ => ?_, fun q => absurd q (by decide)⟩
          have e97 : δ 97 = α 97 := hd 97 (by decide)
          refine c_fav (S := ut ρ P W b a) (bar := fun _ => 0) (R.fr hd) w (fun v hv => by rw [e97]; exact (H v hv).1) (fun v hv c i hi => ⟨?_, ut_bd⟩) (fun v hv => ⟨fun _ => rfl, fun _ => bit0 ⟨v, hv⟩⟩) ?_
          · unfold ut
            by_cases h : i = b
            · rw [if_pos h, h]; exact gb v hv
            · rw [if_neg h]; exact g8 v hv c i hi h
          · have i1 := ih (a + 1) δ
            have gf := gg_fav (P := P) (W := W) w hb a5
            refine vc32_52 ⟨fun q => ?_, fun q => ?_⟩
            · rw [show gnF (ggR ρ P W b) (a + 1) = gnF (ggR ρ P W b) a from if_neg (fun z => q (gf.mpr z))] at i1
              rw [ek]; exact i1 _ am hd g8
            · rw [show gnF (ggR ρ P W b) (a + 1) = iOr (gnF (ggR ρ P W b) a) (iShl 1 (a : Int)) from if_pos (gf.mp q)] at i1
              rw [ek]; exact i1 _ am hd g8
        | succ m' ih' =>
          intro v δ hv hd g8 gb
          have v5 : v < 5 := by omega
          have vl : (v : Int) < 5 := by omega
          have vm : v + 1 + m' = 5 := by omega
          have ev := wrS (k := v) (by omega)
          have i35 : 5 * b + v < 35 := by omega
          have nx : ∀ z : Int, z = (if v = a then 99 else 0) → Go X (d + 1) 32 12 [some (vR 96), some (vI (b : Int)), some (vI (gnF (ggR ρ P W b) a)), some (vI (a : Int)), some (vI (wr ((v : Int) + 1)))] [] (S0, σ, mUp δ 98 (5 * b + v) z) (0, 0) Q := by
            intro z hz
            rw [ev]
            refine ih' (v + 1) _ vm (hd.tr (Fα.up (by decide))) (fun u hu c i hi hne => ?_) (fun u hu => ?_)
            · rw [up_a, if_neg (by omega)]; exact g8 u hu c i hi hne
            · rw [up_a]
              by_cases h : u = v
              · rw [if_pos (by rw [h]), h]; exact hz
              · rw [if_neg (by omega)]; exact gb u (by omega)
          refine vc32_12 ⟨fun q => absurd vl q, fun _ => ?_⟩
          rw [ixW b7 v5]
          refine ⟨fun q => ⟨mInA_n i35, ?_⟩, fun q => ⟨mInA_n i35, ?_⟩⟩
          · exact nx 0 (by rw [if_neg (fun z => q (congrArg (Nat.cast (R := Int)) z))])
          · exact nx 99 (by rw [if_pos (Int.ofNat_inj.mp q)])
      exact inner 5 0 γ (Nat.zero_add _) hf h8 (fun u hu => absurd hu (Nat.not_lt_zero u))
  exact key 5 0 α none (Nat.zero_add _) Fα.rf (fun v hv c i hi _ => (H v hv).2 c i hi)
theorem c_canGet {X : mXX} {d : Nat} {Q : Option mV → mS → Prop} {σ α : Nat → Nat → Int} {ρ : Nat → Int} {P W : List (Int × Int)} {b : Int} (C : CI σ α ρ P W) (w : WF ρ) (o : lwO 3 P) (ow : lwO 7 W) (hQ : ∀ α', Fα ZH α α' → CI σ α' ρ P W → Q (some (vI (cgt ρ P W b))) (S0, σ, α')) : Ca X (d + 6) 113 [vR 0, vI b] (S0, σ, α) Q := by
  refine vc113_0 ?_
  refine c_hasBoat C.1.2.2.1 ?_
  unfold cgt at hQ
  by_cases hb : 0 ≤ b ∧ b < ρ 2
  · rw [if_pos hb] at hQ
    rw [show hbR ρ b = 1 from if_pos hb]
    obtain ⟨n, hn⟩ := Int.eq_ofNat_of_zero_le hb.1
    subst hn
    rw [Int.toNat_natCast] at hQ
    have hp : 0 < ρ 2 := by omega
    refine vc113_8 ⟨fun _ => ?_, fun q => absurd q (by decide)⟩
    refine c_hear C w o ow hp ?_
    intro β hf Cb H
    refine vc113_20 ?_
    refine c_gains (P := P) (W := W) Cb.1 w H hb.2 ?_
    intro γ hg
    exact vc113_28 (hQ γ (hf.tr (hg.wk (by decide))) (Cb.fr hg))
  · rw [if_neg hb] at hQ
    rw [show hbR ρ b = 0 from if_neg hb]
    exact vc113_8 ⟨fun q => absurd rfl q, fun _ => hQ α Fα.rf C⟩
theorem nvv {s t : Int} (h1 : 0 ≤ s ∧ s ≤ 6237) (h2 : 0 ≤ t ∧ t ≤ 9) : wr (s + wr (99 * t)) = s + 99 * t := by
  rw [wr_of (x := 99 * t) (by omega) (by omega), wr_of (by omega) (by omega)]
theorem nvp {s t : Int} (h1 : 0 ≤ s ∧ s ≤ 6237) (h2 : 0 ≤ t ∧ t ≤ 9) : ¬ s + 99 * t < -1 ∧ -1 < s + 99 * t := by omega
theorem m_cg2 {X : mXX} {d : Nat} {Q : Option mV → mS → Prop} {σ α : Nat → Nat → Int} {P W : List (Int × Int)} {b u : Nat} {V B : Int} (w : WF (α 110)) (l : lwM α 6 10 P) (o : lwO 3 P) (lw : lwW α W) (ow : lwO 7 W) (hp : 0 < α 110 2) (hV : ¬ V < -1 ∧ -1 < V) (hQ : ∀ γ x6 x7, Fα [115, 116] α γ → Go X (d + 6) 210 19 [some (vR 104), some (vI (b : Int)), some (vI (if okN (cnR (α 110)) (wtB (α 110) P W (b : Int)) V u 5 = 0 then iOr B 0 else iOr B (iShl 1 (u : Int)))), some (vI (wr ((u : Int) + 1))), some (vI (okN (cnR (α 110)) (wtB (α 110) P W (b : Int)) V u 5)), some (vI V), x6, x7] [] (S0, σ, γ) (0, 0) Q) : ∀ (m e : Nat) (γ : Nat → Nat → Int) (x7 : Option mV), e + m = 5 → Fα [115, 116] α γ → Go X (d + 6) 210 62 [some (vR 104), some (vI (b : Int)), some (vI B), some (vI (u : Int)), some (vI (okN (cnR (α 110)) (wtB (α 110) P W (b : Int)) V u e)), some (vI V), some (vI (e : Int)), x7] [] (S0, σ, γ) (0, 0) Q := by
  generalize hO : okN (cnR (α 110)) (wtB (α 110) P W (b : Int)) V u = O at *
  have O1 : ∀ e, O (e + 1) = if O e = 0 then 0 else if e = u ∨ cnR (α 110) e ≠ 1 then 1 else if e < u then (if wtB (α 110) P W (b : Int) e < V then 1 else 0) else (if V < wtB (α 110) P W (b : Int) e then 0 else 1) := fun e => by rw [← hO]; rfl
  have O01 : ∀ e, O e = 0 ∨ O e = 1 := fun e => by rw [← hO]; exact ok01
  have Oz : ∀ e, O e = 0 → ∀ k, O (e + k) = 0 := by
    intro e h k
    induction k with
    | zero => exact h
    | succ k ih => rw [show e + (k + 1) = e + k + 1 from rfl, O1, if_pos ih]
  intro m
  induction m with
  | zero =>
    intro e γ x7 he hf
    have ee : e = 5 := he
    subst ee
    have z := hQ γ (some (vI ((5 : Nat) : Int))) x7 hf
    refine vc210_62 ⟨fun _ => ⟨fun q => ?_, fun q => ?_⟩, fun q => absurd q (by decide)⟩
    · rw [if_pos q] at z; exact z
    · rw [if_neg q] at z; exact z
  | succ m ih =>
    intro e γ x7 he hf
    have el : (e : Int) < 5 := by clear hV; omega
    have e5 : e < 5 := by clear hV; omega
    have em : e + 1 + m = 5 := by clear hV; omega
    have ek := wrS (k := e) (by clear hV; omega)
    have eg : γ 110 = α 110 := hf 110 (by decide)
    have wg : WF (γ 110) := by rw [eg]; exact w
    have i1 := ih (e + 1)
    refine vc210_62 ⟨fun q => absurd el q, fun _ => ⟨fun q => ⟨fun _ => ?_, fun q2 => absurd q q2⟩, fun q => ?_⟩⟩
    · have z := hQ γ (some (vI (e : Int))) x7 hf
      have o5 : O 5 = 0 := by have := Oz e q (5 - e); rw [show e + (5 - e) = 5 by clear hV; omega] at this; exact this
      rw [o5, if_pos rfl] at z
      rw [q]; exact z
    · have q9 := (O01 e).resolve_left q
      have oe := O1 e
      rw [if_neg q] at oe
      have pass : ∀ δ y7, Fα [115, 116] α δ → (e = u ∨ cnR (α 110) e ≠ 1) → Go X (d + 6) 210 62 [some (vR 104), some (vI (b : Int)), some (vI B), some (vI (u : Int)), some (vI 1), some (vI V), some (vI (wr ((e : Int) + 1))), y7] [] (S0, σ, δ) (0, 0) Q := by
        intro δ y7 hd h
        rw [if_pos h] at oe
        rw [oe] at i1
        rw [ek]; exact i1 δ y7 em hd
      refine ⟨fun q2 => ⟨fun q3 => ⟨fun q4 => absurd q4 hV.1, fun _ => ?_⟩, fun q3 => absurd (show (e : Int) < (u : Int) from q3) (by rw [q2]; exact Int.lt_irrefl _)⟩, fun q2 => ?_⟩
      · exact pass γ _ hf (Or.inl (Int.ofNat_inj.mp q2))
      · refine m_canAll wg (by rw [eg]; exact hp) ?_
        rw [eg]
        refine vc210_85 ⟨fun q3 => ?_, fun q3 => ?_⟩
        · have pn : cnR (α 110) e ≠ 1 := by rw [q3]; decide
          exact ⟨fun q4 => ⟨fun q5 => absurd q5 hV.1, fun _ => pass γ _ hf (Or.inr pn)⟩, fun q4 => ⟨fun q5 => absurd hV.2 q5, fun _ => pass γ _ hf (Or.inr pn)⟩⟩
        · have c1 := cn01.resolve_left q3
          refine m_sumFor (P := P) (W := W) (but := (b : Int)) wg (l.st (by rw [eg]) (hf 111 (by decide)) (hf 112 (by decide))) o (lw.st (by rw [eg]) (hf 111 (by decide)) (hf 112 (by decide))) ow (by rw [eg]; exact c1) ?_
          intro δ hd
          rw [eg]
          have hde := hf.tr hd
          have neu : ¬ (e = u ∨ cnR (α 110) e ≠ 1) := fun z => by
            rcases z with z | z
            · exact q2 (congrArg (Nat.cast (R := Int)) z)
            · exact z c1
          rw [if_neg neu] at oe
          refine vc210_95 ⟨fun q4 => ⟨fun q5 => ?_, fun q5 => ?_⟩, fun q4 => ⟨fun q5 => ?_, fun q5 => ?_⟩⟩
          · rw [if_neg (fun z => q4 (Int.ofNat_lt.mpr z)), if_pos q5] at oe
            rw [oe] at i1; rw [ek]; exact i1 δ _ em hde
          · rw [if_neg (fun z => q4 (Int.ofNat_lt.mpr z)), if_neg q5] at oe
            rw [oe] at i1; rw [ek]; exact i1 δ _ em hde
          · rw [if_pos (Int.ofNat_lt.mp q4), if_neg q5] at oe
            rw [oe] at i1; rw [ek]; exact i1 δ _ em hde
          · rw [if_pos (Int.ofNat_lt.mp q4), if_pos q5] at oe
            rw [oe] at i1; rw [ek]; exact i1 δ _ em hde
theorem m_canGet {X : mXX} {d : Nat} {Q : Option mV → mS → Prop} {σ α : Nat → Nat → Int} {P W : List (Int × Int)} {b : Int} (w : WF (α 110)) (l : lwM α 6 10 P) (o : lwO 3 P) (lw : lwW α W) (ow : lwO 7 W) (hQ : ∀ α', Fα [115, 116] α α' → Q (some (vI (cgt (α 110) P W b))) (S0, mUp σ 104 0 0, α')) : Ca X (d + 7) 210 [vR 104, vI b] (S0, σ, α) Q := by
  refine vc210_0 ?_
  refine m_isBoat ?_
  unfold cgt at hQ
  by_cases hb : 0 ≤ b ∧ b < α 110 2
  · rw [if_pos hb] at hQ
    rw [show hbR (α 110) b = 1 from if_pos hb]
    obtain ⟨n, hn⟩ := Int.eq_ofNat_of_zero_le hb.1
    subst hn
    rw [Int.toNat_natCast] at hQ
    have hp : 0 < α 110 2 := by omega
    have n7 := w.m7 hb.2
    have f0 : 0 ≤ (n : Int) ∧ (n : Int) < 7 := by omega
    have t := (w.b hb.2).2.2.2.2.2.2.2.1
    refine vc210_10 ⟨fun _ => ?_, fun q => absurd q (by decide)⟩
    have key : ∀ (m u : Nat) (γ : Nat → Nat → Int) (x4 x5 x6 x7 : Option mV), u + m = 5 → Fα [115, 116] α γ → Go X (d + 6) 210 19 [some (vR 104), some (vI (n : Int)), some (vI (gnF (ggR (α 110) P W n) u)), some (vI (u : Int)), x4, x5, x6, x7] [] (S0, mUp σ 104 0 0, γ) (0, 0) Q := by
      intro m
      induction m with
      | zero =>
        intro u γ x4 x5 x6 x7 hu hf
        have e : u = 5 := hu
        subst e
        exact vc210_19 ⟨fun _ => hQ γ hf, fun q => absurd q (by decide)⟩
      | succ m ih =>
        intro u γ x4 x5 x6 x7 hu hf
        have ul : (u : Int) < 5 := by clear t; omega
        have um : u + 1 + m = 5 := by clear t; omega
        have ek := wrS (k := u) (by clear t; omega)
        have eg : γ 110 = α 110 := hf 110 (by decide)
        have wg : WF (γ 110) := by rw [eg]; exact w
        have lg : lwM γ 6 10 P := l.st (by rw [eg]) (hf 111 (by decide)) (hf 112 (by decide))
        have lwg : lwW γ W := lw.st (by rw [eg]) (hf 111 (by decide)) (hf 112 (by decide))
        have i1 := ih (u + 1)
        refine vc210_19 ⟨fun q => absurd ul q, fun _ => ?_⟩
        refine m_canAll wg (by rw [eg]; exact hp) ?_
        rw [eg]
        refine vc210_29 ⟨fun q => ?_, fun q => ?_⟩
        · have e0 : gnF (ggR (α 110) P W n) (u + 1) = gnF (ggR (α 110) P W n) u := by
            refine if_neg (fun z => ?_)
            have : ggR (α 110) P W n u = 0 := if_neg (by rw [q]; decide)
            rw [this] at z; exact absurd z (by decide)
          rw [e0] at i1
          rw [q]
          refine vc210_62 ⟨fun q2 => absurd (by decide) q2, fun _ => ⟨fun _ => ⟨fun _ => ?_, fun q2 => absurd rfl q2⟩, fun q2 => absurd rfl q2⟩⟩
          rw [ek, iOr0 gn_r]
          exact i1 γ _ _ _ _ um hf
        · have c1 := cn01.resolve_left q
          refine m_sumFor (P := P) (W := W) (but := (n : Int)) wg lg o lwg ow (by rw [eg]; exact c1) ?_
          intro δ hd
          have hde := hf.tr hd
          have ed : δ 110 = α 110 := hde 110 (by decide)
          have wb := wtB_b (P := P) (W := W) (but := (n : Int)) (v := u) w
          rw [eg]
          refine vc210_42 ?_
          refine m_of f0 ?_
          rw [oo7, ed]
          refine vc210_51 ?_
          rw [nvv wb t, c1]
          refine m_cg2 (α := α) (P := P) (W := W) (V := vvR (α 110) P W n u) (B := gnF (ggR (α 110) P W n) u) w l o lw ow hp (nvp wb t) (fun ε y6 y7 he => ?_) 5 0 δ x7 (Nat.zero_add _) hde
          have eG : ggR (α 110) P W n u = okN (cnR (α 110)) (wtB (α 110) P W (n : Int)) (vvR (α 110) P W n u) u 5 := if_pos c1
          have es : gnF (ggR (α 110) P W n) (u + 1) = if okN (cnR (α 110)) (wtB (α 110) P W (n : Int)) (vvR (α 110) P W n u) u 5 = 0 then iOr (gnF (ggR (α 110) P W n) u) 0 else iOr (gnF (ggR (α 110) P W n) u) (iShl 1 (u : Int)) := by
            show (if ggR (α 110) P W n u = 1 then iOr (gnF (ggR (α 110) P W n) u) (iShl 1 (u : Int)) else gnF (ggR (α 110) P W n) u) = _
            rw [eG, iOr0 gn_r]
            rcases ok01 (can := cnR (α 110)) (wt := wtB (α 110) P W (n : Int)) (V := vvR (α 110) P W n u) (w := u) (e := 5) with h | h
            · rw [h, if_neg (by decide), if_pos rfl]
            · rw [h, if_pos rfl, if_neg (by decide)]
          rw [es] at i1
          rw [ek]
          exact i1 ε _ _ _ _ um he
    exact key 5 0 α none none none none (Nat.zero_add _) Fα.rf
  · rw [if_neg hb] at hQ
    rw [show hbR (α 110) b = 0 from if_neg hb]
    exact vc210_10 ⟨fun q => absurd rfl q, fun _ => hQ α Fα.rf⟩
