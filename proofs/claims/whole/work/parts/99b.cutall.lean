/-! The reference cuts all -/
theorem sr_1 : srK 1 = 4 ∧ srK 4 = 3 ∧ srK 0 = 0 := by decide
theorem m_cutAll {X : mXX} {d : Nat} {Q : Option mV → mS → Prop} {σ α : Nat → Nat → Int} {T : Nat → Int} {N : Nat} (hT : ∀ j, j < N → α 105 j = T j) (ok : okT T N) (s2 : σ 104 2 = (N : Int)) (hQ : ∀ σ' α', Fσ [(104, 2), (104, 3), (104, 7), (104, 8)] σ σ' → Fα [106, 107, 108] α α' → σ' 104 2 = 0 → σ' 104 7 = 0 → σ' 104 8 = 0 → MTk α' T N → Q none (S0, σ', α')) : Ca X (d + 4) 130 [vR 104] (S0, σ, α) Q := by
  have N1 := ok.1
  refine vc130_0 ?_
  rw [s2]
  have f0 : Fσ [(104, 2), (104, 3), (104, 7), (104, 8)] σ (mUp (mUp σ 104 3 (N : Int)) 104 2 0) := (Fσ.up (by decide)).tr (Fσ.up (by decide))
  have t3 : mUp (mUp σ 104 3 (N : Int)) 104 2 0 104 3 = (N : Int) := by rw [up_n (by decide), up_s]
  have t2 : mUp (mUp σ 104 3 (N : Int)) 104 2 0 104 2 = 0 := up_s
  generalize mUp (mUp σ 104 3 (N : Int)) 104 2 0 = τ at *
  have key : ∀ (g i p : Nat) (γ : Nat → Nat → Int) (x3 x4 x5 : Option mV), p + g = N → psI T N i ≤ p → skN T N (N - p) p = plI T N i → (∀ j, j < i → kdI T N j ≠ 0) → Fα [106, 107, 108] α γ → (∀ j, j < i → MTi γ T N j) → Go X (d + 3) 130 17 [some (vR 104), some (vI (i : Int)), some (vI (p : Int)), x3, x4, x5, none] [] (S0, τ, γ) (0, 0) Q := by
    intro g
    induction g using Nat.strongRecOn with
    | ind g ih =>
      intro i p γ x3 x4 x5 hp hps hsk nk hf M
      have iN : i ≤ N := Nat.le_trans (ps_i nk) ps_b
      have i2 : i < 1002 := by clear hsk; omega
      have eg : ∀ j, j < N → γ 105 j = T j := fun j hj => by rw [hf 105 (by decide)]; exact hT j hj
      by_cases pn : p < N
      · have pl : (p : Int) < (N : Int) := Int.ofNat_lt.mpr pn
        have p1 : p < 1000 := Nat.lt_of_lt_of_le pn N1
        have ek := wrS (k := p) (Nat.lt_of_lt_of_le p1 (by decide))
        have ei := wrS (k := i) (Nat.lt_of_lt_of_le i2 (by decide))
        obtain ⟨f, hfz⟩ : ∃ f, N - p = f + 1 := ⟨N - p - 1, by clear hsk ek ei; omega⟩
        have hf1 : N - (p + 1) = f := by clear hsk ek ei; omega
        have esk : skN T N (N - p) p = if p < N ∧ (T p = 10 ∨ T p = 32) then skN T N f (p + 1) else p := by rw [hfz]; rfl
        have space : (T p = 10 ∨ T p = 32) → ∀ y3 y4 y5, Go X (d + 3) 130 17 [some (vR 104), some (vI (i : Int)), some (vI (wr ((p : Int) + 1))), y3, y4, y5, none] [] (S0, τ, γ) (0, 0) Q := by
          intro h y3 y4 y5
          rw [ek]
          refine ih (g - 1) (by clear hsk ek ei; omega) i (p + 1) γ y3 y4 y5 (by clear hsk ek ei; omega) (Nat.le_succ_of_le hps) ?_ nk hf M
          rw [hf1, ← hsk, esk, if_pos ⟨pn, h⟩]
        refine vc130_17 ⟨fun z => absurd (by rw [t3]; exact pl) z, fun _ => ⟨mInA_n p1, ?_⟩⟩
        rw [Int.toNat_natCast, eg p pn]
        refine ⟨fun z => space (Or.inl z) _ _ _, fun z => ⟨fun z2 => ⟨mInA_n i2, ?_⟩, fun z2 => space (Or.inr z2) _ _ _⟩⟩
        have epl : plI T N i = p := by rw [← hsk, esk, if_neg (fun y => y.2.elim z z2)]
        rw [Int.toNat_natCast]
        -- a token is put down
        have put : ∀ (δ : Nat → Nat → Int) (y3 y4 y5 : Option mV), Fα [106, 107, 108] α δ → (∀ j, j < i → MTi δ T N j) → MTi δ T N i → kdI T N i ≠ 0 → Go X (d + 3) 130 17 [some (vR 104), some (vI (wr ((i : Int) + 1))), some (vI ((teQ T N p : Nat) : Int)), y3, y4, y5, none] [] (S0, τ, δ) (0, 0) Q := by
          intro δ y3 y4 y5 hd Md Mi kn
          have en : teQ T N p = psI T N (i + 1) := by rw [ps_s, ← epl]; rfl
          have eb := te_b (T := T) (N := N) (q := p) (Nat.le_of_lt pn)
          have elt := eb.2.2 pn
          rw [ei]
          refine ih (N - teQ T N p) (by clear hsk ek ei en; omega) (i + 1) (teQ T N p) δ y3 y4 y5 (Nat.add_sub_cancel' eb.2.1) (Nat.le_of_eq en.symm) ?_ (fun j hj => ?_) hd (fun j hj => ?_)
          · rw [en]; rfl
          · by_cases e : j = i
            · rw [e]; exact kn
            · exact nk j (Nat.lt_of_le_of_ne (Nat.le_of_lt_succ hj) e)
          · by_cases e : j = i
            · rw [e]; exact Mi
            · exact Md j (Nat.lt_of_le_of_ne (Nat.le_of_lt_succ hj) e)
        have h105 : ∀ j, j < N → mUp γ 107 i (p : Int) 105 j = T j := fun j hj => by rw [up_o (by decide)]; exact eg j hj
        have kde : kdI T N i = tkQ T N p := by unfold kdI; rw [epl]
        have ene : enI T N i = teQ T N p := by unfold enI; rw [epl]
        have kn0 : tkQ T N p ≠ 0 := by
          unfold tkQ
          rw [if_pos pn]
          split
          · split <;> decide
          · split
            · split <;> decide
            · split <;> decide
        have old : ∀ (δ : Nat → Nat → Int) (r v : Int), δ 106 = (fun j => if j = i then r else mUp γ 107 i (p : Int) 106 j) → δ 107 = mUp γ 107 i (p : Int) 107 → δ 108 = (fun j => if j = i then v else mUp γ 107 i (p : Int) 108 j) → ∀ j, j < i → MTi δ T N j := by
          intro δ r v e6 e7 e8 j hj
          have ne := Nat.ne_of_lt hj
          refine (M j hj).fr ?_ ?_ ?_
          · rw [e6]
            show (if j = i then r else mUp γ 107 i (p : Int) 106 j) = _
            rw [if_neg ne, up_o (by decide)]
          · rw [e7, up_a, if_neg ne]
          · rw [e8]
            show (if j = i then v else mUp γ 107 i (p : Int) 108 j) = _
            rw [if_neg ne, up_o (by decide)]
        have nw : ∀ (δ : Nat → Nat → Int) (v : Int), δ 106 = (fun j => if j = i then srK (tkQ T N p) else mUp γ 107 i (p : Int) 106 j) → δ 107 = mUp γ 107 i (p : Int) 107 → δ 108 = (fun j => if j = i then v else mUp γ 107 i (p : Int) 108 j) → (tkQ T N p = 2 → v = hsN T p (teQ T N p - p)) → (tkQ T N p = 3 → v = nmN T p (teQ T N p - p)) → (tkQ T N p = 4 → v = T p) → MTi δ T N i := by
          intro δ v e6 e7 e8 h2 h3 h4
          unfold MTi
          rw [kde, ene, epl, e6, e7, e8]
          show ((if i = i then srK (tkQ T N p) else mUp γ 107 i (p : Int) 106 i) = _) ∧ _
          rw [if_pos rfl]
          refine ⟨rfl, up_s, fun q => ?_, fun q => ?_, fun q => ?_⟩
          · show (if i = i then v else _) = _
            rw [if_pos rfl]; exact h2 q
          · show (if i = i then v else _) = _
            rw [if_pos rfl]; exact h3 q
          · show (if i = i then v else _) = _
            rw [if_pos rfl]; exact h4 q
        have f7 : Fα [106, 107, 108] α (mUp γ 107 i (p : Int)) := hf.tr (Fα.up (by decide))
        refine m_isLetter (fun yl => ?_) (fun nl => ?_)
        · refine vc130_67 ⟨fun y => absurd y (by decide), fun _ => ?_⟩
          refine m_cutW (T := T) (N := N) h105 N1 i2 pn yl t3 (fun δ v y3 hd e6 e8 hv => ?_)
          have e7 : δ 107 = mUp γ 107 i (p : Int) 107 := hd 107 (by decide)
          refine put δ _ _ _ (f7.tr (hd.wk (by decide))) (old δ _ v e6 e7 e8) (nw δ v e6 e7 e8 (fun q => hv ?_) (fun q => ?_) (fun q => ?_)) (by rw [kde]; exact kn0)
          · unfold tkQ at q
            rw [if_pos pn, if_pos yl] at q
            by_cases h8 : teQ T N p - p ≤ 8
            · exact h8
            · rw [if_neg h8] at q; exact absurd q (by decide)
          · unfold tkQ at q
            rw [if_pos pn, if_pos yl] at q
            by_cases h8 : teQ T N p - p ≤ 8
            · rw [if_pos h8] at q; exact absurd q (by decide)
            · rw [if_neg h8] at q; exact absurd q (by decide)
          · unfold tkQ at q
            rw [if_pos pn, if_pos yl] at q
            by_cases h8 : teQ T N p - p ≤ 8
            · rw [if_pos h8] at q; exact absurd q (by decide)
            · rw [if_neg h8] at q; exact absurd q (by decide)
        · refine vc130_67 ⟨fun _ => ?_, fun y => absurd rfl y⟩
          refine m_isDigit (fun yd => ?_) (fun nd => ?_)
          · refine vc130_156 ⟨fun y => absurd y (by decide), fun _ => ?_⟩
            refine m_cutD (T := T) (N := N) h105 N1 i2 pn nl yd t3 (fun δ v y3 hd e6 e8 hv => ?_)
            have e7 : δ 107 = mUp γ 107 i (p : Int) 107 := hd 107 (by decide)
            refine put δ _ _ _ (f7.tr (hd.wk (by decide))) (old δ _ v e6 e7 e8) (nw δ v e6 e7 e8 (fun q => ?_) (fun q => hv ?_) (fun q => ?_)) (by rw [kde]; exact kn0)
            · unfold tkQ at q
              rw [if_pos pn, if_neg nl, if_pos yd] at q
              by_cases h8 : teQ T N p - p ≤ 4
              · rw [if_pos h8] at q; exact absurd q (by decide)
              · rw [if_neg h8] at q; exact absurd q (by decide)
            · unfold tkQ at q
              rw [if_pos pn, if_neg nl, if_pos yd] at q
              by_cases h8 : teQ T N p - p ≤ 4
              · exact h8
              · rw [if_neg h8] at q; exact absurd q (by decide)
            · unfold tkQ at q
              rw [if_pos pn, if_neg nl, if_pos yd] at q
              by_cases h8 : teQ T N p - p ≤ 4
              · rw [if_pos h8] at q; exact absurd q (by decide)
              · rw [if_neg h8] at q; exact absurd q (by decide)
          · have te : teQ T N p = p + 1 := by unfold teQ; rw [if_pos pn, if_neg nl, if_neg nd]
            refine vc130_156 ⟨fun _ => ?_, fun y => absurd rfl y⟩
            have ett : ∀ y3 y4 y5 δ, Go X (d + 3) 130 17 [some (vR 104), some (vI (wr ((i : Int) + 1))), some (vI ((teQ T N p : Nat) : Int)), y3, y4, y5, none] [] (S0, τ, δ) (0, 0) Q → Go X (d + 3) 130 17 [some (vR 104), some (vI (wr ((i : Int) + 1))), some (vI (wr ((p : Int) + 1))), y3, y4, y5, none] [] (S0, τ, δ) (0, 0) Q := by
              intro y3 y4 y5 δ h
              rw [ek, ← te]; exact h
            refine m_isSignOf (fun ys => ?_) (fun ns => ?_)
            · have tk : tkQ T N p = 4 := by unfold tkQ; rw [if_pos pn, if_neg nl, if_neg nd]; exact if_pos ys
              refine vc130_253 ⟨fun y => absurd y (by decide), fun _ => ⟨mInA_n i2, mInA_n i2, ?_⟩⟩
              rw [Int.toNat_natCast]
              refine ett _ _ _ _ (put _ _ _ _ (f7.tr ((Fα.up (by decide)).tr (Fα.up (by decide)))) (old _ 3 (T p) ?_ ?_ ?_) (nw _ (T p) ?_ ?_ ?_ (fun q => ?_) (fun q => ?_) (fun _ => rfl)) (by rw [kde]; exact kn0))
              · rw [up_o (by decide), up_f]
              · rw [up_o (by decide), up_o (by decide)]
              · rw [up_f, up_o (x := 108) (a := 106) (by decide)]
              · rw [up_o (by decide), up_f, tk, sr_1.2.1]
              · rw [up_o (by decide), up_o (by decide)]
              · rw [up_f, up_o (x := 108) (a := 106) (by decide)]
              · rw [tk] at q; exact absurd q (by decide)
              · rw [tk] at q; exact absurd q (by decide)
            · have tk : tkQ T N p = 1 := by unfold tkQ; rw [if_pos pn, if_neg nl, if_neg nd]; exact if_neg ns
              refine vc130_253 ⟨fun _ => ⟨mInA_n i2, mInA_n i2, ?_⟩, fun y => absurd rfl y⟩
              rw [Int.toNat_natCast]
              refine ett _ _ _ _ (put _ _ _ _ (f7.tr ((Fα.up (by decide)).tr (Fα.up (by decide)))) (old _ 4 (T p) ?_ ?_ ?_) (nw _ (T p) ?_ ?_ ?_ (fun q => ?_) (fun q => ?_) (fun _ => rfl)) (by rw [kde]; exact kn0))
              · rw [up_o (by decide), up_f]
              · rw [up_o (by decide), up_o (by decide)]
              · rw [up_f, up_o (x := 108) (a := 106) (by decide)]
              · rw [up_o (by decide), up_f, tk, sr_1.1]
              · rw [up_o (by decide), up_o (by decide)]
              · rw [up_f, up_o (x := 108) (a := 106) (by decide)]
              · rw [tk] at q; exact absurd q (by decide)
              · rw [tk] at q; exact absurd q (by decide)
      · have e : p = N := by clear hsk; omega
        have epl : plI T N i = p := by rw [← hsk, e, Nat.sub_self]; rfl
        have kd0 : kdI T N i = 0 := by unfold kdI tkQ; rw [epl, if_neg pn]
        have npl : ¬ (p : Int) < (N : Int) := fun z => pn (Int.ofNat_lt.mp z)
        refine vc130_17 ⟨fun _ => ⟨mInA_n i2, mInA_n i2, ?_⟩, fun z => absurd z (by rw [t3]; exact npl)⟩
        rw [Int.toNat_natCast, t3]
        refine hQ _ _ (f0.tr ((Fσ.up (by decide)).tr (Fσ.up (by decide)))) (hf.tr ((Fα.up (by decide)).tr (Fα.up (by decide)))) ?_ ?_ up_s (fun j hj => ?_)
        · rw [up_n (by decide), up_n (by decide)]; exact t2
        · rw [up_n (by decide), up_s]
        · by_cases ej : j = i
          · rw [ej]
            unfold MTi
            rw [kd0]
            refine ⟨?_, ?_, fun z => absurd z (by decide), fun z => absurd z (by decide), fun z => absurd z (by decide)⟩
            · rw [up_o (by decide), up_s, sr_1.2.2]
            · rw [up_s, epl, e]
          · have ji : j < i := by
              by_cases h : i < j
              · exact absurd kd0 (hj i h)
              · clear hsk; omega
            have ne := Nat.ne_of_lt ji
            refine (M j ji).fr ?_ ?_ ?_
            · rw [up_o (by decide), up_a, if_neg ne]
            · rw [up_a, if_neg ne, up_o (by decide)]
            · rw [up_o (by decide), up_o (by decide)]
  exact key N 0 0 α none none none (Nat.zero_add _) (Nat.zero_le _) rfl (fun j hj => absurd hj (Nat.not_lt_zero j)) Fα.rf (fun j hj => absurd hj (Nat.not_lt_zero j))
