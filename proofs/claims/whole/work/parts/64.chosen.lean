/-! What is chosen, in both -/
def twb (ρ : Nat → Int) (S : Nat → Nat → Int) (but : Int) (v b : Nat) : Int := if (b : Int) = but then 0 else tw ρ S v b
theorem tb_b {ρ : Nat → Int} {S : Nat → Nat → Int} {but : Int} {v : Nat} (w : WF ρ) (hS : ∀ b : Nat, (b : Int) < ρ 2 → 0 ≤ S b v ∧ S b v ≤ 99) {n : Nat} (hn : (n : Int) ≤ ρ 2) : smB (twb ρ S but v) 891 n := fun b hb => by
  unfold twb
  split
  · decide
  · exact tw_b w hS hn b hb
def wtB (ρ : Nat → Int) (P W : List (Int × Int)) (but : Int) (v : Nat) : Int := smF (twb ρ (wsR ρ P W) but v) 0 (ρ 2).toNat
theorem wtB_n {ρ : Nat → Int} {P W : List (Int × Int)} {v : Nat} : wtB ρ P W (-1) v = wtS ρ (wsR ρ P W) v := by
  refine smF_cg (fun b _ _ => ?_)
  exact if_neg (by omega)
theorem wtB_b {ρ : Nat → Int} {P W : List (Int × Int)} {but : Int} {v : Nat} (w : WF ρ) : 0 ≤ wtB ρ P W but v ∧ wtB ρ P W but v ≤ 6237 := by
  have w2 := w.2.2.1
  have h := sm_bk (tb_b (but := but) w (fun b _ => ws_bd (ρ := ρ) (P := P) (W := W) (b := b) (v := v)) (n := (ρ 2).toNat) (by omega))
  unfold wtB
  have h7 := w.n7
  refine ⟨h.1, Int.le_trans h.2 ?_⟩
  clear h
  omega
theorem wtS_p {ρ : Nat → Int} {P W : List (Int × Int)} (w : WF ρ) (v : Nat) : 0 ≤ wtS ρ (wsR ρ P W) v := by
  rw [← wtB_n]; exact (wtB_b w).1
theorem m_sumFor {X : mXX} {d : Nat} {Q : Option mV → mS → Prop} {σ α : Nat → Nat → Int} {P W : List (Int × Int)} {but : Int} {v : Nat} (w : WF (α 110)) (l : lwM α 6 10 P) (o : lwO 3 P) (lw : lwW α W) (ow : lwO 7 W) (hv : cnR (α 110) v = 1) (hQ : ∀ α', Fα [115, 116] α α' → Q (some (vI (wtB (α 110) P W but v))) (S0, σ, α')) : Ca X (d + 5) 209 [vR 104, vI (v : Int), vI but] (S0, σ, α) Q := by
  have w2 := w.2.2.1
  refine vc209_0 ?_
  have key : ∀ (m b : Nat) (γ : Nat → Nat → Int), ((b + m : Nat) : Int) = α 110 2 → Fα [115, 116] α γ → Go X (d + 4) 209 5 [some (vR 104), some (vI (v : Int)), some (vI but), some (vI (smF (twb (α 110) (wsR (α 110) P W) but v) 0 b)), some (vI (b : Int))] [] (S0, σ, γ) (0, 0) Q := by
    intro m
    induction m with
    | zero =>
      intro b γ hb hf
      have nb : ¬ (b : Int) < α 110 2 := by clear hv; omega
      have e : (α 110 2).toNat = b := by clear hv; omega
      have z := hQ γ hf
      unfold wtB at z
      rw [e] at z
      refine vc209_5 ?_
      refine vc159_0 ?_
      rw [hf 110 (by decide)]
      exact vc209_11 ⟨fun _ => z, fun q => absurd q nb⟩
    | succ m ih =>
      intro b γ hb hf
      have hb2 : (b : Int) < α 110 2 := by clear hv; omega
      have bm : ((b + 1 + m : Nat) : Int) = α 110 2 := by clear hv; omega
      have bl : ((b + 1 : Nat) : Int) ≤ α 110 2 := by clear hv; omega
      have b7 := w.m7 hb2
      have b17 : b + 1 ≤ 7 := b7
      have f0 : 0 ≤ (b : Int) ∧ (b : Int) < 7 := by clear hv; omega
      have ek := wrS (k := b) (by clear hv; omega)
      have eg : γ 110 = α 110 := hf 110 (by decide)
      have tb1 := tb_b (but := but) w (fun b _ => ws_bd (ρ := α 110) (P := P) (W := W) (b := b) (v := v)) bl
      have sb := sm_bk tb1
      have t1 := tb1 b (Nat.lt_succ_self b)
      have es : smF (twb (α 110) (wsR (α 110) P W) but v) 0 (b + 1) = smF (twb (α 110) (wsR (α 110) P W) but v) 0 b + twb (α 110) (wsR (α 110) P W) but v (0 + b) := rfl
      have i1 := ih (b + 1)
      rw [es, Nat.zero_add] at sb i1
      refine vc209_5 ?_
      refine vc159_0 ?_
      rw [eg]
      refine vc209_11 ⟨fun q => absurd hb2 q, fun _ => ⟨fun q => ?_, fun q => ?_⟩⟩
      · have inn := cn_in w hv hb2
        refine m_of f0 ?_
        rw [oo7, eg]
        refine vc209_33 ?_
        refine m_wishOf (W := W) (P := P) (by rw [eg]; exact w) (l.st (by rw [eg]) (hf 111 (by decide)) (hf 112 (by decide))) o (lw.st (by rw [eg]) (hf 111 (by decide)) (hf 112 (by decide))) ow (by rw [eg]; exact hb2) rfl rfl (by rw [eg]; exact inn.1) (by rw [eg]; exact inn.2) ?_
        intro δ hd
        rw [eg]
        refine vc209_40 ?_
        have et : twb (α 110) (wsR (α 110) P W) but v b = α 110 (209 + 12 * b) * wsR (α 110) P W b v := if_neg q
        rw [et] at sb i1 t1
        have e2 := nfv sb t1 b17
        rw [ek]
        have e3 : wr (smF (twb (α 110) (wsR (α 110) P W) but v) 0 b + wr (α 110 (209 + 12 * b) * wvR (α 110) P W b (α 110 (203 + 12 * b) + wxR (v : Int)) (α 110 (204 + 12 * b) + wyR (v : Int)))) = smF (twb (α 110) (wsR (α 110) P W) but v) 0 b + α 110 (209 + 12 * b) * wsR (α 110) P W b v := e2
        rw [e3]
        exact i1 δ bm (hf.tr hd)
      · have et : twb (α 110) (wsR (α 110) P W) but v b = 0 := if_pos q
        rw [et] at sb i1 t1
        rw [ek]
        have e2 := nfv sb t1 b17
        rw [show wr (0 : Int) = 0 from rfl] at e2
        rw [e2]
        exact i1 γ bm hf
  exact key (α 110 2).toNat 0 α (n_z w2.1) Fα.rf
def brR (ρ : Nat → Int) (P W : List (Int × Int)) (nob : Int) (v : Nat) : Int := if nob = 0 then 0 else anB (bsR ρ P W) v (ρ 2).toNat
def chR (ρ : Nat → Int) (P W : List (Int × Int)) (nob : Int) : Int := if ρ 2 = 0 then -1 else (fav (cnR ρ) (brR ρ P W nob) (wtS ρ (wsR ρ P W)) 5).1
theorem c_chosen {X : mXX} {d : Nat} {Q : Option mV → mS → Prop} {σ α : Nat → Nat → Int} {ρ : Nat → Int} {P W : List (Int × Int)} {nob : Int} (C : CI σ α ρ P W) (w : WF ρ) (o : lwO 3 P) (ow : lwO 7 W) (hQ : ∀ α', Fα ZH α α' → CI σ α' ρ P W → Q (some (vI (chR ρ P W nob))) (S0, σ, α')) : Ca X (d + 6) 112 [vR 0, vI nob] (S0, σ, α) Q := by
  have r2 := C.1.2.2.1
  have w2 := w.2.2.1
  unfold chR at hQ
  refine vc112_0 ?_
  rw [r2]
  refine ⟨fun q => ?_, fun q => ?_⟩
  · rw [if_neg q] at hQ
    have hp : 0 < ρ 2 := by omega
    refine c_hear C w o ow hp ?_
    intro β hf Cb H
    have z := hQ β hf Cb
    refine vc112_19 ⟨fun q2 => ?_, fun q2 => ?_⟩
    · refine c_fav (S := wsR ρ P W) (bar := brR ρ P W nob) Cb.1 w (fun v hv => (H v hv).1) (fun v hv c b hb => ⟨(H v hv).2 c b hb, ws_bd⟩) (fun v hv => ?_) ?_
      · exact ⟨fun _ => if_pos q2, fun _ => bit0 ⟨v, hv⟩⟩
      · exact vc112_41 z
    · refine c_bests (P := P) (W := W) Cb.1 w H ?_
      refine vc112_34 ?_
      refine c_fav (S := wsR ρ P W) (bar := brR ρ P W nob) Cb.1 w (fun v hv => (H v hv).1) (fun v hv c b hb => ⟨(H v hv).2 c b hb, ws_bd⟩) (fun v hv => ?_) ?_
      · rw [show brR ρ P W nob v = anB (bsR ρ P W) v (ρ 2).toNat from if_neg q2]
        exact bb_an (fun b => bs5) hv
      · exact vc112_41 z
  · rw [if_pos q] at hQ
    exact hQ α Fα.rf C
theorem m_chosen {X : mXX} {d : Nat} {Q : Option mV → mS → Prop} {σ α : Nat → Nat → Int} {P W : List (Int × Int)} {nob : Int} (w : WF (α 110)) (l : lwM α 6 10 P) (o : lwO 3 P) (lw : lwW α W) (ow : lwO 7 W) (hQ : ∀ α', Fα [115, 116] α α' → Q (some (vI (chR (α 110) P W nob))) (S0, mUp σ 104 0 0, α')) : Ca X (d + 7) 206 [vR 104, vI nob] (S0, σ, α) Q := by
  have w2 := w.2.2.1
  unfold chR at hQ
  refine vc206_0 ?_
  by_cases h0 : α 110 2 = 0
  · rw [if_pos h0] at hQ
    refine vc206_12 ⟨fun q => absurd (by decide) q, fun _ => ?_⟩
    refine vc159_0 ?_
    rw [h0]
    exact vc206_22 ⟨fun _ => hQ α Fα.rf, fun q => absurd q (by decide)⟩
  · rw [if_neg h0] at hQ
    have hp : 0 < α 110 2 := by omega
    have key : ∀ (m v : Nat) (γ : Nat → Nat → Int) (x5 : Option mV), v + m = 5 → Fα [115, 116] α γ → Go X (d + 6) 206 12 [some (vR 104), some (vI nob), some (vI (fav (cnR (α 110)) (brR (α 110) P W nob) (wtS (α 110) (wsR (α 110) P W)) v).1), some (vI (if (fav (cnR (α 110)) (brR (α 110) P W nob) (wtS (α 110) (wsR (α 110) P W)) v).1 < 0 then 0 else (fav (cnR (α 110)) (brR (α 110) P W nob) (wtS (α 110) (wsR (α 110) P W)) v).2)), some (vI (v : Int)), x5] [] (S0, mUp σ 104 0 0, γ) (0, 0) Q := by
      intro m
      induction m with
      | zero =>
        intro v γ x5 hv hf
        have e : v = 5 := hv
        subst e
        exact vc206_12 ⟨fun _ => hQ γ hf, fun q => absurd q (by decide)⟩
      | succ m ih =>
        intro v γ x5 hv hf
        have v5 : v < 5 := by omega
        have vl : (v : Int) < 5 := by omega
        have vm : v + 1 + m = 5 := by omega
        have ek := wrS (k := v) (by omega)
        have eg : γ 110 = α 110 := hf 110 (by decide)
        have wg : WF (γ 110) := by rw [eg]; exact w
        have fi := fav_i (can := cnR (α 110)) (bar := brR (α 110) P W nob) (wtS_p (P := P) (W := W) w) (v := v)
        have wp := wtS_p (P := P) (W := W) w v
        have lg : ∀ δ : Nat → Nat → Int, Fα [115, 116] α δ → lwM δ 6 10 P := fun δ h => l.st (by rw [h 110 (by decide)]) (h 111 (by decide)) (h 112 (by decide))
        have lwg : ∀ δ : Nat → Nat → Int, Fα [115, 116] α δ → lwW δ W := fun δ h => lw.st (by rw [h 110 (by decide)]) (h 111 (by decide)) (h 112 (by decide))
        have i1 := ih (v + 1)
        have go0 : ∀ δ y5, Fα [115, 116] α δ → ¬ (cnR (α 110) v = 1 ∧ brR (α 110) P W nob v = 0 ∧ (fav (cnR (α 110)) (brR (α 110) P W nob) (wtS (α 110) (wsR (α 110) P W)) v).2 < wtS (α 110) (wsR (α 110) P W) v) → Go X (d + 6) 206 12 [some (vR 104), some (vI nob), some (vI (fav (cnR (α 110)) (brR (α 110) P W nob) (wtS (α 110) (wsR (α 110) P W)) v).1), some (vI (if (fav (cnR (α 110)) (brR (α 110) P W nob) (wtS (α 110) (wsR (α 110) P W)) v).1 < 0 then 0 else (fav (cnR (α 110)) (brR (α 110) P W nob) (wtS (α 110) (wsR (α 110) P W)) v).2)), some (vI (wr ((v : Int) + 1))), y5] [] (S0, mUp σ 104 0 0, δ) (0, 0) Q := by
          intro δ y5 hd h
          rw [fav_n h] at i1
          rw [ek]; exact i1 δ y5 vm hd
        have go1 : ∀ δ y5, Fα [115, 116] α δ → (cnR (α 110) v = 1 ∧ brR (α 110) P W nob v = 0 ∧ (fav (cnR (α 110)) (brR (α 110) P W nob) (wtS (α 110) (wsR (α 110) P W)) v).2 < wtS (α 110) (wsR (α 110) P W) v) → Go X (d + 6) 206 12 [some (vR 104), some (vI nob), some (vI (v : Int)), some (vI (wtS (α 110) (wsR (α 110) P W) v)), some (vI (wr ((v : Int) + 1))), y5] [] (S0, mUp σ 104 0 0, δ) (0, 0) Q := by
          intro δ y5 hd h
          rw [fav_y h] at i1
          rw [if_neg (Int.not_lt.mpr (Int.natCast_nonneg v))] at i1
          rw [ek]; exact i1 δ y5 vm hd
        have sum : ∀ δ, Fα [115, 116] α δ → cnR (α 110) v = 1 → brR (α 110) P W nob v = 0 → Ca X (d + 6) 209 [vR 104, vI (v : Int), vI (-1)] (S0, mUp σ 104 0 0, δ) (fun r s' => aI r (fun n => Go X (d + 6) 206 54 [some (vR 104), some (vI nob), some (vI (fav (cnR (α 110)) (brR (α 110) P W nob) (wtS (α 110) (wsR (α 110) P W)) v).1), some (vI (if (fav (cnR (α 110)) (brR (α 110) P W nob) (wtS (α 110) (wsR (α 110) P W)) v).1 < 0 then 0 else (fav (cnR (α 110)) (brR (α 110) P W nob) (wtS (α 110) (wsR (α 110) P W)) v).2)), some (vI (v : Int)), x5] [vI n] s' (0, 0) Q)) := by
          intro δ hd c1 c2
          have ed : δ 110 = α 110 := hd 110 (by decide)
          refine m_sumFor (P := P) (W := W) (by rw [ed]; exact w) (lg δ hd) o (lwg δ hd) ow (by rw [ed]; exact c1) ?_
          intro ε he
          rw [ed, wtB_n]
          have hde := hd.tr he
          refine vc206_54 ⟨fun q => ⟨fun q2 => absurd rfl q2, fun _ => ?_⟩, fun q => ⟨fun q2 => ⟨fun q3 => ?_, fun q3 => ?_⟩, fun q2 => ⟨fun q3 => absurd rfl q3, fun _ => ?_⟩⟩⟩
          · rcases fi with f | f
            · refine go1 ε _ hde ⟨c1, c2, ?_⟩
              rw [f]
              exact Int.lt_of_lt_of_le (by decide) wp
            · exact absurd f.1 (Int.not_le.mpr q)
          · refine go0 ε _ hde (fun z => q2 ?_)
            rw [if_neg q]
            exact z.2.2
          · rcases fi with f | f
            · rw [f] at q; exact absurd (by decide) q
            · have := f.2.1
              rw [q3] at this
              exact absurd this (Int.lt_irrefl _)
          · rw [if_neg q] at q2
            exact go1 ε _ hde ⟨c1, c2, q2⟩
        refine vc206_12 ⟨fun q => absurd vl q, fun _ => ?_⟩
        refine vc159_0 ?_
        rw [eg]
        refine vc206_22 ⟨fun q => absurd hp q, fun _ => ?_⟩
        refine m_canAll wg (by rw [eg]; exact hp) ?_
        rw [eg]
        refine vc206_31 ⟨fun q => go0 γ _ hf (fun z => by rw [q] at z; exact absurd z.1 (by decide)), fun q => ⟨fun q2 => ?_, fun q2 => ?_⟩⟩
        · exact sum γ hf (cn01.resolve_left q) (if_pos q2)
        · refine m_anyBest (P := P) (W := W) wg (lg γ hf) o (lwg γ hf) ow ?_
          intro δ hd
          rw [eg]
          have eb : brR (α 110) P W nob v = anB (bsR (α 110) P W) v (α 110 2).toNat := if_neg q2
          refine vc206_44 ⟨fun q3 => go0 δ _ (hf.tr hd) (fun z => q3 (by rw [← eb]; exact z.2.1)), fun q3 => ?_⟩
          exact sum δ (hf.tr hd) (cn01.resolve_left q) (by rw [eb]; exact q3)
    exact key 5 0 α none (Nat.zero_add _) Fα.rf
