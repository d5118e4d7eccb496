/-! The best way of each boat -/
theorem bit5 : ∀ x : Fin 32, ∀ k w : Fin 5, (0 ≤ iOr ((x.val : Nat) : Int) (iShl 1 ((k.val : Nat) : Int)) ∧ iOr ((x.val : Nat) : Int) (iShl 1 ((k.val : Nat) : Int)) < 32) ∧ (iAnd (iOr ((x.val : Nat) : Int) (iShl 1 ((k.val : Nat) : Int))) (iShl 1 ((w.val : Nat) : Int)) = 0 ↔ iAnd ((x.val : Nat) : Int) (iShl 1 ((w.val : Nat) : Int)) = 0 ∧ k.val ≠ w.val) := by decide +kernel
theorem bit5' {x : Int} {k w : Nat} (hx : 0 ≤ x ∧ x < 32) (hk : k < 5) (hw : w < 5) : (0 ≤ iOr x (iShl 1 (k : Int)) ∧ iOr x (iShl 1 (k : Int)) < 32) ∧ (iAnd (iOr x (iShl 1 (k : Int))) (iShl 1 (w : Int)) = 0 ↔ iAnd x (iShl 1 (w : Int)) = 0 ∧ k ≠ w) := by
  obtain ⟨n, hn⟩ := Int.eq_ofNat_of_zero_le hx.1
  subst hn
  exact bit5 ⟨n, by omega⟩ ⟨k, hk⟩ ⟨w, hw⟩
theorem bit0 : ∀ w : Fin 5, iAnd 0 (iShl 1 ((w.val : Nat) : Int)) = 0 := by decide +kernel
def bsG (can ws : Nat → Int) : Nat → Nat
  | 0 => 0
  | v + 1 => if can (v + 1) = 1 ∧ ws (bsG can ws v) < ws (v + 1) then v + 1 else bsG can ws v
theorem bs_le {can ws : Nat → Int} : ∀ {v : Nat}, bsG can ws v ≤ v
  | 0 => Nat.le_refl _
  | v + 1 => by
    unfold bsG
    split
    · exact Nat.le_refl _
    · exact Nat.le_succ_of_le bs_le
theorem bs_can {can ws : Nat → Int} (h0 : can 0 = 1) : ∀ {v : Nat}, can (bsG can ws v) = 1
  | 0 => h0
  | v + 1 => by
    unfold bsG
    by_cases h : can (v + 1) = 1 ∧ ws (bsG can ws v) < ws (v + 1)
    · rw [if_pos h]; exact h.1
    · rw [if_neg h]; exact bs_can h0
def bsR (ρ : Nat → Int) (P W : List (Int × Int)) (b : Nat) : Nat := bsG (cnR ρ) (wsR ρ P W b) 4
theorem bs5 {ρ : Nat → Int} {P W : List (Int × Int)} {b : Nat} : bsR ρ P W b < 5 := Nat.lt_succ_of_le bs_le
def bbF (B : Nat → Nat) : Nat → Int
  | 0 => 0
  | b + 1 => iOr (bbF B b) (iShl 1 (B b : Int))
theorem bb_r {B : Nat → Nat} (hB : ∀ b, B b < 5) : ∀ {n : Nat}, 0 ≤ bbF B n ∧ bbF B n < 32
  | 0 => ⟨Int.le_refl _, by show (0 : Int) < 32; decide⟩
  | n + 1 => (bit5' (w := 0) (bb_r hB (n := n)) (hB n) (by decide)).1
def anB (B : Nat → Nat) (v : Nat) : Nat → Int
  | 0 => 0
  | b + 1 => if anB B v b ≠ 0 then 1 else if B b = v then 1 else 0
theorem an01 {B : Nat → Nat} {v : Nat} : ∀ {n : Nat}, anB B v n = 0 ∨ anB B v n = 1
  | 0 => Or.inl rfl
  | n + 1 => by
    unfold anB
    split
    · exact Or.inr rfl
    · split
      · exact Or.inr rfl
      · exact Or.inl rfl
theorem bb_an {B : Nat → Nat} (hB : ∀ b, B b < 5) {v : Nat} (hv : v < 5) : ∀ {n : Nat}, iAnd (bbF B n) (iShl 1 (v : Int)) = 0 ↔ anB B v n = 0
  | 0 => by
    have := bit0 ⟨v, hv⟩
    exact ⟨fun _ => rfl, fun _ => this⟩
  | n + 1 => by
    have ih := bb_an hB hv (n := n)
    have h := (bit5' (w := v) (bb_r hB (n := n)) (hB n) hv).2
    show iAnd (iOr (bbF B n) (iShl 1 (B n : Int))) (iShl 1 (v : Int)) = 0 ↔ (if anB B v n ≠ 0 then 1 else if B n = v then 1 else 0) = 0
    rw [h, ih]
    by_cases h1 : anB B v n = 0
    · rw [if_neg (fun z => z h1)]
      by_cases h2 : B n = v
      · rw [if_pos h2]; exact ⟨fun z => absurd h2 z.2, fun z => absurd z (by decide)⟩
      · rw [if_neg h2]; exact ⟨fun _ => rfl, fun _ => ⟨h1, h2⟩⟩
    · rw [if_pos h1]; exact ⟨fun z => absurd z.1 h1, fun z => absurd z (by decide)⟩
theorem c_bests {X : mXX} {d : Nat} {Q : Option mV → mS → Prop} {σ α : Nat → Nat → Int} {ρ : Nat → Int} {P W : List (Int × Int)} (R : Rep σ α ρ) (w : WF ρ) (H : HRD α ρ P W 5) (hQ : Q (some (vI (bbF (bsR ρ P W) (ρ 2).toNat))) (S0, σ, α)) : Ca X (d + 1) 30 [vR 96] (S0, σ, α) Q := by
  have r2 := R.2.2.1
  have w2 := w.2.2.1
  refine vc30_0 ?_
  have key : ∀ (m b : Nat) (x3 x4 : Option mV), ((b + m : Nat) : Int) = ρ 2 → Go X d 30 4 [some (vR 96), some (vI (bbF (bsR ρ P W) b)), some (vI (b : Int)), x3, x4] [] (S0, σ, α) (0, 0) Q := by
    intro m
    induction m with
    | zero =>
      intro b x3 x4 hb
      have nb : ¬ (b : Int) < ρ 2 := by omega
      have e : (ρ 2).toNat = b := by omega
      rw [e] at hQ
      exact vc30_4 ⟨fun _ => hQ, fun q => absurd q (by rw [r2]; exact nb)⟩
    | succ m ih =>
      intro b x3 x4 hb
      have hb2 : (b : Int) < ρ 2 := by omega
      have bm : ((b + 1 + m : Nat) : Int) = ρ 2 := by omega
      have b7 := w.m7 hb2
      have ek := wrS (k := b) (by omega)
      refine vc30_4 ⟨fun q => absurd (by rw [r2]; exact hb2) q, fun _ => ?_⟩
      have inner : ∀ (m' v : Nat), v + m' = 4 → Go X d 30 20 [some (vR 96), some (vI (bbF (bsR ρ P W) b)), some (vI (b : Int)), some (vI ((bsG (cnR ρ) (wsR ρ P W b) v : Nat) : Int)), some (vI ((v + 1 : Nat) : Int))] [] (S0, σ, α) (0, 0) Q := by
        intro m'
        induction m' with
        | zero =>
          intro v hv
          have e : v = 4 := hv
          subst e
          refine vc30_20 ⟨fun _ => ?_, fun q => absurd q (by decide)⟩
          rw [ek]
          exact ih (b + 1) _ _ bm
        | succ m' ih' =>
          intro v hv
          have v5 : v + 1 < 5 := by omega
          have vl : ((v + 1 : Nat) : Int) < 5 := by omega
          have vm : v + 1 + m' = 4 := by omega
          have ev := wrS (k := v + 1) (by omega)
          have bl : bsG (cnR ρ) (wsR ρ P W b) v ≤ v := bs_le
          have g5 : bsG (cnR ρ) (wsR ρ P W b) v < 5 := by omega
          have i1 : 5 * b + (v + 1) < 35 := by omega
          have i2 : 5 * b + bsG (cnR ρ) (wsR ρ P W b) v < 35 := by omega
          have gc : cnR ρ (bsG (cnR ρ) (wsR ρ P W b) v) = 1 := bs_can (cn_0 w)
          have j1 := ih' (v + 1) vm
          refine vc30_20 ⟨fun q => absurd vl q, fun _ => ⟨mInA_n v5, ?_⟩⟩
          rw [Int.toNat_natCast, (H (v + 1) v5).1, ev]
          have go0 : ¬ (cnR ρ (v + 1) = 1 ∧ wsR ρ P W b (bsG (cnR ρ) (wsR ρ P W b) v) < wsR ρ P W b (v + 1)) → Go X d 30 20 [some (vR 96), some (vI (bbF (bsR ρ P W) b)), some (vI (b : Int)), some (vI ((bsG (cnR ρ) (wsR ρ P W b) v : Nat) : Int)), some (vI ((v + 1 + 1 : Nat) : Int))] [] (S0, σ, α) (0, 0) Q := by
            intro h
            rw [show bsG (cnR ρ) (wsR ρ P W b) (v + 1) = bsG (cnR ρ) (wsR ρ P W b) v from if_neg h] at j1
            exact j1
          refine ⟨fun q => go0 (fun z => by rw [q] at z; exact absurd z.1 (by decide)), fun q => ?_⟩
          have q1 := cn01.resolve_left q
          rw [ixW b7 v5, ixW b7 g5]
          refine ⟨mInA_n i1, mInA_n i2, ?_⟩
          rw [Int.toNat_natCast, Int.toNat_natCast, (H _ v5).2 q1 b hb2, (H _ g5).2 gc b hb2]
          refine ⟨fun q2 => go0 (fun z => q2 z.2), fun q2 => ?_⟩
          rw [show bsG (cnR ρ) (wsR ρ P W b) (v + 1) = v + 1 from if_pos ⟨q1, q2⟩] at j1
          exact j1
      exact inner 4 0 (Nat.zero_add _)
  exact key (ρ 2).toNat 0 none none (n_z w2.1)
/-- the reference -/
theorem m_bestOf {X : mXX} {d : Nat} {Q : Option mV → mS → Prop} {σ α : Nat → Nat → Int} {P W : List (Int × Int)} {b u : Nat} (w : WF (α 110)) (l : lwM α 6 10 P) (o : lwO 3 P) (lw : lwW α W) (ow : lwO 7 W) (hb : (b : Int) < α 110 2) (hQ : ∀ α', Fα [115, 116] α α' → Q (some (vI (if bsR (α 110) P W b = u then 1 else 0))) (S0, σ, α')) : Ca X (d + 5) 208 [vR 104, vI (b : Int), vI (u : Int)] (S0, σ, α) Q := by
  have hp : 0 < α 110 2 := by omega
  refine vc208_0 ?_
  have key : ∀ (m v : Nat) (γ : Nat → Nat → Int) (x6 x7 : Option mV), v + m = 4 → Fα [115, 116] α γ → Go X (d + 4) 208 8 [some (vR 104), some (vI (b : Int)), some (vI (u : Int)), some (vI ((bsG (cnR (α 110)) (wsR (α 110) P W b) v : Nat) : Int)), some (vI (wsR (α 110) P W b (bsG (cnR (α 110)) (wsR (α 110) P W b) v))), some (vI ((v + 1 : Nat) : Int)), x6, x7] [] (S0, σ, γ) (0, 0) Q := by
    intro m
    induction m with
    | zero =>
      intro v γ x6 x7 hv hf
      have e : v = 4 := hv
      subst e
      have z := hQ γ hf
      unfold bsR at z
      refine vc208_8 ⟨fun _ => ⟨fun q => ?_, fun q => ?_⟩, fun q => absurd q (by decide)⟩
      · rw [if_neg (fun h => q (congrArg (Nat.cast (R := Int)) h))] at z; exact z
      · rw [if_pos (Int.ofNat_inj.mp q)] at z; exact z
    | succ m ih =>
      intro v γ x6 x7 hv hf
      have vl : ((v + 1 : Nat) : Int) < 5 := by omega
      have vm : v + 1 + m = 4 := by omega
      have ev := wrS (k := v + 1) (by omega)
      have eg : γ 110 = α 110 := hf 110 (by decide)
      have wg : WF (γ 110) := by rw [eg]; exact w
      have gn : ¬ ((bsG (cnR (α 110)) (wsR (α 110) P W b) v : Nat) : Int) < 0 := by omega
      have j1 := ih (v + 1)
      have go0 : ∀ γ' y6 y7, Fα [115, 116] α γ' → ¬ (cnR (α 110) (v + 1) = 1 ∧ wsR (α 110) P W b (bsG (cnR (α 110)) (wsR (α 110) P W b) v) < wsR (α 110) P W b (v + 1)) → Go X (d + 4) 208 8 [some (vR 104), some (vI (b : Int)), some (vI (u : Int)), some (vI ((bsG (cnR (α 110)) (wsR (α 110) P W b) v : Nat) : Int)), some (vI (wsR (α 110) P W b (bsG (cnR (α 110)) (wsR (α 110) P W b) v))), some (vI (wr (((v + 1 : Nat) : Int) + 1))), y6, y7] [] (S0, σ, γ') (0, 0) Q := by
        intro γ' y6 y7 h' h
        rw [show bsG (cnR (α 110)) (wsR (α 110) P W b) (v + 1) = bsG (cnR (α 110)) (wsR (α 110) P W b) v from if_neg h] at j1
        rw [ev]
        exact j1 γ' y6 y7 vm h'
      refine vc208_8 ⟨fun q => absurd vl q, fun _ => ?_⟩
      refine m_canAll wg (by rw [eg]; exact hp) ?_
      rw [eg]
      refine vc208_20 ⟨fun q => go0 γ _ _ hf (fun z => by rw [q] at z; exact absurd z.1 (by decide)), fun q => ?_⟩
      have q1 := cn01.resolve_left q
      have inn := cn_in w q1 hb
      refine m_wishOf (W := W) (P := P) wg (l.st (by rw [eg]) (hf 111 (by decide)) (hf 112 (by decide))) o (lw.st (by rw [eg]) (hf 111 (by decide)) (hf 112 (by decide))) ow (by rw [eg]; exact hb) rfl rfl (by rw [eg]; exact inn.1) (by rw [eg]; exact inn.2) ?_
      intro δ hd
      rw [eg]
      have wb := ws_bd (ρ := α 110) (P := P) (W := W) (b := b) (v := v + 1)
      refine vc208_30 ⟨fun q2 => absurd wb.1 (Int.not_le.mpr q2), fun _ => ⟨fun q3 => absurd q3 gn, fun _ => ⟨fun q4 => go0 δ _ _ (hf.tr hd) (fun z => q4 z.2), fun q4 => ?_⟩⟩⟩
      rw [show bsG (cnR (α 110)) (wsR (α 110) P W b) (v + 1) = v + 1 from if_pos ⟨q1, q4⟩] at j1
      rw [ev]
      exact j1 δ _ _ vm (hf.tr hd)
  refine vc208_8 ⟨fun q => absurd (by decide) q, fun _ => ?_⟩
  refine m_canAll (v := 0) w hp ?_
  have q1 := cn_0 w
  rw [q1]
  refine vc208_20 ⟨fun q => absurd q (by decide), fun _ => ?_⟩
  have inn := cn_in w q1 hb
  refine m_wishOf (v := ((0 : Nat) : Int)) w l o lw ow hb rfl rfl inn.1 inn.2 ?_
  intro δ hd
  have wb := ws_bd (ρ := α 110) (P := P) (W := W) (b := b) (v := 0)
  refine vc208_30 ⟨fun q2 => absurd wb.1 (Int.not_le.mpr q2), fun _ => ⟨fun _ => ?_, fun q3 => absurd (by decide) q3⟩⟩
  exact key 4 0 δ _ _ (Nat.zero_add _) hd
theorem m_anyBest {X : mXX} {d : Nat} {Q : Option mV → mS → Prop} {σ α : Nat → Nat → Int} {P W : List (Int × Int)} {u : Nat} (w : WF (α 110)) (l : lwM α 6 10 P) (o : lwO 3 P) (lw : lwW α W) (ow : lwO 7 W) (hQ : ∀ α', Fα [115, 116] α α' → Q (some (vI (anB (bsR (α 110) P W) u (α 110 2).toNat))) (S0, σ, α')) : Ca X (d + 6) 207 [vR 104, vI (u : Int)] (S0, σ, α) Q := by
  have w2 := w.2.2.1
  refine vc207_0 ?_
  have key : ∀ (m b : Nat) (γ : Nat → Nat → Int), ((b + m : Nat) : Int) = α 110 2 → Fα [115, 116] α γ → Go X (d + 5) 207 4 [some (vR 104), some (vI (u : Int)), some (vI (anB (bsR (α 110) P W) u b)), some (vI (b : Int))] [] (S0, σ, γ) (0, 0) Q := by
    intro m
    induction m with
    | zero =>
      intro b γ hb hf
      have nb : ¬ (b : Int) < α 110 2 := by omega
      have e : (α 110 2).toNat = b := by omega
      have z := hQ γ hf
      rw [e] at z
      refine vc207_4 ?_
      refine vc159_0 ?_
      rw [hf 110 (by decide)]
      exact vc207_9 ⟨fun _ => ⟨an01, z⟩, fun q => absurd q nb⟩
    | succ m ih =>
      intro b γ hb hf
      have hb2 : (b : Int) < α 110 2 := by omega
      have bm : ((b + 1 + m : Nat) : Int) = α 110 2 := by omega
      have b7 := w.m7 hb2
      have ek := wrS (k := b) (by omega)
      have eg : γ 110 = α 110 := hf 110 (by decide)
      have i1 := ih (b + 1)
      refine vc207_4 ?_
      refine vc159_0 ?_
      rw [eg]
      refine vc207_9 ⟨fun q => absurd hb2 q, fun _ => ⟨fun q => ?_, fun q => ?_⟩⟩
      · rw [show anB (bsR (α 110) P W) u (b + 1) = 1 from if_pos q] at i1
        rw [ek]; exact i1 γ bm hf
      · refine m_bestOf (P := P) (W := W) (by rw [eg]; exact w) (l.st (by rw [eg]) (hf 111 (by decide)) (hf 112 (by decide))) o (lw.st (by rw [eg]) (hf 111 (by decide)) (hf 112 (by decide))) ow (by rw [eg]; exact hb2) ?_
        intro δ hd
        rw [eg]
        rw [show anB (bsR (α 110) P W) u (b + 1) = if bsR (α 110) P W b = u then 1 else 0 from if_neg (fun z => z q)] at i1
        by_cases h : bsR (α 110) P W b = u
        · rw [if_pos h] at i1 ⊢
          refine vc207_22 ⟨fun z => absurd z (by decide), fun _ => ?_⟩
          rw [ek]; exact i1 δ bm (hf.tr hd)
        · rw [if_neg h] at i1 ⊢
          refine vc207_22 ⟨fun _ => ?_, fun z => absurd rfl z⟩
          rw [ek]; exact i1 δ bm (hf.tr hd)
  exact key (α 110 2).toNat 0 α (n_z w2.1) Fα.rf
