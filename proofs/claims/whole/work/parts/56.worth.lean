/-! Worth, leaving, gripping -/
def woR (ρ : Nat → Int) (i j : Int) : Int := if 0 ≤ i ∧ i ≤ j ∧ j < ρ 2 then ctR ρ i.toNat (j - i + 1).toNat 0 0 else -1
theorem c_worth {X : mXX} {d : Nat} {Q : Option mV → mS → Prop} {σ α : Nat → Nat → Int} {ρ : Nat → Int} {i j : Int} (R : Rep σ α ρ) (w : WF ρ) (hQ : ∀ α', Fα [87, 88] α α' → Q (some (vI (woR ρ i j))) (S0, σ, α')) : Ca X (d + 4) 114 [vR 0, vI i, vI j] (S0, σ, α) Q := by
  have r2 := R.2.2.1
  refine vc114_0 ?_
  rw [r2]
  unfold woR at hQ
  by_cases hb : 0 ≤ i ∧ i ≤ j ∧ j < ρ 2
  · rw [if_pos hb] at hQ
    obtain ⟨a, ha⟩ := Int.eq_ofNat_of_zero_le hb.1
    subst ha
    obtain ⟨n, hn⟩ : ∃ n : Nat, (j - (a : Int) + 1).toNat = n := ⟨_, rfl⟩
    rw [hn, Int.toNat_natCast] at hQ
    have hz : ((a + n : Nat) : Int) ≤ ρ 2 := by omega
    have ez : j = ((a + n : Nat) : Int) - 1 := by omega
    refine ⟨fun q => absurd hb.1 (by omega), fun _ => ⟨fun q => absurd hb.2.1 (by omega), fun _ => ⟨fun q => absurd hb.2.2 q, fun _ => ?_⟩⟩⟩
    refine c_haul R w hz ez (in0 w hz) ?_
    intro β hf _
    exact vc114_31 (hQ β hf)
  · rw [if_neg hb] at hQ
    have z := hQ α Fα.rf
    exact ⟨fun _ => z, fun q1 => ⟨fun _ => z, fun q2 => ⟨fun _ => z, fun q3 => absurd (show 0 ≤ i ∧ i ≤ j ∧ j < ρ 2 by omega) hb⟩⟩⟩
theorem m_isRun {X : mXX} {d : Nat} {Q : Option mV → mS → Prop} {σ α : Nat → Nat → Int} {i j : Int} (h : Q (some (vI (if 0 ≤ i ∧ i ≤ j ∧ j < α 110 2 then 1 else 0))) (S0, σ, α)) : Ca X (d + 3) 212 [vR 104, vI i, vI j] (S0, σ, α) Q := by
  refine vc212_0 ?_
  refine m_isBoat ?_
  by_cases h1 : 0 ≤ i ∧ i < α 110 2
  · rw [show hbR (α 110) i = 1 from if_pos h1]
    refine vc212_5 ⟨fun q => absurd q (by decide), fun _ => ?_⟩
    refine m_isBoat ?_
    by_cases h2 : 0 ≤ j ∧ j < α 110 2
    · rw [show hbR (α 110) j = 1 from if_pos h2]
      refine vc212_13 ⟨fun q => absurd q (by decide), fun _ => ⟨fun q => ?_, fun q => ?_⟩⟩
      · rw [if_neg (by omega)] at h; exact h
      · rw [if_pos (by omega)] at h; exact h
    · rw [show hbR (α 110) j = 0 from if_neg h2]
      rw [if_neg (by omega)] at h
      exact vc212_13 ⟨fun _ => h, fun q => absurd rfl q⟩
  · rw [show hbR (α 110) i = 0 from if_neg h1]
    rw [if_neg (by omega)] at h
    exact vc212_5 ⟨fun _ => h, fun q => absurd rfl q⟩
theorem m_worth {X : mXX} {d : Nat} {Q : Option mV → mS → Prop} {σ α : Nat → Nat → Int} {i j : Int} (w : WF (α 110)) (hQ : ∀ α', Fα [120, 121] α α' → Q (some (vI (woR (α 110) i j))) (S0, mUp σ 104 0 0, α')) : Ca X (d + 6) 211 [vR 104, vI i, vI j] (S0, σ, α) Q := by
  refine vc211_0 ?_
  refine m_isRun ?_
  unfold woR at hQ
  by_cases hb : 0 ≤ i ∧ i ≤ j ∧ j < α 110 2
  · rw [if_pos hb] at hQ ⊢
    obtain ⟨a, ha⟩ := Int.eq_ofNat_of_zero_le hb.1
    subst ha
    obtain ⟨n, hn⟩ : ∃ n : Nat, (j - (a : Int) + 1).toNat = n := ⟨_, rfl⟩
    rw [hn, Int.toNat_natCast] at hQ
    have hz : ((a + n : Nat) : Int) ≤ α 110 2 := by omega
    have ez : j = ((a + n : Nat) : Int) - 1 := by omega
    refine vc211_11 ⟨fun q => absurd q (by decide), fun _ => ?_⟩
    refine m_catches w hz ez (in0 w hz) ?_
    intro β hf _
    exact vc211_22 (hQ β hf)
  · rw [if_neg hb] at hQ ⊢
    exact vc211_11 ⟨fun _ => hQ α Fα.rf, fun q => absurd rfl q⟩
/-- leaves -/
def ljR (ρ : Nat → Int) (i : Nat) : Nat → Nat → Int → Option Int
  | 0, _, _ => none
  | m + 1, j, s => if s + ρ (211 + 12 * j) < ctR ρ i (j + 1 - i) 0 0 then some (10 * (i : Int) + (j : Int)) else ljR ρ i m (j + 1) (s + ρ (211 + 12 * j))
def lvR (ρ : Nat → Int) : Nat → Nat → Int
  | 0, _ => -1
  | m + 1, i => (ljR ρ i (m + 1) i 0).getD (lvR ρ m (i + 1))
theorem nlv {i j : Nat} (h1 : i < 7) (h2 : j < 7) : wr (wr (10 * (i : Int)) + (j : Int)) = 10 * (i : Int) + (j : Int) := by
  rw [wr_of (x := 10 * (i : Int)) (by omega) (by omega), wr_of (by omega) (by omega)]
theorem nls {s v : Int} {j : Nat} (h1 : 0 ≤ s ∧ s ≤ 999 * (j : Int)) (h2 : 0 ≤ v ∧ v ≤ 999) (h3 : j < 7) : wr (s + v) = s + v ∧ 0 ≤ s + v ∧ s + v ≤ 999 * ((j + 1 : Nat) : Int) := by
  refine ⟨wr_of (by omega) (by omega), by omega, by omega⟩
theorem c_lv2 {X : mXX} {d : Nat} {Q : Option mV → mS → Prop} {σ α : Nat → Nat → Int} {ρ : Nat → Int} {i : Nat} (R : Rep σ α ρ) (w : WF ρ) : ∀ (m j : Nat) (s : Int) (γ : Nat → Nat → Int), ((j + m : Nat) : Int) = ρ 2 → i ≤ j → 0 ≤ s ∧ s ≤ 999 * (j : Int) → Fα [87, 88] α γ → (ljR ρ i m j s = none → ∀ γ' x2 x3, Fα [87, 88] α γ' → Go X (d + 3) 116 2 [some (vR 0), some (vI (wr ((i : Int) + 1))), x2, x3] [] (S0, σ, γ') (0, 0) Q) → (∀ r γ', ljR ρ i m j s = some r → Fα [87, 88] α γ' → Q (some (vI r)) (S0, σ, γ')) → Go X (d + 3) 116 17 [some (vR 0), some (vI (i : Int)), some (vI s), some (vI (j : Int))] [] (S0, σ, γ) (0, 0) Q := by
  have r2 := R.2.2.1
  intro m
  induction m with
  | zero =>
    intro j s γ hj hij hs hf hn hr
    have nj : ¬ (j : Int) < ρ 2 := by omega
    exact vc116_17 ⟨fun _ => hn rfl γ _ _ hf, fun q => absurd q (by rw [r2]; exact nj)⟩
  | succ m ih =>
    intro j s γ hj hij hs hf hn hr
    have hb : (j : Int) < ρ 2 := by omega
    have jm : ((j + 1 + m : Nat) : Int) = ρ 2 := by omega
    have b7 := w.m7 hb
    have i7 : i < 7 := by omega
    have ij1 : i ≤ j + 1 := by omega
    have hz : ((i + (j + 1 - i) : Nat) : Int) ≤ ρ 2 := by omega
    have ez : (j : Int) = ((i + (j + 1 - i) : Nat) : Int) - 1 := by omega
    have ek := wrS (k := j) (by omega)
    have r := ((R.fr hf).b hb).2.2.2.2.2.2.2.2.2.1
    have sb := (w.b hb).2.2.2.2.2.2.2.2.2.1
    have ns := nls hs sb b7
    refine vc116_17 ⟨fun q => absurd (by rw [r2]; exact hb) q, fun _ => ⟨mInA_n b7, ?_⟩⟩
    rw [Int.toNat_natCast, r, ns.1]
    refine c_haul (R.fr hf) w hz ez (in0 w hz) ?_
    intro δ hd _
    have el : ljR ρ i (m + 1) j s = if s + ρ (211 + 12 * j) < ctR ρ i (j + 1 - i) 0 0 then some (10 * (i : Int) + (j : Int)) else ljR ρ i m (j + 1) (s + ρ (211 + 12 * j)) := rfl
    refine vc116_52 ⟨fun q => ?_, fun q => ?_⟩
    · rw [if_neg q] at el
      rw [ek]
      rw [el] at hn hr
      exact ih (j + 1) _ δ jm ij1 ns.2 (hf.tr hd) hn hr
    · rw [nlv i7 b7]
      exact hr _ δ (by rw [el, if_pos q]) (hf.tr hd)
theorem c_leaves {X : mXX} {d : Nat} {Q : Option mV → mS → Prop} {σ α : Nat → Nat → Int} {ρ : Nat → Int} (R : Rep σ α ρ) (w : WF ρ) (hQ : ∀ α', Fα [87, 88] α α' → Q (some (vI (lvR ρ (ρ 2).toNat 0))) (S0, σ, α')) : Ca X (d + 4) 116 [vR 0] (S0, σ, α) Q := by
  have r2 := R.2.2.1
  refine vc116_0 ?_
  have key : ∀ (m i : Nat) (γ : Nat → Nat → Int) (x2 x3 : Option mV), ((i + m : Nat) : Int) = ρ 2 → lvR ρ m i = lvR ρ (ρ 2).toNat 0 → Fα [87, 88] α γ → Go X (d + 3) 116 2 [some (vR 0), some (vI (i : Int)), x2, x3] [] (S0, σ, γ) (0, 0) Q := by
    generalize lvR ρ (ρ 2).toNat 0 = L at *
    intro m
    induction m with
    | zero =>
      intro i γ x2 x3 hi e hf
      have ni : ¬ (i : Int) < ρ 2 := by omega
      have z := hQ γ hf
      rw [← e] at z
      exact vc116_2 ⟨fun _ => z, fun q => absurd q (by rw [r2]; exact ni)⟩
    | succ m ih =>
      intro i γ x2 x3 hi e hf
      have hb : (i : Int) < ρ 2 := by clear e; omega
      have im : ((i + 1 + m : Nat) : Int) = ρ 2 := by clear e; omega
      have b7 := w.m7 hb
      have ek := wrS (k := i) (by clear e; omega)
      have s0 : (0 : Int) ≤ 0 ∧ (0 : Int) ≤ 999 * (i : Int) := by clear e; omega
      refine vc116_2 ⟨fun q => absurd (by rw [r2]; exact hb) q, fun _ => ?_⟩
      have e' : (ljR ρ i (m + 1) i 0).getD (lvR ρ m (i + 1)) = L := e
      refine c_lv2 (α := α) R w (m + 1) i 0 γ hi (Nat.le_refl _) s0 hf (fun hn δ y2 y3 hd => ?_) (fun r δ hr hd => ?_)
      · rw [hn] at e'
        rw [ek]; exact ih (i + 1) δ y2 y3 im e' hd
      · rw [hr] at e'
        have z := hQ δ hd
        rw [← e'] at z
        exact z
  exact key (ρ 2).toNat 0 α none none (n_z w.2.2.1.1) rfl Fα.rf
theorem m_lv2 {X : mXX} {d : Nat} {Q : Option mV → mS → Prop} {σ α : Nat → Nat → Int} {ρ : Nat → Int} {i : Nat} (er : α 110 = ρ) (w : WF ρ) : ∀ (m j : Nat) (s : Int) (γ : Nat → Nat → Int), ((j + m : Nat) : Int) = ρ 2 → i ≤ j → 0 ≤ s ∧ s ≤ 999 * (j : Int) → Fα [120, 121] α γ → (ljR ρ i m j s = none → ∀ γ' x2 x3, Fα [120, 121] α γ' → Go X (d + 5) 214 7 [some (vR 104), some (vI (wr ((i : Int) + 1))), x2, x3] [] (S0, σ, γ') (0, 0) Q) → (∀ r γ', ljR ρ i m j s = some r → Fα [120, 121] α γ' → Q (some (vI r)) (S0, σ, γ')) → Go X (d + 5) 214 19 [some (vR 104), some (vI (i : Int)), some (vI s), some (vI (j : Int))] [] (S0, σ, γ) (0, 0) Q := by
  intro m
  induction m with
  | zero =>
    intro j s γ hj hij hs hf hn hr
    have nj : ¬ (j : Int) < ρ 2 := by omega
    have eg : γ 110 = ρ := (hf 110 (by decide)).trans er
    refine vc214_19 ?_
    refine vc159_0 ?_
    rw [eg]
    exact vc214_24 ⟨fun _ => hn rfl γ _ _ hf, fun q => absurd q nj⟩
  | succ m ih =>
    intro j s γ hj hij hs hf hn hr
    have hb : (j : Int) < ρ 2 := by omega
    have jm : ((j + 1 + m : Nat) : Int) = ρ 2 := by omega
    have b7 := w.m7 hb
    have f7 : 0 ≤ (j : Int) ∧ (j : Int) < 7 := by omega
    have i7 : i < 7 := by omega
    have ij1 : i ≤ j + 1 := by omega
    have hz : ((i + (j + 1 - i) : Nat) : Int) ≤ ρ 2 := by omega
    have ez : (j : Int) = ((i + (j + 1 - i) : Nat) : Int) - 1 := by omega
    have ek := wrS (k := j) (by omega)
    have eg : γ 110 = ρ := (hf 110 (by decide)).trans er
    have sb := (w.b hb).2.2.2.2.2.2.2.2.2.1
    have ns := nls hs sb b7
    refine vc214_19 ?_
    refine vc159_0 ?_
    rw [eg]
    refine vc214_24 ⟨fun q => absurd hb q, fun _ => ?_⟩
    refine m_of f7 ?_
    rw [oo9, eg]
    refine vc214_35 ?_
    rw [ns.1]
    refine m_catches (by rw [eg]; exact w) (by rw [eg]; exact hz) ez (by rw [eg]; exact in0 w hz) ?_
    intro δ hd _
    rw [eg]
    have el : ljR ρ i (m + 1) j s = if s + ρ (211 + 12 * j) < ctR ρ i (j + 1 - i) 0 0 then some (10 * (i : Int) + (j : Int)) else ljR ρ i m (j + 1) (s + ρ (211 + 12 * j)) := rfl
    refine vc214_46 ⟨fun q => ?_, fun q => ?_⟩
    · rw [if_neg q] at el
      rw [ek]
      rw [el] at hn hr
      exact ih (j + 1) _ δ jm ij1 ns.2 (hf.tr hd) hn hr
    · rw [nlv i7 b7]
      exact hr _ δ (by rw [el, if_pos q]) (hf.tr hd)
theorem m_leaves {X : mXX} {d : Nat} {Q : Option mV → mS → Prop} {σ α : Nat → Nat → Int} (w : WF (α 110)) (hQ : ∀ α', Fα [120, 121] α α' → Q (some (vI (lvR (α 110) (α 110 2).toNat 0))) (S0, mUp σ 104 0 0, α')) : Ca X (d + 6) 214 [vR 104] (S0, σ, α) Q := by
  refine vc214_0 ?_
  have key : ∀ (m i : Nat) (γ : Nat → Nat → Int) (x2 x3 : Option mV), ((i + m : Nat) : Int) = α 110 2 → lvR (α 110) m i = lvR (α 110) (α 110 2).toNat 0 → Fα [120, 121] α γ → Go X (d + 5) 214 7 [some (vR 104), some (vI (i : Int)), x2, x3] [] (S0, mUp σ 104 0 0, γ) (0, 0) Q := by
    generalize lvR (α 110) (α 110 2).toNat 0 = L at *
    intro m
    induction m with
    | zero =>
      intro i γ x2 x3 hi e hf
      have ni : ¬ (i : Int) < α 110 2 := by clear e; omega
      have z := hQ γ hf
      rw [← e] at z
      refine vc214_7 ?_
      refine vc159_0 ?_
      rw [hf 110 (by decide)]
      exact vc214_12 ⟨fun _ => z, fun q => absurd q ni⟩
    | succ m ih =>
      intro i γ x2 x3 hi e hf
      have hb : (i : Int) < α 110 2 := by clear e; omega
      have im : ((i + 1 + m : Nat) : Int) = α 110 2 := by clear e; omega
      have b7 := w.m7 hb
      have ek := wrS (k := i) (by clear e; omega)
      have s0 : (0 : Int) ≤ 0 ∧ (0 : Int) ≤ 999 * (i : Int) := by clear e; omega
      refine vc214_7 ?_
      refine vc159_0 ?_
      rw [hf 110 (by decide)]
      refine vc214_12 ⟨fun q => absurd hb q, fun _ => ?_⟩
      have e' : (ljR (α 110) i (m + 1) i 0).getD (lvR (α 110) m (i + 1)) = L := e
      refine m_lv2 (α := α) rfl w (m + 1) i 0 γ hi (Nat.le_refl _) s0 hf (fun hn δ y2 y3 hd => ?_) (fun r δ hr hd => ?_)
      · rw [hn] at e'
        rw [ek]; exact ih (i + 1) δ y2 y3 im e' hd
      · rw [hr] at e'
        have z := hQ δ hd
        rw [← e'] at z
        exact z
  exact key (α 110 2).toNat 0 α none none (n_z w.2.2.1.1) rfl Fα.rf
