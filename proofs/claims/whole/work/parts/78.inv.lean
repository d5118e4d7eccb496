/-! What holds between calls -/
def mkR (ρ : Nat → Int) (m j : Nat) : Int := ρ (320 * (2 + m) + j)
def MKr (σ α : Nat → Nat → Int) (H : Int) (K m : Nat) : Prop := (σ K 0 = α 117 m ∧ (α 117 m = 0 ∨ α 117 m = 1)) ∧ (α 117 m = 1 → (WF (mkR (α 110) m) ∧ tld (α 110) (mkR (α 110) m) ∧ mkR (α 110) m 3 ≤ H) ∧ σ K 1 = mkR (α 110) m 3 ∧ (∀ c, c < 64 → α (K + 1) c = mkR (α 110) m (12 + 3 * c)) ∧ (∀ b : Nat, (b : Int) < α 110 2 → α (K + 2) b = mkR (α 110) m (203 + 12 * b) ∧ α (K + 3) b = mkR (α 110) m (204 + 12 * b) ∧ α (K + 4) b = mkR (α 110) m (210 + 12 * b) ∧ α (K + 6) b = mkR (α 110) m (211 + 12 * b) ∧ α (K + 5) b = mkR (α 110) m (212 + 12 * b)) ∧ ∀ k, k < 6 → α (K + 7) k = mkR (α 110) m (292 + 3 * k))
def MKS (σ α : Nat → Nat → Int) (H : Int) : Prop := MKr σ α H 49 0 ∧ MKr σ α H 57 1 ∧ MKr σ α H 65 2 ∧ MKr σ α H 73 3
def okc (c : Int) : Prop := c = 10 ∨ (32 ≤ c ∧ c ≤ 126)
def TPE (σ α : Nat → Nat → Int) : Prop := σ 104 2 = σ 1 1 ∧ (0 ≤ σ 1 1 ∧ σ 1 1 ≤ 1000) ∧ ∀ j : Nat, (j : Int) < σ 1 1 → α 105 j = α 2 j ∧ okc (α 2 j)
def INV (σ α : Nat → Nat → Int) (P W : List (Int × Int)) (H : Int) : Prop := (CI σ α (α 110) P W ∧ WF (α 110)) ∧ (lwM α 6 10 P ∧ lwO 3 P) ∧ (lwW α W ∧ lwO 7 W) ∧ α 124 0 = 0 ∧ α 110 3 ≤ H ∧ MKS σ α H ∧ TPE σ α
/-- cells that a call may leave otherwise than they were -/
def SQ : List (Nat × Nat) := [(90, 9), (90, 10), (90, 11), (100, 7), (104, 0), (104, 31), (104, 32), (104, 33)]
def AQ : List Nat := [36, 39, 82, 83, 85, 87, 88, 89, 91, 92, 93, 94, 95, 97, 98, 99, 101, 102, 103, 115, 116, 118, 119, 120, 121, 122, 123, 124, 125, 126]
def SX : List (Nat × Nat) := (40, 1) :: SQ
def AX : List Nat := 41 :: 42 :: 43 :: 44 :: 45 :: 46 :: 47 :: 110 :: AQ
theorem MKr.st {σ σ' α α' : Nat → Nat → Int} {H H' : Int} {K m : Nat} (M : MKr σ α H K m) (w : WF (α 110)) (hH : H ≤ H') (s0 : σ' K 0 = σ K 0) (s1 : σ' K 1 = σ K 1) (e7 : α' 117 = α 117) (t : tld (α 110) (α' 110)) (h3 : ∀ j, 320 ≤ j → α' 110 j = α 110 j) (hr : ∀ i, i < 8 → α' (K + i) = α (K + i)) : MKr σ' α' H' K m := by
  have em : mkR (α' 110) m = mkR (α 110) m := by
    funext j
    exact h3 _ (by omega)
  have e2 : α' 110 2 = α 110 2 := t.n (by decide) (by decide)
  unfold MKr
  rw [s0, s1, e7, em, e2, hr 1 (by decide), hr 2 (by decide), hr 3 (by decide), hr 4 (by decide), hr 5 (by decide), hr 6 (by decide), hr 7 (by decide)]
  refine ⟨M.1, fun q => ?_⟩
  have z := M.2 q
  exact ⟨⟨z.1.1, t.sy.tr z.1.2.1, Int.le_trans z.1.2.2 hH⟩, z.2⟩
theorem MKS.st {σ σ' α α' : Nat → Nat → Int} {H H' : Int} (M : MKS σ α H) (w : WF (α 110)) (hH : H ≤ H') (hs : Fσ SX σ σ') (ha : Fα AX α α') (t : tld (α 110) (α' 110)) (h3 : ∀ j, 320 ≤ j → α' 110 j = α 110 j) : MKS σ' α' H' := by
  have e7 : α' 117 = α 117 := ha 117 (by decide)
  have a : ∀ z, 49 ≤ z → z < 81 → α' z = α z := fun z z1 z2 => ha z (by
    intro q
    have : ∀ x ∈ AX, ¬ (49 ≤ x ∧ x < 81) := by decide
    exact this z q ⟨z1, z2⟩)
  refine ⟨M.1.st w hH (hs 49 0 (by decide)) (hs 49 1 (by decide)) e7 t h3 (fun i hi => a _ (by omega) (by omega)), M.2.1.st w hH (hs 57 0 (by decide)) (hs 57 1 (by decide)) e7 t h3 (fun i hi => a _ (by omega) (by omega)), M.2.2.1.st w hH (hs 65 0 (by decide)) (hs 65 1 (by decide)) e7 t h3 (fun i hi => a _ (by omega) (by omega)), M.2.2.2.st w hH (hs 73 0 (by decide)) (hs 73 1 (by decide)) e7 t h3 (fun i hi => a _ (by omega) (by omega))⟩
theorem TPE.st {σ σ' α α' : Nat → Nat → Int} (T : TPE σ α) (hs : Fσ SX σ σ') (ha : Fα AX α α') : TPE σ' α' := by
  unfold TPE
  rw [hs 104 2 (by decide), hs 1 1 (by decide), ha 105 (by decide), ha 2 (by decide)]
  exact T
theorem INV.stt {σ σ' α α' : Nat → Nat → Int} {P W : List (Int × Int)} {H H' : Int} (I : INV σ α P W H) (hs : Fσ SX σ σ') (ha : Fα AX α α') (C : CI σ' α' (α' 110) P W) (w : WF (α' 110)) (t : tld (α 110) (α' 110)) (h320 : ∀ j, 320 ≤ j → α' 110 j = α 110 j) (l0 : α' 124 0 = 0) (hH : H ≤ H') (h3 : α' 110 3 ≤ H') : INV σ' α' P W H' := by
  refine ⟨⟨C, w⟩, ⟨I.2.1.1.st (t.n (by decide) (by decide)) (ha 111 (by decide)) (ha 112 (by decide)), I.2.1.2⟩, ⟨I.2.2.1.1.st (t.n (by decide) (by decide)) (ha 111 (by decide)) (ha 112 (by decide)), I.2.2.1.2⟩, l0, h3, I.2.2.2.2.2.1.st I.1.2 hH hs ha t h320, I.2.2.2.2.2.2.st hs ha⟩
theorem INV.qry {σ σ' α α' : Nat → Nat → Int} {P W : List (Int × Int)} {H : Int} (I : INV σ α P W H) (hs : Fσ SQ σ σ') (ha : Fα AQ α α') (C : CI σ' α' (α 110) P W) (l0 : α' 124 0 = 0) : INV σ' α' P W H := by
  have e : α' 110 = α 110 := ha 110 (by decide)
  refine I.stt (hs.wk (by decide)) (ha.wk (by decide)) (by rw [e]; exact C) (by rw [e]; exact I.1.2) (by rw [e]; exact tld.rf) (fun j _ => by rw [e]) l0 (Int.le_refl _) (by rw [e]; exact I.2.2.2.2.1)
theorem Rep.s0 {σ σ' α : Nat → Nat → Int} {ρ : Nat → Int} {Z : List (Nat × Nat)} (R : Rep σ α ρ) (h : Fσ Z σ σ') (hz : ∀ q ∈ Z, q.1 ≠ 23 ∧ q ≠ (40, 1) := by decide) : Rep σ' α ρ := R.sg (fun k => h 23 k (fun q => (hz _ q).1 rfl)) (h 40 1 (fun q => (hz _ q).2 rfl))
theorem CI.s0 {σ σ' α : Nat → Nat → Int} {ρ : Nat → Int} {P W : List (Int × Int)} {Z : List (Nat × Nat)} (C : CI σ α ρ P W) (h : Fσ Z σ σ') (hz : ∀ q ∈ Z, (q.1 ≠ 23 ∧ q ≠ (40, 1)) ∧ q ≠ (34, 2) ∧ q ≠ (37, 2) := by decide) : CI σ' α ρ P W := by
  obtain ⟨R, l1, l2, k⟩ := C
  refine ⟨R.s0 h (fun q hq => (hz q hq).1), ?_, ?_, k⟩
  · rw [h 34 2 (fun q => (hz _ q).2.1 rfl)]; exact l1
  · rw [h 37 2 (fun q => (hz _ q).2.2 rfl)]; exact l2
/-- carrying rows -/
theorem ixR {t j : Nat} (ht : t < 7) (hj : j < 320) : wr (wr (320 * (t : Int)) + (j : Int)) = ((320 * t + j : Nat) : Int) := by
  rw [wr_of (x := 320 * (t : Int)) (by omega) (by omega), wr_of (by omega) (by omega)]; omega
def cyR (ρ : Nat → Int) (f t n j : Nat) : Int := if 320 * t ≤ j ∧ j < 320 * t + n then ρ (320 * f + (j - 320 * t)) else ρ j
theorem m_carry {X : mXX} {d : Nat} {Q : Option mV → mS → Prop} {σ α : Nat → Nat → Int} {f t : Nat} (hf : f < 7) (ht : t < 7) (hne : f ≠ t) (hQ : ∀ α', Fα [110] α α' → α' 110 = cyR (α 110) f t 320 → Q none (S0, σ, α')) : Ca X (d + 1) 157 [vR 104, vI (f : Int), vI (t : Int)] (S0, σ, α) Q := by
  refine vc157_0 ?_
  have key : ∀ (m k : Nat) (γ : Nat → Nat → Int), k + m = 320 → Fα [110] α γ → γ 110 = cyR (α 110) f t k → Go X d 157 2 [some (vR 104), some (vI (f : Int)), some (vI (t : Int)), some (vI (k : Int))] [] (S0, σ, γ) (0, 0) Q := by
    intro m
    induction m with
    | zero =>
      intro k γ hk hg e
      have ek : k = 320 := hk
      subst ek
      exact vc157_2 ⟨fun _ => hQ γ hg e, fun q => absurd q (by decide)⟩
    | succ m ih =>
      intro k γ hk hg e
      have kl : (k : Int) < 320 := by omega
      have k3 : k < 320 := by omega
      have km : k + 1 + m = 320 := by omega
      have i1 : 320 * f + k < 2240 := by omega
      have i2 : 320 * t + k < 2240 := by omega
      have ek := wrS (k := k) (by omega)
      refine vc157_2 ⟨fun q => absurd kl q, fun _ => ?_⟩
      rw [ixR hf k3, ixR ht k3]
      refine ⟨mInA_n i1, mInA_n i2, ?_⟩
      rw [Int.toNat_natCast, Int.toNat_natCast, ek]
      refine ih (k + 1) _ km (hg.tr (Fα.up (by decide))) ?_
      have ev : γ 110 (320 * f + k) = α 110 (320 * f + k) := by
        rw [e]
        exact if_neg (by clear ek; omega)
      rw [ev, up_f, e]
      funext j
      unfold cyR
      clear ev e ih hQ ek
      by_cases h : j = 320 * t + k
      · rw [if_pos h, if_pos (by omega)]
        congr 1
        omega
      · rw [if_neg h]
        by_cases h2 : 320 * t ≤ j ∧ j < 320 * t + k
        · rw [if_pos h2, if_pos (by omega)]
        · rw [if_neg h2, if_neg (by omega)]
  refine key 320 0 α (Nat.zero_add _) Fα.rf ?_
  funext j
  exact (if_neg (by omega)).symm
