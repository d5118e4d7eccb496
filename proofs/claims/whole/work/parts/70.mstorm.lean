def SM (σ α : Nat → Nat → Int) (n : Nat) (s : ST) : Prop := (σ 104 32 = 0 ∧ s.1 = 2147483647) ∨ (σ 104 32 = 1 ∧ σ 104 31 = s.1 ∧ s.1 < 2147483647 ∧ ∀ i, i < n → α 126 i = s.2 i)
theorem m_leaf {X : mXX} {d : Nat} {Q : Option mV → mS → Prop} {σ α : Nat → Nat → Int} {n : Nat} {row : Nat → Int} {V used : Int} (n7 : n ≤ 7) (h1 : ∀ i, i < n → α 125 i = row i) (hQ : ∀ α', Fα [126] α α' → (∀ i, i < n → α' 126 i = row i) → Q none (S0, σ, α')) : ∀ (t k : Nat) (γ : Nat → Nat → Int), k + t = n → Fα [126] α γ → (∀ i, i < k → γ 126 i = row i) → Go X d 217 41 [some (vR 104), some (vI (n : Int)), some (vI used), some (vI V), some (vI (k : Int))] [] (S0, σ, γ) (0, 0) Q := by
  intro t
  induction t with
  | zero =>
    intro k γ hk hf F
    have e : k = n := hk
    subst e
    exact vc217_41 ⟨fun _ => hQ γ hf F, fun q => absurd q (Int.lt_irrefl _)⟩
  | succ t ih =>
    intro k γ hk hf F
    have kl : (k : Int) < (n : Int) := by omega
    have k7 : k < 7 := by omega
    have kn : k < n := by omega
    have kt : k + 1 + t = n := by omega
    have ek := wrS (k := k) (by omega)
    refine vc217_41 ⟨fun q => absurd kl q, fun _ => ⟨mInA_n k7, mInA_n k7, ?_⟩⟩
    rw [Int.toNat_natCast, ek, hf 125 (by decide), h1 k kn]
    refine ih (k + 1) _ kt (hf.tr (Fα.up (by decide))) (fun i hi => ?_)
    rw [up_a]
    by_cases h : i = k
    · rw [if_pos h, h]
    · rw [if_neg h]; exact F i (Nat.lt_of_le_of_ne (Nat.le_of_lt_succ hi) h)
theorem m_tries {X : mXX} {ρ : Nat → Int} {P : List (Int × Int)} {n : Nat} (w : WF ρ) (o : lwO 3 P) (hn : ρ 2 = (n : Int)) (h2 : 2 ≤ n) : ∀ (r d pl : Nat) (used : Int) (row : Nat → Int) (s : ST) (σ α : Nat → Nat → Int) (Q : Option mV → mS → Prop), pl + r = n → 0 ≤ used ∧ used < 128 → rwB ρ row pl → α 110 = ρ → lwM α 6 10 P → (∀ i, i < pl → α 125 i = row i) → SM σ α n s → (∀ σ' α', Fσ [(104, 31), (104, 32)] σ σ' → Fα [115, 116, 118, 125, 126] α α' → (∀ i, i < pl → α' 125 i = row i) → SM σ' α' n (lyF n (jdR ρ P n) r pl used row s) → Q none (S0, σ', α')) → Ca X (d + r + 6) 217 [vR 104, vI (pl : Int), vI used] (S0, σ, α) Q := by
  have n7 : n ≤ 7 := by have := w.2.2.1.2; omega
  intro r
  induction r with
  | zero =>
    intro d pl used row s σ α Q hp hu rb ea l h1 S hQ
    have e : pl = n := hp
    subst e
    have wa : WF (α 110) := by rw [ea]; exact w
    have rba : rwB (α 110) row pl := by rw [ea]; exact rb
    have m := (mx_b (k := pl - 1) w n7 (fw_bd (P := P) w rb) (by clear hu; omega) (by clear hu; omega)).2
    have mK : ovR ρ P pl row < 2147483647 := Int.lt_of_le_of_lt m (by decide)
    clear m
    have fin : ∀ α', Fα [115, 116, 118] α α' → ovR ρ P pl row < s.1 → Go X (d + 5) 217 41 [some (vR 104), some (vI (pl : Int)), some (vI used), some (vI (ovR ρ P pl row)), some (vI 0)] [] (S0, mUp (mUp σ 104 32 1) 104 31 (ovR ρ P pl row), α') (0, 0) Q := by
      intro α' hf hlt
      refine m_leaf (row := row) (α := α') n7 (by rw [hf 125 (by decide)]; exact h1) (fun δ hd D => ?_) pl 0 α' (Nat.zero_add _) Fα.rf (fun i hi => absurd hi (Nat.not_lt_zero i))
      refine hQ _ δ ((Fσ.up (by decide)).tr (Fσ.up (by decide))) ((hf.wk (by decide)).tr (hd.wk (by decide))) (by rw [hd 125 (by decide), hf 125 (by decide)]; exact h1) ?_
      show SM _ _ _ (jdR ρ P pl row s)
      rw [jd_y hlt]
      refine Or.inr ⟨?_, up_s, mK, D⟩
      rw [up_n (by decide), up_s]
    refine vc217_0 ?_
    refine vc159_0 ?_
    rw [ea, hn]
    refine vc217_5 ⟨fun q => absurd rfl q, fun _ => ?_⟩
    refine m_over (P := P) (n := pl) (row := row) wa l o (by rw [ea]; exact hn) h2 rba h1 ?_
    intro α' hf
    rw [ea]
    refine vc217_12 ?_
    rcases S with S | S
    · refine ⟨fun _ => fin α' hf (by rw [S.2]; exact mK), fun q => absurd S.1 q⟩
    · refine ⟨fun q => absurd (S.1.symm.trans q) (by decide), fun _ => ?_⟩
      rw [S.2.1]
      refine ⟨fun q => ?_, fun q => fin α' hf q⟩
      refine hQ σ α' Fσ.rf (hf.wk (by decide)) (by rw [hf 125 (by decide)]; exact h1) ?_
      show SM _ _ _ (jdR ρ P pl row s)
      rw [jd_n q]
      exact Or.inr ⟨S.1, S.2.1, S.2.2.1, by rw [hf 126 (by decide)]; exact S.2.2.2⟩
  | succ r ih =>
    intro d pl used row s σ α Q hp hu rb ea l h1 S hQ
    have pn : pl < n := by omega
    have p7 : pl < 7 := by omega
    have pr : pl + 1 + r = n := by omega
    have pi : ¬ (pl : Int) = (n : Int) := by omega
    refine vc217_0 ?_
    refine vc159_0 ?_
    rw [ea, hn]
    refine vc217_5 ⟨fun _ => ?_, fun q => absurd q pi⟩
    generalize hf0 : (fun (b : Nat) (t : ST) => if iAnd used (iShl 1 (b : Int)) = 0 then lyF n (jdR ρ P n) r (pl + 1) (iOr used (iShl 1 (b : Int))) (upR row pl (b : Int)) t else t) = f
    have fe : lyF n (jdR ρ P n) (r + 1) pl used row s = lpB f n s := by rw [← hf0]; rfl
    rw [fe] at hQ
    have key : ∀ (m b : Nat) (σ1 γ : Nat → Nat → Int), b + m = n → Fσ [(104, 31), (104, 32)] σ σ1 → Fα [115, 116, 118, 125, 126] α γ → (∀ i, i < pl → γ 125 i = row i) → SM σ1 γ n (lpB f b s) → Go X (d + r + 6) 217 70 [some (vR 104), some (vI (pl : Int)), some (vI used), some (vI (b : Int)), none] [] (S0, σ1, γ) (0, 0) Q := by
      intro m
      induction m with
      | zero =>
        intro b σ1 γ hb hs hf g1 gS
        have e : b = n := hb
        subst e
        have eg : γ 110 = ρ := (hf 110 (by decide)).trans ea
        refine vc217_70 ?_
        refine vc159_0 ?_
        rw [eg, hn]
        exact vc217_75 ⟨fun _ => hQ σ1 γ hs hf g1 gS, fun q => absurd q (Int.lt_irrefl _)⟩
      | succ m ihm =>
        intro b σ1 γ hb hs hf g1 gS
        have bn : b < n := by omega
        have bi : (b : Int) < (n : Int) := by omega
        have b7 : b < 7 := by omega
        have bm : b + 1 + m = n := by omega
        have ek := wrS (k := b) (by omega)
        have ep := wrS (k := pl) (by clear ek; omega)
        have eg : γ 110 = ρ := (hf 110 (by decide)).trans ea
        have bs := bitS' hu b7
        have ls : lpB f (b + 1) s = f b (lpB f b s) := rfl
        refine vc217_70 ?_
        refine vc159_0 ?_
        rw [eg, hn]
        refine vc217_75 ⟨fun q => absurd bi q, fun _ => ⟨fun q => ?_, fun q => ?_⟩⟩
        · refine vc217_105 ?_
          rw [ek]
          have es : lpB f (b + 1) s = lpB f b s := by rw [ls, ← hf0]; exact if_neg (fun z => q (bs.1.mp z))
          refine ihm (b + 1) σ1 γ bm hs hf g1 ?_
          rw [es]; exact gS
        · have es : lpB f (b + 1) s = lyF n (jdR ρ P n) r (pl + 1) (iOr used (iShl 1 (b : Int))) (upR row pl (b : Int)) (lpB f b s) := by rw [ls, ← hf0]; exact if_pos (bs.1.mpr q)
          refine ⟨mInA_n p7, ?_⟩
          have bb : 0 ≤ (b : Int) ∧ (b : Int) < ρ 2 := ⟨Int.natCast_nonneg b, by rw [hn]; exact bi⟩
          rw [Int.toNat_natCast, ep]
          have fz : Fα [115, 116, 118, 125, 126] γ (mUp γ 125 pl (b : Int)) := Fα.up (by decide)
          have hfz := hf.tr fz
          have rb' : rwB ρ (upR row pl (b : Int)) (pl + 1) := fun i hi => by
            by_cases e : i = pl
            · rw [e, upR_s]; exact bb
            · rw [upR_n e]; exact rb i (Nat.lt_of_le_of_ne (Nat.le_of_lt_succ hi) e)
          refine ih d (pl + 1) (iOr used (iShl 1 (b : Int))) (upR row pl (b : Int)) (lpB f b s) σ1 _ _ pr bs.2 rb' ((fz 110 (by decide)).trans eg) (l.st (by rw [hfz 110 (by decide)]) (hfz 111 (by decide)) (hfz 112 (by decide))) (fun i hi => ?_) ?_ ?_
          · rw [up_a]
            by_cases e : i = pl
            · rw [if_pos e, e, upR_s]
            · rw [if_neg e, upR_n e]; exact g1 i (Nat.lt_of_le_of_ne (Nat.le_of_lt_succ hi) e)
          · rcases gS with g | g
            · exact Or.inl g
            · exact Or.inr ⟨g.1, g.2.1, g.2.2.1, by rw [up_o (by decide)]; exact g.2.2.2⟩
          · intro σ2 δ hs2 hd d1 dS
            refine vc217_105 ?_
            rw [ek]
            refine ihm (b + 1) σ2 δ bm (hs.tr hs2) (hfz.tr hd) (fun i hi => ?_) ?_
            · rw [d1 i (Nat.lt_succ_of_lt hi), upR_n (Nat.ne_of_lt hi)]
            · rw [es]; exact dS
    exact key n 0 σ α (Nat.zero_add n) Fσ.rf Fα.rf h1 S
def smB2 (ρ : Nat → Int) (v : Int) : Prop := 2 ≤ ρ 2 ∧ -1 ≤ v ∧ v < ρ 2
theorem m_storm {X : mXX} {d : Nat} {Q : Option mV → mS → Prop} {σ α : Nat → Nat → Int} {P : List (Int × Int)} {n : Nat} {v : Int} (w : WF (α 110)) (l : lwM α 6 10 P) (o : lwO 3 P) (hn : α 110 2 = (n : Int)) (h1 : smB2 (α 110) v → ∀ σ' α', Fσ [(104, 0), (104, 31), (104, 32)] σ σ' → σ' 104 0 = 0 → Fα [115, 116, 118, 125, 126] α α' → Q (some (vI (stmR (α 110) P n v))) (S0, σ', α')) (h0 : ¬ smB2 (α 110) v → Q (some (vI 0)) (S0, mUp σ 104 0 1, α)) : Ca X (d + n + 7) 216 [vR 104, vI v] (S0, σ, α) Q := by
  unfold smB2 at h1 h0
  rw [hn] at h1 h0
  refine vc216_0 ?_
  refine vc159_0 ?_
  rw [hn]
  refine vc216_5 ⟨fun q => h0 (fun z => absurd z.1 (Int.not_le.mpr q)), fun q => ⟨fun q2 => h0 (fun z => absurd z.2.1 (Int.not_le.mpr q2)), fun q2 => ?_⟩⟩
  refine vc159_0 ?_
  rw [hn]
  refine vc216_19 ⟨fun q3 => h0 (fun z => q3 z.2.2), fun q3 => ?_⟩
  have n2 : 2 ≤ n := by omega
  have sk := sm_K (P := P) w hn.symm n2
  have hb : (2 : Int) ≤ (n : Int) ∧ -1 ≤ v ∧ v < (n : Int) := ⟨Int.not_lt.mp q, Int.not_lt.mp q2, q3⟩
  have s0 : Fσ [(104, 0), (104, 31), (104, 32)] σ (mUp (mUp σ 104 0 0) 104 32 0) := (Fσ.up (by decide)).tr (Fσ.up (by decide))
  refine m_tries (ρ := α 110) (P := P) w o hn n2 n d 0 0 (fun _ => 0) s00 _ _ _ (Nat.zero_add n) (by decide) (fun i hi => absurd hi (Nat.not_lt_zero i)) rfl l (fun i hi => absurd hi (Nat.not_lt_zero i)) (Or.inl ⟨up_s, rfl⟩) ?_
  intro σ' α' hs ha _ S
  have z := h1 hb σ' α' (s0.tr (hs.wk (by decide))) (by rw [hs 104 0 (by decide), up_n (by decide), up_s]) ha
  have S' : SM σ' α' n (smR (α 110) P n) := S
  unfold stmR at z
  rcases S' with S | S
  · exact absurd S.2 (Int.ne_of_lt sk)
  · refine vc216_50 ⟨fun p => ?_, fun p => ?_⟩
    · have v0 : 0 ≤ v := by clear sk z S; omega
      have vn : v.toNat < n := by clear sk z S; omega
      have n7 : n ≤ 7 := by have := w.2.2.1.2; clear sk z S; omega
      rw [if_neg p] at z
      refine ⟨by unfold mInA; clear sk z S; omega, ?_⟩
      rw [S.2.2.2 v.toNat vn]
      exact z
    · rw [if_pos p] at z
      rw [S.2.1]
      exact z
