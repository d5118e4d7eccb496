/-- the class judges -/
def SC (σ α : Nat → Nat → Int) (n : Nat) (s : ST) : Prop := σ 100 7 = s.1 ∧ (s.1 < 2147483647 → ∀ i, i < n → α 103 i = s.2 i)
theorem nj1 {n : Nat} (h : 2 ≤ n) (h7 : n ≤ 7) : wr ((n : Int) - 1) = ((0 + n - 1 : Nat) : Int) := by rw [wr_of (by omega) (by omega)]; omega
theorem nmn {u : Int} (h : -1000 ≤ u ∧ u ≤ 5000) : max (-2147483648) u = max (-100000000) u := by omega
theorem jd_y {ρ : Nat → Int} {P : List (Int × Int)} {n : Nat} {row : Nat → Int} {s : ST} (h : ovR ρ P n row < s.1) : jdR ρ P n row s = (ovR ρ P n row, row) := by unfold jdR; rw [if_pos h]
theorem jd_n {ρ : Nat → Int} {P : List (Int × Int)} {n : Nat} {row : Nat → Int} {s : ST} (h : ¬ ovR ρ P n row < s.1) : jdR ρ P n row s = s := by unfold jdR; rw [if_neg h]
theorem nj2 {x : Int} (h : -1000 ≤ x) (g : x ≤ -2147483648) : False := by omega
theorem c_judge {X : mXX} {d : Nat} {Q : Option mV → mS → Prop} {σ α : Nat → Nat → Int} {ρ : Nat → Int} {P : List (Int × Int)} {n : Nat} {row : Nat → Int} {s : ST} (R : Rep σ α ρ) (w : WF ρ) (hn : ρ 2 = (n : Int)) (h2 : 2 ≤ n) (rb : rwB ρ row n) (h1 : ∀ i, i < n → α 102 i = row i) (bf : bfC α (fwR ρ P row) 0 n) (S : SC σ α n s) (sg : -1000 ≤ s.1) (hQ : ∀ σ' α', Fσ [(100, 7)] σ σ' → Fα [103] α α' → SC σ' α' n (jdR ρ P n row s) → Q none (S0, σ', α')) : Ca X (d + 3) 64 [vR 100] (S0, σ, α) Q := by
  have n7 : n ≤ 7 := by have := w.2.2.1.2; omega
  have r2 : σ 23 2 = (n : Int) := R.2.2.1.trans hn
  have hF := fw_bd (P := P) w rb
  have ez := nj1 h2 n7
  have m := mx_b (k := n - 1) w n7 hF (by omega) (by omega)
  have s1 := S.1
  refine vc64_0 ?_
  have key : ∀ (t k : Nat) (g : Int), k + t = n - 1 → (0 < k → g = mxE ρ (fwR ρ P row) n k) → (k = 0 → g = -2147483648) → Go X (d + 2) 64 5 [some (vR 100), some (vI g), some (vI (k : Int))] [] (S0, σ, α) (0, 0) Q := by
    intro t
    induction t with
    | zero =>
      intro k g hk hg _
      have ek : k = n - 1 := hk
      have k0 : 0 < k := by clear m hg; omega
      have kn : ¬ (k : Int) < ((0 + n - 1 : Nat) : Int) := by clear m hg; omega
      have eg : g = ovR ρ P n row := by rw [hg k0, ek]; rfl
      refine vc64_5 ⟨fun _ => ?_, fun q => absurd q (by rw [r2, ez]; exact kn)⟩
      rw [s1, eg]
      refine ⟨fun q => hQ σ α Fσ.rf Fα.rf ?_, fun q => hQ _ _ (Fσ.up (by decide)) (Fα.cp (by decide)) ?_⟩
      · rw [jd_n q]; exact S
      · rw [jd_y q]
        refine ⟨up_s, fun _ i hi => ?_⟩
        rw [cp_s (Nat.lt_of_lt_of_le hi n7)]; exact h1 i hi
    | succ t ih =>
      intro k g hk hg h0
      have kn : (k : Int) < ((0 + n - 1 : Nat) : Int) := by clear m hg h0; omega
      have kt : k + 1 + t = n - 1 := by clear m hg h0; omega
      have k7 : 0 ≤ k ∧ k + 1 < 0 + n := by clear m hg h0; omega
      have a7 : 0 + n ≤ 7 := by clear m hg h0; omega
      have kpos : 0 < k + 1 := Nat.succ_pos k
      have kne : k + 1 ≠ 0 := Nat.succ_ne_zero k
      have kle : k + 1 ≤ n - 1 := by clear m hg h0; omega
      have ek := wrS (k := k) (by clear m hg h0 ez; omega)
      refine vc64_5 ⟨fun q => absurd (by rw [r2, ez]; exact kn) q, fun _ => ?_⟩
      rw [s1]
      refine ⟨fun q => ⟨fun _ => hQ σ α Fσ.rf Fα.rf ?_, fun q2 => absurd q2 q⟩, fun q => ?_⟩
      · have ge : s.1 ≤ g := Int.not_lt.mp q
        have mono : ∀ i, k ≤ i → 0 < k → mxE ρ (fwR ρ P row) n k ≤ mxE ρ (fwR ρ P row) n i := by
          intro i hi hk0
          obtain ⟨e, rfl⟩ := Nat.le.dest hi
          clear hi
          induction e with
          | zero => exact Int.le_refl _
          | succ e ihe => exact Int.le_trans ihe (Int.le_max_left _ _)
        have no : ¬ ovR ρ P n row < s.1 := by
          rcases Nat.eq_zero_or_pos k with k0 | k0
          · exfalso
            have eg := h0 k0
            rw [eg] at ge
            exact nj2 sg ge
          · have := mono (n - 1) (Nat.le_of_succ_le kle) k0
            rw [hg k0] at ge
            exact Int.not_lt.mpr (Int.le_trans ge this)
        rw [jd_n no]; exact S
      · rw [r2, ez]
        refine c_excess (F := fwR ρ P row) (a := 0) (n := n) R w a7 k7 (fun b _ hb => hF b (by rw [Nat.zero_add] at hb; exact hb)) bf ?_
        refine vc64_45 ?_
        rw [ek]
        refine ih (k + 1) _ kt (fun _ => ?_) (fun z => absurd z kne)
        rcases Nat.eq_zero_or_pos k with k0 | k0
        · have e := ex_bd (F := fwR ρ P row) (a := 0) (n := n) (k := k) w a7 k7 (fun b _ q => hF b (by rw [Nat.zero_add] at q; exact q))
          rw [h0 k0]
          show _ = max (mxE ρ (fwR ρ P row) n k) (exR ρ (fwR ρ P row) 0 n k)
          subst k0
          exact (nmn e).trans rfl
        · rw [hg k0]; rfl
  exact key (n - 1) 0 _ (Nat.zero_add _) (fun z => absurd z (Nat.lt_irrefl _)) (fun _ => rfl)
