/-! The reference looks at its tokens -/
def NE (T : Nat → Int) (N i : Nat) : Prop := ∀ j, j < i → kdI T N j ≠ 0
theorem ne_b {T : Nat → Int} {N i : Nat} (h : NE T N i) : i ≤ N := Nat.le_trans (ps_i h) ps_b
theorem NE.s {T : Nat → Int} {N i : Nat} (h : NE T N i) (k : kdI T N i ≠ 0) : NE T N (i + 1) := fun j hj => by
  by_cases e : j = i
  · rw [e]; exact k
  · exact h j (Nat.lt_of_le_of_ne (Nat.lt_succ_iff.mp hj) e)
def rfL : List Nat := [0, 1, 2, 4, 9, 11, 12, 13, 14, 5, 6, 7, 8, 10, 15, 16, 17, 18, 19, 20, 21, 22, 3, 26, 27, 28, 23, 24, 25]
def rfW (w : Nat) : Nat := rfL.getD w 0
def fcW (k : Nat) : Nat := if k < 3 then 26 + k else 19 + k
theorem rf_b : ∀ w : Fin 29, rfW w.val < 29 := by decide +kernel
def WDm (α : Nat → Nat → Int) : Prop := (∀ w, w < 29 → α 109 (rfW w) = hsW w) ∧ ∀ k, k < 7 → α 114 k = ((rfW (fcW k) : Nat) : Int)
theorem WDm.fr {α α' : Nat → Nat → Int} {Z : List Nat} (W : WDm α) (h : Fα Z α α') (hz : ∀ q ∈ Z, q ≠ 109 ∧ q ≠ 114 := by decide) : WDm α' := by
  unfold WDm
  rw [h 109 (fun q => (hz _ q).1 rfl), h 114 (fun q => (hz _ q).2 rfl)]
  exact W
theorem MTk.fr {α α' : Nat → Nat → Int} {T : Nat → Int} {N : Nat} {Z : List Nat} (M : MTk α T N) (h : Fα Z α α') (hz : ∀ q ∈ Z, q ≠ 106 ∧ q ≠ 107 ∧ q ≠ 108 := by decide) : MTk α' T N := fun i hi => (M i hi).fr (by rw [h 106 (fun q => (hz _ q).1 rfl)]) (by rw [h 107 (fun q => (hz _ q).2.1 rfl)]) (by rw [h 108 (fun q => (hz _ q).2.2 rfl)])
/-- what the reference needs to know -/
def MC (α : Nat → Nat → Int) (T : Nat → Int) (N : Nat) : Prop := MTk α T N ∧ WDm α ∧ N ≤ 1000
theorem MC.fr {α α' : Nat → Nat → Int} {T : Nat → Int} {N : Nat} {Z : List Nat} (M : MC α T N) (h : Fα Z α α') (hz : ∀ q ∈ Z, (q ≠ 106 ∧ q ≠ 107 ∧ q ≠ 108) ∧ q ≠ 109 ∧ q ≠ 114 := by decide) : MC α' T N := ⟨M.1.fr h (fun q hq => (hz q hq).1), M.2.1.fr h (fun q hq => (hz q hq).2), M.2.2⟩
theorem lc0 {a b : Int} : lCmp a b = 0 ↔ a = b := by
  unfold lCmp
  by_cases h : b < a
  · rw [if_pos h]; exact ⟨fun z => absurd z (by decide), fun z => by omega⟩
  · rw [if_neg h]
    by_cases h2 : a = b
    · rw [if_pos h2]; exact ⟨fun _ => h2, fun _ => rfl⟩
    · rw [if_neg h2]; exact ⟨fun z => absurd z (by decide), fun z => absurd z h2⟩
theorem lcm {a b : Int} : lCmp a b < 0 ↔ a < b := by
  unfold lCmp
  by_cases h : b < a
  · rw [if_pos h]; exact ⟨fun z => absurd z (by decide), fun z => by omega⟩
  · rw [if_neg h]
    by_cases h2 : a = b
    · rw [if_pos h2]; exact ⟨fun z => absurd z (by decide), fun z => by omega⟩
    · rw [if_neg h2]; exact ⟨fun _ => by omega, fun _ => by decide⟩
theorem lcp {a b : Int} : 0 < lCmp a b ↔ b < a := by
  unfold lCmp
  by_cases h : b < a
  · rw [if_pos h]; exact ⟨fun _ => h, fun _ => by decide⟩
  · rw [if_neg h]
    by_cases h2 : a = b
    · rw [if_pos h2]; exact ⟨fun z => absurd z (by decide), fun z => by omega⟩
    · rw [if_neg h2]; exact ⟨fun z => absurd z (by decide), fun z => absurd z h⟩
theorem sr_k {k : Int} (h : k = 0 ∨ k = 1 ∨ k = 2 ∨ k = 3 ∨ k = 4) : (srK k = 0 ↔ k = 0) ∧ (srK k = 1 ↔ k = 2) ∧ (srK k = 2 ↔ k = 3) ∧ (srK k = 3 ↔ k = 4) := by
  rcases h with rfl | rfl | rfl | rfl | rfl <;> decide
/-- where the reference is: fault f, and if none, at token i -/
def MS (σ : Nat → Nat → Int) (T : Nat → Int) (N i : Nat) (f : Int) : Prop := σ 104 8 = f ∧ 0 ≤ f ∧ (f = 0 → σ 104 7 = (i : Int) ∧ NE T N i)
def ft (f g : Int) : Int := if f = 0 then g else f
theorem ft_0 {g : Int} : ft 0 g = g := rfl
theorem ft_n {f g : Int} (h : f ≠ 0) : ft f g = f := if_neg h
theorem ftz {f g : Int} : ft f g = 0 ↔ f = 0 ∧ g = 0 := by
  unfold ft
  by_cases h : f = 0
  · rw [if_pos h]; exact ⟨fun q => ⟨h, q⟩, fun q => q.2⟩
  · rw [if_neg h]; exact ⟨fun q => absurd q h, fun q => absurd q.1 h⟩
theorem MS.i {α σ : Nat → Nat → Int} {T : Nat → Int} {N i : Nat} (S : MS σ T N i 0) (M : MC α T N) : mInA (i : Int) 1002 ∧ σ 104 7 = (i : Int) ∧ MTi α T N i ∧ NE T N i := by
  have h := S.2.2 rfl
  have b := ne_b h.2
  have n := M.2.2
  exact ⟨mInA_n (by omega), h.1, M.1 i h.2, h.2⟩
theorem nbw {T : Nat → Int} {N i : Nat} (hk : kdI T N i = 3) : wr (nbI T N i) = nbI T N i := by
  have vb := nb_b hk
  generalize nbI T N i = x at *
  exact wr_of (by omega) (by omega)
theorem eiw {i N : Nat} (h : i ≤ N) (n : N ≤ 1000) : wr (wr ((i : Int) + 1) - 1) = (i : Int) := by
  rw [wrS (k := i) (by omega), wr_of (by omega) (by omega)]; omega
theorem ei0 {i N : Nat} (h : i ≤ N) (n : N ≤ 1000) : wr ((i : Int) + 0) = (i : Int) := by
  rw [Int.add_zero, wr_of (by omega) (by omega)]
theorem MS.p {σ : Nat → Nat → Int} {T : Nat → Int} {N i : Nat} {f : Int} (S : MS σ T N i f) (h : f ≠ 0) : σ 104 8 ≠ 0 ∧ 0 < σ 104 8 := by
  have b := S.2.1
  rw [S.1]; exact ⟨h, by clear S; omega⟩
theorem MS.fr {σ σ' : Nat → Nat → Int} {T : Nat → Int} {N i : Nat} {f : Int} {Z : List (Nat × Nat)} (S : MS σ T N i f) (h : Fσ Z σ σ') (hz : (104, 7) ∉ Z ∧ (104, 8) ∉ Z := by decide) : MS σ' T N i f := by
  unfold MS
  rw [h 104 7 hz.1, h 104 8 hz.2]; exact S
theorem MS.st {σ : Nat → Nat → Int} {T : Nat → Int} {N i : Nat} {g : Int} (h : 0 < g) : MS (mUp σ 104 8 g) T N i g := ⟨up_s, Int.le_of_lt h, fun e => absurd h (by rw [e]; decide)⟩
theorem MS.d {σ σ' : Nat → Nat → Int} {T : Nat → Int} {N i j : Nat} {f : Int} (S : MS σ T N i f) (h : f ≠ 0) (e : σ' 104 8 = σ 104 8) : MS σ' T N j f := ⟨by rw [e]; exact S.1, S.2.1, fun z => absurd z h⟩
theorem MS.nx {σ : Nat → Nat → Int} {T : Nat → Int} {N i : Nat} (S : MS σ T N i 0) (hN : N ≤ 1000) (k : kdI T N i ≠ 0) : MS (mUp σ 104 7 (wr (σ 104 7 + 1))) T N (i + 1) 0 := by
  have h := S.2.2 rfl
  have b := ne_b h.2
  have e := wrS (k := i) (Nat.lt_of_le_of_lt (Nat.le_trans b hN) (by decide))
  refine ⟨by rw [up_n (by decide)]; exact S.1, Int.le_refl _, fun _ => ⟨?_, h.2.s k⟩⟩
  rw [up_s, h.1, e]
theorem MS.nx0 {σ : Nat → Nat → Int} {T : Nat → Int} {N i : Nat} {f : Int} (S : MS σ T N i f) (hN : N ≤ 1000) : MS (mUp σ 104 7 (wr (σ 104 7 + 0))) T N i f := by
  refine ⟨by rw [up_n (by decide)]; exact S.1, S.2.1, fun z => ?_⟩
  have h := S.2.2 z
  refine ⟨?_, h.2⟩
  rw [up_s, h.1, ei0 (ne_b h.2) hN]
theorem k_n {T : Nat → Int} {N i w : Nat} (h : twI T N i = w) (hw : w < 29) : kdI T N i = 2 := by
  by_cases e : kdI T N i = 2
  · exact e
  · rw [tw_n e] at h
    rw [← h] at hw
    exact absurd hw (by decide)
theorem k_s {T : Nat → Int} {N i : Nat} {k : Int} (h : kdI T N i = k) (hk : k ≠ 0) : kdI T N i ≠ 0 := by rw [h]; exact hk
def S78 : List (Nat × Nat) := [(104, 7), (104, 8)]
theorem ft_a {f g h : Int} : ft (ft f g) h = ft f (ft g h) := by
  by_cases e : f = 0
  · rw [e]; rfl
  · rw [ft_n e, ft_n e, ft_n e]
theorem m_isWord {X : mXX} {d : Nat} {Q : Option mV → mS → Prop} {σ α : Nat → Nat → Int} {T : Nat → Int} {N i w : Nat} {v f : Int} (M : MC α T N) (S : MS σ T N i f) (hw : w < 29) (hv : v = ((rfW w : Nat) : Int)) (h1 : f = 0 → twI T N i = w → Q (some (vI 1)) (S0, σ, α)) (h0 : (f = 0 → twI T N i ≠ w) → Q (some (vI 0)) (S0, σ, α)) : Ca X (d + 1) 137 [vR 104, vI v] (S0, σ, α) Q := by
  by_cases hf : f = 0
  · subst hf
    obtain ⟨b, e7, mi, ne⟩ := S.i M
    have srt := (sr_k (kd_r (T := T) (N := N) (i := i))).2.1
    refine vc137_0 ⟨fun z => absurd S.1 z, fun _ => ?_⟩
    rw [e7, Int.toNat_natCast, mi.1]
    refine ⟨b, fun q => h0 (fun _ z => q (srt.mpr (k_n z hw))), fun q => ?_⟩
    have k2 := srt.mp q
    have tw := tw_hs k2 hw
    have e8 : α 108 i = hsI T N i := mi.2.2.1 k2
    rw [e8, hv, Int.toNat_natCast, M.2.1.1 w hw]
    refine ⟨b, mInA_n (rf_b ⟨w, hw⟩), fun q2 => h0 (fun _ z => q2 (lc0.mpr (tw.mp z))), fun q2 => h1 rfl (tw.mpr (lc0.mp q2))⟩
  · exact vc137_0 ⟨fun _ => h0 (fun z => absurd z hf), fun z => absurd z (S.p hf).1⟩
theorem m_isSign {X : mXX} {d : Nat} {Q : Option mV → mS → Prop} {σ α : Nat → Nat → Int} {T : Nat → Int} {N i : Nat} {c f : Int} (M : MC α T N) (S : MS σ T N i f) (h1 : f = 0 → sgF T N c i = 0 → Q (some (vI 1)) (S0, σ, α)) (h0 : (f = 0 → sgF T N c i ≠ 0) → Q (some (vI 0)) (S0, σ, α)) : Ca X (d + 1) 141 [vR 104, vI c] (S0, σ, α) Q := by
  by_cases hf : f = 0
  · subst hf
    obtain ⟨b, e7, mi, ne⟩ := S.i M
    have srt := (sr_k (kd_r (T := T) (N := N) (i := i))).2.2.2
    refine vc141_0 ⟨fun z => absurd S.1 z, fun _ => ?_⟩
    rw [e7, Int.toNat_natCast, mi.1]
    refine ⟨b, fun q => h0 (fun _ z => q (srt.mpr (sgF_z.mp z).1)), fun q => ?_⟩
    have k4 := srt.mp q
    rw [mi.2.2.2.2 k4]
    refine ⟨b, fun q2 => h0 (fun _ z => q2 (lc0.mpr (sgF_z.mp z).2)), fun q2 => h1 rfl (sgF_z.mpr ⟨k4, lc0.mp q2⟩)⟩
  · exact vc141_0 ⟨fun _ => h0 (fun z => absurd z hf), fun z => absurd z (S.p hf).1⟩
theorem m_wrong {X : mXX} {d : Nat} {Q : Option mV → mS → Prop} {σ α : Nat → Nat → Int} {T : Nat → Int} {N i j : Nat} {k f : Int} (M : MC α T N) (S : MS σ T N i f) (hk : 1 ≤ k ∧ k ≤ 5) (h : ∀ σ', Fσ [(104, 8)] σ σ' → MS σ' T N j (ft f (fa T N k i)) → Q none (S0, σ', α)) : Ca X (d + 1) 138 [vR 104, vI k] (S0, σ, α) Q := by
  by_cases hf : f = 0
  · subst hf
    obtain ⟨b, e7, mi, ne⟩ := S.i M
    refine vc138_0 ⟨fun z => absurd S.1 z, fun _ => ⟨by rw [e7]; exact b, ?_⟩⟩
    rw [e7, Int.toNat_natCast, mi.2.1, fa_w M.2.2 hk]
    exact h _ (Fσ.up (by decide)) (MS.st (fa_p hk.1))
  · refine vc138_0 ⟨fun _ => h _ (fun _ _ _ => rfl) ?_, fun z => absurd z (S.p hf).1⟩
    rw [ft_n hf]
    exact S.d hf rfl
theorem m_hasWord {X : mXX} {d : Nat} {Q : Option mV → mS → Prop} {σ α : Nat → Nat → Int} {T : Nat → Int} {N i w : Nat} {v f : Int} (M : MC α T N) (S : MS σ T N i f) (hw : w < 29) (hv : v = ((rfW w : Nat) : Int)) (h1 : f = 0 → twI T N i = w → ∀ σ', Fσ [(104, 7)] σ σ' → MS σ' T N (i + 1) 0 → Q (some (vI 1)) (S0, σ', α)) (h0 : (f = 0 → twI T N i ≠ w) → ∀ σ', Fσ [(104, 7)] σ σ' → MS σ' T N i f → Q (some (vI 0)) (S0, σ', α)) : Ca X (d + 2) 136 [vR 104, vI v] (S0, σ, α) Q := by
  refine vc136_0 (m_isWord M S hw hv (fun e q => ?_) (fun q => ?_))
  · refine vc136_5 ⟨fun z => absurd z (by decide), fun _ => ⟨Or.inr rfl, ?_⟩⟩
    subst e
    exact h1 rfl q _ (Fσ.up (by decide)) (S.nx M.2.2 (k_s (k_n q hw) (by decide)))
  · refine vc136_5 ⟨fun _ => ⟨Or.inl rfl, ?_⟩, fun z => absurd rfl z⟩
    exact h0 q _ (Fσ.up (by decide)) (S.nx0 M.2.2)
theorem m_hasSign {X : mXX} {d : Nat} {Q : Option mV → mS → Prop} {σ α : Nat → Nat → Int} {T : Nat → Int} {N i : Nat} {c f : Int} (M : MC α T N) (S : MS σ T N i f) (h1 : f = 0 → sgF T N c i = 0 → ∀ σ', Fσ [(104, 7)] σ σ' → MS σ' T N (i + 1) 0 → Q (some (vI 1)) (S0, σ', α)) (h0 : (f = 0 → sgF T N c i ≠ 0) → ∀ σ', Fσ [(104, 7)] σ σ' → MS σ' T N i f → Q (some (vI 0)) (S0, σ', α)) : Ca X (d + 2) 156 [vR 104, vI c] (S0, σ, α) Q := by
  refine vc156_0 (m_isSign M S (fun e q => ?_) (fun q => ?_))
  · refine vc156_5 ⟨fun z => absurd z (by decide), fun _ => ⟨Or.inr rfl, ?_⟩⟩
    subst e
    exact h1 rfl q _ (Fσ.up (by decide)) (S.nx M.2.2 (k_s (sgF_z.mp q).1 (by decide)))
  · refine vc156_5 ⟨fun _ => ⟨Or.inl rfl, ?_⟩, fun z => absurd rfl z⟩
    exact h0 q _ (Fσ.up (by decide)) (S.nx0 M.2.2)
theorem m_takeWord {X : mXX} {d : Nat} {Q : Option mV → mS → Prop} {σ α : Nat → Nat → Int} {T : Nat → Int} {N i w : Nat} {v f : Int} (M : MC α T N) (S : MS σ T N i f) (hw : w < 29) (hv : v = ((rfW w : Nat) : Int)) (h : ∀ σ', Fσ S78 σ σ' → MS σ' T N (i + 1) (ft f (wdF T N w i)) → Q none (S0, σ', α)) : Ca X (d + 3) 135 [vR 104, vI v] (S0, σ, α) Q := by
  refine vc135_0 (m_hasWord M S hw hv (fun e q σ' F S' => ?_) (fun q σ' F S' => ?_))
  · refine vc135_5 ⟨fun _ => vc135_13 (h σ' (F.wk (by decide)) ?_), fun z => absurd z (by decide)⟩
    rw [e, ft_0, wdF_z.mpr q]
    exact S'
  · refine vc135_5 ⟨fun z => absurd rfl z, fun _ => ?_⟩
    refine m_wrong (j := i + 1) M S' (by decide) (fun τ F2 S2 => vc135_13 (h τ ((F.wk (by decide)).tr (F2.wk (by decide))) ?_))
    by_cases hf : f = 0
    · subst hf
      rw [ft_0, (wdF_p (w := w) (fun z => q rfl (wdF_z.mp z))).2]; exact S2
    · rw [ft_n hf] at S2 ⊢; exact S2
theorem m_takeSign {X : mXX} {d : Nat} {Q : Option mV → mS → Prop} {σ α : Nat → Nat → Int} {T : Nat → Int} {N i : Nat} {c f : Int} (M : MC α T N) (S : MS σ T N i f) (h : ∀ σ', Fσ S78 σ σ' → MS σ' T N (i + 1) (ft f (sgF T N c i)) → Q none (S0, σ', α)) : Ca X (d + 2) 140 [vR 104, vI c] (S0, σ, α) Q := by
  refine vc140_0 (m_isSign M S (fun e q => ?_) (fun q => ?_))
  · subst e
    refine vc140_5 ⟨fun z => absurd z (by decide), fun _ => vc140_26 (h _ (Fσ.up (by decide)) ?_)⟩
    rw [ft_0, q]
    exact S.nx M.2.2 (k_s (sgF_z.mp q).1 (by decide))
  · refine vc140_5 ⟨fun _ => ?_, fun z => absurd rfl z⟩
    refine m_wrong (j := i + 1) M S (by decide) (fun τ F2 S2 => vc140_26 (h τ (F2.wk (by decide)) ?_))
    by_cases hf : f = 0
    · subst hf
      rw [ft_0, show sgF T N c i = fa T N 1 i from if_neg (fun z => q rfl (sgF_z.mpr z))]; exact S2
    · rw [ft_n hf] at S2 ⊢; exact S2
theorem m_takeNumber {X : mXX} {d : Nat} {Q : Option mV → mS → Prop} {σ α : Nat → Nat → Int} {T : Nat → Int} {N i : Nat} {lo hi f : Int} (M : MC α T N) (S : MS σ T N i f) (h : ∀ σ' v, Fσ S78 σ σ' → MS σ' T N (i + 1) (ft f (nbF T N lo hi i)) → (ft f (nbF T N lo hi i) = 0 → v = nbI T N i) → (ft f (nbF T N lo hi i) ≠ 0 → v = 0) → Q (some (vI v)) (S0, σ', α)) : Ca X (d + 2) 139 [vR 104, vI lo, vI hi] (S0, σ, α) Q := by
  have dead : ∀ τ g, Fσ S78 σ τ → MS τ T N (i + 1) g → g ≠ 0 → g = ft f (nbF T N lo hi i) → Go X (d + 1) 139 70 [some (vR 104), some (vI lo), some (vI hi)] [] (S0, τ, α) (0, 0) Q := by
    intro τ g F2 S2 hg eg
    refine vc139_70 ⟨fun z => absurd (S2.p hg).2 z, fun _ => ?_⟩
    exact h τ 0 F2 (eg ▸ S2) (fun z => absurd (eg.trans z) hg) (fun _ => rfl)
  by_cases hf : f = 0
  · subst hf
    obtain ⟨b, e7, mi, ne⟩ := S.i M
    have srt := (sr_k (kd_r (T := T) (N := N) (i := i))).2.2.1
    have bad : ∀ k : Int, (1 ≤ k ∧ k ≤ 5) → nbF T N lo hi i = fa T N k i → Ca X (d + 1) 138 [vR 104, vI k] (S0, σ, α) (fun r s' => Go X (d + 1) 139 70 [some (vR 104), some (vI lo), some (vI hi)] [] s' (0, 0) Q) := by
      intro k hk en
      refine m_wrong (j := i + 1) M S hk (fun τ F2 S2 => dead τ _ (F2.wk (by decide)) S2 (fa_0 hk.1) ?_)
      rw [ft_0, ft_0, en]
    refine vc139_0 ⟨fun z => absurd S.1 z, fun _ => ?_⟩
    rw [e7, Int.toNat_natCast, mi.1]
    refine ⟨b, fun q => ⟨fun z => absurd S.1 z, fun _ => ?_⟩, fun q => ?_⟩
    · have k3 := srt.mp q
      have e8 : α 108 i = nbI T N i := mi.2.2.2.1 k3
      rw [e8]
      refine ⟨b, fun q2 => bad 4 (by decide) ?_, fun q2 => ⟨b, fun q3 => ?_, fun q3 => bad 4 (by decide) ?_⟩⟩
      · unfold nbF; rw [if_pos k3, if_neg (fun z => Int.not_lt.mpr z.1 (lcm.mp q2))]
      · have en : nbF T N lo hi i = 0 := nbF_z.mpr ⟨k3, Int.not_lt.mp (fun z => q2 (lcm.mpr z)), Int.not_lt.mp (fun z => q3 (lcp.mpr z))⟩
        refine vc139_70 ⟨fun _ => ?_, fun z => absurd z (by rw [S.1]; decide)⟩
        have ee : wr (wr (σ 104 7 + 1) - 1) = (i : Int) := by rw [e7]; exact eiw (ne_b ne) M.2.2
        rw [ee, Int.toNat_natCast, e8, nbw k3]
        refine ⟨b, h _ _ (Fσ.up (by decide)) ?_ (fun _ => rfl) (fun z => absurd en z)⟩
        rw [ft_0, en]
        exact S.nx M.2.2 (k_s k3 (by decide))
      · unfold nbF; rw [if_pos k3, if_neg (fun z => Int.not_lt.mpr z.2 (lcp.mp q3))]
    · have en : nbF T N lo hi i = fa T N 1 i := by unfold nbF; rw [if_neg (fun z => q (srt.mpr z))]
      refine m_wrong (j := i + 1) M S (by decide) (fun τ F2 S2 => vc139_25 (dead τ _ (F2.wk (by decide)) S2 (fa_0 (by decide)) ?_))
      rw [ft_0, ft_0, en]
  · have hd := dead σ f (fun _ _ _ => rfl) (S.d hf rfl) hf (ft_n hf).symm
    exact vc139_0 ⟨fun _ => ⟨fun _ => hd, fun z => absurd z (S.p hf).1⟩, fun z => absurd z (S.p hf).1⟩
theorem m_takeAfter {X : mXX} {d : Nat} {Q : Option mV → mS → Prop} {σ α : Nat → Nat → Int} {T : Nat → Int} {N i w : Nat} {u lo hi f : Int} (M : MC α T N) (S : MS σ T N i f) (hw : w < 29) (hv : u = ((rfW w : Nat) : Int)) (h : ∀ σ' v, Fσ S78 σ σ' → MS σ' T N (i + 2) (ft (ft f (wdF T N w i)) (nbF T N lo hi (i + 1))) → (ft (ft f (wdF T N w i)) (nbF T N lo hi (i + 1)) = 0 → v = nbI T N (i + 1)) → (ft (ft f (wdF T N w i)) (nbF T N lo hi (i + 1)) ≠ 0 → v = 0) → Q (some (vI v)) (S0, σ', α)) : Ca X (d + 4) 145 [vR 104, vI u, vI lo, vI hi] (S0, σ, α) Q := by
  refine vc145_0 (m_takeWord M S hw hv (fun τ F1 S1 => vc145_5 ?_))
  exact m_takeNumber M S1 (fun σ' v F2 S2 v1 v2 => vc145_11 (h σ' v (F1.tr F2) S2 v1 v2))
