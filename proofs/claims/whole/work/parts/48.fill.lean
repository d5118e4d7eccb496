/-! Arrays.fill, row by row (printed by wip/tool/gen48.py) -/
theorem c_fill82 {X : mXX} {d : Nat} {Q : Option mV → mS → Prop} {σ α : Nat → Nat → Int} {v : Int} (hQ : ∀ α', Fα [82] α α' → (∀ i, i < 1536 → α' 82 i = v) → Q none (S0, σ, α')) : Ca X (d + 1) 224 [vR 82, vI v] (S0, σ, α) Q := by
  refine vc224r82_0 ?_
  have key : ∀ (m i : Nat) (γ : Nat → Nat → Int), i + m = 1536 → Fα [82] α γ → (∀ j, j < i → γ 82 j = v) → Go X d 224 5 [some (vR 82), some (vI v), some (vI (i : Int)), some (vI 1536)] [] (S0, σ, γ) (0, 0) Q := by
    intro m
    induction m with
    | zero =>
      intro i γ hi hf h
      have e : i = 1536 := hi
      subst e
      exact vc224r82_5 ⟨fun _ => hQ γ hf h, fun q => absurd q (by decide)⟩
    | succ m ih =>
      intro i γ hi hf h
      have il : i < 1536 := by omega
      have il' : (i : Int) < 1536 := by omega
      have im : i + 1 + m = 1536 := by omega
      have ek := wrS (k := i) (by omega)
      refine vc224r82_5 ⟨fun q => absurd il' q, fun _ => ⟨mInA_n il, ?_⟩⟩
      rw [Int.toNat_natCast, ek]
      refine ih (i + 1) _ im (hf.tr (Fα.up (by decide))) (fun j hj => ?_)
      rw [up_a]
      by_cases hji : j = i
      · rw [if_pos hji]
      · rw [if_neg hji]; exact h j (Nat.lt_of_le_of_ne (Nat.le_of_lt_succ hj) hji)
  exact key 1536 0 α (Nat.zero_add _) Fα.rf (fun j hj => absurd hj (by omega))
theorem c_fill44 {X : mXX} {d : Nat} {Q : Option mV → mS → Prop} {σ α : Nat → Nat → Int} {v : Int} (hQ : ∀ α', Fα [44] α α' → (∀ i, i < 7 → α' 44 i = v) → Q none (S0, σ, α')) : Ca X (d + 1) 224 [vR 44, vI v] (S0, σ, α) Q := by
  refine vc224r44_0 ?_
  have key : ∀ (m i : Nat) (γ : Nat → Nat → Int), i + m = 7 → Fα [44] α γ → (∀ j, j < i → γ 44 j = v) → Go X d 224 5 [some (vR 44), some (vI v), some (vI (i : Int)), some (vI 7)] [] (S0, σ, γ) (0, 0) Q := by
    intro m
    induction m with
    | zero =>
      intro i γ hi hf h
      have e : i = 7 := hi
      subst e
      exact vc224r44_5 ⟨fun _ => hQ γ hf h, fun q => absurd q (by decide)⟩
    | succ m ih =>
      intro i γ hi hf h
      have il : i < 7 := by omega
      have il' : (i : Int) < 7 := by omega
      have im : i + 1 + m = 7 := by omega
      have ek := wrS (k := i) (by omega)
      refine vc224r44_5 ⟨fun q => absurd il' q, fun _ => ⟨mInA_n il, ?_⟩⟩
      rw [Int.toNat_natCast, ek]
      refine ih (i + 1) _ im (hf.tr (Fα.up (by decide))) (fun j hj => ?_)
      rw [up_a]
      by_cases hji : j = i
      · rw [if_pos hji]
      · rw [if_neg hji]; exact h j (Nat.lt_of_le_of_ne (Nat.le_of_lt_succ hj) hji)
  exact key 7 0 α (Nat.zero_add _) Fα.rf (fun j hj => absurd hj (by omega))
theorem c_fill45 {X : mXX} {d : Nat} {Q : Option mV → mS → Prop} {σ α : Nat → Nat → Int} {v : Int} (hQ : ∀ α', Fα [45] α α' → (∀ i, i < 7 → α' 45 i = v) → Q none (S0, σ, α')) : Ca X (d + 1) 224 [vR 45, vI v] (S0, σ, α) Q := by
  refine vc224r45_0 ?_
  have key : ∀ (m i : Nat) (γ : Nat → Nat → Int), i + m = 7 → Fα [45] α γ → (∀ j, j < i → γ 45 j = v) → Go X d 224 5 [some (vR 45), some (vI v), some (vI (i : Int)), some (vI 7)] [] (S0, σ, γ) (0, 0) Q := by
    intro m
    induction m with
    | zero =>
      intro i γ hi hf h
      have e : i = 7 := hi
      subst e
      exact vc224r45_5 ⟨fun _ => hQ γ hf h, fun q => absurd q (by decide)⟩
    | succ m ih =>
      intro i γ hi hf h
      have il : i < 7 := by omega
      have il' : (i : Int) < 7 := by omega
      have im : i + 1 + m = 7 := by omega
      have ek := wrS (k := i) (by omega)
      refine vc224r45_5 ⟨fun q => absurd il' q, fun _ => ⟨mInA_n il, ?_⟩⟩
      rw [Int.toNat_natCast, ek]
      refine ih (i + 1) _ im (hf.tr (Fα.up (by decide))) (fun j hj => ?_)
      rw [up_a]
      by_cases hji : j = i
      · rw [if_pos hji]
      · rw [if_neg hji]; exact h j (Nat.lt_of_le_of_ne (Nat.le_of_lt_succ hj) hji)
  exact key 7 0 α (Nat.zero_add _) Fα.rf (fun j hj => absurd hj (by omega))
theorem c_fill46 {X : mXX} {d : Nat} {Q : Option mV → mS → Prop} {σ α : Nat → Nat → Int} {v : Int} (hQ : ∀ α', Fα [46] α α' → (∀ i, i < 7 → α' 46 i = v) → Q none (S0, σ, α')) : Ca X (d + 1) 224 [vR 46, vI v] (S0, σ, α) Q := by
  refine vc224r46_0 ?_
  have key : ∀ (m i : Nat) (γ : Nat → Nat → Int), i + m = 7 → Fα [46] α γ → (∀ j, j < i → γ 46 j = v) → Go X d 224 5 [some (vR 46), some (vI v), some (vI (i : Int)), some (vI 7)] [] (S0, σ, γ) (0, 0) Q := by
    intro m
    induction m with
    | zero =>
      intro i γ hi hf h
      have e : i = 7 := hi
      subst e
      exact vc224r46_5 ⟨fun _ => hQ γ hf h, fun q => absurd q (by decide)⟩
    | succ m ih =>
      intro i γ hi hf h
      have il : i < 7 := by omega
      have il' : (i : Int) < 7 := by omega
      have im : i + 1 + m = 7 := by omega
      have ek := wrS (k := i) (by omega)
      refine vc224r46_5 ⟨fun q => absurd il' q, fun _ => ⟨mInA_n il, ?_⟩⟩
      rw [Int.toNat_natCast, ek]
      refine ih (i + 1) _ im (hf.tr (Fα.up (by decide))) (fun j hj => ?_)
      rw [up_a]
      by_cases hji : j = i
      · rw [if_pos hji]
      · rw [if_neg hji]; exact h j (Nat.lt_of_le_of_ne (Nat.le_of_lt_succ hj) hji)
  exact key 7 0 α (Nat.zero_add _) Fα.rf (fun j hj => absurd hj (by omega))
theorem c_fill47 {X : mXX} {d : Nat} {Q : Option mV → mS → Prop} {σ α : Nat → Nat → Int} {v : Int} (hQ : ∀ α', Fα [47] α α' → (∀ i, i < 6 → α' 47 i = v) → Q none (S0, σ, α')) : Ca X (d + 1) 224 [vR 47, vI v] (S0, σ, α) Q := by
  refine vc224r47_0 ?_
  have key : ∀ (m i : Nat) (γ : Nat → Nat → Int), i + m = 6 → Fα [47] α γ → (∀ j, j < i → γ 47 j = v) → Go X d 224 5 [some (vR 47), some (vI v), some (vI (i : Int)), some (vI 6)] [] (S0, σ, γ) (0, 0) Q := by
    intro m
    induction m with
    | zero =>
      intro i γ hi hf h
      have e : i = 6 := hi
      subst e
      exact vc224r47_5 ⟨fun _ => hQ γ hf h, fun q => absurd q (by decide)⟩
    | succ m ih =>
      intro i γ hi hf h
      have il : i < 6 := by omega
      have il' : (i : Int) < 6 := by omega
      have im : i + 1 + m = 6 := by omega
      have ek := wrS (k := i) (by omega)
      refine vc224r47_5 ⟨fun q => absurd il' q, fun _ => ⟨mInA_n il, ?_⟩⟩
      rw [Int.toNat_natCast, ek]
      refine ih (i + 1) _ im (hf.tr (Fα.up (by decide))) (fun j hj => ?_)
      rw [up_a]
      by_cases hji : j = i
      · rw [if_pos hji]
      · rw [if_neg hji]; exact h j (Nat.lt_of_le_of_ne (Nat.le_of_lt_succ hj) hji)
  exact key 6 0 α (Nat.zero_add _) Fα.rf (fun j hj => absurd hj (by omega))
theorem c_fill93 {X : mXX} {d : Nat} {Q : Option mV → mS → Prop} {σ α : Nat → Nat → Int} {v : Int} (hQ : ∀ α', Fα [93] α α' → (∀ i, i < 64 → α' 93 i = v) → Q none (S0, σ, α')) : Ca X (d + 1) 224 [vR 93, vI v] (S0, σ, α) Q := by
  refine vc224r93_0 ?_
  have key : ∀ (m i : Nat) (γ : Nat → Nat → Int), i + m = 64 → Fα [93] α γ → (∀ j, j < i → γ 93 j = v) → Go X d 224 5 [some (vR 93), some (vI v), some (vI (i : Int)), some (vI 64)] [] (S0, σ, γ) (0, 0) Q := by
    intro m
    induction m with
    | zero =>
      intro i γ hi hf h
      have e : i = 64 := hi
      subst e
      exact vc224r93_5 ⟨fun _ => hQ γ hf h, fun q => absurd q (by decide)⟩
    | succ m ih =>
      intro i γ hi hf h
      have il : i < 64 := by omega
      have il' : (i : Int) < 64 := by omega
      have im : i + 1 + m = 64 := by omega
      have ek := wrS (k := i) (by omega)
      refine vc224r93_5 ⟨fun q => absurd il' q, fun _ => ⟨mInA_n il, ?_⟩⟩
      rw [Int.toNat_natCast, ek]
      refine ih (i + 1) _ im (hf.tr (Fα.up (by decide))) (fun j hj => ?_)
      rw [up_a]
      by_cases hji : j = i
      · rw [if_pos hji]
      · rw [if_neg hji]; exact h j (Nat.lt_of_le_of_ne (Nat.le_of_lt_succ hj) hji)
  exact key 64 0 α (Nat.zero_add _) Fα.rf (fun j hj => absurd hj (by omega))
theorem c_fill5 {X : mXX} {d : Nat} {Q : Option mV → mS → Prop} {σ α : Nat → Nat → Int} {v : Int} (hQ : ∀ α', Fα [5] α α' → (∀ i, i < 64 → α' 5 i = v) → Q none (S0, σ, α')) : Ca X (d + 1) 224 [vR 5, vI v] (S0, σ, α) Q := by
  refine vc224r5_0 ?_
  have key : ∀ (m i : Nat) (γ : Nat → Nat → Int), i + m = 64 → Fα [5] α γ → (∀ j, j < i → γ 5 j = v) → Go X d 224 5 [some (vR 5), some (vI v), some (vI (i : Int)), some (vI 64)] [] (S0, σ, γ) (0, 0) Q := by
    intro m
    induction m with
    | zero =>
      intro i γ hi hf h
      have e : i = 64 := hi
      subst e
      exact vc224r5_5 ⟨fun _ => hQ γ hf h, fun q => absurd q (by decide)⟩
    | succ m ih =>
      intro i γ hi hf h
      have il : i < 64 := by omega
      have il' : (i : Int) < 64 := by omega
      have im : i + 1 + m = 64 := by omega
      have ek := wrS (k := i) (by omega)
      refine vc224r5_5 ⟨fun q => absurd il' q, fun _ => ⟨mInA_n il, ?_⟩⟩
      rw [Int.toNat_natCast, ek]
      refine ih (i + 1) _ im (hf.tr (Fα.up (by decide))) (fun j hj => ?_)
      rw [up_a]
      by_cases hji : j = i
      · rw [if_pos hji]
      · rw [if_neg hji]; exact h j (Nat.lt_of_le_of_ne (Nat.le_of_lt_succ hj) hji)
  exact key 64 0 α (Nat.zero_add _) Fα.rf (fun j hj => absurd hj (by omega))
theorem c_fill6 {X : mXX} {d : Nat} {Q : Option mV → mS → Prop} {σ α : Nat → Nat → Int} {v : Int} (hQ : ∀ α', Fα [6] α α' → (∀ i, i < 64 → α' 6 i = v) → Q none (S0, σ, α')) : Ca X (d + 1) 224 [vR 6, vI v] (S0, σ, α) Q := by
  refine vc224r6_0 ?_
  have key : ∀ (m i : Nat) (γ : Nat → Nat → Int), i + m = 64 → Fα [6] α γ → (∀ j, j < i → γ 6 j = v) → Go X d 224 5 [some (vR 6), some (vI v), some (vI (i : Int)), some (vI 64)] [] (S0, σ, γ) (0, 0) Q := by
    intro m
    induction m with
    | zero =>
      intro i γ hi hf h
      have e : i = 64 := hi
      subst e
      exact vc224r6_5 ⟨fun _ => hQ γ hf h, fun q => absurd q (by decide)⟩
    | succ m ih =>
      intro i γ hi hf h
      have il : i < 64 := by omega
      have il' : (i : Int) < 64 := by omega
      have im : i + 1 + m = 64 := by omega
      have ek := wrS (k := i) (by omega)
      refine vc224r6_5 ⟨fun q => absurd il' q, fun _ => ⟨mInA_n il, ?_⟩⟩
      rw [Int.toNat_natCast, ek]
      refine ih (i + 1) _ im (hf.tr (Fα.up (by decide))) (fun j hj => ?_)
      rw [up_a]
      by_cases hji : j = i
      · rw [if_pos hji]
      · rw [if_neg hji]; exact h j (Nat.lt_of_le_of_ne (Nat.le_of_lt_succ hj) hji)
  exact key 64 0 α (Nat.zero_add _) Fα.rf (fun j hj => absurd hj (by omega))
theorem c_fill13 {X : mXX} {d : Nat} {Q : Option mV → mS → Prop} {σ α : Nat → Nat → Int} {v : Int} (hQ : ∀ α', Fα [13] α α' → (∀ i, i < 6 → α' 13 i = v) → Q none (S0, σ, α')) : Ca X (d + 1) 224 [vR 13, vI v] (S0, σ, α) Q := by
  refine vc224r13_0 ?_
  have key : ∀ (m i : Nat) (γ : Nat → Nat → Int), i + m = 6 → Fα [13] α γ → (∀ j, j < i → γ 13 j = v) → Go X d 224 5 [some (vR 13), some (vI v), some (vI (i : Int)), some (vI 6)] [] (S0, σ, γ) (0, 0) Q := by
    intro m
    induction m with
    | zero =>
      intro i γ hi hf h
      have e : i = 6 := hi
      subst e
      exact vc224r13_5 ⟨fun _ => hQ γ hf h, fun q => absurd q (by decide)⟩
    | succ m ih =>
      intro i γ hi hf h
      have il : i < 6 := by omega
      have il' : (i : Int) < 6 := by omega
      have im : i + 1 + m = 6 := by omega
      have ek := wrS (k := i) (by omega)
      refine vc224r13_5 ⟨fun q => absurd il' q, fun _ => ⟨mInA_n il, ?_⟩⟩
      rw [Int.toNat_natCast, ek]
      refine ih (i + 1) _ im (hf.tr (Fα.up (by decide))) (fun j hj => ?_)
      rw [up_a]
      by_cases hji : j = i
      · rw [if_pos hji]
      · rw [if_neg hji]; exact h j (Nat.lt_of_le_of_ne (Nat.le_of_lt_succ hj) hji)
  exact key 6 0 α (Nat.zero_add _) Fα.rf (fun j hj => absurd hj (by omega))
theorem c_fill14 {X : mXX} {d : Nat} {Q : Option mV → mS → Prop} {σ α : Nat → Nat → Int} {v : Int} (hQ : ∀ α', Fα [14] α α' → (∀ i, i < 6 → α' 14 i = v) → Q none (S0, σ, α')) : Ca X (d + 1) 224 [vR 14, vI v] (S0, σ, α) Q := by
  refine vc224r14_0 ?_
  have key : ∀ (m i : Nat) (γ : Nat → Nat → Int), i + m = 6 → Fα [14] α γ → (∀ j, j < i → γ 14 j = v) → Go X d 224 5 [some (vR 14), some (vI v), some (vI (i : Int)), some (vI 6)] [] (S0, σ, γ) (0, 0) Q := by
    intro m
    induction m with
    | zero =>
      intro i γ hi hf h
      have e : i = 6 := hi
      subst e
      exact vc224r14_5 ⟨fun _ => hQ γ hf h, fun q => absurd q (by decide)⟩
    | succ m ih =>
      intro i γ hi hf h
      have il : i < 6 := by omega
      have il' : (i : Int) < 6 := by omega
      have im : i + 1 + m = 6 := by omega
      have ek := wrS (k := i) (by omega)
      refine vc224r14_5 ⟨fun q => absurd il' q, fun _ => ⟨mInA_n il, ?_⟩⟩
      rw [Int.toNat_natCast, ek]
      refine ih (i + 1) _ im (hf.tr (Fα.up (by decide))) (fun j hj => ?_)
      rw [up_a]
      by_cases hji : j = i
      · rw [if_pos hji]
      · rw [if_neg hji]; exact h j (Nat.lt_of_le_of_ne (Nat.le_of_lt_succ hj) hji)
  exact key 6 0 α (Nat.zero_add _) Fα.rf (fun j hj => absurd hj (by omega))
