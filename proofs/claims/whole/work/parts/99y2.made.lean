/-! What the constructors make (printed by wip/tool/genctor2.py) -/
theorem nF_o {f : Nat → Nat → Int} {n i : Nat} (h : i ≠ n) : nF f n i = f i := by funext y; exact if_neg h
theorem nF_s {f : Nat → Nat → Int} {n k : Nat} : nF f n n k = 0 := if_pos rfl
def Kp (n : Nat) (σ α σ' α' : Nat → Nat → Int) : Prop := ∀ i, i < n → σ' i = σ i ∧ α' i = α i
theorem Kp.rf {n : Nat} {σ α : Nat → Nat → Int} : Kp n σ α σ α := fun _ _ => ⟨rfl, rfl⟩
theorem Kp.tr {n m : Nat} {σ α σ1 α1 σ2 α2 : Nat → Nat → Int} (h : Kp n σ α σ1 α1) (g : Kp m σ1 α1 σ2 α2) (hm : n ≤ m) : Kp n σ α σ2 α2 := fun i hi => ⟨(g i (Nat.lt_of_lt_of_le hi hm)).1.trans (h i hi).1, (g i (Nat.lt_of_lt_of_le hi hm)).2.trans (h i hi).2⟩
theorem Kp.nS {n m : Nat} {σ α σ1 α1 : Nat → Nat → Int} (h : Kp n σ α σ1 α1) (hm : n ≤ m) : Kp n σ α (nF σ1 m) α1 := fun i hi => ⟨(nF_o (Nat.ne_of_lt (Nat.lt_of_lt_of_le hi hm))).trans (h i hi).1, (h i hi).2⟩
theorem Kp.nA {n m : Nat} {σ α σ1 α1 : Nat → Nat → Int} (h : Kp n σ α σ1 α1) (hm : n ≤ m) : Kp n σ α σ1 (nF α1 m) := fun i hi => ⟨(h i hi).1, (nF_o (Nat.ne_of_lt (Nat.lt_of_lt_of_le hi hm))).trans (h i hi).2⟩
theorem Kp.uA {n a k : Nat} {v : Int} {σ α σ1 α1 : Nat → Nat → Int} (h : Kp n σ α σ1 α1) (hm : n ≤ a) : Kp n σ α σ1 (mUp α1 a k v) := fun i hi => ⟨(h i hi).1, (up_o (Nat.ne_of_lt (Nat.lt_of_lt_of_le hi hm))).trans (h i hi).2⟩
theorem Kp.fr {n : Nat} {Z : List (Nat × Nat)} {Y : List Nat} {σ α σ1 α1 σ2 α2 : Nat → Nat → Int} (h : Kp n σ α σ1 α1) (F : Fσ Z σ1 σ2) (E : Fα Y α1 α2) (hz : ∀ q ∈ Z, n ≤ q.1) (hy : ∀ q ∈ Y, n ≤ q) : Kp n σ α σ2 α2 := fun i hi => ⟨(funext (fun k => F i k (fun q => absurd (hz _ q) (Nat.not_le.mpr hi)))).trans (h i hi).1, (E i (fun q => absurd (hy _ q) (Nat.not_le.mpr hi))).trans (h i hi).2⟩
def Zs (L : List Nat) (f : Nat → Nat → Int) : Prop := ∀ i ∈ L, ∀ k, f i k = 0
theorem Zs.nil {f : Nat → Nat → Int} : Zs [] f := fun _ h => absurd h List.not_mem_nil
theorem Zs.n {L : List Nat} {f : Nat → Nat → Int} {m : Nat} (h : Zs L f) : Zs L (nF f m) := fun i hi k => by
  by_cases e : i = m
  · rw [e]; exact nF_s
  · rw [nF_o e]; exact h i hi k
theorem Zs.s {L : List Nat} {f : Nat → Nat → Int} {m : Nat} (h : Zs L f) : Zs (m :: L) (nF f m) := fun i hi k => by
  rcases List.mem_cons.mp hi with e | e
  · rw [e]; exact nF_s
  · exact h.n i e k
theorem Zs.u {L : List Nat} {f : Nat → Nat → Int} {a k : Nat} {v : Int} (h : Zs L f) (ha : a ∉ L) : Zs L (mUp f a k v) := fun i hi j => by
  rw [up_o (fun e => ha (by rw [← e]; exact hi))]; exact h i hi j
theorem Zs.kp {n : Nat} {L : List Nat} {σ α σ' α' : Nat → Nat → Int} (h : Zs L α) (k : Kp n σ α σ' α') (hl : ∀ i ∈ L, i < n) : Zs L α' := fun i hi j => by rw [(k i (hl i hi)).2]; exact h i hi j
theorem Zs.fr {L Z : List Nat} {f g : Nat → Nat → Int} (h : Zs L f) (E : Fα Z f g) (hl : ∀ i ∈ L, i ∉ Z) : Zs L g := fun i hi j => by rw [E i (hl i hi)]; exact h i hi j
def Tb (c : Nat) (l : List Int) (m : Nat) (f : Nat → Nat → Int) : Prop := ∀ j, j < m → f c j = l.getD j 0
theorem Tb.z {c : Nat} {l : List Int} {f : Nat → Nat → Int} : Tb c l 0 f := fun j h => absurd h (Nat.not_lt_zero j)
theorem Tb.s {c m : Nat} {l : List Int} {f : Nat → Nat → Int} {v : Int} (h : Tb c l m f) (hv : v = l.getD m 0) : Tb c l (m + 1) (mUp f c m v) := fun j hj => by
  rw [up_a]
  by_cases e : j = m
  · rw [if_pos e, e]; exact hv
  · rw [if_neg e]; exact h j (Nat.lt_of_le_of_ne (Nat.le_of_lt_succ hj) e)
theorem Tb.n {c m q : Nat} {l : List Int} {f : Nat → Nat → Int} (h : Tb c l m f) (hq : c ≠ q) : Tb c l m (nF f q) := fun j hj => by rw [nF_o hq]; exact h j hj
theorem Tb.u {c m a k : Nat} {l : List Int} {f : Nat → Nat → Int} {v : Int} (h : Tb c l m f) (hq : c ≠ a) : Tb c l m (mUp f a k v) := fun j hj => by rw [up_o hq]; exact h j hj
theorem Tb.fr {c m : Nat} {Z : List Nat} {l : List Int} {f g : Nat → Nat → Int} (h : Tb c l m f) (E : Fα Z f g) (hq : c ∉ Z) : Tb c l m g := fun j hj => by rw [E c hq]; exact h j hj
theorem vc224z5_0 {X : mXX} {d : Nat} {b : mB} {Q : Option mV → mS → Prop} {σ α : Nat → Nat → Int} {l1 : Int} (h : Go X d 224 5 [some (vR 5), some (vI l1), some (vI 0), some (vI 64)] [] (Zc47, σ, α) b Q) : Go X d 224 0 [some (vR 5), some (vI l1), none, none] [] (Zc47, σ, α) b Q := goD_blk X.2.2 (fun p => Nat.beq p 0 || Nat.beq p 5) 17 h
theorem vc224z5_5 {X : mXX} {d : Nat} {b : mB} {Q : Option mV → mS → Prop} {σ α : Nat → Nat → Int} {l1 : Int} {l2 : Int} {l3 : Int} (h : ((¬ (l2 : Int) < l3 → Q none (Zc47, σ, α)) ∧ ((l2 : Int) < l3 → (mInA l2 64 ∧ Go X d 224 5 [some (vR 5), some (vI l1), some (vI (wr (l2 + 1))), some (vI l3)] [] (Zc47, σ, (mUp α 5 (Int.toNat l2) l1)) b Q)))) : Go X d 224 5 [some (vR 5), some (vI l1), some (vI l2), some (vI l3)] [] (Zc47, σ, α) b Q := goD_blk X.2.2 (fun p => Nat.beq p 0 || Nat.beq p 5) 17 h
theorem k_fillz5 {X : mXX} {d : Nat} {Q : Option mV → mS → Prop} {σ α : Nat → Nat → Int} {v : Int} (hQ : ∀ α', Fα [5] α α' → (∀ i, i < 64 → α' 5 i = v) → Q none (Zc47, σ, α')) : Ca X (d + 1) 224 [vR 5, vI v] (Zc47, σ, α) Q := by
  refine vc224z5_0 ?_
  have key : ∀ (m i : Nat) (γ : Nat → Nat → Int), i + m = 64 → Fα [5] α γ → (∀ j, j < i → γ 5 j = v) → Go X d 224 5 [some (vR 5), some (vI v), some (vI (i : Int)), some (vI 64)] [] (Zc47, σ, γ) (0, 0) Q := by
    intro m
    induction m with
    | zero =>
      intro i γ hi hf h
      have e : i = 64 := hi
      subst e
      exact vc224z5_5 ⟨fun _ => hQ γ hf h, fun q => absurd q (by decide)⟩
    | succ m ih =>
      intro i γ hi hf h
      have il : i < 64 := by omega
      have il' : (i : Int) < 64 := by omega
      have im : i + 1 + m = 64 := by omega
      have ek := wrS (k := i) (by omega)
      refine vc224z5_5 ⟨fun q => absurd il' q, fun _ => ⟨mInA_n il, ?_⟩⟩
      rw [Int.toNat_natCast, ek]
      refine ih (i + 1) _ im (hf.tr (Fα.up (by decide))) (fun j hj => ?_)
      rw [up_a]
      by_cases hji : j = i
      · rw [if_pos hji]
      · rw [if_neg hji]; exact h j (Nat.lt_of_le_of_ne (Nat.le_of_lt_succ hj) hji)
  exact key 64 0 α (Nat.zero_add _) Fα.rf (fun j hj => absurd hj (by omega))
theorem vc224z6_0 {X : mXX} {d : Nat} {b : mB} {Q : Option mV → mS → Prop} {σ α : Nat → Nat → Int} {l1 : Int} (h : Go X d 224 5 [some (vR 6), some (vI l1), some (vI 0), some (vI 64)] [] (Zc47, σ, α) b Q) : Go X d 224 0 [some (vR 6), some (vI l1), none, none] [] (Zc47, σ, α) b Q := goD_blk X.2.2 (fun p => Nat.beq p 0 || Nat.beq p 5) 17 h
theorem vc224z6_5 {X : mXX} {d : Nat} {b : mB} {Q : Option mV → mS → Prop} {σ α : Nat → Nat → Int} {l1 : Int} {l2 : Int} {l3 : Int} (h : ((¬ (l2 : Int) < l3 → Q none (Zc47, σ, α)) ∧ ((l2 : Int) < l3 → (mInA l2 64 ∧ Go X d 224 5 [some (vR 6), some (vI l1), some (vI (wr (l2 + 1))), some (vI l3)] [] (Zc47, σ, (mUp α 6 (Int.toNat l2) l1)) b Q)))) : Go X d 224 5 [some (vR 6), some (vI l1), some (vI l2), some (vI l3)] [] (Zc47, σ, α) b Q := goD_blk X.2.2 (fun p => Nat.beq p 0 || Nat.beq p 5) 17 h
theorem k_fillz6 {X : mXX} {d : Nat} {Q : Option mV → mS → Prop} {σ α : Nat → Nat → Int} {v : Int} (hQ : ∀ α', Fα [6] α α' → (∀ i, i < 64 → α' 6 i = v) → Q none (Zc47, σ, α')) : Ca X (d + 1) 224 [vR 6, vI v] (Zc47, σ, α) Q := by
  refine vc224z6_0 ?_
  have key : ∀ (m i : Nat) (γ : Nat → Nat → Int), i + m = 64 → Fα [6] α γ → (∀ j, j < i → γ 6 j = v) → Go X d 224 5 [some (vR 6), some (vI v), some (vI (i : Int)), some (vI 64)] [] (Zc47, σ, γ) (0, 0) Q := by
    intro m
    induction m with
    | zero =>
      intro i γ hi hf h
      have e : i = 64 := hi
      subst e
      exact vc224z6_5 ⟨fun _ => hQ γ hf h, fun q => absurd q (by decide)⟩
    | succ m ih =>
      intro i γ hi hf h
      have il : i < 64 := by omega
      have il' : (i : Int) < 64 := by omega
      have im : i + 1 + m = 64 := by omega
      have ek := wrS (k := i) (by omega)
      refine vc224z6_5 ⟨fun q => absurd il' q, fun _ => ⟨mInA_n il, ?_⟩⟩
      rw [Int.toNat_natCast, ek]
      refine ih (i + 1) _ im (hf.tr (Fα.up (by decide))) (fun j hj => ?_)
      rw [up_a]
      by_cases hji : j = i
      · rw [if_pos hji]
      · rw [if_neg hji]; exact h j (Nat.lt_of_le_of_ne (Nat.le_of_lt_succ hj) hji)
  exact key 64 0 α (Nat.zero_add _) Fα.rf (fun j hj => absurd hj (by omega))
theorem vc224z13_0 {X : mXX} {d : Nat} {b : mB} {Q : Option mV → mS → Prop} {σ α : Nat → Nat → Int} {l1 : Int} (h : Go X d 224 5 [some (vR 13), some (vI l1), some (vI 0), some (vI 6)] [] (Zc47, σ, α) b Q) : Go X d 224 0 [some (vR 13), some (vI l1), none, none] [] (Zc47, σ, α) b Q := goD_blk X.2.2 (fun p => Nat.beq p 0 || Nat.beq p 5) 17 h
theorem vc224z13_5 {X : mXX} {d : Nat} {b : mB} {Q : Option mV → mS → Prop} {σ α : Nat → Nat → Int} {l1 : Int} {l2 : Int} {l3 : Int} (h : ((¬ (l2 : Int) < l3 → Q none (Zc47, σ, α)) ∧ ((l2 : Int) < l3 → (mInA l2 6 ∧ Go X d 224 5 [some (vR 13), some (vI l1), some (vI (wr (l2 + 1))), some (vI l3)] [] (Zc47, σ, (mUp α 13 (Int.toNat l2) l1)) b Q)))) : Go X d 224 5 [some (vR 13), some (vI l1), some (vI l2), some (vI l3)] [] (Zc47, σ, α) b Q := goD_blk X.2.2 (fun p => Nat.beq p 0 || Nat.beq p 5) 17 h
theorem k_fillz13 {X : mXX} {d : Nat} {Q : Option mV → mS → Prop} {σ α : Nat → Nat → Int} {v : Int} (hQ : ∀ α', Fα [13] α α' → (∀ i, i < 6 → α' 13 i = v) → Q none (Zc47, σ, α')) : Ca X (d + 1) 224 [vR 13, vI v] (Zc47, σ, α) Q := by
  refine vc224z13_0 ?_
  have key : ∀ (m i : Nat) (γ : Nat → Nat → Int), i + m = 6 → Fα [13] α γ → (∀ j, j < i → γ 13 j = v) → Go X d 224 5 [some (vR 13), some (vI v), some (vI (i : Int)), some (vI 6)] [] (Zc47, σ, γ) (0, 0) Q := by
    intro m
    induction m with
    | zero =>
      intro i γ hi hf h
      have e : i = 6 := hi
      subst e
      exact vc224z13_5 ⟨fun _ => hQ γ hf h, fun q => absurd q (by decide)⟩
    | succ m ih =>
      intro i γ hi hf h
      have il : i < 6 := by omega
      have il' : (i : Int) < 6 := by omega
      have im : i + 1 + m = 6 := by omega
      have ek := wrS (k := i) (by omega)
      refine vc224z13_5 ⟨fun q => absurd il' q, fun _ => ⟨mInA_n il, ?_⟩⟩
      rw [Int.toNat_natCast, ek]
      refine ih (i + 1) _ im (hf.tr (Fα.up (by decide))) (fun j hj => ?_)
      rw [up_a]
      by_cases hji : j = i
      · rw [if_pos hji]
      · rw [if_neg hji]; exact h j (Nat.lt_of_le_of_ne (Nat.le_of_lt_succ hj) hji)
  exact key 6 0 α (Nat.zero_add _) Fα.rf (fun j hj => absurd hj (by omega))
theorem vc224z14_0 {X : mXX} {d : Nat} {b : mB} {Q : Option mV → mS → Prop} {σ α : Nat → Nat → Int} {l1 : Int} (h : Go X d 224 5 [some (vR 14), some (vI l1), some (vI 0), some (vI 6)] [] (Zc47, σ, α) b Q) : Go X d 224 0 [some (vR 14), some (vI l1), none, none] [] (Zc47, σ, α) b Q := goD_blk X.2.2 (fun p => Nat.beq p 0 || Nat.beq p 5) 17 h
theorem vc224z14_5 {X : mXX} {d : Nat} {b : mB} {Q : Option mV → mS → Prop} {σ α : Nat → Nat → Int} {l1 : Int} {l2 : Int} {l3 : Int} (h : ((¬ (l2 : Int) < l3 → Q none (Zc47, σ, α)) ∧ ((l2 : Int) < l3 → (mInA l2 6 ∧ Go X d 224 5 [some (vR 14), some (vI l1), some (vI (wr (l2 + 1))), some (vI l3)] [] (Zc47, σ, (mUp α 14 (Int.toNat l2) l1)) b Q)))) : Go X d 224 5 [some (vR 14), some (vI l1), some (vI l2), some (vI l3)] [] (Zc47, σ, α) b Q := goD_blk X.2.2 (fun p => Nat.beq p 0 || Nat.beq p 5) 17 h
theorem k_fillz14 {X : mXX} {d : Nat} {Q : Option mV → mS → Prop} {σ α : Nat → Nat → Int} {v : Int} (hQ : ∀ α', Fα [14] α α' → (∀ i, i < 6 → α' 14 i = v) → Q none (Zc47, σ, α')) : Ca X (d + 1) 224 [vR 14, vI v] (Zc47, σ, α) Q := by
  refine vc224z14_0 ?_
  have key : ∀ (m i : Nat) (γ : Nat → Nat → Int), i + m = 6 → Fα [14] α γ → (∀ j, j < i → γ 14 j = v) → Go X d 224 5 [some (vR 14), some (vI v), some (vI (i : Int)), some (vI 6)] [] (Zc47, σ, γ) (0, 0) Q := by
    intro m
    induction m with
    | zero =>
      intro i γ hi hf h
      have e : i = 6 := hi
      subst e
      exact vc224z14_5 ⟨fun _ => hQ γ hf h, fun q => absurd q (by decide)⟩
    | succ m ih =>
      intro i γ hi hf h
      have il : i < 6 := by omega
      have il' : (i : Int) < 6 := by omega
      have im : i + 1 + m = 6 := by omega
      have ek := wrS (k := i) (by omega)
      refine vc224z14_5 ⟨fun q => absurd il' q, fun _ => ⟨mInA_n il, ?_⟩⟩
      rw [Int.toNat_natCast, ek]
      refine ih (i + 1) _ im (hf.tr (Fα.up (by decide))) (fun j hj => ?_)
      rw [up_a]
      by_cases hji : j = i
      · rw [if_pos hji]
      · rw [if_neg hji]; exact h j (Nat.lt_of_le_of_ne (Nat.le_of_lt_succ hj) hji)
  exact key 6 0 α (Nat.zero_add _) Fα.rf (fun j hj => absurd hj (by omega))
theorem vc40z15_0 {X : mXX} {d : Nat} {b : mB} {Q : Option mV → mS → Prop} {σ α : Nat → Nat → Int} {l1 : Int} (h : (Ca X d 41 [vR 15, vI l1] (Zc47, (mUp σ 15 2 0), α) (fun r s' => Go X d 40 10 [some (vR 15), some (vI l1)] [] s' b Q))) : Go X d 40 0 [some (vR 15), some (vI l1)] [] (Zc47, σ, α) b Q := goD_blk X.2.2 (fun p => Nat.beq p 0 || Nat.beq p 10) 9 h
theorem vc40z15_10 {X : mXX} {d : Nat} {b : mB} {Q : Option mV → mS → Prop} {σ α : Nat → Nat → Int} {l1 : Int} (h : Q none (Zc47, σ, α)) : Go X d 40 10 [some (vR 15), some (vI l1)] [] (Zc47, σ, α) b Q := goD_blk X.2.2 (fun p => Nat.beq p 0 || Nat.beq p 10) 9 h
theorem vc41z15_0 {X : mXX} {d : Nat} {b : mB} {Q : Option mV → mS → Prop} {σ α : Nat → Nat → Int} {l1 : Int} (h : ((¬ ((σ 15 2) : Int) < 1000 → Q none (Zc47, σ, α)) ∧ (((σ 15 2) : Int) < 1000 → (mInA (σ 15 2) 1000 ∧ Q none (Zc47, (mUp σ 15 2 (wr ((σ 15 2) + 1))), (mUp α 16 (Int.toNat (σ 15 2)) l1)))))) : Go X d 41 0 [some (vR 15), some (vI l1)] [] (Zc47, σ, α) b Q := goD_blk X.2.2 (fun p => Nat.beq p 0) 21 h
theorem k_onlyz15 {X : mXX} {d : Nat} {Q : Option mV → mS → Prop} {σ α : Nat → Nat → Int} {v : Int} {q : Int × Int} (hv : v = ecl q) (h : ∀ σ' α', Fσ [(15, 2)] σ σ' → Fα [16] α α' → LC 15 16 σ' α' [q] → Q none (Zc47, σ', α')) : Ca X (d + 2) 40 [vR 15, vI v] (Zc47, σ, α) Q := by
  refine vc40z15_0 (vc41z15_0 ?_)
  rw [show (mUp σ 15 2 0) 15 2 = 0 from up_s]
  refine ⟨fun z => absurd (by decide) z, fun _ => ⟨mInA_n (i := 0) (by decide), vc40z15_10 (h _ _ ((Fσ.up (by decide)).tr (Fσ.up (by decide))) (Fα.up (by decide)) ⟨up_s.trans (show wr (0 + 1) = ((1 : Nat) : Int) by decide), ?_, trivial⟩)⟩⟩
  show mUp α 16 0 v 16 0 = ecl q
  rw [up_s]
  exact hv
theorem vc40z18_0 {X : mXX} {d : Nat} {b : mB} {Q : Option mV → mS → Prop} {σ α : Nat → Nat → Int} {l1 : Int} (h : (Ca X d 41 [vR 18, vI l1] (Zc47, (mUp σ 18 2 0), α) (fun r s' => Go X d 40 10 [some (vR 18), some (vI l1)] [] s' b Q))) : Go X d 40 0 [some (vR 18), some (vI l1)] [] (Zc47, σ, α) b Q := goD_blk X.2.2 (fun p => Nat.beq p 0 || Nat.beq p 10) 9 h
theorem vc40z18_10 {X : mXX} {d : Nat} {b : mB} {Q : Option mV → mS → Prop} {σ α : Nat → Nat → Int} {l1 : Int} (h : Q none (Zc47, σ, α)) : Go X d 40 10 [some (vR 18), some (vI l1)] [] (Zc47, σ, α) b Q := goD_blk X.2.2 (fun p => Nat.beq p 0 || Nat.beq p 10) 9 h
theorem vc41z18_0 {X : mXX} {d : Nat} {b : mB} {Q : Option mV → mS → Prop} {σ α : Nat → Nat → Int} {l1 : Int} (h : ((¬ ((σ 18 2) : Int) < 1000 → Q none (Zc47, σ, α)) ∧ (((σ 18 2) : Int) < 1000 → (mInA (σ 18 2) 1000 ∧ Q none (Zc47, (mUp σ 18 2 (wr ((σ 18 2) + 1))), (mUp α 19 (Int.toNat (σ 18 2)) l1)))))) : Go X d 41 0 [some (vR 18), some (vI l1)] [] (Zc47, σ, α) b Q := goD_blk X.2.2 (fun p => Nat.beq p 0) 21 h
theorem k_onlyz18 {X : mXX} {d : Nat} {Q : Option mV → mS → Prop} {σ α : Nat → Nat → Int} {v : Int} {q : Int × Int} (hv : v = ecl q) (h : ∀ σ' α', Fσ [(18, 2)] σ σ' → Fα [19] α α' → LC 18 19 σ' α' [q] → Q none (Zc47, σ', α')) : Ca X (d + 2) 40 [vR 18, vI v] (Zc47, σ, α) Q := by
  refine vc40z18_0 (vc41z18_0 ?_)
  rw [show (mUp σ 18 2 0) 18 2 = 0 from up_s]
  refine ⟨fun z => absurd (by decide) z, fun _ => ⟨mInA_n (i := 0) (by decide), vc40z18_10 (h _ _ ((Fσ.up (by decide)).tr (Fσ.up (by decide))) (Fα.up (by decide)) ⟨up_s.trans (show wr (0 + 1) = ((1 : Nat) : Int) by decide), ?_, trivial⟩)⟩⟩
  show mUp α 19 0 v 19 0 = ecl q
  rw [up_s]
  exact hv
theorem vc1z4_0 {X : mXX} {d : Nat} {b : mB} {Q : Option mV → mS → Prop} {σ α : Nat → Nat → Int}  (h : (Ca X d 224 [vR 5, vI 0] (Zc47, (mUp (mUp (mUp (mUp (mUp σ 4 0 2) 4 1 2) 4 2 0) 4 3 10) 4 4 20), α) (fun r s' => Go X d 1 35 [some (vR 4)] [] s' b Q))) : Go X d 1 0 [some (vR 4)] [] (Zc47, σ, α) b Q := goD_blk X.2.2 (fun p => Nat.beq p 0 || Nat.beq p 35 || Nat.beq p 43 || Nat.beq p 51 || Nat.beq p 60 || Nat.beq p 69 || Nat.beq p 77) 42 h
theorem vc1z4_35 {X : mXX} {d : Nat} {b : mB} {Q : Option mV → mS → Prop} {σ α : Nat → Nat → Int}  (h : (Ca X d 224 [vR 6, vI 0] (Zc47, σ, α) (fun r s' => Go X d 1 43 [some (vR 4)] [] s' b Q))) : Go X d 1 35 [some (vR 4)] [] (Zc47, σ, α) b Q := goD_blk X.2.2 (fun p => Nat.beq p 0 || Nat.beq p 35 || Nat.beq p 43 || Nat.beq p 51 || Nat.beq p 60 || Nat.beq p 69 || Nat.beq p 77) 42 h
theorem vc1z4_43 {X : mXX} {d : Nat} {b : mB} {Q : Option mV → mS → Prop} {σ α : Nat → Nat → Int}  (h : (Ca X d 224 [vR 13, vI 3] (Zc47, σ, α) (fun r s' => Go X d 1 51 [some (vR 4)] [] s' b Q))) : Go X d 1 43 [some (vR 4)] [] (Zc47, σ, α) b Q := goD_blk X.2.2 (fun p => Nat.beq p 0 || Nat.beq p 35 || Nat.beq p 43 || Nat.beq p 51 || Nat.beq p 60 || Nat.beq p 69 || Nat.beq p 77) 42 h
theorem vc1z4_51 {X : mXX} {d : Nat} {b : mB} {Q : Option mV → mS → Prop} {σ α : Nat → Nat → Int}  (h : (Ca X d 224 [vR 14, vI 20] (Zc47, σ, α) (fun r s' => Go X d 1 60 [some (vR 4)] [] s' b Q))) : Go X d 1 51 [some (vR 4)] [] (Zc47, σ, α) b Q := goD_blk X.2.2 (fun p => Nat.beq p 0 || Nat.beq p 35 || Nat.beq p 43 || Nat.beq p 51 || Nat.beq p 60 || Nat.beq p 69 || Nat.beq p 77) 42 h
theorem vc1z4_60 {X : mXX} {d : Nat} {b : mB} {Q : Option mV → mS → Prop} {σ α : Nat → Nat → Int}  (h : (Ca X d 40 [vR 15, vI 10] (Zc47, σ, α) (fun r s' => Go X d 1 69 [some (vR 4)] [] s' b Q))) : Go X d 1 60 [some (vR 4)] [] (Zc47, σ, α) b Q := goD_blk X.2.2 (fun p => Nat.beq p 0 || Nat.beq p 35 || Nat.beq p 43 || Nat.beq p 51 || Nat.beq p 60 || Nat.beq p 69 || Nat.beq p 77) 42 h
theorem vc1z4_69 {X : mXX} {d : Nat} {b : mB} {Q : Option mV → mS → Prop} {σ α : Nat → Nat → Int}  (h : (Ca X d 40 [vR 18, vI (-1)] (Zc47, σ, α) (fun r s' => Go X d 1 77 [some (vR 4)] [] s' b Q))) : Go X d 1 69 [some (vR 4)] [] (Zc47, σ, α) b Q := goD_blk X.2.2 (fun p => Nat.beq p 0 || Nat.beq p 35 || Nat.beq p 43 || Nat.beq p 51 || Nat.beq p 60 || Nat.beq p 69 || Nat.beq p 77) 42 h
theorem vc1z4_77 {X : mXX} {d : Nat} {b : mB} {Q : Option mV → mS → Prop} {σ α : Nat → Nat → Int}  (h : Q none (Zc47, σ, α)) : Go X d 1 77 [some (vR 4)] [] (Zc47, σ, α) b Q := goD_blk X.2.2 (fun p => Nat.beq p 0 || Nat.beq p 35 || Nat.beq p 43 || Nat.beq p 51 || Nat.beq p 60 || Nat.beq p 69 || Nat.beq p 77) 42 h
theorem k_clear4 {X : mXX} {d : Nat} {Q : Option mV → mS → Prop} {σ α : Nat → Nat → Int} (h : ∀ σ' α', Fσ [(4, 0), (4, 1), (4, 2), (4, 3), (4, 4), (15, 2), (18, 2)] σ σ' → Fα [5, 6, 13, 14, 16, 19] α α' → (σ' 4 0 = 2 ∧ σ' 4 1 = 2 ∧ σ' 4 2 = 0 ∧ σ' 4 3 = 10 ∧ σ' 4 4 = 20) → (∀ c, c < 64 → α' 5 c = 0 ∧ α' 6 c = 0) → (∀ k, k < 6 → α' 13 k = 3 ∧ α' 14 k = 20) → LC 15 16 σ' α' [(1, 10)] → LC 18 19 σ' α' [(2, 3)] → Q none (Zc47, σ', α')) : Ca X (d + 3) 1 [vR 4] (Zc47, σ, α) Q := by
  refine vc1z4_0 (k_fillz5 (fun α1 E1 f1 => vc1z4_35 (k_fillz6 (fun α2 E2 f2 => vc1z4_43 (k_fillz13 (fun α3 E3 f3 => vc1z4_51 (k_fillz14 (fun α4 E4 f4 => vc1z4_60 (k_onlyz15 (q := (1, 10)) rfl (fun σ5 α5 F5 E5 l5 => vc1z4_69 (k_onlyz18 (q := (2, 3)) rfl (fun σ6 α6 F6 E6 l6 => vc1z4_77 ?_))))))))))))
  have F0 : Fσ [(4, 0), (4, 1), (4, 2), (4, 3), (4, 4), (15, 2), (18, 2)] σ (mUp (mUp (mUp (mUp (mUp σ 4 0 2) 4 1 2) 4 2 0) 4 3 10) 4 4 20) := ((((Fσ.up (by decide)).tr (Fσ.up (by decide))).tr (Fσ.up (by decide))).tr (Fσ.up (by decide))).tr (Fσ.up (by decide))
  refine h σ6 α6 ((F0.tr (F5.wk (by decide))).tr (F6.wk (by decide))) ((((((E1.wk (by decide)).tr (E2.wk (by decide))).tr (E3.wk (by decide))).tr (E4.wk (by decide))).tr (E5.wk (by decide))).tr (E6.wk (by decide))) ⟨?_, ?_, ?_, ?_, ?_⟩ (fun c hc => ⟨?_, ?_⟩) (fun k hk => ⟨?_, ?_⟩) ?_ l6
  · rw [F6 4 0 (by decide), F5 4 0 (by decide), up_n (by decide), up_n (by decide), up_n (by decide), up_n (by decide), up_s]
  · rw [F6 4 1 (by decide), F5 4 1 (by decide), up_n (by decide), up_n (by decide), up_n (by decide), up_s]
  · rw [F6 4 2 (by decide), F5 4 2 (by decide), up_n (by decide), up_n (by decide), up_s]
  · rw [F6 4 3 (by decide), F5 4 3 (by decide), up_n (by decide), up_s]
  · rw [F6 4 4 (by decide), F5 4 4 (by decide), up_s]
  · rw [E6 5 (by decide), E5 5 (by decide), E4 5 (by decide), E3 5 (by decide), E2 5 (by decide)]; exact f1 c hc
  · rw [E6 6 (by decide), E5 6 (by decide), E4 6 (by decide), E3 6 (by decide)]; exact f2 c hc
  · rw [E6 13 (by decide), E5 13 (by decide), E4 13 (by decide)]; exact f3 k hk
  · rw [E6 14 (by decide), E5 14 (by decide)]; exact f4 k hk
  · unfold LC
    rw [F6 15 2 (by decide), E6 16 (by decide)]; exact l5
theorem vc224z24_0 {X : mXX} {d : Nat} {b : mB} {Q : Option mV → mS → Prop} {σ α : Nat → Nat → Int} {l1 : Int} (h : Go X d 224 5 [some (vR 24), some (vI l1), some (vI 0), some (vI 64)] [] (Zc11, σ, α) b Q) : Go X d 224 0 [some (vR 24), some (vI l1), none, none] [] (Zc11, σ, α) b Q := goD_blk X.2.2 (fun p => Nat.beq p 0 || Nat.beq p 5) 17 h
theorem vc224z24_5 {X : mXX} {d : Nat} {b : mB} {Q : Option mV → mS → Prop} {σ α : Nat → Nat → Int} {l1 : Int} {l2 : Int} {l3 : Int} (h : ((¬ (l2 : Int) < l3 → Q none (Zc11, σ, α)) ∧ ((l2 : Int) < l3 → (mInA l2 64 ∧ Go X d 224 5 [some (vR 24), some (vI l1), some (vI (wr (l2 + 1))), some (vI l3)] [] (Zc11, σ, (mUp α 24 (Int.toNat l2) l1)) b Q)))) : Go X d 224 5 [some (vR 24), some (vI l1), some (vI l2), some (vI l3)] [] (Zc11, σ, α) b Q := goD_blk X.2.2 (fun p => Nat.beq p 0 || Nat.beq p 5) 17 h
theorem k_fillz24 {X : mXX} {d : Nat} {Q : Option mV → mS → Prop} {σ α : Nat → Nat → Int} {v : Int} (hQ : ∀ α', Fα [24] α α' → (∀ i, i < 64 → α' 24 i = v) → Q none (Zc11, σ, α')) : Ca X (d + 1) 224 [vR 24, vI v] (Zc11, σ, α) Q := by
  refine vc224z24_0 ?_
  have key : ∀ (m i : Nat) (γ : Nat → Nat → Int), i + m = 64 → Fα [24] α γ → (∀ j, j < i → γ 24 j = v) → Go X d 224 5 [some (vR 24), some (vI v), some (vI (i : Int)), some (vI 64)] [] (Zc11, σ, γ) (0, 0) Q := by
    intro m
    induction m with
    | zero =>
      intro i γ hi hf h
      have e : i = 64 := hi
      subst e
      exact vc224z24_5 ⟨fun _ => hQ γ hf h, fun q => absurd q (by decide)⟩
    | succ m ih =>
      intro i γ hi hf h
      have il : i < 64 := by omega
      have il' : (i : Int) < 64 := by omega
      have im : i + 1 + m = 64 := by omega
      have ek := wrS (k := i) (by omega)
      refine vc224z24_5 ⟨fun q => absurd il' q, fun _ => ⟨mInA_n il, ?_⟩⟩
      rw [Int.toNat_natCast, ek]
      refine ih (i + 1) _ im (hf.tr (Fα.up (by decide))) (fun j hj => ?_)
      rw [up_a]
      by_cases hji : j = i
      · rw [if_pos hji]
      · rw [if_neg hji]; exact h j (Nat.lt_of_le_of_ne (Nat.le_of_lt_succ hj) hji)
  exact key 64 0 α (Nat.zero_add _) Fα.rf (fun j hj => absurd hj (by omega))
theorem vc224z25_0 {X : mXX} {d : Nat} {b : mB} {Q : Option mV → mS → Prop} {σ α : Nat → Nat → Int} {l1 : Int} (h : Go X d 224 5 [some (vR 25), some (vI l1), some (vI 0), some (vI 64)] [] (Zc11, σ, α) b Q) : Go X d 224 0 [some (vR 25), some (vI l1), none, none] [] (Zc11, σ, α) b Q := goD_blk X.2.2 (fun p => Nat.beq p 0 || Nat.beq p 5) 17 h
theorem vc224z25_5 {X : mXX} {d : Nat} {b : mB} {Q : Option mV → mS → Prop} {σ α : Nat → Nat → Int} {l1 : Int} {l2 : Int} {l3 : Int} (h : ((¬ (l2 : Int) < l3 → Q none (Zc11, σ, α)) ∧ ((l2 : Int) < l3 → (mInA l2 64 ∧ Go X d 224 5 [some (vR 25), some (vI l1), some (vI (wr (l2 + 1))), some (vI l3)] [] (Zc11, σ, (mUp α 25 (Int.toNat l2) l1)) b Q)))) : Go X d 224 5 [some (vR 25), some (vI l1), some (vI l2), some (vI l3)] [] (Zc11, σ, α) b Q := goD_blk X.2.2 (fun p => Nat.beq p 0 || Nat.beq p 5) 17 h
theorem k_fillz25 {X : mXX} {d : Nat} {Q : Option mV → mS → Prop} {σ α : Nat → Nat → Int} {v : Int} (hQ : ∀ α', Fα [25] α α' → (∀ i, i < 64 → α' 25 i = v) → Q none (Zc11, σ, α')) : Ca X (d + 1) 224 [vR 25, vI v] (Zc11, σ, α) Q := by
  refine vc224z25_0 ?_
  have key : ∀ (m i : Nat) (γ : Nat → Nat → Int), i + m = 64 → Fα [25] α γ → (∀ j, j < i → γ 25 j = v) → Go X d 224 5 [some (vR 25), some (vI v), some (vI (i : Int)), some (vI 64)] [] (Zc11, σ, γ) (0, 0) Q := by
    intro m
    induction m with
    | zero =>
      intro i γ hi hf h
      have e : i = 64 := hi
      subst e
      exact vc224z25_5 ⟨fun _ => hQ γ hf h, fun q => absurd q (by decide)⟩
    | succ m ih =>
      intro i γ hi hf h
      have il : i < 64 := by omega
      have il' : (i : Int) < 64 := by omega
      have im : i + 1 + m = 64 := by omega
      have ek := wrS (k := i) (by omega)
      refine vc224z25_5 ⟨fun q => absurd il' q, fun _ => ⟨mInA_n il, ?_⟩⟩
      rw [Int.toNat_natCast, ek]
      refine ih (i + 1) _ im (hf.tr (Fα.up (by decide))) (fun j hj => ?_)
      rw [up_a]
      by_cases hji : j = i
      · rw [if_pos hji]
      · rw [if_neg hji]; exact h j (Nat.lt_of_le_of_ne (Nat.le_of_lt_succ hj) hji)
  exact key 64 0 α (Nat.zero_add _) Fα.rf (fun j hj => absurd hj (by omega))
theorem vc224z32_0 {X : mXX} {d : Nat} {b : mB} {Q : Option mV → mS → Prop} {σ α : Nat → Nat → Int} {l1 : Int} (h : Go X d 224 5 [some (vR 32), some (vI l1), some (vI 0), some (vI 6)] [] (Zc11, σ, α) b Q) : Go X d 224 0 [some (vR 32), some (vI l1), none, none] [] (Zc11, σ, α) b Q := goD_blk X.2.2 (fun p => Nat.beq p 0 || Nat.beq p 5) 17 h
theorem vc224z32_5 {X : mXX} {d : Nat} {b : mB} {Q : Option mV → mS → Prop} {σ α : Nat → Nat → Int} {l1 : Int} {l2 : Int} {l3 : Int} (h : ((¬ (l2 : Int) < l3 → Q none (Zc11, σ, α)) ∧ ((l2 : Int) < l3 → (mInA l2 6 ∧ Go X d 224 5 [some (vR 32), some (vI l1), some (vI (wr (l2 + 1))), some (vI l3)] [] (Zc11, σ, (mUp α 32 (Int.toNat l2) l1)) b Q)))) : Go X d 224 5 [some (vR 32), some (vI l1), some (vI l2), some (vI l3)] [] (Zc11, σ, α) b Q := goD_blk X.2.2 (fun p => Nat.beq p 0 || Nat.beq p 5) 17 h
theorem k_fillz32 {X : mXX} {d : Nat} {Q : Option mV → mS → Prop} {σ α : Nat → Nat → Int} {v : Int} (hQ : ∀ α', Fα [32] α α' → (∀ i, i < 6 → α' 32 i = v) → Q none (Zc11, σ, α')) : Ca X (d + 1) 224 [vR 32, vI v] (Zc11, σ, α) Q := by
  refine vc224z32_0 ?_
  have key : ∀ (m i : Nat) (γ : Nat → Nat → Int), i + m = 6 → Fα [32] α γ → (∀ j, j < i → γ 32 j = v) → Go X d 224 5 [some (vR 32), some (vI v), some (vI (i : Int)), some (vI 6)] [] (Zc11, σ, γ) (0, 0) Q := by
    intro m
    induction m with
    | zero =>
      intro i γ hi hf h
      have e : i = 6 := hi
      subst e
      exact vc224z32_5 ⟨fun _ => hQ γ hf h, fun q => absurd q (by decide)⟩
    | succ m ih =>
      intro i γ hi hf h
      have il : i < 6 := by omega
      have il' : (i : Int) < 6 := by omega
      have im : i + 1 + m = 6 := by omega
      have ek := wrS (k := i) (by omega)
      refine vc224z32_5 ⟨fun q => absurd il' q, fun _ => ⟨mInA_n il, ?_⟩⟩
      rw [Int.toNat_natCast, ek]
      refine ih (i + 1) _ im (hf.tr (Fα.up (by decide))) (fun j hj => ?_)
      rw [up_a]
      by_cases hji : j = i
      · rw [if_pos hji]
      · rw [if_neg hji]; exact h j (Nat.lt_of_le_of_ne (Nat.le_of_lt_succ hj) hji)
  exact key 6 0 α (Nat.zero_add _) Fα.rf (fun j hj => absurd hj (by omega))
theorem vc224z33_0 {X : mXX} {d : Nat} {b : mB} {Q : Option mV → mS → Prop} {σ α : Nat → Nat → Int} {l1 : Int} (h : Go X d 224 5 [some (vR 33), some (vI l1), some (vI 0), some (vI 6)] [] (Zc11, σ, α) b Q) : Go X d 224 0 [some (vR 33), some (vI l1), none, none] [] (Zc11, σ, α) b Q := goD_blk X.2.2 (fun p => Nat.beq p 0 || Nat.beq p 5) 17 h
theorem vc224z33_5 {X : mXX} {d : Nat} {b : mB} {Q : Option mV → mS → Prop} {σ α : Nat → Nat → Int} {l1 : Int} {l2 : Int} {l3 : Int} (h : ((¬ (l2 : Int) < l3 → Q none (Zc11, σ, α)) ∧ ((l2 : Int) < l3 → (mInA l2 6 ∧ Go X d 224 5 [some (vR 33), some (vI l1), some (vI (wr (l2 + 1))), some (vI l3)] [] (Zc11, σ, (mUp α 33 (Int.toNat l2) l1)) b Q)))) : Go X d 224 5 [some (vR 33), some (vI l1), some (vI l2), some (vI l3)] [] (Zc11, σ, α) b Q := goD_blk X.2.2 (fun p => Nat.beq p 0 || Nat.beq p 5) 17 h
theorem k_fillz33 {X : mXX} {d : Nat} {Q : Option mV → mS → Prop} {σ α : Nat → Nat → Int} {v : Int} (hQ : ∀ α', Fα [33] α α' → (∀ i, i < 6 → α' 33 i = v) → Q none (Zc11, σ, α')) : Ca X (d + 1) 224 [vR 33, vI v] (Zc11, σ, α) Q := by
  refine vc224z33_0 ?_
  have key : ∀ (m i : Nat) (γ : Nat → Nat → Int), i + m = 6 → Fα [33] α γ → (∀ j, j < i → γ 33 j = v) → Go X d 224 5 [some (vR 33), some (vI v), some (vI (i : Int)), some (vI 6)] [] (Zc11, σ, γ) (0, 0) Q := by
    intro m
    induction m with
    | zero =>
      intro i γ hi hf h
      have e : i = 6 := hi
      subst e
      exact vc224z33_5 ⟨fun _ => hQ γ hf h, fun q => absurd q (by decide)⟩
    | succ m ih =>
      intro i γ hi hf h
      have il : i < 6 := by omega
      have il' : (i : Int) < 6 := by omega
      have im : i + 1 + m = 6 := by omega
      have ek := wrS (k := i) (by omega)
      refine vc224z33_5 ⟨fun q => absurd il' q, fun _ => ⟨mInA_n il, ?_⟩⟩
      rw [Int.toNat_natCast, ek]
      refine ih (i + 1) _ im (hf.tr (Fα.up (by decide))) (fun j hj => ?_)
      rw [up_a]
      by_cases hji : j = i
      · rw [if_pos hji]
      · rw [if_neg hji]; exact h j (Nat.lt_of_le_of_ne (Nat.le_of_lt_succ hj) hji)
  exact key 6 0 α (Nat.zero_add _) Fα.rf (fun j hj => absurd hj (by omega))
theorem vc40z34_0 {X : mXX} {d : Nat} {b : mB} {Q : Option mV → mS → Prop} {σ α : Nat → Nat → Int} {l1 : Int} (h : (Ca X d 41 [vR 34, vI l1] (Zc11, (mUp σ 34 2 0), α) (fun r s' => Go X d 40 10 [some (vR 34), some (vI l1)] [] s' b Q))) : Go X d 40 0 [some (vR 34), some (vI l1)] [] (Zc11, σ, α) b Q := goD_blk X.2.2 (fun p => Nat.beq p 0 || Nat.beq p 10) 9 h
theorem vc40z34_10 {X : mXX} {d : Nat} {b : mB} {Q : Option mV → mS → Prop} {σ α : Nat → Nat → Int} {l1 : Int} (h : Q none (Zc11, σ, α)) : Go X d 40 10 [some (vR 34), some (vI l1)] [] (Zc11, σ, α) b Q := goD_blk X.2.2 (fun p => Nat.beq p 0 || Nat.beq p 10) 9 h
theorem vc41z34_0 {X : mXX} {d : Nat} {b : mB} {Q : Option mV → mS → Prop} {σ α : Nat → Nat → Int} {l1 : Int} (h : ((¬ ((σ 34 2) : Int) < 1000 → Q none (Zc11, σ, α)) ∧ (((σ 34 2) : Int) < 1000 → (mInA (σ 34 2) 1000 ∧ Q none (Zc11, (mUp σ 34 2 (wr ((σ 34 2) + 1))), (mUp α 35 (Int.toNat (σ 34 2)) l1)))))) : Go X d 41 0 [some (vR 34), some (vI l1)] [] (Zc11, σ, α) b Q := goD_blk X.2.2 (fun p => Nat.beq p 0) 21 h
theorem k_onlyz34 {X : mXX} {d : Nat} {Q : Option mV → mS → Prop} {σ α : Nat → Nat → Int} {v : Int} {q : Int × Int} (hv : v = ecl q) (h : ∀ σ' α', Fσ [(34, 2)] σ σ' → Fα [35] α α' → LC 34 35 σ' α' [q] → Q none (Zc11, σ', α')) : Ca X (d + 2) 40 [vR 34, vI v] (Zc11, σ, α) Q := by
  refine vc40z34_0 (vc41z34_0 ?_)
  rw [show (mUp σ 34 2 0) 34 2 = 0 from up_s]
  refine ⟨fun z => absurd (by decide) z, fun _ => ⟨mInA_n (i := 0) (by decide), vc40z34_10 (h _ _ ((Fσ.up (by decide)).tr (Fσ.up (by decide))) (Fα.up (by decide)) ⟨up_s.trans (show wr (0 + 1) = ((1 : Nat) : Int) by decide), ?_, trivial⟩)⟩⟩
  show mUp α 35 0 v 35 0 = ecl q
  rw [up_s]
  exact hv
theorem vc40z37_0 {X : mXX} {d : Nat} {b : mB} {Q : Option mV → mS → Prop} {σ α : Nat → Nat → Int} {l1 : Int} (h : (Ca X d 41 [vR 37, vI l1] (Zc11, (mUp σ 37 2 0), α) (fun r s' => Go X d 40 10 [some (vR 37), some (vI l1)] [] s' b Q))) : Go X d 40 0 [some (vR 37), some (vI l1)] [] (Zc11, σ, α) b Q := goD_blk X.2.2 (fun p => Nat.beq p 0 || Nat.beq p 10) 9 h
theorem vc40z37_10 {X : mXX} {d : Nat} {b : mB} {Q : Option mV → mS → Prop} {σ α : Nat → Nat → Int} {l1 : Int} (h : Q none (Zc11, σ, α)) : Go X d 40 10 [some (vR 37), some (vI l1)] [] (Zc11, σ, α) b Q := goD_blk X.2.2 (fun p => Nat.beq p 0 || Nat.beq p 10) 9 h
theorem vc41z37_0 {X : mXX} {d : Nat} {b : mB} {Q : Option mV → mS → Prop} {σ α : Nat → Nat → Int} {l1 : Int} (h : ((¬ ((σ 37 2) : Int) < 1000 → Q none (Zc11, σ, α)) ∧ (((σ 37 2) : Int) < 1000 → (mInA (σ 37 2) 1000 ∧ Q none (Zc11, (mUp σ 37 2 (wr ((σ 37 2) + 1))), (mUp α 38 (Int.toNat (σ 37 2)) l1)))))) : Go X d 41 0 [some (vR 37), some (vI l1)] [] (Zc11, σ, α) b Q := goD_blk X.2.2 (fun p => Nat.beq p 0) 21 h
theorem k_onlyz37 {X : mXX} {d : Nat} {Q : Option mV → mS → Prop} {σ α : Nat → Nat → Int} {v : Int} {q : Int × Int} (hv : v = ecl q) (h : ∀ σ' α', Fσ [(37, 2)] σ σ' → Fα [38] α α' → LC 37 38 σ' α' [q] → Q none (Zc11, σ', α')) : Ca X (d + 2) 40 [vR 37, vI v] (Zc11, σ, α) Q := by
  refine vc40z37_0 (vc41z37_0 ?_)
  rw [show (mUp σ 37 2 0) 37 2 = 0 from up_s]
  refine ⟨fun z => absurd (by decide) z, fun _ => ⟨mInA_n (i := 0) (by decide), vc40z37_10 (h _ _ ((Fσ.up (by decide)).tr (Fσ.up (by decide))) (Fα.up (by decide)) ⟨up_s.trans (show wr (0 + 1) = ((1 : Nat) : Int) by decide), ?_, trivial⟩)⟩⟩
  show mUp α 38 0 v 38 0 = ecl q
  rw [up_s]
  exact hv
theorem vc1z23_0 {X : mXX} {d : Nat} {b : mB} {Q : Option mV → mS → Prop} {σ α : Nat → Nat → Int}  (h : (Ca X d 224 [vR 24, vI 0] (Zc11, (mUp (mUp (mUp (mUp (mUp σ 23 0 2) 23 1 2) 23 2 0) 23 3 10) 23 4 20), α) (fun r s' => Go X d 1 35 [some (vR 23)] [] s' b Q))) : Go X d 1 0 [some (vR 23)] [] (Zc11, σ, α) b Q := goD_blk X.2.2 (fun p => Nat.beq p 0 || Nat.beq p 35 || Nat.beq p 43 || Nat.beq p 51 || Nat.beq p 60 || Nat.beq p 69 || Nat.beq p 77) 42 h
theorem vc1z23_35 {X : mXX} {d : Nat} {b : mB} {Q : Option mV → mS → Prop} {σ α : Nat → Nat → Int}  (h : (Ca X d 224 [vR 25, vI 0] (Zc11, σ, α) (fun r s' => Go X d 1 43 [some (vR 23)] [] s' b Q))) : Go X d 1 35 [some (vR 23)] [] (Zc11, σ, α) b Q := goD_blk X.2.2 (fun p => Nat.beq p 0 || Nat.beq p 35 || Nat.beq p 43 || Nat.beq p 51 || Nat.beq p 60 || Nat.beq p 69 || Nat.beq p 77) 42 h
theorem vc1z23_43 {X : mXX} {d : Nat} {b : mB} {Q : Option mV → mS → Prop} {σ α : Nat → Nat → Int}  (h : (Ca X d 224 [vR 32, vI 3] (Zc11, σ, α) (fun r s' => Go X d 1 51 [some (vR 23)] [] s' b Q))) : Go X d 1 43 [some (vR 23)] [] (Zc11, σ, α) b Q := goD_blk X.2.2 (fun p => Nat.beq p 0 || Nat.beq p 35 || Nat.beq p 43 || Nat.beq p 51 || Nat.beq p 60 || Nat.beq p 69 || Nat.beq p 77) 42 h
theorem vc1z23_51 {X : mXX} {d : Nat} {b : mB} {Q : Option mV → mS → Prop} {σ α : Nat → Nat → Int}  (h : (Ca X d 224 [vR 33, vI 20] (Zc11, σ, α) (fun r s' => Go X d 1 60 [some (vR 23)] [] s' b Q))) : Go X d 1 51 [some (vR 23)] [] (Zc11, σ, α) b Q := goD_blk X.2.2 (fun p => Nat.beq p 0 || Nat.beq p 35 || Nat.beq p 43 || Nat.beq p 51 || Nat.beq p 60 || Nat.beq p 69 || Nat.beq p 77) 42 h
theorem vc1z23_60 {X : mXX} {d : Nat} {b : mB} {Q : Option mV → mS → Prop} {σ α : Nat → Nat → Int}  (h : (Ca X d 40 [vR 34, vI 10] (Zc11, σ, α) (fun r s' => Go X d 1 69 [some (vR 23)] [] s' b Q))) : Go X d 1 60 [some (vR 23)] [] (Zc11, σ, α) b Q := goD_blk X.2.2 (fun p => Nat.beq p 0 || Nat.beq p 35 || Nat.beq p 43 || Nat.beq p 51 || Nat.beq p 60 || Nat.beq p 69 || Nat.beq p 77) 42 h
theorem vc1z23_69 {X : mXX} {d : Nat} {b : mB} {Q : Option mV → mS → Prop} {σ α : Nat → Nat → Int}  (h : (Ca X d 40 [vR 37, vI (-1)] (Zc11, σ, α) (fun r s' => Go X d 1 77 [some (vR 23)] [] s' b Q))) : Go X d 1 69 [some (vR 23)] [] (Zc11, σ, α) b Q := goD_blk X.2.2 (fun p => Nat.beq p 0 || Nat.beq p 35 || Nat.beq p 43 || Nat.beq p 51 || Nat.beq p 60 || Nat.beq p 69 || Nat.beq p 77) 42 h
theorem vc1z23_77 {X : mXX} {d : Nat} {b : mB} {Q : Option mV → mS → Prop} {σ α : Nat → Nat → Int}  (h : Q none (Zc11, σ, α)) : Go X d 1 77 [some (vR 23)] [] (Zc11, σ, α) b Q := goD_blk X.2.2 (fun p => Nat.beq p 0 || Nat.beq p 35 || Nat.beq p 43 || Nat.beq p 51 || Nat.beq p 60 || Nat.beq p 69 || Nat.beq p 77) 42 h
theorem k_clear23 {X : mXX} {d : Nat} {Q : Option mV → mS → Prop} {σ α : Nat → Nat → Int} (h : ∀ σ' α', Fσ [(23, 0), (23, 1), (23, 2), (23, 3), (23, 4), (34, 2), (37, 2)] σ σ' → Fα [24, 25, 32, 33, 35, 38] α α' → (σ' 23 0 = 2 ∧ σ' 23 1 = 2 ∧ σ' 23 2 = 0 ∧ σ' 23 3 = 10 ∧ σ' 23 4 = 20) → (∀ c, c < 64 → α' 24 c = 0 ∧ α' 25 c = 0) → (∀ k, k < 6 → α' 32 k = 3 ∧ α' 33 k = 20) → LC 34 35 σ' α' [(1, 10)] → LC 37 38 σ' α' [(2, 3)] → Q none (Zc11, σ', α')) : Ca X (d + 3) 1 [vR 23] (Zc11, σ, α) Q := by
  refine vc1z23_0 (k_fillz24 (fun α1 E1 f1 => vc1z23_35 (k_fillz25 (fun α2 E2 f2 => vc1z23_43 (k_fillz32 (fun α3 E3 f3 => vc1z23_51 (k_fillz33 (fun α4 E4 f4 => vc1z23_60 (k_onlyz34 (q := (1, 10)) rfl (fun σ5 α5 F5 E5 l5 => vc1z23_69 (k_onlyz37 (q := (2, 3)) rfl (fun σ6 α6 F6 E6 l6 => vc1z23_77 ?_))))))))))))
  have F0 : Fσ [(23, 0), (23, 1), (23, 2), (23, 3), (23, 4), (34, 2), (37, 2)] σ (mUp (mUp (mUp (mUp (mUp σ 23 0 2) 23 1 2) 23 2 0) 23 3 10) 23 4 20) := ((((Fσ.up (by decide)).tr (Fσ.up (by decide))).tr (Fσ.up (by decide))).tr (Fσ.up (by decide))).tr (Fσ.up (by decide))
  refine h σ6 α6 ((F0.tr (F5.wk (by decide))).tr (F6.wk (by decide))) ((((((E1.wk (by decide)).tr (E2.wk (by decide))).tr (E3.wk (by decide))).tr (E4.wk (by decide))).tr (E5.wk (by decide))).tr (E6.wk (by decide))) ⟨?_, ?_, ?_, ?_, ?_⟩ (fun c hc => ⟨?_, ?_⟩) (fun k hk => ⟨?_, ?_⟩) ?_ l6
  · rw [F6 23 0 (by decide), F5 23 0 (by decide), up_n (by decide), up_n (by decide), up_n (by decide), up_n (by decide), up_s]
  · rw [F6 23 1 (by decide), F5 23 1 (by decide), up_n (by decide), up_n (by decide), up_n (by decide), up_s]
  · rw [F6 23 2 (by decide), F5 23 2 (by decide), up_n (by decide), up_n (by decide), up_s]
  · rw [F6 23 3 (by decide), F5 23 3 (by decide), up_n (by decide), up_s]
  · rw [F6 23 4 (by decide), F5 23 4 (by decide), up_s]
  · rw [E6 24 (by decide), E5 24 (by decide), E4 24 (by decide), E3 24 (by decide), E2 24 (by decide)]; exact f1 c hc
  · rw [E6 25 (by decide), E5 25 (by decide), E4 25 (by decide), E3 25 (by decide)]; exact f2 c hc
  · rw [E6 32 (by decide), E5 32 (by decide), E4 32 (by decide)]; exact f3 k hk
  · rw [E6 33 (by decide), E5 33 (by decide)]; exact f4 k hk
  · unfold LC
    rw [F6 34 2 (by decide), E6 35 (by decide)]; exact l5
theorem vc224z82_0 {X : mXX} {d : Nat} {b : mB} {Q : Option mV → mS → Prop} {σ α : Nat → Nat → Int} {l1 : Int} (h : Go X d 224 5 [some (vR 82), some (vI l1), some (vI 0), some (vI 1536)] [] (Zc30, σ, α) b Q) : Go X d 224 0 [some (vR 82), some (vI l1), none, none] [] (Zc30, σ, α) b Q := goD_blk X.2.2 (fun p => Nat.beq p 0 || Nat.beq p 5) 17 h
theorem vc224z82_5 {X : mXX} {d : Nat} {b : mB} {Q : Option mV → mS → Prop} {σ α : Nat → Nat → Int} {l1 : Int} {l2 : Int} {l3 : Int} (h : ((¬ (l2 : Int) < l3 → Q none (Zc30, σ, α)) ∧ ((l2 : Int) < l3 → (mInA l2 1536 ∧ Go X d 224 5 [some (vR 82), some (vI l1), some (vI (wr (l2 + 1))), some (vI l3)] [] (Zc30, σ, (mUp α 82 (Int.toNat l2) l1)) b Q)))) : Go X d 224 5 [some (vR 82), some (vI l1), some (vI l2), some (vI l3)] [] (Zc30, σ, α) b Q := goD_blk X.2.2 (fun p => Nat.beq p 0 || Nat.beq p 5) 17 h
theorem k_fillz82 {X : mXX} {d : Nat} {Q : Option mV → mS → Prop} {σ α : Nat → Nat → Int} {v : Int} (hQ : ∀ α', Fα [82] α α' → (∀ i, i < 1536 → α' 82 i = v) → Q none (Zc30, σ, α')) : Ca X (d + 1) 224 [vR 82, vI v] (Zc30, σ, α) Q := by
  refine vc224z82_0 ?_
  have key : ∀ (m i : Nat) (γ : Nat → Nat → Int), i + m = 1536 → Fα [82] α γ → (∀ j, j < i → γ 82 j = v) → Go X d 224 5 [some (vR 82), some (vI v), some (vI (i : Int)), some (vI 1536)] [] (Zc30, σ, γ) (0, 0) Q := by
    intro m
    induction m with
    | zero =>
      intro i γ hi hf h
      have e : i = 1536 := hi
      subst e
      exact vc224z82_5 ⟨fun _ => hQ γ hf h, fun q => absurd q (by decide)⟩
    | succ m ih =>
      intro i γ hi hf h
      have il : i < 1536 := by omega
      have il' : (i : Int) < 1536 := by omega
      have im : i + 1 + m = 1536 := by omega
      have ek := wrS (k := i) (by omega)
      refine vc224z82_5 ⟨fun q => absurd il' q, fun _ => ⟨mInA_n il, ?_⟩⟩
      rw [Int.toNat_natCast, ek]
      refine ih (i + 1) _ im (hf.tr (Fα.up (by decide))) (fun j hj => ?_)
      rw [up_a]
      by_cases hji : j = i
      · rw [if_pos hji]
      · rw [if_neg hji]; exact h j (Nat.lt_of_le_of_ne (Nat.le_of_lt_succ hj) hji)
  exact key 1536 0 α (Nat.zero_add _) Fα.rf (fun j hj => absurd hj (by omega))
theorem vc53z_0 {X : mXX} {d : Nat} {b : mB} {Q : Option mV → mS → Prop} {σ α : Nat → Nat → Int}  (h : (Ca X d 224 [vR 82, vI (-1)] (Zc30, σ, α) (fun r s' => Go X d 53 8 [some (vR 81)] [] s' b Q))) : Go X d 53 0 [some (vR 81)] [] (Zc30, σ, α) b Q := goD_blk X.2.2 (fun p => Nat.beq p 0 || Nat.beq p 8) 7 h
theorem vc53z_8 {X : mXX} {d : Nat} {b : mB} {Q : Option mV → mS → Prop} {σ α : Nat → Nat → Int}  (h : Q none (Zc30, σ, α)) : Go X d 53 8 [some (vR 81)] [] (Zc30, σ, α) b Q := goD_blk X.2.2 (fun p => Nat.beq p 0 || Nat.beq p 8) 7 h
theorem k_forget {X : mXX} {d : Nat} {Q : Option mV → mS → Prop} {σ α : Nat → Nat → Int} (hQ : ∀ α', Fα [82] α α' → (∀ i, i < 1536 → α' 82 i = -1) → Q none (Zc30, σ, α')) : Ca X (d + 2) 53 [vR 81] (Zc30, σ, α) Q :=
  vc53z_0 (k_fillz82 (fun α1 E1 f1 => vc53z_8 (hQ α1 E1 f1)))
theorem vc128z_0 {X : mXX} {d : Nat} {b : mB} {Q : Option mV → mS → Prop} {σ α : Nat → Nat → Int} {l1 : Int} (h : Go X d 128 2 [some (vR 104), some (vI l1), some (vI 0)] [] (Zc3, σ, α) b Q) : Go X d 128 0 [some (vR 104), some (vI l1), none] [] (Zc3, σ, α) b Q := goD_blk X.2.2 (fun p => Nat.beq p 0 || Nat.beq p 2 || Nat.beq p 68) 78 h
theorem vc128z_2 {X : mXX} {d : Nat} {b : mB} {Q : Option mV → mS → Prop} {σ α : Nat → Nat → Int} {l1 : Int} {l2 : Int} (h : ((¬ (l2 : Int) < 320 → (mInA (wr (l1 + 4)) 2240 ∧ (mInA (wr (l1 + 5)) 2240 ∧ (mInA (wr (l1 + 6)) 2240 ∧ (mInA (wr ((wr (l1 + 6)) + 1)) 2240 ∧ Go X d 128 68 [some (vR 104), some (vI l1), some (vI 0)] [] (Zc3, σ, (mUp (mUp (mUp (mUp α 110 (Int.toNat (wr (l1 + 4))) 10) 110 (Int.toNat (wr (l1 + 5))) 20) 110 (Int.toNat (wr (l1 + 6))) (-1)) 110 (Int.toNat (wr ((wr (l1 + 6)) + 1))) (-1))) b Q))))) ∧ ((l2 : Int) < 320 → (mInA (wr (l1 + l2)) 2240 ∧ Go X d 128 2 [some (vR 104), some (vI l1), some (vI (wr (l2 + 1)))] [] (Zc3, σ, (mUp α 110 (Int.toNat (wr (l1 + l2))) 0)) b Q)))) : Go X d 128 2 [some (vR 104), some (vI l1), some (vI l2)] [] (Zc3, σ, α) b Q := goD_blk X.2.2 (fun p => Nat.beq p 0 || Nat.beq p 2 || Nat.beq p 68) 78 h
theorem vc128z_68 {X : mXX} {d : Nat} {b : mB} {Q : Option mV → mS → Prop} {σ α : Nat → Nat → Int} {l1 : Int} {l2 : Int} (h : ((¬ (l2 : Int) < 6 → Q none (Zc3, σ, α)) ∧ ((l2 : Int) < 6 → (mInA (wr ((wr (l1 + 290)) + (wr (3 * l2)))) 2240 ∧ (mInA (wr ((wr ((wr (l1 + 290)) + (wr (3 * l2)))) + 1)) 2240 ∧ Go X d 128 68 [some (vR 104), some (vI l1), some (vI (wr (l2 + 1)))] [] (Zc3, σ, (mUp (mUp α 110 (Int.toNat (wr ((wr (l1 + 290)) + (wr (3 * l2))))) 3) 110 (Int.toNat (wr ((wr ((wr (l1 + 290)) + (wr (3 * l2)))) + 1))) 20)) b Q))))) : Go X d 128 68 [some (vR 104), some (vI l1), some (vI l2)] [] (Zc3, σ, α) b Q := goD_blk X.2.2 (fun p => Nat.beq p 0 || Nat.beq p 2 || Nat.beq p 68) 78 h
theorem k_stands {X : mXX} {d : Nat} {Q : Option mV → mS → Prop} {σ α : Nat → Nat → Int} (h : ∀ α', Fα [110] α α' → (∀ j, j < 320 → α' 110 j = sa0 j) → Q none (Zc3, σ, α')) : Ca X (d + 1) 128 [vR 104, vI 0] (Zc3, σ, α) Q := by
  refine vc128z_0 ?_
  have l2 : ∀ (g k : Nat) (γ : Nat → Nat → Int), k + g = 6 → Fα [110] α γ → (∀ j, j < 320 → γ 110 j = szK k j) → Go X d 128 68 [some (vR 104), some (vI 0), some (vI (k : Int))] [] (Zc3, σ, γ) (0, 0) Q := by
    intro g
    induction g with
    | zero =>
      intro k γ hk E z
      have ek : k = 6 := hk
      subst ek
      exact vc128z_68 ⟨fun _ => h γ E (fun j hj => (z j hj).trans sz_6), fun y => absurd y (by decide)⟩
    | succ g ih =>
      intro k γ hk E z
      have k6 : k < 6 := by clear z; omega
      have kl : (k : Int) < 6 := by clear z; omega
      have x1 : wr (wr (0 + 290) + wr (3 * (k : Int))) = ((290 + 3 * k : Nat) : Int) := by
        clear z
        rw [wr_of (x := 0 + 290) (by decide) (by decide), wr_of (x := 3 * (k : Int)) (by omega) (by omega), wr_of (by omega) (by omega)]; omega
      have x2 : wr (((290 + 3 * k : Nat) : Int) + 1) = ((291 + 3 * k : Nat) : Int) := by
        clear z x1
        rw [wr_of (by omega) (by omega)]; omega
      have ek := wrS (k := k) (by clear z x1 x2; omega)
      refine vc128z_68 ⟨fun y => absurd kl y, fun _ => ?_⟩
      rw [x1, x2, Int.toNat_natCast, Int.toNat_natCast, ek]
      refine ⟨mInA_n (by clear z x1 x2 ek; omega), mInA_n (by clear z x1 x2 ek; omega), ?_⟩
      refine ih (k + 1) _ (by clear z x1 x2 ek; omega) ((E.tr (Fα.up (by decide))).tr (Fα.up (by decide))) (fun j hj => ?_)
      rw [up_a, up_a, sz_s, z j hj]
  have l1 : ∀ (g k : Nat) (γ : Nat → Nat → Int), k + g = 320 → Fα [110] α γ → (∀ j, j < k → γ 110 j = 0) → Go X d 128 2 [some (vR 104), some (vI 0), some (vI (k : Int))] [] (Zc3, σ, γ) (0, 0) Q := by
    intro g
    induction g with
    | zero =>
      intro k γ hk E z
      have ek : k = 320 := hk
      subst ek
      refine vc128z_2 ⟨fun _ => ⟨mInA_n (i := 4) (by decide), mInA_n (i := 5) (by decide), mInA_n (i := 6) (by decide), mInA_n (i := 7) (by decide), ?_⟩, fun y => absurd y (by decide)⟩
      show Go X d 128 68 [some (vR 104), some (vI 0), some (vI 0)] [] (Zc3, σ, mUp (mUp (mUp (mUp γ 110 4 10) 110 5 20) 110 6 (-1)) 110 7 (-1)) (0, 0) Q
      refine l2 6 0 _ rfl ((((E.tr (Fα.up (by decide))).tr (Fα.up (by decide))).tr (Fα.up (by decide))).tr (Fα.up (by decide))) (fun j hj => ?_)
      rw [up_a, up_a, up_a, up_a]
      unfold szK sz0
      rw [if_neg (show ¬ (290 ≤ j ∧ j < 290 + 3 * 0) by omega), z j hj]
      by_cases a7 : j = 7
      · subst a7; decide
      · rw [if_neg a7]
        by_cases a6 : j = 6
        · subst a6; decide
        · rw [if_neg a6]
          by_cases a5 : j = 5
          · subst a5; decide
          · rw [if_neg a5]
            by_cases a4 : j = 4
            · subst a4; decide
            · rw [if_neg a4, if_neg a4, if_neg a5, if_neg (by omega)]
    | succ g ih =>
      intro k γ hk E z
      have kl : (k : Int) < 320 := by clear z; omega
      have x1 : wr (0 + (k : Int)) = (k : Int) := by
        clear z
        rw [wr_of (by omega) (by omega)]; omega
      have ek := wrS (k := k) (by clear z x1; omega)
      refine vc128z_2 ⟨fun y => absurd kl y, fun _ => ?_⟩
      rw [x1, Int.toNat_natCast, ek]
      refine ⟨mInA_n (by clear z x1 ek; omega), ?_⟩
      refine ih (k + 1) _ (by clear z x1 ek; omega) (E.tr (Fα.up (by decide))) (fun j hj => ?_)
      rw [up_a]
      by_cases e : j = k
      · rw [if_pos e]
      · rw [if_neg e]; exact z j (Nat.lt_of_le_of_ne (Nat.lt_succ_iff.mp hj) e)
  exact l1 320 0 α rfl Fα.rf (fun j hj => absurd hj (Nat.not_lt_zero j))
def BF (σ α : Nat → Nat → Int) : Prop := (σ 23 0 = 2 ∧ σ 23 1 = 2 ∧ σ 23 2 = 0 ∧ σ 23 3 = 10 ∧ σ 23 4 = 20) ∧ (∀ c, c < 64 → α 24 c = 0 ∧ α 25 c = 0) ∧ (∀ k, k < 6 → α 32 k = 3 ∧ α 33 k = 20) ∧ LC 34 35 σ α [(1, 10)] ∧ LC 37 38 σ α [(2, 3)]
theorem BF.kp {σ α σ' α' : Nat → Nat → Int} (h : BF σ α) (k : Kp 40 σ α σ' α') : BF σ' α' := by
  unfold BF LC
  rw [(k 23 (by decide)).1, (k 34 (by decide)).1, (k 37 (by decide)).1, (k 24 (by decide)).2, (k 25 (by decide)).2, (k 32 (by decide)).2, (k 33 (by decide)).2, (k 35 (by decide)).2, (k 38 (by decide)).2]
  exact h
/-- what the class's constructor leaves -/
def CFx (σ α : Nat → Nat → Int) : Prop := σ 1 1 = 0 ∧ BF σ α ∧ σ 40 1 = 0 ∧ Zs [47, 46, 45, 44, 43, 42, 41] α ∧ (σ 49 0 = 0 ∧ σ 57 0 = 0 ∧ σ 65 0 = 0 ∧ σ 73 0 = 0) ∧ ∀ c, c < 1536 → α 82 c = -1
/-- what the reference's constructor leaves -/
def m0R (j : Nat) : Int := if j = 1 then 2 else if j = 0 then 2 else sa0 j
def MFa (α : Nat → Nat → Int) : Prop := (∀ j, j < 320 → α 110 j = m0R j) ∧ WDm α ∧ Zs [124, 117] α
def hwL : List Int := [2800, 932411, 36034867, 316950, 121898, 57, 426207, 839653, 38424446, 5676323, 1355951217, 36781379, 1178051, 13186412, 23270970, 30596128, 979413, 20590, 20983, 564227, 19741, 1891, 573, 24, 25, 426554, 34523709, 932857, 8269]
def ftL : List Int := [23, 24, 25, 3, 26, 27, 28]
theorem hw_ok : ∀ w : Fin 29, rfW w.val < 29 ∧ hwL.getD (rfW w.val) 0 = hsW w.val := by decide +kernel
theorem ft_ok : ∀ k : Fin 7, ftL.getD k.val 0 = ((rfW (fcW k.val) : Nat) : Int) := by decide +kernel
theorem kn65r1 {X : mXX} {d : Nat} {Q : Option mV → mS → Prop} {σ α : Nat → Nat → Int} (h : ∀ σ' α', Kp 2 σ α σ' α' → Q none (Zc5, σ', α')) : CaN X (d + 1) 65 [vR 1] (Zc4, σ, α) (1, 1000) Q := by
  refine kc65r1_0 ?_
  exact kc65r1_1 (h _ _ (Kp.nA (m := 2) (Kp.rf (n := 2) (σ := σ) (α := α)) (by decide)))
theorem kn39r15 {X : mXX} {d : Nat} {Q : Option mV → mS → Prop} {σ α : Nat → Nat → Int} (h : ∀ σ' α', Kp 16 σ α σ' α' → Q none (Zc62, σ', α')) : CaN X (d + 1) 39 [vR 15] (Zc61, σ, α) (2, 1032) Q := by
  refine kc39r15_0 ?_
  refine kc39r15_1 ?_
  exact kc39r15_2 (h _ _ (Kp.nA (m := 17) (Kp.nA (m := 16) (Kp.rf (n := 16) (σ := σ) (α := α)) (by decide)) (by decide)))
theorem kn39r18 {X : mXX} {d : Nat} {Q : Option mV → mS → Prop} {σ α : Nat → Nat → Int} (h : ∀ σ' α', Kp 19 σ α σ' α' → Q none (Zc65, σ', α')) : CaN X (d + 1) 39 [vR 18] (Zc64, σ, α) (2, 1032) Q := by
  refine kc39r18_0 ?_
  refine kc39r18_1 ?_
  exact kc39r18_2 (h _ _ (Kp.nA (m := 20) (Kp.nA (m := 19) (Kp.rf (n := 19) (σ := σ) (α := α)) (by decide)) (by decide)))
theorem kn0r4 {X : mXX} {d : Nat} {Q : Option mV → mS → Prop} {σ α : Nat → Nat → Int} (h : ∀ σ' α', Kp 4 σ α σ' α' → Q none (Zc47, σ', α')) : CaN X (d + 4) 0 [vR 4] (Zc46, σ, α) (16, 2252) Q := by
  refine kc0r4_0 ?_
  refine kc0r4_1 ?_
  refine kc0r4_2 ?_
  refine kc0r4_3 ?_
  refine kc0r4_4 ?_
  refine kc0r4_5 ?_
  refine kc0r4_6 ?_
  refine kc0r4_7 ?_
  refine kc0r4_8 ?_
  refine kc0r4_9 ?_
  refine kc0r4_10 (kn39r15 (d := d + 2) (fun σ1 α1 p1 => ?_))
  have ks1 := Kp.tr (Kp.nS (m := 15) (Kp.nA (m := 14) (Kp.nA (m := 13) (Kp.nA (m := 12) (Kp.nA (m := 11) (Kp.nA (m := 10) (Kp.nA (m := 9) (Kp.nA (m := 8) (Kp.nA (m := 7) (Kp.nA (m := 6) (Kp.nA (m := 5) (Kp.rf (n := 4) (σ := σ) (α := α)) (by decide)) (by decide)) (by decide)) (by decide)) (by decide)) (by decide)) (by decide)) (by decide)) (by decide)) (by decide)) (by decide)) p1 (by decide)
  refine kc0r4_11 ?_
  refine kc0r4_12 (kn39r18 (d := d + 2) (fun σ2 α2 p2 => ?_))
  have ks2 := Kp.tr (Kp.nS (m := 18) ks1 (by decide)) p2 (by decide)
  refine kc0r4_13 ?_
  refine kc0r4_14 (k_clear4 (d := d + 0) (fun σ3 α3 F3 E3 c1 c2 c3 c4 c5 => ?_))
  have ks3 := Kp.fr ks2 F3 E3 (by decide) (by decide)
  exact kc0r4_15 (h _ _ ks3)
theorem kn75r3 {X : mXX} {d : Nat} {Q : Option mV → mS → Prop} {σ α : Nat → Nat → Int} (h : ∀ σ' α', Kp 4 σ α σ' α' → Q none (Zc8, σ', α')) : CaN X (d + 5) 75 [vR 3, vR 1] (Zc7, σ, α) (19, 2283) Q := by
  refine kc75r3_0 (kn0r4 (d := d + 0) (fun σ1 α1 p1 => ?_))
  have ks1 := Kp.tr (Kp.nS (m := 4) (Kp.rf (n := 4) (σ := σ) (α := α)) (by decide)) p1 (by decide)
  refine kc75r3_1 ?_
  refine kc75r3_2 ?_
  refine kc75r3_3 ?_
  refine kc75r3_4 ?_
  exact kc75r3_5 (h _ _ (Kp.nA (m := 22) (Kp.nA (m := 21) ks1 (by decide)) (by decide)))
theorem kn39r34 {X : mXX} {d : Nat} {Q : Option mV → mS → Prop} {σ α : Nat → Nat → Int} (h : ∀ σ' α', Kp 35 σ α σ' α' → Q none (Zc79, σ', α')) : CaN X (d + 1) 39 [vR 34] (Zc78, σ, α) (2, 1032) Q := by
  refine kc39r34_0 ?_
  refine kc39r34_1 ?_
  exact kc39r34_2 (h _ _ (Kp.nA (m := 36) (Kp.nA (m := 35) (Kp.rf (n := 35) (σ := σ) (α := α)) (by decide)) (by decide)))
theorem kn39r37 {X : mXX} {d : Nat} {Q : Option mV → mS → Prop} {σ α : Nat → Nat → Int} (h : ∀ σ' α', Kp 38 σ α σ' α' → Q none (Zc82, σ', α')) : CaN X (d + 1) 39 [vR 37] (Zc81, σ, α) (2, 1032) Q := by
  refine kc39r37_0 ?_
  refine kc39r37_1 ?_
  exact kc39r37_2 (h _ _ (Kp.nA (m := 39) (Kp.nA (m := 38) (Kp.rf (n := 38) (σ := σ) (α := α)) (by decide)) (by decide)))
theorem kn0r23 {X : mXX} {d : Nat} {Q : Option mV → mS → Prop} {σ α : Nat → Nat → Int} (h : ∀ σ' α', Kp 23 σ α σ' α' → BF σ' α' → Q none (Zc11, σ', α')) : CaN X (d + 4) 0 [vR 23] (Zc10, σ, α) (16, 2252) Q := by
  refine kc0r23_0 ?_
  refine kc0r23_1 ?_
  refine kc0r23_2 ?_
  refine kc0r23_3 ?_
  refine kc0r23_4 ?_
  refine kc0r23_5 ?_
  refine kc0r23_6 ?_
  refine kc0r23_7 ?_
  refine kc0r23_8 ?_
  refine kc0r23_9 ?_
  refine kc0r23_10 (kn39r34 (d := d + 2) (fun σ1 α1 p1 => ?_))
  have ks1 := Kp.tr (Kp.nS (m := 34) (Kp.nA (m := 33) (Kp.nA (m := 32) (Kp.nA (m := 31) (Kp.nA (m := 30) (Kp.nA (m := 29) (Kp.nA (m := 28) (Kp.nA (m := 27) (Kp.nA (m := 26) (Kp.nA (m := 25) (Kp.nA (m := 24) (Kp.rf (n := 23) (σ := σ) (α := α)) (by decide)) (by decide)) (by decide)) (by decide)) (by decide)) (by decide)) (by decide)) (by decide)) (by decide)) (by decide)) (by decide)) p1 (by decide)
  refine kc0r23_11 ?_
  refine kc0r23_12 (kn39r37 (d := d + 2) (fun σ2 α2 p2 => ?_))
  have ks2 := Kp.tr (Kp.nS (m := 37) ks1 (by decide)) p2 (by decide)
  refine kc0r23_13 ?_
  refine kc0r23_14 (k_clear23 (d := d + 0) (fun σ3 α3 F3 E3 c1 c2 c3 c4 c5 => ?_))
  have ks3 := Kp.fr ks2 F3 E3 (by decide) (by decide)
  exact kc0r23_15 (h _ _ ks3 ⟨c1, c2, c3, c4, c5⟩)
theorem kn56r40 {X : mXX} {d : Nat} {Q : Option mV → mS → Prop} {σ α : Nat → Nat → Int} (h : ∀ σ' α', Kp 41 σ α σ' α' → Zs [47, 46, 45, 44, 43, 42, 41] α' → Q none (Zc14, σ', α')) : CaN X (d + 1) 56 [vR 40] (Zc13, σ, α) (7, 105) Q := by
  refine kc56r40_0 ?_
  refine kc56r40_1 ?_
  refine kc56r40_2 ?_
  refine kc56r40_3 ?_
  refine kc56r40_4 ?_
  refine kc56r40_5 ?_
  refine kc56r40_6 ?_
  exact kc56r40_7 (h _ _ (Kp.nA (m := 47) (Kp.nA (m := 46) (Kp.nA (m := 45) (Kp.nA (m := 44) (Kp.nA (m := 43) (Kp.nA (m := 42) (Kp.nA (m := 41) (Kp.rf (n := 41) (σ := σ) (α := α)) (by decide)) (by decide)) (by decide)) (by decide)) (by decide)) (by decide)) (by decide)) (Zs.s (m := 47) (Zs.s (m := 46) (Zs.s (m := 45) (Zs.s (m := 44) (Zs.s (m := 43) (Zs.s (m := 42) (Zs.s (m := 41) Zs.nil))))))))
theorem kn56r49 {X : mXX} {d : Nat} {Q : Option mV → mS → Prop} {σ α : Nat → Nat → Int} (h : ∀ σ' α', Kp 50 σ α σ' α' → Q none (Zc18, σ', α')) : CaN X (d + 1) 56 [vR 49] (Zc17, σ, α) (7, 105) Q := by
  refine kc56r49_0 ?_
  refine kc56r49_1 ?_
  refine kc56r49_2 ?_
  refine kc56r49_3 ?_
  refine kc56r49_4 ?_
  refine kc56r49_5 ?_
  refine kc56r49_6 ?_
  exact kc56r49_7 (h _ _ (Kp.nA (m := 56) (Kp.nA (m := 55) (Kp.nA (m := 54) (Kp.nA (m := 53) (Kp.nA (m := 52) (Kp.nA (m := 51) (Kp.nA (m := 50) (Kp.rf (n := 50) (σ := σ) (α := α)) (by decide)) (by decide)) (by decide)) (by decide)) (by decide)) (by decide)) (by decide)))
theorem kn56r57 {X : mXX} {d : Nat} {Q : Option mV → mS → Prop} {σ α : Nat → Nat → Int} (h : ∀ σ' α', Kp 58 σ α σ' α' → Q none (Zc21, σ', α')) : CaN X (d + 1) 56 [vR 57] (Zc20, σ, α) (7, 105) Q := by
  refine kc56r57_0 ?_
  refine kc56r57_1 ?_
  refine kc56r57_2 ?_
  refine kc56r57_3 ?_
  refine kc56r57_4 ?_
  refine kc56r57_5 ?_
  refine kc56r57_6 ?_
  exact kc56r57_7 (h _ _ (Kp.nA (m := 64) (Kp.nA (m := 63) (Kp.nA (m := 62) (Kp.nA (m := 61) (Kp.nA (m := 60) (Kp.nA (m := 59) (Kp.nA (m := 58) (Kp.rf (n := 58) (σ := σ) (α := α)) (by decide)) (by decide)) (by decide)) (by decide)) (by decide)) (by decide)) (by decide)))
theorem kn56r65 {X : mXX} {d : Nat} {Q : Option mV → mS → Prop} {σ α : Nat → Nat → Int} (h : ∀ σ' α', Kp 66 σ α σ' α' → Q none (Zc24, σ', α')) : CaN X (d + 1) 56 [vR 65] (Zc23, σ, α) (7, 105) Q := by
  refine kc56r65_0 ?_
  refine kc56r65_1 ?_
  refine kc56r65_2 ?_
  refine kc56r65_3 ?_
  refine kc56r65_4 ?_
  refine kc56r65_5 ?_
  refine kc56r65_6 ?_
  exact kc56r65_7 (h _ _ (Kp.nA (m := 72) (Kp.nA (m := 71) (Kp.nA (m := 70) (Kp.nA (m := 69) (Kp.nA (m := 68) (Kp.nA (m := 67) (Kp.nA (m := 66) (Kp.rf (n := 66) (σ := σ) (α := α)) (by decide)) (by decide)) (by decide)) (by decide)) (by decide)) (by decide)) (by decide)))
theorem kn56r73 {X : mXX} {d : Nat} {Q : Option mV → mS → Prop} {σ α : Nat → Nat → Int} (h : ∀ σ' α', Kp 74 σ α σ' α' → Q none (Zc27, σ', α')) : CaN X (d + 1) 56 [vR 73] (Zc26, σ, α) (7, 105) Q := by
  refine kc56r73_0 ?_
  refine kc56r73_1 ?_
  refine kc56r73_2 ?_
  refine kc56r73_3 ?_
  refine kc56r73_4 ?_
  refine kc56r73_5 ?_
  refine kc56r73_6 ?_
  exact kc56r73_7 (h _ _ (Kp.nA (m := 80) (Kp.nA (m := 79) (Kp.nA (m := 78) (Kp.nA (m := 77) (Kp.nA (m := 76) (Kp.nA (m := 75) (Kp.nA (m := 74) (Kp.rf (n := 74) (σ := σ) (α := α)) (by decide)) (by decide)) (by decide)) (by decide)) (by decide)) (by decide)) (by decide)))
theorem kn52r81 {X : mXX} {d : Nat} {Q : Option mV → mS → Prop} {σ α : Nat → Nat → Int} (h : ∀ σ' α', Kp 82 σ α σ' α' → (∀ c, c < 1536 → α' 82 c = -1) → Q none (Zc30, σ', α')) : CaN X (d + 3) 52 [vR 81, vR 23] (Zc29, σ, α) (2, 1543) Q := by
  refine kc52r81_0 ?_
  refine kc52r81_1 ?_
  refine kc52r81_2 ?_
  refine kc52r81_3 (k_forget (d := d + 0) (fun α1 E1 f82 => ?_))
  have ks1 := Kp.fr (Z := []) (Kp.nA (m := 83) (Kp.nA (m := 82) (Kp.rf (n := 82) (σ := σ) (α := α)) (by decide)) (by decide)) Fσ.rf E1 (by decide) (by decide)
  exact kc52r81_4 (h _ _ ks1 f82)
theorem kn9r84 {X : mXX} {d : Nat} {Q : Option mV → mS → Prop} {σ α : Nat → Nat → Int} (h : ∀ σ' α', Kp 85 σ α σ' α' → Q none (Zc33, σ', α')) : CaN X (d + 1) 9 [vR 84, vR 23, vR 40, vR 81] (Zc32, σ, α) (1, 8) Q := by
  refine kc9r84_0 ?_
  refine kc9r84_1 ?_
  refine kc9r84_2 ?_
  refine kc9r84_3 ?_
  exact kc9r84_4 (h _ _ (Kp.nA (m := 85) (Kp.rf (n := 85) (σ := σ) (α := α)) (by decide)))
theorem kn45r86 {X : mXX} {d : Nat} {Q : Option mV → mS → Prop} {σ α : Nat → Nat → Int} (h : ∀ σ' α', Kp 87 σ α σ' α' → Q none (Zc36, σ', α')) : CaN X (d + 1) 45 [vR 86, vR 23, vR 40] (Zc35, σ, α) (3, 79) Q := by
  refine kc45r86_0 ?_
  refine kc45r86_1 ?_
  refine kc45r86_2 ?_
  refine kc45r86_3 ?_
  refine kc45r86_4 ?_
  exact kc45r86_5 (h _ _ (Kp.nA (m := 89) (Kp.nA (m := 88) (Kp.nA (m := 87) (Kp.rf (n := 87) (σ := σ) (α := α)) (by decide)) (by decide)) (by decide)))
theorem kn33r90 {X : mXX} {d : Nat} {Q : Option mV → mS → Prop} {σ α : Nat → Nat → Int} (h : ∀ σ' α', Kp 91 σ α σ' α' → Q none (Zc39, σ', α')) : CaN X (d + 1) 33 [vR 90, vR 23, vR 40, vR 84, vR 86] (Zc38, σ, α) (5, 3288) Q := by
  refine kc33r90_0 ?_
  refine kc33r90_1 ?_
  refine kc33r90_2 ?_
  refine kc33r90_3 ?_
  refine kc33r90_4 ?_
  refine kc33r90_5 ?_
  refine kc33r90_6 ?_
  refine kc33r90_7 ?_
  refine kc33r90_8 ?_
  exact kc33r90_9 (h _ _ (Kp.nA (m := 95) (Kp.nA (m := 94) (Kp.nA (m := 93) (Kp.nA (m := 92) (Kp.nA (m := 91) (Kp.rf (n := 91) (σ := σ) (α := α)) (by decide)) (by decide)) (by decide)) (by decide)) (by decide)))
theorem kn27r96 {X : mXX} {d : Nat} {Q : Option mV → mS → Prop} {σ α : Nat → Nat → Int} (h : ∀ σ' α', Kp 97 σ α σ' α' → Q none (Zc42, σ', α')) : CaN X (d + 1) 27 [vR 96, vR 23, vR 40, vR 81, vR 84] (Zc41, σ, α) (3, 47) Q := by
  refine kc27r96_0 ?_
  refine kc27r96_1 ?_
  refine kc27r96_2 ?_
  refine kc27r96_3 ?_
  refine kc27r96_4 ?_
  refine kc27r96_5 ?_
  refine kc27r96_6 ?_
  exact kc27r96_7 (h _ _ (Kp.nA (m := 99) (Kp.nA (m := 98) (Kp.nA (m := 97) (Kp.rf (n := 97) (σ := σ) (α := α)) (by decide)) (by decide)) (by decide)))
theorem kn61r100 {X : mXX} {d : Nat} {Q : Option mV → mS → Prop} {σ α : Nat → Nat → Int} (h : ∀ σ' α', Kp 101 σ α σ' α' → Q none (Zc45, σ', α')) : CaN X (d + 1) 61 [vR 100, vR 23, vR 40, vR 81, vR 84] (Zc44, σ, α) (3, 63) Q := by
  refine kc61r100_0 ?_
  refine kc61r100_1 ?_
  refine kc61r100_2 ?_
  refine kc61r100_3 ?_
  refine kc61r100_4 ?_
  refine kc61r100_5 ?_
  refine kc61r100_6 ?_
  exact kc61r100_7 (h _ _ (Kp.nA (m := 103) (Kp.nA (m := 102) (Kp.nA (m := 101) (Kp.rf (n := 101) (σ := σ) (α := α)) (by decide)) (by decide)) (by decide)))
theorem kn98r0 {X : mXX} {d : Nat} {Q : Option mV → mS → Prop} {σ α : Nat → Nat → Int} (h : ∀ σ' α', Kp 0 σ α σ' α' → CFx σ' α' → Q none (Zc1, σ', α')) : CaN X (d + 6) 98 [vR 0] (Zc0, σ, α) (103, 11209) Q := by
  refine kc98r0_0 (kn65r1 (d := d + 4) (fun σ1 α1 p1 => ?_))
  have ks1 := Kp.tr (Kp.nS (m := 1) (Kp.rf (n := 0) (σ := σ) (α := α)) (by decide)) p1 (by decide)
  have y1 : σ1 1 1 = 0 := by rw [(p1 1 (by decide)).1]; exact nF_s
  refine kc98r0_1 ?_
  refine kc98r0_2 (kn75r3 (d := d + 0) (fun σ2 α2 p2 => ?_))
  have ks2 := Kp.tr (Kp.nS (m := 3) ks1 (by decide)) p2 (by decide)
  have kc12 := Kp.tr (Kp.nS (m := 3) (Kp.rf (n := 2) (σ := σ1) (α := α1)) (by decide)) p2 (by decide)
  refine kc98r0_3 ?_
  refine kc98r0_4 (kn0r23 (d := d + 1) (fun σ3 α3 p3 x3 => ?_))
  have ks3 := Kp.tr (Kp.nS (m := 23) ks2 (by decide)) p3 (by decide)
  have kc13 := Kp.tr (Kp.nS (m := 23) kc12 (by decide)) p3 (by decide)
  refine kc98r0_5 ?_
  refine kc98r0_6 (kn56r40 (d := d + 4) (fun σ4 α4 p4 x4 => ?_))
  have ks4 := Kp.tr (Kp.nS (m := 40) ks3 (by decide)) p4 (by decide)
  have kc14 := Kp.tr (Kp.nS (m := 40) kc13 (by decide)) p4 (by decide)
  have kc34 := Kp.tr (Kp.nS (m := 40) (Kp.rf (n := 40) (σ := σ3) (α := α3)) (by decide)) p4 (by decide)
  have y4 : σ4 40 1 = 0 := by rw [(p4 40 (by decide)).1]; exact nF_s
  refine kc98r0_7 ?_
  refine kc98r0_8 ?_
  refine kc98r0_9 ?_
  refine kc98r0_10 ?_
  refine kc98r0_11 (kn56r49 (d := d + 4) (fun σ5 α5 p5 => ?_))
  have ks5 := Kp.tr (Kp.nS (m := 49) ks4 (by decide)) p5 (by decide)
  have kc15 := Kp.tr (Kp.nS (m := 49) kc14 (by decide)) p5 (by decide)
  have kc35 := Kp.tr (Kp.nS (m := 49) kc34 (by decide)) p5 (by decide)
  have kc45 := Kp.tr (Kp.nS (m := 49) (Kp.rf (n := 48) (σ := σ4) (α := α4)) (by decide)) p5 (by decide)
  have y5 : σ5 49 0 = 0 := by rw [(p5 49 (by decide)).1]; exact nF_s
  refine kc98r0_12 ?_
  refine kc98r0_13 ?_
  refine kc98r0_14 (kn56r57 (d := d + 4) (fun σ6 α6 p6 => ?_))
  have ks6 := Kp.tr (Kp.nS (m := 57) ks5 (by decide)) p6 (by decide)
  have kc16 := Kp.tr (Kp.nS (m := 57) kc15 (by decide)) p6 (by decide)
  have kc36 := Kp.tr (Kp.nS (m := 57) kc35 (by decide)) p6 (by decide)
  have kc46 := Kp.tr (Kp.nS (m := 57) kc45 (by decide)) p6 (by decide)
  have kc56 := Kp.tr (Kp.nS (m := 57) (Kp.rf (n := 50) (σ := σ5) (α := α5)) (by decide)) p6 (by decide)
  have y6 : σ6 57 0 = 0 := by rw [(p6 57 (by decide)).1]; exact nF_s
  refine kc98r0_15 ?_
  refine kc98r0_16 ?_
  refine kc98r0_17 (kn56r65 (d := d + 4) (fun σ7 α7 p7 => ?_))
  have ks7 := Kp.tr (Kp.nS (m := 65) ks6 (by decide)) p7 (by decide)
  have kc17 := Kp.tr (Kp.nS (m := 65) kc16 (by decide)) p7 (by decide)
  have kc37 := Kp.tr (Kp.nS (m := 65) kc36 (by decide)) p7 (by decide)
  have kc47 := Kp.tr (Kp.nS (m := 65) kc46 (by decide)) p7 (by decide)
  have kc57 := Kp.tr (Kp.nS (m := 65) kc56 (by decide)) p7 (by decide)
  have kc67 := Kp.tr (Kp.nS (m := 65) (Kp.rf (n := 58) (σ := σ6) (α := α6)) (by decide)) p7 (by decide)
  have y7 : σ7 65 0 = 0 := by rw [(p7 65 (by decide)).1]; exact nF_s
  refine kc98r0_18 ?_
  refine kc98r0_19 ?_
  refine kc98r0_20 (kn56r73 (d := d + 4) (fun σ8 α8 p8 => ?_))
  have ks8 := Kp.tr (Kp.nS (m := 73) ks7 (by decide)) p8 (by decide)
  have kc18 := Kp.tr (Kp.nS (m := 73) kc17 (by decide)) p8 (by decide)
  have kc38 := Kp.tr (Kp.nS (m := 73) kc37 (by decide)) p8 (by decide)
  have kc48 := Kp.tr (Kp.nS (m := 73) kc47 (by decide)) p8 (by decide)
  have kc58 := Kp.tr (Kp.nS (m := 73) kc57 (by decide)) p8 (by decide)
  have kc68 := Kp.tr (Kp.nS (m := 73) kc67 (by decide)) p8 (by decide)
  have kc78 := Kp.tr (Kp.nS (m := 73) (Kp.rf (n := 66) (σ := σ7) (α := α7)) (by decide)) p8 (by decide)
  have y8 : σ8 73 0 = 0 := by rw [(p8 73 (by decide)).1]; exact nF_s
  refine kc98r0_21 ?_
  refine kc98r0_22 ?_
  refine kc98r0_23 (kn52r81 (d := d + 2) (fun σ9 α9 p9 x9 => ?_))
  have ks9 := Kp.tr (Kp.nS (m := 81) ks8 (by decide)) p9 (by decide)
  have kc19 := Kp.tr (Kp.nS (m := 81) kc18 (by decide)) p9 (by decide)
  have kc39 := Kp.tr (Kp.nS (m := 81) kc38 (by decide)) p9 (by decide)
  have kc49 := Kp.tr (Kp.nS (m := 81) kc48 (by decide)) p9 (by decide)
  have kc59 := Kp.tr (Kp.nS (m := 81) kc58 (by decide)) p9 (by decide)
  have kc69 := Kp.tr (Kp.nS (m := 81) kc68 (by decide)) p9 (by decide)
  have kc79 := Kp.tr (Kp.nS (m := 81) kc78 (by decide)) p9 (by decide)
  have kc89 := Kp.tr (Kp.nS (m := 81) (Kp.rf (n := 74) (σ := σ8) (α := α8)) (by decide)) p9 (by decide)
  refine kc98r0_24 ?_
  refine kc98r0_25 (kn9r84 (d := d + 4) (fun σ10 α10 p10 => ?_))
  have ks10 := Kp.tr (Kp.nS (m := 84) ks9 (by decide)) p10 (by decide)
  have kc110 := Kp.tr (Kp.nS (m := 84) kc19 (by decide)) p10 (by decide)
  have kc310 := Kp.tr (Kp.nS (m := 84) kc39 (by decide)) p10 (by decide)
  have kc410 := Kp.tr (Kp.nS (m := 84) kc49 (by decide)) p10 (by decide)
  have kc510 := Kp.tr (Kp.nS (m := 84) kc59 (by decide)) p10 (by decide)
  have kc610 := Kp.tr (Kp.nS (m := 84) kc69 (by decide)) p10 (by decide)
  have kc710 := Kp.tr (Kp.nS (m := 84) kc79 (by decide)) p10 (by decide)
  have kc810 := Kp.tr (Kp.nS (m := 84) kc89 (by decide)) p10 (by decide)
  have kc910 := Kp.tr (Kp.nS (m := 84) (Kp.rf (n := 84) (σ := σ9) (α := α9)) (by decide)) p10 (by decide)
  refine kc98r0_26 ?_
  refine kc98r0_27 (kn45r86 (d := d + 4) (fun σ11 α11 p11 => ?_))
  have ks11 := Kp.tr (Kp.nS (m := 86) ks10 (by decide)) p11 (by decide)
  have kc111 := Kp.tr (Kp.nS (m := 86) kc110 (by decide)) p11 (by decide)
  have kc311 := Kp.tr (Kp.nS (m := 86) kc310 (by decide)) p11 (by decide)
  have kc411 := Kp.tr (Kp.nS (m := 86) kc410 (by decide)) p11 (by decide)
  have kc511 := Kp.tr (Kp.nS (m := 86) kc510 (by decide)) p11 (by decide)
  have kc611 := Kp.tr (Kp.nS (m := 86) kc610 (by decide)) p11 (by decide)
  have kc711 := Kp.tr (Kp.nS (m := 86) kc710 (by decide)) p11 (by decide)
  have kc811 := Kp.tr (Kp.nS (m := 86) kc810 (by decide)) p11 (by decide)
  have kc911 := Kp.tr (Kp.nS (m := 86) kc910 (by decide)) p11 (by decide)
  refine kc98r0_28 ?_
  refine kc98r0_29 (kn33r90 (d := d + 4) (fun σ12 α12 p12 => ?_))
  have ks12 := Kp.tr (Kp.nS (m := 90) ks11 (by decide)) p12 (by decide)
  have kc112 := Kp.tr (Kp.nS (m := 90) kc111 (by decide)) p12 (by decide)
  have kc312 := Kp.tr (Kp.nS (m := 90) kc311 (by decide)) p12 (by decide)
  have kc412 := Kp.tr (Kp.nS (m := 90) kc411 (by decide)) p12 (by decide)
  have kc512 := Kp.tr (Kp.nS (m := 90) kc511 (by decide)) p12 (by decide)
  have kc612 := Kp.tr (Kp.nS (m := 90) kc611 (by decide)) p12 (by decide)
  have kc712 := Kp.tr (Kp.nS (m := 90) kc711 (by decide)) p12 (by decide)
  have kc812 := Kp.tr (Kp.nS (m := 90) kc811 (by decide)) p12 (by decide)
  have kc912 := Kp.tr (Kp.nS (m := 90) kc911 (by decide)) p12 (by decide)
  refine kc98r0_30 ?_
  refine kc98r0_31 (kn27r96 (d := d + 4) (fun σ13 α13 p13 => ?_))
  have ks13 := Kp.tr (Kp.nS (m := 96) ks12 (by decide)) p13 (by decide)
  have kc113 := Kp.tr (Kp.nS (m := 96) kc112 (by decide)) p13 (by decide)
  have kc313 := Kp.tr (Kp.nS (m := 96) kc312 (by decide)) p13 (by decide)
  have kc413 := Kp.tr (Kp.nS (m := 96) kc412 (by decide)) p13 (by decide)
  have kc513 := Kp.tr (Kp.nS (m := 96) kc512 (by decide)) p13 (by decide)
  have kc613 := Kp.tr (Kp.nS (m := 96) kc612 (by decide)) p13 (by decide)
  have kc713 := Kp.tr (Kp.nS (m := 96) kc712 (by decide)) p13 (by decide)
  have kc813 := Kp.tr (Kp.nS (m := 96) kc812 (by decide)) p13 (by decide)
  have kc913 := Kp.tr (Kp.nS (m := 96) kc912 (by decide)) p13 (by decide)
  refine kc98r0_32 ?_
  refine kc98r0_33 (kn61r100 (d := d + 4) (fun σ14 α14 p14 => ?_))
  have ks14 := Kp.tr (Kp.nS (m := 100) ks13 (by decide)) p14 (by decide)
  have kc114 := Kp.tr (Kp.nS (m := 100) kc113 (by decide)) p14 (by decide)
  have kc314 := Kp.tr (Kp.nS (m := 100) kc313 (by decide)) p14 (by decide)
  have kc414 := Kp.tr (Kp.nS (m := 100) kc413 (by decide)) p14 (by decide)
  have kc514 := Kp.tr (Kp.nS (m := 100) kc513 (by decide)) p14 (by decide)
  have kc614 := Kp.tr (Kp.nS (m := 100) kc613 (by decide)) p14 (by decide)
  have kc714 := Kp.tr (Kp.nS (m := 100) kc713 (by decide)) p14 (by decide)
  have kc814 := Kp.tr (Kp.nS (m := 100) kc813 (by decide)) p14 (by decide)
  have kc914 := Kp.tr (Kp.nS (m := 100) kc913 (by decide)) p14 (by decide)
  refine kc98r0_34 ?_
  have w1 := congrFun (kc114 1 (by decide)).1 1
  have w40 := congrFun (kc414 40 (by decide)).1 1
  have w49 := congrFun (kc514 49 (by decide)).1 0
  have w57 := congrFun (kc614 57 (by decide)).1 0
  have w65 := congrFun (kc714 65 (by decide)).1 0
  have w73 := congrFun (kc814 73 (by decide)).1 0
  exact kc98r0_35 (h _ _ ks14 ⟨w1.trans y1, BF.kp x3 kc314, w40.trans y4, Zs.kp x4 kc414 (by decide), ⟨w49.trans y5, w57.trans y6, w65.trans y7, w73.trans y8⟩, fun c hc => (congrFun (kc914 82 (by decide)).2 c).trans (x9 c hc)⟩)
theorem kn127r104 {X : mXX} {d : Nat} {Q : Option mV → mS → Prop} {σ α : Nat → Nat → Int} (h : ∀ σ' α', Kp 105 σ α σ' α' → MFa α' → Q none (Zc3, σ', α')) : CaN X (d + 2) 127 [vR 104] (Zc2, σ, α) (22, 23157) Q := by
  refine kc127r104_0 ?_
  refine kc127r104_1 ?_
  refine kc127r104_2 ?_
  refine kc127r104_3 ?_
  refine kc127r104_4 ?_
  refine kc127r104_5 ?_
  refine kc127r104_6 ?_
  refine kc127r104_7 ?_
  refine kc127r104_8 ?_
  refine kc127r104_9 ?_
  refine kc127r104_10 ?_
  refine kc127r104_11 ?_
  refine kc127r104_12 ?_
  refine kc127r104_13 ?_
  refine kc127r104_14 ?_
  refine kc127r104_15 ?_
  refine kc127r104_16 ?_
  refine kc127r104_17 ?_
  refine kc127r104_18 ?_
  refine kc127r104_19 ?_
  refine kc127r104_20 ?_
  refine kc127r104_21 ?_
  refine kc127r104_22 ?_
  refine kc127r104_23 ?_
  refine kc127r104_24 ?_
  refine kc127r104_25 ?_
  refine kc127r104_26 ?_
  refine kc127r104_27 ?_
  refine kc127r104_28 (k_stands (d := d + 0) (fun α1 E1 z0 => ?_))
  have ks1 := Kp.fr (Z := []) (Kp.nA (m := 126) (Kp.nA (m := 125) (Kp.nA (m := 124) (Kp.nA (m := 123) (Kp.nA (m := 122) (Kp.nA (m := 121) (Kp.nA (m := 120) (Kp.nA (m := 119) (Kp.nA (m := 118) (Kp.nA (m := 117) (Kp.nA (m := 116) (Kp.nA (m := 115) (Kp.uA (a := 114) (Kp.uA (a := 114) (Kp.uA (a := 114) (Kp.uA (a := 114) (Kp.uA (a := 114) (Kp.uA (a := 114) (Kp.uA (a := 114) (Kp.nA (m := 114) (Kp.nA (m := 113) (Kp.nA (m := 112) (Kp.nA (m := 111) (Kp.nA (m := 110) (Kp.uA (a := 109) (Kp.uA (a := 109) (Kp.uA (a := 109) (Kp.uA (a := 109) (Kp.uA (a := 109) (Kp.uA (a := 109) (Kp.uA (a := 109) (Kp.uA (a := 109) (Kp.uA (a := 109) (Kp.uA (a := 109) (Kp.uA (a := 109) (Kp.uA (a := 109) (Kp.uA (a := 109) (Kp.uA (a := 109) (Kp.uA (a := 109) (Kp.uA (a := 109) (Kp.uA (a := 109) (Kp.uA (a := 109) (Kp.uA (a := 109) (Kp.uA (a := 109) (Kp.uA (a := 109) (Kp.uA (a := 109) (Kp.uA (a := 109) (Kp.uA (a := 109) (Kp.uA (a := 109) (Kp.uA (a := 109) (Kp.uA (a := 109) (Kp.uA (a := 109) (Kp.uA (a := 109) (Kp.nA (m := 109) (Kp.nA (m := 108) (Kp.nA (m := 107) (Kp.nA (m := 106) (Kp.nA (m := 105) (Kp.rf (n := 105) (σ := σ) (α := α)) (by decide)) (by decide)) (by decide)) (by decide)) (by decide)) (by decide)) (by decide)) (by decide)) (by decide)) (by decide)) (by decide)) (by decide)) (by decide)) (by decide)) (by decide)) (by decide)) (by decide)) (by decide)) (by decide)) (by decide)) (by decide)) (by decide)) (by decide)) (by decide)) (by decide)) (by decide)) (by decide)) (by decide)) (by decide)) (by decide)) (by decide)) (by decide)) (by decide)) (by decide)) (by decide)) (by decide)) (by decide)) (by decide)) (by decide)) (by decide)) (by decide)) (by decide)) (by decide)) (by decide)) (by decide)) (by decide)) (by decide)) (by decide)) (by decide)) (by decide)) (by decide)) (by decide)) (by decide)) (by decide)) (by decide)) (by decide)) (by decide)) (by decide)) Fσ.rf E1 (by decide) (by decide)
  have zm1 := Zs.fr (L := [124, 117]) (Zs.n (m := 126) (Zs.n (m := 125) (Zs.s (m := 124) (Zs.n (m := 123) (Zs.n (m := 122) (Zs.n (m := 121) (Zs.n (m := 120) (Zs.n (m := 119) (Zs.n (m := 118) (Zs.s (m := 117) (Zs.n (m := 116) (Zs.n (m := 115) (Zs.u (a := 114) (Zs.u (a := 114) (Zs.u (a := 114) (Zs.u (a := 114) (Zs.u (a := 114) (Zs.u (a := 114) (Zs.u (a := 114) (Zs.n (m := 114) (Zs.n (m := 113) (Zs.n (m := 112) (Zs.n (m := 111) (Zs.n (m := 110) (Zs.u (a := 109) (Zs.u (a := 109) (Zs.u (a := 109) (Zs.u (a := 109) (Zs.u (a := 109) (Zs.u (a := 109) (Zs.u (a := 109) (Zs.u (a := 109) (Zs.u (a := 109) (Zs.u (a := 109) (Zs.u (a := 109) (Zs.u (a := 109) (Zs.u (a := 109) (Zs.u (a := 109) (Zs.u (a := 109) (Zs.u (a := 109) (Zs.u (a := 109) (Zs.u (a := 109) (Zs.u (a := 109) (Zs.u (a := 109) (Zs.u (a := 109) (Zs.u (a := 109) (Zs.u (a := 109) (Zs.u (a := 109) (Zs.u (a := 109) (Zs.u (a := 109) (Zs.u (a := 109) (Zs.u (a := 109) (Zs.u (a := 109) (Zs.n (m := 109) (Zs.n (m := 108) (Zs.n (m := 107) (Zs.n (m := 106) (Zs.n (m := 105) Zs.nil))))) (by decide)) (by decide)) (by decide)) (by decide)) (by decide)) (by decide)) (by decide)) (by decide)) (by decide)) (by decide)) (by decide)) (by decide)) (by decide)) (by decide)) (by decide)) (by decide)) (by decide)) (by decide)) (by decide)) (by decide)) (by decide)) (by decide)) (by decide)) (by decide)) (by decide)) (by decide)) (by decide)) (by decide)) (by decide))))))) (by decide)) (by decide)) (by decide)) (by decide)) (by decide)) (by decide)) (by decide)))))))))))))) E1 (by decide)
  have t91 := Tb.fr (c := 109) (l := hwL) (m := 29) (Tb.n (Tb.n (Tb.n (Tb.n (Tb.n (Tb.n (Tb.n (Tb.n (Tb.n (Tb.n (Tb.n (Tb.n (Tb.u (Tb.u (Tb.u (Tb.u (Tb.u (Tb.u (Tb.u (Tb.n (Tb.n (Tb.n (Tb.n (Tb.n (Tb.s (m := 28) (Tb.s (m := 27) (Tb.s (m := 26) (Tb.s (m := 25) (Tb.s (m := 24) (Tb.s (m := 23) (Tb.s (m := 22) (Tb.s (m := 21) (Tb.s (m := 20) (Tb.s (m := 19) (Tb.s (m := 18) (Tb.s (m := 17) (Tb.s (m := 16) (Tb.s (m := 15) (Tb.s (m := 14) (Tb.s (m := 13) (Tb.s (m := 12) (Tb.s (m := 11) (Tb.s (m := 10) (Tb.s (m := 9) (Tb.s (m := 8) (Tb.s (m := 7) (Tb.s (m := 6) (Tb.s (m := 5) (Tb.s (m := 4) (Tb.s (m := 3) (Tb.s (m := 2) (Tb.s (m := 1) (Tb.s (m := 0) Tb.z rfl) rfl) rfl) rfl) rfl) rfl) rfl) rfl) rfl) rfl) rfl) rfl) rfl) rfl) rfl) rfl) rfl) rfl) rfl) rfl) rfl) rfl) rfl) rfl) rfl) rfl) rfl) rfl) rfl) (by decide)) (by decide)) (by decide)) (by decide)) (by decide)) (by decide)) (by decide)) (by decide)) (by decide)) (by decide)) (by decide)) (by decide)) (by decide)) (by decide)) (by decide)) (by decide)) (by decide)) (by decide)) (by decide)) (by decide)) (by decide)) (by decide)) (by decide)) (by decide)) E1 (by decide)
  have t141 := Tb.fr (c := 114) (l := ftL) (m := 7) (Tb.n (Tb.n (Tb.n (Tb.n (Tb.n (Tb.n (Tb.n (Tb.n (Tb.n (Tb.n (Tb.n (Tb.n (Tb.s (m := 6) (Tb.s (m := 5) (Tb.s (m := 4) (Tb.s (m := 3) (Tb.s (m := 2) (Tb.s (m := 1) (Tb.s (m := 0) Tb.z rfl) rfl) rfl) rfl) rfl) rfl) rfl) (by decide)) (by decide)) (by decide)) (by decide)) (by decide)) (by decide)) (by decide)) (by decide)) (by decide)) (by decide)) (by decide)) (by decide)) E1 (by decide)
  refine kc127r104_29 (h _ _ (Kp.uA (a := 110) (Kp.uA (a := 110) ks1 (by decide)) (by decide)) ⟨fun j hj => ?_, ⟨fun w hw => ?_, fun k hk => ?_⟩, (Zs.u (a := 110) (Zs.u (a := 110) zm1 (by decide)) (by decide))⟩)
  · rw [up_a, up_a, z0 j hj]; rfl
  · have q := hw_ok ⟨w, hw⟩
    rw [up_o (by decide), up_o (by decide)]
    exact (t91 (rfW w) q.1).trans q.2
  · rw [up_o (by decide), up_o (by decide)]
    exact (t141 k hk).trans (ft_ok ⟨k, hk⟩)
theorem MFa.kp {n : Nat} {σ α σ' α' : Nat → Nat → Int} (h : MFa α) (k : Kp n σ α σ' α') (hn : 127 ≤ n) : MFa α' := by
  have g : ∀ i, i < 127 → α' i = α i := fun i hi => (k i (Nat.lt_of_lt_of_le hi hn)).2
  unfold MFa WDm
  rw [g 110 (by decide), g 109 (by decide), g 114 (by decide)]
  exact ⟨h.1, h.2.1, fun i hi j => by
    rw [g i ((by decide : ∀ i ∈ [124, 117], i < 127) i hi)]; exact h.2.2 i hi j⟩
theorem CFx.kp {σ α σ' α' : Nat → Nat → Int} (h : CFx σ α) (k : Kp 104 σ α σ' α') : CFx σ' α' := by
  refine ⟨?_, h.2.1.kp (fun i hi => k i (Nat.lt_trans hi (by decide))), ?_, h.2.2.2.1.kp k (by decide), ?_, ?_⟩
  · rw [(k 1 (by decide)).1]; exact h.1
  · rw [(k 40 (by decide)).1]; exact h.2.2.1
  · rw [(k 49 (by decide)).1, (k 57 (by decide)).1, (k 65 (by decide)).1, (k 73 (by decide)).1]; exact h.2.2.2.2.1
  · rw [(k 82 (by decide)).2]; exact h.2.2.2.2.2
theorem m0_c {c : Nat} (hc : c < 64) : m0R (10 + 3 * c) = 0 ∧ m0R (11 + 3 * c) = 0 ∧ m0R (12 + 3 * c) = 0 := by
  unfold m0R sa0
  refine ⟨?_, ?_, ?_⟩ <;> rw [if_neg (by omega), if_neg (by omega), if_neg (by omega), if_neg (by omega), if_neg (by omega), if_neg (by omega)]
theorem m0_l : ∀ k, k < 6 → m0R (290 + 3 * k) = 3 ∧ m0R (291 + 3 * k) = 20 ∧ m0R (292 + 3 * k) = 0 := by decide
theorem start_INX {σ α : Nat → Nat → Int} (C : CFx σ α) (M : MFa α) (t : σ 104 2 = 0) : INX σ α [(1, 10)] [(2, 3)] 0 := by
  obtain ⟨c1, ⟨b1, b2, b3, b4, b5⟩, c3, c4, c5, c6⟩ := C
  obtain ⟨m1, m2, m3⟩ := M
  have g : ∀ {j : Nat} {v : Int}, j < 320 → m0R j = v → α 110 j = v := fun hj e => (m1 _ hj).trans e
  have e2 : α 110 2 = 0 := g (by decide) (by decide)
  have w : WF (α 110) := by
    refine ⟨?_, ?_, ?_, ?_, ?_, ?_, fun c hc => ?_, fun b hb => ?_, fun k hk => ?_⟩
    · rw [g (j := 0) (v := 2) (by decide) (by decide)]; decide
    · rw [g (j := 1) (v := 2) (by decide) (by decide)]; decide
    · rw [e2]; decide
    · rw [g (j := 3) (v := 0) (by decide) (by decide)]; decide
    · rw [g (j := 4) (v := 10) (by decide) (by decide)]; decide
    · rw [g (j := 5) (v := 20) (by decide) (by decide)]; decide
    · rw [g (j := 10 + 3 * c) (by omega) (m0_c hc).1, g (j := 11 + 3 * c) (by omega) (m0_c hc).2.1, g (j := 12 + 3 * c) (by omega) (m0_c hc).2.2]; decide
    · rw [e2] at hb
      exact absurd hb (Int.not_lt.mpr (Int.natCast_nonneg _))
    · rw [g (j := 290 + 3 * k) (by omega) (m0_l k hk).1, g (j := 291 + 3 * k) (by omega) (m0_l k hk).2.1, g (j := 292 + 3 * k) (by omega) (m0_l k hk).2.2]; decide
  have R : Rep σ α (α 110) := by
    refine ⟨?_, ?_, ?_, ?_, ?_, ?_, fun c hc => ?_, fun b hb => ?_, fun k hk => ?_⟩
    · rw [b1.1, g (j := 0) (v := 2) (by decide) (by decide)]
    · rw [b1.2.1, g (j := 1) (v := 2) (by decide) (by decide)]
    · rw [b1.2.2.1, e2]
    · rw [b1.2.2.2.1, g (j := 4) (v := 10) (by decide) (by decide)]
    · rw [b1.2.2.2.2, g (j := 5) (v := 20) (by decide) (by decide)]
    · rw [c3, g (j := 3) (v := 0) (by decide) (by decide)]
    · rw [(b2 c hc).1, (b2 c hc).2, c4 41 (by decide) c, g (j := 10 + 3 * c) (by omega) (m0_c hc).1, g (j := 11 + 3 * c) (by omega) (m0_c hc).2.1, g (j := 12 + 3 * c) (by omega) (m0_c hc).2.2]; exact ⟨rfl, rfl, rfl⟩
    · rw [e2] at hb
      exact absurd hb (Int.not_lt.mpr (Int.natCast_nonneg _))
    · rw [(b3 k hk).1, (b3 k hk).2, c4 47 (by decide) k, g (j := 290 + 3 * k) (by omega) (m0_l k hk).1, g (j := 291 + 3 * k) (by omega) (m0_l k hk).2.1, g (j := 292 + 3 * k) (by omega) (m0_l k hk).2.2]; exact ⟨rfl, rfl, rfl⟩
  have z7 : ∀ m, α 117 m = 0 := m3 117 (by decide)
  have e6 : α 110 6 = -1 := g (by decide) (by decide)
  have e7 : α 110 7 = -1 := g (by decide) (by decide)
  refine ⟨⟨⟨⟨R, ⟨b4.2, b4.1⟩, ⟨b5.2, b5.1⟩, fun c hc => Or.inl (c6 c hc)⟩, w⟩, ⟨Or.inl ⟨by rw [e6]; decide, rfl⟩, ⟨Or.inl ⟨rfl, by decide, by decide, rfl⟩, by show 1 ≤ 1000; decide⟩⟩, ⟨Or.inl ⟨by rw [e7]; decide, rfl⟩, ⟨Or.inr (Or.inl ⟨rfl, by decide, by decide, rfl⟩), by show 1 ≤ 1000; decide⟩⟩, m3 124 (by decide) 0, ?_, ⟨MKr.z c5.1 (z7 0), MKr.z c5.2.1 (z7 1), MKr.z c5.2.2.1 (z7 2), MKr.z c5.2.2.2 (z7 3)⟩, TPE.z t c1⟩, m2, ⟨fun q => absurd q (by rw [e6]; decide), fun q => absurd q (by rw [e7]; decide)⟩⟩
  rw [g (j := 3) (v := 0) (by decide) (by decide)]; decide
theorem law_start {X : mXX} {d : Nat} {Q : Option mV → mS → Prop} {σ α : Nat → Nat → Int} (h : ∀ σ' α', INX σ' α' [(1, 10)] [(2, 3)] 0 → Go X (d + 6) 237 23 [some (vK 3), some (vR 0), some (vR 104), some (vR 127), some (vI 0), none, none] [] (S0, σ', α') (600896, 7258622) Q) : Go X (d + 6) 237 0 [some (vK 3), none, none, none, none, none, none] [] ([], σ, α) (601024, 7293034) Q := by
  refine kc237_0 (kn98r0 (d := d + 0) (fun σ1 α1 _ C1 => kc237_1 (kn127r104 (d := d + 4) (fun σ2 α2 p2 M2 => kc237_2 (h _ _ ?_)))))
  have k1 : Kp 104 σ1 α1 σ2 (nF α2 127) := Kp.nA (m := 127) (Kp.tr (Kp.nS (m := 104) (Kp.rf (n := 104)) (by decide)) p2 (by decide)) (by decide)
  refine start_INX (C1.kp k1) (M2.kp (σ := σ2) (σ' := σ2) (Kp.nA (n := 127) (m := 127) Kp.rf (by decide)) (by decide)) ?_
  rw [(p2 104 (by decide)).1]
  exact nF_s
