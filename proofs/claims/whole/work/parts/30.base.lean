/-! What the proofs about runs share -/
theorem wr_of {x : Int} (h1 : -2147483648 ≤ x) (h2 : x < 2147483648) : wr x = x := by unfold wr; omega
theorem wl_of {x : Int} (h1 : -9223372036854775808 ≤ x) (h2 : x < 9223372036854775808) : wl x = x := by unfold wl; omega
/-- fields and rows that may differ -/
def Fσ (Z : List (Nat × Nat)) (σ σ' : Nat → Nat → Int) : Prop := ∀ a k, (a, k) ∉ Z → σ' a k = σ a k
def Fα (Z : List Nat) (α α' : Nat → Nat → Int) : Prop := ∀ a, a ∉ Z → α' a = α a
theorem Fσ.rf {Z : List (Nat × Nat)} {σ : Nat → Nat → Int} : Fσ Z σ σ := fun _ _ _ => rfl
theorem Fα.rf {Z : List Nat} {α : Nat → Nat → Int} : Fα Z α α := fun _ _ => rfl
theorem Fσ.tr {Z : List (Nat × Nat)} {σ σ' σ'' : Nat → Nat → Int} (h : Fσ Z σ σ') (h' : Fσ Z σ' σ'') : Fσ Z σ σ'' := fun a k q => (h' a k q).trans (h a k q)
theorem Fα.tr {Z : List Nat} {α α' α'' : Nat → Nat → Int} (h : Fα Z α α') (h' : Fα Z α' α'') : Fα Z α α'' := fun a q => (h' a q).trans (h a q)
theorem Fσ.wk {Z Z' : List (Nat × Nat)} {σ σ' : Nat → Nat → Int} (h : Fσ Z σ σ') (hz : ∀ q ∈ Z, q ∈ Z') : Fσ Z' σ σ' := fun a k q => h a k (fun z => q (hz _ z))
theorem Fα.wk {Z Z' : List Nat} {α α' : Nat → Nat → Int} (h : Fα Z α α') (hz : ∀ q ∈ Z, q ∈ Z') : Fα Z' α α' := fun a q => h a (fun z => q (hz _ z))
theorem Fσ.up {Z : List (Nat × Nat)} {σ : Nat → Nat → Int} {a k : Nat} {n : Int} (h : (a, k) ∈ Z) : Fσ Z σ (mUp σ a k n) := fun x y q => by
  unfold mUp
  by_cases hx : x = a
  · rw [if_pos hx]
    by_cases hy : y = k
    · exact absurd (by rw [hx, hy]; exact h) q
    · rw [if_neg hy]
  · rw [if_neg hx]
theorem Fα.up {Z : List Nat} {α : Nat → Nat → Int} {a k : Nat} {n : Int} (h : a ∈ Z) : Fα Z α (mUp α a k n) := fun x q => by
  funext y
  unfold mUp
  by_cases hx : x = a
  · exact absurd (by rw [hx]; exact h) q
  · rw [if_neg hx]
theorem Fα.cp {Z : List Nat} {α : Nat → Nat → Int} {a sp c dp n : Nat} (h : c ∈ Z) : Fα Z α (mCp α a sp c dp n) := fun x q => by
  funext y
  unfold mCp
  by_cases hx : x = c
  · exact absurd (by rw [hx]; exact h) q
  · rw [if_neg hx]
theorem up_s {f : Nat → Nat → Int} {a k : Nat} {n : Int} : mUp f a k n a k = n := by simp [mUp]
theorem up_n {f : Nat → Nat → Int} {a k x y : Nat} {n : Int} (h : ¬ (x = a ∧ y = k)) : mUp f a k n x y = f x y := by
  unfold mUp
  by_cases hx : x = a
  · rw [if_pos hx, if_neg (fun q => h ⟨hx, q⟩)]
  · rw [if_neg hx]
theorem up_a {f : Nat → Nat → Int} {a k y : Nat} {n : Int} : mUp f a k n a y = if y = k then n else f a y := by simp [mUp]
theorem up_o {f : Nat → Nat → Int} {a k x : Nat} {n : Int} (h : x ≠ a) : mUp f a k n x = f x := up_else h
theorem mInA_n {i n : Nat} (h : i < n) : mInA (i : Int) n := by unfold mInA; omega
theorem r32_wr {x : Int} (h : -2147483648 ≤ x ∧ x < 2147483648) : wr x = x := wr_of h.1 h.2
/-- a call's end in the shape that a caller sees -/
theorem aI_vI {n : Int} {K : Int → Prop} (h : K n) : aI (some (vI n)) K := h
theorem aL_vL {n : Int} {K : Int → Prop} (h : K n) : aL (some (vL n)) K := h
