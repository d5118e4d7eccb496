def okCh (mi k : Nat) : Bool := match (mOps mi)[k]? with
  | some q => q.2.all (fun o => okOp mi o.1 o.2)
  | none => true
theorem okM_of {mi : Nat} (h : ∀ k, k < (mOps mi).length → okCh mi k = true) : okM mi = true := by
  unfold okM
  rw [List.all_eq_true]
  intro q hq
  obtain ⟨k, hk⟩ := List.getElem?_of_mem hq
  have h1 := h k (List.getElem?_eq_some_iff.mp hk).1
  unfold okCh at h1
  rw [hk] at h1
  exact h1
theorem okL0 : okCh 237 0 = true := by decide +kernel
theorem okL1 : okCh 237 1 = true := by decide +kernel
theorem okL2 : okCh 237 2 = true := by decide +kernel
theorem okL3 : okCh 237 3 = true := by decide +kernel
theorem okL4 : okCh 237 4 = true := by decide +kernel
theorem okL5 : okCh 237 5 = true := by decide +kernel
theorem okL6 : okCh 237 6 = true := by decide +kernel
theorem okL7 : okCh 237 7 = true := by decide +kernel
theorem okL8 : okCh 237 8 = true := by decide +kernel
