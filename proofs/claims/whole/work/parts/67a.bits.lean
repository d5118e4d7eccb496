/-! The best order in a storm -/
theorem bitS : ∀ x : Fin 128, ∀ b : Fin 7, (iAnd ((x.val : Nat) : Int) (iShl 1 ((b.val : Nat) : Int)) = 0 ↔ iAnd (iShr ((x.val : Nat) : Int) ((b.val : Nat) : Int)) 1 = 0) ∧ 0 ≤ iOr ((x.val : Nat) : Int) (iShl 1 ((b.val : Nat) : Int)) ∧ iOr ((x.val : Nat) : Int) (iShl 1 ((b.val : Nat) : Int)) < 128 := by decide +kernel
theorem bitS' {x : Int} {b : Nat} (hx : 0 ≤ x ∧ x < 128) (hb : b < 7) : (iAnd x (iShl 1 (b : Int)) = 0 ↔ iAnd (iShr x (b : Int)) 1 = 0) ∧ 0 ≤ iOr x (iShl 1 (b : Int)) ∧ iOr x (iShl 1 (b : Int)) < 128 := by
  obtain ⟨n, hn⟩ := Int.eq_ofNat_of_zero_le hx.1
  subst hn
  exact bitS ⟨n, by omega⟩ ⟨b, hb⟩
theorem bitP : ∀ p : Fin 7, iAnd (2 ^ p.val - 1 : Int) (iShl 1 ((p.val : Nat) : Int)) = 0 ∧ iOr (2 ^ p.val - 1 : Int) (iShl 1 ((p.val : Nat) : Int)) = (2 ^ (p.val + 1) - 1 : Int) := by decide +kernel
