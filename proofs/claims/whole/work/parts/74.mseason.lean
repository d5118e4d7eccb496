/-! Seasons, in the reference -/
theorem bitT : ∀ x : Fin 128, ∀ b c : Fin 7, (0 ≤ iOr ((x.val : Nat) : Int) (iShl 1 ((b.val : Nat) : Int)) ∧ iOr ((x.val : Nat) : Int) (iShl 1 ((b.val : Nat) : Int)) < 128) ∧ iAnd (iShr (iOr ((x.val : Nat) : Int) (iShl 1 ((b.val : Nat) : Int))) ((c.val : Nat) : Int)) 1 = if b.val = c.val then 1 else iAnd (iShr ((x.val : Nat) : Int) ((c.val : Nat) : Int)) 1 := by decide +kernel
theorem bitT' {x : Int} {b c : Nat} (hx : 0 ≤ x ∧ x < 128) (hb : b < 7) (hc : c < 7) : (0 ≤ iOr x (iShl 1 (b : Int)) ∧ iOr x (iShl 1 (b : Int)) < 128) ∧ iAnd (iShr (iOr x (iShl 1 (b : Int))) (c : Int)) 1 = if b = c then 1 else iAnd (iShr x (c : Int)) 1 := by
  obtain ⟨n, hn⟩ := Int.eq_ofNat_of_zero_le hx.1
  subst hn
  exact bitT ⟨n, by omega⟩ ⟨b, hb⟩ ⟨c, hc⟩
theorem bitZ : ∀ c : Fin 7, iAnd (iShr 0 ((c.val : Nat) : Int)) 1 = 0 := by decide +kernel
/-- the bits of the boats that are lost up to an hour h and boats before b in it -/
def lbP (ρ : Nat → Int) (P : List (Int × Int)) (g : Int) (h b c : Nat) : Prop := lsP ρ P g c h ∨ (c < b ∧ ρ 5 < fcR ρ P 0 0 (h : Int) g c)
def lbX (ρ : Nat → Int) (P : List (Int × Int)) (g : Int) (h b : Nat) (x : Int) : Prop := (0 ≤ x ∧ x < 128) ∧ ∀ c : Nat, (c : Int) < ρ 2 → (lbP ρ P g h b c → iAnd (iShr x (c : Int)) 1 = 1) ∧ (¬ lbP ρ P g h b c → iAnd (iShr x (c : Int)) 1 = 0)
theorem lb_n {ρ : Nat → Int} {P : List (Int × Int)} {g : Int} {h b : Nat} {x : Int} (L : lbX ρ P g h b x) (q : ¬ ρ 5 < fcR ρ P 0 0 (h : Int) g b) : lbX ρ P g h (b + 1) x := by
  refine ⟨L.1, fun c hc => ?_⟩
  have e : lbP ρ P g h (b + 1) c ↔ lbP ρ P g h b c := by
    unfold lbP
    refine ⟨fun z => ?_, fun z => ?_⟩
    · rcases z with z | ⟨z1, z2⟩
      · exact Or.inl z
      · by_cases e : c = b
        · rw [e] at z2; exact absurd z2 q
        · exact Or.inr ⟨Nat.lt_of_le_of_ne (Nat.le_of_lt_succ z1) e, z2⟩
    · rcases z with z | ⟨z1, z2⟩
      · exact Or.inl z
      · exact Or.inr ⟨Nat.lt_succ_of_lt z1, z2⟩
  rw [e]
  exact L.2 c hc
theorem lb_y {ρ : Nat → Int} {P : List (Int × Int)} {g : Int} {h b : Nat} {x : Int} (w : WF ρ) (hb : (b : Int) < ρ 2) (L : lbX ρ P g h b x) (q : ρ 5 < fcR ρ P 0 0 (h : Int) g b) : lbX ρ P g h (b + 1) (iOr x (iShl 1 (b : Int))) := by
  have b7 := w.m7 hb
  refine ⟨(bitT' (c := 0) L.1 b7 (by decide)).1, fun c hc => ?_⟩
  have c7 := w.m7 hc
  rw [(bitT' (c := c) L.1 b7 c7).2]
  by_cases e : b = c
  · rw [if_pos e]
    refine ⟨fun _ => rfl, fun z => absurd (Or.inr ⟨by rw [e]; exact Nat.lt_succ_self c, by rw [← e]; exact q⟩) z⟩
  · rw [if_neg e]
    have e2 : lbP ρ P g h (b + 1) c ↔ lbP ρ P g h b c := by
      unfold lbP
      refine ⟨fun z => ?_, fun z => ?_⟩
      · rcases z with z | ⟨z1, z2⟩
        · exact Or.inl z
        · exact Or.inr ⟨Nat.lt_of_le_of_ne (Nat.le_of_lt_succ z1) (fun k => e k.symm), z2⟩
      · rcases z with z | ⟨z1, z2⟩
        · exact Or.inl z
        · exact Or.inr ⟨Nat.lt_succ_of_lt z1, z2⟩
    rw [e2]
    exact L.2 c hc
theorem lb_h {ρ : Nat → Int} {P : List (Int × Int)} {g : Int} {h b : Nat} {x : Int} (hb : ¬ (b : Int) < ρ 2) (L : lbX ρ P g h b x) : lbX ρ P g (h + 1) 0 x := by
  refine ⟨L.1, fun c hc => ?_⟩
  have e : lbP ρ P g (h + 1) 0 c ↔ lbP ρ P g h b c := by
    unfold lbP
    rw [ls_s]
    refine ⟨fun z => ?_, fun z => ?_⟩
    · rcases z with (z | z) | ⟨z, _⟩
      · exact Or.inl z
      · exact Or.inr ⟨by omega, z⟩
      · exact absurd z (Nat.not_lt_zero c)
    · rcases z with z | ⟨_, z⟩
      · exact Or.inl (Or.inl z)
      · exact Or.inl (Or.inr z)
  rw [e]
  exact L.2 c hc
theorem lb_0 {ρ : Nat → Int} {P : List (Int × Int)} {g : Int} (w : WF ρ) : lbX ρ P g 0 0 0 := by
  refine ⟨by decide, fun c hc => ⟨fun z => ?_, fun _ => bitZ ⟨c, w.m7 hc⟩⟩⟩
  rcases z with ⟨i, z, _⟩ | ⟨z, _⟩
  · exact absurd z (Nat.not_lt_zero i)
  · exact absurd z (Nat.not_lt_zero c)
/-- whether some link has torn before hour h, link k -/
def tdT (ρ : Nat → Int) (P : List (Int × Int)) (g : Int) (h k : Nat) : Prop := ∃ h' k' : Nat, (h' < h ∨ (h' = h ∧ k' < k)) ∧ ((k' + 1 : Nat) : Int) < ρ 2 ∧ ρ (292 + 3 * k') = 0 ∧ wtR ρ (fcR ρ P 0 0 (h' : Int) g) k' = 1
def tdX (ρ : Nat → Int) (P : List (Int × Int)) (g : Int) (h k : Nat) (x : Int) : Prop := (x = 1 ∧ tdT ρ P g h k) ∨ (x = 0 ∧ ¬ tdT ρ P g h k)
theorem tdT_s {ρ : Nat → Int} {P : List (Int × Int)} {g : Int} {h k : Nat} : tdT ρ P g h (k + 1) ↔ tdT ρ P g h k ∨ (((k + 1 : Nat) : Int) < ρ 2 ∧ ρ (292 + 3 * k) = 0 ∧ wtR ρ (fcR ρ P 0 0 (h : Int) g) k = 1) := by
  constructor
  · intro ⟨h', k', a, b⟩
    rcases a with a | ⟨a1, a2⟩
    · exact Or.inl ⟨h', k', Or.inl a, b⟩
    · by_cases e : k' = k
      · rw [a1, e] at b; exact Or.inr b
      · exact Or.inl ⟨h', k', Or.inr ⟨a1, Nat.lt_of_le_of_ne (Nat.le_of_lt_succ a2) e⟩, b⟩
  · intro z
    rcases z with ⟨h', k', a, b⟩ | z
    · refine ⟨h', k', ?_, b⟩
      rcases a with a | ⟨a1, a2⟩
      · exact Or.inl a
      · exact Or.inr ⟨a1, Nat.lt_succ_of_lt a2⟩
    · exact ⟨h, k, Or.inr ⟨rfl, Nat.lt_succ_self k⟩, z⟩
theorem tdX_h {ρ : Nat → Int} {P : List (Int × Int)} {g : Int} {h k : Nat} {x : Int} (hk : ¬ ((k + 1 : Nat) : Int) < ρ 2) (T : tdX ρ P g h k x) : tdX ρ P g (h + 1) 0 x := by
  have e : tdT ρ P g (h + 1) 0 ↔ tdT ρ P g h k := by
    constructor
    · intro ⟨h', k', a, b⟩
      rcases a with a | ⟨_, a⟩
      · refine ⟨h', k', ?_, b⟩
        by_cases e : h' = h
        · exact Or.inr ⟨e, by have := b.1; omega⟩
        · exact Or.inl (Nat.lt_of_le_of_ne (Nat.le_of_lt_succ a) e)
      · exact absurd a (Nat.not_lt_zero k')
    · intro ⟨h', k', a, b⟩
      refine ⟨h', k', Or.inl ?_, b⟩
      rcases a with a | ⟨a, _⟩
      · exact Nat.lt_succ_of_lt a
      · rw [a]; exact Nat.lt_succ_self h
  unfold tdX
  rw [e]
  exact T
theorem tdT_24 {ρ : Nat → Int} {P : List (Int × Int)} {g : Int} : tdT ρ P g 24 0 ↔ tdP ρ P g := by
  constructor
  · intro ⟨h', k', a, b⟩
    rcases a with a | ⟨_, a⟩
    · exact ⟨h', k', a, b⟩
    · exact absurd a (Nat.not_lt_zero k')
  · intro ⟨h', k', a, b⟩
    exact ⟨h', k', Or.inl a, b⟩
theorem tdX_i {ρ : Nat → Int} {P : List (Int × Int)} {g : Int} {x : Int} (T : tdX ρ P g 24 0 x) : x = tdI ρ P g := by
  rcases T with T | T
  · rw [T.1, td_1 (tdT_24.mp T.2)]
  · rw [T.1, td_0 (fun z => T.2 (tdT_24.mpr z))]
