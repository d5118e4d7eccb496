/-! What can go -/
def slN (ρ : Nat → Int) (a : Nat) : Nat → Int
  | 0 => 0
  | n + 1 => if ρ (202 + 12 * (a + n)) = 1 then 1 else slN ρ a n
def ftN (ρ : Nat → Int) (a : Nat) (dx dy : Int) : Nat → Int
  | 0 => 1
  | n + 1 => if waR ρ (ρ (203 + 12 * (a + n)) + dx) (ρ (204 + 12 * (a + n)) + dy) = 0 then 0 else ftN ρ a dx dy n
theorem sl01 {ρ : Nat → Int} {a : Nat} : ∀ {n : Nat}, slN ρ a n = 0 ∨ slN ρ a n = 1
  | 0 => Or.inl rfl
  | n + 1 => by
    unfold slN
    split
    · exact Or.inr rfl
    · exact sl01
theorem ft01 {ρ : Nat → Int} {a : Nat} {dx dy : Int} : ∀ {n : Nat}, ftN ρ a dx dy n = 0 ∨ ftN ρ a dx dy n = 1
  | 0 => Or.inr rfl
  | n + 1 => by
    unfold ftN
    split
    · exact Or.inl rfl
    · exact ft01
theorem ft_no {ρ : Nat → Int} {a : Nat} {dx dy : Int} : ∀ {n j : Nat}, j ≤ n → ftN ρ a dx dy j = 0 → ftN ρ a dx dy n = 0
  | 0, j, h, e => by
    have : j = 0 := by omega
    rw [this] at e; exact e
  | n + 1, j, h, e => by
    by_cases hj : j = n + 1
    · rw [hj] at e; exact e
    · unfold ftN
      split
      · rfl
      · exact ft_no (n := n) (j := j) (by omega) e
theorem sl_yes {ρ : Nat → Int} {a : Nat} : ∀ {n j : Nat}, j ≤ n → slN ρ a j = 1 → slN ρ a n = 1
  | 0, j, h, e => by
    have : j = 0 := by omega
    rw [this] at e; exact e
  | n + 1, j, h, e => by
    by_cases hj : j = n + 1
    · rw [hj] at e; exact e
    · unfold slN
      split
      · rfl
      · exact sl_yes (n := n) (j := j) (by omega) e
theorem wa01 {ρ : Nat → Int} {x y : Int} : waR ρ x y = 0 ∨ waR ρ x y = 1 := by unfold waR; split <;> simp
theorem c_slow {X : mXX} {d : Nat} {Q : Option mV → mS → Prop} {σ α : Nat → Nat → Int} {ρ : Nat → Int} {a n : Nat} {h : Int} (R : Rep σ α ρ) (hz : ((a + n : Nat) : Int) ≤ ρ 2) (h7 : ρ 2 ≤ 7) (hn : 0 < n) (hh : 0 ≤ h ∧ h ≤ 1000000) (hQ : Q (some (vI (if slN ρ a n = 1 ∧ h.tmod 2 = 1 then 1 else 0))) (S0, σ, α)) : Ca X (d + 1) 18 [vR 84, vI (a : Int), vI ((a + n - 1 : Nat) : Int), vI h] (S0, σ, α) Q := by
  refine vc18_0 ?_
  have key : ∀ (m j : Nat), j + m = n → Go X d 18 6 [some (vR 84), some (vI (a : Int)), some (vI ((a + n - 1 : Nat) : Int)), some (vI h), some (vI (slN ρ a j)), some (vI ((a + j : Nat) : Int))] [] (S0, σ, α) (0, 0) Q := by
    intro m
    induction m with
    | zero =>
      intro j hj
      have : j = n := by omega
      subst this
      refine vc18_6 ⟨fun _ => ⟨fun q => ?_, fun q => ⟨fun q2 => ?_, fun q2 => ?_⟩⟩, fun q => absurd (show ((a + j - 1 : Nat) : Int) < ((a + j : Nat) : Int) by omega) q⟩
      · rw [if_neg (by omega)] at hQ; exact hQ
      · rw [an1H hh.1 hh.2] at q2; rw [if_neg (fun z => q2 z.2)] at hQ; exact hQ
      · rw [an1H hh.1 hh.2] at q2
        have : slN ρ a j = 1 := (sl01 (ρ := ρ) (a := a) (n := j)).resolve_left q
        rw [if_pos ⟨this, q2⟩] at hQ; exact hQ
    | succ m ih =>
      intro j hj
      have i1 := ih (j + 1) (by omega)
      have ek : wr (((a + j : Nat) : Int) + 1) = ((a + (j + 1) : Nat) : Int) := by rw [wr_of (by omega) (by omega)]; omega
      have m1 : mInA ((a + j : Nat) : Int) 7 := mInA_n (by omega)
      have rk := (R.b (b := a + j) (by omega)).1
      refine vc18_6 ⟨fun q => by omega, fun _ => ⟨fun q => ?_, fun q => ⟨m1, ?_⟩⟩⟩
      · rw [ek]
        have e1 : slN ρ a (j + 1) = 1 := sl_yes (j := j) (by omega) ((sl01 (ρ := ρ) (a := a) (n := j)).resolve_left q)
        rw [e1] at i1; exact i1
      · rw [Int.toNat_natCast, rk, ek]
        refine ⟨fun q2 => ?_, fun q2 => ?_⟩
        · rw [show slN ρ a (j + 1) = slN ρ a j from if_neg q2, q] at i1; exact i1
        · rw [show slN ρ a (j + 1) = 1 from if_pos q2] at i1; exact i1
  exact key n 0 (by omega)
theorem c_fits {X : mXX} {d : Nat} {Q : Option mV → mS → Prop} {σ α : Nat → Nat → Int} {ρ : Nat → Int} {a n : Nat} {dx dy : Int} (R : Rep σ α ρ) (w : WF ρ) (hz : ((a + n : Nat) : Int) ≤ ρ 2) (hn : 0 < n) (hd : (-1000 ≤ dx ∧ dx ≤ 1000) ∧ -1000 ≤ dy ∧ dy ≤ 1000) (hQ : Q (some (vI (ftN ρ a dx dy n))) (S0, σ, α)) : Ca X (d + 3) 19 [vR 84, vI (a : Int), vI ((a + n - 1 : Nat) : Int), vI dx, vI dy] (S0, σ, α) Q := by
  have h7 := w.n.2.2.1.2
  refine vc19_0 ?_
  have key : ∀ (m j : Nat), j + m = n → ftN ρ a dx dy j = 1 → Go X (d + 2) 19 3 [some (vR 84), some (vI (a : Int)), some (vI ((a + n - 1 : Nat) : Int)), some (vI dx), some (vI dy), some (vI ((a + j : Nat) : Int))] [] (S0, σ, α) (0, 0) Q := by
    intro m
    induction m with
    | zero =>
      intro j hj e
      have : j = n := by omega
      subst this
      refine vc19_3 ⟨fun _ => ?_, fun q => absurd (show ((a + j - 1 : Nat) : Int) < ((a + j : Nat) : Int) by omega) q⟩
      rw [e] at hQ; exact hQ
    | succ m ih =>
      intro j hj e
      have hlt : ((a + j : Nat) : Int) < ρ 2 := by clear hd; omega
      have j7 : a + j < 7 := by clear hd; omega
      have ek : wr (((a + j : Nat) : Int) + 1) = ((a + (j + 1) : Nat) : Int) := by clear hd; rw [wr_of (by omega) (by omega)]; omega
      have m1 : mInA ((a + j : Nat) : Int) 7 := mInA_n j7
      have rk := R.b (b := a + j) hlt
      have hb := w.b (b := a + j) hlt
      have b1 := hb.2.1
      have b2 := hb.2.2.1
      have w0 := w.1
      have w1 := w.2.1
      have ex : wr (ρ (203 + 12 * (a + j)) + dx) = ρ (203 + 12 * (a + j)) + dx := by clear hz hj rk ek; exact wr_of (by omega) (by omega)
      have ey : wr (ρ (204 + 12 * (a + j)) + dy) = ρ (204 + 12 * (a + j)) + dy := by clear hz hj rk ek; exact wr_of (by omega) (by omega)
      refine vc19_3 ⟨fun q => by omega, fun _ => ⟨m1, m1, ?_⟩⟩
      rw [Int.toNat_natCast, rk.2.1, rk.2.2.1, ex, ey]
      refine c_open R w ?_
      refine vc19_41 ⟨fun q => ?_, fun q => ?_⟩
      · rw [ek]
        refine ih (j + 1) (by omega) ?_
        rw [show ftN ρ a dx dy (j + 1) = ftN ρ a dx dy j from if_neg q]; exact e
      · have e9 : ftN ρ a dx dy n = 0 := ft_no (n := n) (j := j + 1) (by omega) (if_pos q)
        rw [e9] at hQ; exact hQ
  exact key n 0 (by omega) rfl
