/-! Orders of the boats -/
abbrev ST : Type := Int × (Nat → Int)
def fwR (ρ : Nat → Int) (P : List (Int × Int)) (row : Nat → Int) (b : Nat) : Int := frR ρ P (row b) (ρ (203 + 12 * b)) (ρ (204 + 12 * b)) (ρ 3) 0
def mxE (ρ F : Nat → Int) (n : Nat) : Nat → Int
  | 0 => -100000000
  | k + 1 => max (mxE ρ F n k) (exR ρ F 0 n k)
def ovR (ρ : Nat → Int) (P : List (Int × Int)) (n : Nat) (row : Nat → Int) : Int := mxE ρ (fwR ρ P row) n (n - 1)
def jdR (ρ : Nat → Int) (P : List (Int × Int)) (n : Nat) (row : Nat → Int) (s : ST) : ST := if ovR ρ P n row < s.1 then (ovR ρ P n row, row) else s
def lpB (f : Nat → ST → ST) : Nat → ST → ST
  | 0, s => s
  | k + 1, s => f k (lpB f k s)
def lyF (n : Nat) (J : (Nat → Int) → ST → ST) : Nat → Nat → Int → (Nat → Int) → ST → ST
  | 0, _, _, row, s => J row s
  | r + 1, pl, used, row, s => lpB (fun b t => if iAnd used (iShl 1 (b : Int)) = 0 then lyF n J r (pl + 1) (iOr used (iShl 1 (b : Int))) (upR row pl (b : Int)) t else t) n s
theorem lp_le {f : Nat → ST → ST} (h : ∀ k s, (f k s).1 ≤ s.1) : ∀ {n : Nat} {s : ST}, (lpB f n s).1 ≤ s.1
  | 0, _ => Int.le_refl _
  | n + 1, s => Int.le_trans (h n _) (lp_le h)
theorem ly_le {n : Nat} {J : (Nat → Int) → ST → ST} (hJ : ∀ r s, (J r s).1 ≤ s.1) : ∀ {r pl : Nat} {used : Int} {row : Nat → Int} {s : ST}, (lyF n J r pl used row s).1 ≤ s.1
  | 0, _, _, _, _ => hJ _ _
  | r + 1, pl, used, row, s => by
    refine lp_le (fun k t => ?_)
    show (if iAnd used (iShl 1 (k : Int)) = 0 then lyF n J r (pl + 1) (iOr used (iShl 1 (k : Int))) (upR row pl (k : Int)) t else t).1 ≤ t.1
    split
    · exact ly_le hJ
    · exact Int.le_refl _
theorem lp_at {f : Nat → ST → ST} (h : ∀ k s, (f k s).1 ≤ s.1) {K : Int} {p : Nat} (hp : ∀ s, (f p s).1 ≤ K) : ∀ {n : Nat} {s : ST}, p < n → (lpB f n s).1 ≤ K
  | 0, _, q => absurd q (Nat.not_lt_zero _)
  | n + 1, s, q => by
    by_cases e : p = n
    · rw [e] at hp; exact hp _
    · exact Int.le_trans (h n _) (lp_at h hp (by omega))
theorem ly_end {n : Nat} {J : (Nat → Int) → ST → ST} (hJ : ∀ r s, (J r s).1 ≤ s.1) {K : Int} (n7 : n ≤ 7) : ∀ {r pl : Nat} {row : Nat → Int} {s : ST}, pl + r = n → (∀ i, i < pl → row i = (i : Int)) → (∀ row s, (∀ i, i < n → row i = (i : Int)) → (J row s).1 ≤ K) → (lyF n J r pl (2 ^ pl - 1) row s).1 ≤ K
  | 0, pl, row, s, h, hr, hK => hK row s (fun i hi => hr i (by omega))
  | r + 1, pl, row, s, h, hr, hK => by
    have p7 : pl < 7 := by omega
    have bp := bitP ⟨pl, p7⟩
    refine lp_at (p := pl) (fun k t => ?_) (fun t => ?_) (by omega)
    · show (if iAnd (2 ^ pl - 1) (iShl 1 (k : Int)) = 0 then lyF n J r (pl + 1) (iOr (2 ^ pl - 1) (iShl 1 (k : Int))) (upR row pl (k : Int)) t else t).1 ≤ t.1
      split
      · exact ly_le hJ
      · exact Int.le_refl _
    · show (if iAnd (2 ^ pl - 1) (iShl 1 (pl : Int)) = 0 then lyF n J r (pl + 1) (iOr (2 ^ pl - 1) (iShl 1 (pl : Int))) (upR row pl (pl : Int)) t else t).1 ≤ K
      rw [if_pos bp.1, bp.2]
      refine ly_end hJ n7 (by omega) (fun i hi => ?_) hK
      by_cases e : i = pl
      · rw [e, upR_s]
      · rw [upR_n e]; exact hr i (by omega)
theorem mx_b {ρ F : Nat → Int} {n : Nat} (w : WF ρ) (n7 : n ≤ 7) (hF : ∀ b, b < n → 0 ≤ F b ∧ F b ≤ 99) : ∀ {k : Nat}, 0 < k → k + 1 ≤ n → -1000 ≤ mxE ρ F n k ∧ mxE ρ F n k ≤ 5000
  | 0, h, _ => absurd h (Nat.lt_irrefl _)
  | k + 1, _, hk => by
    have e := ex_bd (F := F) (a := 0) (n := n) (k := k) w (by omega) (by omega) (fun b _ q => hF b (by omega))
    show -1000 ≤ max (mxE ρ F n k) (exR ρ F 0 n k) ∧ max (mxE ρ F n k) (exR ρ F 0 n k) ≤ 5000
    rcases Nat.eq_zero_or_pos k with h | h
    · subst h
      show -1000 ≤ max (-100000000) (exR ρ F 0 n 0) ∧ max (-100000000) (exR ρ F 0 n 0) ≤ 5000
      generalize exR ρ F 0 n 0 = u at *
      omega
    · have ih := mx_b w n7 hF (k := k) h (by omega)
      generalize exR ρ F 0 n k = u at *
      generalize mxE ρ F n k = v at *
      omega
def rwB (ρ : Nat → Int) (row : Nat → Int) (n : Nat) : Prop := ∀ i, i < n → 0 ≤ row i ∧ row i < ρ 2
theorem fw_bd {ρ : Nat → Int} {P : List (Int × Int)} {row : Nat → Int} {n : Nat} (w : WF ρ) (h : rwB ρ row n) : ∀ b, b < n → 0 ≤ fwR ρ P row b ∧ fwR ρ P row b ≤ 99 := fun b hb => fr_bd (pul_le w (h b hb)).1
theorem jd_le {ρ : Nat → Int} {P : List (Int × Int)} {n : Nat} : ∀ r s, (jdR ρ P n r s).1 ≤ s.1 := fun r s => by
  unfold jdR
  by_cases h : ovR ρ P n r < s.1
  · rw [if_pos h]; exact Int.le_of_lt h
  · rw [if_neg h]; exact Int.le_refl _
theorem jd_K {ρ : Nat → Int} {P : List (Int × Int)} {n : Nat} (w : WF ρ) (hn : (n : Int) = ρ 2) (h2 : 2 ≤ n) (row : Nat → Int) (s : ST) (hr : ∀ i, i < n → row i = (i : Int)) : (jdR ρ P n row s).1 ≤ 5000 := by
  have n7 : n ≤ 7 := by have := w.2.2.1.2; omega
  have rb : rwB ρ row n := fun i hi => by rw [hr i hi]; omega
  have h := mx_b (k := n - 1) w n7 (fw_bd (P := P) w rb) (by omega) (by omega)
  unfold jdR
  by_cases q : ovR ρ P n row < s.1
  · rw [if_pos q]; exact h.2
  · rw [if_neg q]; exact Int.le_trans (Int.not_lt.mp q) h.2
