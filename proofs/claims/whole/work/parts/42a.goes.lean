/-! All parts go -/
theorem nx0 {x s : Int} (h1 : 0 ≤ x ∧ x < 8) (h3 : -1 ≤ s ∧ s ≤ 1) : wr (x + s) = x + s := wr_of (by omega) (by omega)
theorem ixB {b : Nat} {k : Int} {c : Nat} (h : b < 7) (h0 : 0 ≤ k) (h1 : k < 12) (hc : ((202 + c : Nat) : Int) = 202 + k) : wr (wr (202 + wr (12 * (b : Int))) + k) = ((202 + c + 12 * b : Nat) : Int) := by
  rw [wr_of (x := 12 * (b : Int)) (by omega) (by omega), wr_of (x := 202 + 12 * (b : Int)) (by omega) (by omega), wr_of (by omega) (by omega)]; omega
theorem ixB1 {b : Nat} (h : b < 7) : wr (wr (202 + wr (12 * (b : Int))) + 1) = ((203 + 12 * b : Nat) : Int) := ixB (c := 1) h (by decide) (by decide) rfl
theorem ixB2 {b : Nat} (h : b < 7) : wr (wr (202 + wr (12 * (b : Int))) + 2) = ((204 + 12 * b : Nat) : Int) := ixB (c := 2) h (by decide) (by decide) rfl
theorem ixB8 {b : Nat} (h : b < 7) : wr (wr (202 + wr (12 * (b : Int))) + 8) = ((210 + 12 * b : Nat) : Int) := ixB (c := 8) h (by decide) (by decide) rfl
theorem ixB9 {b : Nat} (h : b < 7) : wr (wr (202 + wr (12 * (b : Int))) + 9) = ((211 + 12 * b : Nat) : Int) := ixB (c := 9) h (by decide) (by decide) rfl
theorem ixB10 {b : Nat} (h : b < 7) : wr (wr (202 + wr (12 * (b : Int))) + 10) = ((212 + 12 * b : Nat) : Int) := ixB (c := 10) h (by decide) (by decide) rfl
theorem ft_all {ρ : Nat → Int} {a : Nat} {dx dy : Int} : ∀ {n : Nat}, ftN ρ a dx dy n = 1 → ∀ b, a ≤ b → b < a + n → waR ρ (ρ (203 + 12 * b) + dx) (ρ (204 + 12 * b) + dy) = 1
  | 0, _, b, h1, h2 => absurd h2 (by omega)
  | n + 1, h, b, h1, h2 => by
    unfold ftN at h
    by_cases q : waR ρ (ρ (203 + 12 * (a + n)) + dx) (ρ (204 + 12 * (a + n)) + dy) = 0
    · rw [if_pos q] at h; exact absurd h (by decide)
    · rw [if_neg q] at h
      by_cases hb : b = a + n
      · rw [hb]; exact wa01.resolve_left q
      · exact ft_all h b h1 (by omega)
theorem ft_cg {ρ ρ' : Nat → Int} {a : Nat} {dx dy : Int} (hw : ∀ x y, waR ρ' x y = waR ρ x y) : ∀ {n : Nat}, (∀ b, a ≤ b → b < a + n → ρ' (203 + 12 * b) = ρ (203 + 12 * b) ∧ ρ' (204 + 12 * b) = ρ (204 + 12 * b)) → ftN ρ' a dx dy n = ftN ρ a dx dy n
  | 0, _ => rfl
  | n + 1, h => by
    unfold ftN
    rw [(h (a + n) (by omega) (by omega)).1, (h (a + n) (by omega) (by omega)).2, hw, ft_cg hw (n := n) (fun b p q => h b p (by omega))]
theorem sl_cg {ρ ρ' : Nat → Int} {a : Nat} : ∀ {n : Nat}, (∀ b, a ≤ b → b < a + n → ρ' (202 + 12 * b) = ρ (202 + 12 * b)) → slN ρ' a n = slN ρ a n
  | 0, _ => rfl
  | n + 1, h => by
    unfold slN
    rw [h (a + n) (by omega) (by omega), sl_cg (n := n) (fun b p q => h b p (by omega))]
theorem cg_cg {ρ ρ' : Nat → Int} {a n : Nat} {dx dy v h : Int} (hw : ∀ x y, waR ρ' x y = waR ρ x y) (h1 : ∀ b, a ≤ b → b < a + n → ρ' (203 + 12 * b) = ρ (203 + 12 * b) ∧ ρ' (204 + 12 * b) = ρ (204 + 12 * b)) (h2 : ∀ b, a ≤ b → b < a + n → ρ' (202 + 12 * b) = ρ (202 + 12 * b)) : cgR ρ' a n dx dy v h = cgR ρ a n dx dy v h := by
  unfold cgR cg0
  rw [ft_cg hw h1, sl_cg h2]
theorem fs_cg {ρ ρ' : Nat → Int} (h : ∀ k, k < 6 → ρ' (292 + 3 * k) = ρ (292 + 3 * k)) : ∀ {b : Nat}, b < 7 → fsN ρ' b = fsN ρ b
  | 0, _ => rfl
  | b + 1, hb => by
    unfold fsN
    rw [h b (by omega), fs_cg h (b := b) (by omega)]
theorem la_cg {ρ ρ' : Nat → Int} (h : ∀ k, k < 6 → ρ' (292 + 3 * k) = ρ (292 + 3 * k)) : ∀ {f b : Nat}, f + b < 7 → laN ρ' f b = laN ρ f b
  | 0, _, _ => rfl
  | f + 1, b, hb => by
    unfold laN
    rw [h b (by omega), la_cg h (f := f) (b := b + 1) (by omega)]
def dgN (ρ : Nat → Int) (b : Nat) : Int := cgR ρ (fsN ρ b) (szR ρ b) 0 0 (ρ (212 + 12 * fsN ρ b)) (ρ 3)
def dgx (ρ : Nat → Int) (b : Nat) : Int := if dgN ρ b = 1 then wxR (ρ (212 + 12 * fsN ρ b)) else 0
def dgy (ρ : Nat → Int) (b : Nat) : Int := if dgN ρ b = 1 then wyR (ρ (212 + 12 * fsN ρ b)) else 0
def goR (ρ : Nat → Int) (m j : Nat) : Int := if 202 ≤ j ∧ (j - 202) / 12 < m ∧ (j - 202) % 12 = 1 then ρ j + dgx ρ ((j - 202) / 12) else if 202 ≤ j ∧ (j - 202) / 12 < m ∧ (j - 202) % 12 = 2 then ρ j + dgy ρ ((j - 202) / 12) else ρ j
theorem goR_o {ρ : Nat → Int} {m j : Nat} (h : ¬ (202 ≤ j ∧ (j - 202) / 12 < m ∧ ((j - 202) % 12 = 1 ∨ (j - 202) % 12 = 2))) : goR ρ m j = ρ j := by
  unfold goR
  rw [if_neg (fun q => h ⟨q.1, q.2.1, Or.inl q.2.2⟩), if_neg (fun q => h ⟨q.1, q.2.1, Or.inr q.2.2⟩)]
theorem goR_x {ρ : Nat → Int} {m b : Nat} (h : b < m) : goR ρ m (203 + 12 * b) = ρ (203 + 12 * b) + dgx ρ b := by
  unfold goR
  have e : (203 + 12 * b - 202) / 12 = b := by omega
  rw [e, if_pos ⟨by omega, h, by omega⟩]
theorem goR_y {ρ : Nat → Int} {m b : Nat} (h : b < m) : goR ρ m (204 + 12 * b) = ρ (204 + 12 * b) + dgy ρ b := by
  unfold goR
  have e : (204 + 12 * b - 202) / 12 = b := by omega
  rw [e, if_neg (by omega), if_pos ⟨by omega, h, by omega⟩]
theorem goR_s {ρ : Nat → Int} {m j : Nat} : goR ρ (m + 1) j = if j = 204 + 12 * m then ρ j + dgy ρ m else if j = 203 + 12 * m then ρ j + dgx ρ m else goR ρ m j := by
  by_cases h1 : j = 204 + 12 * m
  · rw [if_pos h1, h1, goR_y (by omega)]
  · rw [if_neg h1]
    by_cases h2 : j = 203 + 12 * m
    · rw [if_pos h2, h2, goR_x (by omega)]
    · rw [if_neg h2]
      by_cases h3 : 202 ≤ j ∧ (j - 202) / 12 < m + 1 ∧ ((j - 202) % 12 = 1 ∨ (j - 202) % 12 = 2)
      · have h4 : (j - 202) / 12 < m := by omega
        unfold goR
        rcases h3.2.2 with q | q
        · rw [if_pos ⟨h3.1, h3.2.1, q⟩, if_pos ⟨h3.1, h4, q⟩]
        · rw [if_neg (by omega), if_pos ⟨h3.1, h3.2.1, q⟩, if_neg (by omega), if_pos ⟨h3.1, h4, q⟩]
      · rw [goR_o h3, goR_o (by omega)]
theorem goR_0 {ρ : Nat → Int} : goR ρ 0 = ρ := by funext j; exact goR_o (by omega)
theorem go_tld {ρ : Nat → Int} {m : Nat} (hm : m ≤ 7) : tld ρ (goR ρ m) := fun j h => goR_o (by unfold tldI at h; omega)
theorem dg_bd {ρ : Nat → Int} {b : Nat} : (-1 ≤ dgx ρ b ∧ dgx ρ b ≤ 1) ∧ -1 ≤ dgy ρ b ∧ dgy ρ b ≤ 1 := by
  unfold dgx dgy
  have h1 := wx_bd (v := ρ (212 + 12 * fsN ρ b))
  have h2 := wy_bd (v := ρ (212 + 12 * fsN ρ b))
  generalize wxR (ρ (212 + 12 * fsN ρ b)) = u at *
  generalize wyR (ρ (212 + 12 * fsN ρ b)) = v at *
  split
  · exact ⟨h1, h2⟩
  · decide
theorem w00 : wxR 0 = 0 ∧ wyR 0 = 0 := ⟨rfl, rfl⟩
theorem cg_wa {ρ : Nat → Int} (w : WF ρ) {a n : Nat} {v h : Int} (hv : 0 ≤ v) (hz : ((a + n : Nat) : Int) ≤ ρ 2) (c : cgR ρ a n 0 0 v h = 1) {b : Nat} (h1 : a ≤ b) (h2 : b < a + n) : waR ρ (ρ (203 + 12 * b) + wxR v) (ρ (204 + 12 * b) + wyR v) = 1 := by
  have hb : (b : Int) < ρ 2 := by omega
  unfold cgR at c
  by_cases q : v ≤ 0
  · have e : v = 0 := by omega
    rw [e, w00.1, w00.2, Int.add_zero, Int.add_zero]
    exact (w.b hb).wa
  · rw [if_neg q] at c
    unfold cg0 at c
    by_cases z : ftN ρ a (0 + wxR v) (0 + wyR v) n = 1 ∧ ¬ (slN ρ a n = 1 ∧ h.tmod 2 = 1)
    · have := ft_all z.1 b h1 h2
      rw [Int.zero_add, Int.zero_add] at this
      exact this
    · rw [if_neg z] at c; exact absurd c (by decide)
theorem dg_wa {ρ : Nat → Int} (w : WF ρ) {b : Nat} (hb : (b : Int) < ρ 2) : waR ρ (ρ (203 + 12 * b) + dgx ρ b) (ρ (204 + 12 * b) + dgy ρ b) = 1 := by
  have pn := part_n hb
  have ba := w.b (b := fsN ρ b) (by omega)
  unfold dgx dgy
  by_cases q : dgN ρ b = 1
  · rw [if_pos q, if_pos q]
    exact cg_wa w ba.2.2.2.2.2.2.2.2.2.2.1.1 pn.2.2.1 q pn.1 pn.2.1
  · rw [if_neg q, if_neg q, Int.add_zero, Int.add_zero]
    exact (w.b hb).wa
theorem go_wf {ρ : Nat → Int} (w : WF ρ) {m : Nat} (hm : m ≤ 7) : WF (goR ρ m) := by
  refine w.st (go_tld hm) (by rw [goR_o (by omega)]; exact w.2.2.2.1) (fun c hc => ?_) (fun b hb => ?_) (fun k hk => ?_)
  · rw [goR_o (by omega)]; exact ⟨(w.c hc).2.1, (w.c hc).2.2.1⟩
  · have b7 := w.m7 hb
    have hw := w.b hb
    rw [goR_o (j := 210 + 12 * b) (by omega), goR_o (j := 211 + 12 * b) (by omega), goR_o (j := 212 + 12 * b) (by omega)]
    refine ⟨?_, hw.2.2.2.2.2.2.2.2.1, hw.2.2.2.2.2.2.2.2.2.1, hw.2.2.2.2.2.2.2.2.2.2.1⟩
    by_cases h : b < m
    · rw [goR_x h, goR_y h]; exact dg_wa w hb
    · rw [goR_o (j := 203 + 12 * b) (by omega), goR_o (j := 204 + 12 * b) (by omega)]; exact hw.wa
  · rw [goR_o (by omega)]; exact (w.l hk).2.2
theorem go_st {ρ : Nat → Int} {a : Nat} : ∀ {n : Nat}, (∀ b, a ≤ b → b < a + n → dgx ρ b = 0 ∧ dgy ρ b = 0) → goR ρ (a + n) = goR ρ a
  | 0, _ => rfl
  | n + 1, h => by
    rw [← go_st (ρ := ρ) (a := a) (n := n) (fun b p q => h b p (by omega))]
    funext j
    rw [show a + (n + 1) = a + n + 1 from rfl, goR_s, (h (a + n) (by omega) (by omega)).1, (h (a + n) (by omega) (by omega)).2, Int.add_zero]
    by_cases h1 : j = 204 + 12 * (a + n)
    · rw [if_pos h1, goR_o (by omega)]
    · rw [if_neg h1]
      by_cases h2 : j = 203 + 12 * (a + n)
      · rw [if_pos h2, goR_o (by omega)]
      · rw [if_neg h2]
theorem prt.dg {ρ : Nat → Int} {a n b : Nat} (p : prt ρ a n) (h1 : a ≤ b) (h2 : b < a + n) : dgN ρ b = cgR ρ a n 0 0 (ρ (212 + 12 * a)) (ρ 3) ∧ dgx ρ b = (if cgR ρ a n 0 0 (ρ (212 + 12 * a)) (ρ 3) = 1 then wxR (ρ (212 + 12 * a)) else 0) ∧ dgy ρ b = (if cgR ρ a n 0 0 (ρ (212 + 12 * a)) (ρ 3) = 1 then wyR (ρ (212 + 12 * a)) else 0) := by
  have e1 := p.fs h1 h2
  have e2 := p.sz h1 h2
  unfold dgx dgy dgN
  rw [e1, e2]
  exact ⟨rfl, rfl, rfl⟩
theorem prt.nx {ρ : Nat → Int} {a n : Nat} (p : prt ρ a n) : ((a + n : Nat) : Int) = ρ 2 ∨ fsN ρ (a + n) = a + n := by
  rcases p.2.2.2.2 with h | h
  · exact Or.inl h
  · have := p.1
    obtain ⟨z, hz⟩ : ∃ z, a + n = z + 1 := ⟨a + n - 1, by omega⟩
    rw [hz] at h ⊢
    exact Or.inr (if_neg h)
theorem go_fs {ρ : Nat → Int} {m b : Nat} (hb : b < 7) (hm : m ≤ 7) : fsN (goR ρ m) b = fsN ρ b := fs_cg (fun k hk => goR_o (by omega)) hb
theorem go_la {ρ : Nat → Int} {m f b : Nat} (hb : f + b < 7) (hm : m ≤ 7) : laN (goR ρ m) f b = laN ρ f b := la_cg (fun k hk => goR_o (by omega)) hb
