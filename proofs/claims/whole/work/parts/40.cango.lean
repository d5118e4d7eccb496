/-! Whether a part can go, in the reference -/
theorem wrS {k : Nat} (h : k < 1000000) : wr ((k : Int) + 1) = ((k + 1 : Nat) : Int) := by rw [wr_of (by omega) (by omega)]; omega
theorem wrT {a j : Nat} (h : a + j < 1000000) : wr (((a + j : Nat) : Int) + 1) = ((a + (j + 1) : Nat) : Int) := by rw [wr_of (by omega) (by omega)]; omega
theorem wrN {k : Nat} (h : k < 1000000) : wr (k : Int) = (k : Int) := wr_of (by omega) (by omega)
def cg0 (ρ : Nat → Int) (a : Nat) (ex ey p : Int) (n : Nat) : Int := if ftN ρ a ex ey n = 1 ∧ ¬ (slN ρ a n = 1 ∧ p = 1) then 1 else 0
def cgR (ρ : Nat → Int) (a n : Nat) (dx dy v h : Int) : Int := if v ≤ 0 then 1 else cg0 ρ a (dx + wxR v) (dy + wyR v) (h.tmod 2) n
theorem wx_bd {v : Int} : -1 ≤ wxR v ∧ wxR v ≤ 1 := by
  unfold wxR
  split
  · decide
  · split <;> decide
theorem wy_bd {v : Int} : -1 ≤ wyR v ∧ wyR v ≤ 1 := by
  unfold wyR
  split
  · decide
  · split <;> decide
theorem cg001 {ρ : Nat → Int} {a n : Nat} {dx dy p : Int} : cg0 ρ a dx dy p n = 0 ∨ cg0 ρ a dx dy p n = 1 := by
  unfold cg0
  split
  · exact Or.inr rfl
  · exact Or.inl rfl
theorem cg01 {ρ : Nat → Int} {a n : Nat} {dx dy v h : Int} : cgR ρ a n dx dy v h = 0 ∨ cgR ρ a n dx dy v h = 1 := by
  unfold cgR
  split
  · exact Or.inr rfl
  · exact cg001
theorem nx1 {x dx sx : Int} (h1 : 0 ≤ x ∧ x < 8) (h2 : -1000 ≤ dx ∧ dx ≤ 1000) (h3 : -1 ≤ sx ∧ sx ≤ 1) : wr (wr (x + dx) + sx) = x + (dx + sx) := by
  rw [wr_of (x := x + dx) (by omega) (by omega), wr_of (by omega) (by omega)]; omega
theorem tm2 {h : Int} (hh : 0 ≤ h) : h.tmod 2 = 0 ∨ h.tmod 2 = 1 := by rw [Int.tmod_eq_emod_of_nonneg hh]; omega
theorem BW.x {ρ : Nat → Int} {b : Nat} (w : WF ρ) (h : BW ρ b) : 0 ≤ ρ (203 + 12 * b) ∧ ρ (203 + 12 * b) < 8 := ⟨h.2.1.1, by have := h.2.1.2; have := w.1.2; omega⟩
theorem BW.y {ρ : Nat → Int} {b : Nat} (w : WF ρ) (h : BW ρ b) : 0 ≤ ρ (204 + 12 * b) ∧ ρ (204 + 12 * b) < 8 := ⟨h.2.2.1.1, by have := h.2.2.1.2; have := w.2.1.2; omega⟩
theorem WF.m7 {ρ : Nat → Int} (w : WF ρ) {b : Nat} (h : (b : Int) < ρ 2) : b < 7 := by have := w.2.2.1.2; omega
theorem cg0_n {ρ : Nat → Int} {a j n : Nat} {ex ey p : Int} (hj : j ≤ n) (h : cg0 ρ a ex ey p j = 0) : cg0 ρ a ex ey p n = 0 := by
  unfold cg0 at h ⊢
  by_cases z : ftN ρ a ex ey n = 1 ∧ ¬ (slN ρ a n = 1 ∧ p = 1)
  · have : ftN ρ a ex ey j = 1 ∧ ¬ (slN ρ a j = 1 ∧ p = 1) := by
      refine ⟨?_, fun q => z.2 ⟨sl_yes hj q.1, q.2⟩⟩
      rcases ft01 (ρ := ρ) (a := a) (dx := ex) (dy := ey) (n := j) with f | f
      · have g := ft_no (n := n) (j := j) hj f
        rw [g] at z; exact absurd z.1 (by decide)
      · exact f
    rw [if_pos this] at h; exact absurd h (by decide)
  · rw [if_neg z]
theorem m_cgL {X : mXX} {d : Nat} {Q : Option mV → mS → Prop} {σ α : Nat → Nat → Int} {a n : Nat} {dx dy v h p : Int} (w : WF (α 110)) (hz : ((a + n : Nat) : Int) ≤ α 110 2) (hx : -1000 ≤ dx ∧ dx ≤ 1000) (hy : -1000 ≤ dy ∧ dy ≤ 1000) (hv : 0 < v) (hp : h.tmod 2 = p) (ht : p = 0 ∨ p = 1) (hn : 0 < n) (hQ : Q (some (vI (cg0 (α 110) a (dx + wxR v) (dy + wyR v) p n))) (S0, σ, α)) : ∀ (m j : Nat), j + m = n → Go X (d + 2) 185 6 [some (vR 104), some (vI (a : Int)), some (vI ((a + n - 1 : Nat) : Int)), some (vI dx), some (vI dy), some (vI v), some (vI h), some (vI (cg0 (α 110) a (dx + wxR v) (dy + wyR v) p j)), some (vI ((a + j : Nat) : Int))] [] (S0, σ, α) (0, 0) Q := by
  intro m
  induction m with
  | zero =>
    intro j hj
    have e : j = n := hj
    subst e
    have q0 : ((a + j - 1 : Nat) : Int) < ((a + j : Nat) : Int) := by clear hp ht hx hy hv hz; omega
    exact vc185_6 ⟨fun _ => ⟨cg001, hQ⟩, fun q => absurd q0 q⟩
  | succ m ih =>
    intro j hj
    have i1 := ih (j + 1) (by clear hp ht hx hy hv hz; omega)
    have hlt : ((a + j : Nat) : Int) < α 110 2 := by clear hp ht hx hy hv i1; omega
    have j7 : a + j < 7 := w.m7 hlt
    have ek := wrT (a := a) (j := j) (by clear hp ht hx hy hv i1 hz hlt; omega)
    have jb : 0 ≤ ((a + j : Nat) : Int) ∧ ((a + j : Nat) : Int) < 7 := by clear hp ht hx hy hv i1 hz hlt ek; omega
    have hle : ¬ ((a + n - 1 : Nat) : Int) < ((a + j : Nat) : Int) := by clear hp ht hx hy hv i1 hz hlt ek; omega
    have hb := w.b (b := a + j) hlt
    have x1 := nx1 (hb.x w) hx (wx_bd (v := v))
    have y1 := nx1 (hb.y w) hy (wy_bd (v := v))
    have go0 : cg0 (α 110) a (dx + wxR v) (dy + wyR v) p (j + 1) = 0 → Go X (d + 2) 185 6 [some (vR 104), some (vI (a : Int)), some (vI ((a + n - 1 : Nat) : Int)), some (vI dx), some (vI dy), some (vI v), some (vI h), some (vI 0), some (vI (wr (((a + j : Nat) : Int) + 1)))] [] (S0, σ, α) (0, 0) Q := by
      intro e; rw [e] at i1; rw [ek]; exact i1
    have go1 : cg0 (α 110) a (dx + wxR v) (dy + wyR v) p (j + 1) = 1 → Go X (d + 2) 185 6 [some (vR 104), some (vI (a : Int)), some (vI ((a + n - 1 : Nat) : Int)), some (vI dx), some (vI dy), some (vI v), some (vI h), some (vI 1), some (vI (wr (((a + j : Nat) : Int) + 1)))] [] (S0, σ, α) (0, 0) Q := by
      intro e; rw [e] at i1; rw [ek]; exact i1
    refine vc185_6 ⟨fun q => absurd q hle, fun _ => ⟨fun q => absurd hv q, fun _ => ⟨fun q => ?_, fun q => ?_⟩⟩⟩
    · exact go0 (cg0_n (Nat.le_succ j) q)
    · have hc : ftN (α 110) a (dx + wxR v) (dy + wyR v) j = 1 ∧ ¬ (slN (α 110) a j = 1 ∧ p = 1) := by
        by_cases z : ftN (α 110) a (dx + wxR v) (dy + wyR v) j = 1 ∧ ¬ (slN (α 110) a j = 1 ∧ p = 1)
        · exact z
        · exact absurd (show cg0 (α 110) a (dx + wxR v) (dy + wyR v) p j = 0 from if_neg z) q
      refine m_of jb ?_
      rw [oo1]
      refine vc185_30 ?_
      refine m_stepX ?_
      refine vc185_37 ?_
      refine m_of jb ?_
      rw [oo2]
      refine vc185_45 ?_
      refine m_stepY ?_
      refine vc185_53 ?_
      rw [x1, y1]
      refine m_isWater w ?_
      refine vc185_57 ⟨fun q1 => ?_, fun q1 => ?_⟩
      · refine go0 (if_neg (fun z => ?_))
        have f0 : ftN (α 110) a (dx + wxR v) (dy + wyR v) (j + 1) = 0 := if_pos q1
        rw [f0] at z
        exact absurd z.1 (by decide)
      · have f1 : ftN (α 110) a (dx + wxR v) (dy + wyR v) (j + 1) = 1 := (show ftN (α 110) a (dx + wxR v) (dy + wyR v) (j + 1) = ftN (α 110) a (dx + wxR v) (dy + wyR v) j from if_neg q1).trans hc.1
        refine m_of jb ?_
        rw [oo0]
        refine vc185_67 ⟨fun q2 => ?_, fun q2 => ⟨fun q3 => ?_, fun q3 => ?_⟩⟩
        · refine go1 (if_pos ⟨f1, ?_⟩)
          rw [show slN (α 110) a (j + 1) = slN (α 110) a j from if_neg q2]
          exact hc.2
        · rw [hp] at q3
          refine go0 (if_neg (fun z => z.2 ⟨if_pos q2, ht.resolve_left q3⟩))
        · rw [hp] at q3
          refine go1 (if_pos ⟨f1, fun z => ?_⟩)
          rw [q3] at z
          exact absurd z.2 (by decide)
theorem m_canGo {X : mXX} {d : Nat} {Q : Option mV → mS → Prop} {σ α : Nat → Nat → Int} {a n : Nat} {dx dy v h : Int} (w : WF (α 110)) (hz : ((a + n : Nat) : Int) ≤ α 110 2) (hn : 0 < n) (hx : -1000 ≤ dx ∧ dx ≤ 1000) (hy : -1000 ≤ dy ∧ dy ≤ 1000) (hh : 0 ≤ h) (hQ : Q (some (vI (cgR (α 110) a n dx dy v h))) (S0, σ, α)) : Ca X (d + 3) 185 [vR 104, vI (a : Int), vI ((a + n - 1 : Nat) : Int), vI dx, vI dy, vI v, vI h] (S0, σ, α) Q := by
  refine vc185_0 ?_
  by_cases hv : v ≤ 0
  · have e : cgR (α 110) a n dx dy v h = 1 := if_pos hv
    rw [e] at hQ
    have hv' : ¬ 0 < v := by clear hx hy hh hz; omega
    exact vc185_6 ⟨fun _ => ⟨Or.inr rfl, hQ⟩, fun _ => ⟨fun _ => ⟨Or.inr rfl, hQ⟩, fun q => absurd q hv'⟩⟩
  · rw [show cgR (α 110) a n dx dy v h = cg0 (α 110) a (dx + wxR v) (dy + wyR v) (h.tmod 2) n from if_neg hv] at hQ
    have hv' : 0 < v := by clear hx hy hh hz hQ; omega
    exact m_cgL w hz hx hy hv' rfl (tm2 hh) hn hQ n 0 (Nat.zero_add n)
