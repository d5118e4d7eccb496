/-! The lines of a bay: what both sides make of them -/
abbrev bSt : Type := (Nat → Int) × (pRow × pRow) × (Nat × Nat × Nat) × (Nat → Nat)
abbrev bLn : Type := Int × Nat × bSt
def rU (ρ : Nat → Int) (j : Nat) (v : Int) (x : Nat) : Int := if x = j then v else ρ x
theorem rU_s {ρ : Nat → Int} {j : Nat} {v : Int} : rU ρ j v j = v := if_pos rfl
theorem rU_n {ρ : Nat → Int} {j x : Nat} {v : Int} (h : x ≠ j) : rU ρ j v x = ρ x := if_neg h
def btN (ρ : Nat → Int) (x y : Int) : Nat → Int
  | 0 => 0
  | n + 1 => if ρ (203 + 12 * n) = x ∧ ρ (204 + 12 * n) = y then 4 else btN ρ x y n
def lieR (ρ : Nat → Int) (x y : Int) : Int := ρ (10 + 3 * (8 * y + x).toNat) + (if 0 < ρ (11 + 3 * (8 * y + x).toNat) then 2 else 0) + btN ρ x y (ρ 2).toNat
def cellF (T : Nat → Int) (N : Nat) (ρ : Nat → Int) (wo : Int) (j : Nat) : Int := ft (nbF T N 0 (ρ 0 - 1) j) (ft (nbF T N 0 (ρ 1 - 1) (j + 1)) (if iAnd (lieR ρ (nbI T N j) (nbI T N (j + 1))) wo = 0 then 0 else fa T N 3 (j + 1)))
def celN (T : Nat → Int) (N j : Nat) : Nat := (8 * nbI T N (j + 1) + nbI T N j).toNat
def dpN (T : Nat → Int) (N : Nat) (nm : Nat → Nat) (i : Nat) : Nat → Nat
  | 0 => 0
  | n + 1 => if hsI T N (nm n) = hsI T N i then 1 else dpN T N nm i n
def nmF (T : Nat → Int) (N : Nat) (nm : Nat → Nat) (n i : Nat) : Int := if kdI T N i = 2 ∧ 22 < twI T N i then (if dpN T N nm i n = 0 then 0 else fa T N 3 i) else fa T N 1 i
def kdF (T : Nat → Int) (N i : Nat) : Int := if 14 ≤ twI T N i ∧ twI T N i ≤ 18 then 0 else fa T N 1 i
def tdB (td k : Nat) : Nat := td / 2 ^ k % 2
def lnRock (T : Nat → Int) (N : Nat) (s : bSt) (i : Nat) : bLn := (ft (cellF T N s.1 7 (i + 1)) (sgF T N 59 (i + 3)), i + 4, (rU (rU (rU s.1 (10 + 3 * celN T N (i + 1)) 1) (11 + 3 * celN T N (i + 1)) 0) (12 + 3 * celN T N (i + 1)) 0, s.2))
def lnShoal (T : Nat → Int) (N : Nat) (s : bSt) (i : Nat) : bLn := (ft (ft (ft (cellF T N s.1 3 (i + 1)) (wdF T N 22 (i + 3))) (nbF T N 1 99 (i + 4))) (sgF T N 59 (i + 5)), i + 6, (rU (rU (rU s.1 (10 + 3 * celN T N (i + 1)) 0) (11 + 3 * celN T N (i + 1)) (nbI T N (i + 4))) (12 + 3 * celN T N (i + 1)) (nbI T N (i + 4)), s.2))
def bnwR (T : Nat → Int) (N : Nat) (ρ : Nat → Int) (n i : Nat) : Nat → Int := rU (rU (rU (rU (rU (rU (rU (rU (rU ρ (202 + 12 * n) ((twI T N (i + 2) - 14 : Nat) : Int)) (203 + 12 * n) (nbI T N (i + 4))) (204 + 12 * n) (nbI T N (i + 5))) (205 + 12 * n) (nbI T N (i + 4))) (206 + 12 * n) (nbI T N (i + 5))) (207 + 12 * n) (nbI T N (i + 7))) (208 + 12 * n) (nbI T N (i + 9))) (209 + 12 * n) (nbI T N (i + 11))) 2 ((n + 1 : Nat) : Int)
def boF (T : Nat → Int) (N : Nat) (s : bSt) (n i : Nat) : Int := ft (ft (ft (ft (ft (ft (ft (ft (ft (nmF T N s.2.2.2 n (i + 1)) (kdF T N (i + 2))) (wdF T N 9 (i + 3))) (cellF T N s.1 1 (i + 4))) (wdF T N 10 (i + 6))) (nbF T N 0 99 (i + 7))) (wdF T N 11 (i + 8))) (nbF T N 0 99 (i + 9))) (wdF T N 12 (i + 10))) (nbF T N 0 9 (i + 11))
def lnBoat (T : Nat → Int) (N : Nat) (s : bSt) (i : Nat) : bLn := if s.1 2 = 7 then (fa T N 5 i, i, s) else (ft (boF T N s (s.1 2).toNat i) (sgF T N 59 (i + 12)), i + 13, (bnwR T N s.1 (s.1 2).toNat i, s.2.1, s.2.2.1, fun b => if b = (s.1 2).toNat then i + 1 else s.2.2.2 b))
def lnCable (T : Nat → Int) (N : Nat) (s : bSt) (i : Nat) : bLn := if (s.2.2.1.1 : Int) < s.1 2 - 1 then (ft (ft (ft (nbF T N 1 9 (i + 1)) (wdF T N 13 (i + 2))) (nbF T N 0 99 (i + 3))) (sgF T N 59 (i + 4)), i + 5, (rU (rU s.1 (290 + 3 * s.2.2.1.1) (nbI T N (i + 1))) (291 + 3 * s.2.2.1.1) (nbI T N (i + 3)), s.2.1, (s.2.2.1.1 + 1, s.2.2.1.2), s.2.2.2)) else (fa T N 5 i, i, s)
def lnNum (T : Nat → Int) (N : Nat) (s : bSt) (k : Nat) (hi : Int) (i : Nat) : bLn := if tdB s.2.2.1.2.1 k = 0 then (ft (nbF T N 0 hi (i + 1)) (sgF T N 59 (i + 2)), i + 3, (rU s.1 (2 + k) (nbI T N (i + 1)), s.2.1, (s.2.2.1.1, s.2.2.1.2.1 + 2 ^ k, s.2.2.1.2.2), s.2.2.2)) else (fa T N 3 i, i, s)
def lnSwell (T : Nat → Int) (N : Nat) (s : bSt) (i : Nat) : bLn := if tdB s.2.2.1.2.1 0 = 0 then (ft (lwX T N 3 (i + 1)).1 (sgF T N 59 (lwX T N 3 (i + 1)).2.1), (lwX T N 3 (i + 1)).2.1 + 1, (rU s.1 6 (s.2.2.1.2.2 : Int), ((lwX T N 3 (i + 1)).2.2, s.2.1.2), (s.2.2.1.1, s.2.2.1.2.1 + 1, s.2.2.1.2.2 + (lwX T N 3 (i + 1)).2.2.length + 1), s.2.2.2)) else (fa T N 3 i, i, s)
def lnWish (T : Nat → Int) (N : Nat) (s : bSt) (i : Nat) : bLn := if tdB s.2.2.1.2.1 1 = 0 then (ft (lwX T N 7 (i + 1)).1 (sgF T N 59 (lwX T N 7 (i + 1)).2.1), (lwX T N 7 (i + 1)).2.1 + 1, (rU s.1 7 (s.2.2.1.2.2 : Int), (s.2.1.1, (lwX T N 7 (i + 1)).2.2), (s.2.2.1.1, s.2.2.1.2.1 + 2, s.2.2.1.2.2 + (lwX T N 7 (i + 1)).2.2.length + 1), s.2.2.2)) else (fa T N 3 i, i, s)
def lneR (T : Nat → Int) (N : Nat) (s : bSt) (i : Nat) : bLn :=
  if twI T N i = 1 then lnRock T N s i else if twI T N i = 2 then lnShoal T N s i else if twI T N i = 3 then lnBoat T N s i else if twI T N i = 4 then lnCable T N s i
  else if twI T N i = 5 then lnSwell T N s i else if twI T N i = 6 then lnWish T N s i else if twI T N i = 7 then lnNum T N s 2 50 i else if twI T N i = 8 then lnNum T N s 3 99 i else (fa T N 1 i, i, s)
/-- what a draft is -/
def SW (s : bSt) : Prop := WF s.1 ∧ (∀ c, c < 64 → s.1 (12 + 3 * c) = s.1 (11 + 3 * c)) ∧ (∀ b, b < 7 → s.1 (205 + 12 * b) = s.1 (203 + 12 * b) ∧ s.1 (206 + 12 * b) = s.1 (204 + 12 * b) ∧ s.1 (210 + 12 * b) = 0 ∧ s.1 (211 + 12 * b) = 0 ∧ s.1 (212 + 12 * b) = 0) ∧ (s.1 3 = 0 ∧ ∀ k, k < 6 → s.1 (292 + 3 * k) = 0) ∧ ((s.2.2.1.1 : Int) + 1 ≤ s.1 2 ∨ s.2.2.1.1 = 0) ∧ s.2.2.1.2.1 < 16 ∧ lwO 3 s.2.1.1 ∧ lwO 7 s.2.1.2
theorem BW.cg {ρ ρ' : Nat → Int} {b : Nat} (w : BW ρ b) (h : ∀ j, 202 + 12 * b ≤ j → j ≤ 212 + 12 * b → ρ' j = ρ j) (h0 : ρ' 0 = ρ 0) (h1 : ρ' 1 = ρ 1) (hc : ρ' (10 + 3 * (8 * ρ (204 + 12 * b) + ρ (203 + 12 * b)).toNat) = 0) : BW ρ' b := by
  unfold BW
  rw [h (202 + 12 * b) (by omega) (by omega), h (203 + 12 * b) (by omega) (by omega), h (204 + 12 * b) (by omega) (by omega), h (205 + 12 * b) (by omega) (by omega), h (206 + 12 * b) (by omega) (by omega), h (207 + 12 * b) (by omega) (by omega), h (208 + 12 * b) (by omega) (by omega), h (209 + 12 * b) (by omega) (by omega), h (210 + 12 * b) (by omega) (by omega), h (211 + 12 * b) (by omega) (by omega), h (212 + 12 * b) (by omega) (by omega), h0, h1]
  exact ⟨w.1, w.2.1, w.2.2.1, w.2.2.2.1, w.2.2.2.2.1, w.2.2.2.2.2.1, w.2.2.2.2.2.2.1, w.2.2.2.2.2.2.2.1, w.2.2.2.2.2.2.2.2.1, w.2.2.2.2.2.2.2.2.2.1, w.2.2.2.2.2.2.2.2.2.2.1, hc⟩
theorem WF.bt {ρ : Nat → Int} (w : WF ρ) {b : Nat} (h : (b : Int) < ρ 2) : b < 7 := by
  have := w.2.2.1.2
  generalize ρ 2 = v at *
  clear w
  omega
theorem cel64 {ρ : Nat → Int} (w : WF ρ) {b : Nat} (h : (b : Int) < ρ 2) : (8 * ρ (204 + 12 * b) + ρ (203 + 12 * b)).toNat < 64 := by
  have bw := w.b h
  exact c64 bw.2.1.1 bw.2.1.2 w.1.2 bw.2.2.1.1 bw.2.2.1.2 w.2.1.2
theorem SW.cell {s : bSt} {ρ' : Nat → Int} {c : Nat} {r n : Int} (w : SW s) (hc : c < 64) (e0 : ρ' (10 + 3 * c) = r) (e1 : ρ' (11 + 3 * c) = n) (e2 : ρ' (12 + 3 * c) = n) (h : ∀ j, j ≠ 10 + 3 * c → j ≠ 11 + 3 * c → j ≠ 12 + 3 * c → ρ' j = s.1 j) (hr : r = 0 ∨ r = 1) (hn : 0 ≤ n ∧ n ≤ 99) (hb : r = 1 → ∀ b : Nat, (b : Int) < s.1 2 → (8 * s.1 (204 + 12 * b) + s.1 (203 + 12 * b)).toNat ≠ c) : SW (ρ', s.2) := by
  obtain ⟨f, w2, w3, w4, w5, w6, w7⟩ := w
  have g : ∀ j, j < 10 ∨ 202 ≤ j → ρ' j = s.1 j := fun j hj => h j (by omega) (by omega) (by omega)
  have o : ∀ c', c' < 64 → c' ≠ c → ρ' (10 + 3 * c') = s.1 (10 + 3 * c') ∧ ρ' (11 + 3 * c') = s.1 (11 + 3 * c') ∧ ρ' (12 + 3 * c') = s.1 (12 + 3 * c') := fun c' _ hh => ⟨h _ (by omega) (by omega) (by omega), h _ (by omega) (by omega) (by omega), h _ (by omega) (by omega) (by omega)⟩
  refine ⟨⟨?_, ?_, ?_, ?_, ?_, ?_, fun c' hc' => ?_, fun b hb' => ?_, fun k hk => ?_⟩, fun c' hc' => ?_, fun b hb' => ?_, ⟨?_, fun k hk => ?_⟩, ?_, w6, w7⟩
  · show 2 ≤ ρ' 0 ∧ ρ' 0 ≤ 8
    rw [g 0 (by decide)]; exact f.1
  · show 2 ≤ ρ' 1 ∧ ρ' 1 ≤ 8
    rw [g 1 (by decide)]; exact f.2.1
  · show 0 ≤ ρ' 2 ∧ ρ' 2 ≤ 7
    rw [g 2 (by decide)]; exact f.2.2.1
  · show 0 ≤ ρ' 3 ∧ ρ' 3 ≤ 100000
    rw [g 3 (by decide)]; exact f.2.2.2.1
  · show 0 ≤ ρ' 4 ∧ ρ' 4 ≤ 50
    rw [g 4 (by decide)]; exact f.2.2.2.2.1
  · show 0 ≤ ρ' 5 ∧ ρ' 5 ≤ 99
    rw [g 5 (by decide)]; exact f.2.2.2.2.2.1
  · show (ρ' (10 + 3 * c') = 0 ∨ ρ' (10 + 3 * c') = 1) ∧ 0 ≤ ρ' (12 + 3 * c') ∧ ρ' (12 + 3 * c') ≤ ρ' (11 + 3 * c') ∧ ρ' (11 + 3 * c') ≤ 99
    by_cases e : c' = c
    · rw [e, e0, e1, e2]; exact ⟨hr, hn.1, Int.le_refl _, hn.2⟩
    · rw [(o c' hc' e).1, (o c' hc' e).2.1, (o c' hc' e).2.2]; exact f.c hc'
  · have hb2 : (b : Int) < s.1 2 := by
      have e : ρ' 2 = s.1 2 := g 2 (by decide)
      rw [← e]; exact hb'
    have b7 := f.bt hb2
    refine (f.b hb2).cg (fun j j1 j2 => g j (by omega)) (g 0 (by decide)) (g 1 (by decide)) ?_
    have cl := cel64 f hb2
    have rz := (f.b hb2).2.2.2.2.2.2.2.2.2.2.2
    by_cases e : (8 * s.1 (204 + 12 * b) + s.1 (203 + 12 * b)).toNat = c
    · show ρ' _ = 0
      rw [e, e0]
      rcases hr with z | z
      · exact z
      · exact absurd e (hb z b hb2)
    · exact ((o _ cl e).1).trans rz
  · show (1 ≤ ρ' (290 + 3 * k) ∧ ρ' (290 + 3 * k) ≤ 9) ∧ (0 ≤ ρ' (291 + 3 * k) ∧ ρ' (291 + 3 * k) ≤ 99) ∧ (ρ' (292 + 3 * k) = 0 ∨ ρ' (292 + 3 * k) = 1)
    rw [g (290 + 3 * k) (by omega), g (291 + 3 * k) (by omega), g (292 + 3 * k) (by omega)]; exact f.l hk
  · show ρ' (12 + 3 * c') = ρ' (11 + 3 * c')
    by_cases e : c' = c
    · rw [e, e1, e2]
    · rw [(o c' hc' e).2.1, (o c' hc' e).2.2]; exact w2 c' hc'
  · show ρ' (205 + 12 * b) = ρ' (203 + 12 * b) ∧ ρ' (206 + 12 * b) = ρ' (204 + 12 * b) ∧ ρ' (210 + 12 * b) = 0 ∧ ρ' (211 + 12 * b) = 0 ∧ ρ' (212 + 12 * b) = 0
    rw [g (205 + 12 * b) (by omega), g (203 + 12 * b) (by omega), g (206 + 12 * b) (by omega), g (204 + 12 * b) (by omega), g (210 + 12 * b) (by omega), g (211 + 12 * b) (by omega), g (212 + 12 * b) (by omega)]
    exact w3 b hb'
  · show ρ' 3 = 0
    rw [g 3 (by decide)]; exact w4.1
  · show ρ' (292 + 3 * k) = 0
    rw [g (292 + 3 * k) (by omega)]; exact w4.2 k hk
  · show (s.2.2.1.1 : Int) + 1 ≤ ρ' 2 ∨ _
    rw [g 2 (by decide)]; exact w5
/-- numbers and laws -/
theorem SW.num {s : bSt} {ρ' : Nat → Int} {P W : pRow} {cb td cd : Nat} {nm : Nat → Nat} (w : SW s) (h : ∀ j, j ≠ 4 → j ≠ 5 → j ≠ 6 → j ≠ 7 → ρ' j = s.1 j) (h4 : 0 ≤ ρ' 4 ∧ ρ' 4 ≤ 50) (h5 : 0 ≤ ρ' 5 ∧ ρ' 5 ≤ 99) (hcb : cb = s.2.2.1.1) (htd : td < 16) (hP : lwO 3 P) (hW : lwO 7 W) : SW (ρ', (P, W), (cb, td, cd), nm) := by
  obtain ⟨f, w2, w3, w4, w5, w6, w7⟩ := w
  have g : ∀ j, 10 ≤ j → ρ' j = s.1 j := fun j hj => h j (by omega) (by omega) (by omega) (by omega)
  have e0 := h 0 (by decide) (by decide) (by decide) (by decide)
  have e1 := h 1 (by decide) (by decide) (by decide) (by decide)
  have e2 := h 2 (by decide) (by decide) (by decide) (by decide)
  have e3 := h 3 (by decide) (by decide) (by decide) (by decide)
  refine ⟨⟨?_, ?_, ?_, ?_, h4, h5, fun c' hc' => ?_, fun b hb' => ?_, fun k hk => ?_⟩, fun c' hc' => ?_, fun b hb' => ?_, ⟨?_, fun k hk => ?_⟩, ?_, htd, hP, hW⟩
  · show 2 ≤ ρ' 0 ∧ ρ' 0 ≤ 8
    rw [e0]; exact f.1
  · show 2 ≤ ρ' 1 ∧ ρ' 1 ≤ 8
    rw [e1]; exact f.2.1
  · show 0 ≤ ρ' 2 ∧ ρ' 2 ≤ 7
    rw [e2]; exact f.2.2.1
  · show 0 ≤ ρ' 3 ∧ ρ' 3 ≤ 100000
    rw [e3]; exact f.2.2.2.1
  · show (ρ' (10 + 3 * c') = 0 ∨ ρ' (10 + 3 * c') = 1) ∧ 0 ≤ ρ' (12 + 3 * c') ∧ ρ' (12 + 3 * c') ≤ ρ' (11 + 3 * c') ∧ ρ' (11 + 3 * c') ≤ 99
    rw [g (10 + 3 * c') (by omega), g (11 + 3 * c') (by omega), g (12 + 3 * c') (by omega)]; exact f.c hc'
  · have hb2 : (b : Int) < s.1 2 := by rw [← e2]; exact hb'
    refine (f.b hb2).cg (fun j j1 j2 => g j (by omega)) e0 e1 ?_
    exact (g _ (by omega)).trans (f.b hb2).2.2.2.2.2.2.2.2.2.2.2
  · show (1 ≤ ρ' (290 + 3 * k) ∧ ρ' (290 + 3 * k) ≤ 9) ∧ (0 ≤ ρ' (291 + 3 * k) ∧ ρ' (291 + 3 * k) ≤ 99) ∧ (ρ' (292 + 3 * k) = 0 ∨ ρ' (292 + 3 * k) = 1)
    rw [g (290 + 3 * k) (by omega), g (291 + 3 * k) (by omega), g (292 + 3 * k) (by omega)]; exact f.l hk
  · show ρ' (12 + 3 * c') = ρ' (11 + 3 * c')
    rw [g (11 + 3 * c') (by omega), g (12 + 3 * c') (by omega)]; exact w2 c' hc'
  · show ρ' (205 + 12 * b) = ρ' (203 + 12 * b) ∧ ρ' (206 + 12 * b) = ρ' (204 + 12 * b) ∧ ρ' (210 + 12 * b) = 0 ∧ ρ' (211 + 12 * b) = 0 ∧ ρ' (212 + 12 * b) = 0
    rw [g (205 + 12 * b) (by omega), g (203 + 12 * b) (by omega), g (206 + 12 * b) (by omega), g (204 + 12 * b) (by omega), g (210 + 12 * b) (by omega), g (211 + 12 * b) (by omega), g (212 + 12 * b) (by omega)]
    exact w3 b hb'
  · exact e3.trans w4.1
  · exact (g _ (by omega)).trans (w4.2 k hk)
  · show (cb : Int) + 1 ≤ ρ' 2 ∨ cb = 0
    rw [e2, hcb]; exact w5
/-- a link -/
theorem SW.link {s : bSt} {ρ' : Nat → Int} (w : SW s) (hk : (s.2.2.1.1 : Int) < s.1 2 - 1) (h : ∀ j, j ≠ 290 + 3 * s.2.2.1.1 → j ≠ 291 + 3 * s.2.2.1.1 → ρ' j = s.1 j) (h4 : 1 ≤ ρ' (290 + 3 * s.2.2.1.1) ∧ ρ' (290 + 3 * s.2.2.1.1) ≤ 9) (h5 : 0 ≤ ρ' (291 + 3 * s.2.2.1.1) ∧ ρ' (291 + 3 * s.2.2.1.1) ≤ 99) : SW (ρ', s.2.1, (s.2.2.1.1 + 1, s.2.2.1.2), s.2.2.2) := by
  obtain ⟨f, w2, w3, w4, w5, w6, w7⟩ := w
  have g : ∀ j, j < 290 → ρ' j = s.1 j := fun j hj => h j (by omega) (by omega)
  have b2 := f.2.2.1.2
  refine ⟨⟨?_, ?_, ?_, ?_, ?_, ?_, fun c' hc' => ?_, fun b hb' => ?_, fun k hk' => ?_⟩, fun c' hc' => ?_, fun b hb' => ?_, ⟨?_, fun k hk' => ?_⟩, ?_, w6, w7⟩
  · show 2 ≤ ρ' 0 ∧ ρ' 0 ≤ 8
    rw [g 0 (by decide)]; exact f.1
  · show 2 ≤ ρ' 1 ∧ ρ' 1 ≤ 8
    rw [g 1 (by decide)]; exact f.2.1
  · show 0 ≤ ρ' 2 ∧ ρ' 2 ≤ 7
    rw [g 2 (by decide)]; exact f.2.2.1
  · show 0 ≤ ρ' 3 ∧ ρ' 3 ≤ 100000
    rw [g 3 (by decide)]; exact f.2.2.2.1
  · show 0 ≤ ρ' 4 ∧ ρ' 4 ≤ 50
    rw [g 4 (by decide)]; exact f.2.2.2.2.1
  · show 0 ≤ ρ' 5 ∧ ρ' 5 ≤ 99
    rw [g 5 (by decide)]; exact f.2.2.2.2.2.1
  · show (ρ' (10 + 3 * c') = 0 ∨ ρ' (10 + 3 * c') = 1) ∧ 0 ≤ ρ' (12 + 3 * c') ∧ ρ' (12 + 3 * c') ≤ ρ' (11 + 3 * c') ∧ ρ' (11 + 3 * c') ≤ 99
    rw [g (10 + 3 * c') (by omega), g (11 + 3 * c') (by omega), g (12 + 3 * c') (by omega)]; exact f.c hc'
  · have hb2 : (b : Int) < s.1 2 := by
      have e : ρ' 2 = s.1 2 := g 2 (by decide)
      rw [← e]; exact hb'
    have b7 := f.bt hb2
    have cl := cel64 f hb2
    refine (f.b hb2).cg (fun j j1 j2 => g j (by omega)) (g 0 (by decide)) (g 1 (by decide)) ?_
    exact (g _ (by clear hk h4 h5 w5; omega)).trans (f.b hb2).2.2.2.2.2.2.2.2.2.2.2
  · show (1 ≤ ρ' (290 + 3 * k) ∧ ρ' (290 + 3 * k) ≤ 9) ∧ (0 ≤ ρ' (291 + 3 * k) ∧ ρ' (291 + 3 * k) ≤ 99) ∧ (ρ' (292 + 3 * k) = 0 ∨ ρ' (292 + 3 * k) = 1)
    have l := f.l hk'
    rw [h (292 + 3 * k) (by omega) (by omega)]
    by_cases e : k = s.2.2.1.1
    · rw [e]; rw [e] at l; exact ⟨h4, h5, l.2.2⟩
    · rw [h (290 + 3 * k) (by omega) (by omega), h (291 + 3 * k) (by omega) (by omega)]; exact l
  · show ρ' (12 + 3 * c') = ρ' (11 + 3 * c')
    rw [g (11 + 3 * c') (by omega), g (12 + 3 * c') (by omega)]; exact w2 c' hc'
  · show ρ' (205 + 12 * b) = ρ' (203 + 12 * b) ∧ ρ' (206 + 12 * b) = ρ' (204 + 12 * b) ∧ ρ' (210 + 12 * b) = 0 ∧ ρ' (211 + 12 * b) = 0 ∧ ρ' (212 + 12 * b) = 0
    rw [g (205 + 12 * b) (by omega), g (203 + 12 * b) (by omega), g (206 + 12 * b) (by omega), g (204 + 12 * b) (by omega), g (210 + 12 * b) (by omega), g (211 + 12 * b) (by omega), g (212 + 12 * b) (by omega)]
    exact w3 b hb'
  · exact (g 3 (by decide)).trans w4.1
  · exact (h _ (by omega) (by omega)).trans (w4.2 k hk')
  · show ((s.2.2.1.1 + 1 : Nat) : Int) + 1 ≤ ρ' 2 ∨ _
    rw [g 2 (by decide)]
    exact Or.inl (by omega)
/-- a boat more -/
theorem SW.boat {s : bSt} {ρ' : Nat → Int} {n : Nat} {kd x y ho pu tr : Int} {nm : Nat → Nat} (w : SW s) (hn : s.1 2 = (n : Int)) (n7 : n < 7) (h : ∀ j, j ≠ 2 → (j < 202 + 12 * n ∨ 209 + 12 * n < j) → ρ' j = s.1 j) (e2 : ρ' 2 = ((n + 1 : Nat) : Int)) (k0 : ρ' (202 + 12 * n) = kd) (k1 : ρ' (203 + 12 * n) = x) (k2 : ρ' (204 + 12 * n) = y) (k3 : ρ' (205 + 12 * n) = x) (k4 : ρ' (206 + 12 * n) = y) (k5 : ρ' (207 + 12 * n) = ho) (k6 : ρ' (208 + 12 * n) = pu) (k7 : ρ' (209 + 12 * n) = tr) (b0 : 0 ≤ kd ∧ kd ≤ 4) (b1 : 0 ≤ x ∧ x < s.1 0) (b2 : 0 ≤ y ∧ y < s.1 1) (b5 : 0 ≤ ho ∧ ho ≤ 99) (b6 : 0 ≤ pu ∧ pu ≤ 99) (b7 : 0 ≤ tr ∧ tr ≤ 9) (rk : s.1 (10 + 3 * (8 * y + x).toNat) = 0) : SW (ρ', s.2.1, s.2.2.1, nm) := by
  obtain ⟨f, w2, w3, w4, w5, w6, w7⟩ := w
  have g : ∀ j, j ≠ 2 → (j < 202 ∨ 286 ≤ j) → ρ' j = s.1 j := fun j j2 hj => h j j2 (by omega)
  have cl : (8 * y + x).toNat < 64 := c64 b1.1 b1.2 f.1.2 b2.1 b2.2 f.2.1.2
  refine ⟨⟨?_, ?_, ?_, ?_, ?_, ?_, fun c' hc' => ?_, fun b hb' => ?_, fun k hk' => ?_⟩, fun c' hc' => ?_, fun b hb' => ?_, ⟨?_, fun k hk' => ?_⟩, ?_, w6, w7⟩
  · show 2 ≤ ρ' 0 ∧ ρ' 0 ≤ 8
    rw [g 0 (by decide) (by decide)]; exact f.1
  · show 2 ≤ ρ' 1 ∧ ρ' 1 ≤ 8
    rw [g 1 (by decide) (by decide)]; exact f.2.1
  · show 0 ≤ ρ' 2 ∧ ρ' 2 ≤ 7
    rw [e2]; clear hn; omega
  · show 0 ≤ ρ' 3 ∧ ρ' 3 ≤ 100000
    rw [g 3 (by decide) (by decide)]; exact f.2.2.2.1
  · show 0 ≤ ρ' 4 ∧ ρ' 4 ≤ 50
    rw [g 4 (by decide) (by decide)]; exact f.2.2.2.2.1
  · show 0 ≤ ρ' 5 ∧ ρ' 5 ≤ 99
    rw [g 5 (by decide) (by decide)]; exact f.2.2.2.2.2.1
  · show (ρ' (10 + 3 * c') = 0 ∨ ρ' (10 + 3 * c') = 1) ∧ 0 ≤ ρ' (12 + 3 * c') ∧ ρ' (12 + 3 * c') ≤ ρ' (11 + 3 * c') ∧ ρ' (11 + 3 * c') ≤ 99
    rw [g (10 + 3 * c') (by omega) (by omega), g (11 + 3 * c') (by omega) (by omega), g (12 + 3 * c') (by omega) (by omega)]; exact f.c hc'
  · have hb3 : (b : Int) < ((n + 1 : Nat) : Int) := by rw [← e2]; exact hb'
    have bn : b < n + 1 := Int.ofNat_lt.mp hb3
    by_cases e : b = n
    · subst e
      have z := w3 b n7
      unfold BW
      show (0 ≤ ρ' (202 + 12 * b) ∧ ρ' (202 + 12 * b) ≤ 4) ∧ (0 ≤ ρ' (203 + 12 * b) ∧ ρ' (203 + 12 * b) < ρ' 0) ∧ (0 ≤ ρ' (204 + 12 * b) ∧ ρ' (204 + 12 * b) < ρ' 1) ∧
        (0 ≤ ρ' (205 + 12 * b) ∧ ρ' (205 + 12 * b) < 8) ∧ (0 ≤ ρ' (206 + 12 * b) ∧ ρ' (206 + 12 * b) < 8) ∧ (0 ≤ ρ' (207 + 12 * b) ∧ ρ' (207 + 12 * b) ≤ 99) ∧ (0 ≤ ρ' (208 + 12 * b) ∧ ρ' (208 + 12 * b) ≤ 99) ∧
        (0 ≤ ρ' (209 + 12 * b) ∧ ρ' (209 + 12 * b) ≤ 9) ∧ (0 ≤ ρ' (210 + 12 * b) ∧ ρ' (210 + 12 * b) ≤ (if ρ' (202 + 12 * b) = 3 then (ρ' (207 + 12 * b)).tdiv 2 else ρ' (207 + 12 * b))) ∧ (0 ≤ ρ' (211 + 12 * b) ∧ ρ' (211 + 12 * b) ≤ 999) ∧ (0 ≤ ρ' (212 + 12 * b) ∧ ρ' (212 + 12 * b) ≤ 4) ∧
        ρ' (10 + 3 * (8 * ρ' (204 + 12 * b) + ρ' (203 + 12 * b)).toNat) = 0
      rw [k0, k1, k2, k3, k4, k5, k6, k7, g 0 (by decide) (by decide), g 1 (by decide) (by decide), h (210 + 12 * b) (by omega) (by omega), h (211 + 12 * b) (by omega) (by omega), h (212 + 12 * b) (by omega) (by omega), z.2.2.1, z.2.2.2.1, z.2.2.2.2]
      have x8 := Int.lt_of_lt_of_le b1.2 f.1.2
      have y8 := Int.lt_of_lt_of_le b2.2 f.2.1.2
      refine ⟨b0, b1, b2, ⟨b1.1, x8⟩, ⟨b2.1, y8⟩, b5, b6, b7, ⟨Int.le_refl _, ?_⟩, by decide, by decide, (g _ (by omega) (by omega)).trans rk⟩
      by_cases q : kd = 3
      · rw [if_pos q]; exact Int.tdiv_nonneg b5.1 (by decide)
      · rw [if_neg q]; exact b5.1
    · have hb2 : (b : Int) < s.1 2 := by rw [hn]; exact Int.ofNat_lt.mpr (Nat.lt_of_le_of_ne (Nat.lt_succ_iff.mp bn) e)
      have cl2 := cel64 f hb2
      refine (f.b hb2).cg (fun j j1 j2 => h j (by omega) (by omega)) (g 0 (by decide) (by decide)) (g 1 (by decide) (by decide)) ?_
      exact (g _ (by clear hn; omega) (by clear hn; omega)).trans (f.b hb2).2.2.2.2.2.2.2.2.2.2.2
  · show (1 ≤ ρ' (290 + 3 * k) ∧ ρ' (290 + 3 * k) ≤ 9) ∧ (0 ≤ ρ' (291 + 3 * k) ∧ ρ' (291 + 3 * k) ≤ 99) ∧ (ρ' (292 + 3 * k) = 0 ∨ ρ' (292 + 3 * k) = 1)
    rw [g (290 + 3 * k) (by omega) (by omega), g (291 + 3 * k) (by omega) (by omega), g (292 + 3 * k) (by omega) (by omega)]; exact f.l hk'
  · show ρ' (12 + 3 * c') = ρ' (11 + 3 * c')
    rw [g (11 + 3 * c') (by omega) (by omega), g (12 + 3 * c') (by omega) (by omega)]; exact w2 c' hc'
  · show ρ' (205 + 12 * b) = ρ' (203 + 12 * b) ∧ ρ' (206 + 12 * b) = ρ' (204 + 12 * b) ∧ ρ' (210 + 12 * b) = 0 ∧ ρ' (211 + 12 * b) = 0 ∧ ρ' (212 + 12 * b) = 0
    have z := w3 b hb'
    rw [h (210 + 12 * b) (by omega) (by omega), h (211 + 12 * b) (by omega) (by omega), h (212 + 12 * b) (by omega) (by omega)]
    by_cases e : b = n
    · rw [e, k1, k2, k3, k4]; rw [e] at z; exact ⟨rfl, rfl, z.2.2⟩
    · rw [h (205 + 12 * b) (by omega) (by omega), h (203 + 12 * b) (by omega) (by omega), h (206 + 12 * b) (by omega) (by omega), h (204 + 12 * b) (by omega) (by omega)]
      exact z
  · exact (g 3 (by decide) (by decide)).trans w4.1
  · exact (g _ (by omega) (by omega)).trans (w4.2 k hk')
  · show (s.2.2.1.1 : Int) + 1 ≤ ρ' 2 ∨ _
    rw [e2]
    rcases w5 with z | z
    · rw [hn] at z
      exact Or.inl (by omega)
    · exact Or.inr z
