/-! The lines of the class -/
theorem DR.cell {T : Nat → Int} {N : Nat} {σ α α' : Nat → Nat → Int} {s : bSt} {ρ' : Nat → Int} (D : DR T N σ α s) (F : Fα [5, 6] α α') (h : ∀ c, c < 64 → α' 5 c = ρ' (10 + 3 * c) ∧ α' 6 c = ρ' (11 + 3 * c)) (g : ∀ j, j < 10 ∨ 202 ≤ j → ρ' j = s.1 j) : DR T N σ α' (ρ', s.2) := by
  unfold DR LC
  rw [F 7 (by decide), F 8 (by decide), F 9 (by decide), F 10 (by decide), F 11 (by decide), F 12 (by decide), F 13 (by decide), F 14 (by decide), F 16 (by decide), F 19 (by decide), F 21 (by decide), F 22 (by decide)]
  refine ⟨?_, h, fun b hb => ?_, fun k hk => ?_, D.2.2.2.2⟩
  · show σ 4 0 = ρ' 0 ∧ σ 4 1 = ρ' 1 ∧ σ 4 2 = ρ' 2 ∧ σ 4 3 = ρ' 4 ∧ σ 4 4 = ρ' 5
    rw [g 0 (by decide), g 1 (by decide), g 2 (by decide), g 4 (by decide), g 5 (by decide)]
    exact D.1
  · have hb2 : (b : Int) < s.1 2 := by
      have e : ρ' 2 = s.1 2 := g 2 (by decide)
      rw [← e]; exact hb
    show α 7 b = ρ' (202 + 12 * b) ∧ α 8 b = ρ' (205 + 12 * b) ∧ α 9 b = ρ' (206 + 12 * b) ∧ α 10 b = ρ' (207 + 12 * b) ∧ α 11 b = ρ' (208 + 12 * b) ∧ α 12 b = ρ' (209 + 12 * b) ∧ _
    rw [g (202 + 12 * b) (by omega), g (205 + 12 * b) (by omega), g (206 + 12 * b) (by omega), g (207 + 12 * b) (by omega), g (208 + 12 * b) (by omega), g (209 + 12 * b) (by omega)]
    exact D.2.2.1 b hb2
  · show α 13 k = ρ' (290 + 3 * k) ∧ α 14 k = ρ' (291 + 3 * k)
    rw [g (290 + 3 * k) (by omega), g (291 + 3 * k) (by omega)]
    exact D.2.2.2.1 k hk
theorem DR.num {T : Nat → Int} {N : Nat} {σ σ' α : Nat → Nat → Int} {s : bSt} {ρ' : Nat → Int} {td' cd' : Nat} (D : DR T N σ α s) (F : Fσ ((3, 5) :: (4, 3) :: (4, 4) :: STk) σ σ') (e3 : σ' 4 3 = ρ' 4) (e4 : σ' 4 4 = ρ' 5) (e5 : σ' 3 5 = 32 * (td' : Int)) (g : ∀ j, j ≠ 4 → j ≠ 5 → j ≠ 6 → j ≠ 7 → ρ' j = s.1 j) : DR T N σ' α (ρ', s.2.1, (s.2.2.1.1, td', cd'), s.2.2.2) := by
  have gg : ∀ j, 10 ≤ j → ρ' j = s.1 j := fun j hj => g j (by omega) (by omega) (by omega) (by omega)
  have g0 := g 0 (by decide) (by decide) (by decide) (by decide)
  have g1 := g 1 (by decide) (by decide) (by decide) (by decide)
  have g2 := g 2 (by decide) (by decide) (by decide) (by decide)
  unfold DR LC
  rw [F 15 2 (by decide), F 18 2 (by decide), F 4 0 (by decide), F 4 1 (by decide), F 4 2 (by decide), F 3 4 (by decide)]
  refine ⟨⟨?_, ?_, ?_, e3, e4⟩, fun c hc => ?_, fun b hb => ?_, fun k hk => ?_, D.2.2.2.2.1, D.2.2.2.2.2.1, D.2.2.2.2.2.2.1, e5⟩
  · exact D.1.1.trans g0.symm
  · exact D.1.2.1.trans g1.symm
  · exact D.1.2.2.1.trans g2.symm
  · show α 5 c = ρ' (10 + 3 * c) ∧ α 6 c = ρ' (11 + 3 * c)
    rw [gg (10 + 3 * c) (by omega), gg (11 + 3 * c) (by omega)]
    exact D.2.1 c hc
  · have hb2 : (b : Int) < s.1 2 := by
      rw [← g2]; exact hb
    show α 7 b = ρ' (202 + 12 * b) ∧ α 8 b = ρ' (205 + 12 * b) ∧ α 9 b = ρ' (206 + 12 * b) ∧ α 10 b = ρ' (207 + 12 * b) ∧ α 11 b = ρ' (208 + 12 * b) ∧ α 12 b = ρ' (209 + 12 * b) ∧ _
    rw [gg (202 + 12 * b) (by omega), gg (205 + 12 * b) (by omega), gg (206 + 12 * b) (by omega), gg (207 + 12 * b) (by omega), gg (208 + 12 * b) (by omega), gg (209 + 12 * b) (by omega)]
    exact D.2.2.1 b hb2
  · show α 13 k = ρ' (290 + 3 * k) ∧ α 14 k = ρ' (291 + 3 * k)
    rw [gg (290 + 3 * k) (by omega), gg (291 + 3 * k) (by omega)]
    exact D.2.2.2.1 k hk
theorem DR.law {T : Nat → Int} {N : Nat} {σ σ' α α' : Nat → Nat → Int} {s : bSt} {ρ' : Nat → Int} {P' W' : pRow} {td' cd' : Nat} (D : DR T N σ α s) (F : Fσ ((3, 5) :: (15, 2) :: (18, 2) :: STk) σ σ') (E : Fα [16, 19] α α') (l1 : LC 15 16 σ' α' P') (l2 : LC 18 19 σ' α' W') (e5 : σ' 3 5 = 32 * (td' : Int)) (g : ∀ j, j ≠ 6 → j ≠ 7 → ρ' j = s.1 j) : DR T N σ' α' (ρ', (P', W'), (s.2.2.1.1, td', cd'), s.2.2.2) := by
  have gg : ∀ j, 10 ≤ j → ρ' j = s.1 j := fun j hj => g j (by omega) (by omega)
  have g0 := g 0 (by decide) (by decide)
  have g1 := g 1 (by decide) (by decide)
  have g2 := g 2 (by decide) (by decide)
  have g4 := g 4 (by decide) (by decide)
  have g5 := g 5 (by decide) (by decide)
  unfold DR
  rw [F 4 0 (by decide), F 4 1 (by decide), F 4 2 (by decide), F 4 3 (by decide), F 4 4 (by decide), F 3 4 (by decide)]
  rw [E 5 (by decide), E 6 (by decide), E 7 (by decide), E 8 (by decide), E 9 (by decide), E 10 (by decide), E 11 (by decide), E 12 (by decide), E 13 (by decide), E 14 (by decide), E 21 (by decide), E 22 (by decide)]
  refine ⟨⟨D.1.1.trans g0.symm, D.1.2.1.trans g1.symm, D.1.2.2.1.trans g2.symm, D.1.2.2.2.1.trans g4.symm, D.1.2.2.2.2.trans g5.symm⟩, fun c hc => ?_, fun b hb => ?_, fun k hk => ?_, l1, l2, D.2.2.2.2.2.2.1, e5⟩
  · show α 5 c = ρ' (10 + 3 * c) ∧ α 6 c = ρ' (11 + 3 * c)
    rw [gg (10 + 3 * c) (by omega), gg (11 + 3 * c) (by omega)]
    exact D.2.1 c hc
  · have hb2 : (b : Int) < s.1 2 := by
      rw [← g2]; exact hb
    show α 7 b = ρ' (202 + 12 * b) ∧ α 8 b = ρ' (205 + 12 * b) ∧ α 9 b = ρ' (206 + 12 * b) ∧ α 10 b = ρ' (207 + 12 * b) ∧ α 11 b = ρ' (208 + 12 * b) ∧ α 12 b = ρ' (209 + 12 * b) ∧ _
    rw [gg (202 + 12 * b) (by omega), gg (205 + 12 * b) (by omega), gg (206 + 12 * b) (by omega), gg (207 + 12 * b) (by omega), gg (208 + 12 * b) (by omega), gg (209 + 12 * b) (by omega)]
    exact D.2.2.1 b hb2
  · show α 13 k = ρ' (290 + 3 * k) ∧ α 14 k = ρ' (291 + 3 * k)
    rw [gg (290 + 3 * k) (by omega), gg (291 + 3 * k) (by omega)]
    exact D.2.2.2.1 k hk
theorem DR.link {T : Nat → Int} {N : Nat} {σ σ' α α' : Nat → Nat → Int} {s : bSt} {ρ' : Nat → Int} (D : DR T N σ α s) (F : Fσ ((3, 4) :: STk) σ σ') (E : Fα [13, 14] α α') (h : ∀ k, k < 6 → α' 13 k = ρ' (290 + 3 * k) ∧ α' 14 k = ρ' (291 + 3 * k)) (e4 : σ' 3 4 = ((s.2.2.1.1 + 1 : Nat) : Int)) (g : ∀ j, j < 290 → ρ' j = s.1 j) (b7 : s.1 2 ≤ 7) : DR T N σ' α' (ρ', s.2.1, (s.2.2.1.1 + 1, s.2.2.1.2), s.2.2.2) := by
  unfold DR LC
  rw [F 4 0 (by decide), F 4 1 (by decide), F 4 2 (by decide), F 4 3 (by decide), F 4 4 (by decide), F 15 2 (by decide), F 18 2 (by decide), F 3 5 (by decide)]
  rw [E 5 (by decide), E 6 (by decide), E 7 (by decide), E 8 (by decide), E 9 (by decide), E 10 (by decide), E 11 (by decide), E 12 (by decide), E 16 (by decide), E 19 (by decide), E 21 (by decide), E 22 (by decide)]
  refine ⟨?_, fun c hc => ?_, fun b hb => ?_, h, D.2.2.2.2.1, D.2.2.2.2.2.1, e4, D.2.2.2.2.2.2.2⟩
  · show σ 4 0 = ρ' 0 ∧ σ 4 1 = ρ' 1 ∧ σ 4 2 = ρ' 2 ∧ σ 4 3 = ρ' 4 ∧ σ 4 4 = ρ' 5
    rw [g 0 (by decide), g 1 (by decide), g 2 (by decide), g 4 (by decide), g 5 (by decide)]
    exact D.1
  · show α 5 c = ρ' (10 + 3 * c) ∧ α 6 c = ρ' (11 + 3 * c)
    rw [g (10 + 3 * c) (by omega), g (11 + 3 * c) (by omega)]
    exact D.2.1 c hc
  · have hb2 : (b : Int) < s.1 2 := by
      have e : ρ' 2 = s.1 2 := g 2 (by decide)
      rw [← e]; exact hb
    have b8 : b < 7 := Int.ofNat_lt.mp (Int.lt_of_lt_of_le hb2 b7)
    show α 7 b = ρ' (202 + 12 * b) ∧ α 8 b = ρ' (205 + 12 * b) ∧ α 9 b = ρ' (206 + 12 * b) ∧ α 10 b = ρ' (207 + 12 * b) ∧ α 11 b = ρ' (208 + 12 * b) ∧ α 12 b = ρ' (209 + 12 * b) ∧ _
    rw [g (202 + 12 * b) (by omega), g (205 + 12 * b) (by omega), g (206 + 12 * b) (by omega), g (207 + 12 * b) (by omega), g (208 + 12 * b) (by omega), g (209 + 12 * b) (by omega)]
    exact D.2.2.1 b hb2
theorem sh0 {a b : Int} (h1 : 0 ≤ a) (h2 : a ≤ b) (h3 : ¬ 0 < b) : b = 0 := by omega
theorem c_rock {X : mXX} {d : Nat} {Q : Option mV → mS → Prop} {σ α : Nat → Nat → Int} {T : Nat → Int} {N i : Nat} {s : bSt} (hT : α 2 = T) (ok : okT T N) (C : CTk σ T N i) (D : DR T N σ α s) (w : SW s) (hq : cLn T N (lnRock T N s i) σ α Q) : Ca X (d + 11) 84 [vR 3] (S0, σ, α) Q := by
  refine vc84_0 (c_adv hT ok C (fun σ1 F1 C1 => vc84_7 (c_takeCell (wo := 7) hT ok C1 (D.fg (F1.wk S5_T)) w (fun z σ2 F2 C2 e8 e9 => ?_) (fun z σ2 F2 e6 => ?_))))
  · have F12 := (F1.wk S5_T).tr F2
    have cz := cell_z z
    have c6 := cell_6 w.1 z
    have ix := ixc (x := nbI T N (i + 1)) (y := nbI T N (i + 1 + 1)) ⟨cz.1.2.1, Int.lt_of_lt_of_le cz.1.2.2 w.1.1.2⟩ ⟨cz.2.1.2.1, Int.lt_of_lt_of_le cz.2.1.2.2 w.1.2.1.2⟩
    refine vc84_13 ⟨fun _ => ?_, fun y => absurd y (by decide)⟩
    rw [e8, e9, ix.1, Int.toNat_natCast]
    refine ⟨mInA_n ix.2, ?_⟩
    have e1 : (lnRock T N s i).1 = sgF T N 59 (i + 3) := by
      show ft _ _ = _
      rw [z, ft_0]
    have hT2 : mUp α 5 (celN T N (i + 1)) 1 2 = T := by rw [up_o (by decide)]; exact hT
    refine c_takeSign hT2 ok C2 (fun z2 σ3 F3 C3 => vc84_45 ⟨Or.inr rfl, ?_⟩) (fun z2 => vc84_45 ⟨Or.inl rfl, ?_⟩)
    · obtain ⟨p, q, t, e, ee1, ee2, ee3⟩ := lie_v w.1 c6
      have zz := cz.2.2
      rw [show lieR s.1 (nbI T N (i + 1)) (nbI T N (i + 1 + 1)) = _ from e] at zz
      have k := and7 p q t zz
      have s0 : s.1 (11 + 3 * celN T N (i + 1)) = 0 := sh0 (w.1.c c6).2.1 (w.1.c c6).2.2.1 (ee2 k.2.1)
      have D3 := D.fg (F12.tr (F3.wk S5_T))
      refine hq.1 (e1.trans z2) σ3 _ ((F12.tr (F3.wk S5_T)).wk ST_G) (Fα.up (by decide)) C3 (D3.cell (Fα.up (by decide)) (fun c hc => ?_) (fun j hj => ?_))
      · rw [up_f, up_o (by decide)]
        have dc := D.2.1 c hc
        by_cases ec : c = celN T N (i + 1)
        · subst ec
          refine ⟨?_, ?_⟩
          · show (if celN T N (i + 1) = celN T N (i + 1) then (1 : Int) else _) = _
            rw [if_pos rfl, rU_n (by omega), rU_n (by omega), rU_s]
          · rw [rU_n (by omega), rU_s, dc.2]; exact s0
        · refine ⟨?_, ?_⟩
          · show (if c = celN T N (i + 1) then (1 : Int) else _) = _
            rw [if_neg ec, rU_n (by omega), rU_n (by omega), rU_n (by omega)]; exact dc.1
          · rw [rU_n (by omega), rU_n (by omega), rU_n (by omega)]; exact dc.2
      · have c66 := c6
        rw [rU_n (by omega), rU_n (by omega), rU_n (by omega)]
    · refine hq.2 (by rw [e1]; exact z2) _ _ F12.bd (Fα.up (by decide)) ?_
      rw [up_s, e1]
  · have e1 : (lnRock T N s i).1 = cellF T N s.1 7 (i + 1) := by
      show ft _ _ = _
      rw [ft_n z]
    refine vc84_13 ⟨fun y => absurd rfl y, fun _ => hq.2 (by rw [e1]; exact z) σ2 α (((F1.wk S5_K).tr F2).wk ST_B) Fα.rf (by rw [e6, e1])⟩
theorem c_shoal {X : mXX} {d : Nat} {Q : Option mV → mS → Prop} {σ α : Nat → Nat → Int} {T : Nat → Int} {N i : Nat} {s : bSt} (hT : α 2 = T) (ok : okT T N) (C : CTk σ T N i) (D : DR T N σ α s) (w : SW s) (hq : cLn T N (lnShoal T N s i) σ α Q) : Ca X (d + 11) 86 [vR 3] (S0, σ, α) Q := by
  have E : (lnShoal T N s i).1 = ft (cellF T N s.1 3 (i + 1)) (ft (wdF T N 22 (i + 3)) (ft (nbF T N 1 99 (i + 4)) (sgF T N 59 (i + 5)))) := by
    show ft (ft (ft _ _) _) _ = _
    rw [ft_a, ft_a]
  refine vc86_0 (c_adv hT ok C (fun σ1 F1 C1 => vc86_7 (c_takeCell (wo := 3) hT ok C1 (D.fg (F1.wk S5_T)) w (fun z σ2 F2 C2 e8 e9 => ?_) (fun z σ2 F2 e6 => ?_))))
  · have F12 := (F1.wk S5_T).tr F2
    have cz := cell_z z
    have c6 := cell_6 w.1 z
    have ix := ixc (x := nbI T N (i + 1)) (y := nbI T N (i + 1 + 1)) ⟨cz.1.2.1, Int.lt_of_lt_of_le cz.1.2.2 w.1.1.2⟩ ⟨cz.2.1.2.1, Int.lt_of_lt_of_le cz.2.1.2.2 w.1.2.1.2⟩
    refine vc86_12 ⟨fun y => absurd y (by decide), fun _ => ?_⟩
    refine c_takeWord (w := 22) hT ok C2 (by decide) (fun z2 σ3 F3 C3 => ?_) (fun z2 => ?_)
    · have F13 := F12.tr (F3.wk S5_T)
      refine vc86_21 ⟨fun y => absurd y (by decide), fun _ => ?_⟩
      refine c_takeNumber hT ok C3 (fun z3 σ4 F4 C4 e7 => ?_) (fun z3 σ4 F4 e6 => ?_)
      · have F14 : Fσ STg σ σ4 := F13.tr (F4.wk (by decide))
        have g8 : σ4 3 8 = nbI T N (i + 1) := ((F4 3 8 (by decide)).trans (F3 3 8 (by decide))).trans e8
        have g9 : σ4 3 9 = nbI T N (i + 1 + 1) := ((F4 3 9 (by decide)).trans (F3 3 9 (by decide))).trans e9
        refine vc86_31 ⟨fun _ => ?_, fun y => absurd y (by decide)⟩
        rw [g8, g9, ix.1, Int.toNat_natCast, e7]
        refine ⟨mInA_n ix.2, ?_⟩
        have e1 : (lnShoal T N s i).1 = sgF T N 59 (i + 5) := by
          rw [E, z, ft_0, show wdF T N 22 (i + 3) = 0 from z2, ft_0, show nbF T N 1 99 (i + 4) = 0 from z3, ft_0]
        have hT2 : mUp α 6 (celN T N (i + 1)) (nbI T N (i + 4)) 2 = T := by rw [up_o (by decide)]; exact hT
        refine c_takeSign hT2 ok C4 (fun z5 σ5 F5 C5 => vc86_66 ⟨Or.inr rfl, ?_⟩) (fun z5 => vc86_66 ⟨Or.inl rfl, ?_⟩)
        · obtain ⟨p, q, t, e, ee1, ee2, ee3⟩ := lie_v w.1 c6
          have zz := cz.2.2
          rw [show lieR s.1 (nbI T N (i + 1)) (nbI T N (i + 1 + 1)) = _ from e] at zz
          have k := and3 p q t zz
          have s0 : s.1 (10 + 3 * celN T N (i + 1)) = 0 := ee1 k.1
          have D3 := D.fg (F14.tr (F5.wk S5_T))
          refine hq.1 (e1.trans z5) σ5 _ ((F14.tr (F5.wk S5_T)).wk ST_G) (Fα.up (by decide)) C5 (D3.cell (Fα.up (by decide)) (fun c hc => ?_) (fun j hj => ?_))
          · rw [up_f, up_o (by decide)]
            have dc := D.2.1 c hc
            by_cases ec : c = celN T N (i + 1)
            · subst ec
              refine ⟨?_, ?_⟩
              · rw [rU_n (by omega), rU_n (by omega), rU_s, dc.1]; exact s0
              · show (if celN T N (i + 1) = celN T N (i + 1) then nbI T N (i + 4) else _) = _
                rw [if_pos rfl, rU_n (by omega), rU_s]
            · refine ⟨?_, ?_⟩
              · rw [rU_n (by omega), rU_n (by omega), rU_n (by omega)]; exact dc.1
              · show (if c = celN T N (i + 1) then nbI T N (i + 4) else _) = _
                rw [if_neg ec, rU_n (by omega), rU_n (by omega), rU_n (by omega)]; exact dc.2
          · have c66 := c6
            rw [rU_n (by omega), rU_n (by omega), rU_n (by omega)]
        · refine hq.2 (by rw [e1]; exact z5) _ _ F14.bd (Fα.up (by decide)) ?_
          rw [up_s, e1]
      · have e1 : (lnShoal T N s i).1 = nbF T N 1 99 (i + 4) := by
          rw [E, z, ft_0, show wdF T N 22 (i + 3) = 0 from z2, ft_0]
          exact ft_n z3
        refine vc86_31 ⟨fun y => absurd rfl y, fun _ => hq.2 (by rw [e1]; exact z3) σ4 α (((F13.wk TgT).tr (F4.wk (by decide))).wk ST_B) Fα.rf (by rw [e1]; exact e6)⟩
    · have e1 : (lnShoal T N s i).1 = wdF T N 22 (i + 3) := by
        rw [E, z, ft_0]
        exact ft_n z2
      refine vc86_21 ⟨fun _ => hq.2 (by rw [e1]; exact z2) _ α F12.bd Fα.rf (by rw [up_s, e1]), fun y => absurd rfl y⟩
  · have e1 : (lnShoal T N s i).1 = cellF T N s.1 3 (i + 1) := by rw [E, ft_n z]
    refine vc86_12 ⟨fun _ => hq.2 (by rw [e1]; exact z) σ2 α (((F1.wk S5_K).tr F2).wk ST_B) Fα.rf (by rw [e6, e1]), fun y => absurd rfl y⟩
theorem once : ∀ t : Fin 16, ∀ k : Fin 4, (iAnd (32 * ((t.val : Nat) : Int)) (iShl 1 (((5 + k.val : Nat)) : Int)) = 0 ↔ tdB t.val k.val = 0) ∧ (tdB t.val k.val = 0 → iOr (32 * ((t.val : Nat) : Int)) (iShl 1 (((5 + k.val : Nat)) : Int)) = 32 * ((t.val + 2 ^ k.val : Nat) : Int)) := by decide +kernel
theorem c_takeOnce {X : mXX} {d : Nat} {Q : Option mV → mS → Prop} {σ α : Nat → Nat → Int} {T : Nat → Int} {N i k t : Nat} {v : Int} (hT : α 2 = T) (ok : okT T N) (C : CTk σ T N i) (ht : t < 16) (e5 : σ 3 5 = 32 * (t : Int)) (hk : k < 4) (hv : v = ((5 + k : Nat) : Int)) (h1 : tdB t k = 0 → ∀ σ', Fσ ((3, 5) :: S5) σ σ' → CTk σ' T N (i + 1) → σ' 3 5 = 32 * ((t + 2 ^ k : Nat) : Int) → Q (some (vI 1)) (S0, σ', α)) (h0 : tdB t k ≠ 0 → Q (some (vI 0)) (S0, mUp σ 3 6 (fa T N 3 i), α)) : Ca X (d + 8) 92 [vR 3, vI v] (S0, σ, α) Q := by
  have o := once ⟨t, ht⟩ ⟨k, hk⟩
  rw [hv]
  refine vc92_0 ?_
  rw [e5]
  refine ⟨fun z => ?_, fun z => ?_⟩
  · have tb := o.1.mp z
    rw [show iOr (32 * (t : Int)) (iShl 1 ((5 + k : Nat) : Int)) = _ from o.2 tb]
    refine c_adv hT ok (C.up (by decide)) (fun σ1 F1 C1 => vc92_36 (h1 tb σ1 ((Fσ.up (by decide)).tr (F1.wk (by decide))) C1 ?_))
    rw [F1 3 5 (by decide), up_s]
  · have tb : tdB t k ≠ 0 := fun y => z (o.1.mpr y)
    exact c_fail ok.1 C (by decide) (vc92_16 ⟨Or.inl rfl, h0 tb⟩)
theorem c_gales {X : mXX} {d : Nat} {Q : Option mV → mS → Prop} {σ α : Nat → Nat → Int} {T : Nat → Int} {N i : Nat} {s : bSt} (hT : α 2 = T) (ok : okT T N) (C : CTk σ T N i) (D : DR T N σ α s) (w : SW s) (hq : cLn T N (lnNum T N s 2 50 i) σ α Q) : Ca X (d + 11) 96 [vR 3] (S0, σ, α) Q := by
  unfold lnNum at hq
  refine vc96_0 (c_takeOnce (k := 2) hT ok C w.2.2.2.2.2.1 D.2.2.2.2.2.2.2 (by decide) rfl (fun z σ1 F1 C1 e5 => ?_) (fun z => ?_))
  · rw [if_pos z] at hq
    refine vc96_6 ⟨fun y => absurd y (by decide), fun _ => ?_⟩
    refine c_takeNumber hT ok C1 (fun z2 σ2 F2 C2 e7 => ?_) (fun z2 σ2 F2 e6 => ?_)
    · refine vc96_16 ⟨fun _ => ?_, fun y => absurd y (by decide)⟩
      rw [e7]
      have F12 : Fσ ((3, 5) :: (4, 3) :: (4, 4) :: STg) σ (mUp σ2 4 3 (nbI T N (i + 1))) := ((F1.wk (by decide)).tr (F2.wk (by decide))).tr (Fσ.up (by decide))
      have g3 : mUp σ2 4 3 (nbI T N (i + 1)) 4 3 = nbI T N (i + 1) := up_s
      have g4 : mUp σ2 4 3 (nbI T N (i + 1)) 4 4 = s.1 5 := by
        rw [up_n (by decide), F2 4 4 (by decide), F1 4 4 (by decide)]; exact D.1.2.2.2.2
      have g5 : mUp σ2 4 3 (nbI T N (i + 1)) 3 5 = 32 * ((s.2.2.1.2.1 + 2 ^ 2 : Nat) : Int) := by rw [up_n (by decide), F2 3 5 (by decide)]; exact e5
      have C2' : CTk (mUp σ2 4 3 (nbI T N (i + 1))) T N (i + 2) := C2.up (by decide)
      generalize mUp σ2 4 3 (nbI T N (i + 1)) = σ3 at *
      refine c_takeSign hT ok C2' (fun z3 σ4 F4 C4 => vc96_38 ⟨Or.inr rfl, ?_⟩) (fun z3 => vc96_38 ⟨Or.inl rfl, ?_⟩)
      · have F14 : Fσ ((3, 5) :: (4, 3) :: (4, 4) :: STg) σ σ4 := F12.tr (F4.wk (by decide))
        refine hq.1 (by show ft _ _ = 0; rw [show nbF T N 0 50 (i + 1) = 0 from z2, ft_0]; exact z3) σ4 α (F14.wk (by decide)) Fα.rf C4 (D.num (F14.wk (by decide)) ?_ ?_ ?_ (fun j j4 j5 j6 j7 => rU_n j4))
        · show σ4 4 3 = rU s.1 4 _ 4
          rw [F4 4 3 (by decide)]
          rw [rU_s]; exact g3
        · show σ4 4 4 = rU s.1 4 _ 5
          rw [F4 4 4 (by decide)]
          rw [rU_n (by decide)]; exact g4
        · rw [F4 3 5 (by decide)]; exact g5
      · refine hq.2 (by show ft _ _ ≠ 0; rw [show nbF T N 0 50 (i + 1) = 0 from z2, ft_0]; exact z3) _ α ((F12.wk (by decide)).tr (Fσ.up (by decide))) Fα.rf ?_
        show _ = ft _ _
        rw [up_s, show nbF T N 0 50 (i + 1) = 0 from z2, ft_0]
    · refine vc96_16 ⟨fun y => absurd rfl y, fun _ => hq.2 (by show ft _ _ ≠ 0; rw [ft_n z2]; exact z2) σ2 α ((F1.wk (by decide)).tr (F2.wk (by decide))) Fα.rf ?_⟩
      show _ = ft _ _
      rw [e6]
      exact (ft_n z2).symm
  · rw [if_neg z] at hq
    exact vc96_6 ⟨fun _ => hq.2 (fa_0 (by decide)) _ α (Fσ.up (by decide)) Fα.rf up_s, fun y => absurd rfl y⟩
theorem c_loose {X : mXX} {d : Nat} {Q : Option mV → mS → Prop} {σ α : Nat → Nat → Int} {T : Nat → Int} {N i : Nat} {s : bSt} (hT : α 2 = T) (ok : okT T N) (C : CTk σ T N i) (D : DR T N σ α s) (w : SW s) (hq : cLn T N (lnNum T N s 3 99 i) σ α Q) : Ca X (d + 11) 97 [vR 3] (S0, σ, α) Q := by
  unfold lnNum at hq
  refine vc97_0 (c_takeOnce (k := 3) hT ok C w.2.2.2.2.2.1 D.2.2.2.2.2.2.2 (by decide) rfl (fun z σ1 F1 C1 e5 => ?_) (fun z => ?_))
  · rw [if_pos z] at hq
    refine vc97_6 ⟨fun y => absurd y (by decide), fun _ => ?_⟩
    refine c_takeNumber hT ok C1 (fun z2 σ2 F2 C2 e7 => ?_) (fun z2 σ2 F2 e6 => ?_)
    · refine vc97_16 ⟨fun _ => ?_, fun y => absurd y (by decide)⟩
      rw [e7]
      have F12 : Fσ ((3, 5) :: (4, 3) :: (4, 4) :: STg) σ (mUp σ2 4 4 (nbI T N (i + 1))) := ((F1.wk (by decide)).tr (F2.wk (by decide))).tr (Fσ.up (by decide))
      have g3 : mUp σ2 4 4 (nbI T N (i + 1)) 4 4 = nbI T N (i + 1) := up_s
      have g4 : mUp σ2 4 4 (nbI T N (i + 1)) 4 3 = s.1 4 := by
        rw [up_n (by decide), F2 4 3 (by decide), F1 4 3 (by decide)]; exact D.1.2.2.2.1
      have g5 : mUp σ2 4 4 (nbI T N (i + 1)) 3 5 = 32 * ((s.2.2.1.2.1 + 2 ^ 3 : Nat) : Int) := by rw [up_n (by decide), F2 3 5 (by decide)]; exact e5
      have C2' : CTk (mUp σ2 4 4 (nbI T N (i + 1))) T N (i + 2) := C2.up (by decide)
      generalize mUp σ2 4 4 (nbI T N (i + 1)) = σ3 at *
      refine c_takeSign hT ok C2' (fun z3 σ4 F4 C4 => vc97_38 ⟨Or.inr rfl, ?_⟩) (fun z3 => vc97_38 ⟨Or.inl rfl, ?_⟩)
      · have F14 : Fσ ((3, 5) :: (4, 3) :: (4, 4) :: STg) σ σ4 := F12.tr (F4.wk (by decide))
        refine hq.1 (by show ft _ _ = 0; rw [show nbF T N 0 99 (i + 1) = 0 from z2, ft_0]; exact z3) σ4 α (F14.wk (by decide)) Fα.rf C4 (D.num (F14.wk (by decide)) ?_ ?_ ?_ (fun j j4 j5 j6 j7 => rU_n j5))
        · show σ4 4 3 = rU s.1 5 _ 4
          rw [F4 4 3 (by decide)]
          rw [rU_n (by decide)]; exact g4
        · show σ4 4 4 = rU s.1 5 _ 5
          rw [F4 4 4 (by decide)]
          rw [rU_s]; exact g3
        · rw [F4 3 5 (by decide)]; exact g5
      · refine hq.2 (by show ft _ _ ≠ 0; rw [show nbF T N 0 99 (i + 1) = 0 from z2, ft_0]; exact z3) _ α ((F12.wk (by decide)).tr (Fσ.up (by decide))) Fα.rf ?_
        show _ = ft _ _
        rw [up_s, show nbF T N 0 99 (i + 1) = 0 from z2, ft_0]
    · refine vc97_16 ⟨fun y => absurd rfl y, fun _ => hq.2 (by show ft _ _ ≠ 0; rw [ft_n z2]; exact z2) σ2 α ((F1.wk (by decide)).tr (F2.wk (by decide))) Fα.rf ?_⟩
      show _ = ft _ _
      rw [e6]
      exact (ft_n z2).symm
  · rw [if_neg z] at hq
    exact vc97_6 ⟨fun _ => hq.2 (fa_0 (by decide)) _ α (Fσ.up (by decide)) Fα.rf up_s, fun y => absurd rfl y⟩
theorem c_swellL {X : mXX} {d : Nat} {Q : Option mV → mS → Prop} {σ α : Nat → Nat → Int} {T : Nat → Int} {N i : Nat} {s : bSt} (hT : α 2 = T) (ok : okT T N) (C : CTk σ T N i) (ne : NE T N (i + 1)) (D : DR T N σ α s) (w : SW s) (hq : cLn T N (lnSwell T N s i) σ α Q) : Ca X (d + 81) 91 [vR 3, vI 5, vR 15] (S0, σ, α) Q := by
  unfold lnSwell at hq
  refine vc91r3r15_0 (c_takeOnce (k := 0) hT ok C w.2.2.2.2.2.1 D.2.2.2.2.2.2.2 (by decide) rfl (fun z σ1 F1 C1 e5 => ?_) (fun z => ?_))
  · rw [if_pos z] at hq
    have go : Ca X (d + 80) 93 [vR 3, vR 15, vI 26, vI 0, vI 0] (S0, mUp σ1 15 2 0, α) (fun r s' => aI r (fun n => Go X (d + 80) 91 35 [some (vR 3), some (vI 5), some (vR 15)] [vI n] s' (0, 0) Q)) := by
      refine c_lawS (m := 3) (Or.inl rfl) rfl hT ok (C1.up (by decide)) ne up_s ⟨fun e σ2 α2 F2 E2 C2 l2 => ?_, fun e σ2 α2 F2 E2 e6 b2 => ?_⟩
      · have hT2 : α2 2 = T := (E2 2 (by decide)).trans hT
        have F12 : Fσ ((3, 5) :: (15, 2) :: (18, 2) :: STg) σ σ2 := ((F1.wk (by decide)).tr (Fσ.up (by decide))).tr (F2.wk (by decide))
        have g5 : σ2 3 5 = 32 * ((s.2.2.1.2.1 + 2 ^ 0 : Nat) : Int) := by rw [F2 3 5 (by decide), up_n (by decide)]; exact e5
        have ot : LC 18 19 σ2 α2 s.2.1.2 := by
          unfold LC
          rw [F2 18 2 (by decide), up_n (by decide), F1 18 2 (by decide), E2 19 (by decide)]
          exact D.2.2.2.2.2.1
        refine vc91r3r15_35 ⟨fun y => absurd y (by decide), fun _ => ?_⟩
        refine c_takeSign hT2 ok C2 (fun z3 σ4 F4 C4 => ?_) (fun z3 => ?_)
        · refine vc91r3r15_44 ⟨fun y => absurd y (by decide), fun _ => ?_⟩
          have F14 : Fσ ((3, 5) :: (15, 2) :: (18, 2) :: STg) σ σ4 := F12.tr (F4.wk (by decide))
          refine hq.1 (by show ft _ _ = 0; rw [e, ft_0]; exact z3) σ4 α2 (F14.wk (by decide)) (E2.wk (by decide)) C4 (D.law (F14.wk (by decide)) (E2.wk (by decide)) ?_ ?_ ?_ (fun j j6 j7 => rU_n j6))
          · unfold LC
            rw [F4 15 2 (by decide)]; exact l2
          · unfold LC
            rw [F4 18 2 (by decide)]; exact ot
          · rw [F4 3 5 (by decide)]; exact g5
        · refine vc91r3r15_44 ⟨fun _ => ?_, fun y => absurd rfl y⟩
          refine hq.2 (by show ft _ _ ≠ 0; rw [e, ft_0]; exact z3) _ α2 ((F12.wk (by decide)).tr (Fσ.up (by decide))) (E2.wk (by decide)) ?_
          show _ = ft _ _
          rw [up_s, e, ft_0]
      · refine vc91r3r15_35 ⟨fun _ => ?_, fun y => absurd rfl y⟩
        refine hq.2 (by show ft _ _ ≠ 0; rw [ft_n e]; exact e) σ2 α2 (((F1.wk (by decide)).tr (Fσ.up (by decide))).tr (F2.wk (by decide))) (E2.wk (by decide)) ?_
        show _ = ft _ _
        rw [e6, ft_n e]
    exact vc91r3r15_5 ⟨fun _ => ⟨fun _ => go, fun y => absurd y (by decide)⟩, fun y => absurd y (by decide)⟩
  · rw [if_neg z] at hq
    exact vc91r3r15_5 ⟨fun y => absurd rfl y, fun _ => hq.2 (fa_0 (by decide)) _ α (Fσ.up (by decide)) Fα.rf up_s⟩
theorem c_wishL {X : mXX} {d : Nat} {Q : Option mV → mS → Prop} {σ α : Nat → Nat → Int} {T : Nat → Int} {N i : Nat} {s : bSt} (hT : α 2 = T) (ok : okT T N) (C : CTk σ T N i) (ne : NE T N (i + 1)) (D : DR T N σ α s) (w : SW s) (hq : cLn T N (lnWish T N s i) σ α Q) : Ca X (d + 81) 91 [vR 3, vI 6, vR 18] (S0, σ, α) Q := by
  unfold lnWish at hq
  refine vc91r3r18_0 (c_takeOnce (k := 1) hT ok C w.2.2.2.2.2.1 D.2.2.2.2.2.2.2 (by decide) rfl (fun z σ1 F1 C1 e5 => ?_) (fun z => ?_))
  · rw [if_pos z] at hq
    have go : Ca X (d + 80) 93 [vR 3, vR 18, vI 22, vI 0, vI 0] (S0, mUp σ1 18 2 0, α) (fun r s' => aI r (fun n => Go X (d + 80) 91 35 [some (vR 3), some (vI 6), some (vR 18)] [vI n] s' (0, 0) Q)) := by
      refine c_lawW (m := 7) (Or.inr rfl) rfl hT ok (C1.up (by decide)) ne up_s ⟨fun e σ2 α2 F2 E2 C2 l2 => ?_, fun e σ2 α2 F2 E2 e6 b2 => ?_⟩
      · have hT2 : α2 2 = T := (E2 2 (by decide)).trans hT
        have F12 : Fσ ((3, 5) :: (15, 2) :: (18, 2) :: STg) σ σ2 := ((F1.wk (by decide)).tr (Fσ.up (by decide))).tr (F2.wk (by decide))
        have g5 : σ2 3 5 = 32 * ((s.2.2.1.2.1 + 2 ^ 1 : Nat) : Int) := by rw [F2 3 5 (by decide), up_n (by decide)]; exact e5
        have ot : LC 15 16 σ2 α2 s.2.1.1 := by
          unfold LC
          rw [F2 15 2 (by decide), up_n (by decide), F1 15 2 (by decide), E2 16 (by decide)]
          exact D.2.2.2.2.1
        refine vc91r3r18_35 ⟨fun y => absurd y (by decide), fun _ => ?_⟩
        refine c_takeSign hT2 ok C2 (fun z3 σ4 F4 C4 => ?_) (fun z3 => ?_)
        · refine vc91r3r18_44 ⟨fun y => absurd y (by decide), fun _ => ?_⟩
          have F14 : Fσ ((3, 5) :: (15, 2) :: (18, 2) :: STg) σ σ4 := F12.tr (F4.wk (by decide))
          refine hq.1 (by show ft _ _ = 0; rw [e, ft_0]; exact z3) σ4 α2 (F14.wk (by decide)) (E2.wk (by decide)) C4 (D.law (F14.wk (by decide)) (E2.wk (by decide)) ?_ ?_ ?_ (fun j j6 j7 => rU_n j7))
          · unfold LC
            rw [F4 15 2 (by decide)]; exact ot
          · unfold LC
            rw [F4 18 2 (by decide)]; exact l2
          · rw [F4 3 5 (by decide)]; exact g5
        · refine vc91r3r18_44 ⟨fun _ => ?_, fun y => absurd rfl y⟩
          refine hq.2 (by show ft _ _ ≠ 0; rw [e, ft_0]; exact z3) _ α2 ((F12.wk (by decide)).tr (Fσ.up (by decide))) (E2.wk (by decide)) ?_
          show _ = ft _ _
          rw [up_s, e, ft_0]
      · refine vc91r3r18_35 ⟨fun _ => ?_, fun y => absurd rfl y⟩
        refine hq.2 (by show ft _ _ ≠ 0; rw [ft_n e]; exact e) σ2 α2 (((F1.wk (by decide)).tr (Fσ.up (by decide))).tr (F2.wk (by decide))) (E2.wk (by decide)) ?_
        show _ = ft _ _
        rw [e6, ft_n e]
    exact vc91r3r18_5 ⟨fun _ => ⟨fun y => absurd rfl y, fun _ => go⟩, fun y => absurd y (by decide)⟩
  · rw [if_neg z] at hq
    exact vc91r3r18_5 ⟨fun y => absurd rfl y, fun _ => hq.2 (fa_0 (by decide)) _ α (Fσ.up (by decide)) Fα.rf up_s⟩
theorem c_cable {X : mXX} {d : Nat} {Q : Option mV → mS → Prop} {σ α : Nat → Nat → Int} {T : Nat → Int} {N i : Nat} {s : bSt} (hT : α 2 = T) (ok : okT T N) (C : CTk σ T N i) (D : DR T N σ α s) (w : SW s) (hq : cLn T N (lnCable T N s i) σ α Q) : Ca X (d + 11) 90 [vR 3] (S0, σ, α) Q := by
  have e4 := D.2.2.2.2.2.2.1
  have b2 := w.1.2.2.1
  have ew : wr (σ 4 2 - 1) = s.1 2 - 1 := by
    rw [D.1.2.2.1]
    generalize s.1 2 = v at *
    clear hq
    rw [wr_of (by omega) (by omega)]
  unfold lnCable at hq
  refine vc90_0 ?_
  rw [e4]
  refine vc3r4_0 ⟨fun z => absurd z (Int.not_lt.mpr (Int.ofNat_nonneg _)), fun _ => ⟨fun z => ?_, fun z => ?_⟩⟩
  · rw [ew] at z
    rw [if_neg z] at hq
    refine vc90_13 ⟨fun y => absurd rfl y, fun _ => c_fail ok.1 C (by decide) (vc90_21 ⟨Or.inl rfl, hq.2 (fa_0 (by decide)) _ α (Fσ.up (by decide)) Fα.rf up_s⟩)⟩
  · rw [ew] at z
    rw [if_pos z] at hq
    have E : ft (ft (ft (nbF T N 1 9 (i + 1)) (wdF T N 13 (i + 2))) (nbF T N 0 99 (i + 3))) (sgF T N 59 (i + 4)) = ft (nbF T N 1 9 (i + 1)) (ft (wdF T N 13 (i + 2)) (ft (nbF T N 0 99 (i + 3)) (sgF T N 59 (i + 4)))) := by rw [ft_a, ft_a]
    rw [E] at hq
    have k6 : s.2.2.1.1 < 6 := by
      have := b2.2
      generalize s.1 2 = v at *
      clear hq ew E
      omega
    have n3 := fun (h : nbF T N 1 9 (i + 1) = 0) => h
    have ek := wrS (k := s.2.2.1.1) (by clear hq ew E z; omega)
    refine vc90_13 ⟨fun _ => ?_, fun y => absurd y (by decide)⟩
    refine c_adv hT ok C (fun σ1 F1 C1 => vc90_29 (c_takeNumber hT ok C1 (fun z1 σ2 F2 C2 e7 => ?_) (fun z1 σ2 F2 e6 => ?_)))
    · have F12 : Fσ STg σ σ2 := (F1.wk S5_T).tr (F2.wk (by decide))
      refine vc90_36 ⟨fun _ => ⟨mInA_n k6, ?_⟩, fun y => absurd y (by decide)⟩
      rw [Int.toNat_natCast, e7]
      have hT2 : mUp α 13 s.2.2.1.1 (nbI T N (i + 1)) 2 = T := by rw [up_o (by decide)]; exact hT
      refine c_takeWord (w := 13) hT2 ok C2 (by decide) (fun z2 σ3 F3 C3 => ?_) (fun z2 => ?_)
      · have F13 : Fσ STg σ σ3 := F12.tr (F3.wk S5_T)
        refine vc90_60 ⟨fun y => absurd y (by decide), fun _ => ?_⟩
        refine c_takeNumber hT2 ok C3 (fun z3 σ4 F4 C4 e7' => ?_) (fun z3 σ4 F4 e6 => ?_)
        · have F14 : Fσ STg σ σ4 := F13.tr (F4.wk (by decide))
          refine vc90_70 ⟨fun _ => ⟨mInA_n k6, ?_⟩, fun y => absurd y (by decide)⟩
          rw [Int.toNat_natCast, e7', ek]
          have hT3 : mUp (mUp α 13 s.2.2.1.1 (nbI T N (i + 1))) 14 s.2.2.1.1 (nbI T N (i + 3)) 2 = T := by rw [up_o (by decide)]; exact hT2
          have e1 : ft (nbF T N 1 9 (i + 1)) (ft (wdF T N 13 (i + 2)) (ft (nbF T N 0 99 (i + 3)) (sgF T N 59 (i + 4)))) = sgF T N 59 (i + 4) := by
            rw [z1, ft_0, show wdF T N 13 (i + 2) = 0 from z2, ft_0, show nbF T N 0 99 (i + 3) = 0 from z3, ft_0]
          rw [e1] at hq
          refine c_takeSign hT3 ok (C4.up (by decide)) (fun z5 σ5 F5 C5 => vc90_101 ⟨Or.inr rfl, ?_⟩) (fun z5 => vc90_101 ⟨Or.inl rfl, ?_⟩)
          · have F15 : Fσ ((3, 4) :: STg) σ σ5 := ((F14.wk (by decide)).tr (Fσ.up (by decide))).tr (F5.wk (by decide))
            refine hq.1 z5 σ5 _ (F15.wk (by decide)) ((Fα.up (by decide)).tr (Fα.up (by decide))) C5 (D.link (F15.wk (by decide)) ((Fα.up (by decide)).tr (Fα.up (by decide))) (fun k hk => ?_) ?_ (fun j hj => ?_) b2.2)
            · have dk := D.2.2.2.1 k hk
              rw [up_o (x := 13) (by decide), up_f, up_f, up_o (x := 14) (a := 13) (by decide)]
              by_cases e : k = s.2.2.1.1
              · subst e
                refine ⟨?_, ?_⟩
                · show (if s.2.2.1.1 = s.2.2.1.1 then nbI T N (i + 1) else _) = _
                  rw [if_pos rfl, rU_n (by omega), rU_s]
                · show (if s.2.2.1.1 = s.2.2.1.1 then nbI T N (i + 3) else _) = _
                  rw [if_pos rfl, rU_s]
              · refine ⟨?_, ?_⟩
                · show (if k = s.2.2.1.1 then nbI T N (i + 1) else _) = _
                  rw [if_neg e, rU_n (by omega), rU_n (by omega)]; exact dk.1
                · show (if k = s.2.2.1.1 then nbI T N (i + 3) else _) = _
                  rw [if_neg e, rU_n (by omega), rU_n (by omega)]; exact dk.2
            · rw [F5 3 4 (by decide), up_s]
            · rw [rU_n (by omega), rU_n (by omega)]
          · refine hq.2 z5 _ _ ((((F14.wk TgT).wk ST_B).tr (Fσ.up (by decide))).tr (Fσ.up (by decide))) ((Fα.up (by decide)).tr (Fα.up (by decide))) up_s
        · have e1 : ft (nbF T N 1 9 (i + 1)) (ft (wdF T N 13 (i + 2)) (ft (nbF T N 0 99 (i + 3)) (sgF T N 59 (i + 4)))) = nbF T N 0 99 (i + 3) := by
            rw [z1, ft_0, show wdF T N 13 (i + 2) = 0 from z2, ft_0]
            exact ft_n z3
          rw [e1] at hq
          exact vc90_70 ⟨fun y => absurd rfl y, fun _ => hq.2 z3 σ4 _ (((F13.wk TgT).tr (F4.wk (by decide))).wk ST_B) (Fα.up (by decide)) e6⟩
      · have e1 : ft (nbF T N 1 9 (i + 1)) (ft (wdF T N 13 (i + 2)) (ft (nbF T N 0 99 (i + 3)) (sgF T N 59 (i + 4)))) = wdF T N 13 (i + 2) := by
          rw [z1, ft_0]
          exact ft_n z2
        rw [e1] at hq
        exact vc90_60 ⟨fun _ => hq.2 z2 _ _ F12.bd (Fα.up (by decide)) up_s, fun y => absurd rfl y⟩
    · rw [ft_n z1] at hq
      exact vc90_36 ⟨fun y => absurd rfl y, fun _ => hq.2 z1 σ2 α (((F1.wk S5_K).tr (F2.wk (by decide))).wk ST_B) Fα.rf e6⟩
