/-! The law's own storm in the small machine; its loop (printed by wip/tool/genloop.py) -/
def noP : {f : mPr // mPrOk f} := ⟨fun _ _ _ _ => False, fun _ _ _ _ _ _ h => h⟩
/-- where storm does not throw -/
def stB (σ : Nat → Nat → Int) (v : Int) : Prop := 2 ≤ σ 23 2 ∧ -1 ≤ v ∧ v < σ 23 2
def prL (kx : Nat × (Nat → Int)) : mPr := fun args s b K => ∃ (v : Int) (σ α : Nat → Nat → Int), args = [vR 0, vI v, vR 127] ∧ s = (S0, σ, α) ∧ (1 ≤ b.1 ∧ 6 ≤ b.2) ∧ (¬ stB σ v → K (some (vI 1)) (S0, σ, α) (b.1 - 1, b.2 - 6)) ∧ (stB σ v → cal (kK kx) noP.1 20 123 [vR 0, vI v] (S0, σ, α) (fun r s' => ∃ (n : Int) (σ' α' : Nat → Nat → Int), r = some (vI n) ∧ s' = (S0, σ', α') ∧ K (some (vI 0)) (S0, σ', mUp α' 127 0 n) (b.1 - 1, b.2 - 6)))
theorem prL_ok {kx : Nat × (Nat → Int)} : mPrOk (prL kx) := by
  intro args s b K K' h ⟨v, σ, α, h1, h2, h3, h4, h5⟩
  refine ⟨v, σ, α, h1, h2, h3, fun q => h _ _ _ (h4 q), fun q => goD_mono noP.2 _ _ _ _ _ _ _ _ _ ?_ (h5 q)⟩
  rintro r s' ⟨n, σ', α', g1, g2, g3⟩
  exact ⟨n, σ', α', g1, g2, h _ _ _ g3⟩
abbrev XL (kx : Nat × (Nat → Int)) : mXX := (kx, ⟨prL kx, prL_ok⟩)
theorem INX.c127 {σ α α' : Nat → Nat → Int} {P W : pRow} {H : Int} (I : INX σ α P W H) (E : Fα [127] α α') : INX σ α' P W H := by
  have ea : α' 110 = α 110 := E 110 (by decide)
  obtain ⟨⟨⟨C, w⟩, ⟨l1, o1⟩, ⟨l2, o2⟩, z, h3, M, T⟩, wd, lb⟩ := I
  have r : ∀ i, i < 81 → α' i = α i := fun i i2 => E i (fun q => by simp at q; omega)
  have e7 : α' 117 = α 117 := E 117 (by decide)
  have mk : ∀ K m, K ≤ 73 → MKr σ α H K m → MKr σ α' H K m := fun K m k2 M => M.st w (Int.le_refl _) rfl rfl e7 (by rw [ea]; exact tld.rf) (fun j _ => by rw [ea]) (fun i hi => r _ (by omega))
  refine ⟨⟨⟨by rw [ea]; exact C.fr E, by rw [ea]; exact w⟩, ⟨l1.st (by rw [ea]) (E 111 (by decide)) (E 112 (by decide)), o1⟩, ⟨l2.st (by rw [ea]) (E 111 (by decide)) (E 112 (by decide)), o2⟩, by rw [E 124 (by decide)]; exact z, by rw [ea]; exact h3, ⟨mk 49 0 (by decide) M.1, mk 57 1 (by decide) M.2.1, mk 65 2 (by decide) M.2.2.1, mk 73 3 (by decide) M.2.2.2⟩, ?_⟩, wd.fr E, lb.st (by rw [ea]) (by rw [ea])⟩
  unfold TPE
  rw [E 105 (by decide), E 2 (by decide)]
  exact T
theorem stB_s {σ α : Nat → Nat → Int} {P W : pRow} {H v : Int} (I : INX σ α P W H) : stB σ v ↔ smB2 (α 110) v := by
  unfold stB smB2
  rw [I.1.1.1.1.2.2.1]
/-- storm, in the class by the law's own storm, and in the reference -/
theorem b_storm {kx : Nat × (Nat → Int)} {d : Nat} {σ α : Nat → Nat → Int} {P W : pRow} {H v : Int} {b : mB} {Q : Option mV → mS → Prop} {l4 : Int} {x5 x6 : Option mV} (I : INX σ α P W H) (hb : 1 ≤ b.1 ∧ 6 ≤ b.2) (ev : v = kx.2 (Int.toNat (wr (l4 + 1)))) (i1 : mInA (wr (l4 + 1)) kx.1) (hQ : ∀ σ' α' b' x5' x6', b' = (b.1 - 1, b.2 - 6) → INX σ' α' P W (H + 100) → Go (XL kx) (d + 90) 237 1059 [some (vK 3), some (vR 0), some (vR 104), some (vR 127), some (vI l4), x5', x6'] [] (S0, σ', α') b' Q) : Go (XL kx) (d + 90) 237 827 [some (vK 3), some (vR 0), some (vR 104), some (vR 127), some (vI l4), x5, x6] [] (S0, σ, α) b Q := by
  obtain ⟨n, hn, n7⟩ := nOf I.1.1.2.2.2.1
  subst ev
  refine vc237_827 ⟨i1, ?_⟩
  obtain ⟨v, hv⟩ : ∃ v, kx.2 (Int.toNat (wr (l4 + 1))) = v := ⟨_, rfl⟩
  have dn : d + 90 = (d + 83 - n) + n + 7 := by clear hn; omega
  refine ⟨v, σ, α, (by subst hv; rfl), rfl, hb, fun q => ?_, fun q => ?_⟩
  · refine vc237_838 ⟨i1, ?_⟩
    show Ca (XL kx) (d + 90) 216 [vR 104, vI (kx.2 (Int.toNat (wr (l4 + 1))))] (S0, σ, α) _
    rw [hv]
    have q2 : ¬ smB2 (α 110) v := fun y => q ((stB_s I).mpr y)
    have hm : Ca (XL kx) ((d + 83 - n) + n + 7) 216 [vR 104, vI v] (S0, σ, α) (fun r s' => aI r (fun m => Go (XL kx) (d + 90) 237 850 [some (vK 3), some (vR 0), some (vR 104), some (vR 127), some (vI l4), some (vI 1), x6] [vI m] s' (b.1 - 1, b.2 - 6) Q)) := by
      refine m_storm I.1.1.2 I.1.2.1.1 I.1.2.1.2 hn (fun y => absurd y q2) (fun _ => vc237_850 (vc124_0 (vc237_856 ?_)))
      rw [show mUp σ 104 0 1 104 0 = 1 from up_s]
      exact ⟨fun _ => ⟨fun _ => hQ _ _ _ _ _ rfl (I.q1 (Z1 := []) (Z2 := []) Fα.rf Fα.rf I.1.1.1), fun y => absurd y (by decide)⟩, fun y => absurd rfl y⟩
    rw [← dn] at hm
    exact hm
  · have hs : cal (kK kx) noP.1 ((14 - n) + n + 6) 123 [vR 0, vI v] (S0, σ, α) (fun r s' => ∃ (n : Int) (σ' α' : Nat → Nat → Int), r = some (vI n) ∧ s' = (S0, σ', α') ∧ aI (some (vI 0)) (fun m => Go (XL kx) (d + 90) 237 838 [some (vK 3), some (vR 0), some (vR 104), some (vR 127), some (vI l4), x5, x6] [vI m] (S0, σ', mUp α' 127 0 n) (b.1 - 1, b.2 - 6) Q)) := by
      have q2 : 2 ≤ σ 23 2 ∧ -1 ≤ v ∧ v < σ 23 2 := q
      have r2 : σ 23 2 = (n : Int) := I.1.1.1.1.2.2.1.trans hn
      rw [r2] at q2
      refine c_storm (X := (kx, noP)) I.1.1.1 I.1.1.2 I.1.2.1.2 hn (by clear hn r2 dn q; omega) ⟨q2.2.1, q2.2.2⟩ (fun σ1 α1 F1 E1 C1 => ⟨_, σ1, α1, rfl, rfl, vc237_838 ⟨i1, ?_⟩⟩)
      show Ca (XL kx) (d + 90) 216 [vR 104, vI (kx.2 (Int.toNat (wr (l4 + 1))))] (S0, σ1, _) _
      rw [hv]
      have I1 : INX σ1 α1 P W H := I.qry (F1.wk (by decide)) (E1.wk (by decide)) (C1.s0 F1) (by rw [E1 124 (by decide)]; exact I.1.2.2.2.1)
      have e1 : α1 110 = α 110 := E1 110 (by decide)
      generalize ez : stmR (α 110) P n v = z
      have I2 : INX σ1 (mUp α1 127 0 z) P W H := I1.c127 (Fα.up (by decide))
      have e2 : mUp α1 127 0 z 110 = α 110 := (up_o (by decide)).trans e1
      have z7 : mUp α1 127 0 z 127 0 = z := up_s
      generalize mUp α1 127 0 z = α2 at I2 e2 z7
      have q3 : smB2 (α2 110) v := by rw [e2]; exact (stB_s I).mp q
      have hm : Ca (XL kx) ((d + 83 - n) + n + 7) 216 [vR 104, vI v] (S0, σ1, α2) (fun r s' => aI r (fun m => Go (XL kx) (d + 90) 237 850 [some (vK 3), some (vR 0), some (vR 104), some (vR 127), some (vI l4), some (vI 0), x6] [vI m] s' (b.1 - 1, b.2 - 6) Q)) := by
        refine m_storm I2.1.1.2 I2.1.2.1.1 I2.1.2.1.2 (by rw [e2]; exact hn) (fun _ σ3 α3 F3 t3 E3 => vc237_850 (vc124_0 (vc237_856 ?_))) (fun y => absurd q3 y)
        rw [t3, e2, ez, show α3 127 0 = z by rw [E3 127 (by decide)]; exact z7]
        have c0 : lCmp z z = 0 := by unfold lCmp; rw [if_neg (Int.lt_irrefl _), if_pos rfl]
        exact ⟨fun _ => ⟨fun y => absurd rfl y, fun _ => ⟨fun _ => hQ _ _ _ _ _ rfl (I2.q0 F3 (Z1 := []) Fα.rf E3 I2.1.1.1), fun y => absurd c0 y⟩⟩, fun y => absurd rfl y⟩
      rw [← dn] at hm
      exact hm
    rw [show (14 - n) + n + 6 = 20 by clear hn dn; omega] at hs
    exact hs
theorem l_boat {kx : Nat × (Nat → Int)} {d : Nat} {σ α : Nat → Nat → Int} {P W : pRow} {H : Int} {b : mB} {Q : Option mV → mS → Prop} {l4 : Int} {x5 x6 : Option mV} (I : INX σ α P W H) (hH : H + 100 ≤ 100000) (hs : ∀ j, r32 (kx.2 j)) (ii : ∀ j : Int, 1 ≤ j → j ≤ 6 → mInA (wr (l4 + j)) kx.1) (hQ : ∀ σ' α' P' W', INX σ' α' P' W' (H + 100) → Go (XL kx) (d + 90) 237 1059 [some (vK 3), some (vR 0), some (vR 104), some (vR 127), some (vI l4), x5, x6] [] (S0, σ', α') b Q) : Go (XL kx) (d + 90) 237 304 [some (vK 3), some (vR 0), some (vR 104), some (vR 127), some (vI l4), x5, x6] [] (S0, σ, α) b Q := by
  refine vc237_304 ⟨ii 1 (by decide) (by decide), ii 2 (by decide) (by decide), b_boat σ α P W H _ _ I hH (fun n σ1 α1 h => vc237_320 ⟨ii 1 (by decide) (by decide), ii 2 (by decide) (by decide), h⟩) (fun n σ2 α2 P' W' I2 => vc237_336 ⟨fun _ => hQ σ2 α2 P' W' I2, fun y => absurd rfl y⟩)⟩
theorem l_link {kx : Nat × (Nat → Int)} {d : Nat} {σ α : Nat → Nat → Int} {P W : pRow} {H : Int} {b : mB} {Q : Option mV → mS → Prop} {l4 : Int} {x5 x6 : Option mV} (I : INX σ α P W H) (hH : H + 100 ≤ 100000) (hs : ∀ j, r32 (kx.2 j)) (ii : ∀ j : Int, 1 ≤ j → j ≤ 6 → mInA (wr (l4 + j)) kx.1) (hQ : ∀ σ' α' P' W', INX σ' α' P' W' (H + 100) → Go (XL kx) (d + 90) 237 1059 [some (vK 3), some (vR 0), some (vR 104), some (vR 127), some (vI l4), x5, x6] [] (S0, σ', α') b Q) : Go (XL kx) (d + 90) 237 341 [some (vK 3), some (vR 0), some (vR 104), some (vR 127), some (vI l4), x5, x6] [] (S0, σ, α) b Q := by
  refine vc237_341 ⟨ii 1 (by decide) (by decide), ii 2 (by decide) (by decide), b_link σ α P W H _ _ I hH (fun n σ1 α1 h => vc237_357 ⟨ii 1 (by decide) (by decide), ii 2 (by decide) (by decide), h⟩) (fun n σ2 α2 P' W' I2 => vc237_373 ⟨fun _ => hQ σ2 α2 P' W' I2, fun y => absurd rfl y⟩)⟩
theorem l_cell {kx : Nat × (Nat → Int)} {d : Nat} {σ α : Nat → Nat → Int} {P W : pRow} {H : Int} {b : mB} {Q : Option mV → mS → Prop} {l4 : Int} {x5 x6 : Option mV} (I : INX σ α P W H) (hH : H + 100 ≤ 100000) (hs : ∀ j, r32 (kx.2 j)) (ii : ∀ j : Int, 1 ≤ j → j ≤ 6 → mInA (wr (l4 + j)) kx.1) (hQ : ∀ σ' α' P' W', INX σ' α' P' W' (H + 100) → Go (XL kx) (d + 90) 237 1059 [some (vK 3), some (vR 0), some (vR 104), some (vR 127), some (vI l4), x5, x6] [] (S0, σ', α') b Q) : Go (XL kx) (d + 90) 237 378 [some (vK 3), some (vR 0), some (vR 104), some (vR 127), some (vI l4), x5, x6] [] (S0, σ, α) b Q := by
  refine vc237_378 ⟨ii 1 (by decide) (by decide), ii 2 (by decide) (by decide), ii 3 (by decide) (by decide), b_cell σ α P W H _ _ I hH (fun n σ1 α1 h => vc237_400 ⟨ii 1 (by decide) (by decide), ii 2 (by decide) (by decide), ii 3 (by decide) (by decide), h⟩) (fun n σ2 α2 P' W' I2 => vc237_422 ⟨fun _ => hQ σ2 α2 P' W' I2, fun y => absurd rfl y⟩)⟩
theorem l_order {kx : Nat × (Nat → Int)} {d : Nat} {σ α : Nat → Nat → Int} {P W : pRow} {H : Int} {b : mB} {Q : Option mV → mS → Prop} {l4 : Int} {x5 x6 : Option mV} (I : INX σ α P W H) (hH : H + 100 ≤ 100000) (hs : ∀ j, r32 (kx.2 j)) (ii : ∀ j : Int, 1 ≤ j → j ≤ 6 → mInA (wr (l4 + j)) kx.1) (hQ : ∀ σ' α' P' W', INX σ' α' P' W' (H + 100) → Go (XL kx) (d + 90) 237 1059 [some (vK 3), some (vR 0), some (vR 104), some (vR 127), some (vI l4), x5, x6] [] (S0, σ', α') b Q) : Go (XL kx) (d + 90) 237 427 [some (vK 3), some (vR 0), some (vR 104), some (vR 127), some (vI l4), x5, x6] [] (S0, σ, α) b Q := by
  refine vc237_427 ⟨ii 1 (by decide) (by decide), ii 2 (by decide) (by decide), b_order σ α P W H _ _ I hH (fun n σ1 α1 h => vc237_443 ⟨ii 1 (by decide) (by decide), ii 2 (by decide) (by decide), h⟩) (fun n σ2 α2 P' W' I2 => vc237_459 ⟨fun _ => hQ σ2 α2 P' W' I2, fun y => absurd rfl y⟩)⟩
theorem l_hours {kx : Nat × (Nat → Int)} {d : Nat} {σ α : Nat → Nat → Int} {P W : pRow} {H : Int} {b : mB} {Q : Option mV → mS → Prop} {l4 : Int} {x5 x6 : Option mV} (I : INX σ α P W H) (hH : H + 100 ≤ 100000) (hs : ∀ j, r32 (kx.2 j)) (ii : ∀ j : Int, 1 ≤ j → j ≤ 6 → mInA (wr (l4 + j)) kx.1) (hQ : ∀ σ' α' P' W', INX σ' α' P' W' (H + 100) → Go (XL kx) (d + 90) 237 1059 [some (vK 3), some (vR 0), some (vR 104), some (vR 127), some (vI l4), x5, x6] [] (S0, σ', α') b Q) : Go (XL kx) (d + 90) 237 464 [some (vK 3), some (vR 0), some (vR 104), some (vR 127), some (vI l4), x5, x6] [] (S0, σ, α) b Q := by
  refine vc237_464 ⟨ii 1 (by decide) (by decide), b_hours σ α P W H _ _ I hH (fun n σ1 α1 h => vc237_474 ⟨ii 1 (by decide) (by decide), h⟩) (fun n σ2 α2 P' W' I2 => vc237_484 ⟨fun _ => hQ σ2 α2 P' W' I2, fun y => absurd rfl y⟩)⟩
theorem l_mend {kx : Nat × (Nat → Int)} {d : Nat} {σ α : Nat → Nat → Int} {P W : pRow} {H : Int} {b : mB} {Q : Option mV → mS → Prop} {l4 : Int} {x5 x6 : Option mV} (I : INX σ α P W H) (hH : H + 100 ≤ 100000) (hs : ∀ j, r32 (kx.2 j)) (ii : ∀ j : Int, 1 ≤ j → j ≤ 6 → mInA (wr (l4 + j)) kx.1) (hQ : ∀ σ' α' P' W', INX σ' α' P' W' (H + 100) → Go (XL kx) (d + 90) 237 1059 [some (vK 3), some (vR 0), some (vR 104), some (vR 127), some (vI l4), x5, x6] [] (S0, σ', α') b Q) : Go (XL kx) (d + 90) 237 489 [some (vK 3), some (vR 0), some (vR 104), some (vR 127), some (vI l4), x5, x6] [] (S0, σ, α) b Q := by
  refine vc237_489 ⟨ii 1 (by decide) (by decide), b_mend σ α P W H _ _ I hH (fun n σ1 α1 h => vc237_499 ⟨ii 1 (by decide) (by decide), h⟩) (fun n σ2 α2 P' W' I2 => vc237_509 ⟨fun _ => hQ σ2 α2 P' W' I2, fun y => absurd rfl y⟩)⟩
theorem l_grip {kx : Nat × (Nat → Int)} {d : Nat} {σ α : Nat → Nat → Int} {P W : pRow} {H : Int} {b : mB} {Q : Option mV → mS → Prop} {l4 : Int} {x5 x6 : Option mV} (I : INX σ α P W H) (hH : H + 100 ≤ 100000) (hs : ∀ j, r32 (kx.2 j)) (ii : ∀ j : Int, 1 ≤ j → j ≤ 6 → mInA (wr (l4 + j)) kx.1) (hQ : ∀ σ' α' P' W', INX σ' α' P' W' (H + 100) → Go (XL kx) (d + 90) 237 1059 [some (vK 3), some (vR 0), some (vR 104), some (vR 127), some (vI l4), x5, x6] [] (S0, σ', α') b Q) : Go (XL kx) (d + 90) 237 514 [some (vK 3), some (vR 0), some (vR 104), some (vR 127), some (vI l4), x5, x6] [] (S0, σ, α) b Q := by
  refine vc237_514 ⟨ii 1 (by decide) (by decide), ii 2 (by decide) (by decide), ii 3 (by decide) (by decide), (b_grip (hs _) (hs _)) σ α P W H _ _ I hH (fun n σ1 α1 h => vc237_536 ⟨ii 1 (by decide) (by decide), ii 2 (by decide) (by decide), ii 3 (by decide) (by decide), h⟩) (fun n σ2 α2 P' W' I2 => vc237_558 ⟨fun _ => hQ σ2 α2 P' W' I2, fun y => absurd rfl y⟩)⟩
theorem l_soon {kx : Nat × (Nat → Int)} {d : Nat} {σ α : Nat → Nat → Int} {P W : pRow} {H : Int} {b : mB} {Q : Option mV → mS → Prop} {l4 : Int} {x5 x6 : Option mV} (I : INX σ α P W H) (hH : H + 100 ≤ 100000) (hs : ∀ j, r32 (kx.2 j)) (ii : ∀ j : Int, 1 ≤ j → j ≤ 6 → mInA (wr (l4 + j)) kx.1) (hQ : ∀ σ' α' P' W', INX σ' α' P' W' (H + 100) → Go (XL kx) (d + 90) 237 1059 [some (vK 3), some (vR 0), some (vR 104), some (vR 127), some (vI l4), x5, x6] [] (S0, σ', α') b Q) : Go (XL kx) (d + 90) 237 563 [some (vK 3), some (vR 0), some (vR 104), some (vR 127), some (vI l4), x5, x6] [] (S0, σ, α) b Q := by
  refine vc237_563 ⟨ii 1 (by decide) (by decide), ii 2 (by decide) (by decide), ii 3 (by decide) (by decide), b_soon σ α P W H _ _ I hH (fun n σ1 α1 h => vc237_585 ⟨ii 1 (by decide) (by decide), ii 2 (by decide) (by decide), ii 3 (by decide) (by decide), h⟩) (fun n σ2 α2 P' W' I2 => vc237_607 ⟨fun _ => hQ σ2 α2 P' W' I2, fun y => absurd rfl y⟩)⟩
theorem l_wish {kx : Nat × (Nat → Int)} {d : Nat} {σ α : Nat → Nat → Int} {P W : pRow} {H : Int} {b : mB} {Q : Option mV → mS → Prop} {l4 : Int} {x5 x6 : Option mV} (I : INX σ α P W H) (hH : H + 100 ≤ 100000) (hs : ∀ j, r32 (kx.2 j)) (ii : ∀ j : Int, 1 ≤ j → j ≤ 6 → mInA (wr (l4 + j)) kx.1) (hQ : ∀ σ' α' P' W', INX σ' α' P' W' (H + 100) → Go (XL kx) (d + 90) 237 1059 [some (vK 3), some (vR 0), some (vR 104), some (vR 127), some (vI l4), x5, x6] [] (S0, σ', α') b Q) : Go (XL kx) (d + 90) 237 612 [some (vK 3), some (vR 0), some (vR 104), some (vR 127), some (vI l4), x5, x6] [] (S0, σ, α) b Q := by
  refine vc237_612 ⟨ii 1 (by decide) (by decide), ii 2 (by decide) (by decide), b_wish σ α P W H _ _ I hH (fun n σ1 α1 h => vc237_628 ⟨ii 1 (by decide) (by decide), ii 2 (by decide) (by decide), h⟩) (fun n σ2 α2 P' W' I2 => vc237_644 ⟨fun _ => hQ σ2 α2 P' W' I2, fun y => absurd rfl y⟩)⟩
theorem l_canGet {kx : Nat × (Nat → Int)} {d : Nat} {σ α : Nat → Nat → Int} {P W : pRow} {H : Int} {b : mB} {Q : Option mV → mS → Prop} {l4 : Int} {x5 x6 : Option mV} (I : INX σ α P W H) (hH : H + 100 ≤ 100000) (hs : ∀ j, r32 (kx.2 j)) (ii : ∀ j : Int, 1 ≤ j → j ≤ 6 → mInA (wr (l4 + j)) kx.1) (hQ : ∀ σ' α' P' W', INX σ' α' P' W' (H + 100) → Go (XL kx) (d + 90) 237 1059 [some (vK 3), some (vR 0), some (vR 104), some (vR 127), some (vI l4), x5, x6] [] (S0, σ', α') b Q) : Go (XL kx) (d + 90) 237 690 [some (vK 3), some (vR 0), some (vR 104), some (vR 127), some (vI l4), x5, x6] [] (S0, σ, α) b Q := by
  refine vc237_690 ⟨ii 1 (by decide) (by decide), b_canGet σ α P W H _ _ I hH (fun n σ1 α1 h => vc237_700 ⟨ii 1 (by decide) (by decide), h⟩) (fun n σ2 α2 P' W' I2 => vc237_710 ⟨fun _ => hQ σ2 α2 P' W' I2, fun y => absurd rfl y⟩)⟩
theorem l_worth {kx : Nat × (Nat → Int)} {d : Nat} {σ α : Nat → Nat → Int} {P W : pRow} {H : Int} {b : mB} {Q : Option mV → mS → Prop} {l4 : Int} {x5 x6 : Option mV} (I : INX σ α P W H) (hH : H + 100 ≤ 100000) (hs : ∀ j, r32 (kx.2 j)) (ii : ∀ j : Int, 1 ≤ j → j ≤ 6 → mInA (wr (l4 + j)) kx.1) (hQ : ∀ σ' α' P' W', INX σ' α' P' W' (H + 100) → Go (XL kx) (d + 90) 237 1059 [some (vK 3), some (vR 0), some (vR 104), some (vR 127), some (vI l4), x5, x6] [] (S0, σ', α') b Q) : Go (XL kx) (d + 90) 237 715 [some (vK 3), some (vR 0), some (vR 104), some (vR 127), some (vI l4), x5, x6] [] (S0, σ, α) b Q := by
  refine vc237_715 ⟨ii 1 (by decide) (by decide), ii 2 (by decide) (by decide), b_worth σ α P W H _ _ I hH (fun n σ1 α1 h => vc237_731 ⟨ii 1 (by decide) (by decide), ii 2 (by decide) (by decide), h⟩) (fun n σ2 α2 P' W' I2 => vc237_747 ⟨fun _ => hQ σ2 α2 P' W' I2, fun y => absurd rfl y⟩)⟩
theorem l_share {kx : Nat × (Nat → Int)} {d : Nat} {σ α : Nat → Nat → Int} {P W : pRow} {H : Int} {b : mB} {Q : Option mV → mS → Prop} {l4 : Int} {x5 x6 : Option mV} (I : INX σ α P W H) (hH : H + 100 ≤ 100000) (hs : ∀ j, r32 (kx.2 j)) (ii : ∀ j : Int, 1 ≤ j → j ≤ 6 → mInA (wr (l4 + j)) kx.1) (hQ : ∀ σ' α' P' W', INX σ' α' P' W' (H + 100) → Go (XL kx) (d + 90) 237 1059 [some (vK 3), some (vR 0), some (vR 104), some (vR 127), some (vI l4), x5, x6] [] (S0, σ', α') b Q) : Go (XL kx) (d + 90) 237 752 [some (vK 3), some (vR 0), some (vR 104), some (vR 127), some (vI l4), x5, x6] [] (S0, σ, α) b Q := by
  refine vc237_752 ⟨ii 1 (by decide) (by decide), ii 2 (by decide) (by decide), b_share σ α P W H _ _ I hH (fun n σ1 α1 h => vc237_768 ⟨ii 1 (by decide) (by decide), ii 2 (by decide) (by decide), h⟩) (fun n σ2 α2 P' W' I2 => vc237_784 ⟨fun _ => hQ σ2 α2 P' W' I2, fun y => absurd rfl y⟩)⟩
theorem l_leaves {kx : Nat × (Nat → Int)} {d : Nat} {σ α : Nat → Nat → Int} {P W : pRow} {H : Int} {b : mB} {Q : Option mV → mS → Prop} {l4 : Int} {x5 x6 : Option mV} (I : INX σ α P W H) (hH : H + 100 ≤ 100000) (hs : ∀ j, r32 (kx.2 j)) (ii : ∀ j : Int, 1 ≤ j → j ≤ 6 → mInA (wr (l4 + j)) kx.1) (hQ : ∀ σ' α' P' W', INX σ' α' P' W' (H + 100) → Go (XL kx) (d + 90) 237 1059 [some (vK 3), some (vR 0), some (vR 104), some (vR 127), some (vI l4), x5, x6] [] (S0, σ', α') b Q) : Go (XL kx) (d + 90) 237 789 [some (vK 3), some (vR 0), some (vR 104), some (vR 127), some (vI l4), x5, x6] [] (S0, σ, α) b Q := by
  refine vc237_789 (b_leaves σ α P W H _ _ I hH (fun n σ1 α1 h => vc237_793 (h)) (fun n σ2 α2 P' W' I2 => vc237_797 ⟨fun _ => hQ σ2 α2 P' W' I2, fun y => absurd rfl y⟩))
theorem l_fair {kx : Nat × (Nat → Int)} {d : Nat} {σ α : Nat → Nat → Int} {P W : pRow} {H : Int} {b : mB} {Q : Option mV → mS → Prop} {l4 : Int} {x5 x6 : Option mV} (I : INX σ α P W H) (hH : H + 100 ≤ 100000) (hs : ∀ j, r32 (kx.2 j)) (ii : ∀ j : Int, 1 ≤ j → j ≤ 6 → mInA (wr (l4 + j)) kx.1) (hQ : ∀ σ' α' P' W', INX σ' α' P' W' (H + 100) → Go (XL kx) (d + 90) 237 1059 [some (vK 3), some (vR 0), some (vR 104), some (vR 127), some (vI l4), x5, x6] [] (S0, σ', α') b Q) : Go (XL kx) (d + 90) 237 802 [some (vK 3), some (vR 0), some (vR 104), some (vR 127), some (vI l4), x5, x6] [] (S0, σ, α) b Q := by
  refine vc237_802 ⟨ii 1 (by decide) (by decide), b_fair σ α P W H _ _ I hH (fun n σ1 α1 h => vc237_812 ⟨ii 1 (by decide) (by decide), h⟩) (fun n σ2 α2 P' W' I2 => vc237_822 ⟨fun _ => hQ σ2 α2 P' W' I2, fun y => absurd rfl y⟩)⟩
theorem l_join {kx : Nat × (Nat → Int)} {d : Nat} {σ α : Nat → Nat → Int} {P W : pRow} {H : Int} {b : mB} {Q : Option mV → mS → Prop} {l4 : Int} {x5 x6 : Option mV} (I : INX σ α P W H) (hH : H + 100 ≤ 100000) (hs : ∀ j, r32 (kx.2 j)) (ii : ∀ j : Int, 1 ≤ j → j ≤ 6 → mInA (wr (l4 + j)) kx.1) (hQ : ∀ σ' α' P' W', INX σ' α' P' W' (H + 100) → Go (XL kx) (d + 90) 237 1059 [some (vK 3), some (vR 0), some (vR 104), some (vR 127), some (vI l4), x5, x6] [] (S0, σ', α') b Q) : Go (XL kx) (d + 90) 237 883 [some (vK 3), some (vR 0), some (vR 104), some (vR 127), some (vI l4), x5, x6] [] (S0, σ, α) b Q := by
  refine vc237_883 ⟨ii 1 (by decide) (by decide), ii 2 (by decide) (by decide), ii 3 (by decide) (by decide), b_joinM σ α P W H _ _ I hH (fun n σ1 α1 h => vc237_905 ⟨ii 1 (by decide) (by decide), ii 2 (by decide) (by decide), ii 3 (by decide) (by decide), h⟩) (fun n σ2 α2 P' W' I2 => vc237_927 ⟨fun _ => hQ σ2 α2 P' W' I2, fun y => absurd rfl y⟩)⟩
theorem l_seasons {kx : Nat × (Nat → Int)} {d : Nat} {σ α : Nat → Nat → Int} {P W : pRow} {H : Int} {b : mB} {Q : Option mV → mS → Prop} {l4 : Int} {x5 x6 : Option mV} (I : INX σ α P W H) (hH : H + 100 ≤ 100000) (hs : ∀ j, r32 (kx.2 j)) (ii : ∀ j : Int, 1 ≤ j → j ≤ 6 → mInA (wr (l4 + j)) kx.1) (hQ : ∀ σ' α' P' W', INX σ' α' P' W' (H + 100) → Go (XL kx) (d + 90) 237 1059 [some (vK 3), some (vR 0), some (vR 104), some (vR 127), some (vI l4), x5, x6] [] (S0, σ', α') b Q) : Go (XL kx) (d + 90) 237 932 [some (vK 3), some (vR 0), some (vR 104), some (vR 127), some (vI l4), x5, x6] [] (S0, σ, α) b Q := by
  refine vc237_932 ⟨ii 1 (by decide) (by decide), ii 2 (by decide) (by decide), ii 3 (by decide) (by decide), b_seasons σ α P W H _ _ I hH (fun n σ1 α1 h => vc237_954 ⟨ii 1 (by decide) (by decide), ii 2 (by decide) (by decide), ii 3 (by decide) (by decide), h⟩) (fun n σ2 α2 P' W' I2 => vc237_976 ⟨fun _ => hQ σ2 α2 P' W' I2, fun y => absurd rfl y⟩)⟩
theorem l_count {kx : Nat × (Nat → Int)} {d : Nat} {σ α : Nat → Nat → Int} {P W : pRow} {H : Int} {b : mB} {Q : Option mV → mS → Prop} {l4 : Int} {x5 x6 : Option mV} (I : INX σ α P W H) (hH : H + 100 ≤ 100000) (hs : ∀ j, r32 (kx.2 j)) (ii : ∀ j : Int, 1 ≤ j → j ≤ 6 → mInA (wr (l4 + j)) kx.1) (hQ : ∀ σ' α' P' W', INX σ' α' P' W' (H + 100) → Go (XL kx) (d + 90) 237 1059 [some (vK 3), some (vR 0), some (vR 104), some (vR 127), some (vI l4), x5, x6] [] (S0, σ', α') b Q) : Go (XL kx) (d + 90) 237 1034 [some (vK 3), some (vR 0), some (vR 104), some (vR 127), some (vI l4), x5, x6] [] (S0, σ, α) b Q := by
  refine vc237_1034 ⟨ii 1 (by decide) (by decide), b_count σ α P W H _ _ I hH (fun n σ1 α1 h => vc237_1044 ⟨ii 1 (by decide) (by decide), h⟩) (fun n σ2 α2 P' W' I2 => vc237_1054 ⟨fun _ => hQ σ2 α2 P' W' I2, fun y => absurd rfl y⟩)⟩
theorem l_bay {kx : Nat × (Nat → Int)} {d : Nat} {σ α : Nat → Nat → Int} {P W : pRow} {H : Int} {b : mB} {Q : Option mV → mS → Prop} {l4 : Int} {x5 x6 : Option mV} (I : INX σ α P W H) (hH : H + 100 ≤ 100000) (hs : ∀ j, r32 (kx.2 j)) (ii : ∀ j : Int, 1 ≤ j → j ≤ 6 → mInA (wr (l4 + j)) kx.1) (hQ : ∀ σ' α' P' W', INX σ' α' P' W' (H + 100) → Go (XL kx) (d + 90) 237 1059 [some (vK 3), some (vR 0), some (vR 104), some (vR 127), some (vI l4), x5, x6] [] (S0, σ', α') b Q) : Go (XL kx) (d + 90) 237 291 [some (vK 3), some (vR 0), some (vR 104), some (vR 127), some (vI l4), x5, x6] [] (S0, σ, α) b Q := by
  refine vc237_291 (b_bayB σ α P W H _ _ I hH (fun n σ1 α1 h => vc237_295 (h)) (fun n σ2 α2 P' W' I2 => vc237_299 ⟨fun _ => hQ σ2 α2 P' W' I2, fun y => absurd rfl y⟩))
theorem l_feed {kx : Nat × (Nat → Int)} {d : Nat} {σ α : Nat → Nat → Int} {P W : pRow} {H : Int} {b : mB} {Q : Option mV → mS → Prop} {l4 : Int} {x5 x6 : Option mV} (I : INX σ α P W H) (hH : H + 100 ≤ 100000) (hs : ∀ j, r32 (kx.2 j)) (ii : ∀ j : Int, 1 ≤ j → j ≤ 6 → mInA (wr (l4 + j)) kx.1) (hQ : ∀ σ' α' P' W', INX σ' α' P' W' (H + 100) → Go (XL kx) (d + 90) 237 1059 [some (vK 3), some (vR 0), some (vR 104), some (vR 127), some (vI l4), x5, x6] [] (S0, σ', α') b Q) : Go (XL kx) (d + 90) 237 144 [some (vK 3), some (vR 0), some (vR 104), some (vR 127), some (vI l4), x5, x6] [] (S0, σ, α) b Q := by
  refine vc237_144 ⟨ii 1 (by decide) (by decide), ii 2 (by decide) (by decide), ii 3 (by decide) (by decide), ii 4 (by decide) (by decide), ii 5 (by decide) (by decide), ii 6 (by decide) (by decide), b_feed σ α P W H _ _ I hH (fun n σ1 α1 h => vc237_215 ⟨ii 1 (by decide) (by decide), ii 2 (by decide) (by decide), ii 3 (by decide) (by decide), ii 4 (by decide) (by decide), ii 5 (by decide) (by decide), ii 6 (by decide) (by decide), h⟩) (fun n σ2 α2 P' W' I2 => vc237_286 ⟨fun _ => hQ σ2 α2 P' W' I2, fun y => absurd rfl y⟩)⟩
theorem l_chosen {kx : Nat × (Nat → Int)} {d : Nat} {σ α : Nat → Nat → Int} {P W : pRow} {H : Int} {b : mB} {Q : Option mV → mS → Prop} {l4 : Int} {x5 x6 : Option mV} (I : INX σ α P W H) (hH : H + 100 ≤ 100000) (hs : ∀ j, r32 (kx.2 j)) (ii : ∀ j : Int, 1 ≤ j → j ≤ 6 → mInA (wr (l4 + j)) kx.1) (hQ : ∀ σ' α' P' W', INX σ' α' P' W' (H + 100) → Go (XL kx) (d + 90) 237 1059 [some (vK 3), some (vR 0), some (vR 104), some (vR 127), some (vI l4), x5, x6] [] (S0, σ', α') b Q) : Go (XL kx) (d + 90) 237 649 [some (vK 3), some (vR 0), some (vR 104), some (vR 127), some (vI l4), x5, x6] [] (S0, σ, α) b Q := by
  refine vc237_649 ⟨ii 1 (by decide) (by decide), fun q => ?_, fun q => ?_⟩
  · exact b_chosen σ α P W H _ _ I hH (fun n σ1 α1 h => vc237_667 ⟨ii 1 (by decide) (by decide), fun _ => h, fun q2 => absurd q q2⟩) (fun n σ2 α2 P' W' I2 => vc237_685 ⟨fun _ => hQ σ2 α2 P' W' I2, fun y => absurd rfl y⟩)
  · exact b_chosen σ α P W H _ _ I hH (fun n σ1 α1 h => vc237_667 ⟨ii 1 (by decide) (by decide), fun q2 => absurd q2 q, fun _ => h⟩) (fun n σ2 α2 P' W' I2 => vc237_685 ⟨fun _ => hQ σ2 α2 P' W' I2, fun y => absurd rfl y⟩)
theorem l_mark {kx : Nat × (Nat → Int)} {d : Nat} {σ α : Nat → Nat → Int} {P W : pRow} {H : Int} {b : mB} {Q : Option mV → mS → Prop} {l4 : Int} {x5 x6 : Option mV} (I : INX σ α P W H) (hH : H + 100 ≤ 100000) (hs : ∀ j, r32 (kx.2 j)) (ii : ∀ j : Int, 1 ≤ j → j ≤ 6 → mInA (wr (l4 + j)) kx.1) (hQ : ∀ σ' α' P' W', INX σ' α' P' W' (H + 100) → Go (XL kx) (d + 90) 237 1059 [some (vK 3), some (vR 0), some (vR 104), some (vR 127), some (vI l4), x5, x6] [] (S0, σ', α') b Q) : Go (XL kx) (d + 90) 237 981 [some (vK 3), some (vR 0), some (vR 104), some (vR 127), some (vI l4), x5, x6] [] (S0, σ, α) b Q := by
  refine vc237_981 ⟨ii 1 (by decide) (by decide), ii 2 (by decide) (by decide), fun q => ?_, fun q => ?_⟩
  · exact b_mark σ α P W H _ _ I hH (fun n σ1 α1 h => vc237_1005 ⟨ii 1 (by decide) (by decide), ii 2 (by decide) (by decide), fun _ => h, fun q2 => absurd q q2⟩) (fun n σ2 α2 P' W' I2 => vc237_1029 ⟨fun _ => hQ σ2 α2 P' W' I2, fun y => absurd rfl y⟩)
  · exact b_mark σ α P W H _ _ I hH (fun n σ1 α1 h => vc237_1005 ⟨ii 1 (by decide) (by decide), ii 2 (by decide) (by decide), fun q2 => absurd q2 q, fun _ => h⟩) (fun n σ2 α2 P' W' I2 => vc237_1029 ⟨fun _ => hQ σ2 α2 P' W' I2, fun y => absurd rfl y⟩)
theorem lp_a {k m l : Nat} (hm : m = l / 7) (h : k = m) (hl : l ≤ 3584) : wr ((l : Int) - 7) < ((7 * k : Nat) : Int) := by
  rw [wr_of (by omega) (by omega)]; omega
theorem lp_b {k m l : Nat} (hm : m = l / 7) (h : k < m) (hl : l ≤ 3584) : ¬ wr ((l : Int) - 7) < ((7 * k : Nat) : Int) := by
  rw [wr_of (by omega) (by omega)]; omega
theorem lp_c {k m l : Nat} {j : Int} (hm : m = l / 7) (h : k < m) (hl : l ≤ 3584) (h0 : 0 ≤ j) (h6 : j ≤ 6) : mInA (wr (((7 * k : Nat) : Int) + j)) l := by
  unfold mInA
  rw [wr_of (by omega) (by omega)]; omega
theorem lp_d {k m l : Nat} (hm : m = l / 7) (h : k < m) (hl : l ≤ 3584) : wr (((7 * k : Nat) : Int) + 7) = ((7 * (k + 1) : Nat) : Int) := by
  rw [wr_of (by omega) (by omega)]; omega
theorem lp_e {k m l : Nat} (hm : m = l / 7) (h : k < m) (hl : l ≤ 3584) : 100 * (k : Int) + 100 ≤ 100000 ∧ mInA ((7 * k : Nat) : Int) l ∧ (100 * (k : Int) + 100 = 100 * ((k + 1 : Nat) : Int)) := by
  unfold mInA; omega
theorem law_loop {kx : Nat × (Nat → Int)} {d : Nat} {Q : Option mV → mS → Prop} (hl : kx.1 ≤ 3584) (hs : ∀ j, r32 (kx.2 j)) (hQ : ∀ σ α, Q (some (vI 1)) (S0, σ, α)) : ∀ (g k : Nat) (σ α : Nat → Nat → Int) (P W : pRow) (b : mB) (x5 x6 : Option mV), k + g = kx.1 / 7 → INX σ α P W (100 * (k : Int)) → (g ≤ b.1 ∧ 6 * g ≤ b.2) → Go (XL kx) (d + 90) 237 23 [some (vK 3), some (vR 0), some (vR 104), some (vR 127), some (vI ((7 * k : Nat) : Int)), x5, x6] [] (S0, σ, α) b Q := by
  intro g
  induction g with
  | zero =>
    intro k σ α P W b x5 x6 hk I hb
    have hk' : k = kx.1 / 7 := hk
    exact vc237_23 ⟨fun _ => hQ σ α, fun y => absurd (lp_a rfl hk' hl) y⟩
  | succ g ih =>
    intro k σ α P W b x5 x6 hk I hb
    have kl : k < kx.1 / 7 := by clear I; omega
    have k1 : k + 1 + g = kx.1 / 7 := by clear I; omega
    obtain ⟨h1, h2, h3⟩ := lp_e rfl kl hl
    have ii : ∀ j : Int, 1 ≤ j → j ≤ 6 → mInA (wr (((7 * k : Nat) : Int) + j)) kx.1 := fun j j1 j6 => lp_c rfl kl hl (by omega) j6
    have nb : g ≤ b.1 ∧ 6 * g ≤ b.2 := by clear I; omega
    have nc : g ≤ b.1 - 1 ∧ 6 * g ≤ b.2 - 6 := by clear I; omega
    have ns : 1 ≤ b.1 ∧ 6 ≤ b.2 := by clear I; omega
    have ed := lp_d rfl kl hl
    have nxt : ∀ σ' α' P' W' b' x5' x6', (g ≤ b'.1 ∧ 6 * g ≤ b'.2) → INX σ' α' P' W' (100 * (k : Int) + 100) → Go (XL kx) (d + 90) 237 1059 [some (vK 3), some (vR 0), some (vR 104), some (vR 127), some (vI ((7 * k : Nat) : Int)), x5', x6'] [] (S0, σ', α') b' Q := by
      intro σ' α' P' W' b' x5' x6' hb' I'
      refine vc237_1059 ?_
      rw [ed]
      rw [h3] at I'
      exact ih (k + 1) σ' α' P' W' b' x5' x6' k1 I' hb'
    have nx : ∀ σ' α' P' W', INX σ' α' P' W' (100 * (k : Int) + 100) → Go (XL kx) (d + 90) 237 1059 [some (vK 3), some (vR 0), some (vR 104), some (vR 127), some (vI ((7 * k : Nat) : Int)), x5, x6] [] (S0, σ', α') b Q := fun σ' α' P' W' I' => nxt σ' α' P' W' b x5 x6 nb I'
    refine vc237_23 ⟨fun y => absurd y (lp_b rfl kl hl), fun _ => ⟨h2, fun _ => nx σ α P W (I.up h100), fun _ => l_feed I h1 hs ii nx, fun _ => l_bay I h1 hs ii nx, fun _ => l_boat I h1 hs ii nx, fun _ => l_link I h1 hs ii nx, fun _ => l_cell I h1 hs ii nx, fun _ => l_order I h1 hs ii nx, fun _ => l_hours I h1 hs ii nx, fun _ => l_mend I h1 hs ii nx, fun _ => l_grip I h1 hs ii nx, fun _ => l_soon I h1 hs ii nx, fun _ => l_wish I h1 hs ii nx, fun _ => l_chosen I h1 hs ii nx, fun _ => l_canGet I h1 hs ii nx, fun _ => l_worth I h1 hs ii nx, fun _ => l_share I h1 hs ii nx, fun _ => l_leaves I h1 hs ii nx, fun _ => l_fair I h1 hs ii nx, fun _ => ?_, fun _ => l_join I h1 hs ii nx, fun _ => l_seasons I h1 hs ii nx, fun _ => l_mark I h1 hs ii nx, fun _ => l_count I h1 hs ii nx, trivial⟩⟩
    · exact b_storm I ns rfl (ii 1 (by decide) (by decide)) (fun σ' α' b' x5' x6' e I' => nxt σ' α' P W b' x5' x6' (by rw [e]; exact nc) I')
