/-! A good line leaves a good draft -/
theorem and7 : ∀ a b c : Fin 2, iAnd (((a.val + 2 * b.val + 4 * c.val : Nat) : Int)) 7 = 0 → a.val = 0 ∧ b.val = 0 ∧ c.val = 0 := by decide +kernel
theorem and3 : ∀ a b c : Fin 2, iAnd (((a.val + 2 * b.val + 4 * c.val : Nat) : Int)) 3 = 0 → a.val = 0 ∧ b.val = 0 := by decide +kernel
theorem and1 : ∀ a b c : Fin 2, iAnd (((a.val + 2 * b.val + 4 * c.val : Nat) : Int)) 1 = 0 → a.val = 0 := by decide +kernel
theorem btr4 {ρ : Nat → Int} {x y : Int} : ∀ n, btN ρ x y n = 0 ∨ btN ρ x y n = 4
  | 0 => Or.inl rfl
  | n + 1 => by
    unfold btN
    by_cases h : ρ (203 + 12 * n) = x ∧ ρ (204 + 12 * n) = y
    · rw [if_pos h]; exact Or.inr rfl
    · rw [if_neg h]; exact btr4 n
theorem bt_0 {ρ : Nat → Int} {x y : Int} : ∀ {n : Nat}, btN ρ x y n = 0 → ∀ b, b < n → ¬ (ρ (203 + 12 * b) = x ∧ ρ (204 + 12 * b) = y)
  | 0, _, b, hb => absurd hb (Nat.not_lt_zero b)
  | n + 1, h, b, hb => by
    unfold btN at h
    by_cases q : ρ (203 + 12 * n) = x ∧ ρ (204 + 12 * n) = y
    · rw [if_pos q] at h; exact absurd h (by decide)
    · rw [if_neg q] at h
      by_cases e : b = n
      · rw [e]; exact q
      · exact bt_0 h b (Nat.lt_of_le_of_ne (Nat.lt_succ_iff.mp hb) e)
theorem lie_v {ρ : Nat → Int} {x y : Int} (w : WF ρ) (hc : (8 * y + x).toNat < 64) : ∃ a b c : Fin 2, lieR ρ x y = ((a.val + 2 * b.val + 4 * c.val : Nat) : Int) ∧ (a.val = 0 → ρ (10 + 3 * (8 * y + x).toNat) = 0) ∧ (b.val = 0 → ¬ 0 < ρ (11 + 3 * (8 * y + x).toNat)) ∧ (c.val = 0 → btN ρ x y (ρ 2).toNat = 0) := by
  have hr := (w.c hc).1
  have ht := btr4 (ρ := ρ) (x := x) (y := y) (ρ 2).toNat
  unfold lieR
  have p1 : ∀ t : Int, (0 : Int) + 0 + 0 = ((0 + 2 * 0 + 4 * 0 : Nat) : Int) := fun _ => rfl
  rcases hr with z | z <;> by_cases q : 0 < ρ (11 + 3 * (8 * y + x).toNat) <;> rcases ht with u | u
  · rw [z, if_pos q, u]; exact ⟨0, 1, 0, rfl, fun _ => rfl, fun t => absurd t (by decide), fun _ => rfl⟩
  · rw [z, if_pos q, u]; exact ⟨0, 1, 1, rfl, fun _ => rfl, fun t => absurd t (by decide), fun t => absurd t (by decide)⟩
  · rw [z, if_neg q, u]; exact ⟨0, 0, 0, rfl, fun _ => rfl, fun _ => q, fun _ => rfl⟩
  · rw [z, if_neg q, u]; exact ⟨0, 0, 1, rfl, fun _ => rfl, fun _ => q, fun t => absurd t (by decide)⟩
  · rw [z, if_pos q, u]; exact ⟨1, 1, 0, rfl, fun t => absurd t (by decide), fun t => absurd t (by decide), fun _ => rfl⟩
  · rw [z, if_pos q, u]; exact ⟨1, 1, 1, rfl, fun t => absurd t (by decide), fun t => absurd t (by decide), fun t => absurd t (by decide)⟩
  · rw [z, if_neg q, u]; exact ⟨1, 0, 0, rfl, fun t => absurd t (by decide), fun _ => q, fun _ => rfl⟩
  · rw [z, if_neg q, u]; exact ⟨1, 0, 1, rfl, fun t => absurd t (by decide), fun _ => q, fun t => absurd t (by decide)⟩
theorem cell_z {T : Nat → Int} {N : Nat} {ρ : Nat → Int} {wo : Int} {j : Nat} (h : cellF T N ρ wo j = 0) : (kdI T N j = 3 ∧ 0 ≤ nbI T N j ∧ nbI T N j < ρ 0) ∧ (kdI T N (j + 1) = 3 ∧ 0 ≤ nbI T N (j + 1) ∧ nbI T N (j + 1) < ρ 1) ∧ iAnd (lieR ρ (nbI T N j) (nbI T N (j + 1))) wo = 0 := by
  unfold cellF at h
  have a := (ftz.mp h)
  have b := ftz.mp a.2
  have c := nbF_z.mp a.1
  have d := nbF_z.mp b.1
  refine ⟨⟨c.1, c.2.1, Int.lt_of_le_sub_one c.2.2⟩, ⟨d.1, d.2.1, Int.lt_of_le_sub_one d.2.2⟩, ?_⟩
  by_cases q : iAnd (lieR ρ (nbI T N j) (nbI T N (j + 1))) wo = 0
  · exact q
  · have e := b.2
    rw [if_neg q] at e
    exact absurd e (fa_0 (by decide))
theorem cell_6 {T : Nat → Int} {N : Nat} {ρ : Nat → Int} {wo : Int} {j : Nat} (w : WF ρ) (h : cellF T N ρ wo j = 0) : celN T N j < 64 := by
  have z := cell_z h
  exact c64 z.1.2.1 z.1.2.2 w.1.2 z.2.1.2.1 z.2.1.2.2 w.2.1.2
theorem NE.n3 {T : Nat → Int} {N i : Nat} (h : NE T N i) (k : kdI T N i = 3) : NE T N (i + 1) := h.s (k_s k (by decide))
theorem NE.wd {T : Nat → Int} {N i w : Nat} (h : NE T N i) (k : twI T N i = w) (hw : w < 29) : NE T N (i + 1) := h.s (k_s (k_n k hw) (by decide))
theorem NE.sg {T : Nat → Int} {N i : Nat} {c : Int} (h : NE T N i) (k : sgF T N c i = 0) : NE T N (i + 1) := h.s (k_s (sgF_z.mp k).1 (by decide))
def lnGd (T : Nat → Int) (N i : Nat) (r : bLn) : Prop := SW r.2.2 ∧ NE T N r.2.1 ∧ i < r.2.1 ∧ r.2.2.2.2.1.2.2 ≤ r.2.1
theorem ok_rock {T : Nat → Int} {N i : Nat} {s : bSt} (w : SW s) (ne : NE T N (i + 1)) (hc : s.2.2.1.2.2 ≤ i) (h : (lnRock T N s i).1 = 0) : lnGd T N i (lnRock T N s i) := by
  have a := ftz.mp h
  have z := cell_z a.1
  have c6 := cell_6 w.1 a.1
  have n4 := ((ne.n3 z.1.1).n3 z.2.1.1).sg a.2
  obtain ⟨p, q, t, e, e1, e2, e3⟩ := lie_v w.1 c6
  have zz := z.2.2
  rw [show lieR s.1 (nbI T N (i + 1)) (nbI T N (i + 1 + 1)) = _ from e] at zz
  have k := and7 p q t zz
  refine ⟨?_, n4, by show i < i + 4; omega, by show s.2.2.1.2.2 ≤ i + 4; omega⟩
  refine SW.cell (c := celN T N (i + 1)) (r := 1) (n := 0) w c6 ?_ ?_ ?_ ?_ (Or.inr rfl) (by decide) (fun _ b hb => ?_)
  · rw [rU_n (by omega), rU_n (by omega), rU_s]
  · rw [rU_n (by omega), rU_s]
  · rw [rU_s]
  · intro j j0 j1 j2
    rw [rU_n j2, rU_n j1, rU_n j0]
  · have bw := w.1.b hb
    have b0 := bt_0 (e3 k.2.2) b (by
      have := w.1.2.2.1
      generalize s.1 2 = v at *
      clear z zz e w bw
      omega)
    intro ec
    refine b0 ?_
    have x8 := Int.lt_of_lt_of_le bw.2.1.2 w.1.1.2
    have x8' := Int.lt_of_lt_of_le z.1.2.2 w.1.1.2
    have g1 := bw.2.1.1
    have g2 := bw.2.2.1.1
    have g3 := z.1.2.1
    have g4 := z.2.1.2.1
    unfold celN at ec
    generalize nbI T N (i + 1) = x at *
    generalize nbI T N (i + 1 + 1) = y at *
    generalize s.1 (203 + 12 * b) = x' at *
    generalize s.1 (204 + 12 * b) = y' at *
    clear z zz e w bw e1 e2 e3 k b0 c6 a h
    constructor <;> omega
theorem ok_shoal {T : Nat → Int} {N i : Nat} {s : bSt} (w : SW s) (ne : NE T N (i + 1)) (hc : s.2.2.1.2.2 ≤ i) (h : (lnShoal T N s i).1 = 0) : lnGd T N i (lnShoal T N s i) := by
  have a := ftz.mp h
  have b := ftz.mp a.1
  have c := ftz.mp b.1
  have z := cell_z c.1
  have c6 := cell_6 w.1 c.1
  have nb := nbF_z.mp b.2
  have n6 := ((((ne.n3 z.1.1).n3 z.2.1.1).wd (wdF_z.mp c.2) (by decide)).n3 nb.1).sg a.2
  refine ⟨?_, n6, by show i < i + 6; omega, by show s.2.2.1.2.2 ≤ i + 6; omega⟩
  refine SW.cell (c := celN T N (i + 1)) (r := 0) (n := nbI T N (i + 4)) w c6 ?_ ?_ ?_ ?_ (Or.inl rfl) ⟨Int.le_trans (by decide) nb.2.1, nb.2.2⟩ (fun z => absurd z (by decide))
  · rw [rU_n (by omega), rU_n (by omega), rU_s]
  · rw [rU_n (by omega), rU_s]
  · rw [rU_s]
  · intro j j0 j1 j2
    rw [rU_n j2, rU_n j1, rU_n j0]
theorem ok_boat {T : Nat → Int} {N i : Nat} {s : bSt} (w : SW s) (ne : NE T N (i + 1)) (hc : s.2.2.1.2.2 ≤ i) (h : (lnBoat T N s i).1 = 0) : lnGd T N i (lnBoat T N s i) := by
  unfold lnBoat at h ⊢
  by_cases q : s.1 2 = 7
  · rw [if_pos q] at h; exact absurd h (fa_0 (by decide))
  · rw [if_neg q] at h ⊢
    have a := ftz.mp h
    have a1 := ftz.mp a.1
    have a2 := ftz.mp a1.1
    have a3 := ftz.mp a2.1
    have a4 := ftz.mp a3.1
    have a5 := ftz.mp a4.1
    have a6 := ftz.mp a5.1
    have a7 := ftz.mp a6.1
    have a8 := ftz.mp a7.1
    have a9 := ftz.mp a8.1
    have z := cell_z a7.2
    have c6 := cell_6 w.1 a7.2
    have hh := nbF_z.mp a5.2
    have hp := nbF_z.mp a3.2
    have ht := nbF_z.mp a1.2
    have kn : kdI T N (i + 1) = 2 := by
      have y := a9.1
      unfold nmF at y
      by_cases p : kdI T N (i + 1) = 2 ∧ 22 < twI T N (i + 1)
      · exact p.1
      · rw [if_neg p] at y; exact absurd y (fa_0 (by decide))
    have kk : 14 ≤ twI T N (i + 2) ∧ twI T N (i + 2) ≤ 18 := by
      have y := a9.2
      unfold kdF at y
      by_cases p : 14 ≤ twI T N (i + 2) ∧ twI T N (i + 2) ≤ 18
      · exact p
      · rw [if_neg p] at y; exact absurd y (fa_0 (by decide))
    have n2 : NE T N (i + 2) := ne.s (k_s kn (by decide))
    have n3 : NE T N (i + 3) := n2.wd rfl (Nat.lt_of_le_of_lt kk.2 (by decide))
    have n4 : NE T N (i + 4) := n3.wd (wdF_z.mp a8.2) (by decide)
    have n6 : NE T N (i + 6) := (n4.n3 z.1.1).n3 z.2.1.1
    have n8 : NE T N (i + 8) := (n6.wd (wdF_z.mp a6.2) (by decide)).n3 hh.1
    have n10 : NE T N (i + 10) := (n8.wd (wdF_z.mp a4.2) (by decide)).n3 hp.1
    have n12 : NE T N (i + 12) := (n10.wd (wdF_z.mp a2.2) (by decide)).n3 ht.1
    have n13 := n12.sg a.2
    obtain ⟨p, q1, t, e, e1, e2, e3⟩ := lie_v w.1 c6
    have zz := z.2.2
    rw [show lieR s.1 (nbI T N (i + 4)) (nbI T N (i + 4 + 1)) = _ from e] at zz
    have k := and1 p q1 t zz
    have b2 := w.1.2.2.1
    have en : s.1 2 = (((s.1 2).toNat : Nat) : Int) := (Int.toNat_of_nonneg b2.1).symm
    have n7 : (s.1 2).toNat < 7 := by
      clear en
      generalize s.1 2 = v at *
      clear w z zz e e1 e2 e3 k
      omega
    refine ⟨?_, n13, by show i < i + 13; omega, by show s.2.2.1.2.2 ≤ i + 13; omega⟩
    generalize (s.1 2).toNat = n at *
    refine SW.boat (n := n) (kd := ((twI T N (i + 2) - 14 : Nat) : Int)) (x := nbI T N (i + 4)) (y := nbI T N (i + 5)) (ho := nbI T N (i + 7)) (pu := nbI T N (i + 9)) (tr := nbI T N (i + 11)) w en n7 ?_ ?_ ?_ ?_ ?_ ?_ ?_ ?_ ?_ ?_ ?_ z.1.2 z.2.1.2 hh.2 hp.2 ht.2 (e1 k)
    · intro j j2 jr
      unfold bnwR
      clear en
      rw [rU_n j2, rU_n (by omega), rU_n (by omega), rU_n (by omega), rU_n (by omega), rU_n (by omega), rU_n (by omega), rU_n (by omega), rU_n (by omega)]
    · unfold bnwR; rw [rU_s]
    · unfold bnwR
      clear en
      rw [rU_n (by omega), rU_n (by omega), rU_n (by omega), rU_n (by omega), rU_n (by omega), rU_n (by omega), rU_n (by omega), rU_n (by omega), rU_s]
    · unfold bnwR
      clear en
      rw [rU_n (by omega), rU_n (by omega), rU_n (by omega), rU_n (by omega), rU_n (by omega), rU_n (by omega), rU_n (by omega), rU_s]
    · unfold bnwR
      clear en
      rw [rU_n (by omega), rU_n (by omega), rU_n (by omega), rU_n (by omega), rU_n (by omega), rU_n (by omega), rU_s]
    · unfold bnwR
      clear en
      rw [rU_n (by omega), rU_n (by omega), rU_n (by omega), rU_n (by omega), rU_n (by omega), rU_s]
    · unfold bnwR
      clear en
      rw [rU_n (by omega), rU_n (by omega), rU_n (by omega), rU_n (by omega), rU_s]
    · unfold bnwR
      clear en
      rw [rU_n (by omega), rU_n (by omega), rU_n (by omega), rU_s]
    · unfold bnwR
      clear en
      rw [rU_n (by omega), rU_n (by omega), rU_s]
    · unfold bnwR
      clear en
      rw [rU_n (by omega), rU_s]
    · have k1 := kk.1
      have k2 := kk.2
      generalize twI T N (i + 2) = tt at *
      clear kk a9 a8 a7 a6 a5 a4 a3 a2 a1 a h e e1 e2 e3 zz z w
      omega
theorem ok_cable {T : Nat → Int} {N i : Nat} {s : bSt} (w : SW s) (ne : NE T N (i + 1)) (hc : s.2.2.1.2.2 ≤ i) (h : (lnCable T N s i).1 = 0) : lnGd T N i (lnCable T N s i) := by
  unfold lnCable at h ⊢
  by_cases q : (s.2.2.1.1 : Int) < s.1 2 - 1
  · rw [if_pos q] at h ⊢
    have a := ftz.mp h
    have a1 := ftz.mp a.1
    have a2 := ftz.mp a1.1
    have l := nbF_z.mp a2.1
    have st := nbF_z.mp a1.2
    have n4 := (((ne.n3 l.1).wd (wdF_z.mp a2.2) (by decide)).n3 st.1).sg a.2
    refine ⟨?_, n4, by show i < i + 5; omega, by show s.2.2.1.2.2 ≤ i + 5; omega⟩
    refine SW.link w q ?_ ?_ ?_
    · intro j j0 j1
      rw [rU_n j1, rU_n j0]
    · rw [rU_n (by omega), rU_s]; exact l.2
    · rw [rU_s]; exact st.2
  · rw [if_neg q] at h; exact absurd h (fa_0 (by decide))
theorem td16 : ∀ t : Fin 16, ∀ k : Fin 4, tdB t.val k.val = 0 → t.val + 2 ^ k.val < 16 := by decide +kernel
theorem ok_num {T : Nat → Int} {N i k : Nat} {hi : Int} {s : bSt} (hk : (k = 2 ∧ hi = 50) ∨ (k = 3 ∧ hi = 99)) (w : SW s) (ne : NE T N (i + 1)) (hc : s.2.2.1.2.2 ≤ i) (h : (lnNum T N s k hi i).1 = 0) : lnGd T N i (lnNum T N s k hi i) := by
  unfold lnNum at h ⊢
  by_cases q : tdB s.2.2.1.2.1 k = 0
  · rw [if_pos q] at h ⊢
    have a := ftz.mp h
    have l := nbF_z.mp a.1
    have n3 := (ne.n3 l.1).sg a.2
    have k4 : k < 4 := by rcases hk with z | z <;> rw [z.1] <;> decide
    have tb := td16 ⟨s.2.2.1.2.1, w.2.2.2.2.2.1⟩ ⟨k, k4⟩ q
    refine ⟨?_, n3, by show i < i + 3; omega, by show s.2.2.1.2.2 ≤ i + 3; omega⟩
    refine SW.num w (fun j j4 j5 j6 j7 => rU_n ?_) ?_ ?_ rfl tb w.2.2.2.2.2.2.1 w.2.2.2.2.2.2.2
    · rcases hk with z | z
      · rw [z.1]; exact j4
      · rw [z.1]; exact j5
    · rcases hk with z | z
      · rw [z.1]
        show 0 ≤ rU s.1 4 _ 4 ∧ rU s.1 4 _ 4 ≤ 50
        rw [rU_s]
        rw [z.2] at l; exact l.2
      · rw [z.1]
        show 0 ≤ rU s.1 5 _ 4 ∧ rU s.1 5 _ 4 ≤ 50
        rw [rU_n (by decide)]; exact w.1.2.2.2.2.1
    · rcases hk with z | z
      · rw [z.1]
        show 0 ≤ rU s.1 4 _ 5 ∧ rU s.1 4 _ 5 ≤ 99
        rw [rU_n (by decide)]; exact w.1.2.2.2.2.2.1
      · rw [z.1]
        show 0 ≤ rU s.1 5 _ 5 ∧ rU s.1 5 _ 5 ≤ 99
        rw [rU_s]
        rw [z.2] at l; exact l.2
  · rw [if_neg q] at h; exact absurd h (fa_0 (by decide))
theorem ok_swell {T : Nat → Int} {N i : Nat} {s : bSt} (hN : N ≤ 1000) (w : SW s) (ne : NE T N (i + 1)) (hc : s.2.2.1.2.2 ≤ i) (h : (lnSwell T N s i).1 = 0) : lnGd T N i (lnSwell T N s i) := by
  unfold lnSwell at h ⊢
  by_cases q : tdB s.2.2.1.2.1 0 = 0
  · rw [if_pos q] at h ⊢
    have a := ftz.mp h
    have lo := lw_ok (T := T) (N := N) (m := 3) (Or.inl rfl) hN ne
    have nn := ne_b lo.2.2.2.1
    have tb := td16 ⟨s.2.2.1.2.1, w.2.2.2.2.2.1⟩ ⟨0, by decide⟩ q
    generalize lwX T N 3 (i + 1) = r at *
    have l1 := lo.2.1
    have l2 := lo.2.2.1
    refine ⟨?_, lo.2.2.2.1.sg a.2, by show i < r.2.1 + 1; clear h a lo; omega, by show s.2.2.1.2.2 + r.2.2.length + 1 ≤ r.2.1 + 1; clear h a lo; omega⟩
    refine SW.num w (fun j j4 j5 j6 j7 => rU_n j6) ?_ ?_ rfl tb ⟨lo.2.2.2.2 a.1, by clear h a lo; omega⟩ w.2.2.2.2.2.2.2
    · rw [rU_n (by decide)]; exact w.1.2.2.2.2.1
    · rw [rU_n (by decide)]; exact w.1.2.2.2.2.2.1
  · rw [if_neg q] at h; exact absurd h (fa_0 (by decide))
theorem ok_wish {T : Nat → Int} {N i : Nat} {s : bSt} (hN : N ≤ 1000) (w : SW s) (ne : NE T N (i + 1)) (hc : s.2.2.1.2.2 ≤ i) (h : (lnWish T N s i).1 = 0) : lnGd T N i (lnWish T N s i) := by
  unfold lnWish at h ⊢
  by_cases q : tdB s.2.2.1.2.1 1 = 0
  · rw [if_pos q] at h ⊢
    have a := ftz.mp h
    have lo := lw_ok (T := T) (N := N) (m := 7) (Or.inr rfl) hN ne
    have nn := ne_b lo.2.2.2.1
    have tb := td16 ⟨s.2.2.1.2.1, w.2.2.2.2.2.1⟩ ⟨1, by decide⟩ q
    generalize lwX T N 7 (i + 1) = r at *
    have l1 := lo.2.1
    have l2 := lo.2.2.1
    refine ⟨?_, lo.2.2.2.1.sg a.2, by show i < r.2.1 + 1; clear h a lo; omega, by show s.2.2.1.2.2 + r.2.2.length + 1 ≤ r.2.1 + 1; clear h a lo; omega⟩
    refine SW.num w (fun j j4 j5 j6 j7 => rU_n j7) ?_ ?_ rfl tb w.2.2.2.2.2.2.1 ⟨lo.2.2.2.2 a.1, by clear h a lo; omega⟩
    · rw [rU_n (by decide)]; exact w.1.2.2.2.2.1
    · rw [rU_n (by decide)]; exact w.1.2.2.2.2.2.1
  · rw [if_neg q] at h; exact absurd h (fa_0 (by decide))
theorem ln_ok {T : Nat → Int} {N i : Nat} {s : bSt} (hN : N ≤ 1000) (w : SW s) (ne : NE T N i) (hc : s.2.2.1.2.2 ≤ i) (h : (lneR T N s i).1 = 0) : lnGd T N i (lneR T N s i) := by
  unfold lneR at h ⊢
  have n1 : ∀ v, twI T N i = v → v < 29 → NE T N (i + 1) := fun v e hv => ne.wd e hv
  by_cases q1 : twI T N i = 1
  · rw [if_pos q1] at h ⊢; exact ok_rock w (n1 _ q1 (by decide)) hc h
  rw [if_neg q1] at h ⊢
  by_cases q2 : twI T N i = 2
  · rw [if_pos q2] at h ⊢; exact ok_shoal w (n1 _ q2 (by decide)) hc h
  rw [if_neg q2] at h ⊢
  by_cases q3 : twI T N i = 3
  · rw [if_pos q3] at h ⊢; exact ok_boat w (n1 _ q3 (by decide)) hc h
  rw [if_neg q3] at h ⊢
  by_cases q4 : twI T N i = 4
  · rw [if_pos q4] at h ⊢; exact ok_cable w (n1 _ q4 (by decide)) hc h
  rw [if_neg q4] at h ⊢
  by_cases q5 : twI T N i = 5
  · rw [if_pos q5] at h ⊢; exact ok_swell hN w (n1 _ q5 (by decide)) hc h
  rw [if_neg q5] at h ⊢
  by_cases q6 : twI T N i = 6
  · rw [if_pos q6] at h ⊢; exact ok_wish hN w (n1 _ q6 (by decide)) hc h
  rw [if_neg q6] at h ⊢
  by_cases q7 : twI T N i = 7
  · rw [if_pos q7] at h ⊢; exact ok_num (Or.inl ⟨rfl, rfl⟩) w (n1 _ q7 (by decide)) hc h
  rw [if_neg q7] at h ⊢
  by_cases q8 : twI T N i = 8
  · rw [if_pos q8] at h ⊢; exact ok_num (Or.inr ⟨rfl, rfl⟩) w (n1 _ q8 (by decide)) hc h
  rw [if_neg q8] at h
  exact absurd h (fa_0 (by decide))
