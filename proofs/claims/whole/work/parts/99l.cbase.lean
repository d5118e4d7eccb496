/-! The draft of the class -/
def STg : List (Nat × Nat) := (3, 7) :: (3, 8) :: (3, 9) :: S5
def STk : List (Nat × Nat) := (3, 6) :: STg
def SB : List (Nat × Nat) := [(1, 2), (1, 3), (1, 4), (1, 5), (3, 4), (3, 5), (3, 6), (3, 7), (3, 8), (3, 9), (4, 0), (4, 1), (4, 2), (4, 3), (4, 4), (15, 2), (18, 2)]
def SBg : List (Nat × Nat) := [(1, 2), (1, 3), (1, 4), (1, 5), (3, 4), (3, 5), (3, 7), (3, 8), (3, 9), (4, 0), (4, 1), (4, 2), (4, 3), (4, 4), (15, 2), (18, 2)]
def AB : List Nat := [5, 6, 7, 8, 9, 10, 11, 12, 13, 14, 16, 19, 21, 22]
def DR (T : Nat → Int) (N : Nat) (σ α : Nat → Nat → Int) (s : bSt) : Prop := (σ 4 0 = s.1 0 ∧ σ 4 1 = s.1 1 ∧ σ 4 2 = s.1 2 ∧ σ 4 3 = s.1 4 ∧ σ 4 4 = s.1 5) ∧ (∀ c, c < 64 → α 5 c = s.1 (10 + 3 * c) ∧ α 6 c = s.1 (11 + 3 * c)) ∧ (∀ b : Nat, (b : Int) < s.1 2 → α 7 b = s.1 (202 + 12 * b) ∧ α 8 b = s.1 (205 + 12 * b) ∧ α 9 b = s.1 (206 + 12 * b) ∧ α 10 b = s.1 (207 + 12 * b) ∧ α 11 b = s.1 (208 + 12 * b) ∧ α 12 b = s.1 (209 + 12 * b) ∧ α 21 b = ((plI T N (s.2.2.2 b) : Nat) : Int) ∧ α 22 b = ((enI T N (s.2.2.2 b) : Nat) : Int) ∧ kdI T N (s.2.2.2 b) = 2) ∧ (∀ k, k < 6 → α 13 k = s.1 (290 + 3 * k) ∧ α 14 k = s.1 (291 + 3 * k)) ∧ LC 15 16 σ α s.2.1.1 ∧ LC 18 19 σ α s.2.1.2 ∧ σ 3 4 = (s.2.2.1.1 : Int) ∧ σ 3 5 = 32 * (s.2.2.1.2.1 : Int)
theorem DR.fs {T : Nat → Int} {N : Nat} {σ σ' α : Nat → Nat → Int} {s : bSt} (D : DR T N σ α s) (F : Fσ STk σ σ') : DR T N σ' α s := by
  unfold DR LC
  rw [F 4 0 (by decide), F 4 1 (by decide), F 4 2 (by decide), F 4 3 (by decide), F 4 4 (by decide), F 15 2 (by decide), F 18 2 (by decide), F 3 4 (by decide), F 3 5 (by decide)]
  exact D
def cLn (T : Nat → Int) (N : Nat) (r : bLn) (σ α : Nat → Nat → Int) (Q : Option mV → mS → Prop) : Prop := (r.1 = 0 → ∀ σ' α', Fσ SBg σ σ' → Fα AB α α' → CTk σ' T N r.2.1 → DR T N σ' α' r.2.2 → Q (some (vI 1)) (S0, σ', α')) ∧ (r.1 ≠ 0 → ∀ σ' α', Fσ SB σ σ' → Fα AB α α' → σ' 3 6 = r.1 → Q (some (vI 0)) (S0, σ', α'))
theorem ST_B : ∀ q ∈ STk, q ∈ SB := by decide
theorem ST_G : ∀ q ∈ STg, q ∈ SBg := by decide
theorem TgT : ∀ q ∈ STg, q ∈ STk := by decide
theorem S5_T : ∀ q ∈ S5, q ∈ STg := by decide
theorem S5_K : ∀ q ∈ S5, q ∈ STk := by decide
theorem SBw : ∀ q ∈ SBg, q ∈ SB := by decide
theorem Fσ.bd {σ σ1 : Nat → Nat → Int} {v : Int} (F : Fσ STg σ σ1) : Fσ SB σ (mUp σ1 3 6 v) := (F.wk (by decide)).tr (Fσ.up (by decide))
theorem DR.fg {T : Nat → Int} {N : Nat} {σ σ' α : Nat → Nat → Int} {s : bSt} (D : DR T N σ α s) (F : Fσ STg σ σ') : DR T N σ' α s := D.fs (F.wk TgT)
theorem or4 {u t : Int} (hu : u = 0 ∨ u = 1 ∨ u = 2 ∨ u = 3) (ht : t = 0 ∨ t = 4) : iOr (u + t) 4 = u + 4 := by
  rcases hu with rfl | rfl | rfl | rfl <;> rcases ht with rfl | rfl <;> decide +kernel
theorem ixc {x y : Int} (hx : 0 ≤ x ∧ x < 8) (hy : 0 ≤ y ∧ y < 8) : wr (wr (y * 8) + x) = (((8 * y + x).toNat : Nat) : Int) ∧ (8 * y + x).toNat < 64 := by
  rw [wr_of (x := y * 8) (by omega) (by omega), wr_of (by omega) (by omega)]
  constructor <;> omega
theorem c_whatLies {X : mXX} {d : Nat} {Q : Option mV → mS → Prop} {σ α : Nat → Nat → Int} {T : Nat → Int} {N : Nat} {s : bSt} {x y : Int} (D : DR T N σ α s) (w : SW s) (hx : 0 ≤ x ∧ x < 8) (hy : 0 ≤ y ∧ y < 8) (h : Q (some (vI (lieR s.1 x y))) (S0, σ, α)) : Ca X (d + 1) 2 [vR 4, vI x, vI y] (S0, σ, α) Q := by
  have ix := ixc hx hy
  have dc := D.2.1 _ ix.2
  have wc := (w.1.c ix.2).1
  have b2 := w.1.2.2.1
  obtain ⟨n, hn⟩ : ∃ n : Nat, s.1 2 = (n : Int) := ⟨(s.1 2).toNat, (Int.toNat_of_nonneg b2.1).symm⟩
  have n7 : n ≤ 7 := by rw [hn] at b2; clear hn wc dc; omega
  have loop : ∀ (u : Int), (u = 0 ∨ u = 1 ∨ u = 2 ∨ u = 3) → lieR s.1 x y = u + btN s.1 x y n → ∀ g b : Nat, b + g = n → Go X d 2 41 [some (vR 4), some (vI x), some (vI y), some (vI (u + btN s.1 x y b)), some (vI (b : Int))] [] (S0, σ, α) (0, 0) Q := by
    intro u hu el g
    induction g with
    | zero =>
      intro b hb
      have eb : b = n := hb
      subst eb
      rw [← el]
      exact vc2_41 ⟨fun _ => h, fun z => absurd z (by rw [D.1.2.2.1, hn]; exact Int.lt_irrefl _)⟩
    | succ g ih =>
      intro b hb
      have bn : b < n := by clear hn wc dc el hu; omega
      have bl : (b : Int) < s.1 2 := by rw [hn]; exact Int.ofNat_lt.mpr bn
      have b7 : b < 7 := Nat.lt_of_lt_of_le bn n7
      have db := D.2.2.1 b bl
      have wb := w.2.2.1 b b7
      have i1 := ih (b + 1) (by clear hn wc dc el hu; omega)
      have eb := wrS (k := b) (by clear hn wc dc el hu; omega)
      have et := or4 hu (btr4 (ρ := s.1) (x := x) (y := y) b)
      have e8 : α 8 b = s.1 (203 + 12 * b) := db.2.1.trans wb.1
      have e9 : α 9 b = s.1 (204 + 12 * b) := db.2.2.1.trans wb.2.1
      refine vc2_41 ⟨fun z => absurd (by rw [D.1.2.2.1]; exact bl) z, fun _ => ⟨mInA_n b7, fun z => ?_, fun z => ⟨mInA_n b7, fun z2 => ?_, fun z2 => ?_⟩⟩⟩
      · rw [Int.toNat_natCast, e8] at z
        rw [eb]
        have : btN s.1 x y (b + 1) = btN s.1 x y b := if_neg (fun y => z y.1)
        rw [this] at i1
        exact i1
      · rw [Int.toNat_natCast, e9] at z2
        rw [eb]
        have : btN s.1 x y (b + 1) = btN s.1 x y b := if_neg (fun y => z2 y.2)
        rw [this] at i1
        exact i1
      · rw [Int.toNat_natCast] at z z2
        rw [e8] at z
        rw [e9] at z2
        rw [eb, et]
        have : btN s.1 x y (b + 1) = 4 := if_pos ⟨z, z2⟩
        rw [this] at i1
        exact i1
  have eN : (s.1 2).toNat = n := by rw [hn, Int.toNat_natCast]
  have lie : lieR s.1 x y = s.1 (10 + 3 * (8 * y + x).toNat) + (if 0 < s.1 (11 + 3 * (8 * y + x).toNat) then 2 else 0) + btN s.1 x y n := by unfold lieR; rw [eN]
  have l0 := fun u hu el => loop u hu el n 0 (Nat.zero_add _)
  refine vc2_0 ?_
  rw [ix.1, Int.toNat_natCast, dc.1, dc.2]
  refine ⟨mInA_n ix.2, fun z => ⟨mInA_n ix.2, fun z2 => ?_, fun z2 => ?_⟩, fun z => ⟨mInA_n ix.2, fun z2 => ?_, fun z2 => ?_⟩⟩
  · rw [z, if_neg z2] at lie
    exact l0 0 (by decide) lie
  · rw [z, if_pos z2] at lie
    exact l0 2 (by decide) lie
  · have z1 := wc.resolve_left z
    rw [z1, if_neg z2] at lie
    exact l0 1 (by decide) lie
  · have z1 := wc.resolve_left z
    rw [z1, if_pos z2] at lie
    exact l0 3 (by decide) lie
theorem wr1 {v : Int} (h : 2 ≤ v ∧ v ≤ 8) : wr (v - 1) = v - 1 := wr_of (by omega) (by omega)
theorem c_takeCell {X : mXX} {d : Nat} {Q : Option mV → mS → Prop} {σ α : Nat → Nat → Int} {T : Nat → Int} {N j : Nat} {s : bSt} {wo : Int} (hT : α 2 = T) (ok : okT T N) (C : CTk σ T N j) (D : DR T N σ α s) (w : SW s) (h1 : cellF T N s.1 wo j = 0 → ∀ σ', Fσ STg σ σ' → CTk σ' T N (j + 2) → σ' 3 8 = nbI T N j → σ' 3 9 = nbI T N (j + 1) → Q (some (vI 1)) (S0, σ', α)) (h0 : cellF T N s.1 wo j ≠ 0 → ∀ σ', Fσ STk σ σ' → σ' 3 6 = cellF T N s.1 wo j → Q (some (vI 0)) (S0, σ', α)) : Ca X (d + 9) 85 [vR 3, vI wo] (S0, σ, α) Q := by
  have w0 := wr1 w.1.1
  have w1 := wr1 w.1.2.1
  refine vc85_0 ?_
  rw [D.1.1, w0]
  refine c_takeNumber hT ok C (fun q σ1 F1 C1 e7 => ?_) (fun q σ1 F1 e6 => ?_)
  · have n1 := nbF_z.mp q
    have F1' : Fσ STg σ σ1 := F1.wk (by decide)
    refine vc85_14 ⟨fun _ => ?_, fun z => absurd z (by decide)⟩
    have D1 := D.fg F1'
    rw [D1.1.2.1, w1]
    refine c_seesNumber ok.1 (C1.up (by decide)) (fun q2 => ?_) (fun q2 σ2 F2 e6 => ?_)
    · have n2 := nbF_z.mp q2
      refine vc85_41 ⟨fun _ => ?_, fun z => absurd z (by decide)⟩
      have e8 : mUp (mUp σ1 3 8 (σ1 3 7)) 3 7 (nbI T N (j + 1)) 3 8 = nbI T N j := by rw [up_n (by decide), up_s]; exact e7
      have e9 : mUp (mUp σ1 3 8 (σ1 3 7)) 3 7 (nbI T N (j + 1)) 3 7 = nbI T N (j + 1) := up_s
      rw [e8, e9]
      have F3 : Fσ STg σ (mUp (mUp (mUp σ1 3 8 (σ1 3 7)) 3 7 (nbI T N (j + 1))) 3 9 (nbI T N (j + 1))) := F1'.tr ((Fσ.up (by decide)).tr ((Fσ.up (by decide)).tr (Fσ.up (by decide))))
      have g8 : mUp (mUp (mUp σ1 3 8 (σ1 3 7)) 3 7 (nbI T N (j + 1))) 3 9 (nbI T N (j + 1)) 3 8 = nbI T N j := by rw [up_n (by decide)]; exact e8
      have g9 : mUp (mUp (mUp σ1 3 8 (σ1 3 7)) 3 7 (nbI T N (j + 1))) 3 9 (nbI T N (j + 1)) 3 9 = nbI T N (j + 1) := up_s
      have C3 : CTk (mUp (mUp (mUp σ1 3 8 (σ1 3 7)) 3 7 (nbI T N (j + 1))) 3 9 (nbI T N (j + 1))) T N (j + 1) := ((C1.up (by decide)).up (by decide)).up (by decide)
      generalize mUp (mUp (mUp σ1 3 8 (σ1 3 7)) 3 7 (nbI T N (j + 1))) 3 9 (nbI T N (j + 1)) = σ3 at *
      have x8 : nbI T N j < 8 := Int.lt_of_le_of_lt n1.2.2 (by have := w.1.1.2; clear n1 n2 w0 w1 e8 e9 g8 g9 e7; omega)
      have y8 : nbI T N (j + 1) < 8 := Int.lt_of_le_of_lt n2.2.2 (by have := w.1.2.1.2; clear n1 n2 w0 w1 e8 e9 g8 g9 e7 x8; omega)
      refine c_whatLies (D.fg F3) w ⟨n1.2.1, x8⟩ ⟨n2.2.1, y8⟩ ?_
      have ec : cellF T N s.1 wo j = if iAnd (lieR s.1 (nbI T N j) (nbI T N (j + 1))) wo = 0 then 0 else fa T N 3 (j + 1) := by unfold cellF; rw [q, q2, ft_0, ft_0]
      refine vc85_69 ⟨fun z => ?_, fun z => ?_⟩
      · rw [if_pos z] at ec
        refine c_adv hT ok C3 (fun σ4 F4 C4 => vc85_87 ?_)
        exact h1 ec σ4 (F3.tr (F4.wk S5_T)) C4 ((F4 3 8 (by decide)).trans g8) ((F4 3 9 (by decide)).trans g9)
      · rw [if_neg z] at ec
        have en : cellF T N s.1 wo j ≠ 0 := by rw [ec]; exact fa_0 (by decide)
        refine c_fail ok.1 C3 (by decide) (vc85_79 ⟨Or.inl rfl, ?_⟩)
        exact h0 en _ ((F3.wk TgT).tr (Fσ.up (by decide))) (by rw [up_s, ec])
    · have ec : cellF T N s.1 wo j = nbF T N 0 (s.1 1 - 1) (j + 1) := by unfold cellF; rw [q, ft_0, ft_n q2]
      refine vc85_41 ⟨fun z => absurd rfl z, fun _ => ?_⟩
      refine h0 (by rw [ec]; exact q2) σ2 ((F1'.wk TgT).tr ((Fσ.up (by decide)).tr (F2.wk (by decide)))) (by rw [e6, ec])
  · have ec : cellF T N s.1 wo j = nbF T N 0 (s.1 0 - 1) j := by unfold cellF; rw [ft_n q]
    refine vc85_14 ⟨fun z => absurd rfl z, fun _ => ?_⟩
    exact h0 (by rw [ec]; exact q) σ1 (F1.wk (by decide)) (by rw [e6, ec])
