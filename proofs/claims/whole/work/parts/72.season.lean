/-! Seasons -/
def drG (g : Int) : Int := Int.tmod (wl (wl (g * 1103515245) + 12345)) 2147483648
def gaG (m g : Int) : Int := wr (Int.tmod (wl (Int.tdiv g 65536)) m)
theorem dr_bd {g : Int} (h : 0 ≤ g ∧ g < 2147483648) : 0 ≤ drG g ∧ drG g < 2147483648 := by
  unfold drG
  rw [wl_of (x := g * 1103515245) (by omega) (by omega), wl_of (by omega) (by omega)]
  have a : 0 ≤ g * 1103515245 + 12345 := by omega
  rw [Int.tmod_eq_emod_of_nonneg a]
  omega
theorem ga_bd {m g : Int} (h : 0 ≤ g ∧ g < 2147483648) (hm : 0 < m ∧ m ≤ 51) : 0 ≤ gaG m g ∧ gaG m g ≤ 50 := by
  unfold gaG
  have a := Int.tdiv_nonneg h.1 (show (0 : Int) ≤ 65536 by decide)
  have b := Int.tdiv_le_self 65536 h.1
  generalize Int.tdiv g 65536 = q at *
  rw [wl_of (by omega) (by omega)]
  have c := Int.tmod_nonneg m a
  have e := Int.tmod_lt_of_pos q hm.1
  generalize Int.tmod q m = r at *
  rw [wr_of (by omega) (by omega)]
  omega
def gS (seed : Int) : Nat → Int
  | 0 => seed
  | i + 1 => drG (gS seed i)
theorem gS_bd {seed : Int} (h : 0 ≤ seed ∧ seed ≤ 9999) : ∀ {i : Nat}, 0 ≤ gS seed i ∧ gS seed i < 2147483648
  | 0 => by
    show 0 ≤ seed ∧ seed < 2147483648
    omega
  | i + 1 => dr_bd (gS_bd h)
/-- a part of which some link tears -/
def atN (ρ F : Nat → Int) (a n : Nat) : Nat → Int
  | 0 => 0
  | j + 1 => if atN ρ F a n j = 0 then (if 0 < exR ρ F a n (a + j) then 1 else 0) else 1
theorem at01 {ρ F : Nat → Int} {a n : Nat} : ∀ {j : Nat}, atN ρ F a n j = 0 ∨ atN ρ F a n j = 1
  | 0 => Or.inl rfl
  | j + 1 => by
    unfold atN
    split
    · split
      · exact Or.inr rfl
      · exact Or.inl rfl
    · exact Or.inr rfl
theorem at_up {ρ F : Nat → Int} {a n : Nat} : ∀ {j k : Nat}, j ≤ k → atN ρ F a n j = 1 → atN ρ F a n k = 1
  | j, 0, h, e => by
    have : j = 0 := by omega
    rw [this] at e; exact e
  | j, k + 1, h, e => by
    by_cases q : j = k + 1
    · rw [q] at e; exact e
    · have := at_up (j := j) (k := k) (by omega) e
      show (if atN ρ F a n k = 0 then (if 0 < exR ρ F a n (a + k) then 1 else 0) else 1) = 1
      rw [this, if_neg (by decide)]
theorem at_iff {ρ F : Nat → Int} {a n : Nat} : ∀ {m : Nat}, atN ρ F a n m = 1 ↔ ∃ j, j < m ∧ 0 < exR ρ F a n (a + j)
  | 0 => ⟨fun h => absurd h (by show ¬ (0 : Int) = 1; decide), fun ⟨j, h, _⟩ => absurd h (Nat.not_lt_zero j)⟩
  | m + 1 => by
    have ih := at_iff (ρ := ρ) (F := F) (a := a) (n := n) (m := m)
    show (if atN ρ F a n m = 0 then (if 0 < exR ρ F a n (a + m) then 1 else 0) else 1) = 1 ↔ _
    rcases at01 (ρ := ρ) (F := F) (a := a) (n := n) (j := m) with q | q
    · rw [if_pos q]
      have no : ¬ ∃ j, j < m ∧ 0 < exR ρ F a n (a + j) := fun z => by rw [ih.mpr z] at q; exact absurd q (by decide)
      by_cases h : 0 < exR ρ F a n (a + m)
      · rw [if_pos h]; exact ⟨fun _ => ⟨m, Nat.lt_succ_self m, h⟩, fun _ => rfl⟩
      · rw [if_neg h]
        refine ⟨fun z => absurd z (by decide), fun ⟨j, j1, j2⟩ => ?_⟩
        by_cases e : j = m
        · rw [e] at j2; exact absurd j2 h
        · exact absurd ⟨j, Nat.lt_of_le_of_ne (Nat.le_of_lt_succ j1) e, j2⟩ no
    · rw [if_neg (by rw [q]; decide)]
      obtain ⟨j, j1, j2⟩ := ih.mp q
      exact ⟨fun _ => ⟨j, Nat.lt_succ_of_lt j1, j2⟩, fun _ => rfl⟩
theorem c_anyTears {X : mXX} {d : Nat} {Q : Option mV → mS → Prop} {σ α : Nat → Nat → Int} {ρ F : Nat → Int} {a n : Nat} (R : Rep σ α ρ) (w : WF ρ) (a7 : a + n ≤ 7) (hn : 0 < n) (hF : ∀ b, a ≤ b → b < a + n → 0 ≤ F b ∧ F b ≤ 99) (bf : bfC α F a n) (hQ : Q (some (vI (atN ρ F a n (n - 1)))) (S0, σ, α)) : Ca X (d + 3) 22 [vR 84, vI (a : Int), vI ((a + n - 1 : Nat) : Int)] (S0, σ, α) Q := by
  refine vc22_0 ?_
  have key : ∀ (t j : Nat), j + t = n - 1 → atN ρ F a n j = 0 → Go X (d + 2) 22 2 [some (vR 84), some (vI (a : Int)), some (vI ((a + n - 1 : Nat) : Int)), some (vI ((a + j : Nat) : Int))] [] (S0, σ, α) (0, 0) Q := by
    intro t
    induction t with
    | zero =>
      intro j hj h0
      have e : j = n - 1 := hj
      have jn : ¬ ((a + j : Nat) : Int) < ((a + n - 1 : Nat) : Int) := by clear h0; omega
      rw [← e, h0] at hQ
      exact vc22_2 ⟨fun _ => hQ, fun q => absurd q jn⟩
    | succ t ih =>
      intro j hj h0
      have jn : ((a + j : Nat) : Int) < ((a + n - 1 : Nat) : Int) := by clear h0; omega
      have jt : j + 1 + t = n - 1 := by clear h0; omega
      have jk : a ≤ a + j ∧ a + j + 1 < a + n := by clear h0; omega
      have j1 : j + 1 ≤ n - 1 := by clear h0; omega
      have ek := wrT (a := a) (j := j) (by clear h0; omega)
      refine vc22_2 ⟨fun q => absurd jn q, fun _ => ?_⟩
      refine c_excess (F := F) R w a7 jk hF bf ?_
      have es : atN ρ F a n (j + 1) = if 0 < exR ρ F a n (a + j) then 1 else 0 := by
        show (if atN ρ F a n j = 0 then (if 0 < exR ρ F a n (a + j) then 1 else 0) else 1) = _
        rw [if_pos h0]
      refine vc22_14 ⟨fun q => ?_, fun q => ?_⟩
      · rw [ek]
        exact ih (j + 1) jt (by rw [es, if_neg q])
      · rw [at_up j1 (by rw [es, if_pos q])] at hQ
        exact hQ
  exact key (n - 1) 0 (Nat.zero_add _) rfl
/-- a day's tears and losses -/
def tdP (ρ : Nat → Int) (P : List (Int × Int)) (g : Int) : Prop := ∃ h k : Nat, h < 24 ∧ ((k + 1 : Nat) : Int) < ρ 2 ∧ ρ (292 + 3 * k) = 0 ∧ wtR ρ (fcR ρ P 0 0 (h : Int) g) k = 1
noncomputable def tdI (ρ : Nat → Int) (P : List (Int × Int)) (g : Int) : Int := @ite Int (tdP ρ P g) (Classical.propDecidable _) 1 0
theorem td_1 {ρ : Nat → Int} {P : List (Int × Int)} {g : Int} (h : tdP ρ P g) : tdI ρ P g = 1 := if_pos h
theorem td_0 {ρ : Nat → Int} {P : List (Int × Int)} {g : Int} (h : ¬ tdP ρ P g) : tdI ρ P g = 0 := if_neg h
theorem td_b {ρ : Nat → Int} {P : List (Int × Int)} {g : Int} : 0 ≤ tdI ρ P g ∧ tdI ρ P g ≤ 7 := by
  by_cases h : tdP ρ P g
  · rw [td_1 h]; decide
  · rw [td_0 h]; decide
def lsP (ρ : Nat → Int) (P : List (Int × Int)) (g : Int) (b : Nat) (m : Nat) : Prop := ∃ h : Nat, h < m ∧ ρ 5 < fcR ρ P 0 0 (h : Int) g b
noncomputable def lsI (ρ : Nat → Int) (P : List (Int × Int)) (g : Int) (b : Nat) : Int := @ite Int (lsP ρ P g b 24) (Classical.propDecidable _) 1 0
theorem ls_1 {ρ : Nat → Int} {P : List (Int × Int)} {g : Int} {b : Nat} (h : lsP ρ P g b 24) : lsI ρ P g b = 1 := if_pos h
theorem ls_0 {ρ : Nat → Int} {P : List (Int × Int)} {g : Int} {b : Nat} (h : ¬ lsP ρ P g b 24) : lsI ρ P g b = 0 := if_neg h
noncomputable def lsS (ρ : Nat → Int) (P : List (Int × Int)) (g : Int) (n : Nat) : Int := smF (lsI ρ P g) 0 n
theorem ls_b {ρ : Nat → Int} {P : List (Int × Int)} {g : Int} : ∀ {n : Nat}, 0 ≤ lsS ρ P g n ∧ lsS ρ P g n ≤ (n : Int)
  | 0 => by
    show (0 : Int) ≤ 0 ∧ (0 : Int) ≤ ((0 : Nat) : Int)
    decide
  | n + 1 => by
    have ih := ls_b (ρ := ρ) (P := P) (g := g) (n := n)
    show 0 ≤ lsS ρ P g n + lsI ρ P g (0 + n) ∧ lsS ρ P g n + lsI ρ P g (0 + n) ≤ ((n + 1 : Nat) : Int)
    by_cases h : lsP ρ P g (0 + n) 24
    · rw [ls_1 h]; generalize lsS ρ P g n = u at *; omega
    · rw [ls_0 h]; generalize lsS ρ P g n = u at *; omega
theorem c_torn {X : mXX} {d : Nat} {Q : Option mV → mS → Prop} {σ α : Nat → Nat → Int} {ρ : Nat → Int} {P W : List (Int × Int)} {g : Int} (C : CI σ α ρ P W) (w : WF ρ) (o : lwO 3 P) (hg : 0 ≤ g ∧ g ≤ 50) (hQ : ∀ α', Fα [36, 82, 83, 85] α α' → CI σ α' ρ P W → Q (some (vI (tdI ρ P g))) (S0, σ, α')) : Ca X (d + 6) 24 [vR 84, vI g] (S0, σ, α) Q := by
  have w2 := w.2.2.1
  have r2 := C.1.2.2.1
  have hg' : -1000 ≤ g ∧ g ≤ 1000 := by omega
  refine vc24_0 ?_
  have key : ∀ (m t : Nat) (γ : Nat → Nat → Int) (x3 x4 : Option mV), ((t + m : Nat) : Int) = ρ 2 → Fα [36, 82, 83, 85] α γ → CI σ γ ρ P W → (∀ h k : Nat, h < 24 → ((k + 1 : Nat) : Int) < ρ 2 → ρ (292 + 3 * k) = 0 → k < (if (t : Int) < ρ 2 then fsN ρ t else t) → wtR ρ (fcR ρ P 0 0 (h : Int) g) k ≠ 1) → Go X (d + 5) 24 2 [some (vR 84), some (vI g), some (vI (t : Int)), x3, x4] [] (S0, σ, γ) (0, 0) Q := by
    intro m
    induction m with
    | zero =>
      intro t γ x3 x4 ht hf Cg N
      have nt : ¬ (t : Int) < ρ 2 := by clear N; omega
      rw [if_neg nt] at N
      have z := hQ γ hf Cg
      rw [td_0 (fun ⟨h, k, a1, a2, a3, a4⟩ => N h k a1 a2 a3 (by clear N z hQ; omega) a4)] at z
      exact vc24_2 ⟨fun _ => z, fun q => absurd q (by rw [r2]; exact nt)⟩
    | succ m ih =>
      intro t γ x3 x4 ht hf Cg N
      have tb : (t : Int) < ρ 2 := by clear N; omega
      have tm : ((t + 1 + m : Nat) : Int) = ρ 2 := by clear N; omega
      have t7 := w.m7 tb
      have f7 : 0 ≤ (t : Int) ∧ (t : Int) < 7 := by clear N; omega
      have ek := wrS (k := t) (by clear N; omega)
      rw [if_pos tb] at N
      have pn := part_n tb
      have p := prt_of tb
      have pz := p.2.1
      have a7 := p7 w pz
      refine vc24_2 ⟨fun q => absurd (by rw [r2]; exact tb) q, fun _ => ?_⟩
      refine c_first Cg.1 f7 ?_
      rw [fR_e]
      refine vc24_18 ?_
      have inner : ∀ (u h : Nat) (δ : Nat → Nat → Int), h + u = 24 → Fα [36, 82, 83, 85] α δ → CI σ δ ρ P W → (fsN ρ t + szR ρ t = t + 1 → ∀ h' k : Nat, h' < h → fsN ρ t ≤ k → k < t → wtR ρ (fcR ρ P 0 0 (h' : Int) g) k ≠ 1) → Go X (d + 5) 24 22 [some (vR 84), some (vI g), some (vI (t : Int)), some (vI ((fsN ρ t : Nat) : Int)), some (vI (h : Int))] [] (S0, σ, δ) (0, 0) Q := by
        intro u
        induction u with
        | zero =>
          intro h δ hh hd Cd ND
          have eh : h = 24 := hh
          subst eh
          refine vc24_22 ⟨fun _ => ?_, fun q => absurd q (by decide)⟩
          rw [ek]
          refine ih (t + 1) δ _ _ tm hd Cd (fun h' k a1 a2 a3 a4 => ?_)
          by_cases e : fsN ρ t + szR ρ t = t + 1
          · by_cases hk : k < fsN ρ t
            · exact N h' k a1 a2 a3 hk
            · by_cases hkt : k < t
              · exact ND e h' k a1 (Nat.not_lt.mp hk) hkt
              · exfalso
                rcases p.2.2.2.2 with q | q
                · rw [e] at q
                  clear N ND
                  omega
                · have e2 : fsN ρ t + szR ρ t - 1 = t := by rw [e]; rfl
                  rw [e2] at q
                  have a4' : k < t + 1 := by
                    by_cases ht1 : ((t + 1 : Nat) : Int) < ρ 2
                    · rw [if_pos ht1] at a4
                      have := fsN_le ρ (t + 1)
                      clear N ND
                      omega
                    · rw [if_neg ht1] at a4; exact a4
                  have ekt : k = t := Nat.le_antisymm (Nat.le_of_lt_succ a4') (Nat.not_lt.mp hkt)
                  rw [ekt] at a3
                  exact q a3
          · have t1 : t + 1 < fsN ρ t + szR ρ t := by clear N ND; omega
            have e1 : fsN ρ (t + 1) = fsN ρ t := p.fs (by clear N ND; omega) t1
            have l1 : ((t + 1 : Nat) : Int) < ρ 2 := Int.lt_of_lt_of_le (Int.ofNat_lt.mpr t1) pz
            rw [if_pos l1, e1] at a4
            exact N h' k a1 a2 a3 a4
        | succ u ihu =>
          intro h δ hh hd Cd ND
          have hl : (h : Int) < 24 := by clear N ND; omega
          have h24 : h < 24 := by clear N ND; omega
          have hu : h + 1 + u = 24 := by clear N ND; omega
          have h0 : 0 ≤ (h : Int) := Int.natCast_nonneg h
          have eh := wrS (k := h) (by clear N ND ek; omega)
          refine vc24_22 ⟨fun q => absurd hl q, fun _ => ?_⟩
          refine c_last Cd.1 w ⟨f7.1, tb⟩ ?_
          rw [lR_e tb]
          refine vc24_34 ⟨fun q => ?_, fun q => ?_⟩
          · rw [ek]
            refine ih (t + 1) δ _ _ tm hd Cd (fun h' k a1 a2 a3 a4 => ?_)
            have t1 : t + 1 < fsN ρ t + szR ρ t := by clear N ND; omega
            have e1 : fsN ρ (t + 1) = fsN ρ t := p.fs (by clear N ND; omega) t1
            have l1 : ((t + 1 : Nat) : Int) < ρ 2 := Int.lt_of_lt_of_le (Int.ofNat_lt.mpr t1) pz
            rw [if_pos l1, e1] at a4
            exact N h' k a1 a2 a3 a4
          · have e : fsN ρ t + szR ρ t = t + 1 := by clear N ND; omega
            rw [← q]
            refine c_weigh Cd w o pz p.1 (in0 w pz) ⟨h0, Int.le_trans (Int.le_of_lt hl) (by decide)⟩ hg' ?_
            intro ε he Ce bf
            rw [q]
            refine vc24_49 ?_
            rw [← q]
            have hF : ∀ b, fsN ρ t ≤ b → b < fsN ρ t + szR ρ t → 0 ≤ fcR ρ P 0 0 (h : Int) g b ∧ fcR ρ P 0 0 (h : Int) g b ≤ 99 := fun b _ b2 => fc_bd w (Int.lt_of_lt_of_le (Int.ofNat_lt.mpr b2) pz)
            refine c_anyTears (F := fcR ρ P 0 0 (h : Int) g) Ce.1 w a7 p.1 hF bf ?_
            have wt : ∀ k, fsN ρ t ≤ k → k < t → (wtR ρ (fcR ρ P 0 0 (h : Int) g) k = 1 ↔ 0 < exR ρ (fcR ρ P 0 0 (h : Int) g) (fsN ρ t) (szR ρ t) k) := fun k k1 k2 => by
              have k3 : k < fsN ρ t + szR ρ t := by rw [e]; exact Nat.lt_succ_of_lt k2
              unfold wtR
              rw [p.fs k1 k3, p.sz k1 k3]
              by_cases z : 0 < exR ρ (fcR ρ P 0 0 (h : Int) g) (fsN ρ t) (szR ρ t) k
              · rw [if_pos z]; exact ⟨fun _ => z, fun _ => rfl⟩
              · rw [if_neg z]; exact ⟨fun y => absurd y (by decide), fun y => absurd y z⟩
            rw [q]
            have hde := hd.tr he
            refine vc24_55 ⟨fun q0 => ?_, fun q0 => ?_⟩
            · rw [eh]
              refine ihu (h + 1) ε hu hde Ce (fun _ h' k a1 a2 a3 => ?_)
              by_cases hh' : h' = h
              · rw [hh']
                intro z
                have z2 := (wt k a2 a3).mp z
                have : atN ρ (fcR ρ P 0 0 (h : Int) g) (fsN ρ t) (szR ρ t) (szR ρ t - 1) = 1 := at_iff.mpr ⟨k - fsN ρ t, by clear N ND q0 z z2; omega, by rw [Nat.add_sub_cancel' a2]; exact z2⟩
                rw [q0] at this
                exact absurd this (by decide)
              · exact ND e h' k (Nat.lt_of_le_of_ne (Nat.le_of_lt_succ a1) hh') a2 a3
            · obtain ⟨j, j1, j2⟩ := at_iff.mp (at01.resolve_left q0)
              have kt : fsN ρ t + j < t := by clear N ND q0; omega
              have z := hQ ε hde Ce
              rw [td_1 ⟨h, fsN ρ t + j, h24, by clear N ND q0 z; omega, p.2.2.1 (fsN ρ t + j) (Nat.le_add_right _ _) (by clear N ND q0 z; omega), (wt _ (Nat.le_add_right _ _) kt).mpr j2⟩] at z
              exact z
      exact inner 24 0 γ (Nat.zero_add _) hf Cg (fun _ h' k a1 => absurd a1 (Nat.not_lt_zero h'))
  refine key (ρ 2).toNat 0 α none none (n_z w2.1) Fα.rf C (fun h k _ _ _ a4 => ?_)
  have e0 : (if ((0 : Nat) : Int) < ρ 2 then fsN ρ 0 else 0) = 0 := by split <;> rfl
  rw [e0] at a4
  exact absurd a4 (Nat.not_lt_zero k)
