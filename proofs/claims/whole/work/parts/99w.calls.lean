/-! Calls in both: questions, hands, hours (printed by wip/tool/gen99w.py) -/
/-- a call of the class and the same call of the reference, from what holds between calls: they answer alike, and it holds again -/
def Bth (X : mXX) (d mc mm : Nat) (ac am : List mV) : Prop := ∀ (σ α : Nat → Nat → Int) (P W : pRow) (H : Int) (K : Int → mS → Prop) (J : Int → Int → mS → Prop), INX σ α P W H → H + 100 ≤ 100000 → (∀ n σ' α', Ca X (d + 90) mm am (S0, σ', α') (fun r s' => aI r (fun m => J n m s')) → K n (S0, σ', α')) → (∀ n σ' α' P' W', INX σ' α' P' W' (H + 100) → J n n (S0, σ', α')) → Ca X (d + 90) mc ac (S0, σ, α) (fun r s' => aI r (fun n => K n s'))
theorem h100 {H : Int} : H ≤ H + 100 := by omega
theorem CI.s104 {σ α : Nat → Nat → Int} {ρ : Nat → Int} {P W : List (Int × Int)} {v : Int} (C : CI σ α ρ P W) : CI (mUp σ 104 0 v) α ρ P W := C.s0 (Z := [(104, 0)]) (Fσ.up (by decide))
theorem INX.q0 {σ σ' α α1 α2 : Nat → Nat → Int} {P W : pRow} {H : Int} {Zs : List (Nat × Nat)} {Z1 Z2 : List Nat} (I : INX σ α P W H) (F : Fσ Zs σ σ') (E1 : Fα Z1 α α1) (E2 : Fα Z2 α1 α2) (C1 : CI σ α1 (α 110) P W) (zs : ∀ q ∈ Zs, q ∈ SQ ∧ ((q.1 ≠ 23 ∧ q ≠ (40, 1)) ∧ q ≠ (34, 2) ∧ q ≠ (37, 2)) := by decide) (z1 : ∀ q ∈ Z1, q ∈ AQ ∧ q ≠ 124 := by decide) (z2 : ∀ q ∈ Z2, q ∈ AQ ∧ q ≠ 124 ∧ q ∉ ZC := by decide) : INX σ' α2 P W (H + 100) := by
  refine (I.qry (F.wk (fun q h => (zs q h).1)) ((E1.wk (fun q h => (z1 q h).1)).tr (E2.wk (fun q h => (z2 q h).1))) ((C1.s0 F (fun q h => (zs q h).2)).fr E2 (fun q h => (z2 q h).2.2)) ?_).up h100
  rw [E2 124 (fun h => (z2 _ h).2.1 rfl), E1 124 (fun h => (z1 _ h).2 rfl)]
  exact I.1.2.2.2.1
theorem INX.q1 {σ α α1 α2 : Nat → Nat → Int} {P W : pRow} {H v : Int} {Z1 Z2 : List Nat} (I : INX σ α P W H) (E1 : Fα Z1 α α1) (E2 : Fα Z2 α1 α2) (C1 : CI σ α1 (α 110) P W) (z1 : ∀ q ∈ Z1, q ∈ AQ ∧ q ≠ 124 := by decide) (z2 : ∀ q ∈ Z2, q ∈ AQ ∧ q ≠ 124 ∧ q ∉ ZC := by decide) : INX (mUp σ 104 0 v) α2 P W (H + 100) := I.q0 (Zs := [(104, 0)]) (Fσ.up (by decide)) E1 E2 C1 (by decide) z1 z2
theorem INX.s1 {σ α α1 α2 : Nat → Nat → Int} {P W : pRow} {H v : Int} {ρ' : Nat → Int} {Z1 : List Nat} (I : INX σ α P W H) (E1 : Fα Z1 α α1) (E2 : Fα [110] α1 α2) (e2 : α2 110 = ρ') (C1 : CI σ α1 ρ' P W) (w : WF ρ') (t : tld (α 110) ρ') (h320 : ∀ j, 320 ≤ j → ρ' j = α 110 j) (h3 : ρ' 3 = α 110 3) (z1 : ∀ q ∈ Z1, q ∈ AX ∧ q ≠ 124 := by decide) : INX (mUp σ 104 0 v) α2 P W (H + 100) := by
  subst e2
  refine I.stt (Fσ.up (by decide)) ((E1.wk (fun q h => (z1 q h).1)).tr (E2.wk (by decide))) (C1.s104.fr E2) w t h320 ?_ h100 ?_
  · rw [E2 124 (by decide), E1 124 (fun h => (z1 _ h).2 rfl)]
    exact I.1.2.2.2.1
  · rw [h3]; exact Int.le_trans I.1.2.2.2.2.1 h100
theorem INX.l1 {σ α α1 : Nat → Nat → Int} {P W : pRow} {H : Int} {Z : List Nat} (I : INX σ α P W H) (E : Fα Z α α1) (z : ∀ q ∈ Z, q ≠ 110 ∧ q ≠ 111 ∧ q ≠ 112 := by decide) : α1 110 = α 110 ∧ WF (α1 110) ∧ lwM α1 6 10 P ∧ lwW α1 W := by
  have e : α1 110 = α 110 := E 110 (fun h => (z _ h).1 rfl)
  have e1 : α1 111 = α 111 := E 111 (fun h => (z _ h).2.1 rfl)
  have e2 : α1 112 = α 112 := E 112 (fun h => (z _ h).2.2 rfl)
  exact ⟨e, by rw [e]; exact I.1.1.2, I.1.2.1.1.st (by rw [e]) e1 e2, I.1.2.2.1.1.st (by rw [e]) e1 e2⟩
theorem nOf {v : Int} (h : 0 ≤ v ∧ v ≤ 7) : ∃ n : Nat, v = (n : Int) ∧ n ≤ 7 := ⟨v.toNat, (Int.toNat_of_nonneg h.1).symm, by omega⟩
theorem b_boat {X : mXX} {d : Nat} {b v : Int} : Bth X d 101 163 [vR 0, vI b, vI v] [vR 104, vI b, vI v] := by
  intro σ α P W H K J I hH hK hJ
  refine c_boat (d := d + 85) I.1.1.1 I.1.1.2 I.1.2.1.2 (fun α1 E1 C1 => hK _ _ _ ?_)
  obtain ⟨e, w1, l1, lw1⟩ := I.l1 E1
  refine m_boat (d := d + 85) w1 l1 I.1.2.1.2 (fun α2 E2 => ?_)
  rw [e]
  exact hJ _ _ α2 P W (I.q1 E1 E2 C1)
theorem b_link {X : mXX} {d : Nat} {b v : Int} : Bth X d 103 173 [vR 0, vI b, vI v] [vR 104, vI b, vI v] := by
  intro σ α P W H K J I hH hK hJ
  refine c_link (d := d + 83) I.1.1.1 I.1.1.2 I.1.2.1.2 (fun α1 E1 C1 => hK _ _ _ ?_)
  obtain ⟨e, w1, l1, lw1⟩ := I.l1 E1
  refine m_link (d := d + 84) w1 l1 I.1.2.1.2 (fun α2 E2 => ?_)
  rw [e]
  exact hJ _ _ α2 P W (I.q1 E1 E2 C1)
theorem b_cell {X : mXX} {d : Nat} {x y v : Int} : Bth X d 104 179 [vR 0, vI x, vI y, vI v] [vR 104, vI x, vI y, vI v] := by
  intro σ α P W H K J I hH hK hJ
  refine c_cell (d := d + 86) I.1.1.1 I.1.1.2 I.1.2.1.2 (fun α1 E1 C1 => hK _ _ _ ?_)
  obtain ⟨e, w1, l1, lw1⟩ := I.l1 E1
  refine m_cell (d := d + 86) w1 l1 I.1.2.1.2 (fun α2 E2 => ?_)
  rw [e]
  exact hJ _ _ α2 P W (I.q1 E1 E2 C1)
theorem b_wish {X : mXX} {d : Nat} {b v : Int} : Bth X d 111 203 [vR 0, vI b, vI v] [vR 104, vI b, vI v] := by
  intro σ α P W H K J I hH hK hJ
  refine c_wish (d := d + 84) I.1.1.1 I.1.1.2 I.1.2.1.2 I.1.2.2.1.2 (fun α1 E1 C1 => hK _ _ _ ?_)
  obtain ⟨e, w1, l1, lw1⟩ := I.l1 E1
  refine m_wish (d := d + 85) w1 l1 I.1.2.1.2 lw1 I.1.2.2.1.2 (fun α2 E2 => ?_)
  rw [e]
  exact hJ _ _ α2 P W (I.q1 E1 E2 C1)
theorem b_chosen {X : mXX} {d : Nat} {v : Int} : Bth X d 112 206 [vR 0, vI v] [vR 104, vI v] := by
  intro σ α P W H K J I hH hK hJ
  refine c_chosen (d := d + 84) I.1.1.1 I.1.1.2 I.1.2.1.2 I.1.2.2.1.2 (fun α1 E1 C1 => hK _ _ _ ?_)
  obtain ⟨e, w1, l1, lw1⟩ := I.l1 E1
  refine m_chosen (d := d + 83) w1 l1 I.1.2.1.2 lw1 I.1.2.2.1.2 (fun α2 E2 => ?_)
  rw [e]
  exact hJ _ _ α2 P W (I.q1 E1 E2 C1)
theorem b_canGet {X : mXX} {d : Nat} {v : Int} : Bth X d 113 210 [vR 0, vI v] [vR 104, vI v] := by
  intro σ α P W H K J I hH hK hJ
  refine c_canGet (d := d + 84) I.1.1.1 I.1.1.2 I.1.2.1.2 I.1.2.2.1.2 (fun α1 E1 C1 => hK _ _ _ ?_)
  obtain ⟨e, w1, l1, lw1⟩ := I.l1 E1
  refine m_canGet (d := d + 83) w1 l1 I.1.2.1.2 lw1 I.1.2.2.1.2 (fun α2 E2 => ?_)
  rw [e]
  exact hJ _ _ α2 P W (I.q1 E1 E2 C1)
theorem b_worth {X : mXX} {d : Nat} {i j : Int} : Bth X d 114 211 [vR 0, vI i, vI j] [vR 104, vI i, vI j] := by
  intro σ α P W H K J I hH hK hJ
  refine c_worth (d := d + 86) I.1.1.1.1 I.1.1.2 (fun α1 E1 => hK _ _ _ ?_)
  have C1 : CI σ α1 (α 110) P W := I.1.1.1.fr E1
  obtain ⟨e, w1, l1, lw1⟩ := I.l1 E1
  refine m_worth (d := d + 84) w1 (fun α2 E2 => ?_)
  rw [e]
  exact hJ _ _ α2 P W (I.q1 E1 E2 C1)
theorem b_leaves {X : mXX} {d : Nat} : Bth X d 116 214 [vR 0] [vR 104] := by
  intro σ α P W H K J I hH hK hJ
  refine c_leaves (d := d + 86) I.1.1.1.1 I.1.1.2 (fun α1 E1 => hK _ _ _ ?_)
  have C1 : CI σ α1 (α 110) P W := I.1.1.1.fr E1
  obtain ⟨e, w1, l1, lw1⟩ := I.l1 E1
  refine m_leaves (d := d + 84) w1 (fun α2 E2 => ?_)
  rw [e]
  exact hJ _ _ α2 P W (I.q1 E1 E2 C1)
theorem b_joinM {X : mXX} {d : Nat} {x y p : Int} : Bth X d 118 219 [vR 0, vI x, vI y, vI p] [vR 104, vI x, vI y, vI p] := by
  intro σ α P W H K J I hH hK hJ
  obtain ⟨n, hn, n7⟩ := nOf I.1.1.2.2.2.1
  refine c_joinM (d := d + 84) I.1.1.1 I.1.1.2 I.1.2.1.2 hn (fun α1 E1 C1 => hK _ _ _ ?_)
  obtain ⟨e, w1, l1, lw1⟩ := I.l1 E1
  refine m_join (d := d + 84) w1 l1 I.1.2.1.2 (by rw [e]; exact hn) (fun α2 E2 => ?_)
  rw [e]
  exact hJ _ _ α2 P W (I.q1 E1 E2 C1)
theorem b_grip {X : mXX} {d : Nat} {b x y : Int} (hx : r32 x) (hy : r32 y) : Bth X d 109 196 [vR 0, vI b, vI x, vI y] [vR 104, vI b, vI x, vI y] := by
  intro σ α P W H K J I hH hK hJ
  refine c_grip (d := d + 86) I.1.1.1.1 I.1.1.2 hx hy (fun α1 E1 => hK _ _ _ ?_)
  have C1 : CI σ α1 (α 110) P W := I.1.1.1.fr E1
  obtain ⟨e, w1, l1, lw1⟩ := I.l1 E1
  refine m_grip (d := d + 84) w1 (fun α2 E2 => ?_)
  rw [e]
  exact hJ _ _ α2 P W (I.q1 E1 E2 C1)
theorem b_fair {X : mXX} {d : Nat} {b : Int} : Bth X d 117 215 [vR 0, vI b] [vR 104, vI b] := by
  intro σ α P W H K J I hH hK hJ
  refine c_fair (d := d + 85) I.1.1.1.1 I.1.1.2 (fun α1 E1 => hK _ _ _ ?_)
  have C1 : CI σ α1 (α 110) P W := I.1.1.1.fr E1
  obtain ⟨e, w1, l1, lw1⟩ := I.l1 E1
  refine m_fair (d := d + 84) w1 (by rw [E1 124 (by decide)]; exact I.1.2.2.2.1) (fun α2 E2 z2 => ?_)
  rw [e]
  exact hJ _ _ α2 P W ((I.qry (Fσ.up (by decide)) ((E1.wk (by decide)).tr (E2.wk (by decide))) (C1.s104.fr E2) z2).up h100)
theorem b_count {X : mXX} {d : Nat} {v : Int} : Bth X d 121 223 [vR 0, vI v] [vR 104, vI v] := by
  intro σ α P W H K J I hH hK hJ
  obtain ⟨n, hn, n7⟩ := nOf I.1.1.2.2.2.1
  refine c_count (d := d + 88) I.1.1.1.1 I.1.1.2 hn (hK _ _ _ ?_)
  refine m_count (d := d + 87) I.1.1.2 hn ?_
  rw [I.1.2.2.2.2.2.2.1]
  exact hJ _ _ α P W (I.q1 (Z1 := []) (Z2 := []) Fα.rf Fα.rf I.1.1.1)
theorem b_soon {X : mXX} {d : Nat} {b f v : Int} : Bth X d 110 198 [vR 0, vI b, vI f, vI v] [vR 104, vI b, vI f, vI v] := by
  intro σ α P W H K J I hH hK hJ
  refine c_soon (d := d + 81) I.1.1.1 I.1.1.2 I.1.2.1.2 (fun q σ1 α1 r F1 E1 C1 S1 => hK _ _ _ ?_) (fun q => hK _ _ _ ?_)
  · obtain ⟨e, w1, l1, lw1⟩ := I.l1 E1
    refine m_soon (d := d + 81) w1 l1 I.1.2.1.2 (fun q2 α2 r2 E2 S2 => ?_) (fun q2 => absurd (by rw [e]; exact q) q2)
    rw [e] at S2
    have er := SNA.u q.2.2 S1 S2
    subst er
    refine hJ _ _ α2 P W ((I.qry ((F1.wk (by decide)).tr (Fσ.up (by decide))) ((E1.wk (by decide)).tr (E2.wk (by decide))) (C1.s104.fr E2) ?_).up h100)
    rw [E2 124 (by decide), E1 124 (by decide)]
    exact I.1.2.2.2.1
  · refine m_soon (d := d + 81) I.1.1.2 I.1.2.1.1 I.1.2.1.2 (fun q2 => absurd q2 q) (fun _ => ?_)
    exact hJ _ _ α P W (I.q1 (Z1 := []) (Z2 := []) Fα.rf Fα.rf I.1.1.1)
theorem b_seasons {X : mXX} {d : Nat} {a b v : Int} : Bth X d 119 220 [vR 0, vI a, vI b, vI v] [vR 104, vI a, vI b, vI v] := by
  intro σ α P W H K J I hH hK hJ
  refine c_seasons (d := d + 83) I.1.1.1 I.1.1.2 I.1.2.1.2 (fun q α1 E1 C1 => hK _ _ _ ?_) (fun q => hK _ _ _ ?_)
  · obtain ⟨e, w1, l1, lw1⟩ := I.l1 E1
    refine m_seasons (d := d + 82) w1 l1 I.1.2.1.2 (fun _ σ2 α2 F2 E2 => ?_) (fun q2 => absurd q q2)
    rw [e]
    exact hJ _ _ α2 P W (I.q0 F2 E1 E2 C1)
  · refine m_seasons (d := d + 82) I.1.1.2 I.1.2.1.1 I.1.2.1.2 (fun q2 => absurd q2 q) (fun _ => ?_)
    exact hJ _ _ α P W (I.q1 (Z1 := []) (Z2 := []) Fα.rf Fα.rf I.1.1.1)
theorem b_order {X : mXX} {d : Nat} {b v : Int} : Bth X d 106 181 [vR 0, vI b, vI v] [vR 104, vI b, vI v] := by
  intro σ α P W H K J I hH hK hJ
  refine c_order (d := d + 88) I.1.1.1 I.1.1.2 (fun q α1 E1 C1 => hK _ _ _ ?_) (fun q => hK _ _ _ ?_)
  · obtain ⟨e, w1, l1, lw1⟩ := I.l1 E1
    refine m_order (d := d + 87) w1 (fun q2 α2 E2 e2 => ?_) (fun q2 => absurd (by rw [e]; exact q) q2)
    rw [e] at e2
    have hb : ((b.toNat : Nat) : Int) < α 110 2 := by rw [Int.toNat_of_nonneg q.1.1]; exact q.1.2
    have a7 : fsN (α 110) b.toNat < 7 := Nat.lt_of_le_of_lt (part_n hb).1 (I.1.1.2.m7 hb)
    have w := I.1.1.2.w1 a7 q.2
    refine hJ _ _ α2 P W (I.s1 E1 E2 e2 C1 w.1 w.2 (fun j hj => upR_n ?_) (upR_n ?_))
    · clear e2 w q hb; omega
    · clear e2 w q hb; omega
  · refine m_order (d := d + 87) I.1.1.2 (fun q2 => absurd q2 q) (fun _ => ?_)
    exact hJ _ _ α P W (I.q1 (Z1 := []) (Z2 := []) Fα.rf Fα.rf I.1.1.1)
theorem b_share {X : mXX} {d : Nat} {b v : Int} : Bth X d 115 213 [vR 0, vI b, vI v] [vR 104, vI b, vI v] := by
  intro σ α P W H K J I hH hK hJ
  refine c_share (d := d + 88) I.1.1.1 I.1.1.2 (fun q α1 E1 C1 => hK _ _ _ ?_) (fun q => hK _ _ _ ?_)
  · obtain ⟨e, w1, l1, lw1⟩ := I.l1 E1
    refine m_share (d := d + 87) w1 (fun q2 α2 E2 e2 => ?_) (fun q2 => absurd (by rw [e]; exact q) q2)
    rw [e] at e2
    have hb : ((b.toNat : Nat) : Int) < α 110 2 := by rw [Int.toNat_of_nonneg q.1.1]; exact q.1.2
    have a7 : b.toNat < 7 := I.1.1.2.m7 hb
    have w := I.1.1.2.s1 a7 q.2
    refine hJ _ _ α2 P W (I.s1 E1 E2 e2 C1 w.1 w.2 (fun j hj => upR_n ?_) (upR_n ?_))
    · clear e2 w q hb; omega
    · clear e2 w q hb; omega
  · refine m_share (d := d + 87) I.1.1.2 (fun q2 => absurd q2 q) (fun _ => ?_)
    exact hJ _ _ α P W (I.q1 (Z1 := []) (Z2 := []) Fα.rf Fα.rf I.1.1.1)
theorem b_mend {X : mXX} {d : Nat} {k : Int} : Bth X d 108 195 [vR 0, vI k] [vR 104, vI k] := by
  intro σ α P W H K J I hH hK hJ
  refine c_mend (d := d + 88) I.1.1.1 I.1.1.2 (fun q α1 E1 C1 => hK _ _ _ ?_) (fun q => hK _ _ _ ?_)
  · obtain ⟨e, w1, l1, lw1⟩ := I.l1 E1
    refine m_mend (d := d + 86) w1 (fun q2 α2 E2 e2 => ?_) (fun q2 => absurd (by rw [e]; exact q) q2)
    rw [e] at e2
    have k6 : k.toNat < 6 := by
      have a := q.1
      have b := I.1.1.2.2.2.1.2
      generalize α 110 2 = z at a b
      clear e2 q q2 C1 hK hJ
      omega
    have w := I.1.1.2.t1 k6
    refine hJ _ _ α2 P W (I.s1 E1 E2 e2 C1 w.1 w.2 (fun j hj => upR_n ?_) (upR_n ?_))
    · clear e2 w q; omega
    · clear e2 w q; omega
  · refine m_mend (d := d + 86) I.1.1.2 (fun q2 => absurd q2 q) (fun _ => ?_)
    exact hJ _ _ α P W (I.q1 (Z1 := []) (Z2 := []) Fα.rf Fα.rf I.1.1.1)
theorem trR_hi {ρ F : Nat → Int} {m j : Nat} (hm : m ≤ 7) (hj : 320 ≤ j) : trR ρ F m j = ρ j := trR_n (by omega)
theorem goR_hi {ρ : Nat → Int} {m j : Nat} (hm : m ≤ 7) (hj : 320 ≤ j) : goR ρ m j = ρ j := goR_o (by omega)
theorem enG_hi {ρ : Nat → Int} {s : FS} {n j : Nat} (hm : n ≤ 7) (hj : 320 ≤ j) : enG ρ s n 64 j = ρ j := enG_o (by omega) (by omega)
theorem pass_hi {ρ : Nat → Int} {P : List (Int × Int)} (w : WF ρ) {j : Nat} (hj : 320 ≤ j) : passR ρ P j = ρ j := by
  have w2 : WF (goR ρ (ρ 2).toNat) := go_wf w w.n7
  unfold passR
  rw [en_n (by omega), enG_hi (ps_wf w).n7 hj]
  show trR _ _ _ j = ρ j
  rw [trR_hi (Nat.le_trans (Nat.sub_le _ _) w2.n7) hj, goR_hi w.n7 hj]
theorem hr_hi {ρ : Nat → Int} {P : List (Int × Int)} (w : WF ρ) {j : Nat} (hj : 320 ≤ j) : ∀ {n : Nat}, ρ 3 + n ≤ 100000 → hrR ρ P n j = ρ j
  | 0, _ => rfl
  | n + 1, h => by
    have h' : ρ 3 + (n : Int) ≤ 100000 := by
      generalize ρ 3 = z at h ⊢
      clear w
      omega
    exact (pass_hi (hr_all w h').1 hj).trans (hr_hi w hj h')
theorem hr_b {H a v : Int} (h1 : a ≤ H) (h2 : H + 100 ≤ 100000) (hv : 1 ≤ v ∧ v ≤ 100) : a + ((v.toNat : Nat) : Int) ≤ 100000 ∧ a + ((v.toNat : Nat) : Int) ≤ H + 100 := by omega
theorem hr_c {H a : Int} (h1 : a ≤ H) (h2 : H + 100 ≤ 100000) : a + 100 ≤ 100000 := by omega
theorem b_hours {X : mXX} {d : Nat} {v : Int} : Bth X d 107 182 [vR 0, vI v] [vR 104, vI v] := by
  intro σ α P W H K J I hH hK hJ
  have h3 : α 110 3 + 100 ≤ 100000 := hr_c I.1.2.2.2.2.1 hH
  refine c_hours (d := d + 83) I.1.1.1 I.1.1.2 I.1.2.1.2 h3 (fun σ1 α1 F1 E1 C1 => hK _ _ _ ?_)
  obtain ⟨e, w1, l1, lw1⟩ := I.l1 E1
  refine m_hours (d := d + 82) w1 l1 I.1.2.1.2 (by rw [e]; exact h3) (fun α2 E2 e2 => ?_)
  rw [e] at e2 ⊢
  have l0 : α2 124 0 = 0 := by
    rw [E2 124 (by decide), E1 124 (by decide)]
    exact I.1.2.2.2.1
  have C2 : CI (mUp σ1 104 0 0) α2 (α2 110) P W := by
    rw [e2]
    exact C1.s104.fr E2
  have F2 : Fσ SX σ (mUp σ1 104 0 0) := (F1.wk (by decide)).tr (Fσ.up (by decide))
  have E12 : Fα AX α α2 := (E1.wk (by decide)).tr (E2.wk (by decide))
  refine hJ _ _ α2 P W ?_
  by_cases hv : 1 ≤ v ∧ v ≤ 100
  · rw [if_pos hv] at e2
    have b := hr_b I.1.2.2.2.2.1 hH hv
    have h := hr_all (P := P) I.1.1.2 b.1
    refine I.stt F2 E12 C2 (by rw [e2]; exact h.1) (by rw [e2]; exact h.2.1) (fun j hj => by rw [e2]; exact hr_hi I.1.1.2 hj b.1) l0 h100 (by rw [e2, h.2.2]; exact b.2)
  · rw [if_neg hv] at e2
    exact I.stt F2 E12 C2 (by rw [e2]; exact I.1.1.2) (by rw [e2]; exact tld.rf) (fun j hj => by rw [e2]) l0 h100 (by rw [e2]; exact Int.le_trans I.1.2.2.2.2.1 h100)
theorem b_bayB {X : mXX} {d : Nat} : Bth X d 100 129 [vR 0] [vR 104] := by
  intro σ α P W H K J I hH hK hJ
  exact b_bay I hK (fun n σ' α' P' W' I' => hJ n σ' α' P' W' (I'.up h100))
theorem b_feed {X : mXX} {d : Nat} {a b c : Int} : Bth X d 99 125 [vR 0, vL a, vL b, vL c] [vR 104, vL a, vL b, vL c] := by
  intro σ α P W H K J I hH hK hJ
  have T := I.1.2.2.2.2.2.2
  have e0 : tpE (σ 1 1, α 2) (σ 104 2, α 105) := T
  have e8 := (((e0.k (v := a) (k := 8)).k (v := b) (k := 8)).k (v := c) (k := 8))
  have tu : 0 ≤ σ 104 2 ∧ σ 104 2 ≤ 1000 := by rw [T.1]; exact T.2.1
  refine c_feed (d := d + 88) (t := (σ 1 1, α 2)) rfl rfl T.2.1 (fun σ1 α1 F1 E1 s1 a1 => hK _ _ _ ?_)
  have s104 : σ1 104 2 = σ 104 2 := F1 104 2 (by decide)
  have a105 : α1 105 = α 105 := E1 105 (by decide)
  refine m_feed (d := d + 88) (t := (σ 104 2, α 105)) s104 a105 tu (fun σ2 α2 F2 E2 s2 a2 => ?_)
  generalize tpk c 8 (tpk b 8 (tpk a 8 (σ 1 1, α 2))) = t at *
  generalize tpk c 8 (tpk b 8 (tpk a 8 (σ 104 2, α 105))) = u at *
  rw [e8.1]
  have ea : α2 110 = α 110 := by rw [E2 110 (by decide), E1 110 (by decide)]
  obtain ⟨⟨⟨C, w⟩, ⟨l1, o1⟩, ⟨l2, o2⟩, z, h3, M, _⟩, wd, lb⟩ := I
  have r : ∀ i, 49 ≤ i → i < 81 → α2 i = α i := fun i i1 i2 => by
    rw [E2 i (fun q => by simp at q; omega), E1 i (fun q => by simp at q; omega)]
  have s : ∀ i k, 49 ≤ i → i < 81 → σ2 i k = σ i k := fun i k i1 i2 => by
    rw [F2 i k (fun q => by simp at q; omega), F1 i k (fun q => by simp at q; omega)]
  have e7 : α2 117 = α 117 := by rw [E2 117 (by decide), E1 117 (by decide)]
  have mk : ∀ K m, 49 ≤ K → K ≤ 73 → MKr σ α H K m → MKr σ2 α2 (H + 100) K m := fun K m k1 k2 M => M.st w h100 (s K 0 k1 (by omega)) (s K 1 k1 (by omega)) e7 (by rw [ea]; exact tld.rf) (fun j _ => by rw [ea]) (fun i hi => r _ (by omega) (by omega))
  refine hJ _ σ2 α2 P W ⟨⟨⟨?_, by rw [ea]; exact w⟩, ⟨l1.st (by rw [ea]) ?_ ?_, o1⟩, ⟨l2.st (by rw [ea]) ?_ ?_, o2⟩, ?_, ?_, ⟨mk 49 0 (by decide) (by decide) M.1, mk 57 1 (by decide) (by decide) M.2.1, mk 65 2 (by decide) (by decide) M.2.2.1, mk 73 3 (by decide) (by decide) M.2.2.2⟩, ?_⟩, (wd.fr E1).fr E2, lb.st (by rw [ea]) (by rw [ea])⟩
  · rw [ea]; exact (((C.s0 F1).fr E1).s0 F2).fr E2
  · rw [E2 111 (by decide), E1 111 (by decide)]
  · rw [E2 112 (by decide), E1 112 (by decide)]
  · rw [E2 111 (by decide), E1 111 (by decide)]
  · rw [E2 112 (by decide), E1 112 (by decide)]
  · rw [E2 124 (by decide), E1 124 (by decide)]; exact z
  · rw [ea]; exact Int.le_trans h3 h100
  · unfold TPE
    rw [s2, F2 1 1 (by decide), s1, a2, E2 2 (by decide), a1]
    exact e8
