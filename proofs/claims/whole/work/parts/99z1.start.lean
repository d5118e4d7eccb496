/-! The law's start: classes, constants -/
theorem st_cls {s : State} {args : Array Value} (hts : ∀ w ∈ lw_tbl, w.before args s = true) : ∃ D : va_G, ∀ (c : Nat) (q : vw_C), mCls[c]? = some q → u_Kn s q.1 q.2.1 q.2.2 (D.1 c) (D.2 c) := by
  have hg : ∀ w ∈ gt, w.before args s = true := fun w hw => hts w (List.mem_filter.mp hw).1
  have h : ∀ ci : Nat, ∃ q : ClassId × (Nat → Nat), ci < 13 → u_Kn s (mClsOf ci).1 (mClsOf ci).2.1 (mClsOf ci).2.2 q.1 q.2 := by
    intro ci
    by_cases hc : ci < 13
    · obtain ⟨c0, i0, hk⟩ := u_known (n := (mClsOf ci).2.2) hg (cls_in ci hc) (hg _ (g_inst ci hc).1)
      exact ⟨(c0, i0), fun _ => hk⟩
    · exact ⟨(0, fun _ => 0), fun q => absurd q hc⟩
  obtain ⟨f, hf⟩ := Classical.axiomOfChoice h
  refine ⟨(fun c => (f c).1, fun c => (f c).2), fun c q hq => ?_⟩
  have hl : c < 13 := (List.getElem?_eq_some_iff.mp hq).1
  have e : mClsOf c = q := by
    unfold mClsOf
    rw [List.getD_eq_getElem?_getD, hq]
    rfl
  have := hf c hl
  rw [e] at this
  exact this
theorem st_arr {s : State} {args : Array Value} {ty : FieldType} (hw : (Cond.arrayClass ty).before args s = true) (ho : ∀ C, ty ≠ .object C) : ∃ cA : ClassId, ArrOfT s cA ty ∧ va_RA s cA ty := by
  obtain ⟨c, k, comp, h1, h2, h3⟩ := Cond.arrayClass_spec hw
  refine ⟨c, fun n z => ⟨fun k h => (by cases h), k, h2, comp, h3⟩, ?_⟩
  cases ty <;> first | exact absurd rfl (ho _) | exact h1
theorem st_arq {s : State} {args : Array Value} {C : String} (hw : (Cond.arrayOver (.object C)).before args s = true) : ∃ cA : ClassId, ArrOfT s cA (.object C) ∧ va_RA s cA (.object C) := by
  obtain ⟨comp, c, k, h1, h2, h3, h4, h5⟩ := Cond.arrayOver_spec hw
  exact ⟨c, fun n z => ⟨fun k h => (by cases h), k, h3, comp, h4⟩, k, comp, h3, h4, h1, h5⟩
theorem st_K {s : State} {args : Array Value} (hts : ∀ w ∈ lw_tbl, w.before args s = true) : ∃ (D : va_G) (cA : Nat → ClassId), va_K D mCls (mTys cA) s := by
  obtain ⟨D, hD⟩ := st_cls hts
  obtain ⟨c0, h0⟩ := st_arr (ty := .int) (hts (.arrayClass .int) (by decide +kernel)) (fun _ h => by cases h)
  obtain ⟨c1, h1⟩ := st_arr (ty := .long) (hts (.arrayClass .long) (by decide +kernel)) (fun _ h => by cases h)
  obtain ⟨c2, h2⟩ := st_arr (ty := .byte) (hts (.arrayClass .byte) (by decide +kernel)) (fun _ h => by cases h)
  obtain ⟨c3, h3⟩ := st_arr (ty := .boolean) (hts (.arrayClass .boolean) (by decide +kernel)) (fun _ h => by cases h)
  obtain ⟨c4, h4⟩ := st_arq (C := RX7) (hts (.arrayOver (.object RX7)) (by decide +kernel))
  refine ⟨D, fun k => [c0, c1, c2, c3, c4].getD k c0, hD, fun k q hk => ?_⟩
  match k, hk with
  | 0, hk => cases hk; exact h0
  | 1, hk => cases hk; exact h1
  | 2, hk => cases hk; exact h2
  | 3, hk => cases hk; exact h3
  | 4, hk => cases hk; exact h4
  | k + 5, hk => simp [mTys] at hk
/-- the words of the start -/
def stW : List Cond := flatC (Cond.and given_1 narrow_1)
def tmW : Term := .string "OneCable$Tape" 51
def tmS : Term := .string "OneCable$Tape" 43
def elW (j : Nat) : Cond := Cond.eq (.elem (.field tmW "java/lang/String" "value" "[B") (.int (Int32.ofNat j))) (.int (Int32.ofInt (bW j)))
theorem st_bl : (stW.drop 44).take 232 = (List.range 232).map elW := by decide +kernel
theorem st_bs : ∀ j : Fin 232, Cond.eq (.elem (.field tmW "java/lang/String" "value" "[B") (.int (Int32.ofNat j.val))) (.int (Int32.ofInt (bW j.val))) ∈ stW := by
  intro j
  have h : elW j.val ∈ (stW.drop 44).take 232 := by
    rw [st_bl]
    exact List.mem_map.mpr ⟨j.val, List.mem_range.mpr j.isLt, rfl⟩
  exact List.mem_of_mem_drop (List.mem_of_mem_take h)
theorem st_bt : ∀ j : Fin 8, Cond.eq (.elem (.field tmS "java/lang/String" "value" "[B") (.int (Int32.ofNat j.val))) (.int (Int32.ofInt (bS j.val))) ∈ stW := by decide +kernel
theorem st_wx : ∀ j : Fin 5, Cond.eq (.elem (.static "OneCable" "WAY_X" "[I") (.int (Int32.ofNat j.val))) (.int (Int32.ofInt (wX j.val))) ∈ stW := by decide +kernel
theorem st_wy : ∀ j : Fin 5, Cond.eq (.elem (.static "OneCable" "WAY_Y" "[I") (.int (Int32.ofNat j.val))) (.int (Int32.ofInt (wY j.val))) ∈ stW := by decide +kernel
theorem bw_r : ∀ j, r32 (bW j) := by
  intro j
  unfold bW
  rw [List.getD_eq_getElem?_getD]
  cases h : lW[j]? with
  | none => exact r32_0
  | some v =>
    have hm : v ∈ lW := List.mem_of_getElem? h
    have : ∀ v ∈ lW, r32 v := by unfold r32; decide +kernel
    exact this v hm
theorem bs_r : ∀ j, r32 (bS j) := by
  intro j
  unfold bS
  rw [List.getD_eq_getElem?_getD]
  cases h : lS[j]? with
  | none => exact r32_0
  | some v =>
    have hm : v ∈ lS := List.mem_of_getElem? h
    have : ∀ v ∈ lS, r32 v := by unfold r32; decide +kernel
    exact this v hm
theorem wx_r : ∀ j, r32 (wX j) := by intro j; unfold wX r32; split <;> decide
theorem wy_r : ∀ j, r32 (wY j) := by intro j; unfold wY r32; split <;> decide
theorem st_str {s : State} {args : Array Value} {A : Nat → Prop} {tm : Term} {n : Nat} {f : Nat → Int} (hf : ∀ w ∈ stW, w.before args s = true) (hA : ∀ a : Nat, a < s.heap.size → ¬ A a) (hn : n < 2 ^ 31)
    (h1 : Cond.exactly tm "java/lang/String" ∈ stW) (h2 : Cond.eq (.field tm "java/lang/String" "coder" "B") (.int 0) ∈ stW) (h3 : Cond.arrayOf (.field tm "java/lang/String" "value" "[B") .byte ∈ stW) (h4 : Cond.eq (.length (.field tm "java/lang/String" "value" "[B")) (.int (Int32.ofNat n)) ∈ stW)
    (h5 : ∀ j : Fin n, Cond.eq (.elem (.field tm "java/lang/String" "value" "[B") (.int (Int32.ofNat j.val))) (.int (Int32.ofInt (f j.val))) ∈ stW) :
    ∃ a v : Nat, tm.eval args s none [] s = some (.ref a) ∧ va_O "java/lang/String" a A s s.heap ∧ va_OF "java/lang/String" "coder" "B" (.int 0) a A s s.heap ∧ va_OF "java/lang/String" "value" "[B" (.ref v) a A s s.heap ∧ va_T .byte v n (fun j => .int (Int32.ofInt (f j))) A s s.heap := by
  obtain ⟨t, ht, hT⟩ := va_Tof (f := fun j => .int (Int32.ofInt (f j))) (A := A) hn (hf _ h3) (va_eqt (hf _ h4)) (fun j hj => va_eqt (hf _ (h5 ⟨j, hj⟩))) hA
  obtain ⟨a, c, cA, kA, q1, q2, q3, q4, q5, q6, -⟩ := Cond.exactly_spec (args := args) (first := s) (o := none) (s := s) (idx := []) (t := tm) (cls := "java/lang/String") (hf _ h1)
  exact ⟨a, t, q1, va_Oof (hf _ h1) q1 hA, vk_OFof q1 (va_eqt (hf _ h2)) hA, vk_OFof q1 ht hA, hT⟩
theorem st_zq {s : State} {A : Nat → Prop} {C n d : String} (h : va_Zq C n d A s s.heap) : ∃ v : Value, (v = .null ∨ ∃ a, v = .ref a) ∧ va_Z C n d v A s s.heap := by
  rcases h with h | ⟨t, h⟩
  · exact ⟨.null, Or.inl rfl, h⟩
  · exact ⟨.ref t, Or.inr ⟨t, rfl⟩, h⟩
def kdOf (a1 a2 a3 a4 a5 a6 a7 : Nat) (v9 : Value) : Nat → Value
  | 1 => .ref a1 | 2 => .ref a2 | 3 => .ref a3 | 4 => .ref a4 | 5 => .ref a5 | 6 => .ref a6 | 7 => .ref a7 | 9 => v9 | _ => .null
theorem nest_on {w : Cond} (h : isNest w = true) : w.onTables = true := by
  cases w <;> simp only [isNest] at h <;> first | rfl | cases h
theorem st_KC {s : State} {b L : Nat} {xs : Nat → Int32} (hL : L ≤ 3584) (hts : ∀ w ∈ lw_tbl, w.before #[Value.ref b] s = true) (hX : va_X b L xs s s.heap) (hgv : (Jvm.Cond.and given_1 narrow_1).before #[Value.ref b] s = true) : ∃ kd : Nat → Value, kd 3 = .ref b ∧ KC (kK (L, fun j => (xs j).toInt)) kd s.heap.size s := by
  have hf : ∀ w ∈ stW, w.before #[Value.ref b] s = true := flat_of_before _ hgv
  have hA : ∀ a : Nat, a < s.heap.size → ¬ AA s.heap.size a := fun a h => Nat.not_le.mpr h
  obtain ⟨a4, a6, p1, p2, p3, p4, p5⟩ := st_str (tm := tmW) (n := 232) (f := bW) hf hA (by decide) (by decide +kernel) (by decide +kernel) (by decide +kernel) (by decide +kernel) st_bs
  obtain ⟨a5, a7, q1, q2, q3, q4, q5⟩ := st_str (tm := tmS) (n := 8) (f := bS) hf hA (by decide) (by decide +kernel) (by decide +kernel) (by decide +kernel) (by decide +kernel) st_bt
  obtain ⟨a1, x1, x2⟩ := va_Tof (tm := .static "OneCable" "WAY_X" "[I") (ty := .int) (N := 5) (f := fun j => .int (Int32.ofInt (wX j))) (A := AA s.heap.size) (by decide) (hf _ (by decide +kernel)) (va_eqt (hf _ (by decide +kernel))) (fun j hj => va_eqt (hf _ (st_wx ⟨j, hj⟩))) hA
  obtain ⟨a2, y1, y2⟩ := va_Tof (tm := .static "OneCable" "WAY_Y" "[I") (ty := .int) (N := 5) (f := fun j => .int (Int32.ofInt (wY j))) (A := AA s.heap.size) (by decide) (hf _ (by decide +kernel)) (va_eqt (hf _ (by decide +kernel))) (fun j hj => va_eqt (hf _ (st_wy ⟨j, hj⟩))) hA
  have z1 := va_Zref (A := AA s.heap.size) (hts (.laysStatic "OneCable" "WAY_X" "[I") (by decide +kernel)) (hts (.initialized "OneCable") (by decide +kernel)) x1 hA
  have z2 := va_Zref (A := AA s.heap.size) (hts (.laysStatic "OneCable" "WAY_Y" "[I") (by decide +kernel)) (hts (.initialized "OneCable") (by decide +kernel)) y1 hA
  have z3 := va_Zof (A := AA s.heap.size) (v := .int 1) (hts (.laysStatic "java/lang/String" "COMPACT_STRINGS" "Z") (by decide +kernel)) (hts (.initialized "java/lang/String") (by decide +kernel)) (va_eqt (hf _ (by decide +kernel))) hA
  obtain ⟨v9, w9, z9⟩ := st_zq (va_Zqof (A := AA s.heap.size) (hts (.laysStatic "jdk/internal/util/Preconditions" "SIOOBE_FORMATTER" "Ljava/util/function/BiFunction;") (by decide +kernel)) (hts (.initialized "jdk/internal/util/Preconditions") (by decide +kernel)) (hf _ (by decide +kernel)) hA)
  refine ⟨kdOf a1 a2 b a4 a5 a6 a7 v9, rfl, rfl, ?_, ?_, ?_, ?_, z1, z2, z3, z9, ⟨a4, a5, rfl, rfl, vk_R.of (hts (.stringRef "OneCable$Tape" 51 txW) (by decide +kernel)) p1, vk_R.of (hts (.stringRef "OneCable$Tape" 43 txS) (by decide +kernel)) q1, p2, q2, p3, q3, p4, q4⟩, fun w hw => ?_, ?_⟩
  · intro k
    unfold kdOf
    split <;> first | exact Or.inr ⟨_, rfl⟩ | exact w9 | exact Or.inl rfl
  · intro k hk
    unfold kK at hk ⊢
    split at hk
    · exact ⟨a1, rfl, x2⟩
    · exact ⟨a2, rfl, y2⟩
    · obtain ⟨scr, c1, c2, c3, c4, c5⟩ := hX
      refine ⟨b, rfl, scr, c1, c2, c3, Nat.le_of_eq c4.symm, ?_, fun j hj => ?_, hA b (Array.getElem?_eq_some_iff.mp c1).1⟩
      · rw [c4]
      · rw [c5 j hj]
        show some (Value.int (xs j)) = some (Value.int (Int32.ofInt (xs j).toInt))
        rw [Int32.ofInt_toInt]
    · cases hk
    · cases hk
    · cases hk
  · intro k hk
    unfold kK at hk ⊢
    split at hk
    · cases hk
    · cases hk
    · cases hk
    · exact ⟨a6, rfl, p5⟩
    · exact ⟨a7, rfl, q5⟩
    · cases hk
  · intro k
    unfold kK
    split
    · exact ⟨by decide, wx_r⟩
    · exact ⟨by decide, wy_r⟩
    · exact ⟨Nat.lt_of_le_of_lt hL (by decide), fun j => i32_r (xs j)⟩
    · exact ⟨by decide, bw_r⟩
    · exact ⟨by decide, bs_r⟩
    · exact ⟨by decide, fun _ => r32_0⟩
  · have hw2 := List.mem_filter.mp hw
    exact va_Nw.of (nest_on hw2.2) (hts w hw2.1)
  · exact va_AO.of (hts (.arrayOver (.object RX7)) (by decide +kernel))
