/-! The small machine in the real one: numbers and branches -/

theorem e_add (x y : Int) : Int32.ofInt x + Int32.ofInt y = Int32.ofInt (wr (x + y)) := by rw [ofInt_wr, Int32.ofInt_add]
theorem e_sub (x y : Int) : Int32.ofInt x - Int32.ofInt y = Int32.ofInt (wr (x - y)) := by rw [ofInt_wr, Int32.ofInt_sub]
theorem e_mul (x y : Int) : Int32.ofInt x * Int32.ofInt y = Int32.ofInt (wr (x * y)) := by rw [ofInt_wr, Int32.ofInt_mul]
theorem e_neg (x : Int) : -Int32.ofInt x = Int32.ofInt (wr (-x)) := by rw [ofInt_wr, Int32.ofInt_neg]
theorem e_div {x y : Int} (hx : r32 x) (hy : r32 y) : Int32.ofInt x / Int32.ofInt y = Int32.ofInt (wr (x.tdiv y)) := by
  apply Int32.toInt_inj.mp
  rw [i32_of (wr_r _), wr_bmod, Int32.toInt_div, i32_of hx, i32_of hy]
theorem e_rem {x y : Int} (hx : r32 x) (hy : r32 y) : (Int32.ofInt x - Int32.ofInt x / Int32.ofInt y * Int32.ofInt y).toInt = x.tmod y := by
  rw [rem_toInt, i32_of hx, i32_of hy]
theorem l_add (x y : Int) : Int64.ofInt x + Int64.ofInt y = Int64.ofInt (wl (x + y)) := by rw [ofInt_wl, Int64.ofInt_add]
theorem l_sub (x y : Int) : Int64.ofInt x - Int64.ofInt y = Int64.ofInt (wl (x - y)) := by rw [ofInt_wl, Int64.ofInt_sub]
theorem l_mul (x y : Int) : Int64.ofInt x * Int64.ofInt y = Int64.ofInt (wl (x * y)) := by rw [ofInt_wl, Int64.ofInt_mul]
theorem l_div {x y : Int} (hx : r64 x) (hy : r64 y) : Int64.ofInt x / Int64.ofInt y = Int64.ofInt (wl (x.tdiv y)) := by
  apply Int64.toInt_inj.mp
  rw [i64_of (wl_r _), wl_bmod, Int64.toInt_div, i64_of hx, i64_of hy]
theorem l_remE (x y : Int64) : x - x / y * y = x % y := by
  apply Int64.toInt_inj.mp
  rw [Int64.toInt_sub, Int64.toInt_mul, Int64.toInt_div, Int64.toInt_mod]
  have h : x.toInt.tmod y.toInt = x.toInt - x.toInt.tdiv y.toInt * y.toInt := by
    have h1 := Int.tmod_add_mul_tdiv x.toInt y.toInt
    rw [Int.mul_comm] at h1
    omega
  have h2 : r64 (x.toInt.tmod y.toInt) := by
    rw [← Int64.toInt_mod]; exact i64_r _
  have h3 := wl_id h2
  rw [wl_bmod] at h3
  have h4 : (x.toInt - ((x.toInt.tdiv y.toInt).bmod (2 ^ 64) * y.toInt).bmod (2 ^ 64)).bmod (2 ^ 64) = (x.toInt - x.toInt.tdiv y.toInt * y.toInt).bmod (2 ^ 64) := by
    simp
  rw [h4, ← h, h3]
theorem l_rem {x y : Int} (hx : r64 x) (hy : r64 y) : (Int64.ofInt x - Int64.ofInt x / Int64.ofInt y * Int64.ofInt y).toInt = x.tmod y := by
  rw [l_remE, Int64.toInt_mod, i64_of hx, i64_of hy]
theorem e_l2i (x : Int) : (Int64.ofInt x).toInt32 = Int32.ofInt (wr x) := by rw [ofInt_wr, Int64.toInt32_ofInt]
theorem e_i2l {x : Int} (hx : r32 x) : (Int32.ofInt x).toInt64 = Int64.ofInt x := by
  apply Int64.toInt_inj.mp
  rw [Int32.toInt_toInt64, i32_of hx, i64_of (r32_64 hx)]
theorem e_lcmp {x y : Int} (hx : r64 x) (hy : r64 y) : lg_cmp (Int64.ofInt x) (Int64.ofInt y) = Int32.ofInt (lCmp x y) := by
  unfold lg_cmp lCmp
  by_cases h1 : y < x
  · rw [if_pos h1, if_pos (show Int64.ofInt x > Int64.ofInt y from (lt64 hy hx).mpr h1)]; rfl
  · rw [if_neg h1, if_neg (fun h => h1 ((lt64 hy hx).mp h))]
    by_cases h2 : x = y
    · rw [if_pos h2, if_pos (by rw [h2])]; rfl
    · rw [if_neg h2, if_neg (fun h => h2 ((eq64 hx hy).mp h))]; rfl
theorem lCmp_r (x y : Int) : r32 (lCmp x y) := by
  unfold lCmp r32; (repeat' split) <;> omega

section SIMB
variable {p : Program} {l : Launch} {e : Env} {R : Room} {s : State} {m : MethodId} {args : Array Value} {below : List Frame} {meth : Method} {c : Code} {Qf : State → Prop}
variable {D : va_G} {cA : Nat → ClassId} {kd : Nat → Value} {h0 n0 nL : Nat} {ad0 : Nat → Nat} {cc : ByteArray} {pc : Nat} {L : mL} {r st : List mV} {sg : mS} {b : mB}

theorem sm_iadd (hx : p.tables.exec = Jvm.exec) (hb : c.code = cc) {x y : Int} (hdg : decode cc pc = .ok (.iadd, 1)) (h : Sim p l e R s m args below meth c Qf D cA kd h0 n0 ad0 nL (pc + 1) L (vI (wr (x + y)) :: r) sg b) : Sim p l e R s m args below meth c Qf D cA kd h0 n0 ad0 nL pc L (vI y :: vI x :: r) sg b := by
  intro ad H locs cells slots ls hR
  obtain ⟨oy, ok⟩ := List.forall_mem_cons.mp hR.ok
  obtain ⟨ox, ok⟩ := List.forall_mem_cons.mp ok
  have oy : r32 y := oy
  have ox : r32 x := ox
  refine lv_iadd hx hb hdg ?_
  have h1 := h ad H locs cells slots ls (hR.st' (List.forall_mem_cons.mpr ⟨wr_r _, ok⟩))
  rw [e_add]
  exact h1

theorem sm_isub (hx : p.tables.exec = Jvm.exec) (hb : c.code = cc) {x y : Int} (hdg : decode cc pc = .ok (.isub, 1)) (h : Sim p l e R s m args below meth c Qf D cA kd h0 n0 ad0 nL (pc + 1) L (vI (wr (x - y)) :: r) sg b) : Sim p l e R s m args below meth c Qf D cA kd h0 n0 ad0 nL pc L (vI y :: vI x :: r) sg b := by
  intro ad H locs cells slots ls hR
  obtain ⟨oy, ok⟩ := List.forall_mem_cons.mp hR.ok
  obtain ⟨ox, ok⟩ := List.forall_mem_cons.mp ok
  have oy : r32 y := oy
  have ox : r32 x := ox
  refine lv_isub hx hb hdg ?_
  have h1 := h ad H locs cells slots ls (hR.st' (List.forall_mem_cons.mpr ⟨wr_r _, ok⟩))
  rw [e_sub]
  exact h1

theorem sm_imul (hx : p.tables.exec = Jvm.exec) (hb : c.code = cc) {x y : Int} (hdg : decode cc pc = .ok (.imul, 1)) (h : Sim p l e R s m args below meth c Qf D cA kd h0 n0 ad0 nL (pc + 1) L (vI (wr (x * y)) :: r) sg b) : Sim p l e R s m args below meth c Qf D cA kd h0 n0 ad0 nL pc L (vI y :: vI x :: r) sg b := by
  intro ad H locs cells slots ls hR
  obtain ⟨oy, ok⟩ := List.forall_mem_cons.mp hR.ok
  obtain ⟨ox, ok⟩ := List.forall_mem_cons.mp ok
  have oy : r32 y := oy
  have ox : r32 x := ox
  refine lv_imul hx hb hdg ?_
  have h1 := h ad H locs cells slots ls (hR.st' (List.forall_mem_cons.mpr ⟨wr_r _, ok⟩))
  rw [e_mul]
  exact h1

theorem sm_idiv (hx : p.tables.exec = Jvm.exec) (hb : c.code = cc) {x y : Int} (hdg : decode cc pc = .ok (.idiv, 1)) (h : y ≠ 0 ∧ Sim p l e R s m args below meth c Qf D cA kd h0 n0 ad0 nL (pc + 1) L (vI (wr (x.tdiv y)) :: r) sg b) : Sim p l e R s m args below meth c Qf D cA kd h0 n0 ad0 nL pc L (vI y :: vI x :: r) sg b := by
  intro ad H locs cells slots ls hR
  obtain ⟨oy, ok⟩ := List.forall_mem_cons.mp hR.ok
  obtain ⟨ox, ok⟩ := List.forall_mem_cons.mp ok
  have oy : r32 y := oy
  have ox : r32 x := ox
  obtain ⟨hne, h⟩ := h
  refine lv_idiv hx hb hdg (fun hz => hne ((eq32 oy r32_0).mp (hz.trans z32))) ?_
  have h1 := h ad H locs cells slots ls (hR.st' (List.forall_mem_cons.mpr ⟨wr_r _, ok⟩))
  rw [e_div ox oy]
  exact h1

theorem sm_irem (hx : p.tables.exec = Jvm.exec) (hb : c.code = cc) {x y : Int} (hdg : decode cc pc = .ok (.irem, 1)) (h : y ≠ 0 ∧ Sim p l e R s m args below meth c Qf D cA kd h0 n0 ad0 nL (pc + 1) L (vI (x.tmod y) :: r) sg b) : Sim p l e R s m args below meth c Qf D cA kd h0 n0 ad0 nL pc L (vI y :: vI x :: r) sg b := by
  intro ad H locs cells slots ls hR
  obtain ⟨oy, ok⟩ := List.forall_mem_cons.mp hR.ok
  obtain ⟨ox, ok⟩ := List.forall_mem_cons.mp ok
  have oy : r32 y := oy
  have ox : r32 x := ox
  obtain ⟨hne, h⟩ := h
  refine lv_irem hx hb hdg (fun hz => hne ((eq32 oy r32_0).mp (hz.trans z32))) ?_
  have h1 := h ad H locs cells slots ls (hR.st' (List.forall_mem_cons.mpr ⟨(e_rem ox oy ▸ i32_r _ : r32 (x.tmod y)), ok⟩))
  rw [← of_i32 (Int32.ofInt x - Int32.ofInt x / Int32.ofInt y * Int32.ofInt y), e_rem ox oy]
  exact h1

theorem sm_iand (hx : p.tables.exec = Jvm.exec) (hb : c.code = cc) {x y : Int} (hdg : decode cc pc = .ok (.iand, 1)) (h : Sim p l e R s m args below meth c Qf D cA kd h0 n0 ad0 nL (pc + 1) L (vI (iAnd x y) :: r) sg b) : Sim p l e R s m args below meth c Qf D cA kd h0 n0 ad0 nL pc L (vI y :: vI x :: r) sg b := by
  intro ad H locs cells slots ls hR
  obtain ⟨oy, ok⟩ := List.forall_mem_cons.mp hR.ok
  obtain ⟨ox, ok⟩ := List.forall_mem_cons.mp ok
  have oy : r32 y := oy
  have ox : r32 x := ox
  refine lv_iand hx hb hdg ?_
  have h1 := h ad H locs cells slots ls (hR.st' (List.forall_mem_cons.mpr ⟨i32_r _, ok⟩))
  rw [← of_i32 (Int32.ofInt x &&& Int32.ofInt y)]
  exact h1

theorem sm_ior (hx : p.tables.exec = Jvm.exec) (hb : c.code = cc) {x y : Int} (hdg : decode cc pc = .ok (.ior, 1)) (h : Sim p l e R s m args below meth c Qf D cA kd h0 n0 ad0 nL (pc + 1) L (vI (iOr x y) :: r) sg b) : Sim p l e R s m args below meth c Qf D cA kd h0 n0 ad0 nL pc L (vI y :: vI x :: r) sg b := by
  intro ad H locs cells slots ls hR
  obtain ⟨oy, ok⟩ := List.forall_mem_cons.mp hR.ok
  obtain ⟨ox, ok⟩ := List.forall_mem_cons.mp ok
  have oy : r32 y := oy
  have ox : r32 x := ox
  refine lv_ior hx hb hdg ?_
  have h1 := h ad H locs cells slots ls (hR.st' (List.forall_mem_cons.mpr ⟨i32_r _, ok⟩))
  rw [← of_i32 (Int32.ofInt x ||| Int32.ofInt y)]
  exact h1

theorem sm_ixor (hx : p.tables.exec = Jvm.exec) (hb : c.code = cc) {x y : Int} (hdg : decode cc pc = .ok (.ixor, 1)) (h : Sim p l e R s m args below meth c Qf D cA kd h0 n0 ad0 nL (pc + 1) L (vI (iXor x y) :: r) sg b) : Sim p l e R s m args below meth c Qf D cA kd h0 n0 ad0 nL pc L (vI y :: vI x :: r) sg b := by
  intro ad H locs cells slots ls hR
  obtain ⟨oy, ok⟩ := List.forall_mem_cons.mp hR.ok
  obtain ⟨ox, ok⟩ := List.forall_mem_cons.mp ok
  have oy : r32 y := oy
  have ox : r32 x := ox
  refine lv_ixor hx hb hdg ?_
  have h1 := h ad H locs cells slots ls (hR.st' (List.forall_mem_cons.mpr ⟨i32_r _, ok⟩))
  rw [← of_i32 (Int32.ofInt x ^^^ Int32.ofInt y)]
  exact h1

theorem sm_ishl (hx : p.tables.exec = Jvm.exec) (hb : c.code = cc) {x y : Int} (hdg : decode cc pc = .ok (.ishl, 1)) (h : Sim p l e R s m args below meth c Qf D cA kd h0 n0 ad0 nL (pc + 1) L (vI (iShl x y) :: r) sg b) : Sim p l e R s m args below meth c Qf D cA kd h0 n0 ad0 nL pc L (vI y :: vI x :: r) sg b := by
  intro ad H locs cells slots ls hR
  obtain ⟨oy, ok⟩ := List.forall_mem_cons.mp hR.ok
  obtain ⟨ox, ok⟩ := List.forall_mem_cons.mp ok
  have oy : r32 y := oy
  have ox : r32 x := ox
  refine lv_ishl hx hb hdg ?_
  have h1 := h ad H locs cells slots ls (hR.st' (List.forall_mem_cons.mpr ⟨i32_r _, ok⟩))
  rw [← of_i32 (Int32.ofInt x <<< (Int32.ofInt y &&& 31))]
  exact h1

theorem sm_ishr (hx : p.tables.exec = Jvm.exec) (hb : c.code = cc) {x y : Int} (hdg : decode cc pc = .ok (.ishr, 1)) (h : Sim p l e R s m args below meth c Qf D cA kd h0 n0 ad0 nL (pc + 1) L (vI (iShr x y) :: r) sg b) : Sim p l e R s m args below meth c Qf D cA kd h0 n0 ad0 nL pc L (vI y :: vI x :: r) sg b := by
  intro ad H locs cells slots ls hR
  obtain ⟨oy, ok⟩ := List.forall_mem_cons.mp hR.ok
  obtain ⟨ox, ok⟩ := List.forall_mem_cons.mp ok
  have oy : r32 y := oy
  have ox : r32 x := ox
  refine lv_ishr hx hb hdg ?_
  have h1 := h ad H locs cells slots ls (hR.st' (List.forall_mem_cons.mpr ⟨i32_r _, ok⟩))
  rw [← of_i32 (Int32.ofInt x >>> (Int32.ofInt y &&& 31))]
  exact h1

theorem sm_ladd (hx : p.tables.exec = Jvm.exec) (hb : c.code = cc) {x y : Int} (hdg : decode cc pc = .ok (.ladd, 1)) (h : Sim p l e R s m args below meth c Qf D cA kd h0 n0 ad0 nL (pc + 1) L (vL (wl (x + y)) :: r) sg b) : Sim p l e R s m args below meth c Qf D cA kd h0 n0 ad0 nL pc L (vL y :: vL x :: r) sg b := by
  intro ad H locs cells slots ls hR
  obtain ⟨oy, ok⟩ := List.forall_mem_cons.mp hR.ok
  obtain ⟨ox, ok⟩ := List.forall_mem_cons.mp ok
  have oy : r64 y := oy
  have ox : r64 x := ox
  refine lv_ladd hx hb hdg ?_
  have h1 := h ad H locs cells slots ls (hR.st' (List.forall_mem_cons.mpr ⟨wl_r _, ok⟩))
  rw [l_add]
  exact h1

theorem sm_lsub (hx : p.tables.exec = Jvm.exec) (hb : c.code = cc) {x y : Int} (hdg : decode cc pc = .ok (.lsub, 1)) (h : Sim p l e R s m args below meth c Qf D cA kd h0 n0 ad0 nL (pc + 1) L (vL (wl (x - y)) :: r) sg b) : Sim p l e R s m args below meth c Qf D cA kd h0 n0 ad0 nL pc L (vL y :: vL x :: r) sg b := by
  intro ad H locs cells slots ls hR
  obtain ⟨oy, ok⟩ := List.forall_mem_cons.mp hR.ok
  obtain ⟨ox, ok⟩ := List.forall_mem_cons.mp ok
  have oy : r64 y := oy
  have ox : r64 x := ox
  refine lv_lsub hx hb hdg ?_
  have h1 := h ad H locs cells slots ls (hR.st' (List.forall_mem_cons.mpr ⟨wl_r _, ok⟩))
  rw [l_sub]
  exact h1

theorem sm_lmul (hx : p.tables.exec = Jvm.exec) (hb : c.code = cc) {x y : Int} (hdg : decode cc pc = .ok (.lmul, 1)) (h : Sim p l e R s m args below meth c Qf D cA kd h0 n0 ad0 nL (pc + 1) L (vL (wl (x * y)) :: r) sg b) : Sim p l e R s m args below meth c Qf D cA kd h0 n0 ad0 nL pc L (vL y :: vL x :: r) sg b := by
  intro ad H locs cells slots ls hR
  obtain ⟨oy, ok⟩ := List.forall_mem_cons.mp hR.ok
  obtain ⟨ox, ok⟩ := List.forall_mem_cons.mp ok
  have oy : r64 y := oy
  have ox : r64 x := ox
  refine lv_lmul hx hb hdg ?_
  have h1 := h ad H locs cells slots ls (hR.st' (List.forall_mem_cons.mpr ⟨wl_r _, ok⟩))
  rw [l_mul]
  exact h1

theorem sm_ldiv (hx : p.tables.exec = Jvm.exec) (hb : c.code = cc) {x y : Int} (hdg : decode cc pc = .ok (.ldiv, 1)) (h : y ≠ 0 ∧ Sim p l e R s m args below meth c Qf D cA kd h0 n0 ad0 nL (pc + 1) L (vL (wl (x.tdiv y)) :: r) sg b) : Sim p l e R s m args below meth c Qf D cA kd h0 n0 ad0 nL pc L (vL y :: vL x :: r) sg b := by
  intro ad H locs cells slots ls hR
  obtain ⟨oy, ok⟩ := List.forall_mem_cons.mp hR.ok
  obtain ⟨ox, ok⟩ := List.forall_mem_cons.mp ok
  have oy : r64 y := oy
  have ox : r64 x := ox
  obtain ⟨hne, h⟩ := h
  refine lv_ldiv hx hb hdg (fun hz => hne ((eq64 oy r64_0).mp (hz.trans (by decide)))) ?_
  have h1 := h ad H locs cells slots ls (hR.st' (List.forall_mem_cons.mpr ⟨wl_r _, ok⟩))
  rw [l_div ox oy]
  exact h1

theorem sm_lrem (hx : p.tables.exec = Jvm.exec) (hb : c.code = cc) {x y : Int} (hdg : decode cc pc = .ok (.lrem, 1)) (h : y ≠ 0 ∧ Sim p l e R s m args below meth c Qf D cA kd h0 n0 ad0 nL (pc + 1) L (vL (x.tmod y) :: r) sg b) : Sim p l e R s m args below meth c Qf D cA kd h0 n0 ad0 nL pc L (vL y :: vL x :: r) sg b := by
  intro ad H locs cells slots ls hR
  obtain ⟨oy, ok⟩ := List.forall_mem_cons.mp hR.ok
  obtain ⟨ox, ok⟩ := List.forall_mem_cons.mp ok
  have oy : r64 y := oy
  have ox : r64 x := ox
  obtain ⟨hne, h⟩ := h
  refine lv_lrem hx hb hdg (fun hz => hne ((eq64 oy r64_0).mp (hz.trans (by decide)))) ?_
  have h1 := h ad H locs cells slots ls (hR.st' (List.forall_mem_cons.mpr ⟨(l_rem ox oy ▸ i64_r _ : r64 (x.tmod y)), ok⟩))
  rw [← of_i64 (Int64.ofInt x - Int64.ofInt x / Int64.ofInt y * Int64.ofInt y), l_rem ox oy]
  exact h1

theorem sm_land (hx : p.tables.exec = Jvm.exec) (hb : c.code = cc) {x y : Int} (hdg : decode cc pc = .ok (.land, 1)) (h : Sim p l e R s m args below meth c Qf D cA kd h0 n0 ad0 nL (pc + 1) L (vL (lAnd x y) :: r) sg b) : Sim p l e R s m args below meth c Qf D cA kd h0 n0 ad0 nL pc L (vL y :: vL x :: r) sg b := by
  intro ad H locs cells slots ls hR
  obtain ⟨oy, ok⟩ := List.forall_mem_cons.mp hR.ok
  obtain ⟨ox, ok⟩ := List.forall_mem_cons.mp ok
  have oy : r64 y := oy
  have ox : r64 x := ox
  refine lv_land hx hb hdg ?_
  have h1 := h ad H locs cells slots ls (hR.st' (List.forall_mem_cons.mpr ⟨i64_r _, ok⟩))
  rw [← of_i64 (Int64.ofInt x &&& Int64.ofInt y)]
  exact h1

theorem sm_lor (hx : p.tables.exec = Jvm.exec) (hb : c.code = cc) {x y : Int} (hdg : decode cc pc = .ok (.lor, 1)) (h : Sim p l e R s m args below meth c Qf D cA kd h0 n0 ad0 nL (pc + 1) L (vL (lOr x y) :: r) sg b) : Sim p l e R s m args below meth c Qf D cA kd h0 n0 ad0 nL pc L (vL y :: vL x :: r) sg b := by
  intro ad H locs cells slots ls hR
  obtain ⟨oy, ok⟩ := List.forall_mem_cons.mp hR.ok
  obtain ⟨ox, ok⟩ := List.forall_mem_cons.mp ok
  have oy : r64 y := oy
  have ox : r64 x := ox
  refine lv_lor hx hb hdg ?_
  have h1 := h ad H locs cells slots ls (hR.st' (List.forall_mem_cons.mpr ⟨i64_r _, ok⟩))
  rw [← of_i64 (Int64.ofInt x ||| Int64.ofInt y)]
  exact h1

theorem sm_lshl (hx : p.tables.exec = Jvm.exec) (hb : c.code = cc) {x y : Int} (hdg : decode cc pc = .ok (.lshl, 1)) (h : Sim p l e R s m args below meth c Qf D cA kd h0 n0 ad0 nL (pc + 1) L (vL (lShl x y) :: r) sg b) : Sim p l e R s m args below meth c Qf D cA kd h0 n0 ad0 nL pc L (vI y :: vL x :: r) sg b := by
  intro ad H locs cells slots ls hR
  obtain ⟨oy, ok⟩ := List.forall_mem_cons.mp hR.ok
  obtain ⟨ox, ok⟩ := List.forall_mem_cons.mp ok
  have oy : r32 y := oy
  have ox : r64 x := ox
  refine lv_lshl hx hb hdg (of_i64 _).symm ?_
  have h1 := h ad H locs cells slots ls (hR.st' (List.forall_mem_cons.mpr ⟨i64_r _, ok⟩))
  skip
  exact h1

theorem sm_lshr (hx : p.tables.exec = Jvm.exec) (hb : c.code = cc) {x y : Int} (hdg : decode cc pc = .ok (.lshr, 1)) (h : Sim p l e R s m args below meth c Qf D cA kd h0 n0 ad0 nL (pc + 1) L (vL (lShr x y) :: r) sg b) : Sim p l e R s m args below meth c Qf D cA kd h0 n0 ad0 nL pc L (vI y :: vL x :: r) sg b := by
  intro ad H locs cells slots ls hR
  obtain ⟨oy, ok⟩ := List.forall_mem_cons.mp hR.ok
  obtain ⟨ox, ok⟩ := List.forall_mem_cons.mp ok
  have oy : r32 y := oy
  have ox : r64 x := ox
  refine lv_lshr hx hb hdg (of_i64 _).symm ?_
  have h1 := h ad H locs cells slots ls (hR.st' (List.forall_mem_cons.mpr ⟨i64_r _, ok⟩))
  skip
  exact h1

theorem sm_lushr (hx : p.tables.exec = Jvm.exec) (hb : c.code = cc) {x y : Int} (hdg : decode cc pc = .ok (.lushr, 1)) (h : Sim p l e R s m args below meth c Qf D cA kd h0 n0 ad0 nL (pc + 1) L (vL (lUshr x y) :: r) sg b) : Sim p l e R s m args below meth c Qf D cA kd h0 n0 ad0 nL pc L (vI y :: vL x :: r) sg b := by
  intro ad H locs cells slots ls hR
  obtain ⟨oy, ok⟩ := List.forall_mem_cons.mp hR.ok
  obtain ⟨ox, ok⟩ := List.forall_mem_cons.mp ok
  have oy : r32 y := oy
  have ox : r64 x := ox
  refine lv_lushr hx hb hdg (of_i64 _).symm ?_
  have h1 := h ad H locs cells slots ls (hR.st' (List.forall_mem_cons.mpr ⟨i64_r _, ok⟩))
  skip
  exact h1

theorem sm_ineg (hx : p.tables.exec = Jvm.exec) (hb : c.code = cc) {x : Int} (hdg : decode cc pc = .ok (.ineg, 1)) (h : Sim p l e R s m args below meth c Qf D cA kd h0 n0 ad0 nL (pc + 1) L (vI (wr (-x)) :: r) sg b) : Sim p l e R s m args below meth c Qf D cA kd h0 n0 ad0 nL pc L (vI x :: r) sg b := by
  intro ad H locs cells slots ls hR
  obtain ⟨ox, ok⟩ := List.forall_mem_cons.mp hR.ok
  have ox : r32 x := ox
  refine lv_ineg hx hb hdg ?_
  have h1 := h ad H locs cells slots ls (hR.st' (List.forall_mem_cons.mpr ⟨wr_r _, ok⟩))
  rw [e_neg]
  exact h1

theorem sm_i2l (hx : p.tables.exec = Jvm.exec) (hb : c.code = cc) {x : Int} (hdg : decode cc pc = .ok (.i2l, 1)) (h : Sim p l e R s m args below meth c Qf D cA kd h0 n0 ad0 nL (pc + 1) L (vL (x) :: r) sg b) : Sim p l e R s m args below meth c Qf D cA kd h0 n0 ad0 nL pc L (vI x :: r) sg b := by
  intro ad H locs cells slots ls hR
  obtain ⟨ox, ok⟩ := List.forall_mem_cons.mp hR.ok
  have ox : r32 x := ox
  refine lv_i2l hx hb hdg (e_i2l ox) ?_
  have h1 := h ad H locs cells slots ls (hR.st' (List.forall_mem_cons.mpr ⟨r32_64 ox, ok⟩))
  skip
  exact h1

theorem sm_l2i (hx : p.tables.exec = Jvm.exec) (hb : c.code = cc) {x : Int} (hdg : decode cc pc = .ok (.l2i, 1)) (h : Sim p l e R s m args below meth c Qf D cA kd h0 n0 ad0 nL (pc + 1) L (vI (wr x) :: r) sg b) : Sim p l e R s m args below meth c Qf D cA kd h0 n0 ad0 nL pc L (vL x :: r) sg b := by
  intro ad H locs cells slots ls hR
  obtain ⟨ox, ok⟩ := List.forall_mem_cons.mp hR.ok
  have ox : r64 x := ox
  refine lv_l2i hx hb hdg (e_l2i x) ?_
  have h1 := h ad H locs cells slots ls (hR.st' (List.forall_mem_cons.mpr ⟨wr_r _, ok⟩))
  skip
  exact h1

theorem sm_i2b (hx : p.tables.exec = Jvm.exec) (hb : c.code = cc) {x : Int} (hdg : decode cc pc = .ok (.i2b, 1)) (h : Sim p l e R s m args below meth c Qf D cA kd h0 n0 ad0 nL (pc + 1) L (vI (iB x) :: r) sg b) : Sim p l e R s m args below meth c Qf D cA kd h0 n0 ad0 nL pc L (vI x :: r) sg b := by
  intro ad H locs cells slots ls hR
  obtain ⟨ox, ok⟩ := List.forall_mem_cons.mp hR.ok
  have ox : r32 x := ox
  refine lv_i2b hx hb hdg (of_i32 _).symm ?_
  have h1 := h ad H locs cells slots ls (hR.st' (List.forall_mem_cons.mpr ⟨i32_r _, ok⟩))
  skip
  exact h1

theorem sm_i2c (hx : p.tables.exec = Jvm.exec) (hb : c.code = cc) {x : Int} (hdg : decode cc pc = .ok (.i2c, 1)) (h : Sim p l e R s m args below meth c Qf D cA kd h0 n0 ad0 nL (pc + 1) L (vI (iC x) :: r) sg b) : Sim p l e R s m args below meth c Qf D cA kd h0 n0 ad0 nL pc L (vI x :: r) sg b := by
  intro ad H locs cells slots ls hR
  obtain ⟨ox, ok⟩ := List.forall_mem_cons.mp hR.ok
  have ox : r32 x := ox
  refine lv_i2c hx hb hdg (of_i32 _).symm ?_
  have h1 := h ad H locs cells slots ls (hR.st' (List.forall_mem_cons.mpr ⟨i32_r _, ok⟩))
  skip
  exact h1

theorem sm_lcmp (hx : p.tables.exec = Jvm.exec) (hb : c.code = cc) {x y : Int} (hdg : decode cc pc = .ok (.lcmp, 1)) (h : Sim p l e R s m args below meth c Qf D cA kd h0 n0 ad0 nL (pc + 1) L (vI (lCmp x y) :: r) sg b) : Sim p l e R s m args below meth c Qf D cA kd h0 n0 ad0 nL pc L (vL y :: vL x :: r) sg b := by
  intro ad H locs cells slots ls hR
  obtain ⟨oy, ok⟩ := List.forall_mem_cons.mp hR.ok
  obtain ⟨ox, ok⟩ := List.forall_mem_cons.mp ok
  refine W.lcmp hx hb hdg ?_
  have h1 := h ad H locs cells slots ls (hR.st' (List.forall_mem_cons.mpr ⟨lCmp_r _ _, ok⟩))
  rw [e_lcmp ox oy]
  exact h1
theorem cat1 (hk1 : ∀ k, (kd k).category = 1) {ad : Nat → Nat} {v : mV} (h : ∀ z, v ≠ vL z) : (cV ad kd v).category = 1 := by
  rcases v with n | n | n | n
  · rfl
  · exact absurd rfl (h n)
  · rfl
  · exact hk1 n
theorem sm_pop (hx : p.tables.exec = Jvm.exec) (hb : c.code = cc) (hk1 : ∀ k, (kd k).category = 1) {v : mV} (hv : ∀ z, v ≠ vL z) (hdg : decode cc pc = .ok (.pop, 1)) (h : Sim p l e R s m args below meth c Qf D cA kd h0 n0 ad0 nL (pc + 1) L r sg b) : Sim p l e R s m args below meth c Qf D cA kd h0 n0 ad0 nL pc L (v :: r) sg b := by
  intro ad H locs cells slots ls hR
  obtain ⟨ov, ok⟩ := List.forall_mem_cons.mp hR.ok
  exact lv_pop hx hb hdg (cat1 hk1 hv) (h ad H locs cells slots ls (hR.st' ok))
theorem sm_dup (hx : p.tables.exec = Jvm.exec) (hb : c.code = cc) (hk1 : ∀ k, (kd k).category = 1) {v : mV} (hv : ∀ z, v ≠ vL z) (hdg : decode cc pc = .ok (.dup, 1)) (h : Sim p l e R s m args below meth c Qf D cA kd h0 n0 ad0 nL (pc + 1) L (v :: v :: r) sg b) : Sim p l e R s m args below meth c Qf D cA kd h0 n0 ad0 nL pc L (v :: r) sg b := by
  intro ad H locs cells slots ls hR
  obtain ⟨ov, ok⟩ := List.forall_mem_cons.mp hR.ok
  exact lv_dup hx hb hdg (cat1 hk1 hv) (h ad H locs cells slots ls (hR.st' (List.forall_mem_cons.mpr ⟨ov, hR.ok⟩)))
theorem sm_dup2 (hx : p.tables.exec = Jvm.exec) (hb : c.code = cc) (hk1 : ∀ k, (kd k).category = 1) {n : Int} {v : mV} (hv : ∀ z, v ≠ vL z) (hdg : decode cc pc = .ok (.dup2, 1)) (h : Sim p l e R s m args below meth c Qf D cA kd h0 n0 ad0 nL (pc + 1) L (vI n :: v :: vI n :: v :: r) sg b) : Sim p l e R s m args below meth c Qf D cA kd h0 n0 ad0 nL pc L (vI n :: v :: r) sg b := by
  intro ad H locs cells slots ls hR
  obtain ⟨on, ok⟩ := List.forall_mem_cons.mp hR.ok
  obtain ⟨ov, ok'⟩ := List.forall_mem_cons.mp ok
  exact lv_dup2_11 hx hb hdg rfl (cat1 hk1 hv) (h ad H locs cells slots ls (hR.st' (List.forall_mem_cons.mpr ⟨on, List.forall_mem_cons.mpr ⟨ov, hR.ok⟩⟩)))
theorem sm_iinc (hx : p.tables.exec = Jvm.exec) (hb : c.code = cc) (hk1 : ∀ k, (kd k).category = 1) {i : Nat} {n k : Int} (hdg : decode cc pc = .ok (.iinc i k, 3)) (hg : mGet L i = some (vI n)) (hn : i < nL) (h : Sim p l e R s m args below meth c Qf D cA kd h0 n0 ad0 nL (pc + 3) (mSet L i (vI (wr (n + k)))) st sg b) : Sim p l e R s m args below meth c Qf D cA kd h0 n0 ad0 nL pc L st sg b := by
  intro ad H locs cells slots ls hR
  have hm := lsOf_mem (ad := ad) (kd := kd) hg
  obtain ⟨q, hq⟩ := List.getElem?_of_mem hm
  refine lv_iinc (v := Int32.ofInt (wr (n + k))) hx hb hdg (lsOf_has hR.lv) hq (e_add n k) hn rfl (fun ls' hl' => ?_)
  exact h ad H locs cells slots ls' (hR.setl (lvr_set (v := vI (wr (n + k))) hk1 hl') (okV_set hR.okl (wr_r _)) hR.ok)
theorem sm_goto (hx : p.tables.exec = Jvm.exec) (hb : c.code = cc) {o : Int} {t : Nat} (hdg : decode cc pc = .ok (.goto o, 3)) (ht : (pc : Int) + o = (t : Int)) (h : Sim p l e R s m args below meth c Qf D cA kd h0 n0 ad0 nL t L st sg b) : Sim p l e R s m args below meth c Qf D cA kd h0 n0 ad0 nL pc L st sg b := by
  intro ad H locs cells slots ls hR
  exact lv_goto hx hb hdg ht (h ad H locs cells slots ls hR)

theorem sm_if_eq (hx : p.tables.exec = Jvm.exec) (hb : c.code = cc) {x o : Int} {t : Nat} (hdg : decode cc pc = .ok (.ifCond .eq o, 3)) (ht : (pc : Int) + o = (t : Int)) (h : (x = 0 → Sim p l e R s m args below meth c Qf D cA kd h0 n0 ad0 nL t L r sg b) ∧ (¬ x = 0 → Sim p l e R s m args below meth c Qf D cA kd h0 n0 ad0 nL (pc + 3) L r sg b)) : Sim p l e R s m args below meth c Qf D cA kd h0 n0 ad0 nL pc L (vI x :: r) sg b := by
  intro ad H locs cells slots ls hR
  obtain ⟨ox, ok⟩ := List.forall_mem_cons.mp hR.ok
  have k1 := fun q => h.1 q ad H locs cells slots ls (hR.st' ok)
  have k2 := fun q => h.2 q ad H locs cells slots ls (hR.st' ok)
  have E : (Int32.ofInt x = (0 : Int32)) ↔ x = 0 := (by rw [z32]; exact eq32 ox r32_0)
  have A : (Int32.ofInt x < (0 : Int32)) ↔ x < 0 := (by rw [z32]; exact lt32 ox r32_0)
  have B : ((0 : Int32) < Int32.ofInt x) ↔ 0 < x := (by rw [z32]; exact lt32 r32_0 ox)
  exact lv_if_eq hx hb hdg ht (fun q => k1 (E.mp q)) (fun q => k2 (fun z => q (E.mpr z)))

theorem sm_if_ne (hx : p.tables.exec = Jvm.exec) (hb : c.code = cc) {x o : Int} {t : Nat} (hdg : decode cc pc = .ok (.ifCond .ne o, 3)) (ht : (pc : Int) + o = (t : Int)) (h : (¬ x = 0 → Sim p l e R s m args below meth c Qf D cA kd h0 n0 ad0 nL t L r sg b) ∧ (x = 0 → Sim p l e R s m args below meth c Qf D cA kd h0 n0 ad0 nL (pc + 3) L r sg b)) : Sim p l e R s m args below meth c Qf D cA kd h0 n0 ad0 nL pc L (vI x :: r) sg b := by
  intro ad H locs cells slots ls hR
  obtain ⟨ox, ok⟩ := List.forall_mem_cons.mp hR.ok
  have k1 := fun q => h.1 q ad H locs cells slots ls (hR.st' ok)
  have k2 := fun q => h.2 q ad H locs cells slots ls (hR.st' ok)
  have E : (Int32.ofInt x = (0 : Int32)) ↔ x = 0 := (by rw [z32]; exact eq32 ox r32_0)
  have A : (Int32.ofInt x < (0 : Int32)) ↔ x < 0 := (by rw [z32]; exact lt32 ox r32_0)
  have B : ((0 : Int32) < Int32.ofInt x) ↔ 0 < x := (by rw [z32]; exact lt32 r32_0 ox)
  exact lv_if_ne hx hb hdg ht (fun q => k1 (fun z => q (E.mpr z))) (fun q => k2 (E.mp q))

theorem sm_if_lt (hx : p.tables.exec = Jvm.exec) (hb : c.code = cc) {x o : Int} {t : Nat} (hdg : decode cc pc = .ok (.ifCond .lt o, 3)) (ht : (pc : Int) + o = (t : Int)) (h : (x < 0 → Sim p l e R s m args below meth c Qf D cA kd h0 n0 ad0 nL t L r sg b) ∧ (¬ x < 0 → Sim p l e R s m args below meth c Qf D cA kd h0 n0 ad0 nL (pc + 3) L r sg b)) : Sim p l e R s m args below meth c Qf D cA kd h0 n0 ad0 nL pc L (vI x :: r) sg b := by
  intro ad H locs cells slots ls hR
  obtain ⟨ox, ok⟩ := List.forall_mem_cons.mp hR.ok
  have k1 := fun q => h.1 q ad H locs cells slots ls (hR.st' ok)
  have k2 := fun q => h.2 q ad H locs cells slots ls (hR.st' ok)
  have E : (Int32.ofInt x = (0 : Int32)) ↔ x = 0 := (by rw [z32]; exact eq32 ox r32_0)
  have A : (Int32.ofInt x < (0 : Int32)) ↔ x < 0 := (by rw [z32]; exact lt32 ox r32_0)
  have B : ((0 : Int32) < Int32.ofInt x) ↔ 0 < x := (by rw [z32]; exact lt32 r32_0 ox)
  exact lv_if_lt hx hb hdg ht (fun q => k1 (A.mp q)) (fun q => k2 (fun z => q (A.mpr z)))

theorem sm_if_ge (hx : p.tables.exec = Jvm.exec) (hb : c.code = cc) {x o : Int} {t : Nat} (hdg : decode cc pc = .ok (.ifCond .ge o, 3)) (ht : (pc : Int) + o = (t : Int)) (h : (¬ x < 0 → Sim p l e R s m args below meth c Qf D cA kd h0 n0 ad0 nL t L r sg b) ∧ (x < 0 → Sim p l e R s m args below meth c Qf D cA kd h0 n0 ad0 nL (pc + 3) L r sg b)) : Sim p l e R s m args below meth c Qf D cA kd h0 n0 ad0 nL pc L (vI x :: r) sg b := by
  intro ad H locs cells slots ls hR
  obtain ⟨ox, ok⟩ := List.forall_mem_cons.mp hR.ok
  have k1 := fun q => h.1 q ad H locs cells slots ls (hR.st' ok)
  have k2 := fun q => h.2 q ad H locs cells slots ls (hR.st' ok)
  have E : (Int32.ofInt x = (0 : Int32)) ↔ x = 0 := (by rw [z32]; exact eq32 ox r32_0)
  have A : (Int32.ofInt x < (0 : Int32)) ↔ x < 0 := (by rw [z32]; exact lt32 ox r32_0)
  have B : ((0 : Int32) < Int32.ofInt x) ↔ 0 < x := (by rw [z32]; exact lt32 r32_0 ox)
  exact lv_if_ge hx hb hdg ht (fun q => k1 (fun z => Int32.not_lt.mpr q (A.mpr z))) (fun q => k2 (A.mp (Int32.not_le.mp q)))

theorem sm_if_gt (hx : p.tables.exec = Jvm.exec) (hb : c.code = cc) {x o : Int} {t : Nat} (hdg : decode cc pc = .ok (.ifCond .gt o, 3)) (ht : (pc : Int) + o = (t : Int)) (h : (0 < x → Sim p l e R s m args below meth c Qf D cA kd h0 n0 ad0 nL t L r sg b) ∧ (¬ 0 < x → Sim p l e R s m args below meth c Qf D cA kd h0 n0 ad0 nL (pc + 3) L r sg b)) : Sim p l e R s m args below meth c Qf D cA kd h0 n0 ad0 nL pc L (vI x :: r) sg b := by
  intro ad H locs cells slots ls hR
  obtain ⟨ox, ok⟩ := List.forall_mem_cons.mp hR.ok
  have k1 := fun q => h.1 q ad H locs cells slots ls (hR.st' ok)
  have k2 := fun q => h.2 q ad H locs cells slots ls (hR.st' ok)
  have E : (Int32.ofInt x = (0 : Int32)) ↔ x = 0 := (by rw [z32]; exact eq32 ox r32_0)
  have A : (Int32.ofInt x < (0 : Int32)) ↔ x < 0 := (by rw [z32]; exact lt32 ox r32_0)
  have B : ((0 : Int32) < Int32.ofInt x) ↔ 0 < x := (by rw [z32]; exact lt32 r32_0 ox)
  exact lv_if_gt hx hb hdg ht (fun q => k1 (B.mp q)) (fun q => k2 (fun z => q (B.mpr z)))

theorem sm_if_le (hx : p.tables.exec = Jvm.exec) (hb : c.code = cc) {x o : Int} {t : Nat} (hdg : decode cc pc = .ok (.ifCond .le o, 3)) (ht : (pc : Int) + o = (t : Int)) (h : (¬ 0 < x → Sim p l e R s m args below meth c Qf D cA kd h0 n0 ad0 nL t L r sg b) ∧ (0 < x → Sim p l e R s m args below meth c Qf D cA kd h0 n0 ad0 nL (pc + 3) L r sg b)) : Sim p l e R s m args below meth c Qf D cA kd h0 n0 ad0 nL pc L (vI x :: r) sg b := by
  intro ad H locs cells slots ls hR
  obtain ⟨ox, ok⟩ := List.forall_mem_cons.mp hR.ok
  have k1 := fun q => h.1 q ad H locs cells slots ls (hR.st' ok)
  have k2 := fun q => h.2 q ad H locs cells slots ls (hR.st' ok)
  have E : (Int32.ofInt x = (0 : Int32)) ↔ x = 0 := (by rw [z32]; exact eq32 ox r32_0)
  have A : (Int32.ofInt x < (0 : Int32)) ↔ x < 0 := (by rw [z32]; exact lt32 ox r32_0)
  have B : ((0 : Int32) < Int32.ofInt x) ↔ 0 < x := (by rw [z32]; exact lt32 r32_0 ox)
  exact lv_if_le hx hb hdg ht (fun q => k1 (fun z => Int32.not_lt.mpr q (B.mpr z))) (fun q => k2 (B.mp (Int32.not_le.mp q)))

theorem sm_icmp_eq (hx : p.tables.exec = Jvm.exec) (hb : c.code = cc) {x y o : Int} {t : Nat} (hdg : decode cc pc = .ok (.if_icmp .eq o, 3)) (ht : (pc : Int) + o = (t : Int)) (h : (x = y → Sim p l e R s m args below meth c Qf D cA kd h0 n0 ad0 nL t L r sg b) ∧ (¬ x = y → Sim p l e R s m args below meth c Qf D cA kd h0 n0 ad0 nL (pc + 3) L r sg b)) : Sim p l e R s m args below meth c Qf D cA kd h0 n0 ad0 nL pc L (vI y :: vI x :: r) sg b := by
  intro ad H locs cells slots ls hR
  obtain ⟨oy, ok⟩ := List.forall_mem_cons.mp hR.ok
  obtain ⟨ox, ok⟩ := List.forall_mem_cons.mp ok
  have k1 := fun q => h.1 q ad H locs cells slots ls (hR.st' ok)
  have k2 := fun q => h.2 q ad H locs cells slots ls (hR.st' ok)
  have E : (Int32.ofInt x = Int32.ofInt y) ↔ x = y := eq32 ox oy
  have A : (Int32.ofInt x < Int32.ofInt y) ↔ x < y := lt32 ox oy
  have B : (Int32.ofInt y < Int32.ofInt x) ↔ y < x := lt32 oy ox
  exact lv_icmp_eq hx hb hdg ht (fun q => k1 (E.mp q)) (fun q => k2 (fun z => q (E.mpr z)))

theorem sm_icmp_ne (hx : p.tables.exec = Jvm.exec) (hb : c.code = cc) {x y o : Int} {t : Nat} (hdg : decode cc pc = .ok (.if_icmp .ne o, 3)) (ht : (pc : Int) + o = (t : Int)) (h : (¬ x = y → Sim p l e R s m args below meth c Qf D cA kd h0 n0 ad0 nL t L r sg b) ∧ (x = y → Sim p l e R s m args below meth c Qf D cA kd h0 n0 ad0 nL (pc + 3) L r sg b)) : Sim p l e R s m args below meth c Qf D cA kd h0 n0 ad0 nL pc L (vI y :: vI x :: r) sg b := by
  intro ad H locs cells slots ls hR
  obtain ⟨oy, ok⟩ := List.forall_mem_cons.mp hR.ok
  obtain ⟨ox, ok⟩ := List.forall_mem_cons.mp ok
  have k1 := fun q => h.1 q ad H locs cells slots ls (hR.st' ok)
  have k2 := fun q => h.2 q ad H locs cells slots ls (hR.st' ok)
  have E : (Int32.ofInt x = Int32.ofInt y) ↔ x = y := eq32 ox oy
  have A : (Int32.ofInt x < Int32.ofInt y) ↔ x < y := lt32 ox oy
  have B : (Int32.ofInt y < Int32.ofInt x) ↔ y < x := lt32 oy ox
  exact lv_icmp_ne hx hb hdg ht (fun q => k1 (fun z => q (E.mpr z))) (fun q => k2 (E.mp q))

theorem sm_icmp_lt (hx : p.tables.exec = Jvm.exec) (hb : c.code = cc) {x y o : Int} {t : Nat} (hdg : decode cc pc = .ok (.if_icmp .lt o, 3)) (ht : (pc : Int) + o = (t : Int)) (h : (x < y → Sim p l e R s m args below meth c Qf D cA kd h0 n0 ad0 nL t L r sg b) ∧ (¬ x < y → Sim p l e R s m args below meth c Qf D cA kd h0 n0 ad0 nL (pc + 3) L r sg b)) : Sim p l e R s m args below meth c Qf D cA kd h0 n0 ad0 nL pc L (vI y :: vI x :: r) sg b := by
  intro ad H locs cells slots ls hR
  obtain ⟨oy, ok⟩ := List.forall_mem_cons.mp hR.ok
  obtain ⟨ox, ok⟩ := List.forall_mem_cons.mp ok
  have k1 := fun q => h.1 q ad H locs cells slots ls (hR.st' ok)
  have k2 := fun q => h.2 q ad H locs cells slots ls (hR.st' ok)
  have E : (Int32.ofInt x = Int32.ofInt y) ↔ x = y := eq32 ox oy
  have A : (Int32.ofInt x < Int32.ofInt y) ↔ x < y := lt32 ox oy
  have B : (Int32.ofInt y < Int32.ofInt x) ↔ y < x := lt32 oy ox
  exact lv_icmp_lt hx hb hdg ht (fun q => k1 (A.mp q)) (fun q => k2 (fun z => q (A.mpr z)))

theorem sm_icmp_ge (hx : p.tables.exec = Jvm.exec) (hb : c.code = cc) {x y o : Int} {t : Nat} (hdg : decode cc pc = .ok (.if_icmp .ge o, 3)) (ht : (pc : Int) + o = (t : Int)) (h : (¬ x < y → Sim p l e R s m args below meth c Qf D cA kd h0 n0 ad0 nL t L r sg b) ∧ (x < y → Sim p l e R s m args below meth c Qf D cA kd h0 n0 ad0 nL (pc + 3) L r sg b)) : Sim p l e R s m args below meth c Qf D cA kd h0 n0 ad0 nL pc L (vI y :: vI x :: r) sg b := by
  intro ad H locs cells slots ls hR
  obtain ⟨oy, ok⟩ := List.forall_mem_cons.mp hR.ok
  obtain ⟨ox, ok⟩ := List.forall_mem_cons.mp ok
  have k1 := fun q => h.1 q ad H locs cells slots ls (hR.st' ok)
  have k2 := fun q => h.2 q ad H locs cells slots ls (hR.st' ok)
  have E : (Int32.ofInt x = Int32.ofInt y) ↔ x = y := eq32 ox oy
  have A : (Int32.ofInt x < Int32.ofInt y) ↔ x < y := lt32 ox oy
  have B : (Int32.ofInt y < Int32.ofInt x) ↔ y < x := lt32 oy ox
  exact lv_icmp_ge hx hb hdg ht (fun q => k1 (fun z => Int32.not_lt.mpr q (A.mpr z))) (fun q => k2 (A.mp (Int32.not_le.mp q)))

theorem sm_icmp_gt (hx : p.tables.exec = Jvm.exec) (hb : c.code = cc) {x y o : Int} {t : Nat} (hdg : decode cc pc = .ok (.if_icmp .gt o, 3)) (ht : (pc : Int) + o = (t : Int)) (h : (y < x → Sim p l e R s m args below meth c Qf D cA kd h0 n0 ad0 nL t L r sg b) ∧ (¬ y < x → Sim p l e R s m args below meth c Qf D cA kd h0 n0 ad0 nL (pc + 3) L r sg b)) : Sim p l e R s m args below meth c Qf D cA kd h0 n0 ad0 nL pc L (vI y :: vI x :: r) sg b := by
  intro ad H locs cells slots ls hR
  obtain ⟨oy, ok⟩ := List.forall_mem_cons.mp hR.ok
  obtain ⟨ox, ok⟩ := List.forall_mem_cons.mp ok
  have k1 := fun q => h.1 q ad H locs cells slots ls (hR.st' ok)
  have k2 := fun q => h.2 q ad H locs cells slots ls (hR.st' ok)
  have E : (Int32.ofInt x = Int32.ofInt y) ↔ x = y := eq32 ox oy
  have A : (Int32.ofInt x < Int32.ofInt y) ↔ x < y := lt32 ox oy
  have B : (Int32.ofInt y < Int32.ofInt x) ↔ y < x := lt32 oy ox
  exact lv_icmp_gt hx hb hdg ht (fun q => k1 (B.mp q)) (fun q => k2 (fun z => q (B.mpr z)))

theorem sm_icmp_le (hx : p.tables.exec = Jvm.exec) (hb : c.code = cc) {x y o : Int} {t : Nat} (hdg : decode cc pc = .ok (.if_icmp .le o, 3)) (ht : (pc : Int) + o = (t : Int)) (h : (¬ y < x → Sim p l e R s m args below meth c Qf D cA kd h0 n0 ad0 nL t L r sg b) ∧ (y < x → Sim p l e R s m args below meth c Qf D cA kd h0 n0 ad0 nL (pc + 3) L r sg b)) : Sim p l e R s m args below meth c Qf D cA kd h0 n0 ad0 nL pc L (vI y :: vI x :: r) sg b := by
  intro ad H locs cells slots ls hR
  obtain ⟨oy, ok⟩ := List.forall_mem_cons.mp hR.ok
  obtain ⟨ox, ok⟩ := List.forall_mem_cons.mp ok
  have k1 := fun q => h.1 q ad H locs cells slots ls (hR.st' ok)
  have k2 := fun q => h.2 q ad H locs cells slots ls (hR.st' ok)
  have E : (Int32.ofInt x = Int32.ofInt y) ↔ x = y := eq32 ox oy
  have A : (Int32.ofInt x < Int32.ofInt y) ↔ x < y := lt32 ox oy
  have B : (Int32.ofInt y < Int32.ofInt x) ↔ y < x := lt32 oy ox
  exact lv_icmp_le hx hb hdg ht (fun q => k1 (fun z => Int32.not_lt.mpr q (B.mpr z))) (fun q => k2 (B.mp (Int32.not_le.mp q)))

theorem mSw_use {X : Nat → Prop} {x : Int} : ∀ {lo : Int} {l : List Int} {k : Nat} {o : Int}, mSw X pc x lo l → l[k]? = some o → x = lo + k → X (mTgt pc o)
  | lo, [], k, o, _, hk, _ => by simp at hk
  | lo, q :: t, 0, o, h, hk, hx => by
    simp at hk; subst hk
    exact h.1 (by simpa using hx)
  | lo, q :: t, k + 1, o, h, hk, hx => mSw_use (lo := lo + 1) (l := t) (k := k) h.2 (by simpa using hk) (by rw [hx]; push_cast; omega)
theorem sm_switch (hx : p.tables.exec = Jvm.exec) (hb : c.code = cc) {x d lo hi : Int} {offs : Array Int} {len : Nat} (hdg : decode cc pc = .ok (.tableswitch d lo hi offs, len)) (hd : 0 ≤ (pc : Int) + d) (ho : ∀ o ∈ offs.toList, 0 ≤ (pc : Int) + o) (hs : (offs.size : Int) = hi - lo + 1) (h : ((x < lo ∨ hi < x) → Sim p l e R s m args below meth c Qf D cA kd h0 n0 ad0 nL (mTgt pc d) L r sg b) ∧ mSw (fun q => Sim p l e R s m args below meth c Qf D cA kd h0 n0 ad0 nL q L r sg b) pc x lo offs.toList) : Sim p l e R s m args below meth c Qf D cA kd h0 n0 ad0 nL pc L (vI x :: r) sg b := by
  intro ad H locs cells slots ls hR
  obtain ⟨ox, ok⟩ := List.forall_mem_cons.mp hR.ok
  have ex : (Int32.ofInt x).toInt = x := i32_of ox
  by_cases hc : x < lo ∨ hi < x
  · exact lv_tableOut hx hb hdg (by rw [ex]; exact hc) (by unfold mTgt; omega) (h.1 hc ad H locs cells slots ls (hR.st' ok))
  · have h1 : ¬ x < lo := fun q => hc (Or.inl q)
    have h2 : ¬ hi < x := fun q => hc (Or.inr q)
    have hk : (x - lo).toNat < offs.size := by omega
    have hg : offs[(x - lo).toNat]? = some offs[(x - lo).toNat] := Array.getElem?_eq_getElem hk
    have hm : offs[(x - lo).toNat] ∈ offs.toList := by simp
    have h3 := mSw_use (k := (x - lo).toNat) (o := offs[(x - lo).toNat]) h.2 (by simpa using hg) (by omega)
    have h4 := ho _ hm
    exact lv_tableIn hx hb hdg (by rw [ex]; exact h1) (by rw [ex]; exact h2) (by rw [ex]; exact hg) (by unfold mTgt; omega) (h3 ad H locs cells slots ls (hR.st' ok))

end SIMB
