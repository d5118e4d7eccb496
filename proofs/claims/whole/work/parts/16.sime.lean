/-! The small machine in the real one: constants, the JDK's numbers, new cells -/
theorem g_max1 : Cond.static Lib.Math.max.name ∈ gt := tb_mem (i := 3134) (by decide +kernel)
theorem g_max2 : Cond.code Lib.Math.max.name Lib.Math.max.code 2 (some .int) ∈ gt := tb_mem (i := 3135) (by decide +kernel)
theorem g_min1 : Cond.static Lib.Math.min.name ∈ gt := tb_mem (i := 3137) (by decide +kernel)
theorem g_min2 : Cond.code Lib.Math.min.name Lib.Math.min.code 2 (some .int) ∈ gt := tb_mem (i := 3138) (by decide +kernel)
theorem g_abs1 : Cond.static Lib.Math.abs.name ∈ gt := tb_mem (i := 4067) (by decide +kernel)
theorem g_abs2 : Cond.code Lib.Math.abs.name Lib.Math.abs.code 1 (some .int) ∈ gt := tb_mem (i := 4068) (by decide +kernel)
theorem g_math : Cond.initialized "java/lang/Math" ∈ gt := tb_mem (i := 1019) (by decide +kernel)
theorem g_sys : Cond.initialized "java/lang/System" ∈ gt := tb_mem (i := 1021) (by decide +kernel)
theorem g_ac1 : Cond.native arraycopyName ∈ gt := tb_mem (i := 4049) (by decide +kernel)
theorem g_ac2 : Cond.static arraycopyName ∈ gt := tb_mem (i := 4048) (by decide +kernel)
theorem g_oi1 : Cond.instanceMethod Lib.objectInit ∈ gt := tb_mem (i := 1032) (by decide +kernel)
theorem g_oi2 : Cond.code Lib.objectInit ⟨#[0xb1]⟩ 1 none ∈ gt := tb_mem (i := 1033) (by decide +kernel)
theorem g_arr_int : Cond.arrayClass .int ∈ gt := tb_mem (i := 1094) (by decide +kernel)
theorem g_arr_byte : Cond.arrayClass .byte ∈ gt := tb_mem (i := 1064) (by decide +kernel)
theorem g_arr_boolean : Cond.arrayClass .boolean ∈ gt := tb_mem (i := 2204) (by decide +kernel)
theorem g_arr_long : Cond.arrayClass .long ∈ gt := tb_mem (i := 6143) (by decide +kernel)
theorem g_inst0 : Cond.instantiable (mClsOf 0).1 (mClsOf 0).2.2 ∈ gt ∧ Cond.initialized (mClsOf 0).1 ∈ gt := ⟨tb_mem (i := 1072) (by decide +kernel), tb_mem (i := 1004) (by decide +kernel)⟩
theorem g_inst1 : Cond.instantiable (mClsOf 1).1 (mClsOf 1).2.2 ∈ gt ∧ Cond.initialized (mClsOf 1).1 ∈ gt := ⟨tb_mem (i := 2089) (by decide +kernel), tb_mem (i := 1009) (by decide +kernel)⟩
theorem g_inst2 : Cond.instantiable (mClsOf 2).1 (mClsOf 2).2.2 ∈ gt ∧ Cond.initialized (mClsOf 2).1 ∈ gt := ⟨tb_mem (i := 2175) (by decide +kernel), tb_mem (i := 1012) (by decide +kernel)⟩
theorem g_inst3 : Cond.instantiable (mClsOf 3).1 (mClsOf 3).2.2 ∈ gt ∧ Cond.initialized (mClsOf 3).1 ∈ gt := ⟨tb_mem (i := 2131) (by decide +kernel), tb_mem (i := 1011) (by decide +kernel)⟩
theorem g_inst4 : Cond.instantiable (mClsOf 4).1 (mClsOf 4).2.2 ∈ gt ∧ Cond.initialized (mClsOf 4).1 ∈ gt := ⟨tb_mem (i := 1078) (by decide +kernel), tb_mem (i := 1005) (by decide +kernel)⟩
theorem g_inst5 : Cond.instantiable (mClsOf 5).1 (mClsOf 5).2.2 ∈ gt ∧ Cond.initialized (mClsOf 5).1 ∈ gt := ⟨tb_mem (i := 2109) (by decide +kernel), tb_mem (i := 1010) (by decide +kernel)⟩
theorem g_inst6 : Cond.instantiable (mClsOf 6).1 (mClsOf 6).2.2 ∈ gt ∧ Cond.initialized (mClsOf 6).1 ∈ gt := ⟨tb_mem (i := 2068) (by decide +kernel), tb_mem (i := 1008) (by decide +kernel)⟩
theorem g_inst7 : Cond.instantiable (mClsOf 7).1 (mClsOf 7).2.2 ∈ gt ∧ Cond.initialized (mClsOf 7).1 ∈ gt := ⟨tb_mem (i := 2004) (by decide +kernel), tb_mem (i := 1007) (by decide +kernel)⟩
theorem g_inst8 : Cond.instantiable (mClsOf 8).1 (mClsOf 8).2.2 ∈ gt ∧ Cond.initialized (mClsOf 8).1 ∈ gt := ⟨tb_mem (i := 2206) (by decide +kernel), tb_mem (i := 1013) (by decide +kernel)⟩
theorem g_inst9 : Cond.instantiable (mClsOf 9).1 (mClsOf 9).2.2 ∈ gt ∧ Cond.initialized (mClsOf 9).1 ∈ gt := ⟨tb_mem (i := 1035) (by decide +kernel), tb_mem (i := 1002) (by decide +kernel)⟩
theorem g_inst10 : Cond.instantiable (mClsOf 10).1 (mClsOf 10).2.2 ∈ gt ∧ Cond.initialized (mClsOf 10).1 ∈ gt := ⟨tb_mem (i := 1066) (by decide +kernel), tb_mem (i := 1003) (by decide +kernel)⟩
theorem g_inst11 : Cond.instantiable (mClsOf 11).1 (mClsOf 11).2.2 ∈ gt ∧ Cond.initialized (mClsOf 11).1 ∈ gt := ⟨tb_mem (i := 1027) (by decide +kernel), tb_mem (i := 1001) (by decide +kernel)⟩
theorem g_inst12 : Cond.instantiable (mClsOf 12).1 (mClsOf 12).2.2 ∈ gt ∧ Cond.initialized (mClsOf 12).1 ∈ gt := ⟨tb_mem (i := 6000) (by decide +kernel), tb_mem (i := 1014) (by decide +kernel)⟩
theorem g_inst : ∀ ci, ci < 13 → Cond.instantiable (mClsOf ci).1 (mClsOf ci).2.2 ∈ gt ∧ Cond.initialized (mClsOf ci).1 ∈ gt := by
  intro ci h
  match ci, h with
  | 0, _ => exact g_inst0
  | 1, _ => exact g_inst1
  | 2, _ => exact g_inst2
  | 3, _ => exact g_inst3
  | 4, _ => exact g_inst4
  | 5, _ => exact g_inst5
  | 6, _ => exact g_inst6
  | 7, _ => exact g_inst7
  | 8, _ => exact g_inst8
  | 9, _ => exact g_inst9
  | 10, _ => exact g_inst10
  | 11, _ => exact g_inst11
  | 12, _ => exact g_inst12
  | n + 13, h => omega

def txW : String := "bay     rock    shoal   boat    cable   swell   wish    gales   loose   at      hold    pull    trust   strong  plain   slow    oar     old     keen    not     and     or      fish    rough   room    far     x       y       hour    "
def txS : String := "()<=+-*;"
/-- the constants of a run -/
def KC (kA : mKA) (kd : Nat → Value) (h0 : Nat) (U : State) : Prop :=
  kd 0 = .null ∧ (∀ k, kd k = .null ∨ ∃ a, kd k = .ref a) ∧
  (∀ k, (kA k).1 = 0 → ∃ a, kd k = .ref a ∧ va_T .int a (kA k).2.1 (fun j => .int (Int32.ofInt ((kA k).2.2 j))) (AA h0) U U.heap) ∧
  (∀ k, (kA k).1 = 2 → ∃ a, kd k = .ref a ∧ va_T .byte a (kA k).2.1 (fun j => .int (Int32.ofInt ((kA k).2.2 j))) (AA h0) U U.heap) ∧
  (∀ k, (kA k).2.1 < 2147483648 ∧ ∀ j, r32 ((kA k).2.2 j)) ∧
  va_Z "OneCable" "WAY_X" "[I" (kd 1) (AA h0) U U.heap ∧ va_Z "OneCable" "WAY_Y" "[I" (kd 2) (AA h0) U U.heap ∧
  va_Z "java/lang/String" "COMPACT_STRINGS" "Z" (.int 1) (AA h0) U U.heap ∧ va_Z "jdk/internal/util/Preconditions" "SIOOBE_FORMATTER" "Ljava/util/function/BiFunction;" (kd 9) (AA h0) U U.heap ∧
  (∃ a4 a5, kd 4 = .ref a4 ∧ kd 5 = .ref a5 ∧ vk_R "OneCable$Tape" 51 txW a4 U ∧ vk_R "OneCable$Tape" 43 txS a5 U ∧
    va_O "java/lang/String" a4 (AA h0) U U.heap ∧ va_O "java/lang/String" a5 (AA h0) U U.heap ∧
    va_OF "java/lang/String" "coder" "B" (.int 0) a4 (AA h0) U U.heap ∧ va_OF "java/lang/String" "coder" "B" (.int 0) a5 (AA h0) U U.heap ∧
    va_OF "java/lang/String" "value" "[B" (kd 6) a4 (AA h0) U U.heap ∧ va_OF "java/lang/String" "value" "[B" (kd 7) a5 (AA h0) U U.heap) ∧
  (∀ w ∈ nw, va_Nw w U) ∧ va_AO RX7 U
theorem nw_warm {w : Cond} (hw : w ∈ nw) {s U : State} (hW : s.WarmedH U.vm) (h : va_Nw w s) : va_Nw w U := by
  have h1 := (List.mem_filter.mp hw).2
  cases w <;> simp only [isNest] at h1 <;> first | exact va_Nw.warmF hW h | exact va_Nw.warmM hW h | cases h1
theorem KC.go {kA : mKA} {kd : Nat → Value} {h0 : Nat} {s U : State} (hW : s.WarmedH U.vm) (hq : ∀ a : Nat, a < s.heap.size → ¬ AA h0 a → U.heap[a]? = s.heap[a]?) (h : KC kA kd h0 s) : KC kA kd h0 U := by
  obtain ⟨h1, h2, h3, h4, h5, h6, h7, h8, h9, ⟨a4, a5, e4, e5, q1, q2, q3, q4, q5, q6, q7, q8⟩, h11, h12⟩ := h
  have hA := hW.alike
  refine ⟨h1, h2, fun k hk => ?_, fun k hk => ?_, h5, (va_Z.moved hA h6).kept hq, (va_Z.moved hA h7).kept hq, (va_Z.moved hA h8).kept hq, (va_Z.moved hA h9).kept hq, ⟨a4, a5, e4, e5, q1.warm hW, q2.warm hW, (va_O.moved hA q3).kept hq, (va_O.moved hA q4).kept hq, (va_OF.moved hA q5).kept hq, (va_OF.moved hA q6).kept hq, (va_OF.moved hA q7).kept hq, (va_OF.moved hA q8).kept hq⟩, fun w hw => nw_warm hw hW (h11 w hw), va_AO.moved hA h12⟩
  · obtain ⟨a, e, t⟩ := h3 k hk
    exact ⟨a, e, (va_T.moved hA t).kept hq⟩
  · obtain ⟨a, e, t⟩ := h4 k hk
    exact ⟨a, e, (va_T.moved hA t).kept hq⟩
theorem KC.cat {kA : mKA} {kd : Nat → Value} {h0 : Nat} {s : State} (h : KC kA kd h0 s) : ∀ k, (kd k).category = 1 := by
  intro k
  rcases h.2.1 k with e | ⟨a, e⟩ <;> rw [e] <;> rfl
theorem e_max {x y : Int} (hx : r32 x) (hy : r32 y) : (if Int32.ofInt x < Int32.ofInt y then Int32.ofInt y else Int32.ofInt x) = Int32.ofInt (max x y) := by
  by_cases h : x < y
  · rw [if_pos ((lt32 hx hy).mpr h), Int.max_eq_right (by omega)]
  · rw [if_neg (fun q => h ((lt32 hx hy).mp q)), Int.max_eq_left (by omega)]
theorem le32 {x y : Int} (hx : r32 x) (hy : r32 y) : Int32.ofInt x ≤ Int32.ofInt y ↔ x ≤ y := by
  rw [Int32.le_iff_toInt_le, i32_of hx, i32_of hy]
theorem e_min {x y : Int} (hx : r32 x) (hy : r32 y) : (if Int32.ofInt y < Int32.ofInt x then Int32.ofInt y else Int32.ofInt x) = Int32.ofInt (min x y) := by
  by_cases h : y < x
  · rw [if_pos ((lt32 hy hx).mpr h), Int.min_eq_right (by omega)]
  · rw [if_neg (fun q => h ((lt32 hy hx).mp q)), Int.min_eq_left (by omega)]
theorem e_abs {x : Int} (hx : r32 x) : (if 0 ≤ Int32.ofInt x then Int32.ofInt x else 0 - Int32.ofInt x) = Int32.ofInt (if x < 0 then wr (-x) else x) := by
  have h0 : (0 ≤ Int32.ofInt x) ↔ 0 ≤ x := by rw [z32]; exact le32 r32_0 hx
  by_cases h : x < 0
  · rw [if_neg (fun q => by have := h0.mp q; omega), if_pos h, z32, e_sub]; congr 2; omega
  · rw [if_pos (h0.mpr (by omega)), if_neg h]
theorem cats_eq {ad : Nat → Nat} {kd : Nat → Value} (hk : ∀ k, (kd k).category = 1) : ∀ r : List mV, ((r.map (cV ad kd)).map fun v => v.category).sum = mCats r
  | [] => rfl
  | v :: r => by
    simp only [List.map_cons, List.sum_cons, mCats]
    rw [← cats_eq hk r]
    congr 1
    rcases v with n | n | n | n
    · rfl
    · rfl
    · rfl
    · exact hk n
def dflt : Nat → Value
  | 0 => .int 0
  | 1 => .long 0
  | 2 => .int 0
  | _ => .null
theorem new_ok : ∀ ci, ci < 13 → ∀ j, j < (mClsOf ci).2.2 → defaultValue (mTy ci j) = vp_V ((mNew ci).map dflt) j := by decide +kernel
theorem new_len : ∀ ci, ci < 13 → (mNew ci).length = (mClsOf ci).2.2 := by decide +kernel
theorem new_le3 : ∀ ci, ci < 13 → ∀ q ∈ mNew ci, q ≤ 3 := by decide +kernel
def kTyB : FieldType → Option Nat → Bool
  | .int, some 0 => true
  | .long, some 1 => true
  | .boolean, some 2 => true
  | .object _, some 3 => true
  | .array _, some 3 => true
  | _, _ => false
theorem new_ktyB : ∀ ci, ci < 13 → ∀ k, k < (mClsOf ci).2.2 → kTyB (mTy ci k) (mFld (mNew ci) k) = true := by decide +kernel
theorem new_kty : ∀ ci, ci < 13 → ∀ k q, mFld (mNew ci) k = some q → kTy (mTy ci k) q := by
  intro ci hci k q hq
  have h1 := new_ktyB ci hci k (by rw [← new_len ci hci]; rw [mFld_eq] at hq; exact (List.getElem?_eq_some_iff.mp hq).1)
  rw [hq] at h1
  revert h1
  rcases q with _ | _ | _ | _ | q <;> cases mTy ci k <;> intro h1 <;> simp [kTyB, kTy] at h1 ⊢
theorem new_map {ad : Nat → Nat} {f : Nat → Int} (hf : ∀ k, f k = 0) {ci : Nat} (hci : ci < 13) : (mNew ci).mapIdx (fun k q => cF ad (f k) q) = (mNew ci).map dflt := by
  apply List.ext_getElem?
  intro j
  simp only [List.getElem?_mapIdx, List.getElem?_map]
  cases hj : (mNew ci)[j]? with
  | none => rfl
  | some q =>
    have hq := new_le3 ci hci q (List.mem_of_getElem? hj)
    simp only [Option.map_some, hf]
    rcases q with _ | _ | _ | _ | q
    · rfl
    · rfl
    · rfl
    · rfl
    · omega

section SIMB
variable {p : Program} {l : Launch} {e : Env} {R : Room} {s : State} {m : MethodId} {args : Array Value} {below : List Frame} {meth : Method} {c : Code} {Qf : State → Prop}
variable {D : va_G} {cA : Nat → ClassId} {kd : Nat → Value} {h0 n0 nL : Nat} {ad0 : Nat → Nat} {cc : ByteArray} {pc : Nat} {L : mL} {r st : List mV} {sg : mS} {b : mB}


variable {kA : mKA}
theorem Rl.S {ad : Nat → Nat} {H : Heap} {locs : List Loc} {cells slots : Nat} {ls : Array Slot} (h : Rl R s D cA kd h0 n0 ad0 nL L st sg b ad H locs cells slots ls) : va_S (AA h0) s.heap H locs := h.2.2.1
theorem sm_ldcW (hx : p.tables.exec = Jvm.exec) (hb : c.code = cc) (hC : KC kA kd h0 s) (hown : s.vm.findClass "OneCable$Tape" = some m.cls) (hdg : decode cc pc = .ok (.ldc 51, 2)) (h : Sim p l e R s m args below meth c Qf D cA kd h0 n0 ad0 nL (pc + 2) L (vK 4 :: st) sg b) : Sim p l e R s m args below meth c Qf D cA kd h0 n0 ad0 nL pc L st sg b := by
  intro ad H locs cells slots ls hR
  have h1 := h ad H locs cells slots ls (hR.st' (List.forall_mem_cons.mpr ⟨trivial, hR.ok⟩))
  obtain ⟨a4, a5, e4, e5, q1, q2, -⟩ := hC.2.2.2.2.2.2.2.2.2.1
  rw [List.map_cons, show cV ad kd (vK 4) = .ref a4 from e4] at h1
  exact va_ldcS hx hb hown q1 hdg h1
theorem sm_ldcS (hx : p.tables.exec = Jvm.exec) (hb : c.code = cc) (hC : KC kA kd h0 s) (hown : s.vm.findClass "OneCable$Tape" = some m.cls) (hdg : decode cc pc = .ok (.ldc 43, 2)) (h : Sim p l e R s m args below meth c Qf D cA kd h0 n0 ad0 nL (pc + 2) L (vK 5 :: st) sg b) : Sim p l e R s m args below meth c Qf D cA kd h0 n0 ad0 nL pc L st sg b := by
  intro ad H locs cells slots ls hR
  have h1 := h ad H locs cells slots ls (hR.st' (List.forall_mem_cons.mpr ⟨trivial, hR.ok⟩))
  obtain ⟨a4, a5, e4, e5, q1, q2, -⟩ := hC.2.2.2.2.2.2.2.2.2.1
  rw [List.map_cons, show cV ad kd (vK 5) = .ref a5 from e5] at h1
  exact va_ldcS hx hb hown q2 hdg h1
theorem sm_gets (hx : p.tables.exec = Jvm.exec) (hb : c.code = cc) {own C n d : String} {idx : Nat} {v : mV} {z : Value} (hz : ∀ ad, cV ad kd v = z) (hv : ∀ k, okV k v) (hZ : va_Z C n d z (AA h0) s s.heap) (hown : s.vm.findClass own = some m.cls) (hl : (Cond.fieldLink own idx C n d).before args s = true) (hdg : decode cc pc = .ok (.getstatic idx, 3)) (h : Sim p l e R s m args below meth c Qf D cA kd h0 n0 ad0 nL (pc + 3) L (v :: st) sg b) : Sim p l e R s m args below meth c Qf D cA kd h0 n0 ad0 nL pc L st sg b := by
  intro ad H locs cells slots ls hR
  have h1 := h ad H locs cells slots ls (hR.st' (List.forall_mem_cons.mpr ⟨hv _, hR.ok⟩))
  rw [List.map_cons, hz ad] at h1
  exact va_gets hx hb hZ hR.S hown hl (fun _ h => h) hdg h1
theorem sm_getsN (hx : p.tables.exec = Jvm.exec) (hb : c.code = cc) {own C n d host : String} {idx : Nat} {v : mV} {z : Value} (hz : ∀ ad, cV ad kd v = z) (hv : ∀ k, okV k v) (hZ : va_Z C n d z (AA h0) s s.heap) (hown : s.vm.findClass own = some m.cls) (hl : (Cond.fieldLinkNest own idx C n d host).before args s = true) (hdg : decode cc pc = .ok (.getstatic idx, 3)) (h : Sim p l e R s m args below meth c Qf D cA kd h0 n0 ad0 nL (pc + 3) L (v :: st) sg b) : Sim p l e R s m args below meth c Qf D cA kd h0 n0 ad0 nL pc L st sg b := by
  intro ad H locs cells slots ls hR
  have h1 := h ad H locs cells slots ls (hR.st' (List.forall_mem_cons.mpr ⟨hv _, hR.ok⟩))
  rw [List.map_cons, hz ad] at h1
  exact va_getsN hx hb hZ hR.S hown hl (fun _ h => h) hdg h1
theorem sm_kget (hx : p.tables.exec = Jvm.exec) (hb : c.code = cc) (hC : KC kA kd h0 s) {own n d : String} {idx k f : Nat} (hk : k = 4 ∨ k = 5) (hf : (f = 0 ∧ n = "value" ∧ d = "[B") ∨ (f = 1 ∧ n = "coder" ∧ d = "B")) (hown : s.vm.findClass own = some m.cls) (hl : (Cond.fieldLink own idx "java/lang/String" n d).before args s = true) (hdg : decode cc pc = .ok (.getfield idx, 3)) (h : Sim p l e R s m args below meth c Qf D cA kd h0 n0 ad0 nL (pc + 3) L (mKF k f :: r) sg b) : Sim p l e R s m args below meth c Qf D cA kd h0 n0 ad0 nL pc L (vK k :: r) sg b := by
  intro ad H locs cells slots ls hR
  obtain ⟨oa, ok⟩ := List.forall_mem_cons.mp hR.ok
  have hv : okV sg.1.length (mKF k f) := by
    rcases hk with rfl | rfl <;> rcases hf with ⟨rfl, -, -⟩ | ⟨rfl, -, -⟩
    · trivial
    · exact r32_0
    · trivial
    · exact r32_0
  have h1 := h ad H locs cells slots ls (hR.st' (List.forall_mem_cons.mpr ⟨hv, ok⟩))
  obtain ⟨a4, a5, e4, e5, q1, q2, q3, q4, q5, q6, q7, q8⟩ := hC.2.2.2.2.2.2.2.2.2.1
  rw [List.map_cons] at h1 ⊢
  rcases hk with rfl | rfl <;> rcases hf with ⟨rfl, rfl, rfl⟩ | ⟨rfl, rfl, rfl⟩
  · rw [show cV ad kd (vK 4) = .ref a4 from e4]
    exact vk_getf hx hb q7 hR.S hown hl (fun _ h => h) hdg h1
  · rw [show cV ad kd (vK 4) = .ref a4 from e4]
    exact vk_getf hx hb q5 hR.S hown hl (fun _ h => h) hdg h1
  · rw [show cV ad kd (vK 5) = .ref a5 from e5]
    exact vk_getf hx hb q8 hR.S hown hl (fun _ h => h) hdg h1
  · rw [show cV ad kd (vK 5) = .ref a5 from e5]
    exact vk_getf hx hb q6 hR.S hown hl (fun _ h => h) hdg h1
theorem sm_kiald (hx : p.tables.exec = Jvm.exec) (hb : c.code = cc) (hC : KC kA kd h0 s) {k n : Nat} {f : Nat → Int} {i : Int} (hk : kA k = (0, n, f)) (hdg : decode cc pc = .ok (.iaload, 1)) (h : mInA i n ∧ Sim p l e R s m args below meth c Qf D cA kd h0 n0 ad0 nL (pc + 1) L (vI (f i.toNat) :: r) sg b) : Sim p l e R s m args below meth c Qf D cA kd h0 n0 ad0 nL pc L (vI i :: vK k :: r) sg b := by
  intro ad H locs cells slots ls hR
  obtain ⟨oi, ok⟩ := List.forall_mem_cons.mp hR.ok
  obtain ⟨oa, ok⟩ := List.forall_mem_cons.mp ok
  obtain ⟨a, ea, t⟩ := hC.2.2.1 k (by rw [hk])
  have hf := (hC.2.2.2.2.1 k).2
  rw [hk] at t hf
  have h1 := h.2 ad H locs cells slots ls (hR.st' (List.forall_mem_cons.mpr ⟨hf _, ok⟩))
  simp only [List.map_cons] at h1 ⊢
  rw [show cV ad kd (vK k) = .ref a from ea]
  exact va_ti hx hb t hR.S (vin_of oi h.1) (by rw [cl_of oi]; rfl) hdg h1
theorem sm_kbald (hx : p.tables.exec = Jvm.exec) (hb : c.code = cc) (hC : KC kA kd h0 s) {k n : Nat} {f : Nat → Int} {i : Int} (hk : kA k = (2, n, f)) (hdg : decode cc pc = .ok (.baload, 1)) (h : mInA i n ∧ Sim p l e R s m args below meth c Qf D cA kd h0 n0 ad0 nL (pc + 1) L (vI (f i.toNat) :: r) sg b) : Sim p l e R s m args below meth c Qf D cA kd h0 n0 ad0 nL pc L (vI i :: vK k :: r) sg b := by
  intro ad H locs cells slots ls hR
  obtain ⟨oi, ok⟩ := List.forall_mem_cons.mp hR.ok
  obtain ⟨oa, ok⟩ := List.forall_mem_cons.mp ok
  obtain ⟨a, ea, t⟩ := hC.2.2.2.1 k (by rw [hk])
  have hf := (hC.2.2.2.2.1 k).2
  rw [hk] at t hf
  have h1 := h.2 ad H locs cells slots ls (hR.st' (List.forall_mem_cons.mpr ⟨hf _, ok⟩))
  simp only [List.map_cons] at h1 ⊢
  rw [show cV ad kd (vK k) = .ref a from ea]
  exact va_tb hx hb t hR.S (vin_of oi h.1) (by rw [cl_of oi]; rfl) hdg h1
theorem sm_klen (hx : p.tables.exec = Jvm.exec) (hb : c.code = cc) (hC : KC kA kd h0 s) {k t n : Nat} {f : Nat → Int} (hk : kA k = (t, n, f)) (ht : t = 0 ∨ t = 2) (hdg : decode cc pc = .ok (.arraylength, 1)) (h : Sim p l e R s m args below meth c Qf D cA kd h0 n0 ad0 nL (pc + 1) L (vI (n : Int) :: r) sg b) : Sim p l e R s m args below meth c Qf D cA kd h0 n0 ad0 nL pc L (vK k :: r) sg b := by
  intro ad H locs cells slots ls hR
  obtain ⟨oa, ok⟩ := List.forall_mem_cons.mp hR.ok
  have hn := (hC.2.2.2.2.1 k).1
  rw [hk] at hn
  have hn2 : n < 2147483648 := hn
  have h1 := h ad H locs cells slots ls (hR.st' (List.forall_mem_cons.mpr ⟨(by unfold okV r32; omega), ok⟩))
  simp only [List.map_cons] at h1 ⊢
  have e1 : Int32.ofNat n = Int32.ofInt (n : Int) := by rw [Int32.ofInt_eq_ofNat]
  rcases ht with rfl | rfl
  · obtain ⟨a, ea, t⟩ := hC.2.2.1 k (by rw [hk])
    rw [hk] at t
    rw [show cV ad kd (vK k) = .ref a from ea]
    exact va_tlen hx hb t hR.S e1 hdg h1
  · obtain ⟨a, ea, t⟩ := hC.2.2.2.1 k (by rw [hk])
    rw [hk] at t
    rw [show cV ad kd (vK k) = .ref a from ea]
    exact va_tlen hx hb t hR.S e1 hdg h1
theorem Rl.room {ad : Nat → Nat} {H : Heap} {locs : List Loc} {cells slots : Nat} {ls : Array Slot} (h : Rl R s D cA kd h0 n0 ad0 nL L st sg b ad H locs cells slots ls) : cells + b.1 ≤ R.cells ∧ slots + b.2 ≤ R.slots := h.2.2.2.2.2.2.2.1

theorem sm_max (hx : p.tables.exec = Jvm.exec) (hb : c.code = cc) (hts : ∀ w ∈ gt, w.before args s = true) (hk1 : ∀ k, (kd k).category = 1) (hml : c.maxLocals = nL) (hRm : 1 ≤ R.frames ∧ 200 ≤ R.locals) {own : String} (hown : s.vm.findClass own = some m.cls) {x y : Int} {idx : Nat} (hl : (Cond.methodLink own idx Lib.Math.max.name).before args s = true) (hc : mCats r ≤ 8) (hdg : decode cc pc = .ok (.invokestatic idx, 3)) (h : Sim p l e R s m args below meth c Qf D cA kd h0 n0 ad0 nL (pc + 3) L (vI (max x y) :: r) sg b) : Sim p l e R s m args below meth c Qf D cA kd h0 n0 ad0 nL pc L (vI y :: vI x :: r) sg b := by
  intro ad H locs cells slots ls hR
  obtain ⟨oy, ok⟩ := List.forall_mem_cons.mp hR.ok
  obtain ⟨ox, ok⟩ := List.forall_mem_cons.mp ok
  have oy : r32 y := oy
  have ox : r32 x := ox
  have h1 := h ad H locs cells slots ls (hR.st' (List.forall_mem_cons.mpr ⟨(by show r32 (max x y); unfold r32 at ox oy ⊢; omega), ok⟩))
  refine va_mmax hx hb (by rw [hml]; exact hR.lv.1.symm) hown hl (hts _ g_max1) (hts _ g_math) (hts _ g_max2) hRm.1 (by rw [cats_eq hk1]; omega) (by have := hR.room; omega) (by have := hR.room; omega) hdg ?_
  rw [e_max ox oy]
  exact h1

theorem sm_min (hx : p.tables.exec = Jvm.exec) (hb : c.code = cc) (hts : ∀ w ∈ gt, w.before args s = true) (hk1 : ∀ k, (kd k).category = 1) (hml : c.maxLocals = nL) (hRm : 1 ≤ R.frames ∧ 200 ≤ R.locals) {own : String} (hown : s.vm.findClass own = some m.cls) {x y : Int} {idx : Nat} (hl : (Cond.methodLink own idx Lib.Math.min.name).before args s = true) (hc : mCats r ≤ 8) (hdg : decode cc pc = .ok (.invokestatic idx, 3)) (h : Sim p l e R s m args below meth c Qf D cA kd h0 n0 ad0 nL (pc + 3) L (vI (min x y) :: r) sg b) : Sim p l e R s m args below meth c Qf D cA kd h0 n0 ad0 nL pc L (vI y :: vI x :: r) sg b := by
  intro ad H locs cells slots ls hR
  obtain ⟨oy, ok⟩ := List.forall_mem_cons.mp hR.ok
  obtain ⟨ox, ok⟩ := List.forall_mem_cons.mp ok
  have oy : r32 y := oy
  have ox : r32 x := ox
  have h1 := h ad H locs cells slots ls (hR.st' (List.forall_mem_cons.mpr ⟨(by show r32 (min x y); unfold r32 at ox oy ⊢; omega), ok⟩))
  refine va_mmin hx hb (by rw [hml]; exact hR.lv.1.symm) hown hl (hts _ g_min1) (hts _ g_math) (hts _ g_min2) hRm.1 (by rw [cats_eq hk1]; omega) (by have := hR.room; omega) (by have := hR.room; omega) hdg ?_
  rw [e_min ox oy]
  exact h1


theorem sm_abs (hx : p.tables.exec = Jvm.exec) (hb : c.code = cc) (hts : ∀ w ∈ gt, w.before args s = true) (hk1 : ∀ k, (kd k).category = 1) (hml : c.maxLocals = nL) (hRm : 1 ≤ R.frames ∧ 200 ≤ R.locals) {own : String} (hown : s.vm.findClass own = some m.cls) {x : Int} {idx : Nat} (hl : (Cond.methodLink own idx Lib.Math.abs.name).before args s = true) (hc : mCats r ≤ 8) (hdg : decode cc pc = .ok (.invokestatic idx, 3)) (h : Sim p l e R s m args below meth c Qf D cA kd h0 n0 ad0 nL (pc + 3) L (vI (if x < 0 then wr (-x) else x) :: r) sg b) : Sim p l e R s m args below meth c Qf D cA kd h0 n0 ad0 nL pc L (vI x :: r) sg b := by
  intro ad H locs cells slots ls hR
  obtain ⟨ox, ok⟩ := List.forall_mem_cons.mp hR.ok
  have ox : r32 x := ox
  have h1 := h ad H locs cells slots ls (hR.st' (List.forall_mem_cons.mpr ⟨(by show r32 _; split; exact wr_r _; exact ox), ok⟩))
  refine va_mabs hx hb (by rw [hml]; exact hR.lv.1.symm) hown hl (hts _ g_abs1) (hts _ g_math) (hts _ g_abs2) hRm.1 (by rw [cats_eq hk1]; omega) (by have := hR.room; omega) (by have := hR.room; omega) hdg ?_
  rw [e_abs ox]
  exact h1
theorem sm_copy (hx : p.tables.exec = Jvm.exec) (hb : c.code = cc) (hts : ∀ w ∈ gt, w.before args s = true) (hK : va_K D mCls (mTys cA) s) (hk1 : ∀ k, (kd k).category = 1) (hml : c.maxLocals = nL) (hRm : 1 ≤ R.frames ∧ 200 ≤ R.locals) {own : String} (hown : s.vm.findClass own = some m.cls) {n dp sp : Int} {a d na nd idx : Nat} {ra rd : List Nat} (hl : (Cond.methodLink own idx arraycopyName).before args s = true) (hc : mCats r ≤ 8) (ha : mNth sg.1 a = some (.inr (0, na, ra))) (hd : mNth sg.1 d = some (.inr (0, nd, rd))) (hdg : decode cc pc = .ok (.invokestatic idx, 3)) (hr : 0 ≤ n ∧ 0 ≤ sp ∧ 0 ≤ dp ∧ sp + n ≤ (na : Int) ∧ dp + n ≤ (nd : Int)) (h : Sim p l e R s m args below meth c Qf D cA kd h0 n0 ad0 nL (pc + 3) L r (sg.1, sg.2.1, mCp sg.2.2 a sp.toNat d dp.toNat n.toNat) b) : Sim p l e R s m args below meth c Qf D cA kd h0 n0 ad0 nL pc L (vI n :: vI dp :: vR d :: vI sp :: vR a :: r) sg b := by
  intro ad H locs cells slots ls hR
  obtain ⟨on, ok⟩ := List.forall_mem_cons.mp hR.ok
  obtain ⟨odp, ok⟩ := List.forall_mem_cons.mp ok
  obtain ⟨od, ok⟩ := List.forall_mem_cons.mp ok
  obtain ⟨osp, ok⟩ := List.forall_mem_cons.mp ok
  obtain ⟨oa, ok⟩ := List.forall_mem_cons.mp ok
  have nn : ∀ {z : Int}, r32 z → 0 ≤ z → ¬ Int32.ofInt z < 0 := fun hz h0 q => by
    rw [z32, lt32 hz r32_0] at q; omega
  have hset : (cW ad cA sg).set d (ad d, .inl (cA 0, nd, .inl (va_cpy (fun j => Int32.ofInt (sg.2.2 a j)) (fun j => Int32.ofInt (sg.2.2 d j)) (Int32.ofInt sp).toNatClampNeg (Int32.ofInt dp).toNatClampNeg (Int32.ofInt n).toNatClampNeg))) = cW ad cA (sg.1, sg.2.1, mCp sg.2.2 a sp.toNat d dp.toNat n.toNat) := by
    refine cW_set rfl hd ?_ (fun q hq => ⟨rfl, rfl, by funext y; simp [mCp, hq]⟩)
    show Sum.inl _ = Sum.inl _
    congr 4
    funext j
    rw [cl_of osp, cl_of odp, cl_of on]
    show Int32.ofInt (mCp sg.2.2 a sp.toNat d dp.toNat n.toNat d j) = _
    rw [show mCp sg.2.2 a sp.toNat d dp.toNat n.toNat d j = (if dp.toNat ≤ j ∧ j < dp.toNat + n.toNat then sg.2.2 a (sp.toNat + (j - dp.toNat)) else sg.2.2 d j) from if_pos rfl]
    unfold va_cpy
    split <;> rfl
  have h5 : nativeFrameWords "java/lang/System" "arraycopy" 5 ≤ 100 := by decide +kernel
  refine va_copyi (ty := .int) hx hb (by rw [hml]; exact hR.lv.1.symm) hown hl (hts _ g_ac1) (hts _ g_ac2) (hts _ g_sys) hK hR.1 hR.2.1 hR.2.2.1 a d 0 0 (cW_at ha) (cW_at hd) rfl rfl rfl (nn osp hr.2.1) (nn odp hr.2.2.1) (nn on hr.1) (by rw [cl_of osp, cl_of on]; omega) (by rw [cl_of odp, cl_of on]; omega) (fun _ _ => rfl) hRm.1 (by rw [cats_eq hk1]; omega) hdg (fun H1 locs1 g1 g2 g3 => ?_)
  rw [hset] at g1 g2
  exact h ad H1 locs1 cells slots ls (hR.world rfl g1 g2 g3 (okS_cp hR.okS ha hd) ok)
theorem sm_objInit (hx : p.tables.exec = Jvm.exec) (hb : c.code = cc) (hts : ∀ w ∈ gt, w.before args s = true) (hk1 : ∀ k, (kd k).category = 1) (hml : c.maxLocals = nL) (hRm : 1 ≤ R.frames ∧ 200 ≤ R.locals) {own : String} (hown : s.vm.findClass own = some m.cls) {a idx : Nat} (hl : (Cond.methodLink own idx Lib.objectInit).before args s = true) (hc : mCats r ≤ 8) (hdg : decode cc pc = .ok (.invokespecial idx, 3)) (h : Sim p l e R s m args below meth c Qf D cA kd h0 n0 ad0 nL (pc + 3) L r sg b) : Sim p l e R s m args below meth c Qf D cA kd h0 n0 ad0 nL pc L (vR a :: r) sg b := by
  intro ad H locs cells slots ls hR
  obtain ⟨oa, ok⟩ := List.forall_mem_cons.mp hR.ok
  have h1 := h ad H locs cells slots ls (hR.st' ok)
  refine W.objInit hx hb hown hl (hts _ g_oi1) (hts _ g_oi2) rfl (by rw [hml]; exact hR.lv.1) rfl hdg hRm.1 ?_ h1
  show 2 * 0 + ((r.map (cV ad kd)).map fun v => v.category).sum + 12 ≤ R.locals
  rw [cats_eq hk1]; omega
/-- a new cell -/
theorem Rl.push {ad : Nat → Nat} {H H1 : Heap} {locs : List Loc} {cells slots k : Nat} {ls : Array Slot} {st' : List mV} {sh : mSh} {f' g' : Nat → Nat → Int} {q : Nat} {E : va_E} (h : Rl R s D cA kd h0 n0 ad0 nL L st sg b ad H locs cells slots ls) (hok' : ∀ v ∈ st', okV sg.1.length v) (hE : cE (fun i => if i = sg.1.length then q else ad i) cA (f' sg.1.length) (g' sg.1.length) sh = E) (ho : ∀ i, i < sg.1.length → f' i = sg.2.1 i ∧ g' i = sg.2.2 i) (hsh : okSh (sg.1.length + 1) (f' sg.1.length) (g' sg.1.length) sh) (hP : va_P D mCls (cW ad cA sg ++ [(q, E)]) H1) (hD : va_D (AA h0) (cW ad cA sg ++ [(q, E)])) (hS : va_S (AA h0) s.heap H1 locs) (hb1 : 1 ≤ b.1) (hb2 : k ≤ b.2) :
    Rl R s D cA kd h0 n0 ad0 nL L (vR sg.1.length :: st') (sg.1 ++ [sh], f', g') (b.1 - 1, b.2 - k) (fun i => if i = sg.1.length then q else ad i) H1 locs (cells + 1) (slots + k) ls := by
  have hne : ∀ i, i < sg.1.length → (fun i => if i = sg.1.length then q else ad i) i = ad i := fun i hi => if_neg (Nat.ne_of_lt hi)
  have he := cW_push (cA := cA) (S := sg.1) (f := sg.2.1) (g := sg.2.2) (f' := f') (g' := g') (sh := sh) (q := q) (ad := ad) h.okS hE ho
  have hup : ∀ v, okV sg.1.length v → okV (sg.1.length + 1) v := fun v hv => by
    rcases v with z | z | z | z
    · exact hv
    · exact hv
    · exact Nat.lt_succ_of_lt hv
    · trivial
  have hll : (sg.1 ++ [sh]).length = sg.1.length + 1 := by simp
  refine ⟨?_, ?_, hS, ?_, ?_, ?_, ?_, ?_, ?_, ?_⟩
  · rw [he]; exact hP
  · rw [he]; exact hD
  · refine ⟨h.lv.1, h.lv.2.1, fun i v hv => ?_⟩
    rw [cV_ext hne (h.okl i v hv)]
    exact h.lv.2.2 i v hv
  · intro x shx hx
    show okSh (sg.1 ++ [sh]).length (f' x) (g' x) shx
    rw [hll]
    rw [mNth_eq] at hx
    by_cases hxl : x < sg.1.length
    · have hx' : sg.1[x]? = some shx := by rw [← hx]; exact (List.getElem?_append_left hxl).symm
      have h1 := h.okS x shx (by rw [mNth_eq]; exact hx')
      rw [(ho x hxl).1, (ho x hxl).2]
      rcases shx with ⟨c1, fs⟩ | ⟨t, len, rs⟩
      · refine ⟨h1.1, h1.2.1, fun k z hz => ⟨?_, (h1.2.2 k z hz).2⟩⟩
        have h2 := (h1.2.2 k z hz).1
        rcases z with _ | _ | _ | _ | z
        · exact h2
        · exact h2
        · exact h2
        · trivial
        · exact Nat.lt_succ_of_lt h2
      · exact ⟨h1.1, h1.2.1, fun ht j z hz => ⟨(h1.2.2.1 ht j z hz).1, fun r hr => Nat.lt_succ_of_lt ((h1.2.2.1 ht j z hz).2 r hr)⟩, h1.2.2.2⟩
    · have hxe : x = sg.1.length := by
        have := (List.getElem?_eq_some_iff.mp hx).1
        simp at this
        omega
      subst hxe
      have : shx = sh := by simpa using hx.symm
      subst this
      exact hsh
  · intro i v hv
    rw [hll]
    exact hup v (h.okl i v hv)
  · rw [hll]
    exact List.forall_mem_cons.mpr ⟨Nat.lt_succ_self _, fun v hv => hup v (hok' v hv)⟩
  · have := h.room
    show cells + 1 + (b.1 - 1) ≤ R.cells ∧ slots + k + (b.2 - k) ≤ R.slots
    omega
  · rw [hll]; have := h.2.2.2.2.2.2.2.2.1; omega
  · intro i hi
    have h5 := h.2.2.2.2.2.2.2.2.1
    rw [hne i (by omega)]
    exact h.2.2.2.2.2.2.2.2.2 i hi
theorem Rl.pushV {ad : Nat → Nat} {q : Nat} {st' : List mV} (hok' : ∀ v ∈ st', okV sg.1.length v) : (vR sg.1.length :: st').map (cV (fun i => if i = sg.1.length then q else ad i) kd) = .ref q :: st'.map (cV ad kd) := by
  rw [List.map_cons, cVs_ext (n := sg.1.length) (ad := ad) (fun i hi => if_neg (Nat.ne_of_lt hi)) hok']
  congr 1
  show Value.ref (if sg.1.length = sg.1.length then q else ad sg.1.length) = .ref q
  rw [if_pos rfl]
theorem tys_inj {cA : Nat → ClassId} {cB : ClassId} {ty : FieldType} {t : Nat} (hK : va_K D mCls (mTys cA) s) (hK' : va_K D mCls (mTys cA ++ [(cB, ty)]) s) (ht : (mTys cA)[t]? = some (cA t, ty)) (hp : ∀ C, ty ≠ .object C) : cB = cA t := by
  have h1 := (hK.2 t _ ht).2
  have h2 := (hK'.2 5 (cB, ty) rfl).2
  cases ty <;> first | exact absurd rfl (hp _) | (simp only [va_RA] at h1 h2; exact Option.some.inj (h2.symm.trans h1))
theorem tys_injO {cA : Nat → ClassId} {cB : ClassId} (hK : va_K D mCls (mTys cA) s) (hK' : va_K D mCls (mTys cA ++ [(cB, .object RX7)]) s) : cB = cA 4 := by
  obtain ⟨_, _, _, _, _, h1⟩ := (hK.2 4 (cA 4, .object RX7) rfl).2
  obtain ⟨_, _, _, _, _, h2⟩ := (hK'.2 5 (cB, .object RX7) rfl).2
  exact Option.some.inj (h2.symm.trans h1)

theorem sm_newarr_int (hx : p.tables.exec = Jvm.exec) (hb : c.code = cc) (hts : ∀ w ∈ gt, w.before args s = true) (hK : va_K D mCls (mTys cA) s) (hh : h0 ≤ s.heap.size) {n : Int} (hdg : decode cc pc = .ok (.newarray .int, 2)) (hn : 0 ≤ n ∧ n ≤ 65536 ∧ 1 ≤ b.1 ∧ n.toNat ≤ b.2) (h : Sim p l e R s m args below meth c Qf D cA kd h0 n0 ad0 nL (pc + 2) L (vR sg.1.length :: r) (sg.1 ++ [.inr (0, n.toNat, [])], sg.2.1, fun x y => if x = sg.1.length then 0 else sg.2.2 x y) (b.1 - 1, b.2 - n.toNat)) : Sim p l e R s m args below meth c Qf D cA kd h0 n0 ad0 nL pc L (vI n :: r) sg b := by
  intro ad H locs cells slots ls hR
  obtain ⟨on, ok⟩ := List.forall_mem_cons.mp hR.ok
  have on : r32 n := on
  refine va_newa (atype := .int) (ty := .int) (a0 := (n.toNat, .inl (fun _ => 0))) (N' := n.toNat) hx hb (hts _ g_arr_int) rfl hK hR.1 hR.2.1 hR.2.2.1 (fun q hq => Nat.le_trans hh hq) (fun _ => rfl) (by rw [z32, lt32 on r32_0]; omega) (cl_of on) (by simp only [componentBytes]; omega) (by have := hR.room; omega) (by have := hR.room; omega) hdg (fun q cB H1 k1 g1 g2 g3 => ?_)
  have e := tys_inj (t := 0) hK k1 rfl (fun C z => by cases z)
  subst e
  have h1 := h _ _ _ _ _ _ (hR.push (st' := r) (sh := .inr (0, n.toNat, [])) (f' := sg.2.1) (g' := fun x y => if x = sg.1.length then 0 else sg.2.2 x y) ok (by simp only [cE, if_pos]; rfl) (fun i hi => ⟨rfl, by funext y; rw [if_neg (Nat.ne_of_lt hi)]⟩) ⟨by omega, by omega, fun ht => absurd ht (by decide), fun _ j => by simp only [if_pos]; exact r32_0, fun _ j => by simp only [if_pos]; exact r64_0, fun ht => absurd ht (by decide)⟩ g1 g2 g3 hn.2.2.1 hn.2.2.2)
  rw [Rl.pushV ok] at h1
  exact h1

theorem sm_newarr_long (hx : p.tables.exec = Jvm.exec) (hb : c.code = cc) (hts : ∀ w ∈ gt, w.before args s = true) (hK : va_K D mCls (mTys cA) s) (hh : h0 ≤ s.heap.size) {n : Int} (hdg : decode cc pc = .ok (.newarray .long, 2)) (hn : 0 ≤ n ∧ n ≤ 65536 ∧ 1 ≤ b.1 ∧ n.toNat ≤ b.2) (h : Sim p l e R s m args below meth c Qf D cA kd h0 n0 ad0 nL (pc + 2) L (vR sg.1.length :: r) (sg.1 ++ [.inr (1, n.toNat, [])], sg.2.1, fun x y => if x = sg.1.length then 0 else sg.2.2 x y) (b.1 - 1, b.2 - n.toNat)) : Sim p l e R s m args below meth c Qf D cA kd h0 n0 ad0 nL pc L (vI n :: r) sg b := by
  intro ad H locs cells slots ls hR
  obtain ⟨on, ok⟩ := List.forall_mem_cons.mp hR.ok
  have on : r32 n := on
  refine va_newa (atype := .long) (ty := .long) (a0 := (n.toNat, .inr (.inl (fun _ => 0)))) (N' := n.toNat) hx hb (hts _ g_arr_long) rfl hK hR.1 hR.2.1 hR.2.2.1 (fun q hq => Nat.le_trans hh hq) (fun _ => rfl) (by rw [z32, lt32 on r32_0]; omega) (cl_of on) (by simp only [componentBytes]; omega) (by have := hR.room; omega) (by have := hR.room; omega) hdg (fun q cB H1 k1 g1 g2 g3 => ?_)
  have e := tys_inj (t := 1) hK k1 rfl (fun C z => by cases z)
  subst e
  have h1 := h _ _ _ _ _ _ (hR.push (st' := r) (sh := .inr (1, n.toNat, [])) (f' := sg.2.1) (g' := fun x y => if x = sg.1.length then 0 else sg.2.2 x y) ok (by simp only [cE, if_pos]; rfl) (fun i hi => ⟨rfl, by funext y; rw [if_neg (Nat.ne_of_lt hi)]⟩) ⟨by omega, by omega, fun ht => absurd ht (by decide), fun _ j => by simp only [if_pos]; exact r32_0, fun _ j => by simp only [if_pos]; exact r64_0, fun ht => absurd ht (by decide)⟩ g1 g2 g3 hn.2.2.1 hn.2.2.2)
  rw [Rl.pushV ok] at h1
  exact h1

theorem sm_newarr_byte (hx : p.tables.exec = Jvm.exec) (hb : c.code = cc) (hts : ∀ w ∈ gt, w.before args s = true) (hK : va_K D mCls (mTys cA) s) (hh : h0 ≤ s.heap.size) {n : Int} (hdg : decode cc pc = .ok (.newarray .byte, 2)) (hn : 0 ≤ n ∧ n ≤ 65536 ∧ 1 ≤ b.1 ∧ n.toNat ≤ b.2) (h : Sim p l e R s m args below meth c Qf D cA kd h0 n0 ad0 nL (pc + 2) L (vR sg.1.length :: r) (sg.1 ++ [.inr (2, n.toNat, [])], sg.2.1, fun x y => if x = sg.1.length then 0 else sg.2.2 x y) (b.1 - 1, b.2 - n.toNat)) : Sim p l e R s m args below meth c Qf D cA kd h0 n0 ad0 nL pc L (vI n :: r) sg b := by
  intro ad H locs cells slots ls hR
  obtain ⟨on, ok⟩ := List.forall_mem_cons.mp hR.ok
  have on : r32 n := on
  refine va_newa (atype := .byte) (ty := .byte) (a0 := (n.toNat, .inl (fun _ => 0))) (N' := n.toNat) hx hb (hts _ g_arr_byte) rfl hK hR.1 hR.2.1 hR.2.2.1 (fun q hq => Nat.le_trans hh hq) (fun _ => rfl) (by rw [z32, lt32 on r32_0]; omega) (cl_of on) (by simp only [componentBytes]; omega) (by have := hR.room; omega) (by have := hR.room; omega) hdg (fun q cB H1 k1 g1 g2 g3 => ?_)
  have e := tys_inj (t := 2) hK k1 rfl (fun C z => by cases z)
  subst e
  have h1 := h _ _ _ _ _ _ (hR.push (st' := r) (sh := .inr (2, n.toNat, [])) (f' := sg.2.1) (g' := fun x y => if x = sg.1.length then 0 else sg.2.2 x y) ok (by simp only [cE, if_pos]; rfl) (fun i hi => ⟨rfl, by funext y; rw [if_neg (Nat.ne_of_lt hi)]⟩) ⟨by omega, by omega, fun ht => absurd ht (by decide), fun _ j => by simp only [if_pos]; exact r32_0, fun _ j => by simp only [if_pos]; exact r64_0, fun ht => absurd ht (by decide)⟩ g1 g2 g3 hn.2.2.1 hn.2.2.2)
  rw [Rl.pushV ok] at h1
  exact h1

theorem sm_newarr_boolean (hx : p.tables.exec = Jvm.exec) (hb : c.code = cc) (hts : ∀ w ∈ gt, w.before args s = true) (hK : va_K D mCls (mTys cA) s) (hh : h0 ≤ s.heap.size) {n : Int} (hdg : decode cc pc = .ok (.newarray .boolean, 2)) (hn : 0 ≤ n ∧ n ≤ 65536 ∧ 1 ≤ b.1 ∧ n.toNat ≤ b.2) (h : Sim p l e R s m args below meth c Qf D cA kd h0 n0 ad0 nL (pc + 2) L (vR sg.1.length :: r) (sg.1 ++ [.inr (3, n.toNat, [])], sg.2.1, fun x y => if x = sg.1.length then 0 else sg.2.2 x y) (b.1 - 1, b.2 - n.toNat)) : Sim p l e R s m args below meth c Qf D cA kd h0 n0 ad0 nL pc L (vI n :: r) sg b := by
  intro ad H locs cells slots ls hR
  obtain ⟨on, ok⟩ := List.forall_mem_cons.mp hR.ok
  have on : r32 n := on
  refine va_newa (atype := .boolean) (ty := .boolean) (a0 := (n.toNat, .inl (fun _ => 0))) (N' := n.toNat) hx hb (hts _ g_arr_boolean) rfl hK hR.1 hR.2.1 hR.2.2.1 (fun q hq => Nat.le_trans hh hq) (fun _ => rfl) (by rw [z32, lt32 on r32_0]; omega) (cl_of on) (by simp only [componentBytes]; omega) (by have := hR.room; omega) (by have := hR.room; omega) hdg (fun q cB H1 k1 g1 g2 g3 => ?_)
  have e := tys_inj (t := 3) hK k1 rfl (fun C z => by cases z)
  subst e
  have h1 := h _ _ _ _ _ _ (hR.push (st' := r) (sh := .inr (3, n.toNat, [])) (f' := sg.2.1) (g' := fun x y => if x = sg.1.length then 0 else sg.2.2 x y) ok (by simp only [cE, if_pos]; rfl) (fun i hi => ⟨rfl, by funext y; rw [if_neg (Nat.ne_of_lt hi)]⟩) ⟨by omega, by omega, fun ht => absurd ht (by decide), fun _ j => by simp only [if_pos]; exact r32_0, fun _ j => by simp only [if_pos]; exact r64_0, fun ht => absurd ht (by decide)⟩ g1 g2 g3 hn.2.2.1 hn.2.2.2)
  rw [Rl.pushV ok] at h1
  exact h1


theorem sm_anewarr (hx : p.tables.exec = Jvm.exec) (hb : c.code = cc) (hK : va_K D mCls (mTys cA) s) (hC : KC kA kd h0 s) (hh : h0 ≤ s.heap.size) {own : String} (hown : s.vm.findClass own = some m.cls) {n : Int} {idx : Nat} (hl : (Cond.classLink own idx RX7).before args s = true) (hdg : decode cc pc = .ok (.anewarray idx, 3)) (hn : 0 ≤ n ∧ n ≤ 65536 ∧ 1 ≤ b.1 ∧ n.toNat ≤ b.2) (h : Sim p l e R s m args below meth c Qf D cA kd h0 n0 ad0 nL (pc + 3) L (vR sg.1.length :: r) (sg.1 ++ [.inr (4, n.toNat, List.replicate n.toNat 3)], sg.2.1, sg.2.2) (b.1 - 1, b.2 - n.toNat)) : Sim p l e R s m args below meth c Qf D cA kd h0 n0 ad0 nL pc L (vI n :: r) sg b := by
  intro ad H locs cells slots ls hR
  obtain ⟨on, ok⟩ := List.forall_mem_cons.mp hR.ok
  have on : r32 n := on
  refine va_newq (N' := n.toNat) hx hb hown hl hC.2.2.2.2.2.2.2.2.2.2.2 hK hR.1 hR.2.1 hR.2.2.1 (fun q hq => Nat.le_trans hh hq) (by rw [z32, lt32 on r32_0]; omega) (cl_of on) (by omega) (by have := hR.room; omega) (by have := hR.room; omega) hdg (fun q cB H1 k1 g1 g2 g3 => ?_)
  have e := tys_injO hK k1
  subst e
  have hrep : ∀ j z, mFld (List.replicate n.toNat 3) j = some z → z = 3 := fun j z hz => by
    rw [mFld_eq, List.getElem?_replicate] at hz
    split at hz
    · exact (Option.some.inj hz).symm
    · cases hz
  have h1 := h _ _ _ _ _ _ (hR.push (st' := r) (sh := .inr (4, n.toNat, List.replicate n.toNat 3)) (f' := sg.2.1) (g' := sg.2.2) ok (by
      simp only [cE]
      congr 7
      funext j
      cases hj : mFld (List.replicate n.toNat 3) j with
      | none => rfl
      | some z => rw [hrep j z hj]; rfl) (fun i hi => ⟨rfl, rfl⟩) ⟨by omega, by omega, fun _ j z hz => ⟨by rw [hrep j z hz]; omega, fun r hr => by rw [hrep j z hz] at hr; omega⟩, fun ht => absurd rfl ht.2, fun ht => absurd ht (by decide), fun _ => List.length_replicate⟩ g1 g2 g3 hn.2.2.1 hn.2.2.2)
  rw [Rl.pushV ok] at h1
  exact h1
theorem sm_new (hx : p.tables.exec = Jvm.exec) (hb : c.code = cc) (hts : ∀ w ∈ gt, w.before args s = true) (hK : va_K D mCls (mTys cA) s) (hh : h0 ≤ s.heap.size) {own : String} (hown : s.vm.findClass own = some m.cls) {ci idx : Nat} (hci : ci ≤ 12) (hl : (Cond.classLink own idx (mClsOf ci).1).before args s = true) (hdg : decode cc pc = .ok (.new idx, 3)) (hn : 1 ≤ b.1 ∧ (mNew ci).length ≤ b.2) (h : Sim p l e R s m args below meth c Qf D cA kd h0 n0 ad0 nL (pc + 3) L (vR sg.1.length :: st) (sg.1 ++ [.inl (ci, mNew ci)], (fun x y => if x = sg.1.length then 0 else sg.2.1 x y), sg.2.2) (b.1 - 1, b.2 - (mNew ci).length)) : Sim p l e R s m args below meth c Qf D cA kd h0 n0 ad0 nL pc L st sg b := by
  intro ad H locs cells slots ls hR
  have hci' : ci < 13 := by omega
  have hlen := new_len ci hci'
  refine va_new (ci := ci) (fs := (mNew ci).map dflt) hx hb hts (cls_in ci hci') (mTy ci) (cls_ty ci hci') hown hl (hts _ (g_inst ci hci').1) (hts _ (g_inst ci hci').2) hK hR.1 hR.2.1 hR.2.2.1 (fun q hq => Nat.le_trans hh hq) (cls_at ci hci') (new_ok ci hci') (by have := hR.room; omega) (by have := hR.room; omega) hdg (fun q H1 g1 g2 g3 => ?_)
  have h1 := h _ _ _ _ _ _ (hR.push (st' := st) (sh := .inl (ci, mNew ci)) (f' := fun x y => if x = sg.1.length then 0 else sg.2.1 x y) (g' := sg.2.2) hR.ok (by
      have e := new_map (ad := fun i => if i = sg.1.length then q else ad i) (f := fun k => if sg.1.length = sg.1.length then 0 else sg.2.1 sg.1.length k) (fun _ => if_pos rfl) hci'
      show Sum.inr (ci, _) = Sum.inr (ci, _)
      rw [← e]) (fun i hi => ⟨by funext y; rw [if_neg (Nat.ne_of_lt hi)], rfl⟩) ⟨hci, hlen, fun k z hz => ⟨by
        simp only [if_pos]
        have hz3 := new_le3 ci hci' z (by rw [mFld_eq] at hz; exact List.mem_of_getElem? hz)
        rcases z with _ | _ | _ | _ | z
        · exact r32_0
        · exact r64_0
        · exact r32_0
        · trivial
        · omega, new_kty ci hci' k z hz⟩⟩ g1 g2 g3 hn.1 hn.2)
  rw [Rl.pushV hR.ok] at h1
  rw [hlen] at h1
  exact h1

end SIMB
