/-! The small machine in the real one: places and steps that leave the world alone -/
def lvr (ad : Nat → Nat) (kd : Nat → Value) (ls : Array Slot) (nL : Nat) (L : mL) : Prop := ls.size = nL ∧ lv_wf ls ∧ ∀ i v, mGet L i = some v → ls[i]? = some (.val (cV ad kd v))
def Rl (R : Room) (s : State) (D : va_G) (cA : Nat → ClassId) (kd : Nat → Value) (h0 n0 : Nat) (ad0 : Nat → Nat) (nL : Nat) (L : mL) (st : List mV) (sg : mS) (b : mB) (ad : Nat → Nat) (H : Heap) (locs : List Loc) (cells slots : Nat) (ls : Array Slot) : Prop :=
  va_P D mCls (cW ad cA sg) H ∧ va_D (AA h0) (cW ad cA sg) ∧ va_S (AA h0) s.heap H locs ∧ lvr ad kd ls nL L ∧ okS sg ∧ (∀ i v, mGet L i = some v → okV sg.1.length v) ∧ (∀ v ∈ st, okV sg.1.length v) ∧ (cells + b.1 ≤ R.cells ∧ slots + b.2 ≤ R.slots) ∧ n0 ≤ sg.1.length ∧ ∀ i, i < n0 → ad i = ad0 i
def Sim (p : Program) (l : Launch) (e : Env) (R : Room) (s : State) (m : MethodId) (args : Array Value) (below : List Frame) (meth : Method) (c : Code) (Qf : State → Prop) (D : va_G) (cA : Nat → ClassId) (kd : Nat → Value) (h0 n0 : Nat) (ad0 : Nat → Nat) (nL : Nat) : mX := fun pc L st sg b =>
  ∀ (ad : Nat → Nat) (H : Heap) (locs : List Loc) (cells slots : Nat) (ls : Array Slot), Rl R s D cA kd h0 n0 ad0 nL L st sg b ad H locs cells slots ls → W p l e R s m args below meth c H locs cells slots Qf (F0 m pc ls (st.map (cV ad kd)))
theorem mGet_set {v w : mV} : ∀ {L : mL} {i j : Nat}, mGet (mSet L i v) j = some w → (j = i ∧ w = v) ∨ (j ≠ i ∧ mGet L j = some w ∧ (j + 1 = i → ∀ z, w ≠ vL z))
  | [], i, j, h => by simp [mSet, mGet] at h
  | x :: t, 0, 0, h => by simp [mSet, mGet] at h; exact Or.inl ⟨rfl, h.symm⟩
  | x :: t, 0, j + 1, h => by
    refine Or.inr ⟨by omega, ?_, by omega⟩
    simpa [mSet, mGet] using h
  | x :: t, i + 1, 0, h => by
    refine Or.inr ⟨by omega, ?_⟩
    rcases i with _ | i
    · simp only [mSet, mGet] at h
      rcases x with _ | (n | n | n | n)
      · simp [mClr] at h
      · simp [mClr] at h; subst h; exact ⟨rfl, fun _ z hz => by cases hz⟩
      · simp [mClr] at h
      · simp [mClr] at h; subst h; exact ⟨rfl, fun _ z hz => by cases hz⟩
      · simp [mClr] at h; subst h; exact ⟨rfl, fun _ z hz => by cases hz⟩
    · simp only [mSet, mGet] at h
      exact ⟨h, fun h1 => absurd h1 (by omega)⟩
  | x :: t, i + 1, j + 1, h => by
    simp only [mSet, mGet] at h
    rcases mGet_set (L := t) (i := i) (j := j) h with ⟨h1, h2⟩ | ⟨h1, h2, h3⟩
    · exact Or.inl ⟨by omega, h2⟩
    · exact Or.inr ⟨by omega, h2, fun q => h3 (by omega)⟩
theorem mSet2_cons (x : Option mV) (t : mL) (i : Nat) (v : mV) : mSet2 (x :: t) (i + 1) v = (match i with | 0 => mClr x | _ => x) :: mSet2 t i v := by cases t <;> rfl
theorem mGet_set2 {v w : mV} : ∀ {L : mL} {i j : Nat}, mGet (mSet2 L i v) j = some w → (j = i ∧ w = v) ∨ (j ≠ i ∧ j ≠ i + 1 ∧ mGet L j = some w ∧ (j + 1 = i → ∀ z, w ≠ vL z))
  | [], i, j, h => by simp [mSet2, mGet] at h
  | [x], 0, 0, h => by simp [mSet2, mGet] at h; exact Or.inl ⟨rfl, h.symm⟩
  | x :: y :: t, 0, 0, h => by simp [mSet2, mGet] at h; exact Or.inl ⟨rfl, h.symm⟩
  | [x], 0, j + 1, h => by simp [mSet2, mGet] at h
  | x :: y :: t, 0, 1, h => by simp [mSet2, mGet] at h
  | x :: y :: t, 0, j + 2, h => by
    refine Or.inr ⟨by omega, by omega, ?_, by omega⟩
    simpa [mSet2, mGet] using h
  | x :: t, i + 1, 0, h => by
    refine Or.inr ⟨by omega, by omega, ?_⟩
    rcases i with _ | i
    · simp only [mSet2_cons, mGet] at h
      rcases x with _ | (n | n | n | n)
      · simp [mClr] at h
      · simp [mClr] at h; subst h; exact ⟨rfl, fun _ z hz => by cases hz⟩
      · simp [mClr] at h
      · simp [mClr] at h; subst h; exact ⟨rfl, fun _ z hz => by cases hz⟩
      · simp [mClr] at h; subst h; exact ⟨rfl, fun _ z hz => by cases hz⟩
    · simp only [mSet2_cons, mGet] at h
      exact ⟨h, fun h1 => absurd h1 (by omega)⟩
  | x :: t, i + 1, j + 1, h => by
    have h : mGet (mSet2 t i v) j = some w := by simpa [mSet2_cons, mGet] using h
    rcases mGet_set2 (L := t) (i := i) (j := j) h with ⟨h1, h2⟩ | ⟨h1, h2, h3, h4⟩
    · exact Or.inl ⟨by omega, h2⟩
    · exact Or.inr ⟨by omega, by omega, h3, fun q => h4 (by omega)⟩
/-- the locals as the kit lists them -/
def lsOf (ad : Nat → Nat) (kd : Nat → Value) (L : mL) : List (Nat × Value) := (List.range L.length).filterMap (fun i => (mGet L i).map (fun v => (i, cV ad kd v)))
theorem mGet_lt {v : mV} : ∀ {L : mL} {i : Nat}, mGet L i = some v → i < L.length
  | [], _, h => by simp [mGet] at h
  | _ :: _, 0, _ => by simp
  | _ :: t, i + 1, h => by
    have := mGet_lt (L := t) (i := i) (by simpa [mGet] using h)
    simp; omega
theorem lsOf_has {ad : Nat → Nat} {kd : Nat → Value} {ls : Array Slot} {nL : Nat} {L : mL} (h : lvr ad kd ls nL L) : lv_has ls nL (lsOf ad kd L) := by
  refine ⟨h.1, h.2.1, fun q hq => ?_⟩
  obtain ⟨i, -, hi⟩ := List.mem_filterMap.mp hq
  cases hg : mGet L i with
  | none => rw [hg] at hi; cases hi
  | some v => rw [hg] at hi; cases hi; exact h.2.2 i v hg
theorem lsOf_mem {ad : Nat → Nat} {kd : Nat → Value} {L : mL} {i : Nat} {v : mV} (h : mGet L i = some v) : (i, cV ad kd v) ∈ lsOf ad kd L := by
  refine List.mem_filterMap.mpr ⟨i, List.mem_range.mpr (mGet_lt h), ?_⟩
  rw [h]; rfl
theorem cV_cat {ad : Nat → Nat} {kd : Nat → Value} (hk : ∀ k, (kd k).category = 1) (v : mV) (h : (cV ad kd v).category = 2) : ∃ z, v = vL z := by
  rcases v with n | n | n | n
  · simp [cV, Value.category] at h
  · exact ⟨n, rfl⟩
  · simp [cV, Value.category] at h
  · simp only [cV, hk] at h
    omega
theorem lvr_set {ad : Nat → Nat} {kd : Nat → Value} (hk : ∀ k, (kd k).category = 1) {ls' : Array Slot} {nL : Nat} {L : mL} {i : Nat} {v : mV} (h : lv_has ls' nL ((i, cV ad kd v) :: (lsOf ad kd L).filter (fun q => !(q.1 == i) && !(q.1 + 1 == i && q.2.category == 2)))) : lvr ad kd ls' nL (mSet L i v) := by
  refine ⟨h.1, h.2.1, fun j w hj => ?_⟩
  rcases mGet_set hj with ⟨rfl, rfl⟩ | ⟨h1, h2, h3⟩
  · exact h.2.2 (j, cV ad kd w) List.mem_cons_self
  · refine h.2.2 (j, cV ad kd w) (List.mem_cons_of_mem _ (List.mem_filter.mpr ⟨lsOf_mem h2, ?_⟩))
    simp only [Bool.and_eq_true, Bool.not_eq_true', beq_eq_false_iff_ne, ne_eq, Bool.and_eq_false_iff]
    refine ⟨h1, ?_⟩
    by_cases hc : (cV ad kd w).category = 2
    · obtain ⟨z, hz⟩ := cV_cat hk w hc
      exact Or.inl (fun q => h3 q z hz)
    · exact Or.inr hc
theorem lvr_set2 {ad : Nat → Nat} {kd : Nat → Value} (hk : ∀ k, (kd k).category = 1) {ls' : Array Slot} {nL : Nat} {L : mL} {i : Nat} {v : mV} (h : lv_has ls' nL ((i, cV ad kd v) :: (lsOf ad kd L).filter (fun q => !(q.1 == i) && (!(q.1 == i + 1) && !(q.1 + 1 == i && q.2.category == 2))))) : lvr ad kd ls' nL (mSet2 L i v) := by
  refine ⟨h.1, h.2.1, fun j w hj => ?_⟩
  rcases mGet_set2 hj with ⟨rfl, rfl⟩ | ⟨h1, h1', h2, h3⟩
  · exact h.2.2 (j, cV ad kd w) List.mem_cons_self
  · refine h.2.2 (j, cV ad kd w) (List.mem_cons_of_mem _ (List.mem_filter.mpr ⟨lsOf_mem h2, ?_⟩))
    simp only [Bool.and_eq_true, Bool.not_eq_true', beq_eq_false_iff_ne, ne_eq, Bool.and_eq_false_iff]
    refine ⟨h1, h1', ?_⟩
    by_cases hc : (cV ad kd w).category = 2
    · obtain ⟨z, hz⟩ := cV_cat hk w hc
      exact Or.inl (fun q => h3 q z hz)
    · exact Or.inr hc

section SIMB
variable {p : Program} {l : Launch} {e : Env} {R : Room} {s : State} {m : MethodId} {args : Array Value} {below : List Frame} {meth : Method} {c : Code} {Qf : State → Prop}
variable {D : va_G} {cA : Nat → ClassId} {kd : Nat → Value} {h0 n0 nL : Nat} {ad0 : Nat → Nat} {cc : ByteArray} {pc : Nat} {L : mL} {r st : List mV} {sg : mS} {b : mB}


theorem Rl.st' {ad : Nat → Nat} {H : Heap} {locs : List Loc} {cells slots : Nat} {ls : Array Slot} {st' : List mV} (h : Rl R s D cA kd h0 n0 ad0 nL L st sg b ad H locs cells slots ls) (h' : ∀ v ∈ st', okV sg.1.length v) : Rl R s D cA kd h0 n0 ad0 nL L st' sg b ad H locs cells slots ls :=
  ⟨h.1, h.2.1, h.2.2.1, h.2.2.2.1, h.2.2.2.2.1, h.2.2.2.2.2.1, h', h.2.2.2.2.2.2.2⟩
theorem Rl.ok {ad : Nat → Nat} {H : Heap} {locs : List Loc} {cells slots : Nat} {ls : Array Slot} (h : Rl R s D cA kd h0 n0 ad0 nL L st sg b ad H locs cells slots ls) : ∀ v ∈ st, okV sg.1.length v := h.2.2.2.2.2.2.1
theorem Rl.lv {ad : Nat → Nat} {H : Heap} {locs : List Loc} {cells slots : Nat} {ls : Array Slot} (h : Rl R s D cA kd h0 n0 ad0 nL L st sg b ad H locs cells slots ls) : lvr ad kd ls nL L := h.2.2.2.1
theorem Rl.okl {ad : Nat → Nat} {H : Heap} {locs : List Loc} {cells slots : Nat} {ls : Array Slot} (h : Rl R s D cA kd h0 n0 ad0 nL L st sg b ad H locs cells slots ls) : ∀ i v, mGet L i = some v → okV sg.1.length v := h.2.2.2.2.2.1
theorem Rl.setl {ad : Nat → Nat} {H : Heap} {locs : List Loc} {cells slots : Nat} {ls ls' : Array Slot} {L' : mL} {st' : List mV} (h : Rl R s D cA kd h0 n0 ad0 nL L st sg b ad H locs cells slots ls) (hl : lvr ad kd ls' nL L') (ho : ∀ i v, mGet L' i = some v → okV sg.1.length v) (h' : ∀ v ∈ st', okV sg.1.length v) : Rl R s D cA kd h0 n0 ad0 nL L' st' sg b ad H locs cells slots ls' :=
  ⟨h.1, h.2.1, h.2.2.1, hl, h.2.2.2.2.1, ho, h', h.2.2.2.2.2.2.2⟩
theorem okV_set {n i : Nat} {v : mV} (hL : ∀ i v, mGet L i = some v → okV n v) (hv : okV n v) : ∀ j w, mGet (mSet L i v) j = some w → okV n w := by
  intro j w h
  rcases mGet_set h with ⟨-, rfl⟩ | ⟨-, h2, -⟩
  · exact hv
  · exact hL j w h2
theorem okV_set2 {n i : Nat} {v : mV} (hL : ∀ i v, mGet L i = some v → okV n v) (hv : okV n v) : ∀ j w, mGet (mSet2 L i v) j = some w → okV n w := by
  intro j w h
  rcases mGet_set2 h with ⟨-, rfl⟩ | ⟨-, -, h2, -⟩
  · exact hv
  · exact hL j w h2

theorem sm_iconst (hx : p.tables.exec = Jvm.exec) (hb : c.code = cc) {i : Int} (hdg : decode cc pc = .ok (.iconst i, 1)) (hi : r32 i) (h : Sim p l e R s m args below meth c Qf D cA kd h0 n0 ad0 nL (pc + 1) L (vI i :: st) sg b) : Sim p l e R s m args below meth c Qf D cA kd h0 n0 ad0 nL pc L st sg b := by
  intro ad H locs cells slots ls hR
  refine lv_iconst (v := Int32.ofInt i) hx hb hdg rfl ?_
  exact h ad H locs cells slots ls (hR.st' (List.forall_mem_cons.mpr ⟨hi, hR.ok⟩))

theorem sm_bipush (hx : p.tables.exec = Jvm.exec) (hb : c.code = cc) {i : Int} (hdg : decode cc pc = .ok (.bipush i, 2)) (hi : r32 i) (hv : (Int8.ofInt i).toInt32 = Int32.ofInt i) (h : Sim p l e R s m args below meth c Qf D cA kd h0 n0 ad0 nL (pc + 2) L (vI i :: st) sg b) : Sim p l e R s m args below meth c Qf D cA kd h0 n0 ad0 nL pc L st sg b := by
  intro ad H locs cells slots ls hR
  refine lv_bipush (v := Int32.ofInt i) hx hb hdg hv ?_
  exact h ad H locs cells slots ls (hR.st' (List.forall_mem_cons.mpr ⟨hi, hR.ok⟩))

theorem sm_sipush (hx : p.tables.exec = Jvm.exec) (hb : c.code = cc) {i : Int} (hdg : decode cc pc = .ok (.sipush i, 3)) (hi : r32 i) (hv : (Int16.ofInt i).toInt32 = Int32.ofInt i) (h : Sim p l e R s m args below meth c Qf D cA kd h0 n0 ad0 nL (pc + 3) L (vI i :: st) sg b) : Sim p l e R s m args below meth c Qf D cA kd h0 n0 ad0 nL pc L st sg b := by
  intro ad H locs cells slots ls hR
  refine lv_sipush (v := Int32.ofInt i) hx hb hdg hv ?_
  exact h ad H locs cells slots ls (hR.st' (List.forall_mem_cons.mpr ⟨hi, hR.ok⟩))

theorem sm_ldc (hx : p.tables.exec = Jvm.exec) (hb : c.code = cc) {i : Nat} {n : Int} {own : String} (hdg : decode cc pc = .ok (.ldc i, 2)) (hi : r32 n) (hown : s.vm.findClass own = some m.cls) (hc : (Jvm.Cond.constant own i (Int32.ofInt n)).before args s = true) (h : Sim p l e R s m args below meth c Qf D cA kd h0 n0 ad0 nL (pc + 2) L (vI n :: st) sg b) : Sim p l e R s m args below meth c Qf D cA kd h0 n0 ad0 nL pc L st sg b := by
  intro ad H locs cells slots ls hR
  refine lv_ldc hx hb hown hc hdg ?_
  exact h ad H locs cells slots ls (hR.st' (List.forall_mem_cons.mpr ⟨hi, hR.ok⟩))

theorem sm_ldc_w (hx : p.tables.exec = Jvm.exec) (hb : c.code = cc) {i : Nat} {n : Int} {own : String} (hdg : decode cc pc = .ok (.ldc_w i, 3)) (hi : r32 n) (hown : s.vm.findClass own = some m.cls) (hc : (Jvm.Cond.constant own i (Int32.ofInt n)).before args s = true) (h : Sim p l e R s m args below meth c Qf D cA kd h0 n0 ad0 nL (pc + 3) L (vI n :: st) sg b) : Sim p l e R s m args below meth c Qf D cA kd h0 n0 ad0 nL pc L st sg b := by
  intro ad H locs cells slots ls hR
  refine lv_ldcw hx hb hown hc hdg ?_
  exact h ad H locs cells slots ls (hR.st' (List.forall_mem_cons.mpr ⟨hi, hR.ok⟩))

theorem sm_ldc2_w (hx : p.tables.exec = Jvm.exec) (hb : c.code = cc) {i : Nat} {n : Int} {own : String} (hdg : decode cc pc = .ok (.ldc2_w i, 3)) (hi : r64 n) (hown : s.vm.findClass own = some m.cls) (hc : (Jvm.Cond.constantLong own i (Int64.ofInt n)).before args s = true) (h : Sim p l e R s m args below meth c Qf D cA kd h0 n0 ad0 nL (pc + 3) L (vL n :: st) sg b) : Sim p l e R s m args below meth c Qf D cA kd h0 n0 ad0 nL pc L st sg b := by
  intro ad H locs cells slots ls hR
  refine lv_ldc2 hx hb hown hc hdg ?_
  exact h ad H locs cells slots ls (hR.st' (List.forall_mem_cons.mpr ⟨hi, hR.ok⟩))

theorem sm_lconst (hx : p.tables.exec = Jvm.exec) (hb : c.code = cc) {i : Fin 2} (hdg : decode cc pc = .ok (.lconst i, 1)) (h : Sim p l e R s m args below meth c Qf D cA kd h0 n0 ad0 nL (pc + 1) L (vL (i.val : Int) :: st) sg b) : Sim p l e R s m args below meth c Qf D cA kd h0 n0 ad0 nL pc L st sg b := by
  intro ad H locs cells slots ls hR
  refine lv_lconst (v := Int64.ofInt (i.val : Int)) hx hb hdg (by rcases i with ⟨i, hi⟩; rcases (show i = 0 ∨ i = 1 by omega) with rfl | rfl <;> rfl) ?_
  exact h ad H locs cells slots ls (hR.st' (List.forall_mem_cons.mpr ⟨by show r64 _; have := i.isLt; unfold r64; omega, hR.ok⟩))

theorem sm_iload (hx : p.tables.exec = Jvm.exec) (hb : c.code = cc) {i : Nat} {n : Int} (hdg : decode cc pc = .ok (.iload i, 2)) (hg : mGet L i = some (vI n)) (h : Sim p l e R s m args below meth c Qf D cA kd h0 n0 ad0 nL (pc + 2) L (vI n :: st) sg b) : Sim p l e R s m args below meth c Qf D cA kd h0 n0 ad0 nL pc L st sg b := by
  intro ad H locs cells slots ls hR
  refine lv_iload hx hb hdg (hR.lv.2.2 i _ hg) ?_
  exact h ad H locs cells slots ls (hR.st' (List.forall_mem_cons.mpr ⟨hR.okl i _ hg, hR.ok⟩))

theorem sm_lload (hx : p.tables.exec = Jvm.exec) (hb : c.code = cc) {i : Nat} {n : Int} (hdg : decode cc pc = .ok (.lload i, 2)) (hg : mGet L i = some (vL n)) (h : Sim p l e R s m args below meth c Qf D cA kd h0 n0 ad0 nL (pc + 2) L (vL n :: st) sg b) : Sim p l e R s m args below meth c Qf D cA kd h0 n0 ad0 nL pc L st sg b := by
  intro ad H locs cells slots ls hR
  refine lv_lload hx hb hdg (hR.lv.2.2 i _ hg) ?_
  exact h ad H locs cells slots ls (hR.st' (List.forall_mem_cons.mpr ⟨hR.okl i _ hg, hR.ok⟩))

theorem sm_iload_n (hx : p.tables.exec = Jvm.exec) (hb : c.code = cc) {i : Fin 4} {n : Int} (hdg : decode cc pc = .ok (.iload_n i, 1)) (hg : mGet L i.val = some (vI n)) (h : Sim p l e R s m args below meth c Qf D cA kd h0 n0 ad0 nL (pc + 1) L (vI n :: st) sg b) : Sim p l e R s m args below meth c Qf D cA kd h0 n0 ad0 nL pc L st sg b := by
  intro ad H locs cells slots ls hR
  refine lv_iload_n hx hb hdg rfl (hR.lv.2.2 _ _ hg) ?_
  exact h ad H locs cells slots ls (hR.st' (List.forall_mem_cons.mpr ⟨hR.okl _ _ hg, hR.ok⟩))

theorem sm_lload_n (hx : p.tables.exec = Jvm.exec) (hb : c.code = cc) {i : Fin 4} {n : Int} (hdg : decode cc pc = .ok (.lload_n i, 1)) (hg : mGet L i.val = some (vL n)) (h : Sim p l e R s m args below meth c Qf D cA kd h0 n0 ad0 nL (pc + 1) L (vL n :: st) sg b) : Sim p l e R s m args below meth c Qf D cA kd h0 n0 ad0 nL pc L st sg b := by
  intro ad H locs cells slots ls hR
  refine lv_lload_n hx hb hdg rfl (hR.lv.2.2 _ _ hg) ?_
  exact h ad H locs cells slots ls (hR.st' (List.forall_mem_cons.mpr ⟨hR.okl _ _ hg, hR.ok⟩))

theorem sm_aload (hx : p.tables.exec = Jvm.exec) (hb : c.code = cc) (hkd : ∀ k, kd k = .null ∨ ∃ a, kd k = .ref a) {i : Nat} {n : Nat ⊕ Nat} (hdg : decode cc pc = .ok (.aload i, 2)) (hg : mGet L i = some (.inr (.inr n))) (h : Sim p l e R s m args below meth c Qf D cA kd h0 n0 ad0 nL (pc + 2) L (.inr (.inr n) :: st) sg b) : Sim p l e R s m args below meth c Qf D cA kd h0 n0 ad0 nL pc L st sg b := by
  intro ad H locs cells slots ls hR
  have h1 := h ad H locs cells slots ls (hR.st' (List.forall_mem_cons.mpr ⟨hR.okl _ _ hg, hR.ok⟩))
  have h2 := hR.lv.2.2 _ _ hg
  rcases n with r | k
  · exact lv_aload hx hb hdg h2 h1
  · rcases hkd k with e | ⟨a, e⟩
    · have e' : cV ad kd (.inr (.inr (.inr k))) = .null := e
      rw [e'] at h2
      rw [List.map_cons, e'] at h1
      exact lv_aloadN hx hb hdg h2 h1
    · have e' : cV ad kd (.inr (.inr (.inr k))) = .ref a := e
      rw [e'] at h2
      rw [List.map_cons, e'] at h1
      exact lv_aload hx hb hdg h2 h1

theorem sm_aload_n (hx : p.tables.exec = Jvm.exec) (hb : c.code = cc) (hkd : ∀ k, kd k = .null ∨ ∃ a, kd k = .ref a) {i : Fin 4} {n : Nat ⊕ Nat} (hdg : decode cc pc = .ok (.aload_n i, 1)) (hg : mGet L i.val = some (.inr (.inr n))) (h : Sim p l e R s m args below meth c Qf D cA kd h0 n0 ad0 nL (pc + 1) L (.inr (.inr n) :: st) sg b) : Sim p l e R s m args below meth c Qf D cA kd h0 n0 ad0 nL pc L st sg b := by
  intro ad H locs cells slots ls hR
  have h1 := h ad H locs cells slots ls (hR.st' (List.forall_mem_cons.mpr ⟨hR.okl _ _ hg, hR.ok⟩))
  have h2 := hR.lv.2.2 _ _ hg
  rcases n with r | k
  · exact lv_aload_n hx hb hdg rfl h2 h1
  · rcases hkd k with e | ⟨a, e⟩
    · have e' : cV ad kd (.inr (.inr (.inr k))) = .null := e
      rw [e'] at h2
      rw [List.map_cons, e'] at h1
      exact lv_aload_nN hx hb hdg rfl h2 h1
    · have e' : cV ad kd (.inr (.inr (.inr k))) = .ref a := e
      rw [e'] at h2
      rw [List.map_cons, e'] at h1
      exact lv_aload_n hx hb hdg rfl h2 h1

theorem sm_istore (hx : p.tables.exec = Jvm.exec) (hb : c.code = cc) (hk1 : ∀ k, (kd k).category = 1) {i : Nat} {n : Int} (hdg : decode cc pc = .ok (.istore i, 2)) (hn : i < nL) (h : Sim p l e R s m args below meth c Qf D cA kd h0 n0 ad0 nL (pc + 2) (mSet L i (vI n)) r sg b) : Sim p l e R s m args below meth c Qf D cA kd h0 n0 ad0 nL pc L (vI n :: r) sg b := by
  intro ad H locs cells slots ls hR
  obtain ⟨ov, ok⟩ := List.forall_mem_cons.mp hR.ok
  refine lv_istore hx hb hdg (lsOf_has hR.lv) hn rfl (fun ls' hl' => ?_)
  exact h ad H locs cells slots ls' (hR.setl (lvr_set (v := vI n) hk1 hl') (okV_set hR.okl ov) ok)

theorem sm_istore_n (hx : p.tables.exec = Jvm.exec) (hb : c.code = cc) (hk1 : ∀ k, (kd k).category = 1) {i : Fin 4} {n : Int} (hdg : decode cc pc = .ok (.istore_n i, 1)) (hn : i.val < nL) (h : Sim p l e R s m args below meth c Qf D cA kd h0 n0 ad0 nL (pc + 1) (mSet L i.val (vI n)) r sg b) : Sim p l e R s m args below meth c Qf D cA kd h0 n0 ad0 nL pc L (vI n :: r) sg b := by
  intro ad H locs cells slots ls hR
  obtain ⟨ov, ok⟩ := List.forall_mem_cons.mp hR.ok
  refine lv_istore_n hx hb hdg rfl (lsOf_has hR.lv) hn rfl (fun ls' hl' => ?_)
  exact h ad H locs cells slots ls' (hR.setl (lvr_set (v := vI n) hk1 hl') (okV_set hR.okl ov) ok)

theorem sm_lstore (hx : p.tables.exec = Jvm.exec) (hb : c.code = cc) (hk1 : ∀ k, (kd k).category = 1) {i : Nat} {n : Int} (hdg : decode cc pc = .ok (.lstore i, 2)) (hn : i + 1 < nL) (h : Sim p l e R s m args below meth c Qf D cA kd h0 n0 ad0 nL (pc + 2) (mSet2 L i (vL n)) r sg b) : Sim p l e R s m args below meth c Qf D cA kd h0 n0 ad0 nL pc L (vL n :: r) sg b := by
  intro ad H locs cells slots ls hR
  obtain ⟨ov, ok⟩ := List.forall_mem_cons.mp hR.ok
  refine lv_lstore hx hb hdg (lsOf_has hR.lv) hn rfl (fun ls' hl' => ?_)
  exact h ad H locs cells slots ls' (hR.setl (lvr_set2 (v := vL n) hk1 hl') (okV_set2 hR.okl ov) ok)

theorem sm_lstore_n (hx : p.tables.exec = Jvm.exec) (hb : c.code = cc) (hk1 : ∀ k, (kd k).category = 1) {i : Fin 4} {n : Int} (hdg : decode cc pc = .ok (.lstore_n i, 1)) (hn : i.val + 1 < nL) (h : Sim p l e R s m args below meth c Qf D cA kd h0 n0 ad0 nL (pc + 1) (mSet2 L i.val (vL n)) r sg b) : Sim p l e R s m args below meth c Qf D cA kd h0 n0 ad0 nL pc L (vL n :: r) sg b := by
  intro ad H locs cells slots ls hR
  obtain ⟨ov, ok⟩ := List.forall_mem_cons.mp hR.ok
  refine lv_lstore_n hx hb hdg rfl (lsOf_has hR.lv) hn rfl (fun ls' hl' => ?_)
  exact h ad H locs cells slots ls' (hR.setl (lvr_set2 (v := vL n) hk1 hl') (okV_set2 hR.okl ov) ok)

theorem sm_astore (hx : p.tables.exec = Jvm.exec) (hb : c.code = cc) (hkd : ∀ k, kd k = .null ∨ ∃ a, kd k = .ref a) (hk1 : ∀ k, (kd k).category = 1) {i : Nat} {n : Nat ⊕ Nat} (hdg : decode cc pc = .ok (.astore i, 2)) (hn : i < nL) (h : Sim p l e R s m args below meth c Qf D cA kd h0 n0 ad0 nL (pc + 2) (mSet L i (.inr (.inr n))) r sg b) : Sim p l e R s m args below meth c Qf D cA kd h0 n0 ad0 nL pc L (.inr (.inr n) :: r) sg b := by
  intro ad H locs cells slots ls hR
  obtain ⟨ov, ok⟩ := List.forall_mem_cons.mp hR.ok
  have key : ∀ ls' : Array Slot, lv_has ls' nL ((i, cV ad kd (.inr (.inr n))) :: (lsOf ad kd L).filter (fun q => !(q.1 == i) && !(q.1 + 1 == i && q.2.category == 2))) → W p l e R s m args below meth c H locs cells slots Qf (F0 m (pc + 2) ls' (r.map (cV ad kd))) :=
    fun ls' hl' => h ad H locs cells slots ls' (hR.setl (lvr_set hk1 hl') (okV_set hR.okl ov) ok)
  rcases n with q | k
  · exact lv_astore hx hb hdg (lsOf_has hR.lv) hn rfl key
  · rcases hkd k with e | ⟨a, e⟩
    · have e' : cV ad kd (.inr (.inr (.inr k))) = .null := e
      rw [List.map_cons]
      rw [e'] at key ⊢
      exact lv_astoreN hx hb hdg (lsOf_has hR.lv) hn rfl key
    · have e' : cV ad kd (.inr (.inr (.inr k))) = .ref a := e
      rw [List.map_cons]
      rw [e'] at key ⊢
      exact lv_astore hx hb hdg (lsOf_has hR.lv) hn rfl key

theorem sm_astore_n (hx : p.tables.exec = Jvm.exec) (hb : c.code = cc) (hkd : ∀ k, kd k = .null ∨ ∃ a, kd k = .ref a) (hk1 : ∀ k, (kd k).category = 1) {i : Fin 4} {n : Nat ⊕ Nat} (hdg : decode cc pc = .ok (.astore_n i, 1)) (hn : i.val < nL) (h : Sim p l e R s m args below meth c Qf D cA kd h0 n0 ad0 nL (pc + 1) (mSet L i.val (.inr (.inr n))) r sg b) : Sim p l e R s m args below meth c Qf D cA kd h0 n0 ad0 nL pc L (.inr (.inr n) :: r) sg b := by
  intro ad H locs cells slots ls hR
  obtain ⟨ov, ok⟩ := List.forall_mem_cons.mp hR.ok
  have key : ∀ ls' : Array Slot, lv_has ls' nL ((i.val, cV ad kd (.inr (.inr n))) :: (lsOf ad kd L).filter (fun q => !(q.1 == i.val) && !(q.1 + 1 == i.val && q.2.category == 2))) → W p l e R s m args below meth c H locs cells slots Qf (F0 m (pc + 1) ls' (r.map (cV ad kd))) :=
    fun ls' hl' => h ad H locs cells slots ls' (hR.setl (lvr_set hk1 hl') (okV_set hR.okl ov) ok)
  rcases n with q | k
  · exact lv_astore_n hx hb hdg rfl (lsOf_has hR.lv) hn rfl key
  · rcases hkd k with e | ⟨a, e⟩
    · have e' : cV ad kd (.inr (.inr (.inr k))) = .null := e
      rw [List.map_cons]
      rw [e'] at key ⊢
      exact lv_astore_nN hx hb hdg rfl (lsOf_has hR.lv) hn rfl key
    · have e' : cV ad kd (.inr (.inr (.inr k))) = .ref a := e
      rw [List.map_cons]
      rw [e'] at key ⊢
      exact lv_astore_n hx hb hdg rfl (lsOf_has hR.lv) hn rfl key

end SIMB
