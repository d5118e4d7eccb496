/-! The small machine in the real one: fields and rows -/

theorem cls_in : ∀ ci, ci < 13 → ∀ w ∈ u_ws (mClsOf ci).1 (mClsOf ci).2.1 (mClsOf ci).2.2, w ∈ gt := by
  have h : ∀ ci, ci < 13 → (u_ws (mClsOf ci).1 (mClsOf ci).2.1 (mClsOf ci).2.2).all (fun w => decide (w ∈ lw_tbl) && goodWord w) = true := by decide +kernel
  intro ci hci w hw
  have h1 := List.all_eq_true.mp (h ci hci) w hw
  simp only [Bool.and_eq_true, decide_eq_true_eq] at h1
  exact List.mem_filter.mpr ⟨h1.1, h1.2⟩
theorem cls_at : ∀ ci, ci < 13 → mCls[ci]? = some (mClsOf ci) := by
  intro ci h
  match ci, h with
  | 0, _ => rfl | 1, _ => rfl | 2, _ => rfl | 3, _ => rfl | 4, _ => rfl | 5, _ => rfl | 6, _ => rfl | 7, _ => rfl | 8, _ => rfl | 9, _ => rfl | 10, _ => rfl | 11, _ => rfl | 12, _ => rfl
  | n + 13, h => omega
theorem cls_ty : ∀ ci, ci < 13 → ∀ k, k < (mClsOf ci).2.2 → parseFieldDescriptor ((mClsOf ci).2.1 k).2.2.1 = some (mTy ci k) := by
  intro ci h
  match ci, h with
  | 0, _ => exact tyX0_ok | 1, _ => exact tyX1_ok | 2, _ => exact tyX2_ok | 3, _ => exact tyX3_ok | 4, _ => exact tyX4_ok | 5, _ => exact tyX5_ok | 6, _ => exact tyX6_ok | 7, _ => exact tyX7_ok | 8, _ => exact tyX8_ok | 9, _ => exact tyX9_ok | 10, _ => exact tyX10_ok | 11, _ => exact tyX11_ok | 12, _ => exact tyX12_ok
  | n + 13, h => omega
theorem cls_nm : ∀ ci, ci < 13 → ∀ a, a < (mClsOf ci).2.2 → ∀ b, b < (mClsOf ci).2.2 → a ≠ b → ((mClsOf ci).2.1 a).2.1 ≠ ((mClsOf ci).2.1 b).2.1 := by
  intro ci h
  match ci, h with
  | 0, _ => exact nmX0 | 1, _ => exact nmX1 | 2, _ => exact nmX2 | 3, _ => exact nmX3 | 4, _ => exact nmX4 | 5, _ => exact nmX5 | 6, _ => exact nmX6 | 7, _ => exact nmX7 | 8, _ => exact nmX8 | 9, _ => exact nmX9 | 10, _ => exact nmX10 | 11, _ => exact nmX11 | 12, _ => exact nmX12
  | n + 13, h => omega
theorem cV_fld {ad : Nat → Nat} {kd : Nat → Value} (h0 : kd 0 = .null) (q : Nat) (x : Int) : cV ad kd (mFldOf q x) = cF ad x q := by
  rcases q with _ | _ | _ | _ | q
  · rfl
  · rfl
  · rfl
  · exact h0
  · rfl
theorem okV_fld {n q : Nat} {x : Int} (h : okF1 n x q) : okV n (mFldOf q x) := by
  rcases q with _ | _ | _ | _ | q
  · exact h
  · exact h
  · exact h
  · trivial
  · exact h
/-- a value that a field of a type takes -/
theorem put_ok {ty : FieldType} {q : Nat} {ad : Nat → Nat} {x : Int} (hk : kTy ty q) (hz : q = 2 → x = 0 ∨ x = 1) (hn : q ≠ 3) : narrow ty (cF ad x q) = cF ad x q ∧ fits ty (cF ad x q) = true := by
  cases ty <;> simp only [kTy] at hk
  all_goals first
    | (subst hk; exact ⟨rfl, rfl⟩)
    | (subst hk
       rcases hz rfl with rfl | rfl
       · exact ⟨show narrow .boolean (.int (Int32.ofInt 0)) = .int (Int32.ofInt 0) by decide, show fits .boolean (.int (Int32.ofInt 0)) = true by decide⟩
       · exact ⟨show narrow .boolean (.int (Int32.ofInt 1)) = .int (Int32.ofInt 1) by decide, show fits .boolean (.int (Int32.ofInt 1)) = true by decide⟩)
    | (obtain ⟨r, rfl⟩ : ∃ r, q = r + 4 := ⟨q - 4, by omega⟩
       exact ⟨rfl, rfl⟩)
theorem map_up {ad : Nat → Nat} {f : Nat → Nat → Int} {a k : Nat} {n : Int} {fs : List Nat} {q : Nat} (hq : mFld fs k = some q) : fs.mapIdx (fun j z => cF ad (mUp f a k n a j) z) = (fs.mapIdx (fun j z => cF ad (f a j) z)).set k (cF ad n q) := by
  rw [mFld_eq] at hq
  apply List.ext_getElem?
  intro j
  rw [List.getElem?_set]
  simp only [List.getElem?_mapIdx, List.length_mapIdx]
  by_cases h : k = j
  · subst h
    rw [if_pos rfl, if_pos (List.getElem?_eq_some_iff.mp hq).1, hq]
    simp [mUp]
  · rw [if_neg h]
    cases fs[j]? with
    | none => rfl
    | some z =>
      have h' : ¬ j = k := fun e => h e.symm
      simp [mUp, h']
theorem map_ref {ad : Nat → Nat} {f : Nat → Int} {k r : Nat} {fs : List Nat} (hk : k < fs.length) : (fs.set k (r + 4)).mapIdx (fun j z => cF ad (f j) z) = (fs.mapIdx (fun j z => cF ad (f j) z)).set k (.ref (ad r)) := by
  apply List.ext_getElem?
  intro j
  rw [List.getElem?_set]
  simp only [List.getElem?_mapIdx, List.length_mapIdx, List.getElem?_set]
  by_cases h : k = j
  · subst h
    rw [if_pos rfl, if_pos rfl, if_pos hk, if_pos hk]
    rfl
  · rw [if_neg h, if_neg h]
theorem mFld_lt {fs : List Nat} {k q : Nat} (h : mFld fs k = some q) : k < fs.length := by
  rw [mFld_eq] at h; exact (List.getElem?_eq_some_iff.mp h).1
theorem okS_up {S : List mSh} {f g : Nat → Nat → Int} (h : okS (S, f, g)) {a k c : Nat} {fs : List Nat} {n : Int} {q : Nat} (ha : mNth S a = some (.inl (c, fs))) (hq : mFld fs k = some q) (hn : okF1 S.length n q) : okS (S, mUp f a k n, g) := by
  intro x sh hx
  have h1 := h x sh hx
  by_cases e : x = a
  · subst e
    have e2 : sh = .inl (c, fs) := Option.some.inj (hx.symm.trans ha)
    subst e2
    refine ⟨h1.1, h1.2.1, fun j z hj => ?_⟩
    have h2 := h1.2.2 j z hj
    by_cases ej : j = k
    · subst ej
      have e3 : z = q := Option.some.inj (hj.symm.trans hq)
      subst e3
      refine ⟨?_, h2.2⟩
      simpa [mUp] using hn
    · refine ⟨?_, h2.2⟩
      simpa [mUp, ej] using h2.1
  · have : mUp f a k n x = f x := by funext y; simp [mUp, e]
    show okSh S.length (mUp f a k n x) (g x) sh
    rw [this]
    exact h1
theorem okS_ref {S : List mSh} {f g : Nat → Nat → Int} (h : okS (S, f, g)) {a k c r : Nat} {fs : List Nat} {q : Nat} (ha : mNth S a = some (.inl (c, fs))) (hq : mFld fs k = some q) (hr : r < S.length) (h3 : 3 ≤ q) : okS (S.set a (.inl (c, fs.set k (r + 4))), f, g) := by
  intro x sh hx
  rw [mNth_eq] at hx
  simp only [List.getElem?_set] at hx
  show okSh (S.set a (.inl (c, fs.set k (r + 4)))).length (f x) (g x) sh
  rw [List.length_set]
  by_cases e : a = x
  · subst e
    rw [if_pos rfl, if_pos (mNth_lt ha)] at hx
    cases hx
    have h1 := h a _ ha
    refine ⟨h1.1, by rw [List.length_set]; exact h1.2.1, fun j z hj => ?_⟩
    rw [mFld_eq, List.getElem?_set] at hj
    by_cases ej : k = j
    · subst ej
      rw [if_pos rfl, if_pos (mFld_lt hq)] at hj
      cases hj
      refine ⟨hr, ?_⟩
      have h4 := (h1.2.2 k q hq).2
      revert h4
      cases mTy c k <;> intro h4 <;> simp only [kTy] at h4 ⊢ <;> omega
    · rw [if_neg ej] at hj
      exact h1.2.2 j z (by rw [mFld_eq]; exact hj)
  · rw [if_neg e] at hx
    exact h x sh (by rw [mNth_eq]; exact hx)
theorem okS_el {S : List mSh} {f g : Nat → Nat → Int} (h : okS (S, f, g)) {a j t len : Nat} {rs : List Nat} {n : Int} (ha : mNth S a = some (.inr (t, len, rs))) (hn : (t ≠ 1 → r32 n) ∧ (t = 1 → r64 n)) : okS (S, f, mUp g a j n) := by
  intro x sh hx
  have h1 := h x sh hx
  by_cases e : x = a
  · subst e
    have e2 : sh = .inr (t, len, rs) := Option.some.inj (hx.symm.trans ha)
    subst e2
    refine ⟨h1.1, h1.2.1, h1.2.2.1, fun ht i => ?_, fun ht i => ?_, h1.2.2.2.2.2⟩
    · by_cases ei : i = j
      · subst ei; simpa [mUp] using hn.1 ht.1
      · simpa [mUp, ei] using h1.2.2.2.1 ht i
    · by_cases ei : i = j
      · subst ei; simpa [mUp] using hn.2 ht
      · simpa [mUp, ei] using h1.2.2.2.2.1 ht i
  · have : mUp g a j n x = g x := by funext y; simp [mUp, e]
    show okSh S.length (f x) (mUp g a j n x) sh
    rw [this]
    exact h1
theorem okS_cp {S : List mSh} {f g : Nat → Nat → Int} (h : okS (S, f, g)) {a d na nd sp dp n : Nat} {ra rd : List Nat} (ha : mNth S a = some (.inr (0, na, ra))) (hd : mNth S d = some (.inr (0, nd, rd))) : okS (S, f, mCp g a sp d dp n) := by
  intro x sh hx
  have h1 := h x sh hx
  by_cases e : x = d
  · subst e
    have e2 : sh = .inr (0, nd, rd) := Option.some.inj (hx.symm.trans hd)
    subst e2
    refine ⟨h1.1, h1.2.1, h1.2.2.1, fun ht i => ?_, fun ht => absurd ht (by decide), h1.2.2.2.2.2⟩
    show r32 (mCp g a sp x dp n x i)
    unfold mCp
    rw [if_pos rfl]
    split
    · exact (h a _ ha).2.2.2.1 (by decide) _
    · exact h1.2.2.2.1 ht i
  · have : mCp g a sp d dp n x = g x := by funext y; simp [mCp, e]
    show okSh S.length (f x) (mCp g a sp d dp n x) sh
    rw [this]
    exact h1
theorem e_upd {g : Nat → Nat → Int} {a : Nat} {i v : Int} (hi : r32 i) : (fun j => Int32.ofInt (mUp g a i.toNat v a j)) = upd (fun j => Int32.ofInt (g a j)) (Int32.ofInt i).toNatClampNeg (Int32.ofInt v) := by
  funext j
  rw [cl_of hi]
  unfold mUp upd
  rw [if_pos rfl]
  split <;> rfl
theorem e_updL {g : Nat → Nat → Int} {a : Nat} {i v : Int} (hi : r32 i) : (fun j => Int64.ofInt (mUp g a i.toNat v a j)) = vp_updL (fun j => Int64.ofInt (g a j)) (Int32.ofInt i).toNatClampNeg (Int64.ofInt v) := by
  funext j
  rw [cl_of hi]
  unfold mUp vp_updL
  rw [if_pos rfl]
  split <;> rfl
theorem up_else {g : Nat → Nat → Int} {a j : Nat} {n : Int} {i : Nat} (h : i ≠ a) : mUp g a j n i = g i := by funext y; simp [mUp, h]

section SIMB
variable {p : Program} {l : Launch} {e : Env} {R : Room} {s : State} {m : MethodId} {args : Array Value} {below : List Frame} {meth : Method} {c : Code} {Qf : State → Prop}
variable {D : va_G} {cA : Nat → ClassId} {kd : Nat → Value} {h0 n0 nL : Nat} {ad0 : Nat → Nat} {cc : ByteArray} {pc : Nat} {L : mL} {r st : List mV} {sg : mS} {b : mB}


abbrev okS0 (s : mS) : Prop := okS s
theorem Rl.okS {ad : Nat → Nat} {H : Heap} {locs : List Loc} {cells slots : Nat} {ls : Array Slot} (h : Rl R s D cA kd h0 n0 ad0 nL L st sg b ad H locs cells slots ls) : okS sg := h.2.2.2.2.1
/-- the world changes, its cells stay -/
theorem Rl.world {ad : Nat → Nat} {H H1 : Heap} {locs locs1 : List Loc} {cells slots : Nat} {ls : Array Slot} {st' : List mV} {sg' : mS} (h : Rl R s D cA kd h0 n0 ad0 nL L st sg b ad H locs cells slots ls) (hn : sg'.1.length = sg.1.length) (hP : va_P D mCls (cW ad cA sg') H1) (hD : va_D (AA h0) (cW ad cA sg')) (hS : va_S (AA h0) s.heap H1 locs1) (ho : okS0 sg') (h' : ∀ v ∈ st', okV sg.1.length v) : Rl R s D cA kd h0 n0 ad0 nL L st' sg' b ad H1 locs1 cells slots ls :=
  ⟨hP, hD, hS, h.2.2.2.1, ho, by rw [hn]; exact h.2.2.2.2.2.1, by rw [hn]; exact h', h.2.2.2.2.2.2.2.1, by rw [hn]; exact h.2.2.2.2.2.2.2.2⟩
theorem sm_getfield (hx : p.tables.exec = Jvm.exec) (hb : c.code = cc) (hts : ∀ w ∈ gt, w.before args s = true) (hK : va_K D mCls (mTys cA) s) (hk0 : kd 0 = .null) {own : String} (hown : s.vm.findClass own = some m.cls) {a k ci idx q : Nat} {fs : List Nat} (hci : ci ≤ 12) (hk : k < (mClsOf ci).2.2) (hl : (Cond.fieldLink own idx ((mClsOf ci).2.1 k).1 ((mClsOf ci).2.1 k).2.1 ((mClsOf ci).2.1 k).2.2.1).before args s = true) (hdg : decode cc pc = .ok (.getfield idx, 3)) (hs : mNth sg.1 a = some (.inl (ci, fs))) (hq : mFld fs k = some q) (h : Sim p l e R s m args below meth c Qf D cA kd h0 n0 ad0 nL (pc + 3) L (mFldOf q (sg.2.1 a k) :: r) sg b) : Sim p l e R s m args below meth c Qf D cA kd h0 n0 ad0 nL pc L (vR a :: r) sg b := by
  intro ad H locs cells slots ls hR
  obtain ⟨oa, ok⟩ := List.forall_mem_cons.mp hR.ok
  have hci' : ci < 13 := by omega
  refine va_get (v := cF ad (sg.2.1 a k) q) hx hb hts (cls_in ci hci') hown hK hR.1 a (cW_at hs) (cls_at ci hci') k hk hl (fun _ h => h) (by rw [List.getElem?_mapIdx, ← mFld_eq, hq]; rfl) hdg ?_
  have h1 := h ad H locs cells slots ls (hR.st' (List.forall_mem_cons.mpr ⟨okV_fld ((hR.okS a _ hs).2.2 k q hq).1, ok⟩))
  rw [List.map_cons, cV_fld hk0] at h1
  exact h1
theorem sm_put (hx : p.tables.exec = Jvm.exec) (hb : c.code = cc) (hts : ∀ w ∈ gt, w.before args s = true) (hK : va_K D mCls (mTys cA) s) {own : String} (hown : s.vm.findClass own = some m.cls) {a k ci idx q : Nat} {fs : List Nat} {n : Int} {v : mV} (hv : v = mFldOf q n) (hci : ci ≤ 12) (hk : k < (mClsOf ci).2.2) (hl : (Cond.fieldLink own idx ((mClsOf ci).2.1 k).1 ((mClsOf ci).2.1 k).2.1 ((mClsOf ci).2.1 k).2.2.1).before args s = true) (hfin : (((mClsOf ci).2.1 k).2.2.2 = true) → meth.name = "<init>" ∧ ((mClsOf ci).2.1 k).1 = own) (hdg : decode cc pc = .ok (.putfield idx, 3)) (hs : mNth sg.1 a = some (.inl (ci, fs))) (hq : mFld fs k = some q) (hq3 : q < 3) (hz : q = 2 → n = 0 ∨ n = 1) (h : Sim p l e R s m args below meth c Qf D cA kd h0 n0 ad0 nL (pc + 3) L r (sg.1, mUp sg.2.1 a k n, sg.2.2) b) : Sim p l e R s m args below meth c Qf D cA kd h0 n0 ad0 nL pc L (v :: vR a :: r) sg b := by
  intro ad H locs cells slots ls hR
  obtain ⟨ov, ok⟩ := List.forall_mem_cons.mp hR.ok
  obtain ⟨oa, ok⟩ := List.forall_mem_cons.mp ok
  have hci' : ci < 13 := by omega
  have hok := hR.okS a _ hs
  have hcv : cV ad kd v = cF ad n q := by
    subst hv
    rcases q with _ | _ | _ | q
    · rfl
    · rfl
    · rfl
    · omega
  have hkt := (hok.2.2 k q hq).2
  obtain ⟨p1, p2⟩ := put_ok (ad := ad) (x := n) hkt hz (by omega)
  have hon : okF1 sg.1.length n q := by
    subst hv
    rcases q with _ | _ | _ | q
    · exact ov
    · exact ov
    · exact ov
    · omega
  have hset : (cW ad cA sg).set a (ad a, .inr (ci, (fs.mapIdx (fun j z => cF ad (sg.2.1 a j) z)).set k (cF ad n q))) = cW ad cA (sg.1, mUp sg.2.1 a k n, sg.2.2) :=
    cW_set rfl hs (by rw [← map_up (a := a) hq]; rfl) (fun i hi => ⟨rfl, up_else hi, rfl⟩)
  have key : ∀ (H1 : Heap) (locs1 : List Loc), va_P D mCls ((cW ad cA sg).set a (ad a, .inr (ci, (fs.mapIdx (fun j z => cF ad (sg.2.1 a j) z)).set k (cF ad n q)))) H1 → va_D (AA h0) ((cW ad cA sg).set a (ad a, .inr (ci, (fs.mapIdx (fun j z => cF ad (sg.2.1 a j) z)).set k (cF ad n q)))) → va_S (AA h0) s.heap H1 locs1 → W p l e R s m args below meth c H1 locs1 cells slots Qf (F0 m (pc + 3) ls (r.map (cV ad kd))) := by
    intro H1 locs1 g1 g2 g3
    rw [hset] at g1 g2
    exact h ad H1 locs1 cells slots ls (hR.world rfl g1 g2 g3 (okS_up hR.okS hs hq hon) ok)
  rw [List.map_cons, hcv]
  cases hf : ((mClsOf ci).2.1 k).2.2.2 with
  | false => exact va_put hx hb hts (cls_in ci hci') (mTy ci) (cls_ty ci hci') (cls_nm ci hci') hown hK hR.1 hR.2.1 hR.2.2.1 a (cW_at hs) (cls_at ci hci') k hk hl (fun _ h => h) hf (cls_ty ci hci' k hk) p1 p2 (by rw [List.length_mapIdx]; exact mFld_lt hq) hdg key
  | true => exact va_putF hx hb hts (cls_in ci hci') (mTy ci) (cls_ty ci hci') (cls_nm ci hci') hown hK hR.1 hR.2.1 hR.2.2.1 a (cW_at hs) (cls_at ci hci') k hk hl (fun _ h => h) hf (hfin hf).1 (hfin hf).2 (cls_ty ci hci' k hk) p1 p2 (by rw [List.length_mapIdx]; exact mFld_lt hq) hdg key
theorem sm_putR (hx : p.tables.exec = Jvm.exec) (hb : c.code = cc) (hts : ∀ w ∈ gt, w.before args s = true) (hK : va_K D mCls (mTys cA) s) {own : String} (hown : s.vm.findClass own = some m.cls) {a k ci idx q z : Nat} {fs : List Nat} (hci : ci ≤ 12) (hk : k < (mClsOf ci).2.2) (hl : (Cond.fieldLink own idx ((mClsOf ci).2.1 k).1 ((mClsOf ci).2.1 k).2.1 ((mClsOf ci).2.1 k).2.2.1).before args s = true) (hfin : (((mClsOf ci).2.1 k).2.2.2 = true) → meth.name = "<init>" ∧ ((mClsOf ci).2.1 k).1 = own) (hdg : decode cc pc = .ok (.putfield idx, 3)) (hs : mNth sg.1 a = some (.inl (ci, fs))) (hq : mFld fs k = some q) (hq3 : 3 ≤ q) (h : Sim p l e R s m args below meth c Qf D cA kd h0 n0 ad0 nL (pc + 3) L r (sg.1.set a (.inl (ci, fs.set k (z + 4))), sg.2.1, sg.2.2) b) : Sim p l e R s m args below meth c Qf D cA kd h0 n0 ad0 nL pc L (vR z :: vR a :: r) sg b := by
  intro ad H locs cells slots ls hR
  obtain ⟨ov, ok⟩ := List.forall_mem_cons.mp hR.ok
  obtain ⟨oa, ok⟩ := List.forall_mem_cons.mp ok
  have hci' : ci < 13 := by omega
  have hok := hR.okS a _ hs
  have hkt := (hok.2.2 k q hq).2
  have hkt2 : kTy (mTy ci k) (z + 4) := by
    revert hkt
    cases mTy ci k <;> intro hkt <;> simp only [kTy] at hkt ⊢ <;> omega
  obtain ⟨p1, p2⟩ := put_ok (ad := ad) (x := 0) hkt2 (by omega) (by omega)
  have hset : (cW ad cA sg).set a (ad a, .inr (ci, (fs.mapIdx (fun j z => cF ad (sg.2.1 a j) z)).set k (.ref (ad z)))) = cW ad cA (sg.1.set a (.inl (ci, fs.set k (z + 4))), sg.2.1, sg.2.2) :=
    cW_set (by simp) (by rw [mNth_eq, List.getElem?_set_self (mNth_lt hs)]) (by rw [← map_ref (mFld_lt hq)]; rfl) (fun i hi => ⟨List.getElem?_set_ne (fun e => hi e.symm), rfl, rfl⟩)
  have key : ∀ (H1 : Heap) (locs1 : List Loc), va_P D mCls ((cW ad cA sg).set a (ad a, .inr (ci, (fs.mapIdx (fun j z => cF ad (sg.2.1 a j) z)).set k (.ref (ad z))))) H1 → va_D (AA h0) ((cW ad cA sg).set a (ad a, .inr (ci, (fs.mapIdx (fun j z => cF ad (sg.2.1 a j) z)).set k (.ref (ad z))))) → va_S (AA h0) s.heap H1 locs1 → W p l e R s m args below meth c H1 locs1 cells slots Qf (F0 m (pc + 3) ls (r.map (cV ad kd))) := by
    intro H1 locs1 g1 g2 g3
    rw [hset] at g1 g2
    exact h ad H1 locs1 cells slots ls (hR.world (by simp) g1 g2 g3 (okS_ref hR.okS hs hq ov hq3) ok)
  cases hf : ((mClsOf ci).2.1 k).2.2.2 with
  | false => exact va_put hx hb hts (cls_in ci hci') (mTy ci) (cls_ty ci hci') (cls_nm ci hci') hown hK hR.1 hR.2.1 hR.2.2.1 a (cW_at hs) (cls_at ci hci') k hk hl (fun _ h => h) hf (cls_ty ci hci' k hk) p1 p2 (by rw [List.length_mapIdx]; exact mFld_lt hq) hdg key
  | true => exact va_putF hx hb hts (cls_in ci hci') (mTy ci) (cls_ty ci hci') (cls_nm ci hci') hown hK hR.1 hR.2.1 hR.2.2.1 a (cW_at hs) (cls_at ci hci') k hk hl (fun _ h => h) hf (hfin hf).1 (hfin hf).2 (cls_ty ci hci' k hk) p1 p2 (by rw [List.length_mapIdx]; exact mFld_lt hq) hdg key

theorem sm_iaload (hx : p.tables.exec = Jvm.exec) (hb : c.code = cc) (hK : va_K D mCls (mTys cA) s) {a n : Nat} {rs : List Nat} {i : Int} (hdg : decode cc pc = .ok (.iaload, 1)) (hs : mNth sg.1 a = some (.inr (0, n, rs))) (h : mInA i n ∧ Sim p l e R s m args below meth c Qf D cA kd h0 n0 ad0 nL (pc + 1) L (vI (sg.2.2 a i.toNat) :: r) sg b) : Sim p l e R s m args below meth c Qf D cA kd h0 n0 ad0 nL pc L (vI i :: vR a :: r) sg b := by
  intro ad H locs cells slots ls hR
  obtain ⟨oi, ok⟩ := List.forall_mem_cons.mp hR.ok
  obtain ⟨oa, ok⟩ := List.forall_mem_cons.mp ok
  refine va_iald hx hb hK hR.1 a 0 (cW_at hs) rfl (vin_of oi h.1) hdg ?_
  have h1 := h.2 ad H locs cells slots ls (hR.st' (List.forall_mem_cons.mpr ⟨(hR.okS a _ hs).2.2.2.1 (by decide) _, ok⟩))
  rw [cl_of oi]
  exact h1

theorem sm_baloadB (hx : p.tables.exec = Jvm.exec) (hb : c.code = cc) (hK : va_K D mCls (mTys cA) s) {a n : Nat} {rs : List Nat} {i : Int} (hdg : decode cc pc = .ok (.baload, 1)) (hs : mNth sg.1 a = some (.inr (2, n, rs))) (h : mInA i n ∧ Sim p l e R s m args below meth c Qf D cA kd h0 n0 ad0 nL (pc + 1) L (vI (sg.2.2 a i.toNat) :: r) sg b) : Sim p l e R s m args below meth c Qf D cA kd h0 n0 ad0 nL pc L (vI i :: vR a :: r) sg b := by
  intro ad H locs cells slots ls hR
  obtain ⟨oi, ok⟩ := List.forall_mem_cons.mp hR.ok
  obtain ⟨oa, ok⟩ := List.forall_mem_cons.mp ok
  refine va_bald hx hb hK hR.1 a 2 (cW_at hs) rfl (vin_of oi h.1) hdg ?_
  have h1 := h.2 ad H locs cells slots ls (hR.st' (List.forall_mem_cons.mpr ⟨(hR.okS a _ hs).2.2.2.1 (by decide) _, ok⟩))
  rw [cl_of oi]
  exact h1

theorem sm_baloadZ (hx : p.tables.exec = Jvm.exec) (hb : c.code = cc) (hK : va_K D mCls (mTys cA) s) {a n : Nat} {rs : List Nat} {i : Int} (hdg : decode cc pc = .ok (.baload, 1)) (hs : mNth sg.1 a = some (.inr (3, n, rs))) (h : mInA i n ∧ Sim p l e R s m args below meth c Qf D cA kd h0 n0 ad0 nL (pc + 1) L (vI (sg.2.2 a i.toNat) :: r) sg b) : Sim p l e R s m args below meth c Qf D cA kd h0 n0 ad0 nL pc L (vI i :: vR a :: r) sg b := by
  intro ad H locs cells slots ls hR
  obtain ⟨oi, ok⟩ := List.forall_mem_cons.mp hR.ok
  obtain ⟨oa, ok⟩ := List.forall_mem_cons.mp ok
  refine va_zald hx hb hK hR.1 a 3 (cW_at hs) rfl (vin_of oi h.1) hdg ?_
  have h1 := h.2 ad H locs cells slots ls (hR.st' (List.forall_mem_cons.mpr ⟨(hR.okS a _ hs).2.2.2.1 (by decide) _, ok⟩))
  rw [cl_of oi]
  exact h1

theorem sm_laload (hx : p.tables.exec = Jvm.exec) (hb : c.code = cc) (hK : va_K D mCls (mTys cA) s) {a n : Nat} {rs : List Nat} {i : Int} (hdg : decode cc pc = .ok (.laload, 1)) (hs : mNth sg.1 a = some (.inr (1, n, rs))) (h : mInA i n ∧ Sim p l e R s m args below meth c Qf D cA kd h0 n0 ad0 nL (pc + 1) L (vL (sg.2.2 a i.toNat) :: r) sg b) : Sim p l e R s m args below meth c Qf D cA kd h0 n0 ad0 nL pc L (vI i :: vR a :: r) sg b := by
  intro ad H locs cells slots ls hR
  obtain ⟨oi, ok⟩ := List.forall_mem_cons.mp hR.ok
  obtain ⟨oa, ok⟩ := List.forall_mem_cons.mp ok
  refine va_lald hx hb hK hR.1 a 1 (cW_at hs) rfl (vin_of oi h.1) hdg ?_
  have h1 := h.2 ad H locs cells slots ls (hR.st' (List.forall_mem_cons.mpr ⟨(hR.okS a _ hs).2.2.2.2.1 rfl _, ok⟩))
  rw [cl_of oi]
  exact h1

theorem sm_iastore (hx : p.tables.exec = Jvm.exec) (hb : c.code = cc) (hK : va_K D mCls (mTys cA) s) {a n : Nat} {rs : List Nat} {i v : Int} (hdg : decode cc pc = .ok (.iastore, 1)) (hs : mNth sg.1 a = some (.inr (0, n, rs))) (h : mInA i n ∧ Sim p l e R s m args below meth c Qf D cA kd h0 n0 ad0 nL (pc + 1) L r (sg.1, sg.2.1, mUp sg.2.2 a i.toNat (v)) b) : Sim p l e R s m args below meth c Qf D cA kd h0 n0 ad0 nL pc L (vI v :: vI i :: vR a :: r) sg b := by
  intro ad H locs cells slots ls hR
  obtain ⟨ov, ok⟩ := List.forall_mem_cons.mp hR.ok
  obtain ⟨oi, ok⟩ := List.forall_mem_cons.mp ok
  obtain ⟨oa, ok⟩ := List.forall_mem_cons.mp ok
  have hset : (cW ad cA sg).set a (ad a, .inl (cA 0, n, .inl (upd (fun j => Int32.ofInt (sg.2.2 a j)) (Int32.ofInt i).toNatClampNeg (Int32.ofInt v)))) = cW ad cA (sg.1, sg.2.1, mUp sg.2.2 a i.toNat (v)) :=
    cW_set rfl hs (by rw [← e_upd oi]; rfl) (fun q hq => ⟨rfl, rfl, up_else hq⟩)
  refine va_iast hx hb hK hR.1 hR.2.1 hR.2.2.1 a 0 (cW_at hs) rfl (vin_of oi h.1) hdg (fun H1 locs1 g1 g2 g3 => ?_)
  rw [hset] at g1 g2
  exact h.2 ad H1 locs1 cells slots ls (hR.world rfl g1 g2 g3 (okS_el hR.okS hs ⟨fun _ => ov, fun q => absurd q (by decide)⟩) ok)

theorem sm_lastore (hx : p.tables.exec = Jvm.exec) (hb : c.code = cc) (hK : va_K D mCls (mTys cA) s) {a n : Nat} {rs : List Nat} {i v : Int} (hdg : decode cc pc = .ok (.lastore, 1)) (hs : mNth sg.1 a = some (.inr (1, n, rs))) (h : mInA i n ∧ Sim p l e R s m args below meth c Qf D cA kd h0 n0 ad0 nL (pc + 1) L r (sg.1, sg.2.1, mUp sg.2.2 a i.toNat (v)) b) : Sim p l e R s m args below meth c Qf D cA kd h0 n0 ad0 nL pc L (vL v :: vI i :: vR a :: r) sg b := by
  intro ad H locs cells slots ls hR
  obtain ⟨ov, ok⟩ := List.forall_mem_cons.mp hR.ok
  obtain ⟨oi, ok⟩ := List.forall_mem_cons.mp ok
  obtain ⟨oa, ok⟩ := List.forall_mem_cons.mp ok
  have hset : (cW ad cA sg).set a (ad a, .inl (cA 1, n, .inr (.inl (vp_updL (fun j => Int64.ofInt (sg.2.2 a j)) (Int32.ofInt i).toNatClampNeg (Int64.ofInt v))))) = cW ad cA (sg.1, sg.2.1, mUp sg.2.2 a i.toNat (v)) :=
    cW_set rfl hs (by rw [← e_updL oi]; rfl) (fun q hq => ⟨rfl, rfl, up_else hq⟩)
  refine va_last hx hb hK hR.1 hR.2.1 hR.2.2.1 a 1 (cW_at hs) rfl (vin_of oi h.1) hdg (fun H1 locs1 g1 g2 g3 => ?_)
  rw [hset] at g1 g2
  exact h.2 ad H1 locs1 cells slots ls (hR.world rfl g1 g2 g3 (okS_el hR.okS hs ⟨fun q => absurd rfl q, fun _ => ov⟩) ok)

theorem sm_bastoreB (hx : p.tables.exec = Jvm.exec) (hb : c.code = cc) (hK : va_K D mCls (mTys cA) s) {a n : Nat} {rs : List Nat} {i v : Int} (hdg : decode cc pc = .ok (.bastore, 1)) (hs : mNth sg.1 a = some (.inr (2, n, rs))) (h : mInA i n ∧ Sim p l e R s m args below meth c Qf D cA kd h0 n0 ad0 nL (pc + 1) L r (sg.1, sg.2.1, mUp sg.2.2 a i.toNat (iB v)) b) : Sim p l e R s m args below meth c Qf D cA kd h0 n0 ad0 nL pc L (vI v :: vI i :: vR a :: r) sg b := by
  intro ad H locs cells slots ls hR
  obtain ⟨ov, ok⟩ := List.forall_mem_cons.mp hR.ok
  obtain ⟨oi, ok⟩ := List.forall_mem_cons.mp ok
  obtain ⟨oa, ok⟩ := List.forall_mem_cons.mp ok
  have hset : (cW ad cA sg).set a (ad a, .inl (cA 2, n, .inl (upd (fun j => Int32.ofInt (sg.2.2 a j)) (Int32.ofInt i).toNatClampNeg (vp_nar .byte (Int32.ofInt v))))) = cW ad cA (sg.1, sg.2.1, mUp sg.2.2 a i.toNat (iB v)) :=
    cW_set rfl hs (by rw [vp_nar_byte, ← of_i32 (Int32.ofInt v).toInt8.toInt32, ← e_upd oi]; rfl) (fun q hq => ⟨rfl, rfl, up_else hq⟩)
  refine va_bast hx hb hK hR.1 hR.2.1 hR.2.2.1 a 2 (cW_at hs) rfl (vin_of oi h.1) hdg (fun H1 locs1 g1 g2 g3 => ?_)
  rw [hset] at g1 g2
  exact h.2 ad H1 locs1 cells slots ls (hR.world rfl g1 g2 g3 (okS_el hR.okS hs ⟨fun _ => i32_r _, fun q => absurd q (by decide)⟩) ok)

theorem sm_bastoreZ (hx : p.tables.exec = Jvm.exec) (hb : c.code = cc) (hK : va_K D mCls (mTys cA) s) {a n : Nat} {rs : List Nat} {i v : Int} (hdg : decode cc pc = .ok (.bastore, 1)) (hs : mNth sg.1 a = some (.inr (3, n, rs))) (h : mInA i n ∧ (v = 0 ∨ v = 1) ∧ Sim p l e R s m args below meth c Qf D cA kd h0 n0 ad0 nL (pc + 1) L r (sg.1, sg.2.1, mUp sg.2.2 a i.toNat (v)) b) : Sim p l e R s m args below meth c Qf D cA kd h0 n0 ad0 nL pc L (vI v :: vI i :: vR a :: r) sg b := by
  intro ad H locs cells slots ls hR
  obtain ⟨ov, ok⟩ := List.forall_mem_cons.mp hR.ok
  obtain ⟨oi, ok⟩ := List.forall_mem_cons.mp ok
  obtain ⟨oa, ok⟩ := List.forall_mem_cons.mp ok
  have hset : (cW ad cA sg).set a (ad a, .inl (cA 3, n, .inl (upd (fun j => Int32.ofInt (sg.2.2 a j)) (Int32.ofInt i).toNatClampNeg (vp_nar .boolean (Int32.ofInt v))))) = cW ad cA (sg.1, sg.2.1, mUp sg.2.2 a i.toNat (v)) :=
    cW_set rfl hs (by rw [show vp_nar .boolean (Int32.ofInt v) = Int32.ofInt v by rcases h.2.1 with rfl | rfl <;> decide, ← e_upd oi]; rfl) (fun q hq => ⟨rfl, rfl, up_else hq⟩)
  refine va_zast hx hb hK hR.1 hR.2.1 hR.2.2.1 a 3 (cW_at hs) rfl (vin_of oi h.1) hdg (fun H1 locs1 g1 g2 g3 => ?_)
  rw [hset] at g1 g2
  exact h.2.2 ad H1 locs1 cells slots ls (hR.world rfl g1 g2 g3 (okS_el hR.okS hs ⟨fun _ => ov, fun q => absurd q (by decide)⟩) ok)


theorem sm_alen (hx : p.tables.exec = Jvm.exec) (hb : c.code = cc) (hK : va_K D mCls (mTys cA) s) {a t n : Nat} {rs : List Nat} (hdg : decode cc pc = .ok (.arraylength, 1)) (hs : mNth sg.1 a = some (.inr (t, n, rs))) (h : Sim p l e R s m args below meth c Qf D cA kd h0 n0 ad0 nL (pc + 1) L (vI (n : Int) :: r) sg b) : Sim p l e R s m args below meth c Qf D cA kd h0 n0 ad0 nL pc L (vR a :: r) sg b := by
  intro ad H locs cells slots ls hR
  obtain ⟨oa, ok⟩ := List.forall_mem_cons.mp hR.ok
  have hok := hR.okS a _ hs
  have hn : r32 (n : Int) := by have := hok.2.1; unfold r32; omega
  have h1 := h ad H locs cells slots ls (hR.st' (List.forall_mem_cons.mpr ⟨hn, ok⟩))
  have e1 : Int32.ofNat n = Int32.ofInt (n : Int) := by rw [Int32.ofInt_eq_ofNat]
  rcases t with _ | _ | _ | _ | _ | t
  · exact va_alen hx hb hK hR.1 a 0 (cW_at hs) rfl e1 hdg h1
  · exact va_alen hx hb hK hR.1 a 1 (cW_at hs) rfl e1 hdg h1
  · exact va_alen hx hb hK hR.1 a 2 (cW_at hs) rfl e1 hdg h1
  · exact va_alen hx hb hK hR.1 a 3 (cW_at hs) rfl e1 hdg h1
  · exact va_alen hx hb hK hR.1 a 4 (cW_at hs) rfl e1 hdg h1
  · exact absurd hok.1 (by omega)
theorem cQ_fld {ad : Nat → Nat} {kd : Nat → Value} (h0 : kd 0 = .null) {q : Nat} (h : 3 ≤ q) : va_rf (cQ ad (some q)) = cV ad kd (mFldOf q 0) := by
  rcases q with _ | _ | _ | _ | q
  · omega
  · omega
  · omega
  · exact h0.symm
  · rfl
theorem sm_aaload (hx : p.tables.exec = Jvm.exec) (hb : c.code = cc) (hK : va_K D mCls (mTys cA) s) (hk0 : kd 0 = .null) {a n q : Nat} {rs : List Nat} {i : Int} (hdg : decode cc pc = .ok (.aaload, 1)) (hs : mNth sg.1 a = some (.inr (4, n, rs))) (hi : mInA i n) (hq : mFld rs i.toNat = some q) (h : Sim p l e R s m args below meth c Qf D cA kd h0 n0 ad0 nL (pc + 1) L (mFldOf q 0 :: r) sg b) : Sim p l e R s m args below meth c Qf D cA kd h0 n0 ad0 nL pc L (vI i :: vR a :: r) sg b := by
  intro ad H locs cells slots ls hR
  obtain ⟨oi, ok⟩ := List.forall_mem_cons.mp hR.ok
  obtain ⟨oa, ok⟩ := List.forall_mem_cons.mp ok
  obtain ⟨q3, qr⟩ := (hR.okS a _ hs).2.2.1 rfl _ q hq
  have hv : okV sg.1.length (mFldOf q 0) := by
    rcases q with _ | _ | _ | _ | q
    · omega
    · omega
    · omega
    · trivial
    · exact qr q rfl
  refine va_aldq hx hb hK hR.1 a 4 (cW_at hs) rfl (vin_of oi hi) hdg ?_
  have h1 := h ad H locs cells slots ls (hR.st' (List.forall_mem_cons.mpr ⟨hv, ok⟩))
  rw [List.map_cons, ← cQ_fld (ad := ad) hk0 q3, ← hq] at h1
  rw [cl_of oi]
  exact h1
theorem okS_aref {S : List mSh} {f g : Nat → Nat → Int} (h : okS (S, f, g)) {a n i v : Nat} {rs : List Nat} (ha : mNth S a = some (.inr (4, n, rs))) (hv : v < S.length) : okS (S.set a (.inr (4, n, rs.set i (v + 4))), f, g) := by
  intro x sh hx
  rw [mNth_eq] at hx
  simp only [List.getElem?_set] at hx
  show okSh (S.set a _).length (f x) (g x) sh
  rw [List.length_set]
  by_cases e : a = x
  · subst e
    rw [if_pos rfl, if_pos (mNth_lt ha)] at hx
    cases hx
    have h1 := h a _ ha
    refine ⟨h1.1, h1.2.1, fun _ j z hj => ?_, h1.2.2.2.1, h1.2.2.2.2.1, fun _ => by rw [List.length_set]; exact h1.2.2.2.2.2 rfl⟩
    rw [mFld_eq, List.getElem?_set] at hj
    by_cases ej : i = j
    · rw [if_pos ej] at hj
      split at hj
      · cases hj
        exact ⟨by omega, fun r hr => by omega⟩
      · cases hj
    · rw [if_neg ej] at hj
      exact h1.2.2.1 rfl j z (by rw [mFld_eq]; exact hj)
  · rw [if_neg e] at hx
    exact h x sh (by rw [mNth_eq]; exact hx)
theorem sm_aastore (hx : p.tables.exec = Jvm.exec) (hb : c.code = cc) (hK : va_K D mCls (mTys cA) s) {a n v : Nat} {rs vs : List Nat} {i : Int} (hdg : decode cc pc = .ok (.aastore, 1)) (hs : mNth sg.1 a = some (.inr (4, n, rs))) (hrs : i.toNat < rs.length) (hi : mInA i n) (hv : mNth sg.1 v = some (.inl (7, vs))) (h : Sim p l e R s m args below meth c Qf D cA kd h0 n0 ad0 nL (pc + 1) L r (sg.1.set a (.inr (4, n, rs.set i.toNat (v + 4))), sg.2.1, sg.2.2) b) : Sim p l e R s m args below meth c Qf D cA kd h0 n0 ad0 nL pc L (vR v :: vI i :: vR a :: r) sg b := by
  intro ad H locs cells slots ls hR
  obtain ⟨ov, ok⟩ := List.forall_mem_cons.mp hR.ok
  obtain ⟨oi, ok⟩ := List.forall_mem_cons.mp ok
  obtain ⟨oa, ok⟩ := List.forall_mem_cons.mp ok
  have hfe : (fun j => cQ ad (mFld (rs.set i.toNat (v + 4)) j)) = va_up (fun j => cQ ad (mFld rs j)) (Int32.ofInt i).toNatClampNeg (some (ad v)) := by
    funext j
    rw [cl_of oi]
    unfold va_up
    rw [mFld_eq, List.getElem?_set]
    by_cases e : i.toNat = j
    · rw [if_pos e, if_pos hrs, if_pos e.symm]; rfl
    · rw [if_neg e, if_neg (fun q => e q.symm)]
      show _ = cQ ad (mFld rs j)
      rw [mFld_eq]
  have hset : (cW ad cA sg).set a (ad a, .inl (cA 4, n, .inr (.inr (.inr (.inr (va_up (fun j => cQ ad (mFld rs j)) (Int32.ofInt i).toNatClampNeg (some (ad v)))))))) = cW ad cA (sg.1.set a (.inr (4, n, rs.set i.toNat (v + 4))), sg.2.1, sg.2.2) :=
    cW_set (by simp) (by rw [mNth_eq, List.getElem?_set_self (mNth_lt hs)]) (by rw [← hfe]; rfl) (fun q hq => ⟨List.getElem?_set_ne (fun e => hq e.symm), rfl, rfl⟩)
  refine va_astq (r := mClsOf 7) hx hb hK hR.1 hR.2.1 hR.2.2.1 a 4 v 7 (cW_at hs) rfl (cW_at hv) (cls_at 7 (by omega)) (vin_of oi hi) hdg (fun H1 locs1 g1 g2 g3 => ?_)
  rw [hset] at g1 g2
  exact h ad H1 locs1 cells slots ls (hR.world (by simp) g1 g2 g3 (okS_aref hR.okS hs ov) ok)

end SIMB
