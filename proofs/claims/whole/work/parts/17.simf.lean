/-! The small machine in the real one: calls, and all instructions together -/

theorem look1_ok {mi : Nat} : ∀ (l : List (Nat × mOp)) (pc : Nat), l.all (fun o => okOp mi o.1 o.2) = true → mLook1 l pc = (.nop, 0, 0, 0) ∨ okOp mi pc (mLook1 l pc) = true
  | [], _, _ => Or.inl rfl
  | (q, o) :: t, pc, h => by
    simp only [List.all_cons, Bool.and_eq_true] at h
    unfold mLook1
    cases hc : Nat.beq q pc with
    | true =>
      have e : q = pc := Nat.eq_of_beq_eq_true hc
      subst e
      exact Or.inr h.1
    | false => exact look1_ok t pc h.2
theorem look_ok {mi : Nat} : ∀ (l : List (Nat × List (Nat × mOp))) (pc : Nat), l.all (fun q => q.2.all (fun o => okOp mi o.1 o.2)) = true → mLook l pc = (.nop, 0, 0, 0) ∨ okOp mi pc (mLook l pc) = true
  | [], _, _ => Or.inl rfl
  | (q, c) :: t, pc, h => by
    simp only [List.all_cons, Bool.and_eq_true] at h
    unfold mLook
    cases hc : Nat.ble pc q with
    | true => exact look1_ok c pc h.1
    | false => exact look_ok t pc h.2
def mRk : Nat → Option mV → Prop
  | 0, r => r = none
  | 1, r => ∃ n, r = some (vI n)
  | 2, r => ∃ n, r = some (vL n)
  | _, _ => False
def mRm (d : Nat) (b : mB) : Room := { frames := d, cells := b.1, slots := b.2, locals := 300 * d }
def mWs (mi : Nat) : List Cond := .code (mMet mi).1 (mMet mi).2.1 (mInf mi).1 (mMet mi).2.2 :: gt
def mPc (D : va_G) (cA : Nat → ClassId) (kd : Nat → Value) (kA : mKA) (h0 : Nat) (av : List mV) (sg : mS) (ad : Nat → Nat) : Array Value → State → Prop := fun v U =>
  v = (av.map (cV ad kd)).toArray ∧ h0 ≤ U.heap.size ∧ va_P D mCls (cW ad cA sg) U.heap ∧ va_D (AA h0) (cW ad cA sg) ∧ va_K D mCls (mTys cA) U ∧ KC kA kd h0 U
def mEnd (D : va_G) (cA : Nat → ClassId) (kd : Nat → Value) (h0 : Nat) (sg : mS) (ad : Nat → Nat) (r : Option mV) (sg' : mS) (ad' : Nat → Nat) (t : State) : Prop :=
  (∀ v, r = some v → okV sg'.1.length v) ∧ okS sg' ∧ sg.1.length ≤ sg'.1.length ∧ (∀ i, i < sg.1.length → ad' i = ad i) ∧ va_P D mCls (cW ad' cA sg') t.heap ∧ va_D (AA h0) (cW ad' cA sg')
def mQc (D : va_G) (cA : Nat → ClassId) (kd : Nat → Value) (h0 mi : Nat) (sg : mS) (ad : Nat → Nat) (Q : Option mV → mS → Prop) : Array Value → State → Outcome → State → Prop := fun _ st oc t =>
  (∃ (r : Option mV) (sg' : mS) (ad' : Nat → Nat), oc = .returned (r.map (cV ad' kd)) ∧ mRk (mInf mi).2.1 r ∧ Q r sg' ∧ mEnd D cA kd h0 sg ad r sg' ad' t) ∧ va_F (AA h0) st t
theorem mPc_blind {D : va_G} {cA : Nat → ClassId} {kd : Nat → Value} {kA : mKA} {h0 : Nat} {av : List mV} {sg : mS} {ad : Nat → Nat} : FrameBlind (mPc D cA kd kA h0 av sg ad) := by
  intro a U g mk q
  obtain ⟨q1, q2, q3, q4, q5, q6⟩ := q
  exact ⟨q1, q2, q3, q4, va_K.moved (u := U) (U := U.calling g mk a) (Vm.Alike.refl U.vm) q5, KC.go (s := U) (U := U.calling g mk a) (State.WarmedH.refl U) (fun _ _ _ => rfl) q6⟩
/-- every method's contract, with calls up to d deep -/
def mAll (l : Launch) (D : va_G) (cA : Nat → ClassId) (kd : Nat → Value) (kA : mKA) (pr : mPr) (h0 d : Nat) : Prop :=
  ∀ (mi : Nat) (av : List mV) (sg : mS) (b : mB) (Q : Option mV → mS → Prop), okCallee mi = true → mCats av ≤ (mInf mi).1 → goD kA pr d mi 0 (mEnt av (mInf mi).1) [] sg b Q → okS sg → (∀ v ∈ av, okV sg.1.length v) → ∀ ad, Met l (mMet mi).1 (mWs mi) (mRm d b) (mPc D cA kd kA h0 av sg ad) (mQc D cA kd h0 mi sg ad Q) b.1 b.2 (AA h0)
theorem take_spec : ∀ {n : Nat} {st acc as rest : List mV}, mTake n st acc = some (as, rest) → ∃ l, l.length = n ∧ st = l ++ rest ∧ as = l.reverse ++ acc
  | 0, st, acc, as, rest, h => by
    simp [mTake] at h
    exact ⟨[], rfl, by simp [h.2], by simp [h.1]⟩
  | n + 1, [], acc, as, rest, h => by simp [mTake] at h
  | n + 1, v :: st, acc, as, rest, h => by
    obtain ⟨l, h1, h2, h3⟩ := take_spec (n := n) (st := st) (acc := v :: acc) (by simpa [mTake] using h)
    exact ⟨v :: l, by simp [h1], by simp [h2], by simp [h3]⟩
theorem callee_spec {mi : Nat} (h : okCallee mi = true) : Cond.code (mMet mi).1 (mMet mi).2.1 (mInf mi).1 (mMet mi).2.2 ∈ gt ∧ (bif mIsS mi then Cond.static (mMet mi).1 else .instanceMethod (mMet mi).1) ∈ gt ∧ Cond.initialized (mMet mi).1.cls ∈ gt ∧ (mMet mi).1.cls ≠ "java/lang/invoke/MethodHandle" ∧ (mMet mi).1.cls ≠ "java/lang/invoke/VarHandle" ∧ plainFor (mMet mi).1 = true ∧ (mInf mi).1 ≤ 40 ∧ (match (mMet mi).2.2 with | none => Nat.beq (mInf mi).2.1 0 | some .int => Nat.beq (mInf mi).2.1 1 | some .boolean => Nat.beq (mInf mi).2.1 1 | some .char => Nat.beq (mInf mi).2.1 1 | some .byte => Nat.beq (mInf mi).2.1 1 | _ => false) = true ∧ (Nat.beq (mInf mi).2.2 30 || (Nat.beq (mInf mi).2.2 20 && decide ((mMet mi).1.cls = "java/lang/String")) || (Nat.ble (mInf mi).2.2 12 && decide ((mMet mi).1.cls = (mClsOf (mInf mi).2.2).1))) = true := by
  unfold okCallee at h
  rw [Bool.and_eq_true, Bool.and_eq_true, Bool.and_eq_true, Bool.and_eq_true, Bool.and_eq_true, Bool.and_eq_true, Bool.and_eq_true, Bool.and_eq_true] at h
  obtain ⟨⟨⟨⟨⟨⟨⟨⟨h1, h2⟩, h3⟩, h4⟩, h5⟩, h6⟩, h7⟩, h8⟩, h9⟩ := h
  exact ⟨tb_mem h1, tb_mem h2, tb_mem h3, of_decide_eq_true h4, of_decide_eq_true h5, h6, Nat.le_of_ble_eq_true h7, h8, h9⟩

section SIMB
variable {p : Program} {l : Launch} {e : Env} {R : Room} {s : State} {m : MethodId} {args : Array Value} {below : List Frame} {meth : Method} {c : Code} {Qf : State → Prop}
variable {D : va_G} {cA : Nat → ClassId} {kd : Nat → Value} {h0 n0 nL : Nat} {ad0 : Nat → Nat} {pc : Nat} {L : mL} {r st : List mV} {sg : mS} {b : mB}


variable {kA : mKA} {pr : mPr} {d mi : Nat}
def Fr (p : Program) (R : Room) (s : State) (m : MethodId) (args : Array Value) (meth : Method) (c : Code) (D : va_G) (cA : Nat → ClassId) (kd : Nat → Value) (kA : mKA) (h0 d mi : Nat) : Prop :=
  p.tables.exec = Jvm.exec ∧ c.code = (mMet mi).2.1 ∧ c.maxLocals = (mInf mi).1 ∧ s.vm.findClass (mMet mi).1.cls = some m.cls ∧ (∀ w ∈ gt, w.before args s = true) ∧ va_K D mCls (mTys cA) s ∧ KC kA kd h0 s ∧ h0 ≤ s.heap.size ∧ ((mMet mi).1.name = "<init>" → meth.name = "<init>") ∧ (d + 1 ≤ R.frames ∧ 300 * (d + 1) ≤ R.locals)
/-- behind a call -/
theorem va_callG {ad : Nat → Nat} {H : Heap} {locs : List Loc} {cells slots mk : Nat} {ls : Array Slot} {rest : List Value} {st0 : List Value} {bb : mB} {Q : Option mV → mS → Prop} {a : Array Value}
    (hr : va_Run p l e R s m args below meth c H locs cells slots bb.1 bb.2 (F0 m pc ls st0) rest (mQc D cA kd h0 mk sg ad Q a) (AA h0)) (hS : va_S (AA h0) s.heap H locs)
    (kk : ∀ (r : Option mV) (sg' : mS) (ad' : Nat → Nat) (t : State) (locs1 : List Loc), mRk (mInf mk).2.1 r → Q r sg' → mEnd D cA kd h0 sg ad r sg' ad' t → va_S (AA h0) s.heap t.heap locs1 → W p l e R s m args below meth c t.heap locs1 (cells + bb.1) (slots + bb.2) Qf (F0 m (pc + 3) ls ((r.map (cV ad' kd)).toList ++ rest))) : W p l e R s m args below meth c H locs cells slots Qf (F0 m pc ls st0) := by
  intro T hT X
  obtain ⟨v, st₀, t, T', L, h0', X', hL, e1, e2, ⟨⟨r, sg', ad', hv, hk, hq, he⟩, hz, hkp⟩, stp⟩ := hr T hT X
  cases hv
  rw [h0'] at hz hkp
  have hS' : va_S (AA h0) s.heap t.heap (locs ++ L) := ⟨Nat.le_trans hS.1 hz, fun q h1 h2 => by
      rw [hkp q (Nat.lt_of_lt_of_le h1 hS.1) h2]; exact hS.2.1 q h1 h2, fun q hq => by
      rcases List.mem_append.mp hq with h | h
      · exact hS.2.2 q h
      · exact hL q h⟩
  obtain ⟨t2, a1, b1⟩ := kk r sg' ad' t (locs ++ L) hk hq he hS' T' e1 X'
  exact ⟨t2, stp t2 a1, b1⟩
theorem Rl.back {ad ad' : Nat → Nat} {H : Heap} {locs locs1 : List Loc} {cells slots : Nat} {ls : Array Slot} {rest v : List mV} {r0 : Option mV} {sg' : mS} {t : State} {mc ms : Nat} (h : Rl R s D cA kd h0 n0 ad0 nL L st sg b ad H locs cells slots ls) (hok : ∀ v ∈ rest, okV sg.1.length v) (he : mEnd D cA kd h0 sg ad r0 sg' ad' t) (hv : ∀ z ∈ v, r0 = some z) (hS : va_S (AA h0) s.heap t.heap locs1) (hm : mc ≤ b.1 ∧ ms ≤ b.2) : Rl R s D cA kd h0 n0 ad0 nL L (v ++ rest) sg' (b.1 - mc, b.2 - ms) ad' t.heap locs1 (cells + mc) (slots + ms) ls := by
  obtain ⟨e1, e2, e3, e4, e5, e6⟩ := he
  have hup : ∀ v, okV sg.1.length v → okV sg'.1.length v := fun v hv => by
    rcases v with z | z | z | z
    · exact hv
    · exact hv
    · exact Nat.lt_of_lt_of_le hv e3
    · trivial
  refine ⟨e5, e6, hS, ⟨h.lv.1, h.lv.2.1, fun i w hw => ?_⟩, e2, fun i w hw => hup w (h.okl i w hw), ?_, ?_, Nat.le_trans h.2.2.2.2.2.2.2.2.1 e3, fun i hi => ?_⟩
  · rw [cV_ext e4 (h.okl i w hw)]; exact h.lv.2.2 i w hw
  · intro w hw
    rcases List.mem_append.mp hw with h1 | h1
    · exact e1 w (hv w h1)
    · exact hup w (hok w h1)
  · have := h.room
    show cells + mc + (b.1 - mc) ≤ R.cells ∧ slots + ms + (b.2 - ms) ≤ R.slots
    omega
  · rw [e4 i (Nat.lt_of_lt_of_le hi h.2.2.2.2.2.2.2.2.1)]
    exact h.2.2.2.2.2.2.2.2.2 i hi
theorem ans_use {k : Nat} {r0 : Option mV} {K : List mV → Prop} (hk : mRk k r0) (h : mAns k r0 K) : ∃ v, K v ∧ (∀ z ∈ v, r0 = some z) ∧ ∀ f : mV → Value, v.map f = (r0.map f).toList := by
  match k, hk, h with
  | 0, hk, h =>
    simp only [mRk] at hk
    subst hk
    exact ⟨[], h, by simp, fun _ => rfl⟩
  | 1, hk, h =>
    obtain ⟨n, rfl⟩ := hk
    exact ⟨[vI n], h, by simp, fun _ => rfl⟩
  | 2, hk, h =>
    obtain ⟨n, rfl⟩ := hk
    exact ⟨[vL n], h, by simp, fun _ => rfl⟩
  | k + 3, hk, h => exact hk.elim
/-- a call that runs goes on -/
theorem sm_after {ad : Nat → Nat} {H : Heap} {locs : List Loc} {cells slots mk mc ms : Nat} {ls : Array Slot} {rest : List mV} {st0 : List Value} {a : Array Value} (hR : Rl R s D cA kd h0 n0 ad0 nL L st sg b ad H locs cells slots ls) (hok : ∀ v ∈ rest, okV sg.1.length v) (hm : mc ≤ b.1 ∧ ms ≤ b.2)
    (hr : va_Run p l e R s m args below meth c H locs cells slots mc ms (F0 m pc ls st0) (rest.map (cV ad kd)) (mQc D cA kd h0 mk sg ad (fun r s' => mAns (mInf mk).2.1 r (fun v => Sim p l e R s m args below meth c Qf D cA kd h0 n0 ad0 nL (pc + 3) L (v ++ rest) s' (b.1 - mc, b.2 - ms))) a) (AA h0)) : W p l e R s m args below meth c H locs cells slots Qf (F0 m pc ls st0) := by
  refine va_callG (bb := (mc, ms)) hr hR.S (fun r sg' ad' t locs1 hk hq he hS => ?_)
  obtain ⟨v, hv, h1, h2⟩ := ans_use hk hq
  have h3 := hv ad' t.heap locs1 (cells + mc) (slots + ms) ls (hR.back hok he h1 hS hm)
  rw [List.map_append, h2, cVs_ext he.2.2.2.1 hok] at h3
  exact h3
theorem okParS {k n : Nat} (h : okPar k n = true) : ∀ sig, parseMethodDescriptor (mMet k).1.desc = some sig → n = sig.parameters.length := by
  intro sig hs
  have h1 := of_decide_eq_true h
  rw [hs] at h1
  exact (Option.some.inj h1).symm
/-- a callee's words in a caller -/
theorem mCallB {k n idx mc ms : Nat} (F : Fr p R s m args meth c D cA kd kA h0 d mi) (hc : okCallee k = true) (hp : okPar k n = true) (hl : (Cond.methodLink (mMet mi).1.cls idx (mMet k).1).before args s = true) : CallB R s args (mMet mi).1.cls idx (mMet k).1 (mMet k).2.1 (mInf k).1 (mMet k).2.2 (mWs k) (mRm d (mc, ms)) mc ms n := by
  obtain ⟨hx, hb, hml, hown, hts, hK, hC, hh, hin, hRm⟩ := F
  obtain ⟨c1, c2, c3, c4, c5, c6, c7, -⟩ := callee_spec hc
  refine ⟨rfl, rfl, hRm.1, ?_, ?_, List.mem_cons_self, hts _ c1, hts _ c3, ⟨c4, c5⟩, okParS hp, hl⟩
  · show 8 + ((mInf k).1 + 11) + 300 * d ≤ R.locals
    omega
  · exact pay_in hts (fun w hw => by
      rcases List.mem_cons.mp hw with rfl | hw
      · exact gt_good _ c1
      · exact gt_good _ hw)
theorem mCallN {k n idx mc ms : Nat} {host : String} (F : Fr p R s m args meth c D cA kd kA h0 d mi) (hc : okCallee k = true) (hp : okPar k n = true) (hl : (Cond.methodLinkNest (mMet mi).1.cls idx (mMet k).1 host).before args s = true) : va_CN R s args (mMet mi).1.cls idx (mMet k).1 host (mMet k).2.1 (mInf k).1 (mMet k).2.2 (mWs k) (mRm d (mc, ms)) mc ms n := by
  obtain ⟨hx, hb, hml, hown, hts, hK, hC, hh, hin, hRm⟩ := F
  obtain ⟨c1, c2, c3, c4, c5, c6, c7, -⟩ := callee_spec hc
  refine ⟨⟨rfl, rfl, hRm.1, ?_, ?_, List.mem_cons_self⟩, hts _ c1, hts _ c3, ⟨c4, c5⟩, okParS hp, hl⟩
  · show 8 + ((mInf k).1 + 11) + 300 * d ≤ R.locals
    omega
  · exact pay_in hts (fun w hw => by
      rcases List.mem_cons.mp hw with rfl | hw
      · exact gt_good _ c1
      · exact gt_good _ hw)
theorem mPre {ad : Nat → Nat} {H : Heap} {locs : List Loc} {cells slots : Nat} {ls : Array Slot} {av : List mV} (F : Fr p R s m args meth c D cA kd kA h0 d mi) (hR : Rl R s D cA kd h0 n0 ad0 nL L st sg b ad H locs cells slots ls) : ∀ U : State, U.heap = H → s.WarmedH U.vm → mPc D cA kd kA h0 av sg ad (av.map (cV ad kd)).toArray U := by
  obtain ⟨hx, hb, hml, hown, hts, hK, hC, hh, hin, hRm⟩ := F
  intro U hU hW
  refine ⟨rfl, by rw [hU]; exact Nat.le_trans hh hR.S.1, by rw [hU]; exact hR.1, hR.2.1, va_K.moved hW.alike hK, KC.go hW (fun q h1 h2 => by rw [hU]; exact hR.S.2.1 q h1 h2) hC⟩
theorem sm_static {k n idx : Nat} {av rest : List mV} (F : Fr p R s m args meth c D cA kd kA h0 d mi) (hnL : nL = (mInf mi).1) (IH : mAll l D cA kd kA pr h0 d) (hc : okCallee k = true) (hs : mIsS k = true) (hp : okPar k n = true) (hl : (Cond.methodLink (mMet mi).1.cls idx (mMet k).1).before args s = true ∨ ∃ host, (Cond.methodLinkNest (mMet mi).1.cls idx (mMet k).1 host).before args s = true) (hcat : mCats rest ≤ 8) (hav : mCats av ≤ (mInf k).1) (hn : av.length = n) (hst : st = av.reverse ++ rest) (hdg : decode (mMet mi).2.1 pc = .ok (.invokestatic idx, 3)) (h : ∃ mc ms : Nat, mc ≤ b.1 ∧ ms ≤ b.2 ∧ goD kA pr d k 0 (mEnt av (mInf k).1) [] sg (mc, ms) (fun r s' => mAns (mInf k).2.1 r (fun v => Sim p l e R s m args below meth c Qf D cA kd h0 n0 ad0 nL (pc + 3) L (v ++ rest) s' (b.1 - mc, b.2 - ms)))) : Sim p l e R s m args below meth c Qf D cA kd h0 n0 ad0 nL pc L st sg b := by
  intro ad H locs cells slots ls hR
  obtain ⟨mc, ms, m1, m2, hg⟩ := h
  have ok := hR.ok
  rw [hst] at ok
  have oka : ∀ v ∈ av, okV sg.1.length v := fun v hv => ok v (List.mem_append_left _ (List.mem_reverse.mpr hv))
  have okr : ∀ v ∈ rest, okV sg.1.length v := fun v hv => ok v (List.mem_append_right _ hv)
  have hM := IH k av sg (mc, ms) _ hc hav hg hR.okS oka ad
  have F' := F
  obtain ⟨hx, hb, hml, hown, hts, hK, hC, hh, hin, hRm⟩ := F
  have hstat : (Cond.static (mMet k).1).before args s = true := hts _ (by have := (callee_spec hc).2.1; rw [hs] at this; exact this)
  have hW : 2 * (F0 m pc ls (st.map (cV ad kd))).monitorRoom + ((rest.map (cV ad kd)).map fun v => v.category).sum ≤ 8 := by
    show 2 * 0 + _ ≤ 8
    rw [cats_eq hC.cat]; omega
  have hroom := hR.room
  have hS0 : CallFix p m c (mMet mi).2.1 (mInf mi).1 s args gt (mMet mi).1.cls := ⟨hx, hb, hml, hown, hts⟩
  have hstk : (F0 m pc ls (st.map (cV ad kd))).stack = (av.map (cV ad kd)).reverse ++ rest.map (cV ad kd) := by
    show st.map (cV ad kd) = _
    rw [hst, List.map_append, List.map_reverse]
  refine sm_after (mk := k) hR okr ⟨m1, m2⟩ (a := (av.map (cV ad kd)).toArray) ?_
  rcases hl with hl | ⟨host, hl⟩
  · exact va_runS hS0 hM ⟨mCallB F' hc hp hl, hstat⟩ ⟨mPc_blind, mPre F' hR⟩ rfl (by rw [List.length_map]; exact hn) (by rw [← hnL]; exact hR.lv.1) hstk hW hdg ⟨by omega, by omega⟩
  · exact va_runSN hS0 hM ⟨mCallN F' hc hp hl, hstat, trivial⟩ ⟨mPc_blind, mPre F' hR⟩ rfl (by rw [List.length_map]; exact hn) (by rw [← hnL]; exact hR.lv.1) hstk hW hdg ⟨by omega, by omega⟩
theorem sm_init {k n idx a : Nat} {av rest : List mV} (F : Fr p R s m args meth c D cA kd kA h0 d mi) (hnL : nL = (mInf mi).1) (IH : mAll l D cA kd kA pr h0 d) (hc : okCallee k = true) (hs : mIsS k = false) (hi : (mMet k).1.name = "<init>") (hr0 : (mMet k).2.2 = none) (hp : okPar k n = true) (hl : (Cond.methodLink (mMet mi).1.cls idx (mMet k).1).before args s = true ∨ ∃ host, (Cond.methodLinkNest (mMet mi).1.cls idx (mMet k).1 host).before args s = true) (hcat : mCats rest ≤ 8) (hav : mCats (vR a :: av) ≤ (mInf k).1) (hn : av.length = n) (hst : st = av.reverse ++ vR a :: rest) (hdg : decode (mMet mi).2.1 pc = .ok (.invokespecial idx, 3)) (h : ∃ mc ms : Nat, mc ≤ b.1 ∧ ms ≤ b.2 ∧ goD kA pr d k 0 (mEnt (vR a :: av) (mInf k).1) [] sg (mc, ms) (fun r s' => mAns (mInf k).2.1 r (fun v => Sim p l e R s m args below meth c Qf D cA kd h0 n0 ad0 nL (pc + 3) L (v ++ rest) s' (b.1 - mc, b.2 - ms)))) : Sim p l e R s m args below meth c Qf D cA kd h0 n0 ad0 nL pc L st sg b := by
  intro ad H locs cells slots ls hR
  obtain ⟨mc, ms, m1, m2, hg⟩ := h
  have ok := hR.ok
  rw [hst] at ok
  have oka : ∀ v ∈ vR a :: av, okV sg.1.length v := fun v hv => by
    rcases List.mem_cons.mp hv with rfl | hv
    · exact ok _ (List.mem_append_right _ List.mem_cons_self)
    · exact ok v (List.mem_append_left _ (List.mem_reverse.mpr hv))
  have okr : ∀ v ∈ rest, okV sg.1.length v := fun v hv => ok v (List.mem_append_right _ (List.mem_cons_of_mem _ hv))
  have hM := IH k (vR a :: av) sg (mc, ms) _ hc hav hg hR.okS oka ad
  have F' := F
  obtain ⟨hx, hb, hml, hown, hts, hK, hC, hh, hin, hRm⟩ := F
  have hinst : (Cond.instanceMethod (mMet k).1).before args s = true := hts _ (by have := (callee_spec hc).2.1; rw [hs] at this; exact this)
  have hW : 2 * (F0 m pc ls (st.map (cV ad kd))).monitorRoom + ((rest.map (cV ad kd)).map fun v => v.category).sum ≤ 8 := by
    show 2 * 0 + _ ≤ 8
    rw [cats_eq hC.cat]; omega
  have hroom := hR.room
  have hS0 : CallFix p m c (mMet mi).2.1 (mInf mi).1 s args gt (mMet mi).1.cls := ⟨hx, hb, hml, hown, hts⟩
  have hstk : (F0 m pc ls (st.map (cV ad kd))).stack = (av.map (cV ad kd)).reverse ++ .ref (ad a) :: rest.map (cV ad kd) := by
    show st.map (cV ad kd) = _
    rw [hst, List.map_append, List.map_reverse]
    rfl
  refine sm_after (mk := k) hR okr ⟨m1, m2⟩ (a := ((vR a :: av).map (cV ad kd)).toArray) ?_
  rcases hl with hl | ⟨host, hl⟩
  · have hB := mCallB (mc := mc) (ms := ms) F' hc hp hl
    rw [hr0] at hB
    exact va_runI hS0 hM ⟨hB, hi, hinst⟩ ⟨mPc_blind, mPre F' hR⟩ rfl (by rw [List.length_map]; exact hn) (by rw [← hnL]; exact hR.lv.1) hstk hW hdg ⟨by omega, by omega⟩
  · have hB := mCallN (mc := mc) (ms := ms) F' hc hp hl
    rw [hr0] at hB
    exact va_runIN hS0 hM ⟨hB, hi, hinst⟩ ⟨mPc_blind, mPre F' hR⟩ rfl (by rw [List.length_map]; exact hn) (by rw [← hnL]; exact hR.lv.1) hstk hW hdg ⟨by omega, by omega⟩
theorem sm_virtual {k n idx : Nat} {rv : mV} {av rest : List mV} (F : Fr p R s m args meth c D cA kd kA h0 d mi) (hnL : nL = (mInf mi).1) (IH : mAll l D cA kd kA pr h0 d) (hc : okCallee k = true) (hs : mIsS k = false) (hp : okPar k n = true) (hl : (Cond.methodLink (mMet mi).1.cls idx (mMet k).1).before args s = true) (hsel : (Cond.selects (mMet k).1.cls (mMet k).1 (mMet k).1).before args s = true) (hrv : mRcv sg.1 (mInf k).2.2 rv = true) (hcat : mCats rest ≤ 8) (hav : mCats (rv :: av) ≤ (mInf k).1) (hn : av.length = n) (hst : st = av.reverse ++ rv :: rest) (hdg : decode (mMet mi).2.1 pc = .ok (.invokevirtual idx, 3)) (h : ∃ mc ms : Nat, mc ≤ b.1 ∧ ms ≤ b.2 ∧ goD kA pr d k 0 (mEnt (rv :: av) (mInf k).1) [] sg (mc, ms) (fun r s' => mAns (mInf k).2.1 r (fun v => Sim p l e R s m args below meth c Qf D cA kd h0 n0 ad0 nL (pc + 3) L (v ++ rest) s' (b.1 - mc, b.2 - ms)))) : Sim p l e R s m args below meth c Qf D cA kd h0 n0 ad0 nL pc L st sg b := by
  intro ad H locs cells slots ls hR
  obtain ⟨mc, ms, m1, m2, hg⟩ := h
  have ok := hR.ok
  rw [hst] at ok
  have oka : ∀ v ∈ rv :: av, okV sg.1.length v := fun v hv => by
    rcases List.mem_cons.mp hv with rfl | hv
    · exact ok _ (List.mem_append_right _ List.mem_cons_self)
    · exact ok v (List.mem_append_left _ (List.mem_reverse.mpr hv))
  have okr : ∀ v ∈ rest, okV sg.1.length v := fun v hv => ok v (List.mem_append_right _ (List.mem_cons_of_mem _ hv))
  have hM := IH k (rv :: av) sg (mc, ms) _ hc hav hg hR.okS oka ad
  have F' := F
  obtain ⟨hx, hb, hml, hown, hts, hK, hC, hh, hin, hRm⟩ := F
  obtain ⟨c1, c2, c3, c4, c5, c6, c7, c8, c9⟩ := callee_spec hc
  have hinst : (Cond.instanceMethod (mMet k).1).before args s = true := hts _ (by rw [hs] at c2; exact c2)
  -- the receiver
  have hrec : ∃ a, cV ad kd rv = .ref a ∧ ∃ cell : Cell, H[a]? = some cell ∧ cell.vm.isStatics = false ∧ s.vm.findClass (mMet k).1.cls = some cell.cls := by
    rcases rv with z | z | a | q
    · simp [mRcv] at hrv
    · simp [mRcv] at hrv
    · simp only [mRcv] at hrv
      cases hsh : mNth sg.1 a with
      | none => rw [hsh] at hrv; simp at hrv
      | some sh =>
        rw [hsh] at hrv
        rcases sh with ⟨ci, fs⟩ | z
        · have e : ci = (mInf k).2.2 := Nat.eq_of_beq_eq_true hrv
          have hci : ci ≤ 12 := (hR.okS a _ hsh).1
          subst e
          have hcls : (mMet k).1.cls = (mClsOf (mInf k).2.2).1 := by
            simp only [Bool.or_eq_true, Bool.and_eq_true, decide_eq_true_eq] at c9
            rcases c9 with (h1 | h1) | h1
            · have := Nat.eq_of_beq_eq_true h1; omega
            · have := Nat.eq_of_beq_eq_true h1.1; omega
            · exact h1.2
          rw [hcls]
          exact ⟨ad a, rfl, va_recv hK hR.1 (cls_at _ (by omega)) (cW_at hsh)⟩
        · simp at hrv
    · simp only [mRcv, Bool.and_eq_true, Bool.or_eq_true] at hrv
      have e20 : (mInf k).2.2 = 20 := Nat.eq_of_beq_eq_true hrv.1
      have hcls : (mMet k).1.cls = "java/lang/String" := by
        simp only [Bool.or_eq_true, Bool.and_eq_true, decide_eq_true_eq] at c9
        rcases c9 with (h1 | h1) | h1
        · have := Nat.eq_of_beq_eq_true h1; omega
        · exact h1.2
        · have := Nat.le_of_ble_eq_true h1.1; omega
      obtain ⟨a4, a5, e4, e5, q1, q2, q3, q4, -⟩ := hC.2.2.2.2.2.2.2.2.2.1
      have use : ∀ a, va_O "java/lang/String" a (AA h0) s s.heap → ∃ cell : Cell, H[a]? = some cell ∧ cell.vm.isStatics = false ∧ s.vm.findClass (mMet k).1.cls = some cell.cls := by
        intro a hO
        obtain ⟨cell, w1, w2, w3, w4⟩ := hO.kept hR.S.2.1
        exact ⟨cell, w1, w2, by rw [hcls]; exact w3⟩
      rcases hrv.2 with h1 | h1
      · have : q = 4 := Nat.eq_of_beq_eq_true h1
        subst this
        exact ⟨a4, e4, use a4 q3⟩
      · have : q = 5 := Nat.eq_of_beq_eq_true h1
        subst this
        exact ⟨a5, e5, use a5 q4⟩
  obtain ⟨a, ea, hcell⟩ := hrec
  have hW : 2 * (F0 m pc ls (st.map (cV ad kd))).monitorRoom + ((rest.map (cV ad kd)).map fun v => v.category).sum ≤ 8 := by
    show 2 * 0 + _ ≤ 8
    rw [cats_eq hC.cat]; omega
  have hroom := hR.room
  have hS0 : CallFix p m c (mMet mi).2.1 (mInf mi).1 s args gt (mMet mi).1.cls := ⟨hx, hb, hml, hown, hts⟩
  have hstk : (F0 m pc ls (st.map (cV ad kd))).stack = (av.map (cV ad kd)).reverse ++ .ref a :: rest.map (cV ad kd) := by
    show st.map (cV ad kd) = _
    rw [hst, List.map_append, List.map_reverse, List.map_cons, ea]
  have hpre := mPre (av := rv :: av) F' hR
  rw [List.map_cons, ea] at hpre
  refine sm_after (mk := k) hR okr ⟨m1, m2⟩ (a := (Value.ref a :: av.map (cV ad kd)).toArray) ?_
  exact va_runV hS0 hM ⟨mCallB F' hc hp hl, hinst, hsel⟩ ⟨mPc_blind, hcell, hpre⟩ rfl (by rw [List.length_map]; exact hn) (by rw [← hnL]; exact hR.lv.1) hstk hW hdg ⟨by omega, by omega⟩
end SIMB

