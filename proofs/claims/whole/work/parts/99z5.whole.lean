/-! THE CLAIM OUT OF ONE WALK OF THE LAW'S BODY. Your part is whole_start (and what it stands on); all else here is the same for every law, but numbers. -/
def lw_P (b : Addr) (xs : List Int32) (args : Array Value) (s : State) : Prop := args = #[.ref b] ∧ s.IntsAt b xs ∧ xs.length ≤ 3584 ∧ (Jvm.Cond.and given_1 narrow_1).before args s = true
def lw_Q (_ : Array Value) (s : State) (o : Outcome) (t : State) : Prop := o = .returned (some (.int 1)) ∧ Framed s o t [] 601024 7293034
def lw_Z (below : List Frame) (a : Array Value) (s : State) : State → Prop := fun t => ∃ o, t.status = .running ∧ Ended t below o ∧ lw_Q a s o t
/-- the law's own end, with 1 on the stack, nothing written that was there before, its room as the claim has it -/
theorem lw_ret {p : Program} {l : Launch} {e : Env} {s : State} {m : MethodId} {below : List Frame} {meth : Method} {c : Code} {b : Nat} (hx : p.tables.exec = Jvm.exec) (hb : c.code = code) (hr : meth.sig.returnType = ret) (hlocks : meth.locks = false) {pc : Nat} {H : Heap} {ls : Array Slot} (hdg : decode code pc = .ok (.ireturn, 1)) : W p l e room_1 s m #[Value.ref b] below meth c H [] 601024 7293034 (lw_Z below #[Value.ref b] s) (F0 m pc ls [.int 1]) := by
  intro T hT X
  obtain ⟨fs, hret, hrun, hended, hW, hframe⟩ := X.leave (v := some (.int 1)) (hlocks := hlocks) (fun h => by rw [hr] at h; cases h)
  have hmeth' : T.vm.method? m = some meth := X.method'
  refine ⟨T.setFrames fs, ?_, .returned (some (.int 1)), hrun, hended, rfl, ⟨_, rfl⟩, hW, hframe⟩
  jvm_step X.here [X.here.top, hx, hb, hdg, hmeth', hr, ret, narrow_b1]
  (try refine ⟨rfl, ?_⟩); (try refine ⟨rfl, ?_⟩)
  first | (intro acts; rw [hret _ acts rfl rfl rfl]) | rw [hret _ _ rfl rfl rfl]
  exact Steps.refl _
/-- what holds at the law's entry: the machine, the code, the tables' words (any of lw_tbl by 'hts w (by decide +kernel)'), the script of L ints xs at the cell b, what the Statement gives of the start (any of its parts by flat_of_before) -/
def lw_At (p : Program) (s : State) (m : MethodId) (meth : Method) (c : Code) (b L : Nat) (xs : Nat → Int32) : Prop :=
  p.tables.exec = Jvm.exec ∧ c.code = code ∧ meth.sig.returnType = ret ∧ c.maxLocals = 7 ∧ s.vm.findClass R_law = some m.cls ∧ (∀ w ∈ lw_tbl, w.before #[Value.ref b] s = true) ∧ va_X b L xs s s.heap ∧ b < s.heap.size ∧ meth.locks = false ∧ (Jvm.Cond.and given_1 narrow_1).before #[Value.ref b] s = true
theorem no_tr {l : Launch} (h : l.flags = flags0) : l.stackTraces = false := by
  unfold Launch.stackTraces
  rw [h]
  decide
theorem law_small {kx : Nat × (Nat → Int)} (hl : kx.1 ≤ 3584) (hs : ∀ j, r32 (kx.2 j)) (σ α : Nat → Nat → Int) : goD (kK kx) (prL kx) 91 237 0 [some (vK 3), none, none, none, none, none, none] [] ([], σ, α) (601024, 7293034) (fun r _ => r = some (vI 1)) :=
  law_start (X := XL kx) (d := 84) (Q := fun r _ => r = some (vI 1)) (fun σ' α' I => law_loop (d := 0) hl hs (fun _ _ => rfl) (kx.1 / 7) 0 σ' α' _ _ _ none none (Nat.zero_add _) I ⟨by show kx.1 / 7 ≤ 600896; omega, by show 6 * (kx.1 / 7) ≤ 7258622; omega⟩)
def opS (o : mOp) : Bool := !(Nat.beq o.2.1 1005) || decide (o.1 = .invokestatic 96)
theorem opS_all : (mOps 237).all (fun q => q.2.all (fun o => opS o.2)) = true := by decide +kernel
theorem look_op {mi pc : Nat} (h : (mOps mi).all (fun q => q.2.all (fun o => opS o.2)) = true) : opS (mLook (mOps mi) pc) = true := by
  have h1 : ∀ (l : List (Nat × mOp)), l.all (fun o => opS o.2) = true → opS (mLook1 l pc) = true := by
    intro l
    induction l with
    | nil => intro _; rfl
    | cons x t ih =>
      obtain ⟨q, o⟩ := x
      intro h
      simp only [List.all_cons, Bool.and_eq_true] at h
      unfold mLook1
      cases Nat.beq q pc with
      | true => exact h.1
      | false => exact ih h.2
  have h2 : ∀ (l : List (Nat × List (Nat × mOp))), l.all (fun q => q.2.all (fun o => opS o.2)) = true → opS (mLook l pc) = true := by
    intro l
    induction l with
    | nil => intro _; rfl
    | cons x t ih =>
      obtain ⟨q, c⟩ := x
      intro h
      simp only [List.all_cons, Bool.and_eq_true] at h
      unfold mLook
      cases Nat.ble pc q with
      | true => exact h1 c h.1
      | false => exact ih h.2
  exact h2 _ h
theorem bW4_in : ∀ w ∈ bW4, w ∈ lw_tbl := by decide +kernel
theorem st_KX {s : State} {b : Nat} (hts : ∀ w ∈ lw_tbl, w.before #[Value.ref b] s = true) (hgv : (Jvm.Cond.and given_1 narrow_1).before #[Value.ref b] s = true) : KX s.heap.size s := by
  have hf : ∀ w ∈ stW, w.before #[Value.ref b] s = true := flat_of_before _ hgv
  have hA : ∀ a : Nat, a < s.heap.size → ¬ AA s.heap.size a := fun a h => Nat.not_le.mpr h
  exact ⟨vx_Zqof (hts (.laysStatic Bundle.tN "UNASSIGNED_STACK" Bundle.steD) (by decide +kernel)) (hts (.initialized Bundle.tN) (by decide +kernel)) (hf (.isRef (.static Bundle.tN "UNASSIGNED_STACK" Bundle.steD)) (by decide +kernel)) hA, vx_Zqof (hts (.laysStatic Bundle.tN "SUPPRESSED_SENTINEL" Bundle.listD) (by decide +kernel)) (hts (.initialized Bundle.tN) (by decide +kernel)) (hf (.isRef (.static Bundle.tN "SUPPRESSED_SENTINEL" Bundle.listD)) (by decide +kernel)) hA, fun w hw => va_Nw.of (bW4_on w hw) (hts w (bW4_in w hw))⟩
theorem cwLs {R : Room} {s : State} {args : Array Value} (hts : ∀ w ∈ gt, w.before args s = true) (hf : 25 ≤ R.frames) (hlo : 8 + (4 + 11) + 7200 ≤ R.locals) : vx_CSW R s args (mMet 237).1.cls 96 yLs cLs 4 (some .int) [(0, 9, 12, 13)] wsLs (mRm 24 (1, 6)) 1 6 3 := by
  refine vx_cwSW 3 hts (fun w hw => ?_) rfl rfl rfl (by decide) ⟨hf, hlo⟩
  unfold va_wsS at hw
  rcases List.mem_append.mp hw with hw | hw
  · rcases List.mem_cons.mp hw with rfl | hw
    · exact gt_good _ ls_l9
    · rcases List.mem_cons.mp hw with rfl | hw
      · exact gt_good _ ls_st
      · rcases List.mem_cons.mp hw with rfl | hw
        · exact gt_good _ ls_in
        · cases hw
  · rcases List.mem_cons.mp hw with rfl | hw
    · exact gt_good _ ls_cw
    · exact gt_good _ hw
set_option maxHeartbeats 4000000 in
/-- from the entry, for every script of at most 3584 ints, the law comes to its end with true -/
theorem whole_start {p : Program} {e : Env} {s : State} {m : MethodId} {below : List Frame} {meth : Method} {c : Code} (l : Launch) (hl0 : l.stackTraces = false) {b L : Nat} {xs : Nat → Int32} (hL : L ≤ 3584) (C0 : lw_At p s m meth c b L xs) : W p l e room_1 s m #[Value.ref b] below meth c s.heap [] 0 0 (lw_Z below #[Value.ref b] s) (entryFrame m ([Value.ref b] : List Value).toArray 7) := by
  obtain ⟨hx, hb, hr, hml, hown, hts, hX, hbl, hlocks, hgv⟩ := C0
  obtain ⟨D, cA, hK⟩ := st_K hts
  obtain ⟨kd, hk3, hC⟩ := st_KC hL hts hX hgv
  have hKX := st_KX hts hgv
  have hg : ∀ w ∈ gt, w.before #[Value.ref b] s = true := fun w hw => hts w (List.mem_filter.mp hw).1
  have F : Fr p room_1 s m #[Value.ref b] meth c D cA kd (kK (L, fun j => (xs j).toInt)) s.heap.size 90 237 := ⟨hx, hb, hml, hown, hg, hK, hC, Nat.le_refl _, fun h => absurd h (by decide), ⟨by decide, by decide⟩⟩
  have run := law_small (kx := (L, fun j => (xs j).toInt)) hL (fun j => i32_r (xs j)) (fun _ _ => 0) (fun _ _ => 0)
  rw [goD_succ] at run
  have key := run (Sim p l e room_1 s m #[Value.ref b] below meth c (lw_Z below #[Value.ref b] s) D cA kd s.heap.size 0 (fun _ => 0) 7) (sim_step F rfl (okM_all 237 (by decide)) (all_met 90) ?_ ?_ ?_)
  · have hlv := lv_entry ([Value.ref b] : List Value) (n := 7) (Nat.le_of_ble_eq_true rfl)
    rw [lg_entry_eq]
    have hl1 : ∀ (i : Nat) (w : mV), mGet [some (vK 3), none, none, none, none, none, none] i = some w → i = 0 ∧ w = vK 3 := by
      intro i w hw
      match i, hw with
      | 0, hw => cases hw; exact ⟨rfl, rfl⟩
      | 1, hw => cases hw
      | 2, hw => cases hw
      | 3, hw => cases hw
      | 4, hw => cases hw
      | 5, hw => cases hw
      | 6, hw => cases hw
      | n + 7, hw => simp [mGet] at hw
    refine key (fun _ => 0) s.heap [] 0 0 _ ⟨fun k q h => ?_, ⟨fun i j p q h => ?_, fun k q h => ?_⟩, va_S.rf, ⟨hlv.1, hlv.2.1, fun i w hw => ?_⟩, fun a sh h => ?_, fun i w hw => ?_, (fun w hw => by cases hw), ⟨by decide, by decide⟩, Nat.le_refl _, fun _ _ => rfl⟩
    · simp [cW] at h
    · simp [cW] at h
    · simp [cW] at h
    · obtain ⟨rfl, rfl⟩ := hl1 i w hw
      show _ = some (Slot.val (kd 3))
      rw [hk3]
      exact hlv.2.2 (0, .ref b) List.mem_cons_self
    · simp [mNth] at h
    · obtain ⟨rfl, rfl⟩ := hl1 i w hw
      trivial
  · intro pc Lc av rest sg b' idx k n hlk hdg hcat st hst hcall ad' H locs cells slots ls hR
    have hidx : idx = 96 := by
      have h := look_op (mi := 237) (pc := pc) opS_all
      rw [hlk] at h
      have h2 : decide (Instr.invokestatic idx = .invokestatic 96) = true := h
      have h3 := of_decide_eq_true h2
      cases h3
      rfl
    subst hidx
    have hcall' : prL (L, fun j => (xs j).toInt) av sg b' (fun r s' b' => mAns (mInf 1005).2.1 r (fun v => Sim p l e room_1 s m #[Value.ref b] below meth c (lw_Z below #[Value.ref b] s) D cA kd s.heap.size 0 (fun _ => 0) 7 (pc + 3) Lc (v ++ rest) s' b')) := hcall
    obtain ⟨v, σ, α, e1, e2, hbb, q1, q2⟩ := hcall'
    subst e1
    subst e2
    subst hst
    have hv : r32 v := hR.ok (vI v) (List.mem_append_left _ (List.mem_reverse.mpr (List.mem_cons_of_mem _ List.mem_cons_self)))
    have okr : ∀ w ∈ rest, okV S0.length w := fun w hw => hR.ok w (List.mem_append_right _ hw)
    have hM := k_storm (D := D) (cA := cA) (kd := kd) (kA := kK (L, fun j => (xs j).toInt)) (h0 := s.heap.size) (ad := ad') hl0 hv hR.okS (Q := fun r s' => mAns (mInf 1005).2.1 r (fun v => Sim p l e room_1 s m #[Value.ref b] below meth c (lw_Z below #[Value.ref b] s) D cA kd s.heap.size 0 (fun _ => 0) 7 (pc + 3) Lc (v ++ rest) s' (b'.1 - 1, b'.2 - 6))) q1 q2
    have hro := hR.room
    refine sm_after (mk := 1005) (mc := 1) (ms := 6) hR okr hbb (a := ([vR 0, vI v, vR 127].map (cV ad' kd)).toArray) ?_
    refine vx_runSW (As := [vR 0, vI v, vR 127].map (cV ad' kd)) ⟨hx, hb, hml, hown, hg⟩ hM (cwLs hg (by decide) (by decide)) ⟨sPc_blind, fun U hU hW => ⟨mPre F hR U hU hW, KX.go hW (fun q z1 z2 => by rw [hU]; exact hR.S.2.1 q z1 z2) hKX⟩⟩ rfl rfl hR.lv.1 ?_ ?_ hdg ⟨by omega, by omega⟩
    · show ([vR 0, vI v, vR 127].reverse ++ rest).map (cV ad' kd) = _
      rw [List.map_append, List.map_reverse]
    · show 2 * 0 + _ ≤ 8
      rw [cats_eq hC.cat]; omega
  · intro pc Lc z sg b' ty hdg hty hn hq ad' H locs cells slots ls hR
    have hz : z = 1 := by
      have := Option.some.inj hq
      exact Sum.inl.inj this
    subst hz
    have hro1 : cells + b'.1 ≤ 601024 := hR.room.1
    have hro2 : slots + b'.2 ≤ 7293034 := hR.room.2
    refine va_forget hR.S.2.2 (W.widen (k := 601024) (n := 7293034) (by omega) (by omega) ?_)
    exact lw_ret hx hb hr hlocks hdg
  · intro pc Lc sg b' hdg hm hq
    exact absurd hm (by decide)
set_option maxHeartbeats 4000000 in
theorem lw_walk (l : Launch) (hl0 : l.stackTraces = false) (b : Addr) (xs : List Int32) : MetFree l x (headSpec (Jvm.Cond.code x code maxLocals ret :: tables_1) room_1) (lw_P b xs) (fun _ _ _ _ _ => True) lw_Q := by
  refine MetFree.of_bodyS (code := code) (maxLocals := maxLocals) (ret := ret) (by decide) ?_ ?_
  · intro args s m h hn
    obtain ⟨meth, c, h1, h2, h3, h4, h5, h6, -, -⟩ := Cond.code_spec hn (atoms_spec (ws := Jvm.Cond.code x code maxLocals ret :: tables_1) h _ List.mem_cons_self)
    exact ⟨meth, c, h1, h2, h3, h4, h5, h6⟩
  · intro p e s m args below meth c s₁ B hml0 hP _
    obtain ⟨rfl, hx, hbd, hgv⟩ := hP
    obtain ⟨scr, harrAt, hlist, hof, hsmall⟩ := hx
    obtain ⟨hcb, hkn, -, -⟩ := State.arrayAt?_spec harrAt
    have hown : s.vm.findClass R_law = some m.cls := findClass_of_methodNamed B.named
    have hts0 : ∀ c ∈ (Jvm.Cond.code x code maxLocals ret :: tables_1), c.before #[Value.ref b] s = true := atoms_spec (ws := Jvm.Cond.code x code maxLocals ret :: tables_1) B.pre
    have hts : ∀ w ∈ lw_tbl, w.before #[Value.ref b] s = true := k2_hts_sels lw_privs (fun w hw => hts0 w (List.mem_cons_of_mem _ hw)) lw_privs_ok
    have hml : c.maxLocals = 7 := B.maxLocals_eq (hts0 _ List.mem_cons_self)
    have X₀ : Stand p l e room_1 s m #[Value.ref b] below meth c s₁ [] 0 0 := Stand.of_body B
    have hh0 : s₁.heap = s.heap := by rw [B.state]; rfl
    have hsz : scr.slots.size = xs.length := by rw [← Array.length_toList, hlist, List.length_map]
    have hval : ∀ j : Nat, j < xs.length → scr.slots[j]? = some (.int (xs.getD j 0)) := fun j hj => by
      rw [← Array.getElem?_toList, hlist]
      simp [hj]
    have hbl : b < s.heap.size := (Array.getElem?_eq_some_iff.mp hcb).1
    have hX : va_X b xs.length (fun j => xs.getD j 0) s s.heap := ⟨scr, hcb, hof, hkn, hsz, hval⟩
    have K : W p l e room_1 s m #[Value.ref b] below meth c s₁.heap [] 0 0 (lw_Z below #[Value.ref b] s) (entryFrame m ([Value.ref b] : List Value).toArray 7) := by
      rw [hh0]
      exact whole_start l hl0 hbd ⟨B.exec, B.bytes, B.returns, hml, hown, hts, hX, hbl, B.notSynchronized, hgv⟩
    obtain ⟨t, a1, o, b1, b2, b3⟩ := K s₁ rfl X₀
    exact ⟨t, o, a1, b1, b2, b3⟩
theorem lw_pre_spec {args : Array Value} {s : State} (h : (Jvm.Cond.and given_1 narrow_1).before args s = true) (hr : rest_1_c.before args s = true) : ∃ (b : Addr) (xs : List Int32), lw_P b xs args s := by
  have hs := flat_of_before _ h
  have hq := flat_of_before _ hr
  have hc : (Cond.count 1).before args s = true := hs _ (by decide +kernel)
  have harr : (Cond.arrayOf (.arg 0) .int).before args s = true := hs _ (by decide +kernel)
  have hle : (Cond.le (.length (.arg 0)) (.int 3584)).before args s = true := hs _ (by decide +kernel)
  have hlen : (Cond.isInt (.length (.arg 0))).before args s = true := hq _ (by decide +kernel)
  have hall : (Cond.all (.arg 0) (.isInt (.elem (.arg 0) (.index 0)))).before args s = true := hq _ (by decide +kernel)
  obtain ⟨b, xs, hb, hx⟩ := State.ints_of_pre rfl harr hlen hall
  have hsm : xs.length < 2 ^ 31 := hx.choose_spec.2.2.2
  have hev : (Term.length (.arg 0)).eval args s none [] s = some (.int xs.length.toInt32) := hx.length_eval hb
  have hv := Cond.le_ints hev (show (Term.int 3584).eval args s none [] s = some (.int 3584) from rfl)
  have hd : xs.length.toInt32 ≤ 3584 := by
    simpa [Cond.before, Cond.holds, hv] using hle
  have hN : xs.length ≤ 3584 := (Int32.ofNat_le_ofNat hsm (by decide)).mp (show Int32.ofNat xs.length ≤ Int32.ofNat 3584 from hd)
  exact ⟨b, xs, Cond.one_arg hc (show args[0]? = some (.ref b) from hb), hx, hN, h⟩
theorem lw_comes (l : Launch) (hl0 : l.stackTraces = false) : Comes l x (Jvm.Cond.code x code maxLocals ret :: tables_1) room_1 (fun tb e args s => Calls_1 tb e args s ∧ rest_1 tb e args s ∧ Pre_1 tb e args s)
    (fun _ _ args s o t => lw_Q args s o t) := by
  intro p e ha hc hk s m args below hf hfit hheap happ hpre
  obtain ⟨b, xs, hP⟩ := lw_pre_spec hpre.2.2 hpre.2.1
  obtain ⟨k, o, h1, h2, h3, hQ⟩ := lw_walk l hl0 b xs p e ha hc hk s m args below hf ((Spec.applies_iff_loose hf).mp happ).1 hP trivial
  exact ⟨k, o, h1, h2, h3, hQ⟩
theorem lw_frame {s t : State} {o : Outcome} {args : Array Value} (h : Framed s o t [] 601024 7293034) :
    Framed s o t (fieldLocs frame_1_writes args s ++ arrayLocs frame_1_arrays args s ++ staticLocs frame_1_statics s) 601024 7293034 := h
theorem lw_limb (L : Cond) (hL : ∀ (args : Array Value) (s t : State), L.after args s (.returned (some (.int 1))) t = true) :
    ArmFor flags0 classFile x code maxLocals ret World_1 tables_1 room_1 Calls_1 rest_1 Pre_1
      (fun tb e a s o t => postC L tb e a s o t ∧ Framed s o t (fieldLocs frame_1_writes a s ++ arrayLocs frame_1_arrays a s ++ staticLocs frame_1_statics s) 601024 7293034) := by
  intro l hfl _ _ p e ha hc hk s m args below hf hfit hheap happ hpre
  obtain ⟨k, o, h1, h2, h3, rfl, hF⟩ := lw_comes l (no_tr hfl) p e ha hc hk s m args below hf hfit hheap happ hpre
  exact ⟨k, _, h1, h2, h3, hL args s _, lw_frame hF⟩
theorem i_vc : Claimed_1_1 ∧ Claimed_1_2 := ⟨lw_limb limb_1_1 (fun args s t => by simp [limb_1_1, Cond.after, Cond.holds, Cond.value]), lw_limb limb_1_2 (fun args s t => Cond.after_iff.mpr (by
  first | (rw [show limb_1_2 = Cond.eq .result (.int 1) from rfl, Cond.eq_ints (x := 1) (y := 1) rfl rfl]; simp; done) | (simp [limb_1_2, Cond.value, Term.eval]; done)))⟩
