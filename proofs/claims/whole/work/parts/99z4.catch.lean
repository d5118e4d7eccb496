/-! The law's own storm: its contract -/
theorem Met.ofWH {l : Launch} {y : MethodName} {ws ws' : List Cond} {rm : Room} {Pc : Array Value → State → Prop} {Qc : Array Value → State → Outcome → State → Prop} {mc ms : Nat} {free : Addr → Prop} {cc : ByteArray} {maxL : Nat} {ret : Option FieldType} {hh : List (Nat × Nat × Nat × Nat)}
    (hy : plainName y.cls = true) (hw : ws = Cond.codeWith y cc maxL ret hh :: ws')
    (body : ∀ p e s m args below meth c s₁, BodyLoose p l y (headSpec ws rm) cc maxL ret e s m args below meth c s₁ → c.maxLocals = maxL → Pc args s →
      W p l e (headSpec ws rm).room s m args below meth c s.heap [] 0 0 (MQ below Qc args s mc ms free) (entryFrame m args maxL)) : Met l y ws rm Pc Qc mc ms free := by
  refine MetFree.of_bodyS (code := cc) (maxLocals := maxL) (ret := ret) hy ?_ ?_
  · intro args s m h hn
    obtain ⟨m9, meth, c, hn9, h1, h2, h3, h4, -, h5, h6, -⟩ := Cond.codeWith_spec (atoms_spec (ws := ws) h _ (by rw [hw]; exact List.mem_cons_self))
    cases hn.symm.trans hn9
    exact ⟨meth, c, h1, h2, h3, h4, h5, h6⟩
  · intro p e s m args below meth c s₁ B hml hP _
    have hh0 : s₁.heap = s.heap := by rw [B.state]; rfl
    obtain ⟨t, a1, o, b1, b2, b3⟩ := body p e s m args below meth c s₁ B hml hP s₁ hh0 (Stand.of_body B)
    exact ⟨t, o, a1, b1, b2, ⟨b3.1, b3.2⟩⟩
theorem cw123 {R : Room} {s : State} {args : Array Value} {d mc ms : Nat} (hts : ∀ w ∈ gt, w.before args s = true) (hf : d + 1 ≤ R.frames) (hlo : 8 + (2 + 11) + 300 * d ≤ R.locals) : CallW R s args "OneCableLaw" (mMet 123).1.cls 7 (mMet 123).1 (mMet 123).2.1 (mInf 123).1 (mMet 123).2.2 (mWs 123) (mRm d (mc, ms)) mc ms 1 := by
  obtain ⟨c1, c2, c3, c4, c5, c6, c7, -⟩ := callee_spec ok123
  refine ⟨⟨rfl, rfl, hf, hlo, ?_, List.mem_cons_self, hts _ c1, hts _ c3, ⟨c4, c5⟩, okParS par123, hts _ ls_ml⟩, hts _ ls_im, hts _ ls_se⟩
  exact pay_in hts (fun w hw => by
    rcases List.mem_cons.mp hw with rfl | hw
    · exact gt_good _ c1
    · exact gt_good _ hw)
theorem n0_127 : mNth S0 127 = some (.inr (1, 1, [])) := rfl
theorem n0_0 : ∃ fs, mNth S0 0 = some (.inl (11, fs)) := ⟨_, rfl⟩
set_option maxHeartbeats 4000000 in
theorem k_storm {l : Launch} {D : va_G} {cA : Nat → ClassId} {kd : Nat → Value} {kA : mKA} {h0 : Nat} (hl : l.stackTraces = false) {v : Int} {σ α : Nat → Nat → Int} {ad : Nat → Nat} (hv : r32 v) (hok : okS (S0, σ, α)) {Q : Option mV → mS → Prop} (h1 : ¬ stB σ v → Q (some (vI 1)) (S0, σ, α)) (h2 : stB σ v → cal kA noP.1 20 123 [vR 0, vI v] (S0, σ, α) (fun r s' => ∃ (n : Int) (σ' α' : Nat → Nat → Int), r = some (vI n) ∧ s' = (S0, σ', α') ∧ Q (some (vI 0)) (S0, σ', mUp α' 127 0 n))) : Met l yLs wsLs (mRm 24 (1, 6)) (sPc D cA kd kA h0 [vR 0, vI v, vR 127] (S0, σ, α) ad) (mQc D cA kd h0 1005 (S0, σ, α) ad Q) 1 6 (AA h0) := by
  refine Met.ofWH (cc := cLs) (maxL := 4) (ret := some .int) (hh := [(0, 9, 12, 13)]) (by decide) rfl ?_
  intro p e s m args below meth c s₁ B hml hP
  obtain ⟨⟨rfl, hh, hP1, hD, hK, hC⟩, hX⟩ := hP
  have hts0 := atoms_spec (ws := wsLs) B.pre
  have hts : ∀ w ∈ gt, w.before _ s = true := fun w hw => hts0 w (List.mem_cons_of_mem _ hw)
  have hown : s.vm.findClass "OneCableLaw" = some m.cls := findClass_of_methodNamed B.named
  have htab : c.exceptionTable.toList = tableOf [(0, 9, 12, 13)] := vx_table (x := yLs) B (hts0 _ List.mem_cons_self)
  have hx := B.exec
  have hb := B.bytes
  have hlocks := B.notSynchronized
  have hr : meth.sig.returnType = some .int := B.returns
  have hkd := hC.2.1
  have ret : ∀ (pc : Nat) (L : mL) (z : Int) (sg : mS) (b : mB), decode cLs pc = .ok (.ireturn, 1) → Q (some (vI z)) sg → Sim p l e (mRm 24 (1, 6)) s m ([vR 0, vI v, vR 127].map (cV ad kd)).toArray below meth c (MQ below (mQc D cA kd h0 1005 (S0, σ, α) ad Q) ([vR 0, vI v, vR 127].map (cV ad kd)).toArray s 1 6 (AA h0)) D cA kd h0 128 ad 4 pc L [vI z] sg b := by
    intro pc L z sg b hdg hq ad' H locs cells slots ls hR
    have hro1 : cells + b.1 ≤ 1 := hR.room.1
    have hro2 : slots + b.2 ≤ 6 := hR.room.2
    refine W.widen (k := 1) (n := 6) (by omega) (by omega) ?_
    refine W.iret hx hb hr (fun t ht hW => ⟨⟨some (vI z), sg, ad', rfl, ⟨z, rfl⟩, hq, ?_, hR.okS, ?_, ?_, by rw [ht]; exact hR.1, hR.2.1⟩, hR.S.F ht⟩) hR.S.2.2 hdg hlocks
    · intro w hw
      cases hw
      exact (List.forall_mem_cons.mp hR.ok).1
    · show S0.length ≤ _
      rw [S0_len]; exact hR.2.2.2.2.2.2.2.2.1
    · show ∀ i, i < S0.length → ad' i = ad i
      rw [S0_len]; exact hR.2.2.2.2.2.2.2.2.2
  have tail : ∀ (L : mL) (n : Int) (σ' α' : Nat → Nat → Int) (b : mB), Q (some (vI 0)) (S0, σ', mUp α' 127 0 n) → Sim p l e (mRm 24 (1, 6)) s m ([vR 0, vI v, vR 127].map (cV ad kd)).toArray below meth c (MQ below (mQc D cA kd h0 1005 (S0, σ, α) ad Q) ([vR 0, vI v, vR 127].map (cV ad kd)).toArray s 1 6 (AA h0)) D cA kd h0 128 ad 4 7 L [vI n, vI 0, vR 127] (S0, σ', α') b := by
    intro L n σ' α' b hq
    exact sm_i2l hx hb lst_7 (sm_lastore hx hb hK lst_8 n0_127 ⟨by unfold mInA; decide, sm_goto (t := 15) hx hb lst_9 (by decide) (sm_iconst hx hb lst_15 (by unfold r32; decide) (ret 16 _ 0 _ _ lst_16 hq))⟩)
  have at4 : Sim p l e (mRm 24 (1, 6)) s m ([vR 0, vI v, vR 127].map (cV ad kd)).toArray below meth c (MQ below (mQc D cA kd h0 1005 (S0, σ, α) ad Q) ([vR 0, vI v, vR 127].map (cV ad kd)).toArray s 1 6 (AA h0)) D cA kd h0 128 ad 4 4 [some (vR 0), some (vI v), some (vR 127), none] [vI v, vR 0, vI 0, vR 127] (S0, σ, α) (1, 6) := by
    intro ad' H locs cells slots ls hR
    have hro1 : cells + 1 ≤ 1 := hR.room.1
    have hro2 : slots + 6 ≤ 6 := hR.room.2
    have okr : ∀ w ∈ [vI 0, vR 127], okV S0.length w := fun w hw => hR.ok w (List.mem_cons_of_mem _ (List.mem_cons_of_mem _ hw))
    have oka : ∀ w ∈ [vR 0, vI v], okV S0.length w := fun w hw => by
      rcases List.mem_cons.mp hw with rfl | hw
      · exact hR.ok _ (List.mem_cons_of_mem _ List.mem_cons_self)
      · rcases List.mem_cons.mp hw with rfl | hw
        · exact hv
        · cases hw
    obtain ⟨fs, hfs⟩ := n0_0
    have hcw := cW_at (ad := ad') (cA := cA) (s := (S0, σ, α)) hfs
    have hrec : ∃ cell : Cell, H[ad' 0]? = some cell ∧ cell.vm.isStatics = false ∧ s.vm.findClass (mMet 123).1.cls = some cell.cls := va_recv hK hR.1 (cls_at 11 (by decide)) hcw
    have hpre : ∀ U : State, U.heap = H → s.WarmedH U.vm → mPc D cA kd kA h0 [vR 0, vI v] (S0, σ, α) ad' (Value.ref (ad' 0) :: [cV ad' kd (vI v)]).toArray U := fun U hU hW =>
      ⟨rfl, by rw [hU]; exact Nat.le_trans hh hR.S.1, by rw [hU]; exact hR.1, hR.2.1, va_K.moved hW.alike hK, KC.go hW (fun q q1 q2 => by rw [hU]; exact hR.S.2.1 q q1 q2) hC⟩
    have hW : 2 * (F0 m 4 ls ([vI v, vR 0, vI 0, vR 127].map (cV ad' kd))).monitorRoom + (([vI 0, vR 127].map (cV ad' kd)).map fun v => v.category).sum ≤ 8 := by
      show 2 * 0 + _ ≤ 8
      rw [cats_eq hC.cat]; decide
    have hS0 : CallFix p m c cLs 4 s ([vR 0, vI v, vR 127].map (cV ad kd)).toArray gt "OneCableLaw" := ⟨hx, hb, hml, hown, hts⟩
    by_cases hst : stB σ v
    · have hg := goD_mono (kA := kA) noP.2 20 123 0 (mEnt [vR 0, vI v] (mInf 123).1) [] (S0, σ, α) (0, 0) _ (fun r s' => mAns (mInf 123).2.1 r (fun w => Sim p l e (mRm 24 (1, 6)) s m ([vR 0, vI v, vR 127].map (cV ad kd)).toArray below meth c (MQ below (mQc D cA kd h0 1005 (S0, σ, α) ad Q) ([vR 0, vI v, vR 127].map (cV ad kd)).toArray s 1 6 (AA h0)) D cA kd h0 128 ad 4 7 [some (vR 0), some (vI v), some (vR 127), none] (w ++ [vI 0, vR 127]) s' (1 - 0, 6 - 0))) (by
        rintro r s' ⟨n, σ', α', rfl, rfl, q⟩
        exact tail _ n σ' α' _ q) (h2 hst)
      have hM := all_met (l := l) (D := D) (cA := cA) (kd := kd) (kA := kA) (pr := noP.1) (h0 := h0) 20 123 [vR 0, vI v] (S0, σ, α) (0, 0) _ ok123 (Nat.le_of_ble_eq_true rfl) hg hok oka ad'
      refine sm_after (mk := 123) (mc := 0) (ms := 0) (rest := [vI 0, vR 127]) hR okr ⟨Nat.zero_le _, Nat.zero_le _⟩ (a := (Value.ref (ad' 0) :: [cV ad' kd (vI v)]).toArray) ?_
      exact va_runV (C := (mMet 123).1.cls) (b := ad' 0) (As := [cV ad' kd (vI v)]) hS0 hM (cw123 hts (by decide) (by decide)) ⟨mPc_blind, hrec, hpre⟩ rfl rfl hR.lv.1 rfl hW lst_4 ⟨by omega, by omega⟩
    · have hM := k_thr (l := l) (D := D) (cA := cA) (kd := kd) (kA := kA) (h0 := h0) (ad := ad') hl hv hst hok
      have hrun := vx_runV (p := p) (e := e) (below := below) (meth := meth) (locs := locs) (cells := cells) (slots := slots) (g := F0 m 4 ls ([vI v, vR 0, vI 0, vR 127].map (cV ad' kd))) (rest := [vI 0, vR 127].map (cV ad' kd)) (C := (mMet 123).1.cls) (b := ad' 0) (As := [cV ad' kd (vI v)]) (H := H) hS0 hM (cw123 (R := mRm 24 (1, 6)) hts (by decide) (by decide)) ⟨sPc_blind, hrec, fun U hU hW => ⟨hpre U hU hW, KX.go hW (fun q q1 q2 => by rw [hU]; exact hR.S.2.1 q q1 q2) hX⟩⟩ rfl rfl hR.lv.1 rfl hW lst_4 ⟨hro1, hro2⟩
      refine vx_calli hrun hR.S (fun _ _ h => h) (fun _ h => h) (fun _ _ h => h) ?_ (fun _ _ _ _ _ _ _ hf => hf.elim)
      intro E ce q9 u t H1 locs1 ht hAl _ hB hsz hkeep hS1 hce hcv hcl
      obtain ⟨rfl, hP2⟩ := hB
      rw [ht] at hP2
      refine vx_catch (own := "OneCableLaw") (name := nSE) hown [] ⟨0, 9, 12, 13⟩ [] (by rw [htab]; rfl) (fun z hz => by cases hz) (by decide) (by decide) (hts _ ls_cl) (va_Nw.use rfl (hX.2.2 _ List.mem_cons_self)) hce hcv hcl ?_
      refine lv_astore_n (lv := []) (lv' := [(3, .ref q9)]) (nL := 4) hx hb lst_12 rfl ⟨hR.lv.1, hR.lv.2.1, fun q hq => by cases hq⟩ (by decide) rfl (fun ls2 hl2 => ?_)
      refine lv_iconst (v := 1) hx hb lst_13 (by decide) ?_
      refine W.widen (k := 1) (n := 6) (by omega) (by omega) ?_
      refine W.iret hx hb hr (fun t2 ht2 hW2 => ⟨⟨some (vI 1), (S0, σ, α), ad', rfl, ⟨1, rfl⟩, h1 hst, ?_, hok, Nat.le_refl _, ?_, by rw [ht2]; exact hP2, hR.2.1⟩, hS1.F ht2⟩) hS1.2.2 lst_14 hlocks
      · intro w hw
        cases hw
        show r32 1
        unfold r32; decide
      · show ∀ i, i < S0.length → ad' i = ad i
        rw [S0_len]; exact hR.2.2.2.2.2.2.2.2.2
  have key : Sim p l e (mRm 24 (1, 6)) s m ([vR 0, vI v, vR 127].map (cV ad kd)).toArray below meth c (MQ below (mQc D cA kd h0 1005 (S0, σ, α) ad Q) ([vR 0, vI v, vR 127].map (cV ad kd)).toArray s 1 6 (AA h0)) D cA kd h0 128 ad 4 0 [some (vR 0), some (vI v), some (vR 127), none] [] (S0, σ, α) (1, 6) :=
    sm_aload_n hx hb hkd lst_0 (n := .inl 127) rfl (sm_iconst hx hb lst_1 (by unfold r32; decide) (sm_aload_n hx hb hkd lst_2 (n := .inl 0) rfl (sm_iload_n hx hb lst_3 (n := v) rfl at4)))
  have hlv := lv_entry ([vR 0, vI v, vR 127].map (cV ad kd)) (n := 4) (by rw [sl_len hC.cat]; exact Nat.le_of_ble_eq_true rfl)
  rw [lg_entry_eq]
  refine key ad s.heap [] 0 0 _ ⟨hP1, hD, va_S.rf, ⟨hlv.1, hlv.2.1, fun i w hw => ?_⟩, hok, fun i w hw => ent_ok [vR 0, vI v, vR 127] 4 i w ?_ hw, (fun w hw => by cases hw), ⟨Nat.le_refl _, Nat.le_refl _⟩, Nat.le_of_eq S0_len.symm, fun _ _ => rfl⟩
  · have := ent_args (ad := ad) hC.cat [vR 0, vI v, vR 127] 4 0 i w hw
    rw [Nat.zero_add] at this
    exact hlv.2.2 _ this
  · intro w hw
    rcases List.mem_cons.mp hw with rfl | hw
    · show 0 < S0.length
      rw [S0_len]; decide
    · rcases List.mem_cons.mp hw with rfl | hw
      · exact hv
      · rcases List.mem_cons.mp hw with rfl | hw
        · show 127 < S0.length
          rw [S0_len]; decide
        · cases hw
