/-! The law's own storm over the machine: a storm that throws, its catch -/
def yLs : MethodName := ⟨"OneCableLaw", "storm", "(LOneCable;I[J)I"⟩
abbrev cLs : ByteArray := method_3_code
def wsLs : List Cond := .codeWith yLs cLs 4 (some .int) [(0, 9, 12, 13)] :: gt
def nSE : String := "java/util/NoSuchElementException"
def nUp : List String := ["java/lang/RuntimeException", "java/lang/Exception"]
theorem lst_0 : decode cLs 0 = .ok (.aload_n 2, 1) := by decide +kernel
theorem lst_1 : decode cLs 1 = .ok (.iconst 0, 1) := by decide +kernel
theorem lst_2 : decode cLs 2 = .ok (.aload_n 0, 1) := by decide +kernel
theorem lst_3 : decode cLs 3 = .ok (.iload_n 1, 1) := by decide +kernel
theorem lst_4 : decode cLs 4 = .ok (.invokevirtual 7, 3) := by decide +kernel
theorem lst_7 : decode cLs 7 = .ok (.i2l, 1) := by decide +kernel
theorem lst_8 : decode cLs 8 = .ok (.lastore, 1) := by decide +kernel
theorem lst_9 : decode cLs 9 = .ok (.goto 6, 3) := by decide +kernel
theorem lst_12 : decode cLs 12 = .ok (.astore_n 3, 1) := by decide +kernel
theorem lst_13 : decode cLs 13 = .ok (.iconst 1, 1) := by decide +kernel
theorem lst_14 : decode cLs 14 = .ok (.ireturn, 1) := by decide +kernel
theorem lst_15 : decode cLs 15 = .ok (.iconst 0, 1) := by decide +kernel
theorem lst_16 : decode cLs 16 = .ok (.ireturn, 1) := by decide +kernel
theorem in_gt {w : Cond} (h : (decide (w ∈ lw_tbl) && goodWord w) = true) : w ∈ gt := by
  rw [Bool.and_eq_true] at h
  exact List.mem_filter.mpr ⟨of_decide_eq_true h.1, h.2⟩
theorem th_k : Cond.classLink RX11 253 nSE ∈ gt := in_gt (by decide +kernel)
theorem th_i : Cond.initialized nSE ∈ gt := in_gt (by decide +kernel)
theorem th_at : ∀ w ∈ (vx_at0 RX11 255 nSE nUp).filter goodWord, w ∈ gt := by
  have h : ((vx_at0 RX11 255 nSE nUp).filter goodWord).all (fun w => decide (w ∈ lw_tbl)) = true := by decide +kernel
  exact fun w hw => List.mem_filter.mpr ⟨of_decide_eq_true (List.all_eq_true.mp h w hw), (List.mem_filter.mp hw).2⟩
def iN (C : String) : MethodName := ⟨C, "<init>", "()V"⟩
def bW4 : List Cond := [.castable nSE nSE, .declares (iN "java/lang/RuntimeException"), .declares (iN "java/lang/Exception"), .declares (iN "java/lang/Throwable")]
theorem th_bt : ∀ w ∈ (vx_at0 RX11 255 nSE nUp).filter (fun w => !goodWord w), w ∈ bW4 := by decide +kernel
theorem th_ot : ∀ w ∈ Cond.classLink RX11 253 nSE :: Cond.initialized nSE :: vx_at0 RX11 255 nSE nUp, vx_ot w = true := by decide +kernel
theorem ls_cl : Cond.classLink "OneCableLaw" 13 nSE ∈ gt := in_gt (by decide +kernel)
theorem ls_ml : Cond.methodLink "OneCableLaw" 7 (mMet 123).1 ∈ gt := in_gt (by decide +kernel)
theorem ls_im : Cond.instanceMethod (mMet 123).1 ∈ gt := in_gt (by decide +kernel)
theorem ls_se : Cond.selects (mMet 123).1.cls (mMet 123).1 (mMet 123).1 ∈ gt := in_gt (by decide +kernel)
theorem ls_cw : Cond.codeWith yLs cLs 4 (some .int) [(0, 9, 12, 13)] ∈ gt := in_gt (by decide +kernel)
theorem ls_st : Cond.static yLs ∈ gt := in_gt (by decide +kernel)
theorem ls_in : Cond.initialized yLs.cls ∈ gt := in_gt (by decide +kernel)
theorem ls_l9 : Cond.methodLink (mMet 237).1.cls 96 yLs ∈ gt := in_gt (by decide +kernel)
theorem ok123 : okCallee 123 = true := by decide +kernel
theorem par123 : okPar 123 1 = true := by decide +kernel
/-- what a throw reads of the heap -/
def KX (h0 : Nat) (U : State) : Prop := vx_Zq Bundle.tN "UNASSIGNED_STACK" Bundle.steD (AA h0) U U.heap ∧ vx_Zq Bundle.tN "SUPPRESSED_SENTINEL" Bundle.listD (AA h0) U U.heap ∧ ∀ w ∈ bW4, va_Nw w U
theorem bW4_go {s U : State} (hW : s.WarmedH U.vm) {w : Cond} (hw : w ∈ bW4) (h : va_Nw w s) : va_Nw w U := by
  rcases List.mem_cons.mp hw with rfl | hw
  · exact va_Nw.warmC hW h
  · rcases List.mem_cons.mp hw with rfl | hw
    · exact va_Nw.warmD hW h
    · rcases List.mem_cons.mp hw with rfl | hw
      · exact va_Nw.warmD hW h
      · rcases List.mem_cons.mp hw with rfl | hw
        · exact va_Nw.warmD hW h
        · cases hw
theorem bW4_on : ∀ w ∈ bW4, w.onTables = true := by decide
theorem KX.go {h0 : Nat} {s U : State} (hW : s.WarmedH U.vm) (hq : ∀ a : Nat, a < s.heap.size → ¬ AA h0 a → U.heap[a]? = s.heap[a]?) (h : KX h0 s) : KX h0 U := ⟨(vx_Zq.moved hW.alike h.1).kept hq, (vx_Zq.moved hW.alike h.2.1).kept hq, fun w hw => bW4_go hW hw (h.2.2 w hw)⟩
def sPc (D : va_G) (cA : Nat → ClassId) (kd : Nat → Value) (kA : mKA) (h0 : Nat) (av : List mV) (sg : mS) (ad : Nat → Nat) : Array Value → State → Prop := fun v U => mPc D cA kd kA h0 av sg ad v U ∧ KX h0 U
theorem sPc_blind {D : va_G} {cA : Nat → ClassId} {kd : Nat → Value} {kA : mKA} {h0 : Nat} {av : List mV} {sg : mS} {ad : Nat → Nat} : FrameBlind (sPc D cA kd kA h0 av sg ad) := by
  intro a U g mk q
  exact ⟨mPc_blind a U g mk q.1, KX.go (s := U) (U := U.calling g mk a) (State.WarmedH.refl U) (fun _ _ _ => rfl) q.2⟩
theorem blk_any {kA : mKA} {cl : mCl} {mi : Nat} {Q : Option mV → mS → Prop} {X : mX} (hcl : ∀ mi args s b K K', (∀ r s b, K r s b → K' r s b) → cl mi args s b K → cl mi args s b K') (hX : ∀ pc L st s b, stp kA cl X Q (mLook (mOps mi) pc) pc L st s b → X pc L st s b) (stop : Nat → Bool) : ∀ (n pc : Nat) (L : mL) (st : List mV) (s : mS) (b : mB), blk kA cl stop mi Q X n pc L st s b → X pc L st s b
  | 0, _, _, _, _, _, h => h
  | n + 1, pc, L, st, s, b, h => by
    unfold blk at h
    cases hc : stop pc with
    | true => rw [hc] at h; exact h
    | false =>
      rw [hc] at h
      exact hX _ _ _ _ _ (stp_mono hcl (blk_any hcl hX stop n) (fun _ _ h => h) h)
theorem k123_0 {kA : mKA} {pr : mPr} (hpr : mPrOk pr) {d : Nat} {X : mX} (hX : ∀ pc L st s b, stp kA (mCall kA pr d) X (fun _ _ => False) (mLook (mOps 123) pc) pc L st s b → X pc L st s b) {σ α : Nat → Nat → Int} {v : Int} {b : mB} (hno : ¬ stB σ v) (h : X 27 [some (vR 0), some (vI v)] [] (S0, σ, α) b) : X 0 [some (vR 0), some (vI v)] [] (S0, σ, α) b :=
  blk_any (mCall_mono hpr d) hX (fun p => Nat.beq p 27 || Nat.beq p 35) 20 0 _ _ _ _
    (show ((σ 23 2 < 2 → X 27 [some (vR 0), some (vI v)] [] (S0, σ, α) b) ∧ (¬ σ 23 2 < 2 → ((v < -1 → X 27 [some (vR 0), some (vI v)] [] (S0, σ, α) b) ∧ (¬ v < -1 → ((v < σ 23 2 → X 35 [some (vR 0), some (vI v)] [] (S0, σ, α) b) ∧ (¬ v < σ 23 2 → X 27 [some (vR 0), some (vI v)] [] (S0, σ, α) b)))))) from
      ⟨fun _ => h, fun q1 => ⟨fun _ => h, fun q2 => ⟨fun q3 => absurd ⟨Int.not_lt.mp q1, Int.not_lt.mp q2, q3⟩ hno, fun _ => h⟩⟩⟩)
theorem S0_len : S0.length = 128 := by decide +kernel
/-- a storm that throws -/
theorem k_thr {l : Launch} {D : va_G} {cA : Nat → ClassId} {kd : Nat → Value} {kA : mKA} {h0 : Nat} (hl : l.stackTraces = false) {v : Int} {σ α : Nat → Nat → Int} {ad : Nat → Nat} (hv : r32 v) (hno : ¬ stB σ v) (hok : okS (S0, σ, α)) : vx_Met l (mMet 123).1 (mWs 123) (mRm 22 (1, 6)) (sPc D cA kd kA h0 [vR 0, vI v] (S0, σ, α) ad) (va_Qi (S := Unit) (fun _ _ => False) (fun _ _ => True) (AA h0)) (vx_X (S := Unit) (fun _ => True) (fun E _ t => E = nSE ∧ va_P D mCls (cW ad cA (S0, σ, α)) t.heap) (AA h0)) 1 6 (AA h0) := by
  refine vx_ofW (cc := (mMet 123).2.1) (maxL := (mInf 123).1) (ret := (mMet 123).2.2) (by decide) rfl ?_
  intro p e s m args below meth c s₁ B hml htab hP
  obtain ⟨⟨rfl, hh, hP1, hD, hK, hC⟩, hX⟩ := hP
  have hts0 := atoms_spec (ws := mWs 123) B.pre
  have hts : ∀ w ∈ gt, w.before _ s = true := fun w hw => hts0 w (List.mem_cons_of_mem _ hw)
  have hown : s.vm.findClass (mMet 123).1.cls = some m.cls := findClass_of_methodNamed B.named
  have F : Fr p (mRm 22 (1, 6)) s m ([vR 0, vI v].map (cV ad kd)).toArray meth c D cA kd kA h0 21 123 :=
    ⟨B.exec, B.bytes, hml, hown, hts, hK, hC, hh, fun hi => (name_of_methodNamed B.named B.method).1.trans hi, ⟨Nat.le_refl _, Nat.le_refl _⟩⟩
  have key := k123_0 noP.2 (X := Sim p l e (mRm 22 (1, 6)) s m ([vR 0, vI v].map (cV ad kd)).toArray below meth c (vx_MQ below (va_Qi (S := Unit) (fun _ _ => False) (fun _ _ => True) (AA h0)) (vx_X (S := Unit) (fun _ => True) (fun E _ t => E = nSE ∧ va_P D mCls (cW ad cA (S0, σ, α)) t.heap) (AA h0)) ([vR 0, vI v].map (cV ad kd)).toArray s 1 6 (AA h0)) D cA kd h0 128 ad (mInf 123).1) (sim_step (Q := fun _ _ => False) F rfl (okM_all 123 (by decide)) (all_met (pr := noP.1) 21) ?_ ?_ ?_) (α := α) (b := (1, 6)) hno ?_
  · have hlv := lv_entry ([vR 0, vI v].map (cV ad kd)) (n := (mInf 123).1) (by rw [sl_len hC.cat]; exact Nat.le_of_ble_eq_true rfl)
    rw [lg_entry_eq]
    refine key ad s.heap [] 0 0 _ ⟨hP1, hD, va_S.rf, ⟨hlv.1, hlv.2.1, fun i w hw => ?_⟩, hok, fun i w hw => ent_ok [vR 0, vI v] (mInf 123).1 i w ?_ hw, (fun w hw => by cases hw), ⟨Nat.le_refl _, Nat.le_refl _⟩, Nat.le_of_eq S0_len.symm, fun _ _ => rfl⟩
    · have := ent_args (ad := ad) hC.cat [vR 0, vI v] (mInf 123).1 0 i w hw
      rw [Nat.zero_add] at this
      exact hlv.2.2 _ this
    · intro w hw
      rcases List.mem_cons.mp hw with rfl | hw
      · show 0 < S0.length
        rw [S0_len]; decide
      · rcases List.mem_cons.mp hw with rfl | hw
        · exact hv
        · cases hw
  · intro pc L av' rest sg' b' idx k n hlk
    exact absurd (by rw [hlk]) (noPr_use (pc := pc) (noPr_ok 123 (by decide)))
  · intro pc L z sg' b' ty _ _ _ hq
    exact hq.elim
  · intro pc L sg' b' _ _ hq
    exact hq.elim
  · intro ad' H locs cells slots ls hR
    have hro := hR.room
    have hro1 : cells + 1 ≤ 1 := hro.1
    have hro2 : slots + 6 ≤ 6 := hro.2
    have ead : cW ad' cA (S0, σ, α) = cW ad cA (S0, σ, α) := cW_ext (fun i hi => hR.2.2.2.2.2.2.2.2.2 i (by rw [← S0_len]; exact hi)) hok
    refine vx_throw0 (cc := (mMet 123).2.1) (pc := 27) (own := RX11) (cls := nSE) (names := nUp) (ik := 253) (ic := 255) (A := AA h0) B.exec B.bytes hl hown (by decide) (by decide) (hts _ th_k) (hts _ th_i) (vx_hat (fun w hw => hts _ (th_at w hw)) th_bt (fun w hw => va_Nw.use (bW4_on w hw) (hX.2.2 w hw))) th_ot hX.1 hX.2.1 hR.S (hR.lv.1.trans hml.symm) (by decide +kernel) (by decide +kernel) (by decide +kernel) (by decide +kernel) (fun x hx => (htab x hx).elim) (Nat.le_of_ble_eq_true rfl) (Nat.le_of_ble_eq_true rfl) hro1 hro2 B.notSynchronized (fun t hA hz hk => ⟨(), trivial, ⟨rfl, ?_⟩, ?_⟩) hR.S.2.2 hro1 hro2
    · rw [← ead]
      exact hR.1.kept (fun k x hx => hk x.1 ((hR.1 k x hx).lt))
    · exact ⟨Nat.le_trans hR.S.1 hz, fun q q1 q2 => (hk q (Nat.lt_of_lt_of_le q1 hR.S.1)).trans (hR.S.2.1 q q1 q2)⟩
