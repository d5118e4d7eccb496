/-! The small machine in the real one: a step -/
section SIMB
variable {p : Program} {l : Launch} {e : Env} {R : Room} {s : State} {m : MethodId} {args : Array Value} {below : List Frame} {meth : Method} {c : Code} {Qf : State → Prop}
variable {D : va_G} {cA : Nat → ClassId} {kd : Nat → Value} {h0 n0 nL : Nat} {ad0 : Nat → Nat} {pc : Nat} {L : mL} {r st : List mV} {sg : mS} {b : mB}


theorem no1005 : okCallee 1005 = false := by decide +kernel
theorem nar_bool {z : Int} (h : z = 0 ∨ z = 1) : narrow .boolean (.int (Int32.ofInt z)) = .int (Int32.ofInt z) := by
  rcases h with rfl | rfl <;> decide
theorem nar_byte {z : Int} (h : -128 ≤ z ∧ z < 128) : narrow .byte (.int (Int32.ofInt z)) = .int (Int32.ofInt z) := by
  have e : (Int32.ofInt z).toInt8.toInt32 = Int32.ofInt z := by
    apply Int32.toInt_inj.mp
    rw [Int8.toInt_toInt32, Int32.toInt_toInt8, i32_of (by unfold r32; omega), Int.bmod_def]
    omega
  show Value.int (vp_nar .byte (Int32.ofInt z)) = _
  rw [vp_nar_byte, e]
theorem nar_char {z : Int} (h : 0 ≤ z ∧ z < 65536) : narrow .char (.int (Int32.ofInt z)) = .int (Int32.ofInt z) := by
  obtain ⟨q, rfl⟩ := Int.eq_ofNat_of_zero_le h.1
  have := (pk_charN (q := q) (by omega)).1
  rw [show Int32.ofInt (q : Int) = nI q from Int32.ofInt_eq_ofNat]
  exact this


variable {kA : mKA} {pr : mPr} {d mi : Nat}
set_option maxHeartbeats 8000000 in
theorem sim_step {Q : Option mV → mS → Prop} (F : Fr p R s m args meth c D cA kd kA h0 d mi) (hnL : nL = (mInf mi).1) (hok : okM mi = true) (IH : mAll l D cA kd kA pr h0 d)
    (hprim : ∀ (pc : Nat) (L : mL) (av rest : List mV) (sg : mS) (b : mB) (idx k : Nat) (n : Int), mLook (mOps mi) pc = (.invokestatic idx, 1005, k, n) → decode (mMet mi).2.1 pc = .ok (.invokestatic idx, 3) → mCats rest ≤ 8 → ∀ {st : List mV}, st = av.reverse ++ rest → mCall kA pr d 1005 av sg b (fun r s' b' => mAns (mInf 1005).2.1 r (fun v => Sim p l e R s m args below meth c Qf D cA kd h0 n0 ad0 nL (pc + 3) L (v ++ rest) s' b')) → Sim p l e R s m args below meth c Qf D cA kd h0 n0 ad0 nL pc L st sg b)
    (hretI : ∀ (pc : Nat) (L : mL) (z : Int) (sg : mS) (b : mB) (ty : FieldType), decode (mMet mi).2.1 pc = .ok (.ireturn, 1) → (mMet mi).2.2 = some ty → narrow ty (.int (Int32.ofInt z)) = .int (Int32.ofInt z) → Q (some (vI z)) sg → Sim p l e R s m args below meth c Qf D cA kd h0 n0 ad0 nL pc L [vI z] sg b)
    (hretV : ∀ (pc : Nat) (L : mL) (sg : mS) (b : mB), decode (mMet mi).2.1 pc = .ok (.return_, 1) → (mMet mi).2.2 = none → Q none sg → Sim p l e R s m args below meth c Qf D cA kd h0 n0 ad0 nL pc L [] sg b) :
    ∀ (pc : Nat) (L : mL) (st : List mV) (sg : mS) (b : mB), stp kA (mCall kA pr d) (Sim p l e R s m args below meth c Qf D cA kd h0 n0 ad0 nL) Q (mLook (mOps mi) pc) pc L st sg b → Sim p l e R s m args below meth c Qf D cA kd h0 n0 ad0 nL pc L st sg b := by
  intro pc L st sg b h
  have F' := F
  obtain ⟨hx, hb, hml, hown, hts, hK, hC, hh, hin, hRm⟩ := F'
  have hRm1 : 1 ≤ R.frames ∧ 200 ≤ R.locals := ⟨by omega, by omega⟩
  have hlook := look_ok (mi := mi) (mOps mi) pc hok
  generalize hlk : mLook (mOps mi) pc = op at h hlook
  obtain ⟨i, a, k, n⟩ := op
  rcases hlook with hn | hop
  · cases hn
    exact h.elim
  unfold okOp at hop
  rw [Bool.and_eq_true] at hop
  obtain ⟨hD, hX⟩ := hop
  cases i with
  | iconst i =>
    have hdg : decode (mMet mi).2.1 pc = .ok (.iconst i, 1) := of_decide_eq_true hD
    exact sm_iconst hx hb hdg (b32_r hX) h
  | bipush i =>
    have hdg : decode (mMet mi).2.1 pc = .ok (.bipush i, 2) := of_decide_eq_true hD
    have hX : (b32 i && decide ((Int8.ofInt i).toInt32 = Int32.ofInt i)) = true := hX
    rw [Bool.and_eq_true] at hX
    exact sm_bipush hx hb hdg (b32_r hX.1) (of_decide_eq_true hX.2) h
  | sipush i =>
    have hdg : decode (mMet mi).2.1 pc = .ok (.sipush i, 3) := of_decide_eq_true hD
    have hX : (b32 i && decide ((Int16.ofInt i).toInt32 = Int32.ofInt i)) = true := hX
    rw [Bool.and_eq_true] at hX
    exact sm_sipush hx hb hdg (b32_r hX.1) (of_decide_eq_true hX.2) h
  | lconst i =>
    have hdg : decode (mMet mi).2.1 pc = .ok (.lconst i, 1) := of_decide_eq_true hD
    exact sm_lconst hx hb hdg h
  | ldc idx =>
    have hdg : decode (mMet mi).2.1 pc = .ok (.ldc idx, 2) := of_decide_eq_true hD
    match a, hX, h with
    | 0, hX, h =>
      have hX : (b32 n && tb k (.constant (mMet mi).1.cls idx (Int32.ofInt n))) = true := hX
      rw [Bool.and_eq_true] at hX
      exact sm_ldc hx hb hdg (b32_r hX.1) hown (hts _ (tb_mem hX.2)) h
    | 4, hX, h =>
      have hX : (Nat.beq idx 51 && decide ((mMet mi).1.cls = "OneCable$Tape")) = true := hX
      rw [Bool.and_eq_true] at hX
      have e := Nat.eq_of_beq_eq_true hX.1
      subst e
      exact sm_ldcW hx hb hC (by rw [← of_decide_eq_true hX.2]; exact hown) hdg h
    | 5, hX, h =>
      have hX : (Nat.beq idx 43 && decide ((mMet mi).1.cls = "OneCable$Tape")) = true := hX
      rw [Bool.and_eq_true] at hX
      have e := Nat.eq_of_beq_eq_true hX.1
      subst e
      exact sm_ldcS hx hb hC (by rw [← of_decide_eq_true hX.2]; exact hown) hdg h
    | 1, hX, h => cases hX
    | 2, hX, h => cases hX
    | 3, hX, h => cases hX
    | a + 6, hX, h => cases hX
  | ldc_w idx =>
    have hdg : decode (mMet mi).2.1 pc = .ok (.ldc_w idx, 3) := of_decide_eq_true hD
    have hX : (Nat.beq a 0 && b32 n && tb k (.constant (mMet mi).1.cls idx (Int32.ofInt n))) = true := hX
    rw [Bool.and_eq_true, Bool.and_eq_true] at hX
    have e := Nat.eq_of_beq_eq_true hX.1.1
    subst e
    exact sm_ldc_w hx hb hdg (b32_r hX.1.2) hown (hts _ (tb_mem hX.2)) h
  | ldc2_w idx =>
    have hdg : decode (mMet mi).2.1 pc = .ok (.ldc2_w idx, 3) := of_decide_eq_true hD
    have hX : (b64 n && tb k (.constantLong (mMet mi).1.cls idx (Int64.ofInt n))) = true := hX
    rw [Bool.and_eq_true] at hX
    exact sm_ldc2_w hx hb hdg (b64_r hX.1) hown (hts _ (tb_mem hX.2)) h
  | iload i =>
    have hdg : decode (mMet mi).2.1 pc = .ok (.iload i, 2) := of_decide_eq_true hD
    have h := h
    simp only [stp] at h
    split at h
    · rename_i hg
      exact sm_iload hx hb hdg hg h
    · exact h.elim
  | iload_n i =>
    have hdg : decode (mMet mi).2.1 pc = .ok (.iload_n i, 1) := of_decide_eq_true hD
    have h := h
    simp only [stp] at h
    split at h
    · rename_i hg
      exact sm_iload_n hx hb hdg hg h
    · exact h.elim
  | lload i =>
    have hdg : decode (mMet mi).2.1 pc = .ok (.lload i, 2) := of_decide_eq_true hD
    have h := h
    simp only [stp] at h
    split at h
    · rename_i hg
      exact sm_lload hx hb hdg hg h
    · exact h.elim
  | lload_n i =>
    have hdg : decode (mMet mi).2.1 pc = .ok (.lload_n i, 1) := of_decide_eq_true hD
    have h := h
    simp only [stp] at h
    split at h
    · rename_i hg
      exact sm_lload_n hx hb hdg hg h
    · exact h.elim
  | aload i =>
    have hdg : decode (mMet mi).2.1 pc = .ok (.aload i, 2) := of_decide_eq_true hD
    simp only [stp] at h
    split at h
    · rename_i hg
      exact sm_aload hx hb hC.2.1 hdg hg h
    · exact h.elim
  | aload_n i =>
    have hdg : decode (mMet mi).2.1 pc = .ok (.aload_n i, 1) := of_decide_eq_true hD
    simp only [stp] at h
    split at h
    · rename_i hg
      exact sm_aload_n hx hb hC.2.1 hdg hg h
    · exact h.elim
  | istore i =>
    have hdg : decode (mMet mi).2.1 pc = .ok (.istore i, 2) := of_decide_eq_true hD
    have hX2 : i < nL := by
      have := Nat.le_of_ble_eq_true hX
      omega
    simp only [stp] at h
    split at h
    · exact sm_istore hx hb hC.cat hdg hX2 h
    · exact h.elim
  | istore_n i =>
    have hdg : decode (mMet mi).2.1 pc = .ok (.istore_n i, 1) := of_decide_eq_true hD
    have hX2 : i.val < nL := by
      have := Nat.le_of_ble_eq_true hX
      omega
    simp only [stp] at h
    split at h
    · exact sm_istore_n hx hb hC.cat hdg hX2 h
    · exact h.elim
  | lstore i =>
    have hdg : decode (mMet mi).2.1 pc = .ok (.lstore i, 2) := of_decide_eq_true hD
    have hX2 : i + 1 < nL := by
      have := Nat.le_of_ble_eq_true hX
      omega
    simp only [stp] at h
    split at h
    · exact sm_lstore hx hb hC.cat hdg hX2 h
    · exact h.elim
  | lstore_n i =>
    have hdg : decode (mMet mi).2.1 pc = .ok (.lstore_n i, 1) := of_decide_eq_true hD
    have hX2 : i.val + 1 < nL := by
      have := Nat.le_of_ble_eq_true hX
      omega
    simp only [stp] at h
    split at h
    · exact sm_lstore_n hx hb hC.cat hdg hX2 h
    · exact h.elim
  | astore i =>
    have hdg : decode (mMet mi).2.1 pc = .ok (.astore i, 2) := of_decide_eq_true hD
    have hX2 : i < nL := by
      have := Nat.le_of_ble_eq_true hX
      omega
    simp only [stp] at h
    split at h
    · exact sm_astore hx hb hC.2.1 hC.cat hdg hX2 h
    · exact h.elim
  | astore_n i =>
    have hdg : decode (mMet mi).2.1 pc = .ok (.astore_n i, 1) := of_decide_eq_true hD
    have hX2 : i.val < nL := by
      have := Nat.le_of_ble_eq_true hX
      omega
    simp only [stp] at h
    split at h
    · exact sm_astore_n hx hb hC.2.1 hC.cat hdg hX2 h
    · exact h.elim
  | iinc i q =>
    have hdg : decode (mMet mi).2.1 pc = .ok (.iinc i q, 3) := of_decide_eq_true hD
    have hX2 : i < nL := by
      have := Nat.le_of_ble_eq_true hX
      omega
    simp only [stp] at h
    split at h
    · rename_i hg
      exact sm_iinc hx hb hC.cat hdg hg hX2 h
    · exact h.elim
  | pop =>
    have hdg : decode (mMet mi).2.1 pc = .ok (.pop, 1) := of_decide_eq_true hD
    simp only [stp] at h
    split at h
    · exact h.elim
    · rename_i v r hne
      exact sm_pop hx hb hC.cat (fun z hz => hne z (by rw [hz])) hdg h
    · exact h.elim
  | dup =>
    have hdg : decode (mMet mi).2.1 pc = .ok (.dup, 1) := of_decide_eq_true hD
    simp only [stp] at h
    split at h
    · exact h.elim
    · rename_i v r hne
      exact sm_dup hx hb hC.cat (fun z hz => hne z (by rw [hz])) hdg h
    · exact h.elim
  | dup2 =>
    have hdg : decode (mMet mi).2.1 pc = .ok (.dup2, 1) := of_decide_eq_true hD
    simp only [stp] at h
    split at h
    · split at h
      · exact h.elim
      · rename_i hne
        exact sm_dup2 hx hb hC.cat (fun z hz => hne z hz) hdg h
    · exact h.elim
  | iadd =>
    have hdg : decode (mMet mi).2.1 pc = .ok (.iadd, 1) := of_decide_eq_true hD
    simp only [stp] at h
    split at h
    · exact sm_iadd hx hb hdg h
    · exact h.elim
  | isub =>
    have hdg : decode (mMet mi).2.1 pc = .ok (.isub, 1) := of_decide_eq_true hD
    simp only [stp] at h
    split at h
    · exact sm_isub hx hb hdg h
    · exact h.elim
  | imul =>
    have hdg : decode (mMet mi).2.1 pc = .ok (.imul, 1) := of_decide_eq_true hD
    simp only [stp] at h
    split at h
    · exact sm_imul hx hb hdg h
    · exact h.elim
  | idiv =>
    have hdg : decode (mMet mi).2.1 pc = .ok (.idiv, 1) := of_decide_eq_true hD
    simp only [stp] at h
    split at h
    · exact sm_idiv hx hb hdg h
    · exact h.elim
  | irem =>
    have hdg : decode (mMet mi).2.1 pc = .ok (.irem, 1) := of_decide_eq_true hD
    simp only [stp] at h
    split at h
    · exact sm_irem hx hb hdg h
    · exact h.elim
  | iand =>
    have hdg : decode (mMet mi).2.1 pc = .ok (.iand, 1) := of_decide_eq_true hD
    simp only [stp] at h
    split at h
    · exact sm_iand hx hb hdg h
    · exact h.elim
  | ior =>
    have hdg : decode (mMet mi).2.1 pc = .ok (.ior, 1) := of_decide_eq_true hD
    simp only [stp] at h
    split at h
    · exact sm_ior hx hb hdg h
    · exact h.elim
  | ixor =>
    have hdg : decode (mMet mi).2.1 pc = .ok (.ixor, 1) := of_decide_eq_true hD
    simp only [stp] at h
    split at h
    · exact sm_ixor hx hb hdg h
    · exact h.elim
  | ishl =>
    have hdg : decode (mMet mi).2.1 pc = .ok (.ishl, 1) := of_decide_eq_true hD
    simp only [stp] at h
    split at h
    · exact sm_ishl hx hb hdg h
    · exact h.elim
  | ishr =>
    have hdg : decode (mMet mi).2.1 pc = .ok (.ishr, 1) := of_decide_eq_true hD
    simp only [stp] at h
    split at h
    · exact sm_ishr hx hb hdg h
    · exact h.elim
  | ladd =>
    have hdg : decode (mMet mi).2.1 pc = .ok (.ladd, 1) := of_decide_eq_true hD
    simp only [stp] at h
    split at h
    · exact sm_ladd hx hb hdg h
    · exact h.elim
  | lsub =>
    have hdg : decode (mMet mi).2.1 pc = .ok (.lsub, 1) := of_decide_eq_true hD
    simp only [stp] at h
    split at h
    · exact sm_lsub hx hb hdg h
    · exact h.elim
  | lmul =>
    have hdg : decode (mMet mi).2.1 pc = .ok (.lmul, 1) := of_decide_eq_true hD
    simp only [stp] at h
    split at h
    · exact sm_lmul hx hb hdg h
    · exact h.elim
  | ldiv =>
    have hdg : decode (mMet mi).2.1 pc = .ok (.ldiv, 1) := of_decide_eq_true hD
    simp only [stp] at h
    split at h
    · exact sm_ldiv hx hb hdg h
    · exact h.elim
  | lrem =>
    have hdg : decode (mMet mi).2.1 pc = .ok (.lrem, 1) := of_decide_eq_true hD
    simp only [stp] at h
    split at h
    · exact sm_lrem hx hb hdg h
    · exact h.elim
  | land =>
    have hdg : decode (mMet mi).2.1 pc = .ok (.land, 1) := of_decide_eq_true hD
    simp only [stp] at h
    split at h
    · exact sm_land hx hb hdg h
    · exact h.elim
  | lor =>
    have hdg : decode (mMet mi).2.1 pc = .ok (.lor, 1) := of_decide_eq_true hD
    simp only [stp] at h
    split at h
    · exact sm_lor hx hb hdg h
    · exact h.elim
  | lshl =>
    have hdg : decode (mMet mi).2.1 pc = .ok (.lshl, 1) := of_decide_eq_true hD
    simp only [stp] at h
    split at h
    · exact sm_lshl hx hb hdg h
    · exact h.elim
  | lshr =>
    have hdg : decode (mMet mi).2.1 pc = .ok (.lshr, 1) := of_decide_eq_true hD
    simp only [stp] at h
    split at h
    · exact sm_lshr hx hb hdg h
    · exact h.elim
  | lushr =>
    have hdg : decode (mMet mi).2.1 pc = .ok (.lushr, 1) := of_decide_eq_true hD
    simp only [stp] at h
    split at h
    · exact sm_lushr hx hb hdg h
    · exact h.elim
  | lcmp =>
    have hdg : decode (mMet mi).2.1 pc = .ok (.lcmp, 1) := of_decide_eq_true hD
    simp only [stp] at h
    split at h
    · exact sm_lcmp hx hb hdg h
    · exact h.elim
  | ineg =>
    have hdg : decode (mMet mi).2.1 pc = .ok (.ineg, 1) := of_decide_eq_true hD
    simp only [stp] at h
    split at h
    · exact sm_ineg hx hb hdg h
    · exact h.elim
  | i2l =>
    have hdg : decode (mMet mi).2.1 pc = .ok (.i2l, 1) := of_decide_eq_true hD
    simp only [stp] at h
    split at h
    · exact sm_i2l hx hb hdg h
    · exact h.elim
  | l2i =>
    have hdg : decode (mMet mi).2.1 pc = .ok (.l2i, 1) := of_decide_eq_true hD
    simp only [stp] at h
    split at h
    · exact sm_l2i hx hb hdg h
    · exact h.elim
  | i2b =>
    have hdg : decode (mMet mi).2.1 pc = .ok (.i2b, 1) := of_decide_eq_true hD
    simp only [stp] at h
    split at h
    · exact sm_i2b hx hb hdg h
    · exact h.elim
  | i2c =>
    have hdg : decode (mMet mi).2.1 pc = .ok (.i2c, 1) := of_decide_eq_true hD
    simp only [stp] at h
    split at h
    · exact sm_i2c hx hb hdg h
    · exact h.elim
  | ifCond q o =>
    have hdg : decode (mMet mi).2.1 pc = .ok (.ifCond q o, 3) := of_decide_eq_true hD
    have ht : (pc : Int) + o = (a : Int) := of_decide_eq_true hX
    simp only [stp] at h
    split at h
    · cases q
      · exact sm_if_eq hx hb hdg ht h
      · exact sm_if_ne hx hb hdg ht h
      · exact sm_if_lt hx hb hdg ht h
      · exact sm_if_ge hx hb hdg ht h
      · exact sm_if_gt hx hb hdg ht h
      · exact sm_if_le hx hb hdg ht h
    · exact h.elim
  | if_icmp q o =>
    have hdg : decode (mMet mi).2.1 pc = .ok (.if_icmp q o, 3) := of_decide_eq_true hD
    have ht : (pc : Int) + o = (a : Int) := of_decide_eq_true hX
    simp only [stp] at h
    split at h
    · cases q
      · exact sm_icmp_eq hx hb hdg ht h
      · exact sm_icmp_ne hx hb hdg ht h
      · exact sm_icmp_lt hx hb hdg ht h
      · exact sm_icmp_ge hx hb hdg ht h
      · exact sm_icmp_gt hx hb hdg ht h
      · exact sm_icmp_le hx hb hdg ht h
    · exact h.elim
  | goto o =>
    have hdg : decode (mMet mi).2.1 pc = .ok (.goto o, 3) := of_decide_eq_true hD
    exact sm_goto hx hb hdg (of_decide_eq_true hX) h
  | tableswitch dflt lo hi offs =>
    have hD : (match decode (mMet mi).2.1 pc with | .ok (j, _) => decide (j = Instr.tableswitch dflt lo hi offs) | _ => false) = true := hD
    have hX : (decide (0 ≤ (pc : Int) + dflt) && offs.toList.all (fun o => decide (0 ≤ (pc : Int) + o)) && decide ((offs.size : Int) = hi - lo + 1) && b32 lo && b32 hi) = true := hX
    rw [Bool.and_eq_true, Bool.and_eq_true, Bool.and_eq_true, Bool.and_eq_true] at hX
    obtain ⟨⟨⟨⟨x1, x2⟩, x3⟩, -⟩, -⟩ := hX
    cases hdc : decode (mMet mi).2.1 pc with
    | error z => rw [hdc] at hD; cases hD
    | ok jl =>
      obtain ⟨j, len⟩ := jl
      rw [hdc] at hD
      have e : j = Instr.tableswitch dflt lo hi offs := of_decide_eq_true hD
      subst e
      simp only [stp] at h
      split at h
      · exact sm_switch hx hb hdc (of_decide_eq_true x1) (fun o ho => of_decide_eq_true (List.all_eq_true.mp x2 o ho)) (of_decide_eq_true x3) h
      · exact h.elim
  | getstatic idx =>
    have hdg : decode (mMet mi).2.1 pc = .ok (.getstatic idx, 3) := of_decide_eq_true hD
    match k, hX, h with
    | 0, hX, h =>
      match a, hX, h with
      | 1, hX, h => exact sm_gets (v := vK 1) hx hb (fun _ => rfl) (fun _ => trivial) hC.2.2.2.2.2.1 hown (hts _ (tb_mem hX)) hdg h
      | 2, hX, h => exact sm_gets (v := vK 2) hx hb (fun _ => rfl) (fun _ => trivial) hC.2.2.2.2.2.2.1 hown (hts _ (tb_mem hX)) hdg h
      | 9, hX, h => exact sm_gets (v := vK 9) hx hb (fun _ => rfl) (fun _ => trivial) hC.2.2.2.2.2.2.2.2.1 hown (hts _ (tb_mem hX)) hdg h
      | 0, hX, h => cases hX
      | 3, hX, h => cases hX
      | 4, hX, h => cases hX
      | 5, hX, h => cases hX
      | 6, hX, h => cases hX
      | 7, hX, h => cases hX
      | 8, hX, h => cases hX
      | a + 10, hX, h => cases hX
    | 1, hX, h => exact sm_gets hx hb (z := .int 1) (fun _ => rfl) (fun _ => (by unfold okV r32; omega)) hC.2.2.2.2.2.2.2.1 hown (hts _ (tb_mem hX)) hdg h
    | 2, hX, h =>
      match a, hX, h with
      | 1, hX, h => exact sm_getsN (v := vK 1) hx hb (fun _ => rfl) (fun _ => trivial) hC.2.2.2.2.2.1 hown (va_Nw.use rfl (hC.2.2.2.2.2.2.2.2.2.2.1 _ (tn_mem hX))) hdg h
      | 2, hX, h => exact sm_getsN (v := vK 2) hx hb (fun _ => rfl) (fun _ => trivial) hC.2.2.2.2.2.2.1 hown (va_Nw.use rfl (hC.2.2.2.2.2.2.2.2.2.2.1 _ (tn_mem hX))) hdg h
      | 0, hX, h => cases hX
      | a + 3, hX, h => cases hX
    | k + 3, hX, h => cases hX
  | getfield idx =>
    have hdg : decode (mMet mi).2.1 pc = .ok (.getfield idx, 3) := of_decide_eq_true hD
    have hX0 : okF (mMet mi).1.cls idx (.getfield idx, a, k, n) = true := hX
    have hXc : a ≠ 20 → tb n.toNat (.fieldLink (mMet mi).1.cls idx ((mClsOf a).2.1 k).1 ((mClsOf a).2.1 k).2.1 ((mClsOf a).2.1 k).2.2.1) = true ∧ k < (mClsOf a).2.2 ∧ a ≤ 12 := by
      intro h20
      have hb20 : Nat.beq a 20 = false := by
        cases hb2 : Nat.beq a 20 with
        | false => rfl
        | true => exact absurd (Nat.eq_of_beq_eq_true hb2) h20
      simp only [okF, hb20, cond_false, Bool.and_eq_true] at hX0
      exact ⟨hX0.1.1, Nat.le_of_ble_eq_true hX0.1.2, Nat.le_of_ble_eq_true hX0.2⟩
    simp only [stp] at h
    split at h
    · rename_i q r
      split at h
      · rename_i ci fs hsh
        cases hc : Nat.beq ci a with
        | false => rw [hc] at h; exact h.elim
        | true =>
          rw [hc] at h
          have e := Nat.eq_of_beq_eq_true hc
          subst e
          have hci : ci ≤ 12 ∨ 12 < ci := by omega
          rcases hci with hci | hci
          · obtain ⟨t1, t2, t3⟩ := hXc (by omega)
            simp only [cond_true] at h
            split at h
            · rename_i f hf
              exact sm_getfield hx hb hts hK hC.1 hown t3 t2 (hts _ (tb_mem t1)) hdg hsh hf h
            · exact h.elim
          · intro ad H locs cells slots ls hR
            have := (hR.okS _ _ hsh).1
            omega
      · exact h.elim
    · rename_i q r
      cases hc : (Nat.beq a 20 && (Nat.beq q 4 || Nat.beq q 5)) with
      | false => rw [hc] at h; exact h.elim
      | true =>
        rw [hc] at h
        rw [Bool.and_eq_true, Bool.or_eq_true] at hc
        have e := Nat.eq_of_beq_eq_true hc.1
        subst e
        have hq : q = 4 ∨ q = 5 := hc.2.imp Nat.eq_of_beq_eq_true Nat.eq_of_beq_eq_true
        have hX1 : (bif Nat.beq k 0 then tb n.toNat (.fieldLink (mMet mi).1.cls idx "java/lang/String" "value" "[B") else Nat.beq k 1 && tb n.toNat (.fieldLink (mMet mi).1.cls idx "java/lang/String" "coder" "B")) = true := hX0
        have h : Sim p l e R s m args below meth c Qf D cA kd h0 n0 ad0 nL (pc + 3) L (mKF q k :: r) sg b := h
        match k, hX1, h with
        | 0, hX1, h => exact sm_kget hx hb hC hq (Or.inl ⟨rfl, rfl, rfl⟩) hown (hts _ (tb_mem hX1)) hdg h
        | 1, hX1, h => exact sm_kget hx hb hC hq (Or.inr ⟨rfl, rfl, rfl⟩) hown (hts _ (tb_mem hX1)) hdg h
        | k + 2, hX1, h => cases hX1
    · exact h.elim
  | putfield idx =>
    have hdg : decode (mMet mi).2.1 pc = .ok (.putfield idx, 3) := of_decide_eq_true hD
    have hX9 : (okF (mMet mi).1.cls idx (.putfield idx, a, k, n) && Nat.ble a 12 && (bif ((mClsOf a).2.1 k).2.2.2 then decide ((mMet mi).1.name = "<init>") && decide (((mClsOf a).2.1 k).1 = (mMet mi).1.cls) else true)) = true := hX
    rw [Bool.and_eq_true, Bool.and_eq_true] at hX9
    obtain ⟨⟨hX0, ha12⟩, hfin0⟩ := hX9
    have ha12 := Nat.le_of_ble_eq_true ha12
    have hfin : (((mClsOf a).2.1 k).2.2.2 = true) → meth.name = "<init>" ∧ ((mClsOf a).2.1 k).1 = (mMet mi).1.cls := by
      intro hf
      rw [hf] at hfin0
      simp only [cond_true, Bool.and_eq_true] at hfin0
      exact ⟨hin (of_decide_eq_true hfin0.1), of_decide_eq_true hfin0.2⟩
    have hX0 : okF (mMet mi).1.cls idx (.getfield idx, a, k, n) = true := hX0
    have hXc : a ≠ 20 → tb n.toNat (.fieldLink (mMet mi).1.cls idx ((mClsOf a).2.1 k).1 ((mClsOf a).2.1 k).2.1 ((mClsOf a).2.1 k).2.2.1) = true ∧ k < (mClsOf a).2.2 ∧ a ≤ 12 := by
      intro h20
      have hb20 : Nat.beq a 20 = false := by
        cases hb2 : Nat.beq a 20 with
        | false => rfl
        | true => exact absurd (Nat.eq_of_beq_eq_true hb2) h20
      simp only [okF, hb20, cond_false, Bool.and_eq_true] at hX0
      exact ⟨hX0.1.1, Nat.le_of_ble_eq_true hX0.1.2, Nat.le_of_ble_eq_true hX0.2⟩
    obtain ⟨t1, t2, t3⟩ := hXc (by omega)
    simp only [stp] at h
    split at h
    · rename_i v q r
      split at h
      · rename_i ci fs hsh
        cases hc : Nat.beq ci a with
        | false => rw [hc] at h; exact h.elim
        | true =>
          rw [hc] at h
          have e := Nat.eq_of_beq_eq_true hc
          subst e
          simp only [cond_true] at h
          split at h
          · rename_i f hf
            split at h
            · split at h
              · exact sm_put hx hb hts hK hown rfl t3 t2 (hts _ (tb_mem t1)) hfin hdg hsh hf (by omega) (fun z => by omega) h
              · exact sm_put hx hb hts hK hown rfl t3 t2 (hts _ (tb_mem t1)) hfin hdg hsh hf (by omega) (fun _ => h.1) h.2
              · exact h.elim
            · split at h
              · exact sm_put hx hb hts hK hown rfl t3 t2 (hts _ (tb_mem t1)) hfin hdg hsh hf (by omega) (fun z => by omega) h
              · exact h.elim
            · split at h
              · exact sm_putR hx hb hts hK hown t3 t2 (hts _ (tb_mem t1)) hfin hdg hsh hf (by omega) h
              · exact h.elim
            · exact h.elim
          · exact h.elim
      · exact h.elim
    · exact h.elim
  | iaload =>
    have hdg : decode (mMet mi).2.1 pc = .ok (.iaload, 1) := of_decide_eq_true hD
    simp only [stp] at h
    split at h
    · split at h
      · rename_i hsh
        exact sm_iaload hx hb hK hdg hsh h
      · exact h.elim
    · split at h
      · rename_i hk
        exact sm_kiald hx hb hC hk hdg h
      · exact h.elim
    · exact h.elim
  | baload =>
    have hdg : decode (mMet mi).2.1 pc = .ok (.baload, 1) := of_decide_eq_true hD
    simp only [stp] at h
    split at h
    · split at h
      · rename_i hsh
        exact sm_baloadB hx hb hK hdg hsh h
      · rename_i hsh
        exact sm_baloadZ hx hb hK hdg hsh h
      · exact h.elim
    · split at h
      · rename_i hk
        exact sm_kbald hx hb hC hk hdg h
      · exact h.elim
    · exact h.elim
  | laload =>
    have hdg : decode (mMet mi).2.1 pc = .ok (.laload, 1) := of_decide_eq_true hD
    simp only [stp] at h
    split at h
    · split at h
      · rename_i hsh
        exact sm_laload hx hb hK hdg hsh h
      · exact h.elim
    · exact h.elim
  | aaload =>
    have hdg : decode (mMet mi).2.1 pc = .ok (.aaload, 1) := of_decide_eq_true hD
    simp only [stp] at h
    split at h
    · split at h
      · rename_i hsh
        obtain ⟨h1, h2⟩ := h
        split at h2
        · rename_i hf
          exact sm_aaload hx hb hK hC.1 hdg hsh h1 hf h2
        · exact h2.elim
      · exact h.elim
    · exact h.elim
  | iastore =>
    have hdg : decode (mMet mi).2.1 pc = .ok (.iastore, 1) := of_decide_eq_true hD
    simp only [stp] at h
    split at h
    · split at h
      · rename_i hsh
        exact sm_iastore hx hb hK hdg hsh h
      · exact h.elim
    · exact h.elim
  | bastore =>
    have hdg : decode (mMet mi).2.1 pc = .ok (.bastore, 1) := of_decide_eq_true hD
    simp only [stp] at h
    split at h
    · split at h
      · rename_i hsh
        exact sm_bastoreB hx hb hK hdg hsh h
      · rename_i hsh
        exact sm_bastoreZ hx hb hK hdg hsh h
      · exact h.elim
    · exact h.elim
  | lastore =>
    have hdg : decode (mMet mi).2.1 pc = .ok (.lastore, 1) := of_decide_eq_true hD
    simp only [stp] at h
    split at h
    · split at h
      · rename_i hsh
        exact sm_lastore hx hb hK hdg hsh h
      · exact h.elim
    · exact h.elim
  | aastore =>
    have hdg : decode (mMet mi).2.1 pc = .ok (.aastore, 1) := of_decide_eq_true hD
    simp only [stp] at h
    split at h
    · split at h
      · rename_i v i q r sh len rs hsh
        obtain ⟨h1, h2⟩ := h
        split at h2
        · rename_i hv
          intro ad H locs cells slots ls hR
          have hl := (hR.okS _ _ hsh).2.2.2.2.2 rfl
          have hi : i.toNat < rs.length := by
            unfold mInA at h1
            omega
          exact sm_aastore hx hb hK hdg hsh hi h1 hv h2 ad H locs cells slots ls hR
        · exact h2.elim
      · exact h.elim
    · exact h.elim
  | arraylength =>
    have hdg : decode (mMet mi).2.1 pc = .ok (.arraylength, 1) := of_decide_eq_true hD
    simp only [stp] at h
    split at h
    · split at h
      · rename_i hsh
        exact sm_alen hx hb hK hdg hsh h
      · exact h.elim
    · split at h
      · rename_i hk
        exact sm_klen hx hb hC hk (Or.inl rfl) hdg h
      · rename_i hk
        exact sm_klen hx hb hC hk (Or.inr rfl) hdg h
      · exact h.elim
    · exact h.elim
  | newarray t =>
    have hdg : decode (mMet mi).2.1 pc = .ok (.newarray t, 2) := of_decide_eq_true hD
    simp only [stp] at h
    split at h
    · rename_i ty hty
      cases t <;> simp only [mAty] at hty <;> cases hty
      · exact sm_newarr_boolean hx hb hts hK hh hdg h.1 h.2
      · exact sm_newarr_byte hx hb hts hK hh hdg h.1 h.2
      · exact sm_newarr_int hx hb hts hK hh hdg h.1 h.2
      · exact sm_newarr_long hx hb hts hK hh hdg h.1 h.2
    · exact h.elim
  | anewarray idx =>
    have hdg : decode (mMet mi).2.1 pc = .ok (.anewarray idx, 3) := of_decide_eq_true hD
    have hX : (Nat.beq a 7 && tb n.toNat (.classLink (mMet mi).1.cls idx RX7)) = true := hX
    rw [Bool.and_eq_true] at hX
    simp only [stp] at h
    split at h
    · exact sm_anewarr hx hb hK hC hh hown (hts _ (tb_mem hX.2)) hdg h.1 h.2
    · exact h.elim
  | new idx =>
    have hdg : decode (mMet mi).2.1 pc = .ok (.new idx, 3) := of_decide_eq_true hD
    have hX : (Nat.ble a 12 && tb n.toNat (.classLink (mMet mi).1.cls idx (mClsOf a).1)) = true := hX
    rw [Bool.and_eq_true] at hX
    exact sm_new hx hb hts hK hh hown (Nat.le_of_ble_eq_true hX.1) (hts _ (tb_mem hX.2)) hdg h.1 h.2
  | invokevirtual idx =>
    have hdg : decode (mMet mi).2.1 pc = .ok (.invokevirtual idx, 3) := of_decide_eq_true hD
    have inv : ∀ {k' : Nat} {av rest : List mV}, mInvoke (mCall kA pr d) (Sim p l e R s m args below meth c Qf D cA kd h0 n0 ad0 nL) k' av rest pc L sg b → mCats rest ≤ 8 ∧ (k' ≠ 1005 → mCats av ≤ (mInf k').1) ∧ mCall kA pr d k' av sg b (fun r s' b' => mAns (mInf k').2.1 r (fun v => Sim p l e R s m args below meth c Qf D cA kd h0 n0 ad0 nL (pc + 3) L (v ++ rest) s' b')) := by
      intro k' av rest hi
      unfold mInvoke at hi
      cases hc : (Nat.ble (mCats rest) 8 && (Nat.ble (mCats av) (mInf k').1 || Nat.beq k' 1005)) with
      | false => rw [hc] at hi; exact hi.elim
      | true =>
        rw [hc] at hi
        rw [Bool.and_eq_true, Bool.or_eq_true] at hc
        refine ⟨Nat.le_of_ble_eq_true hc.1, fun hne => ?_, hi⟩
        rcases hc.2 with h1 | h1
        · exact Nat.le_of_ble_eq_true h1
        · exact absurd (Nat.eq_of_beq_eq_true h1) hne
    have mcx : ∀ {k' : Nat} {av : List mV} {K : Option mV → mS → mB → Prop}, k' ≠ 1005 → mCall kA pr d k' av sg b K → ∃ mc ms : Nat, mc ≤ b.1 ∧ ms ≤ b.2 ∧ goD kA pr d k' 0 (mEnt av (mInf k').1) [] sg (mc, ms) (fun r s' => K r s' (b.1 - mc, b.2 - ms)) := by
      intro k' av K hne hi
      unfold mCall at hi
      split at hi
      · exact absurd rfl hne
      · exact hi
    have hX : (tb n.toNat (.methodLink (mMet mi).1.cls idx (mMet a).1) && okCallee a && !(mIsS a) && Nat.ble 1 k && okPar a (k - 1) && tb (mPos a).2.2.1 (.selects (mMet a).1.cls (mMet a).1 (mMet a).1)) = true := hX
    rw [Bool.and_eq_true, Bool.and_eq_true, Bool.and_eq_true, Bool.and_eq_true, Bool.and_eq_true] at hX
    obtain ⟨⟨⟨⟨⟨x1, x2⟩, x3⟩, x4⟩, x5⟩, x6⟩ := hX
    have x3 : mIsS a = false := by
      cases hs : mIsS a with
      | false => rfl
      | true => rw [hs] at x3; cases x3
    simp only [stp] at h
    split at h
    · rename_i rv av rest ht
      cases hc : mRcv sg.1 (mInf a).2.2 rv with
      | false => rw [hc] at h; exact h.elim
      | true =>
        rw [hc] at h
        obtain ⟨i1, i2, i3⟩ := inv h
        have hne : a ≠ 1005 := by
          intro e
          rw [e, no1005] at x2
          cases x2
        obtain ⟨l0, e1, e2, e3⟩ := take_spec ht
        have e4 : l0 = av.reverse ++ [rv] := by
          have := congrArg List.reverse e3
          simp at this
          rw [this]
        exact sm_virtual F hnL IH x2 x3 x5 (hts _ (tb_mem x1)) (hts _ (tb_mem x6)) hc i1 (i2 hne) (by rw [e4] at e1; simp at e1; omega) (by rw [e2, e4]; simp) hdg (mcx hne i3)
    · exact h.elim
  | invokespecial idx =>
    have hdg : decode (mMet mi).2.1 pc = .ok (.invokespecial idx, 3) := of_decide_eq_true hD
    have inv : ∀ {k' : Nat} {av rest : List mV}, mInvoke (mCall kA pr d) (Sim p l e R s m args below meth c Qf D cA kd h0 n0 ad0 nL) k' av rest pc L sg b → mCats rest ≤ 8 ∧ (k' ≠ 1005 → mCats av ≤ (mInf k').1) ∧ mCall kA pr d k' av sg b (fun r s' b' => mAns (mInf k').2.1 r (fun v => Sim p l e R s m args below meth c Qf D cA kd h0 n0 ad0 nL (pc + 3) L (v ++ rest) s' b')) := by
      intro k' av rest hi
      unfold mInvoke at hi
      cases hc : (Nat.ble (mCats rest) 8 && (Nat.ble (mCats av) (mInf k').1 || Nat.beq k' 1005)) with
      | false => rw [hc] at hi; exact hi.elim
      | true =>
        rw [hc] at hi
        rw [Bool.and_eq_true, Bool.or_eq_true] at hc
        refine ⟨Nat.le_of_ble_eq_true hc.1, fun hne => ?_, hi⟩
        rcases hc.2 with h1 | h1
        · exact Nat.le_of_ble_eq_true h1
        · exact absurd (Nat.eq_of_beq_eq_true h1) hne
    have mcx : ∀ {k' : Nat} {av : List mV} {K : Option mV → mS → mB → Prop}, k' ≠ 1005 → mCall kA pr d k' av sg b K → ∃ mc ms : Nat, mc ≤ b.1 ∧ ms ≤ b.2 ∧ goD kA pr d k' 0 (mEnt av (mInf k').1) [] sg (mc, ms) (fun r s' => K r s' (b.1 - mc, b.2 - ms)) := by
      intro k' av K hne hi
      unfold mCall at hi
      split at hi
      · exact absurd rfl hne
      · exact hi
    simp only [stp] at h
    split at h
    · rename_i e0
      split at h
      · rename_i q r
        cases hc : Nat.ble (mCats r) 8 with
        | false => rw [hc] at h; exact h.elim
        | true =>
          rw [hc] at h
          exact sm_objInit hx hb hts hC.cat (by rw [hml, hnL]) hRm1 hown (hts _ (tb_mem hX)) (Nat.le_of_ble_eq_true hc) hdg h
      · exact h.elim
    · rename_i hne
      have hX' : (okCallee a && !(mIsS a) && Nat.ble 1 (k % 100) && okPar a (k % 100 - 1) && decide ((mMet a).1.name = "<init>") && Nat.beq (mInf a).2.1 0 && (bif Nat.ble 100 k then tn n.toNat (.methodLinkNest (mMet mi).1.cls idx (mMet a).1 "OneCable") else tb n.toNat (.methodLink (mMet mi).1.cls idx (mMet a).1))) = true := by
        unfold okX at hX
        simp only at hX
        first
          | exact hX
          | (split at hX
             · exact absurd rfl hne
             · exact hX)
      rw [Bool.and_eq_true, Bool.and_eq_true, Bool.and_eq_true, Bool.and_eq_true, Bool.and_eq_true, Bool.and_eq_true] at hX'
      obtain ⟨⟨⟨⟨⟨⟨x1, x2⟩, x3⟩, x4⟩, x5⟩, x6⟩, x7⟩ := hX'
      have x2 : mIsS a = false := by
        cases hs : mIsS a with
        | false => rfl
        | true => rw [hs] at x2; cases x2
      have hret0 : (mMet a).2.2 = none := by
        have c8 := (callee_spec x1).2.2.2.2.2.2.2.1
        have e := Nat.eq_of_beq_eq_true x6
        rw [e] at c8
        cases hm : (mMet a).2.2 with
        | none => rfl
        | some ty => rw [hm] at c8; cases ty <;> cases c8
      have hl : (Cond.methodLink (mMet mi).1.cls idx (mMet a).1).before args s = true ∨ ∃ host, (Cond.methodLinkNest (mMet mi).1.cls idx (mMet a).1 host).before args s = true := by
        cases hk : Nat.ble 100 k with
        | false => rw [hk] at x7; exact Or.inl (hts _ (tb_mem x7))
        | true => rw [hk] at x7; exact Or.inr ⟨_, va_Nw.use rfl (hC.2.2.2.2.2.2.2.2.2.2.1 _ (tn_mem x7))⟩
      split at h
      · rename_i q av rest ht
        have x3 := Nat.le_of_ble_eq_true x3
        obtain ⟨i1, i2, i3⟩ := inv h
        obtain ⟨l0, e1, e2, e3⟩ := take_spec ht
        have hne5 : a ≠ 1005 := by
          intro e
          rw [e, no1005] at x1
          cases x1
        rw [List.append_nil] at e3
        have hl0 : l0 = (vR q :: av).reverse := by rw [e3, List.reverse_reverse]
        have hst : st = av.reverse ++ vR q :: rest := by rw [e2, hl0]; simp
        exact sm_init F hnL IH x1 x2 (of_decide_eq_true x5) hret0 x4 hl i1 (i2 hne5) (by rw [hl0] at e1; simp at e1; omega) hst hdg (mcx hne5 i3)
      · exact h.elim
  | invokestatic idx =>
    have hdg : decode (mMet mi).2.1 pc = .ok (.invokestatic idx, 3) := of_decide_eq_true hD
    have inv : ∀ {k' : Nat} {av rest : List mV}, mInvoke (mCall kA pr d) (Sim p l e R s m args below meth c Qf D cA kd h0 n0 ad0 nL) k' av rest pc L sg b → mCats rest ≤ 8 ∧ (k' ≠ 1005 → mCats av ≤ (mInf k').1) ∧ mCall kA pr d k' av sg b (fun r s' b' => mAns (mInf k').2.1 r (fun v => Sim p l e R s m args below meth c Qf D cA kd h0 n0 ad0 nL (pc + 3) L (v ++ rest) s' b')) := by
      intro k' av rest hi
      unfold mInvoke at hi
      cases hc : (Nat.ble (mCats rest) 8 && (Nat.ble (mCats av) (mInf k').1 || Nat.beq k' 1005)) with
      | false => rw [hc] at hi; exact hi.elim
      | true =>
        rw [hc] at hi
        rw [Bool.and_eq_true, Bool.or_eq_true] at hc
        refine ⟨Nat.le_of_ble_eq_true hc.1, fun hne => ?_, hi⟩
        rcases hc.2 with h1 | h1
        · exact Nat.le_of_ble_eq_true h1
        · exact absurd (Nat.eq_of_beq_eq_true h1) hne
    have mcx : ∀ {k' : Nat} {av : List mV} {K : Option mV → mS → mB → Prop}, k' ≠ 1005 → mCall kA pr d k' av sg b K → ∃ mc ms : Nat, mc ≤ b.1 ∧ ms ≤ b.2 ∧ goD kA pr d k' 0 (mEnt av (mInf k').1) [] sg (mc, ms) (fun r s' => K r s' (b.1 - mc, b.2 - ms)) := by
      intro k' av K hne hi
      unfold mCall at hi
      split at hi
      · exact absurd rfl hne
      · exact hi
    simp only [stp] at h
    split at h
    · split at h
      · rename_i y x r
        cases hc : Nat.ble (mCats r) 8 with
        | false => rw [hc] at h; exact h.elim
        | true =>
          rw [hc] at h
          exact sm_max hx hb hts hC.cat (by rw [hml, hnL]) hRm1 hown (hts _ (tb_mem hX)) (Nat.le_of_ble_eq_true hc) hdg h
      · exact h.elim
    · split at h
      · rename_i y x r
        cases hc : Nat.ble (mCats r) 8 with
        | false => rw [hc] at h; exact h.elim
        | true =>
          rw [hc] at h
          exact sm_min hx hb hts hC.cat (by rw [hml, hnL]) hRm1 hown (hts _ (tb_mem hX)) (Nat.le_of_ble_eq_true hc) hdg h
      · exact h.elim
    · split at h
      · rename_i x r
        cases hc : Nat.ble (mCats r) 8 with
        | false => rw [hc] at h; exact h.elim
        | true =>
          rw [hc] at h
          exact sm_abs hx hb hts hC.cat (by rw [hml, hnL]) hRm1 hown (hts _ (tb_mem hX)) (Nat.le_of_ble_eq_true hc) hdg h
      · exact h.elim
    · split at h
      · rename_i q1 q2 q3 q4 q5 r
        split at h
        · rename_i ha hd
          cases hc : (Nat.ble (mCats r) 8 && !(Nat.beq q5 q3)) with
          | false => rw [hc] at h; exact h.elim
          | true =>
            rw [hc] at h
            rw [Bool.and_eq_true] at hc
            exact sm_copy hx hb hts hK hC.cat (by rw [hml, hnL]) hRm1 hown (hts _ (tb_mem hX)) (Nat.le_of_ble_eq_true hc.1) ha hd hdg h.1 h.2
        · exact h.elim
      · exact h.elim
    · rename_i n0' n1 n2 n3
      split at h
      · rename_i av rest ht
        obtain ⟨i1, i2, i3⟩ := inv h
        obtain ⟨l0, e1, e2, e3⟩ := take_spec ht
        rw [List.append_nil] at e3
        have hl0 : l0 = av.reverse := by rw [e3, List.reverse_reverse]
        by_cases h5 : a = 1005
        · subst h5
          exact hprim pc L av rest sg b idx k n hlk hdg i1 (by rw [e2, hl0]) i3
        · have hX' : (okCallee a && mIsS a && okPar a (k % 100) && (bif Nat.ble 100 k then tn n.toNat (.methodLinkNest (mMet mi).1.cls idx (mMet a).1 "OneCable") else tb n.toNat (.methodLink (mMet mi).1.cls idx (mMet a).1))) = true := by
            unfold okX at hX
            simp only at hX
            exact hX
          rw [Bool.and_eq_true, Bool.and_eq_true, Bool.and_eq_true] at hX'
          obtain ⟨⟨⟨x1, x2⟩, x4⟩, x7⟩ := hX'
          have hl : (Cond.methodLink (mMet mi).1.cls idx (mMet a).1).before args s = true ∨ ∃ host, (Cond.methodLinkNest (mMet mi).1.cls idx (mMet a).1 host).before args s = true := by
            cases hk : Nat.ble 100 k with
            | false => rw [hk] at x7; exact Or.inl (hts _ (tb_mem x7))
            | true => rw [hk] at x7; exact Or.inr ⟨_, va_Nw.use rfl (hC.2.2.2.2.2.2.2.2.2.2.1 _ (tn_mem x7))⟩
          exact sm_static F hnL IH x1 x2 x4 hl i1 (i2 h5) (by rw [hl0] at e1; simpa using e1) (by rw [e2, hl0]) hdg (mcx h5 i3)
      · exact h.elim
  | ireturn =>
    have hdg : decode (mMet mi).2.1 pc = .ok (.ireturn, 1) := of_decide_eq_true hD
    simp only [stp] at h
    split at h
    · rename_i z
      have hX1 : (match (mMet mi).2.2 with | some .int => Nat.beq a 0 | some .boolean => Nat.beq a 1 | some .char => Nat.beq a 2 | some .byte => Nat.beq a 3 | _ => false) = true := hX
      intro ad H locs cells slots ls hR
      have ov : r32 z := (List.forall_mem_cons.mp hR.ok).1
      have key : ∀ ty, (mMet mi).2.2 = some ty → narrow ty (.int (Int32.ofInt z)) = .int (Int32.ofInt z) → Q (some (vI z)) sg → W p l e R s m args below meth c H locs cells slots Qf (F0 m pc ls [.int (Int32.ofInt z)]) :=
        fun ty h1 h2 h3 => hretI pc L z sg b ty hdg h1 h2 h3 ad H locs cells slots ls hR
      cases hm : (mMet mi).2.2 with
      | none => rw [hm] at hX1; cases hX1
      | some ty =>
        rw [hm] at hX1
        cases ty <;> simp only at hX1 <;> first | (cases hX1; done) | skip
        all_goals
          have e := Nat.eq_of_beq_eq_true hX1
          subst e
        all_goals simp only at h
        · exact key _ hm (nar_byte h.1) h.2
        · exact key _ hm (nar_char h.1) h.2
        · exact key _ hm rfl h
        · exact key _ hm (nar_bool h.1) h.2
    · exact h.elim
  | return_ =>
    have hdg : decode (mMet mi).2.1 pc = .ok (.return_, 1) := of_decide_eq_true hD
    simp only [stp] at h
    split at h
    · have hX1 : (match (mMet mi).2.2 with | none => true | _ => false) = true := hX
      intro ad H locs cells slots ls hR
      cases hm : (mMet mi).2.2 with
      | none => exact hretV pc L sg b hdg hm h ad H locs cells slots ls hR
      | some ty => rw [hm] at hX1; cases hX1
    · exact h.elim
  | _ => exact h.elim
end SIMB

