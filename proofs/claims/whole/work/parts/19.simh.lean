/-! Every method meets its run in the small machine -/
theorem callee_word {mi : Nat} (h : okCallee mi = true) : tb (mPos mi).1 (.code (mMet mi).1 (mMet mi).2.1 (mInf mi).1 (mMet mi).2.2) = true := by
  unfold okCallee at h
  rw [Bool.and_eq_true, Bool.and_eq_true, Bool.and_eq_true, Bool.and_eq_true, Bool.and_eq_true, Bool.and_eq_true, Bool.and_eq_true, Bool.and_eq_true] at h
  exact h.1.1.1.1.1.1.1.1
def noPr (mi : Nat) : Bool := (mOps mi).all (fun q => q.2.all (fun o => !(Nat.beq o.2.2.1 1005)))
theorem noPr_ok : ∀ mi, mi < 237 → noPr mi = true := by decide +kernel
theorem noPr_two : ∀ mi, mi < 239 → mi ≠ 237 → noPr mi = true := by decide +kernel
theorem callee_lt {mi : Nat} (h : okCallee mi = true) : mi < 239 ∧ mi ≠ 237 := by
  by_cases hl : mi < 239
  · refine ⟨hl, fun e => ?_⟩
    subst e
    exact absurd h (by decide +kernel)
  · exfalso
    have hle : Nat.ble mi 238 = false := by
      cases hc : Nat.ble mi 238 with
      | false => rfl
      | true => have := Nat.le_of_ble_eq_true hc; omega
    have hm : mInf mi = (0, 1, 99) := by
      unfold mInf
      rw [hle]
      rfl
    unfold okCallee at h
    rw [Bool.and_eq_true] at h
    have h2 := h.2
    rw [hm] at h2
    exact Bool.false_ne_true h2
set_option maxRecDepth 4000 in
theorem okM_all : ∀ mi, mi < 239 → okM mi = true := by
  intro mi h
  match mi, h with
  | 0, _ => exact okM0
  | 1, _ => exact okM1
  | 2, _ => exact okM2
  | 3, _ => exact okM3
  | 4, _ => exact okM4
  | 5, _ => exact okM5
  | 6, _ => exact okM6
  | 7, _ => exact okM7
  | 8, _ => exact okM8
  | 9, _ => exact okM9
  | 10, _ => exact okM10
  | 11, _ => exact okM11
  | 12, _ => exact okM12
  | 13, _ => exact okM13
  | 14, _ => exact okM14
  | 15, _ => exact okM15
  | 16, _ => exact okM16
  | 17, _ => exact okM17
  | 18, _ => exact okM18
  | 19, _ => exact okM19
  | 20, _ => exact okM20
  | 21, _ => exact okM21
  | 22, _ => exact okM22
  | 23, _ => exact okM23
  | 24, _ => exact okM24
  | 25, _ => exact okM25
  | 26, _ => exact okM26
  | 27, _ => exact okM27
  | 28, _ => exact okM28
  | 29, _ => exact okM29
  | 30, _ => exact okM30
  | 31, _ => exact okM31
  | 32, _ => exact okM32
  | 33, _ => exact okM33
  | 34, _ => exact okM34
  | 35, _ => exact okM35
  | 36, _ => exact okM36
  | 37, _ => exact okM37
  | 38, _ => exact okM38
  | 39, _ => exact okM39
  | 40, _ => exact okM40
  | 41, _ => exact okM41
  | 42, _ => exact okM42
  | 43, _ => exact okM43
  | 44, _ => exact okM44
  | 45, _ => exact okM45
  | 46, _ => exact okM46
  | 47, _ => exact okM47
  | 48, _ => exact okM48
  | 49, _ => exact okM49
  | 50, _ => exact okM50
  | 51, _ => exact okM51
  | 52, _ => exact okM52
  | 53, _ => exact okM53
  | 54, _ => exact okM54
  | 55, _ => exact okM55
  | 56, _ => exact okM56
  | 57, _ => exact okM57
  | 58, _ => exact okM58
  | 59, _ => exact okM59
  | 60, _ => exact okM60
  | 61, _ => exact okM61
  | 62, _ => exact okM62
  | 63, _ => exact okM63
  | 64, _ => exact okM64
  | 65, _ => exact okM65
  | 66, _ => exact okM66
  | 67, _ => exact okM67
  | 68, _ => exact okM68
  | 69, _ => exact okM69
  | 70, _ => exact okM70
  | 71, _ => exact okM71
  | 72, _ => exact okM72
  | 73, _ => exact okM73
  | 74, _ => exact okM74
  | 75, _ => exact okM75
  | 76, _ => exact okM76
  | 77, _ => exact okM77
  | 78, _ => exact okM78
  | 79, _ => exact okM79
  | 80, _ => exact okM80
  | 81, _ => exact okM81
  | 82, _ => exact okM82
  | 83, _ => exact okM83
  | 84, _ => exact okM84
  | 85, _ => exact okM85
  | 86, _ => exact okM86
  | 87, _ => exact okM87
  | 88, _ => exact okM88
  | 89, _ => exact okM89
  | 90, _ => exact okM90
  | 91, _ => exact okM91
  | 92, _ => exact okM92
  | 93, _ => exact okM93
  | 94, _ => exact okM94
  | 95, _ => exact okM95
  | 96, _ => exact okM96
  | 97, _ => exact okM97
  | 98, _ => exact okM98
  | 99, _ => exact okM99
  | 100, _ => exact okM100
  | 101, _ => exact okM101
  | 102, _ => exact okM102
  | 103, _ => exact okM103
  | 104, _ => exact okM104
  | 105, _ => exact okM105
  | 106, _ => exact okM106
  | 107, _ => exact okM107
  | 108, _ => exact okM108
  | 109, _ => exact okM109
  | 110, _ => exact okM110
  | 111, _ => exact okM111
  | 112, _ => exact okM112
  | 113, _ => exact okM113
  | 114, _ => exact okM114
  | 115, _ => exact okM115
  | 116, _ => exact okM116
  | 117, _ => exact okM117
  | 118, _ => exact okM118
  | 119, _ => exact okM119
  | 120, _ => exact okM120
  | 121, _ => exact okM121
  | 122, _ => exact okM122
  | 123, _ => exact okM123
  | 124, _ => exact okM124
  | 125, _ => exact okM125
  | 126, _ => exact okM126
  | 127, _ => exact okM127
  | 128, _ => exact okM128
  | 129, _ => exact okM129
  | 130, _ => exact okM130
  | 131, _ => exact okM131
  | 132, _ => exact okM132
  | 133, _ => exact okM133
  | 134, _ => exact okM134
  | 135, _ => exact okM135
  | 136, _ => exact okM136
  | 137, _ => exact okM137
  | 138, _ => exact okM138
  | 139, _ => exact okM139
  | 140, _ => exact okM140
  | 141, _ => exact okM141
  | 142, _ => exact okM142
  | 143, _ => exact okM143
  | 144, _ => exact okM144
  | 145, _ => exact okM145
  | 146, _ => exact okM146
  | 147, _ => exact okM147
  | 148, _ => exact okM148
  | 149, _ => exact okM149
  | 150, _ => exact okM150
  | 151, _ => exact okM151
  | 152, _ => exact okM152
  | 153, _ => exact okM153
  | 154, _ => exact okM154
  | 155, _ => exact okM155
  | 156, _ => exact okM156
  | 157, _ => exact okM157
  | 158, _ => exact okM158
  | 159, _ => exact okM159
  | 160, _ => exact okM160
  | 161, _ => exact okM161
  | 162, _ => exact okM162
  | 163, _ => exact okM163
  | 164, _ => exact okM164
  | 165, _ => exact okM165
  | 166, _ => exact okM166
  | 167, _ => exact okM167
  | 168, _ => exact okM168
  | 169, _ => exact okM169
  | 170, _ => exact okM170
  | 171, _ => exact okM171
  | 172, _ => exact okM172
  | 173, _ => exact okM173
  | 174, _ => exact okM174
  | 175, _ => exact okM175
  | 176, _ => exact okM176
  | 177, _ => exact okM177
  | 178, _ => exact okM178
  | 179, _ => exact okM179
  | 180, _ => exact okM180
  | 181, _ => exact okM181
  | 182, _ => exact okM182
  | 183, _ => exact okM183
  | 184, _ => exact okM184
  | 185, _ => exact okM185
  | 186, _ => exact okM186
  | 187, _ => exact okM187
  | 188, _ => exact okM188
  | 189, _ => exact okM189
  | 190, _ => exact okM190
  | 191, _ => exact okM191
  | 192, _ => exact okM192
  | 193, _ => exact okM193
  | 194, _ => exact okM194
  | 195, _ => exact okM195
  | 196, _ => exact okM196
  | 197, _ => exact okM197
  | 198, _ => exact okM198
  | 199, _ => exact okM199
  | 200, _ => exact okM200
  | 201, _ => exact okM201
  | 202, _ => exact okM202
  | 203, _ => exact okM203
  | 204, _ => exact okM204
  | 205, _ => exact okM205
  | 206, _ => exact okM206
  | 207, _ => exact okM207
  | 208, _ => exact okM208
  | 209, _ => exact okM209
  | 210, _ => exact okM210
  | 211, _ => exact okM211
  | 212, _ => exact okM212
  | 213, _ => exact okM213
  | 214, _ => exact okM214
  | 215, _ => exact okM215
  | 216, _ => exact okM216
  | 217, _ => exact okM217
  | 218, _ => exact okM218
  | 219, _ => exact okM219
  | 220, _ => exact okM220
  | 221, _ => exact okM221
  | 222, _ => exact okM222
  | 223, _ => exact okM223
  | 224, _ => exact okM224
  | 225, _ => exact okM225
  | 226, _ => exact okM226
  | 227, _ => exact okM227
  | 228, _ => exact okM228
  | 229, _ => exact okM229
  | 230, _ => exact okM230
  | 231, _ => exact okM231
  | 232, _ => exact okM232
  | 233, _ => exact okM233
  | 234, _ => exact okM234
  | 235, _ => exact okM235
  | 236, _ => exact okM236
  | 237, _ => exact okM237
  | 238, _ => exact okM238
  | n + 239, h => omega

theorem noPr_use {mi pc : Nat} (h : noPr mi = true) : (mLook (mOps mi) pc).2.1 ≠ 1005 := by
  have h1 : ∀ (l : List (Nat × mOp)), l.all (fun o => !(Nat.beq o.2.2.1 1005)) = true → (mLook1 l pc).2.1 ≠ 1005 := by
    intro l
    induction l with
    | nil => intro _ h; cases h
    | cons x t ih =>
      obtain ⟨q, o⟩ := x
      intro h
      simp only [List.all_cons, Bool.and_eq_true] at h
      unfold mLook1
      cases Nat.beq q pc with
      | true =>
        intro e
        have e' : o.2.1 = 1005 := e
        have h2 := h.1
        simp only [e'] at h2
        cases h2
      | false => exact ih h.2
  have h2 : ∀ (l : List (Nat × List (Nat × mOp))), l.all (fun q => q.2.all (fun o => !(Nat.beq o.2.2.1 1005))) = true → (mLook l pc).2.1 ≠ 1005 := by
    intro l
    induction l with
    | nil => intro _ h; cases h
    | cons x t ih =>
      obtain ⟨q, c⟩ := x
      intro h
      simp only [List.all_cons, Bool.and_eq_true] at h
      unfold mLook
      cases Nat.ble pc q with
      | true => exact h1 c h.1
      | false => exact ih h.2
  exact h2 _ h
theorem ent_args {ad : Nat → Nat} {kd : Nat → Value} (hk : ∀ k, (kd k).category = 1) : ∀ (av : List mV) (n o i : Nat) (v : mV), mGet (mEnt av n) i = some v → (o + i, cV ad kd v) ∈ lv_args o (av.map (cV ad kd))
  | _, 0, o, i, v, h => by simp [mEnt, mGet] at h
  | [], n + 1, o, i, v, h => by
    exfalso
    have : ∀ (n i : Nat), mGet (mEnt [] n) i = none := by
      intro n
      induction n with
      | zero => intro i; simp [mEnt, mGet]
      | succ n ih =>
        intro i
        rcases i with _ | i
        · simp [mEnt, mGet]
        · simp [mEnt, mGet, ih]
    rw [this] at h
    cases h
  | .inr (.inl x) :: t, 1, o, i, v, h => by
    rcases i with _ | i
    · simp [mEnt, mGet] at h
      subst h
      exact List.mem_cons_self
    · simp [mEnt, mGet] at h
  | .inr (.inl x) :: t, n + 2, o, i, v, h => by
    rcases i with _ | _ | i
    · simp [mEnt, mGet] at h
      subst h
      exact List.mem_cons_self
    · simp [mEnt, mGet] at h
    · simp only [mEnt, mGet] at h
      have := ent_args (ad := ad) hk t n (o + 2) i v h
      refine List.mem_cons_of_mem _ ?_
      show (o + (i + 2), _) ∈ lv_args (if (Value.long (Int64.ofInt x)).category = 2 then o + 2 else o + 1) _
      rw [if_pos (show (Value.long (Int64.ofInt x)).category = 2 from rfl), show o + (i + 2) = o + 2 + i by omega]
      exact this
  | .inl x :: t, n + 1, o, i, v, h => by
    rcases i with _ | i
    · simp [mEnt, mGet] at h
      subst h
      exact List.mem_cons_self
    · simp only [mEnt, mGet] at h
      have := ent_args (ad := ad) hk t n (o + 1) i v h
      refine List.mem_cons_of_mem _ ?_
      show (o + (i + 1), _) ∈ lv_args (if (Value.int (Int32.ofInt x)).category = 2 then o + 2 else o + 1) _
      rw [if_neg (by simp [Value.category]), show o + (i + 1) = o + 1 + i by omega]
      exact this
  | .inr (.inr x) :: t, n + 1, o, i, v, h => by
    have hc : (cV ad kd (.inr (.inr x))).category = 1 := by
      rcases x with x | x
      · rfl
      · exact hk x
    rcases i with _ | i
    · simp [mEnt, mGet] at h
      subst h
      exact List.mem_cons_self
    · simp only [mEnt, mGet] at h
      have := ent_args (ad := ad) hk t n (o + 1) i v h
      refine List.mem_cons_of_mem _ ?_
      show (o + (i + 1), _) ∈ lv_args (if (cV ad kd (.inr (.inr x))).category = 2 then o + 2 else o + 1) _
      rw [if_neg (by rw [hc]; decide), show o + (i + 1) = o + 1 + i by omega]
      exact this
theorem ent_ok {n0 : Nat} : ∀ (av : List mV) (n i : Nat) (v : mV), (∀ v ∈ av, okV n0 v) → mGet (mEnt av n) i = some v → okV n0 v := by
  intro av n i v ho h
  have h1 := ent_args (ad := fun _ => 0) (kd := fun _ => .null) (fun _ => rfl) av n 0 i v h
  have key : ∀ (av : List mV) (n i : Nat), mGet (mEnt av n) i = some v → v ∈ av := by
    intro av
    induction av with
    | nil =>
      intro n
      induction n with
      | zero => intro i h; simp [mEnt, mGet] at h
      | succ n ih =>
        intro i h
        rcases i with _ | i
        · simp [mEnt, mGet] at h
        · simp only [mEnt, mGet] at h; exact ih i h
    | cons a t ih =>
      intro n i h
      rcases a with x | x | x
      · rcases n with _ | n
        · simp [mEnt, mGet] at h
        · rcases i with _ | i
          · simp [mEnt, mGet] at h; simp [h]
          · simp only [mEnt, mGet] at h; exact List.mem_cons_of_mem _ (ih n i h)
      · rcases n with _ | _ | n
        · simp [mEnt, mGet] at h
        · rcases i with _ | i
          · simp [mEnt, mGet] at h; simp [h]
          · simp [mEnt, mGet] at h
        · rcases i with _ | _ | i
          · simp [mEnt, mGet] at h; simp [h]
          · simp [mEnt, mGet] at h
          · simp only [mEnt, mGet] at h; exact List.mem_cons_of_mem _ (ih n i h)
      · rcases n with _ | n
        · simp [mEnt, mGet] at h
        · rcases i with _ | i
          · simp [mEnt, mGet] at h; simp [h]
          · simp only [mEnt, mGet] at h; exact List.mem_cons_of_mem _ (ih n i h)
  exact ho v (key av n i h)
theorem sl_len {ad : Nat → Nat} {kd : Nat → Value} (hk : ∀ k, (kd k).category = 1) : ∀ av : List mV, (lg_sl (av.map (cV ad kd))).length = mCats av
  | [] => rfl
  | v :: t => by
    have h := sl_len (ad := ad) hk t
    simp only [lg_sl, List.map_cons, List.flatMap_cons, List.length_append, mCats] at h ⊢
    rw [h]
    congr 1
    rcases v with x | x | x | x
    · rfl
    · rfl
    · rfl
    · show (if (kd x).category = 2 then [Slot.val (kd x), Slot.second] else [Slot.val (kd x)]).length = 1
      rw [if_neg (by rw [hk]; decide)]
      rfl
set_option maxHeartbeats 4000000 in
theorem all_met {l : Launch} {D : va_G} {cA : Nat → ClassId} {kd : Nat → Value} {kA : mKA} {pr : mPr} {h0 : Nat} : ∀ d, mAll l D cA kd kA pr h0 d := by
  intro d
  induction d with
  | zero => intro mi av sg b Q _ _ h; exact h.elim
  | succ d IH =>
    intro mi av sg b Q hc hav hg hsg hao ad
    obtain ⟨c1, c2, c3, c4, c5, c6, c7, c8, c9⟩ := callee_spec hc
    have hlt := callee_lt hc
    refine va_MetF (cc := (mMet mi).2.1) (maxL := (mInf mi).1) (ret := (mMet mi).2.2) c6 rfl ?_
    intro p e s m args below meth c s₁ B hml hv
    obtain ⟨rfl, hh, hP, hD, hK, hC⟩ := hv
    have hts0 := atoms_spec (ws := mWs mi) B.pre
    have hts : ∀ w ∈ gt, w.before _ s = true := fun w hw => hts0 w (List.mem_cons_of_mem _ hw)
    have hown : s.vm.findClass (mMet mi).1.cls = some m.cls := findClass_of_methodNamed B.named
    have hlocks := B.notSynchronized
    have F : Fr p (mRm (d + 1) b) s m (av.map (cV ad kd)).toArray meth c D cA kd kA h0 d mi :=
      ⟨B.exec, B.bytes, hml, hown, hts, hK, hC, hh, fun hi => (name_of_methodNamed B.named B.method).1.trans hi, ⟨Nat.le_refl _, Nat.le_refl _⟩⟩
    rw [goD_succ] at hg
    have key := hg (Sim p l e (mRm (d + 1) b) s m (av.map (cV ad kd)).toArray below meth c (MQ below (mQc D cA kd h0 mi sg ad Q) (av.map (cV ad kd)).toArray s b.1 b.2 (AA h0)) D cA kd h0 sg.1.length ad (mInf mi).1) (sim_step F rfl (okM_all mi (by omega)) IH ?_ ?_ ?_)
    · have hl := lv_entry (av.map (cV ad kd)) (n := (mInf mi).1) (by rw [sl_len hC.cat]; exact hav)
      rw [lg_entry_eq]
      refine key ad s.heap [] 0 0 _ ⟨hP, hD, va_S.rf, ⟨hl.1, hl.2.1, fun i v hv => ?_⟩, hsg, fun i v hv => ent_ok av _ i v hao hv, (fun v hv => by cases hv), ⟨?_, ?_⟩, Nat.le_refl _, fun _ _ => rfl⟩
      · have := ent_args (ad := ad) hC.cat av _ 0 i v hv
        rw [Nat.zero_add] at this
        exact hl.2.2 _ this
      · show 0 + b.1 ≤ b.1
        omega
      · show 0 + b.2 ≤ b.2
        omega
    · intro pc L av' rest sg' b' idx k n hlk
      exact absurd (by rw [hlk]) (noPr_use (pc := pc) (noPr_two mi hlt.1 hlt.2))
    · intro pc L z sg' b' ty hdg hty hn hq ad' H locs cells slots ls hR
      have hr : meth.sig.returnType = some ty := B.returns.trans hty
      have hro := hR.room
      have hro1 : cells + b'.1 ≤ b.1 := hro.1
      have hro2 : slots + b'.2 ≤ b.2 := hro.2
      refine W.widen (k := b.1) (n := b.2) (by omega) (by omega) ?_
      refine W.zret B.exec B.bytes hr hn (fun t ht hW => ⟨⟨some (vI z), sg', ad', rfl, ?_, hq, ?_, hR.okS, hR.2.2.2.2.2.2.2.2.1, hR.2.2.2.2.2.2.2.2.2, by rw [ht]; exact hR.1, hR.2.1⟩, hR.S.F ht⟩) hR.S.2.2 hdg hlocks
      · rw [hty] at c8
        have e : (mInf mi).2.1 = 1 := by
          cases ty <;> simp only at c8 <;> first | exact Nat.eq_of_beq_eq_true c8 | cases c8
        rw [e]
        exact ⟨z, rfl⟩
      · intro v hv
        cases hv
        exact (List.forall_mem_cons.mp hR.ok).1
    · intro pc L sg' b' hdg hm hq ad' H locs cells slots ls hR
      have hr : meth.sig.returnType = none := B.returns.trans hm
      have hro := hR.room
      have hro1 : cells + b'.1 ≤ b.1 := hro.1
      have hro2 : slots + b'.2 ≤ b.2 := hro.2
      refine W.widen (k := b.1) (n := b.2) (by omega) (by omega) ?_
      refine W.vret B.exec B.bytes hr (fun t ht hW => ⟨⟨none, sg', ad', rfl, ?_, hq, fun v hv => (by cases hv), hR.okS, hR.2.2.2.2.2.2.2.2.1, hR.2.2.2.2.2.2.2.2.2, by rw [ht]; exact hR.1, hR.2.1⟩, hR.S.F ht⟩) hR.S.2.2 hdg hlocks
      rw [hm] at c8
      rw [Nat.eq_of_beq_eq_true c8]
      rfl

