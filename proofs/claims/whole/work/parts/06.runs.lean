/-! Runs of the small machine: monotone, step by step, block by block -/
theorem cond_imp {c : Bool} {A A' : Prop} (h : A → A') : (bif c then A else False) → (bif c then A' else False) := by
  cases c <;> simp
  exact h
theorem mSw_mono {X X' : Nat → Prop} (h : ∀ q, X q → X' q) {pc : Nat} {x : Int} : ∀ (l : List Int) (i : Int), mSw X pc x i l → mSw X' pc x i l
  | [], _, _ => trivial
  | _ :: t, i, h1 => ⟨fun c => h _ (h1.1 c), mSw_mono h t (i + 1) h1.2⟩
theorem mAns_mono {k : Nat} {r : Option mV} {K K' : List mV → Prop} (h : ∀ v, K v → K' v) : mAns k r K → mAns k r K' := by
  unfold mAns aI aL
  repeat' split
  all_goals first | exact h _ | exact id
theorem mInvoke_mono {cl cl' : mCl} {X X' : mX} (hcl : ∀ mi args s b K K', (∀ r s b, K r s b → K' r s b) → cl mi args s b K → cl' mi args s b K') (hX : ∀ pc L st s b, X pc L st s b → X' pc L st s b) {mi : Nat} {args rest : List mV} {pc : Nat} {L : mL} {s : mS} {b : mB} : mInvoke cl X mi args rest pc L s b → mInvoke cl' X' mi args rest pc L s b :=
  cond_imp (hcl _ _ _ _ _ _ (fun _ _ _ => mAns_mono (fun _ => hX _ _ _ _ _)))
set_option maxHeartbeats 4000000 in
theorem stp_mono {kA : mKA} {cl cl' : mCl} {X X' : mX} {Q Q' : Option mV → mS → Prop} (hcl : ∀ mi args s b K K', (∀ r s b, K r s b → K' r s b) → cl mi args s b K → cl' mi args s b K') (hX : ∀ pc L st s b, X pc L st s b → X' pc L st s b) (hQ : ∀ r s, Q r s → Q' r s) {op : mOp} {pc : Nat} {L : mL} {st : List mV} {s : mS} {b : mB} : stp kA cl X Q op pc L st s b → stp kA cl' X' Q' op pc L st s b := by
  obtain ⟨i, a, k, n⟩ := op
  cases i <;> simp only [stp] <;> (repeat' split) <;> first
    | exact id
    | exact hX _ _ _ _ _
    | exact hQ _ _
    | exact fun h => ⟨h.1, hX _ _ _ _ _ h.2⟩
    | exact fun h => ⟨h.1, hQ _ _ h.2⟩
    | exact fun h => ⟨fun c => hX _ _ _ _ _ (h.1 c), fun c => hX _ _ _ _ _ (h.2 c)⟩
    | exact fun h => ⟨h.1, h.2.1, hX _ _ _ _ _ h.2.2⟩
    | exact fun h => ⟨fun c => hX _ _ _ _ _ (h.1 c), mSw_mono (fun q => hX _ _ _ _ _) _ _ h.2⟩
    | exact mInvoke_mono hcl hX
    | exact cond_imp (mInvoke_mono hcl hX)
    | exact cond_imp (hX _ _ _ _ _)
    | exact cond_imp (fun h => ⟨h.1, hX _ _ _ _ _ h.2⟩)
    | (refine cond_imp ?_; (repeat' split) <;> first | exact id | exact hX _ _ _ _ _ | exact fun h => ⟨h.1, hX _ _ _ _ _ h.2⟩)
    | (rintro ⟨h1, h2⟩; refine ⟨h1, ?_⟩; revert h2; (repeat' split) <;> first | exact id | exact hX _ _ _ _ _)
abbrev mPr : Type := List mV → mS → mB → (Option mV → mS → mB → Prop) → Prop
def mCall (kA : mKA) (pr : mPr) (d : Nat) : mCl := fun mi' args s b K => match mi' with
  | 1005 => pr args s b K
  | mi' => ∃ mc ms : Nat, mc ≤ b.1 ∧ ms ≤ b.2 ∧ goD kA pr d mi' 0 (mEnt args (mInf mi').1) [] s (mc, ms) (fun r s' => K r s' (b.1 - mc, b.2 - ms))
def mCall0 (kA : mKA) (pr : mPr) (d : Nat) : mCl := fun mi' args s b K => match mi' with
  | 1005 => pr args s b K
  | mi' => goD kA pr d mi' 0 (mEnt args (mInf mi').1) [] s (0, 0) (fun r s' => K r s' b)
def mPrOk (pr : mPr) : Prop := ∀ args s b K K', (∀ r s b, K r s b → K' r s b) → pr args s b K → pr args s b K'
theorem goD_succ {kA : mKA} {pr : mPr} {d mi pc : Nat} {L : mL} {st : List mV} {s : mS} {b : mB} {Q : Option mV → mS → Prop} : goD kA pr (d + 1) mi pc L st s b Q = ∀ X : mX, (∀ pc L st s b, stp kA (mCall kA pr d) X Q (mLook (mOps mi) pc) pc L st s b → X pc L st s b) → X pc L st s b := rfl
theorem mCall_of {kA : mKA} {pr : mPr} {d : Nat} (hpr : mPrOk pr) (hg : ∀ mi pc L st s b Q Q', (∀ r s, Q r s → Q' r s) → goD kA pr d mi pc L st s b Q → goD kA pr d mi pc L st s b Q') : ∀ mi args s b K K', (∀ r s b, K r s b → K' r s b) → mCall kA pr d mi args s b K → mCall kA pr d mi args s b K' := by
  intro mi args s b K K' h
  unfold mCall
  split
  · exact hpr _ _ _ _ _ h
  · rintro ⟨mc, ms, h1, h2, h3⟩
    exact ⟨mc, ms, h1, h2, hg _ _ _ _ _ _ _ _ (fun r s => h r s _) h3⟩
theorem goD_mono {kA : mKA} {pr : mPr} (hpr : mPrOk pr) : ∀ (d mi pc : Nat) (L : mL) (st : List mV) (s : mS) (b : mB) (Q Q' : Option mV → mS → Prop), (∀ r s, Q r s → Q' r s) → goD kA pr d mi pc L st s b Q → goD kA pr d mi pc L st s b Q' := by
  intro d
  induction d with
  | zero => intro _ _ _ _ _ _ _ _ _ h; exact h
  | succ d ih =>
    intro mi pc L st s b Q Q' hQ h
    rw [goD_succ] at h ⊢
    intro X hX
    refine h X (fun pc L st s b hs => hX _ _ _ _ _ (stp_mono (mCall_of hpr ih) (fun _ _ _ _ _ h => h) hQ hs))
theorem mCall_mono {kA : mKA} {pr : mPr} (hpr : mPrOk pr) (d : Nat) : ∀ mi args s b K K', (∀ r s b, K r s b → K' r s b) → mCall kA pr d mi args s b K → mCall kA pr d mi args s b K' := mCall_of hpr (goD_mono hpr d)
theorem mCall0_to {kA : mKA} {pr : mPr} (hpr : mPrOk pr) (d : Nat) : ∀ mi args s b K K', (∀ r s b, K r s b → K' r s b) → mCall0 kA pr d mi args s b K → mCall kA pr d mi args s b K' := by
  intro mi args s b K K' h
  unfold mCall mCall0
  split
  · exact hpr _ _ _ _ _ h
  · intro h3
    exact ⟨0, 0, Nat.zero_le _, Nat.zero_le _, goD_mono hpr _ _ _ _ _ _ _ _ _ (fun r s => h r s _) h3⟩
theorem goD_step {kA : mKA} {pr : mPr} (hpr : mPrOk pr) {d mi pc : Nat} {L : mL} {st : List mV} {s : mS} {b : mB} {Q : Option mV → mS → Prop} (h : stp kA (mCall kA pr d) (fun pc L st s b => goD kA pr (d + 1) mi pc L st s b Q) Q (mLook (mOps mi) pc) pc L st s b) : goD kA pr (d + 1) mi pc L st s b Q := by
  rw [goD_succ]
  intro X hX
  exact hX _ _ _ _ _ (stp_mono (mCall_mono hpr d) (fun pc L st s b hg => (Eq.mp goD_succ hg) X hX) (fun _ _ h => h) h)
/-- a block: steps up to places where it stops -/
def blk (kA : mKA) (cl : mCl) (stop : Nat → Bool) (mi : Nat) (Q : Option mV → mS → Prop) (X : mX) : Nat → mX
  | 0 => X
  | n + 1 => fun pc L st s b => bif stop pc then X pc L st s b else stp kA cl (blk kA cl stop mi Q X n) Q (mLook (mOps mi) pc) pc L st s b
theorem blk_to {kA : mKA} {pr : mPr} (hpr : mPrOk pr) {d mi : Nat} {stop : Nat → Bool} {Q : Option mV → mS → Prop} : ∀ (n pc : Nat) (L : mL) (st : List mV) (s : mS) (b : mB), blk kA (mCall0 kA pr d) stop mi Q (fun pc L st s b => goD kA pr (d + 1) mi pc L st s b Q) n pc L st s b → goD kA pr (d + 1) mi pc L st s b Q
  | 0, _, _, _, _, _, h => h
  | n + 1, pc, L, st, s, b, h => by
    unfold blk at h
    cases hc : stop pc with
    | true => rw [hc] at h; exact h
    | false =>
      rw [hc] at h
      exact goD_step hpr (stp_mono (mCall0_to hpr d) (blk_to hpr n) (fun _ _ h => h) h)
theorem goD_blk {kA : mKA} {pr : mPr} (hpr : mPrOk pr) {d mi pc : Nat} {L : mL} {st : List mV} {s : mS} {b : mB} {Q : Option mV → mS → Prop} (stop : Nat → Bool) (n : Nat) (h : stp kA (mCall0 kA pr d) (blk kA (mCall0 kA pr d) stop mi Q (fun pc L st s b => goD kA pr (d + 1) mi pc L st s b Q) n) Q (mLook (mOps mi) pc) pc L st s b) : goD kA pr (d + 1) mi pc L st s b Q :=
  goD_step hpr (stp_mono (mCall0_to hpr d) (blk_to hpr n) (fun _ _ h => h) h)
/-- a call at depth d that makes nothing -/
def cal (kA : mKA) (pr : mPr) (d mi : Nat) (args : List mV) (s : mS) (K : Option mV → mS → Prop) : Prop := goD kA pr d mi 0 (mEnt args (mInf mi).1) [] s (0, 0) K
