/-! One step of the small machine as a condition before it; runs as the least set closed under steps -/
def mLook1 : List (Nat × mOp) → Nat → mOp
  | [], _ => (.nop, 0, 0, 0)
  | (q, o) :: t, pc => bif Nat.beq q pc then o else mLook1 t pc
def mLook : List (Nat × List (Nat × mOp)) → Nat → mOp
  | [], _ => (.nop, 0, 0, 0)
  | (q, c) :: t, pc => bif Nat.ble pc q then mLook1 c pc else mLook t pc
/-- rows that stand before the run: the script (3), two rows of steps (1, 2), the bytes of two texts (6, 7) -/
abbrev mKA : Type := Nat → Nat × (Nat × (Nat → Int))
def mKF : Nat → Nat → mV
  | 4, 0 => vK 6
  | 5, 0 => vK 7
  | 4, 1 => vI 0
  | 5, 1 => vI 0
  | _, _ => vK 0
def mRcv (S : List mSh) (ci : Nat) : mV → Bool
  | .inr (.inr (.inl a)) => (match mNth S a with | some (.inl (c, _)) => Nat.beq c ci | _ => false)
  | .inr (.inr (.inr k)) => Nat.beq ci 20 && (Nat.beq k 4 || Nat.beq k 5)
  | _ => false
def mAty : ArrayType → Option Nat
  | .int => some 0
  | .long => some 1
  | .byte => some 2
  | .boolean => some 3
  | _ => none
def mInA (i : Int) (n : Nat) : Prop := 0 ≤ i ∧ i < (n : Int)
/-- call transformers: what is asked for before a call of a method with arguments in a world -/
abbrev mCl : Type := Nat → List mV → mS → mB → (Option mV → mS → mB → Prop) → Prop
abbrev mX : Type := Nat → mL → List mV → mS → mB → Prop
def mInvoke (cl : mCl) (X : mX) (mi : Nat) (args : List mV) (rest : List mV) (pc : Nat) (L : mL) (s : mS) (b : mB) : Prop :=
  bif Nat.ble (mCats rest) 8 && (Nat.ble (mCats args) (mInf mi).1 || Nat.beq mi 1005) then cl mi args s b (fun r s' b' => mAns (mInf mi).2.1 r (fun v => X (pc + 3) L (v ++ rest) s' b')) else False
def stp (kA : mKA) (cl : mCl) (X : mX) (Q : Option mV → mS → Prop) (op : mOp) (pc : Nat) (L : mL) (st : List mV) (s : mS) (b : mB) : Prop :=
  match op.1 with
  | .iconst i => X (pc + 1) L (vI i :: st) s b
  | .bipush i => X (pc + 2) L (vI i :: st) s b
  | .sipush i => X (pc + 3) L (vI i :: st) s b
  | .lconst i => X (pc + 1) L (vL (i.val : Int) :: st) s b
  | .ldc _ => (match op.2.1 with | 0 => X (pc + 2) L (vI op.2.2.2 :: st) s b | k => X (pc + 2) L (vK k :: st) s b)
  | .ldc_w _ => (match op.2.1 with | 0 => X (pc + 3) L (vI op.2.2.2 :: st) s b | _ => False)
  | .ldc2_w _ => X (pc + 3) L (vL op.2.2.2 :: st) s b
  | .iload i => (match mGet L i with | some (.inl n) => X (pc + 2) L (vI n :: st) s b | _ => False)
  | .iload_n i => (match mGet L i.val with | some (.inl n) => X (pc + 1) L (vI n :: st) s b | _ => False)
  | .lload i => (match mGet L i with | some (.inr (.inl n)) => X (pc + 2) L (vL n :: st) s b | _ => False)
  | .lload_n i => (match mGet L i.val with | some (.inr (.inl n)) => X (pc + 1) L (vL n :: st) s b | _ => False)
  | .aload i => (match mGet L i with | some (.inr (.inr r)) => X (pc + 2) L (.inr (.inr r) :: st) s b | _ => False)
  | .aload_n i => (match mGet L i.val with | some (.inr (.inr r)) => X (pc + 1) L (.inr (.inr r) :: st) s b | _ => False)
  | .istore i => (match st with | .inl n :: r => X (pc + 2) (mSet L i (vI n)) r s b | _ => False)
  | .istore_n i => (match st with | .inl n :: r => X (pc + 1) (mSet L i.val (vI n)) r s b | _ => False)
  | .lstore i => (match st with | .inr (.inl n) :: r => X (pc + 2) (mSet2 L i (vL n)) r s b | _ => False)
  | .lstore_n i => (match st with | .inr (.inl n) :: r => X (pc + 1) (mSet2 L i.val (vL n)) r s b | _ => False)
  | .astore i => (match st with | .inr (.inr n) :: r => X (pc + 2) (mSet L i (.inr (.inr n))) r s b | _ => False)
  | .astore_n i => (match st with | .inr (.inr n) :: r => X (pc + 1) (mSet L i.val (.inr (.inr n))) r s b | _ => False)
  | .iinc i c => (match mGet L i with | some (.inl n) => X (pc + 3) (mSet L i (vI (wr (n + c)))) st s b | _ => False)
  | .pop => (match st with | .inr (.inl _) :: _ => False | _ :: r => X (pc + 1) L r s b | _ => False)
  | .dup => (match st with | .inr (.inl _) :: _ => False | v :: r => X (pc + 1) L (v :: v :: r) s b | _ => False)
  | .dup2 => (match st with | .inl n :: v :: r => (match v with | .inr (.inl _) => False | v => X (pc + 1) L (.inl n :: v :: .inl n :: v :: r) s b) | _ => False)
  | .iadd => (match st with | .inl y :: .inl x :: r => X (pc + 1) L (vI (wr (x + y)) :: r) s b | _ => False)
  | .isub => (match st with | .inl y :: .inl x :: r => X (pc + 1) L (vI (wr (x - y)) :: r) s b | _ => False)
  | .imul => (match st with | .inl y :: .inl x :: r => X (pc + 1) L (vI (wr (x * y)) :: r) s b | _ => False)
  | .idiv => (match st with | .inl y :: .inl x :: r => y ≠ 0 ∧ X (pc + 1) L (vI (wr (x.tdiv y)) :: r) s b | _ => False)
  | .irem => (match st with | .inl y :: .inl x :: r => y ≠ 0 ∧ X (pc + 1) L (vI (x.tmod y) :: r) s b | _ => False)
  | .ineg => (match st with | .inl x :: r => X (pc + 1) L (vI (wr (-x)) :: r) s b | _ => False)
  | .iand => (match st with | .inl y :: .inl x :: r => X (pc + 1) L (vI (iAnd x y) :: r) s b | _ => False)
  | .ior => (match st with | .inl y :: .inl x :: r => X (pc + 1) L (vI (iOr x y) :: r) s b | _ => False)
  | .ixor => (match st with | .inl y :: .inl x :: r => X (pc + 1) L (vI (iXor x y) :: r) s b | _ => False)
  | .ishl => (match st with | .inl y :: .inl x :: r => X (pc + 1) L (vI (iShl x y) :: r) s b | _ => False)
  | .ishr => (match st with | .inl y :: .inl x :: r => X (pc + 1) L (vI (iShr x y) :: r) s b | _ => False)
  | .ladd => (match st with | .inr (.inl y) :: .inr (.inl x) :: r => X (pc + 1) L (vL (wl (x + y)) :: r) s b | _ => False)
  | .lsub => (match st with | .inr (.inl y) :: .inr (.inl x) :: r => X (pc + 1) L (vL (wl (x - y)) :: r) s b | _ => False)
  | .lmul => (match st with | .inr (.inl y) :: .inr (.inl x) :: r => X (pc + 1) L (vL (wl (x * y)) :: r) s b | _ => False)
  | .ldiv => (match st with | .inr (.inl y) :: .inr (.inl x) :: r => y ≠ 0 ∧ X (pc + 1) L (vL (wl (x.tdiv y)) :: r) s b | _ => False)
  | .lrem => (match st with | .inr (.inl y) :: .inr (.inl x) :: r => y ≠ 0 ∧ X (pc + 1) L (vL (x.tmod y) :: r) s b | _ => False)
  | .land => (match st with | .inr (.inl y) :: .inr (.inl x) :: r => X (pc + 1) L (vL (lAnd x y) :: r) s b | _ => False)
  | .lor => (match st with | .inr (.inl y) :: .inr (.inl x) :: r => X (pc + 1) L (vL (lOr x y) :: r) s b | _ => False)
  | .lshl => (match st with | .inl y :: .inr (.inl x) :: r => X (pc + 1) L (vL (lShl x y) :: r) s b | _ => False)
  | .lshr => (match st with | .inl y :: .inr (.inl x) :: r => X (pc + 1) L (vL (lShr x y) :: r) s b | _ => False)
  | .lushr => (match st with | .inl y :: .inr (.inl x) :: r => X (pc + 1) L (vL (lUshr x y) :: r) s b | _ => False)
  | .lcmp => (match st with | .inr (.inl y) :: .inr (.inl x) :: r => X (pc + 1) L (vI (lCmp x y) :: r) s b | _ => False)
  | .i2l => (match st with | .inl x :: r => X (pc + 1) L (vL x :: r) s b | _ => False)
  | .l2i => (match st with | .inr (.inl x) :: r => X (pc + 1) L (vI (wr x) :: r) s b | _ => False)
  | .i2b => (match st with | .inl x :: r => X (pc + 1) L (vI (iB x) :: r) s b | _ => False)
  | .i2c => (match st with | .inl x :: r => X (pc + 1) L (vI (iC x) :: r) s b | _ => False)
  | .ifCond c _ => (match st with
    | .inl x :: r => (match c with
      | .eq => (x = 0 → X op.2.1 L r s b) ∧ (¬ x = 0 → X (pc + 3) L r s b)
      | .ne => (¬ x = 0 → X op.2.1 L r s b) ∧ (x = 0 → X (pc + 3) L r s b)
      | .lt => (x < 0 → X op.2.1 L r s b) ∧ (¬ x < 0 → X (pc + 3) L r s b)
      | .ge => (¬ x < 0 → X op.2.1 L r s b) ∧ (x < 0 → X (pc + 3) L r s b)
      | .gt => (0 < x → X op.2.1 L r s b) ∧ (¬ 0 < x → X (pc + 3) L r s b)
      | .le => (¬ 0 < x → X op.2.1 L r s b) ∧ (0 < x → X (pc + 3) L r s b))
    | _ => False)
  | .if_icmp c _ => (match st with
    | .inl y :: .inl x :: r => (match c with
      | .eq => (x = y → X op.2.1 L r s b) ∧ (¬ x = y → X (pc + 3) L r s b)
      | .ne => (¬ x = y → X op.2.1 L r s b) ∧ (x = y → X (pc + 3) L r s b)
      | .lt => (x < y → X op.2.1 L r s b) ∧ (¬ x < y → X (pc + 3) L r s b)
      | .ge => (¬ x < y → X op.2.1 L r s b) ∧ (x < y → X (pc + 3) L r s b)
      | .gt => (y < x → X op.2.1 L r s b) ∧ (¬ y < x → X (pc + 3) L r s b)
      | .le => (¬ y < x → X op.2.1 L r s b) ∧ (y < x → X (pc + 3) L r s b))
    | _ => False)
  | .goto _ => X op.2.1 L st s b
  | .tableswitch d lo hi offs => (match st with
    | .inl x :: r => ((x < lo ∨ hi < x) → X (mTgt pc d) L r s b) ∧ mSw (fun q => X q L r s b) pc x lo offs.toList
    | _ => False)
  | .getstatic _ => (match op.2.2.1 with | 1 => X (pc + 3) L (vI 1 :: st) s b | _ => X (pc + 3) L (vK op.2.1 :: st) s b)
  | .getfield _ => (match st with
    | .inr (.inr (.inl a)) :: r => (match mNth s.1 a with
      | some (.inl (c, fs)) => bif Nat.beq c op.2.1 then (match mFld fs op.2.2.1 with | some f => X (pc + 3) L (mFldOf f (s.2.1 a op.2.2.1) :: r) s b | none => False) else False
      | _ => False)
    | .inr (.inr (.inr k)) :: r => bif Nat.beq op.2.1 20 && (Nat.beq k 4 || Nat.beq k 5) then X (pc + 3) L (mKF k op.2.2.1 :: r) s b else False
    | _ => False)
  | .putfield _ => (match st with
    | v :: .inr (.inr (.inl a)) :: r => (match mNth s.1 a with
      | some (.inl (c, fs)) => bif Nat.beq c op.2.1 then (match mFld fs op.2.2.1 with
        | some f => (match v with
          | .inl n => (match f with
            | 0 => X (pc + 3) L r (s.1, mUp s.2.1 a op.2.2.1 n, s.2.2) b
            | 2 => (n = 0 ∨ n = 1) ∧ X (pc + 3) L r (s.1, mUp s.2.1 a op.2.2.1 n, s.2.2) b
            | _ => False)
          | .inr (.inl n) => (match f with | 1 => X (pc + 3) L r (s.1, mUp s.2.1 a op.2.2.1 n, s.2.2) b | _ => False)
          | .inr (.inr (.inl q)) => (match f with | _ + 3 => X (pc + 3) L r (s.1.set a (.inl (c, fs.set op.2.2.1 (q + 4))), s.2.1, s.2.2) b | _ => False)
          | _ => False)
        | none => False) else False
      | _ => False)
    | _ => False)
  | .iaload => (match st with
    | .inl i :: .inr (.inr (.inl a)) :: r => (match mNth s.1 a with
      | some (.inr (0, n, _)) => mInA i n ∧ X (pc + 1) L (vI (s.2.2 a i.toNat) :: r) s b
      | _ => False)
    | .inl i :: .inr (.inr (.inr k)) :: r => (match kA k with
      | (0, n, f) => mInA i n ∧ X (pc + 1) L (vI (f i.toNat) :: r) s b
      | _ => False)
    | _ => False)
  | .baload => (match st with
    | .inl i :: .inr (.inr (.inl a)) :: r => (match mNth s.1 a with
      | some (.inr (2, n, _)) => mInA i n ∧ X (pc + 1) L (vI (s.2.2 a i.toNat) :: r) s b
      | some (.inr (3, n, _)) => mInA i n ∧ X (pc + 1) L (vI (s.2.2 a i.toNat) :: r) s b
      | _ => False)
    | .inl i :: .inr (.inr (.inr k)) :: r => (match kA k with
      | (2, n, f) => mInA i n ∧ X (pc + 1) L (vI (f i.toNat) :: r) s b
      | _ => False)
    | _ => False)
  | .laload => (match st with
    | .inl i :: .inr (.inr (.inl a)) :: r => (match mNth s.1 a with
      | some (.inr (1, n, _)) => mInA i n ∧ X (pc + 1) L (vL (s.2.2 a i.toNat) :: r) s b
      | _ => False)
    | _ => False)
  | .aaload => (match st with
    | .inl i :: .inr (.inr (.inl a)) :: r => (match mNth s.1 a with
      | some (.inr (4, n, rs)) => mInA i n ∧ (match mFld rs i.toNat with | some f => X (pc + 1) L (mFldOf f 0 :: r) s b | none => False)
      | _ => False)
    | _ => False)
  | .iastore => (match st with
    | .inl v :: .inl i :: .inr (.inr (.inl a)) :: r => (match mNth s.1 a with
      | some (.inr (0, n, _)) => mInA i n ∧ X (pc + 1) L r (s.1, s.2.1, mUp s.2.2 a i.toNat v) b
      | _ => False)
    | _ => False)
  | .bastore => (match st with
    | .inl v :: .inl i :: .inr (.inr (.inl a)) :: r => (match mNth s.1 a with
      | some (.inr (2, n, _)) => mInA i n ∧ X (pc + 1) L r (s.1, s.2.1, mUp s.2.2 a i.toNat (iB v)) b
      | some (.inr (3, n, _)) => mInA i n ∧ ((v = 0 ∨ v = 1) ∧ X (pc + 1) L r (s.1, s.2.1, mUp s.2.2 a i.toNat v) b)
      | _ => False)
    | _ => False)
  | .lastore => (match st with
    | .inr (.inl v) :: .inl i :: .inr (.inr (.inl a)) :: r => (match mNth s.1 a with
      | some (.inr (1, n, _)) => mInA i n ∧ X (pc + 1) L r (s.1, s.2.1, mUp s.2.2 a i.toNat v) b
      | _ => False)
    | _ => False)
  | .aastore => (match st with
    | .inr (.inr (.inl v)) :: .inl i :: .inr (.inr (.inl a)) :: r => (match mNth s.1 a with
      | some (.inr (4, n, rs)) => mInA i n ∧ (match mNth s.1 v with | some (.inl (7, _)) => X (pc + 1) L r (s.1.set a (.inr (4, n, rs.set i.toNat (v + 4))), s.2.1, s.2.2) b | _ => False)
      | _ => False)
    | _ => False)
  | .arraylength => (match st with
    | .inr (.inr (.inl a)) :: r => (match mNth s.1 a with
      | some (.inr (_, n, _)) => X (pc + 1) L (vI (n : Int) :: r) s b
      | _ => False)
    | .inr (.inr (.inr k)) :: r => (match kA k with
      | (0, n, _) => X (pc + 1) L (vI (n : Int) :: r) s b
      | (2, n, _) => X (pc + 1) L (vI (n : Int) :: r) s b
      | _ => False)
    | _ => False)
  | .newarray t => (match st, mAty t with
    | .inl n :: r, some ty => (0 ≤ n ∧ n ≤ 65536 ∧ 1 ≤ b.1 ∧ n.toNat ≤ b.2) ∧ X (pc + 2) L (vR s.1.length :: r) (s.1 ++ [.inr (ty, n.toNat, [])], s.2.1, fun x y => if x = s.1.length then 0 else s.2.2 x y) (b.1 - 1, b.2 - n.toNat)
    | _, _ => False)
  | .anewarray _ => (match st with
    | .inl n :: r => (0 ≤ n ∧ n ≤ 65536 ∧ 1 ≤ b.1 ∧ n.toNat ≤ b.2) ∧ X (pc + 3) L (vR s.1.length :: r) (s.1 ++ [.inr (4, n.toNat, List.replicate n.toNat 3)], s.2.1, s.2.2) (b.1 - 1, b.2 - n.toNat)
    | _ => False)
  | .new _ => (1 ≤ b.1 ∧ (mNew op.2.1).length ≤ b.2) ∧ X (pc + 3) L (vR s.1.length :: st) (s.1 ++ [.inl (op.2.1, mNew op.2.1)], (fun x y => if x = s.1.length then 0 else s.2.1 x y), s.2.2) (b.1 - 1, b.2 - (mNew op.2.1).length)
  | .invokespecial _ => (match op.2.1 with
    | 1004 => (match st with | .inr (.inr (.inl _)) :: r => bif Nat.ble (mCats r) 8 then X (pc + 3) L r s b else False | _ => False)
    | mi => (match mTake (op.2.2.1 % 100) st [] with | some (.inr (.inr (.inl q)) :: args, rest) => mInvoke cl X mi (vR q :: args) rest pc L s b | _ => False))
  | .invokevirtual _ => (match mTake op.2.2.1 st [] with
    | some (rv :: args, rest) => bif mRcv s.1 (mInf op.2.1).2.2 rv then mInvoke cl X op.2.1 (rv :: args) rest pc L s b else False
    | _ => False)
  | .invokestatic _ => (match op.2.1 with
    | 1000 => (match st with | .inl y :: .inl x :: r => bif Nat.ble (mCats r) 8 then X (pc + 3) L (vI (max x y) :: r) s b else False | _ => False)
    | 1001 => (match st with | .inl y :: .inl x :: r => bif Nat.ble (mCats r) 8 then X (pc + 3) L (vI (min x y) :: r) s b else False | _ => False)
    | 1002 => (match st with | .inl x :: r => bif Nat.ble (mCats r) 8 then X (pc + 3) L (vI (if x < 0 then wr (-x) else x) :: r) s b else False | _ => False)
    | 1003 => (match st with
      | .inl n :: .inl dp :: .inr (.inr (.inl d)) :: .inl sp :: .inr (.inr (.inl a)) :: r => (match mNth s.1 a, mNth s.1 d with
        | some (.inr (0, na, _)), some (.inr (0, nd, _)) => bif Nat.ble (mCats r) 8 && !(Nat.beq a d) then (0 ≤ n ∧ 0 ≤ sp ∧ 0 ≤ dp ∧ sp + n ≤ (na : Int) ∧ dp + n ≤ (nd : Int)) ∧ X (pc + 3) L r (s.1, s.2.1, mCp s.2.2 a sp.toNat d dp.toNat n.toNat) b else False
        | _, _ => False)
      | _ => False)
    | mi => (match mTake (op.2.2.1 % 100) st [] with | some (args, rest) => mInvoke cl X mi args rest pc L s b | none => False))
  | .ireturn => (match st with
    | [.inl n] => (match op.2.1 with
      | 0 => Q (some (vI n)) s
      | 1 => (n = 0 ∨ n = 1) ∧ Q (some (vI n)) s
      | 2 => (0 ≤ n ∧ n < 65536) ∧ Q (some (vI n)) s
      | _ => (-128 ≤ n ∧ n < 128) ∧ Q (some (vI n)) s)
    | _ => False)
  | .return_ => (match st with | [] => Q none s | _ => False)
  | _ => False
/-- a method's locals at its start -/
def mEnt : List mV → Nat → mL
  | _, 0 => []
  | [], n + 1 => none :: mEnt [] n
  | .inr (.inl x) :: _, 1 => [some (vL x)]
  | .inr (.inl x) :: t, n + 2 => some (vL x) :: none :: mEnt t n
  | v :: t, n + 1 => some v :: mEnt t n
/-- runs of a method at depth d: the least set of places that is closed under steps backwards -/
def goD (kA : mKA) (pr : List mV → mS → mB → (Option mV → mS → mB → Prop) → Prop) : Nat → Nat → Nat → mL → List mV → mS → mB → (Option mV → mS → Prop) → Prop
  | 0, _, _, _, _, _, _, _ => False
  | d + 1, mi, pc, L, st, s, b, Q => ∀ X : mX, (∀ pc L st s b, stp kA (fun mi' args s b K => match mi' with
      | 1005 => pr args s b K
      | mi' => ∃ mc ms : Nat, mc ≤ b.1 ∧ ms ≤ b.2 ∧ goD kA pr d mi' 0 (mEnt args (mInf mi').1) [] s (mc, ms) (fun r s' => K r s' (b.1 - mc, b.2 - ms))) X Q (mLook (mOps mi) pc) pc L st s b → X pc L st s b) → X pc L st s b
