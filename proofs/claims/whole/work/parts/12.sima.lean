/-! The small machine's values and worlds in the real one -/
def r32 (n : Int) : Prop := -2147483648 ≤ n ∧ n < 2147483648
def r64 (n : Int) : Prop := -9223372036854775808 ≤ n ∧ n < 9223372036854775808
theorem wr_r (x : Int) : r32 (wr x) := by unfold r32 wr; omega
theorem wl_r (x : Int) : r64 (wl x) := by unfold r64 wl; omega
theorem r32_64 {n : Int} (h : r32 n) : r64 n := by unfold r32 at h; unfold r64; omega
theorem wr_id {x : Int} (h : r32 x) : wr x = x := by unfold r32 at h; unfold wr; omega
theorem wl_id {x : Int} (h : r64 x) : wl x = x := by unfold r64 at h; unfold wl; omega
theorem b32_r {n : Int} (h : b32 n = true) : r32 n := by
  unfold b32 at h; simp only [Bool.and_eq_true, decide_eq_true_eq] at h; exact h
theorem b64_r {n : Int} (h : b64 n = true) : r64 n := by
  unfold b64 at h; simp only [Bool.and_eq_true, decide_eq_true_eq] at h; exact h
theorem i32_of {n : Int} (h : r32 n) : (Int32.ofInt n).toInt = n := Int32.toInt_ofInt_of_le h.1 h.2
theorem i64_of {n : Int} (h : r64 n) : (Int64.ofInt n).toInt = n := Int64.toInt_ofInt_of_le h.1 h.2
theorem of_i32 (x : Int32) : Int32.ofInt x.toInt = x := Int32.ofInt_toInt x
theorem of_i64 (x : Int64) : Int64.ofInt x.toInt = x := Int64.ofInt_toInt x
theorem i32_r (x : Int32) : r32 x.toInt := ⟨Int32.le_toInt x, Int32.toInt_lt x⟩
theorem i64_r (x : Int64) : r64 x.toInt := ⟨Int64.le_toInt x, Int64.toInt_lt x⟩
theorem wr_bmod (x : Int) : wr x = x.bmod (2 ^ 32) := by
  unfold wr; rw [Int.bmod_def]; omega
theorem wl_bmod (x : Int) : wl x = x.bmod (2 ^ 64) := by
  unfold wl; rw [Int.bmod_def]; omega
theorem ofInt_wr (x : Int) : Int32.ofInt (wr x) = Int32.ofInt x := by
  apply Int32.toInt_inj.mp
  rw [i32_of (wr_r x), wr_bmod, Int32.toInt_ofInt]
theorem ofInt_wl (x : Int) : Int64.ofInt (wl x) = Int64.ofInt x := by
  apply Int64.toInt_inj.mp
  rw [i64_of (wl_r x), wl_bmod, Int64.toInt_ofInt]
theorem cl_of {n : Int} (h : r32 n) : (Int32.ofInt n).toNatClampNeg = n.toNat := by
  show (Int32.ofInt n).toInt.toNat = n.toNat
  rw [i32_of h]
theorem vin_of {i : Int} {n : Nat} (hi : r32 i) (h : mInA i n) : vp_in (Int32.ofInt i) n := by
  rw [vp_in_iff, i32_of hi]; exact h
theorem lt32 {x y : Int} (hx : r32 x) (hy : r32 y) : Int32.ofInt x < Int32.ofInt y ↔ x < y := by
  rw [Int32.lt_iff_toInt_lt, i32_of hx, i32_of hy]
theorem eq32 {x y : Int} (hx : r32 x) (hy : r32 y) : Int32.ofInt x = Int32.ofInt y ↔ x = y := by
  rw [← Int32.toInt_inj, i32_of hx, i32_of hy]
theorem eq64 {x y : Int} (hx : r64 x) (hy : r64 y) : Int64.ofInt x = Int64.ofInt y ↔ x = y := by
  rw [← Int64.toInt_inj, i64_of hx, i64_of hy]
theorem lt64 {x y : Int} (hx : r64 x) (hy : r64 y) : Int64.ofInt x < Int64.ofInt y ↔ x < y := by
  rw [Int64.lt_iff_toInt_lt, i64_of hx, i64_of hy]
theorem z32 : (0 : Int32) = Int32.ofInt 0 := by decide
theorem r32_0 : r32 0 := by unfold r32; omega
theorem r64_0 : r64 0 := by unfold r64; omega
/-- a value in the real machine: ad the cells' places, kd the constants -/
def cV (ad : Nat → Nat) (kd : Nat → Value) : mV → Value
  | .inl n => .int (Int32.ofInt n)
  | .inr (.inl n) => .long (Int64.ofInt n)
  | .inr (.inr (.inl r)) => .ref (ad r)
  | .inr (.inr (.inr k)) => kd k
def cF (ad : Nat → Nat) (x : Int) : Nat → Value
  | 0 => .int (Int32.ofInt x)
  | 1 => .long (Int64.ofInt x)
  | 2 => .int (Int32.ofInt x)
  | 3 => .null
  | r + 4 => .ref (ad r)
def cQ (ad : Nat → Nat) : Option Nat → Option Nat
  | some (r + 4) => some (ad r)
  | _ => none
def cE (ad : Nat → Nat) (cA : Nat → ClassId) (f g : Nat → Int) : mSh → va_E
  | .inl (c, fs) => .inr (c, fs.mapIdx (fun k q => cF ad (f k) q))
  | .inr (1, n, _) => .inl (cA 1, n, .inr (.inl (fun j => Int64.ofInt (g j))))
  | .inr (4, n, rs) => .inl (cA 4, n, .inr (.inr (.inr (.inr (fun j => cQ ad (mFld rs j))))))
  | .inr (t, n, _) => .inl (cA t, n, .inl (fun j => Int32.ofInt (g j)))
def cW (ad : Nat → Nat) (cA : Nat → ClassId) (s : mS) : va_W := s.1.mapIdx (fun i q => (ad i, cE ad cA (s.2.1 i) (s.2.2 i) q))
def mTys (cA : Nat → ClassId) : List (ClassId × FieldType) := [(cA 0, .int), (cA 1, .long), (cA 2, .byte), (cA 3, .boolean), (cA 4, .object RX7)]
abbrev AA (h0 : Nat) : Nat → Prop := fun q => h0 ≤ q
theorem mNth_eq : ∀ (S : List mSh) (a : Nat), mNth S a = S[a]?
  | [], a => by simp [mNth]
  | _ :: _, 0 => by simp [mNth]
  | _ :: t, a + 1 => by simp [mNth, mNth_eq t a]
theorem mFld_eq : ∀ (S : List Nat) (a : Nat), mFld S a = S[a]?
  | [], a => by simp [mFld]
  | _ :: _, 0 => by simp [mFld]
  | _ :: t, a + 1 => by simp [mFld, mFld_eq t a]
theorem cW_at {ad : Nat → Nat} {cA : Nat → ClassId} {s : mS} {a : Nat} {sh : mSh} (h : mNth s.1 a = some sh) : (cW ad cA s)[a]? = some (ad a, cE ad cA (s.2.1 a) (s.2.2 a) sh) := by
  rw [mNth_eq] at h
  simp [cW, List.getElem?_mapIdx, h]
theorem mNth_lt {S : List mSh} {a : Nat} {sh : mSh} (h : mNth S a = some sh) : a < S.length := by
  rw [mNth_eq] at h; exact (List.getElem?_eq_some_iff.mp h).1
/-- what a value may be: a number of its kind, a cell that is there -/
def okV (n : Nat) : mV → Prop
  | .inl x => r32 x
  | .inr (.inl x) => r64 x
  | .inr (.inr (.inl r)) => r < n
  | .inr (.inr (.inr _)) => True
def mTy : Nat → Nat → FieldType
  | 0 => tyX0 | 1 => tyX1 | 2 => tyX2 | 3 => tyX3 | 4 => tyX4 | 5 => tyX5 | 6 => tyX6 | 7 => tyX7 | 8 => tyX8 | 9 => tyX9 | 10 => tyX10 | 11 => tyX11 | _ => tyX12
def kTy : FieldType → Nat → Prop
  | .int, f => f = 0
  | .long, f => f = 1
  | .boolean, f => f = 2
  | .object _, f => 3 ≤ f
  | .array _, f => 3 ≤ f
  | _, _ => False
def okF1 (n : Nat) (x : Int) : Nat → Prop
  | 0 => r32 x
  | 1 => r64 x
  | 2 => r32 x
  | 3 => True
  | r + 4 => r < n
def okSh (n : Nat) (f g : Nat → Int) : mSh → Prop
  | .inl (c, fs) => c ≤ 12 ∧ fs.length = (mClsOf c).2.2 ∧ ∀ k q, mFld fs k = some q → okF1 n (f k) q ∧ kTy (mTy c k) q
  | .inr (t, len, rs) => t ≤ 4 ∧ len < 2147483648 ∧ (t = 4 → ∀ j q, mFld rs j = some q → 3 ≤ q ∧ ∀ r, q = r + 4 → r < n) ∧ (t ≠ 1 ∧ t ≠ 4 → ∀ j, r32 (g j)) ∧ (t = 1 → ∀ j, r64 (g j)) ∧ (t = 4 → rs.length = len)
def okS (s : mS) : Prop := ∀ a sh, mNth s.1 a = some sh → okSh s.1.length (s.2.1 a) (s.2.2 a) sh
theorem cV_ext {ad ad' : Nat → Nat} {kd : Nat → Value} {n : Nat} (h : ∀ i, i < n → ad' i = ad i) {v : mV} (hv : okV n v) : cV ad' kd v = cV ad kd v := by
  rcases v with x | x | r | k
  · rfl
  · rfl
  · show Value.ref (ad' r) = Value.ref (ad r)
    rw [h r hv]
  · rfl
theorem cVs_ext {ad ad' : Nat → Nat} {kd : Nat → Value} {n : Nat} (h : ∀ i, i < n → ad' i = ad i) {st : List mV} (hv : ∀ v ∈ st, okV n v) : st.map (cV ad' kd) = st.map (cV ad kd) :=
  List.map_congr_left (fun v hm => cV_ext h (hv v hm))
theorem cE_ext {ad ad' : Nat → Nat} {cA : Nat → ClassId} {n : Nat} (h : ∀ i, i < n → ad' i = ad i) {f g : Nat → Int} {sh : mSh} (hs : okSh n f g sh) : cE ad' cA f g sh = cE ad cA f g sh := by
  rcases sh with ⟨c, fs⟩ | ⟨t, len, rs⟩
  · show Sum.inr _ = Sum.inr _
    congr 2
    apply List.ext_getElem?
    intro k
    simp only [List.getElem?_mapIdx]
    cases hk : fs[k]? with
    | none => rfl
    | some q =>
      have h1 := (hs.2.2 k q (by rw [mFld_eq]; exact hk)).1
      rcases q with _ | _ | _ | _ | r
      · rfl
      · rfl
      · rfl
      · rfl
      · show some (Value.ref (ad' r)) = some (Value.ref (ad r))
        rw [h r h1]
  · rcases t with _ | _ | _ | _ | _ | t
    · rfl
    · rfl
    · rfl
    · rfl
    · show Sum.inl _ = Sum.inl _
      have h1 := hs.2.2.1 rfl
      congr 7
      funext j
      cases hj : mFld rs j with
      | none => rfl
      | some q =>
        obtain ⟨h3, h4⟩ := h1 j q hj
        rcases q with _ | _ | _ | _ | r
        · rfl
        · rfl
        · rfl
        · rfl
        · show some (ad' r) = some (ad r)
          rw [h r (h4 r rfl)]
    · rfl
theorem cW_ext {ad ad' : Nat → Nat} {cA : Nat → ClassId} {s : mS} (h : ∀ i, i < s.1.length → ad' i = ad i) (hs : okS s) : cW ad' cA s = cW ad cA s := by
  unfold cW
  apply List.ext_getElem?
  intro k
  simp only [List.getElem?_mapIdx]
  cases hk : s.1[k]? with
  | none => rfl
  | some q =>
    have hk' : mNth s.1 k = some q := by rw [mNth_eq]; exact hk
    simp only [Option.map_some]
    rw [h k (mNth_lt hk'), cE_ext h (hs k q hk')]
/-- one cell is another one -/
theorem cW_set {ad : Nat → Nat} {cA : Nat → ClassId} {s s' : mS} {a : Nat} {sh' : mSh} {E : va_E} (hl : s'.1.length = s.1.length) (ha : mNth s'.1 a = some sh') (hE : cE ad cA (s'.2.1 a) (s'.2.2 a) sh' = E) (ho : ∀ i, i ≠ a → s'.1[i]? = s.1[i]? ∧ s'.2.1 i = s.2.1 i ∧ s'.2.2 i = s.2.2 i) : (cW ad cA s).set a (ad a, E) = cW ad cA s' := by
  apply List.ext_getElem?
  intro k
  rw [List.getElem?_set]
  by_cases hk : a = k
  · subst hk
    rw [if_pos rfl, cW_at ha, hE]
    have : a < (cW ad cA s).length := by simp only [cW, List.length_mapIdx]; rw [← hl]; exact mNth_lt ha
    rw [if_pos this]
  · rw [if_neg hk]
    obtain ⟨h1, h2, h3⟩ := ho k (fun h => hk h.symm)
    simp only [cW, List.getElem?_mapIdx, h1, h2, h3]
/-- a new cell behind the others -/
theorem cW_push {ad : Nat → Nat} {cA : Nat → ClassId} {S : List mSh} {f g f' g' : Nat → Nat → Int} {sh : mSh} {q : Nat} {E : va_E} (hs : okS (S, f, g)) (hE : cE (fun i => if i = S.length then q else ad i) cA (f' S.length) (g' S.length) sh = E) (ho : ∀ i, i < S.length → f' i = f i ∧ g' i = g i) : cW (fun i => if i = S.length then q else ad i) cA (S ++ [sh], f', g') = cW ad cA (S, f, g) ++ [(q, E)] := by
  have hne : ∀ i, i < S.length → (fun i => if i = S.length then q else ad i) i = ad i := fun i hi => if_neg (Nat.ne_of_lt hi)
  rw [← cW_ext (cA := cA) hne hs]
  unfold cW
  apply List.ext_getElem?
  intro k
  simp only [List.getElem?_mapIdx, List.getElem?_append, List.length_mapIdx]
  by_cases hk : k < S.length
  · rw [if_pos hk, if_pos hk, (ho k hk).1, (ho k hk).2]
  · rw [if_neg hk, if_neg hk]
    by_cases h2 : k = S.length
    · subst h2
      simp [hE]
    · have : k - S.length ≠ 0 := by omega
      obtain ⟨j, hj⟩ : ∃ j, k - S.length = j + 1 := ⟨k - S.length - 1, by omega⟩
      simp [hj]
