/-! A law as a row of (kind, number), and its value -/
def bth (o u t : Int) : Int := if o = 4 then wr (u + t) else if o = 5 then wr (u - t) else if o = 6 then wr (u * t) else if o = 7 then (if u < t then 1 else 0) else if o = 8 then (if u = t then 1 else 0) else if o = 9 then (if u = 0 then 0 else if t = 0 then 0 else 1) else (if u = 0 then (if t = 0 then 0 else 1) else 1)
def ecl (q : Int × Int) : Int := if q.1 = 1 then q.2 else if q.1 = 2 then -1 - (q.2 + 4) % 7 else if q.1 = 3 then -8 else if q.1 = 6 then -9 else if q.1 = 4 then -10 else if q.1 = 5 then -11 else -5 - q.1
def ev1 (f : Nat → Int) (q : Int × Int) (st : List Int) : List Int :=
  if q.1 = 1 then q.2 :: st else if q.1 = 2 then f q.2.toNat :: st else if q.1 = 3 then (match st with
    | t :: r => (if t = 0 then 1 else 0) :: r
    | [] => []) else (match st with
    | t :: u :: r => bth q.1 u t :: r
    | r => r)
def evl (f : Nat → Int) : List (Int × Int) → List Int → List Int
  | [], st => st
  | q :: P, st => evl f P (ev1 f q st)
def okE (m : Int) : List (Int × Int) → Nat → Prop
  | [], k => k = 1
  | q :: P, k => (q.1 = 1 ∧ 0 ≤ q.2 ∧ k < 32 ∧ okE m P (k + 1)) ∨ (q.1 = 2 ∧ (0 ≤ q.2 ∧ q.2 < m) ∧ k < 32 ∧ okE m P (k + 1)) ∨ (q.1 = 3 ∧ 1 ≤ k ∧ okE m P k) ∨ ((4 ≤ q.1 ∧ q.1 ≤ 10) ∧ 2 ≤ k ∧ okE m P (k - 1))
def stk (A : Nat → Int) : List Int → Prop
  | [] => True
  | t :: r => A r.length = t ∧ stk A r
def pgM (A B : Nat → Int) : Nat → List (Int × Int) → Prop
  | p, [] => p < 2200 ∧ A p = 0
  | p, q :: P => p < 2200 ∧ A p = q.1 ∧ B p = q.2 ∧ pgM A B (p + 1) P
def pgC (A : Nat → Int) : Nat → List (Int × Int) → Prop
  | _, [] => True
  | p, q :: P => A p = ecl q ∧ pgC A (p + 1) P
theorem stk_up {α : Nat → Nat → Int} {c : Nat} {n : Int} : ∀ {st : List Int} {k : Nat}, stk (α c) st → st.length ≤ k → stk (mUp α c k n c) st
  | [], _, _, _ => trivial
  | t :: r, k, h, hk => by
    rw [List.length_cons] at hk
    exact ⟨by rw [up_n (by omega)]; exact h.1, stk_up h.2 (by omega)⟩
def evV (f : Nat → Int) (P : List (Int × Int)) : Int := (evl f P []).headD 0
theorem m_both {X : mXX} {d : Nat} {Q : Option mV → mS → Prop} {σ α : Nat → Nat → Int} {o u t : Int} (ho : 4 ≤ o ∧ o ≤ 10) (h : Q (some (vI (bth o u t))) (S0, σ, α)) : Ca X (d + 1) 169 [vI o, vI u, vI t] (S0, σ, α) Q := by
  refine vc169_0 ?_
  unfold bth at h
  have : o = 4 ∨ o = 5 ∨ o = 6 ∨ o = 7 ∨ o = 8 ∨ o = 9 ∨ o = 10 := by omega
  rcases this with rfl | rfl | rfl | rfl | rfl | rfl | rfl
  · exact ⟨fun q => by omega, fun _ => h, fun q => by omega, fun q => by omega, fun q => by omega, fun q => by omega, fun q => by omega, trivial⟩
  · exact ⟨fun q => by omega, fun q => by omega, fun _ => h, fun q => by omega, fun q => by omega, fun q => by omega, fun q => by omega, trivial⟩
  · exact ⟨fun q => by omega, fun q => by omega, fun q => by omega, fun _ => h, fun q => by omega, fun q => by omega, fun q => by omega, trivial⟩
  · refine ⟨fun q => by omega, fun q => by omega, fun q => by omega, fun q => by omega, fun _ => ⟨fun q => ?_, fun q => ?_⟩, fun q => by omega, fun q => by omega, trivial⟩
    · simp [q] at h; exact h
    · simp [q] at h; exact h
  · refine ⟨fun q => by omega, fun q => by omega, fun q => by omega, fun q => by omega, fun q => by omega, fun _ => ⟨fun q => ?_, fun q => ?_⟩, fun q => by omega, trivial⟩
    · simp [q] at h; exact h
    · simp [q] at h; exact h
  · refine ⟨fun q => by omega, fun q => by omega, fun q => by omega, fun q => by omega, fun q => by omega, fun q => by omega, fun _ => ⟨fun q => ?_, fun q => ⟨fun q2 => ?_, fun q2 => ?_⟩⟩, trivial⟩
    · simp [q] at h; exact h
    · simp [q2] at h; exact h
    · simp [q, q2] at h; exact h
  · refine ⟨fun _ => ⟨fun q => ?_, fun q => ⟨fun q2 => ?_, fun q2 => ?_⟩⟩, fun q => by omega, fun q => by omega, fun q => by omega, fun q => by omega, fun q => by omega, fun q => by omega, trivial⟩
    · simp [q] at h; exact h
    · simp [q, q2] at h; exact h
    · simp [q2] at h; exact h
theorem c_join {X : mXX} {d : Nat} {Q : Option mV → mS → Prop} {σ α : Nat → Nat → Int} {q : Int × Int} {u t : Int} (ho : 4 ≤ q.1 ∧ q.1 ≤ 10) (h : Q (some (vI (bth q.1 u t))) (S0, σ, α)) : Ca X (d + 1) 44 [vI (ecl q), vI u, vI t] (S0, σ, α) Q := by
  refine vc44_0 ?_
  unfold bth at h
  unfold ecl
  generalize q.1 = o at *
  have : o = 4 ∨ o = 5 ∨ o = 6 ∨ o = 7 ∨ o = 8 ∨ o = 9 ∨ o = 10 := by omega
  rcases this with rfl | rfl | rfl | rfl | rfl | rfl | rfl
  · exact ⟨fun q => by simp at q, fun q => by simp at q, fun q => by simp at q, fun q => by simp at q, fun q => by simp at q, fun _ => h, fun q => by simp at q, trivial⟩
  · exact ⟨fun q => by simp at q, fun q => by simp at q, fun q => by simp at q, fun q => by simp at q, fun _ => h, fun q => by simp at q, fun q => by simp at q, trivial⟩
  · exact ⟨fun q => by simp at q, fun q => by simp at q, fun q => by simp at q, fun q => by simp at q, fun q => by simp at q, fun q => by simp at q, fun _ => h, trivial⟩
  · refine ⟨fun q => by simp at q, fun q => by simp at q, fun q => by simp at q, fun _ => ⟨fun q => ?_, fun q => ?_⟩, fun q => by simp at q, fun q => by simp at q, fun q => by simp at q, trivial⟩
    · simp [q] at h; exact h
    · simp [q] at h; exact h
  · refine ⟨fun q => by simp at q, fun q => by simp at q, fun _ => ⟨fun q => ?_, fun q => ?_⟩, fun q => by simp at q, fun q => by simp at q, fun q => by simp at q, fun q => by simp at q, trivial⟩
    · simp [q] at h; exact h
    · simp [q] at h; exact h
  · refine ⟨fun q => by simp at q, fun _ => ⟨fun q => ?_, fun q => ⟨fun q2 => ?_, fun q2 => ?_⟩⟩, fun q => by simp at q, fun q => by simp at q, fun q => by simp at q, fun q => by simp at q, fun q => by simp at q, trivial⟩
    · simp [q] at h; exact h
    · simp [q2] at h; exact h
    · simp [q, q2] at h; exact h
  · refine ⟨fun _ => ⟨fun q => ?_, fun q => ⟨fun q2 => ?_, fun q2 => ?_⟩⟩, fun q => by simp at q, fun q => by simp at q, fun q => by simp at q, fun q => by simp at q, fun q => by simp at q, fun q => by simp at q, trivial⟩
    · simp [q] at h; exact h
    · simp [q, q2] at h; exact h
    · simp [q2] at h; exact h
theorem two_of : ∀ {st : List Int}, 2 ≤ st.length → ∃ t u r, st = t :: u :: r
  | t :: u :: r, _ => ⟨t, u, r, rfl⟩
theorem one_of : ∀ {st : List Int}, 1 ≤ st.length → ∃ t r, st = t :: r
  | t :: r, _ => ⟨t, r, rfl⟩
theorem m_wloop {X : mXX} {d : Nat} {b : mB} {Q : Option mV → mS → Prop} {σ : Nat → Nat → Int} {p m : Int} (hm : m ≤ 7) : ∀ (P : List (Int × Int)) (i : Nat) (st : List Int) (α : Nat → Nat → Int) (x4 : Option mV), pgM (α 111) (α 112) i P → okE m P st.length → st.length ≤ 32 → stk (α 116) st → (∀ α', Fα [116] α α' → Q (some (vI ((evl (α 115) P st).headD 0))) (S0, σ, α')) → Go X (d + 1) 168 4 [some (vR 104), some (vI p), some (vI (st.length : Int)), some (vI (i : Int)), x4] [] (S0, σ, α) b Q
  | [], i, st, α, x4, hp, ok, hl, hs, h => by
    refine vc168_4 ⟨mInA_n hp.1, fun _ => ?_, fun q => absurd hp.2 (by rw [Int.toNat_natCast] at q; exact q)⟩
    have ok' : st.length = 1 := ok
    match st, ok', hs, h with
    | [v], _, hs, h => 
      rw [show α 116 0 = v from hs.1]
      exact h α Fα.rf
  | q :: P, i, st, α, x4, hp, ok, hl, hs, h => by
    obtain ⟨p1, p2, p3, p4⟩ := hp
    have ei : wr ((i : Int) + 1) = ((i + 1 : Nat) : Int) := by rw [wr_of (by omega) (by omega)]; omega
    have ek : wr ((st.length : Int) + 1) = ((st.length + 1 : Nat) : Int) := by rw [wr_of (by omega) (by omega)]; omega
    refine vc168_4 ?_
    rw [Int.toNat_natCast, Int.toNat_natCast, p2, p3, ei, ek]
    have goM : ∀ (k : Nat) (v : Int) (st' : List Int), evl (α 115) (q :: P) st = evl (α 115) P st' → okE m P st'.length → st'.length ≤ 32 → stk (mUp α 116 k v 116) st' → Go X (d + 1) 168 4 [some (vR 104), some (vI p), some (vI (st'.length : Int)), some (vI ((i + 1 : Nat) : Int)), some (vI q.1)] [] (S0, σ, mUp α 116 k v) b Q := by
      intro k v st' he ho hl' hs'
      refine m_wloop hm P (i + 1) st' (mUp α 116 k v) _ (by rw [up_o (by decide), up_o (by decide)]; exact p4) ho hl' hs' ?_
      intro α' hf
      rw [up_o (by decide), ← he]
      exact h α' ((Fα.up (by decide)).tr hf)
    have ok' := ok
    unfold okE at ok'
    refine ⟨mInA_n p1, fun q0 => by omega, fun _ => ⟨mInA_n p1, fun q1 => ⟨fun q2 => absurd q1 q2, fun _ => ?_⟩, fun q1 => ⟨fun q2 => ⟨fun q3 => ?_, fun q3 => ?_⟩, fun q2 => ⟨fun _ => ?_, fun q3 => absurd q3 q1⟩⟩⟩⟩
    · have o1 : st.length < 32 ∧ okE m P (st.length + 1) := by
        rcases ok' with o | o | o | o
        · exact ⟨o.2.2.1, o.2.2.2⟩
        · omega
        · omega
        · omega
      refine ⟨mInA_n p1, mInA_n (by omega), ?_⟩
      exact goM st.length q.2 (q.2 :: st) (by simp [evl, ev1, q1]) o1.2 o1.1 ⟨up_s, stk_up hs (Nat.le_refl _)⟩
    · have o1 : (4 ≤ q.1 ∧ q.1 ≤ 10) ∧ 2 ≤ st.length ∧ okE m P (st.length - 1) := by
        rcases ok' with o | o | o | o
        · omega
        · omega
        · omega
        · exact o
      obtain ⟨t, u, r, rfl⟩ := two_of o1.2.1
      simp only [List.length_cons] at o1 hl
      have e1 : wr (((t :: u :: r).length : Int) + -1) = ((u :: r).length : Int) := by simp only [List.length_cons]; rw [wr_of (by omega) (by omega)]; omega
      have e2 : wr (((u :: r).length : Int) - 1) = (r.length : Int) := by simp only [List.length_cons]; rw [wr_of (by omega) (by omega)]; omega
      rw [e1, e2, Int.toNat_natCast, Int.toNat_natCast, hs.1, hs.2.1]
      refine ⟨mInA_n (by omega), mInA_n (by simp only [List.length_cons]; omega), ?_⟩
      refine m_both o1.1 ?_
      refine vc168_133 ⟨mInA_n (by omega), ?_⟩
      rw [ei, Int.toNat_natCast]
      exact goM r.length (bth q.1 u t) (bth q.1 u t :: r) (by simp [evl, ev1, q1, q2, q3]) (by simpa using o1.2.2) (by simp; omega) ⟨up_s, stk_up hs.2.2 (Nat.le_refl _)⟩
    · have o1 : 1 ≤ st.length ∧ okE m P st.length := by
        rcases ok' with o | o | o | o
        · omega
        · omega
        · exact o.2
        · omega
      obtain ⟨t, r, rfl⟩ := one_of o1.1
      simp only [List.length_cons] at o1 hl
      have e1 : wr (((t :: r).length : Int) - 1) = (r.length : Int) := by simp only [List.length_cons]; rw [wr_of (by omega) (by omega)]; omega
      rw [e1, Int.toNat_natCast, hs.1]
      refine ⟨mInA_n (by omega), fun q4 => ⟨mInA_n (by omega), ?_⟩, fun q4 => ⟨mInA_n (by omega), ?_⟩⟩
      · exact goM r.length 0 (0 :: r) (by simp [evl, ev1, q3, q4]) o1.2 hl ⟨up_s, stk_up hs.2 (Nat.le_refl _)⟩
      · exact goM r.length 1 (1 :: r) (by simp [evl, ev1, q3, q4]) o1.2 hl ⟨up_s, stk_up hs.2 (Nat.le_refl _)⟩
    · have o1 : (0 ≤ q.2 ∧ q.2 < m) ∧ st.length < 32 ∧ okE m P (st.length + 1) := by
        rcases ok' with o | o | o | o
        · omega
        · exact o.2
        · omega
        · omega
      refine ⟨mInA_n p1, by unfold mInA; omega, mInA_n (by omega), ?_⟩
      exact goM st.length (α 115 q.2.toNat) (α 115 q.2.toNat :: st) (by simp [evl, ev1, q2]) o1.2.2 o1.2.1 ⟨up_s, stk_up hs (Nat.le_refl _)⟩
theorem m_worthAt {X : mXX} {d : Nat} {Q : Option mV → mS → Prop} {σ α : Nat → Nat → Int} {P : List (Int × Int)} {p : Nat} {m : Int} (hm : m ≤ 7) (hp : pgM (α 111) (α 112) p P) (ok : okE m P 0) (h : ∀ α', Fα [116] α α' → Q (some (vI (evV (α 115) P))) (S0, σ, α')) : Ca X (d + 2) 168 [vR 104, vI (p : Int)] (S0, σ, α) Q := by
  refine vc168_0 ?_
  exact m_wloop hm P p [] α none hp ok (by decide) trivial h
theorem ev1_len {f : Nat → Int} {m : Int} {q : Int × Int} {P : List (Int × Int)} {st : List Int} (ok : okE m (q :: P) st.length) : okE m P (ev1 f q st).length := by
  unfold okE at ok
  unfold ev1
  rcases ok with o | o | o | o
  · rw [if_pos o.1]; exact o.2.2.2
  · rw [if_neg (by omega), if_pos o.1]; exact o.2.2.2
  · rw [if_neg (by omega), if_neg (by omega), if_pos o.1]
    obtain ⟨t, r, rfl⟩ := one_of o.2.1
    exact o.2.2
  · rw [if_neg (by omega), if_neg (by omega), if_neg (by omega)]
    obtain ⟨t, u, r, rfl⟩ := two_of o.2.1
    exact o.2.2
theorem evl_cg {f g : Nat → Int} {m : Int} (hm : ∀ a : Nat, (a : Int) < m → f a = g a) : ∀ {P : List (Int × Int)} {st : List Int}, okE m P st.length → evl f P st = evl g P st
  | [], _, _ => rfl
  | q :: P, st, ok => by
    have e : ev1 f q st = ev1 g q st := by
      have ok' := ok
      unfold okE at ok'
      unfold ev1
      rcases ok' with o | o | o | o
      · rw [if_pos o.1, if_pos o.1]
      · rw [if_neg (by omega), if_pos o.1, if_neg (by omega), if_pos o.1, hm _ (by omega)]
      · rw [if_neg (by omega), if_neg (by omega), if_pos o.1, if_neg (by omega), if_neg (by omega)]
      · rw [if_neg (by omega), if_neg (by omega), if_neg (by omega), if_neg (by omega), if_neg (by omega)]
    show evl f P (ev1 f q st) = evl g P (ev1 g q st)
    rw [← e]
    exact evl_cg hm (ev1_len ok)
theorem evV_cg {f g : Nat → Int} {m : Int} {P : List (Int × Int)} (hm : ∀ a : Nat, (a : Int) < m → f a = g a) (ok : okE m P 0) : evV f P = evV g P := by
  unfold evV; rw [evl_cg (st := []) hm ok]
theorem c_vloopS {X : mXX} {d : Nat} {b : mB} {Q : Option mV → mS → Prop} {σ : Nat → Nat → Int} {f : Nat → Int} {m : Int} (h7 : m ≤ 7) : ∀ (P : List (Int × Int)) (i : Nat) (st : List Int) (α : Nat → Nat → Int) (x4 : Option mV), pgC (α 35) i P → σ 34 2 = i + P.length → i + P.length ≤ 1000 → (∀ a : Nat, (a : Int) < m → α 83 ((a + 4) % 7) = f a) → okE m P st.length → st.length ≤ 32 → stk (α 36) st → (∀ α', Fα [36] α α' → Q (some (vI ((evl f P st).headD 0))) (S0, σ, α')) → Go X (d + 1) 43 4 [some (vR 34), some (vR 83), some (vI (st.length : Int)), some (vI (i : Int)), x4] [] (S0, σ, α) b Q
  | [], i, st, α, x4, hp, hn, hm, hf, ok, hl, hs, h => by
    rw [List.length_nil] at hn
    refine vc43r34r83_4 ⟨fun _ => ?_, fun q => by omega⟩
    have ok' : st.length = 1 := ok
    match st, ok', hs, h with
    | [v], _, hs, h =>
      rw [show α 36 0 = v from hs.1]
      exact h α Fα.rf
  | q :: P, i, st, α, x4, hp, hn, hm, hf, ok, hl, hs, h => by
    rw [List.length_cons] at hn hm
    have ei : wr ((i : Int) + 1) = ((i + 1 : Nat) : Int) := by rw [wr_of (by omega) (by omega)]; omega
    have ek : wr ((st.length : Int) + 1) = ((st.length + 1 : Nat) : Int) := by rw [wr_of (by omega) (by omega)]; omega
    refine vc43r34r83_4 ?_
    rw [Int.toNat_natCast, Int.toNat_natCast, hp.1, ei, ek]
    have goM : ∀ (k : Nat) (v : Int) (st' : List Int), evl f (q :: P) st = evl f P st' → okE m P st'.length → st'.length ≤ 32 → stk (mUp α 36 k v 36) st' → Go X (d + 1) 43 4 [some (vR 34), some (vR 83), some (vI (st'.length : Int)), some (vI ((i + 1 : Nat) : Int)), some (vI (ecl q))] [] (S0, σ, mUp α 36 k v) b Q := by
      intro k v st' he ho hl' hs'
      refine c_vloopS h7 P (i + 1) st' (mUp α 36 k v) _ (by rw [up_o (by decide)]; exact hp.2) (by omega) (by omega) (by rw [up_o (by decide)]; exact hf) ho hl' hs' ?_
      intro α' hf
      rw [← he]
      exact h α' ((Fα.up (by decide)).tr hf)
    have ok' := ok
    unfold okE at ok'
    refine ⟨fun q0 => absurd (show (i : Int) < σ 34 2 by omega) q0, fun _ => ⟨mInA_n (by omega), ?_⟩⟩
    rcases ok' with o | o | o | o
    · have ee : ecl q = q.2 := by unfold ecl; rw [if_pos o.1]
      refine ⟨fun q1 => by omega, fun _ => ⟨fun q2 => by omega, fun _ => ⟨fun q3 => by omega, fun _ => ⟨mInA_n (by omega), ?_⟩⟩⟩⟩
      refine goM st.length (ecl q) (q.2 :: st) (by simp [evl, ev1, o.1]) o.2.2.2 o.2.2.1 ⟨?_, stk_up hs (Nat.le_refl _)⟩
      rw [up_s, ee]
    · have ee : ecl q = -1 - (q.2 + 4) % 7 := by unfold ecl; rw [if_neg (by omega), if_pos o.1]
      refine ⟨fun q1 => by omega, fun _ => ⟨fun q2 => by omega, fun _ => ⟨fun q3 => ?_, fun _ => by omega⟩⟩⟩
      have e1 : wr (-1 - ecl q) = (q.2 + 4) % 7 := by rw [ee, wr_of (by omega) (by omega)]; omega
      rw [e1]
      refine ⟨by unfold mInA; omega, mInA_n (by omega), ?_⟩
      have e2 : α 83 ((q.2 + 4) % 7).toNat = f q.2.toNat := by
        rw [← hf q.2.toNat (by omega), show ((q.2 + 4) % 7).toNat = (q.2.toNat + 4) % 7 by omega]
      rw [e2]
      exact goM st.length (f q.2.toNat) (f q.2.toNat :: st) (by simp [evl, ev1, o.1]) o.2.2.2 o.2.2.1 ⟨up_s, stk_up hs (Nat.le_refl _)⟩
    · have ee : ecl q = -8 := by unfold ecl; rw [if_neg (by omega), if_neg (by omega), if_pos o.1]
      refine ⟨fun _ => ⟨fun q2 => absurd ee q2, fun _ => ⟨fun q3 => by omega, fun _ => ?_⟩⟩, fun q1 => by omega⟩
      obtain ⟨o1, o2, o3⟩ := o
      obtain ⟨t, r, rfl⟩ := one_of o2
      simp only [List.length_cons] at o2 hl
      have e1 : wr (((t :: r).length : Int) - 1) = (r.length : Int) := by simp only [List.length_cons]; rw [wr_of (by omega) (by omega)]; omega
      rw [e1, Int.toNat_natCast, hs.1]
      refine ⟨mInA_n (by omega), fun q4 => ⟨mInA_n (by omega), ?_⟩, fun q4 => ⟨mInA_n (by omega), ?_⟩⟩
      · exact goM r.length 0 (0 :: r) (by simp [evl, ev1, o1, q4]) o3 hl ⟨up_s, stk_up hs.2 (Nat.le_refl _)⟩
      · exact goM r.length 1 (1 :: r) (by simp [evl, ev1, o1, q4]) o3 hl ⟨up_s, stk_up hs.2 (Nat.le_refl _)⟩
    · have ee : ecl q < -8 := by
        obtain ⟨⟨o1, o2⟩, -⟩ := o
        unfold ecl
        generalize q.1 = z at *
        have : z = 4 ∨ z = 5 ∨ z = 6 ∨ z = 7 ∨ z = 8 ∨ z = 9 ∨ z = 10 := by omega
        rcases this with rfl | rfl | rfl | rfl | rfl | rfl | rfl <;> simp
      refine ⟨fun _ => ⟨fun _ => ⟨fun q3 => by omega, fun _ => ?_⟩, fun q2 => by omega⟩, fun q1 => by omega⟩
      obtain ⟨o1, o2, o3⟩ := o
      obtain ⟨t, u, r, rfl⟩ := two_of o2
      simp only [List.length_cons] at o2 hl
      have e1 : wr (((t :: u :: r).length : Int) + -1) = ((u :: r).length : Int) := by simp only [List.length_cons]; rw [wr_of (by omega) (by omega)]; omega
      have e2 : wr (((u :: r).length : Int) - 1) = (r.length : Int) := by simp only [List.length_cons]; rw [wr_of (by omega) (by omega)]; omega
      rw [e1, e2, Int.toNat_natCast, Int.toNat_natCast, hs.1, hs.2.1]
      refine ⟨mInA_n (by omega), mInA_n (by simp only [List.length_cons]; omega), ?_⟩
      refine c_join o1 ?_
      refine vc43r34r83_133 ⟨mInA_n (by omega), ?_⟩
      rw [ei, Int.toNat_natCast]
      exact goM r.length (bth q.1 u t) (bth q.1 u t :: r) (by simp [evl, ev1, show ¬ q.1 = 1 by omega, show ¬ q.1 = 2 by omega, show ¬ q.1 = 3 by omega]) (by simpa using o3) (by simp; omega) ⟨up_s, stk_up hs.2.2 (Nat.le_refl _)⟩
theorem c_valueS {X : mXX} {d : Nat} {Q : Option mV → mS → Prop} {σ α : Nat → Nat → Int} {P : List (Int × Int)} {f : Nat → Int} {m : Int} (h7 : m ≤ 7) (hp : pgC (α 35) 0 P) (hn : σ 34 2 = P.length) (hm : P.length ≤ 1000) (hf : ∀ a : Nat, (a : Int) < m → α 83 ((a + 4) % 7) = f a) (ok : okE m P 0) (h : ∀ α', Fα [36] α α' → Q (some (vI (evV f P))) (S0, σ, α')) : Ca X (d + 2) 43 [vR 34, vR 83] (S0, σ, α) Q := by
  refine vc43r34r83_0 ?_
  exact c_vloopS h7 P 0 [] α none hp (by omega) (by omega) hf ok (by decide) trivial h
theorem c_vloopW {X : mXX} {d : Nat} {b : mB} {Q : Option mV → mS → Prop} {σ : Nat → Nat → Int} {f : Nat → Int} {m : Int} (h7 : m ≤ 7) : ∀ (P : List (Int × Int)) (i : Nat) (st : List Int) (α : Nat → Nat → Int) (x4 : Option mV), pgC (α 38) i P → σ 37 2 = i + P.length → i + P.length ≤ 1000 → (∀ a : Nat, (a : Int) < m → α 99 ((a + 4) % 7) = f a) → okE m P st.length → st.length ≤ 32 → stk (α 39) st → (∀ α', Fα [39] α α' → Q (some (vI ((evl f P st).headD 0))) (S0, σ, α')) → Go X (d + 1) 43 4 [some (vR 37), some (vR 99), some (vI (st.length : Int)), some (vI (i : Int)), x4] [] (S0, σ, α) b Q
  | [], i, st, α, x4, hp, hn, hm, hf, ok, hl, hs, h => by
    rw [List.length_nil] at hn
    refine vc43r37r99_4 ⟨fun _ => ?_, fun q => by omega⟩
    have ok' : st.length = 1 := ok
    match st, ok', hs, h with
    | [v], _, hs, h =>
      rw [show α 39 0 = v from hs.1]
      exact h α Fα.rf
  | q :: P, i, st, α, x4, hp, hn, hm, hf, ok, hl, hs, h => by
    rw [List.length_cons] at hn hm
    have ei : wr ((i : Int) + 1) = ((i + 1 : Nat) : Int) := by rw [wr_of (by omega) (by omega)]; omega
    have ek : wr ((st.length : Int) + 1) = ((st.length + 1 : Nat) : Int) := by rw [wr_of (by omega) (by omega)]; omega
    refine vc43r37r99_4 ?_
    rw [Int.toNat_natCast, Int.toNat_natCast, hp.1, ei, ek]
    have goM : ∀ (k : Nat) (v : Int) (st' : List Int), evl f (q :: P) st = evl f P st' → okE m P st'.length → st'.length ≤ 32 → stk (mUp α 39 k v 39) st' → Go X (d + 1) 43 4 [some (vR 37), some (vR 99), some (vI (st'.length : Int)), some (vI ((i + 1 : Nat) : Int)), some (vI (ecl q))] [] (S0, σ, mUp α 39 k v) b Q := by
      intro k v st' he ho hl' hs'
      refine c_vloopW h7 P (i + 1) st' (mUp α 39 k v) _ (by rw [up_o (by decide)]; exact hp.2) (by omega) (by omega) (by rw [up_o (by decide)]; exact hf) ho hl' hs' ?_
      intro α' hf
      rw [← he]
      exact h α' ((Fα.up (by decide)).tr hf)
    have ok' := ok
    unfold okE at ok'
    refine ⟨fun q0 => absurd (show (i : Int) < σ 37 2 by omega) q0, fun _ => ⟨mInA_n (by omega), ?_⟩⟩
    rcases ok' with o | o | o | o
    · have ee : ecl q = q.2 := by unfold ecl; rw [if_pos o.1]
      refine ⟨fun q1 => by omega, fun _ => ⟨fun q2 => by omega, fun _ => ⟨fun q3 => by omega, fun _ => ⟨mInA_n (by omega), ?_⟩⟩⟩⟩
      refine goM st.length (ecl q) (q.2 :: st) (by simp [evl, ev1, o.1]) o.2.2.2 o.2.2.1 ⟨?_, stk_up hs (Nat.le_refl _)⟩
      rw [up_s, ee]
    · have ee : ecl q = -1 - (q.2 + 4) % 7 := by unfold ecl; rw [if_neg (by omega), if_pos o.1]
      refine ⟨fun q1 => by omega, fun _ => ⟨fun q2 => by omega, fun _ => ⟨fun q3 => ?_, fun _ => by omega⟩⟩⟩
      have e1 : wr (-1 - ecl q) = (q.2 + 4) % 7 := by rw [ee, wr_of (by omega) (by omega)]; omega
      rw [e1]
      refine ⟨by unfold mInA; omega, mInA_n (by omega), ?_⟩
      have e2 : α 99 ((q.2 + 4) % 7).toNat = f q.2.toNat := by
        rw [← hf q.2.toNat (by omega), show ((q.2 + 4) % 7).toNat = (q.2.toNat + 4) % 7 by omega]
      rw [e2]
      exact goM st.length (f q.2.toNat) (f q.2.toNat :: st) (by simp [evl, ev1, o.1]) o.2.2.2 o.2.2.1 ⟨up_s, stk_up hs (Nat.le_refl _)⟩
    · have ee : ecl q = -8 := by unfold ecl; rw [if_neg (by omega), if_neg (by omega), if_pos o.1]
      refine ⟨fun _ => ⟨fun q2 => absurd ee q2, fun _ => ⟨fun q3 => by omega, fun _ => ?_⟩⟩, fun q1 => by omega⟩
      obtain ⟨o1, o2, o3⟩ := o
      obtain ⟨t, r, rfl⟩ := one_of o2
      simp only [List.length_cons] at o2 hl
      have e1 : wr (((t :: r).length : Int) - 1) = (r.length : Int) := by simp only [List.length_cons]; rw [wr_of (by omega) (by omega)]; omega
      rw [e1, Int.toNat_natCast, hs.1]
      refine ⟨mInA_n (by omega), fun q4 => ⟨mInA_n (by omega), ?_⟩, fun q4 => ⟨mInA_n (by omega), ?_⟩⟩
      · exact goM r.length 0 (0 :: r) (by simp [evl, ev1, o1, q4]) o3 hl ⟨up_s, stk_up hs.2 (Nat.le_refl _)⟩
      · exact goM r.length 1 (1 :: r) (by simp [evl, ev1, o1, q4]) o3 hl ⟨up_s, stk_up hs.2 (Nat.le_refl _)⟩
    · have ee : ecl q < -8 := by
        obtain ⟨⟨o1, o2⟩, -⟩ := o
        unfold ecl
        generalize q.1 = z at *
        have : z = 4 ∨ z = 5 ∨ z = 6 ∨ z = 7 ∨ z = 8 ∨ z = 9 ∨ z = 10 := by omega
        rcases this with rfl | rfl | rfl | rfl | rfl | rfl | rfl <;> simp
      refine ⟨fun _ => ⟨fun _ => ⟨fun q3 => by omega, fun _ => ?_⟩, fun q2 => by omega⟩, fun q1 => by omega⟩
      obtain ⟨o1, o2, o3⟩ := o
      obtain ⟨t, u, r, rfl⟩ := two_of o2
      simp only [List.length_cons] at o2 hl
      have e1 : wr (((t :: u :: r).length : Int) + -1) = ((u :: r).length : Int) := by simp only [List.length_cons]; rw [wr_of (by omega) (by omega)]; omega
      have e2 : wr (((u :: r).length : Int) - 1) = (r.length : Int) := by simp only [List.length_cons]; rw [wr_of (by omega) (by omega)]; omega
      rw [e1, e2, Int.toNat_natCast, Int.toNat_natCast, hs.1, hs.2.1]
      refine ⟨mInA_n (by omega), mInA_n (by simp only [List.length_cons]; omega), ?_⟩
      refine c_join o1 ?_
      refine vc43r37r99_133 ⟨mInA_n (by omega), ?_⟩
      rw [ei, Int.toNat_natCast]
      exact goM r.length (bth q.1 u t) (bth q.1 u t :: r) (by simp [evl, ev1, show ¬ q.1 = 1 by omega, show ¬ q.1 = 2 by omega, show ¬ q.1 = 3 by omega]) (by simpa using o3) (by simp; omega) ⟨up_s, stk_up hs.2.2 (Nat.le_refl _)⟩
theorem c_valueW {X : mXX} {d : Nat} {Q : Option mV → mS → Prop} {σ α : Nat → Nat → Int} {P : List (Int × Int)} {f : Nat → Int} {m : Int} (h7 : m ≤ 7) (hp : pgC (α 38) 0 P) (hn : σ 37 2 = P.length) (hm : P.length ≤ 1000) (hf : ∀ a : Nat, (a : Int) < m → α 99 ((a + 4) % 7) = f a) (ok : okE m P 0) (h : ∀ α', Fα [39] α α' → Q (some (vI (evV f P))) (S0, σ, α')) : Ca X (d + 2) 43 [vR 37, vR 99] (S0, σ, α) Q := by
  refine vc43r37r99_0 ?_
  exact c_vloopW h7 P 0 [] α none hp (by omega) (by omega) hf ok (by decide) trivial h
