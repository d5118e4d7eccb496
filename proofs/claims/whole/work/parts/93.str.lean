/-! Texts: the words and the signs -/
theorem bW_c : ∀ j : Fin 232, iC (iAnd (bW j.val) 255) = bW j.val ∧ 0 ≤ bW j.val ∧ bW j.val < 65536 := by decide +kernel
theorem c_charAt {X : mXX} {d : Nat} {Q : Option mV → mS → Prop} {σ α : Nat → Nat → Int} {j : Nat} (hj : j < 232) (hQ : Q (some (vI (bW j))) (S0, σ, α)) : Ca X (d + 4) 225 [vK 4, vI (j : Int)] (S0, σ, α) Q := by
  have h0 : ¬ (j : Int) < 0 := by omega
  have h1 : (j : Int) < 232 := by omega
  have b := bW_c ⟨j, hj⟩
  refine vc225_0 ?_
  refine vc226k4_0 ?_
  refine vc225_4 ⟨fun q => absurd q (by decide), fun _ => ?_⟩
  refine vc227_0 ?_
  refine vc228_0 ?_
  refine vc229_0 ⟨fun q => absurd q h0, fun _ => ⟨fun _ => ?_, fun q => absurd h1 q⟩⟩
  refine vc228_8 ?_
  refine vc227_6 ⟨mInA_n hj, ?_⟩
  rw [Int.toNat_natCast, b.1]
  refine ⟨b.2, ?_⟩
  exact vc225_15 ⟨b.2, hQ⟩
def sgP (c : Int) : Prop := c = 40 ∨ c = 41 ∨ c = 60 ∨ c = 61 ∨ c = 43 ∨ c = 45 ∨ c = 42 ∨ c = 59
def inS (c : Int) : Nat → Nat → Int
  | 0, _ => -1
  | m + 1, j => if bS j = c then (j : Int) else inS c m (j + 1)
theorem iC_b : ∀ c : Fin 127, iC ((c.val : Nat) : Int) = ((c.val : Nat) : Int) ∧ iB ((c.val : Nat) : Int) = ((c.val : Nat) : Int) ∧ (inS ((c.val : Nat) : Int) 8 0 < 0 ↔ ¬ (((c.val : Nat) : Int) = 40 ∨ ((c.val : Nat) : Int) = 41 ∨ ((c.val : Nat) : Int) = 60 ∨ ((c.val : Nat) : Int) = 61 ∨ ((c.val : Nat) : Int) = 43 ∨ ((c.val : Nat) : Int) = 45 ∨ ((c.val : Nat) : Int) = 42 ∨ ((c.val : Nat) : Int) = 59)) := by decide +kernel
theorem c_indexOf {X : mXX} {d : Nat} {Q : Option mV → mS → Prop} {σ α : Nat → Nat → Int} {c : Int} (hc : 0 ≤ c ∧ c < 127) (h0 : ¬ sgP c → ∀ r : Int, r < 0 → Q (some (vI r)) (S0, σ, α)) (h1 : sgP c → ∀ r : Int, ¬ r < 0 → Q (some (vI r)) (S0, σ, α)) : Ca X (d + 5) 230 [vK 5, vI (iC c)] (S0, σ, α) Q := by
  obtain ⟨n, hn⟩ := Int.eq_ofNat_of_zero_le hc.1
  subst hn
  have n1 : n < 127 := by omega
  have b := iC_b ⟨n, n1⟩
  have b1 : iC (n : Int) = (n : Int) := b.1
  have b2 : iB (n : Int) = (n : Int) := b.2.1
  have b3 : inS (n : Int) 8 0 < 0 ↔ ¬ sgP (n : Int) := b.2.2
  rw [b1]
  refine vc230_0 ?_
  refine vc231_0 ?_
  refine vc226k5_0 ?_
  refine vc231_4 ⟨fun q => absurd q (by decide), fun _ => ?_⟩
  refine vc232_0 ?_
  refine vc233_0 ?_
  refine vc232_9 ?_
  rw [show iShr 8 0 = 8 by decide]
  refine vc231_17 ?_
  refine vc234_0 ?_
  refine vc235_0 ⟨fun q => absurd q (by clear b b1 b2 b3; omega), fun _ => ⟨fun q => absurd q (by clear b b1 b2 b3; omega), fun _ => ?_⟩⟩
  refine vc234_4 ⟨fun _ => ⟨fun _ => ?_, fun q => absurd (by decide) q⟩, fun q => absurd q (by decide)⟩
  rw [show max (0 : Int) 0 = 0 by decide, show min (8 : Int) 8 = 8 by decide]
  refine vc236_0 ?_
  rw [b2]
  have fin : ∀ r : Int, r = inS (n : Int) 8 0 → Q (some (vI r)) (S0, σ, α) := by
    intro r hr
    by_cases q : sgP (n : Int)
    · exact h1 q r (fun z => by rw [hr] at z; exact b3.mp z q)
    · exact h0 q r (by rw [hr]; exact b3.mpr q)
  have key : ∀ (m j : Nat), j + m = 8 → inS (n : Int) m j = inS (n : Int) 8 0 → Go X (d + 1) 236 7 [some (vK 7), some (vI (n : Int)), some (vI 0), some (vI 8), some (vI (n : Int)), some (vI (j : Int))] [] (S0, σ, α) (0, 0) (fun r s' => aI r (fun n_1 => Go X (d + 2) 234 36 [some (vK 7), some (vI (n : Int)), some (vI 0), some (vI 8)] [vI n_1] s' (0, 0) (fun r s' => aI r (fun n_1 => Go X (d + 3) 231 20 [some (vK 5), some (vI (n : Int)), some (vI 0)] [vI n_1] s' (0, 0) (fun r s' => aI r (fun n_1 => Go X (d + 4) 230 6 [some (vK 5), some (vI (n : Int))] [vI n_1] s' (0, 0) Q)))))) := by
    intro m
    induction m with
    | zero =>
      intro j hj e
      have e' : j = 8 := hj
      subst e'
      refine vc236_7 ⟨fun _ => ?_, fun q => absurd q (by decide)⟩
      exact vc234_36 (vc231_20 (vc230_6 (fin _ e)))
    | succ m ih =>
      intro j hj e
      have jl : (j : Int) < 8 := by clear e b b1 b2 b3; omega
      have j8 : j < 8 := by clear e b b1 b2 b3; omega
      have jm : j + 1 + m = 8 := by clear e b b1 b2 b3; omega
      have ek := wrS (k := j) (by clear e b b1 b2 b3; omega)
      refine vc236_7 ⟨fun q => absurd jl q, fun _ => ⟨mInA_n j8, ?_⟩⟩
      rw [Int.toNat_natCast, ek]
      have es : inS (n : Int) (m + 1) j = if bS j = (n : Int) then (j : Int) else inS (n : Int) m (j + 1) := rfl
      refine ⟨fun q => ih (j + 1) jm (by rw [← e, es, if_neg q]), fun q => ?_⟩
      exact vc234_36 (vc231_20 (vc230_6 (fin _ (by rw [← e, es, if_pos q]))))
  exact key 8 0 (Nat.zero_add _) rfl
/-- the words -/
def wdL : List (List Int) := [[98, 97, 121], [114, 111, 99, 107], [115, 104, 111, 97, 108], [98, 111, 97, 116], [99, 97, 98, 108, 101], [115, 119, 101, 108, 108], [119, 105, 115, 104], [103, 97, 108, 101, 115], [108, 111, 111, 115, 101], [97, 116], [104, 111, 108, 100], [112, 117, 108, 108], [116, 114, 117, 115, 116], [115, 116, 114, 111, 110, 103], [112, 108, 97, 105, 110], [115, 108, 111, 119], [111, 97, 114], [111, 108, 100], [107, 101, 101, 110], [110, 111, 116], [97, 110, 100], [111, 114], [102, 105, 115, 104], [114, 111, 117, 103, 104], [114, 111, 111, 109], [102, 97, 114], [120], [121], [104, 111, 117, 114]]
def wdA (w : Nat) : List Int := wdL.getD w []
theorem wd_b : ∀ w : Fin 29, (∀ i : Fin 8, bW (8 * w.val + i.val) = (wdA w.val).getD i.val 32) ∧ (wdA w.val).length ≤ 8 ∧ ∀ c ∈ wdA w.val, 97 ≤ c ∧ c ≤ 122 := by decide +kernel
def ltL (l : List Int) : Prop := l.length ≤ 8 ∧ ∀ c ∈ l, 97 ≤ c ∧ c ≤ 122
theorem ltL.g {l : List Int} (h : ltL l) {i : Nat} : l.getD i 32 = 32 ↔ l.length ≤ i := by
  rw [List.getD_eq_getElem?_getD]
  constructor
  · intro e
    by_cases q : l.length ≤ i
    · exact q
    · exfalso
      have hi : i < l.length := by omega
      rw [List.getElem?_eq_getElem hi] at e
      have m := h.2 l[i] (List.getElem_mem hi)
      have e2 : l[i] = 32 := e
      omega
  · intro q
    rw [List.getElem?_eq_none q]; rfl
theorem pad_eq {l v : List Int} (hl : ltL l) (hv : ltL v) (h : ∀ i, i < 8 → l.getD i 32 = v.getD i 32) : l = v := by
  have e : l.length = v.length := by
    rcases Nat.lt_trichotomy l.length v.length with q | q | q
    · have h8 : l.length < 8 := Nat.lt_of_lt_of_le q hv.1
      have := h l.length h8
      rw [hl.g.mpr (Nat.le_refl _)] at this
      exact absurd (hv.g.mp this.symm) (Nat.not_le.mpr q)
    · exact q
    · have h8 : v.length < 8 := Nat.lt_of_lt_of_le q hl.1
      have := h v.length h8
      rw [hv.g.mpr (Nat.le_refl _)] at this
      exact absurd (hl.g.mp this) (Nat.not_le.mpr q)
  refine List.ext_getElem e (fun i h1 h2 => ?_)
  have := h i (Nat.lt_of_lt_of_le h1 hl.1)
  rw [List.getD_eq_getElem?_getD, List.getD_eq_getElem?_getD, List.getElem?_eq_getElem h1, List.getElem?_eq_getElem h2] at this
  exact this
theorem wd_lt {w : Nat} (h : w < 29) : ltL (wdA w) := (wd_b ⟨w, h⟩).2
theorem wd_ne : ∀ w u : Fin 29, wdA w.val = wdA u.val → w = u := by decide +kernel
def wnF (l : List Int) : Nat → Nat → Nat
  | 0, w => w
  | m + 1, w => if l = wdA w then w else wnF l m (w + 1)
/-- the number of a word -/
def wnW (l : List Int) : Nat := wnF l 29 0
theorem wnF_le {l : List Int} : ∀ {m w : Nat}, w ≤ wnF l m w ∧ wnF l m w ≤ w + m
  | 0, w => ⟨Nat.le_refl _, Nat.le_refl _⟩
  | m + 1, w => by
    unfold wnF
    have := wnF_le (l := l) (m := m) (w := w + 1)
    split <;> omega
theorem wnF_is {l : List Int} : ∀ {m w : Nat}, wnF l m w < w + m → l = wdA (wnF l m w)
  | 0, w, h => absurd h (Nat.lt_irrefl _)
  | m + 1, w, h => by
    unfold wnF at h ⊢
    by_cases q : l = wdA w
    · rw [if_pos q]; exact q
    · rw [if_neg q] at h ⊢
      exact wnF_is (by omega)
theorem wnF_no {l : List Int} : ∀ {m w u : Nat}, w ≤ u → u < wnF l m w → l ≠ wdA u
  | 0, w, u, h1, h2 => absurd h2 (Nat.not_lt.mpr h1)
  | m + 1, w, u, h1, h2 => by
    unfold wnF at h2
    by_cases q : l = wdA w
    · rw [if_pos q] at h2; exact absurd h2 (Nat.not_lt.mpr h1)
    · rw [if_neg q] at h2
      by_cases e : u = w
      · rw [e]; exact q
      · exact wnF_no (by omega) h2
theorem wn_iff {l : List Int} {w : Nat} (h : w < 29) : wnW l = w ↔ l = wdA w := by
  constructor
  · intro e
    have := wnF_is (l := l) (m := 29) (w := 0) (by show wnW l < 29; rw [e]; exact h)
    have e2 : wnF l 29 0 = w := e
    rw [e2] at this
    exact this
  · intro e
    have le := (wnF_le (l := l) (m := 29) (w := 0)).2
    rcases Nat.lt_trichotomy (wnW l) w with q | q | q
    · have z := wnF_is (l := l) (m := 29) (w := 0) (by show wnW l < 0 + 29; omega)
      have z2 : wdA (wnW l) = wdA w := z.symm.trans e
      have := wd_ne ⟨wnW l, by omega⟩ ⟨w, h⟩ z2
      exact congrArg Fin.val this
    · exact q
    · exact absurd e (wnF_no (Nat.zero_le w) q)
