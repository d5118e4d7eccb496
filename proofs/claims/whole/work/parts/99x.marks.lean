/-! Marks in both (printed by wip/tool/gen99w.py) -/
theorem b_mark0 {X : mXX} {d : Nat} {v : Int} : Bth X d 120 222 [vR 0, vI 0, vI v] [vR 104, vI 0, vI v] := by
  intro σ α P W H K J I hH hK hJ
  have M := I.1.2.2.2.2.2.1
  have Mm : MKr σ α H 49 0 := M.1
  refine c_mark0 (d := d + 88) (fun q σ1 α1 F1 E1 s0 s1 T => hK _ _ _ ?_) (fun q q2 σ1 α1 F1 E1 s1 T => hK _ _ _ ?_) (fun q q2 => hK _ _ _ ?_)
  · refine m_mark (d := d + 88) (m := 0) (by decide) (fun _ α2 E2 e2 f2 => ?_) (fun q2 => absurd q q2) (fun q2 => absurd q q2)
    have e1 : α1 110 = α 110 := E1 110 (by decide)
    rw [e1] at e2
    have hi := cy_hi (ρ := α 110) (m := 0)
    have L : loE (α 110) (α2 110) := by rw [e2]; exact hi.1
    have em : ∀ j, j < 320 → mkR (α2 110) 0 j = α 110 j := fun j hj => by unfold mkR; rw [e2]; exact hi.2.1 j hj
    have eo : ∀ n, n ≠ 0 → loE (mkR (α 110) n) (mkR (α2 110) n) := fun n hn j hj => by unfold mkR; rw [e2]; exact hi.2.2 n j hn hj
    have r : ∀ i, 49 ≤ i → i < 81 → α2 i = α1 i := fun i i1 i2 => E2 i (fun q => by simp at q; omega)
    have r1 : ∀ i, 49 ≤ i → i < 81 → (i ≤ 49 ∨ 56 < i) → α1 i = α i := fun i i1 i2 i3 => E1 i (fun q => by simp at q; omega)
    have s : ∀ i k, i ≠ 49 → i ≠ 104 → mUp σ1 104 0 0 i k = σ i k := fun i k i1 i2 => by rw [up_n (fun q => i2 q.1), F1 i k (fun q => by simp at q; omega)]
    have f7 : ∀ n, n ≠ 0 → α2 117 n = α 117 n := fun n hn => by rw [f2]; show (if n = 0 then 1 else α1 117 n) = _; rw [if_neg hn, E1 117 (by decide)]
    obtain ⟨⟨⟨C, w⟩, ⟨l1, o1⟩, ⟨l2, o2⟩, z, h3, _, T0⟩, wd, lb⟩ := I
    have mo : ∀ Kn n, n ≠ 0 → 49 ≤ Kn → Kn ≤ 73 → (Kn + 7 < 49 ∨ 56 < Kn) → MKr σ α H Kn n → MKr (mUp σ1 104 0 0) α2 H Kn n := fun Kn n hn k1 k2 k3 Mn => Mn.lo (s Kn 0 (by omega) (by omega)) (s Kn 1 (by omega) (by omega)) (f7 n hn) L (eo n hn) w (fun i hi => by rw [r _ (by omega) (by omega), r1 _ (by omega) (by omega) (by omega)])
    have mn : MKr (mUp σ1 104 0 0) α2 H 49 0 := mk_new C w h3 T (fun i hi => r _ (by omega) (by omega)) (by rw [up_n (by decide)]; exact s0) (by rw [up_n (by decide)]; exact s1) (by rw [f2]; exact if_pos rfl) L em
    refine hJ _ _ α2 P W (INX.up (H := H) ⟨⟨⟨((((C.s0 F1).fr E1).s104).fr E2).lo w L, w.lo L⟩, ⟨l1.st (L 6 (by decide)) ?_ ?_, o1⟩, ⟨l2.st (L 7 (by decide)) ?_ ?_, o2⟩, ?_, ?_, ⟨mn, mo 57 1 (by decide) (by decide) (by decide) (by decide) M.2.1, mo 65 2 (by decide) (by decide) (by decide) (by decide) M.2.2.1, mo 73 3 (by decide) (by decide) (by decide) (by decide) M.2.2.2⟩, ?_⟩, (wd.fr E1).fr E2, lb.st (L 6 (by decide)) (L 7 (by decide))⟩ h100)
    · rw [E2 111 (by decide), E1 111 (by decide)]
    · rw [E2 112 (by decide), E1 112 (by decide)]
    · rw [E2 111 (by decide), E1 111 (by decide)]
    · rw [E2 112 (by decide), E1 112 (by decide)]
    · rw [E2 124 (by decide), E1 124 (by decide)]; exact z
    · rw [L 3 (by decide)]; exact h3
    · unfold TPE
      rw [up_n (by decide), up_n (by decide), F1 104 2 (by decide), F1 1 1 (by decide), E2 105 (by decide), E1 105 (by decide), E2 2 (by decide), E1 2 (by decide)]
      exact T0
  · have a7 : α 117 0 = 1 := by
      rcases Mm.1.2 with y | y
      · exact absurd (Mm.1.1.trans y) q2
      · exact y
    have e7 : α1 117 = α 117 := E1 117 (by decide)
    have e7m : α1 117 0 = α 117 0 := by rw [e7]
    refine m_mark (d := d + 88) (m := 0) (by decide) (fun q3 => absurd q3 q) (fun _ _ α2 E2 e2 f2 => ?_) (fun _ q3 => absurd (q3.symm.trans (e7m.trans a7)) (by decide))
    have e1 : α1 110 = α 110 := E1 110 (by decide)
    rw [e1] at e2
    have lo := cy_lo (ρ := α 110) (m := 0)
    have L : loE (mkR (α 110) 0) (α2 110) := by rw [e2]; exact lo.1
    have f7 : α2 117 = α 117 := by
      rw [f2, e7]
      funext i
      by_cases hi : i = 0
      · rw [if_pos hi, hi, a7]
      · rw [if_neg hi]
    have E12 : Fα AX α α2 := fun a ha => by
      by_cases h7 : a = 117
      · rw [h7]; exact f7
      · have h0 : a ≠ 110 := fun e => ha (by rw [e]; decide)
        rw [E2 a (fun y => by simp at y; omega), E1 a (fun y => ha ((by decide : ∀ x ∈ ZS, x ∈ AX) a y))]
    obtain ⟨b1, b2, b3, b4⟩ := mk_back I.1.1.1 I.1.1.2 Mm a7 T E1 F1 s1 L
    refine hJ _ _ α2 P W ((I.stt (H' := H) ((F1.wk (by decide)).tr (Fσ.up (by decide))) E12 ((b1.s104).fr E2) b2 b3 (fun j hj => by rw [e2]; exact lo.2 j hj) ?_ (Int.le_refl _) b4).up h100)
    rw [E2 124 (by decide), E1 124 (by decide)]
    exact I.1.2.2.2.1
  · have a7 : α 117 0 = 0 := Mm.1.1.symm.trans q2
    refine m_mark (d := d + 88) (m := 0) (by decide) (fun q3 => absurd q3 q) (fun _ q3 => absurd a7 q3) (fun _ _ => ?_)
    exact hJ _ _ α P W (I.q1 (Z1 := []) (Z2 := []) Fα.rf Fα.rf I.1.1.1)
theorem b_mark1 {X : mXX} {d : Nat} {v : Int} : Bth X d 120 222 [vR 0, vI 1, vI v] [vR 104, vI 1, vI v] := by
  intro σ α P W H K J I hH hK hJ
  have M := I.1.2.2.2.2.2.1
  have Mm : MKr σ α H 57 1 := M.2.1
  refine c_mark1 (d := d + 88) (fun q σ1 α1 F1 E1 s0 s1 T => hK _ _ _ ?_) (fun q q2 σ1 α1 F1 E1 s1 T => hK _ _ _ ?_) (fun q q2 => hK _ _ _ ?_)
  · refine m_mark (d := d + 88) (m := 1) (by decide) (fun _ α2 E2 e2 f2 => ?_) (fun q2 => absurd q q2) (fun q2 => absurd q q2)
    have e1 : α1 110 = α 110 := E1 110 (by decide)
    rw [e1] at e2
    have hi := cy_hi (ρ := α 110) (m := 1)
    have L : loE (α 110) (α2 110) := by rw [e2]; exact hi.1
    have em : ∀ j, j < 320 → mkR (α2 110) 1 j = α 110 j := fun j hj => by unfold mkR; rw [e2]; exact hi.2.1 j hj
    have eo : ∀ n, n ≠ 1 → loE (mkR (α 110) n) (mkR (α2 110) n) := fun n hn j hj => by unfold mkR; rw [e2]; exact hi.2.2 n j hn hj
    have r : ∀ i, 49 ≤ i → i < 81 → α2 i = α1 i := fun i i1 i2 => E2 i (fun q => by simp at q; omega)
    have r1 : ∀ i, 49 ≤ i → i < 81 → (i ≤ 57 ∨ 64 < i) → α1 i = α i := fun i i1 i2 i3 => E1 i (fun q => by simp at q; omega)
    have s : ∀ i k, i ≠ 57 → i ≠ 104 → mUp σ1 104 0 0 i k = σ i k := fun i k i1 i2 => by rw [up_n (fun q => i2 q.1), F1 i k (fun q => by simp at q; omega)]
    have f7 : ∀ n, n ≠ 1 → α2 117 n = α 117 n := fun n hn => by rw [f2]; show (if n = 1 then 1 else α1 117 n) = _; rw [if_neg hn, E1 117 (by decide)]
    obtain ⟨⟨⟨C, w⟩, ⟨l1, o1⟩, ⟨l2, o2⟩, z, h3, _, T0⟩, wd, lb⟩ := I
    have mo : ∀ Kn n, n ≠ 1 → 49 ≤ Kn → Kn ≤ 73 → (Kn + 7 < 57 ∨ 64 < Kn) → MKr σ α H Kn n → MKr (mUp σ1 104 0 0) α2 H Kn n := fun Kn n hn k1 k2 k3 Mn => Mn.lo (s Kn 0 (by omega) (by omega)) (s Kn 1 (by omega) (by omega)) (f7 n hn) L (eo n hn) w (fun i hi => by rw [r _ (by omega) (by omega), r1 _ (by omega) (by omega) (by omega)])
    have mn : MKr (mUp σ1 104 0 0) α2 H 57 1 := mk_new C w h3 T (fun i hi => r _ (by omega) (by omega)) (by rw [up_n (by decide)]; exact s0) (by rw [up_n (by decide)]; exact s1) (by rw [f2]; exact if_pos rfl) L em
    refine hJ _ _ α2 P W (INX.up (H := H) ⟨⟨⟨((((C.s0 F1).fr E1).s104).fr E2).lo w L, w.lo L⟩, ⟨l1.st (L 6 (by decide)) ?_ ?_, o1⟩, ⟨l2.st (L 7 (by decide)) ?_ ?_, o2⟩, ?_, ?_, ⟨mo 49 0 (by decide) (by decide) (by decide) (by decide) M.1, mn, mo 65 2 (by decide) (by decide) (by decide) (by decide) M.2.2.1, mo 73 3 (by decide) (by decide) (by decide) (by decide) M.2.2.2⟩, ?_⟩, (wd.fr E1).fr E2, lb.st (L 6 (by decide)) (L 7 (by decide))⟩ h100)
    · rw [E2 111 (by decide), E1 111 (by decide)]
    · rw [E2 112 (by decide), E1 112 (by decide)]
    · rw [E2 111 (by decide), E1 111 (by decide)]
    · rw [E2 112 (by decide), E1 112 (by decide)]
    · rw [E2 124 (by decide), E1 124 (by decide)]; exact z
    · rw [L 3 (by decide)]; exact h3
    · unfold TPE
      rw [up_n (by decide), up_n (by decide), F1 104 2 (by decide), F1 1 1 (by decide), E2 105 (by decide), E1 105 (by decide), E2 2 (by decide), E1 2 (by decide)]
      exact T0
  · have a7 : α 117 1 = 1 := by
      rcases Mm.1.2 with y | y
      · exact absurd (Mm.1.1.trans y) q2
      · exact y
    have e7 : α1 117 = α 117 := E1 117 (by decide)
    have e7m : α1 117 1 = α 117 1 := by rw [e7]
    refine m_mark (d := d + 88) (m := 1) (by decide) (fun q3 => absurd q3 q) (fun _ _ α2 E2 e2 f2 => ?_) (fun _ q3 => absurd (q3.symm.trans (e7m.trans a7)) (by decide))
    have e1 : α1 110 = α 110 := E1 110 (by decide)
    rw [e1] at e2
    have lo := cy_lo (ρ := α 110) (m := 1)
    have L : loE (mkR (α 110) 1) (α2 110) := by rw [e2]; exact lo.1
    have f7 : α2 117 = α 117 := by
      rw [f2, e7]
      funext i
      by_cases hi : i = 1
      · rw [if_pos hi, hi, a7]
      · rw [if_neg hi]
    have E12 : Fα AX α α2 := fun a ha => by
      by_cases h7 : a = 117
      · rw [h7]; exact f7
      · have h0 : a ≠ 110 := fun e => ha (by rw [e]; decide)
        rw [E2 a (fun y => by simp at y; omega), E1 a (fun y => ha ((by decide : ∀ x ∈ ZS, x ∈ AX) a y))]
    obtain ⟨b1, b2, b3, b4⟩ := mk_back I.1.1.1 I.1.1.2 Mm a7 T E1 F1 s1 L
    refine hJ _ _ α2 P W ((I.stt (H' := H) ((F1.wk (by decide)).tr (Fσ.up (by decide))) E12 ((b1.s104).fr E2) b2 b3 (fun j hj => by rw [e2]; exact lo.2 j hj) ?_ (Int.le_refl _) b4).up h100)
    rw [E2 124 (by decide), E1 124 (by decide)]
    exact I.1.2.2.2.1
  · have a7 : α 117 1 = 0 := Mm.1.1.symm.trans q2
    refine m_mark (d := d + 88) (m := 1) (by decide) (fun q3 => absurd q3 q) (fun _ q3 => absurd a7 q3) (fun _ _ => ?_)
    exact hJ _ _ α P W (I.q1 (Z1 := []) (Z2 := []) Fα.rf Fα.rf I.1.1.1)
theorem b_mark2 {X : mXX} {d : Nat} {v : Int} : Bth X d 120 222 [vR 0, vI 2, vI v] [vR 104, vI 2, vI v] := by
  intro σ α P W H K J I hH hK hJ
  have M := I.1.2.2.2.2.2.1
  have Mm : MKr σ α H 65 2 := M.2.2.1
  refine c_mark2 (d := d + 88) (fun q σ1 α1 F1 E1 s0 s1 T => hK _ _ _ ?_) (fun q q2 σ1 α1 F1 E1 s1 T => hK _ _ _ ?_) (fun q q2 => hK _ _ _ ?_)
  · refine m_mark (d := d + 88) (m := 2) (by decide) (fun _ α2 E2 e2 f2 => ?_) (fun q2 => absurd q q2) (fun q2 => absurd q q2)
    have e1 : α1 110 = α 110 := E1 110 (by decide)
    rw [e1] at e2
    have hi := cy_hi (ρ := α 110) (m := 2)
    have L : loE (α 110) (α2 110) := by rw [e2]; exact hi.1
    have em : ∀ j, j < 320 → mkR (α2 110) 2 j = α 110 j := fun j hj => by unfold mkR; rw [e2]; exact hi.2.1 j hj
    have eo : ∀ n, n ≠ 2 → loE (mkR (α 110) n) (mkR (α2 110) n) := fun n hn j hj => by unfold mkR; rw [e2]; exact hi.2.2 n j hn hj
    have r : ∀ i, 49 ≤ i → i < 81 → α2 i = α1 i := fun i i1 i2 => E2 i (fun q => by simp at q; omega)
    have r1 : ∀ i, 49 ≤ i → i < 81 → (i ≤ 65 ∨ 72 < i) → α1 i = α i := fun i i1 i2 i3 => E1 i (fun q => by simp at q; omega)
    have s : ∀ i k, i ≠ 65 → i ≠ 104 → mUp σ1 104 0 0 i k = σ i k := fun i k i1 i2 => by rw [up_n (fun q => i2 q.1), F1 i k (fun q => by simp at q; omega)]
    have f7 : ∀ n, n ≠ 2 → α2 117 n = α 117 n := fun n hn => by rw [f2]; show (if n = 2 then 1 else α1 117 n) = _; rw [if_neg hn, E1 117 (by decide)]
    obtain ⟨⟨⟨C, w⟩, ⟨l1, o1⟩, ⟨l2, o2⟩, z, h3, _, T0⟩, wd, lb⟩ := I
    have mo : ∀ Kn n, n ≠ 2 → 49 ≤ Kn → Kn ≤ 73 → (Kn + 7 < 65 ∨ 72 < Kn) → MKr σ α H Kn n → MKr (mUp σ1 104 0 0) α2 H Kn n := fun Kn n hn k1 k2 k3 Mn => Mn.lo (s Kn 0 (by omega) (by omega)) (s Kn 1 (by omega) (by omega)) (f7 n hn) L (eo n hn) w (fun i hi => by rw [r _ (by omega) (by omega), r1 _ (by omega) (by omega) (by omega)])
    have mn : MKr (mUp σ1 104 0 0) α2 H 65 2 := mk_new C w h3 T (fun i hi => r _ (by omega) (by omega)) (by rw [up_n (by decide)]; exact s0) (by rw [up_n (by decide)]; exact s1) (by rw [f2]; exact if_pos rfl) L em
    refine hJ _ _ α2 P W (INX.up (H := H) ⟨⟨⟨((((C.s0 F1).fr E1).s104).fr E2).lo w L, w.lo L⟩, ⟨l1.st (L 6 (by decide)) ?_ ?_, o1⟩, ⟨l2.st (L 7 (by decide)) ?_ ?_, o2⟩, ?_, ?_, ⟨mo 49 0 (by decide) (by decide) (by decide) (by decide) M.1, mo 57 1 (by decide) (by decide) (by decide) (by decide) M.2.1, mn, mo 73 3 (by decide) (by decide) (by decide) (by decide) M.2.2.2⟩, ?_⟩, (wd.fr E1).fr E2, lb.st (L 6 (by decide)) (L 7 (by decide))⟩ h100)
    · rw [E2 111 (by decide), E1 111 (by decide)]
    · rw [E2 112 (by decide), E1 112 (by decide)]
    · rw [E2 111 (by decide), E1 111 (by decide)]
    · rw [E2 112 (by decide), E1 112 (by decide)]
    · rw [E2 124 (by decide), E1 124 (by decide)]; exact z
    · rw [L 3 (by decide)]; exact h3
    · unfold TPE
      rw [up_n (by decide), up_n (by decide), F1 104 2 (by decide), F1 1 1 (by decide), E2 105 (by decide), E1 105 (by decide), E2 2 (by decide), E1 2 (by decide)]
      exact T0
  · have a7 : α 117 2 = 1 := by
      rcases Mm.1.2 with y | y
      · exact absurd (Mm.1.1.trans y) q2
      · exact y
    have e7 : α1 117 = α 117 := E1 117 (by decide)
    have e7m : α1 117 2 = α 117 2 := by rw [e7]
    refine m_mark (d := d + 88) (m := 2) (by decide) (fun q3 => absurd q3 q) (fun _ _ α2 E2 e2 f2 => ?_) (fun _ q3 => absurd (q3.symm.trans (e7m.trans a7)) (by decide))
    have e1 : α1 110 = α 110 := E1 110 (by decide)
    rw [e1] at e2
    have lo := cy_lo (ρ := α 110) (m := 2)
    have L : loE (mkR (α 110) 2) (α2 110) := by rw [e2]; exact lo.1
    have f7 : α2 117 = α 117 := by
      rw [f2, e7]
      funext i
      by_cases hi : i = 2
      · rw [if_pos hi, hi, a7]
      · rw [if_neg hi]
    have E12 : Fα AX α α2 := fun a ha => by
      by_cases h7 : a = 117
      · rw [h7]; exact f7
      · have h0 : a ≠ 110 := fun e => ha (by rw [e]; decide)
        rw [E2 a (fun y => by simp at y; omega), E1 a (fun y => ha ((by decide : ∀ x ∈ ZS, x ∈ AX) a y))]
    obtain ⟨b1, b2, b3, b4⟩ := mk_back I.1.1.1 I.1.1.2 Mm a7 T E1 F1 s1 L
    refine hJ _ _ α2 P W ((I.stt (H' := H) ((F1.wk (by decide)).tr (Fσ.up (by decide))) E12 ((b1.s104).fr E2) b2 b3 (fun j hj => by rw [e2]; exact lo.2 j hj) ?_ (Int.le_refl _) b4).up h100)
    rw [E2 124 (by decide), E1 124 (by decide)]
    exact I.1.2.2.2.1
  · have a7 : α 117 2 = 0 := Mm.1.1.symm.trans q2
    refine m_mark (d := d + 88) (m := 2) (by decide) (fun q3 => absurd q3 q) (fun _ q3 => absurd a7 q3) (fun _ _ => ?_)
    exact hJ _ _ α P W (I.q1 (Z1 := []) (Z2 := []) Fα.rf Fα.rf I.1.1.1)
theorem b_mark3 {X : mXX} {d : Nat} {v : Int} : Bth X d 120 222 [vR 0, vI 3, vI v] [vR 104, vI 3, vI v] := by
  intro σ α P W H K J I hH hK hJ
  have M := I.1.2.2.2.2.2.1
  have Mm : MKr σ α H 73 3 := M.2.2.2
  refine c_mark3 (d := d + 88) (fun q σ1 α1 F1 E1 s0 s1 T => hK _ _ _ ?_) (fun q q2 σ1 α1 F1 E1 s1 T => hK _ _ _ ?_) (fun q q2 => hK _ _ _ ?_)
  · refine m_mark (d := d + 88) (m := 3) (by decide) (fun _ α2 E2 e2 f2 => ?_) (fun q2 => absurd q q2) (fun q2 => absurd q q2)
    have e1 : α1 110 = α 110 := E1 110 (by decide)
    rw [e1] at e2
    have hi := cy_hi (ρ := α 110) (m := 3)
    have L : loE (α 110) (α2 110) := by rw [e2]; exact hi.1
    have em : ∀ j, j < 320 → mkR (α2 110) 3 j = α 110 j := fun j hj => by unfold mkR; rw [e2]; exact hi.2.1 j hj
    have eo : ∀ n, n ≠ 3 → loE (mkR (α 110) n) (mkR (α2 110) n) := fun n hn j hj => by unfold mkR; rw [e2]; exact hi.2.2 n j hn hj
    have r : ∀ i, 49 ≤ i → i < 81 → α2 i = α1 i := fun i i1 i2 => E2 i (fun q => by simp at q; omega)
    have r1 : ∀ i, 49 ≤ i → i < 81 → (i ≤ 73 ∨ 80 < i) → α1 i = α i := fun i i1 i2 i3 => E1 i (fun q => by simp at q; omega)
    have s : ∀ i k, i ≠ 73 → i ≠ 104 → mUp σ1 104 0 0 i k = σ i k := fun i k i1 i2 => by rw [up_n (fun q => i2 q.1), F1 i k (fun q => by simp at q; omega)]
    have f7 : ∀ n, n ≠ 3 → α2 117 n = α 117 n := fun n hn => by rw [f2]; show (if n = 3 then 1 else α1 117 n) = _; rw [if_neg hn, E1 117 (by decide)]
    obtain ⟨⟨⟨C, w⟩, ⟨l1, o1⟩, ⟨l2, o2⟩, z, h3, _, T0⟩, wd, lb⟩ := I
    have mo : ∀ Kn n, n ≠ 3 → 49 ≤ Kn → Kn ≤ 73 → (Kn + 7 < 73 ∨ 80 < Kn) → MKr σ α H Kn n → MKr (mUp σ1 104 0 0) α2 H Kn n := fun Kn n hn k1 k2 k3 Mn => Mn.lo (s Kn 0 (by omega) (by omega)) (s Kn 1 (by omega) (by omega)) (f7 n hn) L (eo n hn) w (fun i hi => by rw [r _ (by omega) (by omega), r1 _ (by omega) (by omega) (by omega)])
    have mn : MKr (mUp σ1 104 0 0) α2 H 73 3 := mk_new C w h3 T (fun i hi => r _ (by omega) (by omega)) (by rw [up_n (by decide)]; exact s0) (by rw [up_n (by decide)]; exact s1) (by rw [f2]; exact if_pos rfl) L em
    refine hJ _ _ α2 P W (INX.up (H := H) ⟨⟨⟨((((C.s0 F1).fr E1).s104).fr E2).lo w L, w.lo L⟩, ⟨l1.st (L 6 (by decide)) ?_ ?_, o1⟩, ⟨l2.st (L 7 (by decide)) ?_ ?_, o2⟩, ?_, ?_, ⟨mo 49 0 (by decide) (by decide) (by decide) (by decide) M.1, mo 57 1 (by decide) (by decide) (by decide) (by decide) M.2.1, mo 65 2 (by decide) (by decide) (by decide) (by decide) M.2.2.1, mn⟩, ?_⟩, (wd.fr E1).fr E2, lb.st (L 6 (by decide)) (L 7 (by decide))⟩ h100)
    · rw [E2 111 (by decide), E1 111 (by decide)]
    · rw [E2 112 (by decide), E1 112 (by decide)]
    · rw [E2 111 (by decide), E1 111 (by decide)]
    · rw [E2 112 (by decide), E1 112 (by decide)]
    · rw [E2 124 (by decide), E1 124 (by decide)]; exact z
    · rw [L 3 (by decide)]; exact h3
    · unfold TPE
      rw [up_n (by decide), up_n (by decide), F1 104 2 (by decide), F1 1 1 (by decide), E2 105 (by decide), E1 105 (by decide), E2 2 (by decide), E1 2 (by decide)]
      exact T0
  · have a7 : α 117 3 = 1 := by
      rcases Mm.1.2 with y | y
      · exact absurd (Mm.1.1.trans y) q2
      · exact y
    have e7 : α1 117 = α 117 := E1 117 (by decide)
    have e7m : α1 117 3 = α 117 3 := by rw [e7]
    refine m_mark (d := d + 88) (m := 3) (by decide) (fun q3 => absurd q3 q) (fun _ _ α2 E2 e2 f2 => ?_) (fun _ q3 => absurd (q3.symm.trans (e7m.trans a7)) (by decide))
    have e1 : α1 110 = α 110 := E1 110 (by decide)
    rw [e1] at e2
    have lo := cy_lo (ρ := α 110) (m := 3)
    have L : loE (mkR (α 110) 3) (α2 110) := by rw [e2]; exact lo.1
    have f7 : α2 117 = α 117 := by
      rw [f2, e7]
      funext i
      by_cases hi : i = 3
      · rw [if_pos hi, hi, a7]
      · rw [if_neg hi]
    have E12 : Fα AX α α2 := fun a ha => by
      by_cases h7 : a = 117
      · rw [h7]; exact f7
      · have h0 : a ≠ 110 := fun e => ha (by rw [e]; decide)
        rw [E2 a (fun y => by simp at y; omega), E1 a (fun y => ha ((by decide : ∀ x ∈ ZS, x ∈ AX) a y))]
    obtain ⟨b1, b2, b3, b4⟩ := mk_back I.1.1.1 I.1.1.2 Mm a7 T E1 F1 s1 L
    refine hJ _ _ α2 P W ((I.stt (H' := H) ((F1.wk (by decide)).tr (Fσ.up (by decide))) E12 ((b1.s104).fr E2) b2 b3 (fun j hj => by rw [e2]; exact lo.2 j hj) ?_ (Int.le_refl _) b4).up h100)
    rw [E2 124 (by decide), E1 124 (by decide)]
    exact I.1.2.2.2.1
  · have a7 : α 117 3 = 0 := Mm.1.1.symm.trans q2
    refine m_mark (d := d + 88) (m := 3) (by decide) (fun q3 => absurd q3 q) (fun _ q3 => absurd a7 q3) (fun _ _ => ?_)
    exact hJ _ _ α P W (I.q1 (Z1 := []) (Z2 := []) Fα.rf Fα.rf I.1.1.1)
theorem m03 {m : Int} (h : 0 ≤ m ∧ m ≤ 3) : m = 0 ∨ m = 1 ∨ m = 2 ∨ m = 3 := by omega
theorem b_mark {X : mXX} {d : Nat} {m v : Int} : Bth X d 120 222 [vR 0, vI m, vI v] [vR 104, vI m, vI v] := by
  by_cases h : 0 ≤ m ∧ m ≤ 3
  · rcases m03 h with e | e | e | e
    · rw [e]; exact b_mark0
    · rw [e]; exact b_mark1
    · rw [e]; exact b_mark2
    · rw [e]; exact b_mark3
  · intro σ α P W H K J I hH hK hJ
    refine c_markO (d := d + 88) h (hK _ _ _ (m_markO (d := d + 88) h ?_))
    exact hJ _ _ α P W (I.q1 (Z1 := []) (Z2 := []) Fα.rf Fα.rf I.1.1.1)
