/-! All that holds between calls; a bay in both -/
def INX (σ α : Nat → Nat → Int) (P W : pRow) (H : Int) : Prop := INV σ α P W H ∧ WDm α ∧ lwB α P W
theorem lwB.st {α α' : Nat → Nat → Int} {P W : pRow} (l : lwB α P W) (e6 : α' 110 6 = α 110 6) (e7 : α' 110 7 = α 110 7) : lwB α' P W := by unfold lwB; rw [e6, e7]; exact l
theorem INX.stt {σ σ' α α' : Nat → Nat → Int} {P W : List (Int × Int)} {H H' : Int} (I : INX σ α P W H) (hs : Fσ SX σ σ') (ha : Fα AX α α') (C : CI σ' α' (α' 110) P W) (w : WF (α' 110)) (t : tld (α 110) (α' 110)) (h320 : ∀ j, 320 ≤ j → α' 110 j = α 110 j) (l0 : α' 124 0 = 0) (hH : H ≤ H') (h3 : α' 110 3 ≤ H') : INX σ' α' P W H' :=
  ⟨I.1.stt hs ha C w t h320 l0 hH h3, I.2.1.fr ha, I.2.2.st (t.n (by decide) (by decide)) (t.n (by decide) (by decide))⟩
theorem INX.qry {σ σ' α α' : Nat → Nat → Int} {P W : List (Int × Int)} {H : Int} (I : INX σ α P W H) (hs : Fσ SQ σ σ') (ha : Fα AQ α α') (C : CI σ' α' (α 110) P W) (l0 : α' 124 0 = 0) : INX σ' α' P W H :=
  ⟨I.1.qry hs ha C l0, I.2.1.fr ha, I.2.2.st (by rw [ha 110 (by decide)]) (by rw [ha 110 (by decide)])⟩
theorem INX.up {σ α : Nat → Nat → Int} {P W : List (Int × Int)} {H H' : Int} (I : INX σ α P W H) (hH : H ≤ H') : INX σ α P W H' :=
  I.stt Fσ.rf Fα.rf I.1.1.1 I.1.1.2 tld.rf (fun _ _ => rfl) I.1.2.2.2.1 hH (Int.le_trans I.1.2.2.2.2.1 hH)
theorem pgM.cg {A B A' B' : Nat → Int} : ∀ {P : pRow} {p : Nat}, pgM A B p P → (∀ t, p ≤ t → t ≤ p + P.length → A' t = A t ∧ B' t = B t) → pgM A' B' p P
  | [], p, h, g => ⟨h.1, (g p (Nat.le_refl _) (Nat.le_refl _)).1.trans h.2⟩
  | q :: P, p, h, g => by
    have g0 := g p (Nat.le_refl _) (Nat.le_add_right _ _)
    refine ⟨h.1, g0.1.trans h.2.1, g0.2.trans h.2.2.1, pgM.cg (P := P) (p := p + 1) h.2.2.2 (fun t t1 t2 => g t (by omega) (by rw [len_c]; exact t2))⟩
theorem MKr.z {σ α : Nat → Nat → Int} {H : Int} {K m : Nat} (h1 : σ K 0 = 0) (h2 : α 117 m = 0) : MKr σ α H K m := ⟨⟨h1.trans h2.symm, Or.inl h2⟩, fun q => absurd (h2.symm.trans q) (by decide)⟩
theorem TPE.z {σ α : Nat → Nat → Int} (h1 : σ 104 2 = 0) (h2 : σ 1 1 = 0) : TPE σ α := by
  refine ⟨h1.trans h2.symm, by rw [h2]; decide, fun j hj => ?_⟩
  rw [h2] at hj
  exact absurd hj (Int.not_lt.mpr (Int.natCast_nonneg _))
theorem bay_new {σ σ1 σ2 α α1 α2 : Nat → Nat → Int} {P W : pRow} {H : Int} {s : bSt} (I : INX σ α P W H) (w : SW s) (E1 : Fα AYd α α1) (F2 : Fσ SMb σ1 σ2) (E2 : Fα [106, 107, 108, 110, 111, 112, 113, 117] α1 α2) (t1 : σ1 1 1 = 0) (mk : σ1 49 0 = 0 ∧ σ1 57 0 = 0 ∧ σ1 65 0 = 0 ∧ σ1 73 0 = 0) (C : CI σ1 α1 (bgN s.1 (bsN s.1)) s.2.1.1 s.2.1.2) (t2 : σ2 104 2 = 0) (L : loE (bgN s.1 (bsN s.1)) (α2 110)) (m2 : ∀ m, m < 4 → α2 117 m = 0) (l1 : lwM α2 6 10 s.2.1.1) (l2 : lwW α2 s.2.1.2) (lb : lwB α2 s.2.1.1 s.2.1.2) : INX σ2 α2 s.2.1.1 s.2.1.2 H := by
  have wb := bg_wf w.1 w.2.2.2.1.2 (bs_6 w.1)
  have H0 : 0 ≤ H := Int.le_trans I.1.1.2.2.2.2.1.1 I.1.2.2.2.2.1
  refine ⟨⟨⟨((C.s0 F2).fr E2).lo wb L, wb.lo L⟩, ⟨l1, w.2.2.2.2.2.2.1⟩, ⟨l2, w.2.2.2.2.2.2.2⟩, ?_, ?_, ⟨?_, ?_, ?_, ?_⟩, ?_⟩, (I.2.1.fr E1).fr E2, lb⟩
  · rw [E2 124 (by decide), E1 124 (by decide)]; exact I.1.2.2.2.1
  · rw [L 3 (by decide), bg_lt (by decide), w.2.2.2.1.1]; exact H0
  · exact MKr.z ((F2 49 0 (by decide)).trans mk.1) (m2 0 (by decide))
  · exact MKr.z ((F2 57 0 (by decide)).trans mk.2.1) (m2 1 (by decide))
  · exact MKr.z ((F2 65 0 (by decide)).trans mk.2.2.1) (m2 2 (by decide))
  · exact MKr.z ((F2 73 0 (by decide)).trans mk.2.2.2) (m2 3 (by decide))
  · exact TPE.z t2 ((F2 1 1 (by decide)).trans t1)
theorem bay_old {σ σ1 σ2 α α1 α2 : Nat → Nat → Int} {P W : pRow} {H : Int} (I : INX σ α P W H) (F1 : Fσ SYc σ σ1) (E1 : Fα AB α α1) (F2 : Fσ SMb σ1 σ2) (E2 : Fα [106, 107, 108, 110, 111, 112, 113] α1 α2) (t1 : σ1 1 1 = 0) (t2 : σ2 104 2 = 0) (o : ∀ j, j < 320 ∨ 640 ≤ j → α2 110 j = α1 110 j) (c : ∀ p, p < 1100 → α2 111 p = α1 111 p ∧ α2 112 p = α1 112 p) : INX σ2 α2 P W H := by
  obtain ⟨⟨⟨C, w⟩, ⟨l1, o1⟩, ⟨l2, o2⟩, z, h3, M, T⟩, wd, lb⟩ := I
  have o' : ∀ j, j < 320 ∨ 640 ≤ j → α2 110 j = α 110 j := fun j hj => by rw [o j hj, E1 110 (by decide)]
  have c' : ∀ p, p < 1100 → α2 111 p = α 111 p ∧ α2 112 p = α 112 p := fun p hp => by rw [(c p hp).1, (c p hp).2, E1 111 (by decide), E1 112 (by decide)]; exact ⟨rfl, rfl⟩
  have L : loE (α 110) (α2 110) := fun j hj => o' j (Or.inl hj)
  have r : ∀ K i, 49 ≤ K → K ≤ 73 → i < 8 → α2 (K + i) = α (K + i) := fun K i k1 k2 hi => by
    have q1 : ∀ x ∈ AB, ¬ (49 ≤ x ∧ x < 81) := by decide
    have q2 : ∀ x ∈ [106, 107, 108, 110, 111, 112, 113], ¬ (49 ≤ x ∧ x < 81) := by decide
    rw [E2 (K + i) (fun q => q2 _ q ⟨by omega, by omega⟩), E1 (K + i) (fun q => q1 _ q ⟨by omega, by omega⟩)]
  have s : ∀ K k, 49 ≤ K → K ≤ 73 → σ2 K k = σ K k := fun K k k1 k2 => by
    have q1 : ∀ x ∈ SYc, ¬ (49 ≤ x.1 ∧ x.1 < 81) := by decide
    have q2 : ∀ x ∈ SMb, ¬ (49 ≤ x.1 ∧ x.1 < 81) := by decide
    rw [F2 K k (fun q => q2 _ q ⟨k1, by show K < 81; omega⟩), F1 K k (fun q => q1 _ q ⟨k1, by show K < 81; omega⟩)]
  have e7 : α2 117 = α 117 := by rw [E2 117 (by decide), E1 117 (by decide)]
  have em : ∀ m, loE (mkR (α 110) m) (mkR (α2 110) m) := fun m j hj => o' _ (Or.inr (by omega))
  have mk : ∀ K m, 49 ≤ K → K ≤ 73 → MKr σ α H K m → MKr σ2 α2 H K m := fun K m k1 k2 M => M.lo (s K 0 k1 k2) (s K 1 k1 k2) (by rw [e7]) L (em m) w (fun i hi => r K i k1 k2 hi)
  refine ⟨⟨⟨((((C.s0 F1).fr E1).s0 F2).fr E2).lo w L, w.lo L⟩, ⟨?_, o1⟩, ⟨?_, o2⟩, ?_, ?_, ⟨mk 49 0 (by decide) (by decide) M.1, mk 57 1 (by decide) (by decide) M.2.1, mk 65 2 (by decide) (by decide) M.2.2.1, mk 73 3 (by decide) (by decide) M.2.2.2⟩, ?_⟩, (wd.fr E1).fr E2, lb.st (L 6 (by decide)) (L 7 (by decide))⟩
  · unfold lwM at l1 ⊢
    rw [L 6 (by decide)]
    rcases l1 with q | q
    · exact Or.inl q
    · have b := lb.1 q.1
      exact Or.inr ⟨q.1, q.2.cg (fun t _ t2 => c' t (Nat.lt_of_le_of_lt t2 b))⟩
  · unfold lwW at l2 ⊢
    rw [L 7 (by decide)]
    rcases l2 with q | q
    · exact Or.inl q
    · have b := lb.2 q.1
      exact Or.inr ⟨q.1, q.2.cg (fun t _ t2 => c' t (Nat.lt_of_le_of_lt t2 b))⟩
  · rw [E2 124 (by decide), E1 124 (by decide)]; exact z
  · rw [L 3 (by decide)]; exact h3
  · exact TPE.z t2 ((F2 1 1 (by decide)).trans t1)
theorem tpN {σ α : Nat → Nat → Int} (T : TPE σ α) : ∃ N : Nat, σ 1 1 = (N : Int) ∧ σ 104 2 = (N : Int) ∧ okT (α 2) N ∧ ∀ j, j < N → α 105 j = α 2 j := by
  obtain ⟨a, b, c⟩ := T
  refine ⟨(σ 1 1).toNat, (Int.toNat_of_nonneg b.1).symm, a.trans (Int.toNat_of_nonneg b.1).symm, ⟨?_, fun j hj => (c j ?_).2⟩, fun j hj => (c j ?_).1⟩
  · generalize σ 1 1 = v at *; clear a c; omega
  · generalize σ 1 1 = v at *; clear a c; omega
  · generalize σ 1 1 = v at *; clear a c; omega
theorem b_bay {X : mXX} {d : Nat} {σ α : Nat → Nat → Int} {P W : pRow} {H : Int} {K : Int → mS → Prop} {J : Int → Int → mS → Prop} (I : INX σ α P W H) (hK : ∀ n σ' α', Ca X (d + 90) 129 [vR 104] (S0, σ', α') (fun r s' => aI r (fun m => J n m s')) → K n (S0, σ', α')) (hJ : ∀ n σ' α' P' W', INX σ' α' P' W' H → J n n (S0, σ', α')) : Ca X (d + 90) 100 [vR 0] (S0, σ, α) (fun r s' => aI r (fun n => K n s')) := by
  obtain ⟨N, e1, e2, ok, eT⟩ := tpN I.1.2.2.2.2.2.2
  have hr : ∀ j, j < 320 → rbR α j = sa0 j := fun j hj => rb_lo hj
  have er : ∀ α1 : Nat → Nat → Int, α1 110 = α 110 → rbR α1 = rbR α := fun α1 e => by funext j; unfold rbR; rw [e]
  refine c_bay (d := d + 6) (T := α 2) (N := N) (ρ := rbR α) rfl ok e1 hr (fun z σ1 α1 F1 E1 t1 mk C => hK _ _ _ ?_) (fun z σ1 α1 F1 E1 t1 => hK _ _ _ ?_)
  · have e := er α1 (E1 110 (by decide))
    have w := (ry_ok ok.1 hr z).1
    refine m_bay (d := d + 27) (T := α 2) (N := N) (fun j hj => by rw [E1 105 (by decide)]; exact eT j hj) ok (by rw [F1 104 2 (by decide)]; exact e2) (I.2.1.fr E1) ?_ ?_
    · rw [e]
      intro _ σ2 α2 F2 E2 t2 L m2 l1 l2 lb
      exact hJ 0 σ2 α2 _ _ (bay_new I w E1 F2 E2 t1 mk C t2 L m2 l1 l2 lb)
    · rw [e]
      exact fun q => absurd z q
  · have e := er α1 (E1 110 (by decide))
    refine m_bay (d := d + 27) (T := α 2) (N := N) (fun j hj => by rw [E1 105 (by decide)]; exact eT j hj) ok (by rw [F1 104 2 (by decide)]; exact e2) (I.2.1.fr E1) ?_ ?_
    · rw [e]
      exact fun q => absurd q z
    · rw [e]
      intro _ σ2 α2 F2 E2 o c t2
      exact hJ _ σ2 α2 P W (bay_old I F1 E1 F2 E2 t1 t2 o c)
