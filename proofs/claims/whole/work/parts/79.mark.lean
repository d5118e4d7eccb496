/-! Marks, in both -/
def loE (ρ ρ' : Nat → Int) : Prop := ∀ j, j < 320 → ρ' j = ρ j
theorem loE.t {ρ ρ' : Nat → Int} (e : loE ρ ρ') : tld ρ ρ' := fun j h => e j (by unfold tldI at h; omega)
theorem WF.lo {ρ ρ' : Nat → Int} (w : WF ρ) (e : loE ρ ρ') : WF ρ' := by
  refine w.st e.t (by rw [e 3 (by omega)]; exact w.2.2.2.1) (fun c hc => by rw [e _ (by omega)]; exact ⟨(w.c hc).2.1, (w.c hc).2.2.1⟩) (fun b hb => ?_) (fun k hk => by rw [e _ (by omega)]; exact (w.l hk).2.2)
  have b7 := w.m7 hb
  have hw := w.b hb
  rw [e (203 + 12 * b) (by omega), e (204 + 12 * b) (by omega), e (210 + 12 * b) (by omega), e (211 + 12 * b) (by omega), e (212 + 12 * b) (by omega)]
  exact ⟨hw.wa, hw.2.2.2.2.2.2.2.2.1, hw.2.2.2.2.2.2.2.2.2.1, hw.2.2.2.2.2.2.2.2.2.2.1⟩
theorem CI.lo {σ α : Nat → Nat → Int} {ρ ρ' : Nat → Int} {P W : List (Int × Int)} (C : CI σ α ρ P W) (w : WF ρ) (e : loE ρ ρ') : CI σ α ρ' P W := by
  refine C.st Fα.rf rfl rfl (C.1.st w e.t Fα.rf (fun _ => rfl) (by rw [e 3 (by omega)]; exact C.1.2.2.2.2.2.1) (fun c hc => by rw [e _ (by omega)]; exact (C.1.c hc).2.2) (fun b hb => ?_) (fun k hk => by rw [e _ (by omega)]; exact (C.1.l hk).2.2))
  have b7 := w.m7 hb
  have r := C.1.b hb
  rw [e (203 + 12 * b) (by omega), e (204 + 12 * b) (by omega), e (210 + 12 * b) (by omega), e (211 + 12 * b) (by omega), e (212 + 12 * b) (by omega)]
  exact ⟨r.2.1, r.2.2.1, r.2.2.2.2.2.2.2.2.1, r.2.2.2.2.2.2.2.2.2.1, r.2.2.2.2.2.2.2.2.2.2⟩
theorem m_mark {X : mXX} {d : Nat} {Q : Option mV → mS → Prop} {σ α : Nat → Nat → Int} {m : Nat} {v : Int} (hm : m < 4) (h1 : v = 0 → ∀ α', Fα [110, 117] α α' → α' 110 = cyR (α 110) 0 (2 + m) 320 → α' 117 = (fun i => if i = m then 1 else α 117 i) → Q (some (vI 1)) (S0, mUp σ 104 0 0, α')) (h2 : v ≠ 0 → α 117 m ≠ 0 → ∀ α', Fα [110, 117] α α' → α' 110 = cyR (α 110) (2 + m) 0 320 → α' 117 = (fun i => if i = m then 1 else α 117 i) → Q (some (vI 1)) (S0, mUp σ 104 0 0, α')) (h3 : v ≠ 0 → α 117 m = 0 → Q (some (vI 0)) (S0, mUp σ 104 0 0, α)) : Ca X (d + 2) 222 [vR 104, vI (m : Int), vI v] (S0, σ, α) Q := by
  have m4 : mInA (m : Int) 4 := mInA_n hm
  have e2 : wr (2 + (m : Int)) = ((2 + m : Nat) : Int) := by rw [wr_of (by omega) (by omega)]; omega
  have t7 : 2 + m < 7 := by clear e2; omega
  refine vc222_0 ?_
  refine m_within ?_
  rw [wi1 (by clear e2; omega)]
  have go : ∀ (f t : Nat) (γ : Nat → Nat → Int), f < 7 → t < 7 → f ≠ t → γ = mUp α 117 m 1 → (∀ α', Fα [110, 117] α α' → α' 110 = cyR (α 110) f t 320 → α' 117 = (fun i => if i = m then 1 else α 117 i) → Q (some (vI 1)) (S0, mUp σ 104 0 0, α')) → Ca X (d + 1) 157 [vR 104, vI (f : Int), vI (t : Int)] (S0, mUp σ 104 0 0, γ) (fun r s' => Go X (d + 1) 222 62 [some (vR 104), some (vI (m : Int)), some (vI v)] [] s' (0, 0) Q) := by
    intro f t γ f7 t7 hne hg h
    subst hg
    refine m_carry f7 t7 hne ?_
    intro δ hd ed
    refine vc222_62 ?_
    refine h δ ((Fα.up (by decide)).tr (hd.wk (by decide))) (by rw [ed, up_o (by decide)]) ?_
    rw [hd 117 (by decide), up_f]
  refine vc222_11 ⟨fun q => absurd q (by decide), fun _ => ⟨fun q => ⟨m4, ?_⟩, fun q => ⟨m4, ?_⟩⟩⟩
  · rw [Int.toNat_natCast]
    refine ⟨fun _ => ⟨fun _ => ?_, fun q2 => absurd q q2⟩, fun q2 => absurd q q2⟩
    rw [e2]
    exact go 0 (2 + m) _ (by decide) t7 (by omega) rfl (h1 q)
  · rw [Int.toNat_natCast]
    refine ⟨fun q2 => ⟨m4, ⟨fun q3 => absurd q3 q, fun _ => ⟨fun q3 => absurd q3 q, fun _ => ?_⟩⟩⟩, fun q2 => h3 q q2⟩
    rw [e2]
    exact go (2 + m) 0 _ t7 (by decide) (by omega) rfl (h2 q q2)
theorem c_markO {X : mXX} {d : Nat} {Q : Option mV → mS → Prop} {σ α : Nat → Nat → Int} {m v : Int} (hm : ¬ (0 ≤ m ∧ m ≤ 3)) (hQ : Q (some (vI 0)) (S0, σ, α)) : Ca X (d + 2) 120 [vR 0, vI m, vI v] (S0, σ, α) Q := by
  refine vc120_0 ⟨fun _ => hQ, fun q => ⟨fun q2 => absurd (show 0 ≤ m ∧ m ≤ 3 by omega) hm, fun _ => hQ⟩⟩
theorem m_markO {X : mXX} {d : Nat} {Q : Option mV → mS → Prop} {σ α : Nat → Nat → Int} {m v : Int} (hm : ¬ (0 ≤ m ∧ m ≤ 3)) (hQ : Q (some (vI 0)) (S0, mUp σ 104 0 0, α)) : Ca X (d + 2) 222 [vR 104, vI m, vI v] (S0, σ, α) Q := by
  refine vc222_0 ?_
  refine m_within ?_
  rw [wi0 hm]
  exact vc222_11 ⟨fun _ => hQ, fun q => absurd rfl q⟩
theorem cy_hi {ρ : Nat → Int} {m : Nat} : loE ρ (cyR ρ 0 (2 + m) 320) ∧ (∀ j, j < 320 → cyR ρ 0 (2 + m) 320 (320 * (2 + m) + j) = ρ j) ∧ (∀ n j, n ≠ m → j < 320 → cyR ρ 0 (2 + m) 320 (320 * (2 + n) + j) = ρ (320 * (2 + n) + j)) := by
  refine ⟨fun j hj => if_neg (by omega), fun j hj => ?_, fun n j hn hj => if_neg (by omega)⟩
  unfold cyR
  rw [if_pos (by omega)]
  congr 1
  omega
theorem cy_lo {ρ : Nat → Int} {m : Nat} : loE (mkR ρ m) (cyR ρ (2 + m) 0 320) ∧ ∀ j, 320 ≤ j → cyR ρ (2 + m) 0 320 j = ρ j := by
  refine ⟨fun j hj => ?_, fun j hj => if_neg (by omega)⟩
  unfold cyR mkR
  rw [if_pos (by omega)]
  congr 1
theorem MKr.lo {σ σ' α α' : Nat → Nat → Int} {H : Int} {K m : Nat} (M : MKr σ α H K m) (s0 : σ' K 0 = σ K 0) (s1 : σ' K 1 = σ K 1) (e7 : α' 117 m = α 117 m) (e : loE (α 110) (α' 110)) (em : loE (mkR (α 110) m) (mkR (α' 110) m)) (w : WF (α 110)) (hr : ∀ i, i < 8 → α' (K + i) = α (K + i)) : MKr σ' α' H K m := by
  have e2 : α' 110 2 = α 110 2 := e 2 (by decide)
  unfold MKr
  rw [s0, s1, e7, e2, hr 1 (by decide), hr 2 (by decide), hr 3 (by decide), hr 4 (by decide), hr 5 (by decide), hr 6 (by decide), hr 7 (by decide)]
  refine ⟨M.1, fun q => ?_⟩
  obtain ⟨⟨z1, z2, z3⟩, z4, z5, z6, z7⟩ := M.2 q
  refine ⟨⟨z1.lo em, (e.t.sy.tr z2).tr em.t, by rw [em 3 (by decide)]; exact z3⟩, by rw [em 3 (by decide)]; exact z4, fun c hc => by rw [em _ (by omega)]; exact z5 c hc, fun b hb => ?_, fun k hk => by rw [em _ (by omega)]; exact z7 k hk⟩
  have b7 := w.m7 hb
  rw [em (203 + 12 * b) (by omega), em (204 + 12 * b) (by omega), em (210 + 12 * b) (by omega), em (211 + 12 * b) (by omega), em (212 + 12 * b) (by omega)]
  exact z6 b hb
/-- a mark is laid -/
theorem mk_new {σ α α1 α2 : Nat → Nat → Int} {σ' : Nat → Nat → Int} {P W : List (Int × Int)} {H : Int} {K m : Nat} (C : CI σ α (α 110) P W) (w : WF (α 110)) (h3 : α 110 3 ≤ H) (T : TKS α α1 40 K) (hk : ∀ i, i < 8 → α2 (K + i) = α1 (K + i)) (s0 : σ' K 0 = 1) (s1 : σ' K 1 = σ 40 1) (e7 : α2 117 m = 1) (e : loE (α 110) (α2 110)) (em : ∀ j, j < 320 → mkR (α2 110) m j = α 110 j) : MKr σ' α2 H K m := by
  have el : loE (α 110) (mkR (α2 110) m) := em
  have e2 : α2 110 2 = α 110 2 := e 2 (by decide)
  unfold MKr
  rw [s0, s1, e7, e2, hk 1 (by decide), hk 2 (by decide), hk 3 (by decide), hk 4 (by decide), hk 5 (by decide), hk 6 (by decide), hk 7 (by decide)]
  refine ⟨⟨rfl, Or.inr rfl⟩, fun _ => ⟨⟨w.lo el, e.t.sy.tr el.t, by rw [em 3 (by decide)]; exact h3⟩, by rw [em 3 (by decide)]; exact C.1.2.2.2.2.2.1, fun c hc => by rw [em _ (by omega), T.1 c hc]; exact (C.1.c hc).2.2, fun b hb => ?_, fun k hk => by rw [em _ (by omega), T.2.2.2.2.2.2 k hk]; exact (C.1.l hk).2.2⟩⟩
  have b7 := w.m7 hb
  have r := C.1.b hb
  rw [em (203 + 12 * b) (by omega), em (204 + 12 * b) (by omega), em (210 + 12 * b) (by omega), em (211 + 12 * b) (by omega), em (212 + 12 * b) (by omega), T.2.1 b b7, T.2.2.1 b b7, T.2.2.2.1 b b7, T.2.2.2.2.1 b b7, T.2.2.2.2.2.1 b b7]
  exact ⟨r.2.1, r.2.2.1, r.2.2.2.2.2.2.2.2.1, r.2.2.2.2.2.2.2.2.2.1, r.2.2.2.2.2.2.2.2.2.2⟩
/-- back to a mark -/
theorem mk_back {σ σ' α α1 : Nat → Nat → Int} {ρ' : Nat → Int} {P W : List (Int × Int)} {H : Int} {K m : Nat} (C : CI σ α (α 110) P W) (w : WF (α 110)) (M : MKr σ α H K m) (q : α 117 m = 1) (T : TKS α α1 K 40) (f : Fα ZS α α1) (hs : Fσ [(40, 1)] σ σ') (s1 : σ' 40 1 = σ K 1) (e : loE (mkR (α 110) m) ρ') : CI σ' α1 ρ' P W ∧ WF ρ' ∧ tld (α 110) ρ' ∧ ρ' 3 ≤ H := by
  obtain ⟨⟨z1, z2, z3⟩, z4, z5, z6, z7⟩ := M.2 q
  have t : tld (α 110) ρ' := z2.tr e.t
  refine ⟨?_, z1.lo e, t, by rw [e 3 (by decide)]; exact z3⟩
  refine C.st f (hs 34 2 (by decide)) (hs 37 2 (by decide)) (C.1.st w t f (fun k => hs 23 k (by simp)) (by rw [s1, z4, e 3 (by decide)]) (fun c hc => by rw [e _ (by omega)]; exact (T.1 c hc).trans (z5 c hc)) (fun b hb => ?_) (fun k hk => by rw [e _ (by omega)]; exact (T.2.2.2.2.2.2 k hk).trans (z7 k hk)))
  have b7 := w.m7 hb
  have r := z6 b hb
  rw [e (203 + 12 * b) (by omega), e (204 + 12 * b) (by omega), e (210 + 12 * b) (by omega), e (211 + 12 * b) (by omega), e (212 + 12 * b) (by omega)]
  exact ⟨(T.2.1 b b7).trans r.1, (T.2.2.1 b b7).trans r.2.1, (T.2.2.2.1 b b7).trans r.2.2.1, (T.2.2.2.2.2.1 b b7).trans r.2.2.2.1, (T.2.2.2.2.1 b b7).trans r.2.2.2.2⟩
