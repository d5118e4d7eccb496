/-! What is told, and what changes -/
def tldI (j : Nat) : Prop := (j < 10 ∧ j ≠ 3) ∨ (10 ≤ j ∧ j < 202 ∧ (j - 10) % 3 ≠ 2) ∨ (202 ≤ j ∧ j < 286 ∧ ((j - 202) % 12 = 0 ∨ (3 ≤ (j - 202) % 12 ∧ (j - 202) % 12 ≤ 7))) ∨ (290 ≤ j ∧ j < 308 ∧ (j - 290) % 3 ≠ 2)
def tld (ρ ρ' : Nat → Int) : Prop := ∀ j, tldI j → ρ' j = ρ j
theorem tld.rf {ρ : Nat → Int} : tld ρ ρ := fun _ _ => rfl
theorem tld.tr {ρ ρ' ρ'' : Nat → Int} (h : tld ρ ρ') (g : tld ρ' ρ'') : tld ρ ρ'' := fun j q => (g j q).trans (h j q)
theorem tld.sy {ρ ρ' : Nat → Int} (h : tld ρ ρ') : tld ρ' ρ := fun j q => (h j q).symm
theorem tld.n {ρ ρ' : Nat → Int} (t : tld ρ ρ') {j : Nat} (h : j < 10) (h3 : j ≠ 3) : ρ' j = ρ j := t j (Or.inl ⟨h, h3⟩)
theorem tld.c0 {ρ ρ' : Nat → Int} (t : tld ρ ρ') {c : Nat} (h : c < 64) : ρ' (10 + 3 * c) = ρ (10 + 3 * c) := t _ (by unfold tldI; omega)
theorem tld.c1 {ρ ρ' : Nat → Int} (t : tld ρ ρ') {c : Nat} (h : c < 64) : ρ' (11 + 3 * c) = ρ (11 + 3 * c) := t _ (by unfold tldI; omega)
theorem tld.b0 {ρ ρ' : Nat → Int} (t : tld ρ ρ') {b : Nat} (h : b < 7) : ρ' (202 + 12 * b) = ρ (202 + 12 * b) := t _ (by unfold tldI; omega)
theorem tld.b3 {ρ ρ' : Nat → Int} (t : tld ρ ρ') {b : Nat} (h : b < 7) : ρ' (205 + 12 * b) = ρ (205 + 12 * b) := t _ (by unfold tldI; omega)
theorem tld.b4 {ρ ρ' : Nat → Int} (t : tld ρ ρ') {b : Nat} (h : b < 7) : ρ' (206 + 12 * b) = ρ (206 + 12 * b) := t _ (by unfold tldI; omega)
theorem tld.b5 {ρ ρ' : Nat → Int} (t : tld ρ ρ') {b : Nat} (h : b < 7) : ρ' (207 + 12 * b) = ρ (207 + 12 * b) := t _ (by unfold tldI; omega)
theorem tld.b6 {ρ ρ' : Nat → Int} (t : tld ρ ρ') {b : Nat} (h : b < 7) : ρ' (208 + 12 * b) = ρ (208 + 12 * b) := t _ (by unfold tldI; omega)
theorem tld.b7 {ρ ρ' : Nat → Int} (t : tld ρ ρ') {b : Nat} (h : b < 7) : ρ' (209 + 12 * b) = ρ (209 + 12 * b) := t _ (by unfold tldI; omega)
theorem tld.l0 {ρ ρ' : Nat → Int} (t : tld ρ ρ') {k : Nat} (h : k < 6) : ρ' (290 + 3 * k) = ρ (290 + 3 * k) := t _ (by unfold tldI; omega)
theorem tld.l1 {ρ ρ' : Nat → Int} (t : tld ρ ρ') {k : Nat} (h : k < 6) : ρ' (291 + 3 * k) = ρ (291 + 3 * k) := t _ (by unfold tldI; omega)
theorem wa_in {ρ : Nat → Int} {x y : Int} (h : waR ρ x y = 1) : 0 ≤ x ∧ x < ρ 0 ∧ 0 ≤ y ∧ y < ρ 1 ∧ ρ (10 + 3 * (8 * y + x).toNat) = 0 := by
  unfold waR rkR at h
  by_cases q : 0 ≤ x ∧ x < ρ 0 ∧ 0 ≤ y ∧ y < ρ 1 ∧ ρ (10 + 3 * (8 * y + x).toNat) = 0
  · exact q
  · rw [if_neg q] at h; exact absurd h (by decide)
theorem BW.wa {ρ : Nat → Int} {b : Nat} (h : BW ρ b) : waR ρ (ρ (203 + 12 * b)) (ρ (204 + 12 * b)) = 1 := if_pos ⟨h.2.1.1, h.2.1.2, h.2.2.1.1, h.2.2.1.2, h.2.2.2.2.2.2.2.2.2.2.2⟩
theorem c64 {x y a b : Int} (h1 : 0 ≤ x) (h2 : x < a) (h3 : a ≤ 8) (h4 : 0 ≤ y) (h5 : y < b) (h6 : b ≤ 8) : (8 * y + x).toNat < 64 := by omega
theorem tld.wa {ρ ρ' : Nat → Int} (t : tld ρ ρ') (w : WF ρ) {x y : Int} : waR ρ' x y = waR ρ x y := by
  unfold waR rkR
  rw [t.n (j := 0) (by decide) (by decide), t.n (j := 1) (by decide) (by decide)]
  by_cases q : 0 ≤ x ∧ x < ρ 0 ∧ 0 ≤ y ∧ y < ρ 1
  · rw [t.c0 (c64 q.1 q.2.1 w.1.2 q.2.2.1 q.2.2.2 w.2.1.2)]
  · rw [if_neg (fun z => q ⟨z.1, z.2.1, z.2.2.1, z.2.2.2.1⟩), if_neg (fun z => q ⟨z.1, z.2.1, z.2.2.1, z.2.2.2.1⟩)]
def hoN (ρ : Nat → Int) (b : Nat) : Int := if ρ (202 + 12 * b) = 3 then (ρ (207 + 12 * b)).tdiv 2 else ρ (207 + 12 * b)
theorem ho_N {ρ : Nat → Int} {b : Nat} : holR ρ (b : Int) = hoN ρ b := by unfold holR hoN; rw [oo0, oo5]
theorem WF.st {ρ ρ' : Nat → Int} (w : WF ρ) (t : tld ρ ρ') (h3 : 0 ≤ ρ' 3 ∧ ρ' 3 ≤ 100000) (hf : ∀ c, c < 64 → 0 ≤ ρ' (12 + 3 * c) ∧ ρ' (12 + 3 * c) ≤ ρ (11 + 3 * c)) (hb : ∀ b : Nat, (b : Int) < ρ 2 → waR ρ (ρ' (203 + 12 * b)) (ρ' (204 + 12 * b)) = 1 ∧ (0 ≤ ρ' (210 + 12 * b) ∧ ρ' (210 + 12 * b) ≤ hoN ρ b) ∧ (0 ≤ ρ' (211 + 12 * b) ∧ ρ' (211 + 12 * b) ≤ 999) ∧ (0 ≤ ρ' (212 + 12 * b) ∧ ρ' (212 + 12 * b) ≤ 4)) (hl : ∀ k, k < 6 → ρ' (292 + 3 * k) = 0 ∨ ρ' (292 + 3 * k) = 1) : WF ρ' := by
  have e0 : ρ' 0 = ρ 0 := t.n (by decide) (by decide)
  have e1 : ρ' 1 = ρ 1 := t.n (by decide) (by decide)
  have e2 : ρ' 2 = ρ 2 := t.n (by decide) (by decide)
  unfold WF BW
  rw [e0, e1, e2, t.n (j := 4) (by decide) (by decide), t.n (j := 5) (by decide) (by decide)]
  refine ⟨w.1, w.2.1, w.2.2.1, h3, w.2.2.2.2.1, w.2.2.2.2.2.1, fun c hc => ?_, fun b hb' => ?_, fun k hk => ?_⟩
  · rw [t.c0 hc, t.c1 hc]
    exact ⟨(w.c hc).1, (hf c hc).1, (hf c hc).2, (w.c hc).2.2.2⟩
  · have b7 := w.m7 hb'
    have hw := w.b hb'
    obtain ⟨g1, g2, g3, g4⟩ := hb b hb'
    obtain ⟨i1, i2, i3, i4, i5⟩ := wa_in g1
    rw [t.b0 b7, t.b3 b7, t.b4 b7, t.b5 b7, t.b6 b7, t.b7 b7, t.c0 (c64 i1 i2 w.1.2 i3 i4 w.2.1.2)]
    exact ⟨hw.1, ⟨i1, i2⟩, ⟨i3, i4⟩, hw.2.2.2.1, hw.2.2.2.2.1, hw.2.2.2.2.2.1, hw.2.2.2.2.2.2.1, hw.2.2.2.2.2.2.2.1, g2, g3, g4, i5⟩
  · rw [t.l0 hk, t.l1 hk]
    exact ⟨(w.l hk).1, (w.l hk).2.1, hl k hk⟩
def ZS : List Nat := [41, 42, 43, 44, 45, 46, 47]
theorem Rep.st {σ σ' α α' : Nat → Nat → Int} {ρ ρ' : Nat → Int} (R : Rep σ α ρ) (w : WF ρ) (t : tld ρ ρ') (f : Fα ZS α α') (hs : ∀ k, σ' 23 k = σ 23 k) (h3 : σ' 40 1 = ρ' 3) (hf : ∀ c, c < 64 → α' 41 c = ρ' (12 + 3 * c)) (hb : ∀ b : Nat, (b : Int) < ρ 2 → α' 42 b = ρ' (203 + 12 * b) ∧ α' 43 b = ρ' (204 + 12 * b) ∧ α' 44 b = ρ' (210 + 12 * b) ∧ α' 46 b = ρ' (211 + 12 * b) ∧ α' 45 b = ρ' (212 + 12 * b)) (hl : ∀ k, k < 6 → α' 47 k = ρ' (292 + 3 * k)) : Rep σ' α' ρ' := by
  have g : ∀ z, z ∉ ZS → α' z = α z := f
  unfold Rep
  rw [hs 0, hs 1, hs 2, hs 3, hs 4, t.n (j := 0) (by decide) (by decide), t.n (j := 1) (by decide) (by decide), t.n (j := 2) (by decide) (by decide), t.n (j := 4) (by decide) (by decide), t.n (j := 5) (by decide) (by decide), g 24 (by decide), g 25 (by decide), g 26 (by decide), g 27 (by decide), g 28 (by decide), g 29 (by decide), g 30 (by decide), g 31 (by decide), g 32 (by decide), g 33 (by decide)]
  refine ⟨R.1, R.2.1, R.2.2.1, R.2.2.2.1, R.2.2.2.2.1, h3, fun c hc => ?_, fun b hb' => ?_, fun k hk => ?_⟩
  · rw [t.c0 hc, t.c1 hc]
    exact ⟨(R.c hc).1, (R.c hc).2.1, hf c hc⟩
  · have b7 := w.m7 hb'
    have r := R.b hb'
    obtain ⟨g1, g2, g3, g4, g5⟩ := hb b hb'
    rw [t.b0 b7, t.b3 b7, t.b4 b7, t.b5 b7, t.b6 b7, t.b7 b7]
    exact ⟨r.1, g1, g2, r.2.2.2.1, r.2.2.2.2.1, r.2.2.2.2.2.1, r.2.2.2.2.2.2.1, r.2.2.2.2.2.2.2.1, g3, g4, g5⟩
  · rw [t.l0 hk, t.l1 hk]
    exact ⟨(R.l hk).1, (R.l hk).2.1, hl k hk⟩
theorem CI.st {σ σ' α α' : Nat → Nat → Int} {ρ ρ' : Nat → Int} {P W : List (Int × Int)} (C : CI σ α ρ P W) (f : Fα ZS α α') (s1 : σ' 34 2 = σ 34 2) (s2 : σ' 37 2 = σ 37 2) (R : Rep σ' α' ρ') : CI σ' α' ρ' P W := by
  obtain ⟨-, l1, l2, k⟩ := C
  refine ⟨R, ?_, ?_, ?_⟩
  · rw [f 35 (by decide), s1]; exact l1
  · rw [f 38 (by decide), s2]; exact l2
  · unfold Kn; rw [f 82 (by decide)]; exact k
