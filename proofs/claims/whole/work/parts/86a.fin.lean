/-- how soon, and by which moves (as a row tells them) -/
def SNP (ρ : Nat → Int) (P : List (Int × Int)) (a n : Nat) (f : Int) (r : Int) (mvs : Nat → Int) : Prop := (∃ H : Nat, H ≤ 24 ∧ r = (H : Int) ∧ (∃ c, RS (mvC ρ P a n) (c0C ρ a) H c ∧ glC ρ a n f c) ∧ (∀ h c, h < H → RS (mvC ρ P a n) (c0C ρ a) h c → ¬ glC ρ a n f c) ∧ ∀ j, j < H → ∃ c x, GP (mvC ρ P a n) (c0C ρ a) (glC ρ a n f) H (j + 1) c x ∧ mvs j = (x : Int)) ∨ ((∀ h c, h ≤ 24 → RS (mvC ρ P a n) (c0C ρ a) h c → ¬ glC ρ a n f c) ∧ r = -1)
def ZF : List Nat := [36, 82, 83, 85, 87, 88, 91, 92, 93, 94, 95]
def SF : List (Nat × Nat) := [(90, 9), (90, 10), (90, 11)]
/-- the layers so far -/
def LYR (γ : Nat → Nat → Int) (ρ : Nat → Int) (P : List (Int × Int)) (a n h B : Nat) : Prop := (∀ i p, (LSn (mvC ρ P a n) (c0C ρ a) h)[i]? = some p → γ 94 (B + i) = ((p.1 : Nat) : Int)) ∧ (∀ j u x, j < h → (u, x) ∈ LSn (mvC ρ P a n) (c0C ρ a) (j + 1) → γ 95 (64 * j + u) = (x : Int)) ∧ (∀ t, t < 64 → γ 93 t ≤ (h : Int)) ∧ B + (LSn (mvC ρ P a n) (c0C ρ a) h).length ≤ 64 * h + 1
theorem LYR.fr {γ γ' : Nat → Nat → Int} {ρ : Nat → Int} {P : List (Int × Int)} {a n h B : Nat} (L : LYR γ ρ P a n h B) (h3 : γ' 93 = γ 93) (h4 : γ' 94 = γ 94) (h5 : γ' 95 = γ 95) : LYR γ' ρ P a n h B := by
  unfold LYR
  rw [h3, h4, h5]
  exact L
theorem ls_ok {ρ : Nat → Int} {P : List (Int × Int)} {a n h i : Nat} {p : Nat × Nat} (w : WF ρ) (hz : ((a + n : Nat) : Int) ≤ ρ 2) (hn : 0 < n) (e : (LSn (mvC ρ P a n) (c0C ρ a) h)[i]? = some p) : p.1 < 64 ∧ fiC ρ a n p.1 = 1 ∧ RS (mvC ρ P a n) (c0C ρ a) h p.1 := by
  have hm : p ∈ LSn (mvC ρ P a n) (c0C ρ a) h := List.mem_of_getElem? e
  have r : RS (mvC ρ P a n) (c0C ρ a) h p.1 := ls_rs.mp ⟨p.2, hm⟩
  exact ⟨(rs_ok w hz hn r).1, (rs_ok w hz hn r).2, r⟩
/-- the layer behind is built -/
theorem c_fin2 {X : mXX} {d : Nat} {Q : Option mV → mS → Prop} {σ α : Nat → Nat → Int} {ρ : Nat → Int} {P W : List (Int × Int)} {a n h B B' : Nat} {b f : Int} (w : WF ρ) (o : lwO 3 P) (hz : ((a + n : Nat) : Int) ≤ ρ 2) (hn : 0 < n) (s9 : σ 90 9 = (a : Int)) (s10 : σ 90 10 = ((a + n - 1 : Nat) : Int)) (hh : h < 24) (hB : B + (LSn (mvC ρ P a n) (c0C ρ a) h).length = B') (hB' : B' ≤ 64 * h + 1) (lay : ∀ i p, (LSn (mvC ρ P a n) (c0C ρ a) h)[i]? = some p → α 94 (B + i) = ((p.1 : Nat) : Int)) (hQ : ∀ σ1 γ x6, Fσ [(90, 11)] σ σ1 → Fα ZP α γ → CI σ1 γ ρ P W → OLD α γ h B' → SPI σ1 γ ρ P a n h B' (LSn (mvC ρ P a n) (c0C ρ a) (h + 1)) → Go X (d + 7) 34 81 [some (vR 90), some (vI b), some (vI f), some (vI (B' : Int)), some (vI (wr ((h : Int) + 1))), some (vI (B' : Int)), x6] [] (S0, σ1, γ) (0, 0) Q) (so : ∀ i, i < 64 → α 92 i = gvC ρ a n f i) : ∀ (l2 l1 : LY) (σ1 γ : Nat → Nat → Int), l1 ++ l2 = LSn (mvC ρ P a n) (c0C ρ a) h → Fσ [(90, 11)] σ σ1 → Fα ZP α γ → CI σ1 γ ρ P W → OLD α γ h B' → SPI σ1 γ ρ P a n h B' (bldL (mvC ρ P a n h) l1 []) → Go X (d + 7) 34 145 [some (vR 90), some (vI b), some (vI f), some (vI (B : Int)), some (vI (h : Int)), some (vI (B' : Int)), some (vI ((B + l1.length : Nat) : Int))] [] (S0, σ1, γ) (0, 0) Q := by
  intro l2
  induction l2 with
  | nil =>
    intro l1 σ1 γ el hs hf C od S
    rw [List.append_nil] at el
    rw [el] at S ⊢
    rw [hB]
    exact vc34_145 ⟨fun _ => hQ σ1 γ _ hs hf C od S, fun q => absurd q (Int.lt_irrefl _)⟩
  | cons p l2 ih =>
    intro l1 σ1 γ el hs hf C od S
    have ei : (LSn (mvC ρ P a n) (c0C ρ a) h)[l1.length]? = some p := by
      rw [← el, List.getElem?_append_right (Nat.le_refl _), Nat.sub_self]; rfl
    have ll : l1.length < (LSn (mvC ρ P a n) (c0C ρ a) h).length := (List.getElem?_eq_some_iff.mp ei).1
    have i1 : B + l1.length < B' := by omega
    have i1' : ((B + l1.length : Nat) : Int) < (B' : Int) := Int.ofNat_lt.mpr i1
    have hhi : (h : Int) < 24 := by omega
    have i16 : B + l1.length < 1600 := by omega
    have hB6 : B' + 64 < 1600 := by omega
    have ek : wr (((B + l1.length : Nat) : Int) + 1) = ((B + (l1.length + 1) : Nat) : Int) := wrS (k := B + l1.length) (by omega)
    have pk := ls_ok w hz hn ei
    have ep : γ 94 (B + l1.length) = ((p.1 : Nat) : Int) := (od.1 _ i1).trans (lay l1.length p ei)
    have s9' : σ1 90 9 = (a : Int) := (hs 90 9 (by decide)).trans s9
    have s10' : σ1 90 10 = ((a + n - 1 : Nat) : Int) := (hs 90 10 (by decide)).trans s10
    refine vc34_145 ⟨fun q => absurd i1' q, fun _ => ⟨fun q => absurd hhi q, fun _ => ⟨mInA_n i16, ?_⟩⟩⟩
    rw [Int.toNat_natCast, ep]
    refine c_spread (W := W) (f := f) w o hz hn s9' s10' hh pk.1 hB6 C (by rw [hf 92 (by decide)]; exact so) S ?_
    intro σ2 δ hs2 hd Cd od2 S2
    refine vc34_172 ?_
    rw [ek]
    have e2 : bldL (mvC ρ P a n h) (l1 ++ [p]) [] = bldV (mvC ρ P a n h p.1) 5 (bldL (mvC ρ P a n h) l1 []) := by
      rw [bl_app]; rfl
    have e3 : (l1 ++ [p]).length = l1.length + 1 := by rw [List.length_append]; rfl
    have r := ih (l1 ++ [p]) σ2 δ (by rw [List.append_assoc]; exact el) (hs.tr hs2) (hf.tr hd) Cd (od.tr od2) (by rw [e2]; exact S2)
    rw [e3] at r
    exact r
