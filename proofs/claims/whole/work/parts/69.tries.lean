/-! The storm, in both -/
def s00 : ST := (2147483647, fun _ => 0)
def smR (ρ : Nat → Int) (P : List (Int × Int)) (n : Nat) : ST := lyF n (jdR ρ P n) n 0 0 (fun _ => 0) s00
def stmR (ρ : Nat → Int) (P : List (Int × Int)) (n : Nat) (v : Int) : Int := if v = -1 then (smR ρ P n).1 else (smR ρ P n).2 v.toNat
theorem sm_K {ρ : Nat → Int} {P : List (Int × Int)} {n : Nat} (w : WF ρ) (hn : (n : Int) = ρ 2) (h2 : 2 ≤ n) : (smR ρ P n).1 < 2147483647 := by
  have n7 : n ≤ 7 := by have := w.2.2.1.2; omega
  have h := ly_end (J := jdR ρ P n) jd_le (K := 5000) n7 (r := n) (pl := 0) (row := fun _ => 0) (s := s00) (Nat.zero_add n) (fun i hi => absurd hi (Nat.not_lt_zero i)) (jd_K w hn h2)
  exact Int.lt_of_le_of_lt h (by decide)
theorem c_search {X : mXX} {d : Nat} {Q : Option mV → mS → Prop} {σ α : Nat → Nat → Int} {ρ : Nat → Int} {P W : List (Int × Int)} {n : Nat} (C : CI σ α ρ P W) (w : WF ρ) (o : lwO 3 P) (hn : ρ 2 = (n : Int)) (h2 : 2 ≤ n) (hQ : ∀ σ' α', Fσ [(100, 7)] σ σ' → Fα [36, 82, 83, 85, 101, 102, 103] α α' → CI σ α' ρ P W → SC σ' α' n (smR ρ P n) → Q none (S0, σ', α')) : Ca X (d + n + 5) 62 [vR 100] (S0, σ, α) Q := by
  have n7 : n ≤ 7 := by have := w.2.2.1.2; omega
  have r2 : σ 23 2 = (n : Int) := C.1.2.2.1.trans hn
  have r3 := C.1.2.2.2.2.2.1
  refine vc62_0 ?_
  have key : ∀ (m p : Nat) (γ : Nat → Nat → Int) (x2 : Option mV), p + m = n → Fα [36, 82, 83, 101] α γ → CI σ γ ρ P W → (∀ q b : Nat, q < p → b < n → γ 101 (7 * q + b) = frR ρ P b (ρ (203 + 12 * q)) (ρ (204 + 12 * q)) (ρ 3) 0) → Go X (d + n + 4) 62 2 [some (vR 100), some (vI (p : Int)), x2] [] (S0, σ, γ) (0, 0) Q := by
    intro m
    induction m with
    | zero =>
      intro p γ x2 hp hf Cg F
      have e : p = n := hp
      subst e
      refine vc62_2 ⟨fun _ => ?_, fun q => absurd q (by rw [r2]; exact Int.lt_irrefl _)⟩
      have s7 : Fσ [(100, 7)] σ (mUp σ 100 7 2147483647) := Fσ.up (by decide)
      have f85 : Fα [85] γ (mUp γ 85 0 0) := Fα.up (by decide)
      refine c_lay (P := P) w hn h2 p d 0 0 (fun _ => 0) s00 _ _ _ (Nat.zero_add p) (by decide) (fun i hi => absurd hi (Nat.not_lt_zero i)) ((Cg.1.fr f85).s7 s7) (fun i hi => absurd hi (Nat.not_lt_zero i)) (fun j hj => ?_) (fun q b hq hb => ?_) ⟨up_s, fun z => absurd z (by decide)⟩ (by decide) ?_
      · have e : j = 0 := Nat.le_zero.mp hj
        subst e
        exact up_s
      · rw [f85 101 (by decide)]; exact F q b hq hb
      · intro σ' α' hs ha _ _ S _
        refine vc62_105 ?_
        refine hQ σ' α' (s7.tr hs) ((hf.wk (by decide)).tr ((f85.wk (by decide)).tr (ha.wk (by decide)))) ?_ S
        exact Cg.fr (Z := [85, 102, 103]) ((f85.wk (by decide)).tr ha)
    | succ m ih =>
      intro p γ x2 hp hf Cg F
      have pl : (p : Int) < (n : Int) := by omega
      have pl2 : (p : Int) < ρ 2 := by rw [hn]; exact pl
      have p7 : p < 7 := by omega
      have pm : p + 1 + m = n := by omega
      have ep := wrS (k := p) (by omega)
      refine vc62_2 ⟨fun q => absurd (by rw [r2]; exact pl) q, fun _ => ?_⟩
      have inner : ∀ (t b : Nat) (δ : Nat → Nat → Int), b + t = n → Fα [36, 82, 83, 101] α δ → CI σ δ ρ P W → (∀ q b : Nat, q < p → b < n → δ 101 (7 * q + b) = frR ρ P b (ρ (203 + 12 * q)) (ρ (204 + 12 * q)) (ρ 3) 0) → (∀ c : Nat, c < b → δ 101 (7 * p + c) = frR ρ P c (ρ (203 + 12 * p)) (ρ (204 + 12 * p)) (ρ 3) 0) → Go X (d + n + 4) 62 15 [some (vR 100), some (vI (p : Int)), some (vI (b : Int))] [] (S0, σ, δ) (0, 0) Q := by
        intro t
        induction t with
        | zero =>
          intro b δ hb hd Cd D1 D2
          have e : b = n := hb
          refine vc62_15 ⟨fun _ => ?_, fun q => absurd q (by rw [r2, e]; exact Int.lt_irrefl _)⟩
          rw [ep]
          refine ih (p + 1) δ _ pm hd Cd (fun q c hq hc => ?_)
          by_cases h : q = p
          · rw [h]; exact D2 c (by rw [e]; exact hc)
          · exact D1 q c (Nat.lt_of_le_of_ne (Nat.le_of_lt_succ hq) h) hc
        | succ t iht =>
          intro b δ hb hd Cd D1 D2
          have bl : (b : Int) < (n : Int) := by omega
          have b7 : b < 7 := by omega
          have bt : b + 1 + t = n := by omega
          have i49 : 7 * p + b < 49 := by omega
          have ne : ∀ q c : Nat, q < p → c < n → 7 * q + c ≠ 7 * p + b := fun q c h1 h2 => by omega
          have ne2 : ∀ c : Nat, c < b + 1 → c ≠ b → 7 * p + c ≠ 7 * p + b ∧ c < b := fun c h1 h2 => by omega
          have ek := wrS (k := b) (by omega)
          have r := Cd.1.b pl2
          have hw := w.b pl2
          have bb : 0 ≤ (b : Int) ∧ (b : Int) < ρ 2 := ⟨Int.natCast_nonneg b, by rw [hn]; exact bl⟩
          refine vc62_15 ⟨fun q => absurd (by rw [r2]; exact bl) q, fun _ => ⟨mInA_n p7, mInA_n p7, ?_⟩⟩
          rw [Int.toNat_natCast, r.2.1, r.2.2.1, r3, ixS p7 b7]
          refine c_force Cd w o bb (hw.x w) (hw.y w) (hrW w) (by decide) ?_
          intro ε he Ce
          refine vc62_70 ⟨mInA_n i49, ?_⟩
          rw [Int.toNat_natCast, ek]
          have e1 : ε 101 = δ 101 := he 101 (by decide)
          refine iht (b + 1) _ bt ((hd.tr (he.wk (by decide))).tr (Fα.up (by decide))) (Ce.fr (Z := [101]) (Fα.up (by decide))) (fun q c hq hc => ?_) (fun c hc => ?_)
          · rw [up_a, if_neg (ne q c hq hc), e1]; exact D1 q c hq hc
          · rw [up_a]
            by_cases h : c = b
            · rw [h, if_pos rfl]
            · rw [if_neg (ne2 c hc h).1, e1]; exact D2 c (ne2 c hc h).2
      exact inner n 0 γ (Nat.zero_add n) hf Cg F (fun c hc => absurd hc (Nat.not_lt_zero c))
  exact key n 0 α none (Nat.zero_add n) Fα.rf C (fun q b hq _ => absurd hq (Nat.not_lt_zero q))
theorem c_storm {X : mXX} {d : Nat} {Q : Option mV → mS → Prop} {σ α : Nat → Nat → Int} {ρ : Nat → Int} {P W : List (Int × Int)} {n : Nat} {v : Int} (C : CI σ α ρ P W) (w : WF ρ) (o : lwO 3 P) (hn : ρ 2 = (n : Int)) (h2 : 2 ≤ n) (hv : -1 ≤ v ∧ v < (n : Int)) (hQ : ∀ σ' α', Fσ [(100, 7)] σ σ' → Fα [36, 82, 83, 85, 101, 102, 103] α α' → CI σ α' ρ P W → Q (some (vI (stmR ρ P n v))) (S0, σ', α')) : Ca X (d + n + 6) 123 [vR 0, vI v] (S0, σ, α) Q := by
  have n7 : n ≤ 7 := by have := w.2.2.1.2; omega
  have r2 : σ 23 2 = (n : Int) := C.1.2.2.1.trans hn
  have sk := sm_K (P := P) w hn.symm h2
  refine vc123_0 ?_
  rw [r2]
  refine ⟨fun q => absurd q (by clear sk; omega), fun _ => ⟨fun q => absurd q (by clear sk; omega), fun _ => ⟨fun _ => ?_, fun q => absurd hv.2 q⟩⟩⟩
  refine c_search C w o hn h2 ?_
  intro σ' α' hs ha C' S
  have z := hQ σ' α' hs ha C'
  unfold stmR at z
  refine vc123_42 ⟨fun q => ?_, fun q => ?_⟩
  · have v0 : 0 ≤ v := by clear sk z; omega
    have vn : v.toNat < n := by clear sk z; omega
    rw [if_neg q] at z
    refine ⟨by unfold mInA; clear sk z; omega, ?_⟩
    rw [S.2 sk v.toNat vn]
    exact z
  · rw [if_pos q] at z
    rw [S.1]
    exact z
/-- the reference -/
theorem nov {a b : Int} {n : Nat} (h1 : 0 ≤ a ∧ a ≤ 5000) (h2 : 0 ≤ (n : Int) * b ∧ (n : Int) * b ≤ 7 * 99) : wr (a - wr ((n : Int) * b)) = a - (n : Int) * b := by
  rw [wr_of (x := (n : Int) * b) (by omega) (by omega), wr_of (by omega) (by omega)]
theorem nsb {b : Int} {n : Nat} (h : 0 ≤ b ∧ b ≤ 99) (hn : n ≤ 7) : 0 ≤ (n : Int) * b ∧ (n : Int) * b ≤ 7 * 99 := mul_bd (by omega) (by omega) h.1 h.2
theorem m_over {X : mXX} {d : Nat} {Q : Option mV → mS → Prop} {σ α : Nat → Nat → Int} {P : List (Int × Int)} {n : Nat} {row : Nat → Int} (w : WF (α 110)) (l : lwM α 6 10 P) (o : lwO 3 P) (hn : α 110 2 = (n : Int)) (h2 : 2 ≤ n) (rb : rwB (α 110) row n) (h1 : ∀ i, i < n → α 125 i = row i) (hQ : ∀ α', Fα [115, 116, 118] α α' → Q (some (vI (ovR (α 110) P n row))) (S0, σ, α')) : Ca X (d + 5) 218 [vR 104] (S0, σ, α) Q := by
  have n7 : n ≤ 7 := by have := w.2.2.1.2; omega
  have ez := nj1 h2 n7
  have hF := fw_bd (P := P) w rb
  refine vc218_0 ?_
  refine vc159_0 ?_
  rw [hn]
  refine vc218_4 ?_
  have lp2 : ∀ (t k : Nat) (γ : Nat → Nat → Int) (x4 : Option mV), k + t = n - 1 → Fα [115, 116, 118] α γ → (∀ i, i < n → γ 118 i = fwR (α 110) P row i) → Go X (d + 4) 218 59 [some (vR 104), some (vI (n : Int)), some (vI (mxE (α 110) (fwR (α 110) P row) n k)), some (vI (k : Int)), x4] [] (S0, σ, γ) (0, 0) Q := by
    intro t
    induction t with
    | zero =>
      intro k γ x4 hk hf F
      have e : k = n - 1 := hk
      have kn : ¬ (k : Int) < ((0 + n - 1 : Nat) : Int) := by clear ez; omega
      have z := hQ γ hf
      unfold ovR at z
      rw [← e] at z
      exact vc218_59 ⟨fun _ => z, fun q => absurd q (by rw [ez]; exact kn)⟩
    | succ t ih =>
      intro k γ x4 hk hf F
      have kn : (k : Int) < ((0 + n - 1 : Nat) : Int) := by clear ez; omega
      have kt : k + 1 + t = n - 1 := by clear ez; omega
      have k6 : k < 6 := by clear ez; omega
      have kk : 0 ≤ k ∧ k < 0 + n := by clear ez; omega
      have kb : 0 ≤ (k : Int) ∧ (k : Int) < 6 := by clear ez; omega
      have a7 : 0 + n ≤ 7 := by clear ez; omega
      have ek := wrS (k := k) (by clear ez; omega)
      have eg : γ 110 = α 110 := hf 110 (by decide)
      have hF' : ∀ b, 0 ≤ b → b < 0 + n → 0 ≤ fwR (α 110) P row b ∧ fwR (α 110) P row b ≤ 99 := fun b _ hb => hF b (by rw [Nat.zero_add] at hb; exact hb)
      have sb := st_bd (F := fwR (α 110) P row) (a := 0) (n := n) (k := k) a7 kk hF'
      have gb := nsb (w.l k6).2.1 n7
      have i1 := ih (k + 1)
      refine vc218_59 ⟨fun q => absurd (by rw [ez]; exact kn) q, fun _ => ?_⟩
      rw [ez]
      refine m_strain (F := fwR (α 110) P row) (a := 0) (n := n) (k := k) a7 kk hF' (fun b _ hb => F b (by rw [Nat.zero_add] at hb; exact hb)) ?_
      refine vc218_75 ?_
      refine m_strong kb ?_
      unfold sgR
      rw [eg, Int.toNat_natCast]
      refine vc218_81 ?_
      rw [nov sb gb, ek]
      have es : mxE (α 110) (fwR (α 110) P row) n (k + 1) = max (mxE (α 110) (fwR (α 110) P row) n k) (stR (fwR (α 110) P row) 0 (0 + n - 1) k - (n : Int) * α 110 (291 + 3 * k)) := rfl
      rw [es] at i1
      refine ⟨fun q => ?_, fun q => ?_⟩
      · rw [Int.max_eq_left (Int.not_lt.mp q)] at i1
        exact i1 γ _ kt hf F
      · rw [Int.max_eq_right (Int.le_of_lt q)] at i1
        exact i1 γ _ kt hf F
  have lp1 : ∀ (t i : Nat) (γ : Nat → Nat → Int), i + t = n → Fα [115, 116, 118] α γ → (∀ j, j < i → γ 118 j = fwR (α 110) P row j) → Go X (d + 4) 218 7 [some (vR 104), some (vI (n : Int)), some (vI (i : Int)), none, none] [] (S0, σ, γ) (0, 0) Q := by
    intro t
    induction t with
    | zero =>
      intro i γ hi hf F
      have e : i = n := hi
      subst e
      refine vc218_7 ⟨fun _ => ?_, fun q => absurd q (Int.lt_irrefl _)⟩
      exact lp2 (i - 1) 0 γ none (Nat.zero_add _) hf F
    | succ t ih =>
      intro i γ hi hf F
      have il : (i : Int) < (n : Int) := by clear ez; omega
      have i7 : i < 7 := by clear ez; omega
      have i8 : i < 8 := by clear ez; omega
      have inn : i < n := by clear ez; omega
      have ib : 0 ≤ (i : Int) ∧ (i : Int) < 7 := by clear ez; omega
      have it : i + 1 + t = n := by clear ez; omega
      have ek := wrS (k := i) (by clear ez; omega)
      have eg : γ 110 = α 110 := hf 110 (by decide)
      have e5 : γ 125 = α 125 := hf 125 (by decide)
      refine vc218_7 ⟨fun q => absurd il q, fun _ => ⟨mInA_n i7, ?_⟩⟩
      rw [Int.toNat_natCast, e5, h1 i inn]
      refine m_of ib ?_
      rw [oo1, eg]
      refine vc218_30 ?_
      refine m_of ib ?_
      rw [oo2, eg]
      refine vc218_36 ?_
      rw [eg]
      refine m_forceAt (P := P) (by rw [eg]; exact w) (l.st (by rw [eg]) (hf 111 (by decide)) (hf 112 (by decide))) o (by rw [eg]; exact rb i inn) (by decide) ?_
      intro δ hd
      rw [eg]
      refine vc218_46 ⟨mInA_n i8, ?_⟩
      rw [Int.toNat_natCast, ek]
      refine ih (i + 1) _ it ((hf.tr (hd.wk (by decide))).tr (Fα.up (by decide))) (fun j hj => ?_)
      rw [up_a]
      by_cases h : j = i
      · rw [if_pos h, h]; rfl
      · rw [if_neg h, hd 118 (by decide)]; exact F j (Nat.lt_of_le_of_ne (Nat.le_of_lt_succ hj) h)
  exact lp1 n 0 α (Nat.zero_add n) Fα.rf (fun j hj => absurd hj (Nat.not_lt_zero j))
