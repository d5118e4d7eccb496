/-! Forces along a part, and the strain of a link -/
def smF (F : Nat → Int) (a : Nat) : Nat → Int
  | 0 => 0
  | n + 1 => smF F a n + F (a + n)
def stv (n m s t : Int) : Int := if n * s - m * t < 0 then -(n * s - m * t) else n * s - m * t
def stR (F : Nat → Int) (a z k : Nat) : Int := stv (z - a + 1 : Int) (k - a + 1 : Int) (smF F a (k + 1 - a)) (smF F a (z + 1 - a))
def fcR (ρ : Nat → Int) (P : List (Int × Int)) (dx dy h g : Int) (b : Nat) : Int := frR ρ P b (ρ (203 + 12 * b) + dx) (ρ (204 + 12 * b) + dy) h g
theorem mul_bd {a b A B : Int} (h1 : 0 ≤ a) (h2 : a ≤ A) (h3 : 0 ≤ b) (h4 : b ≤ B) : 0 ≤ a * b ∧ a * b ≤ A * B := ⟨Int.mul_nonneg h1 h3, Int.mul_le_mul h2 h4 h3 (by omega)⟩
theorem smF_bd {F : Nat → Int} {a : Nat} : ∀ {n : Nat}, (∀ b, a ≤ b → b < a + n → 0 ≤ F b ∧ F b ≤ 99) → 0 ≤ smF F a n ∧ smF F a n ≤ 99 * n
  | 0, _ => by simp [smF]
  | n + 1, h => by
    have h1 := smF_bd (F := F) (a := a) (n := n) (fun b p q => h b p (by omega))
    have h2 := h (a + n) (by omega) (by omega)
    unfold smF
    omega
theorem fr_bd {ρ : Nat → Int} {P : List (Int × Int)} {b x y h g : Int} (hp : 0 ≤ pulR ρ b) : 0 ≤ frR ρ P b x y h g ∧ frR ρ P b x y h g ≤ 99 := by unfold frR; omega
theorem fc_bd {ρ : Nat → Int} {P : List (Int × Int)} {dx dy h g : Int} (w : WF ρ) {b : Nat} (hb : (b : Int) < ρ 2) : 0 ≤ fcR ρ P dx dy h g b ∧ fcR ρ P dx dy h g b ≤ 99 := fr_bd (pul_le w ⟨by omega, hb⟩).1
theorem oo0 {ρ : Nat → Int} {b : Nat} : ooR ρ (b : Int) 0 = ρ (202 + 12 * b) := by unfold ooR; rw [Int.toNat_natCast]; congr 1
theorem oo1 {ρ : Nat → Int} {b : Nat} : ooR ρ (b : Int) 1 = ρ (203 + 12 * b) := by unfold ooR; rw [Int.toNat_natCast]; congr 1; omega
theorem oo2 {ρ : Nat → Int} {b : Nat} : ooR ρ (b : Int) 2 = ρ (204 + 12 * b) := by unfold ooR; rw [Int.toNat_natCast]; congr 1; omega
theorem oo3 {ρ : Nat → Int} {b : Nat} : ooR ρ (b : Int) 3 = ρ (205 + 12 * b) := by unfold ooR; rw [Int.toNat_natCast]; congr 1; omega
theorem oo4 {ρ : Nat → Int} {b : Nat} : ooR ρ (b : Int) 4 = ρ (206 + 12 * b) := by unfold ooR; rw [Int.toNat_natCast]; congr 1; omega
theorem oo5 {ρ : Nat → Int} {b : Nat} : ooR ρ (b : Int) 5 = ρ (207 + 12 * b) := by unfold ooR; rw [Int.toNat_natCast]; congr 1; omega
theorem oo6 {ρ : Nat → Int} {b : Nat} : ooR ρ (b : Int) 6 = ρ (208 + 12 * b) := by unfold ooR; rw [Int.toNat_natCast]; congr 1; omega
theorem oo7 {ρ : Nat → Int} {b : Nat} : ooR ρ (b : Int) 7 = ρ (209 + 12 * b) := by unfold ooR; rw [Int.toNat_natCast]; congr 1; omega
theorem oo8 {ρ : Nat → Int} {b : Nat} : ooR ρ (b : Int) 8 = ρ (210 + 12 * b) := by unfold ooR; rw [Int.toNat_natCast]; congr 1; omega
theorem oo9 {ρ : Nat → Int} {b : Nat} : ooR ρ (b : Int) 9 = ρ (211 + 12 * b) := by unfold ooR; rw [Int.toNat_natCast]; congr 1; omega
theorem oo10 {ρ : Nat → Int} {b : Nat} : ooR ρ (b : Int) 10 = ρ (212 + 12 * b) := by unfold ooR; rw [Int.toNat_natCast]; congr 1; omega
/-- the class -/
theorem c_load {X : mXX} {d : Nat} {Q : Option mV → mS → Prop} {σ α : Nat → Nat → Int} {b : Nat} {f : Int} (hb : b < 7) (hl : -1000000 ≤ α 85 b ∧ α 85 b ≤ 1000000) (hf : -1000000 ≤ f ∧ f ≤ 1000000) (h : Q none (S0, σ, mUp α 85 (b + 1) (α 85 b + f))) : Ca X (d + 1) 14 [vR 84, vI (b : Int), vI f] (S0, σ, α) Q := by
  refine vc14_0 ?_
  have e : wr ((b : Int) + 1) = ((b + 1 : Nat) : Int) := by rw [wr_of (by omega) (by omega)]; omega
  rw [e, Int.toNat_natCast, Int.toNat_natCast, wr_of (by omega) (by omega)]
  exact ⟨mInA_n (by omega), mInA_n (by omega), h⟩
def inB (ρ : Nat → Int) (a n : Nat) (dx dy : Int) : Prop := ∀ b, a ≤ b → b < a + n → (0 ≤ ρ (203 + 12 * b) + dx ∧ ρ (203 + 12 * b) + dx < 8) ∧ (0 ≤ ρ (204 + 12 * b) + dy ∧ ρ (204 + 12 * b) + dy < 8)
def bfC (α : Nat → Nat → Int) (F : Nat → Int) (a n : Nat) : Prop := ∀ j, j ≤ n → α 85 (a + j) = smF F a j
theorem c_weigh {X : mXX} {d : Nat} {Q : Option mV → mS → Prop} {σ α : Nat → Nat → Int} {ρ : Nat → Int} {P W : List (Int × Int)} {a n : Nat} {dx dy h g : Int} (C : CI σ α ρ P W) (w : WF ρ) (o : lwO 3 P) (hz : ((a + n : Nat) : Int) ≤ ρ 2) (hn : 0 < n) (hi : inB ρ a n dx dy) (hh : 0 ≤ h ∧ h ≤ 1000000) (hg : -1000 ≤ g ∧ g ≤ 1000) (hQ : ∀ α', Fα [36, 82, 83, 85] α α' → CI σ α' ρ P W → bfC α' (fcR ρ P dx dy h g) a n → Q none (S0, σ, α')) : Ca X (d + 5) 13 [vR 84, vI (a : Int), vI ((a + n - 1 : Nat) : Int), vI dx, vI dy, vI h, vI g] (S0, σ, α) Q := by
  have h7 := w.n
  refine vc13_0 ⟨mInA_n (by omega), ?_⟩
  rw [Int.toNat_natCast]
  have key : ∀ (m j : Nat) (β : Nat → Nat → Int), j + m = n → Fα [36, 82, 83, 85] α β → CI σ β ρ P W → bfC β (fcR ρ P dx dy h g) a j → Go X (d + 4) 13 10 [some (vR 84), some (vI (a : Int)), some (vI ((a + n - 1 : Nat) : Int)), some (vI dx), some (vI dy), some (vI h), some (vI g), some (vI ((a + j : Nat) : Int))] [] (S0, σ, β) (0, 0) Q := by
    intro m
    induction m with
    | zero =>
      intro j β hj hf C' hb
      have : j = n := by omega
      subst this
      exact vc13_10 ⟨fun _ => hQ β hf C' hb, fun q => absurd (show ((a + j - 1 : Nat) : Int) < ((a + j : Nat) : Int) by omega) q⟩
    | succ m ih =>
      intro j β hj hf C' hb
      refine vc13_10 ⟨fun q => by omega, fun _ => ⟨mInA_n (by omega), mInA_n (by omega), ?_⟩⟩
      rw [Int.toNat_natCast]
      have r := C'.1.b (b := a + j) (by omega)
      have hbw := w.b (b := a + j) (by omega)
      have hx := hi (a + j) (by omega) (by omega)
      have i1 := hbw.2.1
      have i2 := hbw.2.2.1
      rw [r.2.1, r.2.2.1, wr_of (x := ρ (203 + 12 * (a + j)) + dx) (by omega) (by omega), wr_of (x := ρ (204 + 12 * (a + j)) + dy) (by omega) (by omega)]
      refine c_force C' w o ⟨by omega, by omega⟩ hx.1 hx.2 hh hg ?_
      intro γ hf2 C2
      refine vc13_57 ?_
      have fb := fc_bd (P := P) (dx := dx) (dy := dy) (h := h) (g := g) w (b := a + j) (by omega)
      have e85 : γ 85 = β 85 := hf2 85 (by decide)
      have sb := smF_bd (F := fcR ρ P dx dy h g) (a := a) (n := j) (fun b p q => fc_bd w (by omega))
      have bj := hb j (Nat.le_refl _)
      refine c_load (by omega) (by rw [e85, bj]; omega) (show _ ≤ fcR ρ P dx dy h g (a + j) ∧ fcR ρ P dx dy h g (a + j) ≤ _ by omega) ?_
      refine vc13_60 ?_
      rw [wr_of (by omega) (by omega), show ((a + j : Nat) : Int) + 1 = ((a + (j + 1) : Nat) : Int) by omega]
      have f3 : Fα [36, 82, 83, 85] γ (mUp γ 85 (a + j + 1) (γ 85 (a + j) + fcR ρ P dx dy h g (a + j))) := Fα.up (by decide)
      refine ih (j + 1) _ (by omega) ((hf.tr (hf2.wk (by decide))).tr f3) (C2.fr (Z := [85]) (Fα.up (by decide))) ?_
      intro i hi'
      by_cases hij : i = j + 1
      · rw [hij, show a + (j + 1) = a + j + 1 by omega, up_s, e85, bj]; rfl
      · rw [up_n (by omega), e85]; exact hb i (by omega)
  refine key n 0 _ (by omega) (Fα.up (by decide)) (C.fr (Z := [85]) (Fα.up (by decide))) ?_
  intro j hj
  have : j = 0 := by omega
  subst this
  exact up_s
theorem c_strain {X : mXX} {d : Nat} {Q : Option mV → mS → Prop} {σ α : Nat → Nat → Int} {F : Nat → Int} {a n k : Nat} (ha : a + n ≤ 7) (hk : a ≤ k ∧ k < a + n) (hF : ∀ b, a ≤ b → b < a + n → 0 ≤ F b ∧ F b ≤ 99) (hb : bfC α F a n) (h : Q (some (vI (stR F a (a + n - 1) k))) (S0, σ, α)) : Ca X (d + 1) 15 [vR 84, vI (a : Int), vI ((a + n - 1 : Nat) : Int), vI (k : Int)] (S0, σ, α) Q := by
  refine vc15_0 ?_
  have e1 : wr ((k : Int) + 1) = ((a + (k + 1 - a) : Nat) : Int) := by rw [wr_of (by omega) (by omega)]; omega
  have e2 : wr (((a + n - 1 : Nat) : Int) + 1) = ((a + n : Nat) : Int) := by rw [wr_of (by omega) (by omega)]; omega
  rw [e1, e2, Int.toNat_natCast, Int.toNat_natCast, hb (k + 1 - a) (by omega), hb n (Nat.le_refl _)]
  refine ⟨mInA_n (by omega), mInA_n (by omega), ?_⟩
  unfold stR at h
  rw [show a + n - 1 + 1 - a = n by omega] at h
  rw [wr_of (x := ((a + n - 1 : Nat) : Int) - a) (by omega) (by omega), wr_of (x := ((a + n - 1 : Nat) : Int) - a + 1) (by omega) (by omega), wr_of (x := (k : Int) - a) (by omega) (by omega), wr_of (x := (k : Int) - a + 1) (by omega) (by omega)]
  have s1 := smF_bd (F := F) (a := a) (n := k + 1 - a) (fun b p q => hF b p (by omega))
  have s2 := smF_bd (F := F) (a := a) (n := n) (fun b p q => hF b p (by omega))
  generalize smF F a (k + 1 - a) = s at *
  generalize smF F a n = t at *
  generalize hN : ((a + n - 1 : Nat) : Int) - a + 1 = N at *
  generalize hM : (k : Int) - a + 1 = M at *
  have b1 := mul_bd (a := N) (b := s) (A := 7) (B := 700) (by omega) (by omega) (by omega) (by omega)
  have b2 := mul_bd (a := M) (b := t) (A := 7) (B := 700) (by omega) (by omega) (by omega) (by omega)
  unfold stv at h
  rw [wr_of (x := N * s) (by omega) (by omega), wr_of (x := M * t) (by omega) (by omega), wr_of (x := N * s - M * t) (by omega) (by omega), wr_of (x := -(N * s - M * t)) (by omega) (by omega)]
  exact h
theorem st_bd {F : Nat → Int} {a n k : Nat} (ha : a + n ≤ 7) (hk : a ≤ k ∧ k < a + n) (hF : ∀ b, a ≤ b → b < a + n → 0 ≤ F b ∧ F b ≤ 99) : 0 ≤ stR F a (a + n - 1) k ∧ stR F a (a + n - 1) k ≤ 5000 := by
  unfold stR stv
  rw [show a + n - 1 + 1 - a = n by omega]
  have s1 := smF_bd (F := F) (a := a) (n := k + 1 - a) (fun b p q => hF b p (by omega))
  have s2 := smF_bd (F := F) (a := a) (n := n) (fun b p q => hF b p (by omega))
  generalize smF F a (k + 1 - a) = s at *
  generalize smF F a n = t at *
  generalize hN : ((a + n - 1 : Nat) : Int) - a + 1 = N at *
  generalize hM : (k : Int) - a + 1 = M at *
  have b1 := mul_bd (a := N) (b := s) (A := 7) (B := 700) (by omega) (by omega) (by omega) (by omega)
  have b2 := mul_bd (a := M) (b := t) (A := 7) (B := 700) (by omega) (by omega) (by omega) (by omega)
  generalize N * s = u at *
  generalize M * t = v at *
  split <;> omega
def exR (ρ : Nat → Int) (F : Nat → Int) (a n k : Nat) : Int := stR F a (a + n - 1) k - (n : Int) * ρ (291 + 3 * k)
theorem ex_bd {ρ F : Nat → Int} {a n k : Nat} (w : WF ρ) (ha : a + n ≤ 7) (hk : a ≤ k ∧ k + 1 < a + n) (hF : ∀ b, a ≤ b → b < a + n → 0 ≤ F b ∧ F b ≤ 99) : -1000 ≤ exR ρ F a n k ∧ exR ρ F a n k ≤ 5000 := by
  have h1 := st_bd (k := k) ha ⟨hk.1, by omega⟩ hF
  have h2 := (w.l (k := k) (by omega)).2.1
  have b1 := mul_bd (a := (n : Int)) (b := ρ (291 + 3 * k)) (A := 7) (B := 99) (by omega) (by omega) (by omega) (by omega)
  unfold exR
  omega
theorem c_excess {X : mXX} {d : Nat} {Q : Option mV → mS → Prop} {σ α : Nat → Nat → Int} {ρ F : Nat → Int} {a n k : Nat} (R : Rep σ α ρ) (w : WF ρ) (ha : a + n ≤ 7) (hk : a ≤ k ∧ k + 1 < a + n) (hF : ∀ b, a ≤ b → b < a + n → 0 ≤ F b ∧ F b ≤ 99) (hb : bfC α F a n) (h : Q (some (vI (exR ρ F a n k))) (S0, σ, α)) : Ca X (d + 2) 21 [vR 84, vI (a : Int), vI ((a + n - 1 : Nat) : Int), vI (k : Int)] (S0, σ, α) Q := by
  refine vc21_0 ?_
  refine c_strain ha ⟨hk.1, by omega⟩ hF hb ?_
  refine vc21_7 ?_
  have h1 := st_bd (k := k) ha ⟨hk.1, by omega⟩ hF
  have h2 := (w.l (k := k) (by omega)).2.1
  have b1 := mul_bd (a := (n : Int)) (b := ρ (291 + 3 * k)) (A := 7) (B := 99) (by omega) (by omega) (by omega) (by omega)
  rw [Int.toNat_natCast, (R.l (k := k) (by omega)).2.1]
  rw [wr_of (x := ((a + n - 1 : Nat) : Int) - a) (by omega) (by omega), wr_of (x := ((a + n - 1 : Nat) : Int) - a + 1) (by omega) (by omega), show ((a + n - 1 : Nat) : Int) - a + 1 = (n : Int) by omega, wr_of (x := (n : Int) * _) (by omega) (by omega), wr_of (by omega) (by omega)]
  exact ⟨mInA_n (by omega), h⟩
/-- the reference -/
theorem m_findForces {X : mXX} {d : Nat} {Q : Option mV → mS → Prop} {σ α : Nat → Nat → Int} {P : List (Int × Int)} {dx dy h g : Int} (w : WF (α 110)) (l : lwM α 6 10 P) (o : lwO 3 P) (hd : (-1000 ≤ dx ∧ dx ≤ 1000) ∧ -1000 ≤ dy ∧ dy ≤ 1000) (hg : -1000 ≤ g ∧ g ≤ 1000) (hQ : ∀ α', Fα [115, 116, 118] α α' → (∀ b : Nat, (b : Int) < α 110 2 → α' 118 b = fcR (α 110) P dx dy h g b) → Q none (S0, σ, α')) : Ca X (d + 5) 176 [vR 104, vI dx, vI dy, vI h, vI g] (S0, σ, α) Q := by
  have h7 := w.n
  refine vc176_0 ?_
  have key : ∀ (m j : Nat) (β : Nat → Nat → Int), ((j + m : Nat) : Int) = α 110 2 → Fα [115, 116, 118] α β → (∀ b : Nat, b < j → β 118 b = fcR (α 110) P dx dy h g b) → Go X (d + 4) 176 3 [some (vR 104), some (vI dx), some (vI dy), some (vI h), some (vI g), some (vI (j : Int))] [] (S0, σ, β) (0, 0) Q := by
    intro m
    induction m with
    | zero =>
      intro j β hj hf hb
      refine vc176_3 ?_
      refine vc159_0 ?_
      have e : β 110 = α 110 := hf 110 (by decide)
      rw [e]
      exact vc176_9 ⟨fun _ => hQ β hf (fun b hb' => hb b (by omega)), fun q => by omega⟩
    | succ m ih =>
      intro j β hj hf hb
      have e : β 110 = α 110 := hf 110 (by decide)
      have e11 : β 111 = α 111 := hf 111 (by decide)
      have e12 : β 112 = α 112 := hf 112 (by decide)
      have l' : lwM β 6 10 P := by unfold lwM; rw [e, e11, e12]; exact l
      have hbw := w.b (b := j) (by omega)
      have i1 := hbw.2.1
      have i2 := hbw.2.2.1
      refine vc176_3 ?_
      refine vc159_0 ?_
      rw [e]
      refine vc176_9 ⟨fun q => by omega, fun _ => ?_⟩
      refine m_of ⟨by omega, by omega⟩ ?_
      rw [e, oo1]
      refine vc176_28 ?_
      refine m_of ⟨by omega, by omega⟩ ?_
      rw [e, oo2]
      refine vc176_37 ?_
      rw [wr_of (x := α 110 (203 + 12 * j) + dx) (by omega) (by omega), wr_of (x := α 110 (204 + 12 * j) + dy) (by omega) (by omega)]
      refine m_forceAt (by rw [e]; exact w) l' o (by rw [e]; omega) hg ?_
      intro γ hf2
      rw [e]
      refine vc176_45 ⟨mInA_n (by omega), ?_⟩
      rw [Int.toNat_natCast, wr_of (by omega) (by omega), show (j : Int) + 1 = ((j + 1 : Nat) : Int) by omega]
      refine ih (j + 1) _ (by omega) ((hf.tr (hf2.wk (by decide))).tr (Fα.up (by decide))) ?_
      intro b hb'
      by_cases hbj : b = j
      · rw [hbj, up_s]; rfl
      · rw [up_n (by omega), hf2 118 (by decide)]; exact hb b (by omega)
  refine key (α 110 2).toNat 0 α (by omega) Fα.rf (fun b hb => absurd hb (by omega))
theorem m_strain {X : mXX} {d : Nat} {Q : Option mV → mS → Prop} {σ α : Nat → Nat → Int} {F : Nat → Int} {a n k : Nat} (ha : a + n ≤ 7) (hk : a ≤ k ∧ k < a + n) (hF : ∀ b, a ≤ b → b < a + n → 0 ≤ F b ∧ F b ≤ 99) (hb : ∀ b, a ≤ b → b < a + n → α 118 b = F b) (h : Q (some (vI (stR F a (a + n - 1) k))) (S0, σ, α)) : Ca X (d + 1) 178 [vR 104, vI (a : Int), vI ((a + n - 1 : Nat) : Int), vI (k : Int)] (S0, σ, α) Q := by
  refine vc178_0 ?_
  have key : ∀ (m j : Nat), j + m = n → Go X d 178 9 [some (vR 104), some (vI (a : Int)), some (vI ((a + n - 1 : Nat) : Int)), some (vI (k : Int)), some (vI (smF F a (min j (k + 1 - a)))), some (vI (smF F a j)), some (vI ((a + j : Nat) : Int))] [] (S0, σ, α) (0, 0) Q := by
    intro m
    induction m with
    | zero =>
      intro j hj
      have : j = n := by omega
      subst this
      refine vc178_9 ⟨fun _ => ?_, fun q => absurd (show ((a + j - 1 : Nat) : Int) < ((a + j : Nat) : Int) by omega) q⟩
      rw [show min j (k + 1 - a) = k + 1 - a by omega]
      unfold stR at h
      rw [show a + j - 1 + 1 - a = j by omega] at h
      rw [wr_of (x := ((a + j - 1 : Nat) : Int) - a) (by omega) (by omega), wr_of (x := ((a + j - 1 : Nat) : Int) - a + 1) (by omega) (by omega), wr_of (x := (k : Int) - a) (by omega) (by omega), wr_of (x := (k : Int) - a + 1) (by omega) (by omega)]
      have s1 := smF_bd (F := F) (a := a) (n := k + 1 - a) (fun b p q => hF b p (by omega))
      have s2 := smF_bd (F := F) (a := a) (n := j) (fun b p q => hF b p (by omega))
      generalize smF F a (k + 1 - a) = s at *
      generalize smF F a j = t at *
      generalize hN : ((a + j - 1 : Nat) : Int) - a + 1 = N at *
      generalize hM : (k : Int) - a + 1 = M at *
      have b1 := mul_bd (a := N) (b := s) (A := 7) (B := 700) (by omega) (by omega) (by omega) (by omega)
      have b2 := mul_bd (a := M) (b := t) (A := 7) (B := 700) (by omega) (by omega) (by omega) (by omega)
      unfold stv at h
      rw [wr_of (x := N * s) (by omega) (by omega), wr_of (x := M * t) (by omega) (by omega), wr_of (x := N * s - M * t) (by omega) (by omega), wr_of (x := -(N * s - M * t)) (by omega) (by omega)]
      refine ⟨fun q => ?_, fun q => ?_⟩
      · rw [if_neg q] at h; exact h
      · rw [if_pos q] at h; exact h
    | succ m ih =>
      intro j hj
      refine vc178_9 ⟨fun q => by omega, fun _ => ⟨mInA_n (by omega), ?_⟩⟩
      have s1 := smF_bd (F := F) (a := a) (n := min j (k + 1 - a)) (fun b p q => hF b p (by omega))
      have s2 := smF_bd (F := F) (a := a) (n := j) (fun b p q => hF b p (by omega))
      have f1 := hF (a + j) (by omega) (by omega)
      have i1 := ih (j + 1) (by omega)
      rw [Int.toNat_natCast, hb (a + j) (by omega) (by omega), wr_of (x := ((a + j : Nat) : Int) + 1) (by omega) (by omega), show ((a + j : Nat) : Int) + 1 = ((a + (j + 1) : Nat) : Int) by omega, wr_of (x := smF F a j + F (a + j)) (by omega) (by omega)]
      refine ⟨fun q => ?_, fun q => ⟨mInA_n (by omega), ?_⟩⟩
      · rw [wr_of (by omega) (by omega), Int.add_zero, show min j (k + 1 - a) = min (j + 1) (k + 1 - a) by omega]
        exact i1
      · rw [wr_of (by omega) (by omega), show min j (k + 1 - a) = j by omega]
        rw [show min (j + 1) (k + 1 - a) = j + 1 by omega] at i1
        exact i1
  have k0 := key n 0 (by omega)
  rw [show min 0 (k + 1 - a) = 0 by omega] at k0
  exact k0
/-- the part of a boat: first, and how many -/
def szR (ρ : Nat → Int) (k : Nat) : Nat := laN ρ ((ρ 2).toNat - 1 - k) k + 1 - fsN ρ k
theorem part_n {ρ : Nat → Int} {k : Nat} (hk : (k : Int) < ρ 2) : fsN ρ k ≤ k ∧ k < fsN ρ k + szR ρ k ∧ ((fsN ρ k + szR ρ k : Nat) : Int) ≤ ρ 2 ∧ laN ρ ((ρ 2).toNat - 1 - k) k = fsN ρ k + szR ρ k - 1 := by
  have h1 := fsN_le ρ k
  have h2 := laN_le ρ ((ρ 2).toNat - 1 - k) k
  unfold szR
  omega
theorem laN_t {ρ : Nat → Int} : ∀ {f b : Nat}, f ≠ 0 → ρ (292 + 3 * b) = 0 → b + 1 ≤ laN ρ f b
  | 0, _, h, _ => absurd rfl h
  | f + 1, b, _, h => by
    unfold laN
    rw [if_pos h]
    exact (laN_le ρ f (b + 1)).1
/-- a link that is whole would tear -/
def wtR (ρ : Nat → Int) (F : Nat → Int) (k : Nat) : Int := if 0 < exR ρ F (fsN ρ k) (szR ρ k) k then 1 else 0
theorem m_wouldTear {X : mXX} {d : Nat} {Q : Option mV → mS → Prop} {σ α : Nat → Nat → Int} {F : Nat → Int} {k : Nat} (w : WF (α 110)) (hk : (k : Int) + 1 < α 110 2) (ht : α 110 (292 + 3 * k) = 0) (hF : ∀ b : Nat, (b : Int) < α 110 2 → 0 ≤ F b ∧ F b ≤ 99) (hb : ∀ b : Nat, (b : Int) < α 110 2 → α 118 b = F b) (h : Q (some (vI (wtR (α 110) F k))) (S0, σ, α)) : Ca X (d + 3) 190 [vR 104, vI (k : Int)] (S0, σ, α) Q := by
  have h7 := w.n
  have pn := part_n (ρ := α 110) (k := k) (by omega)
  have lt := laN_t (ρ := α 110) (f := (α 110 2).toNat - 1 - k) (b := k) (by omega) ht
  refine vc190_0 ?_
  refine m_first w ⟨by omega, by omega⟩ ?_
  refine vc190_5 ?_
  refine m_last w ⟨by omega, by omega⟩ ?_
  refine vc190_11 ?_
  unfold fsR laR
  rw [Int.toNat_natCast, pn.2.2.2]
  refine m_strain (F := F) (by omega) ⟨by omega, by omega⟩ (fun b _ q => hF b (by omega)) (fun b _ q => hb b (by omega)) ?_
  refine vc190_19 ?_
  refine m_strong ⟨by omega, by omega⟩ ?_
  refine vc190_29 ?_
  have h1 := st_bd (F := F) (k := k) (a := fsN (α 110) k) (n := szR (α 110) k) (by omega) ⟨by omega, by omega⟩ (fun b _ q => hF b (by omega))
  have h2 := (w.l (k := k) (by omega)).2.1
  have b1 := mul_bd (a := (szR (α 110) k : Int)) (b := α 110 (291 + 3 * k)) (A := 7) (B := 99) (by omega) (by omega) (by omega) (by omega)
  unfold sgR
  rw [Int.toNat_natCast]
  rw [wr_of (x := ((fsN (α 110) k + szR (α 110) k - 1 : Nat) : Int) - (fsN (α 110) k : Int)) (by omega) (by omega), wr_of (x := ((fsN (α 110) k + szR (α 110) k - 1 : Nat) : Int) - (fsN (α 110) k : Int) + 1) (by omega) (by omega), show ((fsN (α 110) k + szR (α 110) k - 1 : Nat) : Int) - (fsN (α 110) k : Int) + 1 = (szR (α 110) k : Int) by omega, wr_of (by omega) (by omega)]
  unfold wtR exR at h
  refine ⟨fun q => ?_, fun q => ?_⟩
  · rw [if_neg (by omega)] at h; exact h
  · rw [if_pos (by omega)] at h; exact h
