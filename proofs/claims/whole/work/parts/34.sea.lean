/-! The swell and the force -/
def f3 (x y h : Int) (a : Nat) : Int := if a = 0 then x else if a = 1 then y else h
def swV (P : List (Int × Int)) (x y h : Int) : Int := max 0 (min 99 (evV (f3 x y h) P))
def Kn (α : Nat → Nat → Int) (P : List (Int × Int)) : Prop := ∀ c : Nat, c < 1536 → α 82 c = -1 ∨ α 82 c = swV P (c % 8 : Nat) (c / 8 % 8 : Nat) (c / 64 : Nat)
/-- what the class' cells hold: the bay, its laws, what is known of the swell -/
def CI (σ α : Nat → Nat → Int) (ρ : Nat → Int) (P W : List (Int × Int)) : Prop :=
  Rep σ α ρ ∧ (pgC (α 35) 0 P ∧ σ 34 2 = P.length) ∧ (pgC (α 38) 0 W ∧ σ 37 2 = W.length) ∧ Kn α P
/-- what the reference's cells hold -/
def lwM (α : Nat → Nat → Int) (k : Nat) (v : Int) (P : List (Int × Int)) : Prop := (α 110 k < 0 ∧ P = [(1, v)]) ∨ (0 ≤ α 110 k ∧ pgM (α 111) (α 112) (α 110 k).toNat P)
def lwO (m : Int) (P : List (Int × Int)) : Prop := okE m P 0 ∧ P.length ≤ 1000
theorem WF.n {ρ : Nat → Int} (w : WF ρ) : (2 ≤ ρ 0 ∧ ρ 0 ≤ 8) ∧ (2 ≤ ρ 1 ∧ ρ 1 ≤ 8) ∧ (0 ≤ ρ 2 ∧ ρ 2 ≤ 7) ∧ (0 ≤ ρ 3 ∧ ρ 3 ≤ 100000) ∧ (0 ≤ ρ 4 ∧ ρ 4 ≤ 50) ∧ (0 ≤ ρ 5 ∧ ρ 5 ≤ 99) := ⟨w.1, w.2.1, w.2.2.1, w.2.2.2.1, w.2.2.2.2.1, w.2.2.2.2.2.1⟩
def ZC : List Nat := [23, 24, 25, 26, 27, 28, 29, 30, 31, 32, 33, 34, 35, 37, 38, 40, 41, 42, 43, 44, 45, 46, 47, 82]
theorem Rep.fr {σ α α' : Nat → Nat → Int} {ρ : Nat → Int} {Z : List Nat} (R : Rep σ α ρ) (f : Fα Z α α') (hz : ∀ z ∈ Z, z ∉ ZC := by decide) : Rep σ α' ρ := by
  have g : ∀ z ∈ ZC, α' z = α z := fun z h => f z (fun q => hz z q h)
  unfold Rep
  rw [g 24 (by decide), g 25 (by decide), g 26 (by decide), g 27 (by decide), g 28 (by decide), g 29 (by decide), g 30 (by decide), g 31 (by decide), g 32 (by decide), g 33 (by decide), g 41 (by decide), g 42 (by decide), g 43 (by decide), g 44 (by decide), g 45 (by decide), g 46 (by decide), g 47 (by decide)]
  exact R
def ZK : List Nat := [24, 25, 26, 27, 28, 29, 30, 31, 32, 33, 35, 38, 41, 42, 43, 44, 45, 46, 47]
theorem CI.fk {σ α α' : Nat → Nat → Int} {ρ : Nat → Int} {P W : List (Int × Int)} {Z : List Nat} (C : CI σ α ρ P W) (f : Fα Z α α') (k : Kn α' P) (hz : ∀ z ∈ Z, z ∉ ZK := by decide) : CI σ α' ρ P W := by
  have g : ∀ z ∈ ZK, α' z = α z := fun z h => f z (fun q => hz z q h)
  obtain ⟨R, l1, l2, -⟩ := C
  refine ⟨?_, ?_, ?_, k⟩
  · unfold Rep
    rw [g 24 (by decide), g 25 (by decide), g 26 (by decide), g 27 (by decide), g 28 (by decide), g 29 (by decide), g 30 (by decide), g 31 (by decide), g 32 (by decide), g 33 (by decide), g 41 (by decide), g 42 (by decide), g 43 (by decide), g 44 (by decide), g 45 (by decide), g 46 (by decide), g 47 (by decide)]
    exact R
  · rw [g 35 (by decide)]; exact l1
  · rw [g 38 (by decide)]; exact l2
theorem CI.fr {σ α α' : Nat → Nat → Int} {ρ : Nat → Int} {P W : List (Int × Int)} {Z : List Nat} (C : CI σ α ρ P W) (f : Fα Z α α') (hz : ∀ z ∈ Z, z ∉ ZC := by decide) : CI σ α' ρ P W := by
  refine C.fk f ?_ (fun z h q => hz z h ((by decide : ∀ z ∈ ZK, z ∈ ZC) z q))
  unfold Kn
  rw [f 82 (fun q => hz _ q (by decide))]
  exact C.2.2.2
theorem sw_e {P : List (Int × Int)} (ok : okE 3 P 0) {f : Nat → Int} {x y h : Int} (e0 : f 0 = x) (e1 : f 1 = y) (e2 : f 2 = h) : evV f P = evV (f3 x y h) P := by
  refine evV_cg (m := 3) (fun a ha => ?_) ok
  have : a = 0 ∨ a = 1 ∨ a = 2 := by omega
  rcases this with rfl | rfl | rfl
  · exact e0
  · exact e1
  · exact e2
theorem m_swellAt {X : mXX} {d : Nat} {Q : Option mV → mS → Prop} {σ α : Nat → Nat → Int} {P : List (Int × Int)} {x y h g : Int} (l : lwM α 6 10 P) (o : lwO 3 P) (hg : -1000 ≤ g ∧ g ≤ 1000) (hQ : ∀ α', Fα [115, 116] α α' → Q (some (vI (min 99 (swV P x y (h.tmod 24) + g)))) (S0, σ, α')) : Ca X (d + 3) 167 [vR 104, vI x, vI y, vI h, vI g] (S0, σ, α) Q := by
  refine vc167_0 ⟨fun q => ?_, fun q => ?_⟩
  · rcases l with l | l
    · have e : swV P x y (h.tmod 24) = 10 := by rw [l.2]; rfl
      rw [e] at hQ
      rw [wr_of (by omega) (by omega)]
      refine ⟨fun q2 => ?_, fun q2 => ?_⟩
      · rw [show (10 : Int) + g = min 99 (10 + g) by omega]; exact hQ α Fα.rf
      · rw [show (99 : Int) = min 99 (10 + g) by omega]; exact hQ α Fα.rf
    · omega
  · rcases l with l | l
    · omega
    · obtain ⟨p, hp⟩ := Int.eq_ofNat_of_zero_le l.1
      rw [hp]
      refine m_worthAt (m := 3) (by decide) (P := P) (by rw [up_o (by decide), up_o (by decide), up_o (by decide), up_o (by decide), up_o (by decide), up_o (by decide)]; have := l.2; rw [hp] at this; exact this) o.1 ?_
      intro α' hf
      have ev := sw_e o.1 (f := mUp (mUp (mUp α 115 0 x) 115 1 y) 115 2 (h.tmod 24) 115) (x := x) (y := y) (h := h.tmod 24) (by rw [up_n (by omega), up_n (by omega), up_s]) (by rw [up_n (by omega), up_s]) up_s
      rw [ev]
      have hf' : Fα [115, 116] α α' := ((Fα.up (by decide)).tr (Fα.up (by decide))).tr ((Fα.up (by decide)).tr (hf.wk (by decide)))
      have hQ' := hQ α' hf'
      unfold swV at hQ'
      refine vc167_49 ?_
      generalize evV (f3 x y (h.tmod 24)) P = v at *
      refine ⟨fun q1 => ⟨fun q2 => ?_, fun q2 => ?_⟩, fun q1 => ?_⟩
      · rw [wr_of (by omega) (by omega)]
        refine ⟨fun q3 => ?_, fun q3 => ?_⟩
        · rw [show min 99 (max 0 (min 99 v) + g) = v + g by omega] at hQ'; exact hQ'
        · rw [show min 99 (max 0 (min 99 v) + g) = 99 by omega] at hQ'; exact hQ'
      · rw [wr_of (by omega) (by omega)]
        refine ⟨fun q3 => ?_, fun q3 => ?_⟩
        · rw [show min 99 (max 0 (min 99 v) + g) = 99 + g by omega] at hQ'; exact hQ'
        · rw [show min 99 (max 0 (min 99 v) + g) = 99 by omega] at hQ'; exact hQ'
      · rw [wr_of (by omega) (by omega)]
        refine ⟨fun q3 => ?_, fun q3 => ?_⟩
        · rw [show min 99 (max 0 (min 99 v) + g) = 0 + g by omega] at hQ'; exact hQ'
        · rw [show min 99 (max 0 (min 99 v) + g) = 99 by omega] at hQ'; exact hQ'
theorem swV_le {P : List (Int × Int)} {x y h : Int} : 0 ≤ swV P x y h ∧ swV P x y h ≤ 99 := by unfold swV; omega
def frR (ρ : Nat → Int) (P : List (Int × Int)) (b x y h g : Int) : Int := max 0 (min 99 (swV P x y (h.tmod 24) + g) - pulR ρ b)
theorem pul_le {ρ : Nat → Int} (w : WF ρ) {b : Int} (hb : 0 ≤ b ∧ b < ρ 2) : 0 ≤ pulR ρ b ∧ pulR ρ b ≤ 104 := by
  have hbw := w.b (b := b.toNat) (by omega)
  have hh := hbw.2.2.2.2.2.2.1
  have e : ooR ρ b 6 = ρ (208 + 12 * b.toNat) := by unfold ooR; congr 1; omega
  unfold pulR
  rw [e]
  split <;> omega
theorem m_forceAt {X : mXX} {d : Nat} {Q : Option mV → mS → Prop} {σ α : Nat → Nat → Int} {P : List (Int × Int)} {b x y h g : Int} (w : WF (α 110)) (l : lwM α 6 10 P) (o : lwO 3 P) (hb : 0 ≤ b ∧ b < α 110 2) (hg : -1000 ≤ g ∧ g ≤ 1000) (hQ : ∀ α', Fα [115, 116] α α' → Q (some (vI (frR (α 110) P b x y h g))) (S0, σ, α')) : Ca X (d + 4) 166 [vR 104, vI b, vI x, vI y, vI h, vI g] (S0, σ, α) Q := by
  refine vc166_0 ?_
  refine m_swellAt l o hg ?_
  intro α' hf
  refine vc166_10 ?_
  have e : α' 110 = α 110 := hf 110 (by decide)
  refine m_pull (by rw [e]; exact w) (by rw [e]; exact hb) ?_
  rw [e]
  have := hQ α' hf
  unfold frR at this
  have hp := pul_le w hb
  have hs := swV_le (P := P) (x := x) (y := y) (h := h.tmod 24)
  refine vc166_15 ?_
  rw [wr_of (by omega) (by omega)]
  refine ⟨fun q => ?_, fun q => ?_⟩
  · rw [show max 0 (min 99 (swV P x y (h.tmod 24) + g) - pulR (α 110) b) = min 99 (swV P x y (h.tmod 24) + g) - pulR (α 110) b by omega] at this; exact this
  · rw [show max 0 (min 99 (swV P x y (h.tmod 24) + g) - pulR (α 110) b) = 0 by omega] at this; exact this
theorem xo24 {h : Int} (h0 : 0 ≤ h) (h1 : h ≤ 1000000) : ¬ iXor h 24 < 0 := by
  have e : (Int32.ofInt h).toInt = h := i32_of ⟨by omega, by omega⟩
  have m : (Int32.ofInt h).toBitVec.msb = false := by
    rw [BitVec.msb_eq_toInt]
    exact decide_eq_false (fun z => by
      have z' : (Int32.ofInt h).toInt < 0 := z
      rw [e] at z'; omega)
  have m2 : (Int32.ofInt 24).toBitVec.msb = false := by decide
  have m3 : (Int32.ofInt h ^^^ Int32.ofInt 24).toBitVec.msb = false := by
    rw [Int32.toBitVec_xor, BitVec.msb_xor, m, m2]; rfl
  rw [BitVec.msb_eq_toInt] at m3
  exact of_decide_eq_false m3
theorem an1H {h : Int} (h0 : 0 ≤ h) (h1 : h ≤ 1000000) : iAnd h 1 = h.tmod 2 := by
  have e : (Int32.ofInt h).toInt = h := i32_of ⟨by omega, by omega⟩
  have en : (Int32.ofInt h).toBitVec.toNat = h.toNat := by
    have := BitVec.toInt_eq_toNat_cond (Int32.ofInt h).toBitVec
    have e' : (Int32.ofInt h).toBitVec.toInt = h := e
    rw [e'] at this
    have lt := (Int32.ofInt h).toBitVec.isLt
    split at this <;> omega
  have n1 : (Int32.ofInt h &&& Int32.ofInt 1).toBitVec.toNat = h.toNat % 2 := by
    rw [Int32.toBitVec_and, BitVec.toNat_and, en]
    show h.toNat &&& 1 = _
    exact Nat.and_one_is_mod _
  have i1 : iAnd h 1 = ((h.toNat % 2 : Nat) : Int) := by
    show (Int32.ofInt h &&& Int32.ofInt 1).toBitVec.toInt = _
    rw [BitVec.toInt_eq_toNat_cond, n1, if_pos (by omega)]
  rw [i1, Int.tmod_eq_emod_of_nonneg h0]
  omega
theorem hrW {ρ : Nat → Int} (w : WF ρ) : 0 ≤ ρ 3 ∧ ρ 3 ≤ 1000000 := ⟨w.2.2.2.1.1, Int.le_trans w.2.2.2.1.2 (by decide)⟩
/-- the hour of the day, as Math.floorMod gives it -/
theorem c_floor {X : mXX} {d : Nat} {Q : Option mV → mS → Prop} {σ α : Nat → Nat → Int} {h : Int} (hh : 0 ≤ h ∧ h ≤ 1000000) (hQ : Q (some (vI (h.tmod 24))) (S0, σ, α)) : Ca X (d + 1) 238 [vI h, vI 24] (S0, σ, α) Q := by
  refine vc238_0 ⟨by decide, fun _ => hQ, fun q => absurd q (xo24 hh.1 hh.2)⟩
theorem c_swell {X : mXX} {d : Nat} {Q : Option mV → mS → Prop} {σ α : Nat → Nat → Int} {ρ : Nat → Int} {P W : List (Int × Int)} {x y h : Int} (C : CI σ α ρ P W) (o : lwO 3 P) (hx : 0 ≤ x ∧ x < 8) (hy : 0 ≤ y ∧ y < 8) (hh : 0 ≤ h ∧ h ≤ 1000000) (hQ : ∀ α', Fα [36, 82, 83] α α' → CI σ α' ρ P W → Q (some (vI (swV P x y (h.tmod 24)))) (S0, σ, α')) : Ca X (d + 3) 55 [vR 81, vI x, vI y, vI h] (S0, σ, α) Q := by
  have ht : h.tmod 24 = h % 24 := Int.tmod_eq_emod_of_nonneg hh.1
  have hc : ∃ c : Nat, wr (wr (wr (h.tmod 24 * 64) + wr (y * 8)) + x) = (c : Int) ∧ c < 1536 ∧ ((c % 8 : Nat) : Int) = x ∧ ((c / 8 % 8 : Nat) : Int) = y ∧ ((c / 64 : Nat) : Int) = h.tmod 24 := by
    refine ⟨(h % 24 * 64 + y * 8 + x).toNat, ?_, ?_, ?_, ?_, ?_⟩
    · rw [ht, wr_of (x := h % 24 * 64) (by omega) (by omega), wr_of (x := y * 8) (by omega) (by omega), wr_of (x := h % 24 * 64 + y * 8) (by omega) (by omega), wr_of (by omega) (by omega)]; omega
    · omega
    · omega
    · omega
    · rw [ht]; omega
  obtain ⟨c, e, c1, cx, cy, ch⟩ := hc
  refine vc55_0 ?_
  refine c_floor hh ?_
  refine vc55_6 ?_
  rw [e, Int.toNat_natCast]
  have k := C.2.2.2 c c1
  rw [cx, cy, ch] at k
  refine ⟨mInA_n c1, fun q => ⟨mInA_n c1, ?_⟩, fun q => ?_⟩
  · rcases k with k | k
    · exact absurd k q
    · rw [k]; exact hQ α Fα.rf C
  · refine c_valueS (m := 3) (f := f3 x y (h.tmod 24)) (by decide) (P := P) (by rw [up_o (by decide), up_o (by decide), up_o (by decide)]; exact C.2.1.1) C.2.1.2 o.2 ?_ o.1 ?_
    · intro a ha
      have : a = 0 ∨ a = 1 ∨ a = 2 := by omega
      rcases this with rfl | rfl | rfl
      · rw [up_n (by omega), up_n (by omega), up_s]; rfl
      · rw [up_n (by omega), up_s]; rfl
      · rw [up_s]; rfl
    intro α' hf
    refine vc55_76 ?_
    refine vc102_0 ?_
    refine vc55_79 ⟨mInA_n c1, mInA_n c1, ?_⟩
    rw [Int.toNat_natCast, up_s]
    have hf' : Fα [36, 83] α α' := ((Fα.up (by decide)).tr (Fα.up (by decide))).tr ((Fα.up (by decide)).tr (hf.wk (by decide)))
    have hf2 : Fα [36, 82, 83] α (mUp α' 82 c (max 0 (min 99 (evV (f3 x y (h.tmod 24)) P)))) := (hf'.wk (by decide)).tr (Fα.up (by decide))
    refine hQ _ hf2 (C.fk hf2 ?_)
    intro c' hc'
    rw [up_a]
    by_cases ec : c' = c
    · rw [if_pos ec, ec, cx, cy, ch]; exact Or.inr rfl
    · rw [if_neg ec, hf' 82 (by decide)]; exact C.2.2.2 c' hc'
theorem c_force {X : mXX} {d : Nat} {Q : Option mV → mS → Prop} {σ α : Nat → Nat → Int} {ρ : Nat → Int} {P W : List (Int × Int)} {b x y h g : Int} (C : CI σ α ρ P W) (w : WF ρ) (o : lwO 3 P) (hb : 0 ≤ b ∧ b < ρ 2) (hx : 0 ≤ x ∧ x < 8) (hy : 0 ≤ y ∧ y < 8) (hh : 0 ≤ h ∧ h ≤ 1000000) (hg : -1000 ≤ g ∧ g ≤ 1000) (hQ : ∀ α', Fα [36, 82, 83] α α' → CI σ α' ρ P W → Q (some (vI (frR ρ P b x y h g))) (S0, σ, α')) : Ca X (d + 4) 54 [vR 81, vI b, vI x, vI y, vI h, vI g] (S0, σ, α) Q := by
  obtain ⟨n, rfl⟩ := Int.eq_ofNat_of_zero_le hb.1
  refine vc54_0 ?_
  refine c_swell C o hx hy hh ?_
  intro α' hf C'
  have h7 := w.n
  have hs := swV_le (P := P) (x := x) (y := y) (h := h.tmod 24)
  have hr := C'.1.b hb.2
  have := hQ α' hf C'
  have hbw := w.b hb.2
  have hh2 := hbw.2.2.2.2.2.2.1
  have e6 : ooR ρ (n : Int) 6 = ρ (208 + 12 * n) := by unfold ooR; congr 1; omega
  have e0 : ooR ρ (n : Int) 0 = ρ (202 + 12 * n) := by unfold ooR; congr 1
  unfold frR pulR at this
  rw [e6, e0] at this
  refine vc54_10 ⟨mInA_n (by omega), mInA_n (by omega), ?_⟩
  rw [Int.toNat_natCast, hr.1, hr.2.2.2.2.2.2.1]
  rw [wr_of (x := swV P x y (h.tmod 24) + g) (by omega) (by omega)]
  refine ⟨fun q => ?_, fun q => ?_⟩
  · rw [if_neg q] at this
    rw [wr_of (x := ρ (208 + 12 * n) + 0) (by omega) (by omega), wr_of (by omega) (by omega)]; exact this
  · rw [if_pos q] at this
    rw [wr_of (x := ρ (208 + 12 * n) + 5) (by omega) (by omega), wr_of (by omega) (by omega)]; exact this
