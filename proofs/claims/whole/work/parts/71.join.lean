/-! What a boat more must bring -/
def jnF (F : Nat → Int) (n : Nat) (v : Int) (b : Nat) : Int := if b = n then v else F b
def jlR (ρ F : Nat → Int) (a m : Nat) : Nat → Nat → Int
  | 0, k => (stR F a (a + m - 1) k + (m : Int) - 1).tdiv (m : Int)
  | t + 1, k => if 0 < exR ρ F a m k then -1 else jlR ρ F a m t (k + 1)
def jnR (ρ : Nat → Int) (P : List (Int × Int)) (n : Nat) (x y p : Int) : Int := jlR ρ (jnF (fnR ρ P) n (max 0 (swV P x y ((ρ 3).tmod 24) - p))) (fsN ρ (n - 1)) (n + 1 - fsN ρ (n - 1)) (n - 1 - fsN ρ (n - 1)) (fsN ρ (n - 1))
def joR (ρ : Nat → Int) (P : List (Int × Int)) (n : Nat) (x y p : Int) : Int := if (1 ≤ n ∧ n < 7) ∧ waR ρ x y = 1 ∧ (0 ≤ p ∧ p ≤ 99) then jnR ρ P n x y p else -1
theorem jnF_bd {ρ : Nat → Int} {P : List (Int × Int)} {n : Nat} {v : Int} (w : WF ρ) (hn : ρ 2 = (n : Int)) (hv : 0 ≤ v ∧ v ≤ 99) : ∀ b, b < n + 1 → 0 ≤ jnF (fnR ρ P) n v b ∧ jnF (fnR ρ P) n v b ≤ 99 := fun b hb => by
  unfold jnF
  by_cases h : b = n
  · rw [if_pos h]; exact hv
  · rw [if_neg h]
    have hb2 : (b : Int) < ρ 2 := by rw [hn]; omega
    exact fc_bd w hb2
theorem njn {s : Int} {m : Nat} (h : 0 ≤ s ∧ s ≤ 5000) (h1 : 1 ≤ m) (h2 : m ≤ 7) : wr (Int.tdiv (wr (wr (s + (m : Int)) - 1)) (m : Int)) = Int.tdiv (s + (m : Int) - 1) (m : Int) ∧ ((m : Int) ≠ 0) := by
  rw [wr_of (x := s + (m : Int)) (by omega) (by omega), wr_of (x := s + (m : Int) - 1) (by omega) (by omega)]
  have a : 0 ≤ s + (m : Int) - 1 := by omega
  have b1 := Int.tdiv_nonneg a (show (0 : Int) ≤ (m : Int) by omega)
  have b2 := Int.tdiv_le_self (m : Int) a
  refine ⟨wr_of ?_ ?_, by omega⟩
  · exact Int.le_trans (by decide) b1
  · exact Int.lt_of_le_of_lt b2 (by omega)
theorem c_jl {X : mXX} {d : Nat} {Q : Option mV → mS → Prop} {σ α : Nat → Nat → Int} {ρ F : Nat → Int} {a m n : Nat} (R : Rep σ α ρ) (w : WF ρ) (a7 : a + m ≤ 7) (hm : 2 ≤ m) (em : a + m = n + 1) (hF : ∀ b, a ≤ b → b < a + m → 0 ≤ F b ∧ F b ≤ 99) (bf : bfC α F a m) : ∀ (t k : Nat), k + t = n - 1 → a ≤ k → Q (some (vI (jlR ρ F a m t k))) (S0, σ, α) → Go X (d + 2) 23 2 [some (vR 84), some (vI (a : Int)), some (vI (n : Int)), some (vI (k : Int))] [] (S0, σ, α) (0, 0) Q := by
  have en : (n : Int) = ((a + m - 1 : Nat) : Int) := by omega
  have e1 : wr ((n : Int) - 1) = ((n - 1 : Nat) : Int) := by rw [wr_of (by omega) (by omega)]; omega
  have es : wr (wr ((n : Int) - (a : Int)) + 1) = (m : Int) := by rw [wr_of (x := (n : Int) - (a : Int)) (by omega) (by omega), wr_of (by omega) (by omega)]; omega
  have kk0 : a ≤ n - 1 ∧ n - 1 < a + m := by clear e1 es; omega
  have sb := st_bd (k := n - 1) a7 kk0 hF
  have nj := njn sb (by clear e1 es sb; omega : 1 ≤ m) (by clear e1 es sb; omega : m ≤ 7)
  clear sb
  intro t
  induction t with
  | zero =>
    intro k hk ha h
    have e : k = n - 1 := hk
    have kn : ¬ (k : Int) < ((n - 1 : Nat) : Int) := by clear e1 es nj; omega
    refine vc23_2 ⟨fun _ => ?_, fun q => absurd q (by rw [e1]; exact kn)⟩
    rw [e1, es, en]
    refine c_strain a7 kk0 hF bf ?_
    refine vc23_42 ⟨nj.2, ?_⟩
    rw [nj.1]
    rw [e] at h
    exact h
  | succ t ih =>
    intro k hk ha h
    have kn : (k : Int) < ((n - 1 : Nat) : Int) := by clear e1 es nj; omega
    have kt : k + 1 + t = n - 1 := by clear e1 es nj; omega
    have kk : a ≤ k ∧ k + 1 < a + m := by clear e1 es nj; omega
    have ka : a ≤ k + 1 := by clear e1 es nj; omega
    have ek := wrS (k := k) (by clear e1 es nj; omega)
    refine vc23_2 ⟨fun q => absurd (by rw [e1]; exact kn) q, fun _ => ?_⟩
    rw [en]
    refine c_excess (F := F) R w a7 kk hF bf ?_
    have el : jlR ρ F a m (t + 1) k = if 0 < exR ρ F a m k then -1 else jlR ρ F a m t (k + 1) := rfl
    refine vc23_16 ⟨fun q => ?_, fun q => ?_⟩
    · rw [el, if_neg q] at h
      rw [ek, ← en]
      exact ih (k + 1) kt ka h
    · rw [el, if_pos q] at h
      exact h
theorem nsp {s p : Int} (h1 : 0 ≤ s ∧ s ≤ 99) (h2 : 0 ≤ p ∧ p ≤ 99) : wr (s - p) = s - p ∧ (0 ≤ max 0 (s - p) ∧ max 0 (s - p) ≤ 99) ∧ (-1000000 ≤ max 0 (s - p) ∧ max 0 (s - p) ≤ 1000000) := by
  refine ⟨wr_of (by omega) (by omega), by omega, by omega⟩
theorem c_joinM {X : mXX} {d : Nat} {Q : Option mV → mS → Prop} {σ α : Nat → Nat → Int} {ρ : Nat → Int} {P W : List (Int × Int)} {n : Nat} {x y p : Int} (C : CI σ α ρ P W) (w : WF ρ) (o : lwO 3 P) (hn : ρ 2 = (n : Int)) (hQ : ∀ α', Fα [36, 82, 83, 85] α α' → CI σ α' ρ P W → Q (some (vI (joR ρ P n x y p))) (S0, σ, α')) : Ca X (d + 6) 118 [vR 0, vI x, vI y, vI p] (S0, σ, α) Q := by
  have r2 : σ 23 2 = (n : Int) := C.1.2.2.1.trans hn
  have r3 := C.1.2.2.2.2.2.1
  unfold joR at hQ
  have z0 : ¬ ((1 ≤ n ∧ n < 7) ∧ waR ρ x y = 1 ∧ (0 ≤ p ∧ p ≤ 99)) → Q (some (vI (-1))) (S0, σ, α) := fun h => by
    have := hQ α Fα.rf C
    rw [if_neg h] at this
    exact this
  refine vc118_0 ?_
  rw [r2]
  refine ⟨fun q => z0 (fun z => absurd z.1.1 (by clear z z0; omega)), fun q => ⟨fun q2 => z0 (fun z => absurd z.1.2 (by clear z z0; omega)), fun q2 => ?_⟩⟩
  have n1 : 1 ≤ n ∧ n < 7 := by clear z0; omega
  refine c_open C.1 w ?_
  refine vc118_31 ⟨fun q3 => z0 (fun z => by rw [q3] at z; exact absurd z.2.1 (by decide)), fun q3 => ⟨fun q4 => z0 (fun z => absurd z.2.2.1 (Int.not_le.mpr q4)), fun q4 => ⟨fun q5 => ?_, fun q5 => z0 (fun z => absurd z.2.2.2 (Int.not_le.mpr q5))⟩⟩⟩
  have wa := wa01.resolve_left q3
  have hp : 0 ≤ p ∧ p ≤ 99 := ⟨Int.not_lt.mp q4, Int.not_lt.mp q5⟩
  have hc : (1 ≤ n ∧ n < 7) ∧ waR ρ x y = 1 ∧ (0 ≤ p ∧ p ≤ 99) := ⟨n1, wa, hp⟩
  rw [if_pos hc] at hQ
  clear z0
  obtain ⟨i1, i2, i3, i4, -⟩ := wa_in wa
  have hx : 0 ≤ x ∧ x < 8 := ⟨i1, Int.lt_of_lt_of_le i2 w.1.2⟩
  have hy : 0 ≤ y ∧ y < 8 := ⟨i3, Int.lt_of_lt_of_le i4 w.2.1.2⟩
  have e1 : wr ((n : Int) - 1) = ((n - 1 : Nat) : Int) := by clear hQ hc; rw [wr_of (by omega) (by omega)]; omega
  have f7 : 0 ≤ ((n - 1 : Nat) : Int) ∧ ((n - 1 : Nat) : Int) < 7 := by clear hQ hc e1; omega
  have fl := fsN_le ρ (n - 1)
  unfold jnR at hQ
  rw [e1]
  refine c_first C.1 f7 ?_
  rw [fR_e]
  generalize fsN ρ (n - 1) = a at *
  have m1 : a + (n - a) = n := by clear hQ hc e1; omega
  have m2 : a + (n + 1 - a) = n + 1 := by clear hQ hc e1; omega
  have m3 : a + (n + 1 - a) ≤ 7 := by clear hQ hc e1; omega
  have m4 : 2 ≤ n + 1 - a := by clear hQ hc e1; omega
  have m5 : a + (n - 1 - a) = n - 1 := by clear hQ hc e1; omega
  have m6 : 0 < n - a := by clear hQ hc e1; omega
  have m7 : n - a ≤ 7 := by clear hQ hc e1; omega
  have m8 : ∀ j, j ≤ n + 1 - a → j ≠ n - a + 1 → j ≤ n - a := by clear hQ hc e1; intro j h1 h2; omega
  have m9 : a + (n - a + 1) = n + 1 := by clear hQ hc e1; omega
  have ea : ((n - 1 : Nat) : Int) = ((a + (n - a) - 1 : Nat) : Int) := by rw [m1]
  have hz : ((a + (n - a) : Nat) : Int) ≤ ρ 2 := by rw [m1, hn]; exact Int.le_refl _
  refine vc118_57 ?_
  rw [e1, r3, ea]
  refine c_weigh C w o hz m6 (in0 w hz) (hrW w) (by decide) ?_
  intro β hb Cb bf
  refine vc118_82 ?_
  rw [r3]
  refine c_swell Cb o hx hy (hrW w) ?_
  intro γ hg Cg
  refine vc118_105 ?_
  have ns := nsp (swV_le (P := P) (x := x) (y := y) (h := (ρ 3).tmod 24)) hp
  rw [ns.1]
  have e85 : γ 85 = β 85 := hg 85 (by decide)
  have bn := bf (n - a) (Nat.le_refl _)
  rw [m1] at bn
  have FB1 : ∀ b, a ≤ b → b < a + (n - a) → 0 ≤ fnR ρ P b ∧ fnR ρ P b ≤ 99 := fun b _ h => fc_bd w (by rw [hn]; rw [m1] at h; exact Int.ofNat_lt.mpr h)
  have sb := smF_bd FB1
  generalize hv : max 0 (swV P x y ((ρ 3).tmod 24) - p) = v at *
  have jc : ∀ j, j ≤ n - a → smF (jnF (fnR ρ P) n v) a j = smF (fnR ρ P) a j := fun j hj => smF_cg (fun b b1 b2 => if_neg (fun h => by rw [h] at b2; have b3 : n < a + (n - a) := Nat.lt_of_lt_of_le b2 (Nat.add_le_add_left hj a); rw [m1] at b3; exact Nat.lt_irrefl n b3))
  refine c_load (b := n) n1.2 ?_ ns.2.2 ?_
  · rw [e85, bn]; exact nld sb m7
  refine vc118_113 ?_
  rw [e85, bn]
  refine vc23_0 ?_
  have f85 : Fα [85] γ (mUp γ 85 (n + 1) (smF (fcR ρ P 0 0 (ρ 3) 0) a (n - a) + v)) := Fα.up (by decide)
  have Cz := Cg.fr f85
  refine c_jl (F := jnF (fnR ρ P) n v) Cz.1 w m3 m4 m2 (fun b _ b2 => jnF_bd w hn ns.2.1 b (by rw [m2] at b2; exact b2)) (fun j hj => ?_) (n - 1 - a) a m5 (Nat.le_refl _) ?_
  · rw [up_a]
    by_cases h : j = n - a + 1
    · rw [h, if_pos m9]
      show _ = smF (jnF (fnR ρ P) n v) a (n - a) + jnF (fnR ρ P) n v (a + (n - a))
      rw [m1, show jnF (fnR ρ P) n v n = v from if_pos rfl, jc (n - a) (Nat.le_refl _)]
      rfl
    · have h2 := m8 j hj h
      rw [if_neg (fun q => h (Nat.add_left_cancel (q.trans m9.symm))), e85, bf j h2]
      exact (jc j h2).symm
  · refine vc118_124 ?_
    exact hQ _ ((hb.wk (by decide)).tr ((hg.wk (by decide)).tr (f85.wk (by decide)))) Cz
theorem n693 {x : Int} (h : 0 ≤ x ∧ x ≤ 7 * 99) : wr x = x := wr_of (by omega) (by omega)
theorem m_jl {X : mXX} {d : Nat} {Q : Option mV → mS → Prop} {σ α : Nat → Nat → Int} {F : Nat → Int} {a m n : Nat} {x y p v5 : Int} (w : WF (α 110)) (a7 : a + m ≤ 7) (hm : 2 ≤ m) (em : a + m = n + 1) (hF : ∀ b, a ≤ b → b < a + m → 0 ≤ F b ∧ F b ≤ 99) (hb : ∀ b, a ≤ b → b < a + m → α 118 b = F b) : ∀ (t k : Nat), k + t = n - 1 → a ≤ k → Q (some (vI (jlR (α 110) F a m t k))) (S0, σ, α) → Go X (d + 2) 219 115 [some (vR 104), some (vI x), some (vI y), some (vI p), some (vI (n : Int)), some (vI v5), some (vI (a : Int)), some (vI (m : Int)), some (vI (k : Int))] [] (S0, σ, α) (0, 0) Q := by
  have en : (n : Int) = ((a + m - 1 : Nat) : Int) := by omega
  have e1 : wr ((n : Int) - 1) = ((n - 1 : Nat) : Int) := by rw [wr_of (by omega) (by omega)]; omega
  have kk0 : a ≤ n - 1 ∧ n - 1 < a + m := by clear e1; omega
  have m7 : m ≤ 7 := by clear e1; omega
  have sb := st_bd (k := n - 1) a7 kk0 hF
  have nj := njn sb (by clear e1 sb; omega : 1 ≤ m) m7
  clear sb
  intro t
  induction t with
  | zero =>
    intro k hk ha h
    have e : k = n - 1 := hk
    have kn : ¬ (k : Int) < ((n - 1 : Nat) : Int) := by clear e1 nj; omega
    refine vc219_115 ⟨fun _ => ?_, fun q => absurd q (by rw [e1]; exact kn)⟩
    rw [e1, en]
    refine m_strain (F := F) a7 kk0 hF hb ?_
    refine vc219_166 ⟨nj.2, ?_⟩
    rw [nj.1]
    rw [e] at h
    exact h
  | succ t ih =>
    intro k hk ha h
    have kn : (k : Int) < ((n - 1 : Nat) : Int) := by clear e1 nj; omega
    have kt : k + 1 + t = n - 1 := by clear e1 nj; omega
    have kk : a ≤ k ∧ k < a + m := by clear e1 nj; omega
    have k6 : k < 6 := by clear e1 nj; omega
    have kb : 0 ≤ (k : Int) ∧ (k : Int) < 6 := by clear e1 nj; omega
    have ka : a ≤ k + 1 := by clear e1 nj; omega
    have ek := wrS (k := k) (by clear e1 nj; omega)
    have gb := nsb (w.l k6).2.1 m7
    refine vc219_115 ⟨fun q => absurd (by rw [e1]; exact kn) q, fun _ => ?_⟩
    rw [en]
    refine m_strain (F := F) a7 kk hF hb ?_
    refine vc219_134 ?_
    refine m_strong kb ?_
    unfold sgR
    rw [Int.toNat_natCast]
    refine vc219_142 ?_
    rw [n693 gb, ek, ← en]
    have el : jlR (α 110) F a m (t + 1) k = if 0 < exR (α 110) F a m k then -1 else jlR (α 110) F a m t (k + 1) := rfl
    have ex : 0 < exR (α 110) F a m k ↔ (m : Int) * α 110 (291 + 3 * k) < stR F a (a + m - 1) k := by
      show 0 < stR F a (a + m - 1) k - (m : Int) * α 110 (291 + 3 * k) ↔ _
      exact Int.sub_pos
    refine ⟨fun q => ?_, fun q => ?_⟩
    · rw [el, if_neg (fun z => q (ex.mp z))] at h
      exact ih (k + 1) kt ka h
    · rw [el, if_pos (ex.mpr q)] at h
      exact h
theorem m_join {X : mXX} {d : Nat} {Q : Option mV → mS → Prop} {σ α : Nat → Nat → Int} {P : List (Int × Int)} {n : Nat} {x y p : Int} (w : WF (α 110)) (l : lwM α 6 10 P) (o : lwO 3 P) (hn : α 110 2 = (n : Int)) (hQ : ∀ α', Fα [115, 116, 118] α α' → Q (some (vI (joR (α 110) P n x y p))) (S0, mUp σ 104 0 0, α')) : Ca X (d + 6) 219 [vR 104, vI x, vI y, vI p] (S0, σ, α) Q := by
  unfold joR at hQ
  have z0 : ¬ ((1 ≤ n ∧ n < 7) ∧ waR (α 110) x y = 1 ∧ (0 ≤ p ∧ p ≤ 99)) → Q (some (vI (-1))) (S0, mUp σ 104 0 0, α) := fun h => by
    have := hQ α Fα.rf
    rw [if_neg h] at this
    exact this
  refine vc219_0 ?_
  refine vc159_0 ?_
  rw [hn]
  refine vc219_9 ?_
  refine m_isWater w ?_
  refine vc219_17 ⟨fun q3 => z0 (fun z => by rw [q3] at z; exact absurd z.2.1 (by decide)), fun q3 => ?_⟩
  refine m_within ?_
  by_cases hp : 0 ≤ p ∧ p ≤ 99
  · rw [wi1 hp]
    refine vc219_27 ⟨fun q => absurd q (by decide), fun _ => ⟨fun q => z0 (fun z => absurd z.1.1 (by clear z z0; omega)), fun q => ⟨fun q2 => ?_, fun q2 => z0 (fun z => absurd z.1.2 (by clear z z0; omega))⟩⟩⟩
    have n1 : 1 ≤ n ∧ n < 7 := by have := w.2.2.1.2; clear z0; omega
    have wa := wa01.resolve_left q3
    have hc : (1 ≤ n ∧ n < 7) ∧ waR (α 110) x y = 1 ∧ (0 ≤ p ∧ p ≤ 99) := ⟨n1, wa, hp⟩
    rw [if_pos hc] at hQ
    clear z0
    have e1 : wr ((n : Int) - 1) = ((n - 1 : Nat) : Int) := by clear hQ hc; rw [wr_of (by omega) (by omega)]; omega
    have f7 : 0 ≤ ((n - 1 : Nat) : Int) ∧ ((n - 1 : Nat) : Int) < 7 := by clear hQ hc e1; omega
    have n8 : n < 8 := by clear hQ hc e1; omega
    have fl := fsN_le (α 110) (n - 1)
    unfold jnR at hQ
    refine m_findForces w l o (by decide) (by decide) ?_
    intro β hb eF
    have eb : β 110 = α 110 := hb 110 (by decide)
    refine vc219_57 ?_
    rw [eb]
    refine m_swellAt (P := P) (l.st (by rw [eb]) (hb 111 (by decide)) (hb 112 (by decide))) o (by decide) ?_
    intro γ hg
    rw [sw0]
    have ns := nsp (swV_le (P := P) (x := x) (y := y) (h := (α 110 3).tmod 24)) hp
    refine vc219_70 ?_
    rw [ns.1]
    have hbg := hb.tr (hg.wk (show ∀ q ∈ [115, 116], q ∈ [115, 116, 118] by decide))
    have fin : ∀ v u : Int, v = max 0 (swV P x y ((α 110 3).tmod 24) - p) → Ca X (d + 5) 171 [vR 104, vI (wr ((n : Int) - 1))] (S0, mUp σ 104 0 0, mUp γ 118 n v) (fun r s' => aI r (fun n_1 => Go X (d + 5) 219 100 [some (vR 104), some (vI x), some (vI y), some (vI p), some (vI (n : Int)), some (vI u), none, none, none] [vI n_1] s' (0, 0) Q)) := by
      intro v u hv
      rw [← hv] at hQ ns
      have fz : Fα [115, 116, 118] γ (mUp γ 118 n v) := Fα.up (by decide)
      have ez : mUp γ 118 n v 110 = α 110 := (hbg.tr fz) 110 (by decide)
      rw [e1]
      refine m_first (by rw [ez]; exact w) f7 ?_
      rw [ez, fR_e]
      clear hv
      generalize fsN (α 110) (n - 1) = a at *
      have m2 : a + (n + 1 - a) = n + 1 := by clear hQ hc e1 ns; omega
      have m3 : a + (n + 1 - a) ≤ 7 := by clear hQ hc e1 ns; omega
      have m4 : 2 ≤ n + 1 - a := by clear hQ hc e1 ns; omega
      have m5 : a + (n - 1 - a) = n - 1 := by clear hQ hc e1 ns; omega
      have em : wr (wr ((n : Int) - (a : Int)) + 1) = ((n + 1 - a : Nat) : Int) := by clear hQ hc e1 ns; rw [wr_of (x := (n : Int) - (a : Int)) (by omega) (by omega), wr_of (by omega) (by omega)]; omega
      refine vc219_100 ?_
      rw [em]
      refine m_jl (F := jnF (fnR (α 110) P) n v) (by rw [ez]; exact w) m3 m4 m2 (fun b _ b2 => jnF_bd w hn ns.2.1 b (by rw [m2] at b2; exact b2)) (fun b _ b2 => ?_) (n - 1 - a) a m5 (Nat.le_refl _) ?_
      · rw [up_a]
        unfold jnF
        by_cases h : b = n
        · rw [if_pos h, if_pos h]
        · rw [if_neg h, if_neg h, hg 118 (by decide)]
          refine eF b ?_
          rw [hn]
          rw [m2] at b2
          exact Int.ofNat_lt.mpr (Nat.lt_of_le_of_ne (Nat.le_of_lt_succ b2) h)
      · rw [ez]; exact hQ _ (hbg.tr fz)
    refine ⟨fun q5 => ⟨mInA_n n8, ?_⟩, fun q5 => ⟨mInA_n n8, ?_⟩⟩
    · rw [Int.toNat_natCast]
      exact fin _ _ (Int.max_eq_right (Int.not_lt.mp q5)).symm
    · rw [Int.toNat_natCast]
      exact fin _ _ (Int.max_eq_left (Int.le_of_lt q5)).symm
  · rw [wi0 hp]
    exact vc219_27 ⟨fun _ => z0 (fun z => hp z.2.2), fun q => absurd rfl q⟩
