theorem sgn3 {u v : Int} : sgn u v = 0 ∨ sgn u v = 1 ∨ sgn u v = -1 := by
  unfold sgn
  split
  · exact Or.inr (Or.inl rfl)
  · split
    · exact Or.inr (Or.inr rfl)
    · exact Or.inl rfl
theorem sgn0 {u v : Int} : sgn u v = 0 ↔ u = v := by
  unfold sgn
  by_cases h : u < v
  · rw [if_pos h]; omega
  · rw [if_neg h]
    by_cases g : v < u
    · rw [if_pos g]; omega
    · rw [if_neg g]; omega
theorem px {x d g : Int} {i : Nat} (hi : i < 16) (h1 : 0 ≤ x ∧ x < 8) (h2 : 0 ≤ x + d ∧ x + d < 8) (hg : g = 0 ∨ g = 1 ∨ g = -1) : wr (wr (x + d) + wr (g * (i : Int))) = x + (i : Int) * g + d := by
  rw [Int.mul_comm g]
  rcases hg with h | h | h <;> subst h
  · rw [Int.mul_zero, wr_of (x := 0) (by omega) (by omega), wr_of (x := x + d) (by omega) (by omega), wr_of (by omega) (by omega)]; omega
  · rw [Int.mul_one, wr_of (x := (i : Int)) (by omega) (by omega), wr_of (x := x + d) (by omega) (by omega), wr_of (by omega) (by omega)]; omega
  · rw [wr_of (x := (i : Int) * -1) (by omega) (by omega), wr_of (x := x + d) (by omega) (by omega), wr_of (by omega) (by omega)]; omega
theorem nsw {G0 G1 T1 T2 N : Int} (hN : N ≤ 7) (g0 : 0 ≤ G0 ∧ G0 ≤ 99 * N) (g1 : 0 ≤ G1 ∧ G1 ≤ 99 * N) (g2 : 0 ≤ G1 + T1 ∧ G1 + T1 ≤ 99 * N) (g3 : 0 ≤ G1 + T1 + T2 ∧ G1 + T1 + T2 ≤ 99 * N) : wr (wr (G1 - G0 + T1) + T2) = G1 + T1 + T2 - G0 := by
  rw [wr_of (x := G1 - G0 + T1) (by omega) (by omega), wr_of (by omega) (by omega)]; omega
theorem nsx {G1 T N : Int} (hN : N ≤ 7) (g2 : 0 ≤ G1 + T ∧ G1 + T ≤ 99 * N) : wr (G1 + T) = G1 + T := wr_of (by omega) (by omega)
theorem nsy {G1 G2 N : Int} (hN : N ≤ 7) (g2 : 0 ≤ G2 ∧ G2 ≤ 99 * N) : wr (G1 + (G2 - G1)) = G2 := by rw [show G1 + (G2 - G1) = G2 by omega]; exact wr_of (by omega) (by omega)
theorem nsd {x z : Int} (h1 : 0 ≤ x ∧ x < 8) (h2 : 0 ≤ z ∧ z < 8) : wr (z - x) = z - x := wr_of (by omega) (by omega)
theorem c_sw1 {X : mXX} {d : Nat} {Q : Option mV → mS → Prop} {σ α : Nat → Nat → Int} {ρ : Nat → Int} {s : FS} {a n k N : Nat} {dx dy A : Int} (R : Rep σ α ρ) (w : WF ρ) (B : FB ρ s) (h1 : a ≤ k) (h2 : k + 1 < a + n) (hz : ((a + n : Nat) : Int) ≤ ρ 2) (l : lnB ρ dx dy k) (hA : A < 16) (hin : ∀ i : Nat, (i : Int) ≤ A → (0 ≤ swx ρ dx k i ∧ swx ρ dx k i < 8) ∧ 0 ≤ swy ρ dy k i ∧ swy ρ dy k i < 8) (hN : A.toNat - 1 = N) (hQ : ∀ α', Fα [87, 88] α α' → CF α' ρ (sw1 ρ dx dy k s N) a n → Q (some (vI (gtR ρ (sw1 ρ dx dy k s N) a n - gtR ρ s a n))) (S0, σ, α')) : ∀ (m i : Nat) (γ : Nat → Nat → Int) (x9 x10 : Option mV), i + m = N → Fα [87, 88] α γ → CF γ ρ (sw1 ρ dx dy k s i) a n → Go X (d + 1) 48 80 [some (vR 86), some (vI (k : Int)), some (vI dx), some (vI dy), some (vI (sgn (ρ (203 + 12 * k)) (ρ (203 + 12 * (k + 1))))), some (vI (sgn (ρ (204 + 12 * k)) (ρ (204 + 12 * (k + 1))))), some (vI (gtR ρ (sw1 ρ dx dy k s i) a n - gtR ρ s a n)), some (vI A), some (vI ((i + 1 : Nat) : Int)), x9, x10] [] (S0, σ, γ) (0, 0) Q := by
  have hk1 : ((k + 1 : Nat) : Int) < ρ 2 := by omega
  have hk0 : (k : Int) < ρ 2 := by omega
  have k7 := w.m7 hk1
  intro m
  induction m with
  | zero =>
    intro i γ x9 x10 hi hf F
    have e : i = N := hi
    subst e
    exact vc48_80 ⟨fun _ => hQ γ hf F, fun q => absurd q (by omega)⟩
  | succ m ih =>
    intro i γ x9 x10 hi hf F
    have ilt : ((i + 1 : Nat) : Int) < A := by omega
    have i16 : i + 1 < 16 := by omega
    have jlt : ∀ j : Nat, j ≤ i → (j : Int) ≤ A := fun j hj => by omega
    have km : k < a + n := by omega
    have ka : a ≤ k + 1 := by omega
    have k77 : k < 7 := by omega
    have n7 : (n : Int) ≤ 7 := by have := w.2.2.1.2; omega
    have him : i + 1 + m = N := by omega
    have ek := wrS (k := k) (by omega)
    have ei := wrS (k := i + 1) (by omega)
    have r := (R.fr hf).b hk0
    have hb := w.b hk0
    have inn := hin (i + 1) (Int.le_of_lt ilt)
    have Bi : FB ρ (sw1 ρ dx dy k s i) := B.w1 hk1 (fun j hj => hin j (jlt j hj))
    have c6 := cl64 inn.1 inn.2
    have Bi2 := Bi.tk (b := k) c6 hk0 (show (0 : Int) ≤ 2 by decide)
    have ex : wr (wr (γ 42 k + dx) + wr (sgn (ρ (203 + 12 * k)) (ρ (203 + 12 * (k + 1))) * ((i + 1 : Nat) : Int))) = swx ρ dx k (i + 1) := by
      rw [r.2.1]; exact px i16 (hb.x w) l.1.1 sgn3
    have ey : wr (wr (γ 43 k + dy) + wr (sgn (ρ (204 + 12 * k)) (ρ (204 + 12 * (k + 1))) * ((i + 1 : Nat) : Int))) = swy ρ dy k (i + 1) := by
      rw [r.2.2.1]; exact px i16 (hb.y w) l.1.2 sgn3
    have g0 := gt_bd w B hz
    have g1 := gt_bd w Bi hz
    have g2 := gt_bd w Bi2 hz
    have g3 := gt_bd w (Bi2.tk (b := k + 1) c6 hk1 (show (0 : Int) ≤ 2 by decide)) hz
    have t1 := gt_tk (ρ := ρ) (s := sw1 ρ dx dy k s i) (b := k) (c := clN (swx ρ dx k (i + 1)) (swy ρ dy k (i + 1))) (t := 2) (a := a) (n := n) h1 km
    have t2 := gt_tk (ρ := ρ) (s := tk1 ρ (sw1 ρ dx dy k s i) k (clN (swx ρ dx k (i + 1)) (swy ρ dy k (i + 1))) 2) (b := k + 1) (c := clN (swx ρ dx k (i + 1)) (swy ρ dy k (i + 1))) (t := 2) (a := a) (n := n) ka h2
    refine vc48_80 ⟨fun q => absurd ilt q, fun _ => ⟨mInA_n k77, mInA_n k77, ?_⟩⟩
    rw [Int.toNat_natCast, ex, ey]
    refine c_lift w F Bi h1 km hk0 inn.1 inn.2 (by decide) ?_
    intro δ hd F2
    refine vc48_137 ?_
    rw [ek]
    refine c_lift w F2 Bi2 ka h2 hk1 inn.1 inn.2 (by decide) ?_
    intro ε he F3
    refine vc48_154 ?_
    rw [ei]
    have i1 := ih (i + 1) ε (some (vI (swx ρ dx k (i + 1)))) (some (vI (swy ρ dy k (i + 1)))) him ((hf.tr hd).tr he) F3
    have es : sw1 ρ dx dy k s (i + 1) = tk1 ρ (tk1 ρ (sw1 ρ dx dy k s i) k (clN (swx ρ dx k (i + 1)) (swy ρ dy k (i + 1))) 2) (k + 1) (clN (swx ρ dx k (i + 1)) (swy ρ dy k (i + 1))) 2 := rfl
    rw [es, t2, t1] at i1
    rw [t2] at g3
    rw [t1] at g2 g3
    rw [nsw n7 g0 g1 g2 g3]
    exact i1
theorem c_sweep {X : mXX} {d : Nat} {Q : Option mV → mS → Prop} {σ α : Nat → Nat → Int} {ρ : Nat → Int} {s : FS} {a n k : Nat} {dx dy : Int} (R : Rep σ α ρ) (w : WF ρ) (B : FB ρ s) (F : CF α ρ s a n) (h1 : a ≤ k) (h2 : k + 1 < a + n) (hz : ((a + n : Nat) : Int) ≤ ρ 2) (l : lnB ρ dx dy k) (hQ : ∀ α', Fα [87, 88] α α' → CF α' ρ (swF ρ dx dy k s) a n → Q (some (vI (gtR ρ (swF ρ dx dy k s) a n - gtR ρ s a n))) (S0, σ, α')) : Ca X (d + 2) 48 [vR 86, vI (k : Int), vI dx, vI dy] (S0, σ, α) Q := by
  have hk1 : ((k + 1 : Nat) : Int) < ρ 2 := by omega
  have hk0 : (k : Int) < ρ 2 := by omega
  have k7 := w.m7 hk1
  have k77 : k < 7 := by omega
  have ek := wrS (k := k) (by omega)
  have ab := ap_bd w hk1
  have r1 := R.b hk0
  have r2 := R.b hk1
  have b1 := w.b hk0
  have b2 := w.b hk1
  have x1 := b1.x w
  have x2 := b2.x w
  have y1 := b1.y w
  have y2 := b2.y w
  refine vc48_0 ?_
  rw [ek]
  refine ⟨mInA_n k7, mInA_n k77, ?_⟩
  rw [Int.toNat_natCast, Int.toNat_natCast, r1.2.1, r2.2.1]
  refine c_sign (u := ρ (203 + 12 * k)) (v := ρ (203 + 12 * (k + 1))) (nsd x1 x2) ?_
  refine vc48_24 ?_
  rw [ek]
  refine ⟨mInA_n k7, mInA_n k77, ?_⟩
  rw [Int.toNat_natCast, Int.toNat_natCast, r1.2.2.1, r2.2.2.1]
  refine c_sign (u := ρ (204 + 12 * k)) (v := ρ (204 + 12 * (k + 1))) (nsd y1 y2) ?_
  have loop : ¬ (ρ (203 + 12 * k) ≠ ρ (203 + 12 * (k + 1)) ∧ ρ (204 + 12 * k) ≠ ρ (204 + 12 * (k + 1))) → Go X (d + 1) 48 75 [some (vR 86), some (vI (k : Int)), some (vI dx), some (vI dy), some (vI (sgn (ρ (203 + 12 * k)) (ρ (203 + 12 * (k + 1))))), some (vI (sgn (ρ (204 + 12 * k)) (ρ (204 + 12 * (k + 1))))), some (vI 0), none, none, none, none] [vI (apN ρ k)] (S0, σ, α) (0, 0) Q := by
    intro hne
    refine vc48_75 ?_
    have e : swF ρ dx dy k s = sw1 ρ dx dy k s ((apN ρ k).toNat - 1) := if_neg hne
    rw [e] at hQ
    have i1 := c_sw1 (X := X) (d := d) (Q := Q) (σ := σ) (α := α) R w B h1 h2 hz l ab.2 (fun i hi => l.in hne hi) rfl hQ ((apN ρ k).toNat - 1) 0 α none none (Nat.zero_add _) Fα.rf F
    rw [show gtR ρ (sw1 ρ dx dy k s 0) a n - gtR ρ s a n = 0 from Int.sub_self _] at i1
    exact i1
  refine vc48_50 ⟨fun q => ?_, fun q => ⟨fun q2 => ?_, fun q2 => ?_⟩⟩
  · exact c_apart R w hk1 (loop (fun z => z.1 (sgn0.mp q)))
  · exact c_apart R w hk1 (loop (fun z => z.2 (sgn0.mp q2)))
  · have e : swF ρ dx dy k s = s := if_pos ⟨fun z => q (sgn0.mpr z), fun z => q2 (sgn0.mpr z)⟩
    have := hQ α Fα.rf (by rw [e]; exact F)
    rw [e, Int.sub_self] at this
    exact this
