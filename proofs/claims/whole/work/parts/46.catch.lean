/-! The reference's nets -/
def MF (α : Nat → Nat → Int) (ρ : Nat → Int) (s : FS) : Prop := (∀ c, c < 64 → α 120 c = s.1 c) ∧ ∀ b : Nat, (b : Int) < ρ 2 → α 121 b = s.2 b
theorem nlk {H h T g : Int} (h1 : 0 ≤ T) (h2 : T ≤ H - h) (h3 : H ≤ 99) (h4 : g ≤ h) (h5 : 0 ≤ g) : wr (h + T) = h + T := wr_of (by omega) (by omega)
theorem nlr {H h g : Int} (h2 : h ≤ H) (h3 : H ≤ 99) (h4 : g ≤ h) (h5 : 0 ≤ g) : wr (H - h) = H - h := wr_of (by omega) (by omega)
theorem m_takes {X : mXX} {d : Nat} {Q : Option mV → mS → Prop} {σ α : Nat → Nat → Int} {s : FS} {b : Nat} {x y t : Int} (w : WF (α 110)) (F : MF α (α 110) s) (B : FB (α 110) s) (hb : (b : Int) < α 110 2) (hx : 0 ≤ x ∧ x < 8) (hy : 0 ≤ y ∧ y < 8) (ht : 0 ≤ t ∧ t < 100) (hQ : ∀ α', Fα [120, 121] α α' → MF α' (α 110) (tk1 (α 110) s b (clN x y) t) → Q none (S0, σ, α')) : Ca X (d + 3) 193 [vR 104, vI (b : Int), vI x, vI y, vI t] (S0, σ, α) Q := by
  have c6 := cl64 hx hy
  have b7 := w.m7 hb
  have hn := B.n c6 hb ht.1
  have e1 := F.1 _ c6
  have e2 := F.2 b hb
  have c1 := (B.1 _ c6)
  have c2 := (w.c c6).2.2.2
  have c3 := B.2 b hb
  have c4 := FB.h99 w hb
  have c5 := (w.b hb).2.2.2.2.2.2.2.2.1.1
  have fin : ∀ v : Int, v = tkN (α 110) s b (clN x y) t → Q none (S0, σ, mUp (mUp α 120 (clN x y) (wr (s.1 (clN x y) - v))) 121 b (wr (s.2 b + v))) := by
    intro v hv
    subst hv
    rw [nlf hn.1 hn.2.1 c1.2 c2, nlk hn.1 hn.2.2.1 c4.2 c3.1 c5]
    refine hQ _ ((Fα.up (by decide)).tr (Fα.up (by decide))) ⟨fun c hc => ?_, fun i hi => ?_⟩
    · rw [up_o (by decide), up_a]
      show _ = if c = clN x y then s.1 (clN x y) - tkN (α 110) s b (clN x y) t else s.1 c
      by_cases h : c = clN x y
      · rw [if_pos h, if_pos h]
      · rw [if_neg h, if_neg h]; exact F.1 c hc
    · rw [up_a]
      show _ = if i = b then s.2 b + tkN (α 110) s b (clN x y) t else s.2 i
      by_cases h : i = b
      · rw [if_pos h, if_pos h]
      · rw [if_neg h, if_neg h, up_o (by decide)]; exact F.2 i hi
  refine vc193_0 ?_
  refine m_holds w ⟨Int.natCast_nonneg b, hb⟩ ?_
  rw [ho_N]
  refine vc193_5 ⟨mInA_n b7, ?_⟩
  rw [ixD hx hy]
  refine ⟨mInA_n c6, ?_⟩
  rw [Int.toNat_natCast, Int.toNat_natCast, e1, e2, nlr c3.2 c4.2 c3.1 c5]
  have j6 : mInA ((clN x y : Nat) : Int) 64 := mInA_n c6
  have j7 : mInA ((b : Nat) : Int) 7 := mInA_n b7
  have r0 : 0 ≤ hoN (α 110) b - s.2 b := Int.sub_nonneg_of_le c3.2
  have f0 : 0 ≤ s.1 (clN x y) := c1.1
  unfold tkN at fin
  clear hn e1 e2 c1 c2 c3 c4 c5 F B w hQ
  generalize s.1 (clN x y) = f at *
  generalize hoN (α 110) b - s.2 b = r at *
  refine ⟨fun q => ⟨fun q2 => ⟨fun q3 => ⟨j6, j6, j7, j7, fin _ ?_⟩, fun q3 => ⟨j6, j6, j7, j7, fin _ ?_⟩⟩, fun q2 => ⟨fun q3 => ⟨j6, j6, j7, j7, fin _ ?_⟩, fun q3 => ⟨j6, j6, j7, j7, fin _ ?_⟩⟩⟩, fun q => ⟨fun q2 => ⟨fun q3 => ⟨j6, j6, j7, j7, fin _ ?_⟩, fun q3 => ⟨j6, j6, j7, j7, fin _ ?_⟩⟩, fun q2 => ⟨fun q3 => ⟨j6, j6, j7, j7, fin _ ?_⟩, fun q3 => ⟨j6, j6, j7, j7, fin _ ?_⟩⟩⟩⟩ <;> omega
theorem pm {x d g : Int} {i : Nat} (hi : i < 16) (h1 : 0 ≤ x ∧ x < 8) (h2 : 0 ≤ x + d ∧ x + d < 8) (hg : g = 0 ∨ g = 1 ∨ g = -1) : wr (wr (x + wr ((i : Int) * g)) + d) = x + (i : Int) * g + d := by
  rcases hg with h | h | h <;> subst h
  · rw [Int.mul_zero, wr_of (x := 0) (by omega) (by omega), wr_of (x := x + 0) (by omega) (by omega), wr_of (by omega) (by omega)]
  · rw [Int.mul_one, wr_of (x := (i : Int)) (by omega) (by omega), wr_of (x := x + (i : Int)) (by omega) (by omega), wr_of (by omega) (by omega)]
  · rw [wr_of (x := (i : Int) * -1) (by omega) (by omega), wr_of (x := x + (i : Int) * -1) (by omega) (by omega), wr_of (by omega) (by omega)]
theorem n1k {x z : Int} (h1 : 0 ≤ x ∧ x < 8) (h2 : 0 ≤ z ∧ z < 8) : ((-1000 ≤ x ∧ x ≤ 1000) ∧ -1000 ≤ z ∧ z ≤ 1000) := by omega
theorem m_sw1 {X : mXX} {d : Nat} {Q : Option mV → mS → Prop} {σ α : Nat → Nat → Int} {ρ : Nat → Int} {s : FS} {k N : Nat} {dx dy A : Int} (er : α 110 = ρ) (w : WF ρ) (B : FB ρ s) (hk1 : ((k + 1 : Nat) : Int) < ρ 2) (l : lnB ρ dx dy k) (eA : apN ρ k = A) (hA : A < 16) (hin : ∀ i : Nat, (i : Int) ≤ A → (0 ≤ swx ρ dx k i ∧ swx ρ dx k i < 8) ∧ 0 ≤ swy ρ dy k i ∧ swy ρ dy k i < 8) (hN : A.toNat - 1 = N) (hQ : ∀ α', Fα [120, 121] α α' → MF α' ρ (sw1 ρ dx dy k s N) → Q none (S0, σ, α')) : ∀ (m i : Nat) (γ : Nat → Nat → Int), i + m = N → Fα [120, 121] α γ → MF γ ρ (sw1 ρ dx dy k s i) → Go X (d + 3) 194 104 [some (vR 104), some (vI (k : Int)), some (vI dx), some (vI dy), some (vI (ρ (203 + 12 * k))), some (vI (ρ (204 + 12 * k))), some (vI (ρ (203 + 12 * (k + 1)))), some (vI (ρ (204 + 12 * (k + 1)))), some (vI (sgn (ρ (203 + 12 * k)) (ρ (203 + 12 * (k + 1))))), some (vI (sgn (ρ (204 + 12 * k)) (ρ (204 + 12 * (k + 1))))), some (vI ((i + 1 : Nat) : Int))] [] (S0, σ, γ) (0, 0) Q := by
  have hk0 : (k : Int) < ρ 2 := k_lt hk1
  have k7 := w.m7 hk1
  have b1 := w.b hk0
  have b2 := w.b hk1
  have x1 := b1.x w
  have x2 := b2.x w
  have y1 := b1.y w
  have y2 := b2.y w
  have d1 := dst_bd x1 x2
  have d2 := dst_bd y1 y2
  have ea : wr (dst (ρ (203 + 12 * k)) (ρ (203 + 12 * (k + 1))) + dst (ρ (204 + 12 * k)) (ρ (204 + 12 * (k + 1)))) = A := (nad d1 d2).trans eA
  have s1 := n1k x1 x2
  have s2 := n1k y1 y2
  clear b1 b2 d1 d2 x2 y2 eA
  intro m
  induction m with
  | zero =>
    intro i γ hi hf F
    have e : i = N := hi
    subst e
    have i9 : ¬ ((i + 1 : Nat) : Int) < A := by clear s1 s2 x1 y1 ea; omega
    refine vc194_104 ?_
    refine m_steps s1 ?_
    refine vc194_113 ?_
    refine m_steps s2 ?_
    refine vc194_120 ?_
    rw [ea]
    exact ⟨fun _ => hQ γ hf F, fun q => absurd q i9⟩
  | succ m ih =>
    intro i γ hi hf F
    have ilt : ((i + 1 : Nat) : Int) < A := by clear s1 s2 x1 y1 ea; omega
    have i16 : i + 1 < 16 := by clear s1 s2 x1 y1 ea; omega
    have him : i + 1 + m = N := by clear s1 s2 x1 y1 ea; omega
    have jlt : ∀ j : Nat, j ≤ i → (j : Int) ≤ A := by clear s1 s2 x1 y1 ea; intro j hj; omega
    have ek := wrS (k := k) (by clear s1 s2 x1 y1 ea; omega)
    have ei := wrS (k := i + 1) (by clear s1 s2 x1 y1 ea; omega)
    have eg : γ 110 = ρ := (hf 110 (by decide)).trans er
    have inn := hin (i + 1) (Int.le_of_lt ilt)
    have Bi : FB ρ (sw1 ρ dx dy k s i) := B.w1 hk1 (fun j hj => hin j (jlt j hj))
    have c6 := cl64 inn.1 inn.2
    have Bi2 := Bi.tk (b := k) c6 hk0 (show (0 : Int) ≤ 2 by decide)
    have ex : wr (wr (ρ (203 + 12 * k) + wr (((i + 1 : Nat) : Int) * sgn (ρ (203 + 12 * k)) (ρ (203 + 12 * (k + 1))))) + dx) = swx ρ dx k (i + 1) := pm i16 x1 l.1.1 sgn3
    have ey : wr (wr (ρ (204 + 12 * k) + wr (((i + 1 : Nat) : Int) * sgn (ρ (204 + 12 * k)) (ρ (204 + 12 * (k + 1))))) + dy) = swy ρ dy k (i + 1) := pm i16 y1 l.1.2 sgn3
    refine vc194_104 ?_
    refine m_steps s1 ?_
    refine vc194_113 ?_
    refine m_steps s2 ?_
    refine vc194_120 ?_
    rw [ea]
    refine ⟨fun q => absurd ilt q, fun _ => ?_⟩
    rw [ex, ey]
    refine m_takes (by rw [eg]; exact w) (by rw [eg]; exact F) (by rw [eg]; exact Bi) (by rw [eg]; exact hk0) inn.1 inn.2 (by decide) ?_
    intro δ hd F2
    rw [eg] at F2
    have ed : δ 110 = ρ := (hd 110 (by decide)).trans eg
    refine vc194_150 ?_
    rw [ex, ey, ek]
    refine m_takes (by rw [ed]; exact w) (by rw [ed]; exact F2) (by rw [ed]; exact Bi2) (by rw [ed]; exact hk1) inn.1 inn.2 (by decide) ?_
    intro ε he F3
    rw [ed] at F3
    refine vc194_178 ?_
    rw [ei]
    exact ih (i + 1) ε him ((hf.tr hd).tr he) F3
theorem m_sweeps {X : mXX} {d : Nat} {Q : Option mV → mS → Prop} {σ α : Nat → Nat → Int} {s : FS} {k : Nat} {dx dy : Int} (w : WF (α 110)) (B : FB (α 110) s) (F : MF α (α 110) s) (hk1 : ((k + 1 : Nat) : Int) < α 110 2) (l : lnB (α 110) dx dy k) (hQ : ∀ α', Fα [120, 121] α α' → MF α' (α 110) (swF (α 110) dx dy k s) → Q none (S0, σ, α')) : Ca X (d + 4) 194 [vR 104, vI (k : Int), vI dx, vI dy] (S0, σ, α) Q := by
  have hk0 : (k : Int) < α 110 2 := by omega
  have k7 := w.m7 hk1
  have ek := wrS (k := k) (by omega)
  have j0 : 0 ≤ (k : Int) ∧ (k : Int) < 7 := by omega
  have j1 : 0 ≤ ((k + 1 : Nat) : Int) ∧ ((k + 1 : Nat) : Int) < 7 := by omega
  refine vc194_0 ?_
  refine m_of j0 ?_
  rw [oo1]
  refine vc194_6 ?_
  refine m_of j0 ?_
  rw [oo2]
  refine vc194_14 ?_
  rw [ek]
  refine m_of j1 ?_
  rw [oo1]
  refine vc194_24 ?_
  rw [ek]
  refine m_of j1 ?_
  rw [oo2]
  have loop : ∀ u v : Int, u = sgn (α 110 (203 + 12 * k)) (α 110 (203 + 12 * (k + 1))) → v = sgn (α 110 (204 + 12 * k)) (α 110 (204 + 12 * (k + 1))) → ¬ (α 110 (203 + 12 * k) ≠ α 110 (203 + 12 * (k + 1)) ∧ α 110 (204 + 12 * k) ≠ α 110 (204 + 12 * (k + 1))) → Go X (d + 3) 194 104 [some (vR 104), some (vI (k : Int)), some (vI dx), some (vI dy), some (vI (α 110 (203 + 12 * k))), some (vI (α 110 (204 + 12 * k))), some (vI (α 110 (203 + 12 * (k + 1)))), some (vI (α 110 (204 + 12 * (k + 1)))), some (vI u), some (vI v), some (vI 1)] [] (S0, σ, α) (0, 0) Q := by
    intro u v hu hv hne
    have e : swF (α 110) dx dy k s = sw1 (α 110) dx dy k s ((apN (α 110) k).toNat - 1) := if_neg hne
    rw [e] at hQ
    rw [hu, hv]
    exact m_sw1 (α := α) rfl w B hk1 l rfl (ap_bd w hk1).2 (fun i hi => l.in hne hi) rfl hQ ((apN (α 110) k).toNat - 1) 0 α (Nat.zero_add _) Fα.rf F
  have stay : α 110 (203 + 12 * k) ≠ α 110 (203 + 12 * (k + 1)) ∧ α 110 (204 + 12 * k) ≠ α 110 (204 + 12 * (k + 1)) → Q none (S0, σ, α) := by
    intro h
    have e : swF (α 110) dx dy k s = s := if_pos h
    exact hQ α Fα.rf (by rw [e]; exact F)
  unfold sgn at loop
  clear hQ F B l
  generalize α 110 (203 + 12 * k) = x at *
  generalize α 110 (203 + 12 * (k + 1)) = x' at *
  generalize α 110 (204 + 12 * k) = y at *
  generalize α 110 (204 + 12 * (k + 1)) = y' at *
  refine vc194_34 ⟨fun q => ?_, fun q => ⟨fun q2 => ?_, fun q2 => stay ⟨q, q2⟩⟩⟩
  · refine ⟨fun p1 => ⟨fun p2 => ⟨fun p3 => ⟨fun p4 => ?_, fun p4 => ?_⟩, fun p3 => ?_⟩, fun p2 => ?_⟩, fun p1 => ?_⟩
    · exact loop _ _ (by rw [if_neg p1, if_neg p2]) (by rw [if_neg p3, if_neg p4]) (fun z => z.1 q)
    · exact loop _ _ (by rw [if_neg p1, if_neg p2]) (by rw [if_neg p3, if_pos p4]) (fun z => z.1 q)
    · exact loop _ _ (by rw [if_neg p1, if_neg p2]) (by rw [if_pos p3]) (fun z => z.1 q)
    · exact absurd p2 (by omega)
    · exact absurd p1 (by omega)
  · refine ⟨fun p1 => ⟨fun p2 => ⟨fun p3 => ⟨fun p4 => ?_, fun p4 => ?_⟩, fun p3 => ?_⟩, fun p2 => ⟨fun p3 => ⟨fun p4 => ?_, fun p4 => ?_⟩, fun p3 => ?_⟩⟩, fun p1 => ⟨fun p3 => ⟨fun p4 => ?_, fun p4 => ?_⟩, fun p3 => ?_⟩⟩
    · exact absurd q (by omega)
    · exact absurd p4 (by omega)
    · exact absurd p3 (by omega)
    · exact loop _ _ (by rw [if_neg p1, if_pos p2]) (by rw [if_neg p3, if_neg p4]) (fun z => z.2 q2)
    · exact absurd p4 (by omega)
    · exact absurd p3 (by omega)
    · exact loop _ _ (by rw [if_pos p1]) (by rw [if_neg p3, if_neg p4]) (fun z => z.2 q2)
    · exact absurd p4 (by omega)
    · exact absurd p3 (by omega)
