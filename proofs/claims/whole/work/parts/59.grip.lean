/-! Gripping -/
theorem nou {x dx : Int} (h1 : 0 ≤ x ∧ x < 8) (h2 : -2147483648 ≤ dx ∧ dx < 2147483648) (h3 : ¬ (-8 ≤ dx ∧ dx ≤ 8)) : wr (x + dx) < 0 ∨ 8 ≤ wr (x + dx) := by unfold wr; omega
theorem wa_out {ρ : Nat → Int} {x y : Int} (w : WF ρ) (h : x < 0 ∨ 8 ≤ x) : waR ρ x y = 0 := by
  have w0 := w.1.2
  refine if_neg (fun z => ?_)
  have z1 := z.1
  have z2 := z.2.1
  clear z
  omega
theorem wa_outy {ρ : Nat → Int} {x y : Int} (w : WF ρ) (h : y < 0 ∨ 8 ≤ y) : waR ρ x y = 0 := by
  have w0 := w.2.1.2
  refine if_neg (fun z => ?_)
  have z1 := z.2.2.1
  have z2 := z.2.2.2.1
  clear z
  omega
def cbR (ρ : Nat → Int) (a n : Nat) (dx dy : Int) : Int := if (-8 ≤ dx ∧ dx ≤ 8) ∧ (-8 ≤ dy ∧ dy ≤ 8) then ftN ρ a dx dy n else 0
theorem cb01 {ρ : Nat → Int} {a n : Nat} {dx dy : Int} : cbR ρ a n dx dy = 0 ∨ cbR ρ a n dx dy = 1 := by
  unfold cbR
  split
  · exact ft01
  · exact Or.inl rfl
theorem c_fitsR {X : mXX} {d : Nat} {Q : Option mV → mS → Prop} {σ α : Nat → Nat → Int} {ρ : Nat → Int} {a n : Nat} {dx dy : Int} (R : Rep σ α ρ) (w : WF ρ) (hz : ((a + n : Nat) : Int) ≤ ρ 2) (hn : 0 < n) (hx : -2147483648 ≤ dx ∧ dx < 2147483648) (hy : -2147483648 ≤ dy ∧ dy < 2147483648) (hQ : Q (some (vI (cbR ρ a n dx dy))) (S0, σ, α)) : Ca X (d + 3) 19 [vR 84, vI (a : Int), vI ((a + n - 1 : Nat) : Int), vI dx, vI dy] (S0, σ, α) Q := by
  unfold cbR at hQ
  by_cases h : (-8 ≤ dx ∧ dx ≤ 8) ∧ (-8 ≤ dy ∧ dy ≤ 8)
  · rw [if_pos h] at hQ
    refine c_fits R w hz hn ?_ hQ
    clear hz; omega
  · rw [if_neg h] at hQ
    have ha : (a : Int) < ρ 2 := by clear hx hy h; omega
    have a7 := w.m7 ha
    have hle : ¬ ((a + n - 1 : Nat) : Int) < (a : Int) := by clear hx hy h hz ha; omega
    have hb := w.b ha
    have r := R.b ha
    refine vc19_0 ?_
    refine vc19_3 ⟨fun q => absurd q hle, fun _ => ⟨mInA_n a7, mInA_n a7, ?_⟩⟩
    rw [Int.toNat_natCast, r.2.1, r.2.2.1]
    have e0 : waR ρ (wr (ρ (203 + 12 * a) + dx)) (wr (ρ (204 + 12 * a) + dy)) = 0 := by
      by_cases h1 : -8 ≤ dx ∧ dx ≤ 8
      · exact wa_outy w (nou (hb.y w) hy (fun z => h ⟨h1, z⟩))
      · exact wa_out w (nou (hb.x w) hx h1)
    refine c_open R w ?_
    rw [e0]
    exact vc19_41 ⟨fun q => absurd rfl q, fun _ => hQ⟩
theorem nwd {x dx : Int} (h1 : 0 ≤ x ∧ x < 8) (h2 : -8 ≤ dx ∧ dx ≤ 8) : wr (x + dx) = x + dx := wr_of (by omega) (by omega)
theorem m_canBe {X : mXX} {d : Nat} {Q : Option mV → mS → Prop} {σ α : Nat → Nat → Int} {a n : Nat} {dx dy z : Int} (w : WF (α 110)) (hz : ((a + n : Nat) : Int) ≤ α 110 2) (ez : z = ((a + n : Nat) : Int) - 1) (hn : 0 < n) (hQ : Q (some (vI (cbR (α 110) a n dx dy))) (S0, σ, α)) : Ca X (d + 3) 197 [vR 104, vI (a : Int), vI z, vI dx, vI dy] (S0, σ, α) Q := by
  have za : ¬ z < (a : Int) := by omega
  unfold cbR at hQ
  refine vc197_0 ?_
  refine m_within ?_
  by_cases h1 : -8 ≤ dx ∧ dx ≤ 8
  · rw [wi1 h1]
    refine vc197_8 ⟨fun q => absurd q (by decide), fun _ => ?_⟩
    refine m_within ?_
    by_cases h2 : -8 ≤ dy ∧ dy ≤ 8
    · rw [wi1 h2]
      rw [if_pos ⟨h1, h2⟩] at hQ
      refine vc197_20 ⟨fun q => absurd q (by decide), fun _ => ?_⟩
      have key : ∀ (m j : Nat), j + m = n → Go X (d + 2) 197 33 [some (vR 104), some (vI (a : Int)), some (vI z), some (vI dx), some (vI dy), some (vI (ftN (α 110) a dx dy j)), some (vI ((a + j : Nat) : Int))] [] (S0, σ, α) (0, 0) Q := by
        intro m
        induction m with
        | zero =>
          intro j hj
          have e : j = n := hj
          subst e
          have zj : z < ((a + j : Nat) : Int) := by omega
          exact vc197_33 ⟨fun _ => ⟨ft01, hQ⟩, fun q => absurd zj q⟩
        | succ m ih =>
          intro j hj
          have hlt : ((a + j : Nat) : Int) < α 110 2 := by omega
          have zj : ¬ z < ((a + j : Nat) : Int) := by omega
          have j7 : a + j < 7 := w.m7 hlt
          have jb : 0 ≤ ((a + j : Nat) : Int) ∧ ((a + j : Nat) : Int) < 7 := by omega
          have ek := wrT (a := a) (j := j) (by omega)
          have jn : j ≤ n := by omega
          have jm : j + 1 + m = n := by omega
          have hb := w.b hlt
          have i1 := ih (j + 1) jm
          refine vc197_33 ⟨fun q => absurd q zj, fun _ => ⟨fun q => ⟨ft01, ?_⟩, fun q => ?_⟩⟩
          · rw [q]
            rw [ft_no jn q] at hQ
            exact hQ
          · have q1 := ft01.resolve_left q
            refine m_of jb ?_
            rw [oo1]
            refine vc197_52 ?_
            refine m_of jb ?_
            rw [oo2]
            refine vc197_61 ?_
            rw [nwd (hb.x w) h1, nwd (hb.y w) h2]
            refine m_isWater w ?_
            refine vc197_67 ?_
            rw [ek]
            have e1 : ftN (α 110) a dx dy (j + 1) = waR (α 110) (α 110 (203 + 12 * (a + j)) + dx) (α 110 (204 + 12 * (a + j)) + dy) := by
              show (if waR (α 110) (α 110 (203 + 12 * (a + j)) + dx) (α 110 (204 + 12 * (a + j)) + dy) = 0 then 0 else ftN (α 110) a dx dy j) = _
              rcases wa01 (ρ := α 110) (x := α 110 (203 + 12 * (a + j)) + dx) (y := α 110 (204 + 12 * (a + j)) + dy) with h | h
              · rw [h]; rfl
              · rw [h, if_neg (by decide), q1]
            rw [e1] at i1
            exact i1
      exact key n 0 (Nat.zero_add n)
    · rw [wi0 h2]
      rw [if_neg (fun z => h2 z.2)] at hQ
      exact vc197_20 ⟨fun _ => vc197_33 ⟨fun _ => ⟨Or.inl rfl, hQ⟩, fun _ => ⟨fun _ => ⟨Or.inl rfl, hQ⟩, fun q => absurd rfl q⟩⟩, fun q => absurd rfl q⟩
  · rw [wi0 h1]
    rw [if_neg (fun z => h1 z.1)] at hQ
    exact vc197_8 ⟨fun _ => vc197_33 ⟨fun _ => ⟨Or.inl rfl, hQ⟩, fun _ => ⟨fun _ => ⟨Or.inl rfl, hQ⟩, fun q => absurd rfl q⟩⟩, fun q => absurd rfl q⟩
def grR (ρ : Nat → Int) (b dx dy : Int) : Int := if 0 ≤ b ∧ b < ρ 2 then (if cbR ρ (fsN ρ b.toNat) (szR ρ b.toNat) dx dy = 1 then ctR ρ (fsN ρ b.toNat) (szR ρ b.toNat) dx dy else -1) else -1
theorem cb_in {ρ : Nat → Int} {a n : Nat} {dx dy : Int} (w : WF ρ) (h : cbR ρ a n dx dy = 1) : inB ρ a n dx dy := by
  unfold cbR at h
  by_cases q : (-8 ≤ dx ∧ dx ≤ 8) ∧ (-8 ≤ dy ∧ dy ≤ 8)
  · rw [if_pos q] at h
    intro b b1 b2
    obtain ⟨i1, i2, i3, i4, -⟩ := wa_in (ft_all h b b1 b2)
    exact ⟨⟨i1, Int.lt_of_lt_of_le i2 w.1.2⟩, i3, Int.lt_of_lt_of_le i4 w.2.1.2⟩
  · rw [if_neg q] at h; exact absurd h (by decide)
theorem pez {a n : Nat} (h : 0 < n) : ((a + n - 1 : Nat) : Int) = ((a + n : Nat) : Int) - 1 := by omega
theorem c_grip {X : mXX} {d : Nat} {Q : Option mV → mS → Prop} {σ α : Nat → Nat → Int} {ρ : Nat → Int} {b dx dy : Int} (R : Rep σ α ρ) (w : WF ρ) (hx : -2147483648 ≤ dx ∧ dx < 2147483648) (hy : -2147483648 ≤ dy ∧ dy < 2147483648) (hQ : ∀ α', Fα [87, 88] α α' → Q (some (vI (grR ρ b dx dy))) (S0, σ, α')) : Ca X (d + 4) 109 [vR 0, vI b, vI dx, vI dy] (S0, σ, α) Q := by
  refine vc109_0 ?_
  refine c_hasBoat R.2.2.1 ?_
  unfold grR at hQ
  by_cases hb : 0 ≤ b ∧ b < ρ 2
  · rw [if_pos hb] at hQ
    rw [show hbR ρ b = 1 from if_pos hb]
    obtain ⟨k, hn⟩ := Int.eq_ofNat_of_zero_le hb.1
    subst hn
    rw [Int.toNat_natCast] at hQ
    have k7 := w.m7 hb.2
    have f7 : 0 ≤ (k : Int) ∧ (k : Int) < 7 := by clear hx hy; omega
    have p := prt_of hb.2
    refine vc109_8 ⟨fun _ => ?_, fun q => absurd q (by decide)⟩
    refine c_first R f7 ?_
    rw [fR_e]
    refine vc109_21 ?_
    refine c_last R w hb ?_
    rw [lR_e hb.2]
    refine vc109_31 ?_
    refine c_fitsR R w p.2.1 p.1 hx hy ?_
    refine vc109_46 ⟨fun q => ?_, fun q => ?_⟩
    · rw [if_neg (by rw [q]; decide)] at hQ
      exact hQ α Fα.rf
    · have q1 := cb01.resolve_left q
      rw [if_pos q1] at hQ
      refine c_haul R w p.2.1 (pez p.1) (cb_in w q1) ?_
      intro β hf _
      exact vc109_62 (hQ β hf)
  · rw [if_neg hb] at hQ
    rw [show hbR ρ b = 0 from if_neg hb]
    exact vc109_8 ⟨fun q => absurd rfl q, fun _ => hQ α Fα.rf⟩
theorem m_grip {X : mXX} {d : Nat} {Q : Option mV → mS → Prop} {σ α : Nat → Nat → Int} {b dx dy : Int} (w : WF (α 110)) (hQ : ∀ α', Fα [120, 121] α α' → Q (some (vI (grR (α 110) b dx dy))) (S0, mUp σ 104 0 0, α')) : Ca X (d + 6) 196 [vR 104, vI b, vI dx, vI dy] (S0, σ, α) Q := by
  refine vc196_0 ?_
  refine m_isBoat ?_
  unfold grR at hQ
  by_cases hb : 0 ≤ b ∧ b < α 110 2
  · rw [if_pos hb] at hQ
    rw [show hbR (α 110) b = 1 from if_pos hb]
    obtain ⟨k, hn⟩ := Int.eq_ofNat_of_zero_le hb.1
    subst hn
    rw [Int.toNat_natCast] at hQ
    have k7 := w.m7 hb.2
    have f7 : 0 ≤ (k : Int) ∧ (k : Int) < 7 := by omega
    have p := prt_of hb.2
    refine vc196_10 ⟨fun q => absurd q (by decide), fun _ => ?_⟩
    refine m_first w f7 ?_
    rw [fR_e]
    refine vc196_19 ?_
    refine m_last w hb ?_
    rw [lR_e hb.2]
    refine vc196_24 ?_
    refine m_canBe w p.2.1 (pez p.1) p.1 ?_
    refine vc196_29 ⟨fun q => ?_, fun q => ?_⟩
    · have q1 := cb01.resolve_left q
      rw [if_pos q1] at hQ
      refine m_first w f7 ?_
      rw [fR_e]
      refine vc196_40 ?_
      refine m_last w hb ?_
      rw [lR_e hb.2]
      refine vc196_45 ?_
      refine m_catches w p.2.1 (pez p.1) (cb_in w q1) ?_
      intro β hf _
      exact vc196_50 (hQ β hf)
    · rw [if_neg (by rw [q]; decide)] at hQ
      exact hQ α Fα.rf
  · rw [if_neg hb] at hQ
    rw [show hbR (α 110) b = 0 from if_neg hb]
    exact vc196_10 ⟨fun _ => hQ α Fα.rf, fun q => absurd rfl q⟩
