/-- the reference -/
theorem m_go1 {X : mXX} {d : Nat} {Q : Option mV → mS → Prop} {σ α : Nat → Nat → Int} {ρ : Nat → Int} {a n : Nat} {v : Int} (w : WF ρ) (hz : ((a + n : Nat) : Int) ≤ ρ 2) (hg : ∀ b, a ≤ b → b < a + n → dgx ρ b = wxR v ∧ dgy ρ b = wyR v) (hQ : ∀ γ x4, Fα [110] α γ → γ 110 = goR ρ (a + n) → Go X (d + 5) 184 2 [some (vR 104), some (vI (wr (((a + n - 1 : Nat) : Int) + 1))), some (vI ((a + n - 1 : Nat) : Int)), some (vI v), x4] [] (S0, σ, γ) (0, 0) Q) : ∀ (m j : Nat) (γ : Nat → Nat → Int), j + m = n → 0 < n → Fα [110] α γ → γ 110 = goR ρ (a + j) → Go X (d + 5) 184 45 [some (vR 104), some (vI (a : Int)), some (vI ((a + n - 1 : Nat) : Int)), some (vI v), some (vI ((a + j : Nat) : Int))] [] (S0, σ, γ) (0, 0) Q := by
  intro m
  induction m with
  | zero =>
    intro j γ hj hn hf e
    have hjn : j = n := hj
    subst hjn
    exact vc184_45 ⟨fun _ => hQ γ _ hf e, fun q => absurd (show ((a + j - 1 : Nat) : Int) < ((a + j : Nat) : Int) by omega) q⟩
  | succ m ih =>
    intro j γ hj hn hf e
    have hlt : ((a + j : Nat) : Int) < ρ 2 := by omega
    have j7 : a + j < 7 := w.m7 hlt
    have ek := wrT (a := a) (j := j) (by omega)
    have hle : ¬ ((a + n - 1 : Nat) : Int) < ((a + j : Nat) : Int) := by omega
    have hb := w.b hlt
    have gx := hg (a + j) (by omega) (by omega)
    have ex : γ 110 (203 + 12 * (a + j)) = ρ (203 + 12 * (a + j)) := by rw [e, goR_o (by omega)]
    have ey : γ 110 (204 + 12 * (a + j)) = ρ (204 + 12 * (a + j)) := by rw [e, goR_o (by omega)]
    have nx := nx0 (hb.x w) (wx_bd (v := v))
    have ny := nx0 (hb.y w) (wy_bd (v := v))
    have i1 : mInA ((203 + 12 * (a + j) : Nat) : Int) 2240 := mInA_n (by omega)
    have i2 : mInA ((204 + 12 * (a + j) : Nat) : Int) 2240 := mInA_n (by omega)
    refine vc184_45 ⟨fun q => absurd q hle, fun _ => ?_⟩
    rw [ixB1 j7]
    refine ⟨i1, ?_⟩
    refine m_stepX ?_
    rw [Int.toNat_natCast, ex]
    refine vc184_72 ⟨i1, ?_⟩
    rw [ixB2 j7]
    refine ⟨i2, ?_⟩
    rw [Int.toNat_natCast, Int.toNat_natCast, nx]
    refine m_stepY ?_
    refine vc184_95 ⟨i2, ?_⟩
    rw [Int.toNat_natCast, up_n (by omega), ey, ny, ek]
    refine ih (j + 1) _ (by omega) hn (hf.tr ((Fα.up (by decide)).tr (Fα.up (by decide)))) ?_
    rw [up_f, up_f, e]
    funext i
    rw [show a + (j + 1) = a + j + 1 from rfl, goR_s, gx.1, gx.2]
    by_cases h1 : i = 204 + 12 * (a + j)
    · rw [if_pos h1, if_pos h1, h1]
    · rw [if_neg h1, if_neg h1]
      show (if i = 203 + 12 * (a + j) then ρ (203 + 12 * (a + j)) + wxR v else goR ρ (a + j) i) = _
      by_cases h2 : i = 203 + 12 * (a + j)
      · rw [if_pos h2, if_pos h2, h2]
      · rw [if_neg h2, if_neg h2]
