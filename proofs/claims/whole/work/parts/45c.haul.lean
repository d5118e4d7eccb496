theorem bt_o {ρ : Nat → Int} {dx dy : Int} {a : Nat} {s : FS} : ∀ {n b : Nat}, a + n ≤ b → (btF ρ dx dy a s n).2 b = s.2 b
  | 0, _, _ => rfl
  | n + 1, b, h => by
    show (if b = a + n then _ else (btF ρ dx dy a s n).2 b) = _
    rw [if_neg (by omega)]
    exact bt_o (by omega)
theorem c_hau2 {X : mXX} {d : Nat} {Q : Option mV → mS → Prop} {σ α : Nat → Nat → Int} {ρ : Nat → Int} {s : FS} {a n : Nat} {dx dy z : Int} (R : Rep σ α ρ) (w : WF ρ) (B : FB ρ s) (hz : ((a + n : Nat) : Int) ≤ ρ 2) (ez : z = ((a + n : Nat) : Int) - 1) (hi : inB ρ a n dx dy) (hQ : ∀ α', Fα [87, 88] α α' → CF α' ρ (sws ρ dx dy a s (n - 1)) a n → Q (some (vI (gtR ρ (sws ρ dx dy a s (n - 1)) a n))) (S0, σ, α')) : ∀ (m j : Nat) (γ : Nat → Nat → Int) (x7 : Option mV), j + m = n - 1 → Fα [87, 88] α γ → CF γ ρ (sws ρ dx dy a s j) a n → Go X (d + 2) 46 125 [some (vR 86), some (vI (a : Int)), some (vI z), some (vI dx), some (vI dy), some (vI (gtR ρ (sws ρ dx dy a s j) a n)), some (vI ((a + j : Nat) : Int)), x7] [] (S0, σ, γ) (0, 0) Q := by
  intro m
  induction m with
  | zero =>
    intro j γ x7 hj hf F
    have e : j = n - 1 := hj
    subst e
    exact vc46_125 ⟨fun _ => hQ γ hf F, fun q => absurd q (by omega)⟩
  | succ m ih =>
    intro j γ x7 hj hf F
    have hk1 : ((a + j + 1 : Nat) : Int) < ρ 2 := by omega
    have k7 := w.m7 hk1
    have n7 : a + n ≤ 7 := by have := w.2.2.1.2; omega
    have n77 : (n : Int) ≤ 7 := by omega
    have j6 : a + j < 6 := by omega
    have r := ((R.fr hf).l (k := a + j) j6).2.2
    have ek := wrT (a := a) (j := j) (by omega)
    have ja : a ≤ a + j := by omega
    have jn : a + j + 1 < a + n := by omega
    have jm : j + 1 + m = n - 1 := by omega
    have jz : ((a + j : Nat) : Int) < z := by omega
    have Bi := FB.ws w B (n := j) (by omega) (fun b b1 b2 => hi b b1 (by omega))
    have l := hi.ln (k := a + j) ja jn
    have g0 := gt_bd w Bi hz
    have g1 := gt_bd w (Bi.wF hk1 l (ap_bd w hk1).1) hz
    have i1 := ih (j + 1)
    refine vc46_125 ⟨fun q => absurd jz q, fun _ => ⟨mInA_n j6, ?_⟩⟩
    rw [Int.toNat_natCast, r, ek]
    unfold sws at i1
    refine ⟨fun q => ?_, fun q => ?_⟩
    · rw [if_neg q] at i1
      exact i1 γ _ jm hf F
    · rw [if_pos q] at i1
      refine c_sweep (R.fr hf) w Bi F ja jn hz l ?_
      intro δ hd F2
      refine vc46_155 ?_
      rw [ek, nsy n77 g1]
      exact i1 δ _ jm (hf.tr hd) F2
