theorem n8 {x : Int} (h : 0 ≤ x ∧ x < 8) : wr x = x := wr_of (by omega) (by omega)
theorem nhs {H h : Int} (h1 : 0 ≤ h ∧ h ≤ H) (h2 : H ≤ 99) : wr (H - h) = H - h := wr_of (by omega) (by omega)
theorem c_haul {X : mXX} {d : Nat} {Q : Option mV → mS → Prop} {σ α : Nat → Nat → Int} {ρ : Nat → Int} {a n : Nat} {dx dy z : Int} (R : Rep σ α ρ) (w : WF ρ) (hz : ((a + n : Nat) : Int) ≤ ρ 2) (ez : z = ((a + n : Nat) : Int) - 1) (hi : inB ρ a n dx dy) (hQ : ∀ α', Fα [87, 88] α α' → CF α' ρ (ctF ρ a n dx dy) a n → Q (some (vI (ctR ρ a n dx dy))) (S0, σ, α')) : Ca X (d + 3) 46 [vR 86, vI (a : Int), vI z, vI dx, vI dy] (S0, σ, α) Q := by
  have n7 : a + n ≤ 7 := by have := w.2.2.1.2; omega
  refine vc46_0 ?_
  have key : ∀ (m j : Nat) (γ : Nat → Nat → Int) (x7 : Option mV), j + m = n → Fα [87, 88] α γ → CF γ ρ (btF ρ dx dy a (fs0 ρ) j) a j → Go X (d + 2) 46 24 [some (vR 86), some (vI (a : Int)), some (vI z), some (vI dx), some (vI dy), some (vI (gtR ρ (btF ρ dx dy a (fs0 ρ) j) a n)), some (vI ((a + j : Nat) : Int)), x7] [] (S0, σ, γ) (0, 0) Q := by
    intro m
    induction m with
    | zero =>
      intro j γ x7 hj hf F
      have e : j = n := hj
      subst e
      refine vc46_24 ⟨fun _ => ?_, fun q => absurd (show z < ((a + j : Nat) : Int) by omega) q⟩
      exact c_hau2 (s := btF ρ dx dy a (fs0 ρ) j) (α := α) R w ((FB.f0 w).bt hz hi) hz ez hi hQ (j - 1) 0 γ x7 (Nat.zero_add _) hf F
    | succ m ih =>
      intro j γ x7 hj hf F
      have hb : ((a + j : Nat) : Int) < ρ 2 := by omega
      have hb0 : 0 ≤ ((a + j : Nat) : Int) := by omega
      have b7 := w.m7 hb
      have n77 : (n : Int) ≤ 7 := by omega
      have ja : a ≤ a + j := by omega
      have jn : a + j < a + n := by omega
      have j1 : a + j < a + (j + 1) := by omega
      have jm : j + 1 + m = n := by omega
      have jz : ¬ z < ((a + j : Nat) : Int) := by omega
      have ek := wrT (a := a) (j := j) (by omega)
      have Bj : FB ρ (btF ρ dx dy a (fs0 ρ) j) := (FB.f0 w).bt (by omega) (fun b b1 b2 => hi b b1 (by omega))
      have inn := hi (a + j) ja jn
      have c6 := cl64 inn.1 inn.2
      have F1 : CF (mUp γ 88 (a + j) (hoN ρ (a + j) - ρ (210 + 12 * (a + j)))) ρ (btF ρ dx dy a (fs0 ρ) j) a (j + 1) := by
        refine ⟨fun c hc => ?_, fun b b1 b2 => ?_⟩
        · rw [up_o (by decide)]; exact F.1 c hc
        · rw [up_a]
          by_cases h : b = a + j
          · rw [if_pos h, h, bt_o (Nat.le_refl _)]; rfl
          · rw [if_neg h]; exact F.2 b b1 (by omega)
      have R' := R.fr hf
      have r := R'.b hb
      have hw := w.b hb
      have h9 := FB.h99 w hb
      have hs : 0 ≤ ρ (210 + 12 * (a + j)) ∧ ρ (210 + 12 * (a + j)) ≤ hoN ρ (a + j) := hw.2.2.2.2.2.2.2.2.1
      have nx : ∀ (t : Int) (δ : Nat → Nat → Int), t = (if ρ (202 + 12 * (a + j)) = 4 then 5 else 3) → 0 ≤ t → Fα [87, 88] (mUp γ 88 (a + j) (hoN ρ (a + j) - ρ (210 + 12 * (a + j)))) δ → CF δ ρ (tk1 ρ (btF ρ dx dy a (fs0 ρ) j) (a + j) (clN (ρ (203 + 12 * (a + j)) + dx) (ρ (204 + 12 * (a + j)) + dy)) t) a (j + 1) → Go X (d + 2) 46 113 [some (vR 86), some (vI (a : Int)), some (vI z), some (vI dx), some (vI dy), some (vI (gtR ρ (btF ρ dx dy a (fs0 ρ) j) a n)), some (vI ((a + j : Nat) : Int)), some (vI t)] [vI (tkN ρ (btF ρ dx dy a (fs0 ρ) j) (a + j) (clN (ρ (203 + 12 * (a + j)) + dx) (ρ (204 + 12 * (a + j)) + dy)) t), vI (gtR ρ (btF ρ dx dy a (fs0 ρ) j) a n)] (S0, σ, δ) (0, 0) Q := by
        intro t δ et ht hd F2
        refine vc46_113 ?_
        have g1 := gt_bd w Bj hz
        have g2 := gt_bd w (Bj.tk (b := a + j) (t := t) c6 hb ht) hz
        have t1 := gt_tk (ρ := ρ) (s := btF ρ dx dy a (fs0 ρ) j) (b := a + j) (c := clN (ρ (203 + 12 * (a + j)) + dx) (ρ (204 + 12 * (a + j)) + dy)) (t := t) (a := a) (n := n) ja jn
        have es : btF ρ dx dy a (fs0 ρ) (j + 1) = tk1 ρ (btF ρ dx dy a (fs0 ρ) j) (a + j) (clN (ρ (203 + 12 * (a + j)) + dx) (ρ (204 + 12 * (a + j)) + dy)) t := by rw [et]; rfl
        have i1 := ih (j + 1) δ (some (vI t)) jm ((hf.tr (Fα.up (by decide))).tr hd) (by rw [es]; exact F2)
        rw [es, t1] at i1
        rw [t1] at g2
        rw [ek, nsx n77 g2]
        exact i1
      refine vc46_24 ⟨fun q => absurd q jz, fun _ => ?_⟩
      refine c_holds R' w ⟨hb0, hb⟩ ?_
      rw [ho_N]
      refine vc46_45 ⟨mInA_n b7, mInA_n b7, mInA_n b7, ?_⟩
      rw [Int.toNat_natCast, r.2.2.2.2.2.2.2.2.1, r.1, r.2.1, r.2.2.1, nhs hs h9.2, n8 inn.1, n8 inn.2]
      refine ⟨fun q => ⟨mInA_n b7, mInA_n b7, ?_⟩, fun q => ⟨mInA_n b7, mInA_n b7, ?_⟩⟩
      · refine c_lift w F1 Bj ja j1 hb inn.1 inn.2 (by decide) ?_
        intro δ hd F2
        exact nx 3 δ (by rw [if_neg q]) (by decide) hd F2
      · refine c_lift w F1 Bj ja j1 hb inn.1 inn.2 (by decide) ?_
        intro δ hd F2
        exact nx 5 δ (by rw [if_pos q]) (by decide) hd F2
  have k0 := key n 0 (mCp α 41 0 87 0 64) none (Nat.zero_add _) (Fα.cp (by decide)) ⟨fun c hc => by rw [cp_s hc]; exact (R.c hc).2.2, fun b b1 b2 => absurd b2 (by omega)⟩
  rw [show gtR ρ (btF ρ dx dy a (fs0 ρ) 0) a n = 0 from gt_0] at k0
  exact k0
