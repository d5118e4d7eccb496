/-! The class sails -/
theorem CI.go {σ α : Nat → Nat → Int} {ρ : Nat → Int} {P W : List (Int × Int)} {m : Nat} {u v : Int} (w : WF ρ) (hm : (m : Int) < ρ 2) (C : CI σ α (goR ρ m) P W) (hu : u = goR ρ (m + 1) (203 + 12 * m)) (hv : v = goR ρ (m + 1) (204 + 12 * m)) : CI σ (mUp (mUp α 42 m u) 43 m v) (goR ρ (m + 1)) P W := by
  have m7 := w.m7 hm
  have f : Fα ZS α (mUp (mUp α 42 m u) 43 m v) := (Fα.up (by decide)).tr (Fα.up (by decide))
  have e : ∀ j, ¬ (202 ≤ j ∧ (j - 202) / 12 < m + 1 ∧ ((j - 202) % 12 = 1 ∨ (j - 202) % 12 = 2)) → goR ρ (m + 1) j = goR ρ m j := fun j hj => by rw [goR_o hj, goR_o (by omega)]
  refine C.st f rfl rfl (C.1.st (go_wf w (by omega)) ((go_tld (by omega)).sy.tr (go_tld (by omega))) f (fun _ => rfl) ?_ (fun c hc => ?_) (fun b hb => ?_) (fun k hk => ?_))
  · rw [C.1.2.2.2.2.2.1, e 3 (by omega)]
  · rw [up_o (by decide), up_o (by decide), (C.1.c hc).2.2, e _ (by omega)]
  · have r := C.1.b hb
    have hb7 : b < 7 := (go_wf w (m := m) (by omega)).m7 hb
    rw [up_o (a := 43) (x := 44) (by decide), up_o (a := 42) (x := 44) (by decide), up_o (a := 43) (x := 45) (by decide), up_o (a := 42) (x := 45) (by decide), up_o (a := 43) (x := 46) (by decide), up_o (a := 42) (x := 46) (by decide), up_o (a := 43) (x := 42) (by decide), up_a, up_a, up_o (a := 42) (x := 43) (by decide), e (210 + 12 * b) (by omega), e (211 + 12 * b) (by omega), e (212 + 12 * b) (by omega)]
    refine ⟨?_, ?_, r.2.2.2.2.2.2.2.2.1, r.2.2.2.2.2.2.2.2.2.1, r.2.2.2.2.2.2.2.2.2.2⟩
    · by_cases h : b = m
      · rw [if_pos h, h]; exact hu
      · rw [if_neg h, r.2.1, goR_s, if_neg (by omega), if_neg (by omega)]
    · by_cases h : b = m
      · rw [if_pos h, h]; exact hv
      · rw [if_neg h, r.2.2.1, goR_s, if_neg (by omega), if_neg (by omega)]
  · rw [up_o (by decide), up_o (by decide), (C.1.l hk).2.2, e _ (by omega)]
theorem c_go1 {X : mXX} {d : Nat} {Q : Option mV → mS → Prop} {σ α : Nat → Nat → Int} {ρ : Nat → Int} {P W : List (Int × Int)} {a n : Nat} {v : Int} (w : WF ρ) (hz : ((a + n : Nat) : Int) ≤ ρ 2) (hv : 0 ≤ v ∧ v < 5) (hg : ∀ b, a ≤ b → b < a + n → dgx ρ b = wxR v ∧ dgy ρ b = wyR v) (hQ : ∀ α', Fα [42, 43] α α' → CI σ α' (goR ρ (a + n)) P W → Q none (S0, σ, α')) : ∀ (m j : Nat) (γ : Nat → Nat → Int), j + m = n → 0 < n → Fα [42, 43] α γ → CI σ γ (goR ρ (a + j)) P W → Go X (d + 3) 17 49 [some (vR 84), some (vI (a : Int)), some (vI ((a + n - 1 : Nat) : Int)), some (vI v), some (vI ((a + j : Nat) : Int))] [] (S0, σ, γ) (0, 0) Q := by
  intro m
  induction m with
  | zero =>
    intro j γ hj hn hf C
    have hjn : j = n := hj
    subst hjn
    exact vc17_49 ⟨fun _ => hQ γ hf C, fun q => absurd (show ((a + j - 1 : Nat) : Int) < ((a + j : Nat) : Int) by omega) q⟩
  | succ m ih =>
    intro j γ hj hn hf C
    have hlt : ((a + j : Nat) : Int) < ρ 2 := by omega
    have j7 : a + j < 7 := w.m7 hlt
    have ek := wrT (a := a) (j := j) (by omega)
    have hle : ¬ ((a + n - 1 : Nat) : Int) < ((a + j : Nat) : Int) := by omega
    have hb := w.b hlt
    have gx := hg (a + j) (by omega) (by omega)
    have r := C.1.b (b := a + j) (by rw [goR_o (by omega)]; exact hlt)
    have ex : γ 42 (a + j) = ρ (203 + 12 * (a + j)) := by rw [r.2.1, goR_o (by omega)]
    have ey : γ 43 (a + j) = ρ (204 + 12 * (a + j)) := by rw [r.2.2.1, goR_o (by omega)]
    have nx := nx0 (hb.x w) (wx_bd (v := v))
    have ny := nx0 (hb.y w) (wy_bd (v := v))
    have i1 : mInA ((a + j : Nat) : Int) 7 := mInA_n j7
    have i2 : mInA v 5 := by unfold mInA; omega
    refine vc17_49 ⟨fun q => absurd q hle, fun _ => ⟨i1, i2, i1, i1, i2, i1, ?_⟩⟩
    rw [Int.toNat_natCast, wX_R hv, wY_R hv, ex, ey, nx, ny, ek]
    refine ih (j + 1) _ (by omega) hn (hf.tr ((Fα.up (by decide)).tr (Fα.up (by decide)))) ?_
    exact CI.go w hlt C (by rw [goR_x (by omega), gx.1]) (by rw [goR_y (by omega), gx.2])
theorem c_go {X : mXX} {d : Nat} {Q : Option mV → mS → Prop} {σ α : Nat → Nat → Int} {ρ : Nat → Int} {P W : List (Int × Int)} {a n : Nat} (w : WF ρ) (p : prt ρ a n) (C : CI σ α (goR ρ a) P W) (hQ : ∀ α', Fα [42, 43] α α' → CI σ α' (goR ρ (a + n)) P W → Q none (S0, σ, α')) : Ca X (d + 4) 17 [vR 84, vI (a : Int), vI ((a + n - 1 : Nat) : Int)] (S0, σ, α) Q := by
  have p0 := p.1
  have p1 := p.2.1
  have ha : (a : Int) < ρ 2 := by omega
  have a7 := w.m7 ha
  have a8 : a ≤ 7 := Nat.le_of_lt a7
  have o1 : ∀ b, a ≤ b → ¬ (202 ≤ 203 + 12 * b ∧ (203 + 12 * b - 202) / 12 < a ∧ ((203 + 12 * b - 202) % 12 = 1 ∨ (203 + 12 * b - 202) % 12 = 2)) := fun b hb => by omega
  have o2 : ∀ b, a ≤ b → ¬ (202 ≤ 204 + 12 * b ∧ (204 + 12 * b - 202) / 12 < a ∧ ((204 + 12 * b - 202) % 12 = 1 ∨ (204 + 12 * b - 202) % 12 = 2)) := fun b hb => by omega
  have o0 : ∀ b, ¬ (202 ≤ 202 + 12 * b ∧ (202 + 12 * b - 202) / 12 < a ∧ ((202 + 12 * b - 202) % 12 = 1 ∨ (202 + 12 * b - 202) % 12 = 2)) := fun b => by omega
  have o10 : ¬ (202 ≤ 212 + 12 * a ∧ (212 + 12 * a - 202) / 12 < a ∧ ((212 + 12 * a - 202) % 12 = 1 ∨ (212 + 12 * a - 202) % 12 = 2)) := by omega
  have hv5 := (w.b ha).2.2.2.2.2.2.2.2.2.2.1
  have hv : 0 ≤ ρ (212 + 12 * a) ∧ ρ (212 + 12 * a) < 5 := ⟨hv5.1, Int.lt_of_le_of_lt hv5.2 (by decide)⟩
  have iv : mInA (ρ (212 + 12 * a)) 5 := by unfold mInA; omega
  have b1 := wx_bd (v := ρ (212 + 12 * a))
  have b2 := wy_bd (v := ρ (212 + 12 * a))
  have hd : (-1000 ≤ wxR (ρ (212 + 12 * a)) ∧ wxR (ρ (212 + 12 * a)) ≤ 1000) ∧ -1000 ≤ wyR (ρ (212 + 12 * a)) ∧ wyR (ρ (212 + 12 * a)) ≤ 1000 := ⟨⟨Int.le_trans (by decide) b1.1, Int.le_trans b1.2 (by decide)⟩, Int.le_trans (by decide) b2.1, Int.le_trans b2.2 (by decide)⟩
  have g2 : goR ρ a 2 = ρ 2 := goR_o (fun z => absurd z.1 (by decide))
  have g3 : σ 40 1 = ρ 3 := by rw [C.1.2.2.2.2.2.1]; exact goR_o (fun z => absurd z.1 (by decide))
  have r := C.1.b (b := a) (by rw [g2]; exact ha)
  have ev : α 45 a = ρ (212 + 12 * a) := by rw [r.2.2.2.2.2.2.2.2.2.2]; exact goR_o o10
  have wg : WF (goR ρ a) := go_wf w a8
  have sl : slN (goR ρ a) a n = slN ρ a n := sl_cg (fun b b1 b2 => goR_o (o0 b))
  have ft : ∀ dx dy, ftN (goR ρ a) a dx dy n = ftN ρ a dx dy n := fun dx dy => ft_cg (fun x y => (go_tld a8).wa w) (fun b b1 b2 => ⟨goR_o (o1 b b1), goR_o (o2 b b1)⟩)
  have stay : (∀ b, a ≤ b → b < a + n → dgx ρ b = 0 ∧ dgy ρ b = 0) → Q none (S0, σ, α) := fun h => hQ α Fα.rf (by rw [go_st h]; exact C)
  have dg0 : ¬ (ftN ρ a (wxR (ρ (212 + 12 * a))) (wyR (ρ (212 + 12 * a))) n = 1 ∧ ¬ (slN ρ a n = 1 ∧ (ρ 3).tmod 2 = 1)) → ∀ b, a ≤ b → b < a + n → dgx ρ b = 0 ∧ dgy ρ b = 0 := by
    intro h b b1 b2
    have g := p.dg b1 b2
    by_cases hv0 : ρ (212 + 12 * a) ≤ 0
    · have e : ρ (212 + 12 * a) = 0 := Int.le_antisymm hv0 hv.1
      rw [g.2.1, g.2.2, e, w00.1, w00.2]
      constructor <;> split <;> rfl
    · have e : cgR ρ a n 0 0 (ρ (212 + 12 * a)) (ρ 3) = 0 := by
        unfold cgR cg0
        rw [if_neg hv0, Int.zero_add, Int.zero_add, if_neg h]
      rw [g.2.1, g.2.2, e]
      exact ⟨rfl, rfl⟩
  have dg1 : ftN ρ a (wxR (ρ (212 + 12 * a))) (wyR (ρ (212 + 12 * a))) n = 1 ∧ ¬ (slN ρ a n = 1 ∧ (ρ 3).tmod 2 = 1) → ∀ b, a ≤ b → b < a + n → dgx ρ b = wxR (ρ (212 + 12 * a)) ∧ dgy ρ b = wyR (ρ (212 + 12 * a)) := by
    intro h b b1 b2
    have g := p.dg b1 b2
    have e : cgR ρ a n 0 0 (ρ (212 + 12 * a)) (ρ 3) = 1 := by
      unfold cgR cg0
      rw [Int.zero_add, Int.zero_add, if_pos h]
      split <;> rfl
    rw [g.2.1, g.2.2, e]
    exact ⟨rfl, rfl⟩
  refine vc17_0 ⟨mInA_n a7, ?_⟩
  rw [Int.toNat_natCast, ev, g3]
  refine c_slow C.1 (by rw [g2]; exact p1) (by rw [g2]; exact w.2.2.1.2) p0 (hrW w) ?_
  rw [sl]
  refine vc17_23 ⟨fun q => ?_, fun q => ⟨iv, iv, ?_⟩⟩
  · refine stay (dg0 (fun z => q (if_neg z.2)))
  · have q' : ¬ (slN ρ a n = 1 ∧ (ρ 3).tmod 2 = 1) := fun z => by rw [if_pos z] at q; exact absurd q (by decide)
    rw [wX_R hv, wY_R hv]
    refine c_fits C.1 wg (by rw [g2]; exact p1) p0 hd ?_
    rw [ft]
    refine vc17_42 ⟨fun q2 => ?_, fun q2 => ?_⟩
    · exact c_go1 w p1 hv (dg1 ⟨ft01.resolve_left q2, q'⟩) hQ n 0 α (Nat.zero_add n) p0 Fα.rf C
    · exact stay (dg0 (fun z => by rw [q2] at z; exact absurd z.1 (by decide)))
theorem c_sail {X : mXX} {d : Nat} {Q : Option mV → mS → Prop} {σ α : Nat → Nat → Int} {ρ : Nat → Int} {P W : List (Int × Int)} (C : CI σ α ρ P W) (w : WF ρ) (hQ : ∀ α', Fα [42, 43] α α' → CI σ α' (goR ρ (ρ 2).toNat) P W → Q none (S0, σ, α')) : Ca X (d + 5) 16 [vR 84] (S0, σ, α) Q := by
  have w2 := w.2.2.1
  have r2 := C.1.2.2.1
  refine vc16_0 ?_
  have key : ∀ (m t : Nat) (β : Nat → Nat → Int), ((t + m : Nat) : Int) = ρ 2 → Fα [42, 43] α β → CI σ β (goR ρ (if (t : Int) < ρ 2 then fsN ρ t else t)) P W → Go X (d + 4) 16 2 [some (vR 84), some (vI (t : Int))] [] (S0, σ, β) (0, 0) Q := by
    intro m
    induction m with
    | zero =>
      intro t β ht hf C'
      refine vc16_2 ⟨fun _ => hQ β hf ?_, fun q => absurd q (by omega)⟩
      rw [if_neg (by omega)] at C'
      rw [show (ρ 2).toNat = t by omega]
      exact C'
    | succ m ih =>
      intro t β ht hf C'
      have tb : (t : Int) < ρ 2 := by omega
      have t7 := w.m7 tb
      rw [if_pos tb] at C'
      have ek := wrS (k := t) (by omega)
      have p := prt_of tb
      have pn := part_n tb
      have fl := fsN_le ρ t
      have g2 : goR ρ (fsN ρ t) 2 = ρ 2 := goR_o (by omega)
      have wg : WF (goR ρ (fsN ρ t)) := go_wf w (by omega)
      have hla : laR (goR ρ (fsN ρ t)) (t : Int) = ((fsN ρ t + szR ρ t - 1 : Nat) : Int) := by
        unfold laR
        rw [Int.toNat_natCast, g2, go_la (by omega) (by omega), pn.2.2.2]
      have hfs : fsR (goR ρ (fsN ρ t)) (t : Int) = ((fsN ρ t : Nat) : Int) := by
        unfold fsR
        rw [Int.toNat_natCast, go_fs t7 (by omega)]
      refine vc16_2 ⟨fun q => absurd (by rw [r2]; exact tb) q, fun _ => ?_⟩
      refine c_last C'.1 wg (by rw [g2]; exact ⟨by omega, tb⟩) ?_
      rw [hla]
      refine vc16_18 ⟨fun q => ?_, fun q => ?_⟩
      · refine vc16_32 ?_
        rw [ek]
        refine ih (t + 1) β (by omega) hf ?_
        have t1 : t + 1 < fsN ρ t + szR ρ t := by omega
        have e : fsN ρ (t + 1) = fsN ρ t := p.fs (by omega) t1
        rw [if_pos (by omega), e]
        exact C'
      · refine c_first C'.1 ⟨by omega, by omega⟩ ?_
        rw [hfs]
        refine vc16_28 ?_
        have hz : (t : Int) = ((fsN ρ t + szR ρ t - 1 : Nat) : Int) := q.symm
        rw [hz]
        refine c_go w p C' ?_
        intro γ hg C2
        rw [← hz]
        refine vc16_32 ?_
        rw [ek]
        refine ih (t + 1) γ (by omega) (hf.tr hg) ?_
        have e : fsN ρ t + szR ρ t = t + 1 := by omega
        rw [e] at C2
        by_cases h : ((t + 1 : Nat) : Int) < ρ 2
        · rw [if_pos h]
          rcases p.nx with h2 | h2
          · rw [e] at h2; omega
          · rw [e] at h2; rw [h2]; exact C2
        · rw [if_neg h]; exact C2
  refine key (ρ 2).toNat 0 α (by omega) Fα.rf ?_
  have e0 : (if ((0 : Nat) : Int) < ρ 2 then fsN ρ 0 else 0) = 0 := by split <;> rfl
  rw [e0, goR_0]
  exact C
