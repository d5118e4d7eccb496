theorem nim {h t : Nat} (h1 : h < 24) (h2 : t < 64) : 64 * h + t < 1536 := by omega
/-- one way from a cell -/
theorem c_way {X : mXX} {d : Nat} {Q : Option mV → mS → Prop} {σ α γ : Nat → Nat → Int} {ρ : Nat → Int} {P W : List (Int × Int)} {a n h B c v : Nat} {f : Int} {w3 : Int} {acc : LY} {x5 x6 : Option mV} (w : WF ρ) (o : lwO 3 P) (hz : ((a + n : Nat) : Int) ≤ ρ 2) (hn : 0 < n) (s9 : σ 90 9 = (a : Int)) (s10 : σ 90 10 = ((a + n - 1 : Nat) : Int)) (hh : h < 24) (c6 : c < 64) (v5 : v < 5) (hB : B + 64 < 1600) (hv3 : (v : Int) < w3) (hv : v = 0 ∨ ¬ hdC ρ a n h) (C : CI σ γ ρ P W) (so : ∀ i, i < 64 → γ 92 i = gvC ρ a n f i) (S : SPI σ γ ρ P a n h B acc) (hQ : ∀ σ' γ' y5 y6, Fσ [(90, 11)] σ σ' → Fα ZP γ γ' → CI σ' γ' ρ P W → OLD γ γ' h B → SPI σ' γ' ρ P a n h B (mvs (mvC ρ P a n h c) acc v) → Go X (d + 6) 37 36 [some (vR 90), some (vI (c : Int)), some (vI (h : Int)), some (vI w3), some (vI (wr ((v : Int) + 1))), y5, y6] [] (S0, σ', γ') (0, 0) Q) : Go X (d + 6) 37 36 [some (vR 90), some (vI (c : Int)), some (vI (h : Int)), some (vI w3), some (vI (v : Int)), x5, x6] [] (S0, σ, γ) (0, 0) Q := by
  have ha : (a : Int) < ρ 2 := by omega
  have a7 := w.m7 ha
  have hv5 : 0 ≤ (v : Int) ∧ (v : Int) < 5 := by omega
  have an7 : a + n ≤ 7 := p7 w hz
  have ewx : wX v = wxR (v : Int) := wX_R hv5
  have ewy : wY v = wyR (v : Int) := wY_R hv5
  have ex : wr (((c % 8 : Nat) : Int) + wxR (v : Int)) = txC c v := nx0 (c8 c6).1 wx_bd
  have ey : wr (((c / 8 : Nat) : Int) + wyR (v : Int)) = tyC c v := nx0 (c8 c6).2 wy_bd
  have hw := w.b ha
  have nh := nhh w.2.2.2.1 (Nat.lt_succ_of_lt hh)
  have r3 := C.1.2.2.2.2.2.1
  refine vc37_36 ⟨fun q => absurd hv3 q, fun _ => ⟨mInA_n v5, mInA_n v5, ?_⟩⟩
  rw [Int.toNat_natCast, tm8, td8w c6, ewx, ewy, ex, ey]
  refine c_claim C.1 w hh (fun hO => ?_) (fun hi q => ?_) (fun hi q1 q2 => ?_)
  · refine vc37_77 ⟨fun _ => hQ σ γ _ _ Fσ.rf Fα.rf C OLD.rf ?_, fun q => absurd rfl q⟩
    rw [ms_n (mv_n (fun z => hO z.2.1))]
    exact S
  · have hx : 0 ≤ txC c v ∧ txC c v < 8 := ⟨hi.1, Int.lt_of_lt_of_le hi.2.1 w.1.2⟩
    have hy : 0 ≤ tyC c v ∧ tyC c v < 8 := ⟨hi.2.2.1, Int.lt_of_lt_of_le hi.2.2.2 w.2.1.2⟩
    have t6 := cl64 hx hy
    have f93 : Fα ZP γ (mUp γ 93 (clN (txC c v) (tyC c v)) ((h + 1 : Nat) : Int)) := Fα.up (by decide)
    have old : OLD γ (mUp γ 93 (clN (txC c v) (tyC c v)) ((h + 1 : Nat) : Int)) h B := ⟨fun i _ => by rw [up_o (by decide)], fun j _ => by rw [up_o (by decide)]⟩
    have bad : inL acc (clN (txC c v) (tyC c v)) ∨ fiC ρ a n (clN (txC c v) (tyC c v)) = 0 ∨ teC ρ P a n h (clN (txC c v) (tyC c v)) ≠ 0 := by
      rcases q with q | q
      · rw [so _ t6] at q
        exact Or.inr (Or.inl (gv0.mp q))
      · have z := S.2.2.1 _ t6
        have e : γ 93 (clN (txC c v) (tyC c v)) = ((h + 1 : Nat) : Int) := Int.le_antisymm z.1 q
        exact z.2.2 e
    refine vc37_77 ⟨fun _ => hQ σ _ _ _ Fσ.rf f93 (C.fr (Z := [93]) (Fα.up (by decide))) old ?_, fun q => absurd rfl q⟩
    have em : mvs (mvC ρ P a n h c) acc v = acc := by
      by_cases ok : okMv ρ P a n h c v
      · rw [ms_y (mv_y ok)]
        refine hasT_y ?_
        rcases bad with b | b | b
        · exact b
        · rw [ok.2.2.1] at b; exact absurd b (by decide)
        · exact absurd ok.2.2.2 b
      · rw [ms_n (mv_n ok)]
    rw [em]
    exact S.se bad
  · have hx : 0 ≤ txC c v ∧ txC c v < 8 := ⟨hi.1, Int.lt_of_lt_of_le hi.2.1 w.1.2⟩
    have hy : 0 ≤ tyC c v ∧ tyC c v < 8 := ⟨hi.2.2.1, Int.lt_of_lt_of_le hi.2.2.2 w.2.1.2⟩
    have t6 := cl64 hx hy
    have cx := cl_x hx hy
    generalize ht : clN (txC c v) (tyC c v) = t at *
    have ft : fiC ρ a n t = 1 := by
      rw [so t t6] at q1
      exact fi01.resolve_left (fun z => q1 (gv0.mpr z))
    have nt : ¬ inL acc t := fun z => by
      have e := (S.2.2.1 t t6).2.1 z
      rw [e] at q2
      exact q2 (Int.ofNat_lt.mpr (Nat.lt_succ_self h))
    have f93 : Fα ZP γ (mUp γ 93 t ((h + 1 : Nat) : Int)) := Fα.up (by decide)
    have C1 : CI σ (mUp γ 93 t ((h + 1 : Nat) : Int)) ρ P W := C.fr (Z := [93]) (Fα.up (by decide))
    have r := C1.1.b ha
    have nx := ndx hx (hw.x w)
    have ny := ndx hy (hw.y w)
    have edx : txC c v - ρ (203 + 12 * a) = dxC ρ a t := by unfold dxC; rw [cx.1]
    have edy : tyC c v - ρ (204 + 12 * a) = dyC ρ a t := by unfold dyC; rw [cx.2]
    have hF : ∀ b, a ≤ b → b < a + n → 0 ≤ fcR ρ P (dxC ρ a t) (dyC ρ a t) (ρ 3 + (h : Int)) 0 b ∧ fcR ρ P (dxC ρ a t) (dyC ρ a t) (ρ 3 + (h : Int)) 0 b ≤ 99 := fun b _ b2 => fc_bd w (Int.lt_of_lt_of_le (Int.ofNat_lt.mpr b2) hz)
    refine vc37_77 ⟨fun q => absurd q (by decide), fun _ => ?_⟩
    rw [s9, s10]
    refine ⟨mInA_n a7, mInA_n a7, ?_⟩
    rw [Int.toNat_natCast, r.2.1, r.2.2.1, nx.1, ny.1, edx, edy, r3, nh.1]
    refine c_weigh C1 w o hz hn (fi_in w ft) nh.2 (by decide) ?_
    intro β hb Cb bf
    refine vc37_135 ?_
    rw [s9, s10]
    refine c_anyTears (F := fcR ρ P (dxC ρ a t) (dyC ρ a t) (ρ 3 + (h : Int)) 0) Cb.1 w an7 hn hF bf ?_
    have b93 : β 93 = mUp γ 93 t ((h + 1 : Nat) : Int) 93 := hb 93 (by decide)
    have b94 : β 94 = γ 94 := (hb 94 (by decide)).trans (up_o (by decide))
    have b95 : β 95 = γ 95 := (hb 95 (by decide)).trans (up_o (by decide))
    have fb : Fα ZP γ β := f93.tr (hb.wk (by decide))
    have oldb : OLD γ β h B := ⟨fun i _ => by rw [b94], fun j _ => by rw [b95]⟩
    have sl := S.len
    have slt : B + acc.length < 1600 := Nat.lt_of_le_of_lt (Nat.add_le_add_left sl B) hB
    have s11 : σ 90 11 = ((B + acc.length : Nat) : Int) := S.2.2.2.1
    refine vc37_150 ⟨fun q3 => ?_, fun q3 => ?_⟩
    · refine hQ σ β _ _ Fσ.rf fb Cb oldb ?_
      have em : mvs (mvC ρ P a n h c) acc v = acc := ms_n (mv_n (fun z => by have z4 := z.2.2.2; rw [ht] at z4; exact q3 z4))
      rw [em]
      refine (S.se (t := t) (Or.inr (Or.inr q3))).fr b93 ?_ ?_
      · rw [b94, up_o (by decide)]
      · rw [b95, up_o (by decide)]
    · rw [s11]
      have sli : ((B + acc.length : Nat) : Int) < 1600 := Int.ofNat_lt.mpr slt
      have e1 : wr (((B + acc.length : Nat) : Int) + 1) = ((B + acc.length + 1 : Nat) : Int) := wrS (k := B + acc.length) (Nat.lt_trans slt (by decide))
      have im : 64 * h + t < 1536 := nim hh t6
      refine ⟨fun q4 => absurd sli q4, fun _ => ?_⟩
      rw [ixM hh hx hy, ixC hx hy, ht, e1]
      refine ⟨mInA_n im, mInA_n slt, ?_⟩
      rw [Int.toNat_natCast, Int.toNat_natCast]
      have em : mvs (mvC ρ P a n h c) acc v = acc ++ [(t, v)] := by
        rw [ms_y (t := t) (by rw [mv_y ⟨hv, hi, by rw [ht]; exact ft, by rw [ht]; exact q3⟩, ht])]
        exact hasT_n nt
      refine hQ _ _ _ _ (Fσ.up (by decide)) (fb.tr ((Fα.up (by decide)).tr (Fα.up (by decide)))) ?_ ?_ ?_
      · exact (Cb.fr (Z := [94, 95]) ((Fα.up (by decide)).tr (Fα.up (by decide)))).s0 (Z := [(90, 11)]) (Fσ.up (by decide))
      · refine ⟨fun i hi2 => ?_, fun j hj => ?_⟩
        · rw [up_a, if_neg (Nat.ne_of_lt (Nat.lt_of_lt_of_le hi2 (Nat.le_add_right _ _))), up_o (by decide), b94]
        · rw [up_o (by decide), up_a, if_neg (Nat.ne_of_lt (Nat.lt_of_lt_of_le hj (Nat.le_add_right _ _))), b95]
      · rw [em]
        refine (S.ad (t := t) (v := v) nt t6 ft).fr ?_ ?_ ?_
        · rw [up_o (by decide), up_o (by decide), up_o (by decide), up_o (by decide), b93]
        · rw [up_f, up_f, up_o (x := 94) (a := 95) (by decide), up_o (x := 94) (a := 95) (by decide), up_o (x := 94) (a := 93) (by decide), b94]
        · rw [up_o (x := 95) (a := 94) (by decide), up_o (x := 95) (a := 94) (by decide), up_f, up_f, up_o (x := 95) (a := 93) (by decide), b95]
