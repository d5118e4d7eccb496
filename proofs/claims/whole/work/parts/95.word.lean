theorem c_wordN {X : mXX} {d : Nat} {Q : Option mV → mS → Prop} {σ α : Nat → Nat → Int} {T : Nat → Int} {q e : Nat} (hT : α 2 = T) (he : e ≤ 1000) (hqe : q ≤ e) (hl : ltL (chL T q e)) (s2 : σ 1 2 = (q : Int)) (s3 : σ 1 3 = (e : Int)) (hQ : Q (some (vI ((wnW (chL T q e) : Nat) : Int))) (S0, σ, α)) : Ca X (d + 5) 70 [vR 1] (S0, σ, α) Q := by
  refine vc70_0 ?_
  have key : ∀ (m w : Nat) (x2 x3 x4 : Option mV), w + m = 29 → wnF (chL T q e) m w = wnW (chL T q e) → Go X (d + 4) 70 2 [some (vR 1), some (vI (w : Int)), x2, x3, x4] [] (S0, σ, α) (0, 0) Q := by
    intro m
    induction m with
    | zero =>
      intro w x2 x3 x4 hw ew
      have e9 : w = 29 := hw
      subst e9
      have ew' : 29 = wnW (chL T q e) := ew
      refine vc70_2 ⟨fun _ => ?_, fun q => absurd q (by decide)⟩
      rw [← ew'] at hQ
      exact hQ
    | succ m ih =>
      intro w x2 x3 x4 hw ew
      have wl : (w : Int) < 29 := by clear ew; omega
      have w9 : w < 29 := by clear ew; omega
      have wm : w + 1 + m = 29 := by clear ew; omega
      have ek := wrS (k := w) (by clear ew; omega)
      have wb := wd_b ⟨w, w9⟩
      have es : wnF (chL T q e) (m + 1) w = if chL T q e = wdA w then w else wnF (chL T q e) m (w + 1) := rfl
      refine vc70_2 ⟨fun q => absurd wl q, fun _ => ?_⟩
      have neq : (∃ i, i < 8 ∧ (chL T q e).getD i 32 ≠ (wdA w).getD i 32) → ∀ y2 y3 y4, Go X (d + 4) 70 2 [some (vR 1), some (vI (wr ((w : Int) + 1))), y2, y3, y4] [] (S0, σ, α) (0, 0) Q := by
        intro ⟨i, i8, hi⟩ y2 y3 y4
        rw [ek]
        refine ih (w + 1) y2 y3 y4 wm ?_
        rw [← ew, es, if_neg (fun z => hi (by rw [z]))]
      have inner : ∀ (u i : Nat) (b : Int) (y4 : Option mV), i + u = 8 → ((b = 1 ∧ ∀ j, j < i → (chL T q e).getD j 32 = (wdA w).getD j 32) ∨ (b = 0 ∧ ∃ j, j < 8 ∧ (chL T q e).getD j 32 ≠ (wdA w).getD j 32)) → Go X (d + 4) 70 12 [some (vR 1), some (vI (w : Int)), some (vI b), some (vI (i : Int)), y4] [] (S0, σ, α) (0, 0) Q := by
        intro u
        induction u with
        | zero =>
          intro i b y4 hi hb
          have e8 : i = 8 := hi
          subst e8
          refine vc70_12 ⟨fun _ => ⟨fun q0 => ?_, fun q0 => ?_⟩, fun q => absurd q (by decide)⟩
          · rcases hb with hb | hb
            · rw [hb.1] at q0; exact absurd q0 (by decide)
            · exact neq hb.2 _ _ _
          · rcases hb with hb | hb
            · have ee : chL T q e = wdA w := pad_eq hl (wd_lt w9) hb.2
              have : wnW (chL T q e) = w := (wn_iff w9).mpr ee
              rw [this] at hQ
              exact hQ
            · exact absurd hb.1 q0
        | succ u ihu =>
          intro i b y4 hi hb
          have il : (i : Int) < 8 := by clear ew es ek hb wb; omega
          have i8 : i < 8 := by clear ew es ek hb wb; omega
          have iu : i + 1 + u = 8 := by clear ew es ek hb wb; omega
          have e2 : wr ((q : Int) + (i : Int)) = ((q + i : Nat) : Int) := by clear ew es ek hb wb; rw [wr_of (by omega) (by omega)]; omega
          have ei := wrS (k := i) (by clear ew es ek hb wb e2; omega)
          have iw := ixw w9 i8
          refine vc70_12 ⟨fun q => absurd il q, fun _ => ⟨fun q0 => ⟨fun _ => ?_, fun q1 => absurd q0 q1⟩, fun q0 => ?_⟩⟩
          · rcases hb with hb | hb
            · rw [hb.1] at q0; exact absurd q0 (by decide)
            · exact neq hb.2 _ _ _
          · have hb1 : ∀ j, j < i → (chL T q e).getD j 32 = (wdA w).getD j 32 := by
              rcases hb with hb | hb
              · exact hb.2
              · exact absurd hb.1 q0
            have hch := ch_g (T := T) (q := q) (e := e) (i := i)
            have hbw : bW (8 * w + i) = (wdA w).getD i 32 := wb.1 ⟨i, i8⟩
            have go : ∀ c : Int, c = (chL T q e).getD i 32 → Go X (d + 4) 70 66 [some (vR 1), some (vI (w : Int)), some (vI b), some (vI (i : Int)), some (vI c)] [vI (bW (8 * w + i)), vI c] (S0, σ, α) (0, 0) Q := by
              intro c hc
              refine vc70_66 ⟨fun q1 => ?_, fun q1 => ?_⟩
              · rw [ei]
                exact ihu (i + 1) 0 _ iu (Or.inr ⟨rfl, i, i8, by rw [← hc, ← hbw]; exact q1⟩)
              · rw [ei]
                refine ihu (i + 1) 1 _ iu (Or.inl ⟨rfl, fun j hj => ?_⟩)
                by_cases ej : j = i
                · rw [ej, ← hc, ← hbw]; exact q1
                · exact hb1 j (Nat.lt_of_le_of_ne (Nat.le_of_lt_succ hj) ej)
            rw [s2, e2, s3, hT, iw.1]
            refine ⟨fun q1 => c_charAt iw.2 (go 32 ?_), fun q1 => ⟨mInA_n ?_, c_charAt iw.2 ?_⟩⟩
            · rw [hch, if_neg (fun z => q1 (Int.ofNat_lt.mpr z))]
            · exact Nat.lt_of_lt_of_le (Int.ofNat_lt.mp q1) he
            · rw [Int.toNat_natCast]
              exact go _ (by rw [hch, if_pos (Int.ofNat_lt.mp q1)])
      exact inner 8 0 1 x4 (Nat.zero_add _) (Or.inl ⟨rfl, fun j hj => absurd hj (Nat.not_lt_zero j)⟩)
  exact key 29 0 none none none (Nat.zero_add _) rfl
