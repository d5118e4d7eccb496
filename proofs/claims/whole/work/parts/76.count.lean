/-! Counts -/
def ptR (ρ : Nat → Int) : Nat → Int
  | 0 => 0
  | n + 1 => ptR ρ n + (if n = 0 then 1 else ρ (292 + 3 * (n - 1)))
theorem pt_b {ρ : Nat → Int} (w : WF ρ) : ∀ {n : Nat}, n ≤ 7 → 0 ≤ ptR ρ n ∧ ptR ρ n ≤ (n : Int)
  | 0, _ => by
    show (0 : Int) ≤ 0 ∧ (0 : Int) ≤ ((0 : Nat) : Int)
    decide
  | n + 1, h => by
    have ih := pt_b w (n := n) (by omega)
    show 0 ≤ ptR ρ n + (if n = 0 then 1 else ρ (292 + 3 * (n - 1))) ∧ ptR ρ n + (if n = 0 then 1 else ρ (292 + 3 * (n - 1))) ≤ ((n + 1 : Nat) : Int)
    by_cases e : n = 0
    · rw [if_pos e]
      generalize ptR ρ n = u at *
      omega
    · rw [if_neg e]
      have t := (w.l (k := n - 1) (by omega)).2.2
      generalize ptR ρ n = u at *
      generalize ρ (292 + 3 * (n - 1)) = v at *
      omega
theorem npt {s v : Int} {n : Nat} (h : 0 ≤ s + v ∧ s + v ≤ (n : Int)) (hn : n ≤ 7) : wr (s + v) = s + v := wr_of (by omega) (by omega)
theorem c_parts {X : mXX} {d : Nat} {Q : Option mV → mS → Prop} {σ α : Nat → Nat → Int} {ρ : Nat → Int} {n : Nat} (R : Rep σ α ρ) (w : WF ρ) (hn : ρ 2 = (n : Int)) (hQ : Q (some (vI (ptR ρ n))) (S0, σ, α)) : Ca X (d + 1) 26 [vR 84] (S0, σ, α) Q := by
  have n7 : n ≤ 7 := by have := w.2.2.1.2; omega
  have r2 : σ 23 2 = (n : Int) := R.2.2.1.trans hn
  refine vc26_0 ?_
  rw [r2]
  by_cases h0 : n = 0
  · subst h0
    refine ⟨fun _ => ?_, fun q => absurd q (by decide)⟩
    refine vc26_18 ⟨fun _ => hQ, fun q => absurd q ?_⟩
    rw [r2]
    decide
  · have e1 : wr ((n : Int) - 1) = ((n - 1 : Nat) : Int) := by rw [wr_of (by omega) (by omega)]; omega
    have np : (0 : Int) < (n : Int) := by clear e1; omega
    refine ⟨fun q => absurd np q, fun _ => ?_⟩
    have key : ∀ (m k : Nat), k + m = n - 1 → Go X d 26 18 [some (vR 84), some (vI (ptR ρ (k + 1))), some (vI (k : Int))] [] (S0, σ, α) (0, 0) Q := by
      intro m
      induction m with
      | zero =>
        intro k hk
        have e : k + 1 = n := by clear e1; omega
        have nk : ¬ (k : Int) < ((n - 1 : Nat) : Int) := by clear e1; omega
        rw [e]
        exact vc26_18 ⟨fun _ => hQ, fun q => absurd q (by rw [r2, e1]; exact nk)⟩
      | succ m ih =>
        intro k hk
        have kl : (k : Int) < ((n - 1 : Nat) : Int) := by clear e1; omega
        have km : k + 1 + m = n - 1 := by clear e1; omega
        have k6 : k < 6 := by clear e1; omega
        have k27 : k + 1 + 1 ≤ 7 := by clear e1; omega
        have ek := wrS (k := k) (by clear e1; omega)
        have pb := pt_b w k27
        have es : ptR ρ (k + 1 + 1) = ptR ρ (k + 1) + ρ (292 + 3 * k) := by
          show ptR ρ (k + 1) + (if k + 1 = 0 then 1 else ρ (292 + 3 * (k + 1 - 1))) = _
          rw [if_neg (Nat.succ_ne_zero k)]; rfl
        have i1 := ih (k + 1) km
        rw [es] at i1 pb
        refine vc26_18 ⟨fun q => absurd (by rw [r2, e1]; exact kl) q, fun _ => ⟨mInA_n k6, ?_⟩⟩
        rw [Int.toNat_natCast, (R.l k6).2.2, ek, npt pb k27]
        exact i1
    exact key (n - 1) 0 (Nat.zero_add _)
theorem nsf {s v : Int} {n : Nat} (h : 0 ≤ s + v ∧ s + v ≤ 99 * (n : Int)) (hn : n ≤ 64) : wr (s + v) = s + v := wr_of (by omega) (by omega)
def fiS (ρ : Nat → Int) (n : Nat) : Int := smF (fun c => ρ (12 + 3 * c)) 0 n
def haS (ρ : Nat → Int) (n : Nat) : Int := smF (fun b => ρ (210 + 12 * b)) 0 n
theorem fi_b {ρ : Nat → Int} (w : WF ρ) {n : Nat} (h : n ≤ 64) : 0 ≤ fiS ρ n ∧ fiS ρ n ≤ 99 * (n : Int) := smF_bd (fun c _ hc => ⟨(w.c (c := c) (by omega)).2.1, Int.le_trans (w.c (c := c) (by omega)).2.2.1 (w.c (c := c) (by omega)).2.2.2⟩)
theorem ha_b {ρ : Nat → Int} (w : WF ρ) {n : Nat} (h : (n : Int) ≤ ρ 2) : 0 ≤ haS ρ n ∧ haS ρ n ≤ 99 * (n : Int) := smF_bd (fun b _ hb => by
  have hb2 : (b : Int) < ρ 2 := by omega
  have h1 := (w.b hb2).2.2.2.2.2.2.2.2.1
  exact ⟨h1.1, Int.le_trans h1.2 (FB.h99 w hb2).2⟩)
theorem c_sumF {X : mXX} {d : Nat} {Q : Option mV → mS → Prop} {σ α : Nat → Nat → Int} {ρ : Nat → Int} (R : Rep σ α ρ) (w : WF ρ) (hQ : Q (some (vI (fiS ρ 64))) (S0, σ, α)) : Ca X (d + 1) 122 [vR 41, vI 64] (S0, σ, α) Q := by
  refine vc122r41_0 ?_
  have key : ∀ (m c : Nat), c + m = 64 → Go X d 122 4 [some (vR 41), some (vI 64), some (vI (fiS ρ c)), some (vI (c : Int))] [] (S0, σ, α) (0, 0) Q := by
    intro m
    induction m with
    | zero =>
      intro c hc
      have e : c = 64 := hc
      subst e
      exact vc122r41_4 ⟨fun _ => hQ, fun q => absurd q (by decide)⟩
    | succ m ih =>
      intro c hc
      have cl : (c : Int) < 64 := by omega
      have c6 : c < 64 := by omega
      have cm : c + 1 + m = 64 := by omega
      have ek := wrS (k := c) (by omega)
      have fb := fi_b w (n := c + 1) c6
      have es : fiS ρ (c + 1) = fiS ρ c + ρ (12 + 3 * (0 + c)) := rfl
      rw [Nat.zero_add] at es
      have i1 := ih (c + 1) cm
      rw [es] at i1 fb
      refine vc122r41_4 ⟨fun q => absurd cl q, fun _ => ⟨fun q => absurd cl q, fun _ => ⟨mInA_n c6, ?_⟩⟩⟩
      rw [Int.toNat_natCast, (R.c c6).2.2, ek, nsf fb c6]
      exact i1
  exact key 64 0 (Nat.zero_add _)
theorem c_sumH {X : mXX} {d : Nat} {Q : Option mV → mS → Prop} {σ α : Nat → Nat → Int} {ρ : Nat → Int} {n : Nat} (R : Rep σ α ρ) (w : WF ρ) (hn : ρ 2 = (n : Int)) (hQ : Q (some (vI (haS ρ n))) (S0, σ, α)) : Ca X (d + 1) 122 [vR 44, vI (n : Int)] (S0, σ, α) Q := by
  have n7 : n ≤ 7 := by have := w.2.2.1.2; omega
  refine vc122r44_0 ?_
  have key : ∀ (m c : Nat), c + m = n → Go X d 122 4 [some (vR 44), some (vI (n : Int)), some (vI (haS ρ c)), some (vI (c : Int))] [] (S0, σ, α) (0, 0) Q := by
    intro m
    induction m with
    | zero =>
      intro c hc
      have e : c = n := hc
      subst e
      exact vc122r44_4 ⟨fun _ => hQ, fun q => absurd q (Int.lt_irrefl _)⟩
    | succ m ih =>
      intro c hc
      have cl : (c : Int) < (n : Int) := by omega
      have cl7 : (c : Int) < 7 := by omega
      have c7 : c < 7 := by omega
      have c64 : c + 1 ≤ 64 := by omega
      have cm : c + 1 + m = n := by omega
      have cr : (c : Int) < ρ 2 := by omega
      have cr1 : ((c + 1 : Nat) : Int) ≤ ρ 2 := by omega
      have ek := wrS (k := c) (by omega)
      have fb := ha_b w (n := c + 1) cr1
      have es : haS ρ (c + 1) = haS ρ c + ρ (210 + 12 * (0 + c)) := rfl
      rw [Nat.zero_add] at es
      have i1 := ih (c + 1) cm
      rw [es] at i1 fb
      refine vc122r44_4 ⟨fun q => absurd cl q, fun _ => ⟨fun q => absurd cl7 q, fun _ => ⟨mInA_n c7, ?_⟩⟩⟩
      rw [Int.toNat_natCast, (R.b cr).2.2.2.2.2.2.2.2.1, ek, nsf fb c64]
      exact i1
  exact key n 0 (Nat.zero_add _)
def coV (ρ : Nat → Int) (n : Nat) (len : Int) : Nat → Int
  | 0 => ρ 0
  | 1 => ρ 1
  | 2 => ρ 2
  | 3 => ρ 3
  | 4 => ptR ρ n
  | 5 => fiS ρ 64
  | 6 => haS ρ n
  | 7 => ρ 4
  | 8 => ρ 5
  | 9 => len
  | _ => -1
def coR (ρ : Nat → Int) (n : Nat) (len v : Int) : Int := if v < 0 ∨ 9 < v then -1 else coV ρ n len v.toNat
theorem c_count {X : mXX} {d : Nat} {Q : Option mV → mS → Prop} {σ α : Nat → Nat → Int} {ρ : Nat → Int} {n : Nat} {v : Int} (R : Rep σ α ρ) (w : WF ρ) (hn : ρ 2 = (n : Int)) (hQ : Q (some (vI (coR ρ n (σ 1 1) v))) (S0, σ, α)) : Ca X (d + 2) 121 [vR 0, vI v] (S0, σ, α) Q := by
  unfold coR at hQ
  refine vc121_0 ⟨fun q => ?_, fun q => ?_, fun q => ?_, fun q => ?_, fun q => ?_, fun q => ?_, fun q => ?_, fun q => ?_, fun q => ?_, fun q => ?_, fun q => ?_, trivial⟩
  · rw [if_pos q] at hQ; exact hQ
  · subst q; rw [if_neg (by decide)] at hQ; rw [R.1]; exact hQ
  · subst q; rw [if_neg (by decide)] at hQ; rw [R.2.1]; exact hQ
  · subst q; rw [if_neg (by decide)] at hQ; rw [R.2.2.1]; exact hQ
  · subst q; rw [if_neg (by decide)] at hQ; rw [R.2.2.2.2.2.1]; exact hQ
  · subst q; rw [if_neg (by decide)] at hQ
    exact c_parts R w hn (vc121_95 hQ)
  · subst q; rw [if_neg (by decide)] at hQ
    exact c_sumF R w (vc121_108 hQ)
  · subst q; rw [if_neg (by decide)] at hQ
    rw [R.2.2.1, hn]
    exact c_sumH R w hn (vc121_126 hQ)
  · subst q; rw [if_neg (by decide)] at hQ; rw [R.2.2.2.1]; exact hQ
  · subst q; rw [if_neg (by decide)] at hQ; rw [R.2.2.2.2.1]; exact hQ
  · subst q; rw [if_neg (by decide)] at hQ; exact hQ
theorem m_count {X : mXX} {d : Nat} {Q : Option mV → mS → Prop} {σ α : Nat → Nat → Int} {n : Nat} {v : Int} (w : WF (α 110)) (hn : α 110 2 = (n : Int)) (hQ : Q (some (vI (coR (α 110) n (σ 104 2) v))) (S0, mUp σ 104 0 0, α)) : Ca X (d + 3) 223 [vR 104, vI v] (S0, σ, α) Q := by
  have n7 : n ≤ 7 := by have := w.2.2.1.2; omega
  unfold coR at hQ
  refine vc223_0 ⟨fun q => ?_, fun q => ?_, fun q => ?_, fun q => ?_, fun q => ?_, fun q => ?_, fun q => ?_, fun q => ?_, fun q => ?_, fun q => ?_, fun q => ?_, trivial⟩
  · rw [if_pos q] at hQ; exact hQ
  · subst q; rw [if_neg (by decide)] at hQ; exact hQ
  · subst q; rw [if_neg (by decide)] at hQ; exact hQ
  · subst q; rw [if_neg (by decide)] at hQ
    refine vc159_0 ?_
    exact vc223_82 hQ
  · subst q; rw [if_neg (by decide)] at hQ; exact hQ
  · subst q; rw [if_neg (by decide)] at hQ
    have key : ∀ (m b : Nat), b + m = n → Go X (d + 2) 223 92 [some (vR 104), some (vI (0 + 1 + 1 + 1 + 1)), some (vI (ptR (α 110) b)), some (vI (b : Int))] [] (S0, mUp σ 104 0 0, α) (0, 0) Q := by
      intro m
      induction m with
      | zero =>
        intro b hb
        have e : b = n := hb
        subst e
        refine vc223_92 ?_
        refine vc159_0 ?_
        rw [hn]
        exact vc223_97 ⟨fun _ => hQ, fun q => absurd q (Int.lt_irrefl _)⟩
      | succ m ih =>
        intro b hb
        have bl : (b : Int) < (n : Int) := by omega
        have bm : b + 1 + m = n := by omega
        have b7 : b + 1 ≤ 7 := by omega
        have bb : 0 ≤ (b : Int) ∧ (b : Int) < 7 := by omega
        have b5 : b < 6 + 1 := by omega
        have ek := wrS (k := b) (by omega)
        have pb := pt_b w b7
        have es : ptR (α 110) (b + 1) = ptR (α 110) b + (if b = 0 then 1 else α 110 (292 + 3 * (b - 1))) := rfl
        have i1 := ih (b + 1) bm
        have ev : (if fsN (α 110) b = b then (1 : Int) else 0) = (if b = 0 then 1 else α 110 (292 + 3 * (b - 1))) := by
          rcases Nat.eq_zero_or_pos b with e | e
          · subst e; rfl
          · obtain ⟨c, rfl⟩ : ∃ c, b = c + 1 := ⟨b - 1, by clear ek pb es; omega⟩
            rw [if_neg (Nat.succ_ne_zero c)]
            show (if (if α 110 (292 + 3 * c) = 0 then fsN (α 110) c else c + 1) = c + 1 then (1 : Int) else 0) = α 110 (292 + 3 * c)
            have t := (w.l (k := c) (Nat.lt_of_succ_lt_succ b5)).2.2
            have fl := fsN_le (α 110) c
            rcases t with t | t
            · rw [t, if_pos rfl, if_neg (by clear ek pb es t; omega)]
            · rw [t, if_neg (show ¬ (1 : Int) = 0 by decide), if_pos rfl]
        rw [es, ← ev] at i1 pb
        refine vc223_92 ?_
        refine vc159_0 ?_
        rw [hn]
        refine vc223_97 ⟨fun q => absurd bl q, fun _ => ?_⟩
        refine m_first w bb ?_
        rw [fR_e]
        refine vc223_106 ⟨fun q => ?_, fun q => ?_⟩
        · rw [if_neg (fun z => q (congrArg (Nat.cast (R := Int)) z))] at i1 pb
          rw [ek, npt pb b7]
          exact i1
        · rw [if_pos (Int.ofNat_inj.mp q)] at i1 pb
          rw [ek, npt pb b7]
          exact i1
    exact key n 0 (Nat.zero_add _)
  · subst q; rw [if_neg (by decide)] at hQ
    have key : ∀ (m c : Nat), c + m = 64 → Go X (d + 2) 223 127 [some (vR 104), some (vI (0 + 1 + 1 + 1 + 1 + 1)), some (vI (fiS (α 110) c)), some (vI (c : Int))] [] (S0, mUp σ 104 0 0, α) (0, 0) Q := by
      intro m
      induction m with
      | zero =>
        intro c hc
        have e : c = 64 := hc
        subst e
        exact vc223_127 ⟨fun _ => hQ, fun q => absurd q (by decide)⟩
      | succ m ih =>
        intro c hc
        have cl : (c : Int) < 64 := by omega
        have c6 : c < 64 := by omega
        have ci : 12 + 3 * c < 2240 := by omega
        have cm : c + 1 + m = 64 := by omega
        have ek := wrS (k := c) (by omega)
        have fb := fi_b w (n := c + 1) c6
        have es : fiS (α 110) (c + 1) = fiS (α 110) c + α 110 (12 + 3 * (0 + c)) := rfl
        rw [Nat.zero_add] at es
        have i1 := ih (c + 1) cm
        rw [es] at i1 fb
        refine vc223_127 ⟨fun q => absurd cl q, fun _ => ?_⟩
        rw [ixF2 c6]
        refine ⟨mInA_n ci, ?_⟩
        rw [Int.toNat_natCast, ek, nsf fb c6]
        exact i1
    exact key 64 0 (Nat.zero_add _)
  · subst q; rw [if_neg (by decide)] at hQ
    have key : ∀ (m c : Nat), c + m = n → Go X (d + 2) 223 159 [some (vR 104), some (vI (0 + 1 + 1 + 1 + 1 + 1 + 1)), some (vI (haS (α 110) c)), some (vI (c : Int))] [] (S0, mUp σ 104 0 0, α) (0, 0) Q := by
      intro m
      induction m with
      | zero =>
        intro c hc
        have e : c = n := hc
        subst e
        refine vc223_159 ?_
        refine vc159_0 ?_
        rw [hn]
        exact vc223_164 ⟨fun _ => hQ, fun q => absurd q (Int.lt_irrefl _)⟩
      | succ m ih =>
        intro c hc
        have cl : (c : Int) < (n : Int) := by omega
        have cb : 0 ≤ (c : Int) ∧ (c : Int) < 7 := by omega
        have c64 : c + 1 ≤ 64 := by omega
        have cm : c + 1 + m = n := by omega
        have cr1 : ((c + 1 : Nat) : Int) ≤ α 110 2 := by omega
        have ek := wrS (k := c) (by omega)
        have fb := ha_b w (n := c + 1) cr1
        have es : haS (α 110) (c + 1) = haS (α 110) c + α 110 (210 + 12 * (0 + c)) := rfl
        rw [Nat.zero_add] at es
        have i1 := ih (c + 1) cm
        rw [es] at i1 fb
        refine vc223_159 ?_
        refine vc159_0 ?_
        rw [hn]
        refine vc223_164 ⟨fun q => absurd cl q, fun _ => ?_⟩
        refine m_of cb ?_
        rw [oo8]
        refine vc223_175 ?_
        rw [ek, nsf fb c64]
        exact i1
    exact key n 0 (Nat.zero_add _)
  · subst q; rw [if_neg (by decide)] at hQ; exact hQ
  · subst q; rw [if_neg (by decide)] at hQ; exact hQ
  · subst q; rw [if_neg (by decide)] at hQ; exact hQ
