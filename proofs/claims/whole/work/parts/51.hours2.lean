theorem m_hours {X : mXX} {d : Nat} {Q : Option mV → mS → Prop} {σ α : Nat → Nat → Int} {P : List (Int × Int)} {v : Int} (w : WF (α 110)) (l : lwM α 6 10 P) (o : lwO 3 P) (h3 : α 110 3 + 100 ≤ 100000) (hQ : ∀ α', Fα [110, 115, 116, 118, 119, 120, 121] α α' → α' 110 = (if 1 ≤ v ∧ v ≤ 100 then hrR (α 110) P v.toNat else α 110) → Q (some (vI (if 1 ≤ v ∧ v ≤ 100 then α 110 3 + v else -1))) (S0, mUp σ 104 0 0, α')) : Ca X (d + 8) 182 [vR 104, vI v] (S0, σ, α) Q := by
  refine vc182_0 ?_
  refine m_within ?_
  by_cases hv : 1 ≤ v ∧ v ≤ 100
  · rw [if_pos hv] at hQ
    rw [if_pos hv] at hQ
    rw [wi1 hv]
    refine vc182_12 ⟨fun _ => ?_, fun q => absurd q (by decide)⟩
    obtain ⟨N, hN⟩ := Int.eq_ofNat_of_zero_le (show 0 ≤ v by omega)
    subst hN
    have n1 : N ≤ 100 := by omega
    rw [Int.toNat_natCast] at hQ
    have key : ∀ (m k : Nat) (γ : Nat → Nat → Int), k + m = N → Fα [110, 115, 116, 118, 119, 120, 121] α γ → γ 110 = hrR (α 110) P k → Go X (d + 7) 182 19 [some (vR 104), some (vI (N : Int)), some (vI (k : Int))] [] (S0, mUp σ 104 0 0, γ) (0, 0) Q := by
      intro m
      induction m with
      | zero =>
        intro k γ hk hf e
        have ek : k = N := hk
        subst ek
        have hr := hr_all (P := P) w (n := k) (by omega)
        have h33 : γ 110 3 = α 110 3 + (k : Int) := by rw [e]; exact hr.2.2
        refine vc182_19 ⟨fun _ => ?_, fun q => absurd q (by omega)⟩
        rw [h33]
        exact hQ γ hf e
      | succ m ih =>
        intro k γ hk hf e
        have kl : (k : Int) < (N : Int) := by omega
        have ek := wrS (k := k) (by omega)
        have km : k + 1 + m = N := by omega
        have hr := hr_all (P := P) w (n := k) (by omega)
        have hr3 : hrR (α 110) P k 3 < 100000 := by rw [hr.2.2]; omega
        refine vc182_19 ⟨fun q => absurd kl q, fun _ => ?_⟩
        refine m_passes (P := P) (by rw [e]; exact hr.1) (l.st (by rw [e]; exact hr.2.1.n (by decide) (by decide)) (hf 111 (by decide)) (hf 112 (by decide))) o (by rw [e]; exact hr3) ?_
        intro δ hd ed
        refine vc182_28 ?_
        rw [ek]
        refine ih (k + 1) δ km (hf.tr hd) ?_
        rw [ed, e]; rfl
    exact key N 0 α (Nat.zero_add _) Fα.rf rfl
  · rw [if_neg hv] at hQ
    rw [if_neg hv] at hQ
    rw [wi0 hv]
    exact vc182_12 ⟨fun q => absurd rfl q, fun _ => hQ α Fα.rf rfl⟩
/-- the class -/
theorem CI.en {σ α α' : Nat → Nat → Int} {ρ : Nat → Int} {P W : List (Int × Int)} {s : FS} {h : Int} (C : CI σ α ρ P W) (w : WF ρ) (f : Fα ZS α α') (eh : h = ρ 3 + 1) (h1 : ∀ c, c < 64 → α' 41 c = min (s.1 c + 1) (ρ (11 + 3 * c))) (h2 : ∀ b : Nat, (b : Int) < ρ 2 → α' 44 b = s.2 b) (h3 : ∀ b, b < 7 → α' 45 b = 0) (h4 : α' 42 = α 42) (h5 : α' 43 = α 43) (h6 : α' 46 = α 46) (h7 : α' 47 = α 47) : CI (mUp σ 40 1 h) α' (enR ρ s) P W := by
  refine C.st f (up_n (by omega)) (up_n (by omega)) (C.1.st w (en_tld w.n7) f (fun k => up_n (by omega)) ?_ (fun c hc => ?_) (fun b hb => ?_) (fun k hk => ?_))
  · rw [up_s, en_3]; exact eh
  · rw [en_f hc]; exact h1 c hc
  · have r := C.1.b hb
    rw [h4, h5, h6, en_x (Or.inl rfl), en_x (Or.inr (Or.inl rfl)), en_h hb, en_x (Or.inr (Or.inr rfl)), en_w hb]
    exact ⟨r.2.1, r.2.2.1, h2 b hb, r.2.2.2.2.2.2.2.2.2.1, h3 b (w.m7 hb)⟩
  · rw [h7, en_l w.n7]; exact (C.1.l hk).2.2
theorem c_hour {X : mXX} {d : Nat} {Q : Option mV → mS → Prop} {σ α : Nat → Nat → Int} {ρ : Nat → Int} {P W : List (Int × Int)} {x1 x2 : Int} (C : CI σ α ρ P W) (w : WF ρ) (o : lwO 3 P) (h3 : ρ 3 < 100000) (hx : x2 < x1) (hQ : ∀ α', Fα [36, 41, 42, 43, 44, 45, 47, 82, 83, 85, 87, 88] α α' → CI (mUp σ 40 1 (ρ 3 + 1)) α' (passR ρ P) P W → Go X (d + 6) 107 72 [some (vR 0), some (vI x1), some (vI x2)] [] (S0, mUp σ 40 1 (ρ 3 + 1), α') (0, 0) Q) : Go X (d + 6) 107 15 [some (vR 0), some (vI x1), some (vI x2)] [] (S0, σ, α) (0, 0) Q := by
  have w2 := w.2.2.1
  have hz : wr (ρ 2 - 1) = ((0 + (ρ 2).toNat : Nat) : Int) - 1 := by rw [wr_of (by omega) (by omega)]; omega
  have n0 := n_z w2.1
  have r2 := C.1.2.2.1
  have r3 := C.1.2.2.2.2.2.1
  refine vc107_15 ⟨fun q => absurd hx q, fun _ => ?_⟩
  refine c_sail C w ?_
  intro β hb Cb
  refine vc107_27 ?_
  refine c_tear Cb (go_wf w w.n7) o ?_
  intro γ hg Cg
  have Cg' : CI σ γ (psR ρ P) P W := Cg
  refine vc107_34 ?_
  rw [r2, hz]
  have hzz : ((0 + (ρ 2).toNat : Nat) : Int) ≤ psR ρ P 2 := by rw [ps_2.1, n0]; exact Int.le_refl _
  refine c_haul (a := 0) (n := (ρ 2).toNat) Cg'.1 (ps_wf w) hzz rfl (in0 (ps_wf w) hzz) ?_
  intro δ hd Fd
  refine vc107_53 ?_
  have Cd := Cg'.fr hd
  have nn : (((ρ 2).toNat : Nat) : Int) = psR ρ P 2 := by rw [ps_2.1]; exact Int.toNat_of_nonneg w2.1
  refine c_keep Cd.1 (ps_wf w) (ps_fb w) Fd nn ?_
  intro ε he E1 E2
  refine vc107_61 ?_
  refine c_endH (ps_wf w) (ps_fb w) E1 (fun c hc => by rw [he 25 (by decide)]; exact (Cd.1.c hc).2.1) ?_
  intro ζ hze Z1 Z2
  rw [r3, nhr w.2.2.2.1.1 h3]
  refine hQ ζ (((hb.wk (by decide)).tr (hg.wk (by decide))).tr ((hd.wk (by decide)).tr ((he.wk (by decide)).tr (hze.wk (by decide))))) ?_
  refine Cd.en (ps_wf w) ((he.wk (by decide)).tr (hze.wk (by decide))) (by rw [ps_2.2]) Z1 (fun b hbb => ?_) Z2 ?_ ?_ ?_ ?_
  · rw [hze 44 (by decide)]
    refine E2 b ?_
    rw [ps_2.1] at hbb
    exact ltN hbb
  · rw [hze 42 (by decide), he 42 (by decide)]
  · rw [hze 43 (by decide), he 43 (by decide)]
  · rw [hze 46 (by decide), he 46 (by decide)]
  · rw [hze 47 (by decide), he 47 (by decide)]
theorem c_hours {X : mXX} {d : Nat} {Q : Option mV → mS → Prop} {σ α : Nat → Nat → Int} {ρ : Nat → Int} {P W : List (Int × Int)} {v : Int} (C : CI σ α ρ P W) (w : WF ρ) (o : lwO 3 P) (h3 : ρ 3 + 100 ≤ 100000) (hQ : ∀ σ' α', Fσ [(40, 1)] σ σ' → Fα [36, 41, 42, 43, 44, 45, 47, 82, 83, 85, 87, 88] α α' → CI σ' α' (if 1 ≤ v ∧ v ≤ 100 then hrR ρ P v.toNat else ρ) P W → Q (some (vI (if 1 ≤ v ∧ v ≤ 100 then ρ 3 + v else -1))) (S0, σ', α')) : Ca X (d + 7) 107 [vR 0, vI v] (S0, σ, α) Q := by
  refine vc107_0 ?_
  by_cases hv : 1 ≤ v ∧ v ≤ 100
  · rw [if_pos hv] at hQ
    rw [if_pos hv] at hQ
    refine ⟨fun q => absurd hv.1 (by omega), fun _ => ⟨fun _ => ?_, fun q => absurd q (by omega)⟩⟩
    obtain ⟨N, hN⟩ := Int.eq_ofNat_of_zero_le (show 0 ≤ v by omega)
    subst hN
    have n1 : N ≤ 100 := by omega
    rw [Int.toNat_natCast] at hQ
    have key : ∀ (m k : Nat) (σ1 γ : Nat → Nat → Int), k + m = N → Fσ [(40, 1)] σ σ1 → Fα [36, 41, 42, 43, 44, 45, 47, 82, 83, 85, 87, 88] α γ → CI σ1 γ (hrR ρ P k) P W → Go X (d + 6) 107 15 [some (vR 0), some (vI (N : Int)), some (vI (k : Int))] [] (S0, σ1, γ) (0, 0) Q := by
      intro m
      induction m with
      | zero =>
        intro k σ1 γ hk hs hf C'
        have ek : k = N := hk
        subst ek
        have hr := hr_all (P := P) w (n := k) (by omega)
        have h33 : σ1 40 1 = ρ 3 + (k : Int) := by rw [C'.1.2.2.2.2.2.1]; exact hr.2.2
        refine vc107_15 ⟨fun _ => ?_, fun q => absurd q (by omega)⟩
        rw [h33]
        exact hQ σ1 γ hs hf C'
      | succ m ih =>
        intro k σ1 γ hk hs hf C'
        have kl : (k : Int) < (N : Int) := by omega
        have ek := wrS (k := k) (by omega)
        have km : k + 1 + m = N := by omega
        have hr := hr_all (P := P) w (n := k) (by omega)
        have hr3 : hrR ρ P k 3 < 100000 := by rw [hr.2.2]; omega
        refine c_hour C' hr.1 o hr3 kl ?_
        intro δ hd Cd
        refine vc107_72 ?_
        rw [ek]
        exact ih (k + 1) _ δ km (hs.tr (Fσ.up (by decide))) (hf.tr hd) Cd
    exact key N 0 σ α (Nat.zero_add _) Fσ.rf Fα.rf C
  · rw [if_neg hv] at hQ
    rw [if_neg hv] at hQ
    refine ⟨fun _ => hQ σ α Fσ.rf Fα.rf C, fun q => ⟨fun q2 => absurd hv (by omega), fun _ => hQ σ α Fσ.rf Fα.rf C⟩⟩
