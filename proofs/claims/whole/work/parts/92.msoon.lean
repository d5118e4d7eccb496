/-! The reference's moves -/
theorem ld0_of {mv : Nat → Nat → Nat → Option Nat} {c0 : Nat} {gl : Nat → Prop} {H c : Nat} (r : RS mv c0 H c) (g : gl c) : LD mv c0 gl H 0 c0 := by
  have ldh : LD mv c0 gl H H c := LD_H.mpr ⟨r, g⟩
  obtain ⟨c', z1, z2⟩ := LD_0 (d := 0) (Nat.zero_le H) (by rw [Nat.sub_zero]; exact ldh) (by rw [Nat.sub_zero]; exact r)
  rw [z2] at z1
  exact z1
theorem snp_ex {ρ : Nat → Int} {P : List (Int × Int)} {a n H : Nat} {f : Int} (hH : H ≤ 24) (ex : ∃ c, RS (mvC ρ P a n) (c0C ρ a) H c ∧ glC ρ a n f c) (ng : ∀ h c, h < H → RS (mvC ρ P a n) (c0C ρ a) h c → ¬ glC ρ a n f c) : ∃ m, SNP ρ P a n f (H : Int) m ∧ ∀ j c x, j < H → GP (mvC ρ P a n) (c0C ρ a) (glC ρ a n f) H (j + 1) c x → m j = (x : Int) := by
  obtain ⟨c, c1, c2⟩ := id ex
  have ld0 := ld0_of c1 c2
  have g : ∀ j : Nat, ∃ x : Nat, j < H → ∃ c, GP (mvC ρ P a n) (c0C ρ a) (glC ρ a n f) H (j + 1) c x := fun j => by
    by_cases h : j < H
    · obtain ⟨c', x', r1, r2, g2, _, _, _⟩ := GP_ls ld0 (h := j + 1) h
      exact ⟨x', fun _ => ⟨c', g2⟩⟩
    · exact ⟨0, fun z => absurd z h⟩
  refine ⟨fun j => ((Classical.choose (g j) : Nat) : Int), Or.inl ⟨H, hH, rfl, ex, ng, fun j hj => ?_⟩, fun j c x hj hg => ?_⟩
  · obtain ⟨c', hc⟩ := Classical.choose_spec (g j) hj
    exact ⟨c', _, hc, rfl⟩
  · obtain ⟨c', hc⟩ := Classical.choose_spec (g j) hj
    have u := GP_u hc hg
    show ((Classical.choose (g j) : Nat) : Int) = (x : Int)
    rw [u.2]
theorem m_path {X : mXX} {d : Nat} {Q : Option mV → mS → Prop} {σ α : Nat → Nat → Int} {ρ : Nat → Int} {P : List (Int × Int)} {a n H wh : Nat} {v1 f : Int} (w : WF ρ) (er : α 110 = ρ) (l : lwM α 6 10 P) (o : lwO 3 P) (hz : ((a + n : Nat) : Int) ≤ ρ 2) (hn : 0 < n) (hH : H ≤ 24) (hwh : wh < H) (L : ∀ h, h ≤ H → LV (α 123) ρ a h (LD (mvC ρ P a n) (c0C ρ a) (glC ρ a n f) H h)) (hQ : ∀ α' c x, Fα [115, 116, 118] α α' → GP (mvC ρ P a n) (c0C ρ a) (glC ρ a n f) H (wh + 1) c x → Q (some (vI (x : Int))) (S0, σ, α')) : ∀ (m h c x : Nat) (γ : Nat → Nat → Int) (x10 : Option mV), h + m = wh + 1 → Fα [115, 116, 118] α γ → c < 64 → GP (mvC ρ P a n) (c0C ρ a) (glC ρ a n f) H h c x → LD (mvC ρ P a n) (c0C ρ a) (glC ρ a n f) H h c → Go X (d + 7) 198 105 [some (vR 104), some (vI v1), some (vI f), some (vI (wh : Int)), some (vI (a : Int)), some (vI ((a + n - 1 : Nat) : Int)), some (vI (H : Int)), some (vI ((ocC ρ a c : Nat) : Int)), some (vI (x : Int)), some (vI (h : Int)), x10] [] (S0, σ, γ) (0, 0) Q := by
  have ha : (a : Int) < ρ 2 := by omega
  intro m
  induction m with
  | zero =>
    intro h c x γ x10 hm hf c6 g ld
    have e : h = wh + 1 := hm
    subst e
    have lt : (wh : Int) < ((wh + 1 : Nat) : Int) := by omega
    exact vc198_105 ⟨fun _ => hQ γ c x hf g, fun q => absurd lt q⟩
  | succ m ih =>
    intro h c x γ x10 hm hf c6 g ld
    have hl : ¬ (wh : Int) < (h : Int) := by omega
    have hH1 : h < H := by omega
    have h24 : h < 24 := by omega
    have h25 : h < 25 := by omega
    have hm1 : h + 1 + m = wh + 1 := by omega
    have eh := wrS (k := h) (by omega)
    have ld' := (LD_s hH1).mp ld
    have fc := (rs_ok w hz hn ld'.1).2
    obtain ⟨v0, v5, ⟨t0, vt, vl⟩, vn⟩ := least_of (p := fun v => ∃ t, mvC ρ P a n h c v = some t ∧ LD (mvC ρ P a n) (c0C ρ a) (glC ρ a n f) H (h + 1) t) (n := 5) (by obtain ⟨v, t, q1, q2, q3⟩ := ld'.2; exact ⟨v, q1, t, q2, q3⟩)
    have beh : ∀ (v : Nat) (δ : Nat → Nat → Int) (K : Option mV → mS → Prop), Fα [115, 116, 118] α δ → (∀ ε, Fα [115, 116, 118] α ε → K (some (vI (bhC ρ P a n h c v))) (S0, σ, ε)) → Ca X (d + 7) 201 [vR 104, vI (a : Int), vI ((a + n - 1 : Nat) : Int), vI (h : Int), vI ((ocC ρ a c : Nat) : Int), vI (v : Int)] (S0, σ, δ) K := by
      intro v δ K hd hK
      have ed : δ 110 = ρ := (hd 110 (by decide)).trans er
      have eo : ((ocC ρ a c : Nat) : Int) = ((ocC (δ 110) a c : Nat) : Int) := by rw [ed]
      rw [eo]
      refine m_behind (P := P) (n := n) (h := h) (c := c) (v := v) (by rw [ed]; exact w) (l.st (by rw [ed, er]) (hd 111 (by decide)) (hd 112 (by decide))) o (by rw [ed]; exact hz) hn h25 c6 (by rw [ed]; exact fc) ?_
      intro ε he
      rw [ed]
      exact hK ε (hd.tr he)
    have inner : ∀ (u v : Nat) (δ : Nat → Nat → Int), v + u = v0 → Fα [115, 116, 118] α δ → Go X (d + 7) 198 130 [some (vR 104), some (vI v1), some (vI f), some (vI (wh : Int)), some (vI (a : Int)), some (vI ((a + n - 1 : Nat) : Int)), some (vI (H : Int)), some (vI ((ocC ρ a c : Nat) : Int)), some (vI (v : Int)), some (vI (h : Int)), some (vI (bhC ρ P a n h c v))] [] (S0, σ, δ) (0, 0) Q := by
      intro u
      induction u with
      | zero =>
        intro v δ hv hd
        have e : v = v0 := hv
        subst e
        have t6 := (mv_ok w vt).1
        have ot := (oc_p w ha t6).2.2
        have im : 225 * (h + 1) + ocC ρ a t0 < 5625 := (ixO (h := h + 1) (by clear eh; omega) ot).2
        have d3 : δ 123 = α 123 := hd 123 (by decide)
        rw [bh_y vt]
        refine vc198_130 ⟨fun q => absurd q (Int.not_lt.mpr (Int.natCast_nonneg _)), fun _ => ?_⟩
        rw [ixO1 h24 ot]
        refine ⟨mInA_n im, ?_⟩
        rw [Int.toNat_natCast, d3]
        rcases L (h + 1) hH1 (ocC ρ a t0) ot with ⟨b1, c', c6', ec', Dc⟩ | ⟨b0, nb⟩
        · rw [b1]
          refine ⟨fun _ => ?_, fun q => absurd q (by decide)⟩
          rw [eh]
          exact ih (h + 1) t0 v δ _ hm1 hd t6 ⟨c, x, g, v5, vt, vl, fun v' t' q1 q2 q3 => vn v' q1 ⟨t', q2, q3⟩⟩ vl
        · exact absurd vl (nb t0 t6 rfl)
      | succ u ihu =>
        intro v δ hv hd
        have vlt : v < v0 := by clear eh; omega
        have vu : v + 1 + u = v0 := by clear eh; omega
        have ev := wrS (k := v) (by clear eh; omega)
        have d3 : δ 123 = α 123 := hd 123 (by decide)
        have nxt : Ca X (d + 7) 201 [vR 104, vI (a : Int), vI ((a + n - 1 : Nat) : Int), vI (h : Int), vI ((ocC ρ a c : Nat) : Int), vI (wr ((v : Int) + 1))] (S0, σ, δ) (fun r s' => aI r (fun n_1 => Go X (d + 7) 198 171 [some (vR 104), some (vI v1), some (vI f), some (vI (wh : Int)), some (vI (a : Int)), some (vI ((a + n - 1 : Nat) : Int)), some (vI (H : Int)), some (vI ((ocC ρ a c : Nat) : Int)), some (vI (wr ((v : Int) + 1))), some (vI (h : Int)), some (vI (bhC ρ P a n h c v))] [vI n_1] s' (0, 0) Q)) := by
          rw [ev]
          refine beh (v + 1) δ _ hd (fun ε he => ?_)
          refine vc198_171 ?_
          exact ihu (v + 1) ε vu he
        cases hm2 : mvC ρ P a n h c v with
        | none =>
          rw [bh_n hm2] at nxt ⊢
          exact vc198_130 ⟨fun _ => nxt, fun q => absurd (by decide) q⟩
        | some t =>
          have t6 := (mv_ok w hm2).1
          have ot := (oc_p w ha t6).2.2
          have im : 225 * (h + 1) + ocC ρ a t < 5625 := (ixO (h := h + 1) (by clear eh ev; omega) ot).2
          rw [bh_y hm2] at nxt ⊢
          refine vc198_130 ⟨fun _ => nxt, fun _ => ?_⟩
          rw [ixO1 h24 ot]
          refine ⟨mInA_n im, ?_⟩
          rw [Int.toNat_natCast, d3]
          rcases L (h + 1) hH1 (ocC ρ a t) ot with ⟨b1, c', c6', ec', Dc⟩ | ⟨b0, nb⟩
          · have ect : c' = t := oc_inj w ha c6' t6 ec'
            rw [ect] at Dc
            exact absurd ⟨t, hm2, Dc⟩ (vn v vlt)
          · rw [b0]
            exact ⟨fun q => absurd rfl q, fun _ => nxt⟩
    refine vc198_105 ⟨fun q => absurd q hl, fun _ => ?_⟩
    refine beh 0 γ _ hf (fun ε he => ?_)
    refine vc198_128 ?_
    exact inner v0 0 ε (Nat.zero_add _) he
theorem m_soon {X : mXX} {d : Nat} {Q : Option mV → mS → Prop} {σ α : Nat → Nat → Int} {P : List (Int × Int)} {b f what : Int} (w : WF (α 110)) (l : lwM α 6 10 P) (o : lwO 3 P) (h1 : snB (α 110) b f what → ∀ α' r, Fα ZL α α' → SNA (α 110) P (fsN (α 110) b.toNat) (szR (α 110) b.toNat) f what r → Q (some (vI r)) (S0, mUp σ 104 0 0, α')) (h0 : ¬ snB (α 110) b f what → Q (some (vI (-1))) (S0, mUp σ 104 0 0, α)) : Ca X (d + 9) 198 [vR 104, vI b, vI f, vI what] (S0, σ, α) Q := by
  unfold snB at h1 h0
  refine vc198_0 ?_
  refine m_isBoat ?_
  by_cases hb : 0 ≤ b ∧ b < α 110 2
  · rw [show hbR (α 110) b = 1 from if_pos hb]
    obtain ⟨k, hk⟩ := Int.eq_ofNat_of_zero_le hb.1
    subst hk
    rw [Int.toNat_natCast] at h1
    have k7 := w.m7 hb.2
    have f7 : 0 ≤ (k : Int) ∧ (k : Int) < 7 := by clear h1 h0; omega
    have p := prt_of hb.2
    refine vc198_10 ⟨fun q => absurd q (by decide), fun _ => ?_⟩
    refine m_within ?_
    by_cases hf : 0 ≤ f ∧ f ≤ 999
    · rw [wi1 hf]
      refine vc198_21 ⟨fun q => absurd q (by decide), fun _ => ⟨fun q3 => ?_, fun q => h0 (fun z => absurd z.2.2 (Int.not_le.mpr q))⟩⟩
      have hwh : -1 ≤ what := Int.not_lt.mp q3
      have hQ := h1 ⟨hb, hf, hwh⟩
      clear h1 h0
      refine m_first w f7 ?_
      rw [fR_e]
      refine vc198_36 ?_
      refine m_last w hb ?_
      rw [lR_e hb.2]
      have hz := p.2.1
      have hn := p.1
      generalize fsN (α 110) k = a at *
      generalize szR (α 110) k = n at *
      have ha : (a : Int) < α 110 2 := by clear hf hwh f7; omega
      refine vc198_43 ?_
      refine m_findSoon (ρ := α 110) (P := P) w rfl l o hz hn ?_
      intro β r hfb S
      rcases S with ⟨H, hH, er, ex, ng, R⟩ | ⟨ng, er⟩
      · subst er
        obtain ⟨m, S, hm⟩ := snp_ex hH ex ng
        have nH : ¬ (H : Int) < 0 := by clear hf hwh f7; omega
        refine vc198_54 ⟨fun q => absurd q nH, fun _ => ⟨fun q => ⟨fun q2 => absurd q q2, fun _ => ?_⟩, fun q => ⟨fun q2 => ?_, fun q2 => ⟨fun _ => ?_, fun q3 => absurd q3 q⟩⟩⟩⟩
        · exact hQ β _ (hfb.wk (by decide)) ⟨(H : Int), m, S, by rw [if_pos q]⟩
        · obtain ⟨wh, hwn⟩ := Int.eq_ofNat_of_zero_le (show 0 ≤ what by clear hf f7; omega)
          subst hwn
          have whH : wh < H := Int.ofNat_lt.mp q2
          have eb : β 110 = α 110 := hfb 110 (by decide)
          have lb : lwM β 6 10 P := l.st (by rw [eb]) (hfb 111 (by decide)) (hfb 112 (by decide))
          refine m_findLeads (ρ := α 110) (P := P) (H := H) (f := f) w eb lb o hz hn hH R ?_
          intro γ hg L
          refine vc198_95 ?_
          have eg : γ 110 = α 110 := (hg 110 (by decide)).trans eb
          obtain ⟨c, c1, c2⟩ := ex
          have c0 := c0_ok w hz hn
          have r := m_path (X := X) (d := d + 1) (Q := Q) (σ := mUp σ 104 0 0) (α := γ) (ρ := α 110) (P := P) (v1 := (k : Int)) (f := f) w eg (lb.st (by rw [eg, eb]) (hg 111 (by decide)) (hg 112 (by decide))) o hz hn hH whH L (fun ε c' x he g => hQ ε _ (((hfb.wk (by decide)).tr hg).tr (he.wk (by decide))) ⟨(H : Int), m, S, ?_⟩) (wh + 1) 0 (c0C (α 110) a) 0 γ none (Nat.zero_add _) Fα.rf c0.1 ⟨rfl, rfl⟩ (ld0_of c1 c2)
          · rw [oc_0 w ha] at r
            exact r
          · rw [if_neg q, if_pos q2, Int.toNat_natCast, hm wh c' x whH g]
        · exact hQ β _ (hfb.wk (by decide)) ⟨(H : Int), m, S, by rw [if_neg q, if_neg q2]⟩
      · subst er
        have S : SNP (α 110) P a n f (-1) (fun _ => 0) := Or.inr ⟨ng, rfl⟩
        refine vc198_54 ⟨fun _ => ⟨fun q => ?_, fun q => ?_⟩, fun q => absurd (by decide) q⟩
        · exact hQ β _ (hfb.wk (by decide)) ⟨-1, _, S, by rw [if_neg q, if_neg (Int.not_lt.mpr hwh)]⟩
        · exact hQ β _ (hfb.wk (by decide)) ⟨-1, _, S, by rw [if_pos q]⟩
    · rw [wi0 hf]
      exact vc198_21 ⟨fun _ => h0 (fun z => hf z.2.1), fun q => absurd rfl q⟩
  · rw [show hbR (α 110) b = 0 from if_neg hb]
    exact vc198_10 ⟨fun _ => h0 (fun z => hb z.1), fun q => absurd rfl q⟩
