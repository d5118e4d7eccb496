/-! How soon, in the reference: what is reached -/
def LV (A : Nat → Int) (ρ : Nat → Int) (a h : Nat) (D : Nat → Prop) : Prop := ∀ k, k < 225 → (A (225 * h + k) = 1 ∧ ∃ c, c < 64 ∧ ocC ρ a c = k ∧ D c) ∨ (A (225 * h + k) = 0 ∧ ∀ c, c < 64 → ocC ρ a c = k → ¬ D c)
theorem LV.cg {A : Nat → Int} {ρ : Nat → Int} {a h : Nat} {D D' : Nat → Prop} (l : LV A ρ a h D) (e : ∀ c, c < 64 → (D c ↔ D' c)) : LV A ρ a h D' := fun k hk => by
  rcases l k hk with ⟨l1, c, c1, c2, c3⟩ | ⟨l1, l2⟩
  · exact Or.inl ⟨l1, c, c1, c2, (e c c1).mp c3⟩
  · exact Or.inr ⟨l1, fun c c1 c2 c3 => l2 c c1 c2 ((e c c1).mpr c3)⟩
theorem LV.fr {A A' : Nat → Int} {ρ : Nat → Int} {a h : Nat} {D : Nat → Prop} (l : LV A ρ a h D) (e : ∀ k, k < 225 → A' (225 * h + k) = A (225 * h + k)) : LV A' ρ a h D := fun k hk => by
  rw [e k hk]; exact l k hk
/-- one more -/
theorem LV.ad {A : Nat → Int} {ρ : Nat → Int} {a h t : Nat} {D : Nat → Prop} (w : WF ρ) (ha : (a : Int) < ρ 2) (l : LV A ρ a h D) (t6 : t < 64) : LV (fun i => if i = 225 * h + ocC ρ a t then 1 else A i) ρ a h (fun c => D c ∨ c = t) := fun k hk => by
  show ((if 225 * h + k = 225 * h + ocC ρ a t then (1 : Int) else A (225 * h + k)) = 1 ∧ _) ∨ ((if 225 * h + k = 225 * h + ocC ρ a t then (1 : Int) else A (225 * h + k)) = 0 ∧ _)
  by_cases e : k = ocC ρ a t
  · rw [if_pos (by rw [e])]
    exact Or.inl ⟨rfl, t, t6, e.symm, Or.inr rfl⟩
  · rw [if_neg (fun q => e (Nat.add_left_cancel q))]
    rcases l k hk with ⟨l1, c, c1, c2, c3⟩ | ⟨l1, l2⟩
    · exact Or.inl ⟨l1, c, c1, c2, Or.inl c3⟩
    · refine Or.inr ⟨l1, fun c c1 c2 c3 => ?_⟩
      rcases c3 with c3 | c3
      · exact l2 c c1 c2 c3
      · rw [c3] at c2; exact e c2.symm
theorem m_isGoal {X : mXX} {d : Nat} {Q : Option mV → mS → Prop} {σ α : Nat → Nat → Int} {a n c : Nat} {f : Int} (w : WF (α 110)) (hz : ((a + n : Nat) : Int) ≤ α 110 2) (hn : 0 < n) (c6 : c < 64) (fc : fiC (α 110) a n c = 1) (h1 : glC (α 110) a n f c → ∀ α', Fα [120, 121] α α' → Q (some (vI 1)) (S0, σ, α')) (h0 : ¬ glC (α 110) a n f c → ∀ α', Fα [120, 121] α α' → Q (some (vI 0)) (S0, σ, α')) : Ca X (d + 6) 200 [vR 104, vI (a : Int), vI ((a + n - 1 : Nat) : Int), vI ((ocC (α 110) a c : Nat) : Int), vI f] (S0, σ, α) Q := by
  have ha : (a : Int) < α 110 2 := by omega
  have op := oc_p w ha c6
  refine vc200_0 ?_
  rw [op.1, op.2.1]
  refine m_catches w hz (pez hn) (fi_in w fc) ?_
  intro β hb _
  unfold glC at h1 h0
  exact vc200_20 ⟨fun q => h0 (fun z => z q) β hb, fun q => h1 q β hb⟩
theorem ixO {h k : Nat} (hh : h < 25) (hk : k < 225) : wr (wr (225 * (h : Int)) + (k : Int)) = ((225 * h + k : Nat) : Int) ∧ 225 * h + k < 5625 := by
  refine ⟨?_, by omega⟩
  rw [wr_of (x := 225 * (h : Int)) (by omega) (by omega), wr_of (by omega) (by omega)]; omega
theorem ixO1 {h k : Nat} (hh : h < 24) (hk : k < 225) : wr (wr (225 * wr ((h : Int) + 1)) + (k : Int)) = ((225 * (h + 1) + k : Nat) : Int) := by
  rw [wrS (k := h) (by omega)]
  exact (ixO (h := h + 1) (by omega) hk).1
def ZN : List Nat := [115, 116, 118, 120, 121, 122]
/-- what is reached at hour h + 1 from offsets before k, and from k by ways before v -/
def PR (ρ : Nat → Int) (P : List (Int × Int)) (a n h k v t : Nat) : Prop := ∃ c u, RS (mvC ρ P a n) (c0C ρ a) h c ∧ u < 5 ∧ mvC ρ P a n h c u = some t ∧ (ocC ρ a c < k ∨ (ocC ρ a c = k ∧ u < v))
theorem pr_k {ρ : Nat → Int} {P : List (Int × Int)} {a n h k t : Nat} : PR ρ P a n h k 5 t ↔ PR ρ P a n h (k + 1) 0 t := by
  constructor
  · intro ⟨c, u, h1, h2, h3, h4⟩
    exact ⟨c, u, h1, h2, h3, Or.inl (by omega)⟩
  · intro ⟨c, u, h1, h2, h3, h4⟩
    exact ⟨c, u, h1, h2, h3, by omega⟩
theorem pr_no {ρ : Nat → Int} {P : List (Int × Int)} {a n h k v t : Nat} (w : WF ρ) (hz : ((a + n : Nat) : Int) ≤ ρ 2) (hn : 0 < n) (no : ∀ c, c < 64 → ocC ρ a c = k → ¬ RS (mvC ρ P a n) (c0C ρ a) h c) : PR ρ P a n h k v t ↔ PR ρ P a n h (k + 1) 0 t := by
  constructor
  · intro ⟨c, u, h1, h2, h3, h4⟩
    exact ⟨c, u, h1, h2, h3, Or.inl (by omega)⟩
  · intro ⟨c, u, h1, h2, h3, h4⟩
    refine ⟨c, u, h1, h2, h3, Or.inl ?_⟩
    have ne : ocC ρ a c ≠ k := fun e => no c (rs_ok w hz hn h1).1 e h1
    omega
theorem m_fs2 {X : mXX} {d : Nat} {Q : Option mV → mS → Prop} {σ α : Nat → Nat → Int} {ρ : Nat → Int} {P : List (Int × Int)} {a n h : Nat} {f : Int} (w : WF ρ) (er : α 110 = ρ) (l : lwM α 6 10 P) (o : lwO 3 P) (hz : ((a + n : Nat) : Int) ≤ ρ 2) (hn : 0 < n) (hh : h < 24) (hQ : ∀ γ x5 x6 x7, Fα ZN α γ → (∀ j, j < 225 * (h + 1) → γ 122 j = α 122 j) → (∀ j, 225 * (h + 2) ≤ j → γ 122 j = α 122 j) → LV (γ 122) ρ a (h + 1) (RS (mvC ρ P a n) (c0C ρ a) (h + 1)) → Go X (d + 7) 199 39 [some (vR 104), some (vI (a : Int)), some (vI ((a + n - 1 : Nat) : Int)), some (vI f), some (vI (wr ((h : Int) + 1))), x5, x6, x7] [] (S0, σ, γ) (0, 0) Q) (L0 : LV (α 122) ρ a h (RS (mvC ρ P a n) (c0C ρ a) h)) : ∀ (m k : Nat) (γ : Nat → Nat → Int) (x6 x7 : Option mV), k + m = 225 → Fα ZN α γ → (∀ j, j < 225 * (h + 1) → γ 122 j = α 122 j) → (∀ j, 225 * (h + 2) ≤ j → γ 122 j = α 122 j) → LV (γ 122) ρ a (h + 1) (PR ρ P a n h k 0) → Go X (d + 7) 199 98 [some (vR 104), some (vI (a : Int)), some (vI ((a + n - 1 : Nat) : Int)), some (vI f), some (vI (h : Int)), some (vI (k : Int)), x6, x7] [] (S0, σ, γ) (0, 0) Q := by
  have ha : (a : Int) < ρ 2 := by omega
  have hhi : (h : Int) < 24 := by omega
  intro m
  induction m with
  | zero =>
    intro k γ x6 x7 hk hf lo hi L
    have e : k = 225 := hk
    subst e
    refine vc199_98 ⟨fun _ => hQ γ _ _ _ hf lo hi (L.cg (fun c c6 => ?_)), fun q => absurd q (by decide)⟩
    constructor
    · intro ⟨c', u, h1, h2, h3, _⟩
      exact ⟨c', u, h1, h2, h3⟩
    · intro ⟨c', u, h1, h2, h3⟩
      exact ⟨c', u, h1, h2, h3, Or.inl (oc_p w ha (rs_ok w hz hn h1).1).2.2⟩
  | succ m ih =>
    intro k γ x6 x7 hk hf lo hi L
    have kl : (k : Int) < 225 := by omega
    have k2 : k < 225 := by omega
    have km : k + 1 + m = 225 := by omega
    have ek := wrS (k := k) (by omega)
    have ix := ixO (h := h) (k := k) (by clear ek; omega) k2
    have lok : 225 * h + k < 225 * (h + 1) := by clear ek ix; omega
    have hgt : ∀ t, t < 225 → 225 * (h + 1) ≤ 225 * (h + 1) + t ∧ 225 * (h + 1) + t < 225 * (h + 2) := by clear ek ix; intro t ht; omega
    refine vc199_98 ⟨fun q => absurd kl q, fun _ => ⟨fun q => absurd hhi q, fun _ => ?_⟩⟩
    rcases L0 k k2 with ⟨a1, c, c6, ec, rs⟩ | ⟨a0, no⟩
    · have fc := (rs_ok w hz hn rs).2
      have inner : ∀ (u v : Nat) (δ : Nat → Nat → Int) (y7 : Option mV), v + u = 5 → Fα ZN α δ → (∀ j, j < 225 * (h + 1) → δ 122 j = α 122 j) → (∀ j, 225 * (h + 2) ≤ j → δ 122 j = α 122 j) → LV (δ 122) ρ a (h + 1) (PR ρ P a n h k v) → Go X (d + 7) 199 116 [some (vR 104), some (vI (a : Int)), some (vI ((a + n - 1 : Nat) : Int)), some (vI f), some (vI (h : Int)), some (vI (k : Int)), some (vI (v : Int)), y7] [] (S0, σ, δ) (0, 0) Q := by
        intro u
        induction u with
        | zero =>
          intro v δ y7 hv hd lo2 hi2 L2
          have e : v = 5 := hv
          subst e
          refine vc199_116 ⟨fun _ => ?_, fun q => absurd q (by decide)⟩
          rw [ek]
          exact ih (k + 1) δ _ _ km hd lo2 hi2 (L2.cg (fun c _ => pr_k))
        | succ u ihu =>
          intro v δ y7 hv hd lo2 hi2 L2
          have vl : (v : Int) < 5 := by clear ek ix; omega
          have v5 : v < 5 := by clear ek ix; omega
          have vm : v + 1 + u = 5 := by clear ek ix; omega
          have ev := wrS (k := v) (by clear ek ix; omega)
          have ed : δ 110 = ρ := (hd 110 (by decide)).trans er
          refine vc199_116 ⟨fun q => absurd vl q, fun _ => ?_⟩
          rw [ix.1]
          refine ⟨mInA_n ix.2, ?_⟩
          rw [Int.toNat_natCast, lo2 _ lok, a1]
          refine ⟨fun q => absurd q (by decide), fun _ => ?_⟩
          have eo : (k : Int) = ((ocC (δ 110) a c : Nat) : Int) := by rw [ed, ec]
          rw [eo]
          refine m_behind (P := P) (n := n) (h := h) (c := c) (v := v) (by rw [ed]; exact w) (l.st (by rw [ed, er]) (hd 111 (by decide)) (hd 112 (by decide))) o (by rw [ed]; exact hz) hn (Nat.lt_succ_of_lt hh) c6 (by rw [ed]; exact fc) ?_
          intro ε he
          rw [← eo, ed]
          have hde := hd.tr (he.wk (show ∀ q ∈ [115, 116, 118], q ∈ ZN by decide))
          have e22 : ε 122 = δ 122 := he 122 (by decide)
          refine vc199_151 ⟨fun q => ?_, fun q => ?_⟩
          · rw [ev]
            refine ihu (v + 1) ε _ vm hde (fun j hj => by rw [e22]; exact lo2 j hj) (fun j hj => by rw [e22]; exact hi2 j hj) ?_
            rw [e22]
            refine L2.cg (fun t t6 => ?_)
            have nm : mvC ρ P a n h c v = none := by
              cases hm2 : mvC ρ P a n h c v with
              | none => rfl
              | some t' =>
                rw [bh_y hm2] at q
                exact absurd q (Int.not_lt.mpr (Int.natCast_nonneg _))
            constructor
            · intro ⟨c', u', h1, h2, h3, h4⟩
              exact ⟨c', u', h1, h2, h3, h4.imp id (fun z => ⟨z.1, Nat.lt_succ_of_lt z.2⟩)⟩
            · intro ⟨c', u', h1, h2, h3, h4⟩
              refine ⟨c', u', h1, h2, h3, ?_⟩
              rcases h4 with z | ⟨z1, z2⟩
              · exact Or.inl z
              · refine Or.inr ⟨z1, Nat.lt_of_le_of_ne (Nat.le_of_lt_succ z2) (fun e => ?_)⟩
                have ecc : c' = c := oc_inj w ha (rs_ok w hz hn h1).1 c6 (z1.trans ec.symm)
                rw [ecc, e, nm] at h3
                exact absurd h3 (by simp)
          · cases hm2 : mvC ρ P a n h c v with
            | none =>
              rw [bh_n hm2] at q
              exact absurd (by decide) q
            | some t =>
              have t6 := (mv_ok w hm2).1
              have ot := (oc_p w ha t6).2.2
              rw [bh_y hm2, ixO1 hh ot, ev]
              have im : 225 * (h + 1) + ocC ρ a t < 5625 := (ixO (h := h + 1) (by clear ek ix ev; omega) ot).2
              refine ⟨mInA_n im, ?_⟩
              rw [Int.toNat_natCast]
              have hg := hgt (ocC ρ a t) ot
              refine ihu (v + 1) _ _ vm (hde.tr (Fα.up (by decide))) (fun j hj => ?_) (fun j hj => ?_) ?_
              · rw [up_a, if_neg (Nat.ne_of_lt (Nat.lt_of_lt_of_le hj hg.1)), e22]; exact lo2 j hj
              · rw [up_a, if_neg (Nat.ne_of_gt (Nat.lt_of_lt_of_le hg.2 hj)), e22]; exact hi2 j hj
              · rw [up_f, e22]
                refine (L2.ad w ha t6).cg (fun s s6 => ?_)
                constructor
                · intro z
                  rcases z with ⟨c', u', h1, h2, h3, h4⟩ | z
                  · exact ⟨c', u', h1, h2, h3, h4.imp id (fun z => ⟨z.1, Nat.lt_succ_of_lt z.2⟩)⟩
                  · rw [z]; exact ⟨c, v, rs, v5, hm2, Or.inr ⟨ec, Nat.lt_succ_self v⟩⟩
                · intro ⟨c', u', h1, h2, h3, h4⟩
                  rcases h4 with z | ⟨z1, z2⟩
                  · exact Or.inl ⟨c', u', h1, h2, h3, Or.inl z⟩
                  · by_cases e : u' = v
                    · have ecc : c' = c := oc_inj w ha (rs_ok w hz hn h1).1 c6 (z1.trans ec.symm)
                      rw [ecc, e, hm2] at h3
                      exact Or.inr (Option.some.inj h3).symm
                    · exact Or.inl ⟨c', u', h1, h2, h3, Or.inr ⟨z1, Nat.lt_of_le_of_ne (Nat.le_of_lt_succ z2) e⟩⟩
      exact inner 5 0 γ x7 (Nat.zero_add _) hf lo hi L
    · refine vc199_116 ⟨fun q => absurd (by decide) q, fun _ => ?_⟩
      rw [ix.1]
      refine ⟨mInA_n ix.2, ?_⟩
      rw [Int.toNat_natCast, lo _ lok, a0]
      refine ⟨fun _ => ?_, fun q => absurd rfl q⟩
      rw [ek]
      exact ih (k + 1) γ _ _ km hf lo hi (L.cg (fun c _ => pr_no w hz hn no))
