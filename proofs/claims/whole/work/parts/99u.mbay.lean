/-! A bay is told: the reference -/
theorem pgP.sh {A B A' B' : Nat → Int} {c : Nat} : ∀ {P : pRow} {p : Nat}, pgP A B (c + p) P → (∀ t, p ≤ t → t < p + P.length → A' t = A (c + t) ∧ B' t = B (c + t)) → pgP A' B' p P
  | [], _, _, _ => trivial
  | q :: P, p, h, g => by
    have g0 := g p (Nat.le_refl _) (by rw [len_c]; omega)
    refine ⟨g0.1.trans h.1, g0.2.trans h.2.1, pgP.sh (P := P) (p := p + 1) h.2.2 (fun t t1 t2 => g t (by omega) (by rw [len_c]; exact t2))⟩
/-- the laws lie where no draft is written -/
def lwB (α : Nat → Nat → Int) (P W : pRow) : Prop := (0 ≤ α 110 6 → (α 110 6).toNat + P.length < 1100) ∧ (0 ≤ α 110 7 → (α 110 7).toNat + W.length < 1100)
theorem lwD.mv {α β : Nat → Nat → Int} {cd : Nat} {n : Int} {P0 P : pRow} (h : lwD α cd n P0 P) (hc : cd ≤ 1000) (e : ∀ t, t < cd → β 111 t = α 111 (1100 + t) ∧ β 112 t = α 112 (1100 + t)) : ((n < 0 ∧ P = P0) ∨ (0 ≤ n ∧ pgM (β 111) (β 112) n.toNat P)) ∧ (0 ≤ n → n.toNat + P.length < 1100) := by
  rcases h with ⟨h1, h2⟩ | ⟨p, h1, h2, h3, h4⟩
  · subst h1
    exact ⟨Or.inl ⟨by decide, h2⟩, fun q => absurd q (by decide)⟩
  · subst h1
    rw [Int.toNat_natCast]
    refine ⟨Or.inr ⟨Int.natCast_nonneg _, ?_⟩, fun _ => by clear e h2 h3; omega⟩
    refine pgP.en (pgP.sh h2 (fun t _ t2 => e t (by clear e h2 h3; omega))) ?_ (by clear e h2 h3; omega)
    rw [(e _ h4).1, ← h3, Nat.add_assoc]
/-- the laws' codes are carried -/
theorem m_codes {X : mXX} {d : Nat} {Q : Option mV → mS → Prop} {σ α : Nat → Nat → Int} {cd : Nat} (h13 : σ 104 13 = (cd : Int)) (hc : cd ≤ 1000) (h : ∀ α', Fα [111, 112] α α' → (∀ t, t < cd → α' 111 t = α 111 (1100 + t) ∧ α' 112 t = α 112 (1100 + t)) → Go X d 129 172 [some (vR 104), some (vI 0)] [] (S0, σ, α') (0, 0) Q) : Go X d 129 124 [some (vR 104), some (vI 0)] [] (S0, σ, α) (0, 0) Q := by
  have key : ∀ (g k : Nat) (γ : Nat → Nat → Int), k + g = cd → Fα [111, 112] α γ → (∀ t, t < k → γ 111 t = α 111 (1100 + t) ∧ γ 112 t = α 112 (1100 + t)) → (∀ t, k ≤ t → γ 111 t = α 111 t ∧ γ 112 t = α 112 t) → Go X d 129 124 [some (vR 104), some (vI (k : Int))] [] (S0, σ, γ) (0, 0) Q := by
    intro g
    induction g with
    | zero =>
      intro k γ hk E a b
      have ek : k = cd := hk
      subst ek
      exact vc129_124 ⟨fun _ => h γ E a, fun q => absurd q (by rw [h13]; exact Int.lt_irrefl _)⟩
    | succ g ih =>
      intro k γ hk E a b
      have kl : k < cd := by clear a b h13; omega
      have kl' : (k : Int) < σ 104 13 := by rw [h13]; exact Int.ofNat_lt.mpr kl
      have k1 : k + 1 + g = cd := by clear a b h13 kl'; omega
      have ek := wrS (k := k) (by clear a b h13 kl'; omega)
      have ex : wr (1100 + (k : Int)) = ((1100 + k : Nat) : Int) := by clear a b h13 kl' ek; rw [wr_of (by omega) (by omega)]; omega
      have i1 : mInA ((1100 + k : Nat) : Int) 2200 := mInA_n (by clear a b h13 kl' ek ex; omega)
      have i2 : mInA (k : Int) 2200 := mInA_n (by clear a b h13 kl' ek ex; omega)
      refine vc129_124 ⟨fun q => absurd kl' q, fun _ => ?_⟩
      rw [ex, Int.toNat_natCast, Int.toNat_natCast, ek]
      refine ⟨i1, i2, i1, i2, ?_⟩
      have b1 := b (1100 + k) (by clear a b h13 kl' ek ex; omega)
      refine ih (k + 1) _ k1 ((E.tr (Fα.up (by decide))).tr (Fα.up (by decide))) (fun t ht => ?_) (fun t ht => ?_)
      · rw [up_o (by decide), up_a, up_a, up_o (by decide), b1.1, b1.2]
        by_cases e : t = k
        · rw [if_pos e, if_pos e, e]; exact ⟨rfl, rfl⟩
        · rw [if_neg e, if_neg e]; exact a t (Nat.lt_of_le_of_ne (Nat.le_of_lt_succ ht) e)
      · rw [up_o (by decide), up_a, up_a, up_o (by decide), if_neg (Nat.ne_of_gt ht), if_neg (Nat.ne_of_gt ht)]
        exact b t (Nat.le_of_succ_le ht)
  exact key cd 0 α (Nat.zero_add _) Fα.rf (fun t ht => absurd ht (Nat.not_lt_zero t)) (fun _ _ => ⟨rfl, rfl⟩)
theorem m_clrM {X : mXX} {d : Nat} {Q : Option mV → mS → Prop} {σ α : Nat → Nat → Int} (h : ∀ α', Fα [117] α α' → (∀ m, m < 4 → α' 117 m = 0) → Q (some (vI 0)) (S0, σ, α')) : Go X d 129 227 [some (vR 104), some (vI 0)] [] (S0, σ, α) (0, 0) Q := by
  have key : ∀ (g k : Nat) (γ : Nat → Nat → Int), k + g = 4 → Fα [117] α γ → (∀ t, t < k → γ 117 t = 0) → Go X d 129 227 [some (vR 104), some (vI (k : Int))] [] (S0, σ, γ) (0, 0) Q := by
    intro g
    induction g with
    | zero =>
      intro k γ hk E a
      have ek : k = 4 := hk
      subst ek
      exact vc129_227 ⟨fun _ => h γ E a, fun q => absurd q (by decide)⟩
    | succ g ih =>
      intro k γ hk E a
      have k4 : k < 4 := by clear a; omega
      have kl' : (k : Int) < 4 := by clear a; omega
      have ek := wrS (k := k) (by clear a; omega)
      refine vc129_227 ⟨fun q => absurd kl' q, fun _ => ⟨mInA_n k4, ?_⟩⟩
      rw [Int.toNat_natCast, ek]
      refine ih (k + 1) _ (by clear a ek; omega) (E.tr (Fα.up (by decide))) (fun t ht => ?_)
      rw [up_a]
      by_cases e : t = k
      · rw [if_pos e]
      · rw [if_neg e]; exact a t (Nat.lt_of_le_of_ne (Nat.le_of_lt_succ ht) e)
  exact key 4 0 α (Nat.zero_add _) Fα.rf (fun t ht => absurd ht (Nat.not_lt_zero t))
theorem ix9 {k : Nat} (h : k < 6) : wr (290 + wr (3 * (k : Int))) = ((290 + 3 * k : Nat) : Int) ∧ wr (((290 + 3 * k : Nat) : Int) + 2) = ((292 + 3 * k : Nat) : Int) := by
  rw [wr_of (x := 3 * (k : Int)) (by omega) (by omega), wr_of (by omega) (by omega), wr_of (by omega) (by omega)]
  constructor <;> omega
/-- links that are torn as the bay begins -/
theorem m_begL {X : mXX} {d : Nat} {Q : Option mV → mS → Prop} {σ α : Nat → Nat → Int} {ρ : Nat → Int} (w : WF ρ) (z : ∀ k, k < 6 → ρ (292 + 3 * k) = 0) (h : ∀ α', Fα [110] α α' → loE (bgN ρ (bsN ρ)) (α' 110) → Go X (d + 2) 129 227 [some (vR 104), some (vI 0)] [] (S0, σ, α') (0, 0) Q) : ∀ (g k : Nat) (γ : Nat → Nat → Int), k + g = bsN ρ → Fα [110] α γ → loE (bgN ρ k) (γ 110) → Go X (d + 2) 129 172 [some (vR 104), some (vI (k : Int))] [] (S0, σ, γ) (0, 0) Q := by
  have b2 := w.2.2.1
  have s6 := bs_6 w
  intro g
  induction g with
  | zero =>
    intro k γ hk E L
    have ek : k = bsN ρ := hk
    have k6 : k ≤ 6 := by rw [ek]; exact s6
    have wk : WF (γ 110) := (bg_wf w z k6).lo L
    have e2 : γ 110 2 = ρ 2 := (L 2 (by decide)).trans (bg_lt (by decide))
    refine vc129_172 (m_links wk (vc129_177 ⟨fun _ => h γ E (by rw [← ek]; exact L), fun q => ?_⟩))
    rw [e2] at q
    have q2 : k < bsN ρ := Int.ofNat_lt.mp q
    exact absurd q2 (by rw [ek]; exact Nat.lt_irrefl _)
  | succ g ih =>
    intro k γ hk E L
    have kl : k < bsN ρ := by clear L E; omega
    have k6 : k < 6 := Nat.lt_of_lt_of_le kl s6
    have k1 : k + 1 + g = bsN ρ := by clear L E; omega
    have ek := wrS (k := k) (by clear L E; omega)
    have wk : WF (γ 110) := (bg_wf w z (Nat.le_of_lt k6)).lo L
    have e2 : γ 110 2 = ρ 2 := (L 2 (by decide)).trans (bg_lt (by decide))
    have hb : (k : Int) + 1 < γ 110 2 := by rw [e2]; exact bs_l2 b2 kl
    have ix := ix9 k6
    have j90 : 290 + 3 * k < 320 := by clear L E ek ix hb e2; omega
    have i1 : 290 + 3 * k < 2240 := by clear L E ek ix hb e2; omega
    have i2 : 292 + 3 * k < 2240 := by clear L E ek ix hb e2; omega
    have e90 : γ 110 (290 + 3 * k) = ρ (290 + 3 * k) := (L _ j90).trans (bg_o (fun i _ => by clear L E ek ix hb e2; omega))
    have ea : apR (γ 110) (k : Int) = apN ρ k := by
      rw [apR_N, ← bg_ap (ρ := ρ) (n := k) k6]
      unfold apN
      rw [L (203 + 12 * k) (by clear L E ek ix hb e2 e90; omega), L (203 + 12 * (k + 1)) (by clear L E ek ix hb e2 e90; omega), L (204 + 12 * k) (by clear L E ek ix hb e2 e90; omega), L (204 + 12 * (k + 1)) (by clear L E ek ix hb e2 e90; omega)]
    have go : ∀ v : Int, v = bg1 ρ k → Go X (d + 2) 129 172 [some (vR 104), some (vI ((k + 1 : Nat) : Int))] [] (S0, σ, mUp γ 110 (292 + 3 * k) v) (0, 0) Q := by
      intro v hv
      refine ih (k + 1) _ k1 (E.tr (Fα.up (by decide))) (fun j hj => ?_)
      rw [up_a]
      show _ = rU (bgN ρ k) (292 + 3 * k) (bg1 ρ k) j
      unfold rU
      rw [hv, L j hj]
    refine vc129_172 (m_links wk (vc129_177 ⟨fun q => absurd (by rw [e2]; exact Int.ofNat_lt.mpr kl) q, fun _ => ?_⟩))
    refine m_apart wk ⟨Int.natCast_nonneg _, hb⟩ (vc129_198 ?_)
    rw [ea, ix.1, ix.2, Int.toNat_natCast, Int.toNat_natCast, ek, e90]
    exact ⟨mInA_n i1, fun q => ⟨mInA_n i2, go 0 (if_neg q).symm⟩, fun q => ⟨mInA_n i2, go 1 (if_pos q).symm⟩⟩
def SMb : List (Nat × Nat) := (104, 0) :: (104, 2) :: (104, 3) :: SMm
theorem m_bay {X : mXX} {d : Nat} {Q : Option mV → mS → Prop} {σ α : Nat → Nat → Int} {T : Nat → Int} {N : Nat} (hT : ∀ j, j < N → α 105 j = T j) (ok : okT T N) (s2 : σ 104 2 = (N : Int)) (wd : WDm α) (h1 : (ryR T N (rbR α)).1 = 0 → ∀ σ' α', Fσ SMb σ σ' → Fα [106, 107, 108, 110, 111, 112, 113, 117] α α' → σ' 104 2 = 0 → loE (bgN (ryR T N (rbR α)).2.1 (bsN (ryR T N (rbR α)).2.1)) (α' 110) → (∀ m, m < 4 → α' 117 m = 0) → lwM α' 6 10 (ryR T N (rbR α)).2.2.1.1 → lwW α' (ryR T N (rbR α)).2.2.1.2 → lwB α' (ryR T N (rbR α)).2.2.1.1 (ryR T N (rbR α)).2.2.1.2 → Q (some (vI 0)) (S0, σ', α')) (h0 : (ryR T N (rbR α)).1 ≠ 0 → ∀ σ' α', Fσ SMb σ σ' → Fα [106, 107, 108, 110, 111, 112, 113] α α' → (∀ j, j < 320 ∨ 640 ≤ j → α' 110 j = α 110 j) → (∀ p, p < 1100 → α' 111 p = α 111 p ∧ α' 112 p = α 112 p) → σ' 104 2 = 0 → Q (some (vI (ryR T N (rbR α)).1)) (S0, σ', α')) : Ca X (d + 63) 129 [vR 104] (S0, σ, α) Q := by
  refine m_read hT ok s2 wd (fun z σ1 α1 F1 E1 _ _ t2 D => ?_) h0
  have w := ry_ok ok.1 (ρ := rbR α) (fun j hj => rb_lo hj) z
  have h2 := h1 z
  clear h1 h0
  generalize (ryR T N (rbR α)).2 = s at *
  refine m_carry (f := 1) (t := 0) (by decide) (by decide) (by decide) (fun α2 E2 c2 => vc129_122 ?_)
  have L2 : loE s.1 (α2 110) := fun j hj => by
    rw [c2]
    unfold cyR
    rw [if_pos (by omega), ← D.1]
    unfold dfR
    congr 1
  refine m_codes D.2.1.1 w.2 (fun α3 E3 c3 => ?_)
  have e3 : α3 110 = α2 110 := E3 110 (by decide)
  refine m_begL (d := d + 60) w.1.1 w.1.2.2.2.1.2 (fun α4 E4 L4 => m_clrM (fun α5 E5 c5 => ?_)) (bsN s.1) 0 α3 (Nat.zero_add _) Fα.rf (by rw [e3]; exact L2)
  have e5 : α5 110 = α4 110 := E5 110 (by decide)
  have c35 : ∀ t, t < s.2.2.1.2.2 → α5 111 t = α1 111 (1100 + t) ∧ α5 112 t = α1 112 (1100 + t) := fun t ht => by
    rw [E5 111 (by decide), E5 112 (by decide), E4 111 (by decide), E4 112 (by decide), ← E2 111 (by decide), ← E2 112 (by decide)]
    exact c3 t ht
  have g6 : α5 110 6 = s.1 6 := by rw [e5, L4 6 (by decide)]; exact bg_lt (by decide)
  have g7 : α5 110 7 = s.1 7 := by rw [e5, L4 7 (by decide)]; exact bg_lt (by decide)
  have m6 := D.2.2.2.1.mv w.2 c35
  have m7 := D.2.2.2.2.mv w.2 c35
  refine h2 σ1 α5 F1 ((((E1.wk (by decide)).tr (E2.wk (by decide))).tr (E3.wk (by decide))).tr ((E4.wk (by decide)).tr (E5.wk (by decide)))) t2 (by rw [e5]; exact L4) c5 ?_ ?_ ?_
  · unfold lwM; rw [g6]; exact m6.1
  · unfold lwW; rw [g7]; exact m7.1
  · unfold lwB; rw [g6, g7]; exact ⟨m6.2, m7.2⟩
