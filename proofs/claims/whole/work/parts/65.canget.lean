/-! Who can get what by telling untruths -/
def okN (can wt : Nat → Int) (V : Int) (w : Nat) : Nat → Int
  | 0 => 1
  | e + 1 => if okN can wt V w e = 0 then 0 else if e = w ∨ can e ≠ 1 then 1 else if e < w then (if wt e < V then 1 else 0) else (if V < wt e then 0 else 1)
theorem ok01 {can wt : Nat → Int} {V : Int} {w : Nat} : ∀ {e : Nat}, okN can wt V w e = 0 ∨ okN can wt V w e = 1
  | 0 => Or.inr rfl
  | e + 1 => by
    unfold okN
    split
    · exact Or.inl rfl
    · split
      · exact Or.inr rfl
      · split
        · split
          · exact Or.inr rfl
          · exact Or.inl rfl
        · split
          · exact Or.inl rfl
          · exact Or.inr rfl
def gdP (can wt : Nat → Int) (V : Int) (w n : Nat) : Prop := ∀ e, e < n → e ≠ w → can e = 1 → (e < w → wt e < V) ∧ (w < e → wt e ≤ V)
theorem ok_iff {can wt : Nat → Int} {V : Int} {w : Nat} : ∀ {n : Nat}, okN can wt V w n = 1 ↔ gdP can wt V w n
  | 0 => ⟨fun _ e h => absurd h (Nat.not_lt_zero e), fun _ => rfl⟩
  | n + 1 => by
    have ih := ok_iff (can := can) (wt := wt) (V := V) (w := w) (n := n)
    have st : gdP can wt V w (n + 1) ↔ gdP can wt V w n ∧ (n ≠ w → can n = 1 → (n < w → wt n < V) ∧ (w < n → wt n ≤ V)) := by
      constructor
      · intro h
        exact ⟨fun e he => h e (by omega), h n (by omega)⟩
      · intro h e he
        by_cases q : e = n
        · rw [q]; exact h.2
        · exact h.1 e (by omega)
    rw [st, ← ih]
    show (if okN can wt V w n = 0 then 0 else if n = w ∨ can n ≠ 1 then 1 else if n < w then (if wt n < V then 1 else 0) else (if V < wt n then 0 else 1)) = 1 ↔ _
    rcases ok01 (can := can) (wt := wt) (V := V) (w := w) (e := n) with q | q
    · rw [if_pos q, q]; exact ⟨fun z => absurd z (by decide), fun z => absurd z.1 (by decide)⟩
    · rw [if_neg (by rw [q]; decide), q]
      by_cases h1 : n = w ∨ can n ≠ 1
      · rw [if_pos h1]
        refine ⟨fun _ => ⟨rfl, fun a b => ?_⟩, fun _ => rfl⟩
        rcases h1 with h1 | h1
        · exact absurd h1 a
        · exact absurd b h1
      · rw [if_neg h1]
        have a1 : n ≠ w := fun z => h1 (Or.inl z)
        have a2 : can n = 1 := by
          by_cases z : can n = 1
          · exact z
          · exact absurd (Or.inr z) h1
        by_cases h2 : n < w
        · rw [if_pos h2]
          by_cases h3 : wt n < V
          · rw [if_pos h3]; exact ⟨fun _ => ⟨rfl, fun _ _ => ⟨fun _ => h3, fun z => absurd z (by omega)⟩⟩, fun _ => rfl⟩
          · rw [if_neg h3]; exact ⟨fun z => absurd z (by decide), fun z => absurd ((z.2 a1 a2).1 h2) h3⟩
        · rw [if_neg h2]
          have h2' : w < n := by omega
          by_cases h3 : V < wt n
          · rw [if_pos h3]; exact ⟨fun z => absurd z (by decide), fun z => absurd ((z.2 a1 a2).2 h2') (Int.not_le.mpr h3)⟩
          · rw [if_neg h3]; exact ⟨fun _ => ⟨rfl, fun _ _ => ⟨fun z => absurd z h2, fun _ => Int.not_lt.mp h3⟩⟩, fun _ => rfl⟩
/-- the favoured way is the first of the greatest -/
theorem fav_is {can wt : Nat → Int} (hp : ∀ v, can v = 1 → 0 ≤ wt v) : ∀ {n : Nat}, (fav can (fun _ => 0) wt n = (-1, -1) ∧ ∀ e, e < n → can e ≠ 1) ∨ ∃ a, a < n ∧ can a = 1 ∧ fav can (fun _ => 0) wt n = ((a : Int), wt a) ∧ gdP can wt (wt a) a n
  | 0 => Or.inl ⟨rfl, fun e h => absurd h (Nat.not_lt_zero e)⟩
  | n + 1 => by
    by_cases h : can n = 1 ∧ (0 : Int) = 0 ∧ (fav can (fun _ => 0) wt n).2 < wt n
    · refine Or.inr ⟨n, Nat.lt_succ_self n, h.1, fav_y h, fun e he hne hc => ?_⟩
      refine ⟨fun _ => ?_, fun z => absurd z (by omega)⟩
      rcases fav_is hp (n := n) with q | ⟨a, a1, a2, a3, a4⟩
      · exact absurd hc (q.2 e (by omega))
      · have h2 := h.2.2
        rw [a3] at h2
        by_cases ea : e = a
        · rw [ea]; exact h2
        · have g := a4 e (by omega) ea hc
          rcases Nat.lt_or_gt_of_ne ea with q | q
          · exact Int.lt_trans (g.1 q) h2
          · exact Int.lt_of_le_of_lt (g.2 q) h2
    · rw [fav_n h]
      rcases fav_is hp (n := n) with q | ⟨a, a1, a2, a3, a4⟩
      · refine Or.inl ⟨q.1, fun e he hc => ?_⟩
        by_cases en : e = n
        · rw [en] at hc
          refine h ⟨hc, rfl, ?_⟩
          rw [q.1]
          exact Int.lt_of_lt_of_le (by decide) (hp n hc)
        · exact q.2 e (by omega) hc
      · refine Or.inr ⟨a, by omega, a2, a3, fun e he hne hc => ?_⟩
        by_cases en : e = n
        · refine ⟨fun z => absurd z (by omega), fun _ => ?_⟩
          rw [en] at hc ⊢
          have : ¬ (fav can (fun _ => 0) wt n).2 < wt n := fun z => h ⟨hc, rfl, z⟩
          rw [a3] at this
          exact Int.not_lt.mp this
        · exact a4 e (by omega) hne hc
theorem fav_eq {can wt : Nat → Int} (hp : ∀ v, can v = 1 → 0 ≤ wt v) {n w : Nat} (hw : w < n) : (fav can (fun _ => 0) wt n).1 = (w : Int) ↔ can w = 1 ∧ gdP can wt (wt w) w n := by
  rcases fav_is hp (n := n) with q | ⟨a, a1, a2, a3, a4⟩
  · rw [q.1]
    refine ⟨fun z => ?_, fun z => absurd z.1 (q.2 w hw)⟩
    have : (-1 : Int) = (w : Int) := z
    omega
  · rw [a3]
    constructor
    · intro z
      have e : a = w := Int.ofNat_inj.mp z
      rw [← e]; exact ⟨a2, a4⟩
    · intro z
      show (a : Int) = (w : Int)
      by_cases e : a = w
      · rw [e]
      · exfalso
        have g1 := a4 w hw (fun q => e q.symm) z.1
        have g2 := z.2 a a1 e a2
        rcases Nat.lt_or_gt_of_ne e with q | q
        · have := g1.2 q
          have := g2.1 q
          clear a3 a4 z
          omega
        · have := g1.1 q
          have := g2.2 q
          clear a3 a4 z
          omega
def gnF (G : Nat → Int) : Nat → Int
  | 0 => 0
  | w + 1 => if G w = 1 then iOr (gnF G w) (iShl 1 (w : Int)) else gnF G w
theorem gn_r {G : Nat → Int} : ∀ {n : Nat}, r32 (gnF G n)
  | 0 => by unfold r32 gnF; decide
  | n + 1 => by
    unfold gnF
    split
    · exact i32_r _
    · exact gn_r
def vvR (ρ : Nat → Int) (P W : List (Int × Int)) (b w : Nat) : Int := wtB ρ P W (b : Int) w + 99 * ρ (209 + 12 * b)
def ggR (ρ : Nat → Int) (P W : List (Int × Int)) (b w : Nat) : Int := if cnR ρ w = 1 then okN (cnR ρ) (wtB ρ P W (b : Int)) (vvR ρ P W b w) w 5 else 0
def cgt (ρ : Nat → Int) (P W : List (Int × Int)) (b : Int) : Int := if 0 ≤ b ∧ b < ρ 2 then gnF (ggR ρ P W b.toNat) 5 else -1
/-- the class' untruths -/
def ut (ρ : Nat → Int) (P W : List (Int × Int)) (b a : Nat) (i v : Nat) : Int := if i = b then (if v = a then 99 else 0) else wsR ρ P W i v
theorem ut_bd {ρ : Nat → Int} {P W : List (Int × Int)} {b a i v : Nat} : 0 ≤ ut ρ P W b a i v ∧ ut ρ P W b a i v ≤ 99 := by
  unfold ut
  split
  · split <;> decide
  · exact ws_bd
theorem ut_wt {ρ : Nat → Int} {P W : List (Int × Int)} {b a v : Nat} (hb : (b : Int) < ρ 2) : wtS ρ (ut ρ P W b a) v = wtB ρ P W (b : Int) v + if v = a then 99 * ρ (209 + 12 * b) else 0 := by
  have e := smF_up (g := twb ρ (wsR ρ P W) (b : Int) v) (b := b) (v := if v = a then 99 * ρ (209 + 12 * b) else 0) (a := 0) (n := (ρ 2).toNat)
  rw [if_pos (show 0 ≤ b ∧ b < 0 + (ρ 2).toNat by rw [Nat.zero_add]; exact ⟨Nat.zero_le _, ltN hb⟩)] at e
  unfold wtB wtS
  rw [← e]
  refine smF_cg (fun i _ _ => ?_)
  show ρ (209 + 12 * i) * ut ρ P W b a i v = if i = b then twb ρ (wsR ρ P W) (b : Int) v b + (if v = a then 99 * ρ (209 + 12 * b) else 0) else twb ρ (wsR ρ P W) (b : Int) v i
  unfold ut twb
  by_cases h : i = b
  · rw [if_pos h, if_pos h, if_pos rfl, h, Int.zero_add]
    by_cases q : v = a
    · rw [if_pos q, if_pos q, Int.mul_comm]
    · rw [if_neg q, if_neg q, Int.mul_zero]
  · rw [if_neg h, if_neg h, if_neg (fun z => h (Int.ofNat_inj.mp z))]; rfl
theorem gd_cg {can wt wt' : Nat → Int} {V : Int} {w n : Nat} (h : ∀ e, e ≠ w → wt e = wt' e) : gdP can wt V w n ↔ gdP can wt' V w n := by
  constructor
  · intro g e he hne hc
    rw [← h e hne]; exact g e he hne hc
  · intro g e he hne hc
    rw [h e hne]; exact g e he hne hc
theorem gg_fav {ρ : Nat → Int} {P W : List (Int × Int)} {b a : Nat} (w : WF ρ) (hb : (b : Int) < ρ 2) (ha : a < 5) : (fav (cnR ρ) (fun _ => 0) (wtS ρ (ut ρ P W b a)) 5).1 = (a : Int) ↔ ggR ρ P W b a = 1 := by
  have t := (w.b hb).2.2.2.2.2.2.2.1
  have hp : ∀ v, cnR ρ v = 1 → 0 ≤ wtS ρ (ut ρ P W b a) v := by
    intro v _
    rw [ut_wt hb]
    refine Int.add_nonneg (wtB_b w).1 ?_
    split
    · exact Int.mul_nonneg (by decide) t.1
    · exact Int.le_refl _
  rw [fav_eq hp ha]
  have ea : wtS ρ (ut ρ P W b a) a = vvR ρ P W b a := by rw [ut_wt hb, if_pos rfl]; rfl
  have eo : ∀ e, e ≠ a → wtS ρ (ut ρ P W b a) e = wtB ρ P W (b : Int) e := fun e he => by rw [ut_wt hb, if_neg he, Int.add_zero]
  rw [ea, gd_cg eo, ← ok_iff]
  unfold ggR
  by_cases h : cnR ρ a = 1
  · rw [if_pos h]; exact ⟨fun z => z.2, fun z => ⟨h, z⟩⟩
  · rw [if_neg h]; exact ⟨fun z => absurd z.1 h, fun z => absurd z (by decide)⟩
