/-! The class spreads from a cell -/
theorem c_claim {X : mXX} {d : Nat} {Q : Option mV → mS → Prop} {σ α : Nat → Nat → Int} {ρ : Nat → Int} {x y : Int} {h : Nat} (R : Rep σ α ρ) (w : WF ρ) (hh : h < 24) (hO : ¬ (0 ≤ x ∧ x < ρ 0 ∧ 0 ≤ y ∧ y < ρ 1) → Q (some (vI 0)) (S0, σ, α)) (h0 : 0 ≤ x ∧ x < ρ 0 ∧ 0 ≤ y ∧ y < ρ 1 → (α 92 (clN x y) = 0 ∨ (h : Int) < α 93 (clN x y)) → Q (some (vI 0)) (S0, σ, mUp α 93 (clN x y) ((h + 1 : Nat) : Int))) (h1 : 0 ≤ x ∧ x < ρ 0 ∧ 0 ≤ y ∧ y < ρ 1 → α 92 (clN x y) ≠ 0 → ¬ (h : Int) < α 93 (clN x y) → Q (some (vI 1)) (S0, σ, mUp α 93 (clN x y) ((h + 1 : Nat) : Int))) : Ca X (d + 2) 38 [vR 90, vI x, vI y, vI (h : Int)] (S0, σ, α) Q := by
  have ek := wrS (k := h) (by omega)
  refine vc38_0 ?_
  refine c_inside R ?_
  by_cases hi : 0 ≤ x ∧ x < ρ 0 ∧ 0 ≤ y ∧ y < ρ 1
  · rw [show inR ρ x y = 1 from if_pos hi]
    have hx : 0 ≤ x ∧ x < 8 := ⟨hi.1, Int.lt_of_lt_of_le hi.2.1 w.1.2⟩
    have hy : 0 ≤ y ∧ y < 8 := ⟨hi.2.2.1, Int.lt_of_lt_of_le hi.2.2.2 w.2.1.2⟩
    have c6 := cl64 hx hy
    refine vc38_9 ⟨fun _ => ?_, fun q => absurd q (by decide)⟩
    rw [ixC hx hy, ek]
    refine ⟨mInA_n c6, ?_⟩
    rw [Int.toNat_natCast]
    refine ⟨fun q => ⟨mInA_n c6, h0 hi (Or.inl q)⟩, fun q => ⟨mInA_n c6, fun q2 => ⟨mInA_n c6, h0 hi (Or.inr q2)⟩, fun q2 => ⟨mInA_n c6, h1 hi q q2⟩⟩⟩
  · rw [show inR ρ x y = 0 from if_neg hi]
    exact vc38_9 ⟨fun q => absurd rfl q, fun _ => hO hi⟩
/-- a layer that is being built -/
def SPI (σ γ : Nat → Nat → Int) (ρ : Nat → Int) (P : List (Int × Int)) (a n h B : Nat) (acc : LY) : Prop := (∀ i p, acc[i]? = some p → γ 94 (B + i) = ((p.1 : Nat) : Int)) ∧ (∀ t v, (t, v) ∈ acc → γ 95 (64 * h + t) = (v : Int)) ∧ (∀ t, t < 64 → γ 93 t ≤ ((h + 1 : Nat) : Int) ∧ (inL acc t → γ 93 t = ((h + 1 : Nat) : Int)) ∧ (γ 93 t = ((h + 1 : Nat) : Int) → inL acc t ∨ fiC ρ a n t = 0 ∨ teC ρ P a n h t ≠ 0)) ∧ σ 90 11 = ((B + acc.length : Nat) : Int) ∧ ndL acc ∧ ∀ t, inL acc t → t < 64 ∧ fiC ρ a n t = 1
theorem SPI.len {σ γ : Nat → Nat → Int} {ρ : Nat → Int} {P : List (Int × Int)} {a n h B : Nat} {acc : LY} (S : SPI σ γ ρ P a n h B acc) : acc.length ≤ 64 := by
  have := nd_le 64 (acc.map Prod.fst) S.2.2.2.2.1 (fun x hx => by
    obtain ⟨p, p1, p2⟩ := List.mem_map.mp hx
    exact (S.2.2.2.2.2 x ⟨p.2, by rw [← p2]; exact p1⟩).1)
  rw [List.length_map] at this
  exact this
/-- a cell is seen, and is no good -/
theorem SPI.se {σ γ : Nat → Nat → Int} {ρ : Nat → Int} {P : List (Int × Int)} {a n h B : Nat} {acc : LY} {t : Nat} (S : SPI σ γ ρ P a n h B acc) (ht : inL acc t ∨ fiC ρ a n t = 0 ∨ teC ρ P a n h t ≠ 0) : SPI σ (mUp γ 93 t ((h + 1 : Nat) : Int)) ρ P a n h B acc := by
  obtain ⟨s1, s2, s3, s4, s5, s6⟩ := S
  refine ⟨fun i p e => by rw [up_o (by decide)]; exact s1 i p e, fun u v e => by rw [up_o (by decide)]; exact s2 u v e, fun u hu => ?_, s4, s5, s6⟩
  rw [up_a]
  by_cases e : u = t
  · rw [if_pos e]
    exact ⟨Int.le_refl _, fun _ => rfl, fun _ => by rw [e]; exact ht⟩
  · rw [if_neg e]; exact s3 u hu
theorem SPI.fr {σ γ γ' : Nat → Nat → Int} {ρ : Nat → Int} {P : List (Int × Int)} {a n h B : Nat} {acc : LY} (S : SPI σ γ ρ P a n h B acc) (h3 : γ' 93 = γ 93) (h4 : γ' 94 = γ 94) (h5 : γ' 95 = γ 95) : SPI σ γ' ρ P a n h B acc := by
  unfold SPI
  rw [h3, h4, h5]
  exact S
/-- a cell is reached -/
theorem SPI.ad {σ γ : Nat → Nat → Int} {ρ : Nat → Int} {P : List (Int × Int)} {a n h B : Nat} {acc : LY} {t v : Nat} (S : SPI σ γ ρ P a n h B acc) (nt : ¬ inL acc t) (t6 : t < 64) (ft : fiC ρ a n t = 1) : SPI (mUp σ 90 11 ((B + acc.length + 1 : Nat) : Int)) (mUp (mUp (mUp γ 93 t ((h + 1 : Nat) : Int)) 95 (64 * h + t) (v : Int)) 94 (B + acc.length) ((t : Nat) : Int)) ρ P a n h B (acc ++ [(t, v)]) := by
  obtain ⟨s1, s2, s3, s4, s5, s6⟩ := S
  have nd : ndL (acc ++ [(t, v)]) := by
    have := ad_nd (t := t) (v := v) s5
    unfold adT at this
    rw [if_neg (fun q => nt (has_iff.mp q))] at this
    exact this
  refine ⟨fun i p e => ?_, fun u x e => ?_, fun u hu => ?_, ?_, nd, fun u hu => ?_⟩
  · rw [up_a]
    by_cases hi : i = acc.length
    · rw [hi, if_pos rfl]
      rw [hi, List.getElem?_append_right (Nat.le_refl _), Nat.sub_self] at e
      have : (t, v) = p := by simpa using e
      rw [← this]
    · rw [if_neg (fun q => hi (Nat.add_left_cancel q)), up_o (by decide), up_o (by decide)]
      have hl : i < acc.length := by
        have := (List.getElem?_eq_some_iff.mp e).1
        rw [List.length_append] at this
        simp at this
        omega
      rw [List.getElem?_append_left hl] at e
      exact s1 i p e
  · rw [up_o (by decide), up_a]
    rcases List.mem_append.mp e with q | q
    · have ne : u ≠ t := fun z => nt ⟨x, by rw [← z]; exact q⟩
      rw [if_neg (fun z => ne (Nat.add_left_cancel z)), up_o (by decide)]
      exact s2 u x q
    · have e2 := List.mem_singleton.mp q
      rw [(Prod.mk.inj e2).1, (Prod.mk.inj e2).2, if_pos rfl]
  · rw [up_o (by decide), up_o (by decide), up_a]
    by_cases e : u = t
    · rw [if_pos e]
      exact ⟨Int.le_refl _, fun _ => rfl, fun _ => Or.inl (inL_app.mpr (Or.inr (inL_one.mpr e)))⟩
    · rw [if_neg e]
      have z := s3 u hu
      refine ⟨z.1, fun q => ?_, fun q => ?_⟩
      · rcases inL_app.mp q with q | q
        · exact z.2.1 q
        · exact absurd (inL_one.mp q) e
      · rcases z.2.2 q with q | q
        · exact Or.inl (inL_app.mpr (Or.inl q))
        · exact Or.inr q
  · rw [up_s, List.length_append]
    rfl
  · rcases inL_app.mp hu with q | q
    · exact s6 u q
    · rw [inL_one.mp q]; exact ⟨t6, ft⟩
def ZP : List Nat := [36, 82, 83, 85, 93, 94, 95]
/-- what lies before a layer stays -/
def OLD (γ γ' : Nat → Nat → Int) (h B : Nat) : Prop := (∀ i, i < B → γ' 94 i = γ 94 i) ∧ ∀ j, j < 64 * h → γ' 95 j = γ 95 j
theorem OLD.rf {γ : Nat → Nat → Int} {h B : Nat} : OLD γ γ h B := ⟨fun _ _ => rfl, fun _ _ => rfl⟩
theorem OLD.tr {γ γ' γ'' : Nat → Nat → Int} {h B : Nat} (o : OLD γ γ' h B) (o' : OLD γ' γ'' h B) : OLD γ γ'' h B := ⟨fun i hi => (o'.1 i hi).trans (o.1 i hi), fun j hj => (o'.2 j hj).trans (o.2 j hj)⟩
theorem nhh {r : Int} {h : Nat} (h1 : 0 ≤ r ∧ r ≤ 100000) (h2 : h < 25) : wr (r + (h : Int)) = r + (h : Int) ∧ 0 ≤ r + (h : Int) ∧ r + (h : Int) ≤ 1000000 := ⟨wr_of (by omega) (by omega), by omega, by omega⟩
theorem ixM {h : Nat} {x y : Int} (hh : h < 24) (hx : 0 ≤ x ∧ x < 8) (hy : 0 ≤ y ∧ y < 8) : wr (wr (wr ((h : Int) * 64) + wr (y * 8)) + x) = ((64 * h + clN x y : Nat) : Int) := by
  unfold clN
  rw [wr_of (x := (h : Int) * 64) (by omega) (by omega), wr_of (x := y * 8) (by omega) (by omega), wr_of (x := (h : Int) * 64 + y * 8) (by omega) (by omega), wr_of (by omega) (by omega)]; omega
theorem hasT_y {acc : LY} {t v : Nat} (h : inL acc t) : adT acc t v = acc := if_pos (has_iff.mpr h)
theorem hasT_n {acc : LY} {t v : Nat} (h : ¬ inL acc t) : adT acc t v = acc ++ [(t, v)] := if_neg (fun q => h (has_iff.mp q))
theorem ms_n {mv : Nat → Option Nat} {acc : LY} {v : Nat} (h : mv v = none) : mvs mv acc v = acc := by unfold mvs; rw [h]
theorem ms_y {mv : Nat → Option Nat} {acc : LY} {v t : Nat} (h : mv v = some t) : mvs mv acc v = adT acc t v := by unfold mvs; rw [h]
theorem bv_held {mv : Nat → Option Nat} {acc : LY} : ∀ {n : Nat}, (∀ v, 0 < v → mv v = none) → bldV mv (n + 1) acc = bldV mv 1 acc
  | 0, _ => rfl
  | n + 1, h => by
    show mvs mv (bldV mv (n + 1) acc) (n + 1) = _
    rw [ms_n (h (n + 1) (Nat.succ_pos n))]
    exact bv_held h
