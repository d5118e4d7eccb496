/-! Which way is favoured -/
def fav (can bar wt : Nat → Int) : Nat → Int × Int
  | 0 => (-1, -1)
  | v + 1 => if can v = 1 ∧ bar v = 0 ∧ (fav can bar wt v).2 < wt v then ((v : Int), wt v) else fav can bar wt v
theorem fav_y {can bar wt : Nat → Int} {v : Nat} (h : can v = 1 ∧ bar v = 0 ∧ (fav can bar wt v).2 < wt v) : fav can bar wt (v + 1) = ((v : Int), wt v) := if_pos h
theorem fav_n {can bar wt : Nat → Int} {v : Nat} (h : ¬ (can v = 1 ∧ bar v = 0 ∧ (fav can bar wt v).2 < wt v)) : fav can bar wt (v + 1) = fav can bar wt v := if_neg h
theorem fav_i {can bar wt : Nat → Int} (hw : ∀ v, 0 ≤ wt v) : ∀ {v : Nat}, (fav can bar wt v = (-1, -1)) ∨ (0 ≤ (fav can bar wt v).1 ∧ (fav can bar wt v).1 < v ∧ 0 ≤ (fav can bar wt v).2)
  | 0 => Or.inl rfl
  | v + 1 => by
    by_cases h : can v = 1 ∧ bar v = 0 ∧ (fav can bar wt v).2 < wt v
    · rw [fav_y h]
      refine Or.inr ⟨Int.natCast_nonneg v, ?_, hw v⟩
      show (v : Int) < ((v + 1 : Nat) : Int)
      omega
    · rw [fav_n h]
      rcases fav_i (can := can) (bar := bar) hw (v := v) with q | q
      · exact Or.inl q
      · refine Or.inr ⟨q.1, ?_, q.2.2⟩
        have := q.2.1
        omega
theorem fav_cg {can bar bar' wt wt' : Nat → Int} : ∀ {v : Nat}, (∀ u, u < v → can u = 1 → wt u = wt' u) → (∀ u, u < v → (bar u = 0 ↔ bar' u = 0)) → fav can bar wt v = fav can bar' wt' v
  | 0, _, _ => rfl
  | v + 1, h1, h2 => by
    have ih := fav_cg (can := can) (bar := bar) (bar' := bar') (wt := wt) (wt' := wt') (v := v) (fun u hu => h1 u (by omega)) (fun u hu => h2 u (by omega))
    unfold fav
    rw [ih]
    by_cases h : can v = 1 ∧ bar v = 0 ∧ (fav can bar' wt' v).2 < wt v
    · have e := h1 v (by omega) h.1
      rw [if_pos h, if_pos ⟨h.1, (h2 v (by omega)).mp h.2.1, by rw [← e]; exact h.2.2⟩, e]
    · rw [if_neg h, if_neg (fun z => h ⟨z.1, (h2 v (by omega)).mpr z.2.1, by rw [h1 v (by omega) z.1]; exact z.2.2⟩)]
def smB (F : Nat → Int) (K : Int) (n : Nat) : Prop := ∀ b, b < n → 0 ≤ F b ∧ F b ≤ K
theorem sm_bk {F : Nat → Int} {K : Int} : ∀ {n : Nat}, smB F K n → 0 ≤ smF F 0 n ∧ smF F 0 n ≤ K * (n : Int)
  | 0, _ => ⟨Int.le_refl _, by show (0 : Int) ≤ K * ((0 : Nat) : Int); omega⟩
  | n + 1, h => by
    have h1 := sm_bk (F := F) (K := K) (n := n) (fun b hb => h b (by omega))
    have h2 := h n (by omega)
    unfold smF
    rw [Nat.zero_add]
    have e : K * ((n + 1 : Nat) : Int) = K * (n : Int) + K := by rw [Int.natCast_add, Int.mul_add, Int.natCast_one, Int.mul_one]
    rw [e]
    omega
def tw (ρ : Nat → Int) (S : Nat → Nat → Int) (v b : Nat) : Int := ρ (209 + 12 * b) * S b v
def wtS (ρ : Nat → Int) (S : Nat → Nat → Int) (v : Nat) : Int := smF (tw ρ S v) 0 (ρ 2).toNat
theorem tw_b {ρ : Nat → Int} {S : Nat → Nat → Int} {v : Nat} (w : WF ρ) (hS : ∀ b : Nat, (b : Int) < ρ 2 → 0 ≤ S b v ∧ S b v ≤ 99) {n : Nat} (hn : (n : Int) ≤ ρ 2) : smB (tw ρ S v) 891 n := fun b hb => by
  have hb2 : (b : Int) < ρ 2 := by omega
  have t := (w.b hb2).2.2.2.2.2.2.2.1
  have s := hS b hb2
  exact mul_bd t.1 t.2 s.1 s.2
theorem nfv {s p : Int} {n : Nat} (h : 0 ≤ s + p ∧ s + p ≤ 891 * (n : Int)) (hp : 0 ≤ p ∧ p ≤ 891) (hn : n ≤ 7) : wr (s + wr p) = s + p := by
  rw [wr_of (x := p) (by omega) (by omega), wr_of (by omega) (by omega)]
theorem c_fav2 {X : mXX} {d : Nat} {Q : Option mV → mS → Prop} {σ α : Nat → Nat → Int} {ρ : Nat → Int} {S : Nat → Nat → Int} {v : Nat} {x f g : Int} (R : Rep σ α ρ) (w : WF ρ) (v5 : v < 5) (hS : ∀ b : Nat, (b : Int) < ρ 2 → 0 ≤ S b v ∧ S b v ≤ 99) (h8 : ∀ b : Nat, (b : Int) < ρ 2 → α 98 (5 * b + v) = S b v) (h0 : ¬ g < wtS ρ S v → ∀ x5 x6, Go X d 31 7 [some (vR 96), some (vI x), some (vI f), some (vI g), some (vI (wr ((v : Int) + 1))), x5, x6] [] (S0, σ, α) (0, 0) Q) (h1 : g < wtS ρ S v → ∀ x5 x6, Go X d 31 7 [some (vR 96), some (vI x), some (vI (v : Int)), some (vI (wtS ρ S v)), some (vI (wr ((v : Int) + 1))), x5, x6] [] (S0, σ, α) (0, 0) Q) : ∀ (m b : Nat), ((b + m : Nat) : Int) = ρ 2 → Go X d 31 38 [some (vR 96), some (vI x), some (vI f), some (vI g), some (vI (v : Int)), some (vI (smF (tw ρ S v) 0 b)), some (vI (b : Int))] [] (S0, σ, α) (0, 0) Q := by
  have r2 := R.2.2.1
  intro m
  induction m with
  | zero =>
    intro b hb
    have nb : ¬ (b : Int) < ρ 2 := by clear h0 h1; omega
    have e : (ρ 2).toNat = b := by clear h0 h1; omega
    unfold wtS at h0 h1
    rw [e] at h0 h1
    exact vc31_38 ⟨fun _ => ⟨fun q => h0 q _ _, fun q => h1 q _ _⟩, fun q => absurd q (by rw [r2]; exact nb)⟩
  | succ m ih =>
    intro b hb
    have hb2 : (b : Int) < ρ 2 := by clear h0 h1; omega
    have bm : ((b + 1 + m : Nat) : Int) = ρ 2 := by clear h0 h1; omega
    have bl : ((b + 1 : Nat) : Int) ≤ ρ 2 := by clear h0 h1; omega
    have b7 := w.m7 hb2
    have b17 : b + 1 ≤ 7 := b7
    have ek := wrS (k := b) (by clear h0 h1; omega)
    have i35 : 5 * b + v < 35 := by clear h0 h1; omega
    have r := R.b hb2
    have tb := tw_b w hS bl
    have sb := sm_bk tb
    have t1 := tb b (Nat.lt_succ_self b)
    have es : smF (tw ρ S v) 0 (b + 1) = smF (tw ρ S v) 0 b + tw ρ S v (0 + b) := rfl
    have i1 := ih (b + 1) bm
    rw [es, Nat.zero_add] at sb i1
    refine vc31_38 ⟨fun q => absurd (by rw [r2]; exact hb2) q, fun _ => ⟨mInA_n b7, ?_⟩⟩
    rw [ixW b7 v5]
    refine ⟨mInA_n i35, ?_⟩
    rw [Int.toNat_natCast, Int.toNat_natCast, r.2.2.2.2.2.2.2.1, h8 b hb2, ek]
    have e2 := nfv sb t1 b17
    unfold tw at e2 i1
    unfold tw
    rw [e2]
    exact i1
theorem c_fav {X : mXX} {d : Nat} {Q : Option mV → mS → Prop} {σ α : Nat → Nat → Int} {ρ : Nat → Int} {S : Nat → Nat → Int} {bar : Nat → Int} {x : Int} (R : Rep σ α ρ) (w : WF ρ) (hc : ∀ v, v < 5 → α 97 v = cnR ρ v) (h8 : ∀ v, v < 5 → cnR ρ v = 1 → ∀ b : Nat, (b : Int) < ρ 2 → α 98 (5 * b + v) = S b v ∧ 0 ≤ S b v ∧ S b v ≤ 99) (hx : ∀ v : Nat, v < 5 → (iAnd x (iShl 1 (v : Int)) = 0 ↔ bar v = 0)) (hQ : Q (some (vI (fav (cnR ρ) bar (wtS ρ S) 5).1)) (S0, σ, α)) : Ca X (d + 1) 31 [vR 96, vI x] (S0, σ, α) Q := by
  refine vc31_0 ?_
  have key : ∀ (m v : Nat) (x5 x6 : Option mV), v + m = 5 → Go X d 31 7 [some (vR 96), some (vI x), some (vI (fav (cnR ρ) bar (wtS ρ S) v).1), some (vI (fav (cnR ρ) bar (wtS ρ S) v).2), some (vI (v : Int)), x5, x6] [] (S0, σ, α) (0, 0) Q := by
    intro m
    induction m with
    | zero =>
      intro v x5 x6 hv
      have e : v = 5 := hv
      subst e
      exact vc31_7 ⟨fun _ => hQ, fun q => absurd q (by decide)⟩
    | succ m ih =>
      intro v x5 x6 hv
      have v5 : v < 5 := by omega
      have vl : (v : Int) < 5 := by omega
      have vm : v + 1 + m = 5 := by omega
      have ek := wrS (k := v) (by omega)
      have i1 := fun y5 y6 => ih (v + 1) y5 y6 vm
      refine vc31_7 ⟨fun q => absurd vl q, fun _ => ⟨mInA_n v5, ?_⟩⟩
      rw [Int.toNat_natCast, hc v v5]
      refine ⟨fun q => ?_, fun q => ⟨fun q2 => ?_, fun q2 => ?_⟩⟩
      · rw [fav_n (fun z => by rw [q] at z; exact absurd z.1 (by decide))] at i1
        rw [ek]; exact i1 _ _
      · rw [fav_n (fun z => q2 ((hx v v5).mpr z.2.1))] at i1
        rw [ek]; exact i1 _ _
      · have q1 := cn01.resolve_left q
        refine c_fav2 (S := S) R w v5 (fun b hb => (h8 v v5 q1 b hb).2) (fun b hb => (h8 v v5 q1 b hb).1) ?_ ?_ (ρ 2).toNat 0 (n_z w.2.2.1.1)
        · intro h y5 y6
          rw [fav_n (fun z => h z.2.2)] at i1
          rw [ek]; exact i1 _ _
        · intro h y5 y6
          rw [fav_y ⟨q1, (hx v v5).mp q2, h⟩] at i1
          rw [ek]; exact i1 _ _
  exact key 5 0 none none (Nat.zero_add _)
