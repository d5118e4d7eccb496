/-! The class' nets -/
def CF (α : Nat → Nat → Int) (ρ : Nat → Int) (s : FS) (a n : Nat) : Prop := (∀ c, c < 64 → α 87 c = s.1 c) ∧ ∀ b, a ≤ b → b < a + n → α 88 b = hoN ρ b - s.2 b
theorem c_sign {X : mXX} {d : Nat} {Q : Option mV → mS → Prop} {σ α : Nat → Nat → Int} {u v x : Int} (e : wr x = v - u) (h : Q (some (vI (sgn u v))) (S0, σ, α)) : Ca X (d + 1) 49 [vI (wr x)] (S0, σ, α) Q := by
  rw [e]
  refine vc49_0 ?_
  unfold sgn at h
  refine ⟨fun q => ⟨fun q2 => ?_, fun q2 => ?_⟩, fun q => ?_⟩
  · rw [if_neg (by omega), if_neg (by omega)] at h; exact h
  · rw [if_neg (by omega), if_pos (by omega)] at h; exact h
  · rw [if_pos (by omega)] at h; exact h
theorem abs_d {x z : Int} (h1 : 0 ≤ x ∧ x < 8) (h2 : 0 ≤ z ∧ z < 8) : (if wr (x - z) < 0 then wr (-(wr (x - z))) else wr (x - z)) = dst x z := by
  rw [wr_of (x := x - z) (by omega) (by omega)]
  unfold dst
  by_cases h : x < z
  · rw [if_pos (by omega), if_pos h, wr_of (by omega) (by omega)]; omega
  · rw [if_neg (by omega), if_neg h]
theorem nad {A B : Int} (h1 : 0 ≤ A ∧ A < 8) (h2 : 0 ≤ B ∧ B < 8) : wr (A + B) = A + B := wr_of (by omega) (by omega)
theorem nlf {S T M : Int} (h1 : 0 ≤ T) (h2 : T ≤ S) (h3 : S ≤ M) (h4 : M ≤ 99) : wr (S - T) = S - T := wr_of (by omega) (by omega)
theorem nlg {H h T g : Int} (h1 : 0 ≤ T) (h2 : T ≤ H - h) (h3 : H ≤ 99) (h4 : g ≤ h) (h5 : 0 ≤ g) : wr (H - h - T) = H - h - T := wr_of (by omega) (by omega)
theorem nlh {H h T : Int} : H - h - T = H - (h + T) := by omega
theorem k_lt {k : Nat} {z : Int} (h : ((k + 1 : Nat) : Int) < z) : (k : Int) < z := by omega
theorem c_apart {X : mXX} {d : Nat} {Q : Option mV → mS → Prop} {σ α : Nat → Nat → Int} {ρ : Nat → Int} {k : Nat} (R : Rep σ α ρ) (w : WF ρ) (hk : ((k + 1 : Nat) : Int) < ρ 2) (h : Q (some (vI (apN ρ k))) (S0, σ, α)) : Ca X (d + 1) 58 [vR 40, vI (k : Int)] (S0, σ, α) Q := by
  have k7 := w.m7 hk
  have k77 : k < 7 := by omega
  have ek := wrS (k := k) (by omega)
  have hk0 : (k : Int) < ρ 2 := k_lt hk
  have h1 := w.b hk0
  have h2 := w.b hk
  have r1 := R.b hk0
  have r2 := R.b hk
  have d1 := dst_bd (h1.x w) (h2.x w)
  have d2 := dst_bd (h1.y w) (h2.y w)
  refine vc58_0 ?_
  rw [ek]
  refine ⟨mInA_n k77, mInA_n k7, mInA_n k77, mInA_n k7, ?_⟩
  rw [Int.toNat_natCast, Int.toNat_natCast, r1.2.1, r1.2.2.1, r2.2.1, r2.2.2.1, abs_d (h1.x w) (h2.x w), abs_d (h1.y w) (h2.y w), nad d1 d2]
  exact h
theorem c_lift {X : mXX} {d : Nat} {Q : Option mV → mS → Prop} {σ α : Nat → Nat → Int} {ρ : Nat → Int} {s : FS} {a n b : Nat} {x y t : Int} (w : WF ρ) (F : CF α ρ s a n) (B : FB ρ s) (h1 : a ≤ b) (h2 : b < a + n) (hb : (b : Int) < ρ 2) (hx : 0 ≤ x ∧ x < 8) (hy : 0 ≤ y ∧ y < 8) (ht : 0 ≤ t) (hQ : ∀ α', Fα [87, 88] α α' → CF α' ρ (tk1 ρ s b (clN x y) t) a n → Q (some (vI (tkN ρ s b (clN x y) t))) (S0, σ, α')) : Ca X (d + 1) 47 [vR 86, vI (b : Int), vI x, vI y, vI t] (S0, σ, α) Q := by
  have c6 := cl64 hx hy
  have b7 := w.m7 hb
  have hn := B.n c6 hb ht
  have e1 := F.1 _ c6
  have e2 := F.2 b h1 h2
  have c1 := (B.1 _ c6)
  have c2 := (w.c c6).2.2.2
  have c3 := B.2 b hb
  have c4 := FB.h99 w hb
  have c5 := (w.b hb).2.2.2.2.2.2.2.2.1.1
  refine vc47_0 ?_
  rw [ixC hx hy]
  refine ⟨mInA_n c6, mInA_n b7, mInA_n c6, mInA_n c6, mInA_n b7, mInA_n b7, ?_⟩
  rw [Int.toNat_natCast, Int.toNat_natCast, e1, e2]
  rw [show min t (min (s.1 (clN x y)) (hoN ρ b - s.2 b)) = tkN ρ s b (clN x y) t from rfl]
  rw [nlf hn.1 hn.2.1 c1.2 c2, nlg hn.1 hn.2.2.1 c4.2 c3.1 c5]
  refine hQ _ ((Fα.up (by decide)).tr (Fα.up (by decide))) ⟨fun c hc => ?_, fun i i1 i2 => ?_⟩
  · rw [up_o (by decide), up_a]
    show _ = if c = clN x y then s.1 (clN x y) - tkN ρ s b (clN x y) t else s.1 c
    by_cases h : c = clN x y
    · rw [if_pos h, if_pos h]
    · rw [if_neg h, if_neg h]; exact F.1 c hc
  · rw [up_a]
    show _ = hoN ρ i - if i = b then s.2 b + tkN ρ s b (clN x y) t else s.2 i
    by_cases h : i = b
    · rw [if_pos h, if_pos h, h]; exact nlh
    · rw [if_neg h, if_neg h, up_o (by decide)]; exact F.2 i i1 i2
