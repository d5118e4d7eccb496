/-! What is caught: the takes in their order -/
theorem cp_s {α : Nat → Nat → Int} {a c n y : Nat} (h : y < n) : mCp α a 0 c 0 n c y = α a y := by
  unfold mCp
  rw [if_pos rfl, if_pos ⟨Nat.zero_le _, by omega⟩]
  congr 1
  omega
theorem cp_o {α : Nat → Nat → Int} {a sp c dp n x : Nat} (h : x ≠ c) : mCp α a sp c dp n x = α x := by
  funext y
  unfold mCp
  rw [if_neg h]
abbrev FS : Type := (Nat → Int) × (Nat → Int)
def tkN (ρ : Nat → Int) (s : FS) (b c : Nat) (t : Int) : Int := min t (min (s.1 c) (hoN ρ b - s.2 b))
def tk1 (ρ : Nat → Int) (s : FS) (b c : Nat) (t : Int) : FS := (fun i => if i = c then s.1 c - tkN ρ s b c t else s.1 i, fun i => if i = b then s.2 b + tkN ρ s b c t else s.2 i)
def clN (x y : Int) : Nat := (8 * y + x).toNat
def btF (ρ : Nat → Int) (dx dy : Int) (a : Nat) (s : FS) : Nat → FS
  | 0 => s
  | n + 1 => tk1 ρ (btF ρ dx dy a s n) (a + n) (clN (ρ (203 + 12 * (a + n)) + dx) (ρ (204 + 12 * (a + n)) + dy)) (if ρ (202 + 12 * (a + n)) = 4 then 5 else 3)
def sgn (u v : Int) : Int := if u < v then 1 else if v < u then -1 else 0
def swx (ρ : Nat → Int) (dx : Int) (k i : Nat) : Int := ρ (203 + 12 * k) + (i : Int) * sgn (ρ (203 + 12 * k)) (ρ (203 + 12 * (k + 1))) + dx
def swy (ρ : Nat → Int) (dy : Int) (k i : Nat) : Int := ρ (204 + 12 * k) + (i : Int) * sgn (ρ (204 + 12 * k)) (ρ (204 + 12 * (k + 1))) + dy
def sw1 (ρ : Nat → Int) (dx dy : Int) (k : Nat) (s : FS) : Nat → FS
  | 0 => s
  | i + 1 => tk1 ρ (tk1 ρ (sw1 ρ dx dy k s i) k (clN (swx ρ dx k (i + 1)) (swy ρ dy k (i + 1))) 2) (k + 1) (clN (swx ρ dx k (i + 1)) (swy ρ dy k (i + 1))) 2
def apN (ρ : Nat → Int) (k : Nat) : Int := dst (ρ (203 + 12 * k)) (ρ (203 + 12 * (k + 1))) + dst (ρ (204 + 12 * k)) (ρ (204 + 12 * (k + 1)))
def swF (ρ : Nat → Int) (dx dy : Int) (k : Nat) (s : FS) : FS := if ρ (203 + 12 * k) ≠ ρ (203 + 12 * (k + 1)) ∧ ρ (204 + 12 * k) ≠ ρ (204 + 12 * (k + 1)) then s else sw1 ρ dx dy k s ((apN ρ k).toNat - 1)
def sws (ρ : Nat → Int) (dx dy : Int) (a : Nat) (s : FS) : Nat → FS
  | 0 => s
  | n + 1 => if ρ (292 + 3 * (a + n)) = 0 then swF ρ dx dy (a + n) (sws ρ dx dy a s n) else sws ρ dx dy a s n
def fs0 (ρ : Nat → Int) : FS := (fun c => ρ (12 + 3 * c), fun b => ρ (210 + 12 * b))
def ctF (ρ : Nat → Int) (a n : Nat) (dx dy : Int) : FS := sws ρ dx dy a (btF ρ dx dy a (fs0 ρ) n) (n - 1)
def gtR (ρ : Nat → Int) (s : FS) (a n : Nat) : Int := smF (fun b => s.2 b - ρ (210 + 12 * b)) a n
def ctR (ρ : Nat → Int) (a n : Nat) (dx dy : Int) : Int := gtR ρ (ctF ρ a n dx dy) a n
/-- bounds -/
def FB (ρ : Nat → Int) (s : FS) : Prop := (∀ c, c < 64 → 0 ≤ s.1 c ∧ s.1 c ≤ ρ (11 + 3 * c)) ∧ ∀ b : Nat, (b : Int) < ρ 2 → ρ (210 + 12 * b) ≤ s.2 b ∧ s.2 b ≤ hoN ρ b
theorem FB.n {ρ : Nat → Int} {s : FS} (B : FB ρ s) {b c : Nat} {t : Int} (hc : c < 64) (hb : (b : Int) < ρ 2) (ht : 0 ≤ t) : 0 ≤ tkN ρ s b c t ∧ tkN ρ s b c t ≤ s.1 c ∧ tkN ρ s b c t ≤ hoN ρ b - s.2 b ∧ tkN ρ s b c t ≤ t := by
  have h1 := (B.1 c hc).1
  have h2 := (B.2 b hb).2
  unfold tkN
  omega
theorem FB.tk {ρ : Nat → Int} {s : FS} (B : FB ρ s) {b c : Nat} {t : Int} (hc : c < 64) (hb : (b : Int) < ρ 2) (ht : 0 ≤ t) : FB ρ (tk1 ρ s b c t) := by
  have hn := B.n hc hb ht
  refine ⟨fun i hi => ?_, fun i hi => ?_⟩
  · show 0 ≤ (if i = c then s.1 c - tkN ρ s b c t else s.1 i) ∧ (if i = c then s.1 c - tkN ρ s b c t else s.1 i) ≤ ρ (11 + 3 * i)
    have h1 := B.1 i hi
    by_cases h : i = c
    · rw [if_pos h]; subst h; omega
    · rw [if_neg h]; exact h1
  · show ρ (210 + 12 * i) ≤ (if i = b then s.2 b + tkN ρ s b c t else s.2 i) ∧ (if i = b then s.2 b + tkN ρ s b c t else s.2 i) ≤ hoN ρ i
    have h1 := B.2 i hi
    by_cases h : i = b
    · rw [if_pos h]; subst h; omega
    · rw [if_neg h]; exact h1
theorem FB.f0 {ρ : Nat → Int} (w : WF ρ) : FB ρ (fs0 ρ) := ⟨fun c hc => ⟨(w.c hc).2.1, (w.c hc).2.2.1⟩, fun b hb => ⟨Int.le_refl _, (w.b hb).2.2.2.2.2.2.2.2.1.2⟩⟩
theorem FB.h99 {ρ : Nat → Int} (w : WF ρ) {b : Nat} (hb : (b : Int) < ρ 2) : 0 ≤ hoN ρ b ∧ hoN ρ b ≤ 99 := by
  have h := (w.b hb).2.2.2.2.2.1
  unfold hoN
  split
  · have h1 := Int.tdiv_nonneg h.1 (show (0 : Int) ≤ 2 by decide)
    have h2 := Int.tdiv_le_self 2 h.1
    omega
  · exact h
theorem cl64 {x y : Int} (hx : 0 ≤ x ∧ x < 8) (hy : 0 ≤ y ∧ y < 8) : clN x y < 64 := by unfold clN; omega
theorem smF_up {g : Nat → Int} {b : Nat} {v : Int} {a : Nat} : ∀ {n : Nat}, smF (fun i => if i = b then g b + v else g i) a n = smF g a n + if a ≤ b ∧ b < a + n then v else 0
  | 0 => by
    rw [if_neg (by omega)]; rfl
  | n + 1 => by
    unfold smF
    rw [smF_up (g := g) (n := n)]
    show _ + (if a + n = b then g b + v else g (a + n)) = _
    by_cases h : a + n = b
    · rw [if_pos h, if_neg (by omega), if_pos (by omega), h]; omega
    · rw [if_neg h]
      by_cases h2 : a ≤ b ∧ b < a + n
      · rw [if_pos h2, if_pos (by omega)]; omega
      · rw [if_neg h2, if_neg (by omega)]; omega
theorem gt_tk {ρ : Nat → Int} {s : FS} {b c : Nat} {t : Int} {a n : Nat} (h1 : a ≤ b) (h2 : b < a + n) : gtR ρ (tk1 ρ s b c t) a n = gtR ρ s a n + tkN ρ s b c t := by
  unfold gtR
  have e := smF_up (g := fun i => s.2 i - ρ (210 + 12 * i)) (b := b) (v := tkN ρ s b c t) (a := a) (n := n)
  rw [if_pos ⟨h1, h2⟩] at e
  rw [← e]
  refine smF_cg (fun i _ _ => ?_)
  show (if i = b then s.2 b + tkN ρ s b c t else s.2 i) - ρ (210 + 12 * i) = if i = b then s.2 b - ρ (210 + 12 * b) + tkN ρ s b c t else s.2 i - ρ (210 + 12 * i)
  by_cases h : i = b
  · rw [if_pos h, if_pos h, h]; omega
  · rw [if_neg h, if_neg h]
theorem gt_bd {ρ : Nat → Int} {s : FS} {a n : Nat} (w : WF ρ) (B : FB ρ s) (hz : ((a + n : Nat) : Int) ≤ ρ 2) : 0 ≤ gtR ρ s a n ∧ gtR ρ s a n ≤ 99 * (n : Int) := by
  refine smF_bd (fun b b1 b2 => ?_)
  have hb : (b : Int) < ρ 2 := by omega
  have h1 := B.2 b hb
  have h2 := (w.b hb).2.2.2.2.2.2.2.2.1.1
  have h3 := FB.h99 w hb
  show 0 ≤ s.2 b - ρ (210 + 12 * b) ∧ s.2 b - ρ (210 + 12 * b) ≤ 99
  omega
theorem gt_0 {ρ : Nat → Int} {a : Nat} : ∀ {n : Nat}, gtR ρ (fs0 ρ) a n = 0
  | 0 => rfl
  | n + 1 => by
    show gtR ρ (fs0 ρ) a n + (ρ (210 + 12 * (a + n)) - ρ (210 + 12 * (a + n))) = 0
    rw [gt_0 (n := n)]; omega
/-- between the two boats of a link -/
theorem sw_i1 {x z d i : Int} (h1 : 0 ≤ x + d ∧ x + d < 8) (h2 : 0 ≤ z + d ∧ z + d < 8) (hi : 0 ≤ i ∧ i ≤ dst x z) : 0 ≤ x + i * sgn x z + d ∧ x + i * sgn x z + d < 8 := by
  unfold dst at hi
  unfold sgn
  by_cases h : x < z
  · rw [if_pos h] at hi ⊢; omega
  · rw [if_neg h] at hi ⊢
    by_cases g : z < x
    · rw [if_pos g]; omega
    · rw [if_neg g]; omega
theorem sgn_e {x : Int} : sgn x x = 0 := by unfold sgn; rw [if_neg (by omega), if_neg (by omega)]
theorem dst_e {x : Int} : dst x x = 0 := by unfold dst; rw [if_neg (by omega)]; omega
theorem dst_bd {x z : Int} (h1 : 0 ≤ x ∧ x < 8) (h2 : 0 ≤ z ∧ z < 8) : 0 ≤ dst x z ∧ dst x z < 8 := by unfold dst; split <;> omega
theorem sw_in {ρ : Nat → Int} {dx dy : Int} {k i : Nat} (hx : 0 ≤ ρ (203 + 12 * k) + dx ∧ ρ (203 + 12 * k) + dx < 8) (hx' : 0 ≤ ρ (203 + 12 * (k + 1)) + dx ∧ ρ (203 + 12 * (k + 1)) + dx < 8) (hy : 0 ≤ ρ (204 + 12 * k) + dy ∧ ρ (204 + 12 * k) + dy < 8) (hy' : 0 ≤ ρ (204 + 12 * (k + 1)) + dy ∧ ρ (204 + 12 * (k + 1)) + dy < 8) (hn : ¬ (ρ (203 + 12 * k) ≠ ρ (203 + 12 * (k + 1)) ∧ ρ (204 + 12 * k) ≠ ρ (204 + 12 * (k + 1)))) (hi : (i : Int) ≤ apN ρ k) : (0 ≤ swx ρ dx k i ∧ swx ρ dx k i < 8) ∧ 0 ≤ swy ρ dy k i ∧ swy ρ dy k i < 8 := by
  unfold apN at hi
  unfold swx swy
  generalize ρ (203 + 12 * k) = x at *
  generalize ρ (203 + 12 * (k + 1)) = x' at *
  generalize ρ (204 + 12 * k) = y at *
  generalize ρ (204 + 12 * (k + 1)) = y' at *
  by_cases h : x = x'
  · subst h
    rw [dst_e] at hi
    refine ⟨?_, sw_i1 hy hy' ⟨by omega, by omega⟩⟩
    rw [sgn_e, Int.mul_zero, Int.add_zero]; exact hx
  · have h' : y = y' := by
      by_cases g : y = y'
      · exact g
      · exact absurd ⟨h, g⟩ hn
    subst h'
    rw [dst_e] at hi
    refine ⟨sw_i1 hx hx' ⟨by omega, by omega⟩, ?_⟩
    rw [sgn_e, Int.mul_zero, Int.add_zero]; exact hy
theorem ixC {x y : Int} (hx : 0 ≤ x ∧ x < 8) (hy : 0 ≤ y ∧ y < 8) : wr (wr (y * 8) + x) = ((clN x y : Nat) : Int) := by
  unfold clN
  rw [wr_of (x := y * 8) (by omega) (by omega), wr_of (by omega) (by omega)]; omega
theorem ixD {x y : Int} (hx : 0 ≤ x ∧ x < 8) (hy : 0 ≤ y ∧ y < 8) : wr (wr (8 * y) + x) = ((clN x y : Nat) : Int) := by rw [Int.mul_comm]; exact ixC hx hy
theorem FB.bt {ρ : Nat → Int} {dx dy : Int} {a : Nat} {s : FS} (B : FB ρ s) : ∀ {n : Nat}, ((a + n : Nat) : Int) ≤ ρ 2 → inB ρ a n dx dy → FB ρ (btF ρ dx dy a s n)
  | 0, _, _ => B
  | n + 1, hz, hi => by
    have i1 := hi (a + n) (by omega) (by omega)
    refine FB.tk (FB.bt B (n := n) (by omega) (fun b b1 b2 => hi b b1 (by omega))) (cl64 i1.1 i1.2) (by omega) ?_
    split <;> decide
theorem FB.w1 {ρ : Nat → Int} {dx dy : Int} {k : Nat} {s : FS} (B : FB ρ s) (hk : ((k + 1 : Nat) : Int) < ρ 2) : ∀ {n : Nat}, (∀ i, i ≤ n → (0 ≤ swx ρ dx k i ∧ swx ρ dx k i < 8) ∧ 0 ≤ swy ρ dy k i ∧ swy ρ dy k i < 8) → FB ρ (sw1 ρ dx dy k s n)
  | 0, _ => B
  | n + 1, hi => by
    have i1 := hi (n + 1) (Nat.le_refl _)
    have c := cl64 i1.1 i1.2
    exact ((FB.w1 B hk (n := n) (fun i h => hi i (by omega))).tk c (by omega) (by decide)).tk c hk (by decide)
def lnB (ρ : Nat → Int) (dx dy : Int) (k : Nat) : Prop := ((0 ≤ ρ (203 + 12 * k) + dx ∧ ρ (203 + 12 * k) + dx < 8) ∧ (0 ≤ ρ (204 + 12 * k) + dy ∧ ρ (204 + 12 * k) + dy < 8)) ∧ ((0 ≤ ρ (203 + 12 * (k + 1)) + dx ∧ ρ (203 + 12 * (k + 1)) + dx < 8) ∧ (0 ≤ ρ (204 + 12 * (k + 1)) + dy ∧ ρ (204 + 12 * (k + 1)) + dy < 8))
theorem lnB.in {ρ : Nat → Int} {dx dy : Int} {k : Nat} (l : lnB ρ dx dy k) (hn : ¬ (ρ (203 + 12 * k) ≠ ρ (203 + 12 * (k + 1)) ∧ ρ (204 + 12 * k) ≠ ρ (204 + 12 * (k + 1)))) {i : Nat} (hi : (i : Int) ≤ apN ρ k) : (0 ≤ swx ρ dx k i ∧ swx ρ dx k i < 8) ∧ 0 ≤ swy ρ dy k i ∧ swy ρ dy k i < 8 := sw_in l.1.1 l.2.1 l.1.2 l.2.2 hn hi
theorem FB.wF {ρ : Nat → Int} {dx dy : Int} {k : Nat} {s : FS} (B : FB ρ s) (hk : ((k + 1 : Nat) : Int) < ρ 2) (l : lnB ρ dx dy k) (h0 : 0 ≤ apN ρ k) : FB ρ (swF ρ dx dy k s) := by
  unfold swF
  by_cases h : ρ (203 + 12 * k) ≠ ρ (203 + 12 * (k + 1)) ∧ ρ (204 + 12 * k) ≠ ρ (204 + 12 * (k + 1))
  · rw [if_pos h]; exact B
  · rw [if_neg h]; exact B.w1 hk (fun i hi => l.in h (by omega))
theorem ap_bd {ρ : Nat → Int} {k : Nat} (w : WF ρ) (hk : ((k + 1 : Nat) : Int) < ρ 2) : 0 ≤ apN ρ k ∧ apN ρ k < 16 := by
  have h1 := w.b (b := k) (by omega)
  have h2 := w.b hk
  have d1 := dst_bd (h1.x w) (h2.x w)
  have d2 := dst_bd (h1.y w) (h2.y w)
  unfold apN
  omega
theorem inB.ln {ρ : Nat → Int} {a n : Nat} {dx dy : Int} (hi : inB ρ a n dx dy) {k : Nat} (h1 : a ≤ k) (h2 : k + 1 < a + n) : lnB ρ dx dy k := ⟨hi k h1 (by omega), hi (k + 1) (by omega) h2⟩
theorem FB.ws {ρ : Nat → Int} {dx dy : Int} {a : Nat} {s : FS} (w : WF ρ) (B : FB ρ s) : ∀ {n : Nat}, ((a + n + 1 : Nat) : Int) ≤ ρ 2 → inB ρ a (n + 1) dx dy → FB ρ (sws ρ dx dy a s n)
  | 0, _, _ => B
  | n + 1, hz, hi => by
    have ih := FB.ws w B (n := n) (by omega) (fun b b1 b2 => hi b b1 (by omega))
    unfold sws
    by_cases h : ρ (292 + 3 * (a + n)) = 0
    · rw [if_pos h]
      have hk : ((a + n + 1 : Nat) : Int) < ρ 2 := by omega
      exact ih.wF hk (hi.ln (by omega) (by omega)) (ap_bd w hk).1
    · rw [if_neg h]; exact ih
theorem FB.ct {ρ : Nat → Int} {dx dy : Int} {a n : Nat} (w : WF ρ) (hz : ((a + n : Nat) : Int) ≤ ρ 2) (hi : inB ρ a n dx dy) : FB ρ (ctF ρ a n dx dy) := by
  unfold ctF
  have b := (FB.f0 w).bt hz hi
  rcases n with _ | n
  · exact b
  · exact FB.ws w b (n := n) (by omega) hi
