/-! The class finds, and traces back -/
theorem ft_zz {ρ : Nat → Int} (w : WF ρ) {a : Nat} : ∀ {n : Nat}, ((a + n : Nat) : Int) ≤ ρ 2 → ftN ρ a 0 0 n = 1
  | 0, _ => rfl
  | n + 1, h => by
    have hb : ((a + n : Nat) : Int) < ρ 2 := by omega
    unfold ftN
    rw [Int.add_zero, Int.add_zero, (w.b hb).wa, if_neg (by decide)]
    exact ft_zz w (by omega)
def c0C (ρ : Nat → Int) (a : Nat) : Nat := clN (ρ (203 + 12 * a)) (ρ (204 + 12 * a))
theorem c0_ok {ρ : Nat → Int} {a n : Nat} (w : WF ρ) (hz : ((a + n : Nat) : Int) ≤ ρ 2) (hn : 0 < n) : c0C ρ a < 64 ∧ fiC ρ a n (c0C ρ a) = 1 := by
  have ha : (a : Int) < ρ 2 := by omega
  have hw := w.b ha
  have cx := cl_x (hw.x w) (hw.y w)
  refine ⟨cl64 (hw.x w) (hw.y w), ?_⟩
  unfold fiC
  have e1 : dxC ρ a (c0C ρ a) = 0 := by unfold dxC c0C; rw [cx.1]; exact Int.sub_self _
  have e2 : dyC ρ a (c0C ρ a) = 0 := by unfold dyC c0C; rw [cx.2]; exact Int.sub_self _
  rw [e1, e2]
  exact ft_zz w hz
theorem mv_ok {ρ : Nat → Int} {P : List (Int × Int)} {a n h c v t : Nat} (w : WF ρ) (e : mvC ρ P a n h c v = some t) : t < 64 ∧ fiC ρ a n t = 1 := by
  obtain ⟨k, rfl⟩ := mv_i e
  have hi := k.2.1
  exact ⟨cl64 ⟨hi.1, Int.lt_of_lt_of_le hi.2.1 w.1.2⟩ ⟨hi.2.2.1, Int.lt_of_lt_of_le hi.2.2.2 w.2.1.2⟩, k.2.2.1⟩
theorem rs_ok {ρ : Nat → Int} {P : List (Int × Int)} {a n : Nat} (w : WF ρ) (hz : ((a + n : Nat) : Int) ≤ ρ 2) (hn : 0 < n) : ∀ {h c : Nat}, RS (mvC ρ P a n) (c0C ρ a) h c → c < 64 ∧ fiC ρ a n c = 1
  | 0, c, e => by
    have e' : c = c0C ρ a := e
    rw [e']; exact c0_ok w hz hn
  | h + 1, t, ⟨c, v, _, _, e⟩ => mv_ok w e
theorem ntr {c : Nat} {x y : Int} (c6 : c < 64) (hx : 0 ≤ ((c % 8 : Nat) : Int) + x ∧ ((c % 8 : Nat) : Int) + x < 8) (hy : 0 ≤ ((c / 8 : Nat) : Int) + y ∧ ((c / 8 : Nat) : Int) + y < 8) (bx : -1 ≤ x ∧ x ≤ 1) (byy : -1 ≤ y ∧ y ≤ 1) : wr (((clN (((c % 8 : Nat) : Int) + x) (((c / 8 : Nat) : Int) + y) : Nat) : Int) - wr (wr (y * 8) + x)) = (c : Int) := by
  unfold clN
  rw [wr_of (x := y * 8) (by omega) (by omega), wr_of (x := y * 8 + x) (by omega) (by omega), wr_of (by omega) (by omega)]
  omega
theorem ixT {i c : Nat} (hi : i < 24) (hc : c < 64) : wr (wr ((i : Int) * 64) + (c : Int)) = ((64 * i + c : Nat) : Int) := by
  rw [wr_of (x := (i : Int) * 64) (by omega) (by omega), wr_of (by omega) (by omega)]; omega
theorem c_trace {X : mXX} {d : Nat} {Q : Option mV → mS → Prop} {σ α : Nat → Nat → Int} {ρ : Nat → Int} {P : List (Int × Int)} {a n H t v : Nat} {gl : Nat → Prop} (w : WF ρ) (hz : ((a + n : Nat) : Int) ≤ ρ 2) (hn : 0 < n) (hH : H ≤ 24) (g : GP (mvC ρ P a n) (c0C ρ a) gl H H t v) (cam : ∀ j u x, j < H → (u, x) ∈ LSn (mvC ρ P a n) (c0C ρ a) (j + 1) → α 95 (64 * j + u) = (x : Int)) (gin : ∀ i c x, i ≤ H → GP (mvC ρ P a n) (c0C ρ a) gl H i c x → (c, x) ∈ LSn (mvC ρ P a n) (c0C ρ a) i) (hQ : ∀ α', Fα [91] α α' → (∀ j, j < H → ∃ c x, GP (mvC ρ P a n) (c0C ρ a) gl H (j + 1) c x ∧ α' 91 j = (x : Int)) → Q none (S0, σ, α')) : Ca X (d + 1) 36 [vR 90, vI (t : Int), vI (H : Int)] (S0, σ, α) Q := by
  refine vc36_0 ?_
  have e0 : wr ((H : Int) - 1) = (H : Int) - 1 := wr_of (by omega) (by omega)
  rw [e0]
  clear e0
  have key : ∀ (i c x : Nat) (γ : Nat → Nat → Int) (x5 : Option mV), i ≤ H → GP (mvC ρ P a n) (c0C ρ a) gl H i c x → Fα [91] α γ → (∀ j, i ≤ j → j < H → ∃ c x, GP (mvC ρ P a n) (c0C ρ a) gl H (j + 1) c x ∧ γ 91 j = (x : Int)) → Go X d 36 7 [some (vR 90), some (vI (t : Int)), some (vI (H : Int)), some (vI (c : Int)), some (vI ((i : Int) - 1)), x5] [] (S0, σ, γ) (0, 0) Q := by
    intro i
    induction i with
    | zero =>
      intro c x γ x5 hi gi hf F
      exact vc36_7 ⟨fun _ => hQ γ hf (fun j hj => F j (Nat.zero_le _) hj), fun q => absurd (by decide) q⟩
    | succ i ih =>
      intro c x γ x5 hi gi hf F
      have i24 : i < 24 := by omega
      have ii : ((i + 1 : Nat) : Int) - 1 = (i : Int) := by omega
      have i0 : ¬ (i : Int) < 0 := by omega
      have iH : i < H := by omega
      have iH' : i ≤ H := by omega
      have em := gin (i + 1) c x hi gi
      have ce := cam i c x iH em
      obtain ⟨c', x', g', x5', mve, -, -⟩ := id gi
      obtain ⟨ok, ec⟩ := mv_i mve
      have c6 := (mv_ok w mve).1
      have hix := ok.2.1
      have hx : 0 ≤ txC c' x ∧ txC c' x < 8 := ⟨hix.1, Int.lt_of_lt_of_le hix.2.1 w.1.2⟩
      have hy : 0 ≤ tyC c' x ∧ tyC c' x < 8 := ⟨hix.2.2.1, Int.lt_of_lt_of_le hix.2.2.2 w.2.1.2⟩
      have c6' : c' < 64 := (rs_ok w hz hn (ls_rs.mp ⟨x', gin i c' x' iH' g'⟩)).1
      have hx5 : 0 ≤ (x : Int) ∧ (x : Int) < 5 := by clear hx hy hix; omega
      have m5 : mInA (x : Int) 5 := mInA_n x5'
      have ci : ¬ (c : Int) < 0 := by clear hx hy hix; omega
      have ci6 : (c : Int) < 64 := by clear hx hy hix; omega
      have e1 : wr ((i : Int) + -1) = (i : Int) - 1 := by clear hx hy hix; rw [wr_of (by omega) (by omega)]; omega
      have g95 : γ 95 = α 95 := hf 95 (by decide)
      rw [ii]
      refine vc36_7 ⟨fun q => absurd q i0, fun _ => ⟨fun q => absurd q ci, fun _ => ⟨fun q => absurd ci6 q, fun _ => ?_⟩⟩⟩
      rw [ixT i24 c6]
      refine ⟨mInA_n (nim i24 c6), mInA_n i24, ?_⟩
      rw [Int.toNat_natCast, g95, ce]
      refine ⟨m5, m5, ?_⟩
      rw [Int.toNat_natCast, Int.toNat_natCast, e1]
      have ewx : wX x = wxR (x : Int) := wX_R hx5
      have ewy : wY x = wyR (x : Int) := wY_R hx5
      have en := ntr c6' hx hy (wx_bd (v := (x : Int))) (wy_bd (v := (x : Int)))
      have en' : wr ((c : Int) - wr (wr (wyR (x : Int) * 8) + wxR (x : Int))) = (c' : Int) := by rw [ec]; exact en
      rw [ewx, ewy, en']
      refine ih c' x' _ _ iH' g' (hf.tr (Fα.up (by decide))) (fun j j1 j2 => ?_)
      rw [up_a]
      by_cases e : j = i
      · rw [if_pos e, e]; exact ⟨c, x, gi, rfl⟩
      · rw [if_neg e]; exact F j (Nat.lt_of_le_of_ne j1 (fun z => e z.symm)) j2
  exact key H t v α none (Nat.le_refl _) g Fα.rf (fun j j1 j2 => absurd j2 (Nat.not_lt.mpr j1))
theorem first_u {D : Nat → Prop} {p q : Nat × Nat} {l2 r2 : LY} (hp : D p.1) (hq : D q.1) : ∀ {l1 r1 : LY}, (∀ s, inL l1 s → ¬ D s) → (∀ s, inL r1 s → ¬ D s) → l1 ++ p :: l2 = r1 ++ q :: r2 → p = q
  | [], [], _, _, e => (List.cons.inj e).1
  | [], y :: r1, _, h2, e => by
    have : p = y := (List.cons.inj e).1
    exact absurd hp (h2 p.1 ⟨p.2, by rw [this]; exact List.mem_cons_self⟩)
  | x :: l1, [], h1, _, e => by
    have : x = q := (List.cons.inj e).1
    exact absurd hq (h1 q.1 ⟨q.2, by rw [this]; exact List.mem_cons_self⟩)
  | x :: l1, y :: r1, h1, h2, e => first_u hp hq (l1 := l1) (r1 := r1) (fun s ⟨v, h⟩ => h1 s ⟨v, List.mem_cons_of_mem _ h⟩) (fun s ⟨v, h⟩ => h2 s ⟨v, List.mem_cons_of_mem _ h⟩) (List.cons.inj e).2
