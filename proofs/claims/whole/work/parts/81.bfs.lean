/-! Layers of cells, and the first way: over moves mv alone -/
theorem nd_le : ∀ (N : Nat) (l : List Nat), l.Nodup → (∀ x ∈ l, x < N) → l.length ≤ N
  | 0, l, _, h => by
    cases l with
    | nil => exact Nat.le_refl _
    | cons x r => exact absurd (h x List.mem_cons_self) (Nat.not_lt_zero x)
  | N + 1, l, nd, h => by
    by_cases hm : N ∈ l
    · have e := List.length_erase_of_mem hm
      have ih := nd_le N (l.erase N) (nd.erase N) (fun x hx => by
        have h1 := (List.Nodup.mem_erase_iff nd).mp hx
        have h2 := h x h1.2
        have h3 := h1.1
        omega)
      have : 0 < l.length := List.length_pos_of_mem hm
      omega
    · have ih := nd_le N l nd (fun x hx => by
        have h2 := h x hx
        have h3 : x ≠ N := fun q => hm (by rw [← q]; exact hx)
        omega)
      omega
abbrev LY : Type := List (Nat × Nat)
def inL (l : LY) (t : Nat) : Prop := ∃ v, (t, v) ∈ l
def hasT (l : LY) (t : Nat) : Bool := l.any (fun p => p.1 == t)
theorem has_iff {l : LY} {t : Nat} : hasT l t = true ↔ inL l t := by
  unfold hasT inL
  rw [List.any_eq_true]
  constructor
  · intro ⟨p, h1, h2⟩
    have e : p.1 = t := by simpa using h2
    exact ⟨p.2, by rw [← e]; exact h1⟩
  · intro ⟨v, h⟩
    exact ⟨(t, v), h, by simp⟩
def adT (acc : LY) (t v : Nat) : LY := if hasT acc t = true then acc else acc ++ [(t, v)]
def mvs (mv : Nat → Option Nat) (acc : LY) (v : Nat) : LY := match mv v with
  | none => acc
  | some t => adT acc t v
def bldV (mv : Nat → Option Nat) : Nat → LY → LY
  | 0, acc => acc
  | v + 1, acc => mvs mv (bldV mv v acc) v
def bldL (mv : Nat → Nat → Option Nat) : LY → LY → LY
  | [], acc => acc
  | p :: r, acc => bldL mv r (bldV (mv p.1) 5 acc)
def LSn (mv : Nat → Nat → Nat → Option Nat) (c0 : Nat) : Nat → LY
  | 0 => [(c0, 0)]
  | h + 1 => bldL (mv h) (LSn mv c0 h) []
def RS (mv : Nat → Nat → Nat → Option Nat) (c0 : Nat) : Nat → Nat → Prop
  | 0, c => c = c0
  | h + 1, t => ∃ c v, RS mv c0 h c ∧ v < 5 ∧ mv h c v = some t
theorem inL_app {l r : LY} {t : Nat} : inL (l ++ r) t ↔ inL l t ∨ inL r t := by
  unfold inL
  constructor
  · intro ⟨v, h⟩
    rcases List.mem_append.mp h with h | h
    · exact Or.inl ⟨v, h⟩
    · exact Or.inr ⟨v, h⟩
  · intro h
    rcases h with ⟨v, h⟩ | ⟨v, h⟩
    · exact ⟨v, List.mem_append.mpr (Or.inl h)⟩
    · exact ⟨v, List.mem_append.mpr (Or.inr h)⟩
theorem inL_one {t s v : Nat} : inL [(s, v)] t ↔ t = s := by
  unfold inL
  constructor
  · intro ⟨u, h⟩
    have := List.mem_singleton.mp h
    exact (Prod.mk.inj this).1
  · intro h
    exact ⟨v, by rw [h]; exact List.mem_singleton.mpr rfl⟩
theorem ad_in {acc : LY} {t v s : Nat} : inL (adT acc t v) s ↔ inL acc s ∨ s = t := by
  unfold adT
  by_cases h : hasT acc t = true
  · rw [if_pos h]
    refine ⟨fun z => Or.inl z, fun z => ?_⟩
    rcases z with z | z
    · exact z
    · rw [z]; exact has_iff.mp h
  · rw [if_neg h, inL_app, inL_one]
theorem ms_in {mv : Nat → Option Nat} {acc : LY} {v s : Nat} : inL (mvs mv acc v) s ↔ inL acc s ∨ mv v = some s := by
  unfold mvs
  cases e : mv v with
  | none => exact ⟨fun z => Or.inl z, fun z => z.resolve_right (by simp)⟩
  | some t =>
    show inL (adT acc t v) s ↔ _
    rw [ad_in]
    constructor
    · intro z
      rcases z with z | z
      · exact Or.inl z
      · rw [z]; exact Or.inr rfl
    · intro z
      rcases z with z | z
      · exact Or.inl z
      · exact Or.inr (Option.some.inj z).symm
theorem bv_in {mv : Nat → Option Nat} {acc : LY} {s : Nat} : ∀ {n : Nat}, inL (bldV mv n acc) s ↔ inL acc s ∨ ∃ v, v < n ∧ mv v = some s
  | 0 => ⟨fun z => Or.inl z, fun z => z.resolve_right (fun ⟨v, h, _⟩ => Nat.not_lt_zero v h)⟩
  | n + 1 => by
    show inL (mvs mv (bldV mv n acc) n) s ↔ _
    rw [ms_in, bv_in]
    constructor
    · intro z
      rcases z with (z | ⟨v, z1, z2⟩) | z
      · exact Or.inl z
      · exact Or.inr ⟨v, Nat.lt_succ_of_lt z1, z2⟩
      · exact Or.inr ⟨n, Nat.lt_succ_self n, z⟩
    · intro z
      rcases z with z | ⟨v, z1, z2⟩
      · exact Or.inl (Or.inl z)
      · by_cases e : v = n
        · rw [e] at z2; exact Or.inr z2
        · exact Or.inl (Or.inr ⟨v, Nat.lt_of_le_of_ne (Nat.le_of_lt_succ z1) e, z2⟩)
theorem bl_in {mv : Nat → Nat → Option Nat} {s : Nat} : ∀ {l acc : LY}, inL (bldL mv l acc) s ↔ inL acc s ∨ ∃ c v, inL l c ∧ v < 5 ∧ mv c v = some s
  | [], acc => ⟨fun z => Or.inl z, fun z => z.resolve_right (fun ⟨c, v, ⟨u, h⟩, _⟩ => absurd h List.not_mem_nil)⟩
  | p :: r, acc => by
    show inL (bldL mv r (bldV (mv p.1) 5 acc)) s ↔ _
    rw [bl_in, bv_in]
    constructor
    · intro z
      rcases z with (z | ⟨v, z1, z2⟩) | ⟨c, v, ⟨u, z1⟩, z2⟩
      · exact Or.inl z
      · exact Or.inr ⟨p.1, v, ⟨p.2, List.mem_cons_self⟩, z1, z2⟩
      · exact Or.inr ⟨c, v, ⟨u, List.mem_cons_of_mem _ z1⟩, z2⟩
    · intro z
      rcases z with z | ⟨c, v, ⟨u, z1⟩, z2, z3⟩
      · exact Or.inl (Or.inl z)
      · rcases List.mem_cons.mp z1 with q | q
        · have e : c = p.1 := by rw [← q]
          rw [e] at z3
          exact Or.inl (Or.inr ⟨v, z2, z3⟩)
        · exact Or.inr ⟨c, v, ⟨u, q⟩, z2, z3⟩
theorem ls_rs {mv : Nat → Nat → Nat → Option Nat} {c0 : Nat} : ∀ {h s : Nat}, inL (LSn mv c0 h) s ↔ RS mv c0 h s
  | 0, s => inL_one
  | h + 1, s => by
    show inL (bldL (mv h) (LSn mv c0 h) []) s ↔ ∃ c v, RS mv c0 h c ∧ v < 5 ∧ mv h c v = some s
    rw [bl_in]
    constructor
    · intro z
      rcases z with ⟨u, z⟩ | ⟨c, v, z1, z2⟩
      · exact absurd z List.not_mem_nil
      · exact ⟨c, v, ls_rs.mp z1, z2⟩
    · intro ⟨c, v, z1, z2⟩
      exact Or.inr ⟨c, v, ls_rs.mpr z1, z2⟩
/-- no cell twice -/
theorem nd_one {t : Nat} : [t].Nodup := List.Pairwise.cons (fun _ h => absurd h List.not_mem_nil) List.Pairwise.nil
def ndL (l : LY) : Prop := (l.map Prod.fst).Nodup
theorem ad_nd {acc : LY} {t v : Nat} (h : ndL acc) : ndL (adT acc t v) := by
  unfold adT
  by_cases q : hasT acc t = true
  · rw [if_pos q]; exact h
  · rw [if_neg q]
    unfold ndL
    rw [List.map_append, List.nodup_append]
    refine ⟨h, nd_one, fun a ha b hb e => ?_⟩
    have hb' : b = t := List.mem_singleton.mp hb
    obtain ⟨p, p1, p2⟩ := List.mem_map.mp ha
    refine q (has_iff.mpr ⟨p.2, ?_⟩)
    rw [← hb', ← e, ← p2]
    exact p1
theorem ms_nd {mv : Nat → Option Nat} {acc : LY} {v : Nat} (h : ndL acc) : ndL (mvs mv acc v) := by
  unfold mvs
  cases mv v with
  | none => exact h
  | some t => exact ad_nd h
theorem bv_nd {mv : Nat → Option Nat} {acc : LY} (h : ndL acc) : ∀ {n : Nat}, ndL (bldV mv n acc)
  | 0 => h
  | n + 1 => by
    show ndL (mvs mv (bldV mv n acc) n)
    exact ms_nd (bv_nd h)
theorem bl_nd {mv : Nat → Nat → Option Nat} : ∀ {l acc : LY}, ndL acc → ndL (bldL mv l acc)
  | [], _, h => h
  | p :: r, acc, h => by
    show ndL (bldL mv r (bldV (mv p.1) 5 acc))
    exact bl_nd (bv_nd h)
theorem ls_nd {mv : Nat → Nat → Nat → Option Nat} {c0 : Nat} : ∀ {h : Nat}, ndL (LSn mv c0 h)
  | 0 => nd_one
  | _ + 1 => bl_nd List.nodup_nil
/-- what comes later is behind -/
theorem ad_pre {acc : LY} {t v : Nat} : ∃ r, adT acc t v = acc ++ r := by
  unfold adT
  by_cases q : hasT acc t = true
  · rw [if_pos q]; exact ⟨[], (List.append_nil _).symm⟩
  · rw [if_neg q]; exact ⟨_, rfl⟩
theorem ms_pre {mv : Nat → Option Nat} {acc : LY} {v : Nat} : ∃ r, mvs mv acc v = acc ++ r := by
  unfold mvs
  cases mv v with
  | none => exact ⟨[], (List.append_nil _).symm⟩
  | some t => exact ad_pre
theorem bv_pre {mv : Nat → Option Nat} {acc : LY} : ∀ {n : Nat}, ∃ r, bldV mv n acc = acc ++ r
  | 0 => ⟨[], (List.append_nil _).symm⟩
  | n + 1 => by
    obtain ⟨r, e⟩ := bv_pre (mv := mv) (acc := acc) (n := n)
    obtain ⟨r2, e2⟩ := ms_pre (mv := mv) (acc := bldV mv n acc) (v := n)
    refine ⟨r ++ r2, ?_⟩
    show mvs mv (bldV mv n acc) n = _
    rw [e2, e, List.append_assoc]
theorem bl_pre {mv : Nat → Nat → Option Nat} : ∀ {l acc : LY}, ∃ r, bldL mv l acc = acc ++ r
  | [], acc => ⟨[], (List.append_nil _).symm⟩
  | p :: l, acc => by
    obtain ⟨r, e⟩ := bv_pre (mv := mv p.1) (acc := acc) (n := 5)
    obtain ⟨r2, e2⟩ := bl_pre (mv := mv) (l := l) (acc := bldV (mv p.1) 5 acc)
    refine ⟨r ++ r2, ?_⟩
    show bldL mv l (bldV (mv p.1) 5 acc) = _
    rw [e2, e, List.append_assoc]
theorem bv_le {mv : Nat → Option Nat} {acc : LY} : ∀ {n k : Nat}, ∃ r, bldV mv (k + n) acc = bldV mv k acc ++ r
  | 0, k => ⟨[], (List.append_nil _).symm⟩
  | n + 1, k => by
    obtain ⟨r, e⟩ := bv_le (mv := mv) (acc := acc) (n := n) (k := k)
    obtain ⟨r2, e2⟩ := ms_pre (mv := mv) (acc := bldV mv (k + n) acc) (v := k + n)
    refine ⟨r ++ r2, ?_⟩
    show mvs mv (bldV mv (k + n) acc) (k + n) = _
    rw [e2, e, List.append_assoc]
theorem bl_app {mv : Nat → Nat → Option Nat} {l2 : LY} : ∀ {l1 acc : LY}, bldL mv (l1 ++ l2) acc = bldL mv l2 (bldL mv l1 acc)
  | [], _ => rfl
  | p :: l, acc => bl_app (l1 := l) (acc := bldV (mv p.1) 5 acc)
/-- the first one of a layer that leads on -/
theorem first_in {mv : Nat → Nat → Option Nat} {D : Nat → Prop} {l1 l2 : LY} {c w v0 t0 : Nat} (h1 : ∀ s, inL l1 s → ∀ v t, v < 5 → mv s v = some t → ¬ D t) (hv : v0 < 5) (ht : mv c v0 = some t0) (hD : D t0) (hl : ∀ v t, v < v0 → mv c v = some t → ¬ D t) : ∃ r1 r2, bldL mv (l1 ++ (c, w) :: l2) [] = r1 ++ (t0, v0) :: r2 ∧ ∀ s, inL r1 s → ¬ D s := by
  rw [bl_app]
  have a1 : ∀ s, inL (bldL mv l1 []) s → ¬ D s := fun s hs => by
    rcases bl_in.mp hs with ⟨u, z⟩ | ⟨c', v, z1, z2, z3⟩
    · exact absurd z List.not_mem_nil
    · exact h1 c' z1 v s z2 z3
  have a2 : ∀ s, inL (bldV (mv c) v0 (bldL mv l1 [])) s → ¬ D s := fun s hs => by
    rcases bv_in.mp hs with z | ⟨v, z1, z2⟩
    · exact a1 s z
    · exact hl v s z1 z2
  obtain ⟨r, e⟩ := bv_le (mv := mv c) (acc := bldL mv l1 []) (n := 5 - (v0 + 1)) (k := v0 + 1)
  rw [show v0 + 1 + (5 - (v0 + 1)) = 5 by omega] at e
  obtain ⟨r2, e2⟩ := bl_pre (mv := mv) (l := l2) (acc := bldV (mv c) 5 (bldL mv l1 []))
  have e3 : bldV (mv c) (v0 + 1) (bldL mv l1 []) = bldV (mv c) v0 (bldL mv l1 []) ++ [(t0, v0)] := by
    show mvs (mv c) (bldV (mv c) v0 (bldL mv l1 [])) v0 = _
    unfold mvs
    rw [ht]
    show adT _ t0 v0 = _
    unfold adT
    rw [if_neg (fun q => a2 t0 (has_iff.mp q) hD)]
  refine ⟨bldV (mv c) v0 (bldL mv l1 []), r ++ r2, ?_, a2⟩
  show bldL mv l2 (bldV (mv c) 5 (bldL mv l1 [])) = _
  rw [e2, e, e3, List.append_assoc, List.append_assoc]
  rfl
/-- what leads to a goal at hour H, d hours before it -/
def LDd (mv : Nat → Nat → Nat → Option Nat) (c0 : Nat) (goal : Nat → Prop) (H : Nat) : Nat → Nat → Prop
  | 0, c => RS mv c0 H c ∧ goal c
  | d + 1, c => RS mv c0 (H - (d + 1)) c ∧ ∃ v t, v < 5 ∧ mv (H - (d + 1)) c v = some t ∧ LDd mv c0 goal H d t
def LD (mv : Nat → Nat → Nat → Option Nat) (c0 : Nat) (goal : Nat → Prop) (H h c : Nat) : Prop := LDd mv c0 goal H (H - h) c
theorem LD_H {mv : Nat → Nat → Nat → Option Nat} {c0 : Nat} {goal : Nat → Prop} {H c : Nat} : LD mv c0 goal H H c ↔ RS mv c0 H c ∧ goal c := by
  unfold LD
  rw [Nat.sub_self]
  exact Iff.rfl
theorem LD_s {mv : Nat → Nat → Nat → Option Nat} {c0 : Nat} {goal : Nat → Prop} {H h c : Nat} (hh : h < H) : LD mv c0 goal H h c ↔ RS mv c0 h c ∧ ∃ v t, v < 5 ∧ mv h c v = some t ∧ LD mv c0 goal H (h + 1) t := by
  unfold LD
  obtain ⟨d, e⟩ : ∃ d, H - h = d + 1 := ⟨H - h - 1, by omega⟩
  have e2 : H - (h + 1) = d := by omega
  have e3 : H - (d + 1) = h := by omega
  rw [e, e2]
  show RS mv c0 (H - (d + 1)) c ∧ (∃ v t, v < 5 ∧ mv (H - (d + 1)) c v = some t ∧ LDd mv c0 goal H d t) ↔ _
  rw [e3]
/-- the greedy way -/
def GP (mv : Nat → Nat → Nat → Option Nat) (c0 : Nat) (goal : Nat → Prop) (H : Nat) : Nat → Nat → Nat → Prop
  | 0, c, w => c = c0 ∧ w = 0
  | h + 1, t, v => ∃ c w, GP mv c0 goal H h c w ∧ v < 5 ∧ mv h c v = some t ∧ LD mv c0 goal H (h + 1) t ∧ ∀ v' t', v' < v → mv h c v' = some t' → ¬ LD mv c0 goal H (h + 1) t'
theorem GP_u {mv : Nat → Nat → Nat → Option Nat} {c0 : Nat} {goal : Nat → Prop} {H : Nat} : ∀ {h c w c' w' : Nat}, GP mv c0 goal H h c w → GP mv c0 goal H h c' w' → c = c' ∧ w = w'
  | 0, _, _, _, _, a, b => ⟨a.1.trans b.1.symm, a.2.trans b.2.symm⟩
  | h + 1, t, v, t', v', ⟨c, w, a1, a2, a3, a4, a5⟩, ⟨c', w', b1, b2, b3, b4, b5⟩ => by
    have e := GP_u a1 b1
    rw [← e.1] at b3 b5
    have ev : v = v' := by
      rcases Nat.lt_trichotomy v v' with q | q | q
      · exact absurd a4 (b5 v t q a3)
      · exact q
      · exact absurd b4 (a5 v' t' q b3)
    rw [ev, b3] at a3
    exact ⟨(Option.some.inj a3).symm, ev⟩
theorem least_of {p : Nat → Prop} : ∀ {n : Nat}, (∃ v, v < n ∧ p v) → ∃ v, v < n ∧ p v ∧ ∀ u, u < v → ¬ p u
  | 0, ⟨v, h, _⟩ => absurd h (Nat.not_lt_zero v)
  | n + 1, ⟨v, h, hp⟩ => by
    by_cases q : ∃ u, u < n ∧ p u
    · obtain ⟨u, u1, u2, u3⟩ := least_of q
      exact ⟨u, Nat.lt_succ_of_lt u1, u2, u3⟩
    · refine ⟨v, h, hp, fun u hu pu => q ⟨u, by omega, pu⟩⟩
theorem GP_ls {mv : Nat → Nat → Nat → Option Nat} {c0 : Nat} {goal : Nat → Prop} {H : Nat} (h0 : LD mv c0 goal H 0 c0) : ∀ {h : Nat}, h ≤ H → ∃ c w r1 r2, GP mv c0 goal H h c w ∧ LD mv c0 goal H h c ∧ LSn mv c0 h = r1 ++ (c, w) :: r2 ∧ ∀ s, inL r1 s → ¬ LD mv c0 goal H h s
  | 0, _ => ⟨c0, 0, [], [], ⟨rfl, rfl⟩, h0, rfl, fun s ⟨u, z⟩ => absurd z List.not_mem_nil⟩
  | h + 1, hh => by
    obtain ⟨c, w, r1, r2, g, ld, e, n⟩ := GP_ls h0 (h := h) (by omega)
    have ld' := (LD_s (by omega)).mp ld
    obtain ⟨v, v5, ⟨t, vt, vl⟩, vn⟩ := least_of (p := fun v => ∃ t, mv h c v = some t ∧ LD mv c0 goal H (h + 1) t) (n := 5) (by obtain ⟨v, t, a, b, d⟩ := ld'.2; exact ⟨v, a, t, b, d⟩)
    obtain ⟨q1, q2, eq, nq⟩ := first_in (mv := mv h) (D := LD mv c0 goal H (h + 1)) (l1 := r1) (l2 := r2) (c := c) (w := w) (v0 := v) (t0 := t) (fun s hs u x hu hx hd => n s hs ((LD_s (by omega)).mpr ⟨ls_rs.mp (by rw [e, inL_app]; exact Or.inl hs), u, x, hu, hx, hd⟩)) v5 vt vl (fun u x hu hx hd => vn u hu ⟨x, hx, hd⟩)
    refine ⟨t, v, q1, q2, ⟨c, w, g, v5, vt, vl, fun u x hu hx hd => vn u hu ⟨x, hx, hd⟩⟩, vl, ?_, nq⟩
    show bldL (mv h) (LSn mv c0 h) [] = _
    rw [e]
    exact eq
theorem LD_0 {mv : Nat → Nat → Nat → Option Nat} {c0 : Nat} {goal : Nat → Prop} {H : Nat} : ∀ {d c : Nat}, d ≤ H → LD mv c0 goal H (H - d) c → RS mv c0 (H - d) c → ∃ c', LD mv c0 goal H 0 c' ∧ c' = c0
  | d, c, hd, l, r => by
    by_cases e : d = H
    · rw [e, Nat.sub_self] at l r
      exact ⟨c, l, r⟩
    · obtain ⟨k, hk⟩ : ∃ k, H - d = k + 1 := ⟨H - d - 1, by omega⟩
      rw [hk] at r l
      obtain ⟨c', v, a1, a2, a3⟩ := r
      have hkd : H - (d + 1) = k := by omega
      have l' : LD mv c0 goal H k c' := (LD_s (by omega)).mpr ⟨a1, v, c, a2, a3, l⟩
      exact LD_0 (d := d + 1) (c := c') (by omega) (by rw [hkd]; exact l') (by rw [hkd]; exact a1)
termination_by d => H - d
