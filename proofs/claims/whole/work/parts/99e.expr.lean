/-! The language of laws: what both sides make of the tokens -/
abbrev pRow : Type := List (Int × Int)
abbrev pRes : Type := Int × Nat × pRow
def jnC (T : Nat → Int) (N lvl i : Nat) : Int :=
  if lvl = 0 then (if twI T N i = 20 then 9 else if twI T N i = 21 then 10 else 0)
  else if lvl = 1 then (if sgF T N 60 i = 0 then 7 else if sgF T N 61 i = 0 then 8 else 0)
  else if lvl = 2 then (if sgF T N 43 i = 0 then 4 else if sgF T N 45 i = 0 then 5 else 0)
  else (if sgF T N 42 i = 0 then 6 else 0)
abbrev isF (T : Nat → Int) (N m i : Nat) : Prop := 29 ≤ twI T N i + m ∧ twI T N i ≤ 28
def fkI (T : Nat → Int) (N i : Nat) : Nat := if 26 ≤ twI T N i then twI T N i - 26 else twI T N i - 19
def pThen (r : pRes) (g : Nat → pRow → pRes) : pRes := if r.1 = 0 then g r.2.1 r.2.2 else r
def pAdd (r : pRes) (c : Int) : pRes := (r.1, r.2.1, r.2.2 ++ [(c, 0)])
def pEnd (T : Nat → Int) (N : Nat) (r : pRes) : pRes := if r.1 = 0 then (if sgF T N 41 r.2.1 = 0 then (0, r.2.1 + 1, r.2.2) else (sgF T N 41 r.2.1, r.2.1, r.2.2)) else r
abbrev isP (T : Nat → Int) (N m i : Nat) : Prop := kdI T N i = 3 ∨ isF T N m i ∨ twI T N i = 19 ∨ sgF T N 40 i = 0
def pX (T : Nat → Int) (N m : Nat) : Nat → Nat → Nat → Nat → pRow → pRes
  | 0, _, _, i, P => (-1, i, P)
  | f + 1, k, dep, i, P =>
    if k = 4 then
      (if isP T N m i then
        (if dep = 5 then (fa T N 5 i, i, P)
         else if kdI T N i = 3 then (0, i + 1, P ++ [(1, nbI T N i)])
         else if isF T N m i then (0, i + 1, P ++ [(2, (fkI T N i : Int))])
         else if twI T N i = 19 then pAdd (pX T N m f 4 (dep + 1) (i + 1) P) 3
         else pEnd T N (pX T N m f 0 (dep + 1) (i + 1) P))
       else (fa T N 1 i, i, P))
    else if k < 4 then pThen (pX T N m f (k + 1) dep i P) (fun j R => pX T N m f (k + 5) dep j R)
    else if jnC T N (k - 5) i = 0 then (0, i, P)
    else pThen (pAdd (pX T N m f (k - 4) dep (i + 1) P) (jnC T N (k - 5) i)) (fun j R => if k = 6 then (0, j, R) else pX T N m f k dep j R)
theorem px_4 {T : Nat → Int} {N m f dep i : Nat} {P : pRow} : pX T N m (f + 1) 4 dep i P = (if isP T N m i then
        (if dep = 5 then (fa T N 5 i, i, P)
         else if kdI T N i = 3 then (0, i + 1, P ++ [(1, nbI T N i)])
         else if isF T N m i then (0, i + 1, P ++ [(2, (fkI T N i : Int))])
         else if twI T N i = 19 then pAdd (pX T N m f 4 (dep + 1) (i + 1) P) 3
         else pEnd T N (pX T N m f 0 (dep + 1) (i + 1) P))
       else (fa T N 1 i, i, P)) := if_pos rfl
theorem px_l {T : Nat → Int} {N m f k dep i : Nat} {P : pRow} (hk : k < 4) : pX T N m (f + 1) k dep i P = pThen (pX T N m f (k + 1) dep i P) (fun j R => pX T N m f (k + 5) dep j R) := (if_neg (Nat.ne_of_lt hk)).trans (if_pos hk)
theorem px_j {T : Nat → Int} {N m f k dep i : Nat} {P : pRow} : pX T N m (f + 1) (k + 5) dep i P = if jnC T N k i = 0 then (0, i, P) else pThen (pAdd (pX T N m f (k + 1) dep (i + 1) P) (jnC T N k i)) (fun j R => if k = 1 then (0, j, R) else pX T N m f (k + 5) dep j R) := by
  have h1 : ¬ k + 5 = 4 := by omega
  have h2 : ¬ k + 5 < 4 := by omega
  have e : pX T N m (f + 1) (k + 5) dep i P = if jnC T N (k + 5 - 5) i = 0 then (0, i, P) else pThen (pAdd (pX T N m f (k + 5 - 4) dep (i + 1) P) (jnC T N (k + 5 - 5) i)) (fun j R => if k + 5 = 6 then (0, j, R) else pX T N m f (k + 5) dep j R) := (if_neg h1).trans (if_neg h2)
  have e5 : k + 5 - 5 = k := by omega
  have e4 : k + 5 - 4 = k + 1 := by omega
  have e6 : (fun (j : Nat) (R : pRow) => if k + 5 = 6 then ((0, j, R) : pRes) else pX T N m f (k + 5) dep j R) = (fun j R => if k = 1 then (0, j, R) else pX T N m f (k + 5) dep j R) := by
    funext j R
    by_cases h : k = 1
    · rw [if_pos h, if_pos (by omega)]
    · rw [if_neg h, if_neg (by omega)]
  rw [e, e5, e4, e6]
theorem th_0 {r : pRes} {g : Nat → pRow → pRes} (h : r.1 = 0) : pThen r g = g r.2.1 r.2.2 := if_pos h
theorem th_n {r : pRes} {g : Nat → pRow → pRes} (h : r.1 ≠ 0) : pThen r g = r := if_neg h
theorem jn_k {T : Nat → Int} {N lvl i : Nat} (h : jnC T N lvl i ≠ 0) : kdI T N i ≠ 0 ∧ 4 ≤ jnC T N lvl i ∧ jnC T N lvl i ≤ 10 := by
  have fin : ∀ c : Int, jnC T N lvl i = c → kdI T N i ≠ 0 → 4 ≤ c ∧ c ≤ 10 → kdI T N i ≠ 0 ∧ 4 ≤ jnC T N lvl i ∧ jnC T N lvl i ≤ 10 := fun c e k b => by rw [e]; exact ⟨k, b⟩
  by_cases l0 : lvl = 0
  · have e : jnC T N lvl i = if twI T N i = 20 then 9 else if twI T N i = 21 then 10 else 0 := if_pos l0
    by_cases q : twI T N i = 20
    · exact fin 9 (by rw [e, if_pos q]) (k_s (k_n q (by decide)) (by decide)) (by decide)
    · by_cases q2 : twI T N i = 21
      · exact fin 10 (by rw [e, if_neg q, if_pos q2]) (k_s (k_n q2 (by decide)) (by decide)) (by decide)
      · exact absurd (by rw [e, if_neg q, if_neg q2]) h
  · by_cases l1 : lvl = 1
    · have e : jnC T N lvl i = if sgF T N 60 i = 0 then 7 else if sgF T N 61 i = 0 then 8 else 0 := (if_neg l0).trans (if_pos l1)
      by_cases q : sgF T N 60 i = 0
      · exact fin 7 (by rw [e, if_pos q]) (k_s (sgF_z.mp q).1 (by decide)) (by decide)
      · by_cases q2 : sgF T N 61 i = 0
        · exact fin 8 (by rw [e, if_neg q, if_pos q2]) (k_s (sgF_z.mp q2).1 (by decide)) (by decide)
        · exact absurd (by rw [e, if_neg q, if_neg q2]) h
    · by_cases l2 : lvl = 2
      · have e : jnC T N lvl i = if sgF T N 43 i = 0 then 4 else if sgF T N 45 i = 0 then 5 else 0 := (if_neg l0).trans ((if_neg l1).trans (if_pos l2))
        by_cases q : sgF T N 43 i = 0
        · exact fin 4 (by rw [e, if_pos q]) (k_s (sgF_z.mp q).1 (by decide)) (by decide)
        · by_cases q2 : sgF T N 45 i = 0
          · exact fin 5 (by rw [e, if_neg q, if_pos q2]) (k_s (sgF_z.mp q2).1 (by decide)) (by decide)
          · exact absurd (by rw [e, if_neg q, if_neg q2]) h
      · have e : jnC T N lvl i = if sgF T N 42 i = 0 then 6 else 0 := (if_neg l0).trans ((if_neg l1).trans (if_neg l2))
        by_cases q : sgF T N 42 i = 0
        · exact fin 6 (by rw [e, if_pos q]) (k_s (sgF_z.mp q).1 (by decide)) (by decide)
        · exact absurd (by rw [e, if_neg q]) h
theorem isP_k {T : Nat → Int} {N m i : Nat} (h : isP T N m i) : kdI T N i ≠ 0 := by
  rcases h with h | h | h | h
  · exact k_s h (by decide)
  · exact k_s (k_n rfl (Nat.lt_succ_of_le h.2)) (by decide)
  · exact k_s (k_n h (by decide)) (by decide)
  · exact k_s (sgF_z.mp h).1 (by decide)
/-- how far a law reaches, and how many codes it makes -/
def pOk (T : Nat → Int) (N i n : Nat) (r : pRes) : Prop := i ≤ r.2.1 ∧ r.2.2.length + i ≤ n + r.2.1 ∧ (NE T N i → NE T N r.2.1)
theorem pOk.rf {T : Nat → Int} {N i : Nat} {v : Int} {P : pRow} : pOk T N i P.length (v, i, P) := ⟨Nat.le_refl _, Nat.le_refl _, id⟩
theorem pOk.th {T : Nat → Int} {N i n : Nat} {r : pRes} {g : Nat → pRow → pRes} (h : pOk T N i n r) (k : pOk T N r.2.1 r.2.2.length (g r.2.1 r.2.2)) : pOk T N i n (pThen r g) := by
  by_cases e : r.1 = 0
  · rw [th_0 e]
    have k2 := k.2.1
    have h2 := h.2.1
    exact ⟨Nat.le_trans h.1 k.1, by omega, fun q => k.2.2 (h.2.2 q)⟩
  · rw [th_n e]; exact h
theorem pOk.ad {T : Nat → Int} {N i n : Nat} {r : pRes} {c : Int} (h : pOk T N (i + 1) n r) (k : kdI T N i ≠ 0) : pOk T N i n (pAdd r c) := by
  refine ⟨Nat.le_of_succ_le h.1, ?_, fun q => h.2.2 (q.s k)⟩
  have h2 := h.2.1
  show (r.2.2 ++ [(c, 0)]).length + i ≤ n + r.2.1
  rw [List.length_append]
  show r.2.2.length + 1 + i ≤ _
  clear k
  omega
theorem pOk.en {T : Nat → Int} {N i n : Nat} {r : pRes} (h : pOk T N (i + 1) n r) (k : kdI T N i ≠ 0) : pOk T N i n (pEnd T N r) := by
  have h1 := h.1
  have h2 := h.2.1
  have h3 : r.2.2.length + i ≤ n + r.2.1 := by clear k; omega
  have h4 : r.2.2.length + i ≤ n + (r.2.1 + 1) := by clear k; omega
  have h5 : i ≤ r.2.1 + 1 := by clear k; omega
  unfold pEnd
  by_cases e : r.1 = 0
  · rw [if_pos e]
    by_cases s : sgF T N 41 r.2.1 = 0
    · rw [if_pos s]
      exact ⟨h5, h4, fun q => (h.2.2 (q.s k)).s (k_s (sgF_z.mp s).1 (by decide))⟩
    · rw [if_neg s]
      exact ⟨Nat.le_of_succ_le h1, h3, fun q => h.2.2 (q.s k)⟩
  · rw [if_neg e]
    exact ⟨Nat.le_of_succ_le h1, h3, fun q => h.2.2 (q.s k)⟩
theorem pe_1 {T : Nat → Int} {N i n : Nat} {r : pRes} (h : pOk T N (i + 1) n r) : i < (pEnd T N r).2.1 := by
  unfold pEnd
  by_cases e : r.1 = 0
  · rw [if_pos e]
    by_cases s : sgF T N 41 r.2.1 = 0
    · rw [if_pos s]; exact Nat.lt_succ_of_lt h.1
    · rw [if_neg s]; exact h.1
  · rw [if_neg e]; exact h.1
theorem pOk.p1 {T : Nat → Int} {N i : Nat} {P : pRow} {q : Int × Int} (k : kdI T N i ≠ 0) : pOk T N i P.length (0, i + 1, P ++ [q]) := by
  refine ⟨Nat.le_succ _, ?_, fun z => z.s k⟩
  show (P ++ [q]).length + i ≤ P.length + (i + 1)
  rw [List.length_append]
  show P.length + 1 + i ≤ _
  clear k
  omega
theorem px_b {T : Nat → Int} {N m : Nat} : ∀ (f k dep i : Nat) (P : pRow), pOk T N i P.length (pX T N m f k dep i P) ∧ (k ≤ 4 → (pX T N m f k dep i P).1 = 0 → i < (pX T N m f k dep i P).2.1)
  | 0, _, _, _, _ => ⟨pOk.rf, fun _ h => absurd h (by show ¬ (-1 : Int) = 0; decide)⟩
  | f + 1, k, dep, i, P => by
    by_cases h4 : k = 4
    · subst h4
      rw [px_4]
      by_cases hp : isP T N m i
      · rw [if_pos hp]
        have kn := isP_k hp
        by_cases h5 : dep = 5
        · rw [if_pos h5]; exact ⟨pOk.rf, fun _ h => absurd h (fa_0 (by decide))⟩
        · rw [if_neg h5]
          by_cases h3 : kdI T N i = 3
          · rw [if_pos h3]; exact ⟨pOk.p1 kn, fun _ _ => Nat.lt_succ_self i⟩
          · rw [if_neg h3]
            by_cases hf : isF T N m i
            · rw [if_pos hf]; exact ⟨pOk.p1 kn, fun _ _ => Nat.lt_succ_self i⟩
            · rw [if_neg hf]
              by_cases hn : twI T N i = 19
              · rw [if_pos hn]
                have ih := (px_b (T := T) (N := N) (m := m) f 4 (dep + 1) (i + 1) P).1
                exact ⟨ih.ad kn, fun _ _ => ih.1⟩
              · rw [if_neg hn]
                have ih := (px_b (T := T) (N := N) (m := m) f 0 (dep + 1) (i + 1) P).1
                exact ⟨ih.en kn, fun _ _ => pe_1 ih⟩
      · rw [if_neg hp]; exact ⟨pOk.rf, fun _ h => absurd h (fa_0 (by decide))⟩
    · by_cases hl : k < 4
      · rw [px_l hl]
        have ih := px_b (T := T) (N := N) (m := m) f (k + 1) dep i P
        have ih2 := px_b (T := T) (N := N) (m := m) f (k + 5) dep (pX T N m f (k + 1) dep i P).2.1 (pX T N m f (k + 1) dep i P).2.2
        refine ⟨ih.1.th ih2.1, fun _ h => ?_⟩
        by_cases e : (pX T N m f (k + 1) dep i P).1 = 0
        · rw [th_0 e]
          exact Nat.lt_of_lt_of_le (ih.2 hl e) ih2.1.1
        · rw [th_n e] at h; exact absurd h e
      · obtain ⟨l, rfl⟩ : ∃ l, k = l + 5 := ⟨k - 5, by omega⟩
        refine ⟨?_, fun z => absurd z (by omega)⟩
        rw [px_j]
        by_cases j0 : jnC T N l i = 0
        · rw [if_pos j0]; exact pOk.rf
        · rw [if_neg j0]
          have ih := (px_b (T := T) (N := N) (m := m) f (l + 1) dep (i + 1) P).1
          refine (ih.ad (c := jnC T N l i) (jn_k j0).1).th ?_
          by_cases h1 : l = 1
          · rw [if_pos h1]; exact pOk.rf
          · rw [if_neg h1]; exact (px_b (T := T) (N := N) (m := m) f (l + 5) dep _ _).1
/-- there is fuel enough -/
def wK (k : Nat) : Nat := if k ≤ 4 then 4 - k else 9
theorem fuA {N i j k l f : Nat} (h : 10 * (N + 1 - i) + wK k < f + 1) (hj : i < j) (hN : i ≤ N) (hl : wK l < 10) : 10 * (N + 1 - j) + wK l < f := by omega
theorem wk10 {k : Nat} : wK k < 10 := by unfold wK; split <;> omega
theorem wkS {k : Nat} (h : k < 4) : wK (k + 1) + 1 = wK k := by unfold wK; rw [if_pos (by omega), if_pos (by omega)]; omega
theorem fe_0 {T : Nat → Int} {N : Nat} {r : pRes} (h : 0 ≤ r.1) : 0 ≤ (pEnd T N r).1 := by
  unfold pEnd
  by_cases e : r.1 = 0
  · rw [if_pos e]
    by_cases s : sgF T N 41 r.2.1 = 0
    · rw [if_pos s]; exact Int.le_refl _
    · rw [if_neg s]
      show 0 ≤ sgF T N 41 r.2.1
      rw [show sgF T N 41 r.2.1 = fa T N 1 r.2.1 from if_neg (fun z => s (sgF_z.mpr z))]
      exact Int.le_of_lt (fa_p (by decide))
  · rw [if_neg e]; exact h
theorem px_f {T : Nat → Int} {N m : Nat} : ∀ (f k dep i : Nat) (P : pRow), NE T N i → 10 * (N + 1 - i) + wK k < f → 0 ≤ (pX T N m f k dep i P).1
  | 0, _, _, _, _, _, h => absurd h (Nat.not_lt_zero _)
  | f + 1, k, dep, i, P, ne, h => by
    have iN := ne_b ne
    by_cases h4 : k = 4
    · subst h4
      rw [px_4]
      by_cases hp : isP T N m i
      · rw [if_pos hp]
        have kn := isP_k hp
        by_cases h5 : dep = 5
        · rw [if_pos h5]; exact Int.le_of_lt (fa_p (by decide))
        · rw [if_neg h5]
          by_cases h3 : kdI T N i = 3
          · rw [if_pos h3]; exact Int.le_refl _
          · rw [if_neg h3]
            by_cases hf : isF T N m i
            · rw [if_pos hf]; exact Int.le_refl _
            · rw [if_neg hf]
              by_cases hn : twI T N i = 19
              · rw [if_pos hn]
                exact px_f f 4 (dep + 1) (i + 1) P (ne.s kn) (fuA h (Nat.lt_succ_self _) iN wk10)
              · rw [if_neg hn]
                exact fe_0 (px_f f 0 (dep + 1) (i + 1) P (ne.s kn) (fuA h (Nat.lt_succ_self _) iN wk10))
      · rw [if_neg hp]; exact Int.le_of_lt (fa_p (by decide))
    · by_cases hl : k < 4
      · rw [px_l hl]
        have ws := wkS hl
        have b := px_b (T := T) (N := N) (m := m) f (k + 1) dep i P
        have ih := px_f (T := T) (N := N) (m := m) f (k + 1) dep i P ne (by clear b; omega)
        by_cases e : (pX T N m f (k + 1) dep i P).1 = 0
        · rw [th_0 e]
          exact px_f f (k + 5) dep _ _ (b.1.2.2 ne) (fuA h (b.2 hl e) iN wk10)
        · rw [th_n e]; exact ih
      · obtain ⟨l, rfl⟩ : ∃ l, k = l + 5 := ⟨k - 5, by omega⟩
        rw [px_j]
        by_cases j0 : jnC T N l i = 0
        · rw [if_pos j0]; exact Int.le_refl _
        · rw [if_neg j0]
          have kn := (jn_k j0).1
          have b := px_b (T := T) (N := N) (m := m) f (l + 1) dep (i + 1) P
          have ih := px_f (T := T) (N := N) (m := m) f (l + 1) dep (i + 1) P (ne.s kn) (fuA h (Nat.lt_succ_self _) iN wk10)
          by_cases e : (pX T N m f (l + 1) dep (i + 1) P).1 = 0
          · rw [th_0 (r := pAdd _ _) e]
            by_cases h1 : l = 1
            · rw [if_pos h1]; exact Int.le_refl _
            · rw [if_neg h1]
              exact px_f f (l + 5) dep _ _ (b.1.2.2 (ne.s kn)) (fuA h b.1.1 iN wk10)
          · rw [th_n (r := pAdd _ _) e]; exact ih
/-- a law that could be read is well formed -/
def wL (k : Nat) : Nat := if k ≤ 4 then k else k - 5
def wS (k n : Nat) : Nat := if k ≤ 4 then n else n + 1
def pGd (m k dep : Nat) (P R : pRow) : Prop := ∃ D, R = P ++ D ∧ ∀ n rest, n ≤ 4 * dep + wL k → okE (m : Int) rest (n + 1) → okE (m : Int) (D ++ rest) (wS k n)
theorem fk_b {T : Nat → Int} {N m i : Nat} (hm : m = 3 ∨ m = 7) (h : isF T N m i) : fkI T N i < m := by
  unfold fkI
  have a := h.1
  have b := h.2
  generalize twI T N i = t at *
  clear h
  rcases hm with rfl | rfl
  · rw [if_pos (by omega)]; omega
  · by_cases q : 26 ≤ t
    · rw [if_pos q]; omega
    · rw [if_neg q]; omega
theorem px_d {T : Nat → Int} {N m : Nat} (hm : m = 3 ∨ m = 7) : ∀ (f k dep i : Nat) (P : pRow), dep ≤ 5 → k ≤ 8 → (pX T N m f k dep i P).1 = 0 → pGd m k dep P (pX T N m f k dep i P).2.2
  | 0, _, _, _, _, _, _, h => absurd h (by show ¬ (-1 : Int) = 0; decide)
  | f + 1, k, dep, i, P, hd, hk, h => by
    by_cases h4 : k = 4
    · subst h4
      rw [px_4] at h ⊢
      by_cases hp : isP T N m i
      · rw [if_pos hp] at h ⊢
        by_cases h5 : dep = 5
        · rw [if_pos h5] at h; exact absurd h (fa_0 (by decide))
        · rw [if_neg h5] at h ⊢
          have d4 : dep + 1 ≤ 5 := by clear h; omega
          have n32 : ∀ n, n ≤ 4 * dep + wL 4 → n < 32 := fun n hn => by
            have e : wL 4 = 4 := rfl
            rw [e] at hn
            clear h
            omega
          by_cases h3 : kdI T N i = 3
          · rw [if_pos h3]
            exact ⟨[(1, nbI T N i)], rfl, fun n rest hn ok => Or.inl ⟨rfl, (nb_b h3).1, n32 n hn, ok⟩⟩
          · rw [if_neg h3] at h ⊢
            by_cases hf : isF T N m i
            · rw [if_pos hf]
              exact ⟨[(2, (fkI T N i : Int))], rfl, fun n rest hn ok => Or.inr (Or.inl ⟨rfl, ⟨Int.ofNat_nonneg _, Int.ofNat_lt.mpr (fk_b hm hf)⟩, n32 n hn, ok⟩)⟩
            · rw [if_neg hf] at h ⊢
              by_cases hn : twI T N i = 19
              · rw [if_pos hn] at h ⊢
                obtain ⟨D, e, g⟩ := px_d hm f 4 (dep + 1) (i + 1) P d4 (by decide) h
                refine ⟨D ++ [(3, 0)], ?_, fun n rest hn ok => ?_⟩
                · show _ ++ _ = _
                  rw [e, List.append_assoc]
                · rw [List.append_assoc]
                  exact g n _ (Nat.le_trans hn (by omega)) (Or.inr (Or.inr (Or.inl ⟨rfl, Nat.succ_le_succ (Nat.zero_le _), ok⟩)))
              · rw [if_neg hn] at h ⊢
                have ih := px_d (T := T) (N := N) hm f 0 (dep + 1) (i + 1) P d4 (by decide)
                unfold pEnd at h ⊢
                generalize pX T N m f 0 (dep + 1) (i + 1) P = r at *
                by_cases e : r.1 = 0
                · rw [if_pos e] at h ⊢
                  obtain ⟨D, e2, g⟩ := ih e
                  by_cases s : sgF T N 41 r.2.1 = 0
                  · rw [if_pos s]
                    exact ⟨D, e2, fun n rest hn ok => g n rest (Nat.le_trans hn (by show 4 * dep + 4 ≤ 4 * (dep + 1) + 0; omega)) ok⟩
                  · rw [if_neg s] at h; exact absurd h s
                · rw [if_neg e] at h; exact absurd h e
      · rw [if_neg hp] at h; exact absurd h (fa_0 (by decide))
    · by_cases hl : k < 4
      · rw [px_l hl] at h ⊢
        have ih := px_d (T := T) (N := N) hm f (k + 1) dep i P hd (by omega)
        generalize pX T N m f (k + 1) dep i P = r at *
        by_cases e : r.1 = 0
        · rw [th_0 e] at h ⊢
          obtain ⟨D, e1, g⟩ := ih e
          obtain ⟨D2, e2, g2⟩ := px_d hm f (k + 5) dep r.2.1 r.2.2 hd (by omega) h
          have w1 : wL k = k := if_pos (Nat.le_of_lt hl)
          have w2 : wL (k + 1) = k + 1 := if_pos hl
          have w3 : wL (k + 5) = k := by unfold wL; rw [if_neg (by omega)]; omega
          have s1 : ∀ n, wS k n = n := fun n => if_pos (Nat.le_of_lt hl)
          have s2 : ∀ n, wS (k + 1) n = n := fun n => if_pos hl
          have s3 : ∀ n, wS (k + 5) n = n + 1 := fun n => if_neg (by omega)
          refine ⟨D ++ D2, by rw [e2, e1, List.append_assoc], fun n rest hn ok => ?_⟩
          rw [List.append_assoc, s1]
          rw [w1] at hn
          have gg := g n (D2 ++ rest) (by rw [w2]; omega)
          rw [s2] at gg
          refine gg ?_
          have g3 := g2 n rest (by rw [w3]; exact hn) ok
          rw [s3] at g3
          exact g3
        · rw [th_n e] at h; exact absurd h e
      · obtain ⟨l, rfl⟩ : ∃ l, k = l + 5 := ⟨k - 5, by omega⟩
        rw [px_j] at h ⊢
        have w3 : wL (l + 5) = l := by unfold wL; rw [if_neg (by omega)]; omega
        have s3 : ∀ n, wS (l + 5) n = n + 1 := fun n => if_neg (by omega)
        by_cases j0 : jnC T N l i = 0
        · rw [if_pos j0]
          refine ⟨[], (List.append_nil P).symm, fun n rest hn ok => ?_⟩
          rw [s3]; exact ok
        · rw [if_neg j0] at h ⊢
          have jr := (jn_k j0).2
          have ih := px_d (T := T) (N := N) hm f (l + 1) dep (i + 1) P hd (by omega)
          generalize pX T N m f (l + 1) dep (i + 1) P = r at *
          by_cases e : r.1 = 0
          · rw [th_0 (r := pAdd _ _) e] at h ⊢
            obtain ⟨D, e1, g⟩ := ih e
            have w2 : wL (l + 1) = l + 1 := if_pos (by omega)
            have s2 : ∀ n, wS (l + 1) n = n := fun n => if_pos (by omega)
            have one : ∀ n rest, n ≤ 4 * dep + l → okE (m : Int) rest (n + 1) → okE (m : Int) (D ++ (jnC T N l i, 0) :: rest) (n + 1) := by
              intro n rest hn ok
              have gg := g (n + 1) ((jnC T N l i, 0) :: rest) (by rw [w2]; omega)
              rw [s2] at gg
              exact gg (Or.inr (Or.inr (Or.inr ⟨jr, by show 2 ≤ n + 1 + 1; omega, ok⟩)))
            by_cases h1 : l = 1
            · rw [if_pos h1]
              refine ⟨D ++ [(jnC T N l i, 0)], ?_, fun n rest hn ok => ?_⟩
              · show r.2.2 ++ _ = _
                rw [e1, List.append_assoc]
              · rw [w3] at hn
                rw [s3, List.append_assoc]
                exact one n rest hn ok
            · rw [if_neg h1] at h ⊢
              obtain ⟨D2, e2, g2⟩ := px_d hm f (l + 5) dep _ _ hd hk h
              refine ⟨D ++ (jnC T N l i, 0) :: D2, ?_, fun n rest hn ok => ?_⟩
              · rw [e2]
                show (r.2.2 ++ [(jnC T N l i, 0)]) ++ D2 = _
                rw [e1, List.append_assoc, List.append_assoc]
                rfl
              · rw [s3, List.append_assoc]
                have g3 := g2 n rest hn ok
                rw [s3] at g3
                rw [w3] at hn
                exact one n (D2 ++ rest) hn g3
          · rw [th_n (r := pAdd _ _) e] at h; exact absurd h e
/-- the whole of a law -/
def lwX (T : Nat → Int) (N m i : Nat) : pRes := pX T N m 20000 0 0 i []
theorem lw_ok {T : Nat → Int} {N m i : Nat} (hm : m = 3 ∨ m = 7) (hN : N ≤ 1000) (ne : NE T N i) : 0 ≤ (lwX T N m i).1 ∧ i ≤ (lwX T N m i).2.1 ∧ (lwX T N m i).2.2.length + i ≤ (lwX T N m i).2.1 ∧ NE T N (lwX T N m i).2.1 ∧ ((lwX T N m i).1 = 0 → okE (m : Int) (lwX T N m i).2.2 0) := by
  have b := (px_b (T := T) (N := N) (m := m) 20000 0 0 i []).1
  have f := px_f (T := T) (N := N) (m := m) 20000 0 0 i [] ne (by have : wK 0 = 4 := rfl; rw [this]; omega)
  have d := px_d (T := T) (N := N) (m := m) hm 20000 0 0 i [] (by decide) (by decide)
  unfold lwX
  have b2 := b.2.1
  rw [List.length_nil, Nat.zero_add] at b2
  refine ⟨f, b.1, b2, b.2.2 ne, fun h => ?_⟩
  obtain ⟨D, e, g⟩ := d h
  rw [e]
  have := g 0 [] (Nat.zero_le _) rfl
  rw [List.append_nil] at this
  exact this
