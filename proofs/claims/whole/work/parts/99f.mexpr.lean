/-! The reference reads a law -/
def pgP (A B : Nat → Int) : Nat → pRow → Prop
  | _, [] => True
  | p, q :: P => A p = q.1 ∧ B p = q.2 ∧ pgP A B (p + 1) P
theorem len_c {p : Nat} {q : Int × Int} {P : pRow} : p + (q :: P).length = p + 1 + P.length := by rw [List.length_cons]; omega
theorem pgP.ap {A B : Nat → Int} : ∀ {P R : pRow} {p : Nat}, pgP A B p P → pgP A B (p + P.length) R → pgP A B p (P ++ R)
  | [], _, _, _, g => g
  | q :: P, R, p, h, g => ⟨h.1, h.2.1, pgP.ap h.2.2 (by rw [len_c] at g; exact g)⟩
theorem pgP.cg {A B A' B' : Nat → Int} : ∀ {P : pRow} {p : Nat}, pgP A B p P → (∀ t, p ≤ t → t < p + P.length → A' t = A t ∧ B' t = B t) → pgP A' B' p P
  | [], _, _, _ => trivial
  | q :: P, p, h, g => by
    rw [len_c] at g
    have g0 := g p (Nat.le_refl _) (by omega)
    exact ⟨g0.1.trans h.1, g0.2.trans h.2.1, pgP.cg h.2.2 (fun t t1 t2 => g t (by omega) t2)⟩
theorem pgP.en {A B : Nat → Int} : ∀ {P : pRow} {p : Nat}, pgP A B p P → A (p + P.length) = 0 → p + P.length < 2200 → pgM A B p P
  | [], p, _, h, b => ⟨b, h⟩
  | q :: P, p, g, h, b => by
    rw [len_c] at h b
    exact ⟨by clear h; omega, g.1, g.2.1, pgP.en g.2.2 h b⟩
def EM (σ α : Nat → Nat → Int) (B : Nat) (P : pRow) : Prop := σ 104 13 = ((B + P.length : Nat) : Int) ∧ pgP (α 111) (α 112) (1100 + B) P
def SE : List (Nat × Nat) := [(104, 7), (104, 8), (104, 13)]
def EF (B : Nat) (α α' : Nat → Nat → Int) : Prop := Fα [111, 112] α α' ∧ ∀ p, p < 1100 + B → α' 111 p = α 111 p ∧ α' 112 p = α 112 p
theorem EF.rf {B : Nat} {α : Nat → Nat → Int} : EF B α α := ⟨Fα.rf, fun _ _ => ⟨rfl, rfl⟩⟩
theorem EF.tr {B : Nat} {α α' α'' : Nat → Nat → Int} (h : EF B α α') (g : EF B α' α'') : EF B α α'' := ⟨h.1.tr g.1, fun p hp => ⟨(g.2 p hp).1.trans (h.2 p hp).1, (g.2 p hp).2.trans (h.2 p hp).2⟩⟩
theorem EM.fr {σ σ' α : Nat → Nat → Int} {B : Nat} {P : pRow} (E : EM σ α B P) (F : Fσ [(104, 7), (104, 8)] σ σ') : EM σ' α B P := ⟨(F 104 13 (by decide)).trans E.1, E.2⟩
theorem m_emit {X : mXX} {d : Nat} {Q : Option mV → mS → Prop} {σ α : Nat → Nat → Int} {B : Nat} {P : pRow} {c a : Int} (E : EM σ α B P) (hb : B + P.length ≤ 1000) (h : ∀ σ' α', Fσ [(104, 13)] σ σ' → EF B α α' → EM σ' α' B (P ++ [(c, a)]) → Q none (S0, σ', α')) : Ca X (d + 1) 155 [vR 104, vI c, vI a] (S0, σ, α) Q := by
  have e13 := E.1
  have ew : wr (1100 + σ 104 13) = ((1100 + B + P.length : Nat) : Int) := by
    rw [e13, wr_of (by omega) (by omega)]; omega
  have es : wr (σ 104 13 + 1) = ((B + (P ++ [(c, a)]).length : Nat) : Int) := by
    rw [e13, wrS (by omega), List.length_append]; rfl
  have bi : mInA (((1100 + B + P.length : Nat) : Int)) 2200 := mInA_n (by clear e13 ew es; omega)
  refine vc155_0 ?_
  rw [ew, es, Int.toNat_natCast]
  refine ⟨bi, bi, ?_⟩
  have lt : ∀ t, t < 1100 + B + P.length → ¬ t = 1100 + B + P.length := fun t ht => Nat.ne_of_lt ht
  have e1 : mUp (mUp α 111 (1100 + B + P.length) c) 112 (1100 + B + P.length) a 111 = fun y => if y = 1100 + B + P.length then c else α 111 y := by rw [up_o (by decide), up_f]
  have e2 : mUp (mUp α 111 (1100 + B + P.length) c) 112 (1100 + B + P.length) a 112 = fun y => if y = 1100 + B + P.length then a else α 112 y := by rw [up_f, up_o (by decide)]
  refine h _ _ (Fσ.up (by decide)) ⟨(Fα.up (by decide)).tr (Fα.up (by decide)), fun p hp => ?_⟩ ⟨up_s, ?_⟩
  · rw [e1, e2]
    have ne := lt p (by clear e1 e2 e13 ew es; omega)
    exact ⟨if_neg ne, if_neg ne⟩
  · rw [e1, e2]
    refine pgP.ap (E.2.cg (fun t t1 t2 => ⟨if_neg (lt t t2), if_neg (lt t t2)⟩)) ⟨if_pos rfl, if_pos rfl, trivial⟩
def mLPost (T : Nat → Int) (N B : Nat) (r : pRes) (σ α : Nat → Nat → Int) (Q : Option mV → mS → Prop) : Prop := ∀ σ' α', Fσ SE σ σ' → EF B α α' → EM σ' α' B r.2.2 → MS σ' T N r.2.1 r.1 → Q none (S0, σ', α')
def mLPre (T : Nat → Int) (N m B dep i : Nat) (P : pRow) (σ α : Nat → Nat → Int) : Prop := MC α T N ∧ MS σ T N i 0 ∧ EM σ α B P ∧ B + P.length ≤ i ∧ σ 104 17 = (if m = 7 then 1 else 0) ∧ dep ≤ 5
theorem mLPost.mv {T : Nat → Int} {N B : Nat} {r : pRes} {σ α σ' α' : Nat → Nat → Int} {Q : Option mV → mS → Prop} (h : mLPost T N B r σ α Q) (F : Fσ SE σ σ') (E : EF B α α') : mLPost T N B r σ' α' Q := fun σ2 α2 F2 E2 e s => h σ2 α2 (F.tr F2) (E.tr E2) e s
theorem mLPre.go {T : Nat → Int} {N m B dep dep' i j : Nat} {P R : pRow} {σ α σ' α' : Nat → Nat → Int} (h : mLPre T N m B dep i P σ α) (F : Fσ SE σ σ') (E : EF B α α') (e : EM σ' α' B R) (s : MS σ' T N j 0) (b : B + R.length ≤ j) (hd : dep' ≤ 5) : mLPre T N m B dep' j R σ' α' := ⟨h.1.fr E.1, s, e, b, (F 104 17 (by decide)).trans h.2.2.2.2.1, hd⟩
theorem pr_b {T : Nat → Int} {N m B dep i : Nat} {P : pRow} {σ α : Nat → Nat → Int} {r : pRes} (h : mLPre T N m B dep i P σ α) (o : pOk T N i P.length r) : B + r.2.2.length ≤ r.2.1 ∧ B + r.2.2.length ≤ 1000 := by
  have n := ne_b (o.2.2 (h.2.1.2.2 rfl).2)
  have a := o.2.1
  have b := h.2.2.2.1
  have c := h.1.2.2
  clear o h
  exact ⟨by omega, by omega⟩
theorem th_p {r : pRes} {g : Nat → pRow → pRes} (h : 0 ≤ (pThen r g).1) : 0 ≤ r.1 := by
  by_cases e : r.1 = 0
  · rw [e]; exact Int.le_refl _
  · rw [th_n e] at h; exact h
theorem th_pa {r : pRes} {c : Int} {g : Nat → pRow → pRes} (h : 0 ≤ (pThen (pAdd r c) g).1) : 0 ≤ r.1 := th_p (r := pAdd r c) h
theorem len_a {P : pRow} {q : Int × Int} : (P ++ [q]).length = P.length + 1 := by rw [List.length_append]; rfl
theorem px_5 {T : Nat → Int} {N m f dep i : Nat} {P : pRow} : pX T N m (f + 1) 5 dep i P = if jnC T N 0 i = 0 then (0, i, P) else pThen (pAdd (pX T N m f 1 dep (i + 1) P) (jnC T N 0 i)) (fun j R => pX T N m f 5 dep j R) := px_j (k := 0)
theorem px_6 {T : Nat → Int} {N m f dep i : Nat} {P : pRow} : pX T N m (f + 1) 6 dep i P = if jnC T N 1 i = 0 then (0, i, P) else pThen (pAdd (pX T N m f 2 dep (i + 1) P) (jnC T N 1 i)) (fun j R => (0, j, R)) := px_j (k := 1)
theorem px_7 {T : Nat → Int} {N m f dep i : Nat} {P : pRow} : pX T N m (f + 1) 7 dep i P = if jnC T N 2 i = 0 then (0, i, P) else pThen (pAdd (pX T N m f 3 dep (i + 1) P) (jnC T N 2 i)) (fun j R => pX T N m f 7 dep j R) := px_j (k := 2)
theorem px_8 {T : Nat → Int} {N m f dep i : Nat} {P : pRow} : pX T N m (f + 1) 8 dep i P = if jnC T N 3 i = 0 then (0, i, P) else pThen (pAdd (pX T N m f 4 dep (i + 1) P) (jnC T N 3 i)) (fun j R => pX T N m f 8 dep j R) := px_j (k := 3)
theorem jn0 {T : Nat → Int} {N i : Nat} : jnC T N 0 i = if twI T N i = 20 then 9 else if twI T N i = 21 then 10 else 0 := rfl
theorem jn1 {T : Nat → Int} {N i : Nat} : jnC T N 1 i = if sgF T N 60 i = 0 then 7 else if sgF T N 61 i = 0 then 8 else 0 := rfl
theorem jn2 {T : Nat → Int} {N i : Nat} : jnC T N 2 i = if sgF T N 43 i = 0 then 4 else if sgF T N 45 i = 0 then 5 else 0 := rfl
theorem jn3 {T : Nat → Int} {N i : Nat} : jnC T N 3 i = if sgF T N 42 i = 0 then 6 else 0 := rfl
theorem t0_i {a b c : Int} {p q : Prop} [Decidable p] [Decidable q] (h : (if p then a else if q then b else c) = c) (ha : a ≠ c) (hb : b ≠ c) : ¬ p ∧ ¬ q := by
  by_cases hp : p
  · rw [if_pos hp] at h; exact absurd h ha
  · rw [if_neg hp] at h
    by_cases hq : q
    · rw [if_pos hq] at h; exact absurd h hb
    · exact ⟨hp, hq⟩
def mAf (X : mXX) (T : Nat → Int) (N m B f : Nat) : Prop := ∀ (k dep i : Nat) (P : pRow) (e : Nat) (σ α : Nat → Nat → Int) (Q : Option mV → mS → Prop), k ≤ 4 → mLPre T N m B dep i P σ α → 0 ≤ (pX T N m f k dep i P).1 → 20 + 6 * (6 - dep) + (4 - k) ≤ e → mLPost T N B (pX T N m f k dep i P) σ α Q → Ca X e (150 + k) [vR 104, vI (dep : Int)] (S0, σ, α) Q
def mLf0 (X : mXX) (T : Nat → Int) (N m B f : Nat) : Prop := ∀ (dep i : Nat) (P : pRow) (e : Nat) (σ α : Nat → Nat → Int) (Q : Option mV → mS → Prop) (x : Option mV), mLPre T N m B dep i P σ α → 0 ≤ (pX T N m f 5 dep i P).1 → 19 + 6 * (6 - dep) + (4 - 0) ≤ e → mLPost T N B (pX T N m f 5 dep i P) σ α Q → Go X e 150 5 [some (vR 104), some (vI (dep : Int)), x] [] (S0, σ, α) (0, 0) Q
def mLf1 (X : mXX) (T : Nat → Int) (N m B f : Nat) : Prop := ∀ (dep i : Nat) (P : pRow) (e : Nat) (σ α : Nat → Nat → Int) (Q : Option mV → mS → Prop), mLPre T N m B dep i P σ α → 0 ≤ (pX T N m f 6 dep i P).1 → 19 + 6 * (6 - dep) + (4 - 1) ≤ e → mLPost T N B (pX T N m f 6 dep i P) σ α Q → Go X e 151 5 [some (vR 104), some (vI (dep : Int)), none] [] (S0, σ, α) (0, 0) Q
def mLf2 (X : mXX) (T : Nat → Int) (N m B f : Nat) : Prop := ∀ (dep i : Nat) (P : pRow) (e : Nat) (σ α : Nat → Nat → Int) (Q : Option mV → mS → Prop) (x : Option mV), mLPre T N m B dep i P σ α → 0 ≤ (pX T N m f 7 dep i P).1 → 19 + 6 * (6 - dep) + (4 - 2) ≤ e → mLPost T N B (pX T N m f 7 dep i P) σ α Q → Go X e 152 5 [some (vR 104), some (vI (dep : Int)), x] [] (S0, σ, α) (0, 0) Q
def mLf3 (X : mXX) (T : Nat → Int) (N m B f : Nat) : Prop := ∀ (dep i : Nat) (P : pRow) (e : Nat) (σ α : Nat → Nat → Int) (Q : Option mV → mS → Prop), mLPre T N m B dep i P σ α → 0 ≤ (pX T N m f 8 dep i P).1 → 19 + 6 * (6 - dep) + (4 - 3) ≤ e → mLPost T N B (pX T N m f 8 dep i P) σ α Q → Go X e 153 5 [some (vR 104), some (vI (dep : Int))] [] (S0, σ, α) (0, 0) Q
theorem m_no0 {X : mXX} {d : Nat} {Q : Option mV → mS → Prop} {σ α : Nat → Nat → Int} {T : Nat → Int} {N i : Nat} {g l : Int} {x : Option mV} (M : MC α T N) (S : MS σ T N i g) (hj : g = 0 → jnC T N 0 i = 0) (h : ∀ σ', Fσ [(104, 7), (104, 8)] σ σ' → MS σ' T N i g → Q none (S0, σ', α)) : Go X (d + 2) 150 5 [some (vR 104), some (vI l), x] [] (S0, σ, α) (0, 0) Q := by
  have jj : g = 0 → ¬ twI T N i = 20 ∧ ¬ twI T N i = 21 := fun z => by
    have := hj z
    rw [jn0] at this
    exact t0_i this (by decide) (by decide)
  refine vc150_5 (m_isWord (w := 20) M S (by decide) (by decide) (fun e q => absurd q (jj e).1) (fun q => ?_))
  refine vc150_11 ⟨fun z => absurd rfl z, fun _ => m_isWord (w := 21) M S (by decide) (by decide) (fun e q2 => absurd q2 (jj e).2) (fun q2 => ?_)⟩
  exact vc150_20 ⟨fun _ => h σ (fun _ _ _ => rfl) S, fun z => absurd rfl z⟩
theorem m_l0 {X : mXX} {T : Nat → Int} {N m B f : Nat} (A : mAf X T N m B f) (L : mLf0 X T N m B f) : mLf0 X T N m B (f + 1) := by
  intro dep i P e σ α Q x hp h0 he hq
  obtain ⟨d, rfl⟩ : ∃ d, e = d + 2 := ⟨e - 2, by omega⟩
  obtain ⟨M, S, E, hb, hw, hd⟩ := id hp
  rw [px_5] at h0 hq
  by_cases j0 : jnC T N 0 i = 0
  · rw [if_pos j0] at hq
    exact m_no0 M S (fun _ => j0) (fun σ' F S' => hq σ' α (F.wk (by decide)) EF.rf (E.fr F) S')
  · rw [if_neg j0] at h0 hq
    have go : ∀ t c : Int, jnC T N 0 i = c → (t = 0 → c = 10) → (t ≠ 0 → c = 9) → Go X (d + 2) 150 29 [some (vR 104), some (vI (dep : Int)), x] [vI t] (S0, σ, α) (0, 0) Q := by
      intro t c ec t0 t1
      rw [ec] at h0 hq
      have kn := (jn_k j0).1
      have S1 := S.nx M.2.2 kn
      have o := (px_b (T := T) (N := N) (m := m) f 1 dep (i + 1) P).1
      have bb := pr_b hp (o.ad (c := c) kn)
      have h1 : 0 ≤ (pX T N m f 1 dep (i + 1) P).1 := th_pa h0
      have nn : NE T N (pX T N m f 1 dep (i + 1) P).2.1 := o.2.2 ((S.2.2 rfl).2.s kn)
      refine vc150_29 (A 1 dep (i + 1) P (d + 2) _ α _ (by decide) (hp.go (Fσ.up (by decide)) EF.rf (E.fr (Fσ.up (by decide))) S1 (Nat.le_succ_of_le hb) hd) h1 (by omega) (fun σ2 α2 F2 E2 em S2 => ?_))
      generalize pX T N m f 1 dep (i + 1) P = r at *
      have b1 : B + (r.2.2 ++ [(c, 0)]).length ≤ r.2.1 := bb.1
      have b2 : B + r.2.2.length ≤ 1000 := by
        have b3 : B + (r.2.2 ++ [(c, 0)]).length ≤ 1000 := bb.2
        rw [len_a] at b3
        omega
      have fin : ∀ σ3 α3, Fσ [(104, 13)] σ2 σ3 → EF B α2 α3 → EM σ3 α3 B (r.2.2 ++ [(c, 0)]) → Go X (d + 2) 150 61 [some (vR 104), some (vI (dep : Int)), some (vI t)] [] (S0, σ3, α3) (0, 0) Q := by
        intro σ3 α3 F3 E3 em3
        have F13 : Fσ SE σ σ3 := ((Fσ.up (by decide)).tr F2).tr (F3.wk (by decide))
        have E13 := E2.tr E3
        have S3 := S2.fr F3
        refine vc150_61 ?_
        by_cases e : r.1 = 0
        · rw [e] at S3
          rw [th_0 (r := pAdd r c) e] at h0 hq
          exact L dep r.2.1 (r.2.2 ++ [(c, 0)]) (d + 2) σ3 α3 Q _ (hp.go F13 E13 em3 S3 b1 hd) h0 he (hq.mv F13 E13)
        · rw [th_n (r := pAdd r c) e] at hq
          exact m_no0 (M.fr E13.1) S3 (fun z => absurd z e) (fun σ4 F4 S4 => hq σ4 α3 (F13.tr (F4.wk (by decide))) E13 (em3.fr F4) S4)
      refine vc150_45 ⟨fun z => ?_, fun z => ?_⟩
      · have ez := t0 z
        subst ez
        exact m_emit em b2 fin
      · have ez := t1 z
        subst ez
        exact m_emit em b2 fin
    refine vc150_5 (m_isWord (w := 20) M S (by decide) (by decide) (fun e q => ?_) (fun q => ?_))
    · refine vc150_11 ⟨fun _ => m_isWord (w := 20) M S (by decide) (by decide) (fun _ q2 => ?_) (fun q2 => absurd q (q2 rfl)), fun z => absurd z (by decide)⟩
      exact go 1 9 (by rw [jn0, if_pos q]) (fun z => absurd z (by decide)) (fun _ => rfl)
    · refine vc150_11 ⟨fun z => absurd rfl z, fun _ => m_isWord (w := 21) M S (by decide) (by decide) (fun _ q2 => ?_) (fun q2 => ?_)⟩
      · refine vc150_20 ⟨fun z => absurd z (by decide), fun _ => m_isWord (w := 20) M S (by decide) (by decide) (fun _ q3 => absurd q3 (q rfl)) (fun q3 => ?_)⟩
        exact go 0 10 (by rw [jn0, if_neg (q rfl), if_pos q2]) (fun _ => rfl) (fun z => absurd rfl z)
      · exact absurd (by rw [jn0, if_neg (q rfl), if_neg (q2 rfl)]) j0
theorem m_no2 {X : mXX} {d : Nat} {Q : Option mV → mS → Prop} {σ α : Nat → Nat → Int} {T : Nat → Int} {N i : Nat} {g l : Int} {x : Option mV} (M : MC α T N) (S : MS σ T N i g) (hj : g = 0 → jnC T N 2 i = 0) (h : ∀ σ', Fσ [(104, 7), (104, 8)] σ σ' → MS σ' T N i g → Q none (S0, σ', α)) : Go X (d + 2) 152 5 [some (vR 104), some (vI l), x] [] (S0, σ, α) (0, 0) Q := by
  have jj : g = 0 → ¬ sgF T N 43 i = 0 ∧ ¬ sgF T N 45 i = 0 := fun z => by
    have := hj z
    rw [jn2] at this
    exact t0_i this (by decide) (by decide)
  refine vc152_5 (m_isSign (c := 43) M S (fun e q => absurd q (jj e).1) (fun q => ?_))
  refine vc152_11 ⟨fun z => absurd rfl z, fun _ => m_isSign (c := 45) M S (fun e q2 => absurd q2 (jj e).2) (fun q2 => ?_)⟩
  exact vc152_20 ⟨fun _ => h σ (fun _ _ _ => rfl) S, fun z => absurd rfl z⟩
theorem m_l2 {X : mXX} {T : Nat → Int} {N m B f : Nat} (A : mAf X T N m B f) (L : mLf2 X T N m B f) : mLf2 X T N m B (f + 1) := by
  intro dep i P e σ α Q x hp h0 he hq
  obtain ⟨d, rfl⟩ : ∃ d, e = d + 2 := ⟨e - 2, by omega⟩
  obtain ⟨M, S, E, hb, hw, hd⟩ := id hp
  rw [px_7] at h0 hq
  by_cases j0 : jnC T N 2 i = 0
  · rw [if_pos j0] at hq
    exact m_no2 M S (fun _ => j0) (fun σ' F S' => hq σ' α (F.wk (by decide)) EF.rf (E.fr F) S')
  · rw [if_neg j0] at h0 hq
    have go : ∀ t c : Int, jnC T N 2 i = c → (t = 0 → c = 5) → (t ≠ 0 → c = 4) → Go X (d + 2) 152 29 [some (vR 104), some (vI (dep : Int)), x] [vI t] (S0, σ, α) (0, 0) Q := by
      intro t c ec t0 t1
      rw [ec] at h0 hq
      have kn := (jn_k j0).1
      have S1 := S.nx M.2.2 kn
      have o := (px_b (T := T) (N := N) (m := m) f 3 dep (i + 1) P).1
      have bb := pr_b hp (o.ad (c := c) kn)
      have h1 : 0 ≤ (pX T N m f 3 dep (i + 1) P).1 := th_pa h0
      have nn : NE T N (pX T N m f 3 dep (i + 1) P).2.1 := o.2.2 ((S.2.2 rfl).2.s kn)
      refine vc152_29 (A 3 dep (i + 1) P (d + 2) _ α _ (by decide) (hp.go (Fσ.up (by decide)) EF.rf (E.fr (Fσ.up (by decide))) S1 (Nat.le_succ_of_le hb) hd) h1 (by omega) (fun σ2 α2 F2 E2 em S2 => ?_))
      generalize pX T N m f 3 dep (i + 1) P = r at *
      have b1 : B + (r.2.2 ++ [(c, 0)]).length ≤ r.2.1 := bb.1
      have b2 : B + r.2.2.length ≤ 1000 := by
        have b3 : B + (r.2.2 ++ [(c, 0)]).length ≤ 1000 := bb.2
        rw [len_a] at b3
        omega
      have fin : ∀ σ3 α3, Fσ [(104, 13)] σ2 σ3 → EF B α2 α3 → EM σ3 α3 B (r.2.2 ++ [(c, 0)]) → Go X (d + 2) 152 59 [some (vR 104), some (vI (dep : Int)), some (vI t)] [] (S0, σ3, α3) (0, 0) Q := by
        intro σ3 α3 F3 E3 em3
        have F13 : Fσ SE σ σ3 := ((Fσ.up (by decide)).tr F2).tr (F3.wk (by decide))
        have E13 := E2.tr E3
        have S3 := S2.fr F3
        refine vc152_59 ?_
        by_cases e : r.1 = 0
        · rw [e] at S3
          rw [th_0 (r := pAdd r c) e] at h0 hq
          exact L dep r.2.1 (r.2.2 ++ [(c, 0)]) (d + 2) σ3 α3 Q _ (hp.go F13 E13 em3 S3 b1 hd) h0 he (hq.mv F13 E13)
        · rw [th_n (r := pAdd r c) e] at hq
          exact m_no2 (M.fr E13.1) S3 (fun z => absurd z e) (fun σ4 F4 S4 => hq σ4 α3 (F13.tr (F4.wk (by decide))) E13 (em3.fr F4) S4)
      refine vc152_45 ⟨fun z => ?_, fun z => ?_⟩
      · have ez := t0 z
        subst ez
        exact m_emit em b2 fin
      · have ez := t1 z
        subst ez
        exact m_emit em b2 fin
    refine vc152_5 (m_isSign (c := 43) M S (fun e q => ?_) (fun q => ?_))
    · refine vc152_11 ⟨fun _ => m_isSign (c := 43) M S (fun _ q2 => ?_) (fun q2 => absurd q (q2 rfl)), fun z => absurd z (by decide)⟩
      exact go 1 4 (by rw [jn2, if_pos q]) (fun z => absurd z (by decide)) (fun _ => rfl)
    · refine vc152_11 ⟨fun z => absurd rfl z, fun _ => m_isSign (c := 45) M S (fun _ q2 => ?_) (fun q2 => ?_)⟩
      · refine vc152_20 ⟨fun z => absurd z (by decide), fun _ => m_isSign (c := 43) M S (fun _ q3 => absurd q3 (q rfl)) (fun q3 => ?_)⟩
        exact go 0 5 (by rw [jn2, if_neg (q rfl), if_pos q2]) (fun _ => rfl) (fun z => absurd rfl z)
      · exact absurd (by rw [jn2, if_neg (q rfl), if_neg (q2 rfl)]) j0
theorem m_no1 {X : mXX} {d : Nat} {Q : Option mV → mS → Prop} {σ α : Nat → Nat → Int} {T : Nat → Int} {N i : Nat} {g l : Int} (M : MC α T N) (S : MS σ T N i g) (hj : g = 0 → jnC T N 1 i = 0) (h : ∀ σ', Fσ [(104, 7), (104, 8)] σ σ' → MS σ' T N i g → Q none (S0, σ', α)) : Go X (d + 2) 151 5 [some (vR 104), some (vI l), none] [] (S0, σ, α) (0, 0) Q := by
  have jj : g = 0 → ¬ sgF T N 60 i = 0 ∧ ¬ sgF T N 61 i = 0 := fun z => by
    have := hj z
    rw [jn1] at this
    exact t0_i this (by decide) (by decide)
  refine vc151_5 (m_isSign (c := 60) M S (fun e q => absurd q (jj e).1) (fun q => ?_))
  refine vc151_11 (m_hasSign M S (fun e q => absurd q (jj e).1) (fun _ σ1 F1 S1 => ?_))
  refine vc151_18 ⟨fun z => absurd rfl z, fun _ => m_hasSign M S1 (fun e q => absurd q (jj e).2) (fun _ σ2 F2 S2 => ?_)⟩
  exact vc151_27 ⟨fun _ => vc151_51 (h σ2 ((F1.tr F2).wk (by decide)) S2), fun z => absurd rfl z⟩
theorem m_l1 {X : mXX} {T : Nat → Int} {N m B f : Nat} (A : mAf X T N m B f) : mLf1 X T N m B (f + 1) := by
  intro dep i P e σ α Q hp h0 he hq
  obtain ⟨d, rfl⟩ : ∃ d, e = d + 2 := ⟨e - 2, by omega⟩
  obtain ⟨M, S, E, hb, hw, hd⟩ := id hp
  rw [px_6] at h0 hq
  by_cases j0 : jnC T N 1 i = 0
  · rw [if_pos j0] at hq
    exact m_no1 M S (fun _ => j0) (fun σ' F S' => hq σ' α (F.wk (by decide)) EF.rf (E.fr F) S')
  · rw [if_neg j0] at h0 hq
    have kn := (jn_k j0).1
    have go : ∀ (t c : Int) σ1, Fσ [(104, 7)] σ σ1 → MS σ1 T N (i + 1) 0 → jnC T N 1 i = c → (t = 0 → c = 8) → (t ≠ 0 → c = 7) → Ca X (d + 2) 152 [vR 104, vI (dep : Int)] (S0, σ1, α) (fun r s' => Go X (d + 2) 151 35 [some (vR 104), some (vI (dep : Int)), some (vI t)] [] s' (0, 0) Q) := by
      intro t c σ1 F1 S1 ec t0 t1
      rw [ec] at h0 hq
      have o := (px_b (T := T) (N := N) (m := m) f 2 dep (i + 1) P).1
      have bb := pr_b hp (o.ad (c := c) kn)
      have h1 : 0 ≤ (pX T N m f 2 dep (i + 1) P).1 := th_pa h0
      refine A 2 dep (i + 1) P (d + 2) _ α _ (by decide) (hp.go (F1.wk (by decide)) EF.rf (E.fr (F1.wk (by decide))) S1 (Nat.le_succ_of_le hb) hd) h1 (by omega) (fun σ2 α2 F2 E2 em S2 => ?_)
      generalize pX T N m f 2 dep (i + 1) P = r at *
      have b2 : B + r.2.2.length ≤ 1000 := by
        have b3 : B + (r.2.2 ++ [(c, 0)]).length ≤ 1000 := bb.2
        rw [len_a] at b3
        omega
      have er : (pThen (pAdd r c) (fun j R => (0, j, R))) = pAdd r c := by
        by_cases e : r.1 = 0
        · rw [th_0 (r := pAdd r c) e]
          unfold pAdd
          rw [e]
        · exact th_n (r := pAdd r c) e
      rw [er] at hq
      have fin : ∀ σ3 α3, Fσ [(104, 13)] σ2 σ3 → EF B α2 α3 → EM σ3 α3 B (r.2.2 ++ [(c, 0)]) → Go X (d + 2) 151 51 [some (vR 104), some (vI (dep : Int)), some (vI t)] [] (S0, σ3, α3) (0, 0) Q := by
        intro σ3 α3 F3 E3 em3
        exact vc151_51 (hq σ3 α3 (((F1.wk (by decide)).tr F2).tr (F3.wk (by decide))) (E2.tr E3) em3 (S2.fr F3))
      refine vc151_35 ⟨fun z => ?_, fun z => ?_⟩
      · have ez := t0 z
        subst ez
        exact m_emit em b2 fin
      · have ez := t1 z
        subst ez
        exact m_emit em b2 fin
    refine vc151_5 (m_isSign (c := 60) M S (fun e q => ?_) (fun q => ?_))
    · refine vc151_11 (m_hasSign M S (fun _ _ σ1 F1 S1 => ?_) (fun q2 => absurd q (q2 rfl)))
      refine vc151_18 ⟨fun _ => ?_, fun z => absurd z (by decide)⟩
      exact go 1 7 σ1 F1 S1 (by rw [jn1, if_pos q]) (fun z => absurd z (by decide)) (fun _ => rfl)
    · refine vc151_11 (m_hasSign M S (fun _ q2 => absurd q2 (q rfl)) (fun _ σ1 F1 S1 => ?_))
      refine vc151_18 ⟨fun z => absurd rfl z, fun _ => m_hasSign M S1 (fun _ q3 σ2 F2 S2 => ?_) (fun q3 => ?_)⟩
      · refine vc151_27 ⟨fun z => absurd z (by decide), fun _ => ?_⟩
        exact go 0 8 σ2 (F1.tr F2) S2 (by rw [jn1, if_neg (q rfl), if_pos q3]) (fun _ => rfl) (fun z => absurd rfl z)
      · exact absurd (by rw [jn1, if_neg (q rfl), if_neg (q3 rfl)]) j0
theorem m_no3 {X : mXX} {d : Nat} {Q : Option mV → mS → Prop} {σ α : Nat → Nat → Int} {T : Nat → Int} {N i : Nat} {g l : Int} (M : MC α T N) (S : MS σ T N i g) (hj : g = 0 → jnC T N 3 i = 0) (h : ∀ σ', Fσ [(104, 7), (104, 8)] σ σ' → MS σ' T N i g → Q none (S0, σ', α)) : Go X (d + 2) 153 5 [some (vR 104), some (vI l)] [] (S0, σ, α) (0, 0) Q := by
  have jj : g = 0 → ¬ sgF T N 42 i = 0 := fun z q => by
    have := hj z
    rw [jn3, if_pos q] at this
    exact absurd this (by decide)
  refine vc153_5 (m_hasSign M S (fun e q => absurd q (jj e)) (fun _ σ1 F1 S1 => ?_))
  exact vc153_11 ⟨fun _ => h σ1 (F1.wk (by decide)) S1, fun z => absurd rfl z⟩
theorem m_l3 {X : mXX} {T : Nat → Int} {N m B f : Nat} (A : mAf X T N m B f) (L : mLf3 X T N m B f) : mLf3 X T N m B (f + 1) := by
  intro dep i P e σ α Q hp h0 he hq
  obtain ⟨d, rfl⟩ : ∃ d, e = d + 2 := ⟨e - 2, by omega⟩
  obtain ⟨M, S, E, hb, hw, hd⟩ := id hp
  rw [px_8] at h0 hq
  by_cases j0 : jnC T N 3 i = 0
  · rw [if_pos j0] at hq
    exact m_no3 M S (fun _ => j0) (fun σ' F S' => hq σ' α (F.wk (by decide)) EF.rf (E.fr F) S')
  · rw [if_neg j0] at h0 hq
    have kn := (jn_k j0).1
    refine vc153_5 (m_hasSign M S (fun _ q σ1 F1 S1 => ?_) (fun q => absurd (by rw [jn3, if_neg (q rfl)]) j0))
    have ec : jnC T N 3 i = 6 := by rw [jn3, if_pos q]
    rw [ec] at h0 hq
    have o := (px_b (T := T) (N := N) (m := m) f 4 dep (i + 1) P).1
    have bb := pr_b hp (o.ad (c := 6) kn)
    have h1 : 0 ≤ (pX T N m f 4 dep (i + 1) P).1 := th_pa h0
    refine vc153_11 ⟨fun z => absurd z (by decide), fun _ => ?_⟩
    refine A 4 dep (i + 1) P (d + 2) _ α _ (by decide) (hp.go (F1.wk (by decide)) EF.rf (E.fr (F1.wk (by decide))) S1 (Nat.le_succ_of_le hb) hd) h1 (by omega) (fun σ2 α2 F2 E2 em S2 => ?_)
    generalize pX T N m f 4 dep (i + 1) P = r at *
    have b1 : B + (r.2.2 ++ [((6 : Int), (0 : Int))]).length ≤ r.2.1 := bb.1
    have b2 : B + r.2.2.length ≤ 1000 := by
      have b3 : B + (r.2.2 ++ [((6 : Int), (0 : Int))]).length ≤ 1000 := bb.2
      rw [len_a] at b3
      omega
    refine vc153_19 (m_emit em b2 (fun σ3 α3 F3 E3 em3 => ?_))
    have F13 : Fσ SE σ σ3 := ((F1.wk (by decide)).tr F2).tr (F3.wk (by decide))
    have E13 := E2.tr E3
    have S3 := S2.fr F3
    refine vc153_26 ?_
    by_cases e : r.1 = 0
    · rw [e] at S3
      rw [th_0 (r := pAdd r 6) e] at h0 hq
      exact L dep r.2.1 (r.2.2 ++ [(6, 0)]) (d + 2) σ3 α3 Q (hp.go F13 E13 em3 S3 b1 hd) h0 he (hq.mv F13 E13)
    · rw [th_n (r := pAdd r 6) e] at hq
      exact m_no3 (M.fr E13.1) S3 (fun z => absurd z e) (fun σ4 F4 S4 => hq σ4 α3 (F13.tr (F4.wk (by decide))) E13 (em3.fr F4) S4)
