/-! The class reads a law -/
theorem pgC.ap {A : Nat → Int} : ∀ {P R : pRow} {p : Nat}, pgC A p P → pgC A (p + P.length) R → pgC A p (P ++ R)
  | [], _, _, _, g => g
  | q :: P, R, p, h, g => ⟨h.1, pgC.ap h.2 (by rw [len_c] at g; exact g)⟩
theorem pgC.cg {A A' : Nat → Int} : ∀ {P : pRow} {p : Nat}, pgC A p P → (∀ t, p ≤ t → t < p + P.length → A' t = A t) → pgC A' p P
  | [], _, _, _ => trivial
  | q :: P, p, h, g => by
    rw [len_c] at g
    exact ⟨(g p (Nat.le_refl _) (by omega)).trans h.1, pgC.cg h.2 (fun t t1 t2 => g t (by omega) t2)⟩
def LC (a b : Nat) (σ α : Nat → Nat → Int) (P : pRow) : Prop := σ a 2 = ((P.length : Nat) : Int) ∧ pgC (α b) 0 P
def SCg (a : Nat) : List (Nat × Nat) := (a, 2) :: S5
def SCw (a : Nat) : List (Nat × Nat) := (3, 6) :: SCg a
theorem gw {a : Nat} : ∀ q ∈ SCg a, q ∈ SCw a := fun _ h => List.mem_cons_of_mem _ h
theorem c_joiner {X : mXX} {d : Nat} {Q : Option mV → mS → Prop} {σ α : Nat → Nat → Int} {T : Nat → Int} {N i k : Nat} (hk : k ≤ 3) (C : CTk σ T N i) (h : Q (some (vI (if jnC T N k i = 0 then 0 else ecl (jnC T N k i, 0)))) (S0, σ, α)) : Ca X (d + 2) 95 [vR 3, vI (k : Int)] (S0, σ, α) Q := by
  have : k = 0 ∨ k = 1 ∨ k = 2 ∨ k = 3 := by clear h; omega
  rcases this with rfl | rfl | rfl | rfl
  · rw [jn0] at h
    refine vc95_0 ⟨fun z => absurd z (by decide), fun _ => ?_, fun z => absurd z (by decide), fun z => absurd z (by decide), fun z => absurd z (by decide), trivial⟩
    refine c_isWord (w := 20) C (by decide) (fun q => ?_) (fun q => ?_)
    · rw [if_pos q] at h
      exact vc95_41 ⟨fun z => absurd z (by decide), fun _ => h⟩
    · rw [if_neg q] at h
      refine vc95_41 ⟨fun _ => c_isWord (w := 21) C (by decide) (fun q2 => ?_) (fun q2 => ?_), fun z => absurd rfl z⟩
      · rw [if_pos q2] at h
        exact vc95_58 ⟨fun z => absurd z (by decide), fun _ => h⟩
      · rw [if_neg q2] at h
        exact vc95_58 ⟨fun _ => h, fun z => absurd rfl z⟩
  · rw [jn1] at h
    refine vc95_0 ⟨fun z => absurd z (by decide), fun z => absurd z (by decide), fun _ => ?_, fun z => absurd z (by decide), fun z => absurd z (by decide), trivial⟩
    refine c_isSign (c := 60) C (fun q => ?_) (fun q => ?_)
    · rw [if_pos q] at h
      exact vc95_77 ⟨fun z => absurd z (by decide), fun _ => h⟩
    · rw [if_neg q] at h
      refine vc95_77 ⟨fun _ => c_isSign (c := 61) C (fun q2 => ?_) (fun q2 => ?_), fun z => absurd rfl z⟩
      · rw [if_pos q2] at h
        exact vc95_94 ⟨fun z => absurd z (by decide), fun _ => h⟩
      · rw [if_neg q2] at h
        exact vc95_94 ⟨fun _ => h, fun z => absurd rfl z⟩
  · rw [jn2] at h
    refine vc95_0 ⟨fun z => absurd z (by decide), fun z => absurd z (by decide), fun z => absurd z (by decide), fun _ => ?_, fun z => absurd z (by decide), trivial⟩
    refine c_isSign (c := 43) C (fun q => ?_) (fun q => ?_)
    · rw [if_pos q] at h
      exact vc95_113 ⟨fun z => absurd z (by decide), fun _ => h⟩
    · rw [if_neg q] at h
      refine vc95_113 ⟨fun _ => c_isSign (c := 45) C (fun q2 => ?_) (fun q2 => ?_), fun z => absurd rfl z⟩
      · rw [if_pos q2] at h
        exact vc95_130 ⟨fun z => absurd z (by decide), fun _ => h⟩
      · rw [if_neg q2] at h
        exact vc95_130 ⟨fun _ => h, fun z => absurd rfl z⟩
  · rw [jn3] at h
    refine vc95_0 ⟨fun z => absurd z (by decide), fun z => absurd z (by decide), fun z => absurd z (by decide), fun z => absurd z (by decide), fun _ => ?_, trivial⟩
    refine c_isSign (c := 42) C (fun q => ?_) (fun q => ?_)
    · rw [if_pos q] at h
      exact vc95_149 ⟨fun z => absurd z (by decide), fun _ => h⟩
    · rw [if_neg q] at h
      exact vc95_149 ⟨fun _ => h, fun z => absurd rfl z⟩
theorem ecl_j {c : Int} (h : 4 ≤ c ∧ c ≤ 10) : ecl (c, 0) ≠ 0 := by
  have : c = 4 ∨ c = 5 ∨ c = 6 ∨ c = 7 ∨ c = 8 ∨ c = 9 ∨ c = 10 := by omega
  rcases this with rfl | rfl | rfl | rfl | rfl | rfl | rfl <;> decide
theorem ecl_f {T : Nat → Int} {N m i : Nat} (hm : m = 3 ∨ m = 7) (h : isF T N m i) : wr ((-1) - (wr (((twI T N i : Nat) : Int) - 22))) = ecl (2, (fkI T N i : Int)) := by
  have a := h.1
  have b := h.2
  unfold fkI
  generalize twI T N i = t at *
  clear h
  have : t = 22 ∨ t = 23 ∨ t = 24 ∨ t = 25 ∨ t = 26 ∨ t = 27 ∨ t = 28 := by omega
  rcases this with rfl | rfl | rfl | rfl | rfl | rfl | rfl <;> decide
def cLPre (a b : Nat) (T : Nat → Int) (N dep i : Nat) (P : pRow) (σ α : Nat → Nat → Int) : Prop := α 2 = T ∧ okT T N ∧ CTk σ T N i ∧ LC a b σ α P ∧ P.length ≤ i ∧ NE T N i ∧ dep ≤ 5
def cLPost (a b : Nat) (T : Nat → Int) (N : Nat) (r : pRes) (σ α : Nat → Nat → Int) (Q : Option mV → mS → Prop) : Prop := (r.1 = 0 → ∀ σ' α', Fσ (SCg a) σ σ' → Fα [b] α α' → CTk σ' T N r.2.1 → LC a b σ' α' r.2.2 → Q (some (vI 1)) (S0, σ', α')) ∧ (r.1 ≠ 0 → ∀ σ' α', Fσ (SCw a) σ σ' → Fα [b] α α' → σ' 3 6 = r.1 → (0 ≤ σ' a 2 ∧ σ' a 2 ≤ 1000) → Q (some (vI 0)) (S0, σ', α'))
theorem cLPost.mv {a b : Nat} {T : Nat → Int} {N : Nat} {r : pRes} {σ α σ' α' : Nat → Nat → Int} {Q : Option mV → mS → Prop} (h : cLPost a b T N r σ α Q) (F : Fσ (SCg a) σ σ') (E : Fα [b] α α') : cLPost a b T N r σ' α' Q := ⟨fun e σ2 α2 F2 E2 c l => h.1 e σ2 α2 (F.tr F2) (E.tr E2) c l, fun e σ2 α2 F2 E2 c l => h.2 e σ2 α2 ((F.wk gw).tr F2) (E.tr E2) c l⟩
theorem cr_b {T : Nat → Int} {N n i : Nat} {r : pRes} (hN : N ≤ 1000) (hb : n ≤ i) (ne : NE T N i) (o : pOk T N i n r) : r.2.2.length ≤ r.2.1 ∧ NE T N r.2.1 ∧ r.2.2.length ≤ 1000 := by
  have nn := o.2.2 ne
  have n2 := ne_b nn
  have a := o.2.1
  exact ⟨by clear o ne nn; omega, nn, by clear o ne nn; omega⟩
theorem f_lo {t m : Nat} (z : (t : Int) < ((29 - m : Nat) : Int)) : ¬ 29 ≤ t + m := by omega
theorem f_yes {t m : Nat} (z : ¬ (t : Int) < ((29 - m : Nat) : Int)) (y : ¬ 28 < (t : Int)) : 29 ≤ t + m ∧ t ≤ 28 := by omega
theorem S5_C : ∀ q ∈ S5, q ∈ SCg 15 ∧ q ∈ SCg 18 := by decide
theorem c_putS {X : mXX} {d : Nat} {Q : Option mV → mS → Prop} {σ α : Nat → Nat → Int} {P : pRow} {c : Int} {q : Int × Int} (E : LC 15 16 σ α P) (hb : P.length < 1000) (hc : c = ecl q) (h : ∀ σ' α', Fσ [(15, 2)] σ σ' → Fα [16] α α' → LC 15 16 σ' α' (P ++ [q]) → Q none (S0, σ', α')) : Ca X (d + 1) 41 [vR 15, vI c] (S0, σ, α) Q := by
  have e2 := E.1
  have lt : σ 15 2 < 1000 := by rw [e2]; exact Int.ofNat_lt.mpr hb
  have es : wr (σ 15 2 + 1) = (((P ++ [q]).length : Nat) : Int) := by rw [e2, wrS (by clear lt e2; omega), len_a]
  refine vc41r15_0 ⟨fun z => absurd lt z, fun _ => ?_⟩
  rw [es, e2, Int.toNat_natCast]
  refine ⟨mInA_n hb, h _ _ (Fσ.up (by decide)) (Fα.up (by decide)) ⟨up_s, ?_⟩⟩
  rw [up_f]
  refine pgC.ap (E.2.cg (fun t _ t2 => if_neg (by rw [Nat.zero_add] at t2; exact Nat.ne_of_lt t2))) ⟨?_, trivial⟩
  rw [Nat.zero_add, ← hc]
  exact if_pos rfl
theorem c_putDS {X : mXX} {d : Nat} {Q : Option mV → mS → Prop} {σ α : Nat → Nat → Int} {c : Int} (b : 0 ≤ σ 15 2 ∧ σ 15 2 ≤ 1000) (h : ∀ σ' α', Fσ [(15, 2)] σ σ' → Fα [16] α α' → (0 ≤ σ' 15 2 ∧ σ' 15 2 ≤ 1000) → Q none (S0, σ', α')) : Ca X (d + 1) 41 [vR 15, vI c] (S0, σ, α) Q := by
  refine vc41r15_0 ⟨fun _ => h σ α (fun _ _ _ => rfl) Fα.rf b, fun z => ⟨⟨b.1, z⟩, h _ _ (Fσ.up (by decide)) (Fα.up (by decide)) ?_⟩⟩
  rw [up_s]
  generalize σ 15 2 = v at *
  rw [wr_of (by omega) (by omega)]
  omega
theorem cLPre.goS {T : Nat → Int} {N dep dep' i j : Nat} {P R : pRow} {σ α σ' α' : Nat → Nat → Int} (h : cLPre 15 16 T N dep i P σ α) (E : Fα [16] α α') (c : CTk σ' T N j) (l : LC 15 16 σ' α' R) (b : R.length ≤ j) (ne : NE T N j) (hd : dep' ≤ 5) : cLPre 15 16 T N dep' j R σ' α' := ⟨(E 2 (by decide)).trans h.1, h.2.1, c, l, b, ne, hd⟩
theorem LC.frS {σ σ' α : Nat → Nat → Int} {P : pRow} {Z : List (Nat × Nat)} (l : LC 15 16 σ α P) (F : Fσ Z σ σ') (hz : (15, 2) ∉ Z := by decide) : LC 15 16 σ' α P := ⟨(F 15 2 hz).trans l.1, l.2⟩
theorem LC.boS {σ α : Nat → Nat → Int} {P : pRow} (l : LC 15 16 σ α P) (h : P.length ≤ 1000) : 0 ≤ σ 15 2 ∧ σ 15 2 ≤ 1000 := by
  rw [l.1]; exact ⟨Int.ofNat_nonneg _, Int.ofNat_le.mpr h⟩
def cAfS (X : mXX) (T : Nat → Int) (N m f : Nat) : Prop := ∀ (k dep i : Nat) (P : pRow) (e : Nat) (σ α : Nat → Nat → Int) (Q : Option mV → mS → Prop), k ≤ 4 → cLPre 15 16 T N dep i P σ α → 0 ≤ (pX T N m f k dep i P).1 → 20 + 8 * (6 - dep) + (5 - k) ≤ e → cLPost 15 16 T N (pX T N m f k dep i P) σ α Q → Ca X e 93 [vR 3, vR 15, vI ((29 - m : Nat) : Int), vI (k : Int), vI (dep : Int)] (S0, σ, α) Q
def cTfS (X : mXX) (T : Nat → Int) (N m f : Nat) : Prop := ∀ (dep i : Nat) (P : pRow) (e : Nat) (σ α : Nat → Nat → Int) (Q : Option mV → mS → Prop), cLPre 15 16 T N dep i P σ α → 0 ≤ (pX T N m f 4 dep i P).1 → 20 + 8 * (6 - dep) ≤ e → cLPost 15 16 T N (pX T N m f 4 dep i P) σ α Q → Ca X e 94 [vR 3, vR 15, vI ((29 - m : Nat) : Int), vI (dep : Int)] (S0, σ, α) Q
def cLfS (X : mXX) (T : Nat → Int) (N m f : Nat) : Prop := ∀ (k dep i : Nat) (P : pRow) (e mo : Nat) (x : Option mV) (σ α : Nat → Nat → Int) (Q : Option mV → mS → Prop), k ≤ 3 → cLPre 15 16 T N dep i P σ α → 0 ≤ (pX T N m f (k + 5) dep i P).1 → 19 + 8 * (6 - dep) + (5 - k) ≤ e → mo ≤ i → (k = 1 → mo = 0) → cLPost 15 16 T N (pX T N m f (k + 5) dep i P) σ α Q → Go X e 93 47 [some (vR 3), some (vR 15), some (vI ((29 - m : Nat) : Int)), some (vI (k : Int)), some (vI (dep : Int)), some (vI (if k = 1 then 1 else 1000)), some (vI (mo : Int)), x] [] (S0, σ, α) (0, 0) Q
theorem c_lS {X : mXX} {T : Nat → Int} {N m f : Nat} (A : cAfS X T N m f) (L : cLfS X T N m f) : cLfS X T N m (f + 1) := by
  intro k dep i P e mo x σ α Q hk hp h0 he hmo hk1 hq
  obtain ⟨d, rfl⟩ : ∃ d, e = d + 8 := ⟨e - 8, by omega⟩
  obtain ⟨hT, ok, C, l, hb, ne, hd⟩ := id hp
  have iN := ne_b ne
  rw [px_j] at h0 hq
  have fin1 : jnC T N k i = 0 → Q (some (vI 1)) (S0, σ, α) := fun j0 => by
    rw [if_pos j0] at hq
    exact hq.1 rfl σ α (fun _ _ _ => rfl) Fα.rf C l
  have mw := wrS (k := mo) (by have := ok.1; omega)
  have k3 := wrS (k := k) (by omega)
  refine vc93r3r15_47 ⟨fun z => ?_, fun z => ?_⟩
  · refine fin1 ?_
    by_cases j0 : jnC T N k i = 0
    · exact j0
    · have kn := (jn_k j0).1
      have iN1 := ne_b (ne.s kn)
      by_cases h1 : k = 1
      · rw [if_pos h1, hk1 h1] at z
        exact absurd (by decide) z
      · rw [if_neg h1] at z
        have := ok.1
        exact absurd (by clear h0 hq kn j0 mw k3; omega) z
  · refine c_joiner hk C ?_
    by_cases j0 : jnC T N k i = 0
    · rw [if_pos j0]
      exact vc93r3r15_59 ⟨fun y => absurd rfl y, fun _ => fin1 j0⟩
    · rw [if_neg j0]
      rw [if_neg j0] at h0 hq
      have jr := jn_k j0
      have ne1 := ne.s jr.1
      refine vc93r3r15_59 ⟨fun _ => c_adv hT ok C (fun σ1 F1 C1 => vc93r3r15_75 ?_), fun y => absurd y (ecl_j jr.2)⟩
      rw [k3]
      have o := (px_b (T := T) (N := N) (m := m) f (k + 1) dep (i + 1) P).1
      have h1 : 0 ≤ (pX T N m f (k + 1) dep (i + 1) P).1 := th_pa h0
      have bb := cr_b ok.1 hb ne (o.ad (c := jnC T N k i) jr.1)
      have F1' : Fσ (SCg 15) σ σ1 := F1.wk (fun q hq => (S5_C q hq).1)
      refine A (k + 1) dep (i + 1) P (d + 8) σ1 α _ (Nat.succ_le_succ hk) (hp.goS Fα.rf C1 (l.frS F1) (Nat.le_succ_of_le hb) ne1 hd) h1 (by clear h0 hq mw k3 bb h1; omega) ?_
      have pr : i < (pX T N m f (k + 1) dep (i + 1) P).2.1 := o.1
      generalize pX T N m f (k + 1) dep (i + 1) P = r at *
      refine ⟨fun e σ2 α2 F2 E2 C2 l2 => ?_, fun e σ2 α2 F2 E2 e6 b2 => ?_⟩
      · have b1 : (r.2.2 ++ [(jnC T N k i, (0 : Int))]).length ≤ r.2.1 := bb.1
        have b3 : r.2.2.length < 1000 := by
          have b4 : (r.2.2 ++ [(jnC T N k i, (0 : Int))]).length ≤ 1000 := bb.2.2
          rw [len_a] at b4
          exact b4
        rw [th_0 (r := pAdd r _) e] at h0 hq
        refine vc93r3r15_86 ⟨fun _ => c_putS l2 b3 rfl (fun σ3 α3 F3 E3 l3 => vc93r3r15_97 ?_), fun y => absurd y (by decide)⟩
        have C3 : CTk σ3 T N r.2.1 := C2.fr F3
        have F13 : Fσ (SCg 15) σ σ3 := (F1'.tr F2).tr (F3.wk (by decide))
        have E13 := E2.tr E3
        rw [mw]
        by_cases h1 : k = 1
        · rw [if_pos h1] at hq
          have e1 : (if k = 1 then (1 : Int) else 1000) = 1 := if_pos h1
          rw [e1, hk1 h1]
          exact vc93r3r15_47 ⟨fun _ => hq.1 rfl σ3 α3 F13 E13 C3 l3, fun y => absurd y (by decide)⟩
        · rw [if_neg h1] at h0 hq
          exact L k dep r.2.1 _ (d + 8) (mo + 1) _ σ3 α3 Q hk (hp.goS E13 C3 l3 b1 bb.2.1 hd) h0 he (Nat.lt_of_le_of_lt hmo pr) (fun y => absurd y h1) (hq.mv F13 E13)
      · rw [th_n (r := pAdd r _) e] at hq
        exact vc93r3r15_86 ⟨fun y => absurd rfl y, fun _ => hq.2 e σ2 α2 ((F1'.wk gw).tr F2) E2 e6 b2⟩
theorem c_partS {X : mXX} {T : Nat → Int} {N m f : Nat} (hm : m = 3 ∨ m = 7) (A : cAfS X T N m f) (G : cTfS X T N m f) : cTfS X T N m (f + 1) := by
  intro dep i P e σ α Q hp h0 he hq
  obtain ⟨d, rfl⟩ : ∃ d, e = d + 9 := ⟨e - 9, by omega⟩
  obtain ⟨hT, ok, C, l, hb, ne, hd⟩ := id hp
  have iN := ne_b ne
  have oN := ok.1
  rw [px_4] at h0 hq
  have e4 := C.2.2.2.1
  have ed := wrS (k := dep) (by clear h0 hq e4; omega)
  have pp : isP T N m i → ∀ ln lq t : Int, (kdI T N i = 3 → ln = 1) → (kdI T N i ≠ 3 → ln = 0) → (isF T N m i → lq = 1) → (¬ isF T N m i → lq = 0) → (twI T N i = 19 → t = 1) → (twI T N i ≠ 19 → t = 0) → ((((dep : Nat) : Int) < 5 → Ca X (d + 8) 68 [vR 1] (S0, σ, α) (fun r s' => Go X (d + 8) 94 130 [some (vR 3), some (vR 15), some (vI ((29 - m : Nat) : Int)), some (vI (dep : Int)), some (vI ln), some (vI lq), some (vI t), some (vI (σ 1 5)), none] [] s' (0, 0) Q)) ∧ (¬ ((dep : Nat) : Int) < 5 → Ca X (d + 8) 79 [vR 3, vI 5] (S0, σ, α) (fun r s' => aI r (fun n => Go X (d + 8) 94 113 [some (vR 3), some (vR 15), some (vI ((29 - m : Nat) : Int)), some (vI (dep : Int)), some (vI ln), some (vI lq), some (vI t), none, none] [vI n] s' (0, 0) Q)))) := by
    intro p5 ln lq t y3 n3 yf nf y9 n9
    rw [if_pos p5] at h0 hq
    have kn := isP_k p5
    have ne1 := ne.s kn
    refine ⟨fun z => ?_, fun z => ?_⟩
    · have h5 : ¬ dep = 5 := fun y => by rw [y] at z; exact absurd z (by decide)
      have d1 : dep + 1 ≤ 5 := by clear h0 hq e4 ed y3 n3 yf nf y9 n9; omega
      rw [if_neg h5] at h0 hq
      refine c_adv hT ok C (fun σ1 F1 C1 => ?_)
      have F1' : Fσ (SCg 15) σ σ1 := F1.wk (fun q hq => (S5_C q hq).1)
      have l1 := l.frS F1
      have iN1 := ne_b ne1
      have bP : P.length < 1000 := by clear h0 hq e4 ed y3 n3 yf nf y9 n9; omega
      by_cases k3 : kdI T N i = 3
      · rw [if_pos k3] at hq
        have lz : ¬ ln = 0 := by rw [y3 k3]; decide
        refine vc94r3r15_130 ⟨fun _ => ⟨fun y => absurd y lz, fun _ => ?_⟩, fun y => absurd y lz⟩
        refine c_putS (q := (1, nbI T N i)) l1 bP (C.2.2.2.2.2.1 k3) (fun σ2 α2 F2 E2 l2 => vc94r3r15_161 ?_)
        exact hq.1 rfl σ2 α2 (F1'.tr (F2.wk (by decide))) E2 (C1.fr F2) l2
      · have lz := n3 k3
        rw [if_neg k3] at h0 hq
        by_cases kf : isF T N m i
        · rw [if_pos kf] at hq
          have qz : ¬ lq = 0 := by rw [yf kf]; decide
          refine vc94r3r15_130 ⟨fun y => absurd lz y, fun _ => ⟨fun y => absurd y qz, fun _ => ⟨fun _ => ?_, fun y => absurd lz y⟩⟩⟩
          have k2 : kdI T N i = 2 := k_n rfl (Nat.lt_succ_of_le kf.2)
          refine c_putS (q := (2, (fkI T N i : Int))) l1 bP (by rw [C.w k2]; exact ecl_f hm kf) (fun σ2 α2 F2 E2 l2 => vc94r3r15_161 ?_)
          exact hq.1 rfl σ2 α2 (F1'.tr (F2.wk (by decide))) E2 (C1.fr F2) l2
        · rw [if_neg kf] at h0 hq
          have qz := nf kf
          by_cases k9 : twI T N i = 19
          · rw [if_pos k9] at h0 hq
            have tz : ¬ t = 0 := by rw [y9 k9]; decide
            refine vc94r3r15_130 ⟨fun y => absurd lz y, fun _ => ⟨fun _ => ⟨fun y => absurd y tz, fun _ => ?_⟩, fun y => absurd qz y⟩⟩
            rw [ed]
            have o := (px_b (T := T) (N := N) (m := m) f 4 (dep + 1) (i + 1) P).1
            have bb := cr_b oN hb ne (o.ad (c := 3) kn)
            refine G (dep + 1) (i + 1) P (d + 8) σ1 α _ (hp.goS Fα.rf C1 l1 (Nat.le_succ_of_le hb) ne1 d1) h0 (by clear h0 hq e4 ed y3 n3 yf nf y9 n9 bb; omega) ?_
            generalize pX T N m f 4 (dep + 1) (i + 1) P = r at *
            refine ⟨fun e σ2 α2 F2 E2 C2 l2 => ?_, fun e σ2 α2 F2 E2 e6 b2 => ?_⟩
            · have b3 : r.2.2.length < 1000 := by
                have b4 : (r.2.2 ++ [((3 : Int), (0 : Int))]).length ≤ 1000 := bb.2.2
                rw [len_a] at b4
                exact b4
              refine vc94r3r15_177 (c_putS (q := (3, 0)) l2 b3 rfl (fun σ3 α3 F3 E3 l3 => vc94r3r15_185 ⟨Or.inr rfl, ?_⟩))
              exact hq.1 e σ3 α3 ((F1'.tr F2).tr (F3.wk (by decide))) (E2.tr E3) (C2.fr F3) l3
            · refine vc94r3r15_177 (c_putDS b2 (fun σ3 α3 F3 E3 b3 => vc94r3r15_185 ⟨Or.inl rfl, ?_⟩))
              exact hq.2 e σ3 α3 (((F1'.wk gw).tr F2).tr (F3.wk (by decide))) (E2.tr E3) ((F3 3 6 (by decide)).trans e6) b3
          · rw [if_neg k9] at h0 hq
            have tz := n9 k9
            refine vc94r3r15_130 ⟨fun y => absurd lz y, fun _ => ⟨fun _ => ⟨fun _ => ?_, fun y => absurd tz y⟩, fun y => absurd qz y⟩⟩
            rw [ed]
            have o := (px_b (T := T) (N := N) (m := m) f 0 (dep + 1) (i + 1) P).1
            have bb := cr_b oN hb ne (o.en kn)
            have bb2 := cr_b oN (Nat.le_succ_of_le hb) ne1 o
            have h1 : 0 ≤ (pX T N m f 0 (dep + 1) (i + 1) P).1 := by
              unfold pEnd at h0
              by_cases e : (pX T N m f 0 (dep + 1) (i + 1) P).1 = 0
              · rw [e]; exact Int.le_refl _
              · rw [if_neg e] at h0; exact h0
            refine A 0 (dep + 1) (i + 1) P (d + 8) σ1 α _ (by decide) (hp.goS Fα.rf C1 l1 (Nat.le_succ_of_le hb) ne1 d1) h1 (by clear h0 hq e4 ed y3 n3 yf nf y9 n9 bb bb2 h1; omega) ?_
            generalize pX T N m f 0 (dep + 1) (i + 1) P = r at *
            unfold pEnd at hq
            refine ⟨fun e σ2 α2 F2 E2 C2 l2 => ?_, fun e σ2 α2 F2 E2 e6 b2 => ?_⟩
            · rw [if_pos e] at hq
              have hT2 : α2 2 = T := (E2 2 (by decide)).trans hT
              refine vc94r3r15_198 ⟨fun _ => c_isSign C2 (fun s => ?_) (fun s => ?_), fun y => absurd y (by decide)⟩
              · rw [if_pos s] at hq
                refine vc94r3r15_212 ⟨fun _ => c_adv hT2 ok C2 (fun σ3 F3 C3 => vc94r3r15_228 ?_), fun y => absurd y (by decide)⟩
                exact hq.1 rfl σ3 α2 ((F1'.tr F2).tr (F3.wk (fun q hq => (S5_C q hq).1))) E2 C3 (l2.frS F3)
              · rw [if_neg s] at hq
                refine vc94r3r15_212 ⟨fun y => absurd rfl y, fun _ => c_fail oN C2 (by decide) (vc94r3r15_220 ⟨Or.inl rfl, ?_⟩)⟩
                refine hq.2 s _ α2 (((F1'.tr F2).wk gw).tr (Fσ.up (by decide))) E2 ?_ ?_
                · rw [up_s]
                  exact (show sgF T N 41 r.2.1 = fa T N 1 r.2.1 from if_neg (fun y => s (sgF_z.mpr y))).symm
                · rw [up_n (by decide)]
                  exact l2.boS bb2.2.2
            · rw [if_neg e] at hq
              exact vc94r3r15_198 ⟨fun y => absurd rfl y, fun _ => hq.2 e σ2 α2 ((F1'.wk gw).tr F2) E2 e6 b2⟩
    · have h5 : dep = 5 := by clear h0 hq e4 ed y3 n3 yf nf y9 n9; omega
      rw [if_pos h5] at hq
      refine c_fail oN C (by decide) (vc94r3r15_113 ⟨Or.inl rfl, ?_⟩)
      refine hq.2 (fa_0 (by decide)) _ α (Fσ.up (by decide)) Fα.rf up_s ?_
      rw [up_n (by decide)]
      exact l.boS (by clear h0 hq e4 ed y3 n3 yf nf y9 n9; omega)
  have st : ∀ ln lq : Int, (kdI T N i = 3 → ln = 1) → (kdI T N i ≠ 3 → ln = 0) → (isF T N m i → lq = 1) → (¬ isF T N m i → lq = 0) → Ca X (d + 8) 72 [vR 1, vI 19] (S0, σ, α) (fun r s' => aI r (fun n => Go X (d + 8) 94 68 [some (vR 3), some (vR 15), some (vI ((29 - m : Nat) : Int)), some (vI (dep : Int)), some (vI ln), some (vI lq), none, none, none] [vI n] s' (0, 0) Q)) := by
    intro ln lq y3 n3 yf nf
    have p68 : ∀ t : Int, (twI T N i = 19 → t = 1) → (twI T N i ≠ 19 → t = 0) → Go X (d + 8) 94 68 [some (vR 3), some (vR 15), some (vI ((29 - m : Nat) : Int)), some (vI (dep : Int)), some (vI ln), some (vI lq), none, none, none] [vI t] (S0, σ, α) (0, 0) Q := by
      intro t y9 n9
      have ppp := fun p5 => pp p5 ln lq t y3 n3 yf nf y9 n9
      refine vc94r3r15_68 ⟨fun z => ppp (Or.inl ?_), fun z => ⟨fun z2 => ppp (Or.inr (Or.inl ?_)), fun z2 => ⟨fun z3 => ppp (Or.inr (Or.inr (Or.inl ?_))), fun z3 => ?_⟩⟩⟩
      · by_cases k3 : kdI T N i = 3
        · exact k3
        · exact absurd (n3 k3) z
      · by_cases kf : isF T N m i
        · exact kf
        · exact absurd (nf kf) z2
      · by_cases k9 : twI T N i = 19
        · exact k9
        · exact absurd (n9 k9) z3
      · refine c_isSign C (fun s => ?_) (fun s => ?_)
        · exact vc94r3r15_94 ⟨fun _ => ppp (Or.inr (Or.inr (Or.inr s))), fun y => absurd y (by decide)⟩
        · have np : ¬ isP T N m i := by
            intro p
            rcases p with p | p | p | p
            · exact absurd (z.symm.trans (y3 p)) (by decide)
            · exact absurd (z2.symm.trans (yf p)) (by decide)
            · exact absurd (z3.symm.trans (y9 p)) (by decide)
            · exact s p
          rw [if_neg np] at hq
          refine vc94r3r15_94 ⟨fun y => absurd rfl y, fun _ => c_fail oN C (by decide) (vc94r3r15_102 ⟨Or.inl rfl, ?_⟩)⟩
          refine hq.2 (fa_0 (by decide)) _ α (Fσ.up (by decide)) Fα.rf up_s ?_
          rw [up_n (by decide)]
          exact l.boS (by clear h0 hq e4 ed y3 n3 yf nf y9 n9 z z2 z3; omega)
    exact c_isWord (w := 19) C (by decide) (fun q => p68 1 (fun _ => rfl) (fun y => absurd q y)) (fun q => p68 0 (fun y => absurd y q) (fun _ => rfl))
  have nw : kdI T N i ≠ 2 → ¬ isF T N m i := fun q z => q (k_n rfl (Nat.lt_succ_of_le z.2))
  have lo : kdI T N i = 2 → σ 1 5 < ((29 - m : Nat) : Int) → ¬ isF T N m i := fun q z y => by
    rw [C.w q] at z
    exact f_lo z y.1
  have hi : kdI T N i = 2 → 28 < σ 1 5 → ¬ isF T N m i := fun q z y => by
    rw [C.w q] at z
    exact absurd (Int.ofNat_lt.mp z) (Nat.not_lt.mpr y.2)
  have yes : kdI T N i = 2 → ¬ σ 1 5 < ((29 - m : Nat) : Int) → ¬ 28 < σ 1 5 → isF T N m i := fun q z y => by
    rw [C.w q] at z y
    exact f_yes z y
  refine vc94r3r15_0 ⟨fun z3 => ⟨fun z2 => ?_, fun z2 => ⟨fun a => ?_, fun a => ⟨fun b => ?_, fun b => ?_⟩⟩⟩, fun z3 => ⟨fun z2 => ?_, fun z2 => ⟨fun a => ?_, fun a => ⟨fun b => ?_, fun b => ?_⟩⟩⟩⟩
  · rw [e4] at z3 z2
    exact st 0 0 (fun y => absurd y z3) (fun _ => rfl) (fun y => absurd y (nw z2)) (fun _ => rfl)
  · rw [e4] at z3 z2
    exact st 0 0 (fun y => absurd y z3) (fun _ => rfl) (fun y => absurd y (lo z2 a)) (fun _ => rfl)
  · rw [e4] at z3 z2
    exact st 0 0 (fun y => absurd y z3) (fun _ => rfl) (fun y => absurd y (hi z2 b)) (fun _ => rfl)
  · rw [e4] at z3 z2
    exact st 0 1 (fun y => absurd y z3) (fun _ => rfl) (fun _ => rfl) (fun y => absurd (yes z2 a b) y)
  · rw [e4] at z3 z2
    exact st 1 0 (fun _ => rfl) (fun y => absurd z3 y) (fun y => absurd y (nw z2)) (fun _ => rfl)
  · rw [e4] at z3 z2
    exact absurd (z3.symm.trans z2) (by decide)
  · rw [e4] at z3 z2
    exact absurd (z3.symm.trans z2) (by decide)
  · rw [e4] at z3 z2
    exact absurd (z3.symm.trans z2) (by decide)
theorem c_allS {X : mXX} {T : Nat → Int} {N m : Nat} (hm : m = 3 ∨ m = 7) : ∀ f, cAfS X T N m f ∧ cTfS X T N m f ∧ cLfS X T N m f
  | 0 => by
    have z : ∀ (k dep i : Nat) (P : pRow), ¬ 0 ≤ (pX T N m 0 k dep i P).1 := fun _ _ _ _ h => absurd h (by show ¬ (0 : Int) ≤ -1; decide)
    exact ⟨fun k dep i P _ _ _ _ _ _ h => absurd h (z _ _ _ _), fun dep i P _ _ _ _ _ h => absurd h (z _ _ _ _), fun k dep i P _ _ _ _ _ _ _ _ h => absurd h (z _ _ _ _)⟩
  | f + 1 => by
    obtain ⟨A, G, L⟩ := c_allS (X := X) (T := T) (N := N) (m := m) hm f
    have G' := c_partS hm A G
    refine ⟨?_, G', c_lS A L⟩
    intro k dep i P e σ α Q hk hp h0 he hq
    obtain ⟨d, rfl⟩ : ∃ d, e = d + 9 := ⟨e - 9, by omega⟩
    have oN := hp.2.1.1
    by_cases h4 : k = 4
    · subst h4
      refine vc93r3r15_0 ⟨fun z => absurd z (by decide), fun _ => G' dep i P (d + 8) σ α _ hp h0 (by clear h0 hq; omega) ⟨fun e σ2 α2 F2 E2 c l => ?_, fun e σ2 α2 F2 E2 c l => ?_⟩⟩
      · exact vc93r3r15_13 ⟨Or.inr rfl, hq.1 e σ2 α2 F2 E2 c l⟩
      · exact vc93r3r15_13 ⟨Or.inl rfl, hq.2 e σ2 α2 F2 E2 c l⟩
    · have hl : k < 4 := Nat.lt_of_le_of_ne hk h4
      have hli : (k : Int) < 4 := Int.ofNat_lt.mpr hl
      rw [px_l hl] at h0 hq
      have h1 := th_p h0
      have b := px_b (T := T) (N := N) (m := m) f (k + 1) dep i P
      have bb := cr_b oN hp.2.2.2.2.1 hp.2.2.2.2.2.1 b.1
      have ek := wrS (k := k) (by clear h0 hq h1 bb; omega)
      refine vc93r3r15_0 ⟨fun _ => ?_, fun z => absurd hli z⟩
      rw [ek]
      refine A (k + 1) dep i P (d + 8) σ α _ hl hp h1 (by clear h0 hq h1 bb ek; omega) ?_
      generalize pX T N m f (k + 1) dep i P = r at *
      refine ⟨fun e σ2 α2 F2 E2 c l => ?_, fun e σ2 α2 F2 E2 e6 b2 => ?_⟩
      · rw [th_0 e] at h0 hq
        have go : ∀ v : Int, v = (if k = 1 then (1 : Int) else 1000) → Go X (d + 8) 93 47 [some (vR 3), some (vR 15), some (vI ((29 - m : Nat) : Int)), some (vI (k : Int)), some (vI (dep : Int)), some (vI v), some (vI 0), none] [] (S0, σ2, α2) (0, 0) Q := by
          intro v hv
          rw [hv]
          exact L k dep r.2.1 r.2.2 (d + 8) 0 none σ2 α2 Q (Nat.lt_succ_iff.mp hl) (hp.goS E2 c l bb.1 bb.2.1 hp.2.2.2.2.2.2) h0 (by clear h0 hq h1 bb ek hv; omega) (Nat.zero_le _) (fun _ => rfl) (hq.mv F2 E2)
        refine vc93r3r15_25 ⟨fun _ => ⟨fun z => go 1000 (if_neg (fun y => z (by rw [y]; rfl))).symm, fun z => go 1 (if_pos (Int.ofNat.inj z)).symm⟩, fun y => absurd y (by decide)⟩
      · rw [th_n e] at hq
        exact vc93r3r15_25 ⟨fun y => absurd rfl y, fun _ => hq.2 e σ2 α2 F2 E2 e6 b2⟩
/-- the class reads a law whole -/
theorem c_lawS {X : mXX} {d : Nat} {Q : Option mV → mS → Prop} {σ α : Nat → Nat → Int} {T : Nat → Int} {N m i : Nat} {v : Int} (hm : m = 3 ∨ m = 7) (hv : v = ((29 - m : Nat) : Int)) (hT : α 2 = T) (ok : okT T N) (C : CTk σ T N i) (ne : NE T N i) (e2 : σ 15 2 = 0) (hq : cLPost 15 16 T N (lwX T N m i) σ α Q) : Ca X (d + 80) 93 [vR 3, vR 15, vI v, vI 0, vI 0] (S0, σ, α) Q := by
  have lo := lw_ok (T := T) (N := N) (i := i) hm ok.1 ne
  rw [hv]
  exact (c_allS hm 20000).1 0 0 i [] (d + 80) σ α Q (by decide) ⟨hT, ok, C, ⟨e2, trivial⟩, Nat.zero_le _, ne, by decide⟩ lo.1 (by omega) hq
