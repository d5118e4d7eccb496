theorem c_find {X : mXX} {d : Nat} {Q : Option mV → mS → Prop} {σ α : Nat → Nat → Int} {ρ : Nat → Int} {P W : List (Int × Int)} {k : Nat} {f : Int} (C : CI σ α ρ P W) (w : WF ρ) (o : lwO 3 P) (hk : (k : Int) < ρ 2) (hQ : ∀ σ' α' r, Fσ SF σ σ' → Fα ZF α α' → CI σ' α' ρ P W → SNP ρ P (fsN ρ k) (szR ρ k) f r (α' 91) → Q (some (vI r)) (S0, σ', α')) : Ca X (d + 8) 34 [vR 90, vI (k : Int), vI f] (S0, σ, α) Q := by
  have k7 := w.m7 hk
  have f7 : 0 ≤ (k : Int) ∧ (k : Int) < 7 := by omega
  have p := prt_of hk
  have hz := p.2.1
  have hn := p.1
  refine vc34_0 ?_
  refine c_first C.1 f7 ?_
  rw [fR_e]
  refine vc34_9 ?_
  have sa : Fσ SF σ (mUp σ 90 9 ((fsN ρ k : Nat) : Int)) := Fσ.up (by decide)
  refine c_last (C.1.s0 sa) w ⟨f7.1, hk⟩ ?_
  rw [lR_e hk]
  generalize fsN ρ k = a at *
  generalize szR ρ k = n at *
  refine vc34_21 ?_
  have sb : Fσ SF σ (mUp (mUp σ 90 9 (a : Int)) 90 10 ((a + n - 1 : Nat) : Int)) := sa.tr (Fσ.up (by decide))
  have Cb := C.s0 sb
  have ha : (a : Int) < ρ 2 := by clear f7; omega
  have a7 := w.m7 ha
  have b9 : mUp (mUp σ 90 9 (a : Int)) 90 10 ((a + n - 1 : Nat) : Int) 90 9 = (a : Int) := by rw [up_n (by decide), up_s]
  have b10 : mUp (mUp σ 90 9 (a : Int)) 90 10 ((a + n - 1 : Nat) : Int) 90 10 = ((a + n - 1 : Nat) : Int) := up_s
  generalize mUp (mUp σ 90 9 (a : Int)) 90 10 ((a + n - 1 : Nat) : Int) = σb at *
  refine c_sortC (f := f) Cb.1 w hz hn b9 b10 ?_
  intro β hb so
  refine vc34_29 ?_
  refine c_fill93 ?_
  intro γ hg sg
  refine vc34_37 ?_
  have fbg : Fα ZF α γ := (hb.wk (by decide)).tr (hg.wk (by decide))
  have Cg : CI σb γ ρ P W := Cb.fr (Z := [87, 88, 92, 93]) ((hb.wk (by decide)).tr (hg.wk (by decide)))
  have so' : ∀ i, i < 64 → γ 92 i = gvC ρ a n f i := by rw [hg 92 (by decide)]; exact so
  have r := Cg.1.b ha
  have hw := w.b ha
  rw [b9]
  refine ⟨mInA_n a7, mInA_n a7, ?_⟩
  rw [Int.toNat_natCast, r.2.1, r.2.2.1, ixC (hw.x w) (hw.y w)]
  clear r hw
  have main : ∀ (m h B : Nat) (σ1 δ : Nat → Nat → Int) (x5 x6 : Option mV), h + m = 25 → Fσ [(90, 11)] σb σ1 → Fα ZF α δ → CI σ1 δ ρ P W → (∀ i, i < 64 → δ 92 i = gvC ρ a n f i) → LYR δ ρ P a n h B → σ1 90 11 = ((B + (LSn (mvC ρ P a n) (c0C ρ a) h).length : Nat) : Int) → (∀ h' c, h' < h → RS (mvC ρ P a n) (c0C ρ a) h' c → ¬ glC ρ a n f c) → Go X (d + 7) 34 81 [some (vR 90), some (vI (k : Int)), some (vI f), some (vI (B : Int)), some (vI (h : Int)), x5, x6] [] (S0, σ1, δ) (0, 0) Q := by
    intro m
    induction m with
    | zero =>
      intro h B σ1 δ x5 x6 hm hs hf Cd sd L s11 ng
      have e : h = 25 := hm
      subst e
      refine vc34_81 ⟨fun _ => hQ σ1 δ (-1) (sb.tr (hs.wk (by decide))) hf Cd (Or.inr ⟨fun h' c h1 => ng h' c (Nat.lt_succ_of_le h1), rfl⟩), fun q => absurd (by decide) q⟩
    | succ m ih =>
      intro h B σ1 δ x5 x6 hm hs hf Cd sd L s11 ng
      have h24 : ¬ (24 : Int) < (h : Int) := by clear f7; omega
      have hle : h ≤ 24 := by clear f7; omega
      have hm1 : h + 1 + m = 25 := by clear f7; omega
      have eh := wrS (k := h) (by clear f7; omega)
      obtain ⟨B', hB'⟩ : ∃ B', B + (LSn (mvC ρ P a n) (c0C ρ a) h).length = B' := ⟨_, rfl⟩
      have L4 := L.2.2.2
      rw [hB'] at L4 s11
      have s9' : σ1 90 9 = (a : Int) := (hs 90 9 (by decide)).trans b9
      have s10' : σ1 90 10 = ((a + n - 1 : Nat) : Int) := (hs 90 10 (by decide)).trans b10
      refine vc34_81 ⟨fun q => absurd q h24, fun _ => ?_⟩
      rw [s11]
      have scan : ∀ (l2 l1 : LY), l1 ++ l2 = LSn (mvC ρ P a n) (c0C ρ a) h → (∀ s, inL l1 s → ¬ glC ρ a n f s) → Go X (d + 7) 34 97 [some (vR 90), some (vI (k : Int)), some (vI f), some (vI (B : Int)), some (vI (h : Int)), some (vI (B' : Int)), some (vI ((B + l1.length : Nat) : Int))] [] (S0, σ1, δ) (0, 0) Q := by
        intro l2
        induction l2 with
        | nil =>
          intro l1 el nl
          rw [List.append_nil] at el
          rw [el] at nl
          have e1 : B + l1.length = B' := by rw [el]; exact hB'
          have ngh : ∀ h' c, h' < h + 1 → RS (mvC ρ P a n) (c0C ρ a) h' c → ¬ glC ρ a n f c := fun h' c h1 hr => by
            by_cases e : h' = h
            · rw [e] at hr; exact nl c (ls_rs.mpr hr)
            · exact ng h' c (Nat.lt_of_le_of_ne (Nat.le_of_lt_succ h1) e) hr
          rw [e1]
          refine vc34_97 ⟨fun _ => ?_, fun q => absurd q (Int.lt_irrefl _)⟩
          by_cases hlt : h < 24
          · have S0' : SPI σ1 δ ρ P a n h B' [] := by
              refine ⟨fun i q e => absurd e (by simp), fun t v e => absurd e List.not_mem_nil, fun t ht => ⟨?_, fun ⟨v, e⟩ => absurd e List.not_mem_nil, fun e => ?_⟩, ?_, List.nodup_nil, fun t ⟨v, e⟩ => absurd e List.not_mem_nil⟩
              · exact Int.le_trans (L.2.2.1 t ht) (Int.ofNat_le.mpr (Nat.le_succ h))
              · have z := L.2.2.1 t ht
                rw [e] at z
                exact absurd (Int.ofNat_le.mp z) (Nat.not_succ_le_self h)
              · rw [s11]; rfl
            refine c_fin2 (W := W) (σ := σ1) (α := δ) (l2 := LSn (mvC ρ P a n) (c0C ρ a) h) (l1 := []) w o hz hn s9' s10' hlt hB' L4 L.1 (fun σ2 ε y6 hs2 he Ce oe Se => ?_) sd σ1 δ (List.nil_append _) Fσ.rf Fα.rf Cd OLD.rf S0'
            rw [eh]
            have sl := Se.len
            refine ih (h + 1) B' σ2 ε _ y6 hm1 (hs.tr hs2) (hf.tr (he.wk (by decide))) Ce (by rw [he 92 (by decide)]; exact sd) ⟨Se.1, fun j u x hj hm2 => ?_, fun t ht => (Se.2.2.1 t ht).1, by clear f7; omega⟩ Se.2.2.2.1 ngh
            by_cases e : j = h
            · rw [e] at hm2 ⊢; exact Se.2.1 u x hm2
            · have jh : j < h := Nat.lt_of_le_of_ne (Nat.le_of_lt_succ hj) e
              have u6 : u < 64 := (rs_ok w hz hn (ls_rs.mp ⟨x, hm2⟩)).1
              rw [oe.2 _ (by clear f7; omega)]
              exact L.2.1 j u x jh hm2
          · have e24 : h = 24 := by clear f7; omega
            have hi : ¬ (h : Int) < 24 := by clear f7; omega
            have fin : ∀ y5 y6, Go X (d + 7) 34 81 [some (vR 90), some (vI (k : Int)), some (vI f), some (vI (B' : Int)), some (vI (wr ((h : Int) + 1))), y5, y6] [] (S0, σ1, δ) (0, 0) Q := by
              intro y5 y6
              rw [eh, e24]
              refine vc34_81 ⟨fun _ => hQ σ1 δ (-1) (sb.tr (hs.wk (by decide))) hf Cd (Or.inr ⟨fun h' c h1 => ngh h' c (by rw [e24]; exact Nat.lt_succ_of_le h1), rfl⟩), fun q => absurd (by decide) q⟩
            exact vc34_145 ⟨fun _ => fin _ _, fun _ => ⟨fun _ => fin _ _, fun q => absurd q hi⟩⟩
        | cons p l2 ihl =>
          intro l1 el nl
          have ei : (LSn (mvC ρ P a n) (c0C ρ a) h)[l1.length]? = some p := by
            rw [← el, List.getElem?_append_right (Nat.le_refl _), Nat.sub_self]; rfl
          have ll : l1.length < (LSn (mvC ρ P a n) (c0C ρ a) h).length := (List.getElem?_eq_some_iff.mp ei).1
          have i1 : B + l1.length < B' := by clear f7; omega
          have i1' : ((B + l1.length : Nat) : Int) < (B' : Int) := Int.ofNat_lt.mpr i1
          have i16 : B + l1.length < 1600 := by clear f7; omega
          have ek : wr (((B + l1.length : Nat) : Int) + 1) = ((B + (l1.length + 1) : Nat) : Int) := wrS (k := B + l1.length) (by clear f7 eh; omega)
          have pk := ls_ok w hz hn ei
          have ep := L.1 l1.length p ei
          refine vc34_97 ⟨fun q => absurd i1' q, fun _ => ⟨mInA_n i16, ?_⟩⟩
          rw [Int.toNat_natCast, ep]
          refine ⟨mInA_n pk.1, ?_⟩
          rw [Int.toNat_natCast, sd p.1 pk.1]
          refine ⟨fun q => ?_, fun q => ⟨mInA_n i16, ?_⟩⟩
          · rw [ek]
            have e3 : (l1 ++ [p]).length = l1.length + 1 := by rw [List.length_append]; rfl
            have r := ihl (l1 ++ [p]) (by rw [List.append_assoc]; exact el) (fun s hs2 => by
              rcases inL_app.mp hs2 with z | z
              · exact nl s z
              · have e : s = p.1 := inL_one.mp z
                rw [e]
                exact fun z2 => q ((gv2 pk.2.1).mpr z2))
            rw [e3] at r
            exact r
          · have gp : glC ρ a n f p.1 := (gv2 pk.2.1).mp q
            have ldh : LD (mvC ρ P a n) (c0C ρ a) (glC ρ a n f) h h p.1 := LD_H.mpr ⟨pk.2.2, gp⟩
            have ld0 : LD (mvC ρ P a n) (c0C ρ a) (glC ρ a n f) h 0 (c0C ρ a) := by
              obtain ⟨c', z1, z2⟩ := LD_0 (d := 0) (Nat.zero_le h) (by rw [Nat.sub_zero]; exact ldh) (by rw [Nat.sub_zero]; exact pk.2.2)
              rw [z2] at z1; exact z1
            have gin : ∀ i c x, i ≤ h → GP (mvC ρ P a n) (c0C ρ a) (glC ρ a n f) h i c x → (c, x) ∈ LSn (mvC ρ P a n) (c0C ρ a) i := fun i c x hi2 hg2 => by
              obtain ⟨c', x', r1, r2, g2, _, e2, _⟩ := GP_ls ld0 hi2
              have u := GP_u hg2 g2
              rw [u.1, u.2, e2]
              exact List.mem_append.mpr (Or.inr List.mem_cons_self)
            obtain ⟨c', x', r1, r2, g2, ld2, e2, n2⟩ := GP_ls ld0 (Nat.le_refl h)
            have pe : p = (c', x') := first_u (D := LD (mvC ρ P a n) (c0C ρ a) (glC ρ a n f) h h) ldh ld2 (fun s hs2 z => nl s hs2 (LD_H.mp z).2) n2 (el.trans e2)
            rw [pe]
            refine c_trace (P := P) (n := n) (gl := glC ρ a n f) w hz hn hle g2 (fun j u x hj hm2 => L.2.1 j u x hj hm2) gin ?_
            intro ε he T
            refine vc34_133 ?_
            refine hQ σ1 ε _ (sb.tr (hs.wk (by decide))) (hf.tr (he.wk (by decide))) (Cd.fr he) (Or.inl ⟨h, hle, rfl, ⟨p.1, pk.2.2, gp⟩, ng, T⟩)
      exact scan _ [] (List.nil_append _) (fun s ⟨v, e⟩ => absurd e List.not_mem_nil)
  have hfz : Fα ZF α (mUp γ 94 0 ((c0C ρ a : Nat) : Int)) := fbg.tr (Fα.up (by decide))
  refine main 25 0 0 _ _ none none (Nat.zero_add _) (Fσ.up (by decide)) hfz ((Cg.fr (Z := [94]) (Fα.up (by decide))).s0 (Z := [(90, 11)]) (Fσ.up (by decide))) (by rw [up_o (by decide)]; exact so') ⟨fun i q e => ?_, fun j u x hj => absurd hj (Nat.not_lt_zero j), fun t ht => ?_, Nat.le_refl _⟩ up_s (fun h' c hh => absurd hh (Nat.not_lt_zero h'))
  · have e' : ([(c0C ρ a, 0)] : LY)[i]? = some q := e
    rcases i with _ | i
    · have : (c0C ρ a, 0) = q := by simpa using e'
      rw [← this]
      exact up_s
    · exact absurd e' (by simp)
  · rw [up_o (by decide), sg t ht]; exact Int.le_refl _
