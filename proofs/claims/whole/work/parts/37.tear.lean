/-! What tears -/
theorem smF_cg {F G : Nat → Int} {a : Nat} : ∀ {n : Nat}, (∀ b, a ≤ b → b < a + n → F b = G b) → smF F a n = smF G a n
  | 0, _ => rfl
  | n + 1, h => by
    unfold smF
    rw [smF_cg (n := n) (fun b p q => h b p (by omega)), h (a + n) (by omega) (by omega)]
theorem bfC.cg {α : Nat → Nat → Int} {F G : Nat → Int} {a n : Nat} (h : bfC α F a n) (e : ∀ b, a ≤ b → b < a + n → F b = G b) : bfC α G a n := fun j hj => by
  rw [h j hj]
  exact smF_cg (fun b p q => e b p (by omega))
theorem bfC.fr {α α' : Nat → Nat → Int} {F : Nat → Int} {a n : Nat} (h : bfC α F a n) (e : α' 85 = α 85) : bfC α' F a n := fun j hj => by rw [e]; exact h j hj
theorem up_f {f : Nat → Nat → Int} {a k : Nat} {n : Int} : mUp f a k n a = fun y => if y = k then n else f a y := by funext y; exact up_a
/-- the forces where the boats are, now -/
def fnR (ρ : Nat → Int) (P : List (Int × Int)) : Nat → Int := fcR ρ P 0 0 (ρ 3) 0
def tearR (ρ : Nat → Int) (P : List (Int × Int)) : Nat → Int := trR ρ (fnR ρ P) ((ρ 2).toNat - 1)
theorem wt01 {ρ F : Nat → Int} {k : Nat} : wtR ρ F k = 0 ∨ wtR ρ F k = 1 := by unfold wtR; split <;> simp
theorem tr_F {ρ : Nat → Int} {F : Nat → Int} {P : List (Int × Int)} {dx dy h g : Int} {m b : Nat} (hb : b < 7) : fcR (trR ρ F m) P dx dy h g b = fcR ρ P dx dy h g b := fc_tr hb (fun j hj => trR_o (by omega))
theorem CI.tr {σ α α' : Nat → Nat → Int} {ρ ρ' : Nat → Int} {P W : List (Int × Int)} (C : CI σ α ρ P W) (f : Fα [47] α α') (ho : ∀ j, ¬ (292 ≤ j ∧ j < 310 ∧ (j - 292) % 3 = 0) → ρ' j = ρ j) (hw : ρ 2 ≤ 7) (hl : ∀ k, k < 6 → α' 47 k = ρ' (292 + 3 * k)) : CI σ α' ρ' P W := by
  obtain ⟨R, l1, l2, k⟩ := C
  refine ⟨R.tr f ho hw hl, ?_, ?_, ?_⟩
  · rw [f 35 (by decide)]; exact l1
  · rw [f 38 (by decide)]; exact l2
  · unfold Kn; rw [f 82 (by decide)]; exact k
theorem c_tear {X : mXX} {d : Nat} {Q : Option mV → mS → Prop} {σ α : Nat → Nat → Int} {ρ : Nat → Int} {P W : List (Int × Int)} (C : CI σ α ρ P W) (w : WF ρ) (o : lwO 3 P) (hQ : ∀ α', Fα [36, 47, 82, 83, 85] α α' → CI σ α' (tearR ρ P) P W → Q none (S0, σ, α')) : Ca X (d + 6) 20 [vR 84] (S0, σ, α) Q := by
  have h7 := w.n
  have r2 := C.1.2.2.1
  have r3 := C.1.2.2.2.2.2.1
  generalize hF : fnR ρ P = F at *
  have FB : ∀ b : Nat, (b : Int) < ρ 2 → 0 ≤ F b ∧ F b ≤ 99 := fun b hb => by rw [← hF]; exact fc_bd w hb
  refine vc20_0 ?_
  have key : ∀ (m t : Nat) (β : Nat → Nat → Int) (x2 x3 : Option mV), ((t + m : Nat) : Int) = ρ 2 → Fα [36, 47, 82, 83, 85] α β → CI σ β (trR ρ F (if (t : Int) < ρ 2 then fsN ρ t else t - 1)) P W → Go X (d + 5) 20 2 [some (vR 84), some (vI (t : Int)), x2, x3] [] (S0, σ, β) (0, 0) Q := by
    intro m
    induction m with
    | zero =>
      intro t β x2 x3 ht hf C'
      refine vc20_2 ⟨fun _ => hQ β hf ?_, fun q => by omega⟩
      rw [if_neg (by omega)] at C'
      unfold tearR
      rw [hF, show (ρ 2).toNat - 1 = t - 1 by omega]
      exact C'
    | succ m ih =>
      intro t β x2 x3 ht hf C'
      have tb : (t : Int) < ρ 2 := by omega
      rw [if_pos tb] at C'
      have fsp := fs_spec (ρ := ρ) t
      have lsp := la_spec (ρ := ρ) ((ρ 2).toNat - 1 - t) t
      have pt := prt_of tb
      have pn := part_n tb
      have q2 : trR ρ F (fsN ρ t) 2 = ρ 2 := trR_o (by omega)
      have wm : WF (trR ρ F (fsN ρ t)) := tr_wf w (by omega)
      have fe : fsN (trR ρ F (fsN ρ t)) t = fsN ρ t := by
        refine fs_uni fsp.1 (fun k k1 k2 => ?_) ?_
        · rw [trR_l, if_neg (by omega)]; exact fsp.2.1 k k1 k2
        · rcases fsp.2.2 with h | h
          · exact Or.inl h
          · refine Or.inr ?_
            rw [trR_l, if_neg (fun q => h q.2.1)]; exact h
      have le : laN (trR ρ F (fsN ρ t)) ((trR ρ F (fsN ρ t) 2).toNat - 1 - t) t = laN ρ ((ρ 2).toNat - 1 - t) t := by
        rw [q2]
        refine la_uni lsp.1 lsp.2.1 (fun k k1 k2 => ?_) ?_
        · rw [trR_l, if_neg (by omega)]; exact lsp.2.2.1 k k1 k2
        · rcases lsp.2.2.2 with h | h
          · exact Or.inl h
          · refine Or.inr ?_
            rw [trR_l, if_neg (fun q => h q.2.1)]; exact h
      refine vc20_2 ⟨fun q => by omega, fun _ => ?_⟩
      refine c_last C'.1 wm (by rw [q2]; omega) ?_
      unfold laR
      rw [Int.toNat_natCast, le]
      refine vc20_18 ⟨fun q => ?_, fun q => ?_⟩
      · rw [wr_of (by omega) (by omega), show (t : Int) + 1 = ((t + 1 : Nat) : Int) by omega]
        refine ih (t + 1) β _ _ (by omega) hf ?_
        rw [if_pos (by omega)]
        have : fsN ρ (t + 1) = fsN ρ t := by
          show (if ρ (292 + 3 * t) = 0 then fsN ρ t else t + 1) = fsN ρ t
          rw [if_pos (lsp.2.2.1 t (Nat.le_refl _) (by omega))]
        rw [this]
        exact C'
      · have lt : laN ρ ((ρ 2).toNat - 1 - t) t = t := by omega
        refine c_first C'.1 ⟨by omega, by omega⟩ ?_
        unfold fsR
        rw [Int.toNat_natCast, fe]
        generalize ha : fsN ρ t = a at *
        obtain ⟨n, hn⟩ : ∃ n, t + 1 = a + n := ⟨t + 1 - a, by omega⟩
        have hp : prt ρ a n := by
          have : szR ρ t = n := by omega
          rw [this] at pt; exact pt
        refine vc20_27 ?_
        rw [show (t : Int) = ((a + n - 1 : Nat) : Int) by omega, r3]
        refine c_weigh C' wm o (by rw [q2]; omega) (by omega) (fun b b1 b2 => ?_) (hrW w) ⟨by decide, by decide⟩ ?_
        · have hb := w.b (b := b) (by omega)
          rw [trR_o (by omega), trR_o (by omega)]
          have h1 := hb.2.1
          have h2 := hb.2.2.1
          omega
        intro γ hg C2 bf
        have bf' : bfC γ F a n := bf.cg (fun b b1 b2 => by rw [tr_F (by omega), ← hF]; rfl)
        refine vc20_44 ?_
        have inner : ∀ (m' k : Nat) (δ : Nat → Nat → Int), k + m' + 1 = a + n → a ≤ k → Fα [36, 47, 82, 83, 85] α δ → CI σ δ (trR ρ F k) P W → bfC δ F a n → Go X (d + 5) 20 46 [some (vR 84), some (vI ((a + n - 1 : Nat) : Int)), some (vI (a : Int)), some (vI (k : Int))] [] (S0, σ, δ) (0, 0) Q := by
          intro m'
          induction m' with
          | zero =>
            intro k δ hk ka hd C3 b3
            refine vc20_46 ⟨fun _ => ?_, fun q => by omega⟩
            rw [wr_of (by omega) (by omega), show ((a + n - 1 : Nat) : Int) + 1 = ((t + 1 : Nat) : Int) by omega]
            refine ih (t + 1) δ _ _ (by omega) hd ?_
            have kt : k = t := by omega
            by_cases hz : ((t + 1 : Nat) : Int) < ρ 2
            · rw [if_pos hz]
              have tn : ρ (292 + 3 * t) ≠ 0 := by
                rcases lsp.2.2.2 with h | h
                · omega
                · rw [lt] at h; exact h
              have e1 : fsN ρ (t + 1) = t + 1 := by
                show (if ρ (292 + 3 * t) = 0 then fsN ρ t else t + 1) = t + 1
                rw [if_neg tn]
              rw [e1, trR_s (k := 0)]
              have e2 : (fun j => if j = 292 + 3 * t then (if ρ j = 0 ∧ wtR ρ F t = 1 then 1 else ρ j) else trR ρ F t j) = trR ρ F t := by
                funext j
                by_cases hj : j = 292 + 3 * t
                · rw [if_pos hj, hj, if_neg (fun q => tn q.1), trR_n (by omega)]
                · rw [if_neg hj]
              rw [e2, ← kt]
              exact C3
            · rw [if_neg hz, show t + 1 - 1 = k by omega]
              exact C3
          | succ m' ih' =>
            intro k δ hk ka hd C3 b3
            refine vc20_46 ⟨fun q => by omega, fun _ => ?_⟩
            have wk : WF (trR ρ F k) := tr_wf w (by omega)
            refine c_excess (F := F) C3.1 wk (by omega) ⟨ka, by omega⟩ (fun b _ q => FB b (by omega)) b3 ?_
            have ee : exR (trR ρ F k) F a n k = exR ρ F a n k := by unfold exR; rw [trR_o (by omega)]
            have ew : wtR ρ F k = if 0 < exR ρ F a n k then 1 else 0 := by
              unfold wtR
              rw [hp.fs ka (by omega), hp.sz ka (by omega)]
            have ez : ρ (292 + 3 * k) = 0 := hp.2.2.1 k ka (by omega)
            rw [ee]
            have goN : ∀ v : Int, v = wtR ρ F k → Go X (d + 5) 20 46 [some (vR 84), some (vI ((a + n - 1 : Nat) : Int)), some (vI (a : Int)), some (vI ((k + 1 : Nat) : Int))] [] (S0, σ, mUp δ 47 k v) (0, 0) Q := by
              intro v hv
              refine ih' (k + 1) _ (by omega) (by omega) (hd.tr (Fα.up (by decide))) ?_ (b3.fr (up_o (by decide)))
              refine C3.tr (Fα.up (by decide)) (fun j hj => ?_) (by rw [trR_o (by omega)]; omega) (fun i hi => ?_)
              · rw [trR_s (k := 0)]
                exact if_neg (by omega)
              · rw [up_a, trR_l]
                by_cases hik : i = k
                · rw [if_pos hik, hik, ez]
                  rcases wt01 (ρ := ρ) (F := F) (k := k) with h | h
                  · rw [if_neg (by omega), hv, h]
                  · rw [if_pos ⟨by omega, rfl, h⟩, hv, h]
                · rw [if_neg hik, (C3.1.l hi).2.2, trR_l]
                  by_cases hq : i < k ∧ ρ (292 + 3 * i) = 0 ∧ wtR ρ F i = 1
                  · rw [if_pos hq, if_pos ⟨by omega, hq.2⟩]
                  · rw [if_neg hq, if_neg (fun z => hq ⟨by omega, z.2⟩)]
            refine vc20_66 ⟨fun q => ⟨mInA_n (by omega), ?_⟩, fun q => ⟨mInA_n (by omega), ?_⟩⟩
            · rw [Int.toNat_natCast, wr_of (by omega) (by omega), show (k : Int) + 1 = ((k + 1 : Nat) : Int) by omega]
              exact goN 0 (by rw [ew, if_neg q])
            · rw [Int.toNat_natCast, wr_of (by omega) (by omega), show (k : Int) + 1 = ((k + 1 : Nat) : Int) by omega]
              exact goN 1 (by rw [ew, if_pos q])
        exact inner (n - 1) a γ (by omega) (Nat.le_refl _) (hf.tr (hg.wk (by decide))) C2 bf'
  refine key (ρ 2).toNat 0 α none none (by omega) Fα.rf ?_
  have e0 : (if ((0 : Nat) : Int) < ρ 2 then fsN ρ 0 else 0 - 1) = 0 := by split <;> rfl
  rw [e0, tr_0]
  exact C
theorem m_links {X : mXX} {d : Nat} {Q : Option mV → mS → Prop} {σ α : Nat → Nat → Int} (w : WF (α 110)) (h : Q (some (vI (((α 110 2).toNat - 1 : Nat) : Int))) (S0, σ, α)) : Ca X (d + 2) 158 [vR 104] (S0, σ, α) Q := by
  have h7 := w.n
  refine vc158_0 ?_
  refine vc159_0 ?_
  refine vc158_4 ⟨fun q => ?_, fun q => ?_⟩
  · rw [show (((α 110 2).toNat - 1 : Nat) : Int) = 0 by omega] at h; exact h
  · refine vc159_0 ?_
    refine vc158_11 ?_
    rw [wr_of (by omega) (by omega), show α 110 2 - 1 = (((α 110 2).toNat - 1 : Nat) : Int) by omega]
    exact h
theorem ixL {k : Nat} (h : k < 6) : wr (wr (290 + wr (3 * (k : Int))) + 2) = ((292 + 3 * k : Nat) : Int) := by
  rw [wr_of (x := 3 * (k : Int)) (by omega) (by omega), wr_of (x := 290 + 3 * (k : Int)) (by omega) (by omega), wr_of (by omega) (by omega)]; omega
