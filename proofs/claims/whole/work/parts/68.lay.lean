/-! The class lays all orders -/
theorem Rep.sg {σ σ' α : Nat → Nat → Int} {ρ : Nat → Int} (R : Rep σ α ρ) (h : ∀ k, σ' 23 k = σ 23 k) (h1 : σ' 40 1 = σ 40 1) : Rep σ' α ρ := by
  unfold Rep
  rw [h 0, h 1, h 2, h 3, h 4, h1]
  exact R
theorem Rep.s7 {σ σ' α : Nat → Nat → Int} {ρ : Nat → Int} (R : Rep σ α ρ) (h : Fσ [(100, 7)] σ σ') : Rep σ' α ρ := R.sg (fun k => h 23 k (by simp)) (h 40 1 (by decide))
theorem fw_up {ρ : Nat → Int} {P : List (Int × Int)} {row : Nat → Int} {pl : Nat} {v : Int} {b : Nat} (h : b < pl) : fwR ρ P (upR row pl v) b = fwR ρ P row b := by
  unfold fwR
  rw [upR_n (Nat.ne_of_lt h)]
theorem fw_at {ρ : Nat → Int} {P : List (Int × Int)} {row : Nat → Int} {pl : Nat} {v : Int} : fwR ρ P (upR row pl v) pl = frR ρ P v (ρ (203 + 12 * pl)) (ρ (204 + 12 * pl)) (ρ 3) 0 := by
  unfold fwR
  rw [upR_s]
theorem ixS {p b : Nat} (hp : p < 7) (hb : b < 7) : wr (wr ((p : Int) * 7) + (b : Int)) = ((7 * p + b : Nat) : Int) := by
  rw [wr_of (x := (p : Int) * 7) (by omega) (by omega), wr_of (by omega) (by omega)]; omega
def FCS (α : Nat → Nat → Int) (ρ : Nat → Int) (P : List (Int × Int)) (n : Nat) : Prop := ∀ p b : Nat, p < n → b < n → α 101 (7 * p + b) = frR ρ P b (ρ (203 + 12 * p)) (ρ (204 + 12 * p)) (ρ 3) 0
theorem nld {x : Int} {n : Nat} (h : 0 ≤ x ∧ x ≤ 99 * (n : Int)) (hn : n ≤ 7) : -1000000 ≤ x ∧ x ≤ 1000000 := by omega
theorem nlf2 {x : Int} (h : 0 ≤ x ∧ x ≤ 99) : -1000000 ≤ x ∧ x ≤ 1000000 := by omega
theorem c_lay {X : mXX} {ρ : Nat → Int} {P : List (Int × Int)} {n : Nat} (w : WF ρ) (hn : ρ 2 = (n : Int)) (h2 : 2 ≤ n) : ∀ (r d pl : Nat) (used : Int) (row : Nat → Int) (s : ST) (σ α : Nat → Nat → Int) (Q : Option mV → mS → Prop), pl + r = n → 0 ≤ used ∧ used < 128 → rwB ρ row pl → Rep σ α ρ → (∀ i, i < pl → α 102 i = row i) → bfC α (fwR ρ P row) 0 pl → FCS α ρ P n → SC σ α n s → -1000 ≤ s.1 → (∀ σ' α', Fσ [(100, 7)] σ σ' → Fα [85, 102, 103] α α' → (∀ i, i < pl → α' 102 i = row i) → bfC α' (fwR ρ P row) 0 pl → SC σ' α' n (lyF n (jdR ρ P n) r pl used row s) → -1000 ≤ (lyF n (jdR ρ P n) r pl used row s).1 → Q none (S0, σ', α')) → Ca X (d + r + 4) 63 [vR 100, vI (pl : Int), vI used] (S0, σ, α) Q := by
  have n7 : n ≤ 7 := by have := w.2.2.1.2; omega
  intro r
  induction r with
  | zero =>
    intro d pl used row s σ α Q hp hu rb R h1 bf fc S sg hQ
    have e : pl = n := hp
    subst e
    have r2 : σ 23 2 = (pl : Int) := R.2.2.1.trans hn
    refine vc63_0 ⟨fun q => absurd q (by rw [r2]; exact Int.lt_irrefl _), fun _ => ?_⟩
    refine c_judge (P := P) (row := row) (s := s) R w hn h2 rb h1 bf S sg ?_
    intro σ' α' hs ha S'
    refine vc63_15 ?_
    refine hQ σ' α' hs (ha.wk (by decide)) (by rw [ha 102 (by decide)]; exact h1) (bf.fr (ha 85 (by decide))) S' ?_
    show -1000 ≤ (jdR ρ P pl row s).1
    by_cases q : ovR ρ P pl row < s.1
    · rw [jd_y q]
      exact (mx_b (k := pl - 1) w n7 (fw_bd (P := P) w rb) (by clear q; omega) (by clear q; omega)).1
    · rw [jd_n q]; exact sg
  | succ r ih =>
    intro d pl used row s σ α Q hp hu rb R h1 bf fc S sg hQ
    have pn : pl < n := by omega
    have p7 : pl < 7 := by omega
    have pl7 : pl ≤ 7 := by omega
    have pr : pl + 1 + r = n := by omega
    have pi : (pl : Int) < (n : Int) := by omega
    have r2 : σ 23 2 = (n : Int) := R.2.2.1.trans hn
    refine vc63_0 ⟨fun _ => ?_, fun q => absurd (by rw [r2]; exact pi) q⟩
    generalize hf0 : (fun (b : Nat) (t : ST) => if iAnd used (iShl 1 (b : Int)) = 0 then lyF n (jdR ρ P n) r (pl + 1) (iOr used (iShl 1 (b : Int))) (upR row pl (b : Int)) t else t) = f
    have fe : lyF n (jdR ρ P n) (r + 1) pl used row s = lpB f n s := by rw [← hf0]; rfl
    rw [fe] at hQ
    have key : ∀ (m b : Nat) (σ1 γ : Nat → Nat → Int), b + m = n → Fσ [(100, 7)] σ σ1 → Fα [85, 102, 103] α γ → (∀ i, i < pl → γ 102 i = row i) → bfC γ (fwR ρ P row) 0 pl → SC σ1 γ n (lpB f b s) → -1000 ≤ (lpB f b s).1 → Go X (d + r + 4) 63 18 [some (vR 100), some (vI (pl : Int)), some (vI used), some (vI (b : Int))] [] (S0, σ1, γ) (0, 0) Q := by
      intro m
      induction m with
      | zero =>
        intro b σ1 γ hb hs hf g1 gb gS gg
        have e : b = n := hb
        subst e
        have r21 : σ1 23 2 = (b : Int) := (hs 23 2 (by decide)).trans r2
        exact vc63_18 ⟨fun _ => hQ σ1 γ hs hf g1 gb gS gg, fun q => absurd q (by rw [r21]; exact Int.lt_irrefl _)⟩
      | succ m ihm =>
        intro b σ1 γ hb hs hf g1 gb gS gg
        have bn : b < n := by clear gg sg; omega
        have bi : (b : Int) < (n : Int) := by clear gg sg; omega
        have b7 : b < 7 := by clear gg sg; omega
        have bm : b + 1 + m = n := by clear gg sg; omega
        have i49 : 7 * pl + b < 49 := by clear gg sg; omega
        have ek := wrS (k := b) (by clear gg sg; omega)
        have ep := wrS (k := pl) (by clear gg sg ek; omega)
        have r21 : σ1 23 2 = (n : Int) := (hs 23 2 (by decide)).trans r2
        have R1 : Rep σ1 γ ρ := (R.s7 hs).fr hf
        have bs := bitS' hu b7
        have ls : lpB f (b + 1) s = f b (lpB f b s) := rfl
        refine vc63_18 ⟨fun q => absurd (by rw [r21]; exact bi) q, fun _ => ⟨fun q => ?_, fun q => ?_⟩⟩
        · refine vc63_75 ?_
          rw [ek]
          have es : lpB f (b + 1) s = lpB f b s := by rw [ls, ← hf0]; exact if_neg q
          refine ihm (b + 1) σ1 γ bm hs hf g1 gb ?_ ?_
          · rw [es]; exact gS
          · rw [es]; exact gg
        · have es : lpB f (b + 1) s = lyF n (jdR ρ P n) r (pl + 1) (iOr used (iShl 1 (b : Int))) (upR row pl (b : Int)) (lpB f b s) := by rw [ls, ← hf0]; exact if_pos q
          refine ⟨mInA_n p7, ?_⟩
          rw [ixS p7 b7]
          refine ⟨mInA_n i49, ?_⟩
          have bb : 0 ≤ (b : Int) ∧ (b : Int) < ρ 2 := ⟨Int.natCast_nonneg b, by rw [hn]; exact bi⟩
          have g101 : γ 101 = α 101 := hf 101 (by decide)
          have fcv := fc pl b pn bn
          have fb := fr_bd (ρ := ρ) (P := P) (b := (b : Int)) (x := ρ (203 + 12 * pl)) (y := ρ (204 + 12 * pl)) (h := ρ 3) (g := 0) (pul_le w bb).1
          have sb := smF_bd (F := fwR ρ P row) (a := 0) (n := pl) (fun i _ hi => fw_bd (P := P) w rb i (by rw [Nat.zero_add] at hi; exact hi))
          have bp := gb pl (Nat.le_refl _)
          rw [Nat.zero_add] at bp
          rw [Int.toNat_natCast, Int.toNat_natCast, g101, fcv]
          refine c_load p7 ?_ (nlf2 fb) ?_
          · rw [up_o (by decide), bp]; exact nld sb pl7
          rw [up_o (x := 85) (by decide), bp]
          refine vc63_63 ?_
          rw [ep]
          have fz : Fα [85, 102, 103] γ (mUp (mUp γ 102 pl (b : Int)) 85 (pl + 1) (smF (fwR ρ P row) 0 pl + frR ρ P (b : Int) (ρ (203 + 12 * pl)) (ρ (204 + 12 * pl)) (ρ 3) 0)) := (Fα.up (by decide)).tr (Fα.up (by decide))
          have rb' : rwB ρ (upR row pl (b : Int)) (pl + 1) := fun i hi => by
            by_cases e : i = pl
            · rw [e, upR_s]; exact bb
            · rw [upR_n e]; exact rb i (Nat.lt_of_le_of_ne (Nat.le_of_lt_succ hi) e)
          refine ih d (pl + 1) (iOr used (iShl 1 (b : Int))) (upR row pl (b : Int)) (lpB f b s) σ1 _ _ pr bs.2 rb' (R1.fr fz) (fun i hi => ?_) (fun j hj => ?_) (fun p c hp hc => ?_) ⟨gS.1, fun z i hi => ?_⟩ gg ?_
          · rw [up_o (by decide), up_a]
            by_cases e : i = pl
            · rw [if_pos e, e, upR_s]
            · rw [if_neg e, upR_n e]; exact g1 i (Nat.lt_of_le_of_ne (Nat.le_of_lt_succ hi) e)
          · rw [Nat.zero_add, up_a]
            by_cases e : j = pl + 1
            · rw [if_pos e, e]
              show _ = smF (fwR ρ P (upR row pl (b : Int))) 0 pl + fwR ρ P (upR row pl (b : Int)) (0 + pl)
              rw [Nat.zero_add, fw_at, smF_cg (F := fwR ρ P (upR row pl (b : Int))) (G := fwR ρ P row) (a := 0) (n := pl) (fun i _ hi => fw_up (by rw [Nat.zero_add] at hi; exact hi))]
            · rw [if_neg e, up_o (by decide)]
              have hj' : j ≤ pl := Nat.le_of_lt_succ (Nat.lt_of_le_of_ne hj e)
              have gj := gb j hj'
              rw [Nat.zero_add] at gj
              rw [gj]
              exact (smF_cg (fun i _ hi => fw_up (by rw [Nat.zero_add] at hi; exact Nat.lt_of_lt_of_le hi hj'))).symm
          · rw [up_o (by decide), up_o (by decide), g101]; exact fc p c hp hc
          · rw [up_o (by decide), up_o (by decide)]; exact gS.2 z i hi
          · intro σ2 δ hs2 hd d1 db dS dg
            refine vc63_75 ?_
            rw [ek]
            refine ihm (b + 1) σ2 δ bm (hs.tr hs2) (hf.tr (fz.tr hd)) (fun i hi => ?_) (fun j hj => ?_) ?_ ?_
            · rw [d1 i (Nat.lt_succ_of_lt hi), upR_n (Nat.ne_of_lt hi)]
            · rw [db j (Nat.le_succ_of_le hj)]
              exact smF_cg (fun i _ hi => fw_up (by rw [Nat.zero_add] at hi; exact Nat.lt_of_lt_of_le hi hj))
            · rw [es]; exact dS
            · rw [es]; exact dg
    exact key n 0 σ α (Nat.zero_add n) Fσ.rf Fα.rf h1 bf S sg
