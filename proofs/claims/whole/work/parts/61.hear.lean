def cnR (ρ : Nat → Int) (v : Nat) : Int := ftN ρ 0 (wxR (v : Int)) (wyR (v : Int)) (ρ 2).toNat
def wsR (ρ : Nat → Int) (P W : List (Int × Int)) (b v : Nat) : Int := wvR ρ P W b (ρ (203 + 12 * b) + wxR (v : Int)) (ρ (204 + 12 * b) + wyR (v : Int))
theorem ws_bd {ρ : Nat → Int} {P W : List (Int × Int)} {b v : Nat} : 0 ≤ wsR ρ P W b v ∧ wsR ρ P W b v ≤ 99 := wv_bd
theorem cn01 {ρ : Nat → Int} {v : Nat} : cnR ρ v = 0 ∨ cnR ρ v = 1 := ft01
theorem cn_in {ρ : Nat → Int} {v b : Nat} (w : WF ρ) (h : cnR ρ v = 1) (hb : (b : Int) < ρ 2) : (0 ≤ ρ (203 + 12 * b) + wxR (v : Int) ∧ ρ (203 + 12 * b) + wxR (v : Int) < 8) ∧ 0 ≤ ρ (204 + 12 * b) + wyR (v : Int) ∧ ρ (204 + 12 * b) + wyR (v : Int) < 8 := by
  have h2 : b < 0 + (ρ 2).toNat := by rw [Nat.zero_add]; exact ltN hb
  obtain ⟨i1, i2, i3, i4, -⟩ := wa_in (ft_all h b (Nat.zero_le _) h2)
  exact ⟨⟨i1, Int.lt_of_lt_of_le i2 w.1.2⟩, i3, Int.lt_of_lt_of_le i4 w.2.1.2⟩
theorem ft_z {ρ : Nat → Int} (w : WF ρ) : ∀ {n : Nat}, (n : Int) ≤ ρ 2 → ftN ρ 0 0 0 n = 1
  | 0, _ => rfl
  | n + 1, h => by
    have hb : (n : Int) < ρ 2 := by omega
    unfold ftN
    rw [Nat.zero_add, Int.add_zero, Int.add_zero, (w.b hb).wa, if_neg (by decide)]
    exact ft_z w (by omega)
theorem cn_0 {ρ : Nat → Int} (w : WF ρ) : cnR ρ 0 = 1 := by
  have := w.2.2.1.1
  show ftN ρ 0 0 0 (ρ 2).toNat = 1
  exact ft_z w (by omega)
theorem m_canAll {X : mXX} {d : Nat} {Q : Option mV → mS → Prop} {σ α : Nat → Nat → Int} {v : Nat} (w : WF (α 110)) (hp : 0 < α 110 2) (hQ : Q (some (vI (cnR (α 110) v))) (S0, σ, α)) : Ca X (d + 4) 204 [vR 104, vI (v : Int)] (S0, σ, α) Q := by
  have w2 := w.2.2.1
  have ez : wr (α 110 2 - 1) = ((0 + (α 110 2).toNat : Nat) : Int) - 1 := by rw [wr_of (by omega) (by omega)]; omega
  have hn : 0 < (α 110 2).toNat := by omega
  have n0 := n_z w2.1
  refine vc204_0 ?_
  refine vc159_0 ?_
  refine vc204_6 ?_
  refine m_stepX ?_
  refine vc204_12 ?_
  refine m_stepY ?_
  refine vc204_16 ?_
  rw [ez]
  refine m_canBe (a := 0) (n := (α 110 2).toNat) w (by rw [n0]; exact Int.le_refl _) rfl hn ?_
  have e : cbR (α 110) 0 (α 110 2).toNat (wxR (v : Int)) (wyR (v : Int)) = cnR (α 110) v := by
    have b1 := wx_bd (v := (v : Int))
    have b2 := wy_bd (v := (v : Int))
    refine if_pos ?_
    generalize wxR (v : Int) = p at *
    generalize wyR (v : Int) = q at *
    clear n0 ez
    omega
  rw [e]
  exact vc204_19 ⟨cn01, hQ⟩
def HRD (α : Nat → Nat → Int) (ρ : Nat → Int) (P W : List (Int × Int)) (m : Nat) : Prop := ∀ v, v < m → α 97 v = cnR ρ v ∧ (cnR ρ v = 1 → ∀ b : Nat, (b : Int) < ρ 2 → α 98 (5 * b + v) = wsR ρ P W b v)
theorem ixW {b v : Nat} (hb : b < 7) (hv : v < 5) : wr (wr ((b : Int) * 5) + (v : Int)) = ((5 * b + v : Nat) : Int) := by
  rw [wr_of (x := (b : Int) * 5) (by omega) (by omega), wr_of (by omega) (by omega)]; omega
def ZH : List Nat := [36, 39, 82, 83, 97, 98, 99]
theorem c_hea2 {X : mXX} {d : Nat} {Q : Option mV → mS → Prop} {σ α : Nat → Nat → Int} {ρ : Nat → Int} {P W : List (Int × Int)} {v N : Nat} (w : WF ρ) (o : lwO 3 P) (ow : lwO 7 W) (v5 : v < 5) (hN : (N : Int) = ρ 2) (hQ : ∀ γ x2, Fα ZH α γ → CI σ γ ρ P W → HRD γ ρ P W (v + 1) → Go X (d + 4) 28 2 [some (vR 96), some (vI (wr ((v : Int) + 1))), x2] [] (S0, σ, γ) (0, 0) Q) : ∀ (m b : Nat) (γ : Nat → Nat → Int), b + m = N → Fα ZH α γ → CI σ γ ρ P W → HRD γ ρ P W v → γ 97 v = cnR ρ v → (cnR ρ v = 1 → ∀ i, i < b → γ 98 (5 * i + v) = wsR ρ P W i v) → Go X (d + 4) 28 42 [some (vR 96), some (vI (v : Int)), some (vI (b : Int))] [] (S0, σ, γ) (0, 0) Q := by
  have hv : 0 ≤ (v : Int) ∧ (v : Int) < 5 := by omega
  intro m
  induction m with
  | zero =>
    intro b γ hb hf C H h1 h2
    have e : b = N := hb
    subst e
    have r2 := C.1.2.2.1
    have nb : ¬ (b : Int) < ρ 2 := by omega
    refine vc28_42 ⟨fun _ => hQ γ _ hf C (fun u hu => ?_), fun q => absurd q (by rw [r2]; exact nb)⟩
    by_cases h : u = v
    · rw [h]; exact ⟨h1, fun c i hi => h2 c i (by omega)⟩
    · exact H u (by omega)
  | succ m ih =>
    intro b γ hb hf C H h1 h2
    have hb2 : (b : Int) < ρ 2 := by omega
    have b7 := w.m7 hb2
    have bm : b + 1 + m = N := by omega
    have ek := wrS (k := b) (by omega)
    have i35 : 5 * b + v < 35 := by omega
    have r2 := C.1.2.2.1
    refine vc28_42 ⟨fun q => absurd (by rw [r2]; exact hb2) q, fun _ => ⟨mInA_n v5, ?_⟩⟩
    rw [Int.toNat_natCast, h1]
    refine ⟨fun q => ?_, fun q => ⟨mInA_n b7, mInA_n v5, mInA_n b7, mInA_n v5, ?_⟩⟩
    · refine hQ γ _ hf C (fun u hu => ?_)
      by_cases h : u = v
      · rw [h]; exact ⟨h1, fun c => by rw [q] at c; exact absurd c (by decide)⟩
      · exact H u (by omega)
    · have q1 := cn01.resolve_left q
      have inn := cn_in w q1 hb2
      have r := C.1.b hb2
      have hw := w.b hb2
      have ewx : wX v = wxR (v : Int) := wX_R hv
      have ewy : wY v = wyR (v : Int) := wY_R hv
      rw [Int.toNat_natCast, ewx, ewy, r.2.1, r.2.2.1, n8 inn.1, n8 inn.2, ixW b7 v5]
      refine c_wished C w o ow hb2 inn.1 inn.2 ?_
      intro δ hd Cd
      refine vc28_106 ⟨mInA_n i35, ?_⟩
      rw [Int.toNat_natCast, ek]
      have e97 : δ 97 = γ 97 := hd 97 (by decide)
      have e98 : δ 98 = γ 98 := hd 98 (by decide)
      refine ih (b + 1) _ bm ((hf.tr (hd.wk (by decide))).tr (Fα.up (by decide))) (Cd.fr (Z := [98]) (Fα.up (by decide))) (fun u hu => ⟨?_, fun c i hi => ?_⟩) ?_ (fun c i hi => ?_)
      · rw [up_o (by decide), e97]; exact (H u hu).1
      · rw [up_a, if_neg (by omega), e98]; exact (H u hu).2 c i hi
      · rw [up_o (by decide), e97]; exact h1
      · rw [up_a]
        by_cases h : i = b
        · rw [h, if_pos rfl]; rfl
        · rw [if_neg (by omega), e98]; exact h2 c i (by omega)
theorem c_hear {X : mXX} {d : Nat} {Q : Option mV → mS → Prop} {σ α : Nat → Nat → Int} {ρ : Nat → Int} {P W : List (Int × Int)} (C : CI σ α ρ P W) (w : WF ρ) (o : lwO 3 P) (ow : lwO 7 W) (hp : 0 < ρ 2) (hQ : ∀ α', Fα ZH α α' → CI σ α' ρ P W → HRD α' ρ P W 5 → Q none (S0, σ, α')) : Ca X (d + 5) 28 [vR 96] (S0, σ, α) Q := by
  have w2 := w.2.2.1
  have ez : wr (ρ 2 - 1) = ((0 + (ρ 2).toNat - 1 : Nat) : Int) := by rw [wr_of (by omega) (by omega)]; omega
  have hn : 0 < (ρ 2).toNat := by omega
  have n0 := n_z w2.1
  have hN : (((ρ 2).toNat : Nat) : Int) = ρ 2 := by omega
  refine vc28_0 ?_
  have key : ∀ (m v : Nat) (γ : Nat → Nat → Int) (x2 : Option mV), v + m = 5 → Fα ZH α γ → CI σ γ ρ P W → HRD γ ρ P W v → Go X (d + 4) 28 2 [some (vR 96), some (vI (v : Int)), x2] [] (S0, σ, γ) (0, 0) Q := by
    intro m
    induction m with
    | zero =>
      intro v γ x2 hv hf C' H
      have e : v = 5 := hv
      subst e
      exact vc28_2 ⟨fun _ => hQ γ hf C' H, fun q => absurd q (by decide)⟩
    | succ m ih =>
      intro v γ x2 hv hf C' H
      have v5 : v < 5 := by clear n0; omega
      have vl : (v : Int) < 5 := by clear n0; omega
      have hv5 : 0 ≤ (v : Int) ∧ (v : Int) < 5 := by clear n0; omega
      have vm : v + 1 + m = 5 := by clear n0; omega
      have ek := wrS (k := v) (by clear n0; omega)
      have r2 := C'.1.2.2.1
      have ewx : wX v = wxR (v : Int) := wX_R hv5
      have ewy : wY v = wyR (v : Int) := wY_R hv5
      have b1 := wx_bd (v := (v : Int))
      have b2 := wy_bd (v := (v : Int))
      have hd : (-1000 ≤ wxR (v : Int) ∧ wxR (v : Int) ≤ 1000) ∧ -1000 ≤ wyR (v : Int) ∧ wyR (v : Int) ≤ 1000 := ⟨⟨Int.le_trans (by decide) b1.1, Int.le_trans b1.2 (by decide)⟩, Int.le_trans (by decide) b2.1, Int.le_trans b2.2 (by decide)⟩
      refine vc28_2 ⟨fun q => absurd vl q, fun _ => ⟨mInA_n v5, mInA_n v5, ?_⟩⟩
      rw [Int.toNat_natCast, r2, ez, ewx, ewy]
      refine c_fits (a := 0) (n := (ρ 2).toNat) C'.1 w (by rw [n0]; exact Int.le_refl _) hn hd ?_
      refine vc28_39 ⟨mInA_n v5, ft01, ?_⟩
      rw [Int.toNat_natCast]
      refine c_hea2 (α := α) (N := (ρ 2).toNat) w o ow v5 hN (fun δ y2 hd Cd Hd => ?_) (ρ 2).toNat 0 _ (Nat.zero_add _) (hf.tr (Fα.up (by decide))) (C'.fr (Z := [97]) (Fα.up (by decide))) (fun u hu => ⟨?_, fun c i hi => ?_⟩) up_s (fun c i hi => absurd hi (Nat.not_lt_zero i))
      · rw [ek]; exact ih (v + 1) δ y2 vm hd Cd Hd
      · rw [up_a, if_neg (Nat.ne_of_lt hu)]; exact (H u hu).1
      · rw [up_o (by decide)]; exact (H u hu).2 c i hi
  exact key 5 0 α none (Nat.zero_add _) Fα.rf C (fun v hv => absurd hv (Nat.not_lt_zero v))
/-- wish -/
def wiB (ρ : Nat → Int) (b v : Int) : Prop := (0 ≤ b ∧ b < ρ 2) ∧ (0 ≤ v ∧ v ≤ 4)
def whR (ρ : Nat → Int) (P W : List (Int × Int)) (b v : Int) : Int := if (0 ≤ b ∧ b < ρ 2) ∧ (0 ≤ v ∧ v ≤ 4) then (if cnR ρ v.toNat = 1 then wsR ρ P W b.toNat v.toNat else -1) else -1
theorem c_wish {X : mXX} {d : Nat} {Q : Option mV → mS → Prop} {σ α : Nat → Nat → Int} {ρ : Nat → Int} {P W : List (Int × Int)} {b v : Int} (C : CI σ α ρ P W) (w : WF ρ) (o : lwO 3 P) (ow : lwO 7 W) (hQ : ∀ α', Fα ZH α α' → CI σ α' ρ P W → Q (some (vI (whR ρ P W b v))) (S0, σ, α')) : Ca X (d + 6) 111 [vR 0, vI b, vI v] (S0, σ, α) Q := by
  have r2 := C.1.2.2.1
  refine vc111_0 ?_
  refine c_hasBoat r2 ?_
  unfold whR at hQ
  by_cases hb : 0 ≤ b ∧ b < ρ 2
  · rw [show hbR ρ b = 1 from if_pos hb]
    by_cases hv : 0 ≤ v ∧ v ≤ 4
    · rw [if_pos ⟨hb, hv⟩] at hQ
      obtain ⟨n, hn⟩ := Int.eq_ofNat_of_zero_le hb.1
      obtain ⟨u, hu⟩ := Int.eq_ofNat_of_zero_le hv.1
      subst hn hu
      rw [Int.toNat_natCast, Int.toNat_natCast] at hQ
      have hp : 0 < ρ 2 := by omega
      have b7 := w.m7 hb.2
      have u5 : u < 5 := by omega
      have i35 : 5 * n + u < 35 := by omega
      refine vc111_8 ⟨fun q => absurd q (by decide), fun _ => ⟨fun q => absurd hv.1 (by omega), fun _ => ⟨fun _ => ?_, fun q => absurd hv.2 (by omega)⟩⟩⟩
      refine c_hear C w o ow hp ?_
      intro β hf Cb H
      have z := hQ β hf Cb
      refine vc111_29 ⟨mInA_n u5, ?_⟩
      rw [Int.toNat_natCast, (H u u5).1, ixW b7 u5]
      refine ⟨fun q => ?_, fun q => ⟨mInA_n i35, ?_⟩⟩
      · rw [if_neg (by rw [q]; decide)] at z; exact z
      · have q1 := cn01.resolve_left q
        rw [if_pos q1] at z
        rw [Int.toNat_natCast, (H u u5).2 q1 n hb.2]
        exact z
    · rw [if_neg (fun z => hv z.2)] at hQ
      have z := hQ α Fα.rf C
      exact vc111_8 ⟨fun q => absurd q (by decide), fun _ => ⟨fun _ => z, fun q => ⟨fun q2 => absurd (show 0 ≤ v ∧ v ≤ 4 by omega) hv, fun _ => z⟩⟩⟩
  · rw [if_neg (fun z => hb z.1)] at hQ
    rw [show hbR ρ b = 0 from if_neg hb]
    exact vc111_8 ⟨fun _ => hQ α Fα.rf C, fun q => absurd rfl q⟩
theorem m_wish {X : mXX} {d : Nat} {Q : Option mV → mS → Prop} {σ α : Nat → Nat → Int} {P W : List (Int × Int)} {b v : Int} (w : WF (α 110)) (l : lwM α 6 10 P) (o : lwO 3 P) (lw : lwW α W) (ow : lwO 7 W) (hQ : ∀ α', Fα [115, 116] α α' → Q (some (vI (whR (α 110) P W b v))) (S0, mUp σ 104 0 0, α')) : Ca X (d + 5) 203 [vR 104, vI b, vI v] (S0, σ, α) Q := by
  refine vc203_0 ?_
  refine m_isBoat ?_
  unfold whR at hQ
  by_cases hb : 0 ≤ b ∧ b < α 110 2
  · rw [show hbR (α 110) b = 1 from if_pos hb]
    refine vc203_10 ⟨fun q => absurd q (by decide), fun _ => ?_⟩
    refine m_within ?_
    by_cases hv : 0 ≤ v ∧ v ≤ 4
    · rw [if_pos ⟨hb, hv⟩] at hQ
      rw [wi1 hv]
      obtain ⟨n, hn⟩ := Int.eq_ofNat_of_zero_le hb.1
      obtain ⟨u, hu⟩ := Int.eq_ofNat_of_zero_le hv.1
      subst hn hu
      rw [Int.toNat_natCast, Int.toNat_natCast] at hQ
      have hp : 0 < α 110 2 := by omega
      refine vc203_19 ⟨fun q => absurd q (by decide), fun _ => ?_⟩
      refine m_canAll w hp ?_
      refine vc203_27 ⟨fun q => ?_, fun q => ?_⟩
      · rw [if_neg (by rw [q]; decide)] at hQ; exact hQ α Fα.rf
      · have q1 := cn01.resolve_left q
        rw [if_pos q1] at hQ
        have inn := cn_in w q1 hb.2
        refine m_wishOf w l o lw ow hb.2 rfl rfl inn.1 inn.2 ?_
        intro β hf
        exact vc203_36 (hQ β hf)
    · rw [if_neg (fun z => hv z.2)] at hQ
      rw [wi0 hv]
      exact vc203_19 ⟨fun _ => hQ α Fα.rf, fun q => absurd rfl q⟩
  · rw [if_neg (fun z => hb z.1)] at hQ
    rw [show hbR (α 110) b = 0 from if_neg hb]
    exact vc203_10 ⟨fun _ => hQ α Fα.rf, fun q => absurd rfl q⟩
