/-! What is done by hand: orders, shares, mending -/
def upR (ρ : Nat → Int) (i : Nat) (v : Int) : Nat → Int := fun j => if j = i then v else ρ j
theorem upR_s {ρ : Nat → Int} {i : Nat} {v : Int} : upR ρ i v i = v := if_pos rfl
theorem upR_n {ρ : Nat → Int} {i j : Nat} {v : Int} (h : j ≠ i) : upR ρ i v j = ρ j := if_neg h
theorem WF.w1 {ρ : Nat → Int} {a : Nat} {v : Int} (w : WF ρ) (ha : a < 7) (hv : 0 ≤ v ∧ v ≤ 4) : WF (upR ρ (212 + 12 * a) v) ∧ tld ρ (upR ρ (212 + 12 * a) v) := by
  have t : tld ρ (upR ρ (212 + 12 * a) v) := fun j h => upR_n (by unfold tldI at h; omega)
  refine ⟨w.st t (by rw [upR_n (by omega)]; exact w.2.2.2.1) (fun c hc => ?_) (fun b hb => ?_) (fun k hk => ?_), t⟩
  · rw [upR_n (by omega)]; exact ⟨(w.c hc).2.1, (w.c hc).2.2.1⟩
  · have e1 : 203 + 12 * b ≠ 212 + 12 * a := by omega
    have e2 : 204 + 12 * b ≠ 212 + 12 * a := by omega
    have e3 : 210 + 12 * b ≠ 212 + 12 * a := by omega
    have e4 : 211 + 12 * b ≠ 212 + 12 * a := by omega
    have hw := w.b hb
    rw [upR_n e1, upR_n e2, upR_n e3, upR_n e4]
    refine ⟨hw.wa, hw.2.2.2.2.2.2.2.2.1, hw.2.2.2.2.2.2.2.2.2.1, ?_⟩
    by_cases h : b = a
    · rw [h, upR_s]; exact hv
    · rw [upR_n (fun q => h (Nat.eq_of_mul_eq_mul_left (by decide) (Nat.add_left_cancel q)))]; exact hw.2.2.2.2.2.2.2.2.2.2.1
  · rw [upR_n (by omega)]; exact (w.l hk).2.2
theorem WF.s1 {ρ : Nat → Int} {a : Nat} {v : Int} (w : WF ρ) (ha : a < 7) (hv : 0 ≤ v ∧ v ≤ 999) : WF (upR ρ (211 + 12 * a) v) ∧ tld ρ (upR ρ (211 + 12 * a) v) := by
  have t : tld ρ (upR ρ (211 + 12 * a) v) := fun j h => upR_n (by unfold tldI at h; omega)
  refine ⟨w.st t (by rw [upR_n (by omega)]; exact w.2.2.2.1) (fun c hc => ?_) (fun b hb => ?_) (fun k hk => ?_), t⟩
  · rw [upR_n (by omega)]; exact ⟨(w.c hc).2.1, (w.c hc).2.2.1⟩
  · have e1 : 203 + 12 * b ≠ 211 + 12 * a := by omega
    have e2 : 204 + 12 * b ≠ 211 + 12 * a := by omega
    have e3 : 210 + 12 * b ≠ 211 + 12 * a := by omega
    have e4 : 212 + 12 * b ≠ 211 + 12 * a := by omega
    have hw := w.b hb
    rw [upR_n e1, upR_n e2, upR_n e3, upR_n e4]
    refine ⟨hw.wa, hw.2.2.2.2.2.2.2.2.1, ?_, hw.2.2.2.2.2.2.2.2.2.2.1⟩
    by_cases h : b = a
    · rw [h, upR_s]; exact hv
    · rw [upR_n (fun q => h (Nat.eq_of_mul_eq_mul_left (by decide) (Nat.add_left_cancel q)))]; exact hw.2.2.2.2.2.2.2.2.2.1
  · rw [upR_n (by omega)]; exact (w.l hk).2.2
theorem CI.w1 {σ α : Nat → Nat → Int} {ρ : Nat → Int} {P W : List (Int × Int)} {a : Nat} {v : Int} (C : CI σ α ρ P W) (w : WF ρ) (ha : a < 7) : CI σ (mUp α 45 a v) (upR ρ (212 + 12 * a) v) P W := by
  have t : tld ρ (upR ρ (212 + 12 * a) v) := fun j h => upR_n (by unfold tldI at h; omega)
  have f : Fα ZS α (mUp α 45 a v) := Fα.up (by decide)
  refine C.st f rfl rfl (C.1.st w t f (fun _ => rfl) ?_ (fun c hc => ?_) (fun b hb => ?_) (fun k hk => ?_))
  · rw [upR_n (by omega)]; exact C.1.2.2.2.2.2.1
  · rw [upR_n (by omega), up_o (by decide)]; exact (C.1.c hc).2.2
  · have e1 : 203 + 12 * b ≠ 212 + 12 * a := by omega
    have e2 : 204 + 12 * b ≠ 212 + 12 * a := by omega
    have e3 : 210 + 12 * b ≠ 212 + 12 * a := by omega
    have e4 : 211 + 12 * b ≠ 212 + 12 * a := by omega
    have r := C.1.b hb
    rw [upR_n e1, upR_n e2, upR_n e3, upR_n e4, up_o (x := 42) (by decide), up_o (x := 43) (by decide), up_o (x := 44) (by decide), up_o (x := 46) (by decide), up_a]
    refine ⟨r.2.1, r.2.2.1, r.2.2.2.2.2.2.2.2.1, r.2.2.2.2.2.2.2.2.2.1, ?_⟩
    by_cases h : b = a
    · rw [if_pos h, h, upR_s]
    · rw [if_neg h, upR_n (fun q => h (Nat.eq_of_mul_eq_mul_left (by decide) (Nat.add_left_cancel q)))]; exact r.2.2.2.2.2.2.2.2.2.2
  · rw [upR_n (by omega), up_o (by decide)]; exact (C.1.l hk).2.2
theorem CI.s1 {σ α : Nat → Nat → Int} {ρ : Nat → Int} {P W : List (Int × Int)} {a : Nat} {v : Int} (C : CI σ α ρ P W) (w : WF ρ) (ha : a < 7) : CI σ (mUp α 46 a v) (upR ρ (211 + 12 * a) v) P W := by
  have t : tld ρ (upR ρ (211 + 12 * a) v) := fun j h => upR_n (by unfold tldI at h; omega)
  have f : Fα ZS α (mUp α 46 a v) := Fα.up (by decide)
  refine C.st f rfl rfl (C.1.st w t f (fun _ => rfl) ?_ (fun c hc => ?_) (fun b hb => ?_) (fun k hk => ?_))
  · rw [upR_n (by omega)]; exact C.1.2.2.2.2.2.1
  · rw [upR_n (by omega), up_o (by decide)]; exact (C.1.c hc).2.2
  · have e1 : 203 + 12 * b ≠ 211 + 12 * a := by omega
    have e2 : 204 + 12 * b ≠ 211 + 12 * a := by omega
    have e3 : 210 + 12 * b ≠ 211 + 12 * a := by omega
    have e4 : 212 + 12 * b ≠ 211 + 12 * a := by omega
    have r := C.1.b hb
    rw [upR_n e1, upR_n e2, upR_n e3, upR_n e4, up_o (x := 42) (by decide), up_o (x := 43) (by decide), up_o (x := 44) (by decide), up_o (x := 45) (by decide), up_a]
    refine ⟨r.2.1, r.2.2.1, r.2.2.2.2.2.2.2.2.1, ?_, r.2.2.2.2.2.2.2.2.2.2⟩
    by_cases h : b = a
    · rw [if_pos h, h, upR_s]
    · rw [if_neg h, upR_n (fun q => h (Nat.eq_of_mul_eq_mul_left (by decide) (Nat.add_left_cancel q)))]; exact r.2.2.2.2.2.2.2.2.2.1
  · rw [upR_n (by omega), up_o (by decide)]; exact (C.1.l hk).2.2
theorem WF.t1 {ρ : Nat → Int} {k : Nat} (w : WF ρ) (hk : k < 6) : WF (upR ρ (292 + 3 * k) 0) ∧ tld ρ (upR ρ (292 + 3 * k) 0) := by
  refine ⟨w.tr (fun j h => upR_n (by omega)) (fun i hi => ?_), fun j h => upR_n (by unfold tldI at h; omega)⟩
  by_cases h : 292 + 3 * i = 292 + 3 * k
  · rw [h, upR_s]; exact Or.inl rfl
  · rw [upR_n h]; exact (w.l hi).2.2
theorem CI.t1 {σ α : Nat → Nat → Int} {ρ : Nat → Int} {P W : List (Int × Int)} {k : Nat} (C : CI σ α ρ P W) (w : WF ρ) (hk : k < 6) : CI σ (mUp α 47 k 0) (upR ρ (292 + 3 * k) 0) P W := by
  refine C.tr (Fα.up (by decide)) (fun j h => upR_n (by omega)) w.2.2.1.2 (fun i hi => ?_)
  rw [up_a]
  by_cases h : i = k
  · rw [if_pos h, h, upR_s]
  · rw [if_neg h, upR_n (by omega)]; exact (C.1.l hi).2.2
/-- order -/
def orB (ρ : Nat → Int) (b v : Int) : Prop := (0 ≤ b ∧ b < ρ 2) ∧ (0 ≤ v ∧ v ≤ 4)
theorem c_order {X : mXX} {d : Nat} {Q : Option mV → mS → Prop} {σ α : Nat → Nat → Int} {ρ : Nat → Int} {P W : List (Int × Int)} {b v : Int} (C : CI σ α ρ P W) (w : WF ρ) (h1 : orB ρ b v → ∀ α', Fα [45] α α' → CI σ α' (upR ρ (212 + 12 * fsN ρ b.toNat) v) P W → Q (some (vI 1)) (S0, σ, α')) (h0 : ¬ orB ρ b v → Q (some (vI 0)) (S0, σ, α)) : Ca X (d + 2) 106 [vR 0, vI b, vI v] (S0, σ, α) Q := by
  refine vc106_0 ?_
  refine c_hasBoat C.1.2.2.1 ?_
  unfold orB at h1 h0
  by_cases hb : 0 ≤ b ∧ b < ρ 2
  · rw [show hbR ρ b = 1 from if_pos hb]
    obtain ⟨n, hn⟩ := Int.eq_ofNat_of_zero_le hb.1
    subst hn
    have b7 := w.m7 hb.2
    have f7 : 0 ≤ (n : Int) ∧ (n : Int) < 7 := by have := hb.1; omega
    have fl := fsN_le ρ n
    have a7 : fsN ρ n < 7 := by omega
    refine vc106_8 ⟨fun q => absurd q (by decide), fun _ => ⟨fun q => h0 (fun z => ?_), fun q => ⟨fun q2 => ?_, fun q2 => h0 (fun z => ?_)⟩⟩⟩
    · exact absurd z.2.1 (by omega)
    · refine c_first C.1 f7 ?_
      rw [fR_e]
      refine vc106_37 ⟨mInA_n a7, ?_⟩
      rw [Int.toNat_natCast]
      refine h1 ⟨hb, by omega, by omega⟩ _ (Fα.up (by decide)) ?_
      rw [Int.toNat_natCast]
      exact C.w1 w a7
    · exact absurd z.2.2 (by omega)
  · rw [show hbR ρ b = 0 from if_neg hb]
    exact vc106_8 ⟨fun _ => h0 (fun z => hb z.1), fun q => absurd rfl q⟩
theorem m_order {X : mXX} {d : Nat} {Q : Option mV → mS → Prop} {σ α : Nat → Nat → Int} {b v : Int} (w : WF (α 110)) (h1 : orB (α 110) b v → ∀ α', Fα [110] α α' → α' 110 = upR (α 110) (212 + 12 * fsN (α 110) b.toNat) v → Q (some (vI 1)) (S0, mUp σ 104 0 0, α')) (h0 : ¬ orB (α 110) b v → Q (some (vI 0)) (S0, mUp σ 104 0 0, α)) : Ca X (d + 3) 181 [vR 104, vI b, vI v] (S0, σ, α) Q := by
  refine vc181_0 ?_
  refine m_isBoat ?_
  unfold orB at h1 h0
  by_cases hb : 0 ≤ b ∧ b < α 110 2
  · rw [show hbR (α 110) b = 1 from if_pos hb]
    obtain ⟨n, hn⟩ := Int.eq_ofNat_of_zero_le hb.1
    subst hn
    have b7 := w.m7 hb.2
    have f7 : 0 ≤ (n : Int) ∧ (n : Int) < 7 := by have := hb.1; omega
    have fl := fsN_le (α 110) n
    have a7 : fsN (α 110) n < 7 := by omega
    refine vc181_10 ⟨fun q => absurd q (by decide), fun _ => ?_⟩
    refine m_within ?_
    by_cases hv : 0 ≤ v ∧ v ≤ 4
    · rw [wi1 hv]
      refine vc181_19 ⟨fun _ => ?_, fun q => absurd q (by decide)⟩
      refine m_first w f7 ?_
      rw [fR_e]
      refine vc181_38 ?_
      rw [ixB10 a7]
      refine ⟨mInA_n (by omega), ?_⟩
      rw [Int.toNat_natCast]
      refine h1 ⟨hb, hv⟩ _ (Fα.up (by decide)) ?_
      rw [Int.toNat_natCast, up_f]; rfl
    · rw [wi0 hv]
      exact vc181_19 ⟨fun q => absurd rfl q, fun _ => h0 (fun z => hv z.2)⟩
  · rw [show hbR (α 110) b = 0 from if_neg hb]
    exact vc181_10 ⟨fun _ => h0 (fun z => hb z.1), fun q => absurd rfl q⟩
/-- share -/
def shB (ρ : Nat → Int) (b v : Int) : Prop := (0 ≤ b ∧ b < ρ 2) ∧ (0 ≤ v ∧ v ≤ 999)
theorem c_share {X : mXX} {d : Nat} {Q : Option mV → mS → Prop} {σ α : Nat → Nat → Int} {ρ : Nat → Int} {P W : List (Int × Int)} {b v : Int} (C : CI σ α ρ P W) (w : WF ρ) (h1 : shB ρ b v → ∀ α', Fα [46] α α' → CI σ α' (upR ρ (211 + 12 * b.toNat) v) P W → Q (some (vI 1)) (S0, σ, α')) (h0 : ¬ shB ρ b v → Q (some (vI 0)) (S0, σ, α)) : Ca X (d + 2) 115 [vR 0, vI b, vI v] (S0, σ, α) Q := by
  refine vc115_0 ?_
  refine c_hasBoat C.1.2.2.1 ?_
  unfold shB at h1 h0
  by_cases hb : 0 ≤ b ∧ b < ρ 2
  · rw [show hbR ρ b = 1 from if_pos hb]
    obtain ⟨n, hn⟩ := Int.eq_ofNat_of_zero_le hb.1
    subst hn
    have b7 := w.m7 hb.2
    refine vc115_8 ⟨fun q => absurd q (by decide), fun _ => ⟨fun q => h0 (fun z => ?_), fun q => ⟨fun q2 => ⟨mInA_n b7, ?_⟩, fun q2 => h0 (fun z => ?_)⟩⟩⟩
    · exact absurd z.2.1 (by omega)
    · refine h1 ⟨hb, by omega, by omega⟩ _ (Fα.up (by decide)) ?_
      rw [Int.toNat_natCast]
      exact C.s1 w b7
    · exact absurd z.2.2 (by omega)
  · rw [show hbR ρ b = 0 from if_neg hb]
    exact vc115_8 ⟨fun _ => h0 (fun z => hb z.1), fun q => absurd rfl q⟩
theorem m_share {X : mXX} {d : Nat} {Q : Option mV → mS → Prop} {σ α : Nat → Nat → Int} {b v : Int} (w : WF (α 110)) (h1 : shB (α 110) b v → ∀ α', Fα [110] α α' → α' 110 = upR (α 110) (211 + 12 * b.toNat) v → Q (some (vI 1)) (S0, mUp σ 104 0 0, α')) (h0 : ¬ shB (α 110) b v → Q (some (vI 0)) (S0, mUp σ 104 0 0, α)) : Ca X (d + 3) 213 [vR 104, vI b, vI v] (S0, σ, α) Q := by
  refine vc213_0 ?_
  refine m_isBoat ?_
  unfold shB at h1 h0
  by_cases hb : 0 ≤ b ∧ b < α 110 2
  · rw [show hbR (α 110) b = 1 from if_pos hb]
    obtain ⟨n, hn⟩ := Int.eq_ofNat_of_zero_le hb.1
    subst hn
    have b7 := w.m7 hb.2
    refine vc213_10 ⟨fun q => absurd q (by decide), fun _ => ?_⟩
    refine m_within ?_
    by_cases hv : 0 ≤ v ∧ v ≤ 999
    · rw [wi1 hv]
      refine vc213_21 ⟨fun _ => ?_, fun q => absurd q (by decide)⟩
      rw [ixB9 b7]
      refine ⟨mInA_n (by omega), ?_⟩
      rw [Int.toNat_natCast]
      refine h1 ⟨hb, hv⟩ _ (Fα.up (by decide)) ?_
      rw [Int.toNat_natCast, up_f]; rfl
    · rw [wi0 hv]
      exact vc213_21 ⟨fun q => absurd rfl q, fun _ => h0 (fun z => hv z.2)⟩
  · rw [show hbR (α 110) b = 0 from if_neg hb]
    exact vc213_10 ⟨fun _ => h0 (fun z => hb z.1), fun q => absurd rfl q⟩
/-- mend -/
def meB (ρ : Nat → Int) (k : Int) : Prop := (0 ≤ k ∧ k + 1 < ρ 2) ∧ ρ (292 + 3 * k.toNat) ≠ 0 ∧ apN ρ k.toNat ≤ ρ (290 + 3 * k.toNat)
theorem c_mend {X : mXX} {d : Nat} {Q : Option mV → mS → Prop} {σ α : Nat → Nat → Int} {ρ : Nat → Int} {P W : List (Int × Int)} {k : Int} (C : CI σ α ρ P W) (w : WF ρ) (h1 : meB ρ k → ∀ α', Fα [47] α α' → CI σ α' (upR ρ (292 + 3 * k.toNat) 0) P W → Q (some (vI 1)) (S0, σ, α')) (h0 : ¬ meB ρ k → Q (some (vI 0)) (S0, σ, α)) : Ca X (d + 2) 108 [vR 0, vI k] (S0, σ, α) Q := by
  refine vc108_0 ?_
  refine c_hasLink C.1.2.2.1 w.2.2.1 ?_
  unfold meB at h1 h0
  by_cases hb : 0 ≤ k ∧ k + 1 < ρ 2
  · rw [show hlR ρ k = 1 from if_pos hb]
    obtain ⟨n, hn⟩ := Int.eq_ofNat_of_zero_le hb.1
    subst hn
    have n6 : n < 6 := by have := w.2.2.1.2; omega
    have hk1 : ((n + 1 : Nat) : Int) < ρ 2 := by omega
    rw [Int.toNat_natCast] at h1 h0
    have r := C.1.l n6
    refine vc108_8 ⟨fun q => absurd q (by decide), fun _ => ⟨mInA_n n6, ?_⟩⟩
    rw [Int.toNat_natCast, r.2.2]
    refine ⟨fun q => h0 (fun z => z.2.1 q), fun q => ?_⟩
    refine c_apart C.1 w hk1 ?_
    refine vc108_31 ⟨mInA_n n6, ?_⟩
    rw [Int.toNat_natCast, r.1]
    refine ⟨fun q2 => ⟨mInA_n n6, h1 ⟨hb, q, Int.not_lt.mp q2⟩ _ (Fα.up (by decide)) (C.t1 w n6)⟩, fun q2 => h0 (fun z => Int.not_lt.mpr z.2.2 q2)⟩
  · rw [show hlR ρ k = 0 from if_neg hb]
    exact vc108_8 ⟨fun _ => h0 (fun z => hb z.1), fun q => absurd rfl q⟩
theorem apR_N {ρ : Nat → Int} {k : Nat} : apR ρ (k : Int) = apN ρ k := by
  unfold apR apN
  rw [show (k : Int) + 1 = ((k + 1 : Nat) : Int) from rfl, oo1, oo2, oo1, oo2]
theorem ixL0 {k : Nat} (h : k < 6) : wr (290 + wr (3 * (k : Int))) = ((290 + 3 * k : Nat) : Int) := by
  rw [wr_of (x := 3 * (k : Int)) (by omega) (by omega), wr_of (by omega) (by omega)]; omega
theorem m_mend {X : mXX} {d : Nat} {Q : Option mV → mS → Prop} {σ α : Nat → Nat → Int} {k : Int} (w : WF (α 110)) (h1 : meB (α 110) k → ∀ α', Fα [110] α α' → α' 110 = upR (α 110) (292 + 3 * k.toNat) 0 → Q (some (vI 1)) (S0, mUp σ 104 0 0, α')) (h0 : ¬ meB (α 110) k → Q (some (vI 0)) (S0, mUp σ 104 0 0, α)) : Ca X (d + 4) 195 [vR 104, vI k] (S0, σ, α) Q := by
  refine vc195_0 ?_
  refine m_isLink w ?_
  unfold meB at h1 h0
  by_cases hb : 0 ≤ k ∧ k + 1 < α 110 2
  · rw [show hlR (α 110) k = 1 from if_pos hb]
    obtain ⟨n, hn⟩ := Int.eq_ofNat_of_zero_le hb.1
    subst hn
    have n6 : n < 6 := by have := w.2.2.1.2; omega
    have f6 : 0 ≤ (n : Int) ∧ (n : Int) < 6 := by omega
    rw [Int.toNat_natCast] at h1 h0
    refine vc195_10 ⟨fun q => absurd q (by decide), fun _ => ?_⟩
    refine m_torn w f6 ?_
    unfold tnR
    rw [Int.toNat_natCast]
    refine vc195_18 ⟨fun q => h0 (fun z => z.2.1 q), fun q => ?_⟩
    refine m_apart w hb ?_
    rw [apR_N]
    refine vc195_26 ?_
    rw [ixL n6, ixL0 n6]
    refine ⟨mInA_n (by omega), ?_⟩
    rw [Int.toNat_natCast, Int.toNat_natCast]
    refine ⟨fun q2 => ⟨mInA_n (by omega), h1 ⟨hb, q, Int.not_lt.mp q2⟩ _ (Fα.up (by decide)) (by rw [up_f]; rfl)⟩, fun q2 => h0 (fun z => Int.not_lt.mpr z.2.2 q2)⟩
  · rw [show hlR (α 110) k = 0 from if_neg hb]
    exact vc195_10 ⟨fun _ => h0 (fun z => hb z.1), fun q => absurd rfl q⟩
