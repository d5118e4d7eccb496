/-! The class reads a boat -/
theorem hs_eq {T : Nat → Int} {N a i : Nat} (ka : kdI T N a = 2) (ki : kdI T N i = 2) : hsI T N a = hsI T N i ↔ (enI T N a - plI T N a = enI T N i - plI T N i ∧ ∀ j, j < enI T N a - plI T N a → T (plI T N a + j) = T (plI T N i + j)) := by
  have k1 := kd_2 ka
  have k2 := kd_2 ki
  unfold hsI
  constructor
  · intro h
    exact hs_inj (fun j hj => k1.2 _ (Nat.le_add_right _ _) (by omega)) (fun j hj => k2.2 _ (Nat.le_add_right _ _) (by omega)) h
  · intro h
    rw [← h.1]
    exact hs_cg h.2
theorem wsub {p e : Nat} (h : p ≤ e) (he : e ≤ 1000) : wr ((e : Int) - (p : Int)) = ((e - p : Nat) : Int) := nsub h he
theorem wadd {p j : Nat} (h : p + j < 100000) : wr ((p : Int) + (j : Int)) = ((p + j : Nat) : Int) := by rw [wr_of (by omega) (by omega)]; omega
theorem c_isAlike {X : mXX} {d : Nat} {Q : Option mV → mS → Prop} {σ α : Nat → Nat → Int} {T : Nat → Int} {N i a : Nat} {v1 v2 : Int} (hT : α 2 = T) (ok : okT T N) (C : CTk σ T N i) (ka : kdI T N a = 2) (ki : kdI T N i = 2) (e1 : v1 = ((plI T N a : Nat) : Int)) (e2 : v2 = ((enI T N a : Nat) : Int)) (h1 : hsI T N a = hsI T N i → Q (some (vI 1)) (S0, σ, α)) (h0 : hsI T N a ≠ hsI T N i → Q (some (vI 0)) (S0, σ, α)) : Ca X (d + 1) 74 [vR 1, vI v1, vI v2] (S0, σ, α) Q := by
  have ab := en_b (T := T) (N := N) (i := a)
  have ib := en_b (T := T) (N := N) (i := i)
  have hN := ok.1
  have hs := hs_eq ka ki
  have ea : wr (v2 - v1) = ((enI T N a - plI T N a : Nat) : Int) := by rw [e1, e2]; exact wsub ab.1 (Nat.le_trans ab.2.1 hN)
  have ei : wr (σ 1 3 - σ 1 2) = ((enI T N i - plI T N i : Nat) : Int) := by rw [C.2.1, C.2.2.1]; exact wsub ib.1 (Nat.le_trans ib.2.1 hN)
  refine vc74_0 ?_
  rw [ea, ei]
  refine ⟨fun z => ?_, fun z => h0 (fun y => z (by rw [(hs.mp y).1]))⟩
  have el : enI T N a - plI T N a = enI T N i - plI T N i := Int.ofNat.inj z
  have key : ∀ g j : Nat, j + g = enI T N a - plI T N a → (∀ k, k < j → T (plI T N a + k) = T (plI T N i + k)) → Go X d 74 19 [some (vR 1), some (vI v1), some (vI v2), some (vI (j : Int))] [] (S0, σ, α) (0, 0) Q := by
    intro g
    induction g with
    | zero =>
      intro j hj hk
      have ej : j = enI T N a - plI T N a := hj
      refine vc74_19 ⟨fun _ => h1 (hs.mpr ⟨el, by rw [← ej]; exact hk⟩), fun y => absurd y (by rw [ea, ej]; exact Int.lt_irrefl _)⟩
    | succ g ih =>
      intro j hj hk
      have jl : j < enI T N a - plI T N a := by clear hs z ea ei; omega
      have b1 : plI T N a + j < 1000 := by clear hs z ea ei; omega
      have b2 : plI T N i + j < 1000 := by clear hs z ea ei; omega
      have i1 : wr (v1 + (j : Int)) = ((plI T N a + j : Nat) : Int) := by rw [e1]; exact wadd (Nat.lt_trans b1 (by decide))
      have i2 : wr (σ 1 2 + (j : Int)) = ((plI T N i + j : Nat) : Int) := by rw [C.2.1]; exact wadd (Nat.lt_trans b2 (by decide))
      have ej := wrS (k := j) (by clear hs z ea ei i1 i2; omega)
      refine vc74_19 ⟨fun y => absurd (by rw [ea]; exact Int.ofNat_lt.mpr jl) y, fun _ => ?_⟩
      rw [i1, i2, Int.toNat_natCast, Int.toNat_natCast, hT]
      refine ⟨mInA_n b1, mInA_n b2, fun y => ?_, fun y => h0 (fun u => y ((hs.mp u).2 j jl))⟩
      rw [ej]
      refine ih (j + 1) (by clear hs z ea ei i1 i2 ej; omega) (fun k hk' => ?_)
      by_cases e : k = j
      · rw [e]; exact y
      · exact hk k (Nat.lt_of_le_of_ne (Nat.lt_succ_iff.mp hk') e)
  exact key (enI T N a - plI T N a) 0 (Nat.zero_add _) (fun k hk => absurd hk (Nat.not_lt_zero k))
theorem dp_p {T : Nat → Int} {N i : Nat} {nm : Nat → Nat} : ∀ {n b : Nat}, b < n → hsI T N (nm b) = hsI T N i → dpN T N nm i n ≠ 0
  | 0, b, hb, _ => absurd hb (Nat.not_lt_zero b)
  | n + 1, b, hb, h => by
    unfold dpN
    by_cases q : hsI T N (nm n) = hsI T N i
    · rw [if_pos q]; decide
    · rw [if_neg q]
      exact dp_p (Nat.lt_of_le_of_ne (Nat.lt_succ_iff.mp hb) (fun e => q (by rw [← e]; exact h))) h
theorem dp_z {T : Nat → Int} {N i : Nat} {nm : Nat → Nat} : ∀ {n : Nat}, (∀ b, b < n → hsI T N (nm b) ≠ hsI T N i) → dpN T N nm i n = 0
  | 0, _ => rfl
  | n + 1, h => by
    unfold dpN
    rw [if_neg (h n (Nat.lt_succ_self n))]
    exact dp_z (fun b hb => h b (Nat.lt_succ_of_lt hb))
theorem c_takeName {X : mXX} {d : Nat} {Q : Option mV → mS → Prop} {σ α : Nat → Nat → Int} {T : Nat → Int} {N i n : Nat} {s : bSt} (hT : α 2 = T) (ok : okT T N) (C : CTk σ T N i) (D : DR T N σ α s) (hn : s.1 2 = (n : Int)) (n7 : n < 7) (h1 : nmF T N s.2.2.2 n i = 0 → ∀ σ', Fσ S5 σ σ' → CTk σ' T N (i + 1) → Q (some (vI 1)) (S0, σ', mUp (mUp α 21 n ((plI T N i : Nat) : Int)) 22 n ((enI T N i : Nat) : Int))) (h0 : nmF T N s.2.2.2 n i ≠ 0 → Q (some (vI 0)) (S0, mUp σ 3 6 (nmF T N s.2.2.2 n i), α)) : Ca X (d + 8) 88 [vR 3, vI (n : Int)] (S0, σ, α) Q := by
  have e4 := C.2.2.2.1
  have bad : ¬ (kdI T N i = 2 ∧ 22 < twI T N i) → Ca X (d + 7) 79 [vR 3, vI 1] (S0, σ, α) (fun r s' => aI r (fun m => Go X (d + 7) 88 38 [some (vR 3), some (vI (n : Int)), some (vI 0), none] [vI m] s' (0, 0) Q)) := by
    intro z
    have e : nmF T N s.2.2.2 n i = fa T N 1 i := if_neg z
    rw [e] at h0
    exact c_fail ok.1 C (by decide) (vc88_38 ⟨Or.inl rfl, h0 (fa_0 (by decide))⟩)
  refine vc88_0 ⟨fun z => bad (fun y => z (by rw [e4]; exact y.1)), fun z => ?_⟩
  rw [e4] at z
  rw [C.w z]
  refine ⟨fun z2 => bad (fun y => z2 (Int.ofNat_lt.mpr y.2)), fun z2 => ?_⟩
  have kk : kdI T N i = 2 ∧ 22 < twI T N i := ⟨z, Int.ofNat_lt.mp z2⟩
  have en : nmF T N s.2.2.2 n i = if dpN T N s.2.2.2 i n = 0 then 0 else fa T N 3 i := if_pos kk
  have key : ∀ g b : Nat, b + g = n → (∀ k, k < b → hsI T N (s.2.2.2 k) ≠ hsI T N i) → Go X (d + 7) 88 41 [some (vR 3), some (vI (n : Int)), some (vI 1), some (vI (b : Int))] [] (S0, σ, α) (0, 0) Q := by
    intro g
    induction g with
    | zero =>
      intro b hb hk
      have eb : b = n := hb
      subst eb
      rw [if_pos (dp_z hk)] at en
      refine vc88_41 ⟨fun _ => ⟨mInA_n n7, mInA_n n7, ?_⟩, fun y => absurd y (Int.lt_irrefl _)⟩
      rw [Int.toNat_natCast, C.2.1, C.2.2.1]
      have hT2 : mUp (mUp α 21 b ((plI T N i : Nat) : Int)) 22 b ((enI T N i : Nat) : Int) 2 = T := by rw [up_o (by decide), up_o (by decide)]; exact hT
      exact c_adv hT2 ok C (fun σ1 F1 C1 => vc88_113 (h1 en σ1 F1 C1))
    | succ g ih =>
      intro b hb hk
      have bn : b < n := by clear en e4 z2 hn; omega
      have bl : (b : Int) < s.1 2 := by rw [hn]; exact Int.ofNat_lt.mpr bn
      have db := D.2.2.1 b bl
      have eb := wrS (k := b) (by clear en e4 z2 hn; omega)
      have b7 := Nat.lt_trans bn n7
      refine vc88_41 ⟨fun y => absurd (Int.ofNat_lt.mpr bn) y, fun _ => ⟨mInA_n b7, mInA_n b7, ?_⟩⟩
      rw [Int.toNat_natCast]
      refine c_isAlike (a := s.2.2.2 b) hT ok C db.2.2.2.2.2.2.2.2 z db.2.2.2.2.2.2.1 db.2.2.2.2.2.2.2.1 (fun q => ?_) (fun q => ?_)
      · rw [if_neg (dp_p bn q)] at en
        rw [en] at h0
        exact vc88_65 ⟨fun y => absurd y (by decide), fun _ => c_fail ok.1 C (by decide) (vc88_73 ⟨Or.inl rfl, h0 (fa_0 (by decide))⟩)⟩
      · refine vc88_65 ⟨fun _ => ?_, fun y => absurd rfl y⟩
        rw [eb]
        refine ih (b + 1) (by clear en e4 z2 hn eb; omega) (fun k hk' => ?_)
        by_cases e : k = b
        · rw [e]; exact q
        · exact hk k (Nat.lt_of_le_of_ne (Nat.lt_succ_iff.mp hk') e)
  exact key n 0 (Nat.zero_add _) (fun k hk => absurd hk (Nat.not_lt_zero k))
theorem wk14 {t : Nat} (h : 14 ≤ t) (h2 : t ≤ 18) : wr ((t : Int) - 14) = ((t - 14 : Nat) : Int) := by rw [wr_of (by omega) (by omega)]; omega
theorem c_takeKind {X : mXX} {d : Nat} {Q : Option mV → mS → Prop} {σ α : Nat → Nat → Int} {T : Nat → Int} {N i n : Nat} (hT : α 2 = T) (ok : okT T N) (C : CTk σ T N i) (n7 : n < 7) (h1 : kdF T N i = 0 → ∀ σ', Fσ S5 σ σ' → CTk σ' T N (i + 1) → Q (some (vI 1)) (S0, σ', mUp α 7 n ((twI T N i - 14 : Nat) : Int))) (h0 : kdF T N i ≠ 0 → Q (some (vI 0)) (S0, mUp σ 3 6 (kdF T N i), α)) : Ca X (d + 8) 89 [vR 3, vI (n : Int)] (S0, σ, α) Q := by
  have e4 := C.2.2.2.1
  have bad : ¬ (14 ≤ twI T N i ∧ twI T N i ≤ 18) → Ca X (d + 7) 79 [vR 3, vI 1] (S0, σ, α) (fun r s' => aI r (fun m => Go X (d + 7) 89 50 [some (vR 3), some (vI (n : Int)), some (vI 0)] [vI m] s' (0, 0) Q)) := by
    intro z
    have e : kdF T N i = fa T N 1 i := if_neg z
    rw [e] at h0
    exact c_fail ok.1 C (by decide) (vc89_50 ⟨Or.inl rfl, h0 (fa_0 (by decide))⟩)
  refine vc89_0 ⟨fun z => bad (fun y => z (by rw [e4]; exact k_n rfl (Nat.lt_of_le_of_lt y.2 (by decide)))), fun z => ?_⟩
  rw [e4] at z
  rw [C.w z]
  refine ⟨fun z2 => bad (fun y => Nat.not_lt.mpr y.1 (Int.ofNat_lt.mp z2)), fun z2 => ⟨fun z3 => bad (fun y => Nat.not_lt.mpr y.2 (Int.ofNat_lt.mp z3)), fun z3 => ⟨mInA_n n7, ?_⟩⟩⟩
  have kk : 14 ≤ twI T N i ∧ twI T N i ≤ 18 := ⟨Nat.not_lt.mp (fun y => z2 (Int.ofNat_lt.mpr y)), Nat.not_lt.mp (fun y => z3 (Int.ofNat_lt.mpr y))⟩
  have en : kdF T N i = 0 := if_pos kk
  rw [wk14 kk.1 kk.2, Int.toNat_natCast]
  have hT2 : mUp α 7 n ((twI T N i - 14 : Nat) : Int) 2 = T := by rw [up_o (by decide)]; exact hT
  exact c_adv hT2 ok C (fun σ1 F1 C1 => vc89_77 (h1 en σ1 F1 C1))
def AN : List Nat := [7, 8, 9, 10, 11, 12, 21, 22]
theorem DR.nb {T : Nat → Int} {N n : Nat} {σ α α' : Nat → Nat → Int} {s : bSt} (D : DR T N σ α s) (hn : s.1 2 = (n : Int)) (F : Fα AN α α') (h : ∀ q ∈ AN, ∀ b, b < n → α' q b = α q b) : DR T N σ α' s := by
  unfold DR LC
  rw [F 5 (by decide), F 6 (by decide), F 13 (by decide), F 14 (by decide), F 16 (by decide), F 19 (by decide)]
  refine ⟨D.1, D.2.1, fun b hb => ?_, D.2.2.2⟩
  have bn : b < n := by rw [hn] at hb; exact Int.ofNat_lt.mp hb
  rw [h 7 (by decide) b bn, h 8 (by decide) b bn, h 9 (by decide) b bn, h 10 (by decide) b bn, h 11 (by decide) b bn, h 12 (by decide) b bn, h 21 (by decide) b bn, h 22 (by decide) b bn]
  exact D.2.2.1 b hb
/-- a row of a boat that is not yet -/
def upN (n : Nat) (α α' : Nat → Nat → Int) : Prop := Fα AN α α' ∧ ∀ q ∈ AN, ∀ b, b < n → α' q b = α q b
theorem upN.rf {n : Nat} {α : Nat → Nat → Int} : upN n α α := ⟨Fα.rf, fun _ _ _ _ => rfl⟩
theorem upN.u {n : Nat} {α α' : Nat → Nat → Int} (h : upN n α α') {a : Nat} {v : Int} (ha : a ∈ AN := by decide) : upN n α (mUp α' a n v) := by
  refine ⟨h.1.tr (Fα.up ha), fun q hq b hb => ?_⟩
  rw [up_n (fun z => Nat.ne_of_lt hb z.2)]
  exact h.2 q hq b hb
theorem bnw_n {T : Nat → Int} {N n i j : Nat} {ρ : Nat → Int} (j2 : j ≠ 2) (jr : j < 202 + 12 * n ∨ 209 + 12 * n < j) : bnwR T N ρ n i j = ρ j := by
  unfold bnwR
  rw [rU_n j2, rU_n (by omega), rU_n (by omega), rU_n (by omega), rU_n (by omega), rU_n (by omega), rU_n (by omega), rU_n (by omega), rU_n (by omega)]
theorem bnw_v {T : Nat → Int} {N n i : Nat} {ρ : Nat → Int} : bnwR T N ρ n i 2 = ((n + 1 : Nat) : Int) ∧ bnwR T N ρ n i (202 + 12 * n) = ((twI T N (i + 2) - 14 : Nat) : Int) ∧ bnwR T N ρ n i (203 + 12 * n) = nbI T N (i + 4) ∧ bnwR T N ρ n i (204 + 12 * n) = nbI T N (i + 5) ∧ bnwR T N ρ n i (205 + 12 * n) = nbI T N (i + 4) ∧ bnwR T N ρ n i (206 + 12 * n) = nbI T N (i + 5) ∧ bnwR T N ρ n i (207 + 12 * n) = nbI T N (i + 7) ∧ bnwR T N ρ n i (208 + 12 * n) = nbI T N (i + 9) ∧ bnwR T N ρ n i (209 + 12 * n) = nbI T N (i + 11) := by
  unfold bnwR
  refine ⟨rU_s, ?_, ?_, ?_, ?_, ?_, ?_, ?_, ?_⟩
  · rw [rU_n (by omega), rU_n (by omega), rU_n (by omega), rU_n (by omega), rU_n (by omega), rU_n (by omega), rU_n (by omega), rU_n (by omega), rU_s]
  · rw [rU_n (by omega), rU_n (by omega), rU_n (by omega), rU_n (by omega), rU_n (by omega), rU_n (by omega), rU_n (by omega), rU_s]
  · rw [rU_n (by omega), rU_n (by omega), rU_n (by omega), rU_n (by omega), rU_n (by omega), rU_n (by omega), rU_s]
  · rw [rU_n (by omega), rU_n (by omega), rU_n (by omega), rU_n (by omega), rU_n (by omega), rU_s]
  · rw [rU_n (by omega), rU_n (by omega), rU_n (by omega), rU_n (by omega), rU_s]
  · rw [rU_n (by omega), rU_n (by omega), rU_n (by omega), rU_s]
  · rw [rU_n (by omega), rU_n (by omega), rU_s]
  · rw [rU_n (by omega), rU_s]
theorem DR.boat {T : Nat → Int} {N n i : Nat} {σ σ' α α' : Nat → Nat → Int} {s : bSt} (D : DR T N σ α s) (hn : s.1 2 = (n : Int)) (n7 : n < 7) (F : Fσ ((4, 2) :: STk) σ σ') (e2 : σ' 4 2 = ((n + 1 : Nat) : Int)) (E : Fα AN α α') (h : ∀ q ∈ AN, ∀ b, b < n → α' q b = α q b) (kn : kdI T N (i + 1) = 2) (k7 : α' 7 n = ((twI T N (i + 2) - 14 : Nat) : Int)) (k8 : α' 8 n = nbI T N (i + 4)) (k9 : α' 9 n = nbI T N (i + 5)) (k10 : α' 10 n = nbI T N (i + 7)) (k11 : α' 11 n = nbI T N (i + 9)) (k12 : α' 12 n = nbI T N (i + 11)) (k21 : α' 21 n = ((plI T N (i + 1) : Nat) : Int)) (k22 : α' 22 n = ((enI T N (i + 1) : Nat) : Int)) : DR T N σ' α' (bnwR T N s.1 n i, s.2.1, s.2.2.1, fun b => if b = n then i + 1 else s.2.2.2 b) := by
  have g : ∀ j, j ≠ 2 → (j < 202 + 12 * n ∨ 209 + 12 * n < j) → bnwR T N s.1 n i j = s.1 j := fun j j2 jr => bnw_n j2 jr
  have v := bnw_v (T := T) (N := N) (n := n) (i := i) (ρ := s.1)
  generalize bnwR T N s.1 n i = ρ' at *
  unfold DR LC
  rw [F 4 0 (by decide), F 4 1 (by decide), F 4 3 (by decide), F 4 4 (by decide), F 15 2 (by decide), F 18 2 (by decide), F 3 4 (by decide), F 3 5 (by decide)]
  rw [E 5 (by decide), E 6 (by decide), E 13 (by decide), E 14 (by decide), E 16 (by decide), E 19 (by decide)]
  refine ⟨⟨?_, ?_, ?_, ?_, ?_⟩, fun c hc => ?_, fun b hb => ?_, fun k hk => ?_, D.2.2.2.2⟩
  · show σ 4 0 = ρ' 0
    rw [g 0 (by decide) (by omega)]; exact D.1.1
  · show σ 4 1 = ρ' 1
    rw [g 1 (by decide) (by omega)]; exact D.1.2.1
  · show σ' 4 2 = ρ' 2
    rw [e2, v.1]
  · show σ 4 3 = ρ' 4
    rw [g 4 (by decide) (by omega)]; exact D.1.2.2.2.1
  · show σ 4 4 = ρ' 5
    rw [g 5 (by decide) (by omega)]; exact D.1.2.2.2.2
  · show α 5 c = ρ' (10 + 3 * c) ∧ α 6 c = ρ' (11 + 3 * c)
    rw [g (10 + 3 * c) (by omega) (by omega), g (11 + 3 * c) (by omega) (by omega)]
    exact D.2.1 c hc
  · have hb3 : (b : Int) < ((n + 1 : Nat) : Int) := by rw [← v.1]; exact hb
    have bn : b < n + 1 := Int.ofNat_lt.mp hb3
    show α' 7 b = ρ' (202 + 12 * b) ∧ α' 8 b = ρ' (205 + 12 * b) ∧ α' 9 b = ρ' (206 + 12 * b) ∧ α' 10 b = ρ' (207 + 12 * b) ∧ α' 11 b = ρ' (208 + 12 * b) ∧ α' 12 b = ρ' (209 + 12 * b) ∧ α' 21 b = ((plI T N (if b = n then i + 1 else s.2.2.2 b) : Nat) : Int) ∧ α' 22 b = ((enI T N (if b = n then i + 1 else s.2.2.2 b) : Nat) : Int) ∧ kdI T N (if b = n then i + 1 else s.2.2.2 b) = 2
    by_cases e : b = n
    · subst e
      rw [if_pos rfl, k7, k8, k9, k10, k11, k12, k21, k22, v.2.1, v.2.2.2.2.1, v.2.2.2.2.2.1, v.2.2.2.2.2.2.1, v.2.2.2.2.2.2.2.1, v.2.2.2.2.2.2.2.2]
      exact ⟨rfl, rfl, rfl, rfl, rfl, rfl, rfl, rfl, kn⟩
    · have bl : b < n := Nat.lt_of_le_of_ne (Nat.lt_succ_iff.mp bn) e
      rw [if_neg e, h 7 (by decide) b bl, h 8 (by decide) b bl, h 9 (by decide) b bl, h 10 (by decide) b bl, h 11 (by decide) b bl, h 12 (by decide) b bl, h 21 (by decide) b bl, h 22 (by decide) b bl, g (202 + 12 * b) (by omega) (by omega), g (205 + 12 * b) (by omega) (by omega), g (206 + 12 * b) (by omega) (by omega), g (207 + 12 * b) (by omega) (by omega), g (208 + 12 * b) (by omega) (by omega), g (209 + 12 * b) (by omega) (by omega)]
      exact D.2.2.1 b (by rw [hn]; exact Int.ofNat_lt.mpr bl)
  · show α 13 k = ρ' (290 + 3 * k) ∧ α 14 k = ρ' (291 + 3 * k)
    rw [g (290 + 3 * k) (by omega) (by omega), g (291 + 3 * k) (by omega) (by omega)]
    exact D.2.2.2.1 k hk
theorem c_boatL {X : mXX} {d : Nat} {Q : Option mV → mS → Prop} {σ α : Nat → Nat → Int} {T : Nat → Int} {N i : Nat} {s : bSt} (hT : α 2 = T) (ok : okT T N) (C : CTk σ T N i) (D : DR T N σ α s) (w : SW s) (hq : cLn T N (lnBoat T N s i) σ α Q) : Ca X (d + 11) 87 [vR 3] (S0, σ, α) Q := by
  have b2 := w.1.2.2.1
  obtain ⟨n, hn⟩ : ∃ n : Nat, s.1 2 = (n : Int) := ⟨(s.1 2).toNat, (Int.toNat_of_nonneg b2.1).symm⟩
  have eN : (s.1 2).toNat = n := by rw [hn, Int.toNat_natCast]
  unfold lnBoat at hq
  have e42 : σ 4 2 = (n : Int) := D.1.2.2.1.trans hn
  refine vc87_0 ?_
  rw [e42]
  refine ⟨fun z => ?_, fun z => ?_⟩
  · have n7 : n < 7 := Int.ofNat_lt.mp z
    rw [if_neg (fun y => by rw [hn] at y; exact absurd (Int.ofNat.inj y) (Nat.ne_of_lt n7)), eN] at hq
    have E : ft (boF T N s n i) (sgF T N 59 (i + 12)) = ft (nmF T N s.2.2.2 n (i + 1)) (ft (kdF T N (i + 2)) (ft (wdF T N 9 (i + 3)) (ft (cellF T N s.1 1 (i + 4)) (ft (wdF T N 10 (i + 6)) (ft (nbF T N 0 99 (i + 7)) (ft (wdF T N 11 (i + 8)) (ft (nbF T N 0 99 (i + 9)) (ft (wdF T N 12 (i + 10)) (ft (nbF T N 0 9 (i + 11)) (sgF T N 59 (i + 12))))))))))) := by
      unfold boF
      simp only [ft_a]
    rw [E] at hq
    have tt : ∀ {α' : Nat → Nat → Int}, upN n α α' → α' 2 = T := fun h => (h.1 2 (by decide)).trans hT
    have AA : ∀ q ∈ AN, q ∈ AB := by decide
    refine c_adv hT ok C (fun σ1 F1 C1 => vc87_27 (c_takeName hT ok C1 (D.fg (F1.wk S5_T)) hn n7 (fun z1 σ2 F2 C2 => ?_) (fun z1 => ?_)))
    · rw [z1, ft_0] at hq
      have G2 : Fσ STg σ σ2 := (F1.wk S5_T).tr (F2.wk S5_T)
      have U2 : upN n α (mUp (mUp α 21 n ((plI T N (i + 1) : Nat) : Int)) 22 n ((enI T N (i + 1) : Nat) : Int)) := upN.rf.u.u
      refine vc87_32 ⟨fun y => absurd y (by decide), fun _ => ?_⟩
      refine c_takeKind (tt U2) ok C2 n7 (fun z2 σ3 F3 C3 => ?_) (fun z2 => ?_)
      · rw [show kdF T N (i + 2) = 0 from z2, ft_0] at hq
        have G3 := G2.tr (F3.wk S5_T)
        have U3 : upN n α (mUp (mUp (mUp α 21 n ((plI T N (i + 1) : Nat) : Int)) 22 n ((enI T N (i + 1) : Nat) : Int)) 7 n ((twI T N (i + 1 + 1) - 14 : Nat) : Int)) := U2.u
        refine vc87_40 ⟨fun y => absurd y (by decide), fun _ => ?_⟩
        refine c_takeWord (w := 9) (tt U3) ok C3 (by decide) (fun z3 σ4 F4 C4 => ?_) (fun z3 => ?_)
        · rw [show wdF T N 9 (i + 3) = 0 from z3, ft_0] at hq
          have G4 := G3.tr (F4.wk S5_T)
          refine vc87_49 ⟨fun y => absurd y (by decide), fun _ => ?_⟩
          refine c_takeCell (wo := 1) (tt U3) ok C4 ((D.fg G4).nb hn U3.1 U3.2) w (fun z4 σ5 F5 C5 e8 e9 => ?_) (fun z4 σ5 F5 e6 => ?_)
          · rw [show cellF T N s.1 1 (i + 4) = 0 from z4, ft_0] at hq
            have G5 := G4.tr F5
            refine vc87_57 ⟨fun _ => ⟨mInA_n n7, mInA_n n7, ?_⟩, fun y => absurd y (by decide)⟩
            rw [Int.toNat_natCast, e8, e9]
            have U5 := (U3.u (a := 8) (v := nbI T N (i + 4))).u (a := 9) (v := nbI T N (i + 5))
            refine c_takeWord (w := 10) (tt U5) ok C5 (by decide) (fun z5 σ6 F6 C6 => ?_) (fun z5 => ?_)
            · rw [show wdF T N 10 (i + 6) = 0 from z5, ft_0] at hq
              have G6 := G5.tr (F6.wk S5_T)
              refine vc87_94 ⟨fun y => absurd y (by decide), fun _ => ?_⟩
              refine c_takeNumber (tt U5) ok C6 (fun z6 σ7 F7 C7 e7 => ?_) (fun z6 σ7 F7 e6 => ?_)
              · rw [show nbF T N 0 99 (i + 7) = 0 from z6, ft_0] at hq
                have G7 := G6.tr (F7.wk (by decide))
                refine vc87_104 ⟨fun _ => ⟨mInA_n n7, ?_⟩, fun y => absurd y (by decide)⟩
                rw [Int.toNat_natCast, e7]
                have U7 := U5.u (a := 10) (v := nbI T N (i + 7))
                refine c_takeWord (w := 11) (tt U7) ok C7 (by decide) (fun z7 σ8 F8 C8 => ?_) (fun z7 => ?_)
                · rw [show wdF T N 11 (i + 8) = 0 from z7, ft_0] at hq
                  have G8 := G7.tr (F8.wk S5_T)
                  refine vc87_128 ⟨fun y => absurd y (by decide), fun _ => ?_⟩
                  refine c_takeNumber (tt U7) ok C8 (fun z8 σ9 F9 C9 e7 => ?_) (fun z8 σ9 F9 e6 => ?_)
                  · rw [show nbF T N 0 99 (i + 9) = 0 from z8, ft_0] at hq
                    have G9 := G8.tr (F9.wk (by decide))
                    refine vc87_138 ⟨fun _ => ⟨mInA_n n7, ?_⟩, fun y => absurd y (by decide)⟩
                    rw [Int.toNat_natCast, e7]
                    have U9 := U7.u (a := 11) (v := nbI T N (i + 9))
                    refine c_takeWord (w := 12) (tt U9) ok C9 (by decide) (fun z9 σa Fa Ca' => ?_) (fun z9 => ?_)
                    · rw [show wdF T N 12 (i + 10) = 0 from z9, ft_0] at hq
                      have Ga := G9.tr (Fa.wk S5_T)
                      refine vc87_162 ⟨fun y => absurd y (by decide), fun _ => ?_⟩
                      refine c_takeNumber (tt U9) ok Ca' (fun za σb Fb Cb e7 => ?_) (fun za σb Fb e6 => ?_)
                      · rw [show nbF T N 0 9 (i + 11) = 0 from za, ft_0] at hq
                        have Gb := Ga.tr (Fb.wk (by decide))
                        refine vc87_172 ⟨fun _ => ⟨mInA_n n7, ?_⟩, fun y => absurd y (by decide)⟩
                        rw [Int.toNat_natCast, e7, wrS (k := n) (Nat.lt_trans n7 (by decide))]
                        have Ub := U9.u (a := 12) (v := nbI T N (i + 11))
                        refine c_takeSign (tt Ub) ok (Cb.up (by decide)) (fun zb σc Fc Cc => vc87_206 ⟨Or.inr rfl, ?_⟩) (fun zb => vc87_206 ⟨Or.inl rfl, ?_⟩)
                        · have Gc : Fσ ((4, 2) :: STg) σ σc := ((Gb.wk (by decide)).tr (Fσ.up (by decide))).tr (Fc.wk (by decide))
                          have ec2 : σc 4 2 = ((n + 1 : Nat) : Int) := by rw [Fc 4 2 (by decide), up_s]
                          refine hq.1 zb σc _ (Gc.wk (by decide)) (Ub.1.wk AA) Cc ?_
                          have kn : kdI T N (i + 1) = 2 := by
                            unfold nmF at z1
                            by_cases p : kdI T N (i + 1) = 2 ∧ 22 < twI T N (i + 1)
                            · exact p.1
                            · rw [if_neg p] at z1; exact absurd z1 (fa_0 (by decide))
                          exact D.boat hn n7 (Gc.wk (by decide)) ec2 Ub.1 Ub.2 kn (by rw [up_o (by decide), up_o (by decide), up_o (by decide), up_o (by decide), up_o (by decide), up_s]) (by rw [up_o (by decide), up_o (by decide), up_o (by decide), up_o (by decide), up_s]) (by rw [up_o (by decide), up_o (by decide), up_o (by decide), up_s]) (by rw [up_o (by decide), up_o (by decide), up_s]) (by rw [up_o (by decide), up_s]) up_s (by rw [up_o (by decide), up_o (by decide), up_o (by decide), up_o (by decide), up_o (by decide), up_o (by decide), up_o (by decide), up_s]) (by rw [up_o (by decide), up_o (by decide), up_o (by decide), up_o (by decide), up_o (by decide), up_o (by decide), up_s])
                        · exact hq.2 zb _ _ ((((Gb.wk TgT).wk ST_B).tr (Fσ.up (by decide))).tr (Fσ.up (by decide))) (Ub.1.wk AA) up_s
                      · rw [show ft (nbF T N 0 9 (i + 11)) _ = nbF T N 0 9 (i + 11) from ft_n za] at hq
                        exact vc87_172 ⟨fun y => absurd rfl y, fun _ => hq.2 za σb _ (((Ga.wk TgT).tr (Fb.wk (by decide))).wk ST_B) (U9.1.wk AA) e6⟩
                    · rw [show ft (wdF T N 12 (i + 10)) _ = wdF T N 12 (i + 10) from ft_n z9] at hq
                      exact vc87_162 ⟨fun _ => hq.2 z9 _ _ G9.bd (U9.1.wk AA) up_s, fun y => absurd rfl y⟩
                  · rw [show ft (nbF T N 0 99 (i + 9)) _ = nbF T N 0 99 (i + 9) from ft_n z8] at hq
                    exact vc87_138 ⟨fun y => absurd rfl y, fun _ => hq.2 z8 σ9 _ (((G8.wk TgT).tr (F9.wk (by decide))).wk ST_B) (U7.1.wk AA) e6⟩
                · rw [show ft (wdF T N 11 (i + 8)) _ = wdF T N 11 (i + 8) from ft_n z7] at hq
                  exact vc87_128 ⟨fun _ => hq.2 z7 _ _ G7.bd (U7.1.wk AA) up_s, fun y => absurd rfl y⟩
              · rw [show ft (nbF T N 0 99 (i + 7)) _ = nbF T N 0 99 (i + 7) from ft_n z6] at hq
                exact vc87_104 ⟨fun y => absurd rfl y, fun _ => hq.2 z6 σ7 _ (((G6.wk TgT).tr (F7.wk (by decide))).wk ST_B) (U5.1.wk AA) e6⟩
            · rw [show ft (wdF T N 10 (i + 6)) _ = wdF T N 10 (i + 6) from ft_n z5] at hq
              exact vc87_94 ⟨fun _ => hq.2 z5 _ _ G5.bd (U5.1.wk AA) up_s, fun y => absurd rfl y⟩
          · rw [show ft (cellF T N s.1 1 (i + 4)) _ = cellF T N s.1 1 (i + 4) from ft_n z4] at hq
            exact vc87_57 ⟨fun y => absurd rfl y, fun _ => hq.2 z4 σ5 _ (((G4.wk TgT).tr F5).wk ST_B) (U3.1.wk AA) e6⟩
        · rw [show ft (wdF T N 9 (i + 3)) _ = wdF T N 9 (i + 3) from ft_n z3] at hq
          exact vc87_49 ⟨fun _ => hq.2 z3 _ _ G3.bd (U3.1.wk AA) up_s, fun y => absurd rfl y⟩
      · rw [show ft (kdF T N (i + 2)) _ = kdF T N (i + 2) from ft_n z2] at hq
        exact vc87_40 ⟨fun _ => hq.2 z2 _ _ G2.bd (U2.1.wk AA) up_s, fun y => absurd rfl y⟩
    · rw [ft_n z1] at hq
      exact vc87_32 ⟨fun _ => hq.2 z1 _ α (F1.wk S5_T).bd Fα.rf up_s, fun y => absurd rfl y⟩
  · have e7 : s.1 2 = 7 := by
      rw [hn]
      have := b2.2
      rw [hn] at this
      clear e42 hq
      omega
    rw [if_pos e7] at hq
    exact c_fail ok.1 C (by decide) (vc87_19 ⟨Or.inl rfl, hq.2 (fa_0 (by decide)) _ α (Fσ.up (by decide)) Fα.rf up_s⟩)
