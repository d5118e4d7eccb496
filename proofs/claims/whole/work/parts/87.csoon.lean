/-- the answer -/
def SNA (ρ : Nat → Int) (P : List (Int × Int)) (a n : Nat) (f what r : Int) : Prop := ∃ s mvs, SNP ρ P a n f s mvs ∧ r = if what = -1 then s else if what < s then mvs what.toNat else -1
def snB (ρ : Nat → Int) (b f what : Int) : Prop := (0 ≤ b ∧ b < ρ 2) ∧ (0 ≤ f ∧ f ≤ 999) ∧ -1 ≤ what
theorem SNP.b {ρ : Nat → Int} {P : List (Int × Int)} {a n : Nat} {f r : Int} {mvs : Nat → Int} (S : SNP ρ P a n f r mvs) : -1 ≤ r ∧ r ≤ 24 := by
  rcases S with ⟨H, h1, h2, _⟩ | ⟨_, h⟩
  · rw [h2]; clear h2; omega
  · rw [h]; decide
theorem SNP.u {ρ : Nat → Int} {P : List (Int × Int)} {a n : Nat} {f r r' : Int} {m m' : Nat → Int} (S : SNP ρ P a n f r m) (S' : SNP ρ P a n f r' m') : r = r' ∧ ∀ j : Nat, (j : Int) < r → m j = m' j := by
  rcases S with ⟨H, h1, h2, ⟨c, c1, c2⟩, h4, h5⟩ | ⟨g1, g2⟩
  · rcases S' with ⟨H', h1', h2', ⟨c', c1', c2'⟩, h4', h5'⟩ | ⟨g1', g2'⟩
    · have e : H = H' := by
        rcases Nat.lt_trichotomy H H' with q | q | q
        · exact absurd c2 (h4' H c q c1)
        · exact q
        · exact absurd c2' (h4 H' c' q c1')
      subst e
      refine ⟨by rw [h2, h2'], fun j hj => ?_⟩
      rw [h2] at hj
      have jH : j < H := Int.ofNat_lt.mp hj
      obtain ⟨d1, x1, p1, q1⟩ := h5 j jH
      obtain ⟨d2, x2, p2, q2⟩ := h5' j jH
      have u := GP_u p1 p2
      rw [q1, q2, u.2]
    · exact absurd c2 (g1' H c h1 c1)
  · rcases S' with ⟨H', h1', h2', ⟨c', c1', c2'⟩, h4', h5'⟩ | ⟨g1', g2'⟩
    · exact absurd c2' (g1 H' c' h1' c1')
    · refine ⟨by rw [g2, g2'], fun j hj => ?_⟩
      rw [g2] at hj
      omega
theorem SNA.u {ρ : Nat → Int} {P : List (Int × Int)} {a n : Nat} {f what r r' : Int} (hw : -1 ≤ what) (S : SNA ρ P a n f what r) (S' : SNA ρ P a n f what r') : r = r' := by
  obtain ⟨s, m, S1, e⟩ := S
  obtain ⟨s', m', S1', e'⟩ := S'
  have u := S1.u S1'
  rw [e, e', ← u.1]
  by_cases h : what = -1
  · rw [if_pos h, if_pos h]
  · rw [if_neg h, if_neg h]
    by_cases q : what < s
    · rw [if_pos q, if_pos q]
      refine u.2 _ ?_
      clear e e' u S1 S1'
      omega
    · rw [if_neg q, if_neg q]
theorem c_soon {X : mXX} {d : Nat} {Q : Option mV → mS → Prop} {σ α : Nat → Nat → Int} {ρ : Nat → Int} {P W : List (Int × Int)} {b f what : Int} (C : CI σ α ρ P W) (w : WF ρ) (o : lwO 3 P) (h1 : snB ρ b f what → ∀ σ' α' r, Fσ SF σ σ' → Fα ZF α α' → CI σ' α' ρ P W → SNA ρ P (fsN ρ b.toNat) (szR ρ b.toNat) f what r → Q (some (vI r)) (S0, σ', α')) (h0 : ¬ snB ρ b f what → Q (some (vI (-1))) (S0, σ, α)) : Ca X (d + 9) 110 [vR 0, vI b, vI f, vI what] (S0, σ, α) Q := by
  unfold snB at h1 h0
  refine vc110_0 ?_
  refine c_hasBoat C.1.2.2.1 ?_
  by_cases hb : 0 ≤ b ∧ b < ρ 2
  · rw [show hbR ρ b = 1 from if_pos hb]
    obtain ⟨k, hk⟩ := Int.eq_ofNat_of_zero_le hb.1
    subst hk
    rw [Int.toNat_natCast] at h1
    refine vc110_8 ⟨fun q => absurd q (by decide), fun _ => ⟨fun q => h0 (fun z => absurd z.2.1.1 (Int.not_le.mpr q)), fun q1 => ⟨fun q => h0 (fun z => absurd z.2.1.2 (Int.not_le.mpr q)), fun q2 => ⟨fun q3 => ?_, fun q => h0 (fun z => absurd z.2.2 (Int.not_le.mpr q))⟩⟩⟩⟩
    refine c_find C w o hb.2 ?_
    intro σ' α' r hs hf C' S
    have z := fun r2 => h1 ⟨hb, ⟨Int.not_lt.mp q1, Int.not_lt.mp q2⟩, Int.not_lt.mp q3⟩ σ' α' r2 hs hf C'
    have rb := S.b
    refine vc110_38 ⟨fun q => ⟨fun p => ?_, fun p => ⟨?_, ?_⟩⟩, fun q => ?_⟩
    · exact z _ ⟨r, α' 91, S, by rw [if_neg q, if_neg p]⟩
    · unfold mInA
      clear z h1 h0 S
      omega
    · exact z _ ⟨r, α' 91, S, by rw [if_neg q, if_pos p]⟩
    · exact z _ ⟨r, α' 91, S, by rw [if_pos q]⟩
  · rw [show hbR ρ b = 0 from if_neg hb]
    exact vc110_8 ⟨fun _ => h0 (fun z => hb z.1), fun q => absurd rfl q⟩
