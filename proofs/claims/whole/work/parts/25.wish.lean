section EWISH
variable {σ ρ : St} {R P : Nat}
theorem person_loop (ρ : St) {p : Nat} (hp : p < 16) : ∀ (n j : Nat) (g : Nat → Int), j ≤ 60 → 60 - j < n → fX11_person_L98 n (p : Int) (j : Int) (sR ρ 21 g) = some ((p : Int), sF (sR ρ 21 (fun k => if p * 60 + j ≤ k ∧ k < p * 60 + 60 then -1 else g k)) 2 (ρ.1 2 + 1)) := by
  intro n
  induction n with
  | zero => intro j g _ h; omega
  | succ n ih =>
    intro j g hj hn
    show fX11_person_B98 (fX11_person_L98 n) (p : Int) (j : Int) (sR ρ 21 g) = _
    unfold fX11_person_B98
    by_cases e : j = 60
    · subst e
      simp (disch := omega) only [w32_eq, gI_eq, gB_eq, g0_eq, ix_nat, ix_eq, bd_some, bv_some, Int.toNat_natCast, Int.toNat_zero, sF_1, sF_2, sA_1, sA_2, sR_1, sR_2, ↓reduceIte, if_pos, if_neg]
    · simp (disch := omega) only [w32_eq, gI_eq, gB_eq, g0_eq, ix_nat, ix_eq, bd_some, bv_some, Int.toNat_natCast, Int.toNat_zero, sF_1, sF_2, sA_1, sA_2, sR_1, sR_2, ↓reduceIte, if_pos, if_neg]
      rw [show (60 * (p : Int) + (j : Int)).toNat = p * 60 + j by omega, sA_sR]
      refine (ih (j + 1) _ (by omega) (by omega)).trans ?_
      rw [sR_eq ρ 21 (fun k => ?_)]
      by_cases h1 : p * 60 + (j + 1) ≤ k ∧ k < p * 60 + 60
      · rw [if_pos h1, if_pos (by omega)]
      · rw [if_neg h1]
        by_cases h2 : k = p * 60 + j
        · rw [if_pos h2, if_pos (by omega)]
        · rw [if_neg h2, if_neg (by omega)]
theorem op_person (h : Inv σ ρ) {a b : Int} (ha : rg a) (hb : rg b) : Op (fX10_person σ a b) (fX11_person ρ a b) := by
  have hI := h
  obtain ⟨R, P, N, T, B, hB, hR, hS, hP, hW, hL, hK, hT, hD, hN, hQ, hX⟩ := h
  unfold rg at ha hb
  obtain ⟨b1, b2, b3, b4, b5⟩ := id hB
  have p1 := hP.1
  by_cases hok : (1 ≤ a ∧ a ≤ 4) ∧ (-1 ≤ b ∧ b ≤ 7)
  · obtain ⟨h1, h2⟩ := hok
    have ec : fX10_person σ a b = fX10_person_L30 a b σ := by
      unfold fX10_person fX10_person_L0
      by_cases e : b = -1
      · simp (disch := omega) only [w32_eq, gI_eq, gB_eq, g0_eq, ix_nat, ix_eq, bd_some, bv_some, Int.toNat_natCast, Int.toNat_zero, sF_1, sF_2, sA_1, sA_2, sR_1, sR_2, ↓reduceIte, if_pos, if_neg, within_eq]
      · simp (disch := omega) only [w32_eq, gI_eq, gB_eq, g0_eq, ix_nat, ix_eq, bd_some, bv_some, Int.toNat_natCast, Int.toNat_zero, sF_1, sF_2, sA_1, sA_2, sR_1, sR_2, ↓reduceIte, if_pos, if_neg, within_eq]
    rw [ec]
    unfold fX10_person_L30
    by_cases h4 : P = 16
    · refine ⟨-4, σ, ρ, ?_, ?_, hI⟩
      · simp (disch := omega) only [w32_eq, gI_eq, gB_eq, g0_eq, ix_nat, ix_eq, bd_some, bv_some, Int.toNat_natCast, Int.toNat_zero, sF_1, sF_2, sA_1, sA_2, sR_1, sR_2, ↓reduceIte, if_pos, if_neg, b3]
      · unfold fX11_person fX11_person_L0
        simp (disch := omega) only [w32_eq, gI_eq, gB_eq, g0_eq, ix_nat, ix_eq, bd_some, bv_some, Int.toNat_natCast, Int.toNat_zero, sF_1, sF_2, sA_1, sA_2, sR_1, sR_2, ↓reduceIte, if_pos, if_neg, in_eq, p1]
    · refine ⟨(P : Int), sF (sA (sF (sA (sA (sA σ 5 P a) 6 P b) 9 P (-1)) 3 ((P : Int) + 1)) 16 P ((P : Int))) 9 ((P : Int) + 1), sF (sR (sA (sA (sA (sA (sA (sA (sA ρ 3 P a) 4 P b) 5 P 0) 7 P (-1)) 8 P 0) 9 P 0) 10 P (P : Int)) 21 (fun k => if P * 60 + 0 ≤ k ∧ k < P * 60 + 60 then -1 else ρ.2 21 k)) 2 ((P : Int) + 1), ?_, ?_, ?_⟩
      · unfold fX3_add fX3_add_L0 fX9_addLast fX9_addLast_L0
        simp (disch := omega) only [w32_eq, gI_eq, gB_eq, g0_eq, ix_nat, ix_eq, bd_some, bv_some, Int.toNat_natCast, Int.toNat_zero, sF_1, sF_2, sA_1, sA_2, sR_1, sR_2, ↓reduceIte, if_pos, if_neg, b3, b5]
        rw [show (P : Int) + 1 - 1 = P by omega]
      · unfold fX11_person fX11_person_L0
        simp (disch := omega) only [w32_eq, gI_eq, gB_eq, g0_eq, ix_nat, ix_eq, bd_some, bv_some, Int.toNat_natCast, Int.toNat_zero, sF_1, sF_2, sA_1, sA_2, sR_1, sR_2, ↓reduceIte, if_pos, if_neg, in_eq, p1]
        have e := person_loop (sA (sA (sA (sA (sA (sA (sA ρ 3 P a) 4 P b) 5 P 0) 7 P (-1)) 8 P 0) 9 P 0) 10 P (P : Int)) (p := P) (by omega) 1000 0 (ρ.2 21) (by omega) (by omega)
        rw [show sR (sA (sA (sA (sA (sA (sA (sA ρ 3 P a) 4 P b) 5 P 0) 7 P (-1)) 8 P 0) 9 P 0) 10 P (P : Int)) 21 (ρ.2 21) = (sA (sA (sA (sA (sA (sA (sA ρ 3 P a) 4 P b) 5 P 0) 7 P (-1)) 8 P 0) 9 P 0) 10 P (P : Int)) from sR_self _ 21] at e
        refine e.trans ?_
        simp (disch := omega) only [w32_eq, gI_eq, gB_eq, g0_eq, ix_nat, ix_eq, bd_some, bv_some, Int.toNat_natCast, Int.toNat_zero, sF_1, sF_2, sA_1, sA_2, sR_1, sR_2, ↓reduceIte, if_pos, if_neg, p1]
      · refine ⟨R, P + 1, N, T, B, ⟨b1, b2, by simp (disch := omega) only [w32_eq, gI_eq, gB_eq, g0_eq, ix_nat, ix_eq, bd_some, bv_some, Int.toNat_natCast, Int.toNat_zero, sF_1, sF_2, sA_1, sA_2, sR_1, sR_2, ↓reduceIte, if_pos, if_neg]; omega, by omega, by simp (disch := omega) only [w32_eq, gI_eq, gB_eq, g0_eq, ix_nat, ix_eq, bd_some, bv_some, Int.toNat_natCast, Int.toNat_zero, sF_1, sF_2, sA_1, sA_2, sR_1, sR_2, ↓reduceIte, if_pos, if_neg]; omega⟩, hR, hS, ⟨by simp (disch := omega) only [w32_eq, gI_eq, gB_eq, g0_eq, ix_nat, ix_eq, bd_some, bv_some, Int.toNat_natCast, Int.toNat_zero, sF_1, sF_2, sA_1, sA_2, sR_1, sR_2, ↓reduceIte, if_pos, if_neg]; omega, fun p hp => ?_⟩, ⟨fun p hp => ?_, fun p h1 h2 => ?_⟩, ⟨fun p hp => ?_, fun r hr => ?_, hL.2.2⟩, ⟨fun p hp => ?_, fun p h1 h2 => ?_⟩, fun i hi => ?_, hD, ⟨hN.1, hN.2.1, hN.2.2.1, fun p hp n hn => ?_, fun p h1 h2 n hn => ?_⟩, hQ, hX⟩
        · by_cases e : p = P
          · subst e; simp (disch := omega) only [w32_eq, gI_eq, gB_eq, g0_eq, ix_nat, ix_eq, bd_some, bv_some, Int.toNat_natCast, Int.toNat_zero, sF_1, sF_2, sA_1, sA_2, sR_1, sR_2, ↓reduceIte, if_pos, if_neg]; exact ⟨trivial, h1, trivial, h2⟩
          · have := hP.2 p (by omega)
            (simp (disch := omega) only [w32_eq, gI_eq, gB_eq, g0_eq, ix_nat, ix_eq, bd_some, bv_some, Int.toNat_natCast, Int.toNat_zero, sF_1, sF_2, sA_1, sA_2, sR_1, sR_2, ↓reduceIte, if_pos, if_neg, true_and, and_true] <;> omega)
        · by_cases e : p = P
          · subst e
            have := hW.2 p (by omega) (by omega)
            refine ⟨by simp (disch := omega) only [w32_eq, gI_eq, gB_eq, g0_eq, ix_nat, ix_eq, bd_some, bv_some, Int.toNat_natCast, Int.toNat_zero, sF_1, sF_2, sA_1, sA_2, sR_1, sR_2, ↓reduceIte, if_pos, if_neg]; exact this, by simp (disch := omega) only [w32_eq, gI_eq, gB_eq, g0_eq, ix_nat, ix_eq, bd_some, bv_some, Int.toNat_natCast, Int.toNat_zero, sF_1, sF_2, sA_1, sA_2, sR_1, sR_2, ↓reduceIte, if_pos, if_neg]; omega, fun k hk => ?_⟩
            exfalso; revert hk; simp (disch := omega) only [w32_eq, gI_eq, gB_eq, g0_eq, ix_nat, ix_eq, bd_some, bv_some, Int.toNat_natCast, Int.toNat_zero, sF_1, sF_2, sA_1, sA_2, sR_1, sR_2, ↓reduceIte, if_pos, if_neg]; omega
          · obtain ⟨w1, w2, w3⟩ := hW.1 p (by omega)
            refine ⟨by simp (disch := omega) only [w32_eq, gI_eq, gB_eq, g0_eq, ix_nat, ix_eq, bd_some, bv_some, Int.toNat_natCast, Int.toNat_zero, sF_1, sF_2, sA_1, sA_2, sR_1, sR_2, ↓reduceIte, if_pos, if_neg]; exact w1, by simp (disch := omega) only [w32_eq, gI_eq, gB_eq, g0_eq, ix_nat, ix_eq, bd_some, bv_some, Int.toNat_natCast, Int.toNat_zero, sF_1, sF_2, sA_1, sA_2, sR_1, sR_2, ↓reduceIte, if_pos, if_neg]; omega, fun k hk => w3 k ?_⟩
            revert hk; simp (disch := omega) only [w32_eq, gI_eq, gB_eq, g0_eq, ix_nat, ix_eq, bd_some, bv_some, Int.toNat_natCast, Int.toNat_zero, sF_1, sF_2, sA_1, sA_2, sR_1, sR_2, ↓reduceIte, if_pos, if_neg]; exact id
        · exact hW.2 p (by omega) h2
        · by_cases e : p = P
          · subst e; (simp (disch := omega) only [w32_eq, gI_eq, gB_eq, g0_eq, ix_nat, ix_eq, bd_some, bv_some, Int.toNat_natCast, Int.toNat_zero, sF_1, sF_2, sA_1, sA_2, sR_1, sR_2, ↓reduceIte, if_pos, if_neg, true_and, and_true] <;> omega)
          · have := hL.1 p (by omega)
            (simp (disch := omega) only [w32_eq, gI_eq, gB_eq, g0_eq, ix_nat, ix_eq, bd_some, bv_some, Int.toNat_natCast, Int.toNat_zero, sF_1, sF_2, sA_1, sA_2, sR_1, sR_2, ↓reduceIte, if_pos, if_neg, true_and, and_true] <;> omega)
        · obtain ⟨l1, l2, l3⟩ := hL.2.1 r hr
          refine ⟨l1, by simp (disch := omega) only [w32_eq, gI_eq, gB_eq, g0_eq, ix_nat, ix_eq, bd_some, bv_some, Int.toNat_natCast, Int.toNat_zero, sF_1, sF_2, sA_1, sA_2, sR_1, sR_2, ↓reduceIte, if_pos, if_neg]; omega, fun p hp => ?_⟩
          by_cases e : p = P
          · subst e; (simp (disch := omega) only [w32_eq, gI_eq, gB_eq, g0_eq, ix_nat, ix_eq, bd_some, bv_some, Int.toNat_natCast, Int.toNat_zero, sF_1, sF_2, sA_1, sA_2, sR_1, sR_2, ↓reduceIte, if_pos, if_neg, true_and, and_true] <;> omega)
          · have := l3 p (by omega)
            simp (disch := omega) only [w32_eq, gI_eq, gB_eq, g0_eq, ix_nat, ix_eq, bd_some, bv_some, Int.toNat_natCast, Int.toNat_zero, sF_1, sF_2, sA_1, sA_2, sR_1, sR_2, ↓reduceIte, if_pos, if_neg]; exact this
        · by_cases e : p = P
          · subst e
            have := hK.2 p (by omega) (by omega)
            exact ⟨by simp (disch := omega) only [w32_eq, gI_eq, gB_eq, g0_eq, ix_nat, ix_eq, bd_some, bv_some, Int.toNat_natCast, Int.toNat_zero, sF_1, sF_2, sA_1, sA_2, sR_1, sR_2, ↓reduceIte, if_pos, if_neg]; exact this.1, by simp (disch := omega) only [w32_eq, gI_eq, gB_eq, g0_eq, ix_nat, ix_eq, bd_some, bv_some, Int.toNat_natCast, Int.toNat_zero, sF_1, sF_2, sA_1, sA_2, sR_1, sR_2, ↓reduceIte, if_pos, if_neg]; exact this.2, Or.inl (by simp (disch := omega) only [w32_eq, gI_eq, gB_eq, g0_eq, ix_nat, ix_eq, bd_some, bv_some, Int.toNat_natCast, Int.toNat_zero, sF_1, sF_2, sA_1, sA_2, sR_1, sR_2, ↓reduceIte, if_pos, if_neg])⟩
          · have := hK.1 p (by omega)
            simp (disch := omega) only [w32_eq, gI_eq, gB_eq, g0_eq, ix_nat, ix_eq, bd_some, bv_some, Int.toNat_natCast, Int.toNat_zero, sF_1, sF_2, sA_1, sA_2, sR_1, sR_2, ↓reduceIte, if_pos, if_neg]; exact this
        · exact hK.2 p (by omega) h2
        · by_cases e : i = P
          · subst e; (simp (disch := omega) only [w32_eq, gI_eq, gB_eq, g0_eq, ix_nat, ix_eq, bd_some, bv_some, Int.toNat_natCast, Int.toNat_zero, sF_1, sF_2, sA_1, sA_2, sR_1, sR_2, ↓reduceIte, if_pos, if_neg, true_and, and_true] <;> omega)
          · have := hT i (by omega)
            (simp (disch := omega) only [w32_eq, gI_eq, gB_eq, g0_eq, ix_nat, ix_eq, bd_some, bv_some, Int.toNat_natCast, Int.toNat_zero, sF_1, sF_2, sA_1, sA_2, sR_1, sR_2, ↓reduceIte, if_pos, if_neg, true_and, and_true] <;> omega)
        · by_cases e : p = P
          · subst e
            have n60 := hN.2.2.1
            have := hN.2.2.2.2 p (by omega) (by omega) n (by omega)
            (simp (disch := omega) only [w32_eq, gI_eq, gB_eq, g0_eq, ix_nat, ix_eq, bd_some, bv_some, Int.toNat_natCast, Int.toNat_zero, sF_1, sF_2, sA_1, sA_2, sR_1, sR_2, ↓reduceIte, if_pos, if_neg, true_and, and_true] <;> omega)
          · have := hN.2.2.2.1 p (by omega) n hn
            have := hN.2.2.1
            simp (disch := omega) only [w32_eq, gI_eq, gB_eq, g0_eq, ix_nat, ix_eq, bd_some, bv_some, Int.toNat_natCast, Int.toNat_zero, sF_1, sF_2, sA_1, sA_2, sR_1, sR_2, ↓reduceIte, if_pos, if_neg]; exact hN.2.2.2.1 p (by omega) n hn
        · exact hN.2.2.2.2 p (by omega) h2 n hn
  · refine ⟨-2, σ, ρ, ?_, ?_, hI⟩
    · unfold fX10_person fX10_person_L0
      by_cases h1 : 1 ≤ a ∧ a ≤ 4
      · simp (disch := omega) only [w32_eq, gI_eq, gB_eq, g0_eq, ix_nat, ix_eq, bd_some, bv_some, Int.toNat_natCast, Int.toNat_zero, sF_1, sF_2, sA_1, sA_2, sR_1, sR_2, ↓reduceIte, if_pos, if_neg, within_eq]
      · simp (disch := omega) only [w32_eq, gI_eq, gB_eq, g0_eq, ix_nat, ix_eq, bd_some, bv_some, Int.toNat_natCast, Int.toNat_zero, sF_1, sF_2, sA_1, sA_2, sR_1, sR_2, ↓reduceIte, if_pos, if_neg, within_eq]
    · unfold fX11_person fX11_person_L0
      by_cases h1 : 1 ≤ a ∧ a ≤ 4
      · simp (disch := omega) only [w32_eq, gI_eq, gB_eq, g0_eq, ix_nat, ix_eq, bd_some, bv_some, Int.toNat_natCast, Int.toNat_zero, sF_1, sF_2, sA_1, sA_2, sR_1, sR_2, ↓reduceIte, if_pos, if_neg, in_eq]
      · simp (disch := omega) only [w32_eq, gI_eq, gB_eq, g0_eq, ix_nat, ix_eq, bd_some, bv_some, Int.toNat_natCast, Int.toNat_zero, sF_1, sF_2, sA_1, sA_2, sR_1, sR_2, ↓reduceIte, if_pos, if_neg, in_eq]
end EWISH
