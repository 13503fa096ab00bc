/-! ===== calls, one by one ===== -/
section EROOM
variable {σ ρ : St}
theorem op_room (h : Inv σ ρ) {a b c : Int} (ha : rg a) (hb : rg b) (hc : rg c) : Op (fX10_room σ a b c) (fX11_room ρ a b c) := by
  have hI := h
  obtain ⟨R, P, N, T, B, hB, hR, hS, hP, hW, hL, hK, hT, hD, hN, hQ, hX⟩ := h
  unfold rg at *
  have b1 := hB.1
  have b2 := hB.2.1
  have r1 := hR.1
  by_cases hok : (0 ≤ a ∧ a ≤ 7) ∧ (0 ≤ b ∧ b ≤ 20) ∧ (0 ≤ c ∧ c ≤ 3)
  · obtain ⟨h1, h2, h3⟩ := hok
    by_cases h4 : R = 24
    · refine ⟨-4, σ, ρ, ?_, ?_, hI⟩
      · unfold fX10_room fX10_room_L0
        simp (disch := omega) only [w32_eq, gI_eq, gB_eq, g0_eq, ix_nat, ix_eq, bd_some, bv_some, Int.toNat_natCast, Int.toNat_zero, sF_1, sF_2, sA_1, sA_2, sR_1, sR_2, ↓reduceIte, if_pos, if_neg, within_eq, b1]
      · unfold fX11_room fX11_room_L0
        simp (disch := omega) only [w32_eq, gI_eq, gB_eq, g0_eq, ix_nat, ix_eq, bd_some, bv_some, Int.toNat_natCast, Int.toNat_zero, sF_1, sF_2, sA_1, sA_2, sR_1, sR_2, ↓reduceIte, if_pos, if_neg, in_eq, r1]
    · refine ⟨(R : Int) + 1 - 1, sF (sA (sA (sA (sA σ 1 R a) 2 R b) 3 R c) 4 R (-1)) 0 ((R : Int) + 1), sF (sA (sA (sA ρ 0 R a) 1 R b) 2 R c) 0 ((R : Int) + 1), ?_, ?_, ?_⟩
      · unfold fX10_room fX10_room_L0 fX5_add fX5_add_L0
        simp (disch := omega) only [w32_eq, gI_eq, gB_eq, g0_eq, ix_nat, ix_eq, bd_some, bv_some, Int.toNat_natCast, Int.toNat_zero, sF_1, sF_2, sA_1, sA_2, sR_1, sR_2, ↓reduceIte, if_pos, if_neg, within_eq, b1]
      · unfold fX11_room fX11_room_L0
        simp (disch := omega) only [w32_eq, gI_eq, gB_eq, g0_eq, ix_nat, ix_eq, bd_some, bv_some, Int.toNat_natCast, Int.toNat_zero, sF_1, sF_2, sA_1, sA_2, sR_1, sR_2, ↓reduceIte, if_pos, if_neg, in_eq, r1]
      · refine ⟨R + 1, P, N, T, B, ⟨by simp (disch := omega) only [w32_eq, gI_eq, gB_eq, g0_eq, ix_nat, ix_eq, bd_some, bv_some, Int.toNat_natCast, Int.toNat_zero, sF_1, sF_2, sA_1, sA_2, sR_1, sR_2, ↓reduceIte, if_pos, if_neg]; omega, by omega, hB.2.2⟩, ⟨by simp (disch := omega) only [w32_eq, gI_eq, gB_eq, g0_eq, ix_nat, ix_eq, bd_some, bv_some, Int.toNat_natCast, Int.toNat_zero, sF_1, sF_2, sA_1, sA_2, sR_1, sR_2, ↓reduceIte, if_pos, if_neg]; omega, fun r hr => ?_⟩, hS, hP, ⟨fun p hp => ?_, hW.2⟩, ⟨fun p hp => ?_, fun r hr => ?_, fun k hk => ?_⟩, hK, hT, hD, ⟨hN.1, hN.2.1, hN.2.2.1, fun p hp n hn => ?_, hN.2.2.2.2⟩, hQ, hX⟩
        · by_cases e : r = R
          · subst e; simp (disch := omega) only [w32_eq, gI_eq, gB_eq, g0_eq, ix_nat, ix_eq, bd_some, bv_some, Int.toNat_natCast, Int.toNat_zero, sF_1, sF_2, sA_1, sA_2, sR_1, sR_2, ↓reduceIte, if_pos, if_neg]; exact ⟨trivial, h1, trivial, h2, trivial, h3⟩
          · have := hR.2 r (by omega)
            simp (disch := omega) only [w32_eq, gI_eq, gB_eq, g0_eq, ix_nat, ix_eq, bd_some, bv_some, Int.toNat_natCast, Int.toNat_zero, sF_1, sF_2, sA_1, sA_2, sR_1, sR_2, ↓reduceIte, if_pos, if_neg]; omega
        · obtain ⟨w1, w2, w3⟩ := hW.1 p hp
          refine ⟨w1, w2, fun k hk => ?_⟩
          obtain ⟨w4, w5, w6⟩ := w3 k hk
          exact ⟨w4, w5, by simp (disch := omega) only [w32_eq, gI_eq, gB_eq, g0_eq, ix_nat, ix_eq, bd_some, bv_some, Int.toNat_natCast, Int.toNat_zero, sF_1, sF_2, sA_1, sA_2, sR_1, sR_2, ↓reduceIte, if_pos, if_neg]; omega⟩
        · obtain ⟨w1, w2, w3⟩ := hL.1 p hp
          exact ⟨w1, w2, by simp (disch := omega) only [w32_eq, gI_eq, gB_eq, g0_eq, ix_nat, ix_eq, bd_some, bv_some, Int.toNat_natCast, Int.toNat_zero, sF_1, sF_2, sA_1, sA_2, sR_1, sR_2, ↓reduceIte, if_pos, if_neg]; omega⟩
        · by_cases e : r = R
          · subst e
            refine ⟨by simp (disch := omega) only [w32_eq, gI_eq, gB_eq, g0_eq, ix_nat, ix_eq, bd_some, bv_some, Int.toNat_natCast, Int.toNat_zero, sF_1, sF_2, sA_1, sA_2, sR_1, sR_2, ↓reduceIte, if_pos, if_neg]; omega, by simp (disch := omega) only [w32_eq, gI_eq, gB_eq, g0_eq, ix_nat, ix_eq, bd_some, bv_some, Int.toNat_natCast, Int.toNat_zero, sF_1, sF_2, sA_1, sA_2, sR_1, sR_2, ↓reduceIte, if_pos, if_neg]; omega, fun p hp => ?_⟩
            obtain ⟨w1, w2, w3⟩ := hL.1 p hp
            simp (disch := omega) only [w32_eq, gI_eq, gB_eq, g0_eq, ix_nat, ix_eq, bd_some, bv_some, Int.toNat_natCast, Int.toNat_zero, sF_1, sF_2, sA_1, sA_2, sR_1, sR_2, ↓reduceIte, if_pos, if_neg]; omega
          · obtain ⟨w1, w2, w3⟩ := hL.2.1 r (by omega)
            refine ⟨by simp (disch := omega) only [w32_eq, gI_eq, gB_eq, g0_eq, ix_nat, ix_eq, bd_some, bv_some, Int.toNat_natCast, Int.toNat_zero, sF_1, sF_2, sA_1, sA_2, sR_1, sR_2, ↓reduceIte, if_pos, if_neg]; omega, by simp (disch := omega) only [w32_eq, gI_eq, gB_eq, g0_eq, ix_nat, ix_eq, bd_some, bv_some, Int.toNat_natCast, Int.toNat_zero, sF_1, sF_2, sA_1, sA_2, sR_1, sR_2, ↓reduceIte, if_pos, if_neg]; omega, fun p hp => ?_⟩
            have := w3 p hp
            simp (disch := omega) only [w32_eq, gI_eq, gB_eq, g0_eq, ix_nat, ix_eq, bd_some, bv_some, Int.toNat_natCast, Int.toNat_zero, sF_1, sF_2, sA_1, sA_2, sR_1, sR_2, ↓reduceIte, if_pos, if_neg]; exact this
        · have w := hL.2.2 k hk
          show tb (σ.1 2) k = true ↔ _
          rw [w]
          by_cases e : k = R
          · subst e; simp (disch := omega) only [w32_eq, gI_eq, gB_eq, g0_eq, ix_nat, ix_eq, bd_some, bv_some, Int.toNat_natCast, Int.toNat_zero, sF_1, sF_2, sA_1, sA_2, sR_1, sR_2, ↓reduceIte, if_pos, if_neg]; omega
          · simp (disch := omega) only [w32_eq, gI_eq, gB_eq, g0_eq, ix_nat, ix_eq, bd_some, bv_some, Int.toNat_natCast, Int.toNat_zero, sF_1, sF_2, sA_1, sA_2, sR_1, sR_2, ↓reduceIte, if_pos, if_neg]; omega
        · obtain ⟨w1, w2, w3⟩ := hN.2.2.2.1 p hp n hn
          exact ⟨w1, w2, by simp (disch := omega) only [w32_eq, gI_eq, gB_eq, g0_eq, ix_nat, ix_eq, bd_some, bv_some, Int.toNat_natCast, Int.toNat_zero, sF_1, sF_2, sA_1, sA_2, sR_1, sR_2, ↓reduceIte, if_pos, if_neg]; omega⟩
  · refine ⟨-2, σ, ρ, ?_, ?_, hI⟩
    · unfold fX10_room fX10_room_L0
      by_cases h1 : 0 ≤ a ∧ a ≤ 7
      · by_cases h2 : 0 ≤ b ∧ b ≤ 20
        · simp (disch := omega) only [w32_eq, gI_eq, gB_eq, g0_eq, ix_nat, ix_eq, bd_some, bv_some, Int.toNat_natCast, Int.toNat_zero, sF_1, sF_2, sA_1, sA_2, sR_1, sR_2, ↓reduceIte, if_pos, if_neg, within_eq]
        · simp (disch := omega) only [w32_eq, gI_eq, gB_eq, g0_eq, ix_nat, ix_eq, bd_some, bv_some, Int.toNat_natCast, Int.toNat_zero, sF_1, sF_2, sA_1, sA_2, sR_1, sR_2, ↓reduceIte, if_pos, if_neg, within_eq]
      · simp (disch := omega) only [w32_eq, gI_eq, gB_eq, g0_eq, ix_nat, ix_eq, bd_some, bv_some, Int.toNat_natCast, Int.toNat_zero, sF_1, sF_2, sA_1, sA_2, sR_1, sR_2, ↓reduceIte, if_pos, if_neg, within_eq]
    · unfold fX11_room fX11_room_L0
      by_cases h1 : 0 ≤ a ∧ a ≤ 7
      · by_cases h2 : 0 ≤ b ∧ b ≤ 20
        · simp (disch := omega) only [w32_eq, gI_eq, gB_eq, g0_eq, ix_nat, ix_eq, bd_some, bv_some, Int.toNat_natCast, Int.toNat_zero, sF_1, sF_2, sA_1, sA_2, sR_1, sR_2, ↓reduceIte, if_pos, if_neg, in_eq]
        · simp (disch := omega) only [w32_eq, gI_eq, gB_eq, g0_eq, ix_nat, ix_eq, bd_some, bv_some, Int.toNat_natCast, Int.toNat_zero, sF_1, sF_2, sA_1, sA_2, sR_1, sR_2, ↓reduceIte, if_pos, if_neg, in_eq]
      · simp (disch := omega) only [w32_eq, gI_eq, gB_eq, g0_eq, ix_nat, ix_eq, bd_some, bv_some, Int.toNat_natCast, Int.toNat_zero, sF_1, sF_2, sA_1, sA_2, sR_1, sR_2, ↓reduceIte, if_pos, if_neg, in_eq]
end EROOM
