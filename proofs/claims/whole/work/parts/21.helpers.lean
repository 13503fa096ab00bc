/-! ===== the class's small methods, evaluated ===== -/
/-- how many ROOMS and PEOPLE there are -/
def Bs (σ : St) (R P : Nat) : Prop := σ.1 0 = R ∧ R ≤ 24 ∧ σ.1 3 = P ∧ P ≤ 16 ∧ σ.1 9 = P
section HC
variable {σ : St} {R P : Nat}
theorem pHas_t (h : Bs σ R P) {v : Int} (h1 : 0 ≤ v ∧ v < P) : fX3_has σ v = some (1, σ) := by
  obtain ⟨a1, a2, a3, a4, a5⟩ := h
  unfold fX3_has fX3_has_L0
  rw [a3]
  simp (disch := omega) only [w32_eq, gI_eq, gB_eq, g0_eq, ix_nat, ix_eq, bd_some, bv_some, Int.toNat_natCast, Int.toNat_zero, sF_1, sF_2, sA_1, sA_2, sR_1, sR_2, ↓reduceIte, if_pos, if_neg]
theorem pHas_f (h : Bs σ R P) {v : Int} (h1 : -2147483648 ≤ v ∧ v < 2147483648) (h2 : v < 0 ∨ P ≤ v) : fX3_has σ v = some (0, σ) := by
  obtain ⟨a1, a2, a3, a4, a5⟩ := h
  unfold fX3_has fX3_has_L0
  rw [a3]
  by_cases h3 : v < 0
  · simp (disch := omega) only [w32_eq, gI_eq, gB_eq, g0_eq, ix_nat, ix_eq, bd_some, bv_some, Int.toNat_natCast, Int.toNat_zero, sF_1, sF_2, sA_1, sA_2, sR_1, sR_2, ↓reduceIte, if_pos, if_neg]
  · simp (disch := omega) only [w32_eq, gI_eq, gB_eq, g0_eq, ix_nat, ix_eq, bd_some, bv_some, Int.toNat_natCast, Int.toNat_zero, sF_1, sF_2, sA_1, sA_2, sR_1, sR_2, ↓reduceIte, if_pos, if_neg]
theorem rHas_t (h : Bs σ R P) {v : Int} (h1 : 0 ≤ v ∧ v < R) : fX5_has σ v = some (1, σ) := by
  obtain ⟨a1, a2, a3, a4, a5⟩ := h
  unfold fX5_has fX5_has_L0
  rw [a1]
  simp (disch := omega) only [w32_eq, gI_eq, gB_eq, g0_eq, ix_nat, ix_eq, bd_some, bv_some, Int.toNat_natCast, Int.toNat_zero, sF_1, sF_2, sA_1, sA_2, sR_1, sR_2, ↓reduceIte, if_pos, if_neg]
theorem rHas_f (h : Bs σ R P) {v : Int} (h1 : -2147483648 ≤ v ∧ v < 2147483648) (h2 : v < 0 ∨ R ≤ v) : fX5_has σ v = some (0, σ) := by
  obtain ⟨a1, a2, a3, a4, a5⟩ := h
  unfold fX5_has fX5_has_L0
  rw [a1]
  by_cases h3 : v < 0
  · simp (disch := omega) only [w32_eq, gI_eq, gB_eq, g0_eq, ix_nat, ix_eq, bd_some, bv_some, Int.toNat_natCast, Int.toNat_zero, sF_1, sF_2, sA_1, sA_2, sR_1, sR_2, ↓reduceIte, if_pos, if_neg]
  · simp (disch := omega) only [w32_eq, gI_eq, gB_eq, g0_eq, ix_nat, ix_eq, bd_some, bv_some, Int.toNat_natCast, Int.toNat_zero, sF_1, sF_2, sA_1, sA_2, sR_1, sR_2, ↓reduceIte, if_pos, if_neg]
theorem lodgingOf_t (h : Bs σ R P) {p : Nat} (hp : p < P) : fX3_lodgingOf σ (p : Int) = some (σ.2 9 p, σ) := by
  have h16 := h.2.2.2.1
  unfold fX3_lodgingOf fX3_lodgingOf_L0
  rw [pHas_t h (by omega)]
  simp (disch := omega) only [w32_eq, gI_eq, gB_eq, g0_eq, ix_nat, ix_eq, bd_some, bv_some, Int.toNat_natCast, Int.toNat_zero, sF_1, sF_2, sA_1, sA_2, sR_1, sR_2, ↓reduceIte, if_pos, if_neg]
theorem lodgingOf_f (h : Bs σ R P) : fX3_lodgingOf σ (-1) = some (-1, σ) := by
  unfold fX3_lodgingOf fX3_lodgingOf_L0
  rw [pHas_f h (by omega) (by omega)]
  simp (disch := omega) only [w32_eq, gI_eq, gB_eq, g0_eq, ix_nat, ix_eq, bd_some, bv_some, Int.toNat_natCast, Int.toNat_zero, sF_1, sF_2, sA_1, sA_2, sR_1, sR_2, ↓reduceIte, if_pos, if_neg]
theorem houseOf_t (h : Bs σ R P) {p : Nat} (hp : p < R) : fX5_houseOf σ (p : Int) = some (σ.2 1 p, σ) := by
  have h16 := h.2.1
  unfold fX5_houseOf fX5_houseOf_L0
  rw [rHas_t h (by omega)]
  simp (disch := omega) only [w32_eq, gI_eq, gB_eq, g0_eq, ix_nat, ix_eq, bd_some, bv_some, Int.toNat_natCast, Int.toNat_zero, sF_1, sF_2, sA_1, sA_2, sR_1, sR_2, ↓reduceIte, if_pos, if_neg]
theorem houseOf_f (h : Bs σ R P) : fX5_houseOf σ (-1) = some (-1, σ) := by
  unfold fX5_houseOf fX5_houseOf_L0
  rw [rHas_f h (by omega) (by omega)]
  simp (disch := omega) only [w32_eq, gI_eq, gB_eq, g0_eq, ix_nat, ix_eq, bd_some, bv_some, Int.toNat_natCast, Int.toNat_zero, sF_1, sF_2, sA_1, sA_2, sR_1, sR_2, ↓reduceIte, if_pos, if_neg]
theorem holderOf_t (h : Bs σ R P) {p : Nat} (hp : p < R) : fX5_holderOf σ (p : Int) = some (σ.2 4 p, σ) := by
  have h16 := h.2.1
  unfold fX5_holderOf fX5_holderOf_L0
  rw [rHas_t h (by omega)]
  simp (disch := omega) only [w32_eq, gI_eq, gB_eq, g0_eq, ix_nat, ix_eq, bd_some, bv_some, Int.toNat_natCast, Int.toNat_zero, sF_1, sF_2, sA_1, sA_2, sR_1, sR_2, ↓reduceIte, if_pos, if_neg]
theorem wishesOf_t (h : Bs σ R P) {p : Nat} (hp : p < P) : fX3_wishesOf σ (p : Int) = some (σ.2 7 p, σ) := by
  have h16 := h.2.2.2.1
  unfold fX3_wishesOf fX3_wishesOf_L0
  rw [pHas_t h (by omega)]
  simp (disch := omega) only [w32_eq, gI_eq, gB_eq, g0_eq, ix_nat, ix_eq, bd_some, bv_some, Int.toNat_natCast, Int.toNat_zero, sF_1, sF_2, sA_1, sA_2, sR_1, sR_2, ↓reduceIte, if_pos, if_neg]
theorem wishAt_t (h : Bs σ R P) {p k : Nat} (hp : p < P) (hk : (k : Int) < σ.2 7 p) (h8 : σ.2 7 p ≤ 8) : fX3_wishAt σ (p : Int) (k : Int) = some (σ.2 8 (p * 8 + k), σ) := by
  have h16 := h.2.2.2.1
  unfold fX3_wishAt fX3_wishAt_L0 fX3_wishAt_L27
  rw [pHas_t h (by omega)]
  simp (disch := omega) only [w32_eq, gI_eq, gB_eq, g0_eq, ix_nat, ix_eq, bd_some, bv_some, Int.toNat_natCast, Int.toNat_zero, sF_1, sF_2, sA_1, sA_2, sR_1, sR_2, ↓reduceIte, if_pos, if_neg]
  rw [show ((p : Int) * 8 + (k : Int)).toNat = p * 8 + k by omega]
theorem wishAt_f (h : Bs σ R P) {p : Nat} {k : Int} (hp : p < P) (h0 : -2147483648 ≤ k ∧ k < 2147483648) (h8 : 0 ≤ σ.2 7 p ∧ σ.2 7 p ≤ 8) (hk : k < 0 ∨ σ.2 7 p ≤ k) : fX3_wishAt σ (p : Int) k = some (-1, σ) := by
  have h16 := h.2.2.2.1
  unfold fX3_wishAt fX3_wishAt_L0 fX3_wishAt_L27
  rw [pHas_t h (by omega)]
  by_cases h3 : k < 0
  · simp (disch := omega) only [w32_eq, gI_eq, gB_eq, g0_eq, ix_nat, ix_eq, bd_some, bv_some, Int.toNat_natCast, Int.toNat_zero, sF_1, sF_2, sA_1, sA_2, sR_1, sR_2, ↓reduceIte, if_pos, if_neg]
  · simp (disch := omega) only [w32_eq, gI_eq, gB_eq, g0_eq, ix_nat, ix_eq, bd_some, bv_some, Int.toNat_natCast, Int.toNat_zero, sF_1, sF_2, sA_1, sA_2, sR_1, sR_2, ↓reduceIte, if_pos, if_neg]
theorem choiceOf_t (h : Bs σ R P) {p : Nat} (hp : p < P) : fX7_choiceOf σ (p : Int) = some (σ.2 0 p, σ) := by
  have h16 := h.2.2.2.1
  unfold fX7_choiceOf fX7_choiceOf_L0
  rw [pHas_t h (by omega)]
  simp (disch := omega) only [w32_eq, gI_eq, gB_eq, g0_eq, ix_nat, ix_eq, bd_some, bv_some, Int.toNat_natCast, Int.toNat_zero, sF_1, sF_2, sA_1, sA_2, sR_1, sR_2, ↓reduceIte, if_pos, if_neg]
theorem openTo_t (h : Bs σ R P) {p : Nat} (hp : p < P) : fX7_openTo σ (p : Int) = some (bAnd (σ.2 0 p) (bXor (σ.1 2) (-1)), σ) := by
  have h16 := h.2.2.2.1
  unfold fX7_openTo fX7_openTo_L0
  rw [pHas_t h (by omega)]
  simp (disch := omega) only [w32_eq, gI_eq, gB_eq, g0_eq, ix_nat, ix_eq, bd_some, bv_some, Int.toNat_natCast, Int.toNat_zero, sF_1, sF_2, sA_1, sA_2, sR_1, sR_2, ↓reduceIte, if_pos, if_neg]
theorem targetOf_t (h : Bs σ R P) {p : Nat} (hp : p < P) : fX8_targetOf σ (p : Int) = some (σ.2 18 p, σ) := by
  have h16 := h.2.2.2.1
  unfold fX8_targetOf fX8_targetOf_L0
  rw [pHas_t h (by omega)]
  simp (disch := omega) only [w32_eq, gI_eq, gB_eq, g0_eq, ix_nat, ix_eq, bd_some, bv_some, Int.toNat_natCast, Int.toNat_zero, sF_1, sF_2, sA_1, sA_2, sR_1, sR_2, ↓reduceIte, if_pos, if_neg]
theorem isStruck_t {q : Nat} (hq : q < 32) : fX5_isStruck σ (q : Int) = some ((if tb (σ.1 1) q = true then 1 else 0), σ) := by
  unfold fX5_isStruck fX5_isStruck_L0
  rw [inBits_eq _ _ hq, bd_some]
  split <;> simp (disch := omega) only [w32_eq, gI_eq, gB_eq, g0_eq, ix_nat, ix_eq, bd_some, bv_some, Int.toNat_natCast, Int.toNat_zero, sF_1, sF_2, sA_1, sA_2, sR_1, sR_2, ↓reduceIte, if_pos, if_neg]
theorem turnHas_t (h : Bs σ R P) {v : Int} (h1 : 0 ≤ v ∧ v < P) : fX9_has σ v = some (1, σ) := by
  obtain ⟨a1, a2, a3, a4, a5⟩ := h
  unfold fX9_has fX9_has_L0
  rw [a5, within_eq σ (by omega) (by omega) (by omega)]
  simp (disch := omega) only [w32_eq, gI_eq, gB_eq, g0_eq, ix_nat, ix_eq, bd_some, bv_some, Int.toNat_natCast, Int.toNat_zero, sF_1, sF_2, sA_1, sA_2, sR_1, sR_2, ↓reduceIte, if_pos, if_neg]
theorem turnHas_f (h : Bs σ R P) {v : Int} (h1 : -2147483648 ≤ v ∧ v < 2147483648) (h2 : v < 0 ∨ P ≤ v) : fX9_has σ v = some (0, σ) := by
  obtain ⟨a1, a2, a3, a4, a5⟩ := h
  unfold fX9_has fX9_has_L0
  rw [a5, within_eq σ (by omega) (by omega) (by omega)]
  simp (disch := omega) only [w32_eq, gI_eq, gB_eq, g0_eq, ix_nat, ix_eq, bd_some, bv_some, Int.toNat_natCast, Int.toNat_zero, sF_1, sF_2, sA_1, sA_2, sR_1, sR_2, ↓reduceIte, if_pos, if_neg]
theorem turnAt_t (h : Bs σ R P) {p : Nat} (hp : p < P) : fX9_at σ (p : Int) = some (σ.2 16 p, σ) := by
  have h16 := h.2.2.2.1
  unfold fX9_at fX9_at_L0
  rw [turnHas_t h (by omega)]
  simp (disch := omega) only [w32_eq, gI_eq, gB_eq, g0_eq, ix_nat, ix_eq, bd_some, bv_some, Int.toNat_natCast, Int.toNat_zero, sF_1, sF_2, sA_1, sA_2, sR_1, sR_2, ↓reduceIte, if_pos, if_neg]
theorem turnAt_f (h : Bs σ R P) (h0 : P = 0) : fX9_at σ 0 = some (-1, σ) := by
  unfold fX9_at fX9_at_L0
  rw [turnHas_f h (by omega) (by omega)]
  simp (disch := omega) only [w32_eq, gI_eq, gB_eq, g0_eq, ix_nat, ix_eq, bd_some, bv_some, Int.toNat_natCast, Int.toNat_zero, sF_1, sF_2, sA_1, sA_2, sR_1, sR_2, ↓reduceIte, if_pos, if_neg]
end HC
