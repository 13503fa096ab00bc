section EWISH2
variable {σ ρ : St} {R P : Nat}
theorem wishesFor_loop (hB : Bs σ R P) (hW : IW σ ρ R P) {p : Nat} (hp : p < P) {v : Int} (hv : rg v) (hR : R ≤ 24) : ∀ (n k : Nat), (k : Int) ≤ ρ.2 5 p → 8 - k < n → (∀ j : Nat, j < k → ρ.2 6 (p * 8 + j) ≠ v) →
    ((∃ j : Nat, (j : Int) < ρ.2 5 p ∧ ρ.2 6 (p * 8 + j) = v) → fX3_wishesFor_L2 n (p : Int) v (k : Int) σ = some (1, σ)) ∧ (¬ (∃ j : Nat, (j : Int) < ρ.2 5 p ∧ ρ.2 6 (p * 8 + j) = v) → fX3_wishesFor_L2 n (p : Int) v (k : Int) σ = some (0, σ)) := by
  unfold rg at hv
  obtain ⟨w1, w2, w3⟩ := hW.1 p hp
  intro n
  induction n with
  | zero => intro k _ h; omega
  | succ n ih =>
    intro k hk hn hq
    have e0 : fX3_wishesFor_L2 (n + 1) (p : Int) v (k : Int) σ = fX3_wishesFor_B2 (fX3_wishesFor_L2 n) (p : Int) v (k : Int) σ := rfl
    rw [e0]
    unfold fX3_wishesFor_B2
    rw [wishesOf_t hB hp, w1, bd_some]
    by_cases hkW : (k : Int) = ρ.2 5 p
    · refine ⟨fun ⟨j, h1, h2⟩ => absurd h2 (hq j (by omega)), fun _ => ?_⟩
      simp (disch := omega) only [w32_eq, gI_eq, gB_eq, g0_eq, ix_nat, ix_eq, bd_some, bv_some, Int.toNat_natCast, Int.toNat_zero, sF_1, sF_2, sA_1, sA_2, sR_1, sR_2, ↓reduceIte, if_pos, if_neg]
    · obtain ⟨x1, x2, x3⟩ := w3 k (by omega)
      have e1 : fX3_wishAt σ (p : Int) (k : Int) = some (ρ.2 6 (p * 8 + k), σ) := by rw [wishAt_t hB hp (by omega) (by omega), x1]
      rw [e1]
      simp (disch := omega) only [w32_eq, gI_eq, gB_eq, g0_eq, ix_nat, ix_eq, bd_some, bv_some, Int.toNat_natCast, Int.toNat_zero, sF_1, sF_2, sA_1, sA_2, sR_1, sR_2, ↓reduceIte, if_pos, if_neg]
      by_cases he : ρ.2 6 (p * 8 + k) = v
      · refine ⟨fun _ => ?_, fun h => absurd ⟨k, by omega, he⟩ h⟩
        rw [if_pos he]
      · have ih1 := ih (k + 1) (by omega) (by omega) (fun j hj => by
          rcases Nat.lt_or_ge j k with h | h
          · exact hq j h
          · have : j = k := by omega
            subst this; exact he)
        rw [if_neg he]
        exact ih1
theorem rankOf_loop (hP : ρ.1 2 = P) (hW : IW σ ρ R P) {p : Nat} (hp : p < P) {v : Int} (hv : rg v) (hR : R ≤ 24) (hP16 : P ≤ 16) : ∀ (n k : Nat), (k : Int) ≤ ρ.2 5 p → 8 - k < n → (∀ j : Nat, j < k → ρ.2 6 (p * 8 + j) ≠ v) →
    ((∃ j : Nat, (j : Int) < ρ.2 5 p ∧ ρ.2 6 (p * 8 + j) = v) → ∃ q : Int, 0 ≤ q ∧ q < 8 ∧ fX11_rankOf_L2 n (p : Int) v (k : Int) ρ = some (q, ρ)) ∧ (¬ (∃ j : Nat, (j : Int) < ρ.2 5 p ∧ ρ.2 6 (p * 8 + j) = v) → fX11_rankOf_L2 n (p : Int) v (k : Int) ρ = some (8, ρ)) := by
  unfold rg at hv
  obtain ⟨w1, w2, w3⟩ := hW.1 p hp
  intro n
  induction n with
  | zero => intro k _ h; omega
  | succ n ih =>
    intro k hk hn hq
    have e0 : fX11_rankOf_L2 (n + 1) (p : Int) v (k : Int) ρ = fX11_rankOf_B2 (fX11_rankOf_L2 n) (p : Int) v (k : Int) ρ := rfl
    rw [e0]
    unfold fX11_rankOf_B2
    by_cases hkW : (k : Int) = ρ.2 5 p
    · refine ⟨fun ⟨j, h1, h2⟩ => absurd h2 (hq j (by omega)), fun _ => ?_⟩
      simp (disch := omega) only [w32_eq, gI_eq, gB_eq, g0_eq, ix_nat, ix_eq, bd_some, bv_some, Int.toNat_natCast, Int.toNat_zero, sF_1, sF_2, sA_1, sA_2, sR_1, sR_2, ↓reduceIte, if_pos, if_neg]
    · obtain ⟨x1, x2, x3⟩ := w3 k (by omega)
      simp (disch := omega) only [w32_eq, gI_eq, gB_eq, g0_eq, ix_nat, ix_eq, bd_some, bv_some, Int.toNat_natCast, Int.toNat_zero, sF_1, sF_2, sA_1, sA_2, sR_1, sR_2, ↓reduceIte, if_pos, if_neg]
      rw [show (8 * (p : Int) + (k : Int)).toNat = p * 8 + k by omega]
      simp (disch := omega) only [w32_eq, gI_eq, gB_eq, g0_eq, ix_nat, ix_eq, bd_some, bv_some, Int.toNat_natCast, Int.toNat_zero, sF_1, sF_2, sA_1, sA_2, sR_1, sR_2, ↓reduceIte, if_pos, if_neg]
      by_cases he : ρ.2 6 (p * 8 + k) = v
      · refine ⟨fun _ => ⟨k, by omega, by omega, ?_⟩, fun h => absurd ⟨k, by omega, he⟩ h⟩
        rw [if_pos he]
      · have ih1 := ih (k + 1) (by omega) (by omega) (fun j hj => by
          rcases Nat.lt_or_ge j k with h | h
          · exact hq j h
          · have : j = k := by omega
            subst this; exact he)
        rw [if_neg he]
        exact ih1
theorem op_wish (h : Inv σ ρ) {a b : Int} (ha : rg a) (hb : rg b) : Op (fX10_wish σ a b) (fX11_wish ρ a b) := by
  have hI := h
  obtain ⟨R, P, N, T, B, hB, hR, hS, hP, hW, hL, hK, hT, hD, hN, hQ, hX⟩ := h
  obtain ⟨b1, b2, b3, b4, b5⟩ := id hB
  by_cases h1 : 0 ≤ a ∧ a < P
  · by_cases h2 : 0 ≤ b ∧ b < R
    · obtain ⟨p, rfl⟩ : ∃ p : Nat, a = p := ⟨a.toNat, by omega⟩
      have hpP : p < P := by omega
      obtain ⟨w1, w2, w3⟩ := hW.1 p hpP
      have c1 := wishesFor_loop hB hW hpP hb b2 1000 0 (by omega) (by omega) (fun j h => by omega)
      have c2 := rankOf_loop hP.1 hW hpP hb b2 b4 1000 0 (by omega) (by omega) (fun j h => by omega)
      unfold fX10_wish fX10_wish_L0 fX11_wish fX11_wish_L0
      unfold fX3_wishesFor fX3_wishesFor_L0 fX11_rankOf fX11_rankOf_L0
      rw [pHas_t hB h1, isOne_t hP.1 b4 h1, bd_some, bd_some, rHas_t hB h2, isRoom_t hR.1 b2 h2, bd_some, bd_some]
      by_cases he : ∃ j : Nat, (j : Int) < ρ.2 5 p ∧ ρ.2 6 (p * 8 + j) = b
      · obtain ⟨q, q1, q2, q3⟩ := c2.1 he
        refine ⟨-2, σ, ρ, ?_, ?_, hI⟩
        · rw [show (0 : Int) = ((0 : Nat) : Int) from rfl, c1.1 he]
          simp (disch := omega) only [w32_eq, gI_eq, gB_eq, g0_eq, ix_nat, ix_eq, bd_some, bv_some, Int.toNat_natCast, Int.toNat_zero, sF_1, sF_2, sA_1, sA_2, sR_1, sR_2, ↓reduceIte, if_pos, if_neg]
        · rw [show fX11_rankOf_L2 1000 (p : Int) b 0 ρ = some (q, ρ) from q3]
          simp (disch := omega) only [w32_eq, gI_eq, gB_eq, g0_eq, ix_nat, ix_eq, bd_some, bv_some, Int.toNat_natCast, Int.toNat_zero, sF_1, sF_2, sA_1, sA_2, sR_1, sR_2, ↓reduceIte, if_pos, if_neg]
      · have d1 := c1.2 he
        have d2 := c2.2 he
        rw [show fX3_wishesFor_L2 1000 (p : Int) b 0 σ = some (0, σ) from d1, show fX11_rankOf_L2 1000 (p : Int) b 0 ρ = some (8, ρ) from d2]
        by_cases h8 : ρ.2 5 p = 8
        · refine ⟨-4, σ, ρ, ?_, ?_, hI⟩
          · simp (disch := omega) only [w32_eq, gI_eq, gB_eq, g0_eq, ix_nat, ix_eq, bd_some, bv_some, Int.toNat_natCast, Int.toNat_zero, sF_1, sF_2, sA_1, sA_2, sR_1, sR_2, ↓reduceIte, if_pos, if_neg, w1]
          · simp (disch := omega) only [w32_eq, gI_eq, gB_eq, g0_eq, ix_nat, ix_eq, bd_some, bv_some, Int.toNat_natCast, Int.toNat_zero, sF_1, sF_2, sA_1, sA_2, sR_1, sR_2, ↓reduceIte, if_pos, if_neg]
        · obtain ⟨w, hw⟩ : ∃ w : Nat, ρ.2 5 p = w := ⟨(ρ.2 5 p).toNat, by omega⟩
          refine ⟨(w : Int) + 1, sA (sA σ 8 (p * 8 + w) b) 7 p ((w : Int) + 1), sA (sA ρ 6 (p * 8 + w) b) 5 p ((w : Int) + 1), ?_, ?_, ?_⟩
          · unfold fX3_addWish fX3_addWish_L0
            simp (disch := omega) only [w32_eq, gI_eq, gB_eq, g0_eq, ix_nat, ix_eq, bd_some, bv_some, Int.toNat_natCast, Int.toNat_zero, sF_1, sF_2, sA_1, sA_2, sR_1, sR_2, ↓reduceIte, if_pos, if_neg, w1, hw, wishesOf_t hB hpP, pHas_t hB h1]
            rw [show ((p : Int) * 8 + (w : Int)).toNat = p * 8 + w by omega]
          · simp (disch := omega) only [w32_eq, gI_eq, gB_eq, g0_eq, ix_nat, ix_eq, bd_some, bv_some, Int.toNat_natCast, Int.toNat_zero, sF_1, sF_2, sA_1, sA_2, sR_1, sR_2, ↓reduceIte, if_pos, if_neg, hw]
            rw [show (8 * (p : Int) + (w : Int)).toNat = p * 8 + w by omega]
          · refine ⟨R, P, N, T, B, hB, hR, hS, hP, ⟨fun q hq => ?_, fun q h1 h2 => ?_⟩, hL, hK, hT, hD, hN, hQ, hX⟩
            · by_cases e : q = p
              · subst e
                refine ⟨by simp (disch := omega) only [w32_eq, gI_eq, gB_eq, g0_eq, ix_nat, ix_eq, bd_some, bv_some, Int.toNat_natCast, Int.toNat_zero, sF_1, sF_2, sA_1, sA_2, sR_1, sR_2, ↓reduceIte, if_pos, if_neg], by (simp (disch := omega) only [w32_eq, gI_eq, gB_eq, g0_eq, ix_nat, ix_eq, bd_some, bv_some, Int.toNat_natCast, Int.toNat_zero, sF_1, sF_2, sA_1, sA_2, sR_1, sR_2, ↓reduceIte, if_pos, if_neg, true_and, and_true] <;> omega), fun k hk => ?_⟩
                have hk2 : (k : Int) < (w : Int) + 1 := by revert hk; simp (disch := omega) only [w32_eq, gI_eq, gB_eq, g0_eq, ix_nat, ix_eq, bd_some, bv_some, Int.toNat_natCast, Int.toNat_zero, sF_1, sF_2, sA_1, sA_2, sR_1, sR_2, ↓reduceIte, if_pos, if_neg]; exact id
                by_cases e2 : k = w
                · subst e2; simp (disch := omega) only [w32_eq, gI_eq, gB_eq, g0_eq, ix_nat, ix_eq, bd_some, bv_some, Int.toNat_natCast, Int.toNat_zero, sF_1, sF_2, sA_1, sA_2, sR_1, sR_2, ↓reduceIte, if_pos, if_neg]; exact ⟨trivial, h2⟩
                · have := w3 k (by omega)
                  simp (disch := omega) only [w32_eq, gI_eq, gB_eq, g0_eq, ix_nat, ix_eq, bd_some, bv_some, Int.toNat_natCast, Int.toNat_zero, sF_1, sF_2, sA_1, sA_2, sR_1, sR_2, ↓reduceIte, if_pos, if_neg]; exact this
              · obtain ⟨y1, y2, y3⟩ := hW.1 q hq
                refine ⟨by simp (disch := omega) only [w32_eq, gI_eq, gB_eq, g0_eq, ix_nat, ix_eq, bd_some, bv_some, Int.toNat_natCast, Int.toNat_zero, sF_1, sF_2, sA_1, sA_2, sR_1, sR_2, ↓reduceIte, if_pos, if_neg]; exact y1, by (simp (disch := omega) only [w32_eq, gI_eq, gB_eq, g0_eq, ix_nat, ix_eq, bd_some, bv_some, Int.toNat_natCast, Int.toNat_zero, sF_1, sF_2, sA_1, sA_2, sR_1, sR_2, ↓reduceIte, if_pos, if_neg, true_and, and_true] <;> omega), fun k hk => ?_⟩
                have hk2 : (k : Int) < ρ.2 5 q := by revert hk; simp (disch := omega) only [w32_eq, gI_eq, gB_eq, g0_eq, ix_nat, ix_eq, bd_some, bv_some, Int.toNat_natCast, Int.toNat_zero, sF_1, sF_2, sA_1, sA_2, sR_1, sR_2, ↓reduceIte, if_pos, if_neg]; exact id
                have := y3 k hk2
                simp (disch := omega) only [w32_eq, gI_eq, gB_eq, g0_eq, ix_nat, ix_eq, bd_some, bv_some, Int.toNat_natCast, Int.toNat_zero, sF_1, sF_2, sA_1, sA_2, sR_1, sR_2, ↓reduceIte, if_pos, if_neg]; exact this
            · have := hW.2 q h1 h2
              simp (disch := omega) only [w32_eq, gI_eq, gB_eq, g0_eq, ix_nat, ix_eq, bd_some, bv_some, Int.toNat_natCast, Int.toNat_zero, sF_1, sF_2, sA_1, sA_2, sR_1, sR_2, ↓reduceIte, if_pos, if_neg]; exact this
    · unfold rg at hb
      unfold fX10_wish fX10_wish_L0 fX11_wish fX11_wish_L0
      rw [pHas_t hB h1, isOne_t hP.1 b4 h1, bd_some, bd_some, rHas_f hB hb (by omega), isRoom_f hR.1 b2 hb (by omega), bd_some, bd_some]
      exact ⟨-2, σ, ρ, by simp (disch := omega) only [w32_eq, gI_eq, gB_eq, g0_eq, ix_nat, ix_eq, bd_some, bv_some, Int.toNat_natCast, Int.toNat_zero, sF_1, sF_2, sA_1, sA_2, sR_1, sR_2, ↓reduceIte, if_pos, if_neg], by simp (disch := omega) only [w32_eq, gI_eq, gB_eq, g0_eq, ix_nat, ix_eq, bd_some, bv_some, Int.toNat_natCast, Int.toNat_zero, sF_1, sF_2, sA_1, sA_2, sR_1, sR_2, ↓reduceIte, if_pos, if_neg], hI⟩
  · unfold rg at ha
    unfold fX10_wish fX10_wish_L0 fX11_wish fX11_wish_L0
    rw [pHas_f hB ha (by omega), isOne_f hP.1 b4 ha (by omega), bd_some, bd_some]
    exact ⟨-2, σ, ρ, by simp (disch := omega) only [w32_eq, gI_eq, gB_eq, g0_eq, ix_nat, ix_eq, bd_some, bv_some, Int.toNat_natCast, Int.toNat_zero, sF_1, sF_2, sA_1, sA_2, sR_1, sR_2, ↓reduceIte, if_pos, if_neg], by simp (disch := omega) only [w32_eq, gI_eq, gB_eq, g0_eq, ix_nat, ix_eq, bd_some, bv_some, Int.toNat_natCast, Int.toNat_zero, sF_1, sF_2, sA_1, sA_2, sR_1, sR_2, ↓reduceIte, if_pos, if_neg], hI⟩
end EWISH2
