section EGIVE2
variable {σ ρ : St} {R P N T B : Nat}
theorem bOr_0 (x : Int) : bOr x 0 = w32 x := by
  unfold bOr
  rw [show iI 0 = 0 by decide +kernel, Int32.or_zero, iI_toInt]
theorem sA_sA (σ : St) (j i : Nat) (a b : Int) : sA (sA σ j i a) j i b = sA σ j i b := by
  rw [sA_eq_sR σ j i a, sA_sR, sA_eq_sR σ j i b]
  refine sR_eq σ j (fun n => ?_)
  by_cases e : n = i
  · rw [if_pos e, if_pos e]
  · rw [if_neg e, if_neg e, if_neg e]
theorem Kr_sA (ρ : St) (p : Nat) (v : Int) : Kr ρ (sA ρ 7 p v) := ⟨fun k h => rfl, fun k h1 h2 => by funext j; simp (disch := omega) only [w32_eq, gI_eq, gB_eq, g0_eq, ix_nat, ix_eq, bd_some, bv_some, Int.toNat_natCast, Int.toNat_zero, sF_1, sF_2, sA_1, sA_2, sR_1, sR_2, ↓reduceIte, if_pos, if_neg]⟩
theorem wrong_loop (hC : Core σ ρ R P N T B) (hL : IL σ ρ R P) : ∀ (n m i : Nat) (v : Int), w32 v = v → i ≤ P → P - i < n → P - i < m → ∃ r : Int, fX10_wrong_L4 n v (i : Int) σ = some (r, σ) ∧ fX11_wrong_L4 m v (i : Int) ρ = some (r, ρ) := by
  obtain ⟨hB, hR, hS, hP, hW, hK, hT, hN, hQ, hX⟩ := id hC
  obtain ⟨b1, b2, b3, b4, b5⟩ := id hB
  have p1 := hP.1
  intro n
  induction n with
  | zero => intro m i v _ _ h; omega
  | succ n ih =>
    intro m i v hv hi hn hm
    obtain ⟨m, rfl⟩ : ∃ m' : Nat, m = m' + 1 := ⟨m - 1, by omega⟩
    have e0 : fX10_wrong_L4 (n + 1) v (i : Int) σ = fX10_wrong_B4 (fX10_wrong_L4 n) v (i : Int) σ := rfl
    have e1 : fX11_wrong_L4 (m + 1) v (i : Int) ρ = fX11_wrong_B4 (fX11_wrong_L4 m) v (i : Int) ρ := rfl
    rw [e0, e1]
    unfold fX10_wrong_B4 fX11_wrong_B4
    by_cases e : i = P
    · exact ⟨v, by simp (disch := omega) only [w32_eq, gI_eq, gB_eq, g0_eq, ix_nat, ix_eq, bd_some, bv_some, Int.toNat_natCast, Int.toNat_zero, sF_1, sF_2, sA_1, sA_2, sR_1, sR_2, ↓reduceIte, if_pos, if_neg, b3], by simp (disch := omega) only [w32_eq, gI_eq, gB_eq, g0_eq, ix_nat, ix_eq, bd_some, bv_some, Int.toNat_natCast, Int.toNat_zero, sF_1, sF_2, sA_1, sA_2, sR_1, sR_2, ↓reduceIte, if_pos, if_neg, p1]⟩
    · obtain ⟨l1, l2, l3⟩ := hL.1 i (by omega)
      rw [lodgingOf_t hB (by omega), l1, bd_some, bOr_0, hv]
      by_cases c : ρ.2 7 i = -1
      · obtain ⟨r, q1, q2⟩ := ih m (i + 1) v hv (by omega) (by omega) (by omega)
        refine ⟨r, ?_, ?_⟩
        · simp (disch := omega) only [w32_eq, gI_eq, gB_eq, g0_eq, ix_nat, ix_eq, bd_some, bv_some, Int.toNat_natCast, Int.toNat_zero, sF_1, sF_2, sA_1, sA_2, sR_1, sR_2, ↓reduceIte, if_pos, if_neg, b3]; exact q1
        · simp (disch := omega) only [w32_eq, gI_eq, gB_eq, g0_eq, ix_nat, ix_eq, bd_some, bv_some, Int.toNat_natCast, Int.toNat_zero, sF_1, sF_2, sA_1, sA_2, sR_1, sR_2, ↓reduceIte, if_pos, if_neg, p1]; exact q2
      · obtain ⟨z, hz⟩ : ∃ z : Nat, ρ.2 7 i = z := ⟨(ρ.2 7 i).toNat, by omega⟩
        obtain ⟨m1, m2⟩ := core_may hC (p := i) (r := z) (by omega) (by omega)
        cases hm : mB σ i z with
        | false =>
          rw [hm, show b01 false = 0 from rfl] at m1 m2
          obtain ⟨r, q1, q2⟩ := ih m (i + 1) (bOr v (bShl 1 (i : Int))) (w32_bOr _ _) (by omega) (by omega) (by omega)
          refine ⟨r, ?_, ?_⟩
          · simp (disch := omega) only [w32_eq, gI_eq, gB_eq, g0_eq, ix_nat, ix_eq, bd_some, bv_some, Int.toNat_natCast, Int.toNat_zero, sF_1, sF_2, sA_1, sA_2, sR_1, sR_2, ↓reduceIte, if_pos, if_neg, b3, hz, m1]; exact q1
          · simp (disch := omega) only [w32_eq, gI_eq, gB_eq, g0_eq, ix_nat, ix_eq, bd_some, bv_some, Int.toNat_natCast, Int.toNat_zero, sF_1, sF_2, sA_1, sA_2, sR_1, sR_2, ↓reduceIte, if_pos, if_neg, p1, hz, m2]; exact q2
        | true =>
          rw [hm, show b01 true = 1 from rfl] at m1 m2
          obtain ⟨r, q1, q2⟩ := ih m (i + 1) v hv (by omega) (by omega) (by omega)
          refine ⟨r, ?_, ?_⟩
          · simp (disch := omega) only [w32_eq, gI_eq, gB_eq, g0_eq, ix_nat, ix_eq, bd_some, bv_some, Int.toNat_natCast, Int.toNat_zero, sF_1, sF_2, sA_1, sA_2, sR_1, sR_2, ↓reduceIte, if_pos, if_neg, b3, hz, m1]; exact q1
          · simp (disch := omega) only [w32_eq, gI_eq, gB_eq, g0_eq, ix_nat, ix_eq, bd_some, bv_some, Int.toNat_natCast, Int.toNat_zero, sF_1, sF_2, sA_1, sA_2, sR_1, sR_2, ↓reduceIte, if_pos, if_neg, p1, hz, m2]; exact q2
theorem op_wrong (h : Inv σ ρ) : Op (fX10_wrong σ) (fX11_wrong ρ) := by
  obtain ⟨R, P, N, T, B, hC, hL, hD⟩ := inv_core h
  have b4 := hC.1.2.2.2.1
  obtain ⟨r, e1, e2⟩ := wrong_loop hC hL 1000 1000 0 0 (w32_eq (by omega)) (by omega) (by omega) (by omega)
  exact ⟨r, σ, ρ, e1, e2, h⟩
theorem op_give (h : Inv σ ρ) {a b : Int} (ha : rg a) (hb : rg b) : Op (fX10_give σ a b) (fX11_give ρ a b) := by
  have hI := h
  obtain ⟨R, P, N, T, B, hC, hL, hD⟩ := inv_core h
  obtain ⟨hB, hR, hS, hP, hW, hK, hT, hN, hQ, hX⟩ := id hC
  obtain ⟨b1, b2, b3, b4, b5⟩ := id hB
  unfold rg at ha hb
  by_cases h1 : 0 ≤ a ∧ a < P
  · obtain ⟨p, rfl⟩ : ∃ p : Nat, a = p := ⟨a.toNat, by omega⟩
    have hpP : p < P := by omega
    obtain ⟨l1, l2, l3⟩ := hL.1 p hpP
    obtain ⟨σ1, y1, y2, y3, y4, y5⟩ := leave_eq hC hL hpP
    obtain ⟨hC1, hm1⟩ := core_keep y2 (Kr_sA ρ p (-1)) hC
    have hD1 : ID σ1 (sA ρ 7 p (-1)) := by
      obtain ⟨d1, d2, d3⟩ := hD
      refine ⟨(y4 10 (by decide)).trans d1, (y4 11 (by decide)).trans d2, (y4 12 (by decide)).trans d3⟩
    by_cases hb1 : b = -1
    · subst hb1
      refine ⟨ρ.2 7 p, σ1, sA ρ 7 p (-1), ?_, ?_, core_inv hC1 y3 hD1⟩
      · unfold fX10_give fX10_give_L0 fX10_give_L50
        rw [pHas_t hB h1, bd_some, y1]
        unfold fX7_settle fX7_settle_L0
        simp (disch := omega) only [w32_eq, gI_eq, gB_eq, g0_eq, ix_nat, ix_eq, bd_some, bv_some, Int.toNat_natCast, Int.toNat_zero, sF_1, sF_2, sA_1, sA_2, sR_1, sR_2, ↓reduceIte, if_pos, if_neg, pHas_t hC1.1 h1, rHas_f hC1.1 (v := -1) (by omega) (by omega)]
        rw [l1]
      · unfold fX11_give fX11_give_L0 fX11_give_L24
        rw [isOne_t hP.1 b4 h1, bd_some]
        simp (disch := omega) only [w32_eq, gI_eq, gB_eq, g0_eq, ix_nat, ix_eq, bd_some, bv_some, Int.toNat_natCast, Int.toNat_zero, sF_1, sF_2, sA_1, sA_2, sR_1, sR_2, ↓reduceIte, if_pos, if_neg]
    · by_cases h2 : 0 ≤ b ∧ b < R
      · obtain ⟨r, rfl⟩ : ∃ r : Nat, b = r := ⟨b.toNat, by omega⟩
        have hrR : r < R := by omega
        obtain ⟨g1, g2, g3⟩ := hL.2.1 r hrR
        obtain ⟨m1, m2⟩ := core_may hC (p := p) (r := r) hpP hrR
        have ec : fX10_give σ (p : Int) (r : Int) = bd (fX10_canBeGiven σ (p : Int) (r : Int)) fun a s => if w32 a = 0 then some (-3, s) else fX10_give_L50 (p : Int) (r : Int) s := by
          unfold fX10_give fX10_give_L0
          rw [pHas_t hB h1, bd_some, rHas_t hB h2, bd_some]
          simp (disch := omega) only [w32_eq, gI_eq, gB_eq, g0_eq, ix_nat, ix_eq, bd_some, bv_some, Int.toNat_natCast, Int.toNat_zero, sF_1, sF_2, sA_1, sA_2, sR_1, sR_2, ↓reduceIte, if_pos, if_neg]
        have er : fX11_give ρ (p : Int) (r : Int) = if σ.2 4 r = -1 ∨ σ.2 4 r = p then fX11_give_L47 (p : Int) (r : Int) ρ else some (-3, ρ) := by
          unfold fX11_give fX11_give_L0 fX11_give_L24
          rw [isOne_t hP.1 b4 h1, bd_some, isRoom_t hR.1 b2 h2, bd_some, who_eq hC hL hrR, bd_some, who_eq hC hL hrR, bd_some]
          by_cases c1 : σ.2 4 r = -1
          · simp (disch := omega) only [w32_eq, gI_eq, gB_eq, g0_eq, ix_nat, ix_eq, bd_some, bv_some, Int.toNat_natCast, Int.toNat_zero, sF_1, sF_2, sA_1, sA_2, sR_1, sR_2, ↓reduceIte, if_pos, if_neg]
          · by_cases c2 : σ.2 4 r = p
            · simp (disch := omega) only [w32_eq, gI_eq, gB_eq, g0_eq, ix_nat, ix_eq, bd_some, bv_some, Int.toNat_natCast, Int.toNat_zero, sF_1, sF_2, sA_1, sA_2, sR_1, sR_2, ↓reduceIte, if_pos, if_neg]
            · simp (disch := omega) only [w32_eq, gI_eq, gB_eq, g0_eq, ix_nat, ix_eq, bd_some, bv_some, Int.toNat_natCast, Int.toNat_zero, sF_1, sF_2, sA_1, sA_2, sR_1, sR_2, ↓reduceIte, if_pos, if_neg]
        rw [ec, er]
        unfold fX10_canBeGiven fX10_canBeGiven_L0
        rw [holderOf_t hB hrR, bd_some, m1, bd_some]
        by_cases c : σ.2 4 r = -1 ∨ σ.2 4 r = p
        · rw [if_pos c]
          unfold fX11_give_L47
          rw [m2, bd_some]
          have ecan : ∀ z : Int, (if w32 (σ.2 4 r) = -1 then (if w32 (b01 (mB σ p r)) = 0 then some ((0 : Int), σ) else some (1, σ)) else (if w32 (σ.2 4 r) = w32 (p : Int) then (if w32 (b01 (mB σ p r)) = 0 then some (0, σ) else some (1, σ)) else some (0, σ))) = (if mB σ p r = true then some (1, σ) else some (0, σ)) := by
            intro _
            cases hm : mB σ p r with
            | false =>
              rw [show b01 false = 0 from rfl]
              rcases c with c | c
              · simp (disch := omega) only [w32_eq, gI_eq, gB_eq, g0_eq, ix_nat, ix_eq, bd_some, bv_some, Int.toNat_natCast, Int.toNat_zero, sF_1, sF_2, sA_1, sA_2, sR_1, sR_2, ↓reduceIte, if_pos, if_neg, Bool.false_eq_true]
              · simp (disch := omega) only [w32_eq, gI_eq, gB_eq, g0_eq, ix_nat, ix_eq, bd_some, bv_some, Int.toNat_natCast, Int.toNat_zero, sF_1, sF_2, sA_1, sA_2, sR_1, sR_2, ↓reduceIte, if_pos, if_neg, Bool.false_eq_true]
            | true =>
              rw [show b01 true = 1 from rfl]
              rcases c with c | c
              · simp (disch := omega) only [w32_eq, gI_eq, gB_eq, g0_eq, ix_nat, ix_eq, bd_some, bv_some, Int.toNat_natCast, Int.toNat_zero, sF_1, sF_2, sA_1, sA_2, sR_1, sR_2, ↓reduceIte, if_pos, if_neg]
              · by_cases c3 : σ.2 4 r = -1
                · exfalso; omega
                · simp (disch := omega) only [w32_eq, gI_eq, gB_eq, g0_eq, ix_nat, ix_eq, bd_some, bv_some, Int.toNat_natCast, Int.toNat_zero, sF_1, sF_2, sA_1, sA_2, sR_1, sR_2, ↓reduceIte, if_pos, if_neg]
          rw [ecan 0]
          cases hm : mB σ p r with
          | false =>
            exact ⟨-3, σ, ρ, by simp (disch := omega) only [w32_eq, gI_eq, gB_eq, g0_eq, ix_nat, ix_eq, bd_some, bv_some, Int.toNat_natCast, Int.toNat_zero, sF_1, sF_2, sA_1, sA_2, sR_1, sR_2, ↓reduceIte, if_pos, if_neg, Bool.false_eq_true], by rw [show b01 false = 0 from rfl]; simp (disch := omega) only [w32_eq, gI_eq, gB_eq, g0_eq, ix_nat, ix_eq, bd_some, bv_some, Int.toNat_natCast, Int.toNat_zero, sF_1, sF_2, sA_1, sA_2, sR_1, sR_2, ↓reduceIte, if_pos, if_neg], hI⟩
          | true =>
            have free : σ1.2 4 r = -1 := by
              obtain ⟨z1, z2, z3⟩ := y3.2.1 r hrR
              by_cases e : σ1.2 4 r = -1
              · exact e
              · exfalso
                have w := z3 (σ1.2 4 r).toNat (by omega)
                have w2 := w.mpr (by omega)
                by_cases e2 : (σ1.2 4 r).toNat = p
                · rw [e2] at w2
                  revert w2
                  (simp (disch := omega) only [w32_eq, gI_eq, gB_eq, g0_eq, ix_nat, ix_eq, bd_some, bv_some, Int.toNat_natCast, Int.toNat_zero, sF_1, sF_2, sA_1, sA_2, sR_1, sR_2, ↓reduceIte, if_pos, if_neg, true_and, and_true] <;> omega)
                · have w3 := g3 (σ1.2 4 r).toNat (by omega)
                  have w4 : ρ.2 7 (σ1.2 4 r).toNat = r := by revert w2; simp (disch := omega) only [w32_eq, gI_eq, gB_eq, g0_eq, ix_nat, ix_eq, bd_some, bv_some, Int.toNat_natCast, Int.toNat_zero, sF_1, sF_2, sA_1, sA_2, sR_1, sR_2, ↓reduceIte, if_pos, if_neg]; exact id
                  have w5 := w3.mp w4
                  omega
            obtain ⟨σ2, t1, t2, t3, t4, t5⟩ := settle_eq hC1 y3 hpP hrR (by simp (disch := omega) only [w32_eq, gI_eq, gB_eq, g0_eq, ix_nat, ix_eq, bd_some, bv_some, Int.toNat_natCast, Int.toNat_zero, sF_1, sF_2, sA_1, sA_2, sR_1, sR_2, ↓reduceIte, if_pos, if_neg]) free
            rw [sA_sA] at t3
            obtain ⟨hC2, hm2⟩ := core_keep (Kc.tr y2 t2) (Kr_sA ρ p (r : Int)) hC
            have hD2 : ID σ2 (sA ρ 7 p (r : Int)) := by
              obtain ⟨d1, d2, d3⟩ := hD1
              refine ⟨(t4 10 (by decide)).trans d1, (t4 11 (by decide)).trans d2, (t4 12 (by decide)).trans d3⟩
            refine ⟨ρ.2 7 p, σ2, sA ρ 7 p (r : Int), ?_, ?_, core_inv hC2 t3 hD2⟩
            · unfold fX10_give_L50
              simp (disch := omega) only [w32_eq, gI_eq, gB_eq, g0_eq, ix_nat, ix_eq, bd_some, bv_some, Int.toNat_natCast, Int.toNat_zero, sF_1, sF_2, sA_1, sA_2, sR_1, sR_2, ↓reduceIte, if_pos, if_neg]
              rw [y1, bv_some, t1, bv_some, l1]
            · rw [show b01 true = 1 from rfl]
              simp (disch := omega) only [w32_eq, gI_eq, gB_eq, g0_eq, ix_nat, ix_eq, bd_some, bv_some, Int.toNat_natCast, Int.toNat_zero, sF_1, sF_2, sA_1, sA_2, sR_1, sR_2, ↓reduceIte, if_pos, if_neg]
        · rw [if_neg c]
          have c1 : ¬ σ.2 4 r = -1 := fun z => c (Or.inl z)
          have c2 : ¬ σ.2 4 r = p := fun z => c (Or.inr z)
          exact ⟨-3, σ, ρ, by simp (disch := omega) only [w32_eq, gI_eq, gB_eq, g0_eq, ix_nat, ix_eq, bd_some, bv_some, Int.toNat_natCast, Int.toNat_zero, sF_1, sF_2, sA_1, sA_2, sR_1, sR_2, ↓reduceIte, if_pos, if_neg], rfl, hI⟩
      · refine ⟨-2, σ, ρ, ?_, ?_, hI⟩
        · unfold fX10_give fX10_give_L0
          rw [pHas_t hB h1, bd_some, rHas_f hB hb (by omega), bd_some]
          simp (disch := omega) only [w32_eq, gI_eq, gB_eq, g0_eq, ix_nat, ix_eq, bd_some, bv_some, Int.toNat_natCast, Int.toNat_zero, sF_1, sF_2, sA_1, sA_2, sR_1, sR_2, ↓reduceIte, if_pos, if_neg]
        · unfold fX11_give fX11_give_L0
          rw [isOne_t hP.1 b4 h1, bd_some, isRoom_f hR.1 b2 hb (by omega), bd_some]
          simp (disch := omega) only [w32_eq, gI_eq, gB_eq, g0_eq, ix_nat, ix_eq, bd_some, bv_some, Int.toNat_natCast, Int.toNat_zero, sF_1, sF_2, sA_1, sA_2, sR_1, sR_2, ↓reduceIte, if_pos, if_neg]
  · refine ⟨-2, σ, ρ, ?_, ?_, hI⟩
    · unfold fX10_give fX10_give_L0
      rw [pHas_f hB ha (by omega)]
      simp (disch := omega) only [w32_eq, gI_eq, gB_eq, g0_eq, ix_nat, ix_eq, bd_some, bv_some, Int.toNat_natCast, Int.toNat_zero, sF_1, sF_2, sA_1, sA_2, sR_1, sR_2, ↓reduceIte, if_pos, if_neg]
    · unfold fX11_give fX11_give_L0
      rw [isOne_f hP.1 b4 ha (by omega)]
      simp (disch := omega) only [w32_eq, gI_eq, gB_eq, g0_eq, ix_nat, ix_eq, bd_some, bv_some, Int.toNat_natCast, Int.toNat_zero, sF_1, sF_2, sA_1, sA_2, sR_1, sR_2, ↓reduceIte, if_pos, if_neg]
end EGIVE2
