section EGIVE
variable {σ ρ : St} {R P N T B : Nat}
/-- all but who lives where, and what is told of TRADES -/
def Core (σ ρ : St) (R P N T B : Nat) : Prop := Bs σ R P ∧ IR σ ρ R ∧ IS σ ρ ∧ IP σ ρ P ∧ IW σ ρ R P ∧ IK σ ρ P ∧ IT σ ρ P ∧ IN σ ρ R P N ∧ IQ σ ρ T ∧ IX σ ρ B
theorem core_may (h : Core σ ρ R P N T B) {p r : Nat} (hp : p < P) (hr : r < R) : fX7_suits σ (p : Int) (r : Int) = some (b01 (mB σ p r), σ) ∧ fX11_mayLive ρ (p : Int) (r : Int) = some (b01 (mB σ p r), ρ) := may_eq h.1 h.2.1 h.2.2.1 h.2.2.2.1 h.2.2.2.2.2.2.2.2.2 hp hr
theorem inv_core (h : Inv σ ρ) : ∃ R P N T B : Nat, Core σ ρ R P N T B ∧ IL σ ρ R P ∧ ID σ ρ := by
  obtain ⟨R, P, N, T, B, hB, hR, hS, hP, hW, hL, hK, hT, hD, hN, hQ, hX⟩ := h
  exact ⟨R, P, N, T, B, ⟨hB, hR, hS, hP, hW, hK, hT, hN, hQ, hX⟩, hL, hD⟩
theorem core_inv (h : Core σ ρ R P N T B) (hL : IL σ ρ R P) (hD : ID σ ρ) : Inv σ ρ := by
  obtain ⟨hB, hR, hS, hP, hW, hK, hT, hN, hQ, hX⟩ := h
  exact ⟨R, P, N, T, B, hB, hR, hS, hP, hW, hL, hK, hT, hD, hN, hQ, hX⟩
/-- what ballots, trades and moves of the class leave alone -/
def Kc (σ σ' : St) : Prop := (∀ k : Nat, k ≠ 2 → ¬ (10 ≤ k ∧ k ≤ 14) → σ'.1 k = σ.1 k) ∧ ∀ k : Nat, k ≠ 0 → k ≠ 4 → k ≠ 9 → ¬ (17 ≤ k ∧ k ≤ 25) → σ'.2 k = σ.2 k
def Kr (ρ ρ' : St) : Prop := (∀ k : Nat, k ≠ 4 → ρ'.1 k = ρ.1 k) ∧ ∀ k : Nat, k ≠ 7 → ¬ (12 ≤ k ∧ k ≤ 20) → ρ'.2 k = ρ.2 k
theorem Kc.rf : Kc σ σ := ⟨fun _ _ _ => rfl, fun _ _ _ _ _ => rfl⟩
theorem Kr.rf : Kr ρ ρ := ⟨fun _ _ => rfl, fun _ _ _ => rfl⟩
theorem Kc.tr {a b c : St} (h : Kc a b) (g : Kc b c) : Kc a c := ⟨fun k h1 h2 => (g.1 k h1 h2).trans (h.1 k h1 h2), fun k h1 h2 h3 h4 => (g.2 k h1 h2 h3 h4).trans (h.2 k h1 h2 h3 h4)⟩
theorem Kr.tr {a b c : St} (h : Kr a b) (g : Kr b c) : Kr a c := ⟨fun k h1 => (g.1 k h1).trans (h.1 k h1), fun k h1 h2 => (g.2 k h1 h2).trans (h.2 k h1 h2)⟩
theorem core_keep {σ' ρ' : St} (hc : Kc σ σ') (hr : Kr ρ ρ') (h : Core σ ρ R P N T B) : Core σ' ρ' R P N T B ∧ ∀ p r : Nat, mB σ' p r = mB σ p r := by
  obtain ⟨f, g⟩ := hc
  obtain ⟨u, v⟩ := hr
  have f0 := f 0 (by decide) (by decide)
  have f1 := f 1 (by decide) (by decide)
  have f3 := f 3 (by decide) (by decide)
  have f4 := f 4 (by decide) (by decide)
  have f5 := f 5 (by decide) (by decide)
  have f6 := f 6 (by decide) (by decide)
  have f7 := f 7 (by decide) (by decide)
  have f8 := f 8 (by decide) (by decide)
  have f9 := f 9 (by decide) (by decide)
  have f15 := f 15 (by decide) (by decide)
  have f16 := f 16 (by decide) (by decide)
  have f17 := f 17 (by decide) (by decide)
  have g1 := g 1 (by decide) (by decide) (by decide) (by decide)
  have g2 := g 2 (by decide) (by decide) (by decide) (by decide)
  have g3 := g 3 (by decide) (by decide) (by decide) (by decide)
  have g5 := g 5 (by decide) (by decide) (by decide) (by decide)
  have g6 := g 6 (by decide) (by decide) (by decide) (by decide)
  have g7 := g 7 (by decide) (by decide) (by decide) (by decide)
  have g8 := g 8 (by decide) (by decide) (by decide) (by decide)
  have g10 := g 10 (by decide) (by decide) (by decide) (by decide)
  have g11 := g 11 (by decide) (by decide) (by decide) (by decide)
  have g12 := g 12 (by decide) (by decide) (by decide) (by decide)
  have g13 := g 13 (by decide) (by decide) (by decide) (by decide)
  have g14 := g 14 (by decide) (by decide) (by decide) (by decide)
  have g15 := g 15 (by decide) (by decide) (by decide) (by decide)
  have g16 := g 16 (by decide) (by decide) (by decide) (by decide)
  have g26 := g 26 (by decide) (by decide) (by decide) (by decide)
  have g27 := g 27 (by decide) (by decide) (by decide) (by decide)
  have g28 := g 28 (by decide) (by decide) (by decide) (by decide)
  have g29 := g 29 (by decide) (by decide) (by decide) (by decide)
  have g30 := g 30 (by decide) (by decide) (by decide) (by decide)
  have u0 := u 0 (by decide)
  have u1 := u 1 (by decide)
  have u2 := u 2 (by decide)
  have u3 := u 3 (by decide)
  have u5 := u 5 (by decide)
  have u6 := u 6 (by decide)
  have v0 := v 0 (by decide) (by decide)
  have v1 := v 1 (by decide) (by decide)
  have v2 := v 2 (by decide) (by decide)
  have v3 := v 3 (by decide) (by decide)
  have v4 := v 4 (by decide) (by decide)
  have v5 := v 5 (by decide) (by decide)
  have v6 := v 6 (by decide) (by decide)
  have v8 := v 8 (by decide) (by decide)
  have v9 := v 9 (by decide) (by decide)
  have v10 := v 10 (by decide) (by decide)
  have v11 := v 11 (by decide) (by decide)
  have v21 := v 21 (by decide) (by decide)
  have v22 := v 22 (by decide) (by decide)
  have v23 := v 23 (by decide) (by decide)
  have v24 := v 24 (by decide) (by decide)
  refine ⟨?_, fun p r => by unfold mB; rw [f1, f5, f6, f7, g12, g13, g14, g15, g5, g2, g3, g1]⟩
  unfold Core Bs IR IS IP IW IK IT IN IQ IX TS T2 T1 at *
  simp only [f0, f1, f3, f4, f5, f6, f7, f8, f9, f15, f16, f17, g1, g2, g3, g5, g6, g7, g8, g10, g11, g12, g13, g14, g15, g16, g26, g27, g28, g29, g30, u0, u1, u2, u3, u5, u6, v0, v1, v2, v3, v4, v5, v6, v8, v9, v10, v11, v21, v22, v23, v24]
  exact h
/-- who holds a ROOM, by the reference -/
theorem who_eq (h : Core σ ρ R P N T B) (hL : IL σ ρ R P) {r : Nat} (hr : r < R) : fX11_whoHas ρ (r : Int) = some (σ.2 4 r, ρ) := by
  have b2 := h.1.2.1
  have b4 := h.1.2.2.2.1
  obtain ⟨l1, l2, l3⟩ := hL.2.1 r hr
  exact whoHas_eq h.2.2.2.1.1 b4 (by unfold rg; omega) (fun q hq => by have := hL.1 q hq; unfold rg; omega) ⟨l1, l2⟩ l3
/-- one leaves -/
theorem leave_eq (h : Core σ ρ R P N T B) (hL : IL σ ρ R P) {p : Nat} (hp : p < P) : ∃ σ' : St, fX7_leave σ (p : Int) = some σ' ∧ Kc σ σ' ∧ IL σ' (sA ρ 7 p (-1)) R P ∧ (∀ k : Nat, k ≠ 2 → σ'.1 k = σ.1 k) ∧ (∀ k : Nat, k ≠ 4 → k ≠ 9 → σ'.2 k = σ.2 k) := by
  have hB := h.1
  obtain ⟨b1, b2, b3, b4, b5⟩ := id hB
  obtain ⟨l1, l2, l3⟩ := hL.1 p hp
  unfold fX7_leave fX7_leave_L0
  rw [lodgingOf_t hB hp, l1, bd_some, pHas_t hB (by omega), bd_some]
  by_cases c : ρ.2 7 p = -1
  · refine ⟨σ, ?_, Kc.rf, ⟨fun q hq => ?_, fun r hr => ?_, hL.2.2⟩, fun _ _ => rfl, fun _ _ _ => rfl⟩
    · rw [c, rHas_f hB (by omega) (by omega)]
      simp (disch := omega) only [w32_eq, gI_eq, gB_eq, g0_eq, ix_nat, ix_eq, bd_some, bv_some, Int.toNat_natCast, Int.toNat_zero, sF_1, sF_2, sA_1, sA_2, sR_1, sR_2, ↓reduceIte, if_pos, if_neg]
    · have := hL.1 q hq
      by_cases e : q = p
      · subst e; simp (disch := omega) only [w32_eq, gI_eq, gB_eq, g0_eq, ix_nat, ix_eq, bd_some, bv_some, Int.toNat_natCast, Int.toNat_zero, sF_1, sF_2, sA_1, sA_2, sR_1, sR_2, ↓reduceIte, if_pos, if_neg]; exact ⟨l1.trans c, by omega, by omega⟩
      · simp (disch := omega) only [w32_eq, gI_eq, gB_eq, g0_eq, ix_nat, ix_eq, bd_some, bv_some, Int.toNat_natCast, Int.toNat_zero, sF_1, sF_2, sA_1, sA_2, sR_1, sR_2, ↓reduceIte, if_pos, if_neg]; exact this
    · obtain ⟨m1, m2, m3⟩ := hL.2.1 r hr
      refine ⟨m1, m2, fun q hq => ?_⟩
      have := m3 q hq
      by_cases e : q = p
      · subst e; rw [c] at this; simp (disch := omega) only [w32_eq, gI_eq, gB_eq, g0_eq, ix_nat, ix_eq, bd_some, bv_some, Int.toNat_natCast, Int.toNat_zero, sF_1, sF_2, sA_1, sA_2, sR_1, sR_2, ↓reduceIte, if_pos, if_neg]; exact this
      · simp (disch := omega) only [w32_eq, gI_eq, gB_eq, g0_eq, ix_nat, ix_eq, bd_some, bv_some, Int.toNat_natCast, Int.toNat_zero, sF_1, sF_2, sA_1, sA_2, sR_1, sR_2, ↓reduceIte, if_pos, if_neg]; exact this
  · obtain ⟨r, hr⟩ : ∃ r : Nat, ρ.2 7 p = r := ⟨(ρ.2 7 p).toNat, by omega⟩
    have hrR : r < R := by omega
    obtain ⟨m1, m2, m3⟩ := hL.2.1 r hrR
    have hold : σ.2 4 r = p := (m3 p hp).mp hr
    refine ⟨sF (sA (sA σ 9 p (-1)) 4 r (-1)) 2 (bAnd (σ.1 2) (bXor (bShl 1 (r : Int)) (-1))), ?_, ⟨fun k h1 h2 => by simp (disch := omega) only [w32_eq, gI_eq, gB_eq, g0_eq, ix_nat, ix_eq, bd_some, bv_some, Int.toNat_natCast, Int.toNat_zero, sF_1, sF_2, sA_1, sA_2, sR_1, sR_2, ↓reduceIte, if_pos, if_neg], fun k h1 h2 h3 h4 => by funext j; simp (disch := omega) only [w32_eq, gI_eq, gB_eq, g0_eq, ix_nat, ix_eq, bd_some, bv_some, Int.toNat_natCast, Int.toNat_zero, sF_1, sF_2, sA_1, sA_2, sR_1, sR_2, ↓reduceIte, if_pos, if_neg]⟩, ⟨fun q hq => ?_, fun r' hr' => ?_, fun k hk => ?_⟩, fun k h1 => by simp (disch := omega) only [w32_eq, gI_eq, gB_eq, g0_eq, ix_nat, ix_eq, bd_some, bv_some, Int.toNat_natCast, Int.toNat_zero, sF_1, sF_2, sA_1, sA_2, sR_1, sR_2, ↓reduceIte, if_pos, if_neg], fun k h1 h2 => by funext j; simp (disch := omega) only [w32_eq, gI_eq, gB_eq, g0_eq, ix_nat, ix_eq, bd_some, bv_some, Int.toNat_natCast, Int.toNat_zero, sF_1, sF_2, sA_1, sA_2, sR_1, sR_2, ↓reduceIte, if_pos, if_neg]⟩
    · rw [hr, rHas_t hB (by omega), bd_some]
      simp (disch := omega) only [w32_eq, gI_eq, gB_eq, g0_eq, ix_nat, ix_eq, bd_some, bv_some, Int.toNat_natCast, Int.toNat_zero, sF_1, sF_2, sA_1, sA_2, sR_1, sR_2, ↓reduceIte, if_pos, if_neg]
    · have := hL.1 q hq
      by_cases e : q = p
      · subst e; (simp (disch := omega) only [w32_eq, gI_eq, gB_eq, g0_eq, ix_nat, ix_eq, bd_some, bv_some, Int.toNat_natCast, Int.toNat_zero, sF_1, sF_2, sA_1, sA_2, sR_1, sR_2, ↓reduceIte, if_pos, if_neg, true_and, and_true] <;> omega)
      · simp (disch := omega) only [w32_eq, gI_eq, gB_eq, g0_eq, ix_nat, ix_eq, bd_some, bv_some, Int.toNat_natCast, Int.toNat_zero, sF_1, sF_2, sA_1, sA_2, sR_1, sR_2, ↓reduceIte, if_pos, if_neg]; exact this
    · obtain ⟨z1, z2, z3⟩ := hL.2.1 r' hr'
      by_cases e : r' = r
      · subst e
        refine ⟨by (simp (disch := omega) only [w32_eq, gI_eq, gB_eq, g0_eq, ix_nat, ix_eq, bd_some, bv_some, Int.toNat_natCast, Int.toNat_zero, sF_1, sF_2, sA_1, sA_2, sR_1, sR_2, ↓reduceIte, if_pos, if_neg, true_and, and_true] <;> omega), by (simp (disch := omega) only [w32_eq, gI_eq, gB_eq, g0_eq, ix_nat, ix_eq, bd_some, bv_some, Int.toNat_natCast, Int.toNat_zero, sF_1, sF_2, sA_1, sA_2, sR_1, sR_2, ↓reduceIte, if_pos, if_neg, true_and, and_true] <;> omega), fun q hq => ?_⟩
        have := m3 q hq
        by_cases e2 : q = p
        · subst e2; (simp (disch := omega) only [w32_eq, gI_eq, gB_eq, g0_eq, ix_nat, ix_eq, bd_some, bv_some, Int.toNat_natCast, Int.toNat_zero, sF_1, sF_2, sA_1, sA_2, sR_1, sR_2, ↓reduceIte, if_pos, if_neg, true_and, and_true] <;> omega)
        · (simp (disch := omega) only [w32_eq, gI_eq, gB_eq, g0_eq, ix_nat, ix_eq, bd_some, bv_some, Int.toNat_natCast, Int.toNat_zero, sF_1, sF_2, sA_1, sA_2, sR_1, sR_2, ↓reduceIte, if_pos, if_neg, true_and, and_true] <;> omega)
      · refine ⟨by (simp (disch := omega) only [w32_eq, gI_eq, gB_eq, g0_eq, ix_nat, ix_eq, bd_some, bv_some, Int.toNat_natCast, Int.toNat_zero, sF_1, sF_2, sA_1, sA_2, sR_1, sR_2, ↓reduceIte, if_pos, if_neg, true_and, and_true] <;> omega), by (simp (disch := omega) only [w32_eq, gI_eq, gB_eq, g0_eq, ix_nat, ix_eq, bd_some, bv_some, Int.toNat_natCast, Int.toNat_zero, sF_1, sF_2, sA_1, sA_2, sR_1, sR_2, ↓reduceIte, if_pos, if_neg, true_and, and_true] <;> omega), fun q hq => ?_⟩
        have := z3 q hq
        by_cases e2 : q = p
        · subst e2; (simp (disch := omega) only [w32_eq, gI_eq, gB_eq, g0_eq, ix_nat, ix_eq, bd_some, bv_some, Int.toNat_natCast, Int.toNat_zero, sF_1, sF_2, sA_1, sA_2, sR_1, sR_2, ↓reduceIte, if_pos, if_neg, true_and, and_true] <;> omega)
        · simp (disch := omega) only [w32_eq, gI_eq, gB_eq, g0_eq, ix_nat, ix_eq, bd_some, bv_some, Int.toNat_natCast, Int.toNat_zero, sF_1, sF_2, sA_1, sA_2, sR_1, sR_2, ↓reduceIte, if_pos, if_neg]; exact this
    · have w := hL.2.2 k hk
      show tb (bAnd (σ.1 2) (bXor (bShl 1 (r : Int)) (-1))) k = true ↔ _
      rw [tb_and, tb_not _ hk, tb_shl1 (by omega)]
      by_cases e : k = r
      · subst e
        simp only [decide_true, Bool.not_true, Bool.and_false, Bool.false_eq_true, false_iff]
        (simp (disch := omega) only [w32_eq, gI_eq, gB_eq, g0_eq, ix_nat, ix_eq, bd_some, bv_some, Int.toNat_natCast, Int.toNat_zero, sF_1, sF_2, sA_1, sA_2, sR_1, sR_2, ↓reduceIte, if_pos, if_neg, true_and, and_true] <;> omega)
      · simp only [e, decide_false, Bool.not_false, Bool.and_true]
        rw [w]
        simp (disch := omega) only [w32_eq, gI_eq, gB_eq, g0_eq, ix_nat, ix_eq, bd_some, bv_some, Int.toNat_natCast, Int.toNat_zero, sF_1, sF_2, sA_1, sA_2, sR_1, sR_2, ↓reduceIte, if_pos, if_neg]
/-- one gets a ROOM that nobody has -/
theorem settle_eq (h : Core σ ρ R P N T B) (hL : IL σ ρ R P) {p r : Nat} (hp : p < P) (hr : r < R) (hn : ρ.2 7 p = -1) (hf : σ.2 4 r = -1) : ∃ σ' : St, fX7_settle σ (p : Int) (r : Int) = some σ' ∧ Kc σ σ' ∧ IL σ' (sA ρ 7 p (r : Int)) R P ∧ (∀ k : Nat, k ≠ 2 → σ'.1 k = σ.1 k) ∧ (∀ k : Nat, k ≠ 4 → k ≠ 9 → σ'.2 k = σ.2 k) := by
  have hB := h.1
  obtain ⟨b1, b2, b3, b4, b5⟩ := id hB
  unfold fX7_settle fX7_settle_L0
  rw [pHas_t hB (by omega), bd_some, rHas_t hB (by omega), bd_some]
  obtain ⟨m1, m2, m3⟩ := hL.2.1 r hr
  refine ⟨sF (sA (sA σ 9 p (r : Int)) 4 r (p : Int)) 2 (bOr (σ.1 2) (bShl 1 (r : Int))), by simp (disch := omega) only [w32_eq, gI_eq, gB_eq, g0_eq, ix_nat, ix_eq, bd_some, bv_some, Int.toNat_natCast, Int.toNat_zero, sF_1, sF_2, sA_1, sA_2, sR_1, sR_2, ↓reduceIte, if_pos, if_neg], ⟨fun k h1 h2 => by simp (disch := omega) only [w32_eq, gI_eq, gB_eq, g0_eq, ix_nat, ix_eq, bd_some, bv_some, Int.toNat_natCast, Int.toNat_zero, sF_1, sF_2, sA_1, sA_2, sR_1, sR_2, ↓reduceIte, if_pos, if_neg], fun k h1 h2 h3 h4 => by funext j; simp (disch := omega) only [w32_eq, gI_eq, gB_eq, g0_eq, ix_nat, ix_eq, bd_some, bv_some, Int.toNat_natCast, Int.toNat_zero, sF_1, sF_2, sA_1, sA_2, sR_1, sR_2, ↓reduceIte, if_pos, if_neg]⟩, ⟨fun q hq => ?_, fun r' hr' => ?_, fun k hk => ?_⟩, fun k h1 => by simp (disch := omega) only [w32_eq, gI_eq, gB_eq, g0_eq, ix_nat, ix_eq, bd_some, bv_some, Int.toNat_natCast, Int.toNat_zero, sF_1, sF_2, sA_1, sA_2, sR_1, sR_2, ↓reduceIte, if_pos, if_neg], fun k h1 h2 => by funext j; simp (disch := omega) only [w32_eq, gI_eq, gB_eq, g0_eq, ix_nat, ix_eq, bd_some, bv_some, Int.toNat_natCast, Int.toNat_zero, sF_1, sF_2, sA_1, sA_2, sR_1, sR_2, ↓reduceIte, if_pos, if_neg]⟩
  · have := hL.1 q hq
    by_cases e : q = p
    · subst e; (simp (disch := omega) only [w32_eq, gI_eq, gB_eq, g0_eq, ix_nat, ix_eq, bd_some, bv_some, Int.toNat_natCast, Int.toNat_zero, sF_1, sF_2, sA_1, sA_2, sR_1, sR_2, ↓reduceIte, if_pos, if_neg, true_and, and_true] <;> omega)
    · simp (disch := omega) only [w32_eq, gI_eq, gB_eq, g0_eq, ix_nat, ix_eq, bd_some, bv_some, Int.toNat_natCast, Int.toNat_zero, sF_1, sF_2, sA_1, sA_2, sR_1, sR_2, ↓reduceIte, if_pos, if_neg]; exact this
  · obtain ⟨z1, z2, z3⟩ := hL.2.1 r' hr'
    by_cases e : r' = r
    · subst e
      refine ⟨by (simp (disch := omega) only [w32_eq, gI_eq, gB_eq, g0_eq, ix_nat, ix_eq, bd_some, bv_some, Int.toNat_natCast, Int.toNat_zero, sF_1, sF_2, sA_1, sA_2, sR_1, sR_2, ↓reduceIte, if_pos, if_neg, true_and, and_true] <;> omega), by (simp (disch := omega) only [w32_eq, gI_eq, gB_eq, g0_eq, ix_nat, ix_eq, bd_some, bv_some, Int.toNat_natCast, Int.toNat_zero, sF_1, sF_2, sA_1, sA_2, sR_1, sR_2, ↓reduceIte, if_pos, if_neg, true_and, and_true] <;> omega), fun q hq => ?_⟩
      have := m3 q hq
      by_cases e2 : q = p
      · subst e2; (simp (disch := omega) only [w32_eq, gI_eq, gB_eq, g0_eq, ix_nat, ix_eq, bd_some, bv_some, Int.toNat_natCast, Int.toNat_zero, sF_1, sF_2, sA_1, sA_2, sR_1, sR_2, ↓reduceIte, if_pos, if_neg, true_and, and_true] <;> omega)
      · (simp (disch := omega) only [w32_eq, gI_eq, gB_eq, g0_eq, ix_nat, ix_eq, bd_some, bv_some, Int.toNat_natCast, Int.toNat_zero, sF_1, sF_2, sA_1, sA_2, sR_1, sR_2, ↓reduceIte, if_pos, if_neg, true_and, and_true] <;> omega)
    · refine ⟨by (simp (disch := omega) only [w32_eq, gI_eq, gB_eq, g0_eq, ix_nat, ix_eq, bd_some, bv_some, Int.toNat_natCast, Int.toNat_zero, sF_1, sF_2, sA_1, sA_2, sR_1, sR_2, ↓reduceIte, if_pos, if_neg, true_and, and_true] <;> omega), by (simp (disch := omega) only [w32_eq, gI_eq, gB_eq, g0_eq, ix_nat, ix_eq, bd_some, bv_some, Int.toNat_natCast, Int.toNat_zero, sF_1, sF_2, sA_1, sA_2, sR_1, sR_2, ↓reduceIte, if_pos, if_neg, true_and, and_true] <;> omega), fun q hq => ?_⟩
      have := z3 q hq
      by_cases e2 : q = p
      · subst e2; (simp (disch := omega) only [w32_eq, gI_eq, gB_eq, g0_eq, ix_nat, ix_eq, bd_some, bv_some, Int.toNat_natCast, Int.toNat_zero, sF_1, sF_2, sA_1, sA_2, sR_1, sR_2, ↓reduceIte, if_pos, if_neg, true_and, and_true] <;> omega)
      · simp (disch := omega) only [w32_eq, gI_eq, gB_eq, g0_eq, ix_nat, ix_eq, bd_some, bv_some, Int.toNat_natCast, Int.toNat_zero, sF_1, sF_2, sA_1, sA_2, sR_1, sR_2, ↓reduceIte, if_pos, if_neg]; exact this
  · have w := hL.2.2 k hk
    show tb (bOr (σ.1 2) (bShl 1 (r : Int))) k = true ↔ _
    rw [tb_or, tb_shl1 (by omega)]
    by_cases e : k = r
    · subst e
      simp only [decide_true, Bool.or_true, true_iff]
      (simp (disch := omega) only [w32_eq, gI_eq, gB_eq, g0_eq, ix_nat, ix_eq, bd_some, bv_some, Int.toNat_natCast, Int.toNat_zero, sF_1, sF_2, sA_1, sA_2, sR_1, sR_2, ↓reduceIte, if_pos, if_neg, true_and, and_true] <;> omega)
    · simp only [e, decide_false, Bool.or_false]
      rw [w]
      simp (disch := omega) only [w32_eq, gI_eq, gB_eq, g0_eq, ix_nat, ix_eq, bd_some, bv_some, Int.toNat_natCast, Int.toNat_zero, sF_1, sF_2, sA_1, sA_2, sR_1, sR_2, ↓reduceIte, if_pos, if_neg]
theorem op_may (h : Inv σ ρ) {a b : Int} (ha : rg a) (hb : rg b) : Op (fX10_may σ a b) (fX11_may ρ a b) := by
  have hI := h
  obtain ⟨R, P, N, T, B, hC, hL, hD⟩ := inv_core h
  obtain ⟨hB, hR, hS, hP, hW, hK, hT, hN, hQ, hX⟩ := id hC
  obtain ⟨b1, b2, b3, b4, b5⟩ := id hB
  unfold rg at ha hb
  unfold fX10_may fX10_may_L0 fX11_may fX11_may_L0
  by_cases h1 : 0 ≤ a ∧ a < P
  · by_cases h2 : 0 ≤ b ∧ b < R
    · obtain ⟨p, rfl⟩ : ∃ p : Nat, a = p := ⟨a.toNat, by omega⟩
      obtain ⟨r, rfl⟩ : ∃ r : Nat, b = r := ⟨b.toNat, by omega⟩
      obtain ⟨m1, m2⟩ := core_may hC (p := p) (r := r) (by omega) (by omega)
      rw [pHas_t hB h1, isOne_t hP.1 b4 h1, bd_some, bd_some, rHas_t hB h2, isRoom_t hR.1 b2 h2, bd_some, bd_some, m1, m2, bd_some, bd_some]
      cases hm : mB σ p r with
      | false => exact ⟨0, σ, ρ, by rw [show b01 false = 0 from rfl]; simp (disch := omega) only [w32_eq, gI_eq, gB_eq, g0_eq, ix_nat, ix_eq, bd_some, bv_some, Int.toNat_natCast, Int.toNat_zero, sF_1, sF_2, sA_1, sA_2, sR_1, sR_2, ↓reduceIte, if_pos, if_neg], by rw [show b01 false = 0 from rfl]; simp (disch := omega) only [w32_eq, gI_eq, gB_eq, g0_eq, ix_nat, ix_eq, bd_some, bv_some, Int.toNat_natCast, Int.toNat_zero, sF_1, sF_2, sA_1, sA_2, sR_1, sR_2, ↓reduceIte, if_pos, if_neg], hI⟩
      | true => exact ⟨1, σ, ρ, by rw [show b01 true = 1 from rfl]; simp (disch := omega) only [w32_eq, gI_eq, gB_eq, g0_eq, ix_nat, ix_eq, bd_some, bv_some, Int.toNat_natCast, Int.toNat_zero, sF_1, sF_2, sA_1, sA_2, sR_1, sR_2, ↓reduceIte, if_pos, if_neg], by rw [show b01 true = 1 from rfl]; simp (disch := omega) only [w32_eq, gI_eq, gB_eq, g0_eq, ix_nat, ix_eq, bd_some, bv_some, Int.toNat_natCast, Int.toNat_zero, sF_1, sF_2, sA_1, sA_2, sR_1, sR_2, ↓reduceIte, if_pos, if_neg], hI⟩
    · rw [pHas_t hB h1, isOne_t hP.1 b4 h1, bd_some, bd_some, rHas_f hB hb (by omega), isRoom_f hR.1 b2 hb (by omega), bd_some, bd_some]
      exact ⟨-2, σ, ρ, by simp (disch := omega) only [w32_eq, gI_eq, gB_eq, g0_eq, ix_nat, ix_eq, bd_some, bv_some, Int.toNat_natCast, Int.toNat_zero, sF_1, sF_2, sA_1, sA_2, sR_1, sR_2, ↓reduceIte, if_pos, if_neg], by simp (disch := omega) only [w32_eq, gI_eq, gB_eq, g0_eq, ix_nat, ix_eq, bd_some, bv_some, Int.toNat_natCast, Int.toNat_zero, sF_1, sF_2, sA_1, sA_2, sR_1, sR_2, ↓reduceIte, if_pos, if_neg], hI⟩
  · rw [pHas_f hB ha (by omega), isOne_f hP.1 b4 ha (by omega)]
    exact ⟨-2, σ, ρ, by simp (disch := omega) only [w32_eq, gI_eq, gB_eq, g0_eq, ix_nat, ix_eq, bd_some, bv_some, Int.toNat_natCast, Int.toNat_zero, sF_1, sF_2, sA_1, sA_2, sR_1, sR_2, ↓reduceIte, if_pos, if_neg], by simp (disch := omega) only [w32_eq, gI_eq, gB_eq, g0_eq, ix_nat, ix_eq, bd_some, bv_some, Int.toNat_natCast, Int.toNat_zero, sF_1, sF_2, sA_1, sA_2, sR_1, sR_2, ↓reduceIte, if_pos, if_neg], hI⟩
end EGIVE
