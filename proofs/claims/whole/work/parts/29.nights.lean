/-- the common state with its numbers -/
def InvN (σ ρ : St) (R P N T B : Nat) : Prop := Bs σ R P ∧ IR σ ρ R ∧ IS σ ρ ∧ IP σ ρ P ∧ IW σ ρ R P ∧ IL σ ρ R P ∧ IK σ ρ P ∧ IT σ ρ P ∧ ID σ ρ ∧ IN σ ρ R P N ∧ IQ σ ρ T ∧ IX σ ρ B
section ENIGHT
variable {σ ρ : St} {R P N T B : Nat}
theorem lodgingIn_t (h1 : σ.1 15 = N) (hN : N ≤ 60) {p n : Nat} (hp : p < 16) (hn : n < N) : fX2_lodgingIn σ (p : Int) (n : Int) = some (σ.2 26 (p * 60 + n), σ) := by
  unfold fX2_lodgingIn fX2_lodgingIn_L0 fX2_lodgingIn_L29
  simp (disch := omega) only [w32_eq, gI_eq, gB_eq, g0_eq, ix_nat, ix_eq, bd_some, bv_some, Int.toNat_natCast, Int.toNat_zero, sF_1, sF_2, sA_1, sA_2, sR_1, sR_2, ↓reduceIte, if_pos, if_neg, within_eq, h1]
  rw [show ((p : Int) * 60 + (n : Int)).toNat = p * 60 + n by omega]
theorem op_had (h : Inv σ ρ) {a b : Int} (ha : rg a) (hb : rg b) : Op (fX10_had σ a b) (fX11_had ρ a b) := by
  have hI := h
  obtain ⟨R, P, N, T, B, hB, hR, hS, hP, hW, hL, hK, hT, hD, hN, hQ, hX⟩ := h
  obtain ⟨b1, b2, b3, b4, b5⟩ := id hB
  obtain ⟨n1, n2, n3, n4, n5⟩ := id hN
  unfold rg at ha hb
  unfold fX10_had fX10_had_L0 fX11_had fX11_had_L0
  by_cases h1 : 0 ≤ a ∧ a < P
  · rw [pHas_t hB h1, isOne_t hP.1 b4 h1, bd_some, bd_some]
    by_cases h2 : 0 ≤ b ∧ b < N
    · obtain ⟨p, rfl⟩ : ∃ p : Nat, a = p := ⟨a.toNat, by omega⟩
      obtain ⟨n, rfl⟩ : ∃ n : Nat, b = n := ⟨b.toNat, by omega⟩
      obtain ⟨x1, x2, x3⟩ := n4 p (by omega) n (by omega)
      refine ⟨ρ.2 21 (p * 60 + n), σ, ρ, ?_, ?_, hI⟩
      · simp (disch := omega) only [w32_eq, gI_eq, gB_eq, g0_eq, ix_nat, ix_eq, bd_some, bv_some, Int.toNat_natCast, Int.toNat_zero, sF_1, sF_2, sA_1, sA_2, sR_1, sR_2, ↓reduceIte, if_pos, if_neg, within_eq, n1]
        rw [lodgingIn_t n1 n3 (by omega) (by omega), x1, bd_some]
      · simp (disch := omega) only [w32_eq, gI_eq, gB_eq, g0_eq, ix_nat, ix_eq, bd_some, bv_some, Int.toNat_natCast, Int.toNat_zero, sF_1, sF_2, sA_1, sA_2, sR_1, sR_2, ↓reduceIte, if_pos, if_neg, in_eq, n2]
        rw [show (60 * (p : Int) + (n : Int)).toNat = p * 60 + n by omega]
    · exact ⟨-2, σ, ρ, by simp (disch := omega) only [w32_eq, gI_eq, gB_eq, g0_eq, ix_nat, ix_eq, bd_some, bv_some, Int.toNat_natCast, Int.toNat_zero, sF_1, sF_2, sA_1, sA_2, sR_1, sR_2, ↓reduceIte, if_pos, if_neg, within_eq, n1], by simp (disch := omega) only [w32_eq, gI_eq, gB_eq, g0_eq, ix_nat, ix_eq, bd_some, bv_some, Int.toNat_natCast, Int.toNat_zero, sF_1, sF_2, sA_1, sA_2, sR_1, sR_2, ↓reduceIte, if_pos, if_neg, in_eq, n2], hI⟩
  · rw [pHas_f hB ha (by omega), isOne_f hP.1 b4 ha (by omega)]
    exact ⟨-2, σ, ρ, by simp (disch := omega) only [w32_eq, gI_eq, gB_eq, g0_eq, ix_nat, ix_eq, bd_some, bv_some, Int.toNat_natCast, Int.toNat_zero, sF_1, sF_2, sA_1, sA_2, sR_1, sR_2, ↓reduceIte, if_pos, if_neg], by simp (disch := omega) only [w32_eq, gI_eq, gB_eq, g0_eq, ix_nat, ix_eq, bd_some, bv_some, Int.toNat_natCast, Int.toNat_zero, sF_1, sF_2, sA_1, sA_2, sR_1, sR_2, ↓reduceIte, if_pos, if_neg], hI⟩
/-- one NIGHT, from person p on -/
theorem night_loop : ∀ (n m p : Nat) (σ ρ : St), InvN σ ρ R P N T B → N < 60 → p ≤ P → P - p < n → P - p < m → (∀ q : Nat, q < p → σ.2 26 (q * 60 + N) = ρ.2 21 (q * 60 + N) ∧ -1 ≤ ρ.2 21 (q * 60 + N) ∧ ρ.2 21 (q * 60 + N) < R) →
    ∃ σ' ρ' : St, fX2_keepOne_L12 n (p : Int) σ = some σ' ∧ (∀ (k : Int → Int → St → Option (Int × St)) (v1 v2 : Int), fX11_pass_L38 k m v1 v2 (p : Int) ρ = k v1 (v2 + 1) ρ') ∧ InvN σ' ρ' R P (N + 1) T B := by
  intro n
  induction n with
  | zero => intro m p σ ρ _ _ _ h; omega
  | succ n ih =>
    intro m p σ ρ h hN6 hp hn hm hq
    obtain ⟨m, rfl⟩ : ∃ m' : Nat, m = m' + 1 := ⟨m - 1, by omega⟩
    obtain ⟨hB, hR, hS, hP, hW, hL, hK, hT, hD, hN, hQ, hX⟩ := id h
    obtain ⟨b1, b2, b3, b4, b5⟩ := id hB
    obtain ⟨n1, n2, n3, n4, n5⟩ := id hN
    have p1 := hP.1
    have e0 : fX2_keepOne_L12 (n + 1) (p : Int) σ = fX2_keepOne_B12 (fX2_keepOne_L12 n) (p : Int) σ := rfl
    have e1 : ∀ (k : Int → Int → St → Option (Int × St)) (v1 v2 : Int), fX11_pass_L38 k (m + 1) v1 v2 (p : Int) ρ = fX11_pass_B38 k (fX11_pass_L38 k m) v1 v2 (p : Int) ρ := fun _ _ _ => rfl
    by_cases e : p = P
    · subst e
      refine ⟨sF σ 15 ((N : Int) + 1), sF ρ 5 ((N : Int) + 1), ?_, fun k v1 v2 => ?_, ?_⟩
      · rw [e0]; unfold fX2_keepOne_B12
        simp (disch := omega) only [w32_eq, gI_eq, gB_eq, g0_eq, ix_nat, ix_eq, bd_some, bv_some, Int.toNat_natCast, Int.toNat_zero, sF_1, sF_2, sA_1, sA_2, sR_1, sR_2, ↓reduceIte, if_pos, if_neg, b3, n1]
      · rw [e1]; unfold fX11_pass_B38
        simp (disch := omega) only [w32_eq, gI_eq, gB_eq, g0_eq, ix_nat, ix_eq, bd_some, bv_some, Int.toNat_natCast, Int.toNat_zero, sF_1, sF_2, sA_1, sA_2, sR_1, sR_2, ↓reduceIte, if_pos, if_neg, p1, n2]
      · refine ⟨hB, hR, hS, hP, hW, hL, hK, hT, hD, ⟨by (simp (disch := omega) only [w32_eq, gI_eq, gB_eq, g0_eq, ix_nat, ix_eq, bd_some, bv_some, Int.toNat_natCast, Int.toNat_zero, sF_1, sF_2, sA_1, sA_2, sR_1, sR_2, ↓reduceIte, if_pos, if_neg, true_and, and_true] <;> omega), by (simp (disch := omega) only [w32_eq, gI_eq, gB_eq, g0_eq, ix_nat, ix_eq, bd_some, bv_some, Int.toNat_natCast, Int.toNat_zero, sF_1, sF_2, sA_1, sA_2, sR_1, sR_2, ↓reduceIte, if_pos, if_neg, true_and, and_true] <;> omega), by omega, fun q hq1 j hj => ?_, n5⟩, hQ, hX⟩
        by_cases ej : j = N
        · subst ej; exact hq q hq1
        · exact n4 q hq1 j (by omega)
    · have hpP : p < P := by omega
      obtain ⟨l1, l2, l3⟩ := hL.1 p hpP
      obtain ⟨k1, k2, k3⟩ := hK.1 p hpP
      have step : ∀ (d : Int) (σ1 ρ1 : St), σ1 = sA (sA σ 26 (p * 60 + N) (ρ.2 7 p)) 10 p (ρ.2 9 p + d) ∨ (d = 0 ∧ σ1 = sA σ 26 (p * 60 + N) (ρ.2 7 p)) → ρ1 = sA (sA ρ 21 (p * 60 + N) (ρ.2 7 p)) 9 p (ρ.2 9 p + d) →
          ∃ σ' ρ' : St, fX2_keepOne_L12 n ((p : Int) + 1) σ1 = some σ' ∧ (∀ (k : Int → Int → St → Option (Int × St)) (v1 v2 : Int), fX11_pass_L38 k m v1 v2 ((p : Int) + 1) ρ1 = k v1 (v2 + 1) ρ') ∧ InvN σ' ρ' R P (N + 1) T B := by
        intro d σ1 ρ1 hs1 hr1
        have hn : IN σ1 ρ1 R P N := by
          refine ⟨?_, ?_, n3, fun q hq1 j hj => ?_, fun q h1 h2 j hj => ?_⟩
          · rcases hs1 with e | ⟨_, e⟩ <;> subst e <;> exact n1
          · subst hr1; exact n2
          · have w := n4 q hq1 j hj
            subst hr1
            rcases hs1 with e | ⟨_, e⟩ <;> subst e <;> simp (disch := omega) only [w32_eq, gI_eq, gB_eq, g0_eq, ix_nat, ix_eq, bd_some, bv_some, Int.toNat_natCast, Int.toNat_zero, sF_1, sF_2, sA_1, sA_2, sR_1, sR_2, ↓reduceIte, if_pos, if_neg] <;> exact w
          · have w := n5 q h1 h2 j hj
            rcases hs1 with e | ⟨_, e⟩ <;> subst e <;> simp (disch := omega) only [w32_eq, gI_eq, gB_eq, g0_eq, ix_nat, ix_eq, bd_some, bv_some, Int.toNat_natCast, Int.toNat_zero, sF_1, sF_2, sA_1, sA_2, sR_1, sR_2, ↓reduceIte, if_pos, if_neg] <;> exact w
        have hk : IK σ1 ρ1 P := by
          refine ⟨fun q hq1 => ?_, fun q h1 h2 => ?_⟩
          · have w := hK.1 q hq1
            subst hr1
            by_cases eq : q = p
            · subst eq
              rcases hs1 with e | ⟨e2, e⟩
              · subst e; simp (disch := omega) only [w32_eq, gI_eq, gB_eq, g0_eq, ix_nat, ix_eq, bd_some, bv_some, Int.toNat_natCast, Int.toNat_zero, sF_1, sF_2, sA_1, sA_2, sR_1, sR_2, ↓reduceIte, if_pos, if_neg]; exact ⟨trivial, w.2⟩
              · subst e; subst e2; simp (disch := omega) only [w32_eq, gI_eq, gB_eq, g0_eq, ix_nat, ix_eq, bd_some, bv_some, Int.toNat_natCast, Int.toNat_zero, sF_1, sF_2, sA_1, sA_2, sR_1, sR_2, ↓reduceIte, if_pos, if_neg]; exact ⟨by rw [w.1]; omega, w.2⟩
            · rcases hs1 with e | ⟨_, e⟩ <;> subst e <;> simp (disch := omega) only [w32_eq, gI_eq, gB_eq, g0_eq, ix_nat, ix_eq, bd_some, bv_some, Int.toNat_natCast, Int.toNat_zero, sF_1, sF_2, sA_1, sA_2, sR_1, sR_2, ↓reduceIte, if_pos, if_neg] <;> exact w
          · have w := hK.2 q h1 h2
            rcases hs1 with e | ⟨_, e⟩ <;> subst e <;> simp (disch := omega) only [w32_eq, gI_eq, gB_eq, g0_eq, ix_nat, ix_eq, bd_some, bv_some, Int.toNat_natCast, Int.toNat_zero, sF_1, sF_2, sA_1, sA_2, sR_1, sR_2, ↓reduceIte, if_pos, if_neg] <;> exact w
        have hinv : InvN σ1 ρ1 R P N T B := by
          subst hr1
          rcases hs1 with e | ⟨_, e⟩ <;> subst e <;> exact ⟨hB, hR, hS, hP, hW, hL, hk, hT, hD, hn, hQ, hX⟩
        refine ih m (p + 1) σ1 ρ1 hinv hN6 (by omega) (by omega) (by omega) (fun q hq1 => ?_)
        subst hr1
        by_cases eq : q = p
        · subst eq
          rcases hs1 with e | ⟨_, e⟩ <;> subst e <;> simp (disch := omega) only [w32_eq, gI_eq, gB_eq, g0_eq, ix_nat, ix_eq, bd_some, bv_some, Int.toNat_natCast, Int.toNat_zero, sF_1, sF_2, sA_1, sA_2, sR_1, sR_2, ↓reduceIte, if_pos, if_neg] <;> exact ⟨trivial, l2, l3⟩
        · have w := hq q (by omega)
          rcases hs1 with e | ⟨_, e⟩ <;> subst e <;> simp (disch := omega) only [w32_eq, gI_eq, gB_eq, g0_eq, ix_nat, ix_eq, bd_some, bv_some, Int.toNat_natCast, Int.toNat_zero, sF_1, sF_2, sA_1, sA_2, sR_1, sR_2, ↓reduceIte, if_pos, if_neg] <;> exact w
      by_cases c1 : ρ.2 7 p = -1
      · obtain ⟨σ', ρ', q1, q2, q3⟩ := step 0 _ _ (Or.inr ⟨rfl, rfl⟩) rfl
        refine ⟨σ', ρ', ?_, fun k v1 v2 => ?_, q3⟩
        · rw [e0]; unfold fX2_keepOne_B12
          rw [lodgingOf_t hB hpP, l1]
          simp (disch := omega) only [w32_eq, gI_eq, gB_eq, g0_eq, ix_nat, ix_eq, bd_some, bv_some, Int.toNat_natCast, Int.toNat_zero, sF_1, sF_2, sA_1, sA_2, sR_1, sR_2, ↓reduceIte, if_pos, if_neg, b3, n1]
          rw [show ((p : Int) * 60 + (N : Int)).toNat = p * 60 + N by omega]
          exact q1
        · rw [e1]; unfold fX11_pass_B38
          rw [← q2 k v1 v2]
          simp (disch := omega) only [w32_eq, gI_eq, gB_eq, g0_eq, ix_nat, ix_eq, bd_some, bv_some, Int.toNat_natCast, Int.toNat_zero, sF_1, sF_2, sA_1, sA_2, sR_1, sR_2, ↓reduceIte, if_pos, if_neg, p1, n2]
          rw [show (60 * (p : Int) + (N : Int)).toNat = p * 60 + N by omega]
      · by_cases c2 : ρ.2 8 p = 0
        · obtain ⟨σ', ρ', q1, q2, q3⟩ := step 1 _ _ (Or.inl rfl) rfl
          refine ⟨σ', ρ', ?_, fun k v1 v2 => ?_, q3⟩
          · rw [e0]; unfold fX2_keepOne_B12
            rw [lodgingOf_t hB hpP, l1]
            simp (disch := omega) only [w32_eq, gI_eq, gB_eq, g0_eq, ix_nat, ix_eq, bd_some, bv_some, Int.toNat_natCast, Int.toNat_zero, sF_1, sF_2, sA_1, sA_2, sR_1, sR_2, ↓reduceIte, if_pos, if_neg, b3, n1, k1, k2]
            rw [show ((p : Int) * 60 + (N : Int)).toNat = p * 60 + N by omega]
            exact q1
          · rw [e1]; unfold fX11_pass_B38
            rw [← q2 k v1 v2]
            simp (disch := omega) only [w32_eq, gI_eq, gB_eq, g0_eq, ix_nat, ix_eq, bd_some, bv_some, Int.toNat_natCast, Int.toNat_zero, sF_1, sF_2, sA_1, sA_2, sR_1, sR_2, ↓reduceIte, if_pos, if_neg, p1, n2]
            rw [show (60 * (p : Int) + (N : Int)).toNat = p * 60 + N by omega]
        · obtain ⟨σ', ρ', q1, q2, q3⟩ := step 0 _ _ (Or.inr ⟨rfl, rfl⟩) rfl
          refine ⟨σ', ρ', ?_, fun k v1 v2 => ?_, q3⟩
          · rw [e0]; unfold fX2_keepOne_B12
            rw [lodgingOf_t hB hpP, l1]
            simp (disch := omega) only [w32_eq, gI_eq, gB_eq, g0_eq, ix_nat, ix_eq, bd_some, bv_some, Int.toNat_natCast, Int.toNat_zero, sF_1, sF_2, sA_1, sA_2, sR_1, sR_2, ↓reduceIte, if_pos, if_neg, b3, n1, k2]
            rw [show ((p : Int) * 60 + (N : Int)).toNat = p * 60 + N by omega]
            exact q1
          · rw [e1]; unfold fX11_pass_B38
            rw [← q2 k v1 v2]
            simp (disch := omega) only [w32_eq, gI_eq, gB_eq, g0_eq, ix_nat, ix_eq, bd_some, bv_some, Int.toNat_natCast, Int.toNat_zero, sF_1, sF_2, sA_1, sA_2, sR_1, sR_2, ↓reduceIte, if_pos, if_neg, p1, n2]
            rw [show (60 * (p : Int) + (N : Int)).toNat = p * 60 + N by omega]
theorem pass_loop {a : Nat} (ha60 : a ≤ 60) : ∀ (n m i N : Nat) (σ ρ : St), InvN σ ρ R P N T B → i ≤ a → N + (a - i) ≤ 60 → a - i < n → a - i < m →
    ∃ σ' ρ' : St, fX10_pass_L32 n (a : Int) (i : Int) σ = some (((N + (a - i) : Nat) : Int), σ') ∧ fX11_pass_L31 m (a : Int) (i : Int) ρ = some (((N + (a - i) : Nat) : Int), ρ') ∧ InvN σ' ρ' R P (N + (a - i)) T B := by
  intro n
  induction n with
  | zero => intro m i N σ ρ _ _ _ h; omega
  | succ n ih =>
    intro m i N σ ρ h hi hN6 hn hm
    obtain ⟨m, rfl⟩ : ∃ m' : Nat, m = m' + 1 := ⟨m - 1, by omega⟩
    obtain ⟨hB, hR, hS, hP, hW, hL, hK, hT, hD, hN, hQ, hX⟩ := id h
    have b4 := hB.2.2.2.1
    obtain ⟨n1, n2, n3, n4, n5⟩ := id hN
    have e0 : fX10_pass_L32 (n + 1) (a : Int) (i : Int) σ = fX10_pass_B32 (fX10_pass_L32 n) (a : Int) (i : Int) σ := rfl
    have e1 : fX11_pass_L31 (m + 1) (a : Int) (i : Int) ρ = fX11_pass_B31 (fX11_pass_L31 m) (a : Int) (i : Int) ρ := rfl
    rw [e0, e1]
    unfold fX10_pass_B32 fX11_pass_B31
    by_cases e : i = a
    · subst e
      refine ⟨σ, ρ, ?_, ?_, ?_⟩
      · simp (disch := omega) only [w32_eq, gI_eq, gB_eq, g0_eq, ix_nat, ix_eq, bd_some, bv_some, Int.toNat_natCast, Int.toNat_zero, sF_1, sF_2, sA_1, sA_2, sR_1, sR_2, ↓reduceIte, if_pos, if_neg, n1]; rw [show N + (i - i) = N by omega]
      · simp (disch := omega) only [w32_eq, gI_eq, gB_eq, g0_eq, ix_nat, ix_eq, bd_some, bv_some, Int.toNat_natCast, Int.toNat_zero, sF_1, sF_2, sA_1, sA_2, sR_1, sR_2, ↓reduceIte, if_pos, if_neg, n2]; rw [show N + (i - i) = N by omega]
      · rw [show N + (i - i) = N by omega]; exact h
    · obtain ⟨σ1, ρ1, q1, q2, q3⟩ := night_loop 1000 1000 0 σ ρ h (by omega) (by omega) (by omega) (by omega) (fun q hq => by omega)
      obtain ⟨σ2, ρ2, s1, s2, s3⟩ := ih m (i + 1) (N + 1) σ1 ρ1 q3 (by omega) (by omega) (by omega) (by omega)
      rw [show N + 1 + (a - (i + 1)) = N + (a - i) by omega] at s1 s2 s3
      refine ⟨σ2, ρ2, ?_, ?_, s3⟩
      · unfold fX2_keepOne fX2_keepOne_L0
        rw [show fX2_keepOne_L12 1000 0 σ = some σ1 from q1]
        simp (disch := omega) only [w32_eq, gI_eq, gB_eq, g0_eq, ix_nat, ix_eq, bd_some, bv_some, Int.toNat_natCast, Int.toNat_zero, sF_1, sF_2, sA_1, sA_2, sR_1, sR_2, ↓reduceIte, if_pos, if_neg, n1]
        exact s1
      · rw [show fX11_pass_L38 (fX11_pass_L31 m) 1000 (a : Int) (i : Int) 0 ρ = fX11_pass_L31 m (a : Int) ((i : Int) + 1) ρ1 from q2 _ _ _]
        simp (disch := omega) only [w32_eq, gI_eq, gB_eq, g0_eq, ix_nat, ix_eq, bd_some, bv_some, Int.toNat_natCast, Int.toNat_zero, sF_1, sF_2, sA_1, sA_2, sR_1, sR_2, ↓reduceIte, if_pos, if_neg]
        exact s2
theorem op_pass (h : Inv σ ρ) {a : Int} (ha : rg a) : Op (fX10_pass σ a) (fX11_pass ρ a) := by
  have hI := h
  obtain ⟨R, P, N, T, B, hN0⟩ := h
  obtain ⟨hB, hR, hS, hP, hW, hL, hK, hT, hD, hN, hQ, hX⟩ := id hN0
  obtain ⟨n1, n2, n3, n4, n5⟩ := id hN
  unfold rg at ha
  unfold fX10_pass fX10_pass_L0 fX11_pass fX11_pass_L0
  by_cases h1 : 1 ≤ a ∧ a ≤ 60
  · by_cases h2 : N + a ≤ 60
    · obtain ⟨k, rfl⟩ : ∃ k : Nat, a = k := ⟨a.toNat, by omega⟩
      obtain ⟨σ', ρ', q1, q2, q3⟩ := pass_loop (a := k) (by omega) 1000 1000 0 N σ ρ hN0 (by omega) (by omega) (by omega) (by omega)
      refine ⟨((N + (k - 0) : Nat) : Int), σ', ρ', ?_, ?_, ⟨R, P, N + (k - 0), T, B, q3⟩⟩
      · simp (disch := omega) only [w32_eq, gI_eq, gB_eq, g0_eq, ix_nat, ix_eq, bd_some, bv_some, Int.toNat_natCast, Int.toNat_zero, sF_1, sF_2, sA_1, sA_2, sR_1, sR_2, ↓reduceIte, if_pos, if_neg, within_eq, n1]
        exact q1
      · simp (disch := omega) only [w32_eq, gI_eq, gB_eq, g0_eq, ix_nat, ix_eq, bd_some, bv_some, Int.toNat_natCast, Int.toNat_zero, sF_1, sF_2, sA_1, sA_2, sR_1, sR_2, ↓reduceIte, if_pos, if_neg, in_eq, n2]
        exact q2
    · exact ⟨-4, σ, ρ, by simp (disch := omega) only [w32_eq, gI_eq, gB_eq, g0_eq, ix_nat, ix_eq, bd_some, bv_some, Int.toNat_natCast, Int.toNat_zero, sF_1, sF_2, sA_1, sA_2, sR_1, sR_2, ↓reduceIte, if_pos, if_neg, within_eq, n1], by simp (disch := omega) only [w32_eq, gI_eq, gB_eq, g0_eq, ix_nat, ix_eq, bd_some, bv_some, Int.toNat_natCast, Int.toNat_zero, sF_1, sF_2, sA_1, sA_2, sR_1, sR_2, ↓reduceIte, if_pos, if_neg, in_eq, n2], hI⟩
  · exact ⟨-2, σ, ρ, by simp (disch := omega) only [w32_eq, gI_eq, gB_eq, g0_eq, ix_nat, ix_eq, bd_some, bv_some, Int.toNat_natCast, Int.toNat_zero, sF_1, sF_2, sA_1, sA_2, sR_1, sR_2, ↓reduceIte, if_pos, if_neg, within_eq], by simp (disch := omega) only [w32_eq, gI_eq, gB_eq, g0_eq, ix_nat, ix_eq, bd_some, bv_some, Int.toNat_natCast, Int.toNat_zero, sF_1, sF_2, sA_1, sA_2, sR_1, sR_2, ↓reduceIte, if_pos, if_neg, in_eq], hI⟩
end ENIGHT
