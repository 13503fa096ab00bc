section EPOINT
variable {R P N T B : Nat}
/-- at whom one points: class and reference alike -/
theorem point_loop {σ ρ : St} (h : Dl σ ρ R P N T B) {S : Int} (hS : σ.1 13 = S) {p : Nat} (hp : p < P) (hpS : tb S p = true) : ∀ (f n k : Nat), (k : Int) ≤ ρ.2 5 p → 8 - k < f → 8 - k < n →
    ∃ t : Nat, t < P ∧ tb S t = true ∧ fX8_pointedAtBy_L21 f (p : Int) (ρ.2 7 p) (σ.2 0 p) (k : Int) σ = some ((t : Int), σ) ∧ fX11_pointOf_L2 n (p : Int) S (k : Int) ρ = some ((t : Int), ρ) := by
  obtain ⟨hC, hL, hH⟩ := id h
  obtain ⟨hB, hR, hS', hP, hW, hK, hT, hN, hQ, hX⟩ := id hC
  obtain ⟨b1, b2, b3, b4, b5⟩ := id hB
  obtain ⟨w1, w2, w3⟩ := hW.1 p hp
  obtain ⟨l1, l2, l3⟩ := hL.1 p hp
  intro f
  induction f with
  | zero => intro n k _ h; omega
  | succ f ih =>
    intro n k hk hf hn
    obtain ⟨n, rfl⟩ : ∃ n' : Nat, n = n' + 1 := ⟨n - 1, by omega⟩
    have e0 : fX8_pointedAtBy_L21 (f + 1) (p : Int) (ρ.2 7 p) (σ.2 0 p) (k : Int) σ = fX8_pointedAtBy_B21 (fX8_pointedAtBy_L21 f) (p : Int) (ρ.2 7 p) (σ.2 0 p) (k : Int) σ := rfl
    have e1 : fX11_pointOf_L2 (n + 1) (p : Int) S (k : Int) ρ = fX11_pointOf_B2 (fX11_pointOf_L2 n) (p : Int) S (k : Int) ρ := rfl
    rw [e0, e1]
    unfold fX8_pointedAtBy_B21 fX11_pointOf_B2
    rw [wishesOf_t hB hp, w1, bd_some]
    by_cases e : (k : Int) = ρ.2 5 p
    · exact ⟨p, hp, hpS, by simp (disch := omega) only [w32_eq, gI_eq, gB_eq, g0_eq, ix_nat, ix_eq, bd_some, bv_some, Int.toNat_natCast, Int.toNat_zero, sF_1, sF_2, sA_1, sA_2, sR_1, sR_2, ↓reduceIte, if_pos, if_neg], by simp (disch := omega) only [w32_eq, gI_eq, gB_eq, g0_eq, ix_nat, ix_eq, bd_some, bv_some, Int.toNat_natCast, Int.toNat_zero, sF_1, sF_2, sA_1, sA_2, sR_1, sR_2, ↓reduceIte, if_pos, if_neg]⟩
    · obtain ⟨x1, x2, x3⟩ := w3 k (by omega)
      obtain ⟨z, hz⟩ : ∃ z : Nat, ρ.2 6 (p * 8 + k) = z := ⟨(ρ.2 6 (p * 8 + k)).toNat, by omega⟩
      have hzR : z < R := by omega
      have ewa : fX3_wishAt σ (p : Int) (k : Int) = some ((z : Int), σ) := by rw [wishAt_t hB hp (by omega) (by omega), x1, hz]
      have e8 : (8 * (p : Int) + (k : Int)).toNat = p * 8 + k := by omega
      rw [ewa, bd_some]
      by_cases c : (z : Int) = ρ.2 7 p
      · exact ⟨p, hp, hpS, by simp (disch := omega) only [w32_eq, gI_eq, gB_eq, g0_eq, ix_nat, ix_eq, bd_some, bv_some, Int.toNat_natCast, Int.toNat_zero, sF_1, sF_2, sA_1, sA_2, sR_1, sR_2, ↓reduceIte, if_pos, if_neg], by simp (disch := omega) only [w32_eq, gI_eq, gB_eq, g0_eq, ix_nat, ix_eq, bd_some, bv_some, Int.toNat_natCast, Int.toNat_zero, sF_1, sF_2, sA_1, sA_2, sR_1, sR_2, ↓reduceIte, if_pos, if_neg, e8, hz]⟩
      · obtain ⟨g1, g2, g3⟩ := hL.2.1 z hzR
        obtain ⟨m1, m2⟩ := core_may hC (p := p) (r := z) hp hzR
        have who := who_eq hC hL hzR
        have hh := hH p hp z (by omega)
        rw [holderOf_t hB hzR, bd_some, hS]
        by_cases c1 : σ.2 4 z = -1
        · obtain ⟨t, q1, q2, q3, q4⟩ := ih n (k + 1) (by omega) (by omega) (by omega)
          rw [c1] at who
          refine ⟨t, q1, q2, ?_, ?_⟩
          · rw [c1, inBits_neg σ S (by omega), bd_some]
            simp (disch := omega) only [w32_eq, gI_eq, gB_eq, g0_eq, ix_nat, ix_eq, bd_some, bv_some, Int.toNat_natCast, Int.toNat_zero, sF_1, sF_2, sA_1, sA_2, sR_1, sR_2, ↓reduceIte, if_pos, if_neg]
            exact q3
          · simp (disch := omega) only [w32_eq, gI_eq, gB_eq, g0_eq, ix_nat, ix_eq, bd_some, bv_some, Int.toNat_natCast, Int.toNat_zero, sF_1, sF_2, sA_1, sA_2, sR_1, sR_2, ↓reduceIte, if_pos, if_neg, e8, hz, who]
            exact q4
        · obtain ⟨q, hq⟩ : ∃ q : Nat, σ.2 4 z = q := ⟨(σ.2 4 z).toNat, by omega⟩
          have hqP : q < P := by omega
          have eb := bShr_bit S (n := q) (by omega)
          rw [hq] at who
          rw [hq, inBits_eq σ S (n := q) (by omega), bd_some, inBits_eq σ (σ.2 0 p) (n := z) (by omega), bd_some]
          by_cases c2 : tb S q = true
          · rw [if_pos c2] at eb ⊢
            cases c3 : mB σ p z with
            | true =>
              rw [c3, show b01 true = 1 from rfl] at m2
              refine ⟨q, hqP, c2, ?_, ?_⟩
              · rw [if_pos (hh.mpr ⟨hzR, c3⟩)]
                simp (disch := omega) only [w32_eq, gI_eq, gB_eq, g0_eq, ix_nat, ix_eq, bd_some, bv_some, Int.toNat_natCast, Int.toNat_zero, sF_1, sF_2, sA_1, sA_2, sR_1, sR_2, ↓reduceIte, if_pos, if_neg]
              · simp (disch := omega) only [w32_eq, gI_eq, gB_eq, g0_eq, ix_nat, ix_eq, bd_some, bv_some, Int.toNat_natCast, Int.toNat_zero, sF_1, sF_2, sA_1, sA_2, sR_1, sR_2, ↓reduceIte, if_pos, if_neg, e8, hz, who, eb, m2]
            | false =>
              rw [c3, show b01 false = 0 from rfl] at m2
              obtain ⟨t, q1, q2, q3, q4⟩ := ih n (k + 1) (by omega) (by omega) (by omega)
              refine ⟨t, q1, q2, ?_, ?_⟩
              · rw [if_neg (show ¬ tb (σ.2 0 p) z = true from fun y => by rw [(hh.mp y).2] at c3; cases c3)]
                simp (disch := omega) only [w32_eq, gI_eq, gB_eq, g0_eq, ix_nat, ix_eq, bd_some, bv_some, Int.toNat_natCast, Int.toNat_zero, sF_1, sF_2, sA_1, sA_2, sR_1, sR_2, ↓reduceIte, if_pos, if_neg]
                exact q3
              · simp (disch := omega) only [w32_eq, gI_eq, gB_eq, g0_eq, ix_nat, ix_eq, bd_some, bv_some, Int.toNat_natCast, Int.toNat_zero, sF_1, sF_2, sA_1, sA_2, sR_1, sR_2, ↓reduceIte, if_pos, if_neg, e8, hz, who, eb, m2]
                exact q4
          · rw [if_neg c2] at eb ⊢
            obtain ⟨t, q1, q2, q3, q4⟩ := ih n (k + 1) (by omega) (by omega) (by omega)
            refine ⟨t, q1, q2, ?_, ?_⟩
            · simp (disch := omega) only [w32_eq, gI_eq, gB_eq, g0_eq, ix_nat, ix_eq, bd_some, bv_some, Int.toNat_natCast, Int.toNat_zero, sF_1, sF_2, sA_1, sA_2, sR_1, sR_2, ↓reduceIte, if_pos, if_neg]
              exact q3
            · simp (disch := omega) only [w32_eq, gI_eq, gB_eq, g0_eq, ix_nat, ix_eq, bd_some, bv_some, Int.toNat_natCast, Int.toNat_zero, sF_1, sF_2, sA_1, sA_2, sR_1, sR_2, ↓reduceIte, if_pos, if_neg, e8, hz, who, eb]
              exact q4
theorem point_eq {σ ρ : St} (h : Dl σ ρ R P N T B) {S : Int} (hS : σ.1 13 = S) {p : Nat} (hp : p < P) (hpS : tb S p = true) :
    ∃ t : Nat, t < P ∧ tb S t = true ∧ fX8_pointedAtBy σ (p : Int) = some ((t : Int), σ) ∧ fX11_pointOf ρ (p : Int) S = some ((t : Int), ρ) := by
  obtain ⟨hC, hL, hH⟩ := id h
  have w2 := ((hC.2.2.2.2.1).1 p hp).2.1
  obtain ⟨t, q1, q2, q3, q4⟩ := point_loop h hS hp hpS 1000 1000 0 (by omega) (by omega) (by omega)
  refine ⟨t, q1, q2, ?_, q4⟩
  unfold fX8_pointedAtBy fX8_pointedAtBy_L0
  rw [lodgingOf_t hC.1 hp, bd_some, choiceOf_t hC.1 hp, bd_some, (hL.1 p hp).1]
  exact q3
theorem Kc_sA18 (σ : St) (i : Nat) (v : Int) : Kc σ (sA σ 18 i v) := ⟨fun k h1 h2 => rfl, fun k h1 h2 h3 h4 => by funext j; simp (disch := omega) only [w32_eq, gI_eq, gB_eq, g0_eq, ix_nat, ix_eq, bd_some, bv_some, Int.toNat_natCast, Int.toNat_zero, sF_1, sF_2, sA_1, sA_2, sR_1, sR_2, ↓reduceIte, if_pos, if_neg]⟩
theorem Kr_sA13 (ρ : St) (i : Nat) (v : Int) : Kr ρ (sA ρ 13 i v) := ⟨fun k h => rfl, fun k h1 h2 => by funext j; simp (disch := omega) only [w32_eq, gI_eq, gB_eq, g0_eq, ix_nat, ix_eq, bd_some, bv_some, Int.toNat_natCast, Int.toNat_zero, sF_1, sF_2, sA_1, sA_2, sR_1, sR_2, ↓reduceIte, if_pos, if_neg]⟩
theorem points_loop {S : Int} : ∀ (f n i : Nat) (σ ρ : St), Dl σ ρ R P N T B → σ.1 13 = S → i ≤ P → P - i < f → P - i < n → (∀ q : Nat, q < i → tb S q = true → ∃ t : Nat, t < P ∧ tb S t = true ∧ σ.2 18 q = t ∧ ρ.2 13 q = t) →
    ∃ σ' ρ' : St, fX8_pointAll_L2 f (i : Int) σ = some σ' ∧ (∀ (k71 : Int → Int → Int → Int → St → Option (Int × St)) (v2 v3 v4 : Int), fX11_trade_L81 k71 n S v2 v3 v4 (i : Int) ρ = fX11_trade_L130 k71 1000 S v2 v3 v4 S 0 ρ') ∧ Dl σ' ρ' R P N T B ∧ σ'.1 = σ.1 ∧ (∀ k : Nat, k ≠ 18 → σ'.2 k = σ.2 k) ∧ ρ'.1 = ρ.1 ∧ (∀ k : Nat, k ≠ 13 → ρ'.2 k = ρ.2 k) ∧ (∀ q : Nat, q < P → tb S q = true → ∃ t : Nat, t < P ∧ tb S t = true ∧ σ'.2 18 q = t ∧ ρ'.2 13 q = t) := by
  intro f
  induction f with
  | zero => intro n i σ ρ _ _ _ h; omega
  | succ f ih =>
    intro n i σ ρ h hS hi hf hn hq
    obtain ⟨n, rfl⟩ : ∃ n' : Nat, n = n' + 1 := ⟨n - 1, by omega⟩
    obtain ⟨hC, hL, hH⟩ := id h
    have b3 := hC.1.2.2.1
    have b4 := hC.1.2.2.2.1
    have p1 := hC.2.2.2.1.1
    have e0 : fX8_pointAll_L2 (f + 1) (i : Int) σ = fX8_pointAll_B2 (fX8_pointAll_L2 f) (i : Int) σ := rfl
    have e1 : ∀ (k71 : Int → Int → Int → Int → St → Option (Int × St)) (v2 v3 v4 : Int), fX11_trade_L81 k71 (n + 1) S v2 v3 v4 (i : Int) ρ = fX11_trade_B81 k71 (fX11_trade_L81 k71 n) S v2 v3 v4 (i : Int) ρ := fun _ _ _ _ => rfl
    by_cases e : i = P
    · subst e
      refine ⟨σ, ρ, ?_, fun k71 v2 v3 v4 => ?_, h, rfl, fun _ _ => rfl, rfl, fun _ _ => rfl, hq⟩
      · rw [e0]; unfold fX8_pointAll_B2
        simp (disch := omega) only [w32_eq, gI_eq, gB_eq, g0_eq, ix_nat, ix_eq, bd_some, bv_some, Int.toNat_natCast, Int.toNat_zero, sF_1, sF_2, sA_1, sA_2, sR_1, sR_2, ↓reduceIte, if_pos, if_neg, b3]
      · rw [e1]; unfold fX11_trade_B81
        simp (disch := omega) only [w32_eq, gI_eq, gB_eq, g0_eq, ix_nat, ix_eq, bd_some, bv_some, Int.toNat_natCast, Int.toNat_zero, sF_1, sF_2, sA_1, sA_2, sR_1, sR_2, ↓reduceIte, if_pos, if_neg, p1]
    · have hiP : i < P := by omega
      have eb := bShr_bit S (n := i) (by omega)
      by_cases c : tb S i = true
      · rw [if_pos c] at eb
        obtain ⟨t, t1, t2, t3, t4⟩ := point_eq h hS hiP c
        have d1 : Dl (sA σ 18 i (t : Int)) (sA ρ 13 i (t : Int)) R P N T B := Dl_keep h (Kc_sA18 σ i (t : Int)) (Kr_sA13 ρ i (t : Int)) rfl (IL_congr (IL_keep hL rfl rfl rfl) (fun _ _ => rfl))
        obtain ⟨σ', ρ', q1, q2, q3, q4, q5, q6, q7, q8⟩ := ih n (i + 1) (sA σ 18 i (t : Int)) (sA ρ 13 i (t : Int)) d1 hS (by omega) (by omega) (by omega) (fun q hq1 hq2 => by
          by_cases eq : q = i
          · subst eq
            exact ⟨t, t1, t2, by simp (disch := omega) only [w32_eq, gI_eq, gB_eq, g0_eq, ix_nat, ix_eq, bd_some, bv_some, Int.toNat_natCast, Int.toNat_zero, sF_1, sF_2, sA_1, sA_2, sR_1, sR_2, ↓reduceIte, if_pos, if_neg], by simp (disch := omega) only [w32_eq, gI_eq, gB_eq, g0_eq, ix_nat, ix_eq, bd_some, bv_some, Int.toNat_natCast, Int.toNat_zero, sF_1, sF_2, sA_1, sA_2, sR_1, sR_2, ↓reduceIte, if_pos, if_neg]⟩
          · obtain ⟨u, u1, u2, u3, u4⟩ := hq q (by omega) hq2
            exact ⟨u, u1, u2, by simp (disch := omega) only [w32_eq, gI_eq, gB_eq, g0_eq, ix_nat, ix_eq, bd_some, bv_some, Int.toNat_natCast, Int.toNat_zero, sF_1, sF_2, sA_1, sA_2, sR_1, sR_2, ↓reduceIte, if_pos, if_neg]; exact u3, by simp (disch := omega) only [w32_eq, gI_eq, gB_eq, g0_eq, ix_nat, ix_eq, bd_some, bv_some, Int.toNat_natCast, Int.toNat_zero, sF_1, sF_2, sA_1, sA_2, sR_1, sR_2, ↓reduceIte, if_pos, if_neg]; exact u4⟩)
        refine ⟨σ', ρ', ?_, fun k71 v2 v3 v4 => ?_, q3, q4, fun k hk => ?_, q6, fun k hk => ?_, q8⟩
        · rw [e0]; unfold fX8_pointAll_B2
          rw [hS, inBits_eq σ S (by omega), bd_some, if_pos c, t3, bd_some]
          simp (disch := omega) only [w32_eq, gI_eq, gB_eq, g0_eq, ix_nat, ix_eq, bd_some, bv_some, Int.toNat_natCast, Int.toNat_zero, sF_1, sF_2, sA_1, sA_2, sR_1, sR_2, ↓reduceIte, if_pos, if_neg, b3]
          exact q1
        · rw [e1]; unfold fX11_trade_B81
          rw [t4, bd_some, ← q2 k71 v2 v3 v4]
          simp (disch := omega) only [w32_eq, gI_eq, gB_eq, g0_eq, ix_nat, ix_eq, bd_some, bv_some, Int.toNat_natCast, Int.toNat_zero, sF_1, sF_2, sA_1, sA_2, sR_1, sR_2, ↓reduceIte, if_pos, if_neg, p1, eb]
          rfl
        · rw [q5 k hk]; funext j; simp (disch := omega) only [w32_eq, gI_eq, gB_eq, g0_eq, ix_nat, ix_eq, bd_some, bv_some, Int.toNat_natCast, Int.toNat_zero, sF_1, sF_2, sA_1, sA_2, sR_1, sR_2, ↓reduceIte, if_pos, if_neg]
        · rw [q7 k hk]; funext j; simp (disch := omega) only [w32_eq, gI_eq, gB_eq, g0_eq, ix_nat, ix_eq, bd_some, bv_some, Int.toNat_natCast, Int.toNat_zero, sF_1, sF_2, sA_1, sA_2, sR_1, sR_2, ↓reduceIte, if_pos, if_neg]
      · rw [if_neg c] at eb
        have d1 : Dl σ (sA ρ 13 i (-1)) R P N T B := Dl_keep h Kc.rf (Kr_sA13 ρ i (-1)) rfl (IL_congr hL (fun _ _ => rfl))
        obtain ⟨σ', ρ', q1, q2, q3, q4, q5, q6, q7, q8⟩ := ih n (i + 1) σ (sA ρ 13 i (-1)) d1 hS (by omega) (by omega) (by omega) (fun q hq1 hq2 => by
          by_cases eq : q = i
          · subst eq
            exact absurd hq2 c
          · obtain ⟨u, u1, u2, u3, u4⟩ := hq q (by omega) hq2
            exact ⟨u, u1, u2, u3, by simp (disch := omega) only [w32_eq, gI_eq, gB_eq, g0_eq, ix_nat, ix_eq, bd_some, bv_some, Int.toNat_natCast, Int.toNat_zero, sF_1, sF_2, sA_1, sA_2, sR_1, sR_2, ↓reduceIte, if_pos, if_neg]; exact u4⟩)
        refine ⟨σ', ρ', ?_, fun k71 v2 v3 v4 => ?_, q3, q4, q5, q6, fun k hk => ?_, q8⟩
        · rw [e0]; unfold fX8_pointAll_B2
          rw [hS, inBits_eq σ S (by omega), bd_some, if_neg c]
          simp (disch := omega) only [w32_eq, gI_eq, gB_eq, g0_eq, ix_nat, ix_eq, bd_some, bv_some, Int.toNat_natCast, Int.toNat_zero, sF_1, sF_2, sA_1, sA_2, sR_1, sR_2, ↓reduceIte, if_pos, if_neg, b3]
          exact q1
        · rw [e1]; unfold fX11_trade_B81
          rw [← q2 k71 v2 v3 v4]
          simp (disch := omega) only [w32_eq, gI_eq, gB_eq, g0_eq, ix_nat, ix_eq, bd_some, bv_some, Int.toNat_natCast, Int.toNat_zero, sF_1, sF_2, sA_1, sA_2, sR_1, sR_2, ↓reduceIte, if_pos, if_neg, p1, eb]
          rfl
        · rw [q7 k hk]; funext j; simp (disch := omega) only [w32_eq, gI_eq, gB_eq, g0_eq, ix_nat, ix_eq, bd_some, bv_some, Int.toNat_natCast, Int.toNat_zero, sF_1, sF_2, sA_1, sA_2, sR_1, sR_2, ↓reduceIte, if_pos, if_neg]
end EPOINT
