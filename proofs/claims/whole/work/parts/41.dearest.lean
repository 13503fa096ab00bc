section EDEAR
variable {σ ρ : St} {R P N T B : Nat}
theorem sA_id (σ : St) (j i : Nat) {v : Int} (h : σ.2 j i = v) : sA σ j i v = σ := by
  rw [sA_eq_sR]
  refine (sR_eq σ j (fun n => ?_)).trans (sR_self σ j)
  by_cases e : n = i
  · rw [if_pos e, e, h]
  · rw [if_neg e]
/-- a DEAL under way: class and reference in common, and the ROOMS weighed -/
def Dl (σ ρ : St) (R P N T B : Nat) : Prop := Core σ ρ R P N T B ∧ IL σ ρ R P ∧ ∀ q : Nat, q < P → ∀ k : Nat, k < 32 → (tb (σ.2 0 q) k = true ↔ k < R ∧ mB σ q k = true)
/-- which ROOMS are open to one -/
theorem open_bit (h : Dl σ ρ R P N T B) {p r : Nat} (hp : p < P) (hr : r < R) : tb (bAnd (σ.2 0 p) (bXor (σ.1 2) (-1))) r = true ↔ mB σ p r = true ∧ σ.2 4 r = -1 := by
  obtain ⟨hC, hL, hH⟩ := h
  have b2 := hC.1.2.1
  rw [tb_and, tb_not _ (by omega), Bool.and_eq_true, hH p hp r (by omega)]
  have w := hL.2.2 r (by omega)
  cases ht : tb (σ.1 2) r with
  | true =>
    have := w.mp ht
    constructor
    · intro z; exact absurd z.2 (by simp)
    · intro z; exact absurd z.2 this.2
  | false =>
    constructor
    · intro z
      refine ⟨z.1.2, ?_⟩
      by_cases e : σ.2 4 r = -1
      · exact e
      · have := w.mpr ⟨hr, e⟩
        rw [ht] at this; cases this
    · intro z
      exact ⟨⟨hr, z.1⟩, rfl⟩
theorem dear_loop (h : Dl σ ρ R P N T B) {p : Nat} (hp : p < P) (hn : ρ.2 7 p = -1) : ∀ (f g k : Nat), (k : Int) ≤ ρ.2 5 p → 8 - k < f → 9 - k < g →
    ∃ r : Int, (r = -1 ∨ ∃ z : Nat, z < R ∧ r = z ∧ σ.2 4 z = -1) ∧ fX0_dearestOpenWish_L11 f (p : Int) (bAnd (σ.2 0 p) (bXor (σ.1 2) (-1))) (k : Int) σ = some (r, σ) ∧ fX11_dearest_L2 g (p : Int) (k : Int) ρ = some (sA ρ 7 p r) := by
  obtain ⟨hC, hL, hH⟩ := id h
  obtain ⟨hB, hR, hS, hP, hW, hK, hT, hN, hQ, hX⟩ := id hC
  obtain ⟨b1, b2, b3, b4, b5⟩ := id hB
  obtain ⟨w1, w2, w3⟩ := hW.1 p hp
  intro f
  induction f with
  | zero => intro g k _ h; omega
  | succ f ih =>
    intro g k hk hf hg
    obtain ⟨g, rfl⟩ : ∃ g' : Nat, g = g' + 1 := ⟨g - 1, by omega⟩
    have e0 : fX0_dearestOpenWish_L11 (f + 1) (p : Int) (bAnd (σ.2 0 p) (bXor (σ.1 2) (-1))) (k : Int) σ = fX0_dearestOpenWish_B11 (fX0_dearestOpenWish_L11 f) (p : Int) (bAnd (σ.2 0 p) (bXor (σ.1 2) (-1))) (k : Int) σ := rfl
    have e1 : fX11_dearest_L2 (g + 1) (p : Int) (k : Int) ρ = fX11_dearest_B2 (fX11_dearest_L2 g) (p : Int) (k : Int) ρ := rfl
    rw [e0, e1]
    unfold fX0_dearestOpenWish_B11 fX11_dearest_B2
    rw [wishesOf_t hB hp, w1, bd_some]
    by_cases e : (k : Int) = ρ.2 5 p
    · refine ⟨-1, Or.inl rfl, ?_, ?_⟩
      · simp (disch := omega) only [w32_eq, gI_eq, gB_eq, g0_eq, ix_nat, ix_eq, bd_some, bv_some, Int.toNat_natCast, Int.toNat_zero, sF_1, sF_2, sA_1, sA_2, sR_1, sR_2, ↓reduceIte, if_pos, if_neg]
      · rw [sA_id ρ 7 p hn]
        simp (disch := omega) only [w32_eq, gI_eq, gB_eq, g0_eq, ix_nat, ix_eq, bd_some, bv_some, Int.toNat_natCast, Int.toNat_zero, sF_1, sF_2, sA_1, sA_2, sR_1, sR_2, ↓reduceIte, if_pos, if_neg]
    · obtain ⟨x1, x2, x3⟩ := w3 k (by omega)
      obtain ⟨z, hz⟩ : ∃ z : Nat, ρ.2 6 (p * 8 + k) = z := ⟨(ρ.2 6 (p * 8 + k)).toNat, by omega⟩
      have hzR : z < R := by omega
      have ob := open_bit h hp hzR
      obtain ⟨m1, m2⟩ := core_may hC (p := p) (r := z) hp hzR
      obtain ⟨g1, g2, g3⟩ := hL.2.1 z hzR
      have ewa : fX3_wishAt σ (p : Int) (k : Int) = some ((z : Int), σ) := by rw [wishAt_t hB hp (by omega) (by omega), x1, hz]
      have e8 : (8 * (p : Int) + (k : Int)).toNat = p * 8 + k := by omega
      by_cases c : mB σ p z = true ∧ σ.2 4 z = -1
      · refine ⟨z, Or.inr ⟨z, hzR, rfl, c.2⟩, ?_, ?_⟩
        · rw [ewa, bd_some, inBits_eq σ _ (by omega), bd_some, if_pos (ob.mpr c)]
          simp (disch := omega) only [w32_eq, gI_eq, gB_eq, g0_eq, ix_nat, ix_eq, bd_some, bv_some, Int.toNat_natCast, Int.toNat_zero, sF_1, sF_2, sA_1, sA_2, sR_1, sR_2, ↓reduceIte, if_pos, if_neg]
        · rw [c.1, show b01 true = 1 from rfl] at m2
          obtain ⟨g, rfl⟩ : ∃ g' : Nat, g = g' + 1 := ⟨g - 1, by omega⟩
          have e2 : ∀ s : St, fX11_dearest_L2 (g + 1) (p : Int) ((k : Int) + 1) s = fX11_dearest_B2 (fX11_dearest_L2 g) (p : Int) ((k : Int) + 1) s := fun _ => rfl
          simp (disch := omega) only [w32_eq, gI_eq, gB_eq, g0_eq, ix_nat, ix_eq, bd_some, bv_some, Int.toNat_natCast, Int.toNat_zero, sF_1, sF_2, sA_1, sA_2, sR_1, sR_2, ↓reduceIte, if_pos, if_neg, e8, hz, hn, who_eq hC hL hzR, m2]
          rw [e2]
          unfold fX11_dearest_B2
          by_cases c4 : ρ.2 5 p ≤ (k : Int) + 1
          · simp (disch := omega) only [w32_eq, gI_eq, gB_eq, g0_eq, ix_nat, ix_eq, bd_some, bv_some, Int.toNat_natCast, Int.toNat_zero, sF_1, sF_2, sA_1, sA_2, sR_1, sR_2, ↓reduceIte, if_pos, if_neg]
          · simp (disch := omega) only [w32_eq, gI_eq, gB_eq, g0_eq, ix_nat, ix_eq, bd_some, bv_some, Int.toNat_natCast, Int.toNat_zero, sF_1, sF_2, sA_1, sA_2, sR_1, sR_2, ↓reduceIte, if_pos, if_neg]
      · obtain ⟨r, q1, q2, q3⟩ := ih g (k + 1) (by omega) (by omega) (by omega)
        refine ⟨r, q1, ?_, ?_⟩
        · rw [ewa, bd_some, inBits_eq σ _ (by omega), bd_some, if_neg (fun z => c (ob.mp z))]
          simp (disch := omega) only [w32_eq, gI_eq, gB_eq, g0_eq, ix_nat, ix_eq, bd_some, bv_some, Int.toNat_natCast, Int.toNat_zero, sF_1, sF_2, sA_1, sA_2, sR_1, sR_2, ↓reduceIte, if_pos, if_neg]
          exact q2
        · by_cases c2 : σ.2 4 z = -1
          · have c3 : mB σ p z = false := by
              cases hm : mB σ p z with
              | true => exact absurd ⟨hm, c2⟩ c
              | false => rfl
            rw [c3, show b01 false = 0 from rfl] at m2
            simp (disch := omega) only [w32_eq, gI_eq, gB_eq, g0_eq, ix_nat, ix_eq, bd_some, bv_some, Int.toNat_natCast, Int.toNat_zero, sF_1, sF_2, sA_1, sA_2, sR_1, sR_2, ↓reduceIte, if_pos, if_neg, e8, hz, hn, who_eq hC hL hzR, m2]
            rw [sA_id ρ 7 p hn]
            exact q3
          · simp (disch := omega) only [w32_eq, gI_eq, gB_eq, g0_eq, ix_nat, ix_eq, bd_some, bv_some, Int.toNat_natCast, Int.toNat_zero, sF_1, sF_2, sA_1, sA_2, sR_1, sR_2, ↓reduceIte, if_pos, if_neg, e8, hz, hn, who_eq hC hL hzR]
            rw [sA_id ρ 7 p hn]
            exact q3
/-- one gets the dearest WISH that is open -/
theorem dear_one (h : Dl σ ρ R P N T B) {p : Nat} (hp : p < P) (hn : ρ.2 7 p = -1) : ∃ (r : Int) (σ' : St), fX0_dearestOpenWish σ (p : Int) = some (r, σ) ∧ fX7_settle σ (p : Int) r = some σ' ∧ fX11_dearest ρ (p : Int) = some (sA ρ 7 p r) ∧ Dl σ' (sA ρ 7 p r) R P N T B ∧ Kc σ σ' ∧ (∀ k : Nat, k ≠ 2 → σ'.1 k = σ.1 k) := by
  obtain ⟨hC, hL, hH⟩ := id h
  have hW := (hC.2.2.2.2.1).1 p hp
  obtain ⟨r, q1, q2, q3⟩ := dear_loop h hp hn 1000 1000 0 (by omega) (by omega) (by omega)
  have ed : fX0_dearestOpenWish σ (p : Int) = some (r, σ) := by
    unfold fX0_dearestOpenWish fX0_dearestOpenWish_L0
    rw [openTo_t hC.1 hp, bd_some]
    exact q2
  rcases q1 with q1 | ⟨z, z1, z2, z3⟩
  · subst q1
    refine ⟨-1, σ, ed, ?_, q3, by rw [sA_id ρ 7 p hn]; exact h, Kc.rf, fun _ _ => rfl⟩
    unfold fX7_settle fX7_settle_L0
    rw [pHas_t hC.1 (by omega), bd_some, rHas_f hC.1 (by omega) (by omega), bd_some]
    simp (disch := omega) only [w32_eq, gI_eq, gB_eq, g0_eq, ix_nat, ix_eq, bd_some, bv_some, Int.toNat_natCast, Int.toNat_zero, sF_1, sF_2, sA_1, sA_2, sR_1, sR_2, ↓reduceIte, if_pos, if_neg]
  · subst z2
    obtain ⟨σ', t1, t2, t3, t4, t5⟩ := settle_eq hC hL hp z1 hn z3
    obtain ⟨hC1, hm1⟩ := core_keep t2 (Kr_sA ρ p (z : Int)) hC
    refine ⟨z, σ', ed, t1, q3, ⟨hC1, t3, fun q hq k hk => ?_⟩, t2, t4⟩
    rw [t5 0 (by decide) (by decide), hm1]
    exact hH q hq k hk
end EDEAR
