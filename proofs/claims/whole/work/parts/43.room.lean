section EROOMS
variable {σ ρ : St} {R P N T B : Nat}
/-- one of a GROUP takes the least ROOM of a HOUSE that is left and that this one MAY have: the reference's search -/
theorem room_loop (h : Dl σ ρ R P N T B) {i : Nat} (hi : i < P) (hn : ρ.2 7 i = -1) {g hh : Int} (hr : rg hh) (k5 : Int → Int → Int → Int → St → Option (Int × St)) : ∀ (f j : Nat), j ≤ R → R - j + 1 < f → (∀ k : Nat, k < j → ¬ (ρ.2 0 k = hh ∧ σ.2 4 k = -1 ∧ mB σ i k = true)) →
    (∃ r : Nat, r < R ∧ (ρ.2 0 r = hh ∧ σ.2 4 r = -1 ∧ mB σ i r = true) ∧ (∀ k : Nat, k < r → ¬ (ρ.2 0 k = hh ∧ σ.2 4 k = -1 ∧ mB σ i k = true)) ∧ fX11_moveInto_L32 k5 f g hh (i : Int) (j : Int) ρ = k5 g hh 1 ((i : Int) + 1) (sA ρ 7 i (r : Int))) ∨
    ((∀ k : Nat, k < R → ¬ (ρ.2 0 k = hh ∧ σ.2 4 k = -1 ∧ mB σ i k = true)) ∧ fX11_moveInto_L32 k5 f g hh (i : Int) (j : Int) ρ = k5 g hh 0 ((i : Int) + 1) ρ) := by
  obtain ⟨hC, hL, hH⟩ := id h
  obtain ⟨hB, hR, hS, hP, hW, hK, hT, hN, hQ, hX⟩ := id hC
  obtain ⟨b1, b2, b3, b4, b5⟩ := id hB
  have r1 := hR.1
  unfold rg at hr
  intro f
  induction f with
  | zero => intro j _ h; omega
  | succ f ih =>
    intro j hj hf hno
    have e0 : ∀ (s : St) (j' : Int), fX11_moveInto_L32 k5 (f + 1) g hh (i : Int) j' s = fX11_moveInto_B32 k5 (fX11_moveInto_L32 k5 f) g hh (i : Int) j' s := fun _ _ => rfl
    rw [e0]
    unfold fX11_moveInto_B32
    by_cases e : j = R
    · subst e
      right
      refine ⟨hno, ?_⟩
      unfold fX11_moveInto_L103
      simp (disch := omega) only [w32_eq, gI_eq, gB_eq, g0_eq, ix_nat, ix_eq, bd_some, bv_some, Int.toNat_natCast, Int.toNat_zero, sF_1, sF_2, sA_1, sA_2, sR_1, sR_2, ↓reduceIte, if_pos, if_neg, r1]
    · have hjR : j < R := by omega
      obtain ⟨_, q2, _⟩ := hR.2 j hjR
      obtain ⟨g1, g2, g3⟩ := hL.2.1 j hjR
      obtain ⟨m1, m2⟩ := core_may hC (p := i) (r := j) hi hjR
      by_cases c : ρ.2 0 j = hh ∧ σ.2 4 j = -1 ∧ mB σ i j = true
      · left
        refine ⟨j, hjR, c, hno, ?_⟩
        obtain ⟨f, rfl⟩ : ∃ f' : Nat, f = f' + 1 := ⟨f - 1, by omega⟩
        have e2 : ∀ (s : St) (j' : Int), fX11_moveInto_L32 k5 (f + 1) g hh (i : Int) j' s = fX11_moveInto_B32 k5 (fX11_moveInto_L32 k5 f) g hh (i : Int) j' s := fun _ _ => rfl
        rw [c.2.2, show b01 true = 1 from rfl] at m2
        obtain ⟨c1, c2, c3⟩ := c
        rw [who_eq hC hL hjR, bd_some, m2, bd_some]
        simp (disch := omega) only [w32_eq, gI_eq, gB_eq, g0_eq, ix_nat, ix_eq, bd_some, bv_some, Int.toNat_natCast, Int.toNat_zero, sF_1, sF_2, sA_1, sA_2, sR_1, sR_2, ↓reduceIte, if_pos, if_neg, r1]
        rw [e2]
        unfold fX11_moveInto_B32 fX11_moveInto_L103
        by_cases c4 : j + 1 = R
        · simp (disch := omega) only [w32_eq, gI_eq, gB_eq, g0_eq, ix_nat, ix_eq, bd_some, bv_some, Int.toNat_natCast, Int.toNat_zero, sF_1, sF_2, sA_1, sA_2, sR_1, sR_2, ↓reduceIte, if_pos, if_neg, r1]
        · simp (disch := omega) only [w32_eq, gI_eq, gB_eq, g0_eq, ix_nat, ix_eq, bd_some, bv_some, Int.toNat_natCast, Int.toNat_zero, sF_1, sF_2, sA_1, sA_2, sR_1, sR_2, ↓reduceIte, if_pos, if_neg, r1]
      · have nx := ih (j + 1) (by omega) (by omega) (fun k hk => by
          by_cases ek : k = j
          · subst ek; exact c
          · exact hno k (by omega))
        have step : fX11_moveInto_B32 k5 (fX11_moveInto_L32 k5 f) g hh (i : Int) (j : Int) ρ = fX11_moveInto_L32 k5 f g hh (i : Int) ((j : Int) + 1) ρ := by
          unfold fX11_moveInto_B32
          rw [who_eq hC hL hjR, bd_some, m2, bd_some, sA_id ρ 7 _ (show ρ.2 7 (ix (i : Int)) = -1 by simp (disch := omega) only [w32_eq, gI_eq, gB_eq, g0_eq, ix_nat, ix_eq, bd_some, bv_some, Int.toNat_natCast, Int.toNat_zero, sF_1, sF_2, sA_1, sA_2, sR_1, sR_2, ↓reduceIte, if_pos, if_neg]; exact hn)]
          by_cases c1 : ρ.2 0 j = hh
          · by_cases c2 : σ.2 4 j = -1
            · have c3 : mB σ i j = false := by
                cases hm : mB σ i j with
                | true => exact absurd ⟨c1, c2, hm⟩ c
                | false => rfl
              rw [c3, show b01 false = 0 from rfl]
              simp (disch := omega) only [w32_eq, gI_eq, gB_eq, g0_eq, ix_nat, ix_eq, bd_some, bv_some, Int.toNat_natCast, Int.toNat_zero, sF_1, sF_2, sA_1, sA_2, sR_1, sR_2, ↓reduceIte, if_pos, if_neg, r1, hn]
            · simp (disch := omega) only [w32_eq, gI_eq, gB_eq, g0_eq, ix_nat, ix_eq, bd_some, bv_some, Int.toNat_natCast, Int.toNat_zero, sF_1, sF_2, sA_1, sA_2, sR_1, sR_2, ↓reduceIte, if_pos, if_neg, r1, hn]
          · simp (disch := omega) only [w32_eq, gI_eq, gB_eq, g0_eq, ix_nat, ix_eq, bd_some, bv_some, Int.toNat_natCast, Int.toNat_zero, sF_1, sF_2, sA_1, sA_2, sR_1, sR_2, ↓reduceIte, if_pos, if_neg, r1, hn]
        unfold fX11_moveInto_B32 at step
        rw [step]
        exact nx
end EROOMS
