section EEACH
variable {R P N T B : Nat}
/-- each of a GROUP, by numbers, gets the dearest WISH left -/
theorem each_loop {G : Nat → Int} {p : Nat} {fr : Int} (hp : p < P) (hfr : ∀ k : Nat, k < P → (tb fr k = true ↔ G k = G p)) (hG : ∀ k : Nat, k < P → rg (G k)) : ∀ (f n i : Nat) (σ ρ : St) (d : Int), Dl σ ρ R P N T B → ρ.2 4 = G → i ≤ P → P - i < f → P - i < n → (∀ q : Nat, i ≤ q → q < P → G q = G p → ρ.2 7 q = -1) →
    ∃ (σ' ρ' : St) (d' : Int), fX0_settleEach_L2 f fr (i : Int) σ = some σ' ∧ (∀ (k27 : Int → Int → St → Option (Int × St)) (v2 : Int), fX11_deal_L148 k27 n d v2 (p : Int) 0 (i : Int) ρ = k27 d' (v2 + 1) ρ') ∧ Dl σ' ρ' R P N T B ∧ (∀ k : Nat, k < 32 → (tb d' k = true ↔ tb d k = true ∨ (i ≤ k ∧ k < P ∧ G k = G p))) ∧ (∀ q : Nat, q < P → G q ≠ G p → ρ'.2 7 q = ρ.2 7 q) ∧ Kc σ σ' ∧ Kr ρ ρ' ∧ (∀ k : Nat, k ≠ 2 → σ'.1 k = σ.1 k) ∧ ρ'.2 12 = ρ.2 12 := by
  intro f
  induction f with
  | zero => intro n i σ ρ d _ _ _ h; omega
  | succ f ih =>
    intro n i σ ρ d h hg hi hf hn hno
    obtain ⟨n, rfl⟩ : ∃ n' : Nat, n = n' + 1 := ⟨n - 1, by omega⟩
    obtain ⟨hC, hL, hH⟩ := id h
    have b3 := hC.1.2.2.1
    have b4 := hC.1.2.2.2.1
    have p1 := hC.2.2.2.1.1
    have e0 : fX0_settleEach_L2 (f + 1) fr (i : Int) σ = fX0_settleEach_B2 (fX0_settleEach_L2 f) fr (i : Int) σ := rfl
    have e1 : ∀ (k27 : Int → Int → St → Option (Int × St)) (v2 : Int), fX11_deal_L148 k27 (n + 1) d v2 (p : Int) 0 (i : Int) ρ = fX11_deal_B148 k27 (fX11_deal_L148 k27 n) d v2 (p : Int) 0 (i : Int) ρ := fun _ _ => rfl
    by_cases e : i = P
    · subst e
      refine ⟨σ, ρ, d, ?_, fun k27 v2 => ?_, h, fun k hk => ?_, fun _ _ _ => rfl, Kc.rf, Kr.rf, fun _ _ => rfl, rfl⟩
      · rw [e0]; unfold fX0_settleEach_B2
        simp (disch := omega) only [w32_eq, gI_eq, gB_eq, g0_eq, ix_nat, ix_eq, bd_some, bv_some, Int.toNat_natCast, Int.toNat_zero, sF_1, sF_2, sA_1, sA_2, sR_1, sR_2, ↓reduceIte, if_pos, if_neg, b3]
      · rw [e1]; unfold fX11_deal_B148
        simp (disch := omega) only [w32_eq, gI_eq, gB_eq, g0_eq, ix_nat, ix_eq, bd_some, bv_some, Int.toNat_natCast, Int.toNat_zero, sF_1, sF_2, sA_1, sA_2, sR_1, sR_2, ↓reduceIte, if_pos, if_neg, p1]
      · constructor
        · intro z; exact Or.inl z
        · rintro (z | z)
          · exact z
          · omega
    · have hiP : i < P := by omega
      have gi := hG i hiP
      have gp := hG p hp
      unfold rg at gi gp
      by_cases c : G i = G p
      · obtain ⟨r, σ1, q1, q2, q3, q4, q5, q6⟩ := dear_one h hiP (hno i (Nat.le_refl i) hiP c)
        obtain ⟨σ', ρ', d', s1, s2, s3, s4, s5, s6, s7, s8, s9⟩ := ih n (i + 1) σ1 (sA ρ 7 i r) (bOr d (bShl 1 (i : Int))) q4 hg (by omega) (by omega) (by omega) (fun q h1 h2 h3 => by
          have := hno q (by omega) h2 h3
          simp (disch := omega) only [w32_eq, gI_eq, gB_eq, g0_eq, ix_nat, ix_eq, bd_some, bv_some, Int.toNat_natCast, Int.toNat_zero, sF_1, sF_2, sA_1, sA_2, sR_1, sR_2, ↓reduceIte, if_pos, if_neg]; exact this)
        refine ⟨σ', ρ', d', ?_, fun k27 v2 => ?_, s3, fun k hk => ?_, fun q hq hq2 => ?_, Kc.tr q5 s6, Kr.tr (Kr_sA ρ i r) s7, fun k hk => (s8 k hk).trans (q6 k hk), s9⟩
        · rw [e0]; unfold fX0_settleEach_B2
          rw [inBits_eq σ fr (by omega), bd_some, if_pos ((hfr i hiP).mpr c), q1, bd_some, q2, bv_some]
          simp (disch := omega) only [w32_eq, gI_eq, gB_eq, g0_eq, ix_nat, ix_eq, bd_some, bv_some, Int.toNat_natCast, Int.toNat_zero, sF_1, sF_2, sA_1, sA_2, sR_1, sR_2, ↓reduceIte, if_pos, if_neg, b3]
          exact s1
        · rw [e1]; unfold fX11_deal_B148
          rw [hg, q3, bv_some, ← s2 k27 v2]
          simp (disch := omega) only [w32_eq, gI_eq, gB_eq, g0_eq, ix_nat, ix_eq, bd_some, bv_some, Int.toNat_natCast, Int.toNat_zero, sF_1, sF_2, sA_1, sA_2, sR_1, sR_2, ↓reduceIte, if_pos, if_neg, p1]
          rfl
        · rw [s4 k hk, tb_or, tb_shl1 (by omega), Bool.or_eq_true, decide_eq_true_eq]
          constructor
          · rintro ((z | z) | z)
            · exact Or.inl z
            · subst z; exact Or.inr ⟨Nat.le_refl _, hiP, c⟩
            · exact Or.inr ⟨by omega, z.2⟩
          · rintro (z | z)
            · exact Or.inl (Or.inl z)
            · by_cases ek : k = i
              · exact Or.inl (Or.inr ek)
              · exact Or.inr ⟨by omega, z.2⟩
        · rw [s5 q hq hq2]
          have : q ≠ i := fun z => hq2 (by rw [z]; exact c)
          simp (disch := omega) only [w32_eq, gI_eq, gB_eq, g0_eq, ix_nat, ix_eq, bd_some, bv_some, Int.toNat_natCast, Int.toNat_zero, sF_1, sF_2, sA_1, sA_2, sR_1, sR_2, ↓reduceIte, if_pos, if_neg]
      · obtain ⟨σ', ρ', d', s1, s2, s3, s4, s5, s6, s7, s8, s9⟩ := ih n (i + 1) σ ρ d h hg (by omega) (by omega) (by omega) (fun q h1 h2 h3 => hno q (by omega) h2 h3)
        refine ⟨σ', ρ', d', ?_, fun k27 v2 => ?_, s3, fun k hk => ?_, s5, s6, s7, s8, s9⟩
        · rw [e0]; unfold fX0_settleEach_B2
          rw [inBits_eq σ fr (by omega), bd_some, if_neg (fun z => c ((hfr i hiP).mp z))]
          simp (disch := omega) only [w32_eq, gI_eq, gB_eq, g0_eq, ix_nat, ix_eq, bd_some, bv_some, Int.toNat_natCast, Int.toNat_zero, sF_1, sF_2, sA_1, sA_2, sR_1, sR_2, ↓reduceIte, if_pos, if_neg, b3]
          exact s1
        · rw [e1]; unfold fX11_deal_B148
          rw [hg, ← s2 k27 v2]
          simp (disch := omega) only [w32_eq, gI_eq, gB_eq, g0_eq, ix_nat, ix_eq, bd_some, bv_some, Int.toNat_natCast, Int.toNat_zero, sF_1, sF_2, sA_1, sA_2, sR_1, sR_2, ↓reduceIte, if_pos, if_neg, p1]
          rfl
        · rw [s4 k hk]
          constructor
          · rintro (z | z)
            · exact Or.inl z
            · exact Or.inr ⟨by omega, z.2⟩
          · rintro (z | z)
            · exact Or.inl z
            · by_cases ek : k = i
              · subst ek; exact absurd z.2.2 c
              · exact Or.inr ⟨by omega, z.2⟩
/-- only one: the other one's loop passes all others by -/
theorem each_alone {p : Nat} {fr : Int} (hp : p < P) (hfr : ∀ k : Nat, k < P → (tb fr k = true ↔ k = p)) : ∀ (f i : Nat) (σ ρ : St), Dl σ ρ R P N T B → i ≤ P → P - i < f → (i ≤ p → ρ.2 7 p = -1) →
    ∃ (σ' : St) (r : Int), fX0_settleEach_L2 f fr (i : Int) σ = some σ' ∧ (i ≤ p → fX11_dearest ρ (p : Int) = some (sA ρ 7 p r) ∧ Dl σ' (sA ρ 7 p r) R P N T B) ∧ (p < i → σ' = σ) ∧ Kc σ σ' ∧ (∀ k : Nat, k ≠ 2 → σ'.1 k = σ.1 k) := by
  intro f
  induction f with
  | zero => intro i σ ρ _ _ h; omega
  | succ f ih =>
    intro i σ ρ h hi hf hno
    obtain ⟨hC, hL, hH⟩ := id h
    have b3 := hC.1.2.2.1
    have b4 := hC.1.2.2.2.1
    have e0 : fX0_settleEach_L2 (f + 1) fr (i : Int) σ = fX0_settleEach_B2 (fX0_settleEach_L2 f) fr (i : Int) σ := rfl
    rw [e0]
    unfold fX0_settleEach_B2
    by_cases e : i = P
    · refine ⟨σ, 0, ?_, fun z => absurd z (by omega), fun _ => rfl, Kc.rf, fun _ _ => rfl⟩
      simp (disch := omega) only [w32_eq, gI_eq, gB_eq, g0_eq, ix_nat, ix_eq, bd_some, bv_some, Int.toNat_natCast, Int.toNat_zero, sF_1, sF_2, sA_1, sA_2, sR_1, sR_2, ↓reduceIte, if_pos, if_neg, b3]
    · have hiP : i < P := by omega
      by_cases c : i = p
      · subst c
        obtain ⟨r, σ1, q1, q2, q3, q4, q5, q6⟩ := dear_one h hiP (hno (Nat.le_refl i))
        obtain ⟨σ', r', s1, s2, s3, s4, s5⟩ := ih (i + 1) σ1 (sA ρ 7 i r) q4 (by omega) (by omega) (fun z => absurd z (by omega))
        have es := s3 (by omega)
        subst es
        refine ⟨σ', r, ?_, fun _ => ⟨q3, q4⟩, fun z => absurd z (by omega), q5, q6⟩
        rw [inBits_eq σ fr (by omega), bd_some, if_pos ((hfr i hiP).mpr rfl), q1, bd_some, q2, bv_some]
        simp (disch := omega) only [w32_eq, gI_eq, gB_eq, g0_eq, ix_nat, ix_eq, bd_some, bv_some, Int.toNat_natCast, Int.toNat_zero, sF_1, sF_2, sA_1, sA_2, sR_1, sR_2, ↓reduceIte, if_pos, if_neg, b3]
        exact s1
      · obtain ⟨σ', r', s1, s2, s3, s4, s5⟩ := ih (i + 1) σ ρ h (by omega) (by omega) (fun z => hno (by omega))
        refine ⟨σ', r', ?_, fun z => s2 (by omega), fun z => s3 (by omega), s4, s5⟩
        rw [inBits_eq σ fr (by omega), bd_some, if_neg (fun z => c ((hfr i hiP).mp z))]
        simp (disch := omega) only [w32_eq, gI_eq, gB_eq, g0_eq, ix_nat, ix_eq, bd_some, bv_some, Int.toNat_natCast, Int.toNat_zero, sF_1, sF_2, sA_1, sA_2, sR_1, sR_2, ↓reduceIte, if_pos, if_neg, b3]
        exact s1
end EEACH
