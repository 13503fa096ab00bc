section EWEIGH
variable {σ ρ : St} {R P N T B : Nat}
theorem Kc_sR0 (σ : St) (g : Nat → Int) : Kc σ (sR σ 0 g) := ⟨fun k h1 h2 => rfl, fun k h1 h2 h3 h4 => by funext j; simp (disch := omega) only [w32_eq, gI_eq, gB_eq, g0_eq, ix_nat, ix_eq, bd_some, bv_some, Int.toNat_natCast, Int.toNat_zero, sF_1, sF_2, sA_1, sA_2, sR_1, sR_2, ↓reduceIte, if_pos, if_neg]⟩
/-- one person's ROOMS are weighed, from ROOM j on -/
theorem weigh_in (hC : Core σ ρ R P N T B) {p : Nat} (hp : p < P) (k2 : Int → St → Option St) : ∀ (f j : Nat) (g : Nat → Int), j ≤ R → R - j < f → (∀ k : Nat, k < 32 → (tb (g p) k = true ↔ k < j ∧ mB σ p k = true)) →
    ∃ g' : Nat → Int, (∀ q : Nat, q ≠ p → g' q = g q) ∧ (∀ k : Nat, k < 32 → (tb (g' p) k = true ↔ k < R ∧ mB σ p k = true)) ∧ fX7_weighAll_L22 k2 f (p : Int) (j : Int) (sR σ 0 g) = k2 ((p : Int) + 1) (sR σ 0 g') := by
  have b1 := hC.1.1
  have b2 := hC.1.2.1
  have b4 := hC.1.2.2.2.1
  intro f
  induction f with
  | zero => intro j g _ h; omega
  | succ f ih =>
    intro j g hj hf hg
    have e0 : fX7_weighAll_L22 k2 (f + 1) (p : Int) (j : Int) (sR σ 0 g) = fX7_weighAll_B22 k2 (fX7_weighAll_L22 k2 f) (p : Int) (j : Int) (sR σ 0 g) := rfl
    rw [e0]
    unfold fX7_weighAll_B22
    by_cases e : j = R
    · subst e
      refine ⟨g, fun _ _ => rfl, hg, ?_⟩
      simp (disch := omega) only [w32_eq, gI_eq, gB_eq, g0_eq, ix_nat, ix_eq, bd_some, bv_some, Int.toNat_natCast, Int.toNat_zero, sF_1, sF_2, sA_1, sA_2, sR_1, sR_2, ↓reduceIte, if_pos, if_neg, b1]
    · obtain ⟨hC1, hm1⟩ := core_keep (Kc_sR0 σ g) Kr.rf hC
      obtain ⟨m1, m2⟩ := core_may hC1 (p := p) (r := j) hp (by omega)
      rw [hm1] at m1
      cases hm : mB σ p j with
      | false =>
        rw [hm, show b01 false = 0 from rfl] at m1
        obtain ⟨g', q1, q2, q3⟩ := ih (j + 1) g (by omega) (by omega) (fun k hk => by
          rw [hg k hk]
          by_cases ek : k = j
          · subst ek; rw [hm]; simp
          · constructor
            · intro z; exact ⟨by omega, z.2⟩
            · intro z; exact ⟨by omega, z.2⟩)
        refine ⟨g', q1, q2, ?_⟩
        rw [m1, bd_some]
        simp (disch := omega) only [w32_eq, gI_eq, gB_eq, g0_eq, ix_nat, ix_eq, bd_some, bv_some, Int.toNat_natCast, Int.toNat_zero, sF_1, sF_2, sA_1, sA_2, sR_1, sR_2, ↓reduceIte, if_pos, if_neg, b1]
        exact q3
      | true =>
        rw [hm, show b01 true = 1 from rfl] at m1
        obtain ⟨g', q1, q2, q3⟩ := ih (j + 1) (fun q => if q = p then bOr (g p) (bShl 1 (j : Int)) else g q) (by omega) (by omega) (fun k hk => by
          simp only [if_pos]
          rw [tb_or, tb_shl1 (by omega), Bool.or_eq_true, hg k hk, decide_eq_true_eq]
          by_cases ek : k = j
          · subst ek; rw [hm]; simp
          · constructor
            · rintro (z | z)
              · exact ⟨by omega, z.2⟩
              · exact absurd z ek
            · intro z; exact Or.inl ⟨by omega, z.2⟩)
        refine ⟨g', fun q hq => by rw [q1 q hq]; exact if_neg hq, q2, ?_⟩
        rw [m1, bd_some]
        simp (disch := omega) only [w32_eq, gI_eq, gB_eq, g0_eq, ix_nat, ix_eq, bd_some, bv_some, Int.toNat_natCast, Int.toNat_zero, sF_1, sF_2, sA_1, sA_2, sR_1, sR_2, ↓reduceIte, if_pos, if_neg, b1]
        rw [sA_sR]
        exact q3
theorem weigh_out (hC : Core σ ρ R P N T B) : ∀ (f i : Nat) (g : Nat → Int), i ≤ P → P - i < f → (∀ q : Nat, q < i → ∀ k : Nat, k < 32 → (tb (g q) k = true ↔ k < R ∧ mB σ q k = true)) →
    ∃ g' : Nat → Int, (∀ q : Nat, q < P → ∀ k : Nat, k < 32 → (tb (g' q) k = true ↔ k < R ∧ mB σ q k = true)) ∧ fX7_weighAll_L2 f (i : Int) (sR σ 0 g) = some (sR σ 0 g') := by
  have b2 := hC.1.2.1
  have b3 := hC.1.2.2.1
  have b4 := hC.1.2.2.2.1
  intro f
  induction f with
  | zero => intro i g _ h; omega
  | succ f ih =>
    intro i g hi hf hg
    have e0 : fX7_weighAll_L2 (f + 1) (i : Int) (sR σ 0 g) = fX7_weighAll_B2 (fX7_weighAll_L2 f) (i : Int) (sR σ 0 g) := rfl
    rw [e0]
    unfold fX7_weighAll_B2
    by_cases e : i = P
    · subst e
      refine ⟨g, hg, ?_⟩
      simp (disch := omega) only [w32_eq, gI_eq, gB_eq, g0_eq, ix_nat, ix_eq, bd_some, bv_some, Int.toNat_natCast, Int.toNat_zero, sF_1, sF_2, sA_1, sA_2, sR_1, sR_2, ↓reduceIte, if_pos, if_neg, b3]
    · obtain ⟨g1, q1, q2, q3⟩ := weigh_in hC (p := i) (by omega) (fX7_weighAll_L2 f) 1000 0 (fun q => if q = i then 0 else g q) (by omega) (by omega) (fun k hk => by
        simp only [if_pos]
        rw [tb_0]; simp)
      obtain ⟨g', w1, w2⟩ := ih (i + 1) g1 (by omega) (by omega) (fun q hq k hk => by
        by_cases eq : q = i
        · subst eq; exact q2 k hk
        · rw [q1 q eq]
          simp only [if_neg eq]
          exact hg q (by omega) k hk)
      refine ⟨g', w1, ?_⟩
      simp (disch := omega) only [w32_eq, gI_eq, gB_eq, g0_eq, ix_nat, ix_eq, bd_some, bv_some, Int.toNat_natCast, Int.toNat_zero, sF_1, sF_2, sA_1, sA_2, sR_1, sR_2, ↓reduceIte, if_pos, if_neg, b3]
      rw [sA_sR]
      exact q3.trans w2
theorem weighAll_eq (hC : Core σ ρ R P N T B) : ∃ g : Nat → Int, (∀ q : Nat, q < P → ∀ k : Nat, k < 32 → (tb (g q) k = true ↔ k < R ∧ mB σ q k = true)) ∧ fX7_weighAll σ = some (sR σ 0 g) := by
  have b4 := hC.1.2.2.2.1
  obtain ⟨g, q1, q2⟩ := weigh_out hC 1000 0 (σ.2 0) (by omega) (by omega) (fun q hq => by omega)
  rw [sR_self] at q2
  exact ⟨g, q1, q2⟩
/-- the least ROOM of a mask -/
theorem leastIn_loop (σ : St) {x : Int} : ∀ (f i : Nat), i ≤ 32 → 32 - i < f → (∀ k : Nat, k < i → tb x k = false) →
    (∃ k : Nat, k < 32 ∧ tb x k = true ∧ (∀ j : Nat, j < k → tb x j = false) ∧ fX10_leastIn_L2 f x (i : Int) σ = some ((k : Int), σ)) ∨ ((∀ k : Nat, k < 32 → tb x k = false) ∧ fX10_leastIn_L2 f x (i : Int) σ = some (-1, σ)) := by
  intro f
  induction f with
  | zero => intro i _ h; omega
  | succ f ih =>
    intro i hi hf hx
    have e0 : fX10_leastIn_L2 (f + 1) x (i : Int) σ = fX10_leastIn_B2 (fX10_leastIn_L2 f) x (i : Int) σ := rfl
    rw [e0]
    unfold fX10_leastIn_B2
    by_cases e : i = 32
    · subst e
      right
      exact ⟨hx, by simp (disch := omega) only [w32_eq, gI_eq, gB_eq, g0_eq, ix_nat, ix_eq, bd_some, bv_some, Int.toNat_natCast, Int.toNat_zero, sF_1, sF_2, sA_1, sA_2, sR_1, sR_2, ↓reduceIte, if_pos, if_neg]⟩
    · rw [inBits_eq σ x (by omega), bd_some]
      cases ht : tb x i with
      | true =>
        left
        refine ⟨i, by omega, ht, hx, ?_⟩
        simp (disch := omega) only [w32_eq, gI_eq, gB_eq, g0_eq, ix_nat, ix_eq, bd_some, bv_some, Int.toNat_natCast, Int.toNat_zero, sF_1, sF_2, sA_1, sA_2, sR_1, sR_2, ↓reduceIte, if_pos, if_neg]
      | false =>
        have nx := ih (i + 1) (by omega) (by omega) (fun k hk => by
          by_cases ek : k = i
          · subst ek; exact ht
          · exact hx k (by omega))
        have e2 : (if 32 ≤ w32 (i : Int) then some (-1, σ) else if w32 (if false = true then 1 else 0) = 0 then fX10_leastIn_L2 f x ((i : Int) + 1) σ else some ((i : Int), σ)) = fX10_leastIn_L2 f x ((i : Int) + 1) σ := by
          simp (disch := omega) only [w32_eq, gI_eq, gB_eq, g0_eq, ix_nat, ix_eq, bd_some, bv_some, Int.toNat_natCast, Int.toNat_zero, sF_1, sF_2, sA_1, sA_2, sR_1, sR_2, ↓reduceIte, if_pos, if_neg, Bool.false_eq_true]
        rw [e2]
        exact nx
theorem leastIn_eq (σ : St) (x : Int) : (∃ k : Nat, k < 32 ∧ tb x k = true ∧ (∀ j : Nat, j < k → tb x j = false) ∧ fX10_leastIn σ x = some ((k : Int), σ)) ∨ ((∀ k : Nat, k < 32 → tb x k = false) ∧ fX10_leastIn σ x = some (-1, σ)) := by
  unfold fX10_leastIn fX10_leastIn_L0
  exact leastIn_loop σ 1000 0 (by omega) (by omega) (fun k hk => by omega)
/-- all of one's GROUP, as bits -/
theorem friends_loop (hC : Core σ ρ R P N T B) {p : Nat} (hp : p < P) : ∀ (f i : Nat) (v : Int), i ≤ P → P - i < f → w32 v = v → (∀ k : Nat, k < 32 → (tb v k = true ↔ k = p ∨ (k < i ∧ ρ.2 4 k ≠ -1 ∧ ρ.2 4 k = ρ.2 4 p))) →
    ∃ v' : Int, w32 v' = v' ∧ (∀ k : Nat, k < 32 → (tb v' k = true ↔ k = p ∨ (k < P ∧ ρ.2 4 k ≠ -1 ∧ ρ.2 4 k = ρ.2 4 p))) ∧ fX3_friendsOf_L16 f (p : Int) v (i : Int) σ = some (v', σ) := by
  have b3 := hC.1.2.2.1
  have b4 := hC.1.2.2.2.1
  have hP := hC.2.2.2.1
  obtain ⟨_, _, p3, p4⟩ := hP.2 p hp
  intro f
  induction f with
  | zero => intro i v _ h; omega
  | succ f ih =>
    intro i v hi hf hw hv
    have e0 : fX3_friendsOf_L16 (f + 1) (p : Int) v (i : Int) σ = fX3_friendsOf_B16 (fX3_friendsOf_L16 f) (p : Int) v (i : Int) σ := rfl
    rw [e0]
    unfold fX3_friendsOf_B16
    by_cases e : i = P
    · subst e
      exact ⟨v, hw, hv, by simp (disch := omega) only [w32_eq, gI_eq, gB_eq, g0_eq, ix_nat, ix_eq, bd_some, bv_some, Int.toNat_natCast, Int.toNat_zero, sF_1, sF_2, sA_1, sA_2, sR_1, sR_2, ↓reduceIte, if_pos, if_neg, b3]⟩
    · obtain ⟨_, _, i3, i4⟩ := hP.2 i (by omega)
      by_cases c : ρ.2 4 i ≠ -1 ∧ ρ.2 4 i = ρ.2 4 p
      · obtain ⟨v', q0, q1, q2⟩ := ih (i + 1) (bOr v (bShl 1 (i : Int))) (by omega) (by omega) (w32_bOr _ _) (fun k hk => by
          rw [tb_or, tb_shl1 (by omega), Bool.or_eq_true, hv k hk, decide_eq_true_eq]
          by_cases ek : k = i
          · subst ek
            constructor
            · intro _; right; exact ⟨by omega, c⟩
            · intro _; right; rfl
          · constructor
            · rintro (z | z)
              · rcases z with z | z
                · exact Or.inl z
                · exact Or.inr ⟨by omega, z.2⟩
              · exact absurd z ek
            · rintro (z | z)
              · exact Or.inl (Or.inl z)
              · exact Or.inl (Or.inr ⟨by omega, z.2⟩))
        refine ⟨v', q0, q1, ?_⟩
        simp (disch := omega) only [w32_eq, gI_eq, gB_eq, g0_eq, ix_nat, ix_eq, bd_some, bv_some, Int.toNat_natCast, Int.toNat_zero, sF_1, sF_2, sA_1, sA_2, sR_1, sR_2, ↓reduceIte, if_pos, if_neg, b3, i3, p3]
        exact q2
      · obtain ⟨v', q0, q1, q2⟩ := ih (i + 1) v (by omega) (by omega) hw (fun k hk => by
          rw [hv k hk]
          by_cases ek : k = i
          · subst ek
            constructor
            · rintro (z | z)
              · exact Or.inl z
              · omega
            · rintro (z | z)
              · exact Or.inl z
              · exact absurd z.2 c
          · constructor
            · rintro (z | z)
              · exact Or.inl z
              · exact Or.inr ⟨by omega, z.2⟩
            · rintro (z | z)
              · exact Or.inl z
              · exact Or.inr ⟨by omega, z.2⟩)
        refine ⟨v', q0, q1, ?_⟩
        by_cases c1 : ρ.2 4 i = -1
        · simp (disch := omega) only [w32_eq, gI_eq, gB_eq, g0_eq, ix_nat, ix_eq, bd_some, bv_some, Int.toNat_natCast, Int.toNat_zero, sF_1, sF_2, sA_1, sA_2, sR_1, sR_2, ↓reduceIte, if_pos, if_neg, b3, i3, p3]
          exact q2
        · simp (disch := omega) only [w32_eq, gI_eq, gB_eq, g0_eq, ix_nat, ix_eq, bd_some, bv_some, Int.toNat_natCast, Int.toNat_zero, sF_1, sF_2, sA_1, sA_2, sR_1, sR_2, ↓reduceIte, if_pos, if_neg, b3, i3, p3]
          exact q2
theorem friendsOf_eq (hC : Core σ ρ R P N T B) {p : Nat} (hp : p < P) : ∃ v : Int, w32 v = v ∧ (∀ k : Nat, k < 32 → (tb v k = true ↔ k = p ∨ (k < P ∧ ρ.2 4 k ≠ -1 ∧ ρ.2 4 k = ρ.2 4 p))) ∧ fX3_friendsOf σ (p : Int) = some (v, σ) := by
  have b4 := hC.1.2.2.2.1
  obtain ⟨v, q0, q1, q2⟩ := friends_loop hC hp 1000 0 (bShl 1 (p : Int)) (by omega) (by omega) (w32_bShl _ _) (fun k hk => by
    rw [tb_shl1 (by omega), decide_eq_true_eq]
    constructor
    · intro z; exact Or.inl z
    · rintro (z | z)
      · exact z
      · omega)
  refine ⟨v, q0, q1, ?_⟩
  unfold fX3_friendsOf fX3_friendsOf_L0
  rw [pHas_t hC.1 (by omega), bd_some]
  rw [show fX3_friendsOf_L16 1000 (p : Int) (bShl 1 (p : Int)) 0 σ = some (v, σ) from q2]
  simp (disch := omega) only [w32_eq, gI_eq, gB_eq, g0_eq, ix_nat, ix_eq, bd_some, bv_some, Int.toNat_natCast, Int.toNat_zero, sF_1, sF_2, sA_1, sA_2, sR_1, sR_2, ↓reduceIte, if_pos, if_neg]
end EWEIGH
