section ETYPE
variable {σ ρ : St} {R P N T B : Nat}
theorem dv_congr {t u : Nat → Int} {a : Nat} : ∀ {d : Nat}, (∀ j : Nat, j < d → t (a + j) = u (a + j)) → dv t a d = dv u a d
  | 0, _ => rfl
  | d + 1, h => by
    unfold dv
    rw [dv_congr (fun j hj => h j (by omega)), h d (by omega)]
theorem T1_move {σ σ' : St} {t u : Nat → Int} {n a d : Nat} (h : T1 σ t n a d) (ht : ∀ j : Nat, j < a + 2 + d → t j = u j) (h12 : σ'.2 12 n = σ.2 12 n) (h13 : σ'.2 13 n = σ.2 13 n) (h14 : σ'.2 14 n = σ.2 14 n) : T1 σ' u n a d := by
  obtain ⟨q1, q2, q3, q4, q5, q6, q7⟩ := h
  refine ⟨by rw [← ht a (by omega)]; exact q1, by rw [← ht (a + 1) (by omega)]; exact q2, q3, fun j hj => by rw [← ht (a + 2 + j) (by omega)]; exact q4 j hj, by rw [h12, q5, ht a (by omega)], by rw [h13, q6, ht (a + 1) (by omega)], by rw [h14, q7]; exact dv_congr (fun j hj => ht _ (by omega))⟩
theorem T2_move {σ σ' : St} {t u : Nat → Int} {n a b : Nat} {z z' : Int} (h : T2 σ t n a b z) (ht : ∀ j : Nat, j < b → t j = u j) (h12 : σ'.2 12 n = σ.2 12 n) (h13 : σ'.2 13 n = σ.2 13 n) (h14 : σ'.2 14 n = σ.2 14 n) (hz : z' = z) : T2 σ' u n a b z' := by
  obtain ⟨d, q1, q2, q3, q4⟩ := h
  refine ⟨d, q1, T1_move q2 (fun j hj => ht j (by omega)) h12 h13 h14, q3, ?_⟩
  rw [hz, ← ht (a + 2 + d) (by omega)]
  exact q4
/-- places grow -/
theorem ps_grow {σ : St} {t : Nat → Int} {ps : Nat → Nat} {L : Nat} {z : Nat → Int} (h0 : ps 0 = 0) (h : ∀ n : Nat, n < L → T2 σ t n (ps n) (ps (n + 1)) (z n)) : ∀ k : Nat, k ≤ L → 4 * k ≤ ps k ∧ ∀ j : Nat, j ≤ k → ps j ≤ ps k
  | 0, _ => ⟨by omega, fun j hj => by rw [show j = 0 by omega]; exact Nat.le_refl _⟩
  | k + 1, hk => by
    obtain ⟨i1, i2⟩ := ps_grow h0 h k (by omega)
    obtain ⟨d, q1, q2, q3, q4⟩ := h k (by omega)
    refine ⟨by omega, fun j hj => ?_⟩
    rcases Nat.lt_or_ge j (k + 1) with e | e
    · have := i2 j (by omega); omega
    · rw [show j = k + 1 by omega]; exact Nat.le_refl _
/-- what a byte of THE STATUTE doesn't touch -/
def Kp (σ σ' : St) : Prop := (∀ k : Nat, k ≠ 5 → k ≠ 6 → k ≠ 8 → σ'.1 k = σ.1 k) ∧ ∀ k : Nat, k < 12 ∨ 15 < k → σ'.2 k = σ.2 k
/-- what an unbroken text comes to with a byte more -/
theorem goes {t : Nat → Int} (h6 : σ.1 6 = rn t B) {m : Nat} {ps : Nat → Nat} (hT : TS σ t B m ps) (hB : B < 60) {b : Int} (hb : 32 ≤ b ∧ b ≤ 126) {u : Nat → Int} (hu : ∀ j : Nat, j < B → t j = u j) (huB : u B = b) :
    (nx (rn t B) b = -1 ∧ fX6_goesOnWith σ b = some (0, σ)) ∨ (nx (rn t B) b ≠ -1 ∧ ∃ (σ' : St) (m' : Nat) (ps' : Nat → Nat), fX6_goesOnWith σ b = some (1, σ') ∧ σ'.1 6 = nx (rn t B) b ∧ TS σ' u (B + 1) m' ps' ∧ Kp σ σ') := by
  obtain ⟨q1, q2, q3, q4, q5⟩ := hT
  rcases q5 with ⟨a1, a2, a3, a4⟩ | ⟨a1, n, a2, a3, a4, a5, a6⟩ | ⟨n, d, a2, a1, a3, a4⟩
  · -- a letter is awaited
    rw [a1] at h6
    rw [← h6]
    have gr := (ps_grow (z := fun n => if n + 1 = m then σ.1 8 else σ.2 15 (n + 1)) q2 (L := m) (fun n hn => by
      by_cases e : n + 1 = m
      · have := a4 n e
        simp only [if_pos e]; rw [e]; exact this
      · simp only [if_neg e]; exact q4 n (by omega))) m (Nat.le_refl m)
    have c8 : σ.1 8 = 0 ∨ σ.1 8 = 1 := by
      by_cases e : m = 0
      · exact Or.inr (a3 e)
      · obtain ⟨d, z1, z2, z3, z4⟩ := a4 (m - 1) (by omega)
        omega
    by_cases hl : b = 121 ∨ b = 109 ∨ b = 115 ∨ b = 104
    · have en : nx 0 b = 1 := by unfold nx; rw [if_pos (by omega)]; rfl
      refine Or.inr ⟨by rw [en]; decide, sF (sF (sA (sA (sA σ 12 m b) 14 m 0) 15 m (σ.1 8)) 5 ((m : Int) + 1)) 6 1, m + 1, ps, ?_, by rw [en]; simp (disch := omega) only [w32_eq, gI_eq, gB_eq, g0_eq, ix_nat, ix_eq, bd_some, bv_some, Int.toNat_natCast, Int.toNat_zero, sF_1, sF_2, sA_1, sA_2, sR_1, sR_2, ↓reduceIte, if_pos, if_neg], ?_, fun k h1 h2 h3 => by simp (disch := omega) only [w32_eq, gI_eq, gB_eq, g0_eq, ix_nat, ix_eq, bd_some, bv_some, Int.toNat_natCast, Int.toNat_zero, sF_1, sF_2, sA_1, sA_2, sR_1, sR_2, ↓reduceIte, if_pos, if_neg], fun k hk => by funext j; simp (disch := omega) only [w32_eq, gI_eq, gB_eq, g0_eq, ix_nat, ix_eq, bd_some, bv_some, Int.toNat_natCast, Int.toNat_zero, sF_1, sF_2, sA_1, sA_2, sR_1, sR_2, ↓reduceIte, if_pos, if_neg]⟩
      · unfold fX6_goesOnWith fX6_goesOnWith_L0 fX6_beginTest fX6_beginTest_L0 fX6_beginTest_L29
        by_cases c1 : b = 121
        · simp (disch := omega) only [w32_eq, gI_eq, gB_eq, g0_eq, ix_nat, ix_eq, bd_some, bv_some, Int.toNat_natCast, Int.toNat_zero, sF_1, sF_2, sA_1, sA_2, sR_1, sR_2, ↓reduceIte, if_pos, if_neg, a1, q1]
        by_cases c2 : b = 109
        · simp (disch := omega) only [w32_eq, gI_eq, gB_eq, g0_eq, ix_nat, ix_eq, bd_some, bv_some, Int.toNat_natCast, Int.toNat_zero, sF_1, sF_2, sA_1, sA_2, sR_1, sR_2, ↓reduceIte, if_pos, if_neg, a1, q1]
        by_cases c3 : b = 115
        · simp (disch := omega) only [w32_eq, gI_eq, gB_eq, g0_eq, ix_nat, ix_eq, bd_some, bv_some, Int.toNat_natCast, Int.toNat_zero, sF_1, sF_2, sA_1, sA_2, sR_1, sR_2, ↓reduceIte, if_pos, if_neg, a1, q1]
        · simp (disch := omega) only [w32_eq, gI_eq, gB_eq, g0_eq, ix_nat, ix_eq, bd_some, bv_some, Int.toNat_natCast, Int.toNat_zero, sF_1, sF_2, sA_1, sA_2, sR_1, sR_2, ↓reduceIte, if_pos, if_neg, a1, q1]
      · refine ⟨by simp (disch := omega) only [w32_eq, gI_eq, gB_eq, g0_eq, ix_nat, ix_eq, bd_some, bv_some, Int.toNat_natCast, Int.toNat_zero, sF_1, sF_2, sA_1, sA_2, sR_1, sR_2, ↓reduceIte, if_pos, if_neg]; omega, q2, fun _ => ?_, fun k hk => ?_, Or.inr (Or.inl ⟨by simp (disch := omega) only [w32_eq, gI_eq, gB_eq, g0_eq, ix_nat, ix_eq, bd_some, bv_some, Int.toNat_natCast, Int.toNat_zero, sF_1, sF_2, sA_1, sA_2, sR_1, sR_2, ↓reduceIte, if_pos, if_neg], m, rfl, by omega, ?_, ?_, by simp (disch := omega) only [w32_eq, gI_eq, gB_eq, g0_eq, ix_nat, ix_eq, bd_some, bv_some, Int.toNat_natCast, Int.toNat_zero, sF_1, sF_2, sA_1, sA_2, sR_1, sR_2, ↓reduceIte, if_pos, if_neg]⟩)⟩
        · by_cases e : m = 0
          · subst e; simp (disch := omega) only [w32_eq, gI_eq, gB_eq, g0_eq, ix_nat, ix_eq, bd_some, bv_some, Int.toNat_natCast, Int.toNat_zero, sF_1, sF_2, sA_1, sA_2, sR_1, sR_2, ↓reduceIte, if_pos, if_neg]; exact a3 rfl
          · have := q3 (by omega)
            simp (disch := omega) only [w32_eq, gI_eq, gB_eq, g0_eq, ix_nat, ix_eq, bd_some, bv_some, Int.toNat_natCast, Int.toNat_zero, sF_1, sF_2, sA_1, sA_2, sR_1, sR_2, ↓reduceIte, if_pos, if_neg]; exact this
        · by_cases e : k + 1 = m
          · have h := a4 k e
            rw [e]
            exact T2_move h (fun j hj => hu j (by omega)) (by simp (disch := omega) only [w32_eq, gI_eq, gB_eq, g0_eq, ix_nat, ix_eq, bd_some, bv_some, Int.toNat_natCast, Int.toNat_zero, sF_1, sF_2, sA_1, sA_2, sR_1, sR_2, ↓reduceIte, if_pos, if_neg]) (by simp (disch := omega) only [w32_eq, gI_eq, gB_eq, g0_eq, ix_nat, ix_eq, bd_some, bv_some, Int.toNat_natCast, Int.toNat_zero, sF_1, sF_2, sA_1, sA_2, sR_1, sR_2, ↓reduceIte, if_pos, if_neg]) (by simp (disch := omega) only [w32_eq, gI_eq, gB_eq, g0_eq, ix_nat, ix_eq, bd_some, bv_some, Int.toNat_natCast, Int.toNat_zero, sF_1, sF_2, sA_1, sA_2, sR_1, sR_2, ↓reduceIte, if_pos, if_neg]) (by simp (disch := omega) only [w32_eq, gI_eq, gB_eq, g0_eq, ix_nat, ix_eq, bd_some, bv_some, Int.toNat_natCast, Int.toNat_zero, sF_1, sF_2, sA_1, sA_2, sR_1, sR_2, ↓reduceIte, if_pos, if_neg])
          · have h := q4 k (by omega)
            have g2 := gr.2 (k + 1) (by omega)
            exact T2_move h (fun j hj => hu j (by omega)) (by simp (disch := omega) only [w32_eq, gI_eq, gB_eq, g0_eq, ix_nat, ix_eq, bd_some, bv_some, Int.toNat_natCast, Int.toNat_zero, sF_1, sF_2, sA_1, sA_2, sR_1, sR_2, ↓reduceIte, if_pos, if_neg]) (by simp (disch := omega) only [w32_eq, gI_eq, gB_eq, g0_eq, ix_nat, ix_eq, bd_some, bv_some, Int.toNat_natCast, Int.toNat_zero, sF_1, sF_2, sA_1, sA_2, sR_1, sR_2, ↓reduceIte, if_pos, if_neg]) (by simp (disch := omega) only [w32_eq, gI_eq, gB_eq, g0_eq, ix_nat, ix_eq, bd_some, bv_some, Int.toNat_natCast, Int.toNat_zero, sF_1, sF_2, sA_1, sA_2, sR_1, sR_2, ↓reduceIte, if_pos, if_neg]) (by simp (disch := omega) only [w32_eq, gI_eq, gB_eq, g0_eq, ix_nat, ix_eq, bd_some, bv_some, Int.toNat_natCast, Int.toNat_zero, sF_1, sF_2, sA_1, sA_2, sR_1, sR_2, ↓reduceIte, if_pos, if_neg])
        · rw [← a2, huB]; exact hl
        · rw [← a2, huB]; simp (disch := omega) only [w32_eq, gI_eq, gB_eq, g0_eq, ix_nat, ix_eq, bd_some, bv_some, Int.toNat_natCast, Int.toNat_zero, sF_1, sF_2, sA_1, sA_2, sR_1, sR_2, ↓reduceIte, if_pos, if_neg]
    · have en : nx 0 b = -1 := by unfold nx; rw [if_neg (by omega), if_neg (by omega)]
      refine Or.inl ⟨en, ?_⟩
      unfold fX6_goesOnWith fX6_goesOnWith_L0 fX6_beginTest fX6_beginTest_L0 fX6_beginTest_L29
      simp (disch := omega) only [w32_eq, gI_eq, gB_eq, g0_eq, ix_nat, ix_eq, bd_some, bv_some, Int.toNat_natCast, Int.toNat_zero, sF_1, sF_2, sA_1, sA_2, sR_1, sR_2, ↓reduceIte, if_pos, if_neg, a1]
  · -- a sign is awaited
    rw [a1] at h6
    rw [← h6]
    have gr := (ps_grow (z := fun k => σ.2 15 (k + 1)) q2 (L := n) (fun k hk => q4 k (by omega))) n (Nat.le_refl n)
    by_cases hl : b = 60 ∨ b = 61 ∨ b = 62
    · have en : nx 1 b = 2 := by unfold nx; rw [if_pos (by omega)]; rfl
      refine Or.inr ⟨by rw [en]; decide, sF (sA σ 13 n b) 6 2, m, ps, ?_, by rw [en]; simp (disch := omega) only [w32_eq, gI_eq, gB_eq, g0_eq, ix_nat, ix_eq, bd_some, bv_some, Int.toNat_natCast, Int.toNat_zero, sF_1, sF_2, sA_1, sA_2, sR_1, sR_2, ↓reduceIte, if_pos, if_neg], ?_, fun k h1 h2 h3 => by simp (disch := omega) only [w32_eq, gI_eq, gB_eq, g0_eq, ix_nat, ix_eq, bd_some, bv_some, Int.toNat_natCast, Int.toNat_zero, sF_1, sF_2, sA_1, sA_2, sR_1, sR_2, ↓reduceIte, if_pos, if_neg], fun k hk => by funext j; simp (disch := omega) only [w32_eq, gI_eq, gB_eq, g0_eq, ix_nat, ix_eq, bd_some, bv_some, Int.toNat_natCast, Int.toNat_zero, sF_1, sF_2, sA_1, sA_2, sR_1, sR_2, ↓reduceIte, if_pos, if_neg]⟩
      · unfold fX6_goesOnWith fX6_goesOnWith_L0 fX6_takeSign fX6_takeSign_L0 fX6_takeSign_L20
        have ei : ((m : Int) - 1).toNat = n := by omega
        by_cases c1 : b = 60
        · simp (disch := omega) only [w32_eq, gI_eq, gB_eq, g0_eq, ix_nat, ix_eq, bd_some, bv_some, Int.toNat_natCast, Int.toNat_zero, sF_1, sF_2, sA_1, sA_2, sR_1, sR_2, ↓reduceIte, if_pos, if_neg, a1, q1, within_eq, ei]
        by_cases c2 : b = 61
        · simp (disch := omega) only [w32_eq, gI_eq, gB_eq, g0_eq, ix_nat, ix_eq, bd_some, bv_some, Int.toNat_natCast, Int.toNat_zero, sF_1, sF_2, sA_1, sA_2, sR_1, sR_2, ↓reduceIte, if_pos, if_neg, a1, q1, within_eq, ei]
        · simp (disch := omega) only [w32_eq, gI_eq, gB_eq, g0_eq, ix_nat, ix_eq, bd_some, bv_some, Int.toNat_natCast, Int.toNat_zero, sF_1, sF_2, sA_1, sA_2, sR_1, sR_2, ↓reduceIte, if_pos, if_neg, a1, q1, within_eq, ei]
      · refine ⟨q1, q2, q3, fun k hk => ?_, Or.inr (Or.inr ⟨n, 0, a2, by simp (disch := omega) only [w32_eq, gI_eq, gB_eq, g0_eq, ix_nat, ix_eq, bd_some, bv_some, Int.toNat_natCast, Int.toNat_zero, sF_1, sF_2, sA_1, sA_2, sR_1, sR_2, ↓reduceIte, if_pos, if_neg]; rfl, by omega, ?_⟩)⟩
        · have h := q4 k hk
          have g2 := gr.2 (k + 1) (by omega)
          exact T2_move h (fun j hj => hu j (by omega)) rfl (by simp (disch := omega) only [w32_eq, gI_eq, gB_eq, g0_eq, ix_nat, ix_eq, bd_some, bv_some, Int.toNat_natCast, Int.toNat_zero, sF_1, sF_2, sA_1, sA_2, sR_1, sR_2, ↓reduceIte, if_pos, if_neg]) rfl rfl
        · refine ⟨by rw [← hu (ps n) (by omega)]; exact a4, by rw [← a3, huB]; exact hl, by omega, fun j hj => absurd hj (by omega), by rw [← hu (ps n) (by omega)]; exact a5, by rw [← a3, huB]; simp (disch := omega) only [w32_eq, gI_eq, gB_eq, g0_eq, ix_nat, ix_eq, bd_some, bv_some, Int.toNat_natCast, Int.toNat_zero, sF_1, sF_2, sA_1, sA_2, sR_1, sR_2, ↓reduceIte, if_pos, if_neg], a6⟩
    · have en : nx 1 b = -1 := by unfold nx; rw [if_neg (by omega), if_neg (by omega)]
      refine Or.inl ⟨en, ?_⟩
      unfold fX6_goesOnWith fX6_goesOnWith_L0 fX6_takeSign fX6_takeSign_L0 fX6_takeSign_L20
      simp (disch := omega) only [w32_eq, gI_eq, gB_eq, g0_eq, ix_nat, ix_eq, bd_some, bv_some, Int.toNat_natCast, Int.toNat_zero, sF_1, sF_2, sA_1, sA_2, sR_1, sR_2, ↓reduceIte, if_pos, if_neg, a1, q1, within_eq]
  · -- figures, or the end of a test
    obtain ⟨p1, p2, p3, p4, p5, p6, p7⟩ := id a4
    rw [a1] at h6
    rw [← h6]
    have gr := (ps_grow (z := fun k => σ.2 15 (k + 1)) q2 (L := n) (fun k hk => q4 k (by omega))) n (Nat.le_refl n)
    have ei : ((m : Int) - 1).toNat = n := by omega
    by_cases hf : 48 ≤ b ∧ b ≤ 57
    · by_cases hd : d < 3
      · have en : nx ((d : Int) + 2) b = (d : Int) + 2 + 1 := by unfold nx; rw [if_pos (by omega)]
        refine Or.inr ⟨by rw [en]; omega, sF (sA σ 14 n (10 * σ.2 14 n + (b - 48))) 6 ((d : Int) + 2 + 1), m, ps, ?_, by rw [en]; simp (disch := omega) only [w32_eq, gI_eq, gB_eq, g0_eq, ix_nat, ix_eq, bd_some, bv_some, Int.toNat_natCast, Int.toNat_zero, sF_1, sF_2, sA_1, sA_2, sR_1, sR_2, ↓reduceIte, if_pos, if_neg], ?_, fun k h1 h2 h3 => by simp (disch := omega) only [w32_eq, gI_eq, gB_eq, g0_eq, ix_nat, ix_eq, bd_some, bv_some, Int.toNat_natCast, Int.toNat_zero, sF_1, sF_2, sA_1, sA_2, sR_1, sR_2, ↓reduceIte, if_pos, if_neg], fun k hk => by funext j; simp (disch := omega) only [w32_eq, gI_eq, gB_eq, g0_eq, ix_nat, ix_eq, bd_some, bv_some, Int.toNat_natCast, Int.toNat_zero, sF_1, sF_2, sA_1, sA_2, sR_1, sR_2, ↓reduceIte, if_pos, if_neg]⟩
        · unfold fX6_goesOnWith fX6_goesOnWith_L0 fX6_takeFigure fX6_takeFigure_L0
          simp (disch := omega) only [w32_eq, gI_eq, gB_eq, g0_eq, ix_nat, ix_eq, bd_some, bv_some, Int.toNat_natCast, Int.toNat_zero, sF_1, sF_2, sA_1, sA_2, sR_1, sR_2, ↓reduceIte, if_pos, if_neg, a1, q1, within_eq, ei]
        · refine ⟨q1, q2, q3, fun k hk => ?_, Or.inr (Or.inr ⟨n, d + 1, a2, by simp (disch := omega) only [w32_eq, gI_eq, gB_eq, g0_eq, ix_nat, ix_eq, bd_some, bv_some, Int.toNat_natCast, Int.toNat_zero, sF_1, sF_2, sA_1, sA_2, sR_1, sR_2, ↓reduceIte, if_pos, if_neg]; omega, by omega, ?_⟩)⟩
          · have h := q4 k hk
            have g2 := gr.2 (k + 1) (by omega)
            exact T2_move h (fun j hj => hu j (by omega)) rfl rfl (by simp (disch := omega) only [w32_eq, gI_eq, gB_eq, g0_eq, ix_nat, ix_eq, bd_some, bv_some, Int.toNat_natCast, Int.toNat_zero, sF_1, sF_2, sA_1, sA_2, sR_1, sR_2, ↓reduceIte, if_pos, if_neg]) rfl
          · refine ⟨by rw [← hu (ps n) (by omega)]; exact p1, by rw [← hu (ps n + 1) (by omega)]; exact p2, by omega, fun j hj => ?_, by rw [← hu (ps n) (by omega)]; exact p5, by rw [← hu (ps n + 1) (by omega)]; exact p6, ?_⟩
            · by_cases e : j = d
              · subst e; rw [← a3, huB]; exact hf
              · rw [← hu _ (by omega)]; exact p4 j (by omega)
            · unfold dv
              rw [← a3, huB, ← dv_congr (t := t) (fun j hj => hu _ (by omega)), ← p7]
              simp (disch := omega) only [w32_eq, gI_eq, gB_eq, g0_eq, ix_nat, ix_eq, bd_some, bv_some, Int.toNat_natCast, Int.toNat_zero, sF_1, sF_2, sA_1, sA_2, sR_1, sR_2, ↓reduceIte, if_pos, if_neg]
      · have en : nx ((d : Int) + 2) b = -1 := by unfold nx; rw [if_neg (by omega), if_neg (by omega)]
        refine Or.inl ⟨en, ?_⟩
        unfold fX6_goesOnWith fX6_goesOnWith_L0 fX6_takeFigure fX6_takeFigure_L0
        simp (disch := omega) only [w32_eq, gI_eq, gB_eq, g0_eq, ix_nat, ix_eq, bd_some, bv_some, Int.toNat_natCast, Int.toNat_zero, sF_1, sF_2, sA_1, sA_2, sR_1, sR_2, ↓reduceIte, if_pos, if_neg, a1, q1, within_eq]
    · by_cases hs : 1 ≤ d ∧ (b = 124 ∨ b = 38)
      · have en : nx ((d : Int) + 2) b = 0 := by unfold nx; rw [if_neg (by omega), if_pos (by omega)]
        refine Or.inr ⟨by rw [en]; decide, sF (sF σ 8 (if b = 124 then 1 else 0)) 6 0, m, (fun k => if k = m then B + 1 else ps k), ?_, by rw [en]; simp (disch := omega) only [w32_eq, gI_eq, gB_eq, g0_eq, ix_nat, ix_eq, bd_some, bv_some, Int.toNat_natCast, Int.toNat_zero, sF_1, sF_2, sA_1, sA_2, sR_1, sR_2, ↓reduceIte, if_pos, if_neg], ?_, fun k h1 h2 h3 => by simp (disch := omega) only [w32_eq, gI_eq, gB_eq, g0_eq, ix_nat, ix_eq, bd_some, bv_some, Int.toNat_natCast, Int.toNat_zero, sF_1, sF_2, sA_1, sA_2, sR_1, sR_2, ↓reduceIte, if_pos, if_neg], fun k hk => by funext j; simp (disch := omega) only [w32_eq, gI_eq, gB_eq, g0_eq, ix_nat, ix_eq, bd_some, bv_some, Int.toNat_natCast, Int.toNat_zero, sF_1, sF_2, sA_1, sA_2, sR_1, sR_2, ↓reduceIte, if_pos, if_neg]⟩
        · unfold fX6_goesOnWith fX6_goesOnWith_L0 fX6_endTest fX6_endTest_L0 fX6_endTest_L22
          by_cases c1 : b = 124
          · simp (disch := omega) only [w32_eq, gI_eq, gB_eq, g0_eq, ix_nat, ix_eq, bd_some, bv_some, Int.toNat_natCast, Int.toNat_zero, sF_1, sF_2, sA_1, sA_2, sR_1, sR_2, ↓reduceIte, if_pos, if_neg, a1, q1, within_eq]
          · simp (disch := omega) only [w32_eq, gI_eq, gB_eq, g0_eq, ix_nat, ix_eq, bd_some, bv_some, Int.toNat_natCast, Int.toNat_zero, sF_1, sF_2, sA_1, sA_2, sR_1, sR_2, ↓reduceIte, if_pos, if_neg, a1, q1, within_eq]
        · refine ⟨q1, (if_neg (show ¬ 0 = m by omega)).trans q2, q3, fun k hk => ?_, Or.inl ⟨by simp (disch := omega) only [w32_eq, gI_eq, gB_eq, g0_eq, ix_nat, ix_eq, bd_some, bv_some, Int.toNat_natCast, Int.toNat_zero, sF_1, sF_2, sA_1, sA_2, sR_1, sR_2, ↓reduceIte, if_pos, if_neg], (if_pos rfl).symm, fun h => absurd h (by omega), fun k hk => ?_⟩⟩
          · have h := q4 k hk
            have g2 := gr.2 (k + 1) (by omega)
            simp only [if_neg (show ¬ k = m by omega), if_neg (show ¬ k + 1 = m by omega)]
            exact T2_move h (fun j hj => hu j (by omega)) rfl rfl rfl rfl
          · have ek : k = n := by omega
            subst ek
            simp only [if_neg (show ¬ k = m by omega), if_pos]
            refine ⟨d, hs.1, T1_move a4 (fun j hj => hu j (by omega)) rfl rfl rfl, by omega, ?_⟩
            rw [← a3, huB]
            by_cases c1 : b = 124
            · left; exact ⟨c1, by simp (disch := omega) only [w32_eq, gI_eq, gB_eq, g0_eq, ix_nat, ix_eq, bd_some, bv_some, Int.toNat_natCast, Int.toNat_zero, sF_1, sF_2, sA_1, sA_2, sR_1, sR_2, ↓reduceIte, if_pos, if_neg]⟩
            · right; exact ⟨by omega, by simp (disch := omega) only [w32_eq, gI_eq, gB_eq, g0_eq, ix_nat, ix_eq, bd_some, bv_some, Int.toNat_natCast, Int.toNat_zero, sF_1, sF_2, sA_1, sA_2, sR_1, sR_2, ↓reduceIte, if_pos, if_neg]⟩
      · have en : nx ((d : Int) + 2) b = -1 := by unfold nx; rw [if_neg (by omega), if_neg (by omega)]
        refine Or.inl ⟨en, ?_⟩
        unfold fX6_goesOnWith fX6_goesOnWith_L0 fX6_endTest fX6_endTest_L0 fX6_endTest_L22
        by_cases c0 : d = 0
        · simp (disch := omega) only [w32_eq, gI_eq, gB_eq, g0_eq, ix_nat, ix_eq, bd_some, bv_some, Int.toNat_natCast, Int.toNat_zero, sF_1, sF_2, sA_1, sA_2, sR_1, sR_2, ↓reduceIte, if_pos, if_neg, a1, q1, within_eq]
        · simp (disch := omega) only [w32_eq, gI_eq, gB_eq, g0_eq, ix_nat, ix_eq, bd_some, bv_some, Int.toNat_natCast, Int.toNat_zero, sF_1, sF_2, sA_1, sA_2, sR_1, sR_2, ↓reduceIte, if_pos, if_neg, a1, q1, within_eq]
theorem keep_inv {σ' : St} (hk : Kp σ σ') (h : Bs σ R P ∧ IR σ ρ R ∧ IS σ ρ ∧ IP σ ρ P ∧ IW σ ρ R P ∧ IL σ ρ R P ∧ IK σ ρ P ∧ IT σ ρ P ∧ ID σ ρ ∧ IN σ ρ R P N ∧ IQ σ ρ T) : Bs σ' R P ∧ IR σ' ρ R ∧ IS σ' ρ ∧ IP σ' ρ P ∧ IW σ' ρ R P ∧ IL σ' ρ R P ∧ IK σ' ρ P ∧ IT σ' ρ P ∧ ID σ' ρ ∧ IN σ' ρ R P N ∧ IQ σ' ρ T := by
  obtain ⟨k1, k2⟩ := hk
  have f : ∀ k : Nat, k ≠ 5 → k ≠ 6 → k ≠ 8 → σ'.1 k = σ.1 k := k1
  have g : ∀ k : Nat, k < 12 ∨ 15 < k → σ'.2 k = σ.2 k := k2
  unfold Bs IR IS IP IW IL IK IT ID IN IQ at *
  rw [f 0 (by decide) (by decide) (by decide), f 1 (by decide) (by decide) (by decide), f 2 (by decide) (by decide) (by decide), f 3 (by decide) (by decide) (by decide), f 9 (by decide) (by decide) (by decide), f 10 (by decide) (by decide) (by decide), f 11 (by decide) (by decide) (by decide), f 12 (by decide) (by decide) (by decide), f 15 (by decide) (by decide) (by decide), f 16 (by decide) (by decide) (by decide), f 17 (by decide) (by decide) (by decide)]
  rw [g 1 (by decide), g 2 (by decide), g 3 (by decide), g 4 (by decide), g 5 (by decide), g 6 (by decide), g 7 (by decide), g 8 (by decide), g 9 (by decide), g 10 (by decide), g 11 (by decide), g 16 (by decide), g 26 (by decide), g 27 (by decide), g 28 (by decide), g 29 (by decide), g 30 (by decide)]
  exact h
theorem op_type (h : Inv σ ρ) {b : Int} (hb : rg b) : Op (fX10_type σ b) (fX11_type ρ b) := by
  have hI := h
  obtain ⟨R, P, N, T, B, hB, hR, hS, hP, hW, hL, hK, hT, hD, hN, hQ, hX⟩ := h
  unfold rg at hb
  obtain ⟨x1, x2, x3, x4, x5⟩ := id hX
  by_cases hok : 32 ≤ b ∧ b ≤ 126
  · by_cases h6 : B = 60
    · refine ⟨-4, σ, ρ, ?_, ?_, hI⟩
      · unfold fX10_type fX10_type_L0
        simp (disch := omega) only [w32_eq, gI_eq, gB_eq, g0_eq, ix_nat, ix_eq, bd_some, bv_some, Int.toNat_natCast, Int.toNat_zero, sF_1, sF_2, sA_1, sA_2, sR_1, sR_2, ↓reduceIte, if_pos, if_neg, within_eq, x1]
      · unfold fX11_type fX11_type_L0
        simp (disch := omega) only [w32_eq, gI_eq, gB_eq, g0_eq, ix_nat, ix_eq, bd_some, bv_some, Int.toNat_natCast, Int.toNat_zero, sF_1, sF_2, sA_1, sA_2, sR_1, sR_2, ↓reduceIte, if_pos, if_neg, in_eq, x2]
    · have er : fX11_type ρ b = some ((B : Int) + 1, sF (sA ρ 11 B b) 3 ((B : Int) + 1)) := by
        unfold fX11_type fX11_type_L0
        simp (disch := omega) only [w32_eq, gI_eq, gB_eq, g0_eq, ix_nat, ix_eq, bd_some, bv_some, Int.toNat_natCast, Int.toNat_zero, sF_1, sF_2, sA_1, sA_2, sR_1, sR_2, ↓reduceIte, if_pos, if_neg, in_eq, x2]
      have ec : fX10_type σ b = bd (fX6_add σ b) fun a s => some (a, s) := by
        unfold fX10_type fX10_type_L0
        simp (disch := omega) only [w32_eq, gI_eq, gB_eq, g0_eq, ix_nat, ix_eq, bd_some, bv_some, Int.toNat_natCast, Int.toNat_zero, sF_1, sF_2, sA_1, sA_2, sR_1, sR_2, ↓reduceIte, if_pos, if_neg, within_eq, x1]
      rw [er, ec]
      unfold fX6_add fX6_add_L0
      have hu : ∀ j : Nat, j < B → ρ.2 11 j = (sF (sA ρ 11 B b) 3 ((B : Int) + 1)).2 11 j := fun j hj => by simp (disch := omega) only [w32_eq, gI_eq, gB_eq, g0_eq, ix_nat, ix_eq, bd_some, bv_some, Int.toNat_natCast, Int.toNat_zero, sF_1, sF_2, sA_1, sA_2, sR_1, sR_2, ↓reduceIte, if_pos, if_neg]
      have huB : (sF (sA ρ 11 B b) 3 ((B : Int) + 1)).2 11 B = b := by simp (disch := omega) only [w32_eq, gI_eq, gB_eq, g0_eq, ix_nat, ix_eq, bd_some, bv_some, Int.toNat_natCast, Int.toNat_zero, sF_1, sF_2, sA_1, sA_2, sR_1, sR_2, ↓reduceIte, if_pos, if_neg]
      have ht : ∀ i : Nat, i < B + 1 → 32 ≤ (sF (sA ρ 11 B b) 3 ((B : Int) + 1)).2 11 i ∧ (sF (sA ρ 11 B b) 3 ((B : Int) + 1)).2 11 i ≤ 126 := fun i hi => by
        by_cases e : i = B
        · rw [e, huB]; exact hok
        · rw [← hu i (by omega)]; exact x4 i (by omega)
      rcases x5 with ⟨f, f1, f2, f3, f4⟩ | ⟨g1, g2, g3, m, ps, g4⟩
      · refine ⟨(B : Int) + 1, sF σ 4 ((B : Int) + 1), sF (sA ρ 11 B b) 3 ((B : Int) + 1), ?_, rfl, R, P, N, T, B + 1, hB, hR, hS, hP, hW, hL, hK, hT, hD, hN, hQ, ⟨by simp (disch := omega) only [w32_eq, gI_eq, gB_eq, g0_eq, ix_nat, ix_eq, bd_some, bv_some, Int.toNat_natCast, Int.toNat_zero, sF_1, sF_2, sA_1, sA_2, sR_1, sR_2, ↓reduceIte, if_pos, if_neg]; omega, by simp (disch := omega) only [w32_eq, gI_eq, gB_eq, g0_eq, ix_nat, ix_eq, bd_some, bv_some, Int.toNat_natCast, Int.toNat_zero, sF_1, sF_2, sA_1, sA_2, sR_1, sR_2, ↓reduceIte, if_pos, if_neg]; omega, by omega, ht, Or.inl ⟨f, by omega, f2, ?_, ?_⟩⟩⟩
        · simp (disch := omega) only [w32_eq, gI_eq, gB_eq, g0_eq, ix_nat, ix_eq, bd_some, bv_some, Int.toNat_natCast, Int.toNat_zero, sF_1, sF_2, sA_1, sA_2, sR_1, sR_2, ↓reduceIte, if_pos, if_neg, f2, x1]
        · rw [← rn_congr (fun j hj => hu j (by omega))]; exact f3
        · rw [← rn_congr (fun j hj => hu j (by omega))]; exact f4
      · have er : rn ((sF (sA ρ 11 B b) 3 ((B : Int) + 1)).2 11) B = rn (ρ.2 11) B := (rn_congr hu).symm
        rcases goes g2 g4 (by omega) hok hu huB with ⟨n1, n2⟩ | ⟨n1, σ', m', ps', n2, n3, n4, n5⟩
        · refine ⟨(B : Int) + 1, sF (sF σ 7 (B : Int)) 4 ((B : Int) + 1), sF (sA ρ 11 B b) 3 ((B : Int) + 1), ?_, rfl, R, P, N, T, B + 1, hB, hR, hS, hP, hW, hL, hK, hT, hD, hN, hQ, ⟨by simp (disch := omega) only [w32_eq, gI_eq, gB_eq, g0_eq, ix_nat, ix_eq, bd_some, bv_some, Int.toNat_natCast, Int.toNat_zero, sF_1, sF_2, sA_1, sA_2, sR_1, sR_2, ↓reduceIte, if_pos, if_neg]; omega, by simp (disch := omega) only [w32_eq, gI_eq, gB_eq, g0_eq, ix_nat, ix_eq, bd_some, bv_some, Int.toNat_natCast, Int.toNat_zero, sF_1, sF_2, sA_1, sA_2, sR_1, sR_2, ↓reduceIte, if_pos, if_neg]; omega, by omega, ht, Or.inl ⟨B, by omega, by simp (disch := omega) only [w32_eq, gI_eq, gB_eq, g0_eq, ix_nat, ix_eq, bd_some, bv_some, Int.toNat_natCast, Int.toNat_zero, sF_1, sF_2, sA_1, sA_2, sR_1, sR_2, ↓reduceIte, if_pos, if_neg], by rw [er]; exact g3, ?_⟩⟩⟩
          · rw [n2]
            simp (disch := omega) only [w32_eq, gI_eq, gB_eq, g0_eq, ix_nat, ix_eq, bd_some, bv_some, Int.toNat_natCast, Int.toNat_zero, sF_1, sF_2, sA_1, sA_2, sR_1, sR_2, ↓reduceIte, if_pos, if_neg, g1, x1]
          · rw [rn_succ, er, if_neg g3, huB]; exact n1
        · have k4 := n5.1 4 (by decide) (by decide) (by decide)
          have k7 := n5.1 7 (by decide) (by decide) (by decide)
          obtain ⟨y1, y2, y3, y4, y5, y6, y7, y8, y9, y10, y11⟩ := keep_inv n5 ⟨hB, hR, hS, hP, hW, hL, hK, hT, hD, hN, hQ⟩
          refine ⟨(B : Int) + 1, sF σ' 4 ((B : Int) + 1), sF (sA ρ 11 B b) 3 ((B : Int) + 1), ?_, rfl, R, P, N, T, B + 1, y1, y2, y3, y4, y5, y6, y7, y8, y9, y10, y11, ⟨by simp (disch := omega) only [w32_eq, gI_eq, gB_eq, g0_eq, ix_nat, ix_eq, bd_some, bv_some, Int.toNat_natCast, Int.toNat_zero, sF_1, sF_2, sA_1, sA_2, sR_1, sR_2, ↓reduceIte, if_pos, if_neg]; omega, by simp (disch := omega) only [w32_eq, gI_eq, gB_eq, g0_eq, ix_nat, ix_eq, bd_some, bv_some, Int.toNat_natCast, Int.toNat_zero, sF_1, sF_2, sA_1, sA_2, sR_1, sR_2, ↓reduceIte, if_pos, if_neg]; omega, by omega, ht, Or.inr ⟨?_, ?_, ?_, m', ps', n4⟩⟩⟩
          · rw [n2, bd_some, k4, x1]
            simp (disch := omega) only [w32_eq, gI_eq, gB_eq, g0_eq, ix_nat, ix_eq, bd_some, bv_some, Int.toNat_natCast, Int.toNat_zero, sF_1, sF_2, sA_1, sA_2, sR_1, sR_2, ↓reduceIte, if_pos, if_neg, g1]
          · simp (disch := omega) only [w32_eq, gI_eq, gB_eq, g0_eq, ix_nat, ix_eq, bd_some, bv_some, Int.toNat_natCast, Int.toNat_zero, sF_1, sF_2, sA_1, sA_2, sR_1, sR_2, ↓reduceIte, if_pos, if_neg]; rw [k7]; exact g1
          · rw [rn_succ, er, if_neg g3, huB]; exact n3
          · rw [rn_succ, er, if_neg g3, huB]; exact n1
  · refine ⟨-2, σ, ρ, ?_, ?_, hI⟩
    · unfold fX10_type fX10_type_L0
      simp (disch := omega) only [w32_eq, gI_eq, gB_eq, g0_eq, ix_nat, ix_eq, bd_some, bv_some, Int.toNat_natCast, Int.toNat_zero, sF_1, sF_2, sA_1, sA_2, sR_1, sR_2, ↓reduceIte, if_pos, if_neg, within_eq]
    · unfold fX11_type fX11_type_L0
      simp (disch := omega) only [w32_eq, gI_eq, gB_eq, g0_eq, ix_nat, ix_eq, bd_some, bv_some, Int.toNat_natCast, Int.toNat_zero, sF_1, sF_2, sA_1, sA_2, sR_1, sR_2, ↓reduceIte, if_pos, if_neg, in_eq]
end ETYPE
