section ESTAT
variable {σ ρ : St} {R P N T B : Nat}
theorem rn_succ (t : Nat → Int) (i : Nat) : rn t (i + 1) = if rn t i = -1 then -1 else nx (rn t i) (t i) := rfl
theorem nx_rng {s c : Int} (hs : 0 ≤ s ∧ s ≤ 5) : nx s c = -1 ∨ (0 ≤ nx s c ∧ nx s c ≤ 5) := by
  unfold nx
  split
  · omega
  · split <;> omega
theorem rn_rng (t : Nat → Int) : ∀ i : Nat, rn t i = -1 ∨ (0 ≤ rn t i ∧ rn t i ≤ 5)
  | 0 => Or.inr ⟨show (0 : Int) ≤ 0 by decide, show (0 : Int) ≤ 5 by decide⟩
  | i + 1 => by
    have ih := rn_rng t i
    rw [rn_succ]
    split
    · exact Or.inl rfl
    · exact nx_rng (by omega)
theorem rn_bad (t : Nat → Int) {i : Nat} (h : rn t i = -1) : ∀ j : Nat, rn t (i + j) = -1
  | 0 => h
  | j + 1 => by rw [← Nat.add_assoc, rn_succ, if_pos (rn_bad t h j)]
theorem rn_good (t : Nat → Int) {i j : Nat} (hij : i ≤ j) (h : rn t j ≠ -1) : rn t i ≠ -1 := fun e => h (by
  have := rn_bad t e (j - i)
  rw [show i + (j - i) = j by omega] at this
  exact this)
theorem rn_congr {t u : Nat → Int} : ∀ {i : Nat}, (∀ j : Nat, j < i → t j = u j) → rn t i = rn u i
  | 0, _ => rfl
  | i + 1, h => by rw [rn_succ, rn_succ, rn_congr (fun j hj => h j (by omega)), h i (by omega)]
theorem isFigure_eq (ρ : St) {c : Int} (hc : rg c) : fX11_isFigure ρ c = some ((if 48 ≤ c ∧ c ≤ 57 then 1 else 0), ρ) := by
  unfold rg at hc
  unfold fX11_isFigure fX11_isFigure_L0
  rw [w32_eq hc, in_eq ρ hc (by omega) (by omega), bd_some]
  split <;> simp (disch := omega) only [w32_eq, gI_eq, gB_eq, g0_eq, ix_nat, ix_eq, bd_some, bv_some, Int.toNat_natCast, Int.toNat_zero, sF_1, sF_2, sA_1, sA_2, sR_1, sR_2, ↓reduceIte, if_pos, if_neg]
/-- one byte more, in the reference's reading -/
theorem fault_step (k : Int → Int → St → Option (Int × St)) {s c : Int} {i : Nat} (hB : ρ.1 3 = B) (hB6 : B ≤ 60) (hi : i < B) (hc : ρ.2 11 i = c) (hcr : 32 ≤ c ∧ c ≤ 126) (hs : 0 ≤ s ∧ s ≤ 5) : fX11_fault_B4 k s (i : Int) ρ = if nx s c = -1 then some ((i : Int), ρ) else k (nx s c) ((i : Int) + 1) ρ := by
  unfold fX11_fault_B4
  simp (disch := omega) only [w32_eq, gI_eq, gB_eq, g0_eq, ix_nat, ix_eq, bd_some, bv_some, Int.toNat_natCast, Int.toNat_zero, sF_1, sF_2, sA_1, sA_2, sR_1, sR_2, ↓reduceIte, if_pos, if_neg, hB]
  rw [hc]
  have fig := isFigure_eq ρ (c := c) (by unfold rg; omega)
  have e30 : ∀ s' : Int, 2 ≤ s' → s' ≤ 5 → fX11_fault_L30 k s' (i : Int) c ρ = if nx s' c = -1 then some ((i : Int), ρ) else k (nx s' c) ((i : Int) + 1) ρ := by
    intro s' h1 h2
    unfold fX11_fault_L30 fX11_fault_L42 fX11_fault_L65
    rw [fig]
    by_cases c1 : 48 ≤ c ∧ c ≤ 57
    · by_cases c2 : s' < 5
      · have e : nx s' c = s' + 1 := by unfold nx; rw [if_pos (by omega)]
        rw [e]
        simp (disch := omega) only [w32_eq, gI_eq, gB_eq, g0_eq, ix_nat, ix_eq, bd_some, bv_some, Int.toNat_natCast, Int.toNat_zero, sF_1, sF_2, sA_1, sA_2, sR_1, sR_2, ↓reduceIte, if_pos, if_neg]
      · have e : nx s' c = -1 := by unfold nx; rw [if_neg (by omega), if_neg (by omega)]
        rw [e]
        simp (disch := omega) only [w32_eq, gI_eq, gB_eq, g0_eq, ix_nat, ix_eq, bd_some, bv_some, Int.toNat_natCast, Int.toNat_zero, sF_1, sF_2, sA_1, sA_2, sR_1, sR_2, ↓reduceIte, if_pos, if_neg]
    · by_cases c3 : 2 < s' ∧ (c = 124 ∨ c = 38)
      · have e : nx s' c = 0 := by unfold nx; rw [if_neg (by omega), if_pos c3]
        rw [e]
        by_cases c4 : c = 124
        · by_cases c2 : s' < 5
          · simp (disch := omega) only [w32_eq, gI_eq, gB_eq, g0_eq, ix_nat, ix_eq, bd_some, bv_some, Int.toNat_natCast, Int.toNat_zero, sF_1, sF_2, sA_1, sA_2, sR_1, sR_2, ↓reduceIte, if_pos, if_neg]
          · simp (disch := omega) only [w32_eq, gI_eq, gB_eq, g0_eq, ix_nat, ix_eq, bd_some, bv_some, Int.toNat_natCast, Int.toNat_zero, sF_1, sF_2, sA_1, sA_2, sR_1, sR_2, ↓reduceIte, if_pos, if_neg]
        · by_cases c2 : s' < 5
          · simp (disch := omega) only [w32_eq, gI_eq, gB_eq, g0_eq, ix_nat, ix_eq, bd_some, bv_some, Int.toNat_natCast, Int.toNat_zero, sF_1, sF_2, sA_1, sA_2, sR_1, sR_2, ↓reduceIte, if_pos, if_neg]
          · simp (disch := omega) only [w32_eq, gI_eq, gB_eq, g0_eq, ix_nat, ix_eq, bd_some, bv_some, Int.toNat_natCast, Int.toNat_zero, sF_1, sF_2, sA_1, sA_2, sR_1, sR_2, ↓reduceIte, if_pos, if_neg]
      · have e : nx s' c = -1 := by unfold nx; rw [if_neg (by omega), if_neg c3]
        rw [e]
        by_cases c2 : s' < 5
        · by_cases c5 : s' ≤ 2
          · simp (disch := omega) only [w32_eq, gI_eq, gB_eq, g0_eq, ix_nat, ix_eq, bd_some, bv_some, Int.toNat_natCast, Int.toNat_zero, sF_1, sF_2, sA_1, sA_2, sR_1, sR_2, ↓reduceIte, if_pos, if_neg]
          · simp (disch := omega) only [w32_eq, gI_eq, gB_eq, g0_eq, ix_nat, ix_eq, bd_some, bv_some, Int.toNat_natCast, Int.toNat_zero, sF_1, sF_2, sA_1, sA_2, sR_1, sR_2, ↓reduceIte, if_pos, if_neg]
        · simp (disch := omega) only [w32_eq, gI_eq, gB_eq, g0_eq, ix_nat, ix_eq, bd_some, bv_some, Int.toNat_natCast, Int.toNat_zero, sF_1, sF_2, sA_1, sA_2, sR_1, sR_2, ↓reduceIte, if_pos, if_neg]
  by_cases s0 : s = 0
  · subst s0
    unfold fX11_isLetter fX11_isLetter_L0
    by_cases c1 : c = 121
    · have e : nx 0 c = 1 := by unfold nx; rw [if_pos (by omega)]; rfl
      rw [e]; simp (disch := omega) only [w32_eq, gI_eq, gB_eq, g0_eq, ix_nat, ix_eq, bd_some, bv_some, Int.toNat_natCast, Int.toNat_zero, sF_1, sF_2, sA_1, sA_2, sR_1, sR_2, ↓reduceIte, if_pos, if_neg]; rfl
    by_cases c2 : c = 109
    · have e : nx 0 c = 1 := by unfold nx; rw [if_pos (by omega)]; rfl
      rw [e]; simp (disch := omega) only [w32_eq, gI_eq, gB_eq, g0_eq, ix_nat, ix_eq, bd_some, bv_some, Int.toNat_natCast, Int.toNat_zero, sF_1, sF_2, sA_1, sA_2, sR_1, sR_2, ↓reduceIte, if_pos, if_neg]; rfl
    by_cases c3 : c = 115
    · have e : nx 0 c = 1 := by unfold nx; rw [if_pos (by omega)]; rfl
      rw [e]; simp (disch := omega) only [w32_eq, gI_eq, gB_eq, g0_eq, ix_nat, ix_eq, bd_some, bv_some, Int.toNat_natCast, Int.toNat_zero, sF_1, sF_2, sA_1, sA_2, sR_1, sR_2, ↓reduceIte, if_pos, if_neg]; rfl
    by_cases c4 : c = 104
    · have e : nx 0 c = 1 := by unfold nx; rw [if_pos (by omega)]; rfl
      rw [e]; simp (disch := omega) only [w32_eq, gI_eq, gB_eq, g0_eq, ix_nat, ix_eq, bd_some, bv_some, Int.toNat_natCast, Int.toNat_zero, sF_1, sF_2, sA_1, sA_2, sR_1, sR_2, ↓reduceIte, if_pos, if_neg]; rfl
    · have e : nx 0 c = -1 := by unfold nx; rw [if_neg (by omega), if_neg (by omega)]
      rw [e]
      unfold fX11_fault_L30 fX11_fault_L42 fX11_fault_L65
      simp (disch := omega) only [w32_eq, gI_eq, gB_eq, g0_eq, ix_nat, ix_eq, bd_some, bv_some, Int.toNat_natCast, Int.toNat_zero, sF_1, sF_2, sA_1, sA_2, sR_1, sR_2, ↓reduceIte, if_pos, if_neg]
  · by_cases s1 : s = 1
    · subst s1
      unfold fX11_fault_L30 fX11_isSign fX11_isSign_L0
      by_cases c1 : c = 60
      · have e : nx 1 c = 2 := by unfold nx; rw [if_pos (by omega)]; rfl
        rw [e]; simp (disch := omega) only [w32_eq, gI_eq, gB_eq, g0_eq, ix_nat, ix_eq, bd_some, bv_some, Int.toNat_natCast, Int.toNat_zero, sF_1, sF_2, sA_1, sA_2, sR_1, sR_2, ↓reduceIte, if_pos, if_neg]; rfl
      by_cases c2 : c = 61
      · have e : nx 1 c = 2 := by unfold nx; rw [if_pos (by omega)]; rfl
        rw [e]; simp (disch := omega) only [w32_eq, gI_eq, gB_eq, g0_eq, ix_nat, ix_eq, bd_some, bv_some, Int.toNat_natCast, Int.toNat_zero, sF_1, sF_2, sA_1, sA_2, sR_1, sR_2, ↓reduceIte, if_pos, if_neg]; rfl
      by_cases c3 : c = 62
      · have e : nx 1 c = 2 := by unfold nx; rw [if_pos (by omega)]; rfl
        rw [e]; simp (disch := omega) only [w32_eq, gI_eq, gB_eq, g0_eq, ix_nat, ix_eq, bd_some, bv_some, Int.toNat_natCast, Int.toNat_zero, sF_1, sF_2, sA_1, sA_2, sR_1, sR_2, ↓reduceIte, if_pos, if_neg]; rfl
      · have e : nx 1 c = -1 := by unfold nx; rw [if_neg (by omega), if_neg (by omega)]
        rw [e]
        unfold fX11_fault_L42 fX11_fault_L65
        simp (disch := omega) only [w32_eq, gI_eq, gB_eq, g0_eq, ix_nat, ix_eq, bd_some, bv_some, Int.toNat_natCast, Int.toNat_zero, sF_1, sF_2, sA_1, sA_2, sR_1, sR_2, ↓reduceIte, if_pos, if_neg]
    · rw [if_neg s0]
      exact e30 s (by omega) (by omega)
theorem faultR_good (hB : ρ.1 3 = B) (hB6 : B ≤ 60) (hc : ∀ i : Nat, i < B → 32 ≤ ρ.2 11 i ∧ ρ.2 11 i ≤ 126) (hg : rn (ρ.2 11) B ≠ -1) : ∀ (n i : Nat), i ≤ B → B - i < n → fX11_fault_L4 n (rn (ρ.2 11) i) (i : Int) ρ = some ((if 0 < B ∧ rn (ρ.2 11) B < 3 then (B : Int) else -1), ρ) := by
  intro n
  induction n with
  | zero => intro i _ h; omega
  | succ n ih =>
    intro i hi hn
    have e0 : fX11_fault_L4 (n + 1) (rn (ρ.2 11) i) (i : Int) ρ = fX11_fault_B4 (fX11_fault_L4 n) (rn (ρ.2 11) i) (i : Int) ρ := rfl
    rw [e0]
    have r := rn_rng (ρ.2 11) i
    have g := rn_good (ρ.2 11) hi hg
    by_cases e : i = B
    · subst e
      unfold fX11_fault_B4
      by_cases c1 : i = 0
      · subst c1
        simp (disch := omega) only [w32_eq, gI_eq, gB_eq, g0_eq, ix_nat, ix_eq, bd_some, bv_some, Int.toNat_natCast, Int.toNat_zero, sF_1, sF_2, sA_1, sA_2, sR_1, sR_2, ↓reduceIte, if_pos, if_neg, hB]
      · by_cases c2 : rn (ρ.2 11) i < 3
        · simp (disch := omega) only [w32_eq, gI_eq, gB_eq, g0_eq, ix_nat, ix_eq, bd_some, bv_some, Int.toNat_natCast, Int.toNat_zero, sF_1, sF_2, sA_1, sA_2, sR_1, sR_2, ↓reduceIte, if_pos, if_neg, hB]
        · simp (disch := omega) only [w32_eq, gI_eq, gB_eq, g0_eq, ix_nat, ix_eq, bd_some, bv_some, Int.toNat_natCast, Int.toNat_zero, sF_1, sF_2, sA_1, sA_2, sR_1, sR_2, ↓reduceIte, if_pos, if_neg, hB]
    · rw [fault_step _ hB hB6 (by omega) rfl (hc i (by omega)) (by omega)]
      have g1 := rn_good (ρ.2 11) (show i + 1 ≤ B by omega) hg
      have ih1 := ih (i + 1) (by omega) (by omega)
      rw [rn_succ, if_neg g] at g1 ih1
      rw [if_neg g1]
      exact ih1
theorem faultR_bad (hB : ρ.1 3 = B) (hB6 : B ≤ 60) (hc : ∀ i : Nat, i < B → 32 ≤ ρ.2 11 i ∧ ρ.2 11 i ≤ 126) {f : Nat} (hf : f < B) (hg : rn (ρ.2 11) f ≠ -1) (hb : rn (ρ.2 11) (f + 1) = -1) : ∀ (n i : Nat), i ≤ f → f - i < n → fX11_fault_L4 n (rn (ρ.2 11) i) (i : Int) ρ = some ((f : Int), ρ) := by
  intro n
  induction n with
  | zero => intro i _ h; omega
  | succ n ih =>
    intro i hi hn
    have e0 : fX11_fault_L4 (n + 1) (rn (ρ.2 11) i) (i : Int) ρ = fX11_fault_B4 (fX11_fault_L4 n) (rn (ρ.2 11) i) (i : Int) ρ := rfl
    rw [e0]
    have r := rn_rng (ρ.2 11) i
    have g := rn_good (ρ.2 11) hi hg
    rw [fault_step _ hB hB6 (by omega) rfl (hc i (by omega)) (by omega)]
    by_cases e : i = f
    · subst e
      rw [rn_succ, if_neg g] at hb
      rw [if_pos hb]
    · have g1 := rn_good (ρ.2 11) (show i + 1 ≤ f by omega) hg
      have ih1 := ih (i + 1) (by omega) (by omega)
      rw [rn_succ, if_neg g] at g1 ih1
      rw [if_neg g1]
      exact ih1
/-- the FAULT of the text -/
theorem fault_eq (hX : IX σ ρ B) : ∃ r : Int, fX6_faultPlace σ = some (r, σ) ∧ fX11_fault ρ = some (r, ρ) ∧ ((r = -1 ∧ (B = 0 ∨ 3 ≤ rn (ρ.2 11) B) ∧ rn (ρ.2 11) B ≠ -1 ∧ σ.1 7 = -1 ∧ ∃ (m : Nat) (ps : Nat → Nat), TS σ (ρ.2 11) B m ps) ∨ (0 ≤ r ∧ r ≤ 60 ∧ 0 < B)) := by
  obtain ⟨x1, x2, x3, x4, x5⟩ := hX
  unfold fX6_faultPlace fX6_faultPlace_L0 fX11_fault fX11_fault_L0
  rcases x5 with ⟨f, f1, f2, f3, f4⟩ | ⟨g1, g2, g3, g4⟩
  · refine ⟨f, ?_, ?_, Or.inr (by omega)⟩
    · simp (disch := omega) only [w32_eq, gI_eq, gB_eq, g0_eq, ix_nat, ix_eq, bd_some, bv_some, Int.toNat_natCast, Int.toNat_zero, sF_1, sF_2, sA_1, sA_2, sR_1, sR_2, ↓reduceIte, if_pos, if_neg, f2]
    · exact faultR_bad x2 x3 x4 f1 f3 f4 1000 0 (by omega) (by omega)
  · have c := faultR_good x2 x3 x4 g3 1000 0 (by omega) (by omega)
    have r := rn_rng (ρ.2 11) B
    by_cases h0 : B = 0
    · subst h0
      refine ⟨-1, ?_, ?_, Or.inl ⟨rfl, Or.inl rfl, g3, g1, g4⟩⟩
      · simp (disch := omega) only [w32_eq, gI_eq, gB_eq, g0_eq, ix_nat, ix_eq, bd_some, bv_some, Int.toNat_natCast, Int.toNat_zero, sF_1, sF_2, sA_1, sA_2, sR_1, sR_2, ↓reduceIte, if_pos, if_neg, g1, x1]
      · refine c.trans ?_
        rw [if_neg (by omega)]
    · by_cases h3 : rn (ρ.2 11) B < 3
      · refine ⟨B, ?_, ?_, Or.inr (by omega)⟩
        · rw [g1, x1, g2]
          simp (disch := omega) only [w32_eq, gI_eq, gB_eq, g0_eq, ix_nat, ix_eq, bd_some, bv_some, Int.toNat_natCast, Int.toNat_zero, sF_1, sF_2, sA_1, sA_2, sR_1, sR_2, ↓reduceIte, if_pos, if_neg]
        · refine c.trans ?_
          rw [if_pos (by omega)]
      · refine ⟨-1, ?_, ?_, Or.inl ⟨rfl, Or.inr (by omega), g3, g1, g4⟩⟩
        · rw [g1, x1, g2]
          simp (disch := omega) only [w32_eq, gI_eq, gB_eq, g0_eq, ix_nat, ix_eq, bd_some, bv_some, Int.toNat_natCast, Int.toNat_zero, sF_1, sF_2, sA_1, sA_2, sR_1, sR_2, ↓reduceIte, if_pos, if_neg]
        · refine c.trans ?_
          rw [if_neg (by omega)]
theorem op_fault (h : Inv σ ρ) : Op (fX10_fault σ) (fX11_fault ρ) := by
  have hI := h
  obtain ⟨R, P, N, T, B, hB, hR, hS, hP, hW, hL, hK, hT, hD, hN, hQ, hX⟩ := h
  obtain ⟨r, q1, q2, q3⟩ := fault_eq hX
  refine ⟨r, σ, ρ, ?_, q2, hI⟩
  unfold fX10_fault fX10_fault_L0
  rw [q1, bd_some]
theorem op_repeal (h : Inv σ ρ) : Op (fX10_repeal σ) (fX11_repeal ρ) := by
  obtain ⟨R, P, N, T, B, hB, hR, hS, hP, hW, hL, hK, hT, hD, hN, hQ, hX⟩ := h
  refine ⟨(B : Int), sF (sF (sF (sF (sF σ 4 0) 5 0) 6 0) 7 (-1)) 8 1, sF ρ 3 0, ?_, ?_, R, P, N, T, 0, hB, hR, hS, hP, hW, hL, hK, hT, hD, hN, hQ, ⟨by simp (disch := omega) only [w32_eq, gI_eq, gB_eq, g0_eq, ix_nat, ix_eq, bd_some, bv_some, Int.toNat_natCast, Int.toNat_zero, sF_1, sF_2, sA_1, sA_2, sR_1, sR_2, ↓reduceIte, if_pos, if_neg]; rfl, by simp (disch := omega) only [w32_eq, gI_eq, gB_eq, g0_eq, ix_nat, ix_eq, bd_some, bv_some, Int.toNat_natCast, Int.toNat_zero, sF_1, sF_2, sA_1, sA_2, sR_1, sR_2, ↓reduceIte, if_pos, if_neg]; rfl, by omega, fun i hi => by omega, Or.inr ⟨by simp (disch := omega) only [w32_eq, gI_eq, gB_eq, g0_eq, ix_nat, ix_eq, bd_some, bv_some, Int.toNat_natCast, Int.toNat_zero, sF_1, sF_2, sA_1, sA_2, sR_1, sR_2, ↓reduceIte, if_pos, if_neg], ?_, ?_, 0, (fun _ => 0), ?_⟩⟩⟩
  · unfold fX10_repeal fX10_repeal_L0 fX6_clear fX6_clear_L0
    rw [hX.1]
    simp (disch := omega) only [w32_eq, gI_eq, gB_eq, g0_eq, ix_nat, ix_eq, bd_some, bv_some, Int.toNat_natCast, Int.toNat_zero, sF_1, sF_2, sA_1, sA_2, sR_1, sR_2, ↓reduceIte, if_pos, if_neg]
  · unfold fX11_repeal fX11_repeal_L0
    rw [hX.2.1]
  · simp (disch := omega) only [w32_eq, gI_eq, gB_eq, g0_eq, ix_nat, ix_eq, bd_some, bv_some, Int.toNat_natCast, Int.toNat_zero, sF_1, sF_2, sA_1, sA_2, sR_1, sR_2, ↓reduceIte, if_pos, if_neg]; rfl
  · show (0 : Int) ≠ -1
    decide
  · exact ⟨by simp (disch := omega) only [w32_eq, gI_eq, gB_eq, g0_eq, ix_nat, ix_eq, bd_some, bv_some, Int.toNat_natCast, Int.toNat_zero, sF_1, sF_2, sA_1, sA_2, sR_1, sR_2, ↓reduceIte, if_pos, if_neg]; rfl, rfl, fun h => absurd h (by omega), fun n hn => absurd hn (by omega), Or.inl ⟨by simp (disch := omega) only [w32_eq, gI_eq, gB_eq, g0_eq, ix_nat, ix_eq, bd_some, bv_some, Int.toNat_natCast, Int.toNat_zero, sF_1, sF_2, sA_1, sA_2, sR_1, sR_2, ↓reduceIte, if_pos, if_neg], rfl, fun _ => by simp (disch := omega) only [w32_eq, gI_eq, gB_eq, g0_eq, ix_nat, ix_eq, bd_some, bv_some, Int.toNat_natCast, Int.toNat_zero, sF_1, sF_2, sA_1, sA_2, sR_1, sR_2, ↓reduceIte, if_pos, if_neg], fun n hn => absurd hn (by omega)⟩⟩
end ESTAT
