section EDRAW
variable {σ ρ : St} {R P : Nat}
theorem iI_nat (n : Nat) : iI (n : Int) = nI n := by unfold iI nI; exact Int32.ofInt_eq_ofNat
theorem iRem_nat {a m : Nat} (ha : a < 2 ^ 31) (h0 : 0 < m) (hm : m < 2 ^ 31) : iRem (a : Int) (m : Int) = ((a % m : Nat) : Int) := by
  unfold iRem
  rw [iI_nat, iI_nat, pk_rem ha h0 hm, nI_toInt]
  exact Nat.lt_of_le_of_lt (Nat.mod_le _ _) ha
theorem ushr16 (x : Int) : ∃ a : Nat, a < 65536 ∧ bUshr x 16 = (a : Int) := by
  have h := pk_ushr (iI x) (iI 16) 16 (by decide +kernel)
  refine ⟨(iI x).toBitVec.toNat / 2 ^ 16, by have := (iI x).toBitVec.isLt; omega, ?_⟩
  unfold bUshr
  have h2 : (iI x).toBitVec.toNat < 2 ^ 32 := (iI x).toBitVec.isLt
  unfold Int32.toInt
  rw [BitVec.toInt_eq_toNat_cond, h]
  rw [if_pos (by omega)]
theorem draw_j (x : Int) {i : Nat} (hi : i < 16) : ∃ j : Nat, j ≤ i ∧ iRem (bUshr x 16) ((i : Int) + 1) = (j : Int) := by
  obtain ⟨a, h1, h2⟩ := ushr16 x
  refine ⟨a % (i + 1), by have := Nat.mod_lt a (show 0 < i + 1 by omega); omega, ?_⟩
  rw [h2]
  have e := iRem_nat (a := a) (m := i + 1) (by omega) (by omega) (by omega)
  exact e
theorem shuffle_init (hB : Bs σ R P) : ∀ (n i : Nat) (v : Int) (g : Nat → Int), i ≤ P → P - i < n → fX9_shuffle_L2 n v (i : Int) (sR σ 16 g) = fX9_shuffle_L32 1000 v ((P : Int) - 1) (sR σ 16 (fun k => if i ≤ k ∧ k < P then (k : Int) else g k)) := by
  obtain ⟨b1, b2, b3, b4, b5⟩ := hB
  intro n
  induction n with
  | zero => intro i v g _ h; omega
  | succ n ih =>
    intro i v g hi hn
    have e0 : fX9_shuffle_L2 (n + 1) v (i : Int) (sR σ 16 g) = fX9_shuffle_B2 (fX9_shuffle_L2 n) v (i : Int) (sR σ 16 g) := rfl
    rw [e0]
    unfold fX9_shuffle_B2
    by_cases e : i = P
    · subst e
      simp (disch := omega) only [w32_eq, gI_eq, gB_eq, g0_eq, ix_nat, ix_eq, bd_some, bv_some, Int.toNat_natCast, Int.toNat_zero, sF_1, sF_2, sA_1, sA_2, sR_1, sR_2, ↓reduceIte, if_pos, if_neg, b5]
    · simp (disch := omega) only [w32_eq, gI_eq, gB_eq, g0_eq, ix_nat, ix_eq, bd_some, bv_some, Int.toNat_natCast, Int.toNat_zero, sF_1, sF_2, sA_1, sA_2, sR_1, sR_2, ↓reduceIte, if_pos, if_neg, b5]
      rw [sA_sR]
      refine (ih (i + 1) v _ (by omega) (by omega)).trans ?_
      rw [sR_eq σ 16 (fun k => ?_)]
      by_cases h1 : i + 1 ≤ k ∧ k < P
      · rw [if_pos h1, if_pos (by omega)]
      · rw [if_neg h1]
        by_cases h2 : k = i
        · subst h2; rw [if_pos rfl, if_pos (by omega)]
        · rw [if_neg h2, if_neg (by omega)]
theorem draw_init (h2 : ρ.1 2 = P) (b4 : P ≤ 16) : ∀ (n i : Nat) (v : Int) (g : Nat → Int), i ≤ P → P - i < n → fX11_draw_L4 n v (i : Int) (sR ρ 10 g) = fX11_draw_L32 1000 v ((P : Int) - 1) (sR ρ 10 (fun k => if i ≤ k ∧ k < P then (k : Int) else g k)) := by
  intro n
  induction n with
  | zero => intro i v g _ h; omega
  | succ n ih =>
    intro i v g hi hn
    have e0 : fX11_draw_L4 (n + 1) v (i : Int) (sR ρ 10 g) = fX11_draw_B4 (fX11_draw_L4 n) v (i : Int) (sR ρ 10 g) := rfl
    rw [e0]
    unfold fX11_draw_B4
    by_cases e : i = P
    · subst e
      simp (disch := omega) only [w32_eq, gI_eq, gB_eq, g0_eq, ix_nat, ix_eq, bd_some, bv_some, Int.toNat_natCast, Int.toNat_zero, sF_1, sF_2, sA_1, sA_2, sR_1, sR_2, ↓reduceIte, if_pos, if_neg, h2]
    · simp (disch := omega) only [w32_eq, gI_eq, gB_eq, g0_eq, ix_nat, ix_eq, bd_some, bv_some, Int.toNat_natCast, Int.toNat_zero, sF_1, sF_2, sA_1, sA_2, sR_1, sR_2, ↓reduceIte, if_pos, if_neg, h2]
      rw [sA_sR]
      refine (ih (i + 1) v _ (by omega) (by omega)).trans ?_
      rw [sR_eq ρ 10 (fun k => ?_)]
      by_cases h1 : i + 1 ≤ k ∧ k < P
      · rw [if_pos h1, if_pos (by omega)]
      · rw [if_neg h1]
        by_cases h2 : k = i
        · subst h2; rw [if_pos rfl, if_pos (by omega)]
        · rw [if_neg h2, if_neg (by omega)]
/-- both shuffles, from place i down: the rows stay alike -/
theorem draw_loop (hB : Bs σ R P) (h2 : ρ.1 2 = P) (hP : 0 < P) : ∀ (n i : Nat) (v : Int) (g g' : Nat → Int), i < P → i < n → (∀ k : Nat, k < P → g k = g' k ∧ 0 ≤ g' k ∧ g' k < P) →
    ∃ h h' : Nat → Int, (∀ k : Nat, k < P → h k = h' k ∧ 0 ≤ h' k ∧ h' k < P) ∧ fX9_shuffle_L32 n v (i : Int) (sR σ 16 g) = some (sR σ 16 h) ∧ fX11_draw_L32 n v (i : Int) (sR ρ 10 g') = some (h' 0, sR ρ 10 h') := by
  obtain ⟨b1, b2, b3, b4, b5⟩ := id hB
  intro n
  induction n with
  | zero => intro i v g g' _ h; omega
  | succ n ih =>
    intro i v g g' hi hn hg
    have e0 : fX9_shuffle_L32 (n + 1) v (i : Int) (sR σ 16 g) = fX9_shuffle_B32 (fX9_shuffle_L32 n) v (i : Int) (sR σ 16 g) := rfl
    have e1 : fX11_draw_L32 (n + 1) v (i : Int) (sR ρ 10 g') = fX11_draw_B32 (fX11_draw_L32 n) v (i : Int) (sR ρ 10 g') := rfl
    rw [e0, e1]
    unfold fX9_shuffle_B32 fX11_draw_B32
    by_cases hz : i = 0
    · subst hz
      refine ⟨g, g', hg, ?_, ?_⟩
      · simp (disch := omega) only [w32_eq, gI_eq, gB_eq, g0_eq, ix_nat, ix_eq, bd_some, bv_some, Int.toNat_natCast, Int.toNat_zero, sF_1, sF_2, sA_1, sA_2, sR_1, sR_2, ↓reduceIte, if_pos, if_neg]
      · have : ix 0 = 0 := by simp (disch := omega) only [w32_eq, gI_eq, gB_eq, g0_eq, ix_nat, ix_eq, bd_some, bv_some, Int.toNat_natCast, Int.toNat_zero, sF_1, sF_2, sA_1, sA_2, sR_1, sR_2, ↓reduceIte, if_pos, if_neg]
        simp (disch := omega) only [w32_eq, gI_eq, gB_eq, g0_eq, ix_nat, ix_eq, bd_some, bv_some, Int.toNat_natCast, Int.toNat_zero, sF_1, sF_2, sA_1, sA_2, sR_1, sR_2, ↓reduceIte, if_pos, if_neg, h2, this]
    · obtain ⟨j, hj, ej⟩ := draw_j (1103515245 * v + 12345) (i := i) (by omega)
      rw [ej]
      have hBs : Bs (sR σ 16 g) R P := hB
      have es : fX9_swap (sR σ 16 g) (i : Int) (j : Int) = some (sR σ 16 (fun k => if k = j then g i else if k = i then g j else g k)) := by
        unfold fX9_swap fX9_swap_L0
        simp (disch := omega) only [w32_eq, gI_eq, gB_eq, g0_eq, ix_nat, ix_eq, bd_some, bv_some, Int.toNat_natCast, Int.toNat_zero, sF_1, sF_2, sA_1, sA_2, sR_1, sR_2, ↓reduceIte, if_pos, if_neg, turnHas_t hBs (v := (i : Int)) (by omega), turnHas_t hBs (v := (j : Int)) (by omega)]
        rw [sA_sR, sA_sR]
      rw [es]
      obtain ⟨h, h', q1, q2, q3⟩ := ih (i - 1) (1103515245 * v + 12345) (fun k => if k = j then g i else if k = i then g j else g k) (fun k => if k = j then g' i else if k = i then g' j else g' k) (by omega) (by omega) (fun k hk => by
        have a1 := hg i hi
        have a2 := hg j (by omega)
        have a3 := hg k hk
        by_cases c1 : k = j
        · simp only [if_pos c1]; exact a1
        · by_cases c2 : k = i
          · simp only [if_neg c1, if_pos c2]; exact a2
          · simp only [if_neg c1, if_neg c2]; exact a3)
      have ei : (i : Int) + (-1) = ((i - 1 : Nat) : Int) := by omega
      refine ⟨h, h', q1, ?_, ?_⟩
      · simp (disch := omega) only [w32_eq, gI_eq, gB_eq, g0_eq, ix_nat, ix_eq, bd_some, bv_some, Int.toNat_natCast, Int.toNat_zero, sF_1, sF_2, sA_1, sA_2, sR_1, sR_2, ↓reduceIte, if_pos, if_neg]
        rw [ei]; exact q2
      · simp (disch := omega) only [w32_eq, gI_eq, gB_eq, g0_eq, ix_nat, ix_eq, bd_some, bv_some, Int.toNat_natCast, Int.toNat_zero, sF_1, sF_2, sA_1, sA_2, sR_1, sR_2, ↓reduceIte, if_pos, if_neg]
        rw [sA_sR, sA_sR, ei]; exact q3
theorem op_draw (h : Inv σ ρ) {a : Int} (ha : rg a) : Op (fX10_draw σ a) (fX11_draw ρ a) := by
  have hI := h
  obtain ⟨R, P, N, T, B, hB, hR, hS, hP, hW, hL, hK, hT, hD, hN, hQ, hX⟩ := h
  obtain ⟨b1, b2, b3, b4, b5⟩ := id hB
  have s1 := shuffle_init hB 1000 0 a (σ.2 16) (by omega) (by omega)
  have s2 := draw_init hP.1 b4 1000 0 a (ρ.2 10) (by omega) (by omega)
  rw [sR_self] at s1 s2
  unfold fX10_draw fX10_draw_L0 fX11_draw fX11_draw_L0 fX9_shuffle fX9_shuffle_L0
  rw [show (0 : Int) = ((0 : Nat) : Int) from rfl, s1, s2]
  by_cases hp0 : P = 0
  · subst hp0
    refine ⟨-1, sR σ 16 (fun k => if 0 ≤ k ∧ k < 0 then (k : Int) else σ.2 16 k), sR ρ 10 (fun k => if 0 ≤ k ∧ k < 0 then (k : Int) else ρ.2 10 k), ?_, ?_, ?_⟩
    · have e0 : ∀ s : St, fX9_shuffle_L32 1000 a (((0 : Nat) : Int) - 1) s = fX9_shuffle_B32 (fX9_shuffle_L32 999) a (((0 : Nat) : Int) - 1) s := fun _ => rfl
      rw [e0]
      unfold fX9_shuffle_B32
      have hBs : ∀ g : Nat → Int, Bs (sR σ 16 g) R 0 := fun g => hB
      simp (disch := omega) only [w32_eq, gI_eq, gB_eq, g0_eq, ix_nat, ix_eq, bd_some, bv_some, Int.toNat_natCast, Int.toNat_zero, sF_1, sF_2, sA_1, sA_2, sR_1, sR_2, ↓reduceIte, if_pos, if_neg]
      rw [show (((0 : Nat) : Int)) = 0 from rfl, turnAt_f (hBs _) rfl]
      simp (disch := omega) only [w32_eq, gI_eq, gB_eq, g0_eq, ix_nat, ix_eq, bd_some, bv_some, Int.toNat_natCast, Int.toNat_zero, sF_1, sF_2, sA_1, sA_2, sR_1, sR_2, ↓reduceIte, if_pos, if_neg]
    · have e0 : ∀ s : St, fX11_draw_L32 1000 a (((0 : Nat) : Int) - 1) s = fX11_draw_B32 (fX11_draw_L32 999) a (((0 : Nat) : Int) - 1) s := fun _ => rfl
      rw [e0]
      unfold fX11_draw_B32
      have p1 := hP.1
      simp (disch := omega) only [w32_eq, gI_eq, gB_eq, g0_eq, ix_nat, ix_eq, bd_some, bv_some, Int.toNat_natCast, Int.toNat_zero, sF_1, sF_2, sA_1, sA_2, sR_1, sR_2, ↓reduceIte, if_pos, if_neg, p1]
    · exact ⟨R, 0, N, T, B, hB, hR, hS, hP, hW, hL, hK, fun i hi => absurd hi (by omega), hD, hN, hQ, hX⟩
  · obtain ⟨g, g', q1, q2, q3⟩ := draw_loop hB hP.1 (by omega) 1000 (P - 1) a (fun k => if 0 ≤ k ∧ k < P then (k : Int) else σ.2 16 k) (fun k => if 0 ≤ k ∧ k < P then (k : Int) else ρ.2 10 k) (by omega) (by omega) (fun k hk => by
      simp only [if_pos (show 0 ≤ k ∧ k < P by omega)]; exact ⟨trivial, by omega, by omega⟩)
    have ei : (P : Int) - 1 = ((P - 1 : Nat) : Int) := by omega
    rw [ei, q2, q3]
    have hBs : Bs (sR σ 16 g) R P := hB
    have q0 := q1 0 (by omega)
    refine ⟨g' 0, sR σ 16 g, sR ρ 10 g', ?_, rfl, ?_⟩
    · rw [bv_some, turnAt_t hBs (by omega), bd_some]
      simp (disch := omega) only [w32_eq, gI_eq, gB_eq, g0_eq, ix_nat, ix_eq, bd_some, bv_some, Int.toNat_natCast, Int.toNat_zero, sF_1, sF_2, sA_1, sA_2, sR_1, sR_2, ↓reduceIte, if_pos, if_neg]
      rw [q0.1]
    · refine ⟨R, P, N, T, B, hB, hR, hS, hP, hW, hL, hK, fun i hi => ?_, hD, hN, hQ, hX⟩
      have := q1 i hi
      simp (disch := omega) only [w32_eq, gI_eq, gB_eq, g0_eq, ix_nat, ix_eq, bd_some, bv_some, Int.toNat_natCast, Int.toNat_zero, sF_1, sF_2, sA_1, sA_2, sR_1, sR_2, ↓reduceIte, if_pos, if_neg]; exact this
end EDRAW
