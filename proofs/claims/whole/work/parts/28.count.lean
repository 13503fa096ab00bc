section ECOUNT
variable {σ ρ : St} {R P : Nat}
theorem tb_lt256 {x : Int} (h : 0 ≤ x ∧ x < 256) {k : Nat} (hk : 8 ≤ k) : tb x k = false := by
  by_cases hk2 : k < 32
  · have key : ∀ a : Fin 256, ∀ b : Fin 32, 8 ≤ b.val → tb (a.val : Int) b.val = false := by decide +kernel
    obtain ⟨n, rfl⟩ : ∃ n : Nat, x = n := ⟨x.toNat, by omega⟩
    exact key ⟨n, by omega⟩ ⟨k, hk2⟩ hk
  · exact tb_big x (by omega)
/-- a mask of bits below k is small -/
theorem lt256_of_tb {x : Int} (hx : rg x) (h : ∀ k : Nat, 8 ≤ k → k < 32 → tb x k = false) : 0 ≤ x ∧ x < 256 := by
  unfold rg at hx
  have h1 : (iI x).toBitVec.toNat < 2 ^ 8 := by
    have : (iI x).toBitVec = (iI x).toBitVec &&& 255#32 := by
      apply BitVec.eq_of_getLsbD_eq
      intro i hi
      rw [BitVec.getLsbD_and]
      by_cases h8 : i < 8
      · have : ∀ j : Fin 8, (255#32).getLsbD j.val = true := by decide
        rw [this ⟨i, h8⟩, Bool.and_true]
      · have e := h i (by omega) hi
        unfold tb at e
        rw [e, Bool.false_and]
    rw [this, BitVec.toNat_and]
    exact Nat.lt_of_le_of_lt Nat.and_le_right (by decide)
  have h2 : (iI x).toInt = ((iI x).toBitVec.toNat : Int) := by
    unfold Int32.toInt
    rw [BitVec.toInt_eq_toNat_cond, if_pos (by omega)]
  rw [iI_toInt, w32_eq hx] at h2
  omega
theorem op_license (h : Inv σ ρ) {a : Int} (ha : rg a) : Op (fX10_license σ a) (fX11_license ρ a) := by
  have hI := h
  obtain ⟨R, P, N, T, B, hB, hR, hS, hP, hW, hL, hK, hT, hD, hN, hQ, hX⟩ := h
  unfold rg at ha
  obtain ⟨s1, s2, s3⟩ := id hS
  unfold fX10_license fX10_license_L0 fX11_license fX11_license_L0
  by_cases h1 : 0 ≤ a ∧ a ≤ 7
  · obtain ⟨q, rfl⟩ : ∃ q : Nat, a = q := ⟨a.toNat, by omega⟩
    rw [within_eq σ ha (by omega) (by omega), bd_some, isStruck_t (by omega), bd_some, w32_eq ha, in_eq ρ ha (by omega) (by omega), bd_some, w32_bAnd, bShr_bit _ (by omega), s1]
    by_cases ht : tb (ρ.1 1) q = true
    · refine ⟨1, sF σ 1 (bAnd (ρ.1 1) (bXor (bShl 1 (q : Int)) (-1))), sF ρ 1 (bAnd (ρ.1 1) (bXor (bShl 1 (q : Int)) (-1))), ?_, ?_, ?_⟩
      · simp (disch := omega) only [w32_eq, gI_eq, gB_eq, g0_eq, ix_nat, ix_eq, bd_some, bv_some, Int.toNat_natCast, Int.toNat_zero, sF_1, sF_2, sA_1, sA_2, sR_1, sR_2, ↓reduceIte, if_pos, if_neg, ht, s1]
      · simp (disch := omega) only [w32_eq, gI_eq, gB_eq, g0_eq, ix_nat, ix_eq, bd_some, bv_some, Int.toNat_natCast, Int.toNat_zero, sF_1, sF_2, sA_1, sA_2, sR_1, sR_2, ↓reduceIte, if_pos, if_neg, ht]
      · refine ⟨R, P, N, T, B, hB, hR, ⟨rfl, ?_⟩, hP, hW, hL, hK, hT, hD, hN, hQ, hX⟩
        show 0 ≤ bAnd (ρ.1 1) (bXor (bShl 1 (q : Int)) (-1)) ∧ _
        refine lt256_of_tb (by unfold rg; have := w32_rng (bAnd (ρ.1 1) (bXor (bShl 1 (q : Int)) (-1))); rw [w32_bAnd] at this; exact this) (fun k h8 h32 => ?_)
        rw [tb_and, tb_lt256 ⟨s2, s3⟩ h8, Bool.false_and]
    · have ht : tb (ρ.1 1) q = false := by simpa using ht
      exact ⟨-3, σ, ρ, by simp (disch := omega) only [w32_eq, gI_eq, gB_eq, g0_eq, ix_nat, ix_eq, bd_some, bv_some, Int.toNat_natCast, Int.toNat_zero, sF_1, sF_2, sA_1, sA_2, sR_1, sR_2, ↓reduceIte, if_pos, if_neg, ht, Bool.false_eq_true], by simp (disch := omega) only [w32_eq, gI_eq, gB_eq, g0_eq, ix_nat, ix_eq, bd_some, bv_some, Int.toNat_natCast, Int.toNat_zero, sF_1, sF_2, sA_1, sA_2, sR_1, sR_2, ↓reduceIte, if_pos, if_neg, ht, Bool.false_eq_true], hI⟩
  · rw [within_eq σ ha (by omega) (by omega), w32_eq ha, in_eq ρ ha (by omega) (by omega)]
    exact ⟨-2, σ, ρ, by simp (disch := omega) only [w32_eq, gI_eq, gB_eq, g0_eq, ix_nat, ix_eq, bd_some, bv_some, Int.toNat_natCast, Int.toNat_zero, sF_1, sF_2, sA_1, sA_2, sR_1, sR_2, ↓reduceIte, if_pos, if_neg], by simp (disch := omega) only [w32_eq, gI_eq, gB_eq, g0_eq, ix_nat, ix_eq, bd_some, bv_some, Int.toNat_natCast, Int.toNat_zero, sF_1, sF_2, sA_1, sA_2, sR_1, sR_2, ↓reduceIte, if_pos, if_neg], hI⟩
/-- how many PEOPLE among the first have a ROOM -/
def hsd (f : Nat → Int) : Nat → Int
  | 0 => 0
  | k + 1 => if f k = -1 then hsd f k else hsd f k + 1
theorem hsd_succ (f : Nat → Int) (k : Nat) : hsd f (k + 1) = if f k = -1 then hsd f k else hsd f k + 1 := rfl
theorem housedC_loop (hB : Bs σ R P) (hL : ∀ p : Nat, p < P → rg (σ.2 9 p)) : ∀ (n i : Nat), i ≤ P → P - i < n → fX3_housed_L4 n (hsd (σ.2 9) i) (i : Int) σ = some (hsd (σ.2 9) P, σ) := by
  obtain ⟨b1, b2, b3, b4, b5⟩ := id hB
  intro n
  induction n with
  | zero => intro i _ h; omega
  | succ n ih =>
    intro i hi hn
    have e0 : fX3_housed_L4 (n + 1) (hsd (σ.2 9) i) (i : Int) σ = fX3_housed_B4 (fX3_housed_L4 n) (hsd (σ.2 9) i) (i : Int) σ := rfl
    rw [e0]
    unfold fX3_housed_B4
    by_cases e : i = P
    · subst e; simp (disch := omega) only [w32_eq, gI_eq, gB_eq, g0_eq, ix_nat, ix_eq, bd_some, bv_some, Int.toNat_natCast, Int.toNat_zero, sF_1, sF_2, sA_1, sA_2, sR_1, sR_2, ↓reduceIte, if_pos, if_neg, b3]
    · have h1 := hL i (by omega)
      unfold rg at h1
      have ih1 := ih (i + 1) (by omega) (by omega)
      simp (disch := omega) only [w32_eq, gI_eq, gB_eq, g0_eq, ix_nat, ix_eq, bd_some, bv_some, Int.toNat_natCast, Int.toNat_zero, sF_1, sF_2, sA_1, sA_2, sR_1, sR_2, ↓reduceIte, if_pos, if_neg, b3]
      rw [hsd_succ] at ih1
      by_cases e2 : σ.2 9 i = -1
      · rw [if_pos e2] at ih1 ⊢; exact ih1
      · rw [if_neg e2] at ih1 ⊢; exact ih1
theorem housedR_loop (h2 : ρ.1 2 = P) (b4 : P ≤ 16) (hL : ∀ p : Nat, p < P → rg (ρ.2 7 p)) : ∀ (n i : Nat), i ≤ P → P - i < n → fX11_housed_L4 n (hsd (ρ.2 7) i) (i : Int) ρ = some (hsd (ρ.2 7) P, ρ) := by
  intro n
  induction n with
  | zero => intro i _ h; omega
  | succ n ih =>
    intro i hi hn
    have e0 : fX11_housed_L4 (n + 1) (hsd (ρ.2 7) i) (i : Int) ρ = fX11_housed_B4 (fX11_housed_L4 n) (hsd (ρ.2 7) i) (i : Int) ρ := rfl
    rw [e0]
    unfold fX11_housed_B4
    by_cases e : i = P
    · subst e; simp (disch := omega) only [w32_eq, gI_eq, gB_eq, g0_eq, ix_nat, ix_eq, bd_some, bv_some, Int.toNat_natCast, Int.toNat_zero, sF_1, sF_2, sA_1, sA_2, sR_1, sR_2, ↓reduceIte, if_pos, if_neg, h2]
    · have h1 := hL i (by omega)
      unfold rg at h1
      have ih1 := ih (i + 1) (by omega) (by omega)
      simp (disch := omega) only [w32_eq, gI_eq, gB_eq, g0_eq, ix_nat, ix_eq, bd_some, bv_some, Int.toNat_natCast, Int.toNat_zero, sF_1, sF_2, sA_1, sA_2, sR_1, sR_2, ↓reduceIte, if_pos, if_neg, h2]
      rw [hsd_succ] at ih1
      by_cases e2 : ρ.2 7 i = -1
      · rw [if_pos e2] at ih1 ⊢; rw [Int.add_zero]; exact ih1
      · rw [if_neg e2] at ih1 ⊢; exact ih1
theorem hsd_congr {f g : Nat → Int} : ∀ {n : Nat}, (∀ k : Nat, k < n → f k = g k) → hsd f n = hsd g n
  | 0, _ => rfl
  | n + 1, h => by
    unfold hsd
    rw [hsd_congr (fun k hk => h k (by omega)), h n (by omega)]
theorem housed_eq (hB : Bs σ R P) (hP : IP σ ρ P) (hL : IL σ ρ R P) : fX3_housed σ = some (hsd (ρ.2 7) P, σ) ∧ fX11_housed ρ = some (hsd (ρ.2 7) P, ρ) := by
  obtain ⟨b1, b2, b3, b4, b5⟩ := id hB
  have r1 : ∀ p : Nat, p < P → rg (ρ.2 7 p) := fun p hp => by have := hL.1 p hp; unfold rg; omega
  have r2 : ∀ p : Nat, p < P → rg (σ.2 9 p) := fun p hp => by rw [(hL.1 p hp).1]; exact r1 p hp
  have c1 := housedC_loop hB r2 1000 0 (by omega) (by omega)
  have c2 := housedR_loop hP.1 b4 r1 1000 0 (by omega) (by omega)
  rw [show hsd (σ.2 9) P = hsd (ρ.2 7) P from hsd_congr (fun k hk => (hL.1 k hk).1)] at c1
  exact ⟨c1, c2⟩
def cbit (x : Int) : Nat → Int
  | 0 => 0
  | k + 1 => cbit x k + bAnd (bShr x (k : Int)) 1
theorem cbit_loop : ∀ (n i : Nat), i ≤ 8 → 8 - i < n → fX11_count_L61 n (cbit (ρ.1 1) i) (i : Int) ρ = some (cbit (ρ.1 1) 8, ρ) := by
  intro n
  induction n with
  | zero => intro i _ h; omega
  | succ n ih =>
    intro i hi hn
    have e0 : fX11_count_L61 (n + 1) (cbit (ρ.1 1) i) (i : Int) ρ = fX11_count_B61 (fX11_count_L61 n) (cbit (ρ.1 1) i) (i : Int) ρ := rfl
    rw [e0]
    unfold fX11_count_B61
    by_cases e : i = 8
    · subst e; simp (disch := omega) only [w32_eq, gI_eq, gB_eq, g0_eq, ix_nat, ix_eq, bd_some, bv_some, Int.toNat_natCast, Int.toNat_zero, sF_1, sF_2, sA_1, sA_2, sR_1, sR_2, ↓reduceIte, if_pos, if_neg]
    · have ih1 := ih (i + 1) (by omega) (by omega)
      simp (disch := omega) only [w32_eq, gI_eq, gB_eq, g0_eq, ix_nat, ix_eq, bd_some, bv_some, Int.toNat_natCast, Int.toNat_zero, sF_1, sF_2, sA_1, sA_2, sR_1, sR_2, ↓reduceIte, if_pos, if_neg]
      exact ih1
theorem bitCount_eq (σ : St) {x : Int} (h : 0 ≤ x ∧ x < 256) : fJ6_bitCount_0f7a4 σ x = some (cbit x 8, σ) := by
  obtain ⟨n, rfl⟩ : ∃ n : Nat, x = n := ⟨x.toNat, by omega⟩
  have key : ∀ a : Fin 256, (fJ6_bitCount_0f7a4_L0 (a.val : Int) ((fun _ => 0), (fun _ _ => 0))).map Prod.fst = some (cbit (a.val : Int) 8) := by decide +kernel
  have k1 : (fJ6_bitCount_0f7a4_L0 (n : Int) ((fun _ => 0), (fun _ _ => 0))).map Prod.fst = some (cbit (n : Int) 8) := key ⟨n, by omega⟩
  have k3 : ∀ (s t : St), (fJ6_bitCount_0f7a4_L0 (n : Int) s).map Prod.fst = (fJ6_bitCount_0f7a4_L0 (n : Int) t).map Prod.fst := fun _ _ => rfl
  have k4 : ∀ s : St, ∃ z, fJ6_bitCount_0f7a4_L0 (n : Int) s = some (z, s) := fun s => ⟨_, rfl⟩
  obtain ⟨z, hz⟩ := k4 σ
  rw [k3 _ σ, hz] at k1
  unfold fJ6_bitCount_0f7a4
  rw [hz, show z = cbit (n : Int) 8 from Option.some.inj k1]
theorem op_count (h : Inv σ ρ) {a : Int} (ha : rg a) : ∃ r : Int, fX10_count σ a = some (r, σ) ∧ fX11_count ρ a = some (r, ρ) := by
  obtain ⟨R, P, N, T, B, hB, hR, hS, hP, hW, hL, hK, hT, hD, hN, hQ, hX⟩ := h
  unfold rg at ha
  obtain ⟨s1, s2, s3⟩ := id hS
  obtain ⟨b1, b2, b3, b4, b5⟩ := id hB
  have r1 := hR.1
  have p1 := hP.1
  have n1 := hN.1
  have n2 := hN.2.1
  have t1 := hQ.1
  have t2 := hQ.2.1
  have x1 := hX.1
  have x2 := hX.2.1
  obtain ⟨c1, c2⟩ := housed_eq hB hP hL
  unfold fX10_count fX10_count_L0 fX11_count fX11_count_L0
  by_cases e0 : a = 0
  · exact ⟨R, by simp (disch := omega) only [w32_eq, gI_eq, gB_eq, g0_eq, ix_nat, ix_eq, bd_some, bv_some, Int.toNat_natCast, Int.toNat_zero, sF_1, sF_2, sA_1, sA_2, sR_1, sR_2, ↓reduceIte, if_pos, if_neg, b1], by simp (disch := omega) only [w32_eq, gI_eq, gB_eq, g0_eq, ix_nat, ix_eq, bd_some, bv_some, Int.toNat_natCast, Int.toNat_zero, sF_1, sF_2, sA_1, sA_2, sR_1, sR_2, ↓reduceIte, if_pos, if_neg, r1]⟩
  by_cases e1 : a = 1
  · exact ⟨P, by simp (disch := omega) only [w32_eq, gI_eq, gB_eq, g0_eq, ix_nat, ix_eq, bd_some, bv_some, Int.toNat_natCast, Int.toNat_zero, sF_1, sF_2, sA_1, sA_2, sR_1, sR_2, ↓reduceIte, if_pos, if_neg, b3], by simp (disch := omega) only [w32_eq, gI_eq, gB_eq, g0_eq, ix_nat, ix_eq, bd_some, bv_some, Int.toNat_natCast, Int.toNat_zero, sF_1, sF_2, sA_1, sA_2, sR_1, sR_2, ↓reduceIte, if_pos, if_neg, p1]⟩
  by_cases e2 : a = 2
  · exact ⟨B, by simp (disch := omega) only [w32_eq, gI_eq, gB_eq, g0_eq, ix_nat, ix_eq, bd_some, bv_some, Int.toNat_natCast, Int.toNat_zero, sF_1, sF_2, sA_1, sA_2, sR_1, sR_2, ↓reduceIte, if_pos, if_neg, x1], by simp (disch := omega) only [w32_eq, gI_eq, gB_eq, g0_eq, ix_nat, ix_eq, bd_some, bv_some, Int.toNat_natCast, Int.toNat_zero, sF_1, sF_2, sA_1, sA_2, sR_1, sR_2, ↓reduceIte, if_pos, if_neg, x2]⟩
  by_cases e3 : a = 3
  · refine ⟨cbit (ρ.1 1) 8, ?_, ?_⟩
    · rw [s1, bitCount_eq σ ⟨s2, s3⟩]
      simp (disch := omega) only [w32_eq, gI_eq, gB_eq, g0_eq, ix_nat, ix_eq, bd_some, bv_some, Int.toNat_natCast, Int.toNat_zero, sF_1, sF_2, sA_1, sA_2, sR_1, sR_2, ↓reduceIte, if_pos, if_neg]
    · have := cbit_loop (ρ := ρ) 1000 0 (by omega) (by omega)
      rw [show fX11_count_L61 1000 0 0 ρ = some (cbit (ρ.1 1) 8, ρ) from this]
      simp (disch := omega) only [w32_eq, gI_eq, gB_eq, g0_eq, ix_nat, ix_eq, bd_some, bv_some, Int.toNat_natCast, Int.toNat_zero, sF_1, sF_2, sA_1, sA_2, sR_1, sR_2, ↓reduceIte, if_pos, if_neg]
  by_cases e4 : a = 4
  · exact ⟨N, by simp (disch := omega) only [w32_eq, gI_eq, gB_eq, g0_eq, ix_nat, ix_eq, bd_some, bv_some, Int.toNat_natCast, Int.toNat_zero, sF_1, sF_2, sA_1, sA_2, sR_1, sR_2, ↓reduceIte, if_pos, if_neg, n1], by simp (disch := omega) only [w32_eq, gI_eq, gB_eq, g0_eq, ix_nat, ix_eq, bd_some, bv_some, Int.toNat_natCast, Int.toNat_zero, sF_1, sF_2, sA_1, sA_2, sR_1, sR_2, ↓reduceIte, if_pos, if_neg, n2]⟩
  by_cases e5 : a = 5
  · exact ⟨T, by simp (disch := omega) only [w32_eq, gI_eq, gB_eq, g0_eq, ix_nat, ix_eq, bd_some, bv_some, Int.toNat_natCast, Int.toNat_zero, sF_1, sF_2, sA_1, sA_2, sR_1, sR_2, ↓reduceIte, if_pos, if_neg, t1], by simp (disch := omega) only [w32_eq, gI_eq, gB_eq, g0_eq, ix_nat, ix_eq, bd_some, bv_some, Int.toNat_natCast, Int.toNat_zero, sF_1, sF_2, sA_1, sA_2, sR_1, sR_2, ↓reduceIte, if_pos, if_neg, t2]⟩
  by_cases e6 : a = 6
  · exact ⟨hsd (ρ.2 7) P, by simp (disch := omega) only [w32_eq, gI_eq, gB_eq, g0_eq, ix_nat, ix_eq, bd_some, bv_some, Int.toNat_natCast, Int.toNat_zero, sF_1, sF_2, sA_1, sA_2, sR_1, sR_2, ↓reduceIte, if_pos, if_neg, c1], by simp (disch := omega) only [w32_eq, gI_eq, gB_eq, g0_eq, ix_nat, ix_eq, bd_some, bv_some, Int.toNat_natCast, Int.toNat_zero, sF_1, sF_2, sA_1, sA_2, sR_1, sR_2, ↓reduceIte, if_pos, if_neg, c2]⟩
  · exact ⟨-2, by simp (disch := omega) only [w32_eq, gI_eq, gB_eq, g0_eq, ix_nat, ix_eq, bd_some, bv_some, Int.toNat_natCast, Int.toNat_zero, sF_1, sF_2, sA_1, sA_2, sR_1, sR_2, ↓reduceIte, if_pos, if_neg], by simp (disch := omega) only [w32_eq, gI_eq, gB_eq, g0_eq, ix_nat, ix_eq, bd_some, bv_some, Int.toNat_natCast, Int.toNat_zero, sF_1, sF_2, sA_1, sA_2, sR_1, sR_2, ↓reduceIte, if_pos, if_neg]⟩
end ECOUNT
