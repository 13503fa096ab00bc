section EDIGEST
variable {σ ρ : St}
theorem dg4 (h : Inv σ ρ) : ∀ (n m i : Nat) (d : Int), i ≤ 3 → 3 - i < n → 3 - i < m → ∃ r : Int, fX10_digest_L130 n d (i : Int) σ = some (r, σ) ∧ fX11_digest_L123 m d (i : Int) ρ = some (r, ρ) := by
  intro n
  induction n with
  | zero => intro m i d _ h; omega
  | succ n ih =>
    intro m i d hi hn hm
    obtain ⟨m, rfl⟩ : ∃ m' : Nat, m = m' + 1 := ⟨m - 1, by omega⟩
    have e0 : fX10_digest_L130 (n + 1) d (i : Int) σ = fX10_digest_B130 (fX10_digest_L130 n) d (i : Int) σ := rfl
    have e1 : fX11_digest_L123 (m + 1) d (i : Int) ρ = fX11_digest_B123 (fX11_digest_L123 m) d (i : Int) ρ := rfl
    rw [e0, e1]
    unfold fX10_digest_B130 fX11_digest_B123
    by_cases e : i = 3
    · exact ⟨d, by simp (disch := omega) only [w32_eq, gI_eq, gB_eq, g0_eq, ix_nat, ix_eq, bd_some, bv_some, Int.toNat_natCast, Int.toNat_zero, sF_1, sF_2, sA_1, sA_2, sR_1, sR_2, ↓reduceIte, if_pos, if_neg], by simp (disch := omega) only [w32_eq, gI_eq, gB_eq, g0_eq, ix_nat, ix_eq, bd_some, bv_some, Int.toNat_natCast, Int.toNat_zero, sF_1, sF_2, sA_1, sA_2, sR_1, sR_2, ↓reduceIte, if_pos, if_neg]⟩
    · obtain ⟨r, q1, q2⟩ := op_traded0 h (a := (i : Int)) (by unfold rg; omega)
      obtain ⟨z, z1, z2⟩ := ih m (i + 1) (31 * d + w32 r) (by omega) (by omega) (by omega)
      have q3 : r = ρ.2 12 i := by
        unfold fX11_traded fX11_traded_L0 at q2
        revert q2
        simp (disch := omega) only [w32_eq, gI_eq, gB_eq, g0_eq, ix_nat, ix_eq, bd_some, bv_some, Int.toNat_natCast, Int.toNat_zero, sF_1, sF_2, sA_1, sA_2, sR_1, sR_2, ↓reduceIte, if_pos, if_neg, in_eq]
        intro q2
        exact (congrArg Prod.fst (Option.some.inj q2)).symm
      refine ⟨z, ?_, ?_⟩
      · simp (disch := omega) only [w32_eq, gI_eq, gB_eq, g0_eq, ix_nat, ix_eq, bd_some, bv_some, Int.toNat_natCast, Int.toNat_zero, sF_1, sF_2, sA_1, sA_2, sR_1, sR_2, ↓reduceIte, if_pos, if_neg]
        rw [q1, bd_some]
        exact z1
      · simp (disch := omega) only [w32_eq, gI_eq, gB_eq, g0_eq, ix_nat, ix_eq, bd_some, bv_some, Int.toNat_natCast, Int.toNat_zero, sF_1, sF_2, sA_1, sA_2, sR_1, sR_2, ↓reduceIte, if_pos, if_neg]
        rw [← q3]
        exact z2
theorem dg3 (h : Inv σ ρ) {P : Nat} (hP9 : σ.1 9 = P) (hP2 : ρ.1 2 = P) (hP16 : P ≤ 16) (hat : ∀ i : Nat, i < P → fX9_at σ (i : Int) = some (ρ.2 10 i, σ)) : ∀ (n m i : Nat) (d : Int), i ≤ P → P - i < n → P - i < m → ∃ r : Int, fX10_digest_L95 n d (i : Int) σ = some (r, σ) ∧ fX11_digest_L93 m d (i : Int) ρ = some (r, ρ) := by
  intro n
  induction n with
  | zero => intro m i d _ h; omega
  | succ n ih =>
    intro m i d hi hn hm
    obtain ⟨m, rfl⟩ : ∃ m' : Nat, m = m' + 1 := ⟨m - 1, by omega⟩
    have e0 : fX10_digest_L95 (n + 1) d (i : Int) σ = fX10_digest_B95 (fX10_digest_L95 n) d (i : Int) σ := rfl
    have e1 : fX11_digest_L93 (m + 1) d (i : Int) ρ = fX11_digest_B93 (fX11_digest_L93 m) d (i : Int) ρ := rfl
    rw [e0, e1]
    unfold fX10_digest_B95 fX11_digest_B93
    by_cases e : i = P
    · obtain ⟨z, z1, z2⟩ := dg4 h 1000 1000 0 d (by omega) (by omega) (by omega)
      refine ⟨z, ?_, ?_⟩
      · simp (disch := omega) only [w32_eq, gI_eq, gB_eq, g0_eq, ix_nat, ix_eq, bd_some, bv_some, Int.toNat_natCast, Int.toNat_zero, sF_1, sF_2, sA_1, sA_2, sR_1, sR_2, ↓reduceIte, if_pos, if_neg, hP9]; exact z1
      · simp (disch := omega) only [w32_eq, gI_eq, gB_eq, g0_eq, ix_nat, ix_eq, bd_some, bv_some, Int.toNat_natCast, Int.toNat_zero, sF_1, sF_2, sA_1, sA_2, sR_1, sR_2, ↓reduceIte, if_pos, if_neg, hP2]; exact z2
    · obtain ⟨z, z1, z2⟩ := ih m (i + 1) (31 * d + w32 (ρ.2 10 i)) (by omega) (by omega) (by omega)
      refine ⟨z, ?_, ?_⟩
      · simp (disch := omega) only [w32_eq, gI_eq, gB_eq, g0_eq, ix_nat, ix_eq, bd_some, bv_some, Int.toNat_natCast, Int.toNat_zero, sF_1, sF_2, sA_1, sA_2, sR_1, sR_2, ↓reduceIte, if_pos, if_neg, hP9]
        rw [hat i (by omega), bd_some]
        exact z1
      · simp (disch := omega) only [w32_eq, gI_eq, gB_eq, g0_eq, ix_nat, ix_eq, bd_some, bv_some, Int.toNat_natCast, Int.toNat_zero, sF_1, sF_2, sA_1, sA_2, sR_1, sR_2, ↓reduceIte, if_pos, if_neg, hP2]
        exact z2
theorem dg2i (h : Inv σ ρ) {p : Nat} (hp : p < 16) (k k' : Int → Int → St → Option (Int × St)) (hk : ∀ d : Int, ∃ r : Int, k d ((p : Int) + 1) σ = some (r, σ) ∧ k' d ((p : Int) + 1) ρ = some (r, ρ)) : ∀ (n m i : Nat) (d : Int), i ≤ 6 → 6 - i < n → 6 - i < m → ∃ r : Int, fX10_digest_L47 k n d (p : Int) (i : Int) σ = some (r, σ) ∧ fX11_digest_L44 k' m d (p : Int) (i : Int) ρ = some (r, ρ) := by
  intro n
  induction n with
  | zero => intro m i d _ h; omega
  | succ n ih =>
    intro m i d hi hn hm
    obtain ⟨m, rfl⟩ : ∃ m' : Nat, m = m' + 1 := ⟨m - 1, by omega⟩
    have e0 : fX10_digest_L47 k (n + 1) d (p : Int) (i : Int) σ = fX10_digest_B47 k (fX10_digest_L47 k n) d (p : Int) (i : Int) σ := rfl
    have e1 : fX11_digest_L44 k' (m + 1) d (p : Int) (i : Int) ρ = fX11_digest_B44 k' (fX11_digest_L44 k' m) d (p : Int) (i : Int) ρ := rfl
    rw [e0, e1]
    unfold fX10_digest_B47 fX11_digest_B44
    by_cases e : i = 6
    · obtain ⟨r, q1, q2⟩ := op_bill0 h (a := (p : Int)) (by unfold rg; omega)
      obtain ⟨z, z1, z2⟩ := hk (31 * d + w32 r)
      refine ⟨z, ?_, ?_⟩
      · simp (disch := omega) only [w32_eq, gI_eq, gB_eq, g0_eq, ix_nat, ix_eq, bd_some, bv_some, Int.toNat_natCast, Int.toNat_zero, sF_1, sF_2, sA_1, sA_2, sR_1, sR_2, ↓reduceIte, if_pos, if_neg]
        rw [q1, bd_some]; exact z1
      · simp (disch := omega) only [w32_eq, gI_eq, gB_eq, g0_eq, ix_nat, ix_eq, bd_some, bv_some, Int.toNat_natCast, Int.toNat_zero, sF_1, sF_2, sA_1, sA_2, sR_1, sR_2, ↓reduceIte, if_pos, if_neg]
        rw [q2, bd_some]; exact z2
    · obtain ⟨r, q1, q2⟩ := op_about0 h (a := (p : Int)) (b := (i : Int)) (by unfold rg; omega) (by unfold rg; omega)
      obtain ⟨z, z1, z2⟩ := ih m (i + 1) (31 * d + w32 r) (by omega) (by omega) (by omega)
      refine ⟨z, ?_, ?_⟩
      · simp (disch := omega) only [w32_eq, gI_eq, gB_eq, g0_eq, ix_nat, ix_eq, bd_some, bv_some, Int.toNat_natCast, Int.toNat_zero, sF_1, sF_2, sA_1, sA_2, sR_1, sR_2, ↓reduceIte, if_pos, if_neg]
        rw [q1, bd_some]; exact z1
      · simp (disch := omega) only [w32_eq, gI_eq, gB_eq, g0_eq, ix_nat, ix_eq, bd_some, bv_some, Int.toNat_natCast, Int.toNat_zero, sF_1, sF_2, sA_1, sA_2, sR_1, sR_2, ↓reduceIte, if_pos, if_neg]
        rw [q2, bd_some]; exact z2
theorem dg2 (h : Inv σ ρ) {P : Nat} (hP3 : σ.1 3 = P) (hP9 : σ.1 9 = P) (hP2 : ρ.1 2 = P) (hP16 : P ≤ 16) (hat : ∀ i : Nat, i < P → fX9_at σ (i : Int) = some (ρ.2 10 i, σ)) : ∀ (n m i : Nat) (d : Int), i ≤ P → P - i < n → P - i < m → ∃ r : Int, fX10_digest_L33 n d (i : Int) σ = some (r, σ) ∧ fX11_digest_L33 m d (i : Int) ρ = some (r, ρ) := by
  intro n
  induction n with
  | zero => intro m i d _ h; omega
  | succ n ih =>
    intro m i d hi hn hm
    obtain ⟨m, rfl⟩ : ∃ m' : Nat, m = m' + 1 := ⟨m - 1, by omega⟩
    have e0 : fX10_digest_L33 (n + 1) d (i : Int) σ = fX10_digest_B33 (fX10_digest_L33 n) d (i : Int) σ := rfl
    have e1 : fX11_digest_L33 (m + 1) d (i : Int) ρ = fX11_digest_B33 (fX11_digest_L33 m) d (i : Int) ρ := rfl
    rw [e0, e1]
    unfold fX10_digest_B33 fX11_digest_B33
    by_cases e : i = P
    · obtain ⟨z, z1, z2⟩ := dg3 h hP9 hP2 hP16 hat 1000 1000 0 d (by omega) (by omega) (by omega)
      refine ⟨z, ?_, ?_⟩
      · simp (disch := omega) only [w32_eq, gI_eq, gB_eq, g0_eq, ix_nat, ix_eq, bd_some, bv_some, Int.toNat_natCast, Int.toNat_zero, sF_1, sF_2, sA_1, sA_2, sR_1, sR_2, ↓reduceIte, if_pos, if_neg, hP3]; exact z1
      · simp (disch := omega) only [w32_eq, gI_eq, gB_eq, g0_eq, ix_nat, ix_eq, bd_some, bv_some, Int.toNat_natCast, Int.toNat_zero, sF_1, sF_2, sA_1, sA_2, sR_1, sR_2, ↓reduceIte, if_pos, if_neg, hP2]; exact z2
    · obtain ⟨z, z1, z2⟩ := dg2i h (p := i) (by omega) (fX10_digest_L33 n) (fX11_digest_L33 m) (fun d => ih m (i + 1) d (by omega) (by omega) (by omega)) 1000 1000 1 d (by omega) (by omega) (by omega)
      refine ⟨z, ?_, ?_⟩
      · simp (disch := omega) only [w32_eq, gI_eq, gB_eq, g0_eq, ix_nat, ix_eq, bd_some, bv_some, Int.toNat_natCast, Int.toNat_zero, sF_1, sF_2, sA_1, sA_2, sR_1, sR_2, ↓reduceIte, if_pos, if_neg, hP3]
        exact z1
      · simp (disch := omega) only [w32_eq, gI_eq, gB_eq, g0_eq, ix_nat, ix_eq, bd_some, bv_some, Int.toNat_natCast, Int.toNat_zero, sF_1, sF_2, sA_1, sA_2, sR_1, sR_2, ↓reduceIte, if_pos, if_neg, hP2]
        exact z2
theorem dg1 (h : Inv σ ρ) : ∀ (n m i : Nat) (d : Int), i ≤ 7 → 7 - i < n → 7 - i < m → ∃ r : Int, fX10_digest_L6 n d (i : Int) σ = some (r, σ) ∧ fX11_digest_L6 m d (i : Int) ρ = some (r, ρ) := by
  intro n
  induction n with
  | zero => intro m i d _ h; omega
  | succ n ih =>
    intro m i d hi hn hm
    obtain ⟨m, rfl⟩ : ∃ m' : Nat, m = m' + 1 := ⟨m - 1, by omega⟩
    have e0 : fX10_digest_L6 (n + 1) d (i : Int) σ = fX10_digest_B6 (fX10_digest_L6 n) d (i : Int) σ := rfl
    have e1 : fX11_digest_L6 (m + 1) d (i : Int) ρ = fX11_digest_B6 (fX11_digest_L6 m) d (i : Int) ρ := rfl
    rw [e0, e1]
    unfold fX10_digest_B6 fX11_digest_B6
    by_cases e : i = 7
    · obtain ⟨R, P, N, T, B, hB, hR, hS, hP, hW, hL, hK, hT, hD, hN, hQ, hX⟩ := id h
      have b4 := hB.2.2.2.1
      obtain ⟨z, z1, z2⟩ := dg2 h hB.2.2.1 hB.2.2.2.2 hP.1 b4 (fun i hi => by rw [turnAt_t hB hi, (hT i hi).1]) 1000 1000 0 d (by omega) (by omega) (by omega)
      refine ⟨z, ?_, ?_⟩
      · simp (disch := omega) only [w32_eq, gI_eq, gB_eq, g0_eq, ix_nat, ix_eq, bd_some, bv_some, Int.toNat_natCast, Int.toNat_zero, sF_1, sF_2, sA_1, sA_2, sR_1, sR_2, ↓reduceIte, if_pos, if_neg]; exact z1
      · simp (disch := omega) only [w32_eq, gI_eq, gB_eq, g0_eq, ix_nat, ix_eq, bd_some, bv_some, Int.toNat_natCast, Int.toNat_zero, sF_1, sF_2, sA_1, sA_2, sR_1, sR_2, ↓reduceIte, if_pos, if_neg]; exact z2
    · obtain ⟨r, q1, q2⟩ := op_count h (a := (i : Int)) (by unfold rg; omega)
      obtain ⟨z, z1, z2⟩ := ih m (i + 1) (31 * d + w32 r) (by omega) (by omega) (by omega)
      refine ⟨z, ?_, ?_⟩
      · simp (disch := omega) only [w32_eq, gI_eq, gB_eq, g0_eq, ix_nat, ix_eq, bd_some, bv_some, Int.toNat_natCast, Int.toNat_zero, sF_1, sF_2, sA_1, sA_2, sR_1, sR_2, ↓reduceIte, if_pos, if_neg]
        rw [q1, bd_some]; exact z1
      · simp (disch := omega) only [w32_eq, gI_eq, gB_eq, g0_eq, ix_nat, ix_eq, bd_some, bv_some, Int.toNat_natCast, Int.toNat_zero, sF_1, sF_2, sA_1, sA_2, sR_1, sR_2, ↓reduceIte, if_pos, if_neg]
        rw [q2, bd_some]; exact z2
theorem op_digest (h : Inv σ ρ) : Op (fX10_digest σ) (fX11_digest ρ) := by
  obtain ⟨r, e1, e2⟩ := dg1 h 1000 1000 0 17 (by omega) (by omega) (by omega)
  exact ⟨r, σ, ρ, e1, e2, h⟩
end EDIGEST
