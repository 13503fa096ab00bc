/-! ===== evaluation: rows for numbers in range ===== -/
theorem w32_eq {x : Int} (h : -2147483648 ≤ x ∧ x < 2147483648) : w32 x = x := by rw [w32_def]; omega
theorem w32_rng (x : Int) : -2147483648 ≤ w32 x ∧ w32 x < 2147483648 := by rw [w32_def]; omega
theorem w32_w32 (x : Int) : w32 (w32 x) = w32 x := w32_eq (w32_rng x)
theorem w64_eq {x : Int} (h : -9223372036854775808 ≤ x ∧ x < 9223372036854775808) : w64 x = x := by rw [w64_def]; omega
theorem gI_eq {α : Type} {i : Int} {n : Nat} {o : Option α} (h : 0 ≤ i ∧ i < n ∧ n ≤ 2147483648) : gI i n o = o := by
  unfold gI; rw [w32_eq (by omega), if_pos (by omega)]
theorem gB_eq {α : Type} {i : Int} {o : Option α} (h : i = 0 ∨ i = 1) : gB i o = o := by
  unfold gB; rw [w32_eq (by omega), if_pos h]
theorem g0_eq {α : Type} {i : Int} {o : Option α} (h : 0 < i ∧ i < 2147483648) : g0 i o = o := by
  unfold g0; rw [w32_eq (by omega), if_neg (by omega)]
theorem bd_some {α : Type} {a : Int} {b : St} {k : Int → St → Option α} : bd (some (a, b)) k = k a b := rfl
theorem bv_some {α : Type} {b : St} {k : St → Option α} : bv (some b) k = k b := rfl
theorem ix_nat {n : Nat} (h : n < 2147483648) : ix (n : Int) = n := by unfold ix; rw [w32_eq (by omega)]; omega
theorem ix_eq {i : Int} (h : 0 ≤ i ∧ i < 2147483648) : ix i = i.toNat := by unfold ix; rw [w32_eq (by omega)]
theorem sF_1 (σ : St) (j : Nat) (v : Int) (k : Nat) : (sF σ j v).1 k = if k = j then v else σ.1 k := rfl
theorem sF_2 (σ : St) (j : Nat) (v : Int) : (sF σ j v).2 = σ.2 := rfl
theorem sA_1 (σ : St) (j i : Nat) (v : Int) : (sA σ j i v).1 = σ.1 := rfl
theorem sA_2 (σ : St) (j i : Nat) (v : Int) (k n : Nat) : (sA σ j i v).2 k n = if k = j then (if n = i then v else σ.2 j n) else σ.2 k n := by
  unfold sA; dsimp only; split <;> rfl
/-- a row as a whole -/
def sR (σ : St) (j : Nat) (g : Nat → Int) : St := (σ.1, fun k => if k = j then g else σ.2 k)
theorem sR_1 (σ : St) (j : Nat) (g : Nat → Int) : (sR σ j g).1 = σ.1 := rfl
theorem sR_2 (σ : St) (j : Nat) (g : Nat → Int) (k n : Nat) : (sR σ j g).2 k n = if k = j then g n else σ.2 k n := by
  unfold sR; dsimp only; split <;> rfl
theorem sA_sR (σ : St) (j : Nat) (g : Nat → Int) (i : Nat) (v : Int) : sA (sR σ j g) j i v = sR σ j (fun n => if n = i then v else g n) := by
  unfold sA sR; dsimp only
  refine Prod.ext rfl ?_
  funext k
  dsimp only
  split <;> simp
theorem sR_sR (σ : St) (j : Nat) (g h : Nat → Int) : sR (sR σ j g) j h = sR σ j h := by
  unfold sR; dsimp only
  refine Prod.ext rfl ?_
  funext k
  dsimp only
  split <;> rfl
theorem sR_self (σ : St) (j : Nat) : sR σ j (σ.2 j) = σ := by
  unfold sR
  refine Prod.ext rfl ?_
  funext k
  dsimp only
  split
  · subst_vars; rfl
  · rfl
theorem sR_eq (σ : St) (j : Nat) {g h : Nat → Int} (e : ∀ n, g n = h n) : sR σ j g = sR σ j h := by rw [funext e]
theorem sA_eq_sR (σ : St) (j i : Nat) (v : Int) : sA σ j i v = sR σ j (fun n => if n = i then v else σ.2 j n) := rfl
/-! ===== bits ===== -/
def tb (x : Int) (k : Nat) : Bool := (iI x).toBitVec.getLsbD k
theorem w32_toInt (z : Int32) : w32 z.toInt = z.toInt := by rw [← iI_toInt, iI_of]
theorem w32_bOr (x y : Int) : w32 (bOr x y) = bOr x y := w32_toInt _
theorem w32_bAnd (x y : Int) : w32 (bAnd x y) = bAnd x y := w32_toInt _
theorem w32_bXor (x y : Int) : w32 (bXor x y) = bXor x y := w32_toInt _
theorem w32_bShl (x y : Int) : w32 (bShl x y) = bShl x y := w32_toInt _
theorem w32_bShr (x y : Int) : w32 (bShr x y) = bShr x y := w32_toInt _
theorem w32_bUshr (x y : Int) : w32 (bUshr x y) = bUshr x y := w32_toInt _
theorem w32_iRem (x y : Int) : w32 (iRem x y) = iRem x y := w32_toInt _
theorem tb_or (x y : Int) (k : Nat) : tb (bOr x y) k = (tb x k || tb y k) := by
  unfold tb bOr; rw [iI_of]; simp
theorem tb_and (x y : Int) (k : Nat) : tb (bAnd x y) k = (tb x k && tb y k) := by
  unfold tb bAnd; rw [iI_of]; simp
theorem tb_xor (x y : Int) (k : Nat) : tb (bXor x y) k = (tb x k ^^ tb y k) := by
  unfold tb bXor; rw [iI_of]; simp
theorem tb_m1 {k : Nat} (h : k < 32) : tb (-1) k = true := by
  unfold tb
  rw [show (iI (-1)).toBitVec = BitVec.allOnes 32 by decide +kernel, BitVec.getLsbD_allOnes]
  simp only [h, decide_true]
theorem tb_not (x : Int) {k : Nat} (h : k < 32) : tb (bXor x (-1)) k = !tb x k := by
  rw [tb_xor, tb_m1 h]; simp
theorem tb_0 (k : Nat) : tb 0 k = false := by
  unfold tb
  rw [show (iI 0).toBitVec = 0#32 by decide +kernel]
  simp
theorem tb_big (x : Int) {k : Nat} (h : 32 ≤ k) : tb x k = false := by
  unfold tb; exact BitVec.getLsbD_of_ge _ _ h
theorem tb_shl1 {r : Nat} (h : r < 32) (k : Nat) : tb (bShl 1 (r : Int)) k = decide (k = r) := by
  have key : ∀ a : Fin 32, ∀ b : Fin 32, tb (bShl 1 (a.val : Int)) b.val = decide (b.val = a.val) := by decide +kernel
  by_cases hk : k < 32
  · exact key ⟨r, h⟩ ⟨k, hk⟩
  · rw [tb_big _ (by omega)]; simp; omega
theorem tb_ext {x y : Int} (h : ∀ k, k < 32 → tb x k = tb y k) : w32 x = w32 y := by
  rw [← iI_eq]
  apply Int32.toBitVec.inj
  apply BitVec.eq_of_getLsbD_eq
  intro i hi
  exact h i hi
theorem bUshr_bit (x : Int) {n : Nat} (h : n < 32) : bAnd (bUshr x (n : Int)) 1 = if tb x n = true then 1 else 0 := by
  have e1 : ∀ z : Int32, (z &&& 1).toInt = if z.toBitVec.getLsbD 0 = true then 1 else 0 := by
    intro z
    have : (z &&& 1).toBitVec = if z.toBitVec.getLsbD 0 = true then 1#32 else 0#32 := by
      apply BitVec.eq_of_getLsbD_eq
      intro i hi
      rw [Int32.toBitVec_and, BitVec.getLsbD_and, show (1 : Int32).toBitVec = 1#32 from rfl]
      by_cases h0 : i = 0
      · subst h0; split <;> simp_all
      · have : (1#32).getLsbD i = false := by simp [BitVec.getLsbD_one]; omega
        rw [this]; split <;> simp_all
    unfold Int32.toInt
    rw [this]
    split <;> rfl
  unfold bAnd
  rw [show iI 1 = 1 by decide +kernel, e1]
  have e2 : (iI (bUshr x (n : Int))).toBitVec.getLsbD 0 = tb x n := by
    unfold bUshr; rw [iI_of]
    unfold tb
    have hs : ∀ a : Fin 32, ((iI (a.val : Int)).toUInt32 &&& Int32.toUInt32 31).toBitVec % 32 = BitVec.ofNat 32 a.val := by decide +kernel
    have h3 := hs ⟨n, h⟩
    simp only at h3
    show ((iI x).toUInt32 >>> ((iI (n : Int)).toUInt32 &&& Int32.toUInt32 31)).toBitVec.getLsbD 0 = _
    rw [UInt32.toBitVec_shiftRight, h3]
    rw [BitVec.ushiftRight_eq', BitVec.getLsbD_ushiftRight]
    rw [BitVec.toNat_ofNat, Nat.mod_eq_of_lt (by omega)]
    rfl
  rw [e2]
theorem inBits_eq (σ : St) (x : Int) {n : Nat} (h : n < 32) : fX10_inBits σ x (n : Int) = some ((if tb x n = true then 1 else 0), σ) := by
  unfold fX10_inBits fX10_inBits_L0
  rw [w32_bAnd, bUshr_bit x h]
  simp (disch := omega) only [w32_eq, gI_eq, gB_eq, g0_eq, ix_nat, ix_eq, bd_some, bv_some, Int.toNat_natCast, Int.toNat_zero, sF_1, sF_2, sA_1, sA_2, sR_1, sR_2, ↓reduceIte, if_pos, if_neg]
  split <;> rfl
theorem inBits_neg (σ : St) (x : Int) {n : Int} (h : -2147483648 ≤ n ∧ n < 0) : fX10_inBits σ x n = some (0, σ) := by
  unfold fX10_inBits fX10_inBits_L0
  simp (disch := omega) only [w32_eq, gI_eq, gB_eq, g0_eq, ix_nat, ix_eq, bd_some, bv_some, Int.toNat_natCast, Int.toNat_zero, sF_1, sF_2, sA_1, sA_2, sR_1, sR_2, ↓reduceIte, if_pos, if_neg]
theorem within_eq (σ : St) {a b c : Int} (ha : -2147483648 ≤ a ∧ a < 2147483648) (hb : -2147483648 ≤ b ∧ b < 2147483648) (hc : -2147483648 ≤ c ∧ c < 2147483648) : fX10_within σ a b c = some ((if b ≤ a ∧ a ≤ c then 1 else 0), σ) := by
  unfold fX10_within fX10_within_L0
  simp (disch := omega) only [w32_eq, gI_eq, gB_eq, g0_eq, ix_nat, ix_eq, bd_some, bv_some, Int.toNat_natCast, Int.toNat_zero, sF_1, sF_2, sA_1, sA_2, sR_1, sR_2, ↓reduceIte, if_pos, if_neg]
  by_cases h1 : a < b
  · simp (disch := omega) only [w32_eq, gI_eq, gB_eq, g0_eq, ix_nat, ix_eq, bd_some, bv_some, Int.toNat_natCast, Int.toNat_zero, sF_1, sF_2, sA_1, sA_2, sR_1, sR_2, ↓reduceIte, if_pos, if_neg]
  · by_cases h2 : c < a
    · simp (disch := omega) only [w32_eq, gI_eq, gB_eq, g0_eq, ix_nat, ix_eq, bd_some, bv_some, Int.toNat_natCast, Int.toNat_zero, sF_1, sF_2, sA_1, sA_2, sR_1, sR_2, ↓reduceIte, if_pos, if_neg]
    · simp (disch := omega) only [w32_eq, gI_eq, gB_eq, g0_eq, ix_nat, ix_eq, bd_some, bv_some, Int.toNat_natCast, Int.toNat_zero, sF_1, sF_2, sA_1, sA_2, sR_1, sR_2, ↓reduceIte, if_pos, if_neg]
theorem in_eq (ρ : St) {a b c : Int} (ha : -2147483648 ≤ a ∧ a < 2147483648) (hb : -2147483648 ≤ b ∧ b < 2147483648) (hc : -2147483648 ≤ c ∧ c < 2147483648) : fX11_in ρ a b c = some ((if b ≤ a ∧ a ≤ c then 1 else 0), ρ) := by
  unfold fX11_in fX11_in_L0 cmpL
  rw [w64_eq (by omega), w64_eq (by omega), w64_eq (by omega)]
  by_cases h1 : a < b
  · simp (disch := omega) only [w32_eq, gI_eq, gB_eq, g0_eq, ix_nat, ix_eq, bd_some, bv_some, Int.toNat_natCast, Int.toNat_zero, sF_1, sF_2, sA_1, sA_2, sR_1, sR_2, ↓reduceIte, if_pos, if_neg]
  · by_cases h2 : c < a
    · by_cases h3 : a = b
      · simp (disch := omega) only [w32_eq, gI_eq, gB_eq, g0_eq, ix_nat, ix_eq, bd_some, bv_some, Int.toNat_natCast, Int.toNat_zero, sF_1, sF_2, sA_1, sA_2, sR_1, sR_2, ↓reduceIte, if_pos, if_neg]
      · simp (disch := omega) only [w32_eq, gI_eq, gB_eq, g0_eq, ix_nat, ix_eq, bd_some, bv_some, Int.toNat_natCast, Int.toNat_zero, sF_1, sF_2, sA_1, sA_2, sR_1, sR_2, ↓reduceIte, if_pos, if_neg]
    · by_cases h3 : a = b
      · by_cases h4 : a = c
        · simp (disch := omega) only [w32_eq, gI_eq, gB_eq, g0_eq, ix_nat, ix_eq, bd_some, bv_some, Int.toNat_natCast, Int.toNat_zero, sF_1, sF_2, sA_1, sA_2, sR_1, sR_2, ↓reduceIte, if_pos, if_neg]
        · simp (disch := omega) only [w32_eq, gI_eq, gB_eq, g0_eq, ix_nat, ix_eq, bd_some, bv_some, Int.toNat_natCast, Int.toNat_zero, sF_1, sF_2, sA_1, sA_2, sR_1, sR_2, ↓reduceIte, if_pos, if_neg]
      · by_cases h4 : a = c
        · simp (disch := omega) only [w32_eq, gI_eq, gB_eq, g0_eq, ix_nat, ix_eq, bd_some, bv_some, Int.toNat_natCast, Int.toNat_zero, sF_1, sF_2, sA_1, sA_2, sR_1, sR_2, ↓reduceIte, if_pos, if_neg]
        · simp (disch := omega) only [w32_eq, gI_eq, gB_eq, g0_eq, ix_nat, ix_eq, bd_some, bv_some, Int.toNat_natCast, Int.toNat_zero, sF_1, sF_2, sA_1, sA_2, sR_1, sR_2, ↓reduceIte, if_pos, if_neg]

theorem bShr_bit (x : Int) {n : Nat} (h : n < 32) : bAnd (bShr x (n : Int)) 1 = if tb x n = true then 1 else 0 := by
  have e1 : ∀ z : Int32, (z &&& 1).toInt = if z.toBitVec.getLsbD 0 = true then 1 else 0 := by
    intro z
    have : (z &&& 1).toBitVec = if z.toBitVec.getLsbD 0 = true then 1#32 else 0#32 := by
      apply BitVec.eq_of_getLsbD_eq
      intro i hi
      rw [Int32.toBitVec_and, BitVec.getLsbD_and, show (1 : Int32).toBitVec = 1#32 from rfl]
      by_cases h0 : i = 0
      · subst h0; split <;> simp_all
      · have : (1#32).getLsbD i = false := by simp [BitVec.getLsbD_one]; omega
        rw [this]; split <;> simp_all
    unfold Int32.toInt
    rw [this]
    split <;> rfl
  unfold bAnd
  rw [show iI 1 = 1 by decide +kernel, e1]
  have e2 : (iI (bShr x (n : Int))).toBitVec.getLsbD 0 = tb x n := by
    unfold bShr; rw [iI_of]
    unfold tb
    have hs : ∀ a : Fin 32, ((iI (a.val : Int)) &&& 31).toBitVec.smod 32 = BitVec.ofNat 32 a.val := by decide +kernel
    have h3 := hs ⟨n, h⟩
    simp only at h3
    rw [Int32.toBitVec_shiftRight, h3]
    rw [BitVec.sshiftRight_eq', BitVec.getLsbD_sshiftRight]
    rw [BitVec.toNat_ofNat, Nat.mod_eq_of_lt (by omega)]
    simp only [Nat.add_zero, show n < 32 from h, if_pos]
    simp
  rw [e2]
