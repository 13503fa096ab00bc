section EBC
theorem tb_nat (a k : Nat) : tb (a : Int) k = (decide (k < 32) && a.testBit k) := by
  unfold tb iI
  show (BitVec.ofInt 32 (a : Int)).getLsbD k = _
  rw [BitVec.ofInt_natCast, BitVec.getLsbD_ofNat]
theorem tb_ushr (x : Int) {n : Nat} (h : n < 32) (k : Nat) : tb (bUshr x (n : Int)) k = tb x (n + k) := by
  unfold tb bUshr
  rw [iI_of]
  have hs : ∀ a : Fin 32, ((iI (a.val : Int)).toUInt32 &&& Int32.toUInt32 31).toBitVec % 32 = BitVec.ofNat 32 a.val := by decide +kernel
  have h3 := hs ⟨n, h⟩
  simp only at h3
  show ((iI x).toUInt32 >>> ((iI (n : Int)).toUInt32 &&& Int32.toUInt32 31)).toBitVec.getLsbD k = _
  rw [UInt32.toBitVec_shiftRight, h3]
  rw [BitVec.ushiftRight_eq', BitVec.getLsbD_ushiftRight]
  rw [BitVec.toNat_ofNat, Nat.mod_eq_of_lt (by omega)]
  rfl
theorem shr_le (a n : Nat) : a >>> n ≤ a := by rw [Nat.shiftRight_eq_div_pow]; exact Nat.div_le_self _ _
theorem bAnd_nat {a b : Nat} {y : Int} (hy : y = (b : Int)) (ha : a < 2147483648) : bAnd (a : Int) y = ((a &&& b : Nat) : Int) := by
  subst hy
  have hle : a &&& b ≤ a := Nat.and_le_left
  generalize hc : a &&& b = c at *
  have e := tb_ext (x := bAnd (a : Int) (b : Int)) (y := (c : Int)) (fun k hk => by
    rw [tb_and, tb_nat, tb_nat, tb_nat, ← hc, Nat.testBit_and]
    simp [hk])
  rw [w32_bAnd, w32_eq (by omega)] at e
  exact e
theorem bUshr_nat {a n : Nat} {y : Int} (hy : y = (n : Int)) (hn : n < 32) (ha : a < 2147483648) : bUshr (a : Int) y = ((a >>> n : Nat) : Int) := by
  subst hy
  have hle := shr_le a n
  generalize hc : a >>> n = c at *
  have e := tb_ext (x := bUshr (a : Int) (n : Int)) (y := (c : Int)) (fun k hk => by
    rw [tb_ushr _ hn, tb_nat, tb_nat, ← hc, Nat.testBit_shiftRight]
    by_cases h : n + k < 32
    · simp [h, hk]
    · have : a.testBit (n + k) = false := Nat.testBit_lt_two_pow (Nat.lt_of_lt_of_le (show a < 2 ^ 31 by omega) (Nat.pow_le_pow_right (by omega) (by omega)))
      simp [this])
  rw [w32_bUshr, w32_eq (by omega)] at e
  exact e
def bc1 (v : Nat) : Nat := v - ((v >>> 1) &&& 1431655765)
def bc2 (v : Nat) : Nat := (v &&& 858993459) + ((v >>> 2) &&& 858993459)
def bc3 (v : Nat) : Nat := (v + (v >>> 4)) &&& 252645135
def bc4 (v : Nat) : Nat := v + (v >>> 8)
def bc5 (v : Nat) : Nat := (v + (v >>> 16)) &&& 63
def bcN (v : Nat) : Nat := bc5 (bc4 (bc3 (bc2 (bc1 v))))
theorem bcN_le (v : Nat) : bcN v ≤ 63 := Nat.and_le_right
theorem bc1_eq {v : Nat} (h : v < 2000000000) : (v : Int) - bAnd (bUshr (v : Int) 1) 1431655765 = ((bc1 v : Nat) : Int) ∧ bc1 v ≤ v := by
  have h1 := shr_le v 1
  have h2 : (v >>> 1) &&& 1431655765 ≤ v >>> 1 := Nat.and_le_left
  rw [bUshr_nat (n := 1) (y := 1) rfl (by omega) (by omega), bAnd_nat (b := 1431655765) (y := 1431655765) rfl (by omega)]
  unfold bc1
  generalize (v >>> 1) &&& 1431655765 = c at *
  generalize v >>> 1 = d at *
  constructor <;> omega
theorem bc2_eq {v : Nat} (h : v < 1000000000) : bAnd (v : Int) 858993459 + bAnd (bUshr (v : Int) 2) 858993459 = ((bc2 v : Nat) : Int) ∧ bc2 v ≤ 2 * v := by
  have h1 := shr_le v 2
  have h2 : (v >>> 2) &&& 858993459 ≤ v >>> 2 := Nat.and_le_left
  have h3 : v &&& 858993459 ≤ v := Nat.and_le_left
  rw [bUshr_nat (n := 2) (y := 2) rfl (by omega) (by omega), bAnd_nat (a := v) (b := 858993459) (y := 858993459) rfl (by omega), bAnd_nat (a := v >>> 2) (b := 858993459) (y := 858993459) rfl (by omega)]
  unfold bc2
  generalize (v >>> 2) &&& 858993459 = c at *
  generalize v >>> 2 = d at *
  generalize v &&& 858993459 = e at *
  constructor <;> omega
theorem bc3_eq {v : Nat} (h : v < 1000000000) : bAnd ((v : Int) + bUshr (v : Int) 4) 252645135 = ((bc3 v : Nat) : Int) ∧ bc3 v ≤ 2 * v := by
  have h1 := shr_le v 4
  have h2 : (v + (v >>> 4)) &&& 252645135 ≤ v + (v >>> 4) := Nat.and_le_left
  rw [bUshr_nat (n := 4) (y := 4) rfl (by omega) (by omega), show (v : Int) + ((v >>> 4 : Nat) : Int) = ((v + (v >>> 4) : Nat) : Int) from (Int.natCast_add _ _).symm, bAnd_nat (b := 252645135) (y := 252645135) rfl (by omega)]
  unfold bc3
  exact ⟨rfl, by omega⟩
theorem bc4_eq {v : Nat} (h : v < 1000000000) : (v : Int) + bUshr (v : Int) 8 = ((bc4 v : Nat) : Int) ∧ bc4 v ≤ 2 * v := by
  have h1 := shr_le v 8
  rw [bUshr_nat (n := 8) (y := 8) rfl (by omega) (by omega)]
  unfold bc4
  exact ⟨(Int.natCast_add _ _).symm, by omega⟩
theorem bc5_eq {v : Nat} (h : v < 1000000000) : bAnd ((v : Int) + bUshr (v : Int) 16) 63 = ((bc5 v : Nat) : Int) := by
  have h1 := shr_le v 16
  rw [bUshr_nat (n := 16) (y := 16) rfl (by omega) (by omega), show (v : Int) + ((v >>> 16 : Nat) : Int) = ((v + (v >>> 16) : Nat) : Int) from (Int.natCast_add _ _).symm, bAnd_nat (b := 63) (y := 63) rfl (by omega)]
  rfl
theorem bc_eq (σ : St) {v : Nat} (h : v < 65536) : fJ6_bitCount_0f7a4 σ (v : Int) = some (((bcN v : Nat) : Int), σ) := by
  unfold fJ6_bitCount_0f7a4 fJ6_bitCount_0f7a4_L0
  obtain ⟨a1, c1⟩ := bc1_eq (v := v) (by omega)
  rw [a1]
  obtain ⟨a2, c2⟩ := bc2_eq (v := bc1 v) (by omega)
  rw [a2]
  obtain ⟨a3, c3⟩ := bc3_eq (v := bc2 (bc1 v)) (by omega)
  rw [a3]
  obtain ⟨a4, c4⟩ := bc4_eq (v := bc3 (bc2 (bc1 v))) (by omega)
  rw [a4]
  rw [bc5_eq (by omega)]
  rfl
theorem bc_tab : ∀ a : Fin 256, ∀ b : Fin 256, bcN (a.val + 256 * b.val) = 1 → a.val + 256 * b.val = 2 ^ (Nat.log2 (a.val + 256 * b.val)) := by decide +kernel
theorem bc_pow : ∀ k : Fin 16, bcN (2 ^ k.val) = 1 := by decide +kernel
/-- how many bits a mask of PEOPLE has: one, or not -/
theorem bitCount_one (σ : St) {v : Int} (hw : w32 v = v) {p : Nat} (hp : p < 16) (hb : tb v p = true) (hh : ∀ k : Nat, k < 32 → tb v k = true → k < 16) :
    ∃ c : Int, fJ6_bitCount_0f7a4 σ v = some (c, σ) ∧ rg c ∧ (c = 1 ↔ ∀ k : Nat, k < 32 → tb v k = true → k = p) := by
  obtain ⟨n, hn⟩ : ∃ n : Nat, n = (iI v).toBitVec.toNat := ⟨_, rfl⟩
  have bit : ∀ k : Nat, n.testBit k = tb v k := by
    intro k; rw [hn]; unfold tb; exact BitVec.testBit_toNat _
  have hlt : n < 2 ^ 16 := by
    apply Nat.lt_pow_two_of_testBit
    intro i hi
    rw [bit]
    by_cases h32 : i < 32
    · cases ht : tb v i with
      | false => rfl
      | true => have := hh i h32 ht; omega
    · exact tb_big v (by omega)
  have hv : v = (n : Int) := by
    have e := tb_ext (x := v) (y := (n : Int)) (fun k hk => by rw [tb_nat, bit]; simp [hk])
    rw [hw, w32_eq (by omega)] at e
    exact e
  have hN : n < 65536 := by omega
  refine ⟨((bcN n : Nat) : Int), by rw [hv]; exact bc_eq σ hN, by have := bcN_le n; unfold rg; omega, ?_⟩
  constructor
  · intro h1 k hk ht
    have t : bcN (n % 256 + 256 * (n / 256)) = 1 → n % 256 + 256 * (n / 256) = 2 ^ (Nat.log2 (n % 256 + 256 * (n / 256))) := bc_tab ⟨n % 256, by omega⟩ ⟨n / 256, by omega⟩
    rw [show n % 256 + 256 * (n / 256) = n by omega] at t
    have e := t (by omega)
    have f1 : ∀ j : Nat, tb v j = true → Nat.log2 n = j := by
      intro j hj
      rw [← bit, e, Nat.testBit_two_pow, decide_eq_true_eq] at hj
      exact hj
    rw [← f1 k ht, ← f1 p hb]
  · intro h1
    have e : n = 2 ^ p := by
      apply Nat.eq_of_testBit_eq
      intro i
      rw [bit, Nat.testBit_two_pow]
      by_cases c : p = i
      · subst c; simp [hb]
      · simp only [c, decide_false]
        cases ht : tb v i with
        | false => rfl
        | true =>
          by_cases h32 : i < 32
          · exact absurd (h1 i h32 ht).symm c
          · rw [tb_big v (by omega)] at ht; cases ht
    have b : bcN (2 ^ p) = 1 := bc_pow ⟨p, hp⟩
    rw [e, b]
    rfl
end EBC
