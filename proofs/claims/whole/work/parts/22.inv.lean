/-! ===== what class and reference have in common ===== -/
def rg (x : Int) : Prop := -2147483648 ≤ x ∧ x < 2147483648
def IR (σ ρ : St) (R : Nat) : Prop := ρ.1 0 = R ∧ ∀ r : Nat, r < R → σ.2 1 r = ρ.2 0 r ∧ (0 ≤ ρ.2 0 r ∧ ρ.2 0 r ≤ 7) ∧ σ.2 2 r = ρ.2 1 r ∧ (0 ≤ ρ.2 1 r ∧ ρ.2 1 r ≤ 20) ∧ σ.2 3 r = ρ.2 2 r ∧ (0 ≤ ρ.2 2 r ∧ ρ.2 2 r ≤ 3)
def IS (σ ρ : St) : Prop := σ.1 1 = ρ.1 1 ∧ 0 ≤ ρ.1 1 ∧ ρ.1 1 < 256
def IP (σ ρ : St) (P : Nat) : Prop := ρ.1 2 = P ∧ ∀ p : Nat, p < P → σ.2 5 p = ρ.2 3 p ∧ (1 ≤ ρ.2 3 p ∧ ρ.2 3 p ≤ 4) ∧ σ.2 6 p = ρ.2 4 p ∧ (-1 ≤ ρ.2 4 p ∧ ρ.2 4 p ≤ 7)
def IW (σ ρ : St) (R P : Nat) : Prop := (∀ p : Nat, p < P → σ.2 7 p = ρ.2 5 p ∧ (0 ≤ ρ.2 5 p ∧ ρ.2 5 p ≤ 8) ∧ ∀ k : Nat, (k : Int) < ρ.2 5 p → σ.2 8 (p * 8 + k) = ρ.2 6 (p * 8 + k) ∧ (0 ≤ ρ.2 6 (p * 8 + k) ∧ ρ.2 6 (p * 8 + k) < R)) ∧ ∀ p : Nat, P ≤ p → p < 16 → σ.2 7 p = 0
def IL (σ ρ : St) (R P : Nat) : Prop := (∀ p : Nat, p < P → σ.2 9 p = ρ.2 7 p ∧ -1 ≤ ρ.2 7 p ∧ ρ.2 7 p < R) ∧ (∀ r : Nat, r < R → -1 ≤ σ.2 4 r ∧ σ.2 4 r < P ∧ ∀ p : Nat, p < P → (ρ.2 7 p = r ↔ σ.2 4 r = p)) ∧ ∀ k : Nat, k < 32 → (tb (σ.1 2) k = true ↔ k < R ∧ σ.2 4 k ≠ -1)
def IK (σ ρ : St) (P : Nat) : Prop := (∀ p : Nat, p < P → σ.2 10 p = ρ.2 9 p ∧ σ.2 11 p = ρ.2 8 p ∧ (ρ.2 8 p = 0 ∨ ρ.2 8 p = 1)) ∧ ∀ p : Nat, P ≤ p → p < 16 → σ.2 10 p = 0 ∧ σ.2 11 p = 0
def IT (σ ρ : St) (P : Nat) : Prop := ∀ i : Nat, i < P → σ.2 16 i = ρ.2 10 i ∧ 0 ≤ ρ.2 10 i ∧ ρ.2 10 i < P
def ID (σ ρ : St) : Prop := σ.1 10 = ρ.2 12 0 ∧ σ.1 11 = ρ.2 12 1 ∧ σ.1 12 = ρ.2 12 2
def IN (σ ρ : St) (R P N : Nat) : Prop := σ.1 15 = N ∧ ρ.1 5 = N ∧ N ≤ 60 ∧ (∀ p : Nat, p < P → ∀ n : Nat, n < N → σ.2 26 (p * 60 + n) = ρ.2 21 (p * 60 + n) ∧ -1 ≤ ρ.2 21 (p * 60 + n) ∧ ρ.2 21 (p * 60 + n) < R) ∧ ∀ p : Nat, P ≤ p → p < 16 → ∀ n : Nat, n < 60 → σ.2 26 (p * 60 + n) = -1
/-- the telling that counts for HOUSE h in NIGHT n among the first k -/
def bst (tH tF : Nat → Int) (h n : Int) : Nat → Int
  | 0 => -1
  | k + 1 => if tH k = h ∧ tF k ≤ n ∧ (bst tH tF h n k = -1 ∨ tF (bst tH tF h n k).toNat ≤ tF k) then (k : Int) else bst tH tF h n k
def IQ (σ ρ : St) (T : Nat) : Prop := σ.1 16 = T ∧ ρ.1 6 = T ∧ T ≤ 40 ∧ (∀ k : Nat, k < T → σ.2 27 k = ρ.2 23 k ∧ σ.2 28 k = ρ.2 24 k ∧ (0 ≤ ρ.2 22 k ∧ ρ.2 22 k ≤ 7) ∧ (0 ≤ ρ.2 23 k ∧ ρ.2 23 k ≤ 59) ∧ (0 ≤ ρ.2 24 k ∧ ρ.2 24 k ≤ 999)) ∧ (∀ h n : Nat, h < 8 → n < 60 → σ.2 29 (h * 60 + n) = bst (ρ.2 22) (ρ.2 23) h n T) ∧ (0 < T → σ.1 17 = ρ.2 22 (T - 1) ∧ ∀ n : Nat, ρ.2 23 (T - 1) ≤ n → n < 60 → σ.2 30 n = bst (ρ.2 22) (ρ.2 23) (σ.1 17) n (T - 1))
/-! THE STATUTE's text and how far it goes on -/
def isLe (c : Int) : Prop := c = 121 ∨ c = 109 ∨ c = 115 ∨ c = 104
def isSi (c : Int) : Prop := c = 60 ∨ c = 61 ∨ c = 62
def isFi (c : Int) : Prop := 48 ≤ c ∧ c ≤ 57
def nx (s c : Int) : Int := if (s = 0 ∧ (c = 121 ∨ c = 109 ∨ c = 115 ∨ c = 104)) ∨ (s = 1 ∧ (c = 60 ∨ c = 61 ∨ c = 62)) ∨ (2 ≤ s ∧ s < 5 ∧ 48 ≤ c ∧ c ≤ 57) then s + 1 else if 2 < s ∧ (c = 124 ∨ c = 38) then 0 else -1
def rn (t : Nat → Int) : Nat → Int
  | 0 => 0
  | i + 1 => if rn t i = -1 then -1 else nx (rn t i) (t i)
/-- the number that d figures from a place on tell -/
def dv (t : Nat → Int) (a : Nat) : Nat → Int
  | 0 => 0
  | d + 1 => 10 * dv t a d + (t (a + d) - 48)
/-- test t begins at place a: letter, sign and d figures are taken -/
def T1 (σ : St) (t : Nat → Int) (n a d : Nat) : Prop := isLe (t a) ∧ isSi (t (a + 1)) ∧ d ≤ 3 ∧ (∀ j : Nat, j < d → isFi (t (a + 2 + j))) ∧ σ.2 12 n = t a ∧ σ.2 13 n = t (a + 1) ∧ σ.2 14 n = dv t (a + 2) d
/-- test n is closed: a sign that parts stands behind it, and the next one begins at b, with a CASE of its own or not (z) -/
def T2 (σ : St) (t : Nat → Int) (n a b : Nat) (z : Int) : Prop := ∃ d : Nat, 1 ≤ d ∧ T1 σ t n a d ∧ b = a + d + 3 ∧ ((t (a + 2 + d) = 124 ∧ z = 1) ∨ (t (a + 2 + d) = 38 ∧ z = 0))
/-- the tests m of an unbroken text of B bytes, their places -/
def TS (σ : St) (t : Nat → Int) (B m : Nat) (ps : Nat → Nat) : Prop := σ.1 5 = m ∧ ps 0 = 0 ∧ (0 < m → σ.2 15 0 = 1) ∧ (∀ n : Nat, n + 1 < m → T2 σ t n (ps n) (ps (n + 1)) (σ.2 15 (n + 1))) ∧
  ((σ.1 6 = 0 ∧ B = ps m ∧ (m = 0 → σ.1 8 = 1) ∧ (∀ n : Nat, n + 1 = m → T2 σ t n (ps n) (ps m) (σ.1 8))) ∨
   (σ.1 6 = 1 ∧ ∃ n : Nat, m = n + 1 ∧ B = ps n + 1 ∧ isLe (t (ps n)) ∧ σ.2 12 n = t (ps n) ∧ σ.2 14 n = 0) ∨
   (∃ n d : Nat, m = n + 1 ∧ σ.1 6 = d + 2 ∧ B = ps n + 2 + d ∧ T1 σ t n (ps n) d))
def IX (σ ρ : St) (B : Nat) : Prop := σ.1 4 = B ∧ ρ.1 3 = B ∧ B ≤ 60 ∧ (∀ i : Nat, i < B → 32 ≤ ρ.2 11 i ∧ ρ.2 11 i ≤ 126) ∧
  ((∃ f : Nat, f < B ∧ σ.1 7 = f ∧ rn (ρ.2 11) f ≠ -1 ∧ rn (ρ.2 11) (f + 1) = -1) ∨
   (σ.1 7 = -1 ∧ σ.1 6 = rn (ρ.2 11) B ∧ rn (ρ.2 11) B ≠ -1 ∧ ∃ (m : Nat) (ps : Nat → Nat), TS σ (ρ.2 11) B m ps))
def Inv (σ ρ : St) : Prop := ∃ R P N T B : Nat, Bs σ R P ∧ IR σ ρ R ∧ IS σ ρ ∧ IP σ ρ P ∧ IW σ ρ R P ∧ IL σ ρ R P ∧ IK σ ρ P ∧ IT σ ρ P ∧ ID σ ρ ∧ IN σ ρ R P N ∧ IQ σ ρ T ∧ IX σ ρ B
/-- a call answers alike, and class and reference go on in common -/
def Op (f g : Option (Int × St)) : Prop := ∃ (r : Int) (σ' ρ' : St), f = some (r, σ') ∧ g = some (r, ρ') ∧ Inv σ' ρ'
/-! ===== the reference's small methods ===== -/
section HR
variable {σ ρ : St} {R P : Nat}
theorem isRoom_t (h : ρ.1 0 = R) (hR : R ≤ 24) {v : Int} (h1 : 0 ≤ v ∧ v < R) : fX11_isRoom ρ v = some (1, ρ) := by
  unfold fX11_isRoom fX11_isRoom_L0
  rw [h, w32_eq (by omega), w32_eq (by omega), in_eq ρ (by omega) (by omega) (by omega)]
  simp (disch := omega) only [w32_eq, gI_eq, gB_eq, g0_eq, ix_nat, ix_eq, bd_some, bv_some, Int.toNat_natCast, Int.toNat_zero, sF_1, sF_2, sA_1, sA_2, sR_1, sR_2, ↓reduceIte, if_pos, if_neg]
theorem isRoom_f (h : ρ.1 0 = R) (hR : R ≤ 24) {v : Int} (h0 : rg v) (h1 : v < 0 ∨ R ≤ v) : fX11_isRoom ρ v = some (0, ρ) := by
  unfold rg at h0
  unfold fX11_isRoom fX11_isRoom_L0
  rw [h, w32_eq (by omega), w32_eq (by omega), in_eq ρ (by omega) (by omega) (by omega)]
  simp (disch := omega) only [w32_eq, gI_eq, gB_eq, g0_eq, ix_nat, ix_eq, bd_some, bv_some, Int.toNat_natCast, Int.toNat_zero, sF_1, sF_2, sA_1, sA_2, sR_1, sR_2, ↓reduceIte, if_pos, if_neg]
theorem isOne_t (h : ρ.1 2 = P) (hR : P ≤ 16) {v : Int} (h1 : 0 ≤ v ∧ v < P) : fX11_isOne ρ v = some (1, ρ) := by
  unfold fX11_isOne fX11_isOne_L0
  rw [h, w32_eq (by omega), w32_eq (by omega), in_eq ρ (by omega) (by omega) (by omega)]
  simp (disch := omega) only [w32_eq, gI_eq, gB_eq, g0_eq, ix_nat, ix_eq, bd_some, bv_some, Int.toNat_natCast, Int.toNat_zero, sF_1, sF_2, sA_1, sA_2, sR_1, sR_2, ↓reduceIte, if_pos, if_neg]
theorem isOne_f (h : ρ.1 2 = P) (hR : P ≤ 16) {v : Int} (h0 : rg v) (h1 : v < 0 ∨ P ≤ v) : fX11_isOne ρ v = some (0, ρ) := by
  unfold rg at h0
  unfold fX11_isOne fX11_isOne_L0
  rw [h, w32_eq (by omega), w32_eq (by omega), in_eq ρ (by omega) (by omega) (by omega)]
  simp (disch := omega) only [w32_eq, gI_eq, gB_eq, g0_eq, ix_nat, ix_eq, bd_some, bv_some, Int.toNat_natCast, Int.toNat_zero, sF_1, sF_2, sA_1, sA_2, sR_1, sR_2, ↓reduceIte, if_pos, if_neg]
theorem whoHas_loop (h2 : ρ.1 2 = P) (hP : P ≤ 16) {v H : Int} (hv : rg v) (hl : ∀ p : Nat, p < P → rg (ρ.2 7 p)) (hH : -1 ≤ H ∧ H < P) (hw : ∀ p : Nat, p < P → (ρ.2 7 p = v ↔ H = p)) :
    ∀ (n p : Nat), p ≤ P → P - p < n → (∀ q : Nat, q < p → H ≠ q) → fX11_whoHas_L2 n v (p : Int) ρ = some (H, ρ) := by
  unfold rg at *
  intro n
  induction n with
  | zero => intro p _ h; omega
  | succ n ih =>
    intro p hp hn hq
    show fX11_whoHas_B2 (fX11_whoHas_L2 n) v (p : Int) ρ = _
    unfold fX11_whoHas_B2
    rw [h2]
    by_cases hpP : p = P
    · have : H = -1 := by
        rcases Int.lt_or_le H 0 with h | h
        · omega
        · exact absurd (by omega) (hq H.toNat (by omega))
      subst this
      simp (disch := omega) only [w32_eq, gI_eq, gB_eq, g0_eq, ix_nat, ix_eq, bd_some, bv_some, Int.toNat_natCast, Int.toNat_zero, sF_1, sF_2, sA_1, sA_2, sR_1, sR_2, ↓reduceIte, if_pos, if_neg]
    · have hl1 := hl p (by omega)
      have hw1 := hw p (by omega)
      simp (disch := omega) only [w32_eq, gI_eq, gB_eq, g0_eq, ix_nat, ix_eq, bd_some, bv_some, Int.toNat_natCast, Int.toNat_zero, sF_1, sF_2, sA_1, sA_2, sR_1, sR_2, ↓reduceIte, if_pos, if_neg]
      by_cases he : ρ.2 7 p = v
      · rw [if_pos he, hw1.mp he]
      · rw [if_neg he]
        refine ih (p + 1) (by omega) (by omega) (fun q hq1 => ?_)
        rcases Nat.lt_or_ge q p with h | h
        · exact hq q h
        · have : q = p := by omega
          subst this
          exact fun e => he (hw1.mpr e)
theorem whoHas_eq (h2 : ρ.1 2 = P) (hP : P ≤ 16) {v H : Int} (hv : rg v) (hl : ∀ p : Nat, p < P → rg (ρ.2 7 p)) (hH : -1 ≤ H ∧ H < P) (hw : ∀ p : Nat, p < P → (ρ.2 7 p = v ↔ H = p)) : fX11_whoHas ρ v = some (H, ρ) := by
  unfold fX11_whoHas fX11_whoHas_L0
  exact whoHas_loop h2 hP hv hl hH hw 1000 0 (by omega) (by omega) (fun q h => by omega)
end HR
