section EPRICE
variable {σ ρ : St} {R P N T B : Nat}
theorem bst_rng (tH tF : Nat → Int) (h n : Int) : ∀ k : Nat, bst tH tF h n k = -1 ∨ (0 ≤ bst tH tF h n k ∧ bst tH tF h n k < k)
  | 0 => Or.inl rfl
  | k + 1 => by
    have ih := bst_rng tH tF h n k
    unfold bst
    split <;> omega
theorem bst_succ (tH tF : Nat → Int) (h n : Int) (k : Nat) : bst tH tF h n (k + 1) = if tH k = h ∧ tF k ≤ n ∧ (bst tH tF h n k = -1 ∨ tF (bst tH tF h n k).toNat ≤ tF k) then (k : Int) else bst tH tF h n k := rfl
theorem bst_congr {tH tF tH' tF' : Nat → Int} (h n : Int) : ∀ k : Nat, (∀ j : Nat, j < k → tH j = tH' j ∧ tF j = tF' j) → bst tH tF h n k = bst tH' tF' h n k
  | 0, _ => rfl
  | k + 1, hh => by
    have ih := bst_congr h n k (fun j hj => hh j (by omega))
    have r := bst_rng tH' tF' h n k
    have hk := hh k (by omega)
    rw [bst_succ, bst_succ, ih, hk.1, hk.2]
    rcases r with r | r
    · rw [r]; simp
    · rw [(hh (bst tH' tF' h n k).toNat (by omega)).2]
/-- the PRICE that counts among the first k tellings -/
def pv (tH tF tP : Nat → Int) (h n : Int) (k : Nat) : Int := if bst tH tF h n k = -1 then 0 else tP (bst tH tF h n k).toNat
theorem priceOf_loop (hr : ∀ k : Nat, k < T → rg (ρ.2 22 k) ∧ rg (ρ.2 23 k)) (hT : T ≤ 40) {h n : Int} (hh : rg h) (hn : rg n) : ∀ (f i : Nat), i ≤ T → T - i < f → fX11_priceOf_L6 f h n (T : Int) (bst (ρ.2 22) (ρ.2 23) h n i) (i : Int) ρ = some (pv (ρ.2 22) (ρ.2 23) (ρ.2 24) h n T, ρ) := by
  unfold rg at *
  intro f
  induction f with
  | zero => intro i _ h; omega
  | succ f ih =>
    intro i hi hf
    have e0 : fX11_priceOf_L6 (f + 1) h n (T : Int) (bst (ρ.2 22) (ρ.2 23) h n i) (i : Int) ρ = fX11_priceOf_B6 (fX11_priceOf_L6 f) h n (T : Int) (bst (ρ.2 22) (ρ.2 23) h n i) (i : Int) ρ := rfl
    rw [e0]
    unfold fX11_priceOf_B6
    have r := bst_rng (ρ.2 22) (ρ.2 23) h n i
    by_cases e : i = T
    · subst e
      unfold pv
      by_cases e1 : bst (ρ.2 22) (ρ.2 23) h n i = -1
      · simp (disch := omega) only [w32_eq, gI_eq, gB_eq, g0_eq, ix_nat, ix_eq, bd_some, bv_some, Int.toNat_natCast, Int.toNat_zero, sF_1, sF_2, sA_1, sA_2, sR_1, sR_2, ↓reduceIte, if_pos, if_neg]
      · simp (disch := omega) only [w32_eq, gI_eq, gB_eq, g0_eq, ix_nat, ix_eq, bd_some, bv_some, Int.toNat_natCast, Int.toNat_zero, sF_1, sF_2, sA_1, sA_2, sR_1, sR_2, ↓reduceIte, if_pos, if_neg]
    · have ih1 := ih (i + 1) (by omega) (by omega)
      rw [bst_succ] at ih1
      have q := hr i (by omega)
      by_cases c1 : ρ.2 22 i = h
      · by_cases c2 : ρ.2 23 i ≤ n
        · by_cases c3 : bst (ρ.2 22) (ρ.2 23) h n i = -1
          · rw [if_pos ⟨c1, c2, Or.inl c3⟩] at ih1
            simp (disch := omega) only [w32_eq, gI_eq, gB_eq, g0_eq, ix_nat, ix_eq, bd_some, bv_some, Int.toNat_natCast, Int.toNat_zero, sF_1, sF_2, sA_1, sA_2, sR_1, sR_2, ↓reduceIte, if_pos, if_neg]
            exact ih1
          · have q2 := hr (bst (ρ.2 22) (ρ.2 23) h n i).toNat (by omega)
            by_cases c4 : ρ.2 23 (bst (ρ.2 22) (ρ.2 23) h n i).toNat ≤ ρ.2 23 i
            · rw [if_pos ⟨c1, c2, Or.inr c4⟩] at ih1
              simp (disch := omega) only [w32_eq, gI_eq, gB_eq, g0_eq, ix_nat, ix_eq, bd_some, bv_some, Int.toNat_natCast, Int.toNat_zero, sF_1, sF_2, sA_1, sA_2, sR_1, sR_2, ↓reduceIte, if_pos, if_neg]
              exact ih1
            · rw [if_neg (fun z => by rcases z.2.2 with z | z; exact c3 z; exact c4 z)] at ih1
              simp (disch := omega) only [w32_eq, gI_eq, gB_eq, g0_eq, ix_nat, ix_eq, bd_some, bv_some, Int.toNat_natCast, Int.toNat_zero, sF_1, sF_2, sA_1, sA_2, sR_1, sR_2, ↓reduceIte, if_pos, if_neg]
              exact ih1
        · rw [if_neg (fun z => c2 z.2.1)] at ih1
          simp (disch := omega) only [w32_eq, gI_eq, gB_eq, g0_eq, ix_nat, ix_eq, bd_some, bv_some, Int.toNat_natCast, Int.toNat_zero, sF_1, sF_2, sA_1, sA_2, sR_1, sR_2, ↓reduceIte, if_pos, if_neg]
          exact ih1
      · rw [if_neg (fun z => c1 z.1)] at ih1
        simp (disch := omega) only [w32_eq, gI_eq, gB_eq, g0_eq, ix_nat, ix_eq, bd_some, bv_some, Int.toNat_natCast, Int.toNat_zero, sF_1, sF_2, sA_1, sA_2, sR_1, sR_2, ↓reduceIte, if_pos, if_neg]
        exact ih1
theorem priceOf_eq {K : Nat} (hK : K ≤ T) (hQ : IQ σ ρ T) {h n : Int} (hh : rg h) (hn : rg n) : fX11_priceOf ρ h n (K : Int) = some (pv (ρ.2 22) (ρ.2 23) (ρ.2 24) h n K, ρ) := by
  have q := hQ.2.2.2.1
  have q3 := hQ.2.2.1
  unfold fX11_priceOf fX11_priceOf_L0
  exact priceOf_loop (T := K) (fun k hk => by have := q k (by omega); unfold rg; omega) (by omega) hh hn 1000 0 (by omega) (by omega)
theorem valueOf_eq (hQ : IQ σ ρ T) {x : Int} (hx : x = -1 ∨ (0 ≤ x ∧ x < T)) : fX4_valueOf σ x = some ((if x = -1 then 0 else ρ.2 24 x.toNat), σ) := by
  have q := hQ.2.2.2.1
  have q3 := hQ.2.2.1
  unfold fX4_valueOf fX4_valueOf_L0
  rcases hx with rfl | hx
  · simp (disch := omega) only [w32_eq, gI_eq, gB_eq, g0_eq, ix_nat, ix_eq, bd_some, bv_some, Int.toNat_natCast, Int.toNat_zero, sF_1, sF_2, sA_1, sA_2, sR_1, sR_2, ↓reduceIte, if_pos, if_neg, within_eq]
  · have := (q x.toNat (by omega)).2.1
    simp (disch := omega) only [w32_eq, gI_eq, gB_eq, g0_eq, ix_nat, ix_eq, bd_some, bv_some, Int.toNat_natCast, Int.toNat_zero, sF_1, sF_2, sA_1, sA_2, sR_1, sR_2, ↓reduceIte, if_pos, if_neg, within_eq]
    rw [this]
theorem at_eq (hQ : IQ σ ρ T) {h n : Nat} (hh : h < 8) (hn : n < 60) : fX4_at σ (h : Int) (n : Int) = some (pv (ρ.2 22) (ρ.2 23) (ρ.2 24) h n T, σ) := by
  have q := hQ.2.2.2.2.1 h n hh hn
  unfold fX4_at fX4_at_L0 fX4_isListed fX4_isListed_L0
  simp (disch := omega) only [w32_eq, gI_eq, gB_eq, g0_eq, ix_nat, ix_eq, bd_some, bv_some, Int.toNat_natCast, Int.toNat_zero, sF_1, sF_2, sA_1, sA_2, sR_1, sR_2, ↓reduceIte, if_pos, if_neg, within_eq]
  rw [show ((h : Int) * 60 + (n : Int)).toNat = h * 60 + n by omega, q, valueOf_eq hQ (bst_rng _ _ _ _ _), bd_some]
  rfl
theorem at_none {n : Nat} (hn : n < 60) : fX4_at σ (-1) (n : Int) = some (0, σ) := by
  unfold fX4_at fX4_at_L0 fX4_isListed fX4_isListed_L0
  simp (disch := omega) only [w32_eq, gI_eq, gB_eq, g0_eq, ix_nat, ix_eq, bd_some, bv_some, Int.toNat_natCast, Int.toNat_zero, sF_1, sF_2, sA_1, sA_2, sR_1, sR_2, ↓reduceIte, if_pos, if_neg, within_eq]
theorem op_priced (h : Inv σ ρ) {a b : Int} (ha : rg a) (hb : rg b) : Op (fX10_priced σ a b) (fX11_priced ρ a b) := by
  have hI := h
  obtain ⟨R, P, N, T, B, hB, hR, hS, hP, hW, hL, hK, hT, hD, hN, hQ, hX⟩ := h
  have ha0 := ha
  have hb0 := hb
  unfold rg at ha hb
  have t2 := hQ.2.1
  unfold fX10_priced fX10_priced_L0 fX11_priced fX11_priced_L0
  by_cases h1 : 0 ≤ a ∧ a ≤ 7
  · by_cases h2 : 0 ≤ b ∧ b ≤ 59
    · obtain ⟨x, rfl⟩ : ∃ p : Nat, a = p := ⟨a.toNat, by omega⟩
      obtain ⟨y, rfl⟩ : ∃ n : Nat, b = n := ⟨b.toNat, by omega⟩
      refine ⟨pv (ρ.2 22) (ρ.2 23) (ρ.2 24) x y T, σ, ρ, ?_, ?_, hI⟩
      · simp (disch := omega) only [w32_eq, gI_eq, gB_eq, g0_eq, ix_nat, ix_eq, bd_some, bv_some, Int.toNat_natCast, Int.toNat_zero, sF_1, sF_2, sA_1, sA_2, sR_1, sR_2, ↓reduceIte, if_pos, if_neg, within_eq]
        rw [at_eq hQ (by omega) (by omega), bd_some]
      · simp (disch := omega) only [w32_eq, gI_eq, gB_eq, g0_eq, ix_nat, ix_eq, bd_some, bv_some, Int.toNat_natCast, Int.toNat_zero, sF_1, sF_2, sA_1, sA_2, sR_1, sR_2, ↓reduceIte, if_pos, if_neg, in_eq, t2]
        rw [priceOf_eq (Nat.le_refl T) hQ ha0 hb0, bd_some]
    · exact ⟨-2, σ, ρ, by simp (disch := omega) only [w32_eq, gI_eq, gB_eq, g0_eq, ix_nat, ix_eq, bd_some, bv_some, Int.toNat_natCast, Int.toNat_zero, sF_1, sF_2, sA_1, sA_2, sR_1, sR_2, ↓reduceIte, if_pos, if_neg, within_eq], by simp (disch := omega) only [w32_eq, gI_eq, gB_eq, g0_eq, ix_nat, ix_eq, bd_some, bv_some, Int.toNat_natCast, Int.toNat_zero, sF_1, sF_2, sA_1, sA_2, sR_1, sR_2, ↓reduceIte, if_pos, if_neg, in_eq], hI⟩
  · exact ⟨-2, σ, ρ, by simp (disch := omega) only [w32_eq, gI_eq, gB_eq, g0_eq, ix_nat, ix_eq, bd_some, bv_some, Int.toNat_natCast, Int.toNat_zero, sF_1, sF_2, sA_1, sA_2, sR_1, sR_2, ↓reduceIte, if_pos, if_neg, within_eq], by simp (disch := omega) only [w32_eq, gI_eq, gB_eq, g0_eq, ix_nat, ix_eq, bd_some, bv_some, Int.toNat_natCast, Int.toNat_zero, sF_1, sF_2, sA_1, sA_2, sR_1, sR_2, ↓reduceIte, if_pos, if_neg, in_eq], hI⟩
def sm (f : Nat → Int) : Nat → Int
  | 0 => 0
  | n + 1 => sm f n + f n
theorem sm_succ (f : Nat → Int) (n : Nat) : sm f (n + 1) = sm f n + f n := rfl
theorem sm_congr {f g : Nat → Int} : ∀ {n : Nat}, (∀ k : Nat, k < n → f k = g k) → sm f n = sm g n
  | 0, _ => rfl
  | n + 1, h => by rw [sm_succ, sm_succ, sm_congr (fun k hk => h k (by omega)), h n (by omega)]
theorem sm_sub (f g : Nat → Int) : ∀ n : Nat, sm (fun k => f k - g k) n = sm f n - sm g n
  | 0 => by simp [sm]
  | n + 1 => by rw [sm_succ, sm_succ, sm_succ, sm_sub f g n]; omega
theorem sm_add (f g : Nat → Int) : ∀ n : Nat, sm (fun k => f k + g k) n = sm f n + sm g n
  | 0 => by simp [sm]
  | n + 1 => by rw [sm_succ, sm_succ, sm_succ, sm_add f g n]; omega
theorem sm_mul (f : Nat → Int) (c : Int) : ∀ n : Nat, sm (fun k => f k * c) n = sm f n * c
  | 0 => by simp [sm]
  | n + 1 => by rw [sm_succ, sm_succ, sm_mul f c n, Int.add_mul]
theorem sm_swap (f : Nat → Nat → Int) (n : Nat) : ∀ m : Nat, sm (fun a => sm (fun b => f a b) n) m = sm (fun b => sm (fun a => f a b) m) n
  | 0 => by
    have : ∀ k : Nat, sm (fun b => sm (fun a => f a b) 0) k = 0 := by
      intro k
      induction k with
      | zero => rfl
      | succ k ih => rw [sm_succ, ih]; rfl
    rw [this]; rfl
  | m + 1 => by
    rw [sm_succ, sm_swap f n m, ← sm_add]
    exact sm_congr (fun k _ => rfl)
/-- what one pays in a NIGHT by the first K tellings -/
def py (ρ : St) (K p n : Nat) : Int := if ρ.2 21 (p * 60 + n) = -1 then 0 else pv (ρ.2 22) (ρ.2 23) (ρ.2 24) (ρ.2 0 (ρ.2 21 (p * 60 + n)).toNat) n K
theorem billOf_loop {K p : Nat} (hK : K ≤ T) (hp : p < P) (b4 : P ≤ 16) (b2 : R ≤ 24) (hR : IR σ ρ R) (hN : IN σ ρ R P N) (hQ : IQ σ ρ T) : ∀ (f i : Nat), i ≤ N → N - i < f → fX11_billOf_L5 f (p : Int) (K : Int) (sm (py ρ K p) i) (i : Int) ρ = some (sm (py ρ K p) N, ρ) := by
  obtain ⟨n1, n2, n3, n4, n5⟩ := id hN
  intro f
  induction f with
  | zero => intro i _ h; omega
  | succ f ih =>
    intro i hi hf
    have e0 : fX11_billOf_L5 (f + 1) (p : Int) (K : Int) (sm (py ρ K p) i) (i : Int) ρ = fX11_billOf_B5 (fX11_billOf_L5 f) (p : Int) (K : Int) (sm (py ρ K p) i) (i : Int) ρ := rfl
    rw [e0]
    unfold fX11_billOf_B5
    by_cases e : i = N
    · subst e; simp (disch := omega) only [w32_eq, gI_eq, gB_eq, g0_eq, ix_nat, ix_eq, bd_some, bv_some, Int.toNat_natCast, Int.toNat_zero, sF_1, sF_2, sA_1, sA_2, sR_1, sR_2, ↓reduceIte, if_pos, if_neg, n2]
    · have ih1 := ih (i + 1) (by omega) (by omega)
      rw [sm_succ] at ih1
      obtain ⟨x1, x2, x3⟩ := n4 p hp i (by omega)
      simp (disch := omega) only [w32_eq, gI_eq, gB_eq, g0_eq, ix_nat, ix_eq, bd_some, bv_some, Int.toNat_natCast, Int.toNat_zero, sF_1, sF_2, sA_1, sA_2, sR_1, sR_2, ↓reduceIte, if_pos, if_neg, n2]
      rw [show (60 * (p : Int) + (i : Int)).toNat = p * 60 + i by omega]
      by_cases c : ρ.2 21 (p * 60 + i) = -1
      · rw [show py ρ K p i = 0 by unfold py; rw [if_pos c]] at ih1
        simp (disch := omega) only [w32_eq, gI_eq, gB_eq, g0_eq, ix_nat, ix_eq, bd_some, bv_some, Int.toNat_natCast, Int.toNat_zero, sF_1, sF_2, sA_1, sA_2, sR_1, sR_2, ↓reduceIte, if_pos, if_neg]
        exact ih1
      · have hr := (hR.2 (ρ.2 21 (p * 60 + i)).toNat (by omega)).2.1
        rw [show py ρ K p i = pv (ρ.2 22) (ρ.2 23) (ρ.2 24) (ρ.2 0 (ρ.2 21 (p * 60 + i)).toNat) i K by unfold py; rw [if_neg c]] at ih1
        simp (disch := omega) only [w32_eq, gI_eq, gB_eq, g0_eq, ix_nat, ix_eq, bd_some, bv_some, Int.toNat_natCast, Int.toNat_zero, sF_1, sF_2, sA_1, sA_2, sR_1, sR_2, ↓reduceIte, if_pos, if_neg]
        rw [priceOf_eq hK hQ (by unfold rg; omega) (by unfold rg; omega), bd_some]
        exact ih1
theorem billOf_eq {K p : Nat} (hK : K ≤ T) (hp : p < P) (b4 : P ≤ 16) (b2 : R ≤ 24) (hR : IR σ ρ R) (hN : IN σ ρ R P N) (hQ : IQ σ ρ T) : fX11_billOf ρ (p : Int) (K : Int) = some (sm (py ρ K p) N, ρ) := by
  have n3 := hN.2.2.1
  unfold fX11_billOf fX11_billOf_L0
  exact billOf_loop hK hp b4 b2 hR hN hQ 1000 0 (by omega) (by omega)
theorem house_had (hB : Bs σ R P) (hR : IR σ ρ R) (hN : IN σ ρ R P N) {p n : Nat} (hp : p < P) (hn : n < N) : fX5_houseOf σ (ρ.2 21 (p * 60 + n)) = some ((if ρ.2 21 (p * 60 + n) = -1 then -1 else ρ.2 0 (ρ.2 21 (p * 60 + n)).toNat), σ) := by
  obtain ⟨x1, x2, x3⟩ := hN.2.2.2.1 p hp n hn
  by_cases c : ρ.2 21 (p * 60 + n) = -1
  · rw [c, houseOf_f hB, if_pos rfl]
  · obtain ⟨z, hz⟩ : ∃ z : Nat, ρ.2 21 (p * 60 + n) = z := ⟨(ρ.2 21 (p * 60 + n)).toNat, by omega⟩
    rw [if_neg c, hz, houseOf_t hB (by omega), (hR.2 z (by omega)).1, Int.toNat_natCast]
theorem billC_loop {p : Nat} (hp : p < P) (hB : Bs σ R P) (hR : IR σ ρ R) (hN : IN σ ρ R P N) (hQ : IQ σ ρ T) : ∀ (f i : Nat), i ≤ N → N - i < f → fX10_bill_L18 f (p : Int) (sm (py ρ T p) i) (i : Int) σ = some (sm (py ρ T p) N, σ) := by
  obtain ⟨n1, n2, n3, n4, n5⟩ := id hN
  have b4 := hB.2.2.2.1
  intro f
  induction f with
  | zero => intro i _ h; omega
  | succ f ih =>
    intro i hi hf
    have e0 : fX10_bill_L18 (f + 1) (p : Int) (sm (py ρ T p) i) (i : Int) σ = fX10_bill_B18 (fX10_bill_L18 f) (p : Int) (sm (py ρ T p) i) (i : Int) σ := rfl
    rw [e0]
    unfold fX10_bill_B18
    by_cases e : i = N
    · subst e; simp (disch := omega) only [w32_eq, gI_eq, gB_eq, g0_eq, ix_nat, ix_eq, bd_some, bv_some, Int.toNat_natCast, Int.toNat_zero, sF_1, sF_2, sA_1, sA_2, sR_1, sR_2, ↓reduceIte, if_pos, if_neg, n1]
    · have ih1 := ih (i + 1) (by omega) (by omega)
      rw [sm_succ] at ih1
      obtain ⟨x1, x2, x3⟩ := n4 p hp i (by omega)
      simp (disch := omega) only [w32_eq, gI_eq, gB_eq, g0_eq, ix_nat, ix_eq, bd_some, bv_some, Int.toNat_natCast, Int.toNat_zero, sF_1, sF_2, sA_1, sA_2, sR_1, sR_2, ↓reduceIte, if_pos, if_neg, n1]
      rw [lodgingIn_t n1 n3 (by omega) (by omega), x1, bd_some, house_had hB hR hN hp (by omega), bd_some]
      by_cases c : ρ.2 21 (p * 60 + i) = -1
      · rw [show py ρ T p i = 0 by unfold py; rw [if_pos c]] at ih1
        rw [if_pos c, at_none (by omega), bd_some]
        exact ih1
      · have hr := (hR.2 (ρ.2 21 (p * 60 + i)).toNat (by omega)).2.1
        rw [show py ρ T p i = pv (ρ.2 22) (ρ.2 23) (ρ.2 24) (ρ.2 0 (ρ.2 21 (p * 60 + i)).toNat) i T by unfold py; rw [if_neg c]] at ih1
        rw [if_neg c]
        obtain ⟨z, hz⟩ : ∃ z : Nat, ρ.2 0 (ρ.2 21 (p * 60 + i)).toNat = z := ⟨(ρ.2 0 (ρ.2 21 (p * 60 + i)).toNat).toNat, by omega⟩
        rw [hz] at ih1 ⊢
        rw [at_eq hQ (by omega) (by omega), bd_some]
        exact ih1
theorem op_bill0 (h : Inv σ ρ) {a : Int} (ha : rg a) : ∃ r : Int, fX10_bill σ a = some (r, σ) ∧ fX11_bill ρ a = some (r, ρ) := by
  obtain ⟨R, P, N, T, B, hB, hR, hS, hP, hW, hL, hK, hT, hD, hN, hQ, hX⟩ := h
  obtain ⟨b1, b2, b3, b4, b5⟩ := id hB
  unfold rg at ha
  have t2 := hQ.2.1
  have n3 := hN.2.2.1
  unfold fX10_bill fX10_bill_L0 fX11_bill fX11_bill_L0
  by_cases h1 : 0 ≤ a ∧ a < P
  · obtain ⟨p, rfl⟩ : ∃ p : Nat, a = p := ⟨a.toNat, by omega⟩
    rw [pHas_t hB h1, isOne_t hP.1 b4 h1, bd_some, bd_some]
    refine ⟨sm (py ρ T p) N, ?_, ?_⟩
    · rw [show fX10_bill_L18 1000 (p : Int) 0 0 σ = some (sm (py ρ T p) N, σ) from billC_loop (by omega) hB hR hN hQ 1000 0 (by omega) (by omega)]
      simp (disch := omega) only [w32_eq, gI_eq, gB_eq, g0_eq, ix_nat, ix_eq, bd_some, bv_some, Int.toNat_natCast, Int.toNat_zero, sF_1, sF_2, sA_1, sA_2, sR_1, sR_2, ↓reduceIte, if_pos, if_neg]
    · simp (disch := omega) only [w32_eq, gI_eq, gB_eq, g0_eq, ix_nat, ix_eq, bd_some, bv_some, Int.toNat_natCast, Int.toNat_zero, sF_1, sF_2, sA_1, sA_2, sR_1, sR_2, ↓reduceIte, if_pos, if_neg, t2]
      rw [billOf_eq (Nat.le_refl T) (by omega) b4 b2 hR hN hQ, bd_some]
  · rw [pHas_f hB ha (by omega), isOne_f hP.1 b4 ha (by omega)]
    exact ⟨-2, by simp (disch := omega) only [w32_eq, gI_eq, gB_eq, g0_eq, ix_nat, ix_eq, bd_some, bv_some, Int.toNat_natCast, Int.toNat_zero, sF_1, sF_2, sA_1, sA_2, sR_1, sR_2, ↓reduceIte, if_pos, if_neg], by simp (disch := omega) only [w32_eq, gI_eq, gB_eq, g0_eq, ix_nat, ix_eq, bd_some, bv_some, Int.toNat_natCast, Int.toNat_zero, sF_1, sF_2, sA_1, sA_2, sR_1, sR_2, ↓reduceIte, if_pos, if_neg]⟩
theorem op_bill (h : Inv σ ρ) {a : Int} (ha : rg a) : Op (fX10_bill σ a) (fX11_bill ρ a) := by
  obtain ⟨r, e1, e2⟩ := op_bill0 h ha
  exact ⟨r, σ, ρ, e1, e2, h⟩
end EPRICE
