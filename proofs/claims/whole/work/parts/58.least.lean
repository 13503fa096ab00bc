section ELEAST
variable {R F M : Nat} {ch : Nat → Int}
theorem take_loop {ρ : St} (h4 : ρ.1 4 = M) (hM : M ≤ 16) {m r : Nat} (hm : m < M) (hr : r < 24) : ∀ (n i : Nat) (ρ1 : St), i ≤ M → M - i < n → ρ1.1 = ρ.1 → (∀ k : Nat, k ≠ 16 → k ≠ 20 → ρ1.2 k = ρ.2 k) → (∀ k : Nat, k < i → ρ1.2 20 k = ρ.2 16 k ∧ (m < k → ρ1.2 16 k = bAnd (ρ.2 16 k) (bXor (bShl 1 (r : Int)) (-1))) ∧ (k ≤ m → ρ1.2 16 k = ρ.2 16 k)) → (∀ k : Nat, i ≤ k → ρ1.2 16 k = ρ.2 16 k) →
    ∃ ρ' : St, fX11_take_L2 n (m : Int) (r : Int) (i : Int) ρ1 = some ρ' ∧ ρ'.1 = ρ.1 ∧ (∀ k : Nat, k ≠ 16 → k ≠ 20 → ρ'.2 k = ρ.2 k) ∧ (∀ k : Nat, k < M → ρ'.2 20 k = ρ.2 16 k ∧ (m < k → ρ'.2 16 k = bAnd (ρ.2 16 k) (bXor (bShl 1 (r : Int)) (-1))) ∧ (k ≤ m → ρ'.2 16 k = ρ.2 16 k)) := by
  intro n
  induction n with
  | zero => intro i ρ1 _ h; omega
  | succ n ih =>
    intro i ρ1 hi hn k1 k2 k3 k4
    have e0 : fX11_take_L2 (n + 1) (m : Int) (r : Int) (i : Int) ρ1 = fX11_take_B2 (fX11_take_L2 n) (m : Int) (r : Int) (i : Int) ρ1 := rfl
    rw [e0]
    have r4 : ρ1.1 4 = M := by rw [k1]; exact h4
    by_cases e : i = M
    · subst e
      refine ⟨ρ1, ?_, k1, k2, k3⟩
      unfold fX11_take_B2
      simp (disch := omega) only [w32_eq, gI_eq, gB_eq, g0_eq, ix_nat, ix_eq, bd_some, bv_some, Int.toNat_natCast, Int.toNat_zero, sF_1, sF_2, sA_1, sA_2, sR_1, sR_2, ↓reduceIte, if_pos, if_neg, r4]
    · have hiM : i < M := by omega
      have w := k4 i (Nat.le_refl i)
      by_cases c : i ≤ m
      · obtain ⟨ρ', q1, q2⟩ := ih (i + 1) (sA (sA ρ1 20 i (ρ1.2 16 i)) 16 i (ρ1.2 16 i)) (by omega) (by omega) k1 (fun k z1 z2 => by rw [← k2 k z1 z2]; funext j; simp (disch := omega) only [w32_eq, gI_eq, gB_eq, g0_eq, ix_nat, ix_eq, bd_some, bv_some, Int.toNat_natCast, Int.toNat_zero, sF_1, sF_2, sA_1, sA_2, sR_1, sR_2, ↓reduceIte, if_pos, if_neg]) (fun k hk => by
          by_cases ek : k = i
          · subst ek
            refine ⟨by simp (disch := omega) only [w32_eq, gI_eq, gB_eq, g0_eq, ix_nat, ix_eq, bd_some, bv_some, Int.toNat_natCast, Int.toNat_zero, sF_1, sF_2, sA_1, sA_2, sR_1, sR_2, ↓reduceIte, if_pos, if_neg]; exact w, fun z => by omega, fun _ => by simp (disch := omega) only [w32_eq, gI_eq, gB_eq, g0_eq, ix_nat, ix_eq, bd_some, bv_some, Int.toNat_natCast, Int.toNat_zero, sF_1, sF_2, sA_1, sA_2, sR_1, sR_2, ↓reduceIte, if_pos, if_neg]; exact w⟩
          · have y := k3 k (by omega)
            exact ⟨by simp (disch := omega) only [w32_eq, gI_eq, gB_eq, g0_eq, ix_nat, ix_eq, bd_some, bv_some, Int.toNat_natCast, Int.toNat_zero, sF_1, sF_2, sA_1, sA_2, sR_1, sR_2, ↓reduceIte, if_pos, if_neg]; exact y.1, fun z => by omega, fun z => by have := y.2.2 z; simp (disch := omega) only [w32_eq, gI_eq, gB_eq, g0_eq, ix_nat, ix_eq, bd_some, bv_some, Int.toNat_natCast, Int.toNat_zero, sF_1, sF_2, sA_1, sA_2, sR_1, sR_2, ↓reduceIte, if_pos, if_neg]; exact this⟩) (fun k hk => by
          have := k4 k (by omega)
          simp (disch := omega) only [w32_eq, gI_eq, gB_eq, g0_eq, ix_nat, ix_eq, bd_some, bv_some, Int.toNat_natCast, Int.toNat_zero, sF_1, sF_2, sA_1, sA_2, sR_1, sR_2, ↓reduceIte, if_pos, if_neg]; exact this)
        refine ⟨ρ', ?_, q2⟩
        rw [← q1]
        unfold fX11_take_B2
        simp (disch := omega) only [w32_eq, gI_eq, gB_eq, g0_eq, ix_nat, ix_eq, bd_some, bv_some, Int.toNat_natCast, Int.toNat_zero, sF_1, sF_2, sA_1, sA_2, sR_1, sR_2, ↓reduceIte, if_pos, if_neg, r4]
        rfl
      · obtain ⟨ρ', q1, q2⟩ := ih (i + 1) (sA (sA ρ1 20 i (ρ1.2 16 i)) 16 i (bAnd (ρ1.2 16 i) (bXor (bShl 1 (r : Int)) (-1)))) (by omega) (by omega) k1 (fun k z1 z2 => by rw [← k2 k z1 z2]; funext j; simp (disch := omega) only [w32_eq, gI_eq, gB_eq, g0_eq, ix_nat, ix_eq, bd_some, bv_some, Int.toNat_natCast, Int.toNat_zero, sF_1, sF_2, sA_1, sA_2, sR_1, sR_2, ↓reduceIte, if_pos, if_neg]) (fun k hk => by
          by_cases ek : k = i
          · subst ek
            refine ⟨by simp (disch := omega) only [w32_eq, gI_eq, gB_eq, g0_eq, ix_nat, ix_eq, bd_some, bv_some, Int.toNat_natCast, Int.toNat_zero, sF_1, sF_2, sA_1, sA_2, sR_1, sR_2, ↓reduceIte, if_pos, if_neg]; exact w, fun z => by rw [w]; simp (disch := omega) only [w32_eq, gI_eq, gB_eq, g0_eq, ix_nat, ix_eq, bd_some, bv_some, Int.toNat_natCast, Int.toNat_zero, sF_1, sF_2, sA_1, sA_2, sR_1, sR_2, ↓reduceIte, if_pos, if_neg], fun z => by omega⟩
          · have y := k3 k (by omega)
            exact ⟨by simp (disch := omega) only [w32_eq, gI_eq, gB_eq, g0_eq, ix_nat, ix_eq, bd_some, bv_some, Int.toNat_natCast, Int.toNat_zero, sF_1, sF_2, sA_1, sA_2, sR_1, sR_2, ↓reduceIte, if_pos, if_neg]; exact y.1, fun z => by have := y.2.1 z; simp (disch := omega) only [w32_eq, gI_eq, gB_eq, g0_eq, ix_nat, ix_eq, bd_some, bv_some, Int.toNat_natCast, Int.toNat_zero, sF_1, sF_2, sA_1, sA_2, sR_1, sR_2, ↓reduceIte, if_pos, if_neg]; exact this, fun z => by have := y.2.2 z; simp (disch := omega) only [w32_eq, gI_eq, gB_eq, g0_eq, ix_nat, ix_eq, bd_some, bv_some, Int.toNat_natCast, Int.toNat_zero, sF_1, sF_2, sA_1, sA_2, sR_1, sR_2, ↓reduceIte, if_pos, if_neg]; exact this⟩) (fun k hk => by
          have := k4 k (by omega)
          simp (disch := omega) only [w32_eq, gI_eq, gB_eq, g0_eq, ix_nat, ix_eq, bd_some, bv_some, Int.toNat_natCast, Int.toNat_zero, sF_1, sF_2, sA_1, sA_2, sR_1, sR_2, ↓reduceIte, if_pos, if_neg]; exact this)
        refine ⟨ρ', ?_, q2⟩
        rw [← q1]
        unfold fX11_take_B2
        simp (disch := omega) only [w32_eq, gI_eq, gB_eq, g0_eq, ix_nat, ix_eq, bd_some, bv_some, Int.toNat_natCast, Int.toNat_zero, sF_1, sF_2, sA_1, sA_2, sR_1, sR_2, ↓reduceIte, if_pos, if_neg, r4]
        rfl
theorem untake_loop {ρ : St} (h4 : ρ.1 4 = M) (hM : M ≤ 16) : ∀ (n i : Nat) (ρ1 : St), i ≤ M → M - i < n → ρ1.1 = ρ.1 → (∀ k : Nat, k ≠ 16 → ρ1.2 k = ρ.2 k) → (∀ k : Nat, k < i → ρ1.2 16 k = ρ.2 20 k) →
    ∃ ρ' : St, fX11_untake_L2 n (i : Int) ρ1 = some ρ' ∧ ρ'.1 = ρ.1 ∧ (∀ k : Nat, k ≠ 16 → ρ'.2 k = ρ.2 k) ∧ (∀ k : Nat, k < M → ρ'.2 16 k = ρ.2 20 k) := by
  intro n
  induction n with
  | zero => intro i ρ1 _ h; omega
  | succ n ih =>
    intro i ρ1 hi hn k1 k2 k3
    have e0 : fX11_untake_L2 (n + 1) (i : Int) ρ1 = fX11_untake_B2 (fX11_untake_L2 n) (i : Int) ρ1 := rfl
    rw [e0]
    have r4 : ρ1.1 4 = M := by rw [k1]; exact h4
    by_cases e : i = M
    · subst e
      refine ⟨ρ1, ?_, k1, k2, k3⟩
      unfold fX11_untake_B2
      simp (disch := omega) only [w32_eq, gI_eq, gB_eq, g0_eq, ix_nat, ix_eq, bd_some, bv_some, Int.toNat_natCast, Int.toNat_zero, sF_1, sF_2, sA_1, sA_2, sR_1, sR_2, ↓reduceIte, if_pos, if_neg, r4]
    · have hiM : i < M := by omega
      have r20 : ρ1.2 20 = ρ.2 20 := k2 20 (by decide)
      obtain ⟨ρ', q1, q2⟩ := ih (i + 1) (sA ρ1 16 i (ρ1.2 20 i)) (by omega) (by omega) k1 (fun k z1 => by rw [← k2 k z1]; funext j; simp (disch := omega) only [w32_eq, gI_eq, gB_eq, g0_eq, ix_nat, ix_eq, bd_some, bv_some, Int.toNat_natCast, Int.toNat_zero, sF_1, sF_2, sA_1, sA_2, sR_1, sR_2, ↓reduceIte, if_pos, if_neg]) (fun k hk => by
        by_cases ek : k = i
        · subst ek; rw [r20]; simp (disch := omega) only [w32_eq, gI_eq, gB_eq, g0_eq, ix_nat, ix_eq, bd_some, bv_some, Int.toNat_natCast, Int.toNat_zero, sF_1, sF_2, sA_1, sA_2, sR_1, sR_2, ↓reduceIte, if_pos, if_neg]
        · have y := k3 k (by omega)
          simp (disch := omega) only [w32_eq, gI_eq, gB_eq, g0_eq, ix_nat, ix_eq, bd_some, bv_some, Int.toNat_natCast, Int.toNat_zero, sF_1, sF_2, sA_1, sA_2, sR_1, sR_2, ↓reduceIte, if_pos, if_neg]; exact y)
      refine ⟨ρ', ?_, q2⟩
      rw [← q1]
      unfold fX11_untake_B2
      simp (disch := omega) only [w32_eq, gI_eq, gB_eq, g0_eq, ix_nat, ix_eq, bd_some, bv_some, Int.toNat_natCast, Int.toNat_zero, sF_1, sF_2, sA_1, sA_2, sR_1, sR_2, ↓reduceIte, if_pos, if_neg, r4]
      rfl
/-- what the reference leaves alone while one's least ROOM is looked for -/
def FK (ρ ρ' : St) : Prop := ρ'.1 = ρ.1 ∧ ∀ k : Nat, ¬ (16 ≤ k ∧ k ≤ 20) → ρ'.2 k = ρ.2 k
theorem FK.rf {ρ : St} : FK ρ ρ := ⟨rfl, fun _ _ => rfl⟩
theorem FK.tr {a b c : St} (h : FK a b) (g : FK b c) : FK a c := ⟨g.1.trans h.1, fun k hk => (g.2 k hk).trans (h.2 k hk)⟩
theorem Eg_or {G : Int} {k r s : Nat} (hr : r < 32) : Eg ch (bOr G (bShl 1 (r : Int))) k s ↔ Eg ch G k s ∧ s ≠ r := by
  unfold Eg
  rw [tb_or, tb_shl1 hr, Bool.or_eq_false_iff, decide_eq_false_iff_not]
  constructor
  · intro z; exact ⟨⟨z.1, z.2.1⟩, z.2.2⟩
  · intro z; exact ⟨z.1.1, z.1.2, z.2⟩
/-- the least ROOM with which as many as are missing still get one: class and reference alike -/
theorem least_loop {G ms al ld : Int} {m p : Nat} (hR : R ≤ 24) (hM : M ≤ 16) (hm : m < M) (hp : p < 16) (hms : ms = al - ld) (hb : 0 ≤ ld ∧ ld ≤ 16 ∧ 0 ≤ al ∧ al ≤ 16) : ∀ (f n j : Nat) (σ ρ : St), σ.1 0 = R → σ.1 14 = M → ρ.1 0 = R → ρ.1 4 = M → σ.2 21 = ch → (∀ a : Nat, m ≤ a → a < M → ∀ r : Nat, r < R → (tb (ρ.2 16 a) r = true ↔ Eg ch G a r)) → ρ.2 15 m = p → ρ.2 7 p = -1 → j ≤ R → R - j < f → R - j + 1 < n →
    (∃ (r c : Nat) (σ' ρ' : St), r < R ∧ Eg ch G m r ∧ Mx R (m + 1) M (Eg ch (bOr G (bShl 1 (r : Int)))) c ∧ 1 + (c : Int) = ms ∧ fX1_leastRoom_L3 f (m : Int) G ms (j : Int) σ = some ((r : Int), σ') ∧ (∀ k204 : Int → Int → Int → St → Option (Int × St), fX11_strike_L216 k204 n al ld (m : Int) (j : Int) ρ = k204 al (ld + 1) ((m : Int) + 1) (sA ρ' 7 p (r : Int))) ∧ FC σ σ' ∧ FK ρ ρ' ∧ (∀ a : Nat, m + 1 ≤ a → a < M → ∀ s : Nat, s < R → (tb (ρ'.2 16 a) s = true ↔ Eg ch (bOr G (bShl 1 (r : Int))) a s))) ∨
    (∃ σ' ρ' : St, fX1_leastRoom_L3 f (m : Int) G ms (j : Int) σ = some (-1, σ') ∧ (∀ k204 : Int → Int → Int → St → Option (Int × St), fX11_strike_L216 k204 n al ld (m : Int) (j : Int) ρ = k204 al ld ((m : Int) + 1) ρ') ∧ FC σ σ' ∧ FK ρ ρ' ∧ (∀ a : Nat, m ≤ a → a < M → ∀ r : Nat, r < R → (tb (ρ'.2 16 a) r = true ↔ Eg ch G a r)) ∧ (∀ r : Nat, j ≤ r → r < R → Eg ch G m r → ∃ c : Nat, Mx R (m + 1) M (Eg ch (bOr G (bShl 1 (r : Int)))) c ∧ 1 + (c : Int) ≠ ms)) := by
  intro f
  induction f with
  | zero => intro n j σ ρ _ _ _ _ _ _ _ _ _ h; omega
  | succ f ih =>
    intro n j σ ρ s0 s14 r0 r4 s21 hmay h15 h7 hj hf hn
    obtain ⟨n, rfl⟩ : ∃ n' : Nat, n = n' + 1 := ⟨n - 1, by omega⟩
    have e0 : fX1_leastRoom_L3 (f + 1) (m : Int) G ms (j : Int) σ = fX1_leastRoom_B3 (fX1_leastRoom_L3 f) (m : Int) G ms (j : Int) σ := rfl
    have e1 : ∀ k204 : Int → Int → Int → St → Option (Int × St), fX11_strike_L216 k204 (n + 1) al ld (m : Int) (j : Int) ρ = fX11_strike_B216 k204 (fX11_strike_L216 k204 n) al ld (m : Int) (j : Int) ρ := fun _ => rfl
    rw [e0]
    by_cases e : j = R
    · subst e
      right
      refine ⟨σ, ρ, ?_, fun k204 => ?_, FC.rf, FK.rf, hmay, fun r h1 h2 => by omega⟩
      · unfold fX1_leastRoom_B3
        simp (disch := omega) only [w32_eq, gI_eq, gB_eq, g0_eq, ix_nat, ix_eq, bd_some, bv_some, Int.toNat_natCast, Int.toNat_zero, sF_1, sF_2, sA_1, sA_2, sR_1, sR_2, ↓reduceIte, if_pos, if_neg, s0]
      · rw [e1]; unfold fX11_strike_B216
        simp (disch := omega) only [w32_eq, gI_eq, gB_eq, g0_eq, ix_nat, ix_eq, bd_some, bv_some, Int.toNat_natCast, Int.toNat_zero, sF_1, sF_2, sA_1, sA_2, sR_1, sR_2, ↓reduceIte, if_pos, if_neg, r0]
    · have hjR : j < R := by omega
      have ebit := hmay m (Nat.le_refl m) hm j hjR
      have bm := bShr_bit (ρ.2 16 m) (n := j) (by omega)
      have cbit : tb (bAnd (ch m) (bXor G (-1))) j = true ↔ Eg ch G m j := by
        rw [tb_and, tb_not _ (by omega), Bool.and_eq_true]
        unfold Eg
        constructor
        · intro z; exact ⟨z.1, by simpa using z.2⟩
        · intro z; exact ⟨z.1, by rw [z.2]; rfl⟩
      have nb := inBits_eq σ (bAnd (ch m) (bXor G (-1))) (n := j) (by omega)
      by_cases c : Eg ch G m j
      · rw [if_pos (ebit.mpr c)] at bm
        rw [if_pos (cbit.mpr c)] at nb
        obtain ⟨ρ1, t1, t2, t3, t4⟩ := take_loop r4 hM hm (r := j) (by omega) 1000 0 ρ (by omega) (by omega) rfl (fun _ _ _ => rfl) (fun k hk => by omega) (fun _ _ => rfl)
        have may1 : ∀ a : Nat, m + 1 ≤ a → a < M → ∀ s : Nat, s < R → (tb (ρ1.2 16 a) s = true ↔ Eg ch (bOr G (bShl 1 (j : Int))) a s) := by
          intro a h1 h2 s hs
          rw [((t4 a h2).2.1 (by omega)), tb_and, tb_not _ (by omega), tb_shl1 (by omega), Bool.and_eq_true, hmay a (by omega) h2 s hs, Eg_or (by omega)]
          simp
        obtain ⟨cc, σ2, ρ2, m1, m2, m3, m4, m5⟩ := most_eq (F := m + 1) (G := bOr G (bShl 1 (j : Int))) s0 hR s14 hM (by rw [t2]; exact r0) (by rw [t2]; exact r4) s21 may1 (by omega)
        have cle := Mx_le m5
        have fk1 : FK ρ ρ1 := ⟨t2, fun k hk => t3 k (by omega) (by omega)⟩
        have fk2 : FK ρ ρ2 := FK.tr fk1 ⟨m4.1, fun k hk => m4.2 k (by omega)⟩
        have h15' : ρ2.2 15 m = p := by rw [fk2.2 15 (by decide)]; exact h15
        have h7' : ρ2.2 7 p = -1 := by rw [fk2.2 7 (by decide)]; exact h7
        have eC : fX1_leastRoom_B3 (fX1_leastRoom_L3 f) (m : Int) G ms (j : Int) σ = if 1 + (cc : Int) = ms then some ((j : Int), σ2) else fX1_leastRoom_L3 f (m : Int) G ms ((j + 1 : Nat) : Int) σ2 := by
          unfold fX1_leastRoom_B3
          have m1' : fX1_mostFrom σ ((m : Int) + 1) (bOr G (bShl 1 (j : Int))) = some ((cc : Int), σ2) := m1
          by_cases c2 : 1 + (cc : Int) = ms
          · simp (disch := omega) only [w32_eq, gI_eq, gB_eq, g0_eq, ix_nat, ix_eq, bd_some, bv_some, Int.toNat_natCast, Int.toNat_zero, sF_1, sF_2, sA_1, sA_2, sR_1, sR_2, ↓reduceIte, if_pos, if_neg, s0, s21, nb, m1']
          · simp (disch := omega) only [w32_eq, gI_eq, gB_eq, g0_eq, ix_nat, ix_eq, bd_some, bv_some, Int.toNat_natCast, Int.toNat_zero, sF_1, sF_2, sA_1, sA_2, sR_1, sR_2, ↓reduceIte, if_pos, if_neg, s0, s21, nb, m1']
            rfl
        have m2' : fX11_most ρ1 ((m : Int) + 1) = some ((cc : Int), ρ2) := m2
        have t1' : fX11_take ρ (m : Int) (j : Int) = some ρ1 := t1
        by_cases c2 : 1 + (cc : Int) = ms
        · left
          refine ⟨j, cc, σ2, ρ2, hjR, c, m5, c2, ?_, fun k204 => ?_, m3, fk2, fun a h1 h2 s hs => ?_⟩
          · rw [eC, if_pos c2]
          · rw [e1]; unfold fX11_strike_B216
            simp (disch := omega) only [w32_eq, gI_eq, gB_eq, g0_eq, ix_nat, ix_eq, bd_some, bv_some, Int.toNat_natCast, Int.toNat_zero, sF_1, sF_2, sA_1, sA_2, sR_1, sR_2, ↓reduceIte, if_pos, if_neg, r0, h15, h7, bm, t1', m2', h15']
            obtain ⟨n, rfl⟩ : ∃ n' : Nat, n = n' + 1 := ⟨n - 1, by omega⟩
            show fX11_strike_B216 k204 (fX11_strike_L216 k204 n) al (ld + 1) (m : Int) ((j : Int) + 1) (sA ρ2 7 p (j : Int)) = _
            unfold fX11_strike_B216
            have r02 : ρ2.1 0 = R := by rw [fk2.1]; exact r0
            by_cases c4 : j + 1 = R
            · simp (disch := omega) only [w32_eq, gI_eq, gB_eq, g0_eq, ix_nat, ix_eq, bd_some, bv_some, Int.toNat_natCast, Int.toNat_zero, sF_1, sF_2, sA_1, sA_2, sR_1, sR_2, ↓reduceIte, if_pos, if_neg, r02]
            · simp (disch := omega) only [w32_eq, gI_eq, gB_eq, g0_eq, ix_nat, ix_eq, bd_some, bv_some, Int.toNat_natCast, Int.toNat_zero, sF_1, sF_2, sA_1, sA_2, sR_1, sR_2, ↓reduceIte, if_pos, if_neg, r02, h15']
          · rw [m4.2 16 (by decide)]; exact may1 a h1 h2 s hs
        · rw [eC, if_neg c2]
          obtain ⟨ρ3, u1, u2, u3, u4⟩ := untake_loop (ρ := ρ2) (by rw [fk2.1]; exact r4) hM 1000 0 ρ2 (by omega) (by omega) rfl (fun _ _ => rfl) (fun k hk => by omega)
          have u1' : fX11_untake ρ2 (j : Int) = some ρ3 := u1
          have fk3 : FK ρ ρ3 := FK.tr fk2 ⟨u2, fun k hk => u3 k (by omega)⟩
          have back : ∀ k : Nat, k < M → ρ3.2 16 k = ρ.2 16 k := by
            intro k hk
            rw [u4 k hk, m4.2 20 (by decide), (t4 k hk).1]
          have stR : ∀ k204 : Int → Int → Int → St → Option (Int × St), fX11_strike_L216 k204 (n + 1) al ld (m : Int) (j : Int) ρ = fX11_strike_L216 k204 n al ld (m : Int) ((j + 1 : Nat) : Int) ρ3 := by
            intro k204
            rw [e1]; unfold fX11_strike_B216
            simp (disch := omega) only [w32_eq, gI_eq, gB_eq, g0_eq, ix_nat, ix_eq, bd_some, bv_some, Int.toNat_natCast, Int.toNat_zero, sF_1, sF_2, sA_1, sA_2, sR_1, sR_2, ↓reduceIte, if_pos, if_neg, r0, h15, h7, bm, t1', m2', u1']
            rfl
          rcases ih n (j + 1) σ2 ρ3 (by rw [m3.1]; exact s0) (by rw [m3.1]; exact s14) (by rw [fk3.1]; exact r0) (by rw [fk3.1]; exact r4) ((m3.2 21 (by decide)).trans s21) (fun a h1 h2 r hr => by rw [back a h2]; exact hmay a h1 h2 r hr) (by rw [fk3.2 15 (by decide)]; exact h15) (by rw [fk3.2 7 (by decide)]; exact h7) (by omega) (by omega) (by omega) with ⟨r, c', σ', ρ', z1, z2, z3, z4, z5, z6, z7, z8, z9⟩ | ⟨σ', ρ', z5, z6, z7, z8, z9, z10⟩
          · exact Or.inl ⟨r, c', σ', ρ', z1, z2, z3, z4, z5, fun k204 => (stR k204).trans (z6 k204), FC.tr m3 z7, FK.tr fk3 z8, z9⟩
          · refine Or.inr ⟨σ', ρ', z5, fun k204 => (stR k204).trans (z6 k204), FC.tr m3 z7, FK.tr fk3 z8, z9, fun r h1 h2 h3 => ?_⟩
            by_cases er : r = j
            · subst er; exact ⟨cc, m5, c2⟩
            · exact z10 r (by omega) h2 h3
      · rw [if_neg (fun z => c (ebit.mp z))] at bm
        rw [if_neg (fun z => c (cbit.mp z))] at nb
        have eC : fX1_leastRoom_B3 (fX1_leastRoom_L3 f) (m : Int) G ms (j : Int) σ = fX1_leastRoom_L3 f (m : Int) G ms ((j + 1 : Nat) : Int) σ := by
          unfold fX1_leastRoom_B3
          simp (disch := omega) only [w32_eq, gI_eq, gB_eq, g0_eq, ix_nat, ix_eq, bd_some, bv_some, Int.toNat_natCast, Int.toNat_zero, sF_1, sF_2, sA_1, sA_2, sR_1, sR_2, ↓reduceIte, if_pos, if_neg, s0, s21, nb]
          rfl
        have stR : ∀ k204 : Int → Int → Int → St → Option (Int × St), fX11_strike_L216 k204 (n + 1) al ld (m : Int) (j : Int) ρ = fX11_strike_L216 k204 n al ld (m : Int) ((j + 1 : Nat) : Int) ρ := by
          intro k204
          rw [e1]; unfold fX11_strike_B216
          simp (disch := omega) only [w32_eq, gI_eq, gB_eq, g0_eq, ix_nat, ix_eq, bd_some, bv_some, Int.toNat_natCast, Int.toNat_zero, sF_1, sF_2, sA_1, sA_2, sR_1, sR_2, ↓reduceIte, if_pos, if_neg, r0, h15, h7, bm]
          rfl
        rw [eC]
        rcases ih n (j + 1) σ ρ s0 s14 r0 r4 s21 hmay h15 h7 (by omega) (by omega) (by omega) with ⟨r, c', σ', ρ', z1, z2, z3, z4, z5, z6, z7, z8, z9⟩ | ⟨σ', ρ', z5, z6, z7, z8, z9, z10⟩
        · exact Or.inl ⟨r, c', σ', ρ', z1, z2, z3, z4, z5, fun k204 => (stR k204).trans (z6 k204), z7, z8, z9⟩
        · refine Or.inr ⟨σ', ρ', z5, fun k204 => (stR k204).trans (z6 k204), z7, z8, z9, fun r h1 h2 h3 => ?_⟩
          by_cases er : r = j
          · subst er; exact absurd h3 c
          · exact z10 r (by omega) h2 h3
theorem Mx_congr {E E' : Nat → Nat → Prop} {c : Nat} (he : ∀ k : Nat, k < M → ∀ r : Nat, r < R → (E k r ↔ E' k r)) (h : Mx R F M E c) : Mx R F M E' c := by
  have tr : ∀ (A C : Nat → Nat → Prop), (∀ k : Nat, k < M → ∀ r : Nat, r < R → (A k r ↔ C k r)) → ∀ x : Nat → Int, Mt R F M A x → Mt R F M C x := by
    intro A C h x hx
    refine ⟨fun k hk => ?_, hx.2⟩
    rcases hx.1 k hk with z | ⟨z1, r, r1, r2, r3⟩
    · exact Or.inl z
    · exact Or.inr ⟨z1, r, r1, r2, (h k hk r r1).mp r3⟩
  obtain ⟨⟨x, x1, x2⟩, x3⟩ := h
  exact ⟨⟨x, tr E E' he x x1, x2⟩, fun y hy => x3 y (tr E' E (fun k hk r hr => (he k hk r hr).symm) y hy)⟩
theorem Mx_end {E : Nat → Nat → Prop} {c : Nat} (h : Mx R M M E c) : c = 0 := by
  obtain ⟨⟨x, x1, x2⟩, _⟩ := h
  have : ∀ n : Nat, n ≤ M → cnt (fun k => decide (x k ≠ -1)) n = 0 := by
    intro n
    induction n with
    | zero => intro _; rfl
    | succ n ih =>
      intro hn
      have : x n = -1 := by
        rcases x1.1 n (by omega) with z | ⟨z, _⟩
        · exact z
        · omega
      rw [cnt_succ, ih (by omega), this]
      simp
  rw [← x2]; exact this M (Nat.le_refl M)
end ELEAST
