section EMATTER
variable {σ ρ : St} {R P N T B : Nat}
theorem sA_sR_ne (σ : St) {j k : Nat} (hjk : j ≠ k) (g : Nat → Int) (i : Nat) (v : Int) : sA (sR σ k g) j i v = sR (sA σ j i v) k g := by
  unfold sA sR; dsimp only
  refine Prod.ext rfl ?_
  funext m
  dsimp only
  by_cases h1 : m = j
  · subst h1; simp [hjk]
  · by_cases h2 : m = k
    · subst h2; simp [h1]
    · simp [h1, h2]
/-- since which NIGHT a telling counts, by the class's row -/
def sn (f : Nat → Int) (x : Int) : Int := if 0 ≤ x ∧ x ≤ 39 then f x.toNat else -1
theorem sinceOf_eq (σ : St) {x : Int} (hx : rg x) : fX4_sinceOf σ x = some (sn (σ.2 27) x, σ) := by
  unfold rg at hx
  unfold fX4_sinceOf fX4_sinceOf_L0 sn
  by_cases h : 0 ≤ x ∧ x ≤ 39
  · simp (disch := omega) only [w32_eq, gI_eq, gB_eq, g0_eq, ix_nat, ix_eq, bd_some, bv_some, Int.toNat_natCast, Int.toNat_zero, sF_1, sF_2, sA_1, sA_2, sR_1, sR_2, ↓reduceIte, if_pos, if_neg, within_eq]
  · simp (disch := omega) only [w32_eq, gI_eq, gB_eq, g0_eq, ix_nat, ix_eq, bd_some, bv_some, Int.toNat_natCast, Int.toNat_zero, sF_1, sF_2, sA_1, sA_2, sR_1, sR_2, ↓reduceIte, if_pos, if_neg, within_eq]
theorem tell_loop {h a : Nat} (hh : h < 8) (ha : a < 60) (σ : St) (hT : σ.1 16 = T) (hT4 : T < 40) (hs : ∀ k : Nat, k ≤ T → rg (σ.2 27 k)) : ∀ (n j : Nat) (f c : Nat → Int), a ≤ j → j ≤ 60 → 60 - j < n → (∀ m : Nat, m < 480 → c m = -1 ∨ (0 ≤ c m ∧ c m ≤ T)) →
    fX4_tell_L48 n (h : Int) (a : Int) (j : Int) (sR (sR σ 30 f) 29 c) = some ((T : Int) + 1, sF (sR (sR σ 30 (fun k => if j ≤ k ∧ k < 60 then c (h * 60 + k) else f k)) 29 (fun m => if h * 60 + j ≤ m ∧ m < h * 60 + 60 ∧ sn (σ.2 27) (c m) ≤ a then (T : Int) else c m)) 16 ((T : Int) + 1)) := by
  intro n
  induction n with
  | zero => intro j f c _ _ h; omega
  | succ n ih =>
    intro j f c haj hj hn hc
    have e0 : fX4_tell_L48 (n + 1) (h : Int) (a : Int) (j : Int) (sR (sR σ 30 f) 29 c) = fX4_tell_B48 (fX4_tell_L48 n) (h : Int) (a : Int) (j : Int) (sR (sR σ 30 f) 29 c) := rfl
    rw [e0]
    unfold fX4_tell_B48
    by_cases e : j = 60
    · subst e
      simp (disch := omega) only [w32_eq, gI_eq, gB_eq, g0_eq, ix_nat, ix_eq, bd_some, bv_some, Int.toNat_natCast, Int.toNat_zero, sF_1, sF_2, sA_1, sA_2, sR_1, sR_2, ↓reduceIte, if_pos, if_neg, hT]
    · have hcj0 := hc (h * 60 + j) (by omega)
      have hcj : rg (c (h * 60 + j)) := by unfold rg; omega
      have hsj : rg (sn (σ.2 27) (c (h * 60 + j))) := by
        unfold sn
        split
        · exact hs _ (by omega)
        · unfold rg; omega
      simp (disch := omega) only [w32_eq, gI_eq, gB_eq, g0_eq, ix_nat, ix_eq, bd_some, bv_some, Int.toNat_natCast, Int.toNat_zero, sF_1, sF_2, sA_1, sA_2, sR_1, sR_2, ↓reduceIte, if_pos, if_neg]
      rw [show ((h : Int) * 60 + (j : Int)).toNat = h * 60 + j by omega]
      rw [sA_sR_ne _ (by decide : (30 : Nat) ≠ 29), sA_sR, sinceOf_eq _ hcj, bd_some]
      have es : ∀ (f' c' : Nat → Int), (sR (sR σ 30 f') 29 c').2 27 = σ.2 27 := fun _ _ => rfl
      rw [es]
      unfold rg at hcj hsj
      by_cases c1 : sn (σ.2 27) (c (h * 60 + j)) ≤ a
      · simp (disch := omega) only [w32_eq, gI_eq, gB_eq, g0_eq, ix_nat, ix_eq, bd_some, bv_some, Int.toNat_natCast, Int.toNat_zero, sF_1, sF_2, sA_1, sA_2, sR_1, sR_2, ↓reduceIte, if_pos, if_neg, hT]
        rw [sA_sR]
        refine (ih (j + 1) _ _ (by omega) (by omega) (by omega) (fun m hm => ?_)).trans ?_
        · by_cases e2 : m = h * 60 + j
          · rw [if_pos e2]; omega
          · rw [if_neg e2]; exact hc m hm
        · have f1 : (fun k => if j + 1 ≤ k ∧ k < 60 then (if h * 60 + k = h * 60 + j then (T : Int) else c (h * 60 + k)) else if k = j then c (h * 60 + j) else f k) = fun k => if j ≤ k ∧ k < 60 then c (h * 60 + k) else f k := by
            funext k
            by_cases q1 : j + 1 ≤ k ∧ k < 60
            · rw [if_pos q1, if_neg (by omega), if_pos (by omega)]
            · rw [if_neg q1]
              by_cases q2 : k = j
              · rw [if_pos q2, if_pos (by omega), q2]
              · rw [if_neg q2, if_neg (by omega)]
          have f2 : (fun m => if h * 60 + (j + 1) ≤ m ∧ m < h * 60 + 60 ∧ sn (σ.2 27) (if m = h * 60 + j then (T : Int) else c m) ≤ a then (T : Int) else if m = h * 60 + j then (T : Int) else c m) = fun m => if h * 60 + j ≤ m ∧ m < h * 60 + 60 ∧ sn (σ.2 27) (c m) ≤ a then (T : Int) else c m := by
            funext m
            by_cases q1 : m = h * 60 + j
            · subst q1
              rw [if_neg (by omega), if_pos rfl, if_pos ⟨by omega, by omega, c1⟩]
            · rw [if_neg q1]
              by_cases q2 : h * 60 + (j + 1) ≤ m ∧ m < h * 60 + 60 ∧ sn (σ.2 27) (c m) ≤ a
              · rw [if_pos q2, if_pos (by omega)]
              · rw [if_neg q2, if_neg (by omega)]
          rw [f1, f2]
      · simp (disch := omega) only [w32_eq, gI_eq, gB_eq, g0_eq, ix_nat, ix_eq, bd_some, bv_some, Int.toNat_natCast, Int.toNat_zero, sF_1, sF_2, sA_1, sA_2, sR_1, sR_2, ↓reduceIte, if_pos, if_neg]
        refine (ih (j + 1) _ _ (by omega) (by omega) (by omega) hc).trans ?_
        have f1 : (fun k => if j + 1 ≤ k ∧ k < 60 then c (h * 60 + k) else if k = j then c (h * 60 + j) else f k) = fun k => if j ≤ k ∧ k < 60 then c (h * 60 + k) else f k := by
          funext k
          by_cases q1 : j + 1 ≤ k ∧ k < 60
          · rw [if_pos q1, if_pos (by omega)]
          · rw [if_neg q1]
            by_cases q2 : k = j
            · rw [if_pos q2, if_pos (by omega), q2]
            · rw [if_neg q2, if_neg (by omega)]
        have f2 : (fun m => if h * 60 + (j + 1) ≤ m ∧ m < h * 60 + 60 ∧ sn (σ.2 27) (c m) ≤ a then (T : Int) else c m) = fun m => if h * 60 + j ≤ m ∧ m < h * 60 + 60 ∧ sn (σ.2 27) (c m) ≤ a then (T : Int) else c m := by
          funext m
          by_cases q1 : m = h * 60 + j
          · subst q1
            rw [if_neg (by omega), if_neg (fun z => c1 z.2.2)]
          · by_cases q2 : h * 60 + (j + 1) ≤ m ∧ m < h * 60 + 60 ∧ sn (σ.2 27) (c m) ≤ a
            · rw [if_pos q2, if_pos (by omega)]
            · rw [if_neg q2, if_neg (by omega)]
        rw [f1, f2]
theorem op_price (h : Inv σ ρ) {a b c : Int} (ha : rg a) (hb : rg b) (hc : rg c) : Op (fX10_price σ a b c) (fX11_price ρ a b c) := by
  have hI := h
  obtain ⟨R, P, N, T, B, hB, hR, hS, hP, hW, hL, hK, hT, hD, hN, hQ, hX⟩ := h
  unfold rg at ha hb hc
  obtain ⟨t1, t2, t3, t4, t5, t6⟩ := id hQ
  by_cases hok : (0 ≤ a ∧ a ≤ 7) ∧ (0 ≤ b ∧ b ≤ 59) ∧ (0 ≤ c ∧ c ≤ 999)
  · obtain ⟨h1, h2, h3⟩ := hok
    by_cases h4 : T = 40
    · refine ⟨-4, σ, ρ, ?_, ?_, hI⟩
      · unfold fX10_price fX10_price_L0
        simp (disch := omega) only [w32_eq, gI_eq, gB_eq, g0_eq, ix_nat, ix_eq, bd_some, bv_some, Int.toNat_natCast, Int.toNat_zero, sF_1, sF_2, sA_1, sA_2, sR_1, sR_2, ↓reduceIte, if_pos, if_neg, within_eq, t1]
      · unfold fX11_price fX11_price_L0
        simp (disch := omega) only [w32_eq, gI_eq, gB_eq, g0_eq, ix_nat, ix_eq, bd_some, bv_some, Int.toNat_natCast, Int.toNat_zero, sF_1, sF_2, sA_1, sA_2, sR_1, sR_2, ↓reduceIte, if_pos, if_neg, in_eq, t2]
    · obtain ⟨x, rfl⟩ : ∃ p : Nat, a = p := ⟨a.toNat, by omega⟩
      obtain ⟨y, rfl⟩ : ∃ n : Nat, b = n := ⟨b.toNat, by omega⟩
      have hcr : ∀ m : Nat, m < 480 → σ.2 29 m = -1 ∨ (0 ≤ σ.2 29 m ∧ σ.2 29 m ≤ T) := by
        intro m hm
        have q := t5 (m / 60) (m % 60) (by omega) (by omega)
        rw [show m / 60 * 60 + m % 60 = m by omega] at q
        rw [q]
        have := bst_rng (ρ.2 22) (ρ.2 23) ((m / 60 : Nat) : Int) ((m % 60 : Nat) : Int) T
        omega
      obtain ⟨σ1, hσ1⟩ : ∃ s : St, s = sF (sA (sA σ 27 T (y : Int)) 28 T c) 17 (x : Int) := ⟨_, rfl⟩
      have hs27 : ∀ k : Nat, σ1.2 27 k = if k = T then (y : Int) else σ.2 27 k := fun k => by
        rw [hσ1]
        simp (disch := omega) only [w32_eq, gI_eq, gB_eq, g0_eq, ix_nat, ix_eq, bd_some, bv_some, Int.toNat_natCast, Int.toNat_zero, sF_1, sF_2, sA_1, sA_2, sR_1, sR_2, ↓reduceIte, if_pos, if_neg]
      have hs29 : σ1.2 29 = σ.2 29 := by rw [hσ1]; rfl
      have hs30 : σ1.2 30 = σ.2 30 := by rw [hσ1]; rfl
      have hs16 : σ1.1 16 = T := by rw [hσ1]; exact t1
      have hsn : ∀ z : Int, z = -1 ∨ (0 ≤ z ∧ z < T) → sn (σ1.2 27) z = if z = -1 then -1 else ρ.2 23 z.toNat := by
        intro z hz
        unfold sn
        rcases hz with rfl | hz
        · rw [if_neg (by omega), if_pos rfl]
        · rw [if_pos (by omega), if_neg (by omega), hs27, if_neg (by omega), (t4 z.toNat (by omega)).1]
      have hsr : ∀ k : Nat, k ≤ T → rg (σ1.2 27 k) := by
        intro k hk
        rw [hs27]
        by_cases e : k = T
        · rw [if_pos e]; unfold rg; omega
        · have := t4 k (by omega)
          rw [if_neg e, this.1]; unfold rg; omega
      have hloop := tell_loop (h := x) (a := y) (by omega) (by omega) σ1 hs16 (by omega) hsr 1000 y (σ.2 30) (σ.2 29) (by omega) (by omega) (by omega) hcr
      rw [show sR (sR σ1 30 (σ.2 30)) 29 (σ.2 29) = σ1 by rw [← hs30, sR_self, ← hs29, sR_self]] at hloop
      refine ⟨(T : Int) + 1, sF (sR (sR σ1 30 (fun k => if y ≤ k ∧ k < 60 then σ.2 29 (x * 60 + k) else σ.2 30 k)) 29 (fun m => if x * 60 + y ≤ m ∧ m < x * 60 + 60 ∧ sn (σ1.2 27) (σ.2 29 m) ≤ y then (T : Int) else σ.2 29 m)) 16 ((T : Int) + 1), sF (sA (sA (sA ρ 22 T (x : Int)) 23 T (y : Int)) 24 T c) 6 ((T : Int) + 1), ?_, ?_, ?_⟩
      · unfold fX10_price fX10_price_L0 fX4_tell fX4_tell_L0 fX4_isListed fX4_isListed_L0
        simp (disch := omega) only [w32_eq, gI_eq, gB_eq, g0_eq, ix_nat, ix_eq, bd_some, bv_some, Int.toNat_natCast, Int.toNat_zero, sF_1, sF_2, sA_1, sA_2, sR_1, sR_2, ↓reduceIte, if_pos, if_neg, within_eq, t1]
        rw [← hσ1, hloop, bd_some]
      · unfold fX11_price fX11_price_L0
        simp (disch := omega) only [w32_eq, gI_eq, gB_eq, g0_eq, ix_nat, ix_eq, bd_some, bv_some, Int.toNat_natCast, Int.toNat_zero, sF_1, sF_2, sA_1, sA_2, sR_1, sR_2, ↓reduceIte, if_pos, if_neg, in_eq, t2]
      · have bc : ∀ (h' n' : Int), bst ((sF (sA (sA (sA ρ 22 T (x : Int)) 23 T (y : Int)) 24 T c) 6 ((T : Int) + 1)).2 22) ((sF (sA (sA (sA ρ 22 T (x : Int)) 23 T (y : Int)) 24 T c) 6 ((T : Int) + 1)).2 23) h' n' T = bst (ρ.2 22) (ρ.2 23) h' n' T := by
          intro h' n'
          refine bst_congr h' n' T (fun j hj => ?_)
          simp (disch := omega) only [w32_eq, gI_eq, gB_eq, g0_eq, ix_nat, ix_eq, bd_some, bv_some, Int.toNat_natCast, Int.toNat_zero, sF_1, sF_2, sA_1, sA_2, sR_1, sR_2, ↓reduceIte, if_pos, if_neg]
          exact ⟨trivial, trivial⟩
        have e22 : (sF (sA (sA (sA ρ 22 T (x : Int)) 23 T (y : Int)) 24 T c) 6 ((T : Int) + 1)).2 22 T = x := by simp (disch := omega) only [w32_eq, gI_eq, gB_eq, g0_eq, ix_nat, ix_eq, bd_some, bv_some, Int.toNat_natCast, Int.toNat_zero, sF_1, sF_2, sA_1, sA_2, sR_1, sR_2, ↓reduceIte, if_pos, if_neg]
        have e23 : ∀ k : Nat, (sF (sA (sA (sA ρ 22 T (x : Int)) 23 T (y : Int)) 24 T c) 6 ((T : Int) + 1)).2 23 k = if k = T then (y : Int) else ρ.2 23 k := fun k => by simp (disch := omega) only [w32_eq, gI_eq, gB_eq, g0_eq, ix_nat, ix_eq, bd_some, bv_some, Int.toNat_natCast, Int.toNat_zero, sF_1, sF_2, sA_1, sA_2, sR_1, sR_2, ↓reduceIte, if_pos, if_neg]
        refine ⟨R, P, N, T + 1, B, by rw [hσ1]; exact hB, by rw [hσ1]; exact hR, by rw [hσ1]; exact hS, by rw [hσ1]; exact hP, by rw [hσ1]; exact hW, by rw [hσ1]; exact hL, by rw [hσ1]; exact hK, by rw [hσ1]; exact hT, by rw [hσ1]; exact hD, by rw [hσ1]; exact hN, ⟨by (simp (disch := omega) only [w32_eq, gI_eq, gB_eq, g0_eq, ix_nat, ix_eq, bd_some, bv_some, Int.toNat_natCast, Int.toNat_zero, sF_1, sF_2, sA_1, sA_2, sR_1, sR_2, ↓reduceIte, if_pos, if_neg, true_and, and_true] <;> omega), by (simp (disch := omega) only [w32_eq, gI_eq, gB_eq, g0_eq, ix_nat, ix_eq, bd_some, bv_some, Int.toNat_natCast, Int.toNat_zero, sF_1, sF_2, sA_1, sA_2, sR_1, sR_2, ↓reduceIte, if_pos, if_neg, true_and, and_true] <;> omega), by omega, fun k hk => ?_, fun h' n' hh hn => ?_, fun _ => ⟨?_, fun n' hn hn6 => ?_⟩⟩, by rw [hσ1]; exact hX⟩
        · by_cases e : k = T
          · subst e
            rw [hσ1]
            simp (disch := omega) only [w32_eq, gI_eq, gB_eq, g0_eq, ix_nat, ix_eq, bd_some, bv_some, Int.toNat_natCast, Int.toNat_zero, sF_1, sF_2, sA_1, sA_2, sR_1, sR_2, ↓reduceIte, if_pos, if_neg]
            exact ⟨trivial, trivial, h1, h2, h3⟩
          · have q := t4 k (by omega)
            rw [hσ1]
            simp (disch := omega) only [w32_eq, gI_eq, gB_eq, g0_eq, ix_nat, ix_eq, bd_some, bv_some, Int.toNat_natCast, Int.toNat_zero, sF_1, sF_2, sA_1, sA_2, sR_1, sR_2, ↓reduceIte, if_pos, if_neg]
            exact q
        · have r := bst_rng (ρ.2 22) (ρ.2 23) (h' : Int) (n' : Int) T
          have q := t5 h' n' hh hn
          have g29 : (sF (sR (sR σ1 30 (fun k => if y ≤ k ∧ k < 60 then σ.2 29 (x * 60 + k) else σ.2 30 k)) 29 (fun m => if x * 60 + y ≤ m ∧ m < x * 60 + 60 ∧ sn (σ1.2 27) (σ.2 29 m) ≤ y then (T : Int) else σ.2 29 m)) 16 ((T : Int) + 1)).2 29 (h' * 60 + n') = if x * 60 + y ≤ h' * 60 + n' ∧ h' * 60 + n' < x * 60 + 60 ∧ sn (σ1.2 27) (σ.2 29 (h' * 60 + n')) ≤ y then (T : Int) else σ.2 29 (h' * 60 + n') := by simp (disch := omega) only [w32_eq, gI_eq, gB_eq, g0_eq, ix_nat, ix_eq, bd_some, bv_some, Int.toNat_natCast, Int.toNat_zero, sF_1, sF_2, sA_1, sA_2, sR_1, sR_2, ↓reduceIte, if_pos, if_neg]
          rw [g29, bst_succ, bc, e22, e23, e23, if_pos rfl, q, hsn _ r]
          by_cases c1 : x = h'
          · subst c1
            by_cases c2 : y ≤ n'
            · rcases r with r | r
              · rw [if_pos r, r]
                rw [if_pos ⟨by omega, by omega, by omega⟩, if_pos ⟨rfl, by omega, Or.inl rfl⟩]
              · rw [if_neg (show ¬ bst (ρ.2 22) (ρ.2 23) (x : Int) (n' : Int) T = -1 by omega)]
                rw [if_neg (show ¬ (bst (ρ.2 22) (ρ.2 23) (x : Int) (n' : Int) T).toNat = T by omega)]
                by_cases c3 : ρ.2 23 (bst (ρ.2 22) (ρ.2 23) (x : Int) (n' : Int) T).toNat ≤ y
                · rw [if_pos ⟨by omega, by omega, c3⟩, if_pos ⟨rfl, by omega, Or.inr c3⟩]
                · rw [if_neg (fun z => c3 z.2.2), if_neg (fun z => by rcases z.2.2 with z | z; omega; exact c3 z)]
            · rw [if_neg (by omega), if_neg (by omega)]
          · rw [if_neg (by omega), if_neg (by omega)]
        · rw [hσ1]
          simp (disch := omega) only [w32_eq, gI_eq, gB_eq, g0_eq, ix_nat, ix_eq, bd_some, bv_some, Int.toNat_natCast, Int.toNat_zero, sF_1, sF_2, sA_1, sA_2, sR_1, sR_2, ↓reduceIte, if_pos, if_neg]
        · rw [show T + 1 - 1 = T by omega] at hn ⊢
          have hn : (y : Int) ≤ n' := by rw [e23, if_pos rfl] at hn; exact hn
          rw [bc]
          have g17 : (sF (sR (sR σ1 30 (fun k => if y ≤ k ∧ k < 60 then σ.2 29 (x * 60 + k) else σ.2 30 k)) 29 (fun m => if x * 60 + y ≤ m ∧ m < x * 60 + 60 ∧ sn (σ1.2 27) (σ.2 29 m) ≤ y then (T : Int) else σ.2 29 m)) 16 ((T : Int) + 1)).1 17 = x := by rw [hσ1]; simp (disch := omega) only [w32_eq, gI_eq, gB_eq, g0_eq, ix_nat, ix_eq, bd_some, bv_some, Int.toNat_natCast, Int.toNat_zero, sF_1, sF_2, sA_1, sA_2, sR_1, sR_2, ↓reduceIte, if_pos, if_neg]
          have g30 : (sF (sR (sR σ1 30 (fun k => if y ≤ k ∧ k < 60 then σ.2 29 (x * 60 + k) else σ.2 30 k)) 29 (fun m => if x * 60 + y ≤ m ∧ m < x * 60 + 60 ∧ sn (σ1.2 27) (σ.2 29 m) ≤ y then (T : Int) else σ.2 29 m)) 16 ((T : Int) + 1)).2 30 n' = σ.2 29 (x * 60 + n') := by simp (disch := omega) only [w32_eq, gI_eq, gB_eq, g0_eq, ix_nat, ix_eq, bd_some, bv_some, Int.toNat_natCast, Int.toNat_zero, sF_1, sF_2, sA_1, sA_2, sR_1, sR_2, ↓reduceIte, if_pos, if_neg]
          rw [g17, g30]
          exact t5 x n' (by omega) hn6
  · refine ⟨-2, σ, ρ, ?_, ?_, hI⟩
    · unfold fX10_price fX10_price_L0
      by_cases h1 : 0 ≤ a ∧ a ≤ 7
      · by_cases h2 : 0 ≤ b ∧ b ≤ 59
        · simp (disch := omega) only [w32_eq, gI_eq, gB_eq, g0_eq, ix_nat, ix_eq, bd_some, bv_some, Int.toNat_natCast, Int.toNat_zero, sF_1, sF_2, sA_1, sA_2, sR_1, sR_2, ↓reduceIte, if_pos, if_neg, within_eq]
        · simp (disch := omega) only [w32_eq, gI_eq, gB_eq, g0_eq, ix_nat, ix_eq, bd_some, bv_some, Int.toNat_natCast, Int.toNat_zero, sF_1, sF_2, sA_1, sA_2, sR_1, sR_2, ↓reduceIte, if_pos, if_neg, within_eq]
      · simp (disch := omega) only [w32_eq, gI_eq, gB_eq, g0_eq, ix_nat, ix_eq, bd_some, bv_some, Int.toNat_natCast, Int.toNat_zero, sF_1, sF_2, sA_1, sA_2, sR_1, sR_2, ↓reduceIte, if_pos, if_neg, within_eq]
    · unfold fX11_price fX11_price_L0
      by_cases h1 : 0 ≤ a ∧ a ≤ 7
      · by_cases h2 : 0 ≤ b ∧ b ≤ 59
        · simp (disch := omega) only [w32_eq, gI_eq, gB_eq, g0_eq, ix_nat, ix_eq, bd_some, bv_some, Int.toNat_natCast, Int.toNat_zero, sF_1, sF_2, sA_1, sA_2, sR_1, sR_2, ↓reduceIte, if_pos, if_neg, in_eq]
        · simp (disch := omega) only [w32_eq, gI_eq, gB_eq, g0_eq, ix_nat, ix_eq, bd_some, bv_some, Int.toNat_natCast, Int.toNat_zero, sF_1, sF_2, sA_1, sA_2, sR_1, sR_2, ↓reduceIte, if_pos, if_neg, in_eq]
      · simp (disch := omega) only [w32_eq, gI_eq, gB_eq, g0_eq, ix_nat, ix_eq, bd_some, bv_some, Int.toNat_natCast, Int.toNat_zero, sF_1, sF_2, sA_1, sA_2, sR_1, sR_2, ↓reduceIte, if_pos, if_neg, in_eq]
/-- the HOUSE in which one lived in a NIGHT, or NONE -/
def hs (ρ : St) (p n : Nat) : Int := if ρ.2 21 (p * 60 + n) = -1 then -1 else ρ.2 0 (ρ.2 21 (p * 60 + n)).toNat
theorem lodgers_loop (hB : Bs σ R P) (hR : IR σ ρ R) (hN : IN σ ρ R P N) {n : Nat} (hn : n < N) {h : Int} (hh : rg h) : ∀ (f i : Nat), i ≤ P → P - i < f → fX10_lodgersAt_L5 f h (n : Int) (sm (fun p => if hs ρ p n = h then 1 else 0) i) (i : Int) σ = some (sm (fun p => if hs ρ p n = h then 1 else 0) P, σ) := by
  obtain ⟨n1, n2, n3, n4, n5⟩ := id hN
  obtain ⟨b1, b2, b3, b4, b5⟩ := id hB
  unfold rg at hh
  intro f
  induction f with
  | zero => intro i _ h; omega
  | succ f ih =>
    intro i hi hf
    have e0 : fX10_lodgersAt_L5 (f + 1) h (n : Int) (sm (fun p => if hs ρ p n = h then 1 else 0) i) (i : Int) σ = fX10_lodgersAt_B5 (fX10_lodgersAt_L5 f) h (n : Int) (sm (fun p => if hs ρ p n = h then 1 else 0) i) (i : Int) σ := rfl
    rw [e0]
    unfold fX10_lodgersAt_B5
    by_cases e : i = P
    · subst e; simp (disch := omega) only [w32_eq, gI_eq, gB_eq, g0_eq, ix_nat, ix_eq, bd_some, bv_some, Int.toNat_natCast, Int.toNat_zero, sF_1, sF_2, sA_1, sA_2, sR_1, sR_2, ↓reduceIte, if_pos, if_neg, b3]
    · have ih1 := ih (i + 1) (by omega) (by omega)
      rw [sm_succ] at ih1
      obtain ⟨x1, x2, x3⟩ := n4 i (by omega) n hn
      have hhs : rg (hs ρ i n) := by
        unfold hs rg
        by_cases c : ρ.2 21 (i * 60 + n) = -1
        · rw [if_pos c]; omega
        · have := (hR.2 (ρ.2 21 (i * 60 + n)).toNat (by omega)).2.1
          rw [if_neg c]; omega
      unfold rg at hhs
      simp (disch := omega) only [w32_eq, gI_eq, gB_eq, g0_eq, ix_nat, ix_eq, bd_some, bv_some, Int.toNat_natCast, Int.toNat_zero, sF_1, sF_2, sA_1, sA_2, sR_1, sR_2, ↓reduceIte, if_pos, if_neg, b3]
      rw [lodgingIn_t n1 n3 (by omega) hn, x1, bd_some, house_had hB hR hN (by omega) hn, bd_some]
      rw [show (if ρ.2 21 (i * 60 + n) = -1 then -1 else ρ.2 0 (ρ.2 21 (i * 60 + n)).toNat) = hs ρ i n from rfl]
      by_cases c : hs ρ i n = h
      · rw [if_pos c] at ih1
        simp (disch := omega) only [w32_eq, gI_eq, gB_eq, g0_eq, ix_nat, ix_eq, bd_some, bv_some, Int.toNat_natCast, Int.toNat_zero, sF_1, sF_2, sA_1, sA_2, sR_1, sR_2, ↓reduceIte, if_pos, if_neg]
        exact ih1
      · rw [if_neg c, Int.add_zero] at ih1
        simp (disch := omega) only [w32_eq, gI_eq, gB_eq, g0_eq, ix_nat, ix_eq, bd_some, bv_some, Int.toNat_natCast, Int.toNat_zero, sF_1, sF_2, sA_1, sA_2, sR_1, sR_2, ↓reduceIte, if_pos, if_neg]
        exact ih1
/-- what the latest telling makes of a NIGHT's PRICE -/
def dp (ρ : St) (T n : Nat) : Int := if ρ.2 23 (T - 1) ≤ n then pv (ρ.2 22) (ρ.2 23) (ρ.2 24) (ρ.2 22 (T - 1)) n (T - 1) - pv (ρ.2 22) (ρ.2 23) (ρ.2 24) (ρ.2 22 (T - 1)) n T else 0
theorem drop_eq (hQ : IQ σ ρ T) (hT : 0 < T) {n : Nat} (hn : n < 60) : fX4_dropWithoutLatest σ (n : Int) = some (dp ρ T n, σ) := by
  obtain ⟨t1, t2, t3, t4, t5, t6⟩ := id hQ
  obtain ⟨t7, t8⟩ := t6 hT
  have q := t4 (T - 1) (by omega)
  unfold fX4_dropWithoutLatest fX4_dropWithoutLatest_L0 fX4_dropWithoutLatest_L35 fX4_isListed fX4_isListed_L0
  rw [t1, show (T : Int) - 1 = ((T - 1 : Nat) : Int) by omega, sinceOf_eq σ (by unfold rg; omega), bd_some]
  have e1 : sn (σ.2 27) ((T - 1 : Nat) : Int) = ρ.2 23 (T - 1) := by
    unfold sn
    rw [if_pos (by omega), Int.toNat_natCast, q.1]
  rw [e1]
  unfold dp
  by_cases c : ρ.2 23 (T - 1) ≤ n
  · rw [if_pos c]
    have g := t8 n c hn
    obtain ⟨x, hx⟩ : ∃ x : Nat, ρ.2 22 (T - 1) = x := ⟨(ρ.2 22 (T - 1)).toNat, by omega⟩
    rw [t7, hx] at g
    have vo := valueOf_eq hQ (x := σ.2 30 n) (by rw [g]; have := bst_rng (ρ.2 22) (ρ.2 23) (x : Int) (n : Int) (T - 1); omega)
    simp (disch := omega) only [w32_eq, gI_eq, gB_eq, g0_eq, ix_nat, ix_eq, bd_some, bv_some, Int.toNat_natCast, Int.toNat_zero, sF_1, sF_2, sA_1, sA_2, sR_1, sR_2, ↓reduceIte, if_pos, if_neg, within_eq, t7, hx]
    rw [vo, bd_some, t7, hx, at_eq hQ (by omega) hn, bd_some, g]
    rfl
  · rw [if_neg c]
    simp (disch := omega) only [w32_eq, gI_eq, gB_eq, g0_eq, ix_nat, ix_eq, bd_some, bv_some, Int.toNat_natCast, Int.toNat_zero, sF_1, sF_2, sA_1, sA_2, sR_1, sR_2, ↓reduceIte, if_pos, if_neg, within_eq]
theorem pay_diff (hQ : IQ σ ρ T) (hT : 0 < T) (p n : Nat) : py ρ (T - 1) p n - py ρ T p n = (if hs ρ p n = ρ.2 22 (T - 1) then 1 else 0) * dp ρ T n := by
  have q := hQ.2.2.2.1 (T - 1) (by omega)
  unfold py hs
  by_cases c : ρ.2 21 (p * 60 + n) = -1
  · rw [if_pos c, if_pos c, if_pos c, if_neg (by omega)]; omega
  · rw [if_neg c, if_neg c, if_neg c]
    by_cases c1 : ρ.2 0 (ρ.2 21 (p * 60 + n)).toNat = ρ.2 22 (T - 1)
    · rw [if_pos c1, c1]
      unfold dp
      by_cases c2 : ρ.2 23 (T - 1) ≤ n
      · rw [if_pos c2]; omega
      · rw [if_neg c2]
        have : bst (ρ.2 22) (ρ.2 23) (ρ.2 22 (T - 1)) n T = bst (ρ.2 22) (ρ.2 23) (ρ.2 22 (T - 1)) n (T - 1) := by
          obtain ⟨K, rfl⟩ : ∃ K : Nat, T = K + 1 := ⟨T - 1, by omega⟩
          rw [bst_succ, if_neg (fun z => c2 z.2.1)]; rfl
        unfold pv
        rw [this]; omega
    · rw [if_neg c1]
      have : bst (ρ.2 22) (ρ.2 23) (ρ.2 0 (ρ.2 21 (p * 60 + n)).toNat) n T = bst (ρ.2 22) (ρ.2 23) (ρ.2 0 (ρ.2 21 (p * 60 + n)).toNat) n (T - 1) := by
        obtain ⟨K, rfl⟩ : ∃ K : Nat, T = K + 1 := ⟨T - 1, by omega⟩
        rw [bst_succ, if_neg (fun z => c1 z.1.symm)]; rfl
      unfold pv
      rw [this]; omega
theorem matterC_loop (hB : Bs σ R P) (hR : IR σ ρ R) (hN : IN σ ρ R P N) (hQ : IQ σ ρ T) (hT : 0 < T) : ∀ (f i : Nat), i ≤ N → N - i < f → fX10_matter_L17 f (sm (fun n => sm (fun p => if hs ρ p n = ρ.2 22 (T - 1) then 1 else 0) P * dp ρ T n) i) (i : Int) σ = some (sm (fun n => sm (fun p => if hs ρ p n = ρ.2 22 (T - 1) then 1 else 0) P * dp ρ T n) N, σ) := by
  obtain ⟨n1, n2, n3, n4, n5⟩ := id hN
  obtain ⟨t7, t8⟩ := hQ.2.2.2.2.2 hT
  have q := hQ.2.2.2.1 (T - 1) (by omega)
  have b4 := hB.2.2.2.1
  intro f
  induction f with
  | zero => intro i _ h; omega
  | succ f ih =>
    intro i hi hf
    have e0 : fX10_matter_L17 (f + 1) (sm (fun n => sm (fun p => if hs ρ p n = ρ.2 22 (T - 1) then 1 else 0) P * dp ρ T n) i) (i : Int) σ = fX10_matter_B17 (fX10_matter_L17 f) (sm (fun n => sm (fun p => if hs ρ p n = ρ.2 22 (T - 1) then 1 else 0) P * dp ρ T n) i) (i : Int) σ := rfl
    rw [e0]
    unfold fX10_matter_B17
    by_cases e : i = N
    · subst e; simp (disch := omega) only [w32_eq, gI_eq, gB_eq, g0_eq, ix_nat, ix_eq, bd_some, bv_some, Int.toNat_natCast, Int.toNat_zero, sF_1, sF_2, sA_1, sA_2, sR_1, sR_2, ↓reduceIte, if_pos, if_neg, n1]
    · have ih1 := ih (i + 1) (by omega) (by omega)
      rw [sm_succ] at ih1
      have lo : fX10_lodgersAt σ (ρ.2 22 (T - 1)) (i : Int) = some (sm (fun p => if hs ρ p i = ρ.2 22 (T - 1) then 1 else 0) P, σ) := by
        unfold fX10_lodgersAt fX10_lodgersAt_L0
        exact lodgers_loop hB hR hN (by omega) (by unfold rg; omega) 1000 0 (by omega) (by omega)
      rw [t7, lo]
      simp (disch := omega) only [w32_eq, gI_eq, gB_eq, g0_eq, ix_nat, ix_eq, bd_some, bv_some, Int.toNat_natCast, Int.toNat_zero, sF_1, sF_2, sA_1, sA_2, sR_1, sR_2, ↓reduceIte, if_pos, if_neg, n1]
      rw [drop_eq hQ hT (by omega), bd_some]
      exact ih1
theorem matterR_loop (b4 : P ≤ 16) (b2 : R ≤ 24) (hP : IP σ ρ P) (hR : IR σ ρ R) (hN : IN σ ρ R P N) (hQ : IQ σ ρ T) (hT : 0 < T) : ∀ (f i : Nat), i ≤ P → P - i < f → fX11_matter_L14 f (sm (fun p => sm (py ρ (T - 1) p) N - sm (py ρ T p) N) i) (i : Int) ρ = some (sm (fun p => sm (py ρ (T - 1) p) N - sm (py ρ T p) N) P, ρ) := by
  have p1 := hP.1
  have t2 := hQ.2.1
  intro f
  induction f with
  | zero => intro i _ h; omega
  | succ f ih =>
    intro i hi hf
    have e0 : fX11_matter_L14 (f + 1) (sm (fun p => sm (py ρ (T - 1) p) N - sm (py ρ T p) N) i) (i : Int) ρ = fX11_matter_B14 (fX11_matter_L14 f) (sm (fun p => sm (py ρ (T - 1) p) N - sm (py ρ T p) N) i) (i : Int) ρ := rfl
    rw [e0]
    unfold fX11_matter_B14
    by_cases e : i = P
    · subst e; simp (disch := omega) only [w32_eq, gI_eq, gB_eq, g0_eq, ix_nat, ix_eq, bd_some, bv_some, Int.toNat_natCast, Int.toNat_zero, sF_1, sF_2, sA_1, sA_2, sR_1, sR_2, ↓reduceIte, if_pos, if_neg, p1]
    · have ih1 := ih (i + 1) (by omega) (by omega)
      rw [sm_succ] at ih1
      rw [t2, show (T : Int) - 1 = ((T - 1 : Nat) : Int) by omega, billOf_eq (K := T - 1) (by omega) (by omega) b4 b2 hR hN hQ]
      simp (disch := omega) only [w32_eq, gI_eq, gB_eq, g0_eq, ix_nat, ix_eq, bd_some, bv_some, Int.toNat_natCast, Int.toNat_zero, sF_1, sF_2, sA_1, sA_2, sR_1, sR_2, ↓reduceIte, if_pos, if_neg, p1, t2]
      rw [billOf_eq (Nat.le_refl T) (by omega) b4 b2 hR hN hQ, bd_some]
      exact ih1
theorem op_matter (h : Inv σ ρ) : Op (fX10_matter σ) (fX11_matter ρ) := by
  have hI := h
  obtain ⟨R, P, N, T, B, hB, hR, hS, hP, hW, hL, hK, hT, hD, hN, hQ, hX⟩ := h
  obtain ⟨b1, b2, b3, b4, b5⟩ := id hB
  have t1 := hQ.1
  have t2 := hQ.2.1
  have t3 := hQ.2.2.1
  have n3 := hN.2.2.1
  unfold fX10_matter fX10_matter_L0 fX11_matter fX11_matter_L0
  by_cases h0 : T = 0
  · subst h0
    exact ⟨-2147483648, σ, ρ, by simp (disch := omega) only [w32_eq, gI_eq, gB_eq, g0_eq, ix_nat, ix_eq, bd_some, bv_some, Int.toNat_natCast, Int.toNat_zero, sF_1, sF_2, sA_1, sA_2, sR_1, sR_2, ↓reduceIte, if_pos, if_neg, t1], by simp (disch := omega) only [w32_eq, gI_eq, gB_eq, g0_eq, ix_nat, ix_eq, bd_some, bv_some, Int.toNat_natCast, Int.toNat_zero, sF_1, sF_2, sA_1, sA_2, sR_1, sR_2, ↓reduceIte, if_pos, if_neg, t2], hI⟩
  · have c1 := matterC_loop hB hR hN hQ (by omega) 1000 0 (by omega) (by omega)
    have c2 := matterR_loop b4 b2 hP hR hN hQ (by omega) 1000 0 (by omega) (by omega)
    have e : sm (fun p => sm (py ρ (T - 1) p) N - sm (py ρ T p) N) P = sm (fun n => sm (fun p => if hs ρ p n = ρ.2 22 (T - 1) then 1 else 0) P * dp ρ T n) N := by
      have e1 : sm (fun p => sm (py ρ (T - 1) p) N - sm (py ρ T p) N) P = sm (fun p => sm (fun n => (if hs ρ p n = ρ.2 22 (T - 1) then 1 else 0) * dp ρ T n) N) P := by
        refine sm_congr (fun p _ => ?_)
        rw [← sm_sub]
        exact sm_congr (fun n _ => pay_diff hQ (by omega) p n)
      rw [e1, sm_swap]
      exact sm_congr (fun n _ => sm_mul _ _ _)
    rw [e] at c2
    refine ⟨sm (fun n => sm (fun p => if hs ρ p n = ρ.2 22 (T - 1) then 1 else 0) P * dp ρ T n) N, σ, ρ, ?_, ?_, hI⟩
    · rw [show fX10_matter_L17 1000 0 0 σ = some (sm (fun n => sm (fun p => if hs ρ p n = ρ.2 22 (T - 1) then 1 else 0) P * dp ρ T n) N, σ) from c1]
      simp (disch := omega) only [w32_eq, gI_eq, gB_eq, g0_eq, ix_nat, ix_eq, bd_some, bv_some, Int.toNat_natCast, Int.toNat_zero, sF_1, sF_2, sA_1, sA_2, sR_1, sR_2, ↓reduceIte, if_pos, if_neg, t1]
    · rw [show fX11_matter_L14 1000 0 0 ρ = some (sm (fun n => sm (fun p => if hs ρ p n = ρ.2 22 (T - 1) then 1 else 0) P * dp ρ T n) N, ρ) from c2]
      simp (disch := omega) only [w32_eq, gI_eq, gB_eq, g0_eq, ix_nat, ix_eq, bd_some, bv_some, Int.toNat_natCast, Int.toNat_zero, sF_1, sF_2, sA_1, sA_2, sR_1, sR_2, ↓reduceIte, if_pos, if_neg, t2]
end EMATTER
