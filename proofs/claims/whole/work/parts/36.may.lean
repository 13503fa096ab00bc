section EMAYR
variable {σ ρ : St} {R P N T B : Nat}
theorem dv_rng {t : Nat → Int} {a d : Nat} (hd : d ≤ 3) (h : ∀ j : Nat, j < d → isFi (t (a + j))) : 0 ≤ dv t a d ∧ dv t a d ≤ 999 := by
  unfold isFi at h
  match d, hd, h with
  | 0, _, _ => exact ⟨by unfold dv; omega, by unfold dv; omega⟩
  | 1, _, h => have h0 := h 0 (by omega); unfold dv dv; omega
  | 2, _, h => have h0 := h 0 (by omega); have h1 := h 1 (by omega); unfold dv dv dv; omega
  | 3, _, h => have h0 := h 0 (by omega); have h1 := h 1 (by omega); have h2 := h 2 (by omega); unfold dv dv dv dv; omega
theorem holdsR_loop {a d : Nat} {v : Int} (hv : rg v) (he : a + 2 + d ≤ 60) (hd : d ≤ 3) (hs : isSi (ρ.2 11 (a + 1))) (hf : ∀ j : Nat, j < d → isFi (ρ.2 11 (a + 2 + j))) : ∀ (f k : Nat), k ≤ d → d - k < f → fX11_holds_L79 f (a : Int) ((a + 2 + d : Nat) : Int) v (dv (ρ.2 11) (a + 2) k) ((a + 2 + k : Nat) : Int) ρ = some (b01 (cm v (ρ.2 11 (a + 1)) (dv (ρ.2 11) (a + 2) d)), ρ) := by
  intro f
  induction f with
  | zero => intro k _ h; omega
  | succ f ih =>
    intro k hk hn
    have e0 : fX11_holds_L79 (f + 1) (a : Int) ((a + 2 + d : Nat) : Int) v (dv (ρ.2 11) (a + 2) k) ((a + 2 + k : Nat) : Int) ρ = fX11_holds_B79 (fX11_holds_L79 f) (a : Int) ((a + 2 + d : Nat) : Int) v (dv (ρ.2 11) (a + 2) k) ((a + 2 + k : Nat) : Int) ρ := rfl
    rw [e0]
    unfold fX11_holds_B79
    by_cases e : k = d
    · subst e
      have r := dv_rng hd hf
      unfold rg at hv
      unfold isSi at hs
      unfold cm b01
      have ei : ((a : Int) + 1).toNat = a + 1 := by omega
      by_cases c1 : ρ.2 11 (a + 1) = 60
      · by_cases c2 : dv (ρ.2 11) (a + 2) k ≤ v
        · simp (disch := omega) only [w32_eq, gI_eq, gB_eq, g0_eq, ix_nat, ix_eq, bd_some, bv_some, Int.toNat_natCast, Int.toNat_zero, sF_1, sF_2, sA_1, sA_2, sR_1, sR_2, ↓reduceIte, if_pos, if_neg, ei, decide_eq_true_eq]
        · simp (disch := omega) only [w32_eq, gI_eq, gB_eq, g0_eq, ix_nat, ix_eq, bd_some, bv_some, Int.toNat_natCast, Int.toNat_zero, sF_1, sF_2, sA_1, sA_2, sR_1, sR_2, ↓reduceIte, if_pos, if_neg, ei, decide_eq_true_eq]
      · by_cases c3 : ρ.2 11 (a + 1) = 61
        · by_cases c2 : v = dv (ρ.2 11) (a + 2) k
          · simp (disch := omega) only [w32_eq, gI_eq, gB_eq, g0_eq, ix_nat, ix_eq, bd_some, bv_some, Int.toNat_natCast, Int.toNat_zero, sF_1, sF_2, sA_1, sA_2, sR_1, sR_2, ↓reduceIte, if_pos, if_neg, ei, decide_eq_true_eq]
          · simp (disch := omega) only [w32_eq, gI_eq, gB_eq, g0_eq, ix_nat, ix_eq, bd_some, bv_some, Int.toNat_natCast, Int.toNat_zero, sF_1, sF_2, sA_1, sA_2, sR_1, sR_2, ↓reduceIte, if_pos, if_neg, ei, decide_eq_true_eq]
        · by_cases c2 : v ≤ dv (ρ.2 11) (a + 2) k
          · simp (disch := omega) only [w32_eq, gI_eq, gB_eq, g0_eq, ix_nat, ix_eq, bd_some, bv_some, Int.toNat_natCast, Int.toNat_zero, sF_1, sF_2, sA_1, sA_2, sR_1, sR_2, ↓reduceIte, if_pos, if_neg, ei, decide_eq_true_eq]
          · simp (disch := omega) only [w32_eq, gI_eq, gB_eq, g0_eq, ix_nat, ix_eq, bd_some, bv_some, Int.toNat_natCast, Int.toNat_zero, sF_1, sF_2, sA_1, sA_2, sR_1, sR_2, ↓reduceIte, if_pos, if_neg, ei, decide_eq_true_eq]
    · have nxt := ih (k + 1) (by omega) (by omega)
      have ed : dv (ρ.2 11) (a + 2) (k + 1) = 10 * dv (ρ.2 11) (a + 2) k + ρ.2 11 (a + 2 + k) - 48 := by
        show 10 * dv (ρ.2 11) (a + 2) k + (ρ.2 11 (a + 2 + k) - 48) = _
        omega
      rw [ed] at nxt
      simp (disch := omega) only [w32_eq, gI_eq, gB_eq, g0_eq, ix_nat, ix_eq, bd_some, bv_some, Int.toNat_natCast, Int.toNat_zero, sF_1, sF_2, sA_1, sA_2, sR_1, sR_2, ↓reduceIte, if_pos, if_neg]
      exact nxt
theorem holdsR_eq {p r a d : Nat} (b4 : P ≤ 16) (b2 : R ≤ 24) (hR : IR σ ρ R) (hP : IP σ ρ P) (hp : p < P) (hr : r < R) (he : a + 2 + d ≤ 60) (hd : d ≤ 3) (hl : isLe (ρ.2 11 a)) (hs : isSi (ρ.2 11 (a + 1))) (hf : ∀ j : Nat, j < d → isFi (ρ.2 11 (a + 2 + j))) : fX11_holds ρ (a : Int) ((a + 2 + d : Nat) : Int) (p : Int) (r : Int) = some (b01 (cm (tv (ρ.2 3 p) (ρ.2 1 r) (ρ.2 2 r) (ρ.2 0 r) (ρ.2 11 a)) (ρ.2 11 (a + 1)) (dv (ρ.2 11) (a + 2) d)), ρ) := by
  obtain ⟨r1, r2, r3, r4, r5, r6⟩ := hR.2 r hr
  obtain ⟨p1, p2, p3, p4⟩ := hP.2 p hp
  unfold isLe at hl
  have lo : ∀ v : Int, rg v → fX11_holds_L79 1000 (a : Int) ((a + 2 + d : Nat) : Int) v 0 ((a : Int) + 2) ρ = some (b01 (cm v (ρ.2 11 (a + 1)) (dv (ρ.2 11) (a + 2) d)), ρ) := by
    intro v hv
    exact holdsR_loop hv he hd hs hf 1000 0 (by omega) (by omega)
  unfold fX11_holds fX11_holds_L0 tv
  by_cases c1 : ρ.2 11 a = 121
  · simp (disch := omega) only [w32_eq, gI_eq, gB_eq, g0_eq, ix_nat, ix_eq, bd_some, bv_some, Int.toNat_natCast, Int.toNat_zero, sF_1, sF_2, sA_1, sA_2, sR_1, sR_2, ↓reduceIte, if_pos, if_neg]
    exact lo _ (by unfold rg; omega)
  by_cases c2 : ρ.2 11 a = 109
  · simp (disch := omega) only [w32_eq, gI_eq, gB_eq, g0_eq, ix_nat, ix_eq, bd_some, bv_some, Int.toNat_natCast, Int.toNat_zero, sF_1, sF_2, sA_1, sA_2, sR_1, sR_2, ↓reduceIte, if_pos, if_neg]
    exact lo _ (by unfold rg; omega)
  by_cases c3 : ρ.2 11 a = 115
  · simp (disch := omega) only [w32_eq, gI_eq, gB_eq, g0_eq, ix_nat, ix_eq, bd_some, bv_some, Int.toNat_natCast, Int.toNat_zero, sF_1, sF_2, sA_1, sA_2, sR_1, sR_2, ↓reduceIte, if_pos, if_neg]
    exact lo _ (by unfold rg; omega)
  · simp (disch := omega) only [w32_eq, gI_eq, gB_eq, g0_eq, ix_nat, ix_eq, bd_some, bv_some, Int.toNat_natCast, Int.toNat_zero, sF_1, sF_2, sA_1, sA_2, sR_1, sR_2, ↓reduceIte, if_pos, if_neg]
    exact lo _ (by unfold rg; omega)
/-- where a TEST ends -/
theorem endR_loop (k44 : Int → Int → Int → Int → Int → St → Option (Int × St)) {p r so al : Int} {a d : Nat} (hB : ρ.1 3 = B) (hB6 : B ≤ 60) (he : a + 2 + d ≤ B) (hc : ∀ i : Nat, i < B → 32 ≤ ρ.2 11 i ∧ ρ.2 11 i ≤ 126) (hf : ∀ j : Nat, j < d → isFi (ρ.2 11 (a + 2 + j))) (hend : a + 2 + d = B ∨ ρ.2 11 (a + 2 + d) = 124 ∨ ρ.2 11 (a + 2 + d) = 38) : ∀ (f k : Nat), k ≤ d → d - k < f → fX11_mayLive_L59 k44 f p r so al (a : Int) ((a + 2 + k : Nat) : Int) ρ = fX11_mayLive_L87 k44 p r so al (a : Int) ((a + 2 + d : Nat) : Int) ρ := by
  intro f
  induction f with
  | zero => intro k _ h; omega
  | succ f ih =>
    intro k hk hn
    have e0 : fX11_mayLive_L59 k44 (f + 1) p r so al (a : Int) ((a + 2 + k : Nat) : Int) ρ = fX11_mayLive_B59 k44 (fX11_mayLive_L59 k44 f) p r so al (a : Int) ((a + 2 + k : Nat) : Int) ρ := rfl
    rw [e0]
    unfold fX11_mayLive_B59
    by_cases e : k = d
    · subst e
      by_cases c : a + 2 + k = B
      · simp (disch := omega) only [w32_eq, gI_eq, gB_eq, g0_eq, ix_nat, ix_eq, bd_some, bv_some, Int.toNat_natCast, Int.toNat_zero, sF_1, sF_2, sA_1, sA_2, sR_1, sR_2, ↓reduceIte, if_pos, if_neg, hB]
      · have q := hc (a + 2 + k) (by omega)
        simp (disch := omega) only [w32_eq, gI_eq, gB_eq, g0_eq, ix_nat, ix_eq, bd_some, bv_some, Int.toNat_natCast, Int.toNat_zero, sF_1, sF_2, sA_1, sA_2, sR_1, sR_2, ↓reduceIte, if_pos, if_neg, hB]
        rw [isFigure_eq ρ (by unfold rg; omega), bd_some, if_neg (show ¬ (48 ≤ ρ.2 11 (a + 2 + k) ∧ ρ.2 11 (a + 2 + k) ≤ 57) by omega)]
        simp (disch := omega) only [w32_eq, gI_eq, gB_eq, g0_eq, ix_nat, ix_eq, bd_some, bv_some, Int.toNat_natCast, Int.toNat_zero, sF_1, sF_2, sA_1, sA_2, sR_1, sR_2, ↓reduceIte, if_pos, if_neg]
    · have nxt := ih (k + 1) (by omega) (by omega)
      have q := hf k (by omega)
      unfold isFi at q
      simp (disch := omega) only [w32_eq, gI_eq, gB_eq, g0_eq, ix_nat, ix_eq, bd_some, bv_some, Int.toNat_natCast, Int.toNat_zero, sF_1, sF_2, sA_1, sA_2, sR_1, sR_2, ↓reduceIte, if_pos, if_neg, hB]
      rw [isFigure_eq ρ (by unfold rg; omega), bd_some, if_pos q]
      simp (disch := omega) only [w32_eq, gI_eq, gB_eq, g0_eq, ix_nat, ix_eq, bd_some, bv_some, Int.toNat_natCast, Int.toNat_zero, sF_1, sF_2, sA_1, sA_2, sR_1, sR_2, ↓reduceIte, if_pos, if_neg]
      exact nxt
/-- one TEST of the reference's reading -/
theorem testR (k44 : Int → Int → Int → Int → Int → St → Option (Int × St)) {p r a d : Nat} {so al hd : Bool} (hB : ρ.1 3 = B) (hB6 : B ≤ 60) (he : a + 2 + d ≤ B) (hh : fX11_holds ρ (a : Int) ((a + 2 + d : Nat) : Int) (p : Int) (r : Int) = some (b01 hd, ρ)) (hc : ∀ i : Nat, i < B → 32 ≤ ρ.2 11 i ∧ ρ.2 11 i ≤ 126) : fX11_mayLive_L87 k44 (p : Int) (r : Int) (b01 so) (b01 al) (a : Int) ((a + 2 + d : Nat) : Int) ρ = if a + 2 + d = B ∨ ρ.2 11 (a + 2 + d) = 124 then k44 (p : Int) (r : Int) (b01 (so || (al && hd))) 1 (((a + 2 + d : Nat) : Int) + 1) ρ else k44 (p : Int) (r : Int) (b01 so) (b01 (al && hd)) (((a + 2 + d : Nat) : Int) + 1) ρ := by
  have e110 : ∀ g : Bool, fX11_mayLive_L110 k44 (p : Int) (r : Int) (b01 so) ((a + 2 + d : Nat) : Int) (b01 g) ρ = if a + 2 + d = B ∨ ρ.2 11 (a + 2 + d) = 124 then k44 (p : Int) (r : Int) (b01 (so || g)) 1 (((a + 2 + d : Nat) : Int) + 1) ρ else k44 (p : Int) (r : Int) (b01 so) (b01 g) (((a + 2 + d : Nat) : Int) + 1) ρ := by
    intro g
    have e133 : fX11_mayLive_L133 k44 (p : Int) (r : Int) (b01 so) (b01 g) ((a + 2 + d : Nat) : Int) ρ = k44 (p : Int) (r : Int) (b01 (so || g)) 1 (((a + 2 + d : Nat) : Int) + 1) ρ := by
      unfold fX11_mayLive_L133
      cases so <;> cases g <;> simp only [b01, Bool.false_eq_true, Bool.or_true, Bool.or_false, Bool.true_or, if_true, if_false] <;> simp (disch := omega) only [w32_eq, gI_eq, gB_eq, g0_eq, ix_nat, ix_eq, bd_some, bv_some, Int.toNat_natCast, Int.toNat_zero, sF_1, sF_2, sA_1, sA_2, sR_1, sR_2, ↓reduceIte, if_pos, if_neg]
    unfold fX11_mayLive_L110
    rw [e133]
    by_cases c : a + 2 + d = B
    · rw [if_pos (Or.inl c)]
      simp (disch := omega) only [w32_eq, gI_eq, gB_eq, g0_eq, ix_nat, ix_eq, bd_some, bv_some, Int.toNat_natCast, Int.toNat_zero, sF_1, sF_2, sA_1, sA_2, sR_1, sR_2, ↓reduceIte, if_pos, if_neg, hB]
    · have q := hc (a + 2 + d) (by omega)
      by_cases c2 : ρ.2 11 (a + 2 + d) = 124
      · rw [if_pos (Or.inr c2)]
        simp (disch := omega) only [w32_eq, gI_eq, gB_eq, g0_eq, ix_nat, ix_eq, bd_some, bv_some, Int.toNat_natCast, Int.toNat_zero, sF_1, sF_2, sA_1, sA_2, sR_1, sR_2, ↓reduceIte, if_pos, if_neg, hB]
      · rw [if_neg (show ¬ (a + 2 + d = B ∨ ρ.2 11 (a + 2 + d) = 124) by omega)]
        simp (disch := omega) only [w32_eq, gI_eq, gB_eq, g0_eq, ix_nat, ix_eq, bd_some, bv_some, Int.toNat_natCast, Int.toNat_zero, sF_1, sF_2, sA_1, sA_2, sR_1, sR_2, ↓reduceIte, if_pos, if_neg, hB]
  unfold fX11_mayLive_L87
  cases al with
  | false =>
    rw [show b01 false = 0 from rfl]
    have e1 := e110 false
    rw [show b01 false = 0 from rfl] at e1
    simp only [Bool.false_and, Bool.or_false]
    simp only [Bool.or_false] at e1
    simp (disch := omega) only [w32_eq, gI_eq, gB_eq, g0_eq, ix_nat, ix_eq, bd_some, bv_some, Int.toNat_natCast, Int.toNat_zero, sF_1, sF_2, sA_1, sA_2, sR_1, sR_2, ↓reduceIte, if_pos, if_neg]
    exact e1
  | true =>
    rw [show b01 true = 1 from rfl, hh, bd_some]
    have e1 := e110 hd
    simp only [Bool.true_and]
    cases hd with
    | false =>
      rw [show b01 false = 0 from rfl] at e1 ⊢
      simp (disch := omega) only [w32_eq, gI_eq, gB_eq, g0_eq, ix_nat, ix_eq, bd_some, bv_some, Int.toNat_natCast, Int.toNat_zero, sF_1, sF_2, sA_1, sA_2, sR_1, sR_2, ↓reduceIte, if_pos, if_neg]
      exact e1
    | true =>
      rw [show b01 true = 1 from rfl] at e1 ⊢
      simp (disch := omega) only [w32_eq, gI_eq, gB_eq, g0_eq, ix_nat, ix_eq, bd_some, bv_some, Int.toNat_natCast, Int.toNat_zero, sF_1, sF_2, sA_1, sA_2, sR_1, sR_2, ↓reduceIte, if_pos, if_neg]
      exact e1
end EMAYR
