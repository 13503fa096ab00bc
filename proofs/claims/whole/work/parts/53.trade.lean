section EMOVEALL
variable {R P N T B : Nat}
/-- how many of the first i change -/
def chg (h a : Nat → Int) : Nat → Int
  | 0 => 0
  | i + 1 => if h i = a i then chg h a i else chg h a i + 1
theorem chg_succ (h a : Nat → Int) (i : Nat) : chg h a (i + 1) = if h i = a i then chg h a i else chg h a i + 1 := rfl
theorem chgR_loop {ρ : St} {u2 u3 u4 : Int} (h2 : ρ.1 2 = P) (b4 : P ≤ 16) (hr : ∀ q : Nat, q < P → rg (ρ.2 14 q) ∧ rg (ρ.2 7 q)) : ∀ (n i : Nat), i ≤ P → P - i < n → fX11_trade_L333 n u2 u3 u4 (chg (ρ.2 14) (ρ.2 7) i) (i : Int) ρ = fX11_trade_L378 1000 u2 u3 u4 (chg (ρ.2 14) (ρ.2 7) P) 0 ρ := by
  intro n
  induction n with
  | zero => intro i _ h; omega
  | succ n ih =>
    intro i hi hn
    have e0 : fX11_trade_L333 (n + 1) u2 u3 u4 (chg (ρ.2 14) (ρ.2 7) i) (i : Int) ρ = fX11_trade_B333 (fX11_trade_L333 n) u2 u3 u4 (chg (ρ.2 14) (ρ.2 7) i) (i : Int) ρ := rfl
    rw [e0]
    unfold fX11_trade_B333
    by_cases e : i = P
    · subst e
      simp (disch := omega) only [w32_eq, gI_eq, gB_eq, g0_eq, ix_nat, ix_eq, bd_some, bv_some, Int.toNat_natCast, Int.toNat_zero, sF_1, sF_2, sA_1, sA_2, sR_1, sR_2, ↓reduceIte, if_pos, if_neg, h2]
    · obtain ⟨r1, r2⟩ := hr i (by omega)
      unfold rg at r1 r2
      have ih1 := ih (i + 1) (by omega) (by omega)
      rw [chg_succ] at ih1
      by_cases c : ρ.2 14 i = ρ.2 7 i
      · rw [if_pos c] at ih1
        simp (disch := omega) only [w32_eq, gI_eq, gB_eq, g0_eq, ix_nat, ix_eq, bd_some, bv_some, Int.toNat_natCast, Int.toNat_zero, sF_1, sF_2, sA_1, sA_2, sR_1, sR_2, ↓reduceIte, if_pos, if_neg, h2, Int.add_zero]
        exact ih1
      · rw [if_neg c] at ih1
        simp (disch := omega) only [w32_eq, gI_eq, gB_eq, g0_eq, ix_nat, ix_eq, bd_some, bv_some, Int.toNat_natCast, Int.toNat_zero, sF_1, sF_2, sA_1, sA_2, sR_1, sR_2, ↓reduceIte, if_pos, if_neg, h2]
        exact ih1
theorem copyR_loop {ρ : St} {u2 u3 u4 c : Int} (h2 : ρ.1 2 = P) (b4 : P ≤ 16) : ∀ (n i : Nat) (g : Nat → Int), i ≤ P → P - i < n → (∀ q : Nat, q < i → g q = ρ.2 14 q) → ∃ g' : Nat → Int, (∀ q : Nat, q < P → g' q = ρ.2 14 q) ∧ fX11_trade_L378 n u2 u3 u4 c (i : Int) (sR ρ 7 g) = some (c, sA (sA (sA (sR ρ 7 g') 12 0 u2) 12 1 u3) 12 2 u4) := by
  intro n
  induction n with
  | zero => intro i g _ h; omega
  | succ n ih =>
    intro i g hi hn hg
    have e0 : fX11_trade_L378 (n + 1) u2 u3 u4 c (i : Int) (sR ρ 7 g) = fX11_trade_B378 (fX11_trade_L378 n) u2 u3 u4 c (i : Int) (sR ρ 7 g) := rfl
    rw [e0]
    unfold fX11_trade_B378
    by_cases e : i = P
    · subst e
      refine ⟨g, hg, ?_⟩
      simp (disch := omega) only [w32_eq, gI_eq, gB_eq, g0_eq, ix_nat, ix_eq, bd_some, bv_some, Int.toNat_natCast, Int.toNat_zero, sF_1, sF_2, sA_1, sA_2, sR_1, sR_2, ↓reduceIte, if_pos, if_neg, h2]
      rfl
    · obtain ⟨g', q1, q2⟩ := ih (i + 1) (fun q => if q = i then ρ.2 14 i else g q) (by omega) (by omega) (fun q hq => by
        by_cases eq : q = i
        · subst eq; simp only [if_pos]
        · simp only [if_neg eq]; exact hg q (by omega))
      refine ⟨g', q1, ?_⟩
      rw [← q2]
      simp (disch := omega) only [w32_eq, gI_eq, gB_eq, g0_eq, ix_nat, ix_eq, bd_some, bv_some, Int.toNat_natCast, Int.toNat_zero, sF_1, sF_2, sA_1, sA_2, sR_1, sR_2, ↓reduceIte, if_pos, if_neg, h2]
      rw [sA_sR]
      rfl
theorem settle_raw {σ : St} (hB : Bs σ R P) {p r : Nat} (hp : p < P) (hr : r < R) : fX7_settle σ (p : Int) (r : Int) = some (sF (sA (sA σ 9 p (r : Int)) 4 r (p : Int)) 2 (bOr (σ.1 2) (bShl 1 (r : Int)))) := by
  obtain ⟨b1, b2, b3, b4, b5⟩ := id hB
  unfold fX7_settle fX7_settle_L0
  rw [pHas_t hB (by omega), bd_some, rHas_t hB (by omega), bd_some]
  simp (disch := omega) only [w32_eq, gI_eq, gB_eq, g0_eq, ix_nat, ix_eq, bd_some, bv_some, Int.toNat_natCast, Int.toNat_zero, sF_1, sF_2, sA_1, sA_2, sR_1, sR_2, ↓reduceIte, if_pos, if_neg]
/-- all who TRADE move -/
theorem moveAll_loop {σ ρ : St} (h : Dl σ ρ R P N T B) {tr : Int} {w : Nat → Nat} (hG : Gts P tr 0 (σ.2 19) (ρ.2 14) (ρ.2 7) w) (hpos : ∀ q : Nat, q < P → tb tr q = true → 0 ≤ ρ.2 7 q) :
    ∀ (f i : Nat) (s : St), i ≤ P → P - i < f → (∀ k : Nat, k ≠ 2 → s.1 k = σ.1 k) → (∀ k : Nat, k ≠ 4 → k ≠ 9 → s.2 k = σ.2 k) → (∀ q : Nat, q < P → s.2 9 q = if q < i then ρ.2 14 q else ρ.2 7 q) → (∀ r : Nat, (∀ q : Nat, q < i → tb tr q = true → ρ.2 14 q = r → s.2 4 r = q) ∧ ((∀ q : Nat, q < i → tb tr q = true → ρ.2 14 q ≠ r) → s.2 4 r = σ.2 4 r)) → (∀ k : Nat, k < 32 → tb (s.1 2) k = tb (σ.1 2) k) →
    ∃ s' : St, fX8_moveAll_L4 f tr (chg (ρ.2 14) (ρ.2 7) i) (i : Int) s = some (chg (ρ.2 14) (ρ.2 7) P, s') ∧ (∀ k : Nat, k ≠ 2 → s'.1 k = σ.1 k) ∧ (∀ k : Nat, k ≠ 4 → k ≠ 9 → s'.2 k = σ.2 k) ∧ (∀ q : Nat, q < P → s'.2 9 q = ρ.2 14 q) ∧ (∀ r : Nat, (∀ q : Nat, q < P → tb tr q = true → ρ.2 14 q = r → s'.2 4 r = q) ∧ ((∀ q : Nat, q < P → tb tr q = true → ρ.2 14 q ≠ r) → s'.2 4 r = σ.2 4 r)) ∧ (∀ k : Nat, k < 32 → tb (s'.1 2) k = tb (σ.1 2) k) := by
  obtain ⟨hC, hL, hH⟩ := id h
  have hB := hC.1
  obtain ⟨b1, b2, b3, b4, b5⟩ := id hB
  obtain ⟨H1, H2, H3, H4⟩ := id hG
  have dn : ∀ q : Nat, q < P → tb tr q = true → Dn P tr 0 q := fun q a b => ⟨a, b, tb_0 q⟩
  intro f
  induction f with
  | zero => intro i s _ h; omega
  | succ f ih =>
    intro i s hi hf k1 k2 k9 k4 kt
    have e0 : fX8_moveAll_L4 (f + 1) tr (chg (ρ.2 14) (ρ.2 7) i) (i : Int) s = fX8_moveAll_B4 (fX8_moveAll_L4 f) tr (chg (ρ.2 14) (ρ.2 7) i) (i : Int) s := rfl
    rw [e0]
    unfold fX8_moveAll_B4
    have s3 : s.1 3 = P := (k1 3 (by decide)).trans b3
    have hBs : Bs s R P := by
      unfold Bs
      rw [k1 0 (by decide), k1 3 (by decide), k1 9 (by decide)]
      exact hB
    by_cases e : i = P
    · subst e
      refine ⟨s, by simp (disch := omega) only [w32_eq, gI_eq, gB_eq, g0_eq, ix_nat, ix_eq, bd_some, bv_some, Int.toNat_natCast, Int.toNat_zero, sF_1, sF_2, sA_1, sA_2, sR_1, sR_2, ↓reduceIte, if_pos, if_neg, s3], k1, k2, fun q hq => by rw [k9 q hq, if_pos hq], k4, kt⟩
    · have hiP : i < P := by omega
      have l9 : s.2 9 i = ρ.2 7 i := by rw [k9 i hiP, if_neg (by omega)]
      obtain ⟨l1, l2, l3⟩ := hL.1 i hiP
      rw [inBits_eq s tr (by omega), bd_some]
      cases c : tb tr i with
      | true =>
        obtain ⟨d1, d2, d3⟩ := H1 i (dn i hiP c)
        have wP := d1.1
        have wpos := hpos (w i) wP d1.2.1
        obtain ⟨m1, m2, m3⟩ := hL.1 (w i) wP
        obtain ⟨r, hr⟩ : ∃ r : Nat, ρ.2 14 i = r := ⟨(ρ.2 14 i).toNat, by omega⟩
        have hrR : r < R := by omega
        have g19 : s.2 19 i = r := by rw [k2 19 (by decide) (by decide), d2, ← d3, hr]
        have hold : σ.2 4 r = w i := ((hL.2.1 r hrR).2.2 (w i) wP).mp (by rw [← d3, hr])
        have tkn : tb (σ.1 2) r = true := (hL.2.2 r (by omega)).mpr ⟨hrR, by omega⟩
        obtain ⟨s1, hs1⟩ : ∃ s1 : St, s1 = sF (sA (sA s 9 i (r : Int)) 4 r (i : Int)) 2 (bOr (s.1 2) (bShl 1 (r : Int))) := ⟨_, rfl⟩
        have hset : fX7_settle s (i : Int) (r : Int) = some s1 := by rw [hs1]; exact settle_raw hBs hiP hrR
        obtain ⟨s', q1, q2⟩ := ih (i + 1) s1 (by omega) (by omega) (fun k hk => by rw [hs1]; simp (disch := omega) only [w32_eq, gI_eq, gB_eq, g0_eq, ix_nat, ix_eq, bd_some, bv_some, Int.toNat_natCast, Int.toNat_zero, sF_1, sF_2, sA_1, sA_2, sR_1, sR_2, ↓reduceIte, if_pos, if_neg]; exact k1 k hk) (fun k h4 h9 => by rw [hs1, ← k2 k h4 h9]; funext j; simp (disch := omega) only [w32_eq, gI_eq, gB_eq, g0_eq, ix_nat, ix_eq, bd_some, bv_some, Int.toNat_natCast, Int.toNat_zero, sF_1, sF_2, sA_1, sA_2, sR_1, sR_2, ↓reduceIte, if_pos, if_neg]) (fun q hq => by
          rw [hs1]
          by_cases eq : q = i
          · subst eq
            rw [if_pos (by omega), hr]
            simp (disch := omega) only [w32_eq, gI_eq, gB_eq, g0_eq, ix_nat, ix_eq, bd_some, bv_some, Int.toNat_natCast, Int.toNat_zero, sF_1, sF_2, sA_1, sA_2, sR_1, sR_2, ↓reduceIte, if_pos, if_neg]
          · have := k9 q hq
            by_cases cq : q < i
            · rw [if_pos cq] at this
              rw [if_pos (show q < i + 1 by omega), ← this]
              simp (disch := omega) only [w32_eq, gI_eq, gB_eq, g0_eq, ix_nat, ix_eq, bd_some, bv_some, Int.toNat_natCast, Int.toNat_zero, sF_1, sF_2, sA_1, sA_2, sR_1, sR_2, ↓reduceIte, if_pos, if_neg]
            · rw [if_neg cq] at this
              rw [if_neg (show ¬ q < i + 1 by omega), ← this]
              simp (disch := omega) only [w32_eq, gI_eq, gB_eq, g0_eq, ix_nat, ix_eq, bd_some, bv_some, Int.toNat_natCast, Int.toNat_zero, sF_1, sF_2, sA_1, sA_2, sR_1, sR_2, ↓reduceIte, if_pos, if_neg]) (fun r' => by
          have kk := k4 r'
          rw [hs1]
          by_cases er : r' = r
          · subst er
            refine ⟨fun q hq hq2 hq3 => ?_, fun z => absurd hr (z i (by omega) c)⟩
            have : q = i := by
              have y := H1 q (dn q (by omega) hq2)
              have x1 : ρ.2 7 (w q) = r' := by rw [← y.2.2, hq3]
              have x2 : ρ.2 7 (w i) = r' := by rw [← d3, hr]
              exact H3 q i (dn q (by omega) hq2) (dn i hiP c) (IL_inj hL y.1.1 wP hrR x1 x2)
            subst this
            simp (disch := omega) only [w32_eq, gI_eq, gB_eq, g0_eq, ix_nat, ix_eq, bd_some, bv_some, Int.toNat_natCast, Int.toNat_zero, sF_1, sF_2, sA_1, sA_2, sR_1, sR_2, ↓reduceIte, if_pos, if_neg]
          · refine ⟨fun q hq hq2 hq3 => ?_, fun z => ?_⟩
            · have : q ≠ i := by
                intro z; subst z; omega
              have y := kk.1 q (by omega) hq2 hq3
              simp (disch := omega) only [w32_eq, gI_eq, gB_eq, g0_eq, ix_nat, ix_eq, bd_some, bv_some, Int.toNat_natCast, Int.toNat_zero, sF_1, sF_2, sA_1, sA_2, sR_1, sR_2, ↓reduceIte, if_pos, if_neg]; exact y
            · have y := kk.2 (fun q hq => z q (by omega))
              simp (disch := omega) only [w32_eq, gI_eq, gB_eq, g0_eq, ix_nat, ix_eq, bd_some, bv_some, Int.toNat_natCast, Int.toNat_zero, sF_1, sF_2, sA_1, sA_2, sR_1, sR_2, ↓reduceIte, if_pos, if_neg]; exact y) (fun k hk => by
          rw [hs1]
          show tb (bOr (s.1 2) (bShl 1 (r : Int))) k = _
          rw [tb_or, tb_shl1 (by omega), kt k hk]
          by_cases ek : k = r
          · subst ek; rw [tkn]; rfl
          · simp only [ek, decide_false, Bool.or_false])
        refine ⟨s', ?_, q2⟩
        rw [← q1, lodgingOf_t hBs hiP, bd_some, l9, chg_succ]
        unfold fX8_moveAll_L46
        by_cases cc : ρ.2 14 i = ρ.2 7 i
        · rw [if_pos cc]
          simp (disch := omega) only [w32_eq, gI_eq, gB_eq, g0_eq, ix_nat, ix_eq, bd_some, bv_some, Int.toNat_natCast, Int.toNat_zero, sF_1, sF_2, sA_1, sA_2, sR_1, sR_2, ↓reduceIte, if_pos, if_neg, s3, g19]
          rw [hset, bv_some, Int.add_zero]
          rfl
        · rw [if_neg cc]
          simp (disch := omega) only [w32_eq, gI_eq, gB_eq, g0_eq, ix_nat, ix_eq, bd_some, bv_some, Int.toNat_natCast, Int.toNat_zero, sF_1, sF_2, sA_1, sA_2, sR_1, sR_2, ↓reduceIte, if_pos, if_neg, s3, g19]
          rw [hset, bv_some]
          rfl
      | false =>
        have nd : ¬ Dn P tr 0 i := fun z => by have := z.2.1; rw [c] at this; cases this
        have same := H2 i hiP nd
        obtain ⟨s', q1, q2⟩ := ih (i + 1) s (by omega) (by omega) k1 k2 (fun q hq => by
          have := k9 q hq
          by_cases eq : q = i
          · subst eq
            rw [if_pos (by omega), l9, same]
          · by_cases cq : q < i
            · rw [if_pos cq] at this
              rw [if_pos (show q < i + 1 by omega)]; exact this
            · rw [if_neg cq] at this
              rw [if_neg (show ¬ q < i + 1 by omega)]; exact this) (fun r' => by
          have kk := k4 r'
          refine ⟨fun q hq hq2 hq3 => ?_, fun z => kk.2 (fun q hq => z q (by omega))⟩
          by_cases eq : q = i
          · subst eq; rw [c] at hq2; cases hq2
          · exact kk.1 q (by omega) hq2 hq3) kt
        refine ⟨s', ?_, q2⟩
        rw [← q1, chg_succ, if_pos same]
        simp (disch := omega) only [w32_eq, gI_eq, gB_eq, g0_eq, ix_nat, ix_eq, bd_some, bv_some, Int.toNat_natCast, Int.toNat_zero, sF_1, sF_2, sA_1, sA_2, sR_1, sR_2, ↓reduceIte, if_pos, if_neg, s3, Bool.false_eq_true]
        rfl
theorem op_trade {σ ρ : St} (h : Inv σ ρ) : Op (fX10_trade σ) (fX11_trade ρ) := by
  obtain ⟨R, P, N, T, B, hC, hL, hD⟩ := inv_core h
  have b4 := hC.1.2.2.2.1
  have b2 := hC.1.2.1
  obtain ⟨g, w1, w2⟩ := weighAll_eq hC
  obtain ⟨hC0, hm0⟩ := core_keep (Kc_sR0 σ g) Kr.rf hC
  have d0 : Dl (sR σ 0 g) ρ R P N T B := ⟨hC0, IL_keep hL rfl rfl rfl, fun q hq k hk => by rw [hm0]; exact w1 q hq k hk⟩
  obtain ⟨tr, g14, a1, a2, a3, a4, a5⟩ := traders_loop d0 1000 1000 0 0 (ρ.2 14) (by omega) (by omega) (by omega) (w32_eq (by omega)) (fun k hk z => by rw [tb_0] at z; cases z) (fun q hq => by omega)
  rw [sR_self] at a2
  obtain ⟨σ1, hσ1⟩ : ∃ σ1 : St, σ1 = sF (sF (sF (sF (sR σ 0 g) 10 0) 11 0) 12 0) 13 tr := ⟨_, rfl⟩
  have f2 : ∀ k : Nat, σ1.2 k = (sR σ 0 g).2 k := by intro k; rw [hσ1]; rfl
  have f1 : ∀ k : Nat, k ≠ 10 → k ≠ 11 → k ≠ 12 → k ≠ 13 → σ1.1 k = (sR σ 0 g).1 k := by
    intro k z1 z2 z3 z4
    rw [hσ1]; simp (disch := omega) only [w32_eq, gI_eq, gB_eq, g0_eq, ix_nat, ix_eq, bd_some, bv_some, Int.toNat_natCast, Int.toNat_zero, sF_1, sF_2, sA_1, sA_2, sR_1, sR_2, ↓reduceIte, if_pos, if_neg]
  have kr14 : Kr ρ (sR ρ 14 g14) := ⟨fun _ _ => rfl, fun k z1 z2 => by funext j; simp (disch := omega) only [w32_eq, gI_eq, gB_eq, g0_eq, ix_nat, ix_eq, bd_some, bv_some, Int.toNat_natCast, Int.toNat_zero, sF_1, sF_2, sA_1, sA_2, sR_1, sR_2, ↓reduceIte, if_pos, if_neg]⟩
  have d1 : Dl σ1 (sR ρ 14 g14) R P N T B := Dl_keep d0 ⟨fun k z1 z2 => f1 k (by omega) (by omega) (by omega) (by omega), fun k _ _ _ _ => f2 k⟩ kr14 (f2 0) (IL_congr (IL_keep d0.2.1 (f2 9) (f2 4) (f1 2 (by decide) (by decide) (by decide) (by decide))) (fun _ _ => rfl))
  have hG0 : Gts P tr tr (σ1.2 19) ((sR ρ 14 g14).2 14) ((sR ρ 14 g14).2 7) id := by
    have nd : ∀ q : Nat, ¬ Dn P tr tr q := fun q z => by
      have z1 := z.2.1
      have z2 := z.2.2
      rw [z1] at z2; cases z2
    exact ⟨fun q z => absurd z (nd q), fun q hq _ => a5 q hq, fun q p z => absurd z (nd q), fun q z => absurd z (nd q)⟩
  have hcb := cb_le tr P
  obtain ⟨σ2, ρ2, u2, u3, u4, w, c1, c2, c3, c4, c5, c6, c7, c8⟩ := rounds_loop (tr := tr) 1000 1000 σ1 (sR ρ 14 g14) tr 0 0 0 id d1 (by rw [hσ1]; simp (disch := omega) only [w32_eq, gI_eq, gB_eq, g0_eq, ix_nat, ix_eq, bd_some, bv_some, Int.toNat_natCast, Int.toNat_zero, sF_1, sF_2, sA_1, sA_2, sR_1, sR_2, ↓reduceIte, if_pos, if_neg]) a3 (fun k hk z => ⟨(a4 k hk z).1, z⟩) (by rw [hσ1]; simp (disch := omega) only [w32_eq, gI_eq, gB_eq, g0_eq, ix_nat, ix_eq, bd_some, bv_some, Int.toNat_natCast, Int.toNat_zero, sF_1, sF_2, sA_1, sA_2, sR_1, sR_2, ↓reduceIte, if_pos, if_neg]) (by rw [hσ1]; simp (disch := omega) only [w32_eq, gI_eq, gB_eq, g0_eq, ix_nat, ix_eq, bd_some, bv_some, Int.toNat_natCast, Int.toNat_zero, sF_1, sF_2, sA_1, sA_2, sR_1, sR_2, ↓reduceIte, if_pos, if_neg]) (by rw [hσ1]; simp (disch := omega) only [w32_eq, gI_eq, gB_eq, g0_eq, ix_nat, ix_eq, bd_some, bv_some, Int.toNat_natCast, Int.toNat_zero, sF_1, sF_2, sA_1, sA_2, sR_1, sR_2, ↓reduceIte, if_pos, if_neg]) (by omega) (by omega) (by omega) (by omega) (by omega) hG0
  have c8' : ρ2.2 7 = ρ.2 7 := c8
  have hpos : ∀ q : Nat, q < P → tb tr q = true → 0 ≤ ρ2.2 7 q := fun q hq z => by rw [c8']; exact (a4 q (by omega) z).2
  obtain ⟨hC2, hL2, hH2⟩ := id c3
  obtain ⟨H1, H2, H3, H4⟩ := id c7
  have dn : ∀ q : Nat, q < P → tb tr q = true → Dn P tr 0 q := fun q a b => ⟨a, b, tb_0 q⟩
  have nd : ∀ q : Nat, ¬ tb tr q = true → ¬ Dn P tr 0 q := fun q z y => z y.2.1
  have gr : ∀ q : Nat, q < P → -1 ≤ ρ2.2 14 q ∧ ρ2.2 14 q < R := by
    intro q hq
    by_cases c : tb tr q = true
    · obtain ⟨y1, y2, y3⟩ := H1 q (dn q hq c)
      rw [y3]
      have := hL2.1 (w q) y1.1
      exact this.2
    · rw [H2 q hq (nd q c)]
      exact (hL2.1 q hq).2
  obtain ⟨σ3, m1, m2, m3, m4, m5, m6⟩ := moveAll_loop c3 c7 hpos 1000 0 σ2 (by omega) (by omega) (fun _ _ => rfl) (fun _ _ _ => rfl) (fun q hq => by rw [if_neg (by omega)]; exact (hL2.1 q hq).1) (fun r => ⟨fun q hq => by omega, fun _ => rfl⟩) (fun _ _ => rfl)
  have r1 := chgR_loop (ρ := ρ2) (u2 := u2) (u3 := u3) (u4 := u4) hC2.2.2.2.1.1 b4 (fun q hq => by
    have x := gr q hq
    have y := hL2.1 q hq
    unfold rg
    omega) 1000 0 (by omega) (by omega)
  obtain ⟨g7, n1, n2⟩ := copyR_loop (ρ := ρ2) (u2 := u2) (u3 := u3) (u4 := u4) (c := chg (ρ2.2 14) (ρ2.2 7) P) hC2.2.2.2.1.1 b4 1000 0 (ρ2.2 7) (by omega) (by omega) (fun q hq => by omega)
  rw [sR_self] at n2
  have kr3 : Kr ρ2 (sA (sA (sA (sR ρ2 7 g7) 12 0 u2) 12 1 u3) 12 2 u4) := ⟨fun _ _ => rfl, fun k z1 z2 => by funext j; simp (disch := omega) only [w32_eq, gI_eq, gB_eq, g0_eq, ix_nat, ix_eq, bd_some, bv_some, Int.toNat_natCast, Int.toNat_zero, sF_1, sF_2, sA_1, sA_2, sR_1, sR_2, ↓reduceIte, if_pos, if_neg]⟩
  have kc3 : Kc σ2 σ3 := ⟨fun k z1 z2 => m2 k z1, fun k z1 z2 z3 z4 => m3 k z2 z3⟩
  obtain ⟨hC3, _⟩ := core_keep kc3 kr3 hC2
  have v7 : ∀ q : Nat, (sA (sA (sA (sR ρ2 7 g7) 12 0 u2) 12 1 u3) 12 2 u4).2 7 q = g7 q := fun q => by simp (disch := omega) only [w32_eq, gI_eq, gB_eq, g0_eq, ix_nat, ix_eq, bd_some, bv_some, Int.toNat_natCast, Int.toNat_zero, sF_1, sF_2, sA_1, sA_2, sR_1, sR_2, ↓reduceIte, if_pos, if_neg]
  have hL3 : IL σ3 (sA (sA (sA (sR ρ2 7 g7) 12 0 u2) 12 1 u3) 12 2 u4) R P := by
    have hcase : ∀ r : Nat, (∃ q : Nat, q < P ∧ tb tr q = true ∧ ρ2.2 14 q = r) ∨ (∀ q : Nat, q < P → tb tr q = true → ρ2.2 14 q ≠ r) := by
      intro r
      by_cases c : ∃ q : Nat, q < P ∧ tb tr q = true ∧ ρ2.2 14 q = r
      · exact Or.inl c
      · exact Or.inr (fun q a b d => c ⟨q, a, b, d⟩)
    refine ⟨fun q hq => ?_, fun r hr => ?_, fun k hk => ?_⟩
    · rw [v7, n1 q hq, m4 q hq]
      exact ⟨rfl, gr q hq⟩
    · rcases hcase r with ⟨q, q1, q2, q3⟩ | hno
      · have e4 := (m5 r).1 q q1 q2 q3
        rw [e4]
        refine ⟨by omega, by omega, fun p hp => ?_⟩
        rw [v7, n1 p hp]
        obtain ⟨y1, y2, y3⟩ := H1 q (dn q q1 q2)
        constructor
        · intro z
          by_cases c : tb tr p = true
          · obtain ⟨x1, x2, x3⟩ := H1 p (dn p hp c)
            have := H3 q p (dn q q1 q2) (dn p hp c) (IL_inj hL2 y1.1 x1.1 hr (by rw [← y3]; exact q3) (by rw [← x3]; exact z))
            omega
          · exfalso
            have x := H2 p hp (nd p c)
            have := IL_inj hL2 hp y1.1 hr (by rw [← x]; exact z) (by rw [← y3]; exact q3)
            rw [this] at c
            exact c y1.2.1
        · intro z
          have : p = q := by omega
          rw [this]; exact q3
      · have e4 := (m5 r).2 hno
        obtain ⟨x1, x2, x3⟩ := hL2.2.1 r hr
        rw [e4]
        refine ⟨x1, x2, fun p hp => ?_⟩
        rw [v7, n1 p hp]
        constructor
        · intro z
          by_cases c : tb tr p = true
          · exact absurd z (hno p hp c)
          · exact (x3 p hp).mp (by rw [← H2 p hp (nd p c)]; exact z)
        · intro z
          have y := (x3 p hp).mpr z
          by_cases c : tb tr p = true
          · exfalso
            obtain ⟨q, q1, q2⟩ := H4 p (dn p hp c)
            exact hno q q1.1 q1.2.1 (by rw [(H1 q q1).2.2, q2]; exact y)
          · rw [H2 p hp (nd p c)]; exact y
    · rw [m6 k hk, hL2.2.2 k hk]
      constructor
      · rintro ⟨z1, z2⟩
        refine ⟨z1, ?_⟩
        rcases hcase k with ⟨q, q1, q2, q3⟩ | hno
        · rw [(m5 k).1 q q1 q2 q3]; omega
        · rw [(m5 k).2 hno]; exact z2
      · rintro ⟨z1, z2⟩
        refine ⟨z1, ?_⟩
        rcases hcase k with ⟨q, q1, q2, q3⟩ | hno
        · obtain ⟨y1, y2, y3⟩ := H1 q (dn q q1 q2)
          have := ((hL2.2.1 k z1).2.2 (w q) y1.1).mp (by rw [← y3]; exact q3)
          omega
        · rw [← (m5 k).2 hno]; exact z2
  have hD3 : ID σ3 (sA (sA (sA (sR ρ2 7 g7) 12 0 u2) 12 1 u3) 12 2 u4) := by
    refine ⟨?_, ?_, ?_⟩
    · rw [m2 10 (by decide), c4]; simp (disch := omega) only [w32_eq, gI_eq, gB_eq, g0_eq, ix_nat, ix_eq, bd_some, bv_some, Int.toNat_natCast, Int.toNat_zero, sF_1, sF_2, sA_1, sA_2, sR_1, sR_2, ↓reduceIte, if_pos, if_neg]
    · rw [m2 11 (by decide), c5]; simp (disch := omega) only [w32_eq, gI_eq, gB_eq, g0_eq, ix_nat, ix_eq, bd_some, bv_some, Int.toNat_natCast, Int.toNat_zero, sF_1, sF_2, sA_1, sA_2, sR_1, sR_2, ↓reduceIte, if_pos, if_neg]
    · rw [m2 12 (by decide), c6]; simp (disch := omega) only [w32_eq, gI_eq, gB_eq, g0_eq, ix_nat, ix_eq, bd_some, bv_some, Int.toNat_natCast, Int.toNat_zero, sF_1, sF_2, sA_1, sA_2, sR_1, sR_2, ↓reduceIte, if_pos, if_neg]
  refine ⟨chg (ρ2.2 14) (ρ2.2 7) P, σ3, _, ?_, ?_, core_inv hC3 hL3 hD3⟩
  · unfold fX10_trade fX10_trade_L0 fX8_run fX8_run_L0
    have ht := show fX8_traders (sR σ 0 g) = some (tr, sR σ 0 g) from a1
    rw [w2, bv_some, ht, bd_some, ← hσ1, c1, show fX8_moveAll σ2 tr = some (chg (ρ2.2 14) (ρ2.2 7) P, σ3) from m1, bd_some, bd_some]
  · unfold fX11_trade fX11_trade_L0
    rw [show fX11_trade_L4 1000 0 0 ρ = _ from a2, c2, show fX11_trade_L333 1000 u2 u3 u4 0 0 ρ2 = _ from r1]
    exact n2
end EMOVEALL
