section EPICK
variable {R P N T B : Nat}
theorem IL_congr {σ ρ ρ' : St} (h : IL σ ρ R P) (e : ∀ q : Nat, q < P → ρ'.2 7 q = ρ.2 7 q) : IL σ ρ' R P := by
  refine ⟨fun p hp => by rw [e p hp]; exact h.1 p hp, fun r hr => ?_, h.2.2⟩
  obtain ⟨a, b, c⟩ := h.2.1 r hr
  exact ⟨a, b, fun p hp => by rw [e p hp]; exact c p hp⟩
/-- the ROOMS of a HOUSE, as bits -/
theorem under_loop {σ ρ : St} (hC : Core σ ρ R P N T B) {h : Int} (hh : rg h) : ∀ (f i : Nat) (v : Int), i ≤ R → R - i < f → (∀ k : Nat, k < 32 → (tb v k = true ↔ k < i ∧ ρ.2 0 k = h)) →
    ∃ v' : Int, (∀ k : Nat, k < 32 → (tb v' k = true ↔ k < R ∧ ρ.2 0 k = h)) ∧ fX5_under_L4 f h v (i : Int) σ = some (v', σ) := by
  have b1 := hC.1.1
  have b2 := hC.1.2.1
  have hR := hC.2.1
  unfold rg at hh
  intro f
  induction f with
  | zero => intro i v _ h; omega
  | succ f ih =>
    intro i v hi hf hv
    have e0 : fX5_under_L4 (f + 1) h v (i : Int) σ = fX5_under_B4 (fX5_under_L4 f) h v (i : Int) σ := rfl
    rw [e0]
    unfold fX5_under_B4
    by_cases e : i = R
    · subst e
      exact ⟨v, hv, by simp (disch := omega) only [w32_eq, gI_eq, gB_eq, g0_eq, ix_nat, ix_eq, bd_some, bv_some, Int.toNat_natCast, Int.toNat_zero, sF_1, sF_2, sA_1, sA_2, sR_1, sR_2, ↓reduceIte, if_pos, if_neg, b1]⟩
    · obtain ⟨q1, q2, _⟩ := hR.2 i (by omega)
      by_cases c : ρ.2 0 i = h
      · obtain ⟨v', s1, s2⟩ := ih (i + 1) (bOr v (bShl 1 (i : Int))) (by omega) (by omega) (fun k hk => by
          rw [tb_or, tb_shl1 (by omega), Bool.or_eq_true, hv k hk, decide_eq_true_eq]
          by_cases ek : k = i
          · subst ek
            constructor
            · intro _; exact ⟨by omega, c⟩
            · intro _; right; rfl
          · constructor
            · rintro (z | z)
              · exact ⟨by omega, z.2⟩
              · exact absurd z ek
            · intro z; exact Or.inl ⟨by omega, z.2⟩)
        refine ⟨v', s1, ?_⟩
        simp (disch := omega) only [w32_eq, gI_eq, gB_eq, g0_eq, ix_nat, ix_eq, bd_some, bv_some, Int.toNat_natCast, Int.toNat_zero, sF_1, sF_2, sA_1, sA_2, sR_1, sR_2, ↓reduceIte, if_pos, if_neg, b1, q1]
        exact s2
      · obtain ⟨v', s1, s2⟩ := ih (i + 1) v (by omega) (by omega) (fun k hk => by
          rw [hv k hk]
          by_cases ek : k = i
          · subst ek
            constructor
            · intro z; omega
            · intro z; exact absurd z.2 c
          · constructor
            · intro z; exact ⟨by omega, z.2⟩
            · intro z; exact ⟨by omega, z.2⟩)
        refine ⟨v', s1, ?_⟩
        simp (disch := omega) only [w32_eq, gI_eq, gB_eq, g0_eq, ix_nat, ix_eq, bd_some, bv_some, Int.toNat_natCast, Int.toNat_zero, sF_1, sF_2, sA_1, sA_2, sR_1, sR_2, ↓reduceIte, if_pos, if_neg, b1, q1]
        exact s2
theorem under_eq {σ ρ : St} (hC : Core σ ρ R P N T B) {h : Int} (hh : rg h) : ∃ v : Int, (∀ k : Nat, k < 32 → (tb v k = true ↔ k < R ∧ ρ.2 0 k = h)) ∧ fX5_under σ h = some (v, σ) := by
  have b2 := hC.1.2.1
  unfold fX5_under fX5_under_L0
  exact under_loop hC hh 1000 0 0 (by omega) (by omega) (fun k hk => by rw [tb_0]; simp)
theorem Kc_sR17 (σ : St) (g : Nat → Int) : Kc σ (sR σ 17 g) := ⟨fun k h1 h2 => rfl, fun k h1 h2 h3 h4 => by funext j; simp (disch := omega) only [w32_eq, gI_eq, gB_eq, g0_eq, ix_nat, ix_eq, bd_some, bv_some, Int.toNat_natCast, Int.toNat_zero, sF_1, sF_2, sA_1, sA_2, sR_1, sR_2, ↓reduceIte, if_pos, if_neg]⟩
theorem free_iff {σ ρ : St} (h : IL σ ρ R P) {k : Nat} (hk : k < R) : σ.2 4 k = -1 ↔ ∀ q : Nat, q < P → ρ.2 7 q ≠ k := by
  obtain ⟨a, b, c⟩ := h.2.1 k hk
  constructor
  · intro z q hq e
    have := (c q hq).mp e
    omega
  · intro z
    by_cases e : σ.2 4 k = -1
    · exact e
    · have w := (c (σ.2 4 k).toNat (by omega)).mpr (by omega)
      exact absurd w (z _ (by omega))
/-- the GROUP's picks, by numbers: class and reference pick alike, or fail alike -/
theorem pick_loop {σ : St} {ρ0 : St} (hD : Dl σ ρ0 R P N T B) {p : Nat} {fr hh gg : Int} (hp : p < P) (hfr : ∀ k : Nat, k < P → (tb fr k = true ↔ ρ0.2 4 k = gg)) (hgg : rg gg) (hr : rg hh) :
    ∀ (f n i : Nat) (g : Nat → Int) (x : Int) (σv ρv : St), Dl σv ρv R P N T B → Kc σ σv → Kr ρ0 ρv → ρv.2 12 = ρ0.2 12 → i ≤ P → P - i < f → P - i < n →
    (∀ q : Nat, q < P → ((q < i ∧ ρ0.2 4 q = gg) → ρv.2 7 q = g q ∧ 0 ≤ g q ∧ g q < R ∧ σ.2 4 (g q).toNat = -1) ∧ (¬ (q < i ∧ ρ0.2 4 q = gg) → ρv.2 7 q = ρ0.2 7 q)) →
    (∀ q : Nat, i ≤ q → q < P → ρ0.2 4 q = gg → ρ0.2 7 q = -1) →
    (∀ k : Nat, k < R → ((tb x k = true ∧ σ.2 4 k = -1) ↔ (ρ0.2 0 k = hh ∧ σv.2 4 k = -1))) → (∀ k : Nat, R ≤ k → k < 32 → tb x k = false) →
    (∃ (g' : Nat → Int) (ρ' σ' : St), fX0_pickAmong_L5 f fr x (i : Int) (sR σ 17 g) = some (1, sR σ 17 g') ∧ fX11_moveInto_L5 n gg hh 1 (i : Int) ρv = fX11_moveInto_L129 1000 gg 1 0 ρ' ∧ Dl σ' ρ' R P N T B ∧ Kc σ σ' ∧ Kr ρ0 ρ' ∧ ρ'.2 12 = ρ0.2 12 ∧ (∀ q : Nat, q < P → (ρ0.2 4 q = gg → ρ'.2 7 q = g' q ∧ 0 ≤ g' q ∧ g' q < R ∧ σ.2 4 (g' q).toNat = -1) ∧ (ρ0.2 4 q ≠ gg → ρ'.2 7 q = ρ0.2 7 q))) ∨
    (∃ (g' : Nat → Int) (ρ' : St), fX0_pickAmong_L5 f fr x (i : Int) (sR σ 17 g) = some (0, sR σ 17 g') ∧ fX11_moveInto_L5 n gg hh 1 (i : Int) ρv = fX11_moveInto_L129 1000 gg 0 0 ρ' ∧ Kr ρ0 ρ' ∧ ρ'.2 12 = ρ0.2 12 ∧ (∀ q : Nat, q < P → ρ0.2 4 q ≠ gg → ρ'.2 7 q = ρ0.2 7 q)) := by
  obtain ⟨hC0, hL0, hH0⟩ := id hD
  have b2 := hC0.1.2.1
  have b3 := hC0.1.2.2.1
  have b4 := hC0.1.2.2.2.1
  have gr : ∀ q : Nat, q < P → rg (ρ0.2 4 q) := fun q hq => by have := (hC0.2.2.2.1.2 q hq).2.2.2; unfold rg; omega
  have hgg0 := hgg
  unfold rg at hgg0
  intro f
  induction f with
  | zero => intro n i g x σv ρv _ _ _ _ _ h; omega
  | succ f ih =>
    intro n i g x σv ρv hv kc kr k12 hi hf hn hq hno hx hxR
    obtain ⟨n, rfl⟩ : ∃ n' : Nat, n = n' + 1 := ⟨n - 1, by omega⟩
    obtain ⟨hCv, hLv, hHv⟩ := id hv
    have hm1 := (core_keep kc Kr.rf hC0).2
    have p1 := hCv.2.2.2.1.1
    have r4 : ρv.2 4 = ρ0.2 4 := kr.2 4 (by decide) (by decide)
    have r0 : ρv.2 0 = ρ0.2 0 := kr.2 0 (by decide) (by decide)
    have e0 : fX0_pickAmong_L5 (f + 1) fr x (i : Int) (sR σ 17 g) = fX0_pickAmong_B5 (fX0_pickAmong_L5 f) fr x (i : Int) (sR σ 17 g) := rfl
    have e1 : fX11_moveInto_L5 (n + 1) gg hh 1 (i : Int) ρv = fX11_moveInto_B5 (fX11_moveInto_L5 n) gg hh 1 (i : Int) ρv := rfl
    rw [e0, e1]
    unfold fX0_pickAmong_B5 fX11_moveInto_B5
    by_cases e : i = P
    · subst e
      left
      refine ⟨g, ρv, σv, ?_, ?_, hv, kc, kr, k12, fun q hq1 => ⟨fun z => (hq q hq1).1 ⟨hq1, z⟩, fun z => (hq q hq1).2 (fun w => z w.2)⟩⟩
      · simp (disch := omega) only [w32_eq, gI_eq, gB_eq, g0_eq, ix_nat, ix_eq, bd_some, bv_some, Int.toNat_natCast, Int.toNat_zero, sF_1, sF_2, sA_1, sA_2, sR_1, sR_2, ↓reduceIte, if_pos, if_neg, b3]
      · simp (disch := omega) only [w32_eq, gI_eq, gB_eq, g0_eq, ix_nat, ix_eq, bd_some, bv_some, Int.toNat_natCast, Int.toNat_zero, sF_1, sF_2, sA_1, sA_2, sR_1, sR_2, ↓reduceIte, if_pos, if_neg, p1]
    · have hiP : i < P := by omega
      have gi := gr i hiP
      unfold rg at gi
      rw [inBits_eq _ fr (by omega), bd_some, r4]
      by_cases c : ρ0.2 4 i = gg
      · rw [if_pos ((hfr i hiP).mpr c)]
        have hni : ρv.2 7 i = -1 := by
          rw [(hq i hiP).2 (fun z => by omega)]
          exact hno i (Nat.le_refl i) hiP c
        have hC17 := (core_keep (Kc_sR17 σ g) Kr.rf hC0).1
        have op : fX7_openTo (sR σ 17 g) (i : Int) = some (bAnd (σ.2 0 i) (bXor (σ.1 2) (-1)), sR σ 17 g) := openTo_t hC17.1 hiP
        have bit : ∀ k : Nat, k < R → (tb (bAnd x (bAnd (σ.2 0 i) (bXor (σ.1 2) (-1)))) k = true ↔ (ρv.2 0 k = hh ∧ σv.2 4 k = -1 ∧ mB σv i k = true)) := by
          intro k hk
          have ob := open_bit hD hiP hk
          have hxk := hx k hk
          rw [tb_and, Bool.and_eq_true, ob, hm1, r0]
          constructor
          · intro z
            have w := hxk.mp ⟨z.1, z.2.2⟩
            exact ⟨w.1, w.2, z.2.1⟩
          · intro z
            have w := hxk.mpr ⟨z.1, z.2.1⟩
            exact ⟨w.1, z.2.2, w.2⟩
        have rl := room_loop hv hiP hni (g := gg) hr (fX11_moveInto_L5 n) 1000 0 (by omega) (by omega) (fun k hk => by omega)
        rcases leastIn_eq (sR σ 17 g) (bAnd x (bAnd (σ.2 0 i) (bXor (σ.1 2) (-1)))) with ⟨k, k1, k2, k3, k4⟩ | ⟨k1, k2⟩
        · have hkR : k < R := by
            rcases Nat.lt_or_ge k R with z | z
            · exact z
            · rw [tb_and, hxR k z k1] at k2; cases k2
          have ok := (bit k hkR).mp k2
          rcases rl with ⟨r, w1, w2, w3, w4⟩ | ⟨w1, w2⟩
          · have ek : r = k := by
              rcases Nat.lt_trichotomy r k with z | z | z
              · have := k3 r z
                rw [(bit r w1).mpr w2] at this; cases this
              · exact z
              · exact absurd ok (w3 k z)
            subst ek
            obtain ⟨σ1, t1, t2, t3, t4, t5⟩ := settle_eq hCv hLv hiP hkR hni ok.2.1
            obtain ⟨hC1, hm2⟩ := core_keep t2 (Kr_sA ρv i (r : Int)) hCv
            have hD1 : Dl σ1 (sA ρv 7 i (r : Int)) R P N T B := ⟨hC1, t3, fun q hq1 k' hk' => by
              rw [t5 0 (by decide) (by decide), hm2]; exact hHv q hq1 k' hk'⟩
            have free0 : σ.2 4 r = -1 := ((hx r hkR).mpr ⟨by rw [← r0]; exact ok.1, ok.2.1⟩).2
            have nx := ih n (i + 1) (fun q => if q = i then (r : Int) else g q) (bAnd x (bXor (bShl 1 (r : Int)) (-1))) σ1 (sA ρv 7 i (r : Int)) hD1 (Kc.tr kc t2) (Kr.tr kr (Kr_sA ρv i (r : Int))) k12 (by omega) (by omega) (by omega) (fun q hq1 => by
              have hqq := hq q hq1
              by_cases eq : q = i
              · subst eq
                refine ⟨fun _ => ⟨by simp (disch := omega) only [w32_eq, gI_eq, gB_eq, g0_eq, ix_nat, ix_eq, bd_some, bv_some, Int.toNat_natCast, Int.toNat_zero, sF_1, sF_2, sA_1, sA_2, sR_1, sR_2, ↓reduceIte, if_pos, if_neg], by (simp (disch := omega) only [w32_eq, gI_eq, gB_eq, g0_eq, ix_nat, ix_eq, bd_some, bv_some, Int.toNat_natCast, Int.toNat_zero, sF_1, sF_2, sA_1, sA_2, sR_1, sR_2, ↓reduceIte, if_pos, if_neg, true_and, and_true] <;> omega), by (simp (disch := omega) only [w32_eq, gI_eq, gB_eq, g0_eq, ix_nat, ix_eq, bd_some, bv_some, Int.toNat_natCast, Int.toNat_zero, sF_1, sF_2, sA_1, sA_2, sR_1, sR_2, ↓reduceIte, if_pos, if_neg, true_and, and_true] <;> omega), by simp (disch := omega) only [w32_eq, gI_eq, gB_eq, g0_eq, ix_nat, ix_eq, bd_some, bv_some, Int.toNat_natCast, Int.toNat_zero, sF_1, sF_2, sA_1, sA_2, sR_1, sR_2, ↓reduceIte, if_pos, if_neg]; exact free0⟩, fun z => absurd ⟨by omega, c⟩ z⟩
              · simp only [if_neg eq]
                refine ⟨fun z => ?_, fun z => ?_⟩
                · have w := hqq.1 ⟨by omega, z.2⟩
                  exact ⟨by simp (disch := omega) only [w32_eq, gI_eq, gB_eq, g0_eq, ix_nat, ix_eq, bd_some, bv_some, Int.toNat_natCast, Int.toNat_zero, sF_1, sF_2, sA_1, sA_2, sR_1, sR_2, ↓reduceIte, if_pos, if_neg]; exact w.1, w.2⟩
                · have w := hqq.2 (fun y => z ⟨by omega, y.2⟩)
                  simp (disch := omega) only [w32_eq, gI_eq, gB_eq, g0_eq, ix_nat, ix_eq, bd_some, bv_some, Int.toNat_natCast, Int.toNat_zero, sF_1, sF_2, sA_1, sA_2, sR_1, sR_2, ↓reduceIte, if_pos, if_neg]; exact w) (fun q h1 h2 h3 => hno q (by omega) h2 h3) (fun k' hk' => by
              rw [tb_and, tb_not _ (by omega), tb_shl1 (by omega), Bool.and_eq_true, free_iff t3 hk']
              have hxk := hx k' hk'
              rw [free_iff hLv hk'] at hxk
              by_cases ek : k' = r
              · subst ek
                constructor
                · intro z; exact absurd z.1.2 (by simp)
                · intro z; exact absurd (by simp (disch := omega) only [w32_eq, gI_eq, gB_eq, g0_eq, ix_nat, ix_eq, bd_some, bv_some, Int.toNat_natCast, Int.toNat_zero, sF_1, sF_2, sA_1, sA_2, sR_1, sR_2, ↓reduceIte, if_pos, if_neg]) (z.2 i hiP)
              · constructor
                · intro z
                  have w := hxk.mp ⟨z.1.1, z.2⟩
                  refine ⟨w.1, fun q hq1 => ?_⟩
                  by_cases eq : q = i
                  · subst eq; simp (disch := omega) only [w32_eq, gI_eq, gB_eq, g0_eq, ix_nat, ix_eq, bd_some, bv_some, Int.toNat_natCast, Int.toNat_zero, sF_1, sF_2, sA_1, sA_2, sR_1, sR_2, ↓reduceIte, if_pos, if_neg]; omega
                  · have := w.2 q hq1
                    simp (disch := omega) only [w32_eq, gI_eq, gB_eq, g0_eq, ix_nat, ix_eq, bd_some, bv_some, Int.toNat_natCast, Int.toNat_zero, sF_1, sF_2, sA_1, sA_2, sR_1, sR_2, ↓reduceIte, if_pos, if_neg]; exact this
                · intro z
                  have w := hxk.mpr ⟨z.1, fun q hq1 => by
                    by_cases eq : q = i
                    · subst eq; rw [hni]; omega
                    · have := z.2 q hq1
                      revert this; simp (disch := omega) only [w32_eq, gI_eq, gB_eq, g0_eq, ix_nat, ix_eq, bd_some, bv_some, Int.toNat_natCast, Int.toNat_zero, sF_1, sF_2, sA_1, sA_2, sR_1, sR_2, ↓reduceIte, if_pos, if_neg]; exact id⟩
                  exact ⟨⟨w.1, by simp [ek]⟩, w.2⟩) (fun k' h1 h2 => by rw [tb_and, hxR k' h1 h2, Bool.false_and])
            have ec : (if w32 ((sR σ 17 g).1 3) ≤ w32 (i : Int) then some (1, sR σ 17 g) else if w32 1 = 0 then fX0_pickAmong_L5 f fr x ((i : Int) + 1) (sR σ 17 g) else bd (fX7_openTo (sR σ 17 g) (i : Int)) fun a2 s2 => bd (fX10_leastIn s2 (bAnd x a2)) fun a3 s3 => if w32 a3 = -1 then some (0, s3) else gI (i : Int) 16 (fX0_pickAmong_L5 f fr (bAnd x (bXor (bShl 1 a3) (-1))) ((i : Int) + 1) (sA s3 17 (ix (i : Int)) a3))) = fX0_pickAmong_L5 f fr (bAnd x (bXor (bShl 1 (r : Int)) (-1))) ((i : Int) + 1) (sR σ 17 (fun q => if q = i then (r : Int) else g q)) := by
              rw [op, bd_some, k4, bd_some]
              simp (disch := omega) only [w32_eq, gI_eq, gB_eq, g0_eq, ix_nat, ix_eq, bd_some, bv_some, Int.toNat_natCast, Int.toNat_zero, sF_1, sF_2, sA_1, sA_2, sR_1, sR_2, ↓reduceIte, if_pos, if_neg, b3]
              rw [sA_sR]
            have er : (if w32 (ρv.1 2) ≤ w32 (i : Int) then fX11_moveInto_L129 1000 gg 1 0 ρv else if w32 1 = 0 then fX11_moveInto_L129 1000 gg 1 0 ρv else gI (i : Int) 16 (if w32 (ρ0.2 4 (ix (i : Int))) = w32 gg then fX11_moveInto_L32 (fX11_moveInto_L5 n) 1000 gg hh (i : Int) 0 ρv else fX11_moveInto_L5 n gg hh 1 ((i : Int) + 1) ρv)) = fX11_moveInto_L5 n gg hh 1 ((i : Int) + 1) (sA ρv 7 i (r : Int)) := by
              rw [show fX11_moveInto_L32 (fX11_moveInto_L5 n) 1000 gg hh (i : Int) 0 ρv = _ from w4]
              simp (disch := omega) only [w32_eq, gI_eq, gB_eq, g0_eq, ix_nat, ix_eq, bd_some, bv_some, Int.toNat_natCast, Int.toNat_zero, sF_1, sF_2, sA_1, sA_2, sR_1, sR_2, ↓reduceIte, if_pos, if_neg, p1]
            rw [ec, er]
            exact nx
          · exact absurd ok (w1 k hkR)
        · right
          rcases rl with ⟨r, w1, w2, w3, w4⟩ | ⟨w1, w2⟩
          · have := k1 r (by omega)
            rw [(bit r w1).mpr w2] at this; cases this
          · refine ⟨g, ρv, ?_, ?_, kr, k12, fun q hq1 z => (hq q hq1).2 (fun y => z y.2)⟩
            · rw [op, bd_some, k2, bd_some]
              simp (disch := omega) only [w32_eq, gI_eq, gB_eq, g0_eq, ix_nat, ix_eq, bd_some, bv_some, Int.toNat_natCast, Int.toNat_zero, sF_1, sF_2, sA_1, sA_2, sR_1, sR_2, ↓reduceIte, if_pos, if_neg, b3]
            · rw [show fX11_moveInto_L32 (fX11_moveInto_L5 n) 1000 gg hh (i : Int) 0 ρv = _ from w2]
              obtain ⟨n, rfl⟩ : ∃ n' : Nat, n = n' + 1 := ⟨n - 1, by omega⟩
              have e2 : fX11_moveInto_L5 (n + 1) gg hh 0 ((i : Int) + 1) ρv = fX11_moveInto_B5 (fX11_moveInto_L5 n) gg hh 0 ((i : Int) + 1) ρv := rfl
              rw [e2]
              unfold fX11_moveInto_B5
              by_cases c4 : i + 1 = P
              · simp (disch := omega) only [w32_eq, gI_eq, gB_eq, g0_eq, ix_nat, ix_eq, bd_some, bv_some, Int.toNat_natCast, Int.toNat_zero, sF_1, sF_2, sA_1, sA_2, sR_1, sR_2, ↓reduceIte, if_pos, if_neg, p1]
              · simp (disch := omega) only [w32_eq, gI_eq, gB_eq, g0_eq, ix_nat, ix_eq, bd_some, bv_some, Int.toNat_natCast, Int.toNat_zero, sF_1, sF_2, sA_1, sA_2, sR_1, sR_2, ↓reduceIte, if_pos, if_neg, p1]
      · rw [if_neg (fun z => c ((hfr i hiP).mp z))]
        have nx := ih n (i + 1) g x σv ρv hv kc kr k12 (by omega) (by omega) (by omega) (fun q hq1 => by
          have hqq := hq q hq1
          by_cases eq : q = i
          · subst eq
            exact ⟨fun z => absurd z.2 c, fun _ => hqq.2 (fun z => c z.2)⟩
          · exact ⟨fun z => hqq.1 ⟨by omega, z.2⟩, fun z => hqq.2 (fun y => z ⟨by omega, y.2⟩)⟩) (fun q h1 h2 h3 => hno q (by omega) h2 h3) hx hxR
        have ec : (if w32 ((sR σ 17 g).1 3) ≤ w32 (i : Int) then some (1, sR σ 17 g) else if w32 0 = 0 then fX0_pickAmong_L5 f fr x ((i : Int) + 1) (sR σ 17 g) else bd (fX7_openTo (sR σ 17 g) (i : Int)) fun a2 s2 => bd (fX10_leastIn s2 (bAnd x a2)) fun a3 s3 => if w32 a3 = -1 then some (0, s3) else gI (i : Int) 16 (fX0_pickAmong_L5 f fr (bAnd x (bXor (bShl 1 a3) (-1))) ((i : Int) + 1) (sA s3 17 (ix (i : Int)) a3))) = fX0_pickAmong_L5 f fr x ((i : Int) + 1) (sR σ 17 g) := by
          simp (disch := omega) only [w32_eq, gI_eq, gB_eq, g0_eq, ix_nat, ix_eq, bd_some, bv_some, Int.toNat_natCast, Int.toNat_zero, sF_1, sF_2, sA_1, sA_2, sR_1, sR_2, ↓reduceIte, if_pos, if_neg, b3]
        have er : (if w32 (ρv.1 2) ≤ w32 (i : Int) then fX11_moveInto_L129 1000 gg 1 0 ρv else if w32 1 = 0 then fX11_moveInto_L129 1000 gg 1 0 ρv else gI (i : Int) 16 (if w32 (ρ0.2 4 (ix (i : Int))) = w32 gg then fX11_moveInto_L32 (fX11_moveInto_L5 n) 1000 gg hh (i : Int) 0 ρv else fX11_moveInto_L5 n gg hh 1 ((i : Int) + 1) ρv)) = fX11_moveInto_L5 n gg hh 1 ((i : Int) + 1) ρv := by
          simp (disch := omega) only [w32_eq, gI_eq, gB_eq, g0_eq, ix_nat, ix_eq, bd_some, bv_some, Int.toNat_natCast, Int.toNat_zero, sF_1, sF_2, sA_1, sA_2, sR_1, sR_2, ↓reduceIte, if_pos, if_neg, p1]
        rw [ec, er]
        exact nx
end EPICK
