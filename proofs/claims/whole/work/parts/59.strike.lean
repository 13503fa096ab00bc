section ESTRIKE
variable {R M P N T B : Nat} {ch : Nat → Int}
theorem FC.kc {σ σ' : St} (h : FC σ σ') : Kc σ σ' := ⟨fun k _ _ => by rw [h.1], fun k _ _ _ h4 => h.2 k (by omega)⟩
theorem FK.kr {ρ ρ' : St} (h : FK ρ ρ') : Kr ρ ρ' := ⟨fun k _ => by rw [h.1], fun k _ h2 => h.2 k (by omega)⟩
theorem FR.kr {ρ ρ' : St} (h : FR ρ ρ') : Kr ρ ρ' := ⟨fun k _ => by rw [h.1], fun k _ h2 => h.2 k (by omega)⟩
/-- the movers get their ROOMS, one by one -/
theorem movers_loop {mv : Nat → Nat} {al : Int} (hM : M ≤ 16) : ∀ (f n m c : Nat) (G ld : Int) (σ ρ : St), Core σ ρ R P N T B → IL σ ρ R P → σ.1 14 = M → ρ.1 4 = M → σ.2 21 = ch → (∀ k : Nat, k < M → σ.2 20 k = mv k ∧ ρ.2 15 k = mv k ∧ mv k < P) → (∀ a b : Nat, a < b → b < M → mv a ≠ mv b) → (∀ k : Nat, m ≤ k → k < M → ρ.2 7 (mv k) = -1) → (∀ a : Nat, m ≤ a → a < M → ∀ r : Nat, r < R → (tb (ρ.2 16 a) r = true ↔ Eg ch G a r)) → (∀ k : Nat, k < M → ∀ r : Nat, r < R → Eg ch G k r → σ.2 4 r = -1) → Mx R m M (Eg ch G) c → al = ld + c → 0 ≤ ld → al ≤ 16 → m ≤ M → M - m < f → M - m < n →
    ∃ σ' ρ' : St, fX1_settleMovers_L7 f (c : Int) G (m : Int) σ = some σ' ∧ fX11_strike_L204 n al ld (m : Int) ρ = some ((M : Int) - al, ρ') ∧ Core σ' ρ' R P N T B ∧ IL σ' ρ' R P ∧ (∀ k : Nat, k ≠ 2 → σ'.1 k = σ.1 k) ∧ ρ'.2 12 = ρ.2 12 := by
  intro f
  induction f with
  | zero => intro n m c G ld σ ρ _ _ _ _ _ _ _ _ _ _ _ _ _ _ _ h; omega
  | succ f ih =>
    intro n m c G ld σ ρ hC hL s14 r4 s21 hmv hdis hno hmay hfree hmx hal hld hal16 hmM hf hn
    obtain ⟨n, rfl⟩ : ∃ n' : Nat, n = n' + 1 := ⟨n - 1, by omega⟩
    have b1 := hC.1.1
    have b2 := hC.1.2.1
    have b4 := hC.1.2.2.2.1
    have r0 := hC.2.1.1
    have cle := Mx_le hmx
    have e0 : fX1_settleMovers_L7 (f + 1) (c : Int) G (m : Int) σ = fX1_settleMovers_B7 (fX1_settleMovers_L7 f) (c : Int) G (m : Int) σ := rfl
    have e1 : fX11_strike_L204 (n + 1) al ld (m : Int) ρ = fX11_strike_B204 (fX11_strike_L204 n) al ld (m : Int) ρ := rfl
    rw [e0, e1]
    unfold fX1_settleMovers_B7 fX11_strike_B204
    by_cases e : m = M
    · subst e
      have c0 := Mx_end hmx
      have : al = ld := by omega
      refine ⟨σ, ρ, by simp (disch := omega) only [w32_eq, gI_eq, gB_eq, g0_eq, ix_nat, ix_eq, bd_some, bv_some, Int.toNat_natCast, Int.toNat_zero, sF_1, sF_2, sA_1, sA_2, sR_1, sR_2, ↓reduceIte, if_pos, if_neg, s14], ?_, hC, hL, fun _ _ => rfl, rfl⟩
      rw [this]
      simp (disch := omega) only [w32_eq, gI_eq, gB_eq, g0_eq, ix_nat, ix_eq, bd_some, bv_some, Int.toNat_natCast, Int.toNat_zero, sF_1, sF_2, sA_1, sA_2, sR_1, sR_2, ↓reduceIte, if_pos, if_neg, r4]
    · have hm : m < M := by omega
      obtain ⟨v1, v2, v3⟩ := hmv m hm
      have ll := least_loop (R := R) (M := M) (ch := ch) (G := G) (ms := (c : Int)) (al := al) (ld := ld) (m := m) (p := mv m) b2 hM hm (by omega) (by omega) (by omega) 1000 1000 0 σ ρ b1 s14 r0 r4 s21 hmay v2 (hno m (Nat.le_refl m) hm) (by omega) (by omega) (by omega)
      rcases ll with ⟨r, c', σ1, ρ1, z1, z2, z3, z4, z5, z6, z7, z8, z9⟩ | ⟨σ1, ρ1, z5, z6, z7, z8, z9, z10⟩
      · have hC1 := (core_keep z7.kc z8.kr hC).1
        have hL1 : IL σ1 ρ1 R P := IL_congr (IL_keep hL (z7.2 9 (by decide)) (z7.2 4 (by decide)) (by rw [z7.1])) (fun q _ => by rw [z8.2 7 (by decide)])
        have hn1 : ρ1.2 7 (mv m) = -1 := by rw [z8.2 7 (by decide)]; exact hno m (Nat.le_refl m) hm
        have hf1 : σ1.2 4 r = -1 := by rw [z7.2 4 (by decide)]; exact hfree m hm r z1 z2
        obtain ⟨σ2, t1, t2, t3, t4, t5⟩ := settle_eq hC1 hL1 v3 z1 hn1 hf1
        have hC2 := (core_keep t2 (Kr_sA ρ1 (mv m) (r : Int)) hC1).1
        obtain ⟨σ', ρ', q1, q2, q3, q4, q5, q6⟩ := ih n (m + 1) c' (bOr G (bShl 1 (r : Int))) (ld + 1) σ2 (sA ρ1 7 (mv m) (r : Int)) hC2 t3 (by rw [t4 14 (by decide), z7.1]; exact s14) (by show ρ1.1 4 = M; rw [z8.1]; exact r4) (by rw [t5 21 (by decide) (by decide), z7.2 21 (by decide)]; exact s21) (fun k hk => by
          obtain ⟨y1, y2, y3⟩ := hmv k hk
          refine ⟨by rw [t5 20 (by decide) (by decide), z7.2 20 (by decide)]; exact y1, ?_, y3⟩
          show ρ1.2 15 k = mv k
          rw [z8.2 15 (by decide)]; exact y2) hdis (fun k h1 h2 => by
          have y := hno k (by omega) h2
          have ne := hdis m k (by omega) h2
          rw [← z8.2 7 (by decide)] at y
          simp (disch := omega) only [w32_eq, gI_eq, gB_eq, g0_eq, ix_nat, ix_eq, bd_some, bv_some, Int.toNat_natCast, Int.toNat_zero, sF_1, sF_2, sA_1, sA_2, sR_1, sR_2, ↓reduceIte, if_pos, if_neg]; exact y) z9 (fun k hk s hs hE => by
          rw [Eg_or (by omega)] at hE
          have y := hfree k hk s hs hE.1
          rw [← z7.2 4 (by decide), free_iff hL1 hs] at y
          rw [free_iff t3 hs]
          intro q hq
          by_cases eq : q = mv m
          · subst eq
            have ne := hE.2
            simp (disch := omega) only [w32_eq, gI_eq, gB_eq, g0_eq, ix_nat, ix_eq, bd_some, bv_some, Int.toNat_natCast, Int.toNat_zero, sF_1, sF_2, sA_1, sA_2, sR_1, sR_2, ↓reduceIte, if_pos, if_neg]; omega
          · have := y q hq
            simp (disch := omega) only [w32_eq, gI_eq, gB_eq, g0_eq, ix_nat, ix_eq, bd_some, bv_some, Int.toNat_natCast, Int.toNat_zero, sF_1, sF_2, sA_1, sA_2, sR_1, sR_2, ↓reduceIte, if_pos, if_neg]; exact this) z3 (by omega) (by omega) hal16 (by omega) (by omega) (by omega)
        refine ⟨σ', ρ', ?_, ?_, q3, q4, fun k hk => by rw [q5 k hk, t4 k hk, z7.1], q6.trans (z8.2 12 (by decide))⟩
        · have s20 : σ1.2 20 m = mv m := by rw [z7.2 20 (by decide)]; exact v1
          have ec : (c : Int) + -1 = (c' : Int) := by omega
          rw [show fX1_leastRoom σ (m : Int) G (c : Int) = some ((r : Int), σ1) from z5, bd_some]
          simp (disch := omega) only [w32_eq, gI_eq, gB_eq, g0_eq, ix_nat, ix_eq, bd_some, bv_some, Int.toNat_natCast, Int.toNat_zero, sF_1, sF_2, sA_1, sA_2, sR_1, sR_2, ↓reduceIte, if_pos, if_neg, s14, s20]
          rw [t1, bv_some, ec]
          exact q1
        · rw [show fX11_strike_L216 (fX11_strike_L204 n) 1000 al ld (m : Int) 0 ρ = _ from z6 (fX11_strike_L204 n)]
          simp (disch := omega) only [w32_eq, gI_eq, gB_eq, g0_eq, ix_nat, ix_eq, bd_some, bv_some, Int.toNat_natCast, Int.toNat_zero, sF_1, sF_2, sA_1, sA_2, sR_1, sR_2, ↓reduceIte, if_pos, if_neg, r4]
          exact q2
      · obtain ⟨c', _, _, _, _, _, _, hmx'⟩ := most_eq (R := R) (F := m + 1) (M := M) (ch := ch) (G := G) b1 b2 s14 hM r0 r4 s21 (fun a h1 h2 => hmay a (by omega) h2) (by omega)
        have hd : ∃ d : Nat → Nat, ∀ r : Nat, r < R → Eg ch G m r → Mx R (m + 1) M (fun k s => Eg ch G k s ∧ s ≠ r) (d r) ∧ 1 + (d r : Int) ≠ c := by
          refine ⟨fun r => Classical.epsilon (fun x : Nat => Mx R (m + 1) M (fun k s => Eg ch G k s ∧ s ≠ r) x ∧ 1 + (x : Int) ≠ c), fun r hr hE => ?_⟩
          obtain ⟨x, x1, x2⟩ := z10 r (by omega) hr hE
          exact Classical.epsilon_spec (p := fun x : Nat => Mx R (m + 1) M (fun k s => Eg ch G k s ∧ s ≠ r) x ∧ 1 + (x : Int) ≠ c) ⟨x, Mx_congr (fun k _ s _ => Eg_or (by omega)) x1, x2⟩
        obtain ⟨d, hd⟩ := hd
        have cc : c = c' := by
          rcases Mx_step hm hmx hmx' (fun r hr hE => (hd r hr hE).1) with y | ⟨r, y1, y2, y3⟩
          · exact y
          · exact absurd (by omega) (hd r y1 y2).2
        rw [← cc] at hmx'
        have hC1 := (core_keep z7.kc z8.kr hC).1
        have hL1 : IL σ1 ρ1 R P := IL_congr (IL_keep hL (z7.2 9 (by decide)) (z7.2 4 (by decide)) (by rw [z7.1])) (fun q _ => by rw [z8.2 7 (by decide)])
        obtain ⟨σ', ρ', q1, q2, q3, q4, q5, q6⟩ := ih n (m + 1) c G ld σ1 ρ1 hC1 hL1 (by rw [z7.1]; exact s14) (by rw [z8.1]; exact r4) (by rw [z7.2 21 (by decide)]; exact s21) (fun k hk => by
          rw [z7.2 20 (by decide), z8.2 15 (by decide)]; exact hmv k hk) hdis (fun k h1 h2 => by rw [z8.2 7 (by decide)]; exact hno k (by omega) h2) (fun a h1 h2 => z9 a (by omega) h2) (fun k hk r hr hE => by rw [z7.2 4 (by decide)]; exact hfree k hk r hr hE) hmx' hal hld hal16 (by omega) (by omega) (by omega)
        refine ⟨σ', ρ', ?_, ?_, q3, q4, fun k hk => by rw [q5 k hk, z7.1], q6.trans (z8.2 12 (by decide))⟩
        · rw [show fX1_leastRoom σ (m : Int) G (c : Int) = some (-1, σ1) from z5, bd_some]
          simp (disch := omega) only [w32_eq, gI_eq, gB_eq, g0_eq, ix_nat, ix_eq, bd_some, bv_some, Int.toNat_natCast, Int.toNat_zero, sF_1, sF_2, sA_1, sA_2, sR_1, sR_2, ↓reduceIte, if_pos, if_neg, s14]
          exact q1
        · rw [show fX11_strike_L216 (fX11_strike_L204 n) 1000 al ld (m : Int) 0 ρ = _ from z6 (fX11_strike_L204 n)]
          simp (disch := omega) only [w32_eq, gI_eq, gB_eq, g0_eq, ix_nat, ix_eq, bd_some, bv_some, Int.toNat_natCast, Int.toNat_zero, sF_1, sF_2, sA_1, sA_2, sR_1, sR_2, ↓reduceIte, if_pos, if_neg, r4]
          exact q2
/-- those within leave: they are the movers -/
theorem empty_loop {h : Nat} (hh : h ≤ 7) : ∀ (f n i M : Nat) (mv : Nat → Nat) (σ ρ : St), Core σ ρ R P N T B → IL σ ρ R P → σ.1 14 = M → ρ.1 4 = M → M ≤ i → (∀ k : Nat, k < M → σ.2 20 k = mv k ∧ ρ.2 15 k = mv k ∧ mv k < i ∧ ρ.2 7 (mv k) = -1) → (∀ a b : Nat, a < b → b < M → mv a ≠ mv b) → i ≤ P → P - i < f → P - i < n →
    ∃ (σ' ρ' : St) (M' : Nat) (mv' : Nat → Nat), fX1_emptyHouse_L7 f (h : Int) (i : Int) σ = some σ' ∧ fX11_strike_L49 n (h : Int) (i : Int) ρ = fX11_strike_L117 1000 0 ρ' ∧ Core σ' ρ' R P N T B ∧ IL σ' ρ' R P ∧ σ'.1 14 = M' ∧ ρ'.1 4 = M' ∧ M' ≤ P ∧ (∀ k : Nat, k < M' → σ'.2 20 k = mv' k ∧ ρ'.2 15 k = mv' k ∧ mv' k < P ∧ ρ'.2 7 (mv' k) = -1) ∧ (∀ a b : Nat, a < b → b < M' → mv' a ≠ mv' b) ∧ (∀ k : Nat, k ≠ 2 → k ≠ 14 → σ'.1 k = σ.1 k) ∧ ρ'.2 12 = ρ.2 12 := by
  intro f
  induction f with
  | zero => intro n i M mv σ ρ _ _ _ _ _ _ _ _ h; omega
  | succ f ih =>
    intro n i M mv σ ρ hC hL s14 r4 hMi hmv hdis hi hf hn
    obtain ⟨n, rfl⟩ : ∃ n' : Nat, n = n' + 1 := ⟨n - 1, by omega⟩
    obtain ⟨hB, hR, hS, hP, hW, hK, hT, hN, hQ, hX⟩ := id hC
    obtain ⟨b1, b2, b3, b4, b5⟩ := id hB
    have p1 := hP.1
    have e0 : fX1_emptyHouse_L7 (f + 1) (h : Int) (i : Int) σ = fX1_emptyHouse_B7 (fX1_emptyHouse_L7 f) (h : Int) (i : Int) σ := rfl
    have e1 : fX11_strike_L49 (n + 1) (h : Int) (i : Int) ρ = fX11_strike_B49 (fX11_strike_L49 n) (h : Int) (i : Int) ρ := rfl
    rw [e0, e1]
    unfold fX1_emptyHouse_B7 fX11_strike_B49
    by_cases e : i = P
    · subst e
      exact ⟨σ, ρ, M, mv, by simp (disch := omega) only [w32_eq, gI_eq, gB_eq, g0_eq, ix_nat, ix_eq, bd_some, bv_some, Int.toNat_natCast, Int.toNat_zero, sF_1, sF_2, sA_1, sA_2, sR_1, sR_2, ↓reduceIte, if_pos, if_neg, b3], by simp (disch := omega) only [w32_eq, gI_eq, gB_eq, g0_eq, ix_nat, ix_eq, bd_some, bv_some, Int.toNat_natCast, Int.toNat_zero, sF_1, sF_2, sA_1, sA_2, sR_1, sR_2, ↓reduceIte, if_pos, if_neg, p1], hC, hL, s14, r4, hMi, hmv, hdis, fun _ _ _ => rfl, rfl⟩
    · have hiP : i < P := by omega
      obtain ⟨l1, l2, l3⟩ := hL.1 i hiP
      have keep : ∀ k : Nat, k < M → σ.2 20 k = mv k ∧ ρ.2 15 k = mv k ∧ mv k < i + 1 ∧ ρ.2 7 (mv k) = -1 := fun k hk => by
        have y := hmv k hk
        exact ⟨y.1, y.2.1, by omega, y.2.2.2⟩
      rw [lodgingOf_t hB hiP, bd_some, l1]
      by_cases c : ρ.2 7 i = -1
      · obtain ⟨σ', ρ', M', mv', q1, q2, q3⟩ := ih n (i + 1) M mv σ ρ hC hL s14 r4 (by omega) keep hdis (by omega) (by omega) (by omega)
        refine ⟨σ', ρ', M', mv', ?_, ?_, q3⟩
        · rw [c, houseOf_f hB, bd_some]
          simp (disch := omega) only [w32_eq, gI_eq, gB_eq, g0_eq, ix_nat, ix_eq, bd_some, bv_some, Int.toNat_natCast, Int.toNat_zero, sF_1, sF_2, sA_1, sA_2, sR_1, sR_2, ↓reduceIte, if_pos, if_neg, b3, s14]
          exact q1
        · simp (disch := omega) only [w32_eq, gI_eq, gB_eq, g0_eq, ix_nat, ix_eq, bd_some, bv_some, Int.toNat_natCast, Int.toNat_zero, sF_1, sF_2, sA_1, sA_2, sR_1, sR_2, ↓reduceIte, if_pos, if_neg, p1]
          exact q2
      · obtain ⟨z, hz⟩ : ∃ z : Nat, ρ.2 7 i = z := ⟨(ρ.2 7 i).toNat, by omega⟩
        have hzR : z < R := by omega
        obtain ⟨y1, y2, _⟩ := hR.2 z hzR
        rw [hz, houseOf_t hB hzR, bd_some, y1]
        by_cases c2 : ρ.2 0 z = h
        · -- within
          obtain ⟨σ1, hσ1⟩ : ∃ σ1 : St, σ1 = sF (sA σ 20 M (i : Int)) 14 ((M : Int) + 1) := ⟨_, rfl⟩
          obtain ⟨ρ1, hρ1⟩ : ∃ ρ1 : St, ρ1 = sF (sA ρ 15 M (i : Int)) 4 ((M : Int) + 1) := ⟨_, rfl⟩
          have kc1 : Kc σ σ1 := ⟨fun k h1 h2 => by rw [hσ1]; simp (disch := omega) only [w32_eq, gI_eq, gB_eq, g0_eq, ix_nat, ix_eq, bd_some, bv_some, Int.toNat_natCast, Int.toNat_zero, sF_1, sF_2, sA_1, sA_2, sR_1, sR_2, ↓reduceIte, if_pos, if_neg], fun k h1 h2 h3 h4 => by rw [hσ1]; funext j; simp (disch := omega) only [w32_eq, gI_eq, gB_eq, g0_eq, ix_nat, ix_eq, bd_some, bv_some, Int.toNat_natCast, Int.toNat_zero, sF_1, sF_2, sA_1, sA_2, sR_1, sR_2, ↓reduceIte, if_pos, if_neg]⟩
          have kr1 : Kr ρ ρ1 := ⟨fun k h1 => by rw [hρ1]; simp (disch := omega) only [w32_eq, gI_eq, gB_eq, g0_eq, ix_nat, ix_eq, bd_some, bv_some, Int.toNat_natCast, Int.toNat_zero, sF_1, sF_2, sA_1, sA_2, sR_1, sR_2, ↓reduceIte, if_pos, if_neg], fun k h1 h2 => by rw [hρ1]; funext j; simp (disch := omega) only [w32_eq, gI_eq, gB_eq, g0_eq, ix_nat, ix_eq, bd_some, bv_some, Int.toNat_natCast, Int.toNat_zero, sF_1, sF_2, sA_1, sA_2, sR_1, sR_2, ↓reduceIte, if_pos, if_neg]⟩
          have hC1 := (core_keep kc1 kr1 hC).1
          have hL1 : IL σ1 ρ1 R P := IL_congr (IL_keep hL (by rw [hσ1]; rfl) (by rw [hσ1]; rfl) (by rw [hσ1]; rfl)) (fun q _ => by rw [hρ1]; rfl)
          obtain ⟨σ2, t1, t2, t3, t4, t5⟩ := leave_eq hC1 hL1 hiP
          have hC2 := (core_keep t2 (Kr_sA ρ1 i (-1)) hC1).1
          obtain ⟨mv1, hmv1⟩ : ∃ mv1 : Nat → Nat, ∀ k : Nat, mv1 k = if k = M then i else mv k := ⟨fun k => if k = M then i else mv k, fun _ => rfl⟩
          have mo : ∀ k : Nat, k < M → mv1 k = mv k := fun k hk => by rw [hmv1, if_neg (by omega)]
          have mn : mv1 M = i := by rw [hmv1, if_pos rfl]
          obtain ⟨σ', ρ', M', mv', q1, q2, q3, q4, q5, q6, q7, q8, q9, q10, q11⟩ := ih n (i + 1) (M + 1) mv1 σ2 (sA ρ1 7 i (-1)) hC2 t3 (by rw [t4 14 (by decide), hσ1]; simp (disch := omega) only [w32_eq, gI_eq, gB_eq, g0_eq, ix_nat, ix_eq, bd_some, bv_some, Int.toNat_natCast, Int.toNat_zero, sF_1, sF_2, sA_1, sA_2, sR_1, sR_2, ↓reduceIte, if_pos, if_neg]; omega) (by rw [hρ1]; simp (disch := omega) only [w32_eq, gI_eq, gB_eq, g0_eq, ix_nat, ix_eq, bd_some, bv_some, Int.toNat_natCast, Int.toNat_zero, sF_1, sF_2, sA_1, sA_2, sR_1, sR_2, ↓reduceIte, if_pos, if_neg]; omega) (by omega) (fun k hk => by
            by_cases ek : k = M
            · subst ek
              rw [mn]
              refine ⟨?_, ?_, by omega, by simp (disch := omega) only [w32_eq, gI_eq, gB_eq, g0_eq, ix_nat, ix_eq, bd_some, bv_some, Int.toNat_natCast, Int.toNat_zero, sF_1, sF_2, sA_1, sA_2, sR_1, sR_2, ↓reduceIte, if_pos, if_neg]⟩
              · rw [t5 20 (by decide) (by decide), hσ1]; simp (disch := omega) only [w32_eq, gI_eq, gB_eq, g0_eq, ix_nat, ix_eq, bd_some, bv_some, Int.toNat_natCast, Int.toNat_zero, sF_1, sF_2, sA_1, sA_2, sR_1, sR_2, ↓reduceIte, if_pos, if_neg]
              · rw [hρ1]; simp (disch := omega) only [w32_eq, gI_eq, gB_eq, g0_eq, ix_nat, ix_eq, bd_some, bv_some, Int.toNat_natCast, Int.toNat_zero, sF_1, sF_2, sA_1, sA_2, sR_1, sR_2, ↓reduceIte, if_pos, if_neg]
            · have y := hmv k (by omega)
              rw [mo k (by omega)]
              refine ⟨?_, ?_, by omega, ?_⟩
              · rw [t5 20 (by decide) (by decide), hσ1]; simp (disch := omega) only [w32_eq, gI_eq, gB_eq, g0_eq, ix_nat, ix_eq, bd_some, bv_some, Int.toNat_natCast, Int.toNat_zero, sF_1, sF_2, sA_1, sA_2, sR_1, sR_2, ↓reduceIte, if_pos, if_neg]; exact y.1
              · rw [hρ1]; simp (disch := omega) only [w32_eq, gI_eq, gB_eq, g0_eq, ix_nat, ix_eq, bd_some, bv_some, Int.toNat_natCast, Int.toNat_zero, sF_1, sF_2, sA_1, sA_2, sR_1, sR_2, ↓reduceIte, if_pos, if_neg]; exact y.2.1
              · rw [hρ1]; have := y.2.2.1; simp (disch := omega) only [w32_eq, gI_eq, gB_eq, g0_eq, ix_nat, ix_eq, bd_some, bv_some, Int.toNat_natCast, Int.toNat_zero, sF_1, sF_2, sA_1, sA_2, sR_1, sR_2, ↓reduceIte, if_pos, if_neg]; exact y.2.2.2) (fun a b h1 h2 => by
            by_cases eb : b = M
            · subst eb
              rw [mn, mo a h1]
              have := (hmv a h1).2.2.1
              omega
            · rw [mo a (by omega), mo b (by omega)]
              exact hdis a b h1 (by omega)) (by omega) (by omega) (by omega)
          refine ⟨σ', ρ', M', mv', ?_, ?_, q3, q4, q5, q6, q7, q8, q9, fun k h1 h2 => ?_, ?_⟩
          · simp (disch := omega) only [w32_eq, gI_eq, gB_eq, g0_eq, ix_nat, ix_eq, bd_some, bv_some, Int.toNat_natCast, Int.toNat_zero, sF_1, sF_2, sA_1, sA_2, sR_1, sR_2, ↓reduceIte, if_pos, if_neg, b3, c2, s14]
            rw [← hσ1, t1, bv_some]
            exact q1
          · simp (disch := omega) only [w32_eq, gI_eq, gB_eq, g0_eq, ix_nat, ix_eq, bd_some, bv_some, Int.toNat_natCast, Int.toNat_zero, sF_1, sF_2, sA_1, sA_2, sR_1, sR_2, ↓reduceIte, if_pos, if_neg, p1, hz, c2, r4]
            rw [← hρ1]
            exact q2
          · rw [q10 k h1 h2, t4 k h1, hσ1]; simp (disch := omega) only [w32_eq, gI_eq, gB_eq, g0_eq, ix_nat, ix_eq, bd_some, bv_some, Int.toNat_natCast, Int.toNat_zero, sF_1, sF_2, sA_1, sA_2, sR_1, sR_2, ↓reduceIte, if_pos, if_neg]
          · rw [q11, hρ1]; rfl
        · obtain ⟨σ', ρ', M', mv', q1, q2, q3⟩ := ih n (i + 1) M mv σ ρ hC hL s14 r4 (by omega) keep hdis (by omega) (by omega) (by omega)
          refine ⟨σ', ρ', M', mv', ?_, ?_, q3⟩
          · simp (disch := omega) only [w32_eq, gI_eq, gB_eq, g0_eq, ix_nat, ix_eq, bd_some, bv_some, Int.toNat_natCast, Int.toNat_zero, sF_1, sF_2, sA_1, sA_2, sR_1, sR_2, ↓reduceIte, if_pos, if_neg, b3, s14]
            exact q1
          · simp (disch := omega) only [w32_eq, gI_eq, gB_eq, g0_eq, ix_nat, ix_eq, bd_some, bv_some, Int.toNat_natCast, Int.toNat_zero, sF_1, sF_2, sA_1, sA_2, sR_1, sR_2, ↓reduceIte, if_pos, if_neg, p1, hz]
            exact q2
/-- which ROOMS each mover could get: the class -/
theorem choice_loop {σ : St} {mv : Nat → Nat} (hB : Bs σ R P) (s14 : σ.1 14 = M) (hM : M ≤ 16) (hmv : ∀ k : Nat, k < M → σ.2 20 k = mv k ∧ mv k < P) : ∀ (f i : Nat) (g : Nat → Int), i ≤ M → M - i < f → (∀ k : Nat, k < i → g k = bAnd (σ.2 0 (mv k)) (bXor (σ.1 2) (-1))) →
    ∃ g' : Nat → Int, (∀ k : Nat, k < M → g' k = bAnd (σ.2 0 (mv k)) (bXor (σ.1 2) (-1))) ∧ fX1_run_L29 f (i : Int) (sR σ 21 g) = (bd (fX1_mostFrom (sR σ 21 g') 0 0) fun a1 s1 => bv (fX1_settleMovers s1 a1) fun s2 => some (((s2.1 14) - a1), s2)) := by
  intro f
  induction f with
  | zero => intro i g _ h; omega
  | succ f ih =>
    intro i g hi hf hg
    have e0 : fX1_run_L29 (f + 1) (i : Int) (sR σ 21 g) = fX1_run_B29 (fX1_run_L29 f) (i : Int) (sR σ 21 g) := rfl
    rw [e0]
    unfold fX1_run_B29
    by_cases e : i = M
    · subst e
      refine ⟨g, hg, ?_⟩
      simp (disch := omega) only [w32_eq, gI_eq, gB_eq, g0_eq, ix_nat, ix_eq, bd_some, bv_some, Int.toNat_natCast, Int.toNat_zero, sF_1, sF_2, sA_1, sA_2, sR_1, sR_2, ↓reduceIte, if_pos, if_neg, s14]
    · obtain ⟨m1, m2⟩ := hmv i (by omega)
      obtain ⟨g', q1, q2⟩ := ih (i + 1) (fun q => if q = i then bAnd (σ.2 0 (mv i)) (bXor (σ.1 2) (-1)) else g q) (by omega) (by omega) (fun q hq => by
        by_cases eq : q = i
        · simp only [if_pos eq]; rw [eq]
        · simp only [if_neg eq]; exact hg q (by omega))
      refine ⟨g', q1, ?_⟩
      rw [← q2]
      have hB' : Bs (sR σ 21 g) R P := hB
      have op : fX7_openTo (sR σ 21 g) ((mv i : Nat) : Int) = some (bAnd (σ.2 0 (mv i)) (bXor (σ.1 2) (-1)), sR σ 21 g) := openTo_t hB' m2
      simp (disch := omega) only [w32_eq, gI_eq, gB_eq, g0_eq, ix_nat, ix_eq, bd_some, bv_some, Int.toNat_natCast, Int.toNat_zero, sF_1, sF_2, sA_1, sA_2, sR_1, sR_2, ↓reduceIte, if_pos, if_neg, s14, m1, op]
      rw [sA_sR]
      rfl
/-- which ROOMS each mover could get: the reference -/
theorem mayR_in {σ ρ : St} (hC : Core σ ρ R P N T B) (hL : IL σ ρ R P) {m p : Nat} (hm : m < 16) (hp : p < P) (h15 : ρ.2 15 m = p) (k117 : Int → St → Option (Int × St)) : ∀ (f j : Nat) (y : Nat → Int), j ≤ R → R - j < f → (∀ k : Nat, k < 32 → (tb (y m) k = true ↔ k < j ∧ mB σ p k = true ∧ σ.2 4 k = -1)) →
    ∃ y' : Nat → Int, (∀ q : Nat, q ≠ m → y' q = y q) ∧ (∀ k : Nat, k < 32 → (tb (y' m) k = true ↔ k < R ∧ mB σ p k = true ∧ σ.2 4 k = -1)) ∧ fX11_strike_L134 k117 f (m : Int) (j : Int) (sR ρ 16 y) = k117 ((m : Int) + 1) (sR ρ 16 y') := by
  have r0 := hC.2.1.1
  have b2 := hC.1.2.1
  have b4 := hC.1.2.2.2.1
  intro f
  induction f with
  | zero => intro j y _ h; omega
  | succ f ih =>
    intro j y hj hf hy
    have e0 : fX11_strike_L134 k117 (f + 1) (m : Int) (j : Int) (sR ρ 16 y) = fX11_strike_B134 k117 (fX11_strike_L134 k117 f) (m : Int) (j : Int) (sR ρ 16 y) := rfl
    rw [e0]
    unfold fX11_strike_B134
    by_cases e : j = R
    · subst e
      refine ⟨y, fun _ _ => rfl, hy, ?_⟩
      simp (disch := omega) only [w32_eq, gI_eq, gB_eq, g0_eq, ix_nat, ix_eq, bd_some, bv_some, Int.toNat_natCast, Int.toNat_zero, sF_1, sF_2, sA_1, sA_2, sR_1, sR_2, ↓reduceIte, if_pos, if_neg, r0]
    · have hjR : j < R := by omega
      have hC' : Core σ (sR ρ 16 y) R P N T B := (core_keep Kc.rf ⟨fun _ _ => rfl, fun k z1 z2 => by funext i; simp (disch := omega) only [w32_eq, gI_eq, gB_eq, g0_eq, ix_nat, ix_eq, bd_some, bv_some, Int.toNat_natCast, Int.toNat_zero, sF_1, sF_2, sA_1, sA_2, sR_1, sR_2, ↓reduceIte, if_pos, if_neg]⟩ hC).1
      have hL' : IL σ (sR ρ 16 y) R P := IL_congr hL (fun _ _ => rfl)
      have who := who_eq hC' hL' hjR
      obtain ⟨m1, m2⟩ := core_may hC' (p := p) (r := j) hp hjR
      obtain ⟨g1, g2, g3⟩ := hL.2.1 j hjR
      have v15 : (sR ρ 16 y).2 15 m = p := h15
      have no : ¬ (mB σ p j = true ∧ σ.2 4 j = -1) → ∃ y' : Nat → Int, (∀ q : Nat, q ≠ m → y' q = y q) ∧ (∀ k : Nat, k < 32 → (tb (y' m) k = true ↔ k < R ∧ mB σ p k = true ∧ σ.2 4 k = -1)) ∧ fX11_strike_L134 k117 f (m : Int) ((j + 1 : Nat) : Int) (sR ρ 16 (fun q => if q = m then bOr (y m) 0 else y q)) = k117 ((m : Int) + 1) (sR ρ 16 y') := by
        intro hx
        obtain ⟨y', q1, q2, q3⟩ := ih (j + 1) (fun q => if q = m then bOr (y m) 0 else y q) (by omega) (by omega) (fun k hk => by
          simp only [if_pos]
          rw [tb_or, tb_0, Bool.or_false, hy k hk]
          by_cases ek : k = j
          · subst ek
            constructor
            · intro z; omega
            · intro z; exact absurd z.2 hx
          · constructor
            · intro z; exact ⟨by omega, z.2⟩
            · intro z; exact ⟨by omega, z.2⟩)
        exact ⟨y', fun q hq => by rw [q1 q hq]; simp only [if_neg hq], q2, q3⟩
      by_cases c1 : σ.2 4 j = -1
      · rw [c1] at who
        cases c2 : mB σ p j with
        | true =>
          rw [c2, show b01 true = 1 from rfl] at m2
          obtain ⟨y', q1, q2, q3⟩ := ih (j + 1) (fun q => if q = m then bOr (y m) (bShl 1 (j : Int)) else y q) (by omega) (by omega) (fun k hk => by
            simp only [if_pos]
            rw [tb_or, tb_shl1 (by omega), Bool.or_eq_true, decide_eq_true_eq, hy k hk]
            by_cases ek : k = j
            · subst ek
              exact ⟨fun _ => ⟨by omega, c2, c1⟩, fun _ => Or.inr rfl⟩
            · constructor
              · rintro (z | z)
                · exact ⟨by omega, z.2⟩
                · exact absurd z ek
              · intro z; exact Or.inl ⟨by omega, z.2⟩)
          refine ⟨y', fun q hq => by rw [q1 q hq]; simp only [if_neg hq], q2, ?_⟩
          rw [← q3]
          simp (disch := omega) only [w32_eq, gI_eq, gB_eq, g0_eq, ix_nat, ix_eq, bd_some, bv_some, Int.toNat_natCast, Int.toNat_zero, sF_1, sF_2, sA_1, sA_2, sR_1, sR_2, ↓reduceIte, if_pos, if_neg, r0, who, v15, m2, h15]
          rw [sA_sR]
          rfl
        | false =>
          rw [c2, show b01 false = 0 from rfl] at m2
          obtain ⟨y', q1, q2, q3⟩ := no (fun z => by rw [c2] at z; cases z.1)
          refine ⟨y', q1, q2, ?_⟩
          rw [← q3]
          simp (disch := omega) only [w32_eq, gI_eq, gB_eq, g0_eq, ix_nat, ix_eq, bd_some, bv_some, Int.toNat_natCast, Int.toNat_zero, sF_1, sF_2, sA_1, sA_2, sR_1, sR_2, ↓reduceIte, if_pos, if_neg, r0, who, v15, m2, h15]
          rw [sA_sR]
          rfl
      · obtain ⟨y', q1, q2, q3⟩ := no (fun z => c1 z.2)
        refine ⟨y', q1, q2, ?_⟩
        rw [← q3]
        simp (disch := omega) only [w32_eq, gI_eq, gB_eq, g0_eq, ix_nat, ix_eq, bd_some, bv_some, Int.toNat_natCast, Int.toNat_zero, sF_1, sF_2, sA_1, sA_2, sR_1, sR_2, ↓reduceIte, if_pos, if_neg, r0, who]
        rw [sA_sR]
        rfl
theorem mayR_out {σ ρ : St} (hC : Core σ ρ R P N T B) (hL : IL σ ρ R P) {mv : Nat → Nat} (r4 : ρ.1 4 = M) (hM : M ≤ 16) (hmv : ∀ k : Nat, k < M → ρ.2 15 k = mv k ∧ mv k < P) : ∀ (n m : Nat) (y : Nat → Int), m ≤ M → M - m < n → (∀ a : Nat, a < m → ∀ k : Nat, k < 32 → (tb (y a) k = true ↔ k < R ∧ mB σ (mv a) k = true ∧ σ.2 4 k = -1)) →
    ∃ y' : Nat → Int, (∀ a : Nat, a < M → ∀ k : Nat, k < 32 → (tb (y' a) k = true ↔ k < R ∧ mB σ (mv a) k = true ∧ σ.2 4 k = -1)) ∧ fX11_strike_L117 n (m : Int) (sR ρ 16 y) = (bd (fX11_most (sR ρ 16 y') 0) fun a6 s6 => fX11_strike_L204 1000 a6 0 0 s6) := by
  have b2 := hC.1.2.1
  intro n
  induction n with
  | zero => intro m y _ h; omega
  | succ n ih =>
    intro m y hm hn hy
    have e0 : fX11_strike_L117 (n + 1) (m : Int) (sR ρ 16 y) = fX11_strike_B117 (fX11_strike_L117 n) (m : Int) (sR ρ 16 y) := rfl
    rw [e0]
    unfold fX11_strike_B117
    by_cases e : m = M
    · subst e
      refine ⟨y, hy, ?_⟩
      simp (disch := omega) only [w32_eq, gI_eq, gB_eq, g0_eq, ix_nat, ix_eq, bd_some, bv_some, Int.toNat_natCast, Int.toNat_zero, sF_1, sF_2, sA_1, sA_2, sR_1, sR_2, ↓reduceIte, if_pos, if_neg, r4]
    · obtain ⟨x1, x2⟩ := hmv m (by omega)
      obtain ⟨y1, q1, q2, q3⟩ := mayR_in hC hL (m := m) (by omega) x2 x1 (fX11_strike_L117 n) 1000 0 (fun q => if q = m then 0 else y q) (by omega) (by omega) (fun k hk => by
        simp only [if_pos]
        rw [tb_0]
        constructor
        · intro z; cases z
        · intro z; omega)
      obtain ⟨y', w1, w2⟩ := ih (m + 1) y1 (by omega) (by omega) (fun a ha k hk => by
        by_cases ea : a = m
        · subst ea; exact q2 k hk
        · rw [q1 a ea]
          simp only [if_neg ea]
          exact hy a (by omega) k hk)
      refine ⟨y', w1, ?_⟩
      rw [← w2]
      simp (disch := omega) only [w32_eq, gI_eq, gB_eq, g0_eq, ix_nat, ix_eq, bd_some, bv_some, Int.toNat_natCast, Int.toNat_zero, sF_1, sF_2, sA_1, sA_2, sR_1, sR_2, ↓reduceIte, if_pos, if_neg, r4]
      rw [sA_sR]
      exact q3
theorem op_strike {σ ρ : St} (h : Inv σ ρ) {a : Int} (ha : rg a) : Op (fX10_strike σ a) (fX11_strike ρ a) := by
  have hI := h
  obtain ⟨R, P, N, T, B, hC, hL, hD⟩ := inv_core h
  obtain ⟨hB, hR, hS, hP, hW, hK, hT, hN, hQ, hX⟩ := id hC
  obtain ⟨b1, b2, b3, b4, b5⟩ := id hB
  obtain ⟨s1, s2, s3⟩ := id hS
  unfold rg at ha
  unfold fX10_strike fX10_strike_L0 fX11_strike fX11_strike_L0
  by_cases h1 : 0 ≤ a ∧ a ≤ 7
  · obtain ⟨q, rfl⟩ : ∃ q : Nat, a = q := ⟨a.toNat, by omega⟩
    rw [within_eq σ ha (by omega) (by omega), bd_some, isStruck_t (by omega), bd_some, w32_eq ha, in_eq ρ ha (by omega) (by omega), bd_some, w32_bAnd, bShr_bit _ (by omega), s1]
    by_cases ht : tb (ρ.1 1) q = true
    · exact ⟨-3, σ, ρ, by simp (disch := omega) only [w32_eq, gI_eq, gB_eq, g0_eq, ix_nat, ix_eq, bd_some, bv_some, Int.toNat_natCast, Int.toNat_zero, sF_1, sF_2, sA_1, sA_2, sR_1, sR_2, ↓reduceIte, if_pos, if_neg, ht], by simp (disch := omega) only [w32_eq, gI_eq, gB_eq, g0_eq, ix_nat, ix_eq, bd_some, bv_some, Int.toNat_natCast, Int.toNat_zero, sF_1, sF_2, sA_1, sA_2, sR_1, sR_2, ↓reduceIte, if_pos, if_neg, ht], hI⟩
    · have ht : tb (ρ.1 1) q = false := by simpa using ht
      obtain ⟨x, hx⟩ : ∃ x : Int, x = bOr (ρ.1 1) (bShl 1 (q : Int)) := ⟨_, rfl⟩
      have x256 : 0 ≤ x ∧ x < 256 := by
        rw [hx]
        refine lt256_of_tb (by unfold rg; have := w32_rng (bOr (ρ.1 1) (bShl 1 (q : Int))); rw [w32_bOr] at this; exact this) (fun k h8 h32 => ?_)
        rw [tb_or, tb_lt256 ⟨s2, s3⟩ h8, tb_shl1 (by omega)]
        simp
        omega
      have hC0 : Core (sF (sF σ 1 x) 14 0) (sF (sF ρ 1 x) 4 0) R P N T B := ⟨hB, hR, ⟨rfl, x256⟩, hP, hW, hK, hT, hN, hQ, hX⟩
      have hL0 : IL (sF (sF σ 1 x) 14 0) (sF (sF ρ 1 x) 4 0) R P := hL
      obtain ⟨σ1, ρ1, M, mv, a1, a2, a3, a4, a5, a6, a7, a8, a9, a10, a11⟩ := empty_loop (h := q) (by omega) 1000 1000 0 0 id (sF (sF σ 1 x) 14 0) (sF (sF ρ 1 x) 4 0) hC0 hL0 rfl rfl (by omega) (fun k hk => by omega) (fun i j h1 h2 => by omega) (by omega) (by omega) (by omega)
      obtain ⟨g, w1, w2⟩ := weighAll_eq a3
      obtain ⟨hCw, hmw⟩ := core_keep (Kc_sR0 σ1 g) Kr.rf a3
      have dw : Dl (sR σ1 0 g) ρ1 R P N T B := ⟨hCw, IL_keep a4 rfl rfl rfl, fun q hq k hk => by rw [hmw]; exact w1 q hq k hk⟩
      obtain ⟨ch0, c1, c2⟩ := choice_loop (σ := sR σ1 0 g) (M := M) (mv := mv) hCw.1 a5 (by omega) (fun k hk => ⟨(a8 k hk).1, (a8 k hk).2.2.1⟩) 1000 0 ((sR σ1 0 g).2 21) (by omega) (by omega) (fun k hk => by omega)
      obtain ⟨y, y1, y2⟩ := mayR_out hCw dw.2.1 (M := M) (mv := mv) a6 (by omega) (fun k hk => ⟨(a8 k hk).2.1, (a8 k hk).2.2.1⟩) 1000 0 (ρ1.2 16) (by omega) (by omega) (fun i hi => by omega)
      rw [sR_self] at c2 y2
      have eg : ∀ k : Nat, k < M → ∀ r : Nat, r < R → (Eg ch0 0 k r ↔ mB (sR σ1 0 g) (mv k) r = true ∧ σ1.2 4 r = -1) := by
        intro k hk r hr
        unfold Eg
        rw [tb_0, c1 k hk, open_bit dw (a8 k hk).2.2.1 hr]
        constructor
        · intro z; exact z.1
        · intro z; exact ⟨z, rfl⟩
      obtain ⟨c, σ2, ρ2, m1, m2, m3, m4, m5⟩ := most_eq (R := R) (F := 0) (M := M) (ch := ch0) (G := 0) (σ := sR (sR σ1 0 g) 21 ch0) (ρ := sR ρ1 16 y) hCw.1.1 b2 a5 (by omega) a3.2.1.1 a6 (by unfold sR; rfl) (fun i _ hi r hr => by
        rw [eg i hi r hr]
        have := y1 i hi r (by omega)
        show tb (y i) r = true ↔ _
        rw [this]
        constructor
        · intro z; exact z.2
        · intro z; exact ⟨hr, z⟩) (by omega)
      have kc2 : Kc (sR σ1 0 g) σ2 := Kc.tr (b := sR (sR σ1 0 g) 21 ch0) ⟨fun k _ _ => rfl, fun k z1 z2 z3 z4 => by funext j; simp (disch := omega) only [w32_eq, gI_eq, gB_eq, g0_eq, ix_nat, ix_eq, bd_some, bv_some, Int.toNat_natCast, Int.toNat_zero, sF_1, sF_2, sA_1, sA_2, sR_1, sR_2, ↓reduceIte, if_pos, if_neg]⟩ m3.kc
      have kr2 : Kr ρ1 ρ2 := Kr.tr (b := sR ρ1 16 y) ⟨fun k _ => rfl, fun k z1 z2 => by funext j; simp (disch := omega) only [w32_eq, gI_eq, gB_eq, g0_eq, ix_nat, ix_eq, bd_some, bv_some, Int.toNat_natCast, Int.toNat_zero, sF_1, sF_2, sA_1, sA_2, sR_1, sR_2, ↓reduceIte, if_pos, if_neg]⟩ m4.kr
      have hC2 := (core_keep kc2 kr2 hCw).1
      have v4 : σ2.2 4 = σ1.2 4 := m3.2 4 (by decide)
      have v7 : ρ2.2 7 = ρ1.2 7 := m4.2 7 (by decide)
      have hL2 : IL σ2 ρ2 R P := IL_congr (IL_keep a4 (m3.2 9 (by decide)) v4 (by rw [m3.1]; rfl)) (fun q _ => by rw [v7])
      have cle := Mx_le m5
      obtain ⟨σ3, ρ3, q1, q2, q3, q4, q5, q6⟩ := movers_loop (R := R) (M := M) (P := P) (ch := ch0) (mv := mv) (al := (c : Int)) (by omega) 1000 1000 0 c 0 0 σ2 ρ2 hC2 hL2 (by rw [m3.1]; exact a5) (by rw [m4.1]; exact a6) (by rw [m3.2 21 (by decide)]; unfold sR; rfl) (fun k hk => by
        obtain ⟨x1, x2, x3, x4⟩ := a8 k hk
        refine ⟨?_, ?_, x3⟩
        · rw [m3.2 20 (by decide)]; exact x1
        · rw [m4.2 15 (by decide)]; exact x2) a9 (fun k _ hk => by rw [v7]; exact (a8 k hk).2.2.2) (fun i _ hi r hr => by
        rw [m4.2 16 (by decide), eg i hi r hr]
        have := y1 i hi r (by omega)
        show tb (y i) r = true ↔ _
        rw [this]
        constructor
        · intro z; exact z.2
        · intro z; exact ⟨hr, z⟩) (fun k hk r hr hE => by rw [v4]; exact ((eg k hk r hr).mp hE).2) m5 (by omega) (by omega) (by omega) (by omega) (by omega) (by omega)
      have k12 : ∀ k : Nat, k = 10 ∨ k = 11 ∨ k = 12 → σ3.1 k = σ.1 k := by
        intro k hk
        rw [q5 k (by omega), m3.1]
        show σ1.1 k = σ.1 k
        rw [a10 k (by omega) (by omega)]
        simp (disch := omega) only [w32_eq, gI_eq, gB_eq, g0_eq, ix_nat, ix_eq, bd_some, bv_some, Int.toNat_natCast, Int.toNat_zero, sF_1, sF_2, sA_1, sA_2, sR_1, sR_2, ↓reduceIte, if_pos, if_neg]
      have r12 : ρ3.2 12 = ρ.2 12 := by
        rw [q6, m4.2 12 (by decide)]
        show ρ1.2 12 = ρ.2 12
        rw [a11]; rfl
      have hD3 : ID σ3 ρ3 := by
        unfold ID
        rw [r12, k12 10 (by decide), k12 11 (by decide), k12 12 (by decide)]
        exact hD
      refine ⟨(M : Int) - c, σ3, ρ3, ?_, ?_, core_inv q3 q4 hD3⟩
      · have e14 : σ3.1 14 = M := by rw [q5 14 (by decide), m3.1]; exact a5
        have er : fX1_run σ (q : Int) = some ((M : Int) - c, σ3) := by
          unfold fX1_run fX1_run_L0
          rw [s1, ← hx]
          rw [show fX1_emptyHouse (sF σ 1 x) (q : Int) = some σ1 from a1, bv_some, w2, bv_some]
          rw [show fX1_run_L29 1000 0 (sR σ1 0 g) = _ from c2]
          rw [show fX1_mostFrom (sR (sR σ1 0 g) 21 ch0) 0 0 = some ((c : Int), σ2) from m1, bd_some, show fX1_settleMovers σ2 (c : Int) = some σ3 from q1, bv_some, e14]
        rw [er, ht]
        simp (disch := omega) only [w32_eq, gI_eq, gB_eq, g0_eq, ix_nat, ix_eq, bd_some, bv_some, Int.toNat_natCast, Int.toNat_zero, sF_1, sF_2, sA_1, sA_2, sR_1, sR_2, ↓reduceIte, if_pos, if_neg, Bool.false_eq_true]
      · rw [ht, ← hx]
        have er : fX11_strike_L49 1000 (q : Int) 0 (sF (sF ρ 1 x) 4 0) = some ((M : Int) - c, ρ3) := by
          rw [show fX11_strike_L49 1000 (q : Int) 0 (sF (sF ρ 1 x) 4 0) = _ from a2]
          rw [show fX11_strike_L117 1000 0 ρ1 = _ from y2, show fX11_most (sR ρ1 16 y) 0 = some ((c : Int), ρ2) from m2, bd_some]
          exact q2
        rw [er]
        simp (disch := omega) only [w32_eq, gI_eq, gB_eq, g0_eq, ix_nat, ix_eq, bd_some, bv_some, Int.toNat_natCast, Int.toNat_zero, sF_1, sF_2, sA_1, sA_2, sR_1, sR_2, ↓reduceIte, if_pos, if_neg, Bool.false_eq_true]
  · rw [within_eq σ ha (by omega) (by omega), w32_eq ha, in_eq ρ ha (by omega) (by omega)]
    exact ⟨-2, σ, ρ, by simp (disch := omega) only [w32_eq, gI_eq, gB_eq, g0_eq, ix_nat, ix_eq, bd_some, bv_some, Int.toNat_natCast, Int.toNat_zero, sF_1, sF_2, sA_1, sA_2, sR_1, sR_2, ↓reduceIte, if_pos, if_neg], by simp (disch := omega) only [w32_eq, gI_eq, gB_eq, g0_eq, ix_nat, ix_eq, bd_some, bv_some, Int.toNat_natCast, Int.toNat_zero, sF_1, sF_2, sA_1, sA_2, sR_1, sR_2, ↓reduceIte, if_pos, if_neg], hI⟩
end ESTRIKE
