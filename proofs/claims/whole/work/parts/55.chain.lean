section ECHAIN
variable {R F M : Nat} {E : Nat → Nat → Prop} {U : Nat → Prop}
/-- what a trial of the class, of the reference, leaves alone -/
def FC (σ σ' : St) : Prop := σ'.1 = σ.1 ∧ ∀ k : Nat, ¬ (22 ≤ k ∧ k ≤ 25) → σ'.2 k = σ.2 k
def FR (ρ ρ' : St) : Prop := ρ'.1 = ρ.1 ∧ ∀ k : Nat, ¬ (17 ≤ k ∧ k ≤ 19) → ρ'.2 k = ρ.2 k
theorem FC.rf {σ : St} : FC σ σ := ⟨rfl, fun _ _ => rfl⟩
theorem FR.rf {ρ : St} : FR ρ ρ := ⟨rfl, fun _ _ => rfl⟩
theorem FC.tr {a b c : St} (h : FC a b) (g : FC b c) : FC a c := ⟨g.1.trans h.1, fun k hk => (g.2 k hk).trans (h.2 k hk)⟩
theorem FR.tr {a b c : St} (h : FR a b) (g : FR b c) : FR a c := ⟨g.1.trans h.1, fun k hk => (g.2 k hk).trans (h.2 k hk)⟩
/-- the reference looks for the ROOM in which one is -/
theorem scan_loop {ρ : St} (h0 : ρ.1 0 = R) (hR : R ≤ 24) {m ro who s : Nat} (hs : s < R) (hro : ro < R) (hw : who < 16) (hgo : ∀ k : Nat, k < R → rg (ρ.2 17 k)) (hu : ∀ k : Nat, k < R → (ρ.2 17 k = who ↔ k = s)) (k101 : Int → Int → Int → St → Option (Int × St)) : ∀ (n k : Nat) (b : Int), k ≤ R → R - k < n → (s < k → b = s) →
    fX11_lays_L113 k101 n (m : Int) (ro : Int) (who : Int) b (k : Int) ρ = k101 (m : Int) (s : Int) (ρ.2 19 s) (sA ρ 17 ro (who : Int)) := by
  intro n
  induction n with
  | zero => intro k b _ h; omega
  | succ n ih =>
    intro k b hk hn hb
    have e0 : fX11_lays_L113 k101 (n + 1) (m : Int) (ro : Int) (who : Int) b (k : Int) ρ = fX11_lays_B113 k101 (fX11_lays_L113 k101 n) (m : Int) (ro : Int) (who : Int) b (k : Int) ρ := rfl
    rw [e0]
    unfold fX11_lays_B113
    by_cases e : k = R
    · subst e
      have hb1 := hb hs
      subst hb1
      simp (disch := omega) only [w32_eq, gI_eq, gB_eq, g0_eq, ix_nat, ix_eq, bd_some, bv_some, Int.toNat_natCast, Int.toNat_zero, sF_1, sF_2, sA_1, sA_2, sR_1, sR_2, ↓reduceIte, if_pos, if_neg, h0]
    · have hkR : k < R := by omega
      have g := hgo k hkR
      have u := hu k hkR
      unfold rg at g
      by_cases c : ρ.2 17 k = who
      · have := u.mp c
        have nx := ih (k + 1) (k : Int) (by omega) (by omega) (fun _ => by omega)
        simp (disch := omega) only [w32_eq, gI_eq, gB_eq, g0_eq, ix_nat, ix_eq, bd_some, bv_some, Int.toNat_natCast, Int.toNat_zero, sF_1, sF_2, sA_1, sA_2, sR_1, sR_2, ↓reduceIte, if_pos, if_neg, h0]
        exact nx
      · have nx := ih (k + 1) b (by omega) (by omega) (fun z => hb (by
          rcases Nat.lt_or_ge s k with y | y
          · exact y
          · exact absurd (u.mpr (by omega)) c))
        simp (disch := omega) only [w32_eq, gI_eq, gB_eq, g0_eq, ix_nat, ix_eq, bd_some, bv_some, Int.toNat_natCast, Int.toNat_zero, sF_1, sF_2, sA_1, sA_2, sR_1, sR_2, ↓reduceIte, if_pos, if_neg, h0]
        exact nx
/-- each of the chain gets the ROOM that it asked for: class and reference alike -/
theorem chain_loop {q : Nat → Nat} {m : Nat} (hR : R ≤ 24) (hM : M ≤ 16) (hq0 : q 0 = m) : ∀ (j f n i ro : Nat) (σ ρ : St), σ.1 0 = R → σ.1 14 = M → ρ.1 0 = R → ro < R → i + j < 16 → 17 - i < f → j < n →
    (∀ r : Nat, r < R → σ.2 22 r = ρ.2 17 r) → (∀ r : Nat, r < R → σ.2 22 r = -1 ∨ ∃ k : Nat, F ≤ k ∧ k < M ∧ σ.2 22 r = k) → (∀ k : Nat, k < M → σ.2 23 k = -1 ∨ ∃ r : Nat, r < R ∧ σ.2 23 k = r ∧ E k r) → (∀ r : Nat, r < R → r ≠ ro → ∀ k : Nat, k < M → (σ.2 22 r = k ↔ σ.2 23 k = r)) → (∀ k : Nat, k < M → σ.2 23 k ≠ ro) →
    σ.2 22 ro ≠ q j → σ.2 25 ro = q j → E (q j) ro → (∀ a : Nat, a ≤ j → F ≤ q a ∧ q a < M) → (∀ a b : Nat, a < b → b ≤ j → q a ≠ q b) → σ.2 23 m = -1 →
    (∀ a : Nat, 1 ≤ a → a ≤ j → ∃ s : Nat, s < R ∧ σ.2 23 (q a) = s ∧ ∃ b : Nat, b < a ∧ σ.2 25 s = q b ∧ ρ.2 19 s = q b ∧ E (q b) s) →
    (∀ k : Nat, U k → ∀ r : Nat, r < R → E k r → ∃ v : Nat, U v ∧ v < M ∧ σ.2 22 r = v) → (∀ k : Nat, U k → ¬ E k ro) →
    ∃ σ' ρ' : St, fX1_changeAlong_L4 f (ro : Int) (i : Int) σ = some σ' ∧ fX11_lays_L101 n (m : Int) (ro : Int) ((q j : Nat) : Int) ρ = some (1, ρ') ∧ FC σ σ' ∧ FR ρ ρ' ∧ (∀ r : Nat, r < R → σ'.2 22 r = ρ'.2 17 r) ∧ MI R F M E (σ'.2 22) (σ'.2 23) ∧ (∀ k : Nat, k < M → (σ'.2 23 k = -1 ↔ σ.2 23 k = -1 ∧ k ≠ m)) ∧ (∀ k : Nat, U k → ∀ r : Nat, r < R → E k r → ∃ v : Nat, U v ∧ v < M ∧ σ'.2 22 r = v) := by
  intro j
  induction j using Nat.strongRecOn with
  | _ j ih =>
    intro f n i ro σ ρ s0 s14 r0 hro hij hf hn hrow hins hplc hmt hfree hnq hask hE hq hd hm hst hU hUro
    obtain ⟨f, rfl⟩ : ∃ f' : Nat, f = f' + 1 := ⟨f - 1, by omega⟩
    obtain ⟨n, rfl⟩ : ∃ n' : Nat, n = n' + 1 := ⟨n - 1, by omega⟩
    have e0 : fX1_changeAlong_L4 (f + 1) (ro : Int) (i : Int) σ = fX1_changeAlong_B4 (fX1_changeAlong_L4 f) (ro : Int) (i : Int) σ := rfl
    have e1 : fX11_lays_L101 (n + 1) (m : Int) (ro : Int) ((q j : Nat) : Int) ρ = fX11_lays_B101 (fX11_lays_L101 n) (m : Int) (ro : Int) ((q j : Nat) : Int) ρ := rfl
    rw [e0, e1]
    obtain ⟨w, hw⟩ : ∃ w : Nat, w = q j := ⟨_, rfl⟩
    rw [← hw] at hnq hask hE ⊢
    obtain ⟨w1, w2⟩ := hq j (Nat.le_refl j)
    rw [← hw] at w1 w2
    obtain ⟨σ1, hσ1⟩ : ∃ σ1 : St, σ1 = sA (sA σ 22 ro (w : Int)) 23 w (ro : Int) := ⟨_, rfl⟩
    have hhas : fX5_has σ (ro : Int) = some (1, σ) := by
      unfold fX5_has fX5_has_L0
      simp (disch := omega) only [w32_eq, gI_eq, gB_eq, g0_eq, ix_nat, ix_eq, bd_some, bv_some, Int.toNat_natCast, Int.toNat_zero, sF_1, sF_2, sA_1, sA_2, sR_1, sR_2, ↓reduceIte, if_pos, if_neg, s0]
    have eC : fX1_changeAlong_B4 (fX1_changeAlong_L4 f) (ro : Int) (i : Int) σ = fX1_changeAlong_L4 f (σ.2 23 w) ((i + 1 : Nat) : Int) σ1 := by
      unfold fX1_changeAlong_B4
      rw [hhas, bd_some, hσ1]
      simp (disch := omega) only [w32_eq, gI_eq, gB_eq, g0_eq, ix_nat, ix_eq, bd_some, bv_some, Int.toNat_natCast, Int.toNat_zero, sF_1, sF_2, sA_1, sA_2, sR_1, sR_2, ↓reduceIte, if_pos, if_neg, hask, s14]
      rfl
    have v22 : ∀ r : Nat, σ1.2 22 r = if r = ro then (w : Int) else σ.2 22 r := by intro r; rw [hσ1]; simp (disch := omega) only [w32_eq, gI_eq, gB_eq, g0_eq, ix_nat, ix_eq, bd_some, bv_some, Int.toNat_natCast, Int.toNat_zero, sF_1, sF_2, sA_1, sA_2, sR_1, sR_2, ↓reduceIte, if_pos, if_neg]
    have v23 : ∀ k : Nat, σ1.2 23 k = if k = w then (ro : Int) else σ.2 23 k := by intro k; rw [hσ1]; simp (disch := omega) only [w32_eq, gI_eq, gB_eq, g0_eq, ix_nat, ix_eq, bd_some, bv_some, Int.toNat_natCast, Int.toNat_zero, sF_1, sF_2, sA_1, sA_2, sR_1, sR_2, ↓reduceIte, if_pos, if_neg]
    have v25 : σ1.2 25 = σ.2 25 := by rw [hσ1]; rfl
    have vF : FC σ σ1 := ⟨by rw [hσ1]; rfl, fun k hk => by rw [hσ1]; funext j; simp (disch := omega) only [w32_eq, gI_eq, gB_eq, g0_eq, ix_nat, ix_eq, bd_some, bv_some, Int.toNat_natCast, Int.toNat_zero, sF_1, sF_2, sA_1, sA_2, sR_1, sR_2, ↓reduceIte, if_pos, if_neg]⟩
    have vins : ∀ r : Nat, r < R → σ1.2 22 r = -1 ∨ ∃ k : Nat, F ≤ k ∧ k < M ∧ σ1.2 22 r = k := by
      intro r hr
      rw [v22]
      by_cases c : r = ro
      · rw [if_pos c]; exact Or.inr ⟨w, w1, w2, rfl⟩
      · rw [if_neg c]; exact hins r hr
    have vplc : ∀ k : Nat, k < M → σ1.2 23 k = -1 ∨ ∃ r : Nat, r < R ∧ σ1.2 23 k = r ∧ E k r := by
      intro k hk
      rw [v23]
      by_cases c : k = w
      · rw [if_pos c]; exact Or.inr ⟨ro, hro, rfl, by rw [c]; exact hE⟩
      · rw [if_neg c]; exact hplc k hk
    by_cases hj : j = 0
    · -- the first of the chain
      subst hj
      have hwm : w = m := hw.trans hq0
      have hm2 : σ.2 23 w = -1 := by rw [hwm]; exact hm
      refine ⟨σ1, sA ρ 17 ro (m : Int), ?_, ?_, vF, ⟨rfl, fun k hk => by funext j; simp (disch := omega) only [w32_eq, gI_eq, gB_eq, g0_eq, ix_nat, ix_eq, bd_some, bv_some, Int.toNat_natCast, Int.toNat_zero, sF_1, sF_2, sA_1, sA_2, sR_1, sR_2, ↓reduceIte, if_pos, if_neg]⟩, fun r hr => ?_, ⟨vins, vplc, fun r hr k hk => ?_⟩, fun k hk => ?_, fun k hk r hr hkr => ?_⟩
      · rw [eC, hm2]
        obtain ⟨f, rfl⟩ : ∃ f' : Nat, f = f' + 1 := ⟨f - 1, by omega⟩
        show fX1_changeAlong_B4 (fX1_changeAlong_L4 f) (-1) ((i + 1 : Nat) : Int) σ1 = _
        unfold fX1_changeAlong_B4
        have hhas2 : fX5_has σ1 (-1) = some (0, σ1) := by
          unfold fX5_has fX5_has_L0
          simp (disch := omega) only [w32_eq, gI_eq, gB_eq, g0_eq, ix_nat, ix_eq, bd_some, bv_some, Int.toNat_natCast, Int.toNat_zero, sF_1, sF_2, sA_1, sA_2, sR_1, sR_2, ↓reduceIte, if_pos, if_neg]
        rw [hhas2, bd_some]
        by_cases c : i + 1 = 16
        · simp (disch := omega) only [w32_eq, gI_eq, gB_eq, g0_eq, ix_nat, ix_eq, bd_some, bv_some, Int.toNat_natCast, Int.toNat_zero, sF_1, sF_2, sA_1, sA_2, sR_1, sR_2, ↓reduceIte, if_pos, if_neg]
        · simp (disch := omega) only [w32_eq, gI_eq, gB_eq, g0_eq, ix_nat, ix_eq, bd_some, bv_some, Int.toNat_natCast, Int.toNat_zero, sF_1, sF_2, sA_1, sA_2, sR_1, sR_2, ↓reduceIte, if_pos, if_neg]
      · unfold fX11_lays_B101
        rw [hwm]
        simp (disch := omega) only [w32_eq, gI_eq, gB_eq, g0_eq, ix_nat, ix_eq, bd_some, bv_some, Int.toNat_natCast, Int.toNat_zero, sF_1, sF_2, sA_1, sA_2, sR_1, sR_2, ↓reduceIte, if_pos, if_neg]
      · rw [v22]
        have := hrow r hr
        by_cases c : r = ro
        · subst c; rw [if_pos rfl, hwm]; simp (disch := omega) only [w32_eq, gI_eq, gB_eq, g0_eq, ix_nat, ix_eq, bd_some, bv_some, Int.toNat_natCast, Int.toNat_zero, sF_1, sF_2, sA_1, sA_2, sR_1, sR_2, ↓reduceIte, if_pos, if_neg]
        · rw [if_neg c, this]; simp (disch := omega) only [w32_eq, gI_eq, gB_eq, g0_eq, ix_nat, ix_eq, bd_some, bv_some, Int.toNat_natCast, Int.toNat_zero, sF_1, sF_2, sA_1, sA_2, sR_1, sR_2, ↓reduceIte, if_pos, if_neg]
      · rw [v22, v23]
        by_cases c : r = ro
        · subst c
          rw [if_pos rfl]
          by_cases d : k = w
          · subst d; rw [if_pos rfl]; exact ⟨fun _ => rfl, fun _ => rfl⟩
          · rw [if_neg d]
            exact ⟨fun z => by omega, fun z => absurd z (hfree k hk)⟩
        · rw [if_neg c]
          by_cases d : k = w
          · subst d
            rw [if_pos rfl]
            have := hmt r hr c k hk
            constructor
            · intro z
              have := this.mp z
              omega
            · intro z; omega
          · rw [if_neg d]; exact hmt r hr c k hk
      · rw [v23]
        by_cases d : k = w
        · rw [if_pos d]
          constructor
          · intro z; omega
          · intro z; exact absurd (d.trans hwm) z.2
        · rw [if_neg d]
          exact ⟨fun z => ⟨z, fun y => d (by omega)⟩, fun z => z.1⟩
      · obtain ⟨v, u1, u2, u3⟩ := hU k hk r hr hkr
        refine ⟨v, u1, u2, ?_⟩
        rw [v22, if_neg (show ¬ r = ro from fun z => hUro k hk (by rw [← z]; exact hkr))]
        exact u3
    · -- one further on
      obtain ⟨s, s1, s2, b, b1, b2, b3, b4⟩ := hst j (by omega) (Nat.le_refl j)
      rw [← hw] at s2
      have sro : s ≠ ro := fun z => hfree w w2 (by rw [s2, z])
      have inss : σ.2 22 s = w := (hmt s s1 sro w w2).mpr s2
      have hwm : w ≠ m := by
        rw [hw, ← hq0]
        exact fun z => hd 0 j (by omega) (Nat.le_refl j) z.symm
      obtain ⟨qb1, qb2⟩ := hq b (by omega)
      have hwb : w ≠ q b := by rw [hw]; exact fun z => hd b j b1 (Nat.le_refl j) z.symm
      have qaw : ∀ a : Nat, a < j → q a ≠ w := fun a ha => by rw [hw]; exact hd a j ha (Nat.le_refl j)
      obtain ⟨σ', ρ', a1, a2, a3, a4, a5, a6, a7, a8⟩ := ih b b1 f n (i + 1) s σ1 (sA ρ 17 ro (w : Int)) (by rw [hσ1]; exact s0) (by rw [hσ1]; exact s14) r0 s1 (by omega) (by omega) (by omega) (fun r hr => by
        rw [v22]
        have := hrow r hr
        by_cases c : r = ro
        · subst c; rw [if_pos rfl]; simp (disch := omega) only [w32_eq, gI_eq, gB_eq, g0_eq, ix_nat, ix_eq, bd_some, bv_some, Int.toNat_natCast, Int.toNat_zero, sF_1, sF_2, sA_1, sA_2, sR_1, sR_2, ↓reduceIte, if_pos, if_neg]
        · rw [if_neg c, this]; simp (disch := omega) only [w32_eq, gI_eq, gB_eq, g0_eq, ix_nat, ix_eq, bd_some, bv_some, Int.toNat_natCast, Int.toNat_zero, sF_1, sF_2, sA_1, sA_2, sR_1, sR_2, ↓reduceIte, if_pos, if_neg]) vins vplc (fun r hr hrs k hk => by
        rw [v22, v23]
        by_cases c : r = ro
        · subst c
          rw [if_pos rfl]
          by_cases d : k = w
          · subst d; rw [if_pos rfl]; exact ⟨fun _ => rfl, fun _ => rfl⟩
          · rw [if_neg d]
            exact ⟨fun z => by omega, fun z => absurd z (hfree k hk)⟩
        · rw [if_neg c]
          by_cases d : k = w
          · subst d
            rw [if_pos rfl]
            have := hmt r hr c k hk
            constructor
            · intro z
              have := this.mp z
              omega
            · intro z; omega
          · rw [if_neg d]; exact hmt r hr c k hk) (fun k hk => by
        rw [v23]
        by_cases d : k = w
        · rw [if_pos d]; omega
        · rw [if_neg d]
          intro z
          have := (hmt s s1 sro k hk).mpr z
          omega) (by rw [v22, if_neg sro, inss]; omega) (by rw [v25]; exact b2) b4 (fun a ha => hq a (by omega)) (fun a c hac hc => hd a c hac (by omega)) (by rw [v23, if_neg (fun z => hwm z.symm)]; exact hm) (fun a h1 h2 => by
        obtain ⟨s', x1, x2, x3⟩ := hst a h1 (by omega)
        refine ⟨s', x1, ?_, ?_⟩
        · rw [v23, if_neg (qaw a (by omega))]; exact x2
        · rw [v25]; exact x3) (fun k hk r hr hkr => by
        obtain ⟨v, u1, u2, u3⟩ := hU k hk r hr hkr
        refine ⟨v, u1, u2, ?_⟩
        rw [v22, if_neg (show ¬ r = ro from fun z => hUro k hk (by rw [← z]; exact hkr))]
        exact u3) (fun k hk hks => by
        obtain ⟨v, u1, u2, u3⟩ := hU k hk s s1 hks
        have : v = w := by omega
        rw [this] at u1
        exact hUro w u1 hE)
      have vR : FR ρ (sA ρ 17 ro (w : Int)) := ⟨rfl, fun k hk => by funext j; simp (disch := omega) only [w32_eq, gI_eq, gB_eq, g0_eq, ix_nat, ix_eq, bd_some, bv_some, Int.toNat_natCast, Int.toNat_zero, sF_1, sF_2, sA_1, sA_2, sR_1, sR_2, ↓reduceIte, if_pos, if_neg]⟩
      have m2 := (hq 0 (by omega)).2
      rw [hq0] at m2
      refine ⟨σ', ρ', ?_, ?_, FC.tr vF a3, FR.tr vR a4, a5, a6, fun k hk => ?_, a8⟩
      · rw [eC, s2]; exact a1
      · unfold fX11_lays_B101
        have sc := scan_loop r0 hR (m := m) s1 hro (who := w) (by omega) (fun k hk => by
          rw [← hrow k hk]
          rcases hins k hk with z | ⟨k', z1, z2, z3⟩
          · unfold rg; omega
          · unfold rg; omega) (fun k hk => by
          rw [← hrow k hk]
          by_cases c : k = ro
          · subst c
            exact ⟨fun z => absurd z hnq, fun z => absurd z.symm sro⟩
          · rw [hmt k hk c w w2, s2]
            constructor
            · intro z; omega
            · intro z; omega) (fX11_lays_L101 n) 1000 0 (-1) (by omega) (by omega) (fun z => by omega)
        rw [show fX11_lays_L113 (fX11_lays_L101 n) 1000 (m : Int) (ro : Int) (w : Int) (-1) 0 ρ = _ from sc, b3, a2]
        simp (disch := omega) only [w32_eq, gI_eq, gB_eq, g0_eq, ix_nat, ix_eq, bd_some, bv_some, Int.toNat_natCast, Int.toNat_zero, sF_1, sF_2, sA_1, sA_2, sR_1, sR_2, ↓reduceIte, if_pos, if_neg]
      · rw [a7 k hk, v23]
        by_cases d : k = w
        · rw [if_pos d, d, s2]
          constructor
          · intro z; omega
          · intro z; omega
        · rw [if_neg d]
end ECHAIN
