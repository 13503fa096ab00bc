section EALL
variable {R P : Nat} {t : Nat → Nat} {S : Int}
/-- k is of a ring that one below i is of -/
def led (t : Nat → Nat) (P : Nat) (S : Int) (i k : Nat) : Prop := ∃ q n j : Nat, q < i ∧ (q < P ∧ tb S q = true) ∧ per t q n ∧ j < n ∧ itr t j q = k
theorem led_per {i k : Nat} (hT : Tg P S t) (h : led t P S i k) : (∃ n : Nat, per t k n) ∧ k < P ∧ tb S k = true := by
  obtain ⟨q, n, j, h1, h2, h3, h4, h5⟩ := h
  subst h5
  exact ⟨⟨n, (per_move h3 h4).1⟩, itr_in (S := fun q => q < P ∧ tb S q = true) hT h2 j⟩
theorem led_succ {i k : Nat} : led t P S (i + 1) k ↔ led t P S i k ∨ ((i < P ∧ tb S i = true) ∧ ∃ n j : Nat, per t i n ∧ j < n ∧ itr t j i = k) := by
  constructor
  · rintro ⟨q, n, j, h1, h2, h3, h4, h5⟩
    by_cases e : q = i
    · subst e; exact Or.inr ⟨h2, n, j, h3, h4, h5⟩
    · exact Or.inl ⟨q, n, j, by omega, h2, h3, h4, h5⟩
  · rintro (⟨q, n, j, h1, h2, h3, h4, h5⟩ | ⟨h2, n, j, h3, h4, h5⟩)
    · exact ⟨q, n, j, by omega, h2, h3, h4, h5⟩
    · exact ⟨i, n, j, by omega, h2, h3, h4, h5⟩
/-- one that is led already leads to nobody new -/
theorem led_old {i k n j : Nat} (h : led t P S i i) (hn : per t i n) (hj : j < n) (hk : itr t j i = k) : led t P S i k := by
  obtain ⟨q, m, l, h1, h2, h3, h4, h5⟩ := h
  refine ⟨q, m, (j + l) % m, h1, h2, h3, Nat.mod_lt _ h3.1, ?_⟩
  rw [← per_mod h3, itr_add, h5, hk]
/-- one that isn't led is the least of its ring -/
theorem led_least {i n : Nat} (hT : Tg P S t) (hi : i < P ∧ tb S i = true) (h : ¬ led t P S i i) (hn : per t i n) : ∀ k : Nat, 1 ≤ k → k < n → i < itr t k i := by
  intro k k1 k2
  have hne := hn.2.2 k k1 k2
  rcases Nat.lt_trichotomy i (itr t k i) with z | z | z
  · exact z
  · exact absurd z.symm hne
  · exfalso
    obtain ⟨p1, l, l1, l2⟩ := per_move hn k2
    exact h ⟨itr t k i, n, l, z, itr_in (S := fun q => q < P ∧ tb S q = true) hT hi k, p1, l1, l2⟩
theorem led_not {i n : Nat} (h : led t P S i i) (hn : per t i n) : ¬ ∀ k : Nat, 1 ≤ k → k < n → i < itr t k i := by
  intro hx
  obtain ⟨q, m, j, h1, h2, h3, h4, h5⟩ := h
  obtain ⟨p1, l, l1, l2⟩ := per_move h3 h4
  rw [h5] at p1 l2
  have := per_inj hn p1
  subst this
  by_cases e : l = 0
  · subst e
    have : i = q := l2
    omega
  · have := hx l (by omega) l1
    omega
theorem led_len {i n : Nat} {lg : Int} (h : led t P S i i) (hn : per t i n) (hl : ∀ q m : Nat, q < i → (q < P ∧ tb S q = true) → per t q m → 2 ≤ m → (m : Int) ≤ lg) (hn2 : 2 ≤ n) : (n : Int) ≤ lg := by
  obtain ⟨q, m, j, h1, h2, h3, h4, h5⟩ := h
  have p1 := (per_move h3 h4).1
  rw [h5] at p1
  have e := per_inj hn p1
  have := hl q m h1 h2 h3 (by omega)
  omega
/-- what the class keeps while rings are closed -/
def Ka (σ s : St) : Prop := (∀ k : Nat, k ≠ 10 → k ≠ 11 → s.1 k = σ.1 k) ∧ ∀ k : Nat, k ≠ 19 → s.2 k = σ.2 k
def Kb (ρ r : St) : Prop := r.1 = ρ.1 ∧ ∀ k : Nat, k ≠ 14 → r.2 k = ρ.2 k
theorem all_loop {σ ρ : St} (hB : Bs σ R P) (h2 : ρ.1 2 = P) (hT : Tg P S t) (hS : σ.1 13 = S) (h18 : ∀ q : Nat, q < P ∧ tb S q = true → σ.2 18 q = t q) (h13 : ∀ q : Nat, q < P ∧ tb S q = true → ρ.2 13 q = t q) (h9 : ∀ q : Nat, q < P → σ.2 9 q = ρ.2 7 q) :
    ∀ (f n i : Nat) (s r : St) (lv lf v2 v3 : Int), Ka σ s → Kb ρ r → i ≤ P → P - i < f → P - i < n → w32 lf = lf → (∀ k : Nat, k < 32 → (tb lv k = true ↔ led t P S i k)) → (∀ k : Nat, k < 32 → (tb lf k = true ↔ tb S k = true ∧ ¬ (k < i ∧ ∃ m : Nat, per t k m))) → s.1 10 = v2 → s.1 11 = v3 → (0 ≤ v3 ∧ v3 ≤ 16) → (∀ q m : Nat, q < i → (q < P ∧ tb S q = true) → per t q m → 2 ≤ m → (m : Int) ≤ v3) →
    (∀ q : Nat, q < P → (led t P S i q → s.2 19 q = ρ.2 7 (t q)) ∧ (¬ led t P S i q → s.2 19 q = σ.2 19 q)) → (∀ q : Nat, q < P → ((q < i ∧ tb S q = true ∧ ∃ m : Nat, per t q m) → r.2 14 q = ρ.2 7 (t q)) ∧ (¬ (q < i ∧ tb S q = true ∧ ∃ m : Nat, per t q m) → r.2 14 q = ρ.2 14 q)) →
    ∃ (s' r' : St) (S' u2 u3 : Int), fX8_closeAllRings_L4 f lv (i : Int) s = some (sF s' 13 S') ∧ (∀ (k71 : Int → Int → Int → Int → St → Option (Int × St)) (v4 : Int), fX11_trade_L130 k71 n S v2 v3 v4 lf (i : Int) r = k71 S' u2 u3 v4 r') ∧ Ka σ s' ∧ Kb ρ r' ∧ w32 S' = S' ∧ s'.1 10 = u2 ∧ s'.1 11 = u3 ∧ (0 ≤ u3 ∧ u3 ≤ 16) ∧ (∀ k : Nat, k < P → (tb S' k = true ↔ tb S k = true ∧ ¬ ∃ m : Nat, per t k m)) ∧ (∀ k : Nat, k < 32 → tb S' k = true → tb S k = true) ∧ (∀ q : Nat, q < P → ((tb S q = true ∧ ∃ m : Nat, per t q m) → s'.2 19 q = ρ.2 7 (t q) ∧ r'.2 14 q = ρ.2 7 (t q)) ∧ (¬ (tb S q = true ∧ ∃ m : Nat, per t q m) → s'.2 19 q = σ.2 19 q ∧ r'.2 14 q = ρ.2 14 q)) := by
  obtain ⟨b1, b2, b3, b4, b5⟩ := id hB
  intro f
  induction f with
  | zero => intro n i s r lv lf v2 v3 _ _ _ h; omega
  | succ f ih =>
    intro n i s r lv lf v2 v3 ka kb hi hf hn hlf hlv hlfb h10 h11 hv3 hmx hg19 hg14
    obtain ⟨n, rfl⟩ : ∃ n' : Nat, n = n' + 1 := ⟨n - 1, by omega⟩
    have s3 : s.1 3 = P := (ka.1 3 (by decide) (by decide)).trans b3
    have s13 : s.1 13 = S := (ka.1 13 (by decide) (by decide)).trans hS
    have hBs : Bs s R P := by
      unfold Bs
      rw [ka.1 0 (by decide) (by decide), ka.1 3 (by decide) (by decide), ka.1 9 (by decide) (by decide)]
      exact hB
    have s18 : ∀ q : Nat, q < P ∧ tb S q = true → s.2 18 q = t q := fun q hq => by rw [ka.2 18 (by decide)]; exact h18 q hq
    have r2 : r.1 2 = P := by rw [kb.1]; exact h2
    have r13 : r.2 13 = ρ.2 13 := kb.2 13 (by decide)
    have r7 : r.2 7 = ρ.2 7 := kb.2 7 (by decide)
    have e0 : fX8_closeAllRings_L4 (f + 1) lv (i : Int) s = fX8_closeAllRings_B4 (fX8_closeAllRings_L4 f) lv (i : Int) s := rfl
    have e1 : ∀ (k71 : Int → Int → Int → Int → St → Option (Int × St)) (v4 : Int), fX11_trade_L130 k71 (n + 1) S v2 v3 v4 lf (i : Int) r = fX11_trade_B130 k71 (fX11_trade_L130 k71 n) S v2 v3 v4 lf (i : Int) r := fun _ _ => rfl
    by_cases e : i = P
    · subst e
      have hlast : ∀ k : Nat, k < i → tb S k = true → ((∃ m : Nat, per t k m) ↔ led t i S i k) := by
        intro k hk hk2
        constructor
        · rintro ⟨m, hm⟩
          exact ⟨k, m, 0, hk, ⟨hk, hk2⟩, hm, hm.1, rfl⟩
        · intro z; exact (led_per hT z).1
      have hmask : bAnd S (bXor lv (-1)) = lf := by
        have e := tb_ext (x := bAnd S (bXor lv (-1))) (y := lf) (fun k hk => by
          have a := hlv k hk
          have b := hlfb k hk
          rw [tb_and, tb_not _ hk]
          cases c1 : tb S k with
          | false =>
            cases c2 : tb lf k with
            | false => rfl
            | true => have := (b.mp c2).1; rw [c1] at this; cases this
          | true =>
            rw [Bool.true_and]
            cases c3 : tb lv k with
            | true =>
              cases c2 : tb lf k with
              | false => rfl
              | true =>
                have w := a.mp c3
                have := led_per hT w
                exact absurd ⟨this.2.1, this.1⟩ (b.mp c2).2
            | false =>
              cases c2 : tb lf k with
              | true => rfl
              | false =>
                exfalso
                have : ¬ ¬ (k < i ∧ ∃ m : Nat, per t k m) := fun z => by rw [b.mpr ⟨c1, z⟩] at c2; cases c2
                apply this
                rintro ⟨w1, w2⟩
                rw [a.mpr ((hlast k w1 c1).mp w2)] at c3; cases c3)
        rw [w32_bAnd, hlf] at e
        exact e
      refine ⟨s, r, lf, v2, v3, ?_, fun k71 v4 => ?_, ka, kb, hlf, h10, h11, hv3, fun k hk => ?_, fun k hk z => ((hlfb k hk).mp z).1, fun q hq => ⟨fun z => ?_, fun z => ?_⟩⟩
      · rw [e0]; unfold fX8_closeAllRings_B4
        rw [s13, hmask]
        simp (disch := omega) only [w32_eq, gI_eq, gB_eq, g0_eq, ix_nat, ix_eq, bd_some, bv_some, Int.toNat_natCast, Int.toNat_zero, sF_1, sF_2, sA_1, sA_2, sR_1, sR_2, ↓reduceIte, if_pos, if_neg, s3]
      · rw [e1]; unfold fX11_trade_B130
        simp (disch := omega) only [w32_eq, gI_eq, gB_eq, g0_eq, ix_nat, ix_eq, bd_some, bv_some, Int.toNat_natCast, Int.toNat_zero, sF_1, sF_2, sA_1, sA_2, sR_1, sR_2, ↓reduceIte, if_pos, if_neg, r2]
      · rw [hlfb k (by omega)]
        constructor
        · intro z; exact ⟨z.1, fun y => z.2 ⟨hk, y⟩⟩
        · intro z; exact ⟨z.1, fun y => z.2 y.2⟩
      · exact ⟨(hg19 q hq).1 ((hlast q hq z.1).mp z.2), (hg14 q hq).1 ⟨hq, z⟩⟩
      · refine ⟨(hg19 q hq).2 (fun y => z ?_), (hg14 q hq).2 (fun y => z y.2)⟩
        have := led_per hT y
        exact ⟨this.2.2, this.1⟩
    · have hiP : i < P := by omega
      have eb := bShr_bit S (n := i) (by omega)
      by_cases cS : tb S i = true
      · rw [if_pos cS] at eb
        have hiS : i < P ∧ tb S i = true := ⟨hiP, cS⟩
        have hti := hT i hiS
        have r13i : ∀ q : Nat, q < P ∧ tb S q = true → r.2 13 q = t q := fun q hq => by rw [r13]; exact h13 q hq
        have eR0 : ∀ (k71 : Int → Int → Int → Int → St → Option (Int × St)) (v4 : Int), fX11_trade_L130 k71 (n + 1) S v2 v3 v4 lf (i : Int) r = fX11_trade_L161 k71 (fX11_trade_L130 k71 n) 1000 S v2 v3 v4 lf (i : Int) ((1 : Nat) : Int) ((itr t 1 i : Nat) : Int) r := by
          intro k71 v4
          rw [e1]; unfold fX11_trade_B130
          have w : r.2 13 i = ((itr t 1 i : Nat) : Int) := r13i i hiS
          simp (disch := omega) only [w32_eq, gI_eq, gB_eq, g0_eq, ix_nat, ix_eq, bd_some, bv_some, Int.toNat_natCast, Int.toNat_zero, sF_1, sF_2, sA_1, sA_2, sR_1, sR_2, ↓reduceIte, if_pos, if_neg, r2, eb, w]
          rfl
        -- the reference, where i is in a ring of m
        have eRing : ∀ m : Nat, per t i m → m ≤ 16 → ∃ u : Int, ((2 ≤ m ∧ ∀ k : Nat, 1 ≤ k → k < m → i < itr t k i) → u = 1) ∧ (¬ (2 ≤ m ∧ ∀ k : Nat, 1 ≤ k → k < m → i < itr t k i) → u = 0) ∧ ∀ (k71 : Int → Int → Int → Int → St → Option (Int × St)) (v4 : Int), fX11_trade_L130 k71 (n + 1) S v2 v3 v4 lf (i : Int) r = fX11_trade_L130 k71 n S (v2 + u) (if 2 ≤ m ∧ v3 < m then (m : Int) else v3) v4 (bAnd lf (bXor (bShl 1 (i : Int)) (-1))) ((i + 1 : Nat) : Int) (sA r 14 i (ρ.2 7 (t i))) := by
          intro m hm hm16
          by_cases cf : 2 ≤ m ∧ ∀ k : Nat, 1 ≤ k → k < m → i < itr t k i
          · refine ⟨1, fun _ => rfl, fun z => absurd cf z, fun k71 v4 => ?_⟩
            rw [eR0]
            rcases walk_loop (ρ := r) b4 hT r13i hiS k71 (fX11_trade_L130 k71 n) S v2 v3 v4 lf 1000 1 (by omega) (by omega) (by omega) (fun k k1 k2 => by omega) with ⟨m', a1, a2, a3⟩ | ⟨a1, a2⟩
            · have := per_inj hm a1
              subst this
              rw [a3]
              unfold fX11_trade_L190
              obtain ⟨u, u1, u2, u3⟩ := first_loop (ρ := sA r 14 i (ρ.2 7 (t i))) b4 hT (fun q hq => r13i q hq) hiS hm hm16 k71 (fX11_trade_L130 k71 n) S v2 v3 v4 (bAnd lf (bXor (bShl 1 (i : Int)) (-1))) 1000 1 1 (by omega) hm.1 (by omega) (Or.inr rfl) ⟨fun _ k k1 k2 => by omega, fun _ => rfl⟩
              rw [u1 cf] at u3
              have w13 : (sA r 14 i (ρ.2 7 (t i))).2 13 i = ((itr t 1 i : Nat) : Int) := r13i i hiS
              have w13' : r.2 13 i = ((t i : Nat) : Int) := r13i i hiS
              have tl := hti.1
              simp (disch := omega) only [w32_eq, gI_eq, gB_eq, g0_eq, ix_nat, ix_eq, bd_some, bv_some, Int.toNat_natCast, Int.toNat_zero, sF_1, sF_2, sA_1, sA_2, sR_1, sR_2, ↓reduceIte, if_pos, if_neg, w13', r7]
              rw [show ((t i : Nat) : Int) = ((itr t 1 i : Nat) : Int) from rfl, u3]
              unfold fX11_trade_L294
              by_cases c3 : v3 < m
              · rw [if_pos (show 2 ≤ m ∧ v3 < (m : Int) from ⟨cf.1, c3⟩)]
                simp (disch := omega) only [w32_eq, gI_eq, gB_eq, g0_eq, ix_nat, ix_eq, bd_some, bv_some, Int.toNat_natCast, Int.toNat_zero, sF_1, sF_2, sA_1, sA_2, sR_1, sR_2, ↓reduceIte, if_pos, if_neg]
                rfl
              · rw [if_neg (show ¬ (2 ≤ m ∧ v3 < (m : Int)) from fun z => c3 z.2)]
                simp (disch := omega) only [w32_eq, gI_eq, gB_eq, g0_eq, ix_nat, ix_eq, bd_some, bv_some, Int.toNat_natCast, Int.toNat_zero, sF_1, sF_2, sA_1, sA_2, sR_1, sR_2, ↓reduceIte, if_pos, if_neg]
                rfl
            · exact absurd hm (a1 m)
          · refine ⟨0, fun z => absurd z cf, fun _ => rfl, fun k71 v4 => ?_⟩
            rw [eR0]
            rcases walk_loop (ρ := r) b4 hT r13i hiS k71 (fX11_trade_L130 k71 n) S v2 v3 v4 lf 1000 1 (by omega) (by omega) (by omega) (fun k k1 k2 => by omega) with ⟨m', a1, a2, a3⟩ | ⟨a1, a2⟩
            · have := per_inj hm a1
              subst this
              rw [a3]
              unfold fX11_trade_L190
              obtain ⟨u, u1, u2, u3⟩ := first_loop (ρ := sA r 14 i (ρ.2 7 (t i))) b4 hT (fun q hq => r13i q hq) hiS hm hm16 k71 (fX11_trade_L130 k71 n) S v2 v3 v4 (bAnd lf (bXor (bShl 1 (i : Int)) (-1))) 1000 1 1 (by omega) hm.1 (by omega) (Or.inr rfl) ⟨fun _ k k1 k2 => by omega, fun _ => rfl⟩
              rw [u2 cf] at u3
              have w13' : r.2 13 i = ((t i : Nat) : Int) := r13i i hiS
              have tl := hti.1
              simp (disch := omega) only [w32_eq, gI_eq, gB_eq, g0_eq, ix_nat, ix_eq, bd_some, bv_some, Int.toNat_natCast, Int.toNat_zero, sF_1, sF_2, sA_1, sA_2, sR_1, sR_2, ↓reduceIte, if_pos, if_neg, w13', r7]
              rw [show ((t i : Nat) : Int) = ((itr t 1 i : Nat) : Int) from rfl, u3]
              unfold fX11_trade_L294
              by_cases c3 : 2 ≤ m ∧ v3 < m
              · rw [if_pos c3]
                simp (disch := omega) only [w32_eq, gI_eq, gB_eq, g0_eq, ix_nat, ix_eq, bd_some, bv_some, Int.toNat_natCast, Int.toNat_zero, sF_1, sF_2, sA_1, sA_2, sR_1, sR_2, ↓reduceIte, if_pos, if_neg]
                rfl
              · rw [if_neg c3]
                by_cases c4 : 2 ≤ m
                · simp (disch := omega) only [w32_eq, gI_eq, gB_eq, g0_eq, ix_nat, ix_eq, bd_some, bv_some, Int.toNat_natCast, Int.toNat_zero, sF_1, sF_2, sA_1, sA_2, sR_1, sR_2, ↓reduceIte, if_pos, if_neg]
                  rfl
                · simp (disch := omega) only [w32_eq, gI_eq, gB_eq, g0_eq, ix_nat, ix_eq, bd_some, bv_some, Int.toNat_natCast, Int.toNat_zero, sF_1, sF_2, sA_1, sA_2, sR_1, sR_2, ↓reduceIte, if_pos, if_neg]
                  rfl
            · exact absurd hm (a1 m)
        -- what holds of the masks and rows of the reference behind i, in a ring
        have hlf1 : ∀ m : Nat, per t i m → ∀ k : Nat, k < 32 → (tb (bAnd lf (bXor (bShl 1 (i : Int)) (-1))) k = true ↔ tb S k = true ∧ ¬ (k < i + 1 ∧ ∃ m : Nat, per t k m)) := by
          intro m hm k hk
          rw [tb_and, tb_not _ hk, tb_shl1 (by omega), Bool.and_eq_true, hlfb k hk]
          by_cases ek : k = i
          · subst ek
            constructor
            · intro z; exact absurd z.2 (by simp)
            · intro z; exact absurd ⟨by omega, m, hm⟩ z.2
          · simp only [ek, decide_false, Bool.not_false, and_true]
            constructor
            · intro z; exact ⟨z.1, fun y => z.2 ⟨by omega, y.2⟩⟩
            · intro z; exact ⟨z.1, fun y => z.2 ⟨by omega, y.2⟩⟩
        have hg141 : ∀ m : Nat, per t i m → ∀ q : Nat, q < P → ((q < i + 1 ∧ tb S q = true ∧ ∃ m : Nat, per t q m) → (sA r 14 i (ρ.2 7 (t i))).2 14 q = ρ.2 7 (t q)) ∧ (¬ (q < i + 1 ∧ tb S q = true ∧ ∃ m : Nat, per t q m) → (sA r 14 i (ρ.2 7 (t i))).2 14 q = ρ.2 14 q) := by
          intro m hm q hq
          by_cases eq : q = i
          · subst eq
            exact ⟨fun _ => by simp (disch := omega) only [w32_eq, gI_eq, gB_eq, g0_eq, ix_nat, ix_eq, bd_some, bv_some, Int.toNat_natCast, Int.toNat_zero, sF_1, sF_2, sA_1, sA_2, sR_1, sR_2, ↓reduceIte, if_pos, if_neg], fun z => absurd ⟨by omega, cS, m, hm⟩ z⟩
          · have w := hg14 q hq
            refine ⟨fun z => ?_, fun z => ?_⟩
            · have := w.1 ⟨by omega, z.2⟩
              simp (disch := omega) only [w32_eq, gI_eq, gB_eq, g0_eq, ix_nat, ix_eq, bd_some, bv_some, Int.toNat_natCast, Int.toNat_zero, sF_1, sF_2, sA_1, sA_2, sR_1, sR_2, ↓reduceIte, if_pos, if_neg]; exact this
            · have := w.2 (fun y => z ⟨by omega, y.2⟩)
              simp (disch := omega) only [w32_eq, gI_eq, gB_eq, g0_eq, ix_nat, ix_eq, bd_some, bv_some, Int.toNat_natCast, Int.toNat_zero, sF_1, sF_2, sA_1, sA_2, sR_1, sR_2, ↓reduceIte, if_pos, if_neg]; exact this
        have kb1 : Kb ρ (sA r 14 i (ρ.2 7 (t i))) := ⟨kb.1, fun k hk => by
          have := kb.2 k hk
          rw [← this]; funext j; simp (disch := omega) only [w32_eq, gI_eq, gB_eq, g0_eq, ix_nat, ix_eq, bd_some, bv_some, Int.toNat_natCast, Int.toNat_zero, sF_1, sF_2, sA_1, sA_2, sR_1, sR_2, ↓reduceIte, if_pos, if_neg]⟩
        by_cases cl : led t P S i i
        · -- led already
          obtain ⟨⟨m, hm⟩, _⟩ := led_per hT cl
          have hm16 : m ≤ 16 := by
            have := per_le (S := fun q => q < P ∧ tb S q = true) hT (m := P) (fun q hq => hq.1) hiS hm
            omega
          have same : ∀ k : Nat, led t P S (i + 1) k ↔ led t P S i k := by
            intro k
            rw [led_succ]
            constructor
            · rintro (z | ⟨_, m', j, z1, z2, z3⟩)
              · exact z
              · exact led_old cl z1 z2 z3
            · exact Or.inl
          obtain ⟨u, u1, u2, u3⟩ := eRing m hm hm16
          have hu : u = 0 := u2 (fun z => led_not cl hm z.2)
          subst hu
          have hv3' : (if 2 ≤ m ∧ v3 < m then (m : Int) else v3) = v3 := by
            rw [if_neg]
            rintro ⟨z1, z2⟩
            have := led_len cl hm hmx z1
            omega
          obtain ⟨s', r', S', y2, y3, q1, q2, q3⟩ := ih n (i + 1) s (sA r 14 i (ρ.2 7 (t i))) lv (bAnd lf (bXor (bShl 1 (i : Int)) (-1))) v2 v3 ka kb1 (by omega) (by omega) (by omega) (w32_bAnd _ _) (fun k hk => (hlv k hk).trans (same k).symm) (hlf1 m hm) h10 h11 hv3 (fun q m' hq hq2 hq3 hq4 => by
            by_cases eq : q = i
            · subst eq
              exact led_len cl hq3 hmx hq4
            · exact hmx q m' (by omega) hq2 hq3 hq4) (fun q hq => ⟨fun z => (hg19 q hq).1 ((same q).mp z), fun z => (hg19 q hq).2 (fun y => z ((same q).mpr y))⟩) (hg141 m hm)
          refine ⟨s', r', S', y2, y3, ?_, fun k71 v4 => ?_, q3⟩
          · rw [e0]; unfold fX8_closeAllRings_B4
            rw [s13, inBits_eq s S (by omega), bd_some, if_pos cS, inBits_eq s lv (by omega), bd_some, if_pos ((hlv i (by omega)).mpr cl)]
            simp (disch := omega) only [w32_eq, gI_eq, gB_eq, g0_eq, ix_nat, ix_eq, bd_some, bv_some, Int.toNat_natCast, Int.toNat_zero, sF_1, sF_2, sA_1, sA_2, sR_1, sR_2, ↓reduceIte, if_pos, if_neg, s3]
            exact q1
          · rw [u3, hv3', Int.add_zero, q2 k71 v4]
        · -- not led yet
          rcases ringLength_eq hBs hT s18 hiS with ⟨m, hm, hm16, hlen⟩ | ⟨hnone, hlen⟩
          · -- the least of a ring
            have least := led_least hT hiS cl hm
            obtain ⟨v', g', a1, a2, a3⟩ := closeRing_eq hBs hT s18 hiS hm.1 hm16 (by rw [h11]; exact hv3)
            obtain ⟨u, u1, u2, u3⟩ := eRing m hm hm16
            have nw : ∀ k : Nat, led t P S (i + 1) k ↔ led t P S i k ∨ ∃ j : Nat, j < m ∧ itr t j i = k := by
              intro k
              rw [led_succ]
              constructor
              · rintro (z | ⟨_, m', j, z1, z2, z3⟩)
                · exact Or.inl z
                · have := per_inj hm z1
                  subst this
                  exact Or.inr ⟨j, z2, z3⟩
              · rintro (z | ⟨j, z2, z3⟩)
                · exact Or.inl z
                · exact Or.inr ⟨hiS, m, j, hm, z2, z3⟩
            obtain ⟨s1, hs1⟩ : ∃ s1 : St, s1 = (if 2 ≤ m then sF (sF (sR s 19 g') 10 (s.1 10 + 1)) 11 (if s.1 11 < m then (m : Int) else s.1 11) else sR s 19 g') := ⟨_, rfl⟩
            have k1 : ∀ k : Nat, k ≠ 10 → k ≠ 11 → s1.1 k = s.1 k := by
              intro k h1 h2
              rw [hs1]
              split
              · simp (disch := omega) only [w32_eq, gI_eq, gB_eq, g0_eq, ix_nat, ix_eq, bd_some, bv_some, Int.toNat_natCast, Int.toNat_zero, sF_1, sF_2, sA_1, sA_2, sR_1, sR_2, ↓reduceIte, if_pos, if_neg]
              · rfl
            have k2 : ∀ k : Nat, k ≠ 19 → s1.2 k = s.2 k := by
              intro k h1
              rw [hs1]
              split
              · funext j; simp (disch := omega) only [w32_eq, gI_eq, gB_eq, g0_eq, ix_nat, ix_eq, bd_some, bv_some, Int.toNat_natCast, Int.toNat_zero, sF_1, sF_2, sA_1, sA_2, sR_1, sR_2, ↓reduceIte, if_pos, if_neg]
              · funext j; simp (disch := omega) only [w32_eq, gI_eq, gB_eq, g0_eq, ix_nat, ix_eq, bd_some, bv_some, Int.toNat_natCast, Int.toNat_zero, sF_1, sF_2, sA_1, sA_2, sR_1, sR_2, ↓reduceIte, if_pos, if_neg]
            have k19 : s1.2 19 = g' := by
              rw [hs1]
              split
              · funext j; simp (disch := omega) only [w32_eq, gI_eq, gB_eq, g0_eq, ix_nat, ix_eq, bd_some, bv_some, Int.toNat_natCast, Int.toNat_zero, sF_1, sF_2, sA_1, sA_2, sR_1, sR_2, ↓reduceIte, if_pos, if_neg]
              · funext j; simp (disch := omega) only [w32_eq, gI_eq, gB_eq, g0_eq, ix_nat, ix_eq, bd_some, bv_some, Int.toNat_natCast, Int.toNat_zero, sF_1, sF_2, sA_1, sA_2, sR_1, sR_2, ↓reduceIte, if_pos, if_neg]
            have ka1 : Ka σ s1 := ⟨fun k h1 h2 => (k1 k h1 h2).trans (ka.1 k h1 h2), fun k h1 => (k2 k h1).trans (ka.2 k h1)⟩
            have k10 : s1.1 10 = v2 + u := by
              rw [hs1]
              by_cases c2 : 2 ≤ m
              · rw [if_pos c2, u1 ⟨c2, least⟩, ← h10]
                simp (disch := omega) only [w32_eq, gI_eq, gB_eq, g0_eq, ix_nat, ix_eq, bd_some, bv_some, Int.toNat_natCast, Int.toNat_zero, sF_1, sF_2, sA_1, sA_2, sR_1, sR_2, ↓reduceIte, if_pos, if_neg]
              · rw [if_neg c2, u2 (fun z => c2 z.1), Int.add_zero]
                exact h10
            have k11 : s1.1 11 = (if 2 ≤ m ∧ v3 < m then (m : Int) else v3) := by
              rw [hs1]
              by_cases c2 : 2 ≤ m
              · rw [if_pos c2, h11]
                by_cases c3 : v3 < m
                · simp (disch := omega) only [w32_eq, gI_eq, gB_eq, g0_eq, ix_nat, ix_eq, bd_some, bv_some, Int.toNat_natCast, Int.toNat_zero, sF_1, sF_2, sA_1, sA_2, sR_1, sR_2, ↓reduceIte, if_pos, if_neg]
                · simp (disch := omega) only [w32_eq, gI_eq, gB_eq, g0_eq, ix_nat, ix_eq, bd_some, bv_some, Int.toNat_natCast, Int.toNat_zero, sF_1, sF_2, sA_1, sA_2, sR_1, sR_2, ↓reduceIte, if_pos, if_neg]
              · rw [if_neg c2, if_neg (fun z => c2 z.1)]
                exact h11
            obtain ⟨s', r', S', y2, y3, q1, q2, q3⟩ := ih n (i + 1) s1 (sA r 14 i (ρ.2 7 (t i))) (bOr lv v') (bAnd lf (bXor (bShl 1 (i : Int)) (-1))) (v2 + u) (if 2 ≤ m ∧ v3 < m then (m : Int) else v3) ka1 kb1 (by omega) (by omega) (by omega) (w32_bAnd _ _) (fun k hk => by
              rw [tb_or, Bool.or_eq_true, hlv k hk, a1 k hk, nw k]) (hlf1 m hm) k10 k11 (by split <;> omega) (fun q m' hq hq2 hq3 hq4 => by
              by_cases eq : q = i
              · subst eq
                have := per_inj hm hq3
                subst this
                split <;> omega
              · have := hmx q m' (by omega) hq2 hq3 hq4
                split <;> omega) (fun q hq => by
              rw [k19]
              have w := a2 q
              have w2 := hg19 q hq
              by_cases c : ∃ j : Nat, j < m ∧ itr t j i = q
              · have hqS : q < P ∧ tb S q = true := by
                  obtain ⟨j, _, j2⟩ := c
                  rw [← j2]
                  exact itr_in (S := fun q => q < P ∧ tb S q = true) hT hiS j
                refine ⟨fun _ => ?_, fun z => absurd ((nw q).mpr (Or.inr c)) z⟩
                rw [w.1 c, ka.2 9 (by decide), h9 _ (hT q hqS).1]
              · rw [w.2 c]
                refine ⟨fun z => ?_, fun z => w2.2 (fun y => z ((nw q).mpr (Or.inl y)))⟩
                rcases (nw q).mp z with y | y
                · exact w2.1 y
                · exact absurd y c) (hg141 m hm)
            refine ⟨s', r', S', y2, y3, ?_, fun k71 v4 => ?_, q3⟩
            · rw [e0]; unfold fX8_closeAllRings_B4
              rw [s13, inBits_eq s S (by omega), bd_some, if_pos cS, inBits_eq s lv (by omega), bd_some, if_neg (fun z => cl ((hlv i (by omega)).mp z)), hlen, bd_some, a3, bd_some, ← hs1]
              simp (disch := omega) only [w32_eq, gI_eq, gB_eq, g0_eq, ix_nat, ix_eq, bd_some, bv_some, Int.toNat_natCast, Int.toNat_zero, sF_1, sF_2, sA_1, sA_2, sR_1, sR_2, ↓reduceIte, if_pos, if_neg, s3]
              exact q1
            · rw [u3, q2 k71 v4]
          · -- in no ring
            have same : ∀ k : Nat, led t P S (i + 1) k ↔ led t P S i k := by
              intro k
              rw [led_succ]
              constructor
              · rintro (z | ⟨_, m', j, z1, z2, z3⟩)
                · exact z
                · exact absurd z1 (hnone m')
              · exact Or.inl
            obtain ⟨s', r', S', y2, y3, q1, q2, q3⟩ := ih n (i + 1) s r (bOr lv 0) lf v2 v3 ka kb (by omega) (by omega) (by omega) hlf (fun k hk => by
              rw [tb_or, tb_0, Bool.or_false, hlv k hk]
              exact (same k).symm) (fun k hk => by
              rw [hlfb k hk]
              by_cases ek : k = i
              · subst ek
                constructor
                · intro z; exact ⟨z.1, fun ⟨_, m, y⟩ => hnone m y⟩
                · intro z; exact ⟨z.1, fun ⟨_, m, y⟩ => hnone m y⟩
              · constructor
                · intro z; exact ⟨z.1, fun y => z.2 ⟨by omega, y.2⟩⟩
                · intro z; exact ⟨z.1, fun y => z.2 ⟨by omega, y.2⟩⟩) h10 h11 hv3 (fun q m' hq hq2 hq3 hq4 => by
              by_cases eq : q = i
              · subst eq
                exact absurd hq3 (hnone m')
              · exact hmx q m' (by omega) hq2 hq3 hq4) (fun q hq => ⟨fun z => (hg19 q hq).1 ((same q).mp z), fun z => (hg19 q hq).2 (fun y => z ((same q).mpr y))⟩) (fun q hq => by
              have w := hg14 q hq
              by_cases eq : q = i
              · subst eq
                exact ⟨fun ⟨_, _, m, y⟩ => absurd y (hnone m), fun _ => w.2 (fun ⟨_, _, m, y⟩ => hnone m y)⟩
              · exact ⟨fun z => w.1 ⟨by omega, z.2⟩, fun z => w.2 (fun y => z ⟨by omega, y.2⟩)⟩)
            refine ⟨s', r', S', y2, y3, ?_, fun k71 v4 => ?_, q3⟩
            · rw [e0]; unfold fX8_closeAllRings_B4
              rw [s13, inBits_eq s S (by omega), bd_some, if_pos cS, inBits_eq s lv (by omega), bd_some, if_neg (fun z => cl ((hlv i (by omega)).mp z)), hlen, bd_some, closeRing_0, bd_some]
              simp (disch := omega) only [w32_eq, gI_eq, gB_eq, g0_eq, ix_nat, ix_eq, bd_some, bv_some, Int.toNat_natCast, Int.toNat_zero, sF_1, sF_2, sA_1, sA_2, sR_1, sR_2, ↓reduceIte, if_pos, if_neg, s3]
              exact q1
            · rw [eR0]
              rcases walk_loop (ρ := r) b4 hT r13i hiS k71 (fX11_trade_L130 k71 n) S v2 v3 v4 lf 1000 1 (by omega) (by omega) (by omega) (fun k k1 k2 => by omega) with ⟨m', a1, a2, a3⟩ | ⟨a1, a2⟩
              · exact absurd a1 (hnone m')
              · rw [a2]
                exact q2 k71 v4
      · rw [if_neg cS] at eb
        have same : ∀ k : Nat, led t P S (i + 1) k ↔ led t P S i k := by
          intro k
          rw [led_succ]
          constructor
          · rintro (z | ⟨z, _⟩)
            · exact z
            · exact absurd z.2 cS
          · exact Or.inl
        obtain ⟨s', r', S', y2, y3, q1, q2, q3⟩ := ih n (i + 1) s r lv lf v2 v3 ka kb (by omega) (by omega) (by omega) hlf (fun k hk => (hlv k hk).trans (same k).symm) (fun k hk => by
          rw [hlfb k hk]
          by_cases ek : k = i
          · subst ek
            constructor
            · intro z; exact absurd z.1 cS
            · intro z; exact absurd z.1 cS
          · constructor
            · intro z; exact ⟨z.1, fun y => z.2 ⟨by omega, y.2⟩⟩
            · intro z; exact ⟨z.1, fun y => z.2 ⟨by omega, y.2⟩⟩) h10 h11 hv3 (fun q m' hq hq2 hq3 hq4 => by
          by_cases eq : q = i
          · subst eq
            exact absurd hq2.2 cS
          · exact hmx q m' (by omega) hq2 hq3 hq4) (fun q hq => ⟨fun z => (hg19 q hq).1 ((same q).mp z), fun z => (hg19 q hq).2 (fun y => z ((same q).mpr y))⟩) (fun q hq => by
          have w := hg14 q hq
          by_cases eq : q = i
          · subst eq
            exact ⟨fun z => absurd z.2.1 cS, fun _ => w.2 (fun z => cS z.2.1)⟩
          · exact ⟨fun z => w.1 ⟨by omega, z.2⟩, fun z => w.2 (fun y => z ⟨by omega, y.2⟩)⟩)
        refine ⟨s', r', S', y2, y3, ?_, fun k71 v4 => ?_, q3⟩
        · rw [e0]; unfold fX8_closeAllRings_B4
          rw [s13, inBits_eq s S (by omega), bd_some, if_neg cS]
          simp (disch := omega) only [w32_eq, gI_eq, gB_eq, g0_eq, ix_nat, ix_eq, bd_some, bv_some, Int.toNat_natCast, Int.toNat_zero, sF_1, sF_2, sA_1, sA_2, sR_1, sR_2, ↓reduceIte, if_pos, if_neg, s3]
          exact q1
        · rw [e1]; unfold fX11_trade_B130
          rw [← q2 k71 v4]
          simp (disch := omega) only [w32_eq, gI_eq, gB_eq, g0_eq, ix_nat, ix_eq, bd_some, bv_some, Int.toNat_natCast, Int.toNat_zero, sF_1, sF_2, sA_1, sA_2, sR_1, sR_2, ↓reduceIte, if_pos, if_neg, r2, eb]
          rfl
end EALL
