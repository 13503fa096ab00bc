section ETRADE
variable {R P N T B : Nat}
/-- who has left already -/
def Dn (P : Nat) (tr S : Int) (q : Nat) : Prop := q < P ∧ tb tr q = true ∧ tb S q = false
/-- with whose ROOM each one has left -/
def Gts (P : Nat) (tr S : Int) (g h a : Nat → Int) (w : Nat → Nat) : Prop := (∀ q : Nat, Dn P tr S q → Dn P tr S (w q) ∧ g q = a (w q) ∧ h q = a (w q)) ∧ (∀ q : Nat, q < P → ¬ Dn P tr S q → h q = a q) ∧ (∀ q p : Nat, Dn P tr S q → Dn P tr S p → w q = w p → q = p) ∧ (∀ q : Nat, Dn P tr S q → ∃ p : Nat, Dn P tr S p ∧ w p = q)
theorem Gts_next {t : Nat → Nat} {tr S S' : Int} {g h g' h' a : Nat → Int} {w : Nat → Nat} (H : Gts P tr S g h a w) (hT : Tg P S t) (hSt : ∀ k : Nat, k < P → tb S k = true → tb tr k = true) (hS' : ∀ k : Nat, k < P → (tb S' k = true ↔ tb S k = true ∧ ¬ ∃ m : Nat, per t k m))
    (hgh : ∀ q : Nat, q < P → ((tb S q = true ∧ ∃ m : Nat, per t q m) → g' q = a (t q) ∧ h' q = a (t q)) ∧ (¬ (tb S q = true ∧ ∃ m : Nat, per t q m) → g' q = g q ∧ h' q = h q)) :
    Gts P tr S' g' h' a (fun q => if tb S q = true then t q else w q) := by
  obtain ⟨H1, H2, H3, H4⟩ := H
  have up : ∀ q : Nat, Dn P tr S q → Dn P tr S' q := by
    rintro q ⟨a1, a2, a3⟩
    refine ⟨a1, a2, ?_⟩
    cases c : tb S' q with
    | false => rfl
    | true => have := ((hS' q a1).mp c).1; rw [a3] at this; cases this
  have nw : ∀ q m : Nat, q < P → tb S q = true → per t q m → Dn P tr S' q := by
    intro q m a1 a2 a3
    refine ⟨a1, hSt q a1 a2, ?_⟩
    cases c : tb S' q with
    | false => rfl
    | true => exact absurd ⟨m, a3⟩ ((hS' q a1).mp c).2
  have of : ∀ q : Nat, Dn P tr S' q → tb S q = true → ∃ m : Nat, per t q m := by
    rintro q ⟨a1, a2, a3⟩ hs
    refine Classical.byContradiction fun hx => ?_
    rw [(hS' q a1).mpr ⟨hs, hx⟩] at a3; cases a3
  have ofn : ∀ q : Nat, Dn P tr S' q → ¬ tb S q = true → Dn P tr S q := by
    rintro q ⟨a1, a2, a3⟩ hs
    exact ⟨a1, a2, by cases c : tb S q with
      | false => rfl
      | true => exact absurd c hs⟩
  refine ⟨fun q hq => ?_, fun q hq hn => ?_, fun q p hq hp e => ?_, fun q hq => ?_⟩
  · by_cases c : tb S q = true
    · obtain ⟨m, hm⟩ := of q hq c
      simp only [if_pos c]
      have := (hgh q hq.1).1 ⟨c, m, hm⟩
      have tt := hT q ⟨hq.1, c⟩
      exact ⟨nw (t q) m tt.1 tt.2 (per_t hm), this⟩
    · simp only [if_neg c]
      have z := H1 q (ofn q hq c)
      have y := (hgh q hq.1).2 (fun x => c x.1)
      exact ⟨up _ z.1, y.1.trans z.2.1, y.2.trans z.2.2⟩
  · have c : ¬ (tb S q = true ∧ ∃ m : Nat, per t q m) := by
      rintro ⟨c1, m, c2⟩
      exact hn (nw q m hq c1 c2)
    rw [((hgh q hq).2 c).2]
    exact H2 q hq (fun z => hn (up q z))
  · by_cases c : tb S q = true
    · obtain ⟨m, hm⟩ := of q hq c
      simp only [if_pos c] at e
      by_cases d : tb S p = true
      · obtain ⟨k, hk⟩ := of p hp d
        simp only [if_pos d] at e
        exact ring_one hm hk e
      · simp only [if_neg d] at e
        have z := (H1 p (ofn p hp d)).1.2.2
        rw [← e, (hT q ⟨hq.1, c⟩).2] at z; cases z
    · simp only [if_neg c] at e
      have y := H1 q (ofn q hq c)
      by_cases d : tb S p = true
      · simp only [if_pos d] at e
        have z := y.1.2.2
        rw [e, (hT p ⟨hp.1, d⟩).2] at z; cases z
      · simp only [if_neg d] at e
        exact H3 q p (ofn q hq c) (ofn p hp d) e
  · by_cases c : tb S q = true
    · obtain ⟨m, hm⟩ := of q hq c
      obtain ⟨p, p1, p2, j, p3⟩ := ring_pre hm
      have pin : p < P ∧ tb S p = true := by
        rw [p3]; exact itr_in (S := fun q => q < P ∧ tb S q = true) hT ⟨hq.1, c⟩ j
      refine ⟨p, nw p m pin.1 pin.2 p1, ?_⟩
      simp only [if_pos pin.2]
      exact p2
    · obtain ⟨p, p1, p2⟩ := H4 q (ofn q hq c)
      refine ⟨p, up p p1, ?_⟩
      show (if tb S p = true then t p else w p) = q
      rw [if_neg (by rw [p1.2.2]; simp)]
      exact p2
/-- round by round -/
theorem rounds_loop {tr : Int} : ∀ (f n : Nat) (σ ρ : St) (S v2 v3 v4 : Int) (w : Nat → Nat), Dl σ ρ R P N T B → σ.1 13 = S → w32 S = S → (∀ k : Nat, k < 32 → tb S k = true → k < P ∧ tb tr k = true) → σ.1 10 = v2 → σ.1 11 = v3 → σ.1 12 = v4 → (0 ≤ v3 ∧ v3 ≤ 16) → 0 ≤ v4 → v4 + cb S P ≤ 16 → cb S P < f → cb S P < n → Gts P tr S (σ.2 19) (ρ.2 14) (ρ.2 7) w →
    ∃ (σ' ρ' : St) (u2 u3 u4 : Int) (w' : Nat → Nat), fX8_run_L32 f tr σ = (bd (fX8_moveAll σ' tr) fun a1 s1 => some (a1, s1)) ∧ fX11_trade_L71 n S v2 v3 v4 ρ = fX11_trade_L333 1000 u2 u3 u4 0 0 ρ' ∧ Dl σ' ρ' R P N T B ∧ σ'.1 10 = u2 ∧ σ'.1 11 = u3 ∧ σ'.1 12 = u4 ∧ Gts P tr 0 (σ'.2 19) (ρ'.2 14) (ρ'.2 7) w' ∧ ρ'.2 7 = ρ.2 7 := by
  intro f
  induction f with
  | zero => intro n σ ρ S v2 v3 v4 w _ _ _ _ _ _ _ _ _ _ h; omega
  | succ f ih =>
    intro n σ ρ S v2 v3 v4 w h hS hw hSP h10 h11 h12 hv3 hv4 hsum hf hn hG
    obtain ⟨n, rfl⟩ : ∃ n' : Nat, n = n' + 1 := ⟨n - 1, by omega⟩
    have b4 := h.1.1.2.2.2.1
    have e0 : fX8_run_L32 (f + 1) tr σ = fX8_run_B32 (fX8_run_L32 f) tr σ := rfl
    have e1 : fX11_trade_L71 (n + 1) S v2 v3 v4 ρ = fX11_trade_B71 (fX11_trade_L71 n) S v2 v3 v4 ρ := rfl
    rw [e0, e1]
    unfold fX8_run_B32 fX11_trade_B71
    rw [hS, hw]
    by_cases c : S = 0
    · rw [if_pos c, if_pos c]
      refine ⟨σ, ρ, v2, v3, v4, w, rfl, rfl, h, h10, h11, h12, ?_, rfl⟩
      rw [c] at hG; exact hG
    · rw [if_neg c, if_neg c]
      obtain ⟨k0, kl, kt⟩ := tb_some hw c
      have k0P := (hSP k0 kl kt).1
      have pos := cb_pos kt P k0P
      obtain ⟨σ1, ρ1, a1, a2, a3, a4, a5, a6, a7, a8⟩ := points_loop (S := S) 1000 1000 0 σ ρ h hS (by omega) (by omega) (by omega) (fun q hq => by omega)
      obtain ⟨t, ht⟩ : ∃ t : Nat → Nat, ∀ q : Nat, t q = (σ1.2 18 q).toNat := ⟨fun q => (σ1.2 18 q).toNat, fun _ => rfl⟩
      have hall : ∀ q : Nat, q < P ∧ tb S q = true → σ1.2 18 q = t q ∧ ρ1.2 13 q = t q ∧ t q < P ∧ tb S (t q) = true := by
        intro q hq
        obtain ⟨u, u1, u2, u3, u4⟩ := a8 q hq.1 hq.2
        have : t q = u := by rw [ht, u3]; exact Int.toNat_natCast u
        rw [this]
        exact ⟨u3, u4, u1, u2⟩
      have hT : Tg P S t := fun q hq => (hall q hq).2.2
      have s1_7 : ρ1.2 7 = ρ.2 7 := a7 7 (by decide)
      have s1_9 : ∀ q : Nat, q < P → σ1.2 9 q = ρ1.2 7 q := fun q hq => (a3.2.1.1 q hq).1
      obtain ⟨s', r', S', u2, u3, c1, c2, c3, c4, c5, c6, c7, c8, c9, c10, c11⟩ := all_loop a3.1.1 a3.1.2.2.2.1.1 hT (by rw [a4]; exact hS) (fun q hq => (hall q hq).1) (fun q hq => (hall q hq).2.1) s1_9 1000 1000 0 σ1 ρ1 0 S v2 v3 ⟨fun _ _ _ => rfl, fun _ _ => rfl⟩ ⟨rfl, fun _ _ => rfl⟩ (by omega) (by omega) (by omega) hw (fun k hk => by
        rw [tb_0]
        constructor
        · intro z; cases z
        · rintro ⟨q, m, j, z, _⟩; omega) (fun k hk => ⟨fun z => ⟨z, fun y => by omega⟩, fun z => z.1⟩) (by rw [a4]; exact h10) (by rw [a4]; exact h11) hv3 (fun q m hq => by omega) (fun q hq => ⟨fun ⟨q', m, j, z, _⟩ => by omega, fun _ => rfl⟩) (fun q hq => ⟨fun z => by omega, fun _ => rfl⟩)
      obtain ⟨σ2, hσ2⟩ : ∃ σ2 : St, σ2 = sF (sF s' 13 S') 12 ((sF s' 13 S').1 12 + 1) := ⟨_, rfl⟩
      have x12 : (sF s' 13 S').1 12 = v4 := by
        have : s'.1 12 = σ1.1 12 := c3.1 12 (by decide) (by decide)
        simp (disch := omega) only [w32_eq, gI_eq, gB_eq, g0_eq, ix_nat, ix_eq, bd_some, bv_some, Int.toNat_natCast, Int.toNat_zero, sF_1, sF_2, sA_1, sA_2, sR_1, sR_2, ↓reduceIte, if_pos, if_neg]
        rw [this, a4]; exact h12
      have f1 : ∀ k : Nat, k ≠ 10 → k ≠ 11 → k ≠ 12 → k ≠ 13 → σ2.1 k = σ1.1 k := by
        intro k z1 z2 z3 z4
        rw [hσ2, ← c3.1 k z1 z2]
        simp (disch := omega) only [w32_eq, gI_eq, gB_eq, g0_eq, ix_nat, ix_eq, bd_some, bv_some, Int.toNat_natCast, Int.toNat_zero, sF_1, sF_2, sA_1, sA_2, sR_1, sR_2, ↓reduceIte, if_pos, if_neg]
      have f2 : ∀ k : Nat, σ2.2 k = s'.2 k := by intro k; rw [hσ2]; rfl
      have d2 : Dl σ2 r' R P N T B := by
        refine Dl_keep a3 (σ' := σ2) (ρ' := r') ⟨fun k z1 z2 => f1 k (by omega) (by omega) (by omega) (by omega), fun k z1 z2 z3 z4 => ?_⟩ ⟨fun k z => by rw [c4.1], fun k z1 z2 => c4.2 k (by omega)⟩ ?_ ?_
        · rw [f2]; exact c3.2 k (by omega)
        · rw [f2]; exact c3.2 0 (by decide)
        · refine IL_congr (IL_keep a3.2.1 ?_ ?_ (f1 2 (by decide) (by decide) (by decide) (by decide))) (fun q hq => by rw [c4.2 7 (by decide)])
          · rw [f2]; exact c3.2 9 (by decide)
          · rw [f2]; exact c3.2 4 (by decide)
      have hSP' : ∀ k : Nat, k < 32 → tb S' k = true → k < P ∧ tb tr k = true := fun k hk z => hSP k hk (c10 k hk z)
      have hcb : cb S' P < cb S P := by
        obtain ⟨q, m, q1, q2⟩ := ring_ex (S := fun q => q < P ∧ tb S q = true) hT (m := P) (fun q hq => hq.1) (p := k0) ⟨k0P, kt⟩
        refine cb_less P (fun j hj z => ((c9 j hj).mp z).1) ⟨q, q1.1, ?_, q1.2⟩
        cases cc : tb S' q with
        | false => rfl
        | true => exact absurd ⟨m, q2⟩ ((c9 q q1.1).mp cc).2
      have r7 : r'.2 7 = ρ.2 7 := (c4.2 7 (by decide)).trans s1_7
      have hG' : Gts P tr S' (σ2.2 19) (r'.2 14) (r'.2 7) (fun q => if tb S q = true then t q else w q) := by
        rw [f2, r7]
        refine Gts_next hG hT (fun k hk z => (hSP k (by omega) z).2) c9 (fun q hq => ?_)
        have z := c11 q hq
        rw [s1_7, a5 19 (by decide), a7 14 (by decide)] at z
        exact z
      obtain ⟨σ', ρ', x2, x3, x4, w', q1, q2, q3, q4, q5, q6, q7, q8⟩ := ih n σ2 r' S' u2 u3 (v4 + 1) (fun q => if tb S q = true then t q else w q) d2 (by rw [hσ2]; simp (disch := omega) only [w32_eq, gI_eq, gB_eq, g0_eq, ix_nat, ix_eq, bd_some, bv_some, Int.toNat_natCast, Int.toNat_zero, sF_1, sF_2, sA_1, sA_2, sR_1, sR_2, ↓reduceIte, if_pos, if_neg]) c5 hSP' (by rw [hσ2]; simp (disch := omega) only [w32_eq, gI_eq, gB_eq, g0_eq, ix_nat, ix_eq, bd_some, bv_some, Int.toNat_natCast, Int.toNat_zero, sF_1, sF_2, sA_1, sA_2, sR_1, sR_2, ↓reduceIte, if_pos, if_neg]; exact c6) (by rw [hσ2]; simp (disch := omega) only [w32_eq, gI_eq, gB_eq, g0_eq, ix_nat, ix_eq, bd_some, bv_some, Int.toNat_natCast, Int.toNat_zero, sF_1, sF_2, sA_1, sA_2, sR_1, sR_2, ↓reduceIte, if_pos, if_neg]; exact c7) (by rw [hσ2, x12]; simp (disch := omega) only [w32_eq, gI_eq, gB_eq, g0_eq, ix_nat, ix_eq, bd_some, bv_some, Int.toNat_natCast, Int.toNat_zero, sF_1, sF_2, sA_1, sA_2, sR_1, sR_2, ↓reduceIte, if_pos, if_neg]) c8 (by omega) (by omega) (by omega) (by omega) hG'
      refine ⟨σ', ρ', x2, x3, x4, w', ?_, ?_, q3, q4, q5, q6, q7, q8.trans r7⟩
      · have hp := show fX8_pointAll σ = some σ1 from a1
        have hc := show fX8_closeAllRings σ1 = some (sF s' 13 S') from c1
        rw [h12, hp, bv_some, hc, bv_some, ← hσ2]
        simp (disch := omega) only [w32_eq, gI_eq, gB_eq, g0_eq, ix_nat, ix_eq, bd_some, bv_some, Int.toNat_natCast, Int.toNat_zero, sF_1, sF_2, sA_1, sA_2, sR_1, sR_2, ↓reduceIte, if_pos, if_neg]
        exact q1
      · rw [show fX11_trade_L81 (fX11_trade_L71 n) 1000 S v2 v3 (v4 + 1) 0 ρ = _ from a2 (fX11_trade_L71 n) v2 v3 (v4 + 1)]
        rw [show fX11_trade_L130 (fX11_trade_L71 n) 1000 S v2 v3 (v4 + 1) S 0 ρ1 = _ from c2 (fX11_trade_L71 n) (v4 + 1)]
        exact q2
/-- who TRADES: class and reference alike -/
theorem traders_loop {σ ρ : St} (h : Dl σ ρ R P N T B) : ∀ (f n i : Nat) (v : Int) (g : Nat → Int), i ≤ P → P - i < f → P - i < n → w32 v = v → (∀ k : Nat, k < 32 → tb v k = true → k < i ∧ 0 ≤ ρ.2 7 k) → (∀ q : Nat, q < i → g q = ρ.2 7 q) →
    ∃ (v' : Int) (g' : Nat → Int), fX8_traders_L4 f v (i : Int) σ = some (v', σ) ∧ fX11_trade_L4 n v (i : Int) (sR ρ 14 g) = fX11_trade_L71 1000 v' 0 0 0 (sR ρ 14 g') ∧ w32 v' = v' ∧ (∀ k : Nat, k < 32 → tb v' k = true → k < P ∧ 0 ≤ ρ.2 7 k) ∧ (∀ q : Nat, q < P → g' q = ρ.2 7 q) := by
  obtain ⟨hC, hL, hH⟩ := id h
  obtain ⟨hB, hR, hS, hP, hW, hK, hT, hN, hQ, hX⟩ := id hC
  obtain ⟨b1, b2, b3, b4, b5⟩ := id hB
  have p1 := hP.1
  intro f
  induction f with
  | zero => intro n i v g _ h; omega
  | succ f ih =>
    intro n i v g hi hf hn hw hv hg
    obtain ⟨n, rfl⟩ : ∃ n' : Nat, n = n' + 1 := ⟨n - 1, by omega⟩
    have e0 : fX8_traders_L4 (f + 1) v (i : Int) σ = fX8_traders_B4 (fX8_traders_L4 f) v (i : Int) σ := rfl
    have e1 : fX11_trade_L4 (n + 1) v (i : Int) (sR ρ 14 g) = fX11_trade_B4 (fX11_trade_L4 n) v (i : Int) (sR ρ 14 g) := rfl
    rw [e0, e1]
    unfold fX8_traders_B4 fX11_trade_B4
    by_cases e : i = P
    · subst e
      exact ⟨v, g, by simp (disch := omega) only [w32_eq, gI_eq, gB_eq, g0_eq, ix_nat, ix_eq, bd_some, bv_some, Int.toNat_natCast, Int.toNat_zero, sF_1, sF_2, sA_1, sA_2, sR_1, sR_2, ↓reduceIte, if_pos, if_neg, b3], by simp (disch := omega) only [w32_eq, gI_eq, gB_eq, g0_eq, ix_nat, ix_eq, bd_some, bv_some, Int.toNat_natCast, Int.toNat_zero, sF_1, sF_2, sA_1, sA_2, sR_1, sR_2, ↓reduceIte, if_pos, if_neg, p1], hw, hv, hg⟩
    · have hiP : i < P := by omega
      obtain ⟨l1, l2, l3⟩ := hL.1 i hiP
      have gstep : ∀ q : Nat, q < i + 1 → (fun q => if q = i then ρ.2 7 i else g q) q = ρ.2 7 q := by
        intro q hq
        by_cases eq : q = i
        · subst eq; simp only [if_pos]
        · simp only [if_neg eq]; exact hg q (by omega)
      have esA : sA (sR ρ 14 g) 14 (ix (i : Int)) ((sR ρ 14 g).2 7 (ix (i : Int))) = sR ρ 14 (fun q => if q = i then ρ.2 7 i else g q) := by
        rw [ix_nat (by omega), sA_sR]
        rfl
      have v7 : (sR ρ 14 (fun q => if q = i then ρ.2 7 i else g q)).2 7 (ix (i : Int)) = ρ.2 7 i := by
        rw [ix_nat (by omega)]; rfl
      rw [esA, v7, choiceOf_t hB hiP, bd_some, lodgingOf_t hB hiP, bd_some, l1, bOr_0, hw]
      have more : ∀ v' : Int, (∀ k : Nat, k < 32 → tb v k = true → k < i ∧ 0 ≤ ρ.2 7 k) → (∀ k : Nat, k < 32 → tb v k = true → k < i + 1 ∧ 0 ≤ ρ.2 7 k) := fun _ z k hk hk2 => by
        have := z k hk hk2
        exact ⟨by omega, this.2⟩
      by_cases c : ρ.2 7 i = -1
      · obtain ⟨v', g', q1, q2, q3⟩ := ih n (i + 1) v (fun q => if q = i then ρ.2 7 i else g q) (by omega) (by omega) (by omega) hw (more 0 hv) gstep
        refine ⟨v', g', ?_, ?_, q3⟩
        · rw [c, inBits_neg σ _ (by omega), bd_some]
          simp (disch := omega) only [w32_eq, gI_eq, gB_eq, g0_eq, ix_nat, ix_eq, bd_some, bv_some, Int.toNat_natCast, Int.toNat_zero, sF_1, sF_2, sA_1, sA_2, sR_1, sR_2, ↓reduceIte, if_pos, if_neg, b3]
          exact q1
        · simp (disch := omega) only [w32_eq, gI_eq, gB_eq, g0_eq, ix_nat, ix_eq, bd_some, bv_some, Int.toNat_natCast, Int.toNat_zero, sF_1, sF_2, sA_1, sA_2, sR_1, sR_2, ↓reduceIte, if_pos, if_neg, p1]
          exact q2
      · obtain ⟨z, hz⟩ : ∃ z : Nat, ρ.2 7 i = z := ⟨(ρ.2 7 i).toNat, by omega⟩
        have hzR : z < R := by omega
        have hC14 : Core σ (sR ρ 14 (fun q => if q = i then ρ.2 7 i else g q)) R P N T B := (core_keep Kc.rf ⟨fun _ _ => rfl, fun k z1 z2 => by funext j; simp (disch := omega) only [w32_eq, gI_eq, gB_eq, g0_eq, ix_nat, ix_eq, bd_some, bv_some, Int.toNat_natCast, Int.toNat_zero, sF_1, sF_2, sA_1, sA_2, sR_1, sR_2, ↓reduceIte, if_pos, if_neg]⟩ hC).1
        obtain ⟨m1, m2⟩ := core_may hC14 (p := i) (r := z) hiP hzR
        have hh := hH i hiP z (by omega)
        rw [hz, inBits_eq σ _ (by omega), bd_some]
        rw [hz] at m2 gstep
        cases c3 : mB σ i z with
        | true =>
          rw [c3, show b01 true = 1 from rfl] at m2
          obtain ⟨v', g', q1, q2, q3⟩ := ih n (i + 1) (bOr v (bShl 1 (i : Int))) (fun q => if q = i then (z : Int) else g q) (by omega) (by omega) (by omega) (w32_bOr _ _) (fun k hk hk2 => by
            rw [tb_or, tb_shl1 (by omega), Bool.or_eq_true, decide_eq_true_eq] at hk2
            rcases hk2 with y | y
            · have := hv k hk y
              exact ⟨by omega, this.2⟩
            · subst y
              exact ⟨by omega, by omega⟩) gstep
          refine ⟨v', g', ?_, ?_, q3⟩
          · rw [if_pos (hh.mpr ⟨hzR, c3⟩)]
            simp (disch := omega) only [w32_eq, gI_eq, gB_eq, g0_eq, ix_nat, ix_eq, bd_some, bv_some, Int.toNat_natCast, Int.toNat_zero, sF_1, sF_2, sA_1, sA_2, sR_1, sR_2, ↓reduceIte, if_pos, if_neg, b3]
            exact q1
          · simp (disch := omega) only [w32_eq, gI_eq, gB_eq, g0_eq, ix_nat, ix_eq, bd_some, bv_some, Int.toNat_natCast, Int.toNat_zero, sF_1, sF_2, sA_1, sA_2, sR_1, sR_2, ↓reduceIte, if_pos, if_neg, p1, m2]
            exact q2
        | false =>
          rw [c3, show b01 false = 0 from rfl] at m2
          obtain ⟨v', g', q1, q2, q3⟩ := ih n (i + 1) v (fun q => if q = i then (z : Int) else g q) (by omega) (by omega) (by omega) hw (more 0 hv) gstep
          refine ⟨v', g', ?_, ?_, q3⟩
          · rw [if_neg (show ¬ tb (σ.2 0 i) z = true from fun y => by rw [(hh.mp y).2] at c3; cases c3)]
            simp (disch := omega) only [w32_eq, gI_eq, gB_eq, g0_eq, ix_nat, ix_eq, bd_some, bv_some, Int.toNat_natCast, Int.toNat_zero, sF_1, sF_2, sA_1, sA_2, sR_1, sR_2, ↓reduceIte, if_pos, if_neg, b3]
            exact q1
          · simp (disch := omega) only [w32_eq, gI_eq, gB_eq, g0_eq, ix_nat, ix_eq, bd_some, bv_some, Int.toNat_natCast, Int.toNat_zero, sF_1, sF_2, sA_1, sA_2, sR_1, sR_2, ↓reduceIte, if_pos, if_neg, p1, m2]
            exact q2
end ETRADE
