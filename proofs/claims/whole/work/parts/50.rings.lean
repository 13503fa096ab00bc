section ERING
variable {R P : Nat} {t : Nat → Nat} {S : Int}
/-- all of a mask point at ones of it -/
def Tg (P : Nat) (S : Int) (t : Nat → Nat) : Prop := ∀ q : Nat, q < P ∧ tb S q = true → t q < P ∧ tb S (t q) = true
theorem len_loop {σ : St} (hB : Bs σ R P) (hT : Tg P S t) (h18 : ∀ q : Nat, q < P ∧ tb S q = true → σ.2 18 q = t q) {p : Nat} (hp : p < P ∧ tb S p = true) : ∀ (f m : Nat), m ≤ 16 → 16 - m < f → (∀ k : Nat, 1 ≤ k → k ≤ m → itr t k p ≠ p) →
    (∃ n : Nat, per t p n ∧ n ≤ 16 ∧ fX8_ringLength_L4 f (p : Int) ((itr t m p : Nat) : Int) ((m : Int) + 1) σ = some ((n : Int), σ)) ∨ ((∀ n : Nat, ¬ per t p n) ∧ fX8_ringLength_L4 f (p : Int) ((itr t m p : Nat) : Int) ((m : Int) + 1) σ = some (0, σ)) := by
  have b4 := hB.2.2.2.1
  intro f
  induction f with
  | zero => intro m _ h; omega
  | succ f ih =>
    intro m hm hf hno
    have e0 : fX8_ringLength_L4 (f + 1) (p : Int) ((itr t m p : Nat) : Int) ((m : Int) + 1) σ = fX8_ringLength_B4 (fX8_ringLength_L4 f) (p : Int) ((itr t m p : Nat) : Int) ((m : Int) + 1) σ := rfl
    rw [e0]
    unfold fX8_ringLength_B4
    have hin := itr_in (S := fun q => q < P ∧ tb S q = true) hT hp m
    have hin1 := itr_in (S := fun q => q < P ∧ tb S q = true) hT hp (m + 1)
    by_cases e : m = 16
    · right
      refine ⟨fun n hn => ?_, by simp (disch := omega) only [w32_eq, gI_eq, gB_eq, g0_eq, ix_nat, ix_eq, bd_some, bv_some, Int.toNat_natCast, Int.toNat_zero, sF_1, sF_2, sA_1, sA_2, sR_1, sR_2, ↓reduceIte, if_pos, if_neg]⟩
      have := per_le (S := fun q => q < P ∧ tb S q = true) hT (m := P) (fun q hq => hq.1) hp hn
      exact hno n hn.1 (by omega) hn.2.1
    · have ht : fX8_targetOf σ ((itr t m p : Nat) : Int) = some (((itr t (m + 1) p : Nat) : Int), σ) := by
        rw [targetOf_t hB hin.1, h18 _ hin]; rfl
      rw [ht, bd_some]
      have q1 := hin1.1
      by_cases c : itr t (m + 1) p = p
      · left
        refine ⟨m + 1, ⟨by omega, c, fun k h1 h2 => hno k h1 (by omega)⟩, by omega, ?_⟩
        rw [c]
        simp (disch := omega) only [w32_eq, gI_eq, gB_eq, g0_eq, ix_nat, ix_eq, bd_some, bv_some, Int.toNat_natCast, Int.toNat_zero, sF_1, sF_2, sA_1, sA_2, sR_1, sR_2, ↓reduceIte, if_pos, if_neg]
        rfl
      · rcases ih (m + 1) (by omega) (by omega) (fun k h1 h2 => by
          by_cases ek : k = m + 1
          · subst ek; exact c
          · exact hno k h1 (by omega)) with ⟨n, a1, a2, a3⟩ | ⟨a1, a2⟩
        · left
          refine ⟨n, a1, a2, ?_⟩
          rw [← a3]
          generalize itr t (m + 1) p = w at *
          simp (disch := omega) only [w32_eq, gI_eq, gB_eq, g0_eq, ix_nat, ix_eq, bd_some, bv_some, Int.toNat_natCast, Int.toNat_zero, sF_1, sF_2, sA_1, sA_2, sR_1, sR_2, ↓reduceIte, if_pos, if_neg]
          rfl
        · right
          refine ⟨a1, ?_⟩
          rw [← a2]
          generalize itr t (m + 1) p = w at *
          simp (disch := omega) only [w32_eq, gI_eq, gB_eq, g0_eq, ix_nat, ix_eq, bd_some, bv_some, Int.toNat_natCast, Int.toNat_zero, sF_1, sF_2, sA_1, sA_2, sR_1, sR_2, ↓reduceIte, if_pos, if_neg]
          rfl
theorem ringLength_eq {σ : St} (hB : Bs σ R P) (hT : Tg P S t) (h18 : ∀ q : Nat, q < P ∧ tb S q = true → σ.2 18 q = t q) {p : Nat} (hp : p < P ∧ tb S p = true) :
    (∃ n : Nat, per t p n ∧ n ≤ 16 ∧ fX8_ringLength σ (p : Int) = some ((n : Int), σ)) ∨ ((∀ n : Nat, ¬ per t p n) ∧ fX8_ringLength σ (p : Int) = some (0, σ)) := by
  unfold fX8_ringLength fX8_ringLength_L0
  exact len_loop hB hT h18 hp 1000 0 (by omega) (by omega) (fun k h1 h2 => by omega)
/-- the reference's walk -/
theorem walk_loop {ρ : St} (b4 : P ≤ 16) (hT : Tg P S t) (h13 : ∀ q : Nat, q < P ∧ tb S q = true → ρ.2 13 q = t q) {p : Nat} (hp : p < P ∧ tb S p = true) (k71 : Int → Int → Int → Int → St → Option (Int × St)) (k130 : Int → Int → Int → Int → Int → Int → St → Option (Int × St)) (v1 v2 v3 v4 v5 : Int) : ∀ (f j : Nat), 1 ≤ j → j ≤ 17 → 17 - j < f → (∀ k : Nat, 1 ≤ k → k < j → itr t k p ≠ p) →
    (∃ n : Nat, per t p n ∧ n ≤ 16 ∧ fX11_trade_L161 k71 k130 f v1 v2 v3 v4 v5 (p : Int) (j : Int) ((itr t j p : Nat) : Int) ρ = fX11_trade_L190 k71 k130 v1 v2 v3 v4 v5 (p : Int) (n : Int) (p : Int) ρ) ∨ ((∀ n : Nat, ¬ per t p n) ∧ fX11_trade_L161 k71 k130 f v1 v2 v3 v4 v5 (p : Int) (j : Int) ((itr t j p : Nat) : Int) ρ = k130 v1 v2 v3 v4 v5 ((p : Int) + 1) ρ) := by
  intro f
  induction f with
  | zero => intro j _ _ h; omega
  | succ f ih =>
    intro j h1 h17 hf hno
    have e0 : fX11_trade_L161 k71 k130 (f + 1) v1 v2 v3 v4 v5 (p : Int) (j : Int) ((itr t j p : Nat) : Int) ρ = fX11_trade_B161 k71 k130 (fX11_trade_L161 k71 k130 f) v1 v2 v3 v4 v5 (p : Int) (j : Int) ((itr t j p : Nat) : Int) ρ := rfl
    rw [e0]
    unfold fX11_trade_B161
    have hin := itr_in (S := fun q => q < P ∧ tb S q = true) hT hp j
    have hlt := hin.1
    by_cases c : itr t j p = p
    · left
      have hper : per t p j := ⟨h1, c, hno⟩
      have := per_le (S := fun q => q < P ∧ tb S q = true) hT (m := P) (fun q hq => hq.1) hp hper
      refine ⟨j, hper, by omega, ?_⟩
      rw [c]
      simp (disch := omega) only [w32_eq, gI_eq, gB_eq, g0_eq, ix_nat, ix_eq, bd_some, bv_some, Int.toNat_natCast, Int.toNat_zero, sF_1, sF_2, sA_1, sA_2, sR_1, sR_2, ↓reduceIte, if_pos, if_neg]
    · have hpl := hp.1
      by_cases e : j = 17
      · right
        refine ⟨fun n hn => ?_, ?_⟩
        · have := per_le (S := fun q => q < P ∧ tb S q = true) hT (m := P) (fun q hq => hq.1) hp hn
          exact hno n hn.1 (by omega) hn.2.1
        · unfold fX11_trade_L190
          generalize itr t j p = w at *
          simp (disch := omega) only [w32_eq, gI_eq, gB_eq, g0_eq, ix_nat, ix_eq, bd_some, bv_some, Int.toNat_natCast, Int.toNat_zero, sF_1, sF_2, sA_1, sA_2, sR_1, sR_2, ↓reduceIte, if_pos, if_neg]
      · have st : fX11_trade_B161 k71 k130 (fX11_trade_L161 k71 k130 f) v1 v2 v3 v4 v5 (p : Int) (j : Int) ((itr t j p : Nat) : Int) ρ = fX11_trade_L161 k71 k130 f v1 v2 v3 v4 v5 (p : Int) ((j + 1 : Nat) : Int) ((itr t (j + 1) p : Nat) : Int) ρ := by
          have w13 := h13 _ hin
          rw [itr_succ, ← w13]
          unfold fX11_trade_B161
          generalize itr t j p = w at *
          simp (disch := omega) only [w32_eq, gI_eq, gB_eq, g0_eq, ix_nat, ix_eq, bd_some, bv_some, Int.toNat_natCast, Int.toNat_zero, sF_1, sF_2, sA_1, sA_2, sR_1, sR_2, ↓reduceIte, if_pos, if_neg]
          rfl
        have nx := ih (j + 1) (by omega) (by omega) (by omega) (fun k h1 h2 => by
          by_cases ek : k = j
          · subst ek; exact c
          · exact hno k h1 (by omega))
        unfold fX11_trade_B161 at st
        rw [st]
        exact nx
/-- is p the least of its ring? -/
theorem first_loop {ρ : St} (b4 : P ≤ 16) (hT : Tg P S t) (h13 : ∀ q : Nat, q < P ∧ tb S q = true → ρ.2 13 q = t q) {p n : Nat} (hp : p < P ∧ tb S p = true) (hn : per t p n) (hn16 : n ≤ 16) (k71 : Int → Int → Int → Int → St → Option (Int × St)) (k130 : Int → Int → Int → Int → Int → Int → St → Option (Int × St)) (v1 v2 v3 v4 v5 : Int) : ∀ (f j : Nat) (b : Int), 1 ≤ j → j ≤ n → n - j < f → (b = 0 ∨ b = 1) → (b = 1 ↔ ∀ k : Nat, 1 ≤ k → k < j → p < itr t k p) →
    ∃ u : Int, ((2 ≤ n ∧ ∀ k : Nat, 1 ≤ k → k < n → p < itr t k p) → u = 1) ∧ (¬ (2 ≤ n ∧ ∀ k : Nat, 1 ≤ k → k < n → p < itr t k p) → u = 0) ∧ fX11_trade_L239 k71 k130 f v1 v2 v3 v4 v5 (p : Int) (n : Int) b ((itr t j p : Nat) : Int) ρ = fX11_trade_L294 k71 k130 v1 v3 v4 v5 (p : Int) (n : Int) v2 u ρ := by
  have hpl := hp.1
  intro f
  induction f with
  | zero => intro j b _ _ h; omega
  | succ f ih =>
    intro j b h1 hjn hf hb hb1
    have e0 : fX11_trade_L239 k71 k130 (f + 1) v1 v2 v3 v4 v5 (p : Int) (n : Int) b ((itr t j p : Nat) : Int) ρ = fX11_trade_B239 k71 k130 (fX11_trade_L239 k71 k130 f) v1 v2 v3 v4 v5 (p : Int) (n : Int) b ((itr t j p : Nat) : Int) ρ := rfl
    rw [e0]
    have hin := itr_in (S := fun q => q < P ∧ tb S q = true) hT hp j
    have hlt := hin.1
    by_cases e : j = n
    · subst e
      rw [hn.2.1]
      unfold fX11_trade_B239
      rcases hb with hb | hb
      · subst hb
        refine ⟨0, fun z => absurd (hb1.mpr z.2) (by decide), fun _ => rfl, by simp (disch := omega) only [w32_eq, gI_eq, gB_eq, g0_eq, ix_nat, ix_eq, bd_some, bv_some, Int.toNat_natCast, Int.toNat_zero, sF_1, sF_2, sA_1, sA_2, sR_1, sR_2, ↓reduceIte, if_pos, if_neg]⟩
      · subst hb
        by_cases c2 : 2 ≤ j
        · exact ⟨1, fun _ => rfl, fun z => absurd ⟨c2, hb1.mp rfl⟩ z, by simp (disch := omega) only [w32_eq, gI_eq, gB_eq, g0_eq, ix_nat, ix_eq, bd_some, bv_some, Int.toNat_natCast, Int.toNat_zero, sF_1, sF_2, sA_1, sA_2, sR_1, sR_2, ↓reduceIte, if_pos, if_neg]⟩
        · exact ⟨0, fun z => absurd z.1 c2, fun _ => rfl, by simp (disch := omega) only [w32_eq, gI_eq, gB_eq, g0_eq, ix_nat, ix_eq, bd_some, bv_some, Int.toNat_natCast, Int.toNat_zero, sF_1, sF_2, sA_1, sA_2, sR_1, sR_2, ↓reduceIte, if_pos, if_neg]⟩
    · have hne : itr t j p ≠ p := hn.2.2 j h1 (by omega)
      have w13 := h13 _ hin
      have key : ∀ b' : Int, (b' = 0 ∨ b' = 1) → (b' = 1 ↔ b = 1 ∧ p < itr t j p) → fX11_trade_B239 k71 k130 (fX11_trade_L239 k71 k130 f) v1 v2 v3 v4 v5 (p : Int) (n : Int) b ((itr t j p : Nat) : Int) ρ = fX11_trade_L239 k71 k130 f v1 v2 v3 v4 v5 (p : Int) (n : Int) b' ((itr t (j + 1) p : Nat) : Int) ρ := by
        intro b' hb' hbb
        rw [itr_succ, ← w13]
        unfold fX11_trade_B239
        generalize itr t j p = w at *
        rcases hb with hb | hb
        · have : b' = 0 := by
            rcases hb' with z | z
            · exact z
            · have := (hbb.mp z).1; omega
          subst this
          subst hb
          simp (disch := omega) only [w32_eq, gI_eq, gB_eq, g0_eq, ix_nat, ix_eq, bd_some, bv_some, Int.toNat_natCast, Int.toNat_zero, sF_1, sF_2, sA_1, sA_2, sR_1, sR_2, ↓reduceIte, if_pos, if_neg]
        · subst hb
          by_cases c2 : p < w
          · have : b' = 1 := hbb.mpr ⟨rfl, c2⟩
            subst this
            simp (disch := omega) only [w32_eq, gI_eq, gB_eq, g0_eq, ix_nat, ix_eq, bd_some, bv_some, Int.toNat_natCast, Int.toNat_zero, sF_1, sF_2, sA_1, sA_2, sR_1, sR_2, ↓reduceIte, if_pos, if_neg]
          · have : b' = 0 := by
              rcases hb' with z | z
              · exact z
              · exact absurd (hbb.mp z).2 c2
            subst this
            simp (disch := omega) only [w32_eq, gI_eq, gB_eq, g0_eq, ix_nat, ix_eq, bd_some, bv_some, Int.toNat_natCast, Int.toNat_zero, sF_1, sF_2, sA_1, sA_2, sR_1, sR_2, ↓reduceIte, if_pos, if_neg]
      obtain ⟨b', hb', hbb⟩ : ∃ b' : Int, (b' = 0 ∨ b' = 1) ∧ (b' = 1 ↔ b = 1 ∧ p < itr t j p) := by
        by_cases c : b = 1 ∧ p < itr t j p
        · exact ⟨1, Or.inr rfl, fun _ => c, fun _ => rfl⟩
        · exact ⟨0, Or.inl rfl, fun z => by omega, fun z => absurd z c⟩
      rw [key b' hb' hbb]
      refine ih (j + 1) b' (by omega) (by omega) (by omega) hb' ?_
      rw [hbb, hb1]
      constructor
      · intro z k k1 k2
        by_cases ek : k = j
        · subst ek; exact z.2
        · exact z.1 k k1 (by omega)
      · intro z
        exact ⟨fun k k1 k2 => z k k1 (by omega), z j h1 (by omega)⟩
/-- all of p's ring leave -/
theorem close_loop {σ : St} (hB : Bs σ R P) (hT : Tg P S t) (h18 : ∀ q : Nat, q < P ∧ tb S q = true → σ.2 18 q = t q) {p n : Nat} (hp : p < P ∧ tb S p = true) (hn16 : n ≤ 16) : ∀ (f i : Nat) (v : Int) (g : Nat → Int), i ≤ n → n - i < f → (∀ k : Nat, k < 32 → (tb v k = true ↔ ∃ j : Nat, j < i ∧ itr t j p = k)) → (∀ q : Nat, ((∃ j : Nat, j < i ∧ itr t j p = q) → g q = σ.2 9 (t q)) ∧ ((¬ ∃ j : Nat, j < i ∧ itr t j p = q) → g q = σ.2 19 q)) →
    ∃ (v' : Int) (g' : Nat → Int), (∀ k : Nat, k < 32 → (tb v' k = true ↔ ∃ j : Nat, j < n ∧ itr t j p = k)) ∧ (∀ q : Nat, ((∃ j : Nat, j < n ∧ itr t j p = q) → g' q = σ.2 9 (t q)) ∧ ((¬ ∃ j : Nat, j < n ∧ itr t j p = q) → g' q = σ.2 19 q)) ∧ fX8_closeRing_L8 f (n : Int) v ((itr t i p : Nat) : Int) (i : Int) (sR σ 19 g) = fX8_closeRing_L67 (n : Int) v' (sR σ 19 g') := by
  have b4 := hB.2.2.2.1
  intro f
  induction f with
  | zero => intro i v g _ h; omega
  | succ f ih =>
    intro i v g hi hf hv hg
    have e0 : fX8_closeRing_L8 (f + 1) (n : Int) v ((itr t i p : Nat) : Int) (i : Int) (sR σ 19 g) = fX8_closeRing_B8 (fX8_closeRing_L8 f) (n : Int) v ((itr t i p : Nat) : Int) (i : Int) (sR σ 19 g) := rfl
    rw [e0]
    unfold fX8_closeRing_B8
    by_cases e : i = n
    · subst e
      exact ⟨v, g, hv, hg, by simp (disch := omega) only [w32_eq, gI_eq, gB_eq, g0_eq, ix_nat, ix_eq, bd_some, bv_some, Int.toNat_natCast, Int.toNat_zero, sF_1, sF_2, sA_1, sA_2, sR_1, sR_2, ↓reduceIte, if_pos, if_neg]⟩
    · have hin := itr_in (S := fun q => q < P ∧ tb S q = true) hT hp i
      have hin1 := itr_in (S := fun q => q < P ∧ tb S q = true) hT hp (i + 1)
      have w18 := h18 _ hin
      rw [← itr_succ (t := t)] at w18
      obtain ⟨v', g', a1, a2, a3⟩ := ih (i + 1) (bOr v (bShl 1 ((itr t i p : Nat) : Int))) (fun q => if q = itr t i p then σ.2 9 (itr t (i + 1) p) else g q) (by omega) (by omega) (fun k hk => by
        rw [tb_or, tb_shl1 (by have := hin.1; omega), Bool.or_eq_true, hv k hk, decide_eq_true_eq]
        constructor
        · rintro (⟨j, j1, j2⟩ | z)
          · exact ⟨j, by omega, j2⟩
          · exact ⟨i, by omega, z.symm⟩
        · rintro ⟨j, j1, j2⟩
          by_cases ej : j = i
          · subst ej; exact Or.inr j2.symm
          · exact Or.inl ⟨j, by omega, j2⟩) (fun q => by
        by_cases eq : q = itr t i p
        · refine ⟨fun _ => ?_, fun z => absurd ⟨i, by omega, eq.symm⟩ z⟩
          simp only [if_pos eq]
          rw [eq, itr_succ]
        · simp only [if_neg eq]
          refine ⟨?_, ?_⟩
          · rintro ⟨j, j1, j2⟩
            refine (hg q).1 ⟨j, ?_, j2⟩
            by_cases ej : j = i
            · subst ej; exact absurd j2.symm eq
            · omega
          · intro z
            refine (hg q).2 (fun y => z ?_)
            obtain ⟨j, j1, j2⟩ := y
            exact ⟨j, by omega, j2⟩)
      refine ⟨v', g', a1, a2, ?_⟩
      rw [← a3]
      have hB1 : ∀ g1 : Nat → Int, Bs (sR σ 19 g1) R P := fun g1 => hB
      have t1 : ∀ g1 : Nat → Int, fX8_targetOf (sR σ 19 g1) ((itr t i p : Nat) : Int) = some (((itr t (i + 1) p : Nat) : Int), sR σ 19 g1) := by
        intro g1
        rw [targetOf_t (hB1 g1) hin.1, show (sR σ 19 g1).2 18 (itr t i p) = σ.2 18 (itr t i p) from rfl, w18]
      have t2 : fX3_lodgingOf (sR σ 19 g) ((itr t (i + 1) p : Nat) : Int) = some (σ.2 9 (itr t (i + 1) p), sR σ 19 g) := lodgingOf_t (hB1 g) hin1.1
      have hl := hin.1
      rw [pHas_t (hB1 g) (by omega), bd_some, t1, bd_some, t2, bd_some, ix_nat (by omega), sA_sR, t1, bd_some]
      generalize itr t i p = w at *
      simp (disch := omega) only [w32_eq, gI_eq, gB_eq, g0_eq, ix_nat, ix_eq, bd_some, bv_some, Int.toNat_natCast, Int.toNat_zero, sF_1, sF_2, sA_1, sA_2, sR_1, sR_2, ↓reduceIte, if_pos, if_neg]
      rfl
theorem closeRing_eq {σ : St} (hB : Bs σ R P) (hT : Tg P S t) (h18 : ∀ q : Nat, q < P ∧ tb S q = true → σ.2 18 q = t q) {p n : Nat} (hp : p < P ∧ tb S p = true) (hn : 1 ≤ n) (hn16 : n ≤ 16) (hlg : 0 ≤ σ.1 11 ∧ σ.1 11 ≤ 16) :
    ∃ (v' : Int) (g' : Nat → Int), (∀ k : Nat, k < 32 → (tb v' k = true ↔ ∃ j : Nat, j < n ∧ itr t j p = k)) ∧ (∀ q : Nat, ((∃ j : Nat, j < n ∧ itr t j p = q) → g' q = σ.2 9 (t q)) ∧ ((¬ ∃ j : Nat, j < n ∧ itr t j p = q) → g' q = σ.2 19 q)) ∧ fX8_closeRing σ (p : Int) (n : Int) = some (v', if 2 ≤ n then sF (sF (sR σ 19 g') 10 (σ.1 10 + 1)) 11 (if σ.1 11 < n then (n : Int) else σ.1 11) else sR σ 19 g') := by
  obtain ⟨v', g', a1, a2, a3⟩ := close_loop hB hT h18 hp hn16 1000 0 0 (σ.2 19) (by omega) (by omega) (fun k hk => by
    rw [tb_0]
    constructor
    · intro z; cases z
    · rintro ⟨j, j1, _⟩; omega) (fun q => ⟨fun ⟨j, j1, _⟩ => by omega, fun _ => rfl⟩)
  rw [sR_self] at a3
  refine ⟨v', g', a1, a2, ?_⟩
  unfold fX8_closeRing fX8_closeRing_L0
  rw [show fX8_closeRing_L8 1000 (n : Int) 0 (p : Int) 0 σ = fX8_closeRing_L67 (n : Int) v' (sR σ 19 g') from a3]
  unfold fX8_closeRing_L67 iMax
  by_cases c : 2 ≤ n
  · rw [if_pos c]
    by_cases c2 : σ.1 11 < n
    · simp (disch := omega) only [w32_eq, gI_eq, gB_eq, g0_eq, ix_nat, ix_eq, bd_some, bv_some, Int.toNat_natCast, Int.toNat_zero, sF_1, sF_2, sA_1, sA_2, sR_1, sR_2, ↓reduceIte, if_pos, if_neg]
    · simp (disch := omega) only [w32_eq, gI_eq, gB_eq, g0_eq, ix_nat, ix_eq, bd_some, bv_some, Int.toNat_natCast, Int.toNat_zero, sF_1, sF_2, sA_1, sA_2, sR_1, sR_2, ↓reduceIte, if_pos, if_neg]
  · rw [if_neg c]
    simp (disch := omega) only [w32_eq, gI_eq, gB_eq, g0_eq, ix_nat, ix_eq, bd_some, bv_some, Int.toNat_natCast, Int.toNat_zero, sF_1, sF_2, sA_1, sA_2, sR_1, sR_2, ↓reduceIte, if_pos, if_neg]
theorem closeRing_0 {σ : St} (p : Nat) : fX8_closeRing σ (p : Int) 0 = some (0, σ) := by
  unfold fX8_closeRing fX8_closeRing_L0
  show fX8_closeRing_B8 (fX8_closeRing_L8 999) 0 0 (p : Int) 0 σ = _
  unfold fX8_closeRing_B8 fX8_closeRing_L67
  simp (disch := omega) only [w32_eq, gI_eq, gB_eq, g0_eq, ix_nat, ix_eq, bd_some, bv_some, Int.toNat_natCast, Int.toNat_zero, sF_1, sF_2, sA_1, sA_2, sR_1, sR_2, ↓reduceIte, if_pos, if_neg]
end ERING
