section EMOST
variable {R F M : Nat} {ch : Nat → Int} {G : Int}
theorem fill33_loop {σ : St} : ∀ (n i : Nat) (g : Nat → Int), i ≤ 24 → 24 - i < n → (∀ r : Nat, r < i → g r = -1) → ∃ g' : Nat → Int, (∀ r : Nat, r < 24 → g' r = -1) ∧ fJ7_fill_53178_a33_L5 n (-1) (i : Int) 24 (sR σ 22 g) = some (sR σ 22 g') := by
  intro n
  induction n with
  | zero => intro i g _ h; omega
  | succ n ih =>
    intro i g hi hn hg
    have e0 : fJ7_fill_53178_a33_L5 (n + 1) (-1) (i : Int) 24 (sR σ 22 g) = fJ7_fill_53178_a33_B5 (fJ7_fill_53178_a33_L5 n) (-1) (i : Int) 24 (sR σ 22 g) := rfl
    rw [e0]
    unfold fJ7_fill_53178_a33_B5
    by_cases e : i = 24
    · subst e
      exact ⟨g, hg, by simp (disch := omega) only [w32_eq, gI_eq, gB_eq, g0_eq, ix_nat, ix_eq, bd_some, bv_some, Int.toNat_natCast, Int.toNat_zero, sF_1, sF_2, sA_1, sA_2, sR_1, sR_2, ↓reduceIte, if_pos, if_neg]⟩
    · obtain ⟨g', q1, q2⟩ := ih (i + 1) (fun q => if q = i then -1 else g q) (by omega) (by omega) (fun q hq => by
        by_cases eq : q = i
        · simp only [if_pos eq]
        · simp only [if_neg eq]; exact hg q (by omega))
      refine ⟨g', q1, ?_⟩
      rw [← q2]
      simp (disch := omega) only [w32_eq, gI_eq, gB_eq, g0_eq, ix_nat, ix_eq, bd_some, bv_some, Int.toNat_natCast, Int.toNat_zero, sF_1, sF_2, sA_1, sA_2, sR_1, sR_2, ↓reduceIte, if_pos, if_neg]
      rw [sA_sR]
      rfl
theorem fill34_loop {σ : St} : ∀ (n i : Nat) (g : Nat → Int), i ≤ 16 → 16 - i < n → (∀ r : Nat, r < i → g r = -1) → ∃ g' : Nat → Int, (∀ r : Nat, r < 16 → g' r = -1) ∧ fJ7_fill_53178_a34_L5 n (-1) (i : Int) 16 (sR σ 23 g) = some (sR σ 23 g') := by
  intro n
  induction n with
  | zero => intro i g _ h; omega
  | succ n ih =>
    intro i g hi hn hg
    have e0 : fJ7_fill_53178_a34_L5 (n + 1) (-1) (i : Int) 16 (sR σ 23 g) = fJ7_fill_53178_a34_B5 (fJ7_fill_53178_a34_L5 n) (-1) (i : Int) 16 (sR σ 23 g) := rfl
    rw [e0]
    unfold fJ7_fill_53178_a34_B5
    by_cases e : i = 16
    · subst e
      exact ⟨g, hg, by simp (disch := omega) only [w32_eq, gI_eq, gB_eq, g0_eq, ix_nat, ix_eq, bd_some, bv_some, Int.toNat_natCast, Int.toNat_zero, sF_1, sF_2, sA_1, sA_2, sR_1, sR_2, ↓reduceIte, if_pos, if_neg]⟩
    · obtain ⟨g', q1, q2⟩ := ih (i + 1) (fun q => if q = i then -1 else g q) (by omega) (by omega) (fun q hq => by
        by_cases eq : q = i
        · simp only [if_pos eq]
        · simp only [if_neg eq]; exact hg q (by omega))
      refine ⟨g', q1, ?_⟩
      rw [← q2]
      simp (disch := omega) only [w32_eq, gI_eq, gB_eq, g0_eq, ix_nat, ix_eq, bd_some, bv_some, Int.toNat_natCast, Int.toNat_zero, sF_1, sF_2, sA_1, sA_2, sR_1, sR_2, ↓reduceIte, if_pos, if_neg]
      rw [sA_sR]
      rfl
theorem fillR_loop {ρ : St} (h0 : ρ.1 0 = R) (hR : R ≤ 24) {v : Int} : ∀ (n i : Nat) (g : Nat → Int), i ≤ R → R - i < n → (∀ r : Nat, r < i → g r = -1) → ∃ g' : Nat → Int, (∀ r : Nat, r < R → g' r = -1) ∧ fX11_most_L2 n v (i : Int) (sR ρ 17 g) = fX11_most_L27 1000 0 v (sR ρ 17 g') := by
  intro n
  induction n with
  | zero => intro i g _ h; omega
  | succ n ih =>
    intro i g hi hn hg
    have e0 : fX11_most_L2 (n + 1) v (i : Int) (sR ρ 17 g) = fX11_most_B2 (fX11_most_L2 n) v (i : Int) (sR ρ 17 g) := rfl
    rw [e0]
    unfold fX11_most_B2
    by_cases e : i = R
    · subst e
      exact ⟨g, hg, by simp (disch := omega) only [w32_eq, gI_eq, gB_eq, g0_eq, ix_nat, ix_eq, bd_some, bv_some, Int.toNat_natCast, Int.toNat_zero, sF_1, sF_2, sA_1, sA_2, sR_1, sR_2, ↓reduceIte, if_pos, if_neg, h0]⟩
    · obtain ⟨g', q1, q2⟩ := ih (i + 1) (fun q => if q = i then -1 else g q) (by omega) (by omega) (fun q hq => by
        by_cases eq : q = i
        · simp only [if_pos eq]
        · simp only [if_neg eq]; exact hg q (by omega))
      refine ⟨g', q1, ?_⟩
      rw [← q2]
      simp (disch := omega) only [w32_eq, gI_eq, gB_eq, g0_eq, ix_nat, ix_eq, bd_some, bv_some, Int.toNat_natCast, Int.toNat_zero, sF_1, sF_2, sA_1, sA_2, sR_1, sR_2, ↓reduceIte, if_pos, if_neg, h0]
      rw [sA_sR]
      rfl
theorem sz_le (M : Nat) (x : Nat → Int) : sz M x ≤ M := cnt_le _ M
theorem Mx_le {E : Nat → Nat → Prop} {c : Nat} (h : Mx R F M E c) : c ≤ M := by
  obtain ⟨⟨x, _, x2⟩, _⟩ := h
  rw [← x2]; exact sz_le M x
theorem sz_up {x y : Nat → Int} {m : Nat} (hm : m < M) (h : x m = -1) (hy : ∀ k : Nat, k < M → (y k = -1 ↔ x k = -1 ∧ k ≠ m)) : sz M y = sz M x + 1 := by
  have ym : y m ≠ -1 := fun z => ((hy m hm).mp z).2 rfl
  have := cnt_rem (A := fun k => decide (y k ≠ -1)) (b := m) (by rw [decide_eq_true_eq]; exact ym) M hm
  rw [show sz M y = _ from this.symm]
  unfold sz
  rw [cnt_congr M (fun k hk => ?_)]
  have w := hy k hk
  by_cases e : k = m
  · subst e; simp [h]
  · by_cases c : x k = -1
    · simp [w.mpr ⟨c, e⟩, c]
    · have : ¬ y k = -1 := fun z => c (w.mp z).1
      simp [this, c, e]
/-- mover by mover -/
theorem most_loop : ∀ (f n k : Nat) (U : Nat → Prop) (σ ρ : St), BT R F M ch G U σ ρ → F ≤ k → k ≤ M → M - k < f → M - k < n → (∀ i : Nat, k ≤ i → i < M → σ.2 23 i = -1) → (∀ i : Nat, F ≤ i → i < k → σ.2 23 i = -1 → U i) →
    ∃ (c : Nat) (σ' ρ' : St), fX1_mostFrom_L21 f G ((sz M (σ.2 23) : Nat) : Int) (k : Int) σ = some ((c : Int), σ') ∧ fX11_most_L27 n ((sz M (σ.2 23) : Nat) : Int) (k : Int) ρ = some ((c : Int), ρ') ∧ FC σ σ' ∧ FR ρ ρ' ∧ Mx R F M (Eg ch G) c := by
  intro f
  induction f with
  | zero => intro n k U σ ρ _ _ _ h; omega
  | succ f ih =>
    intro n k U σ ρ hb hFk hk hf hn hun hU
    obtain ⟨n, rfl⟩ : ∃ n' : Nat, n = n' + 1 := ⟨n - 1, by omega⟩
    obtain ⟨⟨a1, a2⟩, ⟨a3, a4⟩, a5, a6, a7, a8, a9, a10, a11⟩ := id hb
    have e0 : fX1_mostFrom_L21 (f + 1) G ((sz M (σ.2 23) : Nat) : Int) (k : Int) σ = fX1_mostFrom_B21 (fX1_mostFrom_L21 f) G ((sz M (σ.2 23) : Nat) : Int) (k : Int) σ := rfl
    have e1 : fX11_most_L27 (n + 1) ((sz M (σ.2 23) : Nat) : Int) (k : Int) ρ = fX11_most_B27 (fX11_most_L27 n) ((sz M (σ.2 23) : Nat) : Int) (k : Int) ρ := rfl
    rw [e0, e1]
    unfold fX1_mostFrom_B21 fX11_most_B27
    by_cases e : k = M
    · subst e
      exact ⟨sz k (σ.2 23), σ, ρ, by simp (disch := omega) only [w32_eq, gI_eq, gB_eq, g0_eq, ix_nat, ix_eq, bd_some, bv_some, Int.toNat_natCast, Int.toNat_zero, sF_1, sF_2, sA_1, sA_2, sR_1, sR_2, ↓reduceIte, if_pos, if_neg, a3], by simp (disch := omega) only [w32_eq, gI_eq, gB_eq, g0_eq, ix_nat, ix_eq, bd_some, bv_some, Int.toNat_natCast, Int.toNat_zero, sF_1, sF_2, sA_1, sA_2, sR_1, sR_2, ↓reduceIte, if_pos, if_neg, a6], FC.rf, FR.rf, cert a10 a11 (fun i h1 h2 h3 => hU i h1 h2 h3)⟩
    · have hkM : k < M := by omega
      rcases lays_eq hb hFk hkM (hun k (Nat.le_refl k) hkM) with ⟨r, σ1, σ', ρ', z1, z2, z3, z4, z5, z6, z7, z8⟩ | ⟨σ', ρ', U', z1, z2, z3, z4, z5, z6, z7, z8⟩
      · have up := sz_up hkM (hun k (Nat.le_refl k) hkM) z8
        obtain ⟨c, σ2, ρ2, q1, q2, q3, q4, q5⟩ := ih n (k + 1) U σ' ρ' z7 (by omega) (by omega) (by omega) (by omega) (fun i h1 h2 => (z8 i h2).mpr ⟨hun i (by omega) h2, by omega⟩) (fun i h1 h2 h3 => by
          have w := (z8 i (by omega)).mp h3
          exact hU i h1 (by omega) w.1)
        rw [up] at q1 q2
        refine ⟨c, σ2, ρ2, ?_, ?_, FC.tr z5 q3, FR.tr z6 q4, q5⟩
        · rw [z2, bd_some, z3, bv_some]
          simp (disch := omega) only [w32_eq, gI_eq, gB_eq, g0_eq, ix_nat, ix_eq, bd_some, bv_some, Int.toNat_natCast, Int.toNat_zero, sF_1, sF_2, sA_1, sA_2, sR_1, sR_2, ↓reduceIte, if_pos, if_neg, a3]
          exact q1
        · rw [z4, bd_some]
          simp (disch := omega) only [w32_eq, gI_eq, gB_eq, g0_eq, ix_nat, ix_eq, bd_some, bv_some, Int.toNat_natCast, Int.toNat_zero, sF_1, sF_2, sA_1, sA_2, sR_1, sR_2, ↓reduceIte, if_pos, if_neg, a6]
          exact q2
      · obtain ⟨c, σ2, ρ2, q1, q2, q3, q4, q5⟩ := ih n (k + 1) U' σ' ρ' z5 (by omega) (by omega) (by omega) (by omega) (fun i h1 h2 => by rw [z6]; exact hun i (by omega) h2) (fun i h1 h2 h3 => by
          by_cases ei : i = k
          · rw [ei]; exact z8
          · rw [z6] at h3; exact z7 i (hU i h1 (by omega) h3))
        rw [z6] at q1 q2
        refine ⟨c, σ2, ρ2, ?_, ?_, FC.tr z3 q3, FR.tr z4 q4, q5⟩
        · rw [z1, bd_some]
          simp (disch := omega) only [w32_eq, gI_eq, gB_eq, g0_eq, ix_nat, ix_eq, bd_some, bv_some, Int.toNat_natCast, Int.toNat_zero, sF_1, sF_2, sA_1, sA_2, sR_1, sR_2, ↓reduceIte, if_pos, if_neg, a3]
          exact q1
        · rw [z2, bd_some]
          simp (disch := omega) only [w32_eq, gI_eq, gB_eq, g0_eq, ix_nat, ix_eq, bd_some, bv_some, Int.toNat_natCast, Int.toNat_zero, sF_1, sF_2, sA_1, sA_2, sR_1, sR_2, ↓reduceIte, if_pos, if_neg, a6, Int.add_zero]
          exact q2
/-- how many of the movers from F on can get a ROOM: class and reference alike, and it is the most -/
theorem most_eq {σ ρ : St} (a1 : σ.1 0 = R) (a2 : R ≤ 24) (a3 : σ.1 14 = M) (a4 : M ≤ 16) (a5 : ρ.1 0 = R) (a6 : ρ.1 4 = M) (a7 : σ.2 21 = ch) (a8 : ∀ a : Nat, F ≤ a → a < M → ∀ r : Nat, r < R → (tb (ρ.2 16 a) r = true ↔ Eg ch G a r)) (hF : F ≤ M) :
    ∃ (c : Nat) (σ' ρ' : St), fX1_mostFrom σ (F : Int) G = some ((c : Int), σ') ∧ fX11_most ρ (F : Int) = some ((c : Int), ρ') ∧ FC σ σ' ∧ FR ρ ρ' ∧ Mx R F M (Eg ch G) c := by
  obtain ⟨g1, f1, f2⟩ := fill33_loop (σ := σ) 1000 0 (σ.2 22) (by omega) (by omega) (fun r h => by omega)
  obtain ⟨g2, f3, f4⟩ := fill34_loop (σ := sR σ 22 g1) 1000 0 ((sR σ 22 g1).2 23) (by omega) (by omega) (fun r h => by omega)
  obtain ⟨g3, f5, f6⟩ := fillR_loop (ρ := ρ) a5 a2 (v := (F : Int)) 1000 0 (ρ.2 17) (by omega) (by omega) (fun r h => by omega)
  rw [sR_self] at f2 f4 f6
  obtain ⟨σ1, hσ1⟩ : ∃ σ1 : St, σ1 = sR (sR σ 22 g1) 23 g2 := ⟨_, rfl⟩
  have v22 : ∀ r : Nat, r < R → σ1.2 22 r = -1 := fun r hr => by rw [hσ1, ← f1 r (by omega)]; simp (disch := omega) only [w32_eq, gI_eq, gB_eq, g0_eq, ix_nat, ix_eq, bd_some, bv_some, Int.toNat_natCast, Int.toNat_zero, sF_1, sF_2, sA_1, sA_2, sR_1, sR_2, ↓reduceIte, if_pos, if_neg]
  have v23 : ∀ r : Nat, r < M → σ1.2 23 r = -1 := fun r hr => by rw [hσ1, ← f3 r (by omega)]; simp (disch := omega) only [w32_eq, gI_eq, gB_eq, g0_eq, ix_nat, ix_eq, bd_some, bv_some, Int.toNat_natCast, Int.toNat_zero, sF_1, sF_2, sA_1, sA_2, sR_1, sR_2, ↓reduceIte, if_pos, if_neg]
  have v17 : ∀ r : Nat, r < R → (sR ρ 17 g3).2 17 r = -1 := fun r hr => by rw [← f5 r hr]; simp (disch := omega) only [w32_eq, gI_eq, gB_eq, g0_eq, ix_nat, ix_eq, bd_some, bv_some, Int.toNat_natCast, Int.toNat_zero, sF_1, sF_2, sA_1, sA_2, sR_1, sR_2, ↓reduceIte, if_pos, if_neg]
  have fc : FC σ σ1 := ⟨by rw [hσ1]; rfl, fun k hk => by rw [hσ1]; funext i; simp (disch := omega) only [w32_eq, gI_eq, gB_eq, g0_eq, ix_nat, ix_eq, bd_some, bv_some, Int.toNat_natCast, Int.toNat_zero, sF_1, sF_2, sA_1, sA_2, sR_1, sR_2, ↓reduceIte, if_pos, if_neg]⟩
  have fr : FR ρ (sR ρ 17 g3) := ⟨rfl, fun k hk => by funext i; simp (disch := omega) only [w32_eq, gI_eq, gB_eq, g0_eq, ix_nat, ix_eq, bd_some, bv_some, Int.toNat_natCast, Int.toNat_zero, sF_1, sF_2, sA_1, sA_2, sR_1, sR_2, ↓reduceIte, if_pos, if_neg]⟩
  have bt : BT R F M ch G (fun _ => False) σ1 (sR ρ 17 g3) := by
    refine ⟨⟨by rw [fc.1]; exact a1, a2⟩, ⟨by rw [fc.1]; exact a3, a4⟩, a5, a6, (fc.2 21 (by decide)).trans a7, a8, fun r hr => by rw [v22 r hr, v17 r hr], ⟨fun r hr => Or.inl (v22 r hr), fun k hk => Or.inl (v23 k hk), fun r hr k hk => ?_⟩, fun k hk => absurd hk id⟩
    rw [v22 r hr, v23 k hk]
    constructor
    · intro z; omega
    · intro z; omega
  have s0 : sz M (σ1.2 23) = 0 := by
    have : ∀ n : Nat, n ≤ M → cnt (fun k => decide (σ1.2 23 k ≠ -1)) n = 0 := by
      intro n
      induction n with
      | zero => intro _; rfl
      | succ n ih =>
        intro hn
        rw [cnt_succ, ih (by omega), v23 n (by omega)]
        simp
    exact this M (Nat.le_refl M)
  obtain ⟨c, σ', ρ', q1, q2, q3, q4, q5⟩ := most_loop 1000 1000 F (fun _ => False) σ1 (sR ρ 17 g3) bt (Nat.le_refl F) hF (by omega) (by omega) (fun i _ h => v23 i h) (fun i h1 h2 => by omega)
  rw [s0] at q1 q2
  refine ⟨c, σ', ρ', ?_, ?_, FC.tr fc q3, FR.tr fr q4, q5⟩
  · unfold fX1_mostFrom fX1_mostFrom_L0
    rw [show fJ7_fill_53178_a33 σ (-1) = some (sR σ 22 g1) from f2, bv_some, show fJ7_fill_53178_a34 (sR σ 22 g1) (-1) = some (sR (sR σ 22 g1) 23 g2) from f4, bv_some, ← hσ1]
    exact q1
  · unfold fX11_most fX11_most_L0
    exact f6.trans q2
end EMOST
