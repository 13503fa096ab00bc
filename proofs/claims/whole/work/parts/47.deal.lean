section EDEAL
variable {R P N T B : Nat}
/-- how many of the first i have GROUP g -/
def szf (G : Nat → Int) (g : Int) : Nat → Int
  | 0 => 0
  | i + 1 => if G i = g then szf G g i + 1 else szf G g i
theorem szf_succ (G : Nat → Int) (g : Int) (i : Nat) : szf G g (i + 1) = if G i = g then szf G g i + 1 else szf G g i := rfl
theorem szf_le (G : Nat → Int) (g : Int) : ∀ i : Nat, 0 ≤ szf G g i ∧ szf G g i ≤ i := by
  intro i
  induction i with
  | zero => exact ⟨Int.le_refl _, Int.le_refl _⟩
  | succ i ih => rw [szf_succ]; split <;> omega
theorem szf_0 (G : Nat → Int) (g : Int) : ∀ i : Nat, szf G g i = 0 ↔ ∀ q : Nat, q < i → G q ≠ g := by
  intro i
  induction i with
  | zero => exact ⟨fun _ q h => by omega, fun _ => rfl⟩
  | succ i ih =>
    have := szf_le G g i
    rw [szf_succ]
    by_cases c : G i = g
    · rw [if_pos c]
      constructor
      · intro h; omega
      · intro h; exact absurd c (h i (by omega))
    · rw [if_neg c, ih]
      constructor
      · intro h q hq
        by_cases e : q = i
        · subst e; exact c
        · exact h q (by omega)
      · intro h q hq; exact h q (by omega)
theorem szf_1 {G : Nat → Int} {g : Int} {p : Nat} (hg : G p = g) : ∀ i : Nat, p < i → (szf G g i = 1 ↔ ∀ q : Nat, q < i → G q = g → q = p) := by
  intro i
  induction i with
  | zero => intro h; omega
  | succ i ih =>
    intro hp
    rw [szf_succ]
    by_cases e : p = i
    · subst e
      rw [if_pos hg]
      have z := szf_0 G g p
      constructor
      · intro h q hq hq2
        by_cases e2 : q = p
        · exact e2
        · exact absurd hq2 (z.mp (by omega) q (by omega))
      · intro h
        have := z.mpr (fun q hq hq2 => by have := h q (by omega) hq2; omega)
        omega
    · have ih1 := ih (by omega)
      by_cases c : G i = g
      · rw [if_pos c]
        constructor
        · intro h
          have := (szf_0 G g i).mp (by omega) p (by omega)
          exact absurd hg this
        · intro h
          have := h i (by omega) c
          omega
      · rw [if_neg c, ih1]
        constructor
        · intro h q hq hq2
          by_cases e2 : q = i
          · subst e2; exact absurd hq2 c
          · exact h q (by omega) hq2
        · intro h q hq hq2
          exact h q (by omega) hq2
theorem size_loop {ρ : St} {g : Int} (hg : rg g) (h2 : ρ.1 2 = P) (hP : P ≤ 16) (hG : ∀ q : Nat, q < P → rg (ρ.2 4 q)) : ∀ (n i : Nat), i ≤ P → P - i < n → fX11_sizeOf_L4 n g (szf (ρ.2 4) g i) (i : Int) ρ = some (szf (ρ.2 4) g P, ρ) := by
  unfold rg at hg
  intro n
  induction n with
  | zero => intro i _ h; omega
  | succ n ih =>
    intro i hi hn
    have e0 : fX11_sizeOf_L4 (n + 1) g (szf (ρ.2 4) g i) (i : Int) ρ = fX11_sizeOf_B4 (fX11_sizeOf_L4 n) g (szf (ρ.2 4) g i) (i : Int) ρ := rfl
    rw [e0]
    unfold fX11_sizeOf_B4
    by_cases e : i = P
    · subst e
      simp (disch := omega) only [w32_eq, gI_eq, gB_eq, g0_eq, ix_nat, ix_eq, bd_some, bv_some, Int.toNat_natCast, Int.toNat_zero, sF_1, sF_2, sA_1, sA_2, sR_1, sR_2, ↓reduceIte, if_pos, if_neg, h2]
    · have ih1 := ih (i + 1) (by omega) (by omega)
      rw [szf_succ] at ih1
      have gi := hG i (by omega)
      unfold rg at gi
      by_cases c : ρ.2 4 i = g
      · rw [if_pos c] at ih1
        simp (disch := omega) only [w32_eq, gI_eq, gB_eq, g0_eq, ix_nat, ix_eq, bd_some, bv_some, Int.toNat_natCast, Int.toNat_zero, sF_1, sF_2, sA_1, sA_2, sR_1, sR_2, ↓reduceIte, if_pos, if_neg, h2]
        exact ih1
      · rw [if_neg c] at ih1
        simp (disch := omega) only [w32_eq, gI_eq, gB_eq, g0_eq, ix_nat, ix_eq, bd_some, bv_some, Int.toNat_natCast, Int.toNat_zero, sF_1, sF_2, sA_1, sA_2, sR_1, sR_2, ↓reduceIte, if_pos, if_neg, h2, Int.add_zero]
        exact ih1
theorem sizeOf_eq {ρ : St} {g : Int} (hg : rg g) (h2 : ρ.1 2 = P) (hP : P ≤ 16) (hG : ∀ q : Nat, q < P → rg (ρ.2 4 q)) : fX11_sizeOf ρ g = some (szf (ρ.2 4) g P, ρ) := by
  unfold fX11_sizeOf fX11_sizeOf_L0
  exact size_loop hg h2 hP hG 1000 0 (by omega) (by omega)
/-- one's turn: that one and the GROUP are served -/
theorem serve_eq {σ ρ : St} (h : Dl σ ρ R P N T B) {p t : Nat} {v d : Int} (hp : p < P) (ht : t < P) (h10 : ρ.2 10 t = p) (hw : w32 v = v) (hv : ∀ k : Nat, k < 32 → (tb v k = true ↔ k = p ∨ (k < P ∧ ρ.2 4 k ≠ -1 ∧ ρ.2 4 k = ρ.2 4 p))) (hd : tb d p = false) (hno : ∀ q : Nat, q < P → tb v q = true → ρ.2 7 q = -1) :
    ∃ (σ' ρ' : St) (d' : Int), fX0_serve σ (p : Int) v = some σ' ∧ (∀ k27 : Int → Int → St → Option (Int × St), fX11_deal_B27 k27 d (t : Int) ρ = k27 d' ((t : Int) + 1) ρ') ∧ Dl σ' ρ' R P N T B ∧ Kr ρ ρ' ∧ (∀ k : Nat, k ≠ 2 → σ'.1 k = σ.1 k) ∧ ρ'.2 12 = ρ.2 12 ∧ (∀ k : Nat, k < 32 → (tb d' k = true ↔ tb d k = true ∨ tb v k = true)) ∧ (∀ q : Nat, q < P → tb v q = false → ρ'.2 7 q = ρ.2 7 q) := by
  obtain ⟨hC, hL, hH⟩ := id h
  obtain ⟨hB, hR, hS, hP, hW, hK, hT, hN, hQ, hX⟩ := id hC
  obtain ⟨b1, b2, b3, b4, b5⟩ := id hB
  have p1 := hP.1
  have gr : ∀ q : Nat, q < P → rg (ρ.2 4 q) := fun q hq => by have := (hP.2 q hq).2.2.2; unfold rg; omega
  have gp := gr p hp
  have gp0 := gp
  unfold rg at gp0
  have hvp : tb v p = true := (hv p (by omega)).mpr (Or.inl rfl)
  obtain ⟨c, c1, c2, c3⟩ := bitCount_one σ hw (p := p) (by omega) hvp (fun k hk hk2 => by
    rcases (hv k hk).mp hk2 with z | z
    · omega
    · omega)
  unfold rg at c2
  have es : fX0_serve σ (p : Int) v = if c = 1 then fX0_serve_L13 (p : Int) v 1 σ else fX0_serve_L13 (p : Int) v 0 σ := by
    unfold fX0_serve fX0_serve_L0
    rw [c1, bd_some]
    by_cases cc : c = 1
    · simp (disch := omega) only [w32_eq, gI_eq, gB_eq, g0_eq, ix_nat, ix_eq, bd_some, bv_some, Int.toNat_natCast, Int.toNat_zero, sF_1, sF_2, sA_1, sA_2, sR_1, sR_2, ↓reduceIte, if_pos, if_neg]
    · simp (disch := omega) only [w32_eq, gI_eq, gB_eq, g0_eq, ix_nat, ix_eq, bd_some, bv_some, Int.toNat_natCast, Int.toNat_zero, sF_1, sF_2, sA_1, sA_2, sR_1, sR_2, ↓reduceIte, if_pos, if_neg]
  by_cases alone : ∀ k : Nat, k < 32 → tb v k = true → k = p
  · have cc := c3.mpr alone
    obtain ⟨σ', r, s1, s2, s3, s4, s5⟩ := each_alone hp (fr := v) (fun k hk => ⟨fun z => alone k (by omega) z, fun z => by rw [z]; exact hvp⟩) 1000 0 σ ρ h (by omega) (by omega) (fun _ => hno p hp hvp)
    obtain ⟨s6, s7⟩ := s2 (by omega)
    refine ⟨σ', sA ρ 7 p r, bOr d (bShl 1 (p : Int)), ?_, fun k27 => ?_, s7, Kr_sA ρ p r, s5, rfl, fun k hk => ?_, fun q hq hq2 => ?_⟩
    · rw [es, if_pos cc]
      unfold fX0_serve_L13 fX0_settleEach fX0_settleEach_L0
      rw [show fX0_settleEach_L2 1000 v 0 σ = some σ' from s1, bv_some]
      simp (disch := omega) only [w32_eq, gI_eq, gB_eq, g0_eq, ix_nat, ix_eq, bd_some, bv_some, Int.toNat_natCast, Int.toNat_zero, sF_1, sF_2, sA_1, sA_2, sR_1, sR_2, ↓reduceIte, if_pos, if_neg]
    · unfold fX11_deal_B27
      have e1 : bAnd (bShr d (p : Int)) 1 = 0 := by
        rw [bShr_bit d (by omega), hd, if_neg (by simp)]
      by_cases g1 : ρ.2 4 p = -1
      · simp (disch := omega) only [w32_eq, gI_eq, gB_eq, g0_eq, ix_nat, ix_eq, bd_some, bv_some, Int.toNat_natCast, Int.toNat_zero, sF_1, sF_2, sA_1, sA_2, sR_1, sR_2, ↓reduceIte, if_pos, if_neg, p1, h10, e1, s6]
      · have sz : szf (ρ.2 4) (ρ.2 4 p) P = 1 := (szf_1 (G := ρ.2 4) (p := p) rfl P hp).mpr (fun q hq hq2 => alone q (by omega) ((hv q (by omega)).mpr (Or.inr ⟨hq, by rw [hq2]; exact g1, hq2⟩)))
        have sz2 := sizeOf_eq gp p1 b4 gr
        rw [sz] at sz2
        simp (disch := omega) only [w32_eq, gI_eq, gB_eq, g0_eq, ix_nat, ix_eq, bd_some, bv_some, Int.toNat_natCast, Int.toNat_zero, sF_1, sF_2, sA_1, sA_2, sR_1, sR_2, ↓reduceIte, if_pos, if_neg, p1, h10, e1, s6, sz2]
    · rw [tb_or, tb_shl1 (by omega), Bool.or_eq_true, decide_eq_true_eq]
      constructor
      · rintro (z | z)
        · exact Or.inl z
        · right; rw [z]; exact hvp
      · rintro (z | z)
        · exact Or.inl z
        · exact Or.inr (alone k hk z)
    · have : q ≠ p := fun z => by rw [z, hvp] at hq2; cases hq2
      simp (disch := omega) only [w32_eq, gI_eq, gB_eq, g0_eq, ix_nat, ix_eq, bd_some, bv_some, Int.toNat_natCast, Int.toNat_zero, sF_1, sF_2, sA_1, sA_2, sR_1, sR_2, ↓reduceIte, if_pos, if_neg]
  · have cc : ¬ c = 1 := fun z => alone (c3.mp z)
    have g1 : ρ.2 4 p ≠ -1 := by
      intro z
      apply alone
      intro k hk hk2
      rcases (hv k hk).mp hk2 with y | y
      · exact y
      · exact absurd (y.2.2.trans z) y.2.1
    have hfr : ∀ k : Nat, k < P → (tb v k = true ↔ ρ.2 4 k = ρ.2 4 p) := by
      intro k hk
      rw [hv k (by omega)]
      constructor
      · rintro (z | z)
        · rw [z]
        · exact z.2.2
      · intro z; exact Or.inr ⟨hk, by rw [z]; exact g1, z⟩
    have sz : szf (ρ.2 4) (ρ.2 4 p) P ≠ 1 := by
      intro z
      apply alone
      intro k hk hk2
      have hkP : k < P := by
        rcases (hv k hk).mp hk2 with y | y
        · omega
        · exact y.1
      exact (szf_1 (G := ρ.2 4) (p := p) rfl P hp).mp z k hkP ((hfr k hkP).mp hk2)
    have sz2 := sizeOf_eq gp p1 b4 gr
    have szl := szf_le (ρ.2 4) (ρ.2 4 p) P
    have hw5 := (hW.1 p hp).2.1
    have eref : ∀ k27 : Int → Int → St → Option (Int × St), fX11_deal_B27 k27 d (t : Int) ρ = fX11_deal_L94 k27 1000 (bOr d (bShl 1 (p : Int))) (t : Int) (p : Int) 0 0 ρ := by
      intro k27
      unfold fX11_deal_B27
      have e1 : bAnd (bShr d (p : Int)) 1 = 0 := by
        rw [bShr_bit d (by omega), hd, if_neg (by simp)]
      simp (disch := omega) only [w32_eq, gI_eq, gB_eq, g0_eq, ix_nat, ix_eq, bd_some, bv_some, Int.toNat_natCast, Int.toNat_zero, sF_1, sF_2, sA_1, sA_2, sR_1, sR_2, ↓reduceIte, if_pos, if_neg, p1, h10, e1, sz2]
    obtain ⟨b, σ1, ρ1, q1, q2, q3, q4, q5, q6, q7, q8, q9, q10⟩ := tog_loop hp (G := ρ.2 4) (fr := v) hfr 1000 1000 0 σ ρ h rfl (by omega) (by omega) (by omega) (fun q hq hq2 => hno q hq ((hfr q hq).mpr hq2))
    have r4 : ρ1.2 4 = ρ.2 4 := q6.2 4 (by decide) (by decide)
    have bits : ∀ d' : Int, (∀ k : Nat, k < 32 → (tb d' k = true ↔ tb (bOr d (bShl 1 (p : Int))) k = true ∨ (0 ≤ k ∧ k < P ∧ ρ.2 4 k = ρ.2 4 p))) → ∀ k : Nat, k < 32 → (tb d' k = true ↔ tb d k = true ∨ tb v k = true) := by
      intro d' hd' k hk
      rw [hd' k hk, tb_or, tb_shl1 (by omega), Bool.or_eq_true, decide_eq_true_eq, hv k hk]
      constructor
      · rintro ((z | z) | z)
        · exact Or.inl z
        · exact Or.inr (Or.inl z)
        · exact Or.inr (Or.inr ⟨z.2.1, by rw [z.2.2]; exact g1, z.2.2⟩)
      · rintro (z | z | z)
        · exact Or.inl (Or.inl z)
        · exact Or.inl (Or.inr z)
        · exact Or.inr ⟨by omega, z.1, z.2.2⟩
    have notin : ∀ q : Nat, q < P → tb v q = false → ρ.2 4 q ≠ ρ.2 4 p := by
      intro q hq hq2 z
      rw [(hfr q hq).mpr z] at hq2; cases hq2
    rcases q1 with q1 | q1
    · subst q1
      obtain ⟨σ', ρ', d', s1, s2, s3, s4, s5, s6, s7, s8, s9⟩ := each_loop hp (G := ρ.2 4) (fr := v) hfr gr 1000 1000 0 σ1 ρ1 (bOr d (bShl 1 (p : Int))) q4 r4 (by omega) (by omega) (by omega) (fun q _ hq hq2 => by rw [q10 rfl q hq]; exact hno q hq ((hfr q hq).mpr hq2))
      refine ⟨σ', ρ', d', ?_, fun k27 => ?_, s3, Kr.tr q6 s7, fun k hk => (s8 k hk).trans (q7 k hk), s9.trans q8, bits d' s4, fun q hq hq2 => ?_⟩
      · rw [es, if_neg cc]
        unfold fX0_serve_L13 fX0_settleTogether fX0_settleTogether_L0
        rw [show fX0_settleTogether_L2 1000 (p : Int) v 0 σ = some (0, σ1) from q2, bd_some]
        unfold fX0_settleEach fX0_settleEach_L0
        rw [show fX0_settleEach_L2 1000 v 0 σ1 = some σ' from s1, bv_some]
        simp (disch := omega) only [w32_eq, gI_eq, gB_eq, g0_eq, ix_nat, ix_eq, bd_some, bv_some, Int.toNat_natCast, Int.toNat_zero, sF_1, sF_2, sA_1, sA_2, sR_1, sR_2, ↓reduceIte, if_pos, if_neg]
      · rw [eref]
        exact (q3 k27 (bOr d (bShl 1 (p : Int))) (t : Int)).trans (s2 k27 (t : Int))
      · rw [s5 q hq (notin q hq hq2), q9 q hq (notin q hq hq2)]
    · subst q1
      obtain ⟨d', s2, s4⟩ := mark_loop hp (G := ρ.2 4) gr (ρ := ρ1) (by rw [q6.1 2 (by decide)]; exact p1) b4 r4 1000 0 (bOr d (bShl 1 (p : Int))) (by omega) (by omega)
      refine ⟨σ1, ρ1, d', ?_, fun k27 => ?_, q4, q6, q7, q8, bits d' s4, fun q hq hq2 => q9 q hq (notin q hq hq2)⟩
      · rw [es, if_neg cc]
        unfold fX0_serve_L13 fX0_settleTogether fX0_settleTogether_L0
        rw [show fX0_settleTogether_L2 1000 (p : Int) v 0 σ = some (1, σ1) from q2, bd_some]
        simp (disch := omega) only [w32_eq, gI_eq, gB_eq, g0_eq, ix_nat, ix_eq, bd_some, bv_some, Int.toNat_natCast, Int.toNat_zero, sF_1, sF_2, sA_1, sA_2, sR_1, sR_2, ↓reduceIte, if_pos, if_neg]
      · rw [eref]
        exact (q3 k27 (bOr d (bShl 1 (p : Int))) (t : Int)).trans (s2 k27 (t : Int))
/-- turn by turn -/
theorem run_loop {G : Nat → Int} : ∀ (f n i : Nat) (σ ρ : St) (sv dn : Int), Dl σ ρ R P N T B → ρ.2 4 = G → i ≤ P → P - i < f → P - i < n → (∀ k : Nat, k < P → tb sv k = tb dn k) → (∀ q : Nat, q < P → tb sv q = false → ρ.2 7 q = -1) → (∀ q r : Nat, q < P → r < P → G q ≠ -1 → G q = G r → tb sv q = tb sv r) →
    ∃ σ' ρ' : St, fX0_run_L38 f sv (i : Int) σ = some σ' ∧ fX11_deal_L27 n dn (i : Int) ρ = (bd (fX11_housed ρ') fun a3 s3 => some (a3, s3)) ∧ Dl σ' ρ' R P N T B ∧ (∀ k : Nat, k ≠ 2 → σ'.1 k = σ.1 k) ∧ ρ'.2 12 = ρ.2 12 := by
  intro f
  induction f with
  | zero => intro n i σ ρ sv dn _ _ _ h; omega
  | succ f ih =>
    intro n i σ ρ sv dn h hg hi hf hn hs hno hgr
    obtain ⟨n, rfl⟩ : ∃ n' : Nat, n = n' + 1 := ⟨n - 1, by omega⟩
    obtain ⟨hC, hL, hH⟩ := id h
    obtain ⟨hB, hR, hS, hP, hW, hK, hT, hN, hQ, hX⟩ := id hC
    obtain ⟨b1, b2, b3, b4, b5⟩ := id hB
    have p1 := hP.1
    have e0 : fX0_run_L38 (f + 1) sv (i : Int) σ = fX0_run_B38 (fX0_run_L38 f) sv (i : Int) σ := rfl
    have e1 : fX11_deal_L27 (n + 1) dn (i : Int) ρ = fX11_deal_B27 (fX11_deal_L27 n) dn (i : Int) ρ := rfl
    rw [e0, e1]
    unfold fX0_run_B38
    by_cases e : i = P
    · subst e
      refine ⟨σ, ρ, by simp (disch := omega) only [w32_eq, gI_eq, gB_eq, g0_eq, ix_nat, ix_eq, bd_some, bv_some, Int.toNat_natCast, Int.toNat_zero, sF_1, sF_2, sA_1, sA_2, sR_1, sR_2, ↓reduceIte, if_pos, if_neg, b5], ?_, h, fun _ _ => rfl, rfl⟩
      unfold fX11_deal_B27
      simp (disch := omega) only [w32_eq, gI_eq, gB_eq, g0_eq, ix_nat, ix_eq, bd_some, bv_some, Int.toNat_natCast, Int.toNat_zero, sF_1, sF_2, sA_1, sA_2, sR_1, sR_2, ↓reduceIte, if_pos, if_neg, p1]
    · have hiP : i < P := by omega
      obtain ⟨t1, t2, t3⟩ := hT i hiP
      obtain ⟨p, hp⟩ : ∃ p : Nat, ρ.2 10 i = p := ⟨(ρ.2 10 i).toNat, by omega⟩
      have hpP : p < P := by omega
      have eat : fX9_at σ (i : Int) = some ((p : Int), σ) := by rw [turnAt_t hB hiP, t1, hp]
      rw [eat, bd_some, inBits_eq σ sv (by omega), bd_some]
      cases hb : tb sv p with
      | true =>
        obtain ⟨σ', ρ', q1, q2, q3, q4, q5⟩ := ih n (i + 1) σ ρ sv dn h hg (by omega) (by omega) (by omega) hs hno hgr
        refine ⟨σ', ρ', ?_, ?_, q3, q4, q5⟩
        · simp (disch := omega) only [w32_eq, gI_eq, gB_eq, g0_eq, ix_nat, ix_eq, bd_some, bv_some, Int.toNat_natCast, Int.toNat_zero, sF_1, sF_2, sA_1, sA_2, sR_1, sR_2, ↓reduceIte, if_pos, if_neg, b5]
          exact q1
        · rw [← q2]
          unfold fX11_deal_B27
          have e2 : bAnd (bShr dn (p : Int)) 1 = 1 := by
            rw [bShr_bit dn (by omega), ← hs p hpP, hb, if_pos rfl]
          simp (disch := omega) only [w32_eq, gI_eq, gB_eq, g0_eq, ix_nat, ix_eq, bd_some, bv_some, Int.toNat_natCast, Int.toNat_zero, sF_1, sF_2, sA_1, sA_2, sR_1, sR_2, ↓reduceIte, if_pos, if_neg, p1, hp, e2]
          rfl
      | false =>
        obtain ⟨v, v0, v1, v2⟩ := friendsOf_eq hC hpP
        have hvn : ∀ q : Nat, q < P → tb v q = true → tb sv q = false := by
          intro q hq hq2
          rcases (v1 q (by omega)).mp hq2 with z | z
          · rw [z]; exact hb
          · rw [hgr q p hq hpP (by rw [← hg]; exact z.2.1) (by rw [← hg]; exact z.2.2)]; exact hb
        obtain ⟨σ1, ρ1, d', s1, s2, s3, s4, s5, s6, s7, s8⟩ := serve_eq h hpP hiP hp v0 v1 (d := dn) (by rw [← hs p hpP]; exact hb) (fun q hq hq2 => hno q hq (hvn q hq hq2))
        have r4 : ρ1.2 4 = ρ.2 4 := s4.2 4 (by decide) (by decide)
        obtain ⟨σ', ρ', q1, q2, q3, q4, q5⟩ := ih n (i + 1) σ1 ρ1 (bOr sv v) d' s3 (r4.trans hg) (by omega) (by omega) (by omega) (fun k hk => by
          have w := s7 k (by omega)
          rw [tb_or, hs k hk]
          cases h1 : tb d' k with
          | true =>
            rcases w.mp h1 with z | z
            · rw [z]; rfl
            · rw [z, Bool.or_true]
          | false =>
            cases h2 : tb dn k with
            | true => rw [w.mpr (Or.inl h2)] at h1; cases h1
            | false =>
              cases h3 : tb v k with
              | true => rw [w.mpr (Or.inr h3)] at h1; cases h1
              | false => rfl) (fun q hq hq2 => by
          rw [tb_or, Bool.or_eq_false_iff] at hq2
          rw [s8 q hq hq2.2]
          exact hno q hq hq2.1) (fun q r hq hr h1 h2 => by
          rw [tb_or, tb_or, hgr q r hq hr h1 h2]
          have a := v1 q (by omega)
          have b := v1 r (by omega)
          rw [hg] at a b
          have ab : tb v q = true ↔ tb v r = true := by
            rw [a, b]
            constructor
            · rintro (z | z)
              · right; exact ⟨hr, by rw [← h2]; exact h1, by rw [← h2, z]⟩
              · right; exact ⟨hr, by rw [← h2]; exact h1, by rw [← h2]; exact z.2.2⟩
            · rintro (z | z)
              · right; exact ⟨hq, h1, by rw [h2, z]⟩
              · right; exact ⟨hq, h1, by rw [h2]; exact z.2.2⟩
          rw [Bool.eq_iff_iff.mpr ab])
        refine ⟨σ', ρ', ?_, ?_, q3, fun k hk => (q4 k hk).trans (s5 k hk), q5.trans s6⟩
        · rw [v2, bd_some, s1, bv_some]
          simp (disch := omega) only [w32_eq, gI_eq, gB_eq, g0_eq, ix_nat, ix_eq, bd_some, bv_some, Int.toNat_natCast, Int.toNat_zero, sF_1, sF_2, sA_1, sA_2, sR_1, sR_2, ↓reduceIte, if_pos, if_neg, b5, Bool.false_eq_true]
          exact q1
        · rw [s2 (fX11_deal_L27 n), ← q2]
          rfl
/-- all leave -/
theorem out_loop : ∀ (f n i : Nat) (σ ρ : St), Dl σ ρ R P N T B → i ≤ P → P - i < f → P - i < n → (∀ q : Nat, q < i → ρ.2 7 q = -1) →
    ∃ σ' ρ' : St, fX0_run_L9 f (i : Int) σ = fX0_run_L38 1000 0 0 σ' ∧ fX11_deal_L2 n (i : Int) ρ = fX11_deal_L27 1000 0 0 ρ' ∧ Dl σ' ρ' R P N T B ∧ (∀ k : Nat, k ≠ 2 → σ'.1 k = σ.1 k) ∧ ρ'.2 12 = ρ.2 12 ∧ (∀ q : Nat, q < P → ρ'.2 7 q = -1) := by
  intro f
  induction f with
  | zero => intro n i σ ρ _ _ h; omega
  | succ f ih =>
    intro n i σ ρ h hi hf hn hno
    obtain ⟨n, rfl⟩ : ∃ n' : Nat, n = n' + 1 := ⟨n - 1, by omega⟩
    obtain ⟨hC, hL, hH⟩ := id h
    have b3 := hC.1.2.2.1
    have b4 := hC.1.2.2.2.1
    have p1 := hC.2.2.2.1.1
    have e0 : fX0_run_L9 (f + 1) (i : Int) σ = fX0_run_B9 (fX0_run_L9 f) (i : Int) σ := rfl
    have e1 : fX11_deal_L2 (n + 1) (i : Int) ρ = fX11_deal_B2 (fX11_deal_L2 n) (i : Int) ρ := rfl
    rw [e0, e1]
    unfold fX0_run_B9 fX11_deal_B2
    by_cases e : i = P
    · subst e
      exact ⟨σ, ρ, by simp (disch := omega) only [w32_eq, gI_eq, gB_eq, g0_eq, ix_nat, ix_eq, bd_some, bv_some, Int.toNat_natCast, Int.toNat_zero, sF_1, sF_2, sA_1, sA_2, sR_1, sR_2, ↓reduceIte, if_pos, if_neg, b3], by simp (disch := omega) only [w32_eq, gI_eq, gB_eq, g0_eq, ix_nat, ix_eq, bd_some, bv_some, Int.toNat_natCast, Int.toNat_zero, sF_1, sF_2, sA_1, sA_2, sR_1, sR_2, ↓reduceIte, if_pos, if_neg, p1], h, fun _ _ => rfl, rfl, hno⟩
    · have hiP : i < P := by omega
      obtain ⟨σ1, t1, t2, t3, t4, t5⟩ := leave_eq hC hL hiP
      have hD1 : Dl σ1 (sA ρ 7 i (-1)) R P N T B := Dl_keep h t2 (Kr_sA ρ i (-1)) (t5 0 (by decide) (by decide)) t3
      obtain ⟨σ', ρ', q1, q2, q3, q4, q5, q6⟩ := ih n (i + 1) σ1 (sA ρ 7 i (-1)) hD1 (by omega) (by omega) (by omega) (fun q hq => by
        by_cases eq : q = i
        · subst eq; simp (disch := omega) only [w32_eq, gI_eq, gB_eq, g0_eq, ix_nat, ix_eq, bd_some, bv_some, Int.toNat_natCast, Int.toNat_zero, sF_1, sF_2, sA_1, sA_2, sR_1, sR_2, ↓reduceIte, if_pos, if_neg]
        · have := hno q (by omega)
          simp (disch := omega) only [w32_eq, gI_eq, gB_eq, g0_eq, ix_nat, ix_eq, bd_some, bv_some, Int.toNat_natCast, Int.toNat_zero, sF_1, sF_2, sA_1, sA_2, sR_1, sR_2, ↓reduceIte, if_pos, if_neg]; exact this)
      refine ⟨σ', ρ', ?_, ?_, q3, fun k hk => (q4 k hk).trans (t4 k hk), q5, q6⟩
      · rw [t1, bv_some]
        simp (disch := omega) only [w32_eq, gI_eq, gB_eq, g0_eq, ix_nat, ix_eq, bd_some, bv_some, Int.toNat_natCast, Int.toNat_zero, sF_1, sF_2, sA_1, sA_2, sR_1, sR_2, ↓reduceIte, if_pos, if_neg, b3]
        exact q1
      · simp (disch := omega) only [w32_eq, gI_eq, gB_eq, g0_eq, ix_nat, ix_eq, bd_some, bv_some, Int.toNat_natCast, Int.toNat_zero, sF_1, sF_2, sA_1, sA_2, sR_1, sR_2, ↓reduceIte, if_pos, if_neg, p1]
        exact q2
theorem op_deal {σ ρ : St} (h : Inv σ ρ) : Op (fX10_deal σ) (fX11_deal ρ) := by
  obtain ⟨R, P, N, T, B, hC, hL, hD⟩ := inv_core h
  have b4 := hC.1.2.2.2.1
  obtain ⟨g, w1, w2⟩ := weighAll_eq hC
  obtain ⟨hC0, hm0⟩ := core_keep (Kc_sR0 σ g) Kr.rf hC
  have d0 : Dl (sR σ 0 g) ρ R P N T B := ⟨hC0, IL_keep hL rfl rfl rfl, fun q hq k hk => by rw [hm0]; exact w1 q hq k hk⟩
  obtain ⟨σ1, ρ1, a1, a2, a3, a4, a5, a6⟩ := out_loop 1000 1000 0 (sR σ 0 g) ρ d0 (by omega) (by omega) (by omega) (fun q hq => by omega)
  obtain ⟨σ2, ρ2, c1, c2, c3, c4, c5⟩ := run_loop (G := ρ1.2 4) 1000 1000 0 σ1 ρ1 0 0 a3 rfl (by omega) (by omega) (by omega) (fun _ _ => rfl) (fun q hq _ => a6 q hq) (fun q r _ _ _ _ => by rw [tb_0, tb_0])
  obtain ⟨hC2, hL2, hH2⟩ := id c3
  obtain ⟨u1, u2⟩ := housed_eq hC2.1 hC2.2.2.2.1 hL2
  have hD2 : ID σ2 ρ2 := by
    obtain ⟨x1, x2, x3⟩ := hD
    have k : ∀ k : Nat, k ≠ 2 → σ2.1 k = σ.1 k := fun k hk => (c4 k hk).trans (a4 k hk)
    have e12 : ρ2.2 12 = ρ.2 12 := c5.trans a5
    unfold ID
    rw [e12]
    exact ⟨(k 10 (by decide)).trans x1, (k 11 (by decide)).trans x2, (k 12 (by decide)).trans x3⟩
  refine ⟨hsd (ρ2.2 7) P, σ2, ρ2, ?_, ?_, core_inv hC2 hL2 hD2⟩
  · unfold fX10_deal fX10_deal_L0 fX0_run fX0_run_L0
    rw [w2, bv_some, show fX0_run_L9 1000 0 (sR σ 0 g) = some σ2 from a1.trans c1, bv_some, u1, bd_some]
  · unfold fX11_deal fX11_deal_L0
    rw [show fX11_deal_L2 1000 0 ρ = (bd (fX11_housed ρ2) fun a3 s3 => some (a3, s3)) from a2.trans c2, u2, bd_some]
end EDEAL
