section ETOG
variable {R P N T B : Nat}
theorem IL_keep {σ σ' ρ : St} (h : IL σ ρ R P) (e9 : σ'.2 9 = σ.2 9) (e4 : σ'.2 4 = σ.2 4) (e2 : σ'.1 2 = σ.1 2) : IL σ' ρ R P := by
  unfold IL at *; rw [e9, e4, e2]; exact h
theorem Dl_keep {σ σ' ρ ρ' : St} (h : Dl σ ρ R P N T B) (kc : Kc σ σ') (kr : Kr ρ ρ') (e0 : σ'.2 0 = σ.2 0) (hL : IL σ' ρ' R P) : Dl σ' ρ' R P N T B := by
  obtain ⟨hC1, hm1⟩ := core_keep kc kr h.1
  refine ⟨hC1, hL, fun q hq k hk => ?_⟩
  rw [e0, hm1]
  exact h.2.2 q hq k hk
/-- two with one ROOM are one -/
theorem IL_inj {σ ρ : St} (h : IL σ ρ R P) {p q r : Nat} (hp : p < P) (hq : q < P) (hr : r < R) (h1 : ρ.2 7 p = r) (h2 : ρ.2 7 q = r) : p = q := by
  have w := (h.2.1 r hr).2.2
  have a := (w p hp).mp h1
  have b := (w q hq).mp h2
  omega
/-- the picks are settled: the class comes to where the reference is -/
theorem settle_loop {σ ρ0 σv ρ' : St} (hD : Dl σ ρ0 R P N T B) (hD' : Dl σv ρ' R P N T B) (kr' : Kr ρ0 ρ') {fr gg : Int} (hfr : ∀ k : Nat, k < P → (tb fr k = true ↔ ρ0.2 4 k = gg)) {g' : Nat → Int} (hno : ∀ q : Nat, q < P → ρ0.2 4 q = gg → ρ0.2 7 q = -1)
    (hq : ∀ q : Nat, q < P → (ρ0.2 4 q = gg → ρ'.2 7 q = g' q ∧ 0 ≤ g' q ∧ g' q < R ∧ σ.2 4 (g' q).toNat = -1) ∧ (ρ0.2 4 q ≠ gg → ρ'.2 7 q = ρ0.2 7 q)) :
    ∀ (f i : Nat) (s t : St), Dl s t R P N T B → Kc σ s → (∀ k : Nat, k ≠ 2 → s.1 k = σ.1 k) → Kr ρ0 t → s.2 17 = g' → i ≤ P → P - i < f →
    (∀ q : Nat, q < P → ((q < i ∧ ρ0.2 4 q = gg) → t.2 7 q = g' q) ∧ (¬ (q < i ∧ ρ0.2 4 q = gg) → t.2 7 q = ρ0.2 7 q)) →
    ∃ s' : St, fX0_settlePicks_L2 f fr (i : Int) s = some s' ∧ Dl s' ρ' R P N T B ∧ Kc σ s' ∧ (∀ k : Nat, k ≠ 2 → s'.1 k = σ.1 k) := by
  have b4 := hD.1.1.2.2.2.1
  have b2 := hD.1.1.2.1
  intro f
  induction f with
  | zero => intro i s t _ _ _ _ _ _ h; omega
  | succ f ih =>
    intro i s t hs kc k1 kr hg hi hf hinv
    obtain ⟨hC, hL, hH⟩ := id hs
    have b3 := hC.1.2.2.1
    have e0 : fX0_settlePicks_L2 (f + 1) fr (i : Int) s = fX0_settlePicks_B2 (fX0_settlePicks_L2 f) fr (i : Int) s := rfl
    rw [e0]
    unfold fX0_settlePicks_B2
    by_cases e : i = P
    · subst e
      refine ⟨s, by simp (disch := omega) only [w32_eq, gI_eq, gB_eq, g0_eq, ix_nat, ix_eq, bd_some, bv_some, Int.toNat_natCast, Int.toNat_zero, sF_1, sF_2, sA_1, sA_2, sR_1, sR_2, ↓reduceIte, if_pos, if_neg, b3], ?_, kc, k1⟩
      have hL' : IL s ρ' R i := IL_congr hL (fun q hq1 => by
        by_cases c : ρ0.2 4 q = gg
        · rw [((hq q hq1).1 c).1, (hinv q hq1).1 ⟨hq1, c⟩]
        · rw [(hq q hq1).2 c, (hinv q hq1).2 (fun z => c z.2)])
      obtain ⟨hC1, hm1⟩ := core_keep kc kr' hD.1
      exact ⟨hC1, hL', hH⟩
    · have hiP : i < P := by omega
      rw [inBits_eq s fr (by omega), bd_some]
      by_cases c : ρ0.2 4 i = gg
      · obtain ⟨a1, a2, a3, a4⟩ := (hq i hiP).1 c
        obtain ⟨r, hr⟩ : ∃ r : Nat, g' i = r := ⟨(g' i).toNat, by omega⟩
        have hrR : r < R := by omega
        have hti : t.2 7 i = -1 := by rw [(hinv i hiP).2 (fun z => by omega)]; exact hno i hiP c
        rw [hr, Int.toNat_natCast] at a4
        have free : s.2 4 r = -1 := by
          rw [free_iff hL hrR]
          intro q hq1 hz
          by_cases cq : q < i ∧ ρ0.2 4 q = gg
          · rw [(hinv q hq1).1 cq] at hz
            have w1 := ((hq q hq1).1 cq.2).1
            have := IL_inj hD'.2.1 hq1 hiP hrR (by rw [w1]; exact hz) (by rw [a1]; exact hr)
            omega
          · rw [(hinv q hq1).2 cq] at hz
            exact ((free_iff hD.2.1 hrR).mp a4) q hq1 hz
        obtain ⟨s1, t1, t2, t3, t4, t5⟩ := settle_eq hC hL hiP hrR hti free
        have hD1 : Dl s1 (sA t 7 i (r : Int)) R P N T B := Dl_keep hs t2 (Kr_sA t i (r : Int)) (t5 0 (by decide) (by decide)) t3
        obtain ⟨s', q1, q2, q3, q4⟩ := ih (i + 1) s1 (sA t 7 i (r : Int)) hD1 (Kc.tr kc t2) (fun k hk => (t4 k hk).trans (k1 k hk)) (Kr.tr kr (Kr_sA t i (r : Int))) ((t5 17 (by decide) (by decide)).trans hg) (by omega) (by omega) (fun q hq1 => by
          have w := hinv q hq1
          by_cases eq : q = i
          · subst eq
            exact ⟨fun _ => by simp (disch := omega) only [w32_eq, gI_eq, gB_eq, g0_eq, ix_nat, ix_eq, bd_some, bv_some, Int.toNat_natCast, Int.toNat_zero, sF_1, sF_2, sA_1, sA_2, sR_1, sR_2, ↓reduceIte, if_pos, if_neg]; exact hr.symm, fun z => absurd ⟨by omega, c⟩ z⟩
          · refine ⟨fun z => ?_, fun z => ?_⟩
            · have := w.1 ⟨by omega, z.2⟩
              simp (disch := omega) only [w32_eq, gI_eq, gB_eq, g0_eq, ix_nat, ix_eq, bd_some, bv_some, Int.toNat_natCast, Int.toNat_zero, sF_1, sF_2, sA_1, sA_2, sR_1, sR_2, ↓reduceIte, if_pos, if_neg]; exact this
            · have := w.2 (fun y => z ⟨by omega, y.2⟩)
              simp (disch := omega) only [w32_eq, gI_eq, gB_eq, g0_eq, ix_nat, ix_eq, bd_some, bv_some, Int.toNat_natCast, Int.toNat_zero, sF_1, sF_2, sA_1, sA_2, sR_1, sR_2, ↓reduceIte, if_pos, if_neg]; exact this)
        refine ⟨s', ?_, q2, q3, q4⟩
        rw [if_pos ((hfr i hiP).mpr c), hg]
        simp (disch := omega) only [w32_eq, gI_eq, gB_eq, g0_eq, ix_nat, ix_eq, bd_some, bv_some, Int.toNat_natCast, Int.toNat_zero, sF_1, sF_2, sA_1, sA_2, sR_1, sR_2, ↓reduceIte, if_pos, if_neg, b3, hr]
        rw [t1, bv_some]
        exact q1
      · obtain ⟨s', q1, q2, q3, q4⟩ := ih (i + 1) s t hs kc k1 kr hg (by omega) (by omega) (fun q hq1 => by
          have w := hinv q hq1
          by_cases eq : q = i
          · subst eq
            exact ⟨fun z => absurd z.2 c, fun _ => w.2 (fun z => c z.2)⟩
          · exact ⟨fun z => w.1 ⟨by omega, z.2⟩, fun z => w.2 (fun y => z ⟨by omega, y.2⟩)⟩)
        refine ⟨s', ?_, q2, q3, q4⟩
        rw [if_neg (fun z => c ((hfr i hiP).mp z))]
        simp (disch := omega) only [w32_eq, gI_eq, gB_eq, g0_eq, ix_nat, ix_eq, bd_some, bv_some, Int.toNat_natCast, Int.toNat_zero, sF_1, sF_2, sA_1, sA_2, sR_1, sR_2, ↓reduceIte, if_pos, if_neg, b3]
        exact q1
/-- the reference's second loop: who had been moved is set back -/
theorem back_loop {gg : Int} (hgg : rg gg) : ∀ (f i : Nat) (ρ : St), ρ.1 2 = P → P ≤ 16 → (∀ q : Nat, q < P → rg (ρ.2 4 q)) → i ≤ P → P - i < f →
    ∃ ρ' : St, fX11_moveInto_L129 f gg 0 (i : Int) ρ = some (0, ρ') ∧ Kr ρ ρ' ∧ ρ'.2 12 = ρ.2 12 ∧ (∀ q : Nat, q < P → ((i ≤ q ∧ ρ.2 4 q = gg) → ρ'.2 7 q = -1) ∧ (¬ (i ≤ q ∧ ρ.2 4 q = gg) → ρ'.2 7 q = ρ.2 7 q)) := by
  have hgg0 := hgg
  unfold rg at hgg0
  intro f
  induction f with
  | zero => intro i ρ _ _ _ _ h; omega
  | succ f ih =>
    intro i ρ h2 hP hG hi hf
    have e0 : fX11_moveInto_L129 (f + 1) gg 0 (i : Int) ρ = fX11_moveInto_B129 (fX11_moveInto_L129 f) gg 0 (i : Int) ρ := rfl
    rw [e0]
    unfold fX11_moveInto_B129
    by_cases e : i = P
    · subst e
      refine ⟨ρ, by simp (disch := omega) only [w32_eq, gI_eq, gB_eq, g0_eq, ix_nat, ix_eq, bd_some, bv_some, Int.toNat_natCast, Int.toNat_zero, sF_1, sF_2, sA_1, sA_2, sR_1, sR_2, ↓reduceIte, if_pos, if_neg, h2], Kr.rf, rfl, fun q hq => ⟨fun z => by omega, fun _ => rfl⟩⟩
    · have hiP : i < P := by omega
      have gi := hG i hiP
      unfold rg at gi
      by_cases c : ρ.2 4 i = gg
      · obtain ⟨ρ', q1, q2, q3, q4⟩ := ih (i + 1) (sA ρ 7 i (-1)) h2 hP hG (by omega) (by omega)
        refine ⟨ρ', ?_, Kr.tr (Kr_sA ρ i (-1)) q2, q3, fun q hq => ?_⟩
        · simp (disch := omega) only [w32_eq, gI_eq, gB_eq, g0_eq, ix_nat, ix_eq, bd_some, bv_some, Int.toNat_natCast, Int.toNat_zero, sF_1, sF_2, sA_1, sA_2, sR_1, sR_2, ↓reduceIte, if_pos, if_neg, h2]
          exact q1
        · have w := q4 q hq
          by_cases eq : q = i
          · subst eq
            refine ⟨fun _ => ?_, fun z => absurd ⟨Nat.le_refl _, c⟩ z⟩
            rw [w.2 (fun z => by omega)]
            simp (disch := omega) only [w32_eq, gI_eq, gB_eq, g0_eq, ix_nat, ix_eq, bd_some, bv_some, Int.toNat_natCast, Int.toNat_zero, sF_1, sF_2, sA_1, sA_2, sR_1, sR_2, ↓reduceIte, if_pos, if_neg]
          · refine ⟨fun z => w.1 ⟨by omega, z.2⟩, fun z => ?_⟩
            rw [w.2 (fun y => z ⟨by omega, y.2⟩)]
            simp (disch := omega) only [w32_eq, gI_eq, gB_eq, g0_eq, ix_nat, ix_eq, bd_some, bv_some, Int.toNat_natCast, Int.toNat_zero, sF_1, sF_2, sA_1, sA_2, sR_1, sR_2, ↓reduceIte, if_pos, if_neg]
      · obtain ⟨ρ', q1, q2, q3, q4⟩ := ih (i + 1) ρ h2 hP hG (by omega) (by omega)
        refine ⟨ρ', ?_, q2, q3, fun q hq => ?_⟩
        · simp (disch := omega) only [w32_eq, gI_eq, gB_eq, g0_eq, ix_nat, ix_eq, bd_some, bv_some, Int.toNat_natCast, Int.toNat_zero, sF_1, sF_2, sA_1, sA_2, sR_1, sR_2, ↓reduceIte, if_pos, if_neg, h2]
          rw [sA_id ρ 7 i rfl]
          exact q1
        · have w := q4 q hq
          by_cases eq : q = i
          · subst eq
            exact ⟨fun z => absurd z.2 c, fun _ => w.2 (fun z => by omega)⟩
          · exact ⟨fun z => w.1 ⟨by omega, z.2⟩, fun z => w.2 (fun y => z ⟨by omega, y.2⟩)⟩
theorem stay_eq {gg : Int} {ρ : St} (h2 : ρ.1 2 = P) (hP : P ≤ 16) : fX11_moveInto_L129 1000 gg 1 0 ρ = some (1, ρ) := by
  show fX11_moveInto_B129 (fX11_moveInto_L129 999) gg 1 0 ρ = _
  unfold fX11_moveInto_B129
  by_cases e : P = 0
  · simp (disch := omega) only [w32_eq, gI_eq, gB_eq, g0_eq, ix_nat, ix_eq, bd_some, bv_some, Int.toNat_natCast, Int.toNat_zero, sF_1, sF_2, sA_1, sA_2, sR_1, sR_2, ↓reduceIte, if_pos, if_neg, h2]
  · simp (disch := omega) only [w32_eq, gI_eq, gB_eq, g0_eq, ix_nat, ix_eq, bd_some, bv_some, Int.toNat_natCast, Int.toNat_zero, sF_1, sF_2, sA_1, sA_2, sR_1, sR_2, ↓reduceIte, if_pos, if_neg, h2]
/-- a HOUSE is tried for a GROUP -/
theorem house_eq {σ ρ : St} (h : Dl σ ρ R P N T B) {p : Nat} {fr hh gg : Int} (hp : p < P) (hfr : ∀ k : Nat, k < P → (tb fr k = true ↔ ρ.2 4 k = gg)) (hgg : rg gg) (hr : rg hh) (hno : ∀ q : Nat, q < P → ρ.2 4 q = gg → ρ.2 7 q = -1) :
    ∃ v : Int, fX5_under σ hh = some (v, σ) ∧
    ((∃ (s1 s' ρ' : St), fX0_pickAmong σ v fr = some (1, s1) ∧ fX0_settlePicks s1 fr = some s' ∧ fX11_moveInto ρ gg hh = some (1, ρ') ∧ Dl s' ρ' R P N T B ∧ Kc σ s' ∧ Kr ρ ρ' ∧ (∀ k : Nat, k ≠ 2 → s'.1 k = σ.1 k) ∧ ρ'.2 12 = ρ.2 12 ∧ (∀ q : Nat, q < P → ρ.2 4 q ≠ gg → ρ'.2 7 q = ρ.2 7 q)) ∨
     (∃ (s' ρ' : St), fX0_pickAmong σ v fr = some (0, s') ∧ fX11_moveInto ρ gg hh = some (0, ρ') ∧ Dl s' ρ' R P N T B ∧ Kc σ s' ∧ Kr ρ ρ' ∧ (∀ k : Nat, k ≠ 2 → s'.1 k = σ.1 k) ∧ ρ'.2 12 = ρ.2 12 ∧ (∀ q : Nat, q < P → ρ'.2 7 q = ρ.2 7 q))) := by
  obtain ⟨hC, hL, hH⟩ := id h
  have b2 := hC.1.2.1
  have b4 := hC.1.2.2.2.1
  have p1 := hC.2.2.2.1.1
  have gr : ∀ q : Nat, q < P → rg (ρ.2 4 q) := fun q hq => by have := (hC.2.2.2.1.2 q hq).2.2.2; unfold rg; omega
  obtain ⟨v, v1, v2⟩ := under_eq hC hr
  refine ⟨v, v2, ?_⟩
  have pl := pick_loop h hp hfr hgg hr 1000 1000 0 (σ.2 17) v σ ρ h Kc.rf Kr.rf rfl (by omega) (by omega) (by omega) (fun q hq => ⟨fun z => by omega, fun _ => rfl⟩) (fun q _ h2 h3 => hno q h2 h3) (fun k hk => by
    rw [v1 k (by omega)]
    constructor
    · intro z; exact ⟨z.1.2, z.2⟩
    · intro z; exact ⟨⟨hk, z.1⟩, z.2⟩) (fun k h1 h2 => by
    cases ht : tb v k with
    | false => rfl
    | true => have := (v1 k h2).mp ht; omega)
  rw [sR_self] at pl
  rcases pl with ⟨g', ρ', σv, a1, a2, a3, a4, a5, a6, a7⟩ | ⟨g', ρ', a1, a2, a3, a4, a5⟩
  · left
    have d1 : Dl (sR σ 17 g') ρ R P N T B := Dl_keep h (Kc_sR17 σ g') Kr.rf rfl (IL_keep hL rfl rfl rfl)
    obtain ⟨s', q1, q2, q3, q4⟩ := settle_loop h a3 a5 hfr hno a7 1000 0 (sR σ 17 g') ρ d1 (Kc_sR17 σ g') (fun _ _ => rfl) Kr.rf rfl (by omega) (by omega) (fun q hq => ⟨fun z => by omega, fun _ => rfl⟩)
    refine ⟨sR σ 17 g', s', ρ', a1, q1, ?_, q2, q3, a5, q4, a6, fun q hq z => (a7 q hq).2 z⟩
    exact a2.trans (stay_eq (by rw [a5.1 2 (by decide)]; exact p1) b4)
  · right
    have r4 : ρ'.2 4 = ρ.2 4 := a3.2 4 (by decide) (by decide)
    obtain ⟨ρ2, q1, q2, q3, q4⟩ := back_loop hgg 1000 0 ρ' (by rw [a3.1 2 (by decide)]; exact p1) b4 (by rw [r4]; exact gr) (by omega) (by omega)
    have same : ∀ q : Nat, q < P → ρ2.2 7 q = ρ.2 7 q := by
      intro q hq
      by_cases c : ρ.2 4 q = gg
      · rw [(q4 q hq).1 ⟨by omega, by rw [r4]; exact c⟩, hno q hq c]
      · rw [(q4 q hq).2 (fun z => c (by rw [← r4]; exact z.2)), a5 q hq c]
    refine ⟨sR σ 17 g', ρ2, a1, a2.trans q1, ?_, Kc_sR17 σ g', Kr.tr a3 q2, fun _ _ => rfl, q3.trans a4, same⟩
    exact Dl_keep h (Kc_sR17 σ g') (Kr.tr a3 q2) rfl (IL_congr (IL_keep hL rfl rfl rfl) same)
/-- the HOUSES of one's WISHES are tried for the GROUP, the dearest first -/
theorem tog_loop {G : Nat → Int} {p : Nat} {fr : Int} (hp : p < P) (hfr : ∀ k : Nat, k < P → (tb fr k = true ↔ G k = G p)) :
    ∀ (f n k : Nat) (σ ρ : St), Dl σ ρ R P N T B → ρ.2 4 = G → (k : Int) ≤ ρ.2 5 p → 8 - k < f → 9 - k < n → (∀ q : Nat, q < P → G q = G p → ρ.2 7 q = -1) →
    ∃ (b : Int) (σ' ρ' : St), (b = 0 ∨ b = 1) ∧ fX0_settleTogether_L2 f (p : Int) fr (k : Int) σ = some (b, σ') ∧ (∀ (k27 : Int → Int → St → Option (Int × St)) (d v2 : Int), fX11_deal_L94 k27 n d v2 (p : Int) 0 (k : Int) ρ = fX11_deal_L148 k27 1000 d v2 (p : Int) b 0 ρ') ∧ Dl σ' ρ' R P N T B ∧ Kc σ σ' ∧ Kr ρ ρ' ∧ (∀ k : Nat, k ≠ 2 → σ'.1 k = σ.1 k) ∧ ρ'.2 12 = ρ.2 12 ∧ (∀ q : Nat, q < P → G q ≠ G p → ρ'.2 7 q = ρ.2 7 q) ∧ (b = 0 → ∀ q : Nat, q < P → ρ'.2 7 q = ρ.2 7 q) := by
  intro f
  induction f with
  | zero => intro n k σ ρ _ _ _ h; omega
  | succ f ih =>
    intro n k σ ρ h hg hk hf hn hno
    obtain ⟨n, rfl⟩ : ∃ n' : Nat, n = n' + 1 := ⟨n - 1, by omega⟩
    obtain ⟨hC, hL, hH⟩ := id h
    obtain ⟨hB, hR, hS, hP, hW, hK, hT, hN, hQ, hX⟩ := id hC
    obtain ⟨b1, b2, b3, b4, b5⟩ := id hB
    obtain ⟨w1, w2, w3⟩ := hW.1 p hp
    have gr : ∀ q : Nat, q < P → rg (ρ.2 4 q) := fun q hq => by have := (hP.2 q hq).2.2.2; unfold rg; omega
    have e0 : fX0_settleTogether_L2 (f + 1) (p : Int) fr (k : Int) σ = fX0_settleTogether_B2 (fX0_settleTogether_L2 f) (p : Int) fr (k : Int) σ := rfl
    have e1 : ∀ (k27 : Int → Int → St → Option (Int × St)) (d v2 : Int), fX11_deal_L94 k27 (n + 1) d v2 (p : Int) 0 (k : Int) ρ = fX11_deal_B94 k27 (fX11_deal_L94 k27 n) d v2 (p : Int) 0 (k : Int) ρ := fun _ _ _ => rfl
    rw [e0]
    unfold fX0_settleTogether_B2
    rw [wishesOf_t hB hp, w1, bd_some]
    by_cases e : (k : Int) = ρ.2 5 p
    · refine ⟨0, σ, ρ, Or.inl rfl, by simp (disch := omega) only [w32_eq, gI_eq, gB_eq, g0_eq, ix_nat, ix_eq, bd_some, bv_some, Int.toNat_natCast, Int.toNat_zero, sF_1, sF_2, sA_1, sA_2, sR_1, sR_2, ↓reduceIte, if_pos, if_neg], fun k27 d v2 => ?_, h, Kc.rf, Kr.rf, fun _ _ => rfl, rfl, fun _ _ _ => rfl, fun _ _ _ => rfl⟩
      rw [e1]; unfold fX11_deal_B94
      simp (disch := omega) only [w32_eq, gI_eq, gB_eq, g0_eq, ix_nat, ix_eq, bd_some, bv_some, Int.toNat_natCast, Int.toNat_zero, sF_1, sF_2, sA_1, sA_2, sR_1, sR_2, ↓reduceIte, if_pos, if_neg]
    · obtain ⟨x1, x2, x3⟩ := w3 k (by omega)
      obtain ⟨z, hz⟩ : ∃ z : Nat, ρ.2 6 (p * 8 + k) = z := ⟨(ρ.2 6 (p * 8 + k)).toNat, by omega⟩
      have hzR : z < R := by omega
      obtain ⟨y1, y2, _⟩ := hR.2 z hzR
      have ewa : fX3_wishAt σ (p : Int) (k : Int) = some ((z : Int), σ) := by rw [wishAt_t hB hp (by omega) (by omega), x1, hz]
      have e8 : (8 * (p : Int) + (k : Int)).toNat = p * 8 + k := by omega
      obtain ⟨v, u1, u2⟩ := house_eq h hp (fr := fr) (hh := ρ.2 0 z) (gg := G p) (by rw [hg]; exact hfr) (by have := gr p hp; rw [hg] at this; exact this) (by unfold rg; omega) (by rw [hg]; exact hno)
      rw [ewa, bd_some, houseOf_t hB hzR, bd_some, y1, u1, bd_some]
      have eR : ∀ (b : Int) (ρ' : St), fX11_moveInto ρ (G p) (ρ.2 0 z) = some (b, ρ') → ∀ (k27 : Int → Int → St → Option (Int × St)) (d v2 : Int), fX11_deal_L94 k27 (n + 1) d v2 (p : Int) 0 (k : Int) ρ = fX11_deal_L94 k27 n d v2 (p : Int) b ((k + 1 : Nat) : Int) ρ' := by
        intro b ρ' hb k27 d v2
        rw [e1]; unfold fX11_deal_B94
        simp (disch := omega) only [w32_eq, gI_eq, gB_eq, g0_eq, ix_nat, ix_eq, bd_some, bv_some, Int.toNat_natCast, Int.toNat_zero, sF_1, sF_2, sA_1, sA_2, sR_1, sR_2, ↓reduceIte, if_pos, if_neg, e8, hz, hg, hb]
        rfl
      rcases u2 with ⟨s1, s', ρ', a1, a2, a3, a4, a5, a6, a7, a8, a9⟩ | ⟨s', ρ', a1, a3, a4, a5, a6, a7, a8, a9⟩
      · refine ⟨1, s', ρ', Or.inr rfl, ?_, fun k27 d v2 => ?_, a4, a5, a6, a7, a8, fun q hq c => a9 q hq (by rw [hg]; exact c), fun z => by omega⟩
        · rw [a1, bd_some, a2, bv_some]
          simp (disch := omega) only [w32_eq, gI_eq, gB_eq, g0_eq, ix_nat, ix_eq, bd_some, bv_some, Int.toNat_natCast, Int.toNat_zero, sF_1, sF_2, sA_1, sA_2, sR_1, sR_2, ↓reduceIte, if_pos, if_neg]
        · rw [eR 1 ρ' a3]
          obtain ⟨n, rfl⟩ : ∃ n' : Nat, n = n' + 1 := ⟨n - 1, by omega⟩
          show fX11_deal_B94 k27 (fX11_deal_L94 k27 n) d v2 (p : Int) 1 ((k + 1 : Nat) : Int) ρ' = _
          unfold fX11_deal_B94
          have r5 : ρ'.2 5 = ρ.2 5 := a6.2 5 (by decide) (by decide)
          rw [r5]
          by_cases c4 : ρ.2 5 p ≤ ((k + 1 : Nat) : Int)
          · simp (disch := omega) only [w32_eq, gI_eq, gB_eq, g0_eq, ix_nat, ix_eq, bd_some, bv_some, Int.toNat_natCast, Int.toNat_zero, sF_1, sF_2, sA_1, sA_2, sR_1, sR_2, ↓reduceIte, if_pos, if_neg]
          · simp (disch := omega) only [w32_eq, gI_eq, gB_eq, g0_eq, ix_nat, ix_eq, bd_some, bv_some, Int.toNat_natCast, Int.toNat_zero, sF_1, sF_2, sA_1, sA_2, sR_1, sR_2, ↓reduceIte, if_pos, if_neg]
      · have r5 : ρ'.2 5 = ρ.2 5 := a6.2 5 (by decide) (by decide)
        have r4 : ρ'.2 4 = ρ.2 4 := a6.2 4 (by decide) (by decide)
        obtain ⟨b, σ2, ρ2, q1, q2, q3, q4, q5, q6, q7, q8, q9, q10⟩ := ih n (k + 1) s' ρ' a4 (r4.trans hg) (by rw [r5]; omega) (by omega) (by omega) (fun q hq c => by rw [a9 q hq]; exact hno q hq c)
        refine ⟨b, σ2, ρ2, q1, ?_, fun k27 d v2 => ?_, q4, Kc.tr a5 q5, Kr.tr a6 q6, fun k hk => (q7 k hk).trans (a7 k hk), q8.trans a8, fun q hq c => (q9 q hq c).trans (a9 q hq), fun hb q hq => (q10 hb q hq).trans (a9 q hq)⟩
        · rw [a1, bd_some]
          simp (disch := omega) only [w32_eq, gI_eq, gB_eq, g0_eq, ix_nat, ix_eq, bd_some, bv_some, Int.toNat_natCast, Int.toNat_zero, sF_1, sF_2, sA_1, sA_2, sR_1, sR_2, ↓reduceIte, if_pos, if_neg]
          exact q2
        · rw [eR 0 ρ' a3]
          exact q3 k27 d v2
/-- a GROUP that has moved is only marked -/
theorem mark_loop {G : Nat → Int} {p : Nat} (hp : p < P) (hG : ∀ k : Nat, k < P → rg (G k)) {ρ : St} (h2 : ρ.1 2 = P) (hP : P ≤ 16) (hg : ρ.2 4 = G) : ∀ (n i : Nat) (d : Int), i ≤ P → P - i < n →
    ∃ d' : Int, (∀ (k27 : Int → Int → St → Option (Int × St)) (v2 : Int), fX11_deal_L148 k27 n d v2 (p : Int) 1 (i : Int) ρ = k27 d' (v2 + 1) ρ) ∧ (∀ k : Nat, k < 32 → (tb d' k = true ↔ tb d k = true ∨ (i ≤ k ∧ k < P ∧ G k = G p))) := by
  intro n
  induction n with
  | zero => intro i d _ h; omega
  | succ n ih =>
    intro i d hi hn
    have e1 : ∀ (k27 : Int → Int → St → Option (Int × St)) (v2 : Int), fX11_deal_L148 k27 (n + 1) d v2 (p : Int) 1 (i : Int) ρ = fX11_deal_B148 k27 (fX11_deal_L148 k27 n) d v2 (p : Int) 1 (i : Int) ρ := fun _ _ => rfl
    by_cases e : i = P
    · subst e
      refine ⟨d, fun k27 v2 => ?_, fun k hk => ?_⟩
      · rw [e1]; unfold fX11_deal_B148
        simp (disch := omega) only [w32_eq, gI_eq, gB_eq, g0_eq, ix_nat, ix_eq, bd_some, bv_some, Int.toNat_natCast, Int.toNat_zero, sF_1, sF_2, sA_1, sA_2, sR_1, sR_2, ↓reduceIte, if_pos, if_neg, h2]
      · constructor
        · intro z; exact Or.inl z
        · rintro (z | z)
          · exact z
          · omega
    · have hiP : i < P := by omega
      have gi := hG i hiP
      have gp := hG p hp
      unfold rg at gi gp
      by_cases c : G i = G p
      · obtain ⟨d', s2, s4⟩ := ih (i + 1) (bOr d (bShl 1 (i : Int))) (by omega) (by omega)
        refine ⟨d', fun k27 v2 => ?_, fun k hk => ?_⟩
        · rw [e1]; unfold fX11_deal_B148
          rw [hg, ← s2 k27 v2]
          simp (disch := omega) only [w32_eq, gI_eq, gB_eq, g0_eq, ix_nat, ix_eq, bd_some, bv_some, Int.toNat_natCast, Int.toNat_zero, sF_1, sF_2, sA_1, sA_2, sR_1, sR_2, ↓reduceIte, if_pos, if_neg, h2]
          rfl
        · rw [s4 k hk, tb_or, tb_shl1 (by omega), Bool.or_eq_true, decide_eq_true_eq]
          constructor
          · rintro ((z | z) | z)
            · exact Or.inl z
            · subst z; exact Or.inr ⟨Nat.le_refl _, hiP, c⟩
            · exact Or.inr ⟨by omega, z.2⟩
          · rintro (z | z)
            · exact Or.inl (Or.inl z)
            · by_cases ek : k = i
              · exact Or.inl (Or.inr ek)
              · exact Or.inr ⟨by omega, z.2⟩
      · obtain ⟨d', s2, s4⟩ := ih (i + 1) d (by omega) (by omega)
        refine ⟨d', fun k27 v2 => ?_, fun k hk => ?_⟩
        · rw [e1]; unfold fX11_deal_B148
          rw [hg, ← s2 k27 v2]
          simp (disch := omega) only [w32_eq, gI_eq, gB_eq, g0_eq, ix_nat, ix_eq, bd_some, bv_some, Int.toNat_natCast, Int.toNat_zero, sF_1, sF_2, sA_1, sA_2, sR_1, sR_2, ↓reduceIte, if_pos, if_neg, h2]
          rfl
        · rw [s4 k hk]
          constructor
          · rintro (z | z)
            · exact Or.inl z
            · exact Or.inr ⟨by omega, z.2⟩
          · rintro (z | z)
            · exact Or.inl z
            · by_cases ek : k = i
              · subst ek; exact absurd z.2.2 c
              · exact Or.inr ⟨by omega, z.2⟩
end ETOG
