section EMAYX
variable {σ ρ : St} {R P N T B : Nat}
/-- whether a person MAY live in a ROOM, by the class's cells -/
def mBx (st te aw br : Int) (r12 r13 r14 r15 : Nat → Int) (y mi s h : Int) : Bool := if tb st h.toNat = true then false else if te = 0 ∨ br ≠ -1 ∨ aw ≤ 2 then true else (sa r12 r13 r14 r15 te.toNat y mi s h te.toNat).1
def mB (σ : St) (p r : Nat) : Bool := mBx (σ.1 1) (σ.1 5) (σ.1 6) (σ.1 7) (σ.2 12) (σ.2 13) (σ.2 14) (σ.2 15) (σ.2 5 p) (σ.2 2 r) (σ.2 3 r) (σ.2 1 r)
theorem b01_01 (b : Bool) : b01 b = 0 ∨ b01 b = 1 := by unfold b01; split <;> omega
theorem b01_rg (b : Bool) : w32 (b01 b) = b01 b := w32_eq (by have := b01_01 b; omega)
/-- the reference's reading of the TESTS -/
theorem mayR_loop {p r m n0 d0 : Nat} {ps : Nat → Nat} (b4 : P ≤ 16) (b2 : R ≤ 24) (hR : IR σ ρ R) (hP : IP σ ρ P) (hp : p < P) (hr : r < R) (hB : ρ.1 3 = B) (hB6 : B ≤ 60) (hc : ∀ i : Nat, i < B → 32 ≤ ρ.2 11 i ∧ ρ.2 11 i ≤ 126) (q2 : ps 0 = 0) (q4 : ∀ n : Nat, n + 1 < m → T2 σ (ρ.2 11) n (ps n) (ps (n + 1)) (σ.2 15 (n + 1))) (a2 : m = n0 + 1) (a3 : B = ps n0 + 2 + d0) (hd0 : 1 ≤ d0) (a4 : T1 σ (ρ.2 11) n0 (ps n0) d0) :
    ∀ (f n : Nat), n ≤ m → m - n < f → fX11_mayLive_L44 f (p : Int) (r : Int) (b01 (sa (σ.2 12) (σ.2 13) (σ.2 14) (σ.2 15) m (ρ.2 3 p) (ρ.2 1 r) (ρ.2 2 r) (ρ.2 0 r) n).1) (b01 (sa (σ.2 12) (σ.2 13) (σ.2 14) (σ.2 15) m (ρ.2 3 p) (ρ.2 1 r) (ρ.2 2 r) (ρ.2 0 r) n).2) (((if n = m then B + 1 else ps n) : Nat) : Int) ρ = some (b01 (sa (σ.2 12) (σ.2 13) (σ.2 14) (σ.2 15) m (ρ.2 3 p) (ρ.2 1 r) (ρ.2 2 r) (ρ.2 0 r) m).1, ρ) := by
  have gr := ps_grow (z := fun k => σ.2 15 (k + 1)) q2 (L := n0) (fun k hk => q4 k (by omega))
  intro f
  induction f with
  | zero => intro n _ h; omega
  | succ f ih =>
    intro n hn hf
    generalize hso : (sa (σ.2 12) (σ.2 13) (σ.2 14) (σ.2 15) m (ρ.2 3 p) (ρ.2 1 r) (ρ.2 2 r) (ρ.2 0 r) n).1 = so
    generalize hal : (sa (σ.2 12) (σ.2 13) (σ.2 14) (σ.2 15) m (ρ.2 3 p) (ρ.2 1 r) (ρ.2 2 r) (ρ.2 0 r) n).2 = al
    generalize hpl : ((if n = m then B + 1 else ps n) : Nat) = pl
    have e0 : fX11_mayLive_L44 (f + 1) (p : Int) (r : Int) (b01 so) (b01 al) (pl : Int) ρ = fX11_mayLive_B44 (fX11_mayLive_L44 f) (p : Int) (r : Int) (b01 so) (b01 al) (pl : Int) ρ := rfl
    rw [e0]
    unfold fX11_mayLive_B44
    have h01 := b01_01 so
    by_cases e : n = m
    · subst e
      rw [if_pos rfl] at hpl
      rw [hso]
      simp (disch := omega) only [w32_eq, gI_eq, gB_eq, g0_eq, ix_nat, ix_eq, bd_some, bv_some, Int.toNat_natCast, Int.toNat_zero, sF_1, sF_2, sA_1, sA_2, sR_1, sR_2, ↓reduceIte, if_pos, if_neg, hB]
    · rw [if_neg e] at hpl
      have key : ∃ d : Nat, 1 ≤ d ∧ T1 σ (ρ.2 11) n (ps n) d ∧ ps n + 2 + d ≤ B ∧ (ps n + 2 + d = B ∨ ρ.2 11 (ps n + 2 + d) = 124 ∨ ρ.2 11 (ps n + 2 + d) = 38) ∧ ((ps n + 2 + d = B ∨ ρ.2 11 (ps n + 2 + d) = 124) ↔ (n + 1 = m ∨ σ.2 15 (n + 1) = 1)) ∧ ps n + 2 + d + 1 = (if n + 1 = m then B + 1 else ps (n + 1)) := by
        by_cases e1 : n + 1 = m
        · have : n = n0 := by omega
          subst this
          exact ⟨d0, hd0, a4, by omega, Or.inl (by omega), ⟨fun _ => Or.inl e1, fun _ => Or.inl (by omega)⟩, by rw [if_pos e1]; omega⟩
        · obtain ⟨d, z1, z2, z3, z4⟩ := q4 n (by omega)
          have g1 := (gr n0 (Nat.le_refl _)).2 (n + 1) (by omega)
          refine ⟨d, z1, z2, by omega, by omega, ⟨fun z => ?_, fun z => ?_⟩, by rw [if_neg e1]; omega⟩
          · right; omega
          · right; omega
      obtain ⟨d, k1, k2, k3, k4, k5, k6⟩ := key
      obtain ⟨t1, t2, t3, t4, t5, t6, t7⟩ := id k2
      have hh := holdsR_eq (a := ps n) (d := d) b4 b2 hR hP hp hr (by omega) t3 t1 t2 t4
      have en := endR_loop (fX11_mayLive_L44 f) (p := (p : Int)) (r := (r : Int)) (so := b01 so) (al := b01 al) (a := ps n) (d := d) hB hB6 k3 hc t4 k4 1000 1 (by omega) (by omega)
      have te := testR (fX11_mayLive_L44 f) (so := so) (al := al) hB hB6 k3 hh hc
      have nxt := ih (n + 1) (by omega) (by omega)
      rw [sa_succ, hso, hal, t5, t6, t7] at nxt
      rw [te] at en
      subst hpl
      have ew : fX11_mayLive_L59 (fX11_mayLive_L44 f) 1000 (p : Int) (r : Int) (b01 so) (b01 al) (ps n : Int) ((ps n : Int) + 3) ρ = _ := en
      simp (disch := omega) only [w32_eq, gI_eq, gB_eq, g0_eq, ix_nat, ix_eq, bd_some, bv_some, Int.toNat_natCast, Int.toNat_zero, sF_1, sF_2, sA_1, sA_2, sR_1, sR_2, ↓reduceIte, if_pos, if_neg, hB]
      rw [ew]
      rw [← k6] at nxt
      by_cases c : n + 1 = m ∨ σ.2 15 (n + 1) = 1
      · rw [if_pos c] at nxt
        rw [if_pos (k5.mpr c)]
        exact nxt
      · rw [if_neg c] at nxt
        rw [if_neg (fun z => c (k5.mp z))]
        exact nxt
theorem may_eq (hB : Bs σ R P) (hR : IR σ ρ R) (hS : IS σ ρ) (hP : IP σ ρ P) (hX : IX σ ρ B) {p r : Nat} (hp : p < P) (hr : r < R) : fX7_suits σ (p : Int) (r : Int) = some (b01 (mB σ p r), σ) ∧ fX11_mayLive ρ (p : Int) (r : Int) = some (b01 (mB σ p r), ρ) := by
  obtain ⟨b1, b2, b3, b4, b5⟩ := id hB
  obtain ⟨s1, s2, s3⟩ := id hS
  obtain ⟨r1, r2, r3, r4, r5, r6⟩ := hR.2 r hr
  obtain ⟨p1, p2, p3, p4⟩ := hP.2 p hp
  obtain ⟨x1, x2, x3, x4, x5⟩ := id hX
  obtain ⟨h, hh⟩ : ∃ h : Nat, ρ.2 0 r = h := ⟨(ρ.2 0 r).toNat, by omega⟩
  have r1h : σ.2 1 r = h := r1.trans hh
  have es : tb (σ.1 1) (σ.2 1 r).toNat = tb (ρ.1 1) h := by rw [s1, r1h, Int.toNat_natCast]
  have ecl : fX7_suits σ (p : Int) (r : Int) = if tb (ρ.1 1) h = true then some (0, σ) else bd (fX6_allows σ (ρ.2 3 p) (ρ.2 1 r) (ρ.2 2 r) (h : Int)) fun a s => gB a (some (a, s)) := by
    unfold fX7_suits fX7_suits_L0
    rw [pHas_t hB (by omega), bd_some, rHas_t hB (by omega), bd_some]
    simp (disch := omega) only [w32_eq, gI_eq, gB_eq, g0_eq, ix_nat, ix_eq, bd_some, bv_some, Int.toNat_natCast, Int.toNat_zero, sF_1, sF_2, sA_1, sA_2, sR_1, sR_2, ↓reduceIte, if_pos, if_neg]
    rw [r1h, isStruck_t (by omega), bd_some, s1]
    by_cases c : tb (ρ.1 1) h = true
    · rw [if_pos c, if_pos c]
      simp (disch := omega) only [w32_eq, gI_eq, gB_eq, g0_eq, ix_nat, ix_eq, bd_some, bv_some, Int.toNat_natCast, Int.toNat_zero, sF_1, sF_2, sA_1, sA_2, sR_1, sR_2, ↓reduceIte, if_pos, if_neg]
    · rw [if_neg c, if_neg c]
      simp (disch := omega) only [w32_eq, gI_eq, gB_eq, g0_eq, ix_nat, ix_eq, bd_some, bv_some, Int.toNat_natCast, Int.toNat_zero, sF_1, sF_2, sA_1, sA_2, sR_1, sR_2, ↓reduceIte, if_pos, if_neg]
      rw [p1, r3, r5, r1h]
  have erf : fX11_mayLive ρ (p : Int) (r : Int) = if tb (ρ.1 1) h = true then some (0, ρ) else if B = 0 then some (1, ρ) else bd (fX11_fault ρ) fun a s => if w32 a = -1 then fX11_mayLive_L44 1000 (p : Int) (r : Int) 0 1 0 s else some (1, s) := by
    unfold fX11_mayLive fX11_mayLive_L0
    simp (disch := omega) only [w32_eq, gI_eq, gB_eq, g0_eq, ix_nat, ix_eq, bd_some, bv_some, Int.toNat_natCast, Int.toNat_zero, sF_1, sF_2, sA_1, sA_2, sR_1, sR_2, ↓reduceIte, if_pos, if_neg]
    rw [hh, w32_bAnd, bShr_bit _ (by omega)]
    by_cases c : tb (ρ.1 1) h = true
    · rw [if_pos c, if_pos c]
      simp (disch := omega) only [w32_eq, gI_eq, gB_eq, g0_eq, ix_nat, ix_eq, bd_some, bv_some, Int.toNat_natCast, Int.toNat_zero, sF_1, sF_2, sA_1, sA_2, sR_1, sR_2, ↓reduceIte, if_pos, if_neg]
    · rw [if_neg c, if_neg c]
      by_cases c2 : B = 0
      · simp (disch := omega) only [w32_eq, gI_eq, gB_eq, g0_eq, ix_nat, ix_eq, bd_some, bv_some, Int.toNat_natCast, Int.toNat_zero, sF_1, sF_2, sA_1, sA_2, sR_1, sR_2, ↓reduceIte, if_pos, if_neg, x2]
      · simp (disch := omega) only [w32_eq, gI_eq, gB_eq, g0_eq, ix_nat, ix_eq, bd_some, bv_some, Int.toNat_natCast, Int.toNat_zero, sF_1, sF_2, sA_1, sA_2, sR_1, sR_2, ↓reduceIte, if_pos, if_neg, x2]
  rw [ecl, erf]
  by_cases c : tb (ρ.1 1) h = true
  · have em : mB σ p r = false := by unfold mB mBx; rw [es, if_pos c]
    rw [if_pos c, if_pos c, em]
    exact ⟨rfl, rfl⟩
  · rw [if_neg c, if_neg c]
    obtain ⟨fr, f1, f2, f3⟩ := fault_eq hX
    unfold fX6_allows fX6_allows_L0
    rcases f3 with ⟨g1, g2, g3, g4, m, ps, g5⟩ | ⟨g1, g2, g3⟩
    · obtain ⟨q1, q2, q3, q4, q5⟩ := id g5
      by_cases h0 : B = 0
      · -- empty
        have m0 : m = 0 := by
          rcases q5 with ⟨y1, y2, y3, y4⟩ | ⟨y1, n, y2, y3, y4⟩ | ⟨n, d, y2, y1, y3, y4⟩
          · by_cases e : m = 0
            · exact e
            · have gr := (ps_grow (z := fun n => if n + 1 = m then σ.1 8 else σ.2 15 (n + 1)) q2 (L := m) (fun n hn => by
                by_cases e : n + 1 = m
                · have := y4 n e
                  simp only [if_pos e]; rw [e]; exact this
                · simp only [if_neg e]; exact q4 n (by omega))) m (Nat.le_refl m)
              omega
          · omega
          · omega
        have em : mB σ p r = true := by
          unfold mB mBx
          rw [es, if_neg c, if_pos (Or.inl (by rw [q1, m0]; rfl))]
        rw [em, if_pos h0]
        refine ⟨?_, rfl⟩
        rw [q1, m0]
        simp (disch := omega) only [w32_eq, gI_eq, gB_eq, g0_eq, ix_nat, ix_eq, bd_some, bv_some, Int.toNat_natCast, Int.toNat_zero, sF_1, sF_2, sA_1, sA_2, sR_1, sR_2, ↓reduceIte, if_pos, if_neg]
        rfl
      · have h3 : 3 ≤ rn (ρ.2 11) B := by omega
        have h6 : σ.1 6 = rn (ρ.2 11) B := by
          rcases x5 with ⟨f, z1, z2, z3, z4⟩ | ⟨z1, z2, z3, z4⟩
          · omega
          · exact z2
        rcases q5 with ⟨y1, y2, y3, y4⟩ | ⟨y1, n, y2, y3, y4⟩ | ⟨n0, d0, y2, y1, y3, y4⟩
        · omega
        · omega
        · have hd0 : 1 ≤ d0 := by omega
          obtain ⟨w1, w2, w3, w4, w5, w6, w7⟩ := id y4
          have gr := ps_grow (z := fun k => σ.2 15 (k + 1)) q2 (L := n0) (fun k hk => q4 k (by omega))
          have gm := (gr n0 (Nat.le_refl _)).1
          have tests : ∀ k : Nat, k < m → rg (σ.2 12 k) ∧ rg (σ.2 13 k) ∧ rg (σ.2 14 k) ∧ (σ.2 15 k = 0 ∨ σ.2 15 k = 1) := by
            intro k hk
            have t1 : ∃ d : Nat, T1 σ (ρ.2 11) k (ps k) d ∧ d ≤ 3 := by
              by_cases e : k + 1 = m
              · have : k = n0 := by omega
                subst this; exact ⟨d0, y4, w3⟩
              · obtain ⟨d, z1, z2, z3, z4⟩ := q4 k (by omega)
                exact ⟨d, z2, z2.2.2.1⟩
            obtain ⟨d, ⟨v1, v2, v3, v4, v5, v6, v7⟩, hd3⟩ := t1
            have dr := dv_rng hd3 v4
            unfold isLe at v1
            unfold isSi at v2
            refine ⟨by rw [v5]; unfold rg; omega, by rw [v6]; unfold rg; omega, by rw [v7]; unfold rg; omega, ?_⟩
            by_cases e : k = 0
            · subst e; exact Or.inr (q3 (by omega))
            · obtain ⟨d, z1, z2, z3, z4⟩ := q4 (k - 1) (by omega)
              rw [show k - 1 + 1 = k by omega] at z4
              omega
          have em : mB σ p r = (sa (σ.2 12) (σ.2 13) (σ.2 14) (σ.2 15) m (ρ.2 3 p) (ρ.2 1 r) (ρ.2 2 r) (h : Int) m).1 := by
            unfold mB mBx
            rw [es, if_neg c, if_neg (by rw [q1]; omega), q1, Int.toNat_natCast, p1, r3, r5, r1h]
          have al := allows_loop (σ := σ) (m := m) (y := ρ.2 3 p) (mi := ρ.2 1 r) (s := ρ.2 2 r) (h := (h : Int)) q1 (by omega) (by unfold rg; omega) tests 1000 0 false (by omega) (by omega) (Or.inr ⟨Or.inr (q3 (by omega)), rfl⟩)
          have rl := mayR_loop (p := p) (r := r) b4 b2 hR hP hp hr x2 x3 x4 q2 q4 y2 y3 hd0 y4 1000 0 (by omega) (by omega)
          rw [hh, if_neg (show ¬ 0 = m by omega), q2] at rl
          have h01 := b01_01 (mB σ p r)
          rw [← em] at al rl
          refine ⟨?_, ?_⟩
          · rw [f1, bd_some]
            rw [show fX6_allows_L23 1000 (ρ.2 3 p) (ρ.2 1 r) (ρ.2 2 r) (h : Int) 0 0 σ = some (b01 (mB σ p r), σ) from al]
            simp (disch := omega) only [w32_eq, gI_eq, gB_eq, g0_eq, ix_nat, ix_eq, bd_some, bv_some, Int.toNat_natCast, Int.toNat_zero, sF_1, sF_2, sA_1, sA_2, sR_1, sR_2, ↓reduceIte, if_pos, if_neg, q1, g1]
          · rw [if_neg h0, f2, bd_some]
            rw [show fX11_mayLive_L44 1000 (p : Int) (r : Int) 0 1 0 ρ = some (b01 (mB σ p r), ρ) from rl]
            simp (disch := omega) only [w32_eq, gI_eq, gB_eq, g0_eq, ix_nat, ix_eq, bd_some, bv_some, Int.toNat_natCast, Int.toNat_zero, sF_1, sF_2, sA_1, sA_2, sR_1, sR_2, ↓reduceIte, if_pos, if_neg, g1]
    · -- a FAULT
      have em : mB σ p r = true := by
        unfold mB mBx
        rw [es, if_neg c]
        by_cases e5 : σ.1 5 = 0
        · rw [if_pos (Or.inl e5)]
        · by_cases e7 : σ.1 7 = -1
          · by_cases e6 : σ.1 6 ≤ 2
            · rw [if_pos (Or.inr (Or.inr e6))]
            · exfalso
              rcases x5 with ⟨f, z1, z2, z3, z4⟩ | ⟨z1, z2, z3, z4⟩
              · omega
              · have rr := rn_rng (ρ.2 11) B
                unfold fX6_faultPlace fX6_faultPlace_L0 at f1
                rw [e7, x1, z2] at f1
                revert f1
                simp (disch := omega) only [w32_eq, gI_eq, gB_eq, g0_eq, ix_nat, ix_eq, bd_some, bv_some, Int.toNat_natCast, Int.toNat_zero, sF_1, sF_2, sA_1, sA_2, sR_1, sR_2, ↓reduceIte, if_pos, if_neg]
                intro f1
                have := congrArg Prod.fst (Option.some.inj f1)
                dsimp only at this
                omega
          · rw [if_pos (Or.inr (Or.inl e7))]
      rw [em, if_neg (show ¬ B = 0 by omega), f2, bd_some]
      refine ⟨?_, ?_⟩
      · by_cases e5 : w32 (σ.1 5) = 0
        · rw [if_pos e5]
          simp (disch := omega) only [w32_eq, gI_eq, gB_eq, g0_eq, ix_nat, ix_eq, bd_some, bv_some, Int.toNat_natCast, Int.toNat_zero, sF_1, sF_2, sA_1, sA_2, sR_1, sR_2, ↓reduceIte, if_pos, if_neg]
          rfl
        · rw [if_neg e5, f1]
          simp (disch := omega) only [w32_eq, gI_eq, gB_eq, g0_eq, ix_nat, ix_eq, bd_some, bv_some, Int.toNat_natCast, Int.toNat_zero, sF_1, sF_2, sA_1, sA_2, sR_1, sR_2, ↓reduceIte, if_pos, if_neg]
          rfl
      · simp (disch := omega) only [w32_eq, gI_eq, gB_eq, g0_eq, ix_nat, ix_eq, bd_some, bv_some, Int.toNat_natCast, Int.toNat_zero, sF_1, sF_2, sA_1, sA_2, sR_1, sR_2, ↓reduceIte, if_pos, if_neg]
        rfl
end EMAYX
