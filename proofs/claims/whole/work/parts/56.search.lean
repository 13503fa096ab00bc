section ESEARCH
variable {R F M : Nat} {ch : Nat → Int} {G : Int} {U : Nat → Prop}
/-- which ROOMS a mover could get, those that are given apart -/
def Eg (ch : Nat → Int) (G : Int) (k r : Nat) : Prop := tb (ch k) r = true ∧ tb G r = false
/-- a trial under way, class and reference alike -/
def BT (R F M : Nat) (ch : Nat → Int) (G : Int) (U : Nat → Prop) (σ ρ : St) : Prop := (σ.1 0 = R ∧ R ≤ 24) ∧ (σ.1 14 = M ∧ M ≤ 16) ∧ ρ.1 0 = R ∧ ρ.1 4 = M ∧ σ.2 21 = ch ∧ (∀ a : Nat, F ≤ a → a < M → ∀ r : Nat, r < R → (tb (ρ.2 16 a) r = true ↔ Eg ch G a r)) ∧ (∀ r : Nat, r < R → σ.2 22 r = ρ.2 17 r) ∧ MI R F M (Eg ch G) (σ.2 22) (σ.2 23) ∧ ∀ k : Nat, U k → ∀ r : Nat, r < R → Eg ch G k r → ∃ v : Nat, U v ∧ v < M ∧ σ.2 22 r = v
def FS (σ σ' : St) : Prop := σ'.1 = σ.1 ∧ ∀ k : Nat, k ≠ 24 → k ≠ 25 → σ'.2 k = σ.2 k
def GS (ρ ρ' : St) : Prop := ρ'.1 = ρ.1 ∧ ∀ k : Nat, k ≠ 18 → k ≠ 19 → ρ'.2 k = ρ.2 k
theorem FS.fc {σ σ' : St} (h : FS σ σ') : FC σ σ' := ⟨h.1, fun k hk => h.2 k (by omega) (by omega)⟩
theorem GS.fr {ρ ρ' : St} (h : GS ρ ρ') : FR ρ ρ' := ⟨h.1, fun k hk => h.2 k (by omega) (by omega)⟩
theorem BT_fs {σ ρ σ' ρ' : St} (h : BT R F M ch G U σ ρ) (hs : FS σ σ') (hr : GS ρ ρ') : BT R F M ch G U σ' ρ' := by
  unfold BT at *
  rw [hs.1, hr.1, hs.2 21 (by decide) (by decide), hs.2 22 (by decide) (by decide), hs.2 23 (by decide) (by decide), hr.2 16 (by decide) (by decide), hr.2 17 (by decide) (by decide)]
  exact h
/-- a search under way -/
def SQ (R F M : Nat) (ch : Nat → Int) (G : Int) (m : Nat) (q : Nat → Nat) (tl : Nat) (sC sR : Int) (σ ρ : St) : Prop := (∀ i : Nat, i < tl → σ.2 24 i = q i ∧ ρ.2 18 i = q i ∧ F ≤ q i ∧ q i < M) ∧ (1 ≤ tl ∧ q 0 = m) ∧ (∀ a b : Nat, a < b → b < tl → q a ≠ q b) ∧ (∀ a : Nat, 1 ≤ a → a < tl → ∃ s : Nat, s < R ∧ tb sR s = true ∧ σ.2 23 (q a) = s ∧ ∃ b : Nat, b < a ∧ σ.2 25 s = q b ∧ ρ.2 19 s = q b ∧ Eg ch G (q b) s) ∧ (∀ r : Nat, r < R → (tb sC r = true ↔ tb sR r = true ∨ tb G r = true)) ∧ ∀ r : Nat, r < R → tb sR r = true → ∃ i : Nat, i < tl ∧ σ.2 22 r = q i
/-- what a search that found a ROOM leaves -/
def Okk (R F M : Nat) (ch : Nat → Int) (G : Int) (U : Nat → Prop) (m : Nat) (σ ρ σ' ρ' : St) : Prop := FC σ σ' ∧ FR ρ ρ' ∧ BT R F M ch G U σ' ρ' ∧ ∀ k : Nat, k < M → (σ'.2 23 k = -1 ↔ σ.2 23 k = -1 ∧ k ≠ m)
theorem inner_loop {σ0 ρ0 : St} (hb : BT R F M ch G U σ0 ρ0) {m : Nat} (hm : σ0.2 23 m = -1) {hd : Nat} : ∀ (f n j tl : Nat) (q : Nat → Nat) (sC sR : Int) (σ ρ : St), FS σ0 σ → GS ρ0 ρ → SQ R F M ch G m q tl sC sR σ ρ → hd < tl → (∀ i : Nat, i < hd → ∀ r : Nat, r < R → Eg ch G (q i) r → tb sR r = true) → (∀ r : Nat, r < j → Eg ch G (q hd) r → tb sR r = true) → j ≤ R → R - j < f → R - j < n →
    (∃ (r : Nat) (σ1 σ' ρ' : St), r < R ∧ (∀ k15 : Int → Int → Int → St → Option (Int × St), fX1_findRoom_L45 k15 f sC (tl : Int) (hd : Int) (ch (q hd)) (j : Int) σ = some ((r : Int), σ1)) ∧ fX1_changeAlong σ1 (r : Int) = some σ' ∧ (∀ k14 : Int → Int → Int → Int → St → Option (Int × St), fX11_lays_L32 k14 n (m : Int) sR (tl : Int) (hd : Int) ((q hd : Nat) : Int) (j : Int) ρ = some (1, ρ')) ∧ Okk R F M ch G U m σ0 ρ0 σ' ρ') ∨
    (∃ (tl' : Nat) (q' : Nat → Nat) (sC' sR' : Int) (σ' ρ' : St), (∀ k15 : Int → Int → Int → St → Option (Int × St), fX1_findRoom_L45 k15 f sC (tl : Int) (hd : Int) (ch (q hd)) (j : Int) σ = k15 sC' (tl' : Int) ((hd : Int) + 1) σ') ∧ (∀ k14 : Int → Int → Int → Int → St → Option (Int × St), fX11_lays_L32 k14 n (m : Int) sR (tl : Int) (hd : Int) ((q hd : Nat) : Int) (j : Int) ρ = k14 (m : Int) sR' (tl' : Int) ((hd : Int) + 1) ρ') ∧ FS σ0 σ' ∧ GS ρ0 ρ' ∧ SQ R F M ch G m q' tl' sC' sR' σ' ρ' ∧ hd < tl' ∧ (∀ i : Nat, i < hd + 1 → ∀ r : Nat, r < R → Eg ch G (q' i) r → tb sR' r = true)) := by
  obtain ⟨⟨a1, a2⟩, ⟨a3, a4⟩, a5, a6, a7, a8, a9, a10, a11⟩ := id hb
  intro f
  induction f with
  | zero => intro n j tl q sC sR σ ρ _ _ _ _ _ _ _ h; omega
  | succ f ih =>
    intro n j tl q sC sR σ ρ hs hr hq hhd hpre hcur hj hf hn
    obtain ⟨n, rfl⟩ : ∃ n' : Nat, n = n' + 1 := ⟨n - 1, by omega⟩
    obtain ⟨q1, ⟨q2, q3⟩, q4, q5, q6, q7⟩ := id hq
    have e0 : ∀ k15 : Int → Int → Int → St → Option (Int × St), fX1_findRoom_L45 k15 (f + 1) sC (tl : Int) (hd : Int) (ch (q hd)) (j : Int) σ = fX1_findRoom_B45 k15 (fX1_findRoom_L45 k15 f) sC (tl : Int) (hd : Int) (ch (q hd)) (j : Int) σ := fun _ => rfl
    have e1 : ∀ k14 : Int → Int → Int → Int → St → Option (Int × St), fX11_lays_L32 k14 (n + 1) (m : Int) sR (tl : Int) (hd : Int) ((q hd : Nat) : Int) (j : Int) ρ = fX11_lays_B32 k14 (fX11_lays_L32 k14 n) (m : Int) sR (tl : Int) (hd : Int) ((q hd : Nat) : Int) (j : Int) ρ := fun _ => rfl
    have s0 : σ.1 0 = R := by rw [hs.1]; exact a1
    have s14 : σ.1 14 = M := by rw [hs.1]; exact a3
    have r0 : ρ.1 0 = R := by rw [hr.1]; exact a5
    have s21 : σ.2 21 = ch := (hs.2 21 (by decide) (by decide)).trans a7
    have s22 : σ.2 22 = σ0.2 22 := hs.2 22 (by decide) (by decide)
    have s23 : σ.2 23 = σ0.2 23 := hs.2 23 (by decide) (by decide)
    have r16 : ρ.2 16 = ρ0.2 16 := hr.2 16 (by decide) (by decide)
    have r17 : ρ.2 17 = ρ0.2 17 := hr.2 17 (by decide) (by decide)
    have tlM : tl ≤ M := fb_holes M tl q (fun i hi => (q1 i hi).2.2.2) (fun i k h1 h2 => q4 i k h1 h2)
    obtain ⟨x1, x2, x3, x4⟩ := q1 hd hhd
    by_cases e : j = R
    · subst e
      right
      refine ⟨tl, q, sC, sR, σ, ρ, fun k15 => ?_, fun k14 => ?_, hs, hr, hq, hhd, fun i hi r hrR hE => ?_⟩
      · rw [e0]; unfold fX1_findRoom_B45
        simp (disch := omega) only [w32_eq, gI_eq, gB_eq, g0_eq, ix_nat, ix_eq, bd_some, bv_some, Int.toNat_natCast, Int.toNat_zero, sF_1, sF_2, sA_1, sA_2, sR_1, sR_2, ↓reduceIte, if_pos, if_neg, s0]
      · rw [e1]; unfold fX11_lays_B32
        simp (disch := omega) only [w32_eq, gI_eq, gB_eq, g0_eq, ix_nat, ix_eq, bd_some, bv_some, Int.toNat_natCast, Int.toNat_zero, sF_1, sF_2, sA_1, sA_2, sR_1, sR_2, ↓reduceIte, if_pos, if_neg, r0]
      · by_cases ei : i = hd
        · subst ei; exact hcur r hrR hE
        · exact hpre i (by omega) r hrR hE
    · have hjR : j < R := by omega
      obtain ⟨w, hw⟩ : ∃ w : Nat, w = q hd := ⟨_, rfl⟩
      rw [← hw] at x1 x2 x3 x4 hcur ⊢
      have e0' : ∀ k15 : Int → Int → Int → St → Option (Int × St), fX1_findRoom_L45 k15 (f + 1) sC (tl : Int) (hd : Int) (ch w) (j : Int) σ = fX1_findRoom_B45 k15 (fX1_findRoom_L45 k15 f) sC (tl : Int) (hd : Int) (ch w) (j : Int) σ := fun _ => rfl
      have e1' : ∀ k14 : Int → Int → Int → Int → St → Option (Int × St), fX11_lays_L32 k14 (n + 1) (m : Int) sR (tl : Int) (hd : Int) (w : Int) (j : Int) ρ = fX11_lays_B32 k14 (fX11_lays_L32 k14 n) (m : Int) sR (tl : Int) (hd : Int) (w : Int) (j : Int) ρ := fun _ => rfl
      have ebit := a8 w x3 x4 j hjR
      rw [← r16] at ebit
      have bm := bShr_bit (ρ.2 16 w) (n := j) (by omega)
      have bs := bShr_bit sR (n := j) (by omega)
      have q6j := q6 j hjR
      have cbit : tb (bAnd (ch w) (bXor sC (-1))) j = true ↔ Eg ch G w j ∧ tb sR j = false := by
        rw [tb_and, tb_not _ (by omega), Bool.and_eq_true]
        unfold Eg
        constructor
        · intro z
          have z2 : tb sC j = false := by simpa using z.2
          cases g1 : tb G j with
          | true => rw [q6j.mpr (Or.inr g1)] at z2; cases z2
          | false =>
            cases g2 : tb sR j with
            | true => rw [q6j.mpr (Or.inl g2)] at z2; cases z2
            | false => exact ⟨⟨z.1, rfl⟩, rfl⟩
        · intro z
          refine ⟨z.1.1, ?_⟩
          cases g1 : tb sC j with
          | false => rfl
          | true =>
            rcases q6j.mp g1 with y | y
            · rw [z.2] at y; cases y
            · rw [z.1.2] at y; cases y
      by_cases c : Eg ch G w j ∧ tb sR j = false
      · -- a ROOM that is asked for anew
        rw [if_pos (ebit.mpr c.1)] at bm
        rw [if_neg (by rw [c.2]; simp)] at bs
        by_cases ci : σ0.2 22 j = -1
        · -- nobody is in it
          left
          have cl := chain_loop (R := R) (F := F) (M := M) (E := Eg ch G) (U := U) (q := q) (m := m) a2 a4 q3 hd 1000 1000 0 j (sA σ 25 j (w : Int)) (sA ρ 19 j (w : Int)) s0 s14 r0 hjR (by omega) (by omega) (by omega) (fun r hrR => by
            show σ.2 22 r = ρ.2 17 r
            rw [s22, r17]; exact a9 r hrR) (fun r hrR => by
            show σ.2 22 r = -1 ∨ ∃ k : Nat, F ≤ k ∧ k < M ∧ σ.2 22 r = k
            rw [s22]; exact a10.1 r hrR) (fun k hk => by
            show σ.2 23 k = -1 ∨ ∃ r : Nat, r < R ∧ σ.2 23 k = r ∧ Eg ch G k r
            rw [s23]; exact a10.2.1 k hk) (fun r hrR _ k hk => by
            show σ.2 22 r = k ↔ σ.2 23 k = r
            rw [s22, s23]; exact a10.2.2 r hrR k hk) (fun k hk z => by
            have z : σ.2 23 k = j := z
            rw [s23] at z
            have := (a10.2.2 j hjR k hk).mpr z
            omega) (by
            show σ.2 22 j ≠ _
            rw [s22, ci]; omega) (by rw [← hw]; simp (disch := omega) only [w32_eq, gI_eq, gB_eq, g0_eq, ix_nat, ix_eq, bd_some, bv_some, Int.toNat_natCast, Int.toNat_zero, sF_1, sF_2, sA_1, sA_2, sR_1, sR_2, ↓reduceIte, if_pos, if_neg]) (by rw [← hw]; exact c.1) (fun a ha => (q1 a (by omega)).2.2) (fun a b h1 h2 => q4 a b h1 (by omega)) (by
            show σ.2 23 m = -1
            rw [s23]; exact hm) (fun a h1 h2 => by
            obtain ⟨s, y1, y2, y3, b, y4, y5, y6, y7⟩ := q5 a h1 (by omega)
            have sj : s ≠ j := fun z => by rw [z, c.2] at y2; cases y2
            exact ⟨s, y1, y3, b, y4, by simp (disch := omega) only [w32_eq, gI_eq, gB_eq, g0_eq, ix_nat, ix_eq, bd_some, bv_some, Int.toNat_natCast, Int.toNat_zero, sF_1, sF_2, sA_1, sA_2, sR_1, sR_2, ↓reduceIte, if_pos, if_neg]; exact y5, by simp (disch := omega) only [w32_eq, gI_eq, gB_eq, g0_eq, ix_nat, ix_eq, bd_some, bv_some, Int.toNat_natCast, Int.toNat_zero, sF_1, sF_2, sA_1, sA_2, sR_1, sR_2, ↓reduceIte, if_pos, if_neg]; exact y6, y7⟩) (fun k hk r hrR hE => by
            show ∃ v : Nat, U v ∧ v < M ∧ σ.2 22 r = v
            rw [s22]; exact a11 k hk r hrR hE) (fun k hk hE => by
            obtain ⟨v, _, _, y⟩ := a11 k hk j hjR hE
            omega)
          obtain ⟨σ', ρ', c1, c2, c3, c4, c5, c6, c7, c8⟩ := cl
          rw [← hw] at c2
          have fs1 : FS σ0 (sA σ 25 j (w : Int)) := ⟨hs.1, fun k h1 h2 => by rw [← hs.2 k h1 h2]; funext i; simp (disch := omega) only [w32_eq, gI_eq, gB_eq, g0_eq, ix_nat, ix_eq, bd_some, bv_some, Int.toNat_natCast, Int.toNat_zero, sF_1, sF_2, sA_1, sA_2, sR_1, sR_2, ↓reduceIte, if_pos, if_neg]⟩
          have gs1 : GS ρ0 (sA ρ 19 j (w : Int)) := ⟨hr.1, fun k h1 h2 => by rw [← hr.2 k h1 h2]; funext i; simp (disch := omega) only [w32_eq, gI_eq, gB_eq, g0_eq, ix_nat, ix_eq, bd_some, bv_some, Int.toNat_natCast, Int.toNat_zero, sF_1, sF_2, sA_1, sA_2, sR_1, sR_2, ↓reduceIte, if_pos, if_neg]⟩
          have fc1 := FC.tr fs1.fc c3
          have fr1 := FR.tr gs1.fr c4
          refine ⟨j, sA σ 25 j (w : Int), σ', ρ', hjR, fun k15 => ?_, c1, fun k14 => ?_, fc1, fr1, ⟨⟨by rw [fc1.1]; exact a1, a2⟩, ⟨by rw [fc1.1]; exact a3, a4⟩, by rw [fr1.1]; exact a5, by rw [fr1.1]; exact a6, (fc1.2 21 (by decide)).trans a7, by rw [fr1.2 16 (by decide)]; exact a8, c5, c6, c8⟩, fun k hk => ?_⟩
          · rw [e0']; unfold fX1_findRoom_B45
            have nb := inBits_eq σ (bAnd (ch w) (bXor sC (-1))) (n := j) (by omega)
            rw [if_pos (cbit.mpr c)] at nb
            simp (disch := omega) only [w32_eq, gI_eq, gB_eq, g0_eq, ix_nat, ix_eq, bd_some, bv_some, Int.toNat_natCast, Int.toNat_zero, sF_1, sF_2, sA_1, sA_2, sR_1, sR_2, ↓reduceIte, if_pos, if_neg, s0, x1, nb]
            rw [s22, ci]
            simp (disch := omega) only [w32_eq, gI_eq, gB_eq, g0_eq, ix_nat, ix_eq, bd_some, bv_some, Int.toNat_natCast, Int.toNat_zero, sF_1, sF_2, sA_1, sA_2, sR_1, sR_2, ↓reduceIte, if_pos, if_neg]
          · rw [e1']; unfold fX11_lays_B32
            have c1' : ρ.2 17 j = -1 := by rw [r17, ← a9 j hjR]; exact ci
            simp (disch := omega) only [w32_eq, gI_eq, gB_eq, g0_eq, ix_nat, ix_eq, bd_some, bv_some, Int.toNat_natCast, Int.toNat_zero, sF_1, sF_2, sA_1, sA_2, sR_1, sR_2, ↓reduceIte, if_pos, if_neg, r0, bm, bs, c1']
            exact c2
          · rw [c7 k hk]
            show σ.2 23 k = -1 ∧ _ ↔ _
            rw [s23]
        · -- somebody is in it, who asks now
          obtain ⟨v, v1, v2, v3⟩ : ∃ v : Nat, F ≤ v ∧ v < M ∧ σ0.2 22 j = v := by
            rcases a10.1 j hjR with z | z
            · exact absurd z ci
            · exact z
          have vpl : σ0.2 23 v = j := (a10.2.2 j hjR v v2).mp v3
          have vnew : ∀ i : Nat, i < tl → q i ≠ v := by
            intro i hi z
            by_cases i0 : i = 0
            · subst i0
              rw [q3] at z
              rw [← z, hm] at vpl
              omega
            · obtain ⟨s, y1, y2, y3, _⟩ := q5 i (by omega) hi
              rw [z, s23, vpl] at y3
              have : s = j := by omega
              rw [this, c.2] at y2; cases y2
          have tl1 : tl + 1 ≤ M := fb_holes M (tl + 1) (fun i => if i = tl then v else q i) (fun i hi => by
            by_cases ei : i = tl
            · simp only [if_pos ei]; exact v2
            · simp only [if_neg ei]; exact (q1 i (by omega)).2.2.2) (fun i k h1 h2 => by
            have ei : i ≠ tl := by omega
            simp only [if_neg ei]
            by_cases ek : k = tl
            · simp only [if_pos ek]; exact vnew i (by omega)
            · simp only [if_neg ek]; exact q4 i k h1 (by omega))
          obtain ⟨q', hq'⟩ : ∃ q' : Nat → Nat, ∀ i : Nat, q' i = if i = tl then v else q i := ⟨fun i => if i = tl then v else q i, fun _ => rfl⟩
          have qo : ∀ i : Nat, i < tl → q' i = q i := fun i hi => by rw [hq', if_neg (by omega)]
          have qn : q' tl = v := by rw [hq', if_pos rfl]
          have sb : ∀ r : Nat, r < 32 → (tb (bOr sR (bShl 1 (j : Int))) r = true ↔ tb sR r = true ∨ r = j) := by
            intro r _
            rw [tb_or, tb_shl1 (by omega), Bool.or_eq_true, decide_eq_true_eq]
          have fs1 : FS σ0 (sA (sA σ 25 j (w : Int)) 24 tl (v : Int)) := ⟨hs.1, fun k h1 h2 => by rw [← hs.2 k h1 h2]; funext i; simp (disch := omega) only [w32_eq, gI_eq, gB_eq, g0_eq, ix_nat, ix_eq, bd_some, bv_some, Int.toNat_natCast, Int.toNat_zero, sF_1, sF_2, sA_1, sA_2, sR_1, sR_2, ↓reduceIte, if_pos, if_neg]⟩
          have gs1 : GS ρ0 (sA (sA ρ 19 j (w : Int)) 18 tl (v : Int)) := ⟨hr.1, fun k h1 h2 => by rw [← hr.2 k h1 h2]; funext i; simp (disch := omega) only [w32_eq, gI_eq, gB_eq, g0_eq, ix_nat, ix_eq, bd_some, bv_some, Int.toNat_natCast, Int.toNat_zero, sF_1, sF_2, sA_1, sA_2, sR_1, sR_2, ↓reduceIte, if_pos, if_neg]⟩
          have hdq : q' hd = w := by rw [qo hd hhd, hw]
          have nx := ih n (j + 1) (tl + 1) q' (bOr sC (bShl 1 (j : Int))) (bOr sR (bShl 1 (j : Int))) (sA (sA σ 25 j (w : Int)) 24 tl (v : Int)) (sA (sA ρ 19 j (w : Int)) 18 tl (v : Int)) fs1 gs1 ⟨fun i hi => by
            by_cases ei : i = tl
            · subst ei
              rw [qn]
              exact ⟨by simp (disch := omega) only [w32_eq, gI_eq, gB_eq, g0_eq, ix_nat, ix_eq, bd_some, bv_some, Int.toNat_natCast, Int.toNat_zero, sF_1, sF_2, sA_1, sA_2, sR_1, sR_2, ↓reduceIte, if_pos, if_neg], by simp (disch := omega) only [w32_eq, gI_eq, gB_eq, g0_eq, ix_nat, ix_eq, bd_some, bv_some, Int.toNat_natCast, Int.toNat_zero, sF_1, sF_2, sA_1, sA_2, sR_1, sR_2, ↓reduceIte, if_pos, if_neg], v1, v2⟩
            · have y := q1 i (by omega)
              rw [qo i (by omega)]
              exact ⟨by simp (disch := omega) only [w32_eq, gI_eq, gB_eq, g0_eq, ix_nat, ix_eq, bd_some, bv_some, Int.toNat_natCast, Int.toNat_zero, sF_1, sF_2, sA_1, sA_2, sR_1, sR_2, ↓reduceIte, if_pos, if_neg]; exact y.1, by simp (disch := omega) only [w32_eq, gI_eq, gB_eq, g0_eq, ix_nat, ix_eq, bd_some, bv_some, Int.toNat_natCast, Int.toNat_zero, sF_1, sF_2, sA_1, sA_2, sR_1, sR_2, ↓reduceIte, if_pos, if_neg]; exact y.2.1, y.2.2⟩, ⟨by omega, by rw [qo 0 (by omega)]; exact q3⟩, fun a b h1 h2 => by
            rw [qo a (by omega)]
            by_cases eb : b = tl
            · rw [eb, qn]; exact vnew a (by omega)
            · rw [qo b (by omega)]; exact q4 a b h1 (by omega), fun a h1 h2 => by
            by_cases ea : a = tl
            · subst ea
              rw [qn]
              refine ⟨j, hjR, (sb j (by omega)).mpr (Or.inr rfl), ?_, hd, hhd, ?_, ?_, ?_⟩
              · show σ.2 23 v = j
                rw [s23]; exact vpl
              · rw [hdq]; simp (disch := omega) only [w32_eq, gI_eq, gB_eq, g0_eq, ix_nat, ix_eq, bd_some, bv_some, Int.toNat_natCast, Int.toNat_zero, sF_1, sF_2, sA_1, sA_2, sR_1, sR_2, ↓reduceIte, if_pos, if_neg]
              · rw [hdq]; simp (disch := omega) only [w32_eq, gI_eq, gB_eq, g0_eq, ix_nat, ix_eq, bd_some, bv_some, Int.toNat_natCast, Int.toNat_zero, sF_1, sF_2, sA_1, sA_2, sR_1, sR_2, ↓reduceIte, if_pos, if_neg]
              · rw [hdq]; exact c.1
            · obtain ⟨s, y1, y2, y3, b, y4, y5, y6, y7⟩ := q5 a h1 (by omega)
              have sj : s ≠ j := fun z => by rw [z, c.2] at y2; cases y2
              rw [qo a (by omega)]
              refine ⟨s, y1, (sb s (by omega)).mpr (Or.inl y2), y3, b, y4, ?_, ?_, ?_⟩
              · rw [qo b (by omega)]; simp (disch := omega) only [w32_eq, gI_eq, gB_eq, g0_eq, ix_nat, ix_eq, bd_some, bv_some, Int.toNat_natCast, Int.toNat_zero, sF_1, sF_2, sA_1, sA_2, sR_1, sR_2, ↓reduceIte, if_pos, if_neg]; exact y5
              · rw [qo b (by omega)]; simp (disch := omega) only [w32_eq, gI_eq, gB_eq, g0_eq, ix_nat, ix_eq, bd_some, bv_some, Int.toNat_natCast, Int.toNat_zero, sF_1, sF_2, sA_1, sA_2, sR_1, sR_2, ↓reduceIte, if_pos, if_neg]; exact y6
              · rw [qo b (by omega)]; exact y7, fun r hrR => by
            rw [sb r (by omega), tb_or, tb_shl1 (by omega), Bool.or_eq_true, decide_eq_true_eq, q6 r hrR]
            constructor
            · rintro ((z | z) | z)
              · exact Or.inl (Or.inl z)
              · exact Or.inr z
              · exact Or.inl (Or.inr z)
            · rintro ((z | z) | z)
              · exact Or.inl (Or.inl z)
              · exact Or.inr z
              · exact Or.inl (Or.inr z), fun r hrR z => by
            show ∃ i : Nat, i < tl + 1 ∧ σ.2 22 r = q' i
            rcases (sb r (by omega)).mp z with y | y
            · obtain ⟨i, i1, i2⟩ := q7 r hrR y
              exact ⟨i, by omega, by rw [qo i i1]; exact i2⟩
            · exact ⟨tl, by omega, by rw [qn, y, s22]; exact v3⟩⟩ (by omega) (fun i hi r hrR hE => by
            rw [qo i (by omega)] at hE
            exact (sb r (by omega)).mpr (Or.inl (hpre i hi r hrR hE))) (fun r hrj hE => by
            rw [hdq] at hE
            by_cases er : r = j
            · exact (sb r (by omega)).mpr (Or.inr er)
            · exact (sb r (by omega)).mpr (Or.inl (hcur r (by omega) hE))) (by omega) (by omega) (by omega)
          rw [hdq] at nx
          have stC : ∀ k15 : Int → Int → Int → St → Option (Int × St), fX1_findRoom_L45 k15 (f + 1) sC (tl : Int) (hd : Int) (ch w) (j : Int) σ = fX1_findRoom_L45 k15 f (bOr sC (bShl 1 (j : Int))) ((tl + 1 : Nat) : Int) (hd : Int) (ch w) ((j + 1 : Nat) : Int) (sA (sA σ 25 j (w : Int)) 24 tl (v : Int)) := by
            intro k15
            rw [e0']; unfold fX1_findRoom_B45
            have nb := inBits_eq σ (bAnd (ch w) (bXor sC (-1))) (n := j) (by omega)
            rw [if_pos (cbit.mpr c)] at nb
            simp (disch := omega) only [w32_eq, gI_eq, gB_eq, g0_eq, ix_nat, ix_eq, bd_some, bv_some, Int.toNat_natCast, Int.toNat_zero, sF_1, sF_2, sA_1, sA_2, sR_1, sR_2, ↓reduceIte, if_pos, if_neg, s0, x1, nb]
            rw [s22, v3]
            simp (disch := omega) only [w32_eq, gI_eq, gB_eq, g0_eq, ix_nat, ix_eq, bd_some, bv_some, Int.toNat_natCast, Int.toNat_zero, sF_1, sF_2, sA_1, sA_2, sR_1, sR_2, ↓reduceIte, if_pos, if_neg]
            rfl
          have stR : ∀ k14 : Int → Int → Int → Int → St → Option (Int × St), fX11_lays_L32 k14 (n + 1) (m : Int) sR (tl : Int) (hd : Int) (w : Int) (j : Int) ρ = fX11_lays_L32 k14 n (m : Int) (bOr sR (bShl 1 (j : Int))) ((tl + 1 : Nat) : Int) (hd : Int) (w : Int) ((j + 1 : Nat) : Int) (sA (sA ρ 19 j (w : Int)) 18 tl (v : Int)) := by
            intro k14
            rw [e1']; unfold fX11_lays_B32
            have c1' : ρ.2 17 j = v := by rw [r17, ← a9 j hjR]; exact v3
            simp (disch := omega) only [w32_eq, gI_eq, gB_eq, g0_eq, ix_nat, ix_eq, bd_some, bv_some, Int.toNat_natCast, Int.toNat_zero, sF_1, sF_2, sA_1, sA_2, sR_1, sR_2, ↓reduceIte, if_pos, if_neg, r0, bm, bs, c1']
            rfl
          rcases nx with ⟨r, σ1, σ', ρ', z1, z2, z3, z4, z5⟩ | ⟨tl', q'', sC', sR', σ', ρ', z1, z2, z3⟩
          · exact Or.inl ⟨r, σ1, σ', ρ', z1, fun k15 => (stC k15).trans (z2 k15), z3, fun k14 => (stR k14).trans (z4 k14), z5⟩
          · exact Or.inr ⟨tl', q'', sC', sR', σ', ρ', fun k15 => (stC k15).trans (z1 k15), fun k14 => (stR k14).trans (z2 k14), z3⟩
      · -- nothing new here
        have nx := ih n (j + 1) tl q sC sR σ ρ hs hr hq hhd hpre (fun r hrj hE => by
          rw [← hw] at hE
          by_cases er : r = j
          · subst er
            cases g : tb sR r with
            | true => rfl
            | false => exact absurd ⟨hE, g⟩ c
          · exact hcur r (by omega) hE) (by omega) (by omega) (by omega)
        rw [← hw] at nx
        have stC : ∀ k15 : Int → Int → Int → St → Option (Int × St), fX1_findRoom_L45 k15 (f + 1) sC (tl : Int) (hd : Int) (ch w) (j : Int) σ = fX1_findRoom_L45 k15 f sC (tl : Int) (hd : Int) (ch w) ((j + 1 : Nat) : Int) σ := by
          intro k15
          rw [e0']; unfold fX1_findRoom_B45
          have nb := inBits_eq σ (bAnd (ch w) (bXor sC (-1))) (n := j) (by omega)
          rw [if_neg (fun z => c (cbit.mp z))] at nb
          simp (disch := omega) only [w32_eq, gI_eq, gB_eq, g0_eq, ix_nat, ix_eq, bd_some, bv_some, Int.toNat_natCast, Int.toNat_zero, sF_1, sF_2, sA_1, sA_2, sR_1, sR_2, ↓reduceIte, if_pos, if_neg, s0, x1, nb]
          rfl
        have stR : ∀ k14 : Int → Int → Int → Int → St → Option (Int × St), fX11_lays_L32 k14 (n + 1) (m : Int) sR (tl : Int) (hd : Int) (w : Int) (j : Int) ρ = fX11_lays_L32 k14 n (m : Int) sR (tl : Int) (hd : Int) (w : Int) ((j + 1 : Nat) : Int) ρ := by
          intro k14
          rw [e1']; unfold fX11_lays_B32
          by_cases g1 : Eg ch G w j
          · rw [if_pos (ebit.mpr g1)] at bm
            have g2 : tb sR j = true := by
              cases g : tb sR j with
              | true => rfl
              | false => exact absurd ⟨g1, g⟩ c
            rw [if_pos g2] at bs
            simp (disch := omega) only [w32_eq, gI_eq, gB_eq, g0_eq, ix_nat, ix_eq, bd_some, bv_some, Int.toNat_natCast, Int.toNat_zero, sF_1, sF_2, sA_1, sA_2, sR_1, sR_2, ↓reduceIte, if_pos, if_neg, r0, bm, bs]
            rfl
          · rw [if_neg (fun z => g1 (ebit.mp z))] at bm
            simp (disch := omega) only [w32_eq, gI_eq, gB_eq, g0_eq, ix_nat, ix_eq, bd_some, bv_some, Int.toNat_natCast, Int.toNat_zero, sF_1, sF_2, sA_1, sA_2, sR_1, sR_2, ↓reduceIte, if_pos, if_neg, r0, bm]
            rfl
        rcases nx with ⟨r, σ1, σ', ρ', z1, z2, z3, z4, z5⟩ | ⟨tl', q'', sC', sR', σ', ρ', z1, z2, z3⟩
        · exact Or.inl ⟨r, σ1, σ', ρ', z1, fun k15 => (stC k15).trans (z2 k15), z3, fun k14 => (stR k14).trans (z4 k14), z5⟩
        · exact Or.inr ⟨tl', q'', sC', sR', σ', ρ', fun k15 => (stC k15).trans (z1 k15), fun k14 => (stR k14).trans (z2 k14), z3⟩
/-- asker by asker -/
theorem outer_loop {σ0 ρ0 : St} (hb : BT R F M ch G U σ0 ρ0) {m : Nat} (hm : σ0.2 23 m = -1) : ∀ (f n hd tl : Nat) (q : Nat → Nat) (sC sR : Int) (σ ρ : St), FS σ0 σ → GS ρ0 ρ → SQ R F M ch G m q tl sC sR σ ρ → hd ≤ tl → (∀ i : Nat, i < hd → ∀ r : Nat, r < R → Eg ch G (q i) r → tb sR r = true) → 16 - hd < f → 16 - hd < n →
    (∃ (r : Nat) (σ1 σ' ρ' : St), r < R ∧ fX1_findRoom_L15 f sC (tl : Int) (hd : Int) σ = some ((r : Int), σ1) ∧ fX1_changeAlong σ1 (r : Int) = some σ' ∧ fX11_lays_L14 n (m : Int) sR (tl : Int) (hd : Int) ρ = some (1, ρ') ∧ Okk R F M ch G U m σ0 ρ0 σ' ρ') ∨
    (∃ (σ' ρ' : St) (U' : Nat → Prop), fX1_findRoom_L15 f sC (tl : Int) (hd : Int) σ = some (-1, σ') ∧ fX11_lays_L14 n (m : Int) sR (tl : Int) (hd : Int) ρ = some (0, ρ') ∧ FC σ0 σ' ∧ FR ρ0 ρ' ∧ BT R F M ch G U' σ' ρ' ∧ σ'.2 23 = σ0.2 23 ∧ (∀ k : Nat, U k → U' k) ∧ U' m) := by
  obtain ⟨⟨a1, a2⟩, ⟨a3, a4⟩, a5, a6, a7, a8, a9, a10, a11⟩ := id hb
  intro f
  induction f with
  | zero => intro n hd tl q sC sR σ ρ _ _ _ _ _ h; omega
  | succ f ih =>
    intro n hd tl q sC sR σ ρ hs hr hq hhd hpre hf hn
    obtain ⟨n, rfl⟩ : ∃ n' : Nat, n = n' + 1 := ⟨n - 1, by omega⟩
    obtain ⟨q1, ⟨q2, q3⟩, q4, q5, q6, q7⟩ := id hq
    have tlM : tl ≤ M := fb_holes M tl q (fun i hi => (q1 i hi).2.2.2) (fun i k h1 h2 => q4 i k h1 h2)
    have e0 : fX1_findRoom_L15 (f + 1) sC (tl : Int) (hd : Int) σ = fX1_findRoom_B15 (fX1_findRoom_L15 f) sC (tl : Int) (hd : Int) σ := rfl
    have e1 : fX11_lays_L14 (n + 1) (m : Int) sR (tl : Int) (hd : Int) ρ = fX11_lays_B14 (fX11_lays_L14 n) (m : Int) sR (tl : Int) (hd : Int) ρ := rfl
    rw [e0, e1]
    by_cases e : hd = tl
    · subst e
      right
      have bt := BT_fs hb hs hr
      obtain ⟨b1, b2, b3, b4, b5, b6, b7, b8, b9⟩ := id bt
      refine ⟨σ, ρ, fun k => U k ∨ ∃ i : Nat, i < hd ∧ q i = k, ?_, ?_, hs.fc, hr.fr, ⟨b1, b2, b3, b4, b5, b6, b7, b8, fun k hk r hrR hE => ?_⟩, hs.2 23 (by decide) (by decide), fun k hk => Or.inl hk, Or.inr ⟨0, by omega, q3⟩⟩
      · unfold fX1_findRoom_B15
        simp (disch := omega) only [w32_eq, gI_eq, gB_eq, g0_eq, ix_nat, ix_eq, bd_some, bv_some, Int.toNat_natCast, Int.toNat_zero, sF_1, sF_2, sA_1, sA_2, sR_1, sR_2, ↓reduceIte, if_pos, if_neg]
      · unfold fX11_lays_B14
        simp (disch := omega) only [w32_eq, gI_eq, gB_eq, g0_eq, ix_nat, ix_eq, bd_some, bv_some, Int.toNat_natCast, Int.toNat_zero, sF_1, sF_2, sA_1, sA_2, sR_1, sR_2, ↓reduceIte, if_pos, if_neg]
      · rcases hk with hk | ⟨i, i1, i2⟩
        · obtain ⟨v, v1, v2, v3⟩ := b9 k hk r hrR hE
          exact ⟨v, Or.inl v1, v2, v3⟩
        · rw [← i2] at hE
          obtain ⟨i', j1, j2⟩ := q7 r hrR (hpre i i1 r hrR hE)
          exact ⟨q i', Or.inr ⟨i', j1, rfl⟩, (q1 i' j1).2.2.2, j2⟩
    · have hlt : hd < tl := by omega
      have x := (q1 hd hlt).2.1
      have x0 := (q1 hd hlt).1
      have x4 := (q1 hd hlt).2.2.2
      have s14 : σ.1 14 = M := by rw [hs.1]; exact a3
      have s21 : σ.2 21 = ch := (hs.2 21 (by decide) (by decide)).trans a7
      have cho : fX1_choiceOf σ ((q hd : Nat) : Int) = some (ch (q hd), σ) := by
        unfold fX1_choiceOf fX1_choiceOf_L0
        simp (disch := omega) only [w32_eq, gI_eq, gB_eq, g0_eq, ix_nat, ix_eq, bd_some, bv_some, Int.toNat_natCast, Int.toNat_zero, sF_1, sF_2, sA_1, sA_2, sR_1, sR_2, ↓reduceIte, if_pos, if_neg, s14, s21]
      have eC : fX1_findRoom_B15 (fX1_findRoom_L15 f) sC (tl : Int) (hd : Int) σ = fX1_findRoom_L45 (fX1_findRoom_L15 f) 1000 sC (tl : Int) (hd : Int) (ch (q hd)) ((0 : Nat) : Int) σ := by
        unfold fX1_findRoom_B15
        simp (disch := omega) only [w32_eq, gI_eq, gB_eq, g0_eq, ix_nat, ix_eq, bd_some, bv_some, Int.toNat_natCast, Int.toNat_zero, sF_1, sF_2, sA_1, sA_2, sR_1, sR_2, ↓reduceIte, if_pos, if_neg, x0, cho]
        rfl
      have eR : fX11_lays_B14 (fX11_lays_L14 n) (m : Int) sR (tl : Int) (hd : Int) ρ = fX11_lays_L32 (fX11_lays_L14 n) 1000 (m : Int) sR (tl : Int) (hd : Int) ((q hd : Nat) : Int) ((0 : Nat) : Int) ρ := by
        unfold fX11_lays_B14
        simp (disch := omega) only [w32_eq, gI_eq, gB_eq, g0_eq, ix_nat, ix_eq, bd_some, bv_some, Int.toNat_natCast, Int.toNat_zero, sF_1, sF_2, sA_1, sA_2, sR_1, sR_2, ↓reduceIte, if_pos, if_neg, x]
        rfl
      rw [eC, eR]
      rcases inner_loop hb hm (hd := hd) 1000 1000 0 tl q sC sR σ ρ hs hr hq hlt hpre (fun r h => by omega) (by omega) (by omega) (by omega) with ⟨r, σ1, σ', ρ', z1, z2, z3, z4, z5⟩ | ⟨tl', q', sC', sR', σ', ρ', z1, z2, z3, z4, z5, z6, z7⟩
      · exact Or.inl ⟨r, σ1, σ', ρ', z1, z2 _, z3, z4 _, z5⟩
      · rw [z1, z2]
        exact ih n (hd + 1) tl' q' sC' sR' σ' ρ' z3 z4 z5 (by omega) z7 (by omega) (by omega)
/-- a mover's search -/
theorem lays_eq {σ ρ : St} (hb : BT R F M ch G U σ ρ) {m : Nat} (h1 : F ≤ m) (h2 : m < M) (hm : σ.2 23 m = -1) :
    (∃ (r : Nat) (σ1 σ' ρ' : St), r < R ∧ fX1_findRoom σ (m : Int) G = some ((r : Int), σ1) ∧ fX1_changeAlong σ1 (r : Int) = some σ' ∧ fX11_lays ρ (m : Int) = some (1, ρ') ∧ Okk R F M ch G U m σ ρ σ' ρ') ∨
    (∃ (σ' ρ' : St) (U' : Nat → Prop), fX1_findRoom σ (m : Int) G = some (-1, σ') ∧ fX11_lays ρ (m : Int) = some (0, ρ') ∧ FC σ σ' ∧ FR ρ ρ' ∧ BT R F M ch G U' σ' ρ' ∧ σ'.2 23 = σ.2 23 ∧ (∀ k : Nat, U k → U' k) ∧ U' m) := by
  have a4 := hb.2.1.2
  have ol := outer_loop hb hm 1000 1000 0 1 (fun _ => m) G 0 (sA σ 24 0 (m : Int)) (sA ρ 18 0 (m : Int)) ⟨rfl, fun k h1 h2 => by funext i; simp (disch := omega) only [w32_eq, gI_eq, gB_eq, g0_eq, ix_nat, ix_eq, bd_some, bv_some, Int.toNat_natCast, Int.toNat_zero, sF_1, sF_2, sA_1, sA_2, sR_1, sR_2, ↓reduceIte, if_pos, if_neg]⟩ ⟨rfl, fun k h1 h2 => by funext i; simp (disch := omega) only [w32_eq, gI_eq, gB_eq, g0_eq, ix_nat, ix_eq, bd_some, bv_some, Int.toNat_natCast, Int.toNat_zero, sF_1, sF_2, sA_1, sA_2, sR_1, sR_2, ↓reduceIte, if_pos, if_neg]⟩ ⟨fun i hi => by
    have : i = 0 := by omega
    subst this
    exact ⟨by simp (disch := omega) only [w32_eq, gI_eq, gB_eq, g0_eq, ix_nat, ix_eq, bd_some, bv_some, Int.toNat_natCast, Int.toNat_zero, sF_1, sF_2, sA_1, sA_2, sR_1, sR_2, ↓reduceIte, if_pos, if_neg], by simp (disch := omega) only [w32_eq, gI_eq, gB_eq, g0_eq, ix_nat, ix_eq, bd_some, bv_some, Int.toNat_natCast, Int.toNat_zero, sF_1, sF_2, sA_1, sA_2, sR_1, sR_2, ↓reduceIte, if_pos, if_neg], h1, h2⟩, ⟨by omega, rfl⟩, fun a b h1 h2 => by omega, fun a h1 h2 => by omega, fun r _ => by rw [tb_0]; simp, fun r _ z => by rw [tb_0] at z; cases z⟩ (by omega) (fun i h => by omega) (by omega) (by omega)
  have eC : fX1_findRoom σ (m : Int) G = fX1_findRoom_L15 1000 G ((1 : Nat) : Int) ((0 : Nat) : Int) (sA σ 24 0 (m : Int)) := by
    unfold fX1_findRoom fX1_findRoom_L0
    simp (disch := omega) only [w32_eq, gI_eq, gB_eq, g0_eq, ix_nat, ix_eq, bd_some, bv_some, Int.toNat_natCast, Int.toNat_zero, sF_1, sF_2, sA_1, sA_2, sR_1, sR_2, ↓reduceIte, if_pos, if_neg]
    rfl
  have eR : fX11_lays ρ (m : Int) = fX11_lays_L14 1000 (m : Int) 0 ((1 : Nat) : Int) ((0 : Nat) : Int) (sA ρ 18 0 (m : Int)) := by
    unfold fX11_lays fX11_lays_L0
    simp (disch := omega) only [w32_eq, gI_eq, gB_eq, g0_eq, ix_nat, ix_eq, bd_some, bv_some, Int.toNat_natCast, Int.toNat_zero, sF_1, sF_2, sA_1, sA_2, sR_1, sR_2, ↓reduceIte, if_pos, if_neg]
    rfl
  rw [eC, eR]
  exact ol
end ESEARCH
