section EMAY
variable {σ ρ : St} {R P N T B : Nat}
/-- what a TEST's letter asks for -/
def tv (y mi s h l : Int) : Int := if l = 109 then mi else if l = 115 then s else if l = 121 then y else h
def cm (v sg num : Int) : Bool := if sg = 60 then decide (v < num) else if sg = 61 then decide (v = num) else decide (num < v)
/-- some CASE held before test n, all TESTS of its own CASE before it did -/
def sa (r12 r13 r14 r15 : Nat → Int) (m : Nat) (y mi s h : Int) : Nat → Bool × Bool
  | 0 => (false, true)
  | n + 1 => if n + 1 = m ∨ r15 (n + 1) = 1 then ((sa r12 r13 r14 r15 m y mi s h n).1 || ((sa r12 r13 r14 r15 m y mi s h n).2 && cm (tv y mi s h (r12 n)) (r13 n) (r14 n)), true) else ((sa r12 r13 r14 r15 m y mi s h n).1, (sa r12 r13 r14 r15 m y mi s h n).2 && cm (tv y mi s h (r12 n)) (r13 n) (r14 n))
theorem sa_succ (r12 r13 r14 r15 : Nat → Int) (m : Nat) (y mi s h : Int) (n : Nat) : sa r12 r13 r14 r15 m y mi s h (n + 1) = if n + 1 = m ∨ r15 (n + 1) = 1 then ((sa r12 r13 r14 r15 m y mi s h n).1 || ((sa r12 r13 r14 r15 m y mi s h n).2 && cm (tv y mi s h (r12 n)) (r13 n) (r14 n)), true) else ((sa r12 r13 r14 r15 m y mi s h n).1, (sa r12 r13 r14 r15 m y mi s h n).2 && cm (tv y mi s h (r12 n)) (r13 n) (r14 n)) := rfl
theorem sa_mono {r12 r13 r14 r15 : Nat → Int} {m : Nat} {y mi s h : Int} {n : Nat} (hn : (sa r12 r13 r14 r15 m y mi s h n).1 = true) : ∀ k : Nat, (sa r12 r13 r14 r15 m y mi s h (n + k)).1 = true
  | 0 => hn
  | k + 1 => by
    have ih := sa_mono hn k
    rw [← Nat.add_assoc, sa_succ]
    split
    · simp [ih]
    · exact ih
theorem asked_eq (σ : St) {l y mi s h : Int} (hl : rg l) : fX6_asked σ l y mi s h = some (tv y mi s h l, σ) := by
  unfold rg at hl
  unfold fX6_asked fX6_asked_L0 tv
  by_cases c1 : l = 109
  · simp (disch := omega) only [w32_eq, gI_eq, gB_eq, g0_eq, ix_nat, ix_eq, bd_some, bv_some, Int.toNat_natCast, Int.toNat_zero, sF_1, sF_2, sA_1, sA_2, sR_1, sR_2, ↓reduceIte, if_pos, if_neg]
  by_cases c2 : l = 115
  · simp (disch := omega) only [w32_eq, gI_eq, gB_eq, g0_eq, ix_nat, ix_eq, bd_some, bv_some, Int.toNat_natCast, Int.toNat_zero, sF_1, sF_2, sA_1, sA_2, sR_1, sR_2, ↓reduceIte, if_pos, if_neg]
  by_cases c3 : l = 121
  · simp (disch := omega) only [w32_eq, gI_eq, gB_eq, g0_eq, ix_nat, ix_eq, bd_some, bv_some, Int.toNat_natCast, Int.toNat_zero, sF_1, sF_2, sA_1, sA_2, sR_1, sR_2, ↓reduceIte, if_pos, if_neg]
  · simp (disch := omega) only [w32_eq, gI_eq, gB_eq, g0_eq, ix_nat, ix_eq, bd_some, bv_some, Int.toNat_natCast, Int.toNat_zero, sF_1, sF_2, sA_1, sA_2, sR_1, sR_2, ↓reduceIte, if_pos, if_neg]
theorem compares_eq (σ : St) {v sg num : Int} (hv : rg v) (hs : rg sg) (hn : rg num) : fX6_compares σ v sg num = some ((if cm v sg num = true then 1 else 0), σ) := by
  unfold rg at *
  unfold fX6_compares fX6_compares_L0 cm
  by_cases c1 : sg = 60
  · by_cases c2 : num ≤ v
    · simp (disch := omega) only [w32_eq, gI_eq, gB_eq, g0_eq, ix_nat, ix_eq, bd_some, bv_some, Int.toNat_natCast, Int.toNat_zero, sF_1, sF_2, sA_1, sA_2, sR_1, sR_2, ↓reduceIte, if_pos, if_neg, decide_eq_true_eq]
    · simp (disch := omega) only [w32_eq, gI_eq, gB_eq, g0_eq, ix_nat, ix_eq, bd_some, bv_some, Int.toNat_natCast, Int.toNat_zero, sF_1, sF_2, sA_1, sA_2, sR_1, sR_2, ↓reduceIte, if_pos, if_neg, decide_eq_true_eq]
  · by_cases c2 : sg = 61
    · by_cases c3 : v = num
      · simp (disch := omega) only [w32_eq, gI_eq, gB_eq, g0_eq, ix_nat, ix_eq, bd_some, bv_some, Int.toNat_natCast, Int.toNat_zero, sF_1, sF_2, sA_1, sA_2, sR_1, sR_2, ↓reduceIte, if_pos, if_neg, decide_eq_true_eq]
      · simp (disch := omega) only [w32_eq, gI_eq, gB_eq, g0_eq, ix_nat, ix_eq, bd_some, bv_some, Int.toNat_natCast, Int.toNat_zero, sF_1, sF_2, sA_1, sA_2, sR_1, sR_2, ↓reduceIte, if_pos, if_neg, decide_eq_true_eq]
    · by_cases c3 : v ≤ num
      · simp (disch := omega) only [w32_eq, gI_eq, gB_eq, g0_eq, ix_nat, ix_eq, bd_some, bv_some, Int.toNat_natCast, Int.toNat_zero, sF_1, sF_2, sA_1, sA_2, sR_1, sR_2, ↓reduceIte, if_pos, if_neg, decide_eq_true_eq]
      · simp (disch := omega) only [w32_eq, gI_eq, gB_eq, g0_eq, ix_nat, ix_eq, bd_some, bv_some, Int.toNat_natCast, Int.toNat_zero, sF_1, sF_2, sA_1, sA_2, sR_1, sR_2, ↓reduceIte, if_pos, if_neg, decide_eq_true_eq]
def b01 (b : Bool) : Int := if b = true then 1 else 0
/-- the class's reading of the TESTS -/
theorem allows_loop {m : Nat} {y mi s h : Int} (hm : σ.1 5 = m) (hm16 : m ≤ 16) (hr : rg y ∧ rg mi ∧ rg s ∧ rg h) (hc : ∀ k : Nat, k < m → rg (σ.2 12 k) ∧ rg (σ.2 13 k) ∧ rg (σ.2 14 k) ∧ (σ.2 15 k = 0 ∨ σ.2 15 k = 1)) :
    ∀ (f k : Nat) (hold : Bool), k ≤ m → m - k < f → ((k < m ∧ σ.2 15 k = 0 ∧ sa (σ.2 12) (σ.2 13) (σ.2 14) (σ.2 15) m y mi s h k = (false, hold)) ∨ ((k = m ∨ σ.2 15 k = 1) ∧ sa (σ.2 12) (σ.2 13) (σ.2 14) (σ.2 15) m y mi s h k = (hold, true))) →
    fX6_allows_L23 f y mi s h (b01 hold) (k : Int) σ = some (b01 (sa (σ.2 12) (σ.2 13) (σ.2 14) (σ.2 15) m y mi s h m).1, σ) := by
  intro f
  induction f with
  | zero => intro k hold _ h; omega
  | succ f ih =>
    intro k hold hk hf hI
    have e0 : fX6_allows_L23 (f + 1) y mi s h (b01 hold) (k : Int) σ = fX6_allows_B23 (fX6_allows_L23 f) y mi s h (b01 hold) (k : Int) σ := rfl
    rw [e0]
    unfold fX6_allows_B23
    have hb : b01 hold = 0 ∨ b01 hold = 1 := by unfold b01; split <;> omega
    by_cases e : k = m
    · rcases hI with hI | hI
      · omega
      · subst e
        rw [hI.2]
        simp (disch := omega) only [w32_eq, gI_eq, gB_eq, g0_eq, ix_nat, ix_eq, bd_some, bv_some, Int.toNat_natCast, Int.toNat_zero, sF_1, sF_2, sA_1, sA_2, sR_1, sR_2, ↓reduceIte, if_pos, if_neg, hm]
    · obtain ⟨c1, c2, c3, c4⟩ := hc k (by omega)
      -- one TEST, with what held of its CASE before
      have step : ∀ g : Bool, (sa (σ.2 12) (σ.2 13) (σ.2 14) (σ.2 15) m y mi s h k).1 = false → (sa (σ.2 12) (σ.2 13) (σ.2 14) (σ.2 15) m y mi s h k).2 = g → fX6_allows_L59 (fX6_allows_L23 f) y mi s h (b01 g) (k : Int) σ = some (b01 (sa (σ.2 12) (σ.2 13) (σ.2 14) (σ.2 15) m y mi s h m).1, σ) := by
        intro g g1 g2
        have nxt := ih (k + 1) (g && cm (tv y mi s h (σ.2 12 k)) (σ.2 13 k) (σ.2 14 k)) (by omega) (by omega) (by
          rw [sa_succ, g1, g2]
          by_cases q : k + 1 = m ∨ σ.2 15 (k + 1) = 1
          · right
            rw [if_pos q]
            exact ⟨q, by simp⟩
          · left
            have q2 : k + 1 < m := by omega
            have q3 := (hc (k + 1) q2).2.2.2
            rw [if_neg q]
            exact ⟨q2, by omega, rfl⟩)
        unfold fX6_allows_L59
        cases g with
        | false =>
          rw [show b01 false = 0 from rfl]
          simp (disch := omega) only [w32_eq, gI_eq, gB_eq, g0_eq, ix_nat, ix_eq, bd_some, bv_some, Int.toNat_natCast, Int.toNat_zero, sF_1, sF_2, sA_1, sA_2, sR_1, sR_2, ↓reduceIte, if_pos, if_neg]
          exact nxt
        | true =>
          rw [show b01 true = 1 from rfl]
          have ht : rg (tv y mi s h (σ.2 12 k)) := by
            unfold tv
            split
            · exact hr.2.1
            · split
              · exact hr.2.2.1
              · split
                · exact hr.1
                · exact hr.2.2.2
          simp (disch := omega) only [w32_eq, gI_eq, gB_eq, g0_eq, ix_nat, ix_eq, bd_some, bv_some, Int.toNat_natCast, Int.toNat_zero, sF_1, sF_2, sA_1, sA_2, sR_1, sR_2, ↓reduceIte, if_pos, if_neg]
          rw [asked_eq σ c1, bd_some]
          rw [compares_eq σ ht c2 c3, bd_some]
          cases hcm : cm (tv y mi s h (σ.2 12 k)) (σ.2 13 k) (σ.2 14 k) with
          | false =>
            rw [hcm] at nxt
            simp (disch := omega) only [w32_eq, gI_eq, gB_eq, g0_eq, ix_nat, ix_eq, bd_some, bv_some, Int.toNat_natCast, Int.toNat_zero, sF_1, sF_2, sA_1, sA_2, sR_1, sR_2, ↓reduceIte, if_pos, if_neg, Bool.false_eq_true]
            exact nxt
          | true =>
            rw [hcm] at nxt
            simp (disch := omega) only [w32_eq, gI_eq, gB_eq, g0_eq, ix_nat, ix_eq, bd_some, bv_some, Int.toNat_natCast, Int.toNat_zero, sF_1, sF_2, sA_1, sA_2, sR_1, sR_2, ↓reduceIte, if_pos, if_neg]
            exact nxt
      rcases hI with ⟨i1, i2, i3⟩ | ⟨i1, i2⟩
      · have s1 := step hold (by rw [i3]) (by rw [i3])
        simp (disch := omega) only [w32_eq, gI_eq, gB_eq, g0_eq, ix_nat, ix_eq, bd_some, bv_some, Int.toNat_natCast, Int.toNat_zero, sF_1, sF_2, sA_1, sA_2, sR_1, sR_2, ↓reduceIte, if_pos, if_neg, hm]
        exact s1
      · have i1 : σ.2 15 k = 1 := by omega
        cases hold with
        | false =>
          have s1 := step true (by rw [i2]) (by rw [i2])
          rw [show b01 false = 0 from rfl]
          rw [show b01 true = 1 from rfl] at s1
          simp (disch := omega) only [w32_eq, gI_eq, gB_eq, g0_eq, ix_nat, ix_eq, bd_some, bv_some, Int.toNat_natCast, Int.toNat_zero, sF_1, sF_2, sA_1, sA_2, sR_1, sR_2, ↓reduceIte, if_pos, if_neg, hm]
          exact s1
        | true =>
          have mo := sa_mono (n := k) (show (sa (σ.2 12) (σ.2 13) (σ.2 14) (σ.2 15) m y mi s h k).1 = true by rw [i2]) (m - k)
          rw [show k + (m - k) = m by omega] at mo
          rw [mo, show b01 true = 1 from rfl]
          simp (disch := omega) only [w32_eq, gI_eq, gB_eq, g0_eq, ix_nat, ix_eq, bd_some, bv_some, Int.toNat_natCast, Int.toNat_zero, sF_1, sF_2, sA_1, sA_2, sR_1, sR_2, ↓reduceIte, if_pos, if_neg, hm]
end EMAY
