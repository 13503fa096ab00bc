section ETYPE
variable {σ ρ : St} {R P N T B : Nat}
theorem dv_congr {t u : Nat → Int} {a : Nat} : ∀ {d : Nat}, (∀ j : Nat, j < d → t (a + j) = u (a + j)) → dv t a d = dv u a d
  | 0, _ => rfl
  | d + 1, h => by
    unfold dv
    rw [dv_congr (fun j hj => h j (by omega)), h d (by omega)]
theorem T1_move {σ σ' : St} {t u : Nat → Int} {n a d : Nat} (h : T1 σ t n a d) (ht : ∀ j : Nat, j < a + 2 + d → t j = u j) (h12 : σ'.2 12 n = σ.2 12 n) (h13 : σ'.2 13 n = σ.2 13 n) (h14 : σ'.2 14 n = σ.2 14 n) : T1 σ' u n a d := by
  obtain ⟨q1, q2, q3, q4, q5, q6, q7⟩ := h
  refine ⟨by rw [← ht a (by omega)]; exact q1, by rw [← ht (a + 1) (by omega)]; exact q2, q3, fun j hj => by rw [← ht (a + 2 + j) (by omega)]; exact q4 j hj, by rw [h12, q5, ht a (by omega)], by rw [h13, q6, ht (a + 1) (by omega)], by rw [h14, q7]; exact dv_congr (fun j hj => ht _ (by omega))⟩
theorem T2_move {σ σ' : St} {t u : Nat → Int} {n a b : Nat} {z z' : Int} (h : T2 σ t n a b z) (ht : ∀ j : Nat, j < b → t j = u j) (h12 : σ'.2 12 n = σ.2 12 n) (h13 : σ'.2 13 n = σ.2 13 n) (h14 : σ'.2 14 n = σ.2 14 n) (hz : z' = z) : T2 σ' u n a b z' := by
  obtain ⟨d, q1, q2, q3, q4⟩ := h
  refine ⟨d, q1, T1_move q2 (fun j hj => ht j (by omega)) h12 h13 h14, q3, ?_⟩
  rw [hz, ← ht (a + 2 + d) (by omega)]
  exact q4
/-- places grow -/
theorem ps_grow {σ : St} {t : Nat → Int} {ps : Nat → Nat} {L : Nat} {z : Nat → Int} (h0 : ps 0 = 0) (h : ∀ n : Nat, n < L → T2 σ t n (ps n) (ps (n + 1)) (z n)) : ∀ k : Nat, k ≤ L → 4 * k ≤ ps k ∧ ∀ j : Nat, j ≤ k → ps j ≤ ps k
  | 0, _ => ⟨by omega, fun j hj => by rw [show j = 0 by omega]; exact Nat.le_refl _⟩
  | k + 1, hk => by
    obtain ⟨i1, i2⟩ := ps_grow h0 h k (by omega)
    obtain ⟨d, q1, q2, q3, q4⟩ := h k (by omega)
    refine ⟨by omega, fun j hj => ?_⟩
    rcases Nat.lt_or_ge j (k + 1) with e | e
    · have := i2 j (by omega); omega
    · rw [show j = k + 1 by omega]; exact Nat.le_refl _
/-- what an unbroken text comes to with a byte more -/
theorem goes (h5 : σ.1 7 = -1) (h6 : σ.1 6 = rn t B) (hg : rn t B ≠ -1) {m : Nat} {ps : Nat → Nat} (hT : TS σ t B m ps) (hB : B < 60) {b : Int} (hb : 32 ≤ b ∧ b ≤ 126) {u : Nat → Int} (hu : ∀ j : Nat, j < B → t j = u j) (huB : u B = b) :
    (nx (rn t B) b = -1 ∧ fX6_goesOnWith σ b = some (0, σ)) ∨ (nx (rn t B) b ≠ -1 ∧ ∃ (σ' : St) (m' : Nat) (ps' : Nat → Nat), fX6_goesOnWith σ b = some (1, σ') ∧ σ'.1 6 = nx (rn t B) b ∧ TS σ' u (B + 1) m' ps' ∧ σ'.1 7 = -1 ∧
      ∃ (c5 c6 c8 : Int) (r12 r13 r14 r15 : Nat → Int), σ' = sF (sF (sF (sR (sR (sR (sR σ 12 r12) 13 r13) 14 r14) 15 r15) 5 c5) 6 c6) 8 c8) := by
  sorry
end ETYPE
