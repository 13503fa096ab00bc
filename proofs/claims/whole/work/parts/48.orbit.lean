section EORB
/-! ===== drawers: more things than places ===== -/
theorem fb_holes : ∀ (m n : Nat) (f : Nat → Nat), (∀ i, i < n → f i < m) → (∀ i j, i < j → j < n → f i ≠ f j) → n ≤ m := by
  intro m
  induction m with
  | zero =>
    intro n f h1 _
    rcases Nat.eq_zero_or_pos n with h | h
    · omega
    · exact absurd (h1 0 h) (Nat.not_lt_zero _)
  | succ m ih =>
    intro n f h1 h2
    by_cases hx : ∃ i, i < n ∧ f i = m
    · obtain ⟨a, ha, hfa⟩ := hx
      have hg := ih (n - 1) (fun i => if i < a then f i else f (i + 1)) (by
        intro i hi
        by_cases q : i < a
        · simp only [if_pos q]
          have b1 := h1 i (by omega)
          have b2 := h2 i a q ha
          omega
        · simp only [if_neg q]
          have b1 := h1 (i + 1) (by omega)
          have b2 := h2 a (i + 1) (by omega) (by omega)
          omega) (by
        intro i j hij hj
        by_cases q : i < a
        · by_cases r : j < a
          · simp only [if_pos q, if_pos r]
            exact h2 i j hij (by omega)
          · simp only [if_pos q, if_neg r]
            exact h2 i (j + 1) (by omega) (by omega)
        · have r : ¬ j < a := by omega
          simp only [if_neg q, if_neg r]
          exact h2 (i + 1) (j + 1) (by omega) (by omega))
      omega
    · have hg := ih n f (fun i hi => by
        have b1 := h1 i hi
        have b2 : f i ≠ m := fun e => hx ⟨i, hi, e⟩
        omega) h2
      omega
/-- two of them in one place -/
theorem fb_twice {m n : Nat} {f : Nat → Nat} (h : ∀ i, i < n → f i < m) (hm : m < n) : ∃ i j, i < j ∧ j < n ∧ f i = f j := by
  refine Classical.byContradiction fun hx => ?_
  have := fb_holes m n f h (fun i j hij hj e => hx ⟨i, j, hij, hj, e⟩)
  omega
/-- n steps on -/
def itr (t : Nat → Nat) : Nat → Nat → Nat
  | 0, p => p
  | n + 1, p => t (itr t n p)
variable {t : Nat → Nat}
theorem itr_succ (n p : Nat) : itr t (n + 1) p = t (itr t n p) := rfl
theorem itr_add (m n p : Nat) : itr t (m + n) p = itr t m (itr t n p) := by
  induction m with
  | zero => rw [Nat.zero_add]; rfl
  | succ m ih => rw [show m + 1 + n = (m + n) + 1 by omega, itr_succ, itr_succ, ih]
theorem itr_comm (m n p : Nat) : itr t m (itr t n p) = itr t n (itr t m p) := by
  rw [← itr_add, ← itr_add, Nat.add_comm]
theorem itr_one (n p : Nat) : itr t (n + 1) p = itr t n (t p) := itr_add n 1 p
/-- p is in a ring of n -/
def per (t : Nat → Nat) (p n : Nat) : Prop := 1 ≤ n ∧ itr t n p = p ∧ ∀ m : Nat, 1 ≤ m → m < n → itr t m p ≠ p
theorem per_inj {p n m : Nat} (h : per t p n) (g : per t p m) : n = m := by
  rcases Nat.lt_trichotomy n m with z | z | z
  · exact absurd h.2.1 (g.2.2 n h.1 z)
  · exact z
  · exact absurd g.2.1 (h.2.2 m g.1 z)
theorem per_of {p : Nat} : ∀ n : Nat, 1 ≤ n → itr t n p = p → ∃ m : Nat, m ≤ n ∧ per t p m := by
  intro n
  induction n using Nat.strongRecOn with
  | _ n ih =>
    intro h1 h2
    by_cases c : ∃ m : Nat, 1 ≤ m ∧ m < n ∧ itr t m p = p
    · obtain ⟨m, a, b, d⟩ := c
      obtain ⟨k, k1, k2⟩ := ih m b a d
      exact ⟨k, by omega, k2⟩
    · exact ⟨n, Nat.le_refl n, h1, h2, fun m a b d => c ⟨m, a, b, d⟩⟩
theorem per_mul {p n : Nat} (h : itr t n p = p) : ∀ k : Nat, itr t (n * k) p = p := by
  intro k
  induction k with
  | zero => rfl
  | succ k ih => rw [Nat.mul_succ, itr_add, h, ih]
theorem per_mod {p n : Nat} (h : per t p n) (m : Nat) : itr t m p = itr t (m % n) p := by
  have e : m = m % n + n * (m / n) := by have := Nat.mod_add_div m n; omega
  rw [show itr t m p = itr t (m % n + n * (m / n)) p by rw [← e], itr_add, per_mul h.2.1]
/-- whom p leads to is in the same ring, and leads back -/
theorem per_move {p n j : Nat} (h : per t p n) (hj : j < n) : per t (itr t j p) n ∧ ∃ k : Nat, k < n ∧ itr t k (itr t j p) = p := by
  have back : ∃ k : Nat, k < n ∧ itr t k (itr t j p) = p := by
    by_cases e : j = 0
    · subst e; exact ⟨0, by omega, rfl⟩
    · refine ⟨n - j, by omega, ?_⟩
      rw [← itr_add, show n - j + j = n by omega, h.2.1]
  refine ⟨⟨h.1, by rw [itr_comm, h.2.1], fun m a b d => ?_⟩, back⟩
  obtain ⟨k, k1, k2⟩ := back
  apply h.2.2 m a b
  rw [← k2, itr_comm, d]
theorem per_apart {p n : Nat} (h : per t p n) {a b : Nat} (hab : a < b) (hb : b < n) : itr t a p ≠ itr t b p := by
  intro e
  have : itr t (n - b + a) p = p := by rw [itr_add, e, ← itr_add, show n - b + b = n by omega, h.2.1]
  exact h.2.2 (n - b + a) (by omega) (by omega) this
/-- who stays among m -/
theorem itr_in {S : Nat → Prop} (hS : ∀ p : Nat, S p → S (t p)) {p : Nat} (hp : S p) : ∀ n : Nat, S (itr t n p) := by
  intro n
  induction n with
  | zero => exact hp
  | succ n ih => exact hS _ ih
theorem per_le {S : Nat → Prop} (hS : ∀ p : Nat, S p → S (t p)) {m : Nat} (hm : ∀ p : Nat, S p → p < m) {p n : Nat} (hp : S p) (h : per t p n) : n ≤ m :=
  fb_holes m n (fun i => itr t i p) (fun i _ => hm _ (itr_in hS hp i)) (fun _ _ hij hj => per_apart h hij hj)
/-- there is a ring -/
theorem ring_ex {S : Nat → Prop} (hS : ∀ p : Nat, S p → S (t p)) {m : Nat} (hm : ∀ p : Nat, S p → p < m) {p : Nat} (hp : S p) : ∃ q n : Nat, S q ∧ per t q n := by
  obtain ⟨i, j, h1, h2, h3⟩ := fb_twice (m := m) (n := m + 1) (f := fun i => itr t i p) (fun i _ => hm _ (itr_in hS hp i)) (by omega)
  have h4 : itr t i p = itr t j p := h3
  obtain ⟨k, k1, k2⟩ := per_of (t := t) (p := itr t i p) (j - i) (by omega) (by rw [← itr_add, show j - i + i = j by omega, h4])
  exact ⟨itr t i p, k, itr_in hS hp i, k2⟩
/-- in rings nobody is pointed at twice -/
theorem ring_one {p q m n : Nat} (hp : per t p m) (hq : per t q n) (e : t p = t q) : p = q := by
  have a : itr t (m * n) p = p := per_mul hp.2.1 n
  have b : itr t (m * n) q = q := by rw [Nat.mul_comm]; exact per_mul hq.2.1 m
  have c : 1 ≤ m * n := Nat.mul_pos hp.1 hq.1
  obtain ⟨k, hk⟩ : ∃ k : Nat, m * n = k + 1 := ⟨m * n - 1, by omega⟩
  rw [hk, itr_one] at a b
  rw [← a, ← b, e]
theorem ring_pre {p n : Nat} (h : per t p n) : ∃ q : Nat, per t q n ∧ t q = p ∧ ∃ j : Nat, q = itr t j p := by
  obtain ⟨a, b⟩ := per_move h (show n - 1 < n by have := h.1; omega)
  refine ⟨itr t (n - 1) p, a, ?_, n - 1, rfl⟩
  rw [← itr_succ (t := t), show n - 1 + 1 = n by have := h.1; omega, h.2.1]
theorem per_t {p n : Nat} (h : per t p n) : per t (t p) n := by
  by_cases e : n = 1
  · have := h.2.1
    rw [e] at this
    have e2 : t p = p := this
    rw [e2]; exact h
  · exact (per_move h (show 1 < n by have := h.1; omega)).1
end EORB
/-! how many bits a mask has below k -/
section ECB
def cb (x : Int) : Nat → Nat
  | 0 => 0
  | k + 1 => cb x k + if tb x k = true then 1 else 0
theorem cb_le (x : Int) : ∀ k : Nat, cb x k ≤ k := by
  intro k
  induction k with
  | zero => exact Nat.le_refl 0
  | succ k ih => unfold cb; split <;> omega
theorem cb_mono {x y : Int} : ∀ k : Nat, (∀ j : Nat, j < k → tb x j = true → tb y j = true) → cb x k ≤ cb y k := by
  intro k
  induction k with
  | zero => intro _; exact Nat.le_refl 0
  | succ k ih =>
    intro h
    have := ih (fun j hj => h j (by omega))
    unfold cb
    by_cases c : tb x k = true
    · rw [if_pos c, if_pos (h k (by omega) c)]; omega
    · rw [if_neg c]; split <;> omega
theorem cb_less {x y : Int} : ∀ k : Nat, (∀ j : Nat, j < k → tb x j = true → tb y j = true) → (∃ j : Nat, j < k ∧ tb x j = false ∧ tb y j = true) → cb x k < cb y k := by
  intro k
  induction k with
  | zero => rintro _ ⟨j, h, _⟩; omega
  | succ k ih =>
    rintro h ⟨j, h1, h2, h3⟩
    unfold cb
    by_cases e : j = k
    · subst e
      have := cb_mono j (fun i hi => h i (by omega))
      rw [if_pos h3, h2]
      simp only [Bool.false_eq_true, if_false]
      omega
    · have := ih (fun i hi => h i (by omega)) ⟨j, by omega, h2, h3⟩
      by_cases c : tb x k = true
      · rw [if_pos c, if_pos (h k (by omega) c)]; omega
      · rw [if_neg c]; split <;> omega
theorem cb_pos {x : Int} {j : Nat} (h : tb x j = true) : ∀ k : Nat, j < k → 1 ≤ cb x k := by
  intro k
  induction k with
  | zero => intro h; omega
  | succ k ih =>
    intro hj
    unfold cb
    by_cases e : j = k
    · subst e; rw [if_pos h]; omega
    · have := ih (by omega); omega
theorem tb_some {x : Int} (hw : w32 x = x) (h0 : x ≠ 0) : ∃ k : Nat, k < 32 ∧ tb x k = true := by
  refine Classical.byContradiction fun hx => h0 ?_
  have e := tb_ext (x := x) (y := 0) (fun k hk => by
    rw [tb_0]
    cases ht : tb x k with
    | false => rfl
    | true => exact absurd ⟨k, hk, ht⟩ hx)
  rw [hw, w32_eq (by omega)] at e
  exact e
end ECB
