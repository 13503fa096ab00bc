section ECNT
def cnt (A : Nat → Bool) : Nat → Nat
  | 0 => 0
  | n + 1 => cnt A n + if A n = true then 1 else 0
theorem cnt_succ (A : Nat → Bool) (n : Nat) : cnt A (n + 1) = cnt A n + if A n = true then 1 else 0 := rfl
theorem cnt_le (A : Nat → Bool) : ∀ n : Nat, cnt A n ≤ n := by
  intro n
  induction n with
  | zero => exact Nat.le_refl 0
  | succ n ih => rw [cnt_succ]; split <;> omega
theorem cnt_congr {A C : Nat → Bool} : ∀ n : Nat, (∀ k : Nat, k < n → A k = C k) → cnt A n = cnt C n := by
  intro n
  induction n with
  | zero => intro _; rfl
  | succ n ih =>
    intro h
    rw [cnt_succ, cnt_succ, ih (fun k hk => h k (by omega)), h n (by omega)]
theorem cnt_rem {A : Nat → Bool} {b : Nat} (hb : A b = true) : ∀ n : Nat, b < n → cnt (fun k => A k && !decide (k = b)) n + 1 = cnt A n := by
  intro n
  induction n with
  | zero => intro h; omega
  | succ n ih =>
    intro h
    rw [cnt_succ, cnt_succ]
    by_cases e : b = n
    · subst e
      have : cnt (fun k => A k && !decide (k = b)) b = cnt A b := cnt_congr b (fun k hk => by
        have : k ≠ b := by omega
        simp [this])
      rw [this, hb]
      simp
    · have := ih (by omega)
      have hn : n ≠ b := by omega
      simp only [hn, decide_false, Bool.not_false, Bool.and_true]
      omega
theorem cnt_inj {w : Nat → Nat} {A : Nat → Bool} {m : Nat} : ∀ (n : Nat) (C : Nat → Bool), (∀ k : Nat, k < n → A k = true → w k < m ∧ C (w k) = true) → (∀ j k : Nat, j < n → k < n → A j = true → A k = true → w j = w k → j = k) → cnt A n ≤ cnt C m := by
  intro n
  induction n with
  | zero => intro C _ _; exact Nat.zero_le _
  | succ n ih =>
    intro C h1 h2
    rw [cnt_succ]
    by_cases c : A n = true
    · rw [if_pos c]
      obtain ⟨b1, b2⟩ := h1 n (by omega) c
      have r := cnt_rem b2 m b1
      have := ih (fun k => C k && !decide (k = w n)) (fun k hk hA => by
        obtain ⟨x1, x2⟩ := h1 k (by omega) hA
        refine ⟨x1, ?_⟩
        have hne : w k ≠ w n := fun e => by
          have := h2 k n (by omega) (by omega) hA c e
          omega
        simp [x2, hne]) (fun j k hj hk hA hB e => h2 j k (by omega) (by omega) hA hB e)
      omega
    · rw [if_neg c]
      exact ih C (fun k hk hA => h1 k (by omega) hA) (fun j k hj hk hA hB e => h2 j k (by omega) (by omega) hA hB e)
end ECNT
section EMATCH
variable {R F M : Nat} {E : Nat → Nat → Prop}
/-- who moves to where: each to a ROOM that it could get, no two to one -/
def Mt (R F M : Nat) (E : Nat → Nat → Prop) (x : Nat → Int) : Prop := (∀ k : Nat, k < M → x k = -1 ∨ (F ≤ k ∧ ∃ r : Nat, r < R ∧ x k = r ∧ E k r)) ∧ ∀ j k : Nat, j < M → k < M → x j ≠ -1 → x j = x k → j = k
def sz (M : Nat) (x : Nat → Int) : Nat := cnt (fun k => decide (x k ≠ -1)) M
/-- the most that can move -/
def Mx (R F M : Nat) (E : Nat → Nat → Prop) (c : Nat) : Prop := (∃ x : Nat → Int, Mt R F M E x ∧ sz M x = c) ∧ ∀ y : Nat → Int, Mt R F M E y → sz M y ≤ c
/-- a trial: who is in each ROOM, and where each one is -/
def MI (R F M : Nat) (E : Nat → Nat → Prop) (ins plc : Nat → Int) : Prop := (∀ r : Nat, r < R → ins r = -1 ∨ ∃ k : Nat, F ≤ k ∧ k < M ∧ ins r = k) ∧ (∀ k : Nat, k < M → plc k = -1 ∨ ∃ r : Nat, r < R ∧ plc k = r ∧ E k r) ∧ ∀ r : Nat, r < R → ∀ k : Nat, k < M → (ins r = k ↔ plc k = r)
theorem MI_Mt {ins plc : Nat → Int} (h : MI R F M E ins plc) : Mt R F M E plc := by
  obtain ⟨h1, h2, h3⟩ := h
  refine ⟨fun k hk => ?_, fun j k hj hk hn e => ?_⟩
  · rcases h2 k hk with z | ⟨r, r1, r2, r3⟩
    · exact Or.inl z
    · right
      refine ⟨?_, r, r1, r2, r3⟩
      have := (h3 r r1 k hk).mpr r2
      rcases h1 r r1 with y | ⟨j, j1, j2, j3⟩
      · omega
      · omega
  · rcases h2 j hj with z | ⟨r, r1, r2, r3⟩
    · exact absurd z hn
    · have a := (h3 r r1 j hj).mpr r2
      have b := (h3 r r1 k hk).mpr (by rw [← e]; exact r2)
      omega
/-- a set that is closed, with all in it who got nothing: no other trial gets more in -/
theorem cert {ins plc : Nat → Int} {U : Nat → Prop} (h : MI R F M E ins plc) (hU : ∀ k : Nat, U k → ∀ r : Nat, r < R → E k r → ∃ v : Nat, U v ∧ v < M ∧ ins r = v) (hun : ∀ k : Nat, F ≤ k → k < M → plc k = -1 → U k) : Mx R F M E (sz M plc) := by
  refine ⟨⟨plc, MI_Mt h, rfl⟩, fun y hy => ?_⟩
  obtain ⟨h1, h2, h3⟩ := id h
  obtain ⟨y1, y2⟩ := hy
  have dU : ∀ k : Nat, Decidable (U k) := fun k => Classical.propDecidable _
  have key : ∀ k : Nat, k < M → y k ≠ -1 → U k → ∃ v r : Nat, U v ∧ v < M ∧ r < R ∧ y k = r ∧ ins r = v ∧ plc v = r := by
    intro k hk hn hu
    rcases y1 k hk with z | ⟨_, r, r1, r2, r3⟩
    · exact absurd z hn
    · obtain ⟨v, v1, v2, v3⟩ := hU k hu r r1 r3
      exact ⟨v, r, v1, v2, r1, r2, v3, (h3 r r1 v v2).mp v3⟩
  obtain ⟨w, hw1, hw2⟩ : ∃ w : Nat → Nat, (∀ k : Nat, k < M → y k ≠ -1 → U k → w k = (ins (y k).toNat).toNat) ∧ (∀ k : Nat, ¬ U k → w k = k) := by
    refine ⟨fun k => @ite _ (U k) (dU k) (ins (y k).toNat).toNat k, fun k _ _ hu => ?_, fun k hu => ?_⟩
    · simp only [if_pos hu]
    · simp only [if_neg hu]
  have val : ∀ k : Nat, k < M → y k ≠ -1 → U k → ∃ r : Nat, r < R ∧ y k = r ∧ U (w k) ∧ w k < M ∧ ins r = (w k : Nat) ∧ plc (w k) = r := by
    intro k hk hn hu
    obtain ⟨v, r, a1, a2, a3, a4, a5, a6⟩ := key k hk hn hu
    have e : w k = v := by
      rw [hw1 k hk hn hu, a4, Int.toNat_natCast, a5, Int.toNat_natCast]
    rw [e]
    exact ⟨r, a3, a4, a1, a2, a5, a6⟩
  refine cnt_inj (w := w) (m := M) M _ (fun k hk hA => ?_) (fun j k hj hk hA hB e => ?_)
  · have hn : y k ≠ -1 := by simpa using hA
    by_cases hu : U k
    · obtain ⟨r, b1, b2, b3, b4, b5, b6⟩ := val k hk hn hu
      refine ⟨b4, ?_⟩
      rw [decide_eq_true_eq, b6]
      omega
    · rw [hw2 k hu]
      refine ⟨hk, ?_⟩
      rw [decide_eq_true_eq]
      intro z
      rcases y1 k hk with y' | ⟨f1, _⟩
      · exact hn y'
      · exact hu (hun k f1 hk z)
  · have hn : y j ≠ -1 := by simpa using hA
    have hm : y k ≠ -1 := by simpa using hB
    by_cases hu : U j
    · obtain ⟨r, b1, b2, b3, b4, b5, b6⟩ := val j hj hn hu
      by_cases hv : U k
      · obtain ⟨s, c1, c2, c3, c4, c5, c6⟩ := val k hk hm hv
        rw [e] at b6
        exact y2 j k hj hk hn (by omega)
      · rw [hw2 k hv] at e
        rw [e] at b3
        exact absurd b3 hv
    · rw [hw2 j hu] at e
      by_cases hv : U k
      · obtain ⟨s, c1, c2, c3, c4, c5, c6⟩ := val k hk hm hv
        rw [← e] at c3
        exact absurd c3 hu
      · rw [hw2 k hv] at e
        exact e
theorem Mx_inj {c d : Nat} (h : Mx R F M E c) (g : Mx R F M E d) : c = d := by
  obtain ⟨⟨x, x1, x2⟩, x3⟩ := h
  obtain ⟨⟨y, y1, y2⟩, y3⟩ := g
  have a := x3 y y1
  have b := y3 x x1
  omega
/-- the first one of them moves or not -/
theorem Mx_step {c c' : Nat} {d : Nat → Nat} (hF : F < M) (h : Mx R F M E c) (h' : Mx R (F + 1) M E c') (hd : ∀ r : Nat, r < R → E F r → Mx R (F + 1) M (fun k s => E k s ∧ s ≠ r) (d r)) : c = c' ∨ ∃ r : Nat, r < R ∧ E F r ∧ c = 1 + d r := by
  obtain ⟨⟨x, x1, x2⟩, x3⟩ := h
  obtain ⟨⟨x', x1', x2'⟩, x3'⟩ := h'
  rcases x1.1 F hF with z | ⟨_, r, r1, r2, r3⟩
  · left
    have a : sz M x' ≤ c := x3 x' ⟨fun k hk => by
      rcases x1'.1 k hk with y | ⟨y1, y2⟩
      · exact Or.inl y
      · exact Or.inr ⟨by omega, y2⟩, x1'.2⟩
    have b : sz M x ≤ c' := x3' x ⟨fun k hk => by
      rcases x1.1 k hk with y | ⟨y1, y2⟩
      · exact Or.inl y
      · right
        refine ⟨?_, y2⟩
        by_cases e : k = F
        · subst e
          obtain ⟨s, _, s2, _⟩ := y2
          omega
        · omega, x1.2⟩
    omega
  · right
    refine ⟨r, r1, r3, ?_⟩
    obtain ⟨⟨v, v1, v2⟩, v3⟩ := hd r r1 r3
    have vF : v F = -1 := by
      rcases v1.1 F hF with y | ⟨y1, _⟩
      · exact y
      · omega
    have a : sz M (fun k => if k = F then -1 else x k) + 1 = sz M x := by
      have := cnt_rem (A := fun k => decide (x k ≠ -1)) (b := F) (by rw [decide_eq_true_eq, r2]; omega) M hF
      rw [← show cnt (fun k => (fun k => decide (x k ≠ -1)) k && !decide (k = F)) M + 1 = sz M x from this]
      unfold sz
      rw [cnt_congr M (fun k hk => ?_)]
      by_cases e : k = F
      · simp [e]
      · simp [e]
    have b : sz M (fun k => if k = F then -1 else x k) ≤ d r := v3 _ ⟨fun k hk => by
      by_cases e : k = F
      · left; simp only [if_pos e]
      · simp only [if_neg e]
        rcases x1.1 k hk with y | ⟨y1, s, s1, s2, s3⟩
        · exact Or.inl y
        · right
          refine ⟨by omega, s, s1, s2, s3, ?_⟩
          intro es
          have := x1.2 F k hF hk (by rw [r2]; omega) (by rw [r2, s2, es])
          omega, fun j k hj hk hn he => by
      by_cases e : j = F
      · simp only [if_pos e] at hn
        exact absurd rfl hn
      · simp only [if_neg e] at hn he
        by_cases e2 : k = F
        · simp only [if_pos e2] at he
          exact absurd he hn
        · simp only [if_neg e2] at he
          exact x1.2 j k hj hk hn he⟩
    have f : sz M (fun k => if k = F then (r : Int) else v k) = sz M v + 1 := by
      have := cnt_rem (A := fun k => decide ((fun k => if k = F then (r : Int) else v k) k ≠ -1)) (b := F) (by simp only [if_pos]; rw [decide_eq_true_eq]; omega) M hF
      rw [show sz M (fun k => if k = F then (r : Int) else v k) = _ from this.symm]
      unfold sz
      rw [cnt_congr M (fun k hk => ?_)]
      by_cases e : k = F
      · simp [e, vF]
      · simp [e]
    have g : sz M (fun k => if k = F then (r : Int) else v k) ≤ c := x3 _ ⟨fun k hk => by
      by_cases e : k = F
      · right
        simp only [if_pos e]
        exact ⟨by omega, r, r1, rfl, by rw [e]; exact r3⟩
      · simp only [if_neg e]
        rcases v1.1 k hk with y | ⟨y1, s, s1, s2, s3⟩
        · exact Or.inl y
        · exact Or.inr ⟨by omega, s, s1, s2, s3.1⟩, fun j k hj hk hn he => by
      by_cases e : j = F
      · by_cases e2 : k = F
        · omega
        · simp only [if_pos e, if_neg e2] at he
          exfalso
          rcases v1.1 k hk with y | ⟨y1, s, s1, s2, s3⟩
          · omega
          · exact s3.2 (by omega)
      · by_cases e2 : k = F
        · simp only [if_neg e, if_pos e2] at he
          exfalso
          rcases v1.1 j hj with y | ⟨y1, s, s1, s2, s3⟩
          · omega
          · exact s3.2 (by omega)
        · simp only [if_neg e, if_neg e2] at he hn
          exact v1.2 j k hj hk hn he⟩
    omega
end EMATCH
