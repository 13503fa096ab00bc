/-! ===== the start ===== -/
def s0C : St := (fun k => if k = 7 ∨ k = 17 then -1 else if k = 8 then 1 else 0, fun k j => if k = 26 then (if j < 960 then -1 else 0) else if k = 29 then (if j < 480 then -1 else 0) else 0)
def s0R : St := (fun _ => 0, fun _ _ => 0)
theorem inv_start : Inv s0C s0R := by
  refine ⟨0, 0, 0, 0, 0, ⟨rfl, by omega, rfl, by omega, rfl⟩, ⟨rfl, fun r h => by omega⟩, ⟨rfl, by show (0 : Int) ≤ 0; omega, by show (0 : Int) < 256; omega⟩, ⟨rfl, fun p h => by omega⟩, ⟨fun p h => by omega, fun p _ _ => rfl⟩, ⟨fun p h => by omega, fun r h => by omega, fun k hk => ?_⟩, ⟨fun p h => by omega, fun p _ _ => ⟨rfl, rfl⟩⟩, fun i h => by omega, ⟨rfl, rfl, rfl⟩, ⟨rfl, rfl, by omega, fun p h => by omega, fun p h1 h2 n h3 => ?_⟩, ⟨rfl, rfl, by omega, fun k h => by omega, fun h n h1 h2 => ?_, fun h => by omega⟩, ⟨rfl, rfl, by omega, fun i h => by omega, Or.inr ⟨rfl, rfl, ?_, 0, fun _ => 0, ?_⟩⟩⟩
  · show tb 0 k = true ↔ _
    rw [tb_0]
    simp
  · show (if p * 60 + n < 960 then (-1 : Int) else 0) = -1
    rw [if_pos (by omega)]
  · show (if h * 60 + n < 480 then (-1 : Int) else 0) = _
    rw [if_pos (by omega)]
    rfl
  · show (0 : Int) ≠ -1
    omega
  · exact ⟨rfl, rfl, fun h => by omega, fun n h => by omega, Or.inl ⟨rfl, rfl, fun _ => rfl, fun n h => by omega⟩⟩
set_option maxRecDepth 100000 in
set_option maxHeartbeats 4000000 in
theorem law_start {Γ : Cx} {cI cZ : ClassId} {b L : Nat} {X : Nat → Int} (C : CX cI cZ room_1 4 Γ code RL) (hX : SX (cst Γ 68 3857) b L X) (hr : ∀ j : Nat, rg (X j)) (hL : L ≤ 2048) (hend : ∀ (ws : va_W) (lv : List (Nat × Value)), JJ wI (cst Γ 68 3857) ws 925 lv [.int (iI 1)]) : JJ wI (cst Γ 0 0) [] 0 [(0, .ref b)] [] := by
  refine n_new (Cn := RX10) (T := TX10) (N := 10) (fs := [.null, .null, .null, .null, .null, .null, .null, .null, .null, .null]) 0 0 10 tyX10 (CX_st C (k := 0) (n := 0) (Nat.le_of_ble_eq_true rfl) (Nat.le_of_ble_eq_true rfl)) (Nat.le_of_ble_eq_true rfl) (Nat.le_of_ble_eq_true rfl) inX10 tyX10_ok wt_16 wt_17 wt_1 rfl (fun j hj => by rcases (show j = 0 ∨ j = 1 ∨ j = 2 ∨ j = 3 ∨ j = 4 ∨ j = 5 ∨ j = 6 ∨ j = 7 ∨ j = 8 ∨ j = 9 by omega) with rfl | rfl | rfl | rfl | rfl | rfl | rfl | rfl | rfl | rfl <;> first | rfl | exact congrArg Value.int iI_0) dL_law_0 (fun q1 => ?_)
  refine j_dup (CX_st C (k := 1) (n := 10) (Nat.le_of_ble_eq_true rfl) (Nat.le_of_ble_eq_true rfl)) rfl dL_law_3 ?_
  refine n_call [] [.ref q1] 1 10 (CX_st C (k := 1) (n := 10) (Nat.le_of_ble_eq_true rfl) (Nat.le_of_ble_eq_true rfl)) (cn_X10 _ _ cI cZ q1 []) mf_X10_init wt_18 wt_19 rfl rfl ⟨rfl, rfl, by decide, by decide⟩ rfl (Nat.le_of_ble_eq_true rfl) dL_law_4 (Nat.le_of_ble_eq_true rfl) (Nat.le_of_ble_eq_true rfl) (fun u => ?_)
  refine n_astore [(1, .ref q1), (0, .ref b)] (CX_st C (k := 42) (n := 2226) (Nat.le_of_ble_eq_true rfl) (Nat.le_of_ble_eq_true rfl)) dL_law_7 (by decide) rfl ?_
  obtain ⟨ad, had⟩ : ∃ ad : Nat → Nat, ad = fun i => ([q1, u 0, u 1, u 6, u 14, u 20, u 22, u 24, u 27, u 34, u 36, u 19, u 2, u 3, u 4, u 5, u 7, u 8, u 9, u 10, u 11, u 12, u 13, u 15, u 16, u 17, u 18, u 21, u 23, u 25, u 26, u 28, u 29, u 30, u 31, u 32, u 33, u 35, u 37, u 38, u 39, u 40] : List Nat).getD i 0 := ⟨_, rfl⟩
  have e1 : q1 = ad 0 := by rw [had]; rfl
  refine l_perm (ws' := wC ad cI cZ s0C) [41, 40, 39, 34, 26, 20, 18, 16, 13, 6, 4, 21, 38, 37, 36, 35, 33, 32, 31, 30, 29, 28, 27, 25, 24, 23, 22, 19, 17, 15, 14, 12, 11, 10, 9, 8, 7, 5, 3, 2, 1, 0] (by rw [had]; rfl) (by decide) ?_
  rw [e1]
  refine n_new (Cn := RX11) (T := TX11) (N := 32) (fs := [.int (iI 0), .null, .null, .null, .int (iI 0), .int (iI 0), .null, .null, .null, .null, .null, .null, .null, .null, .null, .int (iI 0), .null, .null, .null, .int (iI 0), .null, .null, .null, .null, .null, .null, .int (iI 0), .null, .int (iI 0), .null, .null, .null]) 42 2226 11 tyX11 (CX_st C (k := 42) (n := 2226) (Nat.le_of_ble_eq_true rfl) (Nat.le_of_ble_eq_true rfl)) (Nat.le_of_ble_eq_true rfl) (Nat.le_of_ble_eq_true rfl) inX11 tyX11_ok wt_828 wt_829 wt_13 rfl (fun j hj => by rcases (show j = 0 ∨ j = 1 ∨ j = 2 ∨ j = 3 ∨ j = 4 ∨ j = 5 ∨ j = 6 ∨ j = 7 ∨ j = 8 ∨ j = 9 ∨ j = 10 ∨ j = 11 ∨ j = 12 ∨ j = 13 ∨ j = 14 ∨ j = 15 ∨ j = 16 ∨ j = 17 ∨ j = 18 ∨ j = 19 ∨ j = 20 ∨ j = 21 ∨ j = 22 ∨ j = 23 ∨ j = 24 ∨ j = 25 ∨ j = 26 ∨ j = 27 ∨ j = 28 ∨ j = 29 ∨ j = 30 ∨ j = 31 by omega) with rfl | rfl | rfl | rfl | rfl | rfl | rfl | rfl | rfl | rfl | rfl | rfl | rfl | rfl | rfl | rfl | rfl | rfl | rfl | rfl | rfl | rfl | rfl | rfl | rfl | rfl | rfl | rfl | rfl | rfl | rfl | rfl <;> first | rfl | exact congrArg Value.int iI_0) dL_law_8 (fun q2 => ?_)
  refine j_dup (CX_st C (k := 43) (n := 2258) (Nat.le_of_ble_eq_true rfl) (Nat.le_of_ble_eq_true rfl)) rfl dL_law_11 ?_
  refine n_call [] [.ref q2] 43 2258 (CX_st C (k := 43) (n := 2258) (Nat.le_of_ble_eq_true rfl) (Nat.le_of_ble_eq_true rfl)) (cn_X11 _ _ cI cZ q2 (wC ad cI cZ s0C)) mf_X11_init wt_830 wt_831 rfl rfl ⟨rfl, rfl, by decide, by decide⟩ rfl (Nat.le_of_ble_eq_true rfl) dL_law_12 (Nat.le_of_ble_eq_true rfl) (Nat.le_of_ble_eq_true rfl) (fun v => ?_)
  refine n_astore [(2, .ref q2), (1, .ref (ad 0)), (0, .ref b)] (CX_st C (k := 68) (n := 3857) (Nat.le_of_ble_eq_true rfl) (Nat.le_of_ble_eq_true rfl)) dL_law_15 (by decide) rfl ?_
  obtain ⟨ae, hae⟩ : ∃ ae : Nat → Nat, ae = fun i => ([q2, v 0, v 1, v 2, v 3, v 4, v 5, v 6, v 7, v 8, v 9, v 10, v 11, v 12, v 13, v 14, v 15, v 16, v 17, v 18, v 19, v 20, v 21, v 22, v 23, v 24] : List Nat).getD i 0 := ⟨_, rfl⟩
  have e2 : q2 = ae 0 := by rw [hae]; rfl
  refine l_perm (ws' := wC ad cI cZ s0C ++ wR ae cI cZ s0R) [26, 27, 28, 29, 30, 31, 32, 33, 34, 35, 36, 37, 38, 39, 40, 41, 42, 43, 44, 45, 46, 47, 48, 49, 50, 51, 52, 53, 54, 55, 56, 57, 58, 59, 60, 61, 62, 63, 64, 65, 66, 67, 25, 24, 23, 22, 21, 20, 19, 18, 17, 16, 15, 14, 13, 12, 11, 10, 9, 8, 7, 6, 5, 4, 3, 2, 1, 0] (by rw [hae]; rfl) (by decide) ?_
  rw [e2]
  refine j_iconst (CX_st C (k := 68) (n := 3857) (Nat.le_of_ble_eq_true rfl) (Nat.le_of_ble_eq_true rfl)) dL_law_16 ?_
  refine j_istore_n [(3, .int (iI 0)), (2, .ref (ae 0)), (1, .ref (ad 0)), (0, .ref b)] (CX_st C (k := 68) (n := 3857) (Nat.le_of_ble_eq_true rfl) (Nat.le_of_ble_eq_true rfl)) dL_law_17 (by decide) rfl ?_
  exact j_sub [3, 2, 1, 0] rfl (law_loop (CX_st C (k := 68) (n := 3857) (Nat.le_of_ble_eq_true rfl) (Nat.le_of_ble_eq_true rfl)) hX hr hL hend L 0 s0C s0R inv_start (by omega) (by omega))
