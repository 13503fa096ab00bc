/-! TermLodgings.change(II)I -/
def rm_X10_change : Room := { frames := 3, cells := 0, slots := 0, locals := 66 }
set_option maxRecDepth 20000 in
theorem tX10_change_L0 {ad : Nat → Nat} {cI cZ : ClassId} {Γ : Cx} {r : Int} {σ' : St} (C : CX cI cZ rm_X10_change 3 Γ cX10_change RX10) (hq : RetI .int (wC ad cI cZ) Γ cX10_change r σ') (v1 : Int) (v2 : Int) (σ : St) (hf : fX10_change_L0 v1 v2 σ = some (r, σ')) : JJ (wC ad cI cZ) Γ σ 0 [(0, .ref (ad 0)), (1, .int (iI v1)), (2, .int (iI v2))] [] := by
  unfold fX10_change_L0 at hf
  refine j_aload_n 0 C dX10_change_0 rfl ?_
  refine gC_0_4 C wt_331 dX10_change_1 ?_
  refine j_iload_n 1 C dX10_change_4 rfl ?_
  obtain ⟨a1, s1, hc, hf⟩ := bd_s hf
  refine j_cVi (q0 := 5) (ci := 9) (T := TX9) (N := 2) [.int (iI v1)] [] C (c_X9_has _ _ ad cI cZ _ _ _ _ hc) mf_X9_has wt_556 wt_544 wt_545 rfl rfl rfl ⟨rfl, rfl, by decide, by decide⟩ rfl (Nat.le_of_ble_eq_true rfl) dX10_change_5 ?_
  refine j_if_eq 22 C rfl dX10_change_8 (by decide) (fun h => ?_) (fun h => ?_)
  · have hf := ifp h hf
    refine j_bipush C dX10_change_22 bp_m2 ?_
    exact retI hq hf dX10_change_24
  · have hf := ifn h hf
    refine j_aload_n 0 C dX10_change_11 rfl ?_
    refine gC_0_4 C wt_331 dX10_change_12 ?_
    refine j_iload_n 2 C dX10_change_15 rfl ?_
    obtain ⟨a2, s2, hc, hf⟩ := bd_s hf
    refine j_cVi (q0 := 5) (ci := 9) (T := TX9) (N := 2) [.int (iI v2)] [] C (c_X9_has _ _ ad cI cZ _ _ _ _ hc) mf_X9_has wt_556 wt_544 wt_545 rfl rfl rfl ⟨rfl, rfl, by decide, by decide⟩ rfl (Nat.le_of_ble_eq_true rfl) dX10_change_16 ?_
    refine j_if_ne 25 C rfl dX10_change_19 (by decide) (fun h => ?_) (fun h => ?_)
    · have hf := ifn h hf
      refine j_aload_n 0 C dX10_change_25 rfl ?_
      refine gC_0_4 C wt_331 dX10_change_26 ?_
      refine j_iload_n 1 C dX10_change_29 rfl ?_
      refine j_iload_n 2 C dX10_change_30 rfl ?_
      obtain ⟨s3, hc, hf⟩ := bv_s hf
      refine j_cVv (q0 := 5) (ci := 9) (T := TX9) (N := 2) [.int (iI v1), .int (iI v2)] [] C (c_X9_swap _ _ ad cI cZ _ _ _ _ hc) mf_X9_swap wt_557 wt_540 wt_541 rfl rfl rfl ⟨rfl, rfl, by decide, by decide⟩ rfl (Nat.le_of_ble_eq_true rfl) dX10_change_31 ?_
      refine j_iconst C dX10_change_34 ?_
      exact retI hq hf dX10_change_35
    · have hf := ifp h hf
      refine j_bipush C dX10_change_22 bp_m2 ?_
      exact retI hq hf dX10_change_24
theorem c_X10_change (l : Launch) (D : va_G) (ad : Nat → Nat) (cI cZ : ClassId) (σ : St) (v1 : Int) (v2 : Int) (r : Int) (σ' : St) (hf : fX10_change σ v1 v2 = some (r, σ')) : McI l yX10_change cX10_change 3 .int rm_X10_change D (tyL cI cZ) (wC ad cI cZ) [.ref (ad 0), .int (iI v1), .int (iI v2)] σ r σ' := McI.mk mf_X10_change.2.2.2.2.2 (Nat.le_of_ble_eq_true rfl) (fun Γ C hq => j_sub [0, 1, 2] rfl (tX10_change_L0 C hq v1 v2 σ hf))
/-! TermLodgings.turn(I)I -/
def rm_X10_turn : Room := { frames := 3, cells := 0, slots := 0, locals := 64 }
set_option maxRecDepth 20000 in
theorem tX10_turn_L0 {ad : Nat → Nat} {cI cZ : ClassId} {Γ : Cx} {r : Int} {σ' : St} (C : CX cI cZ rm_X10_turn 2 Γ cX10_turn RX10) (hq : RetI .int (wC ad cI cZ) Γ cX10_turn r σ') (v1 : Int) (σ : St) (hf : fX10_turn_L0 v1 σ = some (r, σ')) : JJ (wC ad cI cZ) Γ σ 0 [(0, .ref (ad 0)), (1, .int (iI v1))] [] := by
  unfold fX10_turn_L0 at hf
  refine j_aload_n 0 C dX10_turn_0 rfl ?_
  refine gC_0_4 C wt_331 dX10_turn_1 ?_
  refine j_iload_n 1 C dX10_turn_4 rfl ?_
  obtain ⟨a1, s1, hc, hf⟩ := bd_s hf
  refine j_cVi (q0 := 5) (ci := 9) (T := TX9) (N := 2) [.int (iI v1)] [] C (c_X9_has _ _ ad cI cZ _ _ _ _ hc) mf_X9_has wt_556 wt_544 wt_545 rfl rfl rfl ⟨rfl, rfl, by decide, by decide⟩ rfl (Nat.le_of_ble_eq_true rfl) dX10_turn_5 ?_
  refine j_if_eq 22 C rfl dX10_turn_8 (by decide) (fun h => ?_) (fun h => ?_)
  · have hf := ifp h hf
    refine j_bipush C dX10_turn_22 bp_m2 ?_
    exact retI hq hf dX10_turn_24
  · have hf := ifn h hf
    refine j_aload_n 0 C dX10_turn_11 rfl ?_
    refine gC_0_4 C wt_331 dX10_turn_12 ?_
    refine j_iload_n 1 C dX10_turn_15 rfl ?_
    obtain ⟨a2, s2, hc, hf⟩ := bd_s hf
    refine j_cVi (q0 := 5) (ci := 9) (T := TX9) (N := 2) [.int (iI v1)] [] C (c_X9_at _ _ ad cI cZ _ _ _ _ hc) mf_X9_at wt_548 wt_549 wt_550 rfl rfl rfl ⟨rfl, rfl, by decide, by decide⟩ rfl (Nat.le_of_ble_eq_true rfl) dX10_turn_16 ?_
    refine j_goto 24 C dX10_turn_19 (by decide) ?_
    exact retI hq hf dX10_turn_24
theorem c_X10_turn (l : Launch) (D : va_G) (ad : Nat → Nat) (cI cZ : ClassId) (σ : St) (v1 : Int) (r : Int) (σ' : St) (hf : fX10_turn σ v1 = some (r, σ')) : McI l yX10_turn cX10_turn 2 .int rm_X10_turn D (tyL cI cZ) (wC ad cI cZ) [.ref (ad 0), .int (iI v1)] σ r σ' := McI.mk mf_X10_turn.2.2.2.2.2 (Nat.le_of_ble_eq_true rfl) (fun Γ C hq => j_sub [0, 1] rfl (tX10_turn_L0 C hq v1 σ hf))
/-! TermLodgings.deal()I -/
def rm_X10_deal : Room := { frames := 6, cells := 0, slots := 0, locals := 139 }
set_option maxRecDepth 20000 in
theorem tX10_deal_L0 {ad : Nat → Nat} {cI cZ : ClassId} {Γ : Cx} {r : Int} {σ' : St} (C : CX cI cZ rm_X10_deal 1 Γ cX10_deal RX10) (hq : RetI .int (wC ad cI cZ) Γ cX10_deal r σ') (σ : St) (hf : fX10_deal_L0 σ = some (r, σ')) : JJ (wC ad cI cZ) Γ σ 0 [(0, .ref (ad 0))] [] := by
  unfold fX10_deal_L0 at hf
  refine j_aload_n 0 C dX10_deal_0 rfl ?_
  refine gC_0_5 C wt_332 dX10_deal_1 ?_
  refine j_aload_n 0 C dX10_deal_4 rfl ?_
  refine gC_0_4 C wt_331 dX10_deal_5 ?_
  obtain ⟨s1, hc, hf⟩ := bv_s hf
  refine j_cVv (q0 := 6) (ci := 0) (T := TX0) (N := 4) [.ref (ad 5)] [] C (c_X0_run _ _ ad cI cZ _ _ hc) mf_X0_run wt_566 wt_567 wt_568 rfl rfl rfl ⟨rfl, rfl, by decide, by decide⟩ rfl (Nat.le_of_ble_eq_true rfl) dX10_deal_8 ?_
  refine j_aload_n 0 C dX10_deal_11 rfl ?_
  refine gC_0_1 C wt_328 dX10_deal_12 ?_
  obtain ⟨a2, s2, hc, hf⟩ := bd_s hf
  refine j_cVi (q0 := 3) (ci := 3) (T := TX3) (N := 8) [] [] C (c_X3_housed _ _ ad cI cZ _ _ _ hc) mf_X3_housed wt_631 wt_632 wt_633 rfl rfl rfl ⟨rfl, rfl, by decide, by decide⟩ rfl (Nat.le_of_ble_eq_true rfl) dX10_deal_15 ?_
  exact retI hq hf dX10_deal_18
theorem c_X10_deal (l : Launch) (D : va_G) (ad : Nat → Nat) (cI cZ : ClassId) (σ : St) (r : Int) (σ' : St) (hf : fX10_deal σ = some (r, σ')) : McI l yX10_deal cX10_deal 1 .int rm_X10_deal D (tyL cI cZ) (wC ad cI cZ) [.ref (ad 0)] σ r σ' := McI.mk mf_X10_deal.2.2.2.2.2 (Nat.le_of_ble_eq_true rfl) (fun Γ C hq => j_sub [0] rfl (tX10_deal_L0 C hq  σ hf))
/-! TermLodgings.trade()I -/
def rm_X10_trade : Room := { frames := 5, cells := 0, slots := 0, locals := 115 }
set_option maxRecDepth 20000 in
theorem tX10_trade_L0 {ad : Nat → Nat} {cI cZ : ClassId} {Γ : Cx} {r : Int} {σ' : St} (C : CX cI cZ rm_X10_trade 1 Γ cX10_trade RX10) (hq : RetI .int (wC ad cI cZ) Γ cX10_trade r σ') (σ : St) (hf : fX10_trade_L0 σ = some (r, σ')) : JJ (wC ad cI cZ) Γ σ 0 [(0, .ref (ad 0))] [] := by
  unfold fX10_trade_L0 at hf
  refine j_aload_n 0 C dX10_trade_0 rfl ?_
  refine gC_0_6 C wt_333 dX10_trade_1 ?_
  obtain ⟨a1, s1, hc, hf⟩ := bd_s hf
  refine j_cVi (q0 := 7) (ci := 8) (T := TX8) (N := 8) [] [] C (c_X8_run _ _ ad cI cZ _ _ _ hc) mf_X8_run wt_639 wt_640 wt_641 rfl rfl rfl ⟨rfl, rfl, by decide, by decide⟩ rfl (Nat.le_of_ble_eq_true rfl) dX10_trade_4 ?_
  exact retI hq hf dX10_trade_7
theorem c_X10_trade (l : Launch) (D : va_G) (ad : Nat → Nat) (cI cZ : ClassId) (σ : St) (r : Int) (σ' : St) (hf : fX10_trade σ = some (r, σ')) : McI l yX10_trade cX10_trade 1 .int rm_X10_trade D (tyL cI cZ) (wC ad cI cZ) [.ref (ad 0)] σ r σ' := McI.mk mf_X10_trade.2.2.2.2.2 (Nat.le_of_ble_eq_true rfl) (fun Γ C hq => j_sub [0] rfl (tX10_trade_L0 C hq  σ hf))
/-! TermLodgings.traded(I)I -/
def rm_X10_traded : Room := { frames := 0, cells := 0, slots := 0, locals := 0 }
set_option maxRecDepth 20000 in
theorem tX10_traded_L0 {ad : Nat → Nat} {cI cZ : ClassId} {Γ : Cx} {r : Int} {σ' : St} (C : CX cI cZ rm_X10_traded 2 Γ cX10_traded RX10) (hq : RetI .int (wC ad cI cZ) Γ cX10_traded r σ') (v1 : Int) (σ : St) (hf : fX10_traded_L0 v1 σ = some (r, σ')) : JJ (wC ad cI cZ) Γ σ 0 [(0, .ref (ad 0)), (1, .int (iI v1))] [] := by
  unfold fX10_traded_L0 at hf
  refine j_iload_n 1 C dX10_traded_0 rfl ?_
  by_cases h0 : w32 v1 = 0
  · have hf := ifp h0 hf
    refine j_tabI 28 C (by omega) (by omega) (by rw [h0]; rfl) (by decide) dX10_traded_1 ?_
    refine j_aload_n 0 C dX10_traded_28 rfl ?_
    refine gC_0_6 C wt_333 dX10_traded_29 ?_
    refine gC_7_0 C wt_218 dX10_traded_32 ?_
    exact retI hq hf dX10_traded_35
  have hf := ifn h0 hf
  by_cases h1 : w32 v1 = 1
  · have hf := ifp h1 hf
    refine j_tabI 36 C (by omega) (by omega) (by rw [h1]; rfl) (by decide) dX10_traded_1 ?_
    refine j_aload_n 0 C dX10_traded_36 rfl ?_
    refine gC_0_6 C wt_333 dX10_traded_37 ?_
    refine gC_7_1 C wt_220 dX10_traded_40 ?_
    exact retI hq hf dX10_traded_43
  have hf := ifn h1 hf
  by_cases h2 : w32 v1 = 2
  · have hf := ifp h2 hf
    refine j_tabI 44 C (by omega) (by omega) (by rw [h2]; rfl) (by decide) dX10_traded_1 ?_
    refine j_aload_n 0 C dX10_traded_44 rfl ?_
    refine gC_0_6 C wt_333 dX10_traded_45 ?_
    refine gC_7_2 C wt_222 dX10_traded_48 ?_
    exact retI hq hf dX10_traded_51
  have hf := ifn h2 hf
  refine j_tabO 52 C (by omega) (by decide) dX10_traded_1 ?_
  refine j_bipush C dX10_traded_52 bp_m2 ?_
  exact retI hq hf dX10_traded_54
theorem c_X10_traded (l : Launch) (D : va_G) (ad : Nat → Nat) (cI cZ : ClassId) (σ : St) (v1 : Int) (r : Int) (σ' : St) (hf : fX10_traded σ v1 = some (r, σ')) : McI l yX10_traded cX10_traded 2 .int rm_X10_traded D (tyL cI cZ) (wC ad cI cZ) [.ref (ad 0), .int (iI v1)] σ r σ' := McI.mk mf_X10_traded.2.2.2.2.2 (Nat.le_of_ble_eq_true rfl) (fun Γ C hq => j_sub [0, 1] rfl (tX10_traded_L0 C hq v1 σ hf))
/-! TermLodgings.strike(I)I -/
def rm_X10_strike : Room := { frames := 6, cells := 0, slots := 0, locals := 145 }
set_option maxRecDepth 20000 in
theorem tX10_strike_L0 {ad : Nat → Nat} {cI cZ : ClassId} {Γ : Cx} {r : Int} {σ' : St} (C : CX cI cZ rm_X10_strike 2 Γ cX10_strike RX10) (hq : RetI .int (wC ad cI cZ) Γ cX10_strike r σ') (v1 : Int) (σ : St) (hf : fX10_strike_L0 v1 σ = some (r, σ')) : JJ (wC ad cI cZ) Γ σ 0 [(0, .ref (ad 0)), (1, .int (iI v1))] [] := by
  unfold fX10_strike_L0 at hf
  refine j_iload_n 1 C dX10_strike_0 rfl ?_
  refine j_iconst C dX10_strike_1 ?_
  refine j_bipush C dX10_strike_2 bp_7 ?_
  obtain ⟨a1, s1, hc, hf⟩ := bd_s hf
  refine j_cSi [.int (iI v1), .int (iI 0), .int (iI 7)] [] C (c_X10_within _ _ ad cI cZ _ _ _ _ _ _ hc) mf_X10_within wt_362 wt_363 rfl ⟨rfl, rfl, by decide, by decide⟩ rfl (Nat.le_of_ble_eq_true rfl) dX10_strike_4 ?_
  refine j_if_ne 13 C rfl dX10_strike_7 (by decide) (fun h => ?_) (fun h => ?_)
  · have hf := ifn h hf
    refine j_aload_n 0 C dX10_strike_13 rfl ?_
    refine gC_0_0 C wt_327 dX10_strike_14 ?_
    refine j_iload_n 1 C dX10_strike_17 rfl ?_
    obtain ⟨a2, s2, hc, hf⟩ := bd_s hf
    refine j_cVi (q0 := 2) (ci := 5) (T := TX5) (N := 7) [.int (iI v1)] [] C (c_X5_isStruck _ _ ad cI cZ _ _ _ _ hc) mf_X5_isStruck wt_698 wt_447 wt_448 rfl rfl rfl ⟨rfl, rfl, by decide, by decide⟩ rfl (Nat.le_of_ble_eq_true rfl) dX10_strike_18 ?_
    refine j_if_eq 29 C rfl dX10_strike_21 (by decide) (fun h => ?_) (fun h => ?_)
    · have hf := ifp h hf
      refine j_aload_n 0 C dX10_strike_29 rfl ?_
      refine gC_0_7 C wt_334 dX10_strike_30 ?_
      refine j_iload_n 1 C dX10_strike_33 rfl ?_
      obtain ⟨a3, s3, hc, hf⟩ := bd_s hf
      refine j_cVi (q0 := 8) (ci := 1) (T := TX1) (N := 10) [.int (iI v1)] [] C (c_X1_run _ _ ad cI cZ _ _ _ _ hc) mf_X1_run wt_699 wt_700 wt_701 rfl rfl rfl ⟨rfl, rfl, by decide, by decide⟩ rfl (Nat.le_of_ble_eq_true rfl) dX10_strike_34 ?_
      exact retI hq hf dX10_strike_37
    · have hf := ifn h hf
      refine j_bipush C dX10_strike_24 bp_m3 ?_
      refine j_goto 37 C dX10_strike_26 (by decide) ?_
      exact retI hq hf dX10_strike_37
  · have hf := ifp h hf
    refine j_bipush C dX10_strike_10 bp_m2 ?_
    exact retI hq hf dX10_strike_12
theorem c_X10_strike (l : Launch) (D : va_G) (ad : Nat → Nat) (cI cZ : ClassId) (σ : St) (v1 : Int) (r : Int) (σ' : St) (hf : fX10_strike σ v1 = some (r, σ')) : McI l yX10_strike cX10_strike 2 .int rm_X10_strike D (tyL cI cZ) (wC ad cI cZ) [.ref (ad 0), .int (iI v1)] σ r σ' := McI.mk mf_X10_strike.2.2.2.2.2 (Nat.le_of_ble_eq_true rfl) (fun Γ C hq => j_sub [0, 1] rfl (tX10_strike_L0 C hq v1 σ hf))
/-! TermLodgings.license(I)I -/
def rm_X10_license : Room := { frames := 2, cells := 0, slots := 0, locals := 42 }
set_option maxRecDepth 20000 in
theorem tX10_license_L0 {ad : Nat → Nat} {cI cZ : ClassId} {Γ : Cx} {r : Int} {σ' : St} (C : CX cI cZ rm_X10_license 2 Γ cX10_license RX10) (hq : RetI .int (wC ad cI cZ) Γ cX10_license r σ') (v1 : Int) (σ : St) (hf : fX10_license_L0 v1 σ = some (r, σ')) : JJ (wC ad cI cZ) Γ σ 0 [(0, .ref (ad 0)), (1, .int (iI v1))] [] := by
  unfold fX10_license_L0 at hf
  refine j_iload_n 1 C dX10_license_0 rfl ?_
  refine j_iconst C dX10_license_1 ?_
  refine j_bipush C dX10_license_2 bp_7 ?_
  obtain ⟨a1, s1, hc, hf⟩ := bd_s hf
  refine j_cSi [.int (iI v1), .int (iI 0), .int (iI 7)] [] C (c_X10_within _ _ ad cI cZ _ _ _ _ _ _ hc) mf_X10_within wt_362 wt_363 rfl ⟨rfl, rfl, by decide, by decide⟩ rfl (Nat.le_of_ble_eq_true rfl) dX10_license_4 ?_
  refine j_if_ne 13 C rfl dX10_license_7 (by decide) (fun h => ?_) (fun h => ?_)
  · have hf := ifn h hf
    refine j_aload_n 0 C dX10_license_13 rfl ?_
    refine gC_0_0 C wt_327 dX10_license_14 ?_
    refine j_iload_n 1 C dX10_license_17 rfl ?_
    obtain ⟨a2, s2, hc, hf⟩ := bd_s hf
    refine j_cVi (q0 := 2) (ci := 5) (T := TX5) (N := 7) [.int (iI v1)] [] C (c_X5_isStruck _ _ ad cI cZ _ _ _ _ hc) mf_X5_isStruck wt_698 wt_447 wt_448 rfl rfl rfl ⟨rfl, rfl, by decide, by decide⟩ rfl (Nat.le_of_ble_eq_true rfl) dX10_license_18 ?_
    refine j_if_ne 27 C rfl dX10_license_21 (by decide) (fun h => ?_) (fun h => ?_)
    · have hf := ifn h hf
      refine j_aload_n 0 C dX10_license_27 rfl ?_
      refine gC_0_0 C wt_327 dX10_license_28 ?_
      refine j_dup C rfl dX10_license_31 ?_
      refine gC_2_1 C wt_42 dX10_license_32 ?_
      refine j_iconst C dX10_license_35 ?_
      refine j_iload_n 1 C dX10_license_36 rfl ?_
      refine j_ishl C dX10_license_37 ?_
      refine j_iconst C dX10_license_38 ?_
      refine j_ixor C dX10_license_39 ?_
      refine j_iand C dX10_license_40 ?_
      refine pC_2_1 C wt_42 dX10_license_41 ?_
      refine j_iconst C dX10_license_44 ?_
      exact retI hq hf dX10_license_45
    · have hf := ifp h hf
      refine j_bipush C dX10_license_24 bp_m3 ?_
      exact retI hq hf dX10_license_26
  · have hf := ifp h hf
    refine j_bipush C dX10_license_10 bp_m2 ?_
    exact retI hq hf dX10_license_12
theorem c_X10_license (l : Launch) (D : va_G) (ad : Nat → Nat) (cI cZ : ClassId) (σ : St) (v1 : Int) (r : Int) (σ' : St) (hf : fX10_license σ v1 = some (r, σ')) : McI l yX10_license cX10_license 2 .int rm_X10_license D (tyL cI cZ) (wC ad cI cZ) [.ref (ad 0), .int (iI v1)] σ r σ' := McI.mk mf_X10_license.2.2.2.2.2 (Nat.le_of_ble_eq_true rfl) (fun Γ C hq => j_sub [0, 1] rfl (tX10_license_L0 C hq v1 σ hf))
/-! TermLodgings.away(IZ)I -/
def rm_X10_away : Room := { frames := 1, cells := 0, slots := 0, locals := 21 }
set_option maxRecDepth 20000 in
theorem tX10_away_L0 {ad : Nat → Nat} {cI cZ : ClassId} {Γ : Cx} {r : Int} {σ' : St} (C : CX cI cZ rm_X10_away 3 Γ cX10_away RX10) (hq : RetI .int (wC ad cI cZ) Γ cX10_away r σ') (v1 : Int) (v2 : Int) (σ : St) (hf : fX10_away_L0 v1 v2 σ = some (r, σ')) : JJ (wC ad cI cZ) Γ σ 0 [(0, .ref (ad 0)), (1, .int (iI v1)), (2, .int (iI v2))] [] := by
  unfold fX10_away_L0 at hf
  refine j_aload_n 0 C dX10_away_0 rfl ?_
  refine gC_0_1 C wt_328 dX10_away_1 ?_
  refine j_iload_n 1 C dX10_away_4 rfl ?_
  obtain ⟨a1, s1, hc, hf⟩ := bd_s hf
  refine j_cVi (q0 := 3) (ci := 3) (T := TX3) (N := 8) [.int (iI v1)] [] C (c_X3_has _ _ ad cI cZ _ _ _ _ hc) mf_X3_has wt_385 wt_386 wt_387 rfl rfl rfl ⟨rfl, rfl, by decide, by decide⟩ rfl (Nat.le_of_ble_eq_true rfl) dX10_away_5 ?_
  refine j_if_ne 14 C rfl dX10_away_8 (by decide) (fun h => ?_) (fun h => ?_)
  · have hf := ifn h hf
    refine j_aload_n 0 C dX10_away_14 rfl ?_
    refine gC_0_1 C wt_328 dX10_away_15 ?_
    refine gC_3_7 C wt_101 dX10_away_18 ?_
    refine j_iload_n 1 C dX10_away_21 rfl ?_
    refine j_iload_n 2 C dX10_away_22 rfl ?_
    obtain ⟨hI, hf⟩ := gI_s hf
    obtain ⟨hB, hf⟩ := gB_s hf
    refine tC_11 C hI hB dX10_away_23 ?_
    refine j_iconst C dX10_away_24 ?_
    exact retI hq hf dX10_away_25
  · have hf := ifp h hf
    refine j_bipush C dX10_away_11 bp_m2 ?_
    exact retI hq hf dX10_away_13
theorem c_X10_away (l : Launch) (D : va_G) (ad : Nat → Nat) (cI cZ : ClassId) (σ : St) (v1 : Int) (v2 : Int) (r : Int) (σ' : St) (hf : fX10_away σ v1 v2 = some (r, σ')) : McI l yX10_away cX10_away 3 .int rm_X10_away D (tyL cI cZ) (wC ad cI cZ) [.ref (ad 0), .int (iI v1), .int (iI v2)] σ r σ' := McI.mk mf_X10_away.2.2.2.2.2 (Nat.le_of_ble_eq_true rfl) (fun Γ C hq => j_sub [0, 1, 2] rfl (tX10_away_L0 C hq v1 v2 σ hf))
/-! TermLodgings.pass(I)I -/
def rm_X10_pass : Room := { frames := 3, cells := 0, slots := 0, locals := 65 }
set_option maxRecDepth 20000 in
theorem tX10_pass_B32 {ad : Nat → Nat} {cI cZ : ClassId} {Γ : Cx} {r : Int} {σ' : St} (C : CX cI cZ rm_X10_pass 3 Γ cX10_pass RX10) (hq : RetI .int (wC ad cI cZ) Γ cX10_pass r σ') {k32 : Int → Int → St → Option (Int × St)} (hk32 : ∀ (v1 : Int) (v2 : Int) (σ : St), k32 v1 v2 σ = some (r, σ') → JJ (wC ad cI cZ) Γ σ 32 [(0, .ref (ad 0)), (1, .int (iI v1)), (2, .int (iI v2))] []) (v1 : Int) (v2 : Int) (σ : St) (hf : fX10_pass_B32 k32 v1 v2 σ = some (r, σ')) : JJ (wC ad cI cZ) Γ σ 32 [(0, .ref (ad 0)), (1, .int (iI v1)), (2, .int (iI v2))] [] := by
  unfold fX10_pass_B32 at hf
  refine j_iload_n 2 C dX10_pass_32 rfl ?_
  refine j_iload_n 1 C dX10_pass_33 rfl ?_
  refine j_icmp_ge 54 C rfl rfl dX10_pass_34 (by decide) (fun h => ?_) (fun h => ?_)
  · have hf := ifp h hf
    refine j_aload_n 0 C dX10_pass_54 rfl ?_
    refine gC_0_8 C wt_335 dX10_pass_55 ?_
    refine gC_9_0 C wt_292 dX10_pass_58 ?_
    exact retI hq hf dX10_pass_61
  · have hf := ifn h hf
    refine j_aload_n 0 C dX10_pass_37 rfl ?_
    refine gC_0_8 C wt_335 dX10_pass_38 ?_
    refine j_aload_n 0 C dX10_pass_41 rfl ?_
    refine gC_0_1 C wt_328 dX10_pass_42 ?_
    obtain ⟨s1, hc, hf⟩ := bv_s hf
    refine j_cVv (q0 := 9) (ci := 2) (T := TX2) (N := 2) [.ref (ad 3)] [] C (c_X2_keepOne _ _ ad cI cZ _ _ hc) mf_X2_keepOne wt_752 wt_753 wt_754 rfl rfl rfl ⟨rfl, rfl, by decide, by decide⟩ rfl (Nat.le_of_ble_eq_true rfl) dX10_pass_45 ?_
    refine j_iinc 2 [(2, .int (iI (v2 + 1))), (0, .ref (ad 0)), (1, .int (iI v1))] C dX10_pass_48 (by decide) rfl rfl ?_
    refine j_goto 32 C dX10_pass_51 (by decide) ?_
    exact j_sub [1, 2, 0] rfl (hk32 _ _ _ hf)
theorem tX10_pass_L32 {ad : Nat → Nat} {cI cZ : ClassId} {Γ : Cx} {r : Int} {σ' : St} (C : CX cI cZ rm_X10_pass 3 Γ cX10_pass RX10) (hq : RetI .int (wC ad cI cZ) Γ cX10_pass r σ') (n : Nat) : ∀ (v1 v2 : Int), ∀ (σ : St), fX10_pass_L32 n v1 v2 σ = some (r, σ') → JJ (wC ad cI cZ) Γ σ 32 [(0, .ref (ad 0)), (1, .int (iI v1)), (2, .int (iI v2))] [] := by
  induction n with
  | zero => intro _ _ _ hf; cases hf
  | succ n ih => intro v1 v2 σ hf; exact tX10_pass_B32 C hq ih v1 v2 σ hf
set_option maxRecDepth 20000 in
theorem tX10_pass_L0 {ad : Nat → Nat} {cI cZ : ClassId} {Γ : Cx} {r : Int} {σ' : St} (C : CX cI cZ rm_X10_pass 3 Γ cX10_pass RX10) (hq : RetI .int (wC ad cI cZ) Γ cX10_pass r σ') (v1 : Int) (σ : St) (hf : fX10_pass_L0 v1 σ = some (r, σ')) : JJ (wC ad cI cZ) Γ σ 0 [(0, .ref (ad 0)), (1, .int (iI v1))] [] := by
  unfold fX10_pass_L0 at hf
  refine j_iload_n 1 C dX10_pass_0 rfl ?_
  refine j_iconst C dX10_pass_1 ?_
  refine j_bipush C dX10_pass_2 bp_60 ?_
  obtain ⟨a2, s2, hc, hf⟩ := bd_s hf
  refine j_cSi [.int (iI v1), .int (iI 1), .int (iI 60)] [] C (c_X10_within _ _ ad cI cZ _ _ _ _ _ _ hc) mf_X10_within wt_362 wt_363 rfl ⟨rfl, rfl, by decide, by decide⟩ rfl (Nat.le_of_ble_eq_true rfl) dX10_pass_4 ?_
  refine j_if_ne 13 C rfl dX10_pass_7 (by decide) (fun h => ?_) (fun h => ?_)
  · have hf := ifn h hf
    refine j_iload_n 1 C dX10_pass_13 rfl ?_
    refine j_bipush C dX10_pass_14 bp_60 ?_
    refine j_aload_n 0 C dX10_pass_16 rfl ?_
    refine gC_0_8 C wt_335 dX10_pass_17 ?_
    refine gC_9_0 C wt_292 dX10_pass_20 ?_
    refine j_isub C dX10_pass_23 ?_
    refine j_icmp_le 30 C rfl rfl dX10_pass_24 (by decide) (fun h => ?_) (fun h => ?_)
    · have hf := ifp h hf
      refine j_iconst C dX10_pass_30 ?_
      refine j_istore_n [(2, .int (iI 0)), (0, .ref (ad 0)), (1, .int (iI v1))] C dX10_pass_31 (by decide) rfl ?_
      exact j_sub [1, 2, 0] rfl (tX10_pass_L32 C hq 1000 _ _ _ hf)
    · have hf := ifn h hf
      refine j_bipush C dX10_pass_27 bp_m4 ?_
      exact retI hq hf dX10_pass_29
  · have hf := ifp h hf
    refine j_bipush C dX10_pass_10 bp_m2 ?_
    exact retI hq hf dX10_pass_12
theorem c_X10_pass (l : Launch) (D : va_G) (ad : Nat → Nat) (cI cZ : ClassId) (σ : St) (v1 : Int) (r : Int) (σ' : St) (hf : fX10_pass σ v1 = some (r, σ')) : McI l yX10_pass cX10_pass 3 .int rm_X10_pass D (tyL cI cZ) (wC ad cI cZ) [.ref (ad 0), .int (iI v1)] σ r σ' := McI.mk mf_X10_pass.2.2.2.2.2 (Nat.le_of_ble_eq_true rfl) (fun Γ C hq => j_sub [0, 1] rfl (tX10_pass_L0 C hq v1 σ hf))
/-! TermLodgings.price(III)I -/
def rm_X10_price : Room := { frames := 3, cells := 0, slots := 0, locals := 68 }
set_option maxRecDepth 20000 in
theorem tX10_price_L0 {ad : Nat → Nat} {cI cZ : ClassId} {Γ : Cx} {r : Int} {σ' : St} (C : CX cI cZ rm_X10_price 4 Γ cX10_price RX10) (hq : RetI .int (wC ad cI cZ) Γ cX10_price r σ') (v1 : Int) (v2 : Int) (v3 : Int) (σ : St) (hf : fX10_price_L0 v1 v2 v3 σ = some (r, σ')) : JJ (wC ad cI cZ) Γ σ 0 [(0, .ref (ad 0)), (1, .int (iI v1)), (2, .int (iI v2)), (3, .int (iI v3))] [] := by
  unfold fX10_price_L0 at hf
  refine j_iload_n 1 C dX10_price_0 rfl ?_
  refine j_iconst C dX10_price_1 ?_
  refine j_bipush C dX10_price_2 bp_7 ?_
  obtain ⟨a1, s1, hc, hf⟩ := bd_s hf
  refine j_cSi [.int (iI v1), .int (iI 0), .int (iI 7)] [] C (c_X10_within _ _ ad cI cZ _ _ _ _ _ _ hc) mf_X10_within wt_362 wt_363 rfl ⟨rfl, rfl, by decide, by decide⟩ rfl (Nat.le_of_ble_eq_true rfl) dX10_price_4 ?_
  refine j_if_eq 31 C rfl dX10_price_7 (by decide) (fun h => ?_) (fun h => ?_)
  · have hf := ifp h hf
    refine j_bipush C dX10_price_31 bp_m2 ?_
    exact retI hq hf dX10_price_33
  · have hf := ifn h hf
    refine j_iload_n 2 C dX10_price_10 rfl ?_
    refine j_iconst C dX10_price_11 ?_
    refine j_bipush C dX10_price_12 bp_59 ?_
    obtain ⟨a2, s2, hc, hf⟩ := bd_s hf
    refine j_cSi [.int (iI v2), .int (iI 0), .int (iI 59)] [] C (c_X10_within _ _ ad cI cZ _ _ _ _ _ _ hc) mf_X10_within wt_362 wt_363 rfl ⟨rfl, rfl, by decide, by decide⟩ rfl (Nat.le_of_ble_eq_true rfl) dX10_price_14 ?_
    refine j_if_eq 31 C rfl dX10_price_17 (by decide) (fun h => ?_) (fun h => ?_)
    · have hf := ifp h hf
      refine j_bipush C dX10_price_31 bp_m2 ?_
      exact retI hq hf dX10_price_33
    · have hf := ifn h hf
      refine j_iload_n 3 C dX10_price_20 rfl ?_
      refine j_iconst C dX10_price_21 ?_
      refine j_sipush C dX10_price_22 sp_999 ?_
      obtain ⟨a3, s3, hc, hf⟩ := bd_s hf
      refine j_cSi [.int (iI v3), .int (iI 0), .int (iI 999)] [] C (c_X10_within _ _ ad cI cZ _ _ _ _ _ _ hc) mf_X10_within wt_362 wt_363 rfl ⟨rfl, rfl, by decide, by decide⟩ rfl (Nat.le_of_ble_eq_true rfl) dX10_price_25 ?_
      refine j_if_ne 34 C rfl dX10_price_28 (by decide) (fun h => ?_) (fun h => ?_)
      · have hf := ifn h hf
        refine j_aload_n 0 C dX10_price_34 rfl ?_
        refine gC_0_9 C wt_336 dX10_price_35 ?_
        refine gC_10_0 C wt_307 dX10_price_38 ?_
        refine j_bipush C dX10_price_41 bp_40 ?_
        refine j_icmp_ge 59 C rfl wl_40 dX10_price_43 (by decide) (fun h => ?_) (fun h => ?_)
        · have hf := ifp h hf
          refine j_bipush C dX10_price_59 bp_m4 ?_
          exact retI hq hf dX10_price_61
        · have hf := ifn h hf
          refine j_aload_n 0 C dX10_price_46 rfl ?_
          refine gC_0_9 C wt_336 dX10_price_47 ?_
          refine j_iload_n 1 C dX10_price_50 rfl ?_
          refine j_iload_n 2 C dX10_price_51 rfl ?_
          refine j_iload_n 3 C dX10_price_52 rfl ?_
          obtain ⟨a4, s4, hc, hf⟩ := bd_s hf
          refine j_cVi (q0 := 10) (ci := 4) (T := TX4) (N := 6) [.int (iI v1), .int (iI v2), .int (iI v3)] [] C (c_X4_tell _ _ ad cI cZ _ _ _ _ _ _ hc) mf_X4_tell wt_761 wt_762 wt_763 rfl rfl rfl ⟨rfl, rfl, by decide, by decide⟩ rfl (Nat.le_of_ble_eq_true rfl) dX10_price_53 ?_
          refine j_goto 61 C dX10_price_56 (by decide) ?_
          exact retI hq hf dX10_price_61
      · have hf := ifp h hf
        refine j_bipush C dX10_price_31 bp_m2 ?_
        exact retI hq hf dX10_price_33
theorem c_X10_price (l : Launch) (D : va_G) (ad : Nat → Nat) (cI cZ : ClassId) (σ : St) (v1 : Int) (v2 : Int) (v3 : Int) (r : Int) (σ' : St) (hf : fX10_price σ v1 v2 v3 = some (r, σ')) : McI l yX10_price cX10_price 4 .int rm_X10_price D (tyL cI cZ) (wC ad cI cZ) [.ref (ad 0), .int (iI v1), .int (iI v2), .int (iI v3)] σ r σ' := McI.mk mf_X10_price.2.2.2.2.2 (Nat.le_of_ble_eq_true rfl) (fun Γ C hq => j_sub [0, 1, 2, 3] rfl (tX10_price_L0 C hq v1 v2 v3 σ hf))
/-! TermLodgings.priced(II)I -/
def rm_X10_priced : Room := { frames := 3, cells := 0, slots := 0, locals := 65 }
set_option maxRecDepth 20000 in
theorem tX10_priced_L0 {ad : Nat → Nat} {cI cZ : ClassId} {Γ : Cx} {r : Int} {σ' : St} (C : CX cI cZ rm_X10_priced 3 Γ cX10_priced RX10) (hq : RetI .int (wC ad cI cZ) Γ cX10_priced r σ') (v1 : Int) (v2 : Int) (σ : St) (hf : fX10_priced_L0 v1 v2 σ = some (r, σ')) : JJ (wC ad cI cZ) Γ σ 0 [(0, .ref (ad 0)), (1, .int (iI v1)), (2, .int (iI v2))] [] := by
  unfold fX10_priced_L0 at hf
  refine j_iload_n 1 C dX10_priced_0 rfl ?_
  refine j_iconst C dX10_priced_1 ?_
  refine j_bipush C dX10_priced_2 bp_7 ?_
  obtain ⟨a1, s1, hc, hf⟩ := bd_s hf
  refine j_cSi [.int (iI v1), .int (iI 0), .int (iI 7)] [] C (c_X10_within _ _ ad cI cZ _ _ _ _ _ _ hc) mf_X10_within wt_362 wt_363 rfl ⟨rfl, rfl, by decide, by decide⟩ rfl (Nat.le_of_ble_eq_true rfl) dX10_priced_4 ?_
  refine j_if_eq 20 C rfl dX10_priced_7 (by decide) (fun h => ?_) (fun h => ?_)
  · have hf := ifp h hf
    refine j_bipush C dX10_priced_20 bp_m2 ?_
    exact retI hq hf dX10_priced_22
  · have hf := ifn h hf
    refine j_iload_n 2 C dX10_priced_10 rfl ?_
    refine j_iconst C dX10_priced_11 ?_
    refine j_bipush C dX10_priced_12 bp_59 ?_
    obtain ⟨a2, s2, hc, hf⟩ := bd_s hf
    refine j_cSi [.int (iI v2), .int (iI 0), .int (iI 59)] [] C (c_X10_within _ _ ad cI cZ _ _ _ _ _ _ hc) mf_X10_within wt_362 wt_363 rfl ⟨rfl, rfl, by decide, by decide⟩ rfl (Nat.le_of_ble_eq_true rfl) dX10_priced_14 ?_
    refine j_if_ne 23 C rfl dX10_priced_17 (by decide) (fun h => ?_) (fun h => ?_)
    · have hf := ifn h hf
      refine j_aload_n 0 C dX10_priced_23 rfl ?_
      refine gC_0_9 C wt_336 dX10_priced_24 ?_
      refine j_iload_n 1 C dX10_priced_27 rfl ?_
      refine j_iload_n 2 C dX10_priced_28 rfl ?_
      obtain ⟨a3, s3, hc, hf⟩ := bd_s hf
      refine j_cVi (q0 := 10) (ci := 4) (T := TX4) (N := 6) [.int (iI v1), .int (iI v2)] [] C (c_X4_at _ _ ad cI cZ _ _ _ _ _ hc) mf_X4_at wt_777 wt_778 wt_779 rfl rfl rfl ⟨rfl, rfl, by decide, by decide⟩ rfl (Nat.le_of_ble_eq_true rfl) dX10_priced_29 ?_
      exact retI hq hf dX10_priced_32
    · have hf := ifp h hf
      refine j_bipush C dX10_priced_20 bp_m2 ?_
      exact retI hq hf dX10_priced_22
theorem c_X10_priced (l : Launch) (D : va_G) (ad : Nat → Nat) (cI cZ : ClassId) (σ : St) (v1 : Int) (v2 : Int) (r : Int) (σ' : St) (hf : fX10_priced σ v1 v2 = some (r, σ')) : McI l yX10_priced cX10_priced 3 .int rm_X10_priced D (tyL cI cZ) (wC ad cI cZ) [.ref (ad 0), .int (iI v1), .int (iI v2)] σ r σ' := McI.mk mf_X10_priced.2.2.2.2.2 (Nat.le_of_ble_eq_true rfl) (fun Γ C hq => j_sub [0, 1, 2] rfl (tX10_priced_L0 C hq v1 v2 σ hf))
/-! TermLodgings.had(II)I -/
def rm_X10_had : Room := { frames := 2, cells := 0, slots := 0, locals := 45 }
set_option maxRecDepth 20000 in
theorem tX10_had_L0 {ad : Nat → Nat} {cI cZ : ClassId} {Γ : Cx} {r : Int} {σ' : St} (C : CX cI cZ rm_X10_had 3 Γ cX10_had RX10) (hq : RetI .int (wC ad cI cZ) Γ cX10_had r σ') (v1 : Int) (v2 : Int) (σ : St) (hf : fX10_had_L0 v1 v2 σ = some (r, σ')) : JJ (wC ad cI cZ) Γ σ 0 [(0, .ref (ad 0)), (1, .int (iI v1)), (2, .int (iI v2))] [] := by
  unfold fX10_had_L0 at hf
  refine j_aload_n 0 C dX10_had_0 rfl ?_
  refine gC_0_1 C wt_328 dX10_had_1 ?_
  refine j_iload_n 1 C dX10_had_4 rfl ?_
  obtain ⟨a1, s1, hc, hf⟩ := bd_s hf
  refine j_cVi (q0 := 3) (ci := 3) (T := TX3) (N := 8) [.int (iI v1)] [] C (c_X3_has _ _ ad cI cZ _ _ _ _ hc) mf_X3_has wt_385 wt_386 wt_387 rfl rfl rfl ⟨rfl, rfl, by decide, by decide⟩ rfl (Nat.le_of_ble_eq_true rfl) dX10_had_5 ?_
  refine j_if_eq 28 C rfl dX10_had_8 (by decide) (fun h => ?_) (fun h => ?_)
  · have hf := ifp h hf
    refine j_bipush C dX10_had_28 bp_m2 ?_
    exact retI hq hf dX10_had_30
  · have hf := ifn h hf
    refine j_iload_n 2 C dX10_had_11 rfl ?_
    refine j_iconst C dX10_had_12 ?_
    refine j_aload_n 0 C dX10_had_13 rfl ?_
    refine gC_0_8 C wt_335 dX10_had_14 ?_
    refine gC_9_0 C wt_292 dX10_had_17 ?_
    refine j_iconst C dX10_had_20 ?_
    refine j_isub C dX10_had_21 ?_
    obtain ⟨a2, s2, hc, hf⟩ := bd_s hf
    refine j_cSi [.int (iI v2), .int (iI 0), .int (iI ((s1.1 15) - 1))] [] C (c_X10_within _ _ ad cI cZ _ _ _ _ _ _ hc) mf_X10_within wt_362 wt_363 rfl ⟨rfl, rfl, by decide, by decide⟩ rfl (Nat.le_of_ble_eq_true rfl) dX10_had_22 ?_
    refine j_if_ne 31 C rfl dX10_had_25 (by decide) (fun h => ?_) (fun h => ?_)
    · have hf := ifn h hf
      refine j_aload_n 0 C dX10_had_31 rfl ?_
      refine gC_0_8 C wt_335 dX10_had_32 ?_
      refine j_iload_n 1 C dX10_had_35 rfl ?_
      refine j_iload_n 2 C dX10_had_36 rfl ?_
      obtain ⟨a3, s3, hc, hf⟩ := bd_s hf
      refine j_cVi (q0 := 9) (ci := 2) (T := TX2) (N := 2) [.int (iI v1), .int (iI v2)] [] C (c_X2_lodgingIn _ _ ad cI cZ _ _ _ _ _ hc) mf_X2_lodgingIn wt_789 wt_790 wt_791 rfl rfl rfl ⟨rfl, rfl, by decide, by decide⟩ rfl (Nat.le_of_ble_eq_true rfl) dX10_had_37 ?_
      exact retI hq hf dX10_had_40
    · have hf := ifp h hf
      refine j_bipush C dX10_had_28 bp_m2 ?_
      exact retI hq hf dX10_had_30
theorem c_X10_had (l : Launch) (D : va_G) (ad : Nat → Nat) (cI cZ : ClassId) (σ : St) (v1 : Int) (v2 : Int) (r : Int) (σ' : St) (hf : fX10_had σ v1 v2 = some (r, σ')) : McI l yX10_had cX10_had 3 .int rm_X10_had D (tyL cI cZ) (wC ad cI cZ) [.ref (ad 0), .int (iI v1), .int (iI v2)] σ r σ' := McI.mk mf_X10_had.2.2.2.2.2 (Nat.le_of_ble_eq_true rfl) (fun Γ C hq => j_sub [0, 1, 2] rfl (tX10_had_L0 C hq v1 v2 σ hf))
/-! TermLodgings.bill(I)I -/
def rm_X10_bill : Room := { frames := 3, cells := 0, slots := 0, locals := 65 }
set_option maxRecDepth 20000 in
theorem tX10_bill_B18 {ad : Nat → Nat} {cI cZ : ClassId} {Γ : Cx} {r : Int} {σ' : St} (C : CX cI cZ rm_X10_bill 4 Γ cX10_bill RX10) (hq : RetI .int (wC ad cI cZ) Γ cX10_bill r σ') {k18 : Int → Int → Int → St → Option (Int × St)} (hk18 : ∀ (v1 : Int) (v2 : Int) (v3 : Int) (σ : St), k18 v1 v2 v3 σ = some (r, σ') → JJ (wC ad cI cZ) Γ σ 18 [(0, .ref (ad 0)), (1, .int (iI v1)), (2, .int (iI v2)), (3, .int (iI v3))] []) (v1 : Int) (v2 : Int) (v3 : Int) (σ : St) (hf : fX10_bill_B18 k18 v1 v2 v3 σ = some (r, σ')) : JJ (wC ad cI cZ) Γ σ 18 [(0, .ref (ad 0)), (1, .int (iI v1)), (2, .int (iI v2)), (3, .int (iI v3))] [] := by
  unfold fX10_bill_B18 at hf
  refine j_iload_n 3 C dX10_bill_18 rfl ?_
  refine j_aload_n 0 C dX10_bill_19 rfl ?_
  refine gC_0_8 C wt_335 dX10_bill_20 ?_
  refine gC_9_0 C wt_292 dX10_bill_23 ?_
  refine j_icmp_ge 62 C rfl rfl dX10_bill_26 (by decide) (fun h => ?_) (fun h => ?_)
  · have hf := ifp h hf
    refine j_iload_n 2 C dX10_bill_62 rfl ?_
    exact retI hq hf dX10_bill_63
  · have hf := ifn h hf
    refine j_iload_n 2 C dX10_bill_29 rfl ?_
    refine j_aload_n 0 C dX10_bill_30 rfl ?_
    refine gC_0_9 C wt_336 dX10_bill_31 ?_
    refine j_aload_n 0 C dX10_bill_34 rfl ?_
    refine gC_0_0 C wt_327 dX10_bill_35 ?_
    refine j_aload_n 0 C dX10_bill_38 rfl ?_
    refine gC_0_8 C wt_335 dX10_bill_39 ?_
    refine j_iload_n 1 C dX10_bill_42 rfl ?_
    refine j_iload_n 3 C dX10_bill_43 rfl ?_
    obtain ⟨a1, s1, hc, hf⟩ := bd_s hf
    refine j_cVi (q0 := 9) (ci := 2) (T := TX2) (N := 2) [.int (iI v1), .int (iI v3)] [.ref (ad 2), .ref (ad 10), .int (iI v2)] C (c_X2_lodgingIn _ _ ad cI cZ _ _ _ _ _ hc) mf_X2_lodgingIn wt_789 wt_790 wt_791 rfl rfl rfl ⟨rfl, rfl, by decide, by decide⟩ rfl (Nat.le_of_ble_eq_true rfl) dX10_bill_44 ?_
    obtain ⟨a2, s2, hc, hf⟩ := bd_s hf
    refine j_cVi (q0 := 2) (ci := 5) (T := TX5) (N := 7) [.int (iI a1)] [.ref (ad 10), .int (iI v2)] C (c_X5_houseOf _ _ ad cI cZ _ _ _ _ hc) mf_X5_houseOf wt_798 wt_599 wt_600 rfl rfl rfl ⟨rfl, rfl, by decide, by decide⟩ rfl (Nat.le_of_ble_eq_true rfl) dX10_bill_47 ?_
    refine j_iload_n 3 C dX10_bill_50 rfl ?_
    obtain ⟨a3, s3, hc, hf⟩ := bd_s hf
    refine j_cVi (q0 := 10) (ci := 4) (T := TX4) (N := 6) [.int (iI a2), .int (iI v3)] [.int (iI v2)] C (c_X4_at _ _ ad cI cZ _ _ _ _ _ hc) mf_X4_at wt_777 wt_778 wt_779 rfl rfl rfl ⟨rfl, rfl, by decide, by decide⟩ rfl (Nat.le_of_ble_eq_true rfl) dX10_bill_51 ?_
    refine j_iadd C dX10_bill_54 ?_
    refine j_istore_n [(2, .int (iI (v2 + a3))), (0, .ref (ad 0)), (1, .int (iI v1)), (3, .int (iI v3))] C dX10_bill_55 (by decide) rfl ?_
    refine j_iinc 3 [(3, .int (iI (v3 + 1))), (2, .int (iI (v2 + a3))), (0, .ref (ad 0)), (1, .int (iI v1))] C dX10_bill_56 (by decide) rfl rfl ?_
    refine j_goto 18 C dX10_bill_59 (by decide) ?_
    exact j_sub [2, 3, 1, 0] rfl (hk18 _ _ _ _ hf)
theorem tX10_bill_L18 {ad : Nat → Nat} {cI cZ : ClassId} {Γ : Cx} {r : Int} {σ' : St} (C : CX cI cZ rm_X10_bill 4 Γ cX10_bill RX10) (hq : RetI .int (wC ad cI cZ) Γ cX10_bill r σ') (n : Nat) : ∀ (v1 v2 v3 : Int), ∀ (σ : St), fX10_bill_L18 n v1 v2 v3 σ = some (r, σ') → JJ (wC ad cI cZ) Γ σ 18 [(0, .ref (ad 0)), (1, .int (iI v1)), (2, .int (iI v2)), (3, .int (iI v3))] [] := by
  induction n with
  | zero => intro _ _ _ _ hf; cases hf
  | succ n ih => intro v1 v2 v3 σ hf; exact tX10_bill_B18 C hq ih v1 v2 v3 σ hf
set_option maxRecDepth 20000 in
theorem tX10_bill_L0 {ad : Nat → Nat} {cI cZ : ClassId} {Γ : Cx} {r : Int} {σ' : St} (C : CX cI cZ rm_X10_bill 4 Γ cX10_bill RX10) (hq : RetI .int (wC ad cI cZ) Γ cX10_bill r σ') (v1 : Int) (σ : St) (hf : fX10_bill_L0 v1 σ = some (r, σ')) : JJ (wC ad cI cZ) Γ σ 0 [(0, .ref (ad 0)), (1, .int (iI v1))] [] := by
  unfold fX10_bill_L0 at hf
  refine j_aload_n 0 C dX10_bill_0 rfl ?_
  refine gC_0_1 C wt_328 dX10_bill_1 ?_
  refine j_iload_n 1 C dX10_bill_4 rfl ?_
  obtain ⟨a4, s4, hc, hf⟩ := bd_s hf
  refine j_cVi (q0 := 3) (ci := 3) (T := TX3) (N := 8) [.int (iI v1)] [] C (c_X3_has _ _ ad cI cZ _ _ _ _ hc) mf_X3_has wt_385 wt_386 wt_387 rfl rfl rfl ⟨rfl, rfl, by decide, by decide⟩ rfl (Nat.le_of_ble_eq_true rfl) dX10_bill_5 ?_
  refine j_if_ne 14 C rfl dX10_bill_8 (by decide) (fun h => ?_) (fun h => ?_)
  · have hf := ifn h hf
    refine j_iconst C dX10_bill_14 ?_
    refine j_istore_n [(2, .int (iI 0)), (0, .ref (ad 0)), (1, .int (iI v1))] C dX10_bill_15 (by decide) rfl ?_
    refine j_iconst C dX10_bill_16 ?_
    refine j_istore_n [(3, .int (iI 0)), (2, .int (iI 0)), (0, .ref (ad 0)), (1, .int (iI v1))] C dX10_bill_17 (by decide) rfl ?_
    exact j_sub [2, 3, 1, 0] rfl (tX10_bill_L18 C hq 1000 _ _ _ _ hf)
  · have hf := ifp h hf
    refine j_bipush C dX10_bill_11 bp_m2 ?_
    exact retI hq hf dX10_bill_13
theorem c_X10_bill (l : Launch) (D : va_G) (ad : Nat → Nat) (cI cZ : ClassId) (σ : St) (v1 : Int) (r : Int) (σ' : St) (hf : fX10_bill σ v1 = some (r, σ')) : McI l yX10_bill cX10_bill 4 .int rm_X10_bill D (tyL cI cZ) (wC ad cI cZ) [.ref (ad 0), .int (iI v1)] σ r σ' := McI.mk mf_X10_bill.2.2.2.2.2 (Nat.le_of_ble_eq_true rfl) (fun Γ C hq => j_sub [0, 1] rfl (tX10_bill_L0 C hq v1 σ hf))
/-! TermLodgings.lodgersAt(II)I -/
def rm_X10_lodgersAt : Room := { frames := 2, cells := 0, slots := 0, locals := 45 }
set_option maxRecDepth 20000 in
theorem tX10_lodgersAt_B5 {ad : Nat → Nat} {cI cZ : ClassId} {Γ : Cx} {r : Int} {σ' : St} (C : CX cI cZ rm_X10_lodgersAt 5 Γ cX10_lodgersAt RX10) (hq : RetI .int (wC ad cI cZ) Γ cX10_lodgersAt r σ') {k5 : Int → Int → Int → Int → St → Option (Int × St)} (hk5 : ∀ (v1 : Int) (v2 : Int) (v3 : Int) (v4 : Int) (σ : St), k5 v1 v2 v3 v4 σ = some (r, σ') → JJ (wC ad cI cZ) Γ σ 5 [(0, .ref (ad 0)), (1, .int (iI v1)), (2, .int (iI v2)), (3, .int (iI v3)), (4, .int (iI v4))] []) (v1 : Int) (v2 : Int) (v3 : Int) (v4 : Int) (σ : St) (hf : fX10_lodgersAt_B5 k5 v1 v2 v3 v4 σ = some (r, σ')) : JJ (wC ad cI cZ) Γ σ 5 [(0, .ref (ad 0)), (1, .int (iI v1)), (2, .int (iI v2)), (3, .int (iI v3)), (4, .int (iI v4))] [] := by
  unfold fX10_lodgersAt_B5 at hf
  refine j_iload 4 C dX10_lodgersAt_5 rfl ?_
  refine j_aload_n 0 C dX10_lodgersAt_7 rfl ?_
  refine gC_0_1 C wt_328 dX10_lodgersAt_8 ?_
  refine gC_3_0 C wt_84 dX10_lodgersAt_11 ?_
  refine j_icmp_ge 47 C rfl rfl dX10_lodgersAt_14 (by decide) (fun h => ?_) (fun h => ?_)
  · have hf := ifp h hf
    refine j_iload_n 3 C dX10_lodgersAt_47 rfl ?_
    exact retI hq hf dX10_lodgersAt_48
  · have hf := ifn h hf
    refine j_aload_n 0 C dX10_lodgersAt_17 rfl ?_
    refine gC_0_0 C wt_327 dX10_lodgersAt_18 ?_
    refine j_aload_n 0 C dX10_lodgersAt_21 rfl ?_
    refine gC_0_8 C wt_335 dX10_lodgersAt_22 ?_
    refine j_iload 4 C dX10_lodgersAt_25 rfl ?_
    refine j_iload_n 2 C dX10_lodgersAt_27 rfl ?_
    obtain ⟨a1, s1, hc, hf⟩ := bd_s hf
    refine j_cVi (q0 := 9) (ci := 2) (T := TX2) (N := 2) [.int (iI v4), .int (iI v2)] [.ref (ad 2)] C (c_X2_lodgingIn _ _ ad cI cZ _ _ _ _ _ hc) mf_X2_lodgingIn wt_789 wt_790 wt_791 rfl rfl rfl ⟨rfl, rfl, by decide, by decide⟩ rfl (Nat.le_of_ble_eq_true rfl) dX10_lodgersAt_28 ?_
    obtain ⟨a2, s2, hc, hf⟩ := bd_s hf
    refine j_cVi (q0 := 2) (ci := 5) (T := TX5) (N := 7) [.int (iI a1)] [] C (c_X5_houseOf _ _ ad cI cZ _ _ _ _ hc) mf_X5_houseOf wt_798 wt_599 wt_600 rfl rfl rfl ⟨rfl, rfl, by decide, by decide⟩ rfl (Nat.le_of_ble_eq_true rfl) dX10_lodgersAt_31 ?_
    refine j_iload_n 1 C dX10_lodgersAt_34 rfl ?_
    refine j_icmp_ne 41 C rfl rfl dX10_lodgersAt_35 (by decide) (fun h => ?_) (fun h => ?_)
    · have hf := ifn h hf
      refine j_iinc 4 [(4, .int (iI (v4 + 1))), (0, .ref (ad 0)), (1, .int (iI v1)), (2, .int (iI v2)), (3, .int (iI v3))] C dX10_lodgersAt_41 (by decide) rfl rfl ?_
      refine j_goto 5 C dX10_lodgersAt_44 (by decide) ?_
      exact j_sub [1, 2, 3, 4, 0] rfl (hk5 _ _ _ _ _ hf)
    · have hf := ifp h hf
      refine j_iinc 3 [(3, .int (iI (v3 + 1))), (0, .ref (ad 0)), (1, .int (iI v1)), (2, .int (iI v2)), (4, .int (iI v4))] C dX10_lodgersAt_38 (by decide) rfl rfl ?_
      refine j_iinc 4 [(4, .int (iI (v4 + 1))), (3, .int (iI (v3 + 1))), (0, .ref (ad 0)), (1, .int (iI v1)), (2, .int (iI v2))] C dX10_lodgersAt_41 (by decide) rfl rfl ?_
      refine j_goto 5 C dX10_lodgersAt_44 (by decide) ?_
      exact j_sub [2, 3, 4, 1, 0] rfl (hk5 _ _ _ _ _ hf)
theorem tX10_lodgersAt_L5 {ad : Nat → Nat} {cI cZ : ClassId} {Γ : Cx} {r : Int} {σ' : St} (C : CX cI cZ rm_X10_lodgersAt 5 Γ cX10_lodgersAt RX10) (hq : RetI .int (wC ad cI cZ) Γ cX10_lodgersAt r σ') (n : Nat) : ∀ (v1 v2 v3 v4 : Int), ∀ (σ : St), fX10_lodgersAt_L5 n v1 v2 v3 v4 σ = some (r, σ') → JJ (wC ad cI cZ) Γ σ 5 [(0, .ref (ad 0)), (1, .int (iI v1)), (2, .int (iI v2)), (3, .int (iI v3)), (4, .int (iI v4))] [] := by
  induction n with
  | zero => intro _ _ _ _ _ hf; cases hf
  | succ n ih => intro v1 v2 v3 v4 σ hf; exact tX10_lodgersAt_B5 C hq ih v1 v2 v3 v4 σ hf
set_option maxRecDepth 20000 in
theorem tX10_lodgersAt_L0 {ad : Nat → Nat} {cI cZ : ClassId} {Γ : Cx} {r : Int} {σ' : St} (C : CX cI cZ rm_X10_lodgersAt 5 Γ cX10_lodgersAt RX10) (hq : RetI .int (wC ad cI cZ) Γ cX10_lodgersAt r σ') (v1 : Int) (v2 : Int) (σ : St) (hf : fX10_lodgersAt_L0 v1 v2 σ = some (r, σ')) : JJ (wC ad cI cZ) Γ σ 0 [(0, .ref (ad 0)), (1, .int (iI v1)), (2, .int (iI v2))] [] := by
  unfold fX10_lodgersAt_L0 at hf
  refine j_iconst C dX10_lodgersAt_0 ?_
  refine j_istore_n [(3, .int (iI 0)), (0, .ref (ad 0)), (1, .int (iI v1)), (2, .int (iI v2))] C dX10_lodgersAt_1 (by decide) rfl ?_
  refine j_iconst C dX10_lodgersAt_2 ?_
  refine j_istore [(4, .int (iI 0)), (3, .int (iI 0)), (0, .ref (ad 0)), (1, .int (iI v1)), (2, .int (iI v2))] C dX10_lodgersAt_3 (by decide) rfl ?_
  exact j_sub [2, 3, 4, 1, 0] rfl (tX10_lodgersAt_L5 C hq 1000 _ _ _ _ _ hf)
theorem c_X10_lodgersAt (l : Launch) (D : va_G) (ad : Nat → Nat) (cI cZ : ClassId) (σ : St) (v1 : Int) (v2 : Int) (r : Int) (σ' : St) (hf : fX10_lodgersAt σ v1 v2 = some (r, σ')) : McI l yX10_lodgersAt cX10_lodgersAt 5 .int rm_X10_lodgersAt D (tyL cI cZ) (wC ad cI cZ) [.ref (ad 0), .int (iI v1), .int (iI v2)] σ r σ' := McI.mk mf_X10_lodgersAt.2.2.2.2.2 (Nat.le_of_ble_eq_true rfl) (fun Γ C hq => j_sub [0, 1, 2] rfl (tX10_lodgersAt_L0 C hq v1 v2 σ hf))
/-! TermLodgings.matter()I -/
def rm_X10_matter : Room := { frames := 4, cells := 0, slots := 0, locals := 87 }
set_option maxRecDepth 20000 in
theorem tX10_matter_B17 {ad : Nat → Nat} {cI cZ : ClassId} {Γ : Cx} {r : Int} {σ' : St} (C : CX cI cZ rm_X10_matter 3 Γ cX10_matter RX10) (hq : RetI .int (wC ad cI cZ) Γ cX10_matter r σ') {k17 : Int → Int → St → Option (Int × St)} (hk17 : ∀ (v1 : Int) (v2 : Int) (σ : St), k17 v1 v2 σ = some (r, σ') → JJ (wC ad cI cZ) Γ σ 17 [(0, .ref (ad 0)), (1, .int (iI v1)), (2, .int (iI v2))] []) (v1 : Int) (v2 : Int) (σ : St) (hf : fX10_matter_B17 k17 v1 v2 σ = some (r, σ')) : JJ (wC ad cI cZ) Γ σ 17 [(0, .ref (ad 0)), (1, .int (iI v1)), (2, .int (iI v2))] [] := by
  unfold fX10_matter_B17 at hf
  refine j_iload_n 2 C dX10_matter_17 rfl ?_
  refine j_aload_n 0 C dX10_matter_18 rfl ?_
  refine gC_0_8 C wt_335 dX10_matter_19 ?_
  refine gC_9_0 C wt_292 dX10_matter_22 ?_
  refine j_icmp_ge 58 C rfl rfl dX10_matter_25 (by decide) (fun h => ?_) (fun h => ?_)
  · have hf := ifp h hf
    refine j_iload_n 1 C dX10_matter_58 rfl ?_
    exact retI hq hf dX10_matter_59
  · have hf := ifn h hf
    refine j_iload_n 1 C dX10_matter_28 rfl ?_
    refine j_aload_n 0 C dX10_matter_29 rfl ?_
    refine j_aload_n 0 C dX10_matter_30 rfl ?_
    refine gC_0_9 C wt_336 dX10_matter_31 ?_
    refine gC_10_1 C wt_309 dX10_matter_34 ?_
    refine j_iload_n 2 C dX10_matter_37 rfl ?_
    obtain ⟨a1, s1, hc, hf⟩ := bd_s hf
    refine j_cVi (q0 := 0) (ci := 10) (T := TX10) (N := 10) [.int (iI (σ.1 17)), .int (iI v2)] [.int (iI v1)] C (c_X10_lodgersAt _ _ ad cI cZ _ _ _ _ _ hc) mf_X10_lodgersAt wt_804 wt_806 ws_30 rfl rfl rfl ⟨rfl, rfl, by decide, by decide⟩ rfl (Nat.le_of_ble_eq_true rfl) dX10_matter_38 ?_
    refine j_aload_n 0 C dX10_matter_41 rfl ?_
    refine gC_0_9 C wt_336 dX10_matter_42 ?_
    refine j_iload_n 2 C dX10_matter_45 rfl ?_
    obtain ⟨a2, s2, hc, hf⟩ := bd_s hf
    refine j_cVi (q0 := 10) (ci := 4) (T := TX4) (N := 6) [.int (iI v2)] [.int (iI a1), .int (iI v1)] C (c_X4_dropWithoutLatest _ _ ad cI cZ _ _ _ _ hc) mf_X4_dropWithoutLatest wt_808 wt_809 wt_810 rfl rfl rfl ⟨rfl, rfl, by decide, by decide⟩ rfl (Nat.le_of_ble_eq_true rfl) dX10_matter_46 ?_
    refine j_imul C dX10_matter_49 ?_
    refine j_iadd C dX10_matter_50 ?_
    refine j_istore_n [(1, .int (iI (v1 + (a1 * a2)))), (0, .ref (ad 0)), (2, .int (iI v2))] C dX10_matter_51 (by decide) rfl ?_
    refine j_iinc 2 [(2, .int (iI (v2 + 1))), (1, .int (iI (v1 + (a1 * a2)))), (0, .ref (ad 0))] C dX10_matter_52 (by decide) rfl rfl ?_
    refine j_goto 17 C dX10_matter_55 (by decide) ?_
    exact j_sub [2, 1, 0] rfl (hk17 _ _ _ hf)
theorem tX10_matter_L17 {ad : Nat → Nat} {cI cZ : ClassId} {Γ : Cx} {r : Int} {σ' : St} (C : CX cI cZ rm_X10_matter 3 Γ cX10_matter RX10) (hq : RetI .int (wC ad cI cZ) Γ cX10_matter r σ') (n : Nat) : ∀ (v1 v2 : Int), ∀ (σ : St), fX10_matter_L17 n v1 v2 σ = some (r, σ') → JJ (wC ad cI cZ) Γ σ 17 [(0, .ref (ad 0)), (1, .int (iI v1)), (2, .int (iI v2))] [] := by
  induction n with
  | zero => intro _ _ _ hf; cases hf
  | succ n ih => intro v1 v2 σ hf; exact tX10_matter_B17 C hq ih v1 v2 σ hf
set_option maxRecDepth 20000 in
theorem tX10_matter_L0 {ad : Nat → Nat} {cI cZ : ClassId} {Γ : Cx} {r : Int} {σ' : St} (C : CX cI cZ rm_X10_matter 3 Γ cX10_matter RX10) (hq : RetI .int (wC ad cI cZ) Γ cX10_matter r σ') (σ : St) (hf : fX10_matter_L0 σ = some (r, σ')) : JJ (wC ad cI cZ) Γ σ 0 [(0, .ref (ad 0))] [] := by
  unfold fX10_matter_L0 at hf
  refine j_aload_n 0 C dX10_matter_0 rfl ?_
  refine gC_0_9 C wt_336 dX10_matter_1 ?_
  refine gC_10_0 C wt_307 dX10_matter_4 ?_
  refine j_if_ne 13 C rfl dX10_matter_7 (by decide) (fun h => ?_) (fun h => ?_)
  · have hf := ifn h hf
    refine j_iconst C dX10_matter_13 ?_
    refine j_istore_n [(1, .int (iI 0)), (0, .ref (ad 0))] C dX10_matter_14 (by decide) rfl ?_
    refine j_iconst C dX10_matter_15 ?_
    refine j_istore_n [(2, .int (iI 0)), (1, .int (iI 0)), (0, .ref (ad 0))] C dX10_matter_16 (by decide) rfl ?_
    exact j_sub [2, 1, 0] rfl (tX10_matter_L17 C hq 1000 _ _ _ hf)
  · have hf := ifp h hf
    refine j_ldc (n := (-2147483648)) C wt_803 (by decide +kernel) dX10_matter_10 ?_
    exact retI hq hf dX10_matter_12
theorem c_X10_matter (l : Launch) (D : va_G) (ad : Nat → Nat) (cI cZ : ClassId) (σ : St) (r : Int) (σ' : St) (hf : fX10_matter σ = some (r, σ')) : McI l yX10_matter cX10_matter 3 .int rm_X10_matter D (tyL cI cZ) (wC ad cI cZ) [.ref (ad 0)] σ r σ' := McI.mk mf_X10_matter.2.2.2.2.2 (Nat.le_of_ble_eq_true rfl) (fun Γ C hq => j_sub [0] rfl (tX10_matter_L0 C hq  σ hf))
/-! TermLodgings.count(I)I -/
def rm_X10_count : Room := { frames := 1, cells := 0, slots := 0, locals := 22 }
set_option maxRecDepth 20000 in
theorem tX10_count_L0 {ad : Nat → Nat} {cI cZ : ClassId} {Γ : Cx} {r : Int} {σ' : St} (C : CX cI cZ rm_X10_count 2 Γ cX10_count RX10) (hq : RetI .int (wC ad cI cZ) Γ cX10_count r σ') (v1 : Int) (σ : St) (hf : fX10_count_L0 v1 σ = some (r, σ')) : JJ (wC ad cI cZ) Γ σ 0 [(0, .ref (ad 0)), (1, .int (iI v1))] [] := by
  unfold fX10_count_L0 at hf
  refine j_iload_n 1 C dX10_count_0 rfl ?_
  by_cases h0 : w32 v1 = 0
  · have hf := ifp h0 hf
    refine j_tabI 44 C (by omega) (by omega) (by rw [h0]; rfl) (by decide) dX10_count_1 ?_
    refine j_aload_n 0 C dX10_count_44 rfl ?_
    refine gC_0_0 C wt_327 dX10_count_45 ?_
    refine gC_2_0 C wt_37 dX10_count_48 ?_
    exact retI hq hf dX10_count_51
  have hf := ifn h0 hf
  by_cases h1 : w32 v1 = 1
  · have hf := ifp h1 hf
    refine j_tabI 52 C (by omega) (by omega) (by rw [h1]; rfl) (by decide) dX10_count_1 ?_
    refine j_aload_n 0 C dX10_count_52 rfl ?_
    refine gC_0_1 C wt_328 dX10_count_53 ?_
    refine gC_3_0 C wt_84 dX10_count_56 ?_
    exact retI hq hf dX10_count_59
  have hf := ifn h1 hf
  by_cases h2 : w32 v1 = 2
  · have hf := ifp h2 hf
    refine j_tabI 60 C (by omega) (by omega) (by rw [h2]; rfl) (by decide) dX10_count_1 ?_
    refine j_aload_n 0 C dX10_count_60 rfl ?_
    refine gC_0_2 C wt_329 dX10_count_61 ?_
    refine gC_4_0 C wt_127 dX10_count_64 ?_
    exact retI hq hf dX10_count_67
  have hf := ifn h2 hf
  by_cases h3 : w32 v1 = 3
  · have hf := ifp h3 hf
    refine j_tabI 68 C (by omega) (by omega) (by rw [h3]; rfl) (by decide) dX10_count_1 ?_
    refine j_aload_n 0 C dX10_count_68 rfl ?_
    refine gC_0_0 C wt_327 dX10_count_69 ?_
    refine gC_2_1 C wt_42 dX10_count_72 ?_
    obtain ⟨a1, s1, hc, hf⟩ := bd_s hf
    refine j_cSi [.int (iI (σ.1 1))] [] C (c_J6_bitCount_0f7a4 _ _ ad cI cZ _ _ _ _ hc) mf_J6_bitCount_0f7a4 wt_817 wt_587 rfl ⟨rfl, rfl, by decide, by decide⟩ rfl (Nat.le_of_ble_eq_true rfl) dX10_count_75 ?_
    exact retI hq hf dX10_count_78
  have hf := ifn h3 hf
  by_cases h4 : w32 v1 = 4
  · have hf := ifp h4 hf
    refine j_tabI 79 C (by omega) (by omega) (by rw [h4]; rfl) (by decide) dX10_count_1 ?_
    refine j_aload_n 0 C dX10_count_79 rfl ?_
    refine gC_0_8 C wt_335 dX10_count_80 ?_
    refine gC_9_0 C wt_292 dX10_count_83 ?_
    exact retI hq hf dX10_count_86
  have hf := ifn h4 hf
  by_cases h5 : w32 v1 = 5
  · have hf := ifp h5 hf
    refine j_tabI 87 C (by omega) (by omega) (by rw [h5]; rfl) (by decide) dX10_count_1 ?_
    refine j_aload_n 0 C dX10_count_87 rfl ?_
    refine gC_0_9 C wt_336 dX10_count_88 ?_
    refine gC_10_0 C wt_307 dX10_count_91 ?_
    exact retI hq hf dX10_count_94
  have hf := ifn h5 hf
  by_cases h6 : w32 v1 = 6
  · have hf := ifp h6 hf
    refine j_tabI 95 C (by omega) (by omega) (by rw [h6]; rfl) (by decide) dX10_count_1 ?_
    refine j_aload_n 0 C dX10_count_95 rfl ?_
    refine gC_0_1 C wt_328 dX10_count_96 ?_
    obtain ⟨a2, s2, hc, hf⟩ := bd_s hf
    refine j_cVi (q0 := 3) (ci := 3) (T := TX3) (N := 8) [] [] C (c_X3_housed _ _ ad cI cZ _ _ _ hc) mf_X3_housed wt_631 wt_632 wt_633 rfl rfl rfl ⟨rfl, rfl, by decide, by decide⟩ rfl (Nat.le_of_ble_eq_true rfl) dX10_count_99 ?_
    exact retI hq hf dX10_count_102
  have hf := ifn h6 hf
  refine j_tabO 103 C (by omega) (by decide) dX10_count_1 ?_
  refine j_bipush C dX10_count_103 bp_m2 ?_
  exact retI hq hf dX10_count_105
theorem c_X10_count (l : Launch) (D : va_G) (ad : Nat → Nat) (cI cZ : ClassId) (σ : St) (v1 : Int) (r : Int) (σ' : St) (hf : fX10_count σ v1 = some (r, σ')) : McI l yX10_count cX10_count 2 .int rm_X10_count D (tyL cI cZ) (wC ad cI cZ) [.ref (ad 0), .int (iI v1)] σ r σ' := McI.mk mf_X10_count.2.2.2.2.2 (Nat.le_of_ble_eq_true rfl) (fun Γ C hq => j_sub [0, 1] rfl (tX10_count_L0 C hq v1 σ hf))
/-! TermLodgings.digest()J -/
def rm_X10_digest : Room := { frames := 4, cells := 0, slots := 0, locals := 89 }
set_option maxRecDepth 20000 in
theorem tX10_digest_B130 {ad : Nat → Nat} {cI cZ : ClassId} {Γ : Cx} {r : Int} {σ' : St} (C : CX cI cZ rm_X10_digest 5 Γ cX10_digest RX10) (hq : RetL (wC ad cI cZ) Γ cX10_digest r σ') {k130 : Int → Int → St → Option (Int × St)} (hk130 : ∀ (v1 : Int) (v3 : Int) (σ : St), k130 v1 v3 σ = some (r, σ') → JJ (wC ad cI cZ) Γ σ 130 [(0, .ref (ad 0)), (1, .long (iL v1)), (3, .int (iI v3))] []) (v1 : Int) (v3 : Int) (σ : St) (hf : fX10_digest_B130 k130 v1 v3 σ = some (r, σ')) : JJ (wC ad cI cZ) Γ σ 130 [(0, .ref (ad 0)), (1, .long (iL v1)), (3, .int (iI v3))] [] := by
  unfold fX10_digest_B130 at hf
  refine j_iload_n 2 C dX10_digest_130 rfl ?_
  refine j_iconst C dX10_digest_131 ?_
  refine j_icmp_gt 154 C rfl wl_2 dX10_digest_132 (by decide) (fun h => ?_) (fun h => ?_)
  · have hf := ifp h hf
    refine j_lload_n 1 C dX10_digest_154 rfl ?_
    exact retL hq hf dX10_digest_155
  · have hf := ifn h hf
    refine j_ldc2 (n := 31) C wt_823 (by decide +kernel) dX10_digest_135 ?_
    refine j_lload_n 1 C dX10_digest_138 rfl ?_
    refine j_lmul C dX10_digest_139 ?_
    refine j_aload_n 0 C dX10_digest_140 rfl ?_
    refine j_iload_n 2 C dX10_digest_141 rfl ?_
    obtain ⟨a1, s1, hc, hf⟩ := bd_s hf
    refine j_cVi (q0 := 0) (ci := 10) (T := TX10) (N := 10) [.int (iI v3)] [.long (iL (31 * v1))] C (c_X10_traded _ _ ad cI cZ _ _ _ _ hc) mf_X10_traded wt_827 wt_691 wt_692 rfl rfl rfl ⟨rfl, rfl, by decide, by decide⟩ rfl (Nat.le_of_ble_eq_true rfl) dX10_digest_142 ?_
    refine j_i2l C rfl dX10_digest_145 ?_
    refine j_ladd C dX10_digest_146 ?_
    refine j_lstore_n [(1, .long (iL ((31 * v1) + (w32 a1)))), (0, .ref (ad 0)), (3, .int (iI v3))] C dX10_digest_147 (by decide) rfl ?_
    refine j_iinc 2 [(3, .int (iI (v3 + 1))), (1, .long (iL ((31 * v1) + (w32 a1)))), (0, .ref (ad 0))] C dX10_digest_148 (by decide) rfl rfl ?_
    refine j_goto 130 C dX10_digest_151 (by decide) ?_
    exact j_sub [2, 1, 0] rfl (hk130 _ _ _ hf)
theorem tX10_digest_L130 {ad : Nat → Nat} {cI cZ : ClassId} {Γ : Cx} {r : Int} {σ' : St} (C : CX cI cZ rm_X10_digest 5 Γ cX10_digest RX10) (hq : RetL (wC ad cI cZ) Γ cX10_digest r σ') (n : Nat) : ∀ (v1 v3 : Int), ∀ (σ : St), fX10_digest_L130 n v1 v3 σ = some (r, σ') → JJ (wC ad cI cZ) Γ σ 130 [(0, .ref (ad 0)), (1, .long (iL v1)), (3, .int (iI v3))] [] := by
  induction n with
  | zero => intro _ _ _ hf; cases hf
  | succ n ih => intro v1 v3 σ hf; exact tX10_digest_B130 C hq ih v1 v3 σ hf
set_option maxRecDepth 20000 in
theorem tX10_digest_B95 {ad : Nat → Nat} {cI cZ : ClassId} {Γ : Cx} {r : Int} {σ' : St} (C : CX cI cZ rm_X10_digest 5 Γ cX10_digest RX10) (hq : RetL (wC ad cI cZ) Γ cX10_digest r σ') {k95 : Int → Int → St → Option (Int × St)} (hk95 : ∀ (v1 : Int) (v3 : Int) (σ : St), k95 v1 v3 σ = some (r, σ') → JJ (wC ad cI cZ) Γ σ 95 [(0, .ref (ad 0)), (1, .long (iL v1)), (3, .int (iI v3))] []) (v1 : Int) (v3 : Int) (σ : St) (hf : fX10_digest_B95 k95 v1 v3 σ = some (r, σ')) : JJ (wC ad cI cZ) Γ σ 95 [(0, .ref (ad 0)), (1, .long (iL v1)), (3, .int (iI v3))] [] := by
  unfold fX10_digest_B95 at hf
  refine j_iload_n 2 C dX10_digest_95 rfl ?_
  refine j_aload_n 0 C dX10_digest_96 rfl ?_
  refine gC_0_4 C wt_331 dX10_digest_97 ?_
  refine gC_5_0 C wt_185 dX10_digest_100 ?_
  refine j_icmp_ge 128 C rfl rfl dX10_digest_103 (by decide) (fun h => ?_) (fun h => ?_)
  · have hf := ifp h hf
    refine j_iconst C dX10_digest_128 ?_
    refine j_istore_n [(3, .int (iI 0)), (0, .ref (ad 0)), (1, .long (iL v1))] C dX10_digest_129 (by decide) rfl ?_
    exact j_sub [1, 2, 0] rfl (tX10_digest_L130 C hq 1000 _ _ _ hf)
  · have hf := ifn h hf
    refine j_ldc2 (n := 31) C wt_823 (by decide +kernel) dX10_digest_106 ?_
    refine j_lload_n 1 C dX10_digest_109 rfl ?_
    refine j_lmul C dX10_digest_110 ?_
    refine j_aload_n 0 C dX10_digest_111 rfl ?_
    refine gC_0_4 C wt_331 dX10_digest_112 ?_
    refine j_iload_n 2 C dX10_digest_115 rfl ?_
    obtain ⟨a2, s2, hc, hf⟩ := bd_s hf
    refine j_cVi (q0 := 5) (ci := 9) (T := TX9) (N := 2) [.int (iI v3)] [.long (iL (31 * v1))] C (c_X9_at _ _ ad cI cZ _ _ _ _ hc) mf_X9_at wt_548 wt_549 wt_550 rfl rfl rfl ⟨rfl, rfl, by decide, by decide⟩ rfl (Nat.le_of_ble_eq_true rfl) dX10_digest_116 ?_
    refine j_i2l C rfl dX10_digest_119 ?_
    refine j_ladd C dX10_digest_120 ?_
    refine j_lstore_n [(1, .long (iL ((31 * v1) + (w32 a2)))), (0, .ref (ad 0)), (3, .int (iI v3))] C dX10_digest_121 (by decide) rfl ?_
    refine j_iinc 2 [(3, .int (iI (v3 + 1))), (1, .long (iL ((31 * v1) + (w32 a2)))), (0, .ref (ad 0))] C dX10_digest_122 (by decide) rfl rfl ?_
    refine j_goto 95 C dX10_digest_125 (by decide) ?_
    exact j_sub [2, 1, 0] rfl (hk95 _ _ _ hf)
theorem tX10_digest_L95 {ad : Nat → Nat} {cI cZ : ClassId} {Γ : Cx} {r : Int} {σ' : St} (C : CX cI cZ rm_X10_digest 5 Γ cX10_digest RX10) (hq : RetL (wC ad cI cZ) Γ cX10_digest r σ') (n : Nat) : ∀ (v1 v3 : Int), ∀ (σ : St), fX10_digest_L95 n v1 v3 σ = some (r, σ') → JJ (wC ad cI cZ) Γ σ 95 [(0, .ref (ad 0)), (1, .long (iL v1)), (3, .int (iI v3))] [] := by
  induction n with
  | zero => intro _ _ _ hf; cases hf
  | succ n ih => intro v1 v3 σ hf; exact tX10_digest_B95 C hq ih v1 v3 σ hf
set_option maxRecDepth 20000 in
theorem tX10_digest_B47 {ad : Nat → Nat} {cI cZ : ClassId} {Γ : Cx} {r : Int} {σ' : St} (C : CX cI cZ rm_X10_digest 5 Γ cX10_digest RX10) (hq : RetL (wC ad cI cZ) Γ cX10_digest r σ') {k33 : Int → Int → St → Option (Int × St)} {k47 : Int → Int → Int → St → Option (Int × St)} (hk33 : ∀ (v1 : Int) (v3 : Int) (σ : St), k33 v1 v3 σ = some (r, σ') → JJ (wC ad cI cZ) Γ σ 33 [(0, .ref (ad 0)), (1, .long (iL v1)), (3, .int (iI v3))] []) (hk47 : ∀ (v1 : Int) (v3 : Int) (v4 : Int) (σ : St), k47 v1 v3 v4 σ = some (r, σ') → JJ (wC ad cI cZ) Γ σ 47 [(0, .ref (ad 0)), (1, .long (iL v1)), (3, .int (iI v3)), (4, .int (iI v4))] []) (v1 : Int) (v3 : Int) (v4 : Int) (σ : St) (hf : fX10_digest_B47 k33 k47 v1 v3 v4 σ = some (r, σ')) : JJ (wC ad cI cZ) Γ σ 47 [(0, .ref (ad 0)), (1, .long (iL v1)), (3, .int (iI v3)), (4, .int (iI v4))] [] := by
  unfold fX10_digest_B47 at hf
  refine j_iload 3 C dX10_digest_47 rfl ?_
  refine j_iconst C dX10_digest_49 ?_
  refine j_icmp_gt 74 C rfl wl_5 dX10_digest_50 (by decide) (fun h => ?_) (fun h => ?_)
  · have hf := ifp h hf
    refine j_ldc2 (n := 31) C wt_823 (by decide +kernel) dX10_digest_74 ?_
    refine j_lload_n 1 C dX10_digest_77 rfl ?_
    refine j_lmul C dX10_digest_78 ?_
    refine j_aload_n 0 C dX10_digest_79 rfl ?_
    refine j_iload_n 2 C dX10_digest_80 rfl ?_
    obtain ⟨a3, s3, hc, hf⟩ := bd_s hf
    refine j_cVi (q0 := 0) (ci := 10) (T := TX10) (N := 10) [.int (iI v3)] [.long (iL (31 * v1))] C (c_X10_bill _ _ ad cI cZ _ _ _ _ hc) mf_X10_bill wt_826 wt_795 wt_796 rfl rfl rfl ⟨rfl, rfl, by decide, by decide⟩ rfl (Nat.le_of_ble_eq_true rfl) dX10_digest_81 ?_
    refine j_i2l C rfl dX10_digest_84 ?_
    refine j_ladd C dX10_digest_85 ?_
    refine j_lstore_n [(1, .long (iL ((31 * v1) + (w32 a3)))), (0, .ref (ad 0)), (3, .int (iI v3)), (4, .int (iI v4))] C dX10_digest_86 (by decide) rfl ?_
    refine j_iinc 2 [(3, .int (iI (v3 + 1))), (1, .long (iL ((31 * v1) + (w32 a3)))), (0, .ref (ad 0)), (4, .int (iI v4))] C dX10_digest_87 (by decide) rfl rfl ?_
    refine j_goto 33 C dX10_digest_90 (by decide) ?_
    exact j_sub [2, 1, 0] rfl (hk33 _ _ _ hf)
  · have hf := ifn h hf
    refine j_ldc2 (n := 31) C wt_823 (by decide +kernel) dX10_digest_53 ?_
    refine j_lload_n 1 C dX10_digest_56 rfl ?_
    refine j_lmul C dX10_digest_57 ?_
    refine j_aload_n 0 C dX10_digest_58 rfl ?_
    refine j_iload_n 2 C dX10_digest_59 rfl ?_
    refine j_iload 3 C dX10_digest_60 rfl ?_
    obtain ⟨a4, s4, hc, hf⟩ := bd_s hf
    refine j_cVi (q0 := 0) (ci := 10) (T := TX10) (N := 10) [.int (iI v3), .int (iI v4)] [.long (iL (31 * v1))] C (c_X10_about _ _ ad cI cZ _ _ _ _ _ hc) mf_X10_about wt_825 wt_415 wt_416 rfl rfl rfl ⟨rfl, rfl, by decide, by decide⟩ rfl (Nat.le_of_ble_eq_true rfl) dX10_digest_62 ?_
    refine j_i2l C rfl dX10_digest_65 ?_
    refine j_ladd C dX10_digest_66 ?_
    refine j_lstore_n [(1, .long (iL ((31 * v1) + (w32 a4)))), (0, .ref (ad 0)), (3, .int (iI v3)), (4, .int (iI v4))] C dX10_digest_67 (by decide) rfl ?_
    refine j_iinc 3 [(4, .int (iI (v4 + 1))), (1, .long (iL ((31 * v1) + (w32 a4)))), (0, .ref (ad 0)), (3, .int (iI v3))] C dX10_digest_68 (by decide) rfl rfl ?_
    refine j_goto 47 C dX10_digest_71 (by decide) ?_
    exact j_sub [2, 1, 3, 0] rfl (hk47 _ _ _ _ hf)
theorem tX10_digest_L47 {ad : Nat → Nat} {cI cZ : ClassId} {Γ : Cx} {r : Int} {σ' : St} (C : CX cI cZ rm_X10_digest 5 Γ cX10_digest RX10) (hq : RetL (wC ad cI cZ) Γ cX10_digest r σ') {k33 : Int → Int → St → Option (Int × St)} (hk33 : ∀ (v1 : Int) (v3 : Int) (σ : St), k33 v1 v3 σ = some (r, σ') → JJ (wC ad cI cZ) Γ σ 33 [(0, .ref (ad 0)), (1, .long (iL v1)), (3, .int (iI v3))] []) (n : Nat) : ∀ (v1 v3 v4 : Int), ∀ (σ : St), fX10_digest_L47 k33 n v1 v3 v4 σ = some (r, σ') → JJ (wC ad cI cZ) Γ σ 47 [(0, .ref (ad 0)), (1, .long (iL v1)), (3, .int (iI v3)), (4, .int (iI v4))] [] := by
  induction n with
  | zero => intro _ _ _ _ hf; cases hf
  | succ n ih => intro v1 v3 v4 σ hf; exact tX10_digest_B47 C hq hk33 ih v1 v3 v4 σ hf
set_option maxRecDepth 20000 in
theorem tX10_digest_B33 {ad : Nat → Nat} {cI cZ : ClassId} {Γ : Cx} {r : Int} {σ' : St} (C : CX cI cZ rm_X10_digest 5 Γ cX10_digest RX10) (hq : RetL (wC ad cI cZ) Γ cX10_digest r σ') {k33 : Int → Int → St → Option (Int × St)} (hk33 : ∀ (v1 : Int) (v3 : Int) (σ : St), k33 v1 v3 σ = some (r, σ') → JJ (wC ad cI cZ) Γ σ 33 [(0, .ref (ad 0)), (1, .long (iL v1)), (3, .int (iI v3))] []) (v1 : Int) (v3 : Int) (σ : St) (hf : fX10_digest_B33 k33 v1 v3 σ = some (r, σ')) : JJ (wC ad cI cZ) Γ σ 33 [(0, .ref (ad 0)), (1, .long (iL v1)), (3, .int (iI v3))] [] := by
  unfold fX10_digest_B33 at hf
  refine j_iload_n 2 C dX10_digest_33 rfl ?_
  refine j_aload_n 0 C dX10_digest_34 rfl ?_
  refine gC_0_1 C wt_328 dX10_digest_35 ?_
  refine gC_3_0 C wt_84 dX10_digest_38 ?_
  refine j_icmp_ge 93 C rfl rfl dX10_digest_41 (by decide) (fun h => ?_) (fun h => ?_)
  · have hf := ifp h hf
    refine j_iconst C dX10_digest_93 ?_
    refine j_istore_n [(3, .int (iI 0)), (0, .ref (ad 0)), (1, .long (iL v1))] C dX10_digest_94 (by decide) rfl ?_
    exact j_sub [1, 2, 0] rfl (tX10_digest_L95 C hq 1000 _ _ _ hf)
  · have hf := ifn h hf
    refine j_iconst C dX10_digest_44 ?_
    refine j_istore [(4, .int (iI 1)), (0, .ref (ad 0)), (1, .long (iL v1)), (3, .int (iI v3))] C dX10_digest_45 (by decide) rfl ?_
    exact j_sub [1, 2, 3, 0] rfl (tX10_digest_L47 C hq hk33 1000 _ _ _ _ hf)
theorem tX10_digest_L33 {ad : Nat → Nat} {cI cZ : ClassId} {Γ : Cx} {r : Int} {σ' : St} (C : CX cI cZ rm_X10_digest 5 Γ cX10_digest RX10) (hq : RetL (wC ad cI cZ) Γ cX10_digest r σ') (n : Nat) : ∀ (v1 v3 : Int), ∀ (σ : St), fX10_digest_L33 n v1 v3 σ = some (r, σ') → JJ (wC ad cI cZ) Γ σ 33 [(0, .ref (ad 0)), (1, .long (iL v1)), (3, .int (iI v3))] [] := by
  induction n with
  | zero => intro _ _ _ hf; cases hf
  | succ n ih => intro v1 v3 σ hf; exact tX10_digest_B33 C hq ih v1 v3 σ hf
set_option maxRecDepth 20000 in
theorem tX10_digest_B6 {ad : Nat → Nat} {cI cZ : ClassId} {Γ : Cx} {r : Int} {σ' : St} (C : CX cI cZ rm_X10_digest 5 Γ cX10_digest RX10) (hq : RetL (wC ad cI cZ) Γ cX10_digest r σ') {k6 : Int → Int → St → Option (Int × St)} (hk6 : ∀ (v1 : Int) (v3 : Int) (σ : St), k6 v1 v3 σ = some (r, σ') → JJ (wC ad cI cZ) Γ σ 6 [(0, .ref (ad 0)), (1, .long (iL v1)), (3, .int (iI v3))] []) (v1 : Int) (v3 : Int) (σ : St) (hf : fX10_digest_B6 k6 v1 v3 σ = some (r, σ')) : JJ (wC ad cI cZ) Γ σ 6 [(0, .ref (ad 0)), (1, .long (iL v1)), (3, .int (iI v3))] [] := by
  unfold fX10_digest_B6 at hf
  refine j_iload_n 2 C dX10_digest_6 rfl ?_
  refine j_bipush C dX10_digest_7 bp_6 ?_
  refine j_icmp_gt 31 C rfl wl_6 dX10_digest_9 (by decide) (fun h => ?_) (fun h => ?_)
  · have hf := ifp h hf
    refine j_iconst C dX10_digest_31 ?_
    refine j_istore_n [(3, .int (iI 0)), (0, .ref (ad 0)), (1, .long (iL v1))] C dX10_digest_32 (by decide) rfl ?_
    exact j_sub [1, 2, 0] rfl (tX10_digest_L33 C hq 1000 _ _ _ hf)
  · have hf := ifn h hf
    refine j_ldc2 (n := 31) C wt_823 (by decide +kernel) dX10_digest_12 ?_
    refine j_lload_n 1 C dX10_digest_15 rfl ?_
    refine j_lmul C dX10_digest_16 ?_
    refine j_aload_n 0 C dX10_digest_17 rfl ?_
    refine j_iload_n 2 C dX10_digest_18 rfl ?_
    obtain ⟨a5, s5, hc, hf⟩ := bd_s hf
    refine j_cVi (q0 := 0) (ci := 10) (T := TX10) (N := 10) [.int (iI v3)] [.long (iL (31 * v1))] C (c_X10_count _ _ ad cI cZ _ _ _ _ hc) mf_X10_count wt_824 wt_814 wt_815 rfl rfl rfl ⟨rfl, rfl, by decide, by decide⟩ rfl (Nat.le_of_ble_eq_true rfl) dX10_digest_19 ?_
    refine j_i2l C rfl dX10_digest_22 ?_
    refine j_ladd C dX10_digest_23 ?_
    refine j_lstore_n [(1, .long (iL ((31 * v1) + (w32 a5)))), (0, .ref (ad 0)), (3, .int (iI v3))] C dX10_digest_24 (by decide) rfl ?_
    refine j_iinc 2 [(3, .int (iI (v3 + 1))), (1, .long (iL ((31 * v1) + (w32 a5)))), (0, .ref (ad 0))] C dX10_digest_25 (by decide) rfl rfl ?_
    refine j_goto 6 C dX10_digest_28 (by decide) ?_
    exact j_sub [2, 1, 0] rfl (hk6 _ _ _ hf)
theorem tX10_digest_L6 {ad : Nat → Nat} {cI cZ : ClassId} {Γ : Cx} {r : Int} {σ' : St} (C : CX cI cZ rm_X10_digest 5 Γ cX10_digest RX10) (hq : RetL (wC ad cI cZ) Γ cX10_digest r σ') (n : Nat) : ∀ (v1 v3 : Int), ∀ (σ : St), fX10_digest_L6 n v1 v3 σ = some (r, σ') → JJ (wC ad cI cZ) Γ σ 6 [(0, .ref (ad 0)), (1, .long (iL v1)), (3, .int (iI v3))] [] := by
  induction n with
  | zero => intro _ _ _ hf; cases hf
  | succ n ih => intro v1 v3 σ hf; exact tX10_digest_B6 C hq ih v1 v3 σ hf
set_option maxRecDepth 20000 in
theorem tX10_digest_L0 {ad : Nat → Nat} {cI cZ : ClassId} {Γ : Cx} {r : Int} {σ' : St} (C : CX cI cZ rm_X10_digest 5 Γ cX10_digest RX10) (hq : RetL (wC ad cI cZ) Γ cX10_digest r σ') (σ : St) (hf : fX10_digest_L0 σ = some (r, σ')) : JJ (wC ad cI cZ) Γ σ 0 [(0, .ref (ad 0))] [] := by
  unfold fX10_digest_L0 at hf
  refine j_ldc2 (n := 17) C wt_822 (by decide +kernel) dX10_digest_0 ?_
  refine j_lstore_n [(1, .long (iL 17)), (0, .ref (ad 0))] C dX10_digest_3 (by decide) rfl ?_
  refine j_iconst C dX10_digest_4 ?_
  refine j_istore_n [(3, .int (iI 0)), (1, .long (iL 17)), (0, .ref (ad 0))] C dX10_digest_5 (by decide) rfl ?_
  exact j_sub [2, 1, 0] rfl (tX10_digest_L6 C hq 1000 _ _ _ hf)
theorem c_X10_digest (l : Launch) (D : va_G) (ad : Nat → Nat) (cI cZ : ClassId) (σ : St) (r : Int) (σ' : St) (hf : fX10_digest σ = some (r, σ')) : McL l yX10_digest cX10_digest 5 rm_X10_digest D (tyL cI cZ) (wC ad cI cZ) [.ref (ad 0)] σ r σ' := McL.mk mf_X10_digest.2.2.2.2.2 (Nat.le_of_ble_eq_true rfl) (fun Γ C hq => j_sub [0] rfl (tX10_digest_L0 C hq  σ hf))
/-! TermLodgingsModel.in(JJJ)Z -/
def rm_X11_in : Room := { frames := 0, cells := 0, slots := 0, locals := 0 }
set_option maxRecDepth 20000 in
theorem tX11_in_L0 {ad : Nat → Nat} {cI cZ : ClassId} {Γ : Cx} {r : Int} {σ' : St} (C : CX cI cZ rm_X11_in 6 Γ cX11_in RX11) (hq : RetI .boolean (wR ad cI cZ) Γ cX11_in r σ') (v0 : Int) (v2 : Int) (v4 : Int) (σ : St) (hf : fX11_in_L0 v0 v2 v4 σ = some (r, σ')) : JJ (wR ad cI cZ) Γ σ 0 [(0, .long (iL v0)), (2, .long (iL v2)), (4, .long (iL v4))] [] := by
  unfold fX11_in_L0 at hf
  refine j_lload_n 0 C dX11_in_0 rfl ?_
  refine j_lload_n 1 C dX11_in_1 rfl ?_
  refine j_lcmp C dX11_in_2 ?_
  refine j_if_lt 17 C rfl dX11_in_3 (by decide) (fun h => ?_) (fun h => ?_)
  · have hf := ifp h hf
    refine j_iconst C dX11_in_17 ?_
    exact retZc hq isB_0 hf dX11_in_18
  · have hf := ifn h hf
    refine j_lload_n 0 C dX11_in_6 rfl ?_
    refine j_lload 2 C dX11_in_7 rfl ?_
    refine j_lcmp C dX11_in_9 ?_
    refine j_if_gt 17 C rfl dX11_in_10 (by decide) (fun h => ?_) (fun h => ?_)
    · have hf := ifp h hf
      refine j_iconst C dX11_in_17 ?_
      exact retZc hq isB_0 hf dX11_in_18
    · have hf := ifn h hf
      refine j_iconst C dX11_in_13 ?_
      refine j_goto 18 C dX11_in_14 (by decide) ?_
      exact retZc hq isB_1 hf dX11_in_18
theorem c_X11_in (l : Launch) (D : va_G) (ad : Nat → Nat) (cI cZ : ClassId) (σ : St) (v0 : Int) (v2 : Int) (v4 : Int) (r : Int) (σ' : St) (hf : fX11_in σ v0 v2 v4 = some (r, σ')) : McI l yX11_in cX11_in 6 .boolean rm_X11_in D (tyL cI cZ) (wR ad cI cZ) [.long (iL v0), .long (iL v2), .long (iL v4)] σ r σ' := McI.mk mf_X11_in.2.2.2.2.2 (Nat.le_of_ble_eq_true rfl) (fun Γ C hq => j_sub [0, 1, 2] rfl (tX11_in_L0 C hq v0 v2 v4 σ hf))
/-! TermLodgingsModel.isRoom(I)Z -/
def rm_X11_isRoom : Room := { frames := 1, cells := 0, slots := 0, locals := 25 }
set_option maxRecDepth 20000 in
theorem tX11_isRoom_L0 {ad : Nat → Nat} {cI cZ : ClassId} {Γ : Cx} {r : Int} {σ' : St} (C : CX cI cZ rm_X11_isRoom 2 Γ cX11_isRoom RX11) (hq : RetI .boolean (wR ad cI cZ) Γ cX11_isRoom r σ') (v1 : Int) (σ : St) (hf : fX11_isRoom_L0 v1 σ = some (r, σ')) : JJ (wR ad cI cZ) Γ σ 0 [(0, .ref (ad 0)), (1, .int (iI v1))] [] := by
  unfold fX11_isRoom_L0 at hf
  refine j_iload_n 1 C dX11_isRoom_0 rfl ?_
  refine j_i2l C rfl dX11_isRoom_1 ?_
  refine j_lconst 0 C dX11_isRoom_2 (by decide +kernel) ?_
  refine j_aload_n 0 C dX11_isRoom_3 rfl ?_
  refine gR_0_0 C wt_834 dX11_isRoom_4 ?_
  refine j_iconst C dX11_isRoom_7 ?_
  refine j_isub C dX11_isRoom_8 ?_
  refine j_i2l C rfl dX11_isRoom_9 ?_
  obtain ⟨a1, s1, hc, hf⟩ := bd_s hf
  refine j_cSi [.long (iL (w32 v1)), .long (iL 0), .long (iL (w32 ((σ.1 0) - 1)))] [] C (c_X11_in _ _ ad cI cZ _ _ _ _ _ _ hc) mf_X11_in wt_936 wt_937 rfl ⟨rfl, rfl, by decide, by decide⟩ rfl (Nat.le_of_ble_eq_true rfl) dX11_isRoom_10 ?_
  exact retZ hq hf dX11_isRoom_13
theorem c_X11_isRoom (l : Launch) (D : va_G) (ad : Nat → Nat) (cI cZ : ClassId) (σ : St) (v1 : Int) (r : Int) (σ' : St) (hf : fX11_isRoom σ v1 = some (r, σ')) : McI l yX11_isRoom cX11_isRoom 2 .boolean rm_X11_isRoom D (tyL cI cZ) (wR ad cI cZ) [.ref (ad 0), .int (iI v1)] σ r σ' := McI.mk mf_X11_isRoom.2.2.2.2.2 (Nat.le_of_ble_eq_true rfl) (fun Γ C hq => j_sub [0, 1] rfl (tX11_isRoom_L0 C hq v1 σ hf))
/-! TermLodgingsModel.isOne(I)Z -/
def rm_X11_isOne : Room := { frames := 1, cells := 0, slots := 0, locals := 25 }
set_option maxRecDepth 20000 in
theorem tX11_isOne_L0 {ad : Nat → Nat} {cI cZ : ClassId} {Γ : Cx} {r : Int} {σ' : St} (C : CX cI cZ rm_X11_isOne 2 Γ cX11_isOne RX11) (hq : RetI .boolean (wR ad cI cZ) Γ cX11_isOne r σ') (v1 : Int) (σ : St) (hf : fX11_isOne_L0 v1 σ = some (r, σ')) : JJ (wR ad cI cZ) Γ σ 0 [(0, .ref (ad 0)), (1, .int (iI v1))] [] := by
  unfold fX11_isOne_L0 at hf
  refine j_iload_n 1 C dX11_isOne_0 rfl ?_
  refine j_i2l C rfl dX11_isOne_1 ?_
  refine j_lconst 0 C dX11_isOne_2 (by decide +kernel) ?_
  refine j_aload_n 0 C dX11_isOne_3 rfl ?_
  refine gR_0_5 C wt_839 dX11_isOne_4 ?_
  refine j_iconst C dX11_isOne_7 ?_
  refine j_isub C dX11_isOne_8 ?_
  refine j_i2l C rfl dX11_isOne_9 ?_
  obtain ⟨a1, s1, hc, hf⟩ := bd_s hf
  refine j_cSi [.long (iL (w32 v1)), .long (iL 0), .long (iL (w32 ((σ.1 2) - 1)))] [] C (c_X11_in _ _ ad cI cZ _ _ _ _ _ _ hc) mf_X11_in wt_936 wt_937 rfl ⟨rfl, rfl, by decide, by decide⟩ rfl (Nat.le_of_ble_eq_true rfl) dX11_isOne_10 ?_
  exact retZ hq hf dX11_isOne_13
theorem c_X11_isOne (l : Launch) (D : va_G) (ad : Nat → Nat) (cI cZ : ClassId) (σ : St) (v1 : Int) (r : Int) (σ' : St) (hf : fX11_isOne σ v1 = some (r, σ')) : McI l yX11_isOne cX11_isOne 2 .boolean rm_X11_isOne D (tyL cI cZ) (wR ad cI cZ) [.ref (ad 0), .int (iI v1)] σ r σ' := McI.mk mf_X11_isOne.2.2.2.2.2 (Nat.le_of_ble_eq_true rfl) (fun Γ C hq => j_sub [0, 1] rfl (tX11_isOne_L0 C hq v1 σ hf))
/-! TermLodgingsModel.room(III)I -/
def rm_X11_room : Room := { frames := 1, cells := 0, slots := 0, locals := 25 }
set_option maxRecDepth 20000 in
theorem tX11_room_L0 {ad : Nat → Nat} {cI cZ : ClassId} {Γ : Cx} {r : Int} {σ' : St} (C : CX cI cZ rm_X11_room 4 Γ cX11_room RX11) (hq : RetI .int (wR ad cI cZ) Γ cX11_room r σ') (v1 : Int) (v2 : Int) (v3 : Int) (σ : St) (hf : fX11_room_L0 v1 v2 v3 σ = some (r, σ')) : JJ (wR ad cI cZ) Γ σ 0 [(0, .ref (ad 0)), (1, .int (iI v1)), (2, .int (iI v2)), (3, .int (iI v3))] [] := by
  unfold fX11_room_L0 at hf
  refine j_iload_n 1 C dX11_room_0 rfl ?_
  refine j_i2l C rfl dX11_room_1 ?_
  refine j_lconst 0 C dX11_room_2 (by decide +kernel) ?_
  refine j_ldc2 (n := 7) C wt_935 (by decide +kernel) dX11_room_3 ?_
  obtain ⟨a1, s1, hc, hf⟩ := bd_s hf
  refine j_cSi [.long (iL (w32 v1)), .long (iL 0), .long (iL 7)] [] C (c_X11_in _ _ ad cI cZ _ _ _ _ _ _ hc) mf_X11_in wt_936 wt_937 rfl ⟨rfl, rfl, by decide, by decide⟩ rfl (Nat.le_of_ble_eq_true rfl) dX11_room_6 ?_
  refine j_if_eq 36 C rfl dX11_room_9 (by decide) (fun h => ?_) (fun h => ?_)
  · have hf := ifp h hf
    refine j_bipush C dX11_room_36 bp_m2 ?_
    exact retI hq hf dX11_room_38
  · have hf := ifn h hf
    refine j_iload_n 2 C dX11_room_12 rfl ?_
    refine j_i2l C rfl dX11_room_13 ?_
    refine j_lconst 0 C dX11_room_14 (by decide +kernel) ?_
    refine j_ldc2 (n := 20) C wt_939 (by decide +kernel) dX11_room_15 ?_
    obtain ⟨a2, s2, hc, hf⟩ := bd_s hf
    refine j_cSi [.long (iL (w32 v2)), .long (iL 0), .long (iL 20)] [] C (c_X11_in _ _ ad cI cZ _ _ _ _ _ _ hc) mf_X11_in wt_936 wt_937 rfl ⟨rfl, rfl, by decide, by decide⟩ rfl (Nat.le_of_ble_eq_true rfl) dX11_room_18 ?_
    refine j_if_eq 36 C rfl dX11_room_21 (by decide) (fun h => ?_) (fun h => ?_)
    · have hf := ifp h hf
      refine j_bipush C dX11_room_36 bp_m2 ?_
      exact retI hq hf dX11_room_38
    · have hf := ifn h hf
      refine j_iload_n 3 C dX11_room_24 rfl ?_
      refine j_i2l C rfl dX11_room_25 ?_
      refine j_lconst 0 C dX11_room_26 (by decide +kernel) ?_
      refine j_ldc2 (n := 3) C wt_940 (by decide +kernel) dX11_room_27 ?_
      obtain ⟨a3, s3, hc, hf⟩ := bd_s hf
      refine j_cSi [.long (iL (w32 v3)), .long (iL 0), .long (iL 3)] [] C (c_X11_in _ _ ad cI cZ _ _ _ _ _ _ hc) mf_X11_in wt_936 wt_937 rfl ⟨rfl, rfl, by decide, by decide⟩ rfl (Nat.le_of_ble_eq_true rfl) dX11_room_30 ?_
      refine j_if_ne 39 C rfl dX11_room_33 (by decide) (fun h => ?_) (fun h => ?_)
      · have hf := ifn h hf
        refine j_aload_n 0 C dX11_room_39 rfl ?_
        refine gR_0_0 C wt_834 dX11_room_40 ?_
        refine j_bipush C dX11_room_43 bp_24 ?_
        refine j_icmp_ne 51 C rfl wl_24 dX11_room_45 (by decide) (fun h => ?_) (fun h => ?_)
        · have hf := ifn h hf
          refine j_aload_n 0 C dX11_room_51 rfl ?_
          refine gR_0_1 C wt_835 dX11_room_52 ?_
          refine j_aload_n 0 C dX11_room_55 rfl ?_
          refine gR_0_0 C wt_834 dX11_room_56 ?_
          refine j_iload_n 1 C dX11_room_59 rfl ?_
          obtain ⟨hI, hf⟩ := gI_s hf
          refine tR_0 C hI dX11_room_60 ?_
          refine j_aload_n 0 C dX11_room_61 rfl ?_
          refine gR_0_2 C wt_836 dX11_room_62 ?_
          refine j_aload_n 0 C dX11_room_65 rfl ?_
          refine gR_0_0 C wt_834 dX11_room_66 ?_
          refine j_iload_n 2 C dX11_room_69 rfl ?_
          obtain ⟨hI, hf⟩ := gI_s hf
          refine tR_1 C hI dX11_room_70 ?_
          refine j_aload_n 0 C dX11_room_71 rfl ?_
          refine gR_0_3 C wt_837 dX11_room_72 ?_
          refine j_aload_n 0 C dX11_room_75 rfl ?_
          refine gR_0_0 C wt_834 dX11_room_76 ?_
          refine j_iload_n 3 C dX11_room_79 rfl ?_
          obtain ⟨hI, hf⟩ := gI_s hf
          refine tR_2 C hI dX11_room_80 ?_
          refine j_aload_n 0 C dX11_room_81 rfl ?_
          refine j_dup C rfl dX11_room_82 ?_
          refine gR_0_0 C wt_834 dX11_room_83 ?_
          refine j_iconst C dX11_room_86 ?_
          refine j_iadd C dX11_room_87 ?_
          refine pR_0_0 C wt_834 dX11_room_88 ?_
          refine j_aload_n 0 C dX11_room_91 rfl ?_
          refine gR_0_0 C wt_834 dX11_room_92 ?_
          refine j_iconst C dX11_room_95 ?_
          refine j_isub C dX11_room_96 ?_
          exact retI hq hf dX11_room_97
        · have hf := ifp h hf
          refine j_bipush C dX11_room_48 bp_m4 ?_
          exact retI hq hf dX11_room_50
      · have hf := ifp h hf
        refine j_bipush C dX11_room_36 bp_m2 ?_
        exact retI hq hf dX11_room_38
theorem c_X11_room (l : Launch) (D : va_G) (ad : Nat → Nat) (cI cZ : ClassId) (σ : St) (v1 : Int) (v2 : Int) (v3 : Int) (r : Int) (σ' : St) (hf : fX11_room σ v1 v2 v3 = some (r, σ')) : McI l yX11_room cX11_room 4 .int rm_X11_room D (tyL cI cZ) (wR ad cI cZ) [.ref (ad 0), .int (iI v1), .int (iI v2), .int (iI v3)] σ r σ' := McI.mk mf_X11_room.2.2.2.2.2 (Nat.le_of_ble_eq_true rfl) (fun Γ C hq => j_sub [0, 1, 2, 3] rfl (tX11_room_L0 C hq v1 v2 v3 σ hf))
/-! TermLodgingsModel.person(II)I -/
def rm_X11_person : Room := { frames := 1, cells := 0, slots := 0, locals := 25 }
set_option maxRecDepth 20000 in
theorem tX11_person_B98 {ad : Nat → Nat} {cI cZ : ClassId} {Γ : Cx} {r : Int} {σ' : St} (C : CX cI cZ rm_X11_person 5 Γ cX11_person RX11) (hq : RetI .int (wR ad cI cZ) Γ cX11_person r σ') {k98 : Int → Int → St → Option (Int × St)} (hk98 : ∀ (v3 : Int) (v4 : Int) (σ : St), k98 v3 v4 σ = some (r, σ') → JJ (wR ad cI cZ) Γ σ 98 [(0, .ref (ad 0)), (3, .int (iI v3)), (4, .int (iI v4))] []) (v3 : Int) (v4 : Int) (σ : St) (hf : fX11_person_B98 k98 v3 v4 σ = some (r, σ')) : JJ (wR ad cI cZ) Γ σ 98 [(0, .ref (ad 0)), (3, .int (iI v3)), (4, .int (iI v4))] [] := by
  unfold fX11_person_B98 at hf
  refine j_iload 2 C dX11_person_98 rfl ?_
  refine j_bipush C dX11_person_100 bp_60 ?_
  refine j_icmp_ge 124 C rfl wl_60 dX11_person_102 (by decide) (fun h => ?_) (fun h => ?_)
  · have hf := ifp h hf
    refine j_aload_n 0 C dX11_person_124 rfl ?_
    refine j_dup C rfl dX11_person_125 ?_
    refine gR_0_5 C wt_839 dX11_person_126 ?_
    refine j_iconst C dX11_person_129 ?_
    refine j_iadd C dX11_person_130 ?_
    refine pR_0_5 C wt_839 dX11_person_131 ?_
    refine j_iload_n 1 C dX11_person_134 rfl ?_
    exact retI hq hf dX11_person_135
  · have hf := ifn h hf
    refine j_aload_n 0 C dX11_person_105 rfl ?_
    refine gR_0_27 C wt_861 dX11_person_106 ?_
    refine j_bipush C dX11_person_109 bp_60 ?_
    refine j_iload_n 1 C dX11_person_111 rfl ?_
    refine j_imul C dX11_person_112 ?_
    refine j_iload 2 C dX11_person_113 rfl ?_
    refine j_iadd C dX11_person_115 ?_
    refine j_iconst C dX11_person_116 ?_
    obtain ⟨hI, hf⟩ := gI_s hf
    refine tR_21 C hI dX11_person_117 ?_
    refine j_iinc 2 [(4, .int (iI (v4 + 1))), (0, .ref (ad 0)), (3, .int (iI v3))] C dX11_person_118 (by decide) rfl rfl ?_
    refine j_goto 98 C dX11_person_121 (by decide) ?_
    exact j_sub [1, 2, 0] rfl (hk98 _ _ _ hf)
theorem tX11_person_L98 {ad : Nat → Nat} {cI cZ : ClassId} {Γ : Cx} {r : Int} {σ' : St} (C : CX cI cZ rm_X11_person 5 Γ cX11_person RX11) (hq : RetI .int (wR ad cI cZ) Γ cX11_person r σ') (n : Nat) : ∀ (v3 v4 : Int), ∀ (σ : St), fX11_person_L98 n v3 v4 σ = some (r, σ') → JJ (wR ad cI cZ) Γ σ 98 [(0, .ref (ad 0)), (3, .int (iI v3)), (4, .int (iI v4))] [] := by
  induction n with
  | zero => intro _ _ _ hf; cases hf
  | succ n ih => intro v3 v4 σ hf; exact tX11_person_B98 C hq ih v3 v4 σ hf
set_option maxRecDepth 20000 in
theorem tX11_person_L0 {ad : Nat → Nat} {cI cZ : ClassId} {Γ : Cx} {r : Int} {σ' : St} (C : CX cI cZ rm_X11_person 5 Γ cX11_person RX11) (hq : RetI .int (wR ad cI cZ) Γ cX11_person r σ') (v1 : Int) (v2 : Int) (σ : St) (hf : fX11_person_L0 v1 v2 σ = some (r, σ')) : JJ (wR ad cI cZ) Γ σ 0 [(0, .ref (ad 0)), (1, .int (iI v1)), (2, .int (iI v2))] [] := by
  unfold fX11_person_L0 at hf
  refine j_iload_n 1 C dX11_person_0 rfl ?_
  refine j_i2l C rfl dX11_person_1 ?_
  refine j_lconst 1 C dX11_person_2 (by decide +kernel) ?_
  refine j_ldc2 (n := 4) C wt_945 (by decide +kernel) dX11_person_3 ?_
  obtain ⟨a1, s1, hc, hf⟩ := bd_s hf
  refine j_cSi [.long (iL (w32 v1)), .long (iL 1), .long (iL 4)] [] C (c_X11_in _ _ ad cI cZ _ _ _ _ _ _ hc) mf_X11_in wt_936 wt_937 rfl ⟨rfl, rfl, by decide, by decide⟩ rfl (Nat.le_of_ble_eq_true rfl) dX11_person_6 ?_
  refine j_if_eq 26 C rfl dX11_person_9 (by decide) (fun h => ?_) (fun h => ?_)
  · have hf := ifp h hf
    refine j_bipush C dX11_person_26 bp_m2 ?_
    exact retI hq hf dX11_person_28
  · have hf := ifn h hf
    refine j_iload_n 2 C dX11_person_12 rfl ?_
    refine j_i2l C rfl dX11_person_13 ?_
    refine j_ldc2 (n := (-1)) C wt_946 (by decide +kernel) dX11_person_14 ?_
    refine j_ldc2 (n := 7) C wt_935 (by decide +kernel) dX11_person_17 ?_
    obtain ⟨a2, s2, hc, hf⟩ := bd_s hf
    refine j_cSi [.long (iL (w32 v2)), .long (iL (-1)), .long (iL 7)] [] C (c_X11_in _ _ ad cI cZ _ _ _ _ _ _ hc) mf_X11_in wt_936 wt_937 rfl ⟨rfl, rfl, by decide, by decide⟩ rfl (Nat.le_of_ble_eq_true rfl) dX11_person_20 ?_
    refine j_if_ne 29 C rfl dX11_person_23 (by decide) (fun h => ?_) (fun h => ?_)
    · have hf := ifn h hf
      refine j_aload_n 0 C dX11_person_29 rfl ?_
      refine gR_0_5 C wt_839 dX11_person_30 ?_
      refine j_bipush C dX11_person_33 bp_16 ?_
      refine j_icmp_ne 41 C rfl wl_16 dX11_person_35 (by decide) (fun h => ?_) (fun h => ?_)
      · have hf := ifn h hf
        refine j_aload_n 0 C dX11_person_41 rfl ?_
        refine gR_0_5 C wt_839 dX11_person_42 ?_
        refine j_istore_n [(3, .int (iI (s2.1 2))), (0, .ref (ad 0)), (1, .int (iI v1)), (2, .int (iI v2))] C dX11_person_45 (by decide) rfl ?_
        refine j_aload_n 1 C dX11_person_46 rfl ?_
        refine gR_0_6 C wt_840 dX11_person_47 ?_
        refine j_iload_n 0 C dX11_person_50 rfl ?_
        refine j_iload_n 2 C dX11_person_51 rfl ?_
        obtain ⟨hI, hf⟩ := gI_s hf
        refine tR_3 C hI dX11_person_52 ?_
        refine j_aload_n 1 C dX11_person_53 rfl ?_
        refine gR_0_7 C wt_841 dX11_person_54 ?_
        refine j_iload_n 0 C dX11_person_57 rfl ?_
        refine j_iload_n 3 C dX11_person_58 rfl ?_
        obtain ⟨hI, hf⟩ := gI_s hf
        refine tR_4 C hI dX11_person_59 ?_
        refine j_aload_n 1 C dX11_person_60 rfl ?_
        refine gR_0_8 C wt_842 dX11_person_61 ?_
        refine j_iload_n 0 C dX11_person_64 rfl ?_
        refine j_iconst C dX11_person_65 ?_
        obtain ⟨hI, hf⟩ := gI_s hf
        refine tR_5 C hI dX11_person_66 ?_
        refine j_aload_n 1 C dX11_person_67 rfl ?_
        refine gR_0_10 C wt_844 dX11_person_68 ?_
        refine j_iload_n 0 C dX11_person_71 rfl ?_
        refine j_iconst C dX11_person_72 ?_
        obtain ⟨hI, hf⟩ := gI_s hf
        refine tR_7 C hI dX11_person_73 ?_
        refine j_aload_n 1 C dX11_person_74 rfl ?_
        refine gR_0_11 C wt_845 dX11_person_75 ?_
        refine j_iload_n 0 C dX11_person_78 rfl ?_
        refine j_iconst C dX11_person_79 ?_
        obtain ⟨hI, hf⟩ := gI_s hf
        refine tR_8 C hI isB_0 dX11_person_80 ?_
        refine j_aload_n 1 C dX11_person_81 rfl ?_
        refine gR_0_12 C wt_846 dX11_person_82 ?_
        refine j_iload_n 0 C dX11_person_85 rfl ?_
        refine j_iconst C dX11_person_86 ?_
        obtain ⟨hI, hf⟩ := gI_s hf
        refine tR_9 C hI dX11_person_87 ?_
        refine j_aload_n 1 C dX11_person_88 rfl ?_
        refine gR_0_13 C wt_847 dX11_person_89 ?_
        refine j_iload_n 0 C dX11_person_92 rfl ?_
        refine j_iload_n 0 C dX11_person_93 rfl ?_
        obtain ⟨hI, hf⟩ := gI_s hf
        refine tR_10 C hI dX11_person_94 ?_
        refine j_iconst C dX11_person_95 ?_
        refine j_istore [(4, .int (iI 0)), (3, .int (iI (s2.1 2))), (0, .ref (ad 0)), (1, .int (iI v1)), (2, .int (iI v2))] C dX11_person_96 (by decide) rfl ?_
        exact j_sub [2, 1, 0] rfl (tX11_person_L98 C hq 1000 _ _ _ hf)
      · have hf := ifp h hf
        refine j_bipush C dX11_person_38 bp_m4 ?_
        exact retI hq hf dX11_person_40
    · have hf := ifp h hf
      refine j_bipush C dX11_person_26 bp_m2 ?_
      exact retI hq hf dX11_person_28
theorem c_X11_person (l : Launch) (D : va_G) (ad : Nat → Nat) (cI cZ : ClassId) (σ : St) (v1 : Int) (v2 : Int) (r : Int) (σ' : St) (hf : fX11_person σ v1 v2 = some (r, σ')) : McI l yX11_person cX11_person 5 .int rm_X11_person D (tyL cI cZ) (wR ad cI cZ) [.ref (ad 0), .int (iI v1), .int (iI v2)] σ r σ' := McI.mk mf_X11_person.2.2.2.2.2 (Nat.le_of_ble_eq_true rfl) (fun Γ C hq => j_sub [0, 1, 2] rfl (tX11_person_L0 C hq v1 v2 σ hf))
/-! TermLodgingsModel.rankOf(II)I -/
def rm_X11_rankOf : Room := { frames := 0, cells := 0, slots := 0, locals := 0 }
set_option maxRecDepth 20000 in
theorem tX11_rankOf_B2 {ad : Nat → Nat} {cI cZ : ClassId} {Γ : Cx} {r : Int} {σ' : St} (C : CX cI cZ rm_X11_rankOf 4 Γ cX11_rankOf RX11) (hq : RetI .int (wR ad cI cZ) Γ cX11_rankOf r σ') {k2 : Int → Int → Int → St → Option (Int × St)} (hk2 : ∀ (v1 : Int) (v2 : Int) (v3 : Int) (σ : St), k2 v1 v2 v3 σ = some (r, σ') → JJ (wR ad cI cZ) Γ σ 2 [(0, .ref (ad 0)), (1, .int (iI v1)), (2, .int (iI v2)), (3, .int (iI v3))] []) (v1 : Int) (v2 : Int) (v3 : Int) (σ : St) (hf : fX11_rankOf_B2 k2 v1 v2 v3 σ = some (r, σ')) : JJ (wR ad cI cZ) Γ σ 2 [(0, .ref (ad 0)), (1, .int (iI v1)), (2, .int (iI v2)), (3, .int (iI v3))] [] := by
  unfold fX11_rankOf_B2 at hf
  refine j_iload_n 3 C dX11_rankOf_2 rfl ?_
  refine j_aload_n 0 C dX11_rankOf_3 rfl ?_
  refine gR_0_8 C wt_842 dX11_rankOf_4 ?_
  refine j_iload_n 1 C dX11_rankOf_7 rfl ?_
  obtain ⟨hI, hf⟩ := gI_s hf
  refine lR_5 C hI dX11_rankOf_8 ?_
  refine j_icmp_ge 35 C rfl rfl dX11_rankOf_9 (by decide) (fun h => ?_) (fun h => ?_)
  · have hf := ifp h hf
    refine j_bipush C dX11_rankOf_35 bp_8 ?_
    exact retI hq hf dX11_rankOf_37
  · have hf := ifn h hf
    refine j_aload_n 0 C dX11_rankOf_12 rfl ?_
    refine gR_0_9 C wt_843 dX11_rankOf_13 ?_
    refine j_bipush C dX11_rankOf_16 bp_8 ?_
    refine j_iload_n 1 C dX11_rankOf_18 rfl ?_
    refine j_imul C dX11_rankOf_19 ?_
    refine j_iload_n 3 C dX11_rankOf_20 rfl ?_
    refine j_iadd C dX11_rankOf_21 ?_
    obtain ⟨hI, hf⟩ := gI_s hf
    refine lR_6 C hI dX11_rankOf_22 ?_
    refine j_iload_n 2 C dX11_rankOf_23 rfl ?_
    refine j_icmp_ne 29 C rfl rfl dX11_rankOf_24 (by decide) (fun h => ?_) (fun h => ?_)
    · have hf := ifn h hf
      refine j_iinc 3 [(3, .int (iI (v3 + 1))), (0, .ref (ad 0)), (1, .int (iI v1)), (2, .int (iI v2))] C dX11_rankOf_29 (by decide) rfl rfl ?_
      refine j_goto 2 C dX11_rankOf_32 (by decide) ?_
      exact j_sub [1, 2, 3, 0] rfl (hk2 _ _ _ _ hf)
    · have hf := ifp h hf
      refine j_iload_n 3 C dX11_rankOf_27 rfl ?_
      exact retI hq hf dX11_rankOf_28
theorem tX11_rankOf_L2 {ad : Nat → Nat} {cI cZ : ClassId} {Γ : Cx} {r : Int} {σ' : St} (C : CX cI cZ rm_X11_rankOf 4 Γ cX11_rankOf RX11) (hq : RetI .int (wR ad cI cZ) Γ cX11_rankOf r σ') (n : Nat) : ∀ (v1 v2 v3 : Int), ∀ (σ : St), fX11_rankOf_L2 n v1 v2 v3 σ = some (r, σ') → JJ (wR ad cI cZ) Γ σ 2 [(0, .ref (ad 0)), (1, .int (iI v1)), (2, .int (iI v2)), (3, .int (iI v3))] [] := by
  induction n with
  | zero => intro _ _ _ _ hf; cases hf
  | succ n ih => intro v1 v2 v3 σ hf; exact tX11_rankOf_B2 C hq ih v1 v2 v3 σ hf
set_option maxRecDepth 20000 in
theorem tX11_rankOf_L0 {ad : Nat → Nat} {cI cZ : ClassId} {Γ : Cx} {r : Int} {σ' : St} (C : CX cI cZ rm_X11_rankOf 4 Γ cX11_rankOf RX11) (hq : RetI .int (wR ad cI cZ) Γ cX11_rankOf r σ') (v1 : Int) (v2 : Int) (σ : St) (hf : fX11_rankOf_L0 v1 v2 σ = some (r, σ')) : JJ (wR ad cI cZ) Γ σ 0 [(0, .ref (ad 0)), (1, .int (iI v1)), (2, .int (iI v2))] [] := by
  unfold fX11_rankOf_L0 at hf
  refine j_iconst C dX11_rankOf_0 ?_
  refine j_istore_n [(3, .int (iI 0)), (0, .ref (ad 0)), (1, .int (iI v1)), (2, .int (iI v2))] C dX11_rankOf_1 (by decide) rfl ?_
  exact j_sub [1, 2, 3, 0] rfl (tX11_rankOf_L2 C hq 1000 _ _ _ _ hf)
theorem c_X11_rankOf (l : Launch) (D : va_G) (ad : Nat → Nat) (cI cZ : ClassId) (σ : St) (v1 : Int) (v2 : Int) (r : Int) (σ' : St) (hf : fX11_rankOf σ v1 v2 = some (r, σ')) : McI l yX11_rankOf cX11_rankOf 4 .int rm_X11_rankOf D (tyL cI cZ) (wR ad cI cZ) [.ref (ad 0), .int (iI v1), .int (iI v2)] σ r σ' := McI.mk mf_X11_rankOf.2.2.2.2.2 (Nat.le_of_ble_eq_true rfl) (fun Γ C hq => j_sub [0, 1, 2] rfl (tX11_rankOf_L0 C hq v1 v2 σ hf))
