/-! TermLodgings$Dealing.settlePicks(I)V -/
def rm_X0_settlePicks : Room := { frames := 2, cells := 0, slots := 0, locals := 43 }
set_option maxRecDepth 20000 in
theorem tX0_settlePicks_B2 {ad : Nat → Nat} {cI cZ : ClassId} {Γ : Cx} {σ' : St} (C : CX cI cZ rm_X0_settlePicks 3 Γ cX0_settlePicks RX0) (hq : RetV (wC ad cI cZ) Γ cX0_settlePicks σ') {k2 : Int → Int → St → Option St} (hk2 : ∀ (v1 : Int) (v2 : Int) (σ : St), k2 v1 v2 σ = some σ' → JJ (wC ad cI cZ) Γ σ 2 [(0, .ref (ad 6)), (1, .int (iI v1)), (2, .int (iI v2))] []) (v1 : Int) (v2 : Int) (σ : St) (hf : fX0_settlePicks_B2 k2 v1 v2 σ = some σ') : JJ (wC ad cI cZ) Γ σ 2 [(0, .ref (ad 6)), (1, .int (iI v1)), (2, .int (iI v2))] [] := by
  unfold fX0_settlePicks_B2 at hf
  refine j_iload_n 2 C dX0_settlePicks_2 rfl ?_
  refine j_aload_n 0 C dX0_settlePicks_3 rfl ?_
  refine gC_6_1 C wt_199 dX0_settlePicks_4 ?_
  refine gC_3_0 C wt_79 dX0_settlePicks_7 ?_
  refine j_icmp_ge 41 C rfl rfl dX0_settlePicks_10 (by decide) (fun h => ?_) (fun h => ?_)
  · have hf := ifp h hf
    exact retV hq hf dX0_settlePicks_41
  · have hf := ifn h hf
    refine j_iload_n 1 C dX0_settlePicks_13 rfl ?_
    refine j_iload_n 2 C dX0_settlePicks_14 rfl ?_
    obtain ⟨a1, s1, hc, hf⟩ := bd_s hf
    refine j_cSNi (host := "TermLodgings") [.int (iI v1), .int (iI v2)] [] C (c_X10_inBits _ _ ad cI cZ _ _ _ _ _ hc) mf_X10_inBits (List.mem_of_getElem? (i := 8) rfl) wt_451 rfl ⟨rfl, rfl, by decide, by decide⟩ rfl (Nat.le_of_ble_eq_true rfl) dX0_settlePicks_15 ?_
    refine j_if_eq 35 C rfl dX0_settlePicks_18 (by decide) (fun h => ?_) (fun h => ?_)
    · have hf := ifp h hf
      refine j_iinc 2 [(2, .int (iI (v2 + 1))), (0, .ref (ad 6)), (1, .int (iI v1))] C dX0_settlePicks_35 (by decide) rfl rfl ?_
      refine j_goto 2 C dX0_settlePicks_38 (by decide) ?_
      exact j_sub [1, 2, 0] rfl (hk2 _ _ _ hf)
    · have hf := ifn h hf
      refine j_aload_n 0 C dX0_settlePicks_21 rfl ?_
      refine gC_6_0 C wt_198 dX0_settlePicks_22 ?_
      refine j_iload_n 2 C dX0_settlePicks_25 rfl ?_
      refine j_aload_n 0 C dX0_settlePicks_26 rfl ?_
      refine gC_6_3 C wt_201 dX0_settlePicks_27 ?_
      refine j_iload_n 2 C dX0_settlePicks_30 rfl ?_
      obtain ⟨hI, hf⟩ := gI_s hf
      refine lC_17 C hI dX0_settlePicks_31 ?_
      obtain ⟨s2, hc, hf⟩ := bv_s hf
      refine j_cVv (q0 := 1) (ci := 7) (T := TX7) (N := 4) [.int (iI v2), .int (iI (s1.2 17 (ix v2)))] [] C (c_X7_settle _ _ ad cI cZ _ _ _ _ hc) mf_X7_settle wt_622 wt_476 wt_477 rfl rfl rfl ⟨rfl, rfl, by decide, by decide⟩ rfl (Nat.le_of_ble_eq_true rfl) dX0_settlePicks_32 ?_
      refine j_iinc 2 [(2, .int (iI (v2 + 1))), (0, .ref (ad 6)), (1, .int (iI v1))] C dX0_settlePicks_35 (by decide) rfl rfl ?_
      refine j_goto 2 C dX0_settlePicks_38 (by decide) ?_
      exact j_sub [1, 2, 0] rfl (hk2 _ _ _ hf)
theorem tX0_settlePicks_L2 {ad : Nat → Nat} {cI cZ : ClassId} {Γ : Cx} {σ' : St} (C : CX cI cZ rm_X0_settlePicks 3 Γ cX0_settlePicks RX0) (hq : RetV (wC ad cI cZ) Γ cX0_settlePicks σ') (n : Nat) : ∀ (v1 v2 : Int), ∀ (σ : St), fX0_settlePicks_L2 n v1 v2 σ = some σ' → JJ (wC ad cI cZ) Γ σ 2 [(0, .ref (ad 6)), (1, .int (iI v1)), (2, .int (iI v2))] [] := by
  induction n with
  | zero => intro _ _ _ hf; cases hf
  | succ n ih => intro v1 v2 σ hf; exact tX0_settlePicks_B2 C hq ih v1 v2 σ hf
set_option maxRecDepth 20000 in
theorem tX0_settlePicks_L0 {ad : Nat → Nat} {cI cZ : ClassId} {Γ : Cx} {σ' : St} (C : CX cI cZ rm_X0_settlePicks 3 Γ cX0_settlePicks RX0) (hq : RetV (wC ad cI cZ) Γ cX0_settlePicks σ') (v1 : Int) (σ : St) (hf : fX0_settlePicks_L0 v1 σ = some σ') : JJ (wC ad cI cZ) Γ σ 0 [(0, .ref (ad 6)), (1, .int (iI v1))] [] := by
  unfold fX0_settlePicks_L0 at hf
  refine j_iconst C dX0_settlePicks_0 ?_
  refine j_istore_n [(2, .int (iI 0)), (0, .ref (ad 6)), (1, .int (iI v1))] C dX0_settlePicks_1 (by decide) rfl ?_
  exact j_sub [1, 2, 0] rfl (tX0_settlePicks_L2 C hq 1000 _ _ _ hf)
theorem c_X0_settlePicks (l : Launch) (D : va_G) (ad : Nat → Nat) (cI cZ : ClassId) (σ : St) (v1 : Int) (σ' : St) (hf : fX0_settlePicks σ v1 = some σ') : McV l yX0_settlePicks cX0_settlePicks 3 rm_X0_settlePicks D (tyL cI cZ) (wC ad cI cZ) [.ref (ad 6), .int (iI v1)] σ σ' := McV.mk mf_X0_settlePicks.2.2.2.2.2 (Nat.le_of_ble_eq_true rfl) (fun Γ C hq => j_sub [0, 1] rfl (tX0_settlePicks_L0 C hq v1 σ hf))
/-! TermLodgings$Dealing.settleTogether(II)Z -/
def rm_X0_settleTogether : Room := { frames := 3, cells := 0, slots := 0, locals := 67 }
set_option maxRecDepth 20000 in
theorem tX0_settleTogether_B2 {ad : Nat → Nat} {cI cZ : ClassId} {Γ : Cx} {r : Int} {σ' : St} (C : CX cI cZ rm_X0_settleTogether 5 Γ cX0_settleTogether RX0) (hq : RetI .boolean (wC ad cI cZ) Γ cX0_settleTogether r σ') {k2 : Int → Int → Int → St → Option (Int × St)} (hk2 : ∀ (v1 : Int) (v2 : Int) (v3 : Int) (σ : St), k2 v1 v2 v3 σ = some (r, σ') → JJ (wC ad cI cZ) Γ σ 2 [(0, .ref (ad 6)), (1, .int (iI v1)), (2, .int (iI v2)), (3, .int (iI v3))] []) (v1 : Int) (v2 : Int) (v3 : Int) (σ : St) (hf : fX0_settleTogether_B2 k2 v1 v2 v3 σ = some (r, σ')) : JJ (wC ad cI cZ) Γ σ 2 [(0, .ref (ad 6)), (1, .int (iI v1)), (2, .int (iI v2)), (3, .int (iI v3))] [] := by
  unfold fX0_settleTogether_B2 at hf
  refine j_iload_n 3 C dX0_settleTogether_2 rfl ?_
  refine j_aload_n 0 C dX0_settleTogether_3 rfl ?_
  refine gC_6_1 C wt_199 dX0_settleTogether_4 ?_
  refine j_iload_n 1 C dX0_settleTogether_7 rfl ?_
  obtain ⟨a1, s1, hc, hf⟩ := bd_s hf
  refine j_cVi (q0 := 3) (ci := 3) (T := TX3) (N := 8) [.int (iI v1)] [.int (iI v3)] C (c_X3_wishesOf _ _ ad cI cZ _ _ _ _ hc) mf_X3_wishesOf wt_596 wt_398 wt_399 rfl rfl rfl ⟨rfl, rfl, by decide, by decide⟩ rfl (Nat.le_of_ble_eq_true rfl) dX0_settleTogether_8 ?_
  refine j_icmp_ge 62 C rfl rfl dX0_settleTogether_11 (by decide) (fun h => ?_) (fun h => ?_)
  · have hf := ifp h hf
    refine j_iconst C dX0_settleTogether_62 ?_
    exact retZc hq isB_0 hf dX0_settleTogether_63
  · have hf := ifn h hf
    refine j_aload_n 0 C dX0_settleTogether_14 rfl ?_
    refine gC_6_2 C wt_200 dX0_settleTogether_15 ?_
    refine j_aload_n 0 C dX0_settleTogether_18 rfl ?_
    refine gC_6_1 C wt_199 dX0_settleTogether_19 ?_
    refine j_iload_n 1 C dX0_settleTogether_22 rfl ?_
    refine j_iload_n 3 C dX0_settleTogether_23 rfl ?_
    obtain ⟨a2, s2, hc, hf⟩ := bd_s hf
    refine j_cVi (q0 := 3) (ci := 3) (T := TX3) (N := 8) [.int (iI v1), .int (iI v3)] [.ref (ad 2)] C (c_X3_wishAt _ _ ad cI cZ _ _ _ _ _ hc) mf_X3_wishAt wt_597 wt_403 wt_404 rfl rfl rfl ⟨rfl, rfl, by decide, by decide⟩ rfl (Nat.le_of_ble_eq_true rfl) dX0_settleTogether_24 ?_
    obtain ⟨a3, s3, hc, hf⟩ := bd_s hf
    refine j_cVi (q0 := 2) (ci := 5) (T := TX5) (N := 7) [.int (iI a2)] [] C (c_X5_houseOf _ _ ad cI cZ _ _ _ _ hc) mf_X5_houseOf wt_598 wt_599 wt_600 rfl rfl rfl ⟨rfl, rfl, by decide, by decide⟩ rfl (Nat.le_of_ble_eq_true rfl) dX0_settleTogether_27 ?_
    refine j_istore [(4, .int (iI a3)), (0, .ref (ad 6)), (1, .int (iI v1)), (2, .int (iI v2)), (3, .int (iI v3))] C dX0_settleTogether_30 (by decide) rfl ?_
    refine j_aload_n 1 C dX0_settleTogether_32 rfl ?_
    refine j_aload_n 1 C dX0_settleTogether_33 rfl ?_
    refine gC_6_2 C wt_200 dX0_settleTogether_34 ?_
    refine j_iload 0 C dX0_settleTogether_37 rfl ?_
    obtain ⟨a4, s4, hc, hf⟩ := bd_s hf
    refine j_cVi (q0 := 2) (ci := 5) (T := TX5) (N := 7) [.int (iI a3)] [.ref (ad 6)] C (c_X5_under _ _ ad cI cZ _ _ _ _ hc) mf_X5_under wt_602 wt_603 wt_604 rfl rfl rfl ⟨rfl, rfl, by decide, by decide⟩ rfl (Nat.le_of_ble_eq_true rfl) dX0_settleTogether_39 ?_
    refine j_iload_n 3 C dX0_settleTogether_42 rfl ?_
    obtain ⟨a5, s5, hc, hf⟩ := bd_s hf
    refine j_cVi (q0 := 6) (ci := 0) (T := TX0) (N := 4) [.int (iI a4), .int (iI v2)] [] C (c_X0_pickAmong _ _ ad cI cZ _ _ _ _ _ hc) mf_X0_pickAmong wt_606 wt_608 ws_9 rfl rfl rfl ⟨rfl, rfl, by decide, by decide⟩ rfl (Nat.le_of_ble_eq_true rfl) dX0_settleTogether_43 ?_
    refine j_if_eq 56 C rfl dX0_settleTogether_46 (by decide) (fun h => ?_) (fun h => ?_)
    · have hf := ifp h hf
      refine j_iinc 4 [(3, .int (iI (v3 + 1))), (4, .int (iI a3)), (0, .ref (ad 6)), (1, .int (iI v1)), (2, .int (iI v2))] C dX0_settleTogether_56 (by decide) rfl rfl ?_
      refine j_goto 2 C dX0_settleTogether_59 (by decide) ?_
      exact j_sub [2, 3, 4, 0] rfl (hk2 _ _ _ _ hf)
    · have hf := ifn h hf
      refine j_aload_n 1 C dX0_settleTogether_49 rfl ?_
      refine j_iload_n 3 C dX0_settleTogether_50 rfl ?_
      obtain ⟨s6, hc, hf⟩ := bv_s hf
      refine j_cVv (q0 := 6) (ci := 0) (T := TX0) (N := 4) [.int (iI v2)] [] C (c_X0_settlePicks _ _ ad cI cZ _ _ _ hc) mf_X0_settlePicks wt_618 wt_620 ws_10 rfl rfl rfl ⟨rfl, rfl, by decide, by decide⟩ rfl (Nat.le_of_ble_eq_true rfl) dX0_settleTogether_51 ?_
      refine j_iconst C dX0_settleTogether_54 ?_
      exact retZc hq isB_1 hf dX0_settleTogether_55
theorem tX0_settleTogether_L2 {ad : Nat → Nat} {cI cZ : ClassId} {Γ : Cx} {r : Int} {σ' : St} (C : CX cI cZ rm_X0_settleTogether 5 Γ cX0_settleTogether RX0) (hq : RetI .boolean (wC ad cI cZ) Γ cX0_settleTogether r σ') (n : Nat) : ∀ (v1 v2 v3 : Int), ∀ (σ : St), fX0_settleTogether_L2 n v1 v2 v3 σ = some (r, σ') → JJ (wC ad cI cZ) Γ σ 2 [(0, .ref (ad 6)), (1, .int (iI v1)), (2, .int (iI v2)), (3, .int (iI v3))] [] := by
  induction n with
  | zero => intro _ _ _ _ hf; cases hf
  | succ n ih => intro v1 v2 v3 σ hf; exact tX0_settleTogether_B2 C hq ih v1 v2 v3 σ hf
set_option maxRecDepth 20000 in
theorem tX0_settleTogether_L0 {ad : Nat → Nat} {cI cZ : ClassId} {Γ : Cx} {r : Int} {σ' : St} (C : CX cI cZ rm_X0_settleTogether 5 Γ cX0_settleTogether RX0) (hq : RetI .boolean (wC ad cI cZ) Γ cX0_settleTogether r σ') (v1 : Int) (v2 : Int) (σ : St) (hf : fX0_settleTogether_L0 v1 v2 σ = some (r, σ')) : JJ (wC ad cI cZ) Γ σ 0 [(0, .ref (ad 6)), (1, .int (iI v1)), (2, .int (iI v2))] [] := by
  unfold fX0_settleTogether_L0 at hf
  refine j_iconst C dX0_settleTogether_0 ?_
  refine j_istore_n [(3, .int (iI 0)), (0, .ref (ad 6)), (1, .int (iI v1)), (2, .int (iI v2))] C dX0_settleTogether_1 (by decide) rfl ?_
  exact j_sub [1, 2, 3, 0] rfl (tX0_settleTogether_L2 C hq 1000 _ _ _ _ hf)
theorem c_X0_settleTogether (l : Launch) (D : va_G) (ad : Nat → Nat) (cI cZ : ClassId) (σ : St) (v1 : Int) (v2 : Int) (r : Int) (σ' : St) (hf : fX0_settleTogether σ v1 v2 = some (r, σ')) : McI l yX0_settleTogether cX0_settleTogether 5 .boolean rm_X0_settleTogether D (tyL cI cZ) (wC ad cI cZ) [.ref (ad 6), .int (iI v1), .int (iI v2)] σ r σ' := McI.mk mf_X0_settleTogether.2.2.2.2.2 (Nat.le_of_ble_eq_true rfl) (fun Γ C hq => j_sub [0, 1, 2] rfl (tX0_settleTogether_L0 C hq v1 v2 σ hf))
/-! TermLodgings$Dealing.dearestOpenWish(I)I -/
def rm_X0_dearestOpenWish : Room := { frames := 2, cells := 0, slots := 0, locals := 44 }
set_option maxRecDepth 20000 in
theorem tX0_dearestOpenWish_B11 {ad : Nat → Nat} {cI cZ : ClassId} {Γ : Cx} {r : Int} {σ' : St} (C : CX cI cZ rm_X0_dearestOpenWish 5 Γ cX0_dearestOpenWish RX0) (hq : RetI .int (wC ad cI cZ) Γ cX0_dearestOpenWish r σ') {k11 : Int → Int → Int → St → Option (Int × St)} (hk11 : ∀ (v1 : Int) (v2 : Int) (v3 : Int) (σ : St), k11 v1 v2 v3 σ = some (r, σ') → JJ (wC ad cI cZ) Γ σ 11 [(0, .ref (ad 6)), (1, .int (iI v1)), (2, .int (iI v2)), (3, .int (iI v3))] []) (v1 : Int) (v2 : Int) (v3 : Int) (σ : St) (hf : fX0_dearestOpenWish_B11 k11 v1 v2 v3 σ = some (r, σ')) : JJ (wC ad cI cZ) Γ σ 11 [(0, .ref (ad 6)), (1, .int (iI v1)), (2, .int (iI v2)), (3, .int (iI v3))] [] := by
  unfold fX0_dearestOpenWish_B11 at hf
  refine j_iload_n 3 C dX0_dearestOpenWish_11 rfl ?_
  refine j_aload_n 0 C dX0_dearestOpenWish_12 rfl ?_
  refine gC_6_1 C wt_199 dX0_dearestOpenWish_13 ?_
  refine j_iload_n 1 C dX0_dearestOpenWish_16 rfl ?_
  obtain ⟨a1, s1, hc, hf⟩ := bd_s hf
  refine j_cVi (q0 := 3) (ci := 3) (T := TX3) (N := 8) [.int (iI v1)] [.int (iI v3)] C (c_X3_wishesOf _ _ ad cI cZ _ _ _ _ hc) mf_X3_wishesOf wt_596 wt_398 wt_399 rfl rfl rfl ⟨rfl, rfl, by decide, by decide⟩ rfl (Nat.le_of_ble_eq_true rfl) dX0_dearestOpenWish_17 ?_
  refine j_icmp_ge 52 C rfl rfl dX0_dearestOpenWish_20 (by decide) (fun h => ?_) (fun h => ?_)
  · have hf := ifp h hf
    refine j_iconst C dX0_dearestOpenWish_52 ?_
    exact retI hq hf dX0_dearestOpenWish_53
  · have hf := ifn h hf
    refine j_aload_n 0 C dX0_dearestOpenWish_23 rfl ?_
    refine gC_6_1 C wt_199 dX0_dearestOpenWish_24 ?_
    refine j_iload_n 1 C dX0_dearestOpenWish_27 rfl ?_
    refine j_iload_n 3 C dX0_dearestOpenWish_28 rfl ?_
    obtain ⟨a2, s2, hc, hf⟩ := bd_s hf
    refine j_cVi (q0 := 3) (ci := 3) (T := TX3) (N := 8) [.int (iI v1), .int (iI v3)] [] C (c_X3_wishAt _ _ ad cI cZ _ _ _ _ _ hc) mf_X3_wishAt wt_597 wt_403 wt_404 rfl rfl rfl ⟨rfl, rfl, by decide, by decide⟩ rfl (Nat.le_of_ble_eq_true rfl) dX0_dearestOpenWish_29 ?_
    refine j_istore [(4, .int (iI a2)), (0, .ref (ad 6)), (1, .int (iI v1)), (2, .int (iI v2)), (3, .int (iI v3))] C dX0_dearestOpenWish_32 (by decide) rfl ?_
    refine j_iload_n 3 C dX0_dearestOpenWish_34 rfl ?_
    refine j_iload 0 C dX0_dearestOpenWish_35 rfl ?_
    obtain ⟨a3, s3, hc, hf⟩ := bd_s hf
    refine j_cSNi (host := "TermLodgings") [.int (iI v2), .int (iI a2)] [] C (c_X10_inBits _ _ ad cI cZ _ _ _ _ _ hc) mf_X10_inBits (List.mem_of_getElem? (i := 8) rfl) wt_451 rfl ⟨rfl, rfl, by decide, by decide⟩ rfl (Nat.le_of_ble_eq_true rfl) dX0_dearestOpenWish_37 ?_
    refine j_if_eq 46 C rfl dX0_dearestOpenWish_40 (by decide) (fun h => ?_) (fun h => ?_)
    · have hf := ifp h hf
      refine j_iinc 4 [(3, .int (iI (v3 + 1))), (4, .int (iI a2)), (0, .ref (ad 6)), (1, .int (iI v1)), (2, .int (iI v2))] C dX0_dearestOpenWish_46 (by decide) rfl rfl ?_
      refine j_goto 11 C dX0_dearestOpenWish_49 (by decide) ?_
      exact j_sub [2, 3, 4, 0] rfl (hk11 _ _ _ _ hf)
    · have hf := ifn h hf
      refine j_iload 0 C dX0_dearestOpenWish_43 rfl ?_
      exact retI hq hf dX0_dearestOpenWish_45
theorem tX0_dearestOpenWish_L11 {ad : Nat → Nat} {cI cZ : ClassId} {Γ : Cx} {r : Int} {σ' : St} (C : CX cI cZ rm_X0_dearestOpenWish 5 Γ cX0_dearestOpenWish RX0) (hq : RetI .int (wC ad cI cZ) Γ cX0_dearestOpenWish r σ') (n : Nat) : ∀ (v1 v2 v3 : Int), ∀ (σ : St), fX0_dearestOpenWish_L11 n v1 v2 v3 σ = some (r, σ') → JJ (wC ad cI cZ) Γ σ 11 [(0, .ref (ad 6)), (1, .int (iI v1)), (2, .int (iI v2)), (3, .int (iI v3))] [] := by
  induction n with
  | zero => intro _ _ _ _ hf; cases hf
  | succ n ih => intro v1 v2 v3 σ hf; exact tX0_dearestOpenWish_B11 C hq ih v1 v2 v3 σ hf
set_option maxRecDepth 20000 in
theorem tX0_dearestOpenWish_L0 {ad : Nat → Nat} {cI cZ : ClassId} {Γ : Cx} {r : Int} {σ' : St} (C : CX cI cZ rm_X0_dearestOpenWish 5 Γ cX0_dearestOpenWish RX0) (hq : RetI .int (wC ad cI cZ) Γ cX0_dearestOpenWish r σ') (v1 : Int) (σ : St) (hf : fX0_dearestOpenWish_L0 v1 σ = some (r, σ')) : JJ (wC ad cI cZ) Γ σ 0 [(0, .ref (ad 6)), (1, .int (iI v1))] [] := by
  unfold fX0_dearestOpenWish_L0 at hf
  refine j_aload_n 0 C dX0_dearestOpenWish_0 rfl ?_
  refine gC_6_0 C wt_198 dX0_dearestOpenWish_1 ?_
  refine j_iload_n 1 C dX0_dearestOpenWish_4 rfl ?_
  obtain ⟨a4, s4, hc, hf⟩ := bd_s hf
  refine j_cVi (q0 := 1) (ci := 7) (T := TX7) (N := 4) [.int (iI v1)] [] C (c_X7_openTo _ _ ad cI cZ _ _ _ _ hc) mf_X7_openTo wt_610 wt_611 wt_612 rfl rfl rfl ⟨rfl, rfl, by decide, by decide⟩ rfl (Nat.le_of_ble_eq_true rfl) dX0_dearestOpenWish_5 ?_
  refine j_istore_n [(2, .int (iI a4)), (0, .ref (ad 6)), (1, .int (iI v1))] C dX0_dearestOpenWish_8 (by decide) rfl ?_
  refine j_iconst C dX0_dearestOpenWish_9 ?_
  refine j_istore_n [(3, .int (iI 0)), (2, .int (iI a4)), (0, .ref (ad 6)), (1, .int (iI v1))] C dX0_dearestOpenWish_10 (by decide) rfl ?_
  exact j_sub [2, 3, 1, 0] rfl (tX0_dearestOpenWish_L11 C hq 1000 _ _ _ _ hf)
theorem c_X0_dearestOpenWish (l : Launch) (D : va_G) (ad : Nat → Nat) (cI cZ : ClassId) (σ : St) (v1 : Int) (r : Int) (σ' : St) (hf : fX0_dearestOpenWish σ v1 = some (r, σ')) : McI l yX0_dearestOpenWish cX0_dearestOpenWish 5 .int rm_X0_dearestOpenWish D (tyL cI cZ) (wC ad cI cZ) [.ref (ad 6), .int (iI v1)] σ r σ' := McI.mk mf_X0_dearestOpenWish.2.2.2.2.2 (Nat.le_of_ble_eq_true rfl) (fun Γ C hq => j_sub [0, 1] rfl (tX0_dearestOpenWish_L0 C hq v1 σ hf))
/-! TermLodgings$Dealing.settleEach(I)V -/
def rm_X0_settleEach : Room := { frames := 3, cells := 0, slots := 0, locals := 68 }
set_option maxRecDepth 20000 in
theorem tX0_settleEach_B2 {ad : Nat → Nat} {cI cZ : ClassId} {Γ : Cx} {σ' : St} (C : CX cI cZ rm_X0_settleEach 3 Γ cX0_settleEach RX0) (hq : RetV (wC ad cI cZ) Γ cX0_settleEach σ') {k2 : Int → Int → St → Option St} (hk2 : ∀ (v1 : Int) (v2 : Int) (σ : St), k2 v1 v2 σ = some σ' → JJ (wC ad cI cZ) Γ σ 2 [(0, .ref (ad 6)), (1, .int (iI v1)), (2, .int (iI v2))] []) (v1 : Int) (v2 : Int) (σ : St) (hf : fX0_settleEach_B2 k2 v1 v2 σ = some σ') : JJ (wC ad cI cZ) Γ σ 2 [(0, .ref (ad 6)), (1, .int (iI v1)), (2, .int (iI v2))] [] := by
  unfold fX0_settleEach_B2 at hf
  refine j_iload_n 2 C dX0_settleEach_2 rfl ?_
  refine j_aload_n 0 C dX0_settleEach_3 rfl ?_
  refine gC_6_1 C wt_199 dX0_settleEach_4 ?_
  refine gC_3_0 C wt_79 dX0_settleEach_7 ?_
  refine j_icmp_ge 40 C rfl rfl dX0_settleEach_10 (by decide) (fun h => ?_) (fun h => ?_)
  · have hf := ifp h hf
    exact retV hq hf dX0_settleEach_40
  · have hf := ifn h hf
    refine j_iload_n 1 C dX0_settleEach_13 rfl ?_
    refine j_iload_n 2 C dX0_settleEach_14 rfl ?_
    obtain ⟨a1, s1, hc, hf⟩ := bd_s hf
    refine j_cSNi (host := "TermLodgings") [.int (iI v1), .int (iI v2)] [] C (c_X10_inBits _ _ ad cI cZ _ _ _ _ _ hc) mf_X10_inBits (List.mem_of_getElem? (i := 8) rfl) wt_451 rfl ⟨rfl, rfl, by decide, by decide⟩ rfl (Nat.le_of_ble_eq_true rfl) dX0_settleEach_15 ?_
    refine j_if_eq 34 C rfl dX0_settleEach_18 (by decide) (fun h => ?_) (fun h => ?_)
    · have hf := ifp h hf
      refine j_iinc 2 [(2, .int (iI (v2 + 1))), (0, .ref (ad 6)), (1, .int (iI v1))] C dX0_settleEach_34 (by decide) rfl rfl ?_
      refine j_goto 2 C dX0_settleEach_37 (by decide) ?_
      exact j_sub [1, 2, 0] rfl (hk2 _ _ _ hf)
    · have hf := ifn h hf
      refine j_aload_n 0 C dX0_settleEach_21 rfl ?_
      refine gC_6_0 C wt_198 dX0_settleEach_22 ?_
      refine j_iload_n 2 C dX0_settleEach_25 rfl ?_
      refine j_aload_n 0 C dX0_settleEach_26 rfl ?_
      refine j_iload_n 2 C dX0_settleEach_27 rfl ?_
      obtain ⟨a2, s2, hc, hf⟩ := bd_s hf
      refine j_cVi (q0 := 6) (ci := 0) (T := TX0) (N := 4) [.int (iI v2)] [.int (iI v2), .ref (ad 1)] C (c_X0_dearestOpenWish _ _ ad cI cZ _ _ _ _ hc) mf_X0_dearestOpenWish wt_627 wt_629 ws_12 rfl rfl rfl ⟨rfl, rfl, by decide, by decide⟩ rfl (Nat.le_of_ble_eq_true rfl) dX0_settleEach_28 ?_
      obtain ⟨s3, hc, hf⟩ := bv_s hf
      refine j_cVv (q0 := 1) (ci := 7) (T := TX7) (N := 4) [.int (iI v2), .int (iI a2)] [] C (c_X7_settle _ _ ad cI cZ _ _ _ _ hc) mf_X7_settle wt_622 wt_476 wt_477 rfl rfl rfl ⟨rfl, rfl, by decide, by decide⟩ rfl (Nat.le_of_ble_eq_true rfl) dX0_settleEach_31 ?_
      refine j_iinc 2 [(2, .int (iI (v2 + 1))), (0, .ref (ad 6)), (1, .int (iI v1))] C dX0_settleEach_34 (by decide) rfl rfl ?_
      refine j_goto 2 C dX0_settleEach_37 (by decide) ?_
      exact j_sub [1, 2, 0] rfl (hk2 _ _ _ hf)
theorem tX0_settleEach_L2 {ad : Nat → Nat} {cI cZ : ClassId} {Γ : Cx} {σ' : St} (C : CX cI cZ rm_X0_settleEach 3 Γ cX0_settleEach RX0) (hq : RetV (wC ad cI cZ) Γ cX0_settleEach σ') (n : Nat) : ∀ (v1 v2 : Int), ∀ (σ : St), fX0_settleEach_L2 n v1 v2 σ = some σ' → JJ (wC ad cI cZ) Γ σ 2 [(0, .ref (ad 6)), (1, .int (iI v1)), (2, .int (iI v2))] [] := by
  induction n with
  | zero => intro _ _ _ hf; cases hf
  | succ n ih => intro v1 v2 σ hf; exact tX0_settleEach_B2 C hq ih v1 v2 σ hf
set_option maxRecDepth 20000 in
theorem tX0_settleEach_L0 {ad : Nat → Nat} {cI cZ : ClassId} {Γ : Cx} {σ' : St} (C : CX cI cZ rm_X0_settleEach 3 Γ cX0_settleEach RX0) (hq : RetV (wC ad cI cZ) Γ cX0_settleEach σ') (v1 : Int) (σ : St) (hf : fX0_settleEach_L0 v1 σ = some σ') : JJ (wC ad cI cZ) Γ σ 0 [(0, .ref (ad 6)), (1, .int (iI v1))] [] := by
  unfold fX0_settleEach_L0 at hf
  refine j_iconst C dX0_settleEach_0 ?_
  refine j_istore_n [(2, .int (iI 0)), (0, .ref (ad 6)), (1, .int (iI v1))] C dX0_settleEach_1 (by decide) rfl ?_
  exact j_sub [1, 2, 0] rfl (tX0_settleEach_L2 C hq 1000 _ _ _ hf)
theorem c_X0_settleEach (l : Launch) (D : va_G) (ad : Nat → Nat) (cI cZ : ClassId) (σ : St) (v1 : Int) (σ' : St) (hf : fX0_settleEach σ v1 = some σ') : McV l yX0_settleEach cX0_settleEach 3 rm_X0_settleEach D (tyL cI cZ) (wC ad cI cZ) [.ref (ad 6), .int (iI v1)] σ σ' := McV.mk mf_X0_settleEach.2.2.2.2.2 (Nat.le_of_ble_eq_true rfl) (fun Γ C hq => j_sub [0, 1] rfl (tX0_settleEach_L0 C hq v1 σ hf))
/-! TermLodgings$Dealing.serve(II)V -/
def rm_X0_serve : Room := { frames := 4, cells := 0, slots := 0, locals := 91 }
set_option maxRecDepth 20000 in
theorem tX0_serve_L13 {ad : Nat → Nat} {cI cZ : ClassId} {Γ : Cx} {σ' : St} (C : CX cI cZ rm_X0_serve 4 Γ cX0_serve RX0) (hq : RetV (wC ad cI cZ) Γ cX0_serve σ') (v1 : Int) (v2 : Int) (t0 : Int) (σ : St) (hf : fX0_serve_L13 v1 v2 t0 σ = some σ') : JJ (wC ad cI cZ) Γ σ 13 [(0, .ref (ad 6)), (1, .int (iI v1)), (2, .int (iI v2))] [.int (iI t0)] := by
  unfold fX0_serve_L13 at hf
  refine j_istore_n [(3, .int (iI t0)), (0, .ref (ad 6)), (1, .int (iI v1)), (2, .int (iI v2))] C dX0_serve_13 (by decide) rfl ?_
  refine j_iload_n 0 C dX0_serve_14 rfl ?_
  refine j_if_ne 27 C rfl dX0_serve_15 (by decide) (fun h => ?_) (fun h => ?_)
  · have hf := ifn h hf
    refine j_aload_n 1 C dX0_serve_27 rfl ?_
    refine j_iload_n 3 C dX0_serve_28 rfl ?_
    obtain ⟨s1, hc, hf⟩ := bv_s hf
    refine j_cVv (q0 := 6) (ci := 0) (T := TX0) (N := 4) [.int (iI v2)] [] C (c_X0_settleEach _ _ ad cI cZ _ _ _ hc) mf_X0_settleEach wt_623 wt_625 ws_11 rfl rfl rfl ⟨rfl, rfl, by decide, by decide⟩ rfl (Nat.le_of_ble_eq_true rfl) dX0_serve_29 ?_
    exact retV hq hf dX0_serve_32
  · have hf := ifp h hf
    refine j_aload_n 1 C dX0_serve_18 rfl ?_
    refine j_iload_n 2 C dX0_serve_19 rfl ?_
    refine j_iload_n 3 C dX0_serve_20 rfl ?_
    obtain ⟨a2, s2, hc, hf⟩ := bd_s hf
    refine j_cVi (q0 := 6) (ci := 0) (T := TX0) (N := 4) [.int (iI v1), .int (iI v2)] [] C (c_X0_settleTogether _ _ ad cI cZ _ _ _ _ _ hc) mf_X0_settleTogether wt_592 wt_594 ws_8 rfl rfl rfl ⟨rfl, rfl, by decide, by decide⟩ rfl (Nat.le_of_ble_eq_true rfl) dX0_serve_21 ?_
    refine j_if_ne 32 C rfl dX0_serve_24 (by decide) (fun h => ?_) (fun h => ?_)
    · have hf := ifn h hf
      exact retV hq hf dX0_serve_32
    · have hf := ifp h hf
      refine j_aload_n 1 C dX0_serve_27 rfl ?_
      refine j_iload_n 3 C dX0_serve_28 rfl ?_
      obtain ⟨s3, hc, hf⟩ := bv_s hf
      refine j_cVv (q0 := 6) (ci := 0) (T := TX0) (N := 4) [.int (iI v2)] [] C (c_X0_settleEach _ _ ad cI cZ _ _ _ hc) mf_X0_settleEach wt_623 wt_625 ws_11 rfl rfl rfl ⟨rfl, rfl, by decide, by decide⟩ rfl (Nat.le_of_ble_eq_true rfl) dX0_serve_29 ?_
      exact retV hq hf dX0_serve_32
set_option maxRecDepth 20000 in
theorem tX0_serve_L0 {ad : Nat → Nat} {cI cZ : ClassId} {Γ : Cx} {σ' : St} (C : CX cI cZ rm_X0_serve 4 Γ cX0_serve RX0) (hq : RetV (wC ad cI cZ) Γ cX0_serve σ') (v1 : Int) (v2 : Int) (σ : St) (hf : fX0_serve_L0 v1 v2 σ = some σ') : JJ (wC ad cI cZ) Γ σ 0 [(0, .ref (ad 6)), (1, .int (iI v1)), (2, .int (iI v2))] [] := by
  unfold fX0_serve_L0 at hf
  refine j_iload_n 2 C dX0_serve_0 rfl ?_
  obtain ⟨a4, s4, hc, hf⟩ := bd_s hf
  refine j_cSi [.int (iI v2)] [] C (c_J6_bitCount_0f7a4 _ _ ad cI cZ _ _ _ _ hc) mf_J6_bitCount_0f7a4 wt_586 wt_587 rfl ⟨rfl, rfl, by decide, by decide⟩ rfl (Nat.le_of_ble_eq_true rfl) dX0_serve_1 ?_
  refine j_iconst C dX0_serve_4 ?_
  refine j_icmp_ne 12 C rfl wl_1 dX0_serve_5 (by decide) (fun h => ?_) (fun h => ?_)
  · have hf := ifn h hf
    refine j_iconst C dX0_serve_12 ?_
    exact j_sub [0, 1, 2] rfl (tX0_serve_L13 C hq _ _ _ _ hf)
  · have hf := ifp h hf
    refine j_iconst C dX0_serve_8 ?_
    refine j_goto 13 C dX0_serve_9 (by decide) ?_
    exact j_sub [0, 1, 2] rfl (tX0_serve_L13 C hq _ _ _ _ hf)
theorem c_X0_serve (l : Launch) (D : va_G) (ad : Nat → Nat) (cI cZ : ClassId) (σ : St) (v1 : Int) (v2 : Int) (σ' : St) (hf : fX0_serve σ v1 v2 = some σ') : McV l yX0_serve cX0_serve 4 rm_X0_serve D (tyL cI cZ) (wC ad cI cZ) [.ref (ad 6), .int (iI v1), .int (iI v2)] σ σ' := McV.mk mf_X0_serve.2.2.2.2.2 (Nat.le_of_ble_eq_true rfl) (fun Γ C hq => j_sub [0, 1, 2] rfl (tX0_serve_L0 C hq v1 v2 σ hf))
/-! TermLodgings$Dealing.run(LTermLodgings$Turns;)V -/
def rm_X0_run : Room := { frames := 5, cells := 0, slots := 0, locals := 114 }
set_option maxRecDepth 20000 in
theorem tX0_run_B38 {ad : Nat → Nat} {cI cZ : ClassId} {Γ : Cx} {σ' : St} (C : CX cI cZ rm_X0_run 6 Γ cX0_run RX0) (hq : RetV (wC ad cI cZ) Γ cX0_run σ') {k38 : Int → Int → St → Option St} (hk38 : ∀ (v2 : Int) (v3 : Int) (σ : St), k38 v2 v3 σ = some σ' → JJ (wC ad cI cZ) Γ σ 38 [(0, .ref (ad 6)), (1, .ref (ad 5)), (2, .int (iI v2)), (3, .int (iI v3))] []) (v2 : Int) (v3 : Int) (σ : St) (hf : fX0_run_B38 k38 v2 v3 σ = some σ') : JJ (wC ad cI cZ) Γ σ 38 [(0, .ref (ad 6)), (1, .ref (ad 5)), (2, .int (iI v2)), (3, .int (iI v3))] [] := by
  unfold fX0_run_B38 at hf
  refine j_iload_n 3 C dX0_run_38 rfl ?_
  refine j_aload_n 1 C dX0_run_39 rfl ?_
  refine gC_5_0 C wt_184 dX0_run_40 ?_
  refine j_icmp_ge 92 C rfl rfl dX0_run_43 (by decide) (fun h => ?_) (fun h => ?_)
  · have hf := ifp h hf
    exact retV hq hf dX0_run_92
  · have hf := ifn h hf
    refine j_aload_n 1 C dX0_run_46 rfl ?_
    refine j_iload_n 3 C dX0_run_47 rfl ?_
    obtain ⟨a1, s1, hc, hf⟩ := bd_s hf
    refine j_cVi (q0 := 5) (ci := 9) (T := TX9) (N := 2) [.int (iI v3)] [] C (c_X9_at _ _ ad cI cZ _ _ _ _ hc) mf_X9_at wt_576 wt_549 wt_550 rfl rfl rfl ⟨rfl, rfl, by decide, by decide⟩ rfl (Nat.le_of_ble_eq_true rfl) dX0_run_48 ?_
    refine j_istore [(4, .int (iI a1)), (0, .ref (ad 6)), (1, .ref (ad 5)), (2, .int (iI v2)), (3, .int (iI v3))] C dX0_run_51 (by decide) rfl ?_
    refine j_iload_n 3 C dX0_run_53 rfl ?_
    refine j_iload 0 C dX0_run_54 rfl ?_
    obtain ⟨a2, s2, hc, hf⟩ := bd_s hf
    refine j_cSNi (host := "TermLodgings") [.int (iI v2), .int (iI a1)] [] C (c_X10_inBits _ _ ad cI cZ _ _ _ _ _ hc) mf_X10_inBits (List.mem_of_getElem? (i := 8) rfl) wt_451 rfl ⟨rfl, rfl, by decide, by decide⟩ rfl (Nat.le_of_ble_eq_true rfl) dX0_run_56 ?_
    refine j_if_ne 86 C rfl dX0_run_59 (by decide) (fun h => ?_) (fun h => ?_)
    · have hf := ifn h hf
      refine j_iinc 4 [(3, .int (iI (v3 + 1))), (4, .int (iI a1)), (0, .ref (ad 6)), (1, .ref (ad 5)), (2, .int (iI v2))] C dX0_run_86 (by decide) rfl rfl ?_
      refine j_goto 38 C dX0_run_89 (by decide) ?_
      exact j_sub [2, 3, 4, 0] rfl (hk38 _ _ _ hf)
    · have hf := ifp h hf
      refine j_aload_n 1 C dX0_run_62 rfl ?_
      refine gC_6_1 C wt_199 dX0_run_63 ?_
      refine j_iload 0 C dX0_run_66 rfl ?_
      obtain ⟨a3, s3, hc, hf⟩ := bd_s hf
      refine j_cVi (q0 := 3) (ci := 3) (T := TX3) (N := 8) [.int (iI a1)] [] C (c_X3_friendsOf _ _ ad cI cZ _ _ _ _ hc) mf_X3_friendsOf wt_578 wt_579 wt_580 rfl rfl rfl ⟨rfl, rfl, by decide, by decide⟩ rfl (Nat.le_of_ble_eq_true rfl) dX0_run_68 ?_
      refine j_istore [(5, .int (iI a3)), (4, .int (iI a1)), (0, .ref (ad 6)), (1, .ref (ad 5)), (2, .int (iI v2)), (3, .int (iI v3))] C dX0_run_71 (by decide) rfl ?_
      refine j_aload_n 2 C dX0_run_73 rfl ?_
      refine j_iload 1 C dX0_run_74 rfl ?_
      refine j_iload 0 C dX0_run_76 rfl ?_
      obtain ⟨s4, hc, hf⟩ := bv_s hf
      refine j_cVv (q0 := 6) (ci := 0) (T := TX0) (N := 4) [.int (iI a1), .int (iI a3)] [] C (c_X0_serve _ _ ad cI cZ _ _ _ _ hc) mf_X0_serve wt_582 wt_584 ws_7 rfl rfl rfl ⟨rfl, rfl, by decide, by decide⟩ rfl (Nat.le_of_ble_eq_true rfl) dX0_run_78 ?_
      refine j_iload_n 4 C dX0_run_81 rfl ?_
      refine j_iload 0 C dX0_run_82 rfl ?_
      refine j_ior C dX0_run_84 ?_
      refine j_istore_n [(2, .int (iI (bOr v2 a3))), (5, .int (iI a3)), (4, .int (iI a1)), (0, .ref (ad 6)), (1, .ref (ad 5)), (3, .int (iI v3))] C dX0_run_85 (by decide) rfl ?_
      refine j_iinc 5 [(3, .int (iI (v3 + 1))), (2, .int (iI (bOr v2 a3))), (5, .int (iI a3)), (4, .int (iI a1)), (0, .ref (ad 6)), (1, .ref (ad 5))] C dX0_run_86 (by decide) rfl rfl ?_
      refine j_goto 38 C dX0_run_89 (by decide) ?_
      exact j_sub [4, 5, 1, 0] rfl (hk38 _ _ _ hf)
theorem tX0_run_L38 {ad : Nat → Nat} {cI cZ : ClassId} {Γ : Cx} {σ' : St} (C : CX cI cZ rm_X0_run 6 Γ cX0_run RX0) (hq : RetV (wC ad cI cZ) Γ cX0_run σ') (n : Nat) : ∀ (v2 v3 : Int), ∀ (σ : St), fX0_run_L38 n v2 v3 σ = some σ' → JJ (wC ad cI cZ) Γ σ 38 [(0, .ref (ad 6)), (1, .ref (ad 5)), (2, .int (iI v2)), (3, .int (iI v3))] [] := by
  induction n with
  | zero => intro _ _ _ hf; cases hf
  | succ n ih => intro v2 v3 σ hf; exact tX0_run_B38 C hq ih v2 v3 σ hf
set_option maxRecDepth 20000 in
theorem tX0_run_B9 {ad : Nat → Nat} {cI cZ : ClassId} {Γ : Cx} {σ' : St} (C : CX cI cZ rm_X0_run 6 Γ cX0_run RX0) (hq : RetV (wC ad cI cZ) Γ cX0_run σ') {k9 : Int → St → Option St} (hk9 : ∀ (v2 : Int) (σ : St), k9 v2 σ = some σ' → JJ (wC ad cI cZ) Γ σ 9 [(0, .ref (ad 6)), (1, .ref (ad 5)), (2, .int (iI v2))] []) (v2 : Int) (σ : St) (hf : fX0_run_B9 k9 v2 σ = some σ') : JJ (wC ad cI cZ) Γ σ 9 [(0, .ref (ad 6)), (1, .ref (ad 5)), (2, .int (iI v2))] [] := by
  unfold fX0_run_B9 at hf
  refine j_iload_n 2 C dX0_run_9 rfl ?_
  refine j_aload_n 0 C dX0_run_10 rfl ?_
  refine gC_6_1 C wt_199 dX0_run_11 ?_
  refine gC_3_0 C wt_79 dX0_run_14 ?_
  refine j_icmp_ge 34 C rfl rfl dX0_run_17 (by decide) (fun h => ?_) (fun h => ?_)
  · have hf := ifp h hf
    refine j_iconst C dX0_run_34 ?_
    refine j_istore_n [(2, .int (iI 0)), (0, .ref (ad 6)), (1, .ref (ad 5))] C dX0_run_35 (by decide) rfl ?_
    refine j_iconst C dX0_run_36 ?_
    refine j_istore_n [(3, .int (iI 0)), (2, .int (iI 0)), (0, .ref (ad 6)), (1, .ref (ad 5))] C dX0_run_37 (by decide) rfl ?_
    exact j_sub [2, 3, 1, 0] rfl (tX0_run_L38 C hq 1000 _ _ _ hf)
  · have hf := ifn h hf
    refine j_aload_n 0 C dX0_run_20 rfl ?_
    refine gC_6_0 C wt_198 dX0_run_21 ?_
    refine j_iload_n 2 C dX0_run_24 rfl ?_
    obtain ⟨s5, hc, hf⟩ := bv_s hf
    refine j_cVv (q0 := 1) (ci := 7) (T := TX7) (N := 4) [.int (iI v2)] [] C (c_X7_leave _ _ ad cI cZ _ _ _ hc) mf_X7_leave wt_575 wt_468 wt_469 rfl rfl rfl ⟨rfl, rfl, by decide, by decide⟩ rfl (Nat.le_of_ble_eq_true rfl) dX0_run_25 ?_
    refine j_iinc 2 [(2, .int (iI (v2 + 1))), (0, .ref (ad 6)), (1, .ref (ad 5))] C dX0_run_28 (by decide) rfl rfl ?_
    refine j_goto 9 C dX0_run_31 (by decide) ?_
    exact j_sub [1, 2, 0] rfl (hk9 _ _ hf)
theorem tX0_run_L9 {ad : Nat → Nat} {cI cZ : ClassId} {Γ : Cx} {σ' : St} (C : CX cI cZ rm_X0_run 6 Γ cX0_run RX0) (hq : RetV (wC ad cI cZ) Γ cX0_run σ') (n : Nat) : ∀ (v2 : Int), ∀ (σ : St), fX0_run_L9 n v2 σ = some σ' → JJ (wC ad cI cZ) Γ σ 9 [(0, .ref (ad 6)), (1, .ref (ad 5)), (2, .int (iI v2))] [] := by
  induction n with
  | zero => intro _ _ hf; cases hf
  | succ n ih => intro v2 σ hf; exact tX0_run_B9 C hq ih v2 σ hf
set_option maxRecDepth 20000 in
theorem tX0_run_L0 {ad : Nat → Nat} {cI cZ : ClassId} {Γ : Cx} {σ' : St} (C : CX cI cZ rm_X0_run 6 Γ cX0_run RX0) (hq : RetV (wC ad cI cZ) Γ cX0_run σ') (σ : St) (hf : fX0_run_L0 σ = some σ') : JJ (wC ad cI cZ) Γ σ 0 [(0, .ref (ad 6)), (1, .ref (ad 5))] [] := by
  unfold fX0_run_L0 at hf
  refine j_aload_n 0 C dX0_run_0 rfl ?_
  refine gC_6_0 C wt_198 dX0_run_1 ?_
  obtain ⟨s6, hc, hf⟩ := bv_s hf
  refine j_cVv (q0 := 1) (ci := 7) (T := TX7) (N := 4) [] [] C (c_X7_weighAll _ _ ad cI cZ _ _ hc) mf_X7_weighAll wt_570 wt_571 wt_572 rfl rfl rfl ⟨rfl, rfl, by decide, by decide⟩ rfl (Nat.le_of_ble_eq_true rfl) dX0_run_4 ?_
  refine j_iconst C dX0_run_7 ?_
  refine j_istore_n [(2, .int (iI 0)), (0, .ref (ad 6)), (1, .ref (ad 5))] C dX0_run_8 (by decide) rfl ?_
  exact j_sub [1, 2, 0] rfl (tX0_run_L9 C hq 1000 _ _ hf)
theorem c_X0_run (l : Launch) (D : va_G) (ad : Nat → Nat) (cI cZ : ClassId) (σ : St) (σ' : St) (hf : fX0_run σ = some σ') : McV l yX0_run cX0_run 6 rm_X0_run D (tyL cI cZ) (wC ad cI cZ) [.ref (ad 6), .ref (ad 5)] σ σ' := McV.mk mf_X0_run.2.2.2.2.2 (Nat.le_of_ble_eq_true rfl) (fun Γ C hq => j_sub [0, 1] rfl (tX0_run_L0 C hq  σ hf))
/-! TermLodgings$Moving.emptyHouse(I)V -/
def rm_X1_emptyHouse : Room := { frames := 3, cells := 0, slots := 0, locals := 64 }
set_option maxRecDepth 20000 in
theorem tX1_emptyHouse_B7 {ad : Nat → Nat} {cI cZ : ClassId} {Γ : Cx} {σ' : St} (C : CX cI cZ rm_X1_emptyHouse 3 Γ cX1_emptyHouse RX1) (hq : RetV (wC ad cI cZ) Γ cX1_emptyHouse σ') {k7 : Int → Int → St → Option St} (hk7 : ∀ (v1 : Int) (v2 : Int) (σ : St), k7 v1 v2 σ = some σ' → JJ (wC ad cI cZ) Γ σ 7 [(0, .ref (ad 8)), (1, .int (iI v1)), (2, .int (iI v2))] []) (v1 : Int) (v2 : Int) (σ : St) (hf : fX1_emptyHouse_B7 k7 v1 v2 σ = some σ') : JJ (wC ad cI cZ) Γ σ 7 [(0, .ref (ad 8)), (1, .int (iI v1)), (2, .int (iI v2))] [] := by
  unfold fX1_emptyHouse_B7 at hf
  refine j_iload_n 2 C dX1_emptyHouse_7 rfl ?_
  refine j_aload_n 0 C dX1_emptyHouse_8 rfl ?_
  refine gC_8_1 C wt_252 dX1_emptyHouse_9 ?_
  refine gC_3_0 C wt_83 dX1_emptyHouse_12 ?_
  refine j_icmp_ge 80 C rfl rfl dX1_emptyHouse_15 (by decide) (fun h => ?_) (fun h => ?_)
  · have hf := ifp h hf
    exact retV hq hf dX1_emptyHouse_80
  · have hf := ifn h hf
    refine j_aload_n 0 C dX1_emptyHouse_18 rfl ?_
    refine gC_8_3 C wt_254 dX1_emptyHouse_19 ?_
    refine j_bipush C dX1_emptyHouse_22 bp_16 ?_
    refine j_icmp_ge 74 C rfl wl_16 dX1_emptyHouse_24 (by decide) (fun h => ?_) (fun h => ?_)
    · have hf := ifp h hf
      refine j_iinc 2 [(2, .int (iI (v2 + 1))), (0, .ref (ad 8)), (1, .int (iI v1))] C dX1_emptyHouse_74 (by decide) rfl rfl ?_
      refine j_goto 7 C dX1_emptyHouse_77 (by decide) ?_
      exact j_sub [1, 2, 0] rfl (hk7 _ _ _ hf)
    · have hf := ifn h hf
      refine j_aload_n 0 C dX1_emptyHouse_27 rfl ?_
      refine gC_8_2 C wt_253 dX1_emptyHouse_28 ?_
      refine j_aload_n 0 C dX1_emptyHouse_31 rfl ?_
      refine gC_8_1 C wt_252 dX1_emptyHouse_32 ?_
      refine j_iload_n 2 C dX1_emptyHouse_35 rfl ?_
      obtain ⟨a1, s1, hc, hf⟩ := bd_s hf
      refine j_cVi (q0 := 3) (ci := 3) (T := TX3) (N := 8) [.int (iI v2)] [.ref (ad 2)] C (c_X3_lodgingOf _ _ ad cI cZ _ _ _ _ hc) mf_X3_lodgingOf wt_707 wt_472 wt_473 rfl rfl rfl ⟨rfl, rfl, by decide, by decide⟩ rfl (Nat.le_of_ble_eq_true rfl) dX1_emptyHouse_36 ?_
      obtain ⟨a2, s2, hc, hf⟩ := bd_s hf
      refine j_cVi (q0 := 2) (ci := 5) (T := TX5) (N := 7) [.int (iI a1)] [] C (c_X5_houseOf _ _ ad cI cZ _ _ _ _ hc) mf_X5_houseOf wt_708 wt_599 wt_600 rfl rfl rfl ⟨rfl, rfl, by decide, by decide⟩ rfl (Nat.le_of_ble_eq_true rfl) dX1_emptyHouse_39 ?_
      refine j_iload_n 1 C dX1_emptyHouse_42 rfl ?_
      refine j_icmp_ne 74 C rfl rfl dX1_emptyHouse_43 (by decide) (fun h => ?_) (fun h => ?_)
      · have hf := ifn h hf
        refine j_iinc 2 [(2, .int (iI (v2 + 1))), (0, .ref (ad 8)), (1, .int (iI v1))] C dX1_emptyHouse_74 (by decide) rfl rfl ?_
        refine j_goto 7 C dX1_emptyHouse_77 (by decide) ?_
        exact j_sub [1, 2, 0] rfl (hk7 _ _ _ hf)
      · have hf := ifp h hf
        refine j_aload_n 0 C dX1_emptyHouse_46 rfl ?_
        refine gC_8_4 C wt_255 dX1_emptyHouse_47 ?_
        refine j_aload_n 0 C dX1_emptyHouse_50 rfl ?_
        refine gC_8_3 C wt_254 dX1_emptyHouse_51 ?_
        refine j_iload_n 2 C dX1_emptyHouse_54 rfl ?_
        obtain ⟨hI, hf⟩ := gI_s hf
        refine tC_20 C hI dX1_emptyHouse_55 ?_
        refine j_aload_n 0 C dX1_emptyHouse_56 rfl ?_
        refine j_dup C rfl dX1_emptyHouse_57 ?_
        refine gC_8_3 C wt_254 dX1_emptyHouse_58 ?_
        refine j_iconst C dX1_emptyHouse_61 ?_
        refine j_iadd C dX1_emptyHouse_62 ?_
        refine pC_8_3 C wt_254 dX1_emptyHouse_63 ?_
        refine j_aload_n 0 C dX1_emptyHouse_66 rfl ?_
        refine gC_8_0 C wt_251 dX1_emptyHouse_67 ?_
        refine j_iload_n 2 C dX1_emptyHouse_70 rfl ?_
        obtain ⟨s3, hc, hf⟩ := bv_s hf
        refine j_cVv (q0 := 1) (ci := 7) (T := TX7) (N := 4) [.int (iI v2)] [] C (c_X7_leave _ _ ad cI cZ _ _ _ hc) mf_X7_leave wt_709 wt_468 wt_469 rfl rfl rfl ⟨rfl, rfl, by decide, by decide⟩ rfl (Nat.le_of_ble_eq_true rfl) dX1_emptyHouse_71 ?_
        refine j_iinc 2 [(2, .int (iI (v2 + 1))), (0, .ref (ad 8)), (1, .int (iI v1))] C dX1_emptyHouse_74 (by decide) rfl rfl ?_
        refine j_goto 7 C dX1_emptyHouse_77 (by decide) ?_
        exact j_sub [1, 2, 0] rfl (hk7 _ _ _ hf)
theorem tX1_emptyHouse_L7 {ad : Nat → Nat} {cI cZ : ClassId} {Γ : Cx} {σ' : St} (C : CX cI cZ rm_X1_emptyHouse 3 Γ cX1_emptyHouse RX1) (hq : RetV (wC ad cI cZ) Γ cX1_emptyHouse σ') (n : Nat) : ∀ (v1 v2 : Int), ∀ (σ : St), fX1_emptyHouse_L7 n v1 v2 σ = some σ' → JJ (wC ad cI cZ) Γ σ 7 [(0, .ref (ad 8)), (1, .int (iI v1)), (2, .int (iI v2))] [] := by
  induction n with
  | zero => intro _ _ _ hf; cases hf
  | succ n ih => intro v1 v2 σ hf; exact tX1_emptyHouse_B7 C hq ih v1 v2 σ hf
set_option maxRecDepth 20000 in
theorem tX1_emptyHouse_L0 {ad : Nat → Nat} {cI cZ : ClassId} {Γ : Cx} {σ' : St} (C : CX cI cZ rm_X1_emptyHouse 3 Γ cX1_emptyHouse RX1) (hq : RetV (wC ad cI cZ) Γ cX1_emptyHouse σ') (v1 : Int) (σ : St) (hf : fX1_emptyHouse_L0 v1 σ = some σ') : JJ (wC ad cI cZ) Γ σ 0 [(0, .ref (ad 8)), (1, .int (iI v1))] [] := by
  unfold fX1_emptyHouse_L0 at hf
  refine j_aload_n 0 C dX1_emptyHouse_0 rfl ?_
  refine j_iconst C dX1_emptyHouse_1 ?_
  refine pC_8_3 C wt_254 dX1_emptyHouse_2 ?_
  refine j_iconst C dX1_emptyHouse_5 ?_
  refine j_istore_n [(2, .int (iI 0)), (0, .ref (ad 8)), (1, .int (iI v1))] C dX1_emptyHouse_6 (by decide) rfl ?_
  exact j_sub [1, 2, 0] rfl (tX1_emptyHouse_L7 C hq 1000 _ _ _ hf)
theorem c_X1_emptyHouse (l : Launch) (D : va_G) (ad : Nat → Nat) (cI cZ : ClassId) (σ : St) (v1 : Int) (σ' : St) (hf : fX1_emptyHouse σ v1 = some σ') : McV l yX1_emptyHouse cX1_emptyHouse 3 rm_X1_emptyHouse D (tyL cI cZ) (wC ad cI cZ) [.ref (ad 8), .int (iI v1)] σ σ' := McV.mk mf_X1_emptyHouse.2.2.2.2.2 (Nat.le_of_ble_eq_true rfl) (fun Γ C hq => j_sub [0, 1] rfl (tX1_emptyHouse_L0 C hq v1 σ hf))
/-! TermLodgings$Moving.choiceOf(I)I -/
def rm_X1_choiceOf : Room := { frames := 0, cells := 0, slots := 0, locals := 0 }
set_option maxRecDepth 20000 in
theorem tX1_choiceOf_L0 {ad : Nat → Nat} {cI cZ : ClassId} {Γ : Cx} {r : Int} {σ' : St} (C : CX cI cZ rm_X1_choiceOf 2 Γ cX1_choiceOf RX1) (hq : RetI .int (wC ad cI cZ) Γ cX1_choiceOf r σ') (v1 : Int) (σ : St) (hf : fX1_choiceOf_L0 v1 σ = some (r, σ')) : JJ (wC ad cI cZ) Γ σ 0 [(0, .ref (ad 8)), (1, .int (iI v1))] [] := by
  unfold fX1_choiceOf_L0 at hf
  refine j_iload_n 1 C dX1_choiceOf_0 rfl ?_
  refine j_if_lt 21 C rfl dX1_choiceOf_1 (by decide) (fun h => ?_) (fun h => ?_)
  · have hf := ifp h hf
    refine j_iconst C dX1_choiceOf_21 ?_
    exact retI hq hf dX1_choiceOf_22
  · have hf := ifn h hf
    refine j_iload_n 1 C dX1_choiceOf_4 rfl ?_
    refine j_aload_n 0 C dX1_choiceOf_5 rfl ?_
    refine gC_8_3 C wt_254 dX1_choiceOf_6 ?_
    refine j_icmp_ge 21 C rfl rfl dX1_choiceOf_9 (by decide) (fun h => ?_) (fun h => ?_)
    · have hf := ifp h hf
      refine j_iconst C dX1_choiceOf_21 ?_
      exact retI hq hf dX1_choiceOf_22
    · have hf := ifn h hf
      refine j_aload_n 0 C dX1_choiceOf_12 rfl ?_
      refine gC_8_5 C wt_256 dX1_choiceOf_13 ?_
      refine j_iload_n 1 C dX1_choiceOf_16 rfl ?_
      obtain ⟨hI, hf⟩ := gI_s hf
      refine lC_21 C hI dX1_choiceOf_17 ?_
      refine j_goto 22 C dX1_choiceOf_18 (by decide) ?_
      exact retI hq hf dX1_choiceOf_22
theorem c_X1_choiceOf (l : Launch) (D : va_G) (ad : Nat → Nat) (cI cZ : ClassId) (σ : St) (v1 : Int) (r : Int) (σ' : St) (hf : fX1_choiceOf σ v1 = some (r, σ')) : McI l yX1_choiceOf cX1_choiceOf 2 .int rm_X1_choiceOf D (tyL cI cZ) (wC ad cI cZ) [.ref (ad 8), .int (iI v1)] σ r σ' := McI.mk mf_X1_choiceOf.2.2.2.2.2 (Nat.le_of_ble_eq_true rfl) (fun Γ C hq => j_sub [0, 1] rfl (tX1_choiceOf_L0 C hq v1 σ hf))
/-! TermLodgings$Moving.findRoom(II)I -/
def rm_X1_findRoom : Room := { frames := 1, cells := 0, slots := 0, locals := 21 }
set_option maxRecDepth 20000 in
theorem tX1_findRoom_B45 {ad : Nat → Nat} {cI cZ : ClassId} {Γ : Cx} {r : Int} {σ' : St} (C : CX cI cZ rm_X1_findRoom 8 Γ cX1_findRoom RX1) (hq : RetI .int (wC ad cI cZ) Γ cX1_findRoom r σ') {k15 : Int → Int → Int → St → Option (Int × St)} {k45 : Int → Int → Int → Int → Int → St → Option (Int × St)} (hk15 : ∀ (v3 : Int) (v4 : Int) (v5 : Int) (σ : St), k15 v3 v4 v5 σ = some (r, σ') → JJ (wC ad cI cZ) Γ σ 15 [(0, .ref (ad 8)), (3, .int (iI v3)), (4, .int (iI v4)), (5, .int (iI v5))] []) (hk45 : ∀ (v3 : Int) (v4 : Int) (v5 : Int) (v6 : Int) (v7 : Int) (σ : St), k45 v3 v4 v5 v6 v7 σ = some (r, σ') → JJ (wC ad cI cZ) Γ σ 45 [(0, .ref (ad 8)), (3, .int (iI v3)), (4, .int (iI v4)), (5, .int (iI v5)), (6, .int (iI v6)), (7, .int (iI v7))] []) (v3 : Int) (v4 : Int) (v5 : Int) (v6 : Int) (v7 : Int) (σ : St) (hf : fX1_findRoom_B45 k15 k45 v3 v4 v5 v6 v7 σ = some (r, σ')) : JJ (wC ad cI cZ) Γ σ 45 [(0, .ref (ad 8)), (3, .int (iI v3)), (4, .int (iI v4)), (5, .int (iI v5)), (6, .int (iI v6)), (7, .int (iI v7))] [] := by
  unfold fX1_findRoom_B45 at hf
  refine j_iload 5 C dX1_findRoom_45 rfl ?_
  refine j_aload_n 0 C dX1_findRoom_47 rfl ?_
  refine gC_8_2 C wt_253 dX1_findRoom_48 ?_
  refine gC_2_0 C wt_39 dX1_findRoom_51 ?_
  refine j_icmp_ge 136 C rfl rfl dX1_findRoom_54 (by decide) (fun h => ?_) (fun h => ?_)
  · have hf := ifp h hf
    refine j_iinc 3 [(5, .int (iI (v5 + 1))), (0, .ref (ad 8)), (3, .int (iI v3)), (4, .int (iI v4)), (6, .int (iI v6)), (7, .int (iI v7))] C dX1_findRoom_136 (by decide) rfl rfl ?_
    refine j_goto 15 C dX1_findRoom_139 (by decide) ?_
    exact j_sub [1, 2, 3, 0] rfl (hk15 _ _ _ _ hf)
  · have hf := ifn h hf
    refine j_iload 4 C dX1_findRoom_57 rfl ?_
    refine j_iload_n 1 C dX1_findRoom_59 rfl ?_
    refine j_iconst C dX1_findRoom_60 ?_
    refine j_ixor C dX1_findRoom_61 ?_
    refine j_iand C dX1_findRoom_62 ?_
    refine j_iload 5 C dX1_findRoom_63 rfl ?_
    obtain ⟨a1, s1, hc, hf⟩ := bd_s hf
    refine j_cSNi (host := "TermLodgings") [.int (iI (bAnd v6 (bXor v3 (-1)))), .int (iI v7)] [] C (c_X10_inBits _ _ ad cI cZ _ _ _ _ _ hc) mf_X10_inBits (List.mem_of_getElem? (i := 11) rfl) wt_451 rfl ⟨rfl, rfl, by decide, by decide⟩ rfl (Nat.le_of_ble_eq_true rfl) dX1_findRoom_65 ?_
    refine j_if_eq 130 C rfl dX1_findRoom_68 (by decide) (fun h => ?_) (fun h => ?_)
    · have hf := ifp h hf
      refine j_iinc 5 [(7, .int (iI (v7 + 1))), (0, .ref (ad 8)), (3, .int (iI v3)), (4, .int (iI v4)), (5, .int (iI v5)), (6, .int (iI v6))] C dX1_findRoom_130 (by decide) rfl rfl ?_
      refine j_goto 45 C dX1_findRoom_133 (by decide) ?_
      exact j_sub [1, 2, 3, 4, 5, 0] rfl (hk45 _ _ _ _ _ _ hf)
    · have hf := ifn h hf
      refine j_iload_n 1 C dX1_findRoom_71 rfl ?_
      refine j_iconst C dX1_findRoom_72 ?_
      refine j_iload 5 C dX1_findRoom_73 rfl ?_
      refine j_ishl C dX1_findRoom_75 ?_
      refine j_ior C dX1_findRoom_76 ?_
      refine j_istore_n [(3, .int (iI (bOr v3 (bShl 1 v7)))), (0, .ref (ad 8)), (4, .int (iI v4)), (5, .int (iI v5)), (6, .int (iI v6)), (7, .int (iI v7))] C dX1_findRoom_77 (by decide) rfl ?_
      refine j_aload_n 1 C dX1_findRoom_78 rfl ?_
      refine gC_8_9 C wt_260 dX1_findRoom_79 ?_
      refine j_iload 5 C dX1_findRoom_82 rfl ?_
      refine j_aload_n 1 C dX1_findRoom_84 rfl ?_
      refine gC_8_8 C wt_259 dX1_findRoom_85 ?_
      refine j_iload 3 C dX1_findRoom_88 rfl ?_
      obtain ⟨hI, hf⟩ := gI_s hf
      refine lC_24 C hI dX1_findRoom_90 ?_
      obtain ⟨hI, hf⟩ := gI_s hf
      refine tC_25 C hI dX1_findRoom_91 ?_
      refine j_aload_n 1 C dX1_findRoom_92 rfl ?_
      refine gC_8_6 C wt_257 dX1_findRoom_93 ?_
      refine j_iload 5 C dX1_findRoom_96 rfl ?_
      obtain ⟨hI, hf⟩ := gI_s hf
      refine lC_22 C hI dX1_findRoom_98 ?_
      refine j_iconst C dX1_findRoom_99 ?_
      refine j_icmp_ne 106 C rfl wl_m1 dX1_findRoom_100 (by decide) (fun h => ?_) (fun h => ?_)
      · have hf := ifn h hf
        refine j_iload 2 C dX1_findRoom_106 rfl ?_
        refine j_bipush C dX1_findRoom_108 bp_16 ?_
        refine j_icmp_ge 130 C rfl wl_16 dX1_findRoom_110 (by decide) (fun h => ?_) (fun h => ?_)
        · have hf := ifp h hf
          refine j_iinc 5 [(7, .int (iI (v7 + 1))), (3, .int (iI (bOr v3 (bShl 1 v7)))), (0, .ref (ad 8)), (4, .int (iI v4)), (5, .int (iI v5)), (6, .int (iI v6))] C dX1_findRoom_130 (by decide) rfl rfl ?_
          refine j_goto 45 C dX1_findRoom_133 (by decide) ?_
          exact j_sub [2, 1, 3, 4, 5, 0] rfl (hk45 _ _ _ _ _ _ hf)
        · have hf := ifn h hf
          refine j_aload_n 1 C dX1_findRoom_113 rfl ?_
          refine gC_8_8 C wt_259 dX1_findRoom_114 ?_
          refine j_iload 2 C dX1_findRoom_117 rfl ?_
          refine j_aload_n 1 C dX1_findRoom_119 rfl ?_
          refine gC_8_6 C wt_257 dX1_findRoom_120 ?_
          refine j_iload 5 C dX1_findRoom_123 rfl ?_
          obtain ⟨hI, hf⟩ := gI_s hf
          refine lC_22 C hI dX1_findRoom_125 ?_
          obtain ⟨hI, hf⟩ := gI_s hf
          refine tC_24 C hI dX1_findRoom_126 ?_
          refine j_iinc 2 [(4, .int (iI (v4 + 1))), (3, .int (iI (bOr v3 (bShl 1 v7)))), (0, .ref (ad 8)), (5, .int (iI v5)), (6, .int (iI v6)), (7, .int (iI v7))] C dX1_findRoom_127 (by decide) rfl rfl ?_
          refine j_iinc 5 [(7, .int (iI (v7 + 1))), (4, .int (iI (v4 + 1))), (3, .int (iI (bOr v3 (bShl 1 v7)))), (0, .ref (ad 8)), (5, .int (iI v5)), (6, .int (iI v6))] C dX1_findRoom_130 (by decide) rfl rfl ?_
          refine j_goto 45 C dX1_findRoom_133 (by decide) ?_
          exact j_sub [3, 2, 1, 4, 5, 0] rfl (hk45 _ _ _ _ _ _ hf)
      · have hf := ifp h hf
        refine j_iload 5 C dX1_findRoom_103 rfl ?_
        exact retI hq hf dX1_findRoom_105
theorem tX1_findRoom_L45 {ad : Nat → Nat} {cI cZ : ClassId} {Γ : Cx} {r : Int} {σ' : St} (C : CX cI cZ rm_X1_findRoom 8 Γ cX1_findRoom RX1) (hq : RetI .int (wC ad cI cZ) Γ cX1_findRoom r σ') {k15 : Int → Int → Int → St → Option (Int × St)} (hk15 : ∀ (v3 : Int) (v4 : Int) (v5 : Int) (σ : St), k15 v3 v4 v5 σ = some (r, σ') → JJ (wC ad cI cZ) Γ σ 15 [(0, .ref (ad 8)), (3, .int (iI v3)), (4, .int (iI v4)), (5, .int (iI v5))] []) (n : Nat) : ∀ (v3 v4 v5 v6 v7 : Int), ∀ (σ : St), fX1_findRoom_L45 k15 n v3 v4 v5 v6 v7 σ = some (r, σ') → JJ (wC ad cI cZ) Γ σ 45 [(0, .ref (ad 8)), (3, .int (iI v3)), (4, .int (iI v4)), (5, .int (iI v5)), (6, .int (iI v6)), (7, .int (iI v7))] [] := by
  induction n with
  | zero => intro _ _ _ _ _ _ hf; cases hf
  | succ n ih => intro v3 v4 v5 v6 v7 σ hf; exact tX1_findRoom_B45 C hq hk15 ih v3 v4 v5 v6 v7 σ hf
set_option maxRecDepth 20000 in
theorem tX1_findRoom_B15 {ad : Nat → Nat} {cI cZ : ClassId} {Γ : Cx} {r : Int} {σ' : St} (C : CX cI cZ rm_X1_findRoom 8 Γ cX1_findRoom RX1) (hq : RetI .int (wC ad cI cZ) Γ cX1_findRoom r σ') {k15 : Int → Int → Int → St → Option (Int × St)} (hk15 : ∀ (v3 : Int) (v4 : Int) (v5 : Int) (σ : St), k15 v3 v4 v5 σ = some (r, σ') → JJ (wC ad cI cZ) Γ σ 15 [(0, .ref (ad 8)), (3, .int (iI v3)), (4, .int (iI v4)), (5, .int (iI v5))] []) (v3 : Int) (v4 : Int) (v5 : Int) (σ : St) (hf : fX1_findRoom_B15 k15 v3 v4 v5 σ = some (r, σ')) : JJ (wC ad cI cZ) Γ σ 15 [(0, .ref (ad 8)), (3, .int (iI v3)), (4, .int (iI v4)), (5, .int (iI v5))] [] := by
  unfold fX1_findRoom_B15 at hf
  refine j_iload 3 C dX1_findRoom_15 rfl ?_
  refine j_iload 2 C dX1_findRoom_17 rfl ?_
  refine j_icmp_ge 142 C rfl rfl dX1_findRoom_19 (by decide) (fun h => ?_) (fun h => ?_)
  · have hf := ifp h hf
    refine j_iconst C dX1_findRoom_142 ?_
    exact retI hq hf dX1_findRoom_143
  · have hf := ifn h hf
    refine j_iload 3 C dX1_findRoom_22 rfl ?_
    refine j_bipush C dX1_findRoom_24 bp_16 ?_
    refine j_icmp_ge 142 C rfl wl_16 dX1_findRoom_26 (by decide) (fun h => ?_) (fun h => ?_)
    · have hf := ifp h hf
      refine j_iconst C dX1_findRoom_142 ?_
      exact retI hq hf dX1_findRoom_143
    · have hf := ifn h hf
      refine j_aload_n 0 C dX1_findRoom_29 rfl ?_
      refine j_aload_n 0 C dX1_findRoom_30 rfl ?_
      refine gC_8_8 C wt_259 dX1_findRoom_31 ?_
      refine j_iload 3 C dX1_findRoom_34 rfl ?_
      obtain ⟨hI, hf⟩ := gI_s hf
      refine lC_24 C hI dX1_findRoom_36 ?_
      obtain ⟨a2, s2, hc, hf⟩ := bd_s hf
      refine j_cVi (q0 := 8) (ci := 1) (T := TX1) (N := 10) [.int (iI (σ.2 24 (ix v5)))] [] C (c_X1_choiceOf _ _ ad cI cZ _ _ _ _ hc) mf_X1_choiceOf wt_721 wt_723 ws_24 rfl rfl rfl ⟨rfl, rfl, by decide, by decide⟩ rfl (Nat.le_of_ble_eq_true rfl) dX1_findRoom_37 ?_
      refine j_istore [(6, .int (iI a2)), (0, .ref (ad 8)), (3, .int (iI v3)), (4, .int (iI v4)), (5, .int (iI v5))] C dX1_findRoom_40 (by decide) rfl ?_
      refine j_iconst C dX1_findRoom_42 ?_
      refine j_istore [(7, .int (iI 0)), (6, .int (iI a2)), (0, .ref (ad 8)), (3, .int (iI v3)), (4, .int (iI v4)), (5, .int (iI v5))] C dX1_findRoom_43 (by decide) rfl ?_
      exact j_sub [2, 3, 4, 5, 1, 0] rfl (tX1_findRoom_L45 C hq hk15 1000 _ _ _ _ _ _ hf)
theorem tX1_findRoom_L15 {ad : Nat → Nat} {cI cZ : ClassId} {Γ : Cx} {r : Int} {σ' : St} (C : CX cI cZ rm_X1_findRoom 8 Γ cX1_findRoom RX1) (hq : RetI .int (wC ad cI cZ) Γ cX1_findRoom r σ') (n : Nat) : ∀ (v3 v4 v5 : Int), ∀ (σ : St), fX1_findRoom_L15 n v3 v4 v5 σ = some (r, σ') → JJ (wC ad cI cZ) Γ σ 15 [(0, .ref (ad 8)), (3, .int (iI v3)), (4, .int (iI v4)), (5, .int (iI v5))] [] := by
  induction n with
  | zero => intro _ _ _ _ hf; cases hf
  | succ n ih => intro v3 v4 v5 σ hf; exact tX1_findRoom_B15 C hq ih v3 v4 v5 σ hf
set_option maxRecDepth 20000 in
theorem tX1_findRoom_L0 {ad : Nat → Nat} {cI cZ : ClassId} {Γ : Cx} {r : Int} {σ' : St} (C : CX cI cZ rm_X1_findRoom 8 Γ cX1_findRoom RX1) (hq : RetI .int (wC ad cI cZ) Γ cX1_findRoom r σ') (v1 : Int) (v2 : Int) (σ : St) (hf : fX1_findRoom_L0 v1 v2 σ = some (r, σ')) : JJ (wC ad cI cZ) Γ σ 0 [(0, .ref (ad 8)), (1, .int (iI v1)), (2, .int (iI v2))] [] := by
  unfold fX1_findRoom_L0 at hf
  refine j_iload_n 2 C dX1_findRoom_0 rfl ?_
  refine j_istore_n [(3, .int (iI v2)), (0, .ref (ad 8)), (1, .int (iI v1)), (2, .int (iI v2))] C dX1_findRoom_1 (by decide) rfl ?_
  refine j_iconst C dX1_findRoom_2 ?_
  refine j_istore [(4, .int (iI 1)), (3, .int (iI v2)), (0, .ref (ad 8)), (1, .int (iI v1)), (2, .int (iI v2))] C dX1_findRoom_3 (by decide) rfl ?_
  refine j_aload_n 2 C dX1_findRoom_5 rfl ?_
  refine gC_8_8 C wt_259 dX1_findRoom_6 ?_
  refine j_iconst C dX1_findRoom_9 ?_
  refine j_iload_n 3 C dX1_findRoom_10 rfl ?_
  obtain ⟨hI, hf⟩ := gI_s hf
  refine tC_24 C hI dX1_findRoom_11 ?_
  refine j_iconst C dX1_findRoom_12 ?_
  refine j_istore [(5, .int (iI 0)), (4, .int (iI 1)), (3, .int (iI v2)), (0, .ref (ad 8)), (1, .int (iI v1)), (2, .int (iI v2))] C dX1_findRoom_13 (by decide) rfl ?_
  exact j_sub [3, 2, 1, 0] rfl (tX1_findRoom_L15 C hq 1000 _ _ _ _ hf)
theorem c_X1_findRoom (l : Launch) (D : va_G) (ad : Nat → Nat) (cI cZ : ClassId) (σ : St) (v1 : Int) (v2 : Int) (r : Int) (σ' : St) (hf : fX1_findRoom σ v1 v2 = some (r, σ')) : McI l yX1_findRoom cX1_findRoom 8 .int rm_X1_findRoom D (tyL cI cZ) (wC ad cI cZ) [.ref (ad 8), .int (iI v1), .int (iI v2)] σ r σ' := McI.mk mf_X1_findRoom.2.2.2.2.2 (Nat.le_of_ble_eq_true rfl) (fun Γ C hq => j_sub [0, 1, 2] rfl (tX1_findRoom_L0 C hq v1 v2 σ hf))
/-! TermLodgings$Moving.changeAlong(I)V -/
def rm_X1_changeAlong : Room := { frames := 1, cells := 0, slots := 0, locals := 21 }
set_option maxRecDepth 20000 in
theorem tX1_changeAlong_B4 {ad : Nat → Nat} {cI cZ : ClassId} {Γ : Cx} {σ' : St} (C : CX cI cZ rm_X1_changeAlong 6 Γ cX1_changeAlong RX1) (hq : RetV (wC ad cI cZ) Γ cX1_changeAlong σ') {k4 : Int → Int → St → Option St} (hk4 : ∀ (v2 : Int) (v3 : Int) (σ : St), k4 v2 v3 σ = some σ' → JJ (wC ad cI cZ) Γ σ 4 [(0, .ref (ad 8)), (2, .int (iI v2)), (3, .int (iI v3))] []) (v2 : Int) (v3 : Int) (σ : St) (hf : fX1_changeAlong_B4 k4 v2 v3 σ = some σ') : JJ (wC ad cI cZ) Γ σ 4 [(0, .ref (ad 8)), (2, .int (iI v2)), (3, .int (iI v3))] [] := by
  unfold fX1_changeAlong_B4 at hf
  refine j_iload_n 2 C dX1_changeAlong_4 rfl ?_
  refine j_bipush C dX1_changeAlong_5 bp_16 ?_
  refine j_icmp_ge 78 C rfl wl_16 dX1_changeAlong_7 (by decide) (fun h => ?_) (fun h => ?_)
  · have hf := ifp h hf
    exact retV hq hf dX1_changeAlong_78
  · have hf := ifn h hf
    refine j_aload_n 0 C dX1_changeAlong_10 rfl ?_
    refine gC_8_2 C wt_253 dX1_changeAlong_11 ?_
    refine j_iload_n 1 C dX1_changeAlong_14 rfl ?_
    obtain ⟨a1, s1, hc, hf⟩ := bd_s hf
    refine j_cVi (q0 := 2) (ci := 5) (T := TX5) (N := 7) [.int (iI v2)] [] C (c_X5_has _ _ ad cI cZ _ _ _ _ hc) mf_X5_has wt_730 wt_390 wt_391 rfl rfl rfl ⟨rfl, rfl, by decide, by decide⟩ rfl (Nat.le_of_ble_eq_true rfl) dX1_changeAlong_15 ?_
    refine j_if_eq 78 C rfl dX1_changeAlong_18 (by decide) (fun h => ?_) (fun h => ?_)
    · have hf := ifp h hf
      exact retV hq hf dX1_changeAlong_78
    · have hf := ifn h hf
      refine j_aload_n 0 C dX1_changeAlong_21 rfl ?_
      refine gC_8_9 C wt_260 dX1_changeAlong_22 ?_
      refine j_iload_n 1 C dX1_changeAlong_25 rfl ?_
      obtain ⟨hI, hf⟩ := gI_s hf
      refine lC_25 C hI dX1_changeAlong_26 ?_
      refine j_istore [(4, .int (iI (s1.2 25 (ix v2)))), (0, .ref (ad 8)), (2, .int (iI v2)), (3, .int (iI v3))] C dX1_changeAlong_27 (by decide) rfl ?_
      refine j_iload 0 C dX1_changeAlong_29 rfl ?_
      refine j_if_lt 43 C rfl dX1_changeAlong_31 (by decide) (fun h => ?_) (fun h => ?_)
      · have hf := ifp h hf
        exact retV hq hf dX1_changeAlong_43
      · have hf := ifn h hf
        refine j_iload 0 C dX1_changeAlong_34 rfl ?_
        refine j_aload_n 1 C dX1_changeAlong_36 rfl ?_
        refine gC_8_3 C wt_254 dX1_changeAlong_37 ?_
        refine j_icmp_lt 44 C rfl rfl dX1_changeAlong_40 (by decide) (fun h => ?_) (fun h => ?_)
        · have hf := ifp h hf
          refine j_aload_n 1 C dX1_changeAlong_44 rfl ?_
          refine gC_8_7 C wt_258 dX1_changeAlong_45 ?_
          refine j_iload 0 C dX1_changeAlong_48 rfl ?_
          obtain ⟨hI, hf⟩ := gI_s hf
          refine lC_23 C hI dX1_changeAlong_50 ?_
          refine j_istore [(5, .int (iI (s1.2 23 (ix (s1.2 25 (ix v2)))))), (4, .int (iI (s1.2 25 (ix v2)))), (0, .ref (ad 8)), (2, .int (iI v2)), (3, .int (iI v3))] C dX1_changeAlong_51 (by decide) rfl ?_
          refine j_aload_n 2 C dX1_changeAlong_53 rfl ?_
          refine gC_8_6 C wt_257 dX1_changeAlong_54 ?_
          refine j_iload_n 3 C dX1_changeAlong_57 rfl ?_
          refine j_iload 1 C dX1_changeAlong_58 rfl ?_
          obtain ⟨hI, hf⟩ := gI_s hf
          refine tC_22 C hI dX1_changeAlong_60 ?_
          refine j_aload_n 2 C dX1_changeAlong_61 rfl ?_
          refine gC_8_7 C wt_258 dX1_changeAlong_62 ?_
          refine j_iload 1 C dX1_changeAlong_65 rfl ?_
          refine j_iload_n 3 C dX1_changeAlong_67 rfl ?_
          obtain ⟨hI, hf⟩ := gI_s hf
          refine tC_23 C hI dX1_changeAlong_68 ?_
          refine j_iload 0 C dX1_changeAlong_69 rfl ?_
          refine j_istore_n [(2, .int (iI (s1.2 23 (ix (s1.2 25 (ix v2)))))), (5, .int (iI (s1.2 23 (ix (s1.2 25 (ix v2)))))), (4, .int (iI (s1.2 25 (ix v2)))), (0, .ref (ad 8)), (3, .int (iI v3))] C dX1_changeAlong_71 (by decide) rfl ?_
          refine j_iinc 4 [(3, .int (iI (v3 + 1))), (2, .int (iI (s1.2 23 (ix (s1.2 25 (ix v2)))))), (5, .int (iI (s1.2 23 (ix (s1.2 25 (ix v2)))))), (4, .int (iI (s1.2 25 (ix v2)))), (0, .ref (ad 8))] C dX1_changeAlong_72 (by decide) rfl rfl ?_
          refine j_goto 4 C dX1_changeAlong_75 (by decide) ?_
          exact j_sub [4, 1, 0] rfl (hk4 _ _ _ hf)
        · have hf := ifn h hf
          exact retV hq hf dX1_changeAlong_43
theorem tX1_changeAlong_L4 {ad : Nat → Nat} {cI cZ : ClassId} {Γ : Cx} {σ' : St} (C : CX cI cZ rm_X1_changeAlong 6 Γ cX1_changeAlong RX1) (hq : RetV (wC ad cI cZ) Γ cX1_changeAlong σ') (n : Nat) : ∀ (v2 v3 : Int), ∀ (σ : St), fX1_changeAlong_L4 n v2 v3 σ = some σ' → JJ (wC ad cI cZ) Γ σ 4 [(0, .ref (ad 8)), (2, .int (iI v2)), (3, .int (iI v3))] [] := by
  induction n with
  | zero => intro _ _ _ hf; cases hf
  | succ n ih => intro v2 v3 σ hf; exact tX1_changeAlong_B4 C hq ih v2 v3 σ hf
set_option maxRecDepth 20000 in
theorem tX1_changeAlong_L0 {ad : Nat → Nat} {cI cZ : ClassId} {Γ : Cx} {σ' : St} (C : CX cI cZ rm_X1_changeAlong 6 Γ cX1_changeAlong RX1) (hq : RetV (wC ad cI cZ) Γ cX1_changeAlong σ') (v1 : Int) (σ : St) (hf : fX1_changeAlong_L0 v1 σ = some σ') : JJ (wC ad cI cZ) Γ σ 0 [(0, .ref (ad 8)), (1, .int (iI v1))] [] := by
  unfold fX1_changeAlong_L0 at hf
  refine j_iload_n 1 C dX1_changeAlong_0 rfl ?_
  refine j_istore_n [(2, .int (iI v1)), (0, .ref (ad 8)), (1, .int (iI v1))] C dX1_changeAlong_1 (by decide) rfl ?_
  refine j_iconst C dX1_changeAlong_2 ?_
  refine j_istore_n [(3, .int (iI 0)), (2, .int (iI v1)), (0, .ref (ad 8)), (1, .int (iI v1))] C dX1_changeAlong_3 (by decide) rfl ?_
  exact j_sub [2, 1, 0] rfl (tX1_changeAlong_L4 C hq 1000 _ _ _ hf)
theorem c_X1_changeAlong (l : Launch) (D : va_G) (ad : Nat → Nat) (cI cZ : ClassId) (σ : St) (v1 : Int) (σ' : St) (hf : fX1_changeAlong σ v1 = some σ') : McV l yX1_changeAlong cX1_changeAlong 6 rm_X1_changeAlong D (tyL cI cZ) (wC ad cI cZ) [.ref (ad 8), .int (iI v1)] σ σ' := McV.mk mf_X1_changeAlong.2.2.2.2.2 (Nat.le_of_ble_eq_true rfl) (fun Γ C hq => j_sub [0, 1] rfl (tX1_changeAlong_L0 C hq v1 σ hf))
/-! TermLodgings$Moving.mostFrom(II)I -/
def rm_X1_mostFrom : Room := { frames := 2, cells := 0, slots := 0, locals := 48 }
set_option maxRecDepth 20000 in
theorem tX1_mostFrom_B21 {ad : Nat → Nat} {cI cZ : ClassId} {Γ : Cx} {r : Int} {σ' : St} (C : CX cI cZ rm_X1_mostFrom 6 Γ cX1_mostFrom RX1) (hq : RetI .int (wC ad cI cZ) Γ cX1_mostFrom r σ') {k21 : Int → Int → Int → St → Option (Int × St)} (hk21 : ∀ (v2 : Int) (v3 : Int) (v4 : Int) (σ : St), k21 v2 v3 v4 σ = some (r, σ') → JJ (wC ad cI cZ) Γ σ 21 [(0, .ref (ad 8)), (2, .int (iI v2)), (3, .int (iI v3)), (4, .int (iI v4))] []) (v2 : Int) (v3 : Int) (v4 : Int) (σ : St) (hf : fX1_mostFrom_B21 k21 v2 v3 v4 σ = some (r, σ')) : JJ (wC ad cI cZ) Γ σ 21 [(0, .ref (ad 8)), (2, .int (iI v2)), (3, .int (iI v3)), (4, .int (iI v4))] [] := by
  unfold fX1_mostFrom_B21 at hf
  refine j_iload 3 C dX1_mostFrom_21 rfl ?_
  refine j_aload_n 0 C dX1_mostFrom_23 rfl ?_
  refine gC_8_3 C wt_254 dX1_mostFrom_24 ?_
  refine j_icmp_ge 60 C rfl rfl dX1_mostFrom_27 (by decide) (fun h => ?_) (fun h => ?_)
  · have hf := ifp h hf
    refine j_iload_n 2 C dX1_mostFrom_60 rfl ?_
    exact retI hq hf dX1_mostFrom_61
  · have hf := ifn h hf
    refine j_aload_n 0 C dX1_mostFrom_30 rfl ?_
    refine j_iload 3 C dX1_mostFrom_31 rfl ?_
    refine j_iload_n 1 C dX1_mostFrom_33 rfl ?_
    obtain ⟨a1, s1, hc, hf⟩ := bd_s hf
    refine j_cVi (q0 := 8) (ci := 1) (T := TX1) (N := 10) [.int (iI v4), .int (iI v2)] [] C (c_X1_findRoom _ _ ad cI cZ _ _ _ _ _ hc) mf_X1_findRoom wt_717 wt_719 ws_23 rfl rfl rfl ⟨rfl, rfl, by decide, by decide⟩ rfl (Nat.le_of_ble_eq_true rfl) dX1_mostFrom_34 ?_
    refine j_istore [(5, .int (iI a1)), (0, .ref (ad 8)), (2, .int (iI v2)), (3, .int (iI v3)), (4, .int (iI v4))] C dX1_mostFrom_37 (by decide) rfl ?_
    refine j_iload 0 C dX1_mostFrom_39 rfl ?_
    refine j_iconst C dX1_mostFrom_41 ?_
    refine j_icmp_eq 54 C rfl wl_m1 dX1_mostFrom_42 (by decide) (fun h => ?_) (fun h => ?_)
    · have hf := ifp h hf
      refine j_iinc 4 [(4, .int (iI (v4 + 1))), (5, .int (iI a1)), (0, .ref (ad 8)), (2, .int (iI v2)), (3, .int (iI v3))] C dX1_mostFrom_54 (by decide) rfl rfl ?_
      refine j_goto 21 C dX1_mostFrom_57 (by decide) ?_
      exact j_sub [2, 3, 4, 0] rfl (hk21 _ _ _ _ hf)
    · have hf := ifn h hf
      refine j_aload_n 1 C dX1_mostFrom_45 rfl ?_
      refine j_iload 0 C dX1_mostFrom_46 rfl ?_
      obtain ⟨s2, hc, hf⟩ := bv_s hf
      refine j_cVv (q0 := 8) (ci := 1) (T := TX1) (N := 10) [.int (iI a1)] [] C (c_X1_changeAlong _ _ ad cI cZ _ _ _ hc) mf_X1_changeAlong wt_726 wt_728 ws_25 rfl rfl rfl ⟨rfl, rfl, by decide, by decide⟩ rfl (Nat.le_of_ble_eq_true rfl) dX1_mostFrom_48 ?_
      refine j_iinc 3 [(3, .int (iI (v3 + 1))), (5, .int (iI a1)), (0, .ref (ad 8)), (2, .int (iI v2)), (4, .int (iI v4))] C dX1_mostFrom_51 (by decide) rfl rfl ?_
      refine j_iinc 4 [(4, .int (iI (v4 + 1))), (3, .int (iI (v3 + 1))), (5, .int (iI a1)), (0, .ref (ad 8)), (2, .int (iI v2))] C dX1_mostFrom_54 (by decide) rfl rfl ?_
      refine j_goto 21 C dX1_mostFrom_57 (by decide) ?_
      exact j_sub [3, 4, 1, 0] rfl (hk21 _ _ _ _ hf)
theorem tX1_mostFrom_L21 {ad : Nat → Nat} {cI cZ : ClassId} {Γ : Cx} {r : Int} {σ' : St} (C : CX cI cZ rm_X1_mostFrom 6 Γ cX1_mostFrom RX1) (hq : RetI .int (wC ad cI cZ) Γ cX1_mostFrom r σ') (n : Nat) : ∀ (v2 v3 v4 : Int), ∀ (σ : St), fX1_mostFrom_L21 n v2 v3 v4 σ = some (r, σ') → JJ (wC ad cI cZ) Γ σ 21 [(0, .ref (ad 8)), (2, .int (iI v2)), (3, .int (iI v3)), (4, .int (iI v4))] [] := by
  induction n with
  | zero => intro _ _ _ _ hf; cases hf
  | succ n ih => intro v2 v3 v4 σ hf; exact tX1_mostFrom_B21 C hq ih v2 v3 v4 σ hf
set_option maxRecDepth 20000 in
theorem tX1_mostFrom_L0 {ad : Nat → Nat} {cI cZ : ClassId} {Γ : Cx} {r : Int} {σ' : St} (C : CX cI cZ rm_X1_mostFrom 6 Γ cX1_mostFrom RX1) (hq : RetI .int (wC ad cI cZ) Γ cX1_mostFrom r σ') (v1 : Int) (v2 : Int) (σ : St) (hf : fX1_mostFrom_L0 v1 v2 σ = some (r, σ')) : JJ (wC ad cI cZ) Γ σ 0 [(0, .ref (ad 8)), (1, .int (iI v1)), (2, .int (iI v2))] [] := by
  unfold fX1_mostFrom_L0 at hf
  refine j_aload_n 0 C dX1_mostFrom_0 rfl ?_
  refine gC_8_6 C wt_257 dX1_mostFrom_1 ?_
  refine j_iconst C dX1_mostFrom_4 ?_
  obtain ⟨s3, hc, hf⟩ := bv_s hf
  refine j_cSv [.ref (ad 33), .int (iI (-1))] [] C (c_J7_fill_53178_a33 _ _ ad cI cZ _ _ _ hc) mf_J7_fill_53178 wt_716 wt_289 rfl ⟨rfl, rfl, by decide, by decide⟩ rfl (Nat.le_of_ble_eq_true rfl) dX1_mostFrom_5 ?_
  refine j_aload_n 0 C dX1_mostFrom_8 rfl ?_
  refine gC_8_7 C wt_258 dX1_mostFrom_9 ?_
  refine j_iconst C dX1_mostFrom_12 ?_
  obtain ⟨s4, hc, hf⟩ := bv_s hf
  refine j_cSv [.ref (ad 34), .int (iI (-1))] [] C (c_J7_fill_53178_a34 _ _ ad cI cZ _ _ _ hc) mf_J7_fill_53178 wt_716 wt_289 rfl ⟨rfl, rfl, by decide, by decide⟩ rfl (Nat.le_of_ble_eq_true rfl) dX1_mostFrom_13 ?_
  refine j_iconst C dX1_mostFrom_16 ?_
  refine j_istore_n [(3, .int (iI 0)), (0, .ref (ad 8)), (1, .int (iI v1)), (2, .int (iI v2))] C dX1_mostFrom_17 (by decide) rfl ?_
  refine j_iload_n 2 C dX1_mostFrom_18 rfl ?_
  refine j_istore [(4, .int (iI v1)), (3, .int (iI 0)), (0, .ref (ad 8)), (1, .int (iI v1)), (2, .int (iI v2))] C dX1_mostFrom_19 (by decide) rfl ?_
  exact j_sub [2, 4, 1, 0] rfl (tX1_mostFrom_L21 C hq 1000 _ _ _ _ hf)
theorem c_X1_mostFrom (l : Launch) (D : va_G) (ad : Nat → Nat) (cI cZ : ClassId) (σ : St) (v1 : Int) (v2 : Int) (r : Int) (σ' : St) (hf : fX1_mostFrom σ v1 v2 = some (r, σ')) : McI l yX1_mostFrom cX1_mostFrom 6 .int rm_X1_mostFrom D (tyL cI cZ) (wC ad cI cZ) [.ref (ad 8), .int (iI v1), .int (iI v2)] σ r σ' := McI.mk mf_X1_mostFrom.2.2.2.2.2 (Nat.le_of_ble_eq_true rfl) (fun Γ C hq => j_sub [0, 1, 2] rfl (tX1_mostFrom_L0 C hq v1 v2 σ hf))
/-! TermLodgings$Moving.leastRoom(III)I -/
def rm_X1_leastRoom : Room := { frames := 3, cells := 0, slots := 0, locals := 73 }
set_option maxRecDepth 20000 in
theorem tX1_leastRoom_B3 {ad : Nat → Nat} {cI cZ : ClassId} {Γ : Cx} {r : Int} {σ' : St} (C : CX cI cZ rm_X1_leastRoom 6 Γ cX1_leastRoom RX1) (hq : RetI .int (wC ad cI cZ) Γ cX1_leastRoom r σ') {k3 : Int → Int → Int → Int → St → Option (Int × St)} (hk3 : ∀ (v1 : Int) (v2 : Int) (v3 : Int) (v4 : Int) (σ : St), k3 v1 v2 v3 v4 σ = some (r, σ') → JJ (wC ad cI cZ) Γ σ 3 [(0, .ref (ad 8)), (1, .int (iI v1)), (2, .int (iI v2)), (3, .int (iI v3)), (4, .int (iI v4))] []) (v1 : Int) (v2 : Int) (v3 : Int) (v4 : Int) (σ : St) (hf : fX1_leastRoom_B3 k3 v1 v2 v3 v4 σ = some (r, σ')) : JJ (wC ad cI cZ) Γ σ 3 [(0, .ref (ad 8)), (1, .int (iI v1)), (2, .int (iI v2)), (3, .int (iI v3)), (4, .int (iI v4))] [] := by
  unfold fX1_leastRoom_B3 at hf
  refine j_iload 4 C dX1_leastRoom_3 rfl ?_
  refine j_aload_n 0 C dX1_leastRoom_5 rfl ?_
  refine gC_8_2 C wt_253 dX1_leastRoom_6 ?_
  refine gC_2_0 C wt_39 dX1_leastRoom_9 ?_
  refine j_icmp_ge 65 C rfl rfl dX1_leastRoom_12 (by decide) (fun h => ?_) (fun h => ?_)
  · have hf := ifp h hf
    refine j_iconst C dX1_leastRoom_65 ?_
    exact retI hq hf dX1_leastRoom_66
  · have hf := ifn h hf
    refine j_aload_n 0 C dX1_leastRoom_15 rfl ?_
    refine gC_8_5 C wt_256 dX1_leastRoom_16 ?_
    refine j_iload_n 1 C dX1_leastRoom_19 rfl ?_
    obtain ⟨hI, hf⟩ := gI_s hf
    refine lC_21 C hI dX1_leastRoom_20 ?_
    refine j_iload_n 2 C dX1_leastRoom_21 rfl ?_
    refine j_iconst C dX1_leastRoom_22 ?_
    refine j_ixor C dX1_leastRoom_23 ?_
    refine j_iand C dX1_leastRoom_24 ?_
    refine j_iload 4 C dX1_leastRoom_25 rfl ?_
    obtain ⟨a1, s1, hc, hf⟩ := bd_s hf
    refine j_cSNi (host := "TermLodgings") [.int (iI (bAnd (σ.2 21 (ix v1)) (bXor v2 (-1)))), .int (iI v4)] [] C (c_X10_inBits _ _ ad cI cZ _ _ _ _ _ hc) mf_X10_inBits (List.mem_of_getElem? (i := 11) rfl) wt_451 rfl ⟨rfl, rfl, by decide, by decide⟩ rfl (Nat.le_of_ble_eq_true rfl) dX1_leastRoom_27 ?_
    refine j_istore [(5, .int (iI a1)), (0, .ref (ad 8)), (1, .int (iI v1)), (2, .int (iI v2)), (3, .int (iI v3)), (4, .int (iI v4))] C dX1_leastRoom_30 (by decide) rfl ?_
    refine j_iload 0 C dX1_leastRoom_32 rfl ?_
    refine j_if_eq 59 C rfl dX1_leastRoom_34 (by decide) (fun h => ?_) (fun h => ?_)
    · have hf := ifp h hf
      refine j_iinc 5 [(4, .int (iI (v4 + 1))), (5, .int (iI a1)), (0, .ref (ad 8)), (1, .int (iI v1)), (2, .int (iI v2)), (3, .int (iI v3))] C dX1_leastRoom_59 (by decide) rfl rfl ?_
      refine j_goto 3 C dX1_leastRoom_62 (by decide) ?_
      exact j_sub [2, 3, 4, 5, 0] rfl (hk3 _ _ _ _ _ hf)
    · have hf := ifn h hf
      refine j_iconst C dX1_leastRoom_37 ?_
      refine j_aload_n 1 C dX1_leastRoom_38 rfl ?_
      refine j_iload_n 2 C dX1_leastRoom_39 rfl ?_
      refine j_iconst C dX1_leastRoom_40 ?_
      refine j_iadd C dX1_leastRoom_41 ?_
      refine j_iload_n 3 C dX1_leastRoom_42 rfl ?_
      refine j_iconst C dX1_leastRoom_43 ?_
      refine j_iload 5 C dX1_leastRoom_44 rfl ?_
      refine j_ishl C dX1_leastRoom_46 ?_
      refine j_ior C dX1_leastRoom_47 ?_
      obtain ⟨a2, s2, hc, hf⟩ := bd_s hf
      refine j_cVi (q0 := 8) (ci := 1) (T := TX1) (N := 10) [.int (iI (v1 + 1)), .int (iI (bOr v2 (bShl 1 v4)))] [.int (iI 1)] C (c_X1_mostFrom _ _ ad cI cZ _ _ _ _ _ hc) mf_X1_mostFrom wt_712 wt_714 ws_22 rfl rfl rfl ⟨rfl, rfl, by decide, by decide⟩ rfl (Nat.le_of_ble_eq_true rfl) dX1_leastRoom_48 ?_
      refine j_iadd C dX1_leastRoom_51 ?_
      refine j_iload_n 4 C dX1_leastRoom_52 rfl ?_
      refine j_icmp_ne 59 C rfl rfl dX1_leastRoom_53 (by decide) (fun h => ?_) (fun h => ?_)
      · have hf := ifn h hf
        refine j_iinc 5 [(4, .int (iI (v4 + 1))), (5, .int (iI a1)), (0, .ref (ad 8)), (1, .int (iI v1)), (2, .int (iI v2)), (3, .int (iI v3))] C dX1_leastRoom_59 (by decide) rfl rfl ?_
        refine j_goto 3 C dX1_leastRoom_62 (by decide) ?_
        exact j_sub [2, 3, 4, 5, 0] rfl (hk3 _ _ _ _ _ hf)
      · have hf := ifp h hf
        refine j_iload 5 C dX1_leastRoom_56 rfl ?_
        exact retI hq hf dX1_leastRoom_58
theorem tX1_leastRoom_L3 {ad : Nat → Nat} {cI cZ : ClassId} {Γ : Cx} {r : Int} {σ' : St} (C : CX cI cZ rm_X1_leastRoom 6 Γ cX1_leastRoom RX1) (hq : RetI .int (wC ad cI cZ) Γ cX1_leastRoom r σ') (n : Nat) : ∀ (v1 v2 v3 v4 : Int), ∀ (σ : St), fX1_leastRoom_L3 n v1 v2 v3 v4 σ = some (r, σ') → JJ (wC ad cI cZ) Γ σ 3 [(0, .ref (ad 8)), (1, .int (iI v1)), (2, .int (iI v2)), (3, .int (iI v3)), (4, .int (iI v4))] [] := by
  induction n with
  | zero => intro _ _ _ _ _ hf; cases hf
  | succ n ih => intro v1 v2 v3 v4 σ hf; exact tX1_leastRoom_B3 C hq ih v1 v2 v3 v4 σ hf
set_option maxRecDepth 20000 in
theorem tX1_leastRoom_L0 {ad : Nat → Nat} {cI cZ : ClassId} {Γ : Cx} {r : Int} {σ' : St} (C : CX cI cZ rm_X1_leastRoom 6 Γ cX1_leastRoom RX1) (hq : RetI .int (wC ad cI cZ) Γ cX1_leastRoom r σ') (v1 : Int) (v2 : Int) (v3 : Int) (σ : St) (hf : fX1_leastRoom_L0 v1 v2 v3 σ = some (r, σ')) : JJ (wC ad cI cZ) Γ σ 0 [(0, .ref (ad 8)), (1, .int (iI v1)), (2, .int (iI v2)), (3, .int (iI v3))] [] := by
  unfold fX1_leastRoom_L0 at hf
  refine j_iconst C dX1_leastRoom_0 ?_
  refine j_istore [(4, .int (iI 0)), (0, .ref (ad 8)), (1, .int (iI v1)), (2, .int (iI v2)), (3, .int (iI v3))] C dX1_leastRoom_1 (by decide) rfl ?_
  exact j_sub [1, 2, 3, 4, 0] rfl (tX1_leastRoom_L3 C hq 1000 _ _ _ _ _ hf)
theorem c_X1_leastRoom (l : Launch) (D : va_G) (ad : Nat → Nat) (cI cZ : ClassId) (σ : St) (v1 : Int) (v2 : Int) (v3 : Int) (r : Int) (σ' : St) (hf : fX1_leastRoom σ v1 v2 v3 = some (r, σ')) : McI l yX1_leastRoom cX1_leastRoom 6 .int rm_X1_leastRoom D (tyL cI cZ) (wC ad cI cZ) [.ref (ad 8), .int (iI v1), .int (iI v2), .int (iI v3)] σ r σ' := McI.mk mf_X1_leastRoom.2.2.2.2.2 (Nat.le_of_ble_eq_true rfl) (fun Γ C hq => j_sub [0, 1, 2, 3] rfl (tX1_leastRoom_L0 C hq v1 v2 v3 σ hf))
/-! TermLodgings$Moving.settleMovers(I)V -/
def rm_X1_settleMovers : Room := { frames := 4, cells := 0, slots := 0, locals := 98 }
set_option maxRecDepth 20000 in
theorem tX1_settleMovers_B7 {ad : Nat → Nat} {cI cZ : ClassId} {Γ : Cx} {σ' : St} (C : CX cI cZ rm_X1_settleMovers 6 Γ cX1_settleMovers RX1) (hq : RetV (wC ad cI cZ) Γ cX1_settleMovers σ') {k7 : Int → Int → Int → St → Option St} (hk7 : ∀ (v2 : Int) (v3 : Int) (v4 : Int) (σ : St), k7 v2 v3 v4 σ = some σ' → JJ (wC ad cI cZ) Γ σ 7 [(0, .ref (ad 8)), (2, .int (iI v2)), (3, .int (iI v3)), (4, .int (iI v4))] []) (v2 : Int) (v3 : Int) (v4 : Int) (σ : St) (hf : fX1_settleMovers_B7 k7 v2 v3 v4 σ = some σ') : JJ (wC ad cI cZ) Γ σ 7 [(0, .ref (ad 8)), (2, .int (iI v2)), (3, .int (iI v3)), (4, .int (iI v4))] [] := by
  unfold fX1_settleMovers_B7 at hf
  refine j_iload 3 C dX1_settleMovers_7 rfl ?_
  refine j_aload_n 0 C dX1_settleMovers_9 rfl ?_
  refine gC_8_3 C wt_254 dX1_settleMovers_10 ?_
  refine j_icmp_ge 64 C rfl rfl dX1_settleMovers_13 (by decide) (fun h => ?_) (fun h => ?_)
  · have hf := ifp h hf
    exact retV hq hf dX1_settleMovers_64
  · have hf := ifn h hf
    refine j_aload_n 0 C dX1_settleMovers_16 rfl ?_
    refine j_iload 3 C dX1_settleMovers_17 rfl ?_
    refine j_iload_n 2 C dX1_settleMovers_19 rfl ?_
    refine j_iload_n 1 C dX1_settleMovers_20 rfl ?_
    obtain ⟨a1, s1, hc, hf⟩ := bd_s hf
    refine j_cVi (q0 := 8) (ci := 1) (T := TX1) (N := 10) [.int (iI v4), .int (iI v3), .int (iI v2)] [] C (c_X1_leastRoom _ _ ad cI cZ _ _ _ _ _ _ hc) mf_X1_leastRoom wt_735 wt_737 ws_27 rfl rfl rfl ⟨rfl, rfl, by decide, by decide⟩ rfl (Nat.le_of_ble_eq_true rfl) dX1_settleMovers_21 ?_
    refine j_istore [(5, .int (iI a1)), (0, .ref (ad 8)), (2, .int (iI v2)), (3, .int (iI v3)), (4, .int (iI v4))] C dX1_settleMovers_24 (by decide) rfl ?_
    refine j_iload 0 C dX1_settleMovers_26 rfl ?_
    refine j_iconst C dX1_settleMovers_28 ?_
    refine j_icmp_eq 58 C rfl wl_m1 dX1_settleMovers_29 (by decide) (fun h => ?_) (fun h => ?_)
    · have hf := ifp h hf
      refine j_iinc 4 [(4, .int (iI (v4 + 1))), (5, .int (iI a1)), (0, .ref (ad 8)), (2, .int (iI v2)), (3, .int (iI v3))] C dX1_settleMovers_58 (by decide) rfl rfl ?_
      refine j_goto 7 C dX1_settleMovers_61 (by decide) ?_
      exact j_sub [2, 3, 4, 0] rfl (hk7 _ _ _ _ hf)
    · have hf := ifn h hf
      refine j_aload_n 1 C dX1_settleMovers_32 rfl ?_
      refine gC_8_0 C wt_251 dX1_settleMovers_33 ?_
      refine j_aload_n 1 C dX1_settleMovers_36 rfl ?_
      refine gC_8_4 C wt_255 dX1_settleMovers_37 ?_
      refine j_iload 4 C dX1_settleMovers_40 rfl ?_
      obtain ⟨hI, hf⟩ := gI_s hf
      refine lC_20 C hI dX1_settleMovers_42 ?_
      refine j_iload 0 C dX1_settleMovers_43 rfl ?_
      obtain ⟨s2, hc, hf⟩ := bv_s hf
      refine j_cVv (q0 := 1) (ci := 7) (T := TX7) (N := 4) [.int (iI (s1.2 20 (ix v4))), .int (iI a1)] [] C (c_X7_settle _ _ ad cI cZ _ _ _ _ hc) mf_X7_settle wt_739 wt_476 wt_477 rfl rfl rfl ⟨rfl, rfl, by decide, by decide⟩ rfl (Nat.le_of_ble_eq_true rfl) dX1_settleMovers_45 ?_
      refine j_iload_n 3 C dX1_settleMovers_48 rfl ?_
      refine j_iconst C dX1_settleMovers_49 ?_
      refine j_iload 0 C dX1_settleMovers_50 rfl ?_
      refine j_ishl C dX1_settleMovers_52 ?_
      refine j_ior C dX1_settleMovers_53 ?_
      refine j_istore_n [(3, .int (iI (bOr v3 (bShl 1 a1)))), (5, .int (iI a1)), (0, .ref (ad 8)), (2, .int (iI v2)), (4, .int (iI v4))] C dX1_settleMovers_54 (by decide) rfl ?_
      refine j_iinc 3 [(2, .int (iI (v2 + (-1)))), (3, .int (iI (bOr v3 (bShl 1 a1)))), (5, .int (iI a1)), (0, .ref (ad 8)), (4, .int (iI v4))] C dX1_settleMovers_55 (by decide) rfl rfl ?_
      refine j_iinc 4 [(4, .int (iI (v4 + 1))), (2, .int (iI (v2 + (-1)))), (3, .int (iI (bOr v3 (bShl 1 a1)))), (5, .int (iI a1)), (0, .ref (ad 8))] C dX1_settleMovers_58 (by decide) rfl rfl ?_
      refine j_goto 7 C dX1_settleMovers_61 (by decide) ?_
      exact j_sub [4, 1, 2, 0] rfl (hk7 _ _ _ _ hf)
theorem tX1_settleMovers_L7 {ad : Nat → Nat} {cI cZ : ClassId} {Γ : Cx} {σ' : St} (C : CX cI cZ rm_X1_settleMovers 6 Γ cX1_settleMovers RX1) (hq : RetV (wC ad cI cZ) Γ cX1_settleMovers σ') (n : Nat) : ∀ (v2 v3 v4 : Int), ∀ (σ : St), fX1_settleMovers_L7 n v2 v3 v4 σ = some σ' → JJ (wC ad cI cZ) Γ σ 7 [(0, .ref (ad 8)), (2, .int (iI v2)), (3, .int (iI v3)), (4, .int (iI v4))] [] := by
  induction n with
  | zero => intro _ _ _ _ hf; cases hf
  | succ n ih => intro v2 v3 v4 σ hf; exact tX1_settleMovers_B7 C hq ih v2 v3 v4 σ hf
set_option maxRecDepth 20000 in
theorem tX1_settleMovers_L0 {ad : Nat → Nat} {cI cZ : ClassId} {Γ : Cx} {σ' : St} (C : CX cI cZ rm_X1_settleMovers 6 Γ cX1_settleMovers RX1) (hq : RetV (wC ad cI cZ) Γ cX1_settleMovers σ') (v1 : Int) (σ : St) (hf : fX1_settleMovers_L0 v1 σ = some σ') : JJ (wC ad cI cZ) Γ σ 0 [(0, .ref (ad 8)), (1, .int (iI v1))] [] := by
  unfold fX1_settleMovers_L0 at hf
  refine j_iload_n 1 C dX1_settleMovers_0 rfl ?_
  refine j_istore_n [(2, .int (iI v1)), (0, .ref (ad 8)), (1, .int (iI v1))] C dX1_settleMovers_1 (by decide) rfl ?_
  refine j_iconst C dX1_settleMovers_2 ?_
  refine j_istore_n [(3, .int (iI 0)), (2, .int (iI v1)), (0, .ref (ad 8)), (1, .int (iI v1))] C dX1_settleMovers_3 (by decide) rfl ?_
  refine j_iconst C dX1_settleMovers_4 ?_
  refine j_istore [(4, .int (iI 0)), (3, .int (iI 0)), (2, .int (iI v1)), (0, .ref (ad 8)), (1, .int (iI v1))] C dX1_settleMovers_5 (by decide) rfl ?_
  exact j_sub [3, 2, 1, 0] rfl (tX1_settleMovers_L7 C hq 1000 _ _ _ _ hf)
theorem c_X1_settleMovers (l : Launch) (D : va_G) (ad : Nat → Nat) (cI cZ : ClassId) (σ : St) (v1 : Int) (σ' : St) (hf : fX1_settleMovers σ v1 = some σ') : McV l yX1_settleMovers cX1_settleMovers 6 rm_X1_settleMovers D (tyL cI cZ) (wC ad cI cZ) [.ref (ad 8), .int (iI v1)] σ σ' := McV.mk mf_X1_settleMovers.2.2.2.2.2 (Nat.le_of_ble_eq_true rfl) (fun Γ C hq => j_sub [0, 1] rfl (tX1_settleMovers_L0 C hq v1 σ hf))
/-! TermLodgings$Moving.run(I)I -/
def rm_X1_run : Room := { frames := 5, cells := 0, slots := 0, locals := 123 }
set_option maxRecDepth 20000 in
theorem tX1_run_B29 {ad : Nat → Nat} {cI cZ : ClassId} {Γ : Cx} {r : Int} {σ' : St} (C : CX cI cZ rm_X1_run 3 Γ cX1_run RX1) (hq : RetI .int (wC ad cI cZ) Γ cX1_run r σ') {k29 : Int → St → Option (Int × St)} (hk29 : ∀ (v2 : Int) (σ : St), k29 v2 σ = some (r, σ') → JJ (wC ad cI cZ) Γ σ 29 [(0, .ref (ad 8)), (2, .int (iI v2))] []) (v2 : Int) (σ : St) (hf : fX1_run_B29 k29 v2 σ = some (r, σ')) : JJ (wC ad cI cZ) Γ σ 29 [(0, .ref (ad 8)), (2, .int (iI v2))] [] := by
  unfold fX1_run_B29 at hf
  refine j_iload_n 1 C dX1_run_29 rfl ?_
  refine j_aload_n 0 C dX1_run_30 rfl ?_
  refine gC_8_3 C wt_254 dX1_run_31 ?_
  refine j_icmp_ge 62 C rfl rfl dX1_run_34 (by decide) (fun h => ?_) (fun h => ?_)
  · have hf := ifp h hf
    refine j_aload_n 0 C dX1_run_62 rfl ?_
    refine j_iconst C dX1_run_63 ?_
    refine j_iconst C dX1_run_64 ?_
    obtain ⟨a1, s1, hc, hf⟩ := bd_s hf
    refine j_cVi (q0 := 8) (ci := 1) (T := TX1) (N := 10) [.int (iI 0), .int (iI 0)] [] C (c_X1_mostFrom _ _ ad cI cZ _ _ _ _ _ hc) mf_X1_mostFrom wt_712 wt_714 ws_22 rfl rfl rfl ⟨rfl, rfl, by decide, by decide⟩ rfl (Nat.le_of_ble_eq_true rfl) dX1_run_65 ?_
    refine j_istore_n [(2, .int (iI a1)), (0, .ref (ad 8))] C dX1_run_68 (by decide) rfl ?_
    refine j_aload_n 1 C dX1_run_69 rfl ?_
    refine j_iload_n 0 C dX1_run_70 rfl ?_
    obtain ⟨s2, hc, hf⟩ := bv_s hf
    refine j_cVv (q0 := 8) (ci := 1) (T := TX1) (N := 10) [.int (iI a1)] [] C (c_X1_settleMovers _ _ ad cI cZ _ _ _ hc) mf_X1_settleMovers wt_731 wt_733 ws_26 rfl rfl rfl ⟨rfl, rfl, by decide, by decide⟩ rfl (Nat.le_of_ble_eq_true rfl) dX1_run_71 ?_
    refine j_aload_n 1 C dX1_run_74 rfl ?_
    refine gC_8_3 C wt_254 dX1_run_75 ?_
    refine j_iload_n 0 C dX1_run_78 rfl ?_
    refine j_isub C dX1_run_79 ?_
    exact retI hq hf dX1_run_80
  · have hf := ifn h hf
    refine j_aload_n 0 C dX1_run_37 rfl ?_
    refine gC_8_5 C wt_256 dX1_run_38 ?_
    refine j_iload_n 1 C dX1_run_41 rfl ?_
    refine j_aload_n 0 C dX1_run_42 rfl ?_
    refine gC_8_0 C wt_251 dX1_run_43 ?_
    refine j_aload_n 0 C dX1_run_46 rfl ?_
    refine gC_8_4 C wt_255 dX1_run_47 ?_
    refine j_iload_n 1 C dX1_run_50 rfl ?_
    obtain ⟨hI, hf⟩ := gI_s hf
    refine lC_20 C hI dX1_run_51 ?_
    obtain ⟨a3, s3, hc, hf⟩ := bd_s hf
    refine j_cVi (q0 := 1) (ci := 7) (T := TX7) (N := 4) [.int (iI (σ.2 20 (ix v2)))] [.int (iI v2), .ref (ad 32)] C (c_X7_openTo _ _ ad cI cZ _ _ _ _ hc) mf_X7_openTo wt_711 wt_611 wt_612 rfl rfl rfl ⟨rfl, rfl, by decide, by decide⟩ rfl (Nat.le_of_ble_eq_true rfl) dX1_run_52 ?_
    obtain ⟨hI, hf⟩ := gI_s hf
    refine tC_21 C hI dX1_run_55 ?_
    refine j_iinc 1 [(2, .int (iI (v2 + 1))), (0, .ref (ad 8))] C dX1_run_56 (by decide) rfl rfl ?_
    refine j_goto 29 C dX1_run_59 (by decide) ?_
    exact j_sub [1, 0] rfl (hk29 _ _ hf)
theorem tX1_run_L29 {ad : Nat → Nat} {cI cZ : ClassId} {Γ : Cx} {r : Int} {σ' : St} (C : CX cI cZ rm_X1_run 3 Γ cX1_run RX1) (hq : RetI .int (wC ad cI cZ) Γ cX1_run r σ') (n : Nat) : ∀ (v2 : Int), ∀ (σ : St), fX1_run_L29 n v2 σ = some (r, σ') → JJ (wC ad cI cZ) Γ σ 29 [(0, .ref (ad 8)), (2, .int (iI v2))] [] := by
  induction n with
  | zero => intro _ _ hf; cases hf
  | succ n ih => intro v2 σ hf; exact tX1_run_B29 C hq ih v2 σ hf
set_option maxRecDepth 20000 in
theorem tX1_run_L0 {ad : Nat → Nat} {cI cZ : ClassId} {Γ : Cx} {r : Int} {σ' : St} (C : CX cI cZ rm_X1_run 3 Γ cX1_run RX1) (hq : RetI .int (wC ad cI cZ) Γ cX1_run r σ') (v1 : Int) (σ : St) (hf : fX1_run_L0 v1 σ = some (r, σ')) : JJ (wC ad cI cZ) Γ σ 0 [(0, .ref (ad 8)), (1, .int (iI v1))] [] := by
  unfold fX1_run_L0 at hf
  refine j_aload_n 0 C dX1_run_0 rfl ?_
  refine gC_8_2 C wt_253 dX1_run_1 ?_
  refine j_dup C rfl dX1_run_4 ?_
  refine gC_2_1 C wt_40 dX1_run_5 ?_
  refine j_iconst C dX1_run_8 ?_
  refine j_iload_n 1 C dX1_run_9 rfl ?_
  refine j_ishl C dX1_run_10 ?_
  refine j_ior C dX1_run_11 ?_
  refine pC_2_1 C wt_40 dX1_run_12 ?_
  refine j_aload_n 0 C dX1_run_15 rfl ?_
  refine j_iload_n 1 C dX1_run_16 rfl ?_
  obtain ⟨s4, hc, hf⟩ := bv_s hf
  refine j_cVv (q0 := 8) (ci := 1) (T := TX1) (N := 10) [.int (iI v1)] [] C (c_X1_emptyHouse _ _ ad cI cZ _ _ _ hc) mf_X1_emptyHouse wt_703 wt_705 ws_21 rfl rfl rfl ⟨rfl, rfl, by decide, by decide⟩ rfl (Nat.le_of_ble_eq_true rfl) dX1_run_17 ?_
  refine j_aload_n 0 C dX1_run_20 rfl ?_
  refine gC_8_0 C wt_251 dX1_run_21 ?_
  obtain ⟨s5, hc, hf⟩ := bv_s hf
  refine j_cVv (q0 := 1) (ci := 7) (T := TX7) (N := 4) [] [] C (c_X7_weighAll _ _ ad cI cZ _ _ hc) mf_X7_weighAll wt_710 wt_571 wt_572 rfl rfl rfl ⟨rfl, rfl, by decide, by decide⟩ rfl (Nat.le_of_ble_eq_true rfl) dX1_run_24 ?_
  refine j_iconst C dX1_run_27 ?_
  refine j_istore_n [(2, .int (iI 0)), (0, .ref (ad 8)), (1, .int (iI v1))] C dX1_run_28 (by decide) rfl ?_
  exact j_sub [1, 0] rfl (tX1_run_L29 C hq 1000 _ _ hf)
theorem c_X1_run (l : Launch) (D : va_G) (ad : Nat → Nat) (cI cZ : ClassId) (σ : St) (v1 : Int) (r : Int) (σ' : St) (hf : fX1_run σ v1 = some (r, σ')) : McI l yX1_run cX1_run 3 .int rm_X1_run D (tyL cI cZ) (wC ad cI cZ) [.ref (ad 8), .int (iI v1)] σ r σ' := McI.mk mf_X1_run.2.2.2.2.2 (Nat.le_of_ble_eq_true rfl) (fun Γ C hq => j_sub [0, 1] rfl (tX1_run_L0 C hq v1 σ hf))
/-! TermLodgings$Nights.keepOne(LTermLodgings$People;)V -/
def rm_X2_keepOne : Room := { frames := 2, cells := 0, slots := 0, locals := 42 }
set_option maxRecDepth 20000 in
theorem tX2_keepOne_B12 {ad : Nat → Nat} {cI cZ : ClassId} {Γ : Cx} {σ' : St} (C : CX cI cZ rm_X2_keepOne 4 Γ cX2_keepOne RX2) (hq : RetV (wC ad cI cZ) Γ cX2_keepOne σ') {k12 : Int → St → Option St} (hk12 : ∀ (v2 : Int) (σ : St), k12 v2 σ = some σ' → JJ (wC ad cI cZ) Γ σ 12 [(0, .ref (ad 9)), (1, .ref (ad 3)), (2, .int (iI v2))] []) (v2 : Int) (σ : St) (hf : fX2_keepOne_B12 k12 v2 σ = some σ') : JJ (wC ad cI cZ) Γ σ 12 [(0, .ref (ad 9)), (1, .ref (ad 3)), (2, .int (iI v2))] [] := by
  unfold fX2_keepOne_B12 at hf
  refine j_iload_n 2 C dX2_keepOne_12 rfl ?_
  refine j_aload_n 1 C dX2_keepOne_13 rfl ?_
  refine gC_3_0 C wt_80 dX2_keepOne_14 ?_
  refine j_icmp_ge 71 C rfl rfl dX2_keepOne_17 (by decide) (fun h => ?_) (fun h => ?_)
  · have hf := ifp h hf
    refine j_aload_n 0 C dX2_keepOne_71 rfl ?_
    refine j_dup C rfl dX2_keepOne_72 ?_
    refine gC_9_0 C wt_291 dX2_keepOne_73 ?_
    refine j_iconst C dX2_keepOne_76 ?_
    refine j_iadd C dX2_keepOne_77 ?_
    refine pC_9_0 C wt_291 dX2_keepOne_78 ?_
    exact retV hq hf dX2_keepOne_81
  · have hf := ifn h hf
    refine j_aload_n 1 C dX2_keepOne_20 rfl ?_
    refine j_iload_n 2 C dX2_keepOne_21 rfl ?_
    obtain ⟨a1, s1, hc, hf⟩ := bd_s hf
    refine j_cVi (q0 := 3) (ci := 3) (T := TX3) (N := 8) [.int (iI v2)] [] C (c_X3_lodgingOf _ _ ad cI cZ _ _ _ _ hc) mf_X3_lodgingOf wt_756 wt_472 wt_473 rfl rfl rfl ⟨rfl, rfl, by decide, by decide⟩ rfl (Nat.le_of_ble_eq_true rfl) dX2_keepOne_22 ?_
    refine j_istore_n [(3, .int (iI a1)), (0, .ref (ad 9)), (1, .ref (ad 3)), (2, .int (iI v2))] C dX2_keepOne_25 (by decide) rfl ?_
    refine j_aload_n 1 C dX2_keepOne_26 rfl ?_
    refine gC_9_1 C wt_293 dX2_keepOne_27 ?_
    refine j_iload_n 3 C dX2_keepOne_30 rfl ?_
    refine j_bipush C dX2_keepOne_31 bp_60 ?_
    refine j_imul C dX2_keepOne_33 ?_
    refine j_aload_n 1 C dX2_keepOne_34 rfl ?_
    refine gC_9_0 C wt_291 dX2_keepOne_35 ?_
    refine j_iadd C dX2_keepOne_38 ?_
    refine j_iload_n 0 C dX2_keepOne_39 rfl ?_
    obtain ⟨hI, hf⟩ := gI_s hf
    refine tC_26 C hI dX2_keepOne_40 ?_
    refine j_iload_n 0 C dX2_keepOne_41 rfl ?_
    refine j_iconst C dX2_keepOne_42 ?_
    refine j_icmp_eq 65 C rfl wl_m1 dX2_keepOne_43 (by decide) (fun h => ?_) (fun h => ?_)
    · have hf := ifp h hf
      refine j_iinc 3 [(2, .int (iI (v2 + 1))), (3, .int (iI a1)), (0, .ref (ad 9)), (1, .ref (ad 3))] C dX2_keepOne_65 (by decide) rfl rfl ?_
      refine j_goto 12 C dX2_keepOne_68 (by decide) ?_
      exact j_sub [2, 3, 0] rfl (hk12 _ _ hf)
    · have hf := ifn h hf
      refine j_aload_n 2 C dX2_keepOne_46 rfl ?_
      refine gC_3_7 C wt_100 dX2_keepOne_47 ?_
      refine j_iload_n 3 C dX2_keepOne_50 rfl ?_
      obtain ⟨hI, hf⟩ := gI_s hf
      refine lC_11 C hI dX2_keepOne_51 ?_
      refine j_if_ne 65 C rfl dX2_keepOne_52 (by decide) (fun h => ?_) (fun h => ?_)
      · have hf := ifn h hf
        refine j_iinc 3 [(2, .int (iI (v2 + 1))), (3, .int (iI a1)), (0, .ref (ad 9)), (1, .ref (ad 3))] C dX2_keepOne_65 (by decide) rfl rfl ?_
        refine j_goto 12 C dX2_keepOne_68 (by decide) ?_
        exact j_sub [2, 3, 0] rfl (hk12 _ _ hf)
      · have hf := ifp h hf
        refine j_aload_n 2 C dX2_keepOne_55 rfl ?_
        refine gC_3_6 C wt_97 dX2_keepOne_56 ?_
        refine j_iload_n 3 C dX2_keepOne_59 rfl ?_
        refine j_dup2 C rfl rfl dX2_keepOne_60 ?_
        obtain ⟨hI, hf⟩ := gI_s hf
        refine lC_10 C hI dX2_keepOne_61 ?_
        refine j_iconst C dX2_keepOne_62 ?_
        refine j_iadd C dX2_keepOne_63 ?_
        obtain ⟨hI, hf⟩ := gI_s hf
        refine tC_10 C hI dX2_keepOne_64 ?_
        refine j_iinc 3 [(2, .int (iI (v2 + 1))), (3, .int (iI a1)), (0, .ref (ad 9)), (1, .ref (ad 3))] C dX2_keepOne_65 (by decide) rfl rfl ?_
        refine j_goto 12 C dX2_keepOne_68 (by decide) ?_
        exact j_sub [2, 3, 0] rfl (hk12 _ _ hf)
theorem tX2_keepOne_L12 {ad : Nat → Nat} {cI cZ : ClassId} {Γ : Cx} {σ' : St} (C : CX cI cZ rm_X2_keepOne 4 Γ cX2_keepOne RX2) (hq : RetV (wC ad cI cZ) Γ cX2_keepOne σ') (n : Nat) : ∀ (v2 : Int), ∀ (σ : St), fX2_keepOne_L12 n v2 σ = some σ' → JJ (wC ad cI cZ) Γ σ 12 [(0, .ref (ad 9)), (1, .ref (ad 3)), (2, .int (iI v2))] [] := by
  induction n with
  | zero => intro _ _ hf; cases hf
  | succ n ih => intro v2 σ hf; exact tX2_keepOne_B12 C hq ih v2 σ hf
set_option maxRecDepth 20000 in
theorem tX2_keepOne_L0 {ad : Nat → Nat} {cI cZ : ClassId} {Γ : Cx} {σ' : St} (C : CX cI cZ rm_X2_keepOne 4 Γ cX2_keepOne RX2) (hq : RetV (wC ad cI cZ) Γ cX2_keepOne σ') (σ : St) (hf : fX2_keepOne_L0 σ = some σ') : JJ (wC ad cI cZ) Γ σ 0 [(0, .ref (ad 9)), (1, .ref (ad 3))] [] := by
  unfold fX2_keepOne_L0 at hf
  refine j_aload_n 0 C dX2_keepOne_0 rfl ?_
  refine gC_9_0 C wt_291 dX2_keepOne_1 ?_
  refine j_bipush C dX2_keepOne_4 bp_60 ?_
  refine j_icmp_lt 10 C rfl wl_60 dX2_keepOne_6 (by decide) (fun h => ?_) (fun h => ?_)
  · have hf := ifp h hf
    refine j_iconst C dX2_keepOne_10 ?_
    refine j_istore_n [(2, .int (iI 0)), (0, .ref (ad 9)), (1, .ref (ad 3))] C dX2_keepOne_11 (by decide) rfl ?_
    exact j_sub [1, 2, 0] rfl (tX2_keepOne_L12 C hq 1000 _ _ hf)
  · have hf := ifn h hf
    exact retV hq hf dX2_keepOne_9
theorem c_X2_keepOne (l : Launch) (D : va_G) (ad : Nat → Nat) (cI cZ : ClassId) (σ : St) (σ' : St) (hf : fX2_keepOne σ = some σ') : McV l yX2_keepOne cX2_keepOne 4 rm_X2_keepOne D (tyL cI cZ) (wC ad cI cZ) [.ref (ad 9), .ref (ad 3)] σ σ' := McV.mk mf_X2_keepOne.2.2.2.2.2 (Nat.le_of_ble_eq_true rfl) (fun Γ C hq => j_sub [0, 1] rfl (tX2_keepOne_L0 C hq  σ hf))
/-! TermLodgings$Nights.lodgingIn(II)I -/
def rm_X2_lodgingIn : Room := { frames := 1, cells := 0, slots := 0, locals := 22 }
set_option maxRecDepth 20000 in
theorem tX2_lodgingIn_L29 {ad : Nat → Nat} {cI cZ : ClassId} {Γ : Cx} {r : Int} {σ' : St} (C : CX cI cZ rm_X2_lodgingIn 4 Γ cX2_lodgingIn RX2) (hq : RetI .int (wC ad cI cZ) Γ cX2_lodgingIn r σ') (v1 : Int) (v2 : Int) (t0 : Int) (σ : St) (hf : fX2_lodgingIn_L29 v1 v2 t0 σ = some (r, σ')) : JJ (wC ad cI cZ) Γ σ 29 [(0, .ref (ad 9)), (1, .int (iI v1)), (2, .int (iI v2))] [.int (iI t0)] := by
  unfold fX2_lodgingIn_L29 at hf
  refine j_istore_n [(3, .int (iI t0)), (0, .ref (ad 9)), (1, .int (iI v1)), (2, .int (iI v2))] C dX2_lodgingIn_29 (by decide) rfl ?_
  refine j_iload_n 0 C dX2_lodgingIn_30 rfl ?_
  refine j_if_eq 48 C rfl dX2_lodgingIn_31 (by decide) (fun h => ?_) (fun h => ?_)
  · have hf := ifp h hf
    refine j_iconst C dX2_lodgingIn_48 ?_
    exact retI hq hf dX2_lodgingIn_49
  · have hf := ifn h hf
    refine j_aload_n 1 C dX2_lodgingIn_34 rfl ?_
    refine gC_9_1 C wt_293 dX2_lodgingIn_35 ?_
    refine j_iload_n 2 C dX2_lodgingIn_38 rfl ?_
    refine j_bipush C dX2_lodgingIn_39 bp_60 ?_
    refine j_imul C dX2_lodgingIn_41 ?_
    refine j_iload_n 3 C dX2_lodgingIn_42 rfl ?_
    refine j_iadd C dX2_lodgingIn_43 ?_
    obtain ⟨hI, hf⟩ := gI_s hf
    refine lC_26 C hI dX2_lodgingIn_44 ?_
    refine j_goto 49 C dX2_lodgingIn_45 (by decide) ?_
    exact retI hq hf dX2_lodgingIn_49
set_option maxRecDepth 20000 in
theorem tX2_lodgingIn_L0 {ad : Nat → Nat} {cI cZ : ClassId} {Γ : Cx} {r : Int} {σ' : St} (C : CX cI cZ rm_X2_lodgingIn 4 Γ cX2_lodgingIn RX2) (hq : RetI .int (wC ad cI cZ) Γ cX2_lodgingIn r σ') (v1 : Int) (v2 : Int) (σ : St) (hf : fX2_lodgingIn_L0 v1 v2 σ = some (r, σ')) : JJ (wC ad cI cZ) Γ σ 0 [(0, .ref (ad 9)), (1, .int (iI v1)), (2, .int (iI v2))] [] := by
  unfold fX2_lodgingIn_L0 at hf
  refine j_iload_n 1 C dX2_lodgingIn_0 rfl ?_
  refine j_iconst C dX2_lodgingIn_1 ?_
  refine j_bipush C dX2_lodgingIn_2 bp_15 ?_
  obtain ⟨a1, s1, hc, hf⟩ := bd_s hf
  refine j_cSNi (host := "TermLodgings") [.int (iI v1), .int (iI 0), .int (iI 15)] [] C (c_X10_within _ _ ad cI cZ _ _ _ _ _ _ hc) mf_X10_within (List.mem_of_getElem? (i := 13) rfl) wt_363 rfl ⟨rfl, rfl, by decide, by decide⟩ rfl (Nat.le_of_ble_eq_true rfl) dX2_lodgingIn_4 ?_
  refine j_if_eq 28 C rfl dX2_lodgingIn_7 (by decide) (fun h => ?_) (fun h => ?_)
  · have hf := ifp h hf
    refine j_iconst C dX2_lodgingIn_28 ?_
    exact j_sub [0, 1, 2] rfl (tX2_lodgingIn_L29 C hq _ _ _ _ hf)
  · have hf := ifn h hf
    refine j_iload_n 2 C dX2_lodgingIn_10 rfl ?_
    refine j_iconst C dX2_lodgingIn_11 ?_
    refine j_aload_n 0 C dX2_lodgingIn_12 rfl ?_
    refine gC_9_0 C wt_291 dX2_lodgingIn_13 ?_
    refine j_iconst C dX2_lodgingIn_16 ?_
    refine j_isub C dX2_lodgingIn_17 ?_
    obtain ⟨a2, s2, hc, hf⟩ := bd_s hf
    refine j_cSNi (host := "TermLodgings") [.int (iI v2), .int (iI 0), .int (iI ((s1.1 15) - 1))] [] C (c_X10_within _ _ ad cI cZ _ _ _ _ _ _ hc) mf_X10_within (List.mem_of_getElem? (i := 13) rfl) wt_363 rfl ⟨rfl, rfl, by decide, by decide⟩ rfl (Nat.le_of_ble_eq_true rfl) dX2_lodgingIn_18 ?_
    refine j_if_eq 28 C rfl dX2_lodgingIn_21 (by decide) (fun h => ?_) (fun h => ?_)
    · have hf := ifp h hf
      refine j_iconst C dX2_lodgingIn_28 ?_
      exact j_sub [0, 1, 2] rfl (tX2_lodgingIn_L29 C hq _ _ _ _ hf)
    · have hf := ifn h hf
      refine j_iconst C dX2_lodgingIn_24 ?_
      refine j_goto 29 C dX2_lodgingIn_25 (by decide) ?_
      exact j_sub [0, 1, 2] rfl (tX2_lodgingIn_L29 C hq _ _ _ _ hf)
theorem c_X2_lodgingIn (l : Launch) (D : va_G) (ad : Nat → Nat) (cI cZ : ClassId) (σ : St) (v1 : Int) (v2 : Int) (r : Int) (σ' : St) (hf : fX2_lodgingIn σ v1 v2 = some (r, σ')) : McI l yX2_lodgingIn cX2_lodgingIn 4 .int rm_X2_lodgingIn D (tyL cI cZ) (wC ad cI cZ) [.ref (ad 9), .int (iI v1), .int (iI v2)] σ r σ' := McI.mk mf_X2_lodgingIn.2.2.2.2.2 (Nat.le_of_ble_eq_true rfl) (fun Γ C hq => j_sub [0, 1, 2] rfl (tX2_lodgingIn_L0 C hq v1 v2 σ hf))
