/-! TermLodgings$Trading.closeRing(II)I -/
def rm_X8_closeRing : Room := { frames := 2, cells := 0, slots := 0, locals := 42 }
set_option maxRecDepth 20000 in
theorem tX8_closeRing_L67 {ad : Nat → Nat} {cI cZ : ClassId} {Γ : Cx} {r : Int} {σ' : St} (C : CX cI cZ rm_X8_closeRing 6 Γ cX8_closeRing RX8) (hq : RetI .int (wC ad cI cZ) Γ cX8_closeRing r σ') (v2 : Int) (v3 : Int) (σ : St) (hf : fX8_closeRing_L67 v2 v3 σ = some (r, σ')) : JJ (wC ad cI cZ) Γ σ 67 [(0, .ref (ad 7)), (2, .int (iI v2)), (3, .int (iI v3))] [] := by
  unfold fX8_closeRing_L67 at hf
  refine j_iload_n 1 C dX8_closeRing_67 rfl ?_
  refine j_iconst C dX8_closeRing_68 ?_
  refine j_icmp_lt 94 C rfl wl_2 dX8_closeRing_69 (by decide) (fun h => ?_) (fun h => ?_)
  · have hf := ifp h hf
    refine j_iload_n 2 C dX8_closeRing_94 rfl ?_
    exact retI hq hf dX8_closeRing_95
  · have hf := ifn h hf
    refine j_aload_n 0 C dX8_closeRing_72 rfl ?_
    refine j_dup C rfl dX8_closeRing_73 ?_
    refine gC_7_0 C wt_217 dX8_closeRing_74 ?_
    refine j_iconst C dX8_closeRing_77 ?_
    refine j_iadd C dX8_closeRing_78 ?_
    refine pC_7_0 C wt_217 dX8_closeRing_79 ?_
    refine j_aload_n 0 C dX8_closeRing_82 rfl ?_
    refine j_aload_n 0 C dX8_closeRing_83 rfl ?_
    refine gC_7_1 C wt_219 dX8_closeRing_84 ?_
    refine j_iload_n 1 C dX8_closeRing_87 rfl ?_
    refine j_mmax C wt_682 wt_683 wt_15 wt_684 (by decide) (Nat.le_of_ble_eq_true rfl) dX8_closeRing_88 ?_
    refine pC_7_1 C wt_219 dX8_closeRing_91 ?_
    refine j_iload_n 2 C dX8_closeRing_94 rfl ?_
    exact retI hq hf dX8_closeRing_95
set_option maxRecDepth 20000 in
theorem tX8_closeRing_B8 {ad : Nat → Nat} {cI cZ : ClassId} {Γ : Cx} {r : Int} {σ' : St} (C : CX cI cZ rm_X8_closeRing 6 Γ cX8_closeRing RX8) (hq : RetI .int (wC ad cI cZ) Γ cX8_closeRing r σ') {k8 : Int → Int → Int → Int → St → Option (Int × St)} (hk8 : ∀ (v2 : Int) (v3 : Int) (v4 : Int) (v5 : Int) (σ : St), k8 v2 v3 v4 v5 σ = some (r, σ') → JJ (wC ad cI cZ) Γ σ 8 [(0, .ref (ad 7)), (2, .int (iI v2)), (3, .int (iI v3)), (4, .int (iI v4)), (5, .int (iI v5))] []) (v2 : Int) (v3 : Int) (v4 : Int) (v5 : Int) (σ : St) (hf : fX8_closeRing_B8 k8 v2 v3 v4 v5 σ = some (r, σ')) : JJ (wC ad cI cZ) Γ σ 8 [(0, .ref (ad 7)), (2, .int (iI v2)), (3, .int (iI v3)), (4, .int (iI v4)), (5, .int (iI v5))] [] := by
  unfold fX8_closeRing_B8 at hf
  refine j_iload 4 C dX8_closeRing_8 rfl ?_
  refine j_iload_n 1 C dX8_closeRing_10 rfl ?_
  refine j_icmp_ge 67 C rfl rfl dX8_closeRing_11 (by decide) (fun h => ?_) (fun h => ?_)
  · have hf := ifp h hf
    exact j_sub [0, 1, 2] rfl (tX8_closeRing_L67 C hq _ _ _ hf)
  · have hf := ifn h hf
    refine j_aload_n 0 C dX8_closeRing_14 rfl ?_
    refine gC_7_5 C wt_225 dX8_closeRing_15 ?_
    refine j_iload 3 C dX8_closeRing_18 rfl ?_
    obtain ⟨a1, s1, hc, hf⟩ := bd_s hf
    refine j_cVi (q0 := 3) (ci := 3) (T := TX3) (N := 8) [.int (iI v4)] [] C (c_X3_has _ _ ad cI cZ _ _ _ _ hc) mf_X3_has wt_677 wt_386 wt_387 rfl rfl rfl ⟨rfl, rfl, by decide, by decide⟩ rfl (Nat.le_of_ble_eq_true rfl) dX8_closeRing_20 ?_
    refine j_if_eq 67 C rfl dX8_closeRing_23 (by decide) (fun h => ?_) (fun h => ?_)
    · have hf := ifp h hf
      exact j_sub [0, 1, 2] rfl (tX8_closeRing_L67 C hq _ _ _ hf)
    · have hf := ifn h hf
      refine j_aload_n 0 C dX8_closeRing_26 rfl ?_
      refine gC_7_7 C wt_227 dX8_closeRing_27 ?_
      refine j_iload 3 C dX8_closeRing_30 rfl ?_
      refine j_aload_n 0 C dX8_closeRing_32 rfl ?_
      refine gC_7_5 C wt_225 dX8_closeRing_33 ?_
      refine j_aload_n 0 C dX8_closeRing_36 rfl ?_
      refine j_iload 3 C dX8_closeRing_37 rfl ?_
      obtain ⟨a2, s2, hc, hf⟩ := bd_s hf
      refine j_cVi (q0 := 7) (ci := 8) (T := TX8) (N := 8) [.int (iI v4)] [.ref (ad 3), .int (iI v4), .ref (ad 30)] C (c_X8_targetOf _ _ ad cI cZ _ _ _ _ hc) mf_X8_targetOf wt_673 wt_675 ws_18 rfl rfl rfl ⟨rfl, rfl, by decide, by decide⟩ rfl (Nat.le_of_ble_eq_true rfl) dX8_closeRing_39 ?_
      obtain ⟨a3, s3, hc, hf⟩ := bd_s hf
      refine j_cVi (q0 := 3) (ci := 3) (T := TX3) (N := 8) [.int (iI a2)] [.int (iI v4), .ref (ad 30)] C (c_X3_lodgingOf _ _ ad cI cZ _ _ _ _ hc) mf_X3_lodgingOf wt_652 wt_472 wt_473 rfl rfl rfl ⟨rfl, rfl, by decide, by decide⟩ rfl (Nat.le_of_ble_eq_true rfl) dX8_closeRing_42 ?_
      obtain ⟨hI, hf⟩ := gI_s hf
      refine tC_19 C hI dX8_closeRing_45 ?_
      refine j_iload_n 2 C dX8_closeRing_46 rfl ?_
      refine j_iconst C dX8_closeRing_47 ?_
      refine j_iload 3 C dX8_closeRing_48 rfl ?_
      refine j_ishl C dX8_closeRing_50 ?_
      refine j_ior C dX8_closeRing_51 ?_
      refine j_istore_n [(3, .int (iI (bOr v3 (bShl 1 v4)))), (0, .ref (ad 7)), (2, .int (iI v2)), (4, .int (iI v4)), (5, .int (iI v5))] C dX8_closeRing_52 (by decide) rfl ?_
      refine j_aload_n 1 C dX8_closeRing_53 rfl ?_
      refine j_iload 3 C dX8_closeRing_54 rfl ?_
      obtain ⟨a4, s4, hc, hf⟩ := bd_s hf
      refine j_cVi (q0 := 7) (ci := 8) (T := TX8) (N := 8) [.int (iI v4)] [] C (c_X8_targetOf _ _ ad cI cZ _ _ _ _ hc) mf_X8_targetOf wt_673 wt_675 ws_18 rfl rfl rfl ⟨rfl, rfl, by decide, by decide⟩ rfl (Nat.le_of_ble_eq_true rfl) dX8_closeRing_56 ?_
      refine j_istore [(4, .int (iI a4)), (3, .int (iI (bOr v3 (bShl 1 v4)))), (0, .ref (ad 7)), (2, .int (iI v2)), (5, .int (iI v5))] C dX8_closeRing_59 (by decide) rfl ?_
      refine j_iinc 4 [(5, .int (iI (v5 + 1))), (4, .int (iI a4)), (3, .int (iI (bOr v3 (bShl 1 v4)))), (0, .ref (ad 7)), (2, .int (iI v2))] C dX8_closeRing_61 (by decide) rfl rfl ?_
      refine j_goto 8 C dX8_closeRing_64 (by decide) ?_
      exact j_sub [3, 4, 2, 1, 0] rfl (hk8 _ _ _ _ _ hf)
theorem tX8_closeRing_L8 {ad : Nat → Nat} {cI cZ : ClassId} {Γ : Cx} {r : Int} {σ' : St} (C : CX cI cZ rm_X8_closeRing 6 Γ cX8_closeRing RX8) (hq : RetI .int (wC ad cI cZ) Γ cX8_closeRing r σ') (n : Nat) : ∀ (v2 v3 v4 v5 : Int), ∀ (σ : St), fX8_closeRing_L8 n v2 v3 v4 v5 σ = some (r, σ') → JJ (wC ad cI cZ) Γ σ 8 [(0, .ref (ad 7)), (2, .int (iI v2)), (3, .int (iI v3)), (4, .int (iI v4)), (5, .int (iI v5))] [] := by
  induction n with
  | zero => intro _ _ _ _ _ hf; cases hf
  | succ n ih => intro v2 v3 v4 v5 σ hf; exact tX8_closeRing_B8 C hq ih v2 v3 v4 v5 σ hf
set_option maxRecDepth 20000 in
theorem tX8_closeRing_L0 {ad : Nat → Nat} {cI cZ : ClassId} {Γ : Cx} {r : Int} {σ' : St} (C : CX cI cZ rm_X8_closeRing 6 Γ cX8_closeRing RX8) (hq : RetI .int (wC ad cI cZ) Γ cX8_closeRing r σ') (v1 : Int) (v2 : Int) (σ : St) (hf : fX8_closeRing_L0 v1 v2 σ = some (r, σ')) : JJ (wC ad cI cZ) Γ σ 0 [(0, .ref (ad 7)), (1, .int (iI v1)), (2, .int (iI v2))] [] := by
  unfold fX8_closeRing_L0 at hf
  refine j_iconst C dX8_closeRing_0 ?_
  refine j_istore_n [(3, .int (iI 0)), (0, .ref (ad 7)), (1, .int (iI v1)), (2, .int (iI v2))] C dX8_closeRing_1 (by decide) rfl ?_
  refine j_iload_n 2 C dX8_closeRing_2 rfl ?_
  refine j_istore [(4, .int (iI v1)), (3, .int (iI 0)), (0, .ref (ad 7)), (1, .int (iI v1)), (2, .int (iI v2))] C dX8_closeRing_3 (by decide) rfl ?_
  refine j_iconst C dX8_closeRing_5 ?_
  refine j_istore [(5, .int (iI 0)), (4, .int (iI v1)), (3, .int (iI 0)), (0, .ref (ad 7)), (1, .int (iI v1)), (2, .int (iI v2))] C dX8_closeRing_6 (by decide) rfl ?_
  exact j_sub [3, 5, 2, 1, 0] rfl (tX8_closeRing_L8 C hq 1000 _ _ _ _ _ hf)
theorem c_X8_closeRing (l : Launch) (D : va_G) (ad : Nat → Nat) (cI cZ : ClassId) (σ : St) (v1 : Int) (v2 : Int) (r : Int) (σ' : St) (hf : fX8_closeRing σ v1 v2 = some (r, σ')) : McI l yX8_closeRing cX8_closeRing 6 .int rm_X8_closeRing D (tyL cI cZ) (wC ad cI cZ) [.ref (ad 7), .int (iI v1), .int (iI v2)] σ r σ' := McI.mk mf_X8_closeRing.2.2.2.2.2 (Nat.le_of_ble_eq_true rfl) (fun Γ C hq => j_sub [0, 1, 2] rfl (tX8_closeRing_L0 C hq v1 v2 σ hf))
/-! TermLodgings$Trading.closeAllRings()V -/
def rm_X8_closeAllRings : Room := { frames := 3, cells := 0, slots := 0, locals := 67 }
set_option maxRecDepth 20000 in
theorem tX8_closeAllRings_B4 {ad : Nat → Nat} {cI cZ : ClassId} {Γ : Cx} {σ' : St} (C : CX cI cZ rm_X8_closeAllRings 3 Γ cX8_closeAllRings RX8) (hq : RetV (wC ad cI cZ) Γ cX8_closeAllRings σ') {k4 : Int → Int → St → Option St} (hk4 : ∀ (v1 : Int) (v2 : Int) (σ : St), k4 v1 v2 σ = some σ' → JJ (wC ad cI cZ) Γ σ 4 [(0, .ref (ad 7)), (1, .int (iI v1)), (2, .int (iI v2))] []) (v1 : Int) (v2 : Int) (σ : St) (hf : fX8_closeAllRings_B4 k4 v1 v2 σ = some σ') : JJ (wC ad cI cZ) Γ σ 4 [(0, .ref (ad 7)), (1, .int (iI v1)), (2, .int (iI v2))] [] := by
  unfold fX8_closeAllRings_B4 at hf
  refine j_iload_n 2 C dX8_closeAllRings_4 rfl ?_
  refine j_aload_n 0 C dX8_closeAllRings_5 rfl ?_
  refine gC_7_5 C wt_225 dX8_closeAllRings_6 ?_
  refine gC_3_0 C wt_82 dX8_closeAllRings_9 ?_
  refine j_icmp_ge 53 C rfl rfl dX8_closeAllRings_12 (by decide) (fun h => ?_) (fun h => ?_)
  · have hf := ifp h hf
    refine j_aload_n 0 C dX8_closeAllRings_53 rfl ?_
    refine j_dup C rfl dX8_closeAllRings_54 ?_
    refine gC_7_3 C wt_223 dX8_closeAllRings_55 ?_
    refine j_iload_n 1 C dX8_closeAllRings_58 rfl ?_
    refine j_iconst C dX8_closeAllRings_59 ?_
    refine j_ixor C dX8_closeAllRings_60 ?_
    refine j_iand C dX8_closeAllRings_61 ?_
    refine pC_7_3 C wt_223 dX8_closeAllRings_62 ?_
    exact retV hq hf dX8_closeAllRings_65
  · have hf := ifn h hf
    refine j_aload_n 0 C dX8_closeAllRings_15 rfl ?_
    refine gC_7_3 C wt_223 dX8_closeAllRings_16 ?_
    refine j_iload_n 2 C dX8_closeAllRings_19 rfl ?_
    obtain ⟨a1, s1, hc, hf⟩ := bd_s hf
    refine j_cSNi (host := "TermLodgings") [.int (iI (σ.1 13)), .int (iI v2)] [] C (c_X10_inBits _ _ ad cI cZ _ _ _ _ _ hc) mf_X10_inBits (List.mem_of_getElem? (i := 10) rfl) wt_451 rfl ⟨rfl, rfl, by decide, by decide⟩ rfl (Nat.le_of_ble_eq_true rfl) dX8_closeAllRings_20 ?_
    refine j_if_eq 47 C rfl dX8_closeAllRings_23 (by decide) (fun h => ?_) (fun h => ?_)
    · have hf := ifp h hf
      refine j_iinc 2 [(2, .int (iI (v2 + 1))), (0, .ref (ad 7)), (1, .int (iI v1))] C dX8_closeAllRings_47 (by decide) rfl rfl ?_
      refine j_goto 4 C dX8_closeAllRings_50 (by decide) ?_
      exact j_sub [1, 2, 0] rfl (hk4 _ _ _ hf)
    · have hf := ifn h hf
      refine j_iload_n 1 C dX8_closeAllRings_26 rfl ?_
      refine j_iload_n 2 C dX8_closeAllRings_27 rfl ?_
      obtain ⟨a2, s2, hc, hf⟩ := bd_s hf
      refine j_cSNi (host := "TermLodgings") [.int (iI v1), .int (iI v2)] [] C (c_X10_inBits _ _ ad cI cZ _ _ _ _ _ hc) mf_X10_inBits (List.mem_of_getElem? (i := 10) rfl) wt_451 rfl ⟨rfl, rfl, by decide, by decide⟩ rfl (Nat.le_of_ble_eq_true rfl) dX8_closeAllRings_28 ?_
      refine j_if_ne 47 C rfl dX8_closeAllRings_31 (by decide) (fun h => ?_) (fun h => ?_)
      · have hf := ifn h hf
        refine j_iinc 2 [(2, .int (iI (v2 + 1))), (0, .ref (ad 7)), (1, .int (iI v1))] C dX8_closeAllRings_47 (by decide) rfl rfl ?_
        refine j_goto 4 C dX8_closeAllRings_50 (by decide) ?_
        exact j_sub [1, 2, 0] rfl (hk4 _ _ _ hf)
      · have hf := ifp h hf
        refine j_iload_n 1 C dX8_closeAllRings_34 rfl ?_
        refine j_aload_n 0 C dX8_closeAllRings_35 rfl ?_
        refine j_iload_n 2 C dX8_closeAllRings_36 rfl ?_
        refine j_aload_n 0 C dX8_closeAllRings_37 rfl ?_
        refine j_iload_n 2 C dX8_closeAllRings_38 rfl ?_
        obtain ⟨a3, s3, hc, hf⟩ := bd_s hf
        refine j_cVi (q0 := 7) (ci := 8) (T := TX8) (N := 8) [.int (iI v2)] [.int (iI v2), .ref (ad 7), .int (iI v1)] C (c_X8_ringLength _ _ ad cI cZ _ _ _ _ hc) mf_X8_ringLength wt_669 wt_671 ws_17 rfl rfl rfl ⟨rfl, rfl, by decide, by decide⟩ rfl (Nat.le_of_ble_eq_true rfl) dX8_closeAllRings_39 ?_
        obtain ⟨a4, s4, hc, hf⟩ := bd_s hf
        refine j_cVi (q0 := 7) (ci := 8) (T := TX8) (N := 8) [.int (iI v2), .int (iI a3)] [.int (iI v1)] C (c_X8_closeRing _ _ ad cI cZ _ _ _ _ _ hc) mf_X8_closeRing wt_678 wt_680 ws_19 rfl rfl rfl ⟨rfl, rfl, by decide, by decide⟩ rfl (Nat.le_of_ble_eq_true rfl) dX8_closeAllRings_42 ?_
        refine j_ior C dX8_closeAllRings_45 ?_
        refine j_istore_n [(1, .int (iI (bOr v1 a4))), (0, .ref (ad 7)), (2, .int (iI v2))] C dX8_closeAllRings_46 (by decide) rfl ?_
        refine j_iinc 2 [(2, .int (iI (v2 + 1))), (1, .int (iI (bOr v1 a4))), (0, .ref (ad 7))] C dX8_closeAllRings_47 (by decide) rfl rfl ?_
        refine j_goto 4 C dX8_closeAllRings_50 (by decide) ?_
        exact j_sub [2, 1, 0] rfl (hk4 _ _ _ hf)
theorem tX8_closeAllRings_L4 {ad : Nat → Nat} {cI cZ : ClassId} {Γ : Cx} {σ' : St} (C : CX cI cZ rm_X8_closeAllRings 3 Γ cX8_closeAllRings RX8) (hq : RetV (wC ad cI cZ) Γ cX8_closeAllRings σ') (n : Nat) : ∀ (v1 v2 : Int), ∀ (σ : St), fX8_closeAllRings_L4 n v1 v2 σ = some σ' → JJ (wC ad cI cZ) Γ σ 4 [(0, .ref (ad 7)), (1, .int (iI v1)), (2, .int (iI v2))] [] := by
  induction n with
  | zero => intro _ _ _ hf; cases hf
  | succ n ih => intro v1 v2 σ hf; exact tX8_closeAllRings_B4 C hq ih v1 v2 σ hf
set_option maxRecDepth 20000 in
theorem tX8_closeAllRings_L0 {ad : Nat → Nat} {cI cZ : ClassId} {Γ : Cx} {σ' : St} (C : CX cI cZ rm_X8_closeAllRings 3 Γ cX8_closeAllRings RX8) (hq : RetV (wC ad cI cZ) Γ cX8_closeAllRings σ') (σ : St) (hf : fX8_closeAllRings_L0 σ = some σ') : JJ (wC ad cI cZ) Γ σ 0 [(0, .ref (ad 7))] [] := by
  unfold fX8_closeAllRings_L0 at hf
  refine j_iconst C dX8_closeAllRings_0 ?_
  refine j_istore_n [(1, .int (iI 0)), (0, .ref (ad 7))] C dX8_closeAllRings_1 (by decide) rfl ?_
  refine j_iconst C dX8_closeAllRings_2 ?_
  refine j_istore_n [(2, .int (iI 0)), (1, .int (iI 0)), (0, .ref (ad 7))] C dX8_closeAllRings_3 (by decide) rfl ?_
  exact j_sub [2, 1, 0] rfl (tX8_closeAllRings_L4 C hq 1000 _ _ _ hf)
theorem c_X8_closeAllRings (l : Launch) (D : va_G) (ad : Nat → Nat) (cI cZ : ClassId) (σ : St) (σ' : St) (hf : fX8_closeAllRings σ = some σ') : McV l yX8_closeAllRings cX8_closeAllRings 3 rm_X8_closeAllRings D (tyL cI cZ) (wC ad cI cZ) [.ref (ad 7)] σ σ' := McV.mk mf_X8_closeAllRings.2.2.2.2.2 (Nat.le_of_ble_eq_true rfl) (fun Γ C hq => j_sub [0] rfl (tX8_closeAllRings_L0 C hq  σ hf))
/-! TermLodgings$Trading.moveAll(I)I -/
def rm_X8_moveAll : Room := { frames := 2, cells := 0, slots := 0, locals := 43 }
set_option maxRecDepth 20000 in
theorem tX8_moveAll_L46 {ad : Nat → Nat} {cI cZ : ClassId} {Γ : Cx} {r : Int} {σ' : St} (C : CX cI cZ rm_X8_moveAll 4 Γ cX8_moveAll RX8) (hq : RetI .int (wC ad cI cZ) Γ cX8_moveAll r σ') {k4 : Int → Int → Int → St → Option (Int × St)} (hk4 : ∀ (v1 : Int) (v2 : Int) (v3 : Int) (σ : St), k4 v1 v2 v3 σ = some (r, σ') → JJ (wC ad cI cZ) Γ σ 4 [(0, .ref (ad 7)), (1, .int (iI v1)), (2, .int (iI v2)), (3, .int (iI v3))] []) (v1 : Int) (v3 : Int) (t0 : Int) (t1 : Int) (σ : St) (hf : fX8_moveAll_L46 k4 v1 v3 t0 t1 σ = some (r, σ')) : JJ (wC ad cI cZ) Γ σ 46 [(0, .ref (ad 7)), (1, .int (iI v1)), (3, .int (iI v3))] [.int (iI t1), .int (iI t0)] := by
  unfold fX8_moveAll_L46 at hf
  refine j_iadd C dX8_moveAll_46 ?_
  refine j_istore_n [(2, .int (iI (t0 + t1))), (0, .ref (ad 7)), (1, .int (iI v1)), (3, .int (iI v3))] C dX8_moveAll_47 (by decide) rfl ?_
  refine j_aload_n 1 C dX8_moveAll_48 rfl ?_
  refine gC_7_4 C wt_224 dX8_moveAll_49 ?_
  refine j_iload_n 3 C dX8_moveAll_52 rfl ?_
  refine j_aload_n 1 C dX8_moveAll_53 rfl ?_
  refine gC_7_7 C wt_227 dX8_moveAll_54 ?_
  refine j_iload_n 3 C dX8_moveAll_57 rfl ?_
  obtain ⟨hI, hf⟩ := gI_s hf
  refine lC_19 C hI dX8_moveAll_58 ?_
  obtain ⟨s1, hc, hf⟩ := bv_s hf
  refine j_cVv (q0 := 1) (ci := 7) (T := TX7) (N := 4) [.int (iI v3), .int (iI (σ.2 19 (ix v3)))] [] C (c_X7_settle _ _ ad cI cZ _ _ _ _ hc) mf_X7_settle wt_689 wt_476 wt_477 rfl rfl rfl ⟨rfl, rfl, by decide, by decide⟩ rfl (Nat.le_of_ble_eq_true rfl) dX8_moveAll_59 ?_
  refine j_iinc 3 [(3, .int (iI (v3 + 1))), (2, .int (iI (t0 + t1))), (0, .ref (ad 7)), (1, .int (iI v1))] C dX8_moveAll_62 (by decide) rfl rfl ?_
  refine j_goto 4 C dX8_moveAll_65 (by decide) ?_
  exact j_sub [2, 3, 1, 0] rfl (hk4 _ _ _ _ hf)
set_option maxRecDepth 20000 in
theorem tX8_moveAll_B4 {ad : Nat → Nat} {cI cZ : ClassId} {Γ : Cx} {r : Int} {σ' : St} (C : CX cI cZ rm_X8_moveAll 4 Γ cX8_moveAll RX8) (hq : RetI .int (wC ad cI cZ) Γ cX8_moveAll r σ') {k4 : Int → Int → Int → St → Option (Int × St)} (hk4 : ∀ (v1 : Int) (v2 : Int) (v3 : Int) (σ : St), k4 v1 v2 v3 σ = some (r, σ') → JJ (wC ad cI cZ) Γ σ 4 [(0, .ref (ad 7)), (1, .int (iI v1)), (2, .int (iI v2)), (3, .int (iI v3))] []) (v1 : Int) (v2 : Int) (v3 : Int) (σ : St) (hf : fX8_moveAll_B4 k4 v1 v2 v3 σ = some (r, σ')) : JJ (wC ad cI cZ) Γ σ 4 [(0, .ref (ad 7)), (1, .int (iI v1)), (2, .int (iI v2)), (3, .int (iI v3))] [] := by
  unfold fX8_moveAll_B4 at hf
  refine j_iload_n 3 C dX8_moveAll_4 rfl ?_
  refine j_aload_n 0 C dX8_moveAll_5 rfl ?_
  refine gC_7_5 C wt_225 dX8_moveAll_6 ?_
  refine gC_3_0 C wt_82 dX8_moveAll_9 ?_
  refine j_icmp_ge 68 C rfl rfl dX8_moveAll_12 (by decide) (fun h => ?_) (fun h => ?_)
  · have hf := ifp h hf
    refine j_iload_n 2 C dX8_moveAll_68 rfl ?_
    exact retI hq hf dX8_moveAll_69
  · have hf := ifn h hf
    refine j_iload_n 1 C dX8_moveAll_15 rfl ?_
    refine j_iload_n 3 C dX8_moveAll_16 rfl ?_
    obtain ⟨a2, s2, hc, hf⟩ := bd_s hf
    refine j_cSNi (host := "TermLodgings") [.int (iI v1), .int (iI v3)] [] C (c_X10_inBits _ _ ad cI cZ _ _ _ _ _ hc) mf_X10_inBits (List.mem_of_getElem? (i := 10) rfl) wt_451 rfl ⟨rfl, rfl, by decide, by decide⟩ rfl (Nat.le_of_ble_eq_true rfl) dX8_moveAll_17 ?_
    refine j_if_eq 62 C rfl dX8_moveAll_20 (by decide) (fun h => ?_) (fun h => ?_)
    · have hf := ifp h hf
      refine j_iinc 3 [(3, .int (iI (v3 + 1))), (0, .ref (ad 7)), (1, .int (iI v1)), (2, .int (iI v2))] C dX8_moveAll_62 (by decide) rfl rfl ?_
      refine j_goto 4 C dX8_moveAll_65 (by decide) ?_
      exact j_sub [1, 2, 3, 0] rfl (hk4 _ _ _ _ hf)
    · have hf := ifn h hf
      refine j_iload_n 2 C dX8_moveAll_23 rfl ?_
      refine j_aload_n 0 C dX8_moveAll_24 rfl ?_
      refine gC_7_5 C wt_225 dX8_moveAll_25 ?_
      refine j_iload_n 3 C dX8_moveAll_28 rfl ?_
      obtain ⟨a3, s3, hc, hf⟩ := bd_s hf
      refine j_cVi (q0 := 3) (ci := 3) (T := TX3) (N := 8) [.int (iI v3)] [.int (iI v2)] C (c_X3_lodgingOf _ _ ad cI cZ _ _ _ _ hc) mf_X3_lodgingOf wt_652 wt_472 wt_473 rfl rfl rfl ⟨rfl, rfl, by decide, by decide⟩ rfl (Nat.le_of_ble_eq_true rfl) dX8_moveAll_29 ?_
      refine j_aload_n 0 C dX8_moveAll_32 rfl ?_
      refine gC_7_7 C wt_227 dX8_moveAll_33 ?_
      refine j_iload_n 3 C dX8_moveAll_36 rfl ?_
      obtain ⟨hI, hf⟩ := gI_s hf
      refine lC_19 C hI dX8_moveAll_37 ?_
      refine j_icmp_eq 45 C rfl rfl dX8_moveAll_38 (by decide) (fun h => ?_) (fun h => ?_)
      · have hf := ifp h hf
        refine j_iconst C dX8_moveAll_45 ?_
        exact j_sub [0, 1, 3] rfl (tX8_moveAll_L46 C hq hk4 _ _ _ _ _ hf)
      · have hf := ifn h hf
        refine j_iconst C dX8_moveAll_41 ?_
        refine j_goto 46 C dX8_moveAll_42 (by decide) ?_
        exact j_sub [0, 1, 3] rfl (tX8_moveAll_L46 C hq hk4 _ _ _ _ _ hf)
theorem tX8_moveAll_L4 {ad : Nat → Nat} {cI cZ : ClassId} {Γ : Cx} {r : Int} {σ' : St} (C : CX cI cZ rm_X8_moveAll 4 Γ cX8_moveAll RX8) (hq : RetI .int (wC ad cI cZ) Γ cX8_moveAll r σ') (n : Nat) : ∀ (v1 v2 v3 : Int), ∀ (σ : St), fX8_moveAll_L4 n v1 v2 v3 σ = some (r, σ') → JJ (wC ad cI cZ) Γ σ 4 [(0, .ref (ad 7)), (1, .int (iI v1)), (2, .int (iI v2)), (3, .int (iI v3))] [] := by
  induction n with
  | zero => intro _ _ _ _ hf; cases hf
  | succ n ih => intro v1 v2 v3 σ hf; exact tX8_moveAll_B4 C hq ih v1 v2 v3 σ hf
set_option maxRecDepth 20000 in
theorem tX8_moveAll_L0 {ad : Nat → Nat} {cI cZ : ClassId} {Γ : Cx} {r : Int} {σ' : St} (C : CX cI cZ rm_X8_moveAll 4 Γ cX8_moveAll RX8) (hq : RetI .int (wC ad cI cZ) Γ cX8_moveAll r σ') (v1 : Int) (σ : St) (hf : fX8_moveAll_L0 v1 σ = some (r, σ')) : JJ (wC ad cI cZ) Γ σ 0 [(0, .ref (ad 7)), (1, .int (iI v1))] [] := by
  unfold fX8_moveAll_L0 at hf
  refine j_iconst C dX8_moveAll_0 ?_
  refine j_istore_n [(2, .int (iI 0)), (0, .ref (ad 7)), (1, .int (iI v1))] C dX8_moveAll_1 (by decide) rfl ?_
  refine j_iconst C dX8_moveAll_2 ?_
  refine j_istore_n [(3, .int (iI 0)), (2, .int (iI 0)), (0, .ref (ad 7)), (1, .int (iI v1))] C dX8_moveAll_3 (by decide) rfl ?_
  exact j_sub [2, 3, 1, 0] rfl (tX8_moveAll_L4 C hq 1000 _ _ _ _ hf)
theorem c_X8_moveAll (l : Launch) (D : va_G) (ad : Nat → Nat) (cI cZ : ClassId) (σ : St) (v1 : Int) (r : Int) (σ' : St) (hf : fX8_moveAll σ v1 = some (r, σ')) : McI l yX8_moveAll cX8_moveAll 4 .int rm_X8_moveAll D (tyL cI cZ) (wC ad cI cZ) [.ref (ad 7), .int (iI v1)] σ r σ' := McI.mk mf_X8_moveAll.2.2.2.2.2 (Nat.le_of_ble_eq_true rfl) (fun Γ C hq => j_sub [0, 1] rfl (tX8_moveAll_L0 C hq v1 σ hf))
/-! TermLodgings$Trading.run()I -/
def rm_X8_run : Room := { frames := 4, cells := 0, slots := 0, locals := 94 }
set_option maxRecDepth 20000 in
theorem tX8_run_B32 {ad : Nat → Nat} {cI cZ : ClassId} {Γ : Cx} {r : Int} {σ' : St} (C : CX cI cZ rm_X8_run 2 Γ cX8_run RX8) (hq : RetI .int (wC ad cI cZ) Γ cX8_run r σ') {k32 : Int → St → Option (Int × St)} (hk32 : ∀ (v1 : Int) (σ : St), k32 v1 σ = some (r, σ') → JJ (wC ad cI cZ) Γ σ 32 [(0, .ref (ad 7)), (1, .int (iI v1))] []) (v1 : Int) (σ : St) (hf : fX8_run_B32 k32 v1 σ = some (r, σ')) : JJ (wC ad cI cZ) Γ σ 32 [(0, .ref (ad 7)), (1, .int (iI v1))] [] := by
  unfold fX8_run_B32 at hf
  refine j_aload_n 0 C dX8_run_32 rfl ?_
  refine gC_7_3 C wt_223 dX8_run_33 ?_
  refine j_if_eq 69 C rfl dX8_run_36 (by decide) (fun h => ?_) (fun h => ?_)
  · have hf := ifp h hf
    refine j_aload_n 0 C dX8_run_69 rfl ?_
    refine j_iload_n 1 C dX8_run_70 rfl ?_
    obtain ⟨a1, s1, hc, hf⟩ := bd_s hf
    refine j_cVi (q0 := 7) (ci := 8) (T := TX8) (N := 8) [.int (iI v1)] [] C (c_X8_moveAll _ _ ad cI cZ _ _ _ _ hc) mf_X8_moveAll wt_685 wt_687 ws_20 rfl rfl rfl ⟨rfl, rfl, by decide, by decide⟩ rfl (Nat.le_of_ble_eq_true rfl) dX8_run_71 ?_
    exact retI hq hf dX8_run_74
  · have hf := ifn h hf
    refine j_aload_n 0 C dX8_run_39 rfl ?_
    refine gC_7_2 C wt_221 dX8_run_40 ?_
    refine j_bipush C dX8_run_43 bp_16 ?_
    refine j_icmp_ge 69 C rfl wl_16 dX8_run_45 (by decide) (fun h => ?_) (fun h => ?_)
    · have hf := ifp h hf
      refine j_aload_n 0 C dX8_run_69 rfl ?_
      refine j_iload_n 1 C dX8_run_70 rfl ?_
      obtain ⟨a2, s2, hc, hf⟩ := bd_s hf
      refine j_cVi (q0 := 7) (ci := 8) (T := TX8) (N := 8) [.int (iI v1)] [] C (c_X8_moveAll _ _ ad cI cZ _ _ _ _ hc) mf_X8_moveAll wt_685 wt_687 ws_20 rfl rfl rfl ⟨rfl, rfl, by decide, by decide⟩ rfl (Nat.le_of_ble_eq_true rfl) dX8_run_71 ?_
      exact retI hq hf dX8_run_74
    · have hf := ifn h hf
      refine j_aload_n 0 C dX8_run_48 rfl ?_
      obtain ⟨s3, hc, hf⟩ := bv_s hf
      refine j_cVv (q0 := 7) (ci := 8) (T := TX8) (N := 8) [] [] C (c_X8_pointAll _ _ ad cI cZ _ _ hc) mf_X8_pointAll wt_654 wt_656 ws_14 rfl rfl rfl ⟨rfl, rfl, by decide, by decide⟩ rfl (Nat.le_of_ble_eq_true rfl) dX8_run_49 ?_
      refine j_aload_n 0 C dX8_run_52 rfl ?_
      obtain ⟨s4, hc, hf⟩ := bv_s hf
      refine j_cVv (q0 := 7) (ci := 8) (T := TX8) (N := 8) [] [] C (c_X8_closeAllRings _ _ ad cI cZ _ _ hc) mf_X8_closeAllRings wt_665 wt_667 ws_16 rfl rfl rfl ⟨rfl, rfl, by decide, by decide⟩ rfl (Nat.le_of_ble_eq_true rfl) dX8_run_53 ?_
      refine j_aload_n 0 C dX8_run_56 rfl ?_
      refine j_dup C rfl dX8_run_57 ?_
      refine gC_7_2 C wt_221 dX8_run_58 ?_
      refine j_iconst C dX8_run_61 ?_
      refine j_iadd C dX8_run_62 ?_
      refine pC_7_2 C wt_221 dX8_run_63 ?_
      refine j_goto 32 C dX8_run_66 (by decide) ?_
      exact j_sub [0, 1] rfl (hk32 _ _ hf)
theorem tX8_run_L32 {ad : Nat → Nat} {cI cZ : ClassId} {Γ : Cx} {r : Int} {σ' : St} (C : CX cI cZ rm_X8_run 2 Γ cX8_run RX8) (hq : RetI .int (wC ad cI cZ) Γ cX8_run r σ') (n : Nat) : ∀ (v1 : Int), ∀ (σ : St), fX8_run_L32 n v1 σ = some (r, σ') → JJ (wC ad cI cZ) Γ σ 32 [(0, .ref (ad 7)), (1, .int (iI v1))] [] := by
  induction n with
  | zero => intro _ _ hf; cases hf
  | succ n ih => intro v1 σ hf; exact tX8_run_B32 C hq ih v1 σ hf
set_option maxRecDepth 20000 in
theorem tX8_run_L0 {ad : Nat → Nat} {cI cZ : ClassId} {Γ : Cx} {r : Int} {σ' : St} (C : CX cI cZ rm_X8_run 2 Γ cX8_run RX8) (hq : RetI .int (wC ad cI cZ) Γ cX8_run r σ') (σ : St) (hf : fX8_run_L0 σ = some (r, σ')) : JJ (wC ad cI cZ) Γ σ 0 [(0, .ref (ad 7))] [] := by
  unfold fX8_run_L0 at hf
  refine j_aload_n 0 C dX8_run_0 rfl ?_
  refine gC_7_4 C wt_224 dX8_run_1 ?_
  obtain ⟨s5, hc, hf⟩ := bv_s hf
  refine j_cVv (q0 := 1) (ci := 7) (T := TX7) (N := 4) [] [] C (c_X7_weighAll _ _ ad cI cZ _ _ hc) mf_X7_weighAll wt_643 wt_571 wt_572 rfl rfl rfl ⟨rfl, rfl, by decide, by decide⟩ rfl (Nat.le_of_ble_eq_true rfl) dX8_run_4 ?_
  refine j_aload_n 0 C dX8_run_7 rfl ?_
  obtain ⟨a6, s6, hc, hf⟩ := bd_s hf
  refine j_cVi (q0 := 7) (ci := 8) (T := TX8) (N := 8) [] [] C (c_X8_traders _ _ ad cI cZ _ _ _ hc) mf_X8_traders wt_644 wt_646 ws_13 rfl rfl rfl ⟨rfl, rfl, by decide, by decide⟩ rfl (Nat.le_of_ble_eq_true rfl) dX8_run_8 ?_
  refine j_istore_n [(1, .int (iI a6)), (0, .ref (ad 7))] C dX8_run_11 (by decide) rfl ?_
  refine j_aload_n 1 C dX8_run_12 rfl ?_
  refine j_iconst C dX8_run_13 ?_
  refine pC_7_0 C wt_217 dX8_run_14 ?_
  refine j_aload_n 1 C dX8_run_17 rfl ?_
  refine j_iconst C dX8_run_18 ?_
  refine pC_7_1 C wt_219 dX8_run_19 ?_
  refine j_aload_n 1 C dX8_run_22 rfl ?_
  refine j_iconst C dX8_run_23 ?_
  refine pC_7_2 C wt_221 dX8_run_24 ?_
  refine j_aload_n 1 C dX8_run_27 rfl ?_
  refine j_iload_n 0 C dX8_run_28 rfl ?_
  refine pC_7_3 C wt_223 dX8_run_29 ?_
  exact j_sub [1, 0] rfl (tX8_run_L32 C hq 1000 _ _ hf)
theorem c_X8_run (l : Launch) (D : va_G) (ad : Nat → Nat) (cI cZ : ClassId) (σ : St) (r : Int) (σ' : St) (hf : fX8_run σ = some (r, σ')) : McI l yX8_run cX8_run 2 .int rm_X8_run D (tyL cI cZ) (wC ad cI cZ) [.ref (ad 7)] σ r σ' := McI.mk mf_X8_run.2.2.2.2.2 (Nat.le_of_ble_eq_true rfl) (fun Γ C hq => j_sub [0] rfl (tX8_run_L0 C hq  σ hf))
/-! TermLodgings$Turns.addLast(I)V -/
def rm_X9_addLast : Room := { frames := 0, cells := 0, slots := 0, locals := 0 }
set_option maxRecDepth 20000 in
theorem tX9_addLast_L0 {ad : Nat → Nat} {cI cZ : ClassId} {Γ : Cx} {σ' : St} (C : CX cI cZ rm_X9_addLast 2 Γ cX9_addLast RX9) (hq : RetV (wC ad cI cZ) Γ cX9_addLast σ') (v1 : Int) (σ : St) (hf : fX9_addLast_L0 v1 σ = some σ') : JJ (wC ad cI cZ) Γ σ 0 [(0, .ref (ad 5)), (1, .int (iI v1))] [] := by
  unfold fX9_addLast_L0 at hf
  refine j_aload_n 0 C dX9_addLast_0 rfl ?_
  refine gC_5_0 C wt_183 dX9_addLast_1 ?_
  refine j_bipush C dX9_addLast_4 bp_16 ?_
  refine j_icmp_ge 29 C rfl wl_16 dX9_addLast_6 (by decide) (fun h => ?_) (fun h => ?_)
  · have hf := ifp h hf
    exact retV hq hf dX9_addLast_29
  · have hf := ifn h hf
    refine j_aload_n 0 C dX9_addLast_9 rfl ?_
    refine gC_5_1 C wt_186 dX9_addLast_10 ?_
    refine j_aload_n 0 C dX9_addLast_13 rfl ?_
    refine gC_5_0 C wt_183 dX9_addLast_14 ?_
    refine j_iload_n 1 C dX9_addLast_17 rfl ?_
    obtain ⟨hI, hf⟩ := gI_s hf
    refine tC_16 C hI dX9_addLast_18 ?_
    refine j_aload_n 0 C dX9_addLast_19 rfl ?_
    refine j_dup C rfl dX9_addLast_20 ?_
    refine gC_5_0 C wt_183 dX9_addLast_21 ?_
    refine j_iconst C dX9_addLast_24 ?_
    refine j_iadd C dX9_addLast_25 ?_
    refine pC_5_0 C wt_183 dX9_addLast_26 ?_
    exact retV hq hf dX9_addLast_29
theorem c_X9_addLast (l : Launch) (D : va_G) (ad : Nat → Nat) (cI cZ : ClassId) (σ : St) (v1 : Int) (σ' : St) (hf : fX9_addLast σ v1 = some σ') : McV l yX9_addLast cX9_addLast 2 rm_X9_addLast D (tyL cI cZ) (wC ad cI cZ) [.ref (ad 5), .int (iI v1)] σ σ' := McV.mk mf_X9_addLast.2.2.2.2.2 (Nat.le_of_ble_eq_true rfl) (fun Γ C hq => j_sub [0, 1] rfl (tX9_addLast_L0 C hq v1 σ hf))
/-! TermLodgings$Turns.swap(II)V -/
def rm_X9_swap : Room := { frames := 2, cells := 0, slots := 0, locals := 43 }
set_option maxRecDepth 20000 in
theorem tX9_swap_L0 {ad : Nat → Nat} {cI cZ : ClassId} {Γ : Cx} {σ' : St} (C : CX cI cZ rm_X9_swap 4 Γ cX9_swap RX9) (hq : RetV (wC ad cI cZ) Γ cX9_swap σ') (v1 : Int) (v2 : Int) (σ : St) (hf : fX9_swap_L0 v1 v2 σ = some σ') : JJ (wC ad cI cZ) Γ σ 0 [(0, .ref (ad 5)), (1, .int (iI v1)), (2, .int (iI v2))] [] := by
  unfold fX9_swap_L0 at hf
  refine j_aload_n 0 C dX9_swap_0 rfl ?_
  refine j_iload_n 1 C dX9_swap_1 rfl ?_
  obtain ⟨a1, s1, hc, hf⟩ := bd_s hf
  refine j_cVi (q0 := 5) (ci := 9) (T := TX9) (N := 2) [.int (iI v1)] [] C (c_X9_has _ _ ad cI cZ _ _ _ _ hc) mf_X9_has wt_543 wt_544 wt_545 rfl rfl rfl ⟨rfl, rfl, by decide, by decide⟩ rfl (Nat.le_of_ble_eq_true rfl) dX9_swap_2 ?_
  refine j_if_eq 42 C rfl dX9_swap_5 (by decide) (fun h => ?_) (fun h => ?_)
  · have hf := ifp h hf
    exact retV hq hf dX9_swap_42
  · have hf := ifn h hf
    refine j_aload_n 0 C dX9_swap_8 rfl ?_
    refine j_iload_n 2 C dX9_swap_9 rfl ?_
    obtain ⟨a2, s2, hc, hf⟩ := bd_s hf
    refine j_cVi (q0 := 5) (ci := 9) (T := TX9) (N := 2) [.int (iI v2)] [] C (c_X9_has _ _ ad cI cZ _ _ _ _ hc) mf_X9_has wt_543 wt_544 wt_545 rfl rfl rfl ⟨rfl, rfl, by decide, by decide⟩ rfl (Nat.le_of_ble_eq_true rfl) dX9_swap_10 ?_
    refine j_if_eq 42 C rfl dX9_swap_13 (by decide) (fun h => ?_) (fun h => ?_)
    · have hf := ifp h hf
      exact retV hq hf dX9_swap_42
    · have hf := ifn h hf
      refine j_aload_n 0 C dX9_swap_16 rfl ?_
      refine gC_5_1 C wt_186 dX9_swap_17 ?_
      refine j_iload_n 1 C dX9_swap_20 rfl ?_
      obtain ⟨hI, hf⟩ := gI_s hf
      refine lC_16 C hI dX9_swap_21 ?_
      refine j_istore_n [(3, .int (iI (s2.2 16 (ix v1)))), (0, .ref (ad 5)), (1, .int (iI v1)), (2, .int (iI v2))] C dX9_swap_22 (by decide) rfl ?_
      refine j_aload_n 1 C dX9_swap_23 rfl ?_
      refine gC_5_1 C wt_186 dX9_swap_24 ?_
      refine j_iload_n 2 C dX9_swap_27 rfl ?_
      refine j_aload_n 1 C dX9_swap_28 rfl ?_
      refine gC_5_1 C wt_186 dX9_swap_29 ?_
      refine j_iload_n 3 C dX9_swap_32 rfl ?_
      obtain ⟨hI, hf⟩ := gI_s hf
      refine lC_16 C hI dX9_swap_33 ?_
      obtain ⟨hI, hf⟩ := gI_s hf
      refine tC_16 C hI dX9_swap_34 ?_
      refine j_aload_n 1 C dX9_swap_35 rfl ?_
      refine gC_5_1 C wt_186 dX9_swap_36 ?_
      refine j_iload_n 3 C dX9_swap_39 rfl ?_
      refine j_iload_n 0 C dX9_swap_40 rfl ?_
      obtain ⟨hI, hf⟩ := gI_s hf
      refine tC_16 C hI dX9_swap_41 ?_
      exact retV hq hf dX9_swap_42
theorem c_X9_swap (l : Launch) (D : va_G) (ad : Nat → Nat) (cI cZ : ClassId) (σ : St) (v1 : Int) (v2 : Int) (σ' : St) (hf : fX9_swap σ v1 v2 = some σ') : McV l yX9_swap cX9_swap 4 rm_X9_swap D (tyL cI cZ) (wC ad cI cZ) [.ref (ad 5), .int (iI v1), .int (iI v2)] σ σ' := McV.mk mf_X9_swap.2.2.2.2.2 (Nat.le_of_ble_eq_true rfl) (fun Γ C hq => j_sub [0, 1, 2] rfl (tX9_swap_L0 C hq v1 v2 σ hf))
/-! TermLodgings$Turns.shuffle(I)V -/
def rm_X9_shuffle : Room := { frames := 3, cells := 0, slots := 0, locals := 66 }
set_option maxRecDepth 20000 in
theorem tX9_shuffle_B32 {ad : Nat → Nat} {cI cZ : ClassId} {Γ : Cx} {σ' : St} (C : CX cI cZ rm_X9_shuffle 4 Γ cX9_shuffle RX9) (hq : RetV (wC ad cI cZ) Γ cX9_shuffle σ') {k32 : Int → Int → St → Option St} (hk32 : ∀ (v2 : Int) (v3 : Int) (σ : St), k32 v2 v3 σ = some σ' → JJ (wC ad cI cZ) Γ σ 32 [(0, .ref (ad 5)), (2, .int (iI v2)), (3, .int (iI v3))] []) (v2 : Int) (v3 : Int) (σ : St) (hf : fX9_shuffle_B32 k32 v2 v3 σ = some σ') : JJ (wC ad cI cZ) Γ σ 32 [(0, .ref (ad 5)), (2, .int (iI v2)), (3, .int (iI v3))] [] := by
  unfold fX9_shuffle_B32 at hf
  refine j_iload_n 2 C dX9_shuffle_32 rfl ?_
  refine j_iconst C dX9_shuffle_33 ?_
  refine j_icmp_lt 65 C rfl wl_1 dX9_shuffle_34 (by decide) (fun h => ?_) (fun h => ?_)
  · have hf := ifp h hf
    exact retV hq hf dX9_shuffle_65
  · have hf := ifn h hf
    refine j_ldc (n := 1103515245) C wt_538 (by decide +kernel) dX9_shuffle_37 ?_
    refine j_iload_n 1 C dX9_shuffle_39 rfl ?_
    refine j_imul C dX9_shuffle_40 ?_
    refine j_sipush C dX9_shuffle_41 sp_12345 ?_
    refine j_iadd C dX9_shuffle_44 ?_
    refine j_istore_n [(2, .int (iI ((1103515245 * v2) + 12345))), (0, .ref (ad 5)), (3, .int (iI v3))] C dX9_shuffle_45 (by decide) rfl ?_
    refine j_aload_n 1 C dX9_shuffle_46 rfl ?_
    refine j_iload_n 2 C dX9_shuffle_47 rfl ?_
    refine j_iload_n 0 C dX9_shuffle_48 rfl ?_
    refine j_bipush C dX9_shuffle_49 bp_16 ?_
    refine j_iushr C dX9_shuffle_51 ?_
    refine j_iload_n 2 C dX9_shuffle_52 rfl ?_
    refine j_iconst C dX9_shuffle_53 ?_
    refine j_iadd C dX9_shuffle_54 ?_
    obtain ⟨h0, hf⟩ := g0_s hf
    refine j_irem C h0 dX9_shuffle_55 ?_
    obtain ⟨s1, hc, hf⟩ := bv_s hf
    refine j_cVv (q0 := 5) (ci := 9) (T := TX9) (N := 2) [.int (iI v3), .int (iI (iRem (bUshr ((1103515245 * v2) + 12345) 16) (v3 + 1)))] [] C (c_X9_swap _ _ ad cI cZ _ _ _ _ hc) mf_X9_swap wt_539 wt_540 wt_541 rfl rfl rfl ⟨rfl, rfl, by decide, by decide⟩ rfl (Nat.le_of_ble_eq_true rfl) dX9_shuffle_56 ?_
    refine j_iinc 2 [(3, .int (iI (v3 + (-1)))), (2, .int (iI ((1103515245 * v2) + 12345))), (0, .ref (ad 5))] C dX9_shuffle_59 (by decide) rfl rfl ?_
    refine j_goto 32 C dX9_shuffle_62 (by decide) ?_
    exact j_sub [2, 1, 0] rfl (hk32 _ _ _ hf)
theorem tX9_shuffle_L32 {ad : Nat → Nat} {cI cZ : ClassId} {Γ : Cx} {σ' : St} (C : CX cI cZ rm_X9_shuffle 4 Γ cX9_shuffle RX9) (hq : RetV (wC ad cI cZ) Γ cX9_shuffle σ') (n : Nat) : ∀ (v2 v3 : Int), ∀ (σ : St), fX9_shuffle_L32 n v2 v3 σ = some σ' → JJ (wC ad cI cZ) Γ σ 32 [(0, .ref (ad 5)), (2, .int (iI v2)), (3, .int (iI v3))] [] := by
  induction n with
  | zero => intro _ _ _ hf; cases hf
  | succ n ih => intro v2 v3 σ hf; exact tX9_shuffle_B32 C hq ih v2 v3 σ hf
set_option maxRecDepth 20000 in
theorem tX9_shuffle_B2 {ad : Nat → Nat} {cI cZ : ClassId} {Γ : Cx} {σ' : St} (C : CX cI cZ rm_X9_shuffle 4 Γ cX9_shuffle RX9) (hq : RetV (wC ad cI cZ) Γ cX9_shuffle σ') {k2 : Int → Int → St → Option St} (hk2 : ∀ (v1 : Int) (v2 : Int) (σ : St), k2 v1 v2 σ = some σ' → JJ (wC ad cI cZ) Γ σ 2 [(0, .ref (ad 5)), (1, .int (iI v1)), (2, .int (iI v2))] []) (v1 : Int) (v2 : Int) (σ : St) (hf : fX9_shuffle_B2 k2 v1 v2 σ = some σ') : JJ (wC ad cI cZ) Γ σ 2 [(0, .ref (ad 5)), (1, .int (iI v1)), (2, .int (iI v2))] [] := by
  unfold fX9_shuffle_B2 at hf
  refine j_iload_n 2 C dX9_shuffle_2 rfl ?_
  refine j_aload_n 0 C dX9_shuffle_3 rfl ?_
  refine gC_5_0 C wt_183 dX9_shuffle_4 ?_
  refine j_icmp_ge 23 C rfl rfl dX9_shuffle_7 (by decide) (fun h => ?_) (fun h => ?_)
  · have hf := ifp h hf
    refine j_iload_n 1 C dX9_shuffle_23 rfl ?_
    refine j_istore_n [(2, .int (iI v1)), (0, .ref (ad 5)), (1, .int (iI v1))] C dX9_shuffle_24 (by decide) rfl ?_
    refine j_aload_n 1 C dX9_shuffle_25 rfl ?_
    refine gC_5_0 C wt_183 dX9_shuffle_26 ?_
    refine j_iconst C dX9_shuffle_29 ?_
    refine j_isub C dX9_shuffle_30 ?_
    refine j_istore_n [(3, .int (iI ((σ.1 9) - 1))), (2, .int (iI v1)), (0, .ref (ad 5)), (1, .int (iI v1))] C dX9_shuffle_31 (by decide) rfl ?_
    exact j_sub [2, 1, 0] rfl (tX9_shuffle_L32 C hq 1000 _ _ _ hf)
  · have hf := ifn h hf
    refine j_aload_n 0 C dX9_shuffle_10 rfl ?_
    refine gC_5_1 C wt_186 dX9_shuffle_11 ?_
    refine j_iload_n 2 C dX9_shuffle_14 rfl ?_
    refine j_iload_n 2 C dX9_shuffle_15 rfl ?_
    obtain ⟨hI, hf⟩ := gI_s hf
    refine tC_16 C hI dX9_shuffle_16 ?_
    refine j_iinc 2 [(2, .int (iI (v2 + 1))), (0, .ref (ad 5)), (1, .int (iI v1))] C dX9_shuffle_17 (by decide) rfl rfl ?_
    refine j_goto 2 C dX9_shuffle_20 (by decide) ?_
    exact j_sub [1, 2, 0] rfl (hk2 _ _ _ hf)
theorem tX9_shuffle_L2 {ad : Nat → Nat} {cI cZ : ClassId} {Γ : Cx} {σ' : St} (C : CX cI cZ rm_X9_shuffle 4 Γ cX9_shuffle RX9) (hq : RetV (wC ad cI cZ) Γ cX9_shuffle σ') (n : Nat) : ∀ (v1 v2 : Int), ∀ (σ : St), fX9_shuffle_L2 n v1 v2 σ = some σ' → JJ (wC ad cI cZ) Γ σ 2 [(0, .ref (ad 5)), (1, .int (iI v1)), (2, .int (iI v2))] [] := by
  induction n with
  | zero => intro _ _ _ hf; cases hf
  | succ n ih => intro v1 v2 σ hf; exact tX9_shuffle_B2 C hq ih v1 v2 σ hf
set_option maxRecDepth 20000 in
theorem tX9_shuffle_L0 {ad : Nat → Nat} {cI cZ : ClassId} {Γ : Cx} {σ' : St} (C : CX cI cZ rm_X9_shuffle 4 Γ cX9_shuffle RX9) (hq : RetV (wC ad cI cZ) Γ cX9_shuffle σ') (v1 : Int) (σ : St) (hf : fX9_shuffle_L0 v1 σ = some σ') : JJ (wC ad cI cZ) Γ σ 0 [(0, .ref (ad 5)), (1, .int (iI v1))] [] := by
  unfold fX9_shuffle_L0 at hf
  refine j_iconst C dX9_shuffle_0 ?_
  refine j_istore_n [(2, .int (iI 0)), (0, .ref (ad 5)), (1, .int (iI v1))] C dX9_shuffle_1 (by decide) rfl ?_
  exact j_sub [1, 2, 0] rfl (tX9_shuffle_L2 C hq 1000 _ _ _ hf)
theorem c_X9_shuffle (l : Launch) (D : va_G) (ad : Nat → Nat) (cI cZ : ClassId) (σ : St) (v1 : Int) (σ' : St) (hf : fX9_shuffle σ v1 = some σ') : McV l yX9_shuffle cX9_shuffle 4 rm_X9_shuffle D (tyL cI cZ) (wC ad cI cZ) [.ref (ad 5), .int (iI v1)] σ σ' := McV.mk mf_X9_shuffle.2.2.2.2.2 (Nat.le_of_ble_eq_true rfl) (fun Γ C hq => j_sub [0, 1] rfl (tX9_shuffle_L0 C hq v1 σ hf))
/-! TermLodgings.room(III)I -/
def rm_X10_room : Room := { frames := 1, cells := 0, slots := 0, locals := 23 }
set_option maxRecDepth 20000 in
theorem tX10_room_L0 {ad : Nat → Nat} {cI cZ : ClassId} {Γ : Cx} {r : Int} {σ' : St} (C : CX cI cZ rm_X10_room 4 Γ cX10_room RX10) (hq : RetI .int (wC ad cI cZ) Γ cX10_room r σ') (v1 : Int) (v2 : Int) (v3 : Int) (σ : St) (hf : fX10_room_L0 v1 v2 v3 σ = some (r, σ')) : JJ (wC ad cI cZ) Γ σ 0 [(0, .ref (ad 0)), (1, .int (iI v1)), (2, .int (iI v2)), (3, .int (iI v3))] [] := by
  unfold fX10_room_L0 at hf
  refine j_iload_n 1 C dX10_room_0 rfl ?_
  refine j_iconst C dX10_room_1 ?_
  refine j_bipush C dX10_room_2 bp_7 ?_
  obtain ⟨a1, s1, hc, hf⟩ := bd_s hf
  refine j_cSi [.int (iI v1), .int (iI 0), .int (iI 7)] [] C (c_X10_within _ _ ad cI cZ _ _ _ _ _ _ hc) mf_X10_within wt_362 wt_363 rfl ⟨rfl, rfl, by decide, by decide⟩ rfl (Nat.le_of_ble_eq_true rfl) dX10_room_4 ?_
  refine j_if_eq 29 C rfl dX10_room_7 (by decide) (fun h => ?_) (fun h => ?_)
  · have hf := ifp h hf
    refine j_bipush C dX10_room_29 bp_m2 ?_
    exact retI hq hf dX10_room_31
  · have hf := ifn h hf
    refine j_iload_n 2 C dX10_room_10 rfl ?_
    refine j_iconst C dX10_room_11 ?_
    refine j_bipush C dX10_room_12 bp_20 ?_
    obtain ⟨a2, s2, hc, hf⟩ := bd_s hf
    refine j_cSi [.int (iI v2), .int (iI 0), .int (iI 20)] [] C (c_X10_within _ _ ad cI cZ _ _ _ _ _ _ hc) mf_X10_within wt_362 wt_363 rfl ⟨rfl, rfl, by decide, by decide⟩ rfl (Nat.le_of_ble_eq_true rfl) dX10_room_14 ?_
    refine j_if_eq 29 C rfl dX10_room_17 (by decide) (fun h => ?_) (fun h => ?_)
    · have hf := ifp h hf
      refine j_bipush C dX10_room_29 bp_m2 ?_
      exact retI hq hf dX10_room_31
    · have hf := ifn h hf
      refine j_iload_n 3 C dX10_room_20 rfl ?_
      refine j_iconst C dX10_room_21 ?_
      refine j_iconst C dX10_room_22 ?_
      obtain ⟨a3, s3, hc, hf⟩ := bd_s hf
      refine j_cSi [.int (iI v3), .int (iI 0), .int (iI 3)] [] C (c_X10_within _ _ ad cI cZ _ _ _ _ _ _ hc) mf_X10_within wt_362 wt_363 rfl ⟨rfl, rfl, by decide, by decide⟩ rfl (Nat.le_of_ble_eq_true rfl) dX10_room_23 ?_
      refine j_if_ne 32 C rfl dX10_room_26 (by decide) (fun h => ?_) (fun h => ?_)
      · have hf := ifn h hf
        refine j_aload_n 0 C dX10_room_32 rfl ?_
        refine gC_0_0 C wt_327 dX10_room_33 ?_
        refine gC_2_0 C wt_37 dX10_room_36 ?_
        refine j_bipush C dX10_room_39 bp_24 ?_
        refine j_icmp_ge 57 C rfl wl_24 dX10_room_41 (by decide) (fun h => ?_) (fun h => ?_)
        · have hf := ifp h hf
          refine j_bipush C dX10_room_57 bp_m4 ?_
          exact retI hq hf dX10_room_59
        · have hf := ifn h hf
          refine j_aload_n 0 C dX10_room_44 rfl ?_
          refine gC_0_0 C wt_327 dX10_room_45 ?_
          refine j_iload_n 1 C dX10_room_48 rfl ?_
          refine j_iload_n 2 C dX10_room_49 rfl ?_
          refine j_iload_n 3 C dX10_room_50 rfl ?_
          obtain ⟨a4, s4, hc, hf⟩ := bd_s hf
          refine j_cVi (q0 := 2) (ci := 5) (T := TX5) (N := 7) [.int (iI v1), .int (iI v2), .int (iI v3)] [] C (c_X5_add _ _ ad cI cZ _ _ _ _ _ _ hc) mf_X5_add wt_365 wt_366 wt_367 rfl rfl rfl ⟨rfl, rfl, by decide, by decide⟩ rfl (Nat.le_of_ble_eq_true rfl) dX10_room_51 ?_
          refine j_goto 59 C dX10_room_54 (by decide) ?_
          exact retI hq hf dX10_room_59
      · have hf := ifp h hf
        refine j_bipush C dX10_room_29 bp_m2 ?_
        exact retI hq hf dX10_room_31
theorem c_X10_room (l : Launch) (D : va_G) (ad : Nat → Nat) (cI cZ : ClassId) (σ : St) (v1 : Int) (v2 : Int) (v3 : Int) (r : Int) (σ' : St) (hf : fX10_room σ v1 v2 v3 = some (r, σ')) : McI l yX10_room cX10_room 4 .int rm_X10_room D (tyL cI cZ) (wC ad cI cZ) [.ref (ad 0), .int (iI v1), .int (iI v2), .int (iI v3)] σ r σ' := McI.mk mf_X10_room.2.2.2.2.2 (Nat.le_of_ble_eq_true rfl) (fun Γ C hq => j_sub [0, 1, 2, 3] rfl (tX10_room_L0 C hq v1 v2 v3 σ hf))
/-! TermLodgings.person(II)I -/
def rm_X10_person : Room := { frames := 1, cells := 0, slots := 0, locals := 22 }
set_option maxRecDepth 20000 in
theorem tX10_person_L30 {ad : Nat → Nat} {cI cZ : ClassId} {Γ : Cx} {r : Int} {σ' : St} (C : CX cI cZ rm_X10_person 4 Γ cX10_person RX10) (hq : RetI .int (wC ad cI cZ) Γ cX10_person r σ') (v1 : Int) (v2 : Int) (σ : St) (hf : fX10_person_L30 v1 v2 σ = some (r, σ')) : JJ (wC ad cI cZ) Γ σ 30 [(0, .ref (ad 0)), (1, .int (iI v1)), (2, .int (iI v2))] [] := by
  unfold fX10_person_L30 at hf
  refine j_aload_n 0 C dX10_person_30 rfl ?_
  refine gC_0_1 C wt_328 dX10_person_31 ?_
  refine gC_3_0 C wt_84 dX10_person_34 ?_
  refine j_bipush C dX10_person_37 bp_16 ?_
  refine j_icmp_lt 45 C rfl wl_16 dX10_person_39 (by decide) (fun h => ?_) (fun h => ?_)
  · have hf := ifp h hf
    refine j_aload_n 0 C dX10_person_45 rfl ?_
    refine gC_0_1 C wt_328 dX10_person_46 ?_
    refine j_iload_n 1 C dX10_person_49 rfl ?_
    refine j_iload_n 2 C dX10_person_50 rfl ?_
    obtain ⟨a1, s1, hc, hf⟩ := bd_s hf
    refine j_cVi (q0 := 3) (ci := 3) (T := TX3) (N := 8) [.int (iI v1), .int (iI v2)] [] C (c_X3_add _ _ ad cI cZ _ _ _ _ _ hc) mf_X3_add wt_373 wt_374 wt_375 rfl rfl rfl ⟨rfl, rfl, by decide, by decide⟩ rfl (Nat.le_of_ble_eq_true rfl) dX10_person_51 ?_
    refine j_istore_n [(3, .int (iI a1)), (0, .ref (ad 0)), (1, .int (iI v1)), (2, .int (iI v2))] C dX10_person_54 (by decide) rfl ?_
    refine j_aload_n 1 C dX10_person_55 rfl ?_
    refine gC_0_4 C wt_331 dX10_person_56 ?_
    refine j_iload_n 0 C dX10_person_59 rfl ?_
    obtain ⟨s2, hc, hf⟩ := bv_s hf
    refine j_cVv (q0 := 5) (ci := 9) (T := TX9) (N := 2) [.int (iI a1)] [] C (c_X9_addLast _ _ ad cI cZ _ _ _ hc) mf_X9_addLast wt_377 wt_378 wt_379 rfl rfl rfl ⟨rfl, rfl, by decide, by decide⟩ rfl (Nat.le_of_ble_eq_true rfl) dX10_person_60 ?_
    refine j_iload_n 0 C dX10_person_63 rfl ?_
    exact retI hq hf dX10_person_64
  · have hf := ifn h hf
    refine j_bipush C dX10_person_42 bp_m4 ?_
    exact retI hq hf dX10_person_44
set_option maxRecDepth 20000 in
theorem tX10_person_L0 {ad : Nat → Nat} {cI cZ : ClassId} {Γ : Cx} {r : Int} {σ' : St} (C : CX cI cZ rm_X10_person 4 Γ cX10_person RX10) (hq : RetI .int (wC ad cI cZ) Γ cX10_person r σ') (v1 : Int) (v2 : Int) (σ : St) (hf : fX10_person_L0 v1 v2 σ = some (r, σ')) : JJ (wC ad cI cZ) Γ σ 0 [(0, .ref (ad 0)), (1, .int (iI v1)), (2, .int (iI v2))] [] := by
  unfold fX10_person_L0 at hf
  refine j_iload_n 1 C dX10_person_0 rfl ?_
  refine j_iconst C dX10_person_1 ?_
  refine j_iconst C dX10_person_2 ?_
  obtain ⟨a3, s3, hc, hf⟩ := bd_s hf
  refine j_cSi [.int (iI v1), .int (iI 1), .int (iI 4)] [] C (c_X10_within _ _ ad cI cZ _ _ _ _ _ _ hc) mf_X10_within wt_362 wt_363 rfl ⟨rfl, rfl, by decide, by decide⟩ rfl (Nat.le_of_ble_eq_true rfl) dX10_person_3 ?_
  refine j_if_ne 12 C rfl dX10_person_6 (by decide) (fun h => ?_) (fun h => ?_)
  · have hf := ifn h hf
    refine j_iload_n 2 C dX10_person_12 rfl ?_
    refine j_iconst C dX10_person_13 ?_
    refine j_icmp_eq 30 C rfl wl_m1 dX10_person_14 (by decide) (fun h => ?_) (fun h => ?_)
    · have hf := ifp h hf
      exact j_sub [0, 1, 2] rfl (tX10_person_L30 C hq _ _ _ hf)
    · have hf := ifn h hf
      refine j_iload_n 2 C dX10_person_17 rfl ?_
      refine j_iconst C dX10_person_18 ?_
      refine j_bipush C dX10_person_19 bp_7 ?_
      obtain ⟨a4, s4, hc, hf⟩ := bd_s hf
      refine j_cSi [.int (iI v2), .int (iI 0), .int (iI 7)] [] C (c_X10_within _ _ ad cI cZ _ _ _ _ _ _ hc) mf_X10_within wt_362 wt_363 rfl ⟨rfl, rfl, by decide, by decide⟩ rfl (Nat.le_of_ble_eq_true rfl) dX10_person_21 ?_
      refine j_if_ne 30 C rfl dX10_person_24 (by decide) (fun h => ?_) (fun h => ?_)
      · have hf := ifn h hf
        exact j_sub [0, 1, 2] rfl (tX10_person_L30 C hq _ _ _ hf)
      · have hf := ifp h hf
        refine j_bipush C dX10_person_27 bp_m2 ?_
        exact retI hq hf dX10_person_29
  · have hf := ifp h hf
    refine j_bipush C dX10_person_9 bp_m2 ?_
    exact retI hq hf dX10_person_11
theorem c_X10_person (l : Launch) (D : va_G) (ad : Nat → Nat) (cI cZ : ClassId) (σ : St) (v1 : Int) (v2 : Int) (r : Int) (σ' : St) (hf : fX10_person σ v1 v2 = some (r, σ')) : McI l yX10_person cX10_person 4 .int rm_X10_person D (tyL cI cZ) (wC ad cI cZ) [.ref (ad 0), .int (iI v1), .int (iI v2)] σ r σ' := McI.mk mf_X10_person.2.2.2.2.2 (Nat.le_of_ble_eq_true rfl) (fun Γ C hq => j_sub [0, 1, 2] rfl (tX10_person_L0 C hq v1 v2 σ hf))
/-! TermLodgings.wish(II)I -/
def rm_X10_wish : Room := { frames := 3, cells := 0, slots := 0, locals := 67 }
set_option maxRecDepth 20000 in
theorem tX10_wish_L0 {ad : Nat → Nat} {cI cZ : ClassId} {Γ : Cx} {r : Int} {σ' : St} (C : CX cI cZ rm_X10_wish 3 Γ cX10_wish RX10) (hq : RetI .int (wC ad cI cZ) Γ cX10_wish r σ') (v1 : Int) (v2 : Int) (σ : St) (hf : fX10_wish_L0 v1 v2 σ = some (r, σ')) : JJ (wC ad cI cZ) Γ σ 0 [(0, .ref (ad 0)), (1, .int (iI v1)), (2, .int (iI v2))] [] := by
  unfold fX10_wish_L0 at hf
  refine j_aload_n 0 C dX10_wish_0 rfl ?_
  refine gC_0_1 C wt_328 dX10_wish_1 ?_
  refine j_iload_n 1 C dX10_wish_4 rfl ?_
  obtain ⟨a1, s1, hc, hf⟩ := bd_s hf
  refine j_cVi (q0 := 3) (ci := 3) (T := TX3) (N := 8) [.int (iI v1)] [] C (c_X3_has _ _ ad cI cZ _ _ _ _ hc) mf_X3_has wt_385 wt_386 wt_387 rfl rfl rfl ⟨rfl, rfl, by decide, by decide⟩ rfl (Nat.le_of_ble_eq_true rfl) dX10_wish_5 ?_
  refine j_if_eq 34 C rfl dX10_wish_8 (by decide) (fun h => ?_) (fun h => ?_)
  · have hf := ifp h hf
    refine j_bipush C dX10_wish_34 bp_m2 ?_
    exact retI hq hf dX10_wish_36
  · have hf := ifn h hf
    refine j_aload_n 0 C dX10_wish_11 rfl ?_
    refine gC_0_0 C wt_327 dX10_wish_12 ?_
    refine j_iload_n 2 C dX10_wish_15 rfl ?_
    obtain ⟨a2, s2, hc, hf⟩ := bd_s hf
    refine j_cVi (q0 := 2) (ci := 5) (T := TX5) (N := 7) [.int (iI v2)] [] C (c_X5_has _ _ ad cI cZ _ _ _ _ hc) mf_X5_has wt_389 wt_390 wt_391 rfl rfl rfl ⟨rfl, rfl, by decide, by decide⟩ rfl (Nat.le_of_ble_eq_true rfl) dX10_wish_16 ?_
    refine j_if_eq 34 C rfl dX10_wish_19 (by decide) (fun h => ?_) (fun h => ?_)
    · have hf := ifp h hf
      refine j_bipush C dX10_wish_34 bp_m2 ?_
      exact retI hq hf dX10_wish_36
    · have hf := ifn h hf
      refine j_aload_n 0 C dX10_wish_22 rfl ?_
      refine gC_0_1 C wt_328 dX10_wish_23 ?_
      refine j_iload_n 1 C dX10_wish_26 rfl ?_
      refine j_iload_n 2 C dX10_wish_27 rfl ?_
      obtain ⟨a3, s3, hc, hf⟩ := bd_s hf
      refine j_cVi (q0 := 3) (ci := 3) (T := TX3) (N := 8) [.int (iI v1), .int (iI v2)] [] C (c_X3_wishesFor _ _ ad cI cZ _ _ _ _ _ hc) mf_X3_wishesFor wt_393 wt_394 wt_395 rfl rfl rfl ⟨rfl, rfl, by decide, by decide⟩ rfl (Nat.le_of_ble_eq_true rfl) dX10_wish_28 ?_
      refine j_if_eq 37 C rfl dX10_wish_31 (by decide) (fun h => ?_) (fun h => ?_)
      · have hf := ifp h hf
        refine j_aload_n 0 C dX10_wish_37 rfl ?_
        refine gC_0_1 C wt_328 dX10_wish_38 ?_
        refine gC_3_3 C wt_91 dX10_wish_41 ?_
        refine j_iload_n 1 C dX10_wish_44 rfl ?_
        obtain ⟨hI, hf⟩ := gI_s hf
        refine lC_7 C hI dX10_wish_45 ?_
        refine j_bipush C dX10_wish_46 bp_8 ?_
        refine j_icmp_ge 63 C rfl wl_8 dX10_wish_48 (by decide) (fun h => ?_) (fun h => ?_)
        · have hf := ifp h hf
          refine j_bipush C dX10_wish_63 bp_m4 ?_
          exact retI hq hf dX10_wish_65
        · have hf := ifn h hf
          refine j_aload_n 0 C dX10_wish_51 rfl ?_
          refine gC_0_1 C wt_328 dX10_wish_52 ?_
          refine j_iload_n 1 C dX10_wish_55 rfl ?_
          refine j_iload_n 2 C dX10_wish_56 rfl ?_
          obtain ⟨a4, s4, hc, hf⟩ := bd_s hf
          refine j_cVi (q0 := 3) (ci := 3) (T := TX3) (N := 8) [.int (iI v1), .int (iI v2)] [] C (c_X3_addWish _ _ ad cI cZ _ _ _ _ _ hc) mf_X3_addWish wt_406 wt_407 wt_408 rfl rfl rfl ⟨rfl, rfl, by decide, by decide⟩ rfl (Nat.le_of_ble_eq_true rfl) dX10_wish_57 ?_
          refine j_goto 65 C dX10_wish_60 (by decide) ?_
          exact retI hq hf dX10_wish_65
      · have hf := ifn h hf
        refine j_bipush C dX10_wish_34 bp_m2 ?_
        exact retI hq hf dX10_wish_36
theorem c_X10_wish (l : Launch) (D : va_G) (ad : Nat → Nat) (cI cZ : ClassId) (σ : St) (v1 : Int) (v2 : Int) (r : Int) (σ' : St) (hf : fX10_wish σ v1 v2 = some (r, σ')) : McI l yX10_wish cX10_wish 3 .int rm_X10_wish D (tyL cI cZ) (wC ad cI cZ) [.ref (ad 0), .int (iI v1), .int (iI v2)] σ r σ' := McI.mk mf_X10_wish.2.2.2.2.2 (Nat.le_of_ble_eq_true rfl) (fun Γ C hq => j_sub [0, 1, 2] rfl (tX10_wish_L0 C hq v1 v2 σ hf))
/-! TermLodgings.content(I)I -/
def rm_X10_content : Room := { frames := 1, cells := 0, slots := 0, locals := 21 }
set_option maxRecDepth 20000 in
theorem tX10_content_L0 {ad : Nat → Nat} {cI cZ : ClassId} {Γ : Cx} {r : Int} {σ' : St} (C : CX cI cZ rm_X10_content 3 Γ cX10_content RX10) (hq : RetI .int (wC ad cI cZ) Γ cX10_content r σ') (v1 : Int) (σ : St) (hf : fX10_content_L0 v1 σ = some (r, σ')) : JJ (wC ad cI cZ) Γ σ 0 [(0, .ref (ad 0)), (1, .int (iI v1))] [] := by
  unfold fX10_content_L0 at hf
  refine j_aload_n 0 C dX10_content_0 rfl ?_
  refine gC_0_1 C wt_328 dX10_content_1 ?_
  refine j_iload_n 1 C dX10_content_4 rfl ?_
  obtain ⟨a1, s1, hc, hf⟩ := bd_s hf
  refine j_cVi (q0 := 3) (ci := 3) (T := TX3) (N := 8) [.int (iI v1)] [] C (c_X3_has _ _ ad cI cZ _ _ _ _ hc) mf_X3_has wt_385 wt_386 wt_387 rfl rfl rfl ⟨rfl, rfl, by decide, by decide⟩ rfl (Nat.le_of_ble_eq_true rfl) dX10_content_5 ?_
  refine j_if_ne 14 C rfl dX10_content_8 (by decide) (fun h => ?_) (fun h => ?_)
  · have hf := ifn h hf
    refine j_aload_n 0 C dX10_content_14 rfl ?_
    refine gC_0_1 C wt_328 dX10_content_15 ?_
    refine gC_3_3 C wt_91 dX10_content_18 ?_
    refine j_iload_n 1 C dX10_content_21 rfl ?_
    obtain ⟨hI, hf⟩ := gI_s hf
    refine lC_7 C hI dX10_content_22 ?_
    refine j_istore_n [(2, .int (iI (s1.2 7 (ix v1)))), (0, .ref (ad 0)), (1, .int (iI v1))] C dX10_content_23 (by decide) rfl ?_
    refine j_aload_n 1 C dX10_content_24 rfl ?_
    refine gC_0_1 C wt_328 dX10_content_25 ?_
    refine gC_3_3 C wt_91 dX10_content_28 ?_
    refine j_iload_n 2 C dX10_content_31 rfl ?_
    refine j_iconst C dX10_content_32 ?_
    obtain ⟨hI, hf⟩ := gI_s hf
    refine tC_7 C hI dX10_content_33 ?_
    refine j_iload_n 0 C dX10_content_34 rfl ?_
    exact retI hq hf dX10_content_35
  · have hf := ifp h hf
    refine j_bipush C dX10_content_11 bp_m2 ?_
    exact retI hq hf dX10_content_13
theorem c_X10_content (l : Launch) (D : va_G) (ad : Nat → Nat) (cI cZ : ClassId) (σ : St) (v1 : Int) (r : Int) (σ' : St) (hf : fX10_content σ v1 = some (r, σ')) : McI l yX10_content cX10_content 3 .int rm_X10_content D (tyL cI cZ) (wC ad cI cZ) [.ref (ad 0), .int (iI v1)] σ r σ' := McI.mk mf_X10_content.2.2.2.2.2 (Nat.le_of_ble_eq_true rfl) (fun Γ C hq => j_sub [0, 1] rfl (tX10_content_L0 C hq v1 σ hf))
/-! TermLodgings.wishTold(II)I -/
def rm_X10_wishTold : Room := { frames := 2, cells := 0, slots := 0, locals := 44 }
set_option maxRecDepth 20000 in
theorem tX10_wishTold_L0 {ad : Nat → Nat} {cI cZ : ClassId} {Γ : Cx} {r : Int} {σ' : St} (C : CX cI cZ rm_X10_wishTold 4 Γ cX10_wishTold RX10) (hq : RetI .int (wC ad cI cZ) Γ cX10_wishTold r σ') (v1 : Int) (v2 : Int) (σ : St) (hf : fX10_wishTold_L0 v1 v2 σ = some (r, σ')) : JJ (wC ad cI cZ) Γ σ 0 [(0, .ref (ad 0)), (1, .int (iI v1)), (2, .int (iI v2))] [] := by
  unfold fX10_wishTold_L0 at hf
  refine j_iload_n 2 C dX10_wishTold_0 rfl ?_
  refine j_bipush C dX10_wishTold_1 bp_10 ?_
  refine j_bipush C dX10_wishTold_3 bp_17 ?_
  obtain ⟨a1, s1, hc, hf⟩ := bd_s hf
  refine j_cSi [.int (iI v2), .int (iI 10), .int (iI 17)] [] C (c_X10_within _ _ ad cI cZ _ _ _ _ _ _ hc) mf_X10_within wt_362 wt_363 rfl ⟨rfl, rfl, by decide, by decide⟩ rfl (Nat.le_of_ble_eq_true rfl) dX10_wishTold_5 ?_
  refine j_if_ne 14 C rfl dX10_wishTold_8 (by decide) (fun h => ?_) (fun h => ?_)
  · have hf := ifn h hf
    refine j_aload_n 0 C dX10_wishTold_14 rfl ?_
    refine gC_0_1 C wt_328 dX10_wishTold_15 ?_
    refine j_iload_n 1 C dX10_wishTold_18 rfl ?_
    refine j_iload_n 2 C dX10_wishTold_19 rfl ?_
    refine j_bipush C dX10_wishTold_20 bp_10 ?_
    refine j_isub C dX10_wishTold_22 ?_
    obtain ⟨a2, s2, hc, hf⟩ := bd_s hf
    refine j_cVi (q0 := 3) (ci := 3) (T := TX3) (N := 8) [.int (iI v1), .int (iI (v2 - 10))] [] C (c_X3_wishAt _ _ ad cI cZ _ _ _ _ _ hc) mf_X3_wishAt wt_422 wt_403 wt_404 rfl rfl rfl ⟨rfl, rfl, by decide, by decide⟩ rfl (Nat.le_of_ble_eq_true rfl) dX10_wishTold_23 ?_
    refine j_istore_n [(3, .int (iI a2)), (0, .ref (ad 0)), (1, .int (iI v1)), (2, .int (iI v2))] C dX10_wishTold_26 (by decide) rfl ?_
    refine j_iload_n 0 C dX10_wishTold_27 rfl ?_
    refine j_iconst C dX10_wishTold_28 ?_
    refine j_icmp_ne 37 C rfl wl_m1 dX10_wishTold_29 (by decide) (fun h => ?_) (fun h => ?_)
    · have hf := ifn h hf
      refine j_iload_n 0 C dX10_wishTold_37 rfl ?_
      exact retI hq hf dX10_wishTold_38
    · have hf := ifp h hf
      refine j_bipush C dX10_wishTold_32 bp_m2 ?_
      refine j_goto 38 C dX10_wishTold_34 (by decide) ?_
      exact retI hq hf dX10_wishTold_38
  · have hf := ifp h hf
    refine j_bipush C dX10_wishTold_11 bp_m2 ?_
    exact retI hq hf dX10_wishTold_13
theorem c_X10_wishTold (l : Launch) (D : va_G) (ad : Nat → Nat) (cI cZ : ClassId) (σ : St) (v1 : Int) (v2 : Int) (r : Int) (σ' : St) (hf : fX10_wishTold σ v1 v2 = some (r, σ')) : McI l yX10_wishTold cX10_wishTold 4 .int rm_X10_wishTold D (tyL cI cZ) (wC ad cI cZ) [.ref (ad 0), .int (iI v1), .int (iI v2)] σ r σ' := McI.mk mf_X10_wishTold.2.2.2.2.2 (Nat.le_of_ble_eq_true rfl) (fun Γ C hq => j_sub [0, 1, 2] rfl (tX10_wishTold_L0 C hq v1 v2 σ hf))
/-! TermLodgings.about(II)I -/
def rm_X10_about : Room := { frames := 3, cells := 0, slots := 0, locals := 67 }
set_option maxRecDepth 20000 in
theorem tX10_about_L0 {ad : Nat → Nat} {cI cZ : ClassId} {Γ : Cx} {r : Int} {σ' : St} (C : CX cI cZ rm_X10_about 3 Γ cX10_about RX10) (hq : RetI .int (wC ad cI cZ) Γ cX10_about r σ') (v1 : Int) (v2 : Int) (σ : St) (hf : fX10_about_L0 v1 v2 σ = some (r, σ')) : JJ (wC ad cI cZ) Γ σ 0 [(0, .ref (ad 0)), (1, .int (iI v1)), (2, .int (iI v2))] [] := by
  unfold fX10_about_L0 at hf
  refine j_aload_n 0 C dX10_about_0 rfl ?_
  refine gC_0_1 C wt_328 dX10_about_1 ?_
  refine j_iload_n 1 C dX10_about_4 rfl ?_
  obtain ⟨a1, s1, hc, hf⟩ := bd_s hf
  refine j_cVi (q0 := 3) (ci := 3) (T := TX3) (N := 8) [.int (iI v1)] [] C (c_X3_has _ _ ad cI cZ _ _ _ _ hc) mf_X3_has wt_385 wt_386 wt_387 rfl rfl rfl ⟨rfl, rfl, by decide, by decide⟩ rfl (Nat.le_of_ble_eq_true rfl) dX10_about_5 ?_
  refine j_if_ne 14 C rfl dX10_about_8 (by decide) (fun h => ?_) (fun h => ?_)
  · have hf := ifn h hf
    refine j_iload_n 2 C dX10_about_14 rfl ?_
    by_cases h0 : w32 v2 = 0
    · have hf := ifp h0 hf
      refine j_tabI 52 C (by omega) (by omega) (by rw [h0]; rfl) (by decide) dX10_about_15 ?_
      refine j_aload_n 0 C dX10_about_52 rfl ?_
      refine gC_0_1 C wt_328 dX10_about_53 ?_
      refine gC_3_1 C wt_87 dX10_about_56 ?_
      refine j_iload_n 1 C dX10_about_59 rfl ?_
      obtain ⟨hI, hf⟩ := gI_s hf
      refine lC_5 C hI dX10_about_60 ?_
      exact retI hq hf dX10_about_61
    have hf := ifn h0 hf
    by_cases h1 : w32 v2 = 1
    · have hf := ifp h1 hf
      refine j_tabI 62 C (by omega) (by omega) (by rw [h1]; rfl) (by decide) dX10_about_15 ?_
      refine j_aload_n 0 C dX10_about_62 rfl ?_
      refine gC_0_1 C wt_328 dX10_about_63 ?_
      refine gC_3_2 C wt_89 dX10_about_66 ?_
      refine j_iload_n 1 C dX10_about_69 rfl ?_
      obtain ⟨hI, hf⟩ := gI_s hf
      refine lC_6 C hI dX10_about_70 ?_
      exact retI hq hf dX10_about_71
    have hf := ifn h1 hf
    by_cases h2 : w32 v2 = 2
    · have hf := ifp h2 hf
      refine j_tabI 72 C (by omega) (by omega) (by rw [h2]; rfl) (by decide) dX10_about_15 ?_
      refine j_aload_n 0 C dX10_about_72 rfl ?_
      refine gC_0_1 C wt_328 dX10_about_73 ?_
      refine gC_3_3 C wt_91 dX10_about_76 ?_
      refine j_iload_n 1 C dX10_about_79 rfl ?_
      obtain ⟨hI, hf⟩ := gI_s hf
      refine lC_7 C hI dX10_about_80 ?_
      exact retI hq hf dX10_about_81
    have hf := ifn h2 hf
    by_cases h3 : w32 v2 = 3
    · have hf := ifp h3 hf
      refine j_tabI 82 C (by omega) (by omega) (by rw [h3]; rfl) (by decide) dX10_about_15 ?_
      refine j_aload_n 0 C dX10_about_82 rfl ?_
      refine gC_0_1 C wt_328 dX10_about_83 ?_
      refine gC_3_5 C wt_95 dX10_about_86 ?_
      refine j_iload_n 1 C dX10_about_89 rfl ?_
      obtain ⟨hI, hf⟩ := gI_s hf
      refine lC_9 C hI dX10_about_90 ?_
      exact retI hq hf dX10_about_91
    have hf := ifn h3 hf
    by_cases h4 : w32 v2 = 4
    · have hf := ifp h4 hf
      refine j_tabI 92 C (by omega) (by omega) (by rw [h4]; rfl) (by decide) dX10_about_15 ?_
      refine j_aload_n 0 C dX10_about_92 rfl ?_
      refine gC_0_1 C wt_328 dX10_about_93 ?_
      refine gC_3_7 C wt_101 dX10_about_96 ?_
      refine j_iload_n 1 C dX10_about_99 rfl ?_
      obtain ⟨hI, hf⟩ := gI_s hf
      refine lC_11 C hI dX10_about_100 ?_
      refine j_if_eq 108 C rfl dX10_about_101 (by decide) (fun h => ?_) (fun h => ?_)
      · have hf := ifp h hf
        refine j_iconst C dX10_about_108 ?_
        exact retI hq hf dX10_about_109
      · have hf := ifn h hf
        refine j_iconst C dX10_about_104 ?_
        refine j_goto 109 C dX10_about_105 (by decide) ?_
        exact retI hq hf dX10_about_109
    have hf := ifn h4 hf
    by_cases h5 : w32 v2 = 5
    · have hf := ifp h5 hf
      refine j_tabI 110 C (by omega) (by omega) (by rw [h5]; rfl) (by decide) dX10_about_15 ?_
      refine j_aload_n 0 C dX10_about_110 rfl ?_
      refine gC_0_1 C wt_328 dX10_about_111 ?_
      refine gC_3_6 C wt_98 dX10_about_114 ?_
      refine j_iload_n 1 C dX10_about_117 rfl ?_
      obtain ⟨hI, hf⟩ := gI_s hf
      refine lC_10 C hI dX10_about_118 ?_
      exact retI hq hf dX10_about_119
    have hf := ifn h5 hf
    refine j_tabO 120 C (by omega) (by decide) dX10_about_15 ?_
    refine j_aload_n 0 C dX10_about_120 rfl ?_
    refine j_iload_n 1 C dX10_about_121 rfl ?_
    refine j_iload_n 2 C dX10_about_122 rfl ?_
    obtain ⟨a2, s2, hc, hf⟩ := bd_s hf
    refine j_cVi (q0 := 0) (ci := 10) (T := TX10) (N := 10) [.int (iI v1), .int (iI v2)] [] C (c_X10_wishTold _ _ ad cI cZ _ _ _ _ _ hc) mf_X10_wishTold wt_418 wt_420 ws_0 rfl rfl rfl ⟨rfl, rfl, by decide, by decide⟩ rfl (Nat.le_of_ble_eq_true rfl) dX10_about_123 ?_
    exact retI hq hf dX10_about_126
  · have hf := ifp h hf
    refine j_bipush C dX10_about_11 bp_m2 ?_
    exact retI hq hf dX10_about_13
theorem c_X10_about (l : Launch) (D : va_G) (ad : Nat → Nat) (cI cZ : ClassId) (σ : St) (v1 : Int) (v2 : Int) (r : Int) (σ' : St) (hf : fX10_about σ v1 v2 = some (r, σ')) : McI l yX10_about cX10_about 3 .int rm_X10_about D (tyL cI cZ) (wC ad cI cZ) [.ref (ad 0), .int (iI v1), .int (iI v2)] σ r σ' := McI.mk mf_X10_about.2.2.2.2.2 (Nat.le_of_ble_eq_true rfl) (fun Γ C hq => j_sub [0, 1, 2] rfl (tX10_about_L0 C hq v1 v2 σ hf))
/-! TermLodgings.of(II)I -/
def rm_X10_of : Room := { frames := 1, cells := 0, slots := 0, locals := 21 }
set_option maxRecDepth 20000 in
theorem tX10_of_L0 {ad : Nat → Nat} {cI cZ : ClassId} {Γ : Cx} {r : Int} {σ' : St} (C : CX cI cZ rm_X10_of 3 Γ cX10_of RX10) (hq : RetI .int (wC ad cI cZ) Γ cX10_of r σ') (v1 : Int) (v2 : Int) (σ : St) (hf : fX10_of_L0 v1 v2 σ = some (r, σ')) : JJ (wC ad cI cZ) Γ σ 0 [(0, .ref (ad 0)), (1, .int (iI v1)), (2, .int (iI v2))] [] := by
  unfold fX10_of_L0 at hf
  refine j_aload_n 0 C dX10_of_0 rfl ?_
  refine gC_0_0 C wt_327 dX10_of_1 ?_
  refine j_iload_n 1 C dX10_of_4 rfl ?_
  obtain ⟨a1, s1, hc, hf⟩ := bd_s hf
  refine j_cVi (q0 := 2) (ci := 5) (T := TX5) (N := 7) [.int (iI v1)] [] C (c_X5_has _ _ ad cI cZ _ _ _ _ hc) mf_X5_has wt_389 wt_390 wt_391 rfl rfl rfl ⟨rfl, rfl, by decide, by decide⟩ rfl (Nat.le_of_ble_eq_true rfl) dX10_of_5 ?_
  refine j_if_ne 14 C rfl dX10_of_8 (by decide) (fun h => ?_) (fun h => ?_)
  · have hf := ifn h hf
    refine j_iload_n 2 C dX10_of_14 rfl ?_
    by_cases h0 : w32 v2 = 0
    · have hf := ifp h0 hf
      refine j_tabI 44 C (by omega) (by omega) (by rw [h0]; rfl) (by decide) dX10_of_15 ?_
      refine j_aload_n 0 C dX10_of_44 rfl ?_
      refine gC_0_0 C wt_327 dX10_of_45 ?_
      refine gC_2_3 C wt_46 dX10_of_48 ?_
      refine j_iload_n 1 C dX10_of_51 rfl ?_
      obtain ⟨hI, hf⟩ := gI_s hf
      refine lC_1 C hI dX10_of_52 ?_
      exact retI hq hf dX10_of_53
    have hf := ifn h0 hf
    by_cases h1 : w32 v2 = 1
    · have hf := ifp h1 hf
      refine j_tabI 54 C (by omega) (by omega) (by rw [h1]; rfl) (by decide) dX10_of_15 ?_
      refine j_aload_n 0 C dX10_of_54 rfl ?_
      refine gC_0_0 C wt_327 dX10_of_55 ?_
      refine gC_2_4 C wt_49 dX10_of_58 ?_
      refine j_iload_n 1 C dX10_of_61 rfl ?_
      obtain ⟨hI, hf⟩ := gI_s hf
      refine lC_2 C hI dX10_of_62 ?_
      exact retI hq hf dX10_of_63
    have hf := ifn h1 hf
    by_cases h2 : w32 v2 = 2
    · have hf := ifp h2 hf
      refine j_tabI 64 C (by omega) (by omega) (by rw [h2]; rfl) (by decide) dX10_of_15 ?_
      refine j_aload_n 0 C dX10_of_64 rfl ?_
      refine gC_0_0 C wt_327 dX10_of_65 ?_
      refine gC_2_5 C wt_52 dX10_of_68 ?_
      refine j_iload_n 1 C dX10_of_71 rfl ?_
      obtain ⟨hI, hf⟩ := gI_s hf
      refine lC_3 C hI dX10_of_72 ?_
      exact retI hq hf dX10_of_73
    have hf := ifn h2 hf
    by_cases h3 : w32 v2 = 3
    · have hf := ifp h3 hf
      refine j_tabI 74 C (by omega) (by omega) (by rw [h3]; rfl) (by decide) dX10_of_15 ?_
      refine j_aload_n 0 C dX10_of_74 rfl ?_
      refine gC_0_0 C wt_327 dX10_of_75 ?_
      refine gC_2_6 C wt_55 dX10_of_78 ?_
      refine j_iload_n 1 C dX10_of_81 rfl ?_
      obtain ⟨hI, hf⟩ := gI_s hf
      refine lC_4 C hI dX10_of_82 ?_
      exact retI hq hf dX10_of_83
    have hf := ifn h3 hf
    refine j_tabO 84 C (by omega) (by decide) dX10_of_15 ?_
    refine j_bipush C dX10_of_84 bp_m2 ?_
    exact retI hq hf dX10_of_86
  · have hf := ifp h hf
    refine j_bipush C dX10_of_11 bp_m2 ?_
    exact retI hq hf dX10_of_13
theorem c_X10_of (l : Launch) (D : va_G) (ad : Nat → Nat) (cI cZ : ClassId) (σ : St) (v1 : Int) (v2 : Int) (r : Int) (σ' : St) (hf : fX10_of σ v1 v2 = some (r, σ')) : McI l yX10_of cX10_of 3 .int rm_X10_of D (tyL cI cZ) (wC ad cI cZ) [.ref (ad 0), .int (iI v1), .int (iI v2)] σ r σ' := McI.mk mf_X10_of.2.2.2.2.2 (Nat.le_of_ble_eq_true rfl) (fun Γ C hq => j_sub [0, 1, 2] rfl (tX10_of_L0 C hq v1 v2 σ hf))
/-! TermLodgings.canBeGiven(II)Z -/
def rm_X10_canBeGiven : Room := { frames := 3, cells := 0, slots := 0, locals := 72 }
set_option maxRecDepth 20000 in
theorem tX10_canBeGiven_L0 {ad : Nat → Nat} {cI cZ : ClassId} {Γ : Cx} {r : Int} {σ' : St} (C : CX cI cZ rm_X10_canBeGiven 4 Γ cX10_canBeGiven RX10) (hq : RetI .boolean (wC ad cI cZ) Γ cX10_canBeGiven r σ') (v1 : Int) (v2 : Int) (σ : St) (hf : fX10_canBeGiven_L0 v1 v2 σ = some (r, σ')) : JJ (wC ad cI cZ) Γ σ 0 [(0, .ref (ad 0)), (1, .int (iI v1)), (2, .int (iI v2))] [] := by
  unfold fX10_canBeGiven_L0 at hf
  refine j_aload_n 0 C dX10_canBeGiven_0 rfl ?_
  refine gC_0_0 C wt_327 dX10_canBeGiven_1 ?_
  refine j_iload_n 2 C dX10_canBeGiven_4 rfl ?_
  obtain ⟨a1, s1, hc, hf⟩ := bd_s hf
  refine j_cVi (q0 := 2) (ci := 5) (T := TX5) (N := 7) [.int (iI v2)] [] C (c_X5_holderOf _ _ ad cI cZ _ _ _ _ hc) mf_X5_holderOf wt_435 wt_436 wt_437 rfl rfl rfl ⟨rfl, rfl, by decide, by decide⟩ rfl (Nat.le_of_ble_eq_true rfl) dX10_canBeGiven_5 ?_
  refine j_istore_n [(3, .int (iI a1)), (0, .ref (ad 0)), (1, .int (iI v1)), (2, .int (iI v2))] C dX10_canBeGiven_8 (by decide) rfl ?_
  refine j_iload_n 0 C dX10_canBeGiven_9 rfl ?_
  refine j_iconst C dX10_canBeGiven_10 ?_
  refine j_icmp_eq 19 C rfl wl_m1 dX10_canBeGiven_11 (by decide) (fun h => ?_) (fun h => ?_)
  · have hf := ifp h hf
    refine j_aload_n 1 C dX10_canBeGiven_19 rfl ?_
    refine gC_0_3 C wt_330 dX10_canBeGiven_20 ?_
    refine j_iload_n 2 C dX10_canBeGiven_23 rfl ?_
    refine j_iload_n 3 C dX10_canBeGiven_24 rfl ?_
    obtain ⟨a2, s2, hc, hf⟩ := bd_s hf
    refine j_cVi (q0 := 1) (ci := 7) (T := TX7) (N := 4) [.int (iI v1), .int (iI v2)] [] C (c_X7_suits _ _ ad cI cZ _ _ _ _ _ hc) mf_X7_suits wt_440 wt_441 wt_442 rfl rfl rfl ⟨rfl, rfl, by decide, by decide⟩ rfl (Nat.le_of_ble_eq_true rfl) dX10_canBeGiven_25 ?_
    refine j_if_eq 35 C rfl dX10_canBeGiven_28 (by decide) (fun h => ?_) (fun h => ?_)
    · have hf := ifp h hf
      refine j_iconst C dX10_canBeGiven_35 ?_
      exact retZc hq isB_0 hf dX10_canBeGiven_36
    · have hf := ifn h hf
      refine j_iconst C dX10_canBeGiven_31 ?_
      refine j_goto 36 C dX10_canBeGiven_32 (by decide) ?_
      exact retZc hq isB_1 hf dX10_canBeGiven_36
  · have hf := ifn h hf
    refine j_iload_n 0 C dX10_canBeGiven_14 rfl ?_
    refine j_iload_n 2 C dX10_canBeGiven_15 rfl ?_
    refine j_icmp_ne 35 C rfl rfl dX10_canBeGiven_16 (by decide) (fun h => ?_) (fun h => ?_)
    · have hf := ifn h hf
      refine j_iconst C dX10_canBeGiven_35 ?_
      exact retZc hq isB_0 hf dX10_canBeGiven_36
    · have hf := ifp h hf
      refine j_aload_n 1 C dX10_canBeGiven_19 rfl ?_
      refine gC_0_3 C wt_330 dX10_canBeGiven_20 ?_
      refine j_iload_n 2 C dX10_canBeGiven_23 rfl ?_
      refine j_iload_n 3 C dX10_canBeGiven_24 rfl ?_
      obtain ⟨a3, s3, hc, hf⟩ := bd_s hf
      refine j_cVi (q0 := 1) (ci := 7) (T := TX7) (N := 4) [.int (iI v1), .int (iI v2)] [] C (c_X7_suits _ _ ad cI cZ _ _ _ _ _ hc) mf_X7_suits wt_440 wt_441 wt_442 rfl rfl rfl ⟨rfl, rfl, by decide, by decide⟩ rfl (Nat.le_of_ble_eq_true rfl) dX10_canBeGiven_25 ?_
      refine j_if_eq 35 C rfl dX10_canBeGiven_28 (by decide) (fun h => ?_) (fun h => ?_)
      · have hf := ifp h hf
        refine j_iconst C dX10_canBeGiven_35 ?_
        exact retZc hq isB_0 hf dX10_canBeGiven_36
      · have hf := ifn h hf
        refine j_iconst C dX10_canBeGiven_31 ?_
        refine j_goto 36 C dX10_canBeGiven_32 (by decide) ?_
        exact retZc hq isB_1 hf dX10_canBeGiven_36
theorem c_X10_canBeGiven (l : Launch) (D : va_G) (ad : Nat → Nat) (cI cZ : ClassId) (σ : St) (v1 : Int) (v2 : Int) (r : Int) (σ' : St) (hf : fX10_canBeGiven σ v1 v2 = some (r, σ')) : McI l yX10_canBeGiven cX10_canBeGiven 4 .boolean rm_X10_canBeGiven D (tyL cI cZ) (wC ad cI cZ) [.ref (ad 0), .int (iI v1), .int (iI v2)] σ r σ' := McI.mk mf_X10_canBeGiven.2.2.2.2.2 (Nat.le_of_ble_eq_true rfl) (fun Γ C hq => j_sub [0, 1, 2] rfl (tX10_canBeGiven_L0 C hq v1 v2 σ hf))
/-! TermLodgings.give(II)I -/
def rm_X10_give : Room := { frames := 4, cells := 0, slots := 0, locals := 95 }
set_option maxRecDepth 20000 in
theorem tX10_give_L50 {ad : Nat → Nat} {cI cZ : ClassId} {Γ : Cx} {r : Int} {σ' : St} (C : CX cI cZ rm_X10_give 4 Γ cX10_give RX10) (hq : RetI .int (wC ad cI cZ) Γ cX10_give r σ') (v1 : Int) (v2 : Int) (σ : St) (hf : fX10_give_L50 v1 v2 σ = some (r, σ')) : JJ (wC ad cI cZ) Γ σ 50 [(0, .ref (ad 0)), (1, .int (iI v1)), (2, .int (iI v2))] [] := by
  unfold fX10_give_L50 at hf
  refine j_aload_n 0 C dX10_give_50 rfl ?_
  refine gC_0_1 C wt_328 dX10_give_51 ?_
  refine gC_3_5 C wt_95 dX10_give_54 ?_
  refine j_iload_n 1 C dX10_give_57 rfl ?_
  obtain ⟨hI, hf⟩ := gI_s hf
  refine lC_9 C hI dX10_give_58 ?_
  refine j_istore_n [(3, .int (iI (σ.2 9 (ix v1)))), (0, .ref (ad 0)), (1, .int (iI v1)), (2, .int (iI v2))] C dX10_give_59 (by decide) rfl ?_
  refine j_aload_n 1 C dX10_give_60 rfl ?_
  refine gC_0_3 C wt_330 dX10_give_61 ?_
  refine j_iload_n 2 C dX10_give_64 rfl ?_
  obtain ⟨s1, hc, hf⟩ := bv_s hf
  refine j_cVv (q0 := 1) (ci := 7) (T := TX7) (N := 4) [.int (iI v1)] [] C (c_X7_leave _ _ ad cI cZ _ _ _ hc) mf_X7_leave wt_467 wt_468 wt_469 rfl rfl rfl ⟨rfl, rfl, by decide, by decide⟩ rfl (Nat.le_of_ble_eq_true rfl) dX10_give_65 ?_
  refine j_aload_n 1 C dX10_give_68 rfl ?_
  refine gC_0_3 C wt_330 dX10_give_69 ?_
  refine j_iload_n 2 C dX10_give_72 rfl ?_
  refine j_iload_n 3 C dX10_give_73 rfl ?_
  obtain ⟨s2, hc, hf⟩ := bv_s hf
  refine j_cVv (q0 := 1) (ci := 7) (T := TX7) (N := 4) [.int (iI v1), .int (iI v2)] [] C (c_X7_settle _ _ ad cI cZ _ _ _ _ hc) mf_X7_settle wt_475 wt_476 wt_477 rfl rfl rfl ⟨rfl, rfl, by decide, by decide⟩ rfl (Nat.le_of_ble_eq_true rfl) dX10_give_74 ?_
  refine j_iload_n 0 C dX10_give_77 rfl ?_
  exact retI hq hf dX10_give_78
set_option maxRecDepth 20000 in
theorem tX10_give_L0 {ad : Nat → Nat} {cI cZ : ClassId} {Γ : Cx} {r : Int} {σ' : St} (C : CX cI cZ rm_X10_give 4 Γ cX10_give RX10) (hq : RetI .int (wC ad cI cZ) Γ cX10_give r σ') (v1 : Int) (v2 : Int) (σ : St) (hf : fX10_give_L0 v1 v2 σ = some (r, σ')) : JJ (wC ad cI cZ) Γ σ 0 [(0, .ref (ad 0)), (1, .int (iI v1)), (2, .int (iI v2))] [] := by
  unfold fX10_give_L0 at hf
  refine j_aload_n 0 C dX10_give_0 rfl ?_
  refine gC_0_1 C wt_328 dX10_give_1 ?_
  refine j_iload_n 1 C dX10_give_4 rfl ?_
  obtain ⟨a3, s3, hc, hf⟩ := bd_s hf
  refine j_cVi (q0 := 3) (ci := 3) (T := TX3) (N := 8) [.int (iI v1)] [] C (c_X3_has _ _ ad cI cZ _ _ _ _ hc) mf_X3_has wt_385 wt_386 wt_387 rfl rfl rfl ⟨rfl, rfl, by decide, by decide⟩ rfl (Nat.le_of_ble_eq_true rfl) dX10_give_5 ?_
  refine j_if_ne 14 C rfl dX10_give_8 (by decide) (fun h => ?_) (fun h => ?_)
  · have hf := ifn h hf
    refine j_iload_n 2 C dX10_give_14 rfl ?_
    refine j_iconst C dX10_give_15 ?_
    refine j_icmp_eq 33 C rfl wl_m1 dX10_give_16 (by decide) (fun h => ?_) (fun h => ?_)
    · have hf := ifp h hf
      refine j_iload_n 2 C dX10_give_33 rfl ?_
      refine j_iconst C dX10_give_34 ?_
      refine j_icmp_eq 50 C rfl wl_m1 dX10_give_35 (by decide) (fun h => ?_) (fun h => ?_)
      · have hf := ifp h hf
        exact j_sub [0, 1, 2] rfl (tX10_give_L50 C hq _ _ _ hf)
      · have hf := ifn h hf
        refine j_aload_n 0 C dX10_give_38 rfl ?_
        refine j_iload_n 1 C dX10_give_39 rfl ?_
        refine j_iload_n 2 C dX10_give_40 rfl ?_
        obtain ⟨a4, s4, hc, hf⟩ := bd_s hf
        refine j_cVi (q0 := 0) (ci := 10) (T := TX10) (N := 10) [.int (iI v1), .int (iI v2)] [] C (c_X10_canBeGiven _ _ ad cI cZ _ _ _ _ _ hc) mf_X10_canBeGiven wt_431 wt_433 ws_1 rfl rfl rfl ⟨rfl, rfl, by decide, by decide⟩ rfl (Nat.le_of_ble_eq_true rfl) dX10_give_41 ?_
        refine j_if_ne 50 C rfl dX10_give_44 (by decide) (fun h => ?_) (fun h => ?_)
        · have hf := ifn h hf
          exact j_sub [0, 1, 2] rfl (tX10_give_L50 C hq _ _ _ hf)
        · have hf := ifp h hf
          refine j_bipush C dX10_give_47 bp_m3 ?_
          exact retI hq hf dX10_give_49
    · have hf := ifn h hf
      refine j_aload_n 0 C dX10_give_19 rfl ?_
      refine gC_0_0 C wt_327 dX10_give_20 ?_
      refine j_iload_n 2 C dX10_give_23 rfl ?_
      obtain ⟨a5, s5, hc, hf⟩ := bd_s hf
      refine j_cVi (q0 := 2) (ci := 5) (T := TX5) (N := 7) [.int (iI v2)] [] C (c_X5_has _ _ ad cI cZ _ _ _ _ hc) mf_X5_has wt_389 wt_390 wt_391 rfl rfl rfl ⟨rfl, rfl, by decide, by decide⟩ rfl (Nat.le_of_ble_eq_true rfl) dX10_give_24 ?_
      refine j_if_ne 33 C rfl dX10_give_27 (by decide) (fun h => ?_) (fun h => ?_)
      · have hf := ifn h hf
        refine j_iload_n 2 C dX10_give_33 rfl ?_
        refine j_iconst C dX10_give_34 ?_
        refine j_icmp_eq 50 C rfl wl_m1 dX10_give_35 (by decide) (fun h => ?_) (fun h => ?_)
        · have hf := ifp h hf
          exact j_sub [0, 1, 2] rfl (tX10_give_L50 C hq _ _ _ hf)
        · have hf := ifn h hf
          refine j_aload_n 0 C dX10_give_38 rfl ?_
          refine j_iload_n 1 C dX10_give_39 rfl ?_
          refine j_iload_n 2 C dX10_give_40 rfl ?_
          obtain ⟨a6, s6, hc, hf⟩ := bd_s hf
          refine j_cVi (q0 := 0) (ci := 10) (T := TX10) (N := 10) [.int (iI v1), .int (iI v2)] [] C (c_X10_canBeGiven _ _ ad cI cZ _ _ _ _ _ hc) mf_X10_canBeGiven wt_431 wt_433 ws_1 rfl rfl rfl ⟨rfl, rfl, by decide, by decide⟩ rfl (Nat.le_of_ble_eq_true rfl) dX10_give_41 ?_
          refine j_if_ne 50 C rfl dX10_give_44 (by decide) (fun h => ?_) (fun h => ?_)
          · have hf := ifn h hf
            exact j_sub [0, 1, 2] rfl (tX10_give_L50 C hq _ _ _ hf)
          · have hf := ifp h hf
            refine j_bipush C dX10_give_47 bp_m3 ?_
            exact retI hq hf dX10_give_49
      · have hf := ifp h hf
        refine j_bipush C dX10_give_30 bp_m2 ?_
        exact retI hq hf dX10_give_32
  · have hf := ifp h hf
    refine j_bipush C dX10_give_11 bp_m2 ?_
    exact retI hq hf dX10_give_13
theorem c_X10_give (l : Launch) (D : va_G) (ad : Nat → Nat) (cI cZ : ClassId) (σ : St) (v1 : Int) (v2 : Int) (r : Int) (σ' : St) (hf : fX10_give σ v1 v2 = some (r, σ')) : McI l yX10_give cX10_give 4 .int rm_X10_give D (tyL cI cZ) (wC ad cI cZ) [.ref (ad 0), .int (iI v1), .int (iI v2)] σ r σ' := McI.mk mf_X10_give.2.2.2.2.2 (Nat.le_of_ble_eq_true rfl) (fun Γ C hq => j_sub [0, 1, 2] rfl (tX10_give_L0 C hq v1 v2 σ hf))
/-! TermLodgings.type(I)I -/
def rm_X10_type : Room := { frames := 3, cells := 0, slots := 0, locals := 64 }
set_option maxRecDepth 20000 in
theorem tX10_type_L0 {ad : Nat → Nat} {cI cZ : ClassId} {Γ : Cx} {r : Int} {σ' : St} (C : CX cI cZ rm_X10_type 2 Γ cX10_type RX10) (hq : RetI .int (wC ad cI cZ) Γ cX10_type r σ') (v1 : Int) (σ : St) (hf : fX10_type_L0 v1 σ = some (r, σ')) : JJ (wC ad cI cZ) Γ σ 0 [(0, .ref (ad 0)), (1, .int (iI v1))] [] := by
  unfold fX10_type_L0 at hf
  refine j_iload_n 1 C dX10_type_0 rfl ?_
  refine j_bipush C dX10_type_1 bp_32 ?_
  refine j_bipush C dX10_type_3 bp_126 ?_
  obtain ⟨a1, s1, hc, hf⟩ := bd_s hf
  refine j_cSi [.int (iI v1), .int (iI 32), .int (iI 126)] [] C (c_X10_within _ _ ad cI cZ _ _ _ _ _ _ hc) mf_X10_within wt_362 wt_363 rfl ⟨rfl, rfl, by decide, by decide⟩ rfl (Nat.le_of_ble_eq_true rfl) dX10_type_5 ?_
  refine j_if_ne 14 C rfl dX10_type_8 (by decide) (fun h => ?_) (fun h => ?_)
  · have hf := ifn h hf
    refine j_aload_n 0 C dX10_type_14 rfl ?_
    refine gC_0_2 C wt_329 dX10_type_15 ?_
    refine gC_4_0 C wt_127 dX10_type_18 ?_
    refine j_bipush C dX10_type_21 bp_60 ?_
    refine j_icmp_ge 37 C rfl wl_60 dX10_type_23 (by decide) (fun h => ?_) (fun h => ?_)
    · have hf := ifp h hf
      refine j_bipush C dX10_type_37 bp_m4 ?_
      exact retI hq hf dX10_type_39
    · have hf := ifn h hf
      refine j_aload_n 0 C dX10_type_26 rfl ?_
      refine gC_0_2 C wt_329 dX10_type_27 ?_
      refine j_iload_n 1 C dX10_type_30 rfl ?_
      obtain ⟨a2, s2, hc, hf⟩ := bd_s hf
      refine j_cVi (q0 := 4) (ci := 6) (T := TX6) (N := 9) [.int (iI v1)] [] C (c_X6_add _ _ ad cI cZ _ _ _ _ hc) mf_X6_add wt_483 wt_484 wt_485 rfl rfl rfl ⟨rfl, rfl, by decide, by decide⟩ rfl (Nat.le_of_ble_eq_true rfl) dX10_type_31 ?_
      refine j_goto 39 C dX10_type_34 (by decide) ?_
      exact retI hq hf dX10_type_39
  · have hf := ifp h hf
    refine j_bipush C dX10_type_11 bp_m2 ?_
    exact retI hq hf dX10_type_13
theorem c_X10_type (l : Launch) (D : va_G) (ad : Nat → Nat) (cI cZ : ClassId) (σ : St) (v1 : Int) (r : Int) (σ' : St) (hf : fX10_type σ v1 = some (r, σ')) : McI l yX10_type cX10_type 2 .int rm_X10_type D (tyL cI cZ) (wC ad cI cZ) [.ref (ad 0), .int (iI v1)] σ r σ' := McI.mk mf_X10_type.2.2.2.2.2 (Nat.le_of_ble_eq_true rfl) (fun Γ C hq => j_sub [0, 1] rfl (tX10_type_L0 C hq v1 σ hf))
/-! TermLodgings.repeal()I -/
def rm_X10_repeal : Room := { frames := 1, cells := 0, slots := 0, locals := 20 }
set_option maxRecDepth 20000 in
theorem tX10_repeal_L0 {ad : Nat → Nat} {cI cZ : ClassId} {Γ : Cx} {r : Int} {σ' : St} (C : CX cI cZ rm_X10_repeal 2 Γ cX10_repeal RX10) (hq : RetI .int (wC ad cI cZ) Γ cX10_repeal r σ') (σ : St) (hf : fX10_repeal_L0 σ = some (r, σ')) : JJ (wC ad cI cZ) Γ σ 0 [(0, .ref (ad 0))] [] := by
  unfold fX10_repeal_L0 at hf
  refine j_aload_n 0 C dX10_repeal_0 rfl ?_
  refine gC_0_2 C wt_329 dX10_repeal_1 ?_
  refine gC_4_0 C wt_127 dX10_repeal_4 ?_
  refine j_istore_n [(1, .int (iI (σ.1 4))), (0, .ref (ad 0))] C dX10_repeal_7 (by decide) rfl ?_
  refine j_aload_n 1 C dX10_repeal_8 rfl ?_
  refine gC_0_2 C wt_329 dX10_repeal_9 ?_
  obtain ⟨s1, hc, hf⟩ := bv_s hf
  refine j_cVv (q0 := 4) (ci := 6) (T := TX6) (N := 9) [] [] C (c_X6_clear _ _ ad cI cZ _ _ hc) mf_X6_clear wt_512 wt_513 wt_514 rfl rfl rfl ⟨rfl, rfl, by decide, by decide⟩ rfl (Nat.le_of_ble_eq_true rfl) dX10_repeal_12 ?_
  refine j_iload_n 0 C dX10_repeal_15 rfl ?_
  exact retI hq hf dX10_repeal_16
theorem c_X10_repeal (l : Launch) (D : va_G) (ad : Nat → Nat) (cI cZ : ClassId) (σ : St) (r : Int) (σ' : St) (hf : fX10_repeal σ = some (r, σ')) : McI l yX10_repeal cX10_repeal 2 .int rm_X10_repeal D (tyL cI cZ) (wC ad cI cZ) [.ref (ad 0)] σ r σ' := McI.mk mf_X10_repeal.2.2.2.2.2 (Nat.le_of_ble_eq_true rfl) (fun Γ C hq => j_sub [0] rfl (tX10_repeal_L0 C hq  σ hf))
/-! TermLodgings.fault()I -/
def rm_X10_fault : Room := { frames := 1, cells := 0, slots := 0, locals := 20 }
set_option maxRecDepth 20000 in
theorem tX10_fault_L0 {ad : Nat → Nat} {cI cZ : ClassId} {Γ : Cx} {r : Int} {σ' : St} (C : CX cI cZ rm_X10_fault 1 Γ cX10_fault RX10) (hq : RetI .int (wC ad cI cZ) Γ cX10_fault r σ') (σ : St) (hf : fX10_fault_L0 σ = some (r, σ')) : JJ (wC ad cI cZ) Γ σ 0 [(0, .ref (ad 0))] [] := by
  unfold fX10_fault_L0 at hf
  refine j_aload_n 0 C dX10_fault_0 rfl ?_
  refine gC_0_2 C wt_329 dX10_fault_1 ?_
  obtain ⟨a1, s1, hc, hf⟩ := bd_s hf
  refine j_cVi (q0 := 4) (ci := 6) (T := TX6) (N := 9) [] [] C (c_X6_faultPlace _ _ ad cI cZ _ _ _ hc) mf_X6_faultPlace wt_520 wt_458 wt_459 rfl rfl rfl ⟨rfl, rfl, by decide, by decide⟩ rfl (Nat.le_of_ble_eq_true rfl) dX10_fault_4 ?_
  exact retI hq hf dX10_fault_7
theorem c_X10_fault (l : Launch) (D : va_G) (ad : Nat → Nat) (cI cZ : ClassId) (σ : St) (r : Int) (σ' : St) (hf : fX10_fault σ = some (r, σ')) : McI l yX10_fault cX10_fault 1 .int rm_X10_fault D (tyL cI cZ) (wC ad cI cZ) [.ref (ad 0)] σ r σ' := McI.mk mf_X10_fault.2.2.2.2.2 (Nat.le_of_ble_eq_true rfl) (fun Γ C hq => j_sub [0] rfl (tX10_fault_L0 C hq  σ hf))
/-! TermLodgings.may(II)I -/
def rm_X10_may : Room := { frames := 3, cells := 0, slots := 0, locals := 72 }
set_option maxRecDepth 20000 in
theorem tX10_may_L0 {ad : Nat → Nat} {cI cZ : ClassId} {Γ : Cx} {r : Int} {σ' : St} (C : CX cI cZ rm_X10_may 3 Γ cX10_may RX10) (hq : RetI .int (wC ad cI cZ) Γ cX10_may r σ') (v1 : Int) (v2 : Int) (σ : St) (hf : fX10_may_L0 v1 v2 σ = some (r, σ')) : JJ (wC ad cI cZ) Γ σ 0 [(0, .ref (ad 0)), (1, .int (iI v1)), (2, .int (iI v2))] [] := by
  unfold fX10_may_L0 at hf
  refine j_aload_n 0 C dX10_may_0 rfl ?_
  refine gC_0_1 C wt_328 dX10_may_1 ?_
  refine j_iload_n 1 C dX10_may_4 rfl ?_
  obtain ⟨a1, s1, hc, hf⟩ := bd_s hf
  refine j_cVi (q0 := 3) (ci := 3) (T := TX3) (N := 8) [.int (iI v1)] [] C (c_X3_has _ _ ad cI cZ _ _ _ _ hc) mf_X3_has wt_385 wt_386 wt_387 rfl rfl rfl ⟨rfl, rfl, by decide, by decide⟩ rfl (Nat.le_of_ble_eq_true rfl) dX10_may_5 ?_
  refine j_if_eq 22 C rfl dX10_may_8 (by decide) (fun h => ?_) (fun h => ?_)
  · have hf := ifp h hf
    refine j_bipush C dX10_may_22 bp_m2 ?_
    exact retI hq hf dX10_may_24
  · have hf := ifn h hf
    refine j_aload_n 0 C dX10_may_11 rfl ?_
    refine gC_0_0 C wt_327 dX10_may_12 ?_
    refine j_iload_n 2 C dX10_may_15 rfl ?_
    obtain ⟨a2, s2, hc, hf⟩ := bd_s hf
    refine j_cVi (q0 := 2) (ci := 5) (T := TX5) (N := 7) [.int (iI v2)] [] C (c_X5_has _ _ ad cI cZ _ _ _ _ hc) mf_X5_has wt_389 wt_390 wt_391 rfl rfl rfl ⟨rfl, rfl, by decide, by decide⟩ rfl (Nat.le_of_ble_eq_true rfl) dX10_may_16 ?_
    refine j_if_ne 25 C rfl dX10_may_19 (by decide) (fun h => ?_) (fun h => ?_)
    · have hf := ifn h hf
      refine j_aload_n 0 C dX10_may_25 rfl ?_
      refine gC_0_3 C wt_330 dX10_may_26 ?_
      refine j_iload_n 1 C dX10_may_29 rfl ?_
      refine j_iload_n 2 C dX10_may_30 rfl ?_
      obtain ⟨a3, s3, hc, hf⟩ := bd_s hf
      refine j_cVi (q0 := 1) (ci := 7) (T := TX7) (N := 4) [.int (iI v1), .int (iI v2)] [] C (c_X7_suits _ _ ad cI cZ _ _ _ _ _ hc) mf_X7_suits wt_440 wt_441 wt_442 rfl rfl rfl ⟨rfl, rfl, by decide, by decide⟩ rfl (Nat.le_of_ble_eq_true rfl) dX10_may_31 ?_
      refine j_if_eq 41 C rfl dX10_may_34 (by decide) (fun h => ?_) (fun h => ?_)
      · have hf := ifp h hf
        refine j_iconst C dX10_may_41 ?_
        exact retI hq hf dX10_may_42
      · have hf := ifn h hf
        refine j_iconst C dX10_may_37 ?_
        refine j_goto 42 C dX10_may_38 (by decide) ?_
        exact retI hq hf dX10_may_42
    · have hf := ifp h hf
      refine j_bipush C dX10_may_22 bp_m2 ?_
      exact retI hq hf dX10_may_24
theorem c_X10_may (l : Launch) (D : va_G) (ad : Nat → Nat) (cI cZ : ClassId) (σ : St) (v1 : Int) (v2 : Int) (r : Int) (σ' : St) (hf : fX10_may σ v1 v2 = some (r, σ')) : McI l yX10_may cX10_may 3 .int rm_X10_may D (tyL cI cZ) (wC ad cI cZ) [.ref (ad 0), .int (iI v1), .int (iI v2)] σ r σ' := McI.mk mf_X10_may.2.2.2.2.2 (Nat.le_of_ble_eq_true rfl) (fun Γ C hq => j_sub [0, 1, 2] rfl (tX10_may_L0 C hq v1 v2 σ hf))
/-! TermLodgings.wrong()I -/
def rm_X10_wrong : Room := { frames := 3, cells := 0, slots := 0, locals := 72 }
set_option maxRecDepth 20000 in
theorem tX10_wrong_B4 {ad : Nat → Nat} {cI cZ : ClassId} {Γ : Cx} {r : Int} {σ' : St} (C : CX cI cZ rm_X10_wrong 4 Γ cX10_wrong RX10) (hq : RetI .int (wC ad cI cZ) Γ cX10_wrong r σ') {k4 : Int → Int → St → Option (Int × St)} (hk4 : ∀ (v1 : Int) (v2 : Int) (σ : St), k4 v1 v2 σ = some (r, σ') → JJ (wC ad cI cZ) Γ σ 4 [(0, .ref (ad 0)), (1, .int (iI v1)), (2, .int (iI v2))] []) (v1 : Int) (v2 : Int) (σ : St) (hf : fX10_wrong_B4 k4 v1 v2 σ = some (r, σ')) : JJ (wC ad cI cZ) Γ σ 4 [(0, .ref (ad 0)), (1, .int (iI v1)), (2, .int (iI v2))] [] := by
  unfold fX10_wrong_B4 at hf
  refine j_iload_n 2 C dX10_wrong_4 rfl ?_
  refine j_aload_n 0 C dX10_wrong_5 rfl ?_
  refine gC_0_1 C wt_328 dX10_wrong_6 ?_
  refine gC_3_0 C wt_84 dX10_wrong_9 ?_
  refine j_icmp_ge 53 C rfl rfl dX10_wrong_12 (by decide) (fun h => ?_) (fun h => ?_)
  · have hf := ifp h hf
    refine j_iload_n 1 C dX10_wrong_53 rfl ?_
    exact retI hq hf dX10_wrong_54
  · have hf := ifn h hf
    refine j_aload_n 0 C dX10_wrong_15 rfl ?_
    refine gC_0_1 C wt_328 dX10_wrong_16 ?_
    refine j_iload_n 2 C dX10_wrong_19 rfl ?_
    obtain ⟨a1, s1, hc, hf⟩ := bd_s hf
    refine j_cVi (q0 := 3) (ci := 3) (T := TX3) (N := 8) [.int (iI v2)] [] C (c_X3_lodgingOf _ _ ad cI cZ _ _ _ _ hc) mf_X3_lodgingOf wt_529 wt_472 wt_473 rfl rfl rfl ⟨rfl, rfl, by decide, by decide⟩ rfl (Nat.le_of_ble_eq_true rfl) dX10_wrong_20 ?_
    refine j_istore_n [(3, .int (iI a1)), (0, .ref (ad 0)), (1, .int (iI v1)), (2, .int (iI v2))] C dX10_wrong_23 (by decide) rfl ?_
    refine j_iload_n 0 C dX10_wrong_24 rfl ?_
    refine j_iconst C dX10_wrong_25 ?_
    refine j_icmp_eq 47 C rfl wl_m1 dX10_wrong_26 (by decide) (fun h => ?_) (fun h => ?_)
    · have hf := ifp h hf
      refine j_iinc 3 [(2, .int (iI (v2 + 1))), (3, .int (iI a1)), (0, .ref (ad 0)), (1, .int (iI v1))] C dX10_wrong_47 (by decide) rfl rfl ?_
      refine j_goto 4 C dX10_wrong_50 (by decide) ?_
      exact j_sub [2, 3, 0] rfl (hk4 _ _ _ hf)
    · have hf := ifn h hf
      refine j_aload_n 1 C dX10_wrong_29 rfl ?_
      refine gC_0_3 C wt_330 dX10_wrong_30 ?_
      refine j_iload_n 3 C dX10_wrong_33 rfl ?_
      refine j_iload_n 0 C dX10_wrong_34 rfl ?_
      obtain ⟨a2, s2, hc, hf⟩ := bd_s hf
      refine j_cVi (q0 := 1) (ci := 7) (T := TX7) (N := 4) [.int (iI v2), .int (iI a1)] [] C (c_X7_suits _ _ ad cI cZ _ _ _ _ _ hc) mf_X7_suits wt_440 wt_441 wt_442 rfl rfl rfl ⟨rfl, rfl, by decide, by decide⟩ rfl (Nat.le_of_ble_eq_true rfl) dX10_wrong_35 ?_
      refine j_if_ne 47 C rfl dX10_wrong_38 (by decide) (fun h => ?_) (fun h => ?_)
      · have hf := ifn h hf
        refine j_iinc 3 [(2, .int (iI (v2 + 1))), (3, .int (iI a1)), (0, .ref (ad 0)), (1, .int (iI v1))] C dX10_wrong_47 (by decide) rfl rfl ?_
        refine j_goto 4 C dX10_wrong_50 (by decide) ?_
        exact j_sub [2, 3, 0] rfl (hk4 _ _ _ hf)
      · have hf := ifp h hf
        refine j_iload_n 2 C dX10_wrong_41 rfl ?_
        refine j_iconst C dX10_wrong_42 ?_
        refine j_iload_n 3 C dX10_wrong_43 rfl ?_
        refine j_ishl C dX10_wrong_44 ?_
        refine j_ior C dX10_wrong_45 ?_
        refine j_istore_n [(1, .int (iI (bOr v1 (bShl 1 v2)))), (3, .int (iI a1)), (0, .ref (ad 0)), (2, .int (iI v2))] C dX10_wrong_46 (by decide) rfl ?_
        refine j_iinc 3 [(2, .int (iI (v2 + 1))), (1, .int (iI (bOr v1 (bShl 1 v2)))), (3, .int (iI a1)), (0, .ref (ad 0))] C dX10_wrong_47 (by decide) rfl rfl ?_
        refine j_goto 4 C dX10_wrong_50 (by decide) ?_
        exact j_sub [3, 1, 0] rfl (hk4 _ _ _ hf)
theorem tX10_wrong_L4 {ad : Nat → Nat} {cI cZ : ClassId} {Γ : Cx} {r : Int} {σ' : St} (C : CX cI cZ rm_X10_wrong 4 Γ cX10_wrong RX10) (hq : RetI .int (wC ad cI cZ) Γ cX10_wrong r σ') (n : Nat) : ∀ (v1 v2 : Int), ∀ (σ : St), fX10_wrong_L4 n v1 v2 σ = some (r, σ') → JJ (wC ad cI cZ) Γ σ 4 [(0, .ref (ad 0)), (1, .int (iI v1)), (2, .int (iI v2))] [] := by
  induction n with
  | zero => intro _ _ _ hf; cases hf
  | succ n ih => intro v1 v2 σ hf; exact tX10_wrong_B4 C hq ih v1 v2 σ hf
set_option maxRecDepth 20000 in
theorem tX10_wrong_L0 {ad : Nat → Nat} {cI cZ : ClassId} {Γ : Cx} {r : Int} {σ' : St} (C : CX cI cZ rm_X10_wrong 4 Γ cX10_wrong RX10) (hq : RetI .int (wC ad cI cZ) Γ cX10_wrong r σ') (σ : St) (hf : fX10_wrong_L0 σ = some (r, σ')) : JJ (wC ad cI cZ) Γ σ 0 [(0, .ref (ad 0))] [] := by
  unfold fX10_wrong_L0 at hf
  refine j_iconst C dX10_wrong_0 ?_
  refine j_istore_n [(1, .int (iI 0)), (0, .ref (ad 0))] C dX10_wrong_1 (by decide) rfl ?_
  refine j_iconst C dX10_wrong_2 ?_
  refine j_istore_n [(2, .int (iI 0)), (1, .int (iI 0)), (0, .ref (ad 0))] C dX10_wrong_3 (by decide) rfl ?_
  exact j_sub [2, 1, 0] rfl (tX10_wrong_L4 C hq 1000 _ _ _ hf)
theorem c_X10_wrong (l : Launch) (D : va_G) (ad : Nat → Nat) (cI cZ : ClassId) (σ : St) (r : Int) (σ' : St) (hf : fX10_wrong σ = some (r, σ')) : McI l yX10_wrong cX10_wrong 4 .int rm_X10_wrong D (tyL cI cZ) (wC ad cI cZ) [.ref (ad 0)] σ r σ' := McI.mk mf_X10_wrong.2.2.2.2.2 (Nat.le_of_ble_eq_true rfl) (fun Γ C hq => j_sub [0] rfl (tX10_wrong_L0 C hq  σ hf))
/-! TermLodgings.draw(I)I -/
def rm_X10_draw : Room := { frames := 4, cells := 0, slots := 0, locals := 89 }
set_option maxRecDepth 20000 in
theorem tX10_draw_L0 {ad : Nat → Nat} {cI cZ : ClassId} {Γ : Cx} {r : Int} {σ' : St} (C : CX cI cZ rm_X10_draw 2 Γ cX10_draw RX10) (hq : RetI .int (wC ad cI cZ) Γ cX10_draw r σ') (v1 : Int) (σ : St) (hf : fX10_draw_L0 v1 σ = some (r, σ')) : JJ (wC ad cI cZ) Γ σ 0 [(0, .ref (ad 0)), (1, .int (iI v1))] [] := by
  unfold fX10_draw_L0 at hf
  refine j_aload_n 0 C dX10_draw_0 rfl ?_
  refine gC_0_4 C wt_331 dX10_draw_1 ?_
  refine j_iload_n 1 C dX10_draw_4 rfl ?_
  obtain ⟨s1, hc, hf⟩ := bv_s hf
  refine j_cVv (q0 := 5) (ci := 9) (T := TX9) (N := 2) [.int (iI v1)] [] C (c_X9_shuffle _ _ ad cI cZ _ _ _ hc) mf_X9_shuffle wt_534 wt_535 wt_536 rfl rfl rfl ⟨rfl, rfl, by decide, by decide⟩ rfl (Nat.le_of_ble_eq_true rfl) dX10_draw_5 ?_
  refine j_aload_n 0 C dX10_draw_8 rfl ?_
  refine gC_0_4 C wt_331 dX10_draw_9 ?_
  refine j_iconst C dX10_draw_12 ?_
  obtain ⟨a2, s2, hc, hf⟩ := bd_s hf
  refine j_cVi (q0 := 5) (ci := 9) (T := TX9) (N := 2) [.int (iI 0)] [] C (c_X9_at _ _ ad cI cZ _ _ _ _ hc) mf_X9_at wt_548 wt_549 wt_550 rfl rfl rfl ⟨rfl, rfl, by decide, by decide⟩ rfl (Nat.le_of_ble_eq_true rfl) dX10_draw_13 ?_
  exact retI hq hf dX10_draw_16
theorem c_X10_draw (l : Launch) (D : va_G) (ad : Nat → Nat) (cI cZ : ClassId) (σ : St) (v1 : Int) (r : Int) (σ' : St) (hf : fX10_draw σ v1 = some (r, σ')) : McI l yX10_draw cX10_draw 2 .int rm_X10_draw D (tyL cI cZ) (wC ad cI cZ) [.ref (ad 0), .int (iI v1)] σ r σ' := McI.mk mf_X10_draw.2.2.2.2.2 (Nat.le_of_ble_eq_true rfl) (fun Γ C hq => j_sub [0, 1] rfl (tX10_draw_L0 C hq v1 σ hf))
