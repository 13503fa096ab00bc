/-! TermLodgingsModel.draw(I)I -/
def rm_X11_draw : Room := { frames := 0, cells := 0, slots := 0, locals := 0 }
set_option maxRecDepth 20000 in
theorem tX11_draw_B32 {ad : Nat → Nat} {cI cZ : ClassId} {Γ : Cx} {r : Int} {σ' : St} (C : CX cI cZ rm_X11_draw 6 Γ cX11_draw RX11) (hq : RetI .int (wR ad cI cZ) Γ cX11_draw r σ') {k32 : Int → Int → St → Option (Int × St)} (hk32 : ∀ (v2 : Int) (v3 : Int) (σ : St), k32 v2 v3 σ = some (r, σ') → JJ (wR ad cI cZ) Γ σ 32 [(0, .ref (ad 0)), (2, .int (iI v2)), (3, .int (iI v3))] []) (v2 : Int) (v3 : Int) (σ : St) (hf : fX11_draw_B32 k32 v2 v3 σ = some (r, σ')) : JJ (wR ad cI cZ) Γ σ 32 [(0, .ref (ad 0)), (2, .int (iI v2)), (3, .int (iI v3))] [] := by
  unfold fX11_draw_B32 at hf
  refine j_iload_n 2 C dX11_draw_32 rfl ?_
  refine j_if_le 91 C rfl dX11_draw_33 (by decide) (fun h => ?_) (fun h => ?_)
  · have hf := ifp h hf
    refine j_aload_n 0 C dX11_draw_91 rfl ?_
    refine gR_0_5 C wt_839 dX11_draw_92 ?_
    refine j_if_ne 102 C rfl dX11_draw_95 (by decide) (fun h => ?_) (fun h => ?_)
    · have hf := ifn h hf
      refine j_aload_n 0 C dX11_draw_102 rfl ?_
      refine gR_0_13 C wt_847 dX11_draw_103 ?_
      refine j_iconst C dX11_draw_106 ?_
      obtain ⟨hI, hf⟩ := gI_s hf
      refine lR_10 C hI dX11_draw_107 ?_
      exact retI hq hf dX11_draw_108
    · have hf := ifp h hf
      refine j_iconst C dX11_draw_98 ?_
      refine j_goto 108 C dX11_draw_99 (by decide) ?_
      exact retI hq hf dX11_draw_108
  · have hf := ifn h hf
    refine j_ldc (n := 1103515245) C wt_1030 (by decide +kernel) dX11_draw_36 ?_
    refine j_iload_n 1 C dX11_draw_38 rfl ?_
    refine j_imul C dX11_draw_39 ?_
    refine j_sipush C dX11_draw_40 sp_12345 ?_
    refine j_iadd C dX11_draw_43 ?_
    refine j_istore_n [(2, .int (iI ((1103515245 * v2) + 12345))), (0, .ref (ad 0)), (3, .int (iI v3))] C dX11_draw_44 (by decide) rfl ?_
    refine j_iload_n 0 C dX11_draw_45 rfl ?_
    refine j_bipush C dX11_draw_46 bp_16 ?_
    refine j_iushr C dX11_draw_48 ?_
    refine j_iload_n 2 C dX11_draw_49 rfl ?_
    refine j_iconst C dX11_draw_50 ?_
    refine j_iadd C dX11_draw_51 ?_
    obtain ⟨h0, hf⟩ := g0_s hf
    refine j_irem C h0 dX11_draw_52 ?_
    refine j_istore [(4, .int (iI (iRem (bUshr ((1103515245 * v2) + 12345) 16) (v3 + 1)))), (2, .int (iI ((1103515245 * v2) + 12345))), (0, .ref (ad 0)), (3, .int (iI v3))] C dX11_draw_53 (by decide) rfl ?_
    refine j_aload_n 2 C dX11_draw_55 rfl ?_
    refine gR_0_13 C wt_847 dX11_draw_56 ?_
    refine j_iload_n 3 C dX11_draw_59 rfl ?_
    obtain ⟨hI, hf⟩ := gI_s hf
    refine lR_10 C hI dX11_draw_60 ?_
    refine j_istore [(5, .int (iI (σ.2 10 (ix v3)))), (4, .int (iI (iRem (bUshr ((1103515245 * v2) + 12345) 16) (v3 + 1)))), (2, .int (iI ((1103515245 * v2) + 12345))), (0, .ref (ad 0)), (3, .int (iI v3))] C dX11_draw_61 (by decide) rfl ?_
    refine j_aload_n 3 C dX11_draw_63 rfl ?_
    refine gR_0_13 C wt_847 dX11_draw_64 ?_
    refine j_iload_n 4 C dX11_draw_67 rfl ?_
    refine j_aload_n 3 C dX11_draw_68 rfl ?_
    refine gR_0_13 C wt_847 dX11_draw_69 ?_
    refine j_iload 1 C dX11_draw_72 rfl ?_
    obtain ⟨hI, hf⟩ := gI_s hf
    refine lR_10 C hI dX11_draw_74 ?_
    obtain ⟨hI, hf⟩ := gI_s hf
    refine tR_10 C hI dX11_draw_75 ?_
    refine j_aload_n 3 C dX11_draw_76 rfl ?_
    refine gR_0_13 C wt_847 dX11_draw_77 ?_
    refine j_iload 1 C dX11_draw_80 rfl ?_
    refine j_iload 0 C dX11_draw_82 rfl ?_
    obtain ⟨hI, hf⟩ := gI_s hf
    refine tR_10 C hI dX11_draw_84 ?_
    refine j_iinc 4 [(3, .int (iI (v3 + (-1)))), (5, .int (iI (σ.2 10 (ix v3)))), (4, .int (iI (iRem (bUshr ((1103515245 * v2) + 12345) 16) (v3 + 1)))), (2, .int (iI ((1103515245 * v2) + 12345))), (0, .ref (ad 0))] C dX11_draw_85 (by decide) rfl rfl ?_
    refine j_goto 32 C dX11_draw_88 (by decide) ?_
    exact j_sub [4, 3, 0] rfl (hk32 _ _ _ hf)
theorem tX11_draw_L32 {ad : Nat → Nat} {cI cZ : ClassId} {Γ : Cx} {r : Int} {σ' : St} (C : CX cI cZ rm_X11_draw 6 Γ cX11_draw RX11) (hq : RetI .int (wR ad cI cZ) Γ cX11_draw r σ') (n : Nat) : ∀ (v2 v3 : Int), ∀ (σ : St), fX11_draw_L32 n v2 v3 σ = some (r, σ') → JJ (wR ad cI cZ) Γ σ 32 [(0, .ref (ad 0)), (2, .int (iI v2)), (3, .int (iI v3))] [] := by
  induction n with
  | zero => intro _ _ _ hf; cases hf
  | succ n ih => intro v2 v3 σ hf; exact tX11_draw_B32 C hq ih v2 v3 σ hf
set_option maxRecDepth 20000 in
theorem tX11_draw_B4 {ad : Nat → Nat} {cI cZ : ClassId} {Γ : Cx} {r : Int} {σ' : St} (C : CX cI cZ rm_X11_draw 6 Γ cX11_draw RX11) (hq : RetI .int (wR ad cI cZ) Γ cX11_draw r σ') {k4 : Int → Int → St → Option (Int × St)} (hk4 : ∀ (v2 : Int) (v3 : Int) (σ : St), k4 v2 v3 σ = some (r, σ') → JJ (wR ad cI cZ) Γ σ 4 [(0, .ref (ad 0)), (2, .int (iI v2)), (3, .int (iI v3))] []) (v2 : Int) (v3 : Int) (σ : St) (hf : fX11_draw_B4 k4 v2 v3 σ = some (r, σ')) : JJ (wR ad cI cZ) Γ σ 4 [(0, .ref (ad 0)), (2, .int (iI v2)), (3, .int (iI v3))] [] := by
  unfold fX11_draw_B4 at hf
  refine j_iload_n 2 C dX11_draw_4 rfl ?_
  refine j_aload_n 0 C dX11_draw_5 rfl ?_
  refine gR_0_5 C wt_839 dX11_draw_6 ?_
  refine j_icmp_ge 25 C rfl rfl dX11_draw_9 (by decide) (fun h => ?_) (fun h => ?_)
  · have hf := ifp h hf
    refine j_aload_n 0 C dX11_draw_25 rfl ?_
    refine gR_0_5 C wt_839 dX11_draw_26 ?_
    refine j_iconst C dX11_draw_29 ?_
    refine j_isub C dX11_draw_30 ?_
    refine j_istore_n [(3, .int (iI ((σ.1 2) - 1))), (0, .ref (ad 0)), (2, .int (iI v2))] C dX11_draw_31 (by decide) rfl ?_
    exact j_sub [1, 2, 0] rfl (tX11_draw_L32 C hq 1000 _ _ _ hf)
  · have hf := ifn h hf
    refine j_aload_n 0 C dX11_draw_12 rfl ?_
    refine gR_0_13 C wt_847 dX11_draw_13 ?_
    refine j_iload_n 2 C dX11_draw_16 rfl ?_
    refine j_iload_n 2 C dX11_draw_17 rfl ?_
    obtain ⟨hI, hf⟩ := gI_s hf
    refine tR_10 C hI dX11_draw_18 ?_
    refine j_iinc 2 [(3, .int (iI (v3 + 1))), (0, .ref (ad 0)), (2, .int (iI v2))] C dX11_draw_19 (by decide) rfl rfl ?_
    refine j_goto 4 C dX11_draw_22 (by decide) ?_
    exact j_sub [1, 2, 0] rfl (hk4 _ _ _ hf)
theorem tX11_draw_L4 {ad : Nat → Nat} {cI cZ : ClassId} {Γ : Cx} {r : Int} {σ' : St} (C : CX cI cZ rm_X11_draw 6 Γ cX11_draw RX11) (hq : RetI .int (wR ad cI cZ) Γ cX11_draw r σ') (n : Nat) : ∀ (v2 v3 : Int), ∀ (σ : St), fX11_draw_L4 n v2 v3 σ = some (r, σ') → JJ (wR ad cI cZ) Γ σ 4 [(0, .ref (ad 0)), (2, .int (iI v2)), (3, .int (iI v3))] [] := by
  induction n with
  | zero => intro _ _ _ hf; cases hf
  | succ n ih => intro v2 v3 σ hf; exact tX11_draw_B4 C hq ih v2 v3 σ hf
set_option maxRecDepth 20000 in
theorem tX11_draw_L0 {ad : Nat → Nat} {cI cZ : ClassId} {Γ : Cx} {r : Int} {σ' : St} (C : CX cI cZ rm_X11_draw 6 Γ cX11_draw RX11) (hq : RetI .int (wR ad cI cZ) Γ cX11_draw r σ') (v1 : Int) (σ : St) (hf : fX11_draw_L0 v1 σ = some (r, σ')) : JJ (wR ad cI cZ) Γ σ 0 [(0, .ref (ad 0)), (1, .int (iI v1))] [] := by
  unfold fX11_draw_L0 at hf
  refine j_iload_n 1 C dX11_draw_0 rfl ?_
  refine j_istore_n [(2, .int (iI v1)), (0, .ref (ad 0)), (1, .int (iI v1))] C dX11_draw_1 (by decide) rfl ?_
  refine j_iconst C dX11_draw_2 ?_
  refine j_istore_n [(3, .int (iI 0)), (2, .int (iI v1)), (0, .ref (ad 0)), (1, .int (iI v1))] C dX11_draw_3 (by decide) rfl ?_
  exact j_sub [2, 1, 0] rfl (tX11_draw_L4 C hq 1000 _ _ _ hf)
theorem c_X11_draw (l : Launch) (D : va_G) (ad : Nat → Nat) (cI cZ : ClassId) (σ : St) (v1 : Int) (r : Int) (σ' : St) (hf : fX11_draw σ v1 = some (r, σ')) : McI l yX11_draw cX11_draw 6 .int rm_X11_draw D (tyL cI cZ) (wR ad cI cZ) [.ref (ad 0), .int (iI v1)] σ r σ' := McI.mk mf_X11_draw.2.2.2.2.2 (Nat.le_of_ble_eq_true rfl) (fun Γ C hq => j_sub [0, 1] rfl (tX11_draw_L0 C hq v1 σ hf))
/-! TermLodgingsModel.change(II)I -/
def rm_X11_change : Room := { frames := 2, cells := 0, slots := 0, locals := 46 }
set_option maxRecDepth 20000 in
theorem tX11_change_L0 {ad : Nat → Nat} {cI cZ : ClassId} {Γ : Cx} {r : Int} {σ' : St} (C : CX cI cZ rm_X11_change 4 Γ cX11_change RX11) (hq : RetI .int (wR ad cI cZ) Γ cX11_change r σ') (v1 : Int) (v2 : Int) (σ : St) (hf : fX11_change_L0 v1 v2 σ = some (r, σ')) : JJ (wR ad cI cZ) Γ σ 0 [(0, .ref (ad 0)), (1, .int (iI v1)), (2, .int (iI v2))] [] := by
  unfold fX11_change_L0 at hf
  refine j_aload_n 0 C dX11_change_0 rfl ?_
  refine j_iload_n 1 C dX11_change_1 rfl ?_
  obtain ⟨a1, s1, hc, hf⟩ := bd_s hf
  refine j_cVi (q0 := 0) (ci := 11) (T := TX11) (N := 32) [.int (iI v1)] [] C (c_X11_isOne _ _ ad cI cZ _ _ _ _ hc) mf_X11_isOne wt_951 wt_953 ws_31 rfl rfl rfl ⟨rfl, rfl, by decide, by decide⟩ rfl (Nat.le_of_ble_eq_true rfl) dX11_change_2 ?_
  refine j_if_eq 16 C rfl dX11_change_5 (by decide) (fun h => ?_) (fun h => ?_)
  · have hf := ifp h hf
    refine j_bipush C dX11_change_16 bp_m2 ?_
    exact retI hq hf dX11_change_18
  · have hf := ifn h hf
    refine j_aload_n 0 C dX11_change_8 rfl ?_
    refine j_iload_n 2 C dX11_change_9 rfl ?_
    obtain ⟨a2, s2, hc, hf⟩ := bd_s hf
    refine j_cVi (q0 := 0) (ci := 11) (T := TX11) (N := 32) [.int (iI v2)] [] C (c_X11_isOne _ _ ad cI cZ _ _ _ _ hc) mf_X11_isOne wt_951 wt_953 ws_31 rfl rfl rfl ⟨rfl, rfl, by decide, by decide⟩ rfl (Nat.le_of_ble_eq_true rfl) dX11_change_10 ?_
    refine j_if_ne 19 C rfl dX11_change_13 (by decide) (fun h => ?_) (fun h => ?_)
    · have hf := ifn h hf
      refine j_aload_n 0 C dX11_change_19 rfl ?_
      refine gR_0_13 C wt_847 dX11_change_20 ?_
      refine j_iload_n 1 C dX11_change_23 rfl ?_
      obtain ⟨hI, hf⟩ := gI_s hf
      refine lR_10 C hI dX11_change_24 ?_
      refine j_istore_n [(3, .int (iI (s2.2 10 (ix v1)))), (0, .ref (ad 0)), (1, .int (iI v1)), (2, .int (iI v2))] C dX11_change_25 (by decide) rfl ?_
      refine j_aload_n 1 C dX11_change_26 rfl ?_
      refine gR_0_13 C wt_847 dX11_change_27 ?_
      refine j_iload_n 2 C dX11_change_30 rfl ?_
      refine j_aload_n 1 C dX11_change_31 rfl ?_
      refine gR_0_13 C wt_847 dX11_change_32 ?_
      refine j_iload_n 3 C dX11_change_35 rfl ?_
      obtain ⟨hI, hf⟩ := gI_s hf
      refine lR_10 C hI dX11_change_36 ?_
      obtain ⟨hI, hf⟩ := gI_s hf
      refine tR_10 C hI dX11_change_37 ?_
      refine j_aload_n 1 C dX11_change_38 rfl ?_
      refine gR_0_13 C wt_847 dX11_change_39 ?_
      refine j_iload_n 3 C dX11_change_42 rfl ?_
      refine j_iload_n 0 C dX11_change_43 rfl ?_
      obtain ⟨hI, hf⟩ := gI_s hf
      refine tR_10 C hI dX11_change_44 ?_
      refine j_iconst C dX11_change_45 ?_
      exact retI hq hf dX11_change_46
    · have hf := ifp h hf
      refine j_bipush C dX11_change_16 bp_m2 ?_
      exact retI hq hf dX11_change_18
theorem c_X11_change (l : Launch) (D : va_G) (ad : Nat → Nat) (cI cZ : ClassId) (σ : St) (v1 : Int) (v2 : Int) (r : Int) (σ' : St) (hf : fX11_change σ v1 v2 = some (r, σ')) : McI l yX11_change cX11_change 4 .int rm_X11_change D (tyL cI cZ) (wR ad cI cZ) [.ref (ad 0), .int (iI v1), .int (iI v2)] σ r σ' := McI.mk mf_X11_change.2.2.2.2.2 (Nat.le_of_ble_eq_true rfl) (fun Γ C hq => j_sub [0, 1, 2] rfl (tX11_change_L0 C hq v1 v2 σ hf))
/-! TermLodgingsModel.turn(I)I -/
def rm_X11_turn : Room := { frames := 2, cells := 0, slots := 0, locals := 46 }
set_option maxRecDepth 20000 in
theorem tX11_turn_L0 {ad : Nat → Nat} {cI cZ : ClassId} {Γ : Cx} {r : Int} {σ' : St} (C : CX cI cZ rm_X11_turn 2 Γ cX11_turn RX11) (hq : RetI .int (wR ad cI cZ) Γ cX11_turn r σ') (v1 : Int) (σ : St) (hf : fX11_turn_L0 v1 σ = some (r, σ')) : JJ (wR ad cI cZ) Γ σ 0 [(0, .ref (ad 0)), (1, .int (iI v1))] [] := by
  unfold fX11_turn_L0 at hf
  refine j_aload_n 0 C dX11_turn_0 rfl ?_
  refine j_iload_n 1 C dX11_turn_1 rfl ?_
  obtain ⟨a1, s1, hc, hf⟩ := bd_s hf
  refine j_cVi (q0 := 0) (ci := 11) (T := TX11) (N := 32) [.int (iI v1)] [] C (c_X11_isOne _ _ ad cI cZ _ _ _ _ hc) mf_X11_isOne wt_951 wt_953 ws_31 rfl rfl rfl ⟨rfl, rfl, by decide, by decide⟩ rfl (Nat.le_of_ble_eq_true rfl) dX11_turn_2 ?_
  refine j_if_eq 17 C rfl dX11_turn_5 (by decide) (fun h => ?_) (fun h => ?_)
  · have hf := ifp h hf
    refine j_bipush C dX11_turn_17 bp_m2 ?_
    exact retI hq hf dX11_turn_19
  · have hf := ifn h hf
    refine j_aload_n 0 C dX11_turn_8 rfl ?_
    refine gR_0_13 C wt_847 dX11_turn_9 ?_
    refine j_iload_n 1 C dX11_turn_12 rfl ?_
    obtain ⟨hI, hf⟩ := gI_s hf
    refine lR_10 C hI dX11_turn_13 ?_
    refine j_goto 19 C dX11_turn_14 (by decide) ?_
    exact retI hq hf dX11_turn_19
theorem c_X11_turn (l : Launch) (D : va_G) (ad : Nat → Nat) (cI cZ : ClassId) (σ : St) (v1 : Int) (r : Int) (σ' : St) (hf : fX11_turn σ v1 = some (r, σ')) : McI l yX11_turn cX11_turn 2 .int rm_X11_turn D (tyL cI cZ) (wR ad cI cZ) [.ref (ad 0), .int (iI v1)] σ r σ' := McI.mk mf_X11_turn.2.2.2.2.2 (Nat.le_of_ble_eq_true rfl) (fun Γ C hq => j_sub [0, 1] rfl (tX11_turn_L0 C hq v1 σ hf))
/-! TermLodgingsModel.housed()I -/
def rm_X11_housed : Room := { frames := 0, cells := 0, slots := 0, locals := 0 }
set_option maxRecDepth 20000 in
theorem tX11_housed_B4 {ad : Nat → Nat} {cI cZ : ClassId} {Γ : Cx} {r : Int} {σ' : St} (C : CX cI cZ rm_X11_housed 3 Γ cX11_housed RX11) (hq : RetI .int (wR ad cI cZ) Γ cX11_housed r σ') {k4 : Int → Int → St → Option (Int × St)} (hk4 : ∀ (v1 : Int) (v2 : Int) (σ : St), k4 v1 v2 σ = some (r, σ') → JJ (wR ad cI cZ) Γ σ 4 [(0, .ref (ad 0)), (1, .int (iI v1)), (2, .int (iI v2))] []) (v1 : Int) (v2 : Int) (σ : St) (hf : fX11_housed_B4 k4 v1 v2 σ = some (r, σ')) : JJ (wR ad cI cZ) Γ σ 4 [(0, .ref (ad 0)), (1, .int (iI v1)), (2, .int (iI v2))] [] := by
  unfold fX11_housed_B4 at hf
  refine j_iload_n 2 C dX11_housed_4 rfl ?_
  refine j_aload_n 0 C dX11_housed_5 rfl ?_
  refine gR_0_5 C wt_839 dX11_housed_6 ?_
  refine j_icmp_ge 36 C rfl rfl dX11_housed_9 (by decide) (fun h => ?_) (fun h => ?_)
  · have hf := ifp h hf
    refine j_iload_n 1 C dX11_housed_36 rfl ?_
    exact retI hq hf dX11_housed_37
  · have hf := ifn h hf
    refine j_iload_n 1 C dX11_housed_12 rfl ?_
    refine j_aload_n 0 C dX11_housed_13 rfl ?_
    refine gR_0_10 C wt_844 dX11_housed_14 ?_
    refine j_iload_n 2 C dX11_housed_17 rfl ?_
    obtain ⟨hI, hf⟩ := gI_s hf
    refine lR_7 C hI dX11_housed_18 ?_
    refine j_iconst C dX11_housed_19 ?_
    refine j_icmp_eq 27 C rfl wl_m1 dX11_housed_20 (by decide) (fun h => ?_) (fun h => ?_)
    · have hf := ifp h hf
      refine j_iconst C dX11_housed_27 ?_
      refine j_iadd C dX11_housed_28 ?_
      refine j_istore_n [(1, .int (iI (v1 + 0))), (0, .ref (ad 0)), (2, .int (iI v2))] C dX11_housed_29 (by decide) rfl ?_
      refine j_iinc 2 [(2, .int (iI (v2 + 1))), (1, .int (iI (v1 + 0))), (0, .ref (ad 0))] C dX11_housed_30 (by decide) rfl rfl ?_
      refine j_goto 4 C dX11_housed_33 (by decide) ?_
      exact j_sub [2, 1, 0] rfl (hk4 _ _ _ hf)
    · have hf := ifn h hf
      refine j_iconst C dX11_housed_23 ?_
      refine j_goto 28 C dX11_housed_24 (by decide) ?_
      refine j_iadd C dX11_housed_28 ?_
      refine j_istore_n [(1, .int (iI (v1 + 1))), (0, .ref (ad 0)), (2, .int (iI v2))] C dX11_housed_29 (by decide) rfl ?_
      refine j_iinc 2 [(2, .int (iI (v2 + 1))), (1, .int (iI (v1 + 1))), (0, .ref (ad 0))] C dX11_housed_30 (by decide) rfl rfl ?_
      refine j_goto 4 C dX11_housed_33 (by decide) ?_
      exact j_sub [2, 1, 0] rfl (hk4 _ _ _ hf)
theorem tX11_housed_L4 {ad : Nat → Nat} {cI cZ : ClassId} {Γ : Cx} {r : Int} {σ' : St} (C : CX cI cZ rm_X11_housed 3 Γ cX11_housed RX11) (hq : RetI .int (wR ad cI cZ) Γ cX11_housed r σ') (n : Nat) : ∀ (v1 v2 : Int), ∀ (σ : St), fX11_housed_L4 n v1 v2 σ = some (r, σ') → JJ (wR ad cI cZ) Γ σ 4 [(0, .ref (ad 0)), (1, .int (iI v1)), (2, .int (iI v2))] [] := by
  induction n with
  | zero => intro _ _ _ hf; cases hf
  | succ n ih => intro v1 v2 σ hf; exact tX11_housed_B4 C hq ih v1 v2 σ hf
set_option maxRecDepth 20000 in
theorem tX11_housed_L0 {ad : Nat → Nat} {cI cZ : ClassId} {Γ : Cx} {r : Int} {σ' : St} (C : CX cI cZ rm_X11_housed 3 Γ cX11_housed RX11) (hq : RetI .int (wR ad cI cZ) Γ cX11_housed r σ') (σ : St) (hf : fX11_housed_L0 σ = some (r, σ')) : JJ (wR ad cI cZ) Γ σ 0 [(0, .ref (ad 0))] [] := by
  unfold fX11_housed_L0 at hf
  refine j_iconst C dX11_housed_0 ?_
  refine j_istore_n [(1, .int (iI 0)), (0, .ref (ad 0))] C dX11_housed_1 (by decide) rfl ?_
  refine j_iconst C dX11_housed_2 ?_
  refine j_istore_n [(2, .int (iI 0)), (1, .int (iI 0)), (0, .ref (ad 0))] C dX11_housed_3 (by decide) rfl ?_
  exact j_sub [2, 1, 0] rfl (tX11_housed_L4 C hq 1000 _ _ _ hf)
theorem c_X11_housed (l : Launch) (D : va_G) (ad : Nat → Nat) (cI cZ : ClassId) (σ : St) (r : Int) (σ' : St) (hf : fX11_housed σ = some (r, σ')) : McI l yX11_housed cX11_housed 3 .int rm_X11_housed D (tyL cI cZ) (wR ad cI cZ) [.ref (ad 0)] σ r σ' := McI.mk mf_X11_housed.2.2.2.2.2 (Nat.le_of_ble_eq_true rfl) (fun Γ C hq => j_sub [0] rfl (tX11_housed_L0 C hq  σ hf))
/-! TermLodgingsModel.dearest(I)V -/
def rm_X11_dearest : Room := { frames := 4, cells := 0, slots := 0, locals := 94 }
set_option maxRecDepth 20000 in
theorem tX11_dearest_B2 {ad : Nat → Nat} {cI cZ : ClassId} {Γ : Cx} {σ' : St} (C : CX cI cZ rm_X11_dearest 4 Γ cX11_dearest RX11) (hq : RetV (wR ad cI cZ) Γ cX11_dearest σ') {k2 : Int → Int → St → Option St} (hk2 : ∀ (v1 : Int) (v2 : Int) (σ : St), k2 v1 v2 σ = some σ' → JJ (wR ad cI cZ) Γ σ 2 [(0, .ref (ad 0)), (1, .int (iI v1)), (2, .int (iI v2))] []) (v1 : Int) (v2 : Int) (σ : St) (hf : fX11_dearest_B2 k2 v1 v2 σ = some σ') : JJ (wR ad cI cZ) Γ σ 2 [(0, .ref (ad 0)), (1, .int (iI v1)), (2, .int (iI v2))] [] := by
  unfold fX11_dearest_B2 at hf
  refine j_iload_n 2 C dX11_dearest_2 rfl ?_
  refine j_aload_n 0 C dX11_dearest_3 rfl ?_
  refine gR_0_8 C wt_842 dX11_dearest_4 ?_
  refine j_iload_n 1 C dX11_dearest_7 rfl ?_
  obtain ⟨hI, hf⟩ := gI_s hf
  refine lR_5 C hI dX11_dearest_8 ?_
  refine j_icmp_ge 69 C rfl rfl dX11_dearest_9 (by decide) (fun h => ?_) (fun h => ?_)
  · have hf := ifp h hf
    exact retV hq hf dX11_dearest_69
  · have hf := ifn h hf
    refine j_aload_n 0 C dX11_dearest_12 rfl ?_
    refine gR_0_10 C wt_844 dX11_dearest_13 ?_
    refine j_iload_n 1 C dX11_dearest_16 rfl ?_
    obtain ⟨hI, hf⟩ := gI_s hf
    refine lR_7 C hI dX11_dearest_17 ?_
    refine j_iconst C dX11_dearest_18 ?_
    refine j_icmp_ne 69 C rfl wl_m1 dX11_dearest_19 (by decide) (fun h => ?_) (fun h => ?_)
    · have hf := ifn h hf
      exact retV hq hf dX11_dearest_69
    · have hf := ifp h hf
      refine j_aload_n 0 C dX11_dearest_22 rfl ?_
      refine gR_0_9 C wt_843 dX11_dearest_23 ?_
      refine j_bipush C dX11_dearest_26 bp_8 ?_
      refine j_iload_n 1 C dX11_dearest_28 rfl ?_
      refine j_imul C dX11_dearest_29 ?_
      refine j_iload_n 2 C dX11_dearest_30 rfl ?_
      refine j_iadd C dX11_dearest_31 ?_
      obtain ⟨hI, hf⟩ := gI_s hf
      refine lR_6 C hI dX11_dearest_32 ?_
      refine j_istore_n [(3, .int (iI (σ.2 6 (ix ((8 * v1) + v2))))), (0, .ref (ad 0)), (1, .int (iI v1)), (2, .int (iI v2))] C dX11_dearest_33 (by decide) rfl ?_
      refine j_aload_n 1 C dX11_dearest_34 rfl ?_
      refine gR_0_10 C wt_844 dX11_dearest_35 ?_
      refine j_iload_n 2 C dX11_dearest_38 rfl ?_
      refine j_aload_n 1 C dX11_dearest_39 rfl ?_
      refine j_iload_n 0 C dX11_dearest_40 rfl ?_
      obtain ⟨a1, s1, hc, hf⟩ := bd_s hf
      refine j_cVi (q0 := 0) (ci := 11) (T := TX11) (N := 32) [.int (iI (σ.2 6 (ix ((8 * v1) + v2))))] [.int (iI v1), .ref (ad 8)] C (c_X11_whoHas _ _ ad cI cZ _ _ _ _ hc) mf_X11_whoHas wt_976 wt_978 ws_34 rfl rfl rfl ⟨rfl, rfl, by decide, by decide⟩ rfl (Nat.le_of_ble_eq_true rfl) dX11_dearest_41 ?_
      refine j_iconst C dX11_dearest_44 ?_
      refine j_icmp_ne 61 C rfl wl_m1 dX11_dearest_45 (by decide) (fun h => ?_) (fun h => ?_)
      · have hf := ifn h hf
        refine j_iconst C dX11_dearest_61 ?_
        obtain ⟨hI, hf⟩ := gI_s hf
        refine tR_7 C hI dX11_dearest_62 ?_
        refine j_iinc 3 [(2, .int (iI (v2 + 1))), (3, .int (iI (σ.2 6 (ix ((8 * v1) + v2))))), (0, .ref (ad 0)), (1, .int (iI v1))] C dX11_dearest_63 (by decide) rfl rfl ?_
        refine j_goto 2 C dX11_dearest_66 (by decide) ?_
        exact j_sub [2, 3, 0] rfl (hk2 _ _ _ hf)
      · have hf := ifp h hf
        refine j_aload_n 1 C dX11_dearest_48 rfl ?_
        refine j_iload_n 2 C dX11_dearest_49 rfl ?_
        refine j_iload_n 0 C dX11_dearest_50 rfl ?_
        obtain ⟨a2, s2, hc, hf⟩ := bd_s hf
        refine j_cVi (q0 := 0) (ci := 11) (T := TX11) (N := 32) [.int (iI v1), .int (iI (σ.2 6 (ix ((8 * v1) + v2))))] [.int (iI v1), .ref (ad 8)] C (c_X11_mayLive _ _ ad cI cZ _ _ _ _ _ hc) mf_X11_mayLive wt_984 wt_986 ws_35 rfl rfl rfl ⟨rfl, rfl, by decide, by decide⟩ rfl (Nat.le_of_ble_eq_true rfl) dX11_dearest_51 ?_
        refine j_if_eq 61 C rfl dX11_dearest_54 (by decide) (fun h => ?_) (fun h => ?_)
        · have hf := ifp h hf
          refine j_iconst C dX11_dearest_61 ?_
          obtain ⟨hI, hf⟩ := gI_s hf
          refine tR_7 C hI dX11_dearest_62 ?_
          refine j_iinc 3 [(2, .int (iI (v2 + 1))), (3, .int (iI (σ.2 6 (ix ((8 * v1) + v2))))), (0, .ref (ad 0)), (1, .int (iI v1))] C dX11_dearest_63 (by decide) rfl rfl ?_
          refine j_goto 2 C dX11_dearest_66 (by decide) ?_
          exact j_sub [2, 3, 0] rfl (hk2 _ _ _ hf)
        · have hf := ifn h hf
          refine j_iload_n 0 C dX11_dearest_57 rfl ?_
          refine j_goto 62 C dX11_dearest_58 (by decide) ?_
          obtain ⟨hI, hf⟩ := gI_s hf
          refine tR_7 C hI dX11_dearest_62 ?_
          refine j_iinc 3 [(2, .int (iI (v2 + 1))), (3, .int (iI (σ.2 6 (ix ((8 * v1) + v2))))), (0, .ref (ad 0)), (1, .int (iI v1))] C dX11_dearest_63 (by decide) rfl rfl ?_
          refine j_goto 2 C dX11_dearest_66 (by decide) ?_
          exact j_sub [2, 3, 0] rfl (hk2 _ _ _ hf)
theorem tX11_dearest_L2 {ad : Nat → Nat} {cI cZ : ClassId} {Γ : Cx} {σ' : St} (C : CX cI cZ rm_X11_dearest 4 Γ cX11_dearest RX11) (hq : RetV (wR ad cI cZ) Γ cX11_dearest σ') (n : Nat) : ∀ (v1 v2 : Int), ∀ (σ : St), fX11_dearest_L2 n v1 v2 σ = some σ' → JJ (wR ad cI cZ) Γ σ 2 [(0, .ref (ad 0)), (1, .int (iI v1)), (2, .int (iI v2))] [] := by
  induction n with
  | zero => intro _ _ _ hf; cases hf
  | succ n ih => intro v1 v2 σ hf; exact tX11_dearest_B2 C hq ih v1 v2 σ hf
set_option maxRecDepth 20000 in
theorem tX11_dearest_L0 {ad : Nat → Nat} {cI cZ : ClassId} {Γ : Cx} {σ' : St} (C : CX cI cZ rm_X11_dearest 4 Γ cX11_dearest RX11) (hq : RetV (wR ad cI cZ) Γ cX11_dearest σ') (v1 : Int) (σ : St) (hf : fX11_dearest_L0 v1 σ = some σ') : JJ (wR ad cI cZ) Γ σ 0 [(0, .ref (ad 0)), (1, .int (iI v1))] [] := by
  unfold fX11_dearest_L0 at hf
  refine j_iconst C dX11_dearest_0 ?_
  refine j_istore_n [(2, .int (iI 0)), (0, .ref (ad 0)), (1, .int (iI v1))] C dX11_dearest_1 (by decide) rfl ?_
  exact j_sub [1, 2, 0] rfl (tX11_dearest_L2 C hq 1000 _ _ _ hf)
theorem c_X11_dearest (l : Launch) (D : va_G) (ad : Nat → Nat) (cI cZ : ClassId) (σ : St) (v1 : Int) (σ' : St) (hf : fX11_dearest σ v1 = some σ') : McV l yX11_dearest cX11_dearest 4 rm_X11_dearest D (tyL cI cZ) (wR ad cI cZ) [.ref (ad 0), .int (iI v1)] σ σ' := McV.mk mf_X11_dearest.2.2.2.2.2 (Nat.le_of_ble_eq_true rfl) (fun Γ C hq => j_sub [0, 1] rfl (tX11_dearest_L0 C hq v1 σ hf))
/-! TermLodgingsModel.moveInto(II)Z -/
def rm_X11_moveInto : Room := { frames := 4, cells := 0, slots := 0, locals := 94 }
set_option maxRecDepth 20000 in
theorem tX11_moveInto_B129 {ad : Nat → Nat} {cI cZ : ClassId} {Γ : Cx} {r : Int} {σ' : St} (C : CX cI cZ rm_X11_moveInto 6 Γ cX11_moveInto RX11) (hq : RetI .boolean (wR ad cI cZ) Γ cX11_moveInto r σ') {k129 : Int → Int → Int → St → Option (Int × St)} (hk129 : ∀ (v1 : Int) (v3 : Int) (v4 : Int) (σ : St), k129 v1 v3 v4 σ = some (r, σ') → JJ (wR ad cI cZ) Γ σ 129 [(0, .ref (ad 0)), (1, .int (iI v1)), (3, .int (iI v3)), (4, .int (iI v4))] []) (v1 : Int) (v3 : Int) (v4 : Int) (σ : St) (hf : fX11_moveInto_B129 k129 v1 v3 v4 σ = some (r, σ')) : JJ (wR ad cI cZ) Γ σ 129 [(0, .ref (ad 0)), (1, .int (iI v1)), (3, .int (iI v3)), (4, .int (iI v4))] [] := by
  unfold fX11_moveInto_B129 at hf
  refine j_iload 3 C dX11_moveInto_129 rfl ?_
  refine j_aload_n 0 C dX11_moveInto_131 rfl ?_
  refine gR_0_5 C wt_839 dX11_moveInto_132 ?_
  refine j_icmp_ge 177 C rfl rfl dX11_moveInto_135 (by decide) (fun h => ?_) (fun h => ?_)
  · have hf := ifp h hf
    refine j_iload_n 2 C dX11_moveInto_177 rfl ?_
    exact retZ hq hf dX11_moveInto_178
  · have hf := ifn h hf
    refine j_iload_n 2 C dX11_moveInto_138 rfl ?_
    refine j_if_ne 177 C rfl dX11_moveInto_139 (by decide) (fun h => ?_) (fun h => ?_)
    · have hf := ifn h hf
      refine j_iload_n 2 C dX11_moveInto_177 rfl ?_
      exact retZ hq hf dX11_moveInto_178
    · have hf := ifp h hf
      refine j_aload_n 0 C dX11_moveInto_142 rfl ?_
      refine gR_0_10 C wt_844 dX11_moveInto_143 ?_
      refine j_iload 3 C dX11_moveInto_146 rfl ?_
      refine j_aload_n 0 C dX11_moveInto_148 rfl ?_
      refine gR_0_7 C wt_841 dX11_moveInto_149 ?_
      refine j_iload 3 C dX11_moveInto_152 rfl ?_
      obtain ⟨hI, hf⟩ := gI_s hf
      refine lR_4 C hI dX11_moveInto_154 ?_
      refine j_iload_n 1 C dX11_moveInto_155 rfl ?_
      refine j_icmp_ne 163 C rfl rfl dX11_moveInto_156 (by decide) (fun h => ?_) (fun h => ?_)
      · have hf := ifn h hf
        refine j_aload_n 0 C dX11_moveInto_163 rfl ?_
        refine gR_0_10 C wt_844 dX11_moveInto_164 ?_
        refine j_iload 3 C dX11_moveInto_167 rfl ?_
        obtain ⟨hI, hf⟩ := gI_s hf
        refine lR_7 C hI dX11_moveInto_169 ?_
        obtain ⟨hI, hf⟩ := gI_s hf
        refine tR_7 C hI dX11_moveInto_170 ?_
        refine j_iinc 3 [(4, .int (iI (v4 + 1))), (0, .ref (ad 0)), (1, .int (iI v1)), (3, .int (iI v3))] C dX11_moveInto_171 (by decide) rfl rfl ?_
        refine j_goto 129 C dX11_moveInto_174 (by decide) ?_
        exact j_sub [1, 2, 3, 0] rfl (hk129 _ _ _ _ hf)
      · have hf := ifp h hf
        refine j_iconst C dX11_moveInto_159 ?_
        refine j_goto 170 C dX11_moveInto_160 (by decide) ?_
        obtain ⟨hI, hf⟩ := gI_s hf
        refine tR_7 C hI dX11_moveInto_170 ?_
        refine j_iinc 3 [(4, .int (iI (v4 + 1))), (0, .ref (ad 0)), (1, .int (iI v1)), (3, .int (iI v3))] C dX11_moveInto_171 (by decide) rfl rfl ?_
        refine j_goto 129 C dX11_moveInto_174 (by decide) ?_
        exact j_sub [1, 2, 3, 0] rfl (hk129 _ _ _ _ hf)
theorem tX11_moveInto_L129 {ad : Nat → Nat} {cI cZ : ClassId} {Γ : Cx} {r : Int} {σ' : St} (C : CX cI cZ rm_X11_moveInto 6 Γ cX11_moveInto RX11) (hq : RetI .boolean (wR ad cI cZ) Γ cX11_moveInto r σ') (n : Nat) : ∀ (v1 v3 v4 : Int), ∀ (σ : St), fX11_moveInto_L129 n v1 v3 v4 σ = some (r, σ') → JJ (wR ad cI cZ) Γ σ 129 [(0, .ref (ad 0)), (1, .int (iI v1)), (3, .int (iI v3)), (4, .int (iI v4))] [] := by
  induction n with
  | zero => intro _ _ _ _ hf; cases hf
  | succ n ih => intro v1 v3 v4 σ hf; exact tX11_moveInto_B129 C hq ih v1 v3 v4 σ hf
set_option maxRecDepth 20000 in
theorem tX11_moveInto_L103 {ad : Nat → Nat} {cI cZ : ClassId} {Γ : Cx} {r : Int} {σ' : St} (C : CX cI cZ rm_X11_moveInto 6 Γ cX11_moveInto RX11) (hq : RetI .boolean (wR ad cI cZ) Γ cX11_moveInto r σ') {k5 : Int → Int → Int → Int → St → Option (Int × St)} (hk5 : ∀ (v1 : Int) (v2 : Int) (v3 : Int) (v4 : Int) (σ : St), k5 v1 v2 v3 v4 σ = some (r, σ') → JJ (wR ad cI cZ) Γ σ 5 [(0, .ref (ad 0)), (1, .int (iI v1)), (2, .int (iI v2)), (3, .int (iI v3)), (4, .int (iI v4))] []) (v1 : Int) (v2 : Int) (v4 : Int) (σ : St) (hf : fX11_moveInto_L103 k5 v1 v2 v4 σ = some (r, σ')) : JJ (wR ad cI cZ) Γ σ 103 [(0, .ref (ad 0)), (1, .int (iI v1)), (2, .int (iI v2)), (4, .int (iI v4))] [] := by
  unfold fX11_moveInto_L103 at hf
  refine j_aload_n 0 C dX11_moveInto_103 rfl ?_
  refine gR_0_10 C wt_844 dX11_moveInto_104 ?_
  refine j_iload 3 C dX11_moveInto_107 rfl ?_
  obtain ⟨hI, hf⟩ := gI_s hf
  refine lR_7 C hI dX11_moveInto_109 ?_
  refine j_iconst C dX11_moveInto_110 ?_
  refine j_icmp_eq 118 C rfl wl_m1 dX11_moveInto_111 (by decide) (fun h => ?_) (fun h => ?_)
  · have hf := ifp h hf
    refine j_iconst C dX11_moveInto_118 ?_
    refine j_istore_n [(3, .int (iI 0)), (0, .ref (ad 0)), (1, .int (iI v1)), (2, .int (iI v2)), (4, .int (iI v4))] C dX11_moveInto_119 (by decide) rfl ?_
    refine j_iinc 4 [(4, .int (iI (v4 + 1))), (3, .int (iI 0)), (0, .ref (ad 0)), (1, .int (iI v1)), (2, .int (iI v2))] C dX11_moveInto_120 (by decide) rfl rfl ?_
    refine j_goto 5 C dX11_moveInto_123 (by decide) ?_
    exact j_sub [2, 3, 4, 1, 0] rfl (hk5 _ _ _ _ _ hf)
  · have hf := ifn h hf
    refine j_iconst C dX11_moveInto_114 ?_
    refine j_goto 119 C dX11_moveInto_115 (by decide) ?_
    refine j_istore_n [(3, .int (iI 1)), (0, .ref (ad 0)), (1, .int (iI v1)), (2, .int (iI v2)), (4, .int (iI v4))] C dX11_moveInto_119 (by decide) rfl ?_
    refine j_iinc 4 [(4, .int (iI (v4 + 1))), (3, .int (iI 1)), (0, .ref (ad 0)), (1, .int (iI v1)), (2, .int (iI v2))] C dX11_moveInto_120 (by decide) rfl rfl ?_
    refine j_goto 5 C dX11_moveInto_123 (by decide) ?_
    exact j_sub [2, 3, 4, 1, 0] rfl (hk5 _ _ _ _ _ hf)
set_option maxRecDepth 20000 in
theorem tX11_moveInto_B32 {ad : Nat → Nat} {cI cZ : ClassId} {Γ : Cx} {r : Int} {σ' : St} (C : CX cI cZ rm_X11_moveInto 6 Γ cX11_moveInto RX11) (hq : RetI .boolean (wR ad cI cZ) Γ cX11_moveInto r σ') {k5 : Int → Int → Int → Int → St → Option (Int × St)} {k32 : Int → Int → Int → Int → St → Option (Int × St)} (hk5 : ∀ (v1 : Int) (v2 : Int) (v3 : Int) (v4 : Int) (σ : St), k5 v1 v2 v3 v4 σ = some (r, σ') → JJ (wR ad cI cZ) Γ σ 5 [(0, .ref (ad 0)), (1, .int (iI v1)), (2, .int (iI v2)), (3, .int (iI v3)), (4, .int (iI v4))] []) (hk32 : ∀ (v1 : Int) (v2 : Int) (v4 : Int) (v5 : Int) (σ : St), k32 v1 v2 v4 v5 σ = some (r, σ') → JJ (wR ad cI cZ) Γ σ 32 [(0, .ref (ad 0)), (1, .int (iI v1)), (2, .int (iI v2)), (4, .int (iI v4)), (5, .int (iI v5))] []) (v1 : Int) (v2 : Int) (v4 : Int) (v5 : Int) (σ : St) (hf : fX11_moveInto_B32 k5 k32 v1 v2 v4 v5 σ = some (r, σ')) : JJ (wR ad cI cZ) Γ σ 32 [(0, .ref (ad 0)), (1, .int (iI v1)), (2, .int (iI v2)), (4, .int (iI v4)), (5, .int (iI v5))] [] := by
  unfold fX11_moveInto_B32 at hf
  refine j_iload 4 C dX11_moveInto_32 rfl ?_
  refine j_aload_n 0 C dX11_moveInto_34 rfl ?_
  refine gR_0_0 C wt_834 dX11_moveInto_35 ?_
  refine j_icmp_ge 103 C rfl rfl dX11_moveInto_38 (by decide) (fun h => ?_) (fun h => ?_)
  · have hf := ifp h hf
    exact j_sub [0, 1, 2, 3] rfl (tX11_moveInto_L103 C hq hk5 _ _ _ _ hf)
  · have hf := ifn h hf
    refine j_aload_n 0 C dX11_moveInto_41 rfl ?_
    refine gR_0_10 C wt_844 dX11_moveInto_42 ?_
    refine j_iload 3 C dX11_moveInto_45 rfl ?_
    obtain ⟨hI, hf⟩ := gI_s hf
    refine lR_7 C hI dX11_moveInto_47 ?_
    refine j_iconst C dX11_moveInto_48 ?_
    refine j_icmp_ne 103 C rfl wl_m1 dX11_moveInto_49 (by decide) (fun h => ?_) (fun h => ?_)
    · have hf := ifn h hf
      exact j_sub [0, 1, 2, 3] rfl (tX11_moveInto_L103 C hq hk5 _ _ _ _ hf)
    · have hf := ifp h hf
      refine j_aload_n 0 C dX11_moveInto_52 rfl ?_
      refine gR_0_10 C wt_844 dX11_moveInto_53 ?_
      refine j_iload 3 C dX11_moveInto_56 rfl ?_
      refine j_aload_n 0 C dX11_moveInto_58 rfl ?_
      refine gR_0_1 C wt_835 dX11_moveInto_59 ?_
      refine j_iload 4 C dX11_moveInto_62 rfl ?_
      obtain ⟨hI, hf⟩ := gI_s hf
      refine lR_0 C hI dX11_moveInto_64 ?_
      refine j_iload_n 2 C dX11_moveInto_65 rfl ?_
      refine j_icmp_ne 95 C rfl rfl dX11_moveInto_66 (by decide) (fun h => ?_) (fun h => ?_)
      · have hf := ifn h hf
        refine j_iconst C dX11_moveInto_95 ?_
        obtain ⟨hI, hf⟩ := gI_s hf
        refine tR_7 C hI dX11_moveInto_96 ?_
        refine j_iinc 4 [(5, .int (iI (v5 + 1))), (0, .ref (ad 0)), (1, .int (iI v1)), (2, .int (iI v2)), (4, .int (iI v4))] C dX11_moveInto_97 (by decide) rfl rfl ?_
        refine j_goto 32 C dX11_moveInto_100 (by decide) ?_
        exact j_sub [1, 2, 3, 4, 0] rfl (hk32 _ _ _ _ _ hf)
      · have hf := ifp h hf
        refine j_aload_n 0 C dX11_moveInto_69 rfl ?_
        refine j_iload 4 C dX11_moveInto_70 rfl ?_
        obtain ⟨a1, s1, hc, hf⟩ := bd_s hf
        refine j_cVi (q0 := 0) (ci := 11) (T := TX11) (N := 32) [.int (iI v5)] [.int (iI v4), .ref (ad 8)] C (c_X11_whoHas _ _ ad cI cZ _ _ _ _ hc) mf_X11_whoHas wt_976 wt_978 ws_34 rfl rfl rfl ⟨rfl, rfl, by decide, by decide⟩ rfl (Nat.le_of_ble_eq_true rfl) dX11_moveInto_72 ?_
        refine j_iconst C dX11_moveInto_75 ?_
        refine j_icmp_ne 95 C rfl wl_m1 dX11_moveInto_76 (by decide) (fun h => ?_) (fun h => ?_)
        · have hf := ifn h hf
          refine j_iconst C dX11_moveInto_95 ?_
          obtain ⟨hI, hf⟩ := gI_s hf
          refine tR_7 C hI dX11_moveInto_96 ?_
          refine j_iinc 4 [(5, .int (iI (v5 + 1))), (0, .ref (ad 0)), (1, .int (iI v1)), (2, .int (iI v2)), (4, .int (iI v4))] C dX11_moveInto_97 (by decide) rfl rfl ?_
          refine j_goto 32 C dX11_moveInto_100 (by decide) ?_
          exact j_sub [1, 2, 3, 4, 0] rfl (hk32 _ _ _ _ _ hf)
        · have hf := ifp h hf
          refine j_aload_n 0 C dX11_moveInto_79 rfl ?_
          refine j_iload 3 C dX11_moveInto_80 rfl ?_
          refine j_iload 4 C dX11_moveInto_82 rfl ?_
          obtain ⟨a2, s2, hc, hf⟩ := bd_s hf
          refine j_cVi (q0 := 0) (ci := 11) (T := TX11) (N := 32) [.int (iI v4), .int (iI v5)] [.int (iI v4), .ref (ad 8)] C (c_X11_mayLive _ _ ad cI cZ _ _ _ _ _ hc) mf_X11_mayLive wt_984 wt_986 ws_35 rfl rfl rfl ⟨rfl, rfl, by decide, by decide⟩ rfl (Nat.le_of_ble_eq_true rfl) dX11_moveInto_84 ?_
          refine j_if_eq 95 C rfl dX11_moveInto_87 (by decide) (fun h => ?_) (fun h => ?_)
          · have hf := ifp h hf
            refine j_iconst C dX11_moveInto_95 ?_
            obtain ⟨hI, hf⟩ := gI_s hf
            refine tR_7 C hI dX11_moveInto_96 ?_
            refine j_iinc 4 [(5, .int (iI (v5 + 1))), (0, .ref (ad 0)), (1, .int (iI v1)), (2, .int (iI v2)), (4, .int (iI v4))] C dX11_moveInto_97 (by decide) rfl rfl ?_
            refine j_goto 32 C dX11_moveInto_100 (by decide) ?_
            exact j_sub [1, 2, 3, 4, 0] rfl (hk32 _ _ _ _ _ hf)
          · have hf := ifn h hf
            refine j_iload 4 C dX11_moveInto_90 rfl ?_
            refine j_goto 96 C dX11_moveInto_92 (by decide) ?_
            obtain ⟨hI, hf⟩ := gI_s hf
            refine tR_7 C hI dX11_moveInto_96 ?_
            refine j_iinc 4 [(5, .int (iI (v5 + 1))), (0, .ref (ad 0)), (1, .int (iI v1)), (2, .int (iI v2)), (4, .int (iI v4))] C dX11_moveInto_97 (by decide) rfl rfl ?_
            refine j_goto 32 C dX11_moveInto_100 (by decide) ?_
            exact j_sub [1, 2, 3, 4, 0] rfl (hk32 _ _ _ _ _ hf)
theorem tX11_moveInto_L32 {ad : Nat → Nat} {cI cZ : ClassId} {Γ : Cx} {r : Int} {σ' : St} (C : CX cI cZ rm_X11_moveInto 6 Γ cX11_moveInto RX11) (hq : RetI .boolean (wR ad cI cZ) Γ cX11_moveInto r σ') {k5 : Int → Int → Int → Int → St → Option (Int × St)} (hk5 : ∀ (v1 : Int) (v2 : Int) (v3 : Int) (v4 : Int) (σ : St), k5 v1 v2 v3 v4 σ = some (r, σ') → JJ (wR ad cI cZ) Γ σ 5 [(0, .ref (ad 0)), (1, .int (iI v1)), (2, .int (iI v2)), (3, .int (iI v3)), (4, .int (iI v4))] []) (n : Nat) : ∀ (v1 v2 v4 v5 : Int), ∀ (σ : St), fX11_moveInto_L32 k5 n v1 v2 v4 v5 σ = some (r, σ') → JJ (wR ad cI cZ) Γ σ 32 [(0, .ref (ad 0)), (1, .int (iI v1)), (2, .int (iI v2)), (4, .int (iI v4)), (5, .int (iI v5))] [] := by
  induction n with
  | zero => intro _ _ _ _ _ hf; cases hf
  | succ n ih => intro v1 v2 v4 v5 σ hf; exact tX11_moveInto_B32 C hq hk5 ih v1 v2 v4 v5 σ hf
set_option maxRecDepth 20000 in
theorem tX11_moveInto_B5 {ad : Nat → Nat} {cI cZ : ClassId} {Γ : Cx} {r : Int} {σ' : St} (C : CX cI cZ rm_X11_moveInto 6 Γ cX11_moveInto RX11) (hq : RetI .boolean (wR ad cI cZ) Γ cX11_moveInto r σ') {k5 : Int → Int → Int → Int → St → Option (Int × St)} (hk5 : ∀ (v1 : Int) (v2 : Int) (v3 : Int) (v4 : Int) (σ : St), k5 v1 v2 v3 v4 σ = some (r, σ') → JJ (wR ad cI cZ) Γ σ 5 [(0, .ref (ad 0)), (1, .int (iI v1)), (2, .int (iI v2)), (3, .int (iI v3)), (4, .int (iI v4))] []) (v1 : Int) (v2 : Int) (v3 : Int) (v4 : Int) (σ : St) (hf : fX11_moveInto_B5 k5 v1 v2 v3 v4 σ = some (r, σ')) : JJ (wR ad cI cZ) Γ σ 5 [(0, .ref (ad 0)), (1, .int (iI v1)), (2, .int (iI v2)), (3, .int (iI v3)), (4, .int (iI v4))] [] := by
  unfold fX11_moveInto_B5 at hf
  refine j_iload 4 C dX11_moveInto_5 rfl ?_
  refine j_aload_n 0 C dX11_moveInto_7 rfl ?_
  refine gR_0_5 C wt_839 dX11_moveInto_8 ?_
  refine j_icmp_ge 126 C rfl rfl dX11_moveInto_11 (by decide) (fun h => ?_) (fun h => ?_)
  · have hf := ifp h hf
    refine j_iconst C dX11_moveInto_126 ?_
    refine j_istore [(4, .int (iI 0)), (0, .ref (ad 0)), (1, .int (iI v1)), (2, .int (iI v2)), (3, .int (iI v3))] C dX11_moveInto_127 (by decide) rfl ?_
    exact j_sub [1, 2, 4, 0] rfl (tX11_moveInto_L129 C hq 1000 _ _ _ _ hf)
  · have hf := ifn h hf
    refine j_iload_n 3 C dX11_moveInto_14 rfl ?_
    refine j_if_eq 126 C rfl dX11_moveInto_15 (by decide) (fun h => ?_) (fun h => ?_)
    · have hf := ifp h hf
      refine j_iconst C dX11_moveInto_126 ?_
      refine j_istore [(4, .int (iI 0)), (0, .ref (ad 0)), (1, .int (iI v1)), (2, .int (iI v2)), (3, .int (iI v3))] C dX11_moveInto_127 (by decide) rfl ?_
      exact j_sub [1, 2, 4, 0] rfl (tX11_moveInto_L129 C hq 1000 _ _ _ _ hf)
    · have hf := ifn h hf
      refine j_aload_n 0 C dX11_moveInto_18 rfl ?_
      refine gR_0_7 C wt_841 dX11_moveInto_19 ?_
      refine j_iload 4 C dX11_moveInto_22 rfl ?_
      obtain ⟨hI, hf⟩ := gI_s hf
      refine lR_4 C hI dX11_moveInto_24 ?_
      refine j_iload_n 1 C dX11_moveInto_25 rfl ?_
      refine j_icmp_ne 120 C rfl rfl dX11_moveInto_26 (by decide) (fun h => ?_) (fun h => ?_)
      · have hf := ifn h hf
        refine j_iinc 4 [(4, .int (iI (v4 + 1))), (0, .ref (ad 0)), (1, .int (iI v1)), (2, .int (iI v2)), (3, .int (iI v3))] C dX11_moveInto_120 (by decide) rfl rfl ?_
        refine j_goto 5 C dX11_moveInto_123 (by decide) ?_
        exact j_sub [1, 2, 3, 4, 0] rfl (hk5 _ _ _ _ _ hf)
      · have hf := ifp h hf
        refine j_iconst C dX11_moveInto_29 ?_
        refine j_istore [(5, .int (iI 0)), (0, .ref (ad 0)), (1, .int (iI v1)), (2, .int (iI v2)), (3, .int (iI v3)), (4, .int (iI v4))] C dX11_moveInto_30 (by decide) rfl ?_
        exact j_sub [1, 2, 3, 5, 0] rfl (tX11_moveInto_L32 C hq hk5 1000 _ _ _ _ _ hf)
theorem tX11_moveInto_L5 {ad : Nat → Nat} {cI cZ : ClassId} {Γ : Cx} {r : Int} {σ' : St} (C : CX cI cZ rm_X11_moveInto 6 Γ cX11_moveInto RX11) (hq : RetI .boolean (wR ad cI cZ) Γ cX11_moveInto r σ') (n : Nat) : ∀ (v1 v2 v3 v4 : Int), ∀ (σ : St), fX11_moveInto_L5 n v1 v2 v3 v4 σ = some (r, σ') → JJ (wR ad cI cZ) Γ σ 5 [(0, .ref (ad 0)), (1, .int (iI v1)), (2, .int (iI v2)), (3, .int (iI v3)), (4, .int (iI v4))] [] := by
  induction n with
  | zero => intro _ _ _ _ _ hf; cases hf
  | succ n ih => intro v1 v2 v3 v4 σ hf; exact tX11_moveInto_B5 C hq ih v1 v2 v3 v4 σ hf
set_option maxRecDepth 20000 in
theorem tX11_moveInto_L0 {ad : Nat → Nat} {cI cZ : ClassId} {Γ : Cx} {r : Int} {σ' : St} (C : CX cI cZ rm_X11_moveInto 6 Γ cX11_moveInto RX11) (hq : RetI .boolean (wR ad cI cZ) Γ cX11_moveInto r σ') (v1 : Int) (v2 : Int) (σ : St) (hf : fX11_moveInto_L0 v1 v2 σ = some (r, σ')) : JJ (wR ad cI cZ) Γ σ 0 [(0, .ref (ad 0)), (1, .int (iI v1)), (2, .int (iI v2))] [] := by
  unfold fX11_moveInto_L0 at hf
  refine j_iconst C dX11_moveInto_0 ?_
  refine j_istore_n [(3, .int (iI 1)), (0, .ref (ad 0)), (1, .int (iI v1)), (2, .int (iI v2))] C dX11_moveInto_1 (by decide) rfl ?_
  refine j_iconst C dX11_moveInto_2 ?_
  refine j_istore [(4, .int (iI 0)), (3, .int (iI 1)), (0, .ref (ad 0)), (1, .int (iI v1)), (2, .int (iI v2))] C dX11_moveInto_3 (by decide) rfl ?_
  exact j_sub [2, 3, 4, 1, 0] rfl (tX11_moveInto_L5 C hq 1000 _ _ _ _ _ hf)
theorem c_X11_moveInto (l : Launch) (D : va_G) (ad : Nat → Nat) (cI cZ : ClassId) (σ : St) (v1 : Int) (v2 : Int) (r : Int) (σ' : St) (hf : fX11_moveInto σ v1 v2 = some (r, σ')) : McI l yX11_moveInto cX11_moveInto 6 .boolean rm_X11_moveInto D (tyL cI cZ) (wR ad cI cZ) [.ref (ad 0), .int (iI v1), .int (iI v2)] σ r σ' := McI.mk mf_X11_moveInto.2.2.2.2.2 (Nat.le_of_ble_eq_true rfl) (fun Γ C hq => j_sub [0, 1, 2] rfl (tX11_moveInto_L0 C hq v1 v2 σ hf))
/-! TermLodgingsModel.sizeOf(I)I -/
def rm_X11_sizeOf : Room := { frames := 0, cells := 0, slots := 0, locals := 0 }
set_option maxRecDepth 20000 in
theorem tX11_sizeOf_B4 {ad : Nat → Nat} {cI cZ : ClassId} {Γ : Cx} {r : Int} {σ' : St} (C : CX cI cZ rm_X11_sizeOf 4 Γ cX11_sizeOf RX11) (hq : RetI .int (wR ad cI cZ) Γ cX11_sizeOf r σ') {k4 : Int → Int → Int → St → Option (Int × St)} (hk4 : ∀ (v1 : Int) (v2 : Int) (v3 : Int) (σ : St), k4 v1 v2 v3 σ = some (r, σ') → JJ (wR ad cI cZ) Γ σ 4 [(0, .ref (ad 0)), (1, .int (iI v1)), (2, .int (iI v2)), (3, .int (iI v3))] []) (v1 : Int) (v2 : Int) (v3 : Int) (σ : St) (hf : fX11_sizeOf_B4 k4 v1 v2 v3 σ = some (r, σ')) : JJ (wR ad cI cZ) Γ σ 4 [(0, .ref (ad 0)), (1, .int (iI v1)), (2, .int (iI v2)), (3, .int (iI v3))] [] := by
  unfold fX11_sizeOf_B4 at hf
  refine j_iload_n 3 C dX11_sizeOf_4 rfl ?_
  refine j_aload_n 0 C dX11_sizeOf_5 rfl ?_
  refine gR_0_5 C wt_839 dX11_sizeOf_6 ?_
  refine j_icmp_ge 36 C rfl rfl dX11_sizeOf_9 (by decide) (fun h => ?_) (fun h => ?_)
  · have hf := ifp h hf
    refine j_iload_n 2 C dX11_sizeOf_36 rfl ?_
    exact retI hq hf dX11_sizeOf_37
  · have hf := ifn h hf
    refine j_iload_n 2 C dX11_sizeOf_12 rfl ?_
    refine j_aload_n 0 C dX11_sizeOf_13 rfl ?_
    refine gR_0_7 C wt_841 dX11_sizeOf_14 ?_
    refine j_iload_n 3 C dX11_sizeOf_17 rfl ?_
    obtain ⟨hI, hf⟩ := gI_s hf
    refine lR_4 C hI dX11_sizeOf_18 ?_
    refine j_iload_n 1 C dX11_sizeOf_19 rfl ?_
    refine j_icmp_ne 27 C rfl rfl dX11_sizeOf_20 (by decide) (fun h => ?_) (fun h => ?_)
    · have hf := ifn h hf
      refine j_iconst C dX11_sizeOf_27 ?_
      refine j_iadd C dX11_sizeOf_28 ?_
      refine j_istore_n [(2, .int (iI (v2 + 0))), (0, .ref (ad 0)), (1, .int (iI v1)), (3, .int (iI v3))] C dX11_sizeOf_29 (by decide) rfl ?_
      refine j_iinc 3 [(3, .int (iI (v3 + 1))), (2, .int (iI (v2 + 0))), (0, .ref (ad 0)), (1, .int (iI v1))] C dX11_sizeOf_30 (by decide) rfl rfl ?_
      refine j_goto 4 C dX11_sizeOf_33 (by decide) ?_
      exact j_sub [2, 3, 1, 0] rfl (hk4 _ _ _ _ hf)
    · have hf := ifp h hf
      refine j_iconst C dX11_sizeOf_23 ?_
      refine j_goto 28 C dX11_sizeOf_24 (by decide) ?_
      refine j_iadd C dX11_sizeOf_28 ?_
      refine j_istore_n [(2, .int (iI (v2 + 1))), (0, .ref (ad 0)), (1, .int (iI v1)), (3, .int (iI v3))] C dX11_sizeOf_29 (by decide) rfl ?_
      refine j_iinc 3 [(3, .int (iI (v3 + 1))), (2, .int (iI (v2 + 1))), (0, .ref (ad 0)), (1, .int (iI v1))] C dX11_sizeOf_30 (by decide) rfl rfl ?_
      refine j_goto 4 C dX11_sizeOf_33 (by decide) ?_
      exact j_sub [2, 3, 1, 0] rfl (hk4 _ _ _ _ hf)
theorem tX11_sizeOf_L4 {ad : Nat → Nat} {cI cZ : ClassId} {Γ : Cx} {r : Int} {σ' : St} (C : CX cI cZ rm_X11_sizeOf 4 Γ cX11_sizeOf RX11) (hq : RetI .int (wR ad cI cZ) Γ cX11_sizeOf r σ') (n : Nat) : ∀ (v1 v2 v3 : Int), ∀ (σ : St), fX11_sizeOf_L4 n v1 v2 v3 σ = some (r, σ') → JJ (wR ad cI cZ) Γ σ 4 [(0, .ref (ad 0)), (1, .int (iI v1)), (2, .int (iI v2)), (3, .int (iI v3))] [] := by
  induction n with
  | zero => intro _ _ _ _ hf; cases hf
  | succ n ih => intro v1 v2 v3 σ hf; exact tX11_sizeOf_B4 C hq ih v1 v2 v3 σ hf
set_option maxRecDepth 20000 in
theorem tX11_sizeOf_L0 {ad : Nat → Nat} {cI cZ : ClassId} {Γ : Cx} {r : Int} {σ' : St} (C : CX cI cZ rm_X11_sizeOf 4 Γ cX11_sizeOf RX11) (hq : RetI .int (wR ad cI cZ) Γ cX11_sizeOf r σ') (v1 : Int) (σ : St) (hf : fX11_sizeOf_L0 v1 σ = some (r, σ')) : JJ (wR ad cI cZ) Γ σ 0 [(0, .ref (ad 0)), (1, .int (iI v1))] [] := by
  unfold fX11_sizeOf_L0 at hf
  refine j_iconst C dX11_sizeOf_0 ?_
  refine j_istore_n [(2, .int (iI 0)), (0, .ref (ad 0)), (1, .int (iI v1))] C dX11_sizeOf_1 (by decide) rfl ?_
  refine j_iconst C dX11_sizeOf_2 ?_
  refine j_istore_n [(3, .int (iI 0)), (2, .int (iI 0)), (0, .ref (ad 0)), (1, .int (iI v1))] C dX11_sizeOf_3 (by decide) rfl ?_
  exact j_sub [2, 3, 1, 0] rfl (tX11_sizeOf_L4 C hq 1000 _ _ _ _ hf)
theorem c_X11_sizeOf (l : Launch) (D : va_G) (ad : Nat → Nat) (cI cZ : ClassId) (σ : St) (v1 : Int) (r : Int) (σ' : St) (hf : fX11_sizeOf σ v1 = some (r, σ')) : McI l yX11_sizeOf cX11_sizeOf 4 .int rm_X11_sizeOf D (tyL cI cZ) (wR ad cI cZ) [.ref (ad 0), .int (iI v1)] σ r σ' := McI.mk mf_X11_sizeOf.2.2.2.2.2 (Nat.le_of_ble_eq_true rfl) (fun Γ C hq => j_sub [0, 1] rfl (tX11_sizeOf_L0 C hq v1 σ hf))
/-! TermLodgingsModel.deal()I -/
def rm_X11_deal : Room := { frames := 5, cells := 0, slots := 0, locals := 119 }
set_option maxRecDepth 20000 in
theorem tX11_deal_B148 {ad : Nat → Nat} {cI cZ : ClassId} {Γ : Cx} {r : Int} {σ' : St} (C : CX cI cZ rm_X11_deal 6 Γ cX11_deal RX11) (hq : RetI .int (wR ad cI cZ) Γ cX11_deal r σ') {k27 : Int → Int → St → Option (Int × St)} {k148 : Int → Int → Int → Int → Int → St → Option (Int × St)} (hk27 : ∀ (v1 : Int) (v2 : Int) (σ : St), k27 v1 v2 σ = some (r, σ') → JJ (wR ad cI cZ) Γ σ 27 [(0, .ref (ad 0)), (1, .int (iI v1)), (2, .int (iI v2))] []) (hk148 : ∀ (v1 : Int) (v2 : Int) (v3 : Int) (v4 : Int) (v5 : Int) (σ : St), k148 v1 v2 v3 v4 v5 σ = some (r, σ') → JJ (wR ad cI cZ) Γ σ 148 [(0, .ref (ad 0)), (1, .int (iI v1)), (2, .int (iI v2)), (3, .int (iI v3)), (4, .int (iI v4)), (5, .int (iI v5))] []) (v1 : Int) (v2 : Int) (v3 : Int) (v4 : Int) (v5 : Int) (σ : St) (hf : fX11_deal_B148 k27 k148 v1 v2 v3 v4 v5 σ = some (r, σ')) : JJ (wR ad cI cZ) Γ σ 148 [(0, .ref (ad 0)), (1, .int (iI v1)), (2, .int (iI v2)), (3, .int (iI v3)), (4, .int (iI v4)), (5, .int (iI v5))] [] := by
  unfold fX11_deal_B148 at hf
  refine j_iload 5 C dX11_deal_148 rfl ?_
  refine j_aload_n 0 C dX11_deal_150 rfl ?_
  refine gR_0_5 C wt_839 dX11_deal_151 ?_
  refine j_icmp_ge 197 C rfl rfl dX11_deal_154 (by decide) (fun h => ?_) (fun h => ?_)
  · have hf := ifp h hf
    refine j_iinc 2 [(2, .int (iI (v2 + 1))), (0, .ref (ad 0)), (1, .int (iI v1)), (3, .int (iI v3)), (4, .int (iI v4)), (5, .int (iI v5))] C dX11_deal_197 (by decide) rfl rfl ?_
    refine j_goto 27 C dX11_deal_200 (by decide) ?_
    exact j_sub [1, 2, 0] rfl (hk27 _ _ _ hf)
  · have hf := ifn h hf
    refine j_aload_n 0 C dX11_deal_157 rfl ?_
    refine gR_0_7 C wt_841 dX11_deal_158 ?_
    refine j_iload 5 C dX11_deal_161 rfl ?_
    obtain ⟨hI, hf⟩ := gI_s hf
    refine lR_4 C hI dX11_deal_163 ?_
    refine j_aload_n 0 C dX11_deal_164 rfl ?_
    refine gR_0_7 C wt_841 dX11_deal_165 ?_
    refine j_iload_n 3 C dX11_deal_168 rfl ?_
    obtain ⟨hI, hf⟩ := gI_s hf
    refine lR_4 C hI dX11_deal_169 ?_
    refine j_icmp_ne 191 C rfl rfl dX11_deal_170 (by decide) (fun h => ?_) (fun h => ?_)
    · have hf := ifn h hf
      refine j_iinc 5 [(5, .int (iI (v5 + 1))), (0, .ref (ad 0)), (1, .int (iI v1)), (2, .int (iI v2)), (3, .int (iI v3)), (4, .int (iI v4))] C dX11_deal_191 (by decide) rfl rfl ?_
      refine j_goto 148 C dX11_deal_194 (by decide) ?_
      exact j_sub [1, 2, 3, 4, 5, 0] rfl (hk148 _ _ _ _ _ _ hf)
    · have hf := ifp h hf
      refine j_iload_n 1 C dX11_deal_173 rfl ?_
      refine j_iconst C dX11_deal_174 ?_
      refine j_iload 5 C dX11_deal_175 rfl ?_
      refine j_ishl C dX11_deal_177 ?_
      refine j_ior C dX11_deal_178 ?_
      refine j_istore_n [(1, .int (iI (bOr v1 (bShl 1 v5)))), (0, .ref (ad 0)), (2, .int (iI v2)), (3, .int (iI v3)), (4, .int (iI v4)), (5, .int (iI v5))] C dX11_deal_179 (by decide) rfl ?_
      refine j_iload 4 C dX11_deal_180 rfl ?_
      refine j_if_ne 191 C rfl dX11_deal_182 (by decide) (fun h => ?_) (fun h => ?_)
      · have hf := ifn h hf
        refine j_iinc 5 [(5, .int (iI (v5 + 1))), (1, .int (iI (bOr v1 (bShl 1 v5)))), (0, .ref (ad 0)), (2, .int (iI v2)), (3, .int (iI v3)), (4, .int (iI v4))] C dX11_deal_191 (by decide) rfl rfl ?_
        refine j_goto 148 C dX11_deal_194 (by decide) ?_
        exact j_sub [2, 1, 3, 4, 5, 0] rfl (hk148 _ _ _ _ _ _ hf)
      · have hf := ifp h hf
        refine j_aload_n 1 C dX11_deal_185 rfl ?_
        refine j_iload 5 C dX11_deal_186 rfl ?_
        obtain ⟨s1, hc, hf⟩ := bv_s hf
        refine j_cVv (q0 := 0) (ci := 11) (T := TX11) (N := 32) [.int (iI v5)] [] C (c_X11_dearest _ _ ad cI cZ _ _ _ hc) mf_X11_dearest wt_1047 wt_1049 ws_38 rfl rfl rfl ⟨rfl, rfl, by decide, by decide⟩ rfl (Nat.le_of_ble_eq_true rfl) dX11_deal_188 ?_
        refine j_iinc 5 [(5, .int (iI (v5 + 1))), (1, .int (iI (bOr v1 (bShl 1 v5)))), (0, .ref (ad 0)), (2, .int (iI v2)), (3, .int (iI v3)), (4, .int (iI v4))] C dX11_deal_191 (by decide) rfl rfl ?_
        refine j_goto 148 C dX11_deal_194 (by decide) ?_
        exact j_sub [2, 1, 3, 4, 5, 0] rfl (hk148 _ _ _ _ _ _ hf)
theorem tX11_deal_L148 {ad : Nat → Nat} {cI cZ : ClassId} {Γ : Cx} {r : Int} {σ' : St} (C : CX cI cZ rm_X11_deal 6 Γ cX11_deal RX11) (hq : RetI .int (wR ad cI cZ) Γ cX11_deal r σ') {k27 : Int → Int → St → Option (Int × St)} (hk27 : ∀ (v1 : Int) (v2 : Int) (σ : St), k27 v1 v2 σ = some (r, σ') → JJ (wR ad cI cZ) Γ σ 27 [(0, .ref (ad 0)), (1, .int (iI v1)), (2, .int (iI v2))] []) (n : Nat) : ∀ (v1 v2 v3 v4 v5 : Int), ∀ (σ : St), fX11_deal_L148 k27 n v1 v2 v3 v4 v5 σ = some (r, σ') → JJ (wR ad cI cZ) Γ σ 148 [(0, .ref (ad 0)), (1, .int (iI v1)), (2, .int (iI v2)), (3, .int (iI v3)), (4, .int (iI v4)), (5, .int (iI v5))] [] := by
  induction n with
  | zero => intro _ _ _ _ _ _ hf; cases hf
  | succ n ih => intro v1 v2 v3 v4 v5 σ hf; exact tX11_deal_B148 C hq hk27 ih v1 v2 v3 v4 v5 σ hf
set_option maxRecDepth 20000 in
theorem tX11_deal_B94 {ad : Nat → Nat} {cI cZ : ClassId} {Γ : Cx} {r : Int} {σ' : St} (C : CX cI cZ rm_X11_deal 6 Γ cX11_deal RX11) (hq : RetI .int (wR ad cI cZ) Γ cX11_deal r σ') {k27 : Int → Int → St → Option (Int × St)} {k94 : Int → Int → Int → Int → Int → St → Option (Int × St)} (hk27 : ∀ (v1 : Int) (v2 : Int) (σ : St), k27 v1 v2 σ = some (r, σ') → JJ (wR ad cI cZ) Γ σ 27 [(0, .ref (ad 0)), (1, .int (iI v1)), (2, .int (iI v2))] []) (hk94 : ∀ (v1 : Int) (v2 : Int) (v3 : Int) (v4 : Int) (v5 : Int) (σ : St), k94 v1 v2 v3 v4 v5 σ = some (r, σ') → JJ (wR ad cI cZ) Γ σ 94 [(0, .ref (ad 0)), (1, .int (iI v1)), (2, .int (iI v2)), (3, .int (iI v3)), (4, .int (iI v4)), (5, .int (iI v5))] []) (v1 : Int) (v2 : Int) (v3 : Int) (v4 : Int) (v5 : Int) (σ : St) (hf : fX11_deal_B94 k27 k94 v1 v2 v3 v4 v5 σ = some (r, σ')) : JJ (wR ad cI cZ) Γ σ 94 [(0, .ref (ad 0)), (1, .int (iI v1)), (2, .int (iI v2)), (3, .int (iI v3)), (4, .int (iI v4)), (5, .int (iI v5))] [] := by
  unfold fX11_deal_B94 at hf
  refine j_iload 5 C dX11_deal_94 rfl ?_
  refine j_aload_n 0 C dX11_deal_96 rfl ?_
  refine gR_0_8 C wt_842 dX11_deal_97 ?_
  refine j_iload_n 3 C dX11_deal_100 rfl ?_
  obtain ⟨hI, hf⟩ := gI_s hf
  refine lR_5 C hI dX11_deal_101 ?_
  refine j_icmp_ge 145 C rfl rfl dX11_deal_102 (by decide) (fun h => ?_) (fun h => ?_)
  · have hf := ifp h hf
    refine j_iconst C dX11_deal_145 ?_
    refine j_istore [(5, .int (iI 0)), (0, .ref (ad 0)), (1, .int (iI v1)), (2, .int (iI v2)), (3, .int (iI v3)), (4, .int (iI v4))] C dX11_deal_146 (by decide) rfl ?_
    exact j_sub [1, 2, 3, 4, 5, 0] rfl (tX11_deal_L148 C hq hk27 1000 _ _ _ _ _ _ hf)
  · have hf := ifn h hf
    refine j_iload 4 C dX11_deal_105 rfl ?_
    refine j_if_ne 145 C rfl dX11_deal_107 (by decide) (fun h => ?_) (fun h => ?_)
    · have hf := ifn h hf
      refine j_iconst C dX11_deal_145 ?_
      refine j_istore [(5, .int (iI 0)), (0, .ref (ad 0)), (1, .int (iI v1)), (2, .int (iI v2)), (3, .int (iI v3)), (4, .int (iI v4))] C dX11_deal_146 (by decide) rfl ?_
      exact j_sub [1, 2, 3, 4, 5, 0] rfl (tX11_deal_L148 C hq hk27 1000 _ _ _ _ _ _ hf)
    · have hf := ifp h hf
      refine j_aload_n 0 C dX11_deal_110 rfl ?_
      refine j_aload_n 0 C dX11_deal_111 rfl ?_
      refine gR_0_7 C wt_841 dX11_deal_112 ?_
      refine j_iload_n 3 C dX11_deal_115 rfl ?_
      obtain ⟨hI, hf⟩ := gI_s hf
      refine lR_4 C hI dX11_deal_116 ?_
      refine j_aload_n 0 C dX11_deal_117 rfl ?_
      refine gR_0_1 C wt_835 dX11_deal_118 ?_
      refine j_aload_n 0 C dX11_deal_121 rfl ?_
      refine gR_0_9 C wt_843 dX11_deal_122 ?_
      refine j_bipush C dX11_deal_125 bp_8 ?_
      refine j_iload_n 3 C dX11_deal_127 rfl ?_
      refine j_imul C dX11_deal_128 ?_
      refine j_iload 5 C dX11_deal_129 rfl ?_
      refine j_iadd C dX11_deal_131 ?_
      obtain ⟨hI, hf⟩ := gI_s hf
      refine lR_6 C hI dX11_deal_132 ?_
      obtain ⟨hI, hf⟩ := gI_s hf
      refine lR_0 C hI dX11_deal_133 ?_
      obtain ⟨a2, s2, hc, hf⟩ := bd_s hf
      refine j_cVi (q0 := 0) (ci := 11) (T := TX11) (N := 32) [.int (iI (σ.2 4 (ix v3))), .int (iI (σ.2 0 (ix (σ.2 6 (ix ((8 * v3) + v5))))))] [] C (c_X11_moveInto _ _ ad cI cZ _ _ _ _ _ hc) mf_X11_moveInto wt_1051 wt_1053 ws_39 rfl rfl rfl ⟨rfl, rfl, by decide, by decide⟩ rfl (Nat.le_of_ble_eq_true rfl) dX11_deal_134 ?_
      refine j_istore [(4, .int (iI a2)), (0, .ref (ad 0)), (1, .int (iI v1)), (2, .int (iI v2)), (3, .int (iI v3)), (5, .int (iI v5))] C dX11_deal_137 (by decide) rfl ?_
      refine j_iinc 5 [(5, .int (iI (v5 + 1))), (4, .int (iI a2)), (0, .ref (ad 0)), (1, .int (iI v1)), (2, .int (iI v2)), (3, .int (iI v3))] C dX11_deal_139 (by decide) rfl rfl ?_
      refine j_goto 94 C dX11_deal_142 (by decide) ?_
      exact j_sub [2, 3, 4, 5, 1, 0] rfl (hk94 _ _ _ _ _ _ hf)
theorem tX11_deal_L94 {ad : Nat → Nat} {cI cZ : ClassId} {Γ : Cx} {r : Int} {σ' : St} (C : CX cI cZ rm_X11_deal 6 Γ cX11_deal RX11) (hq : RetI .int (wR ad cI cZ) Γ cX11_deal r σ') {k27 : Int → Int → St → Option (Int × St)} (hk27 : ∀ (v1 : Int) (v2 : Int) (σ : St), k27 v1 v2 σ = some (r, σ') → JJ (wR ad cI cZ) Γ σ 27 [(0, .ref (ad 0)), (1, .int (iI v1)), (2, .int (iI v2))] []) (n : Nat) : ∀ (v1 v2 v3 v4 v5 : Int), ∀ (σ : St), fX11_deal_L94 k27 n v1 v2 v3 v4 v5 σ = some (r, σ') → JJ (wR ad cI cZ) Γ σ 94 [(0, .ref (ad 0)), (1, .int (iI v1)), (2, .int (iI v2)), (3, .int (iI v3)), (4, .int (iI v4)), (5, .int (iI v5))] [] := by
  induction n with
  | zero => intro _ _ _ _ _ _ hf; cases hf
  | succ n ih => intro v1 v2 v3 v4 v5 σ hf; exact tX11_deal_B94 C hq hk27 ih v1 v2 v3 v4 v5 σ hf
set_option maxRecDepth 20000 in
theorem tX11_deal_B27 {ad : Nat → Nat} {cI cZ : ClassId} {Γ : Cx} {r : Int} {σ' : St} (C : CX cI cZ rm_X11_deal 6 Γ cX11_deal RX11) (hq : RetI .int (wR ad cI cZ) Γ cX11_deal r σ') {k27 : Int → Int → St → Option (Int × St)} (hk27 : ∀ (v1 : Int) (v2 : Int) (σ : St), k27 v1 v2 σ = some (r, σ') → JJ (wR ad cI cZ) Γ σ 27 [(0, .ref (ad 0)), (1, .int (iI v1)), (2, .int (iI v2))] []) (v1 : Int) (v2 : Int) (σ : St) (hf : fX11_deal_B27 k27 v1 v2 σ = some (r, σ')) : JJ (wR ad cI cZ) Γ σ 27 [(0, .ref (ad 0)), (1, .int (iI v1)), (2, .int (iI v2))] [] := by
  unfold fX11_deal_B27 at hf
  refine j_iload_n 2 C dX11_deal_27 rfl ?_
  refine j_aload_n 0 C dX11_deal_28 rfl ?_
  refine gR_0_5 C wt_839 dX11_deal_29 ?_
  refine j_icmp_ge 203 C rfl rfl dX11_deal_32 (by decide) (fun h => ?_) (fun h => ?_)
  · have hf := ifp h hf
    refine j_aload_n 0 C dX11_deal_203 rfl ?_
    obtain ⟨a3, s3, hc, hf⟩ := bd_s hf
    refine j_cVi (q0 := 0) (ci := 11) (T := TX11) (N := 32) [] [] C (c_X11_housed _ _ ad cI cZ _ _ _ hc) mf_X11_housed wt_1055 wt_1057 ws_40 rfl rfl rfl ⟨rfl, rfl, by decide, by decide⟩ rfl (Nat.le_of_ble_eq_true rfl) dX11_deal_204 ?_
    exact retI hq hf dX11_deal_207
  · have hf := ifn h hf
    refine j_aload_n 0 C dX11_deal_35 rfl ?_
    refine gR_0_13 C wt_847 dX11_deal_36 ?_
    refine j_iload_n 2 C dX11_deal_39 rfl ?_
    obtain ⟨hI, hf⟩ := gI_s hf
    refine lR_10 C hI dX11_deal_40 ?_
    refine j_istore_n [(3, .int (iI (σ.2 10 (ix v2)))), (0, .ref (ad 0)), (1, .int (iI v1)), (2, .int (iI v2))] C dX11_deal_41 (by decide) rfl ?_
    refine j_iload_n 2 C dX11_deal_42 rfl ?_
    refine j_iload_n 0 C dX11_deal_43 rfl ?_
    refine j_ishr C dX11_deal_44 ?_
    refine j_iconst C dX11_deal_45 ?_
    refine j_iand C dX11_deal_46 ?_
    refine j_if_ne 197 C rfl dX11_deal_47 (by decide) (fun h => ?_) (fun h => ?_)
    · have hf := ifn h hf
      refine j_iinc 3 [(2, .int (iI (v2 + 1))), (3, .int (iI (σ.2 10 (ix v2)))), (0, .ref (ad 0)), (1, .int (iI v1))] C dX11_deal_197 (by decide) rfl rfl ?_
      refine j_goto 27 C dX11_deal_200 (by decide) ?_
      exact j_sub [2, 3, 0] rfl (hk27 _ _ _ hf)
    · have hf := ifp h hf
      refine j_iload_n 2 C dX11_deal_50 rfl ?_
      refine j_iconst C dX11_deal_51 ?_
      refine j_iload_n 0 C dX11_deal_52 rfl ?_
      refine j_ishl C dX11_deal_53 ?_
      refine j_ior C dX11_deal_54 ?_
      refine j_istore_n [(1, .int (iI (bOr v1 (bShl 1 (σ.2 10 (ix v2)))))), (3, .int (iI (σ.2 10 (ix v2)))), (0, .ref (ad 0)), (2, .int (iI v2))] C dX11_deal_55 (by decide) rfl ?_
      refine j_aload_n 2 C dX11_deal_56 rfl ?_
      refine gR_0_7 C wt_841 dX11_deal_57 ?_
      refine j_iload_n 1 C dX11_deal_60 rfl ?_
      obtain ⟨hI, hf⟩ := gI_s hf
      refine lR_4 C hI dX11_deal_61 ?_
      refine j_iconst C dX11_deal_62 ?_
      refine j_icmp_eq 80 C rfl wl_m1 dX11_deal_63 (by decide) (fun h => ?_) (fun h => ?_)
      · have hf := ifp h hf
        refine j_aload_n 2 C dX11_deal_80 rfl ?_
        refine j_iload_n 1 C dX11_deal_81 rfl ?_
        obtain ⟨s4, hc, hf⟩ := bv_s hf
        refine j_cVv (q0 := 0) (ci := 11) (T := TX11) (N := 32) [.int (iI (σ.2 10 (ix v2)))] [] C (c_X11_dearest _ _ ad cI cZ _ _ _ hc) mf_X11_dearest wt_1047 wt_1049 ws_38 rfl rfl rfl ⟨rfl, rfl, by decide, by decide⟩ rfl (Nat.le_of_ble_eq_true rfl) dX11_deal_82 ?_
        refine j_goto 197 C dX11_deal_85 (by decide) ?_
        refine j_iinc 3 [(2, .int (iI (v2 + 1))), (1, .int (iI (bOr v1 (bShl 1 (σ.2 10 (ix v2)))))), (3, .int (iI (σ.2 10 (ix v2)))), (0, .ref (ad 0))] C dX11_deal_197 (by decide) rfl rfl ?_
        refine j_goto 27 C dX11_deal_200 (by decide) ?_
        exact j_sub [3, 1, 0] rfl (hk27 _ _ _ hf)
      · have hf := ifn h hf
        refine j_aload_n 2 C dX11_deal_66 rfl ?_
        refine j_aload_n 2 C dX11_deal_67 rfl ?_
        refine gR_0_7 C wt_841 dX11_deal_68 ?_
        refine j_iload_n 1 C dX11_deal_71 rfl ?_
        obtain ⟨hI, hf⟩ := gI_s hf
        refine lR_4 C hI dX11_deal_72 ?_
        obtain ⟨a5, s5, hc, hf⟩ := bd_s hf
        refine j_cVi (q0 := 0) (ci := 11) (T := TX11) (N := 32) [.int (iI (σ.2 4 (ix (σ.2 10 (ix v2)))))] [] C (c_X11_sizeOf _ _ ad cI cZ _ _ _ _ hc) mf_X11_sizeOf wt_1043 wt_1045 ws_37 rfl rfl rfl ⟨rfl, rfl, by decide, by decide⟩ rfl (Nat.le_of_ble_eq_true rfl) dX11_deal_73 ?_
        refine j_iconst C dX11_deal_76 ?_
        refine j_icmp_ne 88 C rfl wl_1 dX11_deal_77 (by decide) (fun h => ?_) (fun h => ?_)
        · have hf := ifn h hf
          refine j_iconst C dX11_deal_88 ?_
          refine j_istore [(4, .int (iI 0)), (1, .int (iI (bOr v1 (bShl 1 (σ.2 10 (ix v2)))))), (3, .int (iI (σ.2 10 (ix v2)))), (0, .ref (ad 0)), (2, .int (iI v2))] C dX11_deal_89 (by decide) rfl ?_
          refine j_iconst C dX11_deal_91 ?_
          refine j_istore [(5, .int (iI 0)), (4, .int (iI 0)), (1, .int (iI (bOr v1 (bShl 1 (σ.2 10 (ix v2)))))), (3, .int (iI (σ.2 10 (ix v2)))), (0, .ref (ad 0)), (2, .int (iI v2))] C dX11_deal_92 (by decide) rfl ?_
          exact j_sub [4, 2, 5, 3, 1, 0] rfl (tX11_deal_L94 C hq hk27 1000 _ _ _ _ _ _ hf)
        · have hf := ifp h hf
          refine j_aload_n 2 C dX11_deal_80 rfl ?_
          refine j_iload_n 1 C dX11_deal_81 rfl ?_
          obtain ⟨s6, hc, hf⟩ := bv_s hf
          refine j_cVv (q0 := 0) (ci := 11) (T := TX11) (N := 32) [.int (iI (σ.2 10 (ix v2)))] [] C (c_X11_dearest _ _ ad cI cZ _ _ _ hc) mf_X11_dearest wt_1047 wt_1049 ws_38 rfl rfl rfl ⟨rfl, rfl, by decide, by decide⟩ rfl (Nat.le_of_ble_eq_true rfl) dX11_deal_82 ?_
          refine j_goto 197 C dX11_deal_85 (by decide) ?_
          refine j_iinc 3 [(2, .int (iI (v2 + 1))), (1, .int (iI (bOr v1 (bShl 1 (σ.2 10 (ix v2)))))), (3, .int (iI (σ.2 10 (ix v2)))), (0, .ref (ad 0))] C dX11_deal_197 (by decide) rfl rfl ?_
          refine j_goto 27 C dX11_deal_200 (by decide) ?_
          exact j_sub [3, 1, 0] rfl (hk27 _ _ _ hf)
theorem tX11_deal_L27 {ad : Nat → Nat} {cI cZ : ClassId} {Γ : Cx} {r : Int} {σ' : St} (C : CX cI cZ rm_X11_deal 6 Γ cX11_deal RX11) (hq : RetI .int (wR ad cI cZ) Γ cX11_deal r σ') (n : Nat) : ∀ (v1 v2 : Int), ∀ (σ : St), fX11_deal_L27 n v1 v2 σ = some (r, σ') → JJ (wR ad cI cZ) Γ σ 27 [(0, .ref (ad 0)), (1, .int (iI v1)), (2, .int (iI v2))] [] := by
  induction n with
  | zero => intro _ _ _ hf; cases hf
  | succ n ih => intro v1 v2 σ hf; exact tX11_deal_B27 C hq ih v1 v2 σ hf
set_option maxRecDepth 20000 in
theorem tX11_deal_B2 {ad : Nat → Nat} {cI cZ : ClassId} {Γ : Cx} {r : Int} {σ' : St} (C : CX cI cZ rm_X11_deal 6 Γ cX11_deal RX11) (hq : RetI .int (wR ad cI cZ) Γ cX11_deal r σ') {k2 : Int → St → Option (Int × St)} (hk2 : ∀ (v1 : Int) (σ : St), k2 v1 σ = some (r, σ') → JJ (wR ad cI cZ) Γ σ 2 [(0, .ref (ad 0)), (1, .int (iI v1))] []) (v1 : Int) (σ : St) (hf : fX11_deal_B2 k2 v1 σ = some (r, σ')) : JJ (wR ad cI cZ) Γ σ 2 [(0, .ref (ad 0)), (1, .int (iI v1))] [] := by
  unfold fX11_deal_B2 at hf
  refine j_iload_n 1 C dX11_deal_2 rfl ?_
  refine j_aload_n 0 C dX11_deal_3 rfl ?_
  refine gR_0_5 C wt_839 dX11_deal_4 ?_
  refine j_icmp_ge 23 C rfl rfl dX11_deal_7 (by decide) (fun h => ?_) (fun h => ?_)
  · have hf := ifp h hf
    refine j_iconst C dX11_deal_23 ?_
    refine j_istore_n [(1, .int (iI 0)), (0, .ref (ad 0))] C dX11_deal_24 (by decide) rfl ?_
    refine j_iconst C dX11_deal_25 ?_
    refine j_istore_n [(2, .int (iI 0)), (1, .int (iI 0)), (0, .ref (ad 0))] C dX11_deal_26 (by decide) rfl ?_
    exact j_sub [2, 1, 0] rfl (tX11_deal_L27 C hq 1000 _ _ _ hf)
  · have hf := ifn h hf
    refine j_aload_n 0 C dX11_deal_10 rfl ?_
    refine gR_0_10 C wt_844 dX11_deal_11 ?_
    refine j_iload_n 1 C dX11_deal_14 rfl ?_
    refine j_iconst C dX11_deal_15 ?_
    obtain ⟨hI, hf⟩ := gI_s hf
    refine tR_7 C hI dX11_deal_16 ?_
    refine j_iinc 1 [(1, .int (iI (v1 + 1))), (0, .ref (ad 0))] C dX11_deal_17 (by decide) rfl rfl ?_
    refine j_goto 2 C dX11_deal_20 (by decide) ?_
    exact j_sub [1, 0] rfl (hk2 _ _ hf)
theorem tX11_deal_L2 {ad : Nat → Nat} {cI cZ : ClassId} {Γ : Cx} {r : Int} {σ' : St} (C : CX cI cZ rm_X11_deal 6 Γ cX11_deal RX11) (hq : RetI .int (wR ad cI cZ) Γ cX11_deal r σ') (n : Nat) : ∀ (v1 : Int), ∀ (σ : St), fX11_deal_L2 n v1 σ = some (r, σ') → JJ (wR ad cI cZ) Γ σ 2 [(0, .ref (ad 0)), (1, .int (iI v1))] [] := by
  induction n with
  | zero => intro _ _ hf; cases hf
  | succ n ih => intro v1 σ hf; exact tX11_deal_B2 C hq ih v1 σ hf
set_option maxRecDepth 20000 in
theorem tX11_deal_L0 {ad : Nat → Nat} {cI cZ : ClassId} {Γ : Cx} {r : Int} {σ' : St} (C : CX cI cZ rm_X11_deal 6 Γ cX11_deal RX11) (hq : RetI .int (wR ad cI cZ) Γ cX11_deal r σ') (σ : St) (hf : fX11_deal_L0 σ = some (r, σ')) : JJ (wR ad cI cZ) Γ σ 0 [(0, .ref (ad 0))] [] := by
  unfold fX11_deal_L0 at hf
  refine j_iconst C dX11_deal_0 ?_
  refine j_istore_n [(1, .int (iI 0)), (0, .ref (ad 0))] C dX11_deal_1 (by decide) rfl ?_
  exact j_sub [1, 0] rfl (tX11_deal_L2 C hq 1000 _ _ hf)
theorem c_X11_deal (l : Launch) (D : va_G) (ad : Nat → Nat) (cI cZ : ClassId) (σ : St) (r : Int) (σ' : St) (hf : fX11_deal σ = some (r, σ')) : McI l yX11_deal cX11_deal 6 .int rm_X11_deal D (tyL cI cZ) (wR ad cI cZ) [.ref (ad 0)] σ r σ' := McI.mk mf_X11_deal.2.2.2.2.2 (Nat.le_of_ble_eq_true rfl) (fun Γ C hq => j_sub [0] rfl (tX11_deal_L0 C hq  σ hf))
/-! TermLodgingsModel.pointOf(II)I -/
def rm_X11_pointOf : Room := { frames := 4, cells := 0, slots := 0, locals := 94 }
set_option maxRecDepth 20000 in
theorem tX11_pointOf_B2 {ad : Nat → Nat} {cI cZ : ClassId} {Γ : Cx} {r : Int} {σ' : St} (C : CX cI cZ rm_X11_pointOf 6 Γ cX11_pointOf RX11) (hq : RetI .int (wR ad cI cZ) Γ cX11_pointOf r σ') {k2 : Int → Int → Int → St → Option (Int × St)} (hk2 : ∀ (v1 : Int) (v2 : Int) (v3 : Int) (σ : St), k2 v1 v2 v3 σ = some (r, σ') → JJ (wR ad cI cZ) Γ σ 2 [(0, .ref (ad 0)), (1, .int (iI v1)), (2, .int (iI v2)), (3, .int (iI v3))] []) (v1 : Int) (v2 : Int) (v3 : Int) (σ : St) (hf : fX11_pointOf_B2 k2 v1 v2 v3 σ = some (r, σ')) : JJ (wR ad cI cZ) Γ σ 2 [(0, .ref (ad 0)), (1, .int (iI v1)), (2, .int (iI v2)), (3, .int (iI v3))] [] := by
  unfold fX11_pointOf_B2 at hf
  refine j_iload_n 3 C dX11_pointOf_2 rfl ?_
  refine j_aload_n 0 C dX11_pointOf_3 rfl ?_
  refine gR_0_8 C wt_842 dX11_pointOf_4 ?_
  refine j_iload_n 1 C dX11_pointOf_7 rfl ?_
  obtain ⟨hI, hf⟩ := gI_s hf
  refine lR_5 C hI dX11_pointOf_8 ?_
  refine j_icmp_ge 81 C rfl rfl dX11_pointOf_9 (by decide) (fun h => ?_) (fun h => ?_)
  · have hf := ifp h hf
    refine j_iload_n 1 C dX11_pointOf_81 rfl ?_
    exact retI hq hf dX11_pointOf_82
  · have hf := ifn h hf
    refine j_aload_n 0 C dX11_pointOf_12 rfl ?_
    refine gR_0_9 C wt_843 dX11_pointOf_13 ?_
    refine j_bipush C dX11_pointOf_16 bp_8 ?_
    refine j_iload_n 1 C dX11_pointOf_18 rfl ?_
    refine j_imul C dX11_pointOf_19 ?_
    refine j_iload_n 3 C dX11_pointOf_20 rfl ?_
    refine j_iadd C dX11_pointOf_21 ?_
    obtain ⟨hI, hf⟩ := gI_s hf
    refine lR_6 C hI dX11_pointOf_22 ?_
    refine j_istore [(4, .int (iI (σ.2 6 (ix ((8 * v1) + v3))))), (0, .ref (ad 0)), (1, .int (iI v1)), (2, .int (iI v2)), (3, .int (iI v3))] C dX11_pointOf_23 (by decide) rfl ?_
    refine j_iload 0 C dX11_pointOf_25 rfl ?_
    refine j_aload_n 1 C dX11_pointOf_27 rfl ?_
    refine gR_0_10 C wt_844 dX11_pointOf_28 ?_
    refine j_iload_n 2 C dX11_pointOf_31 rfl ?_
    obtain ⟨hI, hf⟩ := gI_s hf
    refine lR_7 C hI dX11_pointOf_32 ?_
    refine j_icmp_ne 38 C rfl rfl dX11_pointOf_33 (by decide) (fun h => ?_) (fun h => ?_)
    · have hf := ifn h hf
      refine j_aload_n 1 C dX11_pointOf_38 rfl ?_
      refine j_iload 0 C dX11_pointOf_39 rfl ?_
      obtain ⟨a1, s1, hc, hf⟩ := bd_s hf
      refine j_cVi (q0 := 0) (ci := 11) (T := TX11) (N := 32) [.int (iI (σ.2 6 (ix ((8 * v1) + v3))))] [] C (c_X11_whoHas _ _ ad cI cZ _ _ _ _ hc) mf_X11_whoHas wt_976 wt_978 ws_34 rfl rfl rfl ⟨rfl, rfl, by decide, by decide⟩ rfl (Nat.le_of_ble_eq_true rfl) dX11_pointOf_41 ?_
      refine j_istore [(5, .int (iI a1)), (4, .int (iI (σ.2 6 (ix ((8 * v1) + v3))))), (0, .ref (ad 0)), (1, .int (iI v1)), (2, .int (iI v2)), (3, .int (iI v3))] C dX11_pointOf_44 (by decide) rfl ?_
      refine j_iload 0 C dX11_pointOf_46 rfl ?_
      refine j_iconst C dX11_pointOf_48 ?_
      refine j_icmp_eq 75 C rfl wl_m1 dX11_pointOf_49 (by decide) (fun h => ?_) (fun h => ?_)
      · have hf := ifp h hf
        refine j_iinc 5 [(3, .int (iI (v3 + 1))), (5, .int (iI a1)), (4, .int (iI (σ.2 6 (ix ((8 * v1) + v3))))), (0, .ref (ad 0)), (1, .int (iI v1)), (2, .int (iI v2))] C dX11_pointOf_75 (by decide) rfl rfl ?_
        refine j_goto 2 C dX11_pointOf_78 (by decide) ?_
        exact j_sub [3, 4, 5, 0] rfl (hk2 _ _ _ _ hf)
      · have hf := ifn h hf
        refine j_iload_n 4 C dX11_pointOf_52 rfl ?_
        refine j_iload 0 C dX11_pointOf_53 rfl ?_
        refine j_ishr C dX11_pointOf_55 ?_
        refine j_iconst C dX11_pointOf_56 ?_
        refine j_iand C dX11_pointOf_57 ?_
        refine j_iconst C dX11_pointOf_58 ?_
        refine j_icmp_ne 75 C rfl wl_1 dX11_pointOf_59 (by decide) (fun h => ?_) (fun h => ?_)
        · have hf := ifn h hf
          refine j_iinc 5 [(3, .int (iI (v3 + 1))), (5, .int (iI a1)), (4, .int (iI (σ.2 6 (ix ((8 * v1) + v3))))), (0, .ref (ad 0)), (1, .int (iI v1)), (2, .int (iI v2))] C dX11_pointOf_75 (by decide) rfl rfl ?_
          refine j_goto 2 C dX11_pointOf_78 (by decide) ?_
          exact j_sub [3, 4, 5, 0] rfl (hk2 _ _ _ _ hf)
        · have hf := ifp h hf
          refine j_aload_n 2 C dX11_pointOf_62 rfl ?_
          refine j_iload_n 3 C dX11_pointOf_63 rfl ?_
          refine j_iload 1 C dX11_pointOf_64 rfl ?_
          obtain ⟨a2, s2, hc, hf⟩ := bd_s hf
          refine j_cVi (q0 := 0) (ci := 11) (T := TX11) (N := 32) [.int (iI v1), .int (iI (σ.2 6 (ix ((8 * v1) + v3))))] [] C (c_X11_mayLive _ _ ad cI cZ _ _ _ _ _ hc) mf_X11_mayLive wt_984 wt_986 ws_35 rfl rfl rfl ⟨rfl, rfl, by decide, by decide⟩ rfl (Nat.le_of_ble_eq_true rfl) dX11_pointOf_66 ?_
          refine j_if_eq 75 C rfl dX11_pointOf_69 (by decide) (fun h => ?_) (fun h => ?_)
          · have hf := ifp h hf
            refine j_iinc 5 [(3, .int (iI (v3 + 1))), (5, .int (iI a1)), (4, .int (iI (σ.2 6 (ix ((8 * v1) + v3))))), (0, .ref (ad 0)), (1, .int (iI v1)), (2, .int (iI v2))] C dX11_pointOf_75 (by decide) rfl rfl ?_
            refine j_goto 2 C dX11_pointOf_78 (by decide) ?_
            exact j_sub [3, 4, 5, 0] rfl (hk2 _ _ _ _ hf)
          · have hf := ifn h hf
            refine j_iload 0 C dX11_pointOf_72 rfl ?_
            exact retI hq hf dX11_pointOf_74
    · have hf := ifp h hf
      refine j_iload_n 2 C dX11_pointOf_36 rfl ?_
      exact retI hq hf dX11_pointOf_37
theorem tX11_pointOf_L2 {ad : Nat → Nat} {cI cZ : ClassId} {Γ : Cx} {r : Int} {σ' : St} (C : CX cI cZ rm_X11_pointOf 6 Γ cX11_pointOf RX11) (hq : RetI .int (wR ad cI cZ) Γ cX11_pointOf r σ') (n : Nat) : ∀ (v1 v2 v3 : Int), ∀ (σ : St), fX11_pointOf_L2 n v1 v2 v3 σ = some (r, σ') → JJ (wR ad cI cZ) Γ σ 2 [(0, .ref (ad 0)), (1, .int (iI v1)), (2, .int (iI v2)), (3, .int (iI v3))] [] := by
  induction n with
  | zero => intro _ _ _ _ hf; cases hf
  | succ n ih => intro v1 v2 v3 σ hf; exact tX11_pointOf_B2 C hq ih v1 v2 v3 σ hf
set_option maxRecDepth 20000 in
theorem tX11_pointOf_L0 {ad : Nat → Nat} {cI cZ : ClassId} {Γ : Cx} {r : Int} {σ' : St} (C : CX cI cZ rm_X11_pointOf 6 Γ cX11_pointOf RX11) (hq : RetI .int (wR ad cI cZ) Γ cX11_pointOf r σ') (v1 : Int) (v2 : Int) (σ : St) (hf : fX11_pointOf_L0 v1 v2 σ = some (r, σ')) : JJ (wR ad cI cZ) Γ σ 0 [(0, .ref (ad 0)), (1, .int (iI v1)), (2, .int (iI v2))] [] := by
  unfold fX11_pointOf_L0 at hf
  refine j_iconst C dX11_pointOf_0 ?_
  refine j_istore_n [(3, .int (iI 0)), (0, .ref (ad 0)), (1, .int (iI v1)), (2, .int (iI v2))] C dX11_pointOf_1 (by decide) rfl ?_
  exact j_sub [1, 2, 3, 0] rfl (tX11_pointOf_L2 C hq 1000 _ _ _ _ hf)
theorem c_X11_pointOf (l : Launch) (D : va_G) (ad : Nat → Nat) (cI cZ : ClassId) (σ : St) (v1 : Int) (v2 : Int) (r : Int) (σ' : St) (hf : fX11_pointOf σ v1 v2 = some (r, σ')) : McI l yX11_pointOf cX11_pointOf 6 .int rm_X11_pointOf D (tyL cI cZ) (wR ad cI cZ) [.ref (ad 0), .int (iI v1), .int (iI v2)] σ r σ' := McI.mk mf_X11_pointOf.2.2.2.2.2 (Nat.le_of_ble_eq_true rfl) (fun Γ C hq => j_sub [0, 1, 2] rfl (tX11_pointOf_L0 C hq v1 v2 σ hf))
