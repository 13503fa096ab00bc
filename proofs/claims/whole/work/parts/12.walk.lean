/-! TermLodgings$People.add(II)I -/
def rm_X3_add : Room := { frames := 0, cells := 0, slots := 0, locals := 0 }
set_option maxRecDepth 20000 in
theorem tX3_add_L0 {ad : Nat → Nat} {cI cZ : ClassId} {Γ : Cx} {r : Int} {σ' : St} (C : CX cI cZ rm_X3_add 3 Γ cX3_add RX3) (hq : RetI .int (wC ad cI cZ) Γ cX3_add r σ') (v1 : Int) (v2 : Int) (σ : St) (hf : fX3_add_L0 v1 v2 σ = some (r, σ')) : JJ (wC ad cI cZ) Γ σ 0 [(0, .ref (ad 3)), (1, .int (iI v1)), (2, .int (iI v2))] [] := by
  unfold fX3_add_L0 at hf
  refine j_aload_n 0 C dX3_add_0 rfl ?_
  refine gC_3_0 C wt_78 dX3_add_1 ?_
  refine j_bipush C dX3_add_4 bp_16 ?_
  refine j_icmp_lt 12 C rfl wl_16 dX3_add_6 (by decide) (fun h => ?_) (fun h => ?_)
  · have hf := ifp h hf
    refine j_aload_n 0 C dX3_add_12 rfl ?_
    refine gC_3_1 C wt_85 dX3_add_13 ?_
    refine j_aload_n 0 C dX3_add_16 rfl ?_
    refine gC_3_0 C wt_78 dX3_add_17 ?_
    refine j_iload_n 1 C dX3_add_20 rfl ?_
    obtain ⟨hI, hf⟩ := gI_s hf
    refine tC_5 C hI dX3_add_21 ?_
    refine j_aload_n 0 C dX3_add_22 rfl ?_
    refine gC_3_2 C wt_88 dX3_add_23 ?_
    refine j_aload_n 0 C dX3_add_26 rfl ?_
    refine gC_3_0 C wt_78 dX3_add_27 ?_
    refine j_iload_n 2 C dX3_add_30 rfl ?_
    obtain ⟨hI, hf⟩ := gI_s hf
    refine tC_6 C hI dX3_add_31 ?_
    refine j_aload_n 0 C dX3_add_32 rfl ?_
    refine gC_3_5 C wt_93 dX3_add_33 ?_
    refine j_aload_n 0 C dX3_add_36 rfl ?_
    refine gC_3_0 C wt_78 dX3_add_37 ?_
    refine j_iconst C dX3_add_40 ?_
    obtain ⟨hI, hf⟩ := gI_s hf
    refine tC_9 C hI dX3_add_41 ?_
    refine j_aload_n 0 C dX3_add_42 rfl ?_
    refine j_dup C rfl dX3_add_43 ?_
    refine gC_3_0 C wt_78 dX3_add_44 ?_
    refine j_iconst C dX3_add_47 ?_
    refine j_iadd C dX3_add_48 ?_
    refine pC_3_0 C wt_78 dX3_add_49 ?_
    refine j_aload_n 0 C dX3_add_52 rfl ?_
    refine gC_3_0 C wt_78 dX3_add_53 ?_
    refine j_iconst C dX3_add_56 ?_
    refine j_isub C dX3_add_57 ?_
    exact retI hq hf dX3_add_58
  · have hf := ifn h hf
    refine j_bipush C dX3_add_9 bp_m4 ?_
    exact retI hq hf dX3_add_11
theorem c_X3_add (l : Launch) (D : va_G) (ad : Nat → Nat) (cI cZ : ClassId) (σ : St) (v1 : Int) (v2 : Int) (r : Int) (σ' : St) (hf : fX3_add σ v1 v2 = some (r, σ')) : McI l yX3_add cX3_add 3 .int rm_X3_add D (tyL cI cZ) (wC ad cI cZ) [.ref (ad 3), .int (iI v1), .int (iI v2)] σ r σ' := McI.mk mf_X3_add.2.2.2.2.2 (Nat.le_of_ble_eq_true rfl) (fun Γ C hq => j_sub [0, 1, 2] rfl (tX3_add_L0 C hq v1 v2 σ hf))
/-! TermLodgings$People.wishesFor(II)Z -/
def rm_X3_wishesFor : Room := { frames := 2, cells := 0, slots := 0, locals := 44 }
set_option maxRecDepth 20000 in
theorem tX3_wishesFor_B2 {ad : Nat → Nat} {cI cZ : ClassId} {Γ : Cx} {r : Int} {σ' : St} (C : CX cI cZ rm_X3_wishesFor 4 Γ cX3_wishesFor RX3) (hq : RetI .boolean (wC ad cI cZ) Γ cX3_wishesFor r σ') {k2 : Int → Int → Int → St → Option (Int × St)} (hk2 : ∀ (v1 : Int) (v2 : Int) (v3 : Int) (σ : St), k2 v1 v2 v3 σ = some (r, σ') → JJ (wC ad cI cZ) Γ σ 2 [(0, .ref (ad 3)), (1, .int (iI v1)), (2, .int (iI v2)), (3, .int (iI v3))] []) (v1 : Int) (v2 : Int) (v3 : Int) (σ : St) (hf : fX3_wishesFor_B2 k2 v1 v2 v3 σ = some (r, σ')) : JJ (wC ad cI cZ) Γ σ 2 [(0, .ref (ad 3)), (1, .int (iI v1)), (2, .int (iI v2)), (3, .int (iI v3))] [] := by
  unfold fX3_wishesFor_B2 at hf
  refine j_iload_n 3 C dX3_wishesFor_2 rfl ?_
  refine j_aload_n 0 C dX3_wishesFor_3 rfl ?_
  refine j_iload_n 1 C dX3_wishesFor_4 rfl ?_
  obtain ⟨a1, s1, hc, hf⟩ := bd_s hf
  refine j_cVi (q0 := 3) (ci := 3) (T := TX3) (N := 8) [.int (iI v1)] [.int (iI v3)] C (c_X3_wishesOf _ _ ad cI cZ _ _ _ _ hc) mf_X3_wishesOf wt_397 wt_398 wt_399 rfl rfl rfl ⟨rfl, rfl, by decide, by decide⟩ rfl (Nat.le_of_ble_eq_true rfl) dX3_wishesFor_5 ?_
  refine j_icmp_ge 29 C rfl rfl dX3_wishesFor_8 (by decide) (fun h => ?_) (fun h => ?_)
  · have hf := ifp h hf
    refine j_iconst C dX3_wishesFor_29 ?_
    exact retZc hq isB_0 hf dX3_wishesFor_30
  · have hf := ifn h hf
    refine j_aload_n 0 C dX3_wishesFor_11 rfl ?_
    refine j_iload_n 1 C dX3_wishesFor_12 rfl ?_
    refine j_iload_n 3 C dX3_wishesFor_13 rfl ?_
    obtain ⟨a2, s2, hc, hf⟩ := bd_s hf
    refine j_cVi (q0 := 3) (ci := 3) (T := TX3) (N := 8) [.int (iI v1), .int (iI v3)] [] C (c_X3_wishAt _ _ ad cI cZ _ _ _ _ _ hc) mf_X3_wishAt wt_402 wt_403 wt_404 rfl rfl rfl ⟨rfl, rfl, by decide, by decide⟩ rfl (Nat.le_of_ble_eq_true rfl) dX3_wishesFor_14 ?_
    refine j_iload_n 2 C dX3_wishesFor_17 rfl ?_
    refine j_icmp_ne 23 C rfl rfl dX3_wishesFor_18 (by decide) (fun h => ?_) (fun h => ?_)
    · have hf := ifn h hf
      refine j_iinc 3 [(3, .int (iI (v3 + 1))), (0, .ref (ad 3)), (1, .int (iI v1)), (2, .int (iI v2))] C dX3_wishesFor_23 (by decide) rfl rfl ?_
      refine j_goto 2 C dX3_wishesFor_26 (by decide) ?_
      exact j_sub [1, 2, 3, 0] rfl (hk2 _ _ _ _ hf)
    · have hf := ifp h hf
      refine j_iconst C dX3_wishesFor_21 ?_
      exact retZc hq isB_1 hf dX3_wishesFor_22
theorem tX3_wishesFor_L2 {ad : Nat → Nat} {cI cZ : ClassId} {Γ : Cx} {r : Int} {σ' : St} (C : CX cI cZ rm_X3_wishesFor 4 Γ cX3_wishesFor RX3) (hq : RetI .boolean (wC ad cI cZ) Γ cX3_wishesFor r σ') (n : Nat) : ∀ (v1 v2 v3 : Int), ∀ (σ : St), fX3_wishesFor_L2 n v1 v2 v3 σ = some (r, σ') → JJ (wC ad cI cZ) Γ σ 2 [(0, .ref (ad 3)), (1, .int (iI v1)), (2, .int (iI v2)), (3, .int (iI v3))] [] := by
  induction n with
  | zero => intro _ _ _ _ hf; cases hf
  | succ n ih => intro v1 v2 v3 σ hf; exact tX3_wishesFor_B2 C hq ih v1 v2 v3 σ hf
set_option maxRecDepth 20000 in
theorem tX3_wishesFor_L0 {ad : Nat → Nat} {cI cZ : ClassId} {Γ : Cx} {r : Int} {σ' : St} (C : CX cI cZ rm_X3_wishesFor 4 Γ cX3_wishesFor RX3) (hq : RetI .boolean (wC ad cI cZ) Γ cX3_wishesFor r σ') (v1 : Int) (v2 : Int) (σ : St) (hf : fX3_wishesFor_L0 v1 v2 σ = some (r, σ')) : JJ (wC ad cI cZ) Γ σ 0 [(0, .ref (ad 3)), (1, .int (iI v1)), (2, .int (iI v2))] [] := by
  unfold fX3_wishesFor_L0 at hf
  refine j_iconst C dX3_wishesFor_0 ?_
  refine j_istore_n [(3, .int (iI 0)), (0, .ref (ad 3)), (1, .int (iI v1)), (2, .int (iI v2))] C dX3_wishesFor_1 (by decide) rfl ?_
  exact j_sub [1, 2, 3, 0] rfl (tX3_wishesFor_L2 C hq 1000 _ _ _ _ hf)
theorem c_X3_wishesFor (l : Launch) (D : va_G) (ad : Nat → Nat) (cI cZ : ClassId) (σ : St) (v1 : Int) (v2 : Int) (r : Int) (σ' : St) (hf : fX3_wishesFor σ v1 v2 = some (r, σ')) : McI l yX3_wishesFor cX3_wishesFor 4 .boolean rm_X3_wishesFor D (tyL cI cZ) (wC ad cI cZ) [.ref (ad 3), .int (iI v1), .int (iI v2)] σ r σ' := McI.mk mf_X3_wishesFor.2.2.2.2.2 (Nat.le_of_ble_eq_true rfl) (fun Γ C hq => j_sub [0, 1, 2] rfl (tX3_wishesFor_L0 C hq v1 v2 σ hf))
/-! TermLodgings$People.addWish(II)I -/
def rm_X3_addWish : Room := { frames := 2, cells := 0, slots := 0, locals := 42 }
set_option maxRecDepth 20000 in
theorem tX3_addWish_L0 {ad : Nat → Nat} {cI cZ : ClassId} {Γ : Cx} {r : Int} {σ' : St} (C : CX cI cZ rm_X3_addWish 4 Γ cX3_addWish RX3) (hq : RetI .int (wC ad cI cZ) Γ cX3_addWish r σ') (v1 : Int) (v2 : Int) (σ : St) (hf : fX3_addWish_L0 v1 v2 σ = some (r, σ')) : JJ (wC ad cI cZ) Γ σ 0 [(0, .ref (ad 3)), (1, .int (iI v1)), (2, .int (iI v2))] [] := by
  unfold fX3_addWish_L0 at hf
  refine j_aload_n 0 C dX3_addWish_0 rfl ?_
  refine j_iload_n 1 C dX3_addWish_1 rfl ?_
  obtain ⟨a1, s1, hc, hf⟩ := bd_s hf
  refine j_cVi (q0 := 3) (ci := 3) (T := TX3) (N := 8) [.int (iI v1)] [] C (c_X3_wishesOf _ _ ad cI cZ _ _ _ _ hc) mf_X3_wishesOf wt_397 wt_398 wt_399 rfl rfl rfl ⟨rfl, rfl, by decide, by decide⟩ rfl (Nat.le_of_ble_eq_true rfl) dX3_addWish_2 ?_
  refine j_istore_n [(3, .int (iI a1)), (0, .ref (ad 3)), (1, .int (iI v1)), (2, .int (iI v2))] C dX3_addWish_5 (by decide) rfl ?_
  refine j_aload_n 1 C dX3_addWish_6 rfl ?_
  refine j_iload_n 2 C dX3_addWish_7 rfl ?_
  obtain ⟨a2, s2, hc, hf⟩ := bd_s hf
  refine j_cVi (q0 := 3) (ci := 3) (T := TX3) (N := 8) [.int (iI v1)] [] C (c_X3_has _ _ ad cI cZ _ _ _ _ hc) mf_X3_has wt_401 wt_386 wt_387 rfl rfl rfl ⟨rfl, rfl, by decide, by decide⟩ rfl (Nat.le_of_ble_eq_true rfl) dX3_addWish_8 ?_
  refine j_if_eq 20 C rfl dX3_addWish_11 (by decide) (fun h => ?_) (fun h => ?_)
  · have hf := ifp h hf
    refine j_bipush C dX3_addWish_20 bp_m4 ?_
    exact retI hq hf dX3_addWish_22
  · have hf := ifn h hf
    refine j_iload_n 0 C dX3_addWish_14 rfl ?_
    refine j_bipush C dX3_addWish_15 bp_8 ?_
    refine j_icmp_lt 23 C rfl wl_8 dX3_addWish_17 (by decide) (fun h => ?_) (fun h => ?_)
    · have hf := ifp h hf
      refine j_aload_n 1 C dX3_addWish_23 rfl ?_
      refine gC_3_4 C wt_92 dX3_addWish_24 ?_
      refine j_iload_n 2 C dX3_addWish_27 rfl ?_
      refine j_bipush C dX3_addWish_28 bp_8 ?_
      refine j_imul C dX3_addWish_30 ?_
      refine j_iload_n 0 C dX3_addWish_31 rfl ?_
      refine j_iadd C dX3_addWish_32 ?_
      refine j_iload_n 3 C dX3_addWish_33 rfl ?_
      obtain ⟨hI, hf⟩ := gI_s hf
      refine tC_8 C hI dX3_addWish_34 ?_
      refine j_aload_n 1 C dX3_addWish_35 rfl ?_
      refine gC_3_3 C wt_90 dX3_addWish_36 ?_
      refine j_iload_n 2 C dX3_addWish_39 rfl ?_
      refine j_iload_n 0 C dX3_addWish_40 rfl ?_
      refine j_iconst C dX3_addWish_41 ?_
      refine j_iadd C dX3_addWish_42 ?_
      obtain ⟨hI, hf⟩ := gI_s hf
      refine tC_7 C hI dX3_addWish_43 ?_
      refine j_iload_n 0 C dX3_addWish_44 rfl ?_
      refine j_iconst C dX3_addWish_45 ?_
      refine j_iadd C dX3_addWish_46 ?_
      exact retI hq hf dX3_addWish_47
    · have hf := ifn h hf
      refine j_bipush C dX3_addWish_20 bp_m4 ?_
      exact retI hq hf dX3_addWish_22
theorem c_X3_addWish (l : Launch) (D : va_G) (ad : Nat → Nat) (cI cZ : ClassId) (σ : St) (v1 : Int) (v2 : Int) (r : Int) (σ' : St) (hf : fX3_addWish σ v1 v2 = some (r, σ')) : McI l yX3_addWish cX3_addWish 4 .int rm_X3_addWish D (tyL cI cZ) (wC ad cI cZ) [.ref (ad 3), .int (iI v1), .int (iI v2)] σ r σ' := McI.mk mf_X3_addWish.2.2.2.2.2 (Nat.le_of_ble_eq_true rfl) (fun Γ C hq => j_sub [0, 1, 2] rfl (tX3_addWish_L0 C hq v1 v2 σ hf))
/-! TermLodgings$People.housed()I -/
def rm_X3_housed : Room := { frames := 0, cells := 0, slots := 0, locals := 0 }
set_option maxRecDepth 20000 in
theorem tX3_housed_B4 {ad : Nat → Nat} {cI cZ : ClassId} {Γ : Cx} {r : Int} {σ' : St} (C : CX cI cZ rm_X3_housed 3 Γ cX3_housed RX3) (hq : RetI .int (wC ad cI cZ) Γ cX3_housed r σ') {k4 : Int → Int → St → Option (Int × St)} (hk4 : ∀ (v1 : Int) (v2 : Int) (σ : St), k4 v1 v2 σ = some (r, σ') → JJ (wC ad cI cZ) Γ σ 4 [(0, .ref (ad 3)), (1, .int (iI v1)), (2, .int (iI v2))] []) (v1 : Int) (v2 : Int) (σ : St) (hf : fX3_housed_B4 k4 v1 v2 σ = some (r, σ')) : JJ (wC ad cI cZ) Γ σ 4 [(0, .ref (ad 3)), (1, .int (iI v1)), (2, .int (iI v2))] [] := by
  unfold fX3_housed_B4 at hf
  refine j_iload_n 2 C dX3_housed_4 rfl ?_
  refine j_aload_n 0 C dX3_housed_5 rfl ?_
  refine gC_3_0 C wt_78 dX3_housed_6 ?_
  refine j_icmp_ge 31 C rfl rfl dX3_housed_9 (by decide) (fun h => ?_) (fun h => ?_)
  · have hf := ifp h hf
    refine j_iload_n 1 C dX3_housed_31 rfl ?_
    exact retI hq hf dX3_housed_32
  · have hf := ifn h hf
    refine j_aload_n 0 C dX3_housed_12 rfl ?_
    refine gC_3_5 C wt_93 dX3_housed_13 ?_
    refine j_iload_n 2 C dX3_housed_16 rfl ?_
    obtain ⟨hI, hf⟩ := gI_s hf
    refine lC_9 C hI dX3_housed_17 ?_
    refine j_iconst C dX3_housed_18 ?_
    refine j_icmp_eq 25 C rfl wl_m1 dX3_housed_19 (by decide) (fun h => ?_) (fun h => ?_)
    · have hf := ifp h hf
      refine j_iinc 2 [(2, .int (iI (v2 + 1))), (0, .ref (ad 3)), (1, .int (iI v1))] C dX3_housed_25 (by decide) rfl rfl ?_
      refine j_goto 4 C dX3_housed_28 (by decide) ?_
      exact j_sub [1, 2, 0] rfl (hk4 _ _ _ hf)
    · have hf := ifn h hf
      refine j_iinc 1 [(1, .int (iI (v1 + 1))), (0, .ref (ad 3)), (2, .int (iI v2))] C dX3_housed_22 (by decide) rfl rfl ?_
      refine j_iinc 2 [(2, .int (iI (v2 + 1))), (1, .int (iI (v1 + 1))), (0, .ref (ad 3))] C dX3_housed_25 (by decide) rfl rfl ?_
      refine j_goto 4 C dX3_housed_28 (by decide) ?_
      exact j_sub [2, 1, 0] rfl (hk4 _ _ _ hf)
theorem tX3_housed_L4 {ad : Nat → Nat} {cI cZ : ClassId} {Γ : Cx} {r : Int} {σ' : St} (C : CX cI cZ rm_X3_housed 3 Γ cX3_housed RX3) (hq : RetI .int (wC ad cI cZ) Γ cX3_housed r σ') (n : Nat) : ∀ (v1 v2 : Int), ∀ (σ : St), fX3_housed_L4 n v1 v2 σ = some (r, σ') → JJ (wC ad cI cZ) Γ σ 4 [(0, .ref (ad 3)), (1, .int (iI v1)), (2, .int (iI v2))] [] := by
  induction n with
  | zero => intro _ _ _ hf; cases hf
  | succ n ih => intro v1 v2 σ hf; exact tX3_housed_B4 C hq ih v1 v2 σ hf
set_option maxRecDepth 20000 in
theorem tX3_housed_L0 {ad : Nat → Nat} {cI cZ : ClassId} {Γ : Cx} {r : Int} {σ' : St} (C : CX cI cZ rm_X3_housed 3 Γ cX3_housed RX3) (hq : RetI .int (wC ad cI cZ) Γ cX3_housed r σ') (σ : St) (hf : fX3_housed_L0 σ = some (r, σ')) : JJ (wC ad cI cZ) Γ σ 0 [(0, .ref (ad 3))] [] := by
  unfold fX3_housed_L0 at hf
  refine j_iconst C dX3_housed_0 ?_
  refine j_istore_n [(1, .int (iI 0)), (0, .ref (ad 3))] C dX3_housed_1 (by decide) rfl ?_
  refine j_iconst C dX3_housed_2 ?_
  refine j_istore_n [(2, .int (iI 0)), (1, .int (iI 0)), (0, .ref (ad 3))] C dX3_housed_3 (by decide) rfl ?_
  exact j_sub [2, 1, 0] rfl (tX3_housed_L4 C hq 1000 _ _ _ hf)
theorem c_X3_housed (l : Launch) (D : va_G) (ad : Nat → Nat) (cI cZ : ClassId) (σ : St) (r : Int) (σ' : St) (hf : fX3_housed σ = some (r, σ')) : McI l yX3_housed cX3_housed 3 .int rm_X3_housed D (tyL cI cZ) (wC ad cI cZ) [.ref (ad 3)] σ r σ' := McI.mk mf_X3_housed.2.2.2.2.2 (Nat.le_of_ble_eq_true rfl) (fun Γ C hq => j_sub [0] rfl (tX3_housed_L0 C hq  σ hf))
/-! TermLodgings$Prices.isListed(II)Z -/
def rm_X4_isListed : Room := { frames := 1, cells := 0, slots := 0, locals := 22 }
set_option maxRecDepth 20000 in
theorem tX4_isListed_L0 {ad : Nat → Nat} {cI cZ : ClassId} {Γ : Cx} {r : Int} {σ' : St} (C : CX cI cZ rm_X4_isListed 2 Γ cX4_isListed RX4) (hq : RetI .boolean (wC ad cI cZ) Γ cX4_isListed r σ') (v0 : Int) (v1 : Int) (σ : St) (hf : fX4_isListed_L0 v0 v1 σ = some (r, σ')) : JJ (wC ad cI cZ) Γ σ 0 [(0, .int (iI v0)), (1, .int (iI v1))] [] := by
  unfold fX4_isListed_L0 at hf
  refine j_iload_n 0 C dX4_isListed_0 rfl ?_
  refine j_iconst C dX4_isListed_1 ?_
  refine j_bipush C dX4_isListed_2 bp_7 ?_
  obtain ⟨a1, s1, hc, hf⟩ := bd_s hf
  refine j_cSNi (host := "TermLodgings") [.int (iI v0), .int (iI 0), .int (iI 7)] [] C (c_X10_within _ _ ad cI cZ _ _ _ _ _ _ hc) mf_X10_within (List.mem_of_getElem? (i := 12) rfl) wt_363 rfl ⟨rfl, rfl, by decide, by decide⟩ rfl (Nat.le_of_ble_eq_true rfl) dX4_isListed_4 ?_
  refine j_if_eq 24 C rfl dX4_isListed_7 (by decide) (fun h => ?_) (fun h => ?_)
  · have hf := ifp h hf
    refine j_iconst C dX4_isListed_24 ?_
    exact retZc hq isB_0 hf dX4_isListed_25
  · have hf := ifn h hf
    refine j_iload_n 1 C dX4_isListed_10 rfl ?_
    refine j_iconst C dX4_isListed_11 ?_
    refine j_bipush C dX4_isListed_12 bp_59 ?_
    obtain ⟨a2, s2, hc, hf⟩ := bd_s hf
    refine j_cSNi (host := "TermLodgings") [.int (iI v1), .int (iI 0), .int (iI 59)] [] C (c_X10_within _ _ ad cI cZ _ _ _ _ _ _ hc) mf_X10_within (List.mem_of_getElem? (i := 12) rfl) wt_363 rfl ⟨rfl, rfl, by decide, by decide⟩ rfl (Nat.le_of_ble_eq_true rfl) dX4_isListed_14 ?_
    refine j_if_eq 24 C rfl dX4_isListed_17 (by decide) (fun h => ?_) (fun h => ?_)
    · have hf := ifp h hf
      refine j_iconst C dX4_isListed_24 ?_
      exact retZc hq isB_0 hf dX4_isListed_25
    · have hf := ifn h hf
      refine j_iconst C dX4_isListed_20 ?_
      refine j_goto 25 C dX4_isListed_21 (by decide) ?_
      exact retZc hq isB_1 hf dX4_isListed_25
theorem c_X4_isListed (l : Launch) (D : va_G) (ad : Nat → Nat) (cI cZ : ClassId) (σ : St) (v0 : Int) (v1 : Int) (r : Int) (σ' : St) (hf : fX4_isListed σ v0 v1 = some (r, σ')) : McI l yX4_isListed cX4_isListed 2 .boolean rm_X4_isListed D (tyL cI cZ) (wC ad cI cZ) [.int (iI v0), .int (iI v1)] σ r σ' := McI.mk mf_X4_isListed.2.2.2.2.2 (Nat.le_of_ble_eq_true rfl) (fun Γ C hq => j_sub [0, 1] rfl (tX4_isListed_L0 C hq v0 v1 σ hf))
/-! TermLodgings$Prices.sinceOf(I)I -/
def rm_X4_sinceOf : Room := { frames := 1, cells := 0, slots := 0, locals := 22 }
set_option maxRecDepth 20000 in
theorem tX4_sinceOf_L0 {ad : Nat → Nat} {cI cZ : ClassId} {Γ : Cx} {r : Int} {σ' : St} (C : CX cI cZ rm_X4_sinceOf 2 Γ cX4_sinceOf RX4) (hq : RetI .int (wC ad cI cZ) Γ cX4_sinceOf r σ') (v1 : Int) (σ : St) (hf : fX4_sinceOf_L0 v1 σ = some (r, σ')) : JJ (wC ad cI cZ) Γ σ 0 [(0, .ref (ad 10)), (1, .int (iI v1))] [] := by
  unfold fX4_sinceOf_L0 at hf
  refine j_iload_n 1 C dX4_sinceOf_0 rfl ?_
  refine j_iconst C dX4_sinceOf_1 ?_
  refine j_bipush C dX4_sinceOf_2 bp_39 ?_
  obtain ⟨a1, s1, hc, hf⟩ := bd_s hf
  refine j_cSNi (host := "TermLodgings") [.int (iI v1), .int (iI 0), .int (iI 39)] [] C (c_X10_within _ _ ad cI cZ _ _ _ _ _ _ hc) mf_X10_within (List.mem_of_getElem? (i := 12) rfl) wt_363 rfl ⟨rfl, rfl, by decide, by decide⟩ rfl (Nat.le_of_ble_eq_true rfl) dX4_sinceOf_4 ?_
  refine j_if_eq 19 C rfl dX4_sinceOf_7 (by decide) (fun h => ?_) (fun h => ?_)
  · have hf := ifp h hf
    refine j_iconst C dX4_sinceOf_19 ?_
    exact retI hq hf dX4_sinceOf_20
  · have hf := ifn h hf
    refine j_aload_n 0 C dX4_sinceOf_10 rfl ?_
    refine gC_10_2 C wt_310 dX4_sinceOf_11 ?_
    refine j_iload_n 1 C dX4_sinceOf_14 rfl ?_
    obtain ⟨hI, hf⟩ := gI_s hf
    refine lC_27 C hI dX4_sinceOf_15 ?_
    refine j_goto 20 C dX4_sinceOf_16 (by decide) ?_
    exact retI hq hf dX4_sinceOf_20
theorem c_X4_sinceOf (l : Launch) (D : va_G) (ad : Nat → Nat) (cI cZ : ClassId) (σ : St) (v1 : Int) (r : Int) (σ' : St) (hf : fX4_sinceOf σ v1 = some (r, σ')) : McI l yX4_sinceOf cX4_sinceOf 2 .int rm_X4_sinceOf D (tyL cI cZ) (wC ad cI cZ) [.ref (ad 10), .int (iI v1)] σ r σ' := McI.mk mf_X4_sinceOf.2.2.2.2.2 (Nat.le_of_ble_eq_true rfl) (fun Γ C hq => j_sub [0, 1] rfl (tX4_sinceOf_L0 C hq v1 σ hf))
/-! TermLodgings$Prices.tell(III)I -/
def rm_X4_tell : Room := { frames := 2, cells := 0, slots := 0, locals := 43 }
set_option maxRecDepth 20000 in
theorem tX4_tell_B48 {ad : Nat → Nat} {cI cZ : ClassId} {Γ : Cx} {r : Int} {σ' : St} (C : CX cI cZ rm_X4_tell 6 Γ cX4_tell RX4) (hq : RetI .int (wC ad cI cZ) Γ cX4_tell r σ') {k48 : Int → Int → Int → St → Option (Int × St)} (hk48 : ∀ (v1 : Int) (v2 : Int) (v4 : Int) (σ : St), k48 v1 v2 v4 σ = some (r, σ') → JJ (wC ad cI cZ) Γ σ 48 [(0, .ref (ad 10)), (1, .int (iI v1)), (2, .int (iI v2)), (4, .int (iI v4))] []) (v1 : Int) (v2 : Int) (v4 : Int) (σ : St) (hf : fX4_tell_B48 k48 v1 v2 v4 σ = some (r, σ')) : JJ (wC ad cI cZ) Γ σ 48 [(0, .ref (ad 10)), (1, .int (iI v1)), (2, .int (iI v2)), (4, .int (iI v4))] [] := by
  unfold fX4_tell_B48 at hf
  refine j_iload 3 C dX4_tell_48 rfl ?_
  refine j_bipush C dX4_tell_50 bp_60 ?_
  refine j_icmp_ge 110 C rfl wl_60 dX4_tell_52 (by decide) (fun h => ?_) (fun h => ?_)
  · have hf := ifp h hf
    refine j_aload_n 0 C dX4_tell_110 rfl ?_
    refine j_dup C rfl dX4_tell_111 ?_
    refine gC_10_0 C wt_306 dX4_tell_112 ?_
    refine j_iconst C dX4_tell_115 ?_
    refine j_iadd C dX4_tell_116 ?_
    refine pC_10_0 C wt_306 dX4_tell_117 ?_
    refine j_aload_n 0 C dX4_tell_120 rfl ?_
    refine gC_10_0 C wt_306 dX4_tell_121 ?_
    exact retI hq hf dX4_tell_124
  · have hf := ifn h hf
    refine j_iload_n 1 C dX4_tell_55 rfl ?_
    refine j_bipush C dX4_tell_56 bp_60 ?_
    refine j_imul C dX4_tell_58 ?_
    refine j_iload 3 C dX4_tell_59 rfl ?_
    refine j_iadd C dX4_tell_61 ?_
    refine j_istore [(5, .int (iI ((v1 * 60) + v4))), (0, .ref (ad 10)), (1, .int (iI v1)), (2, .int (iI v2)), (4, .int (iI v4))] C dX4_tell_62 (by decide) rfl ?_
    refine j_aload_n 1 C dX4_tell_64 rfl ?_
    refine gC_10_5 C wt_313 dX4_tell_65 ?_
    refine j_iload 4 C dX4_tell_68 rfl ?_
    refine j_aload_n 1 C dX4_tell_70 rfl ?_
    refine gC_10_4 C wt_312 dX4_tell_71 ?_
    refine j_iload 0 C dX4_tell_74 rfl ?_
    obtain ⟨hI, hf⟩ := gI_s hf
    refine lC_29 C hI dX4_tell_76 ?_
    obtain ⟨hI, hf⟩ := gI_s hf
    refine tC_30 C hI dX4_tell_77 ?_
    refine j_aload_n 1 C dX4_tell_78 rfl ?_
    refine j_aload_n 1 C dX4_tell_79 rfl ?_
    refine gC_10_4 C wt_312 dX4_tell_80 ?_
    refine j_iload 0 C dX4_tell_83 rfl ?_
    obtain ⟨hI, hf⟩ := gI_s hf
    refine lC_29 C hI dX4_tell_85 ?_
    obtain ⟨a1, s1, hc, hf⟩ := bd_s hf
    refine j_cVi (q0 := 10) (ci := 4) (T := TX4) (N := 6) [.int (iI ((sA σ 30 (ix v4) (σ.2 29 (ix ((v1 * 60) + v4)))).2 29 (ix ((v1 * 60) + v4))))] [] C (c_X4_sinceOf _ _ ad cI cZ _ _ _ _ hc) mf_X4_sinceOf wt_769 wt_771 ws_28 rfl rfl rfl ⟨rfl, rfl, by decide, by decide⟩ rfl (Nat.le_of_ble_eq_true rfl) dX4_tell_86 ?_
    refine j_iload_n 3 C dX4_tell_89 rfl ?_
    refine j_icmp_gt 104 C rfl rfl dX4_tell_90 (by decide) (fun h => ?_) (fun h => ?_)
    · have hf := ifp h hf
      refine j_iinc 4 [(4, .int (iI (v4 + 1))), (5, .int (iI ((v1 * 60) + v4))), (0, .ref (ad 10)), (1, .int (iI v1)), (2, .int (iI v2))] C dX4_tell_104 (by decide) rfl rfl ?_
      refine j_goto 48 C dX4_tell_107 (by decide) ?_
      exact j_sub [2, 3, 4, 0] rfl (hk48 _ _ _ _ hf)
    · have hf := ifn h hf
      refine j_aload_n 1 C dX4_tell_93 rfl ?_
      refine gC_10_4 C wt_312 dX4_tell_94 ?_
      refine j_iload 0 C dX4_tell_97 rfl ?_
      refine j_aload_n 1 C dX4_tell_99 rfl ?_
      refine gC_10_0 C wt_306 dX4_tell_100 ?_
      obtain ⟨hI, hf⟩ := gI_s hf
      refine tC_29 C hI dX4_tell_103 ?_
      refine j_iinc 4 [(4, .int (iI (v4 + 1))), (5, .int (iI ((v1 * 60) + v4))), (0, .ref (ad 10)), (1, .int (iI v1)), (2, .int (iI v2))] C dX4_tell_104 (by decide) rfl rfl ?_
      refine j_goto 48 C dX4_tell_107 (by decide) ?_
      exact j_sub [2, 3, 4, 0] rfl (hk48 _ _ _ _ hf)
theorem tX4_tell_L48 {ad : Nat → Nat} {cI cZ : ClassId} {Γ : Cx} {r : Int} {σ' : St} (C : CX cI cZ rm_X4_tell 6 Γ cX4_tell RX4) (hq : RetI .int (wC ad cI cZ) Γ cX4_tell r σ') (n : Nat) : ∀ (v1 v2 v4 : Int), ∀ (σ : St), fX4_tell_L48 n v1 v2 v4 σ = some (r, σ') → JJ (wC ad cI cZ) Γ σ 48 [(0, .ref (ad 10)), (1, .int (iI v1)), (2, .int (iI v2)), (4, .int (iI v4))] [] := by
  induction n with
  | zero => intro _ _ _ _ hf; cases hf
  | succ n ih => intro v1 v2 v4 σ hf; exact tX4_tell_B48 C hq ih v1 v2 v4 σ hf
set_option maxRecDepth 20000 in
theorem tX4_tell_L0 {ad : Nat → Nat} {cI cZ : ClassId} {Γ : Cx} {r : Int} {σ' : St} (C : CX cI cZ rm_X4_tell 6 Γ cX4_tell RX4) (hq : RetI .int (wC ad cI cZ) Γ cX4_tell r σ') (v1 : Int) (v2 : Int) (v3 : Int) (σ : St) (hf : fX4_tell_L0 v1 v2 v3 σ = some (r, σ')) : JJ (wC ad cI cZ) Γ σ 0 [(0, .ref (ad 10)), (1, .int (iI v1)), (2, .int (iI v2)), (3, .int (iI v3))] [] := by
  unfold fX4_tell_L0 at hf
  refine j_aload_n 0 C dX4_tell_0 rfl ?_
  refine gC_10_0 C wt_306 dX4_tell_1 ?_
  refine j_bipush C dX4_tell_4 bp_40 ?_
  refine j_icmp_ge 17 C rfl wl_40 dX4_tell_6 (by decide) (fun h => ?_) (fun h => ?_)
  · have hf := ifp h hf
    refine j_bipush C dX4_tell_17 bp_m4 ?_
    exact retI hq hf dX4_tell_19
  · have hf := ifn h hf
    refine j_iload_n 1 C dX4_tell_9 rfl ?_
    refine j_iload_n 2 C dX4_tell_10 rfl ?_
    obtain ⟨a2, s2, hc, hf⟩ := bd_s hf
    refine j_cSi [.int (iI v1), .int (iI v2)] [] C (c_X4_isListed _ _ ad cI cZ _ _ _ _ _ hc) mf_X4_isListed wt_765 wt_766 rfl ⟨rfl, rfl, by decide, by decide⟩ rfl (Nat.le_of_ble_eq_true rfl) dX4_tell_11 ?_
    refine j_if_ne 20 C rfl dX4_tell_14 (by decide) (fun h => ?_) (fun h => ?_)
    · have hf := ifn h hf
      refine j_aload_n 0 C dX4_tell_20 rfl ?_
      refine gC_10_2 C wt_310 dX4_tell_21 ?_
      refine j_aload_n 0 C dX4_tell_24 rfl ?_
      refine gC_10_0 C wt_306 dX4_tell_25 ?_
      refine j_iload_n 2 C dX4_tell_28 rfl ?_
      obtain ⟨hI, hf⟩ := gI_s hf
      refine tC_27 C hI dX4_tell_29 ?_
      refine j_aload_n 0 C dX4_tell_30 rfl ?_
      refine gC_10_3 C wt_311 dX4_tell_31 ?_
      refine j_aload_n 0 C dX4_tell_34 rfl ?_
      refine gC_10_0 C wt_306 dX4_tell_35 ?_
      refine j_iload_n 3 C dX4_tell_38 rfl ?_
      obtain ⟨hI, hf⟩ := gI_s hf
      refine tC_28 C hI dX4_tell_39 ?_
      refine j_aload_n 0 C dX4_tell_40 rfl ?_
      refine j_iload_n 1 C dX4_tell_41 rfl ?_
      refine pC_10_1 C wt_308 dX4_tell_42 ?_
      refine j_iload_n 2 C dX4_tell_45 rfl ?_
      refine j_istore [(4, .int (iI v2)), (0, .ref (ad 10)), (1, .int (iI v1)), (2, .int (iI v2)), (3, .int (iI v3))] C dX4_tell_46 (by decide) rfl ?_
      exact j_sub [1, 2, 3, 0] rfl (tX4_tell_L48 C hq 1000 _ _ _ _ hf)
    · have hf := ifp h hf
      refine j_bipush C dX4_tell_17 bp_m4 ?_
      exact retI hq hf dX4_tell_19
theorem c_X4_tell (l : Launch) (D : va_G) (ad : Nat → Nat) (cI cZ : ClassId) (σ : St) (v1 : Int) (v2 : Int) (v3 : Int) (r : Int) (σ' : St) (hf : fX4_tell σ v1 v2 v3 = some (r, σ')) : McI l yX4_tell cX4_tell 6 .int rm_X4_tell D (tyL cI cZ) (wC ad cI cZ) [.ref (ad 10), .int (iI v1), .int (iI v2), .int (iI v3)] σ r σ' := McI.mk mf_X4_tell.2.2.2.2.2 (Nat.le_of_ble_eq_true rfl) (fun Γ C hq => j_sub [0, 1, 2, 3] rfl (tX4_tell_L0 C hq v1 v2 v3 σ hf))
/-! TermLodgings$Prices.valueOf(I)I -/
def rm_X4_valueOf : Room := { frames := 1, cells := 0, slots := 0, locals := 22 }
set_option maxRecDepth 20000 in
theorem tX4_valueOf_L0 {ad : Nat → Nat} {cI cZ : ClassId} {Γ : Cx} {r : Int} {σ' : St} (C : CX cI cZ rm_X4_valueOf 2 Γ cX4_valueOf RX4) (hq : RetI .int (wC ad cI cZ) Γ cX4_valueOf r σ') (v1 : Int) (σ : St) (hf : fX4_valueOf_L0 v1 σ = some (r, σ')) : JJ (wC ad cI cZ) Γ σ 0 [(0, .ref (ad 10)), (1, .int (iI v1))] [] := by
  unfold fX4_valueOf_L0 at hf
  refine j_iload_n 1 C dX4_valueOf_0 rfl ?_
  refine j_iconst C dX4_valueOf_1 ?_
  refine j_bipush C dX4_valueOf_2 bp_39 ?_
  obtain ⟨a1, s1, hc, hf⟩ := bd_s hf
  refine j_cSNi (host := "TermLodgings") [.int (iI v1), .int (iI 0), .int (iI 39)] [] C (c_X10_within _ _ ad cI cZ _ _ _ _ _ _ hc) mf_X10_within (List.mem_of_getElem? (i := 12) rfl) wt_363 rfl ⟨rfl, rfl, by decide, by decide⟩ rfl (Nat.le_of_ble_eq_true rfl) dX4_valueOf_4 ?_
  refine j_if_eq 19 C rfl dX4_valueOf_7 (by decide) (fun h => ?_) (fun h => ?_)
  · have hf := ifp h hf
    refine j_iconst C dX4_valueOf_19 ?_
    exact retI hq hf dX4_valueOf_20
  · have hf := ifn h hf
    refine j_aload_n 0 C dX4_valueOf_10 rfl ?_
    refine gC_10_3 C wt_311 dX4_valueOf_11 ?_
    refine j_iload_n 1 C dX4_valueOf_14 rfl ?_
    obtain ⟨hI, hf⟩ := gI_s hf
    refine lC_28 C hI dX4_valueOf_15 ?_
    refine j_goto 20 C dX4_valueOf_16 (by decide) ?_
    exact retI hq hf dX4_valueOf_20
theorem c_X4_valueOf (l : Launch) (D : va_G) (ad : Nat → Nat) (cI cZ : ClassId) (σ : St) (v1 : Int) (r : Int) (σ' : St) (hf : fX4_valueOf σ v1 = some (r, σ')) : McI l yX4_valueOf cX4_valueOf 2 .int rm_X4_valueOf D (tyL cI cZ) (wC ad cI cZ) [.ref (ad 10), .int (iI v1)] σ r σ' := McI.mk mf_X4_valueOf.2.2.2.2.2 (Nat.le_of_ble_eq_true rfl) (fun Γ C hq => j_sub [0, 1] rfl (tX4_valueOf_L0 C hq v1 σ hf))
/-! TermLodgings$Prices.at(II)I -/
def rm_X4_at : Room := { frames := 2, cells := 0, slots := 0, locals := 43 }
set_option maxRecDepth 20000 in
theorem tX4_at_L0 {ad : Nat → Nat} {cI cZ : ClassId} {Γ : Cx} {r : Int} {σ' : St} (C : CX cI cZ rm_X4_at 3 Γ cX4_at RX4) (hq : RetI .int (wC ad cI cZ) Γ cX4_at r σ') (v1 : Int) (v2 : Int) (σ : St) (hf : fX4_at_L0 v1 v2 σ = some (r, σ')) : JJ (wC ad cI cZ) Γ σ 0 [(0, .ref (ad 10)), (1, .int (iI v1)), (2, .int (iI v2))] [] := by
  unfold fX4_at_L0 at hf
  refine j_iload_n 1 C dX4_at_0 rfl ?_
  refine j_iload_n 2 C dX4_at_1 rfl ?_
  obtain ⟨a1, s1, hc, hf⟩ := bd_s hf
  refine j_cSi [.int (iI v1), .int (iI v2)] [] C (c_X4_isListed _ _ ad cI cZ _ _ _ _ _ hc) mf_X4_isListed wt_765 wt_766 rfl ⟨rfl, rfl, by decide, by decide⟩ rfl (Nat.le_of_ble_eq_true rfl) dX4_at_2 ?_
  refine j_if_eq 26 C rfl dX4_at_5 (by decide) (fun h => ?_) (fun h => ?_)
  · have hf := ifp h hf
    refine j_iconst C dX4_at_26 ?_
    exact retI hq hf dX4_at_27
  · have hf := ifn h hf
    refine j_aload_n 0 C dX4_at_8 rfl ?_
    refine j_aload_n 0 C dX4_at_9 rfl ?_
    refine gC_10_4 C wt_312 dX4_at_10 ?_
    refine j_iload_n 1 C dX4_at_13 rfl ?_
    refine j_bipush C dX4_at_14 bp_60 ?_
    refine j_imul C dX4_at_16 ?_
    refine j_iload_n 2 C dX4_at_17 rfl ?_
    refine j_iadd C dX4_at_18 ?_
    obtain ⟨hI, hf⟩ := gI_s hf
    refine lC_29 C hI dX4_at_19 ?_
    obtain ⟨a2, s2, hc, hf⟩ := bd_s hf
    refine j_cVi (q0 := 10) (ci := 4) (T := TX4) (N := 6) [.int (iI (s1.2 29 (ix ((v1 * 60) + v2))))] [] C (c_X4_valueOf _ _ ad cI cZ _ _ _ _ hc) mf_X4_valueOf wt_781 wt_783 ws_29 rfl rfl rfl ⟨rfl, rfl, by decide, by decide⟩ rfl (Nat.le_of_ble_eq_true rfl) dX4_at_20 ?_
    refine j_goto 27 C dX4_at_23 (by decide) ?_
    exact retI hq hf dX4_at_27
theorem c_X4_at (l : Launch) (D : va_G) (ad : Nat → Nat) (cI cZ : ClassId) (σ : St) (v1 : Int) (v2 : Int) (r : Int) (σ' : St) (hf : fX4_at σ v1 v2 = some (r, σ')) : McI l yX4_at cX4_at 3 .int rm_X4_at D (tyL cI cZ) (wC ad cI cZ) [.ref (ad 10), .int (iI v1), .int (iI v2)] σ r σ' := McI.mk mf_X4_at.2.2.2.2.2 (Nat.le_of_ble_eq_true rfl) (fun Γ C hq => j_sub [0, 1, 2] rfl (tX4_at_L0 C hq v1 v2 σ hf))
/-! TermLodgings$Prices.dropWithoutLatest(I)I -/
def rm_X4_dropWithoutLatest : Room := { frames := 3, cells := 0, slots := 0, locals := 65 }
set_option maxRecDepth 20000 in
theorem tX4_dropWithoutLatest_L35 {ad : Nat → Nat} {cI cZ : ClassId} {Γ : Cx} {r : Int} {σ' : St} (C : CX cI cZ rm_X4_dropWithoutLatest 3 Γ cX4_dropWithoutLatest RX4) (hq : RetI .int (wC ad cI cZ) Γ cX4_dropWithoutLatest r σ') (v1 : Int) (t0 : Int) (σ : St) (hf : fX4_dropWithoutLatest_L35 v1 t0 σ = some (r, σ')) : JJ (wC ad cI cZ) Γ σ 35 [(0, .ref (ad 10)), (1, .int (iI v1))] [.int (iI t0)] := by
  unfold fX4_dropWithoutLatest_L35 at hf
  refine j_istore_n [(2, .int (iI t0)), (0, .ref (ad 10)), (1, .int (iI v1))] C dX4_dropWithoutLatest_35 (by decide) rfl ?_
  refine j_iload_n 0 C dX4_dropWithoutLatest_36 rfl ?_
  refine j_if_eq 63 C rfl dX4_dropWithoutLatest_37 (by decide) (fun h => ?_) (fun h => ?_)
  · have hf := ifp h hf
    refine j_iconst C dX4_dropWithoutLatest_63 ?_
    exact retI hq hf dX4_dropWithoutLatest_64
  · have hf := ifn h hf
    refine j_aload_n 1 C dX4_dropWithoutLatest_40 rfl ?_
    refine j_aload_n 1 C dX4_dropWithoutLatest_41 rfl ?_
    refine gC_10_5 C wt_313 dX4_dropWithoutLatest_42 ?_
    refine j_iload_n 2 C dX4_dropWithoutLatest_45 rfl ?_
    obtain ⟨hI, hf⟩ := gI_s hf
    refine lC_30 C hI dX4_dropWithoutLatest_46 ?_
    obtain ⟨a1, s1, hc, hf⟩ := bd_s hf
    refine j_cVi (q0 := 10) (ci := 4) (T := TX4) (N := 6) [.int (iI (σ.2 30 (ix v1)))] [] C (c_X4_valueOf _ _ ad cI cZ _ _ _ _ hc) mf_X4_valueOf wt_781 wt_783 ws_29 rfl rfl rfl ⟨rfl, rfl, by decide, by decide⟩ rfl (Nat.le_of_ble_eq_true rfl) dX4_dropWithoutLatest_47 ?_
    refine j_aload_n 1 C dX4_dropWithoutLatest_50 rfl ?_
    refine j_aload_n 1 C dX4_dropWithoutLatest_51 rfl ?_
    refine gC_10_1 C wt_308 dX4_dropWithoutLatest_52 ?_
    refine j_iload_n 2 C dX4_dropWithoutLatest_55 rfl ?_
    obtain ⟨a2, s2, hc, hf⟩ := bd_s hf
    refine j_cVi (q0 := 10) (ci := 4) (T := TX4) (N := 6) [.int (iI (s1.1 17)), .int (iI v1)] [.int (iI a1)] C (c_X4_at _ _ ad cI cZ _ _ _ _ _ hc) mf_X4_at wt_812 wt_778 wt_779 rfl rfl rfl ⟨rfl, rfl, by decide, by decide⟩ rfl (Nat.le_of_ble_eq_true rfl) dX4_dropWithoutLatest_56 ?_
    refine j_isub C dX4_dropWithoutLatest_59 ?_
    refine j_goto 64 C dX4_dropWithoutLatest_60 (by decide) ?_
    exact retI hq hf dX4_dropWithoutLatest_64
set_option maxRecDepth 20000 in
theorem tX4_dropWithoutLatest_L0 {ad : Nat → Nat} {cI cZ : ClassId} {Γ : Cx} {r : Int} {σ' : St} (C : CX cI cZ rm_X4_dropWithoutLatest 3 Γ cX4_dropWithoutLatest RX4) (hq : RetI .int (wC ad cI cZ) Γ cX4_dropWithoutLatest r σ') (v1 : Int) (σ : St) (hf : fX4_dropWithoutLatest_L0 v1 σ = some (r, σ')) : JJ (wC ad cI cZ) Γ σ 0 [(0, .ref (ad 10)), (1, .int (iI v1))] [] := by
  unfold fX4_dropWithoutLatest_L0 at hf
  refine j_iload_n 1 C dX4_dropWithoutLatest_0 rfl ?_
  refine j_aload_n 0 C dX4_dropWithoutLatest_1 rfl ?_
  refine j_aload_n 0 C dX4_dropWithoutLatest_2 rfl ?_
  refine gC_10_0 C wt_306 dX4_dropWithoutLatest_3 ?_
  refine j_iconst C dX4_dropWithoutLatest_6 ?_
  refine j_isub C dX4_dropWithoutLatest_7 ?_
  obtain ⟨a3, s3, hc, hf⟩ := bd_s hf
  refine j_cVi (q0 := 10) (ci := 4) (T := TX4) (N := 6) [.int (iI ((σ.1 16) - 1))] [.int (iI v1)] C (c_X4_sinceOf _ _ ad cI cZ _ _ _ _ hc) mf_X4_sinceOf wt_769 wt_771 ws_28 rfl rfl rfl ⟨rfl, rfl, by decide, by decide⟩ rfl (Nat.le_of_ble_eq_true rfl) dX4_dropWithoutLatest_8 ?_
  refine j_bipush C dX4_dropWithoutLatest_11 bp_59 ?_
  obtain ⟨a4, s4, hc, hf⟩ := bd_s hf
  refine j_cSNi (host := "TermLodgings") [.int (iI v1), .int (iI a3), .int (iI 59)] [] C (c_X10_within _ _ ad cI cZ _ _ _ _ _ _ hc) mf_X10_within (List.mem_of_getElem? (i := 12) rfl) wt_363 rfl ⟨rfl, rfl, by decide, by decide⟩ rfl (Nat.le_of_ble_eq_true rfl) dX4_dropWithoutLatest_13 ?_
  refine j_if_eq 34 C rfl dX4_dropWithoutLatest_16 (by decide) (fun h => ?_) (fun h => ?_)
  · have hf := ifp h hf
    refine j_iconst C dX4_dropWithoutLatest_34 ?_
    exact j_sub [0, 1] rfl (tX4_dropWithoutLatest_L35 C hq _ _ _ hf)
  · have hf := ifn h hf
    refine j_aload_n 0 C dX4_dropWithoutLatest_19 rfl ?_
    refine gC_10_1 C wt_308 dX4_dropWithoutLatest_20 ?_
    refine j_iload_n 1 C dX4_dropWithoutLatest_23 rfl ?_
    obtain ⟨a5, s5, hc, hf⟩ := bd_s hf
    refine j_cSi [.int (iI (s4.1 17)), .int (iI v1)] [] C (c_X4_isListed _ _ ad cI cZ _ _ _ _ _ hc) mf_X4_isListed wt_765 wt_766 rfl ⟨rfl, rfl, by decide, by decide⟩ rfl (Nat.le_of_ble_eq_true rfl) dX4_dropWithoutLatest_24 ?_
    refine j_if_eq 34 C rfl dX4_dropWithoutLatest_27 (by decide) (fun h => ?_) (fun h => ?_)
    · have hf := ifp h hf
      refine j_iconst C dX4_dropWithoutLatest_34 ?_
      exact j_sub [0, 1] rfl (tX4_dropWithoutLatest_L35 C hq _ _ _ hf)
    · have hf := ifn h hf
      refine j_iconst C dX4_dropWithoutLatest_30 ?_
      refine j_goto 35 C dX4_dropWithoutLatest_31 (by decide) ?_
      exact j_sub [0, 1] rfl (tX4_dropWithoutLatest_L35 C hq _ _ _ hf)
theorem c_X4_dropWithoutLatest (l : Launch) (D : va_G) (ad : Nat → Nat) (cI cZ : ClassId) (σ : St) (v1 : Int) (r : Int) (σ' : St) (hf : fX4_dropWithoutLatest σ v1 = some (r, σ')) : McI l yX4_dropWithoutLatest cX4_dropWithoutLatest 3 .int rm_X4_dropWithoutLatest D (tyL cI cZ) (wC ad cI cZ) [.ref (ad 10), .int (iI v1)] σ r σ' := McI.mk mf_X4_dropWithoutLatest.2.2.2.2.2 (Nat.le_of_ble_eq_true rfl) (fun Γ C hq => j_sub [0, 1] rfl (tX4_dropWithoutLatest_L0 C hq v1 σ hf))
/-! TermLodgings$Rooms.add(III)I -/
def rm_X5_add : Room := { frames := 0, cells := 0, slots := 0, locals := 0 }
set_option maxRecDepth 20000 in
theorem tX5_add_L0 {ad : Nat → Nat} {cI cZ : ClassId} {Γ : Cx} {r : Int} {σ' : St} (C : CX cI cZ rm_X5_add 4 Γ cX5_add RX5) (hq : RetI .int (wC ad cI cZ) Γ cX5_add r σ') (v1 : Int) (v2 : Int) (v3 : Int) (σ : St) (hf : fX5_add_L0 v1 v2 v3 σ = some (r, σ')) : JJ (wC ad cI cZ) Γ σ 0 [(0, .ref (ad 2)), (1, .int (iI v1)), (2, .int (iI v2)), (3, .int (iI v3))] [] := by
  unfold fX5_add_L0 at hf
  refine j_aload_n 0 C dX5_add_0 rfl ?_
  refine gC_2_0 C wt_36 dX5_add_1 ?_
  refine j_bipush C dX5_add_4 bp_24 ?_
  refine j_icmp_lt 12 C rfl wl_24 dX5_add_6 (by decide) (fun h => ?_) (fun h => ?_)
  · have hf := ifp h hf
    refine j_aload_n 0 C dX5_add_12 rfl ?_
    refine gC_2_3 C wt_44 dX5_add_13 ?_
    refine j_aload_n 0 C dX5_add_16 rfl ?_
    refine gC_2_0 C wt_36 dX5_add_17 ?_
    refine j_iload_n 1 C dX5_add_20 rfl ?_
    obtain ⟨hI, hf⟩ := gI_s hf
    refine tC_1 C hI dX5_add_21 ?_
    refine j_aload_n 0 C dX5_add_22 rfl ?_
    refine gC_2_4 C wt_47 dX5_add_23 ?_
    refine j_aload_n 0 C dX5_add_26 rfl ?_
    refine gC_2_0 C wt_36 dX5_add_27 ?_
    refine j_iload_n 2 C dX5_add_30 rfl ?_
    obtain ⟨hI, hf⟩ := gI_s hf
    refine tC_2 C hI dX5_add_31 ?_
    refine j_aload_n 0 C dX5_add_32 rfl ?_
    refine gC_2_5 C wt_50 dX5_add_33 ?_
    refine j_aload_n 0 C dX5_add_36 rfl ?_
    refine gC_2_0 C wt_36 dX5_add_37 ?_
    refine j_iload_n 3 C dX5_add_40 rfl ?_
    obtain ⟨hI, hf⟩ := gI_s hf
    refine tC_3 C hI dX5_add_41 ?_
    refine j_aload_n 0 C dX5_add_42 rfl ?_
    refine gC_2_6 C wt_53 dX5_add_43 ?_
    refine j_aload_n 0 C dX5_add_46 rfl ?_
    refine gC_2_0 C wt_36 dX5_add_47 ?_
    refine j_iconst C dX5_add_50 ?_
    obtain ⟨hI, hf⟩ := gI_s hf
    refine tC_4 C hI dX5_add_51 ?_
    refine j_aload_n 0 C dX5_add_52 rfl ?_
    refine j_dup C rfl dX5_add_53 ?_
    refine gC_2_0 C wt_36 dX5_add_54 ?_
    refine j_iconst C dX5_add_57 ?_
    refine j_iadd C dX5_add_58 ?_
    refine pC_2_0 C wt_36 dX5_add_59 ?_
    refine j_aload_n 0 C dX5_add_62 rfl ?_
    refine gC_2_0 C wt_36 dX5_add_63 ?_
    refine j_iconst C dX5_add_66 ?_
    refine j_isub C dX5_add_67 ?_
    exact retI hq hf dX5_add_68
  · have hf := ifn h hf
    refine j_bipush C dX5_add_9 bp_m4 ?_
    exact retI hq hf dX5_add_11
theorem c_X5_add (l : Launch) (D : va_G) (ad : Nat → Nat) (cI cZ : ClassId) (σ : St) (v1 : Int) (v2 : Int) (v3 : Int) (r : Int) (σ' : St) (hf : fX5_add σ v1 v2 v3 = some (r, σ')) : McI l yX5_add cX5_add 4 .int rm_X5_add D (tyL cI cZ) (wC ad cI cZ) [.ref (ad 2), .int (iI v1), .int (iI v2), .int (iI v3)] σ r σ' := McI.mk mf_X5_add.2.2.2.2.2 (Nat.le_of_ble_eq_true rfl) (fun Γ C hq => j_sub [0, 1, 2, 3] rfl (tX5_add_L0 C hq v1 v2 v3 σ hf))
/-! TermLodgings$Rooms.holderOf(I)I -/
def rm_X5_holderOf : Room := { frames := 1, cells := 0, slots := 0, locals := 21 }
set_option maxRecDepth 20000 in
theorem tX5_holderOf_L0 {ad : Nat → Nat} {cI cZ : ClassId} {Γ : Cx} {r : Int} {σ' : St} (C : CX cI cZ rm_X5_holderOf 2 Γ cX5_holderOf RX5) (hq : RetI .int (wC ad cI cZ) Γ cX5_holderOf r σ') (v1 : Int) (σ : St) (hf : fX5_holderOf_L0 v1 σ = some (r, σ')) : JJ (wC ad cI cZ) Γ σ 0 [(0, .ref (ad 2)), (1, .int (iI v1))] [] := by
  unfold fX5_holderOf_L0 at hf
  refine j_aload_n 0 C dX5_holderOf_0 rfl ?_
  refine j_iload_n 1 C dX5_holderOf_1 rfl ?_
  obtain ⟨a1, s1, hc, hf⟩ := bd_s hf
  refine j_cVi (q0 := 2) (ci := 5) (T := TX5) (N := 7) [.int (iI v1)] [] C (c_X5_has _ _ ad cI cZ _ _ _ _ hc) mf_X5_has wt_439 wt_390 wt_391 rfl rfl rfl ⟨rfl, rfl, by decide, by decide⟩ rfl (Nat.le_of_ble_eq_true rfl) dX5_holderOf_2 ?_
  refine j_if_eq 17 C rfl dX5_holderOf_5 (by decide) (fun h => ?_) (fun h => ?_)
  · have hf := ifp h hf
    refine j_iconst C dX5_holderOf_17 ?_
    exact retI hq hf dX5_holderOf_18
  · have hf := ifn h hf
    refine j_aload_n 0 C dX5_holderOf_8 rfl ?_
    refine gC_2_6 C wt_53 dX5_holderOf_9 ?_
    refine j_iload_n 1 C dX5_holderOf_12 rfl ?_
    obtain ⟨hI, hf⟩ := gI_s hf
    refine lC_4 C hI dX5_holderOf_13 ?_
    refine j_goto 18 C dX5_holderOf_14 (by decide) ?_
    exact retI hq hf dX5_holderOf_18
theorem c_X5_holderOf (l : Launch) (D : va_G) (ad : Nat → Nat) (cI cZ : ClassId) (σ : St) (v1 : Int) (r : Int) (σ' : St) (hf : fX5_holderOf σ v1 = some (r, σ')) : McI l yX5_holderOf cX5_holderOf 2 .int rm_X5_holderOf D (tyL cI cZ) (wC ad cI cZ) [.ref (ad 2), .int (iI v1)] σ r σ' := McI.mk mf_X5_holderOf.2.2.2.2.2 (Nat.le_of_ble_eq_true rfl) (fun Γ C hq => j_sub [0, 1] rfl (tX5_holderOf_L0 C hq v1 σ hf))
/-! TermLodgings$Statute.clear()V -/
def rm_X6_clear : Room := { frames := 0, cells := 0, slots := 0, locals := 0 }
set_option maxRecDepth 20000 in
theorem tX6_clear_L0 {ad : Nat → Nat} {cI cZ : ClassId} {Γ : Cx} {σ' : St} (C : CX cI cZ rm_X6_clear 1 Γ cX6_clear RX6) (hq : RetV (wC ad cI cZ) Γ cX6_clear σ') (σ : St) (hf : fX6_clear_L0 σ = some σ') : JJ (wC ad cI cZ) Γ σ 0 [(0, .ref (ad 4))] [] := by
  unfold fX6_clear_L0 at hf
  refine j_aload_n 0 C dX6_clear_0 rfl ?_
  refine j_iconst C dX6_clear_1 ?_
  refine pC_4_0 C wt_126 dX6_clear_2 ?_
  refine j_aload_n 0 C dX6_clear_5 rfl ?_
  refine j_iconst C dX6_clear_6 ?_
  refine pC_4_1 C wt_128 dX6_clear_7 ?_
  refine j_aload_n 0 C dX6_clear_10 rfl ?_
  refine j_iconst C dX6_clear_11 ?_
  refine pC_4_2 C wt_129 dX6_clear_12 ?_
  refine j_aload_n 0 C dX6_clear_15 rfl ?_
  refine j_iconst C dX6_clear_16 ?_
  refine pC_4_3 C wt_130 dX6_clear_17 ?_
  refine j_aload_n 0 C dX6_clear_20 rfl ?_
  refine j_iconst C dX6_clear_21 ?_
  refine pC_4_4 C isB_1 wt_131 dX6_clear_22 ?_
  exact retV hq hf dX6_clear_25
theorem c_X6_clear (l : Launch) (D : va_G) (ad : Nat → Nat) (cI cZ : ClassId) (σ : St) (σ' : St) (hf : fX6_clear σ = some σ') : McV l yX6_clear cX6_clear 1 rm_X6_clear D (tyL cI cZ) (wC ad cI cZ) [.ref (ad 4)] σ σ' := McV.mk mf_X6_clear.2.2.2.2.2 (Nat.le_of_ble_eq_true rfl) (fun Γ C hq => j_sub [0] rfl (tX6_clear_L0 C hq  σ hf))
/-! TermLodgings$Statute.beginTest(I)Z -/
def rm_X6_beginTest : Room := { frames := 0, cells := 0, slots := 0, locals := 0 }
set_option maxRecDepth 20000 in
theorem tX6_beginTest_L29 {ad : Nat → Nat} {cI cZ : ClassId} {Γ : Cx} {r : Int} {σ' : St} (C : CX cI cZ rm_X6_beginTest 3 Γ cX6_beginTest RX6) (hq : RetI .boolean (wC ad cI cZ) Γ cX6_beginTest r σ') (v1 : Int) (t0 : Int) (σ : St) (hf : fX6_beginTest_L29 v1 t0 σ = some (r, σ')) : JJ (wC ad cI cZ) Γ σ 29 [(0, .ref (ad 4)), (1, .int (iI v1))] [.int (iI t0)] := by
  unfold fX6_beginTest_L29 at hf
  refine j_istore_n [(2, .int (iI t0)), (0, .ref (ad 4)), (1, .int (iI v1))] C dX6_beginTest_29 (by decide) rfl ?_
  refine j_iload_n 0 C dX6_beginTest_30 rfl ?_
  refine j_if_eq 43 C rfl dX6_beginTest_31 (by decide) (fun h => ?_) (fun h => ?_)
  · have hf := ifp h hf
    refine j_iconst C dX6_beginTest_43 ?_
    exact retZc hq isB_0 hf dX6_beginTest_44
  · have hf := ifn h hf
    refine j_aload_n 1 C dX6_beginTest_34 rfl ?_
    refine gC_4_1 C wt_128 dX6_beginTest_35 ?_
    refine j_bipush C dX6_beginTest_38 bp_16 ?_
    refine j_icmp_lt 45 C rfl wl_16 dX6_beginTest_40 (by decide) (fun h => ?_) (fun h => ?_)
    · have hf := ifp h hf
      refine j_aload_n 1 C dX6_beginTest_45 rfl ?_
      refine gC_4_5 C wt_132 dX6_beginTest_46 ?_
      refine j_aload_n 1 C dX6_beginTest_49 rfl ?_
      refine gC_4_1 C wt_128 dX6_beginTest_50 ?_
      refine j_iload_n 2 C dX6_beginTest_53 rfl ?_
      obtain ⟨hI, hf⟩ := gI_s hf
      refine tC_12 C hI dX6_beginTest_54 ?_
      refine j_aload_n 1 C dX6_beginTest_55 rfl ?_
      refine gC_4_7 C wt_134 dX6_beginTest_56 ?_
      refine j_aload_n 1 C dX6_beginTest_59 rfl ?_
      refine gC_4_1 C wt_128 dX6_beginTest_60 ?_
      refine j_iconst C dX6_beginTest_63 ?_
      obtain ⟨hI, hf⟩ := gI_s hf
      refine tC_14 C hI dX6_beginTest_64 ?_
      refine j_aload_n 1 C dX6_beginTest_65 rfl ?_
      refine gC_4_8 C wt_135 dX6_beginTest_66 ?_
      refine j_aload_n 1 C dX6_beginTest_69 rfl ?_
      refine gC_4_1 C wt_128 dX6_beginTest_70 ?_
      refine j_aload_n 1 C dX6_beginTest_73 rfl ?_
      refine gC_4_4 C wt_131 dX6_beginTest_74 ?_
      obtain ⟨hI, hf⟩ := gI_s hf
      obtain ⟨hB, hf⟩ := gB_s hf
      refine tC_15 C hI hB dX6_beginTest_77 ?_
      refine j_aload_n 1 C dX6_beginTest_78 rfl ?_
      refine j_dup C rfl dX6_beginTest_79 ?_
      refine gC_4_1 C wt_128 dX6_beginTest_80 ?_
      refine j_iconst C dX6_beginTest_83 ?_
      refine j_iadd C dX6_beginTest_84 ?_
      refine pC_4_1 C wt_128 dX6_beginTest_85 ?_
      refine j_aload_n 1 C dX6_beginTest_88 rfl ?_
      refine j_iconst C dX6_beginTest_89 ?_
      refine pC_4_2 C wt_129 dX6_beginTest_90 ?_
      refine j_iconst C dX6_beginTest_93 ?_
      exact retZc hq isB_1 hf dX6_beginTest_94
    · have hf := ifn h hf
      refine j_iconst C dX6_beginTest_43 ?_
      exact retZc hq isB_0 hf dX6_beginTest_44
set_option maxRecDepth 20000 in
theorem tX6_beginTest_L0 {ad : Nat → Nat} {cI cZ : ClassId} {Γ : Cx} {r : Int} {σ' : St} (C : CX cI cZ rm_X6_beginTest 3 Γ cX6_beginTest RX6) (hq : RetI .boolean (wC ad cI cZ) Γ cX6_beginTest r σ') (v1 : Int) (σ : St) (hf : fX6_beginTest_L0 v1 σ = some (r, σ')) : JJ (wC ad cI cZ) Γ σ 0 [(0, .ref (ad 4)), (1, .int (iI v1))] [] := by
  unfold fX6_beginTest_L0 at hf
  refine j_iload_n 1 C dX6_beginTest_0 rfl ?_
  refine j_bipush C dX6_beginTest_1 bp_121 ?_
  refine j_icmp_eq 24 C rfl wl_121 dX6_beginTest_3 (by decide) (fun h => ?_) (fun h => ?_)
  · have hf := ifp h hf
    refine j_iconst C dX6_beginTest_24 ?_
    refine j_goto 29 C dX6_beginTest_25 (by decide) ?_
    exact j_sub [0, 1] rfl (tX6_beginTest_L29 C hq _ _ _ hf)
  · have hf := ifn h hf
    refine j_iload_n 1 C dX6_beginTest_6 rfl ?_
    refine j_bipush C dX6_beginTest_7 bp_109 ?_
    refine j_icmp_eq 24 C rfl wl_109 dX6_beginTest_9 (by decide) (fun h => ?_) (fun h => ?_)
    · have hf := ifp h hf
      refine j_iconst C dX6_beginTest_24 ?_
      refine j_goto 29 C dX6_beginTest_25 (by decide) ?_
      exact j_sub [0, 1] rfl (tX6_beginTest_L29 C hq _ _ _ hf)
    · have hf := ifn h hf
      refine j_iload_n 1 C dX6_beginTest_12 rfl ?_
      refine j_bipush C dX6_beginTest_13 bp_115 ?_
      refine j_icmp_eq 24 C rfl wl_115 dX6_beginTest_15 (by decide) (fun h => ?_) (fun h => ?_)
      · have hf := ifp h hf
        refine j_iconst C dX6_beginTest_24 ?_
        refine j_goto 29 C dX6_beginTest_25 (by decide) ?_
        exact j_sub [0, 1] rfl (tX6_beginTest_L29 C hq _ _ _ hf)
      · have hf := ifn h hf
        refine j_iload_n 1 C dX6_beginTest_18 rfl ?_
        refine j_bipush C dX6_beginTest_19 bp_104 ?_
        refine j_icmp_ne 28 C rfl wl_104 dX6_beginTest_21 (by decide) (fun h => ?_) (fun h => ?_)
        · have hf := ifn h hf
          refine j_iconst C dX6_beginTest_28 ?_
          exact j_sub [0, 1] rfl (tX6_beginTest_L29 C hq _ _ _ hf)
        · have hf := ifp h hf
          refine j_iconst C dX6_beginTest_24 ?_
          refine j_goto 29 C dX6_beginTest_25 (by decide) ?_
          exact j_sub [0, 1] rfl (tX6_beginTest_L29 C hq _ _ _ hf)
theorem c_X6_beginTest (l : Launch) (D : va_G) (ad : Nat → Nat) (cI cZ : ClassId) (σ : St) (v1 : Int) (r : Int) (σ' : St) (hf : fX6_beginTest σ v1 = some (r, σ')) : McI l yX6_beginTest cX6_beginTest 3 .boolean rm_X6_beginTest D (tyL cI cZ) (wC ad cI cZ) [.ref (ad 4), .int (iI v1)] σ r σ' := McI.mk mf_X6_beginTest.2.2.2.2.2 (Nat.le_of_ble_eq_true rfl) (fun Γ C hq => j_sub [0, 1] rfl (tX6_beginTest_L0 C hq v1 σ hf))
/-! TermLodgings$Statute.takeSign(I)Z -/
def rm_X6_takeSign : Room := { frames := 0, cells := 0, slots := 0, locals := 0 }
set_option maxRecDepth 20000 in
theorem tX6_takeSign_L20 {ad : Nat → Nat} {cI cZ : ClassId} {Γ : Cx} {r : Int} {σ' : St} (C : CX cI cZ rm_X6_takeSign 2 Γ cX6_takeSign RX6) (hq : RetI .boolean (wC ad cI cZ) Γ cX6_takeSign r σ') (v1 : Int) (σ : St) (hf : fX6_takeSign_L20 v1 σ = some (r, σ')) : JJ (wC ad cI cZ) Γ σ 20 [(0, .ref (ad 4)), (1, .int (iI v1))] [] := by
  unfold fX6_takeSign_L20 at hf
  refine j_aload_n 0 C dX6_takeSign_20 rfl ?_
  refine gC_4_6 C wt_133 dX6_takeSign_21 ?_
  refine j_aload_n 0 C dX6_takeSign_24 rfl ?_
  refine gC_4_1 C wt_128 dX6_takeSign_25 ?_
  refine j_iconst C dX6_takeSign_28 ?_
  refine j_isub C dX6_takeSign_29 ?_
  refine j_iload_n 1 C dX6_takeSign_30 rfl ?_
  obtain ⟨hI, hf⟩ := gI_s hf
  refine tC_13 C hI dX6_takeSign_31 ?_
  refine j_aload_n 0 C dX6_takeSign_32 rfl ?_
  refine j_iconst C dX6_takeSign_33 ?_
  refine pC_4_2 C wt_129 dX6_takeSign_34 ?_
  refine j_iconst C dX6_takeSign_37 ?_
  exact retZc hq isB_1 hf dX6_takeSign_38
set_option maxRecDepth 20000 in
theorem tX6_takeSign_L0 {ad : Nat → Nat} {cI cZ : ClassId} {Γ : Cx} {r : Int} {σ' : St} (C : CX cI cZ rm_X6_takeSign 2 Γ cX6_takeSign RX6) (hq : RetI .boolean (wC ad cI cZ) Γ cX6_takeSign r σ') (v1 : Int) (σ : St) (hf : fX6_takeSign_L0 v1 σ = some (r, σ')) : JJ (wC ad cI cZ) Γ σ 0 [(0, .ref (ad 4)), (1, .int (iI v1))] [] := by
  unfold fX6_takeSign_L0 at hf
  refine j_iload_n 1 C dX6_takeSign_0 rfl ?_
  refine j_bipush C dX6_takeSign_1 bp_60 ?_
  refine j_icmp_eq 20 C rfl wl_60 dX6_takeSign_3 (by decide) (fun h => ?_) (fun h => ?_)
  · have hf := ifp h hf
    exact j_sub [0, 1] rfl (tX6_takeSign_L20 C hq _ _ hf)
  · have hf := ifn h hf
    refine j_iload_n 1 C dX6_takeSign_6 rfl ?_
    refine j_bipush C dX6_takeSign_7 bp_61 ?_
    refine j_icmp_eq 20 C rfl wl_61 dX6_takeSign_9 (by decide) (fun h => ?_) (fun h => ?_)
    · have hf := ifp h hf
      exact j_sub [0, 1] rfl (tX6_takeSign_L20 C hq _ _ hf)
    · have hf := ifn h hf
      refine j_iload_n 1 C dX6_takeSign_12 rfl ?_
      refine j_bipush C dX6_takeSign_13 bp_62 ?_
      refine j_icmp_eq 20 C rfl wl_62 dX6_takeSign_15 (by decide) (fun h => ?_) (fun h => ?_)
      · have hf := ifp h hf
        exact j_sub [0, 1] rfl (tX6_takeSign_L20 C hq _ _ hf)
      · have hf := ifn h hf
        refine j_iconst C dX6_takeSign_18 ?_
        exact retZc hq isB_0 hf dX6_takeSign_19
theorem c_X6_takeSign (l : Launch) (D : va_G) (ad : Nat → Nat) (cI cZ : ClassId) (σ : St) (v1 : Int) (r : Int) (σ' : St) (hf : fX6_takeSign σ v1 = some (r, σ')) : McI l yX6_takeSign cX6_takeSign 2 .boolean rm_X6_takeSign D (tyL cI cZ) (wC ad cI cZ) [.ref (ad 4), .int (iI v1)] σ r σ' := McI.mk mf_X6_takeSign.2.2.2.2.2 (Nat.le_of_ble_eq_true rfl) (fun Γ C hq => j_sub [0, 1] rfl (tX6_takeSign_L0 C hq v1 σ hf))
/-! TermLodgings$Statute.takeFigure(I)Z -/
def rm_X6_takeFigure : Room := { frames := 0, cells := 0, slots := 0, locals := 0 }
set_option maxRecDepth 20000 in
theorem tX6_takeFigure_L0 {ad : Nat → Nat} {cI cZ : ClassId} {Γ : Cx} {r : Int} {σ' : St} (C : CX cI cZ rm_X6_takeFigure 2 Γ cX6_takeFigure RX6) (hq : RetI .boolean (wC ad cI cZ) Γ cX6_takeFigure r σ') (v1 : Int) (σ : St) (hf : fX6_takeFigure_L0 v1 σ = some (r, σ')) : JJ (wC ad cI cZ) Γ σ 0 [(0, .ref (ad 4)), (1, .int (iI v1))] [] := by
  unfold fX6_takeFigure_L0 at hf
  refine j_aload_n 0 C dX6_takeFigure_0 rfl ?_
  refine gC_4_2 C wt_129 dX6_takeFigure_1 ?_
  refine j_iconst C dX6_takeFigure_4 ?_
  refine j_icmp_lt 10 C rfl wl_5 dX6_takeFigure_5 (by decide) (fun h => ?_) (fun h => ?_)
  · have hf := ifp h hf
    refine j_aload_n 0 C dX6_takeFigure_10 rfl ?_
    refine gC_4_7 C wt_134 dX6_takeFigure_11 ?_
    refine j_aload_n 0 C dX6_takeFigure_14 rfl ?_
    refine gC_4_1 C wt_128 dX6_takeFigure_15 ?_
    refine j_iconst C dX6_takeFigure_18 ?_
    refine j_isub C dX6_takeFigure_19 ?_
    refine j_bipush C dX6_takeFigure_20 bp_10 ?_
    refine j_aload_n 0 C dX6_takeFigure_22 rfl ?_
    refine gC_4_7 C wt_134 dX6_takeFigure_23 ?_
    refine j_aload_n 0 C dX6_takeFigure_26 rfl ?_
    refine gC_4_1 C wt_128 dX6_takeFigure_27 ?_
    refine j_iconst C dX6_takeFigure_30 ?_
    refine j_isub C dX6_takeFigure_31 ?_
    obtain ⟨hI, hf⟩ := gI_s hf
    refine lC_14 C hI dX6_takeFigure_32 ?_
    refine j_imul C dX6_takeFigure_33 ?_
    refine j_iload_n 1 C dX6_takeFigure_34 rfl ?_
    refine j_iadd C dX6_takeFigure_35 ?_
    obtain ⟨hI, hf⟩ := gI_s hf
    refine tC_14 C hI dX6_takeFigure_36 ?_
    refine j_aload_n 0 C dX6_takeFigure_37 rfl ?_
    refine j_dup C rfl dX6_takeFigure_38 ?_
    refine gC_4_2 C wt_129 dX6_takeFigure_39 ?_
    refine j_iconst C dX6_takeFigure_42 ?_
    refine j_iadd C dX6_takeFigure_43 ?_
    refine pC_4_2 C wt_129 dX6_takeFigure_44 ?_
    refine j_iconst C dX6_takeFigure_47 ?_
    exact retZc hq isB_1 hf dX6_takeFigure_48
  · have hf := ifn h hf
    refine j_iconst C dX6_takeFigure_8 ?_
    exact retZc hq isB_0 hf dX6_takeFigure_9
theorem c_X6_takeFigure (l : Launch) (D : va_G) (ad : Nat → Nat) (cI cZ : ClassId) (σ : St) (v1 : Int) (r : Int) (σ' : St) (hf : fX6_takeFigure σ v1 = some (r, σ')) : McI l yX6_takeFigure cX6_takeFigure 2 .boolean rm_X6_takeFigure D (tyL cI cZ) (wC ad cI cZ) [.ref (ad 4), .int (iI v1)] σ r σ' := McI.mk mf_X6_takeFigure.2.2.2.2.2 (Nat.le_of_ble_eq_true rfl) (fun Γ C hq => j_sub [0, 1] rfl (tX6_takeFigure_L0 C hq v1 σ hf))
/-! TermLodgings$Statute.endTest(I)Z -/
def rm_X6_endTest : Room := { frames := 0, cells := 0, slots := 0, locals := 0 }
set_option maxRecDepth 20000 in
theorem tX6_endTest_L22 {ad : Nat → Nat} {cI cZ : ClassId} {Γ : Cx} {r : Int} {σ' : St} (C : CX cI cZ rm_X6_endTest 2 Γ cX6_endTest RX6) (hq : RetI .boolean (wC ad cI cZ) Γ cX6_endTest r σ') (v1 : Int) (σ : St) (hf : fX6_endTest_L22 v1 σ = some (r, σ')) : JJ (wC ad cI cZ) Γ σ 22 [(0, .ref (ad 4)), (1, .int (iI v1))] [] := by
  unfold fX6_endTest_L22 at hf
  refine j_aload_n 0 C dX6_endTest_22 rfl ?_
  refine j_iload_n 1 C dX6_endTest_23 rfl ?_
  refine j_bipush C dX6_endTest_24 bp_124 ?_
  refine j_icmp_ne 33 C rfl wl_124 dX6_endTest_26 (by decide) (fun h => ?_) (fun h => ?_)
  · have hf := ifn h hf
    refine j_iconst C dX6_endTest_33 ?_
    refine pC_4_4 C isB_0 wt_131 dX6_endTest_34 ?_
    refine j_aload_n 0 C dX6_endTest_37 rfl ?_
    refine j_iconst C dX6_endTest_38 ?_
    refine pC_4_2 C wt_129 dX6_endTest_39 ?_
    refine j_iconst C dX6_endTest_42 ?_
    exact retZc hq isB_1 hf dX6_endTest_43
  · have hf := ifp h hf
    refine j_iconst C dX6_endTest_29 ?_
    refine j_goto 34 C dX6_endTest_30 (by decide) ?_
    refine pC_4_4 C isB_1 wt_131 dX6_endTest_34 ?_
    refine j_aload_n 0 C dX6_endTest_37 rfl ?_
    refine j_iconst C dX6_endTest_38 ?_
    refine pC_4_2 C wt_129 dX6_endTest_39 ?_
    refine j_iconst C dX6_endTest_42 ?_
    exact retZc hq isB_1 hf dX6_endTest_43
set_option maxRecDepth 20000 in
theorem tX6_endTest_L0 {ad : Nat → Nat} {cI cZ : ClassId} {Γ : Cx} {r : Int} {σ' : St} (C : CX cI cZ rm_X6_endTest 2 Γ cX6_endTest RX6) (hq : RetI .boolean (wC ad cI cZ) Γ cX6_endTest r σ') (v1 : Int) (σ : St) (hf : fX6_endTest_L0 v1 σ = some (r, σ')) : JJ (wC ad cI cZ) Γ σ 0 [(0, .ref (ad 4)), (1, .int (iI v1))] [] := by
  unfold fX6_endTest_L0 at hf
  refine j_aload_n 0 C dX6_endTest_0 rfl ?_
  refine gC_4_2 C wt_129 dX6_endTest_1 ?_
  refine j_iconst C dX6_endTest_4 ?_
  refine j_icmp_eq 20 C rfl wl_2 dX6_endTest_5 (by decide) (fun h => ?_) (fun h => ?_)
  · have hf := ifp h hf
    refine j_iconst C dX6_endTest_20 ?_
    exact retZc hq isB_0 hf dX6_endTest_21
  · have hf := ifn h hf
    refine j_iload_n 1 C dX6_endTest_8 rfl ?_
    refine j_bipush C dX6_endTest_9 bp_38 ?_
    refine j_icmp_eq 22 C rfl wl_38 dX6_endTest_11 (by decide) (fun h => ?_) (fun h => ?_)
    · have hf := ifp h hf
      exact j_sub [0, 1] rfl (tX6_endTest_L22 C hq _ _ hf)
    · have hf := ifn h hf
      refine j_iload_n 1 C dX6_endTest_14 rfl ?_
      refine j_bipush C dX6_endTest_15 bp_124 ?_
      refine j_icmp_eq 22 C rfl wl_124 dX6_endTest_17 (by decide) (fun h => ?_) (fun h => ?_)
      · have hf := ifp h hf
        exact j_sub [0, 1] rfl (tX6_endTest_L22 C hq _ _ hf)
      · have hf := ifn h hf
        refine j_iconst C dX6_endTest_20 ?_
        exact retZc hq isB_0 hf dX6_endTest_21
theorem c_X6_endTest (l : Launch) (D : va_G) (ad : Nat → Nat) (cI cZ : ClassId) (σ : St) (v1 : Int) (r : Int) (σ' : St) (hf : fX6_endTest σ v1 = some (r, σ')) : McI l yX6_endTest cX6_endTest 2 .boolean rm_X6_endTest D (tyL cI cZ) (wC ad cI cZ) [.ref (ad 4), .int (iI v1)] σ r σ' := McI.mk mf_X6_endTest.2.2.2.2.2 (Nat.le_of_ble_eq_true rfl) (fun Γ C hq => j_sub [0, 1] rfl (tX6_endTest_L0 C hq v1 σ hf))
/-! TermLodgings$Statute.goesOnWith(I)Z -/
def rm_X6_goesOnWith : Room := { frames := 1, cells := 0, slots := 0, locals := 22 }
set_option maxRecDepth 20000 in
theorem tX6_goesOnWith_L0 {ad : Nat → Nat} {cI cZ : ClassId} {Γ : Cx} {r : Int} {σ' : St} (C : CX cI cZ rm_X6_goesOnWith 2 Γ cX6_goesOnWith RX6) (hq : RetI .boolean (wC ad cI cZ) Γ cX6_goesOnWith r σ') (v1 : Int) (σ : St) (hf : fX6_goesOnWith_L0 v1 σ = some (r, σ')) : JJ (wC ad cI cZ) Γ σ 0 [(0, .ref (ad 4)), (1, .int (iI v1))] [] := by
  unfold fX6_goesOnWith_L0 at hf
  refine j_aload_n 0 C dX6_goesOnWith_0 rfl ?_
  refine gC_4_2 C wt_129 dX6_goesOnWith_1 ?_
  refine j_if_ne 13 C rfl dX6_goesOnWith_4 (by decide) (fun h => ?_) (fun h => ?_)
  · have hf := ifn h hf
    refine j_aload_n 0 C dX6_goesOnWith_13 rfl ?_
    refine gC_4_1 C wt_128 dX6_goesOnWith_14 ?_
    refine j_iconst C dX6_goesOnWith_17 ?_
    refine j_bipush C dX6_goesOnWith_18 bp_16 ?_
    obtain ⟨a1, s1, hc, hf⟩ := bd_s hf
    refine j_cSNi (host := "TermLodgings") [.int (iI (σ.1 5)), .int (iI 1), .int (iI 16)] [] C (c_X10_within _ _ ad cI cZ _ _ _ _ _ _ hc) mf_X10_within (List.mem_of_getElem? (i := 6) rfl) wt_363 rfl ⟨rfl, rfl, by decide, by decide⟩ rfl (Nat.le_of_ble_eq_true rfl) dX6_goesOnWith_20 ?_
    refine j_if_ne 28 C rfl dX6_goesOnWith_23 (by decide) (fun h => ?_) (fun h => ?_)
    · have hf := ifn h hf
      refine j_aload_n 0 C dX6_goesOnWith_28 rfl ?_
      refine gC_4_2 C wt_129 dX6_goesOnWith_29 ?_
      refine j_iconst C dX6_goesOnWith_32 ?_
      refine j_icmp_ne 42 C rfl wl_1 dX6_goesOnWith_33 (by decide) (fun h => ?_) (fun h => ?_)
      · have hf := ifn h hf
        refine j_iload_n 1 C dX6_goesOnWith_42 rfl ?_
        refine j_bipush C dX6_goesOnWith_43 bp_48 ?_
        refine j_bipush C dX6_goesOnWith_45 bp_57 ?_
        obtain ⟨a2, s2, hc, hf⟩ := bd_s hf
        refine j_cSNi (host := "TermLodgings") [.int (iI v1), .int (iI 48), .int (iI 57)] [] C (c_X10_within _ _ ad cI cZ _ _ _ _ _ _ hc) mf_X10_within (List.mem_of_getElem? (i := 6) rfl) wt_363 rfl ⟨rfl, rfl, by decide, by decide⟩ rfl (Nat.le_of_ble_eq_true rfl) dX6_goesOnWith_47 ?_
        refine j_if_eq 64 C rfl dX6_goesOnWith_50 (by decide) (fun h => ?_) (fun h => ?_)
        · have hf := ifp h hf
          refine j_aload_n 0 C dX6_goesOnWith_64 rfl ?_
          refine j_iload_n 1 C dX6_goesOnWith_65 rfl ?_
          obtain ⟨a3, s3, hc, hf⟩ := bd_s hf
          refine j_cVi (q0 := 4) (ci := 6) (T := TX6) (N := 9) [.int (iI v1)] [] C (c_X6_endTest _ _ ad cI cZ _ _ _ _ hc) mf_X6_endTest wt_504 wt_506 ws_6 rfl rfl rfl ⟨rfl, rfl, by decide, by decide⟩ rfl (Nat.le_of_ble_eq_true rfl) dX6_goesOnWith_66 ?_
          exact retZ hq hf dX6_goesOnWith_69
        · have hf := ifn h hf
          refine j_aload_n 0 C dX6_goesOnWith_53 rfl ?_
          refine j_iload_n 1 C dX6_goesOnWith_54 rfl ?_
          refine j_bipush C dX6_goesOnWith_55 bp_48 ?_
          refine j_isub C dX6_goesOnWith_57 ?_
          obtain ⟨a4, s4, hc, hf⟩ := bd_s hf
          refine j_cVi (q0 := 4) (ci := 6) (T := TX6) (N := 9) [.int (iI (v1 - 48))] [] C (c_X6_takeFigure _ _ ad cI cZ _ _ _ _ hc) mf_X6_takeFigure wt_500 wt_502 ws_5 rfl rfl rfl ⟨rfl, rfl, by decide, by decide⟩ rfl (Nat.le_of_ble_eq_true rfl) dX6_goesOnWith_58 ?_
          refine j_goto 69 C dX6_goesOnWith_61 (by decide) ?_
          exact retZ hq hf dX6_goesOnWith_69
      · have hf := ifp h hf
        refine j_aload_n 0 C dX6_goesOnWith_36 rfl ?_
        refine j_iload_n 1 C dX6_goesOnWith_37 rfl ?_
        obtain ⟨a5, s5, hc, hf⟩ := bd_s hf
        refine j_cVi (q0 := 4) (ci := 6) (T := TX6) (N := 9) [.int (iI v1)] [] C (c_X6_takeSign _ _ ad cI cZ _ _ _ _ hc) mf_X6_takeSign wt_496 wt_498 ws_4 rfl rfl rfl ⟨rfl, rfl, by decide, by decide⟩ rfl (Nat.le_of_ble_eq_true rfl) dX6_goesOnWith_38 ?_
        exact retZ hq hf dX6_goesOnWith_41
    · have hf := ifp h hf
      refine j_iconst C dX6_goesOnWith_26 ?_
      exact retZc hq isB_0 hf dX6_goesOnWith_27
  · have hf := ifp h hf
    refine j_aload_n 0 C dX6_goesOnWith_7 rfl ?_
    refine j_iload_n 1 C dX6_goesOnWith_8 rfl ?_
    obtain ⟨a6, s6, hc, hf⟩ := bd_s hf
    refine j_cVi (q0 := 4) (ci := 6) (T := TX6) (N := 9) [.int (iI v1)] [] C (c_X6_beginTest _ _ ad cI cZ _ _ _ _ hc) mf_X6_beginTest wt_491 wt_493 ws_3 rfl rfl rfl ⟨rfl, rfl, by decide, by decide⟩ rfl (Nat.le_of_ble_eq_true rfl) dX6_goesOnWith_9 ?_
    exact retZ hq hf dX6_goesOnWith_12
theorem c_X6_goesOnWith (l : Launch) (D : va_G) (ad : Nat → Nat) (cI cZ : ClassId) (σ : St) (v1 : Int) (r : Int) (σ' : St) (hf : fX6_goesOnWith σ v1 = some (r, σ')) : McI l yX6_goesOnWith cX6_goesOnWith 2 .boolean rm_X6_goesOnWith D (tyL cI cZ) (wC ad cI cZ) [.ref (ad 4), .int (iI v1)] σ r σ' := McI.mk mf_X6_goesOnWith.2.2.2.2.2 (Nat.le_of_ble_eq_true rfl) (fun Γ C hq => j_sub [0, 1] rfl (tX6_goesOnWith_L0 C hq v1 σ hf))
/-! TermLodgings$Statute.add(I)I -/
def rm_X6_add : Room := { frames := 2, cells := 0, slots := 0, locals := 43 }
set_option maxRecDepth 20000 in
theorem tX6_add_L0 {ad : Nat → Nat} {cI cZ : ClassId} {Γ : Cx} {r : Int} {σ' : St} (C : CX cI cZ rm_X6_add 2 Γ cX6_add RX6) (hq : RetI .int (wC ad cI cZ) Γ cX6_add r σ') (v1 : Int) (σ : St) (hf : fX6_add_L0 v1 σ = some (r, σ')) : JJ (wC ad cI cZ) Γ σ 0 [(0, .ref (ad 4)), (1, .int (iI v1))] [] := by
  unfold fX6_add_L0 at hf
  refine j_aload_n 0 C dX6_add_0 rfl ?_
  refine gC_4_3 C wt_130 dX6_add_1 ?_
  refine j_iconst C dX6_add_4 ?_
  refine j_icmp_ne 24 C rfl wl_m1 dX6_add_5 (by decide) (fun h => ?_) (fun h => ?_)
  · have hf := ifn h hf
    refine j_aload_n 0 C dX6_add_24 rfl ?_
    refine j_dup C rfl dX6_add_25 ?_
    refine gC_4_0 C wt_126 dX6_add_26 ?_
    refine j_iconst C dX6_add_29 ?_
    refine j_iadd C dX6_add_30 ?_
    refine pC_4_0 C wt_126 dX6_add_31 ?_
    refine j_aload_n 0 C dX6_add_34 rfl ?_
    refine gC_4_0 C wt_126 dX6_add_35 ?_
    exact retI hq hf dX6_add_38
  · have hf := ifp h hf
    refine j_aload_n 0 C dX6_add_8 rfl ?_
    refine j_iload_n 1 C dX6_add_9 rfl ?_
    obtain ⟨a1, s1, hc, hf⟩ := bd_s hf
    refine j_cVi (q0 := 4) (ci := 6) (T := TX6) (N := 9) [.int (iI v1)] [] C (c_X6_goesOnWith _ _ ad cI cZ _ _ _ _ hc) mf_X6_goesOnWith wt_487 wt_489 ws_2 rfl rfl rfl ⟨rfl, rfl, by decide, by decide⟩ rfl (Nat.le_of_ble_eq_true rfl) dX6_add_10 ?_
    refine j_if_ne 24 C rfl dX6_add_13 (by decide) (fun h => ?_) (fun h => ?_)
    · have hf := ifn h hf
      refine j_aload_n 0 C dX6_add_24 rfl ?_
      refine j_dup C rfl dX6_add_25 ?_
      refine gC_4_0 C wt_126 dX6_add_26 ?_
      refine j_iconst C dX6_add_29 ?_
      refine j_iadd C dX6_add_30 ?_
      refine pC_4_0 C wt_126 dX6_add_31 ?_
      refine j_aload_n 0 C dX6_add_34 rfl ?_
      refine gC_4_0 C wt_126 dX6_add_35 ?_
      exact retI hq hf dX6_add_38
    · have hf := ifp h hf
      refine j_aload_n 0 C dX6_add_16 rfl ?_
      refine j_aload_n 0 C dX6_add_17 rfl ?_
      refine gC_4_0 C wt_126 dX6_add_18 ?_
      refine pC_4_3 C wt_130 dX6_add_21 ?_
      refine j_aload_n 0 C dX6_add_24 rfl ?_
      refine j_dup C rfl dX6_add_25 ?_
      refine gC_4_0 C wt_126 dX6_add_26 ?_
      refine j_iconst C dX6_add_29 ?_
      refine j_iadd C dX6_add_30 ?_
      refine pC_4_0 C wt_126 dX6_add_31 ?_
      refine j_aload_n 0 C dX6_add_34 rfl ?_
      refine gC_4_0 C wt_126 dX6_add_35 ?_
      exact retI hq hf dX6_add_38
theorem c_X6_add (l : Launch) (D : va_G) (ad : Nat → Nat) (cI cZ : ClassId) (σ : St) (v1 : Int) (r : Int) (σ' : St) (hf : fX6_add σ v1 = some (r, σ')) : McI l yX6_add cX6_add 2 .int rm_X6_add D (tyL cI cZ) (wC ad cI cZ) [.ref (ad 4), .int (iI v1)] σ r σ' := McI.mk mf_X6_add.2.2.2.2.2 (Nat.le_of_ble_eq_true rfl) (fun Γ C hq => j_sub [0, 1] rfl (tX6_add_L0 C hq v1 σ hf))
/-! TermLodgings$Town.choiceOf(I)I -/
def rm_X7_choiceOf : Room := { frames := 1, cells := 0, slots := 0, locals := 21 }
set_option maxRecDepth 20000 in
theorem tX7_choiceOf_L0 {ad : Nat → Nat} {cI cZ : ClassId} {Γ : Cx} {r : Int} {σ' : St} (C : CX cI cZ rm_X7_choiceOf 2 Γ cX7_choiceOf RX7) (hq : RetI .int (wC ad cI cZ) Γ cX7_choiceOf r σ') (v1 : Int) (σ : St) (hf : fX7_choiceOf_L0 v1 σ = some (r, σ')) : JJ (wC ad cI cZ) Γ σ 0 [(0, .ref (ad 1)), (1, .int (iI v1))] [] := by
  unfold fX7_choiceOf_L0 at hf
  refine j_aload_n 0 C dX7_choiceOf_0 rfl ?_
  refine gC_1_1 C wt_161 dX7_choiceOf_1 ?_
  refine j_iload_n 1 C dX7_choiceOf_4 rfl ?_
  obtain ⟨a1, s1, hc, hf⟩ := bd_s hf
  refine j_cVi (q0 := 3) (ci := 3) (T := TX3) (N := 8) [.int (iI v1)] [] C (c_X3_has _ _ ad cI cZ _ _ _ _ hc) mf_X3_has wt_444 wt_386 wt_387 rfl rfl rfl ⟨rfl, rfl, by decide, by decide⟩ rfl (Nat.le_of_ble_eq_true rfl) dX7_choiceOf_5 ?_
  refine j_if_eq 20 C rfl dX7_choiceOf_8 (by decide) (fun h => ?_) (fun h => ?_)
  · have hf := ifp h hf
    refine j_iconst C dX7_choiceOf_20 ?_
    exact retI hq hf dX7_choiceOf_21
  · have hf := ifn h hf
    refine j_aload_n 0 C dX7_choiceOf_11 rfl ?_
    refine gC_1_3 C wt_167 dX7_choiceOf_12 ?_
    refine j_iload_n 1 C dX7_choiceOf_15 rfl ?_
    obtain ⟨hI, hf⟩ := gI_s hf
    refine lC_0 C hI dX7_choiceOf_16 ?_
    refine j_goto 21 C dX7_choiceOf_17 (by decide) ?_
    exact retI hq hf dX7_choiceOf_21
theorem c_X7_choiceOf (l : Launch) (D : va_G) (ad : Nat → Nat) (cI cZ : ClassId) (σ : St) (v1 : Int) (r : Int) (σ' : St) (hf : fX7_choiceOf σ v1 = some (r, σ')) : McI l yX7_choiceOf cX7_choiceOf 2 .int rm_X7_choiceOf D (tyL cI cZ) (wC ad cI cZ) [.ref (ad 1), .int (iI v1)] σ r σ' := McI.mk mf_X7_choiceOf.2.2.2.2.2 (Nat.le_of_ble_eq_true rfl) (fun Γ C hq => j_sub [0, 1] rfl (tX7_choiceOf_L0 C hq v1 σ hf))
/-! TermLodgings$Trading.traders()I -/
def rm_X8_traders : Room := { frames := 2, cells := 0, slots := 0, locals := 42 }
set_option maxRecDepth 20000 in
theorem tX8_traders_B4 {ad : Nat → Nat} {cI cZ : ClassId} {Γ : Cx} {r : Int} {σ' : St} (C : CX cI cZ rm_X8_traders 3 Γ cX8_traders RX8) (hq : RetI .int (wC ad cI cZ) Γ cX8_traders r σ') {k4 : Int → Int → St → Option (Int × St)} (hk4 : ∀ (v1 : Int) (v2 : Int) (σ : St), k4 v1 v2 σ = some (r, σ') → JJ (wC ad cI cZ) Γ σ 4 [(0, .ref (ad 7)), (1, .int (iI v1)), (2, .int (iI v2))] []) (v1 : Int) (v2 : Int) (σ : St) (hf : fX8_traders_B4 k4 v1 v2 σ = some (r, σ')) : JJ (wC ad cI cZ) Γ σ 4 [(0, .ref (ad 7)), (1, .int (iI v1)), (2, .int (iI v2))] [] := by
  unfold fX8_traders_B4 at hf
  refine j_iload_n 2 C dX8_traders_4 rfl ?_
  refine j_aload_n 0 C dX8_traders_5 rfl ?_
  refine gC_7_5 C wt_225 dX8_traders_6 ?_
  refine gC_3_0 C wt_82 dX8_traders_9 ?_
  refine j_icmp_ge 49 C rfl rfl dX8_traders_12 (by decide) (fun h => ?_) (fun h => ?_)
  · have hf := ifp h hf
    refine j_iload_n 1 C dX8_traders_49 rfl ?_
    exact retI hq hf dX8_traders_50
  · have hf := ifn h hf
    refine j_aload_n 0 C dX8_traders_15 rfl ?_
    refine gC_7_4 C wt_224 dX8_traders_16 ?_
    refine j_iload_n 2 C dX8_traders_19 rfl ?_
    obtain ⟨a1, s1, hc, hf⟩ := bd_s hf
    refine j_cVi (q0 := 1) (ci := 7) (T := TX7) (N := 4) [.int (iI v2)] [] C (c_X7_choiceOf _ _ ad cI cZ _ _ _ _ hc) mf_X7_choiceOf wt_648 wt_649 wt_650 rfl rfl rfl ⟨rfl, rfl, by decide, by decide⟩ rfl (Nat.le_of_ble_eq_true rfl) dX8_traders_20 ?_
    refine j_aload_n 0 C dX8_traders_23 rfl ?_
    refine gC_7_5 C wt_225 dX8_traders_24 ?_
    refine j_iload_n 2 C dX8_traders_27 rfl ?_
    obtain ⟨a2, s2, hc, hf⟩ := bd_s hf
    refine j_cVi (q0 := 3) (ci := 3) (T := TX3) (N := 8) [.int (iI v2)] [.int (iI a1)] C (c_X3_lodgingOf _ _ ad cI cZ _ _ _ _ hc) mf_X3_lodgingOf wt_652 wt_472 wt_473 rfl rfl rfl ⟨rfl, rfl, by decide, by decide⟩ rfl (Nat.le_of_ble_eq_true rfl) dX8_traders_28 ?_
    obtain ⟨a3, s3, hc, hf⟩ := bd_s hf
    refine j_cSNi (host := "TermLodgings") [.int (iI a1), .int (iI a2)] [] C (c_X10_inBits _ _ ad cI cZ _ _ _ _ _ hc) mf_X10_inBits (List.mem_of_getElem? (i := 10) rfl) wt_451 rfl ⟨rfl, rfl, by decide, by decide⟩ rfl (Nat.le_of_ble_eq_true rfl) dX8_traders_31 ?_
    refine j_if_eq 43 C rfl dX8_traders_34 (by decide) (fun h => ?_) (fun h => ?_)
    · have hf := ifp h hf
      refine j_iinc 2 [(2, .int (iI (v2 + 1))), (0, .ref (ad 7)), (1, .int (iI v1))] C dX8_traders_43 (by decide) rfl rfl ?_
      refine j_goto 4 C dX8_traders_46 (by decide) ?_
      exact j_sub [1, 2, 0] rfl (hk4 _ _ _ hf)
    · have hf := ifn h hf
      refine j_iload_n 1 C dX8_traders_37 rfl ?_
      refine j_iconst C dX8_traders_38 ?_
      refine j_iload_n 2 C dX8_traders_39 rfl ?_
      refine j_ishl C dX8_traders_40 ?_
      refine j_ior C dX8_traders_41 ?_
      refine j_istore_n [(1, .int (iI (bOr v1 (bShl 1 v2)))), (0, .ref (ad 7)), (2, .int (iI v2))] C dX8_traders_42 (by decide) rfl ?_
      refine j_iinc 2 [(2, .int (iI (v2 + 1))), (1, .int (iI (bOr v1 (bShl 1 v2)))), (0, .ref (ad 7))] C dX8_traders_43 (by decide) rfl rfl ?_
      refine j_goto 4 C dX8_traders_46 (by decide) ?_
      exact j_sub [2, 1, 0] rfl (hk4 _ _ _ hf)
theorem tX8_traders_L4 {ad : Nat → Nat} {cI cZ : ClassId} {Γ : Cx} {r : Int} {σ' : St} (C : CX cI cZ rm_X8_traders 3 Γ cX8_traders RX8) (hq : RetI .int (wC ad cI cZ) Γ cX8_traders r σ') (n : Nat) : ∀ (v1 v2 : Int), ∀ (σ : St), fX8_traders_L4 n v1 v2 σ = some (r, σ') → JJ (wC ad cI cZ) Γ σ 4 [(0, .ref (ad 7)), (1, .int (iI v1)), (2, .int (iI v2))] [] := by
  induction n with
  | zero => intro _ _ _ hf; cases hf
  | succ n ih => intro v1 v2 σ hf; exact tX8_traders_B4 C hq ih v1 v2 σ hf
set_option maxRecDepth 20000 in
theorem tX8_traders_L0 {ad : Nat → Nat} {cI cZ : ClassId} {Γ : Cx} {r : Int} {σ' : St} (C : CX cI cZ rm_X8_traders 3 Γ cX8_traders RX8) (hq : RetI .int (wC ad cI cZ) Γ cX8_traders r σ') (σ : St) (hf : fX8_traders_L0 σ = some (r, σ')) : JJ (wC ad cI cZ) Γ σ 0 [(0, .ref (ad 7))] [] := by
  unfold fX8_traders_L0 at hf
  refine j_iconst C dX8_traders_0 ?_
  refine j_istore_n [(1, .int (iI 0)), (0, .ref (ad 7))] C dX8_traders_1 (by decide) rfl ?_
  refine j_iconst C dX8_traders_2 ?_
  refine j_istore_n [(2, .int (iI 0)), (1, .int (iI 0)), (0, .ref (ad 7))] C dX8_traders_3 (by decide) rfl ?_
  exact j_sub [2, 1, 0] rfl (tX8_traders_L4 C hq 1000 _ _ _ hf)
theorem c_X8_traders (l : Launch) (D : va_G) (ad : Nat → Nat) (cI cZ : ClassId) (σ : St) (r : Int) (σ' : St) (hf : fX8_traders σ = some (r, σ')) : McI l yX8_traders cX8_traders 3 .int rm_X8_traders D (tyL cI cZ) (wC ad cI cZ) [.ref (ad 7)] σ r σ' := McI.mk mf_X8_traders.2.2.2.2.2 (Nat.le_of_ble_eq_true rfl) (fun Γ C hq => j_sub [0] rfl (tX8_traders_L0 C hq  σ hf))
/-! TermLodgings$Trading.pointedAtBy(I)I -/
def rm_X8_pointedAtBy : Room := { frames := 2, cells := 0, slots := 0, locals := 44 }
set_option maxRecDepth 20000 in
theorem tX8_pointedAtBy_B21 {ad : Nat → Nat} {cI cZ : ClassId} {Γ : Cx} {r : Int} {σ' : St} (C : CX cI cZ rm_X8_pointedAtBy 7 Γ cX8_pointedAtBy RX8) (hq : RetI .int (wC ad cI cZ) Γ cX8_pointedAtBy r σ') {k21 : Int → Int → Int → Int → St → Option (Int × St)} (hk21 : ∀ (v1 : Int) (v2 : Int) (v3 : Int) (v4 : Int) (σ : St), k21 v1 v2 v3 v4 σ = some (r, σ') → JJ (wC ad cI cZ) Γ σ 21 [(0, .ref (ad 7)), (1, .int (iI v1)), (2, .int (iI v2)), (3, .int (iI v3)), (4, .int (iI v4))] []) (v1 : Int) (v2 : Int) (v3 : Int) (v4 : Int) (σ : St) (hf : fX8_pointedAtBy_B21 k21 v1 v2 v3 v4 σ = some (r, σ')) : JJ (wC ad cI cZ) Γ σ 21 [(0, .ref (ad 7)), (1, .int (iI v1)), (2, .int (iI v2)), (3, .int (iI v3)), (4, .int (iI v4))] [] := by
  unfold fX8_pointedAtBy_B21 at hf
  refine j_iload 4 C dX8_pointedAtBy_21 rfl ?_
  refine j_aload_n 0 C dX8_pointedAtBy_23 rfl ?_
  refine gC_7_5 C wt_225 dX8_pointedAtBy_24 ?_
  refine j_iload_n 1 C dX8_pointedAtBy_27 rfl ?_
  obtain ⟨a1, s1, hc, hf⟩ := bd_s hf
  refine j_cVi (q0 := 3) (ci := 3) (T := TX3) (N := 8) [.int (iI v1)] [.int (iI v4)] C (c_X3_wishesOf _ _ ad cI cZ _ _ _ _ hc) mf_X3_wishesOf wt_662 wt_398 wt_399 rfl rfl rfl ⟨rfl, rfl, by decide, by decide⟩ rfl (Nat.le_of_ble_eq_true rfl) dX8_pointedAtBy_28 ?_
  refine j_icmp_ge 98 C rfl rfl dX8_pointedAtBy_31 (by decide) (fun h => ?_) (fun h => ?_)
  · have hf := ifp h hf
    refine j_iload_n 1 C dX8_pointedAtBy_98 rfl ?_
    exact retI hq hf dX8_pointedAtBy_99
  · have hf := ifn h hf
    refine j_aload_n 0 C dX8_pointedAtBy_34 rfl ?_
    refine gC_7_5 C wt_225 dX8_pointedAtBy_35 ?_
    refine j_iload_n 1 C dX8_pointedAtBy_38 rfl ?_
    refine j_iload 4 C dX8_pointedAtBy_39 rfl ?_
    obtain ⟨a2, s2, hc, hf⟩ := bd_s hf
    refine j_cVi (q0 := 3) (ci := 3) (T := TX3) (N := 8) [.int (iI v1), .int (iI v4)] [] C (c_X3_wishAt _ _ ad cI cZ _ _ _ _ _ hc) mf_X3_wishAt wt_663 wt_403 wt_404 rfl rfl rfl ⟨rfl, rfl, by decide, by decide⟩ rfl (Nat.le_of_ble_eq_true rfl) dX8_pointedAtBy_41 ?_
    refine j_istore [(5, .int (iI a2)), (0, .ref (ad 7)), (1, .int (iI v1)), (2, .int (iI v2)), (3, .int (iI v3)), (4, .int (iI v4))] C dX8_pointedAtBy_44 (by decide) rfl ?_
    refine j_iload 0 C dX8_pointedAtBy_46 rfl ?_
    refine j_iload_n 3 C dX8_pointedAtBy_48 rfl ?_
    refine j_icmp_ne 54 C rfl rfl dX8_pointedAtBy_49 (by decide) (fun h => ?_) (fun h => ?_)
    · have hf := ifn h hf
      refine j_aload_n 1 C dX8_pointedAtBy_54 rfl ?_
      refine gC_7_4 C wt_224 dX8_pointedAtBy_55 ?_
      refine gC_1_0 C wt_159 dX8_pointedAtBy_58 ?_
      refine j_iload 0 C dX8_pointedAtBy_61 rfl ?_
      obtain ⟨a3, s3, hc, hf⟩ := bd_s hf
      refine j_cVi (q0 := 2) (ci := 5) (T := TX5) (N := 7) [.int (iI a2)] [] C (c_X5_holderOf _ _ ad cI cZ _ _ _ _ hc) mf_X5_holderOf wt_664 wt_436 wt_437 rfl rfl rfl ⟨rfl, rfl, by decide, by decide⟩ rfl (Nat.le_of_ble_eq_true rfl) dX8_pointedAtBy_63 ?_
      refine j_istore [(6, .int (iI a3)), (5, .int (iI a2)), (0, .ref (ad 7)), (1, .int (iI v1)), (2, .int (iI v2)), (3, .int (iI v3)), (4, .int (iI v4))] C dX8_pointedAtBy_66 (by decide) rfl ?_
      refine j_aload_n 2 C dX8_pointedAtBy_68 rfl ?_
      refine gC_7_3 C wt_223 dX8_pointedAtBy_69 ?_
      refine j_iload 0 C dX8_pointedAtBy_72 rfl ?_
      obtain ⟨a4, s4, hc, hf⟩ := bd_s hf
      refine j_cSNi (host := "TermLodgings") [.int (iI (s3.1 13)), .int (iI a3)] [] C (c_X10_inBits _ _ ad cI cZ _ _ _ _ _ hc) mf_X10_inBits (List.mem_of_getElem? (i := 10) rfl) wt_451 rfl ⟨rfl, rfl, by decide, by decide⟩ rfl (Nat.le_of_ble_eq_true rfl) dX8_pointedAtBy_74 ?_
      refine j_if_eq 92 C rfl dX8_pointedAtBy_77 (by decide) (fun h => ?_) (fun h => ?_)
      · have hf := ifp h hf
        refine j_iinc 6 [(4, .int (iI (v4 + 1))), (6, .int (iI a3)), (5, .int (iI a2)), (0, .ref (ad 7)), (1, .int (iI v1)), (2, .int (iI v2)), (3, .int (iI v3))] C dX8_pointedAtBy_92 (by decide) rfl rfl ?_
        refine j_goto 21 C dX8_pointedAtBy_95 (by decide) ?_
        exact j_sub [3, 4, 5, 6, 0] rfl (hk21 _ _ _ _ _ hf)
      · have hf := ifn h hf
        refine j_iload_n 5 C dX8_pointedAtBy_80 rfl ?_
        refine j_iload 1 C dX8_pointedAtBy_81 rfl ?_
        obtain ⟨a5, s5, hc, hf⟩ := bd_s hf
        refine j_cSNi (host := "TermLodgings") [.int (iI v3), .int (iI a2)] [] C (c_X10_inBits _ _ ad cI cZ _ _ _ _ _ hc) mf_X10_inBits (List.mem_of_getElem? (i := 10) rfl) wt_451 rfl ⟨rfl, rfl, by decide, by decide⟩ rfl (Nat.le_of_ble_eq_true rfl) dX8_pointedAtBy_83 ?_
        refine j_if_eq 92 C rfl dX8_pointedAtBy_86 (by decide) (fun h => ?_) (fun h => ?_)
        · have hf := ifp h hf
          refine j_iinc 6 [(4, .int (iI (v4 + 1))), (6, .int (iI a3)), (5, .int (iI a2)), (0, .ref (ad 7)), (1, .int (iI v1)), (2, .int (iI v2)), (3, .int (iI v3))] C dX8_pointedAtBy_92 (by decide) rfl rfl ?_
          refine j_goto 21 C dX8_pointedAtBy_95 (by decide) ?_
          exact j_sub [3, 4, 5, 6, 0] rfl (hk21 _ _ _ _ _ hf)
        · have hf := ifn h hf
          refine j_iload 0 C dX8_pointedAtBy_89 rfl ?_
          exact retI hq hf dX8_pointedAtBy_91
    · have hf := ifp h hf
      refine j_iload_n 2 C dX8_pointedAtBy_52 rfl ?_
      exact retI hq hf dX8_pointedAtBy_53
theorem tX8_pointedAtBy_L21 {ad : Nat → Nat} {cI cZ : ClassId} {Γ : Cx} {r : Int} {σ' : St} (C : CX cI cZ rm_X8_pointedAtBy 7 Γ cX8_pointedAtBy RX8) (hq : RetI .int (wC ad cI cZ) Γ cX8_pointedAtBy r σ') (n : Nat) : ∀ (v1 v2 v3 v4 : Int), ∀ (σ : St), fX8_pointedAtBy_L21 n v1 v2 v3 v4 σ = some (r, σ') → JJ (wC ad cI cZ) Γ σ 21 [(0, .ref (ad 7)), (1, .int (iI v1)), (2, .int (iI v2)), (3, .int (iI v3)), (4, .int (iI v4))] [] := by
  induction n with
  | zero => intro _ _ _ _ _ hf; cases hf
  | succ n ih => intro v1 v2 v3 v4 σ hf; exact tX8_pointedAtBy_B21 C hq ih v1 v2 v3 v4 σ hf
set_option maxRecDepth 20000 in
theorem tX8_pointedAtBy_L0 {ad : Nat → Nat} {cI cZ : ClassId} {Γ : Cx} {r : Int} {σ' : St} (C : CX cI cZ rm_X8_pointedAtBy 7 Γ cX8_pointedAtBy RX8) (hq : RetI .int (wC ad cI cZ) Γ cX8_pointedAtBy r σ') (v1 : Int) (σ : St) (hf : fX8_pointedAtBy_L0 v1 σ = some (r, σ')) : JJ (wC ad cI cZ) Γ σ 0 [(0, .ref (ad 7)), (1, .int (iI v1))] [] := by
  unfold fX8_pointedAtBy_L0 at hf
  refine j_aload_n 0 C dX8_pointedAtBy_0 rfl ?_
  refine gC_7_5 C wt_225 dX8_pointedAtBy_1 ?_
  refine j_iload_n 1 C dX8_pointedAtBy_4 rfl ?_
  obtain ⟨a6, s6, hc, hf⟩ := bd_s hf
  refine j_cVi (q0 := 3) (ci := 3) (T := TX3) (N := 8) [.int (iI v1)] [] C (c_X3_lodgingOf _ _ ad cI cZ _ _ _ _ hc) mf_X3_lodgingOf wt_652 wt_472 wt_473 rfl rfl rfl ⟨rfl, rfl, by decide, by decide⟩ rfl (Nat.le_of_ble_eq_true rfl) dX8_pointedAtBy_5 ?_
  refine j_istore_n [(2, .int (iI a6)), (0, .ref (ad 7)), (1, .int (iI v1))] C dX8_pointedAtBy_8 (by decide) rfl ?_
  refine j_aload_n 1 C dX8_pointedAtBy_9 rfl ?_
  refine gC_7_4 C wt_224 dX8_pointedAtBy_10 ?_
  refine j_iload_n 2 C dX8_pointedAtBy_13 rfl ?_
  obtain ⟨a7, s7, hc, hf⟩ := bd_s hf
  refine j_cVi (q0 := 1) (ci := 7) (T := TX7) (N := 4) [.int (iI v1)] [] C (c_X7_choiceOf _ _ ad cI cZ _ _ _ _ hc) mf_X7_choiceOf wt_648 wt_649 wt_650 rfl rfl rfl ⟨rfl, rfl, by decide, by decide⟩ rfl (Nat.le_of_ble_eq_true rfl) dX8_pointedAtBy_14 ?_
  refine j_istore_n [(3, .int (iI a7)), (2, .int (iI a6)), (0, .ref (ad 7)), (1, .int (iI v1))] C dX8_pointedAtBy_17 (by decide) rfl ?_
  refine j_iconst C dX8_pointedAtBy_18 ?_
  refine j_istore [(4, .int (iI 0)), (3, .int (iI a7)), (2, .int (iI a6)), (0, .ref (ad 7)), (1, .int (iI v1))] C dX8_pointedAtBy_19 (by decide) rfl ?_
  exact j_sub [3, 4, 2, 1, 0] rfl (tX8_pointedAtBy_L21 C hq 1000 _ _ _ _ _ hf)
theorem c_X8_pointedAtBy (l : Launch) (D : va_G) (ad : Nat → Nat) (cI cZ : ClassId) (σ : St) (v1 : Int) (r : Int) (σ' : St) (hf : fX8_pointedAtBy σ v1 = some (r, σ')) : McI l yX8_pointedAtBy cX8_pointedAtBy 7 .int rm_X8_pointedAtBy D (tyL cI cZ) (wC ad cI cZ) [.ref (ad 7), .int (iI v1)] σ r σ' := McI.mk mf_X8_pointedAtBy.2.2.2.2.2 (Nat.le_of_ble_eq_true rfl) (fun Γ C hq => j_sub [0, 1] rfl (tX8_pointedAtBy_L0 C hq v1 σ hf))
/-! TermLodgings$Trading.pointAll()V -/
def rm_X8_pointAll : Room := { frames := 3, cells := 0, slots := 0, locals := 70 }
set_option maxRecDepth 20000 in
theorem tX8_pointAll_B2 {ad : Nat → Nat} {cI cZ : ClassId} {Γ : Cx} {σ' : St} (C : CX cI cZ rm_X8_pointAll 2 Γ cX8_pointAll RX8) (hq : RetV (wC ad cI cZ) Γ cX8_pointAll σ') {k2 : Int → St → Option St} (hk2 : ∀ (v1 : Int) (σ : St), k2 v1 σ = some σ' → JJ (wC ad cI cZ) Γ σ 2 [(0, .ref (ad 7)), (1, .int (iI v1))] []) (v1 : Int) (σ : St) (hf : fX8_pointAll_B2 k2 v1 σ = some σ') : JJ (wC ad cI cZ) Γ σ 2 [(0, .ref (ad 7)), (1, .int (iI v1))] [] := by
  unfold fX8_pointAll_B2 at hf
  refine j_iload_n 1 C dX8_pointAll_2 rfl ?_
  refine j_aload_n 0 C dX8_pointAll_3 rfl ?_
  refine gC_7_5 C wt_225 dX8_pointAll_4 ?_
  refine gC_3_0 C wt_82 dX8_pointAll_7 ?_
  refine j_icmp_ge 41 C rfl rfl dX8_pointAll_10 (by decide) (fun h => ?_) (fun h => ?_)
  · have hf := ifp h hf
    exact retV hq hf dX8_pointAll_41
  · have hf := ifn h hf
    refine j_aload_n 0 C dX8_pointAll_13 rfl ?_
    refine gC_7_3 C wt_223 dX8_pointAll_14 ?_
    refine j_iload_n 1 C dX8_pointAll_17 rfl ?_
    obtain ⟨a1, s1, hc, hf⟩ := bd_s hf
    refine j_cSNi (host := "TermLodgings") [.int (iI (σ.1 13)), .int (iI v1)] [] C (c_X10_inBits _ _ ad cI cZ _ _ _ _ _ hc) mf_X10_inBits (List.mem_of_getElem? (i := 10) rfl) wt_451 rfl ⟨rfl, rfl, by decide, by decide⟩ rfl (Nat.le_of_ble_eq_true rfl) dX8_pointAll_18 ?_
    refine j_if_eq 35 C rfl dX8_pointAll_21 (by decide) (fun h => ?_) (fun h => ?_)
    · have hf := ifp h hf
      refine j_iinc 1 [(1, .int (iI (v1 + 1))), (0, .ref (ad 7))] C dX8_pointAll_35 (by decide) rfl rfl ?_
      refine j_goto 2 C dX8_pointAll_38 (by decide) ?_
      exact j_sub [1, 0] rfl (hk2 _ _ hf)
    · have hf := ifn h hf
      refine j_aload_n 0 C dX8_pointAll_24 rfl ?_
      refine gC_7_6 C wt_226 dX8_pointAll_25 ?_
      refine j_iload_n 1 C dX8_pointAll_28 rfl ?_
      refine j_aload_n 0 C dX8_pointAll_29 rfl ?_
      refine j_iload_n 1 C dX8_pointAll_30 rfl ?_
      obtain ⟨a2, s2, hc, hf⟩ := bd_s hf
      refine j_cVi (q0 := 7) (ci := 8) (T := TX8) (N := 8) [.int (iI v1)] [.int (iI v1), .ref (ad 29)] C (c_X8_pointedAtBy _ _ ad cI cZ _ _ _ _ hc) mf_X8_pointedAtBy wt_658 wt_660 ws_15 rfl rfl rfl ⟨rfl, rfl, by decide, by decide⟩ rfl (Nat.le_of_ble_eq_true rfl) dX8_pointAll_31 ?_
      obtain ⟨hI, hf⟩ := gI_s hf
      refine tC_18 C hI dX8_pointAll_34 ?_
      refine j_iinc 1 [(1, .int (iI (v1 + 1))), (0, .ref (ad 7))] C dX8_pointAll_35 (by decide) rfl rfl ?_
      refine j_goto 2 C dX8_pointAll_38 (by decide) ?_
      exact j_sub [1, 0] rfl (hk2 _ _ hf)
theorem tX8_pointAll_L2 {ad : Nat → Nat} {cI cZ : ClassId} {Γ : Cx} {σ' : St} (C : CX cI cZ rm_X8_pointAll 2 Γ cX8_pointAll RX8) (hq : RetV (wC ad cI cZ) Γ cX8_pointAll σ') (n : Nat) : ∀ (v1 : Int), ∀ (σ : St), fX8_pointAll_L2 n v1 σ = some σ' → JJ (wC ad cI cZ) Γ σ 2 [(0, .ref (ad 7)), (1, .int (iI v1))] [] := by
  induction n with
  | zero => intro _ _ hf; cases hf
  | succ n ih => intro v1 σ hf; exact tX8_pointAll_B2 C hq ih v1 σ hf
set_option maxRecDepth 20000 in
theorem tX8_pointAll_L0 {ad : Nat → Nat} {cI cZ : ClassId} {Γ : Cx} {σ' : St} (C : CX cI cZ rm_X8_pointAll 2 Γ cX8_pointAll RX8) (hq : RetV (wC ad cI cZ) Γ cX8_pointAll σ') (σ : St) (hf : fX8_pointAll_L0 σ = some σ') : JJ (wC ad cI cZ) Γ σ 0 [(0, .ref (ad 7))] [] := by
  unfold fX8_pointAll_L0 at hf
  refine j_iconst C dX8_pointAll_0 ?_
  refine j_istore_n [(1, .int (iI 0)), (0, .ref (ad 7))] C dX8_pointAll_1 (by decide) rfl ?_
  exact j_sub [1, 0] rfl (tX8_pointAll_L2 C hq 1000 _ _ hf)
theorem c_X8_pointAll (l : Launch) (D : va_G) (ad : Nat → Nat) (cI cZ : ClassId) (σ : St) (σ' : St) (hf : fX8_pointAll σ = some σ') : McV l yX8_pointAll cX8_pointAll 2 rm_X8_pointAll D (tyL cI cZ) (wC ad cI cZ) [.ref (ad 7)] σ σ' := McV.mk mf_X8_pointAll.2.2.2.2.2 (Nat.le_of_ble_eq_true rfl) (fun Γ C hq => j_sub [0] rfl (tX8_pointAll_L0 C hq  σ hf))
/-! TermLodgings$Trading.targetOf(I)I -/
def rm_X8_targetOf : Room := { frames := 1, cells := 0, slots := 0, locals := 21 }
set_option maxRecDepth 20000 in
theorem tX8_targetOf_L0 {ad : Nat → Nat} {cI cZ : ClassId} {Γ : Cx} {r : Int} {σ' : St} (C : CX cI cZ rm_X8_targetOf 2 Γ cX8_targetOf RX8) (hq : RetI .int (wC ad cI cZ) Γ cX8_targetOf r σ') (v1 : Int) (σ : St) (hf : fX8_targetOf_L0 v1 σ = some (r, σ')) : JJ (wC ad cI cZ) Γ σ 0 [(0, .ref (ad 7)), (1, .int (iI v1))] [] := by
  unfold fX8_targetOf_L0 at hf
  refine j_aload_n 0 C dX8_targetOf_0 rfl ?_
  refine gC_7_5 C wt_225 dX8_targetOf_1 ?_
  refine j_iload_n 1 C dX8_targetOf_4 rfl ?_
  obtain ⟨a1, s1, hc, hf⟩ := bd_s hf
  refine j_cVi (q0 := 3) (ci := 3) (T := TX3) (N := 8) [.int (iI v1)] [] C (c_X3_has _ _ ad cI cZ _ _ _ _ hc) mf_X3_has wt_677 wt_386 wt_387 rfl rfl rfl ⟨rfl, rfl, by decide, by decide⟩ rfl (Nat.le_of_ble_eq_true rfl) dX8_targetOf_5 ?_
  refine j_if_eq 20 C rfl dX8_targetOf_8 (by decide) (fun h => ?_) (fun h => ?_)
  · have hf := ifp h hf
    refine j_iconst C dX8_targetOf_20 ?_
    exact retI hq hf dX8_targetOf_21
  · have hf := ifn h hf
    refine j_aload_n 0 C dX8_targetOf_11 rfl ?_
    refine gC_7_6 C wt_226 dX8_targetOf_12 ?_
    refine j_iload_n 1 C dX8_targetOf_15 rfl ?_
    obtain ⟨hI, hf⟩ := gI_s hf
    refine lC_18 C hI dX8_targetOf_16 ?_
    refine j_goto 21 C dX8_targetOf_17 (by decide) ?_
    exact retI hq hf dX8_targetOf_21
theorem c_X8_targetOf (l : Launch) (D : va_G) (ad : Nat → Nat) (cI cZ : ClassId) (σ : St) (v1 : Int) (r : Int) (σ' : St) (hf : fX8_targetOf σ v1 = some (r, σ')) : McI l yX8_targetOf cX8_targetOf 2 .int rm_X8_targetOf D (tyL cI cZ) (wC ad cI cZ) [.ref (ad 7), .int (iI v1)] σ r σ' := McI.mk mf_X8_targetOf.2.2.2.2.2 (Nat.le_of_ble_eq_true rfl) (fun Γ C hq => j_sub [0, 1] rfl (tX8_targetOf_L0 C hq v1 σ hf))
/-! TermLodgings$Trading.ringLength(I)I -/
def rm_X8_ringLength : Room := { frames := 2, cells := 0, slots := 0, locals := 42 }
set_option maxRecDepth 20000 in
theorem tX8_ringLength_B4 {ad : Nat → Nat} {cI cZ : ClassId} {Γ : Cx} {r : Int} {σ' : St} (C : CX cI cZ rm_X8_ringLength 4 Γ cX8_ringLength RX8) (hq : RetI .int (wC ad cI cZ) Γ cX8_ringLength r σ') {k4 : Int → Int → Int → St → Option (Int × St)} (hk4 : ∀ (v1 : Int) (v2 : Int) (v3 : Int) (σ : St), k4 v1 v2 v3 σ = some (r, σ') → JJ (wC ad cI cZ) Γ σ 4 [(0, .ref (ad 7)), (1, .int (iI v1)), (2, .int (iI v2)), (3, .int (iI v3))] []) (v1 : Int) (v2 : Int) (v3 : Int) (σ : St) (hf : fX8_ringLength_B4 k4 v1 v2 v3 σ = some (r, σ')) : JJ (wC ad cI cZ) Γ σ 4 [(0, .ref (ad 7)), (1, .int (iI v1)), (2, .int (iI v2)), (3, .int (iI v3))] [] := by
  unfold fX8_ringLength_B4 at hf
  refine j_iload_n 3 C dX8_ringLength_4 rfl ?_
  refine j_bipush C dX8_ringLength_5 bp_16 ?_
  refine j_icmp_gt 29 C rfl wl_16 dX8_ringLength_7 (by decide) (fun h => ?_) (fun h => ?_)
  · have hf := ifp h hf
    refine j_iconst C dX8_ringLength_29 ?_
    exact retI hq hf dX8_ringLength_30
  · have hf := ifn h hf
    refine j_aload_n 0 C dX8_ringLength_10 rfl ?_
    refine j_iload_n 2 C dX8_ringLength_11 rfl ?_
    obtain ⟨a1, s1, hc, hf⟩ := bd_s hf
    refine j_cVi (q0 := 7) (ci := 8) (T := TX8) (N := 8) [.int (iI v2)] [] C (c_X8_targetOf _ _ ad cI cZ _ _ _ _ hc) mf_X8_targetOf wt_673 wt_675 ws_18 rfl rfl rfl ⟨rfl, rfl, by decide, by decide⟩ rfl (Nat.le_of_ble_eq_true rfl) dX8_ringLength_12 ?_
    refine j_istore_n [(2, .int (iI a1)), (0, .ref (ad 7)), (1, .int (iI v1)), (3, .int (iI v3))] C dX8_ringLength_15 (by decide) rfl ?_
    refine j_iload_n 0 C dX8_ringLength_16 rfl ?_
    refine j_iload_n 2 C dX8_ringLength_17 rfl ?_
    refine j_icmp_ne 23 C rfl rfl dX8_ringLength_18 (by decide) (fun h => ?_) (fun h => ?_)
    · have hf := ifn h hf
      refine j_iinc 3 [(3, .int (iI (v3 + 1))), (2, .int (iI a1)), (0, .ref (ad 7)), (1, .int (iI v1))] C dX8_ringLength_23 (by decide) rfl rfl ?_
      refine j_goto 4 C dX8_ringLength_26 (by decide) ?_
      exact j_sub [2, 3, 1, 0] rfl (hk4 _ _ _ _ hf)
    · have hf := ifp h hf
      refine j_iload_n 3 C dX8_ringLength_21 rfl ?_
      exact retI hq hf dX8_ringLength_22
theorem tX8_ringLength_L4 {ad : Nat → Nat} {cI cZ : ClassId} {Γ : Cx} {r : Int} {σ' : St} (C : CX cI cZ rm_X8_ringLength 4 Γ cX8_ringLength RX8) (hq : RetI .int (wC ad cI cZ) Γ cX8_ringLength r σ') (n : Nat) : ∀ (v1 v2 v3 : Int), ∀ (σ : St), fX8_ringLength_L4 n v1 v2 v3 σ = some (r, σ') → JJ (wC ad cI cZ) Γ σ 4 [(0, .ref (ad 7)), (1, .int (iI v1)), (2, .int (iI v2)), (3, .int (iI v3))] [] := by
  induction n with
  | zero => intro _ _ _ _ hf; cases hf
  | succ n ih => intro v1 v2 v3 σ hf; exact tX8_ringLength_B4 C hq ih v1 v2 v3 σ hf
set_option maxRecDepth 20000 in
theorem tX8_ringLength_L0 {ad : Nat → Nat} {cI cZ : ClassId} {Γ : Cx} {r : Int} {σ' : St} (C : CX cI cZ rm_X8_ringLength 4 Γ cX8_ringLength RX8) (hq : RetI .int (wC ad cI cZ) Γ cX8_ringLength r σ') (v1 : Int) (σ : St) (hf : fX8_ringLength_L0 v1 σ = some (r, σ')) : JJ (wC ad cI cZ) Γ σ 0 [(0, .ref (ad 7)), (1, .int (iI v1))] [] := by
  unfold fX8_ringLength_L0 at hf
  refine j_iload_n 1 C dX8_ringLength_0 rfl ?_
  refine j_istore_n [(2, .int (iI v1)), (0, .ref (ad 7)), (1, .int (iI v1))] C dX8_ringLength_1 (by decide) rfl ?_
  refine j_iconst C dX8_ringLength_2 ?_
  refine j_istore_n [(3, .int (iI 1)), (2, .int (iI v1)), (0, .ref (ad 7)), (1, .int (iI v1))] C dX8_ringLength_3 (by decide) rfl ?_
  exact j_sub [2, 3, 1, 0] rfl (tX8_ringLength_L4 C hq 1000 _ _ _ _ hf)
theorem c_X8_ringLength (l : Launch) (D : va_G) (ad : Nat → Nat) (cI cZ : ClassId) (σ : St) (v1 : Int) (r : Int) (σ' : St) (hf : fX8_ringLength σ v1 = some (r, σ')) : McI l yX8_ringLength cX8_ringLength 4 .int rm_X8_ringLength D (tyL cI cZ) (wC ad cI cZ) [.ref (ad 7), .int (iI v1)] σ r σ' := McI.mk mf_X8_ringLength.2.2.2.2.2 (Nat.le_of_ble_eq_true rfl) (fun Γ C hq => j_sub [0, 1] rfl (tX8_ringLength_L0 C hq v1 σ hf))
