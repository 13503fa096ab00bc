/-! java/util/Arrays.fill([II)V -/
def rm_J7_fill_53178_a33 : Room := { frames := 0, cells := 0, slots := 0, locals := 0 }
set_option maxRecDepth 20000 in
theorem tJ7_fill_53178_a33_B5 {ad : Nat → Nat} {cI cZ : ClassId} {Γ : Cx} {σ' : St} (C : CX cI cZ rm_J7_fill_53178_a33 4 Γ cJ7_fill_53178 RJ7) (hq : RetV (wC ad cI cZ) Γ cJ7_fill_53178 σ') {k5 : Int → Int → Int → St → Option St} (hk5 : ∀ (v1 : Int) (v2 : Int) (v3 : Int) (σ : St), k5 v1 v2 v3 σ = some σ' → JJ (wC ad cI cZ) Γ σ 5 [(0, .ref (ad 33)), (1, .int (iI v1)), (2, .int (iI v2)), (3, .int (iI v3))] []) (v1 : Int) (v2 : Int) (v3 : Int) (σ : St) (hf : fJ7_fill_53178_a33_B5 k5 v1 v2 v3 σ = some σ') : JJ (wC ad cI cZ) Γ σ 5 [(0, .ref (ad 33)), (1, .int (iI v1)), (2, .int (iI v2)), (3, .int (iI v3))] [] := by
  unfold fJ7_fill_53178_a33_B5 at hf
  refine j_iload_n 2 C dJ7_fill_53178_5 rfl ?_
  refine j_iload_n 3 C dJ7_fill_53178_6 rfl ?_
  refine j_icmp_ge 20 C rfl rfl dJ7_fill_53178_7 (by decide) (fun h => ?_) (fun h => ?_)
  · have hf := ifp h hf
    exact retV hq hf dJ7_fill_53178_20
  · have hf := ifn h hf
    refine j_aload_n 0 C dJ7_fill_53178_10 rfl ?_
    refine j_iload_n 2 C dJ7_fill_53178_11 rfl ?_
    refine j_iload_n 1 C dJ7_fill_53178_12 rfl ?_
    obtain ⟨hI, hf⟩ := gI_s hf
    refine tC_22 C hI dJ7_fill_53178_13 ?_
    refine j_iinc 2 [(2, .int (iI (v2 + 1))), (0, .ref (ad 33)), (1, .int (iI v1)), (3, .int (iI v3))] C dJ7_fill_53178_14 (by decide) rfl rfl ?_
    refine j_goto 5 C dJ7_fill_53178_17 (by decide) ?_
    exact j_sub [1, 2, 0, 3] rfl (hk5 _ _ _ _ hf)
theorem tJ7_fill_53178_a33_L5 {ad : Nat → Nat} {cI cZ : ClassId} {Γ : Cx} {σ' : St} (C : CX cI cZ rm_J7_fill_53178_a33 4 Γ cJ7_fill_53178 RJ7) (hq : RetV (wC ad cI cZ) Γ cJ7_fill_53178 σ') (n : Nat) : ∀ (v1 v2 v3 : Int), ∀ (σ : St), fJ7_fill_53178_a33_L5 n v1 v2 v3 σ = some σ' → JJ (wC ad cI cZ) Γ σ 5 [(0, .ref (ad 33)), (1, .int (iI v1)), (2, .int (iI v2)), (3, .int (iI v3))] [] := by
  induction n with
  | zero => intro _ _ _ _ hf; cases hf
  | succ n ih => intro v1 v2 v3 σ hf; exact tJ7_fill_53178_a33_B5 C hq ih v1 v2 v3 σ hf
set_option maxRecDepth 20000 in
theorem tJ7_fill_53178_a33_L0 {ad : Nat → Nat} {cI cZ : ClassId} {Γ : Cx} {σ' : St} (C : CX cI cZ rm_J7_fill_53178_a33 4 Γ cJ7_fill_53178 RJ7) (hq : RetV (wC ad cI cZ) Γ cJ7_fill_53178 σ') (v1 : Int) (σ : St) (hf : fJ7_fill_53178_a33_L0 v1 σ = some σ') : JJ (wC ad cI cZ) Γ σ 0 [(0, .ref (ad 33)), (1, .int (iI v1))] [] := by
  unfold fJ7_fill_53178_a33_L0 at hf
  refine j_iconst C dJ7_fill_53178_0 ?_
  refine j_istore_n [(2, .int (iI 0)), (0, .ref (ad 33)), (1, .int (iI v1))] C dJ7_fill_53178_1 (by decide) rfl ?_
  refine j_aload_n 1 C dJ7_fill_53178_2 rfl ?_
  refine j_alen (f := σ.2 22) (n := 24) 33 C rfl dJ7_fill_53178_3 ?_
  refine j_istore_n [(3, .int (iI 24)), (2, .int (iI 0)), (0, .ref (ad 33)), (1, .int (iI v1))] C dJ7_fill_53178_4 (by decide) rfl ?_
  exact j_sub [2, 3, 1, 0] rfl (tJ7_fill_53178_a33_L5 C hq 1000 _ _ _ _ hf)
theorem c_J7_fill_53178_a33 (l : Launch) (D : va_G) (ad : Nat → Nat) (cI cZ : ClassId) (σ : St) (v1 : Int) (σ' : St) (hf : fJ7_fill_53178_a33 σ v1 = some σ') : McV l yJ7_fill_53178 cJ7_fill_53178 4 rm_J7_fill_53178_a33 D (tyL cI cZ) (wC ad cI cZ) [.ref (ad 33), .int (iI v1)] σ σ' := McV.mk mf_J7_fill_53178.2.2.2.2.2 (Nat.le_of_ble_eq_true rfl) (fun Γ C hq => j_sub [0, 1] rfl (tJ7_fill_53178_a33_L0 C hq v1 σ hf))
/-! java/util/Arrays.fill([II)V -/
def rm_J7_fill_53178_a34 : Room := { frames := 0, cells := 0, slots := 0, locals := 0 }
set_option maxRecDepth 20000 in
theorem tJ7_fill_53178_a34_B5 {ad : Nat → Nat} {cI cZ : ClassId} {Γ : Cx} {σ' : St} (C : CX cI cZ rm_J7_fill_53178_a34 4 Γ cJ7_fill_53178 RJ7) (hq : RetV (wC ad cI cZ) Γ cJ7_fill_53178 σ') {k5 : Int → Int → Int → St → Option St} (hk5 : ∀ (v1 : Int) (v2 : Int) (v3 : Int) (σ : St), k5 v1 v2 v3 σ = some σ' → JJ (wC ad cI cZ) Γ σ 5 [(0, .ref (ad 34)), (1, .int (iI v1)), (2, .int (iI v2)), (3, .int (iI v3))] []) (v1 : Int) (v2 : Int) (v3 : Int) (σ : St) (hf : fJ7_fill_53178_a34_B5 k5 v1 v2 v3 σ = some σ') : JJ (wC ad cI cZ) Γ σ 5 [(0, .ref (ad 34)), (1, .int (iI v1)), (2, .int (iI v2)), (3, .int (iI v3))] [] := by
  unfold fJ7_fill_53178_a34_B5 at hf
  refine j_iload_n 2 C dJ7_fill_53178_5 rfl ?_
  refine j_iload_n 3 C dJ7_fill_53178_6 rfl ?_
  refine j_icmp_ge 20 C rfl rfl dJ7_fill_53178_7 (by decide) (fun h => ?_) (fun h => ?_)
  · have hf := ifp h hf
    exact retV hq hf dJ7_fill_53178_20
  · have hf := ifn h hf
    refine j_aload_n 0 C dJ7_fill_53178_10 rfl ?_
    refine j_iload_n 2 C dJ7_fill_53178_11 rfl ?_
    refine j_iload_n 1 C dJ7_fill_53178_12 rfl ?_
    obtain ⟨hI, hf⟩ := gI_s hf
    refine tC_23 C hI dJ7_fill_53178_13 ?_
    refine j_iinc 2 [(2, .int (iI (v2 + 1))), (0, .ref (ad 34)), (1, .int (iI v1)), (3, .int (iI v3))] C dJ7_fill_53178_14 (by decide) rfl rfl ?_
    refine j_goto 5 C dJ7_fill_53178_17 (by decide) ?_
    exact j_sub [1, 2, 0, 3] rfl (hk5 _ _ _ _ hf)
theorem tJ7_fill_53178_a34_L5 {ad : Nat → Nat} {cI cZ : ClassId} {Γ : Cx} {σ' : St} (C : CX cI cZ rm_J7_fill_53178_a34 4 Γ cJ7_fill_53178 RJ7) (hq : RetV (wC ad cI cZ) Γ cJ7_fill_53178 σ') (n : Nat) : ∀ (v1 v2 v3 : Int), ∀ (σ : St), fJ7_fill_53178_a34_L5 n v1 v2 v3 σ = some σ' → JJ (wC ad cI cZ) Γ σ 5 [(0, .ref (ad 34)), (1, .int (iI v1)), (2, .int (iI v2)), (3, .int (iI v3))] [] := by
  induction n with
  | zero => intro _ _ _ _ hf; cases hf
  | succ n ih => intro v1 v2 v3 σ hf; exact tJ7_fill_53178_a34_B5 C hq ih v1 v2 v3 σ hf
set_option maxRecDepth 20000 in
theorem tJ7_fill_53178_a34_L0 {ad : Nat → Nat} {cI cZ : ClassId} {Γ : Cx} {σ' : St} (C : CX cI cZ rm_J7_fill_53178_a34 4 Γ cJ7_fill_53178 RJ7) (hq : RetV (wC ad cI cZ) Γ cJ7_fill_53178 σ') (v1 : Int) (σ : St) (hf : fJ7_fill_53178_a34_L0 v1 σ = some σ') : JJ (wC ad cI cZ) Γ σ 0 [(0, .ref (ad 34)), (1, .int (iI v1))] [] := by
  unfold fJ7_fill_53178_a34_L0 at hf
  refine j_iconst C dJ7_fill_53178_0 ?_
  refine j_istore_n [(2, .int (iI 0)), (0, .ref (ad 34)), (1, .int (iI v1))] C dJ7_fill_53178_1 (by decide) rfl ?_
  refine j_aload_n 1 C dJ7_fill_53178_2 rfl ?_
  refine j_alen (f := σ.2 23) (n := 16) 34 C rfl dJ7_fill_53178_3 ?_
  refine j_istore_n [(3, .int (iI 16)), (2, .int (iI 0)), (0, .ref (ad 34)), (1, .int (iI v1))] C dJ7_fill_53178_4 (by decide) rfl ?_
  exact j_sub [2, 3, 1, 0] rfl (tJ7_fill_53178_a34_L5 C hq 1000 _ _ _ _ hf)
theorem c_J7_fill_53178_a34 (l : Launch) (D : va_G) (ad : Nat → Nat) (cI cZ : ClassId) (σ : St) (v1 : Int) (σ' : St) (hf : fJ7_fill_53178_a34 σ v1 = some σ') : McV l yJ7_fill_53178 cJ7_fill_53178 4 rm_J7_fill_53178_a34 D (tyL cI cZ) (wC ad cI cZ) [.ref (ad 34), .int (iI v1)] σ σ' := McV.mk mf_J7_fill_53178.2.2.2.2.2 (Nat.le_of_ble_eq_true rfl) (fun Γ C hq => j_sub [0, 1] rfl (tJ7_fill_53178_a34_L0 C hq v1 σ hf))
/-! TermLodgings$People.has(I)Z -/
def rm_X3_has : Room := { frames := 0, cells := 0, slots := 0, locals := 0 }
set_option maxRecDepth 20000 in
theorem tX3_has_L0 {ad : Nat → Nat} {cI cZ : ClassId} {Γ : Cx} {r : Int} {σ' : St} (C : CX cI cZ rm_X3_has 2 Γ cX3_has RX3) (hq : RetI .boolean (wC ad cI cZ) Γ cX3_has r σ') (v1 : Int) (σ : St) (hf : fX3_has_L0 v1 σ = some (r, σ')) : JJ (wC ad cI cZ) Γ σ 0 [(0, .ref (ad 3)), (1, .int (iI v1))] [] := by
  unfold fX3_has_L0 at hf
  refine j_iload_n 1 C dX3_has_0 rfl ?_
  refine j_if_lt 16 C rfl dX3_has_1 (by decide) (fun h => ?_) (fun h => ?_)
  · have hf := ifp h hf
    refine j_iconst C dX3_has_16 ?_
    exact retZc hq isB_0 hf dX3_has_17
  · have hf := ifn h hf
    refine j_iload_n 1 C dX3_has_4 rfl ?_
    refine j_aload_n 0 C dX3_has_5 rfl ?_
    refine gC_3_0 C wt_78 dX3_has_6 ?_
    refine j_icmp_ge 16 C rfl rfl dX3_has_9 (by decide) (fun h => ?_) (fun h => ?_)
    · have hf := ifp h hf
      refine j_iconst C dX3_has_16 ?_
      exact retZc hq isB_0 hf dX3_has_17
    · have hf := ifn h hf
      refine j_iconst C dX3_has_12 ?_
      refine j_goto 17 C dX3_has_13 (by decide) ?_
      exact retZc hq isB_1 hf dX3_has_17
theorem c_X3_has (l : Launch) (D : va_G) (ad : Nat → Nat) (cI cZ : ClassId) (σ : St) (v1 : Int) (r : Int) (σ' : St) (hf : fX3_has σ v1 = some (r, σ')) : McI l yX3_has cX3_has 2 .boolean rm_X3_has D (tyL cI cZ) (wC ad cI cZ) [.ref (ad 3), .int (iI v1)] σ r σ' := McI.mk mf_X3_has.2.2.2.2.2 (Nat.le_of_ble_eq_true rfl) (fun Γ C hq => j_sub [0, 1] rfl (tX3_has_L0 C hq v1 σ hf))
/-! TermLodgings$Rooms.has(I)Z -/
def rm_X5_has : Room := { frames := 0, cells := 0, slots := 0, locals := 0 }
set_option maxRecDepth 20000 in
theorem tX5_has_L0 {ad : Nat → Nat} {cI cZ : ClassId} {Γ : Cx} {r : Int} {σ' : St} (C : CX cI cZ rm_X5_has 2 Γ cX5_has RX5) (hq : RetI .boolean (wC ad cI cZ) Γ cX5_has r σ') (v1 : Int) (σ : St) (hf : fX5_has_L0 v1 σ = some (r, σ')) : JJ (wC ad cI cZ) Γ σ 0 [(0, .ref (ad 2)), (1, .int (iI v1))] [] := by
  unfold fX5_has_L0 at hf
  refine j_iload_n 1 C dX5_has_0 rfl ?_
  refine j_if_lt 16 C rfl dX5_has_1 (by decide) (fun h => ?_) (fun h => ?_)
  · have hf := ifp h hf
    refine j_iconst C dX5_has_16 ?_
    exact retZc hq isB_0 hf dX5_has_17
  · have hf := ifn h hf
    refine j_iload_n 1 C dX5_has_4 rfl ?_
    refine j_aload_n 0 C dX5_has_5 rfl ?_
    refine gC_2_0 C wt_36 dX5_has_6 ?_
    refine j_icmp_ge 16 C rfl rfl dX5_has_9 (by decide) (fun h => ?_) (fun h => ?_)
    · have hf := ifp h hf
      refine j_iconst C dX5_has_16 ?_
      exact retZc hq isB_0 hf dX5_has_17
    · have hf := ifn h hf
      refine j_iconst C dX5_has_12 ?_
      refine j_goto 17 C dX5_has_13 (by decide) ?_
      exact retZc hq isB_1 hf dX5_has_17
theorem c_X5_has (l : Launch) (D : va_G) (ad : Nat → Nat) (cI cZ : ClassId) (σ : St) (v1 : Int) (r : Int) (σ' : St) (hf : fX5_has σ v1 = some (r, σ')) : McI l yX5_has cX5_has 2 .boolean rm_X5_has D (tyL cI cZ) (wC ad cI cZ) [.ref (ad 2), .int (iI v1)] σ r σ' := McI.mk mf_X5_has.2.2.2.2.2 (Nat.le_of_ble_eq_true rfl) (fun Γ C hq => j_sub [0, 1] rfl (tX5_has_L0 C hq v1 σ hf))
/-! TermLodgings.inBits(II)Z -/
def rm_X10_inBits : Room := { frames := 0, cells := 0, slots := 0, locals := 0 }
set_option maxRecDepth 20000 in
theorem tX10_inBits_L0 {ad : Nat → Nat} {cI cZ : ClassId} {Γ : Cx} {r : Int} {σ' : St} (C : CX cI cZ rm_X10_inBits 2 Γ cX10_inBits RX10) (hq : RetI .boolean (wC ad cI cZ) Γ cX10_inBits r σ') (v0 : Int) (v1 : Int) (σ : St) (hf : fX10_inBits_L0 v0 v1 σ = some (r, σ')) : JJ (wC ad cI cZ) Γ σ 0 [(0, .int (iI v0)), (1, .int (iI v1))] [] := by
  unfold fX10_inBits_L0 at hf
  refine j_iload_n 1 C dX10_inBits_0 rfl ?_
  refine j_if_lt 23 C rfl dX10_inBits_1 (by decide) (fun h => ?_) (fun h => ?_)
  · have hf := ifp h hf
    refine j_iconst C dX10_inBits_23 ?_
    exact retZc hq isB_0 hf dX10_inBits_24
  · have hf := ifn h hf
    refine j_iload_n 1 C dX10_inBits_4 rfl ?_
    refine j_bipush C dX10_inBits_5 bp_32 ?_
    refine j_icmp_ge 23 C rfl wl_32 dX10_inBits_7 (by decide) (fun h => ?_) (fun h => ?_)
    · have hf := ifp h hf
      refine j_iconst C dX10_inBits_23 ?_
      exact retZc hq isB_0 hf dX10_inBits_24
    · have hf := ifn h hf
      refine j_iload_n 0 C dX10_inBits_10 rfl ?_
      refine j_iload_n 1 C dX10_inBits_11 rfl ?_
      refine j_iushr C dX10_inBits_12 ?_
      refine j_iconst C dX10_inBits_13 ?_
      refine j_iand C dX10_inBits_14 ?_
      refine j_iconst C dX10_inBits_15 ?_
      refine j_icmp_ne 23 C rfl wl_1 dX10_inBits_16 (by decide) (fun h => ?_) (fun h => ?_)
      · have hf := ifn h hf
        refine j_iconst C dX10_inBits_23 ?_
        exact retZc hq isB_0 hf dX10_inBits_24
      · have hf := ifp h hf
        refine j_iconst C dX10_inBits_19 ?_
        refine j_goto 24 C dX10_inBits_20 (by decide) ?_
        exact retZc hq isB_1 hf dX10_inBits_24
theorem c_X10_inBits (l : Launch) (D : va_G) (ad : Nat → Nat) (cI cZ : ClassId) (σ : St) (v0 : Int) (v1 : Int) (r : Int) (σ' : St) (hf : fX10_inBits σ v0 v1 = some (r, σ')) : McI l yX10_inBits cX10_inBits 2 .boolean rm_X10_inBits D (tyL cI cZ) (wC ad cI cZ) [.int (iI v0), .int (iI v1)] σ r σ' := McI.mk mf_X10_inBits.2.2.2.2.2 (Nat.le_of_ble_eq_true rfl) (fun Γ C hq => j_sub [0, 1] rfl (tX10_inBits_L0 C hq v0 v1 σ hf))
/-! TermLodgings$Rooms.isStruck(I)Z -/
def rm_X5_isStruck : Room := { frames := 1, cells := 0, slots := 0, locals := 21 }
set_option maxRecDepth 20000 in
theorem tX5_isStruck_L0 {ad : Nat → Nat} {cI cZ : ClassId} {Γ : Cx} {r : Int} {σ' : St} (C : CX cI cZ rm_X5_isStruck 2 Γ cX5_isStruck RX5) (hq : RetI .boolean (wC ad cI cZ) Γ cX5_isStruck r σ') (v1 : Int) (σ : St) (hf : fX5_isStruck_L0 v1 σ = some (r, σ')) : JJ (wC ad cI cZ) Γ σ 0 [(0, .ref (ad 2)), (1, .int (iI v1))] [] := by
  unfold fX5_isStruck_L0 at hf
  refine j_aload_n 0 C dX5_isStruck_0 rfl ?_
  refine gC_2_1 C wt_41 dX5_isStruck_1 ?_
  refine j_iload_n 1 C dX5_isStruck_4 rfl ?_
  obtain ⟨a1, s1, hc, hf⟩ := bd_s hf
  refine j_cSNi (host := "TermLodgings") [.int (iI (σ.1 1)), .int (iI v1)] [] C (c_X10_inBits _ _ ad cI cZ _ _ _ _ _ hc) mf_X10_inBits (List.mem_of_getElem? (i := 5) rfl) wt_451 rfl ⟨rfl, rfl, by decide, by decide⟩ rfl (Nat.le_of_ble_eq_true rfl) dX5_isStruck_5 ?_
  exact retZ hq hf dX5_isStruck_8
theorem c_X5_isStruck (l : Launch) (D : va_G) (ad : Nat → Nat) (cI cZ : ClassId) (σ : St) (v1 : Int) (r : Int) (σ' : St) (hf : fX5_isStruck σ v1 = some (r, σ')) : McI l yX5_isStruck cX5_isStruck 2 .boolean rm_X5_isStruck D (tyL cI cZ) (wC ad cI cZ) [.ref (ad 2), .int (iI v1)] σ r σ' := McI.mk mf_X5_isStruck.2.2.2.2.2 (Nat.le_of_ble_eq_true rfl) (fun Γ C hq => j_sub [0, 1] rfl (tX5_isStruck_L0 C hq v1 σ hf))
/-! TermLodgings$Statute.faultPlace()I -/
def rm_X6_faultPlace : Room := { frames := 0, cells := 0, slots := 0, locals := 0 }
set_option maxRecDepth 20000 in
theorem tX6_faultPlace_L0 {ad : Nat → Nat} {cI cZ : ClassId} {Γ : Cx} {r : Int} {σ' : St} (C : CX cI cZ rm_X6_faultPlace 1 Γ cX6_faultPlace RX6) (hq : RetI .int (wC ad cI cZ) Γ cX6_faultPlace r σ') (σ : St) (hf : fX6_faultPlace_L0 σ = some (r, σ')) : JJ (wC ad cI cZ) Γ σ 0 [(0, .ref (ad 4))] [] := by
  unfold fX6_faultPlace_L0 at hf
  refine j_aload_n 0 C dX6_faultPlace_0 rfl ?_
  refine gC_4_3 C wt_130 dX6_faultPlace_1 ?_
  refine j_iconst C dX6_faultPlace_4 ?_
  refine j_icmp_ne 15 C rfl wl_m1 dX6_faultPlace_5 (by decide) (fun h => ?_) (fun h => ?_)
  · have hf := ifn h hf
    refine j_aload_n 0 C dX6_faultPlace_15 rfl ?_
    refine gC_4_3 C wt_130 dX6_faultPlace_16 ?_
    exact retI hq hf dX6_faultPlace_19
  · have hf := ifp h hf
    refine j_aload_n 0 C dX6_faultPlace_8 rfl ?_
    refine gC_4_0 C wt_126 dX6_faultPlace_9 ?_
    refine j_if_ne 20 C rfl dX6_faultPlace_12 (by decide) (fun h => ?_) (fun h => ?_)
    · have hf := ifn h hf
      refine j_aload_n 0 C dX6_faultPlace_20 rfl ?_
      refine gC_4_2 C wt_129 dX6_faultPlace_21 ?_
      refine j_iconst C dX6_faultPlace_24 ?_
      refine j_icmp_gt 35 C rfl wl_2 dX6_faultPlace_25 (by decide) (fun h => ?_) (fun h => ?_)
      · have hf := ifp h hf
        refine j_iconst C dX6_faultPlace_35 ?_
        exact retI hq hf dX6_faultPlace_36
      · have hf := ifn h hf
        refine j_aload_n 0 C dX6_faultPlace_28 rfl ?_
        refine gC_4_0 C wt_126 dX6_faultPlace_29 ?_
        refine j_goto 36 C dX6_faultPlace_32 (by decide) ?_
        exact retI hq hf dX6_faultPlace_36
    · have hf := ifp h hf
      refine j_aload_n 0 C dX6_faultPlace_15 rfl ?_
      refine gC_4_3 C wt_130 dX6_faultPlace_16 ?_
      exact retI hq hf dX6_faultPlace_19
theorem c_X6_faultPlace (l : Launch) (D : va_G) (ad : Nat → Nat) (cI cZ : ClassId) (σ : St) (r : Int) (σ' : St) (hf : fX6_faultPlace σ = some (r, σ')) : McI l yX6_faultPlace cX6_faultPlace 1 .int rm_X6_faultPlace D (tyL cI cZ) (wC ad cI cZ) [.ref (ad 4)] σ r σ' := McI.mk mf_X6_faultPlace.2.2.2.2.2 (Nat.le_of_ble_eq_true rfl) (fun Γ C hq => j_sub [0] rfl (tX6_faultPlace_L0 C hq  σ hf))
/-! TermLodgings$Statute.asked(IIIII)I -/
def rm_X6_asked : Room := { frames := 0, cells := 0, slots := 0, locals := 0 }
set_option maxRecDepth 20000 in
theorem tX6_asked_L0 {ad : Nat → Nat} {cI cZ : ClassId} {Γ : Cx} {r : Int} {σ' : St} (C : CX cI cZ rm_X6_asked 5 Γ cX6_asked RX6) (hq : RetI .int (wC ad cI cZ) Γ cX6_asked r σ') (v0 : Int) (v1 : Int) (v2 : Int) (v3 : Int) (v4 : Int) (σ : St) (hf : fX6_asked_L0 v0 v1 v2 v3 v4 σ = some (r, σ')) : JJ (wC ad cI cZ) Γ σ 0 [(0, .int (iI v0)), (1, .int (iI v1)), (2, .int (iI v2)), (3, .int (iI v3)), (4, .int (iI v4))] [] := by
  unfold fX6_asked_L0 at hf
  refine j_iload_n 0 C dX6_asked_0 rfl ?_
  by_cases h0 : w32 v0 = 109
  · have hf := ifp h0 hf
    refine j_look (off := 37) 38 C (by decide) (by rw [h0]; rfl) (by decide) dX6_asked_1 ?_
    refine j_iload_n 2 C dX6_asked_38 rfl ?_
    exact retI hq hf dX6_asked_39
  have hf := ifn h0 hf
  by_cases h1 : w32 v0 = 115
  · have hf := ifp h1 hf
    refine j_look (off := 39) 40 C (by decide) (by rw [h1]; rfl) (by decide) dX6_asked_1 ?_
    refine j_iload_n 3 C dX6_asked_40 rfl ?_
    exact retI hq hf dX6_asked_41
  have hf := ifn h1 hf
  by_cases h2 : w32 v0 = 121
  · have hf := ifp h2 hf
    refine j_look (off := 35) 36 C (by decide) (by rw [h2]; rfl) (by decide) dX6_asked_1 ?_
    refine j_iload_n 1 C dX6_asked_36 rfl ?_
    exact retI hq hf dX6_asked_37
  have hf := ifn h2 hf
  refine j_look (off := 41) 42 C (by decide) (by simp only [Op.lookupswitch.offset_cons, Op.lookupswitch.offset_nil]; (repeat (rw [if_neg (by omega)]))) (by decide) dX6_asked_1 ?_
  refine j_iload 4 C dX6_asked_42 rfl ?_
  exact retI hq hf dX6_asked_44
theorem c_X6_asked (l : Launch) (D : va_G) (ad : Nat → Nat) (cI cZ : ClassId) (σ : St) (v0 : Int) (v1 : Int) (v2 : Int) (v3 : Int) (v4 : Int) (r : Int) (σ' : St) (hf : fX6_asked σ v0 v1 v2 v3 v4 = some (r, σ')) : McI l yX6_asked cX6_asked 5 .int rm_X6_asked D (tyL cI cZ) (wC ad cI cZ) [.int (iI v0), .int (iI v1), .int (iI v2), .int (iI v3), .int (iI v4)] σ r σ' := McI.mk mf_X6_asked.2.2.2.2.2 (Nat.le_of_ble_eq_true rfl) (fun Γ C hq => j_sub [0, 1, 2, 3, 4] rfl (tX6_asked_L0 C hq v0 v1 v2 v3 v4 σ hf))
/-! TermLodgings$Statute.compares(III)Z -/
def rm_X6_compares : Room := { frames := 0, cells := 0, slots := 0, locals := 0 }
set_option maxRecDepth 20000 in
theorem tX6_compares_L0 {ad : Nat → Nat} {cI cZ : ClassId} {Γ : Cx} {r : Int} {σ' : St} (C : CX cI cZ rm_X6_compares 3 Γ cX6_compares RX6) (hq : RetI .boolean (wC ad cI cZ) Γ cX6_compares r σ') (v0 : Int) (v1 : Int) (v2 : Int) (σ : St) (hf : fX6_compares_L0 v0 v1 v2 σ = some (r, σ')) : JJ (wC ad cI cZ) Γ σ 0 [(0, .int (iI v0)), (1, .int (iI v1)), (2, .int (iI v2))] [] := by
  unfold fX6_compares_L0 at hf
  refine j_iload_n 1 C dX6_compares_0 rfl ?_
  by_cases h0 : w32 v1 = 60
  · have hf := ifp h0 hf
    refine j_look (off := 27) 28 C (by decide) (by rw [h0]; rfl) (by decide) dX6_compares_1 ?_
    refine j_iload_n 0 C dX6_compares_28 rfl ?_
    refine j_iload_n 2 C dX6_compares_29 rfl ?_
    refine j_icmp_ge 37 C rfl rfl dX6_compares_30 (by decide) (fun h => ?_) (fun h => ?_)
    · have hf := ifp h hf
      refine j_iconst C dX6_compares_37 ?_
      exact retZc hq isB_0 hf dX6_compares_38
    · have hf := ifn h hf
      refine j_iconst C dX6_compares_33 ?_
      refine j_goto 38 C dX6_compares_34 (by decide) ?_
      exact retZc hq isB_1 hf dX6_compares_38
  have hf := ifn h0 hf
  by_cases h1 : w32 v1 = 61
  · have hf := ifp h1 hf
    refine j_look (off := 38) 39 C (by decide) (by rw [h1]; rfl) (by decide) dX6_compares_1 ?_
    refine j_iload_n 0 C dX6_compares_39 rfl ?_
    refine j_iload_n 2 C dX6_compares_40 rfl ?_
    refine j_icmp_ne 48 C rfl rfl dX6_compares_41 (by decide) (fun h => ?_) (fun h => ?_)
    · have hf := ifn h hf
      refine j_iconst C dX6_compares_48 ?_
      exact retZc hq isB_0 hf dX6_compares_49
    · have hf := ifp h hf
      refine j_iconst C dX6_compares_44 ?_
      refine j_goto 49 C dX6_compares_45 (by decide) ?_
      exact retZc hq isB_1 hf dX6_compares_49
  have hf := ifn h1 hf
  refine j_look (off := 49) 50 C (by decide) (by simp only [Op.lookupswitch.offset_cons, Op.lookupswitch.offset_nil]; (repeat (rw [if_neg (by omega)]))) (by decide) dX6_compares_1 ?_
  refine j_iload_n 0 C dX6_compares_50 rfl ?_
  refine j_iload_n 2 C dX6_compares_51 rfl ?_
  refine j_icmp_le 59 C rfl rfl dX6_compares_52 (by decide) (fun h => ?_) (fun h => ?_)
  · have hf := ifp h hf
    refine j_iconst C dX6_compares_59 ?_
    exact retZc hq isB_0 hf dX6_compares_60
  · have hf := ifn h hf
    refine j_iconst C dX6_compares_55 ?_
    refine j_goto 60 C dX6_compares_56 (by decide) ?_
    exact retZc hq isB_1 hf dX6_compares_60
theorem c_X6_compares (l : Launch) (D : va_G) (ad : Nat → Nat) (cI cZ : ClassId) (σ : St) (v0 : Int) (v1 : Int) (v2 : Int) (r : Int) (σ' : St) (hf : fX6_compares σ v0 v1 v2 = some (r, σ')) : McI l yX6_compares cX6_compares 3 .boolean rm_X6_compares D (tyL cI cZ) (wC ad cI cZ) [.int (iI v0), .int (iI v1), .int (iI v2)] σ r σ' := McI.mk mf_X6_compares.2.2.2.2.2 (Nat.le_of_ble_eq_true rfl) (fun Γ C hq => j_sub [0, 1, 2] rfl (tX6_compares_L0 C hq v0 v1 v2 σ hf))
/-! TermLodgings$Statute.allows(IIII)Z -/
def rm_X6_allows : Room := { frames := 1, cells := 0, slots := 0, locals := 24 }
set_option maxRecDepth 20000 in
theorem tX6_allows_L59 {ad : Nat → Nat} {cI cZ : ClassId} {Γ : Cx} {r : Int} {σ' : St} (C : CX cI cZ rm_X6_allows 7 Γ cX6_allows RX6) (hq : RetI .boolean (wC ad cI cZ) Γ cX6_allows r σ') {k23 : Int → Int → Int → Int → Int → Int → St → Option (Int × St)} (hk23 : ∀ (v1 : Int) (v2 : Int) (v3 : Int) (v4 : Int) (v5 : Int) (v6 : Int) (σ : St), k23 v1 v2 v3 v4 v5 v6 σ = some (r, σ') → JJ (wC ad cI cZ) Γ σ 23 [(0, .ref (ad 4)), (1, .int (iI v1)), (2, .int (iI v2)), (3, .int (iI v3)), (4, .int (iI v4)), (5, .int (iI v5)), (6, .int (iI v6))] []) (v1 : Int) (v2 : Int) (v3 : Int) (v4 : Int) (v5 : Int) (v6 : Int) (σ : St) (hf : fX6_allows_L59 k23 v1 v2 v3 v4 v5 v6 σ = some (r, σ')) : JJ (wC ad cI cZ) Γ σ 59 [(0, .ref (ad 4)), (1, .int (iI v1)), (2, .int (iI v2)), (3, .int (iI v3)), (4, .int (iI v4)), (5, .int (iI v5)), (6, .int (iI v6))] [] := by
  unfold fX6_allows_L59 at hf
  refine j_iload 5 C dX6_allows_59 rfl ?_
  refine j_if_eq 103 C rfl dX6_allows_61 (by decide) (fun h => ?_) (fun h => ?_)
  · have hf := ifp h hf
    refine j_iconst C dX6_allows_103 ?_
    refine j_istore [(5, .int (iI 0)), (0, .ref (ad 4)), (1, .int (iI v1)), (2, .int (iI v2)), (3, .int (iI v3)), (4, .int (iI v4)), (6, .int (iI v6))] C dX6_allows_104 (by decide) rfl ?_
    refine j_iinc 6 [(6, .int (iI (v6 + 1))), (5, .int (iI 0)), (0, .ref (ad 4)), (1, .int (iI v1)), (2, .int (iI v2)), (3, .int (iI v3)), (4, .int (iI v4))] C dX6_allows_106 (by decide) rfl rfl ?_
    refine j_goto 23 C dX6_allows_109 (by decide) ?_
    exact j_sub [2, 3, 4, 5, 6, 1, 0] rfl (hk23 _ _ _ _ _ _ _ hf)
  · have hf := ifn h hf
    refine j_aload_n 0 C dX6_allows_64 rfl ?_
    refine gC_4_5 C wt_132 dX6_allows_65 ?_
    refine j_iload 6 C dX6_allows_68 rfl ?_
    obtain ⟨hI, hf⟩ := gI_s hf
    refine lC_12 C hI dX6_allows_70 ?_
    refine j_iload_n 1 C dX6_allows_71 rfl ?_
    refine j_iload_n 2 C dX6_allows_72 rfl ?_
    refine j_iload_n 3 C dX6_allows_73 rfl ?_
    refine j_iload 4 C dX6_allows_74 rfl ?_
    obtain ⟨a1, s1, hc, hf⟩ := bd_s hf
    refine j_cSi [.int (iI (σ.2 12 (ix v6))), .int (iI v1), .int (iI v2), .int (iI v3), .int (iI v4)] [] C (c_X6_asked _ _ ad cI cZ _ _ _ _ _ _ _ _ hc) mf_X6_asked wt_461 wt_462 rfl ⟨rfl, rfl, by decide, by decide⟩ rfl (Nat.le_of_ble_eq_true rfl) dX6_allows_76 ?_
    refine j_aload_n 0 C dX6_allows_79 rfl ?_
    refine gC_4_6 C wt_133 dX6_allows_80 ?_
    refine j_iload 6 C dX6_allows_83 rfl ?_
    obtain ⟨hI, hf⟩ := gI_s hf
    refine lC_13 C hI dX6_allows_85 ?_
    refine j_aload_n 0 C dX6_allows_86 rfl ?_
    refine gC_4_7 C wt_134 dX6_allows_87 ?_
    refine j_iload 6 C dX6_allows_90 rfl ?_
    obtain ⟨hI, hf⟩ := gI_s hf
    refine lC_14 C hI dX6_allows_92 ?_
    obtain ⟨a2, s2, hc, hf⟩ := bd_s hf
    refine j_cSi [.int (iI a1), .int (iI (s1.2 13 (ix v6))), .int (iI (s1.2 14 (ix v6)))] [] C (c_X6_compares _ _ ad cI cZ _ _ _ _ _ _ hc) mf_X6_compares wt_464 wt_465 rfl ⟨rfl, rfl, by decide, by decide⟩ rfl (Nat.le_of_ble_eq_true rfl) dX6_allows_93 ?_
    refine j_if_eq 103 C rfl dX6_allows_96 (by decide) (fun h => ?_) (fun h => ?_)
    · have hf := ifp h hf
      refine j_iconst C dX6_allows_103 ?_
      refine j_istore [(5, .int (iI 0)), (0, .ref (ad 4)), (1, .int (iI v1)), (2, .int (iI v2)), (3, .int (iI v3)), (4, .int (iI v4)), (6, .int (iI v6))] C dX6_allows_104 (by decide) rfl ?_
      refine j_iinc 6 [(6, .int (iI (v6 + 1))), (5, .int (iI 0)), (0, .ref (ad 4)), (1, .int (iI v1)), (2, .int (iI v2)), (3, .int (iI v3)), (4, .int (iI v4))] C dX6_allows_106 (by decide) rfl rfl ?_
      refine j_goto 23 C dX6_allows_109 (by decide) ?_
      exact j_sub [2, 3, 4, 5, 6, 1, 0] rfl (hk23 _ _ _ _ _ _ _ hf)
    · have hf := ifn h hf
      refine j_iconst C dX6_allows_99 ?_
      refine j_goto 104 C dX6_allows_100 (by decide) ?_
      refine j_istore [(5, .int (iI 1)), (0, .ref (ad 4)), (1, .int (iI v1)), (2, .int (iI v2)), (3, .int (iI v3)), (4, .int (iI v4)), (6, .int (iI v6))] C dX6_allows_104 (by decide) rfl ?_
      refine j_iinc 6 [(6, .int (iI (v6 + 1))), (5, .int (iI 1)), (0, .ref (ad 4)), (1, .int (iI v1)), (2, .int (iI v2)), (3, .int (iI v3)), (4, .int (iI v4))] C dX6_allows_106 (by decide) rfl rfl ?_
      refine j_goto 23 C dX6_allows_109 (by decide) ?_
      exact j_sub [2, 3, 4, 5, 6, 1, 0] rfl (hk23 _ _ _ _ _ _ _ hf)
set_option maxRecDepth 20000 in
theorem tX6_allows_B23 {ad : Nat → Nat} {cI cZ : ClassId} {Γ : Cx} {r : Int} {σ' : St} (C : CX cI cZ rm_X6_allows 7 Γ cX6_allows RX6) (hq : RetI .boolean (wC ad cI cZ) Γ cX6_allows r σ') {k23 : Int → Int → Int → Int → Int → Int → St → Option (Int × St)} (hk23 : ∀ (v1 : Int) (v2 : Int) (v3 : Int) (v4 : Int) (v5 : Int) (v6 : Int) (σ : St), k23 v1 v2 v3 v4 v5 v6 σ = some (r, σ') → JJ (wC ad cI cZ) Γ σ 23 [(0, .ref (ad 4)), (1, .int (iI v1)), (2, .int (iI v2)), (3, .int (iI v3)), (4, .int (iI v4)), (5, .int (iI v5)), (6, .int (iI v6))] []) (v1 : Int) (v2 : Int) (v3 : Int) (v4 : Int) (v5 : Int) (v6 : Int) (σ : St) (hf : fX6_allows_B23 k23 v1 v2 v3 v4 v5 v6 σ = some (r, σ')) : JJ (wC ad cI cZ) Γ σ 23 [(0, .ref (ad 4)), (1, .int (iI v1)), (2, .int (iI v2)), (3, .int (iI v3)), (4, .int (iI v4)), (5, .int (iI v5)), (6, .int (iI v6))] [] := by
  unfold fX6_allows_B23 at hf
  refine j_iload 6 C dX6_allows_23 rfl ?_
  refine j_aload_n 0 C dX6_allows_25 rfl ?_
  refine gC_4_1 C wt_128 dX6_allows_26 ?_
  refine j_icmp_ge 112 C rfl rfl dX6_allows_29 (by decide) (fun h => ?_) (fun h => ?_)
  · have hf := ifp h hf
    refine j_iload 5 C dX6_allows_112 rfl ?_
    exact retZ hq hf dX6_allows_114
  · have hf := ifn h hf
    refine j_iload 6 C dX6_allows_32 rfl ?_
    refine j_bipush C dX6_allows_34 bp_16 ?_
    refine j_icmp_ge 112 C rfl wl_16 dX6_allows_36 (by decide) (fun h => ?_) (fun h => ?_)
    · have hf := ifp h hf
      refine j_iload 5 C dX6_allows_112 rfl ?_
      exact retZ hq hf dX6_allows_114
    · have hf := ifn h hf
      refine j_aload_n 0 C dX6_allows_39 rfl ?_
      refine gC_4_8 C wt_135 dX6_allows_40 ?_
      refine j_iload 6 C dX6_allows_43 rfl ?_
      obtain ⟨hI, hf⟩ := gI_s hf
      refine lC_15 C hI dX6_allows_45 ?_
      refine j_if_eq 59 C rfl dX6_allows_46 (by decide) (fun h => ?_) (fun h => ?_)
      · have hf := ifp h hf
        exact j_sub [0, 1, 2, 3, 4, 5, 6] rfl (tX6_allows_L59 C hq hk23 _ _ _ _ _ _ _ hf)
      · have hf := ifn h hf
        refine j_iload 5 C dX6_allows_49 rfl ?_
        refine j_if_eq 56 C rfl dX6_allows_51 (by decide) (fun h => ?_) (fun h => ?_)
        · have hf := ifp h hf
          refine j_iconst C dX6_allows_56 ?_
          refine j_istore [(5, .int (iI 1)), (0, .ref (ad 4)), (1, .int (iI v1)), (2, .int (iI v2)), (3, .int (iI v3)), (4, .int (iI v4)), (6, .int (iI v6))] C dX6_allows_57 (by decide) rfl ?_
          exact j_sub [1, 2, 3, 4, 5, 0, 6] rfl (tX6_allows_L59 C hq hk23 _ _ _ _ _ _ _ hf)
        · have hf := ifn h hf
          refine j_iconst C dX6_allows_54 ?_
          exact retZc hq isB_1 hf dX6_allows_55
theorem tX6_allows_L23 {ad : Nat → Nat} {cI cZ : ClassId} {Γ : Cx} {r : Int} {σ' : St} (C : CX cI cZ rm_X6_allows 7 Γ cX6_allows RX6) (hq : RetI .boolean (wC ad cI cZ) Γ cX6_allows r σ') (n : Nat) : ∀ (v1 v2 v3 v4 v5 v6 : Int), ∀ (σ : St), fX6_allows_L23 n v1 v2 v3 v4 v5 v6 σ = some (r, σ') → JJ (wC ad cI cZ) Γ σ 23 [(0, .ref (ad 4)), (1, .int (iI v1)), (2, .int (iI v2)), (3, .int (iI v3)), (4, .int (iI v4)), (5, .int (iI v5)), (6, .int (iI v6))] [] := by
  induction n with
  | zero => intro _ _ _ _ _ _ _ hf; cases hf
  | succ n ih => intro v1 v2 v3 v4 v5 v6 σ hf; exact tX6_allows_B23 C hq ih v1 v2 v3 v4 v5 v6 σ hf
set_option maxRecDepth 20000 in
theorem tX6_allows_L0 {ad : Nat → Nat} {cI cZ : ClassId} {Γ : Cx} {r : Int} {σ' : St} (C : CX cI cZ rm_X6_allows 7 Γ cX6_allows RX6) (hq : RetI .boolean (wC ad cI cZ) Γ cX6_allows r σ') (v1 : Int) (v2 : Int) (v3 : Int) (v4 : Int) (σ : St) (hf : fX6_allows_L0 v1 v2 v3 v4 σ = some (r, σ')) : JJ (wC ad cI cZ) Γ σ 0 [(0, .ref (ad 4)), (1, .int (iI v1)), (2, .int (iI v2)), (3, .int (iI v3)), (4, .int (iI v4))] [] := by
  unfold fX6_allows_L0 at hf
  refine j_aload_n 0 C dX6_allows_0 rfl ?_
  refine gC_4_1 C wt_128 dX6_allows_1 ?_
  refine j_if_eq 15 C rfl dX6_allows_4 (by decide) (fun h => ?_) (fun h => ?_)
  · have hf := ifp h hf
    refine j_iconst C dX6_allows_15 ?_
    exact retZc hq isB_1 hf dX6_allows_16
  · have hf := ifn h hf
    refine j_aload_n 0 C dX6_allows_7 rfl ?_
    obtain ⟨a3, s3, hc, hf⟩ := bd_s hf
    refine j_cVi (q0 := 4) (ci := 6) (T := TX6) (N := 9) [] [] C (c_X6_faultPlace _ _ ad cI cZ _ _ _ hc) mf_X6_faultPlace wt_457 wt_458 wt_459 rfl rfl rfl ⟨rfl, rfl, by decide, by decide⟩ rfl (Nat.le_of_ble_eq_true rfl) dX6_allows_8 ?_
    refine j_iconst C dX6_allows_11 ?_
    refine j_icmp_eq 17 C rfl wl_m1 dX6_allows_12 (by decide) (fun h => ?_) (fun h => ?_)
    · have hf := ifp h hf
      refine j_iconst C dX6_allows_17 ?_
      refine j_istore [(5, .int (iI 0)), (0, .ref (ad 4)), (1, .int (iI v1)), (2, .int (iI v2)), (3, .int (iI v3)), (4, .int (iI v4))] C dX6_allows_18 (by decide) rfl ?_
      refine j_iconst C dX6_allows_20 ?_
      refine j_istore [(6, .int (iI 0)), (5, .int (iI 0)), (0, .ref (ad 4)), (1, .int (iI v1)), (2, .int (iI v2)), (3, .int (iI v3)), (4, .int (iI v4))] C dX6_allows_21 (by decide) rfl ?_
      exact j_sub [2, 3, 4, 5, 6, 1, 0] rfl (tX6_allows_L23 C hq 1000 _ _ _ _ _ _ _ hf)
    · have hf := ifn h hf
      refine j_iconst C dX6_allows_15 ?_
      exact retZc hq isB_1 hf dX6_allows_16
theorem c_X6_allows (l : Launch) (D : va_G) (ad : Nat → Nat) (cI cZ : ClassId) (σ : St) (v1 : Int) (v2 : Int) (v3 : Int) (v4 : Int) (r : Int) (σ' : St) (hf : fX6_allows σ v1 v2 v3 v4 = some (r, σ')) : McI l yX6_allows cX6_allows 7 .boolean rm_X6_allows D (tyL cI cZ) (wC ad cI cZ) [.ref (ad 4), .int (iI v1), .int (iI v2), .int (iI v3), .int (iI v4)] σ r σ' := McI.mk mf_X6_allows.2.2.2.2.2 (Nat.le_of_ble_eq_true rfl) (fun Γ C hq => j_sub [0, 1, 2, 3, 4] rfl (tX6_allows_L0 C hq v1 v2 v3 v4 σ hf))
/-! TermLodgings$Town.suits(II)Z -/
def rm_X7_suits : Room := { frames := 2, cells := 0, slots := 0, locals := 50 }
set_option maxRecDepth 20000 in
theorem tX7_suits_L0 {ad : Nat → Nat} {cI cZ : ClassId} {Γ : Cx} {r : Int} {σ' : St} (C : CX cI cZ rm_X7_suits 3 Γ cX7_suits RX7) (hq : RetI .boolean (wC ad cI cZ) Γ cX7_suits r σ') (v1 : Int) (v2 : Int) (σ : St) (hf : fX7_suits_L0 v1 v2 σ = some (r, σ')) : JJ (wC ad cI cZ) Γ σ 0 [(0, .ref (ad 1)), (1, .int (iI v1)), (2, .int (iI v2))] [] := by
  unfold fX7_suits_L0 at hf
  refine j_aload_n 0 C dX7_suits_0 rfl ?_
  refine gC_1_1 C wt_161 dX7_suits_1 ?_
  refine j_iload_n 1 C dX7_suits_4 rfl ?_
  obtain ⟨a1, s1, hc, hf⟩ := bd_s hf
  refine j_cVi (q0 := 3) (ci := 3) (T := TX3) (N := 8) [.int (iI v1)] [] C (c_X3_has _ _ ad cI cZ _ _ _ _ hc) mf_X3_has wt_444 wt_386 wt_387 rfl rfl rfl ⟨rfl, rfl, by decide, by decide⟩ rfl (Nat.le_of_ble_eq_true rfl) dX7_suits_5 ?_
  refine j_if_eq 41 C rfl dX7_suits_8 (by decide) (fun h => ?_) (fun h => ?_)
  · have hf := ifp h hf
    refine j_iconst C dX7_suits_41 ?_
    exact retZc hq isB_0 hf dX7_suits_42
  · have hf := ifn h hf
    refine j_aload_n 0 C dX7_suits_11 rfl ?_
    refine gC_1_0 C wt_155 dX7_suits_12 ?_
    refine j_iload_n 2 C dX7_suits_15 rfl ?_
    obtain ⟨a2, s2, hc, hf⟩ := bd_s hf
    refine j_cVi (q0 := 2) (ci := 5) (T := TX5) (N := 7) [.int (iI v2)] [] C (c_X5_has _ _ ad cI cZ _ _ _ _ hc) mf_X5_has wt_445 wt_390 wt_391 rfl rfl rfl ⟨rfl, rfl, by decide, by decide⟩ rfl (Nat.le_of_ble_eq_true rfl) dX7_suits_16 ?_
    refine j_if_eq 41 C rfl dX7_suits_19 (by decide) (fun h => ?_) (fun h => ?_)
    · have hf := ifp h hf
      refine j_iconst C dX7_suits_41 ?_
      exact retZc hq isB_0 hf dX7_suits_42
    · have hf := ifn h hf
      refine j_aload_n 0 C dX7_suits_22 rfl ?_
      refine gC_1_0 C wt_155 dX7_suits_23 ?_
      refine j_aload_n 0 C dX7_suits_26 rfl ?_
      refine gC_1_0 C wt_155 dX7_suits_27 ?_
      refine gC_2_3 C wt_45 dX7_suits_30 ?_
      refine j_iload_n 2 C dX7_suits_33 rfl ?_
      obtain ⟨hI, hf⟩ := gI_s hf
      refine lC_1 C hI dX7_suits_34 ?_
      obtain ⟨a3, s3, hc, hf⟩ := bd_s hf
      refine j_cVi (q0 := 2) (ci := 5) (T := TX5) (N := 7) [.int (iI (s2.2 1 (ix v2)))] [] C (c_X5_isStruck _ _ ad cI cZ _ _ _ _ hc) mf_X5_isStruck wt_446 wt_447 wt_448 rfl rfl rfl ⟨rfl, rfl, by decide, by decide⟩ rfl (Nat.le_of_ble_eq_true rfl) dX7_suits_35 ?_
      refine j_if_eq 43 C rfl dX7_suits_38 (by decide) (fun h => ?_) (fun h => ?_)
      · have hf := ifp h hf
        refine j_aload_n 0 C dX7_suits_43 rfl ?_
        refine gC_1_2 C wt_165 dX7_suits_44 ?_
        refine j_aload_n 0 C dX7_suits_47 rfl ?_
        refine gC_1_1 C wt_161 dX7_suits_48 ?_
        refine gC_3_1 C wt_86 dX7_suits_51 ?_
        refine j_iload_n 1 C dX7_suits_54 rfl ?_
        obtain ⟨hI, hf⟩ := gI_s hf
        refine lC_5 C hI dX7_suits_55 ?_
        refine j_aload_n 0 C dX7_suits_56 rfl ?_
        refine gC_1_0 C wt_155 dX7_suits_57 ?_
        refine gC_2_4 C wt_48 dX7_suits_60 ?_
        refine j_iload_n 2 C dX7_suits_63 rfl ?_
        obtain ⟨hI, hf⟩ := gI_s hf
        refine lC_2 C hI dX7_suits_64 ?_
        refine j_aload_n 0 C dX7_suits_65 rfl ?_
        refine gC_1_0 C wt_155 dX7_suits_66 ?_
        refine gC_2_5 C wt_51 dX7_suits_69 ?_
        refine j_iload_n 2 C dX7_suits_72 rfl ?_
        obtain ⟨hI, hf⟩ := gI_s hf
        refine lC_3 C hI dX7_suits_73 ?_
        refine j_aload_n 0 C dX7_suits_74 rfl ?_
        refine gC_1_0 C wt_155 dX7_suits_75 ?_
        refine gC_2_3 C wt_45 dX7_suits_78 ?_
        refine j_iload_n 2 C dX7_suits_81 rfl ?_
        obtain ⟨hI, hf⟩ := gI_s hf
        refine lC_1 C hI dX7_suits_82 ?_
        obtain ⟨a4, s4, hc, hf⟩ := bd_s hf
        refine j_cVi (q0 := 4) (ci := 6) (T := TX6) (N := 9) [.int (iI (s3.2 5 (ix v1))), .int (iI (s3.2 2 (ix v2))), .int (iI (s3.2 3 (ix v2))), .int (iI (s3.2 1 (ix v2)))] [] C (c_X6_allows _ _ ad cI cZ _ _ _ _ _ _ _ hc) mf_X6_allows wt_453 wt_454 wt_455 rfl rfl rfl ⟨rfl, rfl, by decide, by decide⟩ rfl (Nat.le_of_ble_eq_true rfl) dX7_suits_83 ?_
        exact retZ hq hf dX7_suits_86
      · have hf := ifn h hf
        refine j_iconst C dX7_suits_41 ?_
        exact retZc hq isB_0 hf dX7_suits_42
theorem c_X7_suits (l : Launch) (D : va_G) (ad : Nat → Nat) (cI cZ : ClassId) (σ : St) (v1 : Int) (v2 : Int) (r : Int) (σ' : St) (hf : fX7_suits σ v1 v2 = some (r, σ')) : McI l yX7_suits cX7_suits 3 .boolean rm_X7_suits D (tyL cI cZ) (wC ad cI cZ) [.ref (ad 1), .int (iI v1), .int (iI v2)] σ r σ' := McI.mk mf_X7_suits.2.2.2.2.2 (Nat.le_of_ble_eq_true rfl) (fun Γ C hq => j_sub [0, 1, 2] rfl (tX7_suits_L0 C hq v1 v2 σ hf))
/-! TermLodgings$Town.weighAll()V -/
def rm_X7_weighAll : Room := { frames := 3, cells := 0, slots := 0, locals := 72 }
set_option maxRecDepth 20000 in
theorem tX7_weighAll_B22 {ad : Nat → Nat} {cI cZ : ClassId} {Γ : Cx} {σ' : St} (C : CX cI cZ rm_X7_weighAll 3 Γ cX7_weighAll RX7) (hq : RetV (wC ad cI cZ) Γ cX7_weighAll σ') {k2 : Int → St → Option St} {k22 : Int → Int → St → Option St} (hk2 : ∀ (v1 : Int) (σ : St), k2 v1 σ = some σ' → JJ (wC ad cI cZ) Γ σ 2 [(0, .ref (ad 1)), (1, .int (iI v1))] []) (hk22 : ∀ (v1 : Int) (v2 : Int) (σ : St), k22 v1 v2 σ = some σ' → JJ (wC ad cI cZ) Γ σ 22 [(0, .ref (ad 1)), (1, .int (iI v1)), (2, .int (iI v2))] []) (v1 : Int) (v2 : Int) (σ : St) (hf : fX7_weighAll_B22 k2 k22 v1 v2 σ = some σ') : JJ (wC ad cI cZ) Γ σ 22 [(0, .ref (ad 1)), (1, .int (iI v1)), (2, .int (iI v2))] [] := by
  unfold fX7_weighAll_B22 at hf
  refine j_iload_n 2 C dX7_weighAll_22 rfl ?_
  refine j_aload_n 0 C dX7_weighAll_23 rfl ?_
  refine gC_1_0 C wt_155 dX7_weighAll_24 ?_
  refine gC_2_0 C wt_38 dX7_weighAll_27 ?_
  refine j_icmp_ge 60 C rfl rfl dX7_weighAll_30 (by decide) (fun h => ?_) (fun h => ?_)
  · have hf := ifp h hf
    refine j_iinc 1 [(1, .int (iI (v1 + 1))), (0, .ref (ad 1)), (2, .int (iI v2))] C dX7_weighAll_60 (by decide) rfl rfl ?_
    refine j_goto 2 C dX7_weighAll_63 (by decide) ?_
    exact j_sub [1, 0] rfl (hk2 _ _ hf)
  · have hf := ifn h hf
    refine j_aload_n 0 C dX7_weighAll_33 rfl ?_
    refine j_iload_n 1 C dX7_weighAll_34 rfl ?_
    refine j_iload_n 2 C dX7_weighAll_35 rfl ?_
    obtain ⟨a1, s1, hc, hf⟩ := bd_s hf
    refine j_cVi (q0 := 1) (ci := 7) (T := TX7) (N := 4) [.int (iI v1), .int (iI v2)] [] C (c_X7_suits _ _ ad cI cZ _ _ _ _ _ hc) mf_X7_suits wt_574 wt_441 wt_442 rfl rfl rfl ⟨rfl, rfl, by decide, by decide⟩ rfl (Nat.le_of_ble_eq_true rfl) dX7_weighAll_36 ?_
    refine j_if_eq 54 C rfl dX7_weighAll_39 (by decide) (fun h => ?_) (fun h => ?_)
    · have hf := ifp h hf
      refine j_iinc 2 [(2, .int (iI (v2 + 1))), (0, .ref (ad 1)), (1, .int (iI v1))] C dX7_weighAll_54 (by decide) rfl rfl ?_
      refine j_goto 22 C dX7_weighAll_57 (by decide) ?_
      exact j_sub [1, 2, 0] rfl (hk22 _ _ _ hf)
    · have hf := ifn h hf
      refine j_aload_n 0 C dX7_weighAll_42 rfl ?_
      refine gC_1_3 C wt_167 dX7_weighAll_43 ?_
      refine j_iload_n 1 C dX7_weighAll_46 rfl ?_
      refine j_dup2 C rfl rfl dX7_weighAll_47 ?_
      obtain ⟨hI, hf⟩ := gI_s hf
      refine lC_0 C hI dX7_weighAll_48 ?_
      refine j_iconst C dX7_weighAll_49 ?_
      refine j_iload_n 2 C dX7_weighAll_50 rfl ?_
      refine j_ishl C dX7_weighAll_51 ?_
      refine j_ior C dX7_weighAll_52 ?_
      obtain ⟨hI, hf⟩ := gI_s hf
      refine tC_0 C hI dX7_weighAll_53 ?_
      refine j_iinc 2 [(2, .int (iI (v2 + 1))), (0, .ref (ad 1)), (1, .int (iI v1))] C dX7_weighAll_54 (by decide) rfl rfl ?_
      refine j_goto 22 C dX7_weighAll_57 (by decide) ?_
      exact j_sub [1, 2, 0] rfl (hk22 _ _ _ hf)
theorem tX7_weighAll_L22 {ad : Nat → Nat} {cI cZ : ClassId} {Γ : Cx} {σ' : St} (C : CX cI cZ rm_X7_weighAll 3 Γ cX7_weighAll RX7) (hq : RetV (wC ad cI cZ) Γ cX7_weighAll σ') {k2 : Int → St → Option St} (hk2 : ∀ (v1 : Int) (σ : St), k2 v1 σ = some σ' → JJ (wC ad cI cZ) Γ σ 2 [(0, .ref (ad 1)), (1, .int (iI v1))] []) (n : Nat) : ∀ (v1 v2 : Int), ∀ (σ : St), fX7_weighAll_L22 k2 n v1 v2 σ = some σ' → JJ (wC ad cI cZ) Γ σ 22 [(0, .ref (ad 1)), (1, .int (iI v1)), (2, .int (iI v2))] [] := by
  induction n with
  | zero => intro _ _ _ hf; cases hf
  | succ n ih => intro v1 v2 σ hf; exact tX7_weighAll_B22 C hq hk2 ih v1 v2 σ hf
set_option maxRecDepth 20000 in
theorem tX7_weighAll_B2 {ad : Nat → Nat} {cI cZ : ClassId} {Γ : Cx} {σ' : St} (C : CX cI cZ rm_X7_weighAll 3 Γ cX7_weighAll RX7) (hq : RetV (wC ad cI cZ) Γ cX7_weighAll σ') {k2 : Int → St → Option St} (hk2 : ∀ (v1 : Int) (σ : St), k2 v1 σ = some σ' → JJ (wC ad cI cZ) Γ σ 2 [(0, .ref (ad 1)), (1, .int (iI v1))] []) (v1 : Int) (σ : St) (hf : fX7_weighAll_B2 k2 v1 σ = some σ') : JJ (wC ad cI cZ) Γ σ 2 [(0, .ref (ad 1)), (1, .int (iI v1))] [] := by
  unfold fX7_weighAll_B2 at hf
  refine j_iload_n 1 C dX7_weighAll_2 rfl ?_
  refine j_aload_n 0 C dX7_weighAll_3 rfl ?_
  refine gC_1_1 C wt_161 dX7_weighAll_4 ?_
  refine gC_3_0 C wt_81 dX7_weighAll_7 ?_
  refine j_icmp_ge 66 C rfl rfl dX7_weighAll_10 (by decide) (fun h => ?_) (fun h => ?_)
  · have hf := ifp h hf
    exact retV hq hf dX7_weighAll_66
  · have hf := ifn h hf
    refine j_aload_n 0 C dX7_weighAll_13 rfl ?_
    refine gC_1_3 C wt_167 dX7_weighAll_14 ?_
    refine j_iload_n 1 C dX7_weighAll_17 rfl ?_
    refine j_iconst C dX7_weighAll_18 ?_
    obtain ⟨hI, hf⟩ := gI_s hf
    refine tC_0 C hI dX7_weighAll_19 ?_
    refine j_iconst C dX7_weighAll_20 ?_
    refine j_istore_n [(2, .int (iI 0)), (0, .ref (ad 1)), (1, .int (iI v1))] C dX7_weighAll_21 (by decide) rfl ?_
    exact j_sub [1, 2, 0] rfl (tX7_weighAll_L22 C hq hk2 1000 _ _ _ hf)
theorem tX7_weighAll_L2 {ad : Nat → Nat} {cI cZ : ClassId} {Γ : Cx} {σ' : St} (C : CX cI cZ rm_X7_weighAll 3 Γ cX7_weighAll RX7) (hq : RetV (wC ad cI cZ) Γ cX7_weighAll σ') (n : Nat) : ∀ (v1 : Int), ∀ (σ : St), fX7_weighAll_L2 n v1 σ = some σ' → JJ (wC ad cI cZ) Γ σ 2 [(0, .ref (ad 1)), (1, .int (iI v1))] [] := by
  induction n with
  | zero => intro _ _ hf; cases hf
  | succ n ih => intro v1 σ hf; exact tX7_weighAll_B2 C hq ih v1 σ hf
set_option maxRecDepth 20000 in
theorem tX7_weighAll_L0 {ad : Nat → Nat} {cI cZ : ClassId} {Γ : Cx} {σ' : St} (C : CX cI cZ rm_X7_weighAll 3 Γ cX7_weighAll RX7) (hq : RetV (wC ad cI cZ) Γ cX7_weighAll σ') (σ : St) (hf : fX7_weighAll_L0 σ = some σ') : JJ (wC ad cI cZ) Γ σ 0 [(0, .ref (ad 1))] [] := by
  unfold fX7_weighAll_L0 at hf
  refine j_iconst C dX7_weighAll_0 ?_
  refine j_istore_n [(1, .int (iI 0)), (0, .ref (ad 1))] C dX7_weighAll_1 (by decide) rfl ?_
  exact j_sub [1, 0] rfl (tX7_weighAll_L2 C hq 1000 _ _ hf)
theorem c_X7_weighAll (l : Launch) (D : va_G) (ad : Nat → Nat) (cI cZ : ClassId) (σ : St) (σ' : St) (hf : fX7_weighAll σ = some σ') : McV l yX7_weighAll cX7_weighAll 3 rm_X7_weighAll D (tyL cI cZ) (wC ad cI cZ) [.ref (ad 1)] σ σ' := McV.mk mf_X7_weighAll.2.2.2.2.2 (Nat.le_of_ble_eq_true rfl) (fun Γ C hq => j_sub [0] rfl (tX7_weighAll_L0 C hq  σ hf))
/-! TermLodgings$People.lodgingOf(I)I -/
def rm_X3_lodgingOf : Room := { frames := 1, cells := 0, slots := 0, locals := 21 }
set_option maxRecDepth 20000 in
theorem tX3_lodgingOf_L0 {ad : Nat → Nat} {cI cZ : ClassId} {Γ : Cx} {r : Int} {σ' : St} (C : CX cI cZ rm_X3_lodgingOf 2 Γ cX3_lodgingOf RX3) (hq : RetI .int (wC ad cI cZ) Γ cX3_lodgingOf r σ') (v1 : Int) (σ : St) (hf : fX3_lodgingOf_L0 v1 σ = some (r, σ')) : JJ (wC ad cI cZ) Γ σ 0 [(0, .ref (ad 3)), (1, .int (iI v1))] [] := by
  unfold fX3_lodgingOf_L0 at hf
  refine j_aload_n 0 C dX3_lodgingOf_0 rfl ?_
  refine j_iload_n 1 C dX3_lodgingOf_1 rfl ?_
  obtain ⟨a1, s1, hc, hf⟩ := bd_s hf
  refine j_cVi (q0 := 3) (ci := 3) (T := TX3) (N := 8) [.int (iI v1)] [] C (c_X3_has _ _ ad cI cZ _ _ _ _ hc) mf_X3_has wt_401 wt_386 wt_387 rfl rfl rfl ⟨rfl, rfl, by decide, by decide⟩ rfl (Nat.le_of_ble_eq_true rfl) dX3_lodgingOf_2 ?_
  refine j_if_eq 17 C rfl dX3_lodgingOf_5 (by decide) (fun h => ?_) (fun h => ?_)
  · have hf := ifp h hf
    refine j_iconst C dX3_lodgingOf_17 ?_
    exact retI hq hf dX3_lodgingOf_18
  · have hf := ifn h hf
    refine j_aload_n 0 C dX3_lodgingOf_8 rfl ?_
    refine gC_3_5 C wt_93 dX3_lodgingOf_9 ?_
    refine j_iload_n 1 C dX3_lodgingOf_12 rfl ?_
    obtain ⟨hI, hf⟩ := gI_s hf
    refine lC_9 C hI dX3_lodgingOf_13 ?_
    refine j_goto 18 C dX3_lodgingOf_14 (by decide) ?_
    exact retI hq hf dX3_lodgingOf_18
theorem c_X3_lodgingOf (l : Launch) (D : va_G) (ad : Nat → Nat) (cI cZ : ClassId) (σ : St) (v1 : Int) (r : Int) (σ' : St) (hf : fX3_lodgingOf σ v1 = some (r, σ')) : McI l yX3_lodgingOf cX3_lodgingOf 2 .int rm_X3_lodgingOf D (tyL cI cZ) (wC ad cI cZ) [.ref (ad 3), .int (iI v1)] σ r σ' := McI.mk mf_X3_lodgingOf.2.2.2.2.2 (Nat.le_of_ble_eq_true rfl) (fun Γ C hq => j_sub [0, 1] rfl (tX3_lodgingOf_L0 C hq v1 σ hf))
/-! TermLodgings$Town.leave(I)V -/
def rm_X7_leave : Room := { frames := 2, cells := 0, slots := 0, locals := 42 }
set_option maxRecDepth 20000 in
theorem tX7_leave_L0 {ad : Nat → Nat} {cI cZ : ClassId} {Γ : Cx} {σ' : St} (C : CX cI cZ rm_X7_leave 3 Γ cX7_leave RX7) (hq : RetV (wC ad cI cZ) Γ cX7_leave σ') (v1 : Int) (σ : St) (hf : fX7_leave_L0 v1 σ = some σ') : JJ (wC ad cI cZ) Γ σ 0 [(0, .ref (ad 1)), (1, .int (iI v1))] [] := by
  unfold fX7_leave_L0 at hf
  refine j_aload_n 0 C dX7_leave_0 rfl ?_
  refine gC_1_1 C wt_161 dX7_leave_1 ?_
  refine j_iload_n 1 C dX7_leave_4 rfl ?_
  obtain ⟨a1, s1, hc, hf⟩ := bd_s hf
  refine j_cVi (q0 := 3) (ci := 3) (T := TX3) (N := 8) [.int (iI v1)] [] C (c_X3_lodgingOf _ _ ad cI cZ _ _ _ _ hc) mf_X3_lodgingOf wt_471 wt_472 wt_473 rfl rfl rfl ⟨rfl, rfl, by decide, by decide⟩ rfl (Nat.le_of_ble_eq_true rfl) dX7_leave_5 ?_
  refine j_istore_n [(2, .int (iI a1)), (0, .ref (ad 1)), (1, .int (iI v1))] C dX7_leave_8 (by decide) rfl ?_
  refine j_aload_n 1 C dX7_leave_9 rfl ?_
  refine gC_1_1 C wt_161 dX7_leave_10 ?_
  refine j_iload_n 2 C dX7_leave_13 rfl ?_
  obtain ⟨a2, s2, hc, hf⟩ := bd_s hf
  refine j_cVi (q0 := 3) (ci := 3) (T := TX3) (N := 8) [.int (iI v1)] [] C (c_X3_has _ _ ad cI cZ _ _ _ _ hc) mf_X3_has wt_444 wt_386 wt_387 rfl rfl rfl ⟨rfl, rfl, by decide, by decide⟩ rfl (Nat.le_of_ble_eq_true rfl) dX7_leave_14 ?_
  refine j_if_eq 68 C rfl dX7_leave_17 (by decide) (fun h => ?_) (fun h => ?_)
  · have hf := ifp h hf
    exact retV hq hf dX7_leave_68
  · have hf := ifn h hf
    refine j_aload_n 1 C dX7_leave_20 rfl ?_
    refine gC_1_0 C wt_155 dX7_leave_21 ?_
    refine j_iload_n 0 C dX7_leave_24 rfl ?_
    obtain ⟨a3, s3, hc, hf⟩ := bd_s hf
    refine j_cVi (q0 := 2) (ci := 5) (T := TX5) (N := 7) [.int (iI a1)] [] C (c_X5_has _ _ ad cI cZ _ _ _ _ hc) mf_X5_has wt_445 wt_390 wt_391 rfl rfl rfl ⟨rfl, rfl, by decide, by decide⟩ rfl (Nat.le_of_ble_eq_true rfl) dX7_leave_25 ?_
    refine j_if_eq 68 C rfl dX7_leave_28 (by decide) (fun h => ?_) (fun h => ?_)
    · have hf := ifp h hf
      exact retV hq hf dX7_leave_68
    · have hf := ifn h hf
      refine j_aload_n 1 C dX7_leave_31 rfl ?_
      refine gC_1_1 C wt_161 dX7_leave_32 ?_
      refine gC_3_5 C wt_94 dX7_leave_35 ?_
      refine j_iload_n 2 C dX7_leave_38 rfl ?_
      refine j_iconst C dX7_leave_39 ?_
      obtain ⟨hI, hf⟩ := gI_s hf
      refine tC_9 C hI dX7_leave_40 ?_
      refine j_aload_n 1 C dX7_leave_41 rfl ?_
      refine gC_1_0 C wt_155 dX7_leave_42 ?_
      refine gC_2_6 C wt_54 dX7_leave_45 ?_
      refine j_iload_n 0 C dX7_leave_48 rfl ?_
      refine j_iconst C dX7_leave_49 ?_
      obtain ⟨hI, hf⟩ := gI_s hf
      refine tC_4 C hI dX7_leave_50 ?_
      refine j_aload_n 1 C dX7_leave_51 rfl ?_
      refine gC_1_0 C wt_155 dX7_leave_52 ?_
      refine j_dup C rfl dX7_leave_55 ?_
      refine gC_2_2 C wt_43 dX7_leave_56 ?_
      refine j_iconst C dX7_leave_59 ?_
      refine j_iload_n 0 C dX7_leave_60 rfl ?_
      refine j_ishl C dX7_leave_61 ?_
      refine j_iconst C dX7_leave_62 ?_
      refine j_ixor C dX7_leave_63 ?_
      refine j_iand C dX7_leave_64 ?_
      refine pC_2_2 C wt_43 dX7_leave_65 ?_
      exact retV hq hf dX7_leave_68
theorem c_X7_leave (l : Launch) (D : va_G) (ad : Nat → Nat) (cI cZ : ClassId) (σ : St) (v1 : Int) (σ' : St) (hf : fX7_leave σ v1 = some σ') : McV l yX7_leave cX7_leave 3 rm_X7_leave D (tyL cI cZ) (wC ad cI cZ) [.ref (ad 1), .int (iI v1)] σ σ' := McV.mk mf_X7_leave.2.2.2.2.2 (Nat.le_of_ble_eq_true rfl) (fun Γ C hq => j_sub [0, 1] rfl (tX7_leave_L0 C hq v1 σ hf))
/-! TermLodgings.within(III)Z -/
def rm_X10_within : Room := { frames := 0, cells := 0, slots := 0, locals := 0 }
set_option maxRecDepth 20000 in
theorem tX10_within_L0 {ad : Nat → Nat} {cI cZ : ClassId} {Γ : Cx} {r : Int} {σ' : St} (C : CX cI cZ rm_X10_within 3 Γ cX10_within RX10) (hq : RetI .boolean (wC ad cI cZ) Γ cX10_within r σ') (v0 : Int) (v1 : Int) (v2 : Int) (σ : St) (hf : fX10_within_L0 v0 v1 v2 σ = some (r, σ')) : JJ (wC ad cI cZ) Γ σ 0 [(0, .int (iI v0)), (1, .int (iI v1)), (2, .int (iI v2))] [] := by
  unfold fX10_within_L0 at hf
  refine j_iload_n 0 C dX10_within_0 rfl ?_
  refine j_iload_n 1 C dX10_within_1 rfl ?_
  refine j_icmp_lt 14 C rfl rfl dX10_within_2 (by decide) (fun h => ?_) (fun h => ?_)
  · have hf := ifp h hf
    refine j_iconst C dX10_within_14 ?_
    exact retZc hq isB_0 hf dX10_within_15
  · have hf := ifn h hf
    refine j_iload_n 0 C dX10_within_5 rfl ?_
    refine j_iload_n 2 C dX10_within_6 rfl ?_
    refine j_icmp_gt 14 C rfl rfl dX10_within_7 (by decide) (fun h => ?_) (fun h => ?_)
    · have hf := ifp h hf
      refine j_iconst C dX10_within_14 ?_
      exact retZc hq isB_0 hf dX10_within_15
    · have hf := ifn h hf
      refine j_iconst C dX10_within_10 ?_
      refine j_goto 15 C dX10_within_11 (by decide) ?_
      exact retZc hq isB_1 hf dX10_within_15
theorem c_X10_within (l : Launch) (D : va_G) (ad : Nat → Nat) (cI cZ : ClassId) (σ : St) (v0 : Int) (v1 : Int) (v2 : Int) (r : Int) (σ' : St) (hf : fX10_within σ v0 v1 v2 = some (r, σ')) : McI l yX10_within cX10_within 3 .boolean rm_X10_within D (tyL cI cZ) (wC ad cI cZ) [.int (iI v0), .int (iI v1), .int (iI v2)] σ r σ' := McI.mk mf_X10_within.2.2.2.2.2 (Nat.le_of_ble_eq_true rfl) (fun Γ C hq => j_sub [0, 1, 2] rfl (tX10_within_L0 C hq v0 v1 v2 σ hf))
/-! TermLodgings$Turns.has(I)Z -/
def rm_X9_has : Room := { frames := 1, cells := 0, slots := 0, locals := 22 }
set_option maxRecDepth 20000 in
theorem tX9_has_L0 {ad : Nat → Nat} {cI cZ : ClassId} {Γ : Cx} {r : Int} {σ' : St} (C : CX cI cZ rm_X9_has 2 Γ cX9_has RX9) (hq : RetI .boolean (wC ad cI cZ) Γ cX9_has r σ') (v1 : Int) (σ : St) (hf : fX9_has_L0 v1 σ = some (r, σ')) : JJ (wC ad cI cZ) Γ σ 0 [(0, .ref (ad 5)), (1, .int (iI v1))] [] := by
  unfold fX9_has_L0 at hf
  refine j_iload_n 1 C dX9_has_0 rfl ?_
  refine j_iconst C dX9_has_1 ?_
  refine j_aload_n 0 C dX9_has_2 rfl ?_
  refine gC_5_0 C wt_183 dX9_has_3 ?_
  refine j_iconst C dX9_has_6 ?_
  refine j_isub C dX9_has_7 ?_
  obtain ⟨a1, s1, hc, hf⟩ := bd_s hf
  refine j_cSNi (host := "TermLodgings") [.int (iI v1), .int (iI 0), .int (iI ((σ.1 9) - 1))] [] C (c_X10_within _ _ ad cI cZ _ _ _ _ _ _ hc) mf_X10_within (List.mem_of_getElem? (i := 7) rfl) wt_363 rfl ⟨rfl, rfl, by decide, by decide⟩ rfl (Nat.le_of_ble_eq_true rfl) dX9_has_8 ?_
  exact retZ hq hf dX9_has_11
theorem c_X9_has (l : Launch) (D : va_G) (ad : Nat → Nat) (cI cZ : ClassId) (σ : St) (v1 : Int) (r : Int) (σ' : St) (hf : fX9_has σ v1 = some (r, σ')) : McI l yX9_has cX9_has 2 .boolean rm_X9_has D (tyL cI cZ) (wC ad cI cZ) [.ref (ad 5), .int (iI v1)] σ r σ' := McI.mk mf_X9_has.2.2.2.2.2 (Nat.le_of_ble_eq_true rfl) (fun Γ C hq => j_sub [0, 1] rfl (tX9_has_L0 C hq v1 σ hf))
/-! TermLodgings$Turns.at(I)I -/
def rm_X9_at : Room := { frames := 2, cells := 0, slots := 0, locals := 43 }
set_option maxRecDepth 20000 in
theorem tX9_at_L0 {ad : Nat → Nat} {cI cZ : ClassId} {Γ : Cx} {r : Int} {σ' : St} (C : CX cI cZ rm_X9_at 2 Γ cX9_at RX9) (hq : RetI .int (wC ad cI cZ) Γ cX9_at r σ') (v1 : Int) (σ : St) (hf : fX9_at_L0 v1 σ = some (r, σ')) : JJ (wC ad cI cZ) Γ σ 0 [(0, .ref (ad 5)), (1, .int (iI v1))] [] := by
  unfold fX9_at_L0 at hf
  refine j_aload_n 0 C dX9_at_0 rfl ?_
  refine j_iload_n 1 C dX9_at_1 rfl ?_
  obtain ⟨a1, s1, hc, hf⟩ := bd_s hf
  refine j_cVi (q0 := 5) (ci := 9) (T := TX9) (N := 2) [.int (iI v1)] [] C (c_X9_has _ _ ad cI cZ _ _ _ _ hc) mf_X9_has wt_543 wt_544 wt_545 rfl rfl rfl ⟨rfl, rfl, by decide, by decide⟩ rfl (Nat.le_of_ble_eq_true rfl) dX9_at_2 ?_
  refine j_if_eq 17 C rfl dX9_at_5 (by decide) (fun h => ?_) (fun h => ?_)
  · have hf := ifp h hf
    refine j_iconst C dX9_at_17 ?_
    exact retI hq hf dX9_at_18
  · have hf := ifn h hf
    refine j_aload_n 0 C dX9_at_8 rfl ?_
    refine gC_5_1 C wt_186 dX9_at_9 ?_
    refine j_iload_n 1 C dX9_at_12 rfl ?_
    obtain ⟨hI, hf⟩ := gI_s hf
    refine lC_16 C hI dX9_at_13 ?_
    refine j_goto 18 C dX9_at_14 (by decide) ?_
    exact retI hq hf dX9_at_18
theorem c_X9_at (l : Launch) (D : va_G) (ad : Nat → Nat) (cI cZ : ClassId) (σ : St) (v1 : Int) (r : Int) (σ' : St) (hf : fX9_at σ v1 = some (r, σ')) : McI l yX9_at cX9_at 2 .int rm_X9_at D (tyL cI cZ) (wC ad cI cZ) [.ref (ad 5), .int (iI v1)] σ r σ' := McI.mk mf_X9_at.2.2.2.2.2 (Nat.le_of_ble_eq_true rfl) (fun Γ C hq => j_sub [0, 1] rfl (tX9_at_L0 C hq v1 σ hf))
/-! TermLodgings$People.friendsOf(I)I -/
def rm_X3_friendsOf : Room := { frames := 1, cells := 0, slots := 0, locals := 21 }
set_option maxRecDepth 20000 in
theorem tX3_friendsOf_B16 {ad : Nat → Nat} {cI cZ : ClassId} {Γ : Cx} {r : Int} {σ' : St} (C : CX cI cZ rm_X3_friendsOf 4 Γ cX3_friendsOf RX3) (hq : RetI .int (wC ad cI cZ) Γ cX3_friendsOf r σ') {k16 : Int → Int → Int → St → Option (Int × St)} (hk16 : ∀ (v1 : Int) (v2 : Int) (v3 : Int) (σ : St), k16 v1 v2 v3 σ = some (r, σ') → JJ (wC ad cI cZ) Γ σ 16 [(0, .ref (ad 3)), (1, .int (iI v1)), (2, .int (iI v2)), (3, .int (iI v3))] []) (v1 : Int) (v2 : Int) (v3 : Int) (σ : St) (hf : fX3_friendsOf_B16 k16 v1 v2 v3 σ = some (r, σ')) : JJ (wC ad cI cZ) Γ σ 16 [(0, .ref (ad 3)), (1, .int (iI v1)), (2, .int (iI v2)), (3, .int (iI v3))] [] := by
  unfold fX3_friendsOf_B16 at hf
  refine j_iload_n 3 C dX3_friendsOf_16 rfl ?_
  refine j_aload_n 0 C dX3_friendsOf_17 rfl ?_
  refine gC_3_0 C wt_78 dX3_friendsOf_18 ?_
  refine j_icmp_ge 61 C rfl rfl dX3_friendsOf_21 (by decide) (fun h => ?_) (fun h => ?_)
  · have hf := ifp h hf
    refine j_iload_n 2 C dX3_friendsOf_61 rfl ?_
    exact retI hq hf dX3_friendsOf_62
  · have hf := ifn h hf
    refine j_aload_n 0 C dX3_friendsOf_24 rfl ?_
    refine gC_3_2 C wt_88 dX3_friendsOf_25 ?_
    refine j_iload_n 3 C dX3_friendsOf_28 rfl ?_
    obtain ⟨hI, hf⟩ := gI_s hf
    refine lC_6 C hI dX3_friendsOf_29 ?_
    refine j_iconst C dX3_friendsOf_30 ?_
    refine j_icmp_eq 55 C rfl wl_m1 dX3_friendsOf_31 (by decide) (fun h => ?_) (fun h => ?_)
    · have hf := ifp h hf
      refine j_iinc 3 [(3, .int (iI (v3 + 1))), (0, .ref (ad 3)), (1, .int (iI v1)), (2, .int (iI v2))] C dX3_friendsOf_55 (by decide) rfl rfl ?_
      refine j_goto 16 C dX3_friendsOf_58 (by decide) ?_
      exact j_sub [1, 2, 3, 0] rfl (hk16 _ _ _ _ hf)
    · have hf := ifn h hf
      refine j_aload_n 0 C dX3_friendsOf_34 rfl ?_
      refine gC_3_2 C wt_88 dX3_friendsOf_35 ?_
      refine j_iload_n 3 C dX3_friendsOf_38 rfl ?_
      obtain ⟨hI, hf⟩ := gI_s hf
      refine lC_6 C hI dX3_friendsOf_39 ?_
      refine j_aload_n 0 C dX3_friendsOf_40 rfl ?_
      refine gC_3_2 C wt_88 dX3_friendsOf_41 ?_
      refine j_iload_n 1 C dX3_friendsOf_44 rfl ?_
      obtain ⟨hI, hf⟩ := gI_s hf
      refine lC_6 C hI dX3_friendsOf_45 ?_
      refine j_icmp_ne 55 C rfl rfl dX3_friendsOf_46 (by decide) (fun h => ?_) (fun h => ?_)
      · have hf := ifn h hf
        refine j_iinc 3 [(3, .int (iI (v3 + 1))), (0, .ref (ad 3)), (1, .int (iI v1)), (2, .int (iI v2))] C dX3_friendsOf_55 (by decide) rfl rfl ?_
        refine j_goto 16 C dX3_friendsOf_58 (by decide) ?_
        exact j_sub [1, 2, 3, 0] rfl (hk16 _ _ _ _ hf)
      · have hf := ifp h hf
        refine j_iload_n 2 C dX3_friendsOf_49 rfl ?_
        refine j_iconst C dX3_friendsOf_50 ?_
        refine j_iload_n 3 C dX3_friendsOf_51 rfl ?_
        refine j_ishl C dX3_friendsOf_52 ?_
        refine j_ior C dX3_friendsOf_53 ?_
        refine j_istore_n [(2, .int (iI (bOr v2 (bShl 1 v3)))), (0, .ref (ad 3)), (1, .int (iI v1)), (3, .int (iI v3))] C dX3_friendsOf_54 (by decide) rfl ?_
        refine j_iinc 3 [(3, .int (iI (v3 + 1))), (2, .int (iI (bOr v2 (bShl 1 v3)))), (0, .ref (ad 3)), (1, .int (iI v1))] C dX3_friendsOf_55 (by decide) rfl rfl ?_
        refine j_goto 16 C dX3_friendsOf_58 (by decide) ?_
        exact j_sub [2, 3, 1, 0] rfl (hk16 _ _ _ _ hf)
theorem tX3_friendsOf_L16 {ad : Nat → Nat} {cI cZ : ClassId} {Γ : Cx} {r : Int} {σ' : St} (C : CX cI cZ rm_X3_friendsOf 4 Γ cX3_friendsOf RX3) (hq : RetI .int (wC ad cI cZ) Γ cX3_friendsOf r σ') (n : Nat) : ∀ (v1 v2 v3 : Int), ∀ (σ : St), fX3_friendsOf_L16 n v1 v2 v3 σ = some (r, σ') → JJ (wC ad cI cZ) Γ σ 16 [(0, .ref (ad 3)), (1, .int (iI v1)), (2, .int (iI v2)), (3, .int (iI v3))] [] := by
  induction n with
  | zero => intro _ _ _ _ hf; cases hf
  | succ n ih => intro v1 v2 v3 σ hf; exact tX3_friendsOf_B16 C hq ih v1 v2 v3 σ hf
set_option maxRecDepth 20000 in
theorem tX3_friendsOf_L0 {ad : Nat → Nat} {cI cZ : ClassId} {Γ : Cx} {r : Int} {σ' : St} (C : CX cI cZ rm_X3_friendsOf 4 Γ cX3_friendsOf RX3) (hq : RetI .int (wC ad cI cZ) Γ cX3_friendsOf r σ') (v1 : Int) (σ : St) (hf : fX3_friendsOf_L0 v1 σ = some (r, σ')) : JJ (wC ad cI cZ) Γ σ 0 [(0, .ref (ad 3)), (1, .int (iI v1))] [] := by
  unfold fX3_friendsOf_L0 at hf
  refine j_aload_n 0 C dX3_friendsOf_0 rfl ?_
  refine j_iload_n 1 C dX3_friendsOf_1 rfl ?_
  obtain ⟨a1, s1, hc, hf⟩ := bd_s hf
  refine j_cVi (q0 := 3) (ci := 3) (T := TX3) (N := 8) [.int (iI v1)] [] C (c_X3_has _ _ ad cI cZ _ _ _ _ hc) mf_X3_has wt_401 wt_386 wt_387 rfl rfl rfl ⟨rfl, rfl, by decide, by decide⟩ rfl (Nat.le_of_ble_eq_true rfl) dX3_friendsOf_2 ?_
  refine j_if_ne 10 C rfl dX3_friendsOf_5 (by decide) (fun h => ?_) (fun h => ?_)
  · have hf := ifn h hf
    refine j_iconst C dX3_friendsOf_10 ?_
    refine j_iload_n 1 C dX3_friendsOf_11 rfl ?_
    refine j_ishl C dX3_friendsOf_12 ?_
    refine j_istore_n [(2, .int (iI (bShl 1 v1))), (0, .ref (ad 3)), (1, .int (iI v1))] C dX3_friendsOf_13 (by decide) rfl ?_
    refine j_iconst C dX3_friendsOf_14 ?_
    refine j_istore_n [(3, .int (iI 0)), (2, .int (iI (bShl 1 v1))), (0, .ref (ad 3)), (1, .int (iI v1))] C dX3_friendsOf_15 (by decide) rfl ?_
    exact j_sub [2, 3, 1, 0] rfl (tX3_friendsOf_L16 C hq 1000 _ _ _ _ hf)
  · have hf := ifp h hf
    refine j_iconst C dX3_friendsOf_8 ?_
    exact retI hq hf dX3_friendsOf_9
theorem c_X3_friendsOf (l : Launch) (D : va_G) (ad : Nat → Nat) (cI cZ : ClassId) (σ : St) (v1 : Int) (r : Int) (σ' : St) (hf : fX3_friendsOf σ v1 = some (r, σ')) : McI l yX3_friendsOf cX3_friendsOf 4 .int rm_X3_friendsOf D (tyL cI cZ) (wC ad cI cZ) [.ref (ad 3), .int (iI v1)] σ r σ' := McI.mk mf_X3_friendsOf.2.2.2.2.2 (Nat.le_of_ble_eq_true rfl) (fun Γ C hq => j_sub [0, 1] rfl (tX3_friendsOf_L0 C hq v1 σ hf))
/-! java/lang/Integer.bitCount(I)I -/
def rm_J6_bitCount_0f7a4 : Room := { frames := 0, cells := 0, slots := 0, locals := 0 }
set_option maxRecDepth 20000 in
theorem tJ6_bitCount_0f7a4_L0 {ad : Nat → Nat} {cI cZ : ClassId} {Γ : Cx} {r : Int} {σ' : St} (C : CX cI cZ rm_J6_bitCount_0f7a4 1 Γ cJ6_bitCount_0f7a4 RJ6) (hq : RetI .int (wC ad cI cZ) Γ cJ6_bitCount_0f7a4 r σ') (v0 : Int) (σ : St) (hf : fJ6_bitCount_0f7a4_L0 v0 σ = some (r, σ')) : JJ (wC ad cI cZ) Γ σ 0 [(0, .int (iI v0))] [] := by
  unfold fJ6_bitCount_0f7a4_L0 at hf
  refine j_iload_n 0 C dJ6_bitCount_0f7a4_0 rfl ?_
  refine j_iload_n 0 C dJ6_bitCount_0f7a4_1 rfl ?_
  refine j_iconst C dJ6_bitCount_0f7a4_2 ?_
  refine j_iushr C dJ6_bitCount_0f7a4_3 ?_
  refine j_ldcw (n := 1431655765) C wt_589 (by decide +kernel) dJ6_bitCount_0f7a4_4 ?_
  refine j_iand C dJ6_bitCount_0f7a4_7 ?_
  refine j_isub C dJ6_bitCount_0f7a4_8 ?_
  refine j_istore_n [(0, .int (iI (v0 - (bAnd (bUshr v0 1) 1431655765))))] C dJ6_bitCount_0f7a4_9 (by decide) rfl ?_
  refine j_iload_n 0 C dJ6_bitCount_0f7a4_10 rfl ?_
  refine j_ldcw (n := 858993459) C wt_590 (by decide +kernel) dJ6_bitCount_0f7a4_11 ?_
  refine j_iand C dJ6_bitCount_0f7a4_14 ?_
  refine j_iload_n 0 C dJ6_bitCount_0f7a4_15 rfl ?_
  refine j_iconst C dJ6_bitCount_0f7a4_16 ?_
  refine j_iushr C dJ6_bitCount_0f7a4_17 ?_
  refine j_ldcw (n := 858993459) C wt_590 (by decide +kernel) dJ6_bitCount_0f7a4_18 ?_
  refine j_iand C dJ6_bitCount_0f7a4_21 ?_
  refine j_iadd C dJ6_bitCount_0f7a4_22 ?_
  refine j_istore_n [(0, .int (iI ((bAnd (v0 - (bAnd (bUshr v0 1) 1431655765)) 858993459) + (bAnd (bUshr (v0 - (bAnd (bUshr v0 1) 1431655765)) 2) 858993459))))] C dJ6_bitCount_0f7a4_23 (by decide) rfl ?_
  refine j_iload_n 0 C dJ6_bitCount_0f7a4_24 rfl ?_
  refine j_iload_n 0 C dJ6_bitCount_0f7a4_25 rfl ?_
  refine j_iconst C dJ6_bitCount_0f7a4_26 ?_
  refine j_iushr C dJ6_bitCount_0f7a4_27 ?_
  refine j_iadd C dJ6_bitCount_0f7a4_28 ?_
  refine j_ldcw (n := 252645135) C wt_591 (by decide +kernel) dJ6_bitCount_0f7a4_29 ?_
  refine j_iand C dJ6_bitCount_0f7a4_32 ?_
  refine j_istore_n [(0, .int (iI (bAnd (((bAnd (v0 - (bAnd (bUshr v0 1) 1431655765)) 858993459) + (bAnd (bUshr (v0 - (bAnd (bUshr v0 1) 1431655765)) 2) 858993459)) + (bUshr ((bAnd (v0 - (bAnd (bUshr v0 1) 1431655765)) 858993459) + (bAnd (bUshr (v0 - (bAnd (bUshr v0 1) 1431655765)) 2) 858993459)) 4)) 252645135)))] C dJ6_bitCount_0f7a4_33 (by decide) rfl ?_
  refine j_iload_n 0 C dJ6_bitCount_0f7a4_34 rfl ?_
  refine j_iload_n 0 C dJ6_bitCount_0f7a4_35 rfl ?_
  refine j_bipush C dJ6_bitCount_0f7a4_36 bp_8 ?_
  refine j_iushr C dJ6_bitCount_0f7a4_38 ?_
  refine j_iadd C dJ6_bitCount_0f7a4_39 ?_
  refine j_istore_n [(0, .int (iI ((bAnd (((bAnd (v0 - (bAnd (bUshr v0 1) 1431655765)) 858993459) + (bAnd (bUshr (v0 - (bAnd (bUshr v0 1) 1431655765)) 2) 858993459)) + (bUshr ((bAnd (v0 - (bAnd (bUshr v0 1) 1431655765)) 858993459) + (bAnd (bUshr (v0 - (bAnd (bUshr v0 1) 1431655765)) 2) 858993459)) 4)) 252645135) + (bUshr (bAnd (((bAnd (v0 - (bAnd (bUshr v0 1) 1431655765)) 858993459) + (bAnd (bUshr (v0 - (bAnd (bUshr v0 1) 1431655765)) 2) 858993459)) + (bUshr ((bAnd (v0 - (bAnd (bUshr v0 1) 1431655765)) 858993459) + (bAnd (bUshr (v0 - (bAnd (bUshr v0 1) 1431655765)) 2) 858993459)) 4)) 252645135) 8))))] C dJ6_bitCount_0f7a4_40 (by decide) rfl ?_
  refine j_iload_n 0 C dJ6_bitCount_0f7a4_41 rfl ?_
  refine j_iload_n 0 C dJ6_bitCount_0f7a4_42 rfl ?_
  refine j_bipush C dJ6_bitCount_0f7a4_43 bp_16 ?_
  refine j_iushr C dJ6_bitCount_0f7a4_45 ?_
  refine j_iadd C dJ6_bitCount_0f7a4_46 ?_
  refine j_istore_n [(0, .int (iI (((bAnd (((bAnd (v0 - (bAnd (bUshr v0 1) 1431655765)) 858993459) + (bAnd (bUshr (v0 - (bAnd (bUshr v0 1) 1431655765)) 2) 858993459)) + (bUshr ((bAnd (v0 - (bAnd (bUshr v0 1) 1431655765)) 858993459) + (bAnd (bUshr (v0 - (bAnd (bUshr v0 1) 1431655765)) 2) 858993459)) 4)) 252645135) + (bUshr (bAnd (((bAnd (v0 - (bAnd (bUshr v0 1) 1431655765)) 858993459) + (bAnd (bUshr (v0 - (bAnd (bUshr v0 1) 1431655765)) 2) 858993459)) + (bUshr ((bAnd (v0 - (bAnd (bUshr v0 1) 1431655765)) 858993459) + (bAnd (bUshr (v0 - (bAnd (bUshr v0 1) 1431655765)) 2) 858993459)) 4)) 252645135) 8)) + (bUshr ((bAnd (((bAnd (v0 - (bAnd (bUshr v0 1) 1431655765)) 858993459) + (bAnd (bUshr (v0 - (bAnd (bUshr v0 1) 1431655765)) 2) 858993459)) + (bUshr ((bAnd (v0 - (bAnd (bUshr v0 1) 1431655765)) 858993459) + (bAnd (bUshr (v0 - (bAnd (bUshr v0 1) 1431655765)) 2) 858993459)) 4)) 252645135) + (bUshr (bAnd (((bAnd (v0 - (bAnd (bUshr v0 1) 1431655765)) 858993459) + (bAnd (bUshr (v0 - (bAnd (bUshr v0 1) 1431655765)) 2) 858993459)) + (bUshr ((bAnd (v0 - (bAnd (bUshr v0 1) 1431655765)) 858993459) + (bAnd (bUshr (v0 - (bAnd (bUshr v0 1) 1431655765)) 2) 858993459)) 4)) 252645135) 8)) 16))))] C dJ6_bitCount_0f7a4_47 (by decide) rfl ?_
  refine j_iload_n 0 C dJ6_bitCount_0f7a4_48 rfl ?_
  refine j_bipush C dJ6_bitCount_0f7a4_49 bp_63 ?_
  refine j_iand C dJ6_bitCount_0f7a4_51 ?_
  exact retI hq hf dJ6_bitCount_0f7a4_52
theorem c_J6_bitCount_0f7a4 (l : Launch) (D : va_G) (ad : Nat → Nat) (cI cZ : ClassId) (σ : St) (v0 : Int) (r : Int) (σ' : St) (hf : fJ6_bitCount_0f7a4 σ v0 = some (r, σ')) : McI l yJ6_bitCount_0f7a4 cJ6_bitCount_0f7a4 1 .int rm_J6_bitCount_0f7a4 D (tyL cI cZ) (wC ad cI cZ) [.int (iI v0)] σ r σ' := McI.mk mf_J6_bitCount_0f7a4.2.2.2.2.2 (Nat.le_of_ble_eq_true rfl) (fun Γ C hq => j_sub [0] rfl (tJ6_bitCount_0f7a4_L0 C hq v0 σ hf))
/-! TermLodgings$People.wishesOf(I)I -/
def rm_X3_wishesOf : Room := { frames := 1, cells := 0, slots := 0, locals := 21 }
set_option maxRecDepth 20000 in
theorem tX3_wishesOf_L0 {ad : Nat → Nat} {cI cZ : ClassId} {Γ : Cx} {r : Int} {σ' : St} (C : CX cI cZ rm_X3_wishesOf 2 Γ cX3_wishesOf RX3) (hq : RetI .int (wC ad cI cZ) Γ cX3_wishesOf r σ') (v1 : Int) (σ : St) (hf : fX3_wishesOf_L0 v1 σ = some (r, σ')) : JJ (wC ad cI cZ) Γ σ 0 [(0, .ref (ad 3)), (1, .int (iI v1))] [] := by
  unfold fX3_wishesOf_L0 at hf
  refine j_aload_n 0 C dX3_wishesOf_0 rfl ?_
  refine j_iload_n 1 C dX3_wishesOf_1 rfl ?_
  obtain ⟨a1, s1, hc, hf⟩ := bd_s hf
  refine j_cVi (q0 := 3) (ci := 3) (T := TX3) (N := 8) [.int (iI v1)] [] C (c_X3_has _ _ ad cI cZ _ _ _ _ hc) mf_X3_has wt_401 wt_386 wt_387 rfl rfl rfl ⟨rfl, rfl, by decide, by decide⟩ rfl (Nat.le_of_ble_eq_true rfl) dX3_wishesOf_2 ?_
  refine j_if_eq 17 C rfl dX3_wishesOf_5 (by decide) (fun h => ?_) (fun h => ?_)
  · have hf := ifp h hf
    refine j_iconst C dX3_wishesOf_17 ?_
    exact retI hq hf dX3_wishesOf_18
  · have hf := ifn h hf
    refine j_aload_n 0 C dX3_wishesOf_8 rfl ?_
    refine gC_3_3 C wt_90 dX3_wishesOf_9 ?_
    refine j_iload_n 1 C dX3_wishesOf_12 rfl ?_
    obtain ⟨hI, hf⟩ := gI_s hf
    refine lC_7 C hI dX3_wishesOf_13 ?_
    refine j_goto 18 C dX3_wishesOf_14 (by decide) ?_
    exact retI hq hf dX3_wishesOf_18
theorem c_X3_wishesOf (l : Launch) (D : va_G) (ad : Nat → Nat) (cI cZ : ClassId) (σ : St) (v1 : Int) (r : Int) (σ' : St) (hf : fX3_wishesOf σ v1 = some (r, σ')) : McI l yX3_wishesOf cX3_wishesOf 2 .int rm_X3_wishesOf D (tyL cI cZ) (wC ad cI cZ) [.ref (ad 3), .int (iI v1)] σ r σ' := McI.mk mf_X3_wishesOf.2.2.2.2.2 (Nat.le_of_ble_eq_true rfl) (fun Γ C hq => j_sub [0, 1] rfl (tX3_wishesOf_L0 C hq v1 σ hf))
/-! TermLodgings$People.wishAt(II)I -/
def rm_X3_wishAt : Room := { frames := 1, cells := 0, slots := 0, locals := 21 }
set_option maxRecDepth 20000 in
theorem tX3_wishAt_L27 {ad : Nat → Nat} {cI cZ : ClassId} {Γ : Cx} {r : Int} {σ' : St} (C : CX cI cZ rm_X3_wishAt 4 Γ cX3_wishAt RX3) (hq : RetI .int (wC ad cI cZ) Γ cX3_wishAt r σ') (v1 : Int) (v2 : Int) (t0 : Int) (σ : St) (hf : fX3_wishAt_L27 v1 v2 t0 σ = some (r, σ')) : JJ (wC ad cI cZ) Γ σ 27 [(0, .ref (ad 3)), (1, .int (iI v1)), (2, .int (iI v2))] [.int (iI t0)] := by
  unfold fX3_wishAt_L27 at hf
  refine j_istore_n [(3, .int (iI t0)), (0, .ref (ad 3)), (1, .int (iI v1)), (2, .int (iI v2))] C dX3_wishAt_27 (by decide) rfl ?_
  refine j_iload_n 0 C dX3_wishAt_28 rfl ?_
  refine j_if_eq 46 C rfl dX3_wishAt_29 (by decide) (fun h => ?_) (fun h => ?_)
  · have hf := ifp h hf
    refine j_iconst C dX3_wishAt_46 ?_
    exact retI hq hf dX3_wishAt_47
  · have hf := ifn h hf
    refine j_aload_n 1 C dX3_wishAt_32 rfl ?_
    refine gC_3_4 C wt_92 dX3_wishAt_33 ?_
    refine j_iload_n 2 C dX3_wishAt_36 rfl ?_
    refine j_bipush C dX3_wishAt_37 bp_8 ?_
    refine j_imul C dX3_wishAt_39 ?_
    refine j_iload_n 3 C dX3_wishAt_40 rfl ?_
    refine j_iadd C dX3_wishAt_41 ?_
    obtain ⟨hI, hf⟩ := gI_s hf
    refine lC_8 C hI dX3_wishAt_42 ?_
    refine j_goto 47 C dX3_wishAt_43 (by decide) ?_
    exact retI hq hf dX3_wishAt_47
set_option maxRecDepth 20000 in
theorem tX3_wishAt_L0 {ad : Nat → Nat} {cI cZ : ClassId} {Γ : Cx} {r : Int} {σ' : St} (C : CX cI cZ rm_X3_wishAt 4 Γ cX3_wishAt RX3) (hq : RetI .int (wC ad cI cZ) Γ cX3_wishAt r σ') (v1 : Int) (v2 : Int) (σ : St) (hf : fX3_wishAt_L0 v1 v2 σ = some (r, σ')) : JJ (wC ad cI cZ) Γ σ 0 [(0, .ref (ad 3)), (1, .int (iI v1)), (2, .int (iI v2))] [] := by
  unfold fX3_wishAt_L0 at hf
  refine j_aload_n 0 C dX3_wishAt_0 rfl ?_
  refine j_iload_n 1 C dX3_wishAt_1 rfl ?_
  obtain ⟨a1, s1, hc, hf⟩ := bd_s hf
  refine j_cVi (q0 := 3) (ci := 3) (T := TX3) (N := 8) [.int (iI v1)] [] C (c_X3_has _ _ ad cI cZ _ _ _ _ hc) mf_X3_has wt_401 wt_386 wt_387 rfl rfl rfl ⟨rfl, rfl, by decide, by decide⟩ rfl (Nat.le_of_ble_eq_true rfl) dX3_wishAt_2 ?_
  refine j_if_eq 26 C rfl dX3_wishAt_5 (by decide) (fun h => ?_) (fun h => ?_)
  · have hf := ifp h hf
    refine j_iconst C dX3_wishAt_26 ?_
    exact j_sub [0, 1, 2] rfl (tX3_wishAt_L27 C hq _ _ _ _ hf)
  · have hf := ifn h hf
    refine j_iload_n 2 C dX3_wishAt_8 rfl ?_
    refine j_if_lt 26 C rfl dX3_wishAt_9 (by decide) (fun h => ?_) (fun h => ?_)
    · have hf := ifp h hf
      refine j_iconst C dX3_wishAt_26 ?_
      exact j_sub [0, 1, 2] rfl (tX3_wishAt_L27 C hq _ _ _ _ hf)
    · have hf := ifn h hf
      refine j_iload_n 2 C dX3_wishAt_12 rfl ?_
      refine j_aload_n 0 C dX3_wishAt_13 rfl ?_
      refine gC_3_3 C wt_90 dX3_wishAt_14 ?_
      refine j_iload_n 1 C dX3_wishAt_17 rfl ?_
      obtain ⟨hI, hf⟩ := gI_s hf
      refine lC_7 C hI dX3_wishAt_18 ?_
      refine j_icmp_ge 26 C rfl rfl dX3_wishAt_19 (by decide) (fun h => ?_) (fun h => ?_)
      · have hf := ifp h hf
        refine j_iconst C dX3_wishAt_26 ?_
        exact j_sub [0, 1, 2] rfl (tX3_wishAt_L27 C hq _ _ _ _ hf)
      · have hf := ifn h hf
        refine j_iconst C dX3_wishAt_22 ?_
        refine j_goto 27 C dX3_wishAt_23 (by decide) ?_
        exact j_sub [0, 1, 2] rfl (tX3_wishAt_L27 C hq _ _ _ _ hf)
theorem c_X3_wishAt (l : Launch) (D : va_G) (ad : Nat → Nat) (cI cZ : ClassId) (σ : St) (v1 : Int) (v2 : Int) (r : Int) (σ' : St) (hf : fX3_wishAt σ v1 v2 = some (r, σ')) : McI l yX3_wishAt cX3_wishAt 4 .int rm_X3_wishAt D (tyL cI cZ) (wC ad cI cZ) [.ref (ad 3), .int (iI v1), .int (iI v2)] σ r σ' := McI.mk mf_X3_wishAt.2.2.2.2.2 (Nat.le_of_ble_eq_true rfl) (fun Γ C hq => j_sub [0, 1, 2] rfl (tX3_wishAt_L0 C hq v1 v2 σ hf))
/-! TermLodgings$Rooms.houseOf(I)I -/
def rm_X5_houseOf : Room := { frames := 1, cells := 0, slots := 0, locals := 21 }
set_option maxRecDepth 20000 in
theorem tX5_houseOf_L0 {ad : Nat → Nat} {cI cZ : ClassId} {Γ : Cx} {r : Int} {σ' : St} (C : CX cI cZ rm_X5_houseOf 2 Γ cX5_houseOf RX5) (hq : RetI .int (wC ad cI cZ) Γ cX5_houseOf r σ') (v1 : Int) (σ : St) (hf : fX5_houseOf_L0 v1 σ = some (r, σ')) : JJ (wC ad cI cZ) Γ σ 0 [(0, .ref (ad 2)), (1, .int (iI v1))] [] := by
  unfold fX5_houseOf_L0 at hf
  refine j_aload_n 0 C dX5_houseOf_0 rfl ?_
  refine j_iload_n 1 C dX5_houseOf_1 rfl ?_
  obtain ⟨a1, s1, hc, hf⟩ := bd_s hf
  refine j_cVi (q0 := 2) (ci := 5) (T := TX5) (N := 7) [.int (iI v1)] [] C (c_X5_has _ _ ad cI cZ _ _ _ _ hc) mf_X5_has wt_439 wt_390 wt_391 rfl rfl rfl ⟨rfl, rfl, by decide, by decide⟩ rfl (Nat.le_of_ble_eq_true rfl) dX5_houseOf_2 ?_
  refine j_if_eq 17 C rfl dX5_houseOf_5 (by decide) (fun h => ?_) (fun h => ?_)
  · have hf := ifp h hf
    refine j_iconst C dX5_houseOf_17 ?_
    exact retI hq hf dX5_houseOf_18
  · have hf := ifn h hf
    refine j_aload_n 0 C dX5_houseOf_8 rfl ?_
    refine gC_2_3 C wt_44 dX5_houseOf_9 ?_
    refine j_iload_n 1 C dX5_houseOf_12 rfl ?_
    obtain ⟨hI, hf⟩ := gI_s hf
    refine lC_1 C hI dX5_houseOf_13 ?_
    refine j_goto 18 C dX5_houseOf_14 (by decide) ?_
    exact retI hq hf dX5_houseOf_18
theorem c_X5_houseOf (l : Launch) (D : va_G) (ad : Nat → Nat) (cI cZ : ClassId) (σ : St) (v1 : Int) (r : Int) (σ' : St) (hf : fX5_houseOf σ v1 = some (r, σ')) : McI l yX5_houseOf cX5_houseOf 2 .int rm_X5_houseOf D (tyL cI cZ) (wC ad cI cZ) [.ref (ad 2), .int (iI v1)] σ r σ' := McI.mk mf_X5_houseOf.2.2.2.2.2 (Nat.le_of_ble_eq_true rfl) (fun Γ C hq => j_sub [0, 1] rfl (tX5_houseOf_L0 C hq v1 σ hf))
/-! TermLodgings$Rooms.under(I)I -/
def rm_X5_under : Room := { frames := 0, cells := 0, slots := 0, locals := 0 }
set_option maxRecDepth 20000 in
theorem tX5_under_B4 {ad : Nat → Nat} {cI cZ : ClassId} {Γ : Cx} {r : Int} {σ' : St} (C : CX cI cZ rm_X5_under 4 Γ cX5_under RX5) (hq : RetI .int (wC ad cI cZ) Γ cX5_under r σ') {k4 : Int → Int → Int → St → Option (Int × St)} (hk4 : ∀ (v1 : Int) (v2 : Int) (v3 : Int) (σ : St), k4 v1 v2 v3 σ = some (r, σ') → JJ (wC ad cI cZ) Γ σ 4 [(0, .ref (ad 2)), (1, .int (iI v1)), (2, .int (iI v2)), (3, .int (iI v3))] []) (v1 : Int) (v2 : Int) (v3 : Int) (σ : St) (hf : fX5_under_B4 k4 v1 v2 v3 σ = some (r, σ')) : JJ (wC ad cI cZ) Γ σ 4 [(0, .ref (ad 2)), (1, .int (iI v1)), (2, .int (iI v2)), (3, .int (iI v3))] [] := by
  unfold fX5_under_B4 at hf
  refine j_iload_n 3 C dX5_under_4 rfl ?_
  refine j_aload_n 0 C dX5_under_5 rfl ?_
  refine gC_2_0 C wt_36 dX5_under_6 ?_
  refine j_icmp_ge 34 C rfl rfl dX5_under_9 (by decide) (fun h => ?_) (fun h => ?_)
  · have hf := ifp h hf
    refine j_iload_n 2 C dX5_under_34 rfl ?_
    exact retI hq hf dX5_under_35
  · have hf := ifn h hf
    refine j_aload_n 0 C dX5_under_12 rfl ?_
    refine gC_2_3 C wt_44 dX5_under_13 ?_
    refine j_iload_n 3 C dX5_under_16 rfl ?_
    obtain ⟨hI, hf⟩ := gI_s hf
    refine lC_1 C hI dX5_under_17 ?_
    refine j_iload_n 1 C dX5_under_18 rfl ?_
    refine j_icmp_ne 28 C rfl rfl dX5_under_19 (by decide) (fun h => ?_) (fun h => ?_)
    · have hf := ifn h hf
      refine j_iinc 3 [(3, .int (iI (v3 + 1))), (0, .ref (ad 2)), (1, .int (iI v1)), (2, .int (iI v2))] C dX5_under_28 (by decide) rfl rfl ?_
      refine j_goto 4 C dX5_under_31 (by decide) ?_
      exact j_sub [1, 2, 3, 0] rfl (hk4 _ _ _ _ hf)
    · have hf := ifp h hf
      refine j_iload_n 2 C dX5_under_22 rfl ?_
      refine j_iconst C dX5_under_23 ?_
      refine j_iload_n 3 C dX5_under_24 rfl ?_
      refine j_ishl C dX5_under_25 ?_
      refine j_ior C dX5_under_26 ?_
      refine j_istore_n [(2, .int (iI (bOr v2 (bShl 1 v3)))), (0, .ref (ad 2)), (1, .int (iI v1)), (3, .int (iI v3))] C dX5_under_27 (by decide) rfl ?_
      refine j_iinc 3 [(3, .int (iI (v3 + 1))), (2, .int (iI (bOr v2 (bShl 1 v3)))), (0, .ref (ad 2)), (1, .int (iI v1))] C dX5_under_28 (by decide) rfl rfl ?_
      refine j_goto 4 C dX5_under_31 (by decide) ?_
      exact j_sub [2, 3, 1, 0] rfl (hk4 _ _ _ _ hf)
theorem tX5_under_L4 {ad : Nat → Nat} {cI cZ : ClassId} {Γ : Cx} {r : Int} {σ' : St} (C : CX cI cZ rm_X5_under 4 Γ cX5_under RX5) (hq : RetI .int (wC ad cI cZ) Γ cX5_under r σ') (n : Nat) : ∀ (v1 v2 v3 : Int), ∀ (σ : St), fX5_under_L4 n v1 v2 v3 σ = some (r, σ') → JJ (wC ad cI cZ) Γ σ 4 [(0, .ref (ad 2)), (1, .int (iI v1)), (2, .int (iI v2)), (3, .int (iI v3))] [] := by
  induction n with
  | zero => intro _ _ _ _ hf; cases hf
  | succ n ih => intro v1 v2 v3 σ hf; exact tX5_under_B4 C hq ih v1 v2 v3 σ hf
set_option maxRecDepth 20000 in
theorem tX5_under_L0 {ad : Nat → Nat} {cI cZ : ClassId} {Γ : Cx} {r : Int} {σ' : St} (C : CX cI cZ rm_X5_under 4 Γ cX5_under RX5) (hq : RetI .int (wC ad cI cZ) Γ cX5_under r σ') (v1 : Int) (σ : St) (hf : fX5_under_L0 v1 σ = some (r, σ')) : JJ (wC ad cI cZ) Γ σ 0 [(0, .ref (ad 2)), (1, .int (iI v1))] [] := by
  unfold fX5_under_L0 at hf
  refine j_iconst C dX5_under_0 ?_
  refine j_istore_n [(2, .int (iI 0)), (0, .ref (ad 2)), (1, .int (iI v1))] C dX5_under_1 (by decide) rfl ?_
  refine j_iconst C dX5_under_2 ?_
  refine j_istore_n [(3, .int (iI 0)), (2, .int (iI 0)), (0, .ref (ad 2)), (1, .int (iI v1))] C dX5_under_3 (by decide) rfl ?_
  exact j_sub [2, 3, 1, 0] rfl (tX5_under_L4 C hq 1000 _ _ _ _ hf)
theorem c_X5_under (l : Launch) (D : va_G) (ad : Nat → Nat) (cI cZ : ClassId) (σ : St) (v1 : Int) (r : Int) (σ' : St) (hf : fX5_under σ v1 = some (r, σ')) : McI l yX5_under cX5_under 4 .int rm_X5_under D (tyL cI cZ) (wC ad cI cZ) [.ref (ad 2), .int (iI v1)] σ r σ' := McI.mk mf_X5_under.2.2.2.2.2 (Nat.le_of_ble_eq_true rfl) (fun Γ C hq => j_sub [0, 1] rfl (tX5_under_L0 C hq v1 σ hf))
/-! TermLodgings$Town.openTo(I)I -/
def rm_X7_openTo : Room := { frames := 1, cells := 0, slots := 0, locals := 21 }
set_option maxRecDepth 20000 in
theorem tX7_openTo_L0 {ad : Nat → Nat} {cI cZ : ClassId} {Γ : Cx} {r : Int} {σ' : St} (C : CX cI cZ rm_X7_openTo 2 Γ cX7_openTo RX7) (hq : RetI .int (wC ad cI cZ) Γ cX7_openTo r σ') (v1 : Int) (σ : St) (hf : fX7_openTo_L0 v1 σ = some (r, σ')) : JJ (wC ad cI cZ) Γ σ 0 [(0, .ref (ad 1)), (1, .int (iI v1))] [] := by
  unfold fX7_openTo_L0 at hf
  refine j_aload_n 0 C dX7_openTo_0 rfl ?_
  refine gC_1_1 C wt_161 dX7_openTo_1 ?_
  refine j_iload_n 1 C dX7_openTo_4 rfl ?_
  obtain ⟨a1, s1, hc, hf⟩ := bd_s hf
  refine j_cVi (q0 := 3) (ci := 3) (T := TX3) (N := 8) [.int (iI v1)] [] C (c_X3_has _ _ ad cI cZ _ _ _ _ hc) mf_X3_has wt_444 wt_386 wt_387 rfl rfl rfl ⟨rfl, rfl, by decide, by decide⟩ rfl (Nat.le_of_ble_eq_true rfl) dX7_openTo_5 ?_
  refine j_if_eq 30 C rfl dX7_openTo_8 (by decide) (fun h => ?_) (fun h => ?_)
  · have hf := ifp h hf
    refine j_iconst C dX7_openTo_30 ?_
    exact retI hq hf dX7_openTo_31
  · have hf := ifn h hf
    refine j_aload_n 0 C dX7_openTo_11 rfl ?_
    refine gC_1_3 C wt_167 dX7_openTo_12 ?_
    refine j_iload_n 1 C dX7_openTo_15 rfl ?_
    obtain ⟨hI, hf⟩ := gI_s hf
    refine lC_0 C hI dX7_openTo_16 ?_
    refine j_aload_n 0 C dX7_openTo_17 rfl ?_
    refine gC_1_0 C wt_155 dX7_openTo_18 ?_
    refine gC_2_2 C wt_43 dX7_openTo_21 ?_
    refine j_iconst C dX7_openTo_24 ?_
    refine j_ixor C dX7_openTo_25 ?_
    refine j_iand C dX7_openTo_26 ?_
    refine j_goto 31 C dX7_openTo_27 (by decide) ?_
    exact retI hq hf dX7_openTo_31
theorem c_X7_openTo (l : Launch) (D : va_G) (ad : Nat → Nat) (cI cZ : ClassId) (σ : St) (v1 : Int) (r : Int) (σ' : St) (hf : fX7_openTo σ v1 = some (r, σ')) : McI l yX7_openTo cX7_openTo 2 .int rm_X7_openTo D (tyL cI cZ) (wC ad cI cZ) [.ref (ad 1), .int (iI v1)] σ r σ' := McI.mk mf_X7_openTo.2.2.2.2.2 (Nat.le_of_ble_eq_true rfl) (fun Γ C hq => j_sub [0, 1] rfl (tX7_openTo_L0 C hq v1 σ hf))
/-! TermLodgings.leastIn(I)I -/
def rm_X10_leastIn : Room := { frames := 1, cells := 0, slots := 0, locals := 21 }
set_option maxRecDepth 20000 in
theorem tX10_leastIn_B2 {ad : Nat → Nat} {cI cZ : ClassId} {Γ : Cx} {r : Int} {σ' : St} (C : CX cI cZ rm_X10_leastIn 2 Γ cX10_leastIn RX10) (hq : RetI .int (wC ad cI cZ) Γ cX10_leastIn r σ') {k2 : Int → Int → St → Option (Int × St)} (hk2 : ∀ (v0 : Int) (v1 : Int) (σ : St), k2 v0 v1 σ = some (r, σ') → JJ (wC ad cI cZ) Γ σ 2 [(0, .int (iI v0)), (1, .int (iI v1))] []) (v0 : Int) (v1 : Int) (σ : St) (hf : fX10_leastIn_B2 k2 v0 v1 σ = some (r, σ')) : JJ (wC ad cI cZ) Γ σ 2 [(0, .int (iI v0)), (1, .int (iI v1))] [] := by
  unfold fX10_leastIn_B2 at hf
  refine j_iload_n 1 C dX10_leastIn_2 rfl ?_
  refine j_bipush C dX10_leastIn_3 bp_32 ?_
  refine j_icmp_ge 24 C rfl wl_32 dX10_leastIn_5 (by decide) (fun h => ?_) (fun h => ?_)
  · have hf := ifp h hf
    refine j_iconst C dX10_leastIn_24 ?_
    exact retI hq hf dX10_leastIn_25
  · have hf := ifn h hf
    refine j_iload_n 0 C dX10_leastIn_8 rfl ?_
    refine j_iload_n 1 C dX10_leastIn_9 rfl ?_
    obtain ⟨a1, s1, hc, hf⟩ := bd_s hf
    refine j_cSi [.int (iI v0), .int (iI v1)] [] C (c_X10_inBits _ _ ad cI cZ _ _ _ _ _ hc) mf_X10_inBits wt_617 wt_451 rfl ⟨rfl, rfl, by decide, by decide⟩ rfl (Nat.le_of_ble_eq_true rfl) dX10_leastIn_10 ?_
    refine j_if_eq 18 C rfl dX10_leastIn_13 (by decide) (fun h => ?_) (fun h => ?_)
    · have hf := ifp h hf
      refine j_iinc 1 [(1, .int (iI (v1 + 1))), (0, .int (iI v0))] C dX10_leastIn_18 (by decide) rfl rfl ?_
      refine j_goto 2 C dX10_leastIn_21 (by decide) ?_
      exact j_sub [1, 0] rfl (hk2 _ _ _ hf)
    · have hf := ifn h hf
      refine j_iload_n 1 C dX10_leastIn_16 rfl ?_
      exact retI hq hf dX10_leastIn_17
theorem tX10_leastIn_L2 {ad : Nat → Nat} {cI cZ : ClassId} {Γ : Cx} {r : Int} {σ' : St} (C : CX cI cZ rm_X10_leastIn 2 Γ cX10_leastIn RX10) (hq : RetI .int (wC ad cI cZ) Γ cX10_leastIn r σ') (n : Nat) : ∀ (v0 v1 : Int), ∀ (σ : St), fX10_leastIn_L2 n v0 v1 σ = some (r, σ') → JJ (wC ad cI cZ) Γ σ 2 [(0, .int (iI v0)), (1, .int (iI v1))] [] := by
  induction n with
  | zero => intro _ _ _ hf; cases hf
  | succ n ih => intro v0 v1 σ hf; exact tX10_leastIn_B2 C hq ih v0 v1 σ hf
set_option maxRecDepth 20000 in
theorem tX10_leastIn_L0 {ad : Nat → Nat} {cI cZ : ClassId} {Γ : Cx} {r : Int} {σ' : St} (C : CX cI cZ rm_X10_leastIn 2 Γ cX10_leastIn RX10) (hq : RetI .int (wC ad cI cZ) Γ cX10_leastIn r σ') (v0 : Int) (σ : St) (hf : fX10_leastIn_L0 v0 σ = some (r, σ')) : JJ (wC ad cI cZ) Γ σ 0 [(0, .int (iI v0))] [] := by
  unfold fX10_leastIn_L0 at hf
  refine j_iconst C dX10_leastIn_0 ?_
  refine j_istore_n [(1, .int (iI 0)), (0, .int (iI v0))] C dX10_leastIn_1 (by decide) rfl ?_
  exact j_sub [1, 0] rfl (tX10_leastIn_L2 C hq 1000 _ _ _ hf)
theorem c_X10_leastIn (l : Launch) (D : va_G) (ad : Nat → Nat) (cI cZ : ClassId) (σ : St) (v0 : Int) (r : Int) (σ' : St) (hf : fX10_leastIn σ v0 = some (r, σ')) : McI l yX10_leastIn cX10_leastIn 2 .int rm_X10_leastIn D (tyL cI cZ) (wC ad cI cZ) [.int (iI v0)] σ r σ' := McI.mk mf_X10_leastIn.2.2.2.2.2 (Nat.le_of_ble_eq_true rfl) (fun Γ C hq => j_sub [0] rfl (tX10_leastIn_L0 C hq v0 σ hf))
/-! TermLodgings$Dealing.pickAmong(II)Z -/
def rm_X0_pickAmong : Room := { frames := 2, cells := 0, slots := 0, locals := 42 }
set_option maxRecDepth 20000 in
theorem tX0_pickAmong_B5 {ad : Nat → Nat} {cI cZ : ClassId} {Γ : Cx} {r : Int} {σ' : St} (C : CX cI cZ rm_X0_pickAmong 6 Γ cX0_pickAmong RX0) (hq : RetI .boolean (wC ad cI cZ) Γ cX0_pickAmong r σ') {k5 : Int → Int → Int → St → Option (Int × St)} (hk5 : ∀ (v2 : Int) (v3 : Int) (v4 : Int) (σ : St), k5 v2 v3 v4 σ = some (r, σ') → JJ (wC ad cI cZ) Γ σ 5 [(0, .ref (ad 6)), (2, .int (iI v2)), (3, .int (iI v3)), (4, .int (iI v4))] []) (v2 : Int) (v3 : Int) (v4 : Int) (σ : St) (hf : fX0_pickAmong_B5 k5 v2 v3 v4 σ = some (r, σ')) : JJ (wC ad cI cZ) Γ σ 5 [(0, .ref (ad 6)), (2, .int (iI v2)), (3, .int (iI v3)), (4, .int (iI v4))] [] := by
  unfold fX0_pickAmong_B5 at hf
  refine j_iload 3 C dX0_pickAmong_5 rfl ?_
  refine j_aload_n 0 C dX0_pickAmong_7 rfl ?_
  refine gC_6_1 C wt_199 dX0_pickAmong_8 ?_
  refine gC_3_0 C wt_79 dX0_pickAmong_11 ?_
  refine j_icmp_ge 74 C rfl rfl dX0_pickAmong_14 (by decide) (fun h => ?_) (fun h => ?_)
  · have hf := ifp h hf
    refine j_iconst C dX0_pickAmong_74 ?_
    exact retZc hq isB_1 hf dX0_pickAmong_75
  · have hf := ifn h hf
    refine j_iload_n 1 C dX0_pickAmong_17 rfl ?_
    refine j_iload 3 C dX0_pickAmong_18 rfl ?_
    obtain ⟨a1, s1, hc, hf⟩ := bd_s hf
    refine j_cSNi (host := "TermLodgings") [.int (iI v2), .int (iI v4)] [] C (c_X10_inBits _ _ ad cI cZ _ _ _ _ _ hc) mf_X10_inBits (List.mem_of_getElem? (i := 8) rfl) wt_451 rfl ⟨rfl, rfl, by decide, by decide⟩ rfl (Nat.le_of_ble_eq_true rfl) dX0_pickAmong_20 ?_
    refine j_if_eq 68 C rfl dX0_pickAmong_23 (by decide) (fun h => ?_) (fun h => ?_)
    · have hf := ifp h hf
      refine j_iinc 3 [(4, .int (iI (v4 + 1))), (0, .ref (ad 6)), (2, .int (iI v2)), (3, .int (iI v3))] C dX0_pickAmong_68 (by decide) rfl rfl ?_
      refine j_goto 5 C dX0_pickAmong_71 (by decide) ?_
      exact j_sub [1, 2, 3, 0] rfl (hk5 _ _ _ _ hf)
    · have hf := ifn h hf
      refine j_iload_n 2 C dX0_pickAmong_26 rfl ?_
      refine j_aload_n 0 C dX0_pickAmong_27 rfl ?_
      refine gC_6_0 C wt_198 dX0_pickAmong_28 ?_
      refine j_iload 3 C dX0_pickAmong_31 rfl ?_
      obtain ⟨a2, s2, hc, hf⟩ := bd_s hf
      refine j_cVi (q0 := 1) (ci := 7) (T := TX7) (N := 4) [.int (iI v4)] [.int (iI v3)] C (c_X7_openTo _ _ ad cI cZ _ _ _ _ hc) mf_X7_openTo wt_610 wt_611 wt_612 rfl rfl rfl ⟨rfl, rfl, by decide, by decide⟩ rfl (Nat.le_of_ble_eq_true rfl) dX0_pickAmong_33 ?_
      refine j_iand C dX0_pickAmong_36 ?_
      obtain ⟨a3, s3, hc, hf⟩ := bd_s hf
      refine j_cSNi (host := "TermLodgings") [.int (iI (bAnd v3 a2))] [] C (c_X10_leastIn _ _ ad cI cZ _ _ _ _ hc) mf_X10_leastIn (List.mem_of_getElem? (i := 9) rfl) wt_615 rfl ⟨rfl, rfl, by decide, by decide⟩ rfl (Nat.le_of_ble_eq_true rfl) dX0_pickAmong_37 ?_
      refine j_istore [(5, .int (iI a3)), (0, .ref (ad 6)), (2, .int (iI v2)), (3, .int (iI v3)), (4, .int (iI v4))] C dX0_pickAmong_40 (by decide) rfl ?_
      refine j_iload 0 C dX0_pickAmong_42 rfl ?_
      refine j_iconst C dX0_pickAmong_44 ?_
      refine j_icmp_ne 50 C rfl wl_m1 dX0_pickAmong_45 (by decide) (fun h => ?_) (fun h => ?_)
      · have hf := ifn h hf
        refine j_aload_n 1 C dX0_pickAmong_50 rfl ?_
        refine gC_6_3 C wt_201 dX0_pickAmong_51 ?_
        refine j_iload 4 C dX0_pickAmong_54 rfl ?_
        refine j_iload 0 C dX0_pickAmong_56 rfl ?_
        obtain ⟨hI, hf⟩ := gI_s hf
        refine tC_17 C hI dX0_pickAmong_58 ?_
        refine j_iload_n 3 C dX0_pickAmong_59 rfl ?_
        refine j_iconst C dX0_pickAmong_60 ?_
        refine j_iload 0 C dX0_pickAmong_61 rfl ?_
        refine j_ishl C dX0_pickAmong_63 ?_
        refine j_iconst C dX0_pickAmong_64 ?_
        refine j_ixor C dX0_pickAmong_65 ?_
        refine j_iand C dX0_pickAmong_66 ?_
        refine j_istore_n [(3, .int (iI (bAnd v3 (bXor (bShl 1 a3) (-1))))), (5, .int (iI a3)), (0, .ref (ad 6)), (2, .int (iI v2)), (4, .int (iI v4))] C dX0_pickAmong_67 (by decide) rfl ?_
        refine j_iinc 4 [(4, .int (iI (v4 + 1))), (3, .int (iI (bAnd v3 (bXor (bShl 1 a3) (-1))))), (5, .int (iI a3)), (0, .ref (ad 6)), (2, .int (iI v2))] C dX0_pickAmong_68 (by decide) rfl rfl ?_
        refine j_goto 5 C dX0_pickAmong_71 (by decide) ?_
        exact j_sub [3, 4, 1, 0] rfl (hk5 _ _ _ _ hf)
      · have hf := ifp h hf
        refine j_iconst C dX0_pickAmong_48 ?_
        exact retZc hq isB_0 hf dX0_pickAmong_49
theorem tX0_pickAmong_L5 {ad : Nat → Nat} {cI cZ : ClassId} {Γ : Cx} {r : Int} {σ' : St} (C : CX cI cZ rm_X0_pickAmong 6 Γ cX0_pickAmong RX0) (hq : RetI .boolean (wC ad cI cZ) Γ cX0_pickAmong r σ') (n : Nat) : ∀ (v2 v3 v4 : Int), ∀ (σ : St), fX0_pickAmong_L5 n v2 v3 v4 σ = some (r, σ') → JJ (wC ad cI cZ) Γ σ 5 [(0, .ref (ad 6)), (2, .int (iI v2)), (3, .int (iI v3)), (4, .int (iI v4))] [] := by
  induction n with
  | zero => intro _ _ _ _ hf; cases hf
  | succ n ih => intro v2 v3 v4 σ hf; exact tX0_pickAmong_B5 C hq ih v2 v3 v4 σ hf
set_option maxRecDepth 20000 in
theorem tX0_pickAmong_L0 {ad : Nat → Nat} {cI cZ : ClassId} {Γ : Cx} {r : Int} {σ' : St} (C : CX cI cZ rm_X0_pickAmong 6 Γ cX0_pickAmong RX0) (hq : RetI .boolean (wC ad cI cZ) Γ cX0_pickAmong r σ') (v1 : Int) (v2 : Int) (σ : St) (hf : fX0_pickAmong_L0 v1 v2 σ = some (r, σ')) : JJ (wC ad cI cZ) Γ σ 0 [(0, .ref (ad 6)), (1, .int (iI v1)), (2, .int (iI v2))] [] := by
  unfold fX0_pickAmong_L0 at hf
  refine j_iload_n 1 C dX0_pickAmong_0 rfl ?_
  refine j_istore_n [(3, .int (iI v1)), (0, .ref (ad 6)), (1, .int (iI v1)), (2, .int (iI v2))] C dX0_pickAmong_1 (by decide) rfl ?_
  refine j_iconst C dX0_pickAmong_2 ?_
  refine j_istore [(4, .int (iI 0)), (3, .int (iI v1)), (0, .ref (ad 6)), (1, .int (iI v1)), (2, .int (iI v2))] C dX0_pickAmong_3 (by decide) rfl ?_
  exact j_sub [2, 4, 1, 0] rfl (tX0_pickAmong_L5 C hq 1000 _ _ _ _ hf)
theorem c_X0_pickAmong (l : Launch) (D : va_G) (ad : Nat → Nat) (cI cZ : ClassId) (σ : St) (v1 : Int) (v2 : Int) (r : Int) (σ' : St) (hf : fX0_pickAmong σ v1 v2 = some (r, σ')) : McI l yX0_pickAmong cX0_pickAmong 6 .boolean rm_X0_pickAmong D (tyL cI cZ) (wC ad cI cZ) [.ref (ad 6), .int (iI v1), .int (iI v2)] σ r σ' := McI.mk mf_X0_pickAmong.2.2.2.2.2 (Nat.le_of_ble_eq_true rfl) (fun Γ C hq => j_sub [0, 1, 2] rfl (tX0_pickAmong_L0 C hq v1 v2 σ hf))
/-! TermLodgings$Town.settle(II)V -/
def rm_X7_settle : Room := { frames := 1, cells := 0, slots := 0, locals := 21 }
set_option maxRecDepth 20000 in
theorem tX7_settle_L0 {ad : Nat → Nat} {cI cZ : ClassId} {Γ : Cx} {σ' : St} (C : CX cI cZ rm_X7_settle 3 Γ cX7_settle RX7) (hq : RetV (wC ad cI cZ) Γ cX7_settle σ') (v1 : Int) (v2 : Int) (σ : St) (hf : fX7_settle_L0 v1 v2 σ = some σ') : JJ (wC ad cI cZ) Γ σ 0 [(0, .ref (ad 1)), (1, .int (iI v1)), (2, .int (iI v2))] [] := by
  unfold fX7_settle_L0 at hf
  refine j_aload_n 0 C dX7_settle_0 rfl ?_
  refine gC_1_1 C wt_161 dX7_settle_1 ?_
  refine j_iload_n 1 C dX7_settle_4 rfl ?_
  obtain ⟨a1, s1, hc, hf⟩ := bd_s hf
  refine j_cVi (q0 := 3) (ci := 3) (T := TX3) (N := 8) [.int (iI v1)] [] C (c_X3_has _ _ ad cI cZ _ _ _ _ hc) mf_X3_has wt_444 wt_386 wt_387 rfl rfl rfl ⟨rfl, rfl, by decide, by decide⟩ rfl (Nat.le_of_ble_eq_true rfl) dX7_settle_5 ?_
  refine j_if_eq 57 C rfl dX7_settle_8 (by decide) (fun h => ?_) (fun h => ?_)
  · have hf := ifp h hf
    exact retV hq hf dX7_settle_57
  · have hf := ifn h hf
    refine j_aload_n 0 C dX7_settle_11 rfl ?_
    refine gC_1_0 C wt_155 dX7_settle_12 ?_
    refine j_iload_n 2 C dX7_settle_15 rfl ?_
    obtain ⟨a2, s2, hc, hf⟩ := bd_s hf
    refine j_cVi (q0 := 2) (ci := 5) (T := TX5) (N := 7) [.int (iI v2)] [] C (c_X5_has _ _ ad cI cZ _ _ _ _ hc) mf_X5_has wt_445 wt_390 wt_391 rfl rfl rfl ⟨rfl, rfl, by decide, by decide⟩ rfl (Nat.le_of_ble_eq_true rfl) dX7_settle_16 ?_
    refine j_if_eq 57 C rfl dX7_settle_19 (by decide) (fun h => ?_) (fun h => ?_)
    · have hf := ifp h hf
      exact retV hq hf dX7_settle_57
    · have hf := ifn h hf
      refine j_aload_n 0 C dX7_settle_22 rfl ?_
      refine gC_1_1 C wt_161 dX7_settle_23 ?_
      refine gC_3_5 C wt_94 dX7_settle_26 ?_
      refine j_iload_n 1 C dX7_settle_29 rfl ?_
      refine j_iload_n 2 C dX7_settle_30 rfl ?_
      obtain ⟨hI, hf⟩ := gI_s hf
      refine tC_9 C hI dX7_settle_31 ?_
      refine j_aload_n 0 C dX7_settle_32 rfl ?_
      refine gC_1_0 C wt_155 dX7_settle_33 ?_
      refine gC_2_6 C wt_54 dX7_settle_36 ?_
      refine j_iload_n 2 C dX7_settle_39 rfl ?_
      refine j_iload_n 1 C dX7_settle_40 rfl ?_
      obtain ⟨hI, hf⟩ := gI_s hf
      refine tC_4 C hI dX7_settle_41 ?_
      refine j_aload_n 0 C dX7_settle_42 rfl ?_
      refine gC_1_0 C wt_155 dX7_settle_43 ?_
      refine j_dup C rfl dX7_settle_46 ?_
      refine gC_2_2 C wt_43 dX7_settle_47 ?_
      refine j_iconst C dX7_settle_50 ?_
      refine j_iload_n 2 C dX7_settle_51 rfl ?_
      refine j_ishl C dX7_settle_52 ?_
      refine j_ior C dX7_settle_53 ?_
      refine pC_2_2 C wt_43 dX7_settle_54 ?_
      exact retV hq hf dX7_settle_57
theorem c_X7_settle (l : Launch) (D : va_G) (ad : Nat → Nat) (cI cZ : ClassId) (σ : St) (v1 : Int) (v2 : Int) (σ' : St) (hf : fX7_settle σ v1 v2 = some σ') : McV l yX7_settle cX7_settle 3 rm_X7_settle D (tyL cI cZ) (wC ad cI cZ) [.ref (ad 1), .int (iI v1), .int (iI v2)] σ σ' := McV.mk mf_X7_settle.2.2.2.2.2 (Nat.le_of_ble_eq_true rfl) (fun Γ C hq => j_sub [0, 1, 2] rfl (tX7_settle_L0 C hq v1 v2 σ hf))
