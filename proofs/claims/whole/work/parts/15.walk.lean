/-! TermLodgingsModel.wish(II)I -/
def rm_X11_wish : Room := { frames := 2, cells := 0, slots := 0, locals := 46 }
set_option maxRecDepth 20000 in
theorem tX11_wish_L0 {ad : Nat → Nat} {cI cZ : ClassId} {Γ : Cx} {r : Int} {σ' : St} (C : CX cI cZ rm_X11_wish 3 Γ cX11_wish RX11) (hq : RetI .int (wR ad cI cZ) Γ cX11_wish r σ') (v1 : Int) (v2 : Int) (σ : St) (hf : fX11_wish_L0 v1 v2 σ = some (r, σ')) : JJ (wR ad cI cZ) Γ σ 0 [(0, .ref (ad 0)), (1, .int (iI v1)), (2, .int (iI v2))] [] := by
  unfold fX11_wish_L0 at hf
  refine j_aload_n 0 C dX11_wish_0 rfl ?_
  refine j_iload_n 1 C dX11_wish_1 rfl ?_
  obtain ⟨a1, s1, hc, hf⟩ := bd_s hf
  refine j_cVi (q0 := 0) (ci := 11) (T := TX11) (N := 32) [.int (iI v1)] [] C (c_X11_isOne _ _ ad cI cZ _ _ _ _ hc) mf_X11_isOne wt_951 wt_953 ws_31 rfl rfl rfl ⟨rfl, rfl, by decide, by decide⟩ rfl (Nat.le_of_ble_eq_true rfl) dX11_wish_2 ?_
  refine j_if_eq 27 C rfl dX11_wish_5 (by decide) (fun h => ?_) (fun h => ?_)
  · have hf := ifp h hf
    refine j_bipush C dX11_wish_27 bp_m2 ?_
    exact retI hq hf dX11_wish_29
  · have hf := ifn h hf
    refine j_aload_n 0 C dX11_wish_8 rfl ?_
    refine j_iload_n 2 C dX11_wish_9 rfl ?_
    obtain ⟨a2, s2, hc, hf⟩ := bd_s hf
    refine j_cVi (q0 := 0) (ci := 11) (T := TX11) (N := 32) [.int (iI v2)] [] C (c_X11_isRoom _ _ ad cI cZ _ _ _ _ hc) mf_X11_isRoom wt_955 wt_957 ws_32 rfl rfl rfl ⟨rfl, rfl, by decide, by decide⟩ rfl (Nat.le_of_ble_eq_true rfl) dX11_wish_10 ?_
    refine j_if_eq 27 C rfl dX11_wish_13 (by decide) (fun h => ?_) (fun h => ?_)
    · have hf := ifp h hf
      refine j_bipush C dX11_wish_27 bp_m2 ?_
      exact retI hq hf dX11_wish_29
    · have hf := ifn h hf
      refine j_aload_n 0 C dX11_wish_16 rfl ?_
      refine j_iload_n 1 C dX11_wish_17 rfl ?_
      refine j_iload_n 2 C dX11_wish_18 rfl ?_
      obtain ⟨a3, s3, hc, hf⟩ := bd_s hf
      refine j_cVi (q0 := 0) (ci := 11) (T := TX11) (N := 32) [.int (iI v1), .int (iI v2)] [] C (c_X11_rankOf _ _ ad cI cZ _ _ _ _ _ hc) mf_X11_rankOf wt_959 wt_961 ws_33 rfl rfl rfl ⟨rfl, rfl, by decide, by decide⟩ rfl (Nat.le_of_ble_eq_true rfl) dX11_wish_19 ?_
      refine j_bipush C dX11_wish_22 bp_8 ?_
      refine j_icmp_ge 30 C rfl wl_8 dX11_wish_24 (by decide) (fun h => ?_) (fun h => ?_)
      · have hf := ifp h hf
        refine j_aload_n 0 C dX11_wish_30 rfl ?_
        refine gR_0_8 C wt_842 dX11_wish_31 ?_
        refine j_iload_n 1 C dX11_wish_34 rfl ?_
        obtain ⟨hI, hf⟩ := gI_s hf
        refine lR_5 C hI dX11_wish_35 ?_
        refine j_bipush C dX11_wish_36 bp_8 ?_
        refine j_icmp_ne 44 C rfl wl_8 dX11_wish_38 (by decide) (fun h => ?_) (fun h => ?_)
        · have hf := ifn h hf
          refine j_aload_n 0 C dX11_wish_44 rfl ?_
          refine gR_0_9 C wt_843 dX11_wish_45 ?_
          refine j_bipush C dX11_wish_48 bp_8 ?_
          refine j_iload_n 1 C dX11_wish_50 rfl ?_
          refine j_imul C dX11_wish_51 ?_
          refine j_aload_n 0 C dX11_wish_52 rfl ?_
          refine gR_0_8 C wt_842 dX11_wish_53 ?_
          refine j_iload_n 1 C dX11_wish_56 rfl ?_
          obtain ⟨hI, hf⟩ := gI_s hf
          refine lR_5 C hI dX11_wish_57 ?_
          refine j_iadd C dX11_wish_58 ?_
          refine j_iload_n 2 C dX11_wish_59 rfl ?_
          obtain ⟨hI, hf⟩ := gI_s hf
          refine tR_6 C hI dX11_wish_60 ?_
          refine j_aload_n 0 C dX11_wish_61 rfl ?_
          refine gR_0_8 C wt_842 dX11_wish_62 ?_
          refine j_iload_n 1 C dX11_wish_65 rfl ?_
          refine j_dup2 C rfl rfl dX11_wish_66 ?_
          obtain ⟨hI, hf⟩ := gI_s hf
          refine lR_5 C hI dX11_wish_67 ?_
          refine j_iconst C dX11_wish_68 ?_
          refine j_iadd C dX11_wish_69 ?_
          obtain ⟨hI, hf⟩ := gI_s hf
          refine tR_5 C hI dX11_wish_70 ?_
          refine j_aload_n 0 C dX11_wish_71 rfl ?_
          refine gR_0_8 C wt_842 dX11_wish_72 ?_
          refine j_iload_n 1 C dX11_wish_75 rfl ?_
          obtain ⟨hI, hf⟩ := gI_s hf
          refine lR_5 C hI dX11_wish_76 ?_
          exact retI hq hf dX11_wish_77
        · have hf := ifp h hf
          refine j_bipush C dX11_wish_41 bp_m4 ?_
          exact retI hq hf dX11_wish_43
      · have hf := ifn h hf
        refine j_bipush C dX11_wish_27 bp_m2 ?_
        exact retI hq hf dX11_wish_29
theorem c_X11_wish (l : Launch) (D : va_G) (ad : Nat → Nat) (cI cZ : ClassId) (σ : St) (v1 : Int) (v2 : Int) (r : Int) (σ' : St) (hf : fX11_wish σ v1 v2 = some (r, σ')) : McI l yX11_wish cX11_wish 3 .int rm_X11_wish D (tyL cI cZ) (wR ad cI cZ) [.ref (ad 0), .int (iI v1), .int (iI v2)] σ r σ' := McI.mk mf_X11_wish.2.2.2.2.2 (Nat.le_of_ble_eq_true rfl) (fun Γ C hq => j_sub [0, 1, 2] rfl (tX11_wish_L0 C hq v1 v2 σ hf))
/-! TermLodgingsModel.content(I)I -/
def rm_X11_content : Room := { frames := 2, cells := 0, slots := 0, locals := 46 }
set_option maxRecDepth 20000 in
theorem tX11_content_L0 {ad : Nat → Nat} {cI cZ : ClassId} {Γ : Cx} {r : Int} {σ' : St} (C : CX cI cZ rm_X11_content 3 Γ cX11_content RX11) (hq : RetI .int (wR ad cI cZ) Γ cX11_content r σ') (v1 : Int) (σ : St) (hf : fX11_content_L0 v1 σ = some (r, σ')) : JJ (wR ad cI cZ) Γ σ 0 [(0, .ref (ad 0)), (1, .int (iI v1))] [] := by
  unfold fX11_content_L0 at hf
  refine j_aload_n 0 C dX11_content_0 rfl ?_
  refine j_iload_n 1 C dX11_content_1 rfl ?_
  obtain ⟨a1, s1, hc, hf⟩ := bd_s hf
  refine j_cVi (q0 := 0) (ci := 11) (T := TX11) (N := 32) [.int (iI v1)] [] C (c_X11_isOne _ _ ad cI cZ _ _ _ _ hc) mf_X11_isOne wt_951 wt_953 ws_31 rfl rfl rfl ⟨rfl, rfl, by decide, by decide⟩ rfl (Nat.le_of_ble_eq_true rfl) dX11_content_2 ?_
  refine j_if_ne 11 C rfl dX11_content_5 (by decide) (fun h => ?_) (fun h => ?_)
  · have hf := ifn h hf
    refine j_aload_n 0 C dX11_content_11 rfl ?_
    refine gR_0_8 C wt_842 dX11_content_12 ?_
    refine j_iload_n 1 C dX11_content_15 rfl ?_
    obtain ⟨hI, hf⟩ := gI_s hf
    refine lR_5 C hI dX11_content_16 ?_
    refine j_istore_n [(2, .int (iI (s1.2 5 (ix v1)))), (0, .ref (ad 0)), (1, .int (iI v1))] C dX11_content_17 (by decide) rfl ?_
    refine j_aload_n 1 C dX11_content_18 rfl ?_
    refine gR_0_8 C wt_842 dX11_content_19 ?_
    refine j_iload_n 2 C dX11_content_22 rfl ?_
    refine j_iconst C dX11_content_23 ?_
    obtain ⟨hI, hf⟩ := gI_s hf
    refine tR_5 C hI dX11_content_24 ?_
    refine j_iload_n 0 C dX11_content_25 rfl ?_
    exact retI hq hf dX11_content_26
  · have hf := ifp h hf
    refine j_bipush C dX11_content_8 bp_m2 ?_
    exact retI hq hf dX11_content_10
theorem c_X11_content (l : Launch) (D : va_G) (ad : Nat → Nat) (cI cZ : ClassId) (σ : St) (v1 : Int) (r : Int) (σ' : St) (hf : fX11_content σ v1 = some (r, σ')) : McI l yX11_content cX11_content 3 .int rm_X11_content D (tyL cI cZ) (wR ad cI cZ) [.ref (ad 0), .int (iI v1)] σ r σ' := McI.mk mf_X11_content.2.2.2.2.2 (Nat.le_of_ble_eq_true rfl) (fun Γ C hq => j_sub [0, 1] rfl (tX11_content_L0 C hq v1 σ hf))
/-! TermLodgingsModel.about(II)I -/
def rm_X11_about : Room := { frames := 2, cells := 0, slots := 0, locals := 46 }
set_option maxRecDepth 20000 in
theorem tX11_about_L0 {ad : Nat → Nat} {cI cZ : ClassId} {Γ : Cx} {r : Int} {σ' : St} (C : CX cI cZ rm_X11_about 3 Γ cX11_about RX11) (hq : RetI .int (wR ad cI cZ) Γ cX11_about r σ') (v1 : Int) (v2 : Int) (σ : St) (hf : fX11_about_L0 v1 v2 σ = some (r, σ')) : JJ (wR ad cI cZ) Γ σ 0 [(0, .ref (ad 0)), (1, .int (iI v1)), (2, .int (iI v2))] [] := by
  unfold fX11_about_L0 at hf
  refine j_aload_n 0 C dX11_about_0 rfl ?_
  refine j_iload_n 1 C dX11_about_1 rfl ?_
  obtain ⟨a1, s1, hc, hf⟩ := bd_s hf
  refine j_cVi (q0 := 0) (ci := 11) (T := TX11) (N := 32) [.int (iI v1)] [] C (c_X11_isOne _ _ ad cI cZ _ _ _ _ hc) mf_X11_isOne wt_951 wt_953 ws_31 rfl rfl rfl ⟨rfl, rfl, by decide, by decide⟩ rfl (Nat.le_of_ble_eq_true rfl) dX11_about_2 ?_
  refine j_if_ne 11 C rfl dX11_about_5 (by decide) (fun h => ?_) (fun h => ?_)
  · have hf := ifn h hf
    refine j_iload_n 2 C dX11_about_11 rfl ?_
    by_cases h0 : w32 v2 = 0
    · have hf := ifp h0 hf
      refine j_tabI 52 C (by omega) (by omega) (by rw [h0]; rfl) (by decide) dX11_about_12 ?_
      refine j_aload_n 0 C dX11_about_52 rfl ?_
      refine gR_0_6 C wt_840 dX11_about_53 ?_
      refine j_iload_n 1 C dX11_about_56 rfl ?_
      obtain ⟨hI, hf⟩ := gI_s hf
      refine lR_3 C hI dX11_about_57 ?_
      exact retI hq hf dX11_about_58
    have hf := ifn h0 hf
    by_cases h1 : w32 v2 = 1
    · have hf := ifp h1 hf
      refine j_tabI 59 C (by omega) (by omega) (by rw [h1]; rfl) (by decide) dX11_about_12 ?_
      refine j_aload_n 0 C dX11_about_59 rfl ?_
      refine gR_0_7 C wt_841 dX11_about_60 ?_
      refine j_iload_n 1 C dX11_about_63 rfl ?_
      obtain ⟨hI, hf⟩ := gI_s hf
      refine lR_4 C hI dX11_about_64 ?_
      exact retI hq hf dX11_about_65
    have hf := ifn h1 hf
    by_cases h2 : w32 v2 = 2
    · have hf := ifp h2 hf
      refine j_tabI 66 C (by omega) (by omega) (by rw [h2]; rfl) (by decide) dX11_about_12 ?_
      refine j_aload_n 0 C dX11_about_66 rfl ?_
      refine gR_0_8 C wt_842 dX11_about_67 ?_
      refine j_iload_n 1 C dX11_about_70 rfl ?_
      obtain ⟨hI, hf⟩ := gI_s hf
      refine lR_5 C hI dX11_about_71 ?_
      exact retI hq hf dX11_about_72
    have hf := ifn h2 hf
    by_cases h3 : w32 v2 = 3
    · have hf := ifp h3 hf
      refine j_tabI 73 C (by omega) (by omega) (by rw [h3]; rfl) (by decide) dX11_about_12 ?_
      refine j_aload_n 0 C dX11_about_73 rfl ?_
      refine gR_0_10 C wt_844 dX11_about_74 ?_
      refine j_iload_n 1 C dX11_about_77 rfl ?_
      obtain ⟨hI, hf⟩ := gI_s hf
      refine lR_7 C hI dX11_about_78 ?_
      exact retI hq hf dX11_about_79
    have hf := ifn h3 hf
    by_cases h4 : w32 v2 = 4
    · have hf := ifp h4 hf
      refine j_tabI 80 C (by omega) (by omega) (by rw [h4]; rfl) (by decide) dX11_about_12 ?_
      refine j_aload_n 0 C dX11_about_80 rfl ?_
      refine gR_0_11 C wt_845 dX11_about_81 ?_
      refine j_iload_n 1 C dX11_about_84 rfl ?_
      obtain ⟨hI, hf⟩ := gI_s hf
      refine lR_8 C hI dX11_about_85 ?_
      refine j_if_eq 93 C rfl dX11_about_86 (by decide) (fun h => ?_) (fun h => ?_)
      · have hf := ifp h hf
        refine j_iconst C dX11_about_93 ?_
        exact retI hq hf dX11_about_94
      · have hf := ifn h hf
        refine j_iconst C dX11_about_89 ?_
        refine j_goto 94 C dX11_about_90 (by decide) ?_
        exact retI hq hf dX11_about_94
    have hf := ifn h4 hf
    by_cases h5 : w32 v2 = 5
    · have hf := ifp h5 hf
      refine j_tabI 95 C (by omega) (by omega) (by rw [h5]; rfl) (by decide) dX11_about_12 ?_
      refine j_aload_n 0 C dX11_about_95 rfl ?_
      refine gR_0_12 C wt_846 dX11_about_96 ?_
      refine j_iload_n 1 C dX11_about_99 rfl ?_
      obtain ⟨hI, hf⟩ := gI_s hf
      refine lR_9 C hI dX11_about_100 ?_
      exact retI hq hf dX11_about_101
    have hf := ifn h5 hf
    refine j_tabO 102 C (by omega) (by decide) dX11_about_12 ?_
    refine j_iload_n 2 C dX11_about_102 rfl ?_
    refine j_i2l C rfl dX11_about_103 ?_
    refine j_ldc2 (n := 10) C wt_971 (by decide +kernel) dX11_about_104 ?_
    refine j_bipush C dX11_about_107 bp_9 ?_
    refine j_aload_n 0 C dX11_about_109 rfl ?_
    refine gR_0_8 C wt_842 dX11_about_110 ?_
    refine j_iload_n 1 C dX11_about_113 rfl ?_
    obtain ⟨hI, hf⟩ := gI_s hf
    refine lR_5 C hI dX11_about_114 ?_
    refine j_iadd C dX11_about_115 ?_
    refine j_i2l C rfl dX11_about_116 ?_
    obtain ⟨a2, s2, hc, hf⟩ := bd_s hf
    refine j_cSi [.long (iL (w32 v2)), .long (iL 10), .long (iL (w32 (9 + (s1.2 5 (ix v1)))))] [] C (c_X11_in _ _ ad cI cZ _ _ _ _ _ _ hc) mf_X11_in wt_936 wt_937 rfl ⟨rfl, rfl, by decide, by decide⟩ rfl (Nat.le_of_ble_eq_true rfl) dX11_about_117 ?_
    refine j_if_eq 140 C rfl dX11_about_120 (by decide) (fun h => ?_) (fun h => ?_)
    · have hf := ifp h hf
      refine j_bipush C dX11_about_140 bp_m2 ?_
      exact retI hq hf dX11_about_142
    · have hf := ifn h hf
      refine j_aload_n 0 C dX11_about_123 rfl ?_
      refine gR_0_9 C wt_843 dX11_about_124 ?_
      refine j_bipush C dX11_about_127 bp_8 ?_
      refine j_iload_n 1 C dX11_about_129 rfl ?_
      refine j_imul C dX11_about_130 ?_
      refine j_iload_n 2 C dX11_about_131 rfl ?_
      refine j_iadd C dX11_about_132 ?_
      refine j_bipush C dX11_about_133 bp_10 ?_
      refine j_isub C dX11_about_135 ?_
      obtain ⟨hI, hf⟩ := gI_s hf
      refine lR_6 C hI dX11_about_136 ?_
      refine j_goto 142 C dX11_about_137 (by decide) ?_
      exact retI hq hf dX11_about_142
  · have hf := ifp h hf
    refine j_bipush C dX11_about_8 bp_m2 ?_
    exact retI hq hf dX11_about_10
theorem c_X11_about (l : Launch) (D : va_G) (ad : Nat → Nat) (cI cZ : ClassId) (σ : St) (v1 : Int) (v2 : Int) (r : Int) (σ' : St) (hf : fX11_about σ v1 v2 = some (r, σ')) : McI l yX11_about cX11_about 3 .int rm_X11_about D (tyL cI cZ) (wR ad cI cZ) [.ref (ad 0), .int (iI v1), .int (iI v2)] σ r σ' := McI.mk mf_X11_about.2.2.2.2.2 (Nat.le_of_ble_eq_true rfl) (fun Γ C hq => j_sub [0, 1, 2] rfl (tX11_about_L0 C hq v1 v2 σ hf))
/-! TermLodgingsModel.whoHas(I)I -/
def rm_X11_whoHas : Room := { frames := 0, cells := 0, slots := 0, locals := 0 }
set_option maxRecDepth 20000 in
theorem tX11_whoHas_B2 {ad : Nat → Nat} {cI cZ : ClassId} {Γ : Cx} {r : Int} {σ' : St} (C : CX cI cZ rm_X11_whoHas 3 Γ cX11_whoHas RX11) (hq : RetI .int (wR ad cI cZ) Γ cX11_whoHas r σ') {k2 : Int → Int → St → Option (Int × St)} (hk2 : ∀ (v1 : Int) (v2 : Int) (σ : St), k2 v1 v2 σ = some (r, σ') → JJ (wR ad cI cZ) Γ σ 2 [(0, .ref (ad 0)), (1, .int (iI v1)), (2, .int (iI v2))] []) (v1 : Int) (v2 : Int) (σ : St) (hf : fX11_whoHas_B2 k2 v1 v2 σ = some (r, σ')) : JJ (wR ad cI cZ) Γ σ 2 [(0, .ref (ad 0)), (1, .int (iI v1)), (2, .int (iI v2))] [] := by
  unfold fX11_whoHas_B2 at hf
  refine j_iload_n 2 C dX11_whoHas_2 rfl ?_
  refine j_aload_n 0 C dX11_whoHas_3 rfl ?_
  refine gR_0_5 C wt_839 dX11_whoHas_4 ?_
  refine j_icmp_ge 28 C rfl rfl dX11_whoHas_7 (by decide) (fun h => ?_) (fun h => ?_)
  · have hf := ifp h hf
    refine j_iconst C dX11_whoHas_28 ?_
    exact retI hq hf dX11_whoHas_29
  · have hf := ifn h hf
    refine j_aload_n 0 C dX11_whoHas_10 rfl ?_
    refine gR_0_10 C wt_844 dX11_whoHas_11 ?_
    refine j_iload_n 2 C dX11_whoHas_14 rfl ?_
    obtain ⟨hI, hf⟩ := gI_s hf
    refine lR_7 C hI dX11_whoHas_15 ?_
    refine j_iload_n 1 C dX11_whoHas_16 rfl ?_
    refine j_icmp_ne 22 C rfl rfl dX11_whoHas_17 (by decide) (fun h => ?_) (fun h => ?_)
    · have hf := ifn h hf
      refine j_iinc 2 [(2, .int (iI (v2 + 1))), (0, .ref (ad 0)), (1, .int (iI v1))] C dX11_whoHas_22 (by decide) rfl rfl ?_
      refine j_goto 2 C dX11_whoHas_25 (by decide) ?_
      exact j_sub [1, 2, 0] rfl (hk2 _ _ _ hf)
    · have hf := ifp h hf
      refine j_iload_n 2 C dX11_whoHas_20 rfl ?_
      exact retI hq hf dX11_whoHas_21
theorem tX11_whoHas_L2 {ad : Nat → Nat} {cI cZ : ClassId} {Γ : Cx} {r : Int} {σ' : St} (C : CX cI cZ rm_X11_whoHas 3 Γ cX11_whoHas RX11) (hq : RetI .int (wR ad cI cZ) Γ cX11_whoHas r σ') (n : Nat) : ∀ (v1 v2 : Int), ∀ (σ : St), fX11_whoHas_L2 n v1 v2 σ = some (r, σ') → JJ (wR ad cI cZ) Γ σ 2 [(0, .ref (ad 0)), (1, .int (iI v1)), (2, .int (iI v2))] [] := by
  induction n with
  | zero => intro _ _ _ hf; cases hf
  | succ n ih => intro v1 v2 σ hf; exact tX11_whoHas_B2 C hq ih v1 v2 σ hf
set_option maxRecDepth 20000 in
theorem tX11_whoHas_L0 {ad : Nat → Nat} {cI cZ : ClassId} {Γ : Cx} {r : Int} {σ' : St} (C : CX cI cZ rm_X11_whoHas 3 Γ cX11_whoHas RX11) (hq : RetI .int (wR ad cI cZ) Γ cX11_whoHas r σ') (v1 : Int) (σ : St) (hf : fX11_whoHas_L0 v1 σ = some (r, σ')) : JJ (wR ad cI cZ) Γ σ 0 [(0, .ref (ad 0)), (1, .int (iI v1))] [] := by
  unfold fX11_whoHas_L0 at hf
  refine j_iconst C dX11_whoHas_0 ?_
  refine j_istore_n [(2, .int (iI 0)), (0, .ref (ad 0)), (1, .int (iI v1))] C dX11_whoHas_1 (by decide) rfl ?_
  exact j_sub [1, 2, 0] rfl (tX11_whoHas_L2 C hq 1000 _ _ _ hf)
theorem c_X11_whoHas (l : Launch) (D : va_G) (ad : Nat → Nat) (cI cZ : ClassId) (σ : St) (v1 : Int) (r : Int) (σ' : St) (hf : fX11_whoHas σ v1 = some (r, σ')) : McI l yX11_whoHas cX11_whoHas 3 .int rm_X11_whoHas D (tyL cI cZ) (wR ad cI cZ) [.ref (ad 0), .int (iI v1)] σ r σ' := McI.mk mf_X11_whoHas.2.2.2.2.2 (Nat.le_of_ble_eq_true rfl) (fun Γ C hq => j_sub [0, 1] rfl (tX11_whoHas_L0 C hq v1 σ hf))
/-! TermLodgingsModel.of(II)I -/
def rm_X11_of : Room := { frames := 2, cells := 0, slots := 0, locals := 46 }
set_option maxRecDepth 20000 in
theorem tX11_of_L0 {ad : Nat → Nat} {cI cZ : ClassId} {Γ : Cx} {r : Int} {σ' : St} (C : CX cI cZ rm_X11_of 3 Γ cX11_of RX11) (hq : RetI .int (wR ad cI cZ) Γ cX11_of r σ') (v1 : Int) (v2 : Int) (σ : St) (hf : fX11_of_L0 v1 v2 σ = some (r, σ')) : JJ (wR ad cI cZ) Γ σ 0 [(0, .ref (ad 0)), (1, .int (iI v1)), (2, .int (iI v2))] [] := by
  unfold fX11_of_L0 at hf
  refine j_aload_n 0 C dX11_of_0 rfl ?_
  refine j_iload_n 1 C dX11_of_1 rfl ?_
  obtain ⟨a1, s1, hc, hf⟩ := bd_s hf
  refine j_cVi (q0 := 0) (ci := 11) (T := TX11) (N := 32) [.int (iI v1)] [] C (c_X11_isRoom _ _ ad cI cZ _ _ _ _ hc) mf_X11_isRoom wt_955 wt_957 ws_32 rfl rfl rfl ⟨rfl, rfl, by decide, by decide⟩ rfl (Nat.le_of_ble_eq_true rfl) dX11_of_2 ?_
  refine j_if_ne 11 C rfl dX11_of_5 (by decide) (fun h => ?_) (fun h => ?_)
  · have hf := ifn h hf
    refine j_iload_n 2 C dX11_of_11 rfl ?_
    by_cases h0 : w32 v2 = 0
    · have hf := ifp h0 hf
      refine j_tabI 44 C (by omega) (by omega) (by rw [h0]; rfl) (by decide) dX11_of_12 ?_
      refine j_aload_n 0 C dX11_of_44 rfl ?_
      refine gR_0_1 C wt_835 dX11_of_45 ?_
      refine j_iload_n 1 C dX11_of_48 rfl ?_
      obtain ⟨hI, hf⟩ := gI_s hf
      refine lR_0 C hI dX11_of_49 ?_
      exact retI hq hf dX11_of_50
    have hf := ifn h0 hf
    by_cases h1 : w32 v2 = 1
    · have hf := ifp h1 hf
      refine j_tabI 51 C (by omega) (by omega) (by rw [h1]; rfl) (by decide) dX11_of_12 ?_
      refine j_aload_n 0 C dX11_of_51 rfl ?_
      refine gR_0_2 C wt_836 dX11_of_52 ?_
      refine j_iload_n 1 C dX11_of_55 rfl ?_
      obtain ⟨hI, hf⟩ := gI_s hf
      refine lR_1 C hI dX11_of_56 ?_
      exact retI hq hf dX11_of_57
    have hf := ifn h1 hf
    by_cases h2 : w32 v2 = 2
    · have hf := ifp h2 hf
      refine j_tabI 58 C (by omega) (by omega) (by rw [h2]; rfl) (by decide) dX11_of_12 ?_
      refine j_aload_n 0 C dX11_of_58 rfl ?_
      refine gR_0_3 C wt_837 dX11_of_59 ?_
      refine j_iload_n 1 C dX11_of_62 rfl ?_
      obtain ⟨hI, hf⟩ := gI_s hf
      refine lR_2 C hI dX11_of_63 ?_
      exact retI hq hf dX11_of_64
    have hf := ifn h2 hf
    by_cases h3 : w32 v2 = 3
    · have hf := ifp h3 hf
      refine j_tabI 65 C (by omega) (by omega) (by rw [h3]; rfl) (by decide) dX11_of_12 ?_
      refine j_aload_n 0 C dX11_of_65 rfl ?_
      refine j_iload_n 1 C dX11_of_66 rfl ?_
      obtain ⟨a2, s2, hc, hf⟩ := bd_s hf
      refine j_cVi (q0 := 0) (ci := 11) (T := TX11) (N := 32) [.int (iI v1)] [] C (c_X11_whoHas _ _ ad cI cZ _ _ _ _ hc) mf_X11_whoHas wt_976 wt_978 ws_34 rfl rfl rfl ⟨rfl, rfl, by decide, by decide⟩ rfl (Nat.le_of_ble_eq_true rfl) dX11_of_67 ?_
      exact retI hq hf dX11_of_70
    have hf := ifn h3 hf
    refine j_tabO 71 C (by omega) (by decide) dX11_of_12 ?_
    refine j_bipush C dX11_of_71 bp_m2 ?_
    exact retI hq hf dX11_of_73
  · have hf := ifp h hf
    refine j_bipush C dX11_of_8 bp_m2 ?_
    exact retI hq hf dX11_of_10
theorem c_X11_of (l : Launch) (D : va_G) (ad : Nat → Nat) (cI cZ : ClassId) (σ : St) (v1 : Int) (v2 : Int) (r : Int) (σ' : St) (hf : fX11_of σ v1 v2 = some (r, σ')) : McI l yX11_of cX11_of 3 .int rm_X11_of D (tyL cI cZ) (wR ad cI cZ) [.ref (ad 0), .int (iI v1), .int (iI v2)] σ r σ' := McI.mk mf_X11_of.2.2.2.2.2 (Nat.le_of_ble_eq_true rfl) (fun Γ C hq => j_sub [0, 1, 2] rfl (tX11_of_L0 C hq v1 v2 σ hf))
/-! TermLodgingsModel.isLetter(I)Z -/
def rm_X11_isLetter : Room := { frames := 0, cells := 0, slots := 0, locals := 0 }
set_option maxRecDepth 20000 in
theorem tX11_isLetter_L0 {ad : Nat → Nat} {cI cZ : ClassId} {Γ : Cx} {r : Int} {σ' : St} (C : CX cI cZ rm_X11_isLetter 1 Γ cX11_isLetter RX11) (hq : RetI .boolean (wR ad cI cZ) Γ cX11_isLetter r σ') (v0 : Int) (σ : St) (hf : fX11_isLetter_L0 v0 σ = some (r, σ')) : JJ (wR ad cI cZ) Γ σ 0 [(0, .int (iI v0))] [] := by
  unfold fX11_isLetter_L0 at hf
  refine j_iload_n 0 C dX11_isLetter_0 rfl ?_
  refine j_bipush C dX11_isLetter_1 bp_121 ?_
  refine j_icmp_eq 24 C rfl wl_121 dX11_isLetter_3 (by decide) (fun h => ?_) (fun h => ?_)
  · have hf := ifp h hf
    refine j_iconst C dX11_isLetter_24 ?_
    refine j_goto 29 C dX11_isLetter_25 (by decide) ?_
    exact retZc hq isB_1 hf dX11_isLetter_29
  · have hf := ifn h hf
    refine j_iload_n 0 C dX11_isLetter_6 rfl ?_
    refine j_bipush C dX11_isLetter_7 bp_109 ?_
    refine j_icmp_eq 24 C rfl wl_109 dX11_isLetter_9 (by decide) (fun h => ?_) (fun h => ?_)
    · have hf := ifp h hf
      refine j_iconst C dX11_isLetter_24 ?_
      refine j_goto 29 C dX11_isLetter_25 (by decide) ?_
      exact retZc hq isB_1 hf dX11_isLetter_29
    · have hf := ifn h hf
      refine j_iload_n 0 C dX11_isLetter_12 rfl ?_
      refine j_bipush C dX11_isLetter_13 bp_115 ?_
      refine j_icmp_eq 24 C rfl wl_115 dX11_isLetter_15 (by decide) (fun h => ?_) (fun h => ?_)
      · have hf := ifp h hf
        refine j_iconst C dX11_isLetter_24 ?_
        refine j_goto 29 C dX11_isLetter_25 (by decide) ?_
        exact retZc hq isB_1 hf dX11_isLetter_29
      · have hf := ifn h hf
        refine j_iload_n 0 C dX11_isLetter_18 rfl ?_
        refine j_bipush C dX11_isLetter_19 bp_104 ?_
        refine j_icmp_ne 28 C rfl wl_104 dX11_isLetter_21 (by decide) (fun h => ?_) (fun h => ?_)
        · have hf := ifn h hf
          refine j_iconst C dX11_isLetter_28 ?_
          exact retZc hq isB_0 hf dX11_isLetter_29
        · have hf := ifp h hf
          refine j_iconst C dX11_isLetter_24 ?_
          refine j_goto 29 C dX11_isLetter_25 (by decide) ?_
          exact retZc hq isB_1 hf dX11_isLetter_29
theorem c_X11_isLetter (l : Launch) (D : va_G) (ad : Nat → Nat) (cI cZ : ClassId) (σ : St) (v0 : Int) (r : Int) (σ' : St) (hf : fX11_isLetter σ v0 = some (r, σ')) : McI l yX11_isLetter cX11_isLetter 1 .boolean rm_X11_isLetter D (tyL cI cZ) (wR ad cI cZ) [.int (iI v0)] σ r σ' := McI.mk mf_X11_isLetter.2.2.2.2.2 (Nat.le_of_ble_eq_true rfl) (fun Γ C hq => j_sub [0] rfl (tX11_isLetter_L0 C hq v0 σ hf))
/-! TermLodgingsModel.isSign(I)Z -/
def rm_X11_isSign : Room := { frames := 0, cells := 0, slots := 0, locals := 0 }
set_option maxRecDepth 20000 in
theorem tX11_isSign_L0 {ad : Nat → Nat} {cI cZ : ClassId} {Γ : Cx} {r : Int} {σ' : St} (C : CX cI cZ rm_X11_isSign 1 Γ cX11_isSign RX11) (hq : RetI .boolean (wR ad cI cZ) Γ cX11_isSign r σ') (v0 : Int) (σ : St) (hf : fX11_isSign_L0 v0 σ = some (r, σ')) : JJ (wR ad cI cZ) Γ σ 0 [(0, .int (iI v0))] [] := by
  unfold fX11_isSign_L0 at hf
  refine j_iload_n 0 C dX11_isSign_0 rfl ?_
  refine j_bipush C dX11_isSign_1 bp_60 ?_
  refine j_icmp_eq 18 C rfl wl_60 dX11_isSign_3 (by decide) (fun h => ?_) (fun h => ?_)
  · have hf := ifp h hf
    refine j_iconst C dX11_isSign_18 ?_
    refine j_goto 23 C dX11_isSign_19 (by decide) ?_
    exact retZc hq isB_1 hf dX11_isSign_23
  · have hf := ifn h hf
    refine j_iload_n 0 C dX11_isSign_6 rfl ?_
    refine j_bipush C dX11_isSign_7 bp_61 ?_
    refine j_icmp_eq 18 C rfl wl_61 dX11_isSign_9 (by decide) (fun h => ?_) (fun h => ?_)
    · have hf := ifp h hf
      refine j_iconst C dX11_isSign_18 ?_
      refine j_goto 23 C dX11_isSign_19 (by decide) ?_
      exact retZc hq isB_1 hf dX11_isSign_23
    · have hf := ifn h hf
      refine j_iload_n 0 C dX11_isSign_12 rfl ?_
      refine j_bipush C dX11_isSign_13 bp_62 ?_
      refine j_icmp_ne 22 C rfl wl_62 dX11_isSign_15 (by decide) (fun h => ?_) (fun h => ?_)
      · have hf := ifn h hf
        refine j_iconst C dX11_isSign_22 ?_
        exact retZc hq isB_0 hf dX11_isSign_23
      · have hf := ifp h hf
        refine j_iconst C dX11_isSign_18 ?_
        refine j_goto 23 C dX11_isSign_19 (by decide) ?_
        exact retZc hq isB_1 hf dX11_isSign_23
theorem c_X11_isSign (l : Launch) (D : va_G) (ad : Nat → Nat) (cI cZ : ClassId) (σ : St) (v0 : Int) (r : Int) (σ' : St) (hf : fX11_isSign σ v0 = some (r, σ')) : McI l yX11_isSign cX11_isSign 1 .boolean rm_X11_isSign D (tyL cI cZ) (wR ad cI cZ) [.int (iI v0)] σ r σ' := McI.mk mf_X11_isSign.2.2.2.2.2 (Nat.le_of_ble_eq_true rfl) (fun Γ C hq => j_sub [0] rfl (tX11_isSign_L0 C hq v0 σ hf))
/-! TermLodgingsModel.isFigure(I)Z -/
def rm_X11_isFigure : Room := { frames := 1, cells := 0, slots := 0, locals := 25 }
set_option maxRecDepth 20000 in
theorem tX11_isFigure_L0 {ad : Nat → Nat} {cI cZ : ClassId} {Γ : Cx} {r : Int} {σ' : St} (C : CX cI cZ rm_X11_isFigure 1 Γ cX11_isFigure RX11) (hq : RetI .boolean (wR ad cI cZ) Γ cX11_isFigure r σ') (v0 : Int) (σ : St) (hf : fX11_isFigure_L0 v0 σ = some (r, σ')) : JJ (wR ad cI cZ) Γ σ 0 [(0, .int (iI v0))] [] := by
  unfold fX11_isFigure_L0 at hf
  refine j_iload_n 0 C dX11_isFigure_0 rfl ?_
  refine j_i2l C rfl dX11_isFigure_1 ?_
  refine j_ldc2 (n := 48) C wt_1001 (by decide +kernel) dX11_isFigure_2 ?_
  refine j_ldc2 (n := 57) C wt_1002 (by decide +kernel) dX11_isFigure_5 ?_
  obtain ⟨a1, s1, hc, hf⟩ := bd_s hf
  refine j_cSi [.long (iL (w32 v0)), .long (iL 48), .long (iL 57)] [] C (c_X11_in _ _ ad cI cZ _ _ _ _ _ _ hc) mf_X11_in wt_936 wt_937 rfl ⟨rfl, rfl, by decide, by decide⟩ rfl (Nat.le_of_ble_eq_true rfl) dX11_isFigure_8 ?_
  exact retZ hq hf dX11_isFigure_11
theorem c_X11_isFigure (l : Launch) (D : va_G) (ad : Nat → Nat) (cI cZ : ClassId) (σ : St) (v0 : Int) (r : Int) (σ' : St) (hf : fX11_isFigure σ v0 = some (r, σ')) : McI l yX11_isFigure cX11_isFigure 1 .boolean rm_X11_isFigure D (tyL cI cZ) (wR ad cI cZ) [.int (iI v0)] σ r σ' := McI.mk mf_X11_isFigure.2.2.2.2.2 (Nat.le_of_ble_eq_true rfl) (fun Γ C hq => j_sub [0] rfl (tX11_isFigure_L0 C hq v0 σ hf))
/-! TermLodgingsModel.fault()I -/
def rm_X11_fault : Room := { frames := 2, cells := 0, slots := 0, locals := 45 }
set_option maxRecDepth 20000 in
theorem tX11_fault_L65 {ad : Nat → Nat} {cI cZ : ClassId} {Γ : Cx} {r : Int} {σ' : St} (C : CX cI cZ rm_X11_fault 4 Γ cX11_fault RX11) (hq : RetI .int (wR ad cI cZ) Γ cX11_fault r σ') {k4 : Int → Int → St → Option (Int × St)} (hk4 : ∀ (v1 : Int) (v2 : Int) (σ : St), k4 v1 v2 σ = some (r, σ') → JJ (wR ad cI cZ) Γ σ 4 [(0, .ref (ad 0)), (1, .int (iI v1)), (2, .int (iI v2))] []) (v1 : Int) (v2 : Int) (v3 : Int) (σ : St) (hf : fX11_fault_L65 k4 v1 v2 v3 σ = some (r, σ')) : JJ (wR ad cI cZ) Γ σ 65 [(0, .ref (ad 0)), (1, .int (iI v1)), (2, .int (iI v2)), (3, .int (iI v3))] [] := by
  unfold fX11_fault_L65 at hf
  refine j_iload_n 1 C dX11_fault_65 rfl ?_
  refine j_iconst C dX11_fault_66 ?_
  refine j_icmp_le 87 C rfl wl_2 dX11_fault_67 (by decide) (fun h => ?_) (fun h => ?_)
  · have hf := ifp h hf
    refine j_iload_n 2 C dX11_fault_87 rfl ?_
    exact retI hq hf dX11_fault_88
  · have hf := ifn h hf
    refine j_iload_n 3 C dX11_fault_70 rfl ?_
    refine j_bipush C dX11_fault_71 bp_124 ?_
    refine j_icmp_eq 82 C rfl wl_124 dX11_fault_73 (by decide) (fun h => ?_) (fun h => ?_)
    · have hf := ifp h hf
      refine j_iconst C dX11_fault_82 ?_
      refine j_istore_n [(1, .int (iI 0)), (0, .ref (ad 0)), (2, .int (iI v2)), (3, .int (iI v3))] C dX11_fault_83 (by decide) rfl ?_
      refine j_goto 89 C dX11_fault_84 (by decide) ?_
      refine j_iinc 2 [(2, .int (iI (v2 + 1))), (1, .int (iI 0)), (0, .ref (ad 0)), (3, .int (iI v3))] C dX11_fault_89 (by decide) rfl rfl ?_
      refine j_goto 4 C dX11_fault_92 (by decide) ?_
      exact j_sub [2, 1, 0] rfl (hk4 _ _ _ hf)
    · have hf := ifn h hf
      refine j_iload_n 3 C dX11_fault_76 rfl ?_
      refine j_bipush C dX11_fault_77 bp_38 ?_
      refine j_icmp_ne 87 C rfl wl_38 dX11_fault_79 (by decide) (fun h => ?_) (fun h => ?_)
      · have hf := ifn h hf
        refine j_iload_n 2 C dX11_fault_87 rfl ?_
        exact retI hq hf dX11_fault_88
      · have hf := ifp h hf
        refine j_iconst C dX11_fault_82 ?_
        refine j_istore_n [(1, .int (iI 0)), (0, .ref (ad 0)), (2, .int (iI v2)), (3, .int (iI v3))] C dX11_fault_83 (by decide) rfl ?_
        refine j_goto 89 C dX11_fault_84 (by decide) ?_
        refine j_iinc 2 [(2, .int (iI (v2 + 1))), (1, .int (iI 0)), (0, .ref (ad 0)), (3, .int (iI v3))] C dX11_fault_89 (by decide) rfl rfl ?_
        refine j_goto 4 C dX11_fault_92 (by decide) ?_
        exact j_sub [2, 1, 0] rfl (hk4 _ _ _ hf)
set_option maxRecDepth 20000 in
theorem tX11_fault_L42 {ad : Nat → Nat} {cI cZ : ClassId} {Γ : Cx} {r : Int} {σ' : St} (C : CX cI cZ rm_X11_fault 4 Γ cX11_fault RX11) (hq : RetI .int (wR ad cI cZ) Γ cX11_fault r σ') {k4 : Int → Int → St → Option (Int × St)} (hk4 : ∀ (v1 : Int) (v2 : Int) (σ : St), k4 v1 v2 σ = some (r, σ') → JJ (wR ad cI cZ) Γ σ 4 [(0, .ref (ad 0)), (1, .int (iI v1)), (2, .int (iI v2))] []) (v1 : Int) (v2 : Int) (v3 : Int) (σ : St) (hf : fX11_fault_L42 k4 v1 v2 v3 σ = some (r, σ')) : JJ (wR ad cI cZ) Γ σ 42 [(0, .ref (ad 0)), (1, .int (iI v1)), (2, .int (iI v2)), (3, .int (iI v3))] [] := by
  unfold fX11_fault_L42 at hf
  refine j_iload_n 1 C dX11_fault_42 rfl ?_
  refine j_iconst C dX11_fault_43 ?_
  refine j_icmp_le 65 C rfl wl_1 dX11_fault_44 (by decide) (fun h => ?_) (fun h => ?_)
  · have hf := ifp h hf
    exact j_sub [0, 1, 2, 3] rfl (tX11_fault_L65 C hq hk4 _ _ _ _ hf)
  · have hf := ifn h hf
    refine j_iload_n 1 C dX11_fault_47 rfl ?_
    refine j_iconst C dX11_fault_48 ?_
    refine j_icmp_ge 65 C rfl wl_5 dX11_fault_49 (by decide) (fun h => ?_) (fun h => ?_)
    · have hf := ifp h hf
      exact j_sub [0, 1, 2, 3] rfl (tX11_fault_L65 C hq hk4 _ _ _ _ hf)
    · have hf := ifn h hf
      refine j_iload_n 3 C dX11_fault_52 rfl ?_
      obtain ⟨a1, s1, hc, hf⟩ := bd_s hf
      refine j_cSi [.int (iI v3)] [] C (c_X11_isFigure _ _ ad cI cZ _ _ _ _ hc) mf_X11_isFigure wt_998 wt_999 rfl ⟨rfl, rfl, by decide, by decide⟩ rfl (Nat.le_of_ble_eq_true rfl) dX11_fault_53 ?_
      refine j_if_eq 65 C rfl dX11_fault_56 (by decide) (fun h => ?_) (fun h => ?_)
      · have hf := ifp h hf
        exact j_sub [0, 1, 2, 3] rfl (tX11_fault_L65 C hq hk4 _ _ _ _ hf)
      · have hf := ifn h hf
        refine j_iinc 1 [(1, .int (iI (v1 + 1))), (0, .ref (ad 0)), (2, .int (iI v2)), (3, .int (iI v3))] C dX11_fault_59 (by decide) rfl rfl ?_
        refine j_goto 89 C dX11_fault_62 (by decide) ?_
        refine j_iinc 2 [(2, .int (iI (v2 + 1))), (1, .int (iI (v1 + 1))), (0, .ref (ad 0)), (3, .int (iI v3))] C dX11_fault_89 (by decide) rfl rfl ?_
        refine j_goto 4 C dX11_fault_92 (by decide) ?_
        exact j_sub [2, 1, 0] rfl (hk4 _ _ _ hf)
set_option maxRecDepth 20000 in
theorem tX11_fault_L30 {ad : Nat → Nat} {cI cZ : ClassId} {Γ : Cx} {r : Int} {σ' : St} (C : CX cI cZ rm_X11_fault 4 Γ cX11_fault RX11) (hq : RetI .int (wR ad cI cZ) Γ cX11_fault r σ') {k4 : Int → Int → St → Option (Int × St)} (hk4 : ∀ (v1 : Int) (v2 : Int) (σ : St), k4 v1 v2 σ = some (r, σ') → JJ (wR ad cI cZ) Γ σ 4 [(0, .ref (ad 0)), (1, .int (iI v1)), (2, .int (iI v2))] []) (v1 : Int) (v2 : Int) (v3 : Int) (σ : St) (hf : fX11_fault_L30 k4 v1 v2 v3 σ = some (r, σ')) : JJ (wR ad cI cZ) Γ σ 30 [(0, .ref (ad 0)), (1, .int (iI v1)), (2, .int (iI v2)), (3, .int (iI v3))] [] := by
  unfold fX11_fault_L30 at hf
  refine j_iload_n 1 C dX11_fault_30 rfl ?_
  refine j_iconst C dX11_fault_31 ?_
  refine j_icmp_ne 42 C rfl wl_1 dX11_fault_32 (by decide) (fun h => ?_) (fun h => ?_)
  · have hf := ifn h hf
    exact j_sub [0, 1, 2, 3] rfl (tX11_fault_L42 C hq hk4 _ _ _ _ hf)
  · have hf := ifp h hf
    refine j_iload_n 3 C dX11_fault_35 rfl ?_
    obtain ⟨a2, s2, hc, hf⟩ := bd_s hf
    refine j_cSi [.int (iI v3)] [] C (c_X11_isSign _ _ ad cI cZ _ _ _ _ hc) mf_X11_isSign wt_995 wt_996 rfl ⟨rfl, rfl, by decide, by decide⟩ rfl (Nat.le_of_ble_eq_true rfl) dX11_fault_36 ?_
    refine j_if_ne 59 C rfl dX11_fault_39 (by decide) (fun h => ?_) (fun h => ?_)
    · have hf := ifn h hf
      refine j_iinc 1 [(1, .int (iI (v1 + 1))), (0, .ref (ad 0)), (2, .int (iI v2)), (3, .int (iI v3))] C dX11_fault_59 (by decide) rfl rfl ?_
      refine j_goto 89 C dX11_fault_62 (by decide) ?_
      refine j_iinc 2 [(2, .int (iI (v2 + 1))), (1, .int (iI (v1 + 1))), (0, .ref (ad 0)), (3, .int (iI v3))] C dX11_fault_89 (by decide) rfl rfl ?_
      refine j_goto 4 C dX11_fault_92 (by decide) ?_
      exact j_sub [2, 1, 0] rfl (hk4 _ _ _ hf)
    · have hf := ifp h hf
      exact j_sub [0, 1, 2, 3] rfl (tX11_fault_L42 C hq hk4 _ _ _ _ hf)
set_option maxRecDepth 20000 in
theorem tX11_fault_B4 {ad : Nat → Nat} {cI cZ : ClassId} {Γ : Cx} {r : Int} {σ' : St} (C : CX cI cZ rm_X11_fault 4 Γ cX11_fault RX11) (hq : RetI .int (wR ad cI cZ) Γ cX11_fault r σ') {k4 : Int → Int → St → Option (Int × St)} (hk4 : ∀ (v1 : Int) (v2 : Int) (σ : St), k4 v1 v2 σ = some (r, σ') → JJ (wR ad cI cZ) Γ σ 4 [(0, .ref (ad 0)), (1, .int (iI v1)), (2, .int (iI v2))] []) (v1 : Int) (v2 : Int) (σ : St) (hf : fX11_fault_B4 k4 v1 v2 σ = some (r, σ')) : JJ (wR ad cI cZ) Γ σ 4 [(0, .ref (ad 0)), (1, .int (iI v1)), (2, .int (iI v2))] [] := by
  unfold fX11_fault_B4 at hf
  refine j_iload_n 2 C dX11_fault_4 rfl ?_
  refine j_aload_n 0 C dX11_fault_5 rfl ?_
  refine gR_0_15 C wt_849 dX11_fault_6 ?_
  refine j_icmp_ge 95 C rfl rfl dX11_fault_9 (by decide) (fun h => ?_) (fun h => ?_)
  · have hf := ifp h hf
    refine j_aload_n 0 C dX11_fault_95 rfl ?_
    refine gR_0_15 C wt_849 dX11_fault_96 ?_
    refine j_if_le 114 C rfl dX11_fault_99 (by decide) (fun h => ?_) (fun h => ?_)
    · have hf := ifp h hf
      refine j_iconst C dX11_fault_114 ?_
      exact retI hq hf dX11_fault_115
    · have hf := ifn h hf
      refine j_iload_n 1 C dX11_fault_102 rfl ?_
      refine j_iconst C dX11_fault_103 ?_
      refine j_icmp_ge 114 C rfl wl_3 dX11_fault_104 (by decide) (fun h => ?_) (fun h => ?_)
      · have hf := ifp h hf
        refine j_iconst C dX11_fault_114 ?_
        exact retI hq hf dX11_fault_115
      · have hf := ifn h hf
        refine j_aload_n 0 C dX11_fault_107 rfl ?_
        refine gR_0_15 C wt_849 dX11_fault_108 ?_
        refine j_goto 115 C dX11_fault_111 (by decide) ?_
        exact retI hq hf dX11_fault_115
  · have hf := ifn h hf
    refine j_aload_n 0 C dX11_fault_12 rfl ?_
    refine gR_0_14 C wt_848 dX11_fault_13 ?_
    refine j_iload_n 2 C dX11_fault_16 rfl ?_
    obtain ⟨hI, hf⟩ := gI_s hf
    refine lR_11 C hI dX11_fault_17 ?_
    refine j_istore_n [(3, .int (iI (σ.2 11 (ix v2)))), (0, .ref (ad 0)), (1, .int (iI v1)), (2, .int (iI v2))] C dX11_fault_18 (by decide) rfl ?_
    refine j_iload_n 2 C dX11_fault_19 rfl ?_
    refine j_if_ne 30 C rfl dX11_fault_20 (by decide) (fun h => ?_) (fun h => ?_)
    · have hf := ifn h hf
      exact j_sub [1, 2, 3, 0] rfl (tX11_fault_L30 C hq hk4 _ _ _ _ hf)
    · have hf := ifp h hf
      refine j_iload_n 0 C dX11_fault_23 rfl ?_
      obtain ⟨a3, s3, hc, hf⟩ := bd_s hf
      refine j_cSi [.int (iI (σ.2 11 (ix v2)))] [] C (c_X11_isLetter _ _ ad cI cZ _ _ _ _ hc) mf_X11_isLetter wt_992 wt_993 rfl ⟨rfl, rfl, by decide, by decide⟩ rfl (Nat.le_of_ble_eq_true rfl) dX11_fault_24 ?_
      refine j_if_ne 59 C rfl dX11_fault_27 (by decide) (fun h => ?_) (fun h => ?_)
      · have hf := ifn h hf
        refine j_iinc 2 [(1, .int (iI (v1 + 1))), (3, .int (iI (σ.2 11 (ix v2)))), (0, .ref (ad 0)), (2, .int (iI v2))] C dX11_fault_59 (by decide) rfl rfl ?_
        refine j_goto 89 C dX11_fault_62 (by decide) ?_
        refine j_iinc 3 [(2, .int (iI (v2 + 1))), (1, .int (iI (v1 + 1))), (3, .int (iI (σ.2 11 (ix v2)))), (0, .ref (ad 0))] C dX11_fault_89 (by decide) rfl rfl ?_
        refine j_goto 4 C dX11_fault_92 (by decide) ?_
        exact j_sub [3, 1, 0] rfl (hk4 _ _ _ hf)
      · have hf := ifp h hf
        exact j_sub [1, 2, 3, 0] rfl (tX11_fault_L30 C hq hk4 _ _ _ _ hf)
theorem tX11_fault_L4 {ad : Nat → Nat} {cI cZ : ClassId} {Γ : Cx} {r : Int} {σ' : St} (C : CX cI cZ rm_X11_fault 4 Γ cX11_fault RX11) (hq : RetI .int (wR ad cI cZ) Γ cX11_fault r σ') (n : Nat) : ∀ (v1 v2 : Int), ∀ (σ : St), fX11_fault_L4 n v1 v2 σ = some (r, σ') → JJ (wR ad cI cZ) Γ σ 4 [(0, .ref (ad 0)), (1, .int (iI v1)), (2, .int (iI v2))] [] := by
  induction n with
  | zero => intro _ _ _ hf; cases hf
  | succ n ih => intro v1 v2 σ hf; exact tX11_fault_B4 C hq ih v1 v2 σ hf
set_option maxRecDepth 20000 in
theorem tX11_fault_L0 {ad : Nat → Nat} {cI cZ : ClassId} {Γ : Cx} {r : Int} {σ' : St} (C : CX cI cZ rm_X11_fault 4 Γ cX11_fault RX11) (hq : RetI .int (wR ad cI cZ) Γ cX11_fault r σ') (σ : St) (hf : fX11_fault_L0 σ = some (r, σ')) : JJ (wR ad cI cZ) Γ σ 0 [(0, .ref (ad 0))] [] := by
  unfold fX11_fault_L0 at hf
  refine j_iconst C dX11_fault_0 ?_
  refine j_istore_n [(1, .int (iI 0)), (0, .ref (ad 0))] C dX11_fault_1 (by decide) rfl ?_
  refine j_iconst C dX11_fault_2 ?_
  refine j_istore_n [(2, .int (iI 0)), (1, .int (iI 0)), (0, .ref (ad 0))] C dX11_fault_3 (by decide) rfl ?_
  exact j_sub [2, 1, 0] rfl (tX11_fault_L4 C hq 1000 _ _ _ hf)
theorem c_X11_fault (l : Launch) (D : va_G) (ad : Nat → Nat) (cI cZ : ClassId) (σ : St) (r : Int) (σ' : St) (hf : fX11_fault σ = some (r, σ')) : McI l yX11_fault cX11_fault 4 .int rm_X11_fault D (tyL cI cZ) (wR ad cI cZ) [.ref (ad 0)] σ r σ' := McI.mk mf_X11_fault.2.2.2.2.2 (Nat.le_of_ble_eq_true rfl) (fun Γ C hq => j_sub [0] rfl (tX11_fault_L0 C hq  σ hf))
/-! TermLodgingsModel.holds(IIII)Z -/
def rm_X11_holds : Room := { frames := 0, cells := 0, slots := 0, locals := 0 }
set_option maxRecDepth 20000 in
theorem tX11_holds_B79 {ad : Nat → Nat} {cI cZ : ClassId} {Γ : Cx} {r : Int} {σ' : St} (C : CX cI cZ rm_X11_holds 8 Γ cX11_holds RX11) (hq : RetI .boolean (wR ad cI cZ) Γ cX11_holds r σ') {k79 : Int → Int → Int → Int → Int → St → Option (Int × St)} (hk79 : ∀ (v1 : Int) (v2 : Int) (v5 : Int) (v6 : Int) (v7 : Int) (σ : St), k79 v1 v2 v5 v6 v7 σ = some (r, σ') → JJ (wR ad cI cZ) Γ σ 79 [(0, .ref (ad 0)), (1, .int (iI v1)), (2, .int (iI v2)), (5, .int (iI v5)), (6, .int (iI v6)), (7, .int (iI v7))] []) (v1 : Int) (v2 : Int) (v5 : Int) (v6 : Int) (v7 : Int) (σ : St) (hf : fX11_holds_B79 k79 v1 v2 v5 v6 v7 σ = some (r, σ')) : JJ (wR ad cI cZ) Γ σ 79 [(0, .ref (ad 0)), (1, .int (iI v1)), (2, .int (iI v2)), (5, .int (iI v5)), (6, .int (iI v6)), (7, .int (iI v7))] [] := by
  unfold fX11_holds_B79 at hf
  refine j_iload 5 C dX11_holds_79 rfl ?_
  refine j_iload_n 2 C dX11_holds_81 rfl ?_
  refine j_icmp_ge 109 C rfl rfl dX11_holds_82 (by decide) (fun h => ?_) (fun h => ?_)
  · have hf := ifp h hf
    refine j_aload_n 0 C dX11_holds_109 rfl ?_
    refine gR_0_14 C wt_848 dX11_holds_110 ?_
    refine j_iload_n 1 C dX11_holds_113 rfl ?_
    refine j_iconst C dX11_holds_114 ?_
    refine j_iadd C dX11_holds_115 ?_
    obtain ⟨hI, hf⟩ := gI_s hf
    refine lR_11 C hI dX11_holds_116 ?_
    refine j_bipush C dX11_holds_117 bp_60 ?_
    refine j_icmp_ne 137 C rfl wl_60 dX11_holds_119 (by decide) (fun h => ?_) (fun h => ?_)
    · have hf := ifn h hf
      refine j_aload_n 0 C dX11_holds_137 rfl ?_
      refine gR_0_14 C wt_848 dX11_holds_138 ?_
      refine j_iload_n 1 C dX11_holds_141 rfl ?_
      refine j_iconst C dX11_holds_142 ?_
      refine j_iadd C dX11_holds_143 ?_
      obtain ⟨hI, hf⟩ := gI_s hf
      refine lR_11 C hI dX11_holds_144 ?_
      refine j_bipush C dX11_holds_145 bp_61 ?_
      refine j_icmp_ne 165 C rfl wl_61 dX11_holds_147 (by decide) (fun h => ?_) (fun h => ?_)
      · have hf := ifn h hf
        refine j_iload 3 C dX11_holds_165 rfl ?_
        refine j_iload 4 C dX11_holds_167 rfl ?_
        refine j_icmp_le 176 C rfl rfl dX11_holds_169 (by decide) (fun h => ?_) (fun h => ?_)
        · have hf := ifp h hf
          refine j_iconst C dX11_holds_176 ?_
          exact retZc hq isB_0 hf dX11_holds_177
        · have hf := ifn h hf
          refine j_iconst C dX11_holds_172 ?_
          refine j_goto 177 C dX11_holds_173 (by decide) ?_
          exact retZc hq isB_1 hf dX11_holds_177
      · have hf := ifp h hf
        refine j_iload 3 C dX11_holds_150 rfl ?_
        refine j_iload 4 C dX11_holds_152 rfl ?_
        refine j_icmp_ne 161 C rfl rfl dX11_holds_154 (by decide) (fun h => ?_) (fun h => ?_)
        · have hf := ifn h hf
          refine j_iconst C dX11_holds_161 ?_
          refine j_goto 177 C dX11_holds_162 (by decide) ?_
          exact retZc hq isB_0 hf dX11_holds_177
        · have hf := ifp h hf
          refine j_iconst C dX11_holds_157 ?_
          refine j_goto 177 C dX11_holds_158 (by decide) ?_
          exact retZc hq isB_1 hf dX11_holds_177
    · have hf := ifp h hf
      refine j_iload 3 C dX11_holds_122 rfl ?_
      refine j_iload 4 C dX11_holds_124 rfl ?_
      refine j_icmp_ge 133 C rfl rfl dX11_holds_126 (by decide) (fun h => ?_) (fun h => ?_)
      · have hf := ifp h hf
        refine j_iconst C dX11_holds_133 ?_
        refine j_goto 177 C dX11_holds_134 (by decide) ?_
        exact retZc hq isB_0 hf dX11_holds_177
      · have hf := ifn h hf
        refine j_iconst C dX11_holds_129 ?_
        refine j_goto 177 C dX11_holds_130 (by decide) ?_
        exact retZc hq isB_1 hf dX11_holds_177
  · have hf := ifn h hf
    refine j_bipush C dX11_holds_85 bp_10 ?_
    refine j_iload 4 C dX11_holds_87 rfl ?_
    refine j_imul C dX11_holds_89 ?_
    refine j_aload_n 0 C dX11_holds_90 rfl ?_
    refine gR_0_14 C wt_848 dX11_holds_91 ?_
    refine j_iload 5 C dX11_holds_94 rfl ?_
    obtain ⟨hI, hf⟩ := gI_s hf
    refine lR_11 C hI dX11_holds_96 ?_
    refine j_iadd C dX11_holds_97 ?_
    refine j_bipush C dX11_holds_98 bp_48 ?_
    refine j_isub C dX11_holds_100 ?_
    refine j_istore [(6, .int (iI (((10 * v6) + (σ.2 11 (ix v7))) - 48))), (0, .ref (ad 0)), (1, .int (iI v1)), (2, .int (iI v2)), (5, .int (iI v5)), (7, .int (iI v7))] C dX11_holds_101 (by decide) rfl ?_
    refine j_iinc 5 [(7, .int (iI (v7 + 1))), (6, .int (iI (((10 * v6) + (σ.2 11 (ix v7))) - 48))), (0, .ref (ad 0)), (1, .int (iI v1)), (2, .int (iI v2)), (5, .int (iI v5))] C dX11_holds_103 (by decide) rfl rfl ?_
    refine j_goto 79 C dX11_holds_106 (by decide) ?_
    exact j_sub [2, 3, 4, 5, 1, 0] rfl (hk79 _ _ _ _ _ _ hf)
theorem tX11_holds_L79 {ad : Nat → Nat} {cI cZ : ClassId} {Γ : Cx} {r : Int} {σ' : St} (C : CX cI cZ rm_X11_holds 8 Γ cX11_holds RX11) (hq : RetI .boolean (wR ad cI cZ) Γ cX11_holds r σ') (n : Nat) : ∀ (v1 v2 v5 v6 v7 : Int), ∀ (σ : St), fX11_holds_L79 n v1 v2 v5 v6 v7 σ = some (r, σ') → JJ (wR ad cI cZ) Γ σ 79 [(0, .ref (ad 0)), (1, .int (iI v1)), (2, .int (iI v2)), (5, .int (iI v5)), (6, .int (iI v6)), (7, .int (iI v7))] [] := by
  induction n with
  | zero => intro _ _ _ _ _ _ hf; cases hf
  | succ n ih => intro v1 v2 v5 v6 v7 σ hf; exact tX11_holds_B79 C hq ih v1 v2 v5 v6 v7 σ hf
set_option maxRecDepth 20000 in
theorem tX11_holds_L0 {ad : Nat → Nat} {cI cZ : ClassId} {Γ : Cx} {r : Int} {σ' : St} (C : CX cI cZ rm_X11_holds 8 Γ cX11_holds RX11) (hq : RetI .boolean (wR ad cI cZ) Γ cX11_holds r σ') (v1 : Int) (v2 : Int) (v3 : Int) (v4 : Int) (σ : St) (hf : fX11_holds_L0 v1 v2 v3 v4 σ = some (r, σ')) : JJ (wR ad cI cZ) Γ σ 0 [(0, .ref (ad 0)), (1, .int (iI v1)), (2, .int (iI v2)), (3, .int (iI v3)), (4, .int (iI v4))] [] := by
  unfold fX11_holds_L0 at hf
  refine j_aload_n 0 C dX11_holds_0 rfl ?_
  refine gR_0_14 C wt_848 dX11_holds_1 ?_
  refine j_iload_n 1 C dX11_holds_4 rfl ?_
  obtain ⟨hI, hf⟩ := gI_s hf
  refine lR_11 C hI dX11_holds_5 ?_
  refine j_bipush C dX11_holds_6 bp_121 ?_
  refine j_icmp_ne 20 C rfl wl_121 dX11_holds_8 (by decide) (fun h => ?_) (fun h => ?_)
  · have hf := ifn h hf
    refine j_aload_n 0 C dX11_holds_20 rfl ?_
    refine gR_0_14 C wt_848 dX11_holds_21 ?_
    refine j_iload_n 1 C dX11_holds_24 rfl ?_
    obtain ⟨hI, hf⟩ := gI_s hf
    refine lR_11 C hI dX11_holds_25 ?_
    refine j_bipush C dX11_holds_26 bp_109 ?_
    refine j_icmp_ne 41 C rfl wl_109 dX11_holds_28 (by decide) (fun h => ?_) (fun h => ?_)
    · have hf := ifn h hf
      refine j_aload_n 0 C dX11_holds_41 rfl ?_
      refine gR_0_14 C wt_848 dX11_holds_42 ?_
      refine j_iload_n 1 C dX11_holds_45 rfl ?_
      obtain ⟨hI, hf⟩ := gI_s hf
      refine lR_11 C hI dX11_holds_46 ?_
      refine j_bipush C dX11_holds_47 bp_115 ?_
      refine j_icmp_ne 62 C rfl wl_115 dX11_holds_49 (by decide) (fun h => ?_) (fun h => ?_)
      · have hf := ifn h hf
        refine j_aload_n 0 C dX11_holds_62 rfl ?_
        refine gR_0_1 C wt_835 dX11_holds_63 ?_
        refine j_iload 4 C dX11_holds_66 rfl ?_
        obtain ⟨hI, hf⟩ := gI_s hf
        refine lR_0 C hI dX11_holds_68 ?_
        refine j_istore [(5, .int (iI (σ.2 0 (ix v4)))), (0, .ref (ad 0)), (1, .int (iI v1)), (2, .int (iI v2)), (3, .int (iI v3)), (4, .int (iI v4))] C dX11_holds_69 (by decide) rfl ?_
        refine j_iconst C dX11_holds_71 ?_
        refine j_istore [(6, .int (iI 0)), (5, .int (iI (σ.2 0 (ix v4)))), (0, .ref (ad 0)), (1, .int (iI v1)), (2, .int (iI v2)), (3, .int (iI v3)), (4, .int (iI v4))] C dX11_holds_72 (by decide) rfl ?_
        refine j_iload_n 3 C dX11_holds_74 rfl ?_
        refine j_iconst C dX11_holds_75 ?_
        refine j_iadd C dX11_holds_76 ?_
        refine j_istore [(7, .int (iI (v1 + 2))), (6, .int (iI 0)), (5, .int (iI (σ.2 0 (ix v4)))), (0, .ref (ad 0)), (1, .int (iI v1)), (2, .int (iI v2)), (3, .int (iI v3)), (4, .int (iI v4))] C dX11_holds_77 (by decide) rfl ?_
        exact j_sub [3, 4, 5, 2, 1, 0] rfl (tX11_holds_L79 C hq 1000 _ _ _ _ _ _ hf)
      · have hf := ifp h hf
        refine j_aload_n 0 C dX11_holds_52 rfl ?_
        refine gR_0_3 C wt_837 dX11_holds_53 ?_
        refine j_iload 4 C dX11_holds_56 rfl ?_
        obtain ⟨hI, hf⟩ := gI_s hf
        refine lR_2 C hI dX11_holds_58 ?_
        refine j_goto 69 C dX11_holds_59 (by decide) ?_
        refine j_istore [(5, .int (iI (σ.2 2 (ix v4)))), (0, .ref (ad 0)), (1, .int (iI v1)), (2, .int (iI v2)), (3, .int (iI v3)), (4, .int (iI v4))] C dX11_holds_69 (by decide) rfl ?_
        refine j_iconst C dX11_holds_71 ?_
        refine j_istore [(6, .int (iI 0)), (5, .int (iI (σ.2 2 (ix v4)))), (0, .ref (ad 0)), (1, .int (iI v1)), (2, .int (iI v2)), (3, .int (iI v3)), (4, .int (iI v4))] C dX11_holds_72 (by decide) rfl ?_
        refine j_iload_n 3 C dX11_holds_74 rfl ?_
        refine j_iconst C dX11_holds_75 ?_
        refine j_iadd C dX11_holds_76 ?_
        refine j_istore [(7, .int (iI (v1 + 2))), (6, .int (iI 0)), (5, .int (iI (σ.2 2 (ix v4)))), (0, .ref (ad 0)), (1, .int (iI v1)), (2, .int (iI v2)), (3, .int (iI v3)), (4, .int (iI v4))] C dX11_holds_77 (by decide) rfl ?_
        exact j_sub [3, 4, 5, 2, 1, 0] rfl (tX11_holds_L79 C hq 1000 _ _ _ _ _ _ hf)
    · have hf := ifp h hf
      refine j_aload_n 0 C dX11_holds_31 rfl ?_
      refine gR_0_2 C wt_836 dX11_holds_32 ?_
      refine j_iload 4 C dX11_holds_35 rfl ?_
      obtain ⟨hI, hf⟩ := gI_s hf
      refine lR_1 C hI dX11_holds_37 ?_
      refine j_goto 69 C dX11_holds_38 (by decide) ?_
      refine j_istore [(5, .int (iI (σ.2 1 (ix v4)))), (0, .ref (ad 0)), (1, .int (iI v1)), (2, .int (iI v2)), (3, .int (iI v3)), (4, .int (iI v4))] C dX11_holds_69 (by decide) rfl ?_
      refine j_iconst C dX11_holds_71 ?_
      refine j_istore [(6, .int (iI 0)), (5, .int (iI (σ.2 1 (ix v4)))), (0, .ref (ad 0)), (1, .int (iI v1)), (2, .int (iI v2)), (3, .int (iI v3)), (4, .int (iI v4))] C dX11_holds_72 (by decide) rfl ?_
      refine j_iload_n 3 C dX11_holds_74 rfl ?_
      refine j_iconst C dX11_holds_75 ?_
      refine j_iadd C dX11_holds_76 ?_
      refine j_istore [(7, .int (iI (v1 + 2))), (6, .int (iI 0)), (5, .int (iI (σ.2 1 (ix v4)))), (0, .ref (ad 0)), (1, .int (iI v1)), (2, .int (iI v2)), (3, .int (iI v3)), (4, .int (iI v4))] C dX11_holds_77 (by decide) rfl ?_
      exact j_sub [3, 4, 5, 2, 1, 0] rfl (tX11_holds_L79 C hq 1000 _ _ _ _ _ _ hf)
  · have hf := ifp h hf
    refine j_aload_n 0 C dX11_holds_11 rfl ?_
    refine gR_0_6 C wt_840 dX11_holds_12 ?_
    refine j_iload_n 3 C dX11_holds_15 rfl ?_
    obtain ⟨hI, hf⟩ := gI_s hf
    refine lR_3 C hI dX11_holds_16 ?_
    refine j_goto 69 C dX11_holds_17 (by decide) ?_
    refine j_istore [(5, .int (iI (σ.2 3 (ix v3)))), (0, .ref (ad 0)), (1, .int (iI v1)), (2, .int (iI v2)), (3, .int (iI v3)), (4, .int (iI v4))] C dX11_holds_69 (by decide) rfl ?_
    refine j_iconst C dX11_holds_71 ?_
    refine j_istore [(6, .int (iI 0)), (5, .int (iI (σ.2 3 (ix v3)))), (0, .ref (ad 0)), (1, .int (iI v1)), (2, .int (iI v2)), (3, .int (iI v3)), (4, .int (iI v4))] C dX11_holds_72 (by decide) rfl ?_
    refine j_iload_n 3 C dX11_holds_74 rfl ?_
    refine j_iconst C dX11_holds_75 ?_
    refine j_iadd C dX11_holds_76 ?_
    refine j_istore [(7, .int (iI (v1 + 2))), (6, .int (iI 0)), (5, .int (iI (σ.2 3 (ix v3)))), (0, .ref (ad 0)), (1, .int (iI v1)), (2, .int (iI v2)), (3, .int (iI v3)), (4, .int (iI v4))] C dX11_holds_77 (by decide) rfl ?_
    exact j_sub [3, 4, 5, 2, 1, 0] rfl (tX11_holds_L79 C hq 1000 _ _ _ _ _ _ hf)
theorem c_X11_holds (l : Launch) (D : va_G) (ad : Nat → Nat) (cI cZ : ClassId) (σ : St) (v1 : Int) (v2 : Int) (v3 : Int) (v4 : Int) (r : Int) (σ' : St) (hf : fX11_holds σ v1 v2 v3 v4 = some (r, σ')) : McI l yX11_holds cX11_holds 8 .boolean rm_X11_holds D (tyL cI cZ) (wR ad cI cZ) [.ref (ad 0), .int (iI v1), .int (iI v2), .int (iI v3), .int (iI v4)] σ r σ' := McI.mk mf_X11_holds.2.2.2.2.2 (Nat.le_of_ble_eq_true rfl) (fun Γ C hq => j_sub [0, 1, 2, 3, 4] rfl (tX11_holds_L0 C hq v1 v2 v3 v4 σ hf))
/-! TermLodgingsModel.mayLive(II)Z -/
def rm_X11_mayLive : Room := { frames := 3, cells := 0, slots := 0, locals := 68 }
set_option maxRecDepth 20000 in
theorem tX11_mayLive_L133 {ad : Nat → Nat} {cI cZ : ClassId} {Γ : Cx} {r : Int} {σ' : St} (C : CX cI cZ rm_X11_mayLive 7 Γ cX11_mayLive RX11) (hq : RetI .boolean (wR ad cI cZ) Γ cX11_mayLive r σ') {k44 : Int → Int → Int → Int → Int → St → Option (Int × St)} (hk44 : ∀ (v1 : Int) (v2 : Int) (v3 : Int) (v4 : Int) (v5 : Int) (σ : St), k44 v1 v2 v3 v4 v5 σ = some (r, σ') → JJ (wR ad cI cZ) Γ σ 44 [(0, .ref (ad 0)), (1, .int (iI v1)), (2, .int (iI v2)), (3, .int (iI v3)), (4, .int (iI v4)), (5, .int (iI v5))] []) (v1 : Int) (v2 : Int) (v3 : Int) (v4 : Int) (v6 : Int) (σ : St) (hf : fX11_mayLive_L133 k44 v1 v2 v3 v4 v6 σ = some (r, σ')) : JJ (wR ad cI cZ) Γ σ 133 [(0, .ref (ad 0)), (1, .int (iI v1)), (2, .int (iI v2)), (3, .int (iI v3)), (4, .int (iI v4)), (6, .int (iI v6))] [] := by
  unfold fX11_mayLive_L133 at hf
  refine j_iload_n 3 C dX11_mayLive_133 rfl ?_
  refine j_if_ne 142 C rfl dX11_mayLive_134 (by decide) (fun h => ?_) (fun h => ?_)
  · have hf := ifn h hf
    refine j_iconst C dX11_mayLive_142 ?_
    refine j_goto 147 C dX11_mayLive_143 (by decide) ?_
    refine j_istore_n [(3, .int (iI 1)), (0, .ref (ad 0)), (1, .int (iI v1)), (2, .int (iI v2)), (4, .int (iI v4)), (6, .int (iI v6))] C dX11_mayLive_147 (by decide) rfl ?_
    refine j_iconst C dX11_mayLive_148 ?_
    refine j_istore [(4, .int (iI 1)), (3, .int (iI 1)), (0, .ref (ad 0)), (1, .int (iI v1)), (2, .int (iI v2)), (6, .int (iI v6))] C dX11_mayLive_149 (by decide) rfl ?_
    refine j_iload 5 C dX11_mayLive_151 rfl ?_
    refine j_iconst C dX11_mayLive_153 ?_
    refine j_iadd C dX11_mayLive_154 ?_
    refine j_istore [(5, .int (iI (v6 + 1))), (4, .int (iI 1)), (3, .int (iI 1)), (0, .ref (ad 0)), (1, .int (iI v1)), (2, .int (iI v2)), (6, .int (iI v6))] C dX11_mayLive_155 (by decide) rfl ?_
    refine j_goto 44 C dX11_mayLive_157 (by decide) ?_
    exact j_sub [3, 4, 5, 2, 1, 0] rfl (hk44 _ _ _ _ _ _ hf)
  · have hf := ifp h hf
    refine j_iload 4 C dX11_mayLive_137 rfl ?_
    refine j_if_eq 146 C rfl dX11_mayLive_139 (by decide) (fun h => ?_) (fun h => ?_)
    · have hf := ifp h hf
      refine j_iconst C dX11_mayLive_146 ?_
      refine j_istore_n [(3, .int (iI 0)), (0, .ref (ad 0)), (1, .int (iI v1)), (2, .int (iI v2)), (4, .int (iI v4)), (6, .int (iI v6))] C dX11_mayLive_147 (by decide) rfl ?_
      refine j_iconst C dX11_mayLive_148 ?_
      refine j_istore [(4, .int (iI 1)), (3, .int (iI 0)), (0, .ref (ad 0)), (1, .int (iI v1)), (2, .int (iI v2)), (6, .int (iI v6))] C dX11_mayLive_149 (by decide) rfl ?_
      refine j_iload 5 C dX11_mayLive_151 rfl ?_
      refine j_iconst C dX11_mayLive_153 ?_
      refine j_iadd C dX11_mayLive_154 ?_
      refine j_istore [(5, .int (iI (v6 + 1))), (4, .int (iI 1)), (3, .int (iI 0)), (0, .ref (ad 0)), (1, .int (iI v1)), (2, .int (iI v2)), (6, .int (iI v6))] C dX11_mayLive_155 (by decide) rfl ?_
      refine j_goto 44 C dX11_mayLive_157 (by decide) ?_
      exact j_sub [3, 4, 5, 2, 1, 0] rfl (hk44 _ _ _ _ _ _ hf)
    · have hf := ifn h hf
      refine j_iconst C dX11_mayLive_142 ?_
      refine j_goto 147 C dX11_mayLive_143 (by decide) ?_
      refine j_istore_n [(3, .int (iI 1)), (0, .ref (ad 0)), (1, .int (iI v1)), (2, .int (iI v2)), (4, .int (iI v4)), (6, .int (iI v6))] C dX11_mayLive_147 (by decide) rfl ?_
      refine j_iconst C dX11_mayLive_148 ?_
      refine j_istore [(4, .int (iI 1)), (3, .int (iI 1)), (0, .ref (ad 0)), (1, .int (iI v1)), (2, .int (iI v2)), (6, .int (iI v6))] C dX11_mayLive_149 (by decide) rfl ?_
      refine j_iload 5 C dX11_mayLive_151 rfl ?_
      refine j_iconst C dX11_mayLive_153 ?_
      refine j_iadd C dX11_mayLive_154 ?_
      refine j_istore [(5, .int (iI (v6 + 1))), (4, .int (iI 1)), (3, .int (iI 1)), (0, .ref (ad 0)), (1, .int (iI v1)), (2, .int (iI v2)), (6, .int (iI v6))] C dX11_mayLive_155 (by decide) rfl ?_
      refine j_goto 44 C dX11_mayLive_157 (by decide) ?_
      exact j_sub [3, 4, 5, 2, 1, 0] rfl (hk44 _ _ _ _ _ _ hf)
set_option maxRecDepth 20000 in
theorem tX11_mayLive_L110 {ad : Nat → Nat} {cI cZ : ClassId} {Γ : Cx} {r : Int} {σ' : St} (C : CX cI cZ rm_X11_mayLive 7 Γ cX11_mayLive RX11) (hq : RetI .boolean (wR ad cI cZ) Γ cX11_mayLive r σ') {k44 : Int → Int → Int → Int → Int → St → Option (Int × St)} (hk44 : ∀ (v1 : Int) (v2 : Int) (v3 : Int) (v4 : Int) (v5 : Int) (σ : St), k44 v1 v2 v3 v4 v5 σ = some (r, σ') → JJ (wR ad cI cZ) Γ σ 44 [(0, .ref (ad 0)), (1, .int (iI v1)), (2, .int (iI v2)), (3, .int (iI v3)), (4, .int (iI v4)), (5, .int (iI v5))] []) (v1 : Int) (v2 : Int) (v3 : Int) (v6 : Int) (t0 : Int) (σ : St) (hf : fX11_mayLive_L110 k44 v1 v2 v3 v6 t0 σ = some (r, σ')) : JJ (wR ad cI cZ) Γ σ 110 [(0, .ref (ad 0)), (1, .int (iI v1)), (2, .int (iI v2)), (3, .int (iI v3)), (6, .int (iI v6))] [.int (iI t0)] := by
  unfold fX11_mayLive_L110 at hf
  refine j_istore [(4, .int (iI t0)), (0, .ref (ad 0)), (1, .int (iI v1)), (2, .int (iI v2)), (3, .int (iI v3)), (6, .int (iI v6))] C dX11_mayLive_110 (by decide) rfl ?_
  refine j_iload 5 C dX11_mayLive_112 rfl ?_
  refine j_aload_n 1 C dX11_mayLive_114 rfl ?_
  refine gR_0_15 C wt_849 dX11_mayLive_115 ?_
  refine j_icmp_eq 133 C rfl rfl dX11_mayLive_118 (by decide) (fun h => ?_) (fun h => ?_)
  · have hf := ifp h hf
    exact j_sub [1, 2, 3, 4, 0, 5] rfl (tX11_mayLive_L133 C hq hk44 _ _ _ _ _ _ hf)
  · have hf := ifn h hf
    refine j_aload_n 1 C dX11_mayLive_121 rfl ?_
    refine gR_0_14 C wt_848 dX11_mayLive_122 ?_
    refine j_iload 5 C dX11_mayLive_125 rfl ?_
    obtain ⟨hI, hf⟩ := gI_s hf
    refine lR_11 C hI dX11_mayLive_127 ?_
    refine j_bipush C dX11_mayLive_128 bp_124 ?_
    refine j_icmp_ne 151 C rfl wl_124 dX11_mayLive_130 (by decide) (fun h => ?_) (fun h => ?_)
    · have hf := ifn h hf
      refine j_iload 5 C dX11_mayLive_151 rfl ?_
      refine j_iconst C dX11_mayLive_153 ?_
      refine j_iadd C dX11_mayLive_154 ?_
      refine j_istore [(5, .int (iI (v6 + 1))), (4, .int (iI t0)), (0, .ref (ad 0)), (1, .int (iI v1)), (2, .int (iI v2)), (3, .int (iI v3)), (6, .int (iI v6))] C dX11_mayLive_155 (by decide) rfl ?_
      refine j_goto 44 C dX11_mayLive_157 (by decide) ?_
      exact j_sub [2, 3, 4, 5, 1, 0] rfl (hk44 _ _ _ _ _ _ hf)
    · have hf := ifp h hf
      exact j_sub [1, 2, 3, 4, 0, 5] rfl (tX11_mayLive_L133 C hq hk44 _ _ _ _ _ _ hf)
set_option maxRecDepth 20000 in
theorem tX11_mayLive_L87 {ad : Nat → Nat} {cI cZ : ClassId} {Γ : Cx} {r : Int} {σ' : St} (C : CX cI cZ rm_X11_mayLive 7 Γ cX11_mayLive RX11) (hq : RetI .boolean (wR ad cI cZ) Γ cX11_mayLive r σ') {k44 : Int → Int → Int → Int → Int → St → Option (Int × St)} (hk44 : ∀ (v1 : Int) (v2 : Int) (v3 : Int) (v4 : Int) (v5 : Int) (σ : St), k44 v1 v2 v3 v4 v5 σ = some (r, σ') → JJ (wR ad cI cZ) Γ σ 44 [(0, .ref (ad 0)), (1, .int (iI v1)), (2, .int (iI v2)), (3, .int (iI v3)), (4, .int (iI v4)), (5, .int (iI v5))] []) (v1 : Int) (v2 : Int) (v3 : Int) (v4 : Int) (v5 : Int) (v6 : Int) (σ : St) (hf : fX11_mayLive_L87 k44 v1 v2 v3 v4 v5 v6 σ = some (r, σ')) : JJ (wR ad cI cZ) Γ σ 87 [(0, .ref (ad 0)), (1, .int (iI v1)), (2, .int (iI v2)), (3, .int (iI v3)), (4, .int (iI v4)), (5, .int (iI v5)), (6, .int (iI v6))] [] := by
  unfold fX11_mayLive_L87 at hf
  refine j_iload 4 C dX11_mayLive_87 rfl ?_
  refine j_if_eq 109 C rfl dX11_mayLive_89 (by decide) (fun h => ?_) (fun h => ?_)
  · have hf := ifp h hf
    refine j_iconst C dX11_mayLive_109 ?_
    exact j_sub [0, 1, 2, 3, 6] rfl (tX11_mayLive_L110 C hq hk44 _ _ _ _ _ _ hf)
  · have hf := ifn h hf
    refine j_aload_n 0 C dX11_mayLive_92 rfl ?_
    refine j_iload 5 C dX11_mayLive_93 rfl ?_
    refine j_iload 6 C dX11_mayLive_95 rfl ?_
    refine j_iload_n 1 C dX11_mayLive_97 rfl ?_
    refine j_iload_n 2 C dX11_mayLive_98 rfl ?_
    obtain ⟨a1, s1, hc, hf⟩ := bd_s hf
    refine j_cVi (q0 := 0) (ci := 11) (T := TX11) (N := 32) [.int (iI v5), .int (iI v6), .int (iI v1), .int (iI v2)] [] C (c_X11_holds _ _ ad cI cZ _ _ _ _ _ _ _ hc) mf_X11_holds wt_1003 wt_1005 ws_36 rfl rfl rfl ⟨rfl, rfl, by decide, by decide⟩ rfl (Nat.le_of_ble_eq_true rfl) dX11_mayLive_99 ?_
    refine j_if_eq 109 C rfl dX11_mayLive_102 (by decide) (fun h => ?_) (fun h => ?_)
    · have hf := ifp h hf
      refine j_iconst C dX11_mayLive_109 ?_
      exact j_sub [0, 1, 2, 3, 6] rfl (tX11_mayLive_L110 C hq hk44 _ _ _ _ _ _ hf)
    · have hf := ifn h hf
      refine j_iconst C dX11_mayLive_105 ?_
      refine j_goto 110 C dX11_mayLive_106 (by decide) ?_
      exact j_sub [0, 1, 2, 3, 6] rfl (tX11_mayLive_L110 C hq hk44 _ _ _ _ _ _ hf)
set_option maxRecDepth 20000 in
theorem tX11_mayLive_B59 {ad : Nat → Nat} {cI cZ : ClassId} {Γ : Cx} {r : Int} {σ' : St} (C : CX cI cZ rm_X11_mayLive 7 Γ cX11_mayLive RX11) (hq : RetI .boolean (wR ad cI cZ) Γ cX11_mayLive r σ') {k44 : Int → Int → Int → Int → Int → St → Option (Int × St)} {k59 : Int → Int → Int → Int → Int → Int → St → Option (Int × St)} (hk44 : ∀ (v1 : Int) (v2 : Int) (v3 : Int) (v4 : Int) (v5 : Int) (σ : St), k44 v1 v2 v3 v4 v5 σ = some (r, σ') → JJ (wR ad cI cZ) Γ σ 44 [(0, .ref (ad 0)), (1, .int (iI v1)), (2, .int (iI v2)), (3, .int (iI v3)), (4, .int (iI v4)), (5, .int (iI v5))] []) (hk59 : ∀ (v1 : Int) (v2 : Int) (v3 : Int) (v4 : Int) (v5 : Int) (v6 : Int) (σ : St), k59 v1 v2 v3 v4 v5 v6 σ = some (r, σ') → JJ (wR ad cI cZ) Γ σ 59 [(0, .ref (ad 0)), (1, .int (iI v1)), (2, .int (iI v2)), (3, .int (iI v3)), (4, .int (iI v4)), (5, .int (iI v5)), (6, .int (iI v6))] []) (v1 : Int) (v2 : Int) (v3 : Int) (v4 : Int) (v5 : Int) (v6 : Int) (σ : St) (hf : fX11_mayLive_B59 k44 k59 v1 v2 v3 v4 v5 v6 σ = some (r, σ')) : JJ (wR ad cI cZ) Γ σ 59 [(0, .ref (ad 0)), (1, .int (iI v1)), (2, .int (iI v2)), (3, .int (iI v3)), (4, .int (iI v4)), (5, .int (iI v5)), (6, .int (iI v6))] [] := by
  unfold fX11_mayLive_B59 at hf
  refine j_iload 6 C dX11_mayLive_59 rfl ?_
  refine j_aload_n 0 C dX11_mayLive_61 rfl ?_
  refine gR_0_15 C wt_849 dX11_mayLive_62 ?_
  refine j_icmp_ge 87 C rfl rfl dX11_mayLive_65 (by decide) (fun h => ?_) (fun h => ?_)
  · have hf := ifp h hf
    exact j_sub [0, 1, 2, 3, 4, 5, 6] rfl (tX11_mayLive_L87 C hq hk44 _ _ _ _ _ _ _ hf)
  · have hf := ifn h hf
    refine j_aload_n 0 C dX11_mayLive_68 rfl ?_
    refine gR_0_14 C wt_848 dX11_mayLive_69 ?_
    refine j_iload 6 C dX11_mayLive_72 rfl ?_
    obtain ⟨hI, hf⟩ := gI_s hf
    refine lR_11 C hI dX11_mayLive_74 ?_
    obtain ⟨a2, s2, hc, hf⟩ := bd_s hf
    refine j_cSi [.int (iI (σ.2 11 (ix v6)))] [] C (c_X11_isFigure _ _ ad cI cZ _ _ _ _ hc) mf_X11_isFigure wt_998 wt_999 rfl ⟨rfl, rfl, by decide, by decide⟩ rfl (Nat.le_of_ble_eq_true rfl) dX11_mayLive_75 ?_
    refine j_if_eq 87 C rfl dX11_mayLive_78 (by decide) (fun h => ?_) (fun h => ?_)
    · have hf := ifp h hf
      exact j_sub [0, 1, 2, 3, 4, 5, 6] rfl (tX11_mayLive_L87 C hq hk44 _ _ _ _ _ _ _ hf)
    · have hf := ifn h hf
      refine j_iinc 6 [(6, .int (iI (v6 + 1))), (0, .ref (ad 0)), (1, .int (iI v1)), (2, .int (iI v2)), (3, .int (iI v3)), (4, .int (iI v4)), (5, .int (iI v5))] C dX11_mayLive_81 (by decide) rfl rfl ?_
      refine j_goto 59 C dX11_mayLive_84 (by decide) ?_
      exact j_sub [1, 2, 3, 4, 5, 6, 0] rfl (hk59 _ _ _ _ _ _ _ hf)
theorem tX11_mayLive_L59 {ad : Nat → Nat} {cI cZ : ClassId} {Γ : Cx} {r : Int} {σ' : St} (C : CX cI cZ rm_X11_mayLive 7 Γ cX11_mayLive RX11) (hq : RetI .boolean (wR ad cI cZ) Γ cX11_mayLive r σ') {k44 : Int → Int → Int → Int → Int → St → Option (Int × St)} (hk44 : ∀ (v1 : Int) (v2 : Int) (v3 : Int) (v4 : Int) (v5 : Int) (σ : St), k44 v1 v2 v3 v4 v5 σ = some (r, σ') → JJ (wR ad cI cZ) Γ σ 44 [(0, .ref (ad 0)), (1, .int (iI v1)), (2, .int (iI v2)), (3, .int (iI v3)), (4, .int (iI v4)), (5, .int (iI v5))] []) (n : Nat) : ∀ (v1 v2 v3 v4 v5 v6 : Int), ∀ (σ : St), fX11_mayLive_L59 k44 n v1 v2 v3 v4 v5 v6 σ = some (r, σ') → JJ (wR ad cI cZ) Γ σ 59 [(0, .ref (ad 0)), (1, .int (iI v1)), (2, .int (iI v2)), (3, .int (iI v3)), (4, .int (iI v4)), (5, .int (iI v5)), (6, .int (iI v6))] [] := by
  induction n with
  | zero => intro _ _ _ _ _ _ _ hf; cases hf
  | succ n ih => intro v1 v2 v3 v4 v5 v6 σ hf; exact tX11_mayLive_B59 C hq hk44 ih v1 v2 v3 v4 v5 v6 σ hf
set_option maxRecDepth 20000 in
theorem tX11_mayLive_B44 {ad : Nat → Nat} {cI cZ : ClassId} {Γ : Cx} {r : Int} {σ' : St} (C : CX cI cZ rm_X11_mayLive 7 Γ cX11_mayLive RX11) (hq : RetI .boolean (wR ad cI cZ) Γ cX11_mayLive r σ') {k44 : Int → Int → Int → Int → Int → St → Option (Int × St)} (hk44 : ∀ (v1 : Int) (v2 : Int) (v3 : Int) (v4 : Int) (v5 : Int) (σ : St), k44 v1 v2 v3 v4 v5 σ = some (r, σ') → JJ (wR ad cI cZ) Γ σ 44 [(0, .ref (ad 0)), (1, .int (iI v1)), (2, .int (iI v2)), (3, .int (iI v3)), (4, .int (iI v4)), (5, .int (iI v5))] []) (v1 : Int) (v2 : Int) (v3 : Int) (v4 : Int) (v5 : Int) (σ : St) (hf : fX11_mayLive_B44 k44 v1 v2 v3 v4 v5 σ = some (r, σ')) : JJ (wR ad cI cZ) Γ σ 44 [(0, .ref (ad 0)), (1, .int (iI v1)), (2, .int (iI v2)), (3, .int (iI v3)), (4, .int (iI v4)), (5, .int (iI v5))] [] := by
  unfold fX11_mayLive_B44 at hf
  refine j_iload 5 C dX11_mayLive_44 rfl ?_
  refine j_aload_n 0 C dX11_mayLive_46 rfl ?_
  refine gR_0_15 C wt_849 dX11_mayLive_47 ?_
  refine j_icmp_ge 160 C rfl rfl dX11_mayLive_50 (by decide) (fun h => ?_) (fun h => ?_)
  · have hf := ifp h hf
    refine j_iload_n 3 C dX11_mayLive_160 rfl ?_
    exact retZ hq hf dX11_mayLive_161
  · have hf := ifn h hf
    refine j_iload 5 C dX11_mayLive_53 rfl ?_
    refine j_iconst C dX11_mayLive_55 ?_
    refine j_iadd C dX11_mayLive_56 ?_
    refine j_istore [(6, .int (iI (v5 + 3))), (0, .ref (ad 0)), (1, .int (iI v1)), (2, .int (iI v2)), (3, .int (iI v3)), (4, .int (iI v4)), (5, .int (iI v5))] C dX11_mayLive_57 (by decide) rfl ?_
    exact j_sub [1, 2, 3, 4, 5, 6, 0] rfl (tX11_mayLive_L59 C hq hk44 1000 _ _ _ _ _ _ _ hf)
theorem tX11_mayLive_L44 {ad : Nat → Nat} {cI cZ : ClassId} {Γ : Cx} {r : Int} {σ' : St} (C : CX cI cZ rm_X11_mayLive 7 Γ cX11_mayLive RX11) (hq : RetI .boolean (wR ad cI cZ) Γ cX11_mayLive r σ') (n : Nat) : ∀ (v1 v2 v3 v4 v5 : Int), ∀ (σ : St), fX11_mayLive_L44 n v1 v2 v3 v4 v5 σ = some (r, σ') → JJ (wR ad cI cZ) Γ σ 44 [(0, .ref (ad 0)), (1, .int (iI v1)), (2, .int (iI v2)), (3, .int (iI v3)), (4, .int (iI v4)), (5, .int (iI v5))] [] := by
  induction n with
  | zero => intro _ _ _ _ _ _ hf; cases hf
  | succ n ih => intro v1 v2 v3 v4 v5 σ hf; exact tX11_mayLive_B44 C hq ih v1 v2 v3 v4 v5 σ hf
set_option maxRecDepth 20000 in
theorem tX11_mayLive_L0 {ad : Nat → Nat} {cI cZ : ClassId} {Γ : Cx} {r : Int} {σ' : St} (C : CX cI cZ rm_X11_mayLive 7 Γ cX11_mayLive RX11) (hq : RetI .boolean (wR ad cI cZ) Γ cX11_mayLive r σ') (v1 : Int) (v2 : Int) (σ : St) (hf : fX11_mayLive_L0 v1 v2 σ = some (r, σ')) : JJ (wR ad cI cZ) Γ σ 0 [(0, .ref (ad 0)), (1, .int (iI v1)), (2, .int (iI v2))] [] := by
  unfold fX11_mayLive_L0 at hf
  refine j_aload_n 0 C dX11_mayLive_0 rfl ?_
  refine gR_0_4 C wt_838 dX11_mayLive_1 ?_
  refine j_aload_n 0 C dX11_mayLive_4 rfl ?_
  refine gR_0_1 C wt_835 dX11_mayLive_5 ?_
  refine j_iload_n 2 C dX11_mayLive_8 rfl ?_
  obtain ⟨hI, hf⟩ := gI_s hf
  refine lR_0 C hI dX11_mayLive_9 ?_
  refine j_ishr C dX11_mayLive_10 ?_
  refine j_iconst C dX11_mayLive_11 ?_
  refine j_iand C dX11_mayLive_12 ?_
  refine j_iconst C dX11_mayLive_13 ?_
  refine j_icmp_ne 19 C rfl wl_1 dX11_mayLive_14 (by decide) (fun h => ?_) (fun h => ?_)
  · have hf := ifn h hf
    refine j_aload_n 0 C dX11_mayLive_19 rfl ?_
    refine gR_0_15 C wt_849 dX11_mayLive_20 ?_
    refine j_if_eq 34 C rfl dX11_mayLive_23 (by decide) (fun h => ?_) (fun h => ?_)
    · have hf := ifp h hf
      refine j_iconst C dX11_mayLive_34 ?_
      exact retZc hq isB_1 hf dX11_mayLive_35
    · have hf := ifn h hf
      refine j_aload_n 0 C dX11_mayLive_26 rfl ?_
      obtain ⟨a3, s3, hc, hf⟩ := bd_s hf
      refine j_cVi (q0 := 0) (ci := 11) (T := TX11) (N := 32) [] [] C (c_X11_fault _ _ ad cI cZ _ _ _ hc) mf_X11_fault wt_988 wt_989 wt_990 rfl rfl rfl ⟨rfl, rfl, by decide, by decide⟩ rfl (Nat.le_of_ble_eq_true rfl) dX11_mayLive_27 ?_
      refine j_iconst C dX11_mayLive_30 ?_
      refine j_icmp_eq 36 C rfl wl_m1 dX11_mayLive_31 (by decide) (fun h => ?_) (fun h => ?_)
      · have hf := ifp h hf
        refine j_iconst C dX11_mayLive_36 ?_
        refine j_istore_n [(3, .int (iI 0)), (0, .ref (ad 0)), (1, .int (iI v1)), (2, .int (iI v2))] C dX11_mayLive_37 (by decide) rfl ?_
        refine j_iconst C dX11_mayLive_38 ?_
        refine j_istore [(4, .int (iI 1)), (3, .int (iI 0)), (0, .ref (ad 0)), (1, .int (iI v1)), (2, .int (iI v2))] C dX11_mayLive_39 (by decide) rfl ?_
        refine j_iconst C dX11_mayLive_41 ?_
        refine j_istore [(5, .int (iI 0)), (4, .int (iI 1)), (3, .int (iI 0)), (0, .ref (ad 0)), (1, .int (iI v1)), (2, .int (iI v2))] C dX11_mayLive_42 (by decide) rfl ?_
        exact j_sub [3, 4, 5, 2, 1, 0] rfl (tX11_mayLive_L44 C hq 1000 _ _ _ _ _ _ hf)
      · have hf := ifn h hf
        refine j_iconst C dX11_mayLive_34 ?_
        exact retZc hq isB_1 hf dX11_mayLive_35
  · have hf := ifp h hf
    refine j_iconst C dX11_mayLive_17 ?_
    exact retZc hq isB_0 hf dX11_mayLive_18
theorem c_X11_mayLive (l : Launch) (D : va_G) (ad : Nat → Nat) (cI cZ : ClassId) (σ : St) (v1 : Int) (v2 : Int) (r : Int) (σ' : St) (hf : fX11_mayLive σ v1 v2 = some (r, σ')) : McI l yX11_mayLive cX11_mayLive 7 .boolean rm_X11_mayLive D (tyL cI cZ) (wR ad cI cZ) [.ref (ad 0), .int (iI v1), .int (iI v2)] σ r σ' := McI.mk mf_X11_mayLive.2.2.2.2.2 (Nat.le_of_ble_eq_true rfl) (fun Γ C hq => j_sub [0, 1, 2] rfl (tX11_mayLive_L0 C hq v1 v2 σ hf))
/-! TermLodgingsModel.give(II)I -/
def rm_X11_give : Room := { frames := 4, cells := 0, slots := 0, locals := 94 }
set_option maxRecDepth 20000 in
theorem tX11_give_L47 {ad : Nat → Nat} {cI cZ : ClassId} {Γ : Cx} {r : Int} {σ' : St} (C : CX cI cZ rm_X11_give 4 Γ cX11_give RX11) (hq : RetI .int (wR ad cI cZ) Γ cX11_give r σ') (v1 : Int) (v2 : Int) (σ : St) (hf : fX11_give_L47 v1 v2 σ = some (r, σ')) : JJ (wR ad cI cZ) Γ σ 47 [(0, .ref (ad 0)), (1, .int (iI v1)), (2, .int (iI v2))] [] := by
  unfold fX11_give_L47 at hf
  refine j_aload_n 0 C dX11_give_47 rfl ?_
  refine j_iload_n 1 C dX11_give_48 rfl ?_
  refine j_iload_n 2 C dX11_give_49 rfl ?_
  obtain ⟨a1, s1, hc, hf⟩ := bd_s hf
  refine j_cVi (q0 := 0) (ci := 11) (T := TX11) (N := 32) [.int (iI v1), .int (iI v2)] [] C (c_X11_mayLive _ _ ad cI cZ _ _ _ _ _ hc) mf_X11_mayLive wt_984 wt_986 ws_35 rfl rfl rfl ⟨rfl, rfl, by decide, by decide⟩ rfl (Nat.le_of_ble_eq_true rfl) dX11_give_50 ?_
  refine j_if_ne 59 C rfl dX11_give_53 (by decide) (fun h => ?_) (fun h => ?_)
  · have hf := ifn h hf
    refine j_aload_n 0 C dX11_give_59 rfl ?_
    refine gR_0_10 C wt_844 dX11_give_60 ?_
    refine j_iload_n 1 C dX11_give_63 rfl ?_
    obtain ⟨hI, hf⟩ := gI_s hf
    refine lR_7 C hI dX11_give_64 ?_
    refine j_istore_n [(3, .int (iI (s1.2 7 (ix v1)))), (0, .ref (ad 0)), (1, .int (iI v1)), (2, .int (iI v2))] C dX11_give_65 (by decide) rfl ?_
    refine j_aload_n 1 C dX11_give_66 rfl ?_
    refine gR_0_10 C wt_844 dX11_give_67 ?_
    refine j_iload_n 2 C dX11_give_70 rfl ?_
    refine j_iload_n 3 C dX11_give_71 rfl ?_
    obtain ⟨hI, hf⟩ := gI_s hf
    refine tR_7 C hI dX11_give_72 ?_
    refine j_iload_n 0 C dX11_give_73 rfl ?_
    exact retI hq hf dX11_give_74
  · have hf := ifp h hf
    refine j_bipush C dX11_give_56 bp_m3 ?_
    exact retI hq hf dX11_give_58
set_option maxRecDepth 20000 in
theorem tX11_give_L24 {ad : Nat → Nat} {cI cZ : ClassId} {Γ : Cx} {r : Int} {σ' : St} (C : CX cI cZ rm_X11_give 4 Γ cX11_give RX11) (hq : RetI .int (wR ad cI cZ) Γ cX11_give r σ') (v1 : Int) (v2 : Int) (σ : St) (hf : fX11_give_L24 v1 v2 σ = some (r, σ')) : JJ (wR ad cI cZ) Γ σ 24 [(0, .ref (ad 0)), (1, .int (iI v1)), (2, .int (iI v2))] [] := by
  unfold fX11_give_L24 at hf
  refine j_iload_n 2 C dX11_give_24 rfl ?_
  refine j_iconst C dX11_give_25 ?_
  refine j_icmp_eq 59 C rfl wl_m1 dX11_give_26 (by decide) (fun h => ?_) (fun h => ?_)
  · have hf := ifp h hf
    refine j_aload_n 0 C dX11_give_59 rfl ?_
    refine gR_0_10 C wt_844 dX11_give_60 ?_
    refine j_iload_n 1 C dX11_give_63 rfl ?_
    obtain ⟨hI, hf⟩ := gI_s hf
    refine lR_7 C hI dX11_give_64 ?_
    refine j_istore_n [(3, .int (iI (σ.2 7 (ix v1)))), (0, .ref (ad 0)), (1, .int (iI v1)), (2, .int (iI v2))] C dX11_give_65 (by decide) rfl ?_
    refine j_aload_n 1 C dX11_give_66 rfl ?_
    refine gR_0_10 C wt_844 dX11_give_67 ?_
    refine j_iload_n 2 C dX11_give_70 rfl ?_
    refine j_iload_n 3 C dX11_give_71 rfl ?_
    obtain ⟨hI, hf⟩ := gI_s hf
    refine tR_7 C hI dX11_give_72 ?_
    refine j_iload_n 0 C dX11_give_73 rfl ?_
    exact retI hq hf dX11_give_74
  · have hf := ifn h hf
    refine j_aload_n 0 C dX11_give_29 rfl ?_
    refine j_iload_n 2 C dX11_give_30 rfl ?_
    obtain ⟨a2, s2, hc, hf⟩ := bd_s hf
    refine j_cVi (q0 := 0) (ci := 11) (T := TX11) (N := 32) [.int (iI v2)] [] C (c_X11_whoHas _ _ ad cI cZ _ _ _ _ hc) mf_X11_whoHas wt_976 wt_978 ws_34 rfl rfl rfl ⟨rfl, rfl, by decide, by decide⟩ rfl (Nat.le_of_ble_eq_true rfl) dX11_give_31 ?_
    refine j_iconst C dX11_give_34 ?_
    refine j_icmp_eq 47 C rfl wl_m1 dX11_give_35 (by decide) (fun h => ?_) (fun h => ?_)
    · have hf := ifp h hf
      exact j_sub [0, 1, 2] rfl (tX11_give_L47 C hq _ _ _ hf)
    · have hf := ifn h hf
      refine j_aload_n 0 C dX11_give_38 rfl ?_
      refine j_iload_n 2 C dX11_give_39 rfl ?_
      obtain ⟨a3, s3, hc, hf⟩ := bd_s hf
      refine j_cVi (q0 := 0) (ci := 11) (T := TX11) (N := 32) [.int (iI v2)] [] C (c_X11_whoHas _ _ ad cI cZ _ _ _ _ hc) mf_X11_whoHas wt_976 wt_978 ws_34 rfl rfl rfl ⟨rfl, rfl, by decide, by decide⟩ rfl (Nat.le_of_ble_eq_true rfl) dX11_give_40 ?_
      refine j_iload_n 1 C dX11_give_43 rfl ?_
      refine j_icmp_ne 56 C rfl rfl dX11_give_44 (by decide) (fun h => ?_) (fun h => ?_)
      · have hf := ifn h hf
        refine j_bipush C dX11_give_56 bp_m3 ?_
        exact retI hq hf dX11_give_58
      · have hf := ifp h hf
        exact j_sub [0, 1, 2] rfl (tX11_give_L47 C hq _ _ _ hf)
set_option maxRecDepth 20000 in
theorem tX11_give_L0 {ad : Nat → Nat} {cI cZ : ClassId} {Γ : Cx} {r : Int} {σ' : St} (C : CX cI cZ rm_X11_give 4 Γ cX11_give RX11) (hq : RetI .int (wR ad cI cZ) Γ cX11_give r σ') (v1 : Int) (v2 : Int) (σ : St) (hf : fX11_give_L0 v1 v2 σ = some (r, σ')) : JJ (wR ad cI cZ) Γ σ 0 [(0, .ref (ad 0)), (1, .int (iI v1)), (2, .int (iI v2))] [] := by
  unfold fX11_give_L0 at hf
  refine j_aload_n 0 C dX11_give_0 rfl ?_
  refine j_iload_n 1 C dX11_give_1 rfl ?_
  obtain ⟨a4, s4, hc, hf⟩ := bd_s hf
  refine j_cVi (q0 := 0) (ci := 11) (T := TX11) (N := 32) [.int (iI v1)] [] C (c_X11_isOne _ _ ad cI cZ _ _ _ _ hc) mf_X11_isOne wt_951 wt_953 ws_31 rfl rfl rfl ⟨rfl, rfl, by decide, by decide⟩ rfl (Nat.le_of_ble_eq_true rfl) dX11_give_2 ?_
  refine j_if_eq 21 C rfl dX11_give_5 (by decide) (fun h => ?_) (fun h => ?_)
  · have hf := ifp h hf
    refine j_bipush C dX11_give_21 bp_m2 ?_
    exact retI hq hf dX11_give_23
  · have hf := ifn h hf
    refine j_iload_n 2 C dX11_give_8 rfl ?_
    refine j_iconst C dX11_give_9 ?_
    refine j_icmp_eq 24 C rfl wl_m1 dX11_give_10 (by decide) (fun h => ?_) (fun h => ?_)
    · have hf := ifp h hf
      exact j_sub [0, 1, 2] rfl (tX11_give_L24 C hq _ _ _ hf)
    · have hf := ifn h hf
      refine j_aload_n 0 C dX11_give_13 rfl ?_
      refine j_iload_n 2 C dX11_give_14 rfl ?_
      obtain ⟨a5, s5, hc, hf⟩ := bd_s hf
      refine j_cVi (q0 := 0) (ci := 11) (T := TX11) (N := 32) [.int (iI v2)] [] C (c_X11_isRoom _ _ ad cI cZ _ _ _ _ hc) mf_X11_isRoom wt_955 wt_957 ws_32 rfl rfl rfl ⟨rfl, rfl, by decide, by decide⟩ rfl (Nat.le_of_ble_eq_true rfl) dX11_give_15 ?_
      refine j_if_ne 24 C rfl dX11_give_18 (by decide) (fun h => ?_) (fun h => ?_)
      · have hf := ifn h hf
        exact j_sub [0, 1, 2] rfl (tX11_give_L24 C hq _ _ _ hf)
      · have hf := ifp h hf
        refine j_bipush C dX11_give_21 bp_m2 ?_
        exact retI hq hf dX11_give_23
theorem c_X11_give (l : Launch) (D : va_G) (ad : Nat → Nat) (cI cZ : ClassId) (σ : St) (v1 : Int) (v2 : Int) (r : Int) (σ' : St) (hf : fX11_give σ v1 v2 = some (r, σ')) : McI l yX11_give cX11_give 4 .int rm_X11_give D (tyL cI cZ) (wR ad cI cZ) [.ref (ad 0), .int (iI v1), .int (iI v2)] σ r σ' := McI.mk mf_X11_give.2.2.2.2.2 (Nat.le_of_ble_eq_true rfl) (fun Γ C hq => j_sub [0, 1, 2] rfl (tX11_give_L0 C hq v1 v2 σ hf))
/-! TermLodgingsModel.type(I)I -/
def rm_X11_type : Room := { frames := 1, cells := 0, slots := 0, locals := 25 }
set_option maxRecDepth 20000 in
theorem tX11_type_L0 {ad : Nat → Nat} {cI cZ : ClassId} {Γ : Cx} {r : Int} {σ' : St} (C : CX cI cZ rm_X11_type 2 Γ cX11_type RX11) (hq : RetI .int (wR ad cI cZ) Γ cX11_type r σ') (v1 : Int) (σ : St) (hf : fX11_type_L0 v1 σ = some (r, σ')) : JJ (wR ad cI cZ) Γ σ 0 [(0, .ref (ad 0)), (1, .int (iI v1))] [] := by
  unfold fX11_type_L0 at hf
  refine j_iload_n 1 C dX11_type_0 rfl ?_
  refine j_i2l C rfl dX11_type_1 ?_
  refine j_ldc2 (n := 32) C wt_1011 (by decide +kernel) dX11_type_2 ?_
  refine j_ldc2 (n := 126) C wt_1012 (by decide +kernel) dX11_type_5 ?_
  obtain ⟨a1, s1, hc, hf⟩ := bd_s hf
  refine j_cSi [.long (iL (w32 v1)), .long (iL 32), .long (iL 126)] [] C (c_X11_in _ _ ad cI cZ _ _ _ _ _ _ hc) mf_X11_in wt_936 wt_937 rfl ⟨rfl, rfl, by decide, by decide⟩ rfl (Nat.le_of_ble_eq_true rfl) dX11_type_8 ?_
  refine j_if_ne 17 C rfl dX11_type_11 (by decide) (fun h => ?_) (fun h => ?_)
  · have hf := ifn h hf
    refine j_aload_n 0 C dX11_type_17 rfl ?_
    refine gR_0_15 C wt_849 dX11_type_18 ?_
    refine j_bipush C dX11_type_21 bp_60 ?_
    refine j_icmp_ne 29 C rfl wl_60 dX11_type_23 (by decide) (fun h => ?_) (fun h => ?_)
    · have hf := ifn h hf
      refine j_aload_n 0 C dX11_type_29 rfl ?_
      refine gR_0_14 C wt_848 dX11_type_30 ?_
      refine j_aload_n 0 C dX11_type_33 rfl ?_
      refine gR_0_15 C wt_849 dX11_type_34 ?_
      refine j_iload_n 1 C dX11_type_37 rfl ?_
      obtain ⟨hI, hf⟩ := gI_s hf
      refine tR_11 C hI dX11_type_38 ?_
      refine j_aload_n 0 C dX11_type_39 rfl ?_
      refine j_dup C rfl dX11_type_40 ?_
      refine gR_0_15 C wt_849 dX11_type_41 ?_
      refine j_iconst C dX11_type_44 ?_
      refine j_iadd C dX11_type_45 ?_
      refine pR_0_15 C wt_849 dX11_type_46 ?_
      refine j_aload_n 0 C dX11_type_49 rfl ?_
      refine gR_0_15 C wt_849 dX11_type_50 ?_
      exact retI hq hf dX11_type_53
    · have hf := ifp h hf
      refine j_bipush C dX11_type_26 bp_m4 ?_
      exact retI hq hf dX11_type_28
  · have hf := ifp h hf
    refine j_bipush C dX11_type_14 bp_m2 ?_
    exact retI hq hf dX11_type_16
theorem c_X11_type (l : Launch) (D : va_G) (ad : Nat → Nat) (cI cZ : ClassId) (σ : St) (v1 : Int) (r : Int) (σ' : St) (hf : fX11_type σ v1 = some (r, σ')) : McI l yX11_type cX11_type 2 .int rm_X11_type D (tyL cI cZ) (wR ad cI cZ) [.ref (ad 0), .int (iI v1)] σ r σ' := McI.mk mf_X11_type.2.2.2.2.2 (Nat.le_of_ble_eq_true rfl) (fun Γ C hq => j_sub [0, 1] rfl (tX11_type_L0 C hq v1 σ hf))
/-! TermLodgingsModel.repeal()I -/
def rm_X11_repeal : Room := { frames := 0, cells := 0, slots := 0, locals := 0 }
set_option maxRecDepth 20000 in
theorem tX11_repeal_L0 {ad : Nat → Nat} {cI cZ : ClassId} {Γ : Cx} {r : Int} {σ' : St} (C : CX cI cZ rm_X11_repeal 2 Γ cX11_repeal RX11) (hq : RetI .int (wR ad cI cZ) Γ cX11_repeal r σ') (σ : St) (hf : fX11_repeal_L0 σ = some (r, σ')) : JJ (wR ad cI cZ) Γ σ 0 [(0, .ref (ad 0))] [] := by
  unfold fX11_repeal_L0 at hf
  refine j_aload_n 0 C dX11_repeal_0 rfl ?_
  refine gR_0_15 C wt_849 dX11_repeal_1 ?_
  refine j_istore_n [(1, .int (iI (σ.1 3))), (0, .ref (ad 0))] C dX11_repeal_4 (by decide) rfl ?_
  refine j_aload_n 1 C dX11_repeal_5 rfl ?_
  refine j_iconst C dX11_repeal_6 ?_
  refine pR_0_15 C wt_849 dX11_repeal_7 ?_
  refine j_iload_n 0 C dX11_repeal_10 rfl ?_
  exact retI hq hf dX11_repeal_11
theorem c_X11_repeal (l : Launch) (D : va_G) (ad : Nat → Nat) (cI cZ : ClassId) (σ : St) (r : Int) (σ' : St) (hf : fX11_repeal σ = some (r, σ')) : McI l yX11_repeal cX11_repeal 2 .int rm_X11_repeal D (tyL cI cZ) (wR ad cI cZ) [.ref (ad 0)] σ r σ' := McI.mk mf_X11_repeal.2.2.2.2.2 (Nat.le_of_ble_eq_true rfl) (fun Γ C hq => j_sub [0] rfl (tX11_repeal_L0 C hq  σ hf))
/-! TermLodgingsModel.may(II)I -/
def rm_X11_may : Room := { frames := 4, cells := 0, slots := 0, locals := 94 }
set_option maxRecDepth 20000 in
theorem tX11_may_L0 {ad : Nat → Nat} {cI cZ : ClassId} {Γ : Cx} {r : Int} {σ' : St} (C : CX cI cZ rm_X11_may 3 Γ cX11_may RX11) (hq : RetI .int (wR ad cI cZ) Γ cX11_may r σ') (v1 : Int) (v2 : Int) (σ : St) (hf : fX11_may_L0 v1 v2 σ = some (r, σ')) : JJ (wR ad cI cZ) Γ σ 0 [(0, .ref (ad 0)), (1, .int (iI v1)), (2, .int (iI v2))] [] := by
  unfold fX11_may_L0 at hf
  refine j_aload_n 0 C dX11_may_0 rfl ?_
  refine j_iload_n 1 C dX11_may_1 rfl ?_
  obtain ⟨a1, s1, hc, hf⟩ := bd_s hf
  refine j_cVi (q0 := 0) (ci := 11) (T := TX11) (N := 32) [.int (iI v1)] [] C (c_X11_isOne _ _ ad cI cZ _ _ _ _ hc) mf_X11_isOne wt_951 wt_953 ws_31 rfl rfl rfl ⟨rfl, rfl, by decide, by decide⟩ rfl (Nat.le_of_ble_eq_true rfl) dX11_may_2 ?_
  refine j_if_eq 16 C rfl dX11_may_5 (by decide) (fun h => ?_) (fun h => ?_)
  · have hf := ifp h hf
    refine j_bipush C dX11_may_16 bp_m2 ?_
    refine j_goto 35 C dX11_may_18 (by decide) ?_
    exact retI hq hf dX11_may_35
  · have hf := ifn h hf
    refine j_aload_n 0 C dX11_may_8 rfl ?_
    refine j_iload_n 2 C dX11_may_9 rfl ?_
    obtain ⟨a2, s2, hc, hf⟩ := bd_s hf
    refine j_cVi (q0 := 0) (ci := 11) (T := TX11) (N := 32) [.int (iI v2)] [] C (c_X11_isRoom _ _ ad cI cZ _ _ _ _ hc) mf_X11_isRoom wt_955 wt_957 ws_32 rfl rfl rfl ⟨rfl, rfl, by decide, by decide⟩ rfl (Nat.le_of_ble_eq_true rfl) dX11_may_10 ?_
    refine j_if_ne 21 C rfl dX11_may_13 (by decide) (fun h => ?_) (fun h => ?_)
    · have hf := ifn h hf
      refine j_aload_n 0 C dX11_may_21 rfl ?_
      refine j_iload_n 1 C dX11_may_22 rfl ?_
      refine j_iload_n 2 C dX11_may_23 rfl ?_
      obtain ⟨a3, s3, hc, hf⟩ := bd_s hf
      refine j_cVi (q0 := 0) (ci := 11) (T := TX11) (N := 32) [.int (iI v1), .int (iI v2)] [] C (c_X11_mayLive _ _ ad cI cZ _ _ _ _ _ hc) mf_X11_mayLive wt_984 wt_986 ws_35 rfl rfl rfl ⟨rfl, rfl, by decide, by decide⟩ rfl (Nat.le_of_ble_eq_true rfl) dX11_may_24 ?_
      refine j_if_eq 34 C rfl dX11_may_27 (by decide) (fun h => ?_) (fun h => ?_)
      · have hf := ifp h hf
        refine j_iconst C dX11_may_34 ?_
        exact retI hq hf dX11_may_35
      · have hf := ifn h hf
        refine j_iconst C dX11_may_30 ?_
        refine j_goto 35 C dX11_may_31 (by decide) ?_
        exact retI hq hf dX11_may_35
    · have hf := ifp h hf
      refine j_bipush C dX11_may_16 bp_m2 ?_
      refine j_goto 35 C dX11_may_18 (by decide) ?_
      exact retI hq hf dX11_may_35
theorem c_X11_may (l : Launch) (D : va_G) (ad : Nat → Nat) (cI cZ : ClassId) (σ : St) (v1 : Int) (v2 : Int) (r : Int) (σ' : St) (hf : fX11_may σ v1 v2 = some (r, σ')) : McI l yX11_may cX11_may 3 .int rm_X11_may D (tyL cI cZ) (wR ad cI cZ) [.ref (ad 0), .int (iI v1), .int (iI v2)] σ r σ' := McI.mk mf_X11_may.2.2.2.2.2 (Nat.le_of_ble_eq_true rfl) (fun Γ C hq => j_sub [0, 1, 2] rfl (tX11_may_L0 C hq v1 v2 σ hf))
/-! TermLodgingsModel.wrong()I -/
def rm_X11_wrong : Room := { frames := 4, cells := 0, slots := 0, locals := 94 }
set_option maxRecDepth 20000 in
theorem tX11_wrong_B4 {ad : Nat → Nat} {cI cZ : ClassId} {Γ : Cx} {r : Int} {σ' : St} (C : CX cI cZ rm_X11_wrong 3 Γ cX11_wrong RX11) (hq : RetI .int (wR ad cI cZ) Γ cX11_wrong r σ') {k4 : Int → Int → St → Option (Int × St)} (hk4 : ∀ (v1 : Int) (v2 : Int) (σ : St), k4 v1 v2 σ = some (r, σ') → JJ (wR ad cI cZ) Γ σ 4 [(0, .ref (ad 0)), (1, .int (iI v1)), (2, .int (iI v2))] []) (v1 : Int) (v2 : Int) (σ : St) (hf : fX11_wrong_B4 k4 v1 v2 σ = some (r, σ')) : JJ (wR ad cI cZ) Γ σ 4 [(0, .ref (ad 0)), (1, .int (iI v1)), (2, .int (iI v2))] [] := by
  unfold fX11_wrong_B4 at hf
  refine j_iload_n 2 C dX11_wrong_4 rfl ?_
  refine j_aload_n 0 C dX11_wrong_5 rfl ?_
  refine gR_0_5 C wt_839 dX11_wrong_6 ?_
  refine j_icmp_ge 52 C rfl rfl dX11_wrong_9 (by decide) (fun h => ?_) (fun h => ?_)
  · have hf := ifp h hf
    refine j_iload_n 1 C dX11_wrong_52 rfl ?_
    exact retI hq hf dX11_wrong_53
  · have hf := ifn h hf
    refine j_iload_n 1 C dX11_wrong_12 rfl ?_
    refine j_aload_n 0 C dX11_wrong_13 rfl ?_
    refine gR_0_10 C wt_844 dX11_wrong_14 ?_
    refine j_iload_n 2 C dX11_wrong_17 rfl ?_
    obtain ⟨hI, hf⟩ := gI_s hf
    refine lR_7 C hI dX11_wrong_18 ?_
    refine j_iconst C dX11_wrong_19 ?_
    refine j_icmp_eq 43 C rfl wl_m1 dX11_wrong_20 (by decide) (fun h => ?_) (fun h => ?_)
    · have hf := ifp h hf
      refine j_iconst C dX11_wrong_43 ?_
      refine j_ior C dX11_wrong_44 ?_
      refine j_istore_n [(1, .int (iI (bOr v1 0))), (0, .ref (ad 0)), (2, .int (iI v2))] C dX11_wrong_45 (by decide) rfl ?_
      refine j_iinc 2 [(2, .int (iI (v2 + 1))), (1, .int (iI (bOr v1 0))), (0, .ref (ad 0))] C dX11_wrong_46 (by decide) rfl rfl ?_
      refine j_goto 4 C dX11_wrong_49 (by decide) ?_
      exact j_sub [2, 1, 0] rfl (hk4 _ _ _ hf)
    · have hf := ifn h hf
      refine j_aload_n 0 C dX11_wrong_23 rfl ?_
      refine j_iload_n 2 C dX11_wrong_24 rfl ?_
      refine j_aload_n 0 C dX11_wrong_25 rfl ?_
      refine gR_0_10 C wt_844 dX11_wrong_26 ?_
      refine j_iload_n 2 C dX11_wrong_29 rfl ?_
      obtain ⟨hI, hf⟩ := gI_s hf
      refine lR_7 C hI dX11_wrong_30 ?_
      obtain ⟨a1, s1, hc, hf⟩ := bd_s hf
      refine j_cVi (q0 := 0) (ci := 11) (T := TX11) (N := 32) [.int (iI v2), .int (iI (σ.2 7 (ix v2)))] [.int (iI v1)] C (c_X11_mayLive _ _ ad cI cZ _ _ _ _ _ hc) mf_X11_mayLive wt_984 wt_986 ws_35 rfl rfl rfl ⟨rfl, rfl, by decide, by decide⟩ rfl (Nat.le_of_ble_eq_true rfl) dX11_wrong_31 ?_
      refine j_if_ne 43 C rfl dX11_wrong_34 (by decide) (fun h => ?_) (fun h => ?_)
      · have hf := ifn h hf
        refine j_iconst C dX11_wrong_43 ?_
        refine j_ior C dX11_wrong_44 ?_
        refine j_istore_n [(1, .int (iI (bOr v1 0))), (0, .ref (ad 0)), (2, .int (iI v2))] C dX11_wrong_45 (by decide) rfl ?_
        refine j_iinc 2 [(2, .int (iI (v2 + 1))), (1, .int (iI (bOr v1 0))), (0, .ref (ad 0))] C dX11_wrong_46 (by decide) rfl rfl ?_
        refine j_goto 4 C dX11_wrong_49 (by decide) ?_
        exact j_sub [2, 1, 0] rfl (hk4 _ _ _ hf)
      · have hf := ifp h hf
        refine j_iconst C dX11_wrong_37 ?_
        refine j_iload_n 2 C dX11_wrong_38 rfl ?_
        refine j_ishl C dX11_wrong_39 ?_
        refine j_goto 44 C dX11_wrong_40 (by decide) ?_
        refine j_ior C dX11_wrong_44 ?_
        refine j_istore_n [(1, .int (iI (bOr v1 (bShl 1 v2)))), (0, .ref (ad 0)), (2, .int (iI v2))] C dX11_wrong_45 (by decide) rfl ?_
        refine j_iinc 2 [(2, .int (iI (v2 + 1))), (1, .int (iI (bOr v1 (bShl 1 v2)))), (0, .ref (ad 0))] C dX11_wrong_46 (by decide) rfl rfl ?_
        refine j_goto 4 C dX11_wrong_49 (by decide) ?_
        exact j_sub [2, 1, 0] rfl (hk4 _ _ _ hf)
theorem tX11_wrong_L4 {ad : Nat → Nat} {cI cZ : ClassId} {Γ : Cx} {r : Int} {σ' : St} (C : CX cI cZ rm_X11_wrong 3 Γ cX11_wrong RX11) (hq : RetI .int (wR ad cI cZ) Γ cX11_wrong r σ') (n : Nat) : ∀ (v1 v2 : Int), ∀ (σ : St), fX11_wrong_L4 n v1 v2 σ = some (r, σ') → JJ (wR ad cI cZ) Γ σ 4 [(0, .ref (ad 0)), (1, .int (iI v1)), (2, .int (iI v2))] [] := by
  induction n with
  | zero => intro _ _ _ hf; cases hf
  | succ n ih => intro v1 v2 σ hf; exact tX11_wrong_B4 C hq ih v1 v2 σ hf
set_option maxRecDepth 20000 in
theorem tX11_wrong_L0 {ad : Nat → Nat} {cI cZ : ClassId} {Γ : Cx} {r : Int} {σ' : St} (C : CX cI cZ rm_X11_wrong 3 Γ cX11_wrong RX11) (hq : RetI .int (wR ad cI cZ) Γ cX11_wrong r σ') (σ : St) (hf : fX11_wrong_L0 σ = some (r, σ')) : JJ (wR ad cI cZ) Γ σ 0 [(0, .ref (ad 0))] [] := by
  unfold fX11_wrong_L0 at hf
  refine j_iconst C dX11_wrong_0 ?_
  refine j_istore_n [(1, .int (iI 0)), (0, .ref (ad 0))] C dX11_wrong_1 (by decide) rfl ?_
  refine j_iconst C dX11_wrong_2 ?_
  refine j_istore_n [(2, .int (iI 0)), (1, .int (iI 0)), (0, .ref (ad 0))] C dX11_wrong_3 (by decide) rfl ?_
  exact j_sub [2, 1, 0] rfl (tX11_wrong_L4 C hq 1000 _ _ _ hf)
theorem c_X11_wrong (l : Launch) (D : va_G) (ad : Nat → Nat) (cI cZ : ClassId) (σ : St) (r : Int) (σ' : St) (hf : fX11_wrong σ = some (r, σ')) : McI l yX11_wrong cX11_wrong 3 .int rm_X11_wrong D (tyL cI cZ) (wR ad cI cZ) [.ref (ad 0)] σ r σ' := McI.mk mf_X11_wrong.2.2.2.2.2 (Nat.le_of_ble_eq_true rfl) (fun Γ C hq => j_sub [0] rfl (tX11_wrong_L0 C hq  σ hf))
