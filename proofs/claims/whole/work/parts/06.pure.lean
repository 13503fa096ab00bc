theorem wl_m1 : w32 (-1) = (-1) := by rw [w32_def]; decide
theorem wl_1 : w32 1 = 1 := by rw [w32_def]; decide
theorem wl_2 : w32 2 = 2 := by rw [w32_def]; decide
theorem wl_3 : w32 3 = 3 := by rw [w32_def]; decide
theorem wl_5 : w32 5 = 5 := by rw [w32_def]; decide
theorem wl_6 : w32 6 = 6 := by rw [w32_def]; decide
theorem wl_7 : w32 7 = 7 := by rw [w32_def]; decide
theorem wl_8 : w32 8 = 8 := by rw [w32_def]; decide
theorem wl_16 : w32 16 = 16 := by rw [w32_def]; decide
theorem wl_17 : w32 17 = 17 := by rw [w32_def]; decide
theorem wl_24 : w32 24 = 24 := by rw [w32_def]; decide
theorem wl_32 : w32 32 = 32 := by rw [w32_def]; decide
theorem wl_38 : w32 38 = 38 := by rw [w32_def]; decide
theorem wl_40 : w32 40 = 40 := by rw [w32_def]; decide
theorem wl_60 : w32 60 = 60 := by rw [w32_def]; decide
theorem wl_61 : w32 61 = 61 := by rw [w32_def]; decide
theorem wl_62 : w32 62 = 62 := by rw [w32_def]; decide
theorem wl_104 : w32 104 = 104 := by rw [w32_def]; decide
theorem wl_109 : w32 109 = 109 := by rw [w32_def]; decide
theorem wl_115 : w32 115 = 115 := by rw [w32_def]; decide
theorem wl_121 : w32 121 = 121 := by rw [w32_def]; decide
theorem wl_124 : w32 124 = 124 := by rw [w32_def]; decide
theorem bp_m4 : (Int8.ofInt (-4)).toInt32 = iI (-4) := by decide +kernel
theorem bp_m3 : (Int8.ofInt (-3)).toInt32 = iI (-3) := by decide +kernel
theorem bp_m2 : (Int8.ofInt (-2)).toInt32 = iI (-2) := by decide +kernel
theorem bp_6 : (Int8.ofInt 6).toInt32 = iI 6 := by decide +kernel
theorem bp_7 : (Int8.ofInt 7).toInt32 = iI 7 := by decide +kernel
theorem bp_8 : (Int8.ofInt 8).toInt32 = iI 8 := by decide +kernel
theorem bp_9 : (Int8.ofInt 9).toInt32 = iI 9 := by decide +kernel
theorem bp_10 : (Int8.ofInt 10).toInt32 = iI 10 := by decide +kernel
theorem bp_15 : (Int8.ofInt 15).toInt32 = iI 15 := by decide +kernel
theorem bp_16 : (Int8.ofInt 16).toInt32 = iI 16 := by decide +kernel
theorem bp_17 : (Int8.ofInt 17).toInt32 = iI 17 := by decide +kernel
theorem bp_20 : (Int8.ofInt 20).toInt32 = iI 20 := by decide +kernel
theorem bp_24 : (Int8.ofInt 24).toInt32 = iI 24 := by decide +kernel
theorem bp_32 : (Int8.ofInt 32).toInt32 = iI 32 := by decide +kernel
theorem bp_38 : (Int8.ofInt 38).toInt32 = iI 38 := by decide +kernel
theorem bp_39 : (Int8.ofInt 39).toInt32 = iI 39 := by decide +kernel
theorem bp_40 : (Int8.ofInt 40).toInt32 = iI 40 := by decide +kernel
theorem bp_48 : (Int8.ofInt 48).toInt32 = iI 48 := by decide +kernel
theorem bp_57 : (Int8.ofInt 57).toInt32 = iI 57 := by decide +kernel
theorem bp_59 : (Int8.ofInt 59).toInt32 = iI 59 := by decide +kernel
theorem bp_60 : (Int8.ofInt 60).toInt32 = iI 60 := by decide +kernel
theorem bp_61 : (Int8.ofInt 61).toInt32 = iI 61 := by decide +kernel
theorem bp_62 : (Int8.ofInt 62).toInt32 = iI 62 := by decide +kernel
theorem bp_63 : (Int8.ofInt 63).toInt32 = iI 63 := by decide +kernel
theorem bp_104 : (Int8.ofInt 104).toInt32 = iI 104 := by decide +kernel
theorem bp_109 : (Int8.ofInt 109).toInt32 = iI 109 := by decide +kernel
theorem bp_115 : (Int8.ofInt 115).toInt32 = iI 115 := by decide +kernel
theorem bp_121 : (Int8.ofInt 121).toInt32 = iI 121 := by decide +kernel
theorem bp_124 : (Int8.ofInt 124).toInt32 = iI 124 := by decide +kernel
theorem bp_126 : (Int8.ofInt 126).toInt32 = iI 126 := by decide +kernel
theorem sp_999 : (Int16.ofInt 999).toInt32 = iI 999 := by decide +kernel
theorem sp_12345 : (Int16.ofInt 12345).toInt32 = iI 12345 := by decide +kernel
/-! java/util/Arrays.fill([II)V -/
noncomputable def fJ7_fill_53178_a33_B5 (k5 : Int → Int → Int → St → Option St) (v1 : Int) (v2 : Int) (v3 : Int) (σ : St) : Option St :=
  if w32 v3 ≤ w32 v2 then (
  some σ)
  else (
  gI v2 24 (
  k5 v1 (v2 + 1) v3 (sA σ 22 (ix v2) v1)))
noncomputable def fJ7_fill_53178_a33_L5 : Nat → Int → Int → Int → St → Option St
  | 0, _, _, _, _ => none
  | n + 1, v1, v2, v3, σ => fJ7_fill_53178_a33_B5 (fJ7_fill_53178_a33_L5 n) v1 v2 v3 σ
noncomputable def fJ7_fill_53178_a33_L0 (v1 : Int) (σ : St) : Option St :=
  fJ7_fill_53178_a33_L5 1000 v1 0 24 σ
noncomputable def fJ7_fill_53178_a33 (σ : St) (v1 : Int) : Option St := fJ7_fill_53178_a33_L0 v1 σ
/-! java/util/Arrays.fill([II)V -/
noncomputable def fJ7_fill_53178_a34_B5 (k5 : Int → Int → Int → St → Option St) (v1 : Int) (v2 : Int) (v3 : Int) (σ : St) : Option St :=
  if w32 v3 ≤ w32 v2 then (
  some σ)
  else (
  gI v2 16 (
  k5 v1 (v2 + 1) v3 (sA σ 23 (ix v2) v1)))
noncomputable def fJ7_fill_53178_a34_L5 : Nat → Int → Int → Int → St → Option St
  | 0, _, _, _, _ => none
  | n + 1, v1, v2, v3, σ => fJ7_fill_53178_a34_B5 (fJ7_fill_53178_a34_L5 n) v1 v2 v3 σ
noncomputable def fJ7_fill_53178_a34_L0 (v1 : Int) (σ : St) : Option St :=
  fJ7_fill_53178_a34_L5 1000 v1 0 16 σ
noncomputable def fJ7_fill_53178_a34 (σ : St) (v1 : Int) : Option St := fJ7_fill_53178_a34_L0 v1 σ
/-! TermLodgings$People.has(I)Z -/
noncomputable def fX3_has_L0 (v1 : Int) (σ : St) : Option (Int × St) :=
  if w32 v1 < 0 then (
  some (0, σ))
  else (
  if w32 (σ.1 3) ≤ w32 v1 then (
  some (0, σ))
  else (
  some (1, σ)))
noncomputable def fX3_has (σ : St) (v1 : Int) : Option (Int × St) := fX3_has_L0 v1 σ
/-! TermLodgings$Rooms.has(I)Z -/
noncomputable def fX5_has_L0 (v1 : Int) (σ : St) : Option (Int × St) :=
  if w32 v1 < 0 then (
  some (0, σ))
  else (
  if w32 (σ.1 0) ≤ w32 v1 then (
  some (0, σ))
  else (
  some (1, σ)))
noncomputable def fX5_has (σ : St) (v1 : Int) : Option (Int × St) := fX5_has_L0 v1 σ
/-! TermLodgings.inBits(II)Z -/
noncomputable def fX10_inBits_L0 (v0 : Int) (v1 : Int) (σ : St) : Option (Int × St) :=
  if w32 v1 < 0 then (
  some (0, σ))
  else (
  if 32 ≤ w32 v1 then (
  some (0, σ))
  else (
  if w32 (bAnd (bUshr v0 v1) 1) = 1 then (
  some (1, σ))
  else (
  some (0, σ))))
noncomputable def fX10_inBits (σ : St) (v0 : Int) (v1 : Int) : Option (Int × St) := fX10_inBits_L0 v0 v1 σ
/-! TermLodgings$Rooms.isStruck(I)Z -/
noncomputable def fX5_isStruck_L0 (v1 : Int) (σ : St) : Option (Int × St) :=
  bd (fX10_inBits σ (σ.1 1) v1) fun a1 s1 =>
  gB a1 (some (a1, s1))
noncomputable def fX5_isStruck (σ : St) (v1 : Int) : Option (Int × St) := fX5_isStruck_L0 v1 σ
/-! TermLodgings$Statute.faultPlace()I -/
noncomputable def fX6_faultPlace_L0 (σ : St) : Option (Int × St) :=
  if w32 (σ.1 7) = (-1) then (
  if w32 (σ.1 4) = 0 then (
  some ((σ.1 7), σ))
  else (
  if 2 < w32 (σ.1 6) then (
  some ((-1), σ))
  else (
  some ((σ.1 4), σ))))
  else (
  some ((σ.1 7), σ))
noncomputable def fX6_faultPlace (σ : St) : Option (Int × St) := fX6_faultPlace_L0 σ
/-! TermLodgings$Statute.asked(IIIII)I -/
noncomputable def fX6_asked_L0 (v0 : Int) (v1 : Int) (v2 : Int) (v3 : Int) (v4 : Int) (σ : St) : Option (Int × St) :=
  if w32 v0 = 109 then (
  some (v2, σ))
  else (if w32 v0 = 115 then (
  some (v3, σ))
  else (if w32 v0 = 121 then (
  some (v1, σ))
  else (some (v4, σ))))
noncomputable def fX6_asked (σ : St) (v0 : Int) (v1 : Int) (v2 : Int) (v3 : Int) (v4 : Int) : Option (Int × St) := fX6_asked_L0 v0 v1 v2 v3 v4 σ
/-! TermLodgings$Statute.compares(III)Z -/
noncomputable def fX6_compares_L0 (v0 : Int) (v1 : Int) (v2 : Int) (σ : St) : Option (Int × St) :=
  if w32 v1 = 60 then (
  if w32 v2 ≤ w32 v0 then (
  some (0, σ))
  else (
  some (1, σ)))
  else (if w32 v1 = 61 then (
  if w32 v0 = w32 v2 then (
  some (1, σ))
  else (
  some (0, σ)))
  else (if w32 v0 ≤ w32 v2 then (
  some (0, σ))
  else (
  some (1, σ))))
noncomputable def fX6_compares (σ : St) (v0 : Int) (v1 : Int) (v2 : Int) : Option (Int × St) := fX6_compares_L0 v0 v1 v2 σ
/-! TermLodgings$Statute.allows(IIII)Z -/
noncomputable def fX6_allows_L59 (k23 : Int → Int → Int → Int → Int → Int → St → Option (Int × St)) (v1 : Int) (v2 : Int) (v3 : Int) (v4 : Int) (v5 : Int) (v6 : Int) (σ : St) : Option (Int × St) :=
  if w32 v5 = 0 then (
  k23 v1 v2 v3 v4 0 (v6 + 1) σ)
  else (
  gI v6 16 (
  bd (fX6_asked σ (σ.2 12 (ix v6)) v1 v2 v3 v4) fun a1 s1 =>
  gI v6 16 (
  gI v6 16 (
  bd (fX6_compares s1 a1 (s1.2 13 (ix v6)) (s1.2 14 (ix v6))) fun a2 s2 =>
  if w32 a2 = 0 then (
  k23 v1 v2 v3 v4 0 (v6 + 1) s2)
  else (
  k23 v1 v2 v3 v4 1 (v6 + 1) s2)))))
noncomputable def fX6_allows_B23 (k23 : Int → Int → Int → Int → Int → Int → St → Option (Int × St)) (v1 : Int) (v2 : Int) (v3 : Int) (v4 : Int) (v5 : Int) (v6 : Int) (σ : St) : Option (Int × St) :=
  if w32 (σ.1 5) ≤ w32 v6 then (
  gB v5 (some (v5, σ)))
  else (
  if 16 ≤ w32 v6 then (
  gB v5 (some (v5, σ)))
  else (
  gI v6 16 (
  if w32 (σ.2 15 (ix v6)) = 0 then (
  fX6_allows_L59 k23 v1 v2 v3 v4 v5 v6 σ)
  else (
  if w32 v5 = 0 then (
  fX6_allows_L59 k23 v1 v2 v3 v4 1 v6 σ)
  else (
  some (1, σ))))))
noncomputable def fX6_allows_L23 : Nat → Int → Int → Int → Int → Int → Int → St → Option (Int × St)
  | 0, _, _, _, _, _, _, _ => none
  | n + 1, v1, v2, v3, v4, v5, v6, σ => fX6_allows_B23 (fX6_allows_L23 n) v1 v2 v3 v4 v5 v6 σ
noncomputable def fX6_allows_L0 (v1 : Int) (v2 : Int) (v3 : Int) (v4 : Int) (σ : St) : Option (Int × St) :=
  if w32 (σ.1 5) = 0 then (
  some (1, σ))
  else (
  bd (fX6_faultPlace σ) fun a3 s3 =>
  if w32 a3 = (-1) then (
  fX6_allows_L23 1000 v1 v2 v3 v4 0 0 s3)
  else (
  some (1, s3)))
noncomputable def fX6_allows (σ : St) (v1 : Int) (v2 : Int) (v3 : Int) (v4 : Int) : Option (Int × St) := fX6_allows_L0 v1 v2 v3 v4 σ
/-! TermLodgings$Town.suits(II)Z -/
noncomputable def fX7_suits_L0 (v1 : Int) (v2 : Int) (σ : St) : Option (Int × St) :=
  bd (fX3_has σ v1) fun a1 s1 =>
  if w32 a1 = 0 then (
  some (0, s1))
  else (
  bd (fX5_has s1 v2) fun a2 s2 =>
  if w32 a2 = 0 then (
  some (0, s2))
  else (
  gI v2 24 (
  bd (fX5_isStruck s2 (s2.2 1 (ix v2))) fun a3 s3 =>
  if w32 a3 = 0 then (
  gI v1 16 (
  gI v2 24 (
  gI v2 24 (
  gI v2 24 (
  bd (fX6_allows s3 (s3.2 5 (ix v1)) (s3.2 2 (ix v2)) (s3.2 3 (ix v2)) (s3.2 1 (ix v2))) fun a4 s4 =>
  gB a4 (some (a4, s4)))))))
  else (
  some (0, s3)))))
noncomputable def fX7_suits (σ : St) (v1 : Int) (v2 : Int) : Option (Int × St) := fX7_suits_L0 v1 v2 σ
/-! TermLodgings$Town.weighAll()V -/
noncomputable def fX7_weighAll_B22 (k2 : Int → St → Option St) (k22 : Int → Int → St → Option St) (v1 : Int) (v2 : Int) (σ : St) : Option St :=
  if w32 (σ.1 0) ≤ w32 v2 then (
  k2 (v1 + 1) σ)
  else (
  bd (fX7_suits σ v1 v2) fun a1 s1 =>
  if w32 a1 = 0 then (
  k22 v1 (v2 + 1) s1)
  else (
  gI v1 16 (
  gI v1 16 (
  k22 v1 (v2 + 1) (sA s1 0 (ix v1) (bOr (s1.2 0 (ix v1)) (bShl 1 v2)))))))
noncomputable def fX7_weighAll_L22 (k2 : Int → St → Option St) : Nat → Int → Int → St → Option St
  | 0, _, _, _ => none
  | n + 1, v1, v2, σ => fX7_weighAll_B22 k2 (fX7_weighAll_L22 k2 n) v1 v2 σ
noncomputable def fX7_weighAll_B2 (k2 : Int → St → Option St) (v1 : Int) (σ : St) : Option St :=
  if w32 (σ.1 3) ≤ w32 v1 then (
  some σ)
  else (
  gI v1 16 (
  fX7_weighAll_L22 k2 1000 v1 0 (sA σ 0 (ix v1) 0)))
noncomputable def fX7_weighAll_L2 : Nat → Int → St → Option St
  | 0, _, _ => none
  | n + 1, v1, σ => fX7_weighAll_B2 (fX7_weighAll_L2 n) v1 σ
noncomputable def fX7_weighAll_L0 (σ : St) : Option St :=
  fX7_weighAll_L2 1000 0 σ
noncomputable def fX7_weighAll (σ : St) : Option St := fX7_weighAll_L0 σ
/-! TermLodgings$People.lodgingOf(I)I -/
noncomputable def fX3_lodgingOf_L0 (v1 : Int) (σ : St) : Option (Int × St) :=
  bd (fX3_has σ v1) fun a1 s1 =>
  if w32 a1 = 0 then (
  some ((-1), s1))
  else (
  gI v1 16 (
  some ((s1.2 9 (ix v1)), s1)))
noncomputable def fX3_lodgingOf (σ : St) (v1 : Int) : Option (Int × St) := fX3_lodgingOf_L0 v1 σ
/-! TermLodgings$Town.leave(I)V -/
noncomputable def fX7_leave_L0 (v1 : Int) (σ : St) : Option St :=
  bd (fX3_lodgingOf σ v1) fun a1 s1 =>
  bd (fX3_has s1 v1) fun a2 s2 =>
  if w32 a2 = 0 then (
  some s2)
  else (
  bd (fX5_has s2 a1) fun a3 s3 =>
  if w32 a3 = 0 then (
  some s3)
  else (
  gI v1 16 (
  gI a1 24 (
  some (sF (sA (sA s3 9 (ix v1) (-1)) 4 (ix a1) (-1)) 2 (bAnd ((sA (sA s3 9 (ix v1) (-1)) 4 (ix a1) (-1)).1 2) (bXor (bShl 1 a1) (-1))))))))
noncomputable def fX7_leave (σ : St) (v1 : Int) : Option St := fX7_leave_L0 v1 σ
/-! TermLodgings.within(III)Z -/
noncomputable def fX10_within_L0 (v0 : Int) (v1 : Int) (v2 : Int) (σ : St) : Option (Int × St) :=
  if w32 v0 < w32 v1 then (
  some (0, σ))
  else (
  if w32 v2 < w32 v0 then (
  some (0, σ))
  else (
  some (1, σ)))
noncomputable def fX10_within (σ : St) (v0 : Int) (v1 : Int) (v2 : Int) : Option (Int × St) := fX10_within_L0 v0 v1 v2 σ
/-! TermLodgings$Turns.has(I)Z -/
noncomputable def fX9_has_L0 (v1 : Int) (σ : St) : Option (Int × St) :=
  bd (fX10_within σ v1 0 ((σ.1 9) - 1)) fun a1 s1 =>
  gB a1 (some (a1, s1))
noncomputable def fX9_has (σ : St) (v1 : Int) : Option (Int × St) := fX9_has_L0 v1 σ
/-! TermLodgings$Turns.at(I)I -/
noncomputable def fX9_at_L0 (v1 : Int) (σ : St) : Option (Int × St) :=
  bd (fX9_has σ v1) fun a1 s1 =>
  if w32 a1 = 0 then (
  some ((-1), s1))
  else (
  gI v1 16 (
  some ((s1.2 16 (ix v1)), s1)))
noncomputable def fX9_at (σ : St) (v1 : Int) : Option (Int × St) := fX9_at_L0 v1 σ
/-! TermLodgings$People.friendsOf(I)I -/
noncomputable def fX3_friendsOf_B16 (k16 : Int → Int → Int → St → Option (Int × St)) (v1 : Int) (v2 : Int) (v3 : Int) (σ : St) : Option (Int × St) :=
  if w32 (σ.1 3) ≤ w32 v3 then (
  some (v2, σ))
  else (
  gI v3 16 (
  if w32 (σ.2 6 (ix v3)) = (-1) then (
  k16 v1 v2 (v3 + 1) σ)
  else (
  gI v3 16 (
  gI v1 16 (
  if w32 (σ.2 6 (ix v3)) = w32 (σ.2 6 (ix v1)) then (
  k16 v1 (bOr v2 (bShl 1 v3)) (v3 + 1) σ)
  else (
  k16 v1 v2 (v3 + 1) σ))))))
noncomputable def fX3_friendsOf_L16 : Nat → Int → Int → Int → St → Option (Int × St)
  | 0, _, _, _, _ => none
  | n + 1, v1, v2, v3, σ => fX3_friendsOf_B16 (fX3_friendsOf_L16 n) v1 v2 v3 σ
noncomputable def fX3_friendsOf_L0 (v1 : Int) (σ : St) : Option (Int × St) :=
  bd (fX3_has σ v1) fun a1 s1 =>
  if w32 a1 = 0 then (
  some (0, s1))
  else (
  fX3_friendsOf_L16 1000 v1 (bShl 1 v1) 0 s1)
noncomputable def fX3_friendsOf (σ : St) (v1 : Int) : Option (Int × St) := fX3_friendsOf_L0 v1 σ
/-! java/lang/Integer.bitCount(I)I -/
noncomputable def fJ6_bitCount_0f7a4_L0 (v0 : Int) (σ : St) : Option (Int × St) :=
  some ((bAnd (((bAnd (((bAnd (v0 - (bAnd (bUshr v0 1) 1431655765)) 858993459) + (bAnd (bUshr (v0 - (bAnd (bUshr v0 1) 1431655765)) 2) 858993459)) + (bUshr ((bAnd (v0 - (bAnd (bUshr v0 1) 1431655765)) 858993459) + (bAnd (bUshr (v0 - (bAnd (bUshr v0 1) 1431655765)) 2) 858993459)) 4)) 252645135) + (bUshr (bAnd (((bAnd (v0 - (bAnd (bUshr v0 1) 1431655765)) 858993459) + (bAnd (bUshr (v0 - (bAnd (bUshr v0 1) 1431655765)) 2) 858993459)) + (bUshr ((bAnd (v0 - (bAnd (bUshr v0 1) 1431655765)) 858993459) + (bAnd (bUshr (v0 - (bAnd (bUshr v0 1) 1431655765)) 2) 858993459)) 4)) 252645135) 8)) + (bUshr ((bAnd (((bAnd (v0 - (bAnd (bUshr v0 1) 1431655765)) 858993459) + (bAnd (bUshr (v0 - (bAnd (bUshr v0 1) 1431655765)) 2) 858993459)) + (bUshr ((bAnd (v0 - (bAnd (bUshr v0 1) 1431655765)) 858993459) + (bAnd (bUshr (v0 - (bAnd (bUshr v0 1) 1431655765)) 2) 858993459)) 4)) 252645135) + (bUshr (bAnd (((bAnd (v0 - (bAnd (bUshr v0 1) 1431655765)) 858993459) + (bAnd (bUshr (v0 - (bAnd (bUshr v0 1) 1431655765)) 2) 858993459)) + (bUshr ((bAnd (v0 - (bAnd (bUshr v0 1) 1431655765)) 858993459) + (bAnd (bUshr (v0 - (bAnd (bUshr v0 1) 1431655765)) 2) 858993459)) 4)) 252645135) 8)) 16)) 63), σ)
noncomputable def fJ6_bitCount_0f7a4 (σ : St) (v0 : Int) : Option (Int × St) := fJ6_bitCount_0f7a4_L0 v0 σ
/-! TermLodgings$People.wishesOf(I)I -/
noncomputable def fX3_wishesOf_L0 (v1 : Int) (σ : St) : Option (Int × St) :=
  bd (fX3_has σ v1) fun a1 s1 =>
  if w32 a1 = 0 then (
  some (0, s1))
  else (
  gI v1 16 (
  some ((s1.2 7 (ix v1)), s1)))
noncomputable def fX3_wishesOf (σ : St) (v1 : Int) : Option (Int × St) := fX3_wishesOf_L0 v1 σ
/-! TermLodgings$People.wishAt(II)I -/
noncomputable def fX3_wishAt_L27 (v1 : Int) (v2 : Int) (t0 : Int) (σ : St) : Option (Int × St) :=
  if w32 t0 = 0 then (
  some ((-1), σ))
  else (
  gI ((v1 * 8) + v2) 128 (
  some ((σ.2 8 (ix ((v1 * 8) + v2))), σ)))
noncomputable def fX3_wishAt_L0 (v1 : Int) (v2 : Int) (σ : St) : Option (Int × St) :=
  bd (fX3_has σ v1) fun a1 s1 =>
  if w32 a1 = 0 then (
  fX3_wishAt_L27 v1 v2 0 s1)
  else (
  if w32 v2 < 0 then (
  fX3_wishAt_L27 v1 v2 0 s1)
  else (
  gI v1 16 (
  if w32 (s1.2 7 (ix v1)) ≤ w32 v2 then (
  fX3_wishAt_L27 v1 v2 0 s1)
  else (
  fX3_wishAt_L27 v1 v2 1 s1))))
noncomputable def fX3_wishAt (σ : St) (v1 : Int) (v2 : Int) : Option (Int × St) := fX3_wishAt_L0 v1 v2 σ
/-! TermLodgings$Rooms.houseOf(I)I -/
noncomputable def fX5_houseOf_L0 (v1 : Int) (σ : St) : Option (Int × St) :=
  bd (fX5_has σ v1) fun a1 s1 =>
  if w32 a1 = 0 then (
  some ((-1), s1))
  else (
  gI v1 24 (
  some ((s1.2 1 (ix v1)), s1)))
noncomputable def fX5_houseOf (σ : St) (v1 : Int) : Option (Int × St) := fX5_houseOf_L0 v1 σ
/-! TermLodgings$Rooms.under(I)I -/
noncomputable def fX5_under_B4 (k4 : Int → Int → Int → St → Option (Int × St)) (v1 : Int) (v2 : Int) (v3 : Int) (σ : St) : Option (Int × St) :=
  if w32 (σ.1 0) ≤ w32 v3 then (
  some (v2, σ))
  else (
  gI v3 24 (
  if w32 (σ.2 1 (ix v3)) = w32 v1 then (
  k4 v1 (bOr v2 (bShl 1 v3)) (v3 + 1) σ)
  else (
  k4 v1 v2 (v3 + 1) σ)))
noncomputable def fX5_under_L4 : Nat → Int → Int → Int → St → Option (Int × St)
  | 0, _, _, _, _ => none
  | n + 1, v1, v2, v3, σ => fX5_under_B4 (fX5_under_L4 n) v1 v2 v3 σ
noncomputable def fX5_under_L0 (v1 : Int) (σ : St) : Option (Int × St) :=
  fX5_under_L4 1000 v1 0 0 σ
noncomputable def fX5_under (σ : St) (v1 : Int) : Option (Int × St) := fX5_under_L0 v1 σ
/-! TermLodgings$Town.openTo(I)I -/
noncomputable def fX7_openTo_L0 (v1 : Int) (σ : St) : Option (Int × St) :=
  bd (fX3_has σ v1) fun a1 s1 =>
  if w32 a1 = 0 then (
  some (0, s1))
  else (
  gI v1 16 (
  some ((bAnd (s1.2 0 (ix v1)) (bXor (s1.1 2) (-1))), s1)))
noncomputable def fX7_openTo (σ : St) (v1 : Int) : Option (Int × St) := fX7_openTo_L0 v1 σ
/-! TermLodgings.leastIn(I)I -/
noncomputable def fX10_leastIn_B2 (k2 : Int → Int → St → Option (Int × St)) (v0 : Int) (v1 : Int) (σ : St) : Option (Int × St) :=
  if 32 ≤ w32 v1 then (
  some ((-1), σ))
  else (
  bd (fX10_inBits σ v0 v1) fun a1 s1 =>
  if w32 a1 = 0 then (
  k2 v0 (v1 + 1) s1)
  else (
  some (v1, s1)))
noncomputable def fX10_leastIn_L2 : Nat → Int → Int → St → Option (Int × St)
  | 0, _, _, _ => none
  | n + 1, v0, v1, σ => fX10_leastIn_B2 (fX10_leastIn_L2 n) v0 v1 σ
noncomputable def fX10_leastIn_L0 (v0 : Int) (σ : St) : Option (Int × St) :=
  fX10_leastIn_L2 1000 v0 0 σ
noncomputable def fX10_leastIn (σ : St) (v0 : Int) : Option (Int × St) := fX10_leastIn_L0 v0 σ
/-! TermLodgings$Dealing.pickAmong(II)Z -/
noncomputable def fX0_pickAmong_B5 (k5 : Int → Int → Int → St → Option (Int × St)) (v2 : Int) (v3 : Int) (v4 : Int) (σ : St) : Option (Int × St) :=
  if w32 (σ.1 3) ≤ w32 v4 then (
  some (1, σ))
  else (
  bd (fX10_inBits σ v2 v4) fun a1 s1 =>
  if w32 a1 = 0 then (
  k5 v2 v3 (v4 + 1) s1)
  else (
  bd (fX7_openTo s1 v4) fun a2 s2 =>
  bd (fX10_leastIn s2 (bAnd v3 a2)) fun a3 s3 =>
  if w32 a3 = (-1) then (
  some (0, s3))
  else (
  gI v4 16 (
  k5 v2 (bAnd v3 (bXor (bShl 1 a3) (-1))) (v4 + 1) (sA s3 17 (ix v4) a3)))))
noncomputable def fX0_pickAmong_L5 : Nat → Int → Int → Int → St → Option (Int × St)
  | 0, _, _, _, _ => none
  | n + 1, v2, v3, v4, σ => fX0_pickAmong_B5 (fX0_pickAmong_L5 n) v2 v3 v4 σ
noncomputable def fX0_pickAmong_L0 (v1 : Int) (v2 : Int) (σ : St) : Option (Int × St) :=
  fX0_pickAmong_L5 1000 v2 v1 0 σ
noncomputable def fX0_pickAmong (σ : St) (v1 : Int) (v2 : Int) : Option (Int × St) := fX0_pickAmong_L0 v1 v2 σ
/-! TermLodgings$Town.settle(II)V -/
noncomputable def fX7_settle_L0 (v1 : Int) (v2 : Int) (σ : St) : Option St :=
  bd (fX3_has σ v1) fun a1 s1 =>
  if w32 a1 = 0 then (
  some s1)
  else (
  bd (fX5_has s1 v2) fun a2 s2 =>
  if w32 a2 = 0 then (
  some s2)
  else (
  gI v1 16 (
  gI v2 24 (
  some (sF (sA (sA s2 9 (ix v1) v2) 4 (ix v2) v1) 2 (bOr ((sA (sA s2 9 (ix v1) v2) 4 (ix v2) v1).1 2) (bShl 1 v2)))))))
noncomputable def fX7_settle (σ : St) (v1 : Int) (v2 : Int) : Option St := fX7_settle_L0 v1 v2 σ
/-! TermLodgings$Dealing.settlePicks(I)V -/
noncomputable def fX0_settlePicks_B2 (k2 : Int → Int → St → Option St) (v1 : Int) (v2 : Int) (σ : St) : Option St :=
  if w32 (σ.1 3) ≤ w32 v2 then (
  some σ)
  else (
  bd (fX10_inBits σ v1 v2) fun a1 s1 =>
  if w32 a1 = 0 then (
  k2 v1 (v2 + 1) s1)
  else (
  gI v2 16 (
  bv (fX7_settle s1 v2 (s1.2 17 (ix v2))) fun s2 =>
  k2 v1 (v2 + 1) s2)))
noncomputable def fX0_settlePicks_L2 : Nat → Int → Int → St → Option St
  | 0, _, _, _ => none
  | n + 1, v1, v2, σ => fX0_settlePicks_B2 (fX0_settlePicks_L2 n) v1 v2 σ
noncomputable def fX0_settlePicks_L0 (v1 : Int) (σ : St) : Option St :=
  fX0_settlePicks_L2 1000 v1 0 σ
noncomputable def fX0_settlePicks (σ : St) (v1 : Int) : Option St := fX0_settlePicks_L0 v1 σ
/-! TermLodgings$Dealing.settleTogether(II)Z -/
noncomputable def fX0_settleTogether_B2 (k2 : Int → Int → Int → St → Option (Int × St)) (v1 : Int) (v2 : Int) (v3 : Int) (σ : St) : Option (Int × St) :=
  bd (fX3_wishesOf σ v1) fun a1 s1 =>
  if w32 a1 ≤ w32 v3 then (
  some (0, s1))
  else (
  bd (fX3_wishAt s1 v1 v3) fun a2 s2 =>
  bd (fX5_houseOf s2 a2) fun a3 s3 =>
  bd (fX5_under s3 a3) fun a4 s4 =>
  bd (fX0_pickAmong s4 a4 v2) fun a5 s5 =>
  if w32 a5 = 0 then (
  k2 v1 v2 (v3 + 1) s5)
  else (
  bv (fX0_settlePicks s5 v2) fun s6 =>
  some (1, s6)))
noncomputable def fX0_settleTogether_L2 : Nat → Int → Int → Int → St → Option (Int × St)
  | 0, _, _, _, _ => none
  | n + 1, v1, v2, v3, σ => fX0_settleTogether_B2 (fX0_settleTogether_L2 n) v1 v2 v3 σ
noncomputable def fX0_settleTogether_L0 (v1 : Int) (v2 : Int) (σ : St) : Option (Int × St) :=
  fX0_settleTogether_L2 1000 v1 v2 0 σ
noncomputable def fX0_settleTogether (σ : St) (v1 : Int) (v2 : Int) : Option (Int × St) := fX0_settleTogether_L0 v1 v2 σ
/-! TermLodgings$Dealing.dearestOpenWish(I)I -/
noncomputable def fX0_dearestOpenWish_B11 (k11 : Int → Int → Int → St → Option (Int × St)) (v1 : Int) (v2 : Int) (v3 : Int) (σ : St) : Option (Int × St) :=
  bd (fX3_wishesOf σ v1) fun a1 s1 =>
  if w32 a1 ≤ w32 v3 then (
  some ((-1), s1))
  else (
  bd (fX3_wishAt s1 v1 v3) fun a2 s2 =>
  bd (fX10_inBits s2 v2 a2) fun a3 s3 =>
  if w32 a3 = 0 then (
  k11 v1 v2 (v3 + 1) s3)
  else (
  some (a2, s3)))
noncomputable def fX0_dearestOpenWish_L11 : Nat → Int → Int → Int → St → Option (Int × St)
  | 0, _, _, _, _ => none
  | n + 1, v1, v2, v3, σ => fX0_dearestOpenWish_B11 (fX0_dearestOpenWish_L11 n) v1 v2 v3 σ
noncomputable def fX0_dearestOpenWish_L0 (v1 : Int) (σ : St) : Option (Int × St) :=
  bd (fX7_openTo σ v1) fun a4 s4 =>
  fX0_dearestOpenWish_L11 1000 v1 a4 0 s4
noncomputable def fX0_dearestOpenWish (σ : St) (v1 : Int) : Option (Int × St) := fX0_dearestOpenWish_L0 v1 σ
/-! TermLodgings$Dealing.settleEach(I)V -/
noncomputable def fX0_settleEach_B2 (k2 : Int → Int → St → Option St) (v1 : Int) (v2 : Int) (σ : St) : Option St :=
  if w32 (σ.1 3) ≤ w32 v2 then (
  some σ)
  else (
  bd (fX10_inBits σ v1 v2) fun a1 s1 =>
  if w32 a1 = 0 then (
  k2 v1 (v2 + 1) s1)
  else (
  bd (fX0_dearestOpenWish s1 v2) fun a2 s2 =>
  bv (fX7_settle s2 v2 a2) fun s3 =>
  k2 v1 (v2 + 1) s3))
noncomputable def fX0_settleEach_L2 : Nat → Int → Int → St → Option St
  | 0, _, _, _ => none
  | n + 1, v1, v2, σ => fX0_settleEach_B2 (fX0_settleEach_L2 n) v1 v2 σ
noncomputable def fX0_settleEach_L0 (v1 : Int) (σ : St) : Option St :=
  fX0_settleEach_L2 1000 v1 0 σ
noncomputable def fX0_settleEach (σ : St) (v1 : Int) : Option St := fX0_settleEach_L0 v1 σ
/-! TermLodgings$Dealing.serve(II)V -/
noncomputable def fX0_serve_L13 (v1 : Int) (v2 : Int) (t0 : Int) (σ : St) : Option St :=
  if w32 t0 = 0 then (
  bd (fX0_settleTogether σ v1 v2) fun a2 s2 =>
  if w32 a2 = 0 then (
  bv (fX0_settleEach s2 v2) fun s3 =>
  some s3)
  else (
  some s2))
  else (
  bv (fX0_settleEach σ v2) fun s1 =>
  some s1)
noncomputable def fX0_serve_L0 (v1 : Int) (v2 : Int) (σ : St) : Option St :=
  bd (fJ6_bitCount_0f7a4 σ v2) fun a4 s4 =>
  if w32 a4 = 1 then (
  fX0_serve_L13 v1 v2 1 s4)
  else (
  fX0_serve_L13 v1 v2 0 s4)
noncomputable def fX0_serve (σ : St) (v1 : Int) (v2 : Int) : Option St := fX0_serve_L0 v1 v2 σ
/-! TermLodgings$Dealing.run(LTermLodgings$Turns;)V -/
noncomputable def fX0_run_B38 (k38 : Int → Int → St → Option St) (v2 : Int) (v3 : Int) (σ : St) : Option St :=
  if w32 (σ.1 9) ≤ w32 v3 then (
  some σ)
  else (
  bd (fX9_at σ v3) fun a1 s1 =>
  bd (fX10_inBits s1 v2 a1) fun a2 s2 =>
  if w32 a2 = 0 then (
  bd (fX3_friendsOf s2 a1) fun a3 s3 =>
  bv (fX0_serve s3 a1 a3) fun s4 =>
  k38 (bOr v2 a3) (v3 + 1) s4)
  else (
  k38 v2 (v3 + 1) s2))
noncomputable def fX0_run_L38 : Nat → Int → Int → St → Option St
  | 0, _, _, _ => none
  | n + 1, v2, v3, σ => fX0_run_B38 (fX0_run_L38 n) v2 v3 σ
noncomputable def fX0_run_B9 (k9 : Int → St → Option St) (v2 : Int) (σ : St) : Option St :=
  if w32 (σ.1 3) ≤ w32 v2 then (
  fX0_run_L38 1000 0 0 σ)
  else (
  bv (fX7_leave σ v2) fun s5 =>
  k9 (v2 + 1) s5)
noncomputable def fX0_run_L9 : Nat → Int → St → Option St
  | 0, _, _ => none
  | n + 1, v2, σ => fX0_run_B9 (fX0_run_L9 n) v2 σ
noncomputable def fX0_run_L0 (σ : St) : Option St :=
  bv (fX7_weighAll σ) fun s6 =>
  fX0_run_L9 1000 0 s6
noncomputable def fX0_run (σ : St) : Option St := fX0_run_L0 σ
/-! TermLodgings$Moving.emptyHouse(I)V -/
noncomputable def fX1_emptyHouse_B7 (k7 : Int → Int → St → Option St) (v1 : Int) (v2 : Int) (σ : St) : Option St :=
  if w32 (σ.1 3) ≤ w32 v2 then (
  some σ)
  else (
  if 16 ≤ w32 (σ.1 14) then (
  k7 v1 (v2 + 1) σ)
  else (
  bd (fX3_lodgingOf σ v2) fun a1 s1 =>
  bd (fX5_houseOf s1 a1) fun a2 s2 =>
  if w32 a2 = w32 v1 then (
  gI (s2.1 14) 16 (
  bv (fX7_leave (sF (sA s2 20 (ix (s2.1 14)) v2) 14 (((sA s2 20 (ix (s2.1 14)) v2).1 14) + 1)) v2) fun s3 =>
  k7 v1 (v2 + 1) s3))
  else (
  k7 v1 (v2 + 1) s2)))
noncomputable def fX1_emptyHouse_L7 : Nat → Int → Int → St → Option St
  | 0, _, _, _ => none
  | n + 1, v1, v2, σ => fX1_emptyHouse_B7 (fX1_emptyHouse_L7 n) v1 v2 σ
noncomputable def fX1_emptyHouse_L0 (v1 : Int) (σ : St) : Option St :=
  fX1_emptyHouse_L7 1000 v1 0 (sF σ 14 0)
noncomputable def fX1_emptyHouse (σ : St) (v1 : Int) : Option St := fX1_emptyHouse_L0 v1 σ
/-! TermLodgings$Moving.choiceOf(I)I -/
noncomputable def fX1_choiceOf_L0 (v1 : Int) (σ : St) : Option (Int × St) :=
  if w32 v1 < 0 then (
  some (0, σ))
  else (
  if w32 (σ.1 14) ≤ w32 v1 then (
  some (0, σ))
  else (
  gI v1 16 (
  some ((σ.2 21 (ix v1)), σ))))
noncomputable def fX1_choiceOf (σ : St) (v1 : Int) : Option (Int × St) := fX1_choiceOf_L0 v1 σ
/-! TermLodgings$Moving.findRoom(II)I -/
noncomputable def fX1_findRoom_B45 (k15 : Int → Int → Int → St → Option (Int × St)) (k45 : Int → Int → Int → Int → Int → St → Option (Int × St)) (v3 : Int) (v4 : Int) (v5 : Int) (v6 : Int) (v7 : Int) (σ : St) : Option (Int × St) :=
  if w32 (σ.1 0) ≤ w32 v7 then (
  k15 v3 v4 (v5 + 1) σ)
  else (
  bd (fX10_inBits σ (bAnd v6 (bXor v3 (-1))) v7) fun a1 s1 =>
  if w32 a1 = 0 then (
  k45 v3 v4 v5 v6 (v7 + 1) s1)
  else (
  gI v5 16 (
  gI v7 24 (
  gI v7 24 (
  if w32 ((sA s1 25 (ix v7) (s1.2 24 (ix v5))).2 22 (ix v7)) = (-1) then (
  some (v7, (sA s1 25 (ix v7) (s1.2 24 (ix v5)))))
  else (
  if 16 ≤ w32 v4 then (
  k45 (bOr v3 (bShl 1 v7)) v4 v5 v6 (v7 + 1) (sA s1 25 (ix v7) (s1.2 24 (ix v5))))
  else (
  gI v7 24 (
  gI v4 16 (
  k45 (bOr v3 (bShl 1 v7)) (v4 + 1) v5 v6 (v7 + 1) (sA (sA s1 25 (ix v7) (s1.2 24 (ix v5))) 24 (ix v4) ((sA s1 25 (ix v7) (s1.2 24 (ix v5))).2 22 (ix v7))))))))))))
noncomputable def fX1_findRoom_L45 (k15 : Int → Int → Int → St → Option (Int × St)) : Nat → Int → Int → Int → Int → Int → St → Option (Int × St)
  | 0, _, _, _, _, _, _ => none
  | n + 1, v3, v4, v5, v6, v7, σ => fX1_findRoom_B45 k15 (fX1_findRoom_L45 k15 n) v3 v4 v5 v6 v7 σ
noncomputable def fX1_findRoom_B15 (k15 : Int → Int → Int → St → Option (Int × St)) (v3 : Int) (v4 : Int) (v5 : Int) (σ : St) : Option (Int × St) :=
  if w32 v4 ≤ w32 v5 then (
  some ((-1), σ))
  else (
  if 16 ≤ w32 v5 then (
  some ((-1), σ))
  else (
  gI v5 16 (
  bd (fX1_choiceOf σ (σ.2 24 (ix v5))) fun a2 s2 =>
  fX1_findRoom_L45 k15 1000 v3 v4 v5 a2 0 s2)))
noncomputable def fX1_findRoom_L15 : Nat → Int → Int → Int → St → Option (Int × St)
  | 0, _, _, _, _ => none
  | n + 1, v3, v4, v5, σ => fX1_findRoom_B15 (fX1_findRoom_L15 n) v3 v4 v5 σ
noncomputable def fX1_findRoom_L0 (v1 : Int) (v2 : Int) (σ : St) : Option (Int × St) :=
  gI 0 16 (
  fX1_findRoom_L15 1000 v2 1 0 (sA σ 24 (ix 0) v1))
noncomputable def fX1_findRoom (σ : St) (v1 : Int) (v2 : Int) : Option (Int × St) := fX1_findRoom_L0 v1 v2 σ
/-! TermLodgings$Moving.changeAlong(I)V -/
noncomputable def fX1_changeAlong_B4 (k4 : Int → Int → St → Option St) (v2 : Int) (v3 : Int) (σ : St) : Option St :=
  if 16 ≤ w32 v3 then (
  some σ)
  else (
  bd (fX5_has σ v2) fun a1 s1 =>
  if w32 a1 = 0 then (
  some s1)
  else (
  gI v2 24 (
  if w32 (s1.2 25 (ix v2)) < 0 then (
  some s1)
  else (
  if w32 (s1.2 25 (ix v2)) < w32 (s1.1 14) then (
  gI (s1.2 25 (ix v2)) 16 (
  gI v2 24 (
  gI (s1.2 25 (ix v2)) 16 (
  k4 (s1.2 23 (ix (s1.2 25 (ix v2)))) (v3 + 1) (sA (sA s1 22 (ix v2) (s1.2 25 (ix v2))) 23 (ix (s1.2 25 (ix v2))) v2)))))
  else (
  some s1)))))
noncomputable def fX1_changeAlong_L4 : Nat → Int → Int → St → Option St
  | 0, _, _, _ => none
  | n + 1, v2, v3, σ => fX1_changeAlong_B4 (fX1_changeAlong_L4 n) v2 v3 σ
noncomputable def fX1_changeAlong_L0 (v1 : Int) (σ : St) : Option St :=
  fX1_changeAlong_L4 1000 v1 0 σ
noncomputable def fX1_changeAlong (σ : St) (v1 : Int) : Option St := fX1_changeAlong_L0 v1 σ
/-! TermLodgings$Moving.mostFrom(II)I -/
noncomputable def fX1_mostFrom_B21 (k21 : Int → Int → Int → St → Option (Int × St)) (v2 : Int) (v3 : Int) (v4 : Int) (σ : St) : Option (Int × St) :=
  if w32 (σ.1 14) ≤ w32 v4 then (
  some (v3, σ))
  else (
  bd (fX1_findRoom σ v4 v2) fun a1 s1 =>
  if w32 a1 = (-1) then (
  k21 v2 v3 (v4 + 1) s1)
  else (
  bv (fX1_changeAlong s1 a1) fun s2 =>
  k21 v2 (v3 + 1) (v4 + 1) s2))
noncomputable def fX1_mostFrom_L21 : Nat → Int → Int → Int → St → Option (Int × St)
  | 0, _, _, _, _ => none
  | n + 1, v2, v3, v4, σ => fX1_mostFrom_B21 (fX1_mostFrom_L21 n) v2 v3 v4 σ
noncomputable def fX1_mostFrom_L0 (v1 : Int) (v2 : Int) (σ : St) : Option (Int × St) :=
  bv (fJ7_fill_53178_a33 σ (-1)) fun s3 =>
  bv (fJ7_fill_53178_a34 s3 (-1)) fun s4 =>
  fX1_mostFrom_L21 1000 v2 0 v1 s4
noncomputable def fX1_mostFrom (σ : St) (v1 : Int) (v2 : Int) : Option (Int × St) := fX1_mostFrom_L0 v1 v2 σ
/-! TermLodgings$Moving.leastRoom(III)I -/
noncomputable def fX1_leastRoom_B3 (k3 : Int → Int → Int → Int → St → Option (Int × St)) (v1 : Int) (v2 : Int) (v3 : Int) (v4 : Int) (σ : St) : Option (Int × St) :=
  if w32 (σ.1 0) ≤ w32 v4 then (
  some ((-1), σ))
  else (
  gI v1 16 (
  bd (fX10_inBits σ (bAnd (σ.2 21 (ix v1)) (bXor v2 (-1))) v4) fun a1 s1 =>
  if w32 a1 = 0 then (
  k3 v1 v2 v3 (v4 + 1) s1)
  else (
  bd (fX1_mostFrom s1 (v1 + 1) (bOr v2 (bShl 1 v4))) fun a2 s2 =>
  if w32 (1 + a2) = w32 v3 then (
  some (v4, s2))
  else (
  k3 v1 v2 v3 (v4 + 1) s2))))
noncomputable def fX1_leastRoom_L3 : Nat → Int → Int → Int → Int → St → Option (Int × St)
  | 0, _, _, _, _, _ => none
  | n + 1, v1, v2, v3, v4, σ => fX1_leastRoom_B3 (fX1_leastRoom_L3 n) v1 v2 v3 v4 σ
noncomputable def fX1_leastRoom_L0 (v1 : Int) (v2 : Int) (v3 : Int) (σ : St) : Option (Int × St) :=
  fX1_leastRoom_L3 1000 v1 v2 v3 0 σ
noncomputable def fX1_leastRoom (σ : St) (v1 : Int) (v2 : Int) (v3 : Int) : Option (Int × St) := fX1_leastRoom_L0 v1 v2 v3 σ
/-! TermLodgings$Moving.settleMovers(I)V -/
noncomputable def fX1_settleMovers_B7 (k7 : Int → Int → Int → St → Option St) (v2 : Int) (v3 : Int) (v4 : Int) (σ : St) : Option St :=
  if w32 (σ.1 14) ≤ w32 v4 then (
  some σ)
  else (
  bd (fX1_leastRoom σ v4 v3 v2) fun a1 s1 =>
  if w32 a1 = (-1) then (
  k7 v2 v3 (v4 + 1) s1)
  else (
  gI v4 16 (
  bv (fX7_settle s1 (s1.2 20 (ix v4)) a1) fun s2 =>
  k7 (v2 + (-1)) (bOr v3 (bShl 1 a1)) (v4 + 1) s2)))
noncomputable def fX1_settleMovers_L7 : Nat → Int → Int → Int → St → Option St
  | 0, _, _, _, _ => none
  | n + 1, v2, v3, v4, σ => fX1_settleMovers_B7 (fX1_settleMovers_L7 n) v2 v3 v4 σ
noncomputable def fX1_settleMovers_L0 (v1 : Int) (σ : St) : Option St :=
  fX1_settleMovers_L7 1000 v1 0 0 σ
noncomputable def fX1_settleMovers (σ : St) (v1 : Int) : Option St := fX1_settleMovers_L0 v1 σ
/-! TermLodgings$Moving.run(I)I -/
noncomputable def fX1_run_B29 (k29 : Int → St → Option (Int × St)) (v2 : Int) (σ : St) : Option (Int × St) :=
  if w32 (σ.1 14) ≤ w32 v2 then (
  bd (fX1_mostFrom σ 0 0) fun a1 s1 =>
  bv (fX1_settleMovers s1 a1) fun s2 =>
  some (((s2.1 14) - a1), s2))
  else (
  gI v2 16 (
  bd (fX7_openTo σ (σ.2 20 (ix v2))) fun a3 s3 =>
  gI v2 16 (
  k29 (v2 + 1) (sA s3 21 (ix v2) a3))))
noncomputable def fX1_run_L29 : Nat → Int → St → Option (Int × St)
  | 0, _, _ => none
  | n + 1, v2, σ => fX1_run_B29 (fX1_run_L29 n) v2 σ
noncomputable def fX1_run_L0 (v1 : Int) (σ : St) : Option (Int × St) :=
  bv (fX1_emptyHouse (sF σ 1 (bOr (σ.1 1) (bShl 1 v1))) v1) fun s4 =>
  bv (fX7_weighAll s4) fun s5 =>
  fX1_run_L29 1000 0 s5
noncomputable def fX1_run (σ : St) (v1 : Int) : Option (Int × St) := fX1_run_L0 v1 σ
/-! TermLodgings$Nights.keepOne(LTermLodgings$People;)V -/
noncomputable def fX2_keepOne_B12 (k12 : Int → St → Option St) (v2 : Int) (σ : St) : Option St :=
  if w32 (σ.1 3) ≤ w32 v2 then (
  some (sF σ 15 ((σ.1 15) + 1)))
  else (
  bd (fX3_lodgingOf σ v2) fun a1 s1 =>
  gI ((v2 * 60) + (s1.1 15)) 960 (
  if w32 a1 = (-1) then (
  k12 (v2 + 1) (sA s1 26 (ix ((v2 * 60) + (s1.1 15))) a1))
  else (
  gI v2 16 (
  if w32 ((sA s1 26 (ix ((v2 * 60) + (s1.1 15))) a1).2 11 (ix v2)) = 0 then (
  gI v2 16 (
  gI v2 16 (
  k12 (v2 + 1) (sA (sA s1 26 (ix ((v2 * 60) + (s1.1 15))) a1) 10 (ix v2) (((sA s1 26 (ix ((v2 * 60) + (s1.1 15))) a1).2 10 (ix v2)) + 1)))))
  else (
  k12 (v2 + 1) (sA s1 26 (ix ((v2 * 60) + (s1.1 15))) a1))))))
noncomputable def fX2_keepOne_L12 : Nat → Int → St → Option St
  | 0, _, _ => none
  | n + 1, v2, σ => fX2_keepOne_B12 (fX2_keepOne_L12 n) v2 σ
noncomputable def fX2_keepOne_L0 (σ : St) : Option St :=
  if w32 (σ.1 15) < 60 then (
  fX2_keepOne_L12 1000 0 σ)
  else (
  some σ)
noncomputable def fX2_keepOne (σ : St) : Option St := fX2_keepOne_L0 σ
/-! TermLodgings$Nights.lodgingIn(II)I -/
noncomputable def fX2_lodgingIn_L29 (v1 : Int) (v2 : Int) (t0 : Int) (σ : St) : Option (Int × St) :=
  if w32 t0 = 0 then (
  some ((-1), σ))
  else (
  gI ((v1 * 60) + v2) 960 (
  some ((σ.2 26 (ix ((v1 * 60) + v2))), σ)))
noncomputable def fX2_lodgingIn_L0 (v1 : Int) (v2 : Int) (σ : St) : Option (Int × St) :=
  bd (fX10_within σ v1 0 15) fun a1 s1 =>
  if w32 a1 = 0 then (
  fX2_lodgingIn_L29 v1 v2 0 s1)
  else (
  bd (fX10_within s1 v2 0 ((s1.1 15) - 1)) fun a2 s2 =>
  if w32 a2 = 0 then (
  fX2_lodgingIn_L29 v1 v2 0 s2)
  else (
  fX2_lodgingIn_L29 v1 v2 1 s2))
noncomputable def fX2_lodgingIn (σ : St) (v1 : Int) (v2 : Int) : Option (Int × St) := fX2_lodgingIn_L0 v1 v2 σ
/-! TermLodgings$People.add(II)I -/
noncomputable def fX3_add_L0 (v1 : Int) (v2 : Int) (σ : St) : Option (Int × St) :=
  if w32 (σ.1 3) < 16 then (
  gI (σ.1 3) 16 (
  gI ((sA σ 5 (ix (σ.1 3)) v1).1 3) 16 (
  gI ((sA (sA σ 5 (ix (σ.1 3)) v1) 6 (ix ((sA σ 5 (ix (σ.1 3)) v1).1 3)) v2).1 3) 16 (
  some ((((sF (sA (sA (sA σ 5 (ix (σ.1 3)) v1) 6 (ix ((sA σ 5 (ix (σ.1 3)) v1).1 3)) v2) 9 (ix ((sA (sA σ 5 (ix (σ.1 3)) v1) 6 (ix ((sA σ 5 (ix (σ.1 3)) v1).1 3)) v2).1 3)) (-1)) 3 (((sA (sA (sA σ 5 (ix (σ.1 3)) v1) 6 (ix ((sA σ 5 (ix (σ.1 3)) v1).1 3)) v2) 9 (ix ((sA (sA σ 5 (ix (σ.1 3)) v1) 6 (ix ((sA σ 5 (ix (σ.1 3)) v1).1 3)) v2).1 3)) (-1)).1 3) + 1)).1 3) - 1), (sF (sA (sA (sA σ 5 (ix (σ.1 3)) v1) 6 (ix ((sA σ 5 (ix (σ.1 3)) v1).1 3)) v2) 9 (ix ((sA (sA σ 5 (ix (σ.1 3)) v1) 6 (ix ((sA σ 5 (ix (σ.1 3)) v1).1 3)) v2).1 3)) (-1)) 3 (((sA (sA (sA σ 5 (ix (σ.1 3)) v1) 6 (ix ((sA σ 5 (ix (σ.1 3)) v1).1 3)) v2) 9 (ix ((sA (sA σ 5 (ix (σ.1 3)) v1) 6 (ix ((sA σ 5 (ix (σ.1 3)) v1).1 3)) v2).1 3)) (-1)).1 3) + 1)))))))
  else (
  some ((-4), σ))
noncomputable def fX3_add (σ : St) (v1 : Int) (v2 : Int) : Option (Int × St) := fX3_add_L0 v1 v2 σ
/-! TermLodgings$People.wishesFor(II)Z -/
noncomputable def fX3_wishesFor_B2 (k2 : Int → Int → Int → St → Option (Int × St)) (v1 : Int) (v2 : Int) (v3 : Int) (σ : St) : Option (Int × St) :=
  bd (fX3_wishesOf σ v1) fun a1 s1 =>
  if w32 a1 ≤ w32 v3 then (
  some (0, s1))
  else (
  bd (fX3_wishAt s1 v1 v3) fun a2 s2 =>
  if w32 a2 = w32 v2 then (
  some (1, s2))
  else (
  k2 v1 v2 (v3 + 1) s2))
noncomputable def fX3_wishesFor_L2 : Nat → Int → Int → Int → St → Option (Int × St)
  | 0, _, _, _, _ => none
  | n + 1, v1, v2, v3, σ => fX3_wishesFor_B2 (fX3_wishesFor_L2 n) v1 v2 v3 σ
noncomputable def fX3_wishesFor_L0 (v1 : Int) (v2 : Int) (σ : St) : Option (Int × St) :=
  fX3_wishesFor_L2 1000 v1 v2 0 σ
noncomputable def fX3_wishesFor (σ : St) (v1 : Int) (v2 : Int) : Option (Int × St) := fX3_wishesFor_L0 v1 v2 σ
/-! TermLodgings$People.addWish(II)I -/
noncomputable def fX3_addWish_L0 (v1 : Int) (v2 : Int) (σ : St) : Option (Int × St) :=
  bd (fX3_wishesOf σ v1) fun a1 s1 =>
  bd (fX3_has s1 v1) fun a2 s2 =>
  if w32 a2 = 0 then (
  some ((-4), s2))
  else (
  if w32 a1 < 8 then (
  gI ((v1 * 8) + a1) 128 (
  gI v1 16 (
  some ((a1 + 1), (sA (sA s2 8 (ix ((v1 * 8) + a1)) v2) 7 (ix v1) (a1 + 1))))))
  else (
  some ((-4), s2)))
noncomputable def fX3_addWish (σ : St) (v1 : Int) (v2 : Int) : Option (Int × St) := fX3_addWish_L0 v1 v2 σ
/-! TermLodgings$People.housed()I -/
noncomputable def fX3_housed_B4 (k4 : Int → Int → St → Option (Int × St)) (v1 : Int) (v2 : Int) (σ : St) : Option (Int × St) :=
  if w32 (σ.1 3) ≤ w32 v2 then (
  some (v1, σ))
  else (
  gI v2 16 (
  if w32 (σ.2 9 (ix v2)) = (-1) then (
  k4 v1 (v2 + 1) σ)
  else (
  k4 (v1 + 1) (v2 + 1) σ)))
noncomputable def fX3_housed_L4 : Nat → Int → Int → St → Option (Int × St)
  | 0, _, _, _ => none
  | n + 1, v1, v2, σ => fX3_housed_B4 (fX3_housed_L4 n) v1 v2 σ
noncomputable def fX3_housed_L0 (σ : St) : Option (Int × St) :=
  fX3_housed_L4 1000 0 0 σ
noncomputable def fX3_housed (σ : St) : Option (Int × St) := fX3_housed_L0 σ
/-! TermLodgings$Prices.isListed(II)Z -/
noncomputable def fX4_isListed_L0 (v0 : Int) (v1 : Int) (σ : St) : Option (Int × St) :=
  bd (fX10_within σ v0 0 7) fun a1 s1 =>
  if w32 a1 = 0 then (
  some (0, s1))
  else (
  bd (fX10_within s1 v1 0 59) fun a2 s2 =>
  if w32 a2 = 0 then (
  some (0, s2))
  else (
  some (1, s2)))
noncomputable def fX4_isListed (σ : St) (v0 : Int) (v1 : Int) : Option (Int × St) := fX4_isListed_L0 v0 v1 σ
/-! TermLodgings$Prices.sinceOf(I)I -/
noncomputable def fX4_sinceOf_L0 (v1 : Int) (σ : St) : Option (Int × St) :=
  bd (fX10_within σ v1 0 39) fun a1 s1 =>
  if w32 a1 = 0 then (
  some ((-1), s1))
  else (
  gI v1 40 (
  some ((s1.2 27 (ix v1)), s1)))
noncomputable def fX4_sinceOf (σ : St) (v1 : Int) : Option (Int × St) := fX4_sinceOf_L0 v1 σ
/-! TermLodgings$Prices.tell(III)I -/
noncomputable def fX4_tell_B48 (k48 : Int → Int → Int → St → Option (Int × St)) (v1 : Int) (v2 : Int) (v4 : Int) (σ : St) : Option (Int × St) :=
  if 60 ≤ w32 v4 then (
  some (((sF σ 16 ((σ.1 16) + 1)).1 16), (sF σ 16 ((σ.1 16) + 1))))
  else (
  gI ((v1 * 60) + v4) 480 (
  gI v4 60 (
  gI ((v1 * 60) + v4) 480 (
  bd (fX4_sinceOf (sA σ 30 (ix v4) (σ.2 29 (ix ((v1 * 60) + v4)))) ((sA σ 30 (ix v4) (σ.2 29 (ix ((v1 * 60) + v4)))).2 29 (ix ((v1 * 60) + v4)))) fun a1 s1 =>
  if w32 v2 < w32 a1 then (
  k48 v1 v2 (v4 + 1) s1)
  else (
  gI ((v1 * 60) + v4) 480 (
  k48 v1 v2 (v4 + 1) (sA s1 29 (ix ((v1 * 60) + v4)) (s1.1 16))))))))
noncomputable def fX4_tell_L48 : Nat → Int → Int → Int → St → Option (Int × St)
  | 0, _, _, _, _ => none
  | n + 1, v1, v2, v4, σ => fX4_tell_B48 (fX4_tell_L48 n) v1 v2 v4 σ
noncomputable def fX4_tell_L0 (v1 : Int) (v2 : Int) (v3 : Int) (σ : St) : Option (Int × St) :=
  if 40 ≤ w32 (σ.1 16) then (
  some ((-4), σ))
  else (
  bd (fX4_isListed σ v1 v2) fun a2 s2 =>
  if w32 a2 = 0 then (
  some ((-4), s2))
  else (
  gI (s2.1 16) 40 (
  gI ((sA s2 27 (ix (s2.1 16)) v2).1 16) 40 (
  fX4_tell_L48 1000 v1 v2 v2 (sF (sA (sA s2 27 (ix (s2.1 16)) v2) 28 (ix ((sA s2 27 (ix (s2.1 16)) v2).1 16)) v3) 17 v1)))))
noncomputable def fX4_tell (σ : St) (v1 : Int) (v2 : Int) (v3 : Int) : Option (Int × St) := fX4_tell_L0 v1 v2 v3 σ
/-! TermLodgings$Prices.valueOf(I)I -/
noncomputable def fX4_valueOf_L0 (v1 : Int) (σ : St) : Option (Int × St) :=
  bd (fX10_within σ v1 0 39) fun a1 s1 =>
  if w32 a1 = 0 then (
  some (0, s1))
  else (
  gI v1 40 (
  some ((s1.2 28 (ix v1)), s1)))
noncomputable def fX4_valueOf (σ : St) (v1 : Int) : Option (Int × St) := fX4_valueOf_L0 v1 σ
/-! TermLodgings$Prices.at(II)I -/
noncomputable def fX4_at_L0 (v1 : Int) (v2 : Int) (σ : St) : Option (Int × St) :=
  bd (fX4_isListed σ v1 v2) fun a1 s1 =>
  if w32 a1 = 0 then (
  some (0, s1))
  else (
  gI ((v1 * 60) + v2) 480 (
  bd (fX4_valueOf s1 (s1.2 29 (ix ((v1 * 60) + v2)))) fun a2 s2 =>
  some (a2, s2)))
noncomputable def fX4_at (σ : St) (v1 : Int) (v2 : Int) : Option (Int × St) := fX4_at_L0 v1 v2 σ
/-! TermLodgings$Prices.dropWithoutLatest(I)I -/
noncomputable def fX4_dropWithoutLatest_L35 (v1 : Int) (t0 : Int) (σ : St) : Option (Int × St) :=
  if w32 t0 = 0 then (
  some (0, σ))
  else (
  gI v1 60 (
  bd (fX4_valueOf σ (σ.2 30 (ix v1))) fun a1 s1 =>
  bd (fX4_at s1 (s1.1 17) v1) fun a2 s2 =>
  some ((a1 - a2), s2)))
noncomputable def fX4_dropWithoutLatest_L0 (v1 : Int) (σ : St) : Option (Int × St) :=
  bd (fX4_sinceOf σ ((σ.1 16) - 1)) fun a3 s3 =>
  bd (fX10_within s3 v1 a3 59) fun a4 s4 =>
  if w32 a4 = 0 then (
  fX4_dropWithoutLatest_L35 v1 0 s4)
  else (
  bd (fX4_isListed s4 (s4.1 17) v1) fun a5 s5 =>
  if w32 a5 = 0 then (
  fX4_dropWithoutLatest_L35 v1 0 s5)
  else (
  fX4_dropWithoutLatest_L35 v1 1 s5))
noncomputable def fX4_dropWithoutLatest (σ : St) (v1 : Int) : Option (Int × St) := fX4_dropWithoutLatest_L0 v1 σ
/-! TermLodgings$Rooms.add(III)I -/
noncomputable def fX5_add_L0 (v1 : Int) (v2 : Int) (v3 : Int) (σ : St) : Option (Int × St) :=
  if w32 (σ.1 0) < 24 then (
  gI (σ.1 0) 24 (
  gI ((sA σ 1 (ix (σ.1 0)) v1).1 0) 24 (
  gI ((sA (sA σ 1 (ix (σ.1 0)) v1) 2 (ix ((sA σ 1 (ix (σ.1 0)) v1).1 0)) v2).1 0) 24 (
  gI ((sA (sA (sA σ 1 (ix (σ.1 0)) v1) 2 (ix ((sA σ 1 (ix (σ.1 0)) v1).1 0)) v2) 3 (ix ((sA (sA σ 1 (ix (σ.1 0)) v1) 2 (ix ((sA σ 1 (ix (σ.1 0)) v1).1 0)) v2).1 0)) v3).1 0) 24 (
  some ((((sF (sA (sA (sA (sA σ 1 (ix (σ.1 0)) v1) 2 (ix ((sA σ 1 (ix (σ.1 0)) v1).1 0)) v2) 3 (ix ((sA (sA σ 1 (ix (σ.1 0)) v1) 2 (ix ((sA σ 1 (ix (σ.1 0)) v1).1 0)) v2).1 0)) v3) 4 (ix ((sA (sA (sA σ 1 (ix (σ.1 0)) v1) 2 (ix ((sA σ 1 (ix (σ.1 0)) v1).1 0)) v2) 3 (ix ((sA (sA σ 1 (ix (σ.1 0)) v1) 2 (ix ((sA σ 1 (ix (σ.1 0)) v1).1 0)) v2).1 0)) v3).1 0)) (-1)) 0 (((sA (sA (sA (sA σ 1 (ix (σ.1 0)) v1) 2 (ix ((sA σ 1 (ix (σ.1 0)) v1).1 0)) v2) 3 (ix ((sA (sA σ 1 (ix (σ.1 0)) v1) 2 (ix ((sA σ 1 (ix (σ.1 0)) v1).1 0)) v2).1 0)) v3) 4 (ix ((sA (sA (sA σ 1 (ix (σ.1 0)) v1) 2 (ix ((sA σ 1 (ix (σ.1 0)) v1).1 0)) v2) 3 (ix ((sA (sA σ 1 (ix (σ.1 0)) v1) 2 (ix ((sA σ 1 (ix (σ.1 0)) v1).1 0)) v2).1 0)) v3).1 0)) (-1)).1 0) + 1)).1 0) - 1), (sF (sA (sA (sA (sA σ 1 (ix (σ.1 0)) v1) 2 (ix ((sA σ 1 (ix (σ.1 0)) v1).1 0)) v2) 3 (ix ((sA (sA σ 1 (ix (σ.1 0)) v1) 2 (ix ((sA σ 1 (ix (σ.1 0)) v1).1 0)) v2).1 0)) v3) 4 (ix ((sA (sA (sA σ 1 (ix (σ.1 0)) v1) 2 (ix ((sA σ 1 (ix (σ.1 0)) v1).1 0)) v2) 3 (ix ((sA (sA σ 1 (ix (σ.1 0)) v1) 2 (ix ((sA σ 1 (ix (σ.1 0)) v1).1 0)) v2).1 0)) v3).1 0)) (-1)) 0 (((sA (sA (sA (sA σ 1 (ix (σ.1 0)) v1) 2 (ix ((sA σ 1 (ix (σ.1 0)) v1).1 0)) v2) 3 (ix ((sA (sA σ 1 (ix (σ.1 0)) v1) 2 (ix ((sA σ 1 (ix (σ.1 0)) v1).1 0)) v2).1 0)) v3) 4 (ix ((sA (sA (sA σ 1 (ix (σ.1 0)) v1) 2 (ix ((sA σ 1 (ix (σ.1 0)) v1).1 0)) v2) 3 (ix ((sA (sA σ 1 (ix (σ.1 0)) v1) 2 (ix ((sA σ 1 (ix (σ.1 0)) v1).1 0)) v2).1 0)) v3).1 0)) (-1)).1 0) + 1))))))))
  else (
  some ((-4), σ))
noncomputable def fX5_add (σ : St) (v1 : Int) (v2 : Int) (v3 : Int) : Option (Int × St) := fX5_add_L0 v1 v2 v3 σ
/-! TermLodgings$Rooms.holderOf(I)I -/
noncomputable def fX5_holderOf_L0 (v1 : Int) (σ : St) : Option (Int × St) :=
  bd (fX5_has σ v1) fun a1 s1 =>
  if w32 a1 = 0 then (
  some ((-1), s1))
  else (
  gI v1 24 (
  some ((s1.2 4 (ix v1)), s1)))
noncomputable def fX5_holderOf (σ : St) (v1 : Int) : Option (Int × St) := fX5_holderOf_L0 v1 σ
/-! TermLodgings$Statute.clear()V -/
noncomputable def fX6_clear_L0 (σ : St) : Option St :=
  some (sF (sF (sF (sF (sF σ 4 0) 5 0) 6 0) 7 (-1)) 8 1)
noncomputable def fX6_clear (σ : St) : Option St := fX6_clear_L0 σ
/-! TermLodgings$Statute.beginTest(I)Z -/
noncomputable def fX6_beginTest_L29 (v1 : Int) (t0 : Int) (σ : St) : Option (Int × St) :=
  if w32 t0 = 0 then (
  some (0, σ))
  else (
  if w32 (σ.1 5) < 16 then (
  gI (σ.1 5) 16 (
  gI ((sA σ 12 (ix (σ.1 5)) v1).1 5) 16 (
  gI ((sA (sA σ 12 (ix (σ.1 5)) v1) 14 (ix ((sA σ 12 (ix (σ.1 5)) v1).1 5)) 0).1 5) 16 (
  gB ((sA (sA σ 12 (ix (σ.1 5)) v1) 14 (ix ((sA σ 12 (ix (σ.1 5)) v1).1 5)) 0).1 8) (
  some (1, (sF (sF (sA (sA (sA σ 12 (ix (σ.1 5)) v1) 14 (ix ((sA σ 12 (ix (σ.1 5)) v1).1 5)) 0) 15 (ix ((sA (sA σ 12 (ix (σ.1 5)) v1) 14 (ix ((sA σ 12 (ix (σ.1 5)) v1).1 5)) 0).1 5)) ((sA (sA σ 12 (ix (σ.1 5)) v1) 14 (ix ((sA σ 12 (ix (σ.1 5)) v1).1 5)) 0).1 8)) 5 (((sA (sA (sA σ 12 (ix (σ.1 5)) v1) 14 (ix ((sA σ 12 (ix (σ.1 5)) v1).1 5)) 0) 15 (ix ((sA (sA σ 12 (ix (σ.1 5)) v1) 14 (ix ((sA σ 12 (ix (σ.1 5)) v1).1 5)) 0).1 5)) ((sA (sA σ 12 (ix (σ.1 5)) v1) 14 (ix ((sA σ 12 (ix (σ.1 5)) v1).1 5)) 0).1 8)).1 5) + 1)) 6 1)))))))
  else (
  some (0, σ)))
noncomputable def fX6_beginTest_L0 (v1 : Int) (σ : St) : Option (Int × St) :=
  if w32 v1 = 121 then (
  fX6_beginTest_L29 v1 1 σ)
  else (
  if w32 v1 = 109 then (
  fX6_beginTest_L29 v1 1 σ)
  else (
  if w32 v1 = 115 then (
  fX6_beginTest_L29 v1 1 σ)
  else (
  if w32 v1 = 104 then (
  fX6_beginTest_L29 v1 1 σ)
  else (
  fX6_beginTest_L29 v1 0 σ))))
noncomputable def fX6_beginTest (σ : St) (v1 : Int) : Option (Int × St) := fX6_beginTest_L0 v1 σ
/-! TermLodgings$Statute.takeSign(I)Z -/
noncomputable def fX6_takeSign_L20 (v1 : Int) (σ : St) : Option (Int × St) :=
  gI ((σ.1 5) - 1) 16 (
  some (1, (sF (sA σ 13 (ix ((σ.1 5) - 1)) v1) 6 2)))
noncomputable def fX6_takeSign_L0 (v1 : Int) (σ : St) : Option (Int × St) :=
  if w32 v1 = 60 then (
  fX6_takeSign_L20 v1 σ)
  else (
  if w32 v1 = 61 then (
  fX6_takeSign_L20 v1 σ)
  else (
  if w32 v1 = 62 then (
  fX6_takeSign_L20 v1 σ)
  else (
  some (0, σ))))
noncomputable def fX6_takeSign (σ : St) (v1 : Int) : Option (Int × St) := fX6_takeSign_L0 v1 σ
/-! TermLodgings$Statute.takeFigure(I)Z -/
noncomputable def fX6_takeFigure_L0 (v1 : Int) (σ : St) : Option (Int × St) :=
  if w32 (σ.1 6) < 5 then (
  gI ((σ.1 5) - 1) 16 (
  gI ((σ.1 5) - 1) 16 (
  some (1, (sF (sA σ 14 (ix ((σ.1 5) - 1)) ((10 * (σ.2 14 (ix ((σ.1 5) - 1)))) + v1)) 6 (((sA σ 14 (ix ((σ.1 5) - 1)) ((10 * (σ.2 14 (ix ((σ.1 5) - 1)))) + v1)).1 6) + 1))))))
  else (
  some (0, σ))
noncomputable def fX6_takeFigure (σ : St) (v1 : Int) : Option (Int × St) := fX6_takeFigure_L0 v1 σ
/-! TermLodgings$Statute.endTest(I)Z -/
noncomputable def fX6_endTest_L22 (v1 : Int) (σ : St) : Option (Int × St) :=
  if w32 v1 = 124 then (
  some (1, (sF (sF σ 8 1) 6 0)))
  else (
  some (1, (sF (sF σ 8 0) 6 0)))
noncomputable def fX6_endTest_L0 (v1 : Int) (σ : St) : Option (Int × St) :=
  if w32 (σ.1 6) = 2 then (
  some (0, σ))
  else (
  if w32 v1 = 38 then (
  fX6_endTest_L22 v1 σ)
  else (
  if w32 v1 = 124 then (
  fX6_endTest_L22 v1 σ)
  else (
  some (0, σ))))
noncomputable def fX6_endTest (σ : St) (v1 : Int) : Option (Int × St) := fX6_endTest_L0 v1 σ
/-! TermLodgings$Statute.goesOnWith(I)Z -/
noncomputable def fX6_goesOnWith_L0 (v1 : Int) (σ : St) : Option (Int × St) :=
  if w32 (σ.1 6) = 0 then (
  bd (fX6_beginTest σ v1) fun a6 s6 =>
  gB a6 (some (a6, s6)))
  else (
  bd (fX10_within σ (σ.1 5) 1 16) fun a1 s1 =>
  if w32 a1 = 0 then (
  some (0, s1))
  else (
  if w32 (s1.1 6) = 1 then (
  bd (fX6_takeSign s1 v1) fun a5 s5 =>
  gB a5 (some (a5, s5)))
  else (
  bd (fX10_within s1 v1 48 57) fun a2 s2 =>
  if w32 a2 = 0 then (
  bd (fX6_endTest s2 v1) fun a3 s3 =>
  gB a3 (some (a3, s3)))
  else (
  bd (fX6_takeFigure s2 (v1 - 48)) fun a4 s4 =>
  gB a4 (some (a4, s4))))))
noncomputable def fX6_goesOnWith (σ : St) (v1 : Int) : Option (Int × St) := fX6_goesOnWith_L0 v1 σ
/-! TermLodgings$Statute.add(I)I -/
noncomputable def fX6_add_L0 (v1 : Int) (σ : St) : Option (Int × St) :=
  if w32 (σ.1 7) = (-1) then (
  bd (fX6_goesOnWith σ v1) fun a1 s1 =>
  if w32 a1 = 0 then (
  some (((sF (sF s1 7 (s1.1 4)) 4 (((sF s1 7 (s1.1 4)).1 4) + 1)).1 4), (sF (sF s1 7 (s1.1 4)) 4 (((sF s1 7 (s1.1 4)).1 4) + 1))))
  else (
  some (((sF s1 4 ((s1.1 4) + 1)).1 4), (sF s1 4 ((s1.1 4) + 1)))))
  else (
  some (((sF σ 4 ((σ.1 4) + 1)).1 4), (sF σ 4 ((σ.1 4) + 1))))
noncomputable def fX6_add (σ : St) (v1 : Int) : Option (Int × St) := fX6_add_L0 v1 σ
/-! TermLodgings$Town.choiceOf(I)I -/
noncomputable def fX7_choiceOf_L0 (v1 : Int) (σ : St) : Option (Int × St) :=
  bd (fX3_has σ v1) fun a1 s1 =>
  if w32 a1 = 0 then (
  some (0, s1))
  else (
  gI v1 16 (
  some ((s1.2 0 (ix v1)), s1)))
noncomputable def fX7_choiceOf (σ : St) (v1 : Int) : Option (Int × St) := fX7_choiceOf_L0 v1 σ
/-! TermLodgings$Trading.traders()I -/
noncomputable def fX8_traders_B4 (k4 : Int → Int → St → Option (Int × St)) (v1 : Int) (v2 : Int) (σ : St) : Option (Int × St) :=
  if w32 (σ.1 3) ≤ w32 v2 then (
  some (v1, σ))
  else (
  bd (fX7_choiceOf σ v2) fun a1 s1 =>
  bd (fX3_lodgingOf s1 v2) fun a2 s2 =>
  bd (fX10_inBits s2 a1 a2) fun a3 s3 =>
  if w32 a3 = 0 then (
  k4 v1 (v2 + 1) s3)
  else (
  k4 (bOr v1 (bShl 1 v2)) (v2 + 1) s3))
noncomputable def fX8_traders_L4 : Nat → Int → Int → St → Option (Int × St)
  | 0, _, _, _ => none
  | n + 1, v1, v2, σ => fX8_traders_B4 (fX8_traders_L4 n) v1 v2 σ
noncomputable def fX8_traders_L0 (σ : St) : Option (Int × St) :=
  fX8_traders_L4 1000 0 0 σ
noncomputable def fX8_traders (σ : St) : Option (Int × St) := fX8_traders_L0 σ
/-! TermLodgings$Trading.pointedAtBy(I)I -/
noncomputable def fX8_pointedAtBy_B21 (k21 : Int → Int → Int → Int → St → Option (Int × St)) (v1 : Int) (v2 : Int) (v3 : Int) (v4 : Int) (σ : St) : Option (Int × St) :=
  bd (fX3_wishesOf σ v1) fun a1 s1 =>
  if w32 a1 ≤ w32 v4 then (
  some (v1, s1))
  else (
  bd (fX3_wishAt s1 v1 v4) fun a2 s2 =>
  if w32 a2 = w32 v2 then (
  some (v1, s2))
  else (
  bd (fX5_holderOf s2 a2) fun a3 s3 =>
  bd (fX10_inBits s3 (s3.1 13) a3) fun a4 s4 =>
  if w32 a4 = 0 then (
  k21 v1 v2 v3 (v4 + 1) s4)
  else (
  bd (fX10_inBits s4 v3 a2) fun a5 s5 =>
  if w32 a5 = 0 then (
  k21 v1 v2 v3 (v4 + 1) s5)
  else (
  some (a3, s5)))))
noncomputable def fX8_pointedAtBy_L21 : Nat → Int → Int → Int → Int → St → Option (Int × St)
  | 0, _, _, _, _, _ => none
  | n + 1, v1, v2, v3, v4, σ => fX8_pointedAtBy_B21 (fX8_pointedAtBy_L21 n) v1 v2 v3 v4 σ
noncomputable def fX8_pointedAtBy_L0 (v1 : Int) (σ : St) : Option (Int × St) :=
  bd (fX3_lodgingOf σ v1) fun a6 s6 =>
  bd (fX7_choiceOf s6 v1) fun a7 s7 =>
  fX8_pointedAtBy_L21 1000 v1 a6 a7 0 s7
noncomputable def fX8_pointedAtBy (σ : St) (v1 : Int) : Option (Int × St) := fX8_pointedAtBy_L0 v1 σ
/-! TermLodgings$Trading.pointAll()V -/
noncomputable def fX8_pointAll_B2 (k2 : Int → St → Option St) (v1 : Int) (σ : St) : Option St :=
  if w32 (σ.1 3) ≤ w32 v1 then (
  some σ)
  else (
  bd (fX10_inBits σ (σ.1 13) v1) fun a1 s1 =>
  if w32 a1 = 0 then (
  k2 (v1 + 1) s1)
  else (
  bd (fX8_pointedAtBy s1 v1) fun a2 s2 =>
  gI v1 16 (
  k2 (v1 + 1) (sA s2 18 (ix v1) a2))))
noncomputable def fX8_pointAll_L2 : Nat → Int → St → Option St
  | 0, _, _ => none
  | n + 1, v1, σ => fX8_pointAll_B2 (fX8_pointAll_L2 n) v1 σ
noncomputable def fX8_pointAll_L0 (σ : St) : Option St :=
  fX8_pointAll_L2 1000 0 σ
noncomputable def fX8_pointAll (σ : St) : Option St := fX8_pointAll_L0 σ
/-! TermLodgings$Trading.targetOf(I)I -/
noncomputable def fX8_targetOf_L0 (v1 : Int) (σ : St) : Option (Int × St) :=
  bd (fX3_has σ v1) fun a1 s1 =>
  if w32 a1 = 0 then (
  some ((-1), s1))
  else (
  gI v1 16 (
  some ((s1.2 18 (ix v1)), s1)))
noncomputable def fX8_targetOf (σ : St) (v1 : Int) : Option (Int × St) := fX8_targetOf_L0 v1 σ
/-! TermLodgings$Trading.ringLength(I)I -/
noncomputable def fX8_ringLength_B4 (k4 : Int → Int → Int → St → Option (Int × St)) (v1 : Int) (v2 : Int) (v3 : Int) (σ : St) : Option (Int × St) :=
  if 16 < w32 v3 then (
  some (0, σ))
  else (
  bd (fX8_targetOf σ v2) fun a1 s1 =>
  if w32 a1 = w32 v1 then (
  some (v3, s1))
  else (
  k4 v1 a1 (v3 + 1) s1))
noncomputable def fX8_ringLength_L4 : Nat → Int → Int → Int → St → Option (Int × St)
  | 0, _, _, _, _ => none
  | n + 1, v1, v2, v3, σ => fX8_ringLength_B4 (fX8_ringLength_L4 n) v1 v2 v3 σ
noncomputable def fX8_ringLength_L0 (v1 : Int) (σ : St) : Option (Int × St) :=
  fX8_ringLength_L4 1000 v1 v1 1 σ
noncomputable def fX8_ringLength (σ : St) (v1 : Int) : Option (Int × St) := fX8_ringLength_L0 v1 σ
/-! TermLodgings$Trading.closeRing(II)I -/
noncomputable def fX8_closeRing_L67 (v2 : Int) (v3 : Int) (σ : St) : Option (Int × St) :=
  if w32 v2 < 2 then (
  some (v3, σ))
  else (
  some (v3, (sF (sF σ 10 ((σ.1 10) + 1)) 11 (iMax ((sF σ 10 ((σ.1 10) + 1)).1 11) v2))))
noncomputable def fX8_closeRing_B8 (k8 : Int → Int → Int → Int → St → Option (Int × St)) (v2 : Int) (v3 : Int) (v4 : Int) (v5 : Int) (σ : St) : Option (Int × St) :=
  if w32 v2 ≤ w32 v5 then (
  fX8_closeRing_L67 v2 v3 σ)
  else (
  bd (fX3_has σ v4) fun a1 s1 =>
  if w32 a1 = 0 then (
  fX8_closeRing_L67 v2 v3 s1)
  else (
  bd (fX8_targetOf s1 v4) fun a2 s2 =>
  bd (fX3_lodgingOf s2 a2) fun a3 s3 =>
  gI v4 16 (
  bd (fX8_targetOf (sA s3 19 (ix v4) a3) v4) fun a4 s4 =>
  k8 v2 (bOr v3 (bShl 1 v4)) a4 (v5 + 1) s4)))
noncomputable def fX8_closeRing_L8 : Nat → Int → Int → Int → Int → St → Option (Int × St)
  | 0, _, _, _, _, _ => none
  | n + 1, v2, v3, v4, v5, σ => fX8_closeRing_B8 (fX8_closeRing_L8 n) v2 v3 v4 v5 σ
noncomputable def fX8_closeRing_L0 (v1 : Int) (v2 : Int) (σ : St) : Option (Int × St) :=
  fX8_closeRing_L8 1000 v2 0 v1 0 σ
noncomputable def fX8_closeRing (σ : St) (v1 : Int) (v2 : Int) : Option (Int × St) := fX8_closeRing_L0 v1 v2 σ
/-! TermLodgings$Trading.closeAllRings()V -/
noncomputable def fX8_closeAllRings_B4 (k4 : Int → Int → St → Option St) (v1 : Int) (v2 : Int) (σ : St) : Option St :=
  if w32 (σ.1 3) ≤ w32 v2 then (
  some (sF σ 13 (bAnd (σ.1 13) (bXor v1 (-1)))))
  else (
  bd (fX10_inBits σ (σ.1 13) v2) fun a1 s1 =>
  if w32 a1 = 0 then (
  k4 v1 (v2 + 1) s1)
  else (
  bd (fX10_inBits s1 v1 v2) fun a2 s2 =>
  if w32 a2 = 0 then (
  bd (fX8_ringLength s2 v2) fun a3 s3 =>
  bd (fX8_closeRing s3 v2 a3) fun a4 s4 =>
  k4 (bOr v1 a4) (v2 + 1) s4)
  else (
  k4 v1 (v2 + 1) s2)))
noncomputable def fX8_closeAllRings_L4 : Nat → Int → Int → St → Option St
  | 0, _, _, _ => none
  | n + 1, v1, v2, σ => fX8_closeAllRings_B4 (fX8_closeAllRings_L4 n) v1 v2 σ
noncomputable def fX8_closeAllRings_L0 (σ : St) : Option St :=
  fX8_closeAllRings_L4 1000 0 0 σ
noncomputable def fX8_closeAllRings (σ : St) : Option St := fX8_closeAllRings_L0 σ
/-! TermLodgings$Trading.moveAll(I)I -/
noncomputable def fX8_moveAll_L46 (k4 : Int → Int → Int → St → Option (Int × St)) (v1 : Int) (v3 : Int) (t0 : Int) (t1 : Int) (σ : St) : Option (Int × St) :=
  gI v3 16 (
  bv (fX7_settle σ v3 (σ.2 19 (ix v3))) fun s1 =>
  k4 v1 (t0 + t1) (v3 + 1) s1)
noncomputable def fX8_moveAll_B4 (k4 : Int → Int → Int → St → Option (Int × St)) (v1 : Int) (v2 : Int) (v3 : Int) (σ : St) : Option (Int × St) :=
  if w32 (σ.1 3) ≤ w32 v3 then (
  some (v2, σ))
  else (
  bd (fX10_inBits σ v1 v3) fun a2 s2 =>
  if w32 a2 = 0 then (
  k4 v1 v2 (v3 + 1) s2)
  else (
  bd (fX3_lodgingOf s2 v3) fun a3 s3 =>
  gI v3 16 (
  if w32 a3 = w32 (s3.2 19 (ix v3)) then (
  fX8_moveAll_L46 k4 v1 v3 v2 0 s3)
  else (
  fX8_moveAll_L46 k4 v1 v3 v2 1 s3))))
noncomputable def fX8_moveAll_L4 : Nat → Int → Int → Int → St → Option (Int × St)
  | 0, _, _, _, _ => none
  | n + 1, v1, v2, v3, σ => fX8_moveAll_B4 (fX8_moveAll_L4 n) v1 v2 v3 σ
noncomputable def fX8_moveAll_L0 (v1 : Int) (σ : St) : Option (Int × St) :=
  fX8_moveAll_L4 1000 v1 0 0 σ
noncomputable def fX8_moveAll (σ : St) (v1 : Int) : Option (Int × St) := fX8_moveAll_L0 v1 σ
/-! TermLodgings$Trading.run()I -/
noncomputable def fX8_run_B32 (k32 : Int → St → Option (Int × St)) (v1 : Int) (σ : St) : Option (Int × St) :=
  if w32 (σ.1 13) = 0 then (
  bd (fX8_moveAll σ v1) fun a1 s1 =>
  some (a1, s1))
  else (
  if 16 ≤ w32 (σ.1 12) then (
  bd (fX8_moveAll σ v1) fun a2 s2 =>
  some (a2, s2))
  else (
  bv (fX8_pointAll σ) fun s3 =>
  bv (fX8_closeAllRings s3) fun s4 =>
  k32 v1 (sF s4 12 ((s4.1 12) + 1))))
noncomputable def fX8_run_L32 : Nat → Int → St → Option (Int × St)
  | 0, _, _ => none
  | n + 1, v1, σ => fX8_run_B32 (fX8_run_L32 n) v1 σ
noncomputable def fX8_run_L0 (σ : St) : Option (Int × St) :=
  bv (fX7_weighAll σ) fun s5 =>
  bd (fX8_traders s5) fun a6 s6 =>
  fX8_run_L32 1000 a6 (sF (sF (sF (sF s6 10 0) 11 0) 12 0) 13 a6)
noncomputable def fX8_run (σ : St) : Option (Int × St) := fX8_run_L0 σ
/-! TermLodgings$Turns.addLast(I)V -/
noncomputable def fX9_addLast_L0 (v1 : Int) (σ : St) : Option St :=
  if 16 ≤ w32 (σ.1 9) then (
  some σ)
  else (
  gI (σ.1 9) 16 (
  some (sF (sA σ 16 (ix (σ.1 9)) v1) 9 (((sA σ 16 (ix (σ.1 9)) v1).1 9) + 1))))
noncomputable def fX9_addLast (σ : St) (v1 : Int) : Option St := fX9_addLast_L0 v1 σ
/-! TermLodgings$Turns.swap(II)V -/
noncomputable def fX9_swap_L0 (v1 : Int) (v2 : Int) (σ : St) : Option St :=
  bd (fX9_has σ v1) fun a1 s1 =>
  if w32 a1 = 0 then (
  some s1)
  else (
  bd (fX9_has s1 v2) fun a2 s2 =>
  if w32 a2 = 0 then (
  some s2)
  else (
  gI v1 16 (
  gI v2 16 (
  gI v1 16 (
  gI v2 16 (
  some (sA (sA s2 16 (ix v1) (s2.2 16 (ix v2))) 16 (ix v2) (s2.2 16 (ix v1)))))))))
noncomputable def fX9_swap (σ : St) (v1 : Int) (v2 : Int) : Option St := fX9_swap_L0 v1 v2 σ
/-! TermLodgings$Turns.shuffle(I)V -/
noncomputable def fX9_shuffle_B32 (k32 : Int → Int → St → Option St) (v2 : Int) (v3 : Int) (σ : St) : Option St :=
  if w32 v3 < 1 then (
  some σ)
  else (
  g0 (v3 + 1) (
  bv (fX9_swap σ v3 (iRem (bUshr ((1103515245 * v2) + 12345) 16) (v3 + 1))) fun s1 =>
  k32 ((1103515245 * v2) + 12345) (v3 + (-1)) s1))
noncomputable def fX9_shuffle_L32 : Nat → Int → Int → St → Option St
  | 0, _, _, _ => none
  | n + 1, v2, v3, σ => fX9_shuffle_B32 (fX9_shuffle_L32 n) v2 v3 σ
noncomputable def fX9_shuffle_B2 (k2 : Int → Int → St → Option St) (v1 : Int) (v2 : Int) (σ : St) : Option St :=
  if w32 (σ.1 9) ≤ w32 v2 then (
  fX9_shuffle_L32 1000 v1 ((σ.1 9) - 1) σ)
  else (
  gI v2 16 (
  k2 v1 (v2 + 1) (sA σ 16 (ix v2) v2)))
noncomputable def fX9_shuffle_L2 : Nat → Int → Int → St → Option St
  | 0, _, _, _ => none
  | n + 1, v1, v2, σ => fX9_shuffle_B2 (fX9_shuffle_L2 n) v1 v2 σ
noncomputable def fX9_shuffle_L0 (v1 : Int) (σ : St) : Option St :=
  fX9_shuffle_L2 1000 v1 0 σ
noncomputable def fX9_shuffle (σ : St) (v1 : Int) : Option St := fX9_shuffle_L0 v1 σ
/-! TermLodgings.room(III)I -/
noncomputable def fX10_room_L0 (v1 : Int) (v2 : Int) (v3 : Int) (σ : St) : Option (Int × St) :=
  bd (fX10_within σ v1 0 7) fun a1 s1 =>
  if w32 a1 = 0 then (
  some ((-2), s1))
  else (
  bd (fX10_within s1 v2 0 20) fun a2 s2 =>
  if w32 a2 = 0 then (
  some ((-2), s2))
  else (
  bd (fX10_within s2 v3 0 3) fun a3 s3 =>
  if w32 a3 = 0 then (
  some ((-2), s3))
  else (
  if 24 ≤ w32 (s3.1 0) then (
  some ((-4), s3))
  else (
  bd (fX5_add s3 v1 v2 v3) fun a4 s4 =>
  some (a4, s4)))))
noncomputable def fX10_room (σ : St) (v1 : Int) (v2 : Int) (v3 : Int) : Option (Int × St) := fX10_room_L0 v1 v2 v3 σ
/-! TermLodgings.person(II)I -/
noncomputable def fX10_person_L30 (v1 : Int) (v2 : Int) (σ : St) : Option (Int × St) :=
  if w32 (σ.1 3) < 16 then (
  bd (fX3_add σ v1 v2) fun a1 s1 =>
  bv (fX9_addLast s1 a1) fun s2 =>
  some (a1, s2))
  else (
  some ((-4), σ))
noncomputable def fX10_person_L0 (v1 : Int) (v2 : Int) (σ : St) : Option (Int × St) :=
  bd (fX10_within σ v1 1 4) fun a3 s3 =>
  if w32 a3 = 0 then (
  some ((-2), s3))
  else (
  if w32 v2 = (-1) then (
  fX10_person_L30 v1 v2 s3)
  else (
  bd (fX10_within s3 v2 0 7) fun a4 s4 =>
  if w32 a4 = 0 then (
  some ((-2), s4))
  else (
  fX10_person_L30 v1 v2 s4)))
noncomputable def fX10_person (σ : St) (v1 : Int) (v2 : Int) : Option (Int × St) := fX10_person_L0 v1 v2 σ
/-! TermLodgings.wish(II)I -/
noncomputable def fX10_wish_L0 (v1 : Int) (v2 : Int) (σ : St) : Option (Int × St) :=
  bd (fX3_has σ v1) fun a1 s1 =>
  if w32 a1 = 0 then (
  some ((-2), s1))
  else (
  bd (fX5_has s1 v2) fun a2 s2 =>
  if w32 a2 = 0 then (
  some ((-2), s2))
  else (
  bd (fX3_wishesFor s2 v1 v2) fun a3 s3 =>
  if w32 a3 = 0 then (
  gI v1 16 (
  if 8 ≤ w32 (s3.2 7 (ix v1)) then (
  some ((-4), s3))
  else (
  bd (fX3_addWish s3 v1 v2) fun a4 s4 =>
  some (a4, s4))))
  else (
  some ((-2), s3))))
noncomputable def fX10_wish (σ : St) (v1 : Int) (v2 : Int) : Option (Int × St) := fX10_wish_L0 v1 v2 σ
/-! TermLodgings.content(I)I -/
noncomputable def fX10_content_L0 (v1 : Int) (σ : St) : Option (Int × St) :=
  bd (fX3_has σ v1) fun a1 s1 =>
  if w32 a1 = 0 then (
  some ((-2), s1))
  else (
  gI v1 16 (
  gI v1 16 (
  some ((s1.2 7 (ix v1)), (sA s1 7 (ix v1) 0)))))
noncomputable def fX10_content (σ : St) (v1 : Int) : Option (Int × St) := fX10_content_L0 v1 σ
/-! TermLodgings.wishTold(II)I -/
noncomputable def fX10_wishTold_L0 (v1 : Int) (v2 : Int) (σ : St) : Option (Int × St) :=
  bd (fX10_within σ v2 10 17) fun a1 s1 =>
  if w32 a1 = 0 then (
  some ((-2), s1))
  else (
  bd (fX3_wishAt s1 v1 (v2 - 10)) fun a2 s2 =>
  if w32 a2 = (-1) then (
  some ((-2), s2))
  else (
  some (a2, s2)))
noncomputable def fX10_wishTold (σ : St) (v1 : Int) (v2 : Int) : Option (Int × St) := fX10_wishTold_L0 v1 v2 σ
/-! TermLodgings.about(II)I -/
noncomputable def fX10_about_L0 (v1 : Int) (v2 : Int) (σ : St) : Option (Int × St) :=
  bd (fX3_has σ v1) fun a1 s1 =>
  if w32 a1 = 0 then (
  some ((-2), s1))
  else (
  if w32 v2 = 0 then (
  gI v1 16 (
  some ((s1.2 5 (ix v1)), s1)))
  else (if w32 v2 = 1 then (
  gI v1 16 (
  some ((s1.2 6 (ix v1)), s1)))
  else (if w32 v2 = 2 then (
  gI v1 16 (
  some ((s1.2 7 (ix v1)), s1)))
  else (if w32 v2 = 3 then (
  gI v1 16 (
  some ((s1.2 9 (ix v1)), s1)))
  else (if w32 v2 = 4 then (
  gI v1 16 (
  if w32 (s1.2 11 (ix v1)) = 0 then (
  some (0, s1))
  else (
  some (1, s1))))
  else (if w32 v2 = 5 then (
  gI v1 16 (
  some ((s1.2 10 (ix v1)), s1)))
  else (bd (fX10_wishTold s1 v1 v2) fun a2 s2 =>
  some (a2, s2))))))))
noncomputable def fX10_about (σ : St) (v1 : Int) (v2 : Int) : Option (Int × St) := fX10_about_L0 v1 v2 σ
/-! TermLodgings.of(II)I -/
noncomputable def fX10_of_L0 (v1 : Int) (v2 : Int) (σ : St) : Option (Int × St) :=
  bd (fX5_has σ v1) fun a1 s1 =>
  if w32 a1 = 0 then (
  some ((-2), s1))
  else (
  if w32 v2 = 0 then (
  gI v1 24 (
  some ((s1.2 1 (ix v1)), s1)))
  else (if w32 v2 = 1 then (
  gI v1 24 (
  some ((s1.2 2 (ix v1)), s1)))
  else (if w32 v2 = 2 then (
  gI v1 24 (
  some ((s1.2 3 (ix v1)), s1)))
  else (if w32 v2 = 3 then (
  gI v1 24 (
  some ((s1.2 4 (ix v1)), s1)))
  else (some ((-2), s1))))))
noncomputable def fX10_of (σ : St) (v1 : Int) (v2 : Int) : Option (Int × St) := fX10_of_L0 v1 v2 σ
/-! TermLodgings.canBeGiven(II)Z -/
noncomputable def fX10_canBeGiven_L0 (v1 : Int) (v2 : Int) (σ : St) : Option (Int × St) :=
  bd (fX5_holderOf σ v2) fun a1 s1 =>
  if w32 a1 = (-1) then (
  bd (fX7_suits s1 v1 v2) fun a2 s2 =>
  if w32 a2 = 0 then (
  some (0, s2))
  else (
  some (1, s2)))
  else (
  if w32 a1 = w32 v1 then (
  bd (fX7_suits s1 v1 v2) fun a3 s3 =>
  if w32 a3 = 0 then (
  some (0, s3))
  else (
  some (1, s3)))
  else (
  some (0, s1)))
noncomputable def fX10_canBeGiven (σ : St) (v1 : Int) (v2 : Int) : Option (Int × St) := fX10_canBeGiven_L0 v1 v2 σ
/-! TermLodgings.give(II)I -/
noncomputable def fX10_give_L50 (v1 : Int) (v2 : Int) (σ : St) : Option (Int × St) :=
  gI v1 16 (
  bv (fX7_leave σ v1) fun s1 =>
  bv (fX7_settle s1 v1 v2) fun s2 =>
  some ((σ.2 9 (ix v1)), s2))
noncomputable def fX10_give_L0 (v1 : Int) (v2 : Int) (σ : St) : Option (Int × St) :=
  bd (fX3_has σ v1) fun a3 s3 =>
  if w32 a3 = 0 then (
  some ((-2), s3))
  else (
  if w32 v2 = (-1) then (
  if w32 v2 = (-1) then (
  fX10_give_L50 v1 v2 s3)
  else (
  bd (fX10_canBeGiven s3 v1 v2) fun a4 s4 =>
  if w32 a4 = 0 then (
  some ((-3), s4))
  else (
  fX10_give_L50 v1 v2 s4)))
  else (
  bd (fX5_has s3 v2) fun a5 s5 =>
  if w32 a5 = 0 then (
  some ((-2), s5))
  else (
  if w32 v2 = (-1) then (
  fX10_give_L50 v1 v2 s5)
  else (
  bd (fX10_canBeGiven s5 v1 v2) fun a6 s6 =>
  if w32 a6 = 0 then (
  some ((-3), s6))
  else (
  fX10_give_L50 v1 v2 s6)))))
noncomputable def fX10_give (σ : St) (v1 : Int) (v2 : Int) : Option (Int × St) := fX10_give_L0 v1 v2 σ
/-! TermLodgings.type(I)I -/
noncomputable def fX10_type_L0 (v1 : Int) (σ : St) : Option (Int × St) :=
  bd (fX10_within σ v1 32 126) fun a1 s1 =>
  if w32 a1 = 0 then (
  some ((-2), s1))
  else (
  if 60 ≤ w32 (s1.1 4) then (
  some ((-4), s1))
  else (
  bd (fX6_add s1 v1) fun a2 s2 =>
  some (a2, s2)))
noncomputable def fX10_type (σ : St) (v1 : Int) : Option (Int × St) := fX10_type_L0 v1 σ
/-! TermLodgings.repeal()I -/
noncomputable def fX10_repeal_L0 (σ : St) : Option (Int × St) :=
  bv (fX6_clear σ) fun s1 =>
  some ((σ.1 4), s1)
noncomputable def fX10_repeal (σ : St) : Option (Int × St) := fX10_repeal_L0 σ
/-! TermLodgings.fault()I -/
noncomputable def fX10_fault_L0 (σ : St) : Option (Int × St) :=
  bd (fX6_faultPlace σ) fun a1 s1 =>
  some (a1, s1)
noncomputable def fX10_fault (σ : St) : Option (Int × St) := fX10_fault_L0 σ
/-! TermLodgings.may(II)I -/
noncomputable def fX10_may_L0 (v1 : Int) (v2 : Int) (σ : St) : Option (Int × St) :=
  bd (fX3_has σ v1) fun a1 s1 =>
  if w32 a1 = 0 then (
  some ((-2), s1))
  else (
  bd (fX5_has s1 v2) fun a2 s2 =>
  if w32 a2 = 0 then (
  some ((-2), s2))
  else (
  bd (fX7_suits s2 v1 v2) fun a3 s3 =>
  if w32 a3 = 0 then (
  some (0, s3))
  else (
  some (1, s3))))
noncomputable def fX10_may (σ : St) (v1 : Int) (v2 : Int) : Option (Int × St) := fX10_may_L0 v1 v2 σ
/-! TermLodgings.wrong()I -/
noncomputable def fX10_wrong_B4 (k4 : Int → Int → St → Option (Int × St)) (v1 : Int) (v2 : Int) (σ : St) : Option (Int × St) :=
  if w32 (σ.1 3) ≤ w32 v2 then (
  some (v1, σ))
  else (
  bd (fX3_lodgingOf σ v2) fun a1 s1 =>
  if w32 a1 = (-1) then (
  k4 v1 (v2 + 1) s1)
  else (
  bd (fX7_suits s1 v2 a1) fun a2 s2 =>
  if w32 a2 = 0 then (
  k4 (bOr v1 (bShl 1 v2)) (v2 + 1) s2)
  else (
  k4 v1 (v2 + 1) s2)))
noncomputable def fX10_wrong_L4 : Nat → Int → Int → St → Option (Int × St)
  | 0, _, _, _ => none
  | n + 1, v1, v2, σ => fX10_wrong_B4 (fX10_wrong_L4 n) v1 v2 σ
noncomputable def fX10_wrong_L0 (σ : St) : Option (Int × St) :=
  fX10_wrong_L4 1000 0 0 σ
noncomputable def fX10_wrong (σ : St) : Option (Int × St) := fX10_wrong_L0 σ
/-! TermLodgings.draw(I)I -/
noncomputable def fX10_draw_L0 (v1 : Int) (σ : St) : Option (Int × St) :=
  bv (fX9_shuffle σ v1) fun s1 =>
  bd (fX9_at s1 0) fun a2 s2 =>
  some (a2, s2)
noncomputable def fX10_draw (σ : St) (v1 : Int) : Option (Int × St) := fX10_draw_L0 v1 σ
/-! TermLodgings.change(II)I -/
noncomputable def fX10_change_L0 (v1 : Int) (v2 : Int) (σ : St) : Option (Int × St) :=
  bd (fX9_has σ v1) fun a1 s1 =>
  if w32 a1 = 0 then (
  some ((-2), s1))
  else (
  bd (fX9_has s1 v2) fun a2 s2 =>
  if w32 a2 = 0 then (
  some ((-2), s2))
  else (
  bv (fX9_swap s2 v1 v2) fun s3 =>
  some (1, s3)))
noncomputable def fX10_change (σ : St) (v1 : Int) (v2 : Int) : Option (Int × St) := fX10_change_L0 v1 v2 σ
/-! TermLodgings.turn(I)I -/
noncomputable def fX10_turn_L0 (v1 : Int) (σ : St) : Option (Int × St) :=
  bd (fX9_has σ v1) fun a1 s1 =>
  if w32 a1 = 0 then (
  some ((-2), s1))
  else (
  bd (fX9_at s1 v1) fun a2 s2 =>
  some (a2, s2))
noncomputable def fX10_turn (σ : St) (v1 : Int) : Option (Int × St) := fX10_turn_L0 v1 σ
/-! TermLodgings.deal()I -/
noncomputable def fX10_deal_L0 (σ : St) : Option (Int × St) :=
  bv (fX0_run σ) fun s1 =>
  bd (fX3_housed s1) fun a2 s2 =>
  some (a2, s2)
noncomputable def fX10_deal (σ : St) : Option (Int × St) := fX10_deal_L0 σ
/-! TermLodgings.trade()I -/
noncomputable def fX10_trade_L0 (σ : St) : Option (Int × St) :=
  bd (fX8_run σ) fun a1 s1 =>
  some (a1, s1)
noncomputable def fX10_trade (σ : St) : Option (Int × St) := fX10_trade_L0 σ
/-! TermLodgings.traded(I)I -/
noncomputable def fX10_traded_L0 (v1 : Int) (σ : St) : Option (Int × St) :=
  if w32 v1 = 0 then (
  some ((σ.1 10), σ))
  else (if w32 v1 = 1 then (
  some ((σ.1 11), σ))
  else (if w32 v1 = 2 then (
  some ((σ.1 12), σ))
  else (some ((-2), σ))))
noncomputable def fX10_traded (σ : St) (v1 : Int) : Option (Int × St) := fX10_traded_L0 v1 σ
/-! TermLodgings.strike(I)I -/
noncomputable def fX10_strike_L0 (v1 : Int) (σ : St) : Option (Int × St) :=
  bd (fX10_within σ v1 0 7) fun a1 s1 =>
  if w32 a1 = 0 then (
  some ((-2), s1))
  else (
  bd (fX5_isStruck s1 v1) fun a2 s2 =>
  if w32 a2 = 0 then (
  bd (fX1_run s2 v1) fun a3 s3 =>
  some (a3, s3))
  else (
  some ((-3), s2)))
noncomputable def fX10_strike (σ : St) (v1 : Int) : Option (Int × St) := fX10_strike_L0 v1 σ
/-! TermLodgings.license(I)I -/
noncomputable def fX10_license_L0 (v1 : Int) (σ : St) : Option (Int × St) :=
  bd (fX10_within σ v1 0 7) fun a1 s1 =>
  if w32 a1 = 0 then (
  some ((-2), s1))
  else (
  bd (fX5_isStruck s1 v1) fun a2 s2 =>
  if w32 a2 = 0 then (
  some ((-3), s2))
  else (
  some (1, (sF s2 1 (bAnd (s2.1 1) (bXor (bShl 1 v1) (-1)))))))
noncomputable def fX10_license (σ : St) (v1 : Int) : Option (Int × St) := fX10_license_L0 v1 σ
/-! TermLodgings.away(IZ)I -/
noncomputable def fX10_away_L0 (v1 : Int) (v2 : Int) (σ : St) : Option (Int × St) :=
  bd (fX3_has σ v1) fun a1 s1 =>
  if w32 a1 = 0 then (
  some ((-2), s1))
  else (
  gI v1 16 (
  gB v2 (
  some (1, (sA s1 11 (ix v1) v2)))))
noncomputable def fX10_away (σ : St) (v1 : Int) (v2 : Int) : Option (Int × St) := fX10_away_L0 v1 v2 σ
/-! TermLodgings.pass(I)I -/
noncomputable def fX10_pass_B32 (k32 : Int → Int → St → Option (Int × St)) (v1 : Int) (v2 : Int) (σ : St) : Option (Int × St) :=
  if w32 v1 ≤ w32 v2 then (
  some ((σ.1 15), σ))
  else (
  bv (fX2_keepOne σ) fun s1 =>
  k32 v1 (v2 + 1) s1)
noncomputable def fX10_pass_L32 : Nat → Int → Int → St → Option (Int × St)
  | 0, _, _, _ => none
  | n + 1, v1, v2, σ => fX10_pass_B32 (fX10_pass_L32 n) v1 v2 σ
noncomputable def fX10_pass_L0 (v1 : Int) (σ : St) : Option (Int × St) :=
  bd (fX10_within σ v1 1 60) fun a2 s2 =>
  if w32 a2 = 0 then (
  some ((-2), s2))
  else (
  if w32 v1 ≤ w32 (60 - (s2.1 15)) then (
  fX10_pass_L32 1000 v1 0 s2)
  else (
  some ((-4), s2)))
noncomputable def fX10_pass (σ : St) (v1 : Int) : Option (Int × St) := fX10_pass_L0 v1 σ
/-! TermLodgings.price(III)I -/
noncomputable def fX10_price_L0 (v1 : Int) (v2 : Int) (v3 : Int) (σ : St) : Option (Int × St) :=
  bd (fX10_within σ v1 0 7) fun a1 s1 =>
  if w32 a1 = 0 then (
  some ((-2), s1))
  else (
  bd (fX10_within s1 v2 0 59) fun a2 s2 =>
  if w32 a2 = 0 then (
  some ((-2), s2))
  else (
  bd (fX10_within s2 v3 0 999) fun a3 s3 =>
  if w32 a3 = 0 then (
  some ((-2), s3))
  else (
  if 40 ≤ w32 (s3.1 16) then (
  some ((-4), s3))
  else (
  bd (fX4_tell s3 v1 v2 v3) fun a4 s4 =>
  some (a4, s4)))))
noncomputable def fX10_price (σ : St) (v1 : Int) (v2 : Int) (v3 : Int) : Option (Int × St) := fX10_price_L0 v1 v2 v3 σ
/-! TermLodgings.priced(II)I -/
noncomputable def fX10_priced_L0 (v1 : Int) (v2 : Int) (σ : St) : Option (Int × St) :=
  bd (fX10_within σ v1 0 7) fun a1 s1 =>
  if w32 a1 = 0 then (
  some ((-2), s1))
  else (
  bd (fX10_within s1 v2 0 59) fun a2 s2 =>
  if w32 a2 = 0 then (
  some ((-2), s2))
  else (
  bd (fX4_at s2 v1 v2) fun a3 s3 =>
  some (a3, s3)))
noncomputable def fX10_priced (σ : St) (v1 : Int) (v2 : Int) : Option (Int × St) := fX10_priced_L0 v1 v2 σ
/-! TermLodgings.had(II)I -/
noncomputable def fX10_had_L0 (v1 : Int) (v2 : Int) (σ : St) : Option (Int × St) :=
  bd (fX3_has σ v1) fun a1 s1 =>
  if w32 a1 = 0 then (
  some ((-2), s1))
  else (
  bd (fX10_within s1 v2 0 ((s1.1 15) - 1)) fun a2 s2 =>
  if w32 a2 = 0 then (
  some ((-2), s2))
  else (
  bd (fX2_lodgingIn s2 v1 v2) fun a3 s3 =>
  some (a3, s3)))
noncomputable def fX10_had (σ : St) (v1 : Int) (v2 : Int) : Option (Int × St) := fX10_had_L0 v1 v2 σ
/-! TermLodgings.bill(I)I -/
noncomputable def fX10_bill_B18 (k18 : Int → Int → Int → St → Option (Int × St)) (v1 : Int) (v2 : Int) (v3 : Int) (σ : St) : Option (Int × St) :=
  if w32 (σ.1 15) ≤ w32 v3 then (
  some (v2, σ))
  else (
  bd (fX2_lodgingIn σ v1 v3) fun a1 s1 =>
  bd (fX5_houseOf s1 a1) fun a2 s2 =>
  bd (fX4_at s2 a2 v3) fun a3 s3 =>
  k18 v1 (v2 + a3) (v3 + 1) s3)
noncomputable def fX10_bill_L18 : Nat → Int → Int → Int → St → Option (Int × St)
  | 0, _, _, _, _ => none
  | n + 1, v1, v2, v3, σ => fX10_bill_B18 (fX10_bill_L18 n) v1 v2 v3 σ
noncomputable def fX10_bill_L0 (v1 : Int) (σ : St) : Option (Int × St) :=
  bd (fX3_has σ v1) fun a4 s4 =>
  if w32 a4 = 0 then (
  some ((-2), s4))
  else (
  fX10_bill_L18 1000 v1 0 0 s4)
noncomputable def fX10_bill (σ : St) (v1 : Int) : Option (Int × St) := fX10_bill_L0 v1 σ
/-! TermLodgings.lodgersAt(II)I -/
noncomputable def fX10_lodgersAt_B5 (k5 : Int → Int → Int → Int → St → Option (Int × St)) (v1 : Int) (v2 : Int) (v3 : Int) (v4 : Int) (σ : St) : Option (Int × St) :=
  if w32 (σ.1 3) ≤ w32 v4 then (
  some (v3, σ))
  else (
  bd (fX2_lodgingIn σ v4 v2) fun a1 s1 =>
  bd (fX5_houseOf s1 a1) fun a2 s2 =>
  if w32 a2 = w32 v1 then (
  k5 v1 v2 (v3 + 1) (v4 + 1) s2)
  else (
  k5 v1 v2 v3 (v4 + 1) s2))
noncomputable def fX10_lodgersAt_L5 : Nat → Int → Int → Int → Int → St → Option (Int × St)
  | 0, _, _, _, _, _ => none
  | n + 1, v1, v2, v3, v4, σ => fX10_lodgersAt_B5 (fX10_lodgersAt_L5 n) v1 v2 v3 v4 σ
noncomputable def fX10_lodgersAt_L0 (v1 : Int) (v2 : Int) (σ : St) : Option (Int × St) :=
  fX10_lodgersAt_L5 1000 v1 v2 0 0 σ
noncomputable def fX10_lodgersAt (σ : St) (v1 : Int) (v2 : Int) : Option (Int × St) := fX10_lodgersAt_L0 v1 v2 σ
/-! TermLodgings.matter()I -/
noncomputable def fX10_matter_B17 (k17 : Int → Int → St → Option (Int × St)) (v1 : Int) (v2 : Int) (σ : St) : Option (Int × St) :=
  if w32 (σ.1 15) ≤ w32 v2 then (
  some (v1, σ))
  else (
  bd (fX10_lodgersAt σ (σ.1 17) v2) fun a1 s1 =>
  bd (fX4_dropWithoutLatest s1 v2) fun a2 s2 =>
  k17 (v1 + (a1 * a2)) (v2 + 1) s2)
noncomputable def fX10_matter_L17 : Nat → Int → Int → St → Option (Int × St)
  | 0, _, _, _ => none
  | n + 1, v1, v2, σ => fX10_matter_B17 (fX10_matter_L17 n) v1 v2 σ
noncomputable def fX10_matter_L0 (σ : St) : Option (Int × St) :=
  if w32 (σ.1 16) = 0 then (
  some ((-2147483648), σ))
  else (
  fX10_matter_L17 1000 0 0 σ)
noncomputable def fX10_matter (σ : St) : Option (Int × St) := fX10_matter_L0 σ
/-! TermLodgings.count(I)I -/
noncomputable def fX10_count_L0 (v1 : Int) (σ : St) : Option (Int × St) :=
  if w32 v1 = 0 then (
  some ((σ.1 0), σ))
  else (if w32 v1 = 1 then (
  some ((σ.1 3), σ))
  else (if w32 v1 = 2 then (
  some ((σ.1 4), σ))
  else (if w32 v1 = 3 then (
  bd (fJ6_bitCount_0f7a4 σ (σ.1 1)) fun a1 s1 =>
  some (a1, s1))
  else (if w32 v1 = 4 then (
  some ((σ.1 15), σ))
  else (if w32 v1 = 5 then (
  some ((σ.1 16), σ))
  else (if w32 v1 = 6 then (
  bd (fX3_housed σ) fun a2 s2 =>
  some (a2, s2))
  else (some ((-2), σ))))))))
noncomputable def fX10_count (σ : St) (v1 : Int) : Option (Int × St) := fX10_count_L0 v1 σ
/-! TermLodgings.digest()J -/
noncomputable def fX10_digest_B130 (k130 : Int → Int → St → Option (Int × St)) (v1 : Int) (v3 : Int) (σ : St) : Option (Int × St) :=
  if 2 < w32 v3 then (
  some (v1, σ))
  else (
  bd (fX10_traded σ v3) fun a1 s1 =>
  k130 ((31 * v1) + (w32 a1)) (v3 + 1) s1)
noncomputable def fX10_digest_L130 : Nat → Int → Int → St → Option (Int × St)
  | 0, _, _, _ => none
  | n + 1, v1, v3, σ => fX10_digest_B130 (fX10_digest_L130 n) v1 v3 σ
noncomputable def fX10_digest_B95 (k95 : Int → Int → St → Option (Int × St)) (v1 : Int) (v3 : Int) (σ : St) : Option (Int × St) :=
  if w32 (σ.1 9) ≤ w32 v3 then (
  fX10_digest_L130 1000 v1 0 σ)
  else (
  bd (fX9_at σ v3) fun a2 s2 =>
  k95 ((31 * v1) + (w32 a2)) (v3 + 1) s2)
noncomputable def fX10_digest_L95 : Nat → Int → Int → St → Option (Int × St)
  | 0, _, _, _ => none
  | n + 1, v1, v3, σ => fX10_digest_B95 (fX10_digest_L95 n) v1 v3 σ
noncomputable def fX10_digest_B47 (k33 : Int → Int → St → Option (Int × St)) (k47 : Int → Int → Int → St → Option (Int × St)) (v1 : Int) (v3 : Int) (v4 : Int) (σ : St) : Option (Int × St) :=
  if 5 < w32 v4 then (
  bd (fX10_bill σ v3) fun a3 s3 =>
  k33 ((31 * v1) + (w32 a3)) (v3 + 1) s3)
  else (
  bd (fX10_about σ v3 v4) fun a4 s4 =>
  k47 ((31 * v1) + (w32 a4)) v3 (v4 + 1) s4)
noncomputable def fX10_digest_L47 (k33 : Int → Int → St → Option (Int × St)) : Nat → Int → Int → Int → St → Option (Int × St)
  | 0, _, _, _, _ => none
  | n + 1, v1, v3, v4, σ => fX10_digest_B47 k33 (fX10_digest_L47 k33 n) v1 v3 v4 σ
noncomputable def fX10_digest_B33 (k33 : Int → Int → St → Option (Int × St)) (v1 : Int) (v3 : Int) (σ : St) : Option (Int × St) :=
  if w32 (σ.1 3) ≤ w32 v3 then (
  fX10_digest_L95 1000 v1 0 σ)
  else (
  fX10_digest_L47 k33 1000 v1 v3 1 σ)
noncomputable def fX10_digest_L33 : Nat → Int → Int → St → Option (Int × St)
  | 0, _, _, _ => none
  | n + 1, v1, v3, σ => fX10_digest_B33 (fX10_digest_L33 n) v1 v3 σ
noncomputable def fX10_digest_B6 (k6 : Int → Int → St → Option (Int × St)) (v1 : Int) (v3 : Int) (σ : St) : Option (Int × St) :=
  if 6 < w32 v3 then (
  fX10_digest_L33 1000 v1 0 σ)
  else (
  bd (fX10_count σ v3) fun a5 s5 =>
  k6 ((31 * v1) + (w32 a5)) (v3 + 1) s5)
noncomputable def fX10_digest_L6 : Nat → Int → Int → St → Option (Int × St)
  | 0, _, _, _ => none
  | n + 1, v1, v3, σ => fX10_digest_B6 (fX10_digest_L6 n) v1 v3 σ
noncomputable def fX10_digest_L0 (σ : St) : Option (Int × St) :=
  fX10_digest_L6 1000 17 0 σ
noncomputable def fX10_digest (σ : St) : Option (Int × St) := fX10_digest_L0 σ
/-! TermLodgingsModel.in(JJJ)Z -/
noncomputable def fX11_in_L0 (v0 : Int) (v2 : Int) (v4 : Int) (σ : St) : Option (Int × St) :=
  if w32 (cmpL v0 v2) < 0 then (
  some (0, σ))
  else (
  if 0 < w32 (cmpL v0 v4) then (
  some (0, σ))
  else (
  some (1, σ)))
noncomputable def fX11_in (σ : St) (v0 : Int) (v2 : Int) (v4 : Int) : Option (Int × St) := fX11_in_L0 v0 v2 v4 σ
/-! TermLodgingsModel.isRoom(I)Z -/
noncomputable def fX11_isRoom_L0 (v1 : Int) (σ : St) : Option (Int × St) :=
  bd (fX11_in σ (w32 v1) 0 (w32 ((σ.1 0) - 1))) fun a1 s1 =>
  gB a1 (some (a1, s1))
noncomputable def fX11_isRoom (σ : St) (v1 : Int) : Option (Int × St) := fX11_isRoom_L0 v1 σ
/-! TermLodgingsModel.isOne(I)Z -/
noncomputable def fX11_isOne_L0 (v1 : Int) (σ : St) : Option (Int × St) :=
  bd (fX11_in σ (w32 v1) 0 (w32 ((σ.1 2) - 1))) fun a1 s1 =>
  gB a1 (some (a1, s1))
noncomputable def fX11_isOne (σ : St) (v1 : Int) : Option (Int × St) := fX11_isOne_L0 v1 σ
/-! TermLodgingsModel.room(III)I -/
noncomputable def fX11_room_L0 (v1 : Int) (v2 : Int) (v3 : Int) (σ : St) : Option (Int × St) :=
  bd (fX11_in σ (w32 v1) 0 7) fun a1 s1 =>
  if w32 a1 = 0 then (
  some ((-2), s1))
  else (
  bd (fX11_in s1 (w32 v2) 0 20) fun a2 s2 =>
  if w32 a2 = 0 then (
  some ((-2), s2))
  else (
  bd (fX11_in s2 (w32 v3) 0 3) fun a3 s3 =>
  if w32 a3 = 0 then (
  some ((-2), s3))
  else (
  if w32 (s3.1 0) = 24 then (
  some ((-4), s3))
  else (
  gI (s3.1 0) 24 (
  gI ((sA s3 0 (ix (s3.1 0)) v1).1 0) 24 (
  gI ((sA (sA s3 0 (ix (s3.1 0)) v1) 1 (ix ((sA s3 0 (ix (s3.1 0)) v1).1 0)) v2).1 0) 24 (
  some ((((sF (sA (sA (sA s3 0 (ix (s3.1 0)) v1) 1 (ix ((sA s3 0 (ix (s3.1 0)) v1).1 0)) v2) 2 (ix ((sA (sA s3 0 (ix (s3.1 0)) v1) 1 (ix ((sA s3 0 (ix (s3.1 0)) v1).1 0)) v2).1 0)) v3) 0 (((sA (sA (sA s3 0 (ix (s3.1 0)) v1) 1 (ix ((sA s3 0 (ix (s3.1 0)) v1).1 0)) v2) 2 (ix ((sA (sA s3 0 (ix (s3.1 0)) v1) 1 (ix ((sA s3 0 (ix (s3.1 0)) v1).1 0)) v2).1 0)) v3).1 0) + 1)).1 0) - 1), (sF (sA (sA (sA s3 0 (ix (s3.1 0)) v1) 1 (ix ((sA s3 0 (ix (s3.1 0)) v1).1 0)) v2) 2 (ix ((sA (sA s3 0 (ix (s3.1 0)) v1) 1 (ix ((sA s3 0 (ix (s3.1 0)) v1).1 0)) v2).1 0)) v3) 0 (((sA (sA (sA s3 0 (ix (s3.1 0)) v1) 1 (ix ((sA s3 0 (ix (s3.1 0)) v1).1 0)) v2) 2 (ix ((sA (sA s3 0 (ix (s3.1 0)) v1) 1 (ix ((sA s3 0 (ix (s3.1 0)) v1).1 0)) v2).1 0)) v3).1 0) + 1))))))))))
noncomputable def fX11_room (σ : St) (v1 : Int) (v2 : Int) (v3 : Int) : Option (Int × St) := fX11_room_L0 v1 v2 v3 σ
/-! TermLodgingsModel.person(II)I -/
noncomputable def fX11_person_B98 (k98 : Int → Int → St → Option (Int × St)) (v3 : Int) (v4 : Int) (σ : St) : Option (Int × St) :=
  if 60 ≤ w32 v4 then (
  some (v3, (sF σ 2 ((σ.1 2) + 1))))
  else (
  gI ((60 * v3) + v4) 960 (
  k98 v3 (v4 + 1) (sA σ 21 (ix ((60 * v3) + v4)) (-1))))
noncomputable def fX11_person_L98 : Nat → Int → Int → St → Option (Int × St)
  | 0, _, _, _ => none
  | n + 1, v3, v4, σ => fX11_person_B98 (fX11_person_L98 n) v3 v4 σ
noncomputable def fX11_person_L0 (v1 : Int) (v2 : Int) (σ : St) : Option (Int × St) :=
  bd (fX11_in σ (w32 v1) 1 4) fun a1 s1 =>
  if w32 a1 = 0 then (
  some ((-2), s1))
  else (
  bd (fX11_in s1 (w32 v2) (-1) 7) fun a2 s2 =>
  if w32 a2 = 0 then (
  some ((-2), s2))
  else (
  if w32 (s2.1 2) = 16 then (
  some ((-4), s2))
  else (
  gI (s2.1 2) 16 (
  gI (s2.1 2) 16 (
  gI (s2.1 2) 16 (
  gI (s2.1 2) 16 (
  gI (s2.1 2) 16 (
  gI (s2.1 2) 16 (
  gI (s2.1 2) 16 (
  fX11_person_L98 1000 (s2.1 2) 0 (sA (sA (sA (sA (sA (sA (sA s2 3 (ix (s2.1 2)) v1) 4 (ix (s2.1 2)) v2) 5 (ix (s2.1 2)) 0) 7 (ix (s2.1 2)) (-1)) 8 (ix (s2.1 2)) 0) 9 (ix (s2.1 2)) 0) 10 (ix (s2.1 2)) (s2.1 2))))))))))))
noncomputable def fX11_person (σ : St) (v1 : Int) (v2 : Int) : Option (Int × St) := fX11_person_L0 v1 v2 σ
/-! TermLodgingsModel.rankOf(II)I -/
noncomputable def fX11_rankOf_B2 (k2 : Int → Int → Int → St → Option (Int × St)) (v1 : Int) (v2 : Int) (v3 : Int) (σ : St) : Option (Int × St) :=
  gI v1 16 (
  if w32 (σ.2 5 (ix v1)) ≤ w32 v3 then (
  some (8, σ))
  else (
  gI ((8 * v1) + v3) 128 (
  if w32 (σ.2 6 (ix ((8 * v1) + v3))) = w32 v2 then (
  some (v3, σ))
  else (
  k2 v1 v2 (v3 + 1) σ))))
noncomputable def fX11_rankOf_L2 : Nat → Int → Int → Int → St → Option (Int × St)
  | 0, _, _, _, _ => none
  | n + 1, v1, v2, v3, σ => fX11_rankOf_B2 (fX11_rankOf_L2 n) v1 v2 v3 σ
noncomputable def fX11_rankOf_L0 (v1 : Int) (v2 : Int) (σ : St) : Option (Int × St) :=
  fX11_rankOf_L2 1000 v1 v2 0 σ
noncomputable def fX11_rankOf (σ : St) (v1 : Int) (v2 : Int) : Option (Int × St) := fX11_rankOf_L0 v1 v2 σ
/-! TermLodgingsModel.wish(II)I -/
noncomputable def fX11_wish_L0 (v1 : Int) (v2 : Int) (σ : St) : Option (Int × St) :=
  bd (fX11_isOne σ v1) fun a1 s1 =>
  if w32 a1 = 0 then (
  some ((-2), s1))
  else (
  bd (fX11_isRoom s1 v2) fun a2 s2 =>
  if w32 a2 = 0 then (
  some ((-2), s2))
  else (
  bd (fX11_rankOf s2 v1 v2) fun a3 s3 =>
  if 8 ≤ w32 a3 then (
  gI v1 16 (
  if w32 (s3.2 5 (ix v1)) = 8 then (
  some ((-4), s3))
  else (
  gI v1 16 (
  gI ((8 * v1) + (s3.2 5 (ix v1))) 128 (
  gI v1 16 (
  gI v1 16 (
  gI v1 16 (
  some (((sA (sA s3 6 (ix ((8 * v1) + (s3.2 5 (ix v1)))) v2) 5 (ix v1) (((sA s3 6 (ix ((8 * v1) + (s3.2 5 (ix v1)))) v2).2 5 (ix v1)) + 1)).2 5 (ix v1)), (sA (sA s3 6 (ix ((8 * v1) + (s3.2 5 (ix v1)))) v2) 5 (ix v1) (((sA s3 6 (ix ((8 * v1) + (s3.2 5 (ix v1)))) v2).2 5 (ix v1)) + 1)))))))))))
  else (
  some ((-2), s3))))
noncomputable def fX11_wish (σ : St) (v1 : Int) (v2 : Int) : Option (Int × St) := fX11_wish_L0 v1 v2 σ
/-! TermLodgingsModel.content(I)I -/
noncomputable def fX11_content_L0 (v1 : Int) (σ : St) : Option (Int × St) :=
  bd (fX11_isOne σ v1) fun a1 s1 =>
  if w32 a1 = 0 then (
  some ((-2), s1))
  else (
  gI v1 16 (
  gI v1 16 (
  some ((s1.2 5 (ix v1)), (sA s1 5 (ix v1) 0)))))
noncomputable def fX11_content (σ : St) (v1 : Int) : Option (Int × St) := fX11_content_L0 v1 σ
/-! TermLodgingsModel.about(II)I -/
noncomputable def fX11_about_L0 (v1 : Int) (v2 : Int) (σ : St) : Option (Int × St) :=
  bd (fX11_isOne σ v1) fun a1 s1 =>
  if w32 a1 = 0 then (
  some ((-2), s1))
  else (
  if w32 v2 = 0 then (
  gI v1 16 (
  some ((s1.2 3 (ix v1)), s1)))
  else (if w32 v2 = 1 then (
  gI v1 16 (
  some ((s1.2 4 (ix v1)), s1)))
  else (if w32 v2 = 2 then (
  gI v1 16 (
  some ((s1.2 5 (ix v1)), s1)))
  else (if w32 v2 = 3 then (
  gI v1 16 (
  some ((s1.2 7 (ix v1)), s1)))
  else (if w32 v2 = 4 then (
  gI v1 16 (
  if w32 (s1.2 8 (ix v1)) = 0 then (
  some (0, s1))
  else (
  some (1, s1))))
  else (if w32 v2 = 5 then (
  gI v1 16 (
  some ((s1.2 9 (ix v1)), s1)))
  else (gI v1 16 (
  bd (fX11_in s1 (w32 v2) 10 (w32 (9 + (s1.2 5 (ix v1))))) fun a2 s2 =>
  if w32 a2 = 0 then (
  some ((-2), s2))
  else (
  gI (((8 * v1) + v2) - 10) 128 (
  some ((s2.2 6 (ix (((8 * v1) + v2) - 10))), s2)))))))))))
noncomputable def fX11_about (σ : St) (v1 : Int) (v2 : Int) : Option (Int × St) := fX11_about_L0 v1 v2 σ
/-! TermLodgingsModel.whoHas(I)I -/
noncomputable def fX11_whoHas_B2 (k2 : Int → Int → St → Option (Int × St)) (v1 : Int) (v2 : Int) (σ : St) : Option (Int × St) :=
  if w32 (σ.1 2) ≤ w32 v2 then (
  some ((-1), σ))
  else (
  gI v2 16 (
  if w32 (σ.2 7 (ix v2)) = w32 v1 then (
  some (v2, σ))
  else (
  k2 v1 (v2 + 1) σ)))
noncomputable def fX11_whoHas_L2 : Nat → Int → Int → St → Option (Int × St)
  | 0, _, _, _ => none
  | n + 1, v1, v2, σ => fX11_whoHas_B2 (fX11_whoHas_L2 n) v1 v2 σ
noncomputable def fX11_whoHas_L0 (v1 : Int) (σ : St) : Option (Int × St) :=
  fX11_whoHas_L2 1000 v1 0 σ
noncomputable def fX11_whoHas (σ : St) (v1 : Int) : Option (Int × St) := fX11_whoHas_L0 v1 σ
/-! TermLodgingsModel.of(II)I -/
noncomputable def fX11_of_L0 (v1 : Int) (v2 : Int) (σ : St) : Option (Int × St) :=
  bd (fX11_isRoom σ v1) fun a1 s1 =>
  if w32 a1 = 0 then (
  some ((-2), s1))
  else (
  if w32 v2 = 0 then (
  gI v1 24 (
  some ((s1.2 0 (ix v1)), s1)))
  else (if w32 v2 = 1 then (
  gI v1 24 (
  some ((s1.2 1 (ix v1)), s1)))
  else (if w32 v2 = 2 then (
  gI v1 24 (
  some ((s1.2 2 (ix v1)), s1)))
  else (if w32 v2 = 3 then (
  bd (fX11_whoHas s1 v1) fun a2 s2 =>
  some (a2, s2))
  else (some ((-2), s1))))))
noncomputable def fX11_of (σ : St) (v1 : Int) (v2 : Int) : Option (Int × St) := fX11_of_L0 v1 v2 σ
/-! TermLodgingsModel.isLetter(I)Z -/
noncomputable def fX11_isLetter_L0 (v0 : Int) (σ : St) : Option (Int × St) :=
  if w32 v0 = 121 then (
  some (1, σ))
  else (
  if w32 v0 = 109 then (
  some (1, σ))
  else (
  if w32 v0 = 115 then (
  some (1, σ))
  else (
  if w32 v0 = 104 then (
  some (1, σ))
  else (
  some (0, σ)))))
noncomputable def fX11_isLetter (σ : St) (v0 : Int) : Option (Int × St) := fX11_isLetter_L0 v0 σ
/-! TermLodgingsModel.isSign(I)Z -/
noncomputable def fX11_isSign_L0 (v0 : Int) (σ : St) : Option (Int × St) :=
  if w32 v0 = 60 then (
  some (1, σ))
  else (
  if w32 v0 = 61 then (
  some (1, σ))
  else (
  if w32 v0 = 62 then (
  some (1, σ))
  else (
  some (0, σ))))
noncomputable def fX11_isSign (σ : St) (v0 : Int) : Option (Int × St) := fX11_isSign_L0 v0 σ
/-! TermLodgingsModel.isFigure(I)Z -/
noncomputable def fX11_isFigure_L0 (v0 : Int) (σ : St) : Option (Int × St) :=
  bd (fX11_in σ (w32 v0) 48 57) fun a1 s1 =>
  gB a1 (some (a1, s1))
noncomputable def fX11_isFigure (σ : St) (v0 : Int) : Option (Int × St) := fX11_isFigure_L0 v0 σ
/-! TermLodgingsModel.fault()I -/
noncomputable def fX11_fault_L65 (k4 : Int → Int → St → Option (Int × St)) (v1 : Int) (v2 : Int) (v3 : Int) (σ : St) : Option (Int × St) :=
  if w32 v1 ≤ 2 then (
  some (v2, σ))
  else (
  if w32 v3 = 124 then (
  k4 0 (v2 + 1) σ)
  else (
  if w32 v3 = 38 then (
  k4 0 (v2 + 1) σ)
  else (
  some (v2, σ))))
noncomputable def fX11_fault_L42 (k4 : Int → Int → St → Option (Int × St)) (v1 : Int) (v2 : Int) (v3 : Int) (σ : St) : Option (Int × St) :=
  if w32 v1 ≤ 1 then (
  fX11_fault_L65 k4 v1 v2 v3 σ)
  else (
  if 5 ≤ w32 v1 then (
  fX11_fault_L65 k4 v1 v2 v3 σ)
  else (
  bd (fX11_isFigure σ v3) fun a1 s1 =>
  if w32 a1 = 0 then (
  fX11_fault_L65 k4 v1 v2 v3 s1)
  else (
  k4 (v1 + 1) (v2 + 1) s1)))
noncomputable def fX11_fault_L30 (k4 : Int → Int → St → Option (Int × St)) (v1 : Int) (v2 : Int) (v3 : Int) (σ : St) : Option (Int × St) :=
  if w32 v1 = 1 then (
  bd (fX11_isSign σ v3) fun a2 s2 =>
  if w32 a2 = 0 then (
  fX11_fault_L42 k4 v1 v2 v3 s2)
  else (
  k4 (v1 + 1) (v2 + 1) s2))
  else (
  fX11_fault_L42 k4 v1 v2 v3 σ)
noncomputable def fX11_fault_B4 (k4 : Int → Int → St → Option (Int × St)) (v1 : Int) (v2 : Int) (σ : St) : Option (Int × St) :=
  if w32 (σ.1 3) ≤ w32 v2 then (
  if w32 (σ.1 3) ≤ 0 then (
  some ((-1), σ))
  else (
  if 3 ≤ w32 v1 then (
  some ((-1), σ))
  else (
  some ((σ.1 3), σ))))
  else (
  gI v2 60 (
  if w32 v1 = 0 then (
  bd (fX11_isLetter σ (σ.2 11 (ix v2))) fun a3 s3 =>
  if w32 a3 = 0 then (
  fX11_fault_L30 k4 v1 v2 (σ.2 11 (ix v2)) s3)
  else (
  k4 (v1 + 1) (v2 + 1) s3))
  else (
  fX11_fault_L30 k4 v1 v2 (σ.2 11 (ix v2)) σ)))
noncomputable def fX11_fault_L4 : Nat → Int → Int → St → Option (Int × St)
  | 0, _, _, _ => none
  | n + 1, v1, v2, σ => fX11_fault_B4 (fX11_fault_L4 n) v1 v2 σ
noncomputable def fX11_fault_L0 (σ : St) : Option (Int × St) :=
  fX11_fault_L4 1000 0 0 σ
noncomputable def fX11_fault (σ : St) : Option (Int × St) := fX11_fault_L0 σ
/-! TermLodgingsModel.holds(IIII)Z -/
noncomputable def fX11_holds_B79 (k79 : Int → Int → Int → Int → Int → St → Option (Int × St)) (v1 : Int) (v2 : Int) (v5 : Int) (v6 : Int) (v7 : Int) (σ : St) : Option (Int × St) :=
  if w32 v2 ≤ w32 v7 then (
  gI (v1 + 1) 60 (
  if w32 (σ.2 11 (ix (v1 + 1))) = 60 then (
  if w32 v6 ≤ w32 v5 then (
  some (0, σ))
  else (
  some (1, σ)))
  else (
  gI (v1 + 1) 60 (
  if w32 (σ.2 11 (ix (v1 + 1))) = 61 then (
  if w32 v5 = w32 v6 then (
  some (1, σ))
  else (
  some (0, σ)))
  else (
  if w32 v5 ≤ w32 v6 then (
  some (0, σ))
  else (
  some (1, σ)))))))
  else (
  gI v7 60 (
  k79 v1 v2 v5 (((10 * v6) + (σ.2 11 (ix v7))) - 48) (v7 + 1) σ))
noncomputable def fX11_holds_L79 : Nat → Int → Int → Int → Int → Int → St → Option (Int × St)
  | 0, _, _, _, _, _, _ => none
  | n + 1, v1, v2, v5, v6, v7, σ => fX11_holds_B79 (fX11_holds_L79 n) v1 v2 v5 v6 v7 σ
noncomputable def fX11_holds_L0 (v1 : Int) (v2 : Int) (v3 : Int) (v4 : Int) (σ : St) : Option (Int × St) :=
  gI v1 60 (
  if w32 (σ.2 11 (ix v1)) = 121 then (
  gI v3 16 (
  fX11_holds_L79 1000 v1 v2 (σ.2 3 (ix v3)) 0 (v1 + 2) σ))
  else (
  gI v1 60 (
  if w32 (σ.2 11 (ix v1)) = 109 then (
  gI v4 24 (
  fX11_holds_L79 1000 v1 v2 (σ.2 1 (ix v4)) 0 (v1 + 2) σ))
  else (
  gI v1 60 (
  if w32 (σ.2 11 (ix v1)) = 115 then (
  gI v4 24 (
  fX11_holds_L79 1000 v1 v2 (σ.2 2 (ix v4)) 0 (v1 + 2) σ))
  else (
  gI v4 24 (
  fX11_holds_L79 1000 v1 v2 (σ.2 0 (ix v4)) 0 (v1 + 2) σ)))))))
noncomputable def fX11_holds (σ : St) (v1 : Int) (v2 : Int) (v3 : Int) (v4 : Int) : Option (Int × St) := fX11_holds_L0 v1 v2 v3 v4 σ
/-! TermLodgingsModel.mayLive(II)Z -/
noncomputable def fX11_mayLive_L133 (k44 : Int → Int → Int → Int → Int → St → Option (Int × St)) (v1 : Int) (v2 : Int) (v3 : Int) (v4 : Int) (v6 : Int) (σ : St) : Option (Int × St) :=
  if w32 v3 = 0 then (
  if w32 v4 = 0 then (
  k44 v1 v2 0 1 (v6 + 1) σ)
  else (
  k44 v1 v2 1 1 (v6 + 1) σ))
  else (
  k44 v1 v2 1 1 (v6 + 1) σ)
noncomputable def fX11_mayLive_L110 (k44 : Int → Int → Int → Int → Int → St → Option (Int × St)) (v1 : Int) (v2 : Int) (v3 : Int) (v6 : Int) (t0 : Int) (σ : St) : Option (Int × St) :=
  if w32 v6 = w32 (σ.1 3) then (
  fX11_mayLive_L133 k44 v1 v2 v3 t0 v6 σ)
  else (
  gI v6 60 (
  if w32 (σ.2 11 (ix v6)) = 124 then (
  fX11_mayLive_L133 k44 v1 v2 v3 t0 v6 σ)
  else (
  k44 v1 v2 v3 t0 (v6 + 1) σ)))
noncomputable def fX11_mayLive_L87 (k44 : Int → Int → Int → Int → Int → St → Option (Int × St)) (v1 : Int) (v2 : Int) (v3 : Int) (v4 : Int) (v5 : Int) (v6 : Int) (σ : St) : Option (Int × St) :=
  if w32 v4 = 0 then (
  fX11_mayLive_L110 k44 v1 v2 v3 v6 0 σ)
  else (
  bd (fX11_holds σ v5 v6 v1 v2) fun a1 s1 =>
  if w32 a1 = 0 then (
  fX11_mayLive_L110 k44 v1 v2 v3 v6 0 s1)
  else (
  fX11_mayLive_L110 k44 v1 v2 v3 v6 1 s1))
noncomputable def fX11_mayLive_B59 (k44 : Int → Int → Int → Int → Int → St → Option (Int × St)) (k59 : Int → Int → Int → Int → Int → Int → St → Option (Int × St)) (v1 : Int) (v2 : Int) (v3 : Int) (v4 : Int) (v5 : Int) (v6 : Int) (σ : St) : Option (Int × St) :=
  if w32 (σ.1 3) ≤ w32 v6 then (
  fX11_mayLive_L87 k44 v1 v2 v3 v4 v5 v6 σ)
  else (
  gI v6 60 (
  bd (fX11_isFigure σ (σ.2 11 (ix v6))) fun a2 s2 =>
  if w32 a2 = 0 then (
  fX11_mayLive_L87 k44 v1 v2 v3 v4 v5 v6 s2)
  else (
  k59 v1 v2 v3 v4 v5 (v6 + 1) s2)))
noncomputable def fX11_mayLive_L59 (k44 : Int → Int → Int → Int → Int → St → Option (Int × St)) : Nat → Int → Int → Int → Int → Int → Int → St → Option (Int × St)
  | 0, _, _, _, _, _, _, _ => none
  | n + 1, v1, v2, v3, v4, v5, v6, σ => fX11_mayLive_B59 k44 (fX11_mayLive_L59 k44 n) v1 v2 v3 v4 v5 v6 σ
noncomputable def fX11_mayLive_B44 (k44 : Int → Int → Int → Int → Int → St → Option (Int × St)) (v1 : Int) (v2 : Int) (v3 : Int) (v4 : Int) (v5 : Int) (σ : St) : Option (Int × St) :=
  if w32 (σ.1 3) ≤ w32 v5 then (
  gB v3 (some (v3, σ)))
  else (
  fX11_mayLive_L59 k44 1000 v1 v2 v3 v4 v5 (v5 + 3) σ)
noncomputable def fX11_mayLive_L44 : Nat → Int → Int → Int → Int → Int → St → Option (Int × St)
  | 0, _, _, _, _, _, _ => none
  | n + 1, v1, v2, v3, v4, v5, σ => fX11_mayLive_B44 (fX11_mayLive_L44 n) v1 v2 v3 v4 v5 σ
noncomputable def fX11_mayLive_L0 (v1 : Int) (v2 : Int) (σ : St) : Option (Int × St) :=
  gI v2 24 (
  if w32 (bAnd (bShr (σ.1 1) (σ.2 0 (ix v2))) 1) = 1 then (
  some (0, σ))
  else (
  if w32 (σ.1 3) = 0 then (
  some (1, σ))
  else (
  bd (fX11_fault σ) fun a3 s3 =>
  if w32 a3 = (-1) then (
  fX11_mayLive_L44 1000 v1 v2 0 1 0 s3)
  else (
  some (1, s3)))))
noncomputable def fX11_mayLive (σ : St) (v1 : Int) (v2 : Int) : Option (Int × St) := fX11_mayLive_L0 v1 v2 σ
/-! TermLodgingsModel.give(II)I -/
noncomputable def fX11_give_L47 (v1 : Int) (v2 : Int) (σ : St) : Option (Int × St) :=
  bd (fX11_mayLive σ v1 v2) fun a1 s1 =>
  if w32 a1 = 0 then (
  some ((-3), s1))
  else (
  gI v1 16 (
  gI v1 16 (
  some ((s1.2 7 (ix v1)), (sA s1 7 (ix v1) v2)))))
noncomputable def fX11_give_L24 (v1 : Int) (v2 : Int) (σ : St) : Option (Int × St) :=
  if w32 v2 = (-1) then (
  gI v1 16 (
  gI v1 16 (
  some ((σ.2 7 (ix v1)), (sA σ 7 (ix v1) v2)))))
  else (
  bd (fX11_whoHas σ v2) fun a2 s2 =>
  if w32 a2 = (-1) then (
  fX11_give_L47 v1 v2 s2)
  else (
  bd (fX11_whoHas s2 v2) fun a3 s3 =>
  if w32 a3 = w32 v1 then (
  fX11_give_L47 v1 v2 s3)
  else (
  some ((-3), s3))))
noncomputable def fX11_give_L0 (v1 : Int) (v2 : Int) (σ : St) : Option (Int × St) :=
  bd (fX11_isOne σ v1) fun a4 s4 =>
  if w32 a4 = 0 then (
  some ((-2), s4))
  else (
  if w32 v2 = (-1) then (
  fX11_give_L24 v1 v2 s4)
  else (
  bd (fX11_isRoom s4 v2) fun a5 s5 =>
  if w32 a5 = 0 then (
  some ((-2), s5))
  else (
  fX11_give_L24 v1 v2 s5)))
noncomputable def fX11_give (σ : St) (v1 : Int) (v2 : Int) : Option (Int × St) := fX11_give_L0 v1 v2 σ
/-! TermLodgingsModel.type(I)I -/
noncomputable def fX11_type_L0 (v1 : Int) (σ : St) : Option (Int × St) :=
  bd (fX11_in σ (w32 v1) 32 126) fun a1 s1 =>
  if w32 a1 = 0 then (
  some ((-2), s1))
  else (
  if w32 (s1.1 3) = 60 then (
  some ((-4), s1))
  else (
  gI (s1.1 3) 60 (
  some (((sF (sA s1 11 (ix (s1.1 3)) v1) 3 (((sA s1 11 (ix (s1.1 3)) v1).1 3) + 1)).1 3), (sF (sA s1 11 (ix (s1.1 3)) v1) 3 (((sA s1 11 (ix (s1.1 3)) v1).1 3) + 1))))))
noncomputable def fX11_type (σ : St) (v1 : Int) : Option (Int × St) := fX11_type_L0 v1 σ
/-! TermLodgingsModel.repeal()I -/
noncomputable def fX11_repeal_L0 (σ : St) : Option (Int × St) :=
  some ((σ.1 3), (sF σ 3 0))
noncomputable def fX11_repeal (σ : St) : Option (Int × St) := fX11_repeal_L0 σ
/-! TermLodgingsModel.may(II)I -/
noncomputable def fX11_may_L0 (v1 : Int) (v2 : Int) (σ : St) : Option (Int × St) :=
  bd (fX11_isOne σ v1) fun a1 s1 =>
  if w32 a1 = 0 then (
  some ((-2), s1))
  else (
  bd (fX11_isRoom s1 v2) fun a2 s2 =>
  if w32 a2 = 0 then (
  some ((-2), s2))
  else (
  bd (fX11_mayLive s2 v1 v2) fun a3 s3 =>
  if w32 a3 = 0 then (
  some (0, s3))
  else (
  some (1, s3))))
noncomputable def fX11_may (σ : St) (v1 : Int) (v2 : Int) : Option (Int × St) := fX11_may_L0 v1 v2 σ
/-! TermLodgingsModel.wrong()I -/
noncomputable def fX11_wrong_B4 (k4 : Int → Int → St → Option (Int × St)) (v1 : Int) (v2 : Int) (σ : St) : Option (Int × St) :=
  if w32 (σ.1 2) ≤ w32 v2 then (
  some (v1, σ))
  else (
  gI v2 16 (
  if w32 (σ.2 7 (ix v2)) = (-1) then (
  k4 (bOr v1 0) (v2 + 1) σ)
  else (
  gI v2 16 (
  bd (fX11_mayLive σ v2 (σ.2 7 (ix v2))) fun a1 s1 =>
  if w32 a1 = 0 then (
  k4 (bOr v1 (bShl 1 v2)) (v2 + 1) s1)
  else (
  k4 (bOr v1 0) (v2 + 1) s1)))))
noncomputable def fX11_wrong_L4 : Nat → Int → Int → St → Option (Int × St)
  | 0, _, _, _ => none
  | n + 1, v1, v2, σ => fX11_wrong_B4 (fX11_wrong_L4 n) v1 v2 σ
noncomputable def fX11_wrong_L0 (σ : St) : Option (Int × St) :=
  fX11_wrong_L4 1000 0 0 σ
noncomputable def fX11_wrong (σ : St) : Option (Int × St) := fX11_wrong_L0 σ
/-! TermLodgingsModel.draw(I)I -/
noncomputable def fX11_draw_B32 (k32 : Int → Int → St → Option (Int × St)) (v2 : Int) (v3 : Int) (σ : St) : Option (Int × St) :=
  if w32 v3 ≤ 0 then (
  if w32 (σ.1 2) = 0 then (
  some ((-1), σ))
  else (
  gI 0 16 (
  some ((σ.2 10 (ix 0)), σ))))
  else (
  g0 (v3 + 1) (
  gI v3 16 (
  gI (iRem (bUshr ((1103515245 * v2) + 12345) 16) (v3 + 1)) 16 (
  gI v3 16 (
  gI (iRem (bUshr ((1103515245 * v2) + 12345) 16) (v3 + 1)) 16 (
  k32 ((1103515245 * v2) + 12345) (v3 + (-1)) (sA (sA σ 10 (ix v3) (σ.2 10 (ix (iRem (bUshr ((1103515245 * v2) + 12345) 16) (v3 + 1))))) 10 (ix (iRem (bUshr ((1103515245 * v2) + 12345) 16) (v3 + 1))) (σ.2 10 (ix v3)))))))))
noncomputable def fX11_draw_L32 : Nat → Int → Int → St → Option (Int × St)
  | 0, _, _, _ => none
  | n + 1, v2, v3, σ => fX11_draw_B32 (fX11_draw_L32 n) v2 v3 σ
noncomputable def fX11_draw_B4 (k4 : Int → Int → St → Option (Int × St)) (v2 : Int) (v3 : Int) (σ : St) : Option (Int × St) :=
  if w32 (σ.1 2) ≤ w32 v3 then (
  fX11_draw_L32 1000 v2 ((σ.1 2) - 1) σ)
  else (
  gI v3 16 (
  k4 v2 (v3 + 1) (sA σ 10 (ix v3) v3)))
noncomputable def fX11_draw_L4 : Nat → Int → Int → St → Option (Int × St)
  | 0, _, _, _ => none
  | n + 1, v2, v3, σ => fX11_draw_B4 (fX11_draw_L4 n) v2 v3 σ
noncomputable def fX11_draw_L0 (v1 : Int) (σ : St) : Option (Int × St) :=
  fX11_draw_L4 1000 v1 0 σ
noncomputable def fX11_draw (σ : St) (v1 : Int) : Option (Int × St) := fX11_draw_L0 v1 σ
/-! TermLodgingsModel.change(II)I -/
noncomputable def fX11_change_L0 (v1 : Int) (v2 : Int) (σ : St) : Option (Int × St) :=
  bd (fX11_isOne σ v1) fun a1 s1 =>
  if w32 a1 = 0 then (
  some ((-2), s1))
  else (
  bd (fX11_isOne s1 v2) fun a2 s2 =>
  if w32 a2 = 0 then (
  some ((-2), s2))
  else (
  gI v1 16 (
  gI v2 16 (
  gI v1 16 (
  gI v2 16 (
  some (1, (sA (sA s2 10 (ix v1) (s2.2 10 (ix v2))) 10 (ix v2) (s2.2 10 (ix v1))))))))))
noncomputable def fX11_change (σ : St) (v1 : Int) (v2 : Int) : Option (Int × St) := fX11_change_L0 v1 v2 σ
/-! TermLodgingsModel.turn(I)I -/
noncomputable def fX11_turn_L0 (v1 : Int) (σ : St) : Option (Int × St) :=
  bd (fX11_isOne σ v1) fun a1 s1 =>
  if w32 a1 = 0 then (
  some ((-2), s1))
  else (
  gI v1 16 (
  some ((s1.2 10 (ix v1)), s1)))
noncomputable def fX11_turn (σ : St) (v1 : Int) : Option (Int × St) := fX11_turn_L0 v1 σ
/-! TermLodgingsModel.housed()I -/
noncomputable def fX11_housed_B4 (k4 : Int → Int → St → Option (Int × St)) (v1 : Int) (v2 : Int) (σ : St) : Option (Int × St) :=
  if w32 (σ.1 2) ≤ w32 v2 then (
  some (v1, σ))
  else (
  gI v2 16 (
  if w32 (σ.2 7 (ix v2)) = (-1) then (
  k4 (v1 + 0) (v2 + 1) σ)
  else (
  k4 (v1 + 1) (v2 + 1) σ)))
noncomputable def fX11_housed_L4 : Nat → Int → Int → St → Option (Int × St)
  | 0, _, _, _ => none
  | n + 1, v1, v2, σ => fX11_housed_B4 (fX11_housed_L4 n) v1 v2 σ
noncomputable def fX11_housed_L0 (σ : St) : Option (Int × St) :=
  fX11_housed_L4 1000 0 0 σ
noncomputable def fX11_housed (σ : St) : Option (Int × St) := fX11_housed_L0 σ
/-! TermLodgingsModel.dearest(I)V -/
noncomputable def fX11_dearest_B2 (k2 : Int → Int → St → Option St) (v1 : Int) (v2 : Int) (σ : St) : Option St :=
  gI v1 16 (
  if w32 (σ.2 5 (ix v1)) ≤ w32 v2 then (
  some σ)
  else (
  gI v1 16 (
  if w32 (σ.2 7 (ix v1)) = (-1) then (
  gI ((8 * v1) + v2) 128 (
  bd (fX11_whoHas σ (σ.2 6 (ix ((8 * v1) + v2)))) fun a1 s1 =>
  if w32 a1 = (-1) then (
  bd (fX11_mayLive s1 v1 (σ.2 6 (ix ((8 * v1) + v2)))) fun a2 s2 =>
  if w32 a2 = 0 then (
  gI v1 16 (
  k2 v1 (v2 + 1) (sA s2 7 (ix v1) (-1))))
  else (
  gI v1 16 (
  k2 v1 (v2 + 1) (sA s2 7 (ix v1) (σ.2 6 (ix ((8 * v1) + v2)))))))
  else (
  gI v1 16 (
  k2 v1 (v2 + 1) (sA s1 7 (ix v1) (-1))))))
  else (
  some σ))))
noncomputable def fX11_dearest_L2 : Nat → Int → Int → St → Option St
  | 0, _, _, _ => none
  | n + 1, v1, v2, σ => fX11_dearest_B2 (fX11_dearest_L2 n) v1 v2 σ
noncomputable def fX11_dearest_L0 (v1 : Int) (σ : St) : Option St :=
  fX11_dearest_L2 1000 v1 0 σ
noncomputable def fX11_dearest (σ : St) (v1 : Int) : Option St := fX11_dearest_L0 v1 σ
/-! TermLodgingsModel.moveInto(II)Z -/
noncomputable def fX11_moveInto_B129 (k129 : Int → Int → Int → St → Option (Int × St)) (v1 : Int) (v3 : Int) (v4 : Int) (σ : St) : Option (Int × St) :=
  if w32 (σ.1 2) ≤ w32 v4 then (
  gB v3 (some (v3, σ)))
  else (
  if w32 v3 = 0 then (
  gI v4 16 (
  if w32 (σ.2 4 (ix v4)) = w32 v1 then (
  gI v4 16 (
  k129 v1 v3 (v4 + 1) (sA σ 7 (ix v4) (-1))))
  else (
  gI v4 16 (
  gI v4 16 (
  k129 v1 v3 (v4 + 1) (sA σ 7 (ix v4) (σ.2 7 (ix v4))))))))
  else (
  gB v3 (some (v3, σ))))
noncomputable def fX11_moveInto_L129 : Nat → Int → Int → Int → St → Option (Int × St)
  | 0, _, _, _, _ => none
  | n + 1, v1, v3, v4, σ => fX11_moveInto_B129 (fX11_moveInto_L129 n) v1 v3 v4 σ
noncomputable def fX11_moveInto_L103 (k5 : Int → Int → Int → Int → St → Option (Int × St)) (v1 : Int) (v2 : Int) (v4 : Int) (σ : St) : Option (Int × St) :=
  gI v4 16 (
  if w32 (σ.2 7 (ix v4)) = (-1) then (
  k5 v1 v2 0 (v4 + 1) σ)
  else (
  k5 v1 v2 1 (v4 + 1) σ))
noncomputable def fX11_moveInto_B32 (k5 : Int → Int → Int → Int → St → Option (Int × St)) (k32 : Int → Int → Int → Int → St → Option (Int × St)) (v1 : Int) (v2 : Int) (v4 : Int) (v5 : Int) (σ : St) : Option (Int × St) :=
  if w32 (σ.1 0) ≤ w32 v5 then (
  fX11_moveInto_L103 k5 v1 v2 v4 σ)
  else (
  gI v4 16 (
  if w32 (σ.2 7 (ix v4)) = (-1) then (
  gI v5 24 (
  if w32 (σ.2 0 (ix v5)) = w32 v2 then (
  bd (fX11_whoHas σ v5) fun a1 s1 =>
  if w32 a1 = (-1) then (
  bd (fX11_mayLive s1 v4 v5) fun a2 s2 =>
  if w32 a2 = 0 then (
  gI v4 16 (
  k32 v1 v2 v4 (v5 + 1) (sA s2 7 (ix v4) (-1))))
  else (
  gI v4 16 (
  k32 v1 v2 v4 (v5 + 1) (sA s2 7 (ix v4) v5))))
  else (
  gI v4 16 (
  k32 v1 v2 v4 (v5 + 1) (sA s1 7 (ix v4) (-1)))))
  else (
  gI v4 16 (
  k32 v1 v2 v4 (v5 + 1) (sA σ 7 (ix v4) (-1))))))
  else (
  fX11_moveInto_L103 k5 v1 v2 v4 σ)))
noncomputable def fX11_moveInto_L32 (k5 : Int → Int → Int → Int → St → Option (Int × St)) : Nat → Int → Int → Int → Int → St → Option (Int × St)
  | 0, _, _, _, _, _ => none
  | n + 1, v1, v2, v4, v5, σ => fX11_moveInto_B32 k5 (fX11_moveInto_L32 k5 n) v1 v2 v4 v5 σ
noncomputable def fX11_moveInto_B5 (k5 : Int → Int → Int → Int → St → Option (Int × St)) (v1 : Int) (v2 : Int) (v3 : Int) (v4 : Int) (σ : St) : Option (Int × St) :=
  if w32 (σ.1 2) ≤ w32 v4 then (
  fX11_moveInto_L129 1000 v1 v3 0 σ)
  else (
  if w32 v3 = 0 then (
  fX11_moveInto_L129 1000 v1 v3 0 σ)
  else (
  gI v4 16 (
  if w32 (σ.2 4 (ix v4)) = w32 v1 then (
  fX11_moveInto_L32 k5 1000 v1 v2 v4 0 σ)
  else (
  k5 v1 v2 v3 (v4 + 1) σ))))
noncomputable def fX11_moveInto_L5 : Nat → Int → Int → Int → Int → St → Option (Int × St)
  | 0, _, _, _, _, _ => none
  | n + 1, v1, v2, v3, v4, σ => fX11_moveInto_B5 (fX11_moveInto_L5 n) v1 v2 v3 v4 σ
noncomputable def fX11_moveInto_L0 (v1 : Int) (v2 : Int) (σ : St) : Option (Int × St) :=
  fX11_moveInto_L5 1000 v1 v2 1 0 σ
noncomputable def fX11_moveInto (σ : St) (v1 : Int) (v2 : Int) : Option (Int × St) := fX11_moveInto_L0 v1 v2 σ
/-! TermLodgingsModel.sizeOf(I)I -/
noncomputable def fX11_sizeOf_B4 (k4 : Int → Int → Int → St → Option (Int × St)) (v1 : Int) (v2 : Int) (v3 : Int) (σ : St) : Option (Int × St) :=
  if w32 (σ.1 2) ≤ w32 v3 then (
  some (v2, σ))
  else (
  gI v3 16 (
  if w32 (σ.2 4 (ix v3)) = w32 v1 then (
  k4 v1 (v2 + 1) (v3 + 1) σ)
  else (
  k4 v1 (v2 + 0) (v3 + 1) σ)))
noncomputable def fX11_sizeOf_L4 : Nat → Int → Int → Int → St → Option (Int × St)
  | 0, _, _, _, _ => none
  | n + 1, v1, v2, v3, σ => fX11_sizeOf_B4 (fX11_sizeOf_L4 n) v1 v2 v3 σ
noncomputable def fX11_sizeOf_L0 (v1 : Int) (σ : St) : Option (Int × St) :=
  fX11_sizeOf_L4 1000 v1 0 0 σ
noncomputable def fX11_sizeOf (σ : St) (v1 : Int) : Option (Int × St) := fX11_sizeOf_L0 v1 σ
/-! TermLodgingsModel.deal()I -/
noncomputable def fX11_deal_B148 (k27 : Int → Int → St → Option (Int × St)) (k148 : Int → Int → Int → Int → Int → St → Option (Int × St)) (v1 : Int) (v2 : Int) (v3 : Int) (v4 : Int) (v5 : Int) (σ : St) : Option (Int × St) :=
  if w32 (σ.1 2) ≤ w32 v5 then (
  k27 v1 (v2 + 1) σ)
  else (
  gI v5 16 (
  gI v3 16 (
  if w32 (σ.2 4 (ix v5)) = w32 (σ.2 4 (ix v3)) then (
  if w32 v4 = 0 then (
  bv (fX11_dearest σ v5) fun s1 =>
  k148 (bOr v1 (bShl 1 v5)) v2 v3 v4 (v5 + 1) s1)
  else (
  k148 (bOr v1 (bShl 1 v5)) v2 v3 v4 (v5 + 1) σ))
  else (
  k148 v1 v2 v3 v4 (v5 + 1) σ))))
noncomputable def fX11_deal_L148 (k27 : Int → Int → St → Option (Int × St)) : Nat → Int → Int → Int → Int → Int → St → Option (Int × St)
  | 0, _, _, _, _, _, _ => none
  | n + 1, v1, v2, v3, v4, v5, σ => fX11_deal_B148 k27 (fX11_deal_L148 k27 n) v1 v2 v3 v4 v5 σ
noncomputable def fX11_deal_B94 (k27 : Int → Int → St → Option (Int × St)) (k94 : Int → Int → Int → Int → Int → St → Option (Int × St)) (v1 : Int) (v2 : Int) (v3 : Int) (v4 : Int) (v5 : Int) (σ : St) : Option (Int × St) :=
  gI v3 16 (
  if w32 (σ.2 5 (ix v3)) ≤ w32 v5 then (
  fX11_deal_L148 k27 1000 v1 v2 v3 v4 0 σ)
  else (
  if w32 v4 = 0 then (
  gI v3 16 (
  gI ((8 * v3) + v5) 128 (
  gI (σ.2 6 (ix ((8 * v3) + v5))) 24 (
  bd (fX11_moveInto σ (σ.2 4 (ix v3)) (σ.2 0 (ix (σ.2 6 (ix ((8 * v3) + v5)))))) fun a2 s2 =>
  k94 v1 v2 v3 a2 (v5 + 1) s2))))
  else (
  fX11_deal_L148 k27 1000 v1 v2 v3 v4 0 σ)))
noncomputable def fX11_deal_L94 (k27 : Int → Int → St → Option (Int × St)) : Nat → Int → Int → Int → Int → Int → St → Option (Int × St)
  | 0, _, _, _, _, _, _ => none
  | n + 1, v1, v2, v3, v4, v5, σ => fX11_deal_B94 k27 (fX11_deal_L94 k27 n) v1 v2 v3 v4 v5 σ
noncomputable def fX11_deal_B27 (k27 : Int → Int → St → Option (Int × St)) (v1 : Int) (v2 : Int) (σ : St) : Option (Int × St) :=
  if w32 (σ.1 2) ≤ w32 v2 then (
  bd (fX11_housed σ) fun a3 s3 =>
  some (a3, s3))
  else (
  gI v2 16 (
  if w32 (bAnd (bShr v1 (σ.2 10 (ix v2))) 1) = 0 then (
  gI (σ.2 10 (ix v2)) 16 (
  if w32 (σ.2 4 (ix (σ.2 10 (ix v2)))) = (-1) then (
  bv (fX11_dearest σ (σ.2 10 (ix v2))) fun s4 =>
  k27 (bOr v1 (bShl 1 (σ.2 10 (ix v2)))) (v2 + 1) s4)
  else (
  gI (σ.2 10 (ix v2)) 16 (
  bd (fX11_sizeOf σ (σ.2 4 (ix (σ.2 10 (ix v2))))) fun a5 s5 =>
  if w32 a5 = 1 then (
  bv (fX11_dearest s5 (σ.2 10 (ix v2))) fun s6 =>
  k27 (bOr v1 (bShl 1 (σ.2 10 (ix v2)))) (v2 + 1) s6)
  else (
  fX11_deal_L94 k27 1000 (bOr v1 (bShl 1 (σ.2 10 (ix v2)))) v2 (σ.2 10 (ix v2)) 0 0 s5)))))
  else (
  k27 v1 (v2 + 1) σ)))
noncomputable def fX11_deal_L27 : Nat → Int → Int → St → Option (Int × St)
  | 0, _, _, _ => none
  | n + 1, v1, v2, σ => fX11_deal_B27 (fX11_deal_L27 n) v1 v2 σ
noncomputable def fX11_deal_B2 (k2 : Int → St → Option (Int × St)) (v1 : Int) (σ : St) : Option (Int × St) :=
  if w32 (σ.1 2) ≤ w32 v1 then (
  fX11_deal_L27 1000 0 0 σ)
  else (
  gI v1 16 (
  k2 (v1 + 1) (sA σ 7 (ix v1) (-1))))
noncomputable def fX11_deal_L2 : Nat → Int → St → Option (Int × St)
  | 0, _, _ => none
  | n + 1, v1, σ => fX11_deal_B2 (fX11_deal_L2 n) v1 σ
noncomputable def fX11_deal_L0 (σ : St) : Option (Int × St) :=
  fX11_deal_L2 1000 0 σ
noncomputable def fX11_deal (σ : St) : Option (Int × St) := fX11_deal_L0 σ
/-! TermLodgingsModel.pointOf(II)I -/
noncomputable def fX11_pointOf_B2 (k2 : Int → Int → Int → St → Option (Int × St)) (v1 : Int) (v2 : Int) (v3 : Int) (σ : St) : Option (Int × St) :=
  gI v1 16 (
  if w32 (σ.2 5 (ix v1)) ≤ w32 v3 then (
  some (v1, σ))
  else (
  gI ((8 * v1) + v3) 128 (
  gI v1 16 (
  if w32 (σ.2 6 (ix ((8 * v1) + v3))) = w32 (σ.2 7 (ix v1)) then (
  some (v1, σ))
  else (
  bd (fX11_whoHas σ (σ.2 6 (ix ((8 * v1) + v3)))) fun a1 s1 =>
  if w32 a1 = (-1) then (
  k2 v1 v2 (v3 + 1) s1)
  else (
  if w32 (bAnd (bShr v2 a1) 1) = 1 then (
  bd (fX11_mayLive s1 v1 (σ.2 6 (ix ((8 * v1) + v3)))) fun a2 s2 =>
  if w32 a2 = 0 then (
  k2 v1 v2 (v3 + 1) s2)
  else (
  some (a1, s2)))
  else (
  k2 v1 v2 (v3 + 1) s1)))))))
noncomputable def fX11_pointOf_L2 : Nat → Int → Int → Int → St → Option (Int × St)
  | 0, _, _, _, _ => none
  | n + 1, v1, v2, v3, σ => fX11_pointOf_B2 (fX11_pointOf_L2 n) v1 v2 v3 σ
noncomputable def fX11_pointOf_L0 (v1 : Int) (v2 : Int) (σ : St) : Option (Int × St) :=
  fX11_pointOf_L2 1000 v1 v2 0 σ
noncomputable def fX11_pointOf (σ : St) (v1 : Int) (v2 : Int) : Option (Int × St) := fX11_pointOf_L0 v1 v2 σ
/-! TermLodgingsModel.trade()I -/
noncomputable def fX11_trade_B378 (k378 : Int → Int → Int → Int → Int → St → Option (Int × St)) (v2 : Int) (v3 : Int) (v4 : Int) (v5 : Int) (v6 : Int) (σ : St) : Option (Int × St) :=
  if w32 (σ.1 2) ≤ w32 v6 then (
  gI 0 3 (
  gI 1 3 (
  gI 2 3 (
  some (v5, (sA (sA (sA σ 12 (ix 0) v2) 12 (ix 1) v3) 12 (ix 2) v4))))))
  else (
  gI v6 16 (
  gI v6 16 (
  k378 v2 v3 v4 v5 (v6 + 1) (sA σ 7 (ix v6) (σ.2 14 (ix v6))))))
noncomputable def fX11_trade_L378 : Nat → Int → Int → Int → Int → Int → St → Option (Int × St)
  | 0, _, _, _, _, _, _ => none
  | n + 1, v2, v3, v4, v5, v6, σ => fX11_trade_B378 (fX11_trade_L378 n) v2 v3 v4 v5 v6 σ
noncomputable def fX11_trade_B333 (k333 : Int → Int → Int → Int → Int → St → Option (Int × St)) (v2 : Int) (v3 : Int) (v4 : Int) (v5 : Int) (v6 : Int) (σ : St) : Option (Int × St) :=
  if w32 (σ.1 2) ≤ w32 v6 then (
  fX11_trade_L378 1000 v2 v3 v4 v5 0 σ)
  else (
  gI v6 16 (
  gI v6 16 (
  if w32 (σ.2 14 (ix v6)) = w32 (σ.2 7 (ix v6)) then (
  k333 v2 v3 v4 (v5 + 0) (v6 + 1) σ)
  else (
  k333 v2 v3 v4 (v5 + 1) (v6 + 1) σ))))
noncomputable def fX11_trade_L333 : Nat → Int → Int → Int → Int → Int → St → Option (Int × St)
  | 0, _, _, _, _, _, _ => none
  | n + 1, v2, v3, v4, v5, v6, σ => fX11_trade_B333 (fX11_trade_L333 n) v2 v3 v4 v5 v6 σ
noncomputable def fX11_trade_L294 (k71 : Int → Int → Int → Int → St → Option (Int × St)) (k130 : Int → Int → Int → Int → Int → Int → St → Option (Int × St)) (v1 : Int) (v3 : Int) (v4 : Int) (v5 : Int) (v6 : Int) (v7 : Int) (t0 : Int) (t1 : Int) (σ : St) : Option (Int × St) :=
  if w32 v7 ≤ 1 then (
  k130 v1 (t0 + t1) v3 v4 v5 (v6 + 1) σ)
  else (
  if w32 v7 ≤ w32 v3 then (
  k130 v1 (t0 + t1) v3 v4 v5 (v6 + 1) σ)
  else (
  k130 v1 (t0 + t1) v7 v4 v5 (v6 + 1) σ))
noncomputable def fX11_trade_B239 (k71 : Int → Int → Int → Int → St → Option (Int × St)) (k130 : Int → Int → Int → Int → Int → Int → St → Option (Int × St)) (k239 : Int → Int → Int → Int → Int → Int → Int → Int → Int → St → Option (Int × St)) (v1 : Int) (v2 : Int) (v3 : Int) (v4 : Int) (v5 : Int) (v6 : Int) (v7 : Int) (v9 : Int) (v10 : Int) (σ : St) : Option (Int × St) :=
  if w32 v10 = w32 v6 then (
  if w32 v9 = 0 then (
  fX11_trade_L294 k71 k130 v1 v3 v4 v5 v6 v7 v2 0 σ)
  else (
  if w32 v7 ≤ 1 then (
  fX11_trade_L294 k71 k130 v1 v3 v4 v5 v6 v7 v2 0 σ)
  else (
  fX11_trade_L294 k71 k130 v1 v3 v4 v5 v6 v7 v2 1 σ)))
  else (
  if w32 v9 = 0 then (
  gI v10 16 (
  k239 v1 v2 v3 v4 v5 v6 v7 0 (σ.2 13 (ix v10)) σ))
  else (
  if w32 v10 ≤ w32 v6 then (
  gI v10 16 (
  k239 v1 v2 v3 v4 v5 v6 v7 0 (σ.2 13 (ix v10)) σ))
  else (
  gI v10 16 (
  k239 v1 v2 v3 v4 v5 v6 v7 1 (σ.2 13 (ix v10)) σ))))
noncomputable def fX11_trade_L239 (k71 : Int → Int → Int → Int → St → Option (Int × St)) (k130 : Int → Int → Int → Int → Int → Int → St → Option (Int × St)) : Nat → Int → Int → Int → Int → Int → Int → Int → Int → Int → St → Option (Int × St)
  | 0, _, _, _, _, _, _, _, _, _, _ => none
  | n + 1, v1, v2, v3, v4, v5, v6, v7, v9, v10, σ => fX11_trade_B239 k71 k130 (fX11_trade_L239 k71 k130 n) v1 v2 v3 v4 v5 v6 v7 v9 v10 σ
noncomputable def fX11_trade_L190 (k71 : Int → Int → Int → Int → St → Option (Int × St)) (k130 : Int → Int → Int → Int → Int → Int → St → Option (Int × St)) (v1 : Int) (v2 : Int) (v3 : Int) (v4 : Int) (v5 : Int) (v6 : Int) (v7 : Int) (v8 : Int) (σ : St) : Option (Int × St) :=
  if w32 v8 = w32 v6 then (
  gI v6 16 (
  gI (σ.2 13 (ix v6)) 16 (
  gI v6 16 (
  gI v6 16 (
  fX11_trade_L239 k71 k130 1000 v1 v2 v3 v4 (bAnd v5 (bXor (bShl 1 v6) (-1))) v6 v7 1 ((sA σ 14 (ix v6) (σ.2 7 (ix (σ.2 13 (ix v6))))).2 13 (ix v6)) (sA σ 14 (ix v6) (σ.2 7 (ix (σ.2 13 (ix v6))))))))))
  else (
  k130 v1 v2 v3 v4 v5 (v6 + 1) σ)
noncomputable def fX11_trade_B161 (k71 : Int → Int → Int → Int → St → Option (Int × St)) (k130 : Int → Int → Int → Int → Int → Int → St → Option (Int × St)) (k161 : Int → Int → Int → Int → Int → Int → Int → Int → St → Option (Int × St)) (v1 : Int) (v2 : Int) (v3 : Int) (v4 : Int) (v5 : Int) (v6 : Int) (v7 : Int) (v8 : Int) (σ : St) : Option (Int × St) :=
  if w32 v8 = w32 v6 then (
  fX11_trade_L190 k71 k130 v1 v2 v3 v4 v5 v6 v7 v8 σ)
  else (
  if 17 ≤ w32 v7 then (
  fX11_trade_L190 k71 k130 v1 v2 v3 v4 v5 v6 v7 v8 σ)
  else (
  gI v8 16 (
  k161 v1 v2 v3 v4 v5 v6 (v7 + 1) (σ.2 13 (ix v8)) σ)))
noncomputable def fX11_trade_L161 (k71 : Int → Int → Int → Int → St → Option (Int × St)) (k130 : Int → Int → Int → Int → Int → Int → St → Option (Int × St)) : Nat → Int → Int → Int → Int → Int → Int → Int → Int → St → Option (Int × St)
  | 0, _, _, _, _, _, _, _, _, _ => none
  | n + 1, v1, v2, v3, v4, v5, v6, v7, v8, σ => fX11_trade_B161 k71 k130 (fX11_trade_L161 k71 k130 n) v1 v2 v3 v4 v5 v6 v7 v8 σ
noncomputable def fX11_trade_B130 (k71 : Int → Int → Int → Int → St → Option (Int × St)) (k130 : Int → Int → Int → Int → Int → Int → St → Option (Int × St)) (v1 : Int) (v2 : Int) (v3 : Int) (v4 : Int) (v5 : Int) (v6 : Int) (σ : St) : Option (Int × St) :=
  if w32 (σ.1 2) ≤ w32 v6 then (
  k71 v5 v2 v3 v4 σ)
  else (
  if w32 (bAnd (bShr v1 v6) 1) = 1 then (
  gI v6 16 (
  fX11_trade_L161 k71 k130 1000 v1 v2 v3 v4 v5 v6 1 (σ.2 13 (ix v6)) σ))
  else (
  k130 v1 v2 v3 v4 v5 (v6 + 1) σ))
noncomputable def fX11_trade_L130 (k71 : Int → Int → Int → Int → St → Option (Int × St)) : Nat → Int → Int → Int → Int → Int → Int → St → Option (Int × St)
  | 0, _, _, _, _, _, _, _ => none
  | n + 1, v1, v2, v3, v4, v5, v6, σ => fX11_trade_B130 k71 (fX11_trade_L130 k71 n) v1 v2 v3 v4 v5 v6 σ
noncomputable def fX11_trade_B81 (k71 : Int → Int → Int → Int → St → Option (Int × St)) (k81 : Int → Int → Int → Int → Int → St → Option (Int × St)) (v1 : Int) (v2 : Int) (v3 : Int) (v4 : Int) (v5 : Int) (σ : St) : Option (Int × St) :=
  if w32 (σ.1 2) ≤ w32 v5 then (
  fX11_trade_L130 k71 1000 v1 v2 v3 v4 v1 0 σ)
  else (
  if w32 (bAnd (bShr v1 v5) 1) = 1 then (
  bd (fX11_pointOf σ v5 v1) fun a1 s1 =>
  gI v5 16 (
  k81 v1 v2 v3 v4 (v5 + 1) (sA s1 13 (ix v5) a1)))
  else (
  gI v5 16 (
  k81 v1 v2 v3 v4 (v5 + 1) (sA σ 13 (ix v5) (-1)))))
noncomputable def fX11_trade_L81 (k71 : Int → Int → Int → Int → St → Option (Int × St)) : Nat → Int → Int → Int → Int → Int → St → Option (Int × St)
  | 0, _, _, _, _, _, _ => none
  | n + 1, v1, v2, v3, v4, v5, σ => fX11_trade_B81 k71 (fX11_trade_L81 k71 n) v1 v2 v3 v4 v5 σ
noncomputable def fX11_trade_B71 (k71 : Int → Int → Int → Int → St → Option (Int × St)) (v1 : Int) (v2 : Int) (v3 : Int) (v4 : Int) (σ : St) : Option (Int × St) :=
  if w32 v1 = 0 then (
  fX11_trade_L333 1000 v2 v3 v4 0 0 σ)
  else (
  fX11_trade_L81 k71 1000 v1 v2 v3 (v4 + 1) 0 σ)
noncomputable def fX11_trade_L71 : Nat → Int → Int → Int → Int → St → Option (Int × St)
  | 0, _, _, _, _, _ => none
  | n + 1, v1, v2, v3, v4, σ => fX11_trade_B71 (fX11_trade_L71 n) v1 v2 v3 v4 σ
noncomputable def fX11_trade_B4 (k4 : Int → Int → St → Option (Int × St)) (v1 : Int) (v2 : Int) (σ : St) : Option (Int × St) :=
  if w32 (σ.1 2) ≤ w32 v2 then (
  fX11_trade_L71 1000 v1 0 0 0 σ)
  else (
  gI v2 16 (
  gI v2 16 (
  gI v2 16 (
  if w32 ((sA σ 14 (ix v2) (σ.2 7 (ix v2))).2 7 (ix v2)) = (-1) then (
  k4 (bOr v1 0) (v2 + 1) (sA σ 14 (ix v2) (σ.2 7 (ix v2))))
  else (
  gI v2 16 (
  bd (fX11_mayLive (sA σ 14 (ix v2) (σ.2 7 (ix v2))) v2 ((sA σ 14 (ix v2) (σ.2 7 (ix v2))).2 7 (ix v2))) fun a2 s2 =>
  if w32 a2 = 0 then (
  k4 (bOr v1 0) (v2 + 1) s2)
  else (
  k4 (bOr v1 (bShl 1 v2)) (v2 + 1) s2)))))))
noncomputable def fX11_trade_L4 : Nat → Int → Int → St → Option (Int × St)
  | 0, _, _, _ => none
  | n + 1, v1, v2, σ => fX11_trade_B4 (fX11_trade_L4 n) v1 v2 σ
noncomputable def fX11_trade_L0 (σ : St) : Option (Int × St) :=
  fX11_trade_L4 1000 0 0 σ
noncomputable def fX11_trade (σ : St) : Option (Int × St) := fX11_trade_L0 σ
/-! TermLodgingsModel.traded(I)I -/
noncomputable def fX11_traded_L0 (v1 : Int) (σ : St) : Option (Int × St) :=
  bd (fX11_in σ (w32 v1) 0 2) fun a1 s1 =>
  if w32 a1 = 0 then (
  some ((-2), s1))
  else (
  gI v1 3 (
  some ((s1.2 12 (ix v1)), s1)))
noncomputable def fX11_traded (σ : St) (v1 : Int) : Option (Int × St) := fX11_traded_L0 v1 σ
/-! TermLodgingsModel.lays(I)Z -/
noncomputable def fX11_lays_B113 (k101 : Int → Int → Int → St → Option (Int × St)) (k113 : Int → Int → Int → Int → Int → St → Option (Int × St)) (v1 : Int) (v7 : Int) (v8 : Int) (v9 : Int) (v10 : Int) (σ : St) : Option (Int × St) :=
  if w32 (σ.1 0) ≤ w32 v10 then (
  gI v7 24 (
  gI v9 24 (
  k101 v1 v9 ((sA σ 17 (ix v7) v8).2 19 (ix v9)) (sA σ 17 (ix v7) v8))))
  else (
  gI v10 24 (
  if w32 (σ.2 17 (ix v10)) = w32 v8 then (
  k113 v1 v7 v8 v10 (v10 + 1) σ)
  else (
  k113 v1 v7 v8 v9 (v10 + 1) σ)))
noncomputable def fX11_lays_L113 (k101 : Int → Int → Int → St → Option (Int × St)) : Nat → Int → Int → Int → Int → Int → St → Option (Int × St)
  | 0, _, _, _, _, _, _ => none
  | n + 1, v1, v7, v8, v9, v10, σ => fX11_lays_B113 k101 (fX11_lays_L113 k101 n) v1 v7 v8 v9 v10 σ
noncomputable def fX11_lays_B101 (k101 : Int → Int → Int → St → Option (Int × St)) (v1 : Int) (v7 : Int) (v8 : Int) (σ : St) : Option (Int × St) :=
  if w32 v8 = w32 v1 then (
  gI v7 24 (
  some (1, (sA σ 17 (ix v7) v1))))
  else (
  fX11_lays_L113 k101 1000 v1 v7 v8 (-1) 0 σ)
noncomputable def fX11_lays_L101 : Nat → Int → Int → Int → St → Option (Int × St)
  | 0, _, _, _, _ => none
  | n + 1, v1, v7, v8, σ => fX11_lays_B101 (fX11_lays_L101 n) v1 v7 v8 σ
noncomputable def fX11_lays_B32 (k14 : Int → Int → Int → Int → St → Option (Int × St)) (k32 : Int → Int → Int → Int → Int → Int → St → Option (Int × St)) (v1 : Int) (v2 : Int) (v3 : Int) (v4 : Int) (v5 : Int) (v6 : Int) (σ : St) : Option (Int × St) :=
  if w32 (σ.1 0) ≤ w32 v6 then (
  k14 v1 v2 v3 (v4 + 1) σ)
  else (
  gI v5 16 (
  if w32 (bAnd (bShr (σ.2 16 (ix v5)) v6) 1) = 1 then (
  if w32 (bAnd (bShr v2 v6) 1) = 0 then (
  gI v6 24 (
  gI v6 24 (
  if w32 ((sA σ 19 (ix v6) v5).2 17 (ix v6)) = (-1) then (
  fX11_lays_L101 1000 v1 v6 v5 (sA σ 19 (ix v6) v5))
  else (
  gI v6 24 (
  gI v3 16 (
  k32 v1 (bOr v2 (bShl 1 v6)) (v3 + 1) v4 v5 (v6 + 1) (sA (sA σ 19 (ix v6) v5) 18 (ix v3) ((sA σ 19 (ix v6) v5).2 17 (ix v6)))))))))
  else (
  k32 v1 v2 v3 v4 v5 (v6 + 1) σ))
  else (
  k32 v1 v2 v3 v4 v5 (v6 + 1) σ)))
noncomputable def fX11_lays_L32 (k14 : Int → Int → Int → Int → St → Option (Int × St)) : Nat → Int → Int → Int → Int → Int → Int → St → Option (Int × St)
  | 0, _, _, _, _, _, _, _ => none
  | n + 1, v1, v2, v3, v4, v5, v6, σ => fX11_lays_B32 k14 (fX11_lays_L32 k14 n) v1 v2 v3 v4 v5 v6 σ
noncomputable def fX11_lays_B14 (k14 : Int → Int → Int → Int → St → Option (Int × St)) (v1 : Int) (v2 : Int) (v3 : Int) (v4 : Int) (σ : St) : Option (Int × St) :=
  if w32 v3 ≤ w32 v4 then (
  some (0, σ))
  else (
  gI v4 16 (
  fX11_lays_L32 k14 1000 v1 v2 v3 v4 (σ.2 18 (ix v4)) 0 σ))
noncomputable def fX11_lays_L14 : Nat → Int → Int → Int → Int → St → Option (Int × St)
  | 0, _, _, _, _, _ => none
  | n + 1, v1, v2, v3, v4, σ => fX11_lays_B14 (fX11_lays_L14 n) v1 v2 v3 v4 σ
noncomputable def fX11_lays_L0 (v1 : Int) (σ : St) : Option (Int × St) :=
  gI 0 16 (
  fX11_lays_L14 1000 v1 0 1 0 (sA σ 18 (ix 0) v1))
noncomputable def fX11_lays (σ : St) (v1 : Int) : Option (Int × St) := fX11_lays_L0 v1 σ
/-! TermLodgingsModel.most(I)I -/
noncomputable def fX11_most_B27 (k27 : Int → Int → St → Option (Int × St)) (v2 : Int) (v3 : Int) (σ : St) : Option (Int × St) :=
  if w32 (σ.1 4) ≤ w32 v3 then (
  some (v2, σ))
  else (
  bd (fX11_lays σ v3) fun a1 s1 =>
  if w32 a1 = 0 then (
  k27 (v2 + 0) (v3 + 1) s1)
  else (
  k27 (v2 + 1) (v3 + 1) s1))
noncomputable def fX11_most_L27 : Nat → Int → Int → St → Option (Int × St)
  | 0, _, _, _ => none
  | n + 1, v2, v3, σ => fX11_most_B27 (fX11_most_L27 n) v2 v3 σ
noncomputable def fX11_most_B2 (k2 : Int → Int → St → Option (Int × St)) (v1 : Int) (v2 : Int) (σ : St) : Option (Int × St) :=
  if w32 (σ.1 0) ≤ w32 v2 then (
  fX11_most_L27 1000 0 v1 σ)
  else (
  gI v2 24 (
  k2 v1 (v2 + 1) (sA σ 17 (ix v2) (-1))))
noncomputable def fX11_most_L2 : Nat → Int → Int → St → Option (Int × St)
  | 0, _, _, _ => none
  | n + 1, v1, v2, σ => fX11_most_B2 (fX11_most_L2 n) v1 v2 σ
noncomputable def fX11_most_L0 (v1 : Int) (σ : St) : Option (Int × St) :=
  fX11_most_L2 1000 v1 0 σ
noncomputable def fX11_most (σ : St) (v1 : Int) : Option (Int × St) := fX11_most_L0 v1 σ
/-! TermLodgingsModel.take(II)V -/
noncomputable def fX11_take_B2 (k2 : Int → Int → Int → St → Option St) (v1 : Int) (v2 : Int) (v3 : Int) (σ : St) : Option St :=
  if w32 (σ.1 4) ≤ w32 v3 then (
  some σ)
  else (
  gI v3 16 (
  gI v3 16 (
  if w32 v3 ≤ w32 v1 then (
  gI v3 16 (
  gI v3 16 (
  k2 v1 v2 (v3 + 1) (sA (sA σ 20 (ix v3) (σ.2 16 (ix v3))) 16 (ix v3) ((sA σ 20 (ix v3) (σ.2 16 (ix v3))).2 16 (ix v3))))))
  else (
  gI v3 16 (
  gI v3 16 (
  k2 v1 v2 (v3 + 1) (sA (sA σ 20 (ix v3) (σ.2 16 (ix v3))) 16 (ix v3) (bAnd ((sA σ 20 (ix v3) (σ.2 16 (ix v3))).2 16 (ix v3)) (bXor (bShl 1 v2) (-1))))))))))
noncomputable def fX11_take_L2 : Nat → Int → Int → Int → St → Option St
  | 0, _, _, _, _ => none
  | n + 1, v1, v2, v3, σ => fX11_take_B2 (fX11_take_L2 n) v1 v2 v3 σ
noncomputable def fX11_take_L0 (v1 : Int) (v2 : Int) (σ : St) : Option St :=
  fX11_take_L2 1000 v1 v2 0 σ
noncomputable def fX11_take (σ : St) (v1 : Int) (v2 : Int) : Option St := fX11_take_L0 v1 v2 σ
/-! TermLodgingsModel.untake(I)V -/
noncomputable def fX11_untake_B2 (k2 : Int → St → Option St) (v2 : Int) (σ : St) : Option St :=
  if w32 (σ.1 4) ≤ w32 v2 then (
  some σ)
  else (
  gI v2 16 (
  gI v2 16 (
  k2 (v2 + 1) (sA σ 16 (ix v2) (σ.2 20 (ix v2))))))
noncomputable def fX11_untake_L2 : Nat → Int → St → Option St
  | 0, _, _ => none
  | n + 1, v2, σ => fX11_untake_B2 (fX11_untake_L2 n) v2 σ
noncomputable def fX11_untake_L0 (σ : St) : Option St :=
  fX11_untake_L2 1000 0 σ
noncomputable def fX11_untake (σ : St) (v1 : Int) : Option St := fX11_untake_L0 σ
/-! TermLodgingsModel.strike(I)I -/
noncomputable def fX11_strike_B216 (k204 : Int → Int → Int → St → Option (Int × St)) (k216 : Int → Int → Int → Int → St → Option (Int × St)) (v2 : Int) (v3 : Int) (v4 : Int) (v5 : Int) (σ : St) : Option (Int × St) :=
  if w32 (σ.1 0) ≤ w32 v5 then (
  k204 v2 v3 (v4 + 1) σ)
  else (
  gI v4 16 (
  gI (σ.2 15 (ix v4)) 16 (
  if w32 (σ.2 7 (ix (σ.2 15 (ix v4)))) = (-1) then (
  gI v4 16 (
  if w32 (bAnd (bShr (σ.2 16 (ix v4)) v5) 1) = 1 then (
  bv (fX11_take σ v4 v5) fun s1 =>
  bd (fX11_most s1 (v4 + 1)) fun a2 s2 =>
  if w32 ((v3 + 1) + a2) = w32 v2 then (
  gI v4 16 (
  gI (s2.2 15 (ix v4)) 16 (
  k216 v2 (v3 + 1) v4 (v5 + 1) (sA s2 7 (ix (s2.2 15 (ix v4))) v5))))
  else (
  bv (fX11_untake s2 v5) fun s3 =>
  k216 v2 v3 v4 (v5 + 1) s3))
  else (
  k216 v2 v3 v4 (v5 + 1) σ)))
  else (
  k204 v2 v3 (v4 + 1) σ))))
noncomputable def fX11_strike_L216 (k204 : Int → Int → Int → St → Option (Int × St)) : Nat → Int → Int → Int → Int → St → Option (Int × St)
  | 0, _, _, _, _, _ => none
  | n + 1, v2, v3, v4, v5, σ => fX11_strike_B216 k204 (fX11_strike_L216 k204 n) v2 v3 v4 v5 σ
noncomputable def fX11_strike_B204 (k204 : Int → Int → Int → St → Option (Int × St)) (v2 : Int) (v3 : Int) (v4 : Int) (σ : St) : Option (Int × St) :=
  if w32 (σ.1 4) ≤ w32 v4 then (
  some (((σ.1 4) - v3), σ))
  else (
  fX11_strike_L216 k204 1000 v2 v3 v4 0 σ)
noncomputable def fX11_strike_L204 : Nat → Int → Int → Int → St → Option (Int × St)
  | 0, _, _, _, _ => none
  | n + 1, v2, v3, v4, σ => fX11_strike_B204 (fX11_strike_L204 n) v2 v3 v4 σ
noncomputable def fX11_strike_B134 (k117 : Int → St → Option (Int × St)) (k134 : Int → Int → St → Option (Int × St)) (v2 : Int) (v3 : Int) (σ : St) : Option (Int × St) :=
  if w32 (σ.1 0) ≤ w32 v3 then (
  k117 (v2 + 1) σ)
  else (
  gI v2 16 (
  bd (fX11_whoHas σ v3) fun a4 s4 =>
  if w32 a4 = (-1) then (
  gI v2 16 (
  bd (fX11_mayLive s4 (s4.2 15 (ix v2)) v3) fun a5 s5 =>
  if w32 a5 = 0 then (
  gI v2 16 (
  k134 v2 (v3 + 1) (sA s5 16 (ix v2) (bOr (σ.2 16 (ix v2)) 0))))
  else (
  gI v2 16 (
  k134 v2 (v3 + 1) (sA s5 16 (ix v2) (bOr (σ.2 16 (ix v2)) (bShl 1 v3)))))))
  else (
  gI v2 16 (
  k134 v2 (v3 + 1) (sA s4 16 (ix v2) (bOr (σ.2 16 (ix v2)) 0))))))
noncomputable def fX11_strike_L134 (k117 : Int → St → Option (Int × St)) : Nat → Int → Int → St → Option (Int × St)
  | 0, _, _, _ => none
  | n + 1, v2, v3, σ => fX11_strike_B134 k117 (fX11_strike_L134 k117 n) v2 v3 σ
noncomputable def fX11_strike_B117 (k117 : Int → St → Option (Int × St)) (v2 : Int) (σ : St) : Option (Int × St) :=
  if w32 (σ.1 4) ≤ w32 v2 then (
  bd (fX11_most σ 0) fun a6 s6 =>
  fX11_strike_L204 1000 a6 0 0 s6)
  else (
  gI v2 16 (
  fX11_strike_L134 k117 1000 v2 0 (sA σ 16 (ix v2) 0)))
noncomputable def fX11_strike_L117 : Nat → Int → St → Option (Int × St)
  | 0, _, _ => none
  | n + 1, v2, σ => fX11_strike_B117 (fX11_strike_L117 n) v2 σ
noncomputable def fX11_strike_B49 (k49 : Int → Int → St → Option (Int × St)) (v1 : Int) (v2 : Int) (σ : St) : Option (Int × St) :=
  if w32 (σ.1 2) ≤ w32 v2 then (
  fX11_strike_L117 1000 0 σ)
  else (
  gI v2 16 (
  if w32 (σ.2 7 (ix v2)) = (-1) then (
  k49 v1 (v2 + 1) σ)
  else (
  gI v2 16 (
  gI (σ.2 7 (ix v2)) 24 (
  if w32 (σ.2 0 (ix (σ.2 7 (ix v2)))) = w32 v1 then (
  gI (σ.1 4) 16 (
  gI v2 16 (
  k49 v1 (v2 + 1) (sA (sF (sA σ 15 (ix (σ.1 4)) v2) 4 (((sA σ 15 (ix (σ.1 4)) v2).1 4) + 1)) 7 (ix v2) (-1)))))
  else (
  k49 v1 (v2 + 1) σ))))))
noncomputable def fX11_strike_L49 : Nat → Int → Int → St → Option (Int × St)
  | 0, _, _, _ => none
  | n + 1, v1, v2, σ => fX11_strike_B49 (fX11_strike_L49 n) v1 v2 σ
noncomputable def fX11_strike_L0 (v1 : Int) (σ : St) : Option (Int × St) :=
  bd (fX11_in σ (w32 v1) 0 7) fun a7 s7 =>
  if w32 a7 = 0 then (
  some ((-2), s7))
  else (
  if w32 (bAnd (bShr (s7.1 1) v1) 1) = 1 then (
  some ((-3), s7))
  else (
  fX11_strike_L49 1000 v1 0 (sF (sF s7 1 (bOr (s7.1 1) (bShl 1 v1))) 4 0)))
noncomputable def fX11_strike (σ : St) (v1 : Int) : Option (Int × St) := fX11_strike_L0 v1 σ
/-! TermLodgingsModel.license(I)I -/
noncomputable def fX11_license_L0 (v1 : Int) (σ : St) : Option (Int × St) :=
  bd (fX11_in σ (w32 v1) 0 7) fun a1 s1 =>
  if w32 a1 = 0 then (
  some ((-2), s1))
  else (
  if w32 (bAnd (bShr (s1.1 1) v1) 1) = 0 then (
  some ((-3), s1))
  else (
  some (1, (sF s1 1 (bAnd (s1.1 1) (bXor (bShl 1 v1) (-1)))))))
noncomputable def fX11_license (σ : St) (v1 : Int) : Option (Int × St) := fX11_license_L0 v1 σ
/-! TermLodgingsModel.away(IZ)I -/
noncomputable def fX11_away_L0 (v1 : Int) (v2 : Int) (σ : St) : Option (Int × St) :=
  bd (fX11_isOne σ v1) fun a1 s1 =>
  if w32 a1 = 0 then (
  some ((-2), s1))
  else (
  gI v1 16 (
  gB v2 (
  some (1, (sA s1 8 (ix v1) v2)))))
noncomputable def fX11_away (σ : St) (v1 : Int) (v2 : Int) : Option (Int × St) := fX11_away_L0 v1 v2 σ
/-! TermLodgingsModel.pass(I)I -/
noncomputable def fX11_pass_B38 (k31 : Int → Int → St → Option (Int × St)) (k38 : Int → Int → Int → St → Option (Int × St)) (v1 : Int) (v2 : Int) (v3 : Int) (σ : St) : Option (Int × St) :=
  if w32 (σ.1 2) ≤ w32 v3 then (
  k31 v1 (v2 + 1) (sF σ 5 ((σ.1 5) + 1)))
  else (
  gI v3 16 (
  gI ((60 * v3) + (σ.1 5)) 960 (
  gI v3 16 (
  gI v3 16 (
  if w32 ((sA σ 21 (ix ((60 * v3) + (σ.1 5))) (σ.2 7 (ix v3))).2 7 (ix v3)) = (-1) then (
  gI v3 16 (
  k38 v1 v2 (v3 + 1) (sA (sA σ 21 (ix ((60 * v3) + (σ.1 5))) (σ.2 7 (ix v3))) 9 (ix v3) (((sA σ 21 (ix ((60 * v3) + (σ.1 5))) (σ.2 7 (ix v3))).2 9 (ix v3)) + 0))))
  else (
  gI v3 16 (
  if w32 ((sA σ 21 (ix ((60 * v3) + (σ.1 5))) (σ.2 7 (ix v3))).2 8 (ix v3)) = 0 then (
  gI v3 16 (
  k38 v1 v2 (v3 + 1) (sA (sA σ 21 (ix ((60 * v3) + (σ.1 5))) (σ.2 7 (ix v3))) 9 (ix v3) (((sA σ 21 (ix ((60 * v3) + (σ.1 5))) (σ.2 7 (ix v3))).2 9 (ix v3)) + 1))))
  else (
  gI v3 16 (
  k38 v1 v2 (v3 + 1) (sA (sA σ 21 (ix ((60 * v3) + (σ.1 5))) (σ.2 7 (ix v3))) 9 (ix v3) (((sA σ 21 (ix ((60 * v3) + (σ.1 5))) (σ.2 7 (ix v3))).2 9 (ix v3)) + 0)))))))))))
noncomputable def fX11_pass_L38 (k31 : Int → Int → St → Option (Int × St)) : Nat → Int → Int → Int → St → Option (Int × St)
  | 0, _, _, _, _ => none
  | n + 1, v1, v2, v3, σ => fX11_pass_B38 k31 (fX11_pass_L38 k31 n) v1 v2 v3 σ
noncomputable def fX11_pass_B31 (k31 : Int → Int → St → Option (Int × St)) (v1 : Int) (v2 : Int) (σ : St) : Option (Int × St) :=
  if w32 v1 ≤ w32 v2 then (
  some ((σ.1 5), σ))
  else (
  fX11_pass_L38 k31 1000 v1 v2 0 σ)
noncomputable def fX11_pass_L31 : Nat → Int → Int → St → Option (Int × St)
  | 0, _, _, _ => none
  | n + 1, v1, v2, σ => fX11_pass_B31 (fX11_pass_L31 n) v1 v2 σ
noncomputable def fX11_pass_L0 (v1 : Int) (σ : St) : Option (Int × St) :=
  bd (fX11_in σ (w32 v1) 1 60) fun a1 s1 =>
  if w32 a1 = 0 then (
  some ((-2), s1))
  else (
  if w32 ((s1.1 5) + v1) ≤ 60 then (
  fX11_pass_L31 1000 v1 0 s1)
  else (
  some ((-4), s1)))
noncomputable def fX11_pass (σ : St) (v1 : Int) : Option (Int × St) := fX11_pass_L0 v1 σ
/-! TermLodgingsModel.price(III)I -/
noncomputable def fX11_price_L0 (v1 : Int) (v2 : Int) (v3 : Int) (σ : St) : Option (Int × St) :=
  bd (fX11_in σ (w32 v1) 0 7) fun a1 s1 =>
  if w32 a1 = 0 then (
  some ((-2), s1))
  else (
  bd (fX11_in s1 (w32 v2) 0 59) fun a2 s2 =>
  if w32 a2 = 0 then (
  some ((-2), s2))
  else (
  bd (fX11_in s2 (w32 v3) 0 999) fun a3 s3 =>
  if w32 a3 = 0 then (
  some ((-2), s3))
  else (
  if w32 (s3.1 6) = 40 then (
  some ((-4), s3))
  else (
  gI (s3.1 6) 40 (
  gI ((sA s3 22 (ix (s3.1 6)) v1).1 6) 40 (
  gI ((sA (sA s3 22 (ix (s3.1 6)) v1) 23 (ix ((sA s3 22 (ix (s3.1 6)) v1).1 6)) v2).1 6) 40 (
  some (((sF (sA (sA (sA s3 22 (ix (s3.1 6)) v1) 23 (ix ((sA s3 22 (ix (s3.1 6)) v1).1 6)) v2) 24 (ix ((sA (sA s3 22 (ix (s3.1 6)) v1) 23 (ix ((sA s3 22 (ix (s3.1 6)) v1).1 6)) v2).1 6)) v3) 6 (((sA (sA (sA s3 22 (ix (s3.1 6)) v1) 23 (ix ((sA s3 22 (ix (s3.1 6)) v1).1 6)) v2) 24 (ix ((sA (sA s3 22 (ix (s3.1 6)) v1) 23 (ix ((sA s3 22 (ix (s3.1 6)) v1).1 6)) v2).1 6)) v3).1 6) + 1)).1 6), (sF (sA (sA (sA s3 22 (ix (s3.1 6)) v1) 23 (ix ((sA s3 22 (ix (s3.1 6)) v1).1 6)) v2) 24 (ix ((sA (sA s3 22 (ix (s3.1 6)) v1) 23 (ix ((sA s3 22 (ix (s3.1 6)) v1).1 6)) v2).1 6)) v3) 6 (((sA (sA (sA s3 22 (ix (s3.1 6)) v1) 23 (ix ((sA s3 22 (ix (s3.1 6)) v1).1 6)) v2) 24 (ix ((sA (sA s3 22 (ix (s3.1 6)) v1) 23 (ix ((sA s3 22 (ix (s3.1 6)) v1).1 6)) v2).1 6)) v3).1 6) + 1))))))))))
noncomputable def fX11_price (σ : St) (v1 : Int) (v2 : Int) (v3 : Int) : Option (Int × St) := fX11_price_L0 v1 v2 v3 σ
/-! TermLodgingsModel.priceOf(III)I -/
noncomputable def fX11_priceOf_B6 (k6 : Int → Int → Int → Int → Int → St → Option (Int × St)) (v1 : Int) (v2 : Int) (v3 : Int) (v4 : Int) (v5 : Int) (σ : St) : Option (Int × St) :=
  if w32 v3 ≤ w32 v5 then (
  if w32 v4 = (-1) then (
  some (0, σ))
  else (
  gI v4 40 (
  some ((σ.2 24 (ix v4)), σ))))
  else (
  gI v5 40 (
  if w32 (σ.2 22 (ix v5)) = w32 v1 then (
  gI v5 40 (
  if w32 v2 < w32 (σ.2 23 (ix v5)) then (
  k6 v1 v2 v3 v4 (v5 + 1) σ)
  else (
  if w32 v4 = (-1) then (
  k6 v1 v2 v3 v5 (v5 + 1) σ)
  else (
  gI v5 40 (
  gI v4 40 (
  if w32 (σ.2 23 (ix v5)) < w32 (σ.2 23 (ix v4)) then (
  k6 v1 v2 v3 v4 (v5 + 1) σ)
  else (
  k6 v1 v2 v3 v5 (v5 + 1) σ)))))))
  else (
  k6 v1 v2 v3 v4 (v5 + 1) σ)))
noncomputable def fX11_priceOf_L6 : Nat → Int → Int → Int → Int → Int → St → Option (Int × St)
  | 0, _, _, _, _, _, _ => none
  | n + 1, v1, v2, v3, v4, v5, σ => fX11_priceOf_B6 (fX11_priceOf_L6 n) v1 v2 v3 v4 v5 σ
noncomputable def fX11_priceOf_L0 (v1 : Int) (v2 : Int) (v3 : Int) (σ : St) : Option (Int × St) :=
  fX11_priceOf_L6 1000 v1 v2 v3 (-1) 0 σ
noncomputable def fX11_priceOf (σ : St) (v1 : Int) (v2 : Int) (v3 : Int) : Option (Int × St) := fX11_priceOf_L0 v1 v2 v3 σ
/-! TermLodgingsModel.priced(II)I -/
noncomputable def fX11_priced_L0 (v1 : Int) (v2 : Int) (σ : St) : Option (Int × St) :=
  bd (fX11_in σ (w32 v1) 0 7) fun a1 s1 =>
  if w32 a1 = 0 then (
  some ((-2), s1))
  else (
  bd (fX11_in s1 (w32 v2) 0 59) fun a2 s2 =>
  if w32 a2 = 0 then (
  some ((-2), s2))
  else (
  bd (fX11_priceOf s2 v1 v2 (s2.1 6)) fun a3 s3 =>
  some (a3, s3)))
noncomputable def fX11_priced (σ : St) (v1 : Int) (v2 : Int) : Option (Int × St) := fX11_priced_L0 v1 v2 σ
/-! TermLodgingsModel.had(II)I -/
noncomputable def fX11_had_L0 (v1 : Int) (v2 : Int) (σ : St) : Option (Int × St) :=
  bd (fX11_isOne σ v1) fun a1 s1 =>
  if w32 a1 = 0 then (
  some ((-2), s1))
  else (
  bd (fX11_in s1 (w32 v2) 0 (w32 ((s1.1 5) - 1))) fun a2 s2 =>
  if w32 a2 = 0 then (
  some ((-2), s2))
  else (
  gI ((60 * v1) + v2) 960 (
  some ((s2.2 21 (ix ((60 * v1) + v2))), s2))))
noncomputable def fX11_had (σ : St) (v1 : Int) (v2 : Int) : Option (Int × St) := fX11_had_L0 v1 v2 σ
/-! TermLodgingsModel.billOf(II)I -/
noncomputable def fX11_billOf_B5 (k5 : Int → Int → Int → Int → St → Option (Int × St)) (v1 : Int) (v2 : Int) (v3 : Int) (v4 : Int) (σ : St) : Option (Int × St) :=
  if w32 (σ.1 5) ≤ w32 v4 then (
  some (v3, σ))
  else (
  gI ((60 * v1) + v4) 960 (
  if w32 (σ.2 21 (ix ((60 * v1) + v4))) = (-1) then (
  k5 v1 v2 (v3 + 0) (v4 + 1) σ)
  else (
  gI (σ.2 21 (ix ((60 * v1) + v4))) 24 (
  bd (fX11_priceOf σ (σ.2 0 (ix (σ.2 21 (ix ((60 * v1) + v4))))) v4 v2) fun a1 s1 =>
  k5 v1 v2 (v3 + a1) (v4 + 1) s1))))
noncomputable def fX11_billOf_L5 : Nat → Int → Int → Int → Int → St → Option (Int × St)
  | 0, _, _, _, _, _ => none
  | n + 1, v1, v2, v3, v4, σ => fX11_billOf_B5 (fX11_billOf_L5 n) v1 v2 v3 v4 σ
noncomputable def fX11_billOf_L0 (v1 : Int) (v2 : Int) (σ : St) : Option (Int × St) :=
  fX11_billOf_L5 1000 v1 v2 0 0 σ
noncomputable def fX11_billOf (σ : St) (v1 : Int) (v2 : Int) : Option (Int × St) := fX11_billOf_L0 v1 v2 σ
/-! TermLodgingsModel.bill(I)I -/
noncomputable def fX11_bill_L0 (v1 : Int) (σ : St) : Option (Int × St) :=
  bd (fX11_isOne σ v1) fun a1 s1 =>
  if w32 a1 = 0 then (
  some ((-2), s1))
  else (
  bd (fX11_billOf s1 v1 (s1.1 6)) fun a2 s2 =>
  some (a2, s2))
noncomputable def fX11_bill (σ : St) (v1 : Int) : Option (Int × St) := fX11_bill_L0 v1 σ
/-! TermLodgingsModel.matter()I -/
noncomputable def fX11_matter_B14 (k14 : Int → Int → St → Option (Int × St)) (v1 : Int) (v2 : Int) (σ : St) : Option (Int × St) :=
  if w32 (σ.1 2) ≤ w32 v2 then (
  some (v1, σ))
  else (
  bd (fX11_billOf σ v2 ((σ.1 6) - 1)) fun a1 s1 =>
  bd (fX11_billOf s1 v2 (s1.1 6)) fun a2 s2 =>
  k14 (v1 + (a1 - a2)) (v2 + 1) s2)
noncomputable def fX11_matter_L14 : Nat → Int → Int → St → Option (Int × St)
  | 0, _, _, _ => none
  | n + 1, v1, v2, σ => fX11_matter_B14 (fX11_matter_L14 n) v1 v2 σ
noncomputable def fX11_matter_L0 (σ : St) : Option (Int × St) :=
  if w32 (σ.1 6) = 0 then (
  some ((-2147483648), σ))
  else (
  fX11_matter_L14 1000 0 0 σ)
noncomputable def fX11_matter (σ : St) : Option (Int × St) := fX11_matter_L0 σ
/-! TermLodgingsModel.count(I)I -/
noncomputable def fX11_count_B61 (k61 : Int → Int → St → Option (Int × St)) (v2 : Int) (v3 : Int) (σ : St) : Option (Int × St) :=
  if 8 ≤ w32 v3 then (
  some (v2, σ))
  else (
  k61 (v2 + (bAnd (bShr (σ.1 1) v3) 1)) (v3 + 1) σ)
noncomputable def fX11_count_L61 : Nat → Int → Int → St → Option (Int × St)
  | 0, _, _, _ => none
  | n + 1, v2, v3, σ => fX11_count_B61 (fX11_count_L61 n) v2 v3 σ
noncomputable def fX11_count_L0 (v1 : Int) (σ : St) : Option (Int × St) :=
  if w32 v1 = 0 then (
  some ((σ.1 0), σ))
  else (if w32 v1 = 1 then (
  some ((σ.1 2), σ))
  else (if w32 v1 = 2 then (
  some ((σ.1 3), σ))
  else (if w32 v1 = 3 then (
  fX11_count_L61 1000 0 0 σ)
  else (if w32 v1 = 4 then (
  some ((σ.1 5), σ))
  else (if w32 v1 = 5 then (
  some ((σ.1 6), σ))
  else (if w32 v1 = 6 then (
  bd (fX11_housed σ) fun a1 s1 =>
  some (a1, s1))
  else (some ((-2), σ))))))))
noncomputable def fX11_count (σ : St) (v1 : Int) : Option (Int × St) := fX11_count_L0 v1 σ
/-! TermLodgingsModel.digest()J -/
noncomputable def fX11_digest_B123 (k123 : Int → Int → St → Option (Int × St)) (v1 : Int) (v3 : Int) (σ : St) : Option (Int × St) :=
  if 3 ≤ w32 v3 then (
  some (v1, σ))
  else (
  gI v3 3 (
  k123 ((31 * v1) + (w32 (σ.2 12 (ix v3)))) (v3 + 1) σ))
noncomputable def fX11_digest_L123 : Nat → Int → Int → St → Option (Int × St)
  | 0, _, _, _ => none
  | n + 1, v1, v3, σ => fX11_digest_B123 (fX11_digest_L123 n) v1 v3 σ
noncomputable def fX11_digest_B93 (k93 : Int → Int → St → Option (Int × St)) (v1 : Int) (v3 : Int) (σ : St) : Option (Int × St) :=
  if w32 (σ.1 2) ≤ w32 v3 then (
  fX11_digest_L123 1000 v1 0 σ)
  else (
  gI v3 16 (
  k93 ((31 * v1) + (w32 (σ.2 10 (ix v3)))) (v3 + 1) σ))
noncomputable def fX11_digest_L93 : Nat → Int → Int → St → Option (Int × St)
  | 0, _, _, _ => none
  | n + 1, v1, v3, σ => fX11_digest_B93 (fX11_digest_L93 n) v1 v3 σ
noncomputable def fX11_digest_B44 (k33 : Int → Int → St → Option (Int × St)) (k44 : Int → Int → Int → St → Option (Int × St)) (v1 : Int) (v3 : Int) (v4 : Int) (σ : St) : Option (Int × St) :=
  if 6 ≤ w32 v4 then (
  bd (fX11_bill σ v3) fun a1 s1 =>
  k33 ((31 * v1) + (w32 a1)) (v3 + 1) s1)
  else (
  bd (fX11_about σ v3 v4) fun a2 s2 =>
  k44 ((31 * v1) + (w32 a2)) v3 (v4 + 1) s2)
noncomputable def fX11_digest_L44 (k33 : Int → Int → St → Option (Int × St)) : Nat → Int → Int → Int → St → Option (Int × St)
  | 0, _, _, _, _ => none
  | n + 1, v1, v3, v4, σ => fX11_digest_B44 k33 (fX11_digest_L44 k33 n) v1 v3 v4 σ
noncomputable def fX11_digest_B33 (k33 : Int → Int → St → Option (Int × St)) (v1 : Int) (v3 : Int) (σ : St) : Option (Int × St) :=
  if w32 (σ.1 2) ≤ w32 v3 then (
  fX11_digest_L93 1000 v1 0 σ)
  else (
  fX11_digest_L44 k33 1000 v1 v3 1 σ)
noncomputable def fX11_digest_L33 : Nat → Int → Int → St → Option (Int × St)
  | 0, _, _, _ => none
  | n + 1, v1, v3, σ => fX11_digest_B33 (fX11_digest_L33 n) v1 v3 σ
noncomputable def fX11_digest_B6 (k6 : Int → Int → St → Option (Int × St)) (v1 : Int) (v3 : Int) (σ : St) : Option (Int × St) :=
  if 7 ≤ w32 v3 then (
  fX11_digest_L33 1000 v1 0 σ)
  else (
  bd (fX11_count σ v3) fun a3 s3 =>
  k6 ((31 * v1) + (w32 a3)) (v3 + 1) s3)
noncomputable def fX11_digest_L6 : Nat → Int → Int → St → Option (Int × St)
  | 0, _, _, _ => none
  | n + 1, v1, v3, σ => fX11_digest_B6 (fX11_digest_L6 n) v1 v3 σ
noncomputable def fX11_digest_L0 (σ : St) : Option (Int × St) :=
  fX11_digest_L6 1000 17 0 σ
noncomputable def fX11_digest (σ : St) : Option (Int × St) := fX11_digest_L0 σ
