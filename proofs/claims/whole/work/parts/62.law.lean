/-! ===== the law: class and reference side by side ===== -/
section LAWR
theorem P_left {D : va_G} {cl : List vw_C} {x y : va_W} {H : Heap} (h : va_P D cl (x ++ y) H) : va_P D cl x H := by
  intro k q hq
  have hl : k < x.length := (List.getElem?_eq_some_iff.mp hq).1
  exact h k q (by rw [List.getElem?_append_left hl]; exact hq)
theorem P_right {D : va_G} {cl : List vw_C} {x y : va_W} {H : Heap} (h : va_P D cl (x ++ y) H) : va_P D cl y H := by
  intro k q hq
  exact h (x.length + k) q (by rw [List.getElem?_append_right (by omega), show x.length + k - x.length = k by omega]; exact hq)
theorem D_left {A : Nat → Prop} {x y : va_W} (h : va_D A (x ++ y)) : va_D A x := by
  refine ⟨fun i j p q hi hj e => ?_, fun k q hk => ?_⟩
  · have li : i < x.length := (List.getElem?_eq_some_iff.mp hi).1
    have lj : j < x.length := (List.getElem?_eq_some_iff.mp hj).1
    exact h.1 i j p q (by rw [List.getElem?_append_left li]; exact hi) (by rw [List.getElem?_append_left lj]; exact hj) e
  · have lk : k < x.length := (List.getElem?_eq_some_iff.mp hk).1
    exact h.2 k q (by rw [List.getElem?_append_left lk]; exact hk)
theorem D_right {A : Nat → Prop} {x y : va_W} (h : va_D A (x ++ y)) : va_D A y := by
  have up : ∀ (k : Nat) (q : Nat × va_E), y[k]? = some q → (x ++ y)[x.length + k]? = some q := fun k q hq => by
    rw [List.getElem?_append_right (by omega), show x.length + k - x.length = k by omega]; exact hq
  refine ⟨fun i j p q hi hj e => ?_, fun k q hk => h.2 _ q (up k q hk)⟩
  have := h.1 _ _ p q (up i p hi) (up j q hj) e
  omega
theorem D_apart {A : Nat → Prop} {x y : va_W} (h : va_D A (x ++ y)) : ∀ (i j : Nat) (p q : Nat × va_E), x[i]? = some p → y[j]? = some q → p.1 ≠ q.1 := by
  intro i j p q hi hj e
  have li : i < x.length := (List.getElem?_eq_some_iff.mp hi).1
  have := h.1 i (x.length + j) p q (by rw [List.getElem?_append_left li]; exact hi) (by rw [List.getElem?_append_right (by omega), show x.length + j - x.length = j by omega]; exact hj) e
  omega
theorem join_app {A0 : Nat → Prop} {D : va_G} {cl : List vw_C} {wc wr w1 : va_W} {H H1 : Heap} (hP : va_P D cl (wc ++ wr) H) (hD : va_D A0 (wc ++ wr)) (hk : ∀ q : Nat, q < H.size → ¬ va_A wc H.size q → H1[q]? = H[q]?) (hF : ∀ q, va_A wc H.size q → A0 q) (hP1 : va_P D cl w1 H1) (hD1 : va_D (va_A wc H.size) w1) : va_P D cl (w1 ++ wr) H1 ∧ va_D A0 (w1 ++ wr) := by
  have apart : ∀ (k : Nat) (q : Nat × va_E), wr[k]? = some q → q.1 < H.size ∧ ¬ va_A wc H.size q.1 := by
    intro k q hq
    have hl := (P_right hP k q hq).lt
    refine ⟨hl, fun h => ?_⟩
    rcases h with ⟨k2, e, h⟩ | h
    · exact D_apart hD k2 k (q.1, e) q h hq rfl
    · omega
  refine ⟨va_P.app hP1 (fun k q hq => ?_), va_D.app (hD1.weaken (fun k q _ h => hF q.1 h)) (D_right hD) (fun i j x y hx hy hxy => ?_)⟩
  · obtain ⟨g1, g2⟩ := apart k q hq
    exact (P_right hP k q hq).kept (hk q.1 g1 g2)
  · exact (apart j y hy).2 (by rw [← hxy]; exact hD1.2 i x hx)
end LAWR
section LAWC
variable {Γ : Cx} {ws wr : va_W} {pc mL : Nat} {lv : List (Nat × Value)} {r : List Value} {cI cZ : ClassId} {rm rmc : Room} {cc b : ByteArray} {own Cn : String} {a N idx q0 ci n mLc : Nat} {fs As rest st : List Value} {T : u_T} {rt : FieldType} {y : MethodName} {S1 : Type} {w1 : S1 → va_W} {σ σ1 : S1} {r1 : Int}
theorem l_swap {x y : va_W} (k : JJ wI Γ (y ++ x) pc lv st) : JJ wI Γ (x ++ y) pc lv st := by
  obtain ⟨p, l, e, R, s, m, args, below, meth, c, D, A, nL, Q, cs, ss⟩ := Γ
  exact fun H locs ls hP hD hS hl => k H locs ls (va_P.app (P_right hP) (P_left hP)) (va_D.app (D_right hD) (D_left hD) (fun i j p q hi hj e => D_apart hD j i q p hj hi e.symm)) hS hl
theorem l_perm {ws' : va_W} (is : List Nat) (h1 : is.map (fun i => ws[i]?) = ws'.map some) (hn : va_nd is = true) (k : JJ wI Γ ws' pc lv st) : JJ wI Γ ws pc lv st := by
  obtain ⟨p, l, e, R, s, m, args, below, meth, c, D, A, nL, Q, cs, ss⟩ := Γ
  refine fun H locs ls hP hD hS hl => k H locs ls (fun j q hq => ?_) (hD.sub is hn h1) hS hl
  have h2 : (is.map (fun i => ws[i]?))[j]? = some (some q) := by rw [h1, List.getElem?_map, show ws'[j]? = some q from hq]; rfl
  rw [List.getElem?_map] at h2
  cases hi : is[j]? with
  | none => rw [hi] at h2; cases h2
  | some i => rw [hi] at h2; exact hP i q (Option.some.inj h2)
theorem l_cVi (As rest : List Value) (C : CX cI cZ rm mL Γ cc own) (hM : McI (gl Γ) y b mLc rt rmc (gD Γ) (tyL cI cZ) w1 (.ref a :: As) σ r1 σ1) (mf : MF y b mLc (some rt) n) (lk : Cond.methodLink own idx y ∈ gw_tbl) (hi : Cond.instanceMethod y ∈ gw_tbl) (hs : Cond.selects Cn y y ∈ gw_tbl) (he : (w1 σ)[q0]? = some (a, .inr (ci, fs))) (hc : vwCl[ci]? = some (Cn, T, N)) (hn : As.length = n) (hrm : rmc.cells = 0 ∧ rmc.slots = 0 ∧ rmc.frames + 1 ≤ rm.frames ∧ 8 + (mLc + 11) + rmc.locals ≤ rm.locals) (hst : st = As.reverse ++ .ref a :: rest) (hcat : (rest.map fun v => v.category).sum ≤ 8) (hd : decode cc pc = .ok (.invokevirtual idx, 3)) (k : JJ wI Γ (w1 σ1 ++ wr) (pc + 3) lv (.int (iI r1) :: rest)) : JJ wI Γ (w1 σ ++ wr) pc lv st := by
  obtain ⟨p, l, e, R, s, m, args, below, meth, c, D, A, nL, Q, cs, ss⟩ := Γ
  obtain ⟨hx, hb, hml, hown, hts, hK, hN, hA, hR, hnL, hcs, hss⟩ := C
  subst hR
  subst hst
  obtain ⟨mc, mi, m1, m2, m3, m4⟩ := mf
  intro H locs ls hP0 hD0 hS hl
  have hP := P_left hP0
  have hD := D_left hD0
  have hFc : ∀ q, va_A (w1 σ) H.size q → A q := by
    rintro q (⟨k2, e2, h⟩ | h)
    · exact hD.2 k2 _ h
    · exact hA q (Nat.le_trans hS.1 h)
  have hG : GoodIn gw_tbl (Cond.code y b mLc (some rt) :: gw_tbl) := by
    intro w2 h2
    rcases List.mem_cons.mp h2 with rfl | h2
    · exact ⟨mc, gw_ok mc⟩
    · exact ⟨h2, gw_ok h2⟩
  have cw : CallW R s args own Cn idx y b mLc (some rt) (Cond.code y b mLc (some rt) :: gw_tbl) rmc 0 0 n := ⟨callB_of n hts hG rfl hrm.1 hrm.2.1 (hts _ mi) (hts _ lk) ⟨m1, m2, m3⟩ hrm.2.2, hts _ hi, hts _ hs⟩
  refine va_calli (va_runV (As := As) (rest := rest) ⟨hx, hb, hml, hown, hts⟩ (hM H.size) cw ⟨blindJ, va_recv hK hP hc he, fun U hU hW => ⟨rfl, by rw [hU], by rw [hU]; exact hP, va_K.moved hW.alike hK, hD.weaken (fun _ _ _ _ => trivial), NW.warm hW hN⟩⟩ rfl hn hl.1 rfl (lv_room hcat) hd ⟨hcs, hss⟩) hS (fun q _ h => hFc q h) hFc (fun r2 u t H1 locs1 ht hvm hw hB hz1 hk1 hS1 => ?_)
  subst hw
  obtain ⟨hP1, hK1, hD1⟩ := hB
  rw [ht] at hP1
  obtain ⟨hP2, hD2⟩ := join_app hP0 hD0 hk1 hFc hP1 hD1
  exact k H1 locs1 ls hP2 hD2 hS1 hl
theorem l_cVl (As rest : List Value) (C : CX cI cZ rm mL Γ cc own) (hM : McL (gl Γ) y b mLc rmc (gD Γ) (tyL cI cZ) w1 (.ref a :: As) σ r1 σ1) (mf : MF y b mLc (some .long) n) (lk : Cond.methodLink own idx y ∈ gw_tbl) (hi : Cond.instanceMethod y ∈ gw_tbl) (hs : Cond.selects Cn y y ∈ gw_tbl) (he : (w1 σ)[q0]? = some (a, .inr (ci, fs))) (hc : vwCl[ci]? = some (Cn, T, N)) (hn : As.length = n) (hrm : rmc.cells = 0 ∧ rmc.slots = 0 ∧ rmc.frames + 1 ≤ rm.frames ∧ 8 + (mLc + 11) + rmc.locals ≤ rm.locals) (hst : st = As.reverse ++ .ref a :: rest) (hcat : (rest.map fun v => v.category).sum ≤ 8) (hd : decode cc pc = .ok (.invokevirtual idx, 3)) (k : JJ wI Γ (w1 σ1 ++ wr) (pc + 3) lv (.long (iL r1) :: rest)) : JJ wI Γ (w1 σ ++ wr) pc lv st := by
  obtain ⟨p, l, e, R, s, m, args, below, meth, c, D, A, nL, Q, cs, ss⟩ := Γ
  obtain ⟨hx, hb, hml, hown, hts, hK, hN, hA, hR, hnL, hcs, hss⟩ := C
  subst hR
  subst hst
  obtain ⟨mc, mi, m1, m2, m3, m4⟩ := mf
  intro H locs ls hP0 hD0 hS hl
  have hP := P_left hP0
  have hD := D_left hD0
  have hFc : ∀ q, va_A (w1 σ) H.size q → A q := by
    rintro q (⟨k2, e2, h⟩ | h)
    · exact hD.2 k2 _ h
    · exact hA q (Nat.le_trans hS.1 h)
  have hG : GoodIn gw_tbl (Cond.code y b mLc (some .long) :: gw_tbl) := by
    intro w2 h2
    rcases List.mem_cons.mp h2 with rfl | h2
    · exact ⟨mc, gw_ok mc⟩
    · exact ⟨h2, gw_ok h2⟩
  have cw : CallW R s args own Cn idx y b mLc (some .long) (Cond.code y b mLc (some .long) :: gw_tbl) rmc 0 0 n := ⟨callB_of n hts hG rfl hrm.1 hrm.2.1 (hts _ mi) (hts _ lk) ⟨m1, m2, m3⟩ hrm.2.2, hts _ hi, hts _ hs⟩
  refine va_calll (va_runV (As := As) (rest := rest) ⟨hx, hb, hml, hown, hts⟩ (hM H.size) cw ⟨blindJ, va_recv hK hP hc he, fun U hU hW => ⟨rfl, by rw [hU], by rw [hU]; exact hP, va_K.moved hW.alike hK, hD.weaken (fun _ _ _ _ => trivial), NW.warm hW hN⟩⟩ rfl hn hl.1 rfl (lv_room hcat) hd ⟨hcs, hss⟩) hS (fun q _ h => hFc q h) hFc (fun r2 u t H1 locs1 ht hvm hw hB hz1 hk1 hS1 => ?_)
  subst hw
  obtain ⟨hP1, hK1, hD1⟩ := hB
  rw [ht] at hP1
  obtain ⟨hP2, hD2⟩ := join_app hP0 hD0 hk1 hFc hP1 hD1
  exact k H1 locs1 ls hP2 hD2 hS1 hl
/-- the script -/
def SX (Γ : Cx) (b L : Nat) (X : Nat → Int) : Prop := (∃ xs : Nat → Int32, (∀ j : Nat, xs j = iI (X j)) ∧ va_X b L xs Γ.2.2.2.2.1 Γ.2.2.2.2.1.heap) ∧ b < Γ.2.2.2.2.1.heap.size ∧ ¬ Γ.2.2.2.2.2.2.2.2.2.2.2.1 b
theorem l_sld {b L : Nat} {X : Nat → Int} {i : Int} (hX : SX Γ b L X) (C : CX cI cZ rm mL Γ cc own) (hi : inB i L) (hd : decode cc pc = .ok (.iaload, 1)) (k : JJ wI Γ ws (pc + 1) lv (.int (iI (X (ix i))) :: r)) : JJ wI Γ ws pc lv (.int (iI i) :: .ref b :: r) := by
  obtain ⟨p, l, e, R, s, m, args, below, meth, c, D, A, nL, Q, cs, ss⟩ := Γ
  obtain ⟨⟨xs, h1, h2⟩, h3, h4⟩ := hX
  exact fun H locs ls hP hD hS hl => va_sld C.1 C.2.1 h2 h3 h4 hS (inB_in hi) hd (by rw [iI_ix, h1]; exact k H locs ls hP hD hS hl)
theorem l_slen {b L : Nat} {X : Nat → Int} (hX : SX Γ b L X) (C : CX cI cZ rm mL Γ cc own) (hd : decode cc pc = .ok (.arraylength, 1)) (k : JJ wI Γ ws (pc + 1) lv (.int (iI (L : Int)) :: r)) : JJ wI Γ ws pc lv (.ref b :: r) := by
  obtain ⟨p, l, e, R, s, m, args, below, meth, c, D, A, nL, Q, cs, ss⟩ := Γ
  obtain ⟨⟨xs, h1, h2⟩, h3, h4⟩ := hX
  refine fun H locs ls hP hD hS hl => va_slen C.1 C.2.1 h2 h3 h4 hS hd ?_
  rw [show Int32.ofNat L = iI (L : Int) from (Int32.ofInt_eq_ofNat).symm]
  exact k H locs ls hP hD hS hl
theorem cmpL_0 (x : Int) : w32 (cmpL x x) = 0 := by
  unfold cmpL
  rw [if_neg (by omega), if_pos rfl]
  exact w32_eq (by omega)
end LAWC

set_option maxRecDepth 100000 in
theorem law_0 {Γ : Cx} {cI cZ : ClassId} {ad ae : Nat → Nat} {b L i : Nat} {X : Nat → Int} {σ ρ : St} (C : CX cI cZ room_1 4 Γ code RL) (hX : SX Γ b L X) (hr : ∀ j : Nat, rg (X j)) (hI1 : inB ((i : Int) + 1) L) (hI2 : inB ((i : Int) + 2) L) (hI3 : inB ((i : Int) + 3) L) (hv : Inv σ ρ) (hk : ∀ σ' ρ' : St, Inv σ' ρ' → JJ wI Γ (wC ad cI cZ σ' ++ wR ae cI cZ ρ') 918 [(0, .ref b), (1, .ref (ad 0)), (2, .ref (ae 0)), (3, .int (iI (i : Int)))] []) : JJ wI Γ (wC ad cI cZ σ ++ wR ae cI cZ ρ) 164 [(0, .ref b), (1, .ref (ad 0)), (2, .ref (ae 0)), (3, .int (iI (i : Int)))] [] := by
  obtain ⟨r, σ', ρ', e1, e2, hv'⟩ := op_room hv (a := X (ix ((i : Int) + 1))) (b := X (ix ((i : Int) + 2))) (c := X (ix ((i : Int) + 3))) (hr _) (hr _) (hr _)
  refine j_aload_n 1 C dL_law_164 rfl ?_
  refine j_aload_n 0 C dL_law_165 rfl ?_
  refine j_iload_n 3 C dL_law_166 rfl ?_
  refine j_iconst C dL_law_167 ?_
  refine j_iadd C dL_law_168 ?_
  refine l_sld hX C hI1 dL_law_169 ?_
  refine j_aload_n 0 C dL_law_170 rfl ?_
  refine j_iload_n 3 C dL_law_171 rfl ?_
  refine j_iconst C dL_law_172 ?_
  refine j_iadd C dL_law_173 ?_
  refine l_sld hX C hI2 dL_law_174 ?_
  refine j_aload_n 0 C dL_law_175 rfl ?_
  refine j_iload_n 3 C dL_law_176 rfl ?_
  refine j_iconst C dL_law_177 ?_
  refine j_iadd C dL_law_178 ?_
  refine l_sld hX C hI3 dL_law_179 ?_
  refine l_cVi (w1 := wC ad cI cZ) (q0 := 0) (ci := 10) (T := TX10) (N := 10) [.int (iI (X (ix ((i : Int) + 1)))), .int (iI (X (ix ((i : Int) + 2)))), .int (iI (X (ix ((i : Int) + 3))))] [] C (c_X10_room _ _ ad cI cZ _ _ _ _ _ _ e1) mf_X10_room wt_358 wt_359 wt_360 rfl rfl rfl ⟨rfl, rfl, by decide, by decide⟩ rfl (Nat.le_of_ble_eq_true rfl) dL_law_180 ?_
  refine j_aload_n 2 C dL_law_183 rfl ?_
  refine j_aload_n 0 C dL_law_184 rfl ?_
  refine j_iload_n 3 C dL_law_185 rfl ?_
  refine j_iconst C dL_law_186 ?_
  refine j_iadd C dL_law_187 ?_
  refine l_sld hX C hI1 dL_law_188 ?_
  refine j_aload_n 0 C dL_law_189 rfl ?_
  refine j_iload_n 3 C dL_law_190 rfl ?_
  refine j_iconst C dL_law_191 ?_
  refine j_iadd C dL_law_192 ?_
  refine l_sld hX C hI2 dL_law_193 ?_
  refine j_aload_n 0 C dL_law_194 rfl ?_
  refine j_iload_n 3 C dL_law_195 rfl ?_
  refine j_iconst C dL_law_196 ?_
  refine j_iadd C dL_law_197 ?_
  refine l_sld hX C hI3 dL_law_198 ?_
  refine l_swap ?_
  refine l_cVi (w1 := wR ae cI cZ) (q0 := 0) (ci := 11) (T := TX11) (N := 32) [.int (iI (X (ix ((i : Int) + 1)))), .int (iI (X (ix ((i : Int) + 2)))), .int (iI (X (ix ((i : Int) + 3))))] [.int (iI r)] C (c_X11_room _ _ ae cI cZ _ _ _ _ _ _ e2) mf_X11_room wt_931 wt_932 wt_933 rfl rfl rfl ⟨rfl, rfl, by decide, by decide⟩ rfl (Nat.le_of_ble_eq_true rfl) dL_law_199 ?_
  refine l_swap ?_
  refine j_icmp_eq 918 C rfl rfl dL_law_202 (by decide) (fun _ => ?_) (fun h0 => absurd rfl h0)
  exact hk σ' ρ' hv'
set_option maxRecDepth 100000 in
theorem law_1 {Γ : Cx} {cI cZ : ClassId} {ad ae : Nat → Nat} {b L i : Nat} {X : Nat → Int} {σ ρ : St} (C : CX cI cZ room_1 4 Γ code RL) (hX : SX Γ b L X) (hr : ∀ j : Nat, rg (X j)) (hI1 : inB ((i : Int) + 1) L) (hI2 : inB ((i : Int) + 2) L) (hI3 : inB ((i : Int) + 3) L) (hv : Inv σ ρ) (hk : ∀ σ' ρ' : St, Inv σ' ρ' → JJ wI Γ (wC ad cI cZ σ' ++ wR ae cI cZ ρ') 918 [(0, .ref b), (1, .ref (ad 0)), (2, .ref (ae 0)), (3, .int (iI (i : Int)))] []) : JJ wI Γ (wC ad cI cZ σ ++ wR ae cI cZ ρ) 207 [(0, .ref b), (1, .ref (ad 0)), (2, .ref (ae 0)), (3, .int (iI (i : Int)))] [] := by
  obtain ⟨r, σ', ρ', e1, e2, hv'⟩ := op_person hv (a := X (ix ((i : Int) + 1))) (b := X (ix ((i : Int) + 2))) (hr _) (hr _)
  refine j_aload_n 1 C dL_law_207 rfl ?_
  refine j_aload_n 0 C dL_law_208 rfl ?_
  refine j_iload_n 3 C dL_law_209 rfl ?_
  refine j_iconst C dL_law_210 ?_
  refine j_iadd C dL_law_211 ?_
  refine l_sld hX C hI1 dL_law_212 ?_
  refine j_aload_n 0 C dL_law_213 rfl ?_
  refine j_iload_n 3 C dL_law_214 rfl ?_
  refine j_iconst C dL_law_215 ?_
  refine j_iadd C dL_law_216 ?_
  refine l_sld hX C hI2 dL_law_217 ?_
  refine l_cVi (w1 := wC ad cI cZ) (q0 := 0) (ci := 10) (T := TX10) (N := 10) [.int (iI (X (ix ((i : Int) + 1)))), .int (iI (X (ix ((i : Int) + 2))))] [] C (c_X10_person _ _ ad cI cZ _ _ _ _ _ e1) mf_X10_person wt_369 wt_370 wt_371 rfl rfl rfl ⟨rfl, rfl, by decide, by decide⟩ rfl (Nat.le_of_ble_eq_true rfl) dL_law_218 ?_
  refine j_aload_n 2 C dL_law_221 rfl ?_
  refine j_aload_n 0 C dL_law_222 rfl ?_
  refine j_iload_n 3 C dL_law_223 rfl ?_
  refine j_iconst C dL_law_224 ?_
  refine j_iadd C dL_law_225 ?_
  refine l_sld hX C hI1 dL_law_226 ?_
  refine j_aload_n 0 C dL_law_227 rfl ?_
  refine j_iload_n 3 C dL_law_228 rfl ?_
  refine j_iconst C dL_law_229 ?_
  refine j_iadd C dL_law_230 ?_
  refine l_sld hX C hI2 dL_law_231 ?_
  refine l_swap ?_
  refine l_cVi (w1 := wR ae cI cZ) (q0 := 0) (ci := 11) (T := TX11) (N := 32) [.int (iI (X (ix ((i : Int) + 1)))), .int (iI (X (ix ((i : Int) + 2))))] [.int (iI r)] C (c_X11_person _ _ ae cI cZ _ _ _ _ _ e2) mf_X11_person wt_941 wt_942 wt_943 rfl rfl rfl ⟨rfl, rfl, by decide, by decide⟩ rfl (Nat.le_of_ble_eq_true rfl) dL_law_232 ?_
  refine l_swap ?_
  refine j_icmp_eq 918 C rfl rfl dL_law_235 (by decide) (fun _ => ?_) (fun h0 => absurd rfl h0)
  exact hk σ' ρ' hv'
set_option maxRecDepth 100000 in
theorem law_2 {Γ : Cx} {cI cZ : ClassId} {ad ae : Nat → Nat} {b L i : Nat} {X : Nat → Int} {σ ρ : St} (C : CX cI cZ room_1 4 Γ code RL) (hX : SX Γ b L X) (hr : ∀ j : Nat, rg (X j)) (hI1 : inB ((i : Int) + 1) L) (hI2 : inB ((i : Int) + 2) L) (hI3 : inB ((i : Int) + 3) L) (hv : Inv σ ρ) (hk : ∀ σ' ρ' : St, Inv σ' ρ' → JJ wI Γ (wC ad cI cZ σ' ++ wR ae cI cZ ρ') 918 [(0, .ref b), (1, .ref (ad 0)), (2, .ref (ae 0)), (3, .int (iI (i : Int)))] []) : JJ wI Γ (wC ad cI cZ σ ++ wR ae cI cZ ρ) 240 [(0, .ref b), (1, .ref (ad 0)), (2, .ref (ae 0)), (3, .int (iI (i : Int)))] [] := by
  obtain ⟨r, σ', ρ', e1, e2, hv'⟩ := op_wish hv (a := X (ix ((i : Int) + 1))) (b := X (ix ((i : Int) + 2))) (hr _) (hr _)
  refine j_aload_n 1 C dL_law_240 rfl ?_
  refine j_aload_n 0 C dL_law_241 rfl ?_
  refine j_iload_n 3 C dL_law_242 rfl ?_
  refine j_iconst C dL_law_243 ?_
  refine j_iadd C dL_law_244 ?_
  refine l_sld hX C hI1 dL_law_245 ?_
  refine j_aload_n 0 C dL_law_246 rfl ?_
  refine j_iload_n 3 C dL_law_247 rfl ?_
  refine j_iconst C dL_law_248 ?_
  refine j_iadd C dL_law_249 ?_
  refine l_sld hX C hI2 dL_law_250 ?_
  refine l_cVi (w1 := wC ad cI cZ) (q0 := 0) (ci := 10) (T := TX10) (N := 10) [.int (iI (X (ix ((i : Int) + 1)))), .int (iI (X (ix ((i : Int) + 2))))] [] C (c_X10_wish _ _ ad cI cZ _ _ _ _ _ e1) mf_X10_wish wt_381 wt_382 wt_383 rfl rfl rfl ⟨rfl, rfl, by decide, by decide⟩ rfl (Nat.le_of_ble_eq_true rfl) dL_law_251 ?_
  refine j_aload_n 2 C dL_law_254 rfl ?_
  refine j_aload_n 0 C dL_law_255 rfl ?_
  refine j_iload_n 3 C dL_law_256 rfl ?_
  refine j_iconst C dL_law_257 ?_
  refine j_iadd C dL_law_258 ?_
  refine l_sld hX C hI1 dL_law_259 ?_
  refine j_aload_n 0 C dL_law_260 rfl ?_
  refine j_iload_n 3 C dL_law_261 rfl ?_
  refine j_iconst C dL_law_262 ?_
  refine j_iadd C dL_law_263 ?_
  refine l_sld hX C hI2 dL_law_264 ?_
  refine l_swap ?_
  refine l_cVi (w1 := wR ae cI cZ) (q0 := 0) (ci := 11) (T := TX11) (N := 32) [.int (iI (X (ix ((i : Int) + 1)))), .int (iI (X (ix ((i : Int) + 2))))] [.int (iI r)] C (c_X11_wish _ _ ae cI cZ _ _ _ _ _ e2) mf_X11_wish wt_947 wt_948 wt_949 rfl rfl rfl ⟨rfl, rfl, by decide, by decide⟩ rfl (Nat.le_of_ble_eq_true rfl) dL_law_265 ?_
  refine l_swap ?_
  refine j_icmp_eq 918 C rfl rfl dL_law_268 (by decide) (fun _ => ?_) (fun h0 => absurd rfl h0)
  exact hk σ' ρ' hv'
set_option maxRecDepth 100000 in
theorem law_3 {Γ : Cx} {cI cZ : ClassId} {ad ae : Nat → Nat} {b L i : Nat} {X : Nat → Int} {σ ρ : St} (C : CX cI cZ room_1 4 Γ code RL) (hX : SX Γ b L X) (hr : ∀ j : Nat, rg (X j)) (hI1 : inB ((i : Int) + 1) L) (hI2 : inB ((i : Int) + 2) L) (hI3 : inB ((i : Int) + 3) L) (hv : Inv σ ρ) (hk : ∀ σ' ρ' : St, Inv σ' ρ' → JJ wI Γ (wC ad cI cZ σ' ++ wR ae cI cZ ρ') 918 [(0, .ref b), (1, .ref (ad 0)), (2, .ref (ae 0)), (3, .int (iI (i : Int)))] []) : JJ wI Γ (wC ad cI cZ σ ++ wR ae cI cZ ρ) 273 [(0, .ref b), (1, .ref (ad 0)), (2, .ref (ae 0)), (3, .int (iI (i : Int)))] [] := by
  obtain ⟨r, σ', ρ', e1, e2, hv'⟩ := op_content hv (a := X (ix ((i : Int) + 1))) (hr _)
  refine j_aload_n 1 C dL_law_273 rfl ?_
  refine j_aload_n 0 C dL_law_274 rfl ?_
  refine j_iload_n 3 C dL_law_275 rfl ?_
  refine j_iconst C dL_law_276 ?_
  refine j_iadd C dL_law_277 ?_
  refine l_sld hX C hI1 dL_law_278 ?_
  refine l_cVi (w1 := wC ad cI cZ) (q0 := 0) (ci := 10) (T := TX10) (N := 10) [.int (iI (X (ix ((i : Int) + 1))))] [] C (c_X10_content _ _ ad cI cZ _ _ _ _ e1) mf_X10_content wt_410 wt_411 wt_412 rfl rfl rfl ⟨rfl, rfl, by decide, by decide⟩ rfl (Nat.le_of_ble_eq_true rfl) dL_law_279 ?_
  refine j_aload_n 2 C dL_law_282 rfl ?_
  refine j_aload_n 0 C dL_law_283 rfl ?_
  refine j_iload_n 3 C dL_law_284 rfl ?_
  refine j_iconst C dL_law_285 ?_
  refine j_iadd C dL_law_286 ?_
  refine l_sld hX C hI1 dL_law_287 ?_
  refine l_swap ?_
  refine l_cVi (w1 := wR ae cI cZ) (q0 := 0) (ci := 11) (T := TX11) (N := 32) [.int (iI (X (ix ((i : Int) + 1))))] [.int (iI r)] C (c_X11_content _ _ ae cI cZ _ _ _ _ e2) mf_X11_content wt_963 wt_964 wt_965 rfl rfl rfl ⟨rfl, rfl, by decide, by decide⟩ rfl (Nat.le_of_ble_eq_true rfl) dL_law_288 ?_
  refine l_swap ?_
  refine j_icmp_eq 918 C rfl rfl dL_law_291 (by decide) (fun _ => ?_) (fun h0 => absurd rfl h0)
  exact hk σ' ρ' hv'
set_option maxRecDepth 100000 in
theorem law_4 {Γ : Cx} {cI cZ : ClassId} {ad ae : Nat → Nat} {b L i : Nat} {X : Nat → Int} {σ ρ : St} (C : CX cI cZ room_1 4 Γ code RL) (hX : SX Γ b L X) (hr : ∀ j : Nat, rg (X j)) (hI1 : inB ((i : Int) + 1) L) (hI2 : inB ((i : Int) + 2) L) (hI3 : inB ((i : Int) + 3) L) (hv : Inv σ ρ) (hk : ∀ σ' ρ' : St, Inv σ' ρ' → JJ wI Γ (wC ad cI cZ σ' ++ wR ae cI cZ ρ') 918 [(0, .ref b), (1, .ref (ad 0)), (2, .ref (ae 0)), (3, .int (iI (i : Int)))] []) : JJ wI Γ (wC ad cI cZ σ ++ wR ae cI cZ ρ) 296 [(0, .ref b), (1, .ref (ad 0)), (2, .ref (ae 0)), (3, .int (iI (i : Int)))] [] := by
  obtain ⟨r, σ', ρ', e1, e2, hv'⟩ := op_about hv (a := X (ix ((i : Int) + 1))) (b := X (ix ((i : Int) + 2))) (hr _) (hr _)
  refine j_aload_n 1 C dL_law_296 rfl ?_
  refine j_aload_n 0 C dL_law_297 rfl ?_
  refine j_iload_n 3 C dL_law_298 rfl ?_
  refine j_iconst C dL_law_299 ?_
  refine j_iadd C dL_law_300 ?_
  refine l_sld hX C hI1 dL_law_301 ?_
  refine j_aload_n 0 C dL_law_302 rfl ?_
  refine j_iload_n 3 C dL_law_303 rfl ?_
  refine j_iconst C dL_law_304 ?_
  refine j_iadd C dL_law_305 ?_
  refine l_sld hX C hI2 dL_law_306 ?_
  refine l_cVi (w1 := wC ad cI cZ) (q0 := 0) (ci := 10) (T := TX10) (N := 10) [.int (iI (X (ix ((i : Int) + 1)))), .int (iI (X (ix ((i : Int) + 2))))] [] C (c_X10_about _ _ ad cI cZ _ _ _ _ _ e1) mf_X10_about wt_414 wt_415 wt_416 rfl rfl rfl ⟨rfl, rfl, by decide, by decide⟩ rfl (Nat.le_of_ble_eq_true rfl) dL_law_307 ?_
  refine j_aload_n 2 C dL_law_310 rfl ?_
  refine j_aload_n 0 C dL_law_311 rfl ?_
  refine j_iload_n 3 C dL_law_312 rfl ?_
  refine j_iconst C dL_law_313 ?_
  refine j_iadd C dL_law_314 ?_
  refine l_sld hX C hI1 dL_law_315 ?_
  refine j_aload_n 0 C dL_law_316 rfl ?_
  refine j_iload_n 3 C dL_law_317 rfl ?_
  refine j_iconst C dL_law_318 ?_
  refine j_iadd C dL_law_319 ?_
  refine l_sld hX C hI2 dL_law_320 ?_
  refine l_swap ?_
  refine l_cVi (w1 := wR ae cI cZ) (q0 := 0) (ci := 11) (T := TX11) (N := 32) [.int (iI (X (ix ((i : Int) + 1)))), .int (iI (X (ix ((i : Int) + 2))))] [.int (iI r)] C (c_X11_about _ _ ae cI cZ _ _ _ _ _ e2) mf_X11_about wt_967 wt_968 wt_969 rfl rfl rfl ⟨rfl, rfl, by decide, by decide⟩ rfl (Nat.le_of_ble_eq_true rfl) dL_law_321 ?_
  refine l_swap ?_
  refine j_icmp_eq 918 C rfl rfl dL_law_324 (by decide) (fun _ => ?_) (fun h0 => absurd rfl h0)
  exact hk σ' ρ' hv'
set_option maxRecDepth 100000 in
theorem law_5 {Γ : Cx} {cI cZ : ClassId} {ad ae : Nat → Nat} {b L i : Nat} {X : Nat → Int} {σ ρ : St} (C : CX cI cZ room_1 4 Γ code RL) (hX : SX Γ b L X) (hr : ∀ j : Nat, rg (X j)) (hI1 : inB ((i : Int) + 1) L) (hI2 : inB ((i : Int) + 2) L) (hI3 : inB ((i : Int) + 3) L) (hv : Inv σ ρ) (hk : ∀ σ' ρ' : St, Inv σ' ρ' → JJ wI Γ (wC ad cI cZ σ' ++ wR ae cI cZ ρ') 918 [(0, .ref b), (1, .ref (ad 0)), (2, .ref (ae 0)), (3, .int (iI (i : Int)))] []) : JJ wI Γ (wC ad cI cZ σ ++ wR ae cI cZ ρ) 329 [(0, .ref b), (1, .ref (ad 0)), (2, .ref (ae 0)), (3, .int (iI (i : Int)))] [] := by
  obtain ⟨r, σ', ρ', e1, e2, hv'⟩ := op_of hv (a := X (ix ((i : Int) + 1))) (b := X (ix ((i : Int) + 2))) (hr _) (hr _)
  refine j_aload_n 1 C dL_law_329 rfl ?_
  refine j_aload_n 0 C dL_law_330 rfl ?_
  refine j_iload_n 3 C dL_law_331 rfl ?_
  refine j_iconst C dL_law_332 ?_
  refine j_iadd C dL_law_333 ?_
  refine l_sld hX C hI1 dL_law_334 ?_
  refine j_aload_n 0 C dL_law_335 rfl ?_
  refine j_iload_n 3 C dL_law_336 rfl ?_
  refine j_iconst C dL_law_337 ?_
  refine j_iadd C dL_law_338 ?_
  refine l_sld hX C hI2 dL_law_339 ?_
  refine l_cVi (w1 := wC ad cI cZ) (q0 := 0) (ci := 10) (T := TX10) (N := 10) [.int (iI (X (ix ((i : Int) + 1)))), .int (iI (X (ix ((i : Int) + 2))))] [] C (c_X10_of _ _ ad cI cZ _ _ _ _ _ e1) mf_X10_of wt_423 wt_424 wt_425 rfl rfl rfl ⟨rfl, rfl, by decide, by decide⟩ rfl (Nat.le_of_ble_eq_true rfl) dL_law_340 ?_
  refine j_aload_n 2 C dL_law_343 rfl ?_
  refine j_aload_n 0 C dL_law_344 rfl ?_
  refine j_iload_n 3 C dL_law_345 rfl ?_
  refine j_iconst C dL_law_346 ?_
  refine j_iadd C dL_law_347 ?_
  refine l_sld hX C hI1 dL_law_348 ?_
  refine j_aload_n 0 C dL_law_349 rfl ?_
  refine j_iload_n 3 C dL_law_350 rfl ?_
  refine j_iconst C dL_law_351 ?_
  refine j_iadd C dL_law_352 ?_
  refine l_sld hX C hI2 dL_law_353 ?_
  refine l_swap ?_
  refine l_cVi (w1 := wR ae cI cZ) (q0 := 0) (ci := 11) (T := TX11) (N := 32) [.int (iI (X (ix ((i : Int) + 1)))), .int (iI (X (ix ((i : Int) + 2))))] [.int (iI r)] C (c_X11_of _ _ ae cI cZ _ _ _ _ _ e2) mf_X11_of wt_972 wt_973 wt_974 rfl rfl rfl ⟨rfl, rfl, by decide, by decide⟩ rfl (Nat.le_of_ble_eq_true rfl) dL_law_354 ?_
  refine l_swap ?_
  refine j_icmp_eq 918 C rfl rfl dL_law_357 (by decide) (fun _ => ?_) (fun h0 => absurd rfl h0)
  exact hk σ' ρ' hv'
set_option maxRecDepth 100000 in
theorem law_6 {Γ : Cx} {cI cZ : ClassId} {ad ae : Nat → Nat} {b L i : Nat} {X : Nat → Int} {σ ρ : St} (C : CX cI cZ room_1 4 Γ code RL) (hX : SX Γ b L X) (hr : ∀ j : Nat, rg (X j)) (hI1 : inB ((i : Int) + 1) L) (hI2 : inB ((i : Int) + 2) L) (hI3 : inB ((i : Int) + 3) L) (hv : Inv σ ρ) (hk : ∀ σ' ρ' : St, Inv σ' ρ' → JJ wI Γ (wC ad cI cZ σ' ++ wR ae cI cZ ρ') 918 [(0, .ref b), (1, .ref (ad 0)), (2, .ref (ae 0)), (3, .int (iI (i : Int)))] []) : JJ wI Γ (wC ad cI cZ σ ++ wR ae cI cZ ρ) 362 [(0, .ref b), (1, .ref (ad 0)), (2, .ref (ae 0)), (3, .int (iI (i : Int)))] [] := by
  obtain ⟨r, σ', ρ', e1, e2, hv'⟩ := op_give hv (a := X (ix ((i : Int) + 1))) (b := X (ix ((i : Int) + 2))) (hr _) (hr _)
  refine j_aload_n 1 C dL_law_362 rfl ?_
  refine j_aload_n 0 C dL_law_363 rfl ?_
  refine j_iload_n 3 C dL_law_364 rfl ?_
  refine j_iconst C dL_law_365 ?_
  refine j_iadd C dL_law_366 ?_
  refine l_sld hX C hI1 dL_law_367 ?_
  refine j_aload_n 0 C dL_law_368 rfl ?_
  refine j_iload_n 3 C dL_law_369 rfl ?_
  refine j_iconst C dL_law_370 ?_
  refine j_iadd C dL_law_371 ?_
  refine l_sld hX C hI2 dL_law_372 ?_
  refine l_cVi (w1 := wC ad cI cZ) (q0 := 0) (ci := 10) (T := TX10) (N := 10) [.int (iI (X (ix ((i : Int) + 1)))), .int (iI (X (ix ((i : Int) + 2))))] [] C (c_X10_give _ _ ad cI cZ _ _ _ _ _ e1) mf_X10_give wt_427 wt_428 wt_429 rfl rfl rfl ⟨rfl, rfl, by decide, by decide⟩ rfl (Nat.le_of_ble_eq_true rfl) dL_law_373 ?_
  refine j_aload_n 2 C dL_law_376 rfl ?_
  refine j_aload_n 0 C dL_law_377 rfl ?_
  refine j_iload_n 3 C dL_law_378 rfl ?_
  refine j_iconst C dL_law_379 ?_
  refine j_iadd C dL_law_380 ?_
  refine l_sld hX C hI1 dL_law_381 ?_
  refine j_aload_n 0 C dL_law_382 rfl ?_
  refine j_iload_n 3 C dL_law_383 rfl ?_
  refine j_iconst C dL_law_384 ?_
  refine j_iadd C dL_law_385 ?_
  refine l_sld hX C hI2 dL_law_386 ?_
  refine l_swap ?_
  refine l_cVi (w1 := wR ae cI cZ) (q0 := 0) (ci := 11) (T := TX11) (N := 32) [.int (iI (X (ix ((i : Int) + 1)))), .int (iI (X (ix ((i : Int) + 2))))] [.int (iI r)] C (c_X11_give _ _ ae cI cZ _ _ _ _ _ e2) mf_X11_give wt_980 wt_981 wt_982 rfl rfl rfl ⟨rfl, rfl, by decide, by decide⟩ rfl (Nat.le_of_ble_eq_true rfl) dL_law_387 ?_
  refine l_swap ?_
  refine j_icmp_eq 918 C rfl rfl dL_law_390 (by decide) (fun _ => ?_) (fun h0 => absurd rfl h0)
  exact hk σ' ρ' hv'
set_option maxRecDepth 100000 in
theorem law_7 {Γ : Cx} {cI cZ : ClassId} {ad ae : Nat → Nat} {b L i : Nat} {X : Nat → Int} {σ ρ : St} (C : CX cI cZ room_1 4 Γ code RL) (hX : SX Γ b L X) (hr : ∀ j : Nat, rg (X j)) (hI1 : inB ((i : Int) + 1) L) (hI2 : inB ((i : Int) + 2) L) (hI3 : inB ((i : Int) + 3) L) (hv : Inv σ ρ) (hk : ∀ σ' ρ' : St, Inv σ' ρ' → JJ wI Γ (wC ad cI cZ σ' ++ wR ae cI cZ ρ') 918 [(0, .ref b), (1, .ref (ad 0)), (2, .ref (ae 0)), (3, .int (iI (i : Int)))] []) : JJ wI Γ (wC ad cI cZ σ ++ wR ae cI cZ ρ) 395 [(0, .ref b), (1, .ref (ad 0)), (2, .ref (ae 0)), (3, .int (iI (i : Int)))] [] := by
  obtain ⟨r, σ', ρ', e1, e2, hv'⟩ := op_type hv (b := X (ix ((i : Int) + 1))) (hr _)
  refine j_aload_n 1 C dL_law_395 rfl ?_
  refine j_aload_n 0 C dL_law_396 rfl ?_
  refine j_iload_n 3 C dL_law_397 rfl ?_
  refine j_iconst C dL_law_398 ?_
  refine j_iadd C dL_law_399 ?_
  refine l_sld hX C hI1 dL_law_400 ?_
  refine l_cVi (w1 := wC ad cI cZ) (q0 := 0) (ci := 10) (T := TX10) (N := 10) [.int (iI (X (ix ((i : Int) + 1))))] [] C (c_X10_type _ _ ad cI cZ _ _ _ _ e1) mf_X10_type wt_479 wt_480 wt_481 rfl rfl rfl ⟨rfl, rfl, by decide, by decide⟩ rfl (Nat.le_of_ble_eq_true rfl) dL_law_401 ?_
  refine j_aload_n 2 C dL_law_404 rfl ?_
  refine j_aload_n 0 C dL_law_405 rfl ?_
  refine j_iload_n 3 C dL_law_406 rfl ?_
  refine j_iconst C dL_law_407 ?_
  refine j_iadd C dL_law_408 ?_
  refine l_sld hX C hI1 dL_law_409 ?_
  refine l_swap ?_
  refine l_cVi (w1 := wR ae cI cZ) (q0 := 0) (ci := 11) (T := TX11) (N := 32) [.int (iI (X (ix ((i : Int) + 1))))] [.int (iI r)] C (c_X11_type _ _ ae cI cZ _ _ _ _ e2) mf_X11_type wt_1007 wt_1008 wt_1009 rfl rfl rfl ⟨rfl, rfl, by decide, by decide⟩ rfl (Nat.le_of_ble_eq_true rfl) dL_law_410 ?_
  refine l_swap ?_
  refine j_icmp_eq 918 C rfl rfl dL_law_413 (by decide) (fun _ => ?_) (fun h0 => absurd rfl h0)
  exact hk σ' ρ' hv'
set_option maxRecDepth 100000 in
theorem law_8 {Γ : Cx} {cI cZ : ClassId} {ad ae : Nat → Nat} {b L i : Nat} {X : Nat → Int} {σ ρ : St} (C : CX cI cZ room_1 4 Γ code RL) (hX : SX Γ b L X) (hr : ∀ j : Nat, rg (X j)) (hI1 : inB ((i : Int) + 1) L) (hI2 : inB ((i : Int) + 2) L) (hI3 : inB ((i : Int) + 3) L) (hv : Inv σ ρ) (hk : ∀ σ' ρ' : St, Inv σ' ρ' → JJ wI Γ (wC ad cI cZ σ' ++ wR ae cI cZ ρ') 918 [(0, .ref b), (1, .ref (ad 0)), (2, .ref (ae 0)), (3, .int (iI (i : Int)))] []) : JJ wI Γ (wC ad cI cZ σ ++ wR ae cI cZ ρ) 418 [(0, .ref b), (1, .ref (ad 0)), (2, .ref (ae 0)), (3, .int (iI (i : Int)))] [] := by
  obtain ⟨r, σ', ρ', e1, e2, hv'⟩ := op_repeal hv
  refine j_aload_n 1 C dL_law_418 rfl ?_
  refine l_cVi (w1 := wC ad cI cZ) (q0 := 0) (ci := 10) (T := TX10) (N := 10) [] [] C (c_X10_repeal _ _ ad cI cZ _ _ _ e1) mf_X10_repeal wt_508 wt_509 wt_510 rfl rfl rfl ⟨rfl, rfl, by decide, by decide⟩ rfl (Nat.le_of_ble_eq_true rfl) dL_law_419 ?_
  refine j_aload_n 2 C dL_law_422 rfl ?_
  refine l_swap ?_
  refine l_cVi (w1 := wR ae cI cZ) (q0 := 0) (ci := 11) (T := TX11) (N := 32) [] [.int (iI r)] C (c_X11_repeal _ _ ae cI cZ _ _ _ e2) mf_X11_repeal wt_1013 wt_1014 wt_1015 rfl rfl rfl ⟨rfl, rfl, by decide, by decide⟩ rfl (Nat.le_of_ble_eq_true rfl) dL_law_423 ?_
  refine l_swap ?_
  refine j_icmp_eq 918 C rfl rfl dL_law_426 (by decide) (fun _ => ?_) (fun h0 => absurd rfl h0)
  exact hk σ' ρ' hv'
set_option maxRecDepth 100000 in
theorem law_9 {Γ : Cx} {cI cZ : ClassId} {ad ae : Nat → Nat} {b L i : Nat} {X : Nat → Int} {σ ρ : St} (C : CX cI cZ room_1 4 Γ code RL) (hX : SX Γ b L X) (hr : ∀ j : Nat, rg (X j)) (hI1 : inB ((i : Int) + 1) L) (hI2 : inB ((i : Int) + 2) L) (hI3 : inB ((i : Int) + 3) L) (hv : Inv σ ρ) (hk : ∀ σ' ρ' : St, Inv σ' ρ' → JJ wI Γ (wC ad cI cZ σ' ++ wR ae cI cZ ρ') 918 [(0, .ref b), (1, .ref (ad 0)), (2, .ref (ae 0)), (3, .int (iI (i : Int)))] []) : JJ wI Γ (wC ad cI cZ σ ++ wR ae cI cZ ρ) 431 [(0, .ref b), (1, .ref (ad 0)), (2, .ref (ae 0)), (3, .int (iI (i : Int)))] [] := by
  obtain ⟨r, σ', ρ', e1, e2, hv'⟩ := op_fault hv
  refine j_aload_n 1 C dL_law_431 rfl ?_
  refine l_cVi (w1 := wC ad cI cZ) (q0 := 0) (ci := 10) (T := TX10) (N := 10) [] [] C (c_X10_fault _ _ ad cI cZ _ _ _ e1) mf_X10_fault wt_516 wt_517 wt_518 rfl rfl rfl ⟨rfl, rfl, by decide, by decide⟩ rfl (Nat.le_of_ble_eq_true rfl) dL_law_432 ?_
  refine j_aload_n 2 C dL_law_435 rfl ?_
  refine l_swap ?_
  refine l_cVi (w1 := wR ae cI cZ) (q0 := 0) (ci := 11) (T := TX11) (N := 32) [] [.int (iI r)] C (c_X11_fault _ _ ae cI cZ _ _ _ e2) mf_X11_fault wt_1017 wt_989 wt_990 rfl rfl rfl ⟨rfl, rfl, by decide, by decide⟩ rfl (Nat.le_of_ble_eq_true rfl) dL_law_436 ?_
  refine l_swap ?_
  refine j_icmp_eq 918 C rfl rfl dL_law_439 (by decide) (fun _ => ?_) (fun h0 => absurd rfl h0)
  exact hk σ' ρ' hv'
set_option maxRecDepth 100000 in
theorem law_10 {Γ : Cx} {cI cZ : ClassId} {ad ae : Nat → Nat} {b L i : Nat} {X : Nat → Int} {σ ρ : St} (C : CX cI cZ room_1 4 Γ code RL) (hX : SX Γ b L X) (hr : ∀ j : Nat, rg (X j)) (hI1 : inB ((i : Int) + 1) L) (hI2 : inB ((i : Int) + 2) L) (hI3 : inB ((i : Int) + 3) L) (hv : Inv σ ρ) (hk : ∀ σ' ρ' : St, Inv σ' ρ' → JJ wI Γ (wC ad cI cZ σ' ++ wR ae cI cZ ρ') 918 [(0, .ref b), (1, .ref (ad 0)), (2, .ref (ae 0)), (3, .int (iI (i : Int)))] []) : JJ wI Γ (wC ad cI cZ σ ++ wR ae cI cZ ρ) 444 [(0, .ref b), (1, .ref (ad 0)), (2, .ref (ae 0)), (3, .int (iI (i : Int)))] [] := by
  obtain ⟨r, σ', ρ', e1, e2, hv'⟩ := op_may hv (a := X (ix ((i : Int) + 1))) (b := X (ix ((i : Int) + 2))) (hr _) (hr _)
  refine j_aload_n 1 C dL_law_444 rfl ?_
  refine j_aload_n 0 C dL_law_445 rfl ?_
  refine j_iload_n 3 C dL_law_446 rfl ?_
  refine j_iconst C dL_law_447 ?_
  refine j_iadd C dL_law_448 ?_
  refine l_sld hX C hI1 dL_law_449 ?_
  refine j_aload_n 0 C dL_law_450 rfl ?_
  refine j_iload_n 3 C dL_law_451 rfl ?_
  refine j_iconst C dL_law_452 ?_
  refine j_iadd C dL_law_453 ?_
  refine l_sld hX C hI2 dL_law_454 ?_
  refine l_cVi (w1 := wC ad cI cZ) (q0 := 0) (ci := 10) (T := TX10) (N := 10) [.int (iI (X (ix ((i : Int) + 1)))), .int (iI (X (ix ((i : Int) + 2))))] [] C (c_X10_may _ _ ad cI cZ _ _ _ _ _ e1) mf_X10_may wt_521 wt_522 wt_523 rfl rfl rfl ⟨rfl, rfl, by decide, by decide⟩ rfl (Nat.le_of_ble_eq_true rfl) dL_law_455 ?_
  refine j_aload_n 2 C dL_law_458 rfl ?_
  refine j_aload_n 0 C dL_law_459 rfl ?_
  refine j_iload_n 3 C dL_law_460 rfl ?_
  refine j_iconst C dL_law_461 ?_
  refine j_iadd C dL_law_462 ?_
  refine l_sld hX C hI1 dL_law_463 ?_
  refine j_aload_n 0 C dL_law_464 rfl ?_
  refine j_iload_n 3 C dL_law_465 rfl ?_
  refine j_iconst C dL_law_466 ?_
  refine j_iadd C dL_law_467 ?_
  refine l_sld hX C hI2 dL_law_468 ?_
  refine l_swap ?_
  refine l_cVi (w1 := wR ae cI cZ) (q0 := 0) (ci := 11) (T := TX11) (N := 32) [.int (iI (X (ix ((i : Int) + 1)))), .int (iI (X (ix ((i : Int) + 2))))] [.int (iI r)] C (c_X11_may _ _ ae cI cZ _ _ _ _ _ e2) mf_X11_may wt_1018 wt_1019 wt_1020 rfl rfl rfl ⟨rfl, rfl, by decide, by decide⟩ rfl (Nat.le_of_ble_eq_true rfl) dL_law_469 ?_
  refine l_swap ?_
  refine j_icmp_eq 918 C rfl rfl dL_law_472 (by decide) (fun _ => ?_) (fun h0 => absurd rfl h0)
  exact hk σ' ρ' hv'
set_option maxRecDepth 100000 in
theorem law_11 {Γ : Cx} {cI cZ : ClassId} {ad ae : Nat → Nat} {b L i : Nat} {X : Nat → Int} {σ ρ : St} (C : CX cI cZ room_1 4 Γ code RL) (hX : SX Γ b L X) (hr : ∀ j : Nat, rg (X j)) (hI1 : inB ((i : Int) + 1) L) (hI2 : inB ((i : Int) + 2) L) (hI3 : inB ((i : Int) + 3) L) (hv : Inv σ ρ) (hk : ∀ σ' ρ' : St, Inv σ' ρ' → JJ wI Γ (wC ad cI cZ σ' ++ wR ae cI cZ ρ') 918 [(0, .ref b), (1, .ref (ad 0)), (2, .ref (ae 0)), (3, .int (iI (i : Int)))] []) : JJ wI Γ (wC ad cI cZ σ ++ wR ae cI cZ ρ) 477 [(0, .ref b), (1, .ref (ad 0)), (2, .ref (ae 0)), (3, .int (iI (i : Int)))] [] := by
  obtain ⟨r, σ', ρ', e1, e2, hv'⟩ := op_wrong hv
  refine j_aload_n 1 C dL_law_477 rfl ?_
  refine l_cVi (w1 := wC ad cI cZ) (q0 := 0) (ci := 10) (T := TX10) (N := 10) [] [] C (c_X10_wrong _ _ ad cI cZ _ _ _ e1) mf_X10_wrong wt_525 wt_526 wt_527 rfl rfl rfl ⟨rfl, rfl, by decide, by decide⟩ rfl (Nat.le_of_ble_eq_true rfl) dL_law_478 ?_
  refine j_aload_n 2 C dL_law_481 rfl ?_
  refine l_swap ?_
  refine l_cVi (w1 := wR ae cI cZ) (q0 := 0) (ci := 11) (T := TX11) (N := 32) [] [.int (iI r)] C (c_X11_wrong _ _ ae cI cZ _ _ _ e2) mf_X11_wrong wt_1022 wt_1023 wt_1024 rfl rfl rfl ⟨rfl, rfl, by decide, by decide⟩ rfl (Nat.le_of_ble_eq_true rfl) dL_law_482 ?_
  refine l_swap ?_
  refine j_icmp_eq 918 C rfl rfl dL_law_485 (by decide) (fun _ => ?_) (fun h0 => absurd rfl h0)
  exact hk σ' ρ' hv'
set_option maxRecDepth 100000 in
theorem law_12 {Γ : Cx} {cI cZ : ClassId} {ad ae : Nat → Nat} {b L i : Nat} {X : Nat → Int} {σ ρ : St} (C : CX cI cZ room_1 4 Γ code RL) (hX : SX Γ b L X) (hr : ∀ j : Nat, rg (X j)) (hI1 : inB ((i : Int) + 1) L) (hI2 : inB ((i : Int) + 2) L) (hI3 : inB ((i : Int) + 3) L) (hv : Inv σ ρ) (hk : ∀ σ' ρ' : St, Inv σ' ρ' → JJ wI Γ (wC ad cI cZ σ' ++ wR ae cI cZ ρ') 918 [(0, .ref b), (1, .ref (ad 0)), (2, .ref (ae 0)), (3, .int (iI (i : Int)))] []) : JJ wI Γ (wC ad cI cZ σ ++ wR ae cI cZ ρ) 490 [(0, .ref b), (1, .ref (ad 0)), (2, .ref (ae 0)), (3, .int (iI (i : Int)))] [] := by
  obtain ⟨r, σ', ρ', e1, e2, hv'⟩ := op_draw hv (a := X (ix ((i : Int) + 1))) (hr _)
  refine j_aload_n 1 C dL_law_490 rfl ?_
  refine j_aload_n 0 C dL_law_491 rfl ?_
  refine j_iload_n 3 C dL_law_492 rfl ?_
  refine j_iconst C dL_law_493 ?_
  refine j_iadd C dL_law_494 ?_
  refine l_sld hX C hI1 dL_law_495 ?_
  refine l_cVi (w1 := wC ad cI cZ) (q0 := 0) (ci := 10) (T := TX10) (N := 10) [.int (iI (X (ix ((i : Int) + 1))))] [] C (c_X10_draw _ _ ad cI cZ _ _ _ _ e1) mf_X10_draw wt_530 wt_531 wt_532 rfl rfl rfl ⟨rfl, rfl, by decide, by decide⟩ rfl (Nat.le_of_ble_eq_true rfl) dL_law_496 ?_
  refine j_aload_n 2 C dL_law_499 rfl ?_
  refine j_aload_n 0 C dL_law_500 rfl ?_
  refine j_iload_n 3 C dL_law_501 rfl ?_
  refine j_iconst C dL_law_502 ?_
  refine j_iadd C dL_law_503 ?_
  refine l_sld hX C hI1 dL_law_504 ?_
  refine l_swap ?_
  refine l_cVi (w1 := wR ae cI cZ) (q0 := 0) (ci := 11) (T := TX11) (N := 32) [.int (iI (X (ix ((i : Int) + 1))))] [.int (iI r)] C (c_X11_draw _ _ ae cI cZ _ _ _ _ e2) mf_X11_draw wt_1026 wt_1027 wt_1028 rfl rfl rfl ⟨rfl, rfl, by decide, by decide⟩ rfl (Nat.le_of_ble_eq_true rfl) dL_law_505 ?_
  refine l_swap ?_
  refine j_icmp_eq 918 C rfl rfl dL_law_508 (by decide) (fun _ => ?_) (fun h0 => absurd rfl h0)
  exact hk σ' ρ' hv'
set_option maxRecDepth 100000 in
theorem law_13 {Γ : Cx} {cI cZ : ClassId} {ad ae : Nat → Nat} {b L i : Nat} {X : Nat → Int} {σ ρ : St} (C : CX cI cZ room_1 4 Γ code RL) (hX : SX Γ b L X) (hr : ∀ j : Nat, rg (X j)) (hI1 : inB ((i : Int) + 1) L) (hI2 : inB ((i : Int) + 2) L) (hI3 : inB ((i : Int) + 3) L) (hv : Inv σ ρ) (hk : ∀ σ' ρ' : St, Inv σ' ρ' → JJ wI Γ (wC ad cI cZ σ' ++ wR ae cI cZ ρ') 918 [(0, .ref b), (1, .ref (ad 0)), (2, .ref (ae 0)), (3, .int (iI (i : Int)))] []) : JJ wI Γ (wC ad cI cZ σ ++ wR ae cI cZ ρ) 513 [(0, .ref b), (1, .ref (ad 0)), (2, .ref (ae 0)), (3, .int (iI (i : Int)))] [] := by
  obtain ⟨r, σ', ρ', e1, e2, hv'⟩ := op_change hv (a := X (ix ((i : Int) + 1))) (b := X (ix ((i : Int) + 2))) (hr _) (hr _)
  refine j_aload_n 1 C dL_law_513 rfl ?_
  refine j_aload_n 0 C dL_law_514 rfl ?_
  refine j_iload_n 3 C dL_law_515 rfl ?_
  refine j_iconst C dL_law_516 ?_
  refine j_iadd C dL_law_517 ?_
  refine l_sld hX C hI1 dL_law_518 ?_
  refine j_aload_n 0 C dL_law_519 rfl ?_
  refine j_iload_n 3 C dL_law_520 rfl ?_
  refine j_iconst C dL_law_521 ?_
  refine j_iadd C dL_law_522 ?_
  refine l_sld hX C hI2 dL_law_523 ?_
  refine l_cVi (w1 := wC ad cI cZ) (q0 := 0) (ci := 10) (T := TX10) (N := 10) [.int (iI (X (ix ((i : Int) + 1)))), .int (iI (X (ix ((i : Int) + 2))))] [] C (c_X10_change _ _ ad cI cZ _ _ _ _ _ e1) mf_X10_change wt_552 wt_553 wt_554 rfl rfl rfl ⟨rfl, rfl, by decide, by decide⟩ rfl (Nat.le_of_ble_eq_true rfl) dL_law_524 ?_
  refine j_aload_n 2 C dL_law_527 rfl ?_
  refine j_aload_n 0 C dL_law_528 rfl ?_
  refine j_iload_n 3 C dL_law_529 rfl ?_
  refine j_iconst C dL_law_530 ?_
  refine j_iadd C dL_law_531 ?_
  refine l_sld hX C hI1 dL_law_532 ?_
  refine j_aload_n 0 C dL_law_533 rfl ?_
  refine j_iload_n 3 C dL_law_534 rfl ?_
  refine j_iconst C dL_law_535 ?_
  refine j_iadd C dL_law_536 ?_
  refine l_sld hX C hI2 dL_law_537 ?_
  refine l_swap ?_
  refine l_cVi (w1 := wR ae cI cZ) (q0 := 0) (ci := 11) (T := TX11) (N := 32) [.int (iI (X (ix ((i : Int) + 1)))), .int (iI (X (ix ((i : Int) + 2))))] [.int (iI r)] C (c_X11_change _ _ ae cI cZ _ _ _ _ _ e2) mf_X11_change wt_1031 wt_1032 wt_1033 rfl rfl rfl ⟨rfl, rfl, by decide, by decide⟩ rfl (Nat.le_of_ble_eq_true rfl) dL_law_538 ?_
  refine l_swap ?_
  refine j_icmp_eq 918 C rfl rfl dL_law_541 (by decide) (fun _ => ?_) (fun h0 => absurd rfl h0)
  exact hk σ' ρ' hv'
set_option maxRecDepth 100000 in
theorem law_14 {Γ : Cx} {cI cZ : ClassId} {ad ae : Nat → Nat} {b L i : Nat} {X : Nat → Int} {σ ρ : St} (C : CX cI cZ room_1 4 Γ code RL) (hX : SX Γ b L X) (hr : ∀ j : Nat, rg (X j)) (hI1 : inB ((i : Int) + 1) L) (hI2 : inB ((i : Int) + 2) L) (hI3 : inB ((i : Int) + 3) L) (hv : Inv σ ρ) (hk : ∀ σ' ρ' : St, Inv σ' ρ' → JJ wI Γ (wC ad cI cZ σ' ++ wR ae cI cZ ρ') 918 [(0, .ref b), (1, .ref (ad 0)), (2, .ref (ae 0)), (3, .int (iI (i : Int)))] []) : JJ wI Γ (wC ad cI cZ σ ++ wR ae cI cZ ρ) 546 [(0, .ref b), (1, .ref (ad 0)), (2, .ref (ae 0)), (3, .int (iI (i : Int)))] [] := by
  obtain ⟨r, σ', ρ', e1, e2, hv'⟩ := op_turn hv (a := X (ix ((i : Int) + 1))) (hr _)
  refine j_aload_n 1 C dL_law_546 rfl ?_
  refine j_aload_n 0 C dL_law_547 rfl ?_
  refine j_iload_n 3 C dL_law_548 rfl ?_
  refine j_iconst C dL_law_549 ?_
  refine j_iadd C dL_law_550 ?_
  refine l_sld hX C hI1 dL_law_551 ?_
  refine l_cVi (w1 := wC ad cI cZ) (q0 := 0) (ci := 10) (T := TX10) (N := 10) [.int (iI (X (ix ((i : Int) + 1))))] [] C (c_X10_turn _ _ ad cI cZ _ _ _ _ e1) mf_X10_turn wt_558 wt_559 wt_560 rfl rfl rfl ⟨rfl, rfl, by decide, by decide⟩ rfl (Nat.le_of_ble_eq_true rfl) dL_law_552 ?_
  refine j_aload_n 2 C dL_law_555 rfl ?_
  refine j_aload_n 0 C dL_law_556 rfl ?_
  refine j_iload_n 3 C dL_law_557 rfl ?_
  refine j_iconst C dL_law_558 ?_
  refine j_iadd C dL_law_559 ?_
  refine l_sld hX C hI1 dL_law_560 ?_
  refine l_swap ?_
  refine l_cVi (w1 := wR ae cI cZ) (q0 := 0) (ci := 11) (T := TX11) (N := 32) [.int (iI (X (ix ((i : Int) + 1))))] [.int (iI r)] C (c_X11_turn _ _ ae cI cZ _ _ _ _ e2) mf_X11_turn wt_1035 wt_1036 wt_1037 rfl rfl rfl ⟨rfl, rfl, by decide, by decide⟩ rfl (Nat.le_of_ble_eq_true rfl) dL_law_561 ?_
  refine l_swap ?_
  refine j_icmp_eq 918 C rfl rfl dL_law_564 (by decide) (fun _ => ?_) (fun h0 => absurd rfl h0)
  exact hk σ' ρ' hv'
set_option maxRecDepth 100000 in
theorem law_15 {Γ : Cx} {cI cZ : ClassId} {ad ae : Nat → Nat} {b L i : Nat} {X : Nat → Int} {σ ρ : St} (C : CX cI cZ room_1 4 Γ code RL) (hX : SX Γ b L X) (hr : ∀ j : Nat, rg (X j)) (hI1 : inB ((i : Int) + 1) L) (hI2 : inB ((i : Int) + 2) L) (hI3 : inB ((i : Int) + 3) L) (hv : Inv σ ρ) (hk : ∀ σ' ρ' : St, Inv σ' ρ' → JJ wI Γ (wC ad cI cZ σ' ++ wR ae cI cZ ρ') 918 [(0, .ref b), (1, .ref (ad 0)), (2, .ref (ae 0)), (3, .int (iI (i : Int)))] []) : JJ wI Γ (wC ad cI cZ σ ++ wR ae cI cZ ρ) 569 [(0, .ref b), (1, .ref (ad 0)), (2, .ref (ae 0)), (3, .int (iI (i : Int)))] [] := by
  obtain ⟨r, σ', ρ', e1, e2, hv'⟩ := op_deal hv
  refine j_aload_n 1 C dL_law_569 rfl ?_
  refine l_cVi (w1 := wC ad cI cZ) (q0 := 0) (ci := 10) (T := TX10) (N := 10) [] [] C (c_X10_deal _ _ ad cI cZ _ _ _ e1) mf_X10_deal wt_562 wt_563 wt_564 rfl rfl rfl ⟨rfl, rfl, by decide, by decide⟩ rfl (Nat.le_of_ble_eq_true rfl) dL_law_570 ?_
  refine j_aload_n 2 C dL_law_573 rfl ?_
  refine l_swap ?_
  refine l_cVi (w1 := wR ae cI cZ) (q0 := 0) (ci := 11) (T := TX11) (N := 32) [] [.int (iI r)] C (c_X11_deal _ _ ae cI cZ _ _ _ e2) mf_X11_deal wt_1039 wt_1040 wt_1041 rfl rfl rfl ⟨rfl, rfl, by decide, by decide⟩ rfl (Nat.le_of_ble_eq_true rfl) dL_law_574 ?_
  refine l_swap ?_
  refine j_icmp_eq 918 C rfl rfl dL_law_577 (by decide) (fun _ => ?_) (fun h0 => absurd rfl h0)
  exact hk σ' ρ' hv'
set_option maxRecDepth 100000 in
theorem law_16 {Γ : Cx} {cI cZ : ClassId} {ad ae : Nat → Nat} {b L i : Nat} {X : Nat → Int} {σ ρ : St} (C : CX cI cZ room_1 4 Γ code RL) (hX : SX Γ b L X) (hr : ∀ j : Nat, rg (X j)) (hI1 : inB ((i : Int) + 1) L) (hI2 : inB ((i : Int) + 2) L) (hI3 : inB ((i : Int) + 3) L) (hv : Inv σ ρ) (hk : ∀ σ' ρ' : St, Inv σ' ρ' → JJ wI Γ (wC ad cI cZ σ' ++ wR ae cI cZ ρ') 918 [(0, .ref b), (1, .ref (ad 0)), (2, .ref (ae 0)), (3, .int (iI (i : Int)))] []) : JJ wI Γ (wC ad cI cZ σ ++ wR ae cI cZ ρ) 582 [(0, .ref b), (1, .ref (ad 0)), (2, .ref (ae 0)), (3, .int (iI (i : Int)))] [] := by
  obtain ⟨r, σ', ρ', e1, e2, hv'⟩ := op_trade hv
  refine j_aload_n 1 C dL_law_582 rfl ?_
  refine l_cVi (w1 := wC ad cI cZ) (q0 := 0) (ci := 10) (T := TX10) (N := 10) [] [] C (c_X10_trade _ _ ad cI cZ _ _ _ e1) mf_X10_trade wt_635 wt_636 wt_637 rfl rfl rfl ⟨rfl, rfl, by decide, by decide⟩ rfl (Nat.le_of_ble_eq_true rfl) dL_law_583 ?_
  refine j_aload_n 2 C dL_law_586 rfl ?_
  refine l_swap ?_
  refine l_cVi (w1 := wR ae cI cZ) (q0 := 0) (ci := 11) (T := TX11) (N := 32) [] [.int (iI r)] C (c_X11_trade _ _ ae cI cZ _ _ _ e2) mf_X11_trade wt_1059 wt_1060 wt_1061 rfl rfl rfl ⟨rfl, rfl, by decide, by decide⟩ rfl (Nat.le_of_ble_eq_true rfl) dL_law_587 ?_
  refine l_swap ?_
  refine j_icmp_eq 918 C rfl rfl dL_law_590 (by decide) (fun _ => ?_) (fun h0 => absurd rfl h0)
  exact hk σ' ρ' hv'
set_option maxRecDepth 100000 in
theorem law_17 {Γ : Cx} {cI cZ : ClassId} {ad ae : Nat → Nat} {b L i : Nat} {X : Nat → Int} {σ ρ : St} (C : CX cI cZ room_1 4 Γ code RL) (hX : SX Γ b L X) (hr : ∀ j : Nat, rg (X j)) (hI1 : inB ((i : Int) + 1) L) (hI2 : inB ((i : Int) + 2) L) (hI3 : inB ((i : Int) + 3) L) (hv : Inv σ ρ) (hk : ∀ σ' ρ' : St, Inv σ' ρ' → JJ wI Γ (wC ad cI cZ σ' ++ wR ae cI cZ ρ') 918 [(0, .ref b), (1, .ref (ad 0)), (2, .ref (ae 0)), (3, .int (iI (i : Int)))] []) : JJ wI Γ (wC ad cI cZ σ ++ wR ae cI cZ ρ) 595 [(0, .ref b), (1, .ref (ad 0)), (2, .ref (ae 0)), (3, .int (iI (i : Int)))] [] := by
  obtain ⟨r, σ', ρ', e1, e2, hv'⟩ := op_traded hv (a := X (ix ((i : Int) + 1))) (hr _)
  refine j_aload_n 1 C dL_law_595 rfl ?_
  refine j_aload_n 0 C dL_law_596 rfl ?_
  refine j_iload_n 3 C dL_law_597 rfl ?_
  refine j_iconst C dL_law_598 ?_
  refine j_iadd C dL_law_599 ?_
  refine l_sld hX C hI1 dL_law_600 ?_
  refine l_cVi (w1 := wC ad cI cZ) (q0 := 0) (ci := 10) (T := TX10) (N := 10) [.int (iI (X (ix ((i : Int) + 1))))] [] C (c_X10_traded _ _ ad cI cZ _ _ _ _ e1) mf_X10_traded wt_690 wt_691 wt_692 rfl rfl rfl ⟨rfl, rfl, by decide, by decide⟩ rfl (Nat.le_of_ble_eq_true rfl) dL_law_601 ?_
  refine j_aload_n 2 C dL_law_604 rfl ?_
  refine j_aload_n 0 C dL_law_605 rfl ?_
  refine j_iload_n 3 C dL_law_606 rfl ?_
  refine j_iconst C dL_law_607 ?_
  refine j_iadd C dL_law_608 ?_
  refine l_sld hX C hI1 dL_law_609 ?_
  refine l_swap ?_
  refine l_cVi (w1 := wR ae cI cZ) (q0 := 0) (ci := 11) (T := TX11) (N := 32) [.int (iI (X (ix ((i : Int) + 1))))] [.int (iI r)] C (c_X11_traded _ _ ae cI cZ _ _ _ _ e2) mf_X11_traded wt_1067 wt_1068 wt_1069 rfl rfl rfl ⟨rfl, rfl, by decide, by decide⟩ rfl (Nat.le_of_ble_eq_true rfl) dL_law_610 ?_
  refine l_swap ?_
  refine j_icmp_eq 918 C rfl rfl dL_law_613 (by decide) (fun _ => ?_) (fun h0 => absurd rfl h0)
  exact hk σ' ρ' hv'
set_option maxRecDepth 100000 in
theorem law_18 {Γ : Cx} {cI cZ : ClassId} {ad ae : Nat → Nat} {b L i : Nat} {X : Nat → Int} {σ ρ : St} (C : CX cI cZ room_1 4 Γ code RL) (hX : SX Γ b L X) (hr : ∀ j : Nat, rg (X j)) (hI1 : inB ((i : Int) + 1) L) (hI2 : inB ((i : Int) + 2) L) (hI3 : inB ((i : Int) + 3) L) (hv : Inv σ ρ) (hk : ∀ σ' ρ' : St, Inv σ' ρ' → JJ wI Γ (wC ad cI cZ σ' ++ wR ae cI cZ ρ') 918 [(0, .ref b), (1, .ref (ad 0)), (2, .ref (ae 0)), (3, .int (iI (i : Int)))] []) : JJ wI Γ (wC ad cI cZ σ ++ wR ae cI cZ ρ) 618 [(0, .ref b), (1, .ref (ad 0)), (2, .ref (ae 0)), (3, .int (iI (i : Int)))] [] := by
  obtain ⟨r, σ', ρ', e1, e2, hv'⟩ := op_strike hv (a := X (ix ((i : Int) + 1))) (hr _)
  refine j_aload_n 1 C dL_law_618 rfl ?_
  refine j_aload_n 0 C dL_law_619 rfl ?_
  refine j_iload_n 3 C dL_law_620 rfl ?_
  refine j_iconst C dL_law_621 ?_
  refine j_iadd C dL_law_622 ?_
  refine l_sld hX C hI1 dL_law_623 ?_
  refine l_cVi (w1 := wC ad cI cZ) (q0 := 0) (ci := 10) (T := TX10) (N := 10) [.int (iI (X (ix ((i : Int) + 1))))] [] C (c_X10_strike _ _ ad cI cZ _ _ _ _ e1) mf_X10_strike wt_694 wt_695 wt_696 rfl rfl rfl ⟨rfl, rfl, by decide, by decide⟩ rfl (Nat.le_of_ble_eq_true rfl) dL_law_624 ?_
  refine j_aload_n 2 C dL_law_627 rfl ?_
  refine j_aload_n 0 C dL_law_628 rfl ?_
  refine j_iload_n 3 C dL_law_629 rfl ?_
  refine j_iconst C dL_law_630 ?_
  refine j_iadd C dL_law_631 ?_
  refine l_sld hX C hI1 dL_law_632 ?_
  refine l_swap ?_
  refine l_cVi (w1 := wR ae cI cZ) (q0 := 0) (ci := 11) (T := TX11) (N := 32) [.int (iI (X (ix ((i : Int) + 1))))] [.int (iI r)] C (c_X11_strike _ _ ae cI cZ _ _ _ _ e2) mf_X11_strike wt_1072 wt_1073 wt_1074 rfl rfl rfl ⟨rfl, rfl, by decide, by decide⟩ rfl (Nat.le_of_ble_eq_true rfl) dL_law_633 ?_
  refine l_swap ?_
  refine j_icmp_eq 918 C rfl rfl dL_law_636 (by decide) (fun _ => ?_) (fun h0 => absurd rfl h0)
  exact hk σ' ρ' hv'
set_option maxRecDepth 100000 in
theorem law_19 {Γ : Cx} {cI cZ : ClassId} {ad ae : Nat → Nat} {b L i : Nat} {X : Nat → Int} {σ ρ : St} (C : CX cI cZ room_1 4 Γ code RL) (hX : SX Γ b L X) (hr : ∀ j : Nat, rg (X j)) (hI1 : inB ((i : Int) + 1) L) (hI2 : inB ((i : Int) + 2) L) (hI3 : inB ((i : Int) + 3) L) (hv : Inv σ ρ) (hk : ∀ σ' ρ' : St, Inv σ' ρ' → JJ wI Γ (wC ad cI cZ σ' ++ wR ae cI cZ ρ') 918 [(0, .ref b), (1, .ref (ad 0)), (2, .ref (ae 0)), (3, .int (iI (i : Int)))] []) : JJ wI Γ (wC ad cI cZ σ ++ wR ae cI cZ ρ) 641 [(0, .ref b), (1, .ref (ad 0)), (2, .ref (ae 0)), (3, .int (iI (i : Int)))] [] := by
  obtain ⟨r, σ', ρ', e1, e2, hv'⟩ := op_license hv (a := X (ix ((i : Int) + 1))) (hr _)
  refine j_aload_n 1 C dL_law_641 rfl ?_
  refine j_aload_n 0 C dL_law_642 rfl ?_
  refine j_iload_n 3 C dL_law_643 rfl ?_
  refine j_iconst C dL_law_644 ?_
  refine j_iadd C dL_law_645 ?_
  refine l_sld hX C hI1 dL_law_646 ?_
  refine l_cVi (w1 := wC ad cI cZ) (q0 := 0) (ci := 10) (T := TX10) (N := 10) [.int (iI (X (ix ((i : Int) + 1))))] [] C (c_X10_license _ _ ad cI cZ _ _ _ _ e1) mf_X10_license wt_740 wt_741 wt_742 rfl rfl rfl ⟨rfl, rfl, by decide, by decide⟩ rfl (Nat.le_of_ble_eq_true rfl) dL_law_647 ?_
  refine j_aload_n 2 C dL_law_650 rfl ?_
  refine j_aload_n 0 C dL_law_651 rfl ?_
  refine j_iload_n 3 C dL_law_652 rfl ?_
  refine j_iconst C dL_law_653 ?_
  refine j_iadd C dL_law_654 ?_
  refine l_sld hX C hI1 dL_law_655 ?_
  refine l_swap ?_
  refine l_cVi (w1 := wR ae cI cZ) (q0 := 0) (ci := 11) (T := TX11) (N := 32) [.int (iI (X (ix ((i : Int) + 1))))] [.int (iI r)] C (c_X11_license _ _ ae cI cZ _ _ _ _ e2) mf_X11_license wt_1092 wt_1093 wt_1094 rfl rfl rfl ⟨rfl, rfl, by decide, by decide⟩ rfl (Nat.le_of_ble_eq_true rfl) dL_law_656 ?_
  refine l_swap ?_
  refine j_icmp_eq 918 C rfl rfl dL_law_659 (by decide) (fun _ => ?_) (fun h0 => absurd rfl h0)
  exact hk σ' ρ' hv'
set_option maxRecDepth 100000 in
theorem law_20 {Γ : Cx} {cI cZ : ClassId} {ad ae : Nat → Nat} {b L i : Nat} {X : Nat → Int} {σ ρ : St} (C : CX cI cZ room_1 4 Γ code RL) (hX : SX Γ b L X) (hr : ∀ j : Nat, rg (X j)) (hI1 : inB ((i : Int) + 1) L) (hI2 : inB ((i : Int) + 2) L) (hI3 : inB ((i : Int) + 3) L) (hv : Inv σ ρ) (hk : ∀ σ' ρ' : St, Inv σ' ρ' → JJ wI Γ (wC ad cI cZ σ' ++ wR ae cI cZ ρ') 918 [(0, .ref b), (1, .ref (ad 0)), (2, .ref (ae 0)), (3, .int (iI (i : Int)))] []) : JJ wI Γ (wC ad cI cZ σ ++ wR ae cI cZ ρ) 664 [(0, .ref b), (1, .ref (ad 0)), (2, .ref (ae 0)), (3, .int (iI (i : Int)))] [] := by
  by_cases hz : w32 (X (ix ((i : Int) + 2))) = 0
  · obtain ⟨r, σ', ρ', e1, e2, hv'⟩ := op_away hv (a := X (ix ((i : Int) + 1))) (b := 0) (hr _) (Or.inl rfl)
    refine j_aload_n 1 C dL_law_664 rfl ?_
    refine j_aload_n 0 C dL_law_665 rfl ?_
    refine j_iload_n 3 C dL_law_666 rfl ?_
    refine j_iconst C dL_law_667 ?_
    refine j_iadd C dL_law_668 ?_
    refine l_sld hX C hI1 dL_law_669 ?_
    refine j_aload_n 0 C dL_law_670 rfl ?_
    refine j_iload_n 3 C dL_law_671 rfl ?_
    refine j_iconst C dL_law_672 ?_
    refine j_iadd C dL_law_673 ?_
    refine l_sld hX C hI2 dL_law_674 ?_
    refine j_if_eq 682 C rfl dL_law_675 (by decide) (fun _ => ?_) (fun h0 => absurd hz h0)
    refine j_iconst C dL_law_682 ?_
    refine l_cVi (w1 := wC ad cI cZ) (q0 := 0) (ci := 10) (T := TX10) (N := 10) [.int (iI (X (ix ((i : Int) + 1)))), .int (iI 0)] [] C (c_X10_away _ _ ad cI cZ _ _ _ _ _ e1) mf_X10_away wt_744 wt_745 wt_746 rfl rfl rfl ⟨rfl, rfl, by decide, by decide⟩ rfl (Nat.le_of_ble_eq_true rfl) dL_law_683 ?_
    refine j_aload_n 2 C dL_law_686 rfl ?_
    refine j_aload_n 0 C dL_law_687 rfl ?_
    refine j_iload_n 3 C dL_law_688 rfl ?_
    refine j_iconst C dL_law_689 ?_
    refine j_iadd C dL_law_690 ?_
    refine l_sld hX C hI1 dL_law_691 ?_
    refine j_aload_n 0 C dL_law_692 rfl ?_
    refine j_iload_n 3 C dL_law_693 rfl ?_
    refine j_iconst C dL_law_694 ?_
    refine j_iadd C dL_law_695 ?_
    refine l_sld hX C hI2 dL_law_696 ?_
    refine j_if_eq 704 C rfl dL_law_697 (by decide) (fun _ => ?_) (fun h0 => absurd hz h0)
    refine j_iconst C dL_law_704 ?_
    refine l_swap ?_
    refine l_cVi (w1 := wR ae cI cZ) (q0 := 0) (ci := 11) (T := TX11) (N := 32) [.int (iI (X (ix ((i : Int) + 1)))), .int (iI 0)] [.int (iI r)] C (c_X11_away _ _ ae cI cZ _ _ _ _ _ e2) mf_X11_away wt_1096 wt_1097 wt_1098 rfl rfl rfl ⟨rfl, rfl, by decide, by decide⟩ rfl (Nat.le_of_ble_eq_true rfl) dL_law_705 ?_
    refine l_swap ?_
    refine j_icmp_eq 918 C rfl rfl dL_law_708 (by decide) (fun _ => ?_) (fun h0 => absurd rfl h0)
    exact hk σ' ρ' hv'
  · obtain ⟨r, σ', ρ', e1, e2, hv'⟩ := op_away hv (a := X (ix ((i : Int) + 1))) (b := 1) (hr _) (Or.inr rfl)
    refine j_aload_n 1 C dL_law_664 rfl ?_
    refine j_aload_n 0 C dL_law_665 rfl ?_
    refine j_iload_n 3 C dL_law_666 rfl ?_
    refine j_iconst C dL_law_667 ?_
    refine j_iadd C dL_law_668 ?_
    refine l_sld hX C hI1 dL_law_669 ?_
    refine j_aload_n 0 C dL_law_670 rfl ?_
    refine j_iload_n 3 C dL_law_671 rfl ?_
    refine j_iconst C dL_law_672 ?_
    refine j_iadd C dL_law_673 ?_
    refine l_sld hX C hI2 dL_law_674 ?_
    refine j_if_eq 682 C rfl dL_law_675 (by decide) (fun h0 => absurd h0 hz) (fun _ => ?_)
    refine j_iconst C dL_law_678 ?_
    refine j_goto 683 C dL_law_679 (by decide) ?_
    refine l_cVi (w1 := wC ad cI cZ) (q0 := 0) (ci := 10) (T := TX10) (N := 10) [.int (iI (X (ix ((i : Int) + 1)))), .int (iI 1)] [] C (c_X10_away _ _ ad cI cZ _ _ _ _ _ e1) mf_X10_away wt_744 wt_745 wt_746 rfl rfl rfl ⟨rfl, rfl, by decide, by decide⟩ rfl (Nat.le_of_ble_eq_true rfl) dL_law_683 ?_
    refine j_aload_n 2 C dL_law_686 rfl ?_
    refine j_aload_n 0 C dL_law_687 rfl ?_
    refine j_iload_n 3 C dL_law_688 rfl ?_
    refine j_iconst C dL_law_689 ?_
    refine j_iadd C dL_law_690 ?_
    refine l_sld hX C hI1 dL_law_691 ?_
    refine j_aload_n 0 C dL_law_692 rfl ?_
    refine j_iload_n 3 C dL_law_693 rfl ?_
    refine j_iconst C dL_law_694 ?_
    refine j_iadd C dL_law_695 ?_
    refine l_sld hX C hI2 dL_law_696 ?_
    refine j_if_eq 704 C rfl dL_law_697 (by decide) (fun h0 => absurd h0 hz) (fun _ => ?_)
    refine j_iconst C dL_law_700 ?_
    refine j_goto 705 C dL_law_701 (by decide) ?_
    refine l_swap ?_
    refine l_cVi (w1 := wR ae cI cZ) (q0 := 0) (ci := 11) (T := TX11) (N := 32) [.int (iI (X (ix ((i : Int) + 1)))), .int (iI 1)] [.int (iI r)] C (c_X11_away _ _ ae cI cZ _ _ _ _ _ e2) mf_X11_away wt_1096 wt_1097 wt_1098 rfl rfl rfl ⟨rfl, rfl, by decide, by decide⟩ rfl (Nat.le_of_ble_eq_true rfl) dL_law_705 ?_
    refine l_swap ?_
    refine j_icmp_eq 918 C rfl rfl dL_law_708 (by decide) (fun _ => ?_) (fun h0 => absurd rfl h0)
    exact hk σ' ρ' hv'
set_option maxRecDepth 100000 in
theorem law_21 {Γ : Cx} {cI cZ : ClassId} {ad ae : Nat → Nat} {b L i : Nat} {X : Nat → Int} {σ ρ : St} (C : CX cI cZ room_1 4 Γ code RL) (hX : SX Γ b L X) (hr : ∀ j : Nat, rg (X j)) (hI1 : inB ((i : Int) + 1) L) (hI2 : inB ((i : Int) + 2) L) (hI3 : inB ((i : Int) + 3) L) (hv : Inv σ ρ) (hk : ∀ σ' ρ' : St, Inv σ' ρ' → JJ wI Γ (wC ad cI cZ σ' ++ wR ae cI cZ ρ') 918 [(0, .ref b), (1, .ref (ad 0)), (2, .ref (ae 0)), (3, .int (iI (i : Int)))] []) : JJ wI Γ (wC ad cI cZ σ ++ wR ae cI cZ ρ) 713 [(0, .ref b), (1, .ref (ad 0)), (2, .ref (ae 0)), (3, .int (iI (i : Int)))] [] := by
  obtain ⟨r, σ', ρ', e1, e2, hv'⟩ := op_pass hv (a := X (ix ((i : Int) + 1))) (hr _)
  refine j_aload_n 1 C dL_law_713 rfl ?_
  refine j_aload_n 0 C dL_law_714 rfl ?_
  refine j_iload_n 3 C dL_law_715 rfl ?_
  refine j_iconst C dL_law_716 ?_
  refine j_iadd C dL_law_717 ?_
  refine l_sld hX C hI1 dL_law_718 ?_
  refine l_cVi (w1 := wC ad cI cZ) (q0 := 0) (ci := 10) (T := TX10) (N := 10) [.int (iI (X (ix ((i : Int) + 1))))] [] C (c_X10_pass _ _ ad cI cZ _ _ _ _ e1) mf_X10_pass wt_748 wt_749 wt_750 rfl rfl rfl ⟨rfl, rfl, by decide, by decide⟩ rfl (Nat.le_of_ble_eq_true rfl) dL_law_719 ?_
  refine j_aload_n 2 C dL_law_722 rfl ?_
  refine j_aload_n 0 C dL_law_723 rfl ?_
  refine j_iload_n 3 C dL_law_724 rfl ?_
  refine j_iconst C dL_law_725 ?_
  refine j_iadd C dL_law_726 ?_
  refine l_sld hX C hI1 dL_law_727 ?_
  refine l_swap ?_
  refine l_cVi (w1 := wR ae cI cZ) (q0 := 0) (ci := 11) (T := TX11) (N := 32) [.int (iI (X (ix ((i : Int) + 1))))] [.int (iI r)] C (c_X11_pass _ _ ae cI cZ _ _ _ _ e2) mf_X11_pass wt_1100 wt_1101 wt_1102 rfl rfl rfl ⟨rfl, rfl, by decide, by decide⟩ rfl (Nat.le_of_ble_eq_true rfl) dL_law_728 ?_
  refine l_swap ?_
  refine j_icmp_eq 918 C rfl rfl dL_law_731 (by decide) (fun _ => ?_) (fun h0 => absurd rfl h0)
  exact hk σ' ρ' hv'
set_option maxRecDepth 100000 in
theorem law_22 {Γ : Cx} {cI cZ : ClassId} {ad ae : Nat → Nat} {b L i : Nat} {X : Nat → Int} {σ ρ : St} (C : CX cI cZ room_1 4 Γ code RL) (hX : SX Γ b L X) (hr : ∀ j : Nat, rg (X j)) (hI1 : inB ((i : Int) + 1) L) (hI2 : inB ((i : Int) + 2) L) (hI3 : inB ((i : Int) + 3) L) (hv : Inv σ ρ) (hk : ∀ σ' ρ' : St, Inv σ' ρ' → JJ wI Γ (wC ad cI cZ σ' ++ wR ae cI cZ ρ') 918 [(0, .ref b), (1, .ref (ad 0)), (2, .ref (ae 0)), (3, .int (iI (i : Int)))] []) : JJ wI Γ (wC ad cI cZ σ ++ wR ae cI cZ ρ) 736 [(0, .ref b), (1, .ref (ad 0)), (2, .ref (ae 0)), (3, .int (iI (i : Int)))] [] := by
  obtain ⟨r, σ', ρ', e1, e2, hv'⟩ := op_price hv (a := X (ix ((i : Int) + 1))) (b := X (ix ((i : Int) + 2))) (c := X (ix ((i : Int) + 3))) (hr _) (hr _) (hr _)
  refine j_aload_n 1 C dL_law_736 rfl ?_
  refine j_aload_n 0 C dL_law_737 rfl ?_
  refine j_iload_n 3 C dL_law_738 rfl ?_
  refine j_iconst C dL_law_739 ?_
  refine j_iadd C dL_law_740 ?_
  refine l_sld hX C hI1 dL_law_741 ?_
  refine j_aload_n 0 C dL_law_742 rfl ?_
  refine j_iload_n 3 C dL_law_743 rfl ?_
  refine j_iconst C dL_law_744 ?_
  refine j_iadd C dL_law_745 ?_
  refine l_sld hX C hI2 dL_law_746 ?_
  refine j_aload_n 0 C dL_law_747 rfl ?_
  refine j_iload_n 3 C dL_law_748 rfl ?_
  refine j_iconst C dL_law_749 ?_
  refine j_iadd C dL_law_750 ?_
  refine l_sld hX C hI3 dL_law_751 ?_
  refine l_cVi (w1 := wC ad cI cZ) (q0 := 0) (ci := 10) (T := TX10) (N := 10) [.int (iI (X (ix ((i : Int) + 1)))), .int (iI (X (ix ((i : Int) + 2)))), .int (iI (X (ix ((i : Int) + 3))))] [] C (c_X10_price _ _ ad cI cZ _ _ _ _ _ _ e1) mf_X10_price wt_757 wt_758 wt_759 rfl rfl rfl ⟨rfl, rfl, by decide, by decide⟩ rfl (Nat.le_of_ble_eq_true rfl) dL_law_752 ?_
  refine j_aload_n 2 C dL_law_755 rfl ?_
  refine j_aload_n 0 C dL_law_756 rfl ?_
  refine j_iload_n 3 C dL_law_757 rfl ?_
  refine j_iconst C dL_law_758 ?_
  refine j_iadd C dL_law_759 ?_
  refine l_sld hX C hI1 dL_law_760 ?_
  refine j_aload_n 0 C dL_law_761 rfl ?_
  refine j_iload_n 3 C dL_law_762 rfl ?_
  refine j_iconst C dL_law_763 ?_
  refine j_iadd C dL_law_764 ?_
  refine l_sld hX C hI2 dL_law_765 ?_
  refine j_aload_n 0 C dL_law_766 rfl ?_
  refine j_iload_n 3 C dL_law_767 rfl ?_
  refine j_iconst C dL_law_768 ?_
  refine j_iadd C dL_law_769 ?_
  refine l_sld hX C hI3 dL_law_770 ?_
  refine l_swap ?_
  refine l_cVi (w1 := wR ae cI cZ) (q0 := 0) (ci := 11) (T := TX11) (N := 32) [.int (iI (X (ix ((i : Int) + 1)))), .int (iI (X (ix ((i : Int) + 2)))), .int (iI (X (ix ((i : Int) + 3))))] [.int (iI r)] C (c_X11_price _ _ ae cI cZ _ _ _ _ _ _ e2) mf_X11_price wt_1105 wt_1106 wt_1107 rfl rfl rfl ⟨rfl, rfl, by decide, by decide⟩ rfl (Nat.le_of_ble_eq_true rfl) dL_law_771 ?_
  refine l_swap ?_
  refine j_icmp_eq 918 C rfl rfl dL_law_774 (by decide) (fun _ => ?_) (fun h0 => absurd rfl h0)
  exact hk σ' ρ' hv'
set_option maxRecDepth 100000 in
theorem law_23 {Γ : Cx} {cI cZ : ClassId} {ad ae : Nat → Nat} {b L i : Nat} {X : Nat → Int} {σ ρ : St} (C : CX cI cZ room_1 4 Γ code RL) (hX : SX Γ b L X) (hr : ∀ j : Nat, rg (X j)) (hI1 : inB ((i : Int) + 1) L) (hI2 : inB ((i : Int) + 2) L) (hI3 : inB ((i : Int) + 3) L) (hv : Inv σ ρ) (hk : ∀ σ' ρ' : St, Inv σ' ρ' → JJ wI Γ (wC ad cI cZ σ' ++ wR ae cI cZ ρ') 918 [(0, .ref b), (1, .ref (ad 0)), (2, .ref (ae 0)), (3, .int (iI (i : Int)))] []) : JJ wI Γ (wC ad cI cZ σ ++ wR ae cI cZ ρ) 779 [(0, .ref b), (1, .ref (ad 0)), (2, .ref (ae 0)), (3, .int (iI (i : Int)))] [] := by
  obtain ⟨r, σ', ρ', e1, e2, hv'⟩ := op_priced hv (a := X (ix ((i : Int) + 1))) (b := X (ix ((i : Int) + 2))) (hr _) (hr _)
  refine j_aload_n 1 C dL_law_779 rfl ?_
  refine j_aload_n 0 C dL_law_780 rfl ?_
  refine j_iload_n 3 C dL_law_781 rfl ?_
  refine j_iconst C dL_law_782 ?_
  refine j_iadd C dL_law_783 ?_
  refine l_sld hX C hI1 dL_law_784 ?_
  refine j_aload_n 0 C dL_law_785 rfl ?_
  refine j_iload_n 3 C dL_law_786 rfl ?_
  refine j_iconst C dL_law_787 ?_
  refine j_iadd C dL_law_788 ?_
  refine l_sld hX C hI2 dL_law_789 ?_
  refine l_cVi (w1 := wC ad cI cZ) (q0 := 0) (ci := 10) (T := TX10) (N := 10) [.int (iI (X (ix ((i : Int) + 1)))), .int (iI (X (ix ((i : Int) + 2))))] [] C (c_X10_priced _ _ ad cI cZ _ _ _ _ _ e1) mf_X10_priced wt_773 wt_774 wt_775 rfl rfl rfl ⟨rfl, rfl, by decide, by decide⟩ rfl (Nat.le_of_ble_eq_true rfl) dL_law_790 ?_
  refine j_aload_n 2 C dL_law_793 rfl ?_
  refine j_aload_n 0 C dL_law_794 rfl ?_
  refine j_iload_n 3 C dL_law_795 rfl ?_
  refine j_iconst C dL_law_796 ?_
  refine j_iadd C dL_law_797 ?_
  refine l_sld hX C hI1 dL_law_798 ?_
  refine j_aload_n 0 C dL_law_799 rfl ?_
  refine j_iload_n 3 C dL_law_800 rfl ?_
  refine j_iconst C dL_law_801 ?_
  refine j_iadd C dL_law_802 ?_
  refine l_sld hX C hI2 dL_law_803 ?_
  refine l_swap ?_
  refine l_cVi (w1 := wR ae cI cZ) (q0 := 0) (ci := 11) (T := TX11) (N := 32) [.int (iI (X (ix ((i : Int) + 1)))), .int (iI (X (ix ((i : Int) + 2))))] [.int (iI r)] C (c_X11_priced _ _ ae cI cZ _ _ _ _ _ e2) mf_X11_priced wt_1111 wt_1112 wt_1113 rfl rfl rfl ⟨rfl, rfl, by decide, by decide⟩ rfl (Nat.le_of_ble_eq_true rfl) dL_law_804 ?_
  refine l_swap ?_
  refine j_icmp_eq 918 C rfl rfl dL_law_807 (by decide) (fun _ => ?_) (fun h0 => absurd rfl h0)
  exact hk σ' ρ' hv'
set_option maxRecDepth 100000 in
theorem law_24 {Γ : Cx} {cI cZ : ClassId} {ad ae : Nat → Nat} {b L i : Nat} {X : Nat → Int} {σ ρ : St} (C : CX cI cZ room_1 4 Γ code RL) (hX : SX Γ b L X) (hr : ∀ j : Nat, rg (X j)) (hI1 : inB ((i : Int) + 1) L) (hI2 : inB ((i : Int) + 2) L) (hI3 : inB ((i : Int) + 3) L) (hv : Inv σ ρ) (hk : ∀ σ' ρ' : St, Inv σ' ρ' → JJ wI Γ (wC ad cI cZ σ' ++ wR ae cI cZ ρ') 918 [(0, .ref b), (1, .ref (ad 0)), (2, .ref (ae 0)), (3, .int (iI (i : Int)))] []) : JJ wI Γ (wC ad cI cZ σ ++ wR ae cI cZ ρ) 812 [(0, .ref b), (1, .ref (ad 0)), (2, .ref (ae 0)), (3, .int (iI (i : Int)))] [] := by
  obtain ⟨r, σ', ρ', e1, e2, hv'⟩ := op_had hv (a := X (ix ((i : Int) + 1))) (b := X (ix ((i : Int) + 2))) (hr _) (hr _)
  refine j_aload_n 1 C dL_law_812 rfl ?_
  refine j_aload_n 0 C dL_law_813 rfl ?_
  refine j_iload_n 3 C dL_law_814 rfl ?_
  refine j_iconst C dL_law_815 ?_
  refine j_iadd C dL_law_816 ?_
  refine l_sld hX C hI1 dL_law_817 ?_
  refine j_aload_n 0 C dL_law_818 rfl ?_
  refine j_iload_n 3 C dL_law_819 rfl ?_
  refine j_iconst C dL_law_820 ?_
  refine j_iadd C dL_law_821 ?_
  refine l_sld hX C hI2 dL_law_822 ?_
  refine l_cVi (w1 := wC ad cI cZ) (q0 := 0) (ci := 10) (T := TX10) (N := 10) [.int (iI (X (ix ((i : Int) + 1)))), .int (iI (X (ix ((i : Int) + 2))))] [] C (c_X10_had _ _ ad cI cZ _ _ _ _ _ e1) mf_X10_had wt_785 wt_786 wt_787 rfl rfl rfl ⟨rfl, rfl, by decide, by decide⟩ rfl (Nat.le_of_ble_eq_true rfl) dL_law_823 ?_
  refine j_aload_n 2 C dL_law_826 rfl ?_
  refine j_aload_n 0 C dL_law_827 rfl ?_
  refine j_iload_n 3 C dL_law_828 rfl ?_
  refine j_iconst C dL_law_829 ?_
  refine j_iadd C dL_law_830 ?_
  refine l_sld hX C hI1 dL_law_831 ?_
  refine j_aload_n 0 C dL_law_832 rfl ?_
  refine j_iload_n 3 C dL_law_833 rfl ?_
  refine j_iconst C dL_law_834 ?_
  refine j_iadd C dL_law_835 ?_
  refine l_sld hX C hI2 dL_law_836 ?_
  refine l_swap ?_
  refine l_cVi (w1 := wR ae cI cZ) (q0 := 0) (ci := 11) (T := TX11) (N := 32) [.int (iI (X (ix ((i : Int) + 1)))), .int (iI (X (ix ((i : Int) + 2))))] [.int (iI r)] C (c_X11_had _ _ ae cI cZ _ _ _ _ _ e2) mf_X11_had wt_1119 wt_1120 wt_1121 rfl rfl rfl ⟨rfl, rfl, by decide, by decide⟩ rfl (Nat.le_of_ble_eq_true rfl) dL_law_837 ?_
  refine l_swap ?_
  refine j_icmp_eq 918 C rfl rfl dL_law_840 (by decide) (fun _ => ?_) (fun h0 => absurd rfl h0)
  exact hk σ' ρ' hv'
set_option maxRecDepth 100000 in
theorem law_25 {Γ : Cx} {cI cZ : ClassId} {ad ae : Nat → Nat} {b L i : Nat} {X : Nat → Int} {σ ρ : St} (C : CX cI cZ room_1 4 Γ code RL) (hX : SX Γ b L X) (hr : ∀ j : Nat, rg (X j)) (hI1 : inB ((i : Int) + 1) L) (hI2 : inB ((i : Int) + 2) L) (hI3 : inB ((i : Int) + 3) L) (hv : Inv σ ρ) (hk : ∀ σ' ρ' : St, Inv σ' ρ' → JJ wI Γ (wC ad cI cZ σ' ++ wR ae cI cZ ρ') 918 [(0, .ref b), (1, .ref (ad 0)), (2, .ref (ae 0)), (3, .int (iI (i : Int)))] []) : JJ wI Γ (wC ad cI cZ σ ++ wR ae cI cZ ρ) 845 [(0, .ref b), (1, .ref (ad 0)), (2, .ref (ae 0)), (3, .int (iI (i : Int)))] [] := by
  obtain ⟨r, σ', ρ', e1, e2, hv'⟩ := op_bill hv (a := X (ix ((i : Int) + 1))) (hr _)
  refine j_aload_n 1 C dL_law_845 rfl ?_
  refine j_aload_n 0 C dL_law_846 rfl ?_
  refine j_iload_n 3 C dL_law_847 rfl ?_
  refine j_iconst C dL_law_848 ?_
  refine j_iadd C dL_law_849 ?_
  refine l_sld hX C hI1 dL_law_850 ?_
  refine l_cVi (w1 := wC ad cI cZ) (q0 := 0) (ci := 10) (T := TX10) (N := 10) [.int (iI (X (ix ((i : Int) + 1))))] [] C (c_X10_bill _ _ ad cI cZ _ _ _ _ e1) mf_X10_bill wt_794 wt_795 wt_796 rfl rfl rfl ⟨rfl, rfl, by decide, by decide⟩ rfl (Nat.le_of_ble_eq_true rfl) dL_law_851 ?_
  refine j_aload_n 2 C dL_law_854 rfl ?_
  refine j_aload_n 0 C dL_law_855 rfl ?_
  refine j_iload_n 3 C dL_law_856 rfl ?_
  refine j_iconst C dL_law_857 ?_
  refine j_iadd C dL_law_858 ?_
  refine l_sld hX C hI1 dL_law_859 ?_
  refine l_swap ?_
  refine l_cVi (w1 := wR ae cI cZ) (q0 := 0) (ci := 11) (T := TX11) (N := 32) [.int (iI (X (ix ((i : Int) + 1))))] [.int (iI r)] C (c_X11_bill _ _ ae cI cZ _ _ _ _ e2) mf_X11_bill wt_1123 wt_1124 wt_1125 rfl rfl rfl ⟨rfl, rfl, by decide, by decide⟩ rfl (Nat.le_of_ble_eq_true rfl) dL_law_860 ?_
  refine l_swap ?_
  refine j_icmp_eq 918 C rfl rfl dL_law_863 (by decide) (fun _ => ?_) (fun h0 => absurd rfl h0)
  exact hk σ' ρ' hv'
set_option maxRecDepth 100000 in
theorem law_26 {Γ : Cx} {cI cZ : ClassId} {ad ae : Nat → Nat} {b L i : Nat} {X : Nat → Int} {σ ρ : St} (C : CX cI cZ room_1 4 Γ code RL) (hX : SX Γ b L X) (hr : ∀ j : Nat, rg (X j)) (hI1 : inB ((i : Int) + 1) L) (hI2 : inB ((i : Int) + 2) L) (hI3 : inB ((i : Int) + 3) L) (hv : Inv σ ρ) (hk : ∀ σ' ρ' : St, Inv σ' ρ' → JJ wI Γ (wC ad cI cZ σ' ++ wR ae cI cZ ρ') 918 [(0, .ref b), (1, .ref (ad 0)), (2, .ref (ae 0)), (3, .int (iI (i : Int)))] []) : JJ wI Γ (wC ad cI cZ σ ++ wR ae cI cZ ρ) 868 [(0, .ref b), (1, .ref (ad 0)), (2, .ref (ae 0)), (3, .int (iI (i : Int)))] [] := by
  obtain ⟨r, σ', ρ', e1, e2, hv'⟩ := op_matter hv
  refine j_aload_n 1 C dL_law_868 rfl ?_
  refine l_cVi (w1 := wC ad cI cZ) (q0 := 0) (ci := 10) (T := TX10) (N := 10) [] [] C (c_X10_matter _ _ ad cI cZ _ _ _ e1) mf_X10_matter wt_799 wt_800 wt_801 rfl rfl rfl ⟨rfl, rfl, by decide, by decide⟩ rfl (Nat.le_of_ble_eq_true rfl) dL_law_869 ?_
  refine j_aload_n 2 C dL_law_872 rfl ?_
  refine l_swap ?_
  refine l_cVi (w1 := wR ae cI cZ) (q0 := 0) (ci := 11) (T := TX11) (N := 32) [] [.int (iI r)] C (c_X11_matter _ _ ae cI cZ _ _ _ e2) mf_X11_matter wt_1131 wt_1132 wt_1133 rfl rfl rfl ⟨rfl, rfl, by decide, by decide⟩ rfl (Nat.le_of_ble_eq_true rfl) dL_law_873 ?_
  refine l_swap ?_
  refine j_icmp_eq 918 C rfl rfl dL_law_876 (by decide) (fun _ => ?_) (fun h0 => absurd rfl h0)
  exact hk σ' ρ' hv'
set_option maxRecDepth 100000 in
theorem law_27 {Γ : Cx} {cI cZ : ClassId} {ad ae : Nat → Nat} {b L i : Nat} {X : Nat → Int} {σ ρ : St} (C : CX cI cZ room_1 4 Γ code RL) (hX : SX Γ b L X) (hr : ∀ j : Nat, rg (X j)) (hI1 : inB ((i : Int) + 1) L) (hI2 : inB ((i : Int) + 2) L) (hI3 : inB ((i : Int) + 3) L) (hv : Inv σ ρ) (hk : ∀ σ' ρ' : St, Inv σ' ρ' → JJ wI Γ (wC ad cI cZ σ' ++ wR ae cI cZ ρ') 918 [(0, .ref b), (1, .ref (ad 0)), (2, .ref (ae 0)), (3, .int (iI (i : Int)))] []) : JJ wI Γ (wC ad cI cZ σ ++ wR ae cI cZ ρ) 881 [(0, .ref b), (1, .ref (ad 0)), (2, .ref (ae 0)), (3, .int (iI (i : Int)))] [] := by
  obtain ⟨r, e1, e2⟩ := op_count hv (a := X (ix ((i : Int) + 1))) (hr _)
  have hv' := hv
  refine j_aload_n 1 C dL_law_881 rfl ?_
  refine j_aload_n 0 C dL_law_882 rfl ?_
  refine j_iload_n 3 C dL_law_883 rfl ?_
  refine j_iconst C dL_law_884 ?_
  refine j_iadd C dL_law_885 ?_
  refine l_sld hX C hI1 dL_law_886 ?_
  refine l_cVi (w1 := wC ad cI cZ) (q0 := 0) (ci := 10) (T := TX10) (N := 10) [.int (iI (X (ix ((i : Int) + 1))))] [] C (c_X10_count _ _ ad cI cZ _ _ _ _ e1) mf_X10_count wt_813 wt_814 wt_815 rfl rfl rfl ⟨rfl, rfl, by decide, by decide⟩ rfl (Nat.le_of_ble_eq_true rfl) dL_law_887 ?_
  refine j_aload_n 2 C dL_law_890 rfl ?_
  refine j_aload_n 0 C dL_law_891 rfl ?_
  refine j_iload_n 3 C dL_law_892 rfl ?_
  refine j_iconst C dL_law_893 ?_
  refine j_iadd C dL_law_894 ?_
  refine l_sld hX C hI1 dL_law_895 ?_
  refine l_swap ?_
  refine l_cVi (w1 := wR ae cI cZ) (q0 := 0) (ci := 11) (T := TX11) (N := 32) [.int (iI (X (ix ((i : Int) + 1))))] [.int (iI r)] C (c_X11_count _ _ ae cI cZ _ _ _ _ e2) mf_X11_count wt_1136 wt_1137 wt_1138 rfl rfl rfl ⟨rfl, rfl, by decide, by decide⟩ rfl (Nat.le_of_ble_eq_true rfl) dL_law_896 ?_
  refine l_swap ?_
  refine j_icmp_eq 918 C rfl rfl dL_law_899 (by decide) (fun _ => ?_) (fun h0 => absurd rfl h0)
  exact hk σ ρ hv'
set_option maxRecDepth 100000 in
theorem law_28 {Γ : Cx} {cI cZ : ClassId} {ad ae : Nat → Nat} {b L i : Nat} {X : Nat → Int} {σ ρ : St} (C : CX cI cZ room_1 4 Γ code RL) (hX : SX Γ b L X) (hr : ∀ j : Nat, rg (X j)) (hI1 : inB ((i : Int) + 1) L) (hI2 : inB ((i : Int) + 2) L) (hI3 : inB ((i : Int) + 3) L) (hv : Inv σ ρ) (hk : ∀ σ' ρ' : St, Inv σ' ρ' → JJ wI Γ (wC ad cI cZ σ' ++ wR ae cI cZ ρ') 918 [(0, .ref b), (1, .ref (ad 0)), (2, .ref (ae 0)), (3, .int (iI (i : Int)))] []) : JJ wI Γ (wC ad cI cZ σ ++ wR ae cI cZ ρ) 904 [(0, .ref b), (1, .ref (ad 0)), (2, .ref (ae 0)), (3, .int (iI (i : Int)))] [] := by
  obtain ⟨r, σ', ρ', e1, e2, hv'⟩ := op_digest hv
  refine j_aload_n 1 C dL_law_904 rfl ?_
  refine l_cVl (w1 := wC ad cI cZ) (q0 := 0) (ci := 10) (T := TX10) (N := 10) [] [] C (c_X10_digest _ _ ad cI cZ _ _ _ e1) mf_X10_digest wt_818 wt_819 wt_820 rfl rfl rfl ⟨rfl, rfl, by decide, by decide⟩ rfl (Nat.le_of_ble_eq_true rfl) dL_law_905 ?_
  refine j_aload_n 2 C dL_law_908 rfl ?_
  refine l_swap ?_
  refine l_cVl (w1 := wR ae cI cZ) (q0 := 0) (ci := 11) (T := TX11) (N := 32) [] [.long (iL r)] C (c_X11_digest _ _ ae cI cZ _ _ _ e2) mf_X11_digest wt_1140 wt_1141 wt_1142 rfl rfl rfl ⟨rfl, rfl, by decide, by decide⟩ rfl (Nat.le_of_ble_eq_true rfl) dL_law_909 ?_
  refine l_swap ?_
  refine j_lcmp C dL_law_912 ?_
  refine j_if_eq 918 C (cmpL_0 _) dL_law_913 (by decide) (fun _ => ?_) (fun h0 => absurd rfl h0)
  exact hk σ' ρ' hv'
set_option maxRecDepth 100000 in
theorem law_loop {Γ : Cx} {cI cZ : ClassId} {ad ae : Nat → Nat} {b L : Nat} {X : Nat → Int} (C : CX cI cZ room_1 4 Γ code RL) (hX : SX Γ b L X) (hr : ∀ j : Nat, rg (X j)) (hL : L ≤ 2048) (hend : ∀ (ws : va_W) (lv : List (Nat × Value)), JJ wI Γ ws 925 lv [.int (iI 1)]) : ∀ (m i : Nat) (σ ρ : St), Inv σ ρ → i ≤ L → L - i ≤ m → JJ wI Γ (wC ad cI cZ σ ++ wR ae cI cZ ρ) 18 [(0, .ref b), (1, .ref (ad 0)), (2, .ref (ae 0)), (3, .int (iI (i : Int)))] [] := by
  intro m
  induction m with
  | zero =>
    intro i σ ρ hv hi hm
    refine j_iload_n 3 C dL_law_18 rfl ?_
    refine j_aload_n 0 C dL_law_19 rfl ?_
    refine l_slen hX C dL_law_20 ?_
    refine j_iconst C dL_law_21 ?_
    refine j_isub C dL_law_22 ?_
    refine j_icmp_gt 924 C (w32_eq (by omega)) (w32_eq (by omega)) dL_law_23 (by decide) (fun h => ?_) (fun h => ?_)
    · refine j_iconst C dL_law_924 ?_
      exact hend _ _
    · exfalso; omega
  | succ m ih =>
    intro i σ ρ hv hi hm
    refine j_iload_n 3 C dL_law_18 rfl ?_
    refine j_aload_n 0 C dL_law_19 rfl ?_
    refine l_slen hX C dL_law_20 ?_
    refine j_iconst C dL_law_21 ?_
    refine j_isub C dL_law_22 ?_
    refine j_icmp_gt 924 C (w32_eq (by omega)) (w32_eq (by omega)) dL_law_23 (by decide) (fun h => ?_) (fun h => ?_)
    · refine j_iconst C dL_law_924 ?_
      exact hend _ _
    · have hI0 : inB (i : Int) L := by unfold inB; rw [w32_eq (by omega)]; omega
      have hI1 : inB ((i : Int) + 1) L := by unfold inB; rw [w32_eq (by omega)]; omega
      have hI2 : inB ((i : Int) + 2) L := by unfold inB; rw [w32_eq (by omega)]; omega
      have hI3 : inB ((i : Int) + 3) L := by unfold inB; rw [w32_eq (by omega)]; omega
      have hk : ∀ σ' ρ' : St, Inv σ' ρ' → JJ wI Γ (wC ad cI cZ σ' ++ wR ae cI cZ ρ') 918 [(0, .ref b), (1, .ref (ad 0)), (2, .ref (ae 0)), (3, .int (iI (i : Int)))] [] := by
        intro σ' ρ' hv'
        refine j_iinc 3 [(3, .int (iI ((i : Int) + 4))), (0, .ref b), (1, .ref (ad 0)), (2, .ref (ae 0))] C dL_law_918 (by decide) rfl rfl ?_
        refine j_goto 18 C dL_law_921 (by decide) ?_
        exact j_sub [1, 2, 3, 0] rfl (ih (i + 4) σ' ρ' hv' (by omega) (by omega))
      refine j_aload_n 0 C dL_law_26 rfl ?_
      refine j_iload_n 3 C dL_law_27 rfl ?_
      refine l_sld hX C hI0 dL_law_28 ?_
      refine j_bipush C dL_law_29 (by decide +kernel) ?_
      refine j_iand C dL_law_31 ?_
      by_cases h0 : w32 (bAnd (X (ix (i : Int))) 31) = 0
      · refine j_tabI 164 C (by omega) (by omega) (by rw [h0]; rfl) (by decide) dL_law_32 ?_
        exact law_0 C hX hr hI1 hI2 hI3 hv hk
      by_cases h1 : w32 (bAnd (X (ix (i : Int))) 31) = 1
      · refine j_tabI 207 C (by omega) (by omega) (by rw [h1]; rfl) (by decide) dL_law_32 ?_
        exact law_1 C hX hr hI1 hI2 hI3 hv hk
      by_cases h2 : w32 (bAnd (X (ix (i : Int))) 31) = 2
      · refine j_tabI 240 C (by omega) (by omega) (by rw [h2]; rfl) (by decide) dL_law_32 ?_
        exact law_2 C hX hr hI1 hI2 hI3 hv hk
      by_cases h3 : w32 (bAnd (X (ix (i : Int))) 31) = 3
      · refine j_tabI 273 C (by omega) (by omega) (by rw [h3]; rfl) (by decide) dL_law_32 ?_
        exact law_3 C hX hr hI1 hI2 hI3 hv hk
      by_cases h4 : w32 (bAnd (X (ix (i : Int))) 31) = 4
      · refine j_tabI 296 C (by omega) (by omega) (by rw [h4]; rfl) (by decide) dL_law_32 ?_
        exact law_4 C hX hr hI1 hI2 hI3 hv hk
      by_cases h5 : w32 (bAnd (X (ix (i : Int))) 31) = 5
      · refine j_tabI 329 C (by omega) (by omega) (by rw [h5]; rfl) (by decide) dL_law_32 ?_
        exact law_5 C hX hr hI1 hI2 hI3 hv hk
      by_cases h6 : w32 (bAnd (X (ix (i : Int))) 31) = 6
      · refine j_tabI 362 C (by omega) (by omega) (by rw [h6]; rfl) (by decide) dL_law_32 ?_
        exact law_6 C hX hr hI1 hI2 hI3 hv hk
      by_cases h7 : w32 (bAnd (X (ix (i : Int))) 31) = 7
      · refine j_tabI 395 C (by omega) (by omega) (by rw [h7]; rfl) (by decide) dL_law_32 ?_
        exact law_7 C hX hr hI1 hI2 hI3 hv hk
      by_cases h8 : w32 (bAnd (X (ix (i : Int))) 31) = 8
      · refine j_tabI 418 C (by omega) (by omega) (by rw [h8]; rfl) (by decide) dL_law_32 ?_
        exact law_8 C hX hr hI1 hI2 hI3 hv hk
      by_cases h9 : w32 (bAnd (X (ix (i : Int))) 31) = 9
      · refine j_tabI 431 C (by omega) (by omega) (by rw [h9]; rfl) (by decide) dL_law_32 ?_
        exact law_9 C hX hr hI1 hI2 hI3 hv hk
      by_cases h10 : w32 (bAnd (X (ix (i : Int))) 31) = 10
      · refine j_tabI 444 C (by omega) (by omega) (by rw [h10]; rfl) (by decide) dL_law_32 ?_
        exact law_10 C hX hr hI1 hI2 hI3 hv hk
      by_cases h11 : w32 (bAnd (X (ix (i : Int))) 31) = 11
      · refine j_tabI 477 C (by omega) (by omega) (by rw [h11]; rfl) (by decide) dL_law_32 ?_
        exact law_11 C hX hr hI1 hI2 hI3 hv hk
      by_cases h12 : w32 (bAnd (X (ix (i : Int))) 31) = 12
      · refine j_tabI 490 C (by omega) (by omega) (by rw [h12]; rfl) (by decide) dL_law_32 ?_
        exact law_12 C hX hr hI1 hI2 hI3 hv hk
      by_cases h13 : w32 (bAnd (X (ix (i : Int))) 31) = 13
      · refine j_tabI 513 C (by omega) (by omega) (by rw [h13]; rfl) (by decide) dL_law_32 ?_
        exact law_13 C hX hr hI1 hI2 hI3 hv hk
      by_cases h14 : w32 (bAnd (X (ix (i : Int))) 31) = 14
      · refine j_tabI 546 C (by omega) (by omega) (by rw [h14]; rfl) (by decide) dL_law_32 ?_
        exact law_14 C hX hr hI1 hI2 hI3 hv hk
      by_cases h15 : w32 (bAnd (X (ix (i : Int))) 31) = 15
      · refine j_tabI 569 C (by omega) (by omega) (by rw [h15]; rfl) (by decide) dL_law_32 ?_
        exact law_15 C hX hr hI1 hI2 hI3 hv hk
      by_cases h16 : w32 (bAnd (X (ix (i : Int))) 31) = 16
      · refine j_tabI 582 C (by omega) (by omega) (by rw [h16]; rfl) (by decide) dL_law_32 ?_
        exact law_16 C hX hr hI1 hI2 hI3 hv hk
      by_cases h17 : w32 (bAnd (X (ix (i : Int))) 31) = 17
      · refine j_tabI 595 C (by omega) (by omega) (by rw [h17]; rfl) (by decide) dL_law_32 ?_
        exact law_17 C hX hr hI1 hI2 hI3 hv hk
      by_cases h18 : w32 (bAnd (X (ix (i : Int))) 31) = 18
      · refine j_tabI 618 C (by omega) (by omega) (by rw [h18]; rfl) (by decide) dL_law_32 ?_
        exact law_18 C hX hr hI1 hI2 hI3 hv hk
      by_cases h19 : w32 (bAnd (X (ix (i : Int))) 31) = 19
      · refine j_tabI 641 C (by omega) (by omega) (by rw [h19]; rfl) (by decide) dL_law_32 ?_
        exact law_19 C hX hr hI1 hI2 hI3 hv hk
      by_cases h20 : w32 (bAnd (X (ix (i : Int))) 31) = 20
      · refine j_tabI 664 C (by omega) (by omega) (by rw [h20]; rfl) (by decide) dL_law_32 ?_
        exact law_20 C hX hr hI1 hI2 hI3 hv hk
      by_cases h21 : w32 (bAnd (X (ix (i : Int))) 31) = 21
      · refine j_tabI 713 C (by omega) (by omega) (by rw [h21]; rfl) (by decide) dL_law_32 ?_
        exact law_21 C hX hr hI1 hI2 hI3 hv hk
      by_cases h22 : w32 (bAnd (X (ix (i : Int))) 31) = 22
      · refine j_tabI 736 C (by omega) (by omega) (by rw [h22]; rfl) (by decide) dL_law_32 ?_
        exact law_22 C hX hr hI1 hI2 hI3 hv hk
      by_cases h23 : w32 (bAnd (X (ix (i : Int))) 31) = 23
      · refine j_tabI 779 C (by omega) (by omega) (by rw [h23]; rfl) (by decide) dL_law_32 ?_
        exact law_23 C hX hr hI1 hI2 hI3 hv hk
      by_cases h24 : w32 (bAnd (X (ix (i : Int))) 31) = 24
      · refine j_tabI 812 C (by omega) (by omega) (by rw [h24]; rfl) (by decide) dL_law_32 ?_
        exact law_24 C hX hr hI1 hI2 hI3 hv hk
      by_cases h25 : w32 (bAnd (X (ix (i : Int))) 31) = 25
      · refine j_tabI 845 C (by omega) (by omega) (by rw [h25]; rfl) (by decide) dL_law_32 ?_
        exact law_25 C hX hr hI1 hI2 hI3 hv hk
      by_cases h26 : w32 (bAnd (X (ix (i : Int))) 31) = 26
      · refine j_tabI 868 C (by omega) (by omega) (by rw [h26]; rfl) (by decide) dL_law_32 ?_
        exact law_26 C hX hr hI1 hI2 hI3 hv hk
      by_cases h27 : w32 (bAnd (X (ix (i : Int))) 31) = 27
      · refine j_tabI 881 C (by omega) (by omega) (by rw [h27]; rfl) (by decide) dL_law_32 ?_
        exact law_27 C hX hr hI1 hI2 hI3 hv hk
      by_cases h28 : w32 (bAnd (X (ix (i : Int))) 31) = 28
      · refine j_tabI 904 C (by omega) (by omega) (by rw [h28]; rfl) (by decide) dL_law_32 ?_
        exact law_28 C hX hr hI1 hI2 hI3 hv hk
      refine j_tabO 918 C (by omega) (by decide) dL_law_32 ?_
      exact hk σ ρ hv
