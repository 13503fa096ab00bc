/-! ===== objects are made: worlds that grow ===== -/
section MAKE
abbrev wI : va_W → va_W := fun ws => ws
def cst (Γ : Cx) (k n : Nat) : Cx := (Γ.1, Γ.2.1, Γ.2.2.1, Γ.2.2.2.1, Γ.2.2.2.2.1, Γ.2.2.2.2.2.1, Γ.2.2.2.2.2.2.1, Γ.2.2.2.2.2.2.2.1, Γ.2.2.2.2.2.2.2.2.1, Γ.2.2.2.2.2.2.2.2.2.1, Γ.2.2.2.2.2.2.2.2.2.2.1, Γ.2.2.2.2.2.2.2.2.2.2.2.1, Γ.2.2.2.2.2.2.2.2.2.2.2.2.1, Γ.2.2.2.2.2.2.2.2.2.2.2.2.2.1, k, n)
def gN (Γ : Cx) : String := Γ.2.2.2.2.2.2.2.2.1.name
theorem P_rot {D : va_G} {cl : List vw_C} {ws : va_W} {x : Nat × va_E} {H : Heap} (h : va_P D cl (ws ++ [x]) H) : va_P D cl (x :: ws) H := by
  intro k q hq
  cases k with
  | zero => exact h ws.length q (by rw [List.getElem?_append_right (Nat.le_refl _)]; simpa using hq)
  | succ k =>
    have hq : ws[k]? = some q := by simpa using hq
    have hl : k < ws.length := (List.getElem?_eq_some_iff.mp hq).1
    exact h k q (by rw [List.getElem?_append_left hl]; exact hq)
theorem D_rot {A : Nat → Prop} {ws : va_W} {x : Nat × va_E} (h : va_D A (ws ++ [x])) : va_D A (x :: ws) := by
  have key : ∀ (k : Nat) (q : Nat × va_E), (x :: ws)[k]? = some q → (k = 0 ∧ (ws ++ [x])[ws.length]? = some q) ∨ (∃ j : Nat, k = j + 1 ∧ j < ws.length ∧ (ws ++ [x])[j]? = some q) := by
    intro k q hq
    cases k with
    | zero => exact Or.inl ⟨rfl, by rw [List.getElem?_append_right (Nat.le_refl _)]; simpa using hq⟩
    | succ k =>
      have hq : ws[k]? = some q := by simpa using hq
      have hl : k < ws.length := (List.getElem?_eq_some_iff.mp hq).1
      exact Or.inr ⟨k, rfl, hl, by rw [List.getElem?_append_left hl]; exact hq⟩
  refine ⟨fun i j p q hi hj e => ?_, fun k q hk => ?_⟩
  · rcases key i p hi with ⟨i0, i1⟩ | ⟨i', i0, i1, i2⟩
    · rcases key j q hj with ⟨j0, j1⟩ | ⟨j', j0, j1, j2⟩
      · omega
      · have := h.1 _ _ p q i1 j2 e; omega
    · rcases key j q hj with ⟨j0, j1⟩ | ⟨j', j0, j1, j2⟩
      · have := h.1 _ _ p q i2 j1 e; omega
      · have := h.1 _ _ p q i2 j2 e; omega
  · rcases key k q hk with ⟨_, h1⟩ | ⟨_, _, _, h1⟩
    · exact h.2 _ q h1
    · exact h.2 _ q h1
end MAKE
section MAKE2
variable {Γ : Cx} {ws ws1 : va_W} {pc mL : Nat} {lv : List (Nat × Value)} {r : List Value} {cI cZ : ClassId} {rm rmc : Room} {cc b : ByteArray} {own Cn ref host : String} {a N idx q0 : Nat} {fs As rest st : List Value} {T : u_T} {v : Value} {ty : FieldType} {y : MethodName} {mLc na mc ms : Nat}
theorem CX_st (C : CX cI cZ rm mL Γ cc own) {k n : Nat} (hk : k ≤ rm.cells) (hn : n ≤ rm.slots) : CX cI cZ rm mL (cst Γ k n) cc own := by
  obtain ⟨p, l, e, R, s, m, args, below, meth, c, D, A, nL, Q, cs, ss⟩ := Γ
  obtain ⟨hx, hb, hml, hown, hts, hK, hN, hA, hR, hnL, hcs, hss⟩ := C
  subst hR
  exact ⟨hx, hb, hml, hown, hts, hK, hN, hA, rfl, hnL, hk, hn⟩
theorem n_new (k n ci : Nat) (ty0 : Nat → FieldType) (C : CX cI cZ rm mL (cst Γ k n) cc own) (hk : k + 1 ≤ rm.cells) (hn : n + N ≤ rm.slots) (hin : ∀ w ∈ u_ws Cn T N, w ∈ gw_tbl) (hty : ∀ k, k < N → parseFieldDescriptor (T k).2.2.1 = some (ty0 k)) (lk : Cond.classLink own idx Cn ∈ gw_tbl) (hi : Cond.instantiable Cn N ∈ gw_tbl) (hini : Cond.initialized Cn ∈ gw_tbl) (hc : vwCl[ci]? = some (Cn, T, N)) (hfs : ∀ j, j < N → defaultValue (ty0 j) = vp_V fs j) (hd : decode cc pc = .ok (.new idx, 3)) (kk : ∀ q : Nat, JJ wI (cst Γ (k + 1) (n + N)) ((q, .inr (ci, fs)) :: ws) (pc + 3) lv (.ref q :: r)) : JJ wI (cst Γ k n) ws pc lv r := by
  obtain ⟨p, l, e, R, s, m, args, below, meth, c, D, A, nL, Q, cs, ss⟩ := Γ
  obtain ⟨hx, hb, hml, hown, hts, hK, hN, hA, hR, hnL, hcs, hss⟩ := C
  have hR : R = rm := hR
  subst hR
  exact fun H locs ls hP hD hS hl => va_new (ci := ci) (fs := fs) hx hb hts hin ty0 hty hown (hts _ lk) (hts _ hi) (hts _ hini) hK hP hD hS hA hc hfs hk hn hd (fun q H1 hP1 hD1 hS1 => kk q H1 locs ls (P_rot hP1) (D_rot hD1) hS1 hl)
theorem n_newaI {len : Int} (k n : Nat) (C : CX cI cZ rm mL (cst Γ k n) cc own) (hk : k + 1 ≤ rm.cells) (hn : n + N ≤ rm.slots) (h0 : ¬ iI len < 0) (hNN : (iI len).toNatClampNeg = N) (hby : N * componentBytes .int ≤ 536870912) (hd : decode cc pc = .ok (.newarray .int, 2)) (kk : ∀ q : Nat, JJ wI (cst Γ (k + 1) (n + N)) ((q, .inl (cI, N, .inl (fun _ => iI 0))) :: ws) (pc + 2) lv (.ref q :: r)) : JJ wI (cst Γ k n) ws pc lv (.int (iI len) :: r) := by
  obtain ⟨p, l, e, R, s, m, args, below, meth, c, D, A, nL, Q, cs, ss⟩ := Γ
  obtain ⟨hx, hb, hml, hown, hts, hK, hN, hA, hR, hnL, hcs, hss⟩ := C
  have hR : R = rm := hR
  subst hR
  refine fun H locs ls hP hD hS hl => va_newa (atype := .int) hx hb (hts _ wt_71) rfl hK hP hD hS hA (a0 := (N, .inl (fun _ => iI 0))) (fun cA => by rw [← iI_0]; rfl) h0 hNN hby hk hn hd (fun q cA H1 hK1 hP1 hD1 hS1 => ?_)
  have e1 : cA = cI := Option.some.inj ((hK1.2 2 (cA, .int) rfl).2.symm.trans (hK.2 0 (cI, .int) rfl).2)
  rw [e1] at hP1 hD1
  exact kk q H1 locs ls (P_rot hP1) (D_rot hD1) hS1 hl
theorem n_newaZ {len : Int} (k n : Nat) (C : CX cI cZ rm mL (cst Γ k n) cc own) (hk : k + 1 ≤ rm.cells) (hn : n + N ≤ rm.slots) (h0 : ¬ iI len < 0) (hNN : (iI len).toNatClampNeg = N) (hby : N * componentBytes .boolean ≤ 536870912) (hd : decode cc pc = .ok (.newarray .boolean, 2)) (kk : ∀ q : Nat, JJ wI (cst Γ (k + 1) (n + N)) ((q, .inl (cZ, N, .inl (fun _ => iI 0))) :: ws) (pc + 2) lv (.ref q :: r)) : JJ wI (cst Γ k n) ws pc lv (.int (iI len) :: r) := by
  obtain ⟨p, l, e, R, s, m, args, below, meth, c, D, A, nL, Q, cs, ss⟩ := Γ
  obtain ⟨hx, hb, hml, hown, hts, hK, hN, hA, hR, hnL, hcs, hss⟩ := C
  have hR : R = rm := hR
  subst hR
  refine fun H locs ls hP hD hS hl => va_newa (atype := .boolean) hx hb (hts _ wt_119) rfl hK hP hD hS hA (a0 := (N, .inl (fun _ => iI 0))) (fun cA => by rw [← iI_0]; rfl) h0 hNN hby hk hn hd (fun q cA H1 hK1 hP1 hD1 hS1 => ?_)
  have e1 : cA = cZ := Option.some.inj ((hK1.2 2 (cA, .boolean) rfl).2.symm.trans (hK.2 1 (cZ, .boolean) rfl).2)
  rw [e1] at hP1 hD1
  exact kk q H1 locs ls (P_rot hP1) (D_rot hD1) hS1 hl
theorem n_obj (C : CX cI cZ rm mL Γ cc own) (lk : Cond.methodLink own idx Lib.objectInit ∈ gw_tbl) (hf : 1 ≤ rm.frames) (hlo : (r.map fun v => v.category).sum + 12 ≤ rm.locals) (hd : decode cc pc = .ok (.invokespecial idx, 3)) (kk : JJ wI Γ ws (pc + 3) lv r) : JJ wI Γ ws pc lv (.ref a :: r) := by
  obtain ⟨p, l, e, R, s, m, args, below, meth, c, D, A, nL, Q, cs, ss⟩ := Γ
  obtain ⟨hx, hb, hml, hown, hts, hK, hN, hA, hR, hnL, hcs, hss⟩ := C
  subst hR
  exact fun H locs ls hP hD hS hl => W.objInit hx hb hown (hts _ lk) (hts _ wt_22) (hts _ wt_23) rfl (hl.1.trans hml.symm) rfl hd hf (by show 2 * 0 + _ + 12 ≤ _; omega) (kk H locs ls hP hD hS hl)
theorem n_putF (ci q0 k : Nat) (ty0 : Nat → FieldType) (C : CX cI cZ rm mL Γ cc own) (hnm : gN Γ = "<init>") (hin : ∀ w ∈ u_ws Cn T N, w ∈ gw_tbl) (hty : ∀ k, k < N → parseFieldDescriptor (T k).2.2.1 = some (ty0 k)) (hnn : ∀ a, a < N → ∀ b, b < N → a ≠ b → (T a).2.1 ≠ (T b).2.1) (he : ws[q0]? = some (a, .inr (ci, fs))) (hc : vwCl[ci]? = some (Cn, T, N)) (hk : k < N) (lk : Cond.fieldLink own idx ref (T k).2.1 (T k).2.2.1 ∈ gw_tbl) (hr : ref = (T k).1) (hfin : (T k).2.2.2 = true) (hdecl : (T k).1 = own) (hd1 : parseFieldDescriptor (T k).2.2.1 = some ty) (hn : narrow ty v = v) (hfit : fits ty v = true) (hl : k < fs.length) (hw : ws.set q0 (a, .inr (ci, fs.set k v)) = ws1) (hd : decode cc pc = .ok (.putfield idx, 3)) (kk : JJ wI Γ ws1 (pc + 3) lv r) : JJ wI Γ ws pc lv (v :: .ref a :: r) := by
  obtain ⟨p, l, e, R, s, m, args, below, meth, c, D, A, nL, Q, cs, ss⟩ := Γ
  subst hr
  exact fun H locs ls hP hD hS hl2 => va_putF C.1 C.2.1 C.2.2.2.2.1 hin ty0 hty hnn C.2.2.2.1 C.2.2.2.2.2.1 hP hD hS q0 he hc k hk (C.2.2.2.2.1 _ lk) (fun _ h9 => h9) hfin hnm hdecl hd1 hn hfit hl hd (fun H1 locs1 hP1 hD1 hS1 => kk H1 locs1 ls (hw ▸ hP1) (hw ▸ hD1) hS1 hl2)
theorem n_astore {i : Fin 4} (lv' : List (Nat × Value)) (C : CX cI cZ rm mL Γ cc own) (hd : decode cc pc = .ok (.astore_n i, 1)) (hn : (i : Nat) < mL) (hl' : ((i : Nat), Value.ref a) :: lv.filter (fun q => !(q.1 == (i : Nat)) && !(q.1 + 1 == (i : Nat) && q.2.category == 2)) = lv') (k : JJ wI Γ ws (pc + 1) lv' r) : JJ wI Γ ws pc lv (.ref a :: r) := by
  obtain ⟨p, l, e, R, s, m, args, below, meth, c, D, A, nL, Q, cs, ss⟩ := Γ
  have hL : nL = mL := C.2.2.2.2.2.2.2.2.2.1
  exact fun H locs ls hP hD hS hl => lv_astore_n C.1 C.2.1 hd rfl hl (by rw [hL]; exact hn) hl' (fun ls2 hl2 => k H locs ls2 hP hD hS hl2)
def McN (l : Launch) (y : MethodName) (b : ByteArray) (mL : Nat) (rm : Room) (D : va_G) (tys : List (ClassId × FieldType)) (av : List Value) (ws : va_W) (ws' : (Nat → Nat) → va_W) (mc ms : Nat) : Prop :=
  ∀ sz : Nat, Met l y (Cond.code y b mL none :: gw_tbl) rm (va_Pc av (PreJ D tys wI ws sz)) (va_Qv (fun (_ : Nat → Nat) => True) (fun u t => va_P D vwCl (ws' u) t.heap ∧ va_K D vwCl tys t ∧ va_D (va_A ws sz) (ws' u)) (va_A ws sz)) mc ms (va_A ws sz)
theorem McN.mk {l : Launch} {D : va_G} {av : List Value} {ws' : (Nat → Nat) → va_W} (hy : plainName y.cls = true) (hnm : y.name = "<init>") (hlen : (lg_sl av).length ≤ mL) (body : ∀ Γ : Cx, CX cI cZ rm mL Γ b y.cls → gN Γ = "<init>" → gl Γ = l → gD Γ = D → (∀ (u : Nat → Nat) (pc : Nat) (lv : List (Nat × Value)), decode b pc = .ok (.return_, 1) → JJ wI (cst Γ mc ms) (ws' u) pc lv []) → JJ wI (cst Γ 0 0) ws 0 (lv_args 0 av) []) : McN l y b mL rm D (tyL cI cZ) av ws ws' mc ms := by
  intro sz
  refine Met.ofW (cc := b) (maxL := mL) (ret := none) hy rfl ?_
  intro p e s m args below meth c s₁ B hml hv
  obtain ⟨rfl, hsz, hP, hK, hD0, hN⟩ := hv
  have hts := atoms_spec (ws := Cond.code y b mL (none) :: gw_tbl) B.pre
  have hown : s.vm.findClass y.cls = some m.cls := findClass_of_methodNamed B.named
  have hin : meth.name = y.name := (name_of_methodNamed B.named B.method).1
  subst hsz
  have hD := hD0.self (sz := s.heap.size)
  have hl := lv_entry av (n := mL) hlen
  rw [lg_entry_eq]
  refine body (p, l, e, (headSpec (Cond.code y b mL (none) :: gw_tbl) rm).room, s, m, av.toArray, below, meth, c, D, va_A ws s.heap.size, mL, _, 0, 0) ⟨B.exec, B.bytes, hml, hown, fun w h => hts w (List.mem_cons_of_mem _ h), hK, hN, fun q h => Or.inr h, rfl, rfl, Nat.zero_le _, Nat.zero_le _⟩ (hin.trans hnm) rfl rfl ?_ s.heap [] _ hP hD va_S.rf hl
  exact fun u pc lv hd H locs ls hP2 hD2 hS2 hl2 => W.vret B.exec B.bytes B.returns (fun t ht hW => ⟨⟨u, rfl, trivial, by rw [ht]; exact hP2, va_K.moved hW.alike hK, hD2⟩, hS2.F ht⟩) hS2.2.2 hd B.notSynchronized
theorem n_call {ws' : (Nat → Nat) → va_W} (As rest : List Value) (k n : Nat) (C : CX cI cZ rm mL (cst Γ k n) cc own) (hM : McN (gl Γ) y b mLc rmc (gD Γ) (tyL cI cZ) (.ref a :: As) ws ws' mc ms) (mf : MF y b mLc none na) (lk : Cond.methodLink own idx y ∈ gw_tbl) (hi : Cond.instanceMethod y ∈ gw_tbl) (hy : y.name = "<init>") (hna : As.length = na) (hrm : rmc.cells = mc ∧ rmc.slots = ms ∧ rmc.frames + 1 ≤ rm.frames ∧ 8 + (mLc + 11) + rmc.locals ≤ rm.locals) (hst : st = As.reverse ++ .ref a :: rest) (hcat : (rest.map fun v => v.category).sum ≤ 8) (hd : decode cc pc = .ok (.invokespecial idx, 3)) (hk : k + mc ≤ rm.cells) (hn : n + ms ≤ rm.slots) (kk : ∀ u : Nat → Nat, JJ wI (cst Γ (k + mc) (n + ms)) (ws' u) (pc + 3) lv rest) : JJ wI (cst Γ k n) ws pc lv st := by
  obtain ⟨p, l, e, R, s, m, args, below, meth, c, D, A, nL, Q, cs, ss⟩ := Γ
  obtain ⟨hx, hb, hml, hown, hts, hK, hN, hA, hR, hnL, hcs, hss⟩ := C
  have hR : R = rm := hR
  subst hR
  subst hst
  obtain ⟨hcl, mi, m1, m2, m3, m4⟩ := mf
  intro H locs ls hP hD hS hl
  have hFc : ∀ q, va_A ws H.size q → A q := by
    rintro q (⟨k2, e2, h⟩ | h)
    · exact hD.2 k2 _ h
    · exact hA q (Nat.le_trans hS.1 h)
  have hG : GoodIn gw_tbl (Cond.code y b mLc none :: gw_tbl) := by
    intro w2 h2
    rcases List.mem_cons.mp h2 with rfl | h2
    · exact ⟨hcl, gw_ok hcl⟩
    · exact ⟨h2, gw_ok h2⟩
  have cw : CallB R s args own idx y b mLc none (Cond.code y b mLc none :: gw_tbl) rmc mc ms na ∧ y.name = "<init>" ∧ (Cond.instanceMethod y).before args s = true := ⟨callB_of na hts hG rfl hrm.1 hrm.2.1 (hts _ mi) (hts _ lk) ⟨m1, m2, m3⟩ hrm.2.2, hy, hts _ hi⟩
  refine va_callv (va_runI (As := As) (rest := rest) ⟨hx, hb, hml, hown, hts⟩ (hM H.size) cw ⟨blindJ, fun U hU hW => ⟨rfl, by rw [hU], by rw [hU]; exact hP, va_K.moved hW.alike hK, hD.weaken (fun _ _ _ _ => trivial), NW.warm hW hN⟩⟩ rfl hna hl.1 rfl (lv_room hcat) hd ⟨hk, hn⟩) hS (fun q _ h => hFc q h) hFc (fun u t H1 locs1 ht hvm hw hB hz1 hk1 hS1 => ?_)
  obtain ⟨hP1, hK1, hD1⟩ := hB
  rw [ht] at hP1
  exact kk u H1 locs1 ls hP1 (hD1.weaken (fun _ _ _ h => hFc _ h)) hS1 hl
theorem n_callN {ws' : (Nat → Nat) → va_W} (As rest : List Value) (k n : Nat) (C : CX cI cZ rm mL (cst Γ k n) cc own) (hM : McN (gl Γ) y b mLc rmc (gD Γ) (tyL cI cZ) (.ref a :: As) ws ws' mc ms) (mf : MF y b mLc none na) (lk : (own, idx, y, host) ∈ nwQ) (hi : Cond.instanceMethod y ∈ gw_tbl) (hy : y.name = "<init>") (hna : As.length = na) (hrm : rmc.cells = mc ∧ rmc.slots = ms ∧ rmc.frames + 1 ≤ rm.frames ∧ 8 + (mLc + 11) + rmc.locals ≤ rm.locals) (hst : st = As.reverse ++ .ref a :: rest) (hcat : (rest.map fun v => v.category).sum ≤ 8) (hd : decode cc pc = .ok (.invokespecial idx, 3)) (hk : k + mc ≤ rm.cells) (hn : n + ms ≤ rm.slots) (kk : ∀ u : Nat → Nat, JJ wI (cst Γ (k + mc) (n + ms)) (ws' u) (pc + 3) lv rest) : JJ wI (cst Γ k n) ws pc lv st := by
  obtain ⟨p, l, e, R, s, m, args, below, meth, c, D, A, nL, Q, cs, ss⟩ := Γ
  obtain ⟨hx, hb, hml, hown, hts, hK, hN, hA, hR, hnL, hcs, hss⟩ := C
  have hR : R = rm := hR
  subst hR
  subst hst
  obtain ⟨hcl, mi, m1, m2, m3, m4⟩ := mf
  intro H locs ls hP hD hS hl
  have hFc : ∀ q, va_A ws H.size q → A q := by
    rintro q (⟨k2, e2, h⟩ | h)
    · exact hD.2 k2 _ h
    · exact hA q (Nat.le_trans hS.1 h)
  have hG : GoodIn gw_tbl (Cond.code y b mLc none :: gw_tbl) := by
    intro w2 h2
    rcases List.mem_cons.mp h2 with rfl | h2
    · exact ⟨hcl, gw_ok hcl⟩
    · exact ⟨h2, gw_ok h2⟩
  have cw : va_CN R s args own idx y host b mLc none (Cond.code y b mLc none :: gw_tbl) rmc mc ms na ∧ y.name = "<init>" ∧ (Cond.instanceMethod y).before args s = true := ⟨va_cnB na hts hG rfl hrm.1 hrm.2.1 (hN _ lk) (hts _ mi) ⟨m1, m2, m3⟩ hrm.2.2, hy, hts _ hi⟩
  refine va_callv (va_runIN (As := As) (rest := rest) ⟨hx, hb, hml, hown, hts⟩ (hM H.size) cw ⟨blindJ, fun U hU hW => ⟨rfl, by rw [hU], by rw [hU]; exact hP, va_K.moved hW.alike hK, hD.weaken (fun _ _ _ _ => trivial), NW.warm hW hN⟩⟩ rfl hna hl.1 rfl (lv_room hcat) hd ⟨hk, hn⟩) hS (fun q _ h => hFc q h) hFc (fun u t H1 locs1 ht hvm hw hB hz1 hk1 hS1 => ?_)
  obtain ⟨hP1, hK1, hD1⟩ := hB
  rw [ht] at hP1
  exact kk u H1 locs1 ls hP1 (hD1.weaken (fun _ _ _ h => hFc _ h)) hS1 hl
end MAKE2
/-! Arrays.fill of a row -/
section FILL
theorem fill_loop {Γ : Cx} {cI cZ : ClassId} {ws : va_W} {q0 a n : Nat} {f : Nat → Int} {v : Int} (C : CX cI cZ rm_J7_fill_53178_a33 4 Γ cJ7_fill_53178 RJ7) (hn : n < 2147483648) (hw : ws[q0]? = some (a, .inl (cI, n, .inl (fun k => iI (f k))))) (hq : ∀ (pc : Nat) (lv : List (Nat × Value)), decode cJ7_fill_53178 pc = .ok (.return_, 1) → JJ wI Γ (ws.set q0 (a, .inl (cI, n, .inl (fun k => iI (if k < n then v else f k))))) pc lv []) :
    ∀ (m i : Nat), i ≤ n → n - i ≤ m → JJ wI Γ (ws.set q0 (a, .inl (cI, n, .inl (fun k => iI (if k < i then v else f k))))) 5 [(0, .ref a), (1, .int (iI v)), (2, .int (iI (i : Int))), (3, .int (iI (n : Int)))] [] := by
  have hlt : q0 < ws.length := (List.getElem?_eq_some_iff.mp hw).1
  intro m
  induction m with
  | zero =>
    intro i hi hm
    have : i = n := by omega
    subst this
    refine j_iload_n 2 C dJ7_fill_53178_5 rfl ?_
    refine j_iload_n 3 C dJ7_fill_53178_6 rfl ?_
    refine j_icmp_ge 20 C (w32_eq (by omega)) (w32_eq (by omega)) dJ7_fill_53178_7 (by decide) (fun h => ?_) (fun h => ?_)
    · exact hq _ _ dJ7_fill_53178_20
    · exfalso; omega
  | succ m ih =>
    intro i hi hm
    refine j_iload_n 2 C dJ7_fill_53178_5 rfl ?_
    refine j_iload_n 3 C dJ7_fill_53178_6 rfl ?_
    refine j_icmp_ge 20 C (w32_eq (by omega)) (w32_eq (by omega)) dJ7_fill_53178_7 (by decide) (fun h => ?_) (fun h => ?_)
    · have : i = n := by omega
      subst this
      exact hq _ _ dJ7_fill_53178_20
    · refine j_aload_n 0 C dJ7_fill_53178_10 rfl ?_
      refine j_iload_n 2 C dJ7_fill_53178_11 rfl ?_
      refine j_iload_n 1 C dJ7_fill_53178_12 rfl ?_
      refine j_iast (f := fun k => if k < i then v else f k) (n := n) (σ1 := ws.set q0 (a, .inl (cI, n, .inl (fun k => iI (if k < i + 1 then v else f k))))) q0 C (by show (ws.set q0 _)[q0]? = _; rw [List.getElem?_set_self hlt]) (by unfold inB; rw [w32_eq (by omega)]; omega) ?_ dJ7_fill_53178_13 ?_
      · show (ws.set q0 _).set q0 _ = _
        rw [List.set_set, ix_nat (by omega)]
        have ef : (fun j => iI (if j = i then v else if j < i then v else f j)) = fun k => iI (if k < i + 1 then v else f k) := by
          funext k
          by_cases e : k = i
          · subst e; simp
          · by_cases c : k < i
            · have c2 : k < i + 1 := by omega
              simp [e, c, c2]
            · have c2 : ¬ k < i + 1 := by omega
              simp [e, c, c2]
        rw [ef]
      refine j_iinc 2 [(2, .int (iI ((i : Int) + 1))), (0, .ref a), (1, .int (iI v)), (3, .int (iI (n : Int)))] C dJ7_fill_53178_14 (by decide) rfl rfl ?_
      refine j_goto 5 C dJ7_fill_53178_17 (by decide) ?_
      exact j_sub [1, 2, 0, 3] rfl (ih (i + 1) (by omega) (by omega))
theorem c_fill (l : Launch) (D : va_G) (cI cZ : ClassId) {ws : va_W} {q0 a n : Nat} {f : Nat → Int} {v : Int} (hn : n < 2147483648) (hw : ws[q0]? = some (a, .inl (cI, n, .inl (fun k => iI (f k))))) : McV l yJ7_fill_53178 cJ7_fill_53178 4 rm_J7_fill_53178_a33 D (tyL cI cZ) wI [.ref a, .int (iI v)] ws (ws.set q0 (a, .inl (cI, n, .inl (fun k => iI (if k < n then v else f k))))) := by
  have hlt : q0 < ws.length := (List.getElem?_eq_some_iff.mp hw).1
  refine McV.mk mf_J7_fill_53178.2.2.2.2.2 (Nat.le_of_ble_eq_true rfl) (fun Γ C hq => j_sub [0, 1] rfl ?_)
  refine j_iconst C dJ7_fill_53178_0 ?_
  refine j_istore_n [(2, .int (iI 0)), (0, .ref a), (1, .int (iI v))] C dJ7_fill_53178_1 (by decide) rfl ?_
  refine j_aload_n 1 C dJ7_fill_53178_2 rfl ?_
  refine j_alen (f := f) (n := n) q0 C hw dJ7_fill_53178_3 ?_
  refine j_istore_n [(3, .int (iI (n : Int))), (2, .int (iI 0)), (0, .ref a), (1, .int (iI v))] C dJ7_fill_53178_4 (by decide) rfl ?_
  refine j_sub [2, 3, 1, 0] rfl ?_
  have := fill_loop (v := v) C hn hw hq n 0 (by omega) (by omega)
  have e : ws.set q0 (a, .inl (cI, n, .inl (fun k => iI (if k < 0 then v else f k)))) = ws := by
    have e1 : (fun k => iI (if k < 0 then v else f k)) = fun k => iI (f k) := by funext k; simp
    rw [e1]
    apply List.ext_getElem?
    intro j
    by_cases c : q0 = j
    · subst c; rw [List.getElem?_set_self hlt, hw]
    · rw [List.getElem?_set_ne c]
  rw [e] at this
  exact this
end FILL
