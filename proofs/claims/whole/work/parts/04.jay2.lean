/-! ===== contracts of methods over a whole system's cells ===== -/
theorem NW.warm {s U : State} (hW : s.WarmedH U.vm) (h : NW s) : NW U := fun q hq => va_Nw.warmM hW (h q hq)
def PreJ (D : va_G) (tys : List (ClassId × FieldType)) {S : Type} (w : S → va_W) (σ : S) (sz : Nat) (U : State) : Prop :=
  U.heap.size = sz ∧ va_P D vwCl (w σ) U.heap ∧ va_K D vwCl tys U ∧ va_D (fun _ => True) (w σ) ∧ NW U
def PostJ (D : va_G) (tys : List (ClassId × FieldType)) {S : Type} (w : S → va_W) (σ σ' : S) (sz : Nat) (t : State) : Prop :=
  va_P D vwCl (w σ') t.heap ∧ va_K D vwCl tys t ∧ va_D (va_A (w σ) sz) (w σ')
theorem blindJ {D : va_G} {tys : List (ClassId × FieldType)} {S : Type} {w : S → va_W} {σ : S} {sz : Nat} {av : List Value} : FrameBlind (va_Pc av (PreJ D tys w σ sz)) := by
  intro a U g mk q
  obtain ⟨q0, q1, qP, qK, qD, qN⟩ := q
  exact ⟨q0, q1, qP, va_K.moved (u := U) (U := U.calling g mk a) (Vm.Alike.refl U.vm) qK, qD, fun z hz => va_Nw.same rfl rfl (qN z hz)⟩
def McI (l : Launch) (y : MethodName) (b : ByteArray) (mL : Nat) (rt : FieldType) (rm : Room) (D : va_G) (tys : List (ClassId × FieldType)) {S : Type} (w : S → va_W) (av : List Value) (σ : S) (r : Int) (σ' : S) : Prop :=
  ∀ sz : Nat, Met l y (Cond.code y b mL (some rt) :: gw_tbl) rm (va_Pc av (PreJ D tys w σ sz)) (va_Qi (fun (x : Int32) (_ : Unit) => x = iI r) (fun _ t => PostJ D tys w σ σ' sz t) (va_A (w σ) sz)) 0 0 (va_A (w σ) sz)
def McL (l : Launch) (y : MethodName) (b : ByteArray) (mL : Nat) (rm : Room) (D : va_G) (tys : List (ClassId × FieldType)) {S : Type} (w : S → va_W) (av : List Value) (σ : S) (r : Int) (σ' : S) : Prop :=
  ∀ sz : Nat, Met l y (Cond.code y b mL (some .long) :: gw_tbl) rm (va_Pc av (PreJ D tys w σ sz)) (va_Ql (fun (x : Int64) (_ : Unit) => x = iL r) (fun _ t => PostJ D tys w σ σ' sz t) (va_A (w σ) sz)) 0 0 (va_A (w σ) sz)
def McV (l : Launch) (y : MethodName) (b : ByteArray) (mL : Nat) (rm : Room) (D : va_G) (tys : List (ClassId × FieldType)) {S : Type} (w : S → va_W) (av : List Value) (σ : S) (σ' : S) : Prop :=
  ∀ sz : Nat, Met l y (Cond.code y b mL none :: gw_tbl) rm (va_Pc av (PreJ D tys w σ sz)) (va_Qv (fun (_ : Unit) => True) (fun _ t => PostJ D tys w σ σ' sz t) (va_A (w σ) sz)) 0 0 (va_A (w σ) sz)
def RetI (rt : FieldType) {S : Type} (w : S → va_W) (Γ : Cx) (b : ByteArray) (r : Int) (σ' : S) : Prop := ∀ (pc : Nat) (lv : List (Nat × Value)), narrow rt (.int (iI r)) = .int (iI r) → decode b pc = .ok (.ireturn, 1) → JJ w Γ σ' pc lv [.int (iI r)]
def RetL {S : Type} (w : S → va_W) (Γ : Cx) (b : ByteArray) (r : Int) (σ' : S) : Prop := ∀ (pc : Nat) (lv : List (Nat × Value)), decode b pc = .ok (.lreturn, 1) → JJ w Γ σ' pc lv [.long (iL r)]
def RetV {S : Type} (w : S → va_W) (Γ : Cx) (b : ByteArray) (σ' : S) : Prop := ∀ (pc : Nat) (lv : List (Nat × Value)), decode b pc = .ok (.return_, 1) → JJ w Γ σ' pc lv []
/-! ===== the pure functions' own words ===== -/
noncomputable def gI {α : Type} (i : Int) (n : Nat) (o : Option α) : Option α := if 0 ≤ w32 i ∧ w32 i < n then o else none
noncomputable def gB {α : Type} (x : Int) (o : Option α) : Option α := if w32 x = 0 ∨ w32 x = 1 then o else none
noncomputable def g0 {α : Type} (y : Int) (o : Option α) : Option α := if w32 y = 0 then none else o
def bd {α : Type} (o : Option (Int × St)) (k : Int → St → Option α) : Option α := match o with
  | none => none
  | some (a, b) => k a b
def bv {α : Type} (o : Option St) (k : St → Option α) : Option α := match o with
  | none => none
  | some b => k b
theorem gI_s {α : Type} {i : Int} {n : Nat} {o : Option α} {z : α} (h : gI i n o = some z) : inB i n ∧ o = some z := by
  unfold gI at h
  split at h
  · exact ⟨by assumption, h⟩
  · cases h
theorem gB_s {α : Type} {x : Int} {o : Option α} {z : α} (h : gB x o = some z) : isB x ∧ o = some z := by
  unfold gB at h
  split at h
  · exact ⟨by assumption, h⟩
  · cases h
theorem g0_s {α : Type} {y : Int} {o : Option α} {z : α} (h : g0 y o = some z) : ¬ w32 y = 0 ∧ o = some z := by
  unfold g0 at h
  split at h
  · cases h
  · exact ⟨by assumption, h⟩
theorem bd_s {α : Type} {o : Option (Int × St)} {k : Int → St → Option α} {z : α} (h : bd o k = some z) : ∃ a b, o = some (a, b) ∧ k a b = some z := by
  cases o with
  | none => cases h
  | some q => exact ⟨q.1, q.2, rfl, h⟩
theorem bv_s {α : Type} {o : Option St} {k : St → Option α} {z : α} (h : bv o k = some z) : ∃ b, o = some b ∧ k b = some z := by
  cases o with
  | none => cases h
  | some q => exact ⟨q, rfl, h⟩
theorem ifp {α : Type} {c : Prop} [Decidable c] {a b z : α} (h : c) (hf : (if c then a else b) = z) : a = z := by rw [if_pos h] at hf; exact hf
theorem ifn {α : Type} {c : Prop} [Decidable c] {a b z : α} (h : ¬ c) (hf : (if c then a else b) = z) : b = z := by rw [if_neg h] at hf; exact hf
section JRET
variable {S : Type} {w : S → va_W} {Γ : Cx} {σ' σ1 : S} {pc : Nat} {lv : List (Nat × Value)} {b : ByteArray} {x r : Int}
theorem retI (h : RetI .int w Γ b r σ') (hf : some (x, σ1) = some (r, σ')) (hd : decode b pc = .ok (.ireturn, 1)) : JJ w Γ σ1 pc lv [.int (iI x)] := by
  cases hf
  exact h pc lv rfl hd
theorem retZ (h : RetI .boolean w Γ b r σ') (hf : gB x (some (x, σ1)) = some (r, σ')) (hd : decode b pc = .ok (.ireturn, 1)) : JJ w Γ σ1 pc lv [.int (iI x)] := by
  obtain ⟨h1, hf⟩ := gB_s hf
  cases hf
  exact h pc lv (isB_nar h1) hd
theorem retZc (h : RetI .boolean w Γ b r σ') (h1 : isB x) (hf : some (x, σ1) = some (r, σ')) (hd : decode b pc = .ok (.ireturn, 1)) : JJ w Γ σ1 pc lv [.int (iI x)] := by
  cases hf
  exact h pc lv (isB_nar h1) hd
theorem retL (h : RetL w Γ b r σ') (hf : some (x, σ1) = some (r, σ')) (hd : decode b pc = .ok (.lreturn, 1)) : JJ w Γ σ1 pc lv [.long (iL x)] := by
  cases hf
  exact h pc lv hd
theorem retV (h : RetV w Γ b σ') (hf : some σ1 = some σ') (hd : decode b pc = .ok (.return_, 1)) : JJ w Γ σ1 pc lv [] := by
  cases hf
  exact h pc lv hd
end JRET
section JMK
variable {l : Launch} {y : MethodName} {b : ByteArray} {mL : Nat} {rt : FieldType} {rm : Room} {D : va_G} {cI cZ : ClassId} {S : Type} {w : S → va_W} {av : List Value} {σ σ' : S} {r : Int}
theorem McI.mk (hy : plainName y.cls = true) (hlen : (lg_sl av).length ≤ mL) (body : ∀ Γ : Cx, CX cI cZ rm mL Γ b y.cls → RetI rt w Γ b r σ' → JJ w Γ σ 0 (lv_args 0 av) []) : McI l y b mL rt rm D (tyL cI cZ) w av σ r σ' := by
  intro sz
  refine Met.ofW (cc := b) (maxL := mL) (ret := some rt) hy rfl ?_
  intro p e s m args below meth c s₁ B hml hv
  obtain ⟨rfl, hsz, hP, hK, hD0, hN⟩ := hv
  have hts := atoms_spec (ws := Cond.code y b mL (some rt) :: gw_tbl) B.pre
  have hown : s.vm.findClass y.cls = some m.cls := findClass_of_methodNamed B.named
  subst hsz
  have hD := hD0.self (sz := s.heap.size)
  have hl := lv_entry av (n := mL) hlen
  rw [lg_entry_eq]
  refine body (p, l, e, (headSpec (Cond.code y b mL (some rt) :: gw_tbl) rm).room, s, m, av.toArray, below, meth, c, D, va_A (w σ) s.heap.size, mL, _, 0, 0) ⟨B.exec, B.bytes, hml, hown, fun w h => hts w (List.mem_cons_of_mem _ h), hK, hN, fun q h => Or.inr h, rfl, rfl, Nat.zero_le _, Nat.zero_le _⟩ ?_ s.heap [] _ hP hD va_S.rf hl
  exact fun pc lv hn hd H locs ls hP2 hD2 hS2 hl2 => W.zret B.exec B.bytes B.returns hn (fun t ht hW => ⟨⟨iI r, (), rfl, rfl, by rw [ht]; exact hP2, va_K.moved hW.alike hK, hD2⟩, hS2.F ht⟩) hS2.2.2 hd B.notSynchronized
theorem McL.mk (hy : plainName y.cls = true) (hlen : (lg_sl av).length ≤ mL) (body : ∀ Γ : Cx, CX cI cZ rm mL Γ b y.cls → RetL w Γ b r σ' → JJ w Γ σ 0 (lv_args 0 av) []) : McL l y b mL  rm D (tyL cI cZ) w av σ r σ' := by
  intro sz
  refine Met.ofW (cc := b) (maxL := mL) (ret := some .long) hy rfl ?_
  intro p e s m args below meth c s₁ B hml hv
  obtain ⟨rfl, hsz, hP, hK, hD0, hN⟩ := hv
  have hts := atoms_spec (ws := Cond.code y b mL (some .long) :: gw_tbl) B.pre
  have hown : s.vm.findClass y.cls = some m.cls := findClass_of_methodNamed B.named
  subst hsz
  have hD := hD0.self (sz := s.heap.size)
  have hl := lv_entry av (n := mL) hlen
  rw [lg_entry_eq]
  refine body (p, l, e, (headSpec (Cond.code y b mL (some .long) :: gw_tbl) rm).room, s, m, av.toArray, below, meth, c, D, va_A (w σ) s.heap.size, mL, _, 0, 0) ⟨B.exec, B.bytes, hml, hown, fun w h => hts w (List.mem_cons_of_mem _ h), hK, hN, fun q h => Or.inr h, rfl, rfl, Nat.zero_le _, Nat.zero_le _⟩ ?_ s.heap [] _ hP hD va_S.rf hl
  exact fun pc lv hd H locs ls hP2 hD2 hS2 hl2 => W.lret B.exec B.bytes B.returns (fun t ht hW => ⟨⟨iL r, (), rfl, rfl, by rw [ht]; exact hP2, va_K.moved hW.alike hK, hD2⟩, hS2.F ht⟩) hS2.2.2 hd B.notSynchronized
theorem McV.mk (hy : plainName y.cls = true) (hlen : (lg_sl av).length ≤ mL) (body : ∀ Γ : Cx, CX cI cZ rm mL Γ b y.cls → RetV w Γ b σ' → JJ w Γ σ 0 (lv_args 0 av) []) : McV l y b mL  rm D (tyL cI cZ) w av σ σ' := by
  intro sz
  refine Met.ofW (cc := b) (maxL := mL) (ret := none) hy rfl ?_
  intro p e s m args below meth c s₁ B hml hv
  obtain ⟨rfl, hsz, hP, hK, hD0, hN⟩ := hv
  have hts := atoms_spec (ws := Cond.code y b mL (none) :: gw_tbl) B.pre
  have hown : s.vm.findClass y.cls = some m.cls := findClass_of_methodNamed B.named
  subst hsz
  have hD := hD0.self (sz := s.heap.size)
  have hl := lv_entry av (n := mL) hlen
  rw [lg_entry_eq]
  refine body (p, l, e, (headSpec (Cond.code y b mL (none) :: gw_tbl) rm).room, s, m, av.toArray, below, meth, c, D, va_A (w σ) s.heap.size, mL, _, 0, 0) ⟨B.exec, B.bytes, hml, hown, fun w h => hts w (List.mem_cons_of_mem _ h), hK, hN, fun q h => Or.inr h, rfl, rfl, Nat.zero_le _, Nat.zero_le _⟩ ?_ s.heap [] _ hP hD va_S.rf hl
  exact fun pc lv hd H locs ls hP2 hD2 hS2 hl2 => W.vret B.exec B.bytes B.returns (fun t ht hW => ⟨⟨(), rfl, trivial, by rw [ht]; exact hP2, va_K.moved hW.alike hK, hD2⟩, hS2.F ht⟩) hS2.2.2 hd B.notSynchronized
end JMK
section JCALL
variable {S : Type} {w : S → va_W} {Γ : Cx} {σ σ1 : S} {pc mL : Nat} {lv : List (Nat × Value)} {cI cZ : ClassId} {rm rmc : Room} {cc b : ByteArray} {own Cn host : String} {r1 : Int} {y : MethodName} {mLc n idx q0 ci a N : Nat} {rt : FieldType} {As rest st : List Value} {fs : List Value} {T : u_T}
theorem j_cVi (As rest : List Value) (C : CX cI cZ rm mL Γ cc own) (hM : McI (gl Γ) y b mLc rt rmc (gD Γ) (tyL cI cZ) w (.ref a :: As) σ r1 σ1) (mf : MF y b mLc (some rt) n) (lk : Cond.methodLink own idx y ∈ gw_tbl) (hi : Cond.instanceMethod y ∈ gw_tbl) (hs : Cond.selects Cn y y ∈ gw_tbl) (he : (w σ)[q0]? = some (a, .inr (ci, fs))) (hc : vwCl[ci]? = some (Cn, T, N)) (hn : As.length = n) (hrm : rmc.cells = 0 ∧ rmc.slots = 0 ∧ rmc.frames + 1 ≤ rm.frames ∧ 8 + (mLc + 11) + rmc.locals ≤ rm.locals) (hst : st = As.reverse ++ .ref a :: rest) (hcat : (rest.map fun v => v.category).sum ≤ 8) (hd : decode cc pc = .ok (.invokevirtual idx, 3)) (k : JJ w Γ σ1 (pc + 3) lv (.int (iI r1) :: rest)) : JJ w Γ σ pc lv st := by
  obtain ⟨p, l, e, R, s, m, args, below, meth, c, D, A, nL, Q, cs, ss⟩ := Γ
  obtain ⟨hx, hb, hml, hown, hts, hK, hN, hA, hR, hnL, hcs, hss⟩ := C
  subst hR
  subst hst
  obtain ⟨mc, mi, m1, m2, m3, m4⟩ := mf
  intro H locs ls hP hD hS hl
  have hFc : ∀ q, va_A (w σ) H.size q → A q := by
    rintro q (⟨k2, e2, h⟩ | h)
    · exact hD.2 k2 _ h
    · exact hA q (Nat.le_trans hS.1 h)
  have hG : GoodIn gw_tbl (Cond.code y b mLc (some rt) :: gw_tbl) := by
    intro w2 h2
    rcases List.mem_cons.mp h2 with rfl | h2
    · exact ⟨mc, gw_ok mc⟩
    · exact ⟨h2, gw_ok h2⟩
  have cw : CallW R s args own Cn idx y b mLc (some rt) (Cond.code y b mLc (some rt) :: gw_tbl) rmc 0 0 n := ⟨callB_of n hts hG rfl hrm.1 hrm.2.1 (hts _ mi) (hts _ lk) ⟨m1, m2, m3⟩ hrm.2.2, hts _ hi, hts _ hs⟩
  refine va_calli (va_runV (As := As) (rest := rest) ⟨hx, hb, hml, hown, hts⟩ (hM H.size) cw ⟨blindJ, va_recv hK hP hc he, fun U hU hW => ⟨rfl, by rw [hU], by rw [hU]; exact hP, va_K.moved hW.alike hK, hD.weaken (fun _ _ _ _ => trivial), NW.warm hW hN⟩⟩ rfl hn hl.1 rfl (lv_room hcat) hd ⟨hcs, hss⟩) hS (fun q _ h => hFc q h) hFc (fun r2 u t H1 locs1 ht hvm hw hB hz1 hk1 hS1 => ?_)
  subst hw
  obtain ⟨hP1, hK1, hD1⟩ := hB
  rw [ht] at hP1
  exact k H1 locs1 ls hP1 (hD1.weaken (fun _ _ _ h => hFc _ h)) hS1 hl
theorem j_cVv (As rest : List Value) (C : CX cI cZ rm mL Γ cc own) (hM : McV (gl Γ) y b mLc rmc (gD Γ) (tyL cI cZ) w (.ref a :: As) σ σ1) (mf : MF y b mLc none n) (lk : Cond.methodLink own idx y ∈ gw_tbl) (hi : Cond.instanceMethod y ∈ gw_tbl) (hs : Cond.selects Cn y y ∈ gw_tbl) (he : (w σ)[q0]? = some (a, .inr (ci, fs))) (hc : vwCl[ci]? = some (Cn, T, N)) (hn : As.length = n) (hrm : rmc.cells = 0 ∧ rmc.slots = 0 ∧ rmc.frames + 1 ≤ rm.frames ∧ 8 + (mLc + 11) + rmc.locals ≤ rm.locals) (hst : st = As.reverse ++ .ref a :: rest) (hcat : (rest.map fun v => v.category).sum ≤ 8) (hd : decode cc pc = .ok (.invokevirtual idx, 3)) (k : JJ w Γ σ1 (pc + 3) lv rest) : JJ w Γ σ pc lv st := by
  obtain ⟨p, l, e, R, s, m, args, below, meth, c, D, A, nL, Q, cs, ss⟩ := Γ
  obtain ⟨hx, hb, hml, hown, hts, hK, hN, hA, hR, hnL, hcs, hss⟩ := C
  subst hR
  subst hst
  obtain ⟨mc, mi, m1, m2, m3, m4⟩ := mf
  intro H locs ls hP hD hS hl
  have hFc : ∀ q, va_A (w σ) H.size q → A q := by
    rintro q (⟨k2, e2, h⟩ | h)
    · exact hD.2 k2 _ h
    · exact hA q (Nat.le_trans hS.1 h)
  have hG : GoodIn gw_tbl (Cond.code y b mLc none :: gw_tbl) := by
    intro w2 h2
    rcases List.mem_cons.mp h2 with rfl | h2
    · exact ⟨mc, gw_ok mc⟩
    · exact ⟨h2, gw_ok h2⟩
  have cw : CallW R s args own Cn idx y b mLc none (Cond.code y b mLc none :: gw_tbl) rmc 0 0 n := ⟨callB_of n hts hG rfl hrm.1 hrm.2.1 (hts _ mi) (hts _ lk) ⟨m1, m2, m3⟩ hrm.2.2, hts _ hi, hts _ hs⟩
  refine va_callv (va_runV (As := As) (rest := rest) ⟨hx, hb, hml, hown, hts⟩ (hM H.size) cw ⟨blindJ, va_recv hK hP hc he, fun U hU hW => ⟨rfl, by rw [hU], by rw [hU]; exact hP, va_K.moved hW.alike hK, hD.weaken (fun _ _ _ _ => trivial), NW.warm hW hN⟩⟩ rfl hn hl.1 rfl (lv_room hcat) hd ⟨hcs, hss⟩) hS (fun q _ h => hFc q h) hFc (fun u t H1 locs1 ht hvm hw hB hz1 hk1 hS1 => ?_)
  obtain ⟨hP1, hK1, hD1⟩ := hB
  rw [ht] at hP1
  exact k H1 locs1 ls hP1 (hD1.weaken (fun _ _ _ h => hFc _ h)) hS1 hl
theorem j_cVl (As rest : List Value) (C : CX cI cZ rm mL Γ cc own) (hM : McL (gl Γ) y b mLc rmc (gD Γ) (tyL cI cZ) w (.ref a :: As) σ r1 σ1) (mf : MF y b mLc (some .long) n) (lk : Cond.methodLink own idx y ∈ gw_tbl) (hi : Cond.instanceMethod y ∈ gw_tbl) (hs : Cond.selects Cn y y ∈ gw_tbl) (he : (w σ)[q0]? = some (a, .inr (ci, fs))) (hc : vwCl[ci]? = some (Cn, T, N)) (hn : As.length = n) (hrm : rmc.cells = 0 ∧ rmc.slots = 0 ∧ rmc.frames + 1 ≤ rm.frames ∧ 8 + (mLc + 11) + rmc.locals ≤ rm.locals) (hst : st = As.reverse ++ .ref a :: rest) (hcat : (rest.map fun v => v.category).sum ≤ 8) (hd : decode cc pc = .ok (.invokevirtual idx, 3)) (k : JJ w Γ σ1 (pc + 3) lv (.long (iL r1) :: rest)) : JJ w Γ σ pc lv st := by
  obtain ⟨p, l, e, R, s, m, args, below, meth, c, D, A, nL, Q, cs, ss⟩ := Γ
  obtain ⟨hx, hb, hml, hown, hts, hK, hN, hA, hR, hnL, hcs, hss⟩ := C
  subst hR
  subst hst
  obtain ⟨mc, mi, m1, m2, m3, m4⟩ := mf
  intro H locs ls hP hD hS hl
  have hFc : ∀ q, va_A (w σ) H.size q → A q := by
    rintro q (⟨k2, e2, h⟩ | h)
    · exact hD.2 k2 _ h
    · exact hA q (Nat.le_trans hS.1 h)
  have hG : GoodIn gw_tbl (Cond.code y b mLc (some .long) :: gw_tbl) := by
    intro w2 h2
    rcases List.mem_cons.mp h2 with rfl | h2
    · exact ⟨mc, gw_ok mc⟩
    · exact ⟨h2, gw_ok h2⟩
  have cw : CallW R s args own Cn idx y b mLc (some .long) (Cond.code y b mLc (some .long) :: gw_tbl) rmc 0 0 n := ⟨callB_of n hts hG rfl hrm.1 hrm.2.1 (hts _ mi) (hts _ lk) ⟨m1, m2, m3⟩ hrm.2.2, hts _ hi, hts _ hs⟩
  refine va_calll (va_runV (As := As) (rest := rest) ⟨hx, hb, hml, hown, hts⟩ (hM H.size) cw ⟨blindJ, va_recv hK hP hc he, fun U hU hW => ⟨rfl, by rw [hU], by rw [hU]; exact hP, va_K.moved hW.alike hK, hD.weaken (fun _ _ _ _ => trivial), NW.warm hW hN⟩⟩ rfl hn hl.1 rfl (lv_room hcat) hd ⟨hcs, hss⟩) hS (fun q _ h => hFc q h) hFc (fun r2 u t H1 locs1 ht hvm hw hB hz1 hk1 hS1 => ?_)
  subst hw
  obtain ⟨hP1, hK1, hD1⟩ := hB
  rw [ht] at hP1
  exact k H1 locs1 ls hP1 (hD1.weaken (fun _ _ _ h => hFc _ h)) hS1 hl
theorem j_cSi (As rest : List Value) (C : CX cI cZ rm mL Γ cc own) (hM : McI (gl Γ) y b mLc rt rmc (gD Γ) (tyL cI cZ) w As σ r1 σ1) (mf : MF y b mLc (some rt) n) (lk : Cond.methodLink own idx y ∈ gw_tbl) (hs : Cond.static y ∈ gw_tbl) (hn : As.length = n) (hrm : rmc.cells = 0 ∧ rmc.slots = 0 ∧ rmc.frames + 1 ≤ rm.frames ∧ 8 + (mLc + 11) + rmc.locals ≤ rm.locals) (hst : st = As.reverse ++ rest) (hcat : (rest.map fun v => v.category).sum ≤ 8) (hd : decode cc pc = .ok (.invokestatic idx, 3)) (k : JJ w Γ σ1 (pc + 3) lv (.int (iI r1) :: rest)) : JJ w Γ σ pc lv st := by
  obtain ⟨p, l, e, R, s, m, args, below, meth, c, D, A, nL, Q, cs, ss⟩ := Γ
  obtain ⟨hx, hb, hml, hown, hts, hK, hN, hA, hR, hnL, hcs, hss⟩ := C
  subst hR
  subst hst
  obtain ⟨mc, mi, m1, m2, m3, m4⟩ := mf
  intro H locs ls hP hD hS hl
  have hFc : ∀ q, va_A (w σ) H.size q → A q := by
    rintro q (⟨k2, e2, h⟩ | h)
    · exact hD.2 k2 _ h
    · exact hA q (Nat.le_trans hS.1 h)
  have hG : GoodIn gw_tbl (Cond.code y b mLc (some rt) :: gw_tbl) := by
    intro w2 h2
    rcases List.mem_cons.mp h2 with rfl | h2
    · exact ⟨mc, gw_ok mc⟩
    · exact ⟨h2, gw_ok h2⟩
  have cw : CallB R s args own idx y b mLc (some rt) (Cond.code y b mLc (some rt) :: gw_tbl) rmc 0 0 n ∧ (Cond.static y).before args s = true := ⟨callB_of n hts hG rfl hrm.1 hrm.2.1 (hts _ mi) (hts _ lk) ⟨m1, m2, m3⟩ hrm.2.2, hts _ hs⟩
  refine va_calli (va_runS (As := As) (rest := rest) ⟨hx, hb, hml, hown, hts⟩ (hM H.size) cw ⟨blindJ, fun U hU hW => ⟨rfl, by rw [hU], by rw [hU]; exact hP, va_K.moved hW.alike hK, hD.weaken (fun _ _ _ _ => trivial), NW.warm hW hN⟩⟩ rfl hn hl.1 rfl (lv_room hcat) hd ⟨hcs, hss⟩) hS (fun q _ h => hFc q h) hFc (fun r2 u t H1 locs1 ht hvm hw hB hz1 hk1 hS1 => ?_)
  subst hw
  obtain ⟨hP1, hK1, hD1⟩ := hB
  rw [ht] at hP1
  exact k H1 locs1 ls hP1 (hD1.weaken (fun _ _ _ h => hFc _ h)) hS1 hl
theorem j_cSv (As rest : List Value) (C : CX cI cZ rm mL Γ cc own) (hM : McV (gl Γ) y b mLc rmc (gD Γ) (tyL cI cZ) w As σ σ1) (mf : MF y b mLc none n) (lk : Cond.methodLink own idx y ∈ gw_tbl) (hs : Cond.static y ∈ gw_tbl) (hn : As.length = n) (hrm : rmc.cells = 0 ∧ rmc.slots = 0 ∧ rmc.frames + 1 ≤ rm.frames ∧ 8 + (mLc + 11) + rmc.locals ≤ rm.locals) (hst : st = As.reverse ++ rest) (hcat : (rest.map fun v => v.category).sum ≤ 8) (hd : decode cc pc = .ok (.invokestatic idx, 3)) (k : JJ w Γ σ1 (pc + 3) lv rest) : JJ w Γ σ pc lv st := by
  obtain ⟨p, l, e, R, s, m, args, below, meth, c, D, A, nL, Q, cs, ss⟩ := Γ
  obtain ⟨hx, hb, hml, hown, hts, hK, hN, hA, hR, hnL, hcs, hss⟩ := C
  subst hR
  subst hst
  obtain ⟨mc, mi, m1, m2, m3, m4⟩ := mf
  intro H locs ls hP hD hS hl
  have hFc : ∀ q, va_A (w σ) H.size q → A q := by
    rintro q (⟨k2, e2, h⟩ | h)
    · exact hD.2 k2 _ h
    · exact hA q (Nat.le_trans hS.1 h)
  have hG : GoodIn gw_tbl (Cond.code y b mLc none :: gw_tbl) := by
    intro w2 h2
    rcases List.mem_cons.mp h2 with rfl | h2
    · exact ⟨mc, gw_ok mc⟩
    · exact ⟨h2, gw_ok h2⟩
  have cw : CallB R s args own idx y b mLc none (Cond.code y b mLc none :: gw_tbl) rmc 0 0 n ∧ (Cond.static y).before args s = true := ⟨callB_of n hts hG rfl hrm.1 hrm.2.1 (hts _ mi) (hts _ lk) ⟨m1, m2, m3⟩ hrm.2.2, hts _ hs⟩
  refine va_callv (va_runS (As := As) (rest := rest) ⟨hx, hb, hml, hown, hts⟩ (hM H.size) cw ⟨blindJ, fun U hU hW => ⟨rfl, by rw [hU], by rw [hU]; exact hP, va_K.moved hW.alike hK, hD.weaken (fun _ _ _ _ => trivial), NW.warm hW hN⟩⟩ rfl hn hl.1 rfl (lv_room hcat) hd ⟨hcs, hss⟩) hS (fun q _ h => hFc q h) hFc (fun u t H1 locs1 ht hvm hw hB hz1 hk1 hS1 => ?_)
  obtain ⟨hP1, hK1, hD1⟩ := hB
  rw [ht] at hP1
  exact k H1 locs1 ls hP1 (hD1.weaken (fun _ _ _ h => hFc _ h)) hS1 hl
theorem j_cSl (As rest : List Value) (C : CX cI cZ rm mL Γ cc own) (hM : McL (gl Γ) y b mLc rmc (gD Γ) (tyL cI cZ) w As σ r1 σ1) (mf : MF y b mLc (some .long) n) (lk : Cond.methodLink own idx y ∈ gw_tbl) (hs : Cond.static y ∈ gw_tbl) (hn : As.length = n) (hrm : rmc.cells = 0 ∧ rmc.slots = 0 ∧ rmc.frames + 1 ≤ rm.frames ∧ 8 + (mLc + 11) + rmc.locals ≤ rm.locals) (hst : st = As.reverse ++ rest) (hcat : (rest.map fun v => v.category).sum ≤ 8) (hd : decode cc pc = .ok (.invokestatic idx, 3)) (k : JJ w Γ σ1 (pc + 3) lv (.long (iL r1) :: rest)) : JJ w Γ σ pc lv st := by
  obtain ⟨p, l, e, R, s, m, args, below, meth, c, D, A, nL, Q, cs, ss⟩ := Γ
  obtain ⟨hx, hb, hml, hown, hts, hK, hN, hA, hR, hnL, hcs, hss⟩ := C
  subst hR
  subst hst
  obtain ⟨mc, mi, m1, m2, m3, m4⟩ := mf
  intro H locs ls hP hD hS hl
  have hFc : ∀ q, va_A (w σ) H.size q → A q := by
    rintro q (⟨k2, e2, h⟩ | h)
    · exact hD.2 k2 _ h
    · exact hA q (Nat.le_trans hS.1 h)
  have hG : GoodIn gw_tbl (Cond.code y b mLc (some .long) :: gw_tbl) := by
    intro w2 h2
    rcases List.mem_cons.mp h2 with rfl | h2
    · exact ⟨mc, gw_ok mc⟩
    · exact ⟨h2, gw_ok h2⟩
  have cw : CallB R s args own idx y b mLc (some .long) (Cond.code y b mLc (some .long) :: gw_tbl) rmc 0 0 n ∧ (Cond.static y).before args s = true := ⟨callB_of n hts hG rfl hrm.1 hrm.2.1 (hts _ mi) (hts _ lk) ⟨m1, m2, m3⟩ hrm.2.2, hts _ hs⟩
  refine va_calll (va_runS (As := As) (rest := rest) ⟨hx, hb, hml, hown, hts⟩ (hM H.size) cw ⟨blindJ, fun U hU hW => ⟨rfl, by rw [hU], by rw [hU]; exact hP, va_K.moved hW.alike hK, hD.weaken (fun _ _ _ _ => trivial), NW.warm hW hN⟩⟩ rfl hn hl.1 rfl (lv_room hcat) hd ⟨hcs, hss⟩) hS (fun q _ h => hFc q h) hFc (fun r2 u t H1 locs1 ht hvm hw hB hz1 hk1 hS1 => ?_)
  subst hw
  obtain ⟨hP1, hK1, hD1⟩ := hB
  rw [ht] at hP1
  exact k H1 locs1 ls hP1 (hD1.weaken (fun _ _ _ h => hFc _ h)) hS1 hl
theorem j_cSNi (As rest : List Value) (C : CX cI cZ rm mL Γ cc own) (hM : McI (gl Γ) y b mLc rt rmc (gD Γ) (tyL cI cZ) w As σ r1 σ1) (mf : MF y b mLc (some rt) n) (lk : (own, idx, y, host) ∈ nwQ) (hs : Cond.static y ∈ gw_tbl) (hn : As.length = n) (hrm : rmc.cells = 0 ∧ rmc.slots = 0 ∧ rmc.frames + 1 ≤ rm.frames ∧ 8 + (mLc + 11) + rmc.locals ≤ rm.locals) (hst : st = As.reverse ++ rest) (hcat : (rest.map fun v => v.category).sum ≤ 8) (hd : decode cc pc = .ok (.invokestatic idx, 3)) (k : JJ w Γ σ1 (pc + 3) lv (.int (iI r1) :: rest)) : JJ w Γ σ pc lv st := by
  obtain ⟨p, l, e, R, s, m, args, below, meth, c, D, A, nL, Q, cs, ss⟩ := Γ
  obtain ⟨hx, hb, hml, hown, hts, hK, hN, hA, hR, hnL, hcs, hss⟩ := C
  subst hR
  subst hst
  obtain ⟨mc, mi, m1, m2, m3, m4⟩ := mf
  intro H locs ls hP hD hS hl
  have hFc : ∀ q, va_A (w σ) H.size q → A q := by
    rintro q (⟨k2, e2, h⟩ | h)
    · exact hD.2 k2 _ h
    · exact hA q (Nat.le_trans hS.1 h)
  have hG : GoodIn gw_tbl (Cond.code y b mLc (some rt) :: gw_tbl) := by
    intro w2 h2
    rcases List.mem_cons.mp h2 with rfl | h2
    · exact ⟨mc, gw_ok mc⟩
    · exact ⟨h2, gw_ok h2⟩
  have cw : va_CN R s args own idx y host b mLc (some rt) (Cond.code y b mLc (some rt) :: gw_tbl) rmc 0 0 n ∧ (Cond.static y).before args s = true ∧ True := ⟨va_cnB n hts hG rfl hrm.1 hrm.2.1 (hN _ lk) (hts _ mi) ⟨m1, m2, m3⟩ hrm.2.2, hts _ hs, trivial⟩
  refine va_calli (va_runSN (As := As) (rest := rest) ⟨hx, hb, hml, hown, hts⟩ (hM H.size) cw ⟨blindJ, fun U hU hW => ⟨rfl, by rw [hU], by rw [hU]; exact hP, va_K.moved hW.alike hK, hD.weaken (fun _ _ _ _ => trivial), NW.warm hW hN⟩⟩ rfl hn hl.1 rfl (lv_room hcat) hd ⟨hcs, hss⟩) hS (fun q _ h => hFc q h) hFc (fun r2 u t H1 locs1 ht hvm hw hB hz1 hk1 hS1 => ?_)
  subst hw
  obtain ⟨hP1, hK1, hD1⟩ := hB
  rw [ht] at hP1
  exact k H1 locs1 ls hP1 (hD1.weaken (fun _ _ _ h => hFc _ h)) hS1 hl
end JCALL
section JMEM
variable {S : Type} {w : S → va_W} {Γ : Cx} {σ σ1 : S} {pc mL : Nat} {lv : List (Nat × Value)} {r : List Value} {cI cZ : ClassId} {rm : Room} {cc : ByteArray} {own Cn ref : String} {a N idx n : Nat} {fs : List Value} {T : u_T} {v : Value} {ty : FieldType} {i x : Int} {f : Nat → Int}
theorem j_get (ci q0 k : Nat) (C : CX cI cZ rm mL Γ cc own) (hin : ∀ w ∈ u_ws Cn T N, w ∈ gw_tbl) (he : (w σ)[q0]? = some (a, .inr (ci, fs))) (hc : vwCl[ci]? = some (Cn, T, N)) (hk : k < N) (lk : Cond.fieldLink own idx ref (T k).2.1 (T k).2.2.1 ∈ gw_tbl) (hr : ref = (T k).1) (hv : fs[k]? = some v) (hd : decode cc pc = .ok (.getfield idx, 3)) (kk : JJ w Γ σ (pc + 3) lv (v :: r)) : JJ w Γ σ pc lv (.ref a :: r) := by
  obtain ⟨p, l, e, R, s, m, args, below, meth, c, D, A, nL, Q, cs, ss⟩ := Γ
  subst hr
  exact fun H locs ls hP hD hS hl => va_get C.1 C.2.1 C.2.2.2.2.1 hin C.2.2.2.1 C.2.2.2.2.2.1 hP q0 he hc k hk (C.2.2.2.2.1 _ lk) (fun _ h9 => h9) hv hd (kk H locs ls hP hD hS hl)
theorem j_put (ci q0 k : Nat) (ty0 : Nat → FieldType) (C : CX cI cZ rm mL Γ cc own) (hin : ∀ w ∈ u_ws Cn T N, w ∈ gw_tbl) (hty : ∀ k, k < N → parseFieldDescriptor (T k).2.2.1 = some (ty0 k)) (hnm : ∀ a, a < N → ∀ b, b < N → a ≠ b → (T a).2.1 ≠ (T b).2.1) (he : (w σ)[q0]? = some (a, .inr (ci, fs))) (hc : vwCl[ci]? = some (Cn, T, N)) (hk : k < N) (lk : Cond.fieldLink own idx ref (T k).2.1 (T k).2.2.1 ∈ gw_tbl) (hr : ref = (T k).1) (hfin : (T k).2.2.2 = false) (hd1 : parseFieldDescriptor (T k).2.2.1 = some ty) (hn : narrow ty v = v) (hfit : fits ty v = true) (hl : k < fs.length) (hw : (w σ).set q0 (a, .inr (ci, fs.set k v)) = w σ1) (hd : decode cc pc = .ok (.putfield idx, 3)) (kk : JJ w Γ σ1 (pc + 3) lv r) : JJ w Γ σ pc lv (v :: .ref a :: r) := by
  obtain ⟨p, l, e, R, s, m, args, below, meth, c, D, A, nL, Q, cs, ss⟩ := Γ
  subst hr
  exact fun H locs ls hP hD hS hl2 => va_put C.1 C.2.1 C.2.2.2.2.1 hin ty0 hty hnm C.2.2.2.1 C.2.2.2.2.2.1 hP hD hS q0 he hc k hk (C.2.2.2.2.1 _ lk) (fun _ h9 => h9) hfin hd1 hn hfit hl hd (fun H1 locs1 hP1 hD1 hS1 => kk H1 locs1 ls (hw ▸ hP1) (hw ▸ hD1) hS1 hl2)
theorem j_iald (q0 : Nat) (C : CX cI cZ rm mL Γ cc own) (he : (w σ)[q0]? = some (a, .inl (cI, n, .inl (fun k => iI (f k))))) (hi : inB i n) (hd : decode cc pc = .ok (.iaload, 1)) (kk : JJ w Γ σ (pc + 1) lv (.int (iI (f (ix i))) :: r)) : JJ w Γ σ pc lv (.int (iI i) :: .ref a :: r) := by
  obtain ⟨p, l, e, R, s, m, args, below, meth, c, D, A, nL, Q, cs, ss⟩ := Γ
  exact fun H locs ls hP hD hS hl => va_iald C.1 C.2.1 C.2.2.2.2.2.1 hP q0 0 he rfl (inB_in hi) hd (by rw [iI_ix]; exact kk H locs ls hP hD hS hl)
theorem j_zald (q0 : Nat) (C : CX cI cZ rm mL Γ cc own) (he : (w σ)[q0]? = some (a, .inl (cZ, n, .inl (fun k => iI (f k))))) (hi : inB i n) (hd : decode cc pc = .ok (.baload, 1)) (kk : JJ w Γ σ (pc + 1) lv (.int (iI (f (ix i))) :: r)) : JJ w Γ σ pc lv (.int (iI i) :: .ref a :: r) := by
  obtain ⟨p, l, e, R, s, m, args, below, meth, c, D, A, nL, Q, cs, ss⟩ := Γ
  exact fun H locs ls hP hD hS hl => va_zald C.1 C.2.1 C.2.2.2.2.2.1 hP q0 1 he rfl (inB_in hi) hd (by rw [iI_ix]; exact kk H locs ls hP hD hS hl)
theorem upd_iI (f : Nat → Int) (k : Nat) (x : Int) : upd (fun j => iI (f j)) k (iI x) = fun j => iI (if j = k then x else f j) := by
  funext j
  unfold upd
  split <;> rfl
theorem j_iast (q0 : Nat) (C : CX cI cZ rm mL Γ cc own) (he : (w σ)[q0]? = some (a, .inl (cI, n, .inl (fun k => iI (f k))))) (hi : inB i n) (hw : (w σ).set q0 (a, .inl (cI, n, .inl (fun j => iI (if j = ix i then x else f j)))) = w σ1) (hd : decode cc pc = .ok (.iastore, 1)) (kk : JJ w Γ σ1 (pc + 1) lv r) : JJ w Γ σ pc lv (.int (iI x) :: .int (iI i) :: .ref a :: r) := by
  obtain ⟨p, l, e, R, s, m, args, below, meth, c, D, A, nL, Q, cs, ss⟩ := Γ
  refine fun H locs ls hP hD hS hl => va_iast C.1 C.2.1 C.2.2.2.2.2.1 hP hD hS q0 0 he rfl (inB_in hi) hd (fun H1 locs1 hP1 hD1 hS1 => kk H1 locs1 ls ?_ ?_ hS1 hl)
  · rw [iI_ix, upd_iI, hw] at hP1; exact hP1
  · rw [iI_ix, upd_iI, hw] at hD1; exact hD1
theorem j_zast (q0 : Nat) (C : CX cI cZ rm mL Γ cc own) (he : (w σ)[q0]? = some (a, .inl (cZ, n, .inl (fun k => iI (f k))))) (hi : inB i n) (hB : isB x) (hw : (w σ).set q0 (a, .inl (cZ, n, .inl (fun j => iI (if j = ix i then x else f j)))) = w σ1) (hd : decode cc pc = .ok (.bastore, 1)) (kk : JJ w Γ σ1 (pc + 1) lv r) : JJ w Γ σ pc lv (.int (iI x) :: .int (iI i) :: .ref a :: r) := by
  obtain ⟨p, l, e, R, s, m, args, below, meth, c, D, A, nL, Q, cs, ss⟩ := Γ
  refine fun H locs ls hP hD hS hl => va_zast C.1 C.2.1 C.2.2.2.2.2.1 hP hD hS q0 1 he rfl (inB_in hi) hd (fun H1 locs1 hP1 hD1 hS1 => kk H1 locs1 ls ?_ ?_ hS1 hl)
  · rw [iI_ix, isB_vp hB, upd_iI, hw] at hP1; exact hP1
  · rw [iI_ix, isB_vp hB, upd_iI, hw] at hD1; exact hD1
theorem j_tabI {dflt lo hi off : Int} {offs : Array Int} {len : Nat} (tgt : Nat) (C : CX cI cZ rm mL Γ cc own) (h1 : ¬ w32 x < lo) (h2 : ¬ hi < w32 x) (ho : offs[(w32 x - lo).toNat]? = some off) (ht : (pc : Int) + off = (tgt : Int)) (hd : decode cc pc = .ok (.tableswitch dflt lo hi offs, len)) (kk : JJ w Γ σ tgt lv r) : JJ w Γ σ pc lv (.int (iI x) :: r) := by
  obtain ⟨p, l, e, R, s, m, args, below, meth, c, D, A, nL, Q, cs, ss⟩ := Γ
  exact fun H locs ls hP hD hS hl => lv_tableIn C.1 C.2.1 hd (by rw [iI_toInt]; exact h1) (by rw [iI_toInt]; exact h2) (by rw [iI_toInt]; exact ho) ht (kk H locs ls hP hD hS hl)
theorem j_tabO {dflt lo hi : Int} {offs : Array Int} {len : Nat} (tgt : Nat) (C : CX cI cZ rm mL Γ cc own) (h1 : w32 x < lo ∨ hi < w32 x) (ht : (pc : Int) + dflt = (tgt : Int)) (hd : decode cc pc = .ok (.tableswitch dflt lo hi offs, len)) (kk : JJ w Γ σ tgt lv r) : JJ w Γ σ pc lv (.int (iI x) :: r) := by
  obtain ⟨p, l, e, R, s, m, args, below, meth, c, D, A, nL, Q, cs, ss⟩ := Γ
  exact fun H locs ls hP hD hS hl => lv_tableOut C.1 C.2.1 hd (by rw [iI_toInt]; exact h1) ht (kk H locs ls hP hD hS hl)
theorem j_look {dflt off : Int} {ps : Array (Int × Int)} {len : Nat} (tgt : Nat) (C : CX cI cZ rm mL Γ cc own) (hp : (ps.toList.zip (ps.toList.drop 1)).all (fun (a, next) => a.1 < next.1) = true) (ho : Op.lookupswitch.offset ps.toList dflt (w32 x) = off) (ht : (pc : Int) + off = (tgt : Int)) (hd : decode cc pc = .ok (.lookupswitch dflt ps, len)) (kk : JJ w Γ σ tgt lv r) : JJ w Γ σ pc lv (.int (iI x) :: r) := by
  obtain ⟨p, l, e, R, s, m, args, below, meth, c, D, A, nL, Q, cs, ss⟩ := Γ
  exact fun H locs ls hP hD hS hl => lv_lookup C.1 C.2.1 hd hp (by rw [iI_toInt]; exact ho) ht (kk H locs ls hP hD hS hl)
theorem j_alen (q0 : Nat) (C : CX cI cZ rm mL Γ cc own) (he : (w σ)[q0]? = some (a, .inl (cI, n, .inl (fun k => iI (f k))))) (hd : decode cc pc = .ok (.arraylength, 1)) (kk : JJ w Γ σ (pc + 1) lv (.int (iI (n : Int)) :: r)) : JJ w Γ σ pc lv (.ref a :: r) := by
  obtain ⟨p, l, e, R, s, m, args, below, meth, c, D, A, nL, Q, cs, ss⟩ := Γ
  exact fun H locs ls hP hD hS hl => va_alen C.1 C.2.1 C.2.2.2.2.2.1 hP q0 0 he rfl (show Int32.ofNat n = iI (n : Int) from (Int32.ofInt_eq_ofNat).symm) hd (kk H locs ls hP hD hS hl)
noncomputable def iMax (x y : Int) : Int := if w32 x < w32 y then y else x
theorem j_mmax {y : Int} (C : CX cI cZ rm mL Γ cc own) (lk : Cond.methodLink own idx Lib.Math.max.name ∈ gw_tbl) (hs : Cond.static Lib.Math.max.name ∈ gw_tbl) (hi : Cond.initialized "java/lang/Math" ∈ gw_tbl) (hcd : Cond.code Lib.Math.max.name Lib.Math.max.code 2 (some .int) ∈ gw_tbl) (hf : 1 ≤ rm.frames) (hlo : (r.map fun v => v.category).sum + 13 ≤ rm.locals) (hd : decode cc pc = .ok (.invokestatic idx, 3)) (kk : JJ w Γ σ (pc + 3) lv (.int (iI (iMax x y)) :: r)) : JJ w Γ σ pc lv (.int (iI y) :: .int (iI x) :: r) := by
  obtain ⟨p, l, e, R, s, m, args, below, meth, c, D, A, nL, Q, cs, ss⟩ := Γ
  obtain ⟨hx, hb, hml, hown, hts, hK, hN, hA, hR, hnL, hcs, hss⟩ := C
  subst hR
  refine fun H locs ls hP hD hS hl => va_mmax hx hb (hml.trans hl.1.symm) hown (hts _ lk) (hts _ hs) (hts _ hi) (hts _ hcd) hf hlo hcs hss hd ?_
  have e1 : (if iI x < iI y then iI y else iI x) = iI (iMax x y) := by
    unfold iMax
    simp only [iI_lt]
    split <;> rfl
  rw [e1]
  exact kk H locs ls hP hD hS hl
end JMEM
