/-! ===== numbers: ints of Lean for the machine's ===== -/
theorem w32_ex (x : Int) : ∃ y : Int, y = (x + 2147483648) % 4294967296 - 2147483648 := ⟨_, rfl⟩
theorem w64_ex (x : Int) : ∃ y : Int, y = (x + 9223372036854775808) % 18446744073709551616 - 9223372036854775808 := ⟨_, rfl⟩
/-- an int's number; kept shut, so that no check unfolds it -/
noncomputable def w32 (x : Int) : Int := Classical.choose (w32_ex x)
noncomputable def w64 (x : Int) : Int := Classical.choose (w64_ex x)
theorem w32_def (x : Int) : w32 x = (x + 2147483648) % 4294967296 - 2147483648 := Classical.choose_spec (w32_ex x)
theorem w64_def (x : Int) : w64 x = (x + 9223372036854775808) % 18446744073709551616 - 9223372036854775808 := Classical.choose_spec (w64_ex x)
def iI (x : Int) : Int32 := Int32.ofInt x
def iL (x : Int) : Int64 := Int64.ofInt x
theorem iI_toInt (x : Int) : (iI x).toInt = w32 x := by
  unfold iI
  rw [w32_def, Int32.toInt_ofInt, Int.bmod_def, show Int32.size = 4294967296 from rfl]
  split <;> omega
theorem iL_toInt (x : Int) : (iL x).toInt = w64 x := by
  unfold iL
  rw [w64_def, Int64.toInt_ofInt, Int.bmod_def, show Int64.size = 18446744073709551616 from rfl]
  split <;> omega
theorem iI_of (x : Int32) : iI x.toInt = x := Int32.ofInt_toInt x
theorem iL_of (x : Int64) : iL x.toInt = x := Int64.ofInt_toInt x
theorem iI_add (x y : Int) : iI x + iI y = iI (x + y) := by
  apply Int32.toInt_inj.mp
  rw [Int32.toInt_add, iI_toInt, iI_toInt, iI_toInt, Int.bmod_def]
  simp only [w32_def]
  split <;> omega
theorem iI_sub (x y : Int) : iI x - iI y = iI (x - y) := by
  apply Int32.toInt_inj.mp
  rw [Int32.toInt_sub, iI_toInt, iI_toInt, iI_toInt, Int.bmod_def]
  simp only [w32_def]
  split <;> omega
theorem iI_mul (x y : Int) : iI x * iI y = iI (x * y) := by
  unfold iI; exact (Int32.ofInt_mul _ _).symm
theorem iL_add (x y : Int) : iL x + iL y = iL (x + y) := by
  unfold iL; exact (Int64.ofInt_add _ _).symm
theorem iL_mul (x y : Int) : iL x * iL y = iL (x * y) := by
  unfold iL; exact (Int64.ofInt_mul _ _).symm
theorem iI_lt (x y : Int) : iI x < iI y ↔ w32 x < w32 y := by rw [Int32.lt_iff_toInt_lt, iI_toInt, iI_toInt]
theorem iI_le (x y : Int) : iI x ≤ iI y ↔ w32 x ≤ w32 y := by rw [Int32.le_iff_toInt_le, iI_toInt, iI_toInt]
theorem iI_eq (x y : Int) : iI x = iI y ↔ w32 x = w32 y := by rw [← Int32.toInt_inj, iI_toInt, iI_toInt]
theorem iL_lt (x y : Int) : iL x < iL y ↔ w64 x < w64 y := by rw [Int64.lt_iff_toInt_lt, iL_toInt, iL_toInt]
theorem iL_eq (x y : Int) : iL x = iL y ↔ w64 x = w64 y := by rw [← Int64.toInt_inj, iL_toInt, iL_toInt]
theorem iI_0 : (0 : Int32) = iI 0 := by decide +kernel
theorem iI_i2l (x : Int) : (iI x).toInt64 = iL (w32 x) := by
  apply Int64.toInt_inj.mp
  rw [Int32.toInt_toInt64, iI_toInt, iL_toInt]
  simp only [w32_def, w64_def]
  omega
noncomputable def ix (i : Int) : Nat := (w32 i).toNat
def inB (i : Int) (n : Nat) : Prop := 0 ≤ w32 i ∧ w32 i < n
theorem iI_ix (i : Int) : (iI i).toNatClampNeg = ix i := by
  unfold ix; rw [← iI_toInt]; rfl
theorem inB_in {i : Int} {n : Nat} (h : inB i n) : vp_in (iI i) n := by
  rw [vp_in_iff, iI_toInt]; exact h
def bAnd (x y : Int) : Int := (iI x &&& iI y).toInt
def bOr (x y : Int) : Int := (iI x ||| iI y).toInt
def bXor (x y : Int) : Int := (iI x ^^^ iI y).toInt
def bShl (x y : Int) : Int := (iI x <<< (iI y &&& 31)).toInt
def bShr (x y : Int) : Int := (iI x >>> (iI y &&& 31)).toInt
def bUshr (x y : Int) : Int := ((iI x).toUInt32 >>> ((iI y).toUInt32 &&& Int32.toUInt32 31)).toInt32.toInt
def iRem (x y : Int) : Int := (iI x - iI x / iI y * iI y).toInt
noncomputable def cmpL (x y : Int) : Int := if w64 y < w64 x then 1 else if w64 x = w64 y then 0 else -1
theorem cmpL_ok (x y : Int) : lg_cmp (iL x) (iL y) = iI (cmpL x y) := by
  unfold lg_cmp cmpL
  simp only [gt_iff_lt, iL_lt, iL_eq]
  split
  · decide +kernel
  · split <;> decide +kernel
def isB (x : Int) : Prop := w32 x = 0 ∨ w32 x = 1
theorem isB_iI {x : Int} (h : isB x) : iI x = 0 ∨ iI x = 1 := by
  rcases h with h | h
  · left; rw [iI_0, iI_eq, h, w32_def]; decide
  · right; rw [show (1 : Int32) = iI 1 by decide +kernel, iI_eq, h, w32_def]; decide
theorem isB_nar {x : Int} (h : isB x) : narrow .boolean (.int (iI x)) = .int (iI x) := by
  rcases isB_iI h with h | h <;> rw [h] <;> decide +kernel
theorem isB_vp {x : Int} (h : isB x) : vp_nar .boolean (iI x) = iI x := by
  rcases isB_iI h with h | h <;> rw [h] <;> decide +kernel
theorem isB_fit {x : Int} (h : isB x) : fits .boolean (.int (iI x)) = true := by
  rcases isB_iI h with h | h <;> rw [h] <;> decide +kernel
theorem isB_0 : isB 0 := Or.inl (by rw [w32_def]; decide)
theorem isB_1 : isB 1 := Or.inr (by rw [w32_def]; decide)
/-! ===== the state of a system: its numbers, its rows ===== -/
abbrev St : Type := (Nat → Int) × (Nat → Nat → Int)
def sF (σ : St) (j : Nat) (v : Int) : St := (fun k => if k = j then v else σ.1 k, σ.2)
def sA (σ : St) (j i : Nat) (v : Int) : St := (σ.1, fun k => if k = j then (fun n => if n = i then v else σ.2 j n) else σ.2 k)
abbrev Cx : Type := Program × Launch × Env × Room × State × MethodId × Array Value × List Frame × Method × Code × va_G × (Nat → Prop) × Nat × (State → Prop) × Nat × Nat
def gl (Γ : Cx) : Launch := Γ.2.1
def gD (Γ : Cx) : va_G := Γ.2.2.2.2.2.2.2.2.2.2.1
abbrev tyL (cI cZ : ClassId) : List (ClassId × FieldType) := [(cI, .int), (cZ, .boolean)]
def JJ {S : Type} (w : S → va_W) (Γ : Cx) (σ : S) (pc : Nat) (lv : List (Nat × Value)) (st : List Value) : Prop := match Γ with
  | (p, l, e, R, s, m, args, below, meth, c, D, A, nL, Q, cs, ss) => ∀ (H : Heap) (locs : List Loc) (ls : Array Slot), va_P D vwCl (w σ) H → va_D A (w σ) → va_S A s.heap H locs → lv_has ls nL lv → W p l e R s m args below meth c H locs cs ss Q (F0 m pc ls st)
/-- the nest words hold -/
def NW (U : State) : Prop := ∀ q ∈ nwQ, va_Nw (.methodLinkNest q.1 q.2.1 q.2.2.1 q.2.2.2) U
def CX (cI cZ : ClassId) (rm : Room) (mL : Nat) (Γ : Cx) (cc : ByteArray) (own : String) : Prop := match Γ with
  | (p, _, _, R, s, m, args, _, _, c, D, A, nL, _, cs, ss) => p.tables.exec = Jvm.exec ∧ c.code = cc ∧ c.maxLocals = nL ∧ s.vm.findClass own = some m.cls ∧ (∀ w ∈ gw_tbl, w.before args s = true) ∧ va_K D vwCl (tyL cI cZ) s ∧ NW s ∧ (∀ q, s.heap.size ≤ q → A q) ∧ R = rm ∧ nL = mL ∧ cs ≤ R.cells ∧ ss ≤ R.slots
/-! ===== the instructions ===== -/
section JROWS
variable {S : Type} {w : S → va_W} {Γ : Cx} {σ : S} {pc mL : Nat} {lv lv' : List (Nat × Value)} {r : List Value} {cI cZ : ClassId} {rm : Room} {cc : ByteArray} {own : String} {x y : Int}
theorem j_iconst {n : Int} (C : CX cI cZ rm mL Γ cc own) (hd : decode cc pc = .ok (.iconst n, 1)) (k : JJ w Γ σ (pc + 1) lv (.int (iI n) :: r)) : JJ w Γ σ pc lv r := by
  obtain ⟨p, l, e, R, s, m, args, below, meth, c, D, A, nL, Q, cs, ss⟩ := Γ
  exact fun H locs ls hP hD hS hl => lv_iconst C.1 C.2.1 hd rfl (k H locs ls hP hD hS hl)
theorem j_bipush {n : Int} (C : CX cI cZ rm mL Γ cc own) (hd : decode cc pc = .ok (.bipush n, 2)) (hn : (Int8.ofInt n).toInt32 = iI n) (k : JJ w Γ σ (pc + 2) lv (.int (iI n) :: r)) : JJ w Γ σ pc lv r := by
  obtain ⟨p, l, e, R, s, m, args, below, meth, c, D, A, nL, Q, cs, ss⟩ := Γ
  exact fun H locs ls hP hD hS hl => lv_bipush C.1 C.2.1 hd hn (k H locs ls hP hD hS hl)
theorem j_sipush {n : Int} (C : CX cI cZ rm mL Γ cc own) (hd : decode cc pc = .ok (.sipush n, 3)) (hn : (Int16.ofInt n).toInt32 = iI n) (k : JJ w Γ σ (pc + 3) lv (.int (iI n) :: r)) : JJ w Γ σ pc lv r := by
  obtain ⟨p, l, e, R, s, m, args, below, meth, c, D, A, nL, Q, cs, ss⟩ := Γ
  exact fun H locs ls hP hD hS hl => lv_sipush C.1 C.2.1 hd hn (k H locs ls hP hD hS hl)
theorem j_ldc {n : Int} {i : Nat} {v : Int32} (C : CX cI cZ rm mL Γ cc own) (hw : Cond.constant own i v ∈ gw_tbl) (hv : v = iI n) (hd : decode cc pc = .ok (.ldc i, 2)) (k : JJ w Γ σ (pc + 2) lv (.int (iI n) :: r)) : JJ w Γ σ pc lv r := by
  obtain ⟨p, l, e, R, s, m, args, below, meth, c, D, A, nL, Q, cs, ss⟩ := Γ
  subst hv
  exact fun H locs ls hP hD hS hl => lv_ldc C.1 C.2.1 C.2.2.2.1 (C.2.2.2.2.1 _ hw) hd (k H locs ls hP hD hS hl)
theorem j_ldcw {n : Int} {i : Nat} {v : Int32} (C : CX cI cZ rm mL Γ cc own) (hw : Cond.constant own i v ∈ gw_tbl) (hv : v = iI n) (hd : decode cc pc = .ok (.ldc_w i, 3)) (k : JJ w Γ σ (pc + 3) lv (.int (iI n) :: r)) : JJ w Γ σ pc lv r := by
  obtain ⟨p, l, e, R, s, m, args, below, meth, c, D, A, nL, Q, cs, ss⟩ := Γ
  subst hv
  exact fun H locs ls hP hD hS hl => lv_ldcw C.1 C.2.1 C.2.2.2.1 (C.2.2.2.2.1 _ hw) hd (k H locs ls hP hD hS hl)
theorem j_ldc2 {n : Int} {i : Nat} {v : Int64} (C : CX cI cZ rm mL Γ cc own) (hw : Cond.constantLong own i v ∈ gw_tbl) (hv : v = iL n) (hd : decode cc pc = .ok (.ldc2_w i, 3)) (k : JJ w Γ σ (pc + 3) lv (.long (iL n) :: r)) : JJ w Γ σ pc lv r := by
  obtain ⟨p, l, e, R, s, m, args, below, meth, c, D, A, nL, Q, cs, ss⟩ := Γ
  subst hv
  exact fun H locs ls hP hD hS hl => lv_ldc2 C.1 C.2.1 C.2.2.2.1 (C.2.2.2.2.1 _ hw) hd (k H locs ls hP hD hS hl)
theorem j_lconst {i : Fin 2} (n : Int) (C : CX cI cZ rm mL Γ cc own) (hd : decode cc pc = .ok (.lconst i, 1)) (hn : Int64.ofNat (i : Nat) = iL n) (k : JJ w Γ σ (pc + 1) lv (.long (iL n) :: r)) : JJ w Γ σ pc lv r := by
  obtain ⟨p, l, e, R, s, m, args, below, meth, c, D, A, nL, Q, cs, ss⟩ := Γ
  exact fun H locs ls hP hD hS hl => lv_lconst C.1 C.2.1 hd hn (k H locs ls hP hD hS hl)
theorem j_iload_n {i : Fin 4} (q : Nat) (C : CX cI cZ rm mL Γ cc own) (hd : decode cc pc = .ok (.iload_n i, 1)) (hq : lv[q]? = some ((i : Nat), .int (iI x))) (k : JJ w Γ σ (pc + 1) lv (.int (iI x) :: r)) : JJ w Γ σ pc lv r := by
  obtain ⟨p, l, e, R, s, m, args, below, meth, c, D, A, nL, Q, cs, ss⟩ := Γ
  exact fun H locs ls hP hD hS hl => lv_iload_n C.1 C.2.1 hd rfl (lv_at hl q hq) (k H locs ls hP hD hS hl)
theorem j_iload {i : Nat} (q : Nat) (C : CX cI cZ rm mL Γ cc own) (hd : decode cc pc = .ok (.iload i, 2)) (hq : lv[q]? = some (i, .int (iI x))) (k : JJ w Γ σ (pc + 2) lv (.int (iI x) :: r)) : JJ w Γ σ pc lv r := by
  obtain ⟨p, l, e, R, s, m, args, below, meth, c, D, A, nL, Q, cs, ss⟩ := Γ
  exact fun H locs ls hP hD hS hl => lv_iload C.1 C.2.1 hd (lv_at hl q hq) (k H locs ls hP hD hS hl)
theorem j_lload_n {i : Fin 4} (q : Nat) (C : CX cI cZ rm mL Γ cc own) (hd : decode cc pc = .ok (.lload_n i, 1)) (hq : lv[q]? = some ((i : Nat), .long (iL x))) (k : JJ w Γ σ (pc + 1) lv (.long (iL x) :: r)) : JJ w Γ σ pc lv r := by
  obtain ⟨p, l, e, R, s, m, args, below, meth, c, D, A, nL, Q, cs, ss⟩ := Γ
  exact fun H locs ls hP hD hS hl => lv_lload_n C.1 C.2.1 hd rfl (lv_at hl q hq) (k H locs ls hP hD hS hl)
theorem j_lload {i : Nat} (q : Nat) (C : CX cI cZ rm mL Γ cc own) (hd : decode cc pc = .ok (.lload i, 2)) (hq : lv[q]? = some (i, .long (iL x))) (k : JJ w Γ σ (pc + 2) lv (.long (iL x) :: r)) : JJ w Γ σ pc lv r := by
  obtain ⟨p, l, e, R, s, m, args, below, meth, c, D, A, nL, Q, cs, ss⟩ := Γ
  exact fun H locs ls hP hD hS hl => lv_lload C.1 C.2.1 hd (lv_at hl q hq) (k H locs ls hP hD hS hl)
theorem j_aload_n {i : Fin 4} {a : Nat} (q : Nat) (C : CX cI cZ rm mL Γ cc own) (hd : decode cc pc = .ok (.aload_n i, 1)) (hq : lv[q]? = some ((i : Nat), .ref a)) (k : JJ w Γ σ (pc + 1) lv (.ref a :: r)) : JJ w Γ σ pc lv r := by
  obtain ⟨p, l, e, R, s, m, args, below, meth, c, D, A, nL, Q, cs, ss⟩ := Γ
  exact fun H locs ls hP hD hS hl => lv_aload_n C.1 C.2.1 hd rfl (lv_at hl q hq) (k H locs ls hP hD hS hl)
theorem j_aload {i : Nat} {a : Nat} (q : Nat) (C : CX cI cZ rm mL Γ cc own) (hd : decode cc pc = .ok (.aload i, 2)) (hq : lv[q]? = some (i, .ref a)) (k : JJ w Γ σ (pc + 2) lv (.ref a :: r)) : JJ w Γ σ pc lv r := by
  obtain ⟨p, l, e, R, s, m, args, below, meth, c, D, A, nL, Q, cs, ss⟩ := Γ
  exact fun H locs ls hP hD hS hl => lv_aload C.1 C.2.1 hd (lv_at hl q hq) (k H locs ls hP hD hS hl)
theorem j_istore_n {i : Fin 4} (lv' : List (Nat × Value)) (C : CX cI cZ rm mL Γ cc own) (hd : decode cc pc = .ok (.istore_n i, 1)) (hn : (i : Nat) < mL) (hl' : ((i : Nat), Value.int (iI x)) :: lv.filter (fun q => !(q.1 == (i : Nat)) && !(q.1 + 1 == (i : Nat) && q.2.category == 2)) = lv') (k : JJ w Γ σ (pc + 1) lv' r) : JJ w Γ σ pc lv (.int (iI x) :: r) := by
  obtain ⟨p, l, e, R, s, m, args, below, meth, c, D, A, nL, Q, cs, ss⟩ := Γ
  have hL : nL = mL := C.2.2.2.2.2.2.2.2.2.1
  exact fun H locs ls hP hD hS hl => lv_istore_n C.1 C.2.1 hd rfl hl (by rw [hL]; exact hn) hl' (fun ls2 hl2 => k H locs ls2 hP hD hS hl2)
theorem j_istore {i : Nat} (lv' : List (Nat × Value)) (C : CX cI cZ rm mL Γ cc own) (hd : decode cc pc = .ok (.istore i, 2)) (hn : i < mL) (hl' : (i, Value.int (iI x)) :: lv.filter (fun q => !(q.1 == i) && !(q.1 + 1 == i && q.2.category == 2)) = lv') (k : JJ w Γ σ (pc + 2) lv' r) : JJ w Γ σ pc lv (.int (iI x) :: r) := by
  obtain ⟨p, l, e, R, s, m, args, below, meth, c, D, A, nL, Q, cs, ss⟩ := Γ
  have hL : nL = mL := C.2.2.2.2.2.2.2.2.2.1
  exact fun H locs ls hP hD hS hl => lv_istore C.1 C.2.1 hd hl (by rw [hL]; exact hn) hl' (fun ls2 hl2 => k H locs ls2 hP hD hS hl2)
theorem j_lstore_n {i : Fin 4} (lv' : List (Nat × Value)) (C : CX cI cZ rm mL Γ cc own) (hd : decode cc pc = .ok (.lstore_n i, 1)) (hn : (i : Nat) + 1 < mL) (hl' : ((i : Nat), Value.long (iL x)) :: lv.filter (fun q => !(q.1 == (i : Nat)) && (!(q.1 == (i : Nat) + 1) && !(q.1 + 1 == (i : Nat) && q.2.category == 2))) = lv') (k : JJ w Γ σ (pc + 1) lv' r) : JJ w Γ σ pc lv (.long (iL x) :: r) := by
  obtain ⟨p, l, e, R, s, m, args, below, meth, c, D, A, nL, Q, cs, ss⟩ := Γ
  have hL : nL = mL := C.2.2.2.2.2.2.2.2.2.1
  exact fun H locs ls hP hD hS hl => lv_lstore_n C.1 C.2.1 hd rfl hl (by rw [hL]; exact hn) hl' (fun ls2 hl2 => k H locs ls2 hP hD hS hl2)
theorem j_iinc {i : Nat} {n : Int} (q : Nat) (lv' : List (Nat × Value)) (C : CX cI cZ rm mL Γ cc own) (hd : decode cc pc = .ok (.iinc i n, 3)) (hn : i < mL) (hq : lv[q]? = some (i, .int (iI x))) (hl' : (i, Value.int (iI (x + n))) :: lv.filter (fun q => !(q.1 == i) && !(q.1 + 1 == i && q.2.category == 2)) = lv') (k : JJ w Γ σ (pc + 3) lv' r) : JJ w Γ σ pc lv r := by
  obtain ⟨p, l, e, R, s, m, args, below, meth, c, D, A, nL, Q, cs, ss⟩ := Γ
  have hL : nL = mL := C.2.2.2.2.2.2.2.2.2.1
  exact fun H locs ls hP hD hS hl => lv_iinc C.1 C.2.1 hd hl hq (iI_add x n) (by rw [hL]; exact hn) hl' (fun ls2 hl2 => k H locs ls2 hP hD hS hl2)
theorem j_iadd (C : CX cI cZ rm mL Γ cc own) (hd : decode cc pc = .ok (.iadd, 1)) (k : JJ w Γ σ (pc + 1) lv (.int (iI (x + y)) :: r)) : JJ w Γ σ pc lv (.int (iI y) :: .int (iI x) :: r) := by
  obtain ⟨p, l, e, R, s, m, args, below, meth, c, D, A, nL, Q, cs, ss⟩ := Γ
  exact fun H locs ls hP hD hS hl => lv_iadd C.1 C.2.1 hd (by rw [iI_add]; exact k H locs ls hP hD hS hl)
theorem j_isub (C : CX cI cZ rm mL Γ cc own) (hd : decode cc pc = .ok (.isub, 1)) (k : JJ w Γ σ (pc + 1) lv (.int (iI (x - y)) :: r)) : JJ w Γ σ pc lv (.int (iI y) :: .int (iI x) :: r) := by
  obtain ⟨p, l, e, R, s, m, args, below, meth, c, D, A, nL, Q, cs, ss⟩ := Γ
  exact fun H locs ls hP hD hS hl => lv_isub C.1 C.2.1 hd (by rw [iI_sub]; exact k H locs ls hP hD hS hl)
theorem j_imul (C : CX cI cZ rm mL Γ cc own) (hd : decode cc pc = .ok (.imul, 1)) (k : JJ w Γ σ (pc + 1) lv (.int (iI (x * y)) :: r)) : JJ w Γ σ pc lv (.int (iI y) :: .int (iI x) :: r) := by
  obtain ⟨p, l, e, R, s, m, args, below, meth, c, D, A, nL, Q, cs, ss⟩ := Γ
  exact fun H locs ls hP hD hS hl => lv_imul C.1 C.2.1 hd (by rw [iI_mul]; exact k H locs ls hP hD hS hl)
theorem j_iand (C : CX cI cZ rm mL Γ cc own) (hd : decode cc pc = .ok (.iand, 1)) (k : JJ w Γ σ (pc + 1) lv (.int (iI (bAnd x y)) :: r)) : JJ w Γ σ pc lv (.int (iI y) :: .int (iI x) :: r) := by
  obtain ⟨p, l, e, R, s, m, args, below, meth, c, D, A, nL, Q, cs, ss⟩ := Γ
  exact fun H locs ls hP hD hS hl => lv_iand C.1 C.2.1 hd (by rw [show iI x &&& iI y = iI (bAnd x y) from (iI_of _).symm]; exact k H locs ls hP hD hS hl)
theorem j_ior (C : CX cI cZ rm mL Γ cc own) (hd : decode cc pc = .ok (.ior, 1)) (k : JJ w Γ σ (pc + 1) lv (.int (iI (bOr x y)) :: r)) : JJ w Γ σ pc lv (.int (iI y) :: .int (iI x) :: r) := by
  obtain ⟨p, l, e, R, s, m, args, below, meth, c, D, A, nL, Q, cs, ss⟩ := Γ
  exact fun H locs ls hP hD hS hl => lv_ior C.1 C.2.1 hd (by rw [show iI x ||| iI y = iI (bOr x y) from (iI_of _).symm]; exact k H locs ls hP hD hS hl)
theorem j_ixor (C : CX cI cZ rm mL Γ cc own) (hd : decode cc pc = .ok (.ixor, 1)) (k : JJ w Γ σ (pc + 1) lv (.int (iI (bXor x y)) :: r)) : JJ w Γ σ pc lv (.int (iI y) :: .int (iI x) :: r) := by
  obtain ⟨p, l, e, R, s, m, args, below, meth, c, D, A, nL, Q, cs, ss⟩ := Γ
  exact fun H locs ls hP hD hS hl => lv_ixor C.1 C.2.1 hd (by rw [show iI x ^^^ iI y = iI (bXor x y) from (iI_of _).symm]; exact k H locs ls hP hD hS hl)
theorem j_ishl (C : CX cI cZ rm mL Γ cc own) (hd : decode cc pc = .ok (.ishl, 1)) (k : JJ w Γ σ (pc + 1) lv (.int (iI (bShl x y)) :: r)) : JJ w Γ σ pc lv (.int (iI y) :: .int (iI x) :: r) := by
  obtain ⟨p, l, e, R, s, m, args, below, meth, c, D, A, nL, Q, cs, ss⟩ := Γ
  exact fun H locs ls hP hD hS hl => lv_ishl C.1 C.2.1 hd (by rw [show iI x <<< (iI y &&& 31) = iI (bShl x y) from (iI_of _).symm]; exact k H locs ls hP hD hS hl)
theorem j_ishr (C : CX cI cZ rm mL Γ cc own) (hd : decode cc pc = .ok (.ishr, 1)) (k : JJ w Γ σ (pc + 1) lv (.int (iI (bShr x y)) :: r)) : JJ w Γ σ pc lv (.int (iI y) :: .int (iI x) :: r) := by
  obtain ⟨p, l, e, R, s, m, args, below, meth, c, D, A, nL, Q, cs, ss⟩ := Γ
  exact fun H locs ls hP hD hS hl => lv_ishr C.1 C.2.1 hd (by rw [show iI x >>> (iI y &&& 31) = iI (bShr x y) from (iI_of _).symm]; exact k H locs ls hP hD hS hl)
theorem j_iushr (C : CX cI cZ rm mL Γ cc own) (hd : decode cc pc = .ok (.iushr, 1)) (k : JJ w Γ σ (pc + 1) lv (.int (iI (bUshr x y)) :: r)) : JJ w Γ σ pc lv (.int (iI y) :: .int (iI x) :: r) := by
  obtain ⟨p, l, e, R, s, m, args, below, meth, c, D, A, nL, Q, cs, ss⟩ := Γ
  exact fun H locs ls hP hD hS hl => lv_iushr C.1 C.2.1 hd (iI_of _).symm (k H locs ls hP hD hS hl)
theorem j_irem (C : CX cI cZ rm mL Γ cc own) (hne : ¬ w32 y = 0) (hd : decode cc pc = .ok (.irem, 1)) (k : JJ w Γ σ (pc + 1) lv (.int (iI (iRem x y)) :: r)) : JJ w Γ σ pc lv (.int (iI y) :: .int (iI x) :: r) := by
  obtain ⟨p, l, e, R, s, m, args, below, meth, c, D, A, nL, Q, cs, ss⟩ := Γ
  exact fun H locs ls hP hD hS hl => lv_irem C.1 C.2.1 hd (by rw [iI_0, iI_eq, show w32 0 = 0 by rw [w32_def]; decide]; exact hne) (by rw [show iI x - iI x / iI y * iI y = iI (iRem x y) from (iI_of _).symm]; exact k H locs ls hP hD hS hl)
theorem j_i2l (C : CX cI cZ rm mL Γ cc own) {x' : Int} (hx : w32 x = x') (hd : decode cc pc = .ok (.i2l, 1)) (k : JJ w Γ σ (pc + 1) lv (.long (iL x') :: r)) : JJ w Γ σ pc lv (.int (iI x) :: r) := by
  obtain ⟨p, l, e, R, s, m, args, below, meth, c, D, A, nL, Q, cs, ss⟩ := Γ
  subst hx
  exact fun H locs ls hP hD hS hl => lv_i2l C.1 C.2.1 hd (iI_i2l x) (k H locs ls hP hD hS hl)
theorem j_ladd (C : CX cI cZ rm mL Γ cc own) (hd : decode cc pc = .ok (.ladd, 1)) (k : JJ w Γ σ (pc + 1) lv (.long (iL (x + y)) :: r)) : JJ w Γ σ pc lv (.long (iL y) :: .long (iL x) :: r) := by
  obtain ⟨p, l, e, R, s, m, args, below, meth, c, D, A, nL, Q, cs, ss⟩ := Γ
  exact fun H locs ls hP hD hS hl => lv_ladd C.1 C.2.1 hd (by rw [iL_add]; exact k H locs ls hP hD hS hl)
theorem j_lmul (C : CX cI cZ rm mL Γ cc own) (hd : decode cc pc = .ok (.lmul, 1)) (k : JJ w Γ σ (pc + 1) lv (.long (iL (x * y)) :: r)) : JJ w Γ σ pc lv (.long (iL y) :: .long (iL x) :: r) := by
  obtain ⟨p, l, e, R, s, m, args, below, meth, c, D, A, nL, Q, cs, ss⟩ := Γ
  exact fun H locs ls hP hD hS hl => lv_lmul C.1 C.2.1 hd (by rw [iL_mul]; exact k H locs ls hP hD hS hl)
theorem j_lcmp (C : CX cI cZ rm mL Γ cc own) (hd : decode cc pc = .ok (.lcmp, 1)) (k : JJ w Γ σ (pc + 1) lv (.int (iI (cmpL x y)) :: r)) : JJ w Γ σ pc lv (.long (iL y) :: .long (iL x) :: r) := by
  obtain ⟨p, l, e, R, s, m, args, below, meth, c, D, A, nL, Q, cs, ss⟩ := Γ
  exact fun H locs ls hP hD hS hl => W.lcmp C.1 C.2.1 hd (by rw [cmpL_ok]; exact k H locs ls hP hD hS hl)
theorem j_dup {v : Value} (C : CX cI cZ rm mL Γ cc own) (hv : v.category = 1) (hd : decode cc pc = .ok (.dup, 1)) (k : JJ w Γ σ (pc + 1) lv (v :: v :: r)) : JJ w Γ σ pc lv (v :: r) := by
  obtain ⟨p, l, e, R, s, m, args, below, meth, c, D, A, nL, Q, cs, ss⟩ := Γ
  exact fun H locs ls hP hD hS hl => lv_dup C.1 C.2.1 hd hv (k H locs ls hP hD hS hl)
theorem j_dup2 {u v : Value} (C : CX cI cZ rm mL Γ cc own) (hu : u.category = 1) (hv : v.category = 1) (hd : decode cc pc = .ok (.dup2, 1)) (k : JJ w Γ σ (pc + 1) lv (u :: v :: u :: v :: r)) : JJ w Γ σ pc lv (u :: v :: r) := by
  obtain ⟨p, l, e, R, s, m, args, below, meth, c, D, A, nL, Q, cs, ss⟩ := Γ
  exact fun H locs ls hP hD hS hl => lv_dup2_11 C.1 C.2.1 hd hu hv (k H locs ls hP hD hS hl)
theorem j_goto {off : Int} (tgt : Nat) (C : CX cI cZ rm mL Γ cc own) (hd : decode cc pc = .ok (.goto off, 3)) (ht : (pc : Int) + off = (tgt : Int)) (k : JJ w Γ σ tgt lv r) : JJ w Γ σ pc lv r := by
  obtain ⟨p, l, e, R, s, m, args, below, meth, c, D, A, nL, Q, cs, ss⟩ := Γ
  exact fun H locs ls hP hD hS hl => lv_goto C.1 C.2.1 hd ht (k H locs ls hP hD hS hl)
theorem j_sub (ks : List Nat) (h : lv_pick lv ks = lv') (k : JJ w Γ σ pc lv' r) : JJ w Γ σ pc lv r := by
  obtain ⟨p, l, e, R, s, m, args, below, meth, c, D, A, nL, Q, cs, ss⟩ := Γ
  exact fun H locs ls hP hD hS hl => k H locs ls hP hD hS (lv_sub hl ks h)
end JROWS
section JBR
variable {S : Type} {w : S → va_W} {Γ : Cx} {σ : S} {pc mL : Nat} {lv : List (Nat × Value)} {r : List Value} {cI cZ : ClassId} {rm : Room} {cc : ByteArray} {own : String} {x y x' y' : Int}
theorem j_icmp_eq {off : Int} (tgt : Nat) (C : CX cI cZ rm mL Γ cc own) (hx : w32 x = x') (hy : w32 y = y') (hd : decode cc pc = .ok (.if_icmp .eq off, 3)) (ht : (pc : Int) + off = (tgt : Int)) (kt : x' = y' → JJ w Γ σ tgt lv r) (kf : ¬ (x' = y') → JJ w Γ σ (pc + 3) lv r) : JJ w Γ σ pc lv (.int (iI y) :: .int (iI x) :: r) := by
  obtain ⟨p, l, e, R, s, m, args, below, meth, c, D, A, nL, Q, cs, ss⟩ := Γ
  subst hx; subst hy
  exact fun H locs ls hP hD hS hl => lv_icmp_eq C.1 C.2.1 hd ht (fun h => kt ((iI_eq _ _).mp h) H locs ls hP hD hS hl) (fun h => kf (fun h2 => h ((iI_eq _ _).mpr h2)) H locs ls hP hD hS hl)
theorem j_if_eq {off : Int} (tgt : Nat) (C : CX cI cZ rm mL Γ cc own) (hx : w32 x = x') (hd : decode cc pc = .ok (.ifCond .eq off, 3)) (ht : (pc : Int) + off = (tgt : Int)) (kt : x' = 0 → JJ w Γ σ tgt lv r) (kf : ¬ (x' = 0) → JJ w Γ σ (pc + 3) lv r) : JJ w Γ σ pc lv (.int (iI x) :: r) := by
  obtain ⟨p, l, e, R, s, m, args, below, meth, c, D, A, nL, Q, cs, ss⟩ := Γ
  subst hx
  have e0 : w32 0 = 0 := by rw [w32_def]; decide
  exact fun H locs ls hP hD hS hl => lv_if_eq C.1 C.2.1 hd ht (fun h => kt (by simpa only [iI_0, iI_eq, iI_lt, iI_le, e0] using h) H locs ls hP hD hS hl) (fun h => kf (by simpa only [iI_0, iI_eq, iI_lt, iI_le, e0] using h) H locs ls hP hD hS hl)
theorem j_icmp_ne {off : Int} (tgt : Nat) (C : CX cI cZ rm mL Γ cc own) (hx : w32 x = x') (hy : w32 y = y') (hd : decode cc pc = .ok (.if_icmp .ne off, 3)) (ht : (pc : Int) + off = (tgt : Int)) (kt : ¬ (x' = y') → JJ w Γ σ tgt lv r) (kf : x' = y' → JJ w Γ σ (pc + 3) lv r) : JJ w Γ σ pc lv (.int (iI y) :: .int (iI x) :: r) := by
  obtain ⟨p, l, e, R, s, m, args, below, meth, c, D, A, nL, Q, cs, ss⟩ := Γ
  subst hx; subst hy
  exact fun H locs ls hP hD hS hl => lv_icmp_ne C.1 C.2.1 hd ht (fun h => kt (fun h2 => h ((iI_eq _ _).mpr h2)) H locs ls hP hD hS hl) (fun h => kf ((iI_eq _ _).mp h) H locs ls hP hD hS hl)
theorem j_if_ne {off : Int} (tgt : Nat) (C : CX cI cZ rm mL Γ cc own) (hx : w32 x = x') (hd : decode cc pc = .ok (.ifCond .ne off, 3)) (ht : (pc : Int) + off = (tgt : Int)) (kt : ¬ (x' = 0) → JJ w Γ σ tgt lv r) (kf : x' = 0 → JJ w Γ σ (pc + 3) lv r) : JJ w Γ σ pc lv (.int (iI x) :: r) := by
  obtain ⟨p, l, e, R, s, m, args, below, meth, c, D, A, nL, Q, cs, ss⟩ := Γ
  subst hx
  have e0 : w32 0 = 0 := by rw [w32_def]; decide
  exact fun H locs ls hP hD hS hl => lv_if_ne C.1 C.2.1 hd ht (fun h => kt (by simpa only [iI_0, iI_eq, iI_lt, iI_le, e0] using h) H locs ls hP hD hS hl) (fun h => kf (by simpa only [iI_0, iI_eq, iI_lt, iI_le, e0] using h) H locs ls hP hD hS hl)
theorem j_icmp_lt {off : Int} (tgt : Nat) (C : CX cI cZ rm mL Γ cc own) (hx : w32 x = x') (hy : w32 y = y') (hd : decode cc pc = .ok (.if_icmp .lt off, 3)) (ht : (pc : Int) + off = (tgt : Int)) (kt : x' < y' → JJ w Γ σ tgt lv r) (kf : ¬ (x' < y') → JJ w Γ σ (pc + 3) lv r) : JJ w Γ σ pc lv (.int (iI y) :: .int (iI x) :: r) := by
  obtain ⟨p, l, e, R, s, m, args, below, meth, c, D, A, nL, Q, cs, ss⟩ := Γ
  subst hx; subst hy
  exact fun H locs ls hP hD hS hl => lv_icmp_lt C.1 C.2.1 hd ht (fun h => kt ((iI_lt _ _).mp h) H locs ls hP hD hS hl) (fun h => kf (fun h2 => h ((iI_lt _ _).mpr h2)) H locs ls hP hD hS hl)
theorem j_if_lt {off : Int} (tgt : Nat) (C : CX cI cZ rm mL Γ cc own) (hx : w32 x = x') (hd : decode cc pc = .ok (.ifCond .lt off, 3)) (ht : (pc : Int) + off = (tgt : Int)) (kt : x' < 0 → JJ w Γ σ tgt lv r) (kf : ¬ (x' < 0) → JJ w Γ σ (pc + 3) lv r) : JJ w Γ σ pc lv (.int (iI x) :: r) := by
  obtain ⟨p, l, e, R, s, m, args, below, meth, c, D, A, nL, Q, cs, ss⟩ := Γ
  subst hx
  have e0 : w32 0 = 0 := by rw [w32_def]; decide
  exact fun H locs ls hP hD hS hl => lv_if_lt C.1 C.2.1 hd ht (fun h => kt (by simpa only [iI_0, iI_eq, iI_lt, iI_le, e0] using h) H locs ls hP hD hS hl) (fun h => kf (by simpa only [iI_0, iI_eq, iI_lt, iI_le, e0] using h) H locs ls hP hD hS hl)
theorem j_icmp_ge {off : Int} (tgt : Nat) (C : CX cI cZ rm mL Γ cc own) (hx : w32 x = x') (hy : w32 y = y') (hd : decode cc pc = .ok (.if_icmp .ge off, 3)) (ht : (pc : Int) + off = (tgt : Int)) (kt : y' ≤ x' → JJ w Γ σ tgt lv r) (kf : ¬ (y' ≤ x') → JJ w Γ σ (pc + 3) lv r) : JJ w Γ σ pc lv (.int (iI y) :: .int (iI x) :: r) := by
  obtain ⟨p, l, e, R, s, m, args, below, meth, c, D, A, nL, Q, cs, ss⟩ := Γ
  subst hx; subst hy
  exact fun H locs ls hP hD hS hl => lv_icmp_ge C.1 C.2.1 hd ht (fun h => kt ((iI_le _ _).mp h) H locs ls hP hD hS hl) (fun h => kf (fun h2 => h ((iI_le _ _).mpr h2)) H locs ls hP hD hS hl)
theorem j_if_ge {off : Int} (tgt : Nat) (C : CX cI cZ rm mL Γ cc own) (hx : w32 x = x') (hd : decode cc pc = .ok (.ifCond .ge off, 3)) (ht : (pc : Int) + off = (tgt : Int)) (kt : 0 ≤ x' → JJ w Γ σ tgt lv r) (kf : ¬ (0 ≤ x') → JJ w Γ σ (pc + 3) lv r) : JJ w Γ σ pc lv (.int (iI x) :: r) := by
  obtain ⟨p, l, e, R, s, m, args, below, meth, c, D, A, nL, Q, cs, ss⟩ := Γ
  subst hx
  have e0 : w32 0 = 0 := by rw [w32_def]; decide
  exact fun H locs ls hP hD hS hl => lv_if_ge C.1 C.2.1 hd ht (fun h => kt (by simpa only [iI_0, iI_eq, iI_lt, iI_le, e0] using h) H locs ls hP hD hS hl) (fun h => kf (by simpa only [iI_0, iI_eq, iI_lt, iI_le, e0] using h) H locs ls hP hD hS hl)
theorem j_icmp_gt {off : Int} (tgt : Nat) (C : CX cI cZ rm mL Γ cc own) (hx : w32 x = x') (hy : w32 y = y') (hd : decode cc pc = .ok (.if_icmp .gt off, 3)) (ht : (pc : Int) + off = (tgt : Int)) (kt : y' < x' → JJ w Γ σ tgt lv r) (kf : ¬ (y' < x') → JJ w Γ σ (pc + 3) lv r) : JJ w Γ σ pc lv (.int (iI y) :: .int (iI x) :: r) := by
  obtain ⟨p, l, e, R, s, m, args, below, meth, c, D, A, nL, Q, cs, ss⟩ := Γ
  subst hx; subst hy
  exact fun H locs ls hP hD hS hl => lv_icmp_gt C.1 C.2.1 hd ht (fun h => kt ((iI_lt _ _).mp h) H locs ls hP hD hS hl) (fun h => kf (fun h2 => h ((iI_lt _ _).mpr h2)) H locs ls hP hD hS hl)
theorem j_if_gt {off : Int} (tgt : Nat) (C : CX cI cZ rm mL Γ cc own) (hx : w32 x = x') (hd : decode cc pc = .ok (.ifCond .gt off, 3)) (ht : (pc : Int) + off = (tgt : Int)) (kt : 0 < x' → JJ w Γ σ tgt lv r) (kf : ¬ (0 < x') → JJ w Γ σ (pc + 3) lv r) : JJ w Γ σ pc lv (.int (iI x) :: r) := by
  obtain ⟨p, l, e, R, s, m, args, below, meth, c, D, A, nL, Q, cs, ss⟩ := Γ
  subst hx
  have e0 : w32 0 = 0 := by rw [w32_def]; decide
  exact fun H locs ls hP hD hS hl => lv_if_gt C.1 C.2.1 hd ht (fun h => kt (by simpa only [iI_0, iI_eq, iI_lt, iI_le, e0] using h) H locs ls hP hD hS hl) (fun h => kf (by simpa only [iI_0, iI_eq, iI_lt, iI_le, e0] using h) H locs ls hP hD hS hl)
theorem j_icmp_le {off : Int} (tgt : Nat) (C : CX cI cZ rm mL Γ cc own) (hx : w32 x = x') (hy : w32 y = y') (hd : decode cc pc = .ok (.if_icmp .le off, 3)) (ht : (pc : Int) + off = (tgt : Int)) (kt : x' ≤ y' → JJ w Γ σ tgt lv r) (kf : ¬ (x' ≤ y') → JJ w Γ σ (pc + 3) lv r) : JJ w Γ σ pc lv (.int (iI y) :: .int (iI x) :: r) := by
  obtain ⟨p, l, e, R, s, m, args, below, meth, c, D, A, nL, Q, cs, ss⟩ := Γ
  subst hx; subst hy
  exact fun H locs ls hP hD hS hl => lv_icmp_le C.1 C.2.1 hd ht (fun h => kt ((iI_le _ _).mp h) H locs ls hP hD hS hl) (fun h => kf (fun h2 => h ((iI_le _ _).mpr h2)) H locs ls hP hD hS hl)
theorem j_if_le {off : Int} (tgt : Nat) (C : CX cI cZ rm mL Γ cc own) (hx : w32 x = x') (hd : decode cc pc = .ok (.ifCond .le off, 3)) (ht : (pc : Int) + off = (tgt : Int)) (kt : x' ≤ 0 → JJ w Γ σ tgt lv r) (kf : ¬ (x' ≤ 0) → JJ w Γ σ (pc + 3) lv r) : JJ w Γ σ pc lv (.int (iI x) :: r) := by
  obtain ⟨p, l, e, R, s, m, args, below, meth, c, D, A, nL, Q, cs, ss⟩ := Γ
  subst hx
  have e0 : w32 0 = 0 := by rw [w32_def]; decide
  exact fun H locs ls hP hD hS hl => lv_if_le C.1 C.2.1 hd ht (fun h => kt (by simpa only [iI_0, iI_eq, iI_lt, iI_le, e0] using h) H locs ls hP hD hS hl) (fun h => kf (by simpa only [iI_0, iI_eq, iI_lt, iI_le, e0] using h) H locs ls hP hD hS hl)
end JBR
