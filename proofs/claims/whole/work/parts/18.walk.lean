/-! TermLodgingsModel.strike(I)I -/
def rm_X11_strike : Room := { frames := 4, cells := 0, slots := 0, locals := 94 }
set_option maxRecDepth 20000 in
theorem tX11_strike_B216 {ad : Nat → Nat} {cI cZ : ClassId} {Γ : Cx} {r : Int} {σ' : St} (C : CX cI cZ rm_X11_strike 6 Γ cX11_strike RX11) (hq : RetI .int (wR ad cI cZ) Γ cX11_strike r σ') {k204 : Int → Int → Int → St → Option (Int × St)} {k216 : Int → Int → Int → Int → St → Option (Int × St)} (hk204 : ∀ (v2 : Int) (v3 : Int) (v4 : Int) (σ : St), k204 v2 v3 v4 σ = some (r, σ') → JJ (wR ad cI cZ) Γ σ 204 [(0, .ref (ad 0)), (2, .int (iI v2)), (3, .int (iI v3)), (4, .int (iI v4))] []) (hk216 : ∀ (v2 : Int) (v3 : Int) (v4 : Int) (v5 : Int) (σ : St), k216 v2 v3 v4 v5 σ = some (r, σ') → JJ (wR ad cI cZ) Γ σ 216 [(0, .ref (ad 0)), (2, .int (iI v2)), (3, .int (iI v3)), (4, .int (iI v4)), (5, .int (iI v5))] []) (v2 : Int) (v3 : Int) (v4 : Int) (v5 : Int) (σ : St) (hf : fX11_strike_B216 k204 k216 v2 v3 v4 v5 σ = some (r, σ')) : JJ (wR ad cI cZ) Γ σ 216 [(0, .ref (ad 0)), (2, .int (iI v2)), (3, .int (iI v3)), (4, .int (iI v4)), (5, .int (iI v5))] [] := by
  unfold fX11_strike_B216 at hf
  refine j_iload 4 C dX11_strike_216 rfl ?_
  refine j_aload_n 0 C dX11_strike_218 rfl ?_
  refine gR_0_0 C wt_834 dX11_strike_219 ?_
  refine j_icmp_ge 313 C rfl rfl dX11_strike_222 (by decide) (fun h => ?_) (fun h => ?_)
  · have hf := ifp h hf
    refine j_iinc 3 [(4, .int (iI (v4 + 1))), (0, .ref (ad 0)), (2, .int (iI v2)), (3, .int (iI v3)), (5, .int (iI v5))] C dX11_strike_313 (by decide) rfl rfl ?_
    refine j_goto 204 C dX11_strike_316 (by decide) ?_
    exact j_sub [1, 2, 3, 0] rfl (hk204 _ _ _ _ hf)
  · have hf := ifn h hf
    refine j_aload_n 0 C dX11_strike_225 rfl ?_
    refine gR_0_10 C wt_844 dX11_strike_226 ?_
    refine j_aload_n 0 C dX11_strike_229 rfl ?_
    refine gR_0_20 C wt_854 dX11_strike_230 ?_
    refine j_iload 3 C dX11_strike_233 rfl ?_
    obtain ⟨hI, hf⟩ := gI_s hf
    refine lR_15 C hI dX11_strike_235 ?_
    obtain ⟨hI, hf⟩ := gI_s hf
    refine lR_7 C hI dX11_strike_236 ?_
    refine j_iconst C dX11_strike_237 ?_
    refine j_icmp_ne 313 C rfl wl_m1 dX11_strike_238 (by decide) (fun h => ?_) (fun h => ?_)
    · have hf := ifn h hf
      refine j_iinc 3 [(4, .int (iI (v4 + 1))), (0, .ref (ad 0)), (2, .int (iI v2)), (3, .int (iI v3)), (5, .int (iI v5))] C dX11_strike_313 (by decide) rfl rfl ?_
      refine j_goto 204 C dX11_strike_316 (by decide) ?_
      exact j_sub [1, 2, 3, 0] rfl (hk204 _ _ _ _ hf)
    · have hf := ifp h hf
      refine j_aload_n 0 C dX11_strike_241 rfl ?_
      refine gR_0_21 C wt_855 dX11_strike_242 ?_
      refine j_iload 3 C dX11_strike_245 rfl ?_
      obtain ⟨hI, hf⟩ := gI_s hf
      refine lR_16 C hI dX11_strike_247 ?_
      refine j_iload 4 C dX11_strike_248 rfl ?_
      refine j_ishr C dX11_strike_250 ?_
      refine j_iconst C dX11_strike_251 ?_
      refine j_iand C dX11_strike_252 ?_
      refine j_iconst C dX11_strike_253 ?_
      refine j_icmp_ne 307 C rfl wl_1 dX11_strike_254 (by decide) (fun h => ?_) (fun h => ?_)
      · have hf := ifn h hf
        refine j_iinc 4 [(5, .int (iI (v5 + 1))), (0, .ref (ad 0)), (2, .int (iI v2)), (3, .int (iI v3)), (4, .int (iI v4))] C dX11_strike_307 (by decide) rfl rfl ?_
        refine j_goto 216 C dX11_strike_310 (by decide) ?_
        exact j_sub [1, 2, 3, 4, 0] rfl (hk216 _ _ _ _ _ hf)
      · have hf := ifp h hf
        refine j_aload_n 0 C dX11_strike_257 rfl ?_
        refine j_iload 3 C dX11_strike_258 rfl ?_
        refine j_iload 4 C dX11_strike_260 rfl ?_
        obtain ⟨s1, hc, hf⟩ := bv_s hf
        refine j_cVv (q0 := 0) (ci := 11) (T := TX11) (N := 32) [.int (iI v4), .int (iI v5)] [] C (c_X11_take _ _ ad cI cZ _ _ _ _ hc) mf_X11_take wt_1084 wt_1086 ws_44 rfl rfl rfl ⟨rfl, rfl, by decide, by decide⟩ rfl (Nat.le_of_ble_eq_true rfl) dX11_strike_262 ?_
        refine j_iload_n 2 C dX11_strike_265 rfl ?_
        refine j_iconst C dX11_strike_266 ?_
        refine j_iadd C dX11_strike_267 ?_
        refine j_aload_n 0 C dX11_strike_268 rfl ?_
        refine j_iload 3 C dX11_strike_269 rfl ?_
        refine j_iconst C dX11_strike_271 ?_
        refine j_iadd C dX11_strike_272 ?_
        obtain ⟨a2, s2, hc, hf⟩ := bd_s hf
        refine j_cVi (q0 := 0) (ci := 11) (T := TX11) (N := 32) [.int (iI (v4 + 1))] [.int (iI (v3 + 1))] C (c_X11_most _ _ ad cI cZ _ _ _ _ hc) mf_X11_most wt_1076 wt_1078 ws_42 rfl rfl rfl ⟨rfl, rfl, by decide, by decide⟩ rfl (Nat.le_of_ble_eq_true rfl) dX11_strike_273 ?_
        refine j_iadd C dX11_strike_276 ?_
        refine j_iload_n 1 C dX11_strike_277 rfl ?_
        refine j_icmp_ne 301 C rfl rfl dX11_strike_278 (by decide) (fun h => ?_) (fun h => ?_)
        · have hf := ifn h hf
          refine j_aload_n 0 C dX11_strike_301 rfl ?_
          refine j_iload 4 C dX11_strike_302 rfl ?_
          obtain ⟨s3, hc, hf⟩ := bv_s hf
          refine j_cVv (q0 := 0) (ci := 11) (T := TX11) (N := 32) [.int (iI v5)] [] C (c_X11_untake _ _ ad cI cZ _ _ _ hc) mf_X11_untake wt_1088 wt_1090 ws_45 rfl rfl rfl ⟨rfl, rfl, by decide, by decide⟩ rfl (Nat.le_of_ble_eq_true rfl) dX11_strike_304 ?_
          refine j_iinc 4 [(5, .int (iI (v5 + 1))), (0, .ref (ad 0)), (2, .int (iI v2)), (3, .int (iI v3)), (4, .int (iI v4))] C dX11_strike_307 (by decide) rfl rfl ?_
          refine j_goto 216 C dX11_strike_310 (by decide) ?_
          exact j_sub [1, 2, 3, 4, 0] rfl (hk216 _ _ _ _ _ hf)
        · have hf := ifp h hf
          refine j_aload_n 0 C dX11_strike_281 rfl ?_
          refine gR_0_10 C wt_844 dX11_strike_282 ?_
          refine j_aload_n 0 C dX11_strike_285 rfl ?_
          refine gR_0_20 C wt_854 dX11_strike_286 ?_
          refine j_iload 3 C dX11_strike_289 rfl ?_
          obtain ⟨hI, hf⟩ := gI_s hf
          refine lR_15 C hI dX11_strike_291 ?_
          refine j_iload 4 C dX11_strike_292 rfl ?_
          obtain ⟨hI, hf⟩ := gI_s hf
          refine tR_7 C hI dX11_strike_294 ?_
          refine j_iinc 2 [(3, .int (iI (v3 + 1))), (0, .ref (ad 0)), (2, .int (iI v2)), (4, .int (iI v4)), (5, .int (iI v5))] C dX11_strike_295 (by decide) rfl rfl ?_
          refine j_goto 307 C dX11_strike_298 (by decide) ?_
          refine j_iinc 4 [(5, .int (iI (v5 + 1))), (3, .int (iI (v3 + 1))), (0, .ref (ad 0)), (2, .int (iI v2)), (4, .int (iI v4))] C dX11_strike_307 (by decide) rfl rfl ?_
          refine j_goto 216 C dX11_strike_310 (by decide) ?_
          exact j_sub [2, 3, 1, 4, 0] rfl (hk216 _ _ _ _ _ hf)
theorem tX11_strike_L216 {ad : Nat → Nat} {cI cZ : ClassId} {Γ : Cx} {r : Int} {σ' : St} (C : CX cI cZ rm_X11_strike 6 Γ cX11_strike RX11) (hq : RetI .int (wR ad cI cZ) Γ cX11_strike r σ') {k204 : Int → Int → Int → St → Option (Int × St)} (hk204 : ∀ (v2 : Int) (v3 : Int) (v4 : Int) (σ : St), k204 v2 v3 v4 σ = some (r, σ') → JJ (wR ad cI cZ) Γ σ 204 [(0, .ref (ad 0)), (2, .int (iI v2)), (3, .int (iI v3)), (4, .int (iI v4))] []) (n : Nat) : ∀ (v2 v3 v4 v5 : Int), ∀ (σ : St), fX11_strike_L216 k204 n v2 v3 v4 v5 σ = some (r, σ') → JJ (wR ad cI cZ) Γ σ 216 [(0, .ref (ad 0)), (2, .int (iI v2)), (3, .int (iI v3)), (4, .int (iI v4)), (5, .int (iI v5))] [] := by
  induction n with
  | zero => intro _ _ _ _ _ hf; cases hf
  | succ n ih => intro v2 v3 v4 v5 σ hf; exact tX11_strike_B216 C hq hk204 ih v2 v3 v4 v5 σ hf
set_option maxRecDepth 20000 in
theorem tX11_strike_B204 {ad : Nat → Nat} {cI cZ : ClassId} {Γ : Cx} {r : Int} {σ' : St} (C : CX cI cZ rm_X11_strike 6 Γ cX11_strike RX11) (hq : RetI .int (wR ad cI cZ) Γ cX11_strike r σ') {k204 : Int → Int → Int → St → Option (Int × St)} (hk204 : ∀ (v2 : Int) (v3 : Int) (v4 : Int) (σ : St), k204 v2 v3 v4 σ = some (r, σ') → JJ (wR ad cI cZ) Γ σ 204 [(0, .ref (ad 0)), (2, .int (iI v2)), (3, .int (iI v3)), (4, .int (iI v4))] []) (v2 : Int) (v3 : Int) (v4 : Int) (σ : St) (hf : fX11_strike_B204 k204 v2 v3 v4 σ = some (r, σ')) : JJ (wR ad cI cZ) Γ σ 204 [(0, .ref (ad 0)), (2, .int (iI v2)), (3, .int (iI v3)), (4, .int (iI v4))] [] := by
  unfold fX11_strike_B204 at hf
  refine j_iload 3 C dX11_strike_204 rfl ?_
  refine j_aload_n 0 C dX11_strike_206 rfl ?_
  refine gR_0_19 C wt_853 dX11_strike_207 ?_
  refine j_icmp_ge 319 C rfl rfl dX11_strike_210 (by decide) (fun h => ?_) (fun h => ?_)
  · have hf := ifp h hf
    refine j_aload_n 0 C dX11_strike_319 rfl ?_
    refine gR_0_19 C wt_853 dX11_strike_320 ?_
    refine j_iload_n 2 C dX11_strike_323 rfl ?_
    refine j_isub C dX11_strike_324 ?_
    exact retI hq hf dX11_strike_325
  · have hf := ifn h hf
    refine j_iconst C dX11_strike_213 ?_
    refine j_istore [(5, .int (iI 0)), (0, .ref (ad 0)), (2, .int (iI v2)), (3, .int (iI v3)), (4, .int (iI v4))] C dX11_strike_214 (by decide) rfl ?_
    exact j_sub [1, 2, 3, 4, 0] rfl (tX11_strike_L216 C hq hk204 1000 _ _ _ _ _ hf)
theorem tX11_strike_L204 {ad : Nat → Nat} {cI cZ : ClassId} {Γ : Cx} {r : Int} {σ' : St} (C : CX cI cZ rm_X11_strike 6 Γ cX11_strike RX11) (hq : RetI .int (wR ad cI cZ) Γ cX11_strike r σ') (n : Nat) : ∀ (v2 v3 v4 : Int), ∀ (σ : St), fX11_strike_L204 n v2 v3 v4 σ = some (r, σ') → JJ (wR ad cI cZ) Γ σ 204 [(0, .ref (ad 0)), (2, .int (iI v2)), (3, .int (iI v3)), (4, .int (iI v4))] [] := by
  induction n with
  | zero => intro _ _ _ _ hf; cases hf
  | succ n ih => intro v2 v3 v4 σ hf; exact tX11_strike_B204 C hq ih v2 v3 v4 σ hf
set_option maxRecDepth 20000 in
theorem tX11_strike_B134 {ad : Nat → Nat} {cI cZ : ClassId} {Γ : Cx} {r : Int} {σ' : St} (C : CX cI cZ rm_X11_strike 6 Γ cX11_strike RX11) (hq : RetI .int (wR ad cI cZ) Γ cX11_strike r σ') {k117 : Int → St → Option (Int × St)} {k134 : Int → Int → St → Option (Int × St)} (hk117 : ∀ (v2 : Int) (σ : St), k117 v2 σ = some (r, σ') → JJ (wR ad cI cZ) Γ σ 117 [(0, .ref (ad 0)), (2, .int (iI v2))] []) (hk134 : ∀ (v2 : Int) (v3 : Int) (σ : St), k134 v2 v3 σ = some (r, σ') → JJ (wR ad cI cZ) Γ σ 134 [(0, .ref (ad 0)), (2, .int (iI v2)), (3, .int (iI v3))] []) (v2 : Int) (v3 : Int) (σ : St) (hf : fX11_strike_B134 k117 k134 v2 v3 σ = some (r, σ')) : JJ (wR ad cI cZ) Γ σ 134 [(0, .ref (ad 0)), (2, .int (iI v2)), (3, .int (iI v3))] [] := by
  unfold fX11_strike_B134 at hf
  refine j_iload_n 2 C dX11_strike_134 rfl ?_
  refine j_aload_n 0 C dX11_strike_135 rfl ?_
  refine gR_0_0 C wt_834 dX11_strike_136 ?_
  refine j_icmp_ge 187 C rfl rfl dX11_strike_139 (by decide) (fun h => ?_) (fun h => ?_)
  · have hf := ifp h hf
    refine j_iinc 1 [(2, .int (iI (v2 + 1))), (0, .ref (ad 0)), (3, .int (iI v3))] C dX11_strike_187 (by decide) rfl rfl ?_
    refine j_goto 117 C dX11_strike_190 (by decide) ?_
    exact j_sub [1, 0] rfl (hk117 _ _ hf)
  · have hf := ifn h hf
    refine j_aload_n 0 C dX11_strike_142 rfl ?_
    refine gR_0_21 C wt_855 dX11_strike_143 ?_
    refine j_iload_n 1 C dX11_strike_146 rfl ?_
    refine j_dup2 C rfl rfl dX11_strike_147 ?_
    obtain ⟨hI, hf⟩ := gI_s hf
    refine lR_16 C hI dX11_strike_148 ?_
    refine j_aload_n 0 C dX11_strike_149 rfl ?_
    refine j_iload_n 2 C dX11_strike_150 rfl ?_
    obtain ⟨a4, s4, hc, hf⟩ := bd_s hf
    refine j_cVi (q0 := 0) (ci := 11) (T := TX11) (N := 32) [.int (iI v3)] [.int (iI (σ.2 16 (ix v2))), .int (iI v2), .ref (ad 17)] C (c_X11_whoHas _ _ ad cI cZ _ _ _ _ hc) mf_X11_whoHas wt_976 wt_978 ws_34 rfl rfl rfl ⟨rfl, rfl, by decide, by decide⟩ rfl (Nat.le_of_ble_eq_true rfl) dX11_strike_151 ?_
    refine j_iconst C dX11_strike_154 ?_
    refine j_icmp_ne 178 C rfl wl_m1 dX11_strike_155 (by decide) (fun h => ?_) (fun h => ?_)
    · have hf := ifn h hf
      refine j_iconst C dX11_strike_178 ?_
      refine j_ior C dX11_strike_179 ?_
      obtain ⟨hI, hf⟩ := gI_s hf
      refine tR_16 C hI dX11_strike_180 ?_
      refine j_iinc 2 [(3, .int (iI (v3 + 1))), (0, .ref (ad 0)), (2, .int (iI v2))] C dX11_strike_181 (by decide) rfl rfl ?_
      refine j_goto 134 C dX11_strike_184 (by decide) ?_
      exact j_sub [1, 2, 0] rfl (hk134 _ _ _ hf)
    · have hf := ifp h hf
      refine j_aload_n 0 C dX11_strike_158 rfl ?_
      refine j_aload_n 0 C dX11_strike_159 rfl ?_
      refine gR_0_20 C wt_854 dX11_strike_160 ?_
      refine j_iload_n 1 C dX11_strike_163 rfl ?_
      obtain ⟨hI, hf⟩ := gI_s hf
      refine lR_15 C hI dX11_strike_164 ?_
      refine j_iload_n 2 C dX11_strike_165 rfl ?_
      obtain ⟨a5, s5, hc, hf⟩ := bd_s hf
      refine j_cVi (q0 := 0) (ci := 11) (T := TX11) (N := 32) [.int (iI (s4.2 15 (ix v2))), .int (iI v3)] [.int (iI (σ.2 16 (ix v2))), .int (iI v2), .ref (ad 17)] C (c_X11_mayLive _ _ ad cI cZ _ _ _ _ _ hc) mf_X11_mayLive wt_984 wt_986 ws_35 rfl rfl rfl ⟨rfl, rfl, by decide, by decide⟩ rfl (Nat.le_of_ble_eq_true rfl) dX11_strike_166 ?_
      refine j_if_eq 178 C rfl dX11_strike_169 (by decide) (fun h => ?_) (fun h => ?_)
      · have hf := ifp h hf
        refine j_iconst C dX11_strike_178 ?_
        refine j_ior C dX11_strike_179 ?_
        obtain ⟨hI, hf⟩ := gI_s hf
        refine tR_16 C hI dX11_strike_180 ?_
        refine j_iinc 2 [(3, .int (iI (v3 + 1))), (0, .ref (ad 0)), (2, .int (iI v2))] C dX11_strike_181 (by decide) rfl rfl ?_
        refine j_goto 134 C dX11_strike_184 (by decide) ?_
        exact j_sub [1, 2, 0] rfl (hk134 _ _ _ hf)
      · have hf := ifn h hf
        refine j_iconst C dX11_strike_172 ?_
        refine j_iload_n 2 C dX11_strike_173 rfl ?_
        refine j_ishl C dX11_strike_174 ?_
        refine j_goto 179 C dX11_strike_175 (by decide) ?_
        refine j_ior C dX11_strike_179 ?_
        obtain ⟨hI, hf⟩ := gI_s hf
        refine tR_16 C hI dX11_strike_180 ?_
        refine j_iinc 2 [(3, .int (iI (v3 + 1))), (0, .ref (ad 0)), (2, .int (iI v2))] C dX11_strike_181 (by decide) rfl rfl ?_
        refine j_goto 134 C dX11_strike_184 (by decide) ?_
        exact j_sub [1, 2, 0] rfl (hk134 _ _ _ hf)
theorem tX11_strike_L134 {ad : Nat → Nat} {cI cZ : ClassId} {Γ : Cx} {r : Int} {σ' : St} (C : CX cI cZ rm_X11_strike 6 Γ cX11_strike RX11) (hq : RetI .int (wR ad cI cZ) Γ cX11_strike r σ') {k117 : Int → St → Option (Int × St)} (hk117 : ∀ (v2 : Int) (σ : St), k117 v2 σ = some (r, σ') → JJ (wR ad cI cZ) Γ σ 117 [(0, .ref (ad 0)), (2, .int (iI v2))] []) (n : Nat) : ∀ (v2 v3 : Int), ∀ (σ : St), fX11_strike_L134 k117 n v2 v3 σ = some (r, σ') → JJ (wR ad cI cZ) Γ σ 134 [(0, .ref (ad 0)), (2, .int (iI v2)), (3, .int (iI v3))] [] := by
  induction n with
  | zero => intro _ _ _ hf; cases hf
  | succ n ih => intro v2 v3 σ hf; exact tX11_strike_B134 C hq hk117 ih v2 v3 σ hf
set_option maxRecDepth 20000 in
theorem tX11_strike_B117 {ad : Nat → Nat} {cI cZ : ClassId} {Γ : Cx} {r : Int} {σ' : St} (C : CX cI cZ rm_X11_strike 6 Γ cX11_strike RX11) (hq : RetI .int (wR ad cI cZ) Γ cX11_strike r σ') {k117 : Int → St → Option (Int × St)} (hk117 : ∀ (v2 : Int) (σ : St), k117 v2 σ = some (r, σ') → JJ (wR ad cI cZ) Γ σ 117 [(0, .ref (ad 0)), (2, .int (iI v2))] []) (v2 : Int) (σ : St) (hf : fX11_strike_B117 k117 v2 σ = some (r, σ')) : JJ (wR ad cI cZ) Γ σ 117 [(0, .ref (ad 0)), (2, .int (iI v2))] [] := by
  unfold fX11_strike_B117 at hf
  refine j_iload_n 1 C dX11_strike_117 rfl ?_
  refine j_aload_n 0 C dX11_strike_118 rfl ?_
  refine gR_0_19 C wt_853 dX11_strike_119 ?_
  refine j_icmp_ge 193 C rfl rfl dX11_strike_122 (by decide) (fun h => ?_) (fun h => ?_)
  · have hf := ifp h hf
    refine j_aload_n 0 C dX11_strike_193 rfl ?_
    refine j_iconst C dX11_strike_194 ?_
    obtain ⟨a6, s6, hc, hf⟩ := bd_s hf
    refine j_cVi (q0 := 0) (ci := 11) (T := TX11) (N := 32) [.int (iI 0)] [] C (c_X11_most _ _ ad cI cZ _ _ _ _ hc) mf_X11_most wt_1076 wt_1078 ws_42 rfl rfl rfl ⟨rfl, rfl, by decide, by decide⟩ rfl (Nat.le_of_ble_eq_true rfl) dX11_strike_195 ?_
    refine j_istore_n [(2, .int (iI a6)), (0, .ref (ad 0))] C dX11_strike_198 (by decide) rfl ?_
    refine j_iconst C dX11_strike_199 ?_
    refine j_istore_n [(3, .int (iI 0)), (2, .int (iI a6)), (0, .ref (ad 0))] C dX11_strike_200 (by decide) rfl ?_
    refine j_iconst C dX11_strike_201 ?_
    refine j_istore [(4, .int (iI 0)), (3, .int (iI 0)), (2, .int (iI a6)), (0, .ref (ad 0))] C dX11_strike_202 (by decide) rfl ?_
    exact j_sub [3, 2, 1, 0] rfl (tX11_strike_L204 C hq 1000 _ _ _ _ hf)
  · have hf := ifn h hf
    refine j_aload_n 0 C dX11_strike_125 rfl ?_
    refine gR_0_21 C wt_855 dX11_strike_126 ?_
    refine j_iload_n 1 C dX11_strike_129 rfl ?_
    refine j_iconst C dX11_strike_130 ?_
    obtain ⟨hI, hf⟩ := gI_s hf
    refine tR_16 C hI dX11_strike_131 ?_
    refine j_iconst C dX11_strike_132 ?_
    refine j_istore_n [(3, .int (iI 0)), (0, .ref (ad 0)), (2, .int (iI v2))] C dX11_strike_133 (by decide) rfl ?_
    exact j_sub [1, 2, 0] rfl (tX11_strike_L134 C hq hk117 1000 _ _ _ hf)
theorem tX11_strike_L117 {ad : Nat → Nat} {cI cZ : ClassId} {Γ : Cx} {r : Int} {σ' : St} (C : CX cI cZ rm_X11_strike 6 Γ cX11_strike RX11) (hq : RetI .int (wR ad cI cZ) Γ cX11_strike r σ') (n : Nat) : ∀ (v2 : Int), ∀ (σ : St), fX11_strike_L117 n v2 σ = some (r, σ') → JJ (wR ad cI cZ) Γ σ 117 [(0, .ref (ad 0)), (2, .int (iI v2))] [] := by
  induction n with
  | zero => intro _ _ hf; cases hf
  | succ n ih => intro v2 σ hf; exact tX11_strike_B117 C hq ih v2 σ hf
set_option maxRecDepth 20000 in
theorem tX11_strike_B49 {ad : Nat → Nat} {cI cZ : ClassId} {Γ : Cx} {r : Int} {σ' : St} (C : CX cI cZ rm_X11_strike 6 Γ cX11_strike RX11) (hq : RetI .int (wR ad cI cZ) Γ cX11_strike r σ') {k49 : Int → Int → St → Option (Int × St)} (hk49 : ∀ (v1 : Int) (v2 : Int) (σ : St), k49 v1 v2 σ = some (r, σ') → JJ (wR ad cI cZ) Γ σ 49 [(0, .ref (ad 0)), (1, .int (iI v1)), (2, .int (iI v2))] []) (v1 : Int) (v2 : Int) (σ : St) (hf : fX11_strike_B49 k49 v1 v2 σ = some (r, σ')) : JJ (wR ad cI cZ) Γ σ 49 [(0, .ref (ad 0)), (1, .int (iI v1)), (2, .int (iI v2))] [] := by
  unfold fX11_strike_B49 at hf
  refine j_iload_n 2 C dX11_strike_49 rfl ?_
  refine j_aload_n 0 C dX11_strike_50 rfl ?_
  refine gR_0_5 C wt_839 dX11_strike_51 ?_
  refine j_icmp_ge 115 C rfl rfl dX11_strike_54 (by decide) (fun h => ?_) (fun h => ?_)
  · have hf := ifp h hf
    refine j_iconst C dX11_strike_115 ?_
    refine j_istore_n [(2, .int (iI 0)), (0, .ref (ad 0)), (1, .int (iI v1))] C dX11_strike_116 (by decide) rfl ?_
    exact j_sub [1, 0] rfl (tX11_strike_L117 C hq 1000 _ _ hf)
  · have hf := ifn h hf
    refine j_aload_n 0 C dX11_strike_57 rfl ?_
    refine gR_0_10 C wt_844 dX11_strike_58 ?_
    refine j_iload_n 2 C dX11_strike_61 rfl ?_
    obtain ⟨hI, hf⟩ := gI_s hf
    refine lR_7 C hI dX11_strike_62 ?_
    refine j_iconst C dX11_strike_63 ?_
    refine j_icmp_eq 109 C rfl wl_m1 dX11_strike_64 (by decide) (fun h => ?_) (fun h => ?_)
    · have hf := ifp h hf
      refine j_iinc 2 [(2, .int (iI (v2 + 1))), (0, .ref (ad 0)), (1, .int (iI v1))] C dX11_strike_109 (by decide) rfl rfl ?_
      refine j_goto 49 C dX11_strike_112 (by decide) ?_
      exact j_sub [1, 2, 0] rfl (hk49 _ _ _ hf)
    · have hf := ifn h hf
      refine j_aload_n 0 C dX11_strike_67 rfl ?_
      refine gR_0_1 C wt_835 dX11_strike_68 ?_
      refine j_aload_n 0 C dX11_strike_71 rfl ?_
      refine gR_0_10 C wt_844 dX11_strike_72 ?_
      refine j_iload_n 2 C dX11_strike_75 rfl ?_
      obtain ⟨hI, hf⟩ := gI_s hf
      refine lR_7 C hI dX11_strike_76 ?_
      obtain ⟨hI, hf⟩ := gI_s hf
      refine lR_0 C hI dX11_strike_77 ?_
      refine j_iload_n 1 C dX11_strike_78 rfl ?_
      refine j_icmp_ne 109 C rfl rfl dX11_strike_79 (by decide) (fun h => ?_) (fun h => ?_)
      · have hf := ifn h hf
        refine j_iinc 2 [(2, .int (iI (v2 + 1))), (0, .ref (ad 0)), (1, .int (iI v1))] C dX11_strike_109 (by decide) rfl rfl ?_
        refine j_goto 49 C dX11_strike_112 (by decide) ?_
        exact j_sub [1, 2, 0] rfl (hk49 _ _ _ hf)
      · have hf := ifp h hf
        refine j_aload_n 0 C dX11_strike_82 rfl ?_
        refine gR_0_20 C wt_854 dX11_strike_83 ?_
        refine j_aload_n 0 C dX11_strike_86 rfl ?_
        refine gR_0_19 C wt_853 dX11_strike_87 ?_
        refine j_iload_n 2 C dX11_strike_90 rfl ?_
        obtain ⟨hI, hf⟩ := gI_s hf
        refine tR_15 C hI dX11_strike_91 ?_
        refine j_aload_n 0 C dX11_strike_92 rfl ?_
        refine j_dup C rfl dX11_strike_93 ?_
        refine gR_0_19 C wt_853 dX11_strike_94 ?_
        refine j_iconst C dX11_strike_97 ?_
        refine j_iadd C dX11_strike_98 ?_
        refine pR_0_19 C wt_853 dX11_strike_99 ?_
        refine j_aload_n 0 C dX11_strike_102 rfl ?_
        refine gR_0_10 C wt_844 dX11_strike_103 ?_
        refine j_iload_n 2 C dX11_strike_106 rfl ?_
        refine j_iconst C dX11_strike_107 ?_
        obtain ⟨hI, hf⟩ := gI_s hf
        refine tR_7 C hI dX11_strike_108 ?_
        refine j_iinc 2 [(2, .int (iI (v2 + 1))), (0, .ref (ad 0)), (1, .int (iI v1))] C dX11_strike_109 (by decide) rfl rfl ?_
        refine j_goto 49 C dX11_strike_112 (by decide) ?_
        exact j_sub [1, 2, 0] rfl (hk49 _ _ _ hf)
theorem tX11_strike_L49 {ad : Nat → Nat} {cI cZ : ClassId} {Γ : Cx} {r : Int} {σ' : St} (C : CX cI cZ rm_X11_strike 6 Γ cX11_strike RX11) (hq : RetI .int (wR ad cI cZ) Γ cX11_strike r σ') (n : Nat) : ∀ (v1 v2 : Int), ∀ (σ : St), fX11_strike_L49 n v1 v2 σ = some (r, σ') → JJ (wR ad cI cZ) Γ σ 49 [(0, .ref (ad 0)), (1, .int (iI v1)), (2, .int (iI v2))] [] := by
  induction n with
  | zero => intro _ _ _ hf; cases hf
  | succ n ih => intro v1 v2 σ hf; exact tX11_strike_B49 C hq ih v1 v2 σ hf
set_option maxRecDepth 20000 in
theorem tX11_strike_L0 {ad : Nat → Nat} {cI cZ : ClassId} {Γ : Cx} {r : Int} {σ' : St} (C : CX cI cZ rm_X11_strike 6 Γ cX11_strike RX11) (hq : RetI .int (wR ad cI cZ) Γ cX11_strike r σ') (v1 : Int) (σ : St) (hf : fX11_strike_L0 v1 σ = some (r, σ')) : JJ (wR ad cI cZ) Γ σ 0 [(0, .ref (ad 0)), (1, .int (iI v1))] [] := by
  unfold fX11_strike_L0 at hf
  refine j_iload_n 1 C dX11_strike_0 rfl ?_
  refine j_i2l C rfl dX11_strike_1 ?_
  refine j_lconst 0 C dX11_strike_2 (by decide +kernel) ?_
  refine j_ldc2 (n := 7) C wt_935 (by decide +kernel) dX11_strike_3 ?_
  obtain ⟨a7, s7, hc, hf⟩ := bd_s hf
  refine j_cSi [.long (iL (w32 v1)), .long (iL 0), .long (iL 7)] [] C (c_X11_in _ _ ad cI cZ _ _ _ _ _ _ hc) mf_X11_in wt_936 wt_937 rfl ⟨rfl, rfl, by decide, by decide⟩ rfl (Nat.le_of_ble_eq_true rfl) dX11_strike_6 ?_
  refine j_if_ne 15 C rfl dX11_strike_9 (by decide) (fun h => ?_) (fun h => ?_)
  · have hf := ifn h hf
    refine j_aload_n 0 C dX11_strike_15 rfl ?_
    refine gR_0_4 C wt_838 dX11_strike_16 ?_
    refine j_iload_n 1 C dX11_strike_19 rfl ?_
    refine j_ishr C dX11_strike_20 ?_
    refine j_iconst C dX11_strike_21 ?_
    refine j_iand C dX11_strike_22 ?_
    refine j_iconst C dX11_strike_23 ?_
    refine j_icmp_ne 30 C rfl wl_1 dX11_strike_24 (by decide) (fun h => ?_) (fun h => ?_)
    · have hf := ifn h hf
      refine j_aload_n 0 C dX11_strike_30 rfl ?_
      refine j_dup C rfl dX11_strike_31 ?_
      refine gR_0_4 C wt_838 dX11_strike_32 ?_
      refine j_iconst C dX11_strike_35 ?_
      refine j_iload_n 1 C dX11_strike_36 rfl ?_
      refine j_ishl C dX11_strike_37 ?_
      refine j_ior C dX11_strike_38 ?_
      refine pR_0_4 C wt_838 dX11_strike_39 ?_
      refine j_aload_n 0 C dX11_strike_42 rfl ?_
      refine j_iconst C dX11_strike_43 ?_
      refine pR_0_19 C wt_853 dX11_strike_44 ?_
      refine j_iconst C dX11_strike_47 ?_
      refine j_istore_n [(2, .int (iI 0)), (0, .ref (ad 0)), (1, .int (iI v1))] C dX11_strike_48 (by decide) rfl ?_
      exact j_sub [1, 2, 0] rfl (tX11_strike_L49 C hq 1000 _ _ _ hf)
    · have hf := ifp h hf
      refine j_bipush C dX11_strike_27 bp_m3 ?_
      exact retI hq hf dX11_strike_29
  · have hf := ifp h hf
    refine j_bipush C dX11_strike_12 bp_m2 ?_
    exact retI hq hf dX11_strike_14
theorem c_X11_strike (l : Launch) (D : va_G) (ad : Nat → Nat) (cI cZ : ClassId) (σ : St) (v1 : Int) (r : Int) (σ' : St) (hf : fX11_strike σ v1 = some (r, σ')) : McI l yX11_strike cX11_strike 6 .int rm_X11_strike D (tyL cI cZ) (wR ad cI cZ) [.ref (ad 0), .int (iI v1)] σ r σ' := McI.mk mf_X11_strike.2.2.2.2.2 (Nat.le_of_ble_eq_true rfl) (fun Γ C hq => j_sub [0, 1] rfl (tX11_strike_L0 C hq v1 σ hf))
/-! TermLodgingsModel.license(I)I -/
def rm_X11_license : Room := { frames := 1, cells := 0, slots := 0, locals := 25 }
set_option maxRecDepth 20000 in
theorem tX11_license_L0 {ad : Nat → Nat} {cI cZ : ClassId} {Γ : Cx} {r : Int} {σ' : St} (C : CX cI cZ rm_X11_license 2 Γ cX11_license RX11) (hq : RetI .int (wR ad cI cZ) Γ cX11_license r σ') (v1 : Int) (σ : St) (hf : fX11_license_L0 v1 σ = some (r, σ')) : JJ (wR ad cI cZ) Γ σ 0 [(0, .ref (ad 0)), (1, .int (iI v1))] [] := by
  unfold fX11_license_L0 at hf
  refine j_iload_n 1 C dX11_license_0 rfl ?_
  refine j_i2l C rfl dX11_license_1 ?_
  refine j_lconst 0 C dX11_license_2 (by decide +kernel) ?_
  refine j_ldc2 (n := 7) C wt_935 (by decide +kernel) dX11_license_3 ?_
  obtain ⟨a1, s1, hc, hf⟩ := bd_s hf
  refine j_cSi [.long (iL (w32 v1)), .long (iL 0), .long (iL 7)] [] C (c_X11_in _ _ ad cI cZ _ _ _ _ _ _ hc) mf_X11_in wt_936 wt_937 rfl ⟨rfl, rfl, by decide, by decide⟩ rfl (Nat.le_of_ble_eq_true rfl) dX11_license_6 ?_
  refine j_if_ne 15 C rfl dX11_license_9 (by decide) (fun h => ?_) (fun h => ?_)
  · have hf := ifn h hf
    refine j_aload_n 0 C dX11_license_15 rfl ?_
    refine gR_0_4 C wt_838 dX11_license_16 ?_
    refine j_iload_n 1 C dX11_license_19 rfl ?_
    refine j_ishr C dX11_license_20 ?_
    refine j_iconst C dX11_license_21 ?_
    refine j_iand C dX11_license_22 ?_
    refine j_if_ne 29 C rfl dX11_license_23 (by decide) (fun h => ?_) (fun h => ?_)
    · have hf := ifn h hf
      refine j_aload_n 0 C dX11_license_29 rfl ?_
      refine j_dup C rfl dX11_license_30 ?_
      refine gR_0_4 C wt_838 dX11_license_31 ?_
      refine j_iconst C dX11_license_34 ?_
      refine j_iload_n 1 C dX11_license_35 rfl ?_
      refine j_ishl C dX11_license_36 ?_
      refine j_iconst C dX11_license_37 ?_
      refine j_ixor C dX11_license_38 ?_
      refine j_iand C dX11_license_39 ?_
      refine pR_0_4 C wt_838 dX11_license_40 ?_
      refine j_iconst C dX11_license_43 ?_
      exact retI hq hf dX11_license_44
    · have hf := ifp h hf
      refine j_bipush C dX11_license_26 bp_m3 ?_
      exact retI hq hf dX11_license_28
  · have hf := ifp h hf
    refine j_bipush C dX11_license_12 bp_m2 ?_
    exact retI hq hf dX11_license_14
theorem c_X11_license (l : Launch) (D : va_G) (ad : Nat → Nat) (cI cZ : ClassId) (σ : St) (v1 : Int) (r : Int) (σ' : St) (hf : fX11_license σ v1 = some (r, σ')) : McI l yX11_license cX11_license 2 .int rm_X11_license D (tyL cI cZ) (wR ad cI cZ) [.ref (ad 0), .int (iI v1)] σ r σ' := McI.mk mf_X11_license.2.2.2.2.2 (Nat.le_of_ble_eq_true rfl) (fun Γ C hq => j_sub [0, 1] rfl (tX11_license_L0 C hq v1 σ hf))
/-! TermLodgingsModel.away(IZ)I -/
def rm_X11_away : Room := { frames := 2, cells := 0, slots := 0, locals := 46 }
set_option maxRecDepth 20000 in
theorem tX11_away_L0 {ad : Nat → Nat} {cI cZ : ClassId} {Γ : Cx} {r : Int} {σ' : St} (C : CX cI cZ rm_X11_away 3 Γ cX11_away RX11) (hq : RetI .int (wR ad cI cZ) Γ cX11_away r σ') (v1 : Int) (v2 : Int) (σ : St) (hf : fX11_away_L0 v1 v2 σ = some (r, σ')) : JJ (wR ad cI cZ) Γ σ 0 [(0, .ref (ad 0)), (1, .int (iI v1)), (2, .int (iI v2))] [] := by
  unfold fX11_away_L0 at hf
  refine j_aload_n 0 C dX11_away_0 rfl ?_
  refine j_iload_n 1 C dX11_away_1 rfl ?_
  obtain ⟨a1, s1, hc, hf⟩ := bd_s hf
  refine j_cVi (q0 := 0) (ci := 11) (T := TX11) (N := 32) [.int (iI v1)] [] C (c_X11_isOne _ _ ad cI cZ _ _ _ _ hc) mf_X11_isOne wt_951 wt_953 ws_31 rfl rfl rfl ⟨rfl, rfl, by decide, by decide⟩ rfl (Nat.le_of_ble_eq_true rfl) dX11_away_2 ?_
  refine j_if_ne 11 C rfl dX11_away_5 (by decide) (fun h => ?_) (fun h => ?_)
  · have hf := ifn h hf
    refine j_aload_n 0 C dX11_away_11 rfl ?_
    refine gR_0_11 C wt_845 dX11_away_12 ?_
    refine j_iload_n 1 C dX11_away_15 rfl ?_
    refine j_iload_n 2 C dX11_away_16 rfl ?_
    obtain ⟨hI, hf⟩ := gI_s hf
    obtain ⟨hB, hf⟩ := gB_s hf
    refine tR_8 C hI hB dX11_away_17 ?_
    refine j_iconst C dX11_away_18 ?_
    exact retI hq hf dX11_away_19
  · have hf := ifp h hf
    refine j_bipush C dX11_away_8 bp_m2 ?_
    exact retI hq hf dX11_away_10
theorem c_X11_away (l : Launch) (D : va_G) (ad : Nat → Nat) (cI cZ : ClassId) (σ : St) (v1 : Int) (v2 : Int) (r : Int) (σ' : St) (hf : fX11_away σ v1 v2 = some (r, σ')) : McI l yX11_away cX11_away 3 .int rm_X11_away D (tyL cI cZ) (wR ad cI cZ) [.ref (ad 0), .int (iI v1), .int (iI v2)] σ r σ' := McI.mk mf_X11_away.2.2.2.2.2 (Nat.le_of_ble_eq_true rfl) (fun Γ C hq => j_sub [0, 1, 2] rfl (tX11_away_L0 C hq v1 v2 σ hf))
/-! TermLodgingsModel.pass(I)I -/
def rm_X11_pass : Room := { frames := 1, cells := 0, slots := 0, locals := 25 }
set_option maxRecDepth 20000 in
theorem tX11_pass_B38 {ad : Nat → Nat} {cI cZ : ClassId} {Γ : Cx} {r : Int} {σ' : St} (C : CX cI cZ rm_X11_pass 4 Γ cX11_pass RX11) (hq : RetI .int (wR ad cI cZ) Γ cX11_pass r σ') {k31 : Int → Int → St → Option (Int × St)} {k38 : Int → Int → Int → St → Option (Int × St)} (hk31 : ∀ (v1 : Int) (v2 : Int) (σ : St), k31 v1 v2 σ = some (r, σ') → JJ (wR ad cI cZ) Γ σ 31 [(0, .ref (ad 0)), (1, .int (iI v1)), (2, .int (iI v2))] []) (hk38 : ∀ (v1 : Int) (v2 : Int) (v3 : Int) (σ : St), k38 v1 v2 v3 σ = some (r, σ') → JJ (wR ad cI cZ) Γ σ 38 [(0, .ref (ad 0)), (1, .int (iI v1)), (2, .int (iI v2)), (3, .int (iI v3))] []) (v1 : Int) (v2 : Int) (v3 : Int) (σ : St) (hf : fX11_pass_B38 k31 k38 v1 v2 v3 σ = some (r, σ')) : JJ (wR ad cI cZ) Γ σ 38 [(0, .ref (ad 0)), (1, .int (iI v1)), (2, .int (iI v2)), (3, .int (iI v3))] [] := by
  unfold fX11_pass_B38 at hf
  refine j_iload_n 3 C dX11_pass_38 rfl ?_
  refine j_aload_n 0 C dX11_pass_39 rfl ?_
  refine gR_0_5 C wt_839 dX11_pass_40 ?_
  refine j_icmp_ge 105 C rfl rfl dX11_pass_43 (by decide) (fun h => ?_) (fun h => ?_)
  · have hf := ifp h hf
    refine j_aload_n 0 C dX11_pass_105 rfl ?_
    refine j_dup C rfl dX11_pass_106 ?_
    refine gR_0_26 C wt_860 dX11_pass_107 ?_
    refine j_iconst C dX11_pass_110 ?_
    refine j_iadd C dX11_pass_111 ?_
    refine pR_0_26 C wt_860 dX11_pass_112 ?_
    refine j_iinc 2 [(2, .int (iI (v2 + 1))), (0, .ref (ad 0)), (1, .int (iI v1)), (3, .int (iI v3))] C dX11_pass_115 (by decide) rfl rfl ?_
    refine j_goto 31 C dX11_pass_118 (by decide) ?_
    exact j_sub [1, 2, 0] rfl (hk31 _ _ _ hf)
  · have hf := ifn h hf
    refine j_aload_n 0 C dX11_pass_46 rfl ?_
    refine gR_0_27 C wt_861 dX11_pass_47 ?_
    refine j_bipush C dX11_pass_50 bp_60 ?_
    refine j_iload_n 3 C dX11_pass_52 rfl ?_
    refine j_imul C dX11_pass_53 ?_
    refine j_aload_n 0 C dX11_pass_54 rfl ?_
    refine gR_0_26 C wt_860 dX11_pass_55 ?_
    refine j_iadd C dX11_pass_58 ?_
    refine j_aload_n 0 C dX11_pass_59 rfl ?_
    refine gR_0_10 C wt_844 dX11_pass_60 ?_
    refine j_iload_n 3 C dX11_pass_63 rfl ?_
    obtain ⟨hI, hf⟩ := gI_s hf
    refine lR_7 C hI dX11_pass_64 ?_
    obtain ⟨hI, hf⟩ := gI_s hf
    refine tR_21 C hI dX11_pass_65 ?_
    refine j_aload_n 0 C dX11_pass_66 rfl ?_
    refine gR_0_12 C wt_846 dX11_pass_67 ?_
    refine j_iload_n 3 C dX11_pass_70 rfl ?_
    refine j_dup2 C rfl rfl dX11_pass_71 ?_
    obtain ⟨hI, hf⟩ := gI_s hf
    refine lR_9 C hI dX11_pass_72 ?_
    refine j_aload_n 0 C dX11_pass_73 rfl ?_
    refine gR_0_10 C wt_844 dX11_pass_74 ?_
    refine j_iload_n 3 C dX11_pass_77 rfl ?_
    obtain ⟨hI, hf⟩ := gI_s hf
    refine lR_7 C hI dX11_pass_78 ?_
    refine j_iconst C dX11_pass_79 ?_
    refine j_icmp_eq 96 C rfl wl_m1 dX11_pass_80 (by decide) (fun h => ?_) (fun h => ?_)
    · have hf := ifp h hf
      refine j_iconst C dX11_pass_96 ?_
      refine j_iadd C dX11_pass_97 ?_
      obtain ⟨hI, hf⟩ := gI_s hf
      refine tR_9 C hI dX11_pass_98 ?_
      refine j_iinc 3 [(3, .int (iI (v3 + 1))), (0, .ref (ad 0)), (1, .int (iI v1)), (2, .int (iI v2))] C dX11_pass_99 (by decide) rfl rfl ?_
      refine j_goto 38 C dX11_pass_102 (by decide) ?_
      exact j_sub [1, 2, 3, 0] rfl (hk38 _ _ _ _ hf)
    · have hf := ifn h hf
      refine j_aload_n 0 C dX11_pass_83 rfl ?_
      refine gR_0_11 C wt_845 dX11_pass_84 ?_
      refine j_iload_n 3 C dX11_pass_87 rfl ?_
      obtain ⟨hI, hf⟩ := gI_s hf
      refine lR_8 C hI dX11_pass_88 ?_
      refine j_if_ne 96 C rfl dX11_pass_89 (by decide) (fun h => ?_) (fun h => ?_)
      · have hf := ifn h hf
        refine j_iconst C dX11_pass_96 ?_
        refine j_iadd C dX11_pass_97 ?_
        obtain ⟨hI, hf⟩ := gI_s hf
        refine tR_9 C hI dX11_pass_98 ?_
        refine j_iinc 3 [(3, .int (iI (v3 + 1))), (0, .ref (ad 0)), (1, .int (iI v1)), (2, .int (iI v2))] C dX11_pass_99 (by decide) rfl rfl ?_
        refine j_goto 38 C dX11_pass_102 (by decide) ?_
        exact j_sub [1, 2, 3, 0] rfl (hk38 _ _ _ _ hf)
      · have hf := ifp h hf
        refine j_iconst C dX11_pass_92 ?_
        refine j_goto 97 C dX11_pass_93 (by decide) ?_
        refine j_iadd C dX11_pass_97 ?_
        obtain ⟨hI, hf⟩ := gI_s hf
        refine tR_9 C hI dX11_pass_98 ?_
        refine j_iinc 3 [(3, .int (iI (v3 + 1))), (0, .ref (ad 0)), (1, .int (iI v1)), (2, .int (iI v2))] C dX11_pass_99 (by decide) rfl rfl ?_
        refine j_goto 38 C dX11_pass_102 (by decide) ?_
        exact j_sub [1, 2, 3, 0] rfl (hk38 _ _ _ _ hf)
theorem tX11_pass_L38 {ad : Nat → Nat} {cI cZ : ClassId} {Γ : Cx} {r : Int} {σ' : St} (C : CX cI cZ rm_X11_pass 4 Γ cX11_pass RX11) (hq : RetI .int (wR ad cI cZ) Γ cX11_pass r σ') {k31 : Int → Int → St → Option (Int × St)} (hk31 : ∀ (v1 : Int) (v2 : Int) (σ : St), k31 v1 v2 σ = some (r, σ') → JJ (wR ad cI cZ) Γ σ 31 [(0, .ref (ad 0)), (1, .int (iI v1)), (2, .int (iI v2))] []) (n : Nat) : ∀ (v1 v2 v3 : Int), ∀ (σ : St), fX11_pass_L38 k31 n v1 v2 v3 σ = some (r, σ') → JJ (wR ad cI cZ) Γ σ 38 [(0, .ref (ad 0)), (1, .int (iI v1)), (2, .int (iI v2)), (3, .int (iI v3))] [] := by
  induction n with
  | zero => intro _ _ _ _ hf; cases hf
  | succ n ih => intro v1 v2 v3 σ hf; exact tX11_pass_B38 C hq hk31 ih v1 v2 v3 σ hf
set_option maxRecDepth 20000 in
theorem tX11_pass_B31 {ad : Nat → Nat} {cI cZ : ClassId} {Γ : Cx} {r : Int} {σ' : St} (C : CX cI cZ rm_X11_pass 4 Γ cX11_pass RX11) (hq : RetI .int (wR ad cI cZ) Γ cX11_pass r σ') {k31 : Int → Int → St → Option (Int × St)} (hk31 : ∀ (v1 : Int) (v2 : Int) (σ : St), k31 v1 v2 σ = some (r, σ') → JJ (wR ad cI cZ) Γ σ 31 [(0, .ref (ad 0)), (1, .int (iI v1)), (2, .int (iI v2))] []) (v1 : Int) (v2 : Int) (σ : St) (hf : fX11_pass_B31 k31 v1 v2 σ = some (r, σ')) : JJ (wR ad cI cZ) Γ σ 31 [(0, .ref (ad 0)), (1, .int (iI v1)), (2, .int (iI v2))] [] := by
  unfold fX11_pass_B31 at hf
  refine j_iload_n 2 C dX11_pass_31 rfl ?_
  refine j_iload_n 1 C dX11_pass_32 rfl ?_
  refine j_icmp_ge 121 C rfl rfl dX11_pass_33 (by decide) (fun h => ?_) (fun h => ?_)
  · have hf := ifp h hf
    refine j_aload_n 0 C dX11_pass_121 rfl ?_
    refine gR_0_26 C wt_860 dX11_pass_122 ?_
    exact retI hq hf dX11_pass_125
  · have hf := ifn h hf
    refine j_iconst C dX11_pass_36 ?_
    refine j_istore_n [(3, .int (iI 0)), (0, .ref (ad 0)), (1, .int (iI v1)), (2, .int (iI v2))] C dX11_pass_37 (by decide) rfl ?_
    exact j_sub [1, 2, 3, 0] rfl (tX11_pass_L38 C hq hk31 1000 _ _ _ _ hf)
theorem tX11_pass_L31 {ad : Nat → Nat} {cI cZ : ClassId} {Γ : Cx} {r : Int} {σ' : St} (C : CX cI cZ rm_X11_pass 4 Γ cX11_pass RX11) (hq : RetI .int (wR ad cI cZ) Γ cX11_pass r σ') (n : Nat) : ∀ (v1 v2 : Int), ∀ (σ : St), fX11_pass_L31 n v1 v2 σ = some (r, σ') → JJ (wR ad cI cZ) Γ σ 31 [(0, .ref (ad 0)), (1, .int (iI v1)), (2, .int (iI v2))] [] := by
  induction n with
  | zero => intro _ _ _ hf; cases hf
  | succ n ih => intro v1 v2 σ hf; exact tX11_pass_B31 C hq ih v1 v2 σ hf
set_option maxRecDepth 20000 in
theorem tX11_pass_L0 {ad : Nat → Nat} {cI cZ : ClassId} {Γ : Cx} {r : Int} {σ' : St} (C : CX cI cZ rm_X11_pass 4 Γ cX11_pass RX11) (hq : RetI .int (wR ad cI cZ) Γ cX11_pass r σ') (v1 : Int) (σ : St) (hf : fX11_pass_L0 v1 σ = some (r, σ')) : JJ (wR ad cI cZ) Γ σ 0 [(0, .ref (ad 0)), (1, .int (iI v1))] [] := by
  unfold fX11_pass_L0 at hf
  refine j_iload_n 1 C dX11_pass_0 rfl ?_
  refine j_i2l C rfl dX11_pass_1 ?_
  refine j_lconst 1 C dX11_pass_2 (by decide +kernel) ?_
  refine j_ldc2 (n := 60) C wt_1104 (by decide +kernel) dX11_pass_3 ?_
  obtain ⟨a1, s1, hc, hf⟩ := bd_s hf
  refine j_cSi [.long (iL (w32 v1)), .long (iL 1), .long (iL 60)] [] C (c_X11_in _ _ ad cI cZ _ _ _ _ _ _ hc) mf_X11_in wt_936 wt_937 rfl ⟨rfl, rfl, by decide, by decide⟩ rfl (Nat.le_of_ble_eq_true rfl) dX11_pass_6 ?_
  refine j_if_ne 15 C rfl dX11_pass_9 (by decide) (fun h => ?_) (fun h => ?_)
  · have hf := ifn h hf
    refine j_aload_n 0 C dX11_pass_15 rfl ?_
    refine gR_0_26 C wt_860 dX11_pass_16 ?_
    refine j_iload_n 1 C dX11_pass_19 rfl ?_
    refine j_iadd C dX11_pass_20 ?_
    refine j_bipush C dX11_pass_21 bp_60 ?_
    refine j_icmp_le 29 C rfl wl_60 dX11_pass_23 (by decide) (fun h => ?_) (fun h => ?_)
    · have hf := ifp h hf
      refine j_iconst C dX11_pass_29 ?_
      refine j_istore_n [(2, .int (iI 0)), (0, .ref (ad 0)), (1, .int (iI v1))] C dX11_pass_30 (by decide) rfl ?_
      exact j_sub [1, 2, 0] rfl (tX11_pass_L31 C hq 1000 _ _ _ hf)
    · have hf := ifn h hf
      refine j_bipush C dX11_pass_26 bp_m4 ?_
      exact retI hq hf dX11_pass_28
  · have hf := ifp h hf
    refine j_bipush C dX11_pass_12 bp_m2 ?_
    exact retI hq hf dX11_pass_14
theorem c_X11_pass (l : Launch) (D : va_G) (ad : Nat → Nat) (cI cZ : ClassId) (σ : St) (v1 : Int) (r : Int) (σ' : St) (hf : fX11_pass σ v1 = some (r, σ')) : McI l yX11_pass cX11_pass 4 .int rm_X11_pass D (tyL cI cZ) (wR ad cI cZ) [.ref (ad 0), .int (iI v1)] σ r σ' := McI.mk mf_X11_pass.2.2.2.2.2 (Nat.le_of_ble_eq_true rfl) (fun Γ C hq => j_sub [0, 1] rfl (tX11_pass_L0 C hq v1 σ hf))
/-! TermLodgingsModel.price(III)I -/
def rm_X11_price : Room := { frames := 1, cells := 0, slots := 0, locals := 25 }
set_option maxRecDepth 20000 in
theorem tX11_price_L0 {ad : Nat → Nat} {cI cZ : ClassId} {Γ : Cx} {r : Int} {σ' : St} (C : CX cI cZ rm_X11_price 4 Γ cX11_price RX11) (hq : RetI .int (wR ad cI cZ) Γ cX11_price r σ') (v1 : Int) (v2 : Int) (v3 : Int) (σ : St) (hf : fX11_price_L0 v1 v2 v3 σ = some (r, σ')) : JJ (wR ad cI cZ) Γ σ 0 [(0, .ref (ad 0)), (1, .int (iI v1)), (2, .int (iI v2)), (3, .int (iI v3))] [] := by
  unfold fX11_price_L0 at hf
  refine j_iload_n 1 C dX11_price_0 rfl ?_
  refine j_i2l C rfl dX11_price_1 ?_
  refine j_lconst 0 C dX11_price_2 (by decide +kernel) ?_
  refine j_ldc2 (n := 7) C wt_935 (by decide +kernel) dX11_price_3 ?_
  obtain ⟨a1, s1, hc, hf⟩ := bd_s hf
  refine j_cSi [.long (iL (w32 v1)), .long (iL 0), .long (iL 7)] [] C (c_X11_in _ _ ad cI cZ _ _ _ _ _ _ hc) mf_X11_in wt_936 wt_937 rfl ⟨rfl, rfl, by decide, by decide⟩ rfl (Nat.le_of_ble_eq_true rfl) dX11_price_6 ?_
  refine j_if_eq 36 C rfl dX11_price_9 (by decide) (fun h => ?_) (fun h => ?_)
  · have hf := ifp h hf
    refine j_bipush C dX11_price_36 bp_m2 ?_
    exact retI hq hf dX11_price_38
  · have hf := ifn h hf
    refine j_iload_n 2 C dX11_price_12 rfl ?_
    refine j_i2l C rfl dX11_price_13 ?_
    refine j_lconst 0 C dX11_price_14 (by decide +kernel) ?_
    refine j_ldc2 (n := 59) C wt_1109 (by decide +kernel) dX11_price_15 ?_
    obtain ⟨a2, s2, hc, hf⟩ := bd_s hf
    refine j_cSi [.long (iL (w32 v2)), .long (iL 0), .long (iL 59)] [] C (c_X11_in _ _ ad cI cZ _ _ _ _ _ _ hc) mf_X11_in wt_936 wt_937 rfl ⟨rfl, rfl, by decide, by decide⟩ rfl (Nat.le_of_ble_eq_true rfl) dX11_price_18 ?_
    refine j_if_eq 36 C rfl dX11_price_21 (by decide) (fun h => ?_) (fun h => ?_)
    · have hf := ifp h hf
      refine j_bipush C dX11_price_36 bp_m2 ?_
      exact retI hq hf dX11_price_38
    · have hf := ifn h hf
      refine j_iload_n 3 C dX11_price_24 rfl ?_
      refine j_i2l C rfl dX11_price_25 ?_
      refine j_lconst 0 C dX11_price_26 (by decide +kernel) ?_
      refine j_ldc2 (n := 999) C wt_1110 (by decide +kernel) dX11_price_27 ?_
      obtain ⟨a3, s3, hc, hf⟩ := bd_s hf
      refine j_cSi [.long (iL (w32 v3)), .long (iL 0), .long (iL 999)] [] C (c_X11_in _ _ ad cI cZ _ _ _ _ _ _ hc) mf_X11_in wt_936 wt_937 rfl ⟨rfl, rfl, by decide, by decide⟩ rfl (Nat.le_of_ble_eq_true rfl) dX11_price_30 ?_
      refine j_if_ne 39 C rfl dX11_price_33 (by decide) (fun h => ?_) (fun h => ?_)
      · have hf := ifn h hf
        refine j_aload_n 0 C dX11_price_39 rfl ?_
        refine gR_0_28 C wt_862 dX11_price_40 ?_
        refine j_bipush C dX11_price_43 bp_40 ?_
        refine j_icmp_ne 51 C rfl wl_40 dX11_price_45 (by decide) (fun h => ?_) (fun h => ?_)
        · have hf := ifn h hf
          refine j_aload_n 0 C dX11_price_51 rfl ?_
          refine gR_0_29 C wt_863 dX11_price_52 ?_
          refine j_aload_n 0 C dX11_price_55 rfl ?_
          refine gR_0_28 C wt_862 dX11_price_56 ?_
          refine j_iload_n 1 C dX11_price_59 rfl ?_
          obtain ⟨hI, hf⟩ := gI_s hf
          refine tR_22 C hI dX11_price_60 ?_
          refine j_aload_n 0 C dX11_price_61 rfl ?_
          refine gR_0_30 C wt_864 dX11_price_62 ?_
          refine j_aload_n 0 C dX11_price_65 rfl ?_
          refine gR_0_28 C wt_862 dX11_price_66 ?_
          refine j_iload_n 2 C dX11_price_69 rfl ?_
          obtain ⟨hI, hf⟩ := gI_s hf
          refine tR_23 C hI dX11_price_70 ?_
          refine j_aload_n 0 C dX11_price_71 rfl ?_
          refine gR_0_31 C wt_865 dX11_price_72 ?_
          refine j_aload_n 0 C dX11_price_75 rfl ?_
          refine gR_0_28 C wt_862 dX11_price_76 ?_
          refine j_iload_n 3 C dX11_price_79 rfl ?_
          obtain ⟨hI, hf⟩ := gI_s hf
          refine tR_24 C hI dX11_price_80 ?_
          refine j_aload_n 0 C dX11_price_81 rfl ?_
          refine j_dup C rfl dX11_price_82 ?_
          refine gR_0_28 C wt_862 dX11_price_83 ?_
          refine j_iconst C dX11_price_86 ?_
          refine j_iadd C dX11_price_87 ?_
          refine pR_0_28 C wt_862 dX11_price_88 ?_
          refine j_aload_n 0 C dX11_price_91 rfl ?_
          refine gR_0_28 C wt_862 dX11_price_92 ?_
          exact retI hq hf dX11_price_95
        · have hf := ifp h hf
          refine j_bipush C dX11_price_48 bp_m4 ?_
          exact retI hq hf dX11_price_50
      · have hf := ifp h hf
        refine j_bipush C dX11_price_36 bp_m2 ?_
        exact retI hq hf dX11_price_38
theorem c_X11_price (l : Launch) (D : va_G) (ad : Nat → Nat) (cI cZ : ClassId) (σ : St) (v1 : Int) (v2 : Int) (v3 : Int) (r : Int) (σ' : St) (hf : fX11_price σ v1 v2 v3 = some (r, σ')) : McI l yX11_price cX11_price 4 .int rm_X11_price D (tyL cI cZ) (wR ad cI cZ) [.ref (ad 0), .int (iI v1), .int (iI v2), .int (iI v3)] σ r σ' := McI.mk mf_X11_price.2.2.2.2.2 (Nat.le_of_ble_eq_true rfl) (fun Γ C hq => j_sub [0, 1, 2, 3] rfl (tX11_price_L0 C hq v1 v2 v3 σ hf))
/-! TermLodgingsModel.priceOf(III)I -/
def rm_X11_priceOf : Room := { frames := 0, cells := 0, slots := 0, locals := 0 }
set_option maxRecDepth 20000 in
theorem tX11_priceOf_B6 {ad : Nat → Nat} {cI cZ : ClassId} {Γ : Cx} {r : Int} {σ' : St} (C : CX cI cZ rm_X11_priceOf 6 Γ cX11_priceOf RX11) (hq : RetI .int (wR ad cI cZ) Γ cX11_priceOf r σ') {k6 : Int → Int → Int → Int → Int → St → Option (Int × St)} (hk6 : ∀ (v1 : Int) (v2 : Int) (v3 : Int) (v4 : Int) (v5 : Int) (σ : St), k6 v1 v2 v3 v4 v5 σ = some (r, σ') → JJ (wR ad cI cZ) Γ σ 6 [(0, .ref (ad 0)), (1, .int (iI v1)), (2, .int (iI v2)), (3, .int (iI v3)), (4, .int (iI v4)), (5, .int (iI v5))] []) (v1 : Int) (v2 : Int) (v3 : Int) (v4 : Int) (v5 : Int) (σ : St) (hf : fX11_priceOf_B6 k6 v1 v2 v3 v4 v5 σ = some (r, σ')) : JJ (wR ad cI cZ) Γ σ 6 [(0, .ref (ad 0)), (1, .int (iI v1)), (2, .int (iI v2)), (3, .int (iI v3)), (4, .int (iI v4)), (5, .int (iI v5))] [] := by
  unfold fX11_priceOf_B6 at hf
  refine j_iload 5 C dX11_priceOf_6 rfl ?_
  refine j_iload_n 3 C dX11_priceOf_8 rfl ?_
  refine j_icmp_ge 67 C rfl rfl dX11_priceOf_9 (by decide) (fun h => ?_) (fun h => ?_)
  · have hf := ifp h hf
    refine j_iload 4 C dX11_priceOf_67 rfl ?_
    refine j_iconst C dX11_priceOf_69 ?_
    refine j_icmp_ne 77 C rfl wl_m1 dX11_priceOf_70 (by decide) (fun h => ?_) (fun h => ?_)
    · have hf := ifn h hf
      refine j_aload_n 0 C dX11_priceOf_77 rfl ?_
      refine gR_0_31 C wt_865 dX11_priceOf_78 ?_
      refine j_iload 4 C dX11_priceOf_81 rfl ?_
      obtain ⟨hI, hf⟩ := gI_s hf
      refine lR_24 C hI dX11_priceOf_83 ?_
      exact retI hq hf dX11_priceOf_84
    · have hf := ifp h hf
      refine j_iconst C dX11_priceOf_73 ?_
      refine j_goto 84 C dX11_priceOf_74 (by decide) ?_
      exact retI hq hf dX11_priceOf_84
  · have hf := ifn h hf
    refine j_aload_n 0 C dX11_priceOf_12 rfl ?_
    refine gR_0_29 C wt_863 dX11_priceOf_13 ?_
    refine j_iload 5 C dX11_priceOf_16 rfl ?_
    obtain ⟨hI, hf⟩ := gI_s hf
    refine lR_22 C hI dX11_priceOf_18 ?_
    refine j_iload_n 1 C dX11_priceOf_19 rfl ?_
    refine j_icmp_ne 61 C rfl rfl dX11_priceOf_20 (by decide) (fun h => ?_) (fun h => ?_)
    · have hf := ifn h hf
      refine j_iinc 5 [(5, .int (iI (v5 + 1))), (0, .ref (ad 0)), (1, .int (iI v1)), (2, .int (iI v2)), (3, .int (iI v3)), (4, .int (iI v4))] C dX11_priceOf_61 (by decide) rfl rfl ?_
      refine j_goto 6 C dX11_priceOf_64 (by decide) ?_
      exact j_sub [1, 2, 3, 4, 5, 0] rfl (hk6 _ _ _ _ _ _ hf)
    · have hf := ifp h hf
      refine j_aload_n 0 C dX11_priceOf_23 rfl ?_
      refine gR_0_30 C wt_864 dX11_priceOf_24 ?_
      refine j_iload 5 C dX11_priceOf_27 rfl ?_
      obtain ⟨hI, hf⟩ := gI_s hf
      refine lR_23 C hI dX11_priceOf_29 ?_
      refine j_iload_n 2 C dX11_priceOf_30 rfl ?_
      refine j_icmp_gt 61 C rfl rfl dX11_priceOf_31 (by decide) (fun h => ?_) (fun h => ?_)
      · have hf := ifp h hf
        refine j_iinc 5 [(5, .int (iI (v5 + 1))), (0, .ref (ad 0)), (1, .int (iI v1)), (2, .int (iI v2)), (3, .int (iI v3)), (4, .int (iI v4))] C dX11_priceOf_61 (by decide) rfl rfl ?_
        refine j_goto 6 C dX11_priceOf_64 (by decide) ?_
        exact j_sub [1, 2, 3, 4, 5, 0] rfl (hk6 _ _ _ _ _ _ hf)
      · have hf := ifn h hf
        refine j_iload 4 C dX11_priceOf_34 rfl ?_
        refine j_iconst C dX11_priceOf_36 ?_
        refine j_icmp_eq 57 C rfl wl_m1 dX11_priceOf_37 (by decide) (fun h => ?_) (fun h => ?_)
        · have hf := ifp h hf
          refine j_iload 5 C dX11_priceOf_57 rfl ?_
          refine j_istore [(4, .int (iI v5)), (0, .ref (ad 0)), (1, .int (iI v1)), (2, .int (iI v2)), (3, .int (iI v3)), (5, .int (iI v5))] C dX11_priceOf_59 (by decide) rfl ?_
          refine j_iinc 5 [(5, .int (iI (v5 + 1))), (4, .int (iI v5)), (0, .ref (ad 0)), (1, .int (iI v1)), (2, .int (iI v2)), (3, .int (iI v3))] C dX11_priceOf_61 (by decide) rfl rfl ?_
          refine j_goto 6 C dX11_priceOf_64 (by decide) ?_
          exact j_sub [2, 3, 4, 5, 1, 0] rfl (hk6 _ _ _ _ _ _ hf)
        · have hf := ifn h hf
          refine j_aload_n 0 C dX11_priceOf_40 rfl ?_
          refine gR_0_30 C wt_864 dX11_priceOf_41 ?_
          refine j_iload 5 C dX11_priceOf_44 rfl ?_
          obtain ⟨hI, hf⟩ := gI_s hf
          refine lR_23 C hI dX11_priceOf_46 ?_
          refine j_aload_n 0 C dX11_priceOf_47 rfl ?_
          refine gR_0_30 C wt_864 dX11_priceOf_48 ?_
          refine j_iload 4 C dX11_priceOf_51 rfl ?_
          obtain ⟨hI, hf⟩ := gI_s hf
          refine lR_23 C hI dX11_priceOf_53 ?_
          refine j_icmp_lt 61 C rfl rfl dX11_priceOf_54 (by decide) (fun h => ?_) (fun h => ?_)
          · have hf := ifp h hf
            refine j_iinc 5 [(5, .int (iI (v5 + 1))), (0, .ref (ad 0)), (1, .int (iI v1)), (2, .int (iI v2)), (3, .int (iI v3)), (4, .int (iI v4))] C dX11_priceOf_61 (by decide) rfl rfl ?_
            refine j_goto 6 C dX11_priceOf_64 (by decide) ?_
            exact j_sub [1, 2, 3, 4, 5, 0] rfl (hk6 _ _ _ _ _ _ hf)
          · have hf := ifn h hf
            refine j_iload 5 C dX11_priceOf_57 rfl ?_
            refine j_istore [(4, .int (iI v5)), (0, .ref (ad 0)), (1, .int (iI v1)), (2, .int (iI v2)), (3, .int (iI v3)), (5, .int (iI v5))] C dX11_priceOf_59 (by decide) rfl ?_
            refine j_iinc 5 [(5, .int (iI (v5 + 1))), (4, .int (iI v5)), (0, .ref (ad 0)), (1, .int (iI v1)), (2, .int (iI v2)), (3, .int (iI v3))] C dX11_priceOf_61 (by decide) rfl rfl ?_
            refine j_goto 6 C dX11_priceOf_64 (by decide) ?_
            exact j_sub [2, 3, 4, 5, 1, 0] rfl (hk6 _ _ _ _ _ _ hf)
theorem tX11_priceOf_L6 {ad : Nat → Nat} {cI cZ : ClassId} {Γ : Cx} {r : Int} {σ' : St} (C : CX cI cZ rm_X11_priceOf 6 Γ cX11_priceOf RX11) (hq : RetI .int (wR ad cI cZ) Γ cX11_priceOf r σ') (n : Nat) : ∀ (v1 v2 v3 v4 v5 : Int), ∀ (σ : St), fX11_priceOf_L6 n v1 v2 v3 v4 v5 σ = some (r, σ') → JJ (wR ad cI cZ) Γ σ 6 [(0, .ref (ad 0)), (1, .int (iI v1)), (2, .int (iI v2)), (3, .int (iI v3)), (4, .int (iI v4)), (5, .int (iI v5))] [] := by
  induction n with
  | zero => intro _ _ _ _ _ _ hf; cases hf
  | succ n ih => intro v1 v2 v3 v4 v5 σ hf; exact tX11_priceOf_B6 C hq ih v1 v2 v3 v4 v5 σ hf
set_option maxRecDepth 20000 in
theorem tX11_priceOf_L0 {ad : Nat → Nat} {cI cZ : ClassId} {Γ : Cx} {r : Int} {σ' : St} (C : CX cI cZ rm_X11_priceOf 6 Γ cX11_priceOf RX11) (hq : RetI .int (wR ad cI cZ) Γ cX11_priceOf r σ') (v1 : Int) (v2 : Int) (v3 : Int) (σ : St) (hf : fX11_priceOf_L0 v1 v2 v3 σ = some (r, σ')) : JJ (wR ad cI cZ) Γ σ 0 [(0, .ref (ad 0)), (1, .int (iI v1)), (2, .int (iI v2)), (3, .int (iI v3))] [] := by
  unfold fX11_priceOf_L0 at hf
  refine j_iconst C dX11_priceOf_0 ?_
  refine j_istore [(4, .int (iI (-1))), (0, .ref (ad 0)), (1, .int (iI v1)), (2, .int (iI v2)), (3, .int (iI v3))] C dX11_priceOf_1 (by decide) rfl ?_
  refine j_iconst C dX11_priceOf_3 ?_
  refine j_istore [(5, .int (iI 0)), (4, .int (iI (-1))), (0, .ref (ad 0)), (1, .int (iI v1)), (2, .int (iI v2)), (3, .int (iI v3))] C dX11_priceOf_4 (by decide) rfl ?_
  exact j_sub [2, 3, 4, 5, 1, 0] rfl (tX11_priceOf_L6 C hq 1000 _ _ _ _ _ _ hf)
theorem c_X11_priceOf (l : Launch) (D : va_G) (ad : Nat → Nat) (cI cZ : ClassId) (σ : St) (v1 : Int) (v2 : Int) (v3 : Int) (r : Int) (σ' : St) (hf : fX11_priceOf σ v1 v2 v3 = some (r, σ')) : McI l yX11_priceOf cX11_priceOf 6 .int rm_X11_priceOf D (tyL cI cZ) (wR ad cI cZ) [.ref (ad 0), .int (iI v1), .int (iI v2), .int (iI v3)] σ r σ' := McI.mk mf_X11_priceOf.2.2.2.2.2 (Nat.le_of_ble_eq_true rfl) (fun Γ C hq => j_sub [0, 1, 2, 3] rfl (tX11_priceOf_L0 C hq v1 v2 v3 σ hf))
/-! TermLodgingsModel.priced(II)I -/
def rm_X11_priced : Room := { frames := 1, cells := 0, slots := 0, locals := 25 }
set_option maxRecDepth 20000 in
theorem tX11_priced_L0 {ad : Nat → Nat} {cI cZ : ClassId} {Γ : Cx} {r : Int} {σ' : St} (C : CX cI cZ rm_X11_priced 3 Γ cX11_priced RX11) (hq : RetI .int (wR ad cI cZ) Γ cX11_priced r σ') (v1 : Int) (v2 : Int) (σ : St) (hf : fX11_priced_L0 v1 v2 σ = some (r, σ')) : JJ (wR ad cI cZ) Γ σ 0 [(0, .ref (ad 0)), (1, .int (iI v1)), (2, .int (iI v2))] [] := by
  unfold fX11_priced_L0 at hf
  refine j_iload_n 1 C dX11_priced_0 rfl ?_
  refine j_i2l C rfl dX11_priced_1 ?_
  refine j_lconst 0 C dX11_priced_2 (by decide +kernel) ?_
  refine j_ldc2 (n := 7) C wt_935 (by decide +kernel) dX11_priced_3 ?_
  obtain ⟨a1, s1, hc, hf⟩ := bd_s hf
  refine j_cSi [.long (iL (w32 v1)), .long (iL 0), .long (iL 7)] [] C (c_X11_in _ _ ad cI cZ _ _ _ _ _ _ hc) mf_X11_in wt_936 wt_937 rfl ⟨rfl, rfl, by decide, by decide⟩ rfl (Nat.le_of_ble_eq_true rfl) dX11_priced_6 ?_
  refine j_if_eq 37 C rfl dX11_priced_9 (by decide) (fun h => ?_) (fun h => ?_)
  · have hf := ifp h hf
    refine j_bipush C dX11_priced_37 bp_m2 ?_
    exact retI hq hf dX11_priced_39
  · have hf := ifn h hf
    refine j_iload_n 2 C dX11_priced_12 rfl ?_
    refine j_i2l C rfl dX11_priced_13 ?_
    refine j_lconst 0 C dX11_priced_14 (by decide +kernel) ?_
    refine j_ldc2 (n := 59) C wt_1109 (by decide +kernel) dX11_priced_15 ?_
    obtain ⟨a2, s2, hc, hf⟩ := bd_s hf
    refine j_cSi [.long (iL (w32 v2)), .long (iL 0), .long (iL 59)] [] C (c_X11_in _ _ ad cI cZ _ _ _ _ _ _ hc) mf_X11_in wt_936 wt_937 rfl ⟨rfl, rfl, by decide, by decide⟩ rfl (Nat.le_of_ble_eq_true rfl) dX11_priced_18 ?_
    refine j_if_eq 37 C rfl dX11_priced_21 (by decide) (fun h => ?_) (fun h => ?_)
    · have hf := ifp h hf
      refine j_bipush C dX11_priced_37 bp_m2 ?_
      exact retI hq hf dX11_priced_39
    · have hf := ifn h hf
      refine j_aload_n 0 C dX11_priced_24 rfl ?_
      refine j_iload_n 1 C dX11_priced_25 rfl ?_
      refine j_iload_n 2 C dX11_priced_26 rfl ?_
      refine j_aload_n 0 C dX11_priced_27 rfl ?_
      refine gR_0_28 C wt_862 dX11_priced_28 ?_
      obtain ⟨a3, s3, hc, hf⟩ := bd_s hf
      refine j_cVi (q0 := 0) (ci := 11) (T := TX11) (N := 32) [.int (iI v1), .int (iI v2), .int (iI (s2.1 6))] [] C (c_X11_priceOf _ _ ad cI cZ _ _ _ _ _ _ hc) mf_X11_priceOf wt_1115 wt_1117 ws_46 rfl rfl rfl ⟨rfl, rfl, by decide, by decide⟩ rfl (Nat.le_of_ble_eq_true rfl) dX11_priced_31 ?_
      refine j_goto 39 C dX11_priced_34 (by decide) ?_
      exact retI hq hf dX11_priced_39
theorem c_X11_priced (l : Launch) (D : va_G) (ad : Nat → Nat) (cI cZ : ClassId) (σ : St) (v1 : Int) (v2 : Int) (r : Int) (σ' : St) (hf : fX11_priced σ v1 v2 = some (r, σ')) : McI l yX11_priced cX11_priced 3 .int rm_X11_priced D (tyL cI cZ) (wR ad cI cZ) [.ref (ad 0), .int (iI v1), .int (iI v2)] σ r σ' := McI.mk mf_X11_priced.2.2.2.2.2 (Nat.le_of_ble_eq_true rfl) (fun Γ C hq => j_sub [0, 1, 2] rfl (tX11_priced_L0 C hq v1 v2 σ hf))
/-! TermLodgingsModel.had(II)I -/
def rm_X11_had : Room := { frames := 2, cells := 0, slots := 0, locals := 46 }
set_option maxRecDepth 20000 in
theorem tX11_had_L0 {ad : Nat → Nat} {cI cZ : ClassId} {Γ : Cx} {r : Int} {σ' : St} (C : CX cI cZ rm_X11_had 3 Γ cX11_had RX11) (hq : RetI .int (wR ad cI cZ) Γ cX11_had r σ') (v1 : Int) (v2 : Int) (σ : St) (hf : fX11_had_L0 v1 v2 σ = some (r, σ')) : JJ (wR ad cI cZ) Γ σ 0 [(0, .ref (ad 0)), (1, .int (iI v1)), (2, .int (iI v2))] [] := by
  unfold fX11_had_L0 at hf
  refine j_aload_n 0 C dX11_had_0 rfl ?_
  refine j_iload_n 1 C dX11_had_1 rfl ?_
  obtain ⟨a1, s1, hc, hf⟩ := bd_s hf
  refine j_cVi (q0 := 0) (ci := 11) (T := TX11) (N := 32) [.int (iI v1)] [] C (c_X11_isOne _ _ ad cI cZ _ _ _ _ hc) mf_X11_isOne wt_951 wt_953 ws_31 rfl rfl rfl ⟨rfl, rfl, by decide, by decide⟩ rfl (Nat.le_of_ble_eq_true rfl) dX11_had_2 ?_
  refine j_if_eq 38 C rfl dX11_had_5 (by decide) (fun h => ?_) (fun h => ?_)
  · have hf := ifp h hf
    refine j_bipush C dX11_had_38 bp_m2 ?_
    exact retI hq hf dX11_had_40
  · have hf := ifn h hf
    refine j_iload_n 2 C dX11_had_8 rfl ?_
    refine j_i2l C rfl dX11_had_9 ?_
    refine j_lconst 0 C dX11_had_10 (by decide +kernel) ?_
    refine j_aload_n 0 C dX11_had_11 rfl ?_
    refine gR_0_26 C wt_860 dX11_had_12 ?_
    refine j_iconst C dX11_had_15 ?_
    refine j_isub C dX11_had_16 ?_
    refine j_i2l C rfl dX11_had_17 ?_
    obtain ⟨a2, s2, hc, hf⟩ := bd_s hf
    refine j_cSi [.long (iL (w32 v2)), .long (iL 0), .long (iL (w32 ((s1.1 5) - 1)))] [] C (c_X11_in _ _ ad cI cZ _ _ _ _ _ _ hc) mf_X11_in wt_936 wt_937 rfl ⟨rfl, rfl, by decide, by decide⟩ rfl (Nat.le_of_ble_eq_true rfl) dX11_had_18 ?_
    refine j_if_eq 38 C rfl dX11_had_21 (by decide) (fun h => ?_) (fun h => ?_)
    · have hf := ifp h hf
      refine j_bipush C dX11_had_38 bp_m2 ?_
      exact retI hq hf dX11_had_40
    · have hf := ifn h hf
      refine j_aload_n 0 C dX11_had_24 rfl ?_
      refine gR_0_27 C wt_861 dX11_had_25 ?_
      refine j_bipush C dX11_had_28 bp_60 ?_
      refine j_iload_n 1 C dX11_had_30 rfl ?_
      refine j_imul C dX11_had_31 ?_
      refine j_iload_n 2 C dX11_had_32 rfl ?_
      refine j_iadd C dX11_had_33 ?_
      obtain ⟨hI, hf⟩ := gI_s hf
      refine lR_21 C hI dX11_had_34 ?_
      refine j_goto 40 C dX11_had_35 (by decide) ?_
      exact retI hq hf dX11_had_40
theorem c_X11_had (l : Launch) (D : va_G) (ad : Nat → Nat) (cI cZ : ClassId) (σ : St) (v1 : Int) (v2 : Int) (r : Int) (σ' : St) (hf : fX11_had σ v1 v2 = some (r, σ')) : McI l yX11_had cX11_had 3 .int rm_X11_had D (tyL cI cZ) (wR ad cI cZ) [.ref (ad 0), .int (iI v1), .int (iI v2)] σ r σ' := McI.mk mf_X11_had.2.2.2.2.2 (Nat.le_of_ble_eq_true rfl) (fun Γ C hq => j_sub [0, 1, 2] rfl (tX11_had_L0 C hq v1 v2 σ hf))
/-! TermLodgingsModel.billOf(II)I -/
def rm_X11_billOf : Room := { frames := 1, cells := 0, slots := 0, locals := 25 }
set_option maxRecDepth 20000 in
theorem tX11_billOf_B5 {ad : Nat → Nat} {cI cZ : ClassId} {Γ : Cx} {r : Int} {σ' : St} (C : CX cI cZ rm_X11_billOf 6 Γ cX11_billOf RX11) (hq : RetI .int (wR ad cI cZ) Γ cX11_billOf r σ') {k5 : Int → Int → Int → Int → St → Option (Int × St)} (hk5 : ∀ (v1 : Int) (v2 : Int) (v3 : Int) (v4 : Int) (σ : St), k5 v1 v2 v3 v4 σ = some (r, σ') → JJ (wR ad cI cZ) Γ σ 5 [(0, .ref (ad 0)), (1, .int (iI v1)), (2, .int (iI v2)), (3, .int (iI v3)), (4, .int (iI v4))] []) (v1 : Int) (v2 : Int) (v3 : Int) (v4 : Int) (σ : St) (hf : fX11_billOf_B5 k5 v1 v2 v3 v4 σ = some (r, σ')) : JJ (wR ad cI cZ) Γ σ 5 [(0, .ref (ad 0)), (1, .int (iI v1)), (2, .int (iI v2)), (3, .int (iI v3)), (4, .int (iI v4))] [] := by
  unfold fX11_billOf_B5 at hf
  refine j_iload 4 C dX11_billOf_5 rfl ?_
  refine j_aload_n 0 C dX11_billOf_7 rfl ?_
  refine gR_0_26 C wt_860 dX11_billOf_8 ?_
  refine j_icmp_ge 61 C rfl rfl dX11_billOf_11 (by decide) (fun h => ?_) (fun h => ?_)
  · have hf := ifp h hf
    refine j_iload_n 3 C dX11_billOf_61 rfl ?_
    exact retI hq hf dX11_billOf_62
  · have hf := ifn h hf
    refine j_aload_n 0 C dX11_billOf_14 rfl ?_
    refine gR_0_27 C wt_861 dX11_billOf_15 ?_
    refine j_bipush C dX11_billOf_18 bp_60 ?_
    refine j_iload_n 1 C dX11_billOf_20 rfl ?_
    refine j_imul C dX11_billOf_21 ?_
    refine j_iload 4 C dX11_billOf_22 rfl ?_
    refine j_iadd C dX11_billOf_24 ?_
    obtain ⟨hI, hf⟩ := gI_s hf
    refine lR_21 C hI dX11_billOf_25 ?_
    refine j_istore [(5, .int (iI (σ.2 21 (ix ((60 * v1) + v4))))), (0, .ref (ad 0)), (1, .int (iI v1)), (2, .int (iI v2)), (3, .int (iI v3)), (4, .int (iI v4))] C dX11_billOf_26 (by decide) rfl ?_
    refine j_iload_n 4 C dX11_billOf_28 rfl ?_
    refine j_iload 0 C dX11_billOf_29 rfl ?_
    refine j_iconst C dX11_billOf_31 ?_
    refine j_icmp_ne 39 C rfl wl_m1 dX11_billOf_32 (by decide) (fun h => ?_) (fun h => ?_)
    · have hf := ifn h hf
      refine j_aload_n 1 C dX11_billOf_39 rfl ?_
      refine j_aload_n 1 C dX11_billOf_40 rfl ?_
      refine gR_0_1 C wt_835 dX11_billOf_41 ?_
      refine j_iload 0 C dX11_billOf_44 rfl ?_
      obtain ⟨hI, hf⟩ := gI_s hf
      refine lR_0 C hI dX11_billOf_46 ?_
      refine j_iload 5 C dX11_billOf_47 rfl ?_
      refine j_iload_n 3 C dX11_billOf_49 rfl ?_
      obtain ⟨a1, s1, hc, hf⟩ := bd_s hf
      refine j_cVi (q0 := 0) (ci := 11) (T := TX11) (N := 32) [.int (iI (σ.2 0 (ix (σ.2 21 (ix ((60 * v1) + v4)))))), .int (iI v4), .int (iI v2)] [.int (iI v3)] C (c_X11_priceOf _ _ ad cI cZ _ _ _ _ _ _ hc) mf_X11_priceOf wt_1115 wt_1117 ws_46 rfl rfl rfl ⟨rfl, rfl, by decide, by decide⟩ rfl (Nat.le_of_ble_eq_true rfl) dX11_billOf_50 ?_
      refine j_iadd C dX11_billOf_53 ?_
      refine j_istore_n [(3, .int (iI (v3 + a1))), (5, .int (iI (σ.2 21 (ix ((60 * v1) + v4))))), (0, .ref (ad 0)), (1, .int (iI v1)), (2, .int (iI v2)), (4, .int (iI v4))] C dX11_billOf_54 (by decide) rfl ?_
      refine j_iinc 5 [(4, .int (iI (v4 + 1))), (3, .int (iI (v3 + a1))), (5, .int (iI (σ.2 21 (ix ((60 * v1) + v4))))), (0, .ref (ad 0)), (1, .int (iI v1)), (2, .int (iI v2))] C dX11_billOf_55 (by decide) rfl rfl ?_
      refine j_goto 5 C dX11_billOf_58 (by decide) ?_
      exact j_sub [3, 4, 5, 1, 0] rfl (hk5 _ _ _ _ _ hf)
    · have hf := ifp h hf
      refine j_iconst C dX11_billOf_35 ?_
      refine j_goto 53 C dX11_billOf_36 (by decide) ?_
      refine j_iadd C dX11_billOf_53 ?_
      refine j_istore_n [(3, .int (iI (v3 + 0))), (5, .int (iI (σ.2 21 (ix ((60 * v1) + v4))))), (0, .ref (ad 0)), (1, .int (iI v1)), (2, .int (iI v2)), (4, .int (iI v4))] C dX11_billOf_54 (by decide) rfl ?_
      refine j_iinc 5 [(4, .int (iI (v4 + 1))), (3, .int (iI (v3 + 0))), (5, .int (iI (σ.2 21 (ix ((60 * v1) + v4))))), (0, .ref (ad 0)), (1, .int (iI v1)), (2, .int (iI v2))] C dX11_billOf_55 (by decide) rfl rfl ?_
      refine j_goto 5 C dX11_billOf_58 (by decide) ?_
      exact j_sub [3, 4, 5, 1, 0] rfl (hk5 _ _ _ _ _ hf)
theorem tX11_billOf_L5 {ad : Nat → Nat} {cI cZ : ClassId} {Γ : Cx} {r : Int} {σ' : St} (C : CX cI cZ rm_X11_billOf 6 Γ cX11_billOf RX11) (hq : RetI .int (wR ad cI cZ) Γ cX11_billOf r σ') (n : Nat) : ∀ (v1 v2 v3 v4 : Int), ∀ (σ : St), fX11_billOf_L5 n v1 v2 v3 v4 σ = some (r, σ') → JJ (wR ad cI cZ) Γ σ 5 [(0, .ref (ad 0)), (1, .int (iI v1)), (2, .int (iI v2)), (3, .int (iI v3)), (4, .int (iI v4))] [] := by
  induction n with
  | zero => intro _ _ _ _ _ hf; cases hf
  | succ n ih => intro v1 v2 v3 v4 σ hf; exact tX11_billOf_B5 C hq ih v1 v2 v3 v4 σ hf
set_option maxRecDepth 20000 in
theorem tX11_billOf_L0 {ad : Nat → Nat} {cI cZ : ClassId} {Γ : Cx} {r : Int} {σ' : St} (C : CX cI cZ rm_X11_billOf 6 Γ cX11_billOf RX11) (hq : RetI .int (wR ad cI cZ) Γ cX11_billOf r σ') (v1 : Int) (v2 : Int) (σ : St) (hf : fX11_billOf_L0 v1 v2 σ = some (r, σ')) : JJ (wR ad cI cZ) Γ σ 0 [(0, .ref (ad 0)), (1, .int (iI v1)), (2, .int (iI v2))] [] := by
  unfold fX11_billOf_L0 at hf
  refine j_iconst C dX11_billOf_0 ?_
  refine j_istore_n [(3, .int (iI 0)), (0, .ref (ad 0)), (1, .int (iI v1)), (2, .int (iI v2))] C dX11_billOf_1 (by decide) rfl ?_
  refine j_iconst C dX11_billOf_2 ?_
  refine j_istore [(4, .int (iI 0)), (3, .int (iI 0)), (0, .ref (ad 0)), (1, .int (iI v1)), (2, .int (iI v2))] C dX11_billOf_3 (by decide) rfl ?_
  exact j_sub [2, 3, 4, 1, 0] rfl (tX11_billOf_L5 C hq 1000 _ _ _ _ _ hf)
theorem c_X11_billOf (l : Launch) (D : va_G) (ad : Nat → Nat) (cI cZ : ClassId) (σ : St) (v1 : Int) (v2 : Int) (r : Int) (σ' : St) (hf : fX11_billOf σ v1 v2 = some (r, σ')) : McI l yX11_billOf cX11_billOf 6 .int rm_X11_billOf D (tyL cI cZ) (wR ad cI cZ) [.ref (ad 0), .int (iI v1), .int (iI v2)] σ r σ' := McI.mk mf_X11_billOf.2.2.2.2.2 (Nat.le_of_ble_eq_true rfl) (fun Γ C hq => j_sub [0, 1, 2] rfl (tX11_billOf_L0 C hq v1 v2 σ hf))
/-! TermLodgingsModel.bill(I)I -/
def rm_X11_bill : Room := { frames := 2, cells := 0, slots := 0, locals := 50 }
set_option maxRecDepth 20000 in
theorem tX11_bill_L0 {ad : Nat → Nat} {cI cZ : ClassId} {Γ : Cx} {r : Int} {σ' : St} (C : CX cI cZ rm_X11_bill 2 Γ cX11_bill RX11) (hq : RetI .int (wR ad cI cZ) Γ cX11_bill r σ') (v1 : Int) (σ : St) (hf : fX11_bill_L0 v1 σ = some (r, σ')) : JJ (wR ad cI cZ) Γ σ 0 [(0, .ref (ad 0)), (1, .int (iI v1))] [] := by
  unfold fX11_bill_L0 at hf
  refine j_aload_n 0 C dX11_bill_0 rfl ?_
  refine j_iload_n 1 C dX11_bill_1 rfl ?_
  obtain ⟨a1, s1, hc, hf⟩ := bd_s hf
  refine j_cVi (q0 := 0) (ci := 11) (T := TX11) (N := 32) [.int (iI v1)] [] C (c_X11_isOne _ _ ad cI cZ _ _ _ _ hc) mf_X11_isOne wt_951 wt_953 ws_31 rfl rfl rfl ⟨rfl, rfl, by decide, by decide⟩ rfl (Nat.le_of_ble_eq_true rfl) dX11_bill_2 ?_
  refine j_if_eq 20 C rfl dX11_bill_5 (by decide) (fun h => ?_) (fun h => ?_)
  · have hf := ifp h hf
    refine j_bipush C dX11_bill_20 bp_m2 ?_
    exact retI hq hf dX11_bill_22
  · have hf := ifn h hf
    refine j_aload_n 0 C dX11_bill_8 rfl ?_
    refine j_iload_n 1 C dX11_bill_9 rfl ?_
    refine j_aload_n 0 C dX11_bill_10 rfl ?_
    refine gR_0_28 C wt_862 dX11_bill_11 ?_
    obtain ⟨a2, s2, hc, hf⟩ := bd_s hf
    refine j_cVi (q0 := 0) (ci := 11) (T := TX11) (N := 32) [.int (iI v1), .int (iI (s1.1 6))] [] C (c_X11_billOf _ _ ad cI cZ _ _ _ _ _ hc) mf_X11_billOf wt_1127 wt_1129 ws_47 rfl rfl rfl ⟨rfl, rfl, by decide, by decide⟩ rfl (Nat.le_of_ble_eq_true rfl) dX11_bill_14 ?_
    refine j_goto 22 C dX11_bill_17 (by decide) ?_
    exact retI hq hf dX11_bill_22
theorem c_X11_bill (l : Launch) (D : va_G) (ad : Nat → Nat) (cI cZ : ClassId) (σ : St) (v1 : Int) (r : Int) (σ' : St) (hf : fX11_bill σ v1 = some (r, σ')) : McI l yX11_bill cX11_bill 2 .int rm_X11_bill D (tyL cI cZ) (wR ad cI cZ) [.ref (ad 0), .int (iI v1)] σ r σ' := McI.mk mf_X11_bill.2.2.2.2.2 (Nat.le_of_ble_eq_true rfl) (fun Γ C hq => j_sub [0, 1] rfl (tX11_bill_L0 C hq v1 σ hf))
/-! TermLodgingsModel.matter()I -/
def rm_X11_matter : Room := { frames := 2, cells := 0, slots := 0, locals := 50 }
set_option maxRecDepth 20000 in
theorem tX11_matter_B14 {ad : Nat → Nat} {cI cZ : ClassId} {Γ : Cx} {r : Int} {σ' : St} (C : CX cI cZ rm_X11_matter 3 Γ cX11_matter RX11) (hq : RetI .int (wR ad cI cZ) Γ cX11_matter r σ') {k14 : Int → Int → St → Option (Int × St)} (hk14 : ∀ (v1 : Int) (v2 : Int) (σ : St), k14 v1 v2 σ = some (r, σ') → JJ (wR ad cI cZ) Γ σ 14 [(0, .ref (ad 0)), (1, .int (iI v1)), (2, .int (iI v2))] []) (v1 : Int) (v2 : Int) (σ : St) (hf : fX11_matter_B14 k14 v1 v2 σ = some (r, σ')) : JJ (wR ad cI cZ) Γ σ 14 [(0, .ref (ad 0)), (1, .int (iI v1)), (2, .int (iI v2))] [] := by
  unfold fX11_matter_B14 at hf
  refine j_iload_n 2 C dX11_matter_14 rfl ?_
  refine j_aload_n 0 C dX11_matter_15 rfl ?_
  refine gR_0_5 C wt_839 dX11_matter_16 ?_
  refine j_icmp_ge 52 C rfl rfl dX11_matter_19 (by decide) (fun h => ?_) (fun h => ?_)
  · have hf := ifp h hf
    refine j_iload_n 1 C dX11_matter_52 rfl ?_
    exact retI hq hf dX11_matter_53
  · have hf := ifn h hf
    refine j_iload_n 1 C dX11_matter_22 rfl ?_
    refine j_aload_n 0 C dX11_matter_23 rfl ?_
    refine j_iload_n 2 C dX11_matter_24 rfl ?_
    refine j_aload_n 0 C dX11_matter_25 rfl ?_
    refine gR_0_28 C wt_862 dX11_matter_26 ?_
    refine j_iconst C dX11_matter_29 ?_
    refine j_isub C dX11_matter_30 ?_
    obtain ⟨a1, s1, hc, hf⟩ := bd_s hf
    refine j_cVi (q0 := 0) (ci := 11) (T := TX11) (N := 32) [.int (iI v2), .int (iI ((σ.1 6) - 1))] [.int (iI v1)] C (c_X11_billOf _ _ ad cI cZ _ _ _ _ _ hc) mf_X11_billOf wt_1127 wt_1129 ws_47 rfl rfl rfl ⟨rfl, rfl, by decide, by decide⟩ rfl (Nat.le_of_ble_eq_true rfl) dX11_matter_31 ?_
    refine j_aload_n 0 C dX11_matter_34 rfl ?_
    refine j_iload_n 2 C dX11_matter_35 rfl ?_
    refine j_aload_n 0 C dX11_matter_36 rfl ?_
    refine gR_0_28 C wt_862 dX11_matter_37 ?_
    obtain ⟨a2, s2, hc, hf⟩ := bd_s hf
    refine j_cVi (q0 := 0) (ci := 11) (T := TX11) (N := 32) [.int (iI v2), .int (iI (s1.1 6))] [.int (iI a1), .int (iI v1)] C (c_X11_billOf _ _ ad cI cZ _ _ _ _ _ hc) mf_X11_billOf wt_1127 wt_1129 ws_47 rfl rfl rfl ⟨rfl, rfl, by decide, by decide⟩ rfl (Nat.le_of_ble_eq_true rfl) dX11_matter_40 ?_
    refine j_isub C dX11_matter_43 ?_
    refine j_iadd C dX11_matter_44 ?_
    refine j_istore_n [(1, .int (iI (v1 + (a1 - a2)))), (0, .ref (ad 0)), (2, .int (iI v2))] C dX11_matter_45 (by decide) rfl ?_
    refine j_iinc 2 [(2, .int (iI (v2 + 1))), (1, .int (iI (v1 + (a1 - a2)))), (0, .ref (ad 0))] C dX11_matter_46 (by decide) rfl rfl ?_
    refine j_goto 14 C dX11_matter_49 (by decide) ?_
    exact j_sub [2, 1, 0] rfl (hk14 _ _ _ hf)
theorem tX11_matter_L14 {ad : Nat → Nat} {cI cZ : ClassId} {Γ : Cx} {r : Int} {σ' : St} (C : CX cI cZ rm_X11_matter 3 Γ cX11_matter RX11) (hq : RetI .int (wR ad cI cZ) Γ cX11_matter r σ') (n : Nat) : ∀ (v1 v2 : Int), ∀ (σ : St), fX11_matter_L14 n v1 v2 σ = some (r, σ') → JJ (wR ad cI cZ) Γ σ 14 [(0, .ref (ad 0)), (1, .int (iI v1)), (2, .int (iI v2))] [] := by
  induction n with
  | zero => intro _ _ _ hf; cases hf
  | succ n ih => intro v1 v2 σ hf; exact tX11_matter_B14 C hq ih v1 v2 σ hf
set_option maxRecDepth 20000 in
theorem tX11_matter_L0 {ad : Nat → Nat} {cI cZ : ClassId} {Γ : Cx} {r : Int} {σ' : St} (C : CX cI cZ rm_X11_matter 3 Γ cX11_matter RX11) (hq : RetI .int (wR ad cI cZ) Γ cX11_matter r σ') (σ : St) (hf : fX11_matter_L0 σ = some (r, σ')) : JJ (wR ad cI cZ) Γ σ 0 [(0, .ref (ad 0))] [] := by
  unfold fX11_matter_L0 at hf
  refine j_aload_n 0 C dX11_matter_0 rfl ?_
  refine gR_0_28 C wt_862 dX11_matter_1 ?_
  refine j_if_ne 10 C rfl dX11_matter_4 (by decide) (fun h => ?_) (fun h => ?_)
  · have hf := ifn h hf
    refine j_iconst C dX11_matter_10 ?_
    refine j_istore_n [(1, .int (iI 0)), (0, .ref (ad 0))] C dX11_matter_11 (by decide) rfl ?_
    refine j_iconst C dX11_matter_12 ?_
    refine j_istore_n [(2, .int (iI 0)), (1, .int (iI 0)), (0, .ref (ad 0))] C dX11_matter_13 (by decide) rfl ?_
    exact j_sub [2, 1, 0] rfl (tX11_matter_L14 C hq 1000 _ _ _ hf)
  · have hf := ifp h hf
    refine j_ldc (n := (-2147483648)) C wt_1135 (by decide +kernel) dX11_matter_7 ?_
    exact retI hq hf dX11_matter_9
theorem c_X11_matter (l : Launch) (D : va_G) (ad : Nat → Nat) (cI cZ : ClassId) (σ : St) (r : Int) (σ' : St) (hf : fX11_matter σ = some (r, σ')) : McI l yX11_matter cX11_matter 3 .int rm_X11_matter D (tyL cI cZ) (wR ad cI cZ) [.ref (ad 0)] σ r σ' := McI.mk mf_X11_matter.2.2.2.2.2 (Nat.le_of_ble_eq_true rfl) (fun Γ C hq => j_sub [0] rfl (tX11_matter_L0 C hq  σ hf))
/-! TermLodgingsModel.count(I)I -/
def rm_X11_count : Room := { frames := 1, cells := 0, slots := 0, locals := 22 }
set_option maxRecDepth 20000 in
theorem tX11_count_B61 {ad : Nat → Nat} {cI cZ : ClassId} {Γ : Cx} {r : Int} {σ' : St} (C : CX cI cZ rm_X11_count 4 Γ cX11_count RX11) (hq : RetI .int (wR ad cI cZ) Γ cX11_count r σ') {k61 : Int → Int → St → Option (Int × St)} (hk61 : ∀ (v2 : Int) (v3 : Int) (σ : St), k61 v2 v3 σ = some (r, σ') → JJ (wR ad cI cZ) Γ σ 61 [(0, .ref (ad 0)), (2, .int (iI v2)), (3, .int (iI v3))] []) (v2 : Int) (v3 : Int) (σ : St) (hf : fX11_count_B61 k61 v2 v3 σ = some (r, σ')) : JJ (wR ad cI cZ) Γ σ 61 [(0, .ref (ad 0)), (2, .int (iI v2)), (3, .int (iI v3))] [] := by
  unfold fX11_count_B61 at hf
  refine j_iload_n 2 C dX11_count_61 rfl ?_
  refine j_bipush C dX11_count_62 bp_8 ?_
  refine j_icmp_ge 84 C rfl wl_8 dX11_count_64 (by decide) (fun h => ?_) (fun h => ?_)
  · have hf := ifp h hf
    refine j_iload_n 1 C dX11_count_84 rfl ?_
    exact retI hq hf dX11_count_85
  · have hf := ifn h hf
    refine j_iload_n 1 C dX11_count_67 rfl ?_
    refine j_aload_n 0 C dX11_count_68 rfl ?_
    refine gR_0_4 C wt_838 dX11_count_69 ?_
    refine j_iload_n 2 C dX11_count_72 rfl ?_
    refine j_ishr C dX11_count_73 ?_
    refine j_iconst C dX11_count_74 ?_
    refine j_iand C dX11_count_75 ?_
    refine j_iadd C dX11_count_76 ?_
    refine j_istore_n [(2, .int (iI (v2 + (bAnd (bShr (σ.1 1) v3) 1)))), (0, .ref (ad 0)), (3, .int (iI v3))] C dX11_count_77 (by decide) rfl ?_
    refine j_iinc 2 [(3, .int (iI (v3 + 1))), (2, .int (iI (v2 + (bAnd (bShr (σ.1 1) v3) 1)))), (0, .ref (ad 0))] C dX11_count_78 (by decide) rfl rfl ?_
    refine j_goto 61 C dX11_count_81 (by decide) ?_
    exact j_sub [2, 1, 0] rfl (hk61 _ _ _ hf)
theorem tX11_count_L61 {ad : Nat → Nat} {cI cZ : ClassId} {Γ : Cx} {r : Int} {σ' : St} (C : CX cI cZ rm_X11_count 4 Γ cX11_count RX11) (hq : RetI .int (wR ad cI cZ) Γ cX11_count r σ') (n : Nat) : ∀ (v2 v3 : Int), ∀ (σ : St), fX11_count_L61 n v2 v3 σ = some (r, σ') → JJ (wR ad cI cZ) Γ σ 61 [(0, .ref (ad 0)), (2, .int (iI v2)), (3, .int (iI v3))] [] := by
  induction n with
  | zero => intro _ _ _ hf; cases hf
  | succ n ih => intro v2 v3 σ hf; exact tX11_count_B61 C hq ih v2 v3 σ hf
set_option maxRecDepth 20000 in
theorem tX11_count_L0 {ad : Nat → Nat} {cI cZ : ClassId} {Γ : Cx} {r : Int} {σ' : St} (C : CX cI cZ rm_X11_count 4 Γ cX11_count RX11) (hq : RetI .int (wR ad cI cZ) Γ cX11_count r σ') (v1 : Int) (σ : St) (hf : fX11_count_L0 v1 σ = some (r, σ')) : JJ (wR ad cI cZ) Γ σ 0 [(0, .ref (ad 0)), (1, .int (iI v1))] [] := by
  unfold fX11_count_L0 at hf
  refine j_iconst C dX11_count_0 ?_
  refine j_istore_n [(2, .int (iI 0)), (0, .ref (ad 0)), (1, .int (iI v1))] C dX11_count_1 (by decide) rfl ?_
  refine j_iload_n 2 C dX11_count_2 rfl ?_
  by_cases h0 : w32 v1 = 0
  · have hf := ifp h0 hf
    refine j_tabI 44 C (by omega) (by omega) (by rw [h0]; rfl) (by decide) dX11_count_3 ?_
    refine j_aload_n 1 C dX11_count_44 rfl ?_
    refine gR_0_0 C wt_834 dX11_count_45 ?_
    exact retI hq hf dX11_count_48
  have hf := ifn h0 hf
  by_cases h1 : w32 v1 = 1
  · have hf := ifp h1 hf
    refine j_tabI 49 C (by omega) (by omega) (by rw [h1]; rfl) (by decide) dX11_count_3 ?_
    refine j_aload_n 1 C dX11_count_49 rfl ?_
    refine gR_0_5 C wt_839 dX11_count_50 ?_
    exact retI hq hf dX11_count_53
  have hf := ifn h1 hf
  by_cases h2 : w32 v1 = 2
  · have hf := ifp h2 hf
    refine j_tabI 54 C (by omega) (by omega) (by rw [h2]; rfl) (by decide) dX11_count_3 ?_
    refine j_aload_n 1 C dX11_count_54 rfl ?_
    refine gR_0_15 C wt_849 dX11_count_55 ?_
    exact retI hq hf dX11_count_58
  have hf := ifn h2 hf
  by_cases h3 : w32 v1 = 3
  · have hf := ifp h3 hf
    refine j_tabI 59 C (by omega) (by omega) (by rw [h3]; rfl) (by decide) dX11_count_3 ?_
    refine j_iconst C dX11_count_59 ?_
    refine j_istore_n [(3, .int (iI 0)), (2, .int (iI 0)), (0, .ref (ad 0)), (1, .int (iI v1))] C dX11_count_60 (by decide) rfl ?_
    exact j_sub [2, 1, 0] rfl (tX11_count_L61 C hq 1000 _ _ _ hf)
  have hf := ifn h3 hf
  by_cases h4 : w32 v1 = 4
  · have hf := ifp h4 hf
    refine j_tabI 86 C (by omega) (by omega) (by rw [h4]; rfl) (by decide) dX11_count_3 ?_
    refine j_aload_n 1 C dX11_count_86 rfl ?_
    refine gR_0_26 C wt_860 dX11_count_87 ?_
    exact retI hq hf dX11_count_90
  have hf := ifn h4 hf
  by_cases h5 : w32 v1 = 5
  · have hf := ifp h5 hf
    refine j_tabI 91 C (by omega) (by omega) (by rw [h5]; rfl) (by decide) dX11_count_3 ?_
    refine j_aload_n 1 C dX11_count_91 rfl ?_
    refine gR_0_28 C wt_862 dX11_count_92 ?_
    exact retI hq hf dX11_count_95
  have hf := ifn h5 hf
  by_cases h6 : w32 v1 = 6
  · have hf := ifp h6 hf
    refine j_tabI 96 C (by omega) (by omega) (by rw [h6]; rfl) (by decide) dX11_count_3 ?_
    refine j_aload_n 1 C dX11_count_96 rfl ?_
    obtain ⟨a1, s1, hc, hf⟩ := bd_s hf
    refine j_cVi (q0 := 0) (ci := 11) (T := TX11) (N := 32) [] [] C (c_X11_housed _ _ ad cI cZ _ _ _ hc) mf_X11_housed wt_1055 wt_1057 ws_40 rfl rfl rfl ⟨rfl, rfl, by decide, by decide⟩ rfl (Nat.le_of_ble_eq_true rfl) dX11_count_97 ?_
    exact retI hq hf dX11_count_100
  have hf := ifn h6 hf
  refine j_tabO 101 C (by omega) (by decide) dX11_count_3 ?_
  refine j_bipush C dX11_count_101 bp_m2 ?_
  exact retI hq hf dX11_count_103
theorem c_X11_count (l : Launch) (D : va_G) (ad : Nat → Nat) (cI cZ : ClassId) (σ : St) (v1 : Int) (r : Int) (σ' : St) (hf : fX11_count σ v1 = some (r, σ')) : McI l yX11_count cX11_count 4 .int rm_X11_count D (tyL cI cZ) (wR ad cI cZ) [.ref (ad 0), .int (iI v1)] σ r σ' := McI.mk mf_X11_count.2.2.2.2.2 (Nat.le_of_ble_eq_true rfl) (fun Γ C hq => j_sub [0, 1] rfl (tX11_count_L0 C hq v1 σ hf))
/-! TermLodgingsModel.digest()J -/
def rm_X11_digest : Room := { frames := 3, cells := 0, slots := 0, locals := 71 }
set_option maxRecDepth 20000 in
theorem tX11_digest_B123 {ad : Nat → Nat} {cI cZ : ClassId} {Γ : Cx} {r : Int} {σ' : St} (C : CX cI cZ rm_X11_digest 5 Γ cX11_digest RX11) (hq : RetL (wR ad cI cZ) Γ cX11_digest r σ') {k123 : Int → Int → St → Option (Int × St)} (hk123 : ∀ (v1 : Int) (v3 : Int) (σ : St), k123 v1 v3 σ = some (r, σ') → JJ (wR ad cI cZ) Γ σ 123 [(0, .ref (ad 0)), (1, .long (iL v1)), (3, .int (iI v3))] []) (v1 : Int) (v3 : Int) (σ : St) (hf : fX11_digest_B123 k123 v1 v3 σ = some (r, σ')) : JJ (wR ad cI cZ) Γ σ 123 [(0, .ref (ad 0)), (1, .long (iL v1)), (3, .int (iI v3))] [] := by
  unfold fX11_digest_B123 at hf
  refine j_iload_n 2 C dX11_digest_123 rfl ?_
  refine j_iconst C dX11_digest_124 ?_
  refine j_icmp_ge 148 C rfl wl_3 dX11_digest_125 (by decide) (fun h => ?_) (fun h => ?_)
  · have hf := ifp h hf
    refine j_lload_n 1 C dX11_digest_148 rfl ?_
    exact retL hq hf dX11_digest_149
  · have hf := ifn h hf
    refine j_ldc2 (n := 31) C wt_1145 (by decide +kernel) dX11_digest_128 ?_
    refine j_lload_n 1 C dX11_digest_131 rfl ?_
    refine j_lmul C dX11_digest_132 ?_
    refine j_aload_n 0 C dX11_digest_133 rfl ?_
    refine gR_0_16 C wt_850 dX11_digest_134 ?_
    refine j_iload_n 2 C dX11_digest_137 rfl ?_
    obtain ⟨hI, hf⟩ := gI_s hf
    refine lR_12 C hI dX11_digest_138 ?_
    refine j_i2l C rfl dX11_digest_139 ?_
    refine j_ladd C dX11_digest_140 ?_
    refine j_lstore_n [(1, .long (iL ((31 * v1) + (w32 (σ.2 12 (ix v3)))))), (0, .ref (ad 0)), (3, .int (iI v3))] C dX11_digest_141 (by decide) rfl ?_
    refine j_iinc 2 [(3, .int (iI (v3 + 1))), (1, .long (iL ((31 * v1) + (w32 (σ.2 12 (ix v3)))))), (0, .ref (ad 0))] C dX11_digest_142 (by decide) rfl rfl ?_
    refine j_goto 123 C dX11_digest_145 (by decide) ?_
    exact j_sub [2, 1, 0] rfl (hk123 _ _ _ hf)
theorem tX11_digest_L123 {ad : Nat → Nat} {cI cZ : ClassId} {Γ : Cx} {r : Int} {σ' : St} (C : CX cI cZ rm_X11_digest 5 Γ cX11_digest RX11) (hq : RetL (wR ad cI cZ) Γ cX11_digest r σ') (n : Nat) : ∀ (v1 v3 : Int), ∀ (σ : St), fX11_digest_L123 n v1 v3 σ = some (r, σ') → JJ (wR ad cI cZ) Γ σ 123 [(0, .ref (ad 0)), (1, .long (iL v1)), (3, .int (iI v3))] [] := by
  induction n with
  | zero => intro _ _ _ hf; cases hf
  | succ n ih => intro v1 v3 σ hf; exact tX11_digest_B123 C hq ih v1 v3 σ hf
set_option maxRecDepth 20000 in
theorem tX11_digest_B93 {ad : Nat → Nat} {cI cZ : ClassId} {Γ : Cx} {r : Int} {σ' : St} (C : CX cI cZ rm_X11_digest 5 Γ cX11_digest RX11) (hq : RetL (wR ad cI cZ) Γ cX11_digest r σ') {k93 : Int → Int → St → Option (Int × St)} (hk93 : ∀ (v1 : Int) (v3 : Int) (σ : St), k93 v1 v3 σ = some (r, σ') → JJ (wR ad cI cZ) Γ σ 93 [(0, .ref (ad 0)), (1, .long (iL v1)), (3, .int (iI v3))] []) (v1 : Int) (v3 : Int) (σ : St) (hf : fX11_digest_B93 k93 v1 v3 σ = some (r, σ')) : JJ (wR ad cI cZ) Γ σ 93 [(0, .ref (ad 0)), (1, .long (iL v1)), (3, .int (iI v3))] [] := by
  unfold fX11_digest_B93 at hf
  refine j_iload_n 2 C dX11_digest_93 rfl ?_
  refine j_aload_n 0 C dX11_digest_94 rfl ?_
  refine gR_0_5 C wt_839 dX11_digest_95 ?_
  refine j_icmp_ge 121 C rfl rfl dX11_digest_98 (by decide) (fun h => ?_) (fun h => ?_)
  · have hf := ifp h hf
    refine j_iconst C dX11_digest_121 ?_
    refine j_istore_n [(3, .int (iI 0)), (0, .ref (ad 0)), (1, .long (iL v1))] C dX11_digest_122 (by decide) rfl ?_
    exact j_sub [1, 2, 0] rfl (tX11_digest_L123 C hq 1000 _ _ _ hf)
  · have hf := ifn h hf
    refine j_ldc2 (n := 31) C wt_1145 (by decide +kernel) dX11_digest_101 ?_
    refine j_lload_n 1 C dX11_digest_104 rfl ?_
    refine j_lmul C dX11_digest_105 ?_
    refine j_aload_n 0 C dX11_digest_106 rfl ?_
    refine gR_0_13 C wt_847 dX11_digest_107 ?_
    refine j_iload_n 2 C dX11_digest_110 rfl ?_
    obtain ⟨hI, hf⟩ := gI_s hf
    refine lR_10 C hI dX11_digest_111 ?_
    refine j_i2l C rfl dX11_digest_112 ?_
    refine j_ladd C dX11_digest_113 ?_
    refine j_lstore_n [(1, .long (iL ((31 * v1) + (w32 (σ.2 10 (ix v3)))))), (0, .ref (ad 0)), (3, .int (iI v3))] C dX11_digest_114 (by decide) rfl ?_
    refine j_iinc 2 [(3, .int (iI (v3 + 1))), (1, .long (iL ((31 * v1) + (w32 (σ.2 10 (ix v3)))))), (0, .ref (ad 0))] C dX11_digest_115 (by decide) rfl rfl ?_
    refine j_goto 93 C dX11_digest_118 (by decide) ?_
    exact j_sub [2, 1, 0] rfl (hk93 _ _ _ hf)
theorem tX11_digest_L93 {ad : Nat → Nat} {cI cZ : ClassId} {Γ : Cx} {r : Int} {σ' : St} (C : CX cI cZ rm_X11_digest 5 Γ cX11_digest RX11) (hq : RetL (wR ad cI cZ) Γ cX11_digest r σ') (n : Nat) : ∀ (v1 v3 : Int), ∀ (σ : St), fX11_digest_L93 n v1 v3 σ = some (r, σ') → JJ (wR ad cI cZ) Γ σ 93 [(0, .ref (ad 0)), (1, .long (iL v1)), (3, .int (iI v3))] [] := by
  induction n with
  | zero => intro _ _ _ hf; cases hf
  | succ n ih => intro v1 v3 σ hf; exact tX11_digest_B93 C hq ih v1 v3 σ hf
set_option maxRecDepth 20000 in
theorem tX11_digest_B44 {ad : Nat → Nat} {cI cZ : ClassId} {Γ : Cx} {r : Int} {σ' : St} (C : CX cI cZ rm_X11_digest 5 Γ cX11_digest RX11) (hq : RetL (wR ad cI cZ) Γ cX11_digest r σ') {k33 : Int → Int → St → Option (Int × St)} {k44 : Int → Int → Int → St → Option (Int × St)} (hk33 : ∀ (v1 : Int) (v3 : Int) (σ : St), k33 v1 v3 σ = some (r, σ') → JJ (wR ad cI cZ) Γ σ 33 [(0, .ref (ad 0)), (1, .long (iL v1)), (3, .int (iI v3))] []) (hk44 : ∀ (v1 : Int) (v3 : Int) (v4 : Int) (σ : St), k44 v1 v3 v4 σ = some (r, σ') → JJ (wR ad cI cZ) Γ σ 44 [(0, .ref (ad 0)), (1, .long (iL v1)), (3, .int (iI v3)), (4, .int (iI v4))] []) (v1 : Int) (v3 : Int) (v4 : Int) (σ : St) (hf : fX11_digest_B44 k33 k44 v1 v3 v4 σ = some (r, σ')) : JJ (wR ad cI cZ) Γ σ 44 [(0, .ref (ad 0)), (1, .long (iL v1)), (3, .int (iI v3)), (4, .int (iI v4))] [] := by
  unfold fX11_digest_B44 at hf
  refine j_iload 3 C dX11_digest_44 rfl ?_
  refine j_bipush C dX11_digest_46 bp_6 ?_
  refine j_icmp_ge 72 C rfl wl_6 dX11_digest_48 (by decide) (fun h => ?_) (fun h => ?_)
  · have hf := ifp h hf
    refine j_ldc2 (n := 31) C wt_1145 (by decide +kernel) dX11_digest_72 ?_
    refine j_lload_n 1 C dX11_digest_75 rfl ?_
    refine j_lmul C dX11_digest_76 ?_
    refine j_aload_n 0 C dX11_digest_77 rfl ?_
    refine j_iload_n 2 C dX11_digest_78 rfl ?_
    obtain ⟨a1, s1, hc, hf⟩ := bd_s hf
    refine j_cVi (q0 := 0) (ci := 11) (T := TX11) (N := 32) [.int (iI v3)] [.long (iL (31 * v1))] C (c_X11_bill _ _ ad cI cZ _ _ _ _ hc) mf_X11_bill wt_1148 wt_1124 wt_1125 rfl rfl rfl ⟨rfl, rfl, by decide, by decide⟩ rfl (Nat.le_of_ble_eq_true rfl) dX11_digest_79 ?_
    refine j_i2l C rfl dX11_digest_82 ?_
    refine j_ladd C dX11_digest_83 ?_
    refine j_lstore_n [(1, .long (iL ((31 * v1) + (w32 a1)))), (0, .ref (ad 0)), (3, .int (iI v3)), (4, .int (iI v4))] C dX11_digest_84 (by decide) rfl ?_
    refine j_iinc 2 [(3, .int (iI (v3 + 1))), (1, .long (iL ((31 * v1) + (w32 a1)))), (0, .ref (ad 0)), (4, .int (iI v4))] C dX11_digest_85 (by decide) rfl rfl ?_
    refine j_goto 33 C dX11_digest_88 (by decide) ?_
    exact j_sub [2, 1, 0] rfl (hk33 _ _ _ hf)
  · have hf := ifn h hf
    refine j_ldc2 (n := 31) C wt_1145 (by decide +kernel) dX11_digest_51 ?_
    refine j_lload_n 1 C dX11_digest_54 rfl ?_
    refine j_lmul C dX11_digest_55 ?_
    refine j_aload_n 0 C dX11_digest_56 rfl ?_
    refine j_iload_n 2 C dX11_digest_57 rfl ?_
    refine j_iload 3 C dX11_digest_58 rfl ?_
    obtain ⟨a2, s2, hc, hf⟩ := bd_s hf
    refine j_cVi (q0 := 0) (ci := 11) (T := TX11) (N := 32) [.int (iI v3), .int (iI v4)] [.long (iL (31 * v1))] C (c_X11_about _ _ ad cI cZ _ _ _ _ _ hc) mf_X11_about wt_1147 wt_968 wt_969 rfl rfl rfl ⟨rfl, rfl, by decide, by decide⟩ rfl (Nat.le_of_ble_eq_true rfl) dX11_digest_60 ?_
    refine j_i2l C rfl dX11_digest_63 ?_
    refine j_ladd C dX11_digest_64 ?_
    refine j_lstore_n [(1, .long (iL ((31 * v1) + (w32 a2)))), (0, .ref (ad 0)), (3, .int (iI v3)), (4, .int (iI v4))] C dX11_digest_65 (by decide) rfl ?_
    refine j_iinc 3 [(4, .int (iI (v4 + 1))), (1, .long (iL ((31 * v1) + (w32 a2)))), (0, .ref (ad 0)), (3, .int (iI v3))] C dX11_digest_66 (by decide) rfl rfl ?_
    refine j_goto 44 C dX11_digest_69 (by decide) ?_
    exact j_sub [2, 1, 3, 0] rfl (hk44 _ _ _ _ hf)
theorem tX11_digest_L44 {ad : Nat → Nat} {cI cZ : ClassId} {Γ : Cx} {r : Int} {σ' : St} (C : CX cI cZ rm_X11_digest 5 Γ cX11_digest RX11) (hq : RetL (wR ad cI cZ) Γ cX11_digest r σ') {k33 : Int → Int → St → Option (Int × St)} (hk33 : ∀ (v1 : Int) (v3 : Int) (σ : St), k33 v1 v3 σ = some (r, σ') → JJ (wR ad cI cZ) Γ σ 33 [(0, .ref (ad 0)), (1, .long (iL v1)), (3, .int (iI v3))] []) (n : Nat) : ∀ (v1 v3 v4 : Int), ∀ (σ : St), fX11_digest_L44 k33 n v1 v3 v4 σ = some (r, σ') → JJ (wR ad cI cZ) Γ σ 44 [(0, .ref (ad 0)), (1, .long (iL v1)), (3, .int (iI v3)), (4, .int (iI v4))] [] := by
  induction n with
  | zero => intro _ _ _ _ hf; cases hf
  | succ n ih => intro v1 v3 v4 σ hf; exact tX11_digest_B44 C hq hk33 ih v1 v3 v4 σ hf
set_option maxRecDepth 20000 in
theorem tX11_digest_B33 {ad : Nat → Nat} {cI cZ : ClassId} {Γ : Cx} {r : Int} {σ' : St} (C : CX cI cZ rm_X11_digest 5 Γ cX11_digest RX11) (hq : RetL (wR ad cI cZ) Γ cX11_digest r σ') {k33 : Int → Int → St → Option (Int × St)} (hk33 : ∀ (v1 : Int) (v3 : Int) (σ : St), k33 v1 v3 σ = some (r, σ') → JJ (wR ad cI cZ) Γ σ 33 [(0, .ref (ad 0)), (1, .long (iL v1)), (3, .int (iI v3))] []) (v1 : Int) (v3 : Int) (σ : St) (hf : fX11_digest_B33 k33 v1 v3 σ = some (r, σ')) : JJ (wR ad cI cZ) Γ σ 33 [(0, .ref (ad 0)), (1, .long (iL v1)), (3, .int (iI v3))] [] := by
  unfold fX11_digest_B33 at hf
  refine j_iload_n 2 C dX11_digest_33 rfl ?_
  refine j_aload_n 0 C dX11_digest_34 rfl ?_
  refine gR_0_5 C wt_839 dX11_digest_35 ?_
  refine j_icmp_ge 91 C rfl rfl dX11_digest_38 (by decide) (fun h => ?_) (fun h => ?_)
  · have hf := ifp h hf
    refine j_iconst C dX11_digest_91 ?_
    refine j_istore_n [(3, .int (iI 0)), (0, .ref (ad 0)), (1, .long (iL v1))] C dX11_digest_92 (by decide) rfl ?_
    exact j_sub [1, 2, 0] rfl (tX11_digest_L93 C hq 1000 _ _ _ hf)
  · have hf := ifn h hf
    refine j_iconst C dX11_digest_41 ?_
    refine j_istore [(4, .int (iI 1)), (0, .ref (ad 0)), (1, .long (iL v1)), (3, .int (iI v3))] C dX11_digest_42 (by decide) rfl ?_
    exact j_sub [1, 2, 3, 0] rfl (tX11_digest_L44 C hq hk33 1000 _ _ _ _ hf)
theorem tX11_digest_L33 {ad : Nat → Nat} {cI cZ : ClassId} {Γ : Cx} {r : Int} {σ' : St} (C : CX cI cZ rm_X11_digest 5 Γ cX11_digest RX11) (hq : RetL (wR ad cI cZ) Γ cX11_digest r σ') (n : Nat) : ∀ (v1 v3 : Int), ∀ (σ : St), fX11_digest_L33 n v1 v3 σ = some (r, σ') → JJ (wR ad cI cZ) Γ σ 33 [(0, .ref (ad 0)), (1, .long (iL v1)), (3, .int (iI v3))] [] := by
  induction n with
  | zero => intro _ _ _ hf; cases hf
  | succ n ih => intro v1 v3 σ hf; exact tX11_digest_B33 C hq ih v1 v3 σ hf
set_option maxRecDepth 20000 in
theorem tX11_digest_B6 {ad : Nat → Nat} {cI cZ : ClassId} {Γ : Cx} {r : Int} {σ' : St} (C : CX cI cZ rm_X11_digest 5 Γ cX11_digest RX11) (hq : RetL (wR ad cI cZ) Γ cX11_digest r σ') {k6 : Int → Int → St → Option (Int × St)} (hk6 : ∀ (v1 : Int) (v3 : Int) (σ : St), k6 v1 v3 σ = some (r, σ') → JJ (wR ad cI cZ) Γ σ 6 [(0, .ref (ad 0)), (1, .long (iL v1)), (3, .int (iI v3))] []) (v1 : Int) (v3 : Int) (σ : St) (hf : fX11_digest_B6 k6 v1 v3 σ = some (r, σ')) : JJ (wR ad cI cZ) Γ σ 6 [(0, .ref (ad 0)), (1, .long (iL v1)), (3, .int (iI v3))] [] := by
  unfold fX11_digest_B6 at hf
  refine j_iload_n 2 C dX11_digest_6 rfl ?_
  refine j_bipush C dX11_digest_7 bp_7 ?_
  refine j_icmp_ge 31 C rfl wl_7 dX11_digest_9 (by decide) (fun h => ?_) (fun h => ?_)
  · have hf := ifp h hf
    refine j_iconst C dX11_digest_31 ?_
    refine j_istore_n [(3, .int (iI 0)), (0, .ref (ad 0)), (1, .long (iL v1))] C dX11_digest_32 (by decide) rfl ?_
    exact j_sub [1, 2, 0] rfl (tX11_digest_L33 C hq 1000 _ _ _ hf)
  · have hf := ifn h hf
    refine j_ldc2 (n := 31) C wt_1145 (by decide +kernel) dX11_digest_12 ?_
    refine j_lload_n 1 C dX11_digest_15 rfl ?_
    refine j_lmul C dX11_digest_16 ?_
    refine j_aload_n 0 C dX11_digest_17 rfl ?_
    refine j_iload_n 2 C dX11_digest_18 rfl ?_
    obtain ⟨a3, s3, hc, hf⟩ := bd_s hf
    refine j_cVi (q0 := 0) (ci := 11) (T := TX11) (N := 32) [.int (iI v3)] [.long (iL (31 * v1))] C (c_X11_count _ _ ad cI cZ _ _ _ _ hc) mf_X11_count wt_1146 wt_1137 wt_1138 rfl rfl rfl ⟨rfl, rfl, by decide, by decide⟩ rfl (Nat.le_of_ble_eq_true rfl) dX11_digest_19 ?_
    refine j_i2l C rfl dX11_digest_22 ?_
    refine j_ladd C dX11_digest_23 ?_
    refine j_lstore_n [(1, .long (iL ((31 * v1) + (w32 a3)))), (0, .ref (ad 0)), (3, .int (iI v3))] C dX11_digest_24 (by decide) rfl ?_
    refine j_iinc 2 [(3, .int (iI (v3 + 1))), (1, .long (iL ((31 * v1) + (w32 a3)))), (0, .ref (ad 0))] C dX11_digest_25 (by decide) rfl rfl ?_
    refine j_goto 6 C dX11_digest_28 (by decide) ?_
    exact j_sub [2, 1, 0] rfl (hk6 _ _ _ hf)
theorem tX11_digest_L6 {ad : Nat → Nat} {cI cZ : ClassId} {Γ : Cx} {r : Int} {σ' : St} (C : CX cI cZ rm_X11_digest 5 Γ cX11_digest RX11) (hq : RetL (wR ad cI cZ) Γ cX11_digest r σ') (n : Nat) : ∀ (v1 v3 : Int), ∀ (σ : St), fX11_digest_L6 n v1 v3 σ = some (r, σ') → JJ (wR ad cI cZ) Γ σ 6 [(0, .ref (ad 0)), (1, .long (iL v1)), (3, .int (iI v3))] [] := by
  induction n with
  | zero => intro _ _ _ hf; cases hf
  | succ n ih => intro v1 v3 σ hf; exact tX11_digest_B6 C hq ih v1 v3 σ hf
set_option maxRecDepth 20000 in
theorem tX11_digest_L0 {ad : Nat → Nat} {cI cZ : ClassId} {Γ : Cx} {r : Int} {σ' : St} (C : CX cI cZ rm_X11_digest 5 Γ cX11_digest RX11) (hq : RetL (wR ad cI cZ) Γ cX11_digest r σ') (σ : St) (hf : fX11_digest_L0 σ = some (r, σ')) : JJ (wR ad cI cZ) Γ σ 0 [(0, .ref (ad 0))] [] := by
  unfold fX11_digest_L0 at hf
  refine j_ldc2 (n := 17) C wt_1144 (by decide +kernel) dX11_digest_0 ?_
  refine j_lstore_n [(1, .long (iL 17)), (0, .ref (ad 0))] C dX11_digest_3 (by decide) rfl ?_
  refine j_iconst C dX11_digest_4 ?_
  refine j_istore_n [(3, .int (iI 0)), (1, .long (iL 17)), (0, .ref (ad 0))] C dX11_digest_5 (by decide) rfl ?_
  exact j_sub [2, 1, 0] rfl (tX11_digest_L6 C hq 1000 _ _ _ hf)
theorem c_X11_digest (l : Launch) (D : va_G) (ad : Nat → Nat) (cI cZ : ClassId) (σ : St) (r : Int) (σ' : St) (hf : fX11_digest σ = some (r, σ')) : McL l yX11_digest cX11_digest 5 rm_X11_digest D (tyL cI cZ) (wR ad cI cZ) [.ref (ad 0)] σ r σ' := McL.mk mf_X11_digest.2.2.2.2.2 (Nat.le_of_ble_eq_true rfl) (fun Γ C hq => j_sub [0] rfl (tX11_digest_L0 C hq  σ hf))
