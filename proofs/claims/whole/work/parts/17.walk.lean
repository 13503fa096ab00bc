/-! TermLodgingsModel.trade()I -/
def rm_X11_trade : Room := { frames := 5, cells := 0, slots := 0, locals := 119 }
set_option maxRecDepth 20000 in
theorem tX11_trade_B378 {ad : Nat → Nat} {cI cZ : ClassId} {Γ : Cx} {r : Int} {σ' : St} (C : CX cI cZ rm_X11_trade 11 Γ cX11_trade RX11) (hq : RetI .int (wR ad cI cZ) Γ cX11_trade r σ') {k378 : Int → Int → Int → Int → Int → St → Option (Int × St)} (hk378 : ∀ (v2 : Int) (v3 : Int) (v4 : Int) (v5 : Int) (v6 : Int) (σ : St), k378 v2 v3 v4 v5 v6 σ = some (r, σ') → JJ (wR ad cI cZ) Γ σ 378 [(0, .ref (ad 0)), (2, .int (iI v2)), (3, .int (iI v3)), (4, .int (iI v4)), (5, .int (iI v5)), (6, .int (iI v6))] []) (v2 : Int) (v3 : Int) (v4 : Int) (v5 : Int) (v6 : Int) (σ : St) (hf : fX11_trade_B378 k378 v2 v3 v4 v5 v6 σ = some (r, σ')) : JJ (wR ad cI cZ) Γ σ 378 [(0, .ref (ad 0)), (2, .int (iI v2)), (3, .int (iI v3)), (4, .int (iI v4)), (5, .int (iI v5)), (6, .int (iI v6))] [] := by
  unfold fX11_trade_B378 at hf
  refine j_iload 5 C dX11_trade_378 rfl ?_
  refine j_aload_n 0 C dX11_trade_380 rfl ?_
  refine gR_0_5 C wt_839 dX11_trade_381 ?_
  refine j_icmp_ge 407 C rfl rfl dX11_trade_384 (by decide) (fun h => ?_) (fun h => ?_)
  · have hf := ifp h hf
    refine j_aload_n 0 C dX11_trade_407 rfl ?_
    refine gR_0_16 C wt_850 dX11_trade_408 ?_
    refine j_iconst C dX11_trade_411 ?_
    refine j_iload_n 1 C dX11_trade_412 rfl ?_
    obtain ⟨hI, hf⟩ := gI_s hf
    refine tR_12 C hI dX11_trade_413 ?_
    refine j_aload_n 0 C dX11_trade_414 rfl ?_
    refine gR_0_16 C wt_850 dX11_trade_415 ?_
    refine j_iconst C dX11_trade_418 ?_
    refine j_iload_n 2 C dX11_trade_419 rfl ?_
    obtain ⟨hI, hf⟩ := gI_s hf
    refine tR_12 C hI dX11_trade_420 ?_
    refine j_aload_n 0 C dX11_trade_421 rfl ?_
    refine gR_0_16 C wt_850 dX11_trade_422 ?_
    refine j_iconst C dX11_trade_425 ?_
    refine j_iload 3 C dX11_trade_426 rfl ?_
    obtain ⟨hI, hf⟩ := gI_s hf
    refine tR_12 C hI dX11_trade_428 ?_
    refine j_iload 4 C dX11_trade_429 rfl ?_
    exact retI hq hf dX11_trade_431
  · have hf := ifn h hf
    refine j_aload_n 0 C dX11_trade_387 rfl ?_
    refine gR_0_10 C wt_844 dX11_trade_388 ?_
    refine j_iload 5 C dX11_trade_391 rfl ?_
    refine j_aload_n 0 C dX11_trade_393 rfl ?_
    refine gR_0_18 C wt_852 dX11_trade_394 ?_
    refine j_iload 5 C dX11_trade_397 rfl ?_
    obtain ⟨hI, hf⟩ := gI_s hf
    refine lR_14 C hI dX11_trade_399 ?_
    obtain ⟨hI, hf⟩ := gI_s hf
    refine tR_7 C hI dX11_trade_400 ?_
    refine j_iinc 5 [(6, .int (iI (v6 + 1))), (0, .ref (ad 0)), (2, .int (iI v2)), (3, .int (iI v3)), (4, .int (iI v4)), (5, .int (iI v5))] C dX11_trade_401 (by decide) rfl rfl ?_
    refine j_goto 378 C dX11_trade_404 (by decide) ?_
    exact j_sub [1, 2, 3, 4, 5, 0] rfl (hk378 _ _ _ _ _ _ hf)
theorem tX11_trade_L378 {ad : Nat → Nat} {cI cZ : ClassId} {Γ : Cx} {r : Int} {σ' : St} (C : CX cI cZ rm_X11_trade 11 Γ cX11_trade RX11) (hq : RetI .int (wR ad cI cZ) Γ cX11_trade r σ') (n : Nat) : ∀ (v2 v3 v4 v5 v6 : Int), ∀ (σ : St), fX11_trade_L378 n v2 v3 v4 v5 v6 σ = some (r, σ') → JJ (wR ad cI cZ) Γ σ 378 [(0, .ref (ad 0)), (2, .int (iI v2)), (3, .int (iI v3)), (4, .int (iI v4)), (5, .int (iI v5)), (6, .int (iI v6))] [] := by
  induction n with
  | zero => intro _ _ _ _ _ _ hf; cases hf
  | succ n ih => intro v2 v3 v4 v5 v6 σ hf; exact tX11_trade_B378 C hq ih v2 v3 v4 v5 v6 σ hf
set_option maxRecDepth 20000 in
theorem tX11_trade_B333 {ad : Nat → Nat} {cI cZ : ClassId} {Γ : Cx} {r : Int} {σ' : St} (C : CX cI cZ rm_X11_trade 11 Γ cX11_trade RX11) (hq : RetI .int (wR ad cI cZ) Γ cX11_trade r σ') {k333 : Int → Int → Int → Int → Int → St → Option (Int × St)} (hk333 : ∀ (v2 : Int) (v3 : Int) (v4 : Int) (v5 : Int) (v6 : Int) (σ : St), k333 v2 v3 v4 v5 v6 σ = some (r, σ') → JJ (wR ad cI cZ) Γ σ 333 [(0, .ref (ad 0)), (2, .int (iI v2)), (3, .int (iI v3)), (4, .int (iI v4)), (5, .int (iI v5)), (6, .int (iI v6))] []) (v2 : Int) (v3 : Int) (v4 : Int) (v5 : Int) (v6 : Int) (σ : St) (hf : fX11_trade_B333 k333 v2 v3 v4 v5 v6 σ = some (r, σ')) : JJ (wR ad cI cZ) Γ σ 333 [(0, .ref (ad 0)), (2, .int (iI v2)), (3, .int (iI v3)), (4, .int (iI v4)), (5, .int (iI v5)), (6, .int (iI v6))] [] := by
  unfold fX11_trade_B333 at hf
  refine j_iload 5 C dX11_trade_333 rfl ?_
  refine j_aload_n 0 C dX11_trade_335 rfl ?_
  refine gR_0_5 C wt_839 dX11_trade_336 ?_
  refine j_icmp_ge 375 C rfl rfl dX11_trade_339 (by decide) (fun h => ?_) (fun h => ?_)
  · have hf := ifp h hf
    refine j_iconst C dX11_trade_375 ?_
    refine j_istore [(6, .int (iI 0)), (0, .ref (ad 0)), (2, .int (iI v2)), (3, .int (iI v3)), (4, .int (iI v4)), (5, .int (iI v5))] C dX11_trade_376 (by decide) rfl ?_
    exact j_sub [1, 2, 3, 4, 5, 0] rfl (tX11_trade_L378 C hq 1000 _ _ _ _ _ _ hf)
  · have hf := ifn h hf
    refine j_iload 4 C dX11_trade_342 rfl ?_
    refine j_aload_n 0 C dX11_trade_344 rfl ?_
    refine gR_0_18 C wt_852 dX11_trade_345 ?_
    refine j_iload 5 C dX11_trade_348 rfl ?_
    obtain ⟨hI, hf⟩ := gI_s hf
    refine lR_14 C hI dX11_trade_350 ?_
    refine j_aload_n 0 C dX11_trade_351 rfl ?_
    refine gR_0_10 C wt_844 dX11_trade_352 ?_
    refine j_iload 5 C dX11_trade_355 rfl ?_
    obtain ⟨hI, hf⟩ := gI_s hf
    refine lR_7 C hI dX11_trade_357 ?_
    refine j_icmp_eq 365 C rfl rfl dX11_trade_358 (by decide) (fun h => ?_) (fun h => ?_)
    · have hf := ifp h hf
      refine j_iconst C dX11_trade_365 ?_
      refine j_iadd C dX11_trade_366 ?_
      refine j_istore [(5, .int (iI (v5 + 0))), (0, .ref (ad 0)), (2, .int (iI v2)), (3, .int (iI v3)), (4, .int (iI v4)), (6, .int (iI v6))] C dX11_trade_367 (by decide) rfl ?_
      refine j_iinc 5 [(6, .int (iI (v6 + 1))), (5, .int (iI (v5 + 0))), (0, .ref (ad 0)), (2, .int (iI v2)), (3, .int (iI v3)), (4, .int (iI v4))] C dX11_trade_369 (by decide) rfl rfl ?_
      refine j_goto 333 C dX11_trade_372 (by decide) ?_
      exact j_sub [2, 3, 4, 5, 1, 0] rfl (hk333 _ _ _ _ _ _ hf)
    · have hf := ifn h hf
      refine j_iconst C dX11_trade_361 ?_
      refine j_goto 366 C dX11_trade_362 (by decide) ?_
      refine j_iadd C dX11_trade_366 ?_
      refine j_istore [(5, .int (iI (v5 + 1))), (0, .ref (ad 0)), (2, .int (iI v2)), (3, .int (iI v3)), (4, .int (iI v4)), (6, .int (iI v6))] C dX11_trade_367 (by decide) rfl ?_
      refine j_iinc 5 [(6, .int (iI (v6 + 1))), (5, .int (iI (v5 + 1))), (0, .ref (ad 0)), (2, .int (iI v2)), (3, .int (iI v3)), (4, .int (iI v4))] C dX11_trade_369 (by decide) rfl rfl ?_
      refine j_goto 333 C dX11_trade_372 (by decide) ?_
      exact j_sub [2, 3, 4, 5, 1, 0] rfl (hk333 _ _ _ _ _ _ hf)
theorem tX11_trade_L333 {ad : Nat → Nat} {cI cZ : ClassId} {Γ : Cx} {r : Int} {σ' : St} (C : CX cI cZ rm_X11_trade 11 Γ cX11_trade RX11) (hq : RetI .int (wR ad cI cZ) Γ cX11_trade r σ') (n : Nat) : ∀ (v2 v3 v4 v5 v6 : Int), ∀ (σ : St), fX11_trade_L333 n v2 v3 v4 v5 v6 σ = some (r, σ') → JJ (wR ad cI cZ) Γ σ 333 [(0, .ref (ad 0)), (2, .int (iI v2)), (3, .int (iI v3)), (4, .int (iI v4)), (5, .int (iI v5)), (6, .int (iI v6))] [] := by
  induction n with
  | zero => intro _ _ _ _ _ _ hf; cases hf
  | succ n ih => intro v2 v3 v4 v5 v6 σ hf; exact tX11_trade_B333 C hq ih v2 v3 v4 v5 v6 σ hf
set_option maxRecDepth 20000 in
theorem tX11_trade_L294 {ad : Nat → Nat} {cI cZ : ClassId} {Γ : Cx} {r : Int} {σ' : St} (C : CX cI cZ rm_X11_trade 11 Γ cX11_trade RX11) (hq : RetI .int (wR ad cI cZ) Γ cX11_trade r σ') {k71 : Int → Int → Int → Int → St → Option (Int × St)} {k130 : Int → Int → Int → Int → Int → Int → St → Option (Int × St)} (hk71 : ∀ (v1 : Int) (v2 : Int) (v3 : Int) (v4 : Int) (σ : St), k71 v1 v2 v3 v4 σ = some (r, σ') → JJ (wR ad cI cZ) Γ σ 71 [(0, .ref (ad 0)), (1, .int (iI v1)), (2, .int (iI v2)), (3, .int (iI v3)), (4, .int (iI v4))] []) (hk130 : ∀ (v1 : Int) (v2 : Int) (v3 : Int) (v4 : Int) (v5 : Int) (v6 : Int) (σ : St), k130 v1 v2 v3 v4 v5 v6 σ = some (r, σ') → JJ (wR ad cI cZ) Γ σ 130 [(0, .ref (ad 0)), (1, .int (iI v1)), (2, .int (iI v2)), (3, .int (iI v3)), (4, .int (iI v4)), (5, .int (iI v5)), (6, .int (iI v6))] []) (v1 : Int) (v3 : Int) (v4 : Int) (v5 : Int) (v6 : Int) (v7 : Int) (t0 : Int) (t1 : Int) (σ : St) (hf : fX11_trade_L294 k71 k130 v1 v3 v4 v5 v6 v7 t0 t1 σ = some (r, σ')) : JJ (wR ad cI cZ) Γ σ 294 [(0, .ref (ad 0)), (1, .int (iI v1)), (3, .int (iI v3)), (4, .int (iI v4)), (5, .int (iI v5)), (6, .int (iI v6)), (7, .int (iI v7))] [.int (iI t1), .int (iI t0)] := by
  unfold fX11_trade_L294 at hf
  refine j_iadd C dX11_trade_294 ?_
  refine j_istore_n [(2, .int (iI (t0 + t1))), (0, .ref (ad 0)), (1, .int (iI v1)), (3, .int (iI v3)), (4, .int (iI v4)), (5, .int (iI v5)), (6, .int (iI v6)), (7, .int (iI v7))] C dX11_trade_295 (by decide) rfl ?_
  refine j_iload 7 C dX11_trade_296 rfl ?_
  refine j_iconst C dX11_trade_298 ?_
  refine j_icmp_le 313 C rfl wl_1 dX11_trade_299 (by decide) (fun h => ?_) (fun h => ?_)
  · have hf := ifp h hf
    refine j_iload_n 3 C dX11_trade_313 rfl ?_
    refine j_istore_n [(3, .int (iI v3)), (2, .int (iI (t0 + t1))), (0, .ref (ad 0)), (1, .int (iI v1)), (4, .int (iI v4)), (5, .int (iI v5)), (6, .int (iI v6)), (7, .int (iI v7))] C dX11_trade_314 (by decide) rfl ?_
    refine j_iinc 6 [(6, .int (iI (v6 + 1))), (3, .int (iI v3)), (2, .int (iI (t0 + t1))), (0, .ref (ad 0)), (1, .int (iI v1)), (4, .int (iI v4)), (5, .int (iI v5)), (7, .int (iI v7))] C dX11_trade_315 (by decide) rfl rfl ?_
    refine j_goto 130 C dX11_trade_318 (by decide) ?_
    exact j_sub [3, 4, 2, 1, 5, 6, 0] rfl (hk130 _ _ _ _ _ _ _ hf)
  · have hf := ifn h hf
    refine j_iload 7 C dX11_trade_302 rfl ?_
    refine j_iload_n 3 C dX11_trade_304 rfl ?_
    refine j_icmp_le 313 C rfl rfl dX11_trade_305 (by decide) (fun h => ?_) (fun h => ?_)
    · have hf := ifp h hf
      refine j_iload_n 3 C dX11_trade_313 rfl ?_
      refine j_istore_n [(3, .int (iI v3)), (2, .int (iI (t0 + t1))), (0, .ref (ad 0)), (1, .int (iI v1)), (4, .int (iI v4)), (5, .int (iI v5)), (6, .int (iI v6)), (7, .int (iI v7))] C dX11_trade_314 (by decide) rfl ?_
      refine j_iinc 6 [(6, .int (iI (v6 + 1))), (3, .int (iI v3)), (2, .int (iI (t0 + t1))), (0, .ref (ad 0)), (1, .int (iI v1)), (4, .int (iI v4)), (5, .int (iI v5)), (7, .int (iI v7))] C dX11_trade_315 (by decide) rfl rfl ?_
      refine j_goto 130 C dX11_trade_318 (by decide) ?_
      exact j_sub [3, 4, 2, 1, 5, 6, 0] rfl (hk130 _ _ _ _ _ _ _ hf)
    · have hf := ifn h hf
      refine j_iload 7 C dX11_trade_308 rfl ?_
      refine j_goto 314 C dX11_trade_310 (by decide) ?_
      refine j_istore_n [(3, .int (iI v7)), (2, .int (iI (t0 + t1))), (0, .ref (ad 0)), (1, .int (iI v1)), (4, .int (iI v4)), (5, .int (iI v5)), (6, .int (iI v6)), (7, .int (iI v7))] C dX11_trade_314 (by decide) rfl ?_
      refine j_iinc 6 [(6, .int (iI (v6 + 1))), (3, .int (iI v7)), (2, .int (iI (t0 + t1))), (0, .ref (ad 0)), (1, .int (iI v1)), (4, .int (iI v4)), (5, .int (iI v5)), (7, .int (iI v7))] C dX11_trade_315 (by decide) rfl rfl ?_
      refine j_goto 130 C dX11_trade_318 (by decide) ?_
      exact j_sub [3, 4, 2, 1, 5, 6, 0] rfl (hk130 _ _ _ _ _ _ _ hf)
set_option maxRecDepth 20000 in
theorem tX11_trade_B239 {ad : Nat → Nat} {cI cZ : ClassId} {Γ : Cx} {r : Int} {σ' : St} (C : CX cI cZ rm_X11_trade 11 Γ cX11_trade RX11) (hq : RetI .int (wR ad cI cZ) Γ cX11_trade r σ') {k71 : Int → Int → Int → Int → St → Option (Int × St)} {k130 : Int → Int → Int → Int → Int → Int → St → Option (Int × St)} {k239 : Int → Int → Int → Int → Int → Int → Int → Int → Int → St → Option (Int × St)} (hk71 : ∀ (v1 : Int) (v2 : Int) (v3 : Int) (v4 : Int) (σ : St), k71 v1 v2 v3 v4 σ = some (r, σ') → JJ (wR ad cI cZ) Γ σ 71 [(0, .ref (ad 0)), (1, .int (iI v1)), (2, .int (iI v2)), (3, .int (iI v3)), (4, .int (iI v4))] []) (hk130 : ∀ (v1 : Int) (v2 : Int) (v3 : Int) (v4 : Int) (v5 : Int) (v6 : Int) (σ : St), k130 v1 v2 v3 v4 v5 v6 σ = some (r, σ') → JJ (wR ad cI cZ) Γ σ 130 [(0, .ref (ad 0)), (1, .int (iI v1)), (2, .int (iI v2)), (3, .int (iI v3)), (4, .int (iI v4)), (5, .int (iI v5)), (6, .int (iI v6))] []) (hk239 : ∀ (v1 : Int) (v2 : Int) (v3 : Int) (v4 : Int) (v5 : Int) (v6 : Int) (v7 : Int) (v9 : Int) (v10 : Int) (σ : St), k239 v1 v2 v3 v4 v5 v6 v7 v9 v10 σ = some (r, σ') → JJ (wR ad cI cZ) Γ σ 239 [(0, .ref (ad 0)), (1, .int (iI v1)), (2, .int (iI v2)), (3, .int (iI v3)), (4, .int (iI v4)), (5, .int (iI v5)), (6, .int (iI v6)), (7, .int (iI v7)), (9, .int (iI v9)), (10, .int (iI v10))] []) (v1 : Int) (v2 : Int) (v3 : Int) (v4 : Int) (v5 : Int) (v6 : Int) (v7 : Int) (v9 : Int) (v10 : Int) (σ : St) (hf : fX11_trade_B239 k71 k130 k239 v1 v2 v3 v4 v5 v6 v7 v9 v10 σ = some (r, σ')) : JJ (wR ad cI cZ) Γ σ 239 [(0, .ref (ad 0)), (1, .int (iI v1)), (2, .int (iI v2)), (3, .int (iI v3)), (4, .int (iI v4)), (5, .int (iI v5)), (6, .int (iI v6)), (7, .int (iI v7)), (9, .int (iI v9)), (10, .int (iI v10))] [] := by
  unfold fX11_trade_B239 at hf
  refine j_iload 9 C dX11_trade_239 rfl ?_
  refine j_iload 6 C dX11_trade_241 rfl ?_
  refine j_icmp_eq 277 C rfl rfl dX11_trade_243 (by decide) (fun h => ?_) (fun h => ?_)
  · have hf := ifp h hf
    refine j_iload_n 2 C dX11_trade_277 rfl ?_
    refine j_iload 8 C dX11_trade_278 rfl ?_
    refine j_if_eq 293 C rfl dX11_trade_280 (by decide) (fun h => ?_) (fun h => ?_)
    · have hf := ifp h hf
      refine j_iconst C dX11_trade_293 ?_
      exact j_sub [0, 1, 3, 4, 5, 6, 7] rfl (tX11_trade_L294 C hq hk71 hk130 _ _ _ _ _ _ _ _ _ hf)
    · have hf := ifn h hf
      refine j_iload 7 C dX11_trade_283 rfl ?_
      refine j_iconst C dX11_trade_285 ?_
      refine j_icmp_le 293 C rfl wl_1 dX11_trade_286 (by decide) (fun h => ?_) (fun h => ?_)
      · have hf := ifp h hf
        refine j_iconst C dX11_trade_293 ?_
        exact j_sub [0, 1, 3, 4, 5, 6, 7] rfl (tX11_trade_L294 C hq hk71 hk130 _ _ _ _ _ _ _ _ _ hf)
      · have hf := ifn h hf
        refine j_iconst C dX11_trade_289 ?_
        refine j_goto 294 C dX11_trade_290 (by decide) ?_
        exact j_sub [0, 1, 3, 4, 5, 6, 7] rfl (tX11_trade_L294 C hq hk71 hk130 _ _ _ _ _ _ _ _ _ hf)
  · have hf := ifn h hf
    refine j_iload 8 C dX11_trade_246 rfl ?_
    refine j_if_eq 262 C rfl dX11_trade_248 (by decide) (fun h => ?_) (fun h => ?_)
    · have hf := ifp h hf
      refine j_iconst C dX11_trade_262 ?_
      refine j_istore [(9, .int (iI 0)), (0, .ref (ad 0)), (1, .int (iI v1)), (2, .int (iI v2)), (3, .int (iI v3)), (4, .int (iI v4)), (5, .int (iI v5)), (6, .int (iI v6)), (7, .int (iI v7)), (10, .int (iI v10))] C dX11_trade_263 (by decide) rfl ?_
      refine j_aload_n 1 C dX11_trade_265 rfl ?_
      refine gR_0_17 C wt_851 dX11_trade_266 ?_
      refine j_iload 9 C dX11_trade_269 rfl ?_
      obtain ⟨hI, hf⟩ := gI_s hf
      refine lR_13 C hI dX11_trade_271 ?_
      refine j_istore [(10, .int (iI (σ.2 13 (ix v10)))), (9, .int (iI 0)), (0, .ref (ad 0)), (1, .int (iI v1)), (2, .int (iI v2)), (3, .int (iI v3)), (4, .int (iI v4)), (5, .int (iI v5)), (6, .int (iI v6)), (7, .int (iI v7))] C dX11_trade_272 (by decide) rfl ?_
      refine j_goto 239 C dX11_trade_274 (by decide) ?_
      exact j_sub [2, 3, 4, 5, 6, 7, 8, 9, 1, 0] rfl (hk239 _ _ _ _ _ _ _ _ _ _ hf)
    · have hf := ifn h hf
      refine j_iload 9 C dX11_trade_251 rfl ?_
      refine j_iload 6 C dX11_trade_253 rfl ?_
      refine j_icmp_le 262 C rfl rfl dX11_trade_255 (by decide) (fun h => ?_) (fun h => ?_)
      · have hf := ifp h hf
        refine j_iconst C dX11_trade_262 ?_
        refine j_istore [(9, .int (iI 0)), (0, .ref (ad 0)), (1, .int (iI v1)), (2, .int (iI v2)), (3, .int (iI v3)), (4, .int (iI v4)), (5, .int (iI v5)), (6, .int (iI v6)), (7, .int (iI v7)), (10, .int (iI v10))] C dX11_trade_263 (by decide) rfl ?_
        refine j_aload_n 1 C dX11_trade_265 rfl ?_
        refine gR_0_17 C wt_851 dX11_trade_266 ?_
        refine j_iload 9 C dX11_trade_269 rfl ?_
        obtain ⟨hI, hf⟩ := gI_s hf
        refine lR_13 C hI dX11_trade_271 ?_
        refine j_istore [(10, .int (iI (σ.2 13 (ix v10)))), (9, .int (iI 0)), (0, .ref (ad 0)), (1, .int (iI v1)), (2, .int (iI v2)), (3, .int (iI v3)), (4, .int (iI v4)), (5, .int (iI v5)), (6, .int (iI v6)), (7, .int (iI v7))] C dX11_trade_272 (by decide) rfl ?_
        refine j_goto 239 C dX11_trade_274 (by decide) ?_
        exact j_sub [2, 3, 4, 5, 6, 7, 8, 9, 1, 0] rfl (hk239 _ _ _ _ _ _ _ _ _ _ hf)
      · have hf := ifn h hf
        refine j_iconst C dX11_trade_258 ?_
        refine j_goto 263 C dX11_trade_259 (by decide) ?_
        refine j_istore [(9, .int (iI 1)), (0, .ref (ad 0)), (1, .int (iI v1)), (2, .int (iI v2)), (3, .int (iI v3)), (4, .int (iI v4)), (5, .int (iI v5)), (6, .int (iI v6)), (7, .int (iI v7)), (10, .int (iI v10))] C dX11_trade_263 (by decide) rfl ?_
        refine j_aload_n 1 C dX11_trade_265 rfl ?_
        refine gR_0_17 C wt_851 dX11_trade_266 ?_
        refine j_iload 9 C dX11_trade_269 rfl ?_
        obtain ⟨hI, hf⟩ := gI_s hf
        refine lR_13 C hI dX11_trade_271 ?_
        refine j_istore [(10, .int (iI (σ.2 13 (ix v10)))), (9, .int (iI 1)), (0, .ref (ad 0)), (1, .int (iI v1)), (2, .int (iI v2)), (3, .int (iI v3)), (4, .int (iI v4)), (5, .int (iI v5)), (6, .int (iI v6)), (7, .int (iI v7))] C dX11_trade_272 (by decide) rfl ?_
        refine j_goto 239 C dX11_trade_274 (by decide) ?_
        exact j_sub [2, 3, 4, 5, 6, 7, 8, 9, 1, 0] rfl (hk239 _ _ _ _ _ _ _ _ _ _ hf)
theorem tX11_trade_L239 {ad : Nat → Nat} {cI cZ : ClassId} {Γ : Cx} {r : Int} {σ' : St} (C : CX cI cZ rm_X11_trade 11 Γ cX11_trade RX11) (hq : RetI .int (wR ad cI cZ) Γ cX11_trade r σ') {k71 : Int → Int → Int → Int → St → Option (Int × St)} {k130 : Int → Int → Int → Int → Int → Int → St → Option (Int × St)} (hk71 : ∀ (v1 : Int) (v2 : Int) (v3 : Int) (v4 : Int) (σ : St), k71 v1 v2 v3 v4 σ = some (r, σ') → JJ (wR ad cI cZ) Γ σ 71 [(0, .ref (ad 0)), (1, .int (iI v1)), (2, .int (iI v2)), (3, .int (iI v3)), (4, .int (iI v4))] []) (hk130 : ∀ (v1 : Int) (v2 : Int) (v3 : Int) (v4 : Int) (v5 : Int) (v6 : Int) (σ : St), k130 v1 v2 v3 v4 v5 v6 σ = some (r, σ') → JJ (wR ad cI cZ) Γ σ 130 [(0, .ref (ad 0)), (1, .int (iI v1)), (2, .int (iI v2)), (3, .int (iI v3)), (4, .int (iI v4)), (5, .int (iI v5)), (6, .int (iI v6))] []) (n : Nat) : ∀ (v1 v2 v3 v4 v5 v6 v7 v9 v10 : Int), ∀ (σ : St), fX11_trade_L239 k71 k130 n v1 v2 v3 v4 v5 v6 v7 v9 v10 σ = some (r, σ') → JJ (wR ad cI cZ) Γ σ 239 [(0, .ref (ad 0)), (1, .int (iI v1)), (2, .int (iI v2)), (3, .int (iI v3)), (4, .int (iI v4)), (5, .int (iI v5)), (6, .int (iI v6)), (7, .int (iI v7)), (9, .int (iI v9)), (10, .int (iI v10))] [] := by
  induction n with
  | zero => intro _ _ _ _ _ _ _ _ _ _ hf; cases hf
  | succ n ih => intro v1 v2 v3 v4 v5 v6 v7 v9 v10 σ hf; exact tX11_trade_B239 C hq hk71 hk130 ih v1 v2 v3 v4 v5 v6 v7 v9 v10 σ hf
set_option maxRecDepth 20000 in
theorem tX11_trade_L190 {ad : Nat → Nat} {cI cZ : ClassId} {Γ : Cx} {r : Int} {σ' : St} (C : CX cI cZ rm_X11_trade 11 Γ cX11_trade RX11) (hq : RetI .int (wR ad cI cZ) Γ cX11_trade r σ') {k71 : Int → Int → Int → Int → St → Option (Int × St)} {k130 : Int → Int → Int → Int → Int → Int → St → Option (Int × St)} (hk71 : ∀ (v1 : Int) (v2 : Int) (v3 : Int) (v4 : Int) (σ : St), k71 v1 v2 v3 v4 σ = some (r, σ') → JJ (wR ad cI cZ) Γ σ 71 [(0, .ref (ad 0)), (1, .int (iI v1)), (2, .int (iI v2)), (3, .int (iI v3)), (4, .int (iI v4))] []) (hk130 : ∀ (v1 : Int) (v2 : Int) (v3 : Int) (v4 : Int) (v5 : Int) (v6 : Int) (σ : St), k130 v1 v2 v3 v4 v5 v6 σ = some (r, σ') → JJ (wR ad cI cZ) Γ σ 130 [(0, .ref (ad 0)), (1, .int (iI v1)), (2, .int (iI v2)), (3, .int (iI v3)), (4, .int (iI v4)), (5, .int (iI v5)), (6, .int (iI v6))] []) (v1 : Int) (v2 : Int) (v3 : Int) (v4 : Int) (v5 : Int) (v6 : Int) (v7 : Int) (v8 : Int) (σ : St) (hf : fX11_trade_L190 k71 k130 v1 v2 v3 v4 v5 v6 v7 v8 σ = some (r, σ')) : JJ (wR ad cI cZ) Γ σ 190 [(0, .ref (ad 0)), (1, .int (iI v1)), (2, .int (iI v2)), (3, .int (iI v3)), (4, .int (iI v4)), (5, .int (iI v5)), (6, .int (iI v6)), (7, .int (iI v7)), (8, .int (iI v8))] [] := by
  unfold fX11_trade_L190 at hf
  refine j_iload 8 C dX11_trade_190 rfl ?_
  refine j_iload 6 C dX11_trade_192 rfl ?_
  refine j_icmp_ne 315 C rfl rfl dX11_trade_194 (by decide) (fun h => ?_) (fun h => ?_)
  · have hf := ifn h hf
    refine j_iinc 6 [(6, .int (iI (v6 + 1))), (0, .ref (ad 0)), (1, .int (iI v1)), (2, .int (iI v2)), (3, .int (iI v3)), (4, .int (iI v4)), (5, .int (iI v5)), (7, .int (iI v7)), (8, .int (iI v8))] C dX11_trade_315 (by decide) rfl rfl ?_
    refine j_goto 130 C dX11_trade_318 (by decide) ?_
    exact j_sub [1, 2, 3, 4, 5, 6, 0] rfl (hk130 _ _ _ _ _ _ _ hf)
  · have hf := ifp h hf
    refine j_aload_n 0 C dX11_trade_197 rfl ?_
    refine gR_0_18 C wt_852 dX11_trade_198 ?_
    refine j_iload 6 C dX11_trade_201 rfl ?_
    refine j_aload_n 0 C dX11_trade_203 rfl ?_
    refine gR_0_10 C wt_844 dX11_trade_204 ?_
    refine j_aload_n 0 C dX11_trade_207 rfl ?_
    refine gR_0_17 C wt_851 dX11_trade_208 ?_
    refine j_iload 6 C dX11_trade_211 rfl ?_
    obtain ⟨hI, hf⟩ := gI_s hf
    refine lR_13 C hI dX11_trade_213 ?_
    obtain ⟨hI, hf⟩ := gI_s hf
    refine lR_7 C hI dX11_trade_214 ?_
    obtain ⟨hI, hf⟩ := gI_s hf
    refine tR_14 C hI dX11_trade_215 ?_
    refine j_iload 5 C dX11_trade_216 rfl ?_
    refine j_iconst C dX11_trade_218 ?_
    refine j_iload 6 C dX11_trade_219 rfl ?_
    refine j_ishl C dX11_trade_221 ?_
    refine j_iconst C dX11_trade_222 ?_
    refine j_ixor C dX11_trade_223 ?_
    refine j_iand C dX11_trade_224 ?_
    refine j_istore [(5, .int (iI (bAnd v5 (bXor (bShl 1 v6) (-1))))), (0, .ref (ad 0)), (1, .int (iI v1)), (2, .int (iI v2)), (3, .int (iI v3)), (4, .int (iI v4)), (6, .int (iI v6)), (7, .int (iI v7)), (8, .int (iI v8))] C dX11_trade_225 (by decide) rfl ?_
    refine j_iconst C dX11_trade_227 ?_
    refine j_istore [(9, .int (iI 1)), (5, .int (iI (bAnd v5 (bXor (bShl 1 v6) (-1))))), (0, .ref (ad 0)), (1, .int (iI v1)), (2, .int (iI v2)), (3, .int (iI v3)), (4, .int (iI v4)), (6, .int (iI v6)), (7, .int (iI v7)), (8, .int (iI v8))] C dX11_trade_228 (by decide) rfl ?_
    refine j_aload_n 2 C dX11_trade_230 rfl ?_
    refine gR_0_17 C wt_851 dX11_trade_231 ?_
    refine j_iload 7 C dX11_trade_234 rfl ?_
    obtain ⟨hI, hf⟩ := gI_s hf
    refine lR_13 C hI dX11_trade_236 ?_
    refine j_istore [(10, .int (iI ((sA σ 14 (ix v6) (σ.2 7 (ix (σ.2 13 (ix v6))))).2 13 (ix v6)))), (9, .int (iI 1)), (5, .int (iI (bAnd v5 (bXor (bShl 1 v6) (-1))))), (0, .ref (ad 0)), (1, .int (iI v1)), (2, .int (iI v2)), (3, .int (iI v3)), (4, .int (iI v4)), (6, .int (iI v6)), (7, .int (iI v7)), (8, .int (iI v8))] C dX11_trade_237 (by decide) rfl ?_
    exact j_sub [3, 4, 5, 6, 7, 2, 8, 9, 1, 0] rfl (tX11_trade_L239 C hq hk71 hk130 1000 _ _ _ _ _ _ _ _ _ _ hf)
set_option maxRecDepth 20000 in
theorem tX11_trade_B161 {ad : Nat → Nat} {cI cZ : ClassId} {Γ : Cx} {r : Int} {σ' : St} (C : CX cI cZ rm_X11_trade 11 Γ cX11_trade RX11) (hq : RetI .int (wR ad cI cZ) Γ cX11_trade r σ') {k71 : Int → Int → Int → Int → St → Option (Int × St)} {k130 : Int → Int → Int → Int → Int → Int → St → Option (Int × St)} {k161 : Int → Int → Int → Int → Int → Int → Int → Int → St → Option (Int × St)} (hk71 : ∀ (v1 : Int) (v2 : Int) (v3 : Int) (v4 : Int) (σ : St), k71 v1 v2 v3 v4 σ = some (r, σ') → JJ (wR ad cI cZ) Γ σ 71 [(0, .ref (ad 0)), (1, .int (iI v1)), (2, .int (iI v2)), (3, .int (iI v3)), (4, .int (iI v4))] []) (hk130 : ∀ (v1 : Int) (v2 : Int) (v3 : Int) (v4 : Int) (v5 : Int) (v6 : Int) (σ : St), k130 v1 v2 v3 v4 v5 v6 σ = some (r, σ') → JJ (wR ad cI cZ) Γ σ 130 [(0, .ref (ad 0)), (1, .int (iI v1)), (2, .int (iI v2)), (3, .int (iI v3)), (4, .int (iI v4)), (5, .int (iI v5)), (6, .int (iI v6))] []) (hk161 : ∀ (v1 : Int) (v2 : Int) (v3 : Int) (v4 : Int) (v5 : Int) (v6 : Int) (v7 : Int) (v8 : Int) (σ : St), k161 v1 v2 v3 v4 v5 v6 v7 v8 σ = some (r, σ') → JJ (wR ad cI cZ) Γ σ 161 [(0, .ref (ad 0)), (1, .int (iI v1)), (2, .int (iI v2)), (3, .int (iI v3)), (4, .int (iI v4)), (5, .int (iI v5)), (6, .int (iI v6)), (7, .int (iI v7)), (8, .int (iI v8))] []) (v1 : Int) (v2 : Int) (v3 : Int) (v4 : Int) (v5 : Int) (v6 : Int) (v7 : Int) (v8 : Int) (σ : St) (hf : fX11_trade_B161 k71 k130 k161 v1 v2 v3 v4 v5 v6 v7 v8 σ = some (r, σ')) : JJ (wR ad cI cZ) Γ σ 161 [(0, .ref (ad 0)), (1, .int (iI v1)), (2, .int (iI v2)), (3, .int (iI v3)), (4, .int (iI v4)), (5, .int (iI v5)), (6, .int (iI v6)), (7, .int (iI v7)), (8, .int (iI v8))] [] := by
  unfold fX11_trade_B161 at hf
  refine j_iload 8 C dX11_trade_161 rfl ?_
  refine j_iload 6 C dX11_trade_163 rfl ?_
  refine j_icmp_eq 190 C rfl rfl dX11_trade_165 (by decide) (fun h => ?_) (fun h => ?_)
  · have hf := ifp h hf
    exact j_sub [0, 1, 2, 3, 4, 5, 6, 7, 8] rfl (tX11_trade_L190 C hq hk71 hk130 _ _ _ _ _ _ _ _ _ hf)
  · have hf := ifn h hf
    refine j_iload 7 C dX11_trade_168 rfl ?_
    refine j_bipush C dX11_trade_170 bp_17 ?_
    refine j_icmp_ge 190 C rfl wl_17 dX11_trade_172 (by decide) (fun h => ?_) (fun h => ?_)
    · have hf := ifp h hf
      exact j_sub [0, 1, 2, 3, 4, 5, 6, 7, 8] rfl (tX11_trade_L190 C hq hk71 hk130 _ _ _ _ _ _ _ _ _ hf)
    · have hf := ifn h hf
      refine j_aload_n 0 C dX11_trade_175 rfl ?_
      refine gR_0_17 C wt_851 dX11_trade_176 ?_
      refine j_iload 8 C dX11_trade_179 rfl ?_
      obtain ⟨hI, hf⟩ := gI_s hf
      refine lR_13 C hI dX11_trade_181 ?_
      refine j_istore [(8, .int (iI (σ.2 13 (ix v8)))), (0, .ref (ad 0)), (1, .int (iI v1)), (2, .int (iI v2)), (3, .int (iI v3)), (4, .int (iI v4)), (5, .int (iI v5)), (6, .int (iI v6)), (7, .int (iI v7))] C dX11_trade_182 (by decide) rfl ?_
      refine j_iinc 8 [(7, .int (iI (v7 + 1))), (8, .int (iI (σ.2 13 (ix v8)))), (0, .ref (ad 0)), (1, .int (iI v1)), (2, .int (iI v2)), (3, .int (iI v3)), (4, .int (iI v4)), (5, .int (iI v5)), (6, .int (iI v6))] C dX11_trade_184 (by decide) rfl rfl ?_
      refine j_goto 161 C dX11_trade_187 (by decide) ?_
      exact j_sub [2, 3, 4, 5, 6, 7, 8, 0, 1] rfl (hk161 _ _ _ _ _ _ _ _ _ hf)
theorem tX11_trade_L161 {ad : Nat → Nat} {cI cZ : ClassId} {Γ : Cx} {r : Int} {σ' : St} (C : CX cI cZ rm_X11_trade 11 Γ cX11_trade RX11) (hq : RetI .int (wR ad cI cZ) Γ cX11_trade r σ') {k71 : Int → Int → Int → Int → St → Option (Int × St)} {k130 : Int → Int → Int → Int → Int → Int → St → Option (Int × St)} (hk71 : ∀ (v1 : Int) (v2 : Int) (v3 : Int) (v4 : Int) (σ : St), k71 v1 v2 v3 v4 σ = some (r, σ') → JJ (wR ad cI cZ) Γ σ 71 [(0, .ref (ad 0)), (1, .int (iI v1)), (2, .int (iI v2)), (3, .int (iI v3)), (4, .int (iI v4))] []) (hk130 : ∀ (v1 : Int) (v2 : Int) (v3 : Int) (v4 : Int) (v5 : Int) (v6 : Int) (σ : St), k130 v1 v2 v3 v4 v5 v6 σ = some (r, σ') → JJ (wR ad cI cZ) Γ σ 130 [(0, .ref (ad 0)), (1, .int (iI v1)), (2, .int (iI v2)), (3, .int (iI v3)), (4, .int (iI v4)), (5, .int (iI v5)), (6, .int (iI v6))] []) (n : Nat) : ∀ (v1 v2 v3 v4 v5 v6 v7 v8 : Int), ∀ (σ : St), fX11_trade_L161 k71 k130 n v1 v2 v3 v4 v5 v6 v7 v8 σ = some (r, σ') → JJ (wR ad cI cZ) Γ σ 161 [(0, .ref (ad 0)), (1, .int (iI v1)), (2, .int (iI v2)), (3, .int (iI v3)), (4, .int (iI v4)), (5, .int (iI v5)), (6, .int (iI v6)), (7, .int (iI v7)), (8, .int (iI v8))] [] := by
  induction n with
  | zero => intro _ _ _ _ _ _ _ _ _ hf; cases hf
  | succ n ih => intro v1 v2 v3 v4 v5 v6 v7 v8 σ hf; exact tX11_trade_B161 C hq hk71 hk130 ih v1 v2 v3 v4 v5 v6 v7 v8 σ hf
set_option maxRecDepth 20000 in
theorem tX11_trade_B130 {ad : Nat → Nat} {cI cZ : ClassId} {Γ : Cx} {r : Int} {σ' : St} (C : CX cI cZ rm_X11_trade 11 Γ cX11_trade RX11) (hq : RetI .int (wR ad cI cZ) Γ cX11_trade r σ') {k71 : Int → Int → Int → Int → St → Option (Int × St)} {k130 : Int → Int → Int → Int → Int → Int → St → Option (Int × St)} (hk71 : ∀ (v1 : Int) (v2 : Int) (v3 : Int) (v4 : Int) (σ : St), k71 v1 v2 v3 v4 σ = some (r, σ') → JJ (wR ad cI cZ) Γ σ 71 [(0, .ref (ad 0)), (1, .int (iI v1)), (2, .int (iI v2)), (3, .int (iI v3)), (4, .int (iI v4))] []) (hk130 : ∀ (v1 : Int) (v2 : Int) (v3 : Int) (v4 : Int) (v5 : Int) (v6 : Int) (σ : St), k130 v1 v2 v3 v4 v5 v6 σ = some (r, σ') → JJ (wR ad cI cZ) Γ σ 130 [(0, .ref (ad 0)), (1, .int (iI v1)), (2, .int (iI v2)), (3, .int (iI v3)), (4, .int (iI v4)), (5, .int (iI v5)), (6, .int (iI v6))] []) (v1 : Int) (v2 : Int) (v3 : Int) (v4 : Int) (v5 : Int) (v6 : Int) (σ : St) (hf : fX11_trade_B130 k71 k130 v1 v2 v3 v4 v5 v6 σ = some (r, σ')) : JJ (wR ad cI cZ) Γ σ 130 [(0, .ref (ad 0)), (1, .int (iI v1)), (2, .int (iI v2)), (3, .int (iI v3)), (4, .int (iI v4)), (5, .int (iI v5)), (6, .int (iI v6))] [] := by
  unfold fX11_trade_B130 at hf
  refine j_iload 6 C dX11_trade_130 rfl ?_
  refine j_aload_n 0 C dX11_trade_132 rfl ?_
  refine gR_0_5 C wt_839 dX11_trade_133 ?_
  refine j_icmp_ge 321 C rfl rfl dX11_trade_136 (by decide) (fun h => ?_) (fun h => ?_)
  · have hf := ifp h hf
    refine j_iload 5 C dX11_trade_321 rfl ?_
    refine j_istore_n [(1, .int (iI v5)), (0, .ref (ad 0)), (2, .int (iI v2)), (3, .int (iI v3)), (4, .int (iI v4)), (5, .int (iI v5)), (6, .int (iI v6))] C dX11_trade_323 (by decide) rfl ?_
    refine j_goto 71 C dX11_trade_324 (by decide) ?_
    exact j_sub [1, 0, 2, 3, 4] rfl (hk71 _ _ _ _ _ hf)
  · have hf := ifn h hf
    refine j_iload_n 1 C dX11_trade_139 rfl ?_
    refine j_iload 6 C dX11_trade_140 rfl ?_
    refine j_ishr C dX11_trade_142 ?_
    refine j_iconst C dX11_trade_143 ?_
    refine j_iand C dX11_trade_144 ?_
    refine j_iconst C dX11_trade_145 ?_
    refine j_icmp_ne 315 C rfl wl_1 dX11_trade_146 (by decide) (fun h => ?_) (fun h => ?_)
    · have hf := ifn h hf
      refine j_iinc 6 [(6, .int (iI (v6 + 1))), (0, .ref (ad 0)), (1, .int (iI v1)), (2, .int (iI v2)), (3, .int (iI v3)), (4, .int (iI v4)), (5, .int (iI v5))] C dX11_trade_315 (by decide) rfl rfl ?_
      refine j_goto 130 C dX11_trade_318 (by decide) ?_
      exact j_sub [1, 2, 3, 4, 5, 6, 0] rfl (hk130 _ _ _ _ _ _ _ hf)
    · have hf := ifp h hf
      refine j_iconst C dX11_trade_149 ?_
      refine j_istore [(7, .int (iI 1)), (0, .ref (ad 0)), (1, .int (iI v1)), (2, .int (iI v2)), (3, .int (iI v3)), (4, .int (iI v4)), (5, .int (iI v5)), (6, .int (iI v6))] C dX11_trade_150 (by decide) rfl ?_
      refine j_aload_n 1 C dX11_trade_152 rfl ?_
      refine gR_0_17 C wt_851 dX11_trade_153 ?_
      refine j_iload 7 C dX11_trade_156 rfl ?_
      obtain ⟨hI, hf⟩ := gI_s hf
      refine lR_13 C hI dX11_trade_158 ?_
      refine j_istore [(8, .int (iI (σ.2 13 (ix v6)))), (7, .int (iI 1)), (0, .ref (ad 0)), (1, .int (iI v1)), (2, .int (iI v2)), (3, .int (iI v3)), (4, .int (iI v4)), (5, .int (iI v5)), (6, .int (iI v6))] C dX11_trade_159 (by decide) rfl ?_
      exact j_sub [2, 3, 4, 5, 6, 7, 8, 1, 0] rfl (tX11_trade_L161 C hq hk71 hk130 1000 _ _ _ _ _ _ _ _ _ hf)
theorem tX11_trade_L130 {ad : Nat → Nat} {cI cZ : ClassId} {Γ : Cx} {r : Int} {σ' : St} (C : CX cI cZ rm_X11_trade 11 Γ cX11_trade RX11) (hq : RetI .int (wR ad cI cZ) Γ cX11_trade r σ') {k71 : Int → Int → Int → Int → St → Option (Int × St)} (hk71 : ∀ (v1 : Int) (v2 : Int) (v3 : Int) (v4 : Int) (σ : St), k71 v1 v2 v3 v4 σ = some (r, σ') → JJ (wR ad cI cZ) Γ σ 71 [(0, .ref (ad 0)), (1, .int (iI v1)), (2, .int (iI v2)), (3, .int (iI v3)), (4, .int (iI v4))] []) (n : Nat) : ∀ (v1 v2 v3 v4 v5 v6 : Int), ∀ (σ : St), fX11_trade_L130 k71 n v1 v2 v3 v4 v5 v6 σ = some (r, σ') → JJ (wR ad cI cZ) Γ σ 130 [(0, .ref (ad 0)), (1, .int (iI v1)), (2, .int (iI v2)), (3, .int (iI v3)), (4, .int (iI v4)), (5, .int (iI v5)), (6, .int (iI v6))] [] := by
  induction n with
  | zero => intro _ _ _ _ _ _ _ hf; cases hf
  | succ n ih => intro v1 v2 v3 v4 v5 v6 σ hf; exact tX11_trade_B130 C hq hk71 ih v1 v2 v3 v4 v5 v6 σ hf
set_option maxRecDepth 20000 in
theorem tX11_trade_B81 {ad : Nat → Nat} {cI cZ : ClassId} {Γ : Cx} {r : Int} {σ' : St} (C : CX cI cZ rm_X11_trade 11 Γ cX11_trade RX11) (hq : RetI .int (wR ad cI cZ) Γ cX11_trade r σ') {k71 : Int → Int → Int → Int → St → Option (Int × St)} {k81 : Int → Int → Int → Int → Int → St → Option (Int × St)} (hk71 : ∀ (v1 : Int) (v2 : Int) (v3 : Int) (v4 : Int) (σ : St), k71 v1 v2 v3 v4 σ = some (r, σ') → JJ (wR ad cI cZ) Γ σ 71 [(0, .ref (ad 0)), (1, .int (iI v1)), (2, .int (iI v2)), (3, .int (iI v3)), (4, .int (iI v4))] []) (hk81 : ∀ (v1 : Int) (v2 : Int) (v3 : Int) (v4 : Int) (v5 : Int) (σ : St), k81 v1 v2 v3 v4 v5 σ = some (r, σ') → JJ (wR ad cI cZ) Γ σ 81 [(0, .ref (ad 0)), (1, .int (iI v1)), (2, .int (iI v2)), (3, .int (iI v3)), (4, .int (iI v4)), (5, .int (iI v5))] []) (v1 : Int) (v2 : Int) (v3 : Int) (v4 : Int) (v5 : Int) (σ : St) (hf : fX11_trade_B81 k71 k81 v1 v2 v3 v4 v5 σ = some (r, σ')) : JJ (wR ad cI cZ) Γ σ 81 [(0, .ref (ad 0)), (1, .int (iI v1)), (2, .int (iI v2)), (3, .int (iI v3)), (4, .int (iI v4)), (5, .int (iI v5))] [] := by
  unfold fX11_trade_B81 at hf
  refine j_iload 5 C dX11_trade_81 rfl ?_
  refine j_aload_n 0 C dX11_trade_83 rfl ?_
  refine gR_0_5 C wt_839 dX11_trade_84 ?_
  refine j_icmp_ge 124 C rfl rfl dX11_trade_87 (by decide) (fun h => ?_) (fun h => ?_)
  · have hf := ifp h hf
    refine j_iload_n 1 C dX11_trade_124 rfl ?_
    refine j_istore [(5, .int (iI v1)), (0, .ref (ad 0)), (1, .int (iI v1)), (2, .int (iI v2)), (3, .int (iI v3)), (4, .int (iI v4))] C dX11_trade_125 (by decide) rfl ?_
    refine j_iconst C dX11_trade_127 ?_
    refine j_istore [(6, .int (iI 0)), (5, .int (iI v1)), (0, .ref (ad 0)), (1, .int (iI v1)), (2, .int (iI v2)), (3, .int (iI v3)), (4, .int (iI v4))] C dX11_trade_128 (by decide) rfl ?_
    exact j_sub [2, 3, 4, 5, 6, 1, 0] rfl (tX11_trade_L130 C hq hk71 1000 _ _ _ _ _ _ _ hf)
  · have hf := ifn h hf
    refine j_aload_n 0 C dX11_trade_90 rfl ?_
    refine gR_0_17 C wt_851 dX11_trade_91 ?_
    refine j_iload 5 C dX11_trade_94 rfl ?_
    refine j_iload_n 1 C dX11_trade_96 rfl ?_
    refine j_iload 5 C dX11_trade_97 rfl ?_
    refine j_ishr C dX11_trade_99 ?_
    refine j_iconst C dX11_trade_100 ?_
    refine j_iand C dX11_trade_101 ?_
    refine j_iconst C dX11_trade_102 ?_
    refine j_icmp_ne 116 C rfl wl_1 dX11_trade_103 (by decide) (fun h => ?_) (fun h => ?_)
    · have hf := ifn h hf
      refine j_iconst C dX11_trade_116 ?_
      obtain ⟨hI, hf⟩ := gI_s hf
      refine tR_13 C hI dX11_trade_117 ?_
      refine j_iinc 5 [(5, .int (iI (v5 + 1))), (0, .ref (ad 0)), (1, .int (iI v1)), (2, .int (iI v2)), (3, .int (iI v3)), (4, .int (iI v4))] C dX11_trade_118 (by decide) rfl rfl ?_
      refine j_goto 81 C dX11_trade_121 (by decide) ?_
      exact j_sub [1, 2, 3, 4, 5, 0] rfl (hk81 _ _ _ _ _ _ hf)
    · have hf := ifp h hf
      refine j_aload_n 0 C dX11_trade_106 rfl ?_
      refine j_iload 5 C dX11_trade_107 rfl ?_
      refine j_iload_n 1 C dX11_trade_109 rfl ?_
      obtain ⟨a1, s1, hc, hf⟩ := bd_s hf
      refine j_cVi (q0 := 0) (ci := 11) (T := TX11) (N := 32) [.int (iI v5), .int (iI v1)] [.int (iI v5), .ref (ad 14)] C (c_X11_pointOf _ _ ad cI cZ _ _ _ _ _ hc) mf_X11_pointOf wt_1063 wt_1065 ws_41 rfl rfl rfl ⟨rfl, rfl, by decide, by decide⟩ rfl (Nat.le_of_ble_eq_true rfl) dX11_trade_110 ?_
      refine j_goto 117 C dX11_trade_113 (by decide) ?_
      obtain ⟨hI, hf⟩ := gI_s hf
      refine tR_13 C hI dX11_trade_117 ?_
      refine j_iinc 5 [(5, .int (iI (v5 + 1))), (0, .ref (ad 0)), (1, .int (iI v1)), (2, .int (iI v2)), (3, .int (iI v3)), (4, .int (iI v4))] C dX11_trade_118 (by decide) rfl rfl ?_
      refine j_goto 81 C dX11_trade_121 (by decide) ?_
      exact j_sub [1, 2, 3, 4, 5, 0] rfl (hk81 _ _ _ _ _ _ hf)
theorem tX11_trade_L81 {ad : Nat → Nat} {cI cZ : ClassId} {Γ : Cx} {r : Int} {σ' : St} (C : CX cI cZ rm_X11_trade 11 Γ cX11_trade RX11) (hq : RetI .int (wR ad cI cZ) Γ cX11_trade r σ') {k71 : Int → Int → Int → Int → St → Option (Int × St)} (hk71 : ∀ (v1 : Int) (v2 : Int) (v3 : Int) (v4 : Int) (σ : St), k71 v1 v2 v3 v4 σ = some (r, σ') → JJ (wR ad cI cZ) Γ σ 71 [(0, .ref (ad 0)), (1, .int (iI v1)), (2, .int (iI v2)), (3, .int (iI v3)), (4, .int (iI v4))] []) (n : Nat) : ∀ (v1 v2 v3 v4 v5 : Int), ∀ (σ : St), fX11_trade_L81 k71 n v1 v2 v3 v4 v5 σ = some (r, σ') → JJ (wR ad cI cZ) Γ σ 81 [(0, .ref (ad 0)), (1, .int (iI v1)), (2, .int (iI v2)), (3, .int (iI v3)), (4, .int (iI v4)), (5, .int (iI v5))] [] := by
  induction n with
  | zero => intro _ _ _ _ _ _ hf; cases hf
  | succ n ih => intro v1 v2 v3 v4 v5 σ hf; exact tX11_trade_B81 C hq hk71 ih v1 v2 v3 v4 v5 σ hf
set_option maxRecDepth 20000 in
theorem tX11_trade_B71 {ad : Nat → Nat} {cI cZ : ClassId} {Γ : Cx} {r : Int} {σ' : St} (C : CX cI cZ rm_X11_trade 11 Γ cX11_trade RX11) (hq : RetI .int (wR ad cI cZ) Γ cX11_trade r σ') {k71 : Int → Int → Int → Int → St → Option (Int × St)} (hk71 : ∀ (v1 : Int) (v2 : Int) (v3 : Int) (v4 : Int) (σ : St), k71 v1 v2 v3 v4 σ = some (r, σ') → JJ (wR ad cI cZ) Γ σ 71 [(0, .ref (ad 0)), (1, .int (iI v1)), (2, .int (iI v2)), (3, .int (iI v3)), (4, .int (iI v4))] []) (v1 : Int) (v2 : Int) (v3 : Int) (v4 : Int) (σ : St) (hf : fX11_trade_B71 k71 v1 v2 v3 v4 σ = some (r, σ')) : JJ (wR ad cI cZ) Γ σ 71 [(0, .ref (ad 0)), (1, .int (iI v1)), (2, .int (iI v2)), (3, .int (iI v3)), (4, .int (iI v4))] [] := by
  unfold fX11_trade_B71 at hf
  refine j_iload_n 1 C dX11_trade_71 rfl ?_
  refine j_if_eq 327 C rfl dX11_trade_72 (by decide) (fun h => ?_) (fun h => ?_)
  · have hf := ifp h hf
    refine j_iconst C dX11_trade_327 ?_
    refine j_istore [(5, .int (iI 0)), (0, .ref (ad 0)), (1, .int (iI v1)), (2, .int (iI v2)), (3, .int (iI v3)), (4, .int (iI v4))] C dX11_trade_328 (by decide) rfl ?_
    refine j_iconst C dX11_trade_330 ?_
    refine j_istore [(6, .int (iI 0)), (5, .int (iI 0)), (0, .ref (ad 0)), (1, .int (iI v1)), (2, .int (iI v2)), (3, .int (iI v3)), (4, .int (iI v4))] C dX11_trade_331 (by decide) rfl ?_
    exact j_sub [2, 4, 5, 6, 1, 0] rfl (tX11_trade_L333 C hq 1000 _ _ _ _ _ _ hf)
  · have hf := ifn h hf
    refine j_iinc 4 [(4, .int (iI (v4 + 1))), (0, .ref (ad 0)), (1, .int (iI v1)), (2, .int (iI v2)), (3, .int (iI v3))] C dX11_trade_75 (by decide) rfl rfl ?_
    refine j_iconst C dX11_trade_78 ?_
    refine j_istore [(5, .int (iI 0)), (4, .int (iI (v4 + 1))), (0, .ref (ad 0)), (1, .int (iI v1)), (2, .int (iI v2)), (3, .int (iI v3))] C dX11_trade_79 (by decide) rfl ?_
    exact j_sub [2, 3, 4, 5, 1, 0] rfl (tX11_trade_L81 C hq hk71 1000 _ _ _ _ _ _ hf)
theorem tX11_trade_L71 {ad : Nat → Nat} {cI cZ : ClassId} {Γ : Cx} {r : Int} {σ' : St} (C : CX cI cZ rm_X11_trade 11 Γ cX11_trade RX11) (hq : RetI .int (wR ad cI cZ) Γ cX11_trade r σ') (n : Nat) : ∀ (v1 v2 v3 v4 : Int), ∀ (σ : St), fX11_trade_L71 n v1 v2 v3 v4 σ = some (r, σ') → JJ (wR ad cI cZ) Γ σ 71 [(0, .ref (ad 0)), (1, .int (iI v1)), (2, .int (iI v2)), (3, .int (iI v3)), (4, .int (iI v4))] [] := by
  induction n with
  | zero => intro _ _ _ _ _ hf; cases hf
  | succ n ih => intro v1 v2 v3 v4 σ hf; exact tX11_trade_B71 C hq ih v1 v2 v3 v4 σ hf
set_option maxRecDepth 20000 in
theorem tX11_trade_B4 {ad : Nat → Nat} {cI cZ : ClassId} {Γ : Cx} {r : Int} {σ' : St} (C : CX cI cZ rm_X11_trade 11 Γ cX11_trade RX11) (hq : RetI .int (wR ad cI cZ) Γ cX11_trade r σ') {k4 : Int → Int → St → Option (Int × St)} (hk4 : ∀ (v1 : Int) (v2 : Int) (σ : St), k4 v1 v2 σ = some (r, σ') → JJ (wR ad cI cZ) Γ σ 4 [(0, .ref (ad 0)), (1, .int (iI v1)), (2, .int (iI v2))] []) (v1 : Int) (v2 : Int) (σ : St) (hf : fX11_trade_B4 k4 v1 v2 σ = some (r, σ')) : JJ (wR ad cI cZ) Γ σ 4 [(0, .ref (ad 0)), (1, .int (iI v1)), (2, .int (iI v2))] [] := by
  unfold fX11_trade_B4 at hf
  refine j_iload_n 2 C dX11_trade_4 rfl ?_
  refine j_aload_n 0 C dX11_trade_5 rfl ?_
  refine gR_0_5 C wt_839 dX11_trade_6 ?_
  refine j_icmp_ge 64 C rfl rfl dX11_trade_9 (by decide) (fun h => ?_) (fun h => ?_)
  · have hf := ifp h hf
    refine j_iconst C dX11_trade_64 ?_
    refine j_istore_n [(2, .int (iI 0)), (0, .ref (ad 0)), (1, .int (iI v1))] C dX11_trade_65 (by decide) rfl ?_
    refine j_iconst C dX11_trade_66 ?_
    refine j_istore_n [(3, .int (iI 0)), (2, .int (iI 0)), (0, .ref (ad 0)), (1, .int (iI v1))] C dX11_trade_67 (by decide) rfl ?_
    refine j_iconst C dX11_trade_68 ?_
    refine j_istore [(4, .int (iI 0)), (3, .int (iI 0)), (2, .int (iI 0)), (0, .ref (ad 0)), (1, .int (iI v1))] C dX11_trade_69 (by decide) rfl ?_
    exact j_sub [3, 4, 2, 1, 0] rfl (tX11_trade_L71 C hq 1000 _ _ _ _ _ hf)
  · have hf := ifn h hf
    refine j_aload_n 0 C dX11_trade_12 rfl ?_
    refine gR_0_18 C wt_852 dX11_trade_13 ?_
    refine j_iload_n 2 C dX11_trade_16 rfl ?_
    refine j_aload_n 0 C dX11_trade_17 rfl ?_
    refine gR_0_10 C wt_844 dX11_trade_18 ?_
    refine j_iload_n 2 C dX11_trade_21 rfl ?_
    obtain ⟨hI, hf⟩ := gI_s hf
    refine lR_7 C hI dX11_trade_22 ?_
    obtain ⟨hI, hf⟩ := gI_s hf
    refine tR_14 C hI dX11_trade_23 ?_
    refine j_iload_n 1 C dX11_trade_24 rfl ?_
    refine j_aload_n 0 C dX11_trade_25 rfl ?_
    refine gR_0_10 C wt_844 dX11_trade_26 ?_
    refine j_iload_n 2 C dX11_trade_29 rfl ?_
    obtain ⟨hI, hf⟩ := gI_s hf
    refine lR_7 C hI dX11_trade_30 ?_
    refine j_iconst C dX11_trade_31 ?_
    refine j_icmp_eq 55 C rfl wl_m1 dX11_trade_32 (by decide) (fun h => ?_) (fun h => ?_)
    · have hf := ifp h hf
      refine j_iconst C dX11_trade_55 ?_
      refine j_ior C dX11_trade_56 ?_
      refine j_istore_n [(1, .int (iI (bOr v1 0))), (0, .ref (ad 0)), (2, .int (iI v2))] C dX11_trade_57 (by decide) rfl ?_
      refine j_iinc 2 [(2, .int (iI (v2 + 1))), (1, .int (iI (bOr v1 0))), (0, .ref (ad 0))] C dX11_trade_58 (by decide) rfl rfl ?_
      refine j_goto 4 C dX11_trade_61 (by decide) ?_
      exact j_sub [2, 1, 0] rfl (hk4 _ _ _ hf)
    · have hf := ifn h hf
      refine j_aload_n 0 C dX11_trade_35 rfl ?_
      refine j_iload_n 2 C dX11_trade_36 rfl ?_
      refine j_aload_n 0 C dX11_trade_37 rfl ?_
      refine gR_0_10 C wt_844 dX11_trade_38 ?_
      refine j_iload_n 2 C dX11_trade_41 rfl ?_
      obtain ⟨hI, hf⟩ := gI_s hf
      refine lR_7 C hI dX11_trade_42 ?_
      obtain ⟨a2, s2, hc, hf⟩ := bd_s hf
      refine j_cVi (q0 := 0) (ci := 11) (T := TX11) (N := 32) [.int (iI v2), .int (iI ((sA σ 14 (ix v2) (σ.2 7 (ix v2))).2 7 (ix v2)))] [.int (iI v1)] C (c_X11_mayLive _ _ ad cI cZ _ _ _ _ _ hc) mf_X11_mayLive wt_984 wt_986 ws_35 rfl rfl rfl ⟨rfl, rfl, by decide, by decide⟩ rfl (Nat.le_of_ble_eq_true rfl) dX11_trade_43 ?_
      refine j_if_eq 55 C rfl dX11_trade_46 (by decide) (fun h => ?_) (fun h => ?_)
      · have hf := ifp h hf
        refine j_iconst C dX11_trade_55 ?_
        refine j_ior C dX11_trade_56 ?_
        refine j_istore_n [(1, .int (iI (bOr v1 0))), (0, .ref (ad 0)), (2, .int (iI v2))] C dX11_trade_57 (by decide) rfl ?_
        refine j_iinc 2 [(2, .int (iI (v2 + 1))), (1, .int (iI (bOr v1 0))), (0, .ref (ad 0))] C dX11_trade_58 (by decide) rfl rfl ?_
        refine j_goto 4 C dX11_trade_61 (by decide) ?_
        exact j_sub [2, 1, 0] rfl (hk4 _ _ _ hf)
      · have hf := ifn h hf
        refine j_iconst C dX11_trade_49 ?_
        refine j_iload_n 2 C dX11_trade_50 rfl ?_
        refine j_ishl C dX11_trade_51 ?_
        refine j_goto 56 C dX11_trade_52 (by decide) ?_
        refine j_ior C dX11_trade_56 ?_
        refine j_istore_n [(1, .int (iI (bOr v1 (bShl 1 v2)))), (0, .ref (ad 0)), (2, .int (iI v2))] C dX11_trade_57 (by decide) rfl ?_
        refine j_iinc 2 [(2, .int (iI (v2 + 1))), (1, .int (iI (bOr v1 (bShl 1 v2)))), (0, .ref (ad 0))] C dX11_trade_58 (by decide) rfl rfl ?_
        refine j_goto 4 C dX11_trade_61 (by decide) ?_
        exact j_sub [2, 1, 0] rfl (hk4 _ _ _ hf)
theorem tX11_trade_L4 {ad : Nat → Nat} {cI cZ : ClassId} {Γ : Cx} {r : Int} {σ' : St} (C : CX cI cZ rm_X11_trade 11 Γ cX11_trade RX11) (hq : RetI .int (wR ad cI cZ) Γ cX11_trade r σ') (n : Nat) : ∀ (v1 v2 : Int), ∀ (σ : St), fX11_trade_L4 n v1 v2 σ = some (r, σ') → JJ (wR ad cI cZ) Γ σ 4 [(0, .ref (ad 0)), (1, .int (iI v1)), (2, .int (iI v2))] [] := by
  induction n with
  | zero => intro _ _ _ hf; cases hf
  | succ n ih => intro v1 v2 σ hf; exact tX11_trade_B4 C hq ih v1 v2 σ hf
set_option maxRecDepth 20000 in
theorem tX11_trade_L0 {ad : Nat → Nat} {cI cZ : ClassId} {Γ : Cx} {r : Int} {σ' : St} (C : CX cI cZ rm_X11_trade 11 Γ cX11_trade RX11) (hq : RetI .int (wR ad cI cZ) Γ cX11_trade r σ') (σ : St) (hf : fX11_trade_L0 σ = some (r, σ')) : JJ (wR ad cI cZ) Γ σ 0 [(0, .ref (ad 0))] [] := by
  unfold fX11_trade_L0 at hf
  refine j_iconst C dX11_trade_0 ?_
  refine j_istore_n [(1, .int (iI 0)), (0, .ref (ad 0))] C dX11_trade_1 (by decide) rfl ?_
  refine j_iconst C dX11_trade_2 ?_
  refine j_istore_n [(2, .int (iI 0)), (1, .int (iI 0)), (0, .ref (ad 0))] C dX11_trade_3 (by decide) rfl ?_
  exact j_sub [2, 1, 0] rfl (tX11_trade_L4 C hq 1000 _ _ _ hf)
theorem c_X11_trade (l : Launch) (D : va_G) (ad : Nat → Nat) (cI cZ : ClassId) (σ : St) (r : Int) (σ' : St) (hf : fX11_trade σ = some (r, σ')) : McI l yX11_trade cX11_trade 11 .int rm_X11_trade D (tyL cI cZ) (wR ad cI cZ) [.ref (ad 0)] σ r σ' := McI.mk mf_X11_trade.2.2.2.2.2 (Nat.le_of_ble_eq_true rfl) (fun Γ C hq => j_sub [0] rfl (tX11_trade_L0 C hq  σ hf))
/-! TermLodgingsModel.traded(I)I -/
def rm_X11_traded : Room := { frames := 1, cells := 0, slots := 0, locals := 25 }
set_option maxRecDepth 20000 in
theorem tX11_traded_L0 {ad : Nat → Nat} {cI cZ : ClassId} {Γ : Cx} {r : Int} {σ' : St} (C : CX cI cZ rm_X11_traded 2 Γ cX11_traded RX11) (hq : RetI .int (wR ad cI cZ) Γ cX11_traded r σ') (v1 : Int) (σ : St) (hf : fX11_traded_L0 v1 σ = some (r, σ')) : JJ (wR ad cI cZ) Γ σ 0 [(0, .ref (ad 0)), (1, .int (iI v1))] [] := by
  unfold fX11_traded_L0 at hf
  refine j_iload_n 1 C dX11_traded_0 rfl ?_
  refine j_i2l C rfl dX11_traded_1 ?_
  refine j_lconst 0 C dX11_traded_2 (by decide +kernel) ?_
  refine j_ldc2 (n := 2) C wt_1071 (by decide +kernel) dX11_traded_3 ?_
  obtain ⟨a1, s1, hc, hf⟩ := bd_s hf
  refine j_cSi [.long (iL (w32 v1)), .long (iL 0), .long (iL 2)] [] C (c_X11_in _ _ ad cI cZ _ _ _ _ _ _ hc) mf_X11_in wt_936 wt_937 rfl ⟨rfl, rfl, by decide, by decide⟩ rfl (Nat.le_of_ble_eq_true rfl) dX11_traded_6 ?_
  refine j_if_eq 21 C rfl dX11_traded_9 (by decide) (fun h => ?_) (fun h => ?_)
  · have hf := ifp h hf
    refine j_bipush C dX11_traded_21 bp_m2 ?_
    exact retI hq hf dX11_traded_23
  · have hf := ifn h hf
    refine j_aload_n 0 C dX11_traded_12 rfl ?_
    refine gR_0_16 C wt_850 dX11_traded_13 ?_
    refine j_iload_n 1 C dX11_traded_16 rfl ?_
    obtain ⟨hI, hf⟩ := gI_s hf
    refine lR_12 C hI dX11_traded_17 ?_
    refine j_goto 23 C dX11_traded_18 (by decide) ?_
    exact retI hq hf dX11_traded_23
theorem c_X11_traded (l : Launch) (D : va_G) (ad : Nat → Nat) (cI cZ : ClassId) (σ : St) (v1 : Int) (r : Int) (σ' : St) (hf : fX11_traded σ v1 = some (r, σ')) : McI l yX11_traded cX11_traded 2 .int rm_X11_traded D (tyL cI cZ) (wR ad cI cZ) [.ref (ad 0), .int (iI v1)] σ r σ' := McI.mk mf_X11_traded.2.2.2.2.2 (Nat.le_of_ble_eq_true rfl) (fun Γ C hq => j_sub [0, 1] rfl (tX11_traded_L0 C hq v1 σ hf))
/-! TermLodgingsModel.lays(I)Z -/
def rm_X11_lays : Room := { frames := 0, cells := 0, slots := 0, locals := 0 }
set_option maxRecDepth 20000 in
theorem tX11_lays_B113 {ad : Nat → Nat} {cI cZ : ClassId} {Γ : Cx} {r : Int} {σ' : St} (C : CX cI cZ rm_X11_lays 11 Γ cX11_lays RX11) (hq : RetI .boolean (wR ad cI cZ) Γ cX11_lays r σ') {k101 : Int → Int → Int → St → Option (Int × St)} {k113 : Int → Int → Int → Int → Int → St → Option (Int × St)} (hk101 : ∀ (v1 : Int) (v7 : Int) (v8 : Int) (σ : St), k101 v1 v7 v8 σ = some (r, σ') → JJ (wR ad cI cZ) Γ σ 101 [(0, .ref (ad 0)), (1, .int (iI v1)), (7, .int (iI v7)), (8, .int (iI v8))] []) (hk113 : ∀ (v1 : Int) (v7 : Int) (v8 : Int) (v9 : Int) (v10 : Int) (σ : St), k113 v1 v7 v8 v9 v10 σ = some (r, σ') → JJ (wR ad cI cZ) Γ σ 113 [(0, .ref (ad 0)), (1, .int (iI v1)), (7, .int (iI v7)), (8, .int (iI v8)), (9, .int (iI v9)), (10, .int (iI v10))] []) (v1 : Int) (v7 : Int) (v8 : Int) (v9 : Int) (v10 : Int) (σ : St) (hf : fX11_lays_B113 k101 k113 v1 v7 v8 v9 v10 σ = some (r, σ')) : JJ (wR ad cI cZ) Γ σ 113 [(0, .ref (ad 0)), (1, .int (iI v1)), (7, .int (iI v7)), (8, .int (iI v8)), (9, .int (iI v9)), (10, .int (iI v10))] [] := by
  unfold fX11_lays_B113 at hf
  refine j_iload 5 C dX11_lays_113 rfl ?_
  refine j_aload_n 0 C dX11_lays_115 rfl ?_
  refine gR_0_0 C wt_834 dX11_lays_116 ?_
  refine j_icmp_ge 149 C rfl rfl dX11_lays_119 (by decide) (fun h => ?_) (fun h => ?_)
  · have hf := ifp h hf
    refine j_aload_n 0 C dX11_lays_149 rfl ?_
    refine gR_0_22 C wt_856 dX11_lays_150 ?_
    refine j_iload 2 C dX11_lays_153 rfl ?_
    refine j_iload 3 C dX11_lays_155 rfl ?_
    obtain ⟨hI, hf⟩ := gI_s hf
    refine tR_17 C hI dX11_lays_157 ?_
    refine j_iload 4 C dX11_lays_158 rfl ?_
    refine j_istore [(7, .int (iI v9)), (0, .ref (ad 0)), (1, .int (iI v1)), (8, .int (iI v8)), (9, .int (iI v9)), (10, .int (iI v10))] C dX11_lays_160 (by decide) rfl ?_
    refine j_aload_n 1 C dX11_lays_162 rfl ?_
    refine gR_0_24 C wt_858 dX11_lays_163 ?_
    refine j_iload 0 C dX11_lays_166 rfl ?_
    obtain ⟨hI, hf⟩ := gI_s hf
    refine lR_19 C hI dX11_lays_168 ?_
    refine j_istore [(8, .int (iI ((sA σ 17 (ix v7) v8).2 19 (ix v9)))), (7, .int (iI v9)), (0, .ref (ad 0)), (1, .int (iI v1)), (9, .int (iI v9)), (10, .int (iI v10))] C dX11_lays_169 (by decide) rfl ?_
    refine j_goto 101 C dX11_lays_171 (by decide) ?_
    exact j_sub [2, 3, 1, 0] rfl (hk101 _ _ _ _ hf)
  · have hf := ifn h hf
    refine j_aload_n 0 C dX11_lays_122 rfl ?_
    refine gR_0_22 C wt_856 dX11_lays_123 ?_
    refine j_iload 5 C dX11_lays_126 rfl ?_
    obtain ⟨hI, hf⟩ := gI_s hf
    refine lR_17 C hI dX11_lays_128 ?_
    refine j_iload 3 C dX11_lays_129 rfl ?_
    refine j_icmp_ne 139 C rfl rfl dX11_lays_131 (by decide) (fun h => ?_) (fun h => ?_)
    · have hf := ifn h hf
      refine j_iload 4 C dX11_lays_139 rfl ?_
      refine j_istore [(9, .int (iI v9)), (0, .ref (ad 0)), (1, .int (iI v1)), (7, .int (iI v7)), (8, .int (iI v8)), (10, .int (iI v10))] C dX11_lays_141 (by decide) rfl ?_
      refine j_iinc 5 [(10, .int (iI (v10 + 1))), (9, .int (iI v9)), (0, .ref (ad 0)), (1, .int (iI v1)), (7, .int (iI v7)), (8, .int (iI v8))] C dX11_lays_143 (by decide) rfl rfl ?_
      refine j_goto 113 C dX11_lays_146 (by decide) ?_
      exact j_sub [2, 3, 4, 5, 1, 0] rfl (hk113 _ _ _ _ _ _ hf)
    · have hf := ifp h hf
      refine j_iload 5 C dX11_lays_134 rfl ?_
      refine j_goto 141 C dX11_lays_136 (by decide) ?_
      refine j_istore [(9, .int (iI v10)), (0, .ref (ad 0)), (1, .int (iI v1)), (7, .int (iI v7)), (8, .int (iI v8)), (10, .int (iI v10))] C dX11_lays_141 (by decide) rfl ?_
      refine j_iinc 5 [(10, .int (iI (v10 + 1))), (9, .int (iI v10)), (0, .ref (ad 0)), (1, .int (iI v1)), (7, .int (iI v7)), (8, .int (iI v8))] C dX11_lays_143 (by decide) rfl rfl ?_
      refine j_goto 113 C dX11_lays_146 (by decide) ?_
      exact j_sub [2, 3, 4, 5, 1, 0] rfl (hk113 _ _ _ _ _ _ hf)
theorem tX11_lays_L113 {ad : Nat → Nat} {cI cZ : ClassId} {Γ : Cx} {r : Int} {σ' : St} (C : CX cI cZ rm_X11_lays 11 Γ cX11_lays RX11) (hq : RetI .boolean (wR ad cI cZ) Γ cX11_lays r σ') {k101 : Int → Int → Int → St → Option (Int × St)} (hk101 : ∀ (v1 : Int) (v7 : Int) (v8 : Int) (σ : St), k101 v1 v7 v8 σ = some (r, σ') → JJ (wR ad cI cZ) Γ σ 101 [(0, .ref (ad 0)), (1, .int (iI v1)), (7, .int (iI v7)), (8, .int (iI v8))] []) (n : Nat) : ∀ (v1 v7 v8 v9 v10 : Int), ∀ (σ : St), fX11_lays_L113 k101 n v1 v7 v8 v9 v10 σ = some (r, σ') → JJ (wR ad cI cZ) Γ σ 113 [(0, .ref (ad 0)), (1, .int (iI v1)), (7, .int (iI v7)), (8, .int (iI v8)), (9, .int (iI v9)), (10, .int (iI v10))] [] := by
  induction n with
  | zero => intro _ _ _ _ _ _ hf; cases hf
  | succ n ih => intro v1 v7 v8 v9 v10 σ hf; exact tX11_lays_B113 C hq hk101 ih v1 v7 v8 v9 v10 σ hf
set_option maxRecDepth 20000 in
theorem tX11_lays_B101 {ad : Nat → Nat} {cI cZ : ClassId} {Γ : Cx} {r : Int} {σ' : St} (C : CX cI cZ rm_X11_lays 11 Γ cX11_lays RX11) (hq : RetI .boolean (wR ad cI cZ) Γ cX11_lays r σ') {k101 : Int → Int → Int → St → Option (Int × St)} (hk101 : ∀ (v1 : Int) (v7 : Int) (v8 : Int) (σ : St), k101 v1 v7 v8 σ = some (r, σ') → JJ (wR ad cI cZ) Γ σ 101 [(0, .ref (ad 0)), (1, .int (iI v1)), (7, .int (iI v7)), (8, .int (iI v8))] []) (v1 : Int) (v7 : Int) (v8 : Int) (σ : St) (hf : fX11_lays_B101 k101 v1 v7 v8 σ = some (r, σ')) : JJ (wR ad cI cZ) Γ σ 101 [(0, .ref (ad 0)), (1, .int (iI v1)), (7, .int (iI v7)), (8, .int (iI v8))] [] := by
  unfold fX11_lays_B101 at hf
  refine j_iload 3 C dX11_lays_101 rfl ?_
  refine j_iload_n 1 C dX11_lays_103 rfl ?_
  refine j_icmp_eq 174 C rfl rfl dX11_lays_104 (by decide) (fun h => ?_) (fun h => ?_)
  · have hf := ifp h hf
    refine j_aload_n 0 C dX11_lays_174 rfl ?_
    refine gR_0_22 C wt_856 dX11_lays_175 ?_
    refine j_iload 2 C dX11_lays_178 rfl ?_
    refine j_iload_n 1 C dX11_lays_180 rfl ?_
    obtain ⟨hI, hf⟩ := gI_s hf
    refine tR_17 C hI dX11_lays_181 ?_
    refine j_iconst C dX11_lays_182 ?_
    exact retZc hq isB_1 hf dX11_lays_183
  · have hf := ifn h hf
    refine j_iconst C dX11_lays_107 ?_
    refine j_istore [(9, .int (iI (-1))), (0, .ref (ad 0)), (1, .int (iI v1)), (7, .int (iI v7)), (8, .int (iI v8))] C dX11_lays_108 (by decide) rfl ?_
    refine j_iconst C dX11_lays_110 ?_
    refine j_istore [(10, .int (iI 0)), (9, .int (iI (-1))), (0, .ref (ad 0)), (1, .int (iI v1)), (7, .int (iI v7)), (8, .int (iI v8))] C dX11_lays_111 (by decide) rfl ?_
    exact j_sub [2, 3, 4, 5, 1, 0] rfl (tX11_lays_L113 C hq hk101 1000 _ _ _ _ _ _ hf)
theorem tX11_lays_L101 {ad : Nat → Nat} {cI cZ : ClassId} {Γ : Cx} {r : Int} {σ' : St} (C : CX cI cZ rm_X11_lays 11 Γ cX11_lays RX11) (hq : RetI .boolean (wR ad cI cZ) Γ cX11_lays r σ') (n : Nat) : ∀ (v1 v7 v8 : Int), ∀ (σ : St), fX11_lays_L101 n v1 v7 v8 σ = some (r, σ') → JJ (wR ad cI cZ) Γ σ 101 [(0, .ref (ad 0)), (1, .int (iI v1)), (7, .int (iI v7)), (8, .int (iI v8))] [] := by
  induction n with
  | zero => intro _ _ _ _ hf; cases hf
  | succ n ih => intro v1 v7 v8 σ hf; exact tX11_lays_B101 C hq ih v1 v7 v8 σ hf
set_option maxRecDepth 20000 in
theorem tX11_lays_B32 {ad : Nat → Nat} {cI cZ : ClassId} {Γ : Cx} {r : Int} {σ' : St} (C : CX cI cZ rm_X11_lays 11 Γ cX11_lays RX11) (hq : RetI .boolean (wR ad cI cZ) Γ cX11_lays r σ') {k14 : Int → Int → Int → Int → St → Option (Int × St)} {k32 : Int → Int → Int → Int → Int → Int → St → Option (Int × St)} (hk14 : ∀ (v1 : Int) (v2 : Int) (v3 : Int) (v4 : Int) (σ : St), k14 v1 v2 v3 v4 σ = some (r, σ') → JJ (wR ad cI cZ) Γ σ 14 [(0, .ref (ad 0)), (1, .int (iI v1)), (2, .int (iI v2)), (3, .int (iI v3)), (4, .int (iI v4))] []) (hk32 : ∀ (v1 : Int) (v2 : Int) (v3 : Int) (v4 : Int) (v5 : Int) (v6 : Int) (σ : St), k32 v1 v2 v3 v4 v5 v6 σ = some (r, σ') → JJ (wR ad cI cZ) Γ σ 32 [(0, .ref (ad 0)), (1, .int (iI v1)), (2, .int (iI v2)), (3, .int (iI v3)), (4, .int (iI v4)), (5, .int (iI v5)), (6, .int (iI v6))] []) (v1 : Int) (v2 : Int) (v3 : Int) (v4 : Int) (v5 : Int) (v6 : Int) (σ : St) (hf : fX11_lays_B32 k14 k32 v1 v2 v3 v4 v5 v6 σ = some (r, σ')) : JJ (wR ad cI cZ) Γ σ 32 [(0, .ref (ad 0)), (1, .int (iI v1)), (2, .int (iI v2)), (3, .int (iI v3)), (4, .int (iI v4)), (5, .int (iI v5)), (6, .int (iI v6))] [] := by
  unfold fX11_lays_B32 at hf
  refine j_iload 6 C dX11_lays_32 rfl ?_
  refine j_aload_n 0 C dX11_lays_34 rfl ?_
  refine gR_0_0 C wt_834 dX11_lays_35 ?_
  refine j_icmp_ge 206 C rfl rfl dX11_lays_38 (by decide) (fun h => ?_) (fun h => ?_)
  · have hf := ifp h hf
    refine j_iinc 4 [(4, .int (iI (v4 + 1))), (0, .ref (ad 0)), (1, .int (iI v1)), (2, .int (iI v2)), (3, .int (iI v3)), (5, .int (iI v5)), (6, .int (iI v6))] C dX11_lays_206 (by decide) rfl rfl ?_
    refine j_goto 14 C dX11_lays_209 (by decide) ?_
    exact j_sub [1, 2, 3, 4, 0] rfl (hk14 _ _ _ _ _ hf)
  · have hf := ifn h hf
    refine j_aload_n 0 C dX11_lays_41 rfl ?_
    refine gR_0_21 C wt_855 dX11_lays_42 ?_
    refine j_iload 5 C dX11_lays_45 rfl ?_
    obtain ⟨hI, hf⟩ := gI_s hf
    refine lR_16 C hI dX11_lays_47 ?_
    refine j_iload 6 C dX11_lays_48 rfl ?_
    refine j_ishr C dX11_lays_50 ?_
    refine j_iconst C dX11_lays_51 ?_
    refine j_iand C dX11_lays_52 ?_
    refine j_iconst C dX11_lays_53 ?_
    refine j_icmp_ne 200 C rfl wl_1 dX11_lays_54 (by decide) (fun h => ?_) (fun h => ?_)
    · have hf := ifn h hf
      refine j_iinc 6 [(6, .int (iI (v6 + 1))), (0, .ref (ad 0)), (1, .int (iI v1)), (2, .int (iI v2)), (3, .int (iI v3)), (4, .int (iI v4)), (5, .int (iI v5))] C dX11_lays_200 (by decide) rfl rfl ?_
      refine j_goto 32 C dX11_lays_203 (by decide) ?_
      exact j_sub [1, 2, 3, 4, 5, 6, 0] rfl (hk32 _ _ _ _ _ _ _ hf)
    · have hf := ifp h hf
      refine j_iload_n 2 C dX11_lays_57 rfl ?_
      refine j_iload 6 C dX11_lays_58 rfl ?_
      refine j_ishr C dX11_lays_60 ?_
      refine j_iconst C dX11_lays_61 ?_
      refine j_iand C dX11_lays_62 ?_
      refine j_if_ne 200 C rfl dX11_lays_63 (by decide) (fun h => ?_) (fun h => ?_)
      · have hf := ifn h hf
        refine j_iinc 6 [(6, .int (iI (v6 + 1))), (0, .ref (ad 0)), (1, .int (iI v1)), (2, .int (iI v2)), (3, .int (iI v3)), (4, .int (iI v4)), (5, .int (iI v5))] C dX11_lays_200 (by decide) rfl rfl ?_
        refine j_goto 32 C dX11_lays_203 (by decide) ?_
        exact j_sub [1, 2, 3, 4, 5, 6, 0] rfl (hk32 _ _ _ _ _ _ _ hf)
      · have hf := ifp h hf
        refine j_iload_n 2 C dX11_lays_66 rfl ?_
        refine j_iconst C dX11_lays_67 ?_
        refine j_iload 6 C dX11_lays_68 rfl ?_
        refine j_ishl C dX11_lays_70 ?_
        refine j_ior C dX11_lays_71 ?_
        refine j_istore_n [(2, .int (iI (bOr v2 (bShl 1 v6)))), (0, .ref (ad 0)), (1, .int (iI v1)), (3, .int (iI v3)), (4, .int (iI v4)), (5, .int (iI v5)), (6, .int (iI v6))] C dX11_lays_72 (by decide) rfl ?_
        refine j_aload_n 1 C dX11_lays_73 rfl ?_
        refine gR_0_24 C wt_858 dX11_lays_74 ?_
        refine j_iload 6 C dX11_lays_77 rfl ?_
        refine j_iload 5 C dX11_lays_79 rfl ?_
        obtain ⟨hI, hf⟩ := gI_s hf
        refine tR_19 C hI dX11_lays_81 ?_
        refine j_aload_n 1 C dX11_lays_82 rfl ?_
        refine gR_0_22 C wt_856 dX11_lays_83 ?_
        refine j_iload 6 C dX11_lays_86 rfl ?_
        obtain ⟨hI, hf⟩ := gI_s hf
        refine lR_17 C hI dX11_lays_88 ?_
        refine j_iconst C dX11_lays_89 ?_
        refine j_icmp_ne 184 C rfl wl_m1 dX11_lays_90 (by decide) (fun h => ?_) (fun h => ?_)
        · have hf := ifn h hf
          refine j_aload_n 1 C dX11_lays_184 rfl ?_
          refine gR_0_23 C wt_857 dX11_lays_185 ?_
          refine j_iload_n 3 C dX11_lays_188 rfl ?_
          refine j_aload_n 1 C dX11_lays_189 rfl ?_
          refine gR_0_22 C wt_856 dX11_lays_190 ?_
          refine j_iload 6 C dX11_lays_193 rfl ?_
          obtain ⟨hI, hf⟩ := gI_s hf
          refine lR_17 C hI dX11_lays_195 ?_
          obtain ⟨hI, hf⟩ := gI_s hf
          refine tR_18 C hI dX11_lays_196 ?_
          refine j_iinc 3 [(3, .int (iI (v3 + 1))), (2, .int (iI (bOr v2 (bShl 1 v6)))), (0, .ref (ad 0)), (1, .int (iI v1)), (4, .int (iI v4)), (5, .int (iI v5)), (6, .int (iI v6))] C dX11_lays_197 (by decide) rfl rfl ?_
          refine j_iinc 6 [(6, .int (iI (v6 + 1))), (3, .int (iI (v3 + 1))), (2, .int (iI (bOr v2 (bShl 1 v6)))), (0, .ref (ad 0)), (1, .int (iI v1)), (4, .int (iI v4)), (5, .int (iI v5))] C dX11_lays_200 (by decide) rfl rfl ?_
          refine j_goto 32 C dX11_lays_203 (by decide) ?_
          exact j_sub [3, 4, 2, 1, 5, 6, 0] rfl (hk32 _ _ _ _ _ _ _ hf)
        · have hf := ifp h hf
          refine j_iload 6 C dX11_lays_93 rfl ?_
          refine j_istore [(7, .int (iI v6)), (2, .int (iI (bOr v2 (bShl 1 v6)))), (0, .ref (ad 0)), (1, .int (iI v1)), (3, .int (iI v3)), (4, .int (iI v4)), (5, .int (iI v5)), (6, .int (iI v6))] C dX11_lays_95 (by decide) rfl ?_
          refine j_iload 6 C dX11_lays_97 rfl ?_
          refine j_istore [(8, .int (iI v5)), (7, .int (iI v6)), (2, .int (iI (bOr v2 (bShl 1 v6)))), (0, .ref (ad 0)), (1, .int (iI v1)), (3, .int (iI v3)), (4, .int (iI v4)), (5, .int (iI v5)), (6, .int (iI v6))] C dX11_lays_99 (by decide) rfl ?_
          exact j_sub [3, 4, 1, 0] rfl (tX11_lays_L101 C hq 1000 _ _ _ _ hf)
theorem tX11_lays_L32 {ad : Nat → Nat} {cI cZ : ClassId} {Γ : Cx} {r : Int} {σ' : St} (C : CX cI cZ rm_X11_lays 11 Γ cX11_lays RX11) (hq : RetI .boolean (wR ad cI cZ) Γ cX11_lays r σ') {k14 : Int → Int → Int → Int → St → Option (Int × St)} (hk14 : ∀ (v1 : Int) (v2 : Int) (v3 : Int) (v4 : Int) (σ : St), k14 v1 v2 v3 v4 σ = some (r, σ') → JJ (wR ad cI cZ) Γ σ 14 [(0, .ref (ad 0)), (1, .int (iI v1)), (2, .int (iI v2)), (3, .int (iI v3)), (4, .int (iI v4))] []) (n : Nat) : ∀ (v1 v2 v3 v4 v5 v6 : Int), ∀ (σ : St), fX11_lays_L32 k14 n v1 v2 v3 v4 v5 v6 σ = some (r, σ') → JJ (wR ad cI cZ) Γ σ 32 [(0, .ref (ad 0)), (1, .int (iI v1)), (2, .int (iI v2)), (3, .int (iI v3)), (4, .int (iI v4)), (5, .int (iI v5)), (6, .int (iI v6))] [] := by
  induction n with
  | zero => intro _ _ _ _ _ _ _ hf; cases hf
  | succ n ih => intro v1 v2 v3 v4 v5 v6 σ hf; exact tX11_lays_B32 C hq hk14 ih v1 v2 v3 v4 v5 v6 σ hf
set_option maxRecDepth 20000 in
theorem tX11_lays_B14 {ad : Nat → Nat} {cI cZ : ClassId} {Γ : Cx} {r : Int} {σ' : St} (C : CX cI cZ rm_X11_lays 11 Γ cX11_lays RX11) (hq : RetI .boolean (wR ad cI cZ) Γ cX11_lays r σ') {k14 : Int → Int → Int → Int → St → Option (Int × St)} (hk14 : ∀ (v1 : Int) (v2 : Int) (v3 : Int) (v4 : Int) (σ : St), k14 v1 v2 v3 v4 σ = some (r, σ') → JJ (wR ad cI cZ) Γ σ 14 [(0, .ref (ad 0)), (1, .int (iI v1)), (2, .int (iI v2)), (3, .int (iI v3)), (4, .int (iI v4))] []) (v1 : Int) (v2 : Int) (v3 : Int) (v4 : Int) (σ : St) (hf : fX11_lays_B14 k14 v1 v2 v3 v4 σ = some (r, σ')) : JJ (wR ad cI cZ) Γ σ 14 [(0, .ref (ad 0)), (1, .int (iI v1)), (2, .int (iI v2)), (3, .int (iI v3)), (4, .int (iI v4))] [] := by
  unfold fX11_lays_B14 at hf
  refine j_iload 4 C dX11_lays_14 rfl ?_
  refine j_iload_n 3 C dX11_lays_16 rfl ?_
  refine j_icmp_ge 212 C rfl rfl dX11_lays_17 (by decide) (fun h => ?_) (fun h => ?_)
  · have hf := ifp h hf
    refine j_iconst C dX11_lays_212 ?_
    exact retZc hq isB_0 hf dX11_lays_213
  · have hf := ifn h hf
    refine j_aload_n 0 C dX11_lays_20 rfl ?_
    refine gR_0_23 C wt_857 dX11_lays_21 ?_
    refine j_iload 4 C dX11_lays_24 rfl ?_
    obtain ⟨hI, hf⟩ := gI_s hf
    refine lR_18 C hI dX11_lays_26 ?_
    refine j_istore [(5, .int (iI (σ.2 18 (ix v4)))), (0, .ref (ad 0)), (1, .int (iI v1)), (2, .int (iI v2)), (3, .int (iI v3)), (4, .int (iI v4))] C dX11_lays_27 (by decide) rfl ?_
    refine j_iconst C dX11_lays_29 ?_
    refine j_istore [(6, .int (iI 0)), (5, .int (iI (σ.2 18 (ix v4)))), (0, .ref (ad 0)), (1, .int (iI v1)), (2, .int (iI v2)), (3, .int (iI v3)), (4, .int (iI v4))] C dX11_lays_30 (by decide) rfl ?_
    exact j_sub [2, 3, 4, 5, 6, 1, 0] rfl (tX11_lays_L32 C hq hk14 1000 _ _ _ _ _ _ _ hf)
theorem tX11_lays_L14 {ad : Nat → Nat} {cI cZ : ClassId} {Γ : Cx} {r : Int} {σ' : St} (C : CX cI cZ rm_X11_lays 11 Γ cX11_lays RX11) (hq : RetI .boolean (wR ad cI cZ) Γ cX11_lays r σ') (n : Nat) : ∀ (v1 v2 v3 v4 : Int), ∀ (σ : St), fX11_lays_L14 n v1 v2 v3 v4 σ = some (r, σ') → JJ (wR ad cI cZ) Γ σ 14 [(0, .ref (ad 0)), (1, .int (iI v1)), (2, .int (iI v2)), (3, .int (iI v3)), (4, .int (iI v4))] [] := by
  induction n with
  | zero => intro _ _ _ _ _ hf; cases hf
  | succ n ih => intro v1 v2 v3 v4 σ hf; exact tX11_lays_B14 C hq ih v1 v2 v3 v4 σ hf
set_option maxRecDepth 20000 in
theorem tX11_lays_L0 {ad : Nat → Nat} {cI cZ : ClassId} {Γ : Cx} {r : Int} {σ' : St} (C : CX cI cZ rm_X11_lays 11 Γ cX11_lays RX11) (hq : RetI .boolean (wR ad cI cZ) Γ cX11_lays r σ') (v1 : Int) (σ : St) (hf : fX11_lays_L0 v1 σ = some (r, σ')) : JJ (wR ad cI cZ) Γ σ 0 [(0, .ref (ad 0)), (1, .int (iI v1))] [] := by
  unfold fX11_lays_L0 at hf
  refine j_iconst C dX11_lays_0 ?_
  refine j_istore_n [(2, .int (iI 0)), (0, .ref (ad 0)), (1, .int (iI v1))] C dX11_lays_1 (by decide) rfl ?_
  refine j_iconst C dX11_lays_2 ?_
  refine j_istore_n [(3, .int (iI 1)), (2, .int (iI 0)), (0, .ref (ad 0)), (1, .int (iI v1))] C dX11_lays_3 (by decide) rfl ?_
  refine j_aload_n 2 C dX11_lays_4 rfl ?_
  refine gR_0_23 C wt_857 dX11_lays_5 ?_
  refine j_iconst C dX11_lays_8 ?_
  refine j_iload_n 3 C dX11_lays_9 rfl ?_
  obtain ⟨hI, hf⟩ := gI_s hf
  refine tR_18 C hI dX11_lays_10 ?_
  refine j_iconst C dX11_lays_11 ?_
  refine j_istore [(4, .int (iI 0)), (3, .int (iI 1)), (2, .int (iI 0)), (0, .ref (ad 0)), (1, .int (iI v1))] C dX11_lays_12 (by decide) rfl ?_
  exact j_sub [3, 4, 2, 1, 0] rfl (tX11_lays_L14 C hq 1000 _ _ _ _ _ hf)
theorem c_X11_lays (l : Launch) (D : va_G) (ad : Nat → Nat) (cI cZ : ClassId) (σ : St) (v1 : Int) (r : Int) (σ' : St) (hf : fX11_lays σ v1 = some (r, σ')) : McI l yX11_lays cX11_lays 11 .boolean rm_X11_lays D (tyL cI cZ) (wR ad cI cZ) [.ref (ad 0), .int (iI v1)] σ r σ' := McI.mk mf_X11_lays.2.2.2.2.2 (Nat.le_of_ble_eq_true rfl) (fun Γ C hq => j_sub [0, 1] rfl (tX11_lays_L0 C hq v1 σ hf))
/-! TermLodgingsModel.most(I)I -/
def rm_X11_most : Room := { frames := 1, cells := 0, slots := 0, locals := 30 }
set_option maxRecDepth 20000 in
theorem tX11_most_B27 {ad : Nat → Nat} {cI cZ : ClassId} {Γ : Cx} {r : Int} {σ' : St} (C : CX cI cZ rm_X11_most 4 Γ cX11_most RX11) (hq : RetI .int (wR ad cI cZ) Γ cX11_most r σ') {k27 : Int → Int → St → Option (Int × St)} (hk27 : ∀ (v2 : Int) (v3 : Int) (σ : St), k27 v2 v3 σ = some (r, σ') → JJ (wR ad cI cZ) Γ σ 27 [(0, .ref (ad 0)), (2, .int (iI v2)), (3, .int (iI v3))] []) (v2 : Int) (v3 : Int) (σ : St) (hf : fX11_most_B27 k27 v2 v3 σ = some (r, σ')) : JJ (wR ad cI cZ) Γ σ 27 [(0, .ref (ad 0)), (2, .int (iI v2)), (3, .int (iI v3))] [] := by
  unfold fX11_most_B27 at hf
  refine j_iload_n 2 C dX11_most_27 rfl ?_
  refine j_aload_n 0 C dX11_most_28 rfl ?_
  refine gR_0_19 C wt_853 dX11_most_29 ?_
  refine j_icmp_ge 57 C rfl rfl dX11_most_32 (by decide) (fun h => ?_) (fun h => ?_)
  · have hf := ifp h hf
    refine j_iload_n 1 C dX11_most_57 rfl ?_
    exact retI hq hf dX11_most_58
  · have hf := ifn h hf
    refine j_iload_n 1 C dX11_most_35 rfl ?_
    refine j_aload_n 0 C dX11_most_36 rfl ?_
    refine j_iload_n 2 C dX11_most_37 rfl ?_
    obtain ⟨a1, s1, hc, hf⟩ := bd_s hf
    refine j_cVi (q0 := 0) (ci := 11) (T := TX11) (N := 32) [.int (iI v3)] [.int (iI v2)] C (c_X11_lays _ _ ad cI cZ _ _ _ _ hc) mf_X11_lays wt_1080 wt_1082 ws_43 rfl rfl rfl ⟨rfl, rfl, by decide, by decide⟩ rfl (Nat.le_of_ble_eq_true rfl) dX11_most_38 ?_
    refine j_if_eq 48 C rfl dX11_most_41 (by decide) (fun h => ?_) (fun h => ?_)
    · have hf := ifp h hf
      refine j_iconst C dX11_most_48 ?_
      refine j_iadd C dX11_most_49 ?_
      refine j_istore_n [(2, .int (iI (v2 + 0))), (0, .ref (ad 0)), (3, .int (iI v3))] C dX11_most_50 (by decide) rfl ?_
      refine j_iinc 2 [(3, .int (iI (v3 + 1))), (2, .int (iI (v2 + 0))), (0, .ref (ad 0))] C dX11_most_51 (by decide) rfl rfl ?_
      refine j_goto 27 C dX11_most_54 (by decide) ?_
      exact j_sub [2, 1, 0] rfl (hk27 _ _ _ hf)
    · have hf := ifn h hf
      refine j_iconst C dX11_most_44 ?_
      refine j_goto 49 C dX11_most_45 (by decide) ?_
      refine j_iadd C dX11_most_49 ?_
      refine j_istore_n [(2, .int (iI (v2 + 1))), (0, .ref (ad 0)), (3, .int (iI v3))] C dX11_most_50 (by decide) rfl ?_
      refine j_iinc 2 [(3, .int (iI (v3 + 1))), (2, .int (iI (v2 + 1))), (0, .ref (ad 0))] C dX11_most_51 (by decide) rfl rfl ?_
      refine j_goto 27 C dX11_most_54 (by decide) ?_
      exact j_sub [2, 1, 0] rfl (hk27 _ _ _ hf)
theorem tX11_most_L27 {ad : Nat → Nat} {cI cZ : ClassId} {Γ : Cx} {r : Int} {σ' : St} (C : CX cI cZ rm_X11_most 4 Γ cX11_most RX11) (hq : RetI .int (wR ad cI cZ) Γ cX11_most r σ') (n : Nat) : ∀ (v2 v3 : Int), ∀ (σ : St), fX11_most_L27 n v2 v3 σ = some (r, σ') → JJ (wR ad cI cZ) Γ σ 27 [(0, .ref (ad 0)), (2, .int (iI v2)), (3, .int (iI v3))] [] := by
  induction n with
  | zero => intro _ _ _ hf; cases hf
  | succ n ih => intro v2 v3 σ hf; exact tX11_most_B27 C hq ih v2 v3 σ hf
set_option maxRecDepth 20000 in
theorem tX11_most_B2 {ad : Nat → Nat} {cI cZ : ClassId} {Γ : Cx} {r : Int} {σ' : St} (C : CX cI cZ rm_X11_most 4 Γ cX11_most RX11) (hq : RetI .int (wR ad cI cZ) Γ cX11_most r σ') {k2 : Int → Int → St → Option (Int × St)} (hk2 : ∀ (v1 : Int) (v2 : Int) (σ : St), k2 v1 v2 σ = some (r, σ') → JJ (wR ad cI cZ) Γ σ 2 [(0, .ref (ad 0)), (1, .int (iI v1)), (2, .int (iI v2))] []) (v1 : Int) (v2 : Int) (σ : St) (hf : fX11_most_B2 k2 v1 v2 σ = some (r, σ')) : JJ (wR ad cI cZ) Γ σ 2 [(0, .ref (ad 0)), (1, .int (iI v1)), (2, .int (iI v2))] [] := by
  unfold fX11_most_B2 at hf
  refine j_iload_n 2 C dX11_most_2 rfl ?_
  refine j_aload_n 0 C dX11_most_3 rfl ?_
  refine gR_0_0 C wt_834 dX11_most_4 ?_
  refine j_icmp_ge 23 C rfl rfl dX11_most_7 (by decide) (fun h => ?_) (fun h => ?_)
  · have hf := ifp h hf
    refine j_iconst C dX11_most_23 ?_
    refine j_istore_n [(2, .int (iI 0)), (0, .ref (ad 0)), (1, .int (iI v1))] C dX11_most_24 (by decide) rfl ?_
    refine j_iload_n 2 C dX11_most_25 rfl ?_
    refine j_istore_n [(3, .int (iI v1)), (2, .int (iI 0)), (0, .ref (ad 0)), (1, .int (iI v1))] C dX11_most_26 (by decide) rfl ?_
    exact j_sub [2, 1, 0] rfl (tX11_most_L27 C hq 1000 _ _ _ hf)
  · have hf := ifn h hf
    refine j_aload_n 0 C dX11_most_10 rfl ?_
    refine gR_0_22 C wt_856 dX11_most_11 ?_
    refine j_iload_n 2 C dX11_most_14 rfl ?_
    refine j_iconst C dX11_most_15 ?_
    obtain ⟨hI, hf⟩ := gI_s hf
    refine tR_17 C hI dX11_most_16 ?_
    refine j_iinc 2 [(2, .int (iI (v2 + 1))), (0, .ref (ad 0)), (1, .int (iI v1))] C dX11_most_17 (by decide) rfl rfl ?_
    refine j_goto 2 C dX11_most_20 (by decide) ?_
    exact j_sub [1, 2, 0] rfl (hk2 _ _ _ hf)
theorem tX11_most_L2 {ad : Nat → Nat} {cI cZ : ClassId} {Γ : Cx} {r : Int} {σ' : St} (C : CX cI cZ rm_X11_most 4 Γ cX11_most RX11) (hq : RetI .int (wR ad cI cZ) Γ cX11_most r σ') (n : Nat) : ∀ (v1 v2 : Int), ∀ (σ : St), fX11_most_L2 n v1 v2 σ = some (r, σ') → JJ (wR ad cI cZ) Γ σ 2 [(0, .ref (ad 0)), (1, .int (iI v1)), (2, .int (iI v2))] [] := by
  induction n with
  | zero => intro _ _ _ hf; cases hf
  | succ n ih => intro v1 v2 σ hf; exact tX11_most_B2 C hq ih v1 v2 σ hf
set_option maxRecDepth 20000 in
theorem tX11_most_L0 {ad : Nat → Nat} {cI cZ : ClassId} {Γ : Cx} {r : Int} {σ' : St} (C : CX cI cZ rm_X11_most 4 Γ cX11_most RX11) (hq : RetI .int (wR ad cI cZ) Γ cX11_most r σ') (v1 : Int) (σ : St) (hf : fX11_most_L0 v1 σ = some (r, σ')) : JJ (wR ad cI cZ) Γ σ 0 [(0, .ref (ad 0)), (1, .int (iI v1))] [] := by
  unfold fX11_most_L0 at hf
  refine j_iconst C dX11_most_0 ?_
  refine j_istore_n [(2, .int (iI 0)), (0, .ref (ad 0)), (1, .int (iI v1))] C dX11_most_1 (by decide) rfl ?_
  exact j_sub [1, 2, 0] rfl (tX11_most_L2 C hq 1000 _ _ _ hf)
theorem c_X11_most (l : Launch) (D : va_G) (ad : Nat → Nat) (cI cZ : ClassId) (σ : St) (v1 : Int) (r : Int) (σ' : St) (hf : fX11_most σ v1 = some (r, σ')) : McI l yX11_most cX11_most 4 .int rm_X11_most D (tyL cI cZ) (wR ad cI cZ) [.ref (ad 0), .int (iI v1)] σ r σ' := McI.mk mf_X11_most.2.2.2.2.2 (Nat.le_of_ble_eq_true rfl) (fun Γ C hq => j_sub [0, 1] rfl (tX11_most_L0 C hq v1 σ hf))
/-! TermLodgingsModel.take(II)V -/
def rm_X11_take : Room := { frames := 0, cells := 0, slots := 0, locals := 0 }
set_option maxRecDepth 20000 in
theorem tX11_take_B2 {ad : Nat → Nat} {cI cZ : ClassId} {Γ : Cx} {σ' : St} (C : CX cI cZ rm_X11_take 4 Γ cX11_take RX11) (hq : RetV (wR ad cI cZ) Γ cX11_take σ') {k2 : Int → Int → Int → St → Option St} (hk2 : ∀ (v1 : Int) (v2 : Int) (v3 : Int) (σ : St), k2 v1 v2 v3 σ = some σ' → JJ (wR ad cI cZ) Γ σ 2 [(0, .ref (ad 0)), (1, .int (iI v1)), (2, .int (iI v2)), (3, .int (iI v3))] []) (v1 : Int) (v2 : Int) (v3 : Int) (σ : St) (hf : fX11_take_B2 k2 v1 v2 v3 σ = some σ') : JJ (wR ad cI cZ) Γ σ 2 [(0, .ref (ad 0)), (1, .int (iI v1)), (2, .int (iI v2)), (3, .int (iI v3))] [] := by
  unfold fX11_take_B2 at hf
  refine j_iload_n 3 C dX11_take_2 rfl ?_
  refine j_aload_n 0 C dX11_take_3 rfl ?_
  refine gR_0_19 C wt_853 dX11_take_4 ?_
  refine j_icmp_ge 60 C rfl rfl dX11_take_7 (by decide) (fun h => ?_) (fun h => ?_)
  · have hf := ifp h hf
    exact retV hq hf dX11_take_60
  · have hf := ifn h hf
    refine j_aload_n 0 C dX11_take_10 rfl ?_
    refine gR_0_25 C wt_859 dX11_take_11 ?_
    refine j_iload_n 3 C dX11_take_14 rfl ?_
    refine j_aload_n 0 C dX11_take_15 rfl ?_
    refine gR_0_21 C wt_855 dX11_take_16 ?_
    refine j_iload_n 3 C dX11_take_19 rfl ?_
    obtain ⟨hI, hf⟩ := gI_s hf
    refine lR_16 C hI dX11_take_20 ?_
    obtain ⟨hI, hf⟩ := gI_s hf
    refine tR_20 C hI dX11_take_21 ?_
    refine j_aload_n 0 C dX11_take_22 rfl ?_
    refine gR_0_21 C wt_855 dX11_take_23 ?_
    refine j_iload_n 3 C dX11_take_26 rfl ?_
    refine j_iload_n 3 C dX11_take_27 rfl ?_
    refine j_iload_n 1 C dX11_take_28 rfl ?_
    refine j_icmp_le 47 C rfl rfl dX11_take_29 (by decide) (fun h => ?_) (fun h => ?_)
    · have hf := ifp h hf
      refine j_aload_n 0 C dX11_take_47 rfl ?_
      refine gR_0_21 C wt_855 dX11_take_48 ?_
      refine j_iload_n 3 C dX11_take_51 rfl ?_
      obtain ⟨hI, hf⟩ := gI_s hf
      refine lR_16 C hI dX11_take_52 ?_
      obtain ⟨hI, hf⟩ := gI_s hf
      refine tR_16 C hI dX11_take_53 ?_
      refine j_iinc 3 [(3, .int (iI (v3 + 1))), (0, .ref (ad 0)), (1, .int (iI v1)), (2, .int (iI v2))] C dX11_take_54 (by decide) rfl rfl ?_
      refine j_goto 2 C dX11_take_57 (by decide) ?_
      exact j_sub [1, 2, 3, 0] rfl (hk2 _ _ _ _ hf)
    · have hf := ifn h hf
      refine j_aload_n 0 C dX11_take_32 rfl ?_
      refine gR_0_21 C wt_855 dX11_take_33 ?_
      refine j_iload_n 3 C dX11_take_36 rfl ?_
      obtain ⟨hI, hf⟩ := gI_s hf
      refine lR_16 C hI dX11_take_37 ?_
      refine j_iconst C dX11_take_38 ?_
      refine j_iload_n 2 C dX11_take_39 rfl ?_
      refine j_ishl C dX11_take_40 ?_
      refine j_iconst C dX11_take_41 ?_
      refine j_ixor C dX11_take_42 ?_
      refine j_iand C dX11_take_43 ?_
      refine j_goto 53 C dX11_take_44 (by decide) ?_
      obtain ⟨hI, hf⟩ := gI_s hf
      refine tR_16 C hI dX11_take_53 ?_
      refine j_iinc 3 [(3, .int (iI (v3 + 1))), (0, .ref (ad 0)), (1, .int (iI v1)), (2, .int (iI v2))] C dX11_take_54 (by decide) rfl rfl ?_
      refine j_goto 2 C dX11_take_57 (by decide) ?_
      exact j_sub [1, 2, 3, 0] rfl (hk2 _ _ _ _ hf)
theorem tX11_take_L2 {ad : Nat → Nat} {cI cZ : ClassId} {Γ : Cx} {σ' : St} (C : CX cI cZ rm_X11_take 4 Γ cX11_take RX11) (hq : RetV (wR ad cI cZ) Γ cX11_take σ') (n : Nat) : ∀ (v1 v2 v3 : Int), ∀ (σ : St), fX11_take_L2 n v1 v2 v3 σ = some σ' → JJ (wR ad cI cZ) Γ σ 2 [(0, .ref (ad 0)), (1, .int (iI v1)), (2, .int (iI v2)), (3, .int (iI v3))] [] := by
  induction n with
  | zero => intro _ _ _ _ hf; cases hf
  | succ n ih => intro v1 v2 v3 σ hf; exact tX11_take_B2 C hq ih v1 v2 v3 σ hf
set_option maxRecDepth 20000 in
theorem tX11_take_L0 {ad : Nat → Nat} {cI cZ : ClassId} {Γ : Cx} {σ' : St} (C : CX cI cZ rm_X11_take 4 Γ cX11_take RX11) (hq : RetV (wR ad cI cZ) Γ cX11_take σ') (v1 : Int) (v2 : Int) (σ : St) (hf : fX11_take_L0 v1 v2 σ = some σ') : JJ (wR ad cI cZ) Γ σ 0 [(0, .ref (ad 0)), (1, .int (iI v1)), (2, .int (iI v2))] [] := by
  unfold fX11_take_L0 at hf
  refine j_iconst C dX11_take_0 ?_
  refine j_istore_n [(3, .int (iI 0)), (0, .ref (ad 0)), (1, .int (iI v1)), (2, .int (iI v2))] C dX11_take_1 (by decide) rfl ?_
  exact j_sub [1, 2, 3, 0] rfl (tX11_take_L2 C hq 1000 _ _ _ _ hf)
theorem c_X11_take (l : Launch) (D : va_G) (ad : Nat → Nat) (cI cZ : ClassId) (σ : St) (v1 : Int) (v2 : Int) (σ' : St) (hf : fX11_take σ v1 v2 = some σ') : McV l yX11_take cX11_take 4 rm_X11_take D (tyL cI cZ) (wR ad cI cZ) [.ref (ad 0), .int (iI v1), .int (iI v2)] σ σ' := McV.mk mf_X11_take.2.2.2.2.2 (Nat.le_of_ble_eq_true rfl) (fun Γ C hq => j_sub [0, 1, 2] rfl (tX11_take_L0 C hq v1 v2 σ hf))
/-! TermLodgingsModel.untake(I)V -/
def rm_X11_untake : Room := { frames := 0, cells := 0, slots := 0, locals := 0 }
set_option maxRecDepth 20000 in
theorem tX11_untake_B2 {ad : Nat → Nat} {cI cZ : ClassId} {Γ : Cx} {σ' : St} (C : CX cI cZ rm_X11_untake 3 Γ cX11_untake RX11) (hq : RetV (wR ad cI cZ) Γ cX11_untake σ') {k2 : Int → St → Option St} (hk2 : ∀ (v2 : Int) (σ : St), k2 v2 σ = some σ' → JJ (wR ad cI cZ) Γ σ 2 [(0, .ref (ad 0)), (2, .int (iI v2))] []) (v2 : Int) (σ : St) (hf : fX11_untake_B2 k2 v2 σ = some σ') : JJ (wR ad cI cZ) Γ σ 2 [(0, .ref (ad 0)), (2, .int (iI v2))] [] := by
  unfold fX11_untake_B2 at hf
  refine j_iload_n 1 C dX11_untake_2 rfl ?_
  refine j_aload_n 0 C dX11_untake_3 rfl ?_
  refine gR_0_19 C wt_853 dX11_untake_4 ?_
  refine j_icmp_ge 28 C rfl rfl dX11_untake_7 (by decide) (fun h => ?_) (fun h => ?_)
  · have hf := ifp h hf
    exact retV hq hf dX11_untake_28
  · have hf := ifn h hf
    refine j_aload_n 0 C dX11_untake_10 rfl ?_
    refine gR_0_21 C wt_855 dX11_untake_11 ?_
    refine j_iload_n 1 C dX11_untake_14 rfl ?_
    refine j_aload_n 0 C dX11_untake_15 rfl ?_
    refine gR_0_25 C wt_859 dX11_untake_16 ?_
    refine j_iload_n 1 C dX11_untake_19 rfl ?_
    obtain ⟨hI, hf⟩ := gI_s hf
    refine lR_20 C hI dX11_untake_20 ?_
    obtain ⟨hI, hf⟩ := gI_s hf
    refine tR_16 C hI dX11_untake_21 ?_
    refine j_iinc 1 [(2, .int (iI (v2 + 1))), (0, .ref (ad 0))] C dX11_untake_22 (by decide) rfl rfl ?_
    refine j_goto 2 C dX11_untake_25 (by decide) ?_
    exact j_sub [1, 0] rfl (hk2 _ _ hf)
theorem tX11_untake_L2 {ad : Nat → Nat} {cI cZ : ClassId} {Γ : Cx} {σ' : St} (C : CX cI cZ rm_X11_untake 3 Γ cX11_untake RX11) (hq : RetV (wR ad cI cZ) Γ cX11_untake σ') (n : Nat) : ∀ (v2 : Int), ∀ (σ : St), fX11_untake_L2 n v2 σ = some σ' → JJ (wR ad cI cZ) Γ σ 2 [(0, .ref (ad 0)), (2, .int (iI v2))] [] := by
  induction n with
  | zero => intro _ _ hf; cases hf
  | succ n ih => intro v2 σ hf; exact tX11_untake_B2 C hq ih v2 σ hf
set_option maxRecDepth 20000 in
theorem tX11_untake_L0 {ad : Nat → Nat} {cI cZ : ClassId} {Γ : Cx} {σ' : St} (C : CX cI cZ rm_X11_untake 3 Γ cX11_untake RX11) (hq : RetV (wR ad cI cZ) Γ cX11_untake σ') (σ : St) (hf : fX11_untake_L0 σ = some σ') : JJ (wR ad cI cZ) Γ σ 0 [(0, .ref (ad 0))] [] := by
  unfold fX11_untake_L0 at hf
  refine j_iconst C dX11_untake_0 ?_
  refine j_istore_n [(2, .int (iI 0)), (0, .ref (ad 0))] C dX11_untake_1 (by decide) rfl ?_
  exact j_sub [1, 0] rfl (tX11_untake_L2 C hq 1000 _ _ hf)
theorem c_X11_untake (l : Launch) (D : va_G) (ad : Nat → Nat) (cI cZ : ClassId) (σ : St) (v1 : Int) (σ' : St) (hf : fX11_untake σ v1 = some σ') : McV l yX11_untake cX11_untake 3 rm_X11_untake D (tyL cI cZ) (wR ad cI cZ) [.ref (ad 0), .int (iI v1)] σ σ' := McV.mk mf_X11_untake.2.2.2.2.2 (Nat.le_of_ble_eq_true rfl) (fun Γ C hq => j_sub [0] rfl (tX11_untake_L0 C hq  σ hf))
