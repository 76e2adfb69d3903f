/-! ===== walks of the reference (written by program) ===== -/
theorem w_X11_walk_b225 {X : xm_X} {d : Nat} (hC : xm_C X yX11_walk.cls cX11_walk 7 (d + 4 + 1) 0 0) (hQ : xm_Rt X 0 none 0 0) (hI : xx_I X = xm_I) {rec : xm_Mem → Int → Int → Int → Option xm_Out} (hrec : ∀ (σ : xm_Mem) (x1 : Int) (x2 : Int) (x3 : Int), xm_in x1 → xm_in x2 → xm_in x3 → ∀ o, rec σ x1 x2 x3 = some o → xm_M (xx_G X) (xx_I X) (xx_la X) yX11_walk cX11_walk 7 none (d + 4) 0 0 [.ref (xm_B (xx_G X) + 84), .int (xm_J x1), .int (xm_J x2), .int (xm_J x3)] σ 0 o) {K287 : xm_Mem → Int → Int → Int → Int → Option xm_Out} (hK287 : ∀ (σ : xm_Mem) (x1 : Int) (x2 : Int) (x3 : Int) (x5 : Int), xm_in x1 → xm_in x2 → xm_in x3 → 0 ≤ x5 ∧ x5 ≤ 1 → xm_V X 0 0 (K287 σ x1 x2 x3 x5) σ 287 [(0, .ref (xm_B (xx_G X) + 84)), (1, .int (xm_J x1)), (2, .int (xm_J x2)), (3, .int (xm_J x3)), (5, .int (xm_J x5))] []) {self : xm_Mem → Int → Int → Int → Int → Int → Option xm_Out} (hself : ∀ (σ : xm_Mem) (x1 : Int) (x2 : Int) (x3 : Int) (x5 : Int) (x6 : Int), xm_in x1 → xm_in x2 → xm_in x3 → 0 ≤ x5 ∧ x5 ≤ 1 → xm_in x6 → xm_V X 0 0 (self σ x1 x2 x3 x5 x6) σ 225 [(0, .ref (xm_B (xx_G X) + 84)), (1, .int (xm_J x1)), (2, .int (xm_J x2)), (3, .int (xm_J x3)), (5, .int (xm_J x5)), (6, .int (xm_J x6))] []) (σ : xm_Mem) (x1 : Int) (x2 : Int) (x3 : Int) (x5 : Int) (x6 : Int) (h1 : xm_in x1) (h2 : xm_in x2) (h3 : xm_in x3) (h5 : 0 ≤ x5 ∧ x5 ≤ 1) (h6 : xm_in x6) : xm_V X 0 0 (f_X11_walk_b225 rec K287 self σ x1 x2 x3 x5 x6) σ 225 [(0, .ref (xm_B (xx_G X) + 84)), (1, .int (xm_J x1)), (2, .int (xm_J x2)), (3, .int (xm_J x3)), (5, .int (xm_J x5)), (6, .int (xm_J x6))] [] := by
  unfold f_X11_walk_b225
  refine xg_iload hC dX11_walk_225 rfl ?_
  refine xg_aload_n hC dX11_walk_227 rfl ?_
  refine xg_getI hC (xm_hK hI rfl) rfl xl_F_X11_120 dX11_walk_228 (fun k68 => ?_)
  refine xg_icmp_ge hC h6 k68 287 dX11_walk_231 rfl (fun c69 => ?_) (fun c70 => ?_)
  · refine xg_aload_n hC dX11_walk_234 rfl ?_
    refine xg_aload_n hC dX11_walk_235 rfl ?_
    refine xg_getW hC (b := 97) (xm_hK hI rfl) rfl (xm_wK hI rfl) (by decide) xl_F_X11_129 dX11_walk_236 ?_
    refine xg_iload hC dX11_walk_239 rfl ?_
    refine xg_iald hC (xm_hK hI rfl) rfl h6 dX11_walk_241 (fun b71 k72 => ?_)
    refine xg_iload_n hC dX11_walk_242 rfl ?_
    refine xg_callV hC (ci := 10) (w_X11_isChild hI σ (σ.1 97 x6.toNat) x1 k72 h1) xl_M_X11_147 xl_V_X11_isChild (xm_hK (a := 84) (kd := 0) (n := 10) hI rfl).2 ((xm_hK (a := 84) (kd := 0) (n := 10) hI rfl).1 _) (by decide) rfl (by omega) ⟨by decide, by decide⟩ dX11_walk_243 (rest := []) rfl rfl (Nat.le_of_ble_eq_true rfl) rfl rfl (st2 := fun o => .int (xm_J o.2) :: []) (fun _ => rfl) (fun o73 k74 => ?_)
    refine xg_if_eq hC (xm_in01 k74) 281 dX11_walk_246 rfl (fun c75 => ?_) (fun c76 => ?_)
    · refine xg_iinc hC (l' := [(6, .int (xm_J (xm_w (x6 + 1)))), (0, .ref (xm_B (xx_G X) + 84)), (1, .int (xm_J x1)), (2, .int (xm_J x2)), (3, .int (xm_J x3)), (5, .int (xm_J x5))]) dX11_walk_281 (by decide) 5 rfl rfl ?_
      refine xg_goto hC 225 dX11_walk_284 rfl ?_
      exact xg_pick [1, 2, 3, 4, 5, 0] rfl (hself o73.1 x1 x2 x3 x5 (xm_w (x6 + 1)) h1 h2 h3 h5 (xm_w_in _))
    refine xg_iload hC dX11_walk_249 rfl ?_
    refine xg_if_eq hC (xm_in01 h5) 268 dX11_walk_251 rfl (fun c77 => ?_) (fun c78 => ?_)
    · exact (w_X11_walk_j268 hC hQ hI hrec hself o73.1 x1 x2 x3 x5 x6 h1 h2 h3 h5 h6)
    refine xg_aload_n hC dX11_walk_254 rfl ?_
    refine xg_aload_n hC dX11_walk_255 rfl ?_
    refine xg_getW hC (b := 97) (xm_hK hI rfl) rfl (xm_wK hI rfl) (by decide) xl_F_X11_129 dX11_walk_256 ?_
    refine xg_iload hC dX11_walk_259 rfl ?_
    refine xg_iald hC (xm_hK hI rfl) rfl h6 dX11_walk_261 (fun b83 k84 => ?_)
    refine xg_callV hC (ci := 10) (w_X11_isMale hI o73.1 (o73.1.1 97 x6.toNat) k84) xl_M_X11_85 xl_V_X11_isMale (xm_hK (a := 84) (kd := 0) (n := 10) hI rfl).2 ((xm_hK (a := 84) (kd := 0) (n := 10) hI rfl).1 _) (by decide) rfl (by omega) ⟨by decide, by decide⟩ dX11_walk_262 (rest := []) rfl rfl (Nat.le_of_ble_eq_true rfl) rfl rfl (st2 := fun o => .int (xm_J o.2) :: []) (fun _ => rfl) (fun o85 k86 => ?_)
    refine xg_if_eq hC (xm_in01 k86) 281 dX11_walk_265 rfl (fun c87 => ?_) (fun c88 => ?_)
    · refine xg_iinc hC (l' := [(6, .int (xm_J (xm_w (x6 + 1)))), (0, .ref (xm_B (xx_G X) + 84)), (1, .int (xm_J x1)), (2, .int (xm_J x2)), (3, .int (xm_J x3)), (5, .int (xm_J x5))]) dX11_walk_281 (by decide) 5 rfl rfl ?_
      refine xg_goto hC 225 dX11_walk_284 rfl ?_
      exact xg_pick [1, 2, 3, 4, 5, 0] rfl (hself o85.1 x1 x2 x3 x5 (xm_w (x6 + 1)) h1 h2 h3 h5 (xm_w_in _))
    exact (w_X11_walk_j268 hC hQ hI hrec hself o85.1 x1 x2 x3 x5 x6 h1 h2 h3 h5 h6)
  exact xg_pick [0, 1, 2, 3, 4] rfl (hK287 σ x1 x2 x3 x5 h1 h2 h3 h5)
theorem w_X11_walk_l225 {X : xm_X} {d : Nat} (hC : xm_C X yX11_walk.cls cX11_walk 7 (d + 4 + 1) 0 0) (hQ : xm_Rt X 0 none 0 0) (hI : xx_I X = xm_I) {rec : xm_Mem → Int → Int → Int → Option xm_Out} (hrec : ∀ (σ : xm_Mem) (x1 : Int) (x2 : Int) (x3 : Int), xm_in x1 → xm_in x2 → xm_in x3 → ∀ o, rec σ x1 x2 x3 = some o → xm_M (xx_G X) (xx_I X) (xx_la X) yX11_walk cX11_walk 7 none (d + 4) 0 0 [.ref (xm_B (xx_G X) + 84), .int (xm_J x1), .int (xm_J x2), .int (xm_J x3)] σ 0 o) {K287 : xm_Mem → Int → Int → Int → Int → Option xm_Out} (hK287 : ∀ (σ : xm_Mem) (x1 : Int) (x2 : Int) (x3 : Int) (x5 : Int), xm_in x1 → xm_in x2 → xm_in x3 → 0 ≤ x5 ∧ x5 ≤ 1 → xm_V X 0 0 (K287 σ x1 x2 x3 x5) σ 287 [(0, .ref (xm_B (xx_G X) + 84)), (1, .int (xm_J x1)), (2, .int (xm_J x2)), (3, .int (xm_J x3)), (5, .int (xm_J x5))] []) (n : Nat) : ∀ (σ : xm_Mem) (x1 : Int) (x2 : Int) (x3 : Int) (x5 : Int) (x6 : Int), xm_in x1 → xm_in x2 → xm_in x3 → 0 ≤ x5 ∧ x5 ≤ 1 → xm_in x6 → xm_V X 0 0 (f_X11_walk_l225 rec K287 n σ x1 x2 x3 x5 x6) σ 225 [(0, .ref (xm_B (xx_G X) + 84)), (1, .int (xm_J x1)), (2, .int (xm_J x2)), (3, .int (xm_J x3)), (5, .int (xm_J x5)), (6, .int (xm_J x6))] [] := by
  induction n with
  | zero => intro σ x1 x2 x3 x5 x6 h1 h2 h3 h5 h6; exact xg_none
  | succ n ih => intro σ x1 x2 x3 x5 x6 h1 h2 h3 h5 h6; exact w_X11_walk_b225 hC hQ hI hrec hK287 ih σ x1 x2 x3 x5 x6 h1 h2 h3 h5 h6
theorem w_X11_walk_b290 {X : xm_X} {d : Nat} (hC : xm_C X yX11_walk.cls cX11_walk 7 (d + 4 + 1) 0 0) (hQ : xm_Rt X 0 none 0 0) (hI : xx_I X = xm_I) {rec : xm_Mem → Int → Int → Int → Option xm_Out} (hrec : ∀ (σ : xm_Mem) (x1 : Int) (x2 : Int) (x3 : Int), xm_in x1 → xm_in x2 → xm_in x3 → ∀ o, rec σ x1 x2 x3 = some o → xm_M (xx_G X) (xx_I X) (xx_la X) yX11_walk cX11_walk 7 none (d + 4) 0 0 [.ref (xm_B (xx_G X) + 84), .int (xm_J x1), .int (xm_J x2), .int (xm_J x3)] σ 0 o)   {self : xm_Mem → Int → Int → Int → Int → Int → Option xm_Out} (hself : ∀ (σ : xm_Mem) (x1 : Int) (x2 : Int) (x3 : Int) (x5 : Int) (x6 : Int), xm_in x1 → xm_in x2 → xm_in x3 → 0 ≤ x5 ∧ x5 ≤ 1 → xm_in x6 → xm_V X 0 0 (self σ x1 x2 x3 x5 x6) σ 290 [(0, .ref (xm_B (xx_G X) + 84)), (1, .int (xm_J x1)), (2, .int (xm_J x2)), (3, .int (xm_J x3)), (5, .int (xm_J x5)), (6, .int (xm_J x6))] []) (σ : xm_Mem) (x1 : Int) (x2 : Int) (x3 : Int) (x5 : Int) (x6 : Int) (h1 : xm_in x1) (h2 : xm_in x2) (h3 : xm_in x3) (h5 : 0 ≤ x5 ∧ x5 ≤ 1) (h6 : xm_in x6) : xm_V X 0 0 (f_X11_walk_b290 rec  self σ x1 x2 x3 x5 x6) σ 290 [(0, .ref (xm_B (xx_G X) + 84)), (1, .int (xm_J x1)), (2, .int (xm_J x2)), (3, .int (xm_J x3)), (5, .int (xm_J x5)), (6, .int (xm_J x6))] [] := by
  unfold f_X11_walk_b290
  refine xg_iload hC dX11_walk_290 rfl ?_
  refine xg_aload_n hC dX11_walk_292 rfl ?_
  refine xg_getI hC (xm_hK hI rfl) rfl xl_F_X11_120 dX11_walk_293 (fun k90 => ?_)
  refine xg_icmp_ge hC h6 k90 352 dX11_walk_296 rfl (fun c91 => ?_) (fun c92 => ?_)
  · refine xg_iload hC dX11_walk_299 rfl ?_
    refine xg_if_eq hC (xm_in01 h5) 352 dX11_walk_301 rfl (fun c93 => ?_) (fun c94 => ?_)
    · exact xg_vret hC hQ dX11_walk_352
    refine xg_aload_n hC dX11_walk_304 rfl ?_
    refine xg_aload_n hC dX11_walk_305 rfl ?_
    refine xg_getW hC (b := 97) (xm_hK hI rfl) rfl (xm_wK hI rfl) (by decide) xl_F_X11_129 dX11_walk_306 ?_
    refine xg_iload hC dX11_walk_309 rfl ?_
    refine xg_iald hC (xm_hK hI rfl) rfl h6 dX11_walk_311 (fun b95 k96 => ?_)
    refine xg_iload_n hC dX11_walk_312 rfl ?_
    refine xg_callV hC (ci := 10) (w_X11_isChild hI σ (σ.1 97 x6.toNat) x1 k96 h1) xl_M_X11_147 xl_V_X11_isChild (xm_hK (a := 84) (kd := 0) (n := 10) hI rfl).2 ((xm_hK (a := 84) (kd := 0) (n := 10) hI rfl).1 _) (by decide) rfl (by omega) ⟨by decide, by decide⟩ dX11_walk_313 (rest := []) rfl rfl (Nat.le_of_ble_eq_true rfl) rfl rfl (st2 := fun o => .int (xm_J o.2) :: []) (fun _ => rfl) (fun o97 k98 => ?_)
    refine xg_if_eq hC (xm_in01 k98) 346 dX11_walk_316 rfl (fun c99 => ?_) (fun c100 => ?_)
    · refine xg_iinc hC (l' := [(6, .int (xm_J (xm_w (x6 + 1)))), (0, .ref (xm_B (xx_G X) + 84)), (1, .int (xm_J x1)), (2, .int (xm_J x2)), (3, .int (xm_J x3)), (5, .int (xm_J x5))]) dX11_walk_346 (by decide) 5 rfl rfl ?_
      refine xg_goto hC 290 dX11_walk_349 rfl ?_
      exact xg_pick [1, 2, 3, 4, 5, 0] rfl (hself o97.1 x1 x2 x3 x5 (xm_w (x6 + 1)) h1 h2 h3 h5 (xm_w_in _))
    refine xg_aload_n hC dX11_walk_319 rfl ?_
    refine xg_aload_n hC dX11_walk_320 rfl ?_
    refine xg_getW hC (b := 97) (xm_hK hI rfl) rfl (xm_wK hI rfl) (by decide) xl_F_X11_129 dX11_walk_321 ?_
    refine xg_iload hC dX11_walk_324 rfl ?_
    refine xg_iald hC (xm_hK hI rfl) rfl h6 dX11_walk_326 (fun b101 k102 => ?_)
    refine xg_callV hC (ci := 10) (w_X11_isMale hI o97.1 (o97.1.1 97 x6.toNat) k102) xl_M_X11_85 xl_V_X11_isMale (xm_hK (a := 84) (kd := 0) (n := 10) hI rfl).2 ((xm_hK (a := 84) (kd := 0) (n := 10) hI rfl).1 _) (by decide) rfl (by omega) ⟨by decide, by decide⟩ dX11_walk_327 (rest := []) rfl rfl (Nat.le_of_ble_eq_true rfl) rfl rfl (st2 := fun o => .int (xm_J o.2) :: []) (fun _ => rfl) (fun o103 k104 => ?_)
    refine xg_if_ne hC (xm_in01 k104) 346 dX11_walk_330 rfl (fun c105 => ?_) (fun c106 => ?_)
    · refine xg_aload_n hC dX11_walk_333 rfl ?_
      refine xg_aload_n hC dX11_walk_334 rfl ?_
      refine xg_getW hC (b := 97) (xm_hK hI rfl) rfl (xm_wK hI rfl) (by decide) xl_F_X11_129 dX11_walk_335 ?_
      refine xg_iload hC dX11_walk_338 rfl ?_
      refine xg_iald hC (xm_hK hI rfl) rfl h6 dX11_walk_340 (fun b107 k108 => ?_)
      refine xg_iload_n hC dX11_walk_341 rfl ?_
      refine xg_iload_n hC dX11_walk_342 rfl ?_
      refine xg_callV hC (ci := 10) (hrec o103.1 (o103.1.1 97 x6.toNat) x2 x3 k108 h2 h3) xl_M_X11_169 xl_V_X11_walk (xm_hK (a := 84) (kd := 0) (n := 10) hI rfl).2 ((xm_hK (a := 84) (kd := 0) (n := 10) hI rfl).1 _) (by decide) rfl (by omega) ⟨by decide, by decide⟩ dX11_walk_343 (rest := []) rfl rfl (Nat.le_of_ble_eq_true rfl) rfl rfl (st2 := fun o => []) (fun _ => rfl) (fun o109 k110 => ?_)
      refine xg_iinc hC (l' := [(6, .int (xm_J (xm_w (x6 + 1)))), (0, .ref (xm_B (xx_G X) + 84)), (1, .int (xm_J x1)), (2, .int (xm_J x2)), (3, .int (xm_J x3)), (5, .int (xm_J x5))]) dX11_walk_346 (by decide) 5 rfl rfl ?_
      refine xg_goto hC 290 dX11_walk_349 rfl ?_
      exact xg_pick [1, 2, 3, 4, 5, 0] rfl (hself o109.1 x1 x2 x3 x5 (xm_w (x6 + 1)) h1 h2 h3 h5 (xm_w_in _))
    refine xg_iinc hC (l' := [(6, .int (xm_J (xm_w (x6 + 1)))), (0, .ref (xm_B (xx_G X) + 84)), (1, .int (xm_J x1)), (2, .int (xm_J x2)), (3, .int (xm_J x3)), (5, .int (xm_J x5))]) dX11_walk_346 (by decide) 5 rfl rfl ?_
    refine xg_goto hC 290 dX11_walk_349 rfl ?_
    exact xg_pick [1, 2, 3, 4, 5, 0] rfl (hself o103.1 x1 x2 x3 x5 (xm_w (x6 + 1)) h1 h2 h3 h5 (xm_w_in _))
  exact xg_vret hC hQ dX11_walk_352
theorem w_X11_walk_l290 {X : xm_X} {d : Nat} (hC : xm_C X yX11_walk.cls cX11_walk 7 (d + 4 + 1) 0 0) (hQ : xm_Rt X 0 none 0 0) (hI : xx_I X = xm_I) {rec : xm_Mem → Int → Int → Int → Option xm_Out} (hrec : ∀ (σ : xm_Mem) (x1 : Int) (x2 : Int) (x3 : Int), xm_in x1 → xm_in x2 → xm_in x3 → ∀ o, rec σ x1 x2 x3 = some o → xm_M (xx_G X) (xx_I X) (xx_la X) yX11_walk cX11_walk 7 none (d + 4) 0 0 [.ref (xm_B (xx_G X) + 84), .int (xm_J x1), .int (xm_J x2), .int (xm_J x3)] σ 0 o)   (n : Nat) : ∀ (σ : xm_Mem) (x1 : Int) (x2 : Int) (x3 : Int) (x5 : Int) (x6 : Int), xm_in x1 → xm_in x2 → xm_in x3 → 0 ≤ x5 ∧ x5 ≤ 1 → xm_in x6 → xm_V X 0 0 (f_X11_walk_l290 rec  n σ x1 x2 x3 x5 x6) σ 290 [(0, .ref (xm_B (xx_G X) + 84)), (1, .int (xm_J x1)), (2, .int (xm_J x2)), (3, .int (xm_J x3)), (5, .int (xm_J x5)), (6, .int (xm_J x6))] [] := by
  induction n with
  | zero => intro σ x1 x2 x3 x5 x6 h1 h2 h3 h5 h6; exact xg_none
  | succ n ih => intro σ x1 x2 x3 x5 x6 h1 h2 h3 h5 h6; exact w_X11_walk_b290 hC hQ hI hrec ih σ x1 x2 x3 x5 x6 h1 h2 h3 h5 h6
theorem w_X11_walk_j88 {X : xm_X} {d : Nat} (hC : xm_C X yX11_walk.cls cX11_walk 7 (d + 4 + 1) 0 0) (hQ : xm_Rt X 0 none 0 0) (hI : xx_I X = xm_I) {rec : xm_Mem → Int → Int → Int → Option xm_Out} (hrec : ∀ (σ : xm_Mem) (x1 : Int) (x2 : Int) (x3 : Int), xm_in x1 → xm_in x2 → xm_in x3 → ∀ o, rec σ x1 x2 x3 = some o → xm_M (xx_G X) (xx_I X) (xx_la X) yX11_walk cX11_walk 7 none (d + 4) 0 0 [.ref (xm_B (xx_G X) + 84), .int (xm_J x1), .int (xm_J x2), .int (xm_J x3)] σ 0 o)   (σ : xm_Mem) (s0 : Int) (x1 : Int) (x2 : Int) (x3 : Int) (x4 : Int) (g0 : 0 ≤ s0 ∧ s0 ≤ 1) (h1 : xm_in x1) (h2 : xm_in x2) (h3 : xm_in x3) (h4 : xm_in x4) : xm_V X 0 0 (f_X11_walk_j88 rec  σ s0 x1 x2 x3 x4) σ 88 [(0, .ref (xm_B (xx_G X) + 84)), (1, .int (xm_J x1)), (2, .int (xm_J x2)), (3, .int (xm_J x3)), (4, .int (xm_J x4))] [.int (xm_J s0)] := by
  unfold f_X11_walk_j88
  refine xg_istore hC (l' := [(5, .int (xm_J s0)), (0, .ref (xm_B (xx_G X) + 84)), (1, .int (xm_J x1)), (2, .int (xm_J x2)), (3, .int (xm_J x3)), (4, .int (xm_J x4))]) dX11_walk_88 (by decide) rfl ?_
  refine xg_iload hC dX11_walk_90 rfl ?_
  refine xg_if_ne hC h4 166 dX11_walk_92 rfl (fun c24 => ?_) (fun c25 => ?_)
  · refine xg_aload_n hC dX11_walk_95 rfl ?_
    refine xg_iload_n hC dX11_walk_96 rfl ?_
    refine xg_callV hC (ci := 10) (w_X11_isMale hI σ x1 h1) xl_M_X11_85 xl_V_X11_isMale (xm_hK (a := 84) (kd := 0) (n := 10) hI rfl).2 ((xm_hK (a := 84) (kd := 0) (n := 10) hI rfl).1 _) (by decide) rfl (by omega) ⟨by decide, by decide⟩ dX11_walk_97 (rest := []) rfl rfl (Nat.le_of_ble_eq_true rfl) rfl rfl (st2 := fun o => .int (xm_J o.2) :: []) (fun _ => rfl) (fun o26 k27 => ?_)
    refine xg_if_eq hC (xm_in01 k27) 352 dX11_walk_100 rfl (fun c28 => ?_) (fun c29 => ?_)
    · exact xg_vret hC hQ dX11_walk_352
    refine xg_iconst hC dX11_walk_103 ?_
    refine xg_istore hC (l' := [(6, .int (xm_J (0 : Int))), (5, .int (xm_J s0)), (0, .ref (xm_B (xx_G X) + 84)), (1, .int (xm_J x1)), (2, .int (xm_J x2)), (3, .int (xm_J x3)), (4, .int (xm_J x4))]) dX11_walk_104 (by decide) rfl ?_
    refine xg_pick [2, 3, 4, 5, 0] rfl (w_X11_walk_l106 hC hQ hI hrec ?_ _ o26.1 x1 x2 x3 (0 : Int) h1 h2 h3 (xm_inc _ rfl))
    intro σ_49
    refine xg_goto hC 352 dX11_walk_163 rfl ?_
    exact xg_vret hC hQ dX11_walk_352
  refine xg_iload hC dX11_walk_166 rfl ?_
  refine xg_iconst hC dX11_walk_168 ?_
  refine xg_icmp_ne hC h4 (xm_inc _ rfl) 222 dX11_walk_169 rfl (fun c50 => ?_) (fun c51 => ?_)
  · refine xg_aload_n hC dX11_walk_172 rfl ?_
    refine xg_getI hC (xm_hK hI rfl) rfl xl_F_X11_120 dX11_walk_173 (fun k52 => ?_)
    refine xg_iconst hC dX11_walk_176 ?_
    refine xg_isub hC dX11_walk_177 ?_
    refine xg_vI (xm_w_in _) (fun v53 k54 => ?_)
    refine xg_istore hC (l' := [(6, .int (xm_J v53)), (5, .int (xm_J s0)), (0, .ref (xm_B (xx_G X) + 84)), (1, .int (xm_J x1)), (2, .int (xm_J x2)), (3, .int (xm_J x3)), (4, .int (xm_J x4))]) dX11_walk_178 (by decide) rfl ?_
    refine xg_pick [2, 3, 4, 5, 0] rfl (w_X11_walk_l180 hC hQ hI hrec ?_ _ σ x1 x2 x3 v53 h1 h2 h3 k54)
    intro σ_67
    refine xg_goto hC 352 dX11_walk_219 rfl ?_
    exact xg_vret hC hQ dX11_walk_352
  refine xg_iconst hC dX11_walk_222 ?_
  refine xg_istore hC (l' := [(6, .int (xm_J (0 : Int))), (5, .int (xm_J s0)), (0, .ref (xm_B (xx_G X) + 84)), (1, .int (xm_J x1)), (2, .int (xm_J x2)), (3, .int (xm_J x3)), (4, .int (xm_J x4))]) dX11_walk_223 (by decide) rfl ?_
  refine xg_pick [2, 3, 4, 5, 1, 0] rfl (w_X11_walk_l225 hC hQ hI hrec ?_ _ σ x1 x2 x3 s0 (0 : Int) h1 h2 h3 g0 (xm_inc _ rfl))
  intro σ_89 x1_89 x2_89 x3_89 x5_89 h1_89 h2_89 h3_89 h5_89
  refine xg_iconst hC dX11_walk_287 ?_
  refine xg_istore hC (l' := [(6, .int (xm_J (0 : Int))), (0, .ref (xm_B (xx_G X) + 84)), (1, .int (xm_J x1_89)), (2, .int (xm_J x2_89)), (3, .int (xm_J x3_89)), (5, .int (xm_J x5_89))]) dX11_walk_288 (by decide) rfl ?_
  exact xg_pick [1, 2, 3, 4, 5, 0] rfl (w_X11_walk_l290 hC hQ hI hrec _ σ_89 x1_89 x2_89 x3_89 x5_89 (0 : Int) h1_89 h2_89 h3_89 h5_89 (xm_inc _ rfl))
theorem w_X11_walk_j83 {X : xm_X} {d : Nat} (hC : xm_C X yX11_walk.cls cX11_walk 7 (d + 4 + 1) 0 0) (hQ : xm_Rt X 0 none 0 0) (hI : xx_I X = xm_I) {rec : xm_Mem → Int → Int → Int → Option xm_Out} (hrec : ∀ (σ : xm_Mem) (x1 : Int) (x2 : Int) (x3 : Int), xm_in x1 → xm_in x2 → xm_in x3 → ∀ o, rec σ x1 x2 x3 = some o → xm_M (xx_G X) (xx_I X) (xx_la X) yX11_walk cX11_walk 7 none (d + 4) 0 0 [.ref (xm_B (xx_G X) + 84), .int (xm_J x1), .int (xm_J x2), .int (xm_J x3)] σ 0 o)   (σ : xm_Mem) (x1 : Int) (x2 : Int) (x3 : Int) (x4 : Int) (h1 : xm_in x1) (h2 : xm_in x2) (h3 : xm_in x3) (h4 : xm_in x4) : xm_V X 0 0 (f_X11_walk_j83 rec  σ x1 x2 x3 x4) σ 83 [(0, .ref (xm_B (xx_G X) + 84)), (1, .int (xm_J x1)), (2, .int (xm_J x2)), (3, .int (xm_J x3)), (4, .int (xm_J x4))] [] := by
  unfold f_X11_walk_j83
  refine xg_iconst hC dX11_walk_83 ?_
  refine xg_goto hC 88 dX11_walk_84 rfl ?_
  exact (w_X11_walk_j88 hC hQ hI hrec σ (1 : Int) x1 x2 x3 x4 (by decide) h1 h2 h3 h4)
theorem w_X11_walk_j58 {X : xm_X} {d : Nat} (hC : xm_C X yX11_walk.cls cX11_walk 7 (d + 4 + 1) 0 0) (hQ : xm_Rt X 0 none 0 0) (hI : xx_I X = xm_I) {rec : xm_Mem → Int → Int → Int → Option xm_Out} (hrec : ∀ (σ : xm_Mem) (x1 : Int) (x2 : Int) (x3 : Int), xm_in x1 → xm_in x2 → xm_in x3 → ∀ o, rec σ x1 x2 x3 = some o → xm_M (xx_G X) (xx_I X) (xx_la X) yX11_walk cX11_walk 7 none (d + 4) 0 0 [.ref (xm_B (xx_G X) + 84), .int (xm_J x1), .int (xm_J x2), .int (xm_J x3)] σ 0 o)   (σ : xm_Mem) (x1 : Int) (x2 : Int) (x3 : Int) (h1 : xm_in x1) (h2 : xm_in x2) (h3 : xm_in x3) : xm_V X 0 0 (f_X11_walk_j58 rec  σ x1 x2 x3) σ 58 [(0, .ref (xm_B (xx_G X) + 84)), (1, .int (xm_J x1)), (2, .int (xm_J x2)), (3, .int (xm_J x3))] [] := by
  unfold f_X11_walk_j58
  refine xg_aload_n hC dX11_walk_58 rfl ?_
  refine xg_getW hC (b := 91) (xm_hK hI rfl) rfl (xm_wK hI rfl) (by decide) xl_F_X11_28 dX11_walk_59 ?_
  refine xg_aload_n hC dX11_walk_62 rfl ?_
  refine xg_getW hC (b := 94) (xm_hK hI rfl) rfl (xm_wK hI rfl) (by decide) xl_F_X11_25 dX11_walk_63 ?_
  refine xg_iload_n hC dX11_walk_66 rfl ?_
  refine xg_iald hC (xm_hK hI rfl) rfl h2 dX11_walk_67 (fun b14 k15 => ?_)
  refine xg_vI k15 (fun v16 k17 => ?_)
  refine xg_iald hC (xm_hK hI rfl) rfl k17 dX11_walk_68 (fun b18 k19 => ?_)
  refine xg_vI k19 (fun v20 k21 => ?_)
  refine xg_istore hC (l' := [(4, .int (xm_J v20)), (0, .ref (xm_B (xx_G X) + 84)), (1, .int (xm_J x1)), (2, .int (xm_J x2)), (3, .int (xm_J x3))]) dX11_walk_69 (by decide) rfl ?_
  refine xg_iload hC dX11_walk_71 rfl ?_
  refine xg_iconst hC dX11_walk_73 ?_
  refine xg_icmp_eq hC k21 (xm_inc _ rfl) 83 dX11_walk_74 rfl (fun c22 => ?_) (fun c23 => ?_)
  · exact xg_pick [1, 2, 3, 4, 0] rfl (w_X11_walk_j83 hC hQ hI hrec σ x1 x2 x3 v20 h1 h2 h3 k21)
  refine xg_iload hC dX11_walk_77 rfl ?_
  refine xg_iconst hC dX11_walk_79 ?_
  refine xg_icmp_ne hC k21 (xm_inc _ rfl) 87 dX11_walk_80 rfl (fun c111 => ?_) (fun c112 => ?_)
  · exact xg_pick [1, 2, 3, 4, 0] rfl (w_X11_walk_j83 hC hQ hI hrec σ x1 x2 x3 v20 h1 h2 h3 k21)
  refine xg_iconst hC dX11_walk_87 ?_
  exact xg_pick [1, 2, 3, 4, 0] rfl (w_X11_walk_j88 hC hQ hI hrec σ (0 : Int) x1 x2 x3 v20 (by decide) h1 h2 h3 k21)
theorem w_X11_walk_d {Γ : xm_Gm} {I : xm_Mem → Prop} {la : Launch} (hE : I = xm_I) (d : Nat) : ∀ (σ : xm_Mem) (x1 : Int) (x2 : Int) (x3 : Int), xm_in x1 → xm_in x2 → xm_in x3 → ∀ o, f_X11_walk d σ x1 x2 x3 = some o → xm_M Γ I la yX11_walk cX11_walk 7 none (d + 4) 0 0 [.ref (xm_B Γ + 84), .int (xm_J x1), .int (xm_J x2), .int (xm_J x3)] σ 0 o := by
  induction d with
  | zero => intro σ x1 x2 x3 h1 h2 h3 o ho; cases ho
  | succ d ih =>
    intro σ x1 x2 x3 h1 h2 h3
    have key : ∀ o, f_X11_walk_b (f_X11_walk d) σ x1 x2 x3 = some o → xm_M Γ I la yX11_walk cX11_walk 7 none (d + 4 + 1) 0 0 [.ref (xm_B Γ + 84), .int (xm_J x1), .int (xm_J x2), .int (xm_J x3)] σ 0 o := by
      refine xg_enter (by decide) (by simp [lg_sl, xm_rf_cat, xm_cati, xm_catr, xm_catl]) (fun X hG hI0 hla hC hQ hname => ?_)
      subst hG
      have hI := hI0.trans hE
      subst hI0
      subst hla
      have hrec := ih
      unfold f_X11_walk_b
      refine xg_pick [0, 1, 2, 3] (l' := [(0, .ref (xm_B (xx_G X) + 84)), (1, .int (xm_J x1)), (2, .int (xm_J x2)), (3, .int (xm_J x3))]) rfl ?_
      refine xg_aload_n hC dX11_walk_0 rfl ?_
      refine xg_getL hC (xm_hK hI rfl) rfl xl_F_X11_156 dX11_walk_1 ?_
      refine xg_iload_n hC dX11_walk_4 rfl ?_
      refine xg_callS hC (w_X11_bit hI σ x1 h1) xl_M_X11_143 xl_S_X11_bit (by omega) ⟨by decide, by decide⟩ dX11_walk_5 (rest := [.long (σ.2.1 84 28)]) rfl rfl (Nat.le_of_ble_eq_true rfl) rfl rfl (st2 := fun o => .long (Int64.ofInt o.2) :: [.long (σ.2.1 84 28)]) (fun _ => rfl) (fun o2 k3 => ?_)
      refine xg_land hC dX11_walk_8 ?_
      refine xg_lconst hC dX11_walk_9 (v := 0) rfl ?_
      refine xg_lcmp hC dX11_walk_10 ?_
      refine xg_if_eq hC (xm_lc_in _ _) 15 dX11_walk_11 rfl (fun c4 => ?_) (fun c5 => ?_)
      · refine xg_aload_n hC dX11_walk_15 rfl ?_
        refine xg_dup hC dX11_walk_16 rfl ?_
        refine xg_getL hC (xm_hK hI rfl) rfl xl_F_X11_156 dX11_walk_17 ?_
        refine xg_iload_n hC dX11_walk_20 rfl ?_
        refine xg_callS hC (w_X11_bit hI o2.1 x1 h1) xl_M_X11_143 xl_S_X11_bit (by omega) ⟨by decide, by decide⟩ dX11_walk_21 (rest := [.long (o2.1.2.1 84 28), .ref (xm_B (xx_G X) + 84)]) rfl rfl (Nat.le_of_ble_eq_true rfl) rfl rfl (st2 := fun o => .long (Int64.ofInt o.2) :: [.long (o2.1.2.1 84 28), .ref (xm_B (xx_G X) + 84)]) (fun _ => rfl) (fun o7 k8 => ?_)
        refine xg_lor hC dX11_walk_24 ?_
        refine xg_putL hC (xm_hK hI rfl) rfl rfl (xm_kp2 hI) xl_F_X11_156 dX11_walk_25 ?_
        refine xg_st (fun σ9 => ?_)
        refine xg_aload_n hC dX11_walk_28 rfl ?_
        refine xg_iload_n hC dX11_walk_29 rfl ?_
        refine xg_iload_n hC dX11_walk_30 rfl ?_
        refine xg_iload_n hC dX11_walk_31 rfl ?_
        refine xg_callV hC (ci := 10) (w_X11_counts hI σ9 x1 x2 x3 h1 h2 h3) xl_M_X11_160 xl_V_X11_counts (xm_hK (a := 84) (kd := 0) (n := 10) hI rfl).2 ((xm_hK (a := 84) (kd := 0) (n := 10) hI rfl).1 _) (by decide) rfl (by omega) ⟨by decide, by decide⟩ dX11_walk_32 (rest := []) rfl rfl (Nat.le_of_ble_eq_true rfl) rfl rfl (st2 := fun o => .int (xm_J o.2) :: []) (fun _ => rfl) (fun o10 k11 => ?_)
        refine xg_if_eq hC (xm_in01 k11) 58 dX11_walk_35 rfl (fun c12 => ?_) (fun c13 => ?_)
        · exact (w_X11_walk_j58 hC hQ hI hrec o10.1 x1 x2 x3 h1 h2 h3)
        refine xg_aload_n hC dX11_walk_38 rfl ?_
        refine xg_getW hC (b := 101) (xm_hK hI rfl) rfl (xm_wK hI rfl) (by decide) xl_F_X11_163 dX11_walk_39 ?_
        refine xg_aload_n hC dX11_walk_42 rfl ?_
        refine xg_getI hC (xm_hK hI rfl) rfl xl_F_X11_166 dX11_walk_43 (fun k113 => ?_)
        refine xg_iload_n hC dX11_walk_46 rfl ?_
        refine xg_iast hC (xm_hK hI rfl) rfl k113 h1 (xm_kpF hI rfl) dX11_walk_47 ?_
        refine xg_st (fun σ114 => ?_)
        refine xg_aload_n hC dX11_walk_48 rfl ?_
        refine xg_dup hC dX11_walk_49 rfl ?_
        refine xg_getI hC (xm_hK hI rfl) rfl xl_F_X11_166 dX11_walk_50 (fun k115 => ?_)
        refine xg_iconst hC dX11_walk_53 ?_
        refine xg_iadd hC dX11_walk_54 ?_
        refine xg_putI hC (xm_hK hI rfl) rfl rfl (xm_w_in _) (xm_kpK hI rfl) xl_F_X11_166 dX11_walk_55 ?_
        refine xg_st (fun σ116 => ?_)
        exact (w_X11_walk_j58 hC hQ hI hrec σ116 x1 x2 x3 h1 h2 h3)
      exact xg_vret hC hQ dX11_walk_14
    intro o ho
    have e : d + 1 + 4 = d + 4 + 1 := by omega
    rw [e]
    exact key o ho
theorem w_X11_walk {Γ : xm_Gm} {I : xm_Mem → Prop} {la : Launch} (hE : I = xm_I) (σ : xm_Mem) (x1 : Int) (x2 : Int) (x3 : Int) (h1 : xm_in x1) (h2 : xm_in x2) (h3 : xm_in x3) : ∀ o, f_X11_walk xm_dep σ x1 x2 x3 = some o → xm_M Γ I la yX11_walk cX11_walk 7 none 70 0 0 [.ref (xm_B Γ + 84), .int (xm_J x1), .int (xm_J x2), .int (xm_J x3)] σ 0 o := w_X11_walk_d hE xm_dep σ x1 x2 x3 h1 h2 h3
theorem w_X11_walkNear_b3 {X : xm_X} (hC : xm_C X yX11_walkNear.cls cX11_walkNear 9 4 0 0) (hQ : xm_Rt X 0 none 0 0) (hI : xx_I X = xm_I) {K24 : xm_Mem → Int → Int → Int → Option xm_Out} (hK24 : ∀ (σ : xm_Mem) (x1 : Int) (x2 : Int) (x3 : Int), xm_in x1 → xm_in x2 → xm_in x3 → xm_V X 0 0 (K24 σ x1 x2 x3) σ 24 [(0, .ref (xm_B (xx_G X) + 84)), (1, .int (xm_J x1)), (2, .int (xm_J x2)), (3, .int (xm_J x3))] []) {self : xm_Mem → Int → Int → Int → Int → Option xm_Out} (hself : ∀ (σ : xm_Mem) (x1 : Int) (x2 : Int) (x3 : Int) (x4 : Int), xm_in x1 → xm_in x2 → xm_in x3 → xm_in x4 → xm_V X 0 0 (self σ x1 x2 x3 x4) σ 3 [(0, .ref (xm_B (xx_G X) + 84)), (1, .int (xm_J x1)), (2, .int (xm_J x2)), (3, .int (xm_J x3)), (4, .int (xm_J x4))] []) (σ : xm_Mem) (x1 : Int) (x2 : Int) (x3 : Int) (x4 : Int) (h1 : xm_in x1) (h2 : xm_in x2) (h3 : xm_in x3) (h4 : xm_in x4) : xm_V X 0 0 (f_X11_walkNear_b3 K24 self σ x1 x2 x3 x4) σ 3 [(0, .ref (xm_B (xx_G X) + 84)), (1, .int (xm_J x1)), (2, .int (xm_J x2)), (3, .int (xm_J x3)), (4, .int (xm_J x4))] [] := by
  unfold f_X11_walkNear_b3
  refine xg_iload hC dX11_walkNear_3 rfl ?_
  refine xg_bipush hC dX11_walkNear_5 (by decide) ?_
  refine xg_icmp_ge hC h4 (xm_inc _ rfl) 24 dX11_walkNear_7 rfl (fun c1 => ?_) (fun c2 => ?_)
  · refine xg_aload_n hC dX11_walkNear_10 rfl ?_
    refine xg_getW hC (b := 102) (xm_hK hI rfl) rfl (xm_wK hI rfl) (by decide) xl_F_X11_173 dX11_walkNear_11 ?_
    refine xg_iload hC dX11_walkNear_14 rfl ?_
    refine xg_iconst hC dX11_walkNear_16 ?_
    refine xg_iast hC (xm_hK hI rfl) rfl h4 (xm_inc _ rfl) (xm_kpF hI rfl) dX11_walkNear_17 ?_
    refine xg_st (fun σ3 => ?_)
    refine xg_iinc hC (l' := [(4, .int (xm_J (xm_w (x4 + 1)))), (0, .ref (xm_B (xx_G X) + 84)), (1, .int (xm_J x1)), (2, .int (xm_J x2)), (3, .int (xm_J x3))]) dX11_walkNear_18 (by decide) 4 rfl rfl ?_
    refine xg_goto hC 3 dX11_walkNear_21 rfl ?_
    exact xg_pick [1, 2, 3, 4, 0] rfl (hself σ3 x1 x2 x3 (xm_w (x4 + 1)) h1 h2 h3 (xm_w_in _))
  exact xg_pick [0, 1, 2, 3] rfl (hK24 σ x1 x2 x3 h1 h2 h3)
theorem w_X11_walkNear_l3 {X : xm_X} (hC : xm_C X yX11_walkNear.cls cX11_walkNear 9 4 0 0) (hQ : xm_Rt X 0 none 0 0) (hI : xx_I X = xm_I) {K24 : xm_Mem → Int → Int → Int → Option xm_Out} (hK24 : ∀ (σ : xm_Mem) (x1 : Int) (x2 : Int) (x3 : Int), xm_in x1 → xm_in x2 → xm_in x3 → xm_V X 0 0 (K24 σ x1 x2 x3) σ 24 [(0, .ref (xm_B (xx_G X) + 84)), (1, .int (xm_J x1)), (2, .int (xm_J x2)), (3, .int (xm_J x3))] []) (n : Nat) : ∀ (σ : xm_Mem) (x1 : Int) (x2 : Int) (x3 : Int) (x4 : Int), xm_in x1 → xm_in x2 → xm_in x3 → xm_in x4 → xm_V X 0 0 (f_X11_walkNear_l3 K24 n σ x1 x2 x3 x4) σ 3 [(0, .ref (xm_B (xx_G X) + 84)), (1, .int (xm_J x1)), (2, .int (xm_J x2)), (3, .int (xm_J x3)), (4, .int (xm_J x4))] [] := by
  induction n with
  | zero => intro σ x1 x2 x3 x4 h1 h2 h3 h4; exact xg_none
  | succ n ih => intro σ x1 x2 x3 x4 h1 h2 h3 h4; exact w_X11_walkNear_b3 hC hQ hI hK24 ih σ x1 x2 x3 x4 h1 h2 h3 h4
theorem w_X11_walkNear_j163 {X : xm_X} (hC : xm_C X yX11_walkNear.cls cX11_walkNear 9 4 0 0) (hQ : xm_Rt X 0 none 0 0) (hI : xx_I X = xm_I) {K37 : xm_Mem → Int → Int → Int → Int → Int → Option xm_Out} (hK37 : ∀ (σ : xm_Mem) (x1 : Int) (x2 : Int) (x3 : Int) (x4 : Int) (x5 : Int), xm_in x1 → xm_in x2 → xm_in x3 → xm_in x4 → xm_in x5 → xm_V X 0 0 (K37 σ x1 x2 x3 x4 x5) σ 37 [(0, .ref (xm_B (xx_G X) + 84)), (1, .int (xm_J x1)), (2, .int (xm_J x2)), (3, .int (xm_J x3)), (4, .int (xm_J x4)), (5, .int (xm_J x5))] []) (σ : xm_Mem) (s0 : Int) (s1 : Int) (x1 : Int) (x2 : Int) (x3 : Int) (x4 : Int) (x5 : Int) (x6 : Int) (g0 : xm_in s0) (g1 : xm_in s1) (h1 : xm_in x1) (h2 : xm_in x2) (h3 : xm_in x3) (h4 : xm_in x4) (h5 : xm_in x5) (h6 : xm_in x6) : xm_V X 0 0 (f_X11_walkNear_j163 K37 σ s0 s1 x1 x2 x3 x4 x5 x6) σ 163 [(0, .ref (xm_B (xx_G X) + 84)), (1, .int (xm_J x1)), (2, .int (xm_J x2)), (3, .int (xm_J x3)), (4, .int (xm_J x4)), (5, .int (xm_J x5)), (6, .int (xm_J x6))] [.int (xm_J s0), .int (xm_J s1), .ref (xm_B (xx_G X) + 102)] := by
  unfold f_X11_walkNear_j163
  refine xg_iast hC (xm_hK hI rfl) rfl g1 g0 (xm_kpF hI rfl) dX11_walkNear_163 ?_
  refine xg_st (fun σ38 => ?_)
  refine xg_iload hC dX11_walkNear_164 rfl ?_
  refine xg_aload_n hC dX11_walkNear_166 rfl ?_
  refine xg_getW hC (b := 102) (xm_hK hI rfl) rfl (xm_wK hI rfl) (by decide) xl_F_X11_173 dX11_walkNear_167 ?_
  refine xg_iload hC dX11_walkNear_170 rfl ?_
  refine xg_iald hC (xm_hK hI rfl) rfl h6 dX11_walkNear_172 (fun b39 k40 => ?_)
  refine xg_max hC h4 k40 (by decide) xl_M_X11_176 ⟨by decide, by decide⟩ (Nat.le_of_ble_eq_true rfl) dX11_walkNear_173 ?_
  refine xg_vI (xm_max_in h4 k40) (fun v41 k42 => ?_)
  refine xg_istore hC (l' := [(4, .int (xm_J v41)), (0, .ref (xm_B (xx_G X) + 84)), (1, .int (xm_J x1)), (2, .int (xm_J x2)), (3, .int (xm_J x3)), (5, .int (xm_J x5)), (6, .int (xm_J x6))]) dX11_walkNear_176 (by decide) rfl ?_
  refine xg_iinc hC (l' := [(5, .int (xm_J (xm_w (x5 + 1)))), (4, .int (xm_J v41)), (0, .ref (xm_B (xx_G X) + 84)), (1, .int (xm_J x1)), (2, .int (xm_J x2)), (3, .int (xm_J x3)), (6, .int (xm_J x6))]) dX11_walkNear_178 (by decide) 5 rfl rfl ?_
  refine xg_goto hC 37 dX11_walkNear_181 rfl ?_
  exact xg_pick [2, 3, 4, 5, 1, 0] rfl (hK37 σ38 x1 x2 x3 v41 (xm_w (x5 + 1)) h1 h2 h3 k42 (xm_w_in _))
theorem w_X11_walkNear_j133 {X : xm_X} (hC : xm_C X yX11_walkNear.cls cX11_walkNear 9 4 0 0) (hQ : xm_Rt X 0 none 0 0) (hI : xx_I X = xm_I) {K37 : xm_Mem → Int → Int → Int → Int → Int → Option xm_Out} (hK37 : ∀ (σ : xm_Mem) (x1 : Int) (x2 : Int) (x3 : Int) (x4 : Int) (x5 : Int), xm_in x1 → xm_in x2 → xm_in x3 → xm_in x4 → xm_in x5 → xm_V X 0 0 (K37 σ x1 x2 x3 x4 x5) σ 37 [(0, .ref (xm_B (xx_G X) + 84)), (1, .int (xm_J x1)), (2, .int (xm_J x2)), (3, .int (xm_J x3)), (4, .int (xm_J x4)), (5, .int (xm_J x5))] []) (σ : xm_Mem) (s0 : Int) (s1 : Int) (x1 : Int) (x2 : Int) (x3 : Int) (x4 : Int) (x5 : Int) (x6 : Int) (g0 : xm_in s0) (g1 : xm_in s1) (h1 : xm_in x1) (h2 : xm_in x2) (h3 : xm_in x3) (h4 : xm_in x4) (h5 : xm_in x5) (h6 : xm_in x6) : xm_V X 0 0 (f_X11_walkNear_j133 K37 σ s0 s1 x1 x2 x3 x4 x5 x6) σ 133 [(0, .ref (xm_B (xx_G X) + 84)), (1, .int (xm_J x1)), (2, .int (xm_J x2)), (3, .int (xm_J x3)), (4, .int (xm_J x4)), (5, .int (xm_J x5)), (6, .int (xm_J x6))] [.int (xm_J s0), .int (xm_J s1), .ref (xm_B (xx_G X) + 102)] := by
  unfold f_X11_walkNear_j133
  refine xg_iast hC (xm_hK hI rfl) rfl g1 g0 (xm_kpF hI rfl) dX11_walkNear_133 ?_
  refine xg_st (fun σ33 => ?_)
  refine xg_aload_n hC dX11_walkNear_134 rfl ?_
  refine xg_getW hC (b := 102) (xm_hK hI rfl) rfl (xm_wK hI rfl) (by decide) xl_F_X11_173 dX11_walkNear_135 ?_
  refine xg_iload hC dX11_walkNear_138 rfl ?_
  refine xg_aload_n hC dX11_walkNear_140 rfl ?_
  refine xg_getW hC (b := 102) (xm_hK hI rfl) rfl (xm_wK hI rfl) (by decide) xl_F_X11_173 dX11_walkNear_141 ?_
  refine xg_iload hC dX11_walkNear_144 rfl ?_
  refine xg_iald hC (xm_hK hI rfl) rfl h6 dX11_walkNear_146 (fun b34 k35 => ?_)
  refine xg_if_ge hC k35 154 dX11_walkNear_147 rfl (fun c36 => ?_) (fun c37 => ?_)
  · refine xg_iconst hC dX11_walkNear_150 ?_
    refine xg_goto hC 163 dX11_walkNear_151 rfl ?_
    exact (w_X11_walkNear_j163 hC hQ hI hK37 σ33 (-1 : Int) x6 x1 x2 x3 x4 x5 x6 (xm_inc _ rfl) h6 h1 h2 h3 h4 h5 h6)
  refine xg_aload_n hC dX11_walkNear_154 rfl ?_
  refine xg_getW hC (b := 102) (xm_hK hI rfl) rfl (xm_wK hI rfl) (by decide) xl_F_X11_173 dX11_walkNear_155 ?_
  refine xg_iload hC dX11_walkNear_158 rfl ?_
  refine xg_iald hC (xm_hK hI rfl) rfl h6 dX11_walkNear_160 (fun b43 k44 => ?_)
  refine xg_iconst hC dX11_walkNear_161 ?_
  refine xg_iadd hC dX11_walkNear_162 ?_
  exact (w_X11_walkNear_j163 hC hQ hI hK37 σ33 (xm_w ((σ33.1 102 x6.toNat) + (1 : Int))) x6 x1 x2 x3 x4 x5 x6 (xm_w_in _) h6 h1 h2 h3 h4 h5 h6)
theorem w_X11_walkNear_b37 {X : xm_X} (hC : xm_C X yX11_walkNear.cls cX11_walkNear 9 4 0 0) (hQ : xm_Rt X 0 none 0 0) (hI : xx_I X = xm_I) {K184 : xm_Mem → Int → Int → Int → Option xm_Out} (hK184 : ∀ (σ : xm_Mem) (x2 : Int) (x3 : Int) (x4 : Int), xm_in x2 → xm_in x3 → xm_in x4 → xm_V X 0 0 (K184 σ x2 x3 x4) σ 184 [(0, .ref (xm_B (xx_G X) + 84)), (2, .int (xm_J x2)), (3, .int (xm_J x3)), (4, .int (xm_J x4))] []) {self : xm_Mem → Int → Int → Int → Int → Int → Option xm_Out} (hself : ∀ (σ : xm_Mem) (x1 : Int) (x2 : Int) (x3 : Int) (x4 : Int) (x5 : Int), xm_in x1 → xm_in x2 → xm_in x3 → xm_in x4 → xm_in x5 → xm_V X 0 0 (self σ x1 x2 x3 x4 x5) σ 37 [(0, .ref (xm_B (xx_G X) + 84)), (1, .int (xm_J x1)), (2, .int (xm_J x2)), (3, .int (xm_J x3)), (4, .int (xm_J x4)), (5, .int (xm_J x5))] []) (σ : xm_Mem) (x1 : Int) (x2 : Int) (x3 : Int) (x4 : Int) (x5 : Int) (h1 : xm_in x1) (h2 : xm_in x2) (h3 : xm_in x3) (h4 : xm_in x4) (h5 : xm_in x5) : xm_V X 0 0 (f_X11_walkNear_b37 K184 self σ x1 x2 x3 x4 x5) σ 37 [(0, .ref (xm_B (xx_G X) + 84)), (1, .int (xm_J x1)), (2, .int (xm_J x2)), (3, .int (xm_J x3)), (4, .int (xm_J x4)), (5, .int (xm_J x5))] [] := by
  unfold f_X11_walkNear_b37
  refine xg_iload hC dX11_walkNear_37 rfl ?_
  refine xg_aload_n hC dX11_walkNear_39 rfl ?_
  refine xg_getI hC (xm_hK hI rfl) rfl xl_F_X11_120 dX11_walkNear_40 (fun k6 => ?_)
  refine xg_icmp_ge hC h5 k6 184 dX11_walkNear_43 rfl (fun c7 => ?_) (fun c8 => ?_)
  · refine xg_aload_n hC dX11_walkNear_46 rfl ?_
    refine xg_getW hC (b := 97) (xm_hK hI rfl) rfl (xm_wK hI rfl) (by decide) xl_F_X11_129 dX11_walkNear_47 ?_
    refine xg_iload hC dX11_walkNear_50 rfl ?_
    refine xg_iald hC (xm_hK hI rfl) rfl h5 dX11_walkNear_52 (fun b9 k10 => ?_)
    refine xg_vI k10 (fun v11 k12 => ?_)
    refine xg_istore hC (l' := [(6, .int (xm_J v11)), (0, .ref (xm_B (xx_G X) + 84)), (1, .int (xm_J x1)), (2, .int (xm_J x2)), (3, .int (xm_J x3)), (4, .int (xm_J x4)), (5, .int (xm_J x5))]) dX11_walkNear_53 (by decide) rfl ?_
    refine xg_iload hC dX11_walkNear_55 rfl ?_
    refine xg_iload_n hC dX11_walkNear_57 rfl ?_
    refine xg_icmp_eq hC k12 h1 178 dX11_walkNear_58 rfl (fun c13 => ?_) (fun c14 => ?_)
    · refine xg_iinc hC (l' := [(5, .int (xm_J (xm_w (x5 + 1)))), (6, .int (xm_J v11)), (0, .ref (xm_B (xx_G X) + 84)), (1, .int (xm_J x1)), (2, .int (xm_J x2)), (3, .int (xm_J x3)), (4, .int (xm_J x4))]) dX11_walkNear_178 (by decide) 6 rfl rfl ?_
      refine xg_goto hC 37 dX11_walkNear_181 rfl ?_
      exact xg_pick [2, 3, 4, 5, 6, 0] rfl (hself σ x1 x2 x3 x4 (xm_w (x5 + 1)) h1 h2 h3 h4 (xm_w_in _))
    refine xg_aload_n hC dX11_walkNear_61 rfl ?_
    refine xg_getW hC (b := 96) (xm_hK hI rfl) rfl (xm_wK hI rfl) (by decide) xl_F_X11_117 dX11_walkNear_62 ?_
    refine xg_iload hC dX11_walkNear_65 rfl ?_
    refine xg_zald hC (xm_hK hI rfl) rfl k12 dX11_walkNear_67 (fun b15 k16 => ?_)
    refine xg_if_ne hC (xm_in01 k16) 74 dX11_walkNear_68 rfl (fun c17 => ?_) (fun c18 => ?_)
    · refine xg_goto hC 178 dX11_walkNear_71 rfl ?_
      refine xg_iinc hC (l' := [(5, .int (xm_J (xm_w (x5 + 1)))), (6, .int (xm_J v11)), (0, .ref (xm_B (xx_G X) + 84)), (1, .int (xm_J x1)), (2, .int (xm_J x2)), (3, .int (xm_J x3)), (4, .int (xm_J x4))]) dX11_walkNear_178 (by decide) 6 rfl rfl ?_
      refine xg_goto hC 37 dX11_walkNear_181 rfl ?_
      exact xg_pick [2, 3, 4, 5, 6, 0] rfl (hself σ x1 x2 x3 x4 (xm_w (x5 + 1)) h1 h2 h3 h4 (xm_w_in _))
    refine xg_aload_n hC dX11_walkNear_74 rfl ?_
    refine xg_getW hC (b := 102) (xm_hK hI rfl) rfl (xm_wK hI rfl) (by decide) xl_F_X11_173 dX11_walkNear_75 ?_
    refine xg_aload_n hC dX11_walkNear_78 rfl ?_
    refine xg_iload hC dX11_walkNear_79 rfl ?_
    refine xg_callV hC (ci := 10) (w_X11_father hI σ v11 k12) xl_M_X11_76 xl_V_X11_father (xm_hK (a := 84) (kd := 0) (n := 10) hI rfl).2 ((xm_hK (a := 84) (kd := 0) (n := 10) hI rfl).1 _) (by decide) rfl (by decide) ⟨by decide, by decide⟩ dX11_walkNear_81 (rest := [.ref (xm_B (xx_G X) + 102)]) rfl rfl (Nat.le_of_ble_eq_true rfl) rfl rfl (st2 := fun o => .int (xm_J o.2) :: [.ref (xm_B (xx_G X) + 102)]) (fun _ => rfl) (fun o19 k20 => ?_)
    refine xg_iald hC (xm_hK hI rfl) rfl k20 dX11_walkNear_84 (fun b21 k22 => ?_)
    refine xg_vI k22 (fun v23 k24 => ?_)
    refine xg_istore hC (l' := [(7, .int (xm_J v23)), (6, .int (xm_J v11)), (0, .ref (xm_B (xx_G X) + 84)), (1, .int (xm_J x1)), (2, .int (xm_J x2)), (3, .int (xm_J x3)), (4, .int (xm_J x4)), (5, .int (xm_J x5))]) dX11_walkNear_85 (by decide) rfl ?_
    refine xg_aload_n hC dX11_walkNear_87 rfl ?_
    refine xg_getW hC (b := 102) (xm_hK hI rfl) rfl (xm_wK hI rfl) (by decide) xl_F_X11_173 dX11_walkNear_88 ?_
    refine xg_aload_n hC dX11_walkNear_91 rfl ?_
    refine xg_iload hC dX11_walkNear_92 rfl ?_
    refine xg_callV hC (ci := 10) (w_X11_mother hI o19.1 v11 k12) xl_M_X11_79 xl_V_X11_mother (xm_hK (a := 84) (kd := 0) (n := 10) hI rfl).2 ((xm_hK (a := 84) (kd := 0) (n := 10) hI rfl).1 _) (by decide) rfl (by decide) ⟨by decide, by decide⟩ dX11_walkNear_94 (rest := [.ref (xm_B (xx_G X) + 102)]) rfl rfl (Nat.le_of_ble_eq_true rfl) rfl rfl (st2 := fun o => .int (xm_J o.2) :: [.ref (xm_B (xx_G X) + 102)]) (fun _ => rfl) (fun o25 k26 => ?_)
    refine xg_iald hC (xm_hK hI rfl) rfl k26 dX11_walkNear_97 (fun b27 k28 => ?_)
    refine xg_vI k28 (fun v29 k30 => ?_)
    refine xg_istore hC (l' := [(8, .int (xm_J v29)), (7, .int (xm_J v23)), (6, .int (xm_J v11)), (0, .ref (xm_B (xx_G X) + 84)), (1, .int (xm_J x1)), (2, .int (xm_J x2)), (3, .int (xm_J x3)), (4, .int (xm_J x4)), (5, .int (xm_J x5))]) dX11_walkNear_98 (by decide) rfl ?_
    refine xg_aload_n hC dX11_walkNear_100 rfl ?_
    refine xg_getW hC (b := 102) (xm_hK hI rfl) rfl (xm_wK hI rfl) (by decide) xl_F_X11_173 dX11_walkNear_101 ?_
    refine xg_iload hC dX11_walkNear_104 rfl ?_
    refine xg_iload hC dX11_walkNear_106 rfl ?_
    refine xg_if_ge hC k24 116 dX11_walkNear_108 rfl (fun c31 => ?_) (fun c32 => ?_)
    · refine xg_iload hC dX11_walkNear_111 rfl ?_
      refine xg_goto hC 133 dX11_walkNear_113 rfl ?_
      exact xg_pick [3, 4, 5, 6, 7, 8, 2] rfl (w_X11_walkNear_j133 hC hQ hI hself o25.1 v29 v11 x1 x2 x3 x4 x5 v11 k30 k12 h1 h2 h3 h4 h5 k12)
    refine xg_iload hC dX11_walkNear_116 rfl ?_
    refine xg_if_ge hC k30 126 dX11_walkNear_118 rfl (fun c45 => ?_) (fun c46 => ?_)
    · refine xg_iload hC dX11_walkNear_121 rfl ?_
      refine xg_goto hC 133 dX11_walkNear_123 rfl ?_
      exact xg_pick [3, 4, 5, 6, 7, 8, 2] rfl (w_X11_walkNear_j133 hC hQ hI hself o25.1 v23 v11 x1 x2 x3 x4 x5 v11 k24 k12 h1 h2 h3 h4 h5 k12)
    refine xg_iload hC dX11_walkNear_126 rfl ?_
    refine xg_iload hC dX11_walkNear_128 rfl ?_
    refine xg_min hC k24 k30 (by decide) xl_M_X11_63 ⟨by decide, by decide⟩ (Nat.le_of_ble_eq_true rfl) dX11_walkNear_130 ?_
    exact xg_pick [3, 4, 5, 6, 7, 8, 2] rfl (w_X11_walkNear_j133 hC hQ hI hself o25.1 (xm_min v23 v29) v11 x1 x2 x3 x4 x5 v11 (xm_min_in k24 k30) k12 h1 h2 h3 h4 h5 k12)
  exact xg_pick [0, 2, 3, 4] rfl (hK184 σ x2 x3 x4 h2 h3 h4)
theorem w_X11_walkNear_l37 {X : xm_X} (hC : xm_C X yX11_walkNear.cls cX11_walkNear 9 4 0 0) (hQ : xm_Rt X 0 none 0 0) (hI : xx_I X = xm_I) {K184 : xm_Mem → Int → Int → Int → Option xm_Out} (hK184 : ∀ (σ : xm_Mem) (x2 : Int) (x3 : Int) (x4 : Int), xm_in x2 → xm_in x3 → xm_in x4 → xm_V X 0 0 (K184 σ x2 x3 x4) σ 184 [(0, .ref (xm_B (xx_G X) + 84)), (2, .int (xm_J x2)), (3, .int (xm_J x3)), (4, .int (xm_J x4))] []) (n : Nat) : ∀ (σ : xm_Mem) (x1 : Int) (x2 : Int) (x3 : Int) (x4 : Int) (x5 : Int), xm_in x1 → xm_in x2 → xm_in x3 → xm_in x4 → xm_in x5 → xm_V X 0 0 (f_X11_walkNear_l37 K184 n σ x1 x2 x3 x4 x5) σ 37 [(0, .ref (xm_B (xx_G X) + 84)), (1, .int (xm_J x1)), (2, .int (xm_J x2)), (3, .int (xm_J x3)), (4, .int (xm_J x4)), (5, .int (xm_J x5))] [] := by
  induction n with
  | zero => intro σ x1 x2 x3 x4 x5 h1 h2 h3 h4 h5; exact xg_none
  | succ n ih => intro σ x1 x2 x3 x4 x5 h1 h2 h3 h4 h5; exact w_X11_walkNear_b37 hC hQ hI hK184 ih σ x1 x2 x3 x4 x5 h1 h2 h3 h4 h5
theorem w_X11_walkNear_b197 {X : xm_X} (hC : xm_C X yX11_walkNear.cls cX11_walkNear 9 4 0 0) (hQ : xm_Rt X 0 none 0 0) (hI : xx_I X = xm_I) {K274 : xm_Mem → Int → Int → Int → Int → Option xm_Out} (hK274 : ∀ (σ : xm_Mem) (x2 : Int) (x3 : Int) (x4 : Int) (x5 : Int), xm_in x2 → xm_in x3 → xm_in x4 → xm_in x5 → xm_V X 0 0 (K274 σ x2 x3 x4 x5) σ 274 [(0, .ref (xm_B (xx_G X) + 84)), (2, .int (xm_J x2)), (3, .int (xm_J x3)), (4, .int (xm_J x4)), (5, .int (xm_J x5))] []) {self : xm_Mem → Int → Int → Int → Int → Int → Option xm_Out} (hself : ∀ (σ : xm_Mem) (x2 : Int) (x3 : Int) (x4 : Int) (x5 : Int) (x6 : Int), xm_in x2 → xm_in x3 → xm_in x4 → xm_in x5 → xm_in x6 → xm_V X 0 0 (self σ x2 x3 x4 x5 x6) σ 197 [(0, .ref (xm_B (xx_G X) + 84)), (2, .int (xm_J x2)), (3, .int (xm_J x3)), (4, .int (xm_J x4)), (5, .int (xm_J x5)), (6, .int (xm_J x6))] []) (σ : xm_Mem) (x2 : Int) (x3 : Int) (x4 : Int) (x5 : Int) (x6 : Int) (h2 : xm_in x2) (h3 : xm_in x3) (h4 : xm_in x4) (h5 : xm_in x5) (h6 : xm_in x6) : xm_V X 0 0 (f_X11_walkNear_b197 K274 self σ x2 x3 x4 x5 x6) σ 197 [(0, .ref (xm_B (xx_G X) + 84)), (2, .int (xm_J x2)), (3, .int (xm_J x3)), (4, .int (xm_J x4)), (5, .int (xm_J x5)), (6, .int (xm_J x6))] [] := by
  unfold f_X11_walkNear_b197
  refine xg_iload hC dX11_walkNear_197 rfl ?_
  refine xg_aload_n hC dX11_walkNear_199 rfl ?_
  refine xg_getI hC (xm_hK hI rfl) rfl xl_F_X11_120 dX11_walkNear_200 (fun k50 => ?_)
  refine xg_icmp_ge hC h6 k50 274 dX11_walkNear_203 rfl (fun c51 => ?_) (fun c52 => ?_)
  · refine xg_aload_n hC dX11_walkNear_206 rfl ?_
    refine xg_getW hC (b := 102) (xm_hK hI rfl) rfl (xm_wK hI rfl) (by decide) xl_F_X11_173 dX11_walkNear_207 ?_
    refine xg_aload_n hC dX11_walkNear_210 rfl ?_
    refine xg_getW hC (b := 97) (xm_hK hI rfl) rfl (xm_wK hI rfl) (by decide) xl_F_X11_129 dX11_walkNear_211 ?_
    refine xg_iload hC dX11_walkNear_214 rfl ?_
    refine xg_iald hC (xm_hK hI rfl) rfl h6 dX11_walkNear_216 (fun b53 k54 => ?_)
    refine xg_vI k54 (fun v55 k56 => ?_)
    refine xg_iald hC (xm_hK hI rfl) rfl k56 dX11_walkNear_217 (fun b57 k58 => ?_)
    refine xg_iload hC dX11_walkNear_218 rfl ?_
    refine xg_icmp_ne hC k58 h5 268 dX11_walkNear_220 rfl (fun c59 => ?_) (fun c60 => ?_)
    · refine xg_aload_n hC dX11_walkNear_223 rfl ?_
      refine xg_aload_n hC dX11_walkNear_224 rfl ?_
      refine xg_getW hC (b := 97) (xm_hK hI rfl) rfl (xm_wK hI rfl) (by decide) xl_F_X11_129 dX11_walkNear_225 ?_
      refine xg_iload hC dX11_walkNear_228 rfl ?_
      refine xg_iald hC (xm_hK hI rfl) rfl h6 dX11_walkNear_230 (fun b61 k62 => ?_)
      refine xg_iload_n hC dX11_walkNear_231 rfl ?_
      refine xg_iload_n hC dX11_walkNear_232 rfl ?_
      refine xg_callV hC (ci := 10) (w_X11_counts hI σ (σ.1 97 x6.toNat) x2 x3 k62 h2 h3) xl_M_X11_160 xl_V_X11_counts (xm_hK (a := 84) (kd := 0) (n := 10) hI rfl).2 ((xm_hK (a := 84) (kd := 0) (n := 10) hI rfl).1 _) (by decide) rfl (by decide) ⟨by decide, by decide⟩ dX11_walkNear_233 (rest := []) rfl rfl (Nat.le_of_ble_eq_true rfl) rfl rfl (st2 := fun o => .int (xm_J o.2) :: []) (fun _ => rfl) (fun o63 k64 => ?_)
      refine xg_if_ne hC (xm_in01 k64) 242 dX11_walkNear_236 rfl (fun c65 => ?_) (fun c66 => ?_)
      · refine xg_goto hC 268 dX11_walkNear_239 rfl ?_
        refine xg_iinc hC (l' := [(6, .int (xm_J (xm_w (x6 + 1)))), (0, .ref (xm_B (xx_G X) + 84)), (2, .int (xm_J x2)), (3, .int (xm_J x3)), (4, .int (xm_J x4)), (5, .int (xm_J x5))]) dX11_walkNear_268 (by decide) 5 rfl rfl ?_
        refine xg_goto hC 197 dX11_walkNear_271 rfl ?_
        exact xg_pick [1, 2, 3, 4, 5, 0] rfl (hself o63.1 x2 x3 x4 x5 (xm_w (x6 + 1)) h2 h3 h4 h5 (xm_w_in _))
      refine xg_aload_n hC dX11_walkNear_242 rfl ?_
      refine xg_getW hC (b := 101) (xm_hK hI rfl) rfl (xm_wK hI rfl) (by decide) xl_F_X11_163 dX11_walkNear_243 ?_
      refine xg_aload_n hC dX11_walkNear_246 rfl ?_
      refine xg_getI hC (xm_hK hI rfl) rfl xl_F_X11_166 dX11_walkNear_247 (fun k67 => ?_)
      refine xg_aload_n hC dX11_walkNear_250 rfl ?_
      refine xg_getW hC (b := 97) (xm_hK hI rfl) rfl (xm_wK hI rfl) (by decide) xl_F_X11_129 dX11_walkNear_251 ?_
      refine xg_iload hC dX11_walkNear_254 rfl ?_
      refine xg_iald hC (xm_hK hI rfl) rfl h6 dX11_walkNear_256 (fun b68 k69 => ?_)
      refine xg_iast hC (xm_hK hI rfl) rfl k67 k69 (xm_kpF hI rfl) dX11_walkNear_257 ?_
      refine xg_st (fun σ70 => ?_)
      refine xg_aload_n hC dX11_walkNear_258 rfl ?_
      refine xg_dup hC dX11_walkNear_259 rfl ?_
      refine xg_getI hC (xm_hK hI rfl) rfl xl_F_X11_166 dX11_walkNear_260 (fun k71 => ?_)
      refine xg_iconst hC dX11_walkNear_263 ?_
      refine xg_iadd hC dX11_walkNear_264 ?_
      refine xg_putI hC (xm_hK hI rfl) rfl rfl (xm_w_in _) (xm_kpK hI rfl) xl_F_X11_166 dX11_walkNear_265 ?_
      refine xg_st (fun σ72 => ?_)
      refine xg_iinc hC (l' := [(6, .int (xm_J (xm_w (x6 + 1)))), (0, .ref (xm_B (xx_G X) + 84)), (2, .int (xm_J x2)), (3, .int (xm_J x3)), (4, .int (xm_J x4)), (5, .int (xm_J x5))]) dX11_walkNear_268 (by decide) 5 rfl rfl ?_
      refine xg_goto hC 197 dX11_walkNear_271 rfl ?_
      exact xg_pick [1, 2, 3, 4, 5, 0] rfl (hself σ72 x2 x3 x4 x5 (xm_w (x6 + 1)) h2 h3 h4 h5 (xm_w_in _))
    refine xg_iinc hC (l' := [(6, .int (xm_J (xm_w (x6 + 1)))), (0, .ref (xm_B (xx_G X) + 84)), (2, .int (xm_J x2)), (3, .int (xm_J x3)), (4, .int (xm_J x4)), (5, .int (xm_J x5))]) dX11_walkNear_268 (by decide) 5 rfl rfl ?_
    refine xg_goto hC 197 dX11_walkNear_271 rfl ?_
    exact xg_pick [1, 2, 3, 4, 5, 0] rfl (hself σ x2 x3 x4 x5 (xm_w (x6 + 1)) h2 h3 h4 h5 (xm_w_in _))
  exact xg_pick [0, 1, 2, 3, 4] rfl (hK274 σ x2 x3 x4 x5 h2 h3 h4 h5)
theorem w_X11_walkNear_l197 {X : xm_X} (hC : xm_C X yX11_walkNear.cls cX11_walkNear 9 4 0 0) (hQ : xm_Rt X 0 none 0 0) (hI : xx_I X = xm_I) {K274 : xm_Mem → Int → Int → Int → Int → Option xm_Out} (hK274 : ∀ (σ : xm_Mem) (x2 : Int) (x3 : Int) (x4 : Int) (x5 : Int), xm_in x2 → xm_in x3 → xm_in x4 → xm_in x5 → xm_V X 0 0 (K274 σ x2 x3 x4 x5) σ 274 [(0, .ref (xm_B (xx_G X) + 84)), (2, .int (xm_J x2)), (3, .int (xm_J x3)), (4, .int (xm_J x4)), (5, .int (xm_J x5))] []) (n : Nat) : ∀ (σ : xm_Mem) (x2 : Int) (x3 : Int) (x4 : Int) (x5 : Int) (x6 : Int), xm_in x2 → xm_in x3 → xm_in x4 → xm_in x5 → xm_in x6 → xm_V X 0 0 (f_X11_walkNear_l197 K274 n σ x2 x3 x4 x5 x6) σ 197 [(0, .ref (xm_B (xx_G X) + 84)), (2, .int (xm_J x2)), (3, .int (xm_J x3)), (4, .int (xm_J x4)), (5, .int (xm_J x5)), (6, .int (xm_J x6))] [] := by
  induction n with
  | zero => intro σ x2 x3 x4 x5 x6 h2 h3 h4 h5 h6; exact xg_none
  | succ n ih => intro σ x2 x3 x4 x5 x6 h2 h3 h4 h5 h6; exact w_X11_walkNear_b197 hC hQ hI hK274 ih σ x2 x3 x4 x5 x6 h2 h3 h4 h5 h6
theorem w_X11_walkNear_b187 {X : xm_X} (hC : xm_C X yX11_walkNear.cls cX11_walkNear 9 4 0 0) (hQ : xm_Rt X 0 none 0 0) (hI : xx_I X = xm_I)   {self : xm_Mem → Int → Int → Int → Int → Option xm_Out} (hself : ∀ (σ : xm_Mem) (x2 : Int) (x3 : Int) (x4 : Int) (x5 : Int), xm_in x2 → xm_in x3 → xm_in x4 → xm_in x5 → xm_V X 0 0 (self σ x2 x3 x4 x5) σ 187 [(0, .ref (xm_B (xx_G X) + 84)), (2, .int (xm_J x2)), (3, .int (xm_J x3)), (4, .int (xm_J x4)), (5, .int (xm_J x5))] []) (σ : xm_Mem) (x2 : Int) (x3 : Int) (x4 : Int) (x5 : Int) (h2 : xm_in x2) (h3 : xm_in x3) (h4 : xm_in x4) (h5 : xm_in x5) : xm_V X 0 0 (f_X11_walkNear_b187  self σ x2 x3 x4 x5) σ 187 [(0, .ref (xm_B (xx_G X) + 84)), (2, .int (xm_J x2)), (3, .int (xm_J x3)), (4, .int (xm_J x4)), (5, .int (xm_J x5))] [] := by
  unfold f_X11_walkNear_b187
  refine xg_iload hC dX11_walkNear_187 rfl ?_
  refine xg_iload hC dX11_walkNear_189 rfl ?_
  refine xg_icmp_gt hC h5 h4 280 dX11_walkNear_191 rfl (fun c48 => ?_) (fun c49 => ?_)
  · exact xg_vret hC hQ dX11_walkNear_280
  refine xg_iconst hC dX11_walkNear_194 ?_
  refine xg_istore hC (l' := [(6, .int (xm_J (0 : Int))), (0, .ref (xm_B (xx_G X) + 84)), (2, .int (xm_J x2)), (3, .int (xm_J x3)), (4, .int (xm_J x4)), (5, .int (xm_J x5))]) dX11_walkNear_195 (by decide) rfl ?_
  refine xg_pick [1, 2, 3, 4, 5, 0] rfl (w_X11_walkNear_l197 hC hQ hI ?_ _ σ x2 x3 x4 x5 (0 : Int) h2 h3 h4 h5 (xm_inc _ rfl))
  intro σ_73 x2_73 x3_73 x4_73 x5_73 h2_73 h3_73 h4_73 h5_73
  refine xg_iinc hC (l' := [(5, .int (xm_J (xm_w (x5_73 + 1)))), (0, .ref (xm_B (xx_G X) + 84)), (2, .int (xm_J x2_73)), (3, .int (xm_J x3_73)), (4, .int (xm_J x4_73))]) dX11_walkNear_274 (by decide) 4 rfl rfl ?_
  refine xg_goto hC 187 dX11_walkNear_277 rfl ?_
  exact xg_pick [1, 2, 3, 4, 0] rfl (hself σ_73 x2_73 x3_73 x4_73 (xm_w (x5_73 + 1)) h2_73 h3_73 h4_73 (xm_w_in _))
theorem w_X11_walkNear_l187 {X : xm_X} (hC : xm_C X yX11_walkNear.cls cX11_walkNear 9 4 0 0) (hQ : xm_Rt X 0 none 0 0) (hI : xx_I X = xm_I)   (n : Nat) : ∀ (σ : xm_Mem) (x2 : Int) (x3 : Int) (x4 : Int) (x5 : Int), xm_in x2 → xm_in x3 → xm_in x4 → xm_in x5 → xm_V X 0 0 (f_X11_walkNear_l187  n σ x2 x3 x4 x5) σ 187 [(0, .ref (xm_B (xx_G X) + 84)), (2, .int (xm_J x2)), (3, .int (xm_J x3)), (4, .int (xm_J x4)), (5, .int (xm_J x5))] [] := by
  induction n with
  | zero => intro σ x2 x3 x4 x5 h2 h3 h4 h5; exact xg_none
  | succ n ih => intro σ x2 x3 x4 x5 h2 h3 h4 h5; exact w_X11_walkNear_b187 hC hQ hI ih σ x2 x3 x4 x5 h2 h3 h4 h5
theorem w_X11_walkNear {Γ : xm_Gm} {I : xm_Mem → Prop} {la : Launch} (hE : I = xm_I) (σ : xm_Mem) (x1 : Int) (x2 : Int) (x3 : Int) (h1 : xm_in x1) (h2 : xm_in x2) (h3 : xm_in x3) : ∀ o, f_X11_walkNear σ x1 x2 x3 = some o → xm_M Γ I la yX11_walkNear cX11_walkNear 9 none 4 0 0 [.ref (xm_B Γ + 84), .int (xm_J x1), .int (xm_J x2), .int (xm_J x3)] σ 0 o := by
  refine xg_enter (by decide) (by simp [lg_sl, xm_rf_cat, xm_cati, xm_catr, xm_catl]) (fun X hG hI0 hla hC hQ hname => ?_)
  subst hG
  have hI := hI0.trans hE
  clear hI0 hla
  unfold f_X11_walkNear
  refine xg_pick [0, 1, 2, 3] (l' := [(0, .ref (xm_B (xx_G X) + 84)), (1, .int (xm_J x1)), (2, .int (xm_J x2)), (3, .int (xm_J x3))]) rfl ?_
  refine xg_iconst hC dX11_walkNear_0 ?_
  refine xg_istore hC (l' := [(4, .int (xm_J (0 : Int))), (0, .ref (xm_B (xx_G X) + 84)), (1, .int (xm_J x1)), (2, .int (xm_J x2)), (3, .int (xm_J x3))]) dX11_walkNear_1 (by decide) rfl ?_
  refine xg_pick [1, 2, 3, 4, 0] rfl (w_X11_walkNear_l3 hC hQ hI ?_ _ σ x1 x2 x3 (0 : Int) h1 h2 h3 (xm_inc _ rfl))
  intro σ_4 x1_4 x2_4 x3_4 h1_4 h2_4 h3_4
  refine xg_aload_n hC dX11_walkNear_24 rfl ?_
  refine xg_getW hC (b := 102) (xm_hK hI rfl) rfl (xm_wK hI rfl) (by decide) xl_F_X11_173 dX11_walkNear_25 ?_
  refine xg_iload_n hC dX11_walkNear_28 rfl ?_
  refine xg_iconst hC dX11_walkNear_29 ?_
  refine xg_iast hC (xm_hK hI rfl) rfl h1_4 (xm_inc _ rfl) (xm_kpF hI rfl) dX11_walkNear_30 ?_
  refine xg_st (fun σ5 => ?_)
  refine xg_iconst hC dX11_walkNear_31 ?_
  refine xg_istore hC (l' := [(4, .int (xm_J (0 : Int))), (0, .ref (xm_B (xx_G X) + 84)), (1, .int (xm_J x1_4)), (2, .int (xm_J x2_4)), (3, .int (xm_J x3_4))]) dX11_walkNear_32 (by decide) rfl ?_
  refine xg_iconst hC dX11_walkNear_34 ?_
  refine xg_istore hC (l' := [(5, .int (xm_J (0 : Int))), (4, .int (xm_J (0 : Int))), (0, .ref (xm_B (xx_G X) + 84)), (1, .int (xm_J x1_4)), (2, .int (xm_J x2_4)), (3, .int (xm_J x3_4))]) dX11_walkNear_35 (by decide) rfl ?_
  refine xg_pick [2, 3, 4, 5, 1, 0] rfl (w_X11_walkNear_l37 hC hQ hI ?_ _ σ5 x1_4 x2_4 x3_4 (0 : Int) (0 : Int) h1_4 h2_4 h3_4 (xm_inc _ rfl) (xm_inc _ rfl))
  intro σ_47 x2_47 x3_47 x4_47 h2_47 h3_47 h4_47
  refine xg_iconst hC dX11_walkNear_184 ?_
  refine xg_istore hC (l' := [(5, .int (xm_J (0 : Int))), (0, .ref (xm_B (xx_G X) + 84)), (2, .int (xm_J x2_47)), (3, .int (xm_J x3_47)), (4, .int (xm_J x4_47))]) dX11_walkNear_185 (by decide) rfl ?_
  exact xg_pick [1, 2, 3, 4, 0] rfl (w_X11_walkNear_l187 hC hQ hI _ σ_47 x2_47 x3_47 x4_47 (0 : Int) h2_47 h3_47 h4_47 (xm_inc _ rfl))
theorem w_X11_lineOf {Γ : xm_Gm} {I : xm_Mem → Prop} {la : Launch} (hE : I = xm_I) (σ : xm_Mem) (x1 : Int) (x2 : Int) (x3 : Int) (h1 : xm_in x1) (h2 : xm_in x2) (h3 : xm_in x3) : ∀ o, f_X11_lineOf σ x1 x2 x3 = some o → xm_M Γ I la yX11_lineOf cX11_lineOf 4 none 71 0 0 [.ref (xm_B Γ + 84), .int (xm_J x1), .int (xm_J x2), .int (xm_J x3)] σ 0 o := by
  refine xg_enter (by decide) (by simp [lg_sl, xm_rf_cat, xm_cati, xm_catr, xm_catl]) (fun X hG hI0 hla hC hQ hname => ?_)
  subst hG
  have hI := hI0.trans hE
  clear hI0 hla
  unfold f_X11_lineOf
  refine xg_pick [0, 1, 2, 3] (l' := [(0, .ref (xm_B (xx_G X) + 84)), (1, .int (xm_J x1)), (2, .int (xm_J x2)), (3, .int (xm_J x3))]) rfl ?_
  refine xg_aload_n hC dX11_lineOf_0 rfl ?_
  refine xg_callV hC (ci := 10) (w_X11_reckon hI σ ) xl_M_X11_179 xl_V_X11_reckon (xm_hK (a := 84) (kd := 0) (n := 10) hI rfl).2 ((xm_hK (a := 84) (kd := 0) (n := 10) hI rfl).1 _) (by decide) rfl (by decide) ⟨by decide, by decide⟩ dX11_lineOf_1 (rest := []) rfl rfl (Nat.le_of_ble_eq_true rfl) rfl rfl (st2 := fun o => []) (fun _ => rfl) (fun o1 k2 => ?_)
  refine xg_aload_n hC dX11_lineOf_4 rfl ?_
  refine xg_iconst hC dX11_lineOf_5 ?_
  refine xg_putI hC (xm_hK hI rfl) rfl rfl (xm_inc _ rfl) (xm_kpK hI rfl) xl_F_X11_166 dX11_lineOf_6 ?_
  refine xg_st (fun σ3 => ?_)
  refine xg_aload_n hC dX11_lineOf_9 rfl ?_
  refine xg_lconst hC dX11_lineOf_10 (v := 0) rfl ?_
  refine xg_putL hC (xm_hK hI rfl) rfl rfl (xm_kp2 hI) xl_F_X11_156 dX11_lineOf_11 ?_
  refine xg_st (fun σ4 => ?_)
  refine xg_aload_n hC dX11_lineOf_14 rfl ?_
  refine xg_getW hC (b := 91) (xm_hK hI rfl) rfl (xm_wK hI rfl) (by decide) xl_F_X11_28 dX11_lineOf_15 ?_
  refine xg_aload_n hC dX11_lineOf_18 rfl ?_
  refine xg_getW hC (b := 94) (xm_hK hI rfl) rfl (xm_wK hI rfl) (by decide) xl_F_X11_25 dX11_lineOf_19 ?_
  refine xg_iload_n hC dX11_lineOf_22 rfl ?_
  refine xg_iald hC (xm_hK hI rfl) rfl h1 dX11_lineOf_23 (fun b5 k6 => ?_)
  refine xg_vI k6 (fun v7 k8 => ?_)
  refine xg_iald hC (xm_hK hI rfl) rfl k8 dX11_lineOf_24 (fun b9 k10 => ?_)
  refine xg_iconst hC dX11_lineOf_25 ?_
  refine xg_icmp_ne hC k10 (xm_inc _ rfl) 39 dX11_lineOf_26 rfl (fun c11 => ?_) (fun c12 => ?_)
  · refine xg_aload_n hC dX11_lineOf_29 rfl ?_
    refine xg_iload_n hC dX11_lineOf_30 rfl ?_
    refine xg_iload_n hC dX11_lineOf_31 rfl ?_
    refine xg_iload_n hC dX11_lineOf_32 rfl ?_
    refine xg_callV hC (ci := 10) (w_X11_walkNear hI σ4 x3 x1 x2 h3 h1 h2) xl_M_X11_183 xl_V_X11_walkNear (xm_hK (a := 84) (kd := 0) (n := 10) hI rfl).2 ((xm_hK (a := 84) (kd := 0) (n := 10) hI rfl).1 _) (by decide) rfl (by decide) ⟨by decide, by decide⟩ dX11_lineOf_33 (rest := []) rfl rfl (Nat.le_of_ble_eq_true rfl) rfl rfl (st2 := fun o => []) (fun _ => rfl) (fun o13 k14 => ?_)
    refine xg_goto hC 46 dX11_lineOf_36 rfl ?_
    exact xg_vret hC hQ dX11_lineOf_46
  refine xg_aload_n hC dX11_lineOf_39 rfl ?_
  refine xg_iload_n hC dX11_lineOf_40 rfl ?_
  refine xg_iload_n hC dX11_lineOf_41 rfl ?_
  refine xg_iload_n hC dX11_lineOf_42 rfl ?_
  refine xg_callV hC (ci := 10) (w_X11_walk hI σ4 x3 x1 x2 h3 h1 h2) xl_M_X11_169 xl_V_X11_walk (xm_hK (a := 84) (kd := 0) (n := 10) hI rfl).2 ((xm_hK (a := 84) (kd := 0) (n := 10) hI rfl).1 _) (by decide) rfl (by decide) ⟨by decide, by decide⟩ dX11_lineOf_43 (rest := []) rfl rfl (Nat.le_of_ble_eq_true rfl) rfl rfl (st2 := fun o => []) (fun _ => rfl) (fun o15 k16 => ?_)
  exact xg_vret hC hQ dX11_lineOf_46
theorem w_X11_placeOf_b2 {X : xm_X} (hC : xm_C X yX11_placeOf.cls cX11_placeOf 3 1 0 0) (hQ : xm_Rt X 1 (some .int) 0 0) (hI : xx_I X = xm_I) {K26 : xm_Mem → Int → Option xm_Out} (hK26 : ∀ (σ : xm_Mem) (x2 : Int), xm_in x2 → xm_V X 0 0 (K26 σ x2) σ 26 [(0, .ref (xm_B (xx_G X) + 84)), (2, .int (xm_J x2))] []) {self : xm_Mem → Int → Int → Option xm_Out} (hself : ∀ (σ : xm_Mem) (x1 : Int) (x2 : Int), xm_in x1 → xm_in x2 → xm_V X 0 0 (self σ x1 x2) σ 2 [(0, .ref (xm_B (xx_G X) + 84)), (1, .int (xm_J x1)), (2, .int (xm_J x2))] []) (σ : xm_Mem) (x1 : Int) (x2 : Int) (h1 : xm_in x1) (h2 : xm_in x2) : xm_V X 0 0 (f_X11_placeOf_b2 K26 self σ x1 x2) σ 2 [(0, .ref (xm_B (xx_G X) + 84)), (1, .int (xm_J x1)), (2, .int (xm_J x2))] [] := by
  unfold f_X11_placeOf_b2
  refine xg_iload_n hC dX11_placeOf_2 rfl ?_
  refine xg_aload_n hC dX11_placeOf_3 rfl ?_
  refine xg_getI hC (xm_hK hI rfl) rfl xl_F_X11_166 dX11_placeOf_4 (fun k1 => ?_)
  refine xg_icmp_ge hC h2 k1 26 dX11_placeOf_7 rfl (fun c2 => ?_) (fun c3 => ?_)
  · refine xg_aload_n hC dX11_placeOf_10 rfl ?_
    refine xg_getW hC (b := 101) (xm_hK hI rfl) rfl (xm_wK hI rfl) (by decide) xl_F_X11_163 dX11_placeOf_11 ?_
    refine xg_iload_n hC dX11_placeOf_14 rfl ?_
    refine xg_iald hC (xm_hK hI rfl) rfl h2 dX11_placeOf_15 (fun b4 k5 => ?_)
    refine xg_iload_n hC dX11_placeOf_16 rfl ?_
    refine xg_icmp_eq hC k5 h1 26 dX11_placeOf_17 rfl (fun c6 => ?_) (fun c7 => ?_)
    · exact xg_pick [0, 2] rfl (hK26 σ x2 h2)
    refine xg_iinc hC (l' := [(2, .int (xm_J (xm_w (x2 + 1)))), (0, .ref (xm_B (xx_G X) + 84)), (1, .int (xm_J x1))]) dX11_placeOf_20 (by decide) 2 rfl rfl ?_
    refine xg_goto hC 2 dX11_placeOf_23 rfl ?_
    exact xg_pick [1, 2, 0] rfl (hself σ x1 (xm_w (x2 + 1)) h1 (xm_w_in _))
  exact xg_pick [0, 2] rfl (hK26 σ x2 h2)
theorem w_X11_placeOf_l2 {X : xm_X} (hC : xm_C X yX11_placeOf.cls cX11_placeOf 3 1 0 0) (hQ : xm_Rt X 1 (some .int) 0 0) (hI : xx_I X = xm_I) {K26 : xm_Mem → Int → Option xm_Out} (hK26 : ∀ (σ : xm_Mem) (x2 : Int), xm_in x2 → xm_V X 0 0 (K26 σ x2) σ 26 [(0, .ref (xm_B (xx_G X) + 84)), (2, .int (xm_J x2))] []) (n : Nat) : ∀ (σ : xm_Mem) (x1 : Int) (x2 : Int), xm_in x1 → xm_in x2 → xm_V X 0 0 (f_X11_placeOf_l2 K26 n σ x1 x2) σ 2 [(0, .ref (xm_B (xx_G X) + 84)), (1, .int (xm_J x1)), (2, .int (xm_J x2))] [] := by
  induction n with
  | zero => intro σ x1 x2 h1 h2; exact xg_none
  | succ n ih => intro σ x1 x2 h1 h2; exact w_X11_placeOf_b2 hC hQ hI hK26 ih σ x1 x2 h1 h2
theorem w_X11_placeOf {Γ : xm_Gm} {I : xm_Mem → Prop} {la : Launch} (hE : I = xm_I) (σ : xm_Mem) (x1 : Int) (h1 : xm_in x1) : ∀ o, f_X11_placeOf σ x1 = some o → xm_M Γ I la yX11_placeOf cX11_placeOf 3 (some .int) 1 0 0 [.ref (xm_B Γ + 84), .int (xm_J x1)] σ 1 o := by
  refine xg_enter (by decide) (by simp [lg_sl, xm_rf_cat, xm_cati, xm_catr, xm_catl]) (fun X hG hI0 hla hC hQ hname => ?_)
  subst hG
  have hI := hI0.trans hE
  clear hI0 hla
  unfold f_X11_placeOf
  refine xg_pick [0, 1] (l' := [(0, .ref (xm_B (xx_G X) + 84)), (1, .int (xm_J x1))]) rfl ?_
  refine xg_iconst hC dX11_placeOf_0 ?_
  refine xg_istore_n hC (l' := [(2, .int (xm_J (0 : Int))), (0, .ref (xm_B (xx_G X) + 84)), (1, .int (xm_J x1))]) dX11_placeOf_1 (by decide) rfl ?_
  refine xg_pick [1, 2, 0] rfl (w_X11_placeOf_l2 hC hQ hI ?_ _ σ x1 (0 : Int) h1 (xm_inc _ rfl))
  intro σ_8 x2_8 h2_8
  refine xg_iload_n hC dX11_placeOf_26 rfl ?_
  refine xg_aload_n hC dX11_placeOf_27 rfl ?_
  refine xg_getI hC (xm_hK hI rfl) rfl xl_F_X11_166 dX11_placeOf_28 (fun k9 => ?_)
  refine xg_icmp_ge hC h2_8 k9 38 dX11_placeOf_31 rfl (fun c10 => ?_) (fun c11 => ?_)
  · refine xg_iload_n hC dX11_placeOf_34 rfl ?_
    refine xg_goto hC 39 dX11_placeOf_35 rfl ?_
    exact xg_iret hC hQ h2_8 dX11_placeOf_39
  refine xg_iconst hC dX11_placeOf_38 ?_
  exact xg_iret hC hQ (xm_inc _ rfl) dX11_placeOf_39
theorem w_X11_lineBits_b4 {X : xm_X} (hC : xm_C X yX11_lineBits.cls cX11_lineBits 4 2 0 0) (hQ : xm_Rt X 6 (some .long) 0 0) (hI : xx_I X = xm_I)   {self : xm_Mem → Int64 → Int → Option xm_Out} (hself : ∀ (σ : xm_Mem) (x1 : Int64) (x3 : Int), xm_in x3 → xm_V X 0 0 (self σ x1 x3) σ 4 [(0, .ref (xm_B (xx_G X) + 84)), (1, .long x1), (3, .int (xm_J x3))] []) (σ : xm_Mem) (x1 : Int64) (x3 : Int) (h3 : xm_in x3) : xm_V X 0 0 (f_X11_lineBits_b4  self σ x1 x3) σ 4 [(0, .ref (xm_B (xx_G X) + 84)), (1, .long x1), (3, .int (xm_J x3))] [] := by
  unfold f_X11_lineBits_b4
  refine xg_iload_n hC dX11_lineBits_4 rfl ?_
  refine xg_aload_n hC dX11_lineBits_5 rfl ?_
  refine xg_getI hC (xm_hK hI rfl) rfl xl_F_X11_166 dX11_lineBits_6 (fun k1 => ?_)
  refine xg_icmp_ge hC h3 k1 30 dX11_lineBits_9 rfl (fun c2 => ?_) (fun c3 => ?_)
  · refine xg_lload_n hC dX11_lineBits_12 rfl ?_
    refine xg_aload_n hC dX11_lineBits_13 rfl ?_
    refine xg_getW hC (b := 101) (xm_hK hI rfl) rfl (xm_wK hI rfl) (by decide) xl_F_X11_163 dX11_lineBits_14 ?_
    refine xg_iload_n hC dX11_lineBits_17 rfl ?_
    refine xg_iald hC (xm_hK hI rfl) rfl h3 dX11_lineBits_18 (fun b4 k5 => ?_)
    refine xg_callS hC (w_X11_bit hI σ (σ.1 101 x3.toNat) k5) xl_M_X11_143 xl_S_X11_bit (by decide) ⟨by decide, by decide⟩ dX11_lineBits_19 (rest := [.long x1]) rfl rfl (Nat.le_of_ble_eq_true rfl) rfl rfl (st2 := fun o => .long (Int64.ofInt o.2) :: [.long x1]) (fun _ => rfl) (fun o6 k7 => ?_)
    refine xg_lor hC dX11_lineBits_22 ?_
    refine xg_vJ (fun v8 => ?_)
    refine xg_lstore_n hC (l' := [(1, .long v8), (0, .ref (xm_B (xx_G X) + 84)), (3, .int (xm_J x3))]) dX11_lineBits_23 (by decide) rfl ?_
    refine xg_iinc hC (l' := [(3, .int (xm_J (xm_w (x3 + 1)))), (1, .long v8), (0, .ref (xm_B (xx_G X) + 84))]) dX11_lineBits_24 (by decide) 2 rfl rfl ?_
    refine xg_goto hC 4 dX11_lineBits_27 rfl ?_
    exact xg_pick [2, 1, 0] rfl (hself o6.1 v8 (xm_w (x3 + 1)) (xm_w_in _))
  refine xg_lload_n hC dX11_lineBits_30 rfl ?_
  exact xg_lret hC hQ dX11_lineBits_31
theorem w_X11_lineBits_l4 {X : xm_X} (hC : xm_C X yX11_lineBits.cls cX11_lineBits 4 2 0 0) (hQ : xm_Rt X 6 (some .long) 0 0) (hI : xx_I X = xm_I)   (n : Nat) : ∀ (σ : xm_Mem) (x1 : Int64) (x3 : Int), xm_in x3 → xm_V X 0 0 (f_X11_lineBits_l4  n σ x1 x3) σ 4 [(0, .ref (xm_B (xx_G X) + 84)), (1, .long x1), (3, .int (xm_J x3))] [] := by
  induction n with
  | zero => intro σ x1 x3 h3; exact xg_none
  | succ n ih => intro σ x1 x3 h3; exact w_X11_lineBits_b4 hC hQ hI ih σ x1 x3 h3
theorem w_X11_lineBits {Γ : xm_Gm} {I : xm_Mem → Prop} {la : Launch} (hE : I = xm_I) (σ : xm_Mem)   : ∀ o, f_X11_lineBits σ  = some o → xm_M Γ I la yX11_lineBits cX11_lineBits 4 (some .long) 2 0 0 [.ref (xm_B Γ + 84)] σ 6 o := by
  refine xg_enter (by decide) (by simp [lg_sl, xm_rf_cat, xm_cati, xm_catr, xm_catl]) (fun X hG hI0 hla hC hQ hname => ?_)
  subst hG
  have hI := hI0.trans hE
  clear hI0 hla
  unfold f_X11_lineBits
  refine xg_pick [0] (l' := [(0, .ref (xm_B (xx_G X) + 84))]) rfl ?_
  refine xg_lconst hC dX11_lineBits_0 (v := 0) rfl ?_
  refine xg_lstore_n hC (l' := [(1, .long (0 : Int64)), (0, .ref (xm_B (xx_G X) + 84))]) dX11_lineBits_1 (by decide) rfl ?_
  refine xg_iconst hC dX11_lineBits_2 ?_
  refine xg_istore_n hC (l' := [(3, .int (xm_J (0 : Int))), (1, .long (0 : Int64)), (0, .ref (xm_B (xx_G X) + 84))]) dX11_lineBits_3 (by decide) rfl ?_
  exact xg_pick [2, 1, 0] rfl (w_X11_lineBits_l4 hC hQ hI _ σ (0 : Int64) (0 : Int) (xm_inc _ rfl))
theorem w_X11_firstOf_b2 {X : xm_X} (hC : xm_C X yX11_firstOf.cls cX11_firstOf 4 2 0 0) (hQ : xm_Rt X 1 (some .int) 0 0) (hI : xx_I X = xm_I) {K32 : xm_Mem → Int → Option xm_Out} (hK32 : ∀ (σ : xm_Mem) (x3 : Int), xm_in x3 → xm_V X 0 0 (K32 σ x3) σ 32 [(0, .ref (xm_B (xx_G X) + 84)), (3, .int (xm_J x3))] []) {self : xm_Mem → Int64 → Int → Option xm_Out} (hself : ∀ (σ : xm_Mem) (x1 : Int64) (x3 : Int), xm_in x3 → xm_V X 0 0 (self σ x1 x3) σ 2 [(0, .ref (xm_B (xx_G X) + 84)), (1, .long x1), (3, .int (xm_J x3))] []) (σ : xm_Mem) (x1 : Int64) (x3 : Int) (h3 : xm_in x3) : xm_V X 0 0 (f_X11_firstOf_b2 K32 self σ x1 x3) σ 2 [(0, .ref (xm_B (xx_G X) + 84)), (1, .long x1), (3, .int (xm_J x3))] [] := by
  unfold f_X11_firstOf_b2
  refine xg_iload_n hC dX11_firstOf_2 rfl ?_
  refine xg_aload_n hC dX11_firstOf_3 rfl ?_
  refine xg_getI hC (xm_hK hI rfl) rfl xl_F_X11_166 dX11_firstOf_4 (fun k1 => ?_)
  refine xg_icmp_ge hC h3 k1 32 dX11_firstOf_7 rfl (fun c2 => ?_) (fun c3 => ?_)
  · refine xg_lload_n hC dX11_firstOf_10 rfl ?_
    refine xg_aload_n hC dX11_firstOf_11 rfl ?_
    refine xg_getW hC (b := 101) (xm_hK hI rfl) rfl (xm_wK hI rfl) (by decide) xl_F_X11_163 dX11_firstOf_12 ?_
    refine xg_iload_n hC dX11_firstOf_15 rfl ?_
    refine xg_iald hC (xm_hK hI rfl) rfl h3 dX11_firstOf_16 (fun b4 k5 => ?_)
    refine xg_callS hC (w_X11_bit hI σ (σ.1 101 x3.toNat) k5) xl_M_X11_143 xl_S_X11_bit (by decide) ⟨by decide, by decide⟩ dX11_firstOf_17 (rest := [.long x1]) rfl rfl (Nat.le_of_ble_eq_true rfl) rfl rfl (st2 := fun o => .long (Int64.ofInt o.2) :: [.long x1]) (fun _ => rfl) (fun o6 k7 => ?_)
    refine xg_land hC dX11_firstOf_20 ?_
    refine xg_lconst hC dX11_firstOf_21 (v := 0) rfl ?_
    refine xg_lcmp hC dX11_firstOf_22 ?_
    refine xg_if_ne hC (xm_lc_in _ _) 32 dX11_firstOf_23 rfl (fun c8 => ?_) (fun c9 => ?_)
    · refine xg_iinc hC (l' := [(3, .int (xm_J (xm_w (x3 + 1)))), (0, .ref (xm_B (xx_G X) + 84)), (1, .long x1)]) dX11_firstOf_26 (by decide) 2 rfl rfl ?_
      refine xg_goto hC 2 dX11_firstOf_29 rfl ?_
      exact xg_pick [1, 2, 0] rfl (hself o6.1 x1 (xm_w (x3 + 1)) (xm_w_in _))
    exact xg_pick [0, 2] rfl (hK32 o6.1 x3 h3)
  exact xg_pick [0, 2] rfl (hK32 σ x3 h3)
theorem w_X11_firstOf_l2 {X : xm_X} (hC : xm_C X yX11_firstOf.cls cX11_firstOf 4 2 0 0) (hQ : xm_Rt X 1 (some .int) 0 0) (hI : xx_I X = xm_I) {K32 : xm_Mem → Int → Option xm_Out} (hK32 : ∀ (σ : xm_Mem) (x3 : Int), xm_in x3 → xm_V X 0 0 (K32 σ x3) σ 32 [(0, .ref (xm_B (xx_G X) + 84)), (3, .int (xm_J x3))] []) (n : Nat) : ∀ (σ : xm_Mem) (x1 : Int64) (x3 : Int), xm_in x3 → xm_V X 0 0 (f_X11_firstOf_l2 K32 n σ x1 x3) σ 2 [(0, .ref (xm_B (xx_G X) + 84)), (1, .long x1), (3, .int (xm_J x3))] [] := by
  induction n with
  | zero => intro σ x1 x3 h3; exact xg_none
  | succ n ih => intro σ x1 x3 h3; exact w_X11_firstOf_b2 hC hQ hI hK32 ih σ x1 x3 h3
theorem w_X11_firstOf {Γ : xm_Gm} {I : xm_Mem → Prop} {la : Launch} (hE : I = xm_I) (σ : xm_Mem) (x1 : Int64)  : ∀ o, f_X11_firstOf σ x1 = some o → xm_M Γ I la yX11_firstOf cX11_firstOf 4 (some .int) 2 0 0 [.ref (xm_B Γ + 84), .long x1] σ 1 o := by
  refine xg_enter (by decide) (by simp [lg_sl, xm_rf_cat, xm_cati, xm_catr, xm_catl]) (fun X hG hI0 hla hC hQ hname => ?_)
  subst hG
  have hI := hI0.trans hE
  clear hI0 hla
  unfold f_X11_firstOf
  refine xg_pick [0, 1] (l' := [(0, .ref (xm_B (xx_G X) + 84)), (1, .long x1)]) rfl ?_
  refine xg_iconst hC dX11_firstOf_0 ?_
  refine xg_istore_n hC (l' := [(3, .int (xm_J (0 : Int))), (0, .ref (xm_B (xx_G X) + 84)), (1, .long x1)]) dX11_firstOf_1 (by decide) rfl ?_
  refine xg_pick [1, 2, 0] rfl (w_X11_firstOf_l2 hC hQ hI ?_ _ σ x1 (0 : Int) (xm_inc _ rfl))
  intro σ_10 x3_10 h3_10
  refine xg_iload_n hC dX11_firstOf_32 rfl ?_
  refine xg_aload_n hC dX11_firstOf_33 rfl ?_
  refine xg_getI hC (xm_hK hI rfl) rfl xl_F_X11_166 dX11_firstOf_34 (fun k11 => ?_)
  refine xg_icmp_ge hC h3_10 k11 49 dX11_firstOf_37 rfl (fun c12 => ?_) (fun c13 => ?_)
  · refine xg_aload_n hC dX11_firstOf_40 rfl ?_
    refine xg_getW hC (b := 101) (xm_hK hI rfl) rfl (xm_wK hI rfl) (by decide) xl_F_X11_163 dX11_firstOf_41 ?_
    refine xg_iload_n hC dX11_firstOf_44 rfl ?_
    refine xg_iald hC (xm_hK hI rfl) rfl h3_10 dX11_firstOf_45 (fun b14 k15 => ?_)
    refine xg_goto hC 50 dX11_firstOf_46 rfl ?_
    exact xg_iret hC hQ k15 dX11_firstOf_50
  refine xg_iconst hC dX11_firstOf_49 ?_
  exact xg_iret hC hQ (xm_inc _ rfl) dX11_firstOf_50
theorem w_X11_descend_b32 {X : xm_X} (hC : xm_C X yX11_descend.cls cX11_descend 11 3 0 0) (hQ : xm_Rt X 0 none 0 0) (hI : xx_I X = xm_I) {K100 : xm_Mem → Int64 → Int → Int → Option xm_Out} (hK100 : ∀ (σ : xm_Mem) (x1 : Int64) (x3 : Int) (x4 : Int), xm_in x3 → xm_in x4 → xm_V X 0 0 (K100 σ x1 x3 x4) σ 100 [(0, .ref (xm_B (xx_G X) + 84)), (1, .long x1), (3, .int (xm_J x3)), (4, .int (xm_J x4))] []) {self : xm_Mem → Int64 → Int → Int → Int → Option xm_Out} (hself : ∀ (σ : xm_Mem) (x1 : Int64) (x3 : Int) (x4 : Int) (x5 : Int), xm_in x3 → xm_in x4 → xm_in x5 → xm_V X 0 0 (self σ x1 x3 x4 x5) σ 32 [(0, .ref (xm_B (xx_G X) + 84)), (1, .long x1), (3, .int (xm_J x3)), (4, .int (xm_J x4)), (5, .int (xm_J x5))] []) (σ : xm_Mem) (x1 : Int64) (x3 : Int) (x4 : Int) (x5 : Int) (h3 : xm_in x3) (h4 : xm_in x4) (h5 : xm_in x5) : xm_V X 0 0 (f_X11_descend_b32 K100 self σ x1 x3 x4 x5) σ 32 [(0, .ref (xm_B (xx_G X) + 84)), (1, .long x1), (3, .int (xm_J x3)), (4, .int (xm_J x4)), (5, .int (xm_J x5))] [] := by
  unfold f_X11_descend_b32
  refine xg_iload hC dX11_descend_32 rfl ?_
  refine xg_if_lt hC h5 100 dX11_descend_34 rfl (fun c14 => ?_) (fun c15 => ?_)
  · exact xg_pick [0, 1, 2, 3] rfl (hK100 σ x1 x3 x4 h3 h4)
  refine xg_aload_n hC dX11_descend_37 rfl ?_
  refine xg_aload_n hC dX11_descend_38 rfl ?_
  refine xg_getW hC (b := 97) (xm_hK hI rfl) rfl (xm_wK hI rfl) (by decide) xl_F_X11_129 dX11_descend_39 ?_
  refine xg_iload hC dX11_descend_42 rfl ?_
  refine xg_iald hC (xm_hK hI rfl) rfl h5 dX11_descend_44 (fun b16 k17 => ?_)
  refine xg_iload_n hC dX11_descend_45 rfl ?_
  refine xg_callV hC (ci := 10) (w_X11_isChild hI σ (σ.1 97 x5.toNat) x3 k17 h3) xl_M_X11_147 xl_V_X11_isChild (xm_hK (a := 84) (kd := 0) (n := 10) hI rfl).2 ((xm_hK (a := 84) (kd := 0) (n := 10) hI rfl).1 _) (by decide) rfl (by decide) ⟨by decide, by decide⟩ dX11_descend_46 (rest := []) rfl rfl (Nat.le_of_ble_eq_true rfl) rfl rfl (st2 := fun o => .int (xm_J o.2) :: []) (fun _ => rfl) (fun o18 k19 => ?_)
  refine xg_if_eq hC (xm_in01 k19) 94 dX11_descend_49 rfl (fun c20 => ?_) (fun c21 => ?_)
  · refine xg_iinc hC (l' := [(5, .int (xm_J (xm_w (x5 + (-1))))), (0, .ref (xm_B (xx_G X) + 84)), (1, .long x1), (3, .int (xm_J x3)), (4, .int (xm_J x4))]) dX11_descend_94 (by decide) 4 rfl rfl ?_
    refine xg_goto hC 32 dX11_descend_97 rfl ?_
    exact xg_pick [1, 2, 3, 4, 0] rfl (hself o18.1 x1 x3 x4 (xm_w (x5 + (-1))) h3 h4 (xm_w_in _))
  refine xg_aload_n hC dX11_descend_52 rfl ?_
  refine xg_aload_n hC dX11_descend_53 rfl ?_
  refine xg_getW hC (b := 97) (xm_hK hI rfl) rfl (xm_wK hI rfl) (by decide) xl_F_X11_129 dX11_descend_54 ?_
  refine xg_iload hC dX11_descend_57 rfl ?_
  refine xg_iald hC (xm_hK hI rfl) rfl h5 dX11_descend_59 (fun b22 k23 => ?_)
  refine xg_callV hC (ci := 10) (w_X11_isMale hI o18.1 (o18.1.1 97 x5.toNat) k23) xl_M_X11_85 xl_V_X11_isMale (xm_hK (a := 84) (kd := 0) (n := 10) hI rfl).2 ((xm_hK (a := 84) (kd := 0) (n := 10) hI rfl).1 _) (by decide) rfl (by decide) ⟨by decide, by decide⟩ dX11_descend_60 (rest := []) rfl rfl (Nat.le_of_ble_eq_true rfl) rfl rfl (st2 := fun o => .int (xm_J o.2) :: []) (fun _ => rfl) (fun o24 k25 => ?_)
  refine xg_if_eq hC (xm_in01 k25) 94 dX11_descend_63 rfl (fun c26 => ?_) (fun c27 => ?_)
  · refine xg_iinc hC (l' := [(5, .int (xm_J (xm_w (x5 + (-1))))), (0, .ref (xm_B (xx_G X) + 84)), (1, .long x1), (3, .int (xm_J x3)), (4, .int (xm_J x4))]) dX11_descend_94 (by decide) 4 rfl rfl ?_
    refine xg_goto hC 32 dX11_descend_97 rfl ?_
    exact xg_pick [1, 2, 3, 4, 0] rfl (hself o24.1 x1 x3 x4 (xm_w (x5 + (-1))) h3 h4 (xm_w_in _))
  refine xg_aload_n hC dX11_descend_66 rfl ?_
  refine xg_getW hC (b := 98) (xm_hK hI rfl) rfl (xm_wK hI rfl) (by decide) xl_F_X11_139 dX11_descend_67 ?_
  refine xg_aload_n hC dX11_descend_70 rfl ?_
  refine xg_getW hC (b := 97) (xm_hK hI rfl) rfl (xm_wK hI rfl) (by decide) xl_F_X11_129 dX11_descend_71 ?_
  refine xg_iload hC dX11_descend_74 rfl ?_
  refine xg_iald hC (xm_hK hI rfl) rfl h5 dX11_descend_76 (fun b28 k29 => ?_)
  refine xg_vI k29 (fun v30 k31 => ?_)
  refine xg_lald hC (xm_hK hI rfl) rfl k31 dX11_descend_77 (fun b32 => ?_)
  refine xg_lload_n hC dX11_descend_78 rfl ?_
  refine xg_land hC dX11_descend_79 ?_
  refine xg_lconst hC dX11_descend_80 (v := 0) rfl ?_
  refine xg_lcmp hC dX11_descend_81 ?_
  refine xg_if_eq hC (xm_lc_in _ _) 94 dX11_descend_82 rfl (fun c34 => ?_) (fun c35 => ?_)
  · refine xg_iinc hC (l' := [(5, .int (xm_J (xm_w (x5 + (-1))))), (0, .ref (xm_B (xx_G X) + 84)), (1, .long x1), (3, .int (xm_J x3)), (4, .int (xm_J x4))]) dX11_descend_94 (by decide) 4 rfl rfl ?_
    refine xg_goto hC 32 dX11_descend_97 rfl ?_
    exact xg_pick [1, 2, 3, 4, 0] rfl (hself o24.1 x1 x3 x4 (xm_w (x5 + (-1))) h3 h4 (xm_w_in _))
  refine xg_aload_n hC dX11_descend_85 rfl ?_
  refine xg_getW hC (b := 97) (xm_hK hI rfl) rfl (xm_wK hI rfl) (by decide) xl_F_X11_129 dX11_descend_86 ?_
  refine xg_iload hC dX11_descend_89 rfl ?_
  refine xg_iald hC (xm_hK hI rfl) rfl h5 dX11_descend_91 (fun b36 k37 => ?_)
  refine xg_vI k37 (fun v38 k39 => ?_)
  refine xg_istore hC (l' := [(4, .int (xm_J v38)), (0, .ref (xm_B (xx_G X) + 84)), (1, .long x1), (3, .int (xm_J x3)), (5, .int (xm_J x5))]) dX11_descend_92 (by decide) rfl ?_
  refine xg_iinc hC (l' := [(5, .int (xm_J (xm_w (x5 + (-1))))), (4, .int (xm_J v38)), (0, .ref (xm_B (xx_G X) + 84)), (1, .long x1), (3, .int (xm_J x3))]) dX11_descend_94 (by decide) 4 rfl rfl ?_
  refine xg_goto hC 32 dX11_descend_97 rfl ?_
  exact xg_pick [2, 3, 4, 1, 0] rfl (hself o24.1 x1 x3 v38 (xm_w (x5 + (-1))) h3 k39 (xm_w_in _))
theorem w_X11_descend_l32 {X : xm_X} (hC : xm_C X yX11_descend.cls cX11_descend 11 3 0 0) (hQ : xm_Rt X 0 none 0 0) (hI : xx_I X = xm_I) {K100 : xm_Mem → Int64 → Int → Int → Option xm_Out} (hK100 : ∀ (σ : xm_Mem) (x1 : Int64) (x3 : Int) (x4 : Int), xm_in x3 → xm_in x4 → xm_V X 0 0 (K100 σ x1 x3 x4) σ 100 [(0, .ref (xm_B (xx_G X) + 84)), (1, .long x1), (3, .int (xm_J x3)), (4, .int (xm_J x4))] []) (n : Nat) : ∀ (σ : xm_Mem) (x1 : Int64) (x3 : Int) (x4 : Int) (x5 : Int), xm_in x3 → xm_in x4 → xm_in x5 → xm_V X 0 0 (f_X11_descend_l32 K100 n σ x1 x3 x4 x5) σ 32 [(0, .ref (xm_B (xx_G X) + 84)), (1, .long x1), (3, .int (xm_J x3)), (4, .int (xm_J x4)), (5, .int (xm_J x5))] [] := by
  induction n with
  | zero => intro σ x1 x3 x4 x5 h3 h4 h5; exact xg_none
  | succ n ih => intro σ x1 x3 x4 x5 h3 h4 h5; exact w_X11_descend_b32 hC hQ hI hK100 ih σ x1 x3 x4 x5 h3 h4 h5
theorem w_X11_descend_b125 {X : xm_X} (hC : xm_C X yX11_descend.cls cX11_descend 11 3 0 0) (hQ : xm_Rt X 0 none 0 0) (hI : xx_I X = xm_I) {K238 : xm_Mem → Int64 → Int → Option xm_Out} (hK238 : ∀ (σ : xm_Mem) (x1 : Int64) (x7 : Int), xm_in x7 → xm_V X 0 0 (K238 σ x1 x7) σ 238 [(0, .ref (xm_B (xx_G X) + 84)), (1, .long x1), (7, .int (xm_J x7))] []) {self : xm_Mem → Int64 → Int → Int64 → Int → Int → Option xm_Out} (hself : ∀ (σ : xm_Mem) (x1 : Int64) (x3 : Int) (x5 : Int64) (x7 : Int) (x8 : Int), xm_in x3 → xm_in x7 → xm_in x8 → xm_V X 0 0 (self σ x1 x3 x5 x7 x8) σ 125 [(0, .ref (xm_B (xx_G X) + 84)), (1, .long x1), (3, .int (xm_J x3)), (5, .long x5), (7, .int (xm_J x7)), (8, .int (xm_J x8))] []) (σ : xm_Mem) (x1 : Int64) (x3 : Int) (x5 : Int64) (x7 : Int) (x8 : Int) (h3 : xm_in x3) (h7 : xm_in x7) (h8 : xm_in x8) : xm_V X 0 0 (f_X11_descend_b125 K238 self σ x1 x3 x5 x7 x8) σ 125 [(0, .ref (xm_B (xx_G X) + 84)), (1, .long x1), (3, .int (xm_J x3)), (5, .long x5), (7, .int (xm_J x7)), (8, .int (xm_J x8))] [] := by
  unfold f_X11_descend_b125
  refine xg_iload hC dX11_descend_125 rfl ?_
  refine xg_aload_n hC dX11_descend_127 rfl ?_
  refine xg_getI hC (xm_hK hI rfl) rfl xl_F_X11_120 dX11_descend_128 (fun k44 => ?_)
  refine xg_icmp_ge hC h8 k44 238 dX11_descend_131 rfl (fun c45 => ?_) (fun c46 => ?_)
  · refine xg_aload_n hC dX11_descend_134 rfl ?_
    refine xg_getW hC (b := 97) (xm_hK hI rfl) rfl (xm_wK hI rfl) (by decide) xl_F_X11_129 dX11_descend_135 ?_
    refine xg_iload hC dX11_descend_138 rfl ?_
    refine xg_iald hC (xm_hK hI rfl) rfl h8 dX11_descend_140 (fun b47 k48 => ?_)
    refine xg_vI k48 (fun v49 k50 => ?_)
    refine xg_istore hC (l' := [(9, .int (xm_J v49)), (0, .ref (xm_B (xx_G X) + 84)), (1, .long x1), (3, .int (xm_J x3)), (5, .long x5), (7, .int (xm_J x7)), (8, .int (xm_J x8))]) dX11_descend_141 (by decide) rfl ?_
    refine xg_aload_n hC dX11_descend_143 rfl ?_
    refine xg_iload hC dX11_descend_144 rfl ?_
    refine xg_iload_n hC dX11_descend_146 rfl ?_
    refine xg_callV hC (ci := 10) (w_X11_isChild hI σ v49 x3 k50 h3) xl_M_X11_147 xl_V_X11_isChild (xm_hK (a := 84) (kd := 0) (n := 10) hI rfl).2 ((xm_hK (a := 84) (kd := 0) (n := 10) hI rfl).1 _) (by decide) rfl (by decide) ⟨by decide, by decide⟩ dX11_descend_147 (rest := []) rfl rfl (Nat.le_of_ble_eq_true rfl) rfl rfl (st2 := fun o => .int (xm_J o.2) :: []) (fun _ => rfl) (fun o51 k52 => ?_)
    refine xg_if_eq hC (xm_in01 k52) 232 dX11_descend_150 rfl (fun c53 => ?_) (fun c54 => ?_)
    · refine xg_iinc hC (l' := [(8, .int (xm_J (xm_w (x8 + 1)))), (9, .int (xm_J v49)), (0, .ref (xm_B (xx_G X) + 84)), (1, .long x1), (3, .int (xm_J x3)), (5, .long x5), (7, .int (xm_J x7))]) dX11_descend_232 (by decide) 6 rfl rfl ?_
      refine xg_goto hC 125 dX11_descend_235 rfl ?_
      exact xg_pick [2, 3, 4, 5, 6, 0] rfl (hself o51.1 x1 x3 x5 x7 (xm_w (x8 + 1)) h3 h7 (xm_w_in _))
    refine xg_aload_n hC dX11_descend_153 rfl ?_
    refine xg_iload hC dX11_descend_154 rfl ?_
    refine xg_callV hC (ci := 10) (w_X11_isMale hI o51.1 v49 k50) xl_M_X11_85 xl_V_X11_isMale (xm_hK (a := 84) (kd := 0) (n := 10) hI rfl).2 ((xm_hK (a := 84) (kd := 0) (n := 10) hI rfl).1 _) (by decide) rfl (by decide) ⟨by decide, by decide⟩ dX11_descend_156 (rest := []) rfl rfl (Nat.le_of_ble_eq_true rfl) rfl rfl (st2 := fun o => .int (xm_J o.2) :: []) (fun _ => rfl) (fun o55 k56 => ?_)
    refine xg_if_eq hC (xm_in01 k56) 165 dX11_descend_159 rfl (fun c57 => ?_) (fun c58 => ?_)
    · refine xg_aload_n hC dX11_descend_165 rfl ?_
      refine xg_aload_n hC dX11_descend_166 rfl ?_
      refine xg_getW hC (b := 98) (xm_hK hI rfl) rfl (xm_wK hI rfl) (by decide) xl_F_X11_139 dX11_descend_167 ?_
      refine xg_iload hC dX11_descend_170 rfl ?_
      refine xg_lald hC (xm_hK hI rfl) rfl k50 dX11_descend_172 (fun b59 => ?_)
      refine xg_lload_n hC dX11_descend_173 rfl ?_
      refine xg_land hC dX11_descend_174 ?_
      refine xg_lload hC dX11_descend_175 rfl ?_
      refine xg_ldc2 hC dX11_descend_177 xl_C_X11_205 ?_
      refine xg_lxor hC dX11_descend_180 ?_
      refine xg_land hC dX11_descend_181 ?_
      refine xg_callV hC (ci := 10) (w_X11_firstOf hI o55.1 (((o55.1.2.1 98 v49.toNat) &&& x1) &&& (x5 ^^^ (-1 : Int64)))) xl_M_X11_207 xl_V_X11_firstOf (xm_hK (a := 84) (kd := 0) (n := 10) hI rfl).2 ((xm_hK (a := 84) (kd := 0) (n := 10) hI rfl).1 _) (by decide) rfl (by decide) ⟨by decide, by decide⟩ dX11_descend_182 (rest := []) rfl rfl (Nat.le_of_ble_eq_true rfl) rfl rfl (st2 := fun o => .int (xm_J o.2) :: []) (fun _ => rfl) (fun o61 k62 => ?_)
      refine xg_istore hC (l' := [(10, .int (xm_J o61.2)), (9, .int (xm_J v49)), (0, .ref (xm_B (xx_G X) + 84)), (1, .long x1), (3, .int (xm_J x3)), (5, .long x5), (7, .int (xm_J x7)), (8, .int (xm_J x8))]) dX11_descend_185 (by decide) rfl ?_
      refine xg_lload hC dX11_descend_187 rfl ?_
      refine xg_aload_n hC dX11_descend_189 rfl ?_
      refine xg_getW hC (b := 98) (xm_hK hI rfl) rfl (xm_wK hI rfl) (by decide) xl_F_X11_139 dX11_descend_190 ?_
      refine xg_iload hC dX11_descend_193 rfl ?_
      refine xg_lald hC (xm_hK hI rfl) rfl k50 dX11_descend_195 (fun b63 => ?_)
      refine xg_lor hC dX11_descend_196 ?_
      refine xg_vJ (fun v65 => ?_)
      refine xg_lstore hC (l' := [(5, .long v65), (10, .int (xm_J o61.2)), (9, .int (xm_J v49)), (0, .ref (xm_B (xx_G X) + 84)), (1, .long x1), (3, .int (xm_J x3)), (7, .int (xm_J x7)), (8, .int (xm_J x8))]) dX11_descend_197 (by decide) rfl ?_
      refine xg_iload hC dX11_descend_199 rfl ?_
      refine xg_if_ge hC k62 207 dX11_descend_201 rfl (fun c66 => ?_) (fun c67 => ?_)
      · refine xg_goto hC 232 dX11_descend_204 rfl ?_
        refine xg_iinc hC (l' := [(8, .int (xm_J (xm_w (x8 + 1)))), (5, .long v65), (10, .int (xm_J o61.2)), (9, .int (xm_J v49)), (0, .ref (xm_B (xx_G X) + 84)), (1, .long x1), (3, .int (xm_J x3)), (7, .int (xm_J x7))]) dX11_descend_232 (by decide) 7 rfl rfl ?_
        refine xg_goto hC 125 dX11_descend_235 rfl ?_
        exact xg_pick [4, 5, 6, 1, 7, 0] rfl (hself o61.1 x1 x3 v65 x7 (xm_w (x8 + 1)) h3 h7 (xm_w_in _))
      refine xg_iload hC dX11_descend_207 rfl ?_
      refine xg_istore hC (l' := [(7, .int (xm_J v49)), (5, .long v65), (10, .int (xm_J o61.2)), (9, .int (xm_J v49)), (0, .ref (xm_B (xx_G X) + 84)), (1, .long x1), (3, .int (xm_J x3)), (8, .int (xm_J x8))]) dX11_descend_209 (by decide) rfl ?_
      refine xg_aload_n hC dX11_descend_211 rfl ?_
      refine xg_getW hC (b := 103) (xm_hK hI rfl) rfl (xm_wK hI rfl) (by decide) xl_F_X11_211 dX11_descend_212 ?_
      refine xg_aload_n hC dX11_descend_215 rfl ?_
      refine xg_getI hC (xm_hK hI rfl) rfl xl_F_X11_192 dX11_descend_216 (fun k68 => ?_)
      refine xg_iload hC dX11_descend_219 rfl ?_
      refine xg_iast hC (xm_hK hI rfl) rfl k68 k62 (xm_kpF hI rfl) dX11_descend_221 ?_
      refine xg_st (fun σ69 => ?_)
      refine xg_aload_n hC dX11_descend_222 rfl ?_
      refine xg_dup hC dX11_descend_223 rfl ?_
      refine xg_getI hC (xm_hK hI rfl) rfl xl_F_X11_192 dX11_descend_224 (fun k70 => ?_)
      refine xg_iconst hC dX11_descend_227 ?_
      refine xg_iadd hC dX11_descend_228 ?_
      refine xg_putI hC (xm_hK hI rfl) rfl rfl (xm_w_in _) (xm_kpK hI rfl) xl_F_X11_192 dX11_descend_229 ?_
      refine xg_st (fun σ71 => ?_)
      refine xg_iinc hC (l' := [(8, .int (xm_J (xm_w (x8 + 1)))), (7, .int (xm_J v49)), (5, .long v65), (10, .int (xm_J o61.2)), (9, .int (xm_J v49)), (0, .ref (xm_B (xx_G X) + 84)), (1, .long x1), (3, .int (xm_J x3))]) dX11_descend_232 (by decide) 7 rfl rfl ?_
      refine xg_goto hC 125 dX11_descend_235 rfl ?_
      exact xg_pick [5, 6, 7, 2, 1, 0] rfl (hself σ71 x1 x3 v65 v49 (xm_w (x8 + 1)) h3 k50 (xm_w_in _))
    refine xg_goto hC 232 dX11_descend_162 rfl ?_
    refine xg_iinc hC (l' := [(8, .int (xm_J (xm_w (x8 + 1)))), (9, .int (xm_J v49)), (0, .ref (xm_B (xx_G X) + 84)), (1, .long x1), (3, .int (xm_J x3)), (5, .long x5), (7, .int (xm_J x7))]) dX11_descend_232 (by decide) 6 rfl rfl ?_
    refine xg_goto hC 125 dX11_descend_235 rfl ?_
    exact xg_pick [2, 3, 4, 5, 6, 0] rfl (hself o55.1 x1 x3 x5 x7 (xm_w (x8 + 1)) h3 h7 (xm_w_in _))
  exact xg_pick [0, 1, 4] rfl (hK238 σ x1 x7 h7)
theorem w_X11_descend_l125 {X : xm_X} (hC : xm_C X yX11_descend.cls cX11_descend 11 3 0 0) (hQ : xm_Rt X 0 none 0 0) (hI : xx_I X = xm_I) {K238 : xm_Mem → Int64 → Int → Option xm_Out} (hK238 : ∀ (σ : xm_Mem) (x1 : Int64) (x7 : Int), xm_in x7 → xm_V X 0 0 (K238 σ x1 x7) σ 238 [(0, .ref (xm_B (xx_G X) + 84)), (1, .long x1), (7, .int (xm_J x7))] []) (n : Nat) : ∀ (σ : xm_Mem) (x1 : Int64) (x3 : Int) (x5 : Int64) (x7 : Int) (x8 : Int), xm_in x3 → xm_in x7 → xm_in x8 → xm_V X 0 0 (f_X11_descend_l125 K238 n σ x1 x3 x5 x7 x8) σ 125 [(0, .ref (xm_B (xx_G X) + 84)), (1, .long x1), (3, .int (xm_J x3)), (5, .long x5), (7, .int (xm_J x7)), (8, .int (xm_J x8))] [] := by
  induction n with
  | zero => intro σ x1 x3 x5 x7 x8 h3 h7 h8; exact xg_none
  | succ n ih => intro σ x1 x3 x5 x7 x8 h3 h7 h8; exact w_X11_descend_b125 hC hQ hI hK238 ih σ x1 x3 x5 x7 x8 h3 h7 h8
theorem w_X11_descend_b10 {X : xm_X} (hC : xm_C X yX11_descend.cls cX11_descend 11 3 0 0) (hQ : xm_Rt X 0 none 0 0) (hI : xx_I X = xm_I) {K259 : xm_Mem → Int → Option xm_Out} (hK259 : ∀ (σ : xm_Mem) (x3 : Int), xm_in x3 → xm_V X 0 0 (K259 σ x3) σ 259 [(0, .ref (xm_B (xx_G X) + 84)), (3, .int (xm_J x3))] []) {self : xm_Mem → Int64 → Int → Option xm_Out} (hself : ∀ (σ : xm_Mem) (x1 : Int64) (x3 : Int), xm_in x3 → xm_V X 0 0 (self σ x1 x3) σ 10 [(0, .ref (xm_B (xx_G X) + 84)), (1, .long x1), (3, .int (xm_J x3))] []) (σ : xm_Mem) (x1 : Int64) (x3 : Int) (h3 : xm_in x3) : xm_V X 0 0 (f_X11_descend_b10 K259 self σ x1 x3) σ 10 [(0, .ref (xm_B (xx_G X) + 84)), (1, .long x1), (3, .int (xm_J x3))] [] := by
  unfold f_X11_descend_b10
  refine xg_lload_n hC dX11_descend_10 rfl ?_
  refine xg_iload_n hC dX11_descend_11 rfl ?_
  refine xg_callS hC (w_X11_bit hI σ x3 h3) xl_M_X11_143 xl_S_X11_bit (by decide) ⟨by decide, by decide⟩ dX11_descend_12 (rest := [.long x1]) rfl rfl (Nat.le_of_ble_eq_true rfl) rfl rfl (st2 := fun o => .long (Int64.ofInt o.2) :: [.long x1]) (fun _ => rfl) (fun o7 k8 => ?_)
  refine xg_land hC dX11_descend_15 ?_
  refine xg_lconst hC dX11_descend_16 (v := 0) rfl ?_
  refine xg_lcmp hC dX11_descend_17 ?_
  refine xg_if_ne hC (xm_lc_in _ _) 259 dX11_descend_18 rfl (fun c9 => ?_) (fun c10 => ?_)
  · refine xg_iconst hC dX11_descend_21 ?_
    refine xg_istore hC (l' := [(4, .int (xm_J (-1 : Int))), (0, .ref (xm_B (xx_G X) + 84)), (1, .long x1), (3, .int (xm_J x3))]) dX11_descend_22 (by decide) rfl ?_
    refine xg_aload_n hC dX11_descend_24 rfl ?_
    refine xg_getI hC (xm_hK hI rfl) rfl xl_F_X11_120 dX11_descend_25 (fun k11 => ?_)
    refine xg_iconst hC dX11_descend_28 ?_
    refine xg_isub hC dX11_descend_29 ?_
    refine xg_vI (xm_w_in _) (fun v12 k13 => ?_)
    refine xg_istore hC (l' := [(5, .int (xm_J v12)), (4, .int (xm_J (-1 : Int))), (0, .ref (xm_B (xx_G X) + 84)), (1, .long x1), (3, .int (xm_J x3))]) dX11_descend_30 (by decide) rfl ?_
    refine xg_pick [2, 3, 4, 1, 0] rfl (w_X11_descend_l32 hC hQ hI ?_ _ o7.1 x1 x3 (-1 : Int) v12 h3 (xm_inc _ rfl) k13)
    intro σ_40 x1_40 x3_40 x4_40 h3_40 h4_40
    refine xg_iload hC dX11_descend_100 rfl ?_
    refine xg_if_lt hC h4_40 111 dX11_descend_102 rfl (fun c41 => ?_) (fun c42 => ?_)
    · refine xg_lconst hC dX11_descend_111 (v := 0) rfl ?_
      refine xg_lstore hC (l' := [(5, .long (0 : Int64)), (0, .ref (xm_B (xx_G X) + 84)), (1, .long x1_40), (3, .int (xm_J x3_40)), (4, .int (xm_J x4_40))]) dX11_descend_112 (by decide) rfl ?_
      refine xg_aload_n hC dX11_descend_114 rfl ?_
      refine xg_iconst hC dX11_descend_115 ?_
      refine xg_putI hC (xm_hK hI rfl) rfl rfl (xm_inc _ rfl) (xm_kpK hI rfl) xl_F_X11_192 dX11_descend_116 ?_
      refine xg_st (fun σ43 => ?_)
      refine xg_iconst hC dX11_descend_119 ?_
      refine xg_istore hC (l' := [(7, .int (xm_J (-1 : Int))), (5, .long (0 : Int64)), (0, .ref (xm_B (xx_G X) + 84)), (1, .long x1_40), (3, .int (xm_J x3_40)), (4, .int (xm_J x4_40))]) dX11_descend_120 (by decide) rfl ?_
      refine xg_iconst hC dX11_descend_122 ?_
      refine xg_istore hC (l' := [(8, .int (xm_J (0 : Int))), (7, .int (xm_J (-1 : Int))), (5, .long (0 : Int64)), (0, .ref (xm_B (xx_G X) + 84)), (1, .long x1_40), (3, .int (xm_J x3_40)), (4, .int (xm_J x4_40))]) dX11_descend_123 (by decide) rfl ?_
      refine xg_pick [3, 4, 5, 2, 1, 0] rfl (w_X11_descend_l125 hC hQ hI ?_ _ σ43 x1_40 x3_40 (0 : Int64) (-1 : Int) (0 : Int) h3_40 (xm_inc _ rfl) (xm_inc _ rfl))
      intro σ_72 x1_72 x7_72 h7_72
      refine xg_aload_n hC dX11_descend_238 rfl ?_
      refine xg_getI hC (xm_hK hI rfl) rfl xl_F_X11_192 dX11_descend_239 (fun k73 => ?_)
      refine xg_iconst hC dX11_descend_242 ?_
      refine xg_icmp_le hC k73 (xm_inc _ rfl) 253 dX11_descend_243 rfl (fun c74 => ?_) (fun c75 => ?_)
      · refine xg_aload_n hC dX11_descend_246 rfl ?_
        refine xg_bipush hC dX11_descend_247 (by decide) ?_
        refine xg_putI hC (xm_hK hI rfl) rfl rfl (xm_inc _ rfl) (xm_kpK hI rfl) xl_F_X11_195 dX11_descend_249 ?_
        refine xg_st (fun σ76 => ?_)
        exact xg_vret hC hQ dX11_descend_252
      refine xg_iload hC dX11_descend_253 rfl ?_
      refine xg_istore_n hC (l' := [(3, .int (xm_J x7_72)), (0, .ref (xm_B (xx_G X) + 84)), (1, .long x1_72), (7, .int (xm_J x7_72))]) dX11_descend_255 (by decide) rfl ?_
      refine xg_goto hC 10 dX11_descend_256 rfl ?_
      exact xg_pick [1, 2, 0] rfl (hself σ_72 x1_72 x7_72 h7_72)
    refine xg_iload hC dX11_descend_105 rfl ?_
    refine xg_istore_n hC (l' := [(3, .int (xm_J x4_40)), (0, .ref (xm_B (xx_G X) + 84)), (1, .long x1_40), (4, .int (xm_J x4_40))]) dX11_descend_107 (by decide) rfl ?_
    refine xg_goto hC 10 dX11_descend_108 rfl ?_
    exact xg_pick [1, 2, 0] rfl (hself σ_40 x1_40 x4_40 h4_40)
  exact xg_pick [0, 2] rfl (hK259 o7.1 x3 h3)
theorem w_X11_descend_l10 {X : xm_X} (hC : xm_C X yX11_descend.cls cX11_descend 11 3 0 0) (hQ : xm_Rt X 0 none 0 0) (hI : xx_I X = xm_I) {K259 : xm_Mem → Int → Option xm_Out} (hK259 : ∀ (σ : xm_Mem) (x3 : Int), xm_in x3 → xm_V X 0 0 (K259 σ x3) σ 259 [(0, .ref (xm_B (xx_G X) + 84)), (3, .int (xm_J x3))] []) (n : Nat) : ∀ (σ : xm_Mem) (x1 : Int64) (x3 : Int), xm_in x3 → xm_V X 0 0 (f_X11_descend_l10 K259 n σ x1 x3) σ 10 [(0, .ref (xm_B (xx_G X) + 84)), (1, .long x1), (3, .int (xm_J x3))] [] := by
  induction n with
  | zero => intro σ x1 x3 h3; exact xg_none
  | succ n ih => intro σ x1 x3 h3; exact w_X11_descend_b10 hC hQ hI hK259 ih σ x1 x3 h3
theorem w_X11_descend {Γ : xm_Gm} {I : xm_Mem → Prop} {la : Launch} (hE : I = xm_I) (σ : xm_Mem)   : ∀ o, f_X11_descend σ  = some o → xm_M Γ I la yX11_descend cX11_descend 11 none 3 0 0 [.ref (xm_B Γ + 84)] σ 0 o := by
  refine xg_enter (by decide) (by simp [lg_sl, xm_rf_cat, xm_cati, xm_catr, xm_catl]) (fun X hG hI0 hla hC hQ hname => ?_)
  subst hG
  have hI := hI0.trans hE
  clear hI0 hla
  unfold f_X11_descend
  refine xg_pick [0] (l' := [(0, .ref (xm_B (xx_G X) + 84))]) rfl ?_
  refine xg_aload_n hC dX11_descend_0 rfl ?_
  refine xg_callV hC (ci := 10) (w_X11_lineBits hI σ ) xl_M_X11_201 xl_V_X11_lineBits (xm_hK (a := 84) (kd := 0) (n := 10) hI rfl).2 ((xm_hK (a := 84) (kd := 0) (n := 10) hI rfl).1 _) (by decide) rfl (by decide) ⟨by decide, by decide⟩ dX11_descend_1 (rest := []) rfl rfl (Nat.le_of_ble_eq_true rfl) rfl rfl (st2 := fun o => .long (Int64.ofInt o.2) :: []) (fun _ => rfl) (fun o1 k2 => ?_)
  refine xg_vJ (fun v3 => ?_)
  refine xg_lstore_n hC (l' := [(1, .long v3), (0, .ref (xm_B (xx_G X) + 84))]) dX11_descend_4 (by decide) rfl ?_
  refine xg_aload_n hC dX11_descend_5 rfl ?_
  refine xg_getI hC (xm_hK hI rfl) rfl xl_F_X11_186 dX11_descend_6 (fun k4 => ?_)
  refine xg_vI k4 (fun v5 k6 => ?_)
  refine xg_istore_n hC (l' := [(3, .int (xm_J v5)), (1, .long v3), (0, .ref (xm_B (xx_G X) + 84))]) dX11_descend_9 (by decide) rfl ?_
  refine xg_pick [2, 1, 0] rfl (w_X11_descend_l10 hC hQ hI ?_ _ o1.1 v3 v5 k6)
  intro σ_77 x3_77 h3_77
  refine xg_aload_n hC dX11_descend_259 rfl ?_
  refine xg_iconst hC dX11_descend_260 ?_
  refine xg_putI hC (xm_hK hI rfl) rfl rfl (xm_inc _ rfl) (xm_kpK hI rfl) xl_F_X11_192 dX11_descend_261 ?_
  refine xg_st (fun σ78 => ?_)
  refine xg_aload_n hC dX11_descend_264 rfl ?_
  refine xg_iload_n hC dX11_descend_265 rfl ?_
  refine xg_putI hC (xm_hK hI rfl) rfl rfl h3_77 (xm_kpK hI rfl) xl_F_X11_195 dX11_descend_266 ?_
  refine xg_st (fun σ79 => ?_)
  exact xg_vret hC hQ dX11_descend_269
theorem w_X11_passes_j52 {X : xm_X} (hC : xm_C X yX11_passes.cls cX11_passes 4 72 0 0) (hQ : xm_Rt X 0 none 0 0) (hI : xx_I X = xm_I)   (σ : xm_Mem) (x1 : Int) (h1 : xm_in x1) : xm_V X 0 0 (f_X11_passes_j52  σ x1) σ 52 [(0, .ref (xm_B (xx_G X) + 84)), (1, .int (xm_J x1))] [] := by
  unfold f_X11_passes_j52
  refine xg_aload_n hC dX11_passes_52 rfl ?_
  refine xg_iconst hC dX11_passes_53 ?_
  refine xg_putI hC (xm_hK hI rfl) rfl rfl (xm_inc _ rfl) (xm_kpK hI rfl) xl_F_X11_192 dX11_passes_54 ?_
  refine xg_st (fun σ18 => ?_)
  refine xg_aload_n hC dX11_passes_57 rfl ?_
  refine xg_getI hC (xm_hK hI rfl) rfl xl_F_X11_166 dX11_passes_58 (fun k19 => ?_)
  refine xg_if_ne hC k19 72 dX11_passes_61 rfl (fun c20 => ?_) (fun c21 => ?_)
  · refine xg_aload_n hC dX11_passes_64 rfl ?_
    refine xg_iconst hC dX11_passes_65 ?_
    refine xg_putI hC (xm_hK hI rfl) rfl rfl (xm_inc _ rfl) (xm_kpK hI rfl) xl_F_X11_195 dX11_passes_66 ?_
    refine xg_st (fun σ22 => ?_)
    refine xg_goto hC 104 dX11_passes_69 rfl ?_
    exact xg_vret hC hQ dX11_passes_104
  refine xg_aload_n hC dX11_passes_72 rfl ?_
  refine xg_getW hC (b := 91) (xm_hK hI rfl) rfl (xm_wK hI rfl) (by decide) xl_F_X11_28 dX11_passes_73 ?_
  refine xg_aload_n hC dX11_passes_76 rfl ?_
  refine xg_getW hC (b := 94) (xm_hK hI rfl) rfl (xm_wK hI rfl) (by decide) xl_F_X11_25 dX11_passes_77 ?_
  refine xg_iload_n hC dX11_passes_80 rfl ?_
  refine xg_iald hC (xm_hK hI rfl) rfl h1 dX11_passes_81 (fun b23 k24 => ?_)
  refine xg_vI k24 (fun v25 k26 => ?_)
  refine xg_iald hC (xm_hK hI rfl) rfl k26 dX11_passes_82 (fun b27 k28 => ?_)
  refine xg_iconst hC dX11_passes_83 ?_
  refine xg_icmp_eq hC k28 (xm_inc _ rfl) 100 dX11_passes_84 rfl (fun c29 => ?_) (fun c30 => ?_)
  · refine xg_aload_n hC dX11_passes_100 rfl ?_
    refine xg_callV hC (ci := 10) (w_X11_descend hI σ18 ) xl_M_X11_198 xl_V_X11_descend (xm_hK (a := 84) (kd := 0) (n := 10) hI rfl).2 ((xm_hK (a := 84) (kd := 0) (n := 10) hI rfl).1 _) (by decide) rfl (by decide) ⟨by decide, by decide⟩ dX11_passes_101 (rest := []) rfl rfl (Nat.le_of_ble_eq_true rfl) rfl rfl (st2 := fun o => []) (fun _ => rfl) (fun o31 k32 => ?_)
    exact xg_vret hC hQ dX11_passes_104
  refine xg_aload_n hC dX11_passes_87 rfl ?_
  refine xg_aload_n hC dX11_passes_88 rfl ?_
  refine xg_getW hC (b := 101) (xm_hK hI rfl) rfl (xm_wK hI rfl) (by decide) xl_F_X11_163 dX11_passes_89 ?_
  refine xg_iconst hC dX11_passes_92 ?_
  refine xg_iald hC (xm_hK hI rfl) rfl (xm_inc _ rfl) dX11_passes_93 (fun b33 k34 => ?_)
  refine xg_putI hC (xm_hK hI rfl) rfl rfl k34 (xm_kpK hI rfl) xl_F_X11_195 dX11_passes_94 ?_
  refine xg_st (fun σ35 => ?_)
  refine xg_goto hC 104 dX11_passes_97 rfl ?_
  exact xg_vret hC hQ dX11_passes_104
theorem w_X11_passes {Γ : xm_Gm} {I : xm_Mem → Prop} {la : Launch} (hE : I = xm_I) (σ : xm_Mem) (x1 : Int) (x2 : Int) (h1 : xm_in x1) (h2 : xm_in x2) : ∀ o, f_X11_passes σ x1 x2 = some o → xm_M Γ I la yX11_passes cX11_passes 4 none 72 0 0 [.ref (xm_B Γ + 84), .int (xm_J x1), .int (xm_J x2)] σ 0 o := by
  refine xg_enter (by decide) (by simp [lg_sl, xm_rf_cat, xm_cati, xm_catr, xm_catl]) (fun X hG hI0 hla hC hQ hname => ?_)
  subst hG
  have hI := hI0.trans hE
  clear hI0 hla
  unfold f_X11_passes
  refine xg_pick [0, 1, 2] (l' := [(0, .ref (xm_B (xx_G X) + 84)), (1, .int (xm_J x1)), (2, .int (xm_J x2))]) rfl ?_
  refine xg_aload_n hC dX11_passes_0 rfl ?_
  refine xg_getW hC (b := 88) (xm_hK hI rfl) rfl (xm_wK hI rfl) (by decide) xl_F_X11_46 dX11_passes_1 ?_
  refine xg_aload_n hC dX11_passes_4 rfl ?_
  refine xg_getW hC (b := 94) (xm_hK hI rfl) rfl (xm_wK hI rfl) (by decide) xl_F_X11_25 dX11_passes_5 ?_
  refine xg_iload_n hC dX11_passes_8 rfl ?_
  refine xg_iald hC (xm_hK hI rfl) rfl h1 dX11_passes_9 (fun b1 k2 => ?_)
  refine xg_vI k2 (fun v3 k4 => ?_)
  refine xg_iald hC (xm_hK hI rfl) rfl k4 dX11_passes_10 (fun b5 k6 => ?_)
  refine xg_vI k6 (fun v7 k8 => ?_)
  refine xg_istore_n hC (l' := [(3, .int (xm_J v7)), (0, .ref (xm_B (xx_G X) + 84)), (1, .int (xm_J x1)), (2, .int (xm_J x2))]) dX11_passes_11 (by decide) rfl ?_
  refine xg_aload_n hC dX11_passes_12 rfl ?_
  refine xg_iload_n hC dX11_passes_13 rfl ?_
  refine xg_iload_n hC dX11_passes_14 rfl ?_
  refine xg_aload_n hC dX11_passes_15 rfl ?_
  refine xg_getI hC (xm_hK hI rfl) rfl xl_F_X11_186 dX11_passes_16 (fun k9 => ?_)
  refine xg_callV hC (ci := 10) (w_X11_lineOf hI σ x1 x2 (σ.1 84 31) h1 h2 k9) xl_M_X11_189 xl_V_X11_lineOf (xm_hK (a := 84) (kd := 0) (n := 10) hI rfl).2 ((xm_hK (a := 84) (kd := 0) (n := 10) hI rfl).1 _) (by decide) rfl (by decide) ⟨by decide, by decide⟩ dX11_passes_19 (rest := []) rfl rfl (Nat.le_of_ble_eq_true rfl) rfl rfl (st2 := fun o => []) (fun _ => rfl) (fun o10 k11 => ?_)
  refine xg_aload_n hC dX11_passes_22 rfl ?_
  refine xg_getI hC (xm_hK hI rfl) rfl xl_F_X11_166 dX11_passes_23 (fun k12 => ?_)
  refine xg_if_ne hC k12 52 dX11_passes_26 rfl (fun c13 => ?_) (fun c14 => ?_)
  · refine xg_aload_n hC dX11_passes_29 rfl ?_
    refine xg_getI hC (xm_hK hI rfl) rfl xl_F_X11_186 dX11_passes_30 (fun k15 => ?_)
    refine xg_iload_n hC dX11_passes_33 rfl ?_
    refine xg_icmp_eq hC k15 k8 52 dX11_passes_34 rfl (fun c16 => ?_) (fun c17 => ?_)
    · exact xg_pick [1, 2] rfl (w_X11_passes_j52 hC hQ hI o10.1 x1 h1)
    refine xg_aload_n hC dX11_passes_37 rfl ?_
    refine xg_iload_n hC dX11_passes_38 rfl ?_
    refine xg_putI hC (xm_hK hI rfl) rfl rfl k8 (xm_kpK hI rfl) xl_F_X11_186 dX11_passes_39 ?_
    refine xg_st (fun σ36 => ?_)
    refine xg_aload_n hC dX11_passes_42 rfl ?_
    refine xg_iload_n hC dX11_passes_43 rfl ?_
    refine xg_iload_n hC dX11_passes_44 rfl ?_
    refine xg_aload_n hC dX11_passes_45 rfl ?_
    refine xg_getI hC (xm_hK hI rfl) rfl xl_F_X11_186 dX11_passes_46 (fun k37 => ?_)
    refine xg_callV hC (ci := 10) (w_X11_lineOf hI σ36 x1 x2 (σ36.1 84 31) h1 h2 k37) xl_M_X11_189 xl_V_X11_lineOf (xm_hK (a := 84) (kd := 0) (n := 10) hI rfl).2 ((xm_hK (a := 84) (kd := 0) (n := 10) hI rfl).1 _) (by decide) rfl (by decide) ⟨by decide, by decide⟩ dX11_passes_49 (rest := []) rfl rfl (Nat.le_of_ble_eq_true rfl) rfl rfl (st2 := fun o => []) (fun _ => rfl) (fun o38 k39 => ?_)
    exact xg_pick [1, 2] rfl (w_X11_passes_j52 hC hQ hI o38.1 x1 h1)
  exact xg_pick [1, 2] rfl (w_X11_passes_j52 hC hQ hI o10.1 x1 h1)
theorem w_X11_isLost_b5 {X : xm_X} (hC : xm_C X yX11_isLost.cls cX11_isLost 5 1 0 0) (hQ : xm_Rt X 2 (some .boolean) 0 0) (hI : xx_I X = xm_I) {K87 : xm_Mem → Int → Option xm_Out} (hK87 : ∀ (σ : xm_Mem) (x3 : Int), xm_in x3 → xm_V X 0 0 (K87 σ x3) σ 87 [(0, .ref (xm_B (xx_G X) + 84)), (3, .int (xm_J x3))] []) {self : xm_Mem → Int → Int → Int → Int → Option xm_Out} (hself : ∀ (σ : xm_Mem) (x1 : Int) (x2 : Int) (x3 : Int) (x4 : Int), xm_in x1 → xm_in x2 → xm_in x3 → xm_in x4 → xm_V X 0 0 (self σ x1 x2 x3 x4) σ 5 [(0, .ref (xm_B (xx_G X) + 84)), (1, .int (xm_J x1)), (2, .int (xm_J x2)), (3, .int (xm_J x3)), (4, .int (xm_J x4))] []) (σ : xm_Mem) (x1 : Int) (x2 : Int) (x3 : Int) (x4 : Int) (h1 : xm_in x1) (h2 : xm_in x2) (h3 : xm_in x3) (h4 : xm_in x4) : xm_V X 0 0 (f_X11_isLost_b5 K87 self σ x1 x2 x3 x4) σ 5 [(0, .ref (xm_B (xx_G X) + 84)), (1, .int (xm_J x1)), (2, .int (xm_J x2)), (3, .int (xm_J x3)), (4, .int (xm_J x4))] [] := by
  unfold f_X11_isLost_b5
  refine xg_iload hC dX11_isLost_5 rfl ?_
  refine xg_aload_n hC dX11_isLost_7 rfl ?_
  refine xg_getI hC (xm_hK hI rfl) rfl xl_F_X11_40 dX11_isLost_8 (fun k1 => ?_)
  refine xg_icmp_ge hC h4 k1 87 dX11_isLost_11 rfl (fun c2 => ?_) (fun c3 => ?_)
  · refine xg_aload_n hC dX11_isLost_14 rfl ?_
    refine xg_getW hC (b := 92) (xm_hK hI rfl) rfl (xm_wK hI rfl) (by decide) xl_F_X11_14 dX11_isLost_15 ?_
    refine xg_iload hC dX11_isLost_18 rfl ?_
    refine xg_zald hC (xm_hK hI rfl) rfl h4 dX11_isLost_20 (fun b4 k5 => ?_)
    refine xg_if_eq hC (xm_in01 k5) 81 dX11_isLost_21 rfl (fun c6 => ?_) (fun c7 => ?_)
    · refine xg_iinc hC (l' := [(4, .int (xm_J (xm_w (x4 + 1)))), (0, .ref (xm_B (xx_G X) + 84)), (1, .int (xm_J x1)), (2, .int (xm_J x2)), (3, .int (xm_J x3))]) dX11_isLost_81 (by decide) 4 rfl rfl ?_
      refine xg_goto hC 5 dX11_isLost_84 rfl ?_
      exact xg_pick [1, 2, 3, 4, 0] rfl (hself σ x1 x2 x3 (xm_w (x4 + 1)) h1 h2 h3 (xm_w_in _))
    refine xg_aload_n hC dX11_isLost_24 rfl ?_
    refine xg_getW hC (b := 86) (xm_hK hI rfl) rfl (xm_wK hI rfl) (by decide) xl_F_X11_43 dX11_isLost_25 ?_
    refine xg_iload hC dX11_isLost_28 rfl ?_
    refine xg_iald hC (xm_hK hI rfl) rfl h4 dX11_isLost_30 (fun b8 k9 => ?_)
    refine xg_bipush hC dX11_isLost_31 (by decide) ?_
    refine xg_icmp_lt hC k9 (xm_inc _ rfl) 81 dX11_isLost_33 rfl (fun c10 => ?_) (fun c11 => ?_)
    · refine xg_iinc hC (l' := [(4, .int (xm_J (xm_w (x4 + 1)))), (0, .ref (xm_B (xx_G X) + 84)), (1, .int (xm_J x1)), (2, .int (xm_J x2)), (3, .int (xm_J x3))]) dX11_isLost_81 (by decide) 4 rfl rfl ?_
      refine xg_goto hC 5 dX11_isLost_84 rfl ?_
      exact xg_pick [1, 2, 3, 4, 0] rfl (hself σ x1 x2 x3 (xm_w (x4 + 1)) h1 h2 h3 (xm_w_in _))
    refine xg_aload_n hC dX11_isLost_36 rfl ?_
    refine xg_getW hC (b := 89) (xm_hK hI rfl) rfl (xm_wK hI rfl) (by decide) xl_F_X11_34 dX11_isLost_37 ?_
    refine xg_iload hC dX11_isLost_40 rfl ?_
    refine xg_iald hC (xm_hK hI rfl) rfl h4 dX11_isLost_42 (fun b12 k13 => ?_)
    refine xg_iload_n hC dX11_isLost_43 rfl ?_
    refine xg_icmp_ne hC k13 h1 81 dX11_isLost_44 rfl (fun c14 => ?_) (fun c15 => ?_)
    · refine xg_aload_n hC dX11_isLost_47 rfl ?_
      refine xg_getW hC (b := 87) (xm_hK hI rfl) rfl (xm_wK hI rfl) (by decide) xl_F_X11_31 dX11_isLost_48 ?_
      refine xg_iload hC dX11_isLost_51 rfl ?_
      refine xg_iald hC (xm_hK hI rfl) rfl h4 dX11_isLost_53 (fun b16 k17 => ?_)
      refine xg_iload_n hC dX11_isLost_54 rfl ?_
      refine xg_icmp_gt hC k17 h2 81 dX11_isLost_55 rfl (fun c18 => ?_) (fun c19 => ?_)
      · refine xg_iinc hC (l' := [(4, .int (xm_J (xm_w (x4 + 1)))), (0, .ref (xm_B (xx_G X) + 84)), (1, .int (xm_J x1)), (2, .int (xm_J x2)), (3, .int (xm_J x3))]) dX11_isLost_81 (by decide) 4 rfl rfl ?_
        refine xg_goto hC 5 dX11_isLost_84 rfl ?_
        exact xg_pick [1, 2, 3, 4, 0] rfl (hself σ x1 x2 x3 (xm_w (x4 + 1)) h1 h2 h3 (xm_w_in _))
      refine xg_iload_n hC dX11_isLost_58 rfl ?_
      refine xg_if_lt hC h3 78 dX11_isLost_59 rfl (fun c20 => ?_) (fun c21 => ?_)
      · refine xg_iload hC dX11_isLost_78 rfl ?_
        refine xg_istore_n hC (l' := [(3, .int (xm_J x4)), (0, .ref (xm_B (xx_G X) + 84)), (1, .int (xm_J x1)), (2, .int (xm_J x2)), (4, .int (xm_J x4))]) dX11_isLost_80 (by decide) rfl ?_
        refine xg_iinc hC (l' := [(4, .int (xm_J (xm_w (x4 + 1)))), (3, .int (xm_J x4)), (0, .ref (xm_B (xx_G X) + 84)), (1, .int (xm_J x1)), (2, .int (xm_J x2))]) dX11_isLost_81 (by decide) 4 rfl rfl ?_
        refine xg_goto hC 5 dX11_isLost_84 rfl ?_
        exact xg_pick [2, 3, 4, 1, 0] rfl (hself σ x1 x2 x4 (xm_w (x4 + 1)) h1 h2 h4 (xm_w_in _))
      refine xg_aload_n hC dX11_isLost_62 rfl ?_
      refine xg_getW hC (b := 87) (xm_hK hI rfl) rfl (xm_wK hI rfl) (by decide) xl_F_X11_31 dX11_isLost_63 ?_
      refine xg_iload hC dX11_isLost_66 rfl ?_
      refine xg_iald hC (xm_hK hI rfl) rfl h4 dX11_isLost_68 (fun b22 k23 => ?_)
      refine xg_aload_n hC dX11_isLost_69 rfl ?_
      refine xg_getW hC (b := 87) (xm_hK hI rfl) rfl (xm_wK hI rfl) (by decide) xl_F_X11_31 dX11_isLost_70 ?_
      refine xg_iload_n hC dX11_isLost_73 rfl ?_
      refine xg_iald hC (xm_hK hI rfl) rfl h3 dX11_isLost_74 (fun b24 k25 => ?_)
      refine xg_icmp_le hC k23 k25 81 dX11_isLost_75 rfl (fun c26 => ?_) (fun c27 => ?_)
      · refine xg_iload hC dX11_isLost_78 rfl ?_
        refine xg_istore_n hC (l' := [(3, .int (xm_J x4)), (0, .ref (xm_B (xx_G X) + 84)), (1, .int (xm_J x1)), (2, .int (xm_J x2)), (4, .int (xm_J x4))]) dX11_isLost_80 (by decide) rfl ?_
        refine xg_iinc hC (l' := [(4, .int (xm_J (xm_w (x4 + 1)))), (3, .int (xm_J x4)), (0, .ref (xm_B (xx_G X) + 84)), (1, .int (xm_J x1)), (2, .int (xm_J x2))]) dX11_isLost_81 (by decide) 4 rfl rfl ?_
        refine xg_goto hC 5 dX11_isLost_84 rfl ?_
        exact xg_pick [2, 3, 4, 1, 0] rfl (hself σ x1 x2 x4 (xm_w (x4 + 1)) h1 h2 h4 (xm_w_in _))
      refine xg_iinc hC (l' := [(4, .int (xm_J (xm_w (x4 + 1)))), (0, .ref (xm_B (xx_G X) + 84)), (1, .int (xm_J x1)), (2, .int (xm_J x2)), (3, .int (xm_J x3))]) dX11_isLost_81 (by decide) 4 rfl rfl ?_
      refine xg_goto hC 5 dX11_isLost_84 rfl ?_
      exact xg_pick [1, 2, 3, 4, 0] rfl (hself σ x1 x2 x3 (xm_w (x4 + 1)) h1 h2 h3 (xm_w_in _))
    refine xg_iinc hC (l' := [(4, .int (xm_J (xm_w (x4 + 1)))), (0, .ref (xm_B (xx_G X) + 84)), (1, .int (xm_J x1)), (2, .int (xm_J x2)), (3, .int (xm_J x3))]) dX11_isLost_81 (by decide) 4 rfl rfl ?_
    refine xg_goto hC 5 dX11_isLost_84 rfl ?_
    exact xg_pick [1, 2, 3, 4, 0] rfl (hself σ x1 x2 x3 (xm_w (x4 + 1)) h1 h2 h3 (xm_w_in _))
  exact xg_pick [0, 3] rfl (hK87 σ x3 h3)
theorem w_X11_isLost_l5 {X : xm_X} (hC : xm_C X yX11_isLost.cls cX11_isLost 5 1 0 0) (hQ : xm_Rt X 2 (some .boolean) 0 0) (hI : xx_I X = xm_I) {K87 : xm_Mem → Int → Option xm_Out} (hK87 : ∀ (σ : xm_Mem) (x3 : Int), xm_in x3 → xm_V X 0 0 (K87 σ x3) σ 87 [(0, .ref (xm_B (xx_G X) + 84)), (3, .int (xm_J x3))] []) (n : Nat) : ∀ (σ : xm_Mem) (x1 : Int) (x2 : Int) (x3 : Int) (x4 : Int), xm_in x1 → xm_in x2 → xm_in x3 → xm_in x4 → xm_V X 0 0 (f_X11_isLost_l5 K87 n σ x1 x2 x3 x4) σ 5 [(0, .ref (xm_B (xx_G X) + 84)), (1, .int (xm_J x1)), (2, .int (xm_J x2)), (3, .int (xm_J x3)), (4, .int (xm_J x4))] [] := by
  induction n with
  | zero => intro σ x1 x2 x3 x4 h1 h2 h3 h4; exact xg_none
  | succ n ih => intro σ x1 x2 x3 x4 h1 h2 h3 h4; exact w_X11_isLost_b5 hC hQ hI hK87 ih σ x1 x2 x3 x4 h1 h2 h3 h4
theorem w_X11_isLost {Γ : xm_Gm} {I : xm_Mem → Prop} {la : Launch} (hE : I = xm_I) (σ : xm_Mem) (x1 : Int) (x2 : Int) (h1 : xm_in x1) (h2 : xm_in x2) : ∀ o, f_X11_isLost σ x1 x2 = some o → xm_M Γ I la yX11_isLost cX11_isLost 5 (some .boolean) 1 0 0 [.ref (xm_B Γ + 84), .int (xm_J x1), .int (xm_J x2)] σ 2 o := by
  refine xg_enter (by decide) (by simp [lg_sl, xm_rf_cat, xm_cati, xm_catr, xm_catl]) (fun X hG hI0 hla hC hQ hname => ?_)
  subst hG
  have hI := hI0.trans hE
  clear hI0 hla
  unfold f_X11_isLost
  refine xg_pick [0, 1, 2] (l' := [(0, .ref (xm_B (xx_G X) + 84)), (1, .int (xm_J x1)), (2, .int (xm_J x2))]) rfl ?_
  refine xg_iconst hC dX11_isLost_0 ?_
  refine xg_istore_n hC (l' := [(3, .int (xm_J (-1 : Int))), (0, .ref (xm_B (xx_G X) + 84)), (1, .int (xm_J x1)), (2, .int (xm_J x2))]) dX11_isLost_1 (by decide) rfl ?_
  refine xg_iconst hC dX11_isLost_2 ?_
  refine xg_istore hC (l' := [(4, .int (xm_J (0 : Int))), (3, .int (xm_J (-1 : Int))), (0, .ref (xm_B (xx_G X) + 84)), (1, .int (xm_J x1)), (2, .int (xm_J x2))]) dX11_isLost_3 (by decide) rfl ?_
  refine xg_pick [2, 3, 4, 1, 0] rfl (w_X11_isLost_l5 hC hQ hI ?_ _ σ x1 x2 (-1 : Int) (0 : Int) h1 h2 (xm_inc _ rfl) (xm_inc _ rfl))
  intro σ_28 x3_28 h3_28
  refine xg_iload_n hC dX11_isLost_87 rfl ?_
  refine xg_if_lt hC h3_28 106 dX11_isLost_88 rfl (fun c29 => ?_) (fun c30 => ?_)
  · refine xg_iconst hC dX11_isLost_106 ?_
    exact xg_zret hC hQ (by decide) dX11_isLost_107
  refine xg_aload_n hC dX11_isLost_91 rfl ?_
  refine xg_getW hC (b := 86) (xm_hK hI rfl) rfl (xm_wK hI rfl) (by decide) xl_F_X11_43 dX11_isLost_92 ?_
  refine xg_iload_n hC dX11_isLost_95 rfl ?_
  refine xg_iald hC (xm_hK hI rfl) rfl h3_28 dX11_isLost_96 (fun b31 k32 => ?_)
  refine xg_bipush hC dX11_isLost_97 (by decide) ?_
  refine xg_icmp_ne hC k32 (xm_inc _ rfl) 106 dX11_isLost_99 rfl (fun c33 => ?_) (fun c34 => ?_)
  · refine xg_iconst hC dX11_isLost_102 ?_
    refine xg_goto hC 107 dX11_isLost_103 rfl ?_
    exact xg_zret hC hQ (by decide) dX11_isLost_107
  refine xg_iconst hC dX11_isLost_106 ?_
  exact xg_zret hC hQ (by decide) dX11_isLost_107
theorem w_X11_recordOn_b3 {X : xm_X} (hC : xm_C X yX11_recordOn.cls cX11_recordOn 5 1 0 0) (hQ : xm_Rt X 1 (some .int) 0 0) (hI : xx_I X = xm_I)   {self : xm_Mem → Int → Int → Int → Int → Option xm_Out} (hself : ∀ (σ : xm_Mem) (x1 : Int) (x2 : Int) (x3 : Int) (x4 : Int), xm_in x1 → xm_in x2 → xm_in x3 → xm_in x4 → xm_V X 0 0 (self σ x1 x2 x3 x4) σ 3 [(0, .ref (xm_B (xx_G X) + 84)), (1, .int (xm_J x1)), (2, .int (xm_J x2)), (3, .int (xm_J x3)), (4, .int (xm_J x4))] []) (σ : xm_Mem) (x1 : Int) (x2 : Int) (x3 : Int) (x4 : Int) (h1 : xm_in x1) (h2 : xm_in x2) (h3 : xm_in x3) (h4 : xm_in x4) : xm_V X 0 0 (f_X11_recordOn_b3  self σ x1 x2 x3 x4) σ 3 [(0, .ref (xm_B (xx_G X) + 84)), (1, .int (xm_J x1)), (2, .int (xm_J x2)), (3, .int (xm_J x3)), (4, .int (xm_J x4))] [] := by
  unfold f_X11_recordOn_b3
  refine xg_iload hC dX11_recordOn_3 rfl ?_
  refine xg_aload_n hC dX11_recordOn_5 rfl ?_
  refine xg_getI hC (xm_hK hI rfl) rfl xl_F_X11_40 dX11_recordOn_6 (fun k1 => ?_)
  refine xg_icmp_ge hC h4 k1 64 dX11_recordOn_9 rfl (fun c2 => ?_) (fun c3 => ?_)
  · refine xg_aload_n hC dX11_recordOn_12 rfl ?_
    refine xg_getW hC (b := 92) (xm_hK hI rfl) rfl (xm_wK hI rfl) (by decide) xl_F_X11_14 dX11_recordOn_13 ?_
    refine xg_iload hC dX11_recordOn_16 rfl ?_
    refine xg_zald hC (xm_hK hI rfl) rfl h4 dX11_recordOn_18 (fun b4 k5 => ?_)
    refine xg_if_eq hC (xm_in01 k5) 58 dX11_recordOn_19 rfl (fun c6 => ?_) (fun c7 => ?_)
    · refine xg_iinc hC (l' := [(4, .int (xm_J (xm_w (x4 + 1)))), (0, .ref (xm_B (xx_G X) + 84)), (1, .int (xm_J x1)), (2, .int (xm_J x2)), (3, .int (xm_J x3))]) dX11_recordOn_58 (by decide) 4 rfl rfl ?_
      refine xg_goto hC 3 dX11_recordOn_61 rfl ?_
      exact xg_pick [1, 2, 3, 4, 0] rfl (hself σ x1 x2 x3 (xm_w (x4 + 1)) h1 h2 h3 (xm_w_in _))
    refine xg_aload_n hC dX11_recordOn_22 rfl ?_
    refine xg_getW hC (b := 86) (xm_hK hI rfl) rfl (xm_wK hI rfl) (by decide) xl_F_X11_43 dX11_recordOn_23 ?_
    refine xg_iload hC dX11_recordOn_26 rfl ?_
    refine xg_iald hC (xm_hK hI rfl) rfl h4 dX11_recordOn_28 (fun b8 k9 => ?_)
    refine xg_iload_n hC dX11_recordOn_29 rfl ?_
    refine xg_icmp_ne hC k9 h3 58 dX11_recordOn_30 rfl (fun c10 => ?_) (fun c11 => ?_)
    · refine xg_aload_n hC dX11_recordOn_33 rfl ?_
      refine xg_getW hC (b := 89) (xm_hK hI rfl) rfl (xm_wK hI rfl) (by decide) xl_F_X11_34 dX11_recordOn_34 ?_
      refine xg_iload hC dX11_recordOn_37 rfl ?_
      refine xg_iald hC (xm_hK hI rfl) rfl h4 dX11_recordOn_39 (fun b12 k13 => ?_)
      refine xg_iload_n hC dX11_recordOn_40 rfl ?_
      refine xg_icmp_ne hC k13 h1 58 dX11_recordOn_41 rfl (fun c14 => ?_) (fun c15 => ?_)
      · refine xg_aload_n hC dX11_recordOn_44 rfl ?_
        refine xg_getW hC (b := 87) (xm_hK hI rfl) rfl (xm_wK hI rfl) (by decide) xl_F_X11_31 dX11_recordOn_45 ?_
        refine xg_iload hC dX11_recordOn_48 rfl ?_
        refine xg_iald hC (xm_hK hI rfl) rfl h4 dX11_recordOn_50 (fun b16 k17 => ?_)
        refine xg_iload_n hC dX11_recordOn_51 rfl ?_
        refine xg_icmp_ne hC k17 h2 58 dX11_recordOn_52 rfl (fun c18 => ?_) (fun c19 => ?_)
        · refine xg_iload hC dX11_recordOn_55 rfl ?_
          exact xg_iret hC hQ h4 dX11_recordOn_57
        refine xg_iinc hC (l' := [(4, .int (xm_J (xm_w (x4 + 1)))), (0, .ref (xm_B (xx_G X) + 84)), (1, .int (xm_J x1)), (2, .int (xm_J x2)), (3, .int (xm_J x3))]) dX11_recordOn_58 (by decide) 4 rfl rfl ?_
        refine xg_goto hC 3 dX11_recordOn_61 rfl ?_
        exact xg_pick [1, 2, 3, 4, 0] rfl (hself σ x1 x2 x3 (xm_w (x4 + 1)) h1 h2 h3 (xm_w_in _))
      refine xg_iinc hC (l' := [(4, .int (xm_J (xm_w (x4 + 1)))), (0, .ref (xm_B (xx_G X) + 84)), (1, .int (xm_J x1)), (2, .int (xm_J x2)), (3, .int (xm_J x3))]) dX11_recordOn_58 (by decide) 4 rfl rfl ?_
      refine xg_goto hC 3 dX11_recordOn_61 rfl ?_
      exact xg_pick [1, 2, 3, 4, 0] rfl (hself σ x1 x2 x3 (xm_w (x4 + 1)) h1 h2 h3 (xm_w_in _))
    refine xg_iinc hC (l' := [(4, .int (xm_J (xm_w (x4 + 1)))), (0, .ref (xm_B (xx_G X) + 84)), (1, .int (xm_J x1)), (2, .int (xm_J x2)), (3, .int (xm_J x3))]) dX11_recordOn_58 (by decide) 4 rfl rfl ?_
    refine xg_goto hC 3 dX11_recordOn_61 rfl ?_
    exact xg_pick [1, 2, 3, 4, 0] rfl (hself σ x1 x2 x3 (xm_w (x4 + 1)) h1 h2 h3 (xm_w_in _))
  refine xg_iconst hC dX11_recordOn_64 ?_
  exact xg_iret hC hQ (xm_inc _ rfl) dX11_recordOn_65
theorem w_X11_recordOn_l3 {X : xm_X} (hC : xm_C X yX11_recordOn.cls cX11_recordOn 5 1 0 0) (hQ : xm_Rt X 1 (some .int) 0 0) (hI : xx_I X = xm_I)   (n : Nat) : ∀ (σ : xm_Mem) (x1 : Int) (x2 : Int) (x3 : Int) (x4 : Int), xm_in x1 → xm_in x2 → xm_in x3 → xm_in x4 → xm_V X 0 0 (f_X11_recordOn_l3  n σ x1 x2 x3 x4) σ 3 [(0, .ref (xm_B (xx_G X) + 84)), (1, .int (xm_J x1)), (2, .int (xm_J x2)), (3, .int (xm_J x3)), (4, .int (xm_J x4))] [] := by
  induction n with
  | zero => intro σ x1 x2 x3 x4 h1 h2 h3 h4; exact xg_none
  | succ n ih => intro σ x1 x2 x3 x4 h1 h2 h3 h4; exact w_X11_recordOn_b3 hC hQ hI ih σ x1 x2 x3 x4 h1 h2 h3 h4
theorem w_X11_recordOn {Γ : xm_Gm} {I : xm_Mem → Prop} {la : Launch} (hE : I = xm_I) (σ : xm_Mem) (x1 : Int) (x2 : Int) (x3 : Int) (h1 : xm_in x1) (h2 : xm_in x2) (h3 : xm_in x3) : ∀ o, f_X11_recordOn σ x1 x2 x3 = some o → xm_M Γ I la yX11_recordOn cX11_recordOn 5 (some .int) 1 0 0 [.ref (xm_B Γ + 84), .int (xm_J x1), .int (xm_J x2), .int (xm_J x3)] σ 1 o := by
  refine xg_enter (by decide) (by simp [lg_sl, xm_rf_cat, xm_cati, xm_catr, xm_catl]) (fun X hG hI0 hla hC hQ hname => ?_)
  subst hG
  have hI := hI0.trans hE
  clear hI0 hla
  unfold f_X11_recordOn
  refine xg_pick [0, 1, 2, 3] (l' := [(0, .ref (xm_B (xx_G X) + 84)), (1, .int (xm_J x1)), (2, .int (xm_J x2)), (3, .int (xm_J x3))]) rfl ?_
  refine xg_iconst hC dX11_recordOn_0 ?_
  refine xg_istore hC (l' := [(4, .int (xm_J (0 : Int))), (0, .ref (xm_B (xx_G X) + 84)), (1, .int (xm_J x1)), (2, .int (xm_J x2)), (3, .int (xm_J x3))]) dX11_recordOn_1 (by decide) rfl ?_
  exact xg_pick [1, 2, 3, 4, 0] rfl (w_X11_recordOn_l3 hC hQ hI _ σ x1 x2 x3 (0 : Int) h1 h2 h3 (xm_inc _ rfl))
theorem w_X11_bornAhead_b23 {X : xm_X} (hC : xm_C X yX11_bornAhead.cls cX11_bornAhead 8 72 0 0) (hQ : xm_Rt X 1 (some .int) 0 0) (hI : xx_I X = xm_I)   {self : xm_Mem → Int → Int → Int → Int → Option xm_Out} (hself : ∀ (σ : xm_Mem) (x2 : Int) (x3 : Int) (x4 : Int) (x5 : Int), xm_in x2 → xm_in x3 → xm_in x4 → xm_in x5 → xm_V X 0 0 (self σ x2 x3 x4 x5) σ 23 [(0, .ref (xm_B (xx_G X) + 84)), (2, .int (xm_J x2)), (3, .int (xm_J x3)), (4, .int (xm_J x4)), (5, .int (xm_J x5))] []) (σ : xm_Mem) (x2 : Int) (x3 : Int) (x4 : Int) (x5 : Int) (h2 : xm_in x2) (h3 : xm_in x3) (h4 : xm_in x4) (h5 : xm_in x5) : xm_V X 0 0 (f_X11_bornAhead_b23  self σ x2 x3 x4 x5) σ 23 [(0, .ref (xm_B (xx_G X) + 84)), (2, .int (xm_J x2)), (3, .int (xm_J x3)), (4, .int (xm_J x4)), (5, .int (xm_J x5))] [] := by
  unfold f_X11_bornAhead_b23
  refine xg_iload hC dX11_bornAhead_23 rfl ?_
  refine xg_iload hC dX11_bornAhead_25 rfl ?_
  refine xg_icmp_ge hC h5 h4 101 dX11_bornAhead_27 rfl (fun c7 => ?_) (fun c8 => ?_)
  · refine xg_aload_n hC dX11_bornAhead_30 rfl ?_
    refine xg_getW hC (b := 101) (xm_hK hI rfl) rfl (xm_wK hI rfl) (by decide) xl_F_X11_163 dX11_bornAhead_31 ?_
    refine xg_iload hC dX11_bornAhead_34 rfl ?_
    refine xg_iald hC (xm_hK hI rfl) rfl h5 dX11_bornAhead_36 (fun b9 k10 => ?_)
    refine xg_vI k10 (fun v11 k12 => ?_)
    refine xg_istore hC (l' := [(6, .int (xm_J v11)), (0, .ref (xm_B (xx_G X) + 84)), (2, .int (xm_J x2)), (3, .int (xm_J x3)), (4, .int (xm_J x4)), (5, .int (xm_J x5))]) dX11_bornAhead_37 (by decide) rfl ?_
    refine xg_aload_n hC dX11_bornAhead_39 rfl ?_
    refine xg_iload hC dX11_bornAhead_40 rfl ?_
    refine xg_callV hC (ci := 10) (w_X11_bornOn hI σ v11 k12) xl_M_X11_53 xl_V_X11_bornOn (xm_hK (a := 84) (kd := 0) (n := 10) hI rfl).2 ((xm_hK (a := 84) (kd := 0) (n := 10) hI rfl).1 _) (by decide) rfl (by decide) ⟨by decide, by decide⟩ dX11_bornAhead_42 (rest := []) rfl rfl (Nat.le_of_ble_eq_true rfl) rfl rfl (st2 := fun o => .int (xm_J o.2) :: []) (fun _ => rfl) (fun o13 k14 => ?_)
    refine xg_iload_n hC dX11_bornAhead_45 rfl ?_
    refine xg_icmp_ne hC k14 h2 95 dX11_bornAhead_46 rfl (fun c15 => ?_) (fun c16 => ?_)
    · refine xg_aload_n hC dX11_bornAhead_49 rfl ?_
      refine xg_getW hC (b := 96) (xm_hK hI rfl) rfl (xm_wK hI rfl) (by decide) xl_F_X11_117 dX11_bornAhead_50 ?_
      refine xg_iload hC dX11_bornAhead_53 rfl ?_
      refine xg_zald hC (xm_hK hI rfl) rfl k12 dX11_bornAhead_55 (fun b17 k18 => ?_)
      refine xg_if_ne hC (xm_in01 k18) 62 dX11_bornAhead_56 rfl (fun c19 => ?_) (fun c20 => ?_)
      · refine xg_goto hC 95 dX11_bornAhead_59 rfl ?_
        refine xg_iinc hC (l' := [(5, .int (xm_J (xm_w (x5 + 1)))), (6, .int (xm_J v11)), (0, .ref (xm_B (xx_G X) + 84)), (2, .int (xm_J x2)), (3, .int (xm_J x3)), (4, .int (xm_J x4))]) dX11_bornAhead_95 (by decide) 5 rfl rfl ?_
        refine xg_goto hC 23 dX11_bornAhead_98 rfl ?_
        exact xg_pick [2, 3, 4, 5, 0] rfl (hself o13.1 x2 x3 x4 (xm_w (x5 + 1)) h2 h3 h4 (xm_w_in _))
      refine xg_aload_n hC dX11_bornAhead_62 rfl ?_
      refine xg_getW hC (b := 99) (xm_hK hI rfl) rfl (xm_wK hI rfl) (by decide) xl_F_X11_56 dX11_bornAhead_63 ?_
      refine xg_aload_n hC dX11_bornAhead_66 rfl ?_
      refine xg_iload hC dX11_bornAhead_67 rfl ?_
      refine xg_callV hC (ci := 10) (w_X11_father hI o13.1 v11 k12) xl_M_X11_76 xl_V_X11_father (xm_hK (a := 84) (kd := 0) (n := 10) hI rfl).2 ((xm_hK (a := 84) (kd := 0) (n := 10) hI rfl).1 _) (by decide) rfl (by decide) ⟨by decide, by decide⟩ dX11_bornAhead_69 (rest := [.ref (xm_B (xx_G X) + 99)]) rfl rfl (Nat.le_of_ble_eq_true rfl) rfl rfl (st2 := fun o => .int (xm_J o.2) :: [.ref (xm_B (xx_G X) + 99)]) (fun _ => rfl) (fun o21 k22 => ?_)
      refine xg_iald hC (xm_hK hI rfl) rfl k22 dX11_bornAhead_72 (fun b23 k24 => ?_)
      refine xg_vI k24 (fun v25 k26 => ?_)
      refine xg_istore hC (l' := [(7, .int (xm_J v25)), (6, .int (xm_J v11)), (0, .ref (xm_B (xx_G X) + 84)), (2, .int (xm_J x2)), (3, .int (xm_J x3)), (4, .int (xm_J x4)), (5, .int (xm_J x5))]) dX11_bornAhead_73 (by decide) rfl ?_
      refine xg_iload hC dX11_bornAhead_75 rfl ?_
      refine xg_if_lt hC k26 95 dX11_bornAhead_77 rfl (fun c27 => ?_) (fun c28 => ?_)
      · refine xg_iinc hC (l' := [(5, .int (xm_J (xm_w (x5 + 1)))), (7, .int (xm_J v25)), (6, .int (xm_J v11)), (0, .ref (xm_B (xx_G X) + 84)), (2, .int (xm_J x2)), (3, .int (xm_J x3)), (4, .int (xm_J x4))]) dX11_bornAhead_95 (by decide) 6 rfl rfl ?_
        refine xg_goto hC 23 dX11_bornAhead_98 rfl ?_
        exact xg_pick [3, 4, 5, 6, 0] rfl (hself o21.1 x2 x3 x4 (xm_w (x5 + 1)) h2 h3 h4 (xm_w_in _))
      refine xg_iload hC dX11_bornAhead_80 rfl ?_
      refine xg_iload_n hC dX11_bornAhead_82 rfl ?_
      refine xg_icmp_ge hC k26 h2 95 dX11_bornAhead_83 rfl (fun c29 => ?_) (fun c30 => ?_)
      · refine xg_iload_n hC dX11_bornAhead_86 rfl ?_
        refine xg_iload hC dX11_bornAhead_87 rfl ?_
        refine xg_icmp_lt hC h3 k26 95 dX11_bornAhead_89 rfl (fun c31 => ?_) (fun c32 => ?_)
        · refine xg_iinc hC (l' := [(5, .int (xm_J (xm_w (x5 + 1)))), (7, .int (xm_J v25)), (6, .int (xm_J v11)), (0, .ref (xm_B (xx_G X) + 84)), (2, .int (xm_J x2)), (3, .int (xm_J x3)), (4, .int (xm_J x4))]) dX11_bornAhead_95 (by decide) 6 rfl rfl ?_
          refine xg_goto hC 23 dX11_bornAhead_98 rfl ?_
          exact xg_pick [3, 4, 5, 6, 0] rfl (hself o21.1 x2 x3 x4 (xm_w (x5 + 1)) h2 h3 h4 (xm_w_in _))
        refine xg_iload hC dX11_bornAhead_92 rfl ?_
        exact xg_iret hC hQ k12 dX11_bornAhead_94
      refine xg_iinc hC (l' := [(5, .int (xm_J (xm_w (x5 + 1)))), (7, .int (xm_J v25)), (6, .int (xm_J v11)), (0, .ref (xm_B (xx_G X) + 84)), (2, .int (xm_J x2)), (3, .int (xm_J x3)), (4, .int (xm_J x4))]) dX11_bornAhead_95 (by decide) 6 rfl rfl ?_
      refine xg_goto hC 23 dX11_bornAhead_98 rfl ?_
      exact xg_pick [3, 4, 5, 6, 0] rfl (hself o21.1 x2 x3 x4 (xm_w (x5 + 1)) h2 h3 h4 (xm_w_in _))
    refine xg_iinc hC (l' := [(5, .int (xm_J (xm_w (x5 + 1)))), (6, .int (xm_J v11)), (0, .ref (xm_B (xx_G X) + 84)), (2, .int (xm_J x2)), (3, .int (xm_J x3)), (4, .int (xm_J x4))]) dX11_bornAhead_95 (by decide) 5 rfl rfl ?_
    refine xg_goto hC 23 dX11_bornAhead_98 rfl ?_
    exact xg_pick [2, 3, 4, 5, 0] rfl (hself o13.1 x2 x3 x4 (xm_w (x5 + 1)) h2 h3 h4 (xm_w_in _))
  refine xg_iconst hC dX11_bornAhead_101 ?_
  exact xg_iret hC hQ (xm_inc _ rfl) dX11_bornAhead_102
theorem w_X11_bornAhead_l23 {X : xm_X} (hC : xm_C X yX11_bornAhead.cls cX11_bornAhead 8 72 0 0) (hQ : xm_Rt X 1 (some .int) 0 0) (hI : xx_I X = xm_I)   (n : Nat) : ∀ (σ : xm_Mem) (x2 : Int) (x3 : Int) (x4 : Int) (x5 : Int), xm_in x2 → xm_in x3 → xm_in x4 → xm_in x5 → xm_V X 0 0 (f_X11_bornAhead_l23  n σ x2 x3 x4 x5) σ 23 [(0, .ref (xm_B (xx_G X) + 84)), (2, .int (xm_J x2)), (3, .int (xm_J x3)), (4, .int (xm_J x4)), (5, .int (xm_J x5))] [] := by
  induction n with
  | zero => intro σ x2 x3 x4 x5 h2 h3 h4 h5; exact xg_none
  | succ n ih => intro σ x2 x3 x4 x5 h2 h3 h4 h5; exact w_X11_bornAhead_b23 hC hQ hI ih σ x2 x3 x4 x5 h2 h3 h4 h5
theorem w_X11_bornAhead {Γ : xm_Gm} {I : xm_Mem → Prop} {la : Launch} (hE : I = xm_I) (σ : xm_Mem) (x1 : Int) (x2 : Int) (x3 : Int) (h1 : xm_in x1) (h2 : xm_in x2) (h3 : xm_in x3) : ∀ o, f_X11_bornAhead σ x1 x2 x3 = some o → xm_M Γ I la yX11_bornAhead cX11_bornAhead 8 (some .int) 72 0 0 [.ref (xm_B Γ + 84), .int (xm_J x1), .int (xm_J x2), .int (xm_J x3)] σ 1 o := by
  refine xg_enter (by decide) (by simp [lg_sl, xm_rf_cat, xm_cati, xm_catr, xm_catl]) (fun X hG hI0 hla hC hQ hname => ?_)
  subst hG
  have hI := hI0.trans hE
  clear hI0 hla
  unfold f_X11_bornAhead
  refine xg_pick [0, 1, 2, 3] (l' := [(0, .ref (xm_B (xx_G X) + 84)), (1, .int (xm_J x1)), (2, .int (xm_J x2)), (3, .int (xm_J x3))]) rfl ?_
  refine xg_aload_n hC dX11_bornAhead_0 rfl ?_
  refine xg_iload_n hC dX11_bornAhead_1 rfl ?_
  refine xg_iload_n hC dX11_bornAhead_2 rfl ?_
  refine xg_aload_n hC dX11_bornAhead_3 rfl ?_
  refine xg_getI hC (xm_hK hI rfl) rfl xl_F_X11_186 dX11_bornAhead_4 (fun k1 => ?_)
  refine xg_callV hC (ci := 10) (w_X11_lineOf hI σ x1 x2 (σ.1 84 31) h1 h2 k1) xl_M_X11_189 xl_V_X11_lineOf (xm_hK (a := 84) (kd := 0) (n := 10) hI rfl).2 ((xm_hK (a := 84) (kd := 0) (n := 10) hI rfl).1 _) (by decide) rfl (by decide) ⟨by decide, by decide⟩ dX11_bornAhead_7 (rest := []) rfl rfl (Nat.le_of_ble_eq_true rfl) rfl rfl (st2 := fun o => []) (fun _ => rfl) (fun o2 k3 => ?_)
  refine xg_aload_n hC dX11_bornAhead_10 rfl ?_
  refine xg_aload_n hC dX11_bornAhead_11 rfl ?_
  refine xg_getI hC (xm_hK hI rfl) rfl xl_F_X11_195 dX11_bornAhead_12 (fun k4 => ?_)
  refine xg_callV hC (ci := 10) (w_X11_placeOf hI o2.1 (o2.1.1 84 30) k4) xl_M_X11_214 xl_V_X11_placeOf (xm_hK (a := 84) (kd := 0) (n := 10) hI rfl).2 ((xm_hK (a := 84) (kd := 0) (n := 10) hI rfl).1 _) (by decide) rfl (by decide) ⟨by decide, by decide⟩ dX11_bornAhead_15 (rest := []) rfl rfl (Nat.le_of_ble_eq_true rfl) rfl rfl (st2 := fun o => .int (xm_J o.2) :: []) (fun _ => rfl) (fun o5 k6 => ?_)
  refine xg_istore hC (l' := [(4, .int (xm_J o5.2)), (0, .ref (xm_B (xx_G X) + 84)), (1, .int (xm_J x1)), (2, .int (xm_J x2)), (3, .int (xm_J x3))]) dX11_bornAhead_18 (by decide) rfl ?_
  refine xg_iconst hC dX11_bornAhead_20 ?_
  refine xg_istore hC (l' := [(5, .int (xm_J (0 : Int))), (4, .int (xm_J o5.2)), (0, .ref (xm_B (xx_G X) + 84)), (1, .int (xm_J x1)), (2, .int (xm_J x2)), (3, .int (xm_J x3))]) dX11_bornAhead_21 (by decide) rfl ?_
  exact xg_pick [2, 4, 5, 1, 0] rfl (w_X11_bornAhead_l23 hC hQ hI _ o5.1 x2 x3 o5.2 (0 : Int) h2 h3 k6 (xm_inc _ rfl))
theorem w_X11_called_b12 {X : xm_X} (hC : xm_C X yX11_called.cls cX11_called 4 72 0 0) (hQ : xm_Rt X 1 (some .int) 0 0) (hI : xx_I X = xm_I) {K73 : xm_Mem → Int → Option xm_Out} (hK73 : ∀ (σ : xm_Mem) (x3 : Int), xm_in x3 → xm_V X 0 0 (K73 σ x3) σ 73 [(0, .ref (xm_B (xx_G X) + 84)), (3, .int (xm_J x3))] []) {self : xm_Mem → Int → Int → Int → Option xm_Out} (hself : ∀ (σ : xm_Mem) (x1 : Int) (x2 : Int) (x3 : Int), xm_in x1 → xm_in x2 → xm_in x3 → xm_V X 0 0 (self σ x1 x2 x3) σ 12 [(0, .ref (xm_B (xx_G X) + 84)), (1, .int (xm_J x1)), (2, .int (xm_J x2)), (3, .int (xm_J x3))] []) (σ : xm_Mem) (x1 : Int) (x2 : Int) (x3 : Int) (h1 : xm_in x1) (h2 : xm_in x2) (h3 : xm_in x3) : xm_V X 0 0 (f_X11_called_b12 K73 self σ x1 x2 x3) σ 12 [(0, .ref (xm_B (xx_G X) + 84)), (1, .int (xm_J x1)), (2, .int (xm_J x2)), (3, .int (xm_J x3))] [] := by
  unfold f_X11_called_b12
  refine xg_iload_n hC dX11_called_12 rfl ?_
  refine xg_aload_n hC dX11_called_13 rfl ?_
  refine xg_getI hC (xm_hK hI rfl) rfl xl_F_X11_40 dX11_called_14 (fun k4 => ?_)
  refine xg_icmp_ge hC h3 k4 86 dX11_called_17 rfl (fun c5 => ?_) (fun c6 => ?_)
  · refine xg_aload_n hC dX11_called_20 rfl ?_
    refine xg_getW hC (b := 92) (xm_hK hI rfl) rfl (xm_wK hI rfl) (by decide) xl_F_X11_14 dX11_called_21 ?_
    refine xg_iload_n hC dX11_called_24 rfl ?_
    refine xg_zald hC (xm_hK hI rfl) rfl h3 dX11_called_25 (fun b7 k8 => ?_)
    refine xg_if_eq hC (xm_in01 k8) 80 dX11_called_26 rfl (fun c9 => ?_) (fun c10 => ?_)
    · refine xg_iinc hC (l' := [(3, .int (xm_J (xm_w (x3 + 1)))), (0, .ref (xm_B (xx_G X) + 84)), (1, .int (xm_J x1)), (2, .int (xm_J x2))]) dX11_called_80 (by decide) 3 rfl rfl ?_
      refine xg_goto hC 12 dX11_called_83 rfl ?_
      exact xg_pick [1, 2, 3, 0] rfl (hself σ x1 x2 (xm_w (x3 + 1)) h1 h2 (xm_w_in _))
    refine xg_aload_n hC dX11_called_29 rfl ?_
    refine xg_getW hC (b := 86) (xm_hK hI rfl) rfl (xm_wK hI rfl) (by decide) xl_F_X11_43 dX11_called_30 ?_
    refine xg_iload_n hC dX11_called_33 rfl ?_
    refine xg_iald hC (xm_hK hI rfl) rfl h3 dX11_called_34 (fun b11 k12 => ?_)
    refine xg_bipush hC dX11_called_35 (by decide) ?_
    refine xg_icmp_ne hC k12 (xm_inc _ rfl) 80 dX11_called_37 rfl (fun c13 => ?_) (fun c14 => ?_)
    · refine xg_aload_n hC dX11_called_40 rfl ?_
      refine xg_getW hC (b := 89) (xm_hK hI rfl) rfl (xm_wK hI rfl) (by decide) xl_F_X11_34 dX11_called_41 ?_
      refine xg_iload_n hC dX11_called_44 rfl ?_
      refine xg_iald hC (xm_hK hI rfl) rfl h3 dX11_called_45 (fun b15 k16 => ?_)
      refine xg_iload_n hC dX11_called_46 rfl ?_
      refine xg_icmp_ne hC k16 h1 80 dX11_called_47 rfl (fun c17 => ?_) (fun c18 => ?_)
      · refine xg_aload_n hC dX11_called_50 rfl ?_
        refine xg_getW hC (b := 87) (xm_hK hI rfl) rfl (xm_wK hI rfl) (by decide) xl_F_X11_31 dX11_called_51 ?_
        refine xg_iload_n hC dX11_called_54 rfl ?_
        refine xg_iald hC (xm_hK hI rfl) rfl h3 dX11_called_55 (fun b19 k20 => ?_)
        refine xg_iload_n hC dX11_called_56 rfl ?_
        refine xg_icmp_ne hC k20 h2 80 dX11_called_57 rfl (fun c21 => ?_) (fun c22 => ?_)
        · refine xg_aload_n hC dX11_called_60 rfl ?_
          refine xg_aload_n hC dX11_called_61 rfl ?_
          refine xg_getW hC (b := 88) (xm_hK hI rfl) rfl (xm_wK hI rfl) (by decide) xl_F_X11_46 dX11_called_62 ?_
          refine xg_iload_n hC dX11_called_65 rfl ?_
          refine xg_iald hC (xm_hK hI rfl) rfl h3 dX11_called_66 (fun b23 k24 => ?_)
          refine xg_callV hC (ci := 10) (w_X11_placeOf hI σ (σ.1 88 x3.toNat) k24) xl_M_X11_214 xl_V_X11_placeOf (xm_hK (a := 84) (kd := 0) (n := 10) hI rfl).2 ((xm_hK (a := 84) (kd := 0) (n := 10) hI rfl).1 _) (by decide) rfl (by decide) ⟨by decide, by decide⟩ dX11_called_67 (rest := []) rfl rfl (Nat.le_of_ble_eq_true rfl) rfl rfl (st2 := fun o => .int (xm_J o.2) :: []) (fun _ => rfl) (fun o25 k26 => ?_)
          refine xg_if_lt hC k26 80 dX11_called_70 rfl (fun c27 => ?_) (fun c28 => ?_)
          · refine xg_iinc hC (l' := [(3, .int (xm_J (xm_w (x3 + 1)))), (0, .ref (xm_B (xx_G X) + 84)), (1, .int (xm_J x1)), (2, .int (xm_J x2))]) dX11_called_80 (by decide) 3 rfl rfl ?_
            refine xg_goto hC 12 dX11_called_83 rfl ?_
            exact xg_pick [1, 2, 3, 0] rfl (hself o25.1 x1 x2 (xm_w (x3 + 1)) h1 h2 (xm_w_in _))
          exact xg_pick [0, 3] rfl (hK73 o25.1 x3 h3)
        refine xg_iinc hC (l' := [(3, .int (xm_J (xm_w (x3 + 1)))), (0, .ref (xm_B (xx_G X) + 84)), (1, .int (xm_J x1)), (2, .int (xm_J x2))]) dX11_called_80 (by decide) 3 rfl rfl ?_
        refine xg_goto hC 12 dX11_called_83 rfl ?_
        exact xg_pick [1, 2, 3, 0] rfl (hself σ x1 x2 (xm_w (x3 + 1)) h1 h2 (xm_w_in _))
      refine xg_iinc hC (l' := [(3, .int (xm_J (xm_w (x3 + 1)))), (0, .ref (xm_B (xx_G X) + 84)), (1, .int (xm_J x1)), (2, .int (xm_J x2))]) dX11_called_80 (by decide) 3 rfl rfl ?_
      refine xg_goto hC 12 dX11_called_83 rfl ?_
      exact xg_pick [1, 2, 3, 0] rfl (hself σ x1 x2 (xm_w (x3 + 1)) h1 h2 (xm_w_in _))
    refine xg_iinc hC (l' := [(3, .int (xm_J (xm_w (x3 + 1)))), (0, .ref (xm_B (xx_G X) + 84)), (1, .int (xm_J x1)), (2, .int (xm_J x2))]) dX11_called_80 (by decide) 3 rfl rfl ?_
    refine xg_goto hC 12 dX11_called_83 rfl ?_
    exact xg_pick [1, 2, 3, 0] rfl (hself σ x1 x2 (xm_w (x3 + 1)) h1 h2 (xm_w_in _))
  refine xg_iconst hC dX11_called_86 ?_
  exact xg_iret hC hQ (xm_inc _ rfl) dX11_called_87
theorem w_X11_called_l12 {X : xm_X} (hC : xm_C X yX11_called.cls cX11_called 4 72 0 0) (hQ : xm_Rt X 1 (some .int) 0 0) (hI : xx_I X = xm_I) {K73 : xm_Mem → Int → Option xm_Out} (hK73 : ∀ (σ : xm_Mem) (x3 : Int), xm_in x3 → xm_V X 0 0 (K73 σ x3) σ 73 [(0, .ref (xm_B (xx_G X) + 84)), (3, .int (xm_J x3))] []) (n : Nat) : ∀ (σ : xm_Mem) (x1 : Int) (x2 : Int) (x3 : Int), xm_in x1 → xm_in x2 → xm_in x3 → xm_V X 0 0 (f_X11_called_l12 K73 n σ x1 x2 x3) σ 12 [(0, .ref (xm_B (xx_G X) + 84)), (1, .int (xm_J x1)), (2, .int (xm_J x2)), (3, .int (xm_J x3))] [] := by
  induction n with
  | zero => intro σ x1 x2 x3 h1 h2 h3; exact xg_none
  | succ n ih => intro σ x1 x2 x3 h1 h2 h3; exact w_X11_called_b12 hC hQ hI hK73 ih σ x1 x2 x3 h1 h2 h3
theorem w_X11_called {Γ : xm_Gm} {I : xm_Mem → Prop} {la : Launch} (hE : I = xm_I) (σ : xm_Mem) (x1 : Int) (x2 : Int) (h1 : xm_in x1) (h2 : xm_in x2) : ∀ o, f_X11_called σ x1 x2 = some o → xm_M Γ I la yX11_called cX11_called 4 (some .int) 72 0 0 [.ref (xm_B Γ + 84), .int (xm_J x1), .int (xm_J x2)] σ 1 o := by
  refine xg_enter (by decide) (by simp [lg_sl, xm_rf_cat, xm_cati, xm_catr, xm_catl]) (fun X hG hI0 hla hC hQ hname => ?_)
  subst hG
  have hI := hI0.trans hE
  clear hI0 hla
  unfold f_X11_called
  refine xg_pick [0, 1, 2] (l' := [(0, .ref (xm_B (xx_G X) + 84)), (1, .int (xm_J x1)), (2, .int (xm_J x2))]) rfl ?_
  refine xg_aload_n hC dX11_called_0 rfl ?_
  refine xg_iload_n hC dX11_called_1 rfl ?_
  refine xg_iload_n hC dX11_called_2 rfl ?_
  refine xg_aload_n hC dX11_called_3 rfl ?_
  refine xg_getI hC (xm_hK hI rfl) rfl xl_F_X11_186 dX11_called_4 (fun k1 => ?_)
  refine xg_callV hC (ci := 10) (w_X11_lineOf hI σ x1 x2 (σ.1 84 31) h1 h2 k1) xl_M_X11_189 xl_V_X11_lineOf (xm_hK (a := 84) (kd := 0) (n := 10) hI rfl).2 ((xm_hK (a := 84) (kd := 0) (n := 10) hI rfl).1 _) (by decide) rfl (by decide) ⟨by decide, by decide⟩ dX11_called_7 (rest := []) rfl rfl (Nat.le_of_ble_eq_true rfl) rfl rfl (st2 := fun o => []) (fun _ => rfl) (fun o2 k3 => ?_)
  refine xg_iconst hC dX11_called_10 ?_
  refine xg_istore_n hC (l' := [(3, .int (xm_J (0 : Int))), (0, .ref (xm_B (xx_G X) + 84)), (1, .int (xm_J x1)), (2, .int (xm_J x2))]) dX11_called_11 (by decide) rfl ?_
  refine xg_pick [1, 2, 3, 0] rfl (w_X11_called_l12 hC hQ hI ?_ _ o2.1 x1 x2 (0 : Int) h1 h2 (xm_inc _ rfl))
  intro σ_29 x3_29 h3_29
  refine xg_aload_n hC dX11_called_73 rfl ?_
  refine xg_getW hC (b := 88) (xm_hK hI rfl) rfl (xm_wK hI rfl) (by decide) xl_F_X11_46 dX11_called_74 ?_
  refine xg_iload_n hC dX11_called_77 rfl ?_
  refine xg_iald hC (xm_hK hI rfl) rfl h3_29 dX11_called_78 (fun b30 k31 => ?_)
  exact xg_iret hC hQ k31 dX11_called_79
theorem w_X11_happens {Γ : xm_Gm} {I : xm_Mem → Prop} {la : Launch} (hE : I = xm_I) (σ : xm_Mem) (x1 : Int) (x2 : Int) (h1 : xm_in x1) (h2 : xm_in x2) : ∀ o, f_X11_happens σ x1 x2 = some o → xm_M Γ I la yX11_happens cX11_happens 4 (some .boolean) 1 0 0 [.ref (xm_B Γ + 84), .int (xm_J x1), .int (xm_J x2)] σ 2 o := by
  refine xg_enter (by decide) (by simp [lg_sl, xm_rf_cat, xm_cati, xm_catr, xm_catl]) (fun X hG hI0 hla hC hQ hname => ?_)
  subst hG
  have hI := hI0.trans hE
  clear hI0 hla
  unfold f_X11_happens
  refine xg_pick [0, 1, 2] (l' := [(0, .ref (xm_B (xx_G X) + 84)), (1, .int (xm_J x1)), (2, .int (xm_J x2))]) rfl ?_
  refine xg_aload_n hC dX11_happens_0 rfl ?_
  refine xg_getW hC (b := 86) (xm_hK hI rfl) rfl (xm_wK hI rfl) (by decide) xl_F_X11_43 dX11_happens_1 ?_
  refine xg_iload_n hC dX11_happens_4 rfl ?_
  refine xg_iald hC (xm_hK hI rfl) rfl h1 dX11_happens_5 (fun b1 k2 => ?_)
  refine xg_vI k2 (fun v3 k4 => ?_)
  refine xg_istore_n hC (l' := [(3, .int (xm_J v3)), (0, .ref (xm_B (xx_G X) + 84)), (1, .int (xm_J x1)), (2, .int (xm_J x2))]) dX11_happens_6 (by decide) rfl ?_
  refine xg_aload_n hC dX11_happens_7 rfl ?_
  refine xg_getW hC (b := 92) (xm_hK hI rfl) rfl (xm_wK hI rfl) (by decide) xl_F_X11_14 dX11_happens_8 ?_
  refine xg_iload_n hC dX11_happens_11 rfl ?_
  refine xg_zald hC (xm_hK hI rfl) rfl h1 dX11_happens_12 (fun b5 k6 => ?_)
  refine xg_if_eq hC (xm_in01 k6) 54 dX11_happens_13 rfl (fun c7 => ?_) (fun c8 => ?_)
  · refine xg_iconst hC dX11_happens_54 ?_
    exact xg_zret hC hQ (by decide) dX11_happens_55
  refine xg_iload_n hC dX11_happens_16 rfl ?_
  refine xg_if_eq hC k4 50 dX11_happens_17 rfl (fun c9 => ?_) (fun c10 => ?_)
  · refine xg_iconst hC dX11_happens_50 ?_
    refine xg_goto hC 55 dX11_happens_51 rfl ?_
    exact xg_zret hC hQ (by decide) dX11_happens_55
  refine xg_iload_n hC dX11_happens_20 rfl ?_
  refine xg_iconst hC dX11_happens_21 ?_
  refine xg_icmp_eq hC k4 (xm_inc _ rfl) 50 dX11_happens_22 rfl (fun c11 => ?_) (fun c12 => ?_)
  · refine xg_iconst hC dX11_happens_50 ?_
    refine xg_goto hC 55 dX11_happens_51 rfl ?_
    exact xg_zret hC hQ (by decide) dX11_happens_55
  refine xg_iload_n hC dX11_happens_25 rfl ?_
  refine xg_aload_n hC dX11_happens_26 rfl ?_
  refine xg_getW hC (b := 94) (xm_hK hI rfl) rfl (xm_wK hI rfl) (by decide) xl_F_X11_25 dX11_happens_27 ?_
  refine xg_iload_n hC dX11_happens_30 rfl ?_
  refine xg_iald hC (xm_hK hI rfl) rfl h2 dX11_happens_31 (fun b13 k14 => ?_)
  refine xg_icmp_eq hC h1 k14 50 dX11_happens_32 rfl (fun c15 => ?_) (fun c16 => ?_)
  · refine xg_iconst hC dX11_happens_50 ?_
    refine xg_goto hC 55 dX11_happens_51 rfl ?_
    exact xg_zret hC hQ (by decide) dX11_happens_55
  refine xg_iload_n hC dX11_happens_35 rfl ?_
  refine xg_iconst hC dX11_happens_36 ?_
  refine xg_icmp_lt hC k4 (xm_inc _ rfl) 54 dX11_happens_37 rfl (fun c17 => ?_) (fun c18 => ?_)
  · refine xg_iconst hC dX11_happens_54 ?_
    exact xg_zret hC hQ (by decide) dX11_happens_55
  refine xg_aload_n hC dX11_happens_40 rfl ?_
  refine xg_getW hC (b := 89) (xm_hK hI rfl) rfl (xm_wK hI rfl) (by decide) xl_F_X11_34 dX11_happens_41 ?_
  refine xg_iload_n hC dX11_happens_44 rfl ?_
  refine xg_iald hC (xm_hK hI rfl) rfl h1 dX11_happens_45 (fun b19 k20 => ?_)
  refine xg_iload_n hC dX11_happens_46 rfl ?_
  refine xg_icmp_ne hC k20 h2 54 dX11_happens_47 rfl (fun c21 => ?_) (fun c22 => ?_)
  · refine xg_iconst hC dX11_happens_50 ?_
    refine xg_goto hC 55 dX11_happens_51 rfl ?_
    exact xg_zret hC hQ (by decide) dX11_happens_55
  refine xg_iconst hC dX11_happens_54 ?_
  exact xg_zret hC hQ (by decide) dX11_happens_55
theorem w_X11_dayBehind_b6 {X : xm_X} (hC : xm_C X yX11_dayBehind.cls cX11_dayBehind 5 2 0 0) (hQ : xm_Rt X 1 (some .int) 0 0) (hI : xx_I X = xm_I)   {self : xm_Mem → Int → Int → Int → Int → Option xm_Out} (hself : ∀ (σ : xm_Mem) (x1 : Int) (x2 : Int) (x3 : Int) (x4 : Int), xm_in x1 → xm_in x2 → xm_in x3 → xm_in x4 → xm_V X 0 0 (self σ x1 x2 x3 x4) σ 6 [(0, .ref (xm_B (xx_G X) + 84)), (1, .int (xm_J x1)), (2, .int (xm_J x2)), (3, .int (xm_J x3)), (4, .int (xm_J x4))] []) (σ : xm_Mem) (x1 : Int) (x2 : Int) (x3 : Int) (x4 : Int) (h1 : xm_in x1) (h2 : xm_in x2) (h3 : xm_in x3) (h4 : xm_in x4) : xm_V X 0 0 (f_X11_dayBehind_b6  self σ x1 x2 x3 x4) σ 6 [(0, .ref (xm_B (xx_G X) + 84)), (1, .int (xm_J x1)), (2, .int (xm_J x2)), (3, .int (xm_J x3)), (4, .int (xm_J x4))] [] := by
  unfold f_X11_dayBehind_b6
  refine xg_iload hC dX11_dayBehind_6 rfl ?_
  refine xg_aload_n hC dX11_dayBehind_8 rfl ?_
  refine xg_getI hC (xm_hK hI rfl) rfl xl_F_X11_40 dX11_dayBehind_9 (fun k1 => ?_)
  refine xg_icmp_ge hC h4 k1 54 dX11_dayBehind_12 rfl (fun c2 => ?_) (fun c3 => ?_)
  · refine xg_aload_n hC dX11_dayBehind_15 rfl ?_
    refine xg_iload hC dX11_dayBehind_16 rfl ?_
    refine xg_iload_n hC dX11_dayBehind_18 rfl ?_
    refine xg_callV hC (ci := 10) (w_X11_happens hI σ x4 x1 h4 h1) xl_M_X11_217 xl_V_X11_happens (xm_hK (a := 84) (kd := 0) (n := 10) hI rfl).2 ((xm_hK (a := 84) (kd := 0) (n := 10) hI rfl).1 _) (by decide) rfl (by decide) ⟨by decide, by decide⟩ dX11_dayBehind_19 (rest := []) rfl rfl (Nat.le_of_ble_eq_true rfl) rfl rfl (st2 := fun o => .int (xm_J o.2) :: []) (fun _ => rfl) (fun o4 k5 => ?_)
    refine xg_if_eq hC (xm_in01 k5) 48 dX11_dayBehind_22 rfl (fun c6 => ?_) (fun c7 => ?_)
    · refine xg_iinc hC (l' := [(4, .int (xm_J (xm_w (x4 + 1)))), (0, .ref (xm_B (xx_G X) + 84)), (1, .int (xm_J x1)), (2, .int (xm_J x2)), (3, .int (xm_J x3))]) dX11_dayBehind_48 (by decide) 4 rfl rfl ?_
      refine xg_goto hC 6 dX11_dayBehind_51 rfl ?_
      exact xg_pick [1, 2, 3, 4, 0] rfl (hself o4.1 x1 x2 x3 (xm_w (x4 + 1)) h1 h2 h3 (xm_w_in _))
    refine xg_aload_n hC dX11_dayBehind_25 rfl ?_
    refine xg_getW hC (b := 87) (xm_hK hI rfl) rfl (xm_wK hI rfl) (by decide) xl_F_X11_31 dX11_dayBehind_26 ?_
    refine xg_iload hC dX11_dayBehind_29 rfl ?_
    refine xg_iald hC (xm_hK hI rfl) rfl h4 dX11_dayBehind_31 (fun b8 k9 => ?_)
    refine xg_iload_n hC dX11_dayBehind_32 rfl ?_
    refine xg_icmp_le hC k9 h2 48 dX11_dayBehind_33 rfl (fun c10 => ?_) (fun c11 => ?_)
    · refine xg_iload_n hC dX11_dayBehind_36 rfl ?_
      refine xg_aload_n hC dX11_dayBehind_37 rfl ?_
      refine xg_getW hC (b := 87) (xm_hK hI rfl) rfl (xm_wK hI rfl) (by decide) xl_F_X11_31 dX11_dayBehind_38 ?_
      refine xg_iload hC dX11_dayBehind_41 rfl ?_
      refine xg_iald hC (xm_hK hI rfl) rfl h4 dX11_dayBehind_43 (fun b12 k13 => ?_)
      refine xg_min hC h3 k13 (by decide) xl_M_X11_63 ⟨by decide, by decide⟩ (Nat.le_of_ble_eq_true rfl) dX11_dayBehind_44 ?_
      refine xg_vI (xm_min_in h3 k13) (fun v14 k15 => ?_)
      refine xg_istore_n hC (l' := [(3, .int (xm_J v14)), (0, .ref (xm_B (xx_G X) + 84)), (1, .int (xm_J x1)), (2, .int (xm_J x2)), (4, .int (xm_J x4))]) dX11_dayBehind_47 (by decide) rfl ?_
      refine xg_iinc hC (l' := [(4, .int (xm_J (xm_w (x4 + 1)))), (3, .int (xm_J v14)), (0, .ref (xm_B (xx_G X) + 84)), (1, .int (xm_J x1)), (2, .int (xm_J x2))]) dX11_dayBehind_48 (by decide) 4 rfl rfl ?_
      refine xg_goto hC 6 dX11_dayBehind_51 rfl ?_
      exact xg_pick [2, 3, 4, 1, 0] rfl (hself o4.1 x1 x2 v14 (xm_w (x4 + 1)) h1 h2 k15 (xm_w_in _))
    refine xg_iinc hC (l' := [(4, .int (xm_J (xm_w (x4 + 1)))), (0, .ref (xm_B (xx_G X) + 84)), (1, .int (xm_J x1)), (2, .int (xm_J x2)), (3, .int (xm_J x3))]) dX11_dayBehind_48 (by decide) 4 rfl rfl ?_
    refine xg_goto hC 6 dX11_dayBehind_51 rfl ?_
    exact xg_pick [1, 2, 3, 4, 0] rfl (hself o4.1 x1 x2 x3 (xm_w (x4 + 1)) h1 h2 h3 (xm_w_in _))
  refine xg_iload_n hC dX11_dayBehind_54 rfl ?_
  exact xg_iret hC hQ h3 dX11_dayBehind_55
theorem w_X11_dayBehind_l6 {X : xm_X} (hC : xm_C X yX11_dayBehind.cls cX11_dayBehind 5 2 0 0) (hQ : xm_Rt X 1 (some .int) 0 0) (hI : xx_I X = xm_I)   (n : Nat) : ∀ (σ : xm_Mem) (x1 : Int) (x2 : Int) (x3 : Int) (x4 : Int), xm_in x1 → xm_in x2 → xm_in x3 → xm_in x4 → xm_V X 0 0 (f_X11_dayBehind_l6  n σ x1 x2 x3 x4) σ 6 [(0, .ref (xm_B (xx_G X) + 84)), (1, .int (xm_J x1)), (2, .int (xm_J x2)), (3, .int (xm_J x3)), (4, .int (xm_J x4))] [] := by
  induction n with
  | zero => intro σ x1 x2 x3 x4 h1 h2 h3 h4; exact xg_none
  | succ n ih => intro σ x1 x2 x3 x4 h1 h2 h3 h4; exact w_X11_dayBehind_b6 hC hQ hI ih σ x1 x2 x3 x4 h1 h2 h3 h4
theorem w_X11_dayBehind {Γ : xm_Gm} {I : xm_Mem → Prop} {la : Launch} (hE : I = xm_I) (σ : xm_Mem) (x1 : Int) (x2 : Int) (h1 : xm_in x1) (h2 : xm_in x2) : ∀ o, f_X11_dayBehind σ x1 x2 = some o → xm_M Γ I la yX11_dayBehind cX11_dayBehind 5 (some .int) 2 0 0 [.ref (xm_B Γ + 84), .int (xm_J x1), .int (xm_J x2)] σ 1 o := by
  refine xg_enter (by decide) (by simp [lg_sl, xm_rf_cat, xm_cati, xm_catr, xm_catl]) (fun X hG hI0 hla hC hQ hname => ?_)
  subst hG
  have hI := hI0.trans hE
  clear hI0 hla
  unfold f_X11_dayBehind
  refine xg_pick [0, 1, 2] (l' := [(0, .ref (xm_B (xx_G X) + 84)), (1, .int (xm_J x1)), (2, .int (xm_J x2))]) rfl ?_
  refine xg_ldc hC dX11_dayBehind_0 xl_C_X11_138 ?_
  refine xg_istore_n hC (l' := [(3, .int (xm_J (100000 : Int))), (0, .ref (xm_B (xx_G X) + 84)), (1, .int (xm_J x1)), (2, .int (xm_J x2))]) dX11_dayBehind_2 (by decide) rfl ?_
  refine xg_iconst hC dX11_dayBehind_3 ?_
  refine xg_istore hC (l' := [(4, .int (xm_J (0 : Int))), (3, .int (xm_J (100000 : Int))), (0, .ref (xm_B (xx_G X) + 84)), (1, .int (xm_J x1)), (2, .int (xm_J x2))]) dX11_dayBehind_4 (by decide) rfl ?_
  exact xg_pick [2, 3, 4, 1, 0] rfl (w_X11_dayBehind_l6 hC hQ hI _ σ x1 x2 (100000 : Int) (0 : Int) h1 h2 (xm_inc _ rfl) (xm_inc _ rfl))
theorem w_X11_oneDay_j117 {X : xm_X} (hC : xm_C X yX11_oneDay.cls cX11_oneDay 6 73 0 0) (hQ : xm_Rt X 0 none 0 0) (hI : xx_I X = xm_I)   (σ : xm_Mem) (x1 : Int) (x2 : Int) (h1 : xm_in x1) (h2 : xm_in x2) : xm_V X 0 0 (f_X11_oneDay_j117  σ x1 x2) σ 117 [(0, .ref (xm_B (xx_G X) + 84)), (1, .int (xm_J x1)), (2, .int (xm_J x2))] [] := by
  unfold f_X11_oneDay_j117
  refine xg_aload_n hC dX11_oneDay_117 rfl ?_
  refine xg_getI hC (xm_hK hI rfl) rfl xl_F_X11_195 dX11_oneDay_118 (fun k17 => ?_)
  refine xg_bipush hC dX11_oneDay_121 (by decide) ?_
  refine xg_icmp_eq hC k17 (xm_inc _ rfl) 127 dX11_oneDay_123 rfl (fun c18 => ?_) (fun c19 => ?_)
  · refine xg_aload_n hC dX11_oneDay_127 rfl ?_
    refine xg_iload_n hC dX11_oneDay_128 rfl ?_
    refine xg_iload_n hC dX11_oneDay_129 rfl ?_
    refine xg_callV hC (ci := 10) (w_X11_called hI σ x1 x2 h1 h2) xl_M_X11_255 xl_V_X11_called (xm_hK (a := 84) (kd := 0) (n := 10) hI rfl).2 ((xm_hK (a := 84) (kd := 0) (n := 10) hI rfl).1 _) (by decide) rfl (by decide) ⟨by decide, by decide⟩ dX11_oneDay_130 (rest := []) rfl rfl (Nat.le_of_ble_eq_true rfl) rfl rfl (st2 := fun o => .int (xm_J o.2) :: []) (fun _ => rfl) (fun o20 k21 => ?_)
    refine xg_istore hC (l' := [(5, .int (xm_J o20.2)), (0, .ref (xm_B (xx_G X) + 84)), (1, .int (xm_J x1)), (2, .int (xm_J x2))]) dX11_oneDay_133 (by decide) rfl ?_
    refine xg_iload hC dX11_oneDay_135 rfl ?_
    refine xg_if_ge hC k21 141 dX11_oneDay_137 rfl (fun c22 => ?_) (fun c23 => ?_)
    · exact xg_vret hC hQ dX11_oneDay_140
    refine xg_aload_n hC dX11_oneDay_141 rfl ?_
    refine xg_iload hC dX11_oneDay_142 rfl ?_
    refine xg_putI hC (xm_hK hI rfl) rfl rfl k21 (xm_kpK hI rfl) xl_F_X11_195 dX11_oneDay_144 ?_
    refine xg_st (fun σ24 => ?_)
    refine xg_aload_n hC dX11_oneDay_147 rfl ?_
    refine xg_iload hC dX11_oneDay_148 rfl ?_
    refine xg_putI hC (xm_hK hI rfl) rfl rfl k21 (xm_kpK hI rfl) xl_F_X11_186 dX11_oneDay_150 ?_
    refine xg_st (fun σ25 => ?_)
    exact xg_vret hC hQ dX11_oneDay_153
  exact xg_vret hC hQ dX11_oneDay_126
theorem w_X11_oneDay_j80 {X : xm_X} (hC : xm_C X yX11_oneDay.cls cX11_oneDay 6 73 0 0) (hQ : xm_Rt X 0 none 0 0) (hI : xx_I X = xm_I)   (σ : xm_Mem) (x1 : Int) (x2 : Int) (h1 : xm_in x1) (h2 : xm_in x2) : xm_V X 0 0 (f_X11_oneDay_j80  σ x1 x2) σ 80 [(0, .ref (xm_B (xx_G X) + 84)), (1, .int (xm_J x1)), (2, .int (xm_J x2))] [] := by
  unfold f_X11_oneDay_j80
  refine xg_aload_n hC dX11_oneDay_80 rfl ?_
  refine xg_iload_n hC dX11_oneDay_81 rfl ?_
  refine xg_iload_n hC dX11_oneDay_82 rfl ?_
  refine xg_callV hC (ci := 10) (w_X11_passes hI σ x1 x2 h1 h2) xl_M_X11_248 xl_V_X11_passes (xm_hK (a := 84) (kd := 0) (n := 10) hI rfl).2 ((xm_hK (a := 84) (kd := 0) (n := 10) hI rfl).1 _) (by decide) rfl (by decide) ⟨by decide, by decide⟩ dX11_oneDay_83 (rest := []) rfl rfl (Nat.le_of_ble_eq_true rfl) rfl rfl (st2 := fun o => []) (fun _ => rfl) (fun o15 k16 => ?_)
  refine xg_goto hC 117 dX11_oneDay_86 rfl ?_
  exact (w_X11_oneDay_j117 hC hQ hI o15.1 x1 x2 h1 h2)
theorem w_X11_oneDay_j114 {X : xm_X} (hC : xm_C X yX11_oneDay.cls cX11_oneDay 6 73 0 0) (hQ : xm_Rt X 0 none 0 0) (hI : xx_I X = xm_I)   (σ : xm_Mem) (s0 : Int) (x1 : Int) (x2 : Int) (g0 : xm_in s0) (h1 : xm_in x1) (h2 : xm_in x2) : xm_V X 0 0 (f_X11_oneDay_j114  σ s0 x1 x2) σ 114 [(0, .ref (xm_B (xx_G X) + 84)), (1, .int (xm_J x1)), (2, .int (xm_J x2))] [.int (xm_J s0), .ref (xm_B (xx_G X) + 84)] := by
  unfold f_X11_oneDay_j114
  refine xg_putI hC (xm_hK hI rfl) rfl rfl g0 (xm_kpK hI rfl) xl_F_X11_195 dX11_oneDay_114 ?_
  refine xg_st (fun σ41 => ?_)
  exact (w_X11_oneDay_j117 hC hQ hI σ41 x1 x2 h1 h2)
theorem w_X11_oneDay_j38 {X : xm_X} (hC : xm_C X yX11_oneDay.cls cX11_oneDay 6 73 0 0) (hQ : xm_Rt X 0 none 0 0) (hI : xx_I X = xm_I)   (σ : xm_Mem) (x1 : Int) (x2 : Int) (x4 : Int) (h1 : xm_in x1) (h2 : xm_in x2) (h4 : xm_in x4) : xm_V X 0 0 (f_X11_oneDay_j38  σ x1 x2 x4) σ 38 [(0, .ref (xm_B (xx_G X) + 84)), (1, .int (xm_J x1)), (2, .int (xm_J x2)), (4, .int (xm_J x4))] [] := by
  unfold f_X11_oneDay_j38
  refine xg_aload_n hC dX11_oneDay_38 rfl ?_
  refine xg_getI hC (xm_hK hI rfl) rfl xl_F_X11_195 dX11_oneDay_39 (fun k9 => ?_)
  refine xg_bipush hC dX11_oneDay_42 (by decide) ?_
  refine xg_icmp_ne hC k9 (xm_inc _ rfl) 48 dX11_oneDay_44 rfl (fun c10 => ?_) (fun c11 => ?_)
  · exact xg_vret hC hQ dX11_oneDay_47
  refine xg_aload_n hC dX11_oneDay_48 rfl ?_
  refine xg_getI hC (xm_hK hI rfl) rfl xl_F_X11_195 dX11_oneDay_49 (fun k12 => ?_)
  refine xg_if_lt hC k12 80 dX11_oneDay_52 rfl (fun c13 => ?_) (fun c14 => ?_)
  · exact xg_pick [0, 1, 2] rfl (w_X11_oneDay_j80 hC hQ hI σ x1 x2 h1 h2)
  refine xg_aload_n hC dX11_oneDay_55 rfl ?_
  refine xg_aload_n hC dX11_oneDay_56 rfl ?_
  refine xg_getI hC (xm_hK hI rfl) rfl xl_F_X11_195 dX11_oneDay_57 (fun k26 => ?_)
  refine xg_iload_n hC dX11_oneDay_60 rfl ?_
  refine xg_callV hC (ci := 10) (w_X11_isAlive hI σ (σ.1 84 30) x2 k26 h2) xl_M_X11_150 xl_V_X11_isAlive (xm_hK (a := 84) (kd := 0) (n := 10) hI rfl).2 ((xm_hK (a := 84) (kd := 0) (n := 10) hI rfl).1 _) (by decide) rfl (by decide) ⟨by decide, by decide⟩ dX11_oneDay_61 (rest := []) rfl rfl (Nat.le_of_ble_eq_true rfl) rfl rfl (st2 := fun o => .int (xm_J o.2) :: []) (fun _ => rfl) (fun o27 k28 => ?_)
  refine xg_if_eq hC (xm_in01 k28) 80 dX11_oneDay_64 rfl (fun c29 => ?_) (fun c30 => ?_)
  · exact xg_pick [0, 1, 2] rfl (w_X11_oneDay_j80 hC hQ hI o27.1 x1 x2 h1 h2)
  refine xg_aload_n hC dX11_oneDay_67 rfl ?_
  refine xg_aload_n hC dX11_oneDay_68 rfl ?_
  refine xg_getI hC (xm_hK hI rfl) rfl xl_F_X11_195 dX11_oneDay_69 (fun k31 => ?_)
  refine xg_iload_n hC dX11_oneDay_72 rfl ?_
  refine xg_iload_n hC dX11_oneDay_73 rfl ?_
  refine xg_callV hC (ci := 10) (w_X11_hasYielded hI o27.1 (o27.1.1 84 30) x1 x2 k31 h1 h2) xl_M_X11_153 xl_V_X11_hasYielded (xm_hK (a := 84) (kd := 0) (n := 10) hI rfl).2 ((xm_hK (a := 84) (kd := 0) (n := 10) hI rfl).1 _) (by decide) rfl (by decide) ⟨by decide, by decide⟩ dX11_oneDay_74 (rest := []) rfl rfl (Nat.le_of_ble_eq_true rfl) rfl rfl (st2 := fun o => .int (xm_J o.2) :: []) (fun _ => rfl) (fun o32 k33 => ?_)
  refine xg_if_eq hC (xm_in01 k33) 89 dX11_oneDay_77 rfl (fun c34 => ?_) (fun c35 => ?_)
  · refine xg_aload_n hC dX11_oneDay_89 rfl ?_
    refine xg_iload_n hC dX11_oneDay_90 rfl ?_
    refine xg_iload_n hC dX11_oneDay_91 rfl ?_
    refine xg_iload hC dX11_oneDay_92 rfl ?_
    refine xg_callV hC (ci := 10) (w_X11_bornAhead hI o32.1 x1 x2 x4 h1 h2 h4) xl_M_X11_252 xl_V_X11_bornAhead (xm_hK (a := 84) (kd := 0) (n := 10) hI rfl).2 ((xm_hK (a := 84) (kd := 0) (n := 10) hI rfl).1 _) (by decide) rfl (by decide) ⟨by decide, by decide⟩ dX11_oneDay_94 (rest := []) rfl rfl (Nat.le_of_ble_eq_true rfl) rfl rfl (st2 := fun o => .int (xm_J o.2) :: []) (fun _ => rfl) (fun o36 k37 => ?_)
    refine xg_istore hC (l' := [(5, .int (xm_J o36.2)), (0, .ref (xm_B (xx_G X) + 84)), (1, .int (xm_J x1)), (2, .int (xm_J x2)), (4, .int (xm_J x4))]) dX11_oneDay_97 (by decide) rfl ?_
    refine xg_aload_n hC dX11_oneDay_99 rfl ?_
    refine xg_iload hC dX11_oneDay_100 rfl ?_
    refine xg_if_lt hC k37 110 dX11_oneDay_102 rfl (fun c38 => ?_) (fun c39 => ?_)
    · refine xg_aload_n hC dX11_oneDay_110 rfl ?_
      refine xg_getI hC (xm_hK hI rfl) rfl xl_F_X11_195 dX11_oneDay_111 (fun k40 => ?_)
      exact xg_pick [1, 2, 3] rfl (w_X11_oneDay_j114 hC hQ hI o36.1 (o36.1.1 84 30) x1 x2 k40 h1 h2)
    refine xg_iload hC dX11_oneDay_105 rfl ?_
    refine xg_goto hC 114 dX11_oneDay_107 rfl ?_
    exact xg_pick [1, 2, 3] rfl (w_X11_oneDay_j114 hC hQ hI o36.1 o36.2 x1 x2 k37 h1 h2)
  exact xg_pick [0, 1, 2] rfl (w_X11_oneDay_j80 hC hQ hI o32.1 x1 x2 h1 h2)
theorem w_X11_oneDay_j18 {X : xm_X} (hC : xm_C X yX11_oneDay.cls cX11_oneDay 6 73 0 0) (hQ : xm_Rt X 0 none 0 0) (hI : xx_I X = xm_I)   (σ : xm_Mem) (x1 : Int) (x2 : Int) (x4 : Int) (h1 : xm_in x1) (h2 : xm_in x2) (h4 : xm_in x4) : xm_V X 0 0 (f_X11_oneDay_j18  σ x1 x2 x4) σ 18 [(0, .ref (xm_B (xx_G X) + 84)), (1, .int (xm_J x1)), (2, .int (xm_J x2)), (4, .int (xm_J x4))] [] := by
  unfold f_X11_oneDay_j18
  refine xg_aload_n hC dX11_oneDay_18 rfl ?_
  refine xg_iload_n hC dX11_oneDay_19 rfl ?_
  refine xg_iload_n hC dX11_oneDay_20 rfl ?_
  refine xg_bipush hC dX11_oneDay_21 (by decide) ?_
  refine xg_callV hC (ci := 10) (w_X11_recordOn hI σ x1 x2 (8 : Int) h1 h2 (xm_inc _ rfl)) xl_M_X11_244 xl_V_X11_recordOn (xm_hK (a := 84) (kd := 0) (n := 10) hI rfl).2 ((xm_hK (a := 84) (kd := 0) (n := 10) hI rfl).1 _) (by decide) rfl (by decide) ⟨by decide, by decide⟩ dX11_oneDay_23 (rest := []) rfl rfl (Nat.le_of_ble_eq_true rfl) rfl rfl (st2 := fun o => .int (xm_J o.2) :: []) (fun _ => rfl) (fun o5 k6 => ?_)
  refine xg_if_lt hC k6 38 dX11_oneDay_26 rfl (fun c7 => ?_) (fun c8 => ?_)
  · exact (w_X11_oneDay_j38 hC hQ hI o5.1 x1 x2 x4 h1 h2 h4)
  refine xg_aload_n hC dX11_oneDay_29 rfl ?_
  refine xg_iload_n hC dX11_oneDay_30 rfl ?_
  refine xg_iload_n hC dX11_oneDay_31 rfl ?_
  refine xg_callV hC (ci := 10) (w_X11_passes hI o5.1 x1 x2 h1 h2) xl_M_X11_248 xl_V_X11_passes (xm_hK (a := 84) (kd := 0) (n := 10) hI rfl).2 ((xm_hK (a := 84) (kd := 0) (n := 10) hI rfl).1 _) (by decide) rfl (by decide) ⟨by decide, by decide⟩ dX11_oneDay_32 (rest := []) rfl rfl (Nat.le_of_ble_eq_true rfl) rfl rfl (st2 := fun o => []) (fun _ => rfl) (fun o42 k43 => ?_)
  refine xg_iload_n hC dX11_oneDay_35 rfl ?_
  refine xg_istore hC (l' := [(4, .int (xm_J x2)), (0, .ref (xm_B (xx_G X) + 84)), (1, .int (xm_J x1)), (2, .int (xm_J x2))]) dX11_oneDay_36 (by decide) rfl ?_
  exact xg_pick [1, 2, 3, 0] rfl (w_X11_oneDay_j38 hC hQ hI o42.1 x1 x2 x2 h1 h2 h2)
theorem w_X11_oneDay {Γ : xm_Gm} {I : xm_Mem → Prop} {la : Launch} (hE : I = xm_I) (σ : xm_Mem) (x1 : Int) (x2 : Int) (x3 : Int) (h1 : xm_in x1) (h2 : xm_in x2) (h3 : xm_in x3) : ∀ o, f_X11_oneDay σ x1 x2 x3 = some o → xm_M Γ I la yX11_oneDay cX11_oneDay 6 none 73 0 0 [.ref (xm_B Γ + 84), .int (xm_J x1), .int (xm_J x2), .int (xm_J x3)] σ 0 o := by
  refine xg_enter (by decide) (by simp [lg_sl, xm_rf_cat, xm_cati, xm_catr, xm_catl]) (fun X hG hI0 hla hC hQ hname => ?_)
  subst hG
  have hI := hI0.trans hE
  clear hI0 hla
  unfold f_X11_oneDay
  refine xg_pick [0, 1, 2, 3] (l' := [(0, .ref (xm_B (xx_G X) + 84)), (1, .int (xm_J x1)), (2, .int (xm_J x2)), (3, .int (xm_J x3))]) rfl ?_
  refine xg_iload_n hC dX11_oneDay_0 rfl ?_
  refine xg_istore hC (l' := [(4, .int (xm_J x3)), (0, .ref (xm_B (xx_G X) + 84)), (1, .int (xm_J x1)), (2, .int (xm_J x2)), (3, .int (xm_J x3))]) dX11_oneDay_1 (by decide) rfl ?_
  refine xg_aload_n hC dX11_oneDay_3 rfl ?_
  refine xg_iload_n hC dX11_oneDay_4 rfl ?_
  refine xg_iload_n hC dX11_oneDay_5 rfl ?_
  refine xg_callV hC (ci := 10) (w_X11_isLost hI σ x1 x2 h1 h2) xl_M_X11_241 xl_V_X11_isLost (xm_hK (a := 84) (kd := 0) (n := 10) hI rfl).2 ((xm_hK (a := 84) (kd := 0) (n := 10) hI rfl).1 _) (by decide) rfl (by decide) ⟨by decide, by decide⟩ dX11_oneDay_6 (rest := []) rfl rfl (Nat.le_of_ble_eq_true rfl) rfl rfl (st2 := fun o => .int (xm_J o.2) :: []) (fun _ => rfl) (fun o1 k2 => ?_)
  refine xg_if_eq hC (xm_in01 k2) 18 dX11_oneDay_9 rfl (fun c3 => ?_) (fun c4 => ?_)
  · exact xg_pick [1, 2, 3, 0] rfl (w_X11_oneDay_j18 hC hQ hI o1.1 x1 x2 x3 h1 h2 h3)
  refine xg_aload_n hC dX11_oneDay_12 rfl ?_
  refine xg_bipush hC dX11_oneDay_13 (by decide) ?_
  refine xg_putI hC (xm_hK hI rfl) rfl rfl (xm_inc _ rfl) (xm_kpK hI rfl) xl_F_X11_195 dX11_oneDay_15 ?_
  refine xg_st (fun σ44 => ?_)
  exact xg_pick [1, 2, 3, 0] rfl (w_X11_oneDay_j18 hC hQ hI σ44 x1 x2 x3 h1 h2 h3)
theorem w_X11_goThrough_j99 {X : xm_X} (hC : xm_C X yX11_goThrough.cls cX11_goThrough 7 74 0 0) (hQ : xm_Rt X 0 none 0 0) (hI : xx_I X = xm_I) {K61 : xm_Mem → Int → Int → Int → Int → Option xm_Out} (hK61 : ∀ (σ : xm_Mem) (x1 : Int) (x2 : Int) (x3 : Int) (x4 : Int), xm_in x1 → xm_in x2 → xm_in x3 → xm_in x4 → xm_V X 0 0 (K61 σ x1 x2 x3 x4) σ 61 [(0, .ref (xm_B (xx_G X) + 84)), (1, .int (xm_J x1)), (2, .int (xm_J x2)), (3, .int (xm_J x3)), (4, .int (xm_J x4))] []) (σ : xm_Mem) (s0 : Int) (x1 : Int) (x2 : Int) (x4 : Int) (g0 : xm_in s0) (h1 : xm_in x1) (h2 : xm_in x2) (h4 : xm_in x4) : xm_V X 0 0 (f_X11_goThrough_j99 K61 σ s0 x1 x2 x4) σ 99 [(0, .ref (xm_B (xx_G X) + 84)), (1, .int (xm_J x1)), (2, .int (xm_J x2)), (4, .int (xm_J x4))] [.int (xm_J s0)] := by
  unfold f_X11_goThrough_j99
  refine xg_istore_n hC (l' := [(3, .int (xm_J s0)), (0, .ref (xm_B (xx_G X) + 84)), (1, .int (xm_J x1)), (2, .int (xm_J x2)), (4, .int (xm_J x4))]) dX11_goThrough_99 (by decide) rfl ?_
  refine xg_sipush hC dX11_goThrough_100 (by decide) ?_
  refine xg_iload_n hC dX11_goThrough_103 rfl ?_
  refine xg_imul hC dX11_goThrough_104 ?_
  refine xg_iload hC dX11_goThrough_105 rfl ?_
  refine xg_iadd hC dX11_goThrough_107 ?_
  refine xg_vI (xm_w_in _) (fun v37 k38 => ?_)
  refine xg_istore hC (l' := [(6, .int (xm_J v37)), (3, .int (xm_J s0)), (0, .ref (xm_B (xx_G X) + 84)), (1, .int (xm_J x1)), (2, .int (xm_J x2)), (4, .int (xm_J x4))]) dX11_goThrough_108 (by decide) rfl ?_
  refine xg_aload_n hC dX11_goThrough_110 rfl ?_
  refine xg_getW hC (b := 105) (xm_hK hI rfl) rfl (xm_wK hI rfl) (by decide) xl_F_X11_223 dX11_goThrough_111 ?_
  refine xg_iload hC dX11_goThrough_114 rfl ?_
  refine xg_iload_n hC dX11_goThrough_116 rfl ?_
  refine xg_iast hC (xm_hK hI rfl) rfl k38 h2 (xm_kpF hI rfl) dX11_goThrough_117 ?_
  refine xg_st (fun σ39 => ?_)
  refine xg_aload_n hC dX11_goThrough_118 rfl ?_
  refine xg_getW hC (b := 106) (xm_hK hI rfl) rfl (xm_wK hI rfl) (by decide) xl_F_X11_226 dX11_goThrough_119 ?_
  refine xg_iload hC dX11_goThrough_122 rfl ?_
  refine xg_aload_n hC dX11_goThrough_124 rfl ?_
  refine xg_getI hC (xm_hK hI rfl) rfl xl_F_X11_195 dX11_goThrough_125 (fun k40 => ?_)
  refine xg_iast hC (xm_hK hI rfl) rfl k38 k40 (xm_kpF hI rfl) dX11_goThrough_128 ?_
  refine xg_st (fun σ41 => ?_)
  refine xg_aload_n hC dX11_goThrough_129 rfl ?_
  refine xg_getW hC (b := 107) (xm_hK hI rfl) rfl (xm_wK hI rfl) (by decide) xl_F_X11_229 dX11_goThrough_130 ?_
  refine xg_iload hC dX11_goThrough_133 rfl ?_
  refine xg_aload_n hC dX11_goThrough_135 rfl ?_
  refine xg_getI hC (xm_hK hI rfl) rfl xl_F_X11_186 dX11_goThrough_136 (fun k42 => ?_)
  refine xg_iast hC (xm_hK hI rfl) rfl k38 k42 (xm_kpF hI rfl) dX11_goThrough_139 ?_
  refine xg_st (fun σ43 => ?_)
  refine xg_aload_n hC dX11_goThrough_140 rfl ?_
  refine xg_getW hC (b := 108) (xm_hK hI rfl) rfl (xm_wK hI rfl) (by decide) xl_F_X11_232 dX11_goThrough_141 ?_
  refine xg_iload hC dX11_goThrough_144 rfl ?_
  refine xg_iload_n hC dX11_goThrough_146 rfl ?_
  refine xg_iast hC (xm_hK hI rfl) rfl k38 g0 (xm_kpF hI rfl) dX11_goThrough_147 ?_
  refine xg_st (fun σ44 => ?_)
  refine xg_iinc hC (l' := [(4, .int (xm_J (xm_w (x4 + 1)))), (6, .int (xm_J v37)), (3, .int (xm_J s0)), (0, .ref (xm_B (xx_G X) + 84)), (1, .int (xm_J x1)), (2, .int (xm_J x2))]) dX11_goThrough_148 (by decide) 5 rfl rfl ?_
  refine xg_aload_n hC dX11_goThrough_151 rfl ?_
  refine xg_iload_n hC dX11_goThrough_152 rfl ?_
  refine xg_iload_n hC dX11_goThrough_153 rfl ?_
  refine xg_callV hC (ci := 10) (w_X11_dayBehind hI σ44 x1 x2 h1 h2) xl_M_X11_235 xl_V_X11_dayBehind (xm_hK (a := 84) (kd := 0) (n := 10) hI rfl).2 ((xm_hK (a := 84) (kd := 0) (n := 10) hI rfl).1 _) (by decide) rfl (by decide) ⟨by decide, by decide⟩ dX11_goThrough_154 (rest := []) rfl rfl (Nat.le_of_ble_eq_true rfl) rfl rfl (st2 := fun o => .int (xm_J o.2) :: []) (fun _ => rfl) (fun o45 k46 => ?_)
  refine xg_istore_n hC (l' := [(2, .int (xm_J o45.2)), (4, .int (xm_J (xm_w (x4 + 1)))), (6, .int (xm_J v37)), (3, .int (xm_J s0)), (0, .ref (xm_B (xx_G X) + 84)), (1, .int (xm_J x1))]) dX11_goThrough_157 (by decide) rfl ?_
  refine xg_goto hC 61 dX11_goThrough_158 rfl ?_
  exact xg_pick [4, 5, 0, 3, 1] rfl (hK61 o45.1 x1 o45.2 s0 (xm_w (x4 + 1)) h1 k46 g0 (xm_w_in _))
theorem w_X11_goThrough_j98 {X : xm_X} (hC : xm_C X yX11_goThrough.cls cX11_goThrough 7 74 0 0) (hQ : xm_Rt X 0 none 0 0) (hI : xx_I X = xm_I) {K61 : xm_Mem → Int → Int → Int → Int → Option xm_Out} (hK61 : ∀ (σ : xm_Mem) (x1 : Int) (x2 : Int) (x3 : Int) (x4 : Int), xm_in x1 → xm_in x2 → xm_in x3 → xm_in x4 → xm_V X 0 0 (K61 σ x1 x2 x3 x4) σ 61 [(0, .ref (xm_B (xx_G X) + 84)), (1, .int (xm_J x1)), (2, .int (xm_J x2)), (3, .int (xm_J x3)), (4, .int (xm_J x4))] []) (σ : xm_Mem) (x1 : Int) (x2 : Int) (x4 : Int) (h1 : xm_in x1) (h2 : xm_in x2) (h4 : xm_in x4) : xm_V X 0 0 (f_X11_goThrough_j98 K61 σ x1 x2 x4) σ 98 [(0, .ref (xm_B (xx_G X) + 84)), (1, .int (xm_J x1)), (2, .int (xm_J x2)), (4, .int (xm_J x4))] [] := by
  unfold f_X11_goThrough_j98
  refine xg_iload_n hC dX11_goThrough_98 rfl ?_
  exact (w_X11_goThrough_j99 hC hQ hI hK61 σ x2 x1 x2 x4 h2 h1 h2 h4)
theorem w_X11_goThrough_b61 {X : xm_X} (hC : xm_C X yX11_goThrough.cls cX11_goThrough 7 74 0 0) (hQ : xm_Rt X 0 none 0 0) (hI : xx_I X = xm_I) {K161 : xm_Mem → Int → Int → Option xm_Out} (hK161 : ∀ (σ : xm_Mem) (x1 : Int) (x4 : Int), xm_in x1 → xm_in x4 → xm_V X 0 0 (K161 σ x1 x4) σ 161 [(0, .ref (xm_B (xx_G X) + 84)), (1, .int (xm_J x1)), (4, .int (xm_J x4))] []) {self : xm_Mem → Int → Int → Int → Int → Option xm_Out} (hself : ∀ (σ : xm_Mem) (x1 : Int) (x2 : Int) (x3 : Int) (x4 : Int), xm_in x1 → xm_in x2 → xm_in x3 → xm_in x4 → xm_V X 0 0 (self σ x1 x2 x3 x4) σ 61 [(0, .ref (xm_B (xx_G X) + 84)), (1, .int (xm_J x1)), (2, .int (xm_J x2)), (3, .int (xm_J x3)), (4, .int (xm_J x4))] []) (σ : xm_Mem) (x1 : Int) (x2 : Int) (x3 : Int) (x4 : Int) (h1 : xm_in x1) (h2 : xm_in x2) (h3 : xm_in x3) (h4 : xm_in x4) : xm_V X 0 0 (f_X11_goThrough_b61 K161 self σ x1 x2 x3 x4) σ 61 [(0, .ref (xm_B (xx_G X) + 84)), (1, .int (xm_J x1)), (2, .int (xm_J x2)), (3, .int (xm_J x3)), (4, .int (xm_J x4))] [] := by
  unfold f_X11_goThrough_b61
  refine xg_iload_n hC dX11_goThrough_61 rfl ?_
  refine xg_ldc hC dX11_goThrough_62 xl_C_X11_59 ?_
  refine xg_icmp_gt hC h2 (xm_inc _ rfl) 161 dX11_goThrough_64 rfl (fun c25 => ?_) (fun c26 => ?_)
  · exact xg_pick [0, 1, 4] rfl (hK161 σ x1 x4 h1 h4)
  refine xg_aload_n hC dX11_goThrough_67 rfl ?_
  refine xg_getI hC (xm_hK hI rfl) rfl xl_F_X11_195 dX11_goThrough_68 (fun k27 => ?_)
  refine xg_vI k27 (fun v28 k29 => ?_)
  refine xg_istore hC (l' := [(5, .int (xm_J v28)), (0, .ref (xm_B (xx_G X) + 84)), (1, .int (xm_J x1)), (2, .int (xm_J x2)), (3, .int (xm_J x3)), (4, .int (xm_J x4))]) dX11_goThrough_71 (by decide) rfl ?_
  refine xg_aload_n hC dX11_goThrough_73 rfl ?_
  refine xg_iload_n hC dX11_goThrough_74 rfl ?_
  refine xg_iload_n hC dX11_goThrough_75 rfl ?_
  refine xg_iload_n hC dX11_goThrough_76 rfl ?_
  refine xg_callV hC (ci := 10) (w_X11_oneDay hI σ x1 x2 x3 h1 h2 h3) xl_M_X11_220 xl_V_X11_oneDay (xm_hK (a := 84) (kd := 0) (n := 10) hI rfl).2 ((xm_hK (a := 84) (kd := 0) (n := 10) hI rfl).1 _) (by decide) rfl (by decide) ⟨by decide, by decide⟩ dX11_goThrough_77 (rest := []) rfl rfl (Nat.le_of_ble_eq_true rfl) rfl rfl (st2 := fun o => []) (fun _ => rfl) (fun o30 k31 => ?_)
  refine xg_iload hC dX11_goThrough_80 rfl ?_
  refine xg_if_le hC h4 98 dX11_goThrough_82 rfl (fun c32 => ?_) (fun c33 => ?_)
  · refine xg_aload_n hC dX11_goThrough_85 rfl ?_
    refine xg_getI hC (xm_hK hI rfl) rfl xl_F_X11_195 dX11_goThrough_86 (fun k34 => ?_)
    refine xg_iload hC dX11_goThrough_89 rfl ?_
    refine xg_icmp_ne hC k34 k29 98 dX11_goThrough_91 rfl (fun c35 => ?_) (fun c36 => ?_)
    · refine xg_iload_n hC dX11_goThrough_94 rfl ?_
      refine xg_goto hC 99 dX11_goThrough_95 rfl ?_
      exact xg_pick [1, 2, 3, 5] rfl (w_X11_goThrough_j99 hC hQ hI hself o30.1 x3 x1 x2 x4 h3 h1 h2 h4)
    exact xg_pick [1, 2, 3, 5] rfl (w_X11_goThrough_j98 hC hQ hI hself o30.1 x1 x2 x4 h1 h2 h4)
  exact xg_pick [1, 2, 3, 5] rfl (w_X11_goThrough_j98 hC hQ hI hself o30.1 x1 x2 x4 h1 h2 h4)
theorem w_X11_goThrough_l61 {X : xm_X} (hC : xm_C X yX11_goThrough.cls cX11_goThrough 7 74 0 0) (hQ : xm_Rt X 0 none 0 0) (hI : xx_I X = xm_I) {K161 : xm_Mem → Int → Int → Option xm_Out} (hK161 : ∀ (σ : xm_Mem) (x1 : Int) (x4 : Int), xm_in x1 → xm_in x4 → xm_V X 0 0 (K161 σ x1 x4) σ 161 [(0, .ref (xm_B (xx_G X) + 84)), (1, .int (xm_J x1)), (4, .int (xm_J x4))] []) (n : Nat) : ∀ (σ : xm_Mem) (x1 : Int) (x2 : Int) (x3 : Int) (x4 : Int), xm_in x1 → xm_in x2 → xm_in x3 → xm_in x4 → xm_V X 0 0 (f_X11_goThrough_l61 K161 n σ x1 x2 x3 x4) σ 61 [(0, .ref (xm_B (xx_G X) + 84)), (1, .int (xm_J x1)), (2, .int (xm_J x2)), (3, .int (xm_J x3)), (4, .int (xm_J x4))] [] := by
  induction n with
  | zero => intro σ x1 x2 x3 x4 h1 h2 h3 h4; exact xg_none
  | succ n ih => intro σ x1 x2 x3 x4 h1 h2 h3 h4; exact w_X11_goThrough_b61 hC hQ hI hK161 ih σ x1 x2 x3 x4 h1 h2 h3 h4
theorem w_X11_goThrough {Γ : xm_Gm} {I : xm_Mem → Prop} {la : Launch} (hE : I = xm_I) (σ : xm_Mem) (x1 : Int) (h1 : xm_in x1) : ∀ o, f_X11_goThrough σ x1 = some o → xm_M Γ I la yX11_goThrough cX11_goThrough 7 none 74 0 0 [.ref (xm_B Γ + 84), .int (xm_J x1)] σ 0 o := by
  refine xg_enter (by decide) (by simp [lg_sl, xm_rf_cat, xm_cati, xm_catr, xm_catl]) (fun X hG hI0 hla hC hQ hname => ?_)
  subst hG
  have hI := hI0.trans hE
  clear hI0 hla
  unfold f_X11_goThrough
  refine xg_pick [0, 1] (l' := [(0, .ref (xm_B (xx_G X) + 84)), (1, .int (xm_J x1))]) rfl ?_
  refine xg_aload_n hC dX11_goThrough_0 rfl ?_
  refine xg_getW hC (b := 95) (xm_hK hI rfl) rfl (xm_wK hI rfl) (by decide) xl_F_X11_114 dX11_goThrough_1 ?_
  refine xg_iload_n hC dX11_goThrough_4 rfl ?_
  refine xg_zald hC (xm_hK hI rfl) rfl h1 dX11_goThrough_5 (fun b1 k2 => ?_)
  refine xg_if_eq hC (xm_in01 k2) 10 dX11_goThrough_6 rfl (fun c3 => ?_) (fun c4 => ?_)
  · refine xg_aload_n hC dX11_goThrough_10 rfl ?_
    refine xg_getW hC (b := 95) (xm_hK hI rfl) rfl (xm_wK hI rfl) (by decide) xl_F_X11_114 dX11_goThrough_11 ?_
    refine xg_iload_n hC dX11_goThrough_14 rfl ?_
    refine xg_iconst hC dX11_goThrough_15 ?_
    refine xg_zast hC (xm_hK hI rfl) rfl h1 (by decide) (xm_kpF hI rfl) dX11_goThrough_16 ?_
    refine xg_st (fun σ5 => ?_)
    refine xg_aload_n hC dX11_goThrough_17 rfl ?_
    refine xg_callV hC (ci := 10) (w_X11_reckon hI σ5 ) xl_M_X11_179 xl_V_X11_reckon (xm_hK (a := 84) (kd := 0) (n := 10) hI rfl).2 ((xm_hK (a := 84) (kd := 0) (n := 10) hI rfl).1 _) (by decide) rfl (by decide) ⟨by decide, by decide⟩ dX11_goThrough_18 (rest := []) rfl rfl (Nat.le_of_ble_eq_true rfl) rfl rfl (st2 := fun o => []) (fun _ => rfl) (fun o6 k7 => ?_)
    refine xg_aload_n hC dX11_goThrough_21 rfl ?_
    refine xg_getW hC (b := 87) (xm_hK hI rfl) rfl (xm_wK hI rfl) (by decide) xl_F_X11_31 dX11_goThrough_22 ?_
    refine xg_aload_n hC dX11_goThrough_25 rfl ?_
    refine xg_getW hC (b := 94) (xm_hK hI rfl) rfl (xm_wK hI rfl) (by decide) xl_F_X11_25 dX11_goThrough_26 ?_
    refine xg_iload_n hC dX11_goThrough_29 rfl ?_
    refine xg_iald hC (xm_hK hI rfl) rfl h1 dX11_goThrough_30 (fun b8 k9 => ?_)
    refine xg_vI k9 (fun v10 k11 => ?_)
    refine xg_iald hC (xm_hK hI rfl) rfl k11 dX11_goThrough_31 (fun b12 k13 => ?_)
    refine xg_vI k13 (fun v14 k15 => ?_)
    refine xg_istore_n hC (l' := [(2, .int (xm_J v14)), (0, .ref (xm_B (xx_G X) + 84)), (1, .int (xm_J x1))]) dX11_goThrough_32 (by decide) rfl ?_
    refine xg_aload_n hC dX11_goThrough_33 rfl ?_
    refine xg_aload_n hC dX11_goThrough_34 rfl ?_
    refine xg_getW hC (b := 88) (xm_hK hI rfl) rfl (xm_wK hI rfl) (by decide) xl_F_X11_46 dX11_goThrough_35 ?_
    refine xg_aload_n hC dX11_goThrough_38 rfl ?_
    refine xg_getW hC (b := 94) (xm_hK hI rfl) rfl (xm_wK hI rfl) (by decide) xl_F_X11_25 dX11_goThrough_39 ?_
    refine xg_iload_n hC dX11_goThrough_42 rfl ?_
    refine xg_iald hC (xm_hK hI rfl) rfl h1 dX11_goThrough_43 (fun b16 k17 => ?_)
    refine xg_vI k17 (fun v18 k19 => ?_)
    refine xg_iald hC (xm_hK hI rfl) rfl k19 dX11_goThrough_44 (fun b20 k21 => ?_)
    refine xg_putI hC (xm_hK hI rfl) rfl rfl k21 (xm_kpK hI rfl) xl_F_X11_195 dX11_goThrough_45 ?_
    refine xg_st (fun σ22 => ?_)
    refine xg_aload_n hC dX11_goThrough_48 rfl ?_
    refine xg_aload_n hC dX11_goThrough_49 rfl ?_
    refine xg_getI hC (xm_hK hI rfl) rfl xl_F_X11_195 dX11_goThrough_50 (fun k23 => ?_)
    refine xg_putI hC (xm_hK hI rfl) rfl rfl k23 (xm_kpK hI rfl) xl_F_X11_186 dX11_goThrough_53 ?_
    refine xg_st (fun σ24 => ?_)
    refine xg_iload_n hC dX11_goThrough_56 rfl ?_
    refine xg_istore_n hC (l' := [(3, .int (xm_J v14)), (2, .int (xm_J v14)), (0, .ref (xm_B (xx_G X) + 84)), (1, .int (xm_J x1))]) dX11_goThrough_57 (by decide) rfl ?_
    refine xg_iconst hC dX11_goThrough_58 ?_
    refine xg_istore hC (l' := [(4, .int (xm_J (0 : Int))), (3, .int (xm_J v14)), (2, .int (xm_J v14)), (0, .ref (xm_B (xx_G X) + 84)), (1, .int (xm_J x1))]) dX11_goThrough_59 (by decide) rfl ?_
    refine xg_pick [3, 4, 2, 1, 0] rfl (w_X11_goThrough_l61 hC hQ hI ?_ _ σ24 x1 v14 v14 (0 : Int) h1 k15 k15 (xm_inc _ rfl))
    intro σ_47 x1_47 x4_47 h1_47 h4_47
    refine xg_aload_n hC dX11_goThrough_161 rfl ?_
    refine xg_getW hC (b := 104) (xm_hK hI rfl) rfl (xm_wK hI rfl) (by decide) xl_F_X11_238 dX11_goThrough_162 ?_
    refine xg_iload_n hC dX11_goThrough_165 rfl ?_
    refine xg_iload hC dX11_goThrough_166 rfl ?_
    refine xg_iast hC (xm_hK hI rfl) rfl h1_47 h4_47 (xm_kpF hI rfl) dX11_goThrough_168 ?_
    refine xg_st (fun σ48 => ?_)
    exact xg_vret hC hQ dX11_goThrough_169
  exact xg_vret hC hQ dX11_goThrough_9
theorem w_X11_eventOn_b10 {X : xm_X} (hC : xm_C X yX11_eventOn.cls cX11_eventOn 5 75 0 0) (hQ : xm_Rt X 1 (some .int) 0 0) (hI : xx_I X = xm_I)   {self : xm_Mem → Int → Int → Int → Int → Option xm_Out} (hself : ∀ (σ : xm_Mem) (x1 : Int) (x2 : Int) (x3 : Int) (x4 : Int), xm_in x1 → xm_in x2 → xm_in x3 → xm_in x4 → xm_V X 0 0 (self σ x1 x2 x3 x4) σ 10 [(0, .ref (xm_B (xx_G X) + 84)), (1, .int (xm_J x1)), (2, .int (xm_J x2)), (3, .int (xm_J x3)), (4, .int (xm_J x4))] []) (σ : xm_Mem) (x1 : Int) (x2 : Int) (x3 : Int) (x4 : Int) (h1 : xm_in x1) (h2 : xm_in x2) (h3 : xm_in x3) (h4 : xm_in x4) : xm_V X 0 0 (f_X11_eventOn_b10  self σ x1 x2 x3 x4) σ 10 [(0, .ref (xm_B (xx_G X) + 84)), (1, .int (xm_J x1)), (2, .int (xm_J x2)), (3, .int (xm_J x3)), (4, .int (xm_J x4))] [] := by
  unfold f_X11_eventOn_b10
  refine xg_iload hC dX11_eventOn_10 rfl ?_
  refine xg_aload_n hC dX11_eventOn_12 rfl ?_
  refine xg_getW hC (b := 104) (xm_hK hI rfl) rfl (xm_wK hI rfl) (by decide) xl_F_X11_238 dX11_eventOn_13 ?_
  refine xg_iload_n hC dX11_eventOn_16 rfl ?_
  refine xg_iald hC (xm_hK hI rfl) rfl h1 dX11_eventOn_17 (fun b3 k4 => ?_)
  refine xg_icmp_ge hC h4 k4 53 dX11_eventOn_18 rfl (fun c5 => ?_) (fun c6 => ?_)
  · refine xg_aload_n hC dX11_eventOn_21 rfl ?_
    refine xg_getW hC (b := 105) (xm_hK hI rfl) rfl (xm_wK hI rfl) (by decide) xl_F_X11_223 dX11_eventOn_22 ?_
    refine xg_sipush hC dX11_eventOn_25 (by decide) ?_
    refine xg_iload_n hC dX11_eventOn_28 rfl ?_
    refine xg_imul hC dX11_eventOn_29 ?_
    refine xg_iload hC dX11_eventOn_30 rfl ?_
    refine xg_iadd hC dX11_eventOn_32 ?_
    refine xg_vI (xm_w_in _) (fun v7 k8 => ?_)
    refine xg_iald hC (xm_hK hI rfl) rfl k8 dX11_eventOn_33 (fun b9 k10 => ?_)
    refine xg_iload_n hC dX11_eventOn_34 rfl ?_
    refine xg_icmp_gt hC k10 h2 47 dX11_eventOn_35 rfl (fun c11 => ?_) (fun c12 => ?_)
    · refine xg_iinc hC (l' := [(4, .int (xm_J (xm_w (x4 + 1)))), (0, .ref (xm_B (xx_G X) + 84)), (1, .int (xm_J x1)), (2, .int (xm_J x2)), (3, .int (xm_J x3))]) dX11_eventOn_47 (by decide) 4 rfl rfl ?_
      refine xg_goto hC 10 dX11_eventOn_50 rfl ?_
      exact xg_pick [1, 2, 3, 4, 0] rfl (hself σ x1 x2 x3 (xm_w (x4 + 1)) h1 h2 h3 (xm_w_in _))
    refine xg_sipush hC dX11_eventOn_38 (by decide) ?_
    refine xg_iload_n hC dX11_eventOn_41 rfl ?_
    refine xg_imul hC dX11_eventOn_42 ?_
    refine xg_iload hC dX11_eventOn_43 rfl ?_
    refine xg_iadd hC dX11_eventOn_45 ?_
    refine xg_vI (xm_w_in _) (fun v13 k14 => ?_)
    refine xg_istore_n hC (l' := [(3, .int (xm_J v13)), (0, .ref (xm_B (xx_G X) + 84)), (1, .int (xm_J x1)), (2, .int (xm_J x2)), (4, .int (xm_J x4))]) dX11_eventOn_46 (by decide) rfl ?_
    refine xg_iinc hC (l' := [(4, .int (xm_J (xm_w (x4 + 1)))), (3, .int (xm_J v13)), (0, .ref (xm_B (xx_G X) + 84)), (1, .int (xm_J x1)), (2, .int (xm_J x2))]) dX11_eventOn_47 (by decide) 4 rfl rfl ?_
    refine xg_goto hC 10 dX11_eventOn_50 rfl ?_
    exact xg_pick [2, 3, 4, 1, 0] rfl (hself σ x1 x2 v13 (xm_w (x4 + 1)) h1 h2 k14 (xm_w_in _))
  refine xg_iload_n hC dX11_eventOn_53 rfl ?_
  exact xg_iret hC hQ h3 dX11_eventOn_54
theorem w_X11_eventOn_l10 {X : xm_X} (hC : xm_C X yX11_eventOn.cls cX11_eventOn 5 75 0 0) (hQ : xm_Rt X 1 (some .int) 0 0) (hI : xx_I X = xm_I)   (n : Nat) : ∀ (σ : xm_Mem) (x1 : Int) (x2 : Int) (x3 : Int) (x4 : Int), xm_in x1 → xm_in x2 → xm_in x3 → xm_in x4 → xm_V X 0 0 (f_X11_eventOn_l10  n σ x1 x2 x3 x4) σ 10 [(0, .ref (xm_B (xx_G X) + 84)), (1, .int (xm_J x1)), (2, .int (xm_J x2)), (3, .int (xm_J x3)), (4, .int (xm_J x4))] [] := by
  induction n with
  | zero => intro σ x1 x2 x3 x4 h1 h2 h3 h4; exact xg_none
  | succ n ih => intro σ x1 x2 x3 x4 h1 h2 h3 h4; exact w_X11_eventOn_b10 hC hQ hI ih σ x1 x2 x3 x4 h1 h2 h3 h4
theorem w_X11_eventOn {Γ : xm_Gm} {I : xm_Mem → Prop} {la : Launch} (hE : I = xm_I) (σ : xm_Mem) (x1 : Int) (x2 : Int) (h1 : xm_in x1) (h2 : xm_in x2) : ∀ o, f_X11_eventOn σ x1 x2 = some o → xm_M Γ I la yX11_eventOn cX11_eventOn 5 (some .int) 75 0 0 [.ref (xm_B Γ + 84), .int (xm_J x1), .int (xm_J x2)] σ 1 o := by
  refine xg_enter (by decide) (by simp [lg_sl, xm_rf_cat, xm_cati, xm_catr, xm_catl]) (fun X hG hI0 hla hC hQ hname => ?_)
  subst hG
  have hI := hI0.trans hE
  clear hI0 hla
  unfold f_X11_eventOn
  refine xg_pick [0, 1, 2] (l' := [(0, .ref (xm_B (xx_G X) + 84)), (1, .int (xm_J x1)), (2, .int (xm_J x2))]) rfl ?_
  refine xg_aload_n hC dX11_eventOn_0 rfl ?_
  refine xg_iload_n hC dX11_eventOn_1 rfl ?_
  refine xg_callV hC (ci := 10) (w_X11_goThrough hI σ x1 h1) xl_M_X11_258 xl_V_X11_goThrough (xm_hK (a := 84) (kd := 0) (n := 10) hI rfl).2 ((xm_hK (a := 84) (kd := 0) (n := 10) hI rfl).1 _) (by decide) rfl (by decide) ⟨by decide, by decide⟩ dX11_eventOn_2 (rest := []) rfl rfl (Nat.le_of_ble_eq_true rfl) rfl rfl (st2 := fun o => []) (fun _ => rfl) (fun o1 k2 => ?_)
  refine xg_iconst hC dX11_eventOn_5 ?_
  refine xg_istore_n hC (l' := [(3, .int (xm_J (-1 : Int))), (0, .ref (xm_B (xx_G X) + 84)), (1, .int (xm_J x1)), (2, .int (xm_J x2))]) dX11_eventOn_6 (by decide) rfl ?_
  refine xg_iconst hC dX11_eventOn_7 ?_
  refine xg_istore hC (l' := [(4, .int (xm_J (0 : Int))), (3, .int (xm_J (-1 : Int))), (0, .ref (xm_B (xx_G X) + 84)), (1, .int (xm_J x1)), (2, .int (xm_J x2))]) dX11_eventOn_8 (by decide) rfl ?_
  exact xg_pick [2, 3, 4, 1, 0] rfl (w_X11_eventOn_l10 hC hQ hI _ o1.1 x1 x2 (-1 : Int) (0 : Int) h1 h2 (xm_inc _ rfl) (xm_inc _ rfl))
theorem w_X11_stateOn {Γ : xm_Gm} {I : xm_Mem → Prop} {la : Launch} (hE : I = xm_I) (σ : xm_Mem) (x1 : Int) (x2 : Int) (h1 : xm_in x1) (h2 : xm_in x2) : ∀ o, f_X11_stateOn σ x1 x2 = some o → xm_M Γ I la yX11_stateOn cX11_stateOn 4 (some .int) 76 0 0 [.ref (xm_B Γ + 84), .int (xm_J x1), .int (xm_J x2)] σ 1 o := by
  refine xg_enter (by decide) (by simp [lg_sl, xm_rf_cat, xm_cati, xm_catr, xm_catl]) (fun X hG hI0 hla hC hQ hname => ?_)
  subst hG
  have hI := hI0.trans hE
  clear hI0 hla
  unfold f_X11_stateOn
  refine xg_pick [0, 1, 2] (l' := [(0, .ref (xm_B (xx_G X) + 84)), (1, .int (xm_J x1)), (2, .int (xm_J x2))]) rfl ?_
  refine xg_aload_n hC dX11_stateOn_0 rfl ?_
  refine xg_iload_n hC dX11_stateOn_1 rfl ?_
  refine xg_iload_n hC dX11_stateOn_2 rfl ?_
  refine xg_callV hC (ci := 10) (w_X11_eventOn hI σ x1 x2 h1 h2) xl_M_X11_262 xl_V_X11_eventOn (xm_hK (a := 84) (kd := 0) (n := 10) hI rfl).2 ((xm_hK (a := 84) (kd := 0) (n := 10) hI rfl).1 _) (by decide) rfl (by decide) ⟨by decide, by decide⟩ dX11_stateOn_3 (rest := []) rfl rfl (Nat.le_of_ble_eq_true rfl) rfl rfl (st2 := fun o => .int (xm_J o.2) :: []) (fun _ => rfl) (fun o1 k2 => ?_)
  refine xg_istore_n hC (l' := [(3, .int (xm_J o1.2)), (0, .ref (xm_B (xx_G X) + 84)), (1, .int (xm_J x1)), (2, .int (xm_J x2))]) dX11_stateOn_6 (by decide) rfl ?_
  refine xg_iload_n hC dX11_stateOn_7 rfl ?_
  refine xg_if_ge hC k2 16 dX11_stateOn_8 rfl (fun c3 => ?_) (fun c4 => ?_)
  · refine xg_bipush hC dX11_stateOn_11 (by decide) ?_
    refine xg_goto hC 22 dX11_stateOn_13 rfl ?_
    exact xg_iret hC hQ (xm_inc _ rfl) dX11_stateOn_22
  refine xg_aload_n hC dX11_stateOn_16 rfl ?_
  refine xg_getW hC (b := 106) (xm_hK hI rfl) rfl (xm_wK hI rfl) (by decide) xl_F_X11_226 dX11_stateOn_17 ?_
  refine xg_iload_n hC dX11_stateOn_20 rfl ?_
  refine xg_iald hC (xm_hK hI rfl) rfl k2 dX11_stateOn_21 (fun b5 k6 => ?_)
  exact xg_iret hC hQ k6 dX11_stateOn_22
theorem w_X11_lineOn {Γ : xm_Gm} {I : xm_Mem → Prop} {la : Launch} (hE : I = xm_I) (σ : xm_Mem) (x1 : Int) (x2 : Int) (h1 : xm_in x1) (h2 : xm_in x2) : ∀ o, f_X11_lineOn σ x1 x2 = some o → xm_M Γ I la yX11_lineOn cX11_lineOn 4 none 76 0 0 [.ref (xm_B Γ + 84), .int (xm_J x1), .int (xm_J x2)] σ 0 o := by
  refine xg_enter (by decide) (by simp [lg_sl, xm_rf_cat, xm_cati, xm_catr, xm_catl]) (fun X hG hI0 hla hC hQ hname => ?_)
  subst hG
  have hI := hI0.trans hE
  clear hI0 hla
  unfold f_X11_lineOn
  refine xg_pick [0, 1, 2] (l' := [(0, .ref (xm_B (xx_G X) + 84)), (1, .int (xm_J x1)), (2, .int (xm_J x2))]) rfl ?_
  refine xg_aload_n hC dX11_lineOn_0 rfl ?_
  refine xg_iload_n hC dX11_lineOn_1 rfl ?_
  refine xg_iload_n hC dX11_lineOn_2 rfl ?_
  refine xg_callV hC (ci := 10) (w_X11_eventOn hI σ x1 x2 h1 h2) xl_M_X11_262 xl_V_X11_eventOn (xm_hK (a := 84) (kd := 0) (n := 10) hI rfl).2 ((xm_hK (a := 84) (kd := 0) (n := 10) hI rfl).1 _) (by decide) rfl (by decide) ⟨by decide, by decide⟩ dX11_lineOn_3 (rest := []) rfl rfl (Nat.le_of_ble_eq_true rfl) rfl rfl (st2 := fun o => .int (xm_J o.2) :: []) (fun _ => rfl) (fun o1 k2 => ?_)
  refine xg_istore_n hC (l' := [(3, .int (xm_J o1.2)), (0, .ref (xm_B (xx_G X) + 84)), (1, .int (xm_J x1)), (2, .int (xm_J x2))]) dX11_lineOn_6 (by decide) rfl ?_
  refine xg_aload_n hC dX11_lineOn_7 rfl ?_
  refine xg_iload_n hC dX11_lineOn_8 rfl ?_
  refine xg_iload_n hC dX11_lineOn_9 rfl ?_
  refine xg_iload_n hC dX11_lineOn_10 rfl ?_
  refine xg_if_ge hC k2 28 dX11_lineOn_11 rfl (fun c3 => ?_) (fun c4 => ?_)
  · refine xg_aload_n hC dX11_lineOn_14 rfl ?_
    refine xg_getW hC (b := 88) (xm_hK hI rfl) rfl (xm_wK hI rfl) (by decide) xl_F_X11_46 dX11_lineOn_15 ?_
    refine xg_aload_n hC dX11_lineOn_18 rfl ?_
    refine xg_getW hC (b := 94) (xm_hK hI rfl) rfl (xm_wK hI rfl) (by decide) xl_F_X11_25 dX11_lineOn_19 ?_
    refine xg_iload_n hC dX11_lineOn_22 rfl ?_
    refine xg_iald hC (xm_hK hI rfl) rfl h1 dX11_lineOn_23 (fun b5 k6 => ?_)
    refine xg_vI k6 (fun v7 k8 => ?_)
    refine xg_iald hC (xm_hK hI rfl) rfl k8 dX11_lineOn_24 (fun b9 k10 => ?_)
    refine xg_goto hC 34 dX11_lineOn_25 rfl ?_
    refine xg_callV hC (ci := 10) (w_X11_lineOf hI o1.1 x1 x2 (o1.1.1 88 v7.toNat) h1 h2 k10) xl_M_X11_189 xl_V_X11_lineOf (xm_hK (a := 84) (kd := 0) (n := 10) hI rfl).2 ((xm_hK (a := 84) (kd := 0) (n := 10) hI rfl).1 _) (by decide) rfl (by decide) ⟨by decide, by decide⟩ dX11_lineOn_34 (rest := []) rfl rfl (Nat.le_of_ble_eq_true rfl) rfl rfl (st2 := fun o => []) (fun _ => rfl) (fun o11 k12 => ?_)
    exact xg_vret hC hQ dX11_lineOn_37
  refine xg_aload_n hC dX11_lineOn_28 rfl ?_
  refine xg_getW hC (b := 107) (xm_hK hI rfl) rfl (xm_wK hI rfl) (by decide) xl_F_X11_229 dX11_lineOn_29 ?_
  refine xg_iload_n hC dX11_lineOn_32 rfl ?_
  refine xg_iald hC (xm_hK hI rfl) rfl k2 dX11_lineOn_33 (fun b13 k14 => ?_)
  refine xg_callV hC (ci := 10) (w_X11_lineOf hI o1.1 x1 x2 (o1.1.1 107 o1.2.toNat) h1 h2 k14) xl_M_X11_189 xl_V_X11_lineOf (xm_hK (a := 84) (kd := 0) (n := 10) hI rfl).2 ((xm_hK (a := 84) (kd := 0) (n := 10) hI rfl).1 _) (by decide) rfl (by decide) ⟨by decide, by decide⟩ dX11_lineOn_34 (rest := []) rfl rfl (Nat.le_of_ble_eq_true rfl) rfl rfl (st2 := fun o => []) (fun _ => rfl) (fun o15 k16 => ?_)
  exact xg_vret hC hQ dX11_lineOn_37
theorem w_X11_next_b0 {X : xm_X} (hC : xm_C X yX11_next.cls cX11_next 2 2 0 0) (hQ : xm_Rt X 0 none 0 0) (hI : xx_I X = xm_I) {K38 : xm_Mem → Option xm_Out} (hK38 : ∀ (σ : xm_Mem), xm_V X 0 0 (K38 σ ) σ 38 [(0, .ref (xm_B (xx_G X) + 84))] []) {self : xm_Mem → Option xm_Out} (hself : ∀ (σ : xm_Mem), xm_V X 0 0 (self σ ) σ 0 [(0, .ref (xm_B (xx_G X) + 84))] []) (σ : xm_Mem)   : xm_V X 0 0 (f_X11_next_b0 K38 self σ) σ 0 [(0, .ref (xm_B (xx_G X) + 84))] [] := by
  unfold f_X11_next_b0
  refine xg_aload_n hC dX11_next_0 rfl ?_
  refine xg_getI hC (xm_hK hI rfl) rfl xl_F_X11_265 dX11_next_1 (fun k1 => ?_)
  refine xg_aload_n hC dX11_next_4 rfl ?_
  refine xg_getI hC (xm_hK hI rfl) rfl xl_F_X11_268 dX11_next_5 (fun k2 => ?_)
  refine xg_icmp_ge hC k1 k2 38 dX11_next_8 rfl (fun c3 => ?_) (fun c4 => ?_)
  · refine xg_aload_n hC dX11_next_11 rfl ?_
    refine xg_getW hC (b := 85) (xm_hK hI rfl) rfl (xm_wK hI rfl) (by decide) xl_F_X11_271 dX11_next_12 ?_
    refine xg_aload_n hC dX11_next_15 rfl ?_
    refine xg_getI hC (xm_hK hI rfl) rfl xl_F_X11_265 dX11_next_16 (fun k5 => ?_)
    refine xg_vI k5 (fun v6 k7 => ?_)
    refine xg_iald hC (xm_hK hI rfl) rfl k7 dX11_next_19 (fun b8 k9 => ?_)
    refine xg_bipush hC dX11_next_20 (by decide) ?_
    refine xg_icmp_ne hC k9 (xm_inc _ rfl) 38 dX11_next_22 rfl (fun c10 => ?_) (fun c11 => ?_)
    · refine xg_aload_n hC dX11_next_25 rfl ?_
      refine xg_dup hC dX11_next_26 rfl ?_
      refine xg_getI hC (xm_hK hI rfl) rfl xl_F_X11_265 dX11_next_27 (fun k12 => ?_)
      refine xg_iconst hC dX11_next_30 ?_
      refine xg_iadd hC dX11_next_31 ?_
      refine xg_putI hC (xm_hK hI rfl) rfl rfl (xm_w_in _) (xm_kpK hI rfl) xl_F_X11_265 dX11_next_32 ?_
      refine xg_st (fun σ13 => ?_)
      refine xg_goto hC 0 dX11_next_35 rfl ?_
      exact (hself σ13)
    exact (hK38 σ)
  exact (hK38 σ)
theorem w_X11_next_l0 {X : xm_X} (hC : xm_C X yX11_next.cls cX11_next 2 2 0 0) (hQ : xm_Rt X 0 none 0 0) (hI : xx_I X = xm_I) {K38 : xm_Mem → Option xm_Out} (hK38 : ∀ (σ : xm_Mem), xm_V X 0 0 (K38 σ ) σ 38 [(0, .ref (xm_B (xx_G X) + 84))] []) (n : Nat) : ∀ (σ : xm_Mem), xm_V X 0 0 (f_X11_next_l0 K38 n σ) σ 0 [(0, .ref (xm_B (xx_G X) + 84))] [] := by
  induction n with
  | zero => intro σ; exact xg_none
  | succ n ih => intro σ; exact w_X11_next_b0 hC hQ hI hK38 ih σ 
theorem w_X11_next_b121 {X : xm_X} (hC : xm_C X yX11_next.cls cX11_next 2 2 0 0) (hQ : xm_Rt X 0 none 0 0) (hI : xx_I X = xm_I) {K164 : xm_Mem → Option xm_Out} (hK164 : ∀ (σ : xm_Mem), xm_V X 0 0 (K164 σ ) σ 164 [(0, .ref (xm_B (xx_G X) + 84))] []) {self : xm_Mem → Option xm_Out} (hself : ∀ (σ : xm_Mem), xm_V X 0 0 (self σ ) σ 121 [(0, .ref (xm_B (xx_G X) + 84))] []) (σ : xm_Mem)   : xm_V X 0 0 (f_X11_next_b121 K164 self σ) σ 121 [(0, .ref (xm_B (xx_G X) + 84))] [] := by
  unfold f_X11_next_b121
  refine xg_aload_n hC dX11_next_121 rfl ?_
  refine xg_getI hC (xm_hK hI rfl) rfl xl_F_X11_265 dX11_next_122 (fun k42 => ?_)
  refine xg_aload_n hC dX11_next_125 rfl ?_
  refine xg_getI hC (xm_hK hI rfl) rfl xl_F_X11_268 dX11_next_126 (fun k43 => ?_)
  refine xg_icmp_ge hC k42 k43 164 dX11_next_129 rfl (fun c44 => ?_) (fun c45 => ?_)
  · refine xg_aload_n hC dX11_next_132 rfl ?_
    refine xg_getW hC (b := 85) (xm_hK hI rfl) rfl (xm_wK hI rfl) (by decide) xl_F_X11_271 dX11_next_133 ?_
    refine xg_aload_n hC dX11_next_136 rfl ?_
    refine xg_getI hC (xm_hK hI rfl) rfl xl_F_X11_265 dX11_next_137 (fun k46 => ?_)
    refine xg_vI k46 (fun v47 k48 => ?_)
    refine xg_iald hC (xm_hK hI rfl) rfl k48 dX11_next_140 (fun b49 k50 => ?_)
    refine xg_bipush hC dX11_next_141 (by decide) ?_
    refine xg_bipush hC dX11_next_143 (by decide) ?_
    refine xg_callS hC (w_X11_isIn hI σ (σ.1 85 v47.toNat) (97 : Int) (122 : Int) k50 (xm_inc _ rfl) (xm_inc _ rfl)) xl_M_X11_10 xl_S_X11_isIn (by decide) ⟨by decide, by decide⟩ dX11_next_145 (rest := []) rfl rfl (Nat.le_of_ble_eq_true rfl) rfl rfl (st2 := fun o => .int (xm_J o.2) :: []) (fun _ => rfl) (fun o51 k52 => ?_)
    refine xg_if_eq hC (xm_in01 k52) 164 dX11_next_148 rfl (fun c53 => ?_) (fun c54 => ?_)
    · exact (hK164 o51.1)
    refine xg_aload_n hC dX11_next_151 rfl ?_
    refine xg_dup hC dX11_next_152 rfl ?_
    refine xg_getI hC (xm_hK hI rfl) rfl xl_F_X11_265 dX11_next_153 (fun k55 => ?_)
    refine xg_iconst hC dX11_next_156 ?_
    refine xg_iadd hC dX11_next_157 ?_
    refine xg_putI hC (xm_hK hI rfl) rfl rfl (xm_w_in _) (xm_kpK hI rfl) xl_F_X11_265 dX11_next_158 ?_
    refine xg_st (fun σ56 => ?_)
    refine xg_goto hC 121 dX11_next_161 rfl ?_
    exact (hself σ56)
  exact (hK164 σ)
theorem w_X11_next_l121 {X : xm_X} (hC : xm_C X yX11_next.cls cX11_next 2 2 0 0) (hQ : xm_Rt X 0 none 0 0) (hI : xx_I X = xm_I) {K164 : xm_Mem → Option xm_Out} (hK164 : ∀ (σ : xm_Mem), xm_V X 0 0 (K164 σ ) σ 164 [(0, .ref (xm_B (xx_G X) + 84))] []) (n : Nat) : ∀ (σ : xm_Mem), xm_V X 0 0 (f_X11_next_l121 K164 n σ) σ 121 [(0, .ref (xm_B (xx_G X) + 84))] [] := by
  induction n with
  | zero => intro σ; exact xg_none
  | succ n ih => intro σ; exact w_X11_next_b121 hC hQ hI hK164 ih σ 
theorem w_X11_next_j243 {X : xm_X} (hC : xm_C X yX11_next.cls cX11_next 2 2 0 0) (hQ : xm_Rt X 0 none 0 0) (hI : xx_I X = xm_I) {K172 : xm_Mem → Option xm_Out} (hK172 : ∀ (σ : xm_Mem), xm_V X 0 0 (K172 σ ) σ 172 [(0, .ref (xm_B (xx_G X) + 84))] []) (σ : xm_Mem) (s0 : Int) (g0 : xm_in s0) : xm_V X 0 0 (f_X11_next_j243 K172 σ s0) σ 243 [(0, .ref (xm_B (xx_G X) + 84))] [.int (xm_J s0), .ref (xm_B (xx_G X) + 84)] := by
  unfold f_X11_next_j243
  refine xg_putI hC (xm_hK hI rfl) rfl rfl g0 (xm_kpK hI rfl) xl_F_X11_280 dX11_next_243 ?_
  refine xg_st (fun σ84 => ?_)
  refine xg_aload_n hC dX11_next_246 rfl ?_
  refine xg_dup hC dX11_next_247 rfl ?_
  refine xg_getI hC (xm_hK hI rfl) rfl xl_F_X11_265 dX11_next_248 (fun k85 => ?_)
  refine xg_iconst hC dX11_next_251 ?_
  refine xg_iadd hC dX11_next_252 ?_
  refine xg_putI hC (xm_hK hI rfl) rfl rfl (xm_w_in _) (xm_kpK hI rfl) xl_F_X11_265 dX11_next_253 ?_
  refine xg_st (fun σ86 => ?_)
  refine xg_goto hC 172 dX11_next_256 rfl ?_
  exact (hK172 σ86)
theorem w_X11_next_b172 {X : xm_X} (hC : xm_C X yX11_next.cls cX11_next 2 2 0 0) (hQ : xm_Rt X 0 none 0 0) (hI : xx_I X = xm_I) {K259 : xm_Mem → Option xm_Out} (hK259 : ∀ (σ : xm_Mem), xm_V X 0 0 (K259 σ ) σ 259 [(0, .ref (xm_B (xx_G X) + 84))] []) {self : xm_Mem → Option xm_Out} (hself : ∀ (σ : xm_Mem), xm_V X 0 0 (self σ ) σ 172 [(0, .ref (xm_B (xx_G X) + 84))] []) (σ : xm_Mem)   : xm_V X 0 0 (f_X11_next_b172 K259 self σ) σ 172 [(0, .ref (xm_B (xx_G X) + 84))] [] := by
  unfold f_X11_next_b172
  refine xg_aload_n hC dX11_next_172 rfl ?_
  refine xg_getI hC (xm_hK hI rfl) rfl xl_F_X11_265 dX11_next_173 (fun k61 => ?_)
  refine xg_aload_n hC dX11_next_176 rfl ?_
  refine xg_getI hC (xm_hK hI rfl) rfl xl_F_X11_268 dX11_next_177 (fun k62 => ?_)
  refine xg_icmp_ge hC k61 k62 259 dX11_next_180 rfl (fun c63 => ?_) (fun c64 => ?_)
  · refine xg_aload_n hC dX11_next_183 rfl ?_
    refine xg_getW hC (b := 85) (xm_hK hI rfl) rfl (xm_wK hI rfl) (by decide) xl_F_X11_271 dX11_next_184 ?_
    refine xg_aload_n hC dX11_next_187 rfl ?_
    refine xg_getI hC (xm_hK hI rfl) rfl xl_F_X11_265 dX11_next_188 (fun k65 => ?_)
    refine xg_vI k65 (fun v66 k67 => ?_)
    refine xg_iald hC (xm_hK hI rfl) rfl k67 dX11_next_191 (fun b68 k69 => ?_)
    refine xg_bipush hC dX11_next_192 (by decide) ?_
    refine xg_bipush hC dX11_next_194 (by decide) ?_
    refine xg_callS hC (w_X11_isIn hI σ (σ.1 85 v66.toNat) (48 : Int) (57 : Int) k69 (xm_inc _ rfl) (xm_inc _ rfl)) xl_M_X11_10 xl_S_X11_isIn (by decide) ⟨by decide, by decide⟩ dX11_next_196 (rest := []) rfl rfl (Nat.le_of_ble_eq_true rfl) rfl rfl (st2 := fun o => .int (xm_J o.2) :: []) (fun _ => rfl) (fun o70 k71 => ?_)
    refine xg_if_eq hC (xm_in01 k71) 259 dX11_next_199 rfl (fun c72 => ?_) (fun c73 => ?_)
    · exact (hK259 o70.1)
    refine xg_aload_n hC dX11_next_202 rfl ?_
    refine xg_aload_n hC dX11_next_203 rfl ?_
    refine xg_getI hC (xm_hK hI rfl) rfl xl_F_X11_265 dX11_next_204 (fun k74 => ?_)
    refine xg_aload_n hC dX11_next_207 rfl ?_
    refine xg_getI hC (xm_hK hI rfl) rfl xl_F_X11_274 dX11_next_208 (fun k75 => ?_)
    refine xg_isub hC dX11_next_211 ?_
    refine xg_iconst hC dX11_next_212 ?_
    refine xg_icmp_ge hC (xm_w_in _) (xm_inc _ rfl) 239 dX11_next_213 rfl (fun c76 => ?_) (fun c77 => ?_)
    · refine xg_bipush hC dX11_next_216 (by decide) ?_
      refine xg_aload_n hC dX11_next_218 rfl ?_
      refine xg_getI hC (xm_hK hI rfl) rfl xl_F_X11_280 dX11_next_219 (fun k78 => ?_)
      refine xg_imul hC dX11_next_222 ?_
      refine xg_aload_n hC dX11_next_223 rfl ?_
      refine xg_getW hC (b := 85) (xm_hK hI rfl) rfl (xm_wK hI rfl) (by decide) xl_F_X11_271 dX11_next_224 ?_
      refine xg_aload_n hC dX11_next_227 rfl ?_
      refine xg_getI hC (xm_hK hI rfl) rfl xl_F_X11_265 dX11_next_228 (fun k79 => ?_)
      refine xg_vI k79 (fun v80 k81 => ?_)
      refine xg_iald hC (xm_hK hI rfl) rfl k81 dX11_next_231 (fun b82 k83 => ?_)
      refine xg_iadd hC dX11_next_232 ?_
      refine xg_bipush hC dX11_next_233 (by decide) ?_
      refine xg_isub hC dX11_next_235 ?_
      refine xg_goto hC 243 dX11_next_236 rfl ?_
      exact (w_X11_next_j243 hC hQ hI hself o70.1 (xm_w ((xm_w ((xm_w ((10 : Int) * (o70.1.1 84 43))) + (o70.1.1 85 v80.toNat))) - (48 : Int))) (xm_w_in _))
    refine xg_aload_n hC dX11_next_239 rfl ?_
    refine xg_getI hC (xm_hK hI rfl) rfl xl_F_X11_280 dX11_next_240 (fun k87 => ?_)
    exact (w_X11_next_j243 hC hQ hI hself o70.1 (o70.1.1 84 43) k87)
  exact (hK259 σ)
theorem w_X11_next_l172 {X : xm_X} (hC : xm_C X yX11_next.cls cX11_next 2 2 0 0) (hQ : xm_Rt X 0 none 0 0) (hI : xx_I X = xm_I) {K259 : xm_Mem → Option xm_Out} (hK259 : ∀ (σ : xm_Mem), xm_V X 0 0 (K259 σ ) σ 259 [(0, .ref (xm_B (xx_G X) + 84))] []) (n : Nat) : ∀ (σ : xm_Mem), xm_V X 0 0 (f_X11_next_l172 K259 n σ) σ 172 [(0, .ref (xm_B (xx_G X) + 84))] [] := by
  induction n with
  | zero => intro σ; exact xg_none
  | succ n ih => intro σ; exact w_X11_next_b172 hC hQ hI hK259 ih σ 
theorem w_X11_next_j164 {X : xm_X} (hC : xm_C X yX11_next.cls cX11_next 2 2 0 0) (hQ : xm_Rt X 0 none 0 0) (hI : xx_I X = xm_I)   (σ : xm_Mem)   : xm_V X 0 0 (f_X11_next_j164  σ) σ 164 [(0, .ref (xm_B (xx_G X) + 84))] [] := by
  unfold f_X11_next_j164
  refine xg_aload_n hC dX11_next_164 rfl ?_
  refine xg_getI hC (xm_hK hI rfl) rfl xl_F_X11_277 dX11_next_165 (fun k58 => ?_)
  refine xg_iconst hC dX11_next_168 ?_
  refine xg_icmp_ne hC k58 (xm_inc _ rfl) 281 dX11_next_169 rfl (fun c59 => ?_) (fun c60 => ?_)
  · refine (w_X11_next_l172 hC hQ hI ?_ _ σ)
    intro σ_88
    refine xg_aload_n hC dX11_next_259 rfl ?_
    refine xg_aload_n hC dX11_next_260 rfl ?_
    refine xg_getI hC (xm_hK hI rfl) rfl xl_F_X11_265 dX11_next_261 (fun k89 => ?_)
    refine xg_aload_n hC dX11_next_264 rfl ?_
    refine xg_getI hC (xm_hK hI rfl) rfl xl_F_X11_274 dX11_next_265 (fun k90 => ?_)
    refine xg_isub hC dX11_next_268 ?_
    refine xg_iconst hC dX11_next_269 ?_
    refine xg_icmp_le hC (xm_w_in _) (xm_inc _ rfl) 277 dX11_next_270 rfl (fun c91 => ?_) (fun c92 => ?_)
    · refine xg_iconst hC dX11_next_273 ?_
      refine xg_goto hC 278 dX11_next_274 rfl ?_
      refine xg_putI hC (xm_hK hI rfl) rfl rfl (xm_inc _ rfl) (xm_kpK hI rfl) xl_F_X11_277 dX11_next_278 ?_
      refine xg_st (fun σ93 => ?_)
      refine xg_aload_n hC dX11_next_281 rfl ?_
      refine xg_aload_n hC dX11_next_282 rfl ?_
      refine xg_getI hC (xm_hK hI rfl) rfl xl_F_X11_265 dX11_next_283 (fun k94 => ?_)
      refine xg_putI hC (xm_hK hI rfl) rfl rfl k94 (xm_kpK hI rfl) xl_F_X11_283 dX11_next_286 ?_
      refine xg_st (fun σ95 => ?_)
      exact xg_vret hC hQ dX11_next_289
    refine xg_iconst hC dX11_next_277 ?_
    refine xg_putI hC (xm_hK hI rfl) rfl rfl (xm_inc _ rfl) (xm_kpK hI rfl) xl_F_X11_277 dX11_next_278 ?_
    refine xg_st (fun σ96 => ?_)
    refine xg_aload_n hC dX11_next_281 rfl ?_
    refine xg_aload_n hC dX11_next_282 rfl ?_
    refine xg_getI hC (xm_hK hI rfl) rfl xl_F_X11_265 dX11_next_283 (fun k97 => ?_)
    refine xg_putI hC (xm_hK hI rfl) rfl rfl k97 (xm_kpK hI rfl) xl_F_X11_283 dX11_next_286 ?_
    refine xg_st (fun σ98 => ?_)
    exact xg_vret hC hQ dX11_next_289
  refine xg_aload_n hC dX11_next_281 rfl ?_
  refine xg_aload_n hC dX11_next_282 rfl ?_
  refine xg_getI hC (xm_hK hI rfl) rfl xl_F_X11_265 dX11_next_283 (fun k99 => ?_)
  refine xg_putI hC (xm_hK hI rfl) rfl rfl k99 (xm_kpK hI rfl) xl_F_X11_283 dX11_next_286 ?_
  refine xg_st (fun σ100 => ?_)
  exact xg_vret hC hQ dX11_next_289
theorem w_X11_next_j105 {X : xm_X} (hC : xm_C X yX11_next.cls cX11_next 2 2 0 0) (hQ : xm_Rt X 0 none 0 0) (hI : xx_I X = xm_I)   (σ : xm_Mem) (s0 : Int) (g0 : xm_in s0) : xm_V X 0 0 (f_X11_next_j105  σ s0) σ 105 [(0, .ref (xm_B (xx_G X) + 84))] [.int (xm_J s0), .ref (xm_B (xx_G X) + 84)] := by
  unfold f_X11_next_j105
  refine xg_putI hC (xm_hK hI rfl) rfl rfl g0 (xm_kpK hI rfl) xl_F_X11_277 dX11_next_105 ?_
  refine xg_st (fun σ37 => ?_)
  refine xg_aload_n hC dX11_next_108 rfl ?_
  refine xg_iconst hC dX11_next_109 ?_
  refine xg_putI hC (xm_hK hI rfl) rfl rfl (xm_inc _ rfl) (xm_kpK hI rfl) xl_F_X11_280 dX11_next_110 ?_
  refine xg_st (fun σ38 => ?_)
  refine xg_aload_n hC dX11_next_113 rfl ?_
  refine xg_getI hC (xm_hK hI rfl) rfl xl_F_X11_277 dX11_next_114 (fun k39 => ?_)
  refine xg_iconst hC dX11_next_117 ?_
  refine xg_icmp_ne hC k39 (xm_inc _ rfl) 164 dX11_next_118 rfl (fun c40 => ?_) (fun c41 => ?_)
  · refine (w_X11_next_l121 hC hQ hI ?_ _ σ38)
    intro σ_57
    exact (w_X11_next_j164 hC hQ hI σ_57)
  exact (w_X11_next_j164 hC hQ hI σ38)
theorem w_X11_next {Γ : xm_Gm} {I : xm_Mem → Prop} {la : Launch} (hE : I = xm_I) (σ : xm_Mem)   : ∀ o, f_X11_next σ  = some o → xm_M Γ I la yX11_next cX11_next 2 none 2 0 0 [.ref (xm_B Γ + 84)] σ 0 o := by
  refine xg_enter (by decide) (by simp [lg_sl, xm_rf_cat, xm_cati, xm_catr, xm_catl]) (fun X hG hI0 hla hC hQ hname => ?_)
  subst hG
  have hI := hI0.trans hE
  clear hI0 hla
  unfold f_X11_next
  refine xg_pick [0] (l' := [(0, .ref (xm_B (xx_G X) + 84))]) rfl ?_
  refine (w_X11_next_l0 hC hQ hI ?_ _ σ)
  intro σ_14
  refine xg_aload_n hC dX11_next_38 rfl ?_
  refine xg_aload_n hC dX11_next_39 rfl ?_
  refine xg_getI hC (xm_hK hI rfl) rfl xl_F_X11_265 dX11_next_40 (fun k15 => ?_)
  refine xg_putI hC (xm_hK hI rfl) rfl rfl k15 (xm_kpK hI rfl) xl_F_X11_274 dX11_next_43 ?_
  refine xg_st (fun σ16 => ?_)
  refine xg_aload_n hC dX11_next_46 rfl ?_
  refine xg_iconst hC dX11_next_47 ?_
  refine xg_putI hC (xm_hK hI rfl) rfl rfl (xm_inc _ rfl) (xm_kpK hI rfl) xl_F_X11_277 dX11_next_48 ?_
  refine xg_st (fun σ17 => ?_)
  refine xg_aload_n hC dX11_next_51 rfl ?_
  refine xg_getI hC (xm_hK hI rfl) rfl xl_F_X11_265 dX11_next_52 (fun k18 => ?_)
  refine xg_aload_n hC dX11_next_55 rfl ?_
  refine xg_getI hC (xm_hK hI rfl) rfl xl_F_X11_268 dX11_next_56 (fun k19 => ?_)
  refine xg_icmp_ne hC k18 k19 63 dX11_next_59 rfl (fun c20 => ?_) (fun c21 => ?_)
  · exact xg_vret hC hQ dX11_next_62
  refine xg_aload_n hC dX11_next_63 rfl ?_
  refine xg_getW hC (b := 85) (xm_hK hI rfl) rfl (xm_wK hI rfl) (by decide) xl_F_X11_271 dX11_next_64 ?_
  refine xg_aload_n hC dX11_next_67 rfl ?_
  refine xg_getI hC (xm_hK hI rfl) rfl xl_F_X11_265 dX11_next_68 (fun k22 => ?_)
  refine xg_vI k22 (fun v23 k24 => ?_)
  refine xg_iald hC (xm_hK hI rfl) rfl k24 dX11_next_71 (fun b25 k26 => ?_)
  refine xg_vI k26 (fun v27 k28 => ?_)
  refine xg_istore_n hC (l' := [(1, .int (xm_J v27)), (0, .ref (xm_B (xx_G X) + 84))]) dX11_next_72 (by decide) rfl ?_
  refine xg_aload_n hC dX11_next_73 rfl ?_
  refine xg_iload_n hC dX11_next_74 rfl ?_
  refine xg_bipush hC dX11_next_75 (by decide) ?_
  refine xg_bipush hC dX11_next_77 (by decide) ?_
  refine xg_callS hC (w_X11_isIn hI σ17 v27 (97 : Int) (122 : Int) k28 (xm_inc _ rfl) (xm_inc _ rfl)) xl_M_X11_10 xl_S_X11_isIn (by decide) ⟨by decide, by decide⟩ dX11_next_79 (rest := [.ref (xm_B (xx_G X) + 84)]) rfl rfl (Nat.le_of_ble_eq_true rfl) rfl rfl (st2 := fun o => .int (xm_J o.2) :: [.ref (xm_B (xx_G X) + 84)]) (fun _ => rfl) (fun o29 k30 => ?_)
  refine xg_if_eq hC (xm_in01 k30) 89 dX11_next_82 rfl (fun c31 => ?_) (fun c32 => ?_)
  · refine xg_iload_n hC dX11_next_89 rfl ?_
    refine xg_bipush hC dX11_next_90 (by decide) ?_
    refine xg_bipush hC dX11_next_92 (by decide) ?_
    refine xg_callS hC (w_X11_isIn hI o29.1 v27 (48 : Int) (57 : Int) k28 (xm_inc _ rfl) (xm_inc _ rfl)) xl_M_X11_10 xl_S_X11_isIn (by decide) ⟨by decide, by decide⟩ dX11_next_94 (rest := [.ref (xm_B (xx_G X) + 84)]) rfl rfl (Nat.le_of_ble_eq_true rfl) rfl rfl (st2 := fun o => .int (xm_J o.2) :: [.ref (xm_B (xx_G X) + 84)]) (fun _ => rfl) (fun o33 k34 => ?_)
    refine xg_if_eq hC (xm_in01 k34) 104 dX11_next_97 rfl (fun c35 => ?_) (fun c36 => ?_)
    · refine xg_iconst hC dX11_next_104 ?_
      exact xg_pick [1] rfl (w_X11_next_j105 hC hQ hI o33.1 (1 : Int) (xm_inc _ rfl))
    refine xg_iconst hC dX11_next_100 ?_
    refine xg_goto hC 105 dX11_next_101 rfl ?_
    exact xg_pick [1] rfl (w_X11_next_j105 hC hQ hI o33.1 (3 : Int) (xm_inc _ rfl))
  refine xg_iconst hC dX11_next_85 ?_
  refine xg_goto hC 105 dX11_next_86 rfl ?_
  exact xg_pick [1] rfl (w_X11_next_j105 hC hQ hI o29.1 (2 : Int) (xm_inc _ rfl))
theorem w_X11_isPart_b33 {X : xm_X} (hC : xm_C X yX11_isPart.cls cX11_isPart 6 5 0 0) (hQ : xm_Rt X 2 (some .boolean) 0 0) (hI : xx_I X = xm_I)   {self : xm_Mem → Int → Int → Int → Int → Int → Option xm_Out} (hself : ∀ (σ : xm_Mem) (x1 : Int) (x2 : Int) (x3 : Int) (x4 : Int) (x5 : Int), 0 ≤ x1 ∧ x1 < 22 → xm_in x2 → xm_in x3 → 0 ≤ x4 ∧ x4 ≤ 1 → xm_in x5 → xm_V X 0 0 (self σ x1 x2 x3 x4 x5) σ 33 [(0, .ref (xm_B (xx_G X) + 84)), (1, .ref (xm_adK (xx_G X) x1.toNat)), (2, .int (xm_J x2)), (3, .int (xm_J x3)), (4, .int (xm_J x4)), (5, .int (xm_J x5))] []) (σ : xm_Mem) (x1 : Int) (x2 : Int) (x3 : Int) (x4 : Int) (x5 : Int) (h1 : 0 ≤ x1 ∧ x1 < 22) (h2 : xm_in x2) (h3 : xm_in x3) (h4 : 0 ≤ x4 ∧ x4 ≤ 1) (h5 : xm_in x5) : xm_V X 0 0 (f_X11_isPart_b33  self σ x1 x2 x3 x4 x5) σ 33 [(0, .ref (xm_B (xx_G X) + 84)), (1, .ref (xm_adK (xx_G X) x1.toNat)), (2, .int (xm_J x2)), (3, .int (xm_J x3)), (4, .int (xm_J x4)), (5, .int (xm_J x5))] [] := by
  unfold f_X11_isPart_b33
  refine xg_iload hC dX11_isPart_33 rfl ?_
  refine xg_iload_n hC dX11_isPart_35 rfl ?_
  refine xg_icmp_ge hC h5 h3 80 dX11_isPart_36 rfl (fun c8 => ?_) (fun c9 => ?_)
  · refine xg_iload hC dX11_isPart_39 rfl ?_
    refine xg_if_eq hC (xm_in01 h4) 80 dX11_isPart_41 rfl (fun c10 => ?_) (fun c11 => ?_)
    · refine xg_iload hC dX11_isPart_80 rfl ?_
      exact xg_zret hC hQ h4 dX11_isPart_82
    refine xg_aload_n hC dX11_isPart_44 rfl ?_
    refine xg_getW hC (b := 85) (xm_hK hI rfl) rfl (xm_wK hI rfl) (by decide) xl_F_X11_271 dX11_isPart_45 ?_
    refine xg_aload_n hC dX11_isPart_48 rfl ?_
    refine xg_getI hC (xm_hK hI rfl) rfl xl_F_X11_274 dX11_isPart_49 (fun k12 => ?_)
    refine xg_iload hC dX11_isPart_52 rfl ?_
    refine xg_iadd hC dX11_isPart_54 ?_
    refine xg_iload_n hC dX11_isPart_55 rfl ?_
    refine xg_isub hC dX11_isPart_56 ?_
    refine xg_vI (xm_w_in _) (fun v13 k14 => ?_)
    refine xg_iald hC (xm_hK hI rfl) rfl k14 dX11_isPart_57 (fun b15 k16 => ?_)
    refine xg_aload_n hC dX11_isPart_58 rfl ?_
    refine xg_iload hC dX11_isPart_59 rfl ?_
    refine xg_callT hC (mj_charAt h5) xl_M_X11_296 xl_V_J0_charAt_5068e (xm_s22 h1) rfl (by decide) ⟨by decide, by decide⟩ dX11_isPart_61 (rest := [.int (xm_J (σ.1 85 v13.toNat))]) rfl rfl (Nat.le_of_ble_eq_true rfl) rfl rfl (st2 := fun o => .int (xm_J o.2) :: [.int (xm_J (σ.1 85 v13.toNat))]) (fun _ => rfl) (fun o17 k18 => ?_)
    refine xg_icmp_ne hC k16 k18 71 dX11_isPart_64 rfl (fun c19 => ?_) (fun c20 => ?_)
    · refine xg_iconst hC dX11_isPart_67 ?_
      refine xg_goto hC 72 dX11_isPart_68 rfl ?_
      refine xg_istore hC (l' := [(4, .int (xm_J (1 : Int))), (0, .ref (xm_B (xx_G X) + 84)), (1, .ref (xm_adK (xx_G X) x1.toNat)), (2, .int (xm_J x2)), (3, .int (xm_J x3)), (5, .int (xm_J x5))]) dX11_isPart_72 (by decide) rfl ?_
      refine xg_iinc hC (l' := [(5, .int (xm_J (xm_w (x5 + 1)))), (4, .int (xm_J (1 : Int))), (0, .ref (xm_B (xx_G X) + 84)), (1, .ref (xm_adK (xx_G X) x1.toNat)), (2, .int (xm_J x2)), (3, .int (xm_J x3))]) dX11_isPart_74 (by decide) 5 rfl rfl ?_
      refine xg_goto hC 33 dX11_isPart_77 rfl ?_
      exact xg_pick [2, 3, 4, 5, 1, 0] rfl (hself o17.1 x1 x2 x3 (1 : Int) (xm_w (x5 + 1)) h1 h2 h3 (by decide) (xm_w_in _))
    refine xg_iconst hC dX11_isPart_71 ?_
    refine xg_istore hC (l' := [(4, .int (xm_J (0 : Int))), (0, .ref (xm_B (xx_G X) + 84)), (1, .ref (xm_adK (xx_G X) x1.toNat)), (2, .int (xm_J x2)), (3, .int (xm_J x3)), (5, .int (xm_J x5))]) dX11_isPart_72 (by decide) rfl ?_
    refine xg_iinc hC (l' := [(5, .int (xm_J (xm_w (x5 + 1)))), (4, .int (xm_J (0 : Int))), (0, .ref (xm_B (xx_G X) + 84)), (1, .ref (xm_adK (xx_G X) x1.toNat)), (2, .int (xm_J x2)), (3, .int (xm_J x3))]) dX11_isPart_74 (by decide) 5 rfl rfl ?_
    refine xg_goto hC 33 dX11_isPart_77 rfl ?_
    exact xg_pick [2, 3, 4, 5, 1, 0] rfl (hself o17.1 x1 x2 x3 (0 : Int) (xm_w (x5 + 1)) h1 h2 h3 (by decide) (xm_w_in _))
  refine xg_iload hC dX11_isPart_80 rfl ?_
  exact xg_zret hC hQ h4 dX11_isPart_82
theorem w_X11_isPart_l33 {X : xm_X} (hC : xm_C X yX11_isPart.cls cX11_isPart 6 5 0 0) (hQ : xm_Rt X 2 (some .boolean) 0 0) (hI : xx_I X = xm_I)   (n : Nat) : ∀ (σ : xm_Mem) (x1 : Int) (x2 : Int) (x3 : Int) (x4 : Int) (x5 : Int), 0 ≤ x1 ∧ x1 < 22 → xm_in x2 → xm_in x3 → 0 ≤ x4 ∧ x4 ≤ 1 → xm_in x5 → xm_V X 0 0 (f_X11_isPart_l33  n σ x1 x2 x3 x4 x5) σ 33 [(0, .ref (xm_B (xx_G X) + 84)), (1, .ref (xm_adK (xx_G X) x1.toNat)), (2, .int (xm_J x2)), (3, .int (xm_J x3)), (4, .int (xm_J x4)), (5, .int (xm_J x5))] [] := by
  induction n with
  | zero => intro σ x1 x2 x3 x4 x5 h1 h2 h3 h4 h5; exact xg_none
  | succ n ih => intro σ x1 x2 x3 x4 x5 h1 h2 h3 h4 h5; exact w_X11_isPart_b33 hC hQ hI ih σ x1 x2 x3 x4 x5 h1 h2 h3 h4 h5
theorem w_X11_isPart {Γ : xm_Gm} {I : xm_Mem → Prop} {la : Launch} (hE : I = xm_I) (σ : xm_Mem) (x1 : Int) (x2 : Int) (x3 : Int) (h1 : 0 ≤ x1 ∧ x1 < 22) (h2 : xm_in x2) (h3 : xm_in x3) : ∀ o, f_X11_isPart σ x1 x2 x3 = some o → xm_M Γ I la yX11_isPart cX11_isPart 6 (some .boolean) 5 0 0 [.ref (xm_B Γ + 84), .ref (xm_adK Γ x1.toNat), .int (xm_J x2), .int (xm_J x3)] σ 2 o := by
  refine xg_enter (by decide) (by simp [lg_sl, xm_rf_cat, xm_cati, xm_catr, xm_catl]) (fun X hG hI0 hla hC hQ hname => ?_)
  subst hG
  have hI := hI0.trans hE
  clear hI0 hla
  unfold f_X11_isPart
  refine xg_pick [0, 1, 2, 3] (l' := [(0, .ref (xm_B (xx_G X) + 84)), (1, .ref (xm_adK (xx_G X) x1.toNat)), (2, .int (xm_J x2)), (3, .int (xm_J x3))]) rfl ?_
  refine xg_aload_n hC dX11_isPart_0 rfl ?_
  refine xg_getI hC (xm_hK hI rfl) rfl xl_F_X11_277 dX11_isPart_1 (fun k1 => ?_)
  refine xg_iconst hC dX11_isPart_4 ?_
  refine xg_icmp_ne hC k1 (xm_inc _ rfl) 27 dX11_isPart_5 rfl (fun c2 => ?_) (fun c3 => ?_)
  · refine xg_aload_n hC dX11_isPart_8 rfl ?_
    refine xg_getI hC (xm_hK hI rfl) rfl xl_F_X11_283 dX11_isPart_9 (fun k4 => ?_)
    refine xg_aload_n hC dX11_isPart_12 rfl ?_
    refine xg_getI hC (xm_hK hI rfl) rfl xl_F_X11_274 dX11_isPart_13 (fun k5 => ?_)
    refine xg_isub hC dX11_isPart_16 ?_
    refine xg_iload_n hC dX11_isPart_17 rfl ?_
    refine xg_iload_n hC dX11_isPart_18 rfl ?_
    refine xg_isub hC dX11_isPart_19 ?_
    refine xg_icmp_ne hC (xm_w_in _) (xm_w_in _) 27 dX11_isPart_20 rfl (fun c6 => ?_) (fun c7 => ?_)
    · refine xg_iconst hC dX11_isPart_23 ?_
      refine xg_goto hC 28 dX11_isPart_24 rfl ?_
      refine xg_istore hC (l' := [(4, .int (xm_J (1 : Int))), (0, .ref (xm_B (xx_G X) + 84)), (1, .ref (xm_adK (xx_G X) x1.toNat)), (2, .int (xm_J x2)), (3, .int (xm_J x3))]) dX11_isPart_28 (by decide) rfl ?_
      refine xg_iload_n hC dX11_isPart_30 rfl ?_
      refine xg_istore hC (l' := [(5, .int (xm_J x2)), (4, .int (xm_J (1 : Int))), (0, .ref (xm_B (xx_G X) + 84)), (1, .ref (xm_adK (xx_G X) x1.toNat)), (2, .int (xm_J x2)), (3, .int (xm_J x3))]) dX11_isPart_31 (by decide) rfl ?_
      exact xg_pick [2, 3, 4, 5, 1, 0] rfl (w_X11_isPart_l33 hC hQ hI _ σ x1 x2 x3 (1 : Int) x2 h1 h2 h3 (by decide) h2)
    refine xg_iconst hC dX11_isPart_27 ?_
    refine xg_istore hC (l' := [(4, .int (xm_J (0 : Int))), (0, .ref (xm_B (xx_G X) + 84)), (1, .ref (xm_adK (xx_G X) x1.toNat)), (2, .int (xm_J x2)), (3, .int (xm_J x3))]) dX11_isPart_28 (by decide) rfl ?_
    refine xg_iload_n hC dX11_isPart_30 rfl ?_
    refine xg_istore hC (l' := [(5, .int (xm_J x2)), (4, .int (xm_J (0 : Int))), (0, .ref (xm_B (xx_G X) + 84)), (1, .ref (xm_adK (xx_G X) x1.toNat)), (2, .int (xm_J x2)), (3, .int (xm_J x3))]) dX11_isPart_31 (by decide) rfl ?_
    exact xg_pick [2, 3, 4, 5, 1, 0] rfl (w_X11_isPart_l33 hC hQ hI _ σ x1 x2 x3 (0 : Int) x2 h1 h2 h3 (by decide) h2)
  refine xg_iconst hC dX11_isPart_27 ?_
  refine xg_istore hC (l' := [(4, .int (xm_J (0 : Int))), (0, .ref (xm_B (xx_G X) + 84)), (1, .ref (xm_adK (xx_G X) x1.toNat)), (2, .int (xm_J x2)), (3, .int (xm_J x3))]) dX11_isPart_28 (by decide) rfl ?_
  refine xg_iload_n hC dX11_isPart_30 rfl ?_
  refine xg_istore hC (l' := [(5, .int (xm_J x2)), (4, .int (xm_J (0 : Int))), (0, .ref (xm_B (xx_G X) + 84)), (1, .ref (xm_adK (xx_G X) x1.toNat)), (2, .int (xm_J x2)), (3, .int (xm_J x3))]) dX11_isPart_31 (by decide) rfl ?_
  exact xg_pick [2, 3, 4, 5, 1, 0] rfl (w_X11_isPart_l33 hC hQ hI _ σ x1 x2 x3 (0 : Int) x2 h1 h2 h3 (by decide) h2)
theorem w_X11_is {Γ : xm_Gm} {I : xm_Mem → Prop} {la : Launch} (hE : I = xm_I) (σ : xm_Mem) (x1 : Int) (h1 : 0 ≤ x1 ∧ x1 < 22) : ∀ o, f_X11_is σ x1 = some o → xm_M Γ I la yX11_is cX11_is 2 (some .boolean) 6 0 0 [.ref (xm_B Γ + 84), .ref (xm_adK Γ x1.toNat)] σ 2 o := by
  refine xg_enter (by decide) (by simp [lg_sl, xm_rf_cat, xm_cati, xm_catr, xm_catl]) (fun X hG hI0 hla hC hQ hname => ?_)
  subst hG
  have hI := hI0.trans hE
  clear hI0 hla
  unfold f_X11_is
  refine xg_pick [0, 1] (l' := [(0, .ref (xm_B (xx_G X) + 84)), (1, .ref (xm_adK (xx_G X) x1.toNat))]) rfl ?_
  refine xg_aload_n hC dX11_is_0 rfl ?_
  refine xg_aload_n hC dX11_is_1 rfl ?_
  refine xg_iconst hC dX11_is_2 ?_
  refine xg_aload_n hC dX11_is_3 rfl ?_
  refine xg_callT hC mj_length xl_M_X11_286 xl_V_J0_length_8abf5 (xm_s22 h1) rfl (by decide) ⟨by decide, by decide⟩ dX11_is_4 (rest := [.int (xm_J (0 : Int)), .ref (xm_adK (xx_G X) x1.toNat), .ref (xm_B (xx_G X) + 84)]) rfl rfl (Nat.le_of_ble_eq_true rfl) rfl rfl (st2 := fun o => .int (xm_J o.2) :: [.int (xm_J (0 : Int)), .ref (xm_adK (xx_G X) x1.toNat), .ref (xm_B (xx_G X) + 84)]) (fun _ => rfl) (fun o1 k2 => ?_)
  refine xg_callV hC (ci := 10) (w_X11_isPart hI o1.1 x1 (0 : Int) o1.2 h1 (xm_inc _ rfl) k2) xl_M_X11_292 xl_V_X11_isPart (xm_hK (a := 84) (kd := 0) (n := 10) hI rfl).2 ((xm_hK (a := 84) (kd := 0) (n := 10) hI rfl).1 _) (by decide) rfl (by decide) ⟨by decide, by decide⟩ dX11_is_7 (rest := []) rfl rfl (Nat.le_of_ble_eq_true rfl) rfl rfl (st2 := fun o => .int (xm_J o.2) :: []) (fun _ => rfl) (fun o3 k4 => ?_)
  exact xg_zret hC hQ k4 dX11_is_10
theorem w_X11_number_j20 {X : xm_X} (hC : xm_C X yX11_number.cls cX11_number 2 3 0 0) (hQ : xm_Rt X 1 (some .int) 0 0) (hI : xx_I X = xm_I)   (σ : xm_Mem)   : xm_V X 0 0 (f_X11_number_j20  σ) σ 20 [(0, .ref (xm_B (xx_G X) + 84))] [] := by
  unfold f_X11_number_j20
  refine xg_aload_n hC dX11_number_20 rfl ?_
  refine xg_getZ hC (xm_hK hI rfl) rfl xl_F_X11_300 dX11_number_21 (fun k4 => ?_)
  refine xg_if_ne hC (xm_in01 k4) 29 dX11_number_24 rfl (fun c5 => ?_) (fun c6 => ?_)
  · refine xg_iconst hC dX11_number_27 ?_
    exact xg_iret hC hQ (xm_inc _ rfl) dX11_number_28
  refine xg_aload_n hC dX11_number_29 rfl ?_
  refine xg_getI hC (xm_hK hI rfl) rfl xl_F_X11_280 dX11_number_30 (fun k7 => ?_)
  refine xg_vI k7 (fun v8 k9 => ?_)
  refine xg_istore_n hC (l' := [(1, .int (xm_J v8)), (0, .ref (xm_B (xx_G X) + 84))]) dX11_number_33 (by decide) rfl ?_
  refine xg_aload_n hC dX11_number_34 rfl ?_
  refine xg_callV hC (ci := 10) (w_X11_next hI σ ) xl_M_X11_303 xl_V_X11_next (xm_hK (a := 84) (kd := 0) (n := 10) hI rfl).2 ((xm_hK (a := 84) (kd := 0) (n := 10) hI rfl).1 _) (by decide) rfl (by decide) ⟨by decide, by decide⟩ dX11_number_35 (rest := []) rfl rfl (Nat.le_of_ble_eq_true rfl) rfl rfl (st2 := fun o => []) (fun _ => rfl) (fun o10 k11 => ?_)
  refine xg_iload_n hC dX11_number_38 rfl ?_
  exact xg_iret hC hQ k9 dX11_number_39
theorem w_X11_number {Γ : xm_Gm} {I : xm_Mem → Prop} {la : Launch} (hE : I = xm_I) (σ : xm_Mem)   : ∀ o, f_X11_number σ  = some o → xm_M Γ I la yX11_number cX11_number 2 (some .int) 3 0 0 [.ref (xm_B Γ + 84)] σ 1 o := by
  refine xg_enter (by decide) (by simp [lg_sl, xm_rf_cat, xm_cati, xm_catr, xm_catl]) (fun X hG hI0 hla hC hQ hname => ?_)
  subst hG
  have hI := hI0.trans hE
  clear hI0 hla
  unfold f_X11_number
  refine xg_pick [0] (l' := [(0, .ref (xm_B (xx_G X) + 84))]) rfl ?_
  refine xg_aload_n hC dX11_number_0 rfl ?_
  refine xg_getZ hC (xm_hK hI rfl) rfl xl_F_X11_300 dX11_number_1 (fun k1 => ?_)
  refine xg_if_eq hC (xm_in01 k1) 20 dX11_number_4 rfl (fun c2 => ?_) (fun c3 => ?_)
  · exact (w_X11_number_j20 hC hQ hI σ)
  refine xg_aload_n hC dX11_number_7 rfl ?_
  refine xg_getI hC (xm_hK hI rfl) rfl xl_F_X11_277 dX11_number_8 (fun k12 => ?_)
  refine xg_iconst hC dX11_number_11 ?_
  refine xg_icmp_eq hC k12 (xm_inc _ rfl) 20 dX11_number_12 rfl (fun c13 => ?_) (fun c14 => ?_)
  · exact (w_X11_number_j20 hC hQ hI σ)
  refine xg_aload_n hC dX11_number_15 rfl ?_
  refine xg_iconst hC dX11_number_16 ?_
  refine xg_putZ hC (xm_hK hI rfl) rfl rfl (by decide) (xm_kpK hI rfl) xl_F_X11_300 dX11_number_17 ?_
  refine xg_st (fun σ15 => ?_)
  exact (w_X11_number_j20 hC hQ hI σ15)
theorem w_X11_must_j20 {X : xm_X} (hC : xm_C X yX11_must.cls cX11_must 2 7 0 0) (hQ : xm_Rt X 0 none 0 0) (hI : xx_I X = xm_I)   (σ : xm_Mem)   : xm_V X 0 0 (f_X11_must_j20  σ) σ 20 [(0, .ref (xm_B (xx_G X) + 84))] [] := by
  unfold f_X11_must_j20
  refine xg_aload_n hC dX11_must_20 rfl ?_
  refine xg_getZ hC (xm_hK hI rfl) rfl xl_F_X11_300 dX11_must_21 (fun k4 => ?_)
  refine xg_if_eq hC (xm_in01 k4) 31 dX11_must_24 rfl (fun c5 => ?_) (fun c6 => ?_)
  · exact xg_vret hC hQ dX11_must_31
  refine xg_aload_n hC dX11_must_27 rfl ?_
  refine xg_callV hC (ci := 10) (w_X11_next hI σ ) xl_M_X11_303 xl_V_X11_next (xm_hK (a := 84) (kd := 0) (n := 10) hI rfl).2 ((xm_hK (a := 84) (kd := 0) (n := 10) hI rfl).1 _) (by decide) rfl (by decide) ⟨by decide, by decide⟩ dX11_must_28 (rest := []) rfl rfl (Nat.le_of_ble_eq_true rfl) rfl rfl (st2 := fun o => []) (fun _ => rfl) (fun o7 k8 => ?_)
  exact xg_vret hC hQ dX11_must_31
theorem w_X11_must {Γ : xm_Gm} {I : xm_Mem → Prop} {la : Launch} (hE : I = xm_I) (σ : xm_Mem) (x1 : Int) (h1 : 0 ≤ x1 ∧ x1 < 22) : ∀ o, f_X11_must σ x1 = some o → xm_M Γ I la yX11_must cX11_must 2 none 7 0 0 [.ref (xm_B Γ + 84), .ref (xm_adK Γ x1.toNat)] σ 0 o := by
  refine xg_enter (by decide) (by simp [lg_sl, xm_rf_cat, xm_cati, xm_catr, xm_catl]) (fun X hG hI0 hla hC hQ hname => ?_)
  subst hG
  have hI := hI0.trans hE
  clear hI0 hla
  unfold f_X11_must
  refine xg_pick [0, 1] (l' := [(0, .ref (xm_B (xx_G X) + 84)), (1, .ref (xm_adK (xx_G X) x1.toNat))]) rfl ?_
  refine xg_aload_n hC dX11_must_0 rfl ?_
  refine xg_getZ hC (xm_hK hI rfl) rfl xl_F_X11_300 dX11_must_1 (fun k1 => ?_)
  refine xg_if_eq hC (xm_in01 k1) 20 dX11_must_4 rfl (fun c2 => ?_) (fun c3 => ?_)
  · exact xg_pick [0] rfl (w_X11_must_j20 hC hQ hI σ)
  refine xg_aload_n hC dX11_must_7 rfl ?_
  refine xg_aload_n hC dX11_must_8 rfl ?_
  refine xg_callV hC (ci := 10) (w_X11_is hI σ x1 h1) xl_M_X11_306 xl_V_X11_is (xm_hK (a := 84) (kd := 0) (n := 10) hI rfl).2 ((xm_hK (a := 84) (kd := 0) (n := 10) hI rfl).1 _) (by decide) rfl (by decide) ⟨by decide, by decide⟩ dX11_must_9 (rest := []) rfl rfl (Nat.le_of_ble_eq_true rfl) rfl rfl (st2 := fun o => .int (xm_J o.2) :: []) (fun _ => rfl) (fun o9 k10 => ?_)
  refine xg_if_ne hC (xm_in01 k10) 20 dX11_must_12 rfl (fun c11 => ?_) (fun c12 => ?_)
  · refine xg_aload_n hC dX11_must_15 rfl ?_
    refine xg_iconst hC dX11_must_16 ?_
    refine xg_putZ hC (xm_hK hI rfl) rfl rfl (by decide) (xm_kpK hI rfl) xl_F_X11_300 dX11_must_17 ?_
    refine xg_st (fun σ13 => ?_)
    exact xg_pick [0] rfl (w_X11_must_j20 hC hQ hI σ13)
  exact xg_pick [0] rfl (w_X11_must_j20 hC hQ hI o9.1)
theorem w_X11_oneOf_b22 {X : xm_X} (hC : xm_C X yX11_oneOf.cls cX11_oneOf 5 6 0 0) (hQ : xm_Rt X 1 (some .int) 0 0) (hI : xx_I X = xm_I) {K48 : xm_Mem → Int → Int → Int → Int → Option xm_Out} (hK48 : ∀ (σ : xm_Mem) (x1 : Int) (x2 : Int) (x3 : Int) (x4 : Int), 0 ≤ x1 ∧ x1 < 22 → xm_in x2 → xm_in x3 → xm_in x4 → xm_V X 0 0 (K48 σ x1 x2 x3 x4) σ 48 [(0, .ref (xm_B (xx_G X) + 84)), (1, .ref (xm_adK (xx_G X) x1.toNat)), (2, .int (xm_J x2)), (3, .int (xm_J x3)), (4, .int (xm_J x4))] []) {self : xm_Mem → Int → Int → Int → Int → Option xm_Out} (hself : ∀ (σ : xm_Mem) (x1 : Int) (x2 : Int) (x3 : Int) (x4 : Int), 0 ≤ x1 ∧ x1 < 22 → xm_in x2 → xm_in x3 → xm_in x4 → xm_V X 0 0 (self σ x1 x2 x3 x4) σ 22 [(0, .ref (xm_B (xx_G X) + 84)), (1, .ref (xm_adK (xx_G X) x1.toNat)), (2, .int (xm_J x2)), (3, .int (xm_J x3)), (4, .int (xm_J x4))] []) (σ : xm_Mem) (x1 : Int) (x2 : Int) (x3 : Int) (x4 : Int) (h1 : 0 ≤ x1 ∧ x1 < 22) (h2 : xm_in x2) (h3 : xm_in x3) (h4 : xm_in x4) : xm_V X 0 0 (f_X11_oneOf_b22 K48 self σ x1 x2 x3 x4) σ 22 [(0, .ref (xm_B (xx_G X) + 84)), (1, .ref (xm_adK (xx_G X) x1.toNat)), (2, .int (xm_J x2)), (3, .int (xm_J x3)), (4, .int (xm_J x4))] [] := by
  unfold f_X11_oneOf_b22
  refine xg_iload hC dX11_oneOf_22 rfl ?_
  refine xg_aload_n hC dX11_oneOf_24 rfl ?_
  refine xg_callT hC mj_length xl_M_X11_286 xl_V_J0_length_8abf5 (xm_s22 h1) rfl (by decide) ⟨by decide, by decide⟩ dX11_oneOf_25 (rest := [.int (xm_J x4)]) rfl rfl (Nat.le_of_ble_eq_true rfl) rfl rfl (st2 := fun o => .int (xm_J o.2) :: [.int (xm_J x4)]) (fun _ => rfl) (fun o8 k9 => ?_)
  refine xg_icmp_ge hC h4 k9 48 dX11_oneOf_28 rfl (fun c10 => ?_) (fun c11 => ?_)
  · refine xg_aload_n hC dX11_oneOf_31 rfl ?_
    refine xg_iload hC dX11_oneOf_32 rfl ?_
    refine xg_callT hC (mj_charAt h4) xl_M_X11_296 xl_V_J0_charAt_5068e (xm_s22 h1) rfl (by decide) ⟨by decide, by decide⟩ dX11_oneOf_34 (rest := []) rfl rfl (Nat.le_of_ble_eq_true rfl) rfl rfl (st2 := fun o => .int (xm_J o.2) :: []) (fun _ => rfl) (fun o12 k13 => ?_)
    refine xg_bipush hC dX11_oneOf_37 (by decide) ?_
    refine xg_icmp_eq hC k13 (xm_inc _ rfl) 48 dX11_oneOf_39 rfl (fun c14 => ?_) (fun c15 => ?_)
    · exact (hK48 o12.1 x1 x2 x3 x4 h1 h2 h3 h4)
    refine xg_iinc hC (l' := [(4, .int (xm_J (xm_w (x4 + 1)))), (0, .ref (xm_B (xx_G X) + 84)), (1, .ref (xm_adK (xx_G X) x1.toNat)), (2, .int (xm_J x2)), (3, .int (xm_J x3))]) dX11_oneOf_42 (by decide) 4 rfl rfl ?_
    refine xg_goto hC 22 dX11_oneOf_45 rfl ?_
    exact xg_pick [1, 2, 3, 4, 0] rfl (hself o12.1 x1 x2 x3 (xm_w (x4 + 1)) h1 h2 h3 (xm_w_in _))
  exact (hK48 o8.1 x1 x2 x3 x4 h1 h2 h3 h4)
theorem w_X11_oneOf_l22 {X : xm_X} (hC : xm_C X yX11_oneOf.cls cX11_oneOf 5 6 0 0) (hQ : xm_Rt X 1 (some .int) 0 0) (hI : xx_I X = xm_I) {K48 : xm_Mem → Int → Int → Int → Int → Option xm_Out} (hK48 : ∀ (σ : xm_Mem) (x1 : Int) (x2 : Int) (x3 : Int) (x4 : Int), 0 ≤ x1 ∧ x1 < 22 → xm_in x2 → xm_in x3 → xm_in x4 → xm_V X 0 0 (K48 σ x1 x2 x3 x4) σ 48 [(0, .ref (xm_B (xx_G X) + 84)), (1, .ref (xm_adK (xx_G X) x1.toNat)), (2, .int (xm_J x2)), (3, .int (xm_J x3)), (4, .int (xm_J x4))] []) (n : Nat) : ∀ (σ : xm_Mem) (x1 : Int) (x2 : Int) (x3 : Int) (x4 : Int), 0 ≤ x1 ∧ x1 < 22 → xm_in x2 → xm_in x3 → xm_in x4 → xm_V X 0 0 (f_X11_oneOf_l22 K48 n σ x1 x2 x3 x4) σ 22 [(0, .ref (xm_B (xx_G X) + 84)), (1, .ref (xm_adK (xx_G X) x1.toNat)), (2, .int (xm_J x2)), (3, .int (xm_J x3)), (4, .int (xm_J x4))] [] := by
  induction n with
  | zero => intro σ x1 x2 x3 x4 h1 h2 h3 h4; exact xg_none
  | succ n ih => intro σ x1 x2 x3 x4 h1 h2 h3 h4; exact w_X11_oneOf_b22 hC hQ hI hK48 ih σ x1 x2 x3 x4 h1 h2 h3 h4
theorem w_X11_oneOf_b4 {X : xm_X} (hC : xm_C X yX11_oneOf.cls cX11_oneOf 5 6 0 0) (hQ : xm_Rt X 1 (some .int) 0 0) (hI : xx_I X = xm_I) {K59 : xm_Mem → Int → Option xm_Out} {K76 : xm_Mem → Option xm_Out} (hK59 : ∀ (σ : xm_Mem) (x2 : Int), xm_in x2 → xm_V X 0 0 (K59 σ x2) σ 59 [(0, .ref (xm_B (xx_G X) + 84)), (2, .int (xm_J x2))] []) (hK76 : ∀ (σ : xm_Mem), xm_V X 0 0 (K76 σ ) σ 76 [(0, .ref (xm_B (xx_G X) + 84))] []) {self : xm_Mem → Int → Int → Int → Option xm_Out} (hself : ∀ (σ : xm_Mem) (x1 : Int) (x2 : Int) (x3 : Int), 0 ≤ x1 ∧ x1 < 22 → xm_in x2 → xm_in x3 → xm_V X 0 0 (self σ x1 x2 x3) σ 4 [(0, .ref (xm_B (xx_G X) + 84)), (1, .ref (xm_adK (xx_G X) x1.toNat)), (2, .int (xm_J x2)), (3, .int (xm_J x3))] []) (σ : xm_Mem) (x1 : Int) (x2 : Int) (x3 : Int) (h1 : 0 ≤ x1 ∧ x1 < 22) (h2 : xm_in x2) (h3 : xm_in x3) : xm_V X 0 0 (f_X11_oneOf_b4 K59 K76 self σ x1 x2 x3) σ 4 [(0, .ref (xm_B (xx_G X) + 84)), (1, .ref (xm_adK (xx_G X) x1.toNat)), (2, .int (xm_J x2)), (3, .int (xm_J x3))] [] := by
  unfold f_X11_oneOf_b4
  refine xg_aload_n hC dX11_oneOf_4 rfl ?_
  refine xg_getZ hC (xm_hK hI rfl) rfl xl_F_X11_300 dX11_oneOf_5 (fun k1 => ?_)
  refine xg_if_eq hC (xm_in01 k1) 76 dX11_oneOf_8 rfl (fun c2 => ?_) (fun c3 => ?_)
  · exact xg_pick [0] rfl (hK76 σ)
  refine xg_iload_n hC dX11_oneOf_11 rfl ?_
  refine xg_aload_n hC dX11_oneOf_12 rfl ?_
  refine xg_callT hC mj_length xl_M_X11_286 xl_V_J0_length_8abf5 (xm_s22 h1) rfl (by decide) ⟨by decide, by decide⟩ dX11_oneOf_13 (rest := [.int (xm_J x3)]) rfl rfl (Nat.le_of_ble_eq_true rfl) rfl rfl (st2 := fun o => .int (xm_J o.2) :: [.int (xm_J x3)]) (fun _ => rfl) (fun o4 k5 => ?_)
  refine xg_icmp_ge hC h3 k5 76 dX11_oneOf_16 rfl (fun c6 => ?_) (fun c7 => ?_)
  · refine xg_iload_n hC dX11_oneOf_19 rfl ?_
    refine xg_istore hC (l' := [(4, .int (xm_J x3)), (0, .ref (xm_B (xx_G X) + 84)), (1, .ref (xm_adK (xx_G X) x1.toNat)), (2, .int (xm_J x2)), (3, .int (xm_J x3))]) dX11_oneOf_20 (by decide) rfl ?_
    refine xg_pick [1, 2, 3, 4, 0] rfl (w_X11_oneOf_l22 hC hQ hI ?_ _ o4.1 x1 x2 x3 x3 h1 h2 h3 h3)
    intro σ_16 x1_16 x2_16 x3_16 x4_16 h1_16 h2_16 h3_16 h4_16
    refine xg_aload_n hC dX11_oneOf_48 rfl ?_
    refine xg_aload_n hC dX11_oneOf_49 rfl ?_
    refine xg_iload_n hC dX11_oneOf_50 rfl ?_
    refine xg_iload hC dX11_oneOf_51 rfl ?_
    refine xg_callV hC (ci := 10) (w_X11_isPart hI σ_16 x1_16 x3_16 x4_16 h1_16 h3_16 h4_16) xl_M_X11_292 xl_V_X11_isPart (xm_hK (a := 84) (kd := 0) (n := 10) hI rfl).2 ((xm_hK (a := 84) (kd := 0) (n := 10) hI rfl).1 _) (by decide) rfl (by decide) ⟨by decide, by decide⟩ dX11_oneOf_53 (rest := []) rfl rfl (Nat.le_of_ble_eq_true rfl) rfl rfl (st2 := fun o => .int (xm_J o.2) :: []) (fun _ => rfl) (fun o17 k18 => ?_)
    refine xg_if_eq hC (xm_in01 k18) 65 dX11_oneOf_56 rfl (fun c19 => ?_) (fun c20 => ?_)
    · refine xg_iload hC dX11_oneOf_65 rfl ?_
      refine xg_iconst hC dX11_oneOf_67 ?_
      refine xg_iadd hC dX11_oneOf_68 ?_
      refine xg_vI (xm_w_in _) (fun v21 k22 => ?_)
      refine xg_istore_n hC (l' := [(3, .int (xm_J v21)), (0, .ref (xm_B (xx_G X) + 84)), (1, .ref (xm_adK (xx_G X) x1_16.toNat)), (2, .int (xm_J x2_16)), (4, .int (xm_J x4_16))]) dX11_oneOf_69 (by decide) rfl ?_
      refine xg_iinc hC (l' := [(2, .int (xm_J (xm_w (x2_16 + 1)))), (3, .int (xm_J v21)), (0, .ref (xm_B (xx_G X) + 84)), (1, .ref (xm_adK (xx_G X) x1_16.toNat)), (4, .int (xm_J x4_16))]) dX11_oneOf_70 (by decide) 3 rfl rfl ?_
      refine xg_goto hC 4 dX11_oneOf_73 rfl ?_
      exact xg_pick [2, 3, 0, 1] rfl (hself o17.1 x1_16 (xm_w (x2_16 + 1)) v21 h1_16 (xm_w_in _) k22)
    exact xg_pick [0, 2] rfl (hK59 o17.1 x2_16 h2_16)
  exact xg_pick [0] rfl (hK76 o4.1)
