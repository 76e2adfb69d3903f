/-! ===== walks of the class (written by program) ===== -/
theorem w_X4_fill {Γ : xm_Gm} {I : xm_Mem → Prop} {la : Launch} (hE : I = xm_I) (σ : xm_Mem) (x1 : Int) (x2 : Int) (x3 : Int) (x4 : Int) (h1 : xm_in x1) (h2 : xm_in x2) (h3 : xm_in x3) : ∀ o, f_X4_fill σ x1 x2 x3 x4 = some o → xm_M Γ I la yX4_fill cX4_fill 7 none 4 0 0 [.ref (xm_ad Γ 29), .int (xm_J x1), .int (xm_J x2), .int (xm_J x3), xm_rf Γ x4] σ 0 o := by
  refine xg_enter (by decide) (by simp [lg_sl, xm_rf_cat, xm_cati, xm_catr, xm_catl]) (fun X hG hI0 hla hC hQ hname => ?_)
  subst hG
  have hI := hI0.trans hE
  clear hI0 hla
  unfold f_X4_fill
  refine xg_pick [0, 1, 2, 3, 4] (l' := [(0, .ref (xm_ad (xx_G X) 29)), (1, .int (xm_J x1)), (2, .int (xm_J x2)), (3, .int (xm_J x3)), (4, xm_rf (xx_G X) x4)]) (by simp [lv_args, lv_pick, xm_rf_cat, xm_cati, xm_catr, xm_catl]) ?_
  refine xg_iload_n hC dX4_fill_0 rfl ?_
  refine xg_aload_n hC dX4_fill_1 rfl ?_
  refine xg_getI hC (xm_hK hI rfl) rfl xl_F_X4_19 dX4_fill_2 (fun k1 => ?_)
  refine xg_icmp_ne hC h1 k1 16 dX4_fill_5 rfl (fun c2 => ?_) (fun c3 => ?_)
  · refine xg_iload_n hC dX4_fill_8 rfl ?_
    refine xg_aload_n hC dX4_fill_9 rfl ?_
    refine xg_getI hC (xm_hK hI rfl) rfl xl_F_X4_22 dX4_fill_10 (fun k4 => ?_)
    refine xg_icmp_eq hC h2 k4 50 dX4_fill_13 rfl (fun c5 => ?_) (fun c6 => ?_)
    · exact xg_pick [0, 1, 3, 4] rfl (w_X4_fill_j50 hC hQ hI σ x1 x3 x4 h1 h3)
    exact (w_X4_fill_j16 hC hQ hI σ x1 x2 x3 x4 h1 h2 h3)
  exact (w_X4_fill_j16 hC hQ hI σ x1 x2 x3 x4 h1 h2 h3)
theorem w_X4_size {Γ : xm_Gm} {I : xm_Mem → Prop} {la : Launch} (hE : I = xm_I) (σ : xm_Mem)   : ∀ o, f_X4_size σ  = some o → xm_M Γ I la yX4_size cX4_size 1 (some .int) 1 0 0 [.ref (xm_ad Γ 29)] σ 1 o := by
  refine xg_enter (by decide) (by simp [lg_sl, xm_rf_cat, xm_cati, xm_catr, xm_catl]) (fun X hG hI0 hla hC hQ hname => ?_)
  subst hG
  have hI := hI0.trans hE
  clear hI0 hla
  unfold f_X4_size
  refine xg_pick [0] (l' := [(0, .ref (xm_ad (xx_G X) 29))]) rfl ?_
  refine xg_aload_n hC dX4_size_0 rfl ?_
  refine xg_getI hC (xm_hK hI rfl) rfl xl_F_X4_37 dX4_size_1 (fun k1 => ?_)
  exact xg_iret hC hQ k1 dX4_size_4
theorem w_X4_has {Γ : xm_Gm} {I : xm_Mem → Prop} {la : Launch} (hE : I = xm_I) (σ : xm_Mem) (x1 : Int) (h1 : xm_in x1) : ∀ o, f_X4_has σ x1 = some o → xm_M Γ I la yX4_has cX4_has 2 (some .boolean) 2 0 0 [.ref (xm_ad Γ 29), .int (xm_J x1)] σ 2 o := by
  refine xg_enter (by decide) (by simp [lg_sl, xm_rf_cat, xm_cati, xm_catr, xm_catl]) (fun X hG hI0 hla hC hQ hname => ?_)
  subst hG
  have hI := hI0.trans hE
  clear hI0 hla
  unfold f_X4_has
  refine xg_pick [0, 1] (l' := [(0, .ref (xm_ad (xx_G X) 29)), (1, .int (xm_J x1))]) rfl ?_
  refine xg_iload_n hC dX4_has_0 rfl ?_
  refine xg_callSN hC (w_X10_isPersonNumber hI σ x1 h1) xl_N_X4_76 xl_S_X10_isPersonNumber (by decide) ⟨by decide, by decide⟩ dX4_has_1 (rest := []) rfl rfl (Nat.le_of_ble_eq_true rfl) rfl rfl (st2 := fun o => .int (xm_J o.2) :: []) (fun _ => rfl) (fun o1 k2 => ?_)
  refine xg_if_eq hC (xm_in01 k2) 24 dX4_has_4 rfl (fun c3 => ?_) (fun c4 => ?_)
  · refine xg_iconst hC dX4_has_24 ?_
    exact xg_zret hC hQ (by decide) dX4_has_25
  refine xg_aload_n hC dX4_has_7 rfl ?_
  refine xg_getL hC (xm_hK hI rfl) rfl xl_F_X4_40 dX4_has_8 ?_
  refine xg_lconst hC dX4_has_11 (v := 1) rfl ?_
  refine xg_iload_n hC dX4_has_12 rfl ?_
  refine xg_lshl hC dX4_has_13 ?_
  refine xg_land hC dX4_has_14 ?_
  refine xg_lconst hC dX4_has_15 (v := 0) rfl ?_
  refine xg_lcmp hC dX4_has_16 ?_
  refine xg_if_eq hC (xm_lc_in _ _) 24 dX4_has_17 rfl (fun c6 => ?_) (fun c7 => ?_)
  · refine xg_iconst hC dX4_has_24 ?_
    exact xg_zret hC hQ (by decide) dX4_has_25
  refine xg_iconst hC dX4_has_20 ?_
  refine xg_goto hC 25 dX4_has_21 rfl ?_
  exact xg_zret hC hQ (by decide) dX4_has_25
theorem w_X4_eldestSonWithLine_b2 {X : xm_X} (hC : xm_C X yX4_eldestSonWithLine.cls cX4_eldestSonWithLine 4 3 0 0) (hQ : xm_Rt X 1 (some .int) 0 0) (hI : xx_I X = xm_I)   {self : xm_Mem → Int → Int → Option xm_Out} (hself : ∀ (σ : xm_Mem) (x1 : Int) (x2 : Int), xm_in x1 → xm_in x2 → xm_V X 0 0 (self σ x1 x2) σ 2 [(0, .ref (xm_ad (xx_G X) 29)), (1, .int (xm_J x1)), (2, .int (xm_J x2))] []) (σ : xm_Mem) (x1 : Int) (x2 : Int) (h1 : xm_in x1) (h2 : xm_in x2) : xm_V X 0 0 (f_X4_eldestSonWithLine_b2  self σ x1 x2) σ 2 [(0, .ref (xm_ad (xx_G X) 29)), (1, .int (xm_J x1)), (2, .int (xm_J x2))] [] := by
  unfold f_X4_eldestSonWithLine_b2
  refine xg_iload_n hC dX4_eldestSonWithLine_2 rfl ?_
  refine xg_aload_n hC dX4_eldestSonWithLine_3 rfl ?_
  refine xg_getW hC (b := 23) (xm_hK hI rfl) rfl (xm_wK hI rfl) (by decide) xl_F_X4_54 dX4_eldestSonWithLine_4 ?_
  refine xg_iload_n hC dX4_eldestSonWithLine_7 rfl ?_
  refine xg_callV hC (ci := 1) (w_X2_kidCount hI σ x1 h1) xl_M_X4_91 xl_V_X2_kidCount (xm_hK (a := 23) (kd := 0) (n := 1) hI rfl).2 ((xm_hK (a := 23) (kd := 0) (n := 1) hI rfl).1 _) (by decide) rfl (by decide) ⟨by decide, by decide⟩ dX4_eldestSonWithLine_8 (rest := [.int (xm_J x2)]) rfl rfl (Nat.le_of_ble_eq_true rfl) rfl rfl (st2 := fun o => .int (xm_J o.2) :: [.int (xm_J x2)]) (fun _ => rfl) (fun o1 k2 => ?_)
  refine xg_icmp_ge hC h2 k2 61 dX4_eldestSonWithLine_11 rfl (fun c3 => ?_) (fun c4 => ?_)
  · refine xg_aload_n hC dX4_eldestSonWithLine_14 rfl ?_
    refine xg_getW hC (b := 23) (xm_hK hI rfl) rfl (xm_wK hI rfl) (by decide) xl_F_X4_54 dX4_eldestSonWithLine_15 ?_
    refine xg_iload_n hC dX4_eldestSonWithLine_18 rfl ?_
    refine xg_iload_n hC dX4_eldestSonWithLine_19 rfl ?_
    refine xg_callV hC (ci := 1) (w_X2_kid hI o1.1 x1 x2 h1 h2) xl_M_X4_94 xl_V_X2_kid (xm_hK (a := 23) (kd := 0) (n := 1) hI rfl).2 ((xm_hK (a := 23) (kd := 0) (n := 1) hI rfl).1 _) (by decide) rfl (by decide) ⟨by decide, by decide⟩ dX4_eldestSonWithLine_20 (rest := []) rfl rfl (Nat.le_of_ble_eq_true rfl) rfl rfl (st2 := fun o => .int (xm_J o.2) :: []) (fun _ => rfl) (fun o5 k6 => ?_)
    refine xg_istore_n hC (l' := [(3, .int (xm_J o5.2)), (0, .ref (xm_ad (xx_G X) 29)), (1, .int (xm_J x1)), (2, .int (xm_J x2))]) dX4_eldestSonWithLine_23 (by decide) rfl ?_
    refine xg_aload_n hC dX4_eldestSonWithLine_24 rfl ?_
    refine xg_getW hC (b := 9) (xm_hK hI rfl) rfl (xm_wK hI rfl) (by decide) xl_F_X4_50 dX4_eldestSonWithLine_25 ?_
    refine xg_iload_n hC dX4_eldestSonWithLine_28 rfl ?_
    refine xg_callV hC (ci := 4) (w_X5_isMale hI o5.1 o5.2 k6) xl_M_X4_72 xl_V_X5_isMale (xm_hK (a := 9) (kd := 0) (n := 4) hI rfl).2 ((xm_hK (a := 9) (kd := 0) (n := 4) hI rfl).1 _) (by decide) rfl (by decide) ⟨by decide, by decide⟩ dX4_eldestSonWithLine_29 (rest := []) rfl rfl (Nat.le_of_ble_eq_true rfl) rfl rfl (st2 := fun o => .int (xm_J o.2) :: []) (fun _ => rfl) (fun o7 k8 => ?_)
    refine xg_if_eq hC (xm_in01 k8) 55 dX4_eldestSonWithLine_32 rfl (fun c9 => ?_) (fun c10 => ?_)
    · refine xg_iinc hC (l' := [(2, .int (xm_J (xm_w (x2 + 1)))), (3, .int (xm_J o5.2)), (0, .ref (xm_ad (xx_G X) 29)), (1, .int (xm_J x1))]) dX4_eldestSonWithLine_55 (by decide) 3 rfl rfl ?_
      refine xg_goto hC 2 dX4_eldestSonWithLine_58 rfl ?_
      exact xg_pick [2, 3, 0] rfl (hself o7.1 x1 (xm_w (x2 + 1)) h1 (xm_w_in _))
    refine xg_aload_n hC dX4_eldestSonWithLine_35 rfl ?_
    refine xg_getW hC (b := 23) (xm_hK hI rfl) rfl (xm_wK hI rfl) (by decide) xl_F_X4_54 dX4_eldestSonWithLine_36 ?_
    refine xg_iload_n hC dX4_eldestSonWithLine_39 rfl ?_
    refine xg_callV hC (ci := 1) (w_X2_body hI o7.1 o5.2 k6) xl_M_X4_111 xl_V_X2_body (xm_hK (a := 23) (kd := 0) (n := 1) hI rfl).2 ((xm_hK (a := 23) (kd := 0) (n := 1) hI rfl).1 _) (by decide) rfl (by decide) ⟨by decide, by decide⟩ dX4_eldestSonWithLine_40 (rest := []) rfl rfl (Nat.le_of_ble_eq_true rfl) rfl rfl (st2 := fun o => .long (Int64.ofInt o.2) :: []) (fun _ => rfl) (fun o11 k12 => ?_)
    refine xg_aload_n hC dX4_eldestSonWithLine_43 rfl ?_
    refine xg_getL hC (xm_hK hI rfl) rfl xl_F_X4_40 dX4_eldestSonWithLine_44 ?_
    refine xg_land hC dX4_eldestSonWithLine_47 ?_
    refine xg_lconst hC dX4_eldestSonWithLine_48 (v := 0) rfl ?_
    refine xg_lcmp hC dX4_eldestSonWithLine_49 ?_
    refine xg_if_eq hC (xm_lc_in _ _) 55 dX4_eldestSonWithLine_50 rfl (fun c14 => ?_) (fun c15 => ?_)
    · refine xg_iinc hC (l' := [(2, .int (xm_J (xm_w (x2 + 1)))), (3, .int (xm_J o5.2)), (0, .ref (xm_ad (xx_G X) 29)), (1, .int (xm_J x1))]) dX4_eldestSonWithLine_55 (by decide) 3 rfl rfl ?_
      refine xg_goto hC 2 dX4_eldestSonWithLine_58 rfl ?_
      exact xg_pick [2, 3, 0] rfl (hself o11.1 x1 (xm_w (x2 + 1)) h1 (xm_w_in _))
    refine xg_iload_n hC dX4_eldestSonWithLine_53 rfl ?_
    exact xg_iret hC hQ k6 dX4_eldestSonWithLine_54
  refine xg_iconst hC dX4_eldestSonWithLine_61 ?_
  exact xg_iret hC hQ (xm_inc _ rfl) dX4_eldestSonWithLine_62
theorem w_X4_eldestSonWithLine_l2 {X : xm_X} (hC : xm_C X yX4_eldestSonWithLine.cls cX4_eldestSonWithLine 4 3 0 0) (hQ : xm_Rt X 1 (some .int) 0 0) (hI : xx_I X = xm_I)   (n : Nat) : ∀ (σ : xm_Mem) (x1 : Int) (x2 : Int), xm_in x1 → xm_in x2 → xm_V X 0 0 (f_X4_eldestSonWithLine_l2  n σ x1 x2) σ 2 [(0, .ref (xm_ad (xx_G X) 29)), (1, .int (xm_J x1)), (2, .int (xm_J x2))] [] := by
  induction n with
  | zero => intro σ x1 x2 h1 h2; exact xg_none
  | succ n ih => intro σ x1 x2 h1 h2; exact w_X4_eldestSonWithLine_b2 hC hQ hI ih σ x1 x2 h1 h2
theorem w_X4_eldestSonWithLine {Γ : xm_Gm} {I : xm_Mem → Prop} {la : Launch} (hE : I = xm_I) (σ : xm_Mem) (x1 : Int) (h1 : xm_in x1) : ∀ o, f_X4_eldestSonWithLine σ x1 = some o → xm_M Γ I la yX4_eldestSonWithLine cX4_eldestSonWithLine 4 (some .int) 3 0 0 [.ref (xm_ad Γ 29), .int (xm_J x1)] σ 1 o := by
  refine xg_enter (by decide) (by simp [lg_sl, xm_rf_cat, xm_cati, xm_catr, xm_catl]) (fun X hG hI0 hla hC hQ hname => ?_)
  subst hG
  have hI := hI0.trans hE
  clear hI0 hla
  unfold f_X4_eldestSonWithLine
  refine xg_pick [0, 1] (l' := [(0, .ref (xm_ad (xx_G X) 29)), (1, .int (xm_J x1))]) rfl ?_
  refine xg_iconst hC dX4_eldestSonWithLine_0 ?_
  refine xg_istore_n hC (l' := [(2, .int (xm_J (0 : Int))), (0, .ref (xm_ad (xx_G X) 29)), (1, .int (xm_J x1))]) dX4_eldestSonWithLine_1 (by decide) rfl ?_
  exact xg_pick [1, 2, 0] rfl (w_X4_eldestSonWithLine_l2 hC hQ hI _ σ x1 (0 : Int) h1 (xm_inc _ rfl))
theorem w_X4_firstOf_b2 {X : xm_X} (hC : xm_C X yX4_firstOf.cls cX4_firstOf 4 1 0 0) (hQ : xm_Rt X 1 (some .int) 0 0) (hI : xx_I X = xm_I) {K25 : xm_Mem → Int → Option xm_Out} (hK25 : ∀ (σ : xm_Mem) (x3 : Int), xm_in x3 → xm_V X 0 0 (K25 σ x3) σ 25 [(0, .ref (xm_ad (xx_G X) 29)), (3, .int (xm_J x3))] []) {self : xm_Mem → Int64 → Int → Option xm_Out} (hself : ∀ (σ : xm_Mem) (x1 : Int64) (x3 : Int), xm_in x3 → xm_V X 0 0 (self σ x1 x3) σ 2 [(0, .ref (xm_ad (xx_G X) 29)), (1, .long x1), (3, .int (xm_J x3))] []) (σ : xm_Mem) (x1 : Int64) (x3 : Int) (h3 : xm_in x3) : xm_V X 0 0 (f_X4_firstOf_b2 K25 self σ x1 x3) σ 2 [(0, .ref (xm_ad (xx_G X) 29)), (1, .long x1), (3, .int (xm_J x3))] [] := by
  unfold f_X4_firstOf_b2
  refine xg_iload_n hC dX4_firstOf_2 rfl ?_
  refine xg_aload_n hC dX4_firstOf_3 rfl ?_
  refine xg_getI hC (xm_hK hI rfl) rfl xl_F_X4_37 dX4_firstOf_4 (fun k1 => ?_)
  refine xg_icmp_ge hC h3 k1 38 dX4_firstOf_7 rfl (fun c2 => ?_) (fun c3 => ?_)
  · refine xg_lload_n hC dX4_firstOf_10 rfl ?_
    refine xg_lconst hC dX4_firstOf_11 (v := 1) rfl ?_
    refine xg_aload_n hC dX4_firstOf_12 rfl ?_
    refine xg_getW hC (b := 33) (xm_hK hI rfl) rfl (xm_wK hI rfl) (by decide) xl_F_X4_34 dX4_firstOf_13 ?_
    refine xg_iload_n hC dX4_firstOf_16 rfl ?_
    refine xg_iald hC (xm_hK hI rfl) rfl h3 dX4_firstOf_17 (fun b4 k5 => ?_)
    refine xg_lshl hC dX4_firstOf_18 ?_
    refine xg_land hC dX4_firstOf_19 ?_
    refine xg_lconst hC dX4_firstOf_20 (v := 0) rfl ?_
    refine xg_lcmp hC dX4_firstOf_21 ?_
    refine xg_if_eq hC (xm_lc_in _ _) 32 dX4_firstOf_22 rfl (fun c6 => ?_) (fun c7 => ?_)
    · refine xg_iinc hC (l' := [(3, .int (xm_J (xm_w (x3 + 1)))), (0, .ref (xm_ad (xx_G X) 29)), (1, .long x1)]) dX4_firstOf_32 (by decide) 2 rfl rfl ?_
      refine xg_goto hC 2 dX4_firstOf_35 rfl ?_
      exact xg_pick [1, 2, 0] rfl (hself σ x1 (xm_w (x3 + 1)) (xm_w_in _))
    exact xg_pick [0, 2] rfl (hK25 σ x3 h3)
  refine xg_iconst hC dX4_firstOf_38 ?_
  exact xg_iret hC hQ (xm_inc _ rfl) dX4_firstOf_39
theorem w_X4_firstOf_l2 {X : xm_X} (hC : xm_C X yX4_firstOf.cls cX4_firstOf 4 1 0 0) (hQ : xm_Rt X 1 (some .int) 0 0) (hI : xx_I X = xm_I) {K25 : xm_Mem → Int → Option xm_Out} (hK25 : ∀ (σ : xm_Mem) (x3 : Int), xm_in x3 → xm_V X 0 0 (K25 σ x3) σ 25 [(0, .ref (xm_ad (xx_G X) 29)), (3, .int (xm_J x3))] []) (n : Nat) : ∀ (σ : xm_Mem) (x1 : Int64) (x3 : Int), xm_in x3 → xm_V X 0 0 (f_X4_firstOf_l2 K25 n σ x1 x3) σ 2 [(0, .ref (xm_ad (xx_G X) 29)), (1, .long x1), (3, .int (xm_J x3))] [] := by
  induction n with
  | zero => intro σ x1 x3 h3; exact xg_none
  | succ n ih => intro σ x1 x3 h3; exact w_X4_firstOf_b2 hC hQ hI hK25 ih σ x1 x3 h3
theorem w_X4_firstOf {Γ : xm_Gm} {I : xm_Mem → Prop} {la : Launch} (hE : I = xm_I) (σ : xm_Mem) (x1 : Int64)  : ∀ o, f_X4_firstOf σ x1 = some o → xm_M Γ I la yX4_firstOf cX4_firstOf 4 (some .int) 1 0 0 [.ref (xm_ad Γ 29), .long x1] σ 1 o := by
  refine xg_enter (by decide) (by simp [lg_sl, xm_rf_cat, xm_cati, xm_catr, xm_catl]) (fun X hG hI0 hla hC hQ hname => ?_)
  subst hG
  have hI := hI0.trans hE
  clear hI0 hla
  unfold f_X4_firstOf
  refine xg_pick [0, 1] (l' := [(0, .ref (xm_ad (xx_G X) 29)), (1, .long x1)]) rfl ?_
  refine xg_iconst hC dX4_firstOf_0 ?_
  refine xg_istore_n hC (l' := [(3, .int (xm_J (0 : Int))), (0, .ref (xm_ad (xx_G X) 29)), (1, .long x1)]) dX4_firstOf_1 (by decide) rfl ?_
  refine xg_pick [1, 2, 0] rfl (w_X4_firstOf_l2 hC hQ hI ?_ _ σ x1 (0 : Int) (xm_inc _ rfl))
  intro σ_8 x3_8 h3_8
  refine xg_aload_n hC dX4_firstOf_25 rfl ?_
  refine xg_getW hC (b := 33) (xm_hK hI rfl) rfl (xm_wK hI rfl) (by decide) xl_F_X4_34 dX4_firstOf_26 ?_
  refine xg_iload_n hC dX4_firstOf_29 rfl ?_
  refine xg_iald hC (xm_hK hI rfl) rfl h3_8 dX4_firstOf_30 (fun b9 k10 => ?_)
  exact xg_iret hC hQ k10 dX4_firstOf_31
theorem w_X4_soleDaughterWithLine_b13 {X : xm_X} (hC : xm_C X yX4_soleDaughterWithLine.cls cX4_soleDaughterWithLine 9 3 0 0) (hQ : xm_Rt X 1 (some .int) 0 0) (hI : xx_I X = xm_I) {K135 : xm_Mem → Int → Option xm_Out} (hK135 : ∀ (σ : xm_Mem) (x4 : Int), xm_in x4 → xm_V X 0 0 (K135 σ x4) σ 135 [(0, .ref (xm_ad (xx_G X) 29)), (4, .int (xm_J x4))] []) {self : xm_Mem → Int → Int64 → Int → Int → Option xm_Out} (hself : ∀ (σ : xm_Mem) (x1 : Int) (x2 : Int64) (x4 : Int) (x5 : Int), xm_in x1 → xm_in x4 → xm_in x5 → xm_V X 0 0 (self σ x1 x2 x4 x5) σ 13 [(0, .ref (xm_ad (xx_G X) 29)), (1, .int (xm_J x1)), (2, .long x2), (4, .int (xm_J x4)), (5, .int (xm_J x5))] []) (σ : xm_Mem) (x1 : Int) (x2 : Int64) (x4 : Int) (x5 : Int) (h1 : xm_in x1) (h4 : xm_in x4) (h5 : xm_in x5) : xm_V X 0 0 (f_X4_soleDaughterWithLine_b13 K135 self σ x1 x2 x4 x5) σ 13 [(0, .ref (xm_ad (xx_G X) 29)), (1, .int (xm_J x1)), (2, .long x2), (4, .int (xm_J x4)), (5, .int (xm_J x5))] [] := by
  unfold f_X4_soleDaughterWithLine_b13
  refine xg_iload hC dX4_soleDaughterWithLine_13 rfl ?_
  refine xg_aload_n hC dX4_soleDaughterWithLine_15 rfl ?_
  refine xg_getW hC (b := 23) (xm_hK hI rfl) rfl (xm_wK hI rfl) (by decide) xl_F_X4_54 dX4_soleDaughterWithLine_16 ?_
  refine xg_iload_n hC dX4_soleDaughterWithLine_19 rfl ?_
  refine xg_callV hC (ci := 1) (w_X2_kidCount hI σ x1 h1) xl_M_X4_91 xl_V_X2_kidCount (xm_hK (a := 23) (kd := 0) (n := 1) hI rfl).2 ((xm_hK (a := 23) (kd := 0) (n := 1) hI rfl).1 _) (by decide) rfl (by decide) ⟨by decide, by decide⟩ dX4_soleDaughterWithLine_20 (rest := [.int (xm_J x5)]) rfl rfl (Nat.le_of_ble_eq_true rfl) rfl rfl (st2 := fun o => .int (xm_J o.2) :: [.int (xm_J x5)]) (fun _ => rfl) (fun o2 k3 => ?_)
  refine xg_icmp_ge hC h5 k3 135 dX4_soleDaughterWithLine_23 rfl (fun c4 => ?_) (fun c5 => ?_)
  · refine xg_aload_n hC dX4_soleDaughterWithLine_26 rfl ?_
    refine xg_getW hC (b := 23) (xm_hK hI rfl) rfl (xm_wK hI rfl) (by decide) xl_F_X4_54 dX4_soleDaughterWithLine_27 ?_
    refine xg_iload_n hC dX4_soleDaughterWithLine_30 rfl ?_
    refine xg_iload hC dX4_soleDaughterWithLine_31 rfl ?_
    refine xg_callV hC (ci := 1) (w_X2_kid hI o2.1 x1 x5 h1 h5) xl_M_X4_94 xl_V_X2_kid (xm_hK (a := 23) (kd := 0) (n := 1) hI rfl).2 ((xm_hK (a := 23) (kd := 0) (n := 1) hI rfl).1 _) (by decide) rfl (by decide) ⟨by decide, by decide⟩ dX4_soleDaughterWithLine_33 (rest := []) rfl rfl (Nat.le_of_ble_eq_true rfl) rfl rfl (st2 := fun o => .int (xm_J o.2) :: []) (fun _ => rfl) (fun o6 k7 => ?_)
    refine xg_istore hC (l' := [(6, .int (xm_J o6.2)), (0, .ref (xm_ad (xx_G X) 29)), (1, .int (xm_J x1)), (2, .long x2), (4, .int (xm_J x4)), (5, .int (xm_J x5))]) dX4_soleDaughterWithLine_36 (by decide) rfl ?_
    refine xg_aload_n hC dX4_soleDaughterWithLine_38 rfl ?_
    refine xg_getW hC (b := 23) (xm_hK hI rfl) rfl (xm_wK hI rfl) (by decide) xl_F_X4_54 dX4_soleDaughterWithLine_39 ?_
    refine xg_iload hC dX4_soleDaughterWithLine_42 rfl ?_
    refine xg_callV hC (ci := 1) (w_X2_body hI o6.1 o6.2 k7) xl_M_X4_111 xl_V_X2_body (xm_hK (a := 23) (kd := 0) (n := 1) hI rfl).2 ((xm_hK (a := 23) (kd := 0) (n := 1) hI rfl).1 _) (by decide) rfl (by decide) ⟨by decide, by decide⟩ dX4_soleDaughterWithLine_44 (rest := []) rfl rfl (Nat.le_of_ble_eq_true rfl) rfl rfl (st2 := fun o => .long (Int64.ofInt o.2) :: []) (fun _ => rfl) (fun o8 k9 => ?_)
    refine xg_aload_n hC dX4_soleDaughterWithLine_47 rfl ?_
    refine xg_getL hC (xm_hK hI rfl) rfl xl_F_X4_40 dX4_soleDaughterWithLine_48 ?_
    refine xg_land hC dX4_soleDaughterWithLine_51 ?_
    refine xg_lload_n hC dX4_soleDaughterWithLine_52 rfl ?_
    refine xg_ldc2 hC dX4_soleDaughterWithLine_53 xl_C_X4_114 ?_
    refine xg_lxor hC dX4_soleDaughterWithLine_56 ?_
    refine xg_land hC dX4_soleDaughterWithLine_57 ?_
    refine xg_vJ (fun v11 => ?_)
    refine xg_lstore hC (l' := [(7, .long v11), (6, .int (xm_J o6.2)), (0, .ref (xm_ad (xx_G X) 29)), (1, .int (xm_J x1)), (2, .long x2), (4, .int (xm_J x4)), (5, .int (xm_J x5))]) dX4_soleDaughterWithLine_58 (by decide) rfl ?_
    refine xg_aload_n hC dX4_soleDaughterWithLine_60 rfl ?_
    refine xg_getW hC (b := 9) (xm_hK hI rfl) rfl (xm_wK hI rfl) (by decide) xl_F_X4_50 dX4_soleDaughterWithLine_61 ?_
    refine xg_iload hC dX4_soleDaughterWithLine_64 rfl ?_
    refine xg_callV hC (ci := 4) (w_X5_isMale hI o8.1 o6.2 k7) xl_M_X4_72 xl_V_X5_isMale (xm_hK (a := 9) (kd := 0) (n := 4) hI rfl).2 ((xm_hK (a := 9) (kd := 0) (n := 4) hI rfl).1 _) (by decide) rfl (by decide) ⟨by decide, by decide⟩ dX4_soleDaughterWithLine_66 (rest := []) rfl rfl (Nat.le_of_ble_eq_true rfl) rfl rfl (st2 := fun o => .int (xm_J o.2) :: []) (fun _ => rfl) (fun o12 k13 => ?_)
    refine xg_if_ne hC (xm_in01 k13) 129 dX4_soleDaughterWithLine_69 rfl (fun c14 => ?_) (fun c15 => ?_)
    · refine xg_lload hC dX4_soleDaughterWithLine_72 rfl ?_
      refine xg_lconst hC dX4_soleDaughterWithLine_74 (v := 0) rfl ?_
      refine xg_lcmp hC dX4_soleDaughterWithLine_75 ?_
      refine xg_if_eq hC (xm_lc_in _ _) 129 dX4_soleDaughterWithLine_76 rfl (fun c16 => ?_) (fun c17 => ?_)
      · refine xg_iinc hC (l' := [(5, .int (xm_J (xm_w (x5 + 1)))), (7, .long v11), (6, .int (xm_J o6.2)), (0, .ref (xm_ad (xx_G X) 29)), (1, .int (xm_J x1)), (2, .long x2), (4, .int (xm_J x4))]) dX4_soleDaughterWithLine_129 (by decide) 6 rfl rfl ?_
        refine xg_goto hC 13 dX4_soleDaughterWithLine_132 rfl ?_
        exact xg_pick [3, 4, 5, 6, 0] rfl (hself o12.1 x1 x2 x4 (xm_w (x5 + 1)) h1 h4 (xm_w_in _))
      refine xg_aload_n hC dX4_soleDaughterWithLine_79 rfl ?_
      refine xg_getI hC (xm_hK hI rfl) rfl xl_F_X4_47 dX4_soleDaughterWithLine_80 (fun k18 => ?_)
      refine xg_bipush hC dX4_soleDaughterWithLine_83 (by decide) ?_
      refine xg_icmp_lt hC k18 (xm_inc _ rfl) 91 dX4_soleDaughterWithLine_85 rfl (fun c19 => ?_) (fun c20 => ?_)
      · refine xg_aload_n hC dX4_soleDaughterWithLine_91 rfl ?_
        refine xg_getW hC (b := 34) (xm_hK hI rfl) rfl (xm_wK hI rfl) (by decide) xl_F_X4_44 dX4_soleDaughterWithLine_92 ?_
        refine xg_aload_n hC dX4_soleDaughterWithLine_95 rfl ?_
        refine xg_dup hC dX4_soleDaughterWithLine_96 rfl ?_
        refine xg_getI hC (xm_hK hI rfl) rfl xl_F_X4_47 dX4_soleDaughterWithLine_97 (fun k21 => ?_)
        refine xg_vI k21 (fun v22 k23 => ?_)
        refine xg_dup_x1 hC dX4_soleDaughterWithLine_100 rfl rfl ?_
        refine xg_iconst hC dX4_soleDaughterWithLine_101 ?_
        refine xg_iadd hC dX4_soleDaughterWithLine_102 ?_
        refine xg_putI hC (xm_hK hI rfl) rfl rfl (xm_w_in _) (xm_kpK hI rfl) xl_F_X4_47 dX4_soleDaughterWithLine_103 ?_
        refine xg_st (fun σ24 => ?_)
        refine xg_aload_n hC dX4_soleDaughterWithLine_106 rfl ?_
        refine xg_lload hC dX4_soleDaughterWithLine_107 rfl ?_
        refine xg_callV hC (ci := 3) (w_X4_firstOf hI σ24 v11) xl_M_X4_116 xl_V_X4_firstOf (xm_hK (a := 29) (kd := 0) (n := 3) hI rfl).2 ((xm_hK (a := 29) (kd := 0) (n := 3) hI rfl).1 _) (by decide) rfl (by decide) ⟨by decide, by decide⟩ dX4_soleDaughterWithLine_109 (rest := [.int (xm_J v22), .ref (xm_ad (xx_G X) 34)]) rfl rfl (Nat.le_of_ble_eq_true rfl) rfl rfl (st2 := fun o => .int (xm_J o.2) :: [.int (xm_J v22), .ref (xm_ad (xx_G X) 34)]) (fun _ => rfl) (fun o25 k26 => ?_)
        refine xg_iast hC (xm_hK hI rfl) rfl k23 k26 (xm_kpF hI rfl) dX4_soleDaughterWithLine_112 ?_
        refine xg_st (fun σ27 => ?_)
        refine xg_lload_n hC dX4_soleDaughterWithLine_113 rfl ?_
        refine xg_aload_n hC dX4_soleDaughterWithLine_114 rfl ?_
        refine xg_getW hC (b := 23) (xm_hK hI rfl) rfl (xm_wK hI rfl) (by decide) xl_F_X4_54 dX4_soleDaughterWithLine_115 ?_
        refine xg_iload hC dX4_soleDaughterWithLine_118 rfl ?_
        refine xg_callV hC (ci := 1) (w_X2_body hI σ27 o6.2 k7) xl_M_X4_111 xl_V_X2_body (xm_hK (a := 23) (kd := 0) (n := 1) hI rfl).2 ((xm_hK (a := 23) (kd := 0) (n := 1) hI rfl).1 _) (by decide) rfl (by decide) ⟨by decide, by decide⟩ dX4_soleDaughterWithLine_120 (rest := [.long x2]) rfl rfl (Nat.le_of_ble_eq_true rfl) rfl rfl (st2 := fun o => .long (Int64.ofInt o.2) :: [.long x2]) (fun _ => rfl) (fun o28 k29 => ?_)
        refine xg_lor hC dX4_soleDaughterWithLine_123 ?_
        refine xg_vJ (fun v30 => ?_)
        refine xg_lstore_n hC (l' := [(2, .long v30), (7, .long v11), (6, .int (xm_J o6.2)), (0, .ref (xm_ad (xx_G X) 29)), (1, .int (xm_J x1)), (4, .int (xm_J x4)), (5, .int (xm_J x5))]) dX4_soleDaughterWithLine_124 (by decide) rfl ?_
        refine xg_iload hC dX4_soleDaughterWithLine_125 rfl ?_
        refine xg_istore hC (l' := [(4, .int (xm_J o6.2)), (2, .long v30), (7, .long v11), (6, .int (xm_J o6.2)), (0, .ref (xm_ad (xx_G X) 29)), (1, .int (xm_J x1)), (5, .int (xm_J x5))]) dX4_soleDaughterWithLine_127 (by decide) rfl ?_
        refine xg_iinc hC (l' := [(5, .int (xm_J (xm_w (x5 + 1)))), (4, .int (xm_J o6.2)), (2, .long v30), (7, .long v11), (6, .int (xm_J o6.2)), (0, .ref (xm_ad (xx_G X) 29)), (1, .int (xm_J x1))]) dX4_soleDaughterWithLine_129 (by decide) 6 rfl rfl ?_
        refine xg_goto hC 13 dX4_soleDaughterWithLine_132 rfl ?_
        exact xg_pick [5, 6, 2, 1, 0] rfl (hself o28.1 x1 v30 o6.2 (xm_w (x5 + 1)) h1 k7 (xm_w_in _))
      refine xg_goto hC 129 dX4_soleDaughterWithLine_88 rfl ?_
      refine xg_iinc hC (l' := [(5, .int (xm_J (xm_w (x5 + 1)))), (7, .long v11), (6, .int (xm_J o6.2)), (0, .ref (xm_ad (xx_G X) 29)), (1, .int (xm_J x1)), (2, .long x2), (4, .int (xm_J x4))]) dX4_soleDaughterWithLine_129 (by decide) 6 rfl rfl ?_
      refine xg_goto hC 13 dX4_soleDaughterWithLine_132 rfl ?_
      exact xg_pick [3, 4, 5, 6, 0] rfl (hself o12.1 x1 x2 x4 (xm_w (x5 + 1)) h1 h4 (xm_w_in _))
    refine xg_iinc hC (l' := [(5, .int (xm_J (xm_w (x5 + 1)))), (7, .long v11), (6, .int (xm_J o6.2)), (0, .ref (xm_ad (xx_G X) 29)), (1, .int (xm_J x1)), (2, .long x2), (4, .int (xm_J x4))]) dX4_soleDaughterWithLine_129 (by decide) 6 rfl rfl ?_
    refine xg_goto hC 13 dX4_soleDaughterWithLine_132 rfl ?_
    exact xg_pick [3, 4, 5, 6, 0] rfl (hself o12.1 x1 x2 x4 (xm_w (x5 + 1)) h1 h4 (xm_w_in _))
  exact xg_pick [0, 3] rfl (hK135 o2.1 x4 h4)
theorem w_X4_soleDaughterWithLine_l13 {X : xm_X} (hC : xm_C X yX4_soleDaughterWithLine.cls cX4_soleDaughterWithLine 9 3 0 0) (hQ : xm_Rt X 1 (some .int) 0 0) (hI : xx_I X = xm_I) {K135 : xm_Mem → Int → Option xm_Out} (hK135 : ∀ (σ : xm_Mem) (x4 : Int), xm_in x4 → xm_V X 0 0 (K135 σ x4) σ 135 [(0, .ref (xm_ad (xx_G X) 29)), (4, .int (xm_J x4))] []) (n : Nat) : ∀ (σ : xm_Mem) (x1 : Int) (x2 : Int64) (x4 : Int) (x5 : Int), xm_in x1 → xm_in x4 → xm_in x5 → xm_V X 0 0 (f_X4_soleDaughterWithLine_l13 K135 n σ x1 x2 x4 x5) σ 13 [(0, .ref (xm_ad (xx_G X) 29)), (1, .int (xm_J x1)), (2, .long x2), (4, .int (xm_J x4)), (5, .int (xm_J x5))] [] := by
  induction n with
  | zero => intro σ x1 x2 x4 x5 h1 h4 h5; exact xg_none
  | succ n ih => intro σ x1 x2 x4 x5 h1 h4 h5; exact w_X4_soleDaughterWithLine_b13 hC hQ hI hK135 ih σ x1 x2 x4 x5 h1 h4 h5
theorem w_X4_soleDaughterWithLine {Γ : xm_Gm} {I : xm_Mem → Prop} {la : Launch} (hE : I = xm_I) (σ : xm_Mem) (x1 : Int) (h1 : xm_in x1) : ∀ o, f_X4_soleDaughterWithLine σ x1 = some o → xm_M Γ I la yX4_soleDaughterWithLine cX4_soleDaughterWithLine 9 (some .int) 3 0 0 [.ref (xm_ad Γ 29), .int (xm_J x1)] σ 1 o := by
  refine xg_enter (by decide) (by simp [lg_sl, xm_rf_cat, xm_cati, xm_catr, xm_catl]) (fun X hG hI0 hla hC hQ hname => ?_)
  subst hG
  have hI := hI0.trans hE
  clear hI0 hla
  unfold f_X4_soleDaughterWithLine
  refine xg_pick [0, 1] (l' := [(0, .ref (xm_ad (xx_G X) 29)), (1, .int (xm_J x1))]) rfl ?_
  refine xg_lconst hC dX4_soleDaughterWithLine_0 (v := 0) rfl ?_
  refine xg_lstore_n hC (l' := [(2, .long (0 : Int64)), (0, .ref (xm_ad (xx_G X) 29)), (1, .int (xm_J x1))]) dX4_soleDaughterWithLine_1 (by decide) rfl ?_
  refine xg_iconst hC dX4_soleDaughterWithLine_2 ?_
  refine xg_istore hC (l' := [(4, .int (xm_J (-1 : Int))), (2, .long (0 : Int64)), (0, .ref (xm_ad (xx_G X) 29)), (1, .int (xm_J x1))]) dX4_soleDaughterWithLine_3 (by decide) rfl ?_
  refine xg_aload_n hC dX4_soleDaughterWithLine_5 rfl ?_
  refine xg_iconst hC dX4_soleDaughterWithLine_6 ?_
  refine xg_putI hC (xm_hK hI rfl) rfl rfl (xm_inc _ rfl) (xm_kpK hI rfl) xl_F_X4_47 dX4_soleDaughterWithLine_7 ?_
  refine xg_st (fun σ1 => ?_)
  refine xg_iconst hC dX4_soleDaughterWithLine_10 ?_
  refine xg_istore hC (l' := [(5, .int (xm_J (0 : Int))), (4, .int (xm_J (-1 : Int))), (2, .long (0 : Int64)), (0, .ref (xm_ad (xx_G X) 29)), (1, .int (xm_J x1))]) dX4_soleDaughterWithLine_11 (by decide) rfl ?_
  refine xg_pick [3, 4, 2, 1, 0] rfl (w_X4_soleDaughterWithLine_l13 hC hQ hI ?_ _ σ1 x1 (0 : Int64) (-1 : Int) (0 : Int) h1 (xm_inc _ rfl) (xm_inc _ rfl))
  intro σ_31 x4_31 h4_31
  refine xg_aload_n hC dX4_soleDaughterWithLine_135 rfl ?_
  refine xg_getI hC (xm_hK hI rfl) rfl xl_F_X4_47 dX4_soleDaughterWithLine_136 (fun k32 => ?_)
  refine xg_iconst hC dX4_soleDaughterWithLine_139 ?_
  refine xg_icmp_le hC k32 (xm_inc _ rfl) 145 dX4_soleDaughterWithLine_140 rfl (fun c33 => ?_) (fun c34 => ?_)
  · refine xg_iconst hC dX4_soleDaughterWithLine_143 ?_
    exact xg_iret hC hQ (xm_inc _ rfl) dX4_soleDaughterWithLine_144
  refine xg_aload_n hC dX4_soleDaughterWithLine_145 rfl ?_
  refine xg_iconst hC dX4_soleDaughterWithLine_146 ?_
  refine xg_putI hC (xm_hK hI rfl) rfl rfl (xm_inc _ rfl) (xm_kpK hI rfl) xl_F_X4_47 dX4_soleDaughterWithLine_147 ?_
  refine xg_st (fun σ35 => ?_)
  refine xg_iload hC dX4_soleDaughterWithLine_150 rfl ?_
  exact xg_iret hC hQ h4_31 dX4_soleDaughterWithLine_152
theorem w_X4_stateByWrit_b18 {X : xm_X} (hC : xm_C X yX4_stateByWrit.cls cX4_stateByWrit 5 4 0 0) (hQ : xm_Rt X 1 (some .int) 0 0) (hI : xx_I X = xm_I) {K67 : xm_Mem → Int → Option xm_Out} (hK67 : ∀ (σ : xm_Mem) (x2 : Int), xm_in x2 → xm_V X 0 0 (K67 σ x2) σ 67 [(0, .ref (xm_ad (xx_G X) 29)), (2, .int (xm_J x2))] []) {self : xm_Mem → Int → Int → Option xm_Out} (hself : ∀ (σ : xm_Mem) (x2 : Int) (x3 : Int), xm_in x2 → xm_in x3 → xm_V X 0 0 (self σ x2 x3) σ 18 [(0, .ref (xm_ad (xx_G X) 29)), (2, .int (xm_J x2)), (3, .int (xm_J x3))] []) (σ : xm_Mem) (x2 : Int) (x3 : Int) (h2 : xm_in x2) (h3 : xm_in x3) : xm_V X 0 0 (f_X4_stateByWrit_b18 K67 self σ x2 x3) σ 18 [(0, .ref (xm_ad (xx_G X) 29)), (2, .int (xm_J x2)), (3, .int (xm_J x3))] [] := by
  unfold f_X4_stateByWrit_b18
  refine xg_iload_n hC dX4_stateByWrit_18 rfl ?_
  refine xg_bipush hC dX4_stateByWrit_19 (by decide) ?_
  refine xg_icmp_ge hC h3 (xm_inc _ rfl) 67 dX4_stateByWrit_21 rfl (fun c5 => ?_) (fun c6 => ?_)
  · refine xg_iload_n hC dX4_stateByWrit_24 rfl ?_
    refine xg_iconst hC dX4_stateByWrit_25 ?_
    refine xg_icmp_eq hC h2 (xm_inc _ rfl) 67 dX4_stateByWrit_26 rfl (fun c7 => ?_) (fun c8 => ?_)
    · exact xg_pick [0, 1] rfl (hK67 σ x2 h2)
    refine xg_aload_n hC dX4_stateByWrit_29 rfl ?_
    refine xg_iload_n hC dX4_stateByWrit_30 rfl ?_
    refine xg_callV hC (ci := 3) (w_X4_has hI σ x2 h2) xl_M_X4_102 xl_V_X4_has (xm_hK (a := 29) (kd := 0) (n := 3) hI rfl).2 ((xm_hK (a := 29) (kd := 0) (n := 3) hI rfl).1 _) (by decide) rfl (by decide) ⟨by decide, by decide⟩ dX4_stateByWrit_31 (rest := []) rfl rfl (Nat.le_of_ble_eq_true rfl) rfl rfl (st2 := fun o => .int (xm_J o.2) :: []) (fun _ => rfl) (fun o9 k10 => ?_)
    refine xg_if_ne hC (xm_in01 k10) 67 dX4_stateByWrit_34 rfl (fun c11 => ?_) (fun c12 => ?_)
    · refine xg_aload_n hC dX4_stateByWrit_37 rfl ?_
      refine xg_iload_n hC dX4_stateByWrit_38 rfl ?_
      refine xg_callV hC (ci := 3) (w_X4_eldestSonWithLine hI o9.1 x2 h2) xl_M_X4_105 xl_V_X4_eldestSonWithLine (xm_hK (a := 29) (kd := 0) (n := 3) hI rfl).2 ((xm_hK (a := 29) (kd := 0) (n := 3) hI rfl).1 _) (by decide) rfl (by decide) ⟨by decide, by decide⟩ dX4_stateByWrit_39 (rest := []) rfl rfl (Nat.le_of_ble_eq_true rfl) rfl rfl (st2 := fun o => .int (xm_J o.2) :: []) (fun _ => rfl) (fun o13 k14 => ?_)
      refine xg_istore hC (l' := [(4, .int (xm_J o13.2)), (0, .ref (xm_ad (xx_G X) 29)), (2, .int (xm_J x2)), (3, .int (xm_J x3))]) dX4_stateByWrit_42 (by decide) rfl ?_
      refine xg_iload hC dX4_stateByWrit_44 rfl ?_
      refine xg_iconst hC dX4_stateByWrit_46 ?_
      refine xg_icmp_eq hC k14 (xm_inc _ rfl) 55 dX4_stateByWrit_47 rfl (fun c15 => ?_) (fun c16 => ?_)
      · refine xg_aload_n hC dX4_stateByWrit_55 rfl ?_
        refine xg_iload_n hC dX4_stateByWrit_56 rfl ?_
        refine xg_callV hC (ci := 3) (w_X4_soleDaughterWithLine hI o13.1 x2 h2) xl_M_X4_108 xl_V_X4_soleDaughterWithLine (xm_hK (a := 29) (kd := 0) (n := 3) hI rfl).2 ((xm_hK (a := 29) (kd := 0) (n := 3) hI rfl).1 _) (by decide) rfl (by decide) ⟨by decide, by decide⟩ dX4_stateByWrit_57 (rest := []) rfl rfl (Nat.le_of_ble_eq_true rfl) rfl rfl (st2 := fun o => .int (xm_J o.2) :: []) (fun _ => rfl) (fun o17 k18 => ?_)
        refine xg_istore_n hC (l' := [(2, .int (xm_J o17.2)), (4, .int (xm_J o13.2)), (0, .ref (xm_ad (xx_G X) 29)), (3, .int (xm_J x3))]) dX4_stateByWrit_60 (by decide) rfl ?_
        refine xg_iinc hC (l' := [(3, .int (xm_J (xm_w (x3 + 1)))), (2, .int (xm_J o17.2)), (4, .int (xm_J o13.2)), (0, .ref (xm_ad (xx_G X) 29))]) dX4_stateByWrit_61 (by decide) 3 rfl rfl ?_
        refine xg_goto hC 18 dX4_stateByWrit_64 rfl ?_
        exact xg_pick [3, 1, 0] rfl (hself o17.1 o17.2 (xm_w (x3 + 1)) k18 (xm_w_in _))
      refine xg_iload hC dX4_stateByWrit_50 rfl ?_
      refine xg_goto hC 60 dX4_stateByWrit_52 rfl ?_
      refine xg_istore_n hC (l' := [(2, .int (xm_J o13.2)), (4, .int (xm_J o13.2)), (0, .ref (xm_ad (xx_G X) 29)), (3, .int (xm_J x3))]) dX4_stateByWrit_60 (by decide) rfl ?_
      refine xg_iinc hC (l' := [(3, .int (xm_J (xm_w (x3 + 1)))), (2, .int (xm_J o13.2)), (4, .int (xm_J o13.2)), (0, .ref (xm_ad (xx_G X) 29))]) dX4_stateByWrit_61 (by decide) 3 rfl rfl ?_
      refine xg_goto hC 18 dX4_stateByWrit_64 rfl ?_
      exact xg_pick [3, 1, 0] rfl (hself o13.1 o13.2 (xm_w (x3 + 1)) k14 (xm_w_in _))
    exact xg_pick [0, 1] rfl (hK67 o9.1 x2 h2)
  exact xg_pick [0, 1] rfl (hK67 σ x2 h2)
theorem w_X4_stateByWrit_l18 {X : xm_X} (hC : xm_C X yX4_stateByWrit.cls cX4_stateByWrit 5 4 0 0) (hQ : xm_Rt X 1 (some .int) 0 0) (hI : xx_I X = xm_I) {K67 : xm_Mem → Int → Option xm_Out} (hK67 : ∀ (σ : xm_Mem) (x2 : Int), xm_in x2 → xm_V X 0 0 (K67 σ x2) σ 67 [(0, .ref (xm_ad (xx_G X) 29)), (2, .int (xm_J x2))] []) (n : Nat) : ∀ (σ : xm_Mem) (x2 : Int) (x3 : Int), xm_in x2 → xm_in x3 → xm_V X 0 0 (f_X4_stateByWrit_l18 K67 n σ x2 x3) σ 18 [(0, .ref (xm_ad (xx_G X) 29)), (2, .int (xm_J x2)), (3, .int (xm_J x3))] [] := by
  induction n with
  | zero => intro σ x2 x3 h2 h3; exact xg_none
  | succ n ih => intro σ x2 x3 h2 h3; exact w_X4_stateByWrit_b18 hC hQ hI hK67 ih σ x2 x3 h2 h3
theorem w_X4_stateByWrit {Γ : xm_Gm} {I : xm_Mem → Prop} {la : Launch} (hE : I = xm_I) (σ : xm_Mem) (x1 : Int) (h1 : xm_in x1) : ∀ o, f_X4_stateByWrit σ x1 = some o → xm_M Γ I la yX4_stateByWrit cX4_stateByWrit 5 (some .int) 4 0 0 [.ref (xm_ad Γ 29), .int (xm_J x1)] σ 1 o := by
  refine xg_enter (by decide) (by simp [lg_sl, xm_rf_cat, xm_cati, xm_catr, xm_catl]) (fun X hG hI0 hla hC hQ hname => ?_)
  subst hG
  have hI := hI0.trans hE
  clear hI0 hla
  unfold f_X4_stateByWrit
  refine xg_pick [0, 1] (l' := [(0, .ref (xm_ad (xx_G X) 29)), (1, .int (xm_J x1))]) rfl ?_
  refine xg_aload_n hC dX4_stateByWrit_0 rfl ?_
  refine xg_iconst hC dX4_stateByWrit_1 ?_
  refine xg_putI hC (xm_hK hI rfl) rfl rfl (xm_inc _ rfl) (xm_kpK hI rfl) xl_F_X4_47 dX4_stateByWrit_2 ?_
  refine xg_st (fun σ1 => ?_)
  refine xg_aload_n hC dX4_stateByWrit_5 rfl ?_
  refine xg_getI hC (xm_hK hI rfl) rfl xl_F_X4_37 dX4_stateByWrit_6 (fun k2 => ?_)
  refine xg_if_ne hC k2 14 dX4_stateByWrit_9 rfl (fun c3 => ?_) (fun c4 => ?_)
  · refine xg_iconst hC dX4_stateByWrit_12 ?_
    exact xg_iret hC hQ (xm_inc _ rfl) dX4_stateByWrit_13
  refine xg_iload_n hC dX4_stateByWrit_14 rfl ?_
  refine xg_istore_n hC (l' := [(2, .int (xm_J x1)), (0, .ref (xm_ad (xx_G X) 29)), (1, .int (xm_J x1))]) dX4_stateByWrit_15 (by decide) rfl ?_
  refine xg_iconst hC dX4_stateByWrit_16 ?_
  refine xg_istore_n hC (l' := [(3, .int (xm_J (0 : Int))), (2, .int (xm_J x1)), (0, .ref (xm_ad (xx_G X) 29)), (1, .int (xm_J x1))]) dX4_stateByWrit_17 (by decide) rfl ?_
  refine xg_pick [2, 1, 0] rfl (w_X4_stateByWrit_l18 hC hQ hI ?_ _ σ1 x1 (0 : Int) h1 (xm_inc _ rfl))
  intro σ_19 x2_19 h2_19
  refine xg_aload_n hC dX4_stateByWrit_67 rfl ?_
  refine xg_getI hC (xm_hK hI rfl) rfl xl_F_X4_47 dX4_stateByWrit_68 (fun k20 => ?_)
  refine xg_iconst hC dX4_stateByWrit_71 ?_
  refine xg_icmp_le hC k20 (xm_inc _ rfl) 80 dX4_stateByWrit_72 rfl (fun c21 => ?_) (fun c22 => ?_)
  · refine xg_bipush hC dX4_stateByWrit_75 (by decide) ?_
    refine xg_goto hC 81 dX4_stateByWrit_77 rfl ?_
    exact xg_iret hC hQ (xm_inc _ rfl) dX4_stateByWrit_81
  refine xg_iload_n hC dX4_stateByWrit_80 rfl ?_
  exact xg_iret hC hQ h2_19 dX4_stateByWrit_81
theorem w_X4_at {Γ : xm_Gm} {I : xm_Mem → Prop} {la : Launch} (hE : I = xm_I) (σ : xm_Mem) (x1 : Int) (h1 : xm_in x1) : ∀ o, f_X4_at σ x1 = some o → xm_M Γ I la yX4_at cX4_at 2 (some .int) 1 0 0 [.ref (xm_ad Γ 29), .int (xm_J x1)] σ 1 o := by
  refine xg_enter (by decide) (by simp [lg_sl, xm_rf_cat, xm_cati, xm_catr, xm_catl]) (fun X hG hI0 hla hC hQ hname => ?_)
  subst hG
  have hI := hI0.trans hE
  clear hI0 hla
  unfold f_X4_at
  refine xg_pick [0, 1] (l' := [(0, .ref (xm_ad (xx_G X) 29)), (1, .int (xm_J x1))]) rfl ?_
  refine xg_iload_n hC dX4_at_0 rfl ?_
  refine xg_if_lt hC h1 21 dX4_at_1 rfl (fun c1 => ?_) (fun c2 => ?_)
  · refine xg_iconst hC dX4_at_21 ?_
    exact xg_iret hC hQ (xm_inc _ rfl) dX4_at_22
  refine xg_iload_n hC dX4_at_4 rfl ?_
  refine xg_aload_n hC dX4_at_5 rfl ?_
  refine xg_getI hC (xm_hK hI rfl) rfl xl_F_X4_37 dX4_at_6 (fun k3 => ?_)
  refine xg_icmp_ge hC h1 k3 21 dX4_at_9 rfl (fun c4 => ?_) (fun c5 => ?_)
  · refine xg_aload_n hC dX4_at_12 rfl ?_
    refine xg_getW hC (b := 33) (xm_hK hI rfl) rfl (xm_wK hI rfl) (by decide) xl_F_X4_34 dX4_at_13 ?_
    refine xg_iload_n hC dX4_at_16 rfl ?_
    refine xg_iald hC (xm_hK hI rfl) rfl h1 dX4_at_17 (fun b6 k7 => ?_)
    refine xg_goto hC 22 dX4_at_18 rfl ?_
    exact xg_iret hC hQ k7 dX4_at_22
  refine xg_iconst hC dX4_at_21 ?_
  exact xg_iret hC hQ (xm_inc _ rfl) dX4_at_22
theorem w_X1_passOn_j69 {X : xm_X} (hC : xm_C X yX1_passOn.cls cX1_passOn 2 5 0 0) (hQ : xm_Rt X 0 none 0 0) (hI : xx_I X = xm_I) {t : Nat} (ht : t < 8)   (σ : xm_Mem)   : xm_V X 0 0 (f_X1_passOn_j69 t  σ) σ 69 [(0, .ref (xm_ad (xx_G X) (xm_cb t)))] [] := by
  unfold f_X1_passOn_j69
  refine xg_aload_n hC dX1_passOn_69 rfl ?_
  refine xg_getW hC (b := 29) (xm_hC hI ht) rfl (xm_w4 hI ht) (by decide) xl_F_X1_65 dX1_passOn_70 ?_
  refine xg_callV hC (ci := 3) (w_X4_size hI σ ) xl_M_X1_140 xl_V_X4_size (xm_hK (a := 29) (kd := 0) (n := 3) hI rfl).2 ((xm_hK (a := 29) (kd := 0) (n := 3) hI rfl).1 _) (by decide) rfl (by decide) ⟨by decide, by decide⟩ dX1_passOn_73 (rest := []) rfl rfl (Nat.le_of_ble_eq_true rfl) rfl rfl (st2 := fun o => .int (xm_J o.2) :: []) (fun _ => rfl) (fun o13 k14 => ?_)
  refine xg_if_ne hC k14 87 dX1_passOn_76 rfl (fun c15 => ?_) (fun c16 => ?_)
  · refine xg_aload_n hC dX1_passOn_79 rfl ?_
    refine xg_iconst hC dX1_passOn_80 ?_
    refine xg_putI hC (xm_hC hI ht) rfl rfl (xm_inc _ rfl) (xm_kpT hI ht (by decide)) xl_F_X1_44 dX1_passOn_81 ?_
    refine xg_st (fun σ17 => ?_)
    refine xg_goto hC 121 dX1_passOn_84 rfl ?_
    exact xg_vret hC hQ dX1_passOn_121
  refine xg_aload_n hC dX1_passOn_87 rfl ?_
  refine xg_aload_n hC dX1_passOn_88 rfl ?_
  refine xg_getI hC (xm_hC hI ht) rfl xl_F_X1_35 dX1_passOn_89 (fun k18 => ?_)
  refine xg_iconst hC dX1_passOn_92 ?_
  refine xg_icmp_ne hC k18 (xm_inc _ rfl) 110 dX1_passOn_93 rfl (fun c19 => ?_) (fun c20 => ?_)
  · refine xg_aload_n hC dX1_passOn_96 rfl ?_
    refine xg_getW hC (b := 29) (xm_hC hI ht) rfl (xm_w4 hI ht) (by decide) xl_F_X1_65 dX1_passOn_97 ?_
    refine xg_aload_n hC dX1_passOn_100 rfl ?_
    refine xg_getI hC (xm_hC hI ht) rfl xl_F_X1_41 dX1_passOn_101 (fun k21 => ?_)
    refine xg_callV hC (ci := 3) (w_X4_stateByWrit hI o13.1 (o13.1.1 (xm_cb t) 14) k21) xl_M_X1_141 xl_V_X4_stateByWrit (xm_hK (a := 29) (kd := 0) (n := 3) hI rfl).2 ((xm_hK (a := 29) (kd := 0) (n := 3) hI rfl).1 _) (by decide) rfl (by decide) ⟨by decide, by decide⟩ dX1_passOn_104 (rest := [.ref (xm_ad (xx_G X) (xm_cb t))]) rfl rfl (Nat.le_of_ble_eq_true rfl) rfl rfl (st2 := fun o => .int (xm_J o.2) :: [.ref (xm_ad (xx_G X) (xm_cb t))]) (fun _ => rfl) (fun o22 k23 => ?_)
    refine xg_goto hC 118 dX1_passOn_107 rfl ?_
    refine xg_putI hC (xm_hC hI ht) rfl rfl k23 (xm_kpT hI ht (by decide)) xl_F_X1_44 dX1_passOn_118 ?_
    refine xg_st (fun σ24 => ?_)
    exact xg_vret hC hQ dX1_passOn_121
  refine xg_aload_n hC dX1_passOn_110 rfl ?_
  refine xg_getW hC (b := 29) (xm_hC hI ht) rfl (xm_w4 hI ht) (by decide) xl_F_X1_65 dX1_passOn_111 ?_
  refine xg_iconst hC dX1_passOn_114 ?_
  refine xg_callV hC (ci := 3) (w_X4_at hI o13.1 (0 : Int) (xm_inc _ rfl)) xl_M_X1_145 xl_V_X4_at (xm_hK (a := 29) (kd := 0) (n := 3) hI rfl).2 ((xm_hK (a := 29) (kd := 0) (n := 3) hI rfl).1 _) (by decide) rfl (by decide) ⟨by decide, by decide⟩ dX1_passOn_115 (rest := [.ref (xm_ad (xx_G X) (xm_cb t))]) rfl rfl (Nat.le_of_ble_eq_true rfl) rfl rfl (st2 := fun o => .int (xm_J o.2) :: [.ref (xm_ad (xx_G X) (xm_cb t))]) (fun _ => rfl) (fun o25 k26 => ?_)
  refine xg_putI hC (xm_hC hI ht) rfl rfl k26 (xm_kpT hI ht (by decide)) xl_F_X1_44 dX1_passOn_118 ?_
  refine xg_st (fun σ27 => ?_)
  exact xg_vret hC hQ dX1_passOn_121
theorem w_X1_passOn {Γ : xm_Gm} {I : xm_Mem → Prop} {la : Launch} (hE : I = xm_I) (σ : xm_Mem) (t : Nat) (x1 : Int) (ht : t < 8) (h1 : xm_in x1) : ∀ o, f_X1_passOn t σ x1 = some o → xm_M Γ I la yX1_passOn cX1_passOn 2 none 5 0 0 [.ref (xm_ad Γ (xm_cb t)), .int (xm_J x1)] σ 0 o := by
  refine xg_enter (by decide) (by simp [lg_sl, xm_rf_cat, xm_cati, xm_catr, xm_catl]) (fun X hG hI0 hla hC hQ hname => ?_)
  subst hG
  have hI := hI0.trans hE
  clear hI0 hla
  unfold f_X1_passOn
  refine xg_pick [0, 1] (l' := [(0, .ref (xm_ad (xx_G X) (xm_cb t))), (1, .int (xm_J x1))]) rfl ?_
  refine xg_aload_n hC dX1_passOn_0 rfl ?_
  refine xg_getW hC (b := 29) (xm_hC hI ht) rfl (xm_w4 hI ht) (by decide) xl_F_X1_65 dX1_passOn_1 ?_
  refine xg_aload_n hC dX1_passOn_4 rfl ?_
  refine xg_getI hC (xm_hC hI ht) rfl xl_F_X1_35 dX1_passOn_5 (fun k1 => ?_)
  refine xg_aload_n hC dX1_passOn_8 rfl ?_
  refine xg_getI hC (xm_hC hI ht) rfl xl_F_X1_41 dX1_passOn_9 (fun k2 => ?_)
  refine xg_iload_n hC dX1_passOn_12 rfl ?_
  refine xg_aload_n hC dX1_passOn_13 rfl ?_
  refine xg_getW hC (b := xm_cb t + 1) (xm_hC hI ht) rfl (xm_w5 hI ht) (Nat.le_add_left _ _) xl_F_X1_9 dX1_passOn_14 ?_
  refine xg_callV hC (ci := 3) (w_X4_fill hI σ (σ.1 (xm_cb t) 12) (σ.1 (xm_cb t) 14) x1 (((xm_cb t + 1) : Nat) : Int) k1 k2 h1) xl_M_X1_134 xl_V_X4_fill (xm_hK (a := 29) (kd := 0) (n := 3) hI rfl).2 ((xm_hK (a := 29) (kd := 0) (n := 3) hI rfl).1 _) (by decide) rfl (by decide) ⟨by decide, by decide⟩ dX1_passOn_17 (rest := []) (by rw [xm_rfN (Γ := xx_G X) (a := (xm_cb t + 1)) (Nat.le_add_left _ _)]; rfl) rfl (Nat.le_of_ble_eq_true rfl) rfl rfl (st2 := fun o => []) (fun _ => rfl) (fun o3 k4 => ?_)
  refine xg_aload_n hC dX1_passOn_20 rfl ?_
  refine xg_getW hC (b := 29) (xm_hC hI ht) rfl (xm_w4 hI ht) (by decide) xl_F_X1_65 dX1_passOn_21 ?_
  refine xg_callV hC (ci := 3) (w_X4_size hI o3.1 ) xl_M_X1_140 xl_V_X4_size (xm_hK (a := 29) (kd := 0) (n := 3) hI rfl).2 ((xm_hK (a := 29) (kd := 0) (n := 3) hI rfl).1 _) (by decide) rfl (by decide) ⟨by decide, by decide⟩ dX1_passOn_24 (rest := []) rfl rfl (Nat.le_of_ble_eq_true rfl) rfl rfl (st2 := fun o => .int (xm_J o.2) :: []) (fun _ => rfl) (fun o5 k6 => ?_)
  refine xg_if_ne hC k6 69 dX1_passOn_27 rfl (fun c7 => ?_) (fun c8 => ?_)
  · refine xg_aload_n hC dX1_passOn_30 rfl ?_
    refine xg_getI hC (xm_hC hI ht) rfl xl_F_X1_41 dX1_passOn_31 (fun k9 => ?_)
    refine xg_aload_n hC dX1_passOn_34 rfl ?_
    refine xg_getI hC (xm_hC hI ht) rfl xl_F_X1_38 dX1_passOn_35 (fun k10 => ?_)
    refine xg_icmp_eq hC k9 k10 69 dX1_passOn_38 rfl (fun c11 => ?_) (fun c12 => ?_)
    · exact xg_pick [0] rfl (w_X1_passOn_j69 hC hQ hI ht o5.1)
    refine xg_aload_n hC dX1_passOn_41 rfl ?_
    refine xg_aload_n hC dX1_passOn_42 rfl ?_
    refine xg_getI hC (xm_hC hI ht) rfl xl_F_X1_38 dX1_passOn_43 (fun k28 => ?_)
    refine xg_putI hC (xm_hC hI ht) rfl rfl k28 (xm_kpT hI ht (by decide)) xl_F_X1_41 dX1_passOn_46 ?_
    refine xg_st (fun σ29 => ?_)
    refine xg_aload_n hC dX1_passOn_49 rfl ?_
    refine xg_getW hC (b := 29) (xm_hC hI ht) rfl (xm_w4 hI ht) (by decide) xl_F_X1_65 dX1_passOn_50 ?_
    refine xg_aload_n hC dX1_passOn_53 rfl ?_
    refine xg_getI hC (xm_hC hI ht) rfl xl_F_X1_35 dX1_passOn_54 (fun k30 => ?_)
    refine xg_aload_n hC dX1_passOn_57 rfl ?_
    refine xg_getI hC (xm_hC hI ht) rfl xl_F_X1_41 dX1_passOn_58 (fun k31 => ?_)
    refine xg_iload_n hC dX1_passOn_61 rfl ?_
    refine xg_aload_n hC dX1_passOn_62 rfl ?_
    refine xg_getW hC (b := xm_cb t + 1) (xm_hC hI ht) rfl (xm_w5 hI ht) (Nat.le_add_left _ _) xl_F_X1_9 dX1_passOn_63 ?_
    refine xg_callV hC (ci := 3) (w_X4_fill hI σ29 (σ29.1 (xm_cb t) 12) (σ29.1 (xm_cb t) 14) x1 (((xm_cb t + 1) : Nat) : Int) k30 k31 h1) xl_M_X1_134 xl_V_X4_fill (xm_hK (a := 29) (kd := 0) (n := 3) hI rfl).2 ((xm_hK (a := 29) (kd := 0) (n := 3) hI rfl).1 _) (by decide) rfl (by decide) ⟨by decide, by decide⟩ dX1_passOn_66 (rest := []) (by rw [xm_rfN (Γ := xx_G X) (a := (xm_cb t + 1)) (Nat.le_add_left _ _)]; rfl) rfl (Nat.le_of_ble_eq_true rfl) rfl rfl (st2 := fun o => []) (fun _ => rfl) (fun o32 k33 => ?_)
    exact xg_pick [0] rfl (w_X1_passOn_j69 hC hQ hI ht o32.1)
  exact xg_pick [0] rfl (w_X1_passOn_j69 hC hQ hI ht o5.1)
theorem w_X1_hasYielded {Γ : xm_Gm} {I : xm_Mem → Prop} {la : Launch} (hE : I = xm_I) (σ : xm_Mem) (t : Nat) (x1 : Int) (x2 : Int) (ht : t < 8) (h1 : xm_in x1) (h2 : xm_in x2) : ∀ o, f_X1_hasYielded t σ x1 x2 = some o → xm_M Γ I la yX1_hasYielded cX1_hasYielded 3 (some .boolean) 2 0 0 [.ref (xm_ad Γ (xm_cb t)), .int (xm_J x1), .int (xm_J x2)] σ 2 o := by
  refine xg_enter (by decide) (by simp [lg_sl, xm_rf_cat, xm_cati, xm_catr, xm_catl]) (fun X hG hI0 hla hC hQ hname => ?_)
  subst hG
  have hI := hI0.trans hE
  clear hI0 hla
  unfold f_X1_hasYielded
  refine xg_pick [0, 1, 2] (l' := [(0, .ref (xm_ad (xx_G X) (xm_cb t))), (1, .int (xm_J x1)), (2, .int (xm_J x2))]) rfl ?_
  refine xg_iload_n hC dX1_hasYielded_0 rfl ?_
  refine xg_callSN hC (w_X10_isPersonNumber hI σ x1 h1) xl_N_X1_97 xl_S_X10_isPersonNumber (by decide) ⟨by decide, by decide⟩ dX1_hasYielded_1 (rest := []) rfl rfl (Nat.le_of_ble_eq_true rfl) rfl rfl (st2 := fun o => .int (xm_J o.2) :: []) (fun _ => rfl) (fun o1 k2 => ?_)
  refine xg_if_eq hC (xm_in01 k2) 31 dX1_hasYielded_4 rfl (fun c3 => ?_) (fun c4 => ?_)
  · refine xg_iconst hC dX1_hasYielded_31 ?_
    exact xg_zret hC hQ (by decide) dX1_hasYielded_32
  refine xg_aload_n hC dX1_hasYielded_7 rfl ?_
  refine xg_getW hC (b := xm_cb t + 1) (xm_hC hI ht) rfl (xm_w5 hI ht) (Nat.le_add_left _ _) xl_F_X1_9 dX1_hasYielded_8 ?_
  refine xg_iload_n hC dX1_hasYielded_11 rfl ?_
  refine xg_iald hC (xm_hCa hI ht (by decide)) rfl h1 dX1_hasYielded_12 (fun b5 k6 => ?_)
  refine xg_iconst hC dX1_hasYielded_13 ?_
  refine xg_icmp_eq hC k6 (xm_inc _ rfl) 31 dX1_hasYielded_14 rfl (fun c7 => ?_) (fun c8 => ?_)
  · refine xg_iconst hC dX1_hasYielded_31 ?_
    exact xg_zret hC hQ (by decide) dX1_hasYielded_32
  refine xg_aload_n hC dX1_hasYielded_17 rfl ?_
  refine xg_getW hC (b := xm_cb t + 1) (xm_hC hI ht) rfl (xm_w5 hI ht) (Nat.le_add_left _ _) xl_F_X1_9 dX1_hasYielded_18 ?_
  refine xg_iload_n hC dX1_hasYielded_21 rfl ?_
  refine xg_iald hC (xm_hCa hI ht (by decide)) rfl h1 dX1_hasYielded_22 (fun b9 k10 => ?_)
  refine xg_iload_n hC dX1_hasYielded_23 rfl ?_
  refine xg_icmp_gt hC k10 h2 31 dX1_hasYielded_24 rfl (fun c11 => ?_) (fun c12 => ?_)
  · refine xg_iconst hC dX1_hasYielded_31 ?_
    exact xg_zret hC hQ (by decide) dX1_hasYielded_32
  refine xg_iconst hC dX1_hasYielded_27 ?_
  refine xg_goto hC 32 dX1_hasYielded_28 rfl ?_
  exact xg_zret hC hQ (by decide) dX1_hasYielded_32
theorem w_X1_mustPass {Γ : xm_Gm} {I : xm_Mem → Prop} {la : Launch} (hE : I = xm_I) (σ : xm_Mem) (t : Nat) (x1 : Int) (ht : t < 8) (h1 : xm_in x1) : ∀ o, f_X1_mustPass t σ x1 = some o → xm_M Γ I la yX1_mustPass cX1_mustPass 2 (some .boolean) 3 0 0 [.ref (xm_ad Γ (xm_cb t)), .int (xm_J x1)] σ 2 o := by
  refine xg_enter (by decide) (by simp [lg_sl, xm_rf_cat, xm_cati, xm_catr, xm_catl]) (fun X hG hI0 hla hC hQ hname => ?_)
  subst hG
  have hI := hI0.trans hE
  clear hI0 hla
  unfold f_X1_mustPass
  refine xg_pick [0, 1] (l' := [(0, .ref (xm_ad (xx_G X) (xm_cb t))), (1, .int (xm_J x1))]) rfl ?_
  refine xg_aload_n hC dX1_mustPass_0 rfl ?_
  refine xg_getI hC (xm_hC hI ht) rfl xl_F_X1_44 dX1_mustPass_1 (fun k1 => ?_)
  refine xg_if_lt hC k1 34 dX1_mustPass_4 rfl (fun c2 => ?_) (fun c3 => ?_)
  · refine xg_iconst hC dX1_mustPass_34 ?_
    refine xg_goto hC 39 dX1_mustPass_35 rfl ?_
    exact xg_zret hC hQ (by decide) dX1_mustPass_39
  refine xg_aload_n hC dX1_mustPass_7 rfl ?_
  refine xg_getW hC (b := 9) (xm_hC hI ht) rfl (xm_w2 hI ht) (by decide) xl_F_X1_57 dX1_mustPass_8 ?_
  refine xg_aload_n hC dX1_mustPass_11 rfl ?_
  refine xg_getI hC (xm_hC hI ht) rfl xl_F_X1_44 dX1_mustPass_12 (fun k4 => ?_)
  refine xg_iload_n hC dX1_mustPass_15 rfl ?_
  refine xg_callV hC (ci := 4) (w_X5_isAlive hI σ (σ.1 (xm_cb t) 15) x1 k4 h1) xl_M_X1_125 xl_V_X5_isAlive (xm_hK (a := 9) (kd := 0) (n := 4) hI rfl).2 ((xm_hK (a := 9) (kd := 0) (n := 4) hI rfl).1 _) (by decide) rfl (by decide) ⟨by decide, by decide⟩ dX1_mustPass_16 (rest := []) rfl rfl (Nat.le_of_ble_eq_true rfl) rfl rfl (st2 := fun o => .int (xm_J o.2) :: []) (fun _ => rfl) (fun o5 k6 => ?_)
  refine xg_if_eq hC (xm_in01 k6) 34 dX1_mustPass_19 rfl (fun c7 => ?_) (fun c8 => ?_)
  · refine xg_iconst hC dX1_mustPass_34 ?_
    refine xg_goto hC 39 dX1_mustPass_35 rfl ?_
    exact xg_zret hC hQ (by decide) dX1_mustPass_39
  refine xg_aload_n hC dX1_mustPass_22 rfl ?_
  refine xg_aload_n hC dX1_mustPass_23 rfl ?_
  refine xg_getI hC (xm_hC hI ht) rfl xl_F_X1_44 dX1_mustPass_24 (fun k9 => ?_)
  refine xg_iload_n hC dX1_mustPass_27 rfl ?_
  refine xg_callV hC (ci := 0) (w_X1_hasYielded hI o5.1 t (o5.1.1 (xm_cb t) 15) x1 ht k9 h1) xl_M_X1_131 xl_V_X1_hasYielded (xm_hC hI ht).2 ((xm_hC hI ht).1 _) (by decide) rfl (by decide) ⟨by decide, by decide⟩ dX1_mustPass_28 (rest := []) rfl rfl (Nat.le_of_ble_eq_true rfl) rfl rfl (st2 := fun o => .int (xm_J o.2) :: []) (fun _ => rfl) (fun o10 k11 => ?_)
  refine xg_if_eq hC (xm_in01 k11) 38 dX1_mustPass_31 rfl (fun c12 => ?_) (fun c13 => ?_)
  · refine xg_iconst hC dX1_mustPass_38 ?_
    exact xg_zret hC hQ (by decide) dX1_mustPass_39
  refine xg_iconst hC dX1_mustPass_34 ?_
  refine xg_goto hC 39 dX1_mustPass_35 rfl ?_
  exact xg_zret hC hQ (by decide) dX1_mustPass_39
theorem w_X4_placeOf_b2 {X : xm_X} (hC : xm_C X yX4_placeOf.cls cX4_placeOf 3 1 0 0) (hQ : xm_Rt X 1 (some .int) 0 0) (hI : xx_I X = xm_I)   {self : xm_Mem → Int → Int → Option xm_Out} (hself : ∀ (σ : xm_Mem) (x1 : Int) (x2 : Int), xm_in x1 → xm_in x2 → xm_V X 0 0 (self σ x1 x2) σ 2 [(0, .ref (xm_ad (xx_G X) 29)), (1, .int (xm_J x1)), (2, .int (xm_J x2))] []) (σ : xm_Mem) (x1 : Int) (x2 : Int) (h1 : xm_in x1) (h2 : xm_in x2) : xm_V X 0 0 (f_X4_placeOf_b2  self σ x1 x2) σ 2 [(0, .ref (xm_ad (xx_G X) 29)), (1, .int (xm_J x1)), (2, .int (xm_J x2))] [] := by
  unfold f_X4_placeOf_b2
  refine xg_iload_n hC dX4_placeOf_2 rfl ?_
  refine xg_aload_n hC dX4_placeOf_3 rfl ?_
  refine xg_getI hC (xm_hK hI rfl) rfl xl_F_X4_37 dX4_placeOf_4 (fun k1 => ?_)
  refine xg_icmp_ge hC h2 k1 28 dX4_placeOf_7 rfl (fun c2 => ?_) (fun c3 => ?_)
  · refine xg_aload_n hC dX4_placeOf_10 rfl ?_
    refine xg_getW hC (b := 33) (xm_hK hI rfl) rfl (xm_wK hI rfl) (by decide) xl_F_X4_34 dX4_placeOf_11 ?_
    refine xg_iload_n hC dX4_placeOf_14 rfl ?_
    refine xg_iald hC (xm_hK hI rfl) rfl h2 dX4_placeOf_15 (fun b4 k5 => ?_)
    refine xg_iload_n hC dX4_placeOf_16 rfl ?_
    refine xg_icmp_ne hC k5 h1 22 dX4_placeOf_17 rfl (fun c6 => ?_) (fun c7 => ?_)
    · refine xg_iload_n hC dX4_placeOf_20 rfl ?_
      exact xg_iret hC hQ h2 dX4_placeOf_21
    refine xg_iinc hC (l' := [(2, .int (xm_J (xm_w (x2 + 1)))), (0, .ref (xm_ad (xx_G X) 29)), (1, .int (xm_J x1))]) dX4_placeOf_22 (by decide) 2 rfl rfl ?_
    refine xg_goto hC 2 dX4_placeOf_25 rfl ?_
    exact xg_pick [1, 2, 0] rfl (hself σ x1 (xm_w (x2 + 1)) h1 (xm_w_in _))
  refine xg_iconst hC dX4_placeOf_28 ?_
  exact xg_iret hC hQ (xm_inc _ rfl) dX4_placeOf_29
theorem w_X4_placeOf_l2 {X : xm_X} (hC : xm_C X yX4_placeOf.cls cX4_placeOf 3 1 0 0) (hQ : xm_Rt X 1 (some .int) 0 0) (hI : xx_I X = xm_I)   (n : Nat) : ∀ (σ : xm_Mem) (x1 : Int) (x2 : Int), xm_in x1 → xm_in x2 → xm_V X 0 0 (f_X4_placeOf_l2  n σ x1 x2) σ 2 [(0, .ref (xm_ad (xx_G X) 29)), (1, .int (xm_J x1)), (2, .int (xm_J x2))] [] := by
  induction n with
  | zero => intro σ x1 x2 h1 h2; exact xg_none
  | succ n ih => intro σ x1 x2 h1 h2; exact w_X4_placeOf_b2 hC hQ hI ih σ x1 x2 h1 h2
theorem w_X4_placeOf {Γ : xm_Gm} {I : xm_Mem → Prop} {la : Launch} (hE : I = xm_I) (σ : xm_Mem) (x1 : Int) (h1 : xm_in x1) : ∀ o, f_X4_placeOf σ x1 = some o → xm_M Γ I la yX4_placeOf cX4_placeOf 3 (some .int) 1 0 0 [.ref (xm_ad Γ 29), .int (xm_J x1)] σ 1 o := by
  refine xg_enter (by decide) (by simp [lg_sl, xm_rf_cat, xm_cati, xm_catr, xm_catl]) (fun X hG hI0 hla hC hQ hname => ?_)
  subst hG
  have hI := hI0.trans hE
  clear hI0 hla
  unfold f_X4_placeOf
  refine xg_pick [0, 1] (l' := [(0, .ref (xm_ad (xx_G X) 29)), (1, .int (xm_J x1))]) rfl ?_
  refine xg_iconst hC dX4_placeOf_0 ?_
  refine xg_istore_n hC (l' := [(2, .int (xm_J (0 : Int))), (0, .ref (xm_ad (xx_G X) 29)), (1, .int (xm_J x1))]) dX4_placeOf_1 (by decide) rfl ?_
  exact xg_pick [1, 2, 0] rfl (w_X4_placeOf_l2 hC hQ hI _ σ x1 (0 : Int) h1 (xm_inc _ rfl))
theorem w_X1_giveToChildBornLate_b34 {X : xm_X} (hC : xm_C X yX1_giveToChildBornLate.cls cX1_giveToChildBornLate 6 5 0 0) (hQ : xm_Rt X 0 none 0 0) (hI : xx_I X = xm_I) {t : Nat} (ht : t < 8)   {self : xm_Mem → Int → Int → Int → Option xm_Out} (hself : ∀ (σ : xm_Mem) (x1 : Int) (x2 : Int) (x3 : Int), xm_in x1 → xm_in x2 → xm_in x3 → xm_V X 0 0 (self σ x1 x2 x3) σ 34 [(0, .ref (xm_ad (xx_G X) (xm_cb t))), (1, .int (xm_J x1)), (2, .int (xm_J x2)), (3, .int (xm_J x3))] []) (σ : xm_Mem) (x1 : Int) (x2 : Int) (x3 : Int) (h1 : xm_in x1) (h2 : xm_in x2) (h3 : xm_in x3) : xm_V X 0 0 (f_X1_giveToChildBornLate_b34 t  self σ x1 x2 x3) σ 34 [(0, .ref (xm_ad (xx_G X) (xm_cb t))), (1, .int (xm_J x1)), (2, .int (xm_J x2)), (3, .int (xm_J x3))] [] := by
  unfold f_X1_giveToChildBornLate_b34
  refine xg_iload_n hC dX1_giveToChildBornLate_34 rfl ?_
  refine xg_iload_n hC dX1_giveToChildBornLate_35 rfl ?_
  refine xg_icmp_ge hC h3 h2 129 dX1_giveToChildBornLate_36 rfl (fun c8 => ?_) (fun c9 => ?_)
  · refine xg_aload_n hC dX1_giveToChildBornLate_39 rfl ?_
    refine xg_getW hC (b := 29) (xm_hC hI ht) rfl (xm_w4 hI ht) (by decide) xl_F_X1_65 dX1_giveToChildBornLate_40 ?_
    refine xg_iload_n hC dX1_giveToChildBornLate_43 rfl ?_
    refine xg_callV hC (ci := 3) (w_X4_at hI σ x3 h3) xl_M_X1_145 xl_V_X4_at (xm_hK (a := 29) (kd := 0) (n := 3) hI rfl).2 ((xm_hK (a := 29) (kd := 0) (n := 3) hI rfl).1 _) (by decide) rfl (by decide) ⟨by decide, by decide⟩ dX1_giveToChildBornLate_44 (rest := []) rfl rfl (Nat.le_of_ble_eq_true rfl) rfl rfl (st2 := fun o => .int (xm_J o.2) :: []) (fun _ => rfl) (fun o10 k11 => ?_)
    refine xg_istore hC (l' := [(4, .int (xm_J o10.2)), (0, .ref (xm_ad (xx_G X) (xm_cb t))), (1, .int (xm_J x1)), (2, .int (xm_J x2)), (3, .int (xm_J x3))]) dX1_giveToChildBornLate_47 (by decide) rfl ?_
    refine xg_aload_n hC dX1_giveToChildBornLate_49 rfl ?_
    refine xg_getW hC (b := 9) (xm_hC hI ht) rfl (xm_w2 hI ht) (by decide) xl_F_X1_57 dX1_giveToChildBornLate_50 ?_
    refine xg_iload hC dX1_giveToChildBornLate_53 rfl ?_
    refine xg_callV hC (ci := 4) (w_X5_bornOn hI o10.1 o10.2 k11) xl_M_X1_151 xl_V_X5_bornOn (xm_hK (a := 9) (kd := 0) (n := 4) hI rfl).2 ((xm_hK (a := 9) (kd := 0) (n := 4) hI rfl).1 _) (by decide) rfl (by decide) ⟨by decide, by decide⟩ dX1_giveToChildBornLate_55 (rest := []) rfl rfl (Nat.le_of_ble_eq_true rfl) rfl rfl (st2 := fun o => .int (xm_J o.2) :: []) (fun _ => rfl) (fun o12 k13 => ?_)
    refine xg_iload_n hC dX1_giveToChildBornLate_58 rfl ?_
    refine xg_icmp_ne hC k13 h1 123 dX1_giveToChildBornLate_59 rfl (fun c14 => ?_) (fun c15 => ?_)
    · refine xg_aload_n hC dX1_giveToChildBornLate_62 rfl ?_
      refine xg_getW hC (b := 23) (xm_hC hI ht) rfl (xm_w3 hI ht) (by decide) xl_F_X1_61 dX1_giveToChildBornLate_63 ?_
      refine xg_iload hC dX1_giveToChildBornLate_66 rfl ?_
      refine xg_callV hC (ci := 1) (w_X2_isLegit hI o12.1 o10.2 k11) xl_M_X1_154 xl_V_X2_isLegit (xm_hK (a := 23) (kd := 0) (n := 1) hI rfl).2 ((xm_hK (a := 23) (kd := 0) (n := 1) hI rfl).1 _) (by decide) rfl (by decide) ⟨by decide, by decide⟩ dX1_giveToChildBornLate_68 (rest := []) rfl rfl (Nat.le_of_ble_eq_true rfl) rfl rfl (st2 := fun o => .int (xm_J o.2) :: []) (fun _ => rfl) (fun o16 k17 => ?_)
      refine xg_if_ne hC (xm_in01 k17) 77 dX1_giveToChildBornLate_71 rfl (fun c18 => ?_) (fun c19 => ?_)
      · refine xg_goto hC 123 dX1_giveToChildBornLate_74 rfl ?_
        refine xg_iinc hC (l' := [(3, .int (xm_J (xm_w (x3 + 1)))), (4, .int (xm_J o10.2)), (0, .ref (xm_ad (xx_G X) (xm_cb t))), (1, .int (xm_J x1)), (2, .int (xm_J x2))]) dX1_giveToChildBornLate_123 (by decide) 4 rfl rfl ?_
        refine xg_goto hC 34 dX1_giveToChildBornLate_126 rfl ?_
        exact xg_pick [2, 3, 4, 0] rfl (hself o16.1 x1 x2 (xm_w (x3 + 1)) h1 h2 (xm_w_in _))
      refine xg_aload_n hC dX1_giveToChildBornLate_77 rfl ?_
      refine xg_getW hC (b := 9) (xm_hC hI ht) rfl (xm_w2 hI ht) (by decide) xl_F_X1_57 dX1_giveToChildBornLate_78 ?_
      refine xg_aload_n hC dX1_giveToChildBornLate_81 rfl ?_
      refine xg_getW hC (b := 9) (xm_hC hI ht) rfl (xm_w2 hI ht) (by decide) xl_F_X1_57 dX1_giveToChildBornLate_82 ?_
      refine xg_iload hC dX1_giveToChildBornLate_85 rfl ?_
      refine xg_callV hC (ci := 4) (w_X5_father hI o16.1 o10.2 k11) xl_M_X1_159 xl_V_X5_father (xm_hK (a := 9) (kd := 0) (n := 4) hI rfl).2 ((xm_hK (a := 9) (kd := 0) (n := 4) hI rfl).1 _) (by decide) rfl (by decide) ⟨by decide, by decide⟩ dX1_giveToChildBornLate_87 (rest := [.ref (xm_ad (xx_G X) 9)]) rfl rfl (Nat.le_of_ble_eq_true rfl) rfl rfl (st2 := fun o => .int (xm_J o.2) :: [.ref (xm_ad (xx_G X) 9)]) (fun _ => rfl) (fun o20 k21 => ?_)
      refine xg_callV hC (ci := 4) (w_X5_deadOn hI o20.1 o20.2 k21) xl_M_X1_162 xl_V_X5_deadOn (xm_hK (a := 9) (kd := 0) (n := 4) hI rfl).2 ((xm_hK (a := 9) (kd := 0) (n := 4) hI rfl).1 _) (by decide) rfl (by decide) ⟨by decide, by decide⟩ dX1_giveToChildBornLate_90 (rest := []) rfl rfl (Nat.le_of_ble_eq_true rfl) rfl rfl (st2 := fun o => .int (xm_J o.2) :: []) (fun _ => rfl) (fun o22 k23 => ?_)
      refine xg_istore hC (l' := [(5, .int (xm_J o22.2)), (4, .int (xm_J o10.2)), (0, .ref (xm_ad (xx_G X) (xm_cb t))), (1, .int (xm_J x1)), (2, .int (xm_J x2)), (3, .int (xm_J x3))]) dX1_giveToChildBornLate_93 (by decide) rfl ?_
      refine xg_iload hC dX1_giveToChildBornLate_95 rfl ?_
      refine xg_iconst hC dX1_giveToChildBornLate_97 ?_
      refine xg_icmp_eq hC k23 (xm_inc _ rfl) 123 dX1_giveToChildBornLate_98 rfl (fun c24 => ?_) (fun c25 => ?_)
      · refine xg_iinc hC (l' := [(3, .int (xm_J (xm_w (x3 + 1)))), (5, .int (xm_J o22.2)), (4, .int (xm_J o10.2)), (0, .ref (xm_ad (xx_G X) (xm_cb t))), (1, .int (xm_J x1)), (2, .int (xm_J x2))]) dX1_giveToChildBornLate_123 (by decide) 5 rfl rfl ?_
        refine xg_goto hC 34 dX1_giveToChildBornLate_126 rfl ?_
        exact xg_pick [3, 4, 5, 0] rfl (hself o22.1 x1 x2 (xm_w (x3 + 1)) h1 h2 (xm_w_in _))
      refine xg_iload hC dX1_giveToChildBornLate_101 rfl ?_
      refine xg_iload_n hC dX1_giveToChildBornLate_103 rfl ?_
      refine xg_icmp_ge hC k23 h1 123 dX1_giveToChildBornLate_104 rfl (fun c26 => ?_) (fun c27 => ?_)
      · refine xg_aload_n hC dX1_giveToChildBornLate_107 rfl ?_
        refine xg_getI hC (xm_hC hI ht) rfl xl_F_X1_47 dX1_giveToChildBornLate_108 (fun k28 => ?_)
        refine xg_iload hC dX1_giveToChildBornLate_111 rfl ?_
        refine xg_icmp_lt hC k28 k23 123 dX1_giveToChildBornLate_113 rfl (fun c29 => ?_) (fun c30 => ?_)
        · refine xg_iinc hC (l' := [(3, .int (xm_J (xm_w (x3 + 1)))), (5, .int (xm_J o22.2)), (4, .int (xm_J o10.2)), (0, .ref (xm_ad (xx_G X) (xm_cb t))), (1, .int (xm_J x1)), (2, .int (xm_J x2))]) dX1_giveToChildBornLate_123 (by decide) 5 rfl rfl ?_
          refine xg_goto hC 34 dX1_giveToChildBornLate_126 rfl ?_
          exact xg_pick [3, 4, 5, 0] rfl (hself o22.1 x1 x2 (xm_w (x3 + 1)) h1 h2 (xm_w_in _))
        refine xg_aload_n hC dX1_giveToChildBornLate_116 rfl ?_
        refine xg_iload hC dX1_giveToChildBornLate_117 rfl ?_
        refine xg_putI hC (xm_hC hI ht) rfl rfl k11 (xm_kpT hI ht (by decide)) xl_F_X1_44 dX1_giveToChildBornLate_119 ?_
        refine xg_st (fun σ31 => ?_)
        exact xg_vret hC hQ dX1_giveToChildBornLate_122
      refine xg_iinc hC (l' := [(3, .int (xm_J (xm_w (x3 + 1)))), (5, .int (xm_J o22.2)), (4, .int (xm_J o10.2)), (0, .ref (xm_ad (xx_G X) (xm_cb t))), (1, .int (xm_J x1)), (2, .int (xm_J x2))]) dX1_giveToChildBornLate_123 (by decide) 5 rfl rfl ?_
      refine xg_goto hC 34 dX1_giveToChildBornLate_126 rfl ?_
      exact xg_pick [3, 4, 5, 0] rfl (hself o22.1 x1 x2 (xm_w (x3 + 1)) h1 h2 (xm_w_in _))
    refine xg_iinc hC (l' := [(3, .int (xm_J (xm_w (x3 + 1)))), (4, .int (xm_J o10.2)), (0, .ref (xm_ad (xx_G X) (xm_cb t))), (1, .int (xm_J x1)), (2, .int (xm_J x2))]) dX1_giveToChildBornLate_123 (by decide) 4 rfl rfl ?_
    refine xg_goto hC 34 dX1_giveToChildBornLate_126 rfl ?_
    exact xg_pick [2, 3, 4, 0] rfl (hself o12.1 x1 x2 (xm_w (x3 + 1)) h1 h2 (xm_w_in _))
  exact xg_vret hC hQ dX1_giveToChildBornLate_129
theorem w_X1_giveToChildBornLate_l34 {X : xm_X} (hC : xm_C X yX1_giveToChildBornLate.cls cX1_giveToChildBornLate 6 5 0 0) (hQ : xm_Rt X 0 none 0 0) (hI : xx_I X = xm_I) {t : Nat} (ht : t < 8)   (n : Nat) : ∀ (σ : xm_Mem) (x1 : Int) (x2 : Int) (x3 : Int), xm_in x1 → xm_in x2 → xm_in x3 → xm_V X 0 0 (f_X1_giveToChildBornLate_l34 t  n σ x1 x2 x3) σ 34 [(0, .ref (xm_ad (xx_G X) (xm_cb t))), (1, .int (xm_J x1)), (2, .int (xm_J x2)), (3, .int (xm_J x3))] [] := by
  induction n with
  | zero => intro σ x1 x2 x3 h1 h2 h3; exact xg_none
  | succ n ih => intro σ x1 x2 x3 h1 h2 h3; exact w_X1_giveToChildBornLate_b34 hC hQ hI ht ih σ x1 x2 x3 h1 h2 h3
theorem w_X1_giveToChildBornLate {Γ : xm_Gm} {I : xm_Mem → Prop} {la : Launch} (hE : I = xm_I) (σ : xm_Mem) (t : Nat) (x1 : Int) (ht : t < 8) (h1 : xm_in x1) : ∀ o, f_X1_giveToChildBornLate t σ x1 = some o → xm_M Γ I la yX1_giveToChildBornLate cX1_giveToChildBornLate 6 none 5 0 0 [.ref (xm_ad Γ (xm_cb t)), .int (xm_J x1)] σ 0 o := by
  refine xg_enter (by decide) (by simp [lg_sl, xm_rf_cat, xm_cati, xm_catr, xm_catl]) (fun X hG hI0 hla hC hQ hname => ?_)
  subst hG
  have hI := hI0.trans hE
  clear hI0 hla
  unfold f_X1_giveToChildBornLate
  refine xg_pick [0, 1] (l' := [(0, .ref (xm_ad (xx_G X) (xm_cb t))), (1, .int (xm_J x1))]) rfl ?_
  refine xg_aload_n hC dX1_giveToChildBornLate_0 rfl ?_
  refine xg_getW hC (b := 29) (xm_hC hI ht) rfl (xm_w4 hI ht) (by decide) xl_F_X1_65 dX1_giveToChildBornLate_1 ?_
  refine xg_aload_n hC dX1_giveToChildBornLate_4 rfl ?_
  refine xg_getI hC (xm_hC hI ht) rfl xl_F_X1_35 dX1_giveToChildBornLate_5 (fun k1 => ?_)
  refine xg_aload_n hC dX1_giveToChildBornLate_8 rfl ?_
  refine xg_getI hC (xm_hC hI ht) rfl xl_F_X1_41 dX1_giveToChildBornLate_9 (fun k2 => ?_)
  refine xg_iload_n hC dX1_giveToChildBornLate_12 rfl ?_
  refine xg_aload_n hC dX1_giveToChildBornLate_13 rfl ?_
  refine xg_getW hC (b := xm_cb t + 1) (xm_hC hI ht) rfl (xm_w5 hI ht) (Nat.le_add_left _ _) xl_F_X1_9 dX1_giveToChildBornLate_14 ?_
  refine xg_callV hC (ci := 3) (w_X4_fill hI σ (σ.1 (xm_cb t) 12) (σ.1 (xm_cb t) 14) x1 (((xm_cb t + 1) : Nat) : Int) k1 k2 h1) xl_M_X1_134 xl_V_X4_fill (xm_hK (a := 29) (kd := 0) (n := 3) hI rfl).2 ((xm_hK (a := 29) (kd := 0) (n := 3) hI rfl).1 _) (by decide) rfl (by decide) ⟨by decide, by decide⟩ dX1_giveToChildBornLate_17 (rest := []) (by rw [xm_rfN (Γ := xx_G X) (a := (xm_cb t + 1)) (Nat.le_add_left _ _)]; rfl) rfl (Nat.le_of_ble_eq_true rfl) rfl rfl (st2 := fun o => []) (fun _ => rfl) (fun o3 k4 => ?_)
  refine xg_aload_n hC dX1_giveToChildBornLate_20 rfl ?_
  refine xg_getW hC (b := 29) (xm_hC hI ht) rfl (xm_w4 hI ht) (by decide) xl_F_X1_65 dX1_giveToChildBornLate_21 ?_
  refine xg_aload_n hC dX1_giveToChildBornLate_24 rfl ?_
  refine xg_getI hC (xm_hC hI ht) rfl xl_F_X1_44 dX1_giveToChildBornLate_25 (fun k5 => ?_)
  refine xg_callV hC (ci := 3) (w_X4_placeOf hI o3.1 (o3.1.1 (xm_cb t) 15) k5) xl_M_X1_148 xl_V_X4_placeOf (xm_hK (a := 29) (kd := 0) (n := 3) hI rfl).2 ((xm_hK (a := 29) (kd := 0) (n := 3) hI rfl).1 _) (by decide) rfl (by decide) ⟨by decide, by decide⟩ dX1_giveToChildBornLate_28 (rest := []) rfl rfl (Nat.le_of_ble_eq_true rfl) rfl rfl (st2 := fun o => .int (xm_J o.2) :: []) (fun _ => rfl) (fun o6 k7 => ?_)
  refine xg_istore_n hC (l' := [(2, .int (xm_J o6.2)), (0, .ref (xm_ad (xx_G X) (xm_cb t))), (1, .int (xm_J x1))]) dX1_giveToChildBornLate_31 (by decide) rfl ?_
  refine xg_iconst hC dX1_giveToChildBornLate_32 ?_
  refine xg_istore_n hC (l' := [(3, .int (xm_J (0 : Int))), (2, .int (xm_J o6.2)), (0, .ref (xm_ad (xx_G X) (xm_cb t))), (1, .int (xm_J x1))]) dX1_giveToChildBornLate_33 (by decide) rfl ?_
  exact xg_pick [2, 3, 1, 0] rfl (w_X1_giveToChildBornLate_l34 hC hQ hI ht _ o6.1 x1 o6.2 (0 : Int) h1 k7 (xm_inc _ rfl))
theorem w_X1_obeyCall_b2 {X : xm_X} (hC : xm_C X yX1_obeyCall.cls cX1_obeyCall 4 3 0 0) (hQ : xm_Rt X 0 none 0 0) (hI : xx_I X = xm_I) {t : Nat} (ht : t < 8) {K74 : xm_Mem → Int → Option xm_Out} (hK74 : ∀ (σ : xm_Mem) (x3 : Int), 0 ≤ x3 ∧ xm_in x3 → xm_V X 0 0 (K74 σ x3) σ 74 [(0, .ref (xm_ad (xx_G X) (xm_cb t))), (3, xm_rf (xx_G X) x3)] []) {self : xm_Mem → Int → Int → Option xm_Out} (hself : ∀ (σ : xm_Mem) (x1 : Int) (x2 : Int), xm_in x1 → xm_in x2 → xm_V X 0 0 (self σ x1 x2) σ 2 [(0, .ref (xm_ad (xx_G X) (xm_cb t))), (1, .int (xm_J x1)), (2, .int (xm_J x2))] []) (σ : xm_Mem) (x1 : Int) (x2 : Int) (h1 : xm_in x1) (h2 : xm_in x2) : xm_V X 0 0 (f_X1_obeyCall_b2 t K74 self σ x1 x2) σ 2 [(0, .ref (xm_ad (xx_G X) (xm_cb t))), (1, .int (xm_J x1)), (2, .int (xm_J x2))] [] := by
  unfold f_X1_obeyCall_b2
  refine xg_iload_n hC dX1_obeyCall_2 rfl ?_
  refine xg_aload_n hC dX1_obeyCall_3 rfl ?_
  refine xg_getW hC (b := 5) (xm_hC hI ht) rfl (xm_w1 hI ht) (by decide) xl_F_X1_53 dX1_obeyCall_4 ?_
  refine xg_callV hC (ci := 6) (w_X7_size hI σ ) xl_M_X1_87 xl_V_X7_size (xm_hK (a := 5) (kd := 0) (n := 6) hI rfl).2 ((xm_hK (a := 5) (kd := 0) (n := 6) hI rfl).1 _) (by decide) rfl (by decide) ⟨by decide, by decide⟩ dX1_obeyCall_7 (rest := [.int (xm_J x2)]) rfl rfl (Nat.le_of_ble_eq_true rfl) rfl rfl (st2 := fun o => .int (xm_J o.2) :: [.int (xm_J x2)]) (fun _ => rfl) (fun o1 k2 => ?_)
  refine xg_icmp_ge hC h2 k2 97 dX1_obeyCall_10 rfl (fun c3 => ?_) (fun c4 => ?_)
  · refine xg_aload_n hC dX1_obeyCall_13 rfl ?_
    refine xg_getW hC (b := 5) (xm_hC hI ht) rfl (xm_w1 hI ht) (by decide) xl_F_X1_53 dX1_obeyCall_14 ?_
    refine xg_iload_n hC dX1_obeyCall_17 rfl ?_
    refine xg_callV hC (ci := 6) (w_X7_standing hI o1.1 x2 h2) xl_M_X1_90 xl_V_X7_standing (xm_hK (a := 5) (kd := 0) (n := 6) hI rfl).2 ((xm_hK (a := 5) (kd := 0) (n := 6) hI rfl).1 _) (by decide) rfl (by decide) ⟨by decide, by decide⟩ dX1_obeyCall_18 (rest := []) rfl rfl (Nat.le_of_ble_eq_true rfl) rfl rfl (st2 := fun o => xm_rf (xx_G X) o.2 :: []) (fun _ => rfl) (fun o5 k6 => ?_)
    refine xg_vR k6 (fun v7 k8 => ?_)
    refine xg_rstore_n hC (l' := [(3, xm_rf (xx_G X) v7), (0, .ref (xm_ad (xx_G X) (xm_cb t))), (1, .int (xm_J x1)), (2, .int (xm_J x2))]) dX1_obeyCall_21 (by decide) rfl ?_
    refine xg_rload_n hC dX1_obeyCall_22 rfl ?_
    refine xg_ifnull hC 91 dX1_obeyCall_23 rfl (fun c9 => ?_) (fun c10 => ?_)
    · refine xg_iinc hC (l' := [(2, .int (xm_J (xm_w (x2 + 1)))), (3, xm_rf (xx_G X) v7), (0, .ref (xm_ad (xx_G X) (xm_cb t))), (1, .int (xm_J x1))]) dX1_obeyCall_91 (by decide) 3 rfl rfl ?_
      refine xg_goto hC 2 dX1_obeyCall_94 rfl ?_
      exact xg_pick [2, 3, 0] rfl (hself o5.1 x1 (xm_w (x2 + 1)) h1 (xm_w_in _))
    refine xg_rload_n hC dX1_obeyCall_26 rfl ?_
    refine xg_sgetI hC rfl xl_F_X1_93 dX1_obeyCall_27 (fun k11 => ?_)
    refine xg_bipush hC dX1_obeyCall_30 (by decide) ?_
    refine xg_icmp_ne hC k11 (xm_inc _ rfl) 91 dX1_obeyCall_32 rfl (fun c12 => ?_) (fun c13 => ?_)
    · refine xg_rload_n hC dX1_obeyCall_35 rfl ?_
      refine xg_sgetI hC rfl xl_F_X1_96 dX1_obeyCall_36 (fun k14 => ?_)
      refine xg_aload_n hC dX1_obeyCall_39 rfl ?_
      refine xg_getC hC (xm_hC hI ht) rfl (xm_w0 hI ht) xl_F_X1_50 dX1_obeyCall_40 (fun k15 => ?_)
      refine xg_icmp_ne hC k14 k15 91 dX1_obeyCall_43 rfl (fun c16 => ?_) (fun c17 => ?_)
      · refine xg_rload_n hC dX1_obeyCall_46 rfl ?_
        refine xg_sgetI hC rfl xl_F_X1_81 dX1_obeyCall_47 (fun k18 => ?_)
        refine xg_iload_n hC dX1_obeyCall_50 rfl ?_
        refine xg_icmp_eq hC k18 h1 57 dX1_obeyCall_51 rfl (fun c19 => ?_) (fun c20 => ?_)
        · refine xg_aload_n hC dX1_obeyCall_57 rfl ?_
          refine xg_getW hC (b := 29) (xm_hC hI ht) rfl (xm_w4 hI ht) (by decide) xl_F_X1_65 dX1_obeyCall_58 ?_
          refine xg_rload_n hC dX1_obeyCall_61 rfl ?_
          refine xg_sgetI hC rfl xl_F_X1_78 dX1_obeyCall_62 (fun k21 => ?_)
          refine xg_callV hC (ci := 3) (w_X4_has hI o5.1 (o5.1.1 v7.toNat 2) k21) xl_M_X1_165 xl_V_X4_has (xm_hK (a := 29) (kd := 0) (n := 3) hI rfl).2 ((xm_hK (a := 29) (kd := 0) (n := 3) hI rfl).1 _) (by decide) rfl (by decide) ⟨by decide, by decide⟩ dX1_obeyCall_65 (rest := []) rfl rfl (Nat.le_of_ble_eq_true rfl) rfl rfl (st2 := fun o => .int (xm_J o.2) :: []) (fun _ => rfl) (fun o22 k23 => ?_)
          refine xg_if_ne hC (xm_in01 k23) 74 dX1_obeyCall_68 rfl (fun c24 => ?_) (fun c25 => ?_)
          · refine xg_goto hC 91 dX1_obeyCall_71 rfl ?_
            refine xg_iinc hC (l' := [(2, .int (xm_J (xm_w (x2 + 1)))), (3, xm_rf (xx_G X) v7), (0, .ref (xm_ad (xx_G X) (xm_cb t))), (1, .int (xm_J x1))]) dX1_obeyCall_91 (by decide) 3 rfl rfl ?_
            refine xg_goto hC 2 dX1_obeyCall_94 rfl ?_
            exact xg_pick [2, 3, 0] rfl (hself o22.1 x1 (xm_w (x2 + 1)) h1 (xm_w_in _))
          exact xg_pick [1, 0] rfl (hK74 o22.1 v7 ⟨k8.1, k8.2⟩)
        refine xg_goto hC 91 dX1_obeyCall_54 rfl ?_
        refine xg_iinc hC (l' := [(2, .int (xm_J (xm_w (x2 + 1)))), (3, xm_rf (xx_G X) v7), (0, .ref (xm_ad (xx_G X) (xm_cb t))), (1, .int (xm_J x1))]) dX1_obeyCall_91 (by decide) 3 rfl rfl ?_
        refine xg_goto hC 2 dX1_obeyCall_94 rfl ?_
        exact xg_pick [2, 3, 0] rfl (hself o5.1 x1 (xm_w (x2 + 1)) h1 (xm_w_in _))
      refine xg_iinc hC (l' := [(2, .int (xm_J (xm_w (x2 + 1)))), (3, xm_rf (xx_G X) v7), (0, .ref (xm_ad (xx_G X) (xm_cb t))), (1, .int (xm_J x1))]) dX1_obeyCall_91 (by decide) 3 rfl rfl ?_
      refine xg_goto hC 2 dX1_obeyCall_94 rfl ?_
      exact xg_pick [2, 3, 0] rfl (hself o5.1 x1 (xm_w (x2 + 1)) h1 (xm_w_in _))
    refine xg_iinc hC (l' := [(2, .int (xm_J (xm_w (x2 + 1)))), (3, xm_rf (xx_G X) v7), (0, .ref (xm_ad (xx_G X) (xm_cb t))), (1, .int (xm_J x1))]) dX1_obeyCall_91 (by decide) 3 rfl rfl ?_
    refine xg_goto hC 2 dX1_obeyCall_94 rfl ?_
    exact xg_pick [2, 3, 0] rfl (hself o5.1 x1 (xm_w (x2 + 1)) h1 (xm_w_in _))
  exact xg_vret hC hQ dX1_obeyCall_97
theorem w_X1_obeyCall_l2 {X : xm_X} (hC : xm_C X yX1_obeyCall.cls cX1_obeyCall 4 3 0 0) (hQ : xm_Rt X 0 none 0 0) (hI : xx_I X = xm_I) {t : Nat} (ht : t < 8) {K74 : xm_Mem → Int → Option xm_Out} (hK74 : ∀ (σ : xm_Mem) (x3 : Int), 0 ≤ x3 ∧ xm_in x3 → xm_V X 0 0 (K74 σ x3) σ 74 [(0, .ref (xm_ad (xx_G X) (xm_cb t))), (3, xm_rf (xx_G X) x3)] []) (n : Nat) : ∀ (σ : xm_Mem) (x1 : Int) (x2 : Int), xm_in x1 → xm_in x2 → xm_V X 0 0 (f_X1_obeyCall_l2 t K74 n σ x1 x2) σ 2 [(0, .ref (xm_ad (xx_G X) (xm_cb t))), (1, .int (xm_J x1)), (2, .int (xm_J x2))] [] := by
  induction n with
  | zero => intro σ x1 x2 h1 h2; exact xg_none
  | succ n ih => intro σ x1 x2 h1 h2; exact w_X1_obeyCall_b2 hC hQ hI ht hK74 ih σ x1 x2 h1 h2
theorem w_X1_obeyCall {Γ : xm_Gm} {I : xm_Mem → Prop} {la : Launch} (hE : I = xm_I) (σ : xm_Mem) (t : Nat) (x1 : Int) (ht : t < 8) (h1 : xm_in x1) : ∀ o, f_X1_obeyCall t σ x1 = some o → xm_M Γ I la yX1_obeyCall cX1_obeyCall 4 none 3 0 0 [.ref (xm_ad Γ (xm_cb t)), .int (xm_J x1)] σ 0 o := by
  refine xg_enter (by decide) (by simp [lg_sl, xm_rf_cat, xm_cati, xm_catr, xm_catl]) (fun X hG hI0 hla hC hQ hname => ?_)
  subst hG
  have hI := hI0.trans hE
  clear hI0 hla
  unfold f_X1_obeyCall
  refine xg_pick [0, 1] (l' := [(0, .ref (xm_ad (xx_G X) (xm_cb t))), (1, .int (xm_J x1))]) rfl ?_
  refine xg_iconst hC dX1_obeyCall_0 ?_
  refine xg_istore_n hC (l' := [(2, .int (xm_J (0 : Int))), (0, .ref (xm_ad (xx_G X) (xm_cb t))), (1, .int (xm_J x1))]) dX1_obeyCall_1 (by decide) rfl ?_
  refine xg_pick [1, 2, 0] rfl (w_X1_obeyCall_l2 hC hQ hI ht ?_ _ σ x1 (0 : Int) h1 (xm_inc _ rfl))
  intro σ_26 x3_26 h3_26
  refine xg_aload_n hC dX1_obeyCall_74 rfl ?_
  refine xg_rload_n hC dX1_obeyCall_75 rfl ?_
  refine xg_sgetI hC rfl xl_F_X1_78 dX1_obeyCall_76 (fun k27 => ?_)
  refine xg_putI hC (xm_hC hI ht) rfl rfl k27 (xm_kpT hI ht (by decide)) xl_F_X1_44 dX1_obeyCall_79 ?_
  refine xg_st (fun σ28 => ?_)
  refine xg_aload_n hC dX1_obeyCall_82 rfl ?_
  refine xg_rload_n hC dX1_obeyCall_83 rfl ?_
  refine xg_sgetI hC rfl xl_F_X1_78 dX1_obeyCall_84 (fun k29 => ?_)
  refine xg_putI hC (xm_hC hI ht) rfl rfl k29 (xm_kpT hI ht (by decide)) xl_F_X1_41 dX1_obeyCall_87 ?_
  refine xg_st (fun σ30 => ?_)
  exact xg_vret hC hQ dX1_obeyCall_90
theorem w_X1_note {Γ : xm_Gm} {I : xm_Mem → Prop} {la : Launch} (hE : I = xm_I) (σ : xm_Mem) (t : Nat) (x1 : Int) (ht : t < 8) (h1 : xm_in x1) : ∀ o, f_X1_note t σ x1 = some o → xm_M Γ I la yX1_note cX1_note 2 none 1 0 0 [.ref (xm_ad Γ (xm_cb t)), .int (xm_J x1)] σ 0 o := by
  refine xg_enter (by decide) (by simp [lg_sl, xm_rf_cat, xm_cati, xm_catr, xm_catl]) (fun X hG hI0 hla hC hQ hname => ?_)
  subst hG
  have hI := hI0.trans hE
  clear hI0 hla
  unfold f_X1_note
  refine xg_pick [0, 1] (l' := [(0, .ref (xm_ad (xx_G X) (xm_cb t))), (1, .int (xm_J x1))]) rfl ?_
  refine xg_aload_n hC dX1_note_0 rfl ?_
  refine xg_getI hC (xm_hC hI ht) rfl xl_F_X1_27 dX1_note_1 (fun k1 => ?_)
  refine xg_sipush hC dX1_note_4 (by decide) ?_
  refine xg_icmp_lt hC k1 (xm_inc _ rfl) 11 dX1_note_7 rfl (fun c2 => ?_) (fun c3 => ?_)
  · refine xg_aload_n hC dX1_note_11 rfl ?_
    refine xg_getW hC (b := xm_cb t + 2) (xm_hC hI ht) rfl (xm_w6 hI ht) (Nat.le_add_left _ _) xl_F_X1_15 dX1_note_12 ?_
    refine xg_aload_n hC dX1_note_15 rfl ?_
    refine xg_getI hC (xm_hC hI ht) rfl xl_F_X1_27 dX1_note_16 (fun k4 => ?_)
    refine xg_iload_n hC dX1_note_19 rfl ?_
    refine xg_iast hC (xm_hCb hI ht (by decide) (by decide)) rfl k4 h1 (xm_kpC hI ht (by decide) (by decide)) dX1_note_20 ?_
    refine xg_st (fun σ5 => ?_)
    refine xg_aload_n hC dX1_note_21 rfl ?_
    refine xg_getW hC (b := xm_cb t + 3) (xm_hC hI ht) rfl (xm_w7 hI ht) (Nat.le_add_left _ _) xl_F_X1_18 dX1_note_22 ?_
    refine xg_aload_n hC dX1_note_25 rfl ?_
    refine xg_getI hC (xm_hC hI ht) rfl xl_F_X1_27 dX1_note_26 (fun k6 => ?_)
    refine xg_aload_n hC dX1_note_29 rfl ?_
    refine xg_getI hC (xm_hC hI ht) rfl xl_F_X1_44 dX1_note_30 (fun k7 => ?_)
    refine xg_iast hC (xm_hCb hI ht (by decide) (by decide)) rfl k6 k7 (xm_kpC hI ht (by decide) (by decide)) dX1_note_33 ?_
    refine xg_st (fun σ8 => ?_)
    refine xg_aload_n hC dX1_note_34 rfl ?_
    refine xg_getW hC (b := xm_cb t + 4) (xm_hC hI ht) rfl (xm_w8 hI ht) (Nat.le_add_left _ _) xl_F_X1_21 dX1_note_35 ?_
    refine xg_aload_n hC dX1_note_38 rfl ?_
    refine xg_getI hC (xm_hC hI ht) rfl xl_F_X1_27 dX1_note_39 (fun k9 => ?_)
    refine xg_aload_n hC dX1_note_42 rfl ?_
    refine xg_getI hC (xm_hC hI ht) rfl xl_F_X1_41 dX1_note_43 (fun k10 => ?_)
    refine xg_iast hC (xm_hCb hI ht (by decide) (by decide)) rfl k9 k10 (xm_kpC hI ht (by decide) (by decide)) dX1_note_46 ?_
    refine xg_st (fun σ11 => ?_)
    refine xg_aload_n hC dX1_note_47 rfl ?_
    refine xg_getW hC (b := xm_cb t + 5) (xm_hC hI ht) rfl (xm_w9 hI ht) (Nat.le_add_left _ _) xl_F_X1_24 dX1_note_48 ?_
    refine xg_aload_n hC dX1_note_51 rfl ?_
    refine xg_getI hC (xm_hC hI ht) rfl xl_F_X1_27 dX1_note_52 (fun k12 => ?_)
    refine xg_aload_n hC dX1_note_55 rfl ?_
    refine xg_getI hC (xm_hC hI ht) rfl xl_F_X1_47 dX1_note_56 (fun k13 => ?_)
    refine xg_iast hC (xm_hCb hI ht (by decide) (by decide)) rfl k12 k13 (xm_kpC hI ht (by decide) (by decide)) dX1_note_59 ?_
    refine xg_st (fun σ14 => ?_)
    refine xg_aload_n hC dX1_note_60 rfl ?_
    refine xg_dup hC dX1_note_61 rfl ?_
    refine xg_getI hC (xm_hC hI ht) rfl xl_F_X1_27 dX1_note_62 (fun k15 => ?_)
    refine xg_iconst hC dX1_note_65 ?_
    refine xg_iadd hC dX1_note_66 ?_
    refine xg_putI hC (xm_hC hI ht) rfl rfl (xm_w_in _) (xm_kpT hI ht (by decide)) xl_F_X1_27 dX1_note_67 ?_
    refine xg_st (fun σ16 => ?_)
    exact xg_vret hC hQ dX1_note_70
  exact xg_vret hC hQ dX1_note_10
theorem w_X1_goThrough_j97 {X : xm_X} (hC : xm_C X yX1_goThrough.cls cX1_goThrough 4 6 0 0) (hQ : xm_Rt X 0 none 0 0) (hI : xx_I X = xm_I) {t : Nat} (ht : t < 8)   (σ : xm_Mem) (x1 : Int) (x2 : Int) (h1 : xm_in x1) (h2 : xm_in x2) : xm_V X 0 0 (f_X1_goThrough_j97 t  σ x1 x2) σ 97 [(0, .ref (xm_ad (xx_G X) (xm_cb t))), (1, .int (xm_J x1)), (2, .int (xm_J x2))] [] := by
  unfold f_X1_goThrough_j97
  refine xg_aload_n hC dX1_goThrough_97 rfl ?_
  refine xg_getI hC (xm_hC hI ht) rfl xl_F_X1_44 dX1_goThrough_98 (fun k24 => ?_)
  refine xg_iload_n hC dX1_goThrough_101 rfl ?_
  refine xg_icmp_eq hC k24 h2 110 dX1_goThrough_102 rfl (fun c25 => ?_) (fun c26 => ?_)
  · refine xg_aload_n hC dX1_goThrough_110 rfl ?_
    refine xg_iload_n hC dX1_goThrough_111 rfl ?_
    refine xg_callV hC (ci := 0) (w_X1_note hI σ t x1 ht h1) xl_M_X1_122 xl_V_X1_note (xm_hC hI ht).2 ((xm_hC hI ht).1 _) (by decide) rfl (by decide) ⟨by decide, by decide⟩ dX1_goThrough_112 (rest := []) rfl rfl (Nat.le_of_ble_eq_true rfl) rfl rfl (st2 := fun o => []) (fun _ => rfl) (fun o27 k28 => ?_)
    exact xg_vret hC hQ dX1_goThrough_115
  refine xg_aload_n hC dX1_goThrough_105 rfl ?_
  refine xg_iload_n hC dX1_goThrough_106 rfl ?_
  refine xg_putI hC (xm_hC hI ht) rfl rfl h1 (xm_kpT hI ht (by decide)) xl_F_X1_47 dX1_goThrough_107 ?_
  refine xg_st (fun σ29 => ?_)
  refine xg_aload_n hC dX1_goThrough_110 rfl ?_
  refine xg_iload_n hC dX1_goThrough_111 rfl ?_
  refine xg_callV hC (ci := 0) (w_X1_note hI σ29 t x1 ht h1) xl_M_X1_122 xl_V_X1_note (xm_hC hI ht).2 ((xm_hC hI ht).1 _) (by decide) rfl (by decide) ⟨by decide, by decide⟩ dX1_goThrough_112 (rest := []) rfl rfl (Nat.le_of_ble_eq_true rfl) rfl rfl (st2 := fun o => []) (fun _ => rfl) (fun o30 k31 => ?_)
  exact xg_vret hC hQ dX1_goThrough_115
theorem w_X1_goThrough_j83 {X : xm_X} (hC : xm_C X yX1_goThrough.cls cX1_goThrough 4 6 0 0) (hQ : xm_Rt X 0 none 0 0) (hI : xx_I X = xm_I) {t : Nat} (ht : t < 8)   (σ : xm_Mem) (x1 : Int) (x2 : Int) (h1 : xm_in x1) (h2 : xm_in x2) : xm_V X 0 0 (f_X1_goThrough_j83 t  σ x1 x2) σ 83 [(0, .ref (xm_ad (xx_G X) (xm_cb t))), (1, .int (xm_J x1)), (2, .int (xm_J x2))] [] := by
  unfold f_X1_goThrough_j83
  refine xg_aload_n hC dX1_goThrough_83 rfl ?_
  refine xg_getI hC (xm_hC hI ht) rfl xl_F_X1_44 dX1_goThrough_84 (fun k19 => ?_)
  refine xg_bipush hC dX1_goThrough_87 (by decide) ?_
  refine xg_icmp_ne hC k19 (xm_inc _ rfl) 97 dX1_goThrough_89 rfl (fun c20 => ?_) (fun c21 => ?_)
  · refine xg_aload_n hC dX1_goThrough_92 rfl ?_
    refine xg_iload_n hC dX1_goThrough_93 rfl ?_
    refine xg_callV hC (ci := 0) (w_X1_obeyCall hI σ t x1 ht h1) xl_M_X1_119 xl_V_X1_obeyCall (xm_hC hI ht).2 ((xm_hC hI ht).1 _) (by decide) rfl (by decide) ⟨by decide, by decide⟩ dX1_goThrough_94 (rest := []) rfl rfl (Nat.le_of_ble_eq_true rfl) rfl rfl (st2 := fun o => []) (fun _ => rfl) (fun o22 k23 => ?_)
    exact (w_X1_goThrough_j97 hC hQ hI ht o22.1 x1 x2 h1 h2)
  exact (w_X1_goThrough_j97 hC hQ hI ht σ x1 x2 h1 h2)
theorem w_X1_goThrough_j62 {X : xm_X} (hC : xm_C X yX1_goThrough.cls cX1_goThrough 4 6 0 0) (hQ : xm_Rt X 0 none 0 0) (hI : xx_I X = xm_I) {t : Nat} (ht : t < 8)   (σ : xm_Mem) (x1 : Int) (x2 : Int) (h1 : xm_in x1) (h2 : xm_in x2) : xm_V X 0 0 (f_X1_goThrough_j62 t  σ x1 x2) σ 62 [(0, .ref (xm_ad (xx_G X) (xm_cb t))), (1, .int (xm_J x1)), (2, .int (xm_J x2))] [] := by
  unfold f_X1_goThrough_j62
  refine xg_aload_n hC dX1_goThrough_62 rfl ?_
  refine xg_iload_n hC dX1_goThrough_63 rfl ?_
  refine xg_callV hC (ci := 0) (w_X1_mustPass hI σ t x1 ht h1) xl_M_X1_113 xl_V_X1_mustPass (xm_hC hI ht).2 ((xm_hC hI ht).1 _) (by decide) rfl (by decide) ⟨by decide, by decide⟩ dX1_goThrough_64 (rest := []) rfl rfl (Nat.le_of_ble_eq_true rfl) rfl rfl (st2 := fun o => .int (xm_J o.2) :: []) (fun _ => rfl) (fun o13 k14 => ?_)
  refine xg_if_eq hC (xm_in01 k14) 78 dX1_goThrough_67 rfl (fun c15 => ?_) (fun c16 => ?_)
  · refine xg_aload_n hC dX1_goThrough_78 rfl ?_
    refine xg_iload_n hC dX1_goThrough_79 rfl ?_
    refine xg_callV hC (ci := 0) (w_X1_giveToChildBornLate hI o13.1 t x1 ht h1) xl_M_X1_116 xl_V_X1_giveToChildBornLate (xm_hC hI ht).2 ((xm_hC hI ht).1 _) (by decide) rfl (by decide) ⟨by decide, by decide⟩ dX1_goThrough_80 (rest := []) rfl rfl (Nat.le_of_ble_eq_true rfl) rfl rfl (st2 := fun o => []) (fun _ => rfl) (fun o17 k18 => ?_)
    exact (w_X1_goThrough_j83 hC hQ hI ht o17.1 x1 x2 h1 h2)
  refine xg_aload_n hC dX1_goThrough_70 rfl ?_
  refine xg_iload_n hC dX1_goThrough_71 rfl ?_
  refine xg_callV hC (ci := 0) (w_X1_passOn hI o13.1 t x1 ht h1) xl_M_X1_109 xl_V_X1_passOn (xm_hC hI ht).2 ((xm_hC hI ht).1 _) (by decide) rfl (by decide) ⟨by decide, by decide⟩ dX1_goThrough_72 (rest := []) rfl rfl (Nat.le_of_ble_eq_true rfl) rfl rfl (st2 := fun o => []) (fun _ => rfl) (fun o32 k33 => ?_)
  refine xg_goto hC 83 dX1_goThrough_75 rfl ?_
  exact (w_X1_goThrough_j83 hC hQ hI ht o32.1 x1 x2 h1 h2)
theorem w_X1_goThrough_j40 {X : xm_X} (hC : xm_C X yX1_goThrough.cls cX1_goThrough 4 6 0 0) (hQ : xm_Rt X 0 none 0 0) (hI : xx_I X = xm_I) {t : Nat} (ht : t < 8)   (σ : xm_Mem) (x1 : Int) (x2 : Int) (x3 : Int) (h1 : xm_in x1) (h2 : xm_in x2) (h3 : 0 ≤ x3 ∧ xm_in x3) : xm_V X 0 0 (f_X1_goThrough_j40 t  σ x1 x2 x3) σ 40 [(0, .ref (xm_ad (xx_G X) (xm_cb t))), (1, .int (xm_J x1)), (2, .int (xm_J x2)), (3, xm_rf (xx_G X) x3)] [] := by
  unfold f_X1_goThrough_j40
  refine xg_rload_n hC dX1_goThrough_40 rfl ?_
  refine xg_ifnull hC 62 dX1_goThrough_41 rfl (fun c11 => ?_) (fun c12 => ?_)
  · exact xg_pick [0, 1, 2] rfl (w_X1_goThrough_j62 hC hQ hI ht σ x1 x2 h1 h2)
  refine xg_rload_n hC dX1_goThrough_44 rfl ?_
  refine xg_sgetI hC rfl xl_F_X1_81 dX1_goThrough_45 (fun k34 => ?_)
  refine xg_iload_n hC dX1_goThrough_48 rfl ?_
  refine xg_icmp_ne hC k34 h1 62 dX1_goThrough_49 rfl (fun c35 => ?_) (fun c36 => ?_)
  · refine xg_aload_n hC dX1_goThrough_52 rfl ?_
    refine xg_iload_n hC dX1_goThrough_53 rfl ?_
    refine xg_callV hC (ci := 0) (w_X1_passOn hI σ t x1 ht h1) xl_M_X1_109 xl_V_X1_passOn (xm_hC hI ht).2 ((xm_hC hI ht).1 _) (by decide) rfl (by decide) ⟨by decide, by decide⟩ dX1_goThrough_54 (rest := []) rfl rfl (Nat.le_of_ble_eq_true rfl) rfl rfl (st2 := fun o => []) (fun _ => rfl) (fun o37 k38 => ?_)
    refine xg_aload_n hC dX1_goThrough_57 rfl ?_
    refine xg_iload_n hC dX1_goThrough_58 rfl ?_
    refine xg_putI hC (xm_hC hI ht) rfl rfl h1 (xm_kpT hI ht (by decide)) xl_F_X1_47 dX1_goThrough_59 ?_
    refine xg_st (fun σ39 => ?_)
    exact xg_pick [0, 1, 2] rfl (w_X1_goThrough_j62 hC hQ hI ht σ39 x1 x2 h1 h2)
  exact xg_pick [0, 1, 2] rfl (w_X1_goThrough_j62 hC hQ hI ht σ x1 x2 h1 h2)
theorem w_X1_goThrough {Γ : xm_Gm} {I : xm_Mem → Prop} {la : Launch} (hE : I = xm_I) (σ : xm_Mem) (t : Nat) (x1 : Int) (ht : t < 8) (h1 : xm_in x1) : ∀ o, f_X1_goThrough t σ x1 = some o → xm_M Γ I la yX1_goThrough cX1_goThrough 4 none 6 0 0 [.ref (xm_ad Γ (xm_cb t)), .int (xm_J x1)] σ 0 o := by
  refine xg_enter (by decide) (by simp [lg_sl, xm_rf_cat, xm_cati, xm_catr, xm_catl]) (fun X hG hI0 hla hC hQ hname => ?_)
  subst hG
  have hI := hI0.trans hE
  clear hI0 hla
  unfold f_X1_goThrough
  refine xg_pick [0, 1] (l' := [(0, .ref (xm_ad (xx_G X) (xm_cb t))), (1, .int (xm_J x1))]) rfl ?_
  refine xg_aload_n hC dX1_goThrough_0 rfl ?_
  refine xg_getI hC (xm_hC hI ht) rfl xl_F_X1_44 dX1_goThrough_1 (fun k1 => ?_)
  refine xg_vI k1 (fun v2 k3 => ?_)
  refine xg_istore_n hC (l' := [(2, .int (xm_J v2)), (0, .ref (xm_ad (xx_G X) (xm_cb t))), (1, .int (xm_J x1))]) dX1_goThrough_4 (by decide) rfl ?_
  refine xg_aload_n hC dX1_goThrough_5 rfl ?_
  refine xg_getW hC (b := 5) (xm_hC hI ht) rfl (xm_w1 hI ht) (by decide) xl_F_X1_53 dX1_goThrough_6 ?_
  refine xg_aload_n hC dX1_goThrough_9 rfl ?_
  refine xg_getC hC (xm_hC hI ht) rfl (xm_w0 hI ht) xl_F_X1_50 dX1_goThrough_10 (fun k4 => ?_)
  refine xg_iload_n hC dX1_goThrough_13 rfl ?_
  refine xg_callV hC (ci := 6) (w_X7_latestLossOrBack hI σ (t : Int) x1 k4 h1) xl_M_X1_105 xl_V_X7_latestLossOrBack (xm_hK (a := 5) (kd := 0) (n := 6) hI rfl).2 ((xm_hK (a := 5) (kd := 0) (n := 6) hI rfl).1 _) (by decide) rfl (by decide) ⟨by decide, by decide⟩ dX1_goThrough_14 (rest := []) rfl rfl (Nat.le_of_ble_eq_true rfl) rfl rfl (st2 := fun o => xm_rf (xx_G X) o.2 :: []) (fun _ => rfl) (fun o5 k6 => ?_)
  refine xg_vR k6 (fun v7 k8 => ?_)
  refine xg_rstore_n hC (l' := [(3, xm_rf (xx_G X) v7), (2, .int (xm_J v2)), (0, .ref (xm_ad (xx_G X) (xm_cb t))), (1, .int (xm_J x1))]) dX1_goThrough_17 (by decide) rfl ?_
  refine xg_rload_n hC dX1_goThrough_18 rfl ?_
  refine xg_ifnull hC 40 dX1_goThrough_19 rfl (fun c9 => ?_) (fun c10 => ?_)
  · exact xg_pick [2, 3, 1, 0] rfl (w_X1_goThrough_j40 hC hQ hI ht o5.1 x1 v2 v7 h1 k3 ⟨k8.1, k8.2⟩)
  refine xg_rload_n hC dX1_goThrough_22 rfl ?_
  refine xg_sgetI hC rfl xl_F_X1_93 dX1_goThrough_23 (fun k40 => ?_)
  refine xg_bipush hC dX1_goThrough_26 (by decide) ?_
  refine xg_icmp_ne hC k40 (xm_inc _ rfl) 40 dX1_goThrough_28 rfl (fun c41 => ?_) (fun c42 => ?_)
  · refine xg_aload_n hC dX1_goThrough_31 rfl ?_
    refine xg_bipush hC dX1_goThrough_32 (by decide) ?_
    refine xg_putI hC (xm_hC hI ht) rfl rfl (xm_inc _ rfl) (xm_kpT hI ht (by decide)) xl_F_X1_44 dX1_goThrough_34 ?_
    refine xg_st (fun σ43 => ?_)
    refine xg_goto hC 97 dX1_goThrough_37 rfl ?_
    exact xg_pick [2, 3, 1] rfl (w_X1_goThrough_j97 hC hQ hI ht σ43 x1 v2 h1 k3)
  exact xg_pick [2, 3, 1, 0] rfl (w_X1_goThrough_j40 hC hQ hI ht o5.1 x1 v2 v7 h1 k3 ⟨k8.1, k8.2⟩)
theorem w_X1_couldMove {Γ : xm_Gm} {I : xm_Mem → Prop} {la : Launch} (hE : I = xm_I) (σ : xm_Mem) (t : Nat) (x1 : Int) (ht : t < 8) (h1 : 0 ≤ x1 ∧ xm_in x1) : ∀ o, f_X1_couldMove t σ x1 = some o → xm_M Γ I la yX1_couldMove cX1_couldMove 2 (some .boolean) 1 0 0 [.ref (xm_ad Γ (xm_cb t)), xm_rf Γ x1] σ 2 o := by
  refine xg_enter (by decide) (by simp [lg_sl, xm_rf_cat, xm_cati, xm_catr, xm_catl]) (fun X hG hI0 hla hC hQ hname => ?_)
  subst hG
  have hI := hI0.trans hE
  clear hI0 hla
  unfold f_X1_couldMove
  refine xg_pick [0, 1] (l' := [(0, .ref (xm_ad (xx_G X) (xm_cb t))), (1, xm_rf (xx_G X) x1)]) (by simp [lv_args, lv_pick, xm_rf_cat, xm_cati, xm_catr, xm_catl]) ?_
  refine xg_rload_n hC dX1_couldMove_0 rfl ?_
  refine xg_sgetI hC rfl xl_F_X1_93 dX1_couldMove_1 (fun k1 => ?_)
  refine xg_if_eq hC k1 26 dX1_couldMove_4 rfl (fun c2 => ?_) (fun c3 => ?_)
  · refine xg_iconst hC dX1_couldMove_26 ?_
    refine xg_goto hC 31 dX1_couldMove_27 rfl ?_
    exact xg_zret hC hQ (by decide) dX1_couldMove_31
  refine xg_rload_n hC dX1_couldMove_7 rfl ?_
  refine xg_sgetI hC rfl xl_F_X1_93 dX1_couldMove_8 (fun k4 => ?_)
  refine xg_iconst hC dX1_couldMove_11 ?_
  refine xg_icmp_eq hC k4 (xm_inc _ rfl) 26 dX1_couldMove_12 rfl (fun c5 => ?_) (fun c6 => ?_)
  · refine xg_iconst hC dX1_couldMove_26 ?_
    refine xg_goto hC 31 dX1_couldMove_27 rfl ?_
    exact xg_zret hC hQ (by decide) dX1_couldMove_31
  refine xg_rload_n hC dX1_couldMove_15 rfl ?_
  refine xg_sgetI hC rfl xl_F_X1_96 dX1_couldMove_16 (fun k7 => ?_)
  refine xg_aload_n hC dX1_couldMove_19 rfl ?_
  refine xg_getC hC (xm_hC hI ht) rfl (xm_w0 hI ht) xl_F_X1_50 dX1_couldMove_20 (fun k8 => ?_)
  refine xg_icmp_ne hC k7 k8 30 dX1_couldMove_23 rfl (fun c9 => ?_) (fun c10 => ?_)
  · refine xg_iconst hC dX1_couldMove_26 ?_
    refine xg_goto hC 31 dX1_couldMove_27 rfl ?_
    exact xg_zret hC hQ (by decide) dX1_couldMove_31
  refine xg_iconst hC dX1_couldMove_30 ?_
  exact xg_zret hC hQ (by decide) dX1_couldMove_31
theorem w_X1_nextDay_b4 {X : xm_X} (hC : xm_C X yX1_nextDay.cls cX1_nextDay 5 3 0 0) (hQ : xm_Rt X 1 (some .int) 0 0) (hI : xx_I X = xm_I) {t : Nat} (ht : t < 8)   {self : xm_Mem → Int → Int → Int → Option xm_Out} (hself : ∀ (σ : xm_Mem) (x1 : Int) (x2 : Int) (x3 : Int), xm_in x1 → xm_in x2 → xm_in x3 → xm_V X 0 0 (self σ x1 x2 x3) σ 4 [(0, .ref (xm_ad (xx_G X) (xm_cb t))), (1, .int (xm_J x1)), (2, .int (xm_J x2)), (3, .int (xm_J x3))] []) (σ : xm_Mem) (x1 : Int) (x2 : Int) (x3 : Int) (h1 : xm_in x1) (h2 : xm_in x2) (h3 : xm_in x3) : xm_V X 0 0 (f_X1_nextDay_b4 t  self σ x1 x2 x3) σ 4 [(0, .ref (xm_ad (xx_G X) (xm_cb t))), (1, .int (xm_J x1)), (2, .int (xm_J x2)), (3, .int (xm_J x3))] [] := by
  unfold f_X1_nextDay_b4
  refine xg_iload_n hC dX1_nextDay_4 rfl ?_
  refine xg_aload_n hC dX1_nextDay_5 rfl ?_
  refine xg_getW hC (b := 5) (xm_hC hI ht) rfl (xm_w1 hI ht) (by decide) xl_F_X1_53 dX1_nextDay_6 ?_
  refine xg_callV hC (ci := 6) (w_X7_size hI σ ) xl_M_X1_87 xl_V_X7_size (xm_hK (a := 5) (kd := 0) (n := 6) hI rfl).2 ((xm_hK (a := 5) (kd := 0) (n := 6) hI rfl).1 _) (by decide) rfl (by decide) ⟨by decide, by decide⟩ dX1_nextDay_9 (rest := [.int (xm_J x3)]) rfl rfl (Nat.le_of_ble_eq_true rfl) rfl rfl (st2 := fun o => .int (xm_J o.2) :: [.int (xm_J x3)]) (fun _ => rfl) (fun o1 k2 => ?_)
  refine xg_icmp_ge hC h3 k2 77 dX1_nextDay_12 rfl (fun c3 => ?_) (fun c4 => ?_)
  · refine xg_aload_n hC dX1_nextDay_15 rfl ?_
    refine xg_getW hC (b := 5) (xm_hC hI ht) rfl (xm_w1 hI ht) (by decide) xl_F_X1_53 dX1_nextDay_16 ?_
    refine xg_iload_n hC dX1_nextDay_19 rfl ?_
    refine xg_callV hC (ci := 6) (w_X7_standing hI o1.1 x3 h3) xl_M_X1_90 xl_V_X7_standing (xm_hK (a := 5) (kd := 0) (n := 6) hI rfl).2 ((xm_hK (a := 5) (kd := 0) (n := 6) hI rfl).1 _) (by decide) rfl (by decide) ⟨by decide, by decide⟩ dX1_nextDay_20 (rest := []) rfl rfl (Nat.le_of_ble_eq_true rfl) rfl rfl (st2 := fun o => xm_rf (xx_G X) o.2 :: []) (fun _ => rfl) (fun o5 k6 => ?_)
    refine xg_vR k6 (fun v7 k8 => ?_)
    refine xg_rstore hC (l' := [(4, xm_rf (xx_G X) v7), (0, .ref (xm_ad (xx_G X) (xm_cb t))), (1, .int (xm_J x1)), (2, .int (xm_J x2)), (3, .int (xm_J x3))]) dX1_nextDay_23 (by decide) rfl ?_
    refine xg_rload hC dX1_nextDay_25 rfl ?_
    refine xg_ifnull hC 71 dX1_nextDay_27 rfl (fun c9 => ?_) (fun c10 => ?_)
    · refine xg_iinc hC (l' := [(3, .int (xm_J (xm_w (x3 + 1)))), (4, xm_rf (xx_G X) v7), (0, .ref (xm_ad (xx_G X) (xm_cb t))), (1, .int (xm_J x1)), (2, .int (xm_J x2))]) dX1_nextDay_71 (by decide) 4 rfl rfl ?_
      refine xg_goto hC 4 dX1_nextDay_74 rfl ?_
      exact xg_pick [2, 3, 4, 0] rfl (hself o5.1 x1 x2 (xm_w (x3 + 1)) h1 h2 (xm_w_in _))
    refine xg_rload hC dX1_nextDay_30 rfl ?_
    refine xg_sgetI hC rfl xl_F_X1_81 dX1_nextDay_32 (fun k11 => ?_)
    refine xg_iload_n hC dX1_nextDay_35 rfl ?_
    refine xg_icmp_le hC k11 h1 71 dX1_nextDay_36 rfl (fun c12 => ?_) (fun c13 => ?_)
    · refine xg_aload_n hC dX1_nextDay_39 rfl ?_
      refine xg_rload hC dX1_nextDay_40 rfl ?_
      refine xg_callV hC (ci := 0) (w_X1_couldMove hI o5.1 t v7 ht ⟨k8.1, k8.2⟩) xl_M_X1_101 xl_V_X1_couldMove (xm_hC hI ht).2 ((xm_hC hI ht).1 _) (by decide) rfl (by decide) ⟨by decide, by decide⟩ dX1_nextDay_42 (rest := []) rfl rfl (Nat.le_of_ble_eq_true rfl) rfl rfl (st2 := fun o => .int (xm_J o.2) :: []) (fun _ => rfl) (fun o14 k15 => ?_)
      refine xg_if_ne hC (xm_in01 k15) 51 dX1_nextDay_45 rfl (fun c16 => ?_) (fun c17 => ?_)
      · refine xg_goto hC 71 dX1_nextDay_48 rfl ?_
        refine xg_iinc hC (l' := [(3, .int (xm_J (xm_w (x3 + 1)))), (4, xm_rf (xx_G X) v7), (0, .ref (xm_ad (xx_G X) (xm_cb t))), (1, .int (xm_J x1)), (2, .int (xm_J x2))]) dX1_nextDay_71 (by decide) 4 rfl rfl ?_
        refine xg_goto hC 4 dX1_nextDay_74 rfl ?_
        exact xg_pick [2, 3, 4, 0] rfl (hself o14.1 x1 x2 (xm_w (x3 + 1)) h1 h2 (xm_w_in _))
      refine xg_iload_n hC dX1_nextDay_51 rfl ?_
      refine xg_iconst hC dX1_nextDay_52 ?_
      refine xg_icmp_eq hC h2 (xm_inc _ rfl) 65 dX1_nextDay_53 rfl (fun c18 => ?_) (fun c19 => ?_)
      · refine xg_rload hC dX1_nextDay_65 rfl ?_
        refine xg_sgetI hC rfl xl_F_X1_81 dX1_nextDay_67 (fun k20 => ?_)
        refine xg_vI k20 (fun v21 k22 => ?_)
        refine xg_istore_n hC (l' := [(2, .int (xm_J v21)), (4, xm_rf (xx_G X) v7), (0, .ref (xm_ad (xx_G X) (xm_cb t))), (1, .int (xm_J x1)), (3, .int (xm_J x3))]) dX1_nextDay_70 (by decide) rfl ?_
        refine xg_iinc hC (l' := [(3, .int (xm_J (xm_w (x3 + 1)))), (2, .int (xm_J v21)), (4, xm_rf (xx_G X) v7), (0, .ref (xm_ad (xx_G X) (xm_cb t))), (1, .int (xm_J x1))]) dX1_nextDay_71 (by decide) 4 rfl rfl ?_
        refine xg_goto hC 4 dX1_nextDay_74 rfl ?_
        exact xg_pick [3, 4, 1, 0] rfl (hself o14.1 x1 v21 (xm_w (x3 + 1)) h1 k22 (xm_w_in _))
      refine xg_rload hC dX1_nextDay_56 rfl ?_
      refine xg_sgetI hC rfl xl_F_X1_81 dX1_nextDay_58 (fun k23 => ?_)
      refine xg_iload_n hC dX1_nextDay_61 rfl ?_
      refine xg_icmp_ge hC k23 h2 71 dX1_nextDay_62 rfl (fun c24 => ?_) (fun c25 => ?_)
      · refine xg_rload hC dX1_nextDay_65 rfl ?_
        refine xg_sgetI hC rfl xl_F_X1_81 dX1_nextDay_67 (fun k26 => ?_)
        refine xg_vI k26 (fun v27 k28 => ?_)
        refine xg_istore_n hC (l' := [(2, .int (xm_J v27)), (4, xm_rf (xx_G X) v7), (0, .ref (xm_ad (xx_G X) (xm_cb t))), (1, .int (xm_J x1)), (3, .int (xm_J x3))]) dX1_nextDay_70 (by decide) rfl ?_
        refine xg_iinc hC (l' := [(3, .int (xm_J (xm_w (x3 + 1)))), (2, .int (xm_J v27)), (4, xm_rf (xx_G X) v7), (0, .ref (xm_ad (xx_G X) (xm_cb t))), (1, .int (xm_J x1))]) dX1_nextDay_71 (by decide) 4 rfl rfl ?_
        refine xg_goto hC 4 dX1_nextDay_74 rfl ?_
        exact xg_pick [3, 4, 1, 0] rfl (hself o14.1 x1 v27 (xm_w (x3 + 1)) h1 k28 (xm_w_in _))
      refine xg_iinc hC (l' := [(3, .int (xm_J (xm_w (x3 + 1)))), (4, xm_rf (xx_G X) v7), (0, .ref (xm_ad (xx_G X) (xm_cb t))), (1, .int (xm_J x1)), (2, .int (xm_J x2))]) dX1_nextDay_71 (by decide) 4 rfl rfl ?_
      refine xg_goto hC 4 dX1_nextDay_74 rfl ?_
      exact xg_pick [2, 3, 4, 0] rfl (hself o14.1 x1 x2 (xm_w (x3 + 1)) h1 h2 (xm_w_in _))
    refine xg_iinc hC (l' := [(3, .int (xm_J (xm_w (x3 + 1)))), (4, xm_rf (xx_G X) v7), (0, .ref (xm_ad (xx_G X) (xm_cb t))), (1, .int (xm_J x1)), (2, .int (xm_J x2))]) dX1_nextDay_71 (by decide) 4 rfl rfl ?_
    refine xg_goto hC 4 dX1_nextDay_74 rfl ?_
    exact xg_pick [2, 3, 4, 0] rfl (hself o5.1 x1 x2 (xm_w (x3 + 1)) h1 h2 (xm_w_in _))
  refine xg_iload_n hC dX1_nextDay_77 rfl ?_
  exact xg_iret hC hQ h2 dX1_nextDay_78
theorem w_X1_nextDay_l4 {X : xm_X} (hC : xm_C X yX1_nextDay.cls cX1_nextDay 5 3 0 0) (hQ : xm_Rt X 1 (some .int) 0 0) (hI : xx_I X = xm_I) {t : Nat} (ht : t < 8)   (n : Nat) : ∀ (σ : xm_Mem) (x1 : Int) (x2 : Int) (x3 : Int), xm_in x1 → xm_in x2 → xm_in x3 → xm_V X 0 0 (f_X1_nextDay_l4 t  n σ x1 x2 x3) σ 4 [(0, .ref (xm_ad (xx_G X) (xm_cb t))), (1, .int (xm_J x1)), (2, .int (xm_J x2)), (3, .int (xm_J x3))] [] := by
  induction n with
  | zero => intro σ x1 x2 x3 h1 h2 h3; exact xg_none
  | succ n ih => intro σ x1 x2 x3 h1 h2 h3; exact w_X1_nextDay_b4 hC hQ hI ht ih σ x1 x2 x3 h1 h2 h3
theorem w_X1_nextDay {Γ : xm_Gm} {I : xm_Mem → Prop} {la : Launch} (hE : I = xm_I) (σ : xm_Mem) (t : Nat) (x1 : Int) (ht : t < 8) (h1 : xm_in x1) : ∀ o, f_X1_nextDay t σ x1 = some o → xm_M Γ I la yX1_nextDay cX1_nextDay 5 (some .int) 3 0 0 [.ref (xm_ad Γ (xm_cb t)), .int (xm_J x1)] σ 1 o := by
  refine xg_enter (by decide) (by simp [lg_sl, xm_rf_cat, xm_cati, xm_catr, xm_catl]) (fun X hG hI0 hla hC hQ hname => ?_)
  subst hG
  have hI := hI0.trans hE
  clear hI0 hla
  unfold f_X1_nextDay
  refine xg_pick [0, 1] (l' := [(0, .ref (xm_ad (xx_G X) (xm_cb t))), (1, .int (xm_J x1))]) rfl ?_
  refine xg_iconst hC dX1_nextDay_0 ?_
  refine xg_istore_n hC (l' := [(2, .int (xm_J (-1 : Int))), (0, .ref (xm_ad (xx_G X) (xm_cb t))), (1, .int (xm_J x1))]) dX1_nextDay_1 (by decide) rfl ?_
  refine xg_iconst hC dX1_nextDay_2 ?_
  refine xg_istore_n hC (l' := [(3, .int (xm_J (0 : Int))), (2, .int (xm_J (-1 : Int))), (0, .ref (xm_ad (xx_G X) (xm_cb t))), (1, .int (xm_J x1))]) dX1_nextDay_3 (by decide) rfl ?_
  exact xg_pick [2, 3, 1, 0] rfl (w_X1_nextDay_l4 hC hQ hI ht _ σ x1 (-1 : Int) (0 : Int) h1 (xm_inc _ rfl) (xm_inc _ rfl))
theorem w_X10_courseOf_b24 {X : xm_X} (hC : xm_C X yX10_courseOf.cls cX10_courseOf 5 7 0 0) (hQ : xm_Rt X 4 (some (.object "HeirRoll$Course")) 0 0) (hI : xx_I X = xm_I)   {self : xm_Mem → Int → Int → Int → Option xm_Out} (hself : ∀ (σ : xm_Mem) (x2 : Int) (x3 : Int) (x4 : Int), 0 ≤ x2 ∧ x2 < 8 → xm_in x3 → xm_in x4 → xm_V X 0 0 (self σ x2 x3 x4) σ 24 [(2, .ref (xm_ad (xx_G X) (xm_cb x2.toNat))), (3, .int (xm_J x3)), (4, .int (xm_J x4))] []) (σ : xm_Mem) (x2 : Int) (x3 : Int) (x4 : Int) (h2 : 0 ≤ x2 ∧ x2 < 8) (h3 : xm_in x3) (h4 : xm_in x4) : xm_V X 0 0 (f_X10_courseOf_b24  self σ x2 x3 x4) σ 24 [(2, .ref (xm_ad (xx_G X) (xm_cb x2.toNat))), (3, .int (xm_J x3)), (4, .int (xm_J x4))] [] := by
  unfold f_X10_courseOf_b24
  refine xg_iload hC dX10_courseOf_24 rfl ?_
  refine xg_sipush hC dX10_courseOf_26 (by decide) ?_
  refine xg_icmp_ge hC h4 (xm_inc _ rfl) 54 dX10_courseOf_29 rfl (fun c9 => ?_) (fun c10 => ?_)
  · refine xg_iload_n hC dX10_courseOf_32 rfl ?_
    refine xg_iconst hC dX10_courseOf_33 ?_
    refine xg_icmp_eq hC h3 (xm_inc _ rfl) 54 dX10_courseOf_34 rfl (fun c11 => ?_) (fun c12 => ?_)
    · refine xg_aload_n hC dX10_courseOf_54 rfl ?_
      exact xg_cret hC hQ h2 dX10_courseOf_55
    refine xg_aload_n hC dX10_courseOf_37 rfl ?_
    refine xg_iload_n hC dX10_courseOf_38 rfl ?_
    refine xg_callV hC (ci := 0) (w_X1_goThrough hI σ x2.toNat x3 (xm_c8 h2) h3) xl_M_X10_266 xl_V_X1_goThrough (xm_hC hI (xm_c8 h2)).2 ((xm_hC hI (xm_c8 h2)).1 _) (by decide) rfl (by decide) ⟨by decide, by decide⟩ dX10_courseOf_39 (rest := []) rfl rfl (Nat.le_of_ble_eq_true rfl) rfl rfl (st2 := fun o => []) (fun _ => rfl) (fun o13 k14 => ?_)
    refine xg_aload_n hC dX10_courseOf_42 rfl ?_
    refine xg_iload_n hC dX10_courseOf_43 rfl ?_
    refine xg_callV hC (ci := 0) (w_X1_nextDay hI o13.1 x2.toNat x3 (xm_c8 h2) h3) xl_M_X10_269 xl_V_X1_nextDay (xm_hC hI (xm_c8 h2)).2 ((xm_hC hI (xm_c8 h2)).1 _) (by decide) rfl (by decide) ⟨by decide, by decide⟩ dX10_courseOf_44 (rest := []) rfl rfl (Nat.le_of_ble_eq_true rfl) rfl rfl (st2 := fun o => .int (xm_J o.2) :: []) (fun _ => rfl) (fun o15 k16 => ?_)
    refine xg_istore_n hC (l' := [(3, .int (xm_J o15.2)), (2, .ref (xm_ad (xx_G X) (xm_cb x2.toNat))), (4, .int (xm_J x4))]) dX10_courseOf_47 (by decide) rfl ?_
    refine xg_iinc hC (l' := [(4, .int (xm_J (xm_w (x4 + 1)))), (3, .int (xm_J o15.2)), (2, .ref (xm_ad (xx_G X) (xm_cb x2.toNat)))]) dX10_courseOf_48 (by decide) 2 rfl rfl ?_
    refine xg_goto hC 24 dX10_courseOf_51 rfl ?_
    exact xg_pick [2, 1, 0] rfl (hself o15.1 x2 o15.2 (xm_w (x4 + 1)) h2 k16 (xm_w_in _))
  refine xg_aload_n hC dX10_courseOf_54 rfl ?_
  exact xg_cret hC hQ h2 dX10_courseOf_55
theorem w_X10_courseOf_l24 {X : xm_X} (hC : xm_C X yX10_courseOf.cls cX10_courseOf 5 7 0 0) (hQ : xm_Rt X 4 (some (.object "HeirRoll$Course")) 0 0) (hI : xx_I X = xm_I)   (n : Nat) : ∀ (σ : xm_Mem) (x2 : Int) (x3 : Int) (x4 : Int), 0 ≤ x2 ∧ x2 < 8 → xm_in x3 → xm_in x4 → xm_V X 0 0 (f_X10_courseOf_l24  n σ x2 x3 x4) σ 24 [(2, .ref (xm_ad (xx_G X) (xm_cb x2.toNat))), (3, .int (xm_J x3)), (4, .int (xm_J x4))] [] := by
  induction n with
  | zero => intro σ x2 x3 x4 h2 h3 h4; exact xg_none
  | succ n ih => intro σ x2 x3 x4 h2 h3 h4; exact w_X10_courseOf_b24 hC hQ hI ih σ x2 x3 x4 h2 h3 h4
theorem w_X10_courseOf {Γ : xm_Gm} {I : xm_Mem → Prop} {la : Launch} (hE : I = xm_I) (σ : xm_Mem) (x1 : Int) (h1 : xm_in x1) : ∀ o, f_X10_courseOf σ x1 = some o → xm_M Γ I la yX10_courseOf cX10_courseOf 5 (some (.object "HeirRoll$Course")) 7 0 0 [.ref (xm_ad Γ 1), .int (xm_J x1)] σ 4 o := by
  refine xg_enter (by decide) (by simp [lg_sl, xm_rf_cat, xm_cati, xm_catr, xm_catl]) (fun X hG hI0 hla hC hQ hname => ?_)
  subst hG
  have hI := hI0.trans hE
  clear hI0 hla
  unfold f_X10_courseOf
  refine xg_pick [0, 1] (l' := [(0, .ref (xm_ad (xx_G X) 1)), (1, .int (xm_J x1))]) rfl ?_
  refine xg_aload_n hC dX10_courseOf_0 rfl ?_
  refine xg_getW hC (b := 35) (xm_hK hI rfl) rfl (xm_wK hI rfl) (by decide) xl_F_X10_66 dX10_courseOf_1 ?_
  refine xg_iload_n hC dX10_courseOf_4 rfl ?_
  refine xg_cald hC (xm_hK hI rfl) (xm_cw hI) h1 dX10_courseOf_5 (fun b1 => ?_)
  refine xg_astore_n hC (l' := [(2, .ref (xm_ad (xx_G X) (xm_cb x1.toNat))), (0, .ref (xm_ad (xx_G X) 1)), (1, .int (xm_J x1))]) dX10_courseOf_6 (by decide) rfl ?_
  refine xg_aload_n hC dX10_courseOf_7 rfl ?_
  refine xg_callV hC (ci := 0) (w_X1_isKnown hI σ x1.toNat (xm_c8 b1)) xl_M_X10_260 xl_V_X1_isKnown (xm_hC hI (xm_c8 b1)).2 ((xm_hC hI (xm_c8 b1)).1 _) (by decide) rfl (by decide) ⟨by decide, by decide⟩ dX10_courseOf_8 (rest := []) rfl rfl (Nat.le_of_ble_eq_true rfl) rfl rfl (st2 := fun o => .int (xm_J o.2) :: []) (fun _ => rfl) (fun o3 k4 => ?_)
  refine xg_if_eq hC (xm_in01 k4) 16 dX10_courseOf_11 rfl (fun c5 => ?_) (fun c6 => ?_)
  · refine xg_aload_n hC dX10_courseOf_16 rfl ?_
    refine xg_callV hC (ci := 0) (w_X1_begin hI o3.1 x1.toNat (xm_c8 b1)) xl_M_X10_263 xl_V_X1_begin (xm_hC hI (xm_c8 b1)).2 ((xm_hC hI (xm_c8 b1)).1 _) (by decide) rfl (by decide) ⟨by decide, by decide⟩ dX10_courseOf_17 (rest := []) rfl rfl (Nat.le_of_ble_eq_true rfl) rfl rfl (st2 := fun o => .int (xm_J o.2) :: []) (fun _ => rfl) (fun o7 k8 => ?_)
    refine xg_istore_n hC (l' := [(3, .int (xm_J o7.2)), (2, .ref (xm_ad (xx_G X) (xm_cb x1.toNat))), (0, .ref (xm_ad (xx_G X) 1)), (1, .int (xm_J x1))]) dX10_courseOf_20 (by decide) rfl ?_
    refine xg_iconst hC dX10_courseOf_21 ?_
    refine xg_istore hC (l' := [(4, .int (xm_J (0 : Int))), (3, .int (xm_J o7.2)), (2, .ref (xm_ad (xx_G X) (xm_cb x1.toNat))), (0, .ref (xm_ad (xx_G X) 1)), (1, .int (xm_J x1))]) dX10_courseOf_22 (by decide) rfl ?_
    exact xg_pick [2, 1, 0] rfl (w_X10_courseOf_l24 hC hQ hI _ o7.1 x1 o7.2 (0 : Int) b1 k8 (xm_inc _ rfl))
  refine xg_aload_n hC dX10_courseOf_14 rfl ?_
  exact xg_cret hC hQ b1 dX10_courseOf_15
theorem w_X1_stepOn_b4 {X : xm_X} (hC : xm_C X yX1_stepOn.cls cX1_stepOn 4 1 0 0) (hQ : xm_Rt X 1 (some .int) 0 0) (hI : xx_I X = xm_I) {t : Nat} (ht : t < 8)   {self : xm_Mem → Int → Int → Int → Option xm_Out} (hself : ∀ (σ : xm_Mem) (x1 : Int) (x2 : Int) (x3 : Int), xm_in x1 → xm_in x2 → xm_in x3 → xm_V X 0 0 (self σ x1 x2 x3) σ 4 [(0, .ref (xm_ad (xx_G X) (xm_cb t))), (1, .int (xm_J x1)), (2, .int (xm_J x2)), (3, .int (xm_J x3))] []) (σ : xm_Mem) (x1 : Int) (x2 : Int) (x3 : Int) (h1 : xm_in x1) (h2 : xm_in x2) (h3 : xm_in x3) : xm_V X 0 0 (f_X1_stepOn_b4 t  self σ x1 x2 x3) σ 4 [(0, .ref (xm_ad (xx_G X) (xm_cb t))), (1, .int (xm_J x1)), (2, .int (xm_J x2)), (3, .int (xm_J x3))] [] := by
  unfold f_X1_stepOn_b4
  refine xg_iload_n hC dX1_stepOn_4 rfl ?_
  refine xg_aload_n hC dX1_stepOn_5 rfl ?_
  refine xg_getI hC (xm_hC hI ht) rfl xl_F_X1_27 dX1_stepOn_6 (fun k1 => ?_)
  refine xg_icmp_ge hC h3 k1 30 dX1_stepOn_9 rfl (fun c2 => ?_) (fun c3 => ?_)
  · refine xg_aload_n hC dX1_stepOn_12 rfl ?_
    refine xg_getW hC (b := xm_cb t + 2) (xm_hC hI ht) rfl (xm_w6 hI ht) (Nat.le_add_left _ _) xl_F_X1_15 dX1_stepOn_13 ?_
    refine xg_iload_n hC dX1_stepOn_16 rfl ?_
    refine xg_iald hC (xm_hCb hI ht (by decide) (by decide)) rfl h3 dX1_stepOn_17 (fun b4 k5 => ?_)
    refine xg_iload_n hC dX1_stepOn_18 rfl ?_
    refine xg_icmp_gt hC k5 h1 24 dX1_stepOn_19 rfl (fun c6 => ?_) (fun c7 => ?_)
    · refine xg_iinc hC (l' := [(3, .int (xm_J (xm_w (x3 + 1)))), (0, .ref (xm_ad (xx_G X) (xm_cb t))), (1, .int (xm_J x1)), (2, .int (xm_J x2))]) dX1_stepOn_24 (by decide) 3 rfl rfl ?_
      refine xg_goto hC 4 dX1_stepOn_27 rfl ?_
      exact xg_pick [1, 2, 3, 0] rfl (hself σ x1 x2 (xm_w (x3 + 1)) h1 h2 (xm_w_in _))
    refine xg_iload_n hC dX1_stepOn_22 rfl ?_
    refine xg_istore_n hC (l' := [(2, .int (xm_J x3)), (0, .ref (xm_ad (xx_G X) (xm_cb t))), (1, .int (xm_J x1)), (3, .int (xm_J x3))]) dX1_stepOn_23 (by decide) rfl ?_
    refine xg_iinc hC (l' := [(3, .int (xm_J (xm_w (x3 + 1)))), (2, .int (xm_J x3)), (0, .ref (xm_ad (xx_G X) (xm_cb t))), (1, .int (xm_J x1))]) dX1_stepOn_24 (by decide) 3 rfl rfl ?_
    refine xg_goto hC 4 dX1_stepOn_27 rfl ?_
    exact xg_pick [2, 3, 1, 0] rfl (hself σ x1 x3 (xm_w (x3 + 1)) h1 h3 (xm_w_in _))
  refine xg_iload_n hC dX1_stepOn_30 rfl ?_
  exact xg_iret hC hQ h2 dX1_stepOn_31
theorem w_X1_stepOn_l4 {X : xm_X} (hC : xm_C X yX1_stepOn.cls cX1_stepOn 4 1 0 0) (hQ : xm_Rt X 1 (some .int) 0 0) (hI : xx_I X = xm_I) {t : Nat} (ht : t < 8)   (n : Nat) : ∀ (σ : xm_Mem) (x1 : Int) (x2 : Int) (x3 : Int), xm_in x1 → xm_in x2 → xm_in x3 → xm_V X 0 0 (f_X1_stepOn_l4 t  n σ x1 x2 x3) σ 4 [(0, .ref (xm_ad (xx_G X) (xm_cb t))), (1, .int (xm_J x1)), (2, .int (xm_J x2)), (3, .int (xm_J x3))] [] := by
  induction n with
  | zero => intro σ x1 x2 x3 h1 h2 h3; exact xg_none
  | succ n ih => intro σ x1 x2 x3 h1 h2 h3; exact w_X1_stepOn_b4 hC hQ hI ht ih σ x1 x2 x3 h1 h2 h3
theorem w_X1_stepOn {Γ : xm_Gm} {I : xm_Mem → Prop} {la : Launch} (hE : I = xm_I) (σ : xm_Mem) (t : Nat) (x1 : Int) (ht : t < 8) (h1 : xm_in x1) : ∀ o, f_X1_stepOn t σ x1 = some o → xm_M Γ I la yX1_stepOn cX1_stepOn 4 (some .int) 1 0 0 [.ref (xm_ad Γ (xm_cb t)), .int (xm_J x1)] σ 1 o := by
  refine xg_enter (by decide) (by simp [lg_sl, xm_rf_cat, xm_cati, xm_catr, xm_catl]) (fun X hG hI0 hla hC hQ hname => ?_)
  subst hG
  have hI := hI0.trans hE
  clear hI0 hla
  unfold f_X1_stepOn
  refine xg_pick [0, 1] (l' := [(0, .ref (xm_ad (xx_G X) (xm_cb t))), (1, .int (xm_J x1))]) rfl ?_
  refine xg_iconst hC dX1_stepOn_0 ?_
  refine xg_istore_n hC (l' := [(2, .int (xm_J (-1 : Int))), (0, .ref (xm_ad (xx_G X) (xm_cb t))), (1, .int (xm_J x1))]) dX1_stepOn_1 (by decide) rfl ?_
  refine xg_iconst hC dX1_stepOn_2 ?_
  refine xg_istore_n hC (l' := [(3, .int (xm_J (0 : Int))), (2, .int (xm_J (-1 : Int))), (0, .ref (xm_ad (xx_G X) (xm_cb t))), (1, .int (xm_J x1))]) dX1_stepOn_3 (by decide) rfl ?_
  exact xg_pick [2, 3, 1, 0] rfl (w_X1_stepOn_l4 hC hQ hI ht _ σ x1 (-1 : Int) (0 : Int) h1 (xm_inc _ rfl) (xm_inc _ rfl))
theorem w_X1_isStep {Γ : xm_Gm} {I : xm_Mem → Prop} {la : Launch} (hE : I = xm_I) (σ : xm_Mem) (t : Nat) (x1 : Int) (ht : t < 8) (h1 : xm_in x1) : ∀ o, f_X1_isStep t σ x1 = some o → xm_M Γ I la yX1_isStep cX1_isStep 2 (some .boolean) 1 0 0 [.ref (xm_ad Γ (xm_cb t)), .int (xm_J x1)] σ 2 o := by
  refine xg_enter (by decide) (by simp [lg_sl, xm_rf_cat, xm_cati, xm_catr, xm_catl]) (fun X hG hI0 hla hC hQ hname => ?_)
  subst hG
  have hI := hI0.trans hE
  clear hI0 hla
  unfold f_X1_isStep
  refine xg_pick [0, 1] (l' := [(0, .ref (xm_ad (xx_G X) (xm_cb t))), (1, .int (xm_J x1))]) rfl ?_
  refine xg_iload_n hC dX1_isStep_0 rfl ?_
  refine xg_if_lt hC h1 16 dX1_isStep_1 rfl (fun c1 => ?_) (fun c2 => ?_)
  · refine xg_iconst hC dX1_isStep_16 ?_
    exact xg_zret hC hQ (by decide) dX1_isStep_17
  refine xg_iload_n hC dX1_isStep_4 rfl ?_
  refine xg_aload_n hC dX1_isStep_5 rfl ?_
  refine xg_getI hC (xm_hC hI ht) rfl xl_F_X1_27 dX1_isStep_6 (fun k3 => ?_)
  refine xg_icmp_ge hC h1 k3 16 dX1_isStep_9 rfl (fun c4 => ?_) (fun c5 => ?_)
  · refine xg_iconst hC dX1_isStep_12 ?_
    refine xg_goto hC 17 dX1_isStep_13 rfl ?_
    exact xg_zret hC hQ (by decide) dX1_isStep_17
  refine xg_iconst hC dX1_isStep_16 ?_
  exact xg_zret hC hQ (by decide) dX1_isStep_17
theorem w_X1_state {Γ : xm_Gm} {I : xm_Mem → Prop} {la : Launch} (hE : I = xm_I) (σ : xm_Mem) (t : Nat) (x1 : Int) (ht : t < 8) (h1 : xm_in x1) : ∀ o, f_X1_state t σ x1 = some o → xm_M Γ I la yX1_state cX1_state 2 (some .int) 2 0 0 [.ref (xm_ad Γ (xm_cb t)), .int (xm_J x1)] σ 1 o := by
  refine xg_enter (by decide) (by simp [lg_sl, xm_rf_cat, xm_cati, xm_catr, xm_catl]) (fun X hG hI0 hla hC hQ hname => ?_)
  subst hG
  have hI := hI0.trans hE
  clear hI0 hla
  unfold f_X1_state
  refine xg_pick [0, 1] (l' := [(0, .ref (xm_ad (xx_G X) (xm_cb t))), (1, .int (xm_J x1))]) rfl ?_
  refine xg_aload_n hC dX1_state_0 rfl ?_
  refine xg_iload_n hC dX1_state_1 rfl ?_
  refine xg_callV hC (ci := 0) (w_X1_isStep hI σ t x1 ht h1) xl_M_X1_168 xl_V_X1_isStep (xm_hC hI ht).2 ((xm_hC hI ht).1 _) (by decide) rfl (by decide) ⟨by decide, by decide⟩ dX1_state_2 (rest := []) rfl rfl (Nat.le_of_ble_eq_true rfl) rfl rfl (st2 := fun o => .int (xm_J o.2) :: []) (fun _ => rfl) (fun o1 k2 => ?_)
  refine xg_if_eq hC (xm_in01 k2) 17 dX1_state_5 rfl (fun c3 => ?_) (fun c4 => ?_)
  · refine xg_bipush hC dX1_state_17 (by decide) ?_
    exact xg_iret hC hQ (xm_inc _ rfl) dX1_state_19
  refine xg_aload_n hC dX1_state_8 rfl ?_
  refine xg_getW hC (b := xm_cb t + 3) (xm_hC hI ht) rfl (xm_w7 hI ht) (Nat.le_add_left _ _) xl_F_X1_18 dX1_state_9 ?_
  refine xg_iload_n hC dX1_state_12 rfl ?_
  refine xg_iald hC (xm_hCb hI ht (by decide) (by decide)) rfl h1 dX1_state_13 (fun b5 k6 => ?_)
  refine xg_goto hC 19 dX1_state_14 rfl ?_
  exact xg_iret hC hQ k6 dX1_state_19
theorem w_X10_holder {Γ : xm_Gm} {I : xm_Mem → Prop} {la : Launch} (hE : I = xm_I) (σ : xm_Mem) (x1 : Int) (x2 : Int) (h1 : xm_in x1) (h2 : xm_in x2) : ∀ o, f_X10_holder σ x1 x2 = some o → xm_M Γ I la yX10_holder cX10_holder 4 (some .int) 8 0 0 [.ref (xm_ad Γ 1), .int (xm_J x1), .int (xm_J x2)] σ 1 o := by
  refine xg_enter (by decide) (by simp [lg_sl, xm_rf_cat, xm_cati, xm_catr, xm_catl]) (fun X hG hI0 hla hC hQ hname => ?_)
  subst hG
  have hI := hI0.trans hE
  clear hI0 hla
  unfold f_X10_holder
  refine xg_pick [0, 1, 2] (l' := [(0, .ref (xm_ad (xx_G X) 1)), (1, .int (xm_J x1)), (2, .int (xm_J x2))]) rfl ?_
  refine xg_aload_n hC dX10_holder_0 rfl ?_
  refine xg_getW hC (b := 5) (xm_hK hI rfl) rfl (xm_wK hI rfl) (by decide) xl_F_X10_28 dX10_holder_1 ?_
  refine xg_iload_n hC dX10_holder_4 rfl ?_
  refine xg_callV hC (ci := 6) (w_X7_hasTitle hI σ x1 h1) xl_M_X10_201 xl_V_X7_hasTitle (xm_hK (a := 5) (kd := 0) (n := 6) hI rfl).2 ((xm_hK (a := 5) (kd := 0) (n := 6) hI rfl).1 _) (by decide) rfl (by decide) ⟨by decide, by decide⟩ dX10_holder_5 (rest := []) rfl rfl (Nat.le_of_ble_eq_true rfl) rfl rfl (st2 := fun o => .int (xm_J o.2) :: []) (fun _ => rfl) (fun o1 k2 => ?_)
  refine xg_if_ne hC (xm_in01 k2) 17 dX10_holder_8 rfl (fun c3 => ?_) (fun c4 => ?_)
  · refine xg_aload_n hC dX10_holder_11 rfl ?_
    refine xg_iconst hC dX10_holder_12 ?_
    refine xg_callV hC (ci := 9) (w_X10_refuse hI o1.1 (1 : Int) (xm_inc _ rfl)) xl_M_X10_87 xl_V_X10_refuse (xm_hK (a := 1) (kd := 0) (n := 9) hI rfl).2 ((xm_hK (a := 1) (kd := 0) (n := 9) hI rfl).1 _) (by decide) rfl (by decide) ⟨by decide, by decide⟩ dX10_holder_13 (rest := []) rfl rfl (Nat.le_of_ble_eq_true rfl) rfl rfl (st2 := fun o => .int (xm_J o.2) :: []) (fun _ => rfl) (fun o5 k6 => ?_)
    exact xg_iret hC hQ k6 dX10_holder_16
  refine xg_iload_n hC dX10_holder_17 rfl ?_
  refine xg_callS hC (w_X10_isDay hI o1.1 x2 h2) xl_M_X10_191 xl_S_X10_isDay (by decide) ⟨by decide, by decide⟩ dX10_holder_18 (rest := []) rfl rfl (Nat.le_of_ble_eq_true rfl) rfl rfl (st2 := fun o => .int (xm_J o.2) :: []) (fun _ => rfl) (fun o7 k8 => ?_)
  refine xg_if_ne hC (xm_in01 k8) 30 dX10_holder_21 rfl (fun c9 => ?_) (fun c10 => ?_)
  · refine xg_aload_n hC dX10_holder_24 rfl ?_
    refine xg_iconst hC dX10_holder_25 ?_
    refine xg_callV hC (ci := 9) (w_X10_refuse hI o7.1 (3 : Int) (xm_inc _ rfl)) xl_M_X10_87 xl_V_X10_refuse (xm_hK (a := 1) (kd := 0) (n := 9) hI rfl).2 ((xm_hK (a := 1) (kd := 0) (n := 9) hI rfl).1 _) (by decide) rfl (by decide) ⟨by decide, by decide⟩ dX10_holder_26 (rest := []) rfl rfl (Nat.le_of_ble_eq_true rfl) rfl rfl (st2 := fun o => .int (xm_J o.2) :: []) (fun _ => rfl) (fun o11 k12 => ?_)
    exact xg_iret hC hQ k12 dX10_holder_29
  refine xg_aload_n hC dX10_holder_30 rfl ?_
  refine xg_iload_n hC dX10_holder_31 rfl ?_
  refine xg_callV hC (ci := 9) (w_X10_courseOf hI o7.1 x1 h1) xl_M_X10_204 xl_V_X10_courseOf (xm_hK (a := 1) (kd := 0) (n := 9) hI rfl).2 ((xm_hK (a := 1) (kd := 0) (n := 9) hI rfl).1 _) (by decide) rfl (by decide) ⟨by decide, by decide⟩ dX10_holder_32 (rest := []) rfl rfl (Nat.le_of_ble_eq_true rfl) rfl rfl (st2 := fun o => .ref (xm_ad (xx_G X) (xm_cb o.2.toNat)) :: []) (fun _ => rfl) (fun o13 k14 => ?_)
  refine xg_astore_n hC (l' := [(3, .ref (xm_ad (xx_G X) (xm_cb o13.2.toNat))), (0, .ref (xm_ad (xx_G X) 1)), (1, .int (xm_J x1)), (2, .int (xm_J x2))]) dX10_holder_35 (by decide) rfl ?_
  refine xg_aload_n hC dX10_holder_36 rfl ?_
  refine xg_aload_n hC dX10_holder_37 rfl ?_
  refine xg_aload_n hC dX10_holder_38 rfl ?_
  refine xg_iload_n hC dX10_holder_39 rfl ?_
  refine xg_callV hC (ci := 0) (w_X1_stepOn hI o13.1 o13.2.toNat x2 (xm_c8 k14) h2) xl_M_X10_208 xl_V_X1_stepOn (xm_hC hI (xm_c8 k14)).2 ((xm_hC hI (xm_c8 k14)).1 _) (by decide) rfl (by decide) ⟨by decide, by decide⟩ dX10_holder_40 (rest := [.ref (xm_ad (xx_G X) (xm_cb o13.2.toNat)), .ref (xm_ad (xx_G X) 1)]) rfl rfl (Nat.le_of_ble_eq_true rfl) rfl rfl (st2 := fun o => .int (xm_J o.2) :: [.ref (xm_ad (xx_G X) (xm_cb o13.2.toNat)), .ref (xm_ad (xx_G X) 1)]) (fun _ => rfl) (fun o15 k16 => ?_)
  refine xg_callV hC (ci := 0) (w_X1_state hI o15.1 o13.2.toNat o15.2 (xm_c8 k14) k16) xl_M_X10_211 xl_V_X1_state (xm_hC hI (xm_c8 k14)).2 ((xm_hC hI (xm_c8 k14)).1 _) (by decide) rfl (by decide) ⟨by decide, by decide⟩ dX10_holder_43 (rest := [.ref (xm_ad (xx_G X) 1)]) rfl rfl (Nat.le_of_ble_eq_true rfl) rfl rfl (st2 := fun o => .int (xm_J o.2) :: [.ref (xm_ad (xx_G X) 1)]) (fun _ => rfl) (fun o17 k18 => ?_)
  refine xg_callV hC (ci := 9) (w_X10_accept hI o17.1 o17.2 k18) xl_M_X10_99 xl_V_X10_accept (xm_hK (a := 1) (kd := 0) (n := 9) hI rfl).2 ((xm_hK (a := 1) (kd := 0) (n := 9) hI rfl).1 _) (by decide) rfl (by decide) ⟨by decide, by decide⟩ dX10_holder_46 (rest := []) rfl rfl (Nat.le_of_ble_eq_true rfl) rfl rfl (st2 := fun o => .int (xm_J o.2) :: []) (fun _ => rfl) (fun o19 k20 => ?_)
  exact xg_iret hC hQ k20 dX10_holder_49
theorem w_X1_firstDay {Γ : xm_Gm} {I : xm_Mem → Prop} {la : Launch} (hE : I = xm_I) (σ : xm_Mem) (t : Nat) (x1 : Int) (ht : t < 8) (h1 : xm_in x1) : ∀ o, f_X1_firstDay t σ x1 = some o → xm_M Γ I la yX1_firstDay cX1_firstDay 2 (some .int) 2 0 0 [.ref (xm_ad Γ (xm_cb t)), .int (xm_J x1)] σ 1 o := by
  refine xg_enter (by decide) (by simp [lg_sl, xm_rf_cat, xm_cati, xm_catr, xm_catl]) (fun X hG hI0 hla hC hQ hname => ?_)
  subst hG
  have hI := hI0.trans hE
  clear hI0 hla
  unfold f_X1_firstDay
  refine xg_pick [0, 1] (l' := [(0, .ref (xm_ad (xx_G X) (xm_cb t))), (1, .int (xm_J x1))]) rfl ?_
  refine xg_aload_n hC dX1_firstDay_0 rfl ?_
  refine xg_iload_n hC dX1_firstDay_1 rfl ?_
  refine xg_callV hC (ci := 0) (w_X1_isStep hI σ t x1 ht h1) xl_M_X1_168 xl_V_X1_isStep (xm_hC hI ht).2 ((xm_hC hI ht).1 _) (by decide) rfl (by decide) ⟨by decide, by decide⟩ dX1_firstDay_2 (rest := []) rfl rfl (Nat.le_of_ble_eq_true rfl) rfl rfl (st2 := fun o => .int (xm_J o.2) :: []) (fun _ => rfl) (fun o1 k2 => ?_)
  refine xg_if_eq hC (xm_in01 k2) 17 dX1_firstDay_5 rfl (fun c3 => ?_) (fun c4 => ?_)
  · refine xg_iconst hC dX1_firstDay_17 ?_
    exact xg_iret hC hQ (xm_inc _ rfl) dX1_firstDay_18
  refine xg_aload_n hC dX1_firstDay_8 rfl ?_
  refine xg_getW hC (b := xm_cb t + 5) (xm_hC hI ht) rfl (xm_w9 hI ht) (Nat.le_add_left _ _) xl_F_X1_24 dX1_firstDay_9 ?_
  refine xg_iload_n hC dX1_firstDay_12 rfl ?_
  refine xg_iald hC (xm_hCb hI ht (by decide) (by decide)) rfl h1 dX1_firstDay_13 (fun b5 k6 => ?_)
  refine xg_goto hC 18 dX1_firstDay_14 rfl ?_
  exact xg_iret hC hQ k6 dX1_firstDay_18
theorem w_X10_since {Γ : xm_Gm} {I : xm_Mem → Prop} {la : Launch} (hE : I = xm_I) (σ : xm_Mem) (x1 : Int) (x2 : Int) (h1 : xm_in x1) (h2 : xm_in x2) : ∀ o, f_X10_since σ x1 x2 = some o → xm_M Γ I la yX10_since cX10_since 4 (some .int) 8 0 0 [.ref (xm_ad Γ 1), .int (xm_J x1), .int (xm_J x2)] σ 1 o := by
  refine xg_enter (by decide) (by simp [lg_sl, xm_rf_cat, xm_cati, xm_catr, xm_catl]) (fun X hG hI0 hla hC hQ hname => ?_)
  subst hG
  have hI := hI0.trans hE
  clear hI0 hla
  unfold f_X10_since
  refine xg_pick [0, 1, 2] (l' := [(0, .ref (xm_ad (xx_G X) 1)), (1, .int (xm_J x1)), (2, .int (xm_J x2))]) rfl ?_
  refine xg_aload_n hC dX10_since_0 rfl ?_
  refine xg_getW hC (b := 5) (xm_hK hI rfl) rfl (xm_wK hI rfl) (by decide) xl_F_X10_28 dX10_since_1 ?_
  refine xg_iload_n hC dX10_since_4 rfl ?_
  refine xg_callV hC (ci := 6) (w_X7_hasTitle hI σ x1 h1) xl_M_X10_201 xl_V_X7_hasTitle (xm_hK (a := 5) (kd := 0) (n := 6) hI rfl).2 ((xm_hK (a := 5) (kd := 0) (n := 6) hI rfl).1 _) (by decide) rfl (by decide) ⟨by decide, by decide⟩ dX10_since_5 (rest := []) rfl rfl (Nat.le_of_ble_eq_true rfl) rfl rfl (st2 := fun o => .int (xm_J o.2) :: []) (fun _ => rfl) (fun o1 k2 => ?_)
  refine xg_if_ne hC (xm_in01 k2) 17 dX10_since_8 rfl (fun c3 => ?_) (fun c4 => ?_)
  · refine xg_aload_n hC dX10_since_11 rfl ?_
    refine xg_iconst hC dX10_since_12 ?_
    refine xg_callV hC (ci := 9) (w_X10_refuse hI o1.1 (1 : Int) (xm_inc _ rfl)) xl_M_X10_87 xl_V_X10_refuse (xm_hK (a := 1) (kd := 0) (n := 9) hI rfl).2 ((xm_hK (a := 1) (kd := 0) (n := 9) hI rfl).1 _) (by decide) rfl (by decide) ⟨by decide, by decide⟩ dX10_since_13 (rest := []) rfl rfl (Nat.le_of_ble_eq_true rfl) rfl rfl (st2 := fun o => .int (xm_J o.2) :: []) (fun _ => rfl) (fun o5 k6 => ?_)
    exact xg_iret hC hQ k6 dX10_since_16
  refine xg_iload_n hC dX10_since_17 rfl ?_
  refine xg_callS hC (w_X10_isDay hI o1.1 x2 h2) xl_M_X10_191 xl_S_X10_isDay (by decide) ⟨by decide, by decide⟩ dX10_since_18 (rest := []) rfl rfl (Nat.le_of_ble_eq_true rfl) rfl rfl (st2 := fun o => .int (xm_J o.2) :: []) (fun _ => rfl) (fun o7 k8 => ?_)
  refine xg_if_ne hC (xm_in01 k8) 30 dX10_since_21 rfl (fun c9 => ?_) (fun c10 => ?_)
  · refine xg_aload_n hC dX10_since_24 rfl ?_
    refine xg_iconst hC dX10_since_25 ?_
    refine xg_callV hC (ci := 9) (w_X10_refuse hI o7.1 (3 : Int) (xm_inc _ rfl)) xl_M_X10_87 xl_V_X10_refuse (xm_hK (a := 1) (kd := 0) (n := 9) hI rfl).2 ((xm_hK (a := 1) (kd := 0) (n := 9) hI rfl).1 _) (by decide) rfl (by decide) ⟨by decide, by decide⟩ dX10_since_26 (rest := []) rfl rfl (Nat.le_of_ble_eq_true rfl) rfl rfl (st2 := fun o => .int (xm_J o.2) :: []) (fun _ => rfl) (fun o11 k12 => ?_)
    exact xg_iret hC hQ k12 dX10_since_29
  refine xg_aload_n hC dX10_since_30 rfl ?_
  refine xg_iload_n hC dX10_since_31 rfl ?_
  refine xg_callV hC (ci := 9) (w_X10_courseOf hI o7.1 x1 h1) xl_M_X10_204 xl_V_X10_courseOf (xm_hK (a := 1) (kd := 0) (n := 9) hI rfl).2 ((xm_hK (a := 1) (kd := 0) (n := 9) hI rfl).1 _) (by decide) rfl (by decide) ⟨by decide, by decide⟩ dX10_since_32 (rest := []) rfl rfl (Nat.le_of_ble_eq_true rfl) rfl rfl (st2 := fun o => .ref (xm_ad (xx_G X) (xm_cb o.2.toNat)) :: []) (fun _ => rfl) (fun o13 k14 => ?_)
  refine xg_astore_n hC (l' := [(3, .ref (xm_ad (xx_G X) (xm_cb o13.2.toNat))), (0, .ref (xm_ad (xx_G X) 1)), (1, .int (xm_J x1)), (2, .int (xm_J x2))]) dX10_since_35 (by decide) rfl ?_
  refine xg_aload_n hC dX10_since_36 rfl ?_
  refine xg_aload_n hC dX10_since_37 rfl ?_
  refine xg_aload_n hC dX10_since_38 rfl ?_
  refine xg_iload_n hC dX10_since_39 rfl ?_
  refine xg_callV hC (ci := 0) (w_X1_stepOn hI o13.1 o13.2.toNat x2 (xm_c8 k14) h2) xl_M_X10_208 xl_V_X1_stepOn (xm_hC hI (xm_c8 k14)).2 ((xm_hC hI (xm_c8 k14)).1 _) (by decide) rfl (by decide) ⟨by decide, by decide⟩ dX10_since_40 (rest := [.ref (xm_ad (xx_G X) (xm_cb o13.2.toNat)), .ref (xm_ad (xx_G X) 1)]) rfl rfl (Nat.le_of_ble_eq_true rfl) rfl rfl (st2 := fun o => .int (xm_J o.2) :: [.ref (xm_ad (xx_G X) (xm_cb o13.2.toNat)), .ref (xm_ad (xx_G X) 1)]) (fun _ => rfl) (fun o15 k16 => ?_)
  refine xg_callV hC (ci := 0) (w_X1_firstDay hI o15.1 o13.2.toNat o15.2 (xm_c8 k14) k16) xl_M_X10_214 xl_V_X1_firstDay (xm_hC hI (xm_c8 k14)).2 ((xm_hC hI (xm_c8 k14)).1 _) (by decide) rfl (by decide) ⟨by decide, by decide⟩ dX10_since_43 (rest := [.ref (xm_ad (xx_G X) 1)]) rfl rfl (Nat.le_of_ble_eq_true rfl) rfl rfl (st2 := fun o => .int (xm_J o.2) :: [.ref (xm_ad (xx_G X) 1)]) (fun _ => rfl) (fun o17 k18 => ?_)
  refine xg_callV hC (ci := 9) (w_X10_accept hI o17.1 o17.2 k18) xl_M_X10_99 xl_V_X10_accept (xm_hK (a := 1) (kd := 0) (n := 9) hI rfl).2 ((xm_hK (a := 1) (kd := 0) (n := 9) hI rfl).1 _) (by decide) rfl (by decide) ⟨by decide, by decide⟩ dX10_since_46 (rest := []) rfl rfl (Nat.le_of_ble_eq_true rfl) rfl rfl (st2 := fun o => .int (xm_J o.2) :: []) (fun _ => rfl) (fun o19 k20 => ?_)
  exact xg_iret hC hQ k20 dX10_since_49
theorem w_X1_lineUpOn {Γ : xm_Gm} {I : xm_Mem → Prop} {la : Launch} (hE : I = xm_I) (σ : xm_Mem) (t : Nat) (x1 : Int) (ht : t < 8) (h1 : xm_in x1) : ∀ o, f_X1_lineUpOn t σ x1 = some o → xm_M Γ I la yX1_lineUpOn cX1_lineUpOn 3 none 5 0 0 [.ref (xm_ad Γ (xm_cb t)), .int (xm_J x1)] σ 0 o := by
  refine xg_enter (by decide) (by simp [lg_sl, xm_rf_cat, xm_cati, xm_catr, xm_catl]) (fun X hG hI0 hla hC hQ hname => ?_)
  subst hG
  have hI := hI0.trans hE
  clear hI0 hla
  unfold f_X1_lineUpOn
  refine xg_pick [0, 1] (l' := [(0, .ref (xm_ad (xx_G X) (xm_cb t))), (1, .int (xm_J x1))]) rfl ?_
  refine xg_aload_n hC dX1_lineUpOn_0 rfl ?_
  refine xg_iload_n hC dX1_lineUpOn_1 rfl ?_
  refine xg_callV hC (ci := 0) (w_X1_stepOn hI σ t x1 ht h1) xl_M_X1_171 xl_V_X1_stepOn (xm_hC hI ht).2 ((xm_hC hI ht).1 _) (by decide) rfl (by decide) ⟨by decide, by decide⟩ dX1_lineUpOn_2 (rest := []) rfl rfl (Nat.le_of_ble_eq_true rfl) rfl rfl (st2 := fun o => .int (xm_J o.2) :: []) (fun _ => rfl) (fun o1 k2 => ?_)
  refine xg_istore_n hC (l' := [(2, .int (xm_J o1.2)), (0, .ref (xm_ad (xx_G X) (xm_cb t))), (1, .int (xm_J x1))]) dX1_lineUpOn_5 (by decide) rfl ?_
  refine xg_aload_n hC dX1_lineUpOn_6 rfl ?_
  refine xg_getW hC (b := 29) (xm_hC hI ht) rfl (xm_w4 hI ht) (by decide) xl_F_X1_65 dX1_lineUpOn_7 ?_
  refine xg_aload_n hC dX1_lineUpOn_10 rfl ?_
  refine xg_getI hC (xm_hC hI ht) rfl xl_F_X1_35 dX1_lineUpOn_11 (fun k3 => ?_)
  refine xg_aload_n hC dX1_lineUpOn_14 rfl ?_
  refine xg_iload_n hC dX1_lineUpOn_15 rfl ?_
  refine xg_callV hC (ci := 0) (w_X1_isStep hI o1.1 t o1.2 ht k2) xl_M_X1_168 xl_V_X1_isStep (xm_hC hI ht).2 ((xm_hC hI ht).1 _) (by decide) rfl (by decide) ⟨by decide, by decide⟩ dX1_lineUpOn_16 (rest := [.int (xm_J (o1.1.1 (xm_cb t) 12)), .ref (xm_ad (xx_G X) 29)]) rfl rfl (Nat.le_of_ble_eq_true rfl) rfl rfl (st2 := fun o => .int (xm_J o.2) :: [.int (xm_J (o1.1.1 (xm_cb t) 12)), .ref (xm_ad (xx_G X) 29)]) (fun _ => rfl) (fun o4 k5 => ?_)
  refine xg_if_eq hC (xm_in01 k5) 31 dX1_lineUpOn_19 rfl (fun c6 => ?_) (fun c7 => ?_)
  · refine xg_aload_n hC dX1_lineUpOn_31 rfl ?_
    refine xg_getI hC (xm_hC hI ht) rfl xl_F_X1_38 dX1_lineUpOn_32 (fun k8 => ?_)
    refine xg_iload_n hC dX1_lineUpOn_35 rfl ?_
    refine xg_aload_n hC dX1_lineUpOn_36 rfl ?_
    refine xg_getW hC (b := xm_cb t + 1) (xm_hC hI ht) rfl (xm_w5 hI ht) (Nat.le_add_left _ _) xl_F_X1_9 dX1_lineUpOn_37 ?_
    refine xg_callV hC (ci := 3) (w_X4_fill hI o4.1 (o1.1.1 (xm_cb t) 12) (o4.1.1 (xm_cb t) 13) x1 (((xm_cb t + 1) : Nat) : Int) k3 k8 h1) xl_M_X1_134 xl_V_X4_fill (xm_hK (a := 29) (kd := 0) (n := 3) hI rfl).2 ((xm_hK (a := 29) (kd := 0) (n := 3) hI rfl).1 _) (by decide) rfl (by decide) ⟨by decide, by decide⟩ dX1_lineUpOn_40 (rest := []) (by rw [xm_rfN (Γ := xx_G X) (a := (xm_cb t + 1)) (Nat.le_add_left _ _)]; rfl) rfl (Nat.le_of_ble_eq_true rfl) rfl rfl (st2 := fun o => []) (fun _ => rfl) (fun o9 k10 => ?_)
    exact xg_vret hC hQ dX1_lineUpOn_43
  refine xg_aload_n hC dX1_lineUpOn_22 rfl ?_
  refine xg_getW hC (b := xm_cb t + 4) (xm_hC hI ht) rfl (xm_w8 hI ht) (Nat.le_add_left _ _) xl_F_X1_21 dX1_lineUpOn_23 ?_
  refine xg_iload_n hC dX1_lineUpOn_26 rfl ?_
  refine xg_iald hC (xm_hCb hI ht (by decide) (by decide)) rfl k2 dX1_lineUpOn_27 (fun b11 k12 => ?_)
  refine xg_goto hC 35 dX1_lineUpOn_28 rfl ?_
  refine xg_iload_n hC dX1_lineUpOn_35 rfl ?_
  refine xg_aload_n hC dX1_lineUpOn_36 rfl ?_
  refine xg_getW hC (b := xm_cb t + 1) (xm_hC hI ht) rfl (xm_w5 hI ht) (Nat.le_add_left _ _) xl_F_X1_9 dX1_lineUpOn_37 ?_
  refine xg_callV hC (ci := 3) (w_X4_fill hI o4.1 (o1.1.1 (xm_cb t) 12) (o4.1.1 (xm_cb t + 4) o1.2.toNat) x1 (((xm_cb t + 1) : Nat) : Int) k3 k12 h1) xl_M_X1_134 xl_V_X4_fill (xm_hK (a := 29) (kd := 0) (n := 3) hI rfl).2 ((xm_hK (a := 29) (kd := 0) (n := 3) hI rfl).1 _) (by decide) rfl (by decide) ⟨by decide, by decide⟩ dX1_lineUpOn_40 (rest := []) (by rw [xm_rfN (Γ := xx_G X) (a := (xm_cb t + 1)) (Nat.le_add_left _ _)]; rfl) rfl (Nat.le_of_ble_eq_true rfl) rfl rfl (st2 := fun o => []) (fun _ => rfl) (fun o13 k14 => ?_)
  exact xg_vret hC hQ dX1_lineUpOn_43
theorem w_X10_line {Γ : xm_Gm} {I : xm_Mem → Prop} {la : Launch} (hE : I = xm_I) (σ : xm_Mem) (x1 : Int) (x2 : Int) (x3 : Int) (h1 : xm_in x1) (h2 : xm_in x2) (h3 : xm_in x3) : ∀ o, f_X10_line σ x1 x2 x3 = some o → xm_M Γ I la yX10_line cX10_line 4 (some .int) 8 0 0 [.ref (xm_ad Γ 1), .int (xm_J x1), .int (xm_J x2), .int (xm_J x3)] σ 1 o := by
  refine xg_enter (by decide) (by simp [lg_sl, xm_rf_cat, xm_cati, xm_catr, xm_catl]) (fun X hG hI0 hla hC hQ hname => ?_)
  subst hG
  have hI := hI0.trans hE
  clear hI0 hla
  unfold f_X10_line
  refine xg_pick [0, 1, 2, 3] (l' := [(0, .ref (xm_ad (xx_G X) 1)), (1, .int (xm_J x1)), (2, .int (xm_J x2)), (3, .int (xm_J x3))]) rfl ?_
  refine xg_aload_n hC dX10_line_0 rfl ?_
  refine xg_getW hC (b := 5) (xm_hK hI rfl) rfl (xm_wK hI rfl) (by decide) xl_F_X10_28 dX10_line_1 ?_
  refine xg_iload_n hC dX10_line_4 rfl ?_
  refine xg_callV hC (ci := 6) (w_X7_hasTitle hI σ x1 h1) xl_M_X10_201 xl_V_X7_hasTitle (xm_hK (a := 5) (kd := 0) (n := 6) hI rfl).2 ((xm_hK (a := 5) (kd := 0) (n := 6) hI rfl).1 _) (by decide) rfl (by decide) ⟨by decide, by decide⟩ dX10_line_5 (rest := []) rfl rfl (Nat.le_of_ble_eq_true rfl) rfl rfl (st2 := fun o => .int (xm_J o.2) :: []) (fun _ => rfl) (fun o1 k2 => ?_)
  refine xg_if_ne hC (xm_in01 k2) 17 dX10_line_8 rfl (fun c3 => ?_) (fun c4 => ?_)
  · refine xg_aload_n hC dX10_line_11 rfl ?_
    refine xg_iconst hC dX10_line_12 ?_
    refine xg_callV hC (ci := 9) (w_X10_refuse hI o1.1 (1 : Int) (xm_inc _ rfl)) xl_M_X10_87 xl_V_X10_refuse (xm_hK (a := 1) (kd := 0) (n := 9) hI rfl).2 ((xm_hK (a := 1) (kd := 0) (n := 9) hI rfl).1 _) (by decide) rfl (by decide) ⟨by decide, by decide⟩ dX10_line_13 (rest := []) rfl rfl (Nat.le_of_ble_eq_true rfl) rfl rfl (st2 := fun o => .int (xm_J o.2) :: []) (fun _ => rfl) (fun o5 k6 => ?_)
    exact xg_iret hC hQ k6 dX10_line_16
  refine xg_iload_n hC dX10_line_17 rfl ?_
  refine xg_callS hC (w_X10_isDay hI o1.1 x2 h2) xl_M_X10_191 xl_S_X10_isDay (by decide) ⟨by decide, by decide⟩ dX10_line_18 (rest := []) rfl rfl (Nat.le_of_ble_eq_true rfl) rfl rfl (st2 := fun o => .int (xm_J o.2) :: []) (fun _ => rfl) (fun o7 k8 => ?_)
  refine xg_if_ne hC (xm_in01 k8) 30 dX10_line_21 rfl (fun c9 => ?_) (fun c10 => ?_)
  · refine xg_aload_n hC dX10_line_24 rfl ?_
    refine xg_iconst hC dX10_line_25 ?_
    refine xg_callV hC (ci := 9) (w_X10_refuse hI o7.1 (3 : Int) (xm_inc _ rfl)) xl_M_X10_87 xl_V_X10_refuse (xm_hK (a := 1) (kd := 0) (n := 9) hI rfl).2 ((xm_hK (a := 1) (kd := 0) (n := 9) hI rfl).1 _) (by decide) rfl (by decide) ⟨by decide, by decide⟩ dX10_line_26 (rest := []) rfl rfl (Nat.le_of_ble_eq_true rfl) rfl rfl (st2 := fun o => .int (xm_J o.2) :: []) (fun _ => rfl) (fun o11 k12 => ?_)
    exact xg_iret hC hQ k12 dX10_line_29
  refine xg_aload_n hC dX10_line_30 rfl ?_
  refine xg_iload_n hC dX10_line_31 rfl ?_
  refine xg_callV hC (ci := 9) (w_X10_courseOf hI o7.1 x1 h1) xl_M_X10_204 xl_V_X10_courseOf (xm_hK (a := 1) (kd := 0) (n := 9) hI rfl).2 ((xm_hK (a := 1) (kd := 0) (n := 9) hI rfl).1 _) (by decide) rfl (by decide) ⟨by decide, by decide⟩ dX10_line_32 (rest := []) rfl rfl (Nat.le_of_ble_eq_true rfl) rfl rfl (st2 := fun o => .ref (xm_ad (xx_G X) (xm_cb o.2.toNat)) :: []) (fun _ => rfl) (fun o13 k14 => ?_)
  refine xg_iload_n hC dX10_line_35 rfl ?_
  refine xg_callV hC (ci := 0) (w_X1_lineUpOn hI o13.1 o13.2.toNat x2 (xm_c8 k14) h2) xl_M_X10_217 xl_V_X1_lineUpOn (xm_hC hI (xm_c8 k14)).2 ((xm_hC hI (xm_c8 k14)).1 _) (by decide) rfl (by decide) ⟨by decide, by decide⟩ dX10_line_36 (rest := []) rfl rfl (Nat.le_of_ble_eq_true rfl) rfl rfl (st2 := fun o => []) (fun _ => rfl) (fun o15 k16 => ?_)
  refine xg_iload_n hC dX10_line_39 rfl ?_
  refine xg_if_lt hC h3 54 dX10_line_40 rfl (fun c17 => ?_) (fun c18 => ?_)
  · refine xg_aload_n hC dX10_line_54 rfl ?_
    refine xg_iconst hC dX10_line_55 ?_
    refine xg_callV hC (ci := 9) (w_X10_refuse hI o15.1 (1 : Int) (xm_inc _ rfl)) xl_M_X10_87 xl_V_X10_refuse (xm_hK (a := 1) (kd := 0) (n := 9) hI rfl).2 ((xm_hK (a := 1) (kd := 0) (n := 9) hI rfl).1 _) (by decide) rfl (by decide) ⟨by decide, by decide⟩ dX10_line_56 (rest := []) rfl rfl (Nat.le_of_ble_eq_true rfl) rfl rfl (st2 := fun o => .int (xm_J o.2) :: []) (fun _ => rfl) (fun o19 k20 => ?_)
    exact xg_iret hC hQ k20 dX10_line_59
  refine xg_iload_n hC dX10_line_43 rfl ?_
  refine xg_aload_n hC dX10_line_44 rfl ?_
  refine xg_getW hC (b := 29) (xm_hK hI rfl) rfl (xm_wK hI rfl) (by decide) xl_F_X10_60 dX10_line_45 ?_
  refine xg_callV hC (ci := 3) (w_X4_size hI o15.1 ) xl_M_X10_220 xl_V_X4_size (xm_hK (a := 29) (kd := 0) (n := 3) hI rfl).2 ((xm_hK (a := 29) (kd := 0) (n := 3) hI rfl).1 _) (by decide) rfl (by decide) ⟨by decide, by decide⟩ dX10_line_48 (rest := [.int (xm_J x3)]) rfl rfl (Nat.le_of_ble_eq_true rfl) rfl rfl (st2 := fun o => .int (xm_J o.2) :: [.int (xm_J x3)]) (fun _ => rfl) (fun o21 k22 => ?_)
  refine xg_icmp_lt hC h3 k22 60 dX10_line_51 rfl (fun c23 => ?_) (fun c24 => ?_)
  · refine xg_aload_n hC dX10_line_60 rfl ?_
    refine xg_aload_n hC dX10_line_61 rfl ?_
    refine xg_getW hC (b := 29) (xm_hK hI rfl) rfl (xm_wK hI rfl) (by decide) xl_F_X10_60 dX10_line_62 ?_
    refine xg_iload_n hC dX10_line_65 rfl ?_
    refine xg_callV hC (ci := 3) (w_X4_at hI o21.1 x3 h3) xl_M_X10_221 xl_V_X4_at (xm_hK (a := 29) (kd := 0) (n := 3) hI rfl).2 ((xm_hK (a := 29) (kd := 0) (n := 3) hI rfl).1 _) (by decide) rfl (by decide) ⟨by decide, by decide⟩ dX10_line_66 (rest := [.ref (xm_ad (xx_G X) 1)]) rfl rfl (Nat.le_of_ble_eq_true rfl) rfl rfl (st2 := fun o => .int (xm_J o.2) :: [.ref (xm_ad (xx_G X) 1)]) (fun _ => rfl) (fun o25 k26 => ?_)
    refine xg_callV hC (ci := 9) (w_X10_accept hI o25.1 o25.2 k26) xl_M_X10_99 xl_V_X10_accept (xm_hK (a := 1) (kd := 0) (n := 9) hI rfl).2 ((xm_hK (a := 1) (kd := 0) (n := 9) hI rfl).1 _) (by decide) rfl (by decide) ⟨by decide, by decide⟩ dX10_line_69 (rest := []) rfl rfl (Nat.le_of_ble_eq_true rfl) rfl rfl (st2 := fun o => .int (xm_J o.2) :: []) (fun _ => rfl) (fun o27 k28 => ?_)
    exact xg_iret hC hQ k28 dX10_line_72
  refine xg_aload_n hC dX10_line_54 rfl ?_
  refine xg_iconst hC dX10_line_55 ?_
  refine xg_callV hC (ci := 9) (w_X10_refuse hI o21.1 (1 : Int) (xm_inc _ rfl)) xl_M_X10_87 xl_V_X10_refuse (xm_hK (a := 1) (kd := 0) (n := 9) hI rfl).2 ((xm_hK (a := 1) (kd := 0) (n := 9) hI rfl).1 _) (by decide) rfl (by decide) ⟨by decide, by decide⟩ dX10_line_56 (rest := []) rfl rfl (Nat.le_of_ble_eq_true rfl) rfl rfl (st2 := fun o => .int (xm_J o.2) :: []) (fun _ => rfl) (fun o29 k30 => ?_)
  exact xg_iret hC hQ k30 dX10_line_59
theorem w_X10_rank {Γ : xm_Gm} {I : xm_Mem → Prop} {la : Launch} (hE : I = xm_I) (σ : xm_Mem) (x1 : Int) (x2 : Int) (x3 : Int) (h1 : xm_in x1) (h2 : xm_in x2) (h3 : xm_in x3) : ∀ o, f_X10_rank σ x1 x2 x3 = some o → xm_M Γ I la yX10_rank cX10_rank 4 (some .int) 8 0 0 [.ref (xm_ad Γ 1), .int (xm_J x1), .int (xm_J x2), .int (xm_J x3)] σ 1 o := by
  refine xg_enter (by decide) (by simp [lg_sl, xm_rf_cat, xm_cati, xm_catr, xm_catl]) (fun X hG hI0 hla hC hQ hname => ?_)
  subst hG
  have hI := hI0.trans hE
  clear hI0 hla
  unfold f_X10_rank
  refine xg_pick [0, 1, 2, 3] (l' := [(0, .ref (xm_ad (xx_G X) 1)), (1, .int (xm_J x1)), (2, .int (xm_J x2)), (3, .int (xm_J x3))]) rfl ?_
  refine xg_aload_n hC dX10_rank_0 rfl ?_
  refine xg_getW hC (b := 5) (xm_hK hI rfl) rfl (xm_wK hI rfl) (by decide) xl_F_X10_28 dX10_rank_1 ?_
  refine xg_iload_n hC dX10_rank_4 rfl ?_
  refine xg_callV hC (ci := 6) (w_X7_hasTitle hI σ x1 h1) xl_M_X10_201 xl_V_X7_hasTitle (xm_hK (a := 5) (kd := 0) (n := 6) hI rfl).2 ((xm_hK (a := 5) (kd := 0) (n := 6) hI rfl).1 _) (by decide) rfl (by decide) ⟨by decide, by decide⟩ dX10_rank_5 (rest := []) rfl rfl (Nat.le_of_ble_eq_true rfl) rfl rfl (st2 := fun o => .int (xm_J o.2) :: []) (fun _ => rfl) (fun o1 k2 => ?_)
  refine xg_if_eq hC (xm_in01 k2) 22 dX10_rank_8 rfl (fun c3 => ?_) (fun c4 => ?_)
  · refine xg_aload_n hC dX10_rank_22 rfl ?_
    refine xg_iconst hC dX10_rank_23 ?_
    refine xg_callV hC (ci := 9) (w_X10_refuse hI o1.1 (1 : Int) (xm_inc _ rfl)) xl_M_X10_87 xl_V_X10_refuse (xm_hK (a := 1) (kd := 0) (n := 9) hI rfl).2 ((xm_hK (a := 1) (kd := 0) (n := 9) hI rfl).1 _) (by decide) rfl (by decide) ⟨by decide, by decide⟩ dX10_rank_24 (rest := []) rfl rfl (Nat.le_of_ble_eq_true rfl) rfl rfl (st2 := fun o => .int (xm_J o.2) :: []) (fun _ => rfl) (fun o5 k6 => ?_)
    exact xg_iret hC hQ k6 dX10_rank_27
  refine xg_aload_n hC dX10_rank_11 rfl ?_
  refine xg_getW hC (b := 9) (xm_hK hI rfl) rfl (xm_wK hI rfl) (by decide) xl_F_X10_35 dX10_rank_12 ?_
  refine xg_iload_n hC dX10_rank_15 rfl ?_
  refine xg_callV hC (ci := 4) (w_X5_has hI o1.1 x2 h2) xl_M_X10_170 xl_V_X5_has (xm_hK (a := 9) (kd := 0) (n := 4) hI rfl).2 ((xm_hK (a := 9) (kd := 0) (n := 4) hI rfl).1 _) (by decide) rfl (by decide) ⟨by decide, by decide⟩ dX10_rank_16 (rest := []) rfl rfl (Nat.le_of_ble_eq_true rfl) rfl rfl (st2 := fun o => .int (xm_J o.2) :: []) (fun _ => rfl) (fun o7 k8 => ?_)
  refine xg_if_ne hC (xm_in01 k8) 28 dX10_rank_19 rfl (fun c9 => ?_) (fun c10 => ?_)
  · refine xg_aload_n hC dX10_rank_22 rfl ?_
    refine xg_iconst hC dX10_rank_23 ?_
    refine xg_callV hC (ci := 9) (w_X10_refuse hI o7.1 (1 : Int) (xm_inc _ rfl)) xl_M_X10_87 xl_V_X10_refuse (xm_hK (a := 1) (kd := 0) (n := 9) hI rfl).2 ((xm_hK (a := 1) (kd := 0) (n := 9) hI rfl).1 _) (by decide) rfl (by decide) ⟨by decide, by decide⟩ dX10_rank_24 (rest := []) rfl rfl (Nat.le_of_ble_eq_true rfl) rfl rfl (st2 := fun o => .int (xm_J o.2) :: []) (fun _ => rfl) (fun o11 k12 => ?_)
    exact xg_iret hC hQ k12 dX10_rank_27
  refine xg_iload_n hC dX10_rank_28 rfl ?_
  refine xg_callS hC (w_X10_isDay hI o7.1 x3 h3) xl_M_X10_191 xl_S_X10_isDay (by decide) ⟨by decide, by decide⟩ dX10_rank_29 (rest := []) rfl rfl (Nat.le_of_ble_eq_true rfl) rfl rfl (st2 := fun o => .int (xm_J o.2) :: []) (fun _ => rfl) (fun o13 k14 => ?_)
  refine xg_if_ne hC (xm_in01 k14) 41 dX10_rank_32 rfl (fun c15 => ?_) (fun c16 => ?_)
  · refine xg_aload_n hC dX10_rank_35 rfl ?_
    refine xg_iconst hC dX10_rank_36 ?_
    refine xg_callV hC (ci := 9) (w_X10_refuse hI o13.1 (3 : Int) (xm_inc _ rfl)) xl_M_X10_87 xl_V_X10_refuse (xm_hK (a := 1) (kd := 0) (n := 9) hI rfl).2 ((xm_hK (a := 1) (kd := 0) (n := 9) hI rfl).1 _) (by decide) rfl (by decide) ⟨by decide, by decide⟩ dX10_rank_37 (rest := []) rfl rfl (Nat.le_of_ble_eq_true rfl) rfl rfl (st2 := fun o => .int (xm_J o.2) :: []) (fun _ => rfl) (fun o17 k18 => ?_)
    exact xg_iret hC hQ k18 dX10_rank_40
  refine xg_aload_n hC dX10_rank_41 rfl ?_
  refine xg_iload_n hC dX10_rank_42 rfl ?_
  refine xg_callV hC (ci := 9) (w_X10_courseOf hI o13.1 x1 h1) xl_M_X10_204 xl_V_X10_courseOf (xm_hK (a := 1) (kd := 0) (n := 9) hI rfl).2 ((xm_hK (a := 1) (kd := 0) (n := 9) hI rfl).1 _) (by decide) rfl (by decide) ⟨by decide, by decide⟩ dX10_rank_43 (rest := []) rfl rfl (Nat.le_of_ble_eq_true rfl) rfl rfl (st2 := fun o => .ref (xm_ad (xx_G X) (xm_cb o.2.toNat)) :: []) (fun _ => rfl) (fun o19 k20 => ?_)
  refine xg_iload_n hC dX10_rank_46 rfl ?_
  refine xg_callV hC (ci := 0) (w_X1_lineUpOn hI o19.1 o19.2.toNat x3 (xm_c8 k20) h3) xl_M_X10_217 xl_V_X1_lineUpOn (xm_hC hI (xm_c8 k20)).2 ((xm_hC hI (xm_c8 k20)).1 _) (by decide) rfl (by decide) ⟨by decide, by decide⟩ dX10_rank_47 (rest := []) rfl rfl (Nat.le_of_ble_eq_true rfl) rfl rfl (st2 := fun o => []) (fun _ => rfl) (fun o21 k22 => ?_)
  refine xg_aload_n hC dX10_rank_50 rfl ?_
  refine xg_aload_n hC dX10_rank_51 rfl ?_
  refine xg_getW hC (b := 29) (xm_hK hI rfl) rfl (xm_wK hI rfl) (by decide) xl_F_X10_60 dX10_rank_52 ?_
  refine xg_iload_n hC dX10_rank_55 rfl ?_
  refine xg_callV hC (ci := 3) (w_X4_placeOf hI o21.1 x2 h2) xl_M_X10_224 xl_V_X4_placeOf (xm_hK (a := 29) (kd := 0) (n := 3) hI rfl).2 ((xm_hK (a := 29) (kd := 0) (n := 3) hI rfl).1 _) (by decide) rfl (by decide) ⟨by decide, by decide⟩ dX10_rank_56 (rest := [.ref (xm_ad (xx_G X) 1)]) rfl rfl (Nat.le_of_ble_eq_true rfl) rfl rfl (st2 := fun o => .int (xm_J o.2) :: [.ref (xm_ad (xx_G X) 1)]) (fun _ => rfl) (fun o23 k24 => ?_)
  refine xg_callV hC (ci := 9) (w_X10_accept hI o23.1 o23.2 k24) xl_M_X10_99 xl_V_X10_accept (xm_hK (a := 1) (kd := 0) (n := 9) hI rfl).2 ((xm_hK (a := 1) (kd := 0) (n := 9) hI rfl).1 _) (by decide) rfl (by decide) ⟨by decide, by decide⟩ dX10_rank_59 (rest := []) rfl rfl (Nat.le_of_ble_eq_true rfl) rfl rfl (st2 := fun o => .int (xm_J o.2) :: []) (fun _ => rfl) (fun o25 k26 => ?_)
  exact xg_iret hC hQ k26 dX10_rank_62
theorem w_X1_countTenures_b4 {X : xm_X} (hC : xm_C X yX1_countTenures.cls cX1_countTenures 3 1 0 0) (hQ : xm_Rt X 1 (some .int) 0 0) (hI : xx_I X = xm_I) {t : Nat} (ht : t < 8)   {self : xm_Mem → Int → Int → Option xm_Out} (hself : ∀ (σ : xm_Mem) (x1 : Int) (x2 : Int), xm_in x1 → xm_in x2 → xm_V X 0 0 (self σ x1 x2) σ 4 [(0, .ref (xm_ad (xx_G X) (xm_cb t))), (1, .int (xm_J x1)), (2, .int (xm_J x2))] []) (σ : xm_Mem) (x1 : Int) (x2 : Int) (h1 : xm_in x1) (h2 : xm_in x2) : xm_V X 0 0 (f_X1_countTenures_b4 t  self σ x1 x2) σ 4 [(0, .ref (xm_ad (xx_G X) (xm_cb t))), (1, .int (xm_J x1)), (2, .int (xm_J x2))] [] := by
  unfold f_X1_countTenures_b4
  refine xg_iload_n hC dX1_countTenures_4 rfl ?_
  refine xg_aload_n hC dX1_countTenures_5 rfl ?_
  refine xg_getI hC (xm_hC hI ht) rfl xl_F_X1_27 dX1_countTenures_6 (fun k1 => ?_)
  refine xg_icmp_ge hC h2 k1 36 dX1_countTenures_9 rfl (fun c2 => ?_) (fun c3 => ?_)
  · refine xg_aload_n hC dX1_countTenures_12 rfl ?_
    refine xg_getW hC (b := xm_cb t + 5) (xm_hC hI ht) rfl (xm_w9 hI ht) (Nat.le_add_left _ _) xl_F_X1_24 dX1_countTenures_13 ?_
    refine xg_iload_n hC dX1_countTenures_16 rfl ?_
    refine xg_iald hC (xm_hCb hI ht (by decide) (by decide)) rfl h2 dX1_countTenures_17 (fun b4 k5 => ?_)
    refine xg_aload_n hC dX1_countTenures_18 rfl ?_
    refine xg_getW hC (b := xm_cb t + 2) (xm_hC hI ht) rfl (xm_w6 hI ht) (Nat.le_add_left _ _) xl_F_X1_15 dX1_countTenures_19 ?_
    refine xg_iload_n hC dX1_countTenures_22 rfl ?_
    refine xg_iald hC (xm_hCb hI ht (by decide) (by decide)) rfl h2 dX1_countTenures_23 (fun b6 k7 => ?_)
    refine xg_icmp_ne hC k5 k7 30 dX1_countTenures_24 rfl (fun c8 => ?_) (fun c9 => ?_)
    · refine xg_iinc hC (l' := [(1, .int (xm_J (xm_w (x1 + 1)))), (0, .ref (xm_ad (xx_G X) (xm_cb t))), (2, .int (xm_J x2))]) dX1_countTenures_27 (by decide) 1 rfl rfl ?_
      refine xg_iinc hC (l' := [(2, .int (xm_J (xm_w (x2 + 1)))), (1, .int (xm_J (xm_w (x1 + 1)))), (0, .ref (xm_ad (xx_G X) (xm_cb t)))]) dX1_countTenures_30 (by decide) 2 rfl rfl ?_
      refine xg_goto hC 4 dX1_countTenures_33 rfl ?_
      exact xg_pick [2, 1, 0] rfl (hself σ (xm_w (x1 + 1)) (xm_w (x2 + 1)) (xm_w_in _) (xm_w_in _))
    refine xg_iinc hC (l' := [(2, .int (xm_J (xm_w (x2 + 1)))), (0, .ref (xm_ad (xx_G X) (xm_cb t))), (1, .int (xm_J x1))]) dX1_countTenures_30 (by decide) 2 rfl rfl ?_
    refine xg_goto hC 4 dX1_countTenures_33 rfl ?_
    exact xg_pick [1, 2, 0] rfl (hself σ x1 (xm_w (x2 + 1)) h1 (xm_w_in _))
  refine xg_iload_n hC dX1_countTenures_36 rfl ?_
  exact xg_iret hC hQ h1 dX1_countTenures_37
theorem w_X1_countTenures_l4 {X : xm_X} (hC : xm_C X yX1_countTenures.cls cX1_countTenures 3 1 0 0) (hQ : xm_Rt X 1 (some .int) 0 0) (hI : xx_I X = xm_I) {t : Nat} (ht : t < 8)   (n : Nat) : ∀ (σ : xm_Mem) (x1 : Int) (x2 : Int), xm_in x1 → xm_in x2 → xm_V X 0 0 (f_X1_countTenures_l4 t  n σ x1 x2) σ 4 [(0, .ref (xm_ad (xx_G X) (xm_cb t))), (1, .int (xm_J x1)), (2, .int (xm_J x2))] [] := by
  induction n with
  | zero => intro σ x1 x2 h1 h2; exact xg_none
  | succ n ih => intro σ x1 x2 h1 h2; exact w_X1_countTenures_b4 hC hQ hI ht ih σ x1 x2 h1 h2
theorem w_X1_countTenures {Γ : xm_Gm} {I : xm_Mem → Prop} {la : Launch} (hE : I = xm_I) (σ : xm_Mem) (t : Nat)  (ht : t < 8)  : ∀ o, f_X1_countTenures t σ  = some o → xm_M Γ I la yX1_countTenures cX1_countTenures 3 (some .int) 1 0 0 [.ref (xm_ad Γ (xm_cb t))] σ 1 o := by
  refine xg_enter (by decide) (by simp [lg_sl, xm_rf_cat, xm_cati, xm_catr, xm_catl]) (fun X hG hI0 hla hC hQ hname => ?_)
  subst hG
  have hI := hI0.trans hE
  clear hI0 hla
  unfold f_X1_countTenures
  refine xg_pick [0] (l' := [(0, .ref (xm_ad (xx_G X) (xm_cb t)))]) rfl ?_
  refine xg_iconst hC dX1_countTenures_0 ?_
  refine xg_istore_n hC (l' := [(1, .int (xm_J (0 : Int))), (0, .ref (xm_ad (xx_G X) (xm_cb t)))]) dX1_countTenures_1 (by decide) rfl ?_
  refine xg_iconst hC dX1_countTenures_2 ?_
  refine xg_istore_n hC (l' := [(2, .int (xm_J (0 : Int))), (1, .int (xm_J (0 : Int))), (0, .ref (xm_ad (xx_G X) (xm_cb t)))]) dX1_countTenures_3 (by decide) rfl ?_
  exact xg_pick [2, 1, 0] rfl (w_X1_countTenures_l4 hC hQ hI ht _ σ (0 : Int) (0 : Int) (xm_inc _ rfl) (xm_inc _ rfl))
theorem w_X10_tenures {Γ : xm_Gm} {I : xm_Mem → Prop} {la : Launch} (hE : I = xm_I) (σ : xm_Mem) (x1 : Int) (h1 : xm_in x1) : ∀ o, f_X10_tenures σ x1 = some o → xm_M Γ I la yX10_tenures cX10_tenures 2 (some .int) 8 0 0 [.ref (xm_ad Γ 1), .int (xm_J x1)] σ 1 o := by
  refine xg_enter (by decide) (by simp [lg_sl, xm_rf_cat, xm_cati, xm_catr, xm_catl]) (fun X hG hI0 hla hC hQ hname => ?_)
  subst hG
  have hI := hI0.trans hE
  clear hI0 hla
  unfold f_X10_tenures
  refine xg_pick [0, 1] (l' := [(0, .ref (xm_ad (xx_G X) 1)), (1, .int (xm_J x1))]) rfl ?_
  refine xg_aload_n hC dX10_tenures_0 rfl ?_
  refine xg_getW hC (b := 5) (xm_hK hI rfl) rfl (xm_wK hI rfl) (by decide) xl_F_X10_28 dX10_tenures_1 ?_
  refine xg_iload_n hC dX10_tenures_4 rfl ?_
  refine xg_callV hC (ci := 6) (w_X7_hasTitle hI σ x1 h1) xl_M_X10_201 xl_V_X7_hasTitle (xm_hK (a := 5) (kd := 0) (n := 6) hI rfl).2 ((xm_hK (a := 5) (kd := 0) (n := 6) hI rfl).1 _) (by decide) rfl (by decide) ⟨by decide, by decide⟩ dX10_tenures_5 (rest := []) rfl rfl (Nat.le_of_ble_eq_true rfl) rfl rfl (st2 := fun o => .int (xm_J o.2) :: []) (fun _ => rfl) (fun o1 k2 => ?_)
  refine xg_if_ne hC (xm_in01 k2) 17 dX10_tenures_8 rfl (fun c3 => ?_) (fun c4 => ?_)
  · refine xg_aload_n hC dX10_tenures_11 rfl ?_
    refine xg_iconst hC dX10_tenures_12 ?_
    refine xg_callV hC (ci := 9) (w_X10_refuse hI o1.1 (1 : Int) (xm_inc _ rfl)) xl_M_X10_87 xl_V_X10_refuse (xm_hK (a := 1) (kd := 0) (n := 9) hI rfl).2 ((xm_hK (a := 1) (kd := 0) (n := 9) hI rfl).1 _) (by decide) rfl (by decide) ⟨by decide, by decide⟩ dX10_tenures_13 (rest := []) rfl rfl (Nat.le_of_ble_eq_true rfl) rfl rfl (st2 := fun o => .int (xm_J o.2) :: []) (fun _ => rfl) (fun o5 k6 => ?_)
    exact xg_iret hC hQ k6 dX10_tenures_16
  refine xg_aload_n hC dX10_tenures_17 rfl ?_
  refine xg_aload_n hC dX10_tenures_18 rfl ?_
  refine xg_iload_n hC dX10_tenures_19 rfl ?_
  refine xg_callV hC (ci := 9) (w_X10_courseOf hI o1.1 x1 h1) xl_M_X10_204 xl_V_X10_courseOf (xm_hK (a := 1) (kd := 0) (n := 9) hI rfl).2 ((xm_hK (a := 1) (kd := 0) (n := 9) hI rfl).1 _) (by decide) rfl (by decide) ⟨by decide, by decide⟩ dX10_tenures_20 (rest := [.ref (xm_ad (xx_G X) 1)]) rfl rfl (Nat.le_of_ble_eq_true rfl) rfl rfl (st2 := fun o => .ref (xm_ad (xx_G X) (xm_cb o.2.toNat)) :: [.ref (xm_ad (xx_G X) 1)]) (fun _ => rfl) (fun o7 k8 => ?_)
  refine xg_callV hC (ci := 0) (w_X1_countTenures hI o7.1 o7.2.toNat (xm_c8 k8)) xl_M_X10_233 xl_V_X1_countTenures (xm_hC hI (xm_c8 k8)).2 ((xm_hC hI (xm_c8 k8)).1 _) (by decide) rfl (by decide) ⟨by decide, by decide⟩ dX10_tenures_23 (rest := [.ref (xm_ad (xx_G X) 1)]) rfl rfl (Nat.le_of_ble_eq_true rfl) rfl rfl (st2 := fun o => .int (xm_J o.2) :: [.ref (xm_ad (xx_G X) 1)]) (fun _ => rfl) (fun o9 k10 => ?_)
  refine xg_callV hC (ci := 9) (w_X10_accept hI o9.1 o9.2 k10) xl_M_X10_99 xl_V_X10_accept (xm_hK (a := 1) (kd := 0) (n := 9) hI rfl).2 ((xm_hK (a := 1) (kd := 0) (n := 9) hI rfl).1 _) (by decide) rfl (by decide) ⟨by decide, by decide⟩ dX10_tenures_26 (rest := []) rfl rfl (Nat.le_of_ble_eq_true rfl) rfl rfl (st2 := fun o => .int (xm_J o.2) :: []) (fun _ => rfl) (fun o11 k12 => ?_)
  exact xg_iret hC hQ k12 dX10_tenures_29
theorem w_X1_stepOfTenure_b4 {X : xm_X} (hC : xm_C X yX1_stepOfTenure.cls cX1_stepOfTenure 4 1 0 0) (hQ : xm_Rt X 1 (some .int) 0 0) (hI : xx_I X = xm_I) {t : Nat} (ht : t < 8)   {self : xm_Mem → Int → Int → Int → Option xm_Out} (hself : ∀ (σ : xm_Mem) (x1 : Int) (x2 : Int) (x3 : Int), xm_in x1 → xm_in x2 → xm_in x3 → xm_V X 0 0 (self σ x1 x2 x3) σ 4 [(0, .ref (xm_ad (xx_G X) (xm_cb t))), (1, .int (xm_J x1)), (2, .int (xm_J x2)), (3, .int (xm_J x3))] []) (σ : xm_Mem) (x1 : Int) (x2 : Int) (x3 : Int) (h1 : xm_in x1) (h2 : xm_in x2) (h3 : xm_in x3) : xm_V X 0 0 (f_X1_stepOfTenure_b4 t  self σ x1 x2 x3) σ 4 [(0, .ref (xm_ad (xx_G X) (xm_cb t))), (1, .int (xm_J x1)), (2, .int (xm_J x2)), (3, .int (xm_J x3))] [] := by
  unfold f_X1_stepOfTenure_b4
  refine xg_iload_n hC dX1_stepOfTenure_4 rfl ?_
  refine xg_aload_n hC dX1_stepOfTenure_5 rfl ?_
  refine xg_getI hC (xm_hC hI ht) rfl xl_F_X1_27 dX1_stepOfTenure_6 (fun k1 => ?_)
  refine xg_icmp_ge hC h3 k1 46 dX1_stepOfTenure_9 rfl (fun c2 => ?_) (fun c3 => ?_)
  · refine xg_aload_n hC dX1_stepOfTenure_12 rfl ?_
    refine xg_getW hC (b := xm_cb t + 5) (xm_hC hI ht) rfl (xm_w9 hI ht) (Nat.le_add_left _ _) xl_F_X1_24 dX1_stepOfTenure_13 ?_
    refine xg_iload_n hC dX1_stepOfTenure_16 rfl ?_
    refine xg_iald hC (xm_hCb hI ht (by decide) (by decide)) rfl h3 dX1_stepOfTenure_17 (fun b4 k5 => ?_)
    refine xg_aload_n hC dX1_stepOfTenure_18 rfl ?_
    refine xg_getW hC (b := xm_cb t + 2) (xm_hC hI ht) rfl (xm_w6 hI ht) (Nat.le_add_left _ _) xl_F_X1_15 dX1_stepOfTenure_19 ?_
    refine xg_iload_n hC dX1_stepOfTenure_22 rfl ?_
    refine xg_iald hC (xm_hCb hI ht (by decide) (by decide)) rfl h3 dX1_stepOfTenure_23 (fun b6 k7 => ?_)
    refine xg_icmp_eq hC k5 k7 30 dX1_stepOfTenure_24 rfl (fun c8 => ?_) (fun c9 => ?_)
    · refine xg_iload_n hC dX1_stepOfTenure_30 rfl ?_
      refine xg_iload_n hC dX1_stepOfTenure_31 rfl ?_
      refine xg_icmp_ne hC h2 h1 37 dX1_stepOfTenure_32 rfl (fun c10 => ?_) (fun c11 => ?_)
      · refine xg_iload_n hC dX1_stepOfTenure_35 rfl ?_
        exact xg_iret hC hQ h3 dX1_stepOfTenure_36
      refine xg_iinc hC (l' := [(2, .int (xm_J (xm_w (x2 + 1)))), (0, .ref (xm_ad (xx_G X) (xm_cb t))), (1, .int (xm_J x1)), (3, .int (xm_J x3))]) dX1_stepOfTenure_37 (by decide) 2 rfl rfl ?_
      refine xg_iinc hC (l' := [(3, .int (xm_J (xm_w (x3 + 1)))), (2, .int (xm_J (xm_w (x2 + 1)))), (0, .ref (xm_ad (xx_G X) (xm_cb t))), (1, .int (xm_J x1))]) dX1_stepOfTenure_40 (by decide) 3 rfl rfl ?_
      refine xg_goto hC 4 dX1_stepOfTenure_43 rfl ?_
      exact xg_pick [2, 3, 1, 0] rfl (hself σ x1 (xm_w (x2 + 1)) (xm_w (x3 + 1)) h1 (xm_w_in _) (xm_w_in _))
    refine xg_goto hC 40 dX1_stepOfTenure_27 rfl ?_
    refine xg_iinc hC (l' := [(3, .int (xm_J (xm_w (x3 + 1)))), (0, .ref (xm_ad (xx_G X) (xm_cb t))), (1, .int (xm_J x1)), (2, .int (xm_J x2))]) dX1_stepOfTenure_40 (by decide) 3 rfl rfl ?_
    refine xg_goto hC 4 dX1_stepOfTenure_43 rfl ?_
    exact xg_pick [1, 2, 3, 0] rfl (hself σ x1 x2 (xm_w (x3 + 1)) h1 h2 (xm_w_in _))
  refine xg_iconst hC dX1_stepOfTenure_46 ?_
  exact xg_iret hC hQ (xm_inc _ rfl) dX1_stepOfTenure_47
theorem w_X1_stepOfTenure_l4 {X : xm_X} (hC : xm_C X yX1_stepOfTenure.cls cX1_stepOfTenure 4 1 0 0) (hQ : xm_Rt X 1 (some .int) 0 0) (hI : xx_I X = xm_I) {t : Nat} (ht : t < 8)   (n : Nat) : ∀ (σ : xm_Mem) (x1 : Int) (x2 : Int) (x3 : Int), xm_in x1 → xm_in x2 → xm_in x3 → xm_V X 0 0 (f_X1_stepOfTenure_l4 t  n σ x1 x2 x3) σ 4 [(0, .ref (xm_ad (xx_G X) (xm_cb t))), (1, .int (xm_J x1)), (2, .int (xm_J x2)), (3, .int (xm_J x3))] [] := by
  induction n with
  | zero => intro σ x1 x2 x3 h1 h2 h3; exact xg_none
  | succ n ih => intro σ x1 x2 x3 h1 h2 h3; exact w_X1_stepOfTenure_b4 hC hQ hI ht ih σ x1 x2 x3 h1 h2 h3
theorem w_X1_stepOfTenure {Γ : xm_Gm} {I : xm_Mem → Prop} {la : Launch} (hE : I = xm_I) (σ : xm_Mem) (t : Nat) (x1 : Int) (ht : t < 8) (h1 : xm_in x1) : ∀ o, f_X1_stepOfTenure t σ x1 = some o → xm_M Γ I la yX1_stepOfTenure cX1_stepOfTenure 4 (some .int) 1 0 0 [.ref (xm_ad Γ (xm_cb t)), .int (xm_J x1)] σ 1 o := by
  refine xg_enter (by decide) (by simp [lg_sl, xm_rf_cat, xm_cati, xm_catr, xm_catl]) (fun X hG hI0 hla hC hQ hname => ?_)
  subst hG
  have hI := hI0.trans hE
  clear hI0 hla
  unfold f_X1_stepOfTenure
  refine xg_pick [0, 1] (l' := [(0, .ref (xm_ad (xx_G X) (xm_cb t))), (1, .int (xm_J x1))]) rfl ?_
  refine xg_iconst hC dX1_stepOfTenure_0 ?_
  refine xg_istore_n hC (l' := [(2, .int (xm_J (0 : Int))), (0, .ref (xm_ad (xx_G X) (xm_cb t))), (1, .int (xm_J x1))]) dX1_stepOfTenure_1 (by decide) rfl ?_
  refine xg_iconst hC dX1_stepOfTenure_2 ?_
  refine xg_istore_n hC (l' := [(3, .int (xm_J (0 : Int))), (2, .int (xm_J (0 : Int))), (0, .ref (xm_ad (xx_G X) (xm_cb t))), (1, .int (xm_J x1))]) dX1_stepOfTenure_3 (by decide) rfl ?_
  exact xg_pick [2, 3, 1, 0] rfl (w_X1_stepOfTenure_l4 hC hQ hI ht _ σ x1 (0 : Int) (0 : Int) h1 (xm_inc _ rfl) (xm_inc _ rfl))
theorem w_X10_tenure {Γ : xm_Gm} {I : xm_Mem → Prop} {la : Launch} (hE : I = xm_I) (σ : xm_Mem) (x1 : Int) (x2 : Int) (x3 : Int) (h1 : xm_in x1) (h2 : xm_in x2) (h3 : xm_in x3) : ∀ o, f_X10_tenure σ x1 x2 x3 = some o → xm_M Γ I la yX10_tenure cX10_tenure 6 (some .int) 8 0 0 [.ref (xm_ad Γ 1), .int (xm_J x1), .int (xm_J x2), .int (xm_J x3)] σ 1 o := by
  refine xg_enter (by decide) (by simp [lg_sl, xm_rf_cat, xm_cati, xm_catr, xm_catl]) (fun X hG hI0 hla hC hQ hname => ?_)
  subst hG
  have hI := hI0.trans hE
  clear hI0 hla
  unfold f_X10_tenure
  refine xg_pick [0, 1, 2, 3] (l' := [(0, .ref (xm_ad (xx_G X) 1)), (1, .int (xm_J x1)), (2, .int (xm_J x2)), (3, .int (xm_J x3))]) rfl ?_
  refine xg_aload_n hC dX10_tenure_0 rfl ?_
  refine xg_getW hC (b := 5) (xm_hK hI rfl) rfl (xm_wK hI rfl) (by decide) xl_F_X10_28 dX10_tenure_1 ?_
  refine xg_iload_n hC dX10_tenure_4 rfl ?_
  refine xg_callV hC (ci := 6) (w_X7_hasTitle hI σ x1 h1) xl_M_X10_201 xl_V_X7_hasTitle (xm_hK (a := 5) (kd := 0) (n := 6) hI rfl).2 ((xm_hK (a := 5) (kd := 0) (n := 6) hI rfl).1 _) (by decide) rfl (by decide) ⟨by decide, by decide⟩ dX10_tenure_5 (rest := []) rfl rfl (Nat.le_of_ble_eq_true rfl) rfl rfl (st2 := fun o => .int (xm_J o.2) :: []) (fun _ => rfl) (fun o1 k2 => ?_)
  refine xg_if_ne hC (xm_in01 k2) 17 dX10_tenure_8 rfl (fun c3 => ?_) (fun c4 => ?_)
  · refine xg_aload_n hC dX10_tenure_11 rfl ?_
    refine xg_iconst hC dX10_tenure_12 ?_
    refine xg_callV hC (ci := 9) (w_X10_refuse hI o1.1 (1 : Int) (xm_inc _ rfl)) xl_M_X10_87 xl_V_X10_refuse (xm_hK (a := 1) (kd := 0) (n := 9) hI rfl).2 ((xm_hK (a := 1) (kd := 0) (n := 9) hI rfl).1 _) (by decide) rfl (by decide) ⟨by decide, by decide⟩ dX10_tenure_13 (rest := []) rfl rfl (Nat.le_of_ble_eq_true rfl) rfl rfl (st2 := fun o => .int (xm_J o.2) :: []) (fun _ => rfl) (fun o5 k6 => ?_)
    exact xg_iret hC hQ k6 dX10_tenure_16
  refine xg_aload_n hC dX10_tenure_17 rfl ?_
  refine xg_iload_n hC dX10_tenure_18 rfl ?_
  refine xg_callV hC (ci := 9) (w_X10_courseOf hI o1.1 x1 h1) xl_M_X10_204 xl_V_X10_courseOf (xm_hK (a := 1) (kd := 0) (n := 9) hI rfl).2 ((xm_hK (a := 1) (kd := 0) (n := 9) hI rfl).1 _) (by decide) rfl (by decide) ⟨by decide, by decide⟩ dX10_tenure_19 (rest := []) rfl rfl (Nat.le_of_ble_eq_true rfl) rfl rfl (st2 := fun o => .ref (xm_ad (xx_G X) (xm_cb o.2.toNat)) :: []) (fun _ => rfl) (fun o7 k8 => ?_)
  refine xg_astore hC (l' := [(4, .ref (xm_ad (xx_G X) (xm_cb o7.2.toNat))), (0, .ref (xm_ad (xx_G X) 1)), (1, .int (xm_J x1)), (2, .int (xm_J x2)), (3, .int (xm_J x3))]) dX10_tenure_22 (by decide) rfl ?_
  refine xg_aload hC dX10_tenure_24 rfl ?_
  refine xg_iload_n hC dX10_tenure_26 rfl ?_
  refine xg_callV hC (ci := 0) (w_X1_stepOfTenure hI o7.1 o7.2.toNat x2 (xm_c8 k8) h2) xl_M_X10_236 xl_V_X1_stepOfTenure (xm_hC hI (xm_c8 k8)).2 ((xm_hC hI (xm_c8 k8)).1 _) (by decide) rfl (by decide) ⟨by decide, by decide⟩ dX10_tenure_27 (rest := []) rfl rfl (Nat.le_of_ble_eq_true rfl) rfl rfl (st2 := fun o => .int (xm_J o.2) :: []) (fun _ => rfl) (fun o9 k10 => ?_)
  refine xg_istore hC (l' := [(5, .int (xm_J o9.2)), (4, .ref (xm_ad (xx_G X) (xm_cb o7.2.toNat))), (0, .ref (xm_ad (xx_G X) 1)), (1, .int (xm_J x1)), (2, .int (xm_J x2)), (3, .int (xm_J x3))]) dX10_tenure_30 (by decide) rfl ?_
  refine xg_iload hC dX10_tenure_32 rfl ?_
  refine xg_iconst hC dX10_tenure_34 ?_
  refine xg_icmp_ne hC k10 (xm_inc _ rfl) 44 dX10_tenure_35 rfl (fun c11 => ?_) (fun c12 => ?_)
  · refine xg_aload_n hC dX10_tenure_38 rfl ?_
    refine xg_iconst hC dX10_tenure_39 ?_
    refine xg_callV hC (ci := 9) (w_X10_refuse hI o9.1 (1 : Int) (xm_inc _ rfl)) xl_M_X10_87 xl_V_X10_refuse (xm_hK (a := 1) (kd := 0) (n := 9) hI rfl).2 ((xm_hK (a := 1) (kd := 0) (n := 9) hI rfl).1 _) (by decide) rfl (by decide) ⟨by decide, by decide⟩ dX10_tenure_40 (rest := []) rfl rfl (Nat.le_of_ble_eq_true rfl) rfl rfl (st2 := fun o => .int (xm_J o.2) :: []) (fun _ => rfl) (fun o13 k14 => ?_)
    exact xg_iret hC hQ k14 dX10_tenure_43
  refine xg_iload_n hC dX10_tenure_44 rfl ?_
  refine xg_if_ne hC h3 60 dX10_tenure_45 rfl (fun c15 => ?_) (fun c16 => ?_)
  · refine xg_aload_n hC dX10_tenure_48 rfl ?_
    refine xg_aload hC dX10_tenure_49 rfl ?_
    refine xg_iload hC dX10_tenure_51 rfl ?_
    refine xg_callV hC (ci := 0) (w_X1_state hI o9.1 o7.2.toNat o9.2 (xm_c8 k8) k10) xl_M_X10_211 xl_V_X1_state (xm_hC hI (xm_c8 k8)).2 ((xm_hC hI (xm_c8 k8)).1 _) (by decide) rfl (by decide) ⟨by decide, by decide⟩ dX10_tenure_53 (rest := [.ref (xm_ad (xx_G X) 1)]) rfl rfl (Nat.le_of_ble_eq_true rfl) rfl rfl (st2 := fun o => .int (xm_J o.2) :: [.ref (xm_ad (xx_G X) 1)]) (fun _ => rfl) (fun o17 k18 => ?_)
    refine xg_callV hC (ci := 9) (w_X10_accept hI o17.1 o17.2 k18) xl_M_X10_99 xl_V_X10_accept (xm_hK (a := 1) (kd := 0) (n := 9) hI rfl).2 ((xm_hK (a := 1) (kd := 0) (n := 9) hI rfl).1 _) (by decide) rfl (by decide) ⟨by decide, by decide⟩ dX10_tenure_56 (rest := []) rfl rfl (Nat.le_of_ble_eq_true rfl) rfl rfl (st2 := fun o => .int (xm_J o.2) :: []) (fun _ => rfl) (fun o19 k20 => ?_)
    exact xg_iret hC hQ k20 dX10_tenure_59
  refine xg_iload_n hC dX10_tenure_60 rfl ?_
  refine xg_iconst hC dX10_tenure_61 ?_
  refine xg_icmp_ne hC h3 (xm_inc _ rfl) 77 dX10_tenure_62 rfl (fun c21 => ?_) (fun c22 => ?_)
  · refine xg_aload_n hC dX10_tenure_65 rfl ?_
    refine xg_aload hC dX10_tenure_66 rfl ?_
    refine xg_iload hC dX10_tenure_68 rfl ?_
    refine xg_callV hC (ci := 0) (w_X1_firstDay hI o9.1 o7.2.toNat o9.2 (xm_c8 k8) k10) xl_M_X10_214 xl_V_X1_firstDay (xm_hC hI (xm_c8 k8)).2 ((xm_hC hI (xm_c8 k8)).1 _) (by decide) rfl (by decide) ⟨by decide, by decide⟩ dX10_tenure_70 (rest := [.ref (xm_ad (xx_G X) 1)]) rfl rfl (Nat.le_of_ble_eq_true rfl) rfl rfl (st2 := fun o => .int (xm_J o.2) :: [.ref (xm_ad (xx_G X) 1)]) (fun _ => rfl) (fun o23 k24 => ?_)
    refine xg_callV hC (ci := 9) (w_X10_accept hI o23.1 o23.2 k24) xl_M_X10_99 xl_V_X10_accept (xm_hK (a := 1) (kd := 0) (n := 9) hI rfl).2 ((xm_hK (a := 1) (kd := 0) (n := 9) hI rfl).1 _) (by decide) rfl (by decide) ⟨by decide, by decide⟩ dX10_tenure_73 (rest := []) rfl rfl (Nat.le_of_ble_eq_true rfl) rfl rfl (st2 := fun o => .int (xm_J o.2) :: []) (fun _ => rfl) (fun o25 k26 => ?_)
    exact xg_iret hC hQ k26 dX10_tenure_76
  refine xg_aload_n hC dX10_tenure_77 rfl ?_
  refine xg_iconst hC dX10_tenure_78 ?_
  refine xg_callV hC (ci := 9) (w_X10_refuse hI o9.1 (3 : Int) (xm_inc _ rfl)) xl_M_X10_87 xl_V_X10_refuse (xm_hK (a := 1) (kd := 0) (n := 9) hI rfl).2 ((xm_hK (a := 1) (kd := 0) (n := 9) hI rfl).1 _) (by decide) rfl (by decide) ⟨by decide, by decide⟩ dX10_tenure_79 (rest := []) rfl rfl (Nat.le_of_ble_eq_true rfl) rfl rfl (st2 := fun o => .int (xm_J o.2) :: []) (fun _ => rfl) (fun o27 k28 => ?_)
  exact xg_iret hC hQ k28 dX10_tenure_82
theorem w_X10_status {Γ : xm_Gm} {I : xm_Mem → Prop} {la : Launch} (hE : I = xm_I) (σ : xm_Mem)   : ∀ o, f_X10_status σ  = some o → xm_M Γ I la yX10_status cX10_status 1 (some .int) 1 0 0 [.ref (xm_ad Γ 1)] σ 1 o := by
  refine xg_enter (by decide) (by simp [lg_sl, xm_rf_cat, xm_cati, xm_catr, xm_catl]) (fun X hG hI0 hla hC hQ hname => ?_)
  subst hG
  have hI := hI0.trans hE
  clear hI0 hla
  unfold f_X10_status
  refine xg_pick [0] (l' := [(0, .ref (xm_ad (xx_G X) 1))]) rfl ?_
  refine xg_aload_n hC dX10_status_0 rfl ?_
  refine xg_getI hC (xm_hK hI rfl) rfl xl_F_X10_70 dX10_status_1 (fun k1 => ?_)
  exact xg_iret hC hQ k1 dX10_status_4
