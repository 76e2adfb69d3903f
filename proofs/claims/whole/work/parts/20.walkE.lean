/-! ===== walks of the reference (written by program) ===== -/
theorem w_X11_fine {Γ : xm_Gm} {I : xm_Mem → Prop} {la : Launch} (hE : I = xm_I) (σ : xm_Mem) (x1 : Int) (h1 : xm_in x1) : ∀ o, f_X11_fine σ x1 = some o → xm_M Γ I la yX11_fine cX11_fine 2 (some .int) 1 0 0 [.ref (xm_B Γ + 84), .int (xm_J x1)] σ 1 o := by
  refine xg_enter (by decide) (by simp [lg_sl, xm_rf_cat, xm_cati, xm_catr, xm_catl]) (fun X hG hI0 hla hC hQ hname => ?_)
  subst hG
  have hI := hI0.trans hE
  clear hI0 hla
  unfold f_X11_fine
  refine xg_pick [0, 1] (l' := [(0, .ref (xm_B (xx_G X) + 84)), (1, .int (xm_J x1))]) rfl ?_
  refine xg_aload_n hC dX11_fine_0 rfl ?_
  refine xg_iconst hC dX11_fine_1 ?_
  refine xg_putI hC (xm_hK hI rfl) rfl rfl (xm_inc _ rfl) (xm_kpK hI rfl) xl_F_X11_1 dX11_fine_2 ?_
  refine xg_st (fun σ1 => ?_)
  refine xg_iload_n hC dX11_fine_5 rfl ?_
  exact xg_iret hC hQ h1 dX11_fine_6
theorem w_X11_no {Γ : xm_Gm} {I : xm_Mem → Prop} {la : Launch} (hE : I = xm_I) (σ : xm_Mem) (x1 : Int) (h1 : xm_in x1) : ∀ o, f_X11_no σ x1 = some o → xm_M Γ I la yX11_no cX11_no 2 (some .int) 1 0 0 [.ref (xm_B Γ + 84), .int (xm_J x1)] σ 1 o := by
  refine xg_enter (by decide) (by simp [lg_sl, xm_rf_cat, xm_cati, xm_catr, xm_catl]) (fun X hG hI0 hla hC hQ hname => ?_)
  subst hG
  have hI := hI0.trans hE
  clear hI0 hla
  unfold f_X11_no
  refine xg_pick [0, 1] (l' := [(0, .ref (xm_B (xx_G X) + 84)), (1, .int (xm_J x1))]) rfl ?_
  refine xg_aload_n hC dX11_no_0 rfl ?_
  refine xg_iload_n hC dX11_no_1 rfl ?_
  refine xg_putI hC (xm_hK hI rfl) rfl rfl h1 (xm_kpK hI rfl) xl_F_X11_1 dX11_no_2 ?_
  refine xg_st (fun σ1 => ?_)
  refine xg_bipush hC dX11_no_5 (by decide) ?_
  exact xg_iret hC hQ (xm_inc _ rfl) dX11_no_7
theorem w_X11_isIn {Γ : xm_Gm} {I : xm_Mem → Prop} {la : Launch} (hE : I = xm_I) (σ : xm_Mem) (x0 : Int) (x1 : Int) (x2 : Int) (h0 : xm_in x0) (h1 : xm_in x1) (h2 : xm_in x2) : ∀ o, f_X11_isIn σ x0 x1 x2 = some o → xm_M Γ I la yX11_isIn cX11_isIn 3 (some .boolean) 1 0 0 [.int (xm_J x0), .int (xm_J x1), .int (xm_J x2)] σ 2 o := by
  refine xg_enter (by decide) (by simp [lg_sl, xm_rf_cat, xm_cati, xm_catr, xm_catl]) (fun X hG hI0 hla hC hQ hname => ?_)
  subst hG
  have hI := hI0.trans hE
  clear hI0 hla
  unfold f_X11_isIn
  refine xg_pick [0, 1, 2] (l' := [(0, .int (xm_J x0)), (1, .int (xm_J x1)), (2, .int (xm_J x2))]) rfl ?_
  refine xg_iload_n hC dX11_isIn_0 rfl ?_
  refine xg_iload_n hC dX11_isIn_1 rfl ?_
  refine xg_icmp_lt hC h0 h1 14 dX11_isIn_2 rfl (fun c1 => ?_) (fun c2 => ?_)
  · refine xg_iconst hC dX11_isIn_14 ?_
    exact xg_zret hC hQ (by decide) dX11_isIn_15
  refine xg_iload_n hC dX11_isIn_5 rfl ?_
  refine xg_iload_n hC dX11_isIn_6 rfl ?_
  refine xg_icmp_gt hC h0 h2 14 dX11_isIn_7 rfl (fun c3 => ?_) (fun c4 => ?_)
  · refine xg_iconst hC dX11_isIn_14 ?_
    exact xg_zret hC hQ (by decide) dX11_isIn_15
  refine xg_iconst hC dX11_isIn_10 ?_
  refine xg_goto hC 15 dX11_isIn_11 rfl ?_
  exact xg_zret hC hQ (by decide) dX11_isIn_15
theorem w_X11_isPerson {Γ : xm_Gm} {I : xm_Mem → Prop} {la : Launch} (hE : I = xm_I) (σ : xm_Mem) (x1 : Int) (h1 : xm_in x1) : ∀ o, f_X11_isPerson σ x1 = some o → xm_M Γ I la yX11_isPerson cX11_isPerson 2 (some .boolean) 2 0 0 [.ref (xm_B Γ + 84), .int (xm_J x1)] σ 2 o := by
  refine xg_enter (by decide) (by simp [lg_sl, xm_rf_cat, xm_cati, xm_catr, xm_catl]) (fun X hG hI0 hla hC hQ hname => ?_)
  subst hG
  have hI := hI0.trans hE
  clear hI0 hla
  unfold f_X11_isPerson
  refine xg_pick [0, 1] (l' := [(0, .ref (xm_B (xx_G X) + 84)), (1, .int (xm_J x1))]) rfl ?_
  refine xg_iload_n hC dX11_isPerson_0 rfl ?_
  refine xg_iconst hC dX11_isPerson_1 ?_
  refine xg_aload_n hC dX11_isPerson_2 rfl ?_
  refine xg_getI hC (xm_hK hI rfl) rfl xl_F_X11_7 dX11_isPerson_3 (fun k1 => ?_)
  refine xg_iconst hC dX11_isPerson_6 ?_
  refine xg_isub hC dX11_isPerson_7 ?_
  refine xg_callS hC (w_X11_isIn hI σ x1 (0 : Int) (xm_w ((σ.1 84 14) - (1 : Int))) h1 (xm_inc _ rfl) (xm_w_in _)) xl_M_X11_10 xl_S_X11_isIn (by decide) ⟨by decide, by decide⟩ dX11_isPerson_8 (rest := []) rfl rfl (Nat.le_of_ble_eq_true rfl) rfl rfl (st2 := fun o => .int (xm_J o.2) :: []) (fun _ => rfl) (fun o2 k3 => ?_)
  refine xg_if_eq hC (xm_in01 k3) 32 dX11_isPerson_11 rfl (fun c4 => ?_) (fun c5 => ?_)
  · refine xg_iconst hC dX11_isPerson_32 ?_
    exact xg_zret hC hQ (by decide) dX11_isPerson_33
  refine xg_aload_n hC dX11_isPerson_14 rfl ?_
  refine xg_getW hC (b := 92) (xm_hK hI rfl) rfl (xm_wK hI rfl) (by decide) xl_F_X11_14 dX11_isPerson_15 ?_
  refine xg_aload_n hC dX11_isPerson_18 rfl ?_
  refine xg_getW hC (b := 93) (xm_hK hI rfl) rfl (xm_wK hI rfl) (by decide) xl_F_X11_18 dX11_isPerson_19 ?_
  refine xg_iload_n hC dX11_isPerson_22 rfl ?_
  refine xg_iald hC (xm_hK hI rfl) rfl h1 dX11_isPerson_23 (fun b6 k7 => ?_)
  refine xg_vI k7 (fun v8 k9 => ?_)
  refine xg_zald hC (xm_hK hI rfl) rfl k9 dX11_isPerson_24 (fun b10 k11 => ?_)
  refine xg_if_eq hC (xm_in01 k11) 32 dX11_isPerson_25 rfl (fun c12 => ?_) (fun c13 => ?_)
  · refine xg_iconst hC dX11_isPerson_32 ?_
    exact xg_zret hC hQ (by decide) dX11_isPerson_33
  refine xg_iconst hC dX11_isPerson_28 ?_
  refine xg_goto hC 33 dX11_isPerson_29 rfl ?_
  exact xg_zret hC hQ (by decide) dX11_isPerson_33
theorem w_X11_isTitle {Γ : xm_Gm} {I : xm_Mem → Prop} {la : Launch} (hE : I = xm_I) (σ : xm_Mem) (x1 : Int) (h1 : xm_in x1) : ∀ o, f_X11_isTitle σ x1 = some o → xm_M Γ I la yX11_isTitle cX11_isTitle 2 (some .boolean) 2 0 0 [.ref (xm_B Γ + 84), .int (xm_J x1)] σ 2 o := by
  refine xg_enter (by decide) (by simp [lg_sl, xm_rf_cat, xm_cati, xm_catr, xm_catl]) (fun X hG hI0 hla hC hQ hname => ?_)
  subst hG
  have hI := hI0.trans hE
  clear hI0 hla
  unfold f_X11_isTitle
  refine xg_pick [0, 1] (l' := [(0, .ref (xm_B (xx_G X) + 84)), (1, .int (xm_J x1))]) rfl ?_
  refine xg_iload_n hC dX11_isTitle_0 rfl ?_
  refine xg_iconst hC dX11_isTitle_1 ?_
  refine xg_aload_n hC dX11_isTitle_2 rfl ?_
  refine xg_getI hC (xm_hK hI rfl) rfl xl_F_X11_22 dX11_isTitle_3 (fun k1 => ?_)
  refine xg_iconst hC dX11_isTitle_6 ?_
  refine xg_isub hC dX11_isTitle_7 ?_
  refine xg_callS hC (w_X11_isIn hI σ x1 (0 : Int) (xm_w ((σ.1 84 15) - (1 : Int))) h1 (xm_inc _ rfl) (xm_w_in _)) xl_M_X11_10 xl_S_X11_isIn (by decide) ⟨by decide, by decide⟩ dX11_isTitle_8 (rest := []) rfl rfl (Nat.le_of_ble_eq_true rfl) rfl rfl (st2 := fun o => .int (xm_J o.2) :: []) (fun _ => rfl) (fun o2 k3 => ?_)
  refine xg_if_eq hC (xm_in01 k3) 32 dX11_isTitle_11 rfl (fun c4 => ?_) (fun c5 => ?_)
  · refine xg_iconst hC dX11_isTitle_32 ?_
    exact xg_zret hC hQ (by decide) dX11_isTitle_33
  refine xg_aload_n hC dX11_isTitle_14 rfl ?_
  refine xg_getW hC (b := 92) (xm_hK hI rfl) rfl (xm_wK hI rfl) (by decide) xl_F_X11_14 dX11_isTitle_15 ?_
  refine xg_aload_n hC dX11_isTitle_18 rfl ?_
  refine xg_getW hC (b := 94) (xm_hK hI rfl) rfl (xm_wK hI rfl) (by decide) xl_F_X11_25 dX11_isTitle_19 ?_
  refine xg_iload_n hC dX11_isTitle_22 rfl ?_
  refine xg_iald hC (xm_hK hI rfl) rfl h1 dX11_isTitle_23 (fun b6 k7 => ?_)
  refine xg_vI k7 (fun v8 k9 => ?_)
  refine xg_zald hC (xm_hK hI rfl) rfl k9 dX11_isTitle_24 (fun b10 k11 => ?_)
  refine xg_if_eq hC (xm_in01 k11) 32 dX11_isTitle_25 rfl (fun c12 => ?_) (fun c13 => ?_)
  · refine xg_iconst hC dX11_isTitle_32 ?_
    exact xg_zret hC hQ (by decide) dX11_isTitle_33
  refine xg_iconst hC dX11_isTitle_28 ?_
  refine xg_goto hC 33 dX11_isTitle_29 rfl ?_
  exact xg_zret hC hQ (by decide) dX11_isTitle_33
theorem w_X11_isMale {Γ : xm_Gm} {I : xm_Mem → Prop} {la : Launch} (hE : I = xm_I) (σ : xm_Mem) (x1 : Int) (h1 : xm_in x1) : ∀ o, f_X11_isMale σ x1 = some o → xm_M Γ I la yX11_isMale cX11_isMale 2 (some .boolean) 1 0 0 [.ref (xm_B Γ + 84), .int (xm_J x1)] σ 2 o := by
  refine xg_enter (by decide) (by simp [lg_sl, xm_rf_cat, xm_cati, xm_catr, xm_catl]) (fun X hG hI0 hla hC hQ hname => ?_)
  subst hG
  have hI := hI0.trans hE
  clear hI0 hla
  unfold f_X11_isMale
  refine xg_pick [0, 1] (l' := [(0, .ref (xm_B (xx_G X) + 84)), (1, .int (xm_J x1))]) rfl ?_
  refine xg_aload_n hC dX11_isMale_0 rfl ?_
  refine xg_getW hC (b := 91) (xm_hK hI rfl) rfl (xm_wK hI rfl) (by decide) xl_F_X11_28 dX11_isMale_1 ?_
  refine xg_aload_n hC dX11_isMale_4 rfl ?_
  refine xg_getW hC (b := 93) (xm_hK hI rfl) rfl (xm_wK hI rfl) (by decide) xl_F_X11_18 dX11_isMale_5 ?_
  refine xg_iload_n hC dX11_isMale_8 rfl ?_
  refine xg_iald hC (xm_hK hI rfl) rfl h1 dX11_isMale_9 (fun b1 k2 => ?_)
  refine xg_vI k2 (fun v3 k4 => ?_)
  refine xg_iald hC (xm_hK hI rfl) rfl k4 dX11_isMale_10 (fun b5 k6 => ?_)
  refine xg_iconst hC dX11_isMale_11 ?_
  refine xg_icmp_ne hC k6 (xm_inc _ rfl) 19 dX11_isMale_12 rfl (fun c7 => ?_) (fun c8 => ?_)
  · refine xg_iconst hC dX11_isMale_15 ?_
    refine xg_goto hC 20 dX11_isMale_16 rfl ?_
    exact xg_zret hC hQ (by decide) dX11_isMale_20
  refine xg_iconst hC dX11_isMale_19 ?_
  exact xg_zret hC hQ (by decide) dX11_isMale_20
theorem w_X11_bornOn {Γ : xm_Gm} {I : xm_Mem → Prop} {la : Launch} (hE : I = xm_I) (σ : xm_Mem) (x1 : Int) (h1 : xm_in x1) : ∀ o, f_X11_bornOn σ x1 = some o → xm_M Γ I la yX11_bornOn cX11_bornOn 2 (some .int) 1 0 0 [.ref (xm_B Γ + 84), .int (xm_J x1)] σ 1 o := by
  refine xg_enter (by decide) (by simp [lg_sl, xm_rf_cat, xm_cati, xm_catr, xm_catl]) (fun X hG hI0 hla hC hQ hname => ?_)
  subst hG
  have hI := hI0.trans hE
  clear hI0 hla
  unfold f_X11_bornOn
  refine xg_pick [0, 1] (l' := [(0, .ref (xm_B (xx_G X) + 84)), (1, .int (xm_J x1))]) rfl ?_
  refine xg_aload_n hC dX11_bornOn_0 rfl ?_
  refine xg_getW hC (b := 87) (xm_hK hI rfl) rfl (xm_wK hI rfl) (by decide) xl_F_X11_31 dX11_bornOn_1 ?_
  refine xg_aload_n hC dX11_bornOn_4 rfl ?_
  refine xg_getW hC (b := 93) (xm_hK hI rfl) rfl (xm_wK hI rfl) (by decide) xl_F_X11_18 dX11_bornOn_5 ?_
  refine xg_iload_n hC dX11_bornOn_8 rfl ?_
  refine xg_iald hC (xm_hK hI rfl) rfl h1 dX11_bornOn_9 (fun b1 k2 => ?_)
  refine xg_vI k2 (fun v3 k4 => ?_)
  refine xg_iald hC (xm_hK hI rfl) rfl k4 dX11_bornOn_10 (fun b5 k6 => ?_)
  exact xg_iret hC hQ k6 dX11_bornOn_11
theorem w_X11_father {Γ : xm_Gm} {I : xm_Mem → Prop} {la : Launch} (hE : I = xm_I) (σ : xm_Mem) (x1 : Int) (h1 : xm_in x1) : ∀ o, f_X11_father σ x1 = some o → xm_M Γ I la yX11_father cX11_father 2 (some .int) 1 0 0 [.ref (xm_B Γ + 84), .int (xm_J x1)] σ 1 o := by
  refine xg_enter (by decide) (by simp [lg_sl, xm_rf_cat, xm_cati, xm_catr, xm_catl]) (fun X hG hI0 hla hC hQ hname => ?_)
  subst hG
  have hI := hI0.trans hE
  clear hI0 hla
  unfold f_X11_father
  refine xg_pick [0, 1] (l' := [(0, .ref (xm_B (xx_G X) + 84)), (1, .int (xm_J x1))]) rfl ?_
  refine xg_aload_n hC dX11_father_0 rfl ?_
  refine xg_getW hC (b := 89) (xm_hK hI rfl) rfl (xm_wK hI rfl) (by decide) xl_F_X11_34 dX11_father_1 ?_
  refine xg_aload_n hC dX11_father_4 rfl ?_
  refine xg_getW hC (b := 93) (xm_hK hI rfl) rfl (xm_wK hI rfl) (by decide) xl_F_X11_18 dX11_father_5 ?_
  refine xg_iload_n hC dX11_father_8 rfl ?_
  refine xg_iald hC (xm_hK hI rfl) rfl h1 dX11_father_9 (fun b1 k2 => ?_)
  refine xg_vI k2 (fun v3 k4 => ?_)
  refine xg_iald hC (xm_hK hI rfl) rfl k4 dX11_father_10 (fun b5 k6 => ?_)
  exact xg_iret hC hQ k6 dX11_father_11
theorem w_X11_mother {Γ : xm_Gm} {I : xm_Mem → Prop} {la : Launch} (hE : I = xm_I) (σ : xm_Mem) (x1 : Int) (h1 : xm_in x1) : ∀ o, f_X11_mother σ x1 = some o → xm_M Γ I la yX11_mother cX11_mother 2 (some .int) 1 0 0 [.ref (xm_B Γ + 84), .int (xm_J x1)] σ 1 o := by
  refine xg_enter (by decide) (by simp [lg_sl, xm_rf_cat, xm_cati, xm_catr, xm_catl]) (fun X hG hI0 hla hC hQ hname => ?_)
  subst hG
  have hI := hI0.trans hE
  clear hI0 hla
  unfold f_X11_mother
  refine xg_pick [0, 1] (l' := [(0, .ref (xm_B (xx_G X) + 84)), (1, .int (xm_J x1))]) rfl ?_
  refine xg_aload_n hC dX11_mother_0 rfl ?_
  refine xg_getW hC (b := 90) (xm_hK hI rfl) rfl (xm_wK hI rfl) (by decide) xl_F_X11_37 dX11_mother_1 ?_
  refine xg_aload_n hC dX11_mother_4 rfl ?_
  refine xg_getW hC (b := 93) (xm_hK hI rfl) rfl (xm_wK hI rfl) (by decide) xl_F_X11_18 dX11_mother_5 ?_
  refine xg_iload_n hC dX11_mother_8 rfl ?_
  refine xg_iald hC (xm_hK hI rfl) rfl h1 dX11_mother_9 (fun b1 k2 => ?_)
  refine xg_vI k2 (fun v3 k4 => ?_)
  refine xg_iald hC (xm_hK hI rfl) rfl k4 dX11_mother_10 (fun b5 k6 => ?_)
  exact xg_iret hC hQ k6 dX11_mother_11
theorem w_X11_deadOn_b2 {X : xm_X} (hC : xm_C X yX11_deadOn.cls cX11_deadOn 3 1 0 0) (hQ : xm_Rt X 1 (some .int) 0 0) (hI : xx_I X = xm_I) {K39 : xm_Mem → Int → Option xm_Out} (hK39 : ∀ (σ : xm_Mem) (x2 : Int), xm_in x2 → xm_V X 0 0 (K39 σ x2) σ 39 [(0, .ref (xm_B (xx_G X) + 84)), (2, .int (xm_J x2))] []) {self : xm_Mem → Int → Int → Option xm_Out} (hself : ∀ (σ : xm_Mem) (x1 : Int) (x2 : Int), xm_in x1 → xm_in x2 → xm_V X 0 0 (self σ x1 x2) σ 2 [(0, .ref (xm_B (xx_G X) + 84)), (1, .int (xm_J x1)), (2, .int (xm_J x2))] []) (σ : xm_Mem) (x1 : Int) (x2 : Int) (h1 : xm_in x1) (h2 : xm_in x2) : xm_V X 0 0 (f_X11_deadOn_b2 K39 self σ x1 x2) σ 2 [(0, .ref (xm_B (xx_G X) + 84)), (1, .int (xm_J x1)), (2, .int (xm_J x2))] [] := by
  unfold f_X11_deadOn_b2
  refine xg_iload_n hC dX11_deadOn_2 rfl ?_
  refine xg_aload_n hC dX11_deadOn_3 rfl ?_
  refine xg_getI hC (xm_hK hI rfl) rfl xl_F_X11_40 dX11_deadOn_4 (fun k1 => ?_)
  refine xg_icmp_ge hC h2 k1 52 dX11_deadOn_7 rfl (fun c2 => ?_) (fun c3 => ?_)
  · refine xg_aload_n hC dX11_deadOn_10 rfl ?_
    refine xg_getW hC (b := 92) (xm_hK hI rfl) rfl (xm_wK hI rfl) (by decide) xl_F_X11_14 dX11_deadOn_11 ?_
    refine xg_iload_n hC dX11_deadOn_14 rfl ?_
    refine xg_zald hC (xm_hK hI rfl) rfl h2 dX11_deadOn_15 (fun b4 k5 => ?_)
    refine xg_if_eq hC (xm_in01 k5) 46 dX11_deadOn_16 rfl (fun c6 => ?_) (fun c7 => ?_)
    · refine xg_iinc hC (l' := [(2, .int (xm_J (xm_w (x2 + 1)))), (0, .ref (xm_B (xx_G X) + 84)), (1, .int (xm_J x1))]) dX11_deadOn_46 (by decide) 2 rfl rfl ?_
      refine xg_goto hC 2 dX11_deadOn_49 rfl ?_
      exact xg_pick [1, 2, 0] rfl (hself σ x1 (xm_w (x2 + 1)) h1 (xm_w_in _))
    refine xg_aload_n hC dX11_deadOn_19 rfl ?_
    refine xg_getW hC (b := 86) (xm_hK hI rfl) rfl (xm_wK hI rfl) (by decide) xl_F_X11_43 dX11_deadOn_20 ?_
    refine xg_iload_n hC dX11_deadOn_23 rfl ?_
    refine xg_iald hC (xm_hK hI rfl) rfl h2 dX11_deadOn_24 (fun b8 k9 => ?_)
    refine xg_iconst hC dX11_deadOn_25 ?_
    refine xg_icmp_ne hC k9 (xm_inc _ rfl) 46 dX11_deadOn_26 rfl (fun c10 => ?_) (fun c11 => ?_)
    · refine xg_aload_n hC dX11_deadOn_29 rfl ?_
      refine xg_getW hC (b := 88) (xm_hK hI rfl) rfl (xm_wK hI rfl) (by decide) xl_F_X11_46 dX11_deadOn_30 ?_
      refine xg_iload_n hC dX11_deadOn_33 rfl ?_
      refine xg_iald hC (xm_hK hI rfl) rfl h2 dX11_deadOn_34 (fun b12 k13 => ?_)
      refine xg_iload_n hC dX11_deadOn_35 rfl ?_
      refine xg_icmp_ne hC k13 h1 46 dX11_deadOn_36 rfl (fun c14 => ?_) (fun c15 => ?_)
      · exact xg_pick [0, 2] rfl (hK39 σ x2 h2)
      refine xg_iinc hC (l' := [(2, .int (xm_J (xm_w (x2 + 1)))), (0, .ref (xm_B (xx_G X) + 84)), (1, .int (xm_J x1))]) dX11_deadOn_46 (by decide) 2 rfl rfl ?_
      refine xg_goto hC 2 dX11_deadOn_49 rfl ?_
      exact xg_pick [1, 2, 0] rfl (hself σ x1 (xm_w (x2 + 1)) h1 (xm_w_in _))
    refine xg_iinc hC (l' := [(2, .int (xm_J (xm_w (x2 + 1)))), (0, .ref (xm_B (xx_G X) + 84)), (1, .int (xm_J x1))]) dX11_deadOn_46 (by decide) 2 rfl rfl ?_
    refine xg_goto hC 2 dX11_deadOn_49 rfl ?_
    exact xg_pick [1, 2, 0] rfl (hself σ x1 (xm_w (x2 + 1)) h1 (xm_w_in _))
  refine xg_iconst hC dX11_deadOn_52 ?_
  exact xg_iret hC hQ (xm_inc _ rfl) dX11_deadOn_53
theorem w_X11_deadOn_l2 {X : xm_X} (hC : xm_C X yX11_deadOn.cls cX11_deadOn 3 1 0 0) (hQ : xm_Rt X 1 (some .int) 0 0) (hI : xx_I X = xm_I) {K39 : xm_Mem → Int → Option xm_Out} (hK39 : ∀ (σ : xm_Mem) (x2 : Int), xm_in x2 → xm_V X 0 0 (K39 σ x2) σ 39 [(0, .ref (xm_B (xx_G X) + 84)), (2, .int (xm_J x2))] []) (n : Nat) : ∀ (σ : xm_Mem) (x1 : Int) (x2 : Int), xm_in x1 → xm_in x2 → xm_V X 0 0 (f_X11_deadOn_l2 K39 n σ x1 x2) σ 2 [(0, .ref (xm_B (xx_G X) + 84)), (1, .int (xm_J x1)), (2, .int (xm_J x2))] [] := by
  induction n with
  | zero => intro σ x1 x2 h1 h2; exact xg_none
  | succ n ih => intro σ x1 x2 h1 h2; exact w_X11_deadOn_b2 hC hQ hI hK39 ih σ x1 x2 h1 h2
theorem w_X11_deadOn {Γ : xm_Gm} {I : xm_Mem → Prop} {la : Launch} (hE : I = xm_I) (σ : xm_Mem) (x1 : Int) (h1 : xm_in x1) : ∀ o, f_X11_deadOn σ x1 = some o → xm_M Γ I la yX11_deadOn cX11_deadOn 3 (some .int) 1 0 0 [.ref (xm_B Γ + 84), .int (xm_J x1)] σ 1 o := by
  refine xg_enter (by decide) (by simp [lg_sl, xm_rf_cat, xm_cati, xm_catr, xm_catl]) (fun X hG hI0 hla hC hQ hname => ?_)
  subst hG
  have hI := hI0.trans hE
  clear hI0 hla
  unfold f_X11_deadOn
  refine xg_pick [0, 1] (l' := [(0, .ref (xm_B (xx_G X) + 84)), (1, .int (xm_J x1))]) rfl ?_
  refine xg_iconst hC dX11_deadOn_0 ?_
  refine xg_istore_n hC (l' := [(2, .int (xm_J (0 : Int))), (0, .ref (xm_B (xx_G X) + 84)), (1, .int (xm_J x1))]) dX11_deadOn_1 (by decide) rfl ?_
  refine xg_pick [1, 2, 0] rfl (w_X11_deadOn_l2 hC hQ hI ?_ _ σ x1 (0 : Int) h1 (xm_inc _ rfl))
  intro σ_16 x2_16 h2_16
  refine xg_aload_n hC dX11_deadOn_39 rfl ?_
  refine xg_getW hC (b := 87) (xm_hK hI rfl) rfl (xm_wK hI rfl) (by decide) xl_F_X11_31 dX11_deadOn_40 ?_
  refine xg_iload_n hC dX11_deadOn_43 rfl ?_
  refine xg_iald hC (xm_hK hI rfl) rfl h2_16 dX11_deadOn_44 (fun b17 k18 => ?_)
  exact xg_iret hC hQ k18 dX11_deadOn_45
theorem w_X11_isDeadAhead {Γ : xm_Gm} {I : xm_Mem → Prop} {la : Launch} (hE : I = xm_I) (σ : xm_Mem) (x1 : Int) (x2 : Int) (h1 : xm_in x1) (h2 : xm_in x2) : ∀ o, f_X11_isDeadAhead σ x1 x2 = some o → xm_M Γ I la yX11_isDeadAhead cX11_isDeadAhead 4 (some .boolean) 2 0 0 [.ref (xm_B Γ + 84), .int (xm_J x1), .int (xm_J x2)] σ 2 o := by
  refine xg_enter (by decide) (by simp [lg_sl, xm_rf_cat, xm_cati, xm_catr, xm_catl]) (fun X hG hI0 hla hC hQ hname => ?_)
  subst hG
  have hI := hI0.trans hE
  clear hI0 hla
  unfold f_X11_isDeadAhead
  refine xg_pick [0, 1, 2] (l' := [(0, .ref (xm_B (xx_G X) + 84)), (1, .int (xm_J x1)), (2, .int (xm_J x2))]) rfl ?_
  refine xg_aload_n hC dX11_isDeadAhead_0 rfl ?_
  refine xg_iload_n hC dX11_isDeadAhead_1 rfl ?_
  refine xg_callV hC (ci := 10) (w_X11_deadOn hI σ x1 h1) xl_M_X11_49 xl_V_X11_deadOn (xm_hK (a := 84) (kd := 0) (n := 10) hI rfl).2 ((xm_hK (a := 84) (kd := 0) (n := 10) hI rfl).1 _) (by decide) rfl (by decide) ⟨by decide, by decide⟩ dX11_isDeadAhead_2 (rest := []) rfl rfl (Nat.le_of_ble_eq_true rfl) rfl rfl (st2 := fun o => .int (xm_J o.2) :: []) (fun _ => rfl) (fun o1 k2 => ?_)
  refine xg_istore_n hC (l' := [(3, .int (xm_J o1.2)), (0, .ref (xm_B (xx_G X) + 84)), (1, .int (xm_J x1)), (2, .int (xm_J x2))]) dX11_isDeadAhead_5 (by decide) rfl ?_
  refine xg_iload_n hC dX11_isDeadAhead_6 rfl ?_
  refine xg_if_lt hC k2 19 dX11_isDeadAhead_7 rfl (fun c3 => ?_) (fun c4 => ?_)
  · refine xg_iconst hC dX11_isDeadAhead_19 ?_
    exact xg_zret hC hQ (by decide) dX11_isDeadAhead_20
  refine xg_iload_n hC dX11_isDeadAhead_10 rfl ?_
  refine xg_iload_n hC dX11_isDeadAhead_11 rfl ?_
  refine xg_icmp_ge hC k2 h2 19 dX11_isDeadAhead_12 rfl (fun c5 => ?_) (fun c6 => ?_)
  · refine xg_iconst hC dX11_isDeadAhead_15 ?_
    refine xg_goto hC 20 dX11_isDeadAhead_16 rfl ?_
    exact xg_zret hC hQ (by decide) dX11_isDeadAhead_20
  refine xg_iconst hC dX11_isDeadAhead_19 ?_
  exact xg_zret hC hQ (by decide) dX11_isDeadAhead_20
theorem w_X11_isAlive {Γ : xm_Gm} {I : xm_Mem → Prop} {la : Launch} (hE : I = xm_I) (σ : xm_Mem) (x1 : Int) (x2 : Int) (h1 : xm_in x1) (h2 : xm_in x2) : ∀ o, f_X11_isAlive σ x1 x2 = some o → xm_M Γ I la yX11_isAlive cX11_isAlive 3 (some .boolean) 2 0 0 [.ref (xm_B Γ + 84), .int (xm_J x1), .int (xm_J x2)] σ 2 o := by
  refine xg_enter (by decide) (by simp [lg_sl, xm_rf_cat, xm_cati, xm_catr, xm_catl]) (fun X hG hI0 hla hC hQ hname => ?_)
  subst hG
  have hI := hI0.trans hE
  clear hI0 hla
  unfold f_X11_isAlive
  refine xg_pick [0, 1, 2] (l' := [(0, .ref (xm_B (xx_G X) + 84)), (1, .int (xm_J x1)), (2, .int (xm_J x2))]) rfl ?_
  refine xg_aload_n hC dX11_isAlive_0 rfl ?_
  refine xg_iload_n hC dX11_isAlive_1 rfl ?_
  refine xg_callV hC (ci := 10) (w_X11_bornOn hI σ x1 h1) xl_M_X11_53 xl_V_X11_bornOn (xm_hK (a := 84) (kd := 0) (n := 10) hI rfl).2 ((xm_hK (a := 84) (kd := 0) (n := 10) hI rfl).1 _) (by decide) rfl (by decide) ⟨by decide, by decide⟩ dX11_isAlive_2 (rest := []) rfl rfl (Nat.le_of_ble_eq_true rfl) rfl rfl (st2 := fun o => .int (xm_J o.2) :: []) (fun _ => rfl) (fun o1 k2 => ?_)
  refine xg_iload_n hC dX11_isAlive_5 rfl ?_
  refine xg_icmp_gt hC k2 h2 32 dX11_isAlive_6 rfl (fun c3 => ?_) (fun c4 => ?_)
  · refine xg_iconst hC dX11_isAlive_32 ?_
    exact xg_zret hC hQ (by decide) dX11_isAlive_33
  refine xg_aload_n hC dX11_isAlive_9 rfl ?_
  refine xg_getW hC (b := 99) (xm_hK hI rfl) rfl (xm_wK hI rfl) (by decide) xl_F_X11_56 dX11_isAlive_10 ?_
  refine xg_iload_n hC dX11_isAlive_13 rfl ?_
  refine xg_iald hC (xm_hK hI rfl) rfl h1 dX11_isAlive_14 (fun b5 k6 => ?_)
  refine xg_if_lt hC k6 28 dX11_isAlive_15 rfl (fun c7 => ?_) (fun c8 => ?_)
  · refine xg_iconst hC dX11_isAlive_28 ?_
    refine xg_goto hC 33 dX11_isAlive_29 rfl ?_
    exact xg_zret hC hQ (by decide) dX11_isAlive_33
  refine xg_aload_n hC dX11_isAlive_18 rfl ?_
  refine xg_getW hC (b := 99) (xm_hK hI rfl) rfl (xm_wK hI rfl) (by decide) xl_F_X11_56 dX11_isAlive_19 ?_
  refine xg_iload_n hC dX11_isAlive_22 rfl ?_
  refine xg_iald hC (xm_hK hI rfl) rfl h1 dX11_isAlive_23 (fun b9 k10 => ?_)
  refine xg_iload_n hC dX11_isAlive_24 rfl ?_
  refine xg_icmp_le hC k10 h2 32 dX11_isAlive_25 rfl (fun c11 => ?_) (fun c12 => ?_)
  · refine xg_iconst hC dX11_isAlive_28 ?_
    refine xg_goto hC 33 dX11_isAlive_29 rfl ?_
    exact xg_zret hC hQ (by decide) dX11_isAlive_33
  refine xg_iconst hC dX11_isAlive_32 ?_
  exact xg_zret hC hQ (by decide) dX11_isAlive_33
theorem w_X11_isOfTwo_j29 {X : xm_X} (hC : xm_C X yX11_isOfTwo.cls cX11_isOfTwo 4 1 0 0) (hQ : xm_Rt X 2 (some .boolean) 0 0) (hI : xx_I X = xm_I)   (σ : xm_Mem) (x1 : Int) (x2 : Int) (x3 : Int) (h1 : xm_in x1) (h2 : xm_in x2) (h3 : xm_in x3) : xm_V X 0 0 (f_X11_isOfTwo_j29  σ x1 x2 x3) σ 29 [(0, .ref (xm_B (xx_G X) + 84)), (1, .int (xm_J x1)), (2, .int (xm_J x2)), (3, .int (xm_J x3))] [] := by
  unfold f_X11_isOfTwo_j29
  refine xg_aload_n hC dX11_isOfTwo_29 rfl ?_
  refine xg_getW hC (b := 88) (xm_hK hI rfl) rfl (xm_wK hI rfl) (by decide) xl_F_X11_46 dX11_isOfTwo_30 ?_
  refine xg_iload_n hC dX11_isOfTwo_33 rfl ?_
  refine xg_iald hC (xm_hK hI rfl) rfl h1 dX11_isOfTwo_34 (fun b9 k10 => ?_)
  refine xg_iload_n hC dX11_isOfTwo_35 rfl ?_
  refine xg_icmp_ne hC k10 h2 53 dX11_isOfTwo_36 rfl (fun c11 => ?_) (fun c12 => ?_)
  · refine xg_aload_n hC dX11_isOfTwo_39 rfl ?_
    refine xg_getW hC (b := 89) (xm_hK hI rfl) rfl (xm_wK hI rfl) (by decide) xl_F_X11_34 dX11_isOfTwo_40 ?_
    refine xg_iload_n hC dX11_isOfTwo_43 rfl ?_
    refine xg_iald hC (xm_hK hI rfl) rfl h1 dX11_isOfTwo_44 (fun b13 k14 => ?_)
    refine xg_iload_n hC dX11_isOfTwo_45 rfl ?_
    refine xg_icmp_ne hC k14 h3 53 dX11_isOfTwo_46 rfl (fun c15 => ?_) (fun c16 => ?_)
    · refine xg_iconst hC dX11_isOfTwo_49 ?_
      refine xg_goto hC 54 dX11_isOfTwo_50 rfl ?_
      exact xg_zret hC hQ (by decide) dX11_isOfTwo_54
    refine xg_iconst hC dX11_isOfTwo_53 ?_
    exact xg_zret hC hQ (by decide) dX11_isOfTwo_54
  refine xg_iconst hC dX11_isOfTwo_53 ?_
  exact xg_zret hC hQ (by decide) dX11_isOfTwo_54
theorem w_X11_isOfTwo {Γ : xm_Gm} {I : xm_Mem → Prop} {la : Launch} (hE : I = xm_I) (σ : xm_Mem) (x1 : Int) (x2 : Int) (x3 : Int) (h1 : xm_in x1) (h2 : xm_in x2) (h3 : xm_in x3) : ∀ o, f_X11_isOfTwo σ x1 x2 x3 = some o → xm_M Γ I la yX11_isOfTwo cX11_isOfTwo 4 (some .boolean) 1 0 0 [.ref (xm_B Γ + 84), .int (xm_J x1), .int (xm_J x2), .int (xm_J x3)] σ 2 o := by
  refine xg_enter (by decide) (by simp [lg_sl, xm_rf_cat, xm_cati, xm_catr, xm_catl]) (fun X hG hI0 hla hC hQ hname => ?_)
  subst hG
  have hI := hI0.trans hE
  clear hI0 hla
  unfold f_X11_isOfTwo
  refine xg_pick [0, 1, 2, 3] (l' := [(0, .ref (xm_B (xx_G X) + 84)), (1, .int (xm_J x1)), (2, .int (xm_J x2)), (3, .int (xm_J x3))]) rfl ?_
  refine xg_aload_n hC dX11_isOfTwo_0 rfl ?_
  refine xg_getW hC (b := 92) (xm_hK hI rfl) rfl (xm_wK hI rfl) (by decide) xl_F_X11_14 dX11_isOfTwo_1 ?_
  refine xg_iload_n hC dX11_isOfTwo_4 rfl ?_
  refine xg_zald hC (xm_hK hI rfl) rfl h1 dX11_isOfTwo_5 (fun b1 k2 => ?_)
  refine xg_if_eq hC (xm_in01 k2) 53 dX11_isOfTwo_6 rfl (fun c3 => ?_) (fun c4 => ?_)
  · refine xg_iconst hC dX11_isOfTwo_53 ?_
    exact xg_zret hC hQ (by decide) dX11_isOfTwo_54
  refine xg_aload_n hC dX11_isOfTwo_9 rfl ?_
  refine xg_getW hC (b := 86) (xm_hK hI rfl) rfl (xm_wK hI rfl) (by decide) xl_F_X11_43 dX11_isOfTwo_10 ?_
  refine xg_iload_n hC dX11_isOfTwo_13 rfl ?_
  refine xg_iald hC (xm_hK hI rfl) rfl h1 dX11_isOfTwo_14 (fun b5 k6 => ?_)
  refine xg_iconst hC dX11_isOfTwo_15 ?_
  refine xg_icmp_eq hC k6 (xm_inc _ rfl) 29 dX11_isOfTwo_16 rfl (fun c7 => ?_) (fun c8 => ?_)
  · exact (w_X11_isOfTwo_j29 hC hQ hI σ x1 x2 x3 h1 h2 h3)
  refine xg_aload_n hC dX11_isOfTwo_19 rfl ?_
  refine xg_getW hC (b := 86) (xm_hK hI rfl) rfl (xm_wK hI rfl) (by decide) xl_F_X11_43 dX11_isOfTwo_20 ?_
  refine xg_iload_n hC dX11_isOfTwo_23 rfl ?_
  refine xg_iald hC (xm_hK hI rfl) rfl h1 dX11_isOfTwo_24 (fun b17 k18 => ?_)
  refine xg_iconst hC dX11_isOfTwo_25 ?_
  refine xg_icmp_ne hC k18 (xm_inc _ rfl) 53 dX11_isOfTwo_26 rfl (fun c19 => ?_) (fun c20 => ?_)
  · exact (w_X11_isOfTwo_j29 hC hQ hI σ x1 x2 x3 h1 h2 h3)
  refine xg_iconst hC dX11_isOfTwo_53 ?_
  exact xg_zret hC hQ (by decide) dX11_isOfTwo_54
theorem w_X11_openTo_b21 {X : xm_X} (hC : xm_C X yX11_openTo.cls cX11_openTo 7 2 0 0) (hQ : xm_Rt X 1 (some .int) 0 0) (hI : xx_I X = xm_I) {K90 : xm_Mem → Int → Int → Int → Option xm_Out} (hK90 : ∀ (σ : xm_Mem) (x2 : Int) (x3 : Int) (x4 : Int), xm_in x2 → xm_in x3 → xm_in x4 → xm_V X 0 0 (K90 σ x2 x3 x4) σ 90 [(0, .ref (xm_B (xx_G X) + 84)), (2, .int (xm_J x2)), (3, .int (xm_J x3)), (4, .int (xm_J x4))] []) {self : xm_Mem → Int → Int → Int → Int → Int → Option xm_Out} (hself : ∀ (σ : xm_Mem) (x1 : Int) (x2 : Int) (x3 : Int) (x4 : Int) (x5 : Int), xm_in x1 → xm_in x2 → xm_in x3 → xm_in x4 → xm_in x5 → xm_V X 0 0 (self σ x1 x2 x3 x4 x5) σ 21 [(0, .ref (xm_B (xx_G X) + 84)), (1, .int (xm_J x1)), (2, .int (xm_J x2)), (3, .int (xm_J x3)), (4, .int (xm_J x4)), (5, .int (xm_J x5))] []) (σ : xm_Mem) (x1 : Int) (x2 : Int) (x3 : Int) (x4 : Int) (x5 : Int) (h1 : xm_in x1) (h2 : xm_in x2) (h3 : xm_in x3) (h4 : xm_in x4) (h5 : xm_in x5) : xm_V X 0 0 (f_X11_openTo_b21 K90 self σ x1 x2 x3 x4 x5) σ 21 [(0, .ref (xm_B (xx_G X) + 84)), (1, .int (xm_J x1)), (2, .int (xm_J x2)), (3, .int (xm_J x3)), (4, .int (xm_J x4)), (5, .int (xm_J x5))] [] := by
  unfold f_X11_openTo_b21
  refine xg_iload hC dX11_openTo_21 rfl ?_
  refine xg_aload_n hC dX11_openTo_23 rfl ?_
  refine xg_getI hC (xm_hK hI rfl) rfl xl_F_X11_40 dX11_openTo_24 (fun k9 => ?_)
  refine xg_icmp_ge hC h5 k9 90 dX11_openTo_27 rfl (fun c10 => ?_) (fun c11 => ?_)
  · refine xg_aload_n hC dX11_openTo_30 rfl ?_
    refine xg_iload hC dX11_openTo_31 rfl ?_
    refine xg_iload_n hC dX11_openTo_33 rfl ?_
    refine xg_iload_n hC dX11_openTo_34 rfl ?_
    refine xg_callV hC (ci := 10) (w_X11_isOfTwo hI σ x5 x2 x3 h5 h2 h3) xl_M_X11_60 xl_V_X11_isOfTwo (xm_hK (a := 84) (kd := 0) (n := 10) hI rfl).2 ((xm_hK (a := 84) (kd := 0) (n := 10) hI rfl).1 _) (by decide) rfl (by decide) ⟨by decide, by decide⟩ dX11_openTo_35 (rest := []) rfl rfl (Nat.le_of_ble_eq_true rfl) rfl rfl (st2 := fun o => .int (xm_J o.2) :: []) (fun _ => rfl) (fun o12 k13 => ?_)
    refine xg_if_eq hC (xm_in01 k13) 84 dX11_openTo_38 rfl (fun c14 => ?_) (fun c15 => ?_)
    · refine xg_iinc hC (l' := [(5, .int (xm_J (xm_w (x5 + 1)))), (0, .ref (xm_B (xx_G X) + 84)), (1, .int (xm_J x1)), (2, .int (xm_J x2)), (3, .int (xm_J x3)), (4, .int (xm_J x4))]) dX11_openTo_84 (by decide) 5 rfl rfl ?_
      refine xg_goto hC 21 dX11_openTo_87 rfl ?_
      exact xg_pick [1, 2, 3, 4, 5, 0] rfl (hself o12.1 x1 x2 x3 x4 (xm_w (x5 + 1)) h1 h2 h3 h4 (xm_w_in _))
    refine xg_aload_n hC dX11_openTo_41 rfl ?_
    refine xg_getW hC (b := 86) (xm_hK hI rfl) rfl (xm_wK hI rfl) (by decide) xl_F_X11_43 dX11_openTo_42 ?_
    refine xg_iload hC dX11_openTo_45 rfl ?_
    refine xg_iald hC (xm_hK hI rfl) rfl h5 dX11_openTo_47 (fun b16 k17 => ?_)
    refine xg_iconst hC dX11_openTo_48 ?_
    refine xg_icmp_ne hC k17 (xm_inc _ rfl) 84 dX11_openTo_49 rfl (fun c18 => ?_) (fun c19 => ?_)
    · refine xg_aload_n hC dX11_openTo_52 rfl ?_
      refine xg_getW hC (b := 87) (xm_hK hI rfl) rfl (xm_wK hI rfl) (by decide) xl_F_X11_31 dX11_openTo_53 ?_
      refine xg_iload hC dX11_openTo_56 rfl ?_
      refine xg_iald hC (xm_hK hI rfl) rfl h5 dX11_openTo_58 (fun b20 k21 => ?_)
      refine xg_aload_n hC dX11_openTo_59 rfl ?_
      refine xg_getW hC (b := 87) (xm_hK hI rfl) rfl (xm_wK hI rfl) (by decide) xl_F_X11_31 dX11_openTo_60 ?_
      refine xg_iload_n hC dX11_openTo_63 rfl ?_
      refine xg_iald hC (xm_hK hI rfl) rfl h1 dX11_openTo_64 (fun b22 k23 => ?_)
      refine xg_icmp_le hC k21 k23 84 dX11_openTo_65 rfl (fun c24 => ?_) (fun c25 => ?_)
      · refine xg_iload hC dX11_openTo_68 rfl ?_
        refine xg_aload_n hC dX11_openTo_70 rfl ?_
        refine xg_getW hC (b := 87) (xm_hK hI rfl) rfl (xm_wK hI rfl) (by decide) xl_F_X11_31 dX11_openTo_71 ?_
        refine xg_iload hC dX11_openTo_74 rfl ?_
        refine xg_iald hC (xm_hK hI rfl) rfl h5 dX11_openTo_76 (fun b26 k27 => ?_)
        refine xg_iconst hC dX11_openTo_77 ?_
        refine xg_isub hC dX11_openTo_78 ?_
        refine xg_min hC h4 (xm_w_in _) (by decide) xl_M_X11_63 ⟨by decide, by decide⟩ (Nat.le_of_ble_eq_true rfl) dX11_openTo_79 ?_
        refine xg_vI (xm_min_in h4 (xm_w_in _)) (fun v28 k29 => ?_)
        refine xg_istore hC (l' := [(4, .int (xm_J v28)), (0, .ref (xm_B (xx_G X) + 84)), (1, .int (xm_J x1)), (2, .int (xm_J x2)), (3, .int (xm_J x3)), (5, .int (xm_J x5))]) dX11_openTo_82 (by decide) rfl ?_
        refine xg_iinc hC (l' := [(5, .int (xm_J (xm_w (x5 + 1)))), (4, .int (xm_J v28)), (0, .ref (xm_B (xx_G X) + 84)), (1, .int (xm_J x1)), (2, .int (xm_J x2)), (3, .int (xm_J x3))]) dX11_openTo_84 (by decide) 5 rfl rfl ?_
        refine xg_goto hC 21 dX11_openTo_87 rfl ?_
        exact xg_pick [2, 3, 4, 5, 1, 0] rfl (hself o12.1 x1 x2 x3 v28 (xm_w (x5 + 1)) h1 h2 h3 k29 (xm_w_in _))
      refine xg_iinc hC (l' := [(5, .int (xm_J (xm_w (x5 + 1)))), (0, .ref (xm_B (xx_G X) + 84)), (1, .int (xm_J x1)), (2, .int (xm_J x2)), (3, .int (xm_J x3)), (4, .int (xm_J x4))]) dX11_openTo_84 (by decide) 5 rfl rfl ?_
      refine xg_goto hC 21 dX11_openTo_87 rfl ?_
      exact xg_pick [1, 2, 3, 4, 5, 0] rfl (hself o12.1 x1 x2 x3 x4 (xm_w (x5 + 1)) h1 h2 h3 h4 (xm_w_in _))
    refine xg_iinc hC (l' := [(5, .int (xm_J (xm_w (x5 + 1)))), (0, .ref (xm_B (xx_G X) + 84)), (1, .int (xm_J x1)), (2, .int (xm_J x2)), (3, .int (xm_J x3)), (4, .int (xm_J x4))]) dX11_openTo_84 (by decide) 5 rfl rfl ?_
    refine xg_goto hC 21 dX11_openTo_87 rfl ?_
    exact xg_pick [1, 2, 3, 4, 5, 0] rfl (hself o12.1 x1 x2 x3 x4 (xm_w (x5 + 1)) h1 h2 h3 h4 (xm_w_in _))
  exact xg_pick [0, 2, 3, 4] rfl (hK90 σ x2 x3 x4 h2 h3 h4)
theorem w_X11_openTo_l21 {X : xm_X} (hC : xm_C X yX11_openTo.cls cX11_openTo 7 2 0 0) (hQ : xm_Rt X 1 (some .int) 0 0) (hI : xx_I X = xm_I) {K90 : xm_Mem → Int → Int → Int → Option xm_Out} (hK90 : ∀ (σ : xm_Mem) (x2 : Int) (x3 : Int) (x4 : Int), xm_in x2 → xm_in x3 → xm_in x4 → xm_V X 0 0 (K90 σ x2 x3 x4) σ 90 [(0, .ref (xm_B (xx_G X) + 84)), (2, .int (xm_J x2)), (3, .int (xm_J x3)), (4, .int (xm_J x4))] []) (n : Nat) : ∀ (σ : xm_Mem) (x1 : Int) (x2 : Int) (x3 : Int) (x4 : Int) (x5 : Int), xm_in x1 → xm_in x2 → xm_in x3 → xm_in x4 → xm_in x5 → xm_V X 0 0 (f_X11_openTo_l21 K90 n σ x1 x2 x3 x4 x5) σ 21 [(0, .ref (xm_B (xx_G X) + 84)), (1, .int (xm_J x1)), (2, .int (xm_J x2)), (3, .int (xm_J x3)), (4, .int (xm_J x4)), (5, .int (xm_J x5))] [] := by
  induction n with
  | zero => intro σ x1 x2 x3 x4 x5 h1 h2 h3 h4 h5; exact xg_none
  | succ n ih => intro σ x1 x2 x3 x4 x5 h1 h2 h3 h4 h5; exact w_X11_openTo_b21 hC hQ hI hK90 ih σ x1 x2 x3 x4 x5 h1 h2 h3 h4 h5
theorem w_X11_openTo_j121 {X : xm_X} (hC : xm_C X yX11_openTo.cls cX11_openTo 7 2 0 0) (hQ : xm_Rt X 1 (some .int) 0 0) (hI : xx_I X = xm_I)   (σ : xm_Mem) (s0 : Int) (x6 : Int) (g0 : xm_in s0) (h6 : xm_in x6) : xm_V X 0 0 (f_X11_openTo_j121  σ s0 x6) σ 121 [(6, .int (xm_J x6))] [.int (xm_J s0)] := by
  unfold f_X11_openTo_j121
  refine xg_istore hC (l' := [(4, .int (xm_J s0)), (6, .int (xm_J x6))]) dX11_openTo_121 (by decide) rfl ?_
  refine xg_iload hC dX11_openTo_123 rfl ?_
  refine xg_if_lt hC h6 138 dX11_openTo_125 rfl (fun c37 => ?_) (fun c38 => ?_)
  · refine xg_iload hC dX11_openTo_138 rfl ?_
    exact xg_iret hC hQ g0 dX11_openTo_140
  refine xg_iload hC dX11_openTo_128 rfl ?_
  refine xg_iload hC dX11_openTo_130 rfl ?_
  refine xg_min hC g0 h6 (by decide) xl_M_X11_63 ⟨by decide, by decide⟩ (Nat.le_of_ble_eq_true rfl) dX11_openTo_132 ?_
  refine xg_goto hC 140 dX11_openTo_135 rfl ?_
  exact xg_iret hC hQ (xm_min_in g0 h6) dX11_openTo_140
theorem w_X11_openTo {Γ : xm_Gm} {I : xm_Mem → Prop} {la : Launch} (hE : I = xm_I) (σ : xm_Mem) (x1 : Int) (h1 : xm_in x1) : ∀ o, f_X11_openTo σ x1 = some o → xm_M Γ I la yX11_openTo cX11_openTo 7 (some .int) 2 0 0 [.ref (xm_B Γ + 84), .int (xm_J x1)] σ 1 o := by
  refine xg_enter (by decide) (by simp [lg_sl, xm_rf_cat, xm_cati, xm_catr, xm_catl]) (fun X hG hI0 hla hC hQ hname => ?_)
  subst hG
  have hI := hI0.trans hE
  clear hI0 hla
  unfold f_X11_openTo
  refine xg_pick [0, 1] (l' := [(0, .ref (xm_B (xx_G X) + 84)), (1, .int (xm_J x1))]) rfl ?_
  refine xg_aload_n hC dX11_openTo_0 rfl ?_
  refine xg_getW hC (b := 88) (xm_hK hI rfl) rfl (xm_wK hI rfl) (by decide) xl_F_X11_46 dX11_openTo_1 ?_
  refine xg_iload_n hC dX11_openTo_4 rfl ?_
  refine xg_iald hC (xm_hK hI rfl) rfl h1 dX11_openTo_5 (fun b1 k2 => ?_)
  refine xg_vI k2 (fun v3 k4 => ?_)
  refine xg_istore_n hC (l' := [(2, .int (xm_J v3)), (0, .ref (xm_B (xx_G X) + 84)), (1, .int (xm_J x1))]) dX11_openTo_6 (by decide) rfl ?_
  refine xg_aload_n hC dX11_openTo_7 rfl ?_
  refine xg_getW hC (b := 89) (xm_hK hI rfl) rfl (xm_wK hI rfl) (by decide) xl_F_X11_34 dX11_openTo_8 ?_
  refine xg_iload_n hC dX11_openTo_11 rfl ?_
  refine xg_iald hC (xm_hK hI rfl) rfl h1 dX11_openTo_12 (fun b5 k6 => ?_)
  refine xg_vI k6 (fun v7 k8 => ?_)
  refine xg_istore_n hC (l' := [(3, .int (xm_J v7)), (2, .int (xm_J v3)), (0, .ref (xm_B (xx_G X) + 84)), (1, .int (xm_J x1))]) dX11_openTo_13 (by decide) rfl ?_
  refine xg_ldc hC dX11_openTo_14 xl_C_X11_59 ?_
  refine xg_istore hC (l' := [(4, .int (xm_J (99999 : Int))), (3, .int (xm_J v7)), (2, .int (xm_J v3)), (0, .ref (xm_B (xx_G X) + 84)), (1, .int (xm_J x1))]) dX11_openTo_16 (by decide) rfl ?_
  refine xg_iconst hC dX11_openTo_18 ?_
  refine xg_istore hC (l' := [(5, .int (xm_J (0 : Int))), (4, .int (xm_J (99999 : Int))), (3, .int (xm_J v7)), (2, .int (xm_J v3)), (0, .ref (xm_B (xx_G X) + 84)), (1, .int (xm_J x1))]) dX11_openTo_19 (by decide) rfl ?_
  refine xg_pick [4, 5, 3, 2, 1, 0] rfl (w_X11_openTo_l21 hC hQ hI ?_ _ σ x1 v3 v7 (99999 : Int) (0 : Int) h1 k4 k8 (xm_inc _ rfl) (xm_inc _ rfl))
  intro σ_30 x2_30 x3_30 x4_30 h2_30 h3_30 h4_30
  refine xg_aload_n hC dX11_openTo_90 rfl ?_
  refine xg_iload_n hC dX11_openTo_91 rfl ?_
  refine xg_callV hC (ci := 10) (w_X11_deadOn hI σ_30 x2_30 h2_30) xl_M_X11_49 xl_V_X11_deadOn (xm_hK (a := 84) (kd := 0) (n := 10) hI rfl).2 ((xm_hK (a := 84) (kd := 0) (n := 10) hI rfl).1 _) (by decide) rfl (by decide) ⟨by decide, by decide⟩ dX11_openTo_92 (rest := []) rfl rfl (Nat.le_of_ble_eq_true rfl) rfl rfl (st2 := fun o => .int (xm_J o.2) :: []) (fun _ => rfl) (fun o31 k32 => ?_)
  refine xg_istore hC (l' := [(5, .int (xm_J o31.2)), (0, .ref (xm_B (xx_G X) + 84)), (2, .int (xm_J x2_30)), (3, .int (xm_J x3_30)), (4, .int (xm_J x4_30))]) dX11_openTo_95 (by decide) rfl ?_
  refine xg_aload_n hC dX11_openTo_97 rfl ?_
  refine xg_iload_n hC dX11_openTo_98 rfl ?_
  refine xg_callV hC (ci := 10) (w_X11_deadOn hI o31.1 x3_30 h3_30) xl_M_X11_49 xl_V_X11_deadOn (xm_hK (a := 84) (kd := 0) (n := 10) hI rfl).2 ((xm_hK (a := 84) (kd := 0) (n := 10) hI rfl).1 _) (by decide) rfl (by decide) ⟨by decide, by decide⟩ dX11_openTo_99 (rest := []) rfl rfl (Nat.le_of_ble_eq_true rfl) rfl rfl (st2 := fun o => .int (xm_J o.2) :: []) (fun _ => rfl) (fun o33 k34 => ?_)
  refine xg_istore hC (l' := [(6, .int (xm_J o33.2)), (5, .int (xm_J o31.2)), (0, .ref (xm_B (xx_G X) + 84)), (2, .int (xm_J x2_30)), (3, .int (xm_J x3_30)), (4, .int (xm_J x4_30))]) dX11_openTo_102 (by decide) rfl ?_
  refine xg_iload hC dX11_openTo_104 rfl ?_
  refine xg_if_lt hC k32 119 dX11_openTo_106 rfl (fun c35 => ?_) (fun c36 => ?_)
  · refine xg_iload hC dX11_openTo_119 rfl ?_
    exact xg_pick [0] rfl (w_X11_openTo_j121 hC hQ hI o33.1 x4_30 o33.2 h4_30 k34)
  refine xg_iload hC dX11_openTo_109 rfl ?_
  refine xg_iload hC dX11_openTo_111 rfl ?_
  refine xg_min hC h4_30 k32 (by decide) xl_M_X11_63 ⟨by decide, by decide⟩ (Nat.le_of_ble_eq_true rfl) dX11_openTo_113 ?_
  refine xg_goto hC 121 dX11_openTo_116 rfl ?_
  exact xg_pick [0] rfl (w_X11_openTo_j121 hC hQ hI o33.1 (xm_min x4_30 o31.2) o33.2 (xm_min_in h4_30 k32) k34)
theorem w_X11_isOpen {Γ : xm_Gm} {I : xm_Mem → Prop} {la : Launch} (hE : I = xm_I) (σ : xm_Mem) (x1 : Int) (x2 : Int) (h1 : xm_in x1) (h2 : xm_in x2) : ∀ o, f_X11_isOpen σ x1 x2 = some o → xm_M Γ I la yX11_isOpen cX11_isOpen 3 (some .boolean) 3 0 0 [.ref (xm_B Γ + 84), .int (xm_J x1), .int (xm_J x2)] σ 2 o := by
  refine xg_enter (by decide) (by simp [lg_sl, xm_rf_cat, xm_cati, xm_catr, xm_catl]) (fun X hG hI0 hla hC hQ hname => ?_)
  subst hG
  have hI := hI0.trans hE
  clear hI0 hla
  unfold f_X11_isOpen
  refine xg_pick [0, 1, 2] (l' := [(0, .ref (xm_B (xx_G X) + 84)), (1, .int (xm_J x1)), (2, .int (xm_J x2))]) rfl ?_
  refine xg_aload_n hC dX11_isOpen_0 rfl ?_
  refine xg_getW hC (b := 87) (xm_hK hI rfl) rfl (xm_wK hI rfl) (by decide) xl_F_X11_31 dX11_isOpen_1 ?_
  refine xg_iload_n hC dX11_isOpen_4 rfl ?_
  refine xg_iald hC (xm_hK hI rfl) rfl h1 dX11_isOpen_5 (fun b1 k2 => ?_)
  refine xg_iload_n hC dX11_isOpen_6 rfl ?_
  refine xg_icmp_gt hC k2 h2 23 dX11_isOpen_7 rfl (fun c3 => ?_) (fun c4 => ?_)
  · refine xg_iconst hC dX11_isOpen_23 ?_
    exact xg_zret hC hQ (by decide) dX11_isOpen_24
  refine xg_iload_n hC dX11_isOpen_10 rfl ?_
  refine xg_aload_n hC dX11_isOpen_11 rfl ?_
  refine xg_iload_n hC dX11_isOpen_12 rfl ?_
  refine xg_callV hC (ci := 10) (w_X11_openTo hI σ x1 h1) xl_M_X11_69 xl_V_X11_openTo (xm_hK (a := 84) (kd := 0) (n := 10) hI rfl).2 ((xm_hK (a := 84) (kd := 0) (n := 10) hI rfl).1 _) (by decide) rfl (by decide) ⟨by decide, by decide⟩ dX11_isOpen_13 (rest := [.int (xm_J x2)]) rfl rfl (Nat.le_of_ble_eq_true rfl) rfl rfl (st2 := fun o => .int (xm_J o.2) :: [.int (xm_J x2)]) (fun _ => rfl) (fun o5 k6 => ?_)
  refine xg_icmp_gt hC h2 k6 23 dX11_isOpen_16 rfl (fun c7 => ?_) (fun c8 => ?_)
  · refine xg_iconst hC dX11_isOpen_23 ?_
    exact xg_zret hC hQ (by decide) dX11_isOpen_24
  refine xg_iconst hC dX11_isOpen_19 ?_
  refine xg_goto hC 24 dX11_isOpen_20 rfl ?_
  exact xg_zret hC hQ (by decide) dX11_isOpen_24
theorem w_X11_areUnited_b6 {X : xm_X} (hC : xm_C X yX11_areUnited.cls cX11_areUnited 6 4 0 0) (hQ : xm_Rt X 2 (some .boolean) 0 0) (hI : xx_I X = xm_I)   {self : xm_Mem → Int → Int → Int → Int → Int → Option xm_Out} (hself : ∀ (σ : xm_Mem) (x1 : Int) (x2 : Int) (x3 : Int) (x4 : Int) (x5 : Int), xm_in x1 → xm_in x2 → xm_in x3 → 0 ≤ x4 ∧ x4 ≤ 1 → xm_in x5 → xm_V X 0 0 (self σ x1 x2 x3 x4 x5) σ 6 [(0, .ref (xm_B (xx_G X) + 84)), (1, .int (xm_J x1)), (2, .int (xm_J x2)), (3, .int (xm_J x3)), (4, .int (xm_J x4)), (5, .int (xm_J x5))] []) (σ : xm_Mem) (x1 : Int) (x2 : Int) (x3 : Int) (x4 : Int) (x5 : Int) (h1 : xm_in x1) (h2 : xm_in x2) (h3 : xm_in x3) (h4 : 0 ≤ x4 ∧ x4 ≤ 1) (h5 : xm_in x5) : xm_V X 0 0 (f_X11_areUnited_b6  self σ x1 x2 x3 x4 x5) σ 6 [(0, .ref (xm_B (xx_G X) + 84)), (1, .int (xm_J x1)), (2, .int (xm_J x2)), (3, .int (xm_J x3)), (4, .int (xm_J x4)), (5, .int (xm_J x5))] [] := by
  unfold f_X11_areUnited_b6
  refine xg_iload hC dX11_areUnited_6 rfl ?_
  refine xg_aload_n hC dX11_areUnited_8 rfl ?_
  refine xg_getI hC (xm_hK hI rfl) rfl xl_F_X11_40 dX11_areUnited_9 (fun k1 => ?_)
  refine xg_icmp_ge hC h5 k1 65 dX11_areUnited_12 rfl (fun c2 => ?_) (fun c3 => ?_)
  · refine xg_iload hC dX11_areUnited_15 rfl ?_
    refine xg_if_ne hC (xm_in01 h4) 65 dX11_areUnited_17 rfl (fun c4 => ?_) (fun c5 => ?_)
    · refine xg_aload_n hC dX11_areUnited_20 rfl ?_
      refine xg_iload hC dX11_areUnited_21 rfl ?_
      refine xg_iload_n hC dX11_areUnited_23 rfl ?_
      refine xg_iload_n hC dX11_areUnited_24 rfl ?_
      refine xg_callV hC (ci := 10) (w_X11_isOfTwo hI σ x5 x1 x2 h5 h1 h2) xl_M_X11_60 xl_V_X11_isOfTwo (xm_hK (a := 84) (kd := 0) (n := 10) hI rfl).2 ((xm_hK (a := 84) (kd := 0) (n := 10) hI rfl).1 _) (by decide) rfl (by decide) ⟨by decide, by decide⟩ dX11_areUnited_25 (rest := []) rfl rfl (Nat.le_of_ble_eq_true rfl) rfl rfl (st2 := fun o => .int (xm_J o.2) :: []) (fun _ => rfl) (fun o6 k7 => ?_)
      refine xg_if_eq hC (xm_in01 k7) 56 dX11_areUnited_28 rfl (fun c8 => ?_) (fun c9 => ?_)
      · refine xg_iconst hC dX11_areUnited_56 ?_
        refine xg_istore hC (l' := [(4, .int (xm_J (0 : Int))), (0, .ref (xm_B (xx_G X) + 84)), (1, .int (xm_J x1)), (2, .int (xm_J x2)), (3, .int (xm_J x3)), (5, .int (xm_J x5))]) dX11_areUnited_57 (by decide) rfl ?_
        refine xg_iinc hC (l' := [(5, .int (xm_J (xm_w (x5 + 1)))), (4, .int (xm_J (0 : Int))), (0, .ref (xm_B (xx_G X) + 84)), (1, .int (xm_J x1)), (2, .int (xm_J x2)), (3, .int (xm_J x3))]) dX11_areUnited_59 (by decide) 5 rfl rfl ?_
        refine xg_goto hC 6 dX11_areUnited_62 rfl ?_
        exact xg_pick [2, 3, 4, 5, 1, 0] rfl (hself o6.1 x1 x2 x3 (0 : Int) (xm_w (x5 + 1)) h1 h2 h3 (by decide) (xm_w_in _))
      refine xg_aload_n hC dX11_areUnited_31 rfl ?_
      refine xg_getW hC (b := 86) (xm_hK hI rfl) rfl (xm_wK hI rfl) (by decide) xl_F_X11_43 dX11_areUnited_32 ?_
      refine xg_iload hC dX11_areUnited_35 rfl ?_
      refine xg_iald hC (xm_hK hI rfl) rfl h5 dX11_areUnited_37 (fun b10 k11 => ?_)
      refine xg_iconst hC dX11_areUnited_38 ?_
      refine xg_icmp_ne hC k11 (xm_inc _ rfl) 56 dX11_areUnited_39 rfl (fun c12 => ?_) (fun c13 => ?_)
      · refine xg_aload_n hC dX11_areUnited_42 rfl ?_
        refine xg_iload hC dX11_areUnited_43 rfl ?_
        refine xg_iload_n hC dX11_areUnited_45 rfl ?_
        refine xg_callV hC (ci := 10) (w_X11_isOpen hI o6.1 x5 x3 h5 h3) xl_M_X11_72 xl_V_X11_isOpen (xm_hK (a := 84) (kd := 0) (n := 10) hI rfl).2 ((xm_hK (a := 84) (kd := 0) (n := 10) hI rfl).1 _) (by decide) rfl (by decide) ⟨by decide, by decide⟩ dX11_areUnited_46 (rest := []) rfl rfl (Nat.le_of_ble_eq_true rfl) rfl rfl (st2 := fun o => .int (xm_J o.2) :: []) (fun _ => rfl) (fun o14 k15 => ?_)
        refine xg_if_eq hC (xm_in01 k15) 56 dX11_areUnited_49 rfl (fun c16 => ?_) (fun c17 => ?_)
        · refine xg_iconst hC dX11_areUnited_56 ?_
          refine xg_istore hC (l' := [(4, .int (xm_J (0 : Int))), (0, .ref (xm_B (xx_G X) + 84)), (1, .int (xm_J x1)), (2, .int (xm_J x2)), (3, .int (xm_J x3)), (5, .int (xm_J x5))]) dX11_areUnited_57 (by decide) rfl ?_
          refine xg_iinc hC (l' := [(5, .int (xm_J (xm_w (x5 + 1)))), (4, .int (xm_J (0 : Int))), (0, .ref (xm_B (xx_G X) + 84)), (1, .int (xm_J x1)), (2, .int (xm_J x2)), (3, .int (xm_J x3))]) dX11_areUnited_59 (by decide) 5 rfl rfl ?_
          refine xg_goto hC 6 dX11_areUnited_62 rfl ?_
          exact xg_pick [2, 3, 4, 5, 1, 0] rfl (hself o14.1 x1 x2 x3 (0 : Int) (xm_w (x5 + 1)) h1 h2 h3 (by decide) (xm_w_in _))
        refine xg_iconst hC dX11_areUnited_52 ?_
        refine xg_goto hC 57 dX11_areUnited_53 rfl ?_
        refine xg_istore hC (l' := [(4, .int (xm_J (1 : Int))), (0, .ref (xm_B (xx_G X) + 84)), (1, .int (xm_J x1)), (2, .int (xm_J x2)), (3, .int (xm_J x3)), (5, .int (xm_J x5))]) dX11_areUnited_57 (by decide) rfl ?_
        refine xg_iinc hC (l' := [(5, .int (xm_J (xm_w (x5 + 1)))), (4, .int (xm_J (1 : Int))), (0, .ref (xm_B (xx_G X) + 84)), (1, .int (xm_J x1)), (2, .int (xm_J x2)), (3, .int (xm_J x3))]) dX11_areUnited_59 (by decide) 5 rfl rfl ?_
        refine xg_goto hC 6 dX11_areUnited_62 rfl ?_
        exact xg_pick [2, 3, 4, 5, 1, 0] rfl (hself o14.1 x1 x2 x3 (1 : Int) (xm_w (x5 + 1)) h1 h2 h3 (by decide) (xm_w_in _))
      refine xg_iconst hC dX11_areUnited_56 ?_
      refine xg_istore hC (l' := [(4, .int (xm_J (0 : Int))), (0, .ref (xm_B (xx_G X) + 84)), (1, .int (xm_J x1)), (2, .int (xm_J x2)), (3, .int (xm_J x3)), (5, .int (xm_J x5))]) dX11_areUnited_57 (by decide) rfl ?_
      refine xg_iinc hC (l' := [(5, .int (xm_J (xm_w (x5 + 1)))), (4, .int (xm_J (0 : Int))), (0, .ref (xm_B (xx_G X) + 84)), (1, .int (xm_J x1)), (2, .int (xm_J x2)), (3, .int (xm_J x3))]) dX11_areUnited_59 (by decide) 5 rfl rfl ?_
      refine xg_goto hC 6 dX11_areUnited_62 rfl ?_
      exact xg_pick [2, 3, 4, 5, 1, 0] rfl (hself o6.1 x1 x2 x3 (0 : Int) (xm_w (x5 + 1)) h1 h2 h3 (by decide) (xm_w_in _))
    refine xg_iload hC dX11_areUnited_65 rfl ?_
    exact xg_zret hC hQ h4 dX11_areUnited_67
  refine xg_iload hC dX11_areUnited_65 rfl ?_
  exact xg_zret hC hQ h4 dX11_areUnited_67
theorem w_X11_areUnited_l6 {X : xm_X} (hC : xm_C X yX11_areUnited.cls cX11_areUnited 6 4 0 0) (hQ : xm_Rt X 2 (some .boolean) 0 0) (hI : xx_I X = xm_I)   (n : Nat) : ∀ (σ : xm_Mem) (x1 : Int) (x2 : Int) (x3 : Int) (x4 : Int) (x5 : Int), xm_in x1 → xm_in x2 → xm_in x3 → 0 ≤ x4 ∧ x4 ≤ 1 → xm_in x5 → xm_V X 0 0 (f_X11_areUnited_l6  n σ x1 x2 x3 x4 x5) σ 6 [(0, .ref (xm_B (xx_G X) + 84)), (1, .int (xm_J x1)), (2, .int (xm_J x2)), (3, .int (xm_J x3)), (4, .int (xm_J x4)), (5, .int (xm_J x5))] [] := by
  induction n with
  | zero => intro σ x1 x2 x3 x4 x5 h1 h2 h3 h4 h5; exact xg_none
  | succ n ih => intro σ x1 x2 x3 x4 x5 h1 h2 h3 h4 h5; exact w_X11_areUnited_b6 hC hQ hI ih σ x1 x2 x3 x4 x5 h1 h2 h3 h4 h5
theorem w_X11_areUnited {Γ : xm_Gm} {I : xm_Mem → Prop} {la : Launch} (hE : I = xm_I) (σ : xm_Mem) (x1 : Int) (x2 : Int) (x3 : Int) (h1 : xm_in x1) (h2 : xm_in x2) (h3 : xm_in x3) : ∀ o, f_X11_areUnited σ x1 x2 x3 = some o → xm_M Γ I la yX11_areUnited cX11_areUnited 6 (some .boolean) 4 0 0 [.ref (xm_B Γ + 84), .int (xm_J x1), .int (xm_J x2), .int (xm_J x3)] σ 2 o := by
  refine xg_enter (by decide) (by simp [lg_sl, xm_rf_cat, xm_cati, xm_catr, xm_catl]) (fun X hG hI0 hla hC hQ hname => ?_)
  subst hG
  have hI := hI0.trans hE
  clear hI0 hla
  unfold f_X11_areUnited
  refine xg_pick [0, 1, 2, 3] (l' := [(0, .ref (xm_B (xx_G X) + 84)), (1, .int (xm_J x1)), (2, .int (xm_J x2)), (3, .int (xm_J x3))]) rfl ?_
  refine xg_iconst hC dX11_areUnited_0 ?_
  refine xg_istore hC (l' := [(4, .int (xm_J (0 : Int))), (0, .ref (xm_B (xx_G X) + 84)), (1, .int (xm_J x1)), (2, .int (xm_J x2)), (3, .int (xm_J x3))]) dX11_areUnited_1 (by decide) rfl ?_
  refine xg_iconst hC dX11_areUnited_3 ?_
  refine xg_istore hC (l' := [(5, .int (xm_J (0 : Int))), (4, .int (xm_J (0 : Int))), (0, .ref (xm_B (xx_G X) + 84)), (1, .int (xm_J x1)), (2, .int (xm_J x2)), (3, .int (xm_J x3))]) dX11_areUnited_4 (by decide) rfl ?_
  exact xg_pick [2, 3, 4, 5, 1, 0] rfl (w_X11_areUnited_l6 hC hQ hI _ σ x1 x2 x3 (0 : Int) (0 : Int) h1 h2 h3 (by decide) (xm_inc _ rfl))
theorem w_X11_toldLegit {Γ : xm_Gm} {I : xm_Mem → Prop} {la : Launch} (hE : I = xm_I) (σ : xm_Mem) (x1 : Int) (h1 : xm_in x1) : ∀ o, f_X11_toldLegit σ x1 = some o → xm_M Γ I la yX11_toldLegit cX11_toldLegit 6 (some .boolean) 5 0 0 [.ref (xm_B Γ + 84), .int (xm_J x1)] σ 2 o := by
  refine xg_enter (by decide) (by simp [lg_sl, xm_rf_cat, xm_cati, xm_catr, xm_catl]) (fun X hG hI0 hla hC hQ hname => ?_)
  subst hG
  have hI := hI0.trans hE
  clear hI0 hla
  unfold f_X11_toldLegit
  refine xg_pick [0, 1] (l' := [(0, .ref (xm_B (xx_G X) + 84)), (1, .int (xm_J x1))]) rfl ?_
  refine xg_aload_n hC dX11_toldLegit_0 rfl ?_
  refine xg_iload_n hC dX11_toldLegit_1 rfl ?_
  refine xg_callV hC (ci := 10) (w_X11_father hI σ x1 h1) xl_M_X11_76 xl_V_X11_father (xm_hK (a := 84) (kd := 0) (n := 10) hI rfl).2 ((xm_hK (a := 84) (kd := 0) (n := 10) hI rfl).1 _) (by decide) rfl (by decide) ⟨by decide, by decide⟩ dX11_toldLegit_2 (rest := []) rfl rfl (Nat.le_of_ble_eq_true rfl) rfl rfl (st2 := fun o => .int (xm_J o.2) :: []) (fun _ => rfl) (fun o1 k2 => ?_)
  refine xg_istore_n hC (l' := [(2, .int (xm_J o1.2)), (0, .ref (xm_B (xx_G X) + 84)), (1, .int (xm_J x1))]) dX11_toldLegit_5 (by decide) rfl ?_
  refine xg_aload_n hC dX11_toldLegit_6 rfl ?_
  refine xg_iload_n hC dX11_toldLegit_7 rfl ?_
  refine xg_callV hC (ci := 10) (w_X11_mother hI o1.1 x1 h1) xl_M_X11_79 xl_V_X11_mother (xm_hK (a := 84) (kd := 0) (n := 10) hI rfl).2 ((xm_hK (a := 84) (kd := 0) (n := 10) hI rfl).1 _) (by decide) rfl (by decide) ⟨by decide, by decide⟩ dX11_toldLegit_8 (rest := []) rfl rfl (Nat.le_of_ble_eq_true rfl) rfl rfl (st2 := fun o => .int (xm_J o.2) :: []) (fun _ => rfl) (fun o3 k4 => ?_)
  refine xg_istore_n hC (l' := [(3, .int (xm_J o3.2)), (2, .int (xm_J o1.2)), (0, .ref (xm_B (xx_G X) + 84)), (1, .int (xm_J x1))]) dX11_toldLegit_11 (by decide) rfl ?_
  refine xg_iload_n hC dX11_toldLegit_12 rfl ?_
  refine xg_if_lt hC k2 20 dX11_toldLegit_13 rfl (fun c5 => ?_) (fun c6 => ?_)
  · refine xg_iconst hC dX11_toldLegit_20 ?_
    exact xg_zret hC hQ (by decide) dX11_toldLegit_21
  refine xg_iload_n hC dX11_toldLegit_16 rfl ?_
  refine xg_if_ge hC k4 22 dX11_toldLegit_17 rfl (fun c7 => ?_) (fun c8 => ?_)
  · refine xg_iconst hC dX11_toldLegit_20 ?_
    exact xg_zret hC hQ (by decide) dX11_toldLegit_21
  refine xg_aload_n hC dX11_toldLegit_22 rfl ?_
  refine xg_iload_n hC dX11_toldLegit_23 rfl ?_
  refine xg_callV hC (ci := 10) (w_X11_bornOn hI o3.1 x1 h1) xl_M_X11_53 xl_V_X11_bornOn (xm_hK (a := 84) (kd := 0) (n := 10) hI rfl).2 ((xm_hK (a := 84) (kd := 0) (n := 10) hI rfl).1 _) (by decide) rfl (by decide) ⟨by decide, by decide⟩ dX11_toldLegit_24 (rest := []) rfl rfl (Nat.le_of_ble_eq_true rfl) rfl rfl (st2 := fun o => .int (xm_J o.2) :: []) (fun _ => rfl) (fun o9 k10 => ?_)
  refine xg_istore hC (l' := [(4, .int (xm_J o9.2)), (3, .int (xm_J o3.2)), (2, .int (xm_J o1.2)), (0, .ref (xm_B (xx_G X) + 84)), (1, .int (xm_J x1))]) dX11_toldLegit_27 (by decide) rfl ?_
  refine xg_aload_n hC dX11_toldLegit_29 rfl ?_
  refine xg_iload_n hC dX11_toldLegit_30 rfl ?_
  refine xg_callV hC (ci := 10) (w_X11_deadOn hI o9.1 o1.2 k2) xl_M_X11_49 xl_V_X11_deadOn (xm_hK (a := 84) (kd := 0) (n := 10) hI rfl).2 ((xm_hK (a := 84) (kd := 0) (n := 10) hI rfl).1 _) (by decide) rfl (by decide) ⟨by decide, by decide⟩ dX11_toldLegit_31 (rest := []) rfl rfl (Nat.le_of_ble_eq_true rfl) rfl rfl (st2 := fun o => .int (xm_J o.2) :: []) (fun _ => rfl) (fun o11 k12 => ?_)
  refine xg_istore hC (l' := [(5, .int (xm_J o11.2)), (4, .int (xm_J o9.2)), (3, .int (xm_J o3.2)), (2, .int (xm_J o1.2)), (0, .ref (xm_B (xx_G X) + 84)), (1, .int (xm_J x1))]) dX11_toldLegit_34 (by decide) rfl ?_
  refine xg_aload_n hC dX11_toldLegit_36 rfl ?_
  refine xg_iload_n hC dX11_toldLegit_37 rfl ?_
  refine xg_iload_n hC dX11_toldLegit_38 rfl ?_
  refine xg_iload hC dX11_toldLegit_39 rfl ?_
  refine xg_callV hC (ci := 10) (w_X11_areUnited hI o11.1 o1.2 o3.2 o9.2 k2 k4 k10) xl_M_X11_82 xl_V_X11_areUnited (xm_hK (a := 84) (kd := 0) (n := 10) hI rfl).2 ((xm_hK (a := 84) (kd := 0) (n := 10) hI rfl).1 _) (by decide) rfl (by decide) ⟨by decide, by decide⟩ dX11_toldLegit_41 (rest := []) rfl rfl (Nat.le_of_ble_eq_true rfl) rfl rfl (st2 := fun o => .int (xm_J o.2) :: []) (fun _ => rfl) (fun o13 k14 => ?_)
  refine xg_if_ne hC (xm_in01 k14) 81 dX11_toldLegit_44 rfl (fun c15 => ?_) (fun c16 => ?_)
  · refine xg_iload hC dX11_toldLegit_47 rfl ?_
    refine xg_if_lt hC k12 85 dX11_toldLegit_49 rfl (fun c17 => ?_) (fun c18 => ?_)
    · refine xg_iconst hC dX11_toldLegit_85 ?_
      exact xg_zret hC hQ (by decide) dX11_toldLegit_86
    refine xg_iload hC dX11_toldLegit_52 rfl ?_
    refine xg_iload hC dX11_toldLegit_54 rfl ?_
    refine xg_sipush hC dX11_toldLegit_56 (by decide) ?_
    refine xg_isub hC dX11_toldLegit_59 ?_
    refine xg_icmp_lt hC k12 (xm_w_in _) 85 dX11_toldLegit_60 rfl (fun c19 => ?_) (fun c20 => ?_)
    · refine xg_iconst hC dX11_toldLegit_85 ?_
      exact xg_zret hC hQ (by decide) dX11_toldLegit_86
    refine xg_iload hC dX11_toldLegit_63 rfl ?_
    refine xg_iload hC dX11_toldLegit_65 rfl ?_
    refine xg_icmp_gt hC k12 k10 85 dX11_toldLegit_67 rfl (fun c21 => ?_) (fun c22 => ?_)
    · refine xg_iconst hC dX11_toldLegit_85 ?_
      exact xg_zret hC hQ (by decide) dX11_toldLegit_86
    refine xg_aload_n hC dX11_toldLegit_70 rfl ?_
    refine xg_iload_n hC dX11_toldLegit_71 rfl ?_
    refine xg_iload_n hC dX11_toldLegit_72 rfl ?_
    refine xg_iload hC dX11_toldLegit_73 rfl ?_
    refine xg_callV hC (ci := 10) (w_X11_areUnited hI o13.1 o1.2 o3.2 o11.2 k2 k4 k12) xl_M_X11_82 xl_V_X11_areUnited (xm_hK (a := 84) (kd := 0) (n := 10) hI rfl).2 ((xm_hK (a := 84) (kd := 0) (n := 10) hI rfl).1 _) (by decide) rfl (by decide) ⟨by decide, by decide⟩ dX11_toldLegit_75 (rest := []) rfl rfl (Nat.le_of_ble_eq_true rfl) rfl rfl (st2 := fun o => .int (xm_J o.2) :: []) (fun _ => rfl) (fun o23 k24 => ?_)
    refine xg_if_eq hC (xm_in01 k24) 85 dX11_toldLegit_78 rfl (fun c25 => ?_) (fun c26 => ?_)
    · refine xg_iconst hC dX11_toldLegit_85 ?_
      exact xg_zret hC hQ (by decide) dX11_toldLegit_86
    refine xg_iconst hC dX11_toldLegit_81 ?_
    refine xg_goto hC 86 dX11_toldLegit_82 rfl ?_
    exact xg_zret hC hQ (by decide) dX11_toldLegit_86
  refine xg_iconst hC dX11_toldLegit_81 ?_
  refine xg_goto hC 86 dX11_toldLegit_82 rfl ?_
  exact xg_zret hC hQ (by decide) dX11_toldLegit_86
theorem w_X11_ahead_j160 {X : xm_X} (hC : xm_C X yX11_ahead.cls cX11_ahead 6 2 0 0) (hQ : xm_Rt X 1 (some .int) 0 0) (hI : xx_I X = xm_I) {K4 : xm_Mem → Int → Int → Int → Option xm_Out} (hK4 : ∀ (σ : xm_Mem) (x1 : Int) (x2 : Int) (x3 : Int), xm_in x1 → xm_in x2 → xm_in x3 → xm_V X 0 0 (K4 σ x1 x2 x3) σ 4 [(0, .ref (xm_B (xx_G X) + 84)), (1, .int (xm_J x1)), (2, .int (xm_J x2)), (3, .int (xm_J x3))] []) (σ : xm_Mem) (s0 : Int) (x1 : Int) (x2 : Int) (x3 : Int) (x4 : Int) (g0 : 0 ≤ s0 ∧ s0 ≤ 1) (h1 : xm_in x1) (h2 : xm_in x2) (h3 : xm_in x3) (h4 : 0 ≤ x4 ∧ x4 ≤ 1) : xm_V X 0 0 (f_X11_ahead_j160 K4 σ s0 x1 x2 x3 x4) σ 160 [(0, .ref (xm_B (xx_G X) + 84)), (1, .int (xm_J x1)), (2, .int (xm_J x2)), (3, .int (xm_J x3)), (4, .int (xm_J x4))] [.int (xm_J s0)] := by
  unfold f_X11_ahead_j160
  refine xg_istore hC (l' := [(5, .int (xm_J s0)), (0, .ref (xm_B (xx_G X) + 84)), (1, .int (xm_J x1)), (2, .int (xm_J x2)), (3, .int (xm_J x3)), (4, .int (xm_J x4))]) dX11_ahead_160 (by decide) rfl ?_
  refine xg_iload_n hC dX11_ahead_162 rfl ?_
  refine xg_iload hC dX11_ahead_163 rfl ?_
  refine xg_if_eq hC (xm_in01 h4) 177 dX11_ahead_165 rfl (fun c24 => ?_) (fun c25 => ?_)
  · refine xg_iconst hC dX11_ahead_177 ?_
    refine xg_iadd hC dX11_ahead_178 ?_
    refine xg_vI (xm_w_in _) (fun v26 k27 => ?_)
    refine xg_istore_n hC (l' := [(2, .int (xm_J v26)), (5, .int (xm_J s0)), (0, .ref (xm_B (xx_G X) + 84)), (1, .int (xm_J x1)), (3, .int (xm_J x3)), (4, .int (xm_J x4))]) dX11_ahead_179 (by decide) rfl ?_
    refine xg_iinc hC (l' := [(3, .int (xm_J (xm_w (x3 + 1)))), (2, .int (xm_J v26)), (5, .int (xm_J s0)), (0, .ref (xm_B (xx_G X) + 84)), (1, .int (xm_J x1)), (4, .int (xm_J x4))]) dX11_ahead_180 (by decide) 4 rfl rfl ?_
    refine xg_goto hC 4 dX11_ahead_183 rfl ?_
    exact xg_pick [3, 4, 1, 0] rfl (hK4 σ x1 v26 (xm_w (x3 + 1)) h1 k27 (xm_w_in _))
  refine xg_iload hC dX11_ahead_168 rfl ?_
  refine xg_if_eq hC (xm_in01 g0) 177 dX11_ahead_170 rfl (fun c28 => ?_) (fun c29 => ?_)
  · refine xg_iconst hC dX11_ahead_177 ?_
    refine xg_iadd hC dX11_ahead_178 ?_
    refine xg_vI (xm_w_in _) (fun v30 k31 => ?_)
    refine xg_istore_n hC (l' := [(2, .int (xm_J v30)), (5, .int (xm_J s0)), (0, .ref (xm_B (xx_G X) + 84)), (1, .int (xm_J x1)), (3, .int (xm_J x3)), (4, .int (xm_J x4))]) dX11_ahead_179 (by decide) rfl ?_
    refine xg_iinc hC (l' := [(3, .int (xm_J (xm_w (x3 + 1)))), (2, .int (xm_J v30)), (5, .int (xm_J s0)), (0, .ref (xm_B (xx_G X) + 84)), (1, .int (xm_J x1)), (4, .int (xm_J x4))]) dX11_ahead_180 (by decide) 4 rfl rfl ?_
    refine xg_goto hC 4 dX11_ahead_183 rfl ?_
    exact xg_pick [3, 4, 1, 0] rfl (hK4 σ x1 v30 (xm_w (x3 + 1)) h1 k31 (xm_w_in _))
  refine xg_iconst hC dX11_ahead_173 ?_
  refine xg_goto hC 178 dX11_ahead_174 rfl ?_
  refine xg_iadd hC dX11_ahead_178 ?_
  refine xg_vI (xm_w_in _) (fun v32 k33 => ?_)
  refine xg_istore_n hC (l' := [(2, .int (xm_J v32)), (5, .int (xm_J s0)), (0, .ref (xm_B (xx_G X) + 84)), (1, .int (xm_J x1)), (3, .int (xm_J x3)), (4, .int (xm_J x4))]) dX11_ahead_179 (by decide) rfl ?_
  refine xg_iinc hC (l' := [(3, .int (xm_J (xm_w (x3 + 1)))), (2, .int (xm_J v32)), (5, .int (xm_J s0)), (0, .ref (xm_B (xx_G X) + 84)), (1, .int (xm_J x1)), (4, .int (xm_J x4))]) dX11_ahead_180 (by decide) 4 rfl rfl ?_
  refine xg_goto hC 4 dX11_ahead_183 rfl ?_
  exact xg_pick [3, 4, 1, 0] rfl (hK4 σ x1 v32 (xm_w (x3 + 1)) h1 k33 (xm_w_in _))
theorem w_X11_ahead_j155 {X : xm_X} (hC : xm_C X yX11_ahead.cls cX11_ahead 6 2 0 0) (hQ : xm_Rt X 1 (some .int) 0 0) (hI : xx_I X = xm_I) {K4 : xm_Mem → Int → Int → Int → Option xm_Out} (hK4 : ∀ (σ : xm_Mem) (x1 : Int) (x2 : Int) (x3 : Int), xm_in x1 → xm_in x2 → xm_in x3 → xm_V X 0 0 (K4 σ x1 x2 x3) σ 4 [(0, .ref (xm_B (xx_G X) + 84)), (1, .int (xm_J x1)), (2, .int (xm_J x2)), (3, .int (xm_J x3))] []) (σ : xm_Mem) (x1 : Int) (x2 : Int) (x3 : Int) (x4 : Int) (h1 : xm_in x1) (h2 : xm_in x2) (h3 : xm_in x3) (h4 : 0 ≤ x4 ∧ x4 ≤ 1) : xm_V X 0 0 (f_X11_ahead_j155 K4 σ x1 x2 x3 x4) σ 155 [(0, .ref (xm_B (xx_G X) + 84)), (1, .int (xm_J x1)), (2, .int (xm_J x2)), (3, .int (xm_J x3)), (4, .int (xm_J x4))] [] := by
  unfold f_X11_ahead_j155
  refine xg_iconst hC dX11_ahead_155 ?_
  refine xg_goto hC 160 dX11_ahead_156 rfl ?_
  exact (w_X11_ahead_j160 hC hQ hI hK4 σ (1 : Int) x1 x2 x3 x4 (by decide) h1 h2 h3 h4)
theorem w_X11_ahead_j159 {X : xm_X} (hC : xm_C X yX11_ahead.cls cX11_ahead 6 2 0 0) (hQ : xm_Rt X 1 (some .int) 0 0) (hI : xx_I X = xm_I) {K4 : xm_Mem → Int → Int → Int → Option xm_Out} (hK4 : ∀ (σ : xm_Mem) (x1 : Int) (x2 : Int) (x3 : Int), xm_in x1 → xm_in x2 → xm_in x3 → xm_V X 0 0 (K4 σ x1 x2 x3) σ 4 [(0, .ref (xm_B (xx_G X) + 84)), (1, .int (xm_J x1)), (2, .int (xm_J x2)), (3, .int (xm_J x3))] []) (σ : xm_Mem) (x1 : Int) (x2 : Int) (x3 : Int) (x4 : Int) (h1 : xm_in x1) (h2 : xm_in x2) (h3 : xm_in x3) (h4 : 0 ≤ x4 ∧ x4 ≤ 1) : xm_V X 0 0 (f_X11_ahead_j159 K4 σ x1 x2 x3 x4) σ 159 [(0, .ref (xm_B (xx_G X) + 84)), (1, .int (xm_J x1)), (2, .int (xm_J x2)), (3, .int (xm_J x3)), (4, .int (xm_J x4))] [] := by
  unfold f_X11_ahead_j159
  refine xg_iconst hC dX11_ahead_159 ?_
  exact (w_X11_ahead_j160 hC hQ hI hK4 σ (0 : Int) x1 x2 x3 x4 (by decide) h1 h2 h3 h4)
theorem w_X11_ahead_j90 {X : xm_X} (hC : xm_C X yX11_ahead.cls cX11_ahead 6 2 0 0) (hQ : xm_Rt X 1 (some .int) 0 0) (hI : xx_I X = xm_I) {K4 : xm_Mem → Int → Int → Int → Option xm_Out} (hK4 : ∀ (σ : xm_Mem) (x1 : Int) (x2 : Int) (x3 : Int), xm_in x1 → xm_in x2 → xm_in x3 → xm_V X 0 0 (K4 σ x1 x2 x3) σ 4 [(0, .ref (xm_B (xx_G X) + 84)), (1, .int (xm_J x1)), (2, .int (xm_J x2)), (3, .int (xm_J x3))] []) (σ : xm_Mem) (s0 : Int) (x1 : Int) (x2 : Int) (x3 : Int) (g0 : 0 ≤ s0 ∧ s0 ≤ 1) (h1 : xm_in x1) (h2 : xm_in x2) (h3 : xm_in x3) : xm_V X 0 0 (f_X11_ahead_j90 K4 σ s0 x1 x2 x3) σ 90 [(0, .ref (xm_B (xx_G X) + 84)), (1, .int (xm_J x1)), (2, .int (xm_J x2)), (3, .int (xm_J x3))] [.int (xm_J s0)] := by
  unfold f_X11_ahead_j90
  refine xg_istore hC (l' := [(4, .int (xm_J s0)), (0, .ref (xm_B (xx_G X) + 84)), (1, .int (xm_J x1)), (2, .int (xm_J x2)), (3, .int (xm_J x3))]) dX11_ahead_90 (by decide) rfl ?_
  refine xg_aload_n hC dX11_ahead_92 rfl ?_
  refine xg_getW hC (b := 87) (xm_hK hI rfl) rfl (xm_wK hI rfl) (by decide) xl_F_X11_31 dX11_ahead_93 ?_
  refine xg_iload_n hC dX11_ahead_96 rfl ?_
  refine xg_iald hC (xm_hK hI rfl) rfl h3 dX11_ahead_97 (fun b18 k19 => ?_)
  refine xg_aload_n hC dX11_ahead_98 rfl ?_
  refine xg_getW hC (b := 87) (xm_hK hI rfl) rfl (xm_wK hI rfl) (by decide) xl_F_X11_31 dX11_ahead_99 ?_
  refine xg_iload_n hC dX11_ahead_102 rfl ?_
  refine xg_iald hC (xm_hK hI rfl) rfl h1 dX11_ahead_103 (fun b20 k21 => ?_)
  refine xg_icmp_lt hC k19 k21 155 dX11_ahead_104 rfl (fun c22 => ?_) (fun c23 => ?_)
  · exact xg_pick [1, 2, 3, 4, 0] rfl (w_X11_ahead_j155 hC hQ hI hK4 σ x1 x2 x3 s0 h1 h2 h3 g0)
  refine xg_aload_n hC dX11_ahead_107 rfl ?_
  refine xg_getW hC (b := 87) (xm_hK hI rfl) rfl (xm_wK hI rfl) (by decide) xl_F_X11_31 dX11_ahead_108 ?_
  refine xg_iload_n hC dX11_ahead_111 rfl ?_
  refine xg_iald hC (xm_hK hI rfl) rfl h3 dX11_ahead_112 (fun b34 k35 => ?_)
  refine xg_aload_n hC dX11_ahead_113 rfl ?_
  refine xg_getW hC (b := 87) (xm_hK hI rfl) rfl (xm_wK hI rfl) (by decide) xl_F_X11_31 dX11_ahead_114 ?_
  refine xg_iload_n hC dX11_ahead_117 rfl ?_
  refine xg_iald hC (xm_hK hI rfl) rfl h1 dX11_ahead_118 (fun b36 k37 => ?_)
  refine xg_icmp_ne hC k35 k37 159 dX11_ahead_119 rfl (fun c38 => ?_) (fun c39 => ?_)
  · refine xg_aload_n hC dX11_ahead_122 rfl ?_
    refine xg_getW hC (b := 86) (xm_hK hI rfl) rfl (xm_wK hI rfl) (by decide) xl_F_X11_43 dX11_ahead_123 ?_
    refine xg_iload_n hC dX11_ahead_126 rfl ?_
    refine xg_iald hC (xm_hK hI rfl) rfl h3 dX11_ahead_127 (fun b40 k41 => ?_)
    refine xg_aload_n hC dX11_ahead_128 rfl ?_
    refine xg_getW hC (b := 86) (xm_hK hI rfl) rfl (xm_wK hI rfl) (by decide) xl_F_X11_43 dX11_ahead_129 ?_
    refine xg_iload_n hC dX11_ahead_132 rfl ?_
    refine xg_iald hC (xm_hK hI rfl) rfl h1 dX11_ahead_133 (fun b42 k43 => ?_)
    refine xg_icmp_eq hC k41 k43 150 dX11_ahead_134 rfl (fun c44 => ?_) (fun c45 => ?_)
    · refine xg_iload_n hC dX11_ahead_150 rfl ?_
      refine xg_iload_n hC dX11_ahead_151 rfl ?_
      refine xg_icmp_ge hC h3 h1 159 dX11_ahead_152 rfl (fun c46 => ?_) (fun c47 => ?_)
      · exact xg_pick [1, 2, 3, 4, 0] rfl (w_X11_ahead_j155 hC hQ hI hK4 σ x1 x2 x3 s0 h1 h2 h3 g0)
      exact xg_pick [1, 2, 3, 4, 0] rfl (w_X11_ahead_j159 hC hQ hI hK4 σ x1 x2 x3 s0 h1 h2 h3 g0)
    refine xg_aload_n hC dX11_ahead_137 rfl ?_
    refine xg_getW hC (b := 86) (xm_hK hI rfl) rfl (xm_wK hI rfl) (by decide) xl_F_X11_43 dX11_ahead_138 ?_
    refine xg_iload_n hC dX11_ahead_141 rfl ?_
    refine xg_iald hC (xm_hK hI rfl) rfl h3 dX11_ahead_142 (fun b48 k49 => ?_)
    refine xg_iconst hC dX11_ahead_143 ?_
    refine xg_icmp_ne hC k49 (xm_inc _ rfl) 159 dX11_ahead_144 rfl (fun c50 => ?_) (fun c51 => ?_)
    · refine xg_goto hC 155 dX11_ahead_147 rfl ?_
      exact xg_pick [1, 2, 3, 4, 0] rfl (w_X11_ahead_j155 hC hQ hI hK4 σ x1 x2 x3 s0 h1 h2 h3 g0)
    exact xg_pick [1, 2, 3, 4, 0] rfl (w_X11_ahead_j159 hC hQ hI hK4 σ x1 x2 x3 s0 h1 h2 h3 g0)
  exact xg_pick [1, 2, 3, 4, 0] rfl (w_X11_ahead_j159 hC hQ hI hK4 σ x1 x2 x3 s0 h1 h2 h3 g0)
theorem w_X11_ahead_j89 {X : xm_X} (hC : xm_C X yX11_ahead.cls cX11_ahead 6 2 0 0) (hQ : xm_Rt X 1 (some .int) 0 0) (hI : xx_I X = xm_I) {K4 : xm_Mem → Int → Int → Int → Option xm_Out} (hK4 : ∀ (σ : xm_Mem) (x1 : Int) (x2 : Int) (x3 : Int), xm_in x1 → xm_in x2 → xm_in x3 → xm_V X 0 0 (K4 σ x1 x2 x3) σ 4 [(0, .ref (xm_B (xx_G X) + 84)), (1, .int (xm_J x1)), (2, .int (xm_J x2)), (3, .int (xm_J x3))] []) (σ : xm_Mem) (x1 : Int) (x2 : Int) (x3 : Int) (h1 : xm_in x1) (h2 : xm_in x2) (h3 : xm_in x3) : xm_V X 0 0 (f_X11_ahead_j89 K4 σ x1 x2 x3) σ 89 [(0, .ref (xm_B (xx_G X) + 84)), (1, .int (xm_J x1)), (2, .int (xm_J x2)), (3, .int (xm_J x3))] [] := by
  unfold f_X11_ahead_j89
  refine xg_iconst hC dX11_ahead_89 ?_
  exact (w_X11_ahead_j90 hC hQ hI hK4 σ (0 : Int) x1 x2 x3 (by decide) h1 h2 h3)
theorem w_X11_ahead_b4 {X : xm_X} (hC : xm_C X yX11_ahead.cls cX11_ahead 6 2 0 0) (hQ : xm_Rt X 1 (some .int) 0 0) (hI : xx_I X = xm_I)   {self : xm_Mem → Int → Int → Int → Option xm_Out} (hself : ∀ (σ : xm_Mem) (x1 : Int) (x2 : Int) (x3 : Int), xm_in x1 → xm_in x2 → xm_in x3 → xm_V X 0 0 (self σ x1 x2 x3) σ 4 [(0, .ref (xm_B (xx_G X) + 84)), (1, .int (xm_J x1)), (2, .int (xm_J x2)), (3, .int (xm_J x3))] []) (σ : xm_Mem) (x1 : Int) (x2 : Int) (x3 : Int) (h1 : xm_in x1) (h2 : xm_in x2) (h3 : xm_in x3) : xm_V X 0 0 (f_X11_ahead_b4  self σ x1 x2 x3) σ 4 [(0, .ref (xm_B (xx_G X) + 84)), (1, .int (xm_J x1)), (2, .int (xm_J x2)), (3, .int (xm_J x3))] [] := by
  unfold f_X11_ahead_b4
  refine xg_iload_n hC dX11_ahead_4 rfl ?_
  refine xg_aload_n hC dX11_ahead_5 rfl ?_
  refine xg_getI hC (xm_hK hI rfl) rfl xl_F_X11_40 dX11_ahead_6 (fun k1 => ?_)
  refine xg_icmp_ge hC h3 k1 186 dX11_ahead_9 rfl (fun c2 => ?_) (fun c3 => ?_)
  · refine xg_iload_n hC dX11_ahead_12 rfl ?_
    refine xg_iload_n hC dX11_ahead_13 rfl ?_
    refine xg_icmp_eq hC h3 h1 180 dX11_ahead_14 rfl (fun c4 => ?_) (fun c5 => ?_)
    · refine xg_iinc hC (l' := [(3, .int (xm_J (xm_w (x3 + 1)))), (0, .ref (xm_B (xx_G X) + 84)), (1, .int (xm_J x1)), (2, .int (xm_J x2))]) dX11_ahead_180 (by decide) 3 rfl rfl ?_
      refine xg_goto hC 4 dX11_ahead_183 rfl ?_
      exact xg_pick [1, 2, 3, 0] rfl (hself σ x1 x2 (xm_w (x3 + 1)) h1 h2 (xm_w_in _))
    refine xg_aload_n hC dX11_ahead_17 rfl ?_
    refine xg_getW hC (b := 92) (xm_hK hI rfl) rfl (xm_wK hI rfl) (by decide) xl_F_X11_14 dX11_ahead_18 ?_
    refine xg_iload_n hC dX11_ahead_21 rfl ?_
    refine xg_zald hC (xm_hK hI rfl) rfl h3 dX11_ahead_22 (fun b6 k7 => ?_)
    refine xg_if_ne hC (xm_in01 k7) 29 dX11_ahead_23 rfl (fun c8 => ?_) (fun c9 => ?_)
    · refine xg_goto hC 180 dX11_ahead_26 rfl ?_
      refine xg_iinc hC (l' := [(3, .int (xm_J (xm_w (x3 + 1)))), (0, .ref (xm_B (xx_G X) + 84)), (1, .int (xm_J x1)), (2, .int (xm_J x2))]) dX11_ahead_180 (by decide) 3 rfl rfl ?_
      refine xg_goto hC 4 dX11_ahead_183 rfl ?_
      exact xg_pick [1, 2, 3, 0] rfl (hself σ x1 x2 (xm_w (x3 + 1)) h1 h2 (xm_w_in _))
    refine xg_aload_n hC dX11_ahead_29 rfl ?_
    refine xg_getW hC (b := 86) (xm_hK hI rfl) rfl (xm_wK hI rfl) (by decide) xl_F_X11_43 dX11_ahead_30 ?_
    refine xg_iload_n hC dX11_ahead_33 rfl ?_
    refine xg_iald hC (xm_hK hI rfl) rfl h1 dX11_ahead_34 (fun b10 k11 => ?_)
    refine xg_iconst hC dX11_ahead_35 ?_
    refine xg_icmp_gt hC k11 (xm_inc _ rfl) 59 dX11_ahead_36 rfl (fun c12 => ?_) (fun c13 => ?_)
    · refine xg_aload_n hC dX11_ahead_59 rfl ?_
      refine xg_getW hC (b := 86) (xm_hK hI rfl) rfl (xm_wK hI rfl) (by decide) xl_F_X11_43 dX11_ahead_60 ?_
      refine xg_iload_n hC dX11_ahead_63 rfl ?_
      refine xg_iald hC (xm_hK hI rfl) rfl h3 dX11_ahead_64 (fun b14 k15 => ?_)
      refine xg_bipush hC dX11_ahead_65 (by decide) ?_
      refine xg_icmp_lt hC k15 (xm_inc _ rfl) 89 dX11_ahead_67 rfl (fun c16 => ?_) (fun c17 => ?_)
      · exact (w_X11_ahead_j89 hC hQ hI hself σ x1 x2 x3 h1 h2 h3)
      refine xg_aload_n hC dX11_ahead_70 rfl ?_
      refine xg_getW hC (b := 89) (xm_hK hI rfl) rfl (xm_wK hI rfl) (by decide) xl_F_X11_34 dX11_ahead_71 ?_
      refine xg_iload_n hC dX11_ahead_74 rfl ?_
      refine xg_iald hC (xm_hK hI rfl) rfl h3 dX11_ahead_75 (fun b52 k53 => ?_)
      refine xg_aload_n hC dX11_ahead_76 rfl ?_
      refine xg_getW hC (b := 89) (xm_hK hI rfl) rfl (xm_wK hI rfl) (by decide) xl_F_X11_34 dX11_ahead_77 ?_
      refine xg_iload_n hC dX11_ahead_80 rfl ?_
      refine xg_iald hC (xm_hK hI rfl) rfl h1 dX11_ahead_81 (fun b54 k55 => ?_)
      refine xg_icmp_ne hC k53 k55 89 dX11_ahead_82 rfl (fun c56 => ?_) (fun c57 => ?_)
      · refine xg_iconst hC dX11_ahead_85 ?_
        refine xg_goto hC 90 dX11_ahead_86 rfl ?_
        exact (w_X11_ahead_j90 hC hQ hI hself σ (1 : Int) x1 x2 x3 (by decide) h1 h2 h3)
      exact (w_X11_ahead_j89 hC hQ hI hself σ x1 x2 x3 h1 h2 h3)
    refine xg_aload_n hC dX11_ahead_39 rfl ?_
    refine xg_iload_n hC dX11_ahead_40 rfl ?_
    refine xg_aload_n hC dX11_ahead_41 rfl ?_
    refine xg_getW hC (b := 88) (xm_hK hI rfl) rfl (xm_wK hI rfl) (by decide) xl_F_X11_46 dX11_ahead_42 ?_
    refine xg_iload_n hC dX11_ahead_45 rfl ?_
    refine xg_iald hC (xm_hK hI rfl) rfl h1 dX11_ahead_46 (fun b58 k59 => ?_)
    refine xg_aload_n hC dX11_ahead_47 rfl ?_
    refine xg_getW hC (b := 89) (xm_hK hI rfl) rfl (xm_wK hI rfl) (by decide) xl_F_X11_34 dX11_ahead_48 ?_
    refine xg_iload_n hC dX11_ahead_51 rfl ?_
    refine xg_iald hC (xm_hK hI rfl) rfl h1 dX11_ahead_52 (fun b60 k61 => ?_)
    refine xg_callV hC (ci := 10) (w_X11_isOfTwo hI σ x3 (σ.1 88 x1.toNat) (σ.1 89 x1.toNat) h3 k59 k61) xl_M_X11_60 xl_V_X11_isOfTwo (xm_hK (a := 84) (kd := 0) (n := 10) hI rfl).2 ((xm_hK (a := 84) (kd := 0) (n := 10) hI rfl).1 _) (by decide) rfl (by decide) ⟨by decide, by decide⟩ dX11_ahead_53 (rest := []) rfl rfl (Nat.le_of_ble_eq_true rfl) rfl rfl (st2 := fun o => .int (xm_J o.2) :: []) (fun _ => rfl) (fun o62 k63 => ?_)
    refine xg_goto hC 90 dX11_ahead_56 rfl ?_
    exact (w_X11_ahead_j90 hC hQ hI hself o62.1 o62.2 x1 x2 x3 k63 h1 h2 h3)
  refine xg_iload_n hC dX11_ahead_186 rfl ?_
  exact xg_iret hC hQ h2 dX11_ahead_187
theorem w_X11_ahead_l4 {X : xm_X} (hC : xm_C X yX11_ahead.cls cX11_ahead 6 2 0 0) (hQ : xm_Rt X 1 (some .int) 0 0) (hI : xx_I X = xm_I)   (n : Nat) : ∀ (σ : xm_Mem) (x1 : Int) (x2 : Int) (x3 : Int), xm_in x1 → xm_in x2 → xm_in x3 → xm_V X 0 0 (f_X11_ahead_l4  n σ x1 x2 x3) σ 4 [(0, .ref (xm_B (xx_G X) + 84)), (1, .int (xm_J x1)), (2, .int (xm_J x2)), (3, .int (xm_J x3))] [] := by
  induction n with
  | zero => intro σ x1 x2 x3 h1 h2 h3; exact xg_none
  | succ n ih => intro σ x1 x2 x3 h1 h2 h3; exact w_X11_ahead_b4 hC hQ hI ih σ x1 x2 x3 h1 h2 h3
theorem w_X11_ahead {Γ : xm_Gm} {I : xm_Mem → Prop} {la : Launch} (hE : I = xm_I) (σ : xm_Mem) (x1 : Int) (h1 : xm_in x1) : ∀ o, f_X11_ahead σ x1 = some o → xm_M Γ I la yX11_ahead cX11_ahead 6 (some .int) 2 0 0 [.ref (xm_B Γ + 84), .int (xm_J x1)] σ 1 o := by
  refine xg_enter (by decide) (by simp [lg_sl, xm_rf_cat, xm_cati, xm_catr, xm_catl]) (fun X hG hI0 hla hC hQ hname => ?_)
  subst hG
  have hI := hI0.trans hE
  clear hI0 hla
  unfold f_X11_ahead
  refine xg_pick [0, 1] (l' := [(0, .ref (xm_B (xx_G X) + 84)), (1, .int (xm_J x1))]) rfl ?_
  refine xg_iconst hC dX11_ahead_0 ?_
  refine xg_istore_n hC (l' := [(2, .int (xm_J (0 : Int))), (0, .ref (xm_B (xx_G X) + 84)), (1, .int (xm_J x1))]) dX11_ahead_1 (by decide) rfl ?_
  refine xg_iconst hC dX11_ahead_2 ?_
  refine xg_istore_n hC (l' := [(3, .int (xm_J (0 : Int))), (2, .int (xm_J (0 : Int))), (0, .ref (xm_B (xx_G X) + 84)), (1, .int (xm_J x1))]) dX11_ahead_3 (by decide) rfl ?_
  exact xg_pick [2, 3, 1, 0] rfl (w_X11_ahead_l4 hC hQ hI _ σ x1 (0 : Int) (0 : Int) h1 (xm_inc _ rfl) (xm_inc _ rfl))
theorem w_X11_isOfAge {Γ : xm_Gm} {I : xm_Mem → Prop} {la : Launch} (hE : I = xm_I) (σ : xm_Mem) (x1 : Int) (x2 : Int) (h1 : xm_in x1) (h2 : xm_in x2) : ∀ o, f_X11_isOfAge σ x1 x2 = some o → xm_M Γ I la yX11_isOfAge cX11_isOfAge 3 (some .boolean) 2 0 0 [.ref (xm_B Γ + 84), .int (xm_J x1), .int (xm_J x2)] σ 2 o := by
  refine xg_enter (by decide) (by simp [lg_sl, xm_rf_cat, xm_cati, xm_catr, xm_catl]) (fun X hG hI0 hla hC hQ hname => ?_)
  subst hG
  have hI := hI0.trans hE
  clear hI0 hla
  unfold f_X11_isOfAge
  refine xg_pick [0, 1, 2] (l' := [(0, .ref (xm_B (xx_G X) + 84)), (1, .int (xm_J x1)), (2, .int (xm_J x2))]) rfl ?_
  refine xg_aload_n hC dX11_isOfAge_0 rfl ?_
  refine xg_iload_n hC dX11_isOfAge_1 rfl ?_
  refine xg_callV hC (ci := 10) (w_X11_bornOn hI σ x1 h1) xl_M_X11_53 xl_V_X11_bornOn (xm_hK (a := 84) (kd := 0) (n := 10) hI rfl).2 ((xm_hK (a := 84) (kd := 0) (n := 10) hI rfl).1 _) (by decide) rfl (by decide) ⟨by decide, by decide⟩ dX11_isOfAge_2 (rest := []) rfl rfl (Nat.le_of_ble_eq_true rfl) rfl rfl (st2 := fun o => .int (xm_J o.2) :: []) (fun _ => rfl) (fun o1 k2 => ?_)
  refine xg_sipush hC dX11_isOfAge_5 (by decide) ?_
  refine xg_iadd hC dX11_isOfAge_8 ?_
  refine xg_iload_n hC dX11_isOfAge_9 rfl ?_
  refine xg_icmp_gt hC (xm_w_in _) h2 17 dX11_isOfAge_10 rfl (fun c3 => ?_) (fun c4 => ?_)
  · refine xg_iconst hC dX11_isOfAge_17 ?_
    exact xg_zret hC hQ (by decide) dX11_isOfAge_18
  refine xg_iconst hC dX11_isOfAge_13 ?_
  refine xg_goto hC 18 dX11_isOfAge_14 rfl ?_
  exact xg_zret hC hQ (by decide) dX11_isOfAge_18
theorem w_X11_isOnce_b4 {X : xm_X} (hC : xm_C X yX11_isOnce.cls cX11_isOnce 4 1 0 0) (hQ : xm_Rt X 2 (some .boolean) 0 0) (hI : xx_I X = xm_I)   {self : xm_Mem → Int → Int → Int → Option xm_Out} (hself : ∀ (σ : xm_Mem) (x1 : Int) (x2 : Int) (x3 : Int), xm_in x1 → 0 ≤ x2 ∧ x2 ≤ 1 → xm_in x3 → xm_V X 0 0 (self σ x1 x2 x3) σ 4 [(0, .ref (xm_B (xx_G X) + 84)), (1, .int (xm_J x1)), (2, .int (xm_J x2)), (3, .int (xm_J x3))] []) (σ : xm_Mem) (x1 : Int) (x2 : Int) (x3 : Int) (h1 : xm_in x1) (h2 : 0 ≤ x2 ∧ x2 ≤ 1) (h3 : xm_in x3) : xm_V X 0 0 (f_X11_isOnce_b4  self σ x1 x2 x3) σ 4 [(0, .ref (xm_B (xx_G X) + 84)), (1, .int (xm_J x1)), (2, .int (xm_J x2)), (3, .int (xm_J x3))] [] := by
  unfold f_X11_isOnce_b4
  refine xg_iload_n hC dX11_isOnce_4 rfl ?_
  refine xg_aload_n hC dX11_isOnce_5 rfl ?_
  refine xg_getI hC (xm_hK hI rfl) rfl xl_F_X11_40 dX11_isOnce_6 (fun k1 => ?_)
  refine xg_icmp_ge hC h3 k1 97 dX11_isOnce_9 rfl (fun c2 => ?_) (fun c3 => ?_)
  · refine xg_iload_n hC dX11_isOnce_12 rfl ?_
    refine xg_if_eq hC (xm_in01 h2) 89 dX11_isOnce_13 rfl (fun c4 => ?_) (fun c5 => ?_)
    · refine xg_iconst hC dX11_isOnce_89 ?_
      refine xg_istore_n hC (l' := [(2, .int (xm_J (0 : Int))), (0, .ref (xm_B (xx_G X) + 84)), (1, .int (xm_J x1)), (3, .int (xm_J x3))]) dX11_isOnce_90 (by decide) rfl ?_
      refine xg_iinc hC (l' := [(3, .int (xm_J (xm_w (x3 + 1)))), (2, .int (xm_J (0 : Int))), (0, .ref (xm_B (xx_G X) + 84)), (1, .int (xm_J x1))]) dX11_isOnce_91 (by decide) 3 rfl rfl ?_
      refine xg_goto hC 4 dX11_isOnce_94 rfl ?_
      exact xg_pick [2, 3, 1, 0] rfl (hself σ x1 (0 : Int) (xm_w (x3 + 1)) h1 (by decide) (xm_w_in _))
    refine xg_iload_n hC dX11_isOnce_16 rfl ?_
    refine xg_iload_n hC dX11_isOnce_17 rfl ?_
    refine xg_icmp_eq hC h3 h1 85 dX11_isOnce_18 rfl (fun c6 => ?_) (fun c7 => ?_)
    · refine xg_iconst hC dX11_isOnce_85 ?_
      refine xg_goto hC 90 dX11_isOnce_86 rfl ?_
      refine xg_istore_n hC (l' := [(2, .int (xm_J (1 : Int))), (0, .ref (xm_B (xx_G X) + 84)), (1, .int (xm_J x1)), (3, .int (xm_J x3))]) dX11_isOnce_90 (by decide) rfl ?_
      refine xg_iinc hC (l' := [(3, .int (xm_J (xm_w (x3 + 1)))), (2, .int (xm_J (1 : Int))), (0, .ref (xm_B (xx_G X) + 84)), (1, .int (xm_J x1))]) dX11_isOnce_91 (by decide) 3 rfl rfl ?_
      refine xg_goto hC 4 dX11_isOnce_94 rfl ?_
      exact xg_pick [2, 3, 1, 0] rfl (hself σ x1 (1 : Int) (xm_w (x3 + 1)) h1 (by decide) (xm_w_in _))
    refine xg_aload_n hC dX11_isOnce_21 rfl ?_
    refine xg_getW hC (b := 92) (xm_hK hI rfl) rfl (xm_wK hI rfl) (by decide) xl_F_X11_14 dX11_isOnce_22 ?_
    refine xg_iload_n hC dX11_isOnce_25 rfl ?_
    refine xg_zald hC (xm_hK hI rfl) rfl h3 dX11_isOnce_26 (fun b8 k9 => ?_)
    refine xg_if_eq hC (xm_in01 k9) 85 dX11_isOnce_27 rfl (fun c10 => ?_) (fun c11 => ?_)
    · refine xg_iconst hC dX11_isOnce_85 ?_
      refine xg_goto hC 90 dX11_isOnce_86 rfl ?_
      refine xg_istore_n hC (l' := [(2, .int (xm_J (1 : Int))), (0, .ref (xm_B (xx_G X) + 84)), (1, .int (xm_J x1)), (3, .int (xm_J x3))]) dX11_isOnce_90 (by decide) rfl ?_
      refine xg_iinc hC (l' := [(3, .int (xm_J (xm_w (x3 + 1)))), (2, .int (xm_J (1 : Int))), (0, .ref (xm_B (xx_G X) + 84)), (1, .int (xm_J x1))]) dX11_isOnce_91 (by decide) 3 rfl rfl ?_
      refine xg_goto hC 4 dX11_isOnce_94 rfl ?_
      exact xg_pick [2, 3, 1, 0] rfl (hself σ x1 (1 : Int) (xm_w (x3 + 1)) h1 (by decide) (xm_w_in _))
    refine xg_aload_n hC dX11_isOnce_30 rfl ?_
    refine xg_getW hC (b := 86) (xm_hK hI rfl) rfl (xm_wK hI rfl) (by decide) xl_F_X11_43 dX11_isOnce_31 ?_
    refine xg_iload_n hC dX11_isOnce_34 rfl ?_
    refine xg_iald hC (xm_hK hI rfl) rfl h3 dX11_isOnce_35 (fun b12 k13 => ?_)
    refine xg_aload_n hC dX11_isOnce_36 rfl ?_
    refine xg_getW hC (b := 86) (xm_hK hI rfl) rfl (xm_wK hI rfl) (by decide) xl_F_X11_43 dX11_isOnce_37 ?_
    refine xg_iload_n hC dX11_isOnce_40 rfl ?_
    refine xg_iald hC (xm_hK hI rfl) rfl h1 dX11_isOnce_41 (fun b14 k15 => ?_)
    refine xg_icmp_ne hC k13 k15 85 dX11_isOnce_42 rfl (fun c16 => ?_) (fun c17 => ?_)
    · refine xg_aload_n hC dX11_isOnce_45 rfl ?_
      refine xg_getW hC (b := 88) (xm_hK hI rfl) rfl (xm_wK hI rfl) (by decide) xl_F_X11_46 dX11_isOnce_46 ?_
      refine xg_iload_n hC dX11_isOnce_49 rfl ?_
      refine xg_iald hC (xm_hK hI rfl) rfl h3 dX11_isOnce_50 (fun b18 k19 => ?_)
      refine xg_aload_n hC dX11_isOnce_51 rfl ?_
      refine xg_getW hC (b := 88) (xm_hK hI rfl) rfl (xm_wK hI rfl) (by decide) xl_F_X11_46 dX11_isOnce_52 ?_
      refine xg_iload_n hC dX11_isOnce_55 rfl ?_
      refine xg_iald hC (xm_hK hI rfl) rfl h1 dX11_isOnce_56 (fun b20 k21 => ?_)
      refine xg_icmp_ne hC k19 k21 85 dX11_isOnce_57 rfl (fun c22 => ?_) (fun c23 => ?_)
      · refine xg_aload_n hC dX11_isOnce_60 rfl ?_
        refine xg_getW hC (b := 86) (xm_hK hI rfl) rfl (xm_wK hI rfl) (by decide) xl_F_X11_43 dX11_isOnce_61 ?_
        refine xg_iload_n hC dX11_isOnce_64 rfl ?_
        refine xg_iald hC (xm_hK hI rfl) rfl h1 dX11_isOnce_65 (fun b24 k25 => ?_)
        refine xg_iconst hC dX11_isOnce_66 ?_
        refine xg_icmp_ne hC k25 (xm_inc _ rfl) 89 dX11_isOnce_67 rfl (fun c26 => ?_) (fun c27 => ?_)
        · refine xg_aload_n hC dX11_isOnce_70 rfl ?_
          refine xg_getW hC (b := 89) (xm_hK hI rfl) rfl (xm_wK hI rfl) (by decide) xl_F_X11_34 dX11_isOnce_71 ?_
          refine xg_iload_n hC dX11_isOnce_74 rfl ?_
          refine xg_iald hC (xm_hK hI rfl) rfl h3 dX11_isOnce_75 (fun b28 k29 => ?_)
          refine xg_aload_n hC dX11_isOnce_76 rfl ?_
          refine xg_getW hC (b := 89) (xm_hK hI rfl) rfl (xm_wK hI rfl) (by decide) xl_F_X11_34 dX11_isOnce_77 ?_
          refine xg_iload_n hC dX11_isOnce_80 rfl ?_
          refine xg_iald hC (xm_hK hI rfl) rfl h1 dX11_isOnce_81 (fun b30 k31 => ?_)
          refine xg_icmp_eq hC k29 k31 89 dX11_isOnce_82 rfl (fun c32 => ?_) (fun c33 => ?_)
          · refine xg_iconst hC dX11_isOnce_89 ?_
            refine xg_istore_n hC (l' := [(2, .int (xm_J (0 : Int))), (0, .ref (xm_B (xx_G X) + 84)), (1, .int (xm_J x1)), (3, .int (xm_J x3))]) dX11_isOnce_90 (by decide) rfl ?_
            refine xg_iinc hC (l' := [(3, .int (xm_J (xm_w (x3 + 1)))), (2, .int (xm_J (0 : Int))), (0, .ref (xm_B (xx_G X) + 84)), (1, .int (xm_J x1))]) dX11_isOnce_91 (by decide) 3 rfl rfl ?_
            refine xg_goto hC 4 dX11_isOnce_94 rfl ?_
            exact xg_pick [2, 3, 1, 0] rfl (hself σ x1 (0 : Int) (xm_w (x3 + 1)) h1 (by decide) (xm_w_in _))
          refine xg_iconst hC dX11_isOnce_85 ?_
          refine xg_goto hC 90 dX11_isOnce_86 rfl ?_
          refine xg_istore_n hC (l' := [(2, .int (xm_J (1 : Int))), (0, .ref (xm_B (xx_G X) + 84)), (1, .int (xm_J x1)), (3, .int (xm_J x3))]) dX11_isOnce_90 (by decide) rfl ?_
          refine xg_iinc hC (l' := [(3, .int (xm_J (xm_w (x3 + 1)))), (2, .int (xm_J (1 : Int))), (0, .ref (xm_B (xx_G X) + 84)), (1, .int (xm_J x1))]) dX11_isOnce_91 (by decide) 3 rfl rfl ?_
          refine xg_goto hC 4 dX11_isOnce_94 rfl ?_
          exact xg_pick [2, 3, 1, 0] rfl (hself σ x1 (1 : Int) (xm_w (x3 + 1)) h1 (by decide) (xm_w_in _))
        refine xg_iconst hC dX11_isOnce_89 ?_
        refine xg_istore_n hC (l' := [(2, .int (xm_J (0 : Int))), (0, .ref (xm_B (xx_G X) + 84)), (1, .int (xm_J x1)), (3, .int (xm_J x3))]) dX11_isOnce_90 (by decide) rfl ?_
        refine xg_iinc hC (l' := [(3, .int (xm_J (xm_w (x3 + 1)))), (2, .int (xm_J (0 : Int))), (0, .ref (xm_B (xx_G X) + 84)), (1, .int (xm_J x1))]) dX11_isOnce_91 (by decide) 3 rfl rfl ?_
        refine xg_goto hC 4 dX11_isOnce_94 rfl ?_
        exact xg_pick [2, 3, 1, 0] rfl (hself σ x1 (0 : Int) (xm_w (x3 + 1)) h1 (by decide) (xm_w_in _))
      refine xg_iconst hC dX11_isOnce_85 ?_
      refine xg_goto hC 90 dX11_isOnce_86 rfl ?_
      refine xg_istore_n hC (l' := [(2, .int (xm_J (1 : Int))), (0, .ref (xm_B (xx_G X) + 84)), (1, .int (xm_J x1)), (3, .int (xm_J x3))]) dX11_isOnce_90 (by decide) rfl ?_
      refine xg_iinc hC (l' := [(3, .int (xm_J (xm_w (x3 + 1)))), (2, .int (xm_J (1 : Int))), (0, .ref (xm_B (xx_G X) + 84)), (1, .int (xm_J x1))]) dX11_isOnce_91 (by decide) 3 rfl rfl ?_
      refine xg_goto hC 4 dX11_isOnce_94 rfl ?_
      exact xg_pick [2, 3, 1, 0] rfl (hself σ x1 (1 : Int) (xm_w (x3 + 1)) h1 (by decide) (xm_w_in _))
    refine xg_iconst hC dX11_isOnce_85 ?_
    refine xg_goto hC 90 dX11_isOnce_86 rfl ?_
    refine xg_istore_n hC (l' := [(2, .int (xm_J (1 : Int))), (0, .ref (xm_B (xx_G X) + 84)), (1, .int (xm_J x1)), (3, .int (xm_J x3))]) dX11_isOnce_90 (by decide) rfl ?_
    refine xg_iinc hC (l' := [(3, .int (xm_J (xm_w (x3 + 1)))), (2, .int (xm_J (1 : Int))), (0, .ref (xm_B (xx_G X) + 84)), (1, .int (xm_J x1))]) dX11_isOnce_91 (by decide) 3 rfl rfl ?_
    refine xg_goto hC 4 dX11_isOnce_94 rfl ?_
    exact xg_pick [2, 3, 1, 0] rfl (hself σ x1 (1 : Int) (xm_w (x3 + 1)) h1 (by decide) (xm_w_in _))
  refine xg_iload_n hC dX11_isOnce_97 rfl ?_
  exact xg_zret hC hQ h2 dX11_isOnce_98
theorem w_X11_isOnce_l4 {X : xm_X} (hC : xm_C X yX11_isOnce.cls cX11_isOnce 4 1 0 0) (hQ : xm_Rt X 2 (some .boolean) 0 0) (hI : xx_I X = xm_I)   (n : Nat) : ∀ (σ : xm_Mem) (x1 : Int) (x2 : Int) (x3 : Int), xm_in x1 → 0 ≤ x2 ∧ x2 ≤ 1 → xm_in x3 → xm_V X 0 0 (f_X11_isOnce_l4  n σ x1 x2 x3) σ 4 [(0, .ref (xm_B (xx_G X) + 84)), (1, .int (xm_J x1)), (2, .int (xm_J x2)), (3, .int (xm_J x3))] [] := by
  induction n with
  | zero => intro σ x1 x2 x3 h1 h2 h3; exact xg_none
  | succ n ih => intro σ x1 x2 x3 h1 h2 h3; exact w_X11_isOnce_b4 hC hQ hI ih σ x1 x2 x3 h1 h2 h3
theorem w_X11_isOnce {Γ : xm_Gm} {I : xm_Mem → Prop} {la : Launch} (hE : I = xm_I) (σ : xm_Mem) (x1 : Int) (h1 : xm_in x1) : ∀ o, f_X11_isOnce σ x1 = some o → xm_M Γ I la yX11_isOnce cX11_isOnce 4 (some .boolean) 1 0 0 [.ref (xm_B Γ + 84), .int (xm_J x1)] σ 2 o := by
  refine xg_enter (by decide) (by simp [lg_sl, xm_rf_cat, xm_cati, xm_catr, xm_catl]) (fun X hG hI0 hla hC hQ hname => ?_)
  subst hG
  have hI := hI0.trans hE
  clear hI0 hla
  unfold f_X11_isOnce
  refine xg_pick [0, 1] (l' := [(0, .ref (xm_B (xx_G X) + 84)), (1, .int (xm_J x1))]) rfl ?_
  refine xg_iconst hC dX11_isOnce_0 ?_
  refine xg_istore_n hC (l' := [(2, .int (xm_J (1 : Int))), (0, .ref (xm_B (xx_G X) + 84)), (1, .int (xm_J x1))]) dX11_isOnce_1 (by decide) rfl ?_
  refine xg_iconst hC dX11_isOnce_2 ?_
  refine xg_istore_n hC (l' := [(3, .int (xm_J (0 : Int))), (2, .int (xm_J (1 : Int))), (0, .ref (xm_B (xx_G X) + 84)), (1, .int (xm_J x1))]) dX11_isOnce_3 (by decide) rfl ?_
  exact xg_pick [2, 3, 1, 0] rfl (w_X11_isOnce_l4 hC hQ hI _ σ x1 (1 : Int) (0 : Int) h1 (by decide) (xm_inc _ rfl))
theorem w_X11_isAlone_j86 {X : xm_X} (hC : xm_C X yX11_isAlone.cls cX11_isAlone 5 3 0 0) (hQ : xm_Rt X 2 (some .boolean) 0 0) (hI : xx_I X = xm_I) {K11 : xm_Mem → Int → Int → Int → Int → Option xm_Out} (hK11 : ∀ (σ : xm_Mem) (x1 : Int) (x2 : Int) (x3 : Int) (x4 : Int), xm_in x1 → 0 ≤ x2 ∧ x2 ≤ 1 → xm_in x3 → xm_in x4 → xm_V X 0 0 (K11 σ x1 x2 x3 x4) σ 11 [(0, .ref (xm_B (xx_G X) + 84)), (1, .int (xm_J x1)), (2, .int (xm_J x2)), (3, .int (xm_J x3)), (4, .int (xm_J x4))] []) (σ : xm_Mem) (x1 : Int) (x3 : Int) (x4 : Int) (h1 : xm_in x1) (h3 : xm_in x3) (h4 : xm_in x4) : xm_V X 0 0 (f_X11_isAlone_j86 K11 σ x1 x3 x4) σ 86 [(0, .ref (xm_B (xx_G X) + 84)), (1, .int (xm_J x1)), (3, .int (xm_J x3)), (4, .int (xm_J x4))] [] := by
  unfold f_X11_isAlone_j86
  refine xg_aload_n hC dX11_isAlone_86 rfl ?_
  refine xg_getW hC (b := 87) (xm_hK hI rfl) rfl (xm_wK hI rfl) (by decide) xl_F_X11_31 dX11_isAlone_87 ?_
  refine xg_iload hC dX11_isAlone_90 rfl ?_
  refine xg_iald hC (xm_hK hI rfl) rfl h4 dX11_isAlone_92 (fun b24 k25 => ?_)
  refine xg_iload_n hC dX11_isAlone_93 rfl ?_
  refine xg_icmp_gt hC k25 h3 112 dX11_isAlone_94 rfl (fun c26 => ?_) (fun c27 => ?_)
  · refine xg_iconst hC dX11_isAlone_112 ?_
    refine xg_goto hC 117 dX11_isAlone_113 rfl ?_
    refine xg_istore_n hC (l' := [(2, .int (xm_J (1 : Int))), (0, .ref (xm_B (xx_G X) + 84)), (1, .int (xm_J x1)), (3, .int (xm_J x3)), (4, .int (xm_J x4))]) dX11_isAlone_117 (by decide) rfl ?_
    refine xg_iinc hC (l' := [(4, .int (xm_J (xm_w (x4 + 1)))), (2, .int (xm_J (1 : Int))), (0, .ref (xm_B (xx_G X) + 84)), (1, .int (xm_J x1)), (3, .int (xm_J x3))]) dX11_isAlone_118 (by decide) 4 rfl rfl ?_
    refine xg_goto hC 11 dX11_isAlone_121 rfl ?_
    exact xg_pick [2, 3, 1, 4, 0] rfl (hK11 σ x1 (1 : Int) x3 (xm_w (x4 + 1)) h1 (by decide) h3 (xm_w_in _))
  refine xg_aload_n hC dX11_isAlone_97 rfl ?_
  refine xg_iload hC dX11_isAlone_98 rfl ?_
  refine xg_callV hC (ci := 10) (w_X11_openTo hI σ x4 h4) xl_M_X11_69 xl_V_X11_openTo (xm_hK (a := 84) (kd := 0) (n := 10) hI rfl).2 ((xm_hK (a := 84) (kd := 0) (n := 10) hI rfl).1 _) (by decide) rfl (by decide) ⟨by decide, by decide⟩ dX11_isAlone_100 (rest := []) rfl rfl (Nat.le_of_ble_eq_true rfl) rfl rfl (st2 := fun o => .int (xm_J o.2) :: []) (fun _ => rfl) (fun o28 k29 => ?_)
  refine xg_aload_n hC dX11_isAlone_103 rfl ?_
  refine xg_getW hC (b := 87) (xm_hK hI rfl) rfl (xm_wK hI rfl) (by decide) xl_F_X11_31 dX11_isAlone_104 ?_
  refine xg_iload_n hC dX11_isAlone_107 rfl ?_
  refine xg_iald hC (xm_hK hI rfl) rfl h1 dX11_isAlone_108 (fun b30 k31 => ?_)
  refine xg_icmp_ge hC k29 k31 116 dX11_isAlone_109 rfl (fun c32 => ?_) (fun c33 => ?_)
  · refine xg_iconst hC dX11_isAlone_112 ?_
    refine xg_goto hC 117 dX11_isAlone_113 rfl ?_
    refine xg_istore_n hC (l' := [(2, .int (xm_J (1 : Int))), (0, .ref (xm_B (xx_G X) + 84)), (1, .int (xm_J x1)), (3, .int (xm_J x3)), (4, .int (xm_J x4))]) dX11_isAlone_117 (by decide) rfl ?_
    refine xg_iinc hC (l' := [(4, .int (xm_J (xm_w (x4 + 1)))), (2, .int (xm_J (1 : Int))), (0, .ref (xm_B (xx_G X) + 84)), (1, .int (xm_J x1)), (3, .int (xm_J x3))]) dX11_isAlone_118 (by decide) 4 rfl rfl ?_
    refine xg_goto hC 11 dX11_isAlone_121 rfl ?_
    exact xg_pick [2, 3, 1, 4, 0] rfl (hK11 o28.1 x1 (1 : Int) x3 (xm_w (x4 + 1)) h1 (by decide) h3 (xm_w_in _))
  refine xg_iconst hC dX11_isAlone_116 ?_
  refine xg_istore_n hC (l' := [(2, .int (xm_J (0 : Int))), (0, .ref (xm_B (xx_G X) + 84)), (1, .int (xm_J x1)), (3, .int (xm_J x3)), (4, .int (xm_J x4))]) dX11_isAlone_117 (by decide) rfl ?_
  refine xg_iinc hC (l' := [(4, .int (xm_J (xm_w (x4 + 1)))), (2, .int (xm_J (0 : Int))), (0, .ref (xm_B (xx_G X) + 84)), (1, .int (xm_J x1)), (3, .int (xm_J x3))]) dX11_isAlone_118 (by decide) 4 rfl rfl ?_
  refine xg_goto hC 11 dX11_isAlone_121 rfl ?_
  exact xg_pick [2, 3, 1, 4, 0] rfl (hK11 o28.1 x1 (0 : Int) x3 (xm_w (x4 + 1)) h1 (by decide) h3 (xm_w_in _))
theorem w_X11_isAlone_b11 {X : xm_X} (hC : xm_C X yX11_isAlone.cls cX11_isAlone 5 3 0 0) (hQ : xm_Rt X 2 (some .boolean) 0 0) (hI : xx_I X = xm_I)   {self : xm_Mem → Int → Int → Int → Int → Option xm_Out} (hself : ∀ (σ : xm_Mem) (x1 : Int) (x2 : Int) (x3 : Int) (x4 : Int), xm_in x1 → 0 ≤ x2 ∧ x2 ≤ 1 → xm_in x3 → xm_in x4 → xm_V X 0 0 (self σ x1 x2 x3 x4) σ 11 [(0, .ref (xm_B (xx_G X) + 84)), (1, .int (xm_J x1)), (2, .int (xm_J x2)), (3, .int (xm_J x3)), (4, .int (xm_J x4))] []) (σ : xm_Mem) (x1 : Int) (x2 : Int) (x3 : Int) (x4 : Int) (h1 : xm_in x1) (h2 : 0 ≤ x2 ∧ x2 ≤ 1) (h3 : xm_in x3) (h4 : xm_in x4) : xm_V X 0 0 (f_X11_isAlone_b11  self σ x1 x2 x3 x4) σ 11 [(0, .ref (xm_B (xx_G X) + 84)), (1, .int (xm_J x1)), (2, .int (xm_J x2)), (3, .int (xm_J x3)), (4, .int (xm_J x4))] [] := by
  unfold f_X11_isAlone_b11
  refine xg_iload hC dX11_isAlone_11 rfl ?_
  refine xg_aload_n hC dX11_isAlone_13 rfl ?_
  refine xg_getI hC (xm_hK hI rfl) rfl xl_F_X11_40 dX11_isAlone_14 (fun k3 => ?_)
  refine xg_icmp_ge hC h4 k3 124 dX11_isAlone_17 rfl (fun c4 => ?_) (fun c5 => ?_)
  · refine xg_iload_n hC dX11_isAlone_20 rfl ?_
    refine xg_if_eq hC (xm_in01 h2) 124 dX11_isAlone_21 rfl (fun c6 => ?_) (fun c7 => ?_)
    · refine xg_iload_n hC dX11_isAlone_124 rfl ?_
      exact xg_zret hC hQ h2 dX11_isAlone_125
    refine xg_iload hC dX11_isAlone_24 rfl ?_
    refine xg_iload_n hC dX11_isAlone_26 rfl ?_
    refine xg_icmp_eq hC h4 h1 118 dX11_isAlone_27 rfl (fun c8 => ?_) (fun c9 => ?_)
    · refine xg_iinc hC (l' := [(4, .int (xm_J (xm_w (x4 + 1)))), (0, .ref (xm_B (xx_G X) + 84)), (1, .int (xm_J x1)), (2, .int (xm_J x2)), (3, .int (xm_J x3))]) dX11_isAlone_118 (by decide) 4 rfl rfl ?_
      refine xg_goto hC 11 dX11_isAlone_121 rfl ?_
      exact xg_pick [1, 2, 3, 4, 0] rfl (hself σ x1 x2 x3 (xm_w (x4 + 1)) h1 h2 h3 (xm_w_in _))
    refine xg_aload_n hC dX11_isAlone_30 rfl ?_
    refine xg_getW hC (b := 92) (xm_hK hI rfl) rfl (xm_wK hI rfl) (by decide) xl_F_X11_14 dX11_isAlone_31 ?_
    refine xg_iload hC dX11_isAlone_34 rfl ?_
    refine xg_zald hC (xm_hK hI rfl) rfl h4 dX11_isAlone_36 (fun b10 k11 => ?_)
    refine xg_if_eq hC (xm_in01 k11) 118 dX11_isAlone_37 rfl (fun c12 => ?_) (fun c13 => ?_)
    · refine xg_iinc hC (l' := [(4, .int (xm_J (xm_w (x4 + 1)))), (0, .ref (xm_B (xx_G X) + 84)), (1, .int (xm_J x1)), (2, .int (xm_J x2)), (3, .int (xm_J x3))]) dX11_isAlone_118 (by decide) 4 rfl rfl ?_
      refine xg_goto hC 11 dX11_isAlone_121 rfl ?_
      exact xg_pick [1, 2, 3, 4, 0] rfl (hself σ x1 x2 x3 (xm_w (x4 + 1)) h1 h2 h3 (xm_w_in _))
    refine xg_aload_n hC dX11_isAlone_40 rfl ?_
    refine xg_getW hC (b := 86) (xm_hK hI rfl) rfl (xm_wK hI rfl) (by decide) xl_F_X11_43 dX11_isAlone_41 ?_
    refine xg_iload hC dX11_isAlone_44 rfl ?_
    refine xg_iald hC (xm_hK hI rfl) rfl h4 dX11_isAlone_46 (fun b14 k15 => ?_)
    refine xg_iconst hC dX11_isAlone_47 ?_
    refine xg_icmp_ne hC k15 (xm_inc _ rfl) 118 dX11_isAlone_48 rfl (fun c16 => ?_) (fun c17 => ?_)
    · refine xg_aload_n hC dX11_isAlone_51 rfl ?_
      refine xg_getW hC (b := 88) (xm_hK hI rfl) rfl (xm_wK hI rfl) (by decide) xl_F_X11_46 dX11_isAlone_52 ?_
      refine xg_iload hC dX11_isAlone_55 rfl ?_
      refine xg_iald hC (xm_hK hI rfl) rfl h4 dX11_isAlone_57 (fun b18 k19 => ?_)
      refine xg_aload_n hC dX11_isAlone_58 rfl ?_
      refine xg_getW hC (b := 88) (xm_hK hI rfl) rfl (xm_wK hI rfl) (by decide) xl_F_X11_46 dX11_isAlone_59 ?_
      refine xg_iload_n hC dX11_isAlone_62 rfl ?_
      refine xg_iald hC (xm_hK hI rfl) rfl h1 dX11_isAlone_63 (fun b20 k21 => ?_)
      refine xg_icmp_eq hC k19 k21 86 dX11_isAlone_64 rfl (fun c22 => ?_) (fun c23 => ?_)
      · exact xg_pick [0, 1, 3, 4] rfl (w_X11_isAlone_j86 hC hQ hI hself σ x1 x3 x4 h1 h3 h4)
      refine xg_aload_n hC dX11_isAlone_67 rfl ?_
      refine xg_getW hC (b := 89) (xm_hK hI rfl) rfl (xm_wK hI rfl) (by decide) xl_F_X11_34 dX11_isAlone_68 ?_
      refine xg_iload hC dX11_isAlone_71 rfl ?_
      refine xg_iald hC (xm_hK hI rfl) rfl h4 dX11_isAlone_73 (fun b34 k35 => ?_)
      refine xg_aload_n hC dX11_isAlone_74 rfl ?_
      refine xg_getW hC (b := 89) (xm_hK hI rfl) rfl (xm_wK hI rfl) (by decide) xl_F_X11_34 dX11_isAlone_75 ?_
      refine xg_iload_n hC dX11_isAlone_78 rfl ?_
      refine xg_iald hC (xm_hK hI rfl) rfl h1 dX11_isAlone_79 (fun b36 k37 => ?_)
      refine xg_icmp_eq hC k35 k37 86 dX11_isAlone_80 rfl (fun c38 => ?_) (fun c39 => ?_)
      · exact xg_pick [0, 1, 3, 4] rfl (w_X11_isAlone_j86 hC hQ hI hself σ x1 x3 x4 h1 h3 h4)
      refine xg_goto hC 118 dX11_isAlone_83 rfl ?_
      refine xg_iinc hC (l' := [(4, .int (xm_J (xm_w (x4 + 1)))), (0, .ref (xm_B (xx_G X) + 84)), (1, .int (xm_J x1)), (2, .int (xm_J x2)), (3, .int (xm_J x3))]) dX11_isAlone_118 (by decide) 4 rfl rfl ?_
      refine xg_goto hC 11 dX11_isAlone_121 rfl ?_
      exact xg_pick [1, 2, 3, 4, 0] rfl (hself σ x1 x2 x3 (xm_w (x4 + 1)) h1 h2 h3 (xm_w_in _))
    refine xg_iinc hC (l' := [(4, .int (xm_J (xm_w (x4 + 1)))), (0, .ref (xm_B (xx_G X) + 84)), (1, .int (xm_J x1)), (2, .int (xm_J x2)), (3, .int (xm_J x3))]) dX11_isAlone_118 (by decide) 4 rfl rfl ?_
    refine xg_goto hC 11 dX11_isAlone_121 rfl ?_
    exact xg_pick [1, 2, 3, 4, 0] rfl (hself σ x1 x2 x3 (xm_w (x4 + 1)) h1 h2 h3 (xm_w_in _))
  refine xg_iload_n hC dX11_isAlone_124 rfl ?_
  exact xg_zret hC hQ h2 dX11_isAlone_125
theorem w_X11_isAlone_l11 {X : xm_X} (hC : xm_C X yX11_isAlone.cls cX11_isAlone 5 3 0 0) (hQ : xm_Rt X 2 (some .boolean) 0 0) (hI : xx_I X = xm_I)   (n : Nat) : ∀ (σ : xm_Mem) (x1 : Int) (x2 : Int) (x3 : Int) (x4 : Int), xm_in x1 → 0 ≤ x2 ∧ x2 ≤ 1 → xm_in x3 → xm_in x4 → xm_V X 0 0 (f_X11_isAlone_l11  n σ x1 x2 x3 x4) σ 11 [(0, .ref (xm_B (xx_G X) + 84)), (1, .int (xm_J x1)), (2, .int (xm_J x2)), (3, .int (xm_J x3)), (4, .int (xm_J x4))] [] := by
  induction n with
  | zero => intro σ x1 x2 x3 x4 h1 h2 h3 h4; exact xg_none
  | succ n ih => intro σ x1 x2 x3 x4 h1 h2 h3 h4; exact w_X11_isAlone_b11 hC hQ hI ih σ x1 x2 x3 x4 h1 h2 h3 h4
theorem w_X11_isAlone {Γ : xm_Gm} {I : xm_Mem → Prop} {la : Launch} (hE : I = xm_I) (σ : xm_Mem) (x1 : Int) (h1 : xm_in x1) : ∀ o, f_X11_isAlone σ x1 = some o → xm_M Γ I la yX11_isAlone cX11_isAlone 5 (some .boolean) 3 0 0 [.ref (xm_B Γ + 84), .int (xm_J x1)] σ 2 o := by
  refine xg_enter (by decide) (by simp [lg_sl, xm_rf_cat, xm_cati, xm_catr, xm_catl]) (fun X hG hI0 hla hC hQ hname => ?_)
  subst hG
  have hI := hI0.trans hE
  clear hI0 hla
  unfold f_X11_isAlone
  refine xg_pick [0, 1] (l' := [(0, .ref (xm_B (xx_G X) + 84)), (1, .int (xm_J x1))]) rfl ?_
  refine xg_iconst hC dX11_isAlone_0 ?_
  refine xg_istore_n hC (l' := [(2, .int (xm_J (1 : Int))), (0, .ref (xm_B (xx_G X) + 84)), (1, .int (xm_J x1))]) dX11_isAlone_1 (by decide) rfl ?_
  refine xg_aload_n hC dX11_isAlone_2 rfl ?_
  refine xg_iload_n hC dX11_isAlone_3 rfl ?_
  refine xg_callV hC (ci := 10) (w_X11_openTo hI σ x1 h1) xl_M_X11_69 xl_V_X11_openTo (xm_hK (a := 84) (kd := 0) (n := 10) hI rfl).2 ((xm_hK (a := 84) (kd := 0) (n := 10) hI rfl).1 _) (by decide) rfl (by decide) ⟨by decide, by decide⟩ dX11_isAlone_4 (rest := []) rfl rfl (Nat.le_of_ble_eq_true rfl) rfl rfl (st2 := fun o => .int (xm_J o.2) :: []) (fun _ => rfl) (fun o1 k2 => ?_)
  refine xg_istore_n hC (l' := [(3, .int (xm_J o1.2)), (2, .int (xm_J (1 : Int))), (0, .ref (xm_B (xx_G X) + 84)), (1, .int (xm_J x1))]) dX11_isAlone_7 (by decide) rfl ?_
  refine xg_iconst hC dX11_isAlone_8 ?_
  refine xg_istore hC (l' := [(4, .int (xm_J (0 : Int))), (3, .int (xm_J o1.2)), (2, .int (xm_J (1 : Int))), (0, .ref (xm_B (xx_G X) + 84)), (1, .int (xm_J x1))]) dX11_isAlone_9 (by decide) rfl ?_
  exact xg_pick [3, 4, 2, 1, 0] rfl (w_X11_isAlone_l11 hC hQ hI _ o1.1 x1 (1 : Int) o1.2 (0 : Int) h1 (by decide) k2 (xm_inc _ rfl))
theorem w_X11_isOnlyOfItsDay_b4 {X : xm_X} (hC : xm_C X yX11_isOnlyOfItsDay.cls cX11_isOnlyOfItsDay 4 1 0 0) (hQ : xm_Rt X 2 (some .boolean) 0 0) (hI : xx_I X = xm_I)   {self : xm_Mem → Int → Int → Int → Option xm_Out} (hself : ∀ (σ : xm_Mem) (x1 : Int) (x2 : Int) (x3 : Int), xm_in x1 → 0 ≤ x2 ∧ x2 ≤ 1 → xm_in x3 → xm_V X 0 0 (self σ x1 x2 x3) σ 4 [(0, .ref (xm_B (xx_G X) + 84)), (1, .int (xm_J x1)), (2, .int (xm_J x2)), (3, .int (xm_J x3))] []) (σ : xm_Mem) (x1 : Int) (x2 : Int) (x3 : Int) (h1 : xm_in x1) (h2 : 0 ≤ x2 ∧ x2 ≤ 1) (h3 : xm_in x3) : xm_V X 0 0 (f_X11_isOnlyOfItsDay_b4  self σ x1 x2 x3) σ 4 [(0, .ref (xm_B (xx_G X) + 84)), (1, .int (xm_J x1)), (2, .int (xm_J x2)), (3, .int (xm_J x3))] [] := by
  unfold f_X11_isOnlyOfItsDay_b4
  refine xg_iload_n hC dX11_isOnlyOfItsDay_4 rfl ?_
  refine xg_aload_n hC dX11_isOnlyOfItsDay_5 rfl ?_
  refine xg_getI hC (xm_hK hI rfl) rfl xl_F_X11_40 dX11_isOnlyOfItsDay_6 (fun k1 => ?_)
  refine xg_icmp_ge hC h3 k1 83 dX11_isOnlyOfItsDay_9 rfl (fun c2 => ?_) (fun c3 => ?_)
  · refine xg_iload_n hC dX11_isOnlyOfItsDay_12 rfl ?_
    refine xg_if_eq hC (xm_in01 h2) 75 dX11_isOnlyOfItsDay_13 rfl (fun c4 => ?_) (fun c5 => ?_)
    · refine xg_iconst hC dX11_isOnlyOfItsDay_75 ?_
      refine xg_istore_n hC (l' := [(2, .int (xm_J (0 : Int))), (0, .ref (xm_B (xx_G X) + 84)), (1, .int (xm_J x1)), (3, .int (xm_J x3))]) dX11_isOnlyOfItsDay_76 (by decide) rfl ?_
      refine xg_iinc hC (l' := [(3, .int (xm_J (xm_w (x3 + 1)))), (2, .int (xm_J (0 : Int))), (0, .ref (xm_B (xx_G X) + 84)), (1, .int (xm_J x1))]) dX11_isOnlyOfItsDay_77 (by decide) 3 rfl rfl ?_
      refine xg_goto hC 4 dX11_isOnlyOfItsDay_80 rfl ?_
      exact xg_pick [2, 3, 1, 0] rfl (hself σ x1 (0 : Int) (xm_w (x3 + 1)) h1 (by decide) (xm_w_in _))
    refine xg_iload_n hC dX11_isOnlyOfItsDay_16 rfl ?_
    refine xg_iload_n hC dX11_isOnlyOfItsDay_17 rfl ?_
    refine xg_icmp_eq hC h3 h1 71 dX11_isOnlyOfItsDay_18 rfl (fun c6 => ?_) (fun c7 => ?_)
    · refine xg_iconst hC dX11_isOnlyOfItsDay_71 ?_
      refine xg_goto hC 76 dX11_isOnlyOfItsDay_72 rfl ?_
      refine xg_istore_n hC (l' := [(2, .int (xm_J (1 : Int))), (0, .ref (xm_B (xx_G X) + 84)), (1, .int (xm_J x1)), (3, .int (xm_J x3))]) dX11_isOnlyOfItsDay_76 (by decide) rfl ?_
      refine xg_iinc hC (l' := [(3, .int (xm_J (xm_w (x3 + 1)))), (2, .int (xm_J (1 : Int))), (0, .ref (xm_B (xx_G X) + 84)), (1, .int (xm_J x1))]) dX11_isOnlyOfItsDay_77 (by decide) 3 rfl rfl ?_
      refine xg_goto hC 4 dX11_isOnlyOfItsDay_80 rfl ?_
      exact xg_pick [2, 3, 1, 0] rfl (hself σ x1 (1 : Int) (xm_w (x3 + 1)) h1 (by decide) (xm_w_in _))
    refine xg_aload_n hC dX11_isOnlyOfItsDay_21 rfl ?_
    refine xg_getW hC (b := 92) (xm_hK hI rfl) rfl (xm_wK hI rfl) (by decide) xl_F_X11_14 dX11_isOnlyOfItsDay_22 ?_
    refine xg_iload_n hC dX11_isOnlyOfItsDay_25 rfl ?_
    refine xg_zald hC (xm_hK hI rfl) rfl h3 dX11_isOnlyOfItsDay_26 (fun b8 k9 => ?_)
    refine xg_if_eq hC (xm_in01 k9) 71 dX11_isOnlyOfItsDay_27 rfl (fun c10 => ?_) (fun c11 => ?_)
    · refine xg_iconst hC dX11_isOnlyOfItsDay_71 ?_
      refine xg_goto hC 76 dX11_isOnlyOfItsDay_72 rfl ?_
      refine xg_istore_n hC (l' := [(2, .int (xm_J (1 : Int))), (0, .ref (xm_B (xx_G X) + 84)), (1, .int (xm_J x1)), (3, .int (xm_J x3))]) dX11_isOnlyOfItsDay_76 (by decide) rfl ?_
      refine xg_iinc hC (l' := [(3, .int (xm_J (xm_w (x3 + 1)))), (2, .int (xm_J (1 : Int))), (0, .ref (xm_B (xx_G X) + 84)), (1, .int (xm_J x1))]) dX11_isOnlyOfItsDay_77 (by decide) 3 rfl rfl ?_
      refine xg_goto hC 4 dX11_isOnlyOfItsDay_80 rfl ?_
      exact xg_pick [2, 3, 1, 0] rfl (hself σ x1 (1 : Int) (xm_w (x3 + 1)) h1 (by decide) (xm_w_in _))
    refine xg_aload_n hC dX11_isOnlyOfItsDay_30 rfl ?_
    refine xg_getW hC (b := 86) (xm_hK hI rfl) rfl (xm_wK hI rfl) (by decide) xl_F_X11_43 dX11_isOnlyOfItsDay_31 ?_
    refine xg_iload_n hC dX11_isOnlyOfItsDay_34 rfl ?_
    refine xg_iald hC (xm_hK hI rfl) rfl h3 dX11_isOnlyOfItsDay_35 (fun b12 k13 => ?_)
    refine xg_bipush hC dX11_isOnlyOfItsDay_36 (by decide) ?_
    refine xg_icmp_lt hC k13 (xm_inc _ rfl) 71 dX11_isOnlyOfItsDay_38 rfl (fun c14 => ?_) (fun c15 => ?_)
    · refine xg_iconst hC dX11_isOnlyOfItsDay_71 ?_
      refine xg_goto hC 76 dX11_isOnlyOfItsDay_72 rfl ?_
      refine xg_istore_n hC (l' := [(2, .int (xm_J (1 : Int))), (0, .ref (xm_B (xx_G X) + 84)), (1, .int (xm_J x1)), (3, .int (xm_J x3))]) dX11_isOnlyOfItsDay_76 (by decide) rfl ?_
      refine xg_iinc hC (l' := [(3, .int (xm_J (xm_w (x3 + 1)))), (2, .int (xm_J (1 : Int))), (0, .ref (xm_B (xx_G X) + 84)), (1, .int (xm_J x1))]) dX11_isOnlyOfItsDay_77 (by decide) 3 rfl rfl ?_
      refine xg_goto hC 4 dX11_isOnlyOfItsDay_80 rfl ?_
      exact xg_pick [2, 3, 1, 0] rfl (hself σ x1 (1 : Int) (xm_w (x3 + 1)) h1 (by decide) (xm_w_in _))
    refine xg_aload_n hC dX11_isOnlyOfItsDay_41 rfl ?_
    refine xg_getW hC (b := 89) (xm_hK hI rfl) rfl (xm_wK hI rfl) (by decide) xl_F_X11_34 dX11_isOnlyOfItsDay_42 ?_
    refine xg_iload_n hC dX11_isOnlyOfItsDay_45 rfl ?_
    refine xg_iald hC (xm_hK hI rfl) rfl h3 dX11_isOnlyOfItsDay_46 (fun b16 k17 => ?_)
    refine xg_aload_n hC dX11_isOnlyOfItsDay_47 rfl ?_
    refine xg_getW hC (b := 89) (xm_hK hI rfl) rfl (xm_wK hI rfl) (by decide) xl_F_X11_34 dX11_isOnlyOfItsDay_48 ?_
    refine xg_iload_n hC dX11_isOnlyOfItsDay_51 rfl ?_
    refine xg_iald hC (xm_hK hI rfl) rfl h1 dX11_isOnlyOfItsDay_52 (fun b18 k19 => ?_)
    refine xg_icmp_ne hC k17 k19 71 dX11_isOnlyOfItsDay_53 rfl (fun c20 => ?_) (fun c21 => ?_)
    · refine xg_aload_n hC dX11_isOnlyOfItsDay_56 rfl ?_
      refine xg_getW hC (b := 87) (xm_hK hI rfl) rfl (xm_wK hI rfl) (by decide) xl_F_X11_31 dX11_isOnlyOfItsDay_57 ?_
      refine xg_iload_n hC dX11_isOnlyOfItsDay_60 rfl ?_
      refine xg_iald hC (xm_hK hI rfl) rfl h3 dX11_isOnlyOfItsDay_61 (fun b22 k23 => ?_)
      refine xg_aload_n hC dX11_isOnlyOfItsDay_62 rfl ?_
      refine xg_getW hC (b := 87) (xm_hK hI rfl) rfl (xm_wK hI rfl) (by decide) xl_F_X11_31 dX11_isOnlyOfItsDay_63 ?_
      refine xg_iload_n hC dX11_isOnlyOfItsDay_66 rfl ?_
      refine xg_iald hC (xm_hK hI rfl) rfl h1 dX11_isOnlyOfItsDay_67 (fun b24 k25 => ?_)
      refine xg_icmp_eq hC k23 k25 75 dX11_isOnlyOfItsDay_68 rfl (fun c26 => ?_) (fun c27 => ?_)
      · refine xg_iconst hC dX11_isOnlyOfItsDay_75 ?_
        refine xg_istore_n hC (l' := [(2, .int (xm_J (0 : Int))), (0, .ref (xm_B (xx_G X) + 84)), (1, .int (xm_J x1)), (3, .int (xm_J x3))]) dX11_isOnlyOfItsDay_76 (by decide) rfl ?_
        refine xg_iinc hC (l' := [(3, .int (xm_J (xm_w (x3 + 1)))), (2, .int (xm_J (0 : Int))), (0, .ref (xm_B (xx_G X) + 84)), (1, .int (xm_J x1))]) dX11_isOnlyOfItsDay_77 (by decide) 3 rfl rfl ?_
        refine xg_goto hC 4 dX11_isOnlyOfItsDay_80 rfl ?_
        exact xg_pick [2, 3, 1, 0] rfl (hself σ x1 (0 : Int) (xm_w (x3 + 1)) h1 (by decide) (xm_w_in _))
      refine xg_iconst hC dX11_isOnlyOfItsDay_71 ?_
      refine xg_goto hC 76 dX11_isOnlyOfItsDay_72 rfl ?_
      refine xg_istore_n hC (l' := [(2, .int (xm_J (1 : Int))), (0, .ref (xm_B (xx_G X) + 84)), (1, .int (xm_J x1)), (3, .int (xm_J x3))]) dX11_isOnlyOfItsDay_76 (by decide) rfl ?_
      refine xg_iinc hC (l' := [(3, .int (xm_J (xm_w (x3 + 1)))), (2, .int (xm_J (1 : Int))), (0, .ref (xm_B (xx_G X) + 84)), (1, .int (xm_J x1))]) dX11_isOnlyOfItsDay_77 (by decide) 3 rfl rfl ?_
      refine xg_goto hC 4 dX11_isOnlyOfItsDay_80 rfl ?_
      exact xg_pick [2, 3, 1, 0] rfl (hself σ x1 (1 : Int) (xm_w (x3 + 1)) h1 (by decide) (xm_w_in _))
    refine xg_iconst hC dX11_isOnlyOfItsDay_71 ?_
    refine xg_goto hC 76 dX11_isOnlyOfItsDay_72 rfl ?_
    refine xg_istore_n hC (l' := [(2, .int (xm_J (1 : Int))), (0, .ref (xm_B (xx_G X) + 84)), (1, .int (xm_J x1)), (3, .int (xm_J x3))]) dX11_isOnlyOfItsDay_76 (by decide) rfl ?_
    refine xg_iinc hC (l' := [(3, .int (xm_J (xm_w (x3 + 1)))), (2, .int (xm_J (1 : Int))), (0, .ref (xm_B (xx_G X) + 84)), (1, .int (xm_J x1))]) dX11_isOnlyOfItsDay_77 (by decide) 3 rfl rfl ?_
    refine xg_goto hC 4 dX11_isOnlyOfItsDay_80 rfl ?_
    exact xg_pick [2, 3, 1, 0] rfl (hself σ x1 (1 : Int) (xm_w (x3 + 1)) h1 (by decide) (xm_w_in _))
  refine xg_iload_n hC dX11_isOnlyOfItsDay_83 rfl ?_
  exact xg_zret hC hQ h2 dX11_isOnlyOfItsDay_84
theorem w_X11_isOnlyOfItsDay_l4 {X : xm_X} (hC : xm_C X yX11_isOnlyOfItsDay.cls cX11_isOnlyOfItsDay 4 1 0 0) (hQ : xm_Rt X 2 (some .boolean) 0 0) (hI : xx_I X = xm_I)   (n : Nat) : ∀ (σ : xm_Mem) (x1 : Int) (x2 : Int) (x3 : Int), xm_in x1 → 0 ≤ x2 ∧ x2 ≤ 1 → xm_in x3 → xm_V X 0 0 (f_X11_isOnlyOfItsDay_l4  n σ x1 x2 x3) σ 4 [(0, .ref (xm_B (xx_G X) + 84)), (1, .int (xm_J x1)), (2, .int (xm_J x2)), (3, .int (xm_J x3))] [] := by
  induction n with
  | zero => intro σ x1 x2 x3 h1 h2 h3; exact xg_none
  | succ n ih => intro σ x1 x2 x3 h1 h2 h3; exact w_X11_isOnlyOfItsDay_b4 hC hQ hI ih σ x1 x2 x3 h1 h2 h3
theorem w_X11_isOnlyOfItsDay {Γ : xm_Gm} {I : xm_Mem → Prop} {la : Launch} (hE : I = xm_I) (σ : xm_Mem) (x1 : Int) (h1 : xm_in x1) : ∀ o, f_X11_isOnlyOfItsDay σ x1 = some o → xm_M Γ I la yX11_isOnlyOfItsDay cX11_isOnlyOfItsDay 4 (some .boolean) 1 0 0 [.ref (xm_B Γ + 84), .int (xm_J x1)] σ 2 o := by
  refine xg_enter (by decide) (by simp [lg_sl, xm_rf_cat, xm_cati, xm_catr, xm_catl]) (fun X hG hI0 hla hC hQ hname => ?_)
  subst hG
  have hI := hI0.trans hE
  clear hI0 hla
  unfold f_X11_isOnlyOfItsDay
  refine xg_pick [0, 1] (l' := [(0, .ref (xm_B (xx_G X) + 84)), (1, .int (xm_J x1))]) rfl ?_
  refine xg_iconst hC dX11_isOnlyOfItsDay_0 ?_
  refine xg_istore_n hC (l' := [(2, .int (xm_J (1 : Int))), (0, .ref (xm_B (xx_G X) + 84)), (1, .int (xm_J x1))]) dX11_isOnlyOfItsDay_1 (by decide) rfl ?_
  refine xg_iconst hC dX11_isOnlyOfItsDay_2 ?_
  refine xg_istore_n hC (l' := [(3, .int (xm_J (0 : Int))), (2, .int (xm_J (1 : Int))), (0, .ref (xm_B (xx_G X) + 84)), (1, .int (xm_J x1))]) dX11_isOnlyOfItsDay_3 (by decide) rfl ?_
  exact xg_pick [2, 3, 1, 0] rfl (w_X11_isOnlyOfItsDay_l4 hC hQ hI _ σ x1 (1 : Int) (0 : Int) h1 (by decide) (xm_inc _ rfl))
theorem w_X11_holdsBond_j122 {X : xm_X} (hC : xm_C X yX11_holdsBond.cls cX11_holdsBond 9 4 0 0) (hQ : xm_Rt X 2 (some .boolean) 0 0) (hI : xx_I X = xm_I)   (σ : xm_Mem) (x7 : Int) (h7 : xm_in x7) : xm_V X 0 0 (f_X11_holdsBond_j122  σ x7) σ 122 [(0, .ref (xm_B (xx_G X) + 84)), (7, .int (xm_J x7))] [] := by
  unfold f_X11_holdsBond_j122
  refine xg_iload hC dX11_holdsBond_122 rfl ?_
  refine xg_if_lt hC h7 136 dX11_holdsBond_124 rfl (fun c29 => ?_) (fun c30 => ?_)
  · refine xg_iconst hC dX11_holdsBond_136 ?_
    refine xg_goto hC 141 dX11_holdsBond_137 rfl ?_
    exact xg_zret hC hQ (by decide) dX11_holdsBond_141
  refine xg_aload_n hC dX11_holdsBond_127 rfl ?_
  refine xg_iload hC dX11_holdsBond_128 rfl ?_
  refine xg_callV hC (ci := 10) (w_X11_isMale hI σ x7 h7) xl_M_X11_85 xl_V_X11_isMale (xm_hK (a := 84) (kd := 0) (n := 10) hI rfl).2 ((xm_hK (a := 84) (kd := 0) (n := 10) hI rfl).1 _) (by decide) rfl (by decide) ⟨by decide, by decide⟩ dX11_holdsBond_130 (rest := []) rfl rfl (Nat.le_of_ble_eq_true rfl) rfl rfl (st2 := fun o => .int (xm_J o.2) :: []) (fun _ => rfl) (fun o31 k32 => ?_)
  refine xg_if_ne hC (xm_in01 k32) 140 dX11_holdsBond_133 rfl (fun c33 => ?_) (fun c34 => ?_)
  · refine xg_iconst hC dX11_holdsBond_136 ?_
    refine xg_goto hC 141 dX11_holdsBond_137 rfl ?_
    exact xg_zret hC hQ (by decide) dX11_holdsBond_141
  refine xg_iconst hC dX11_holdsBond_140 ?_
  exact xg_zret hC hQ (by decide) dX11_holdsBond_141
theorem w_X11_holdsBond_j354 {X : xm_X} (hC : xm_C X yX11_holdsBond.cls cX11_holdsBond 9 4 0 0) (hQ : xm_Rt X 2 (some .boolean) 0 0) (hI : xx_I X = xm_I)   (σ : xm_Mem) (s0 : Int) (x3 : Int) (g0 : 0 ≤ s0 ∧ s0 ≤ 1) (h3 : xm_in x3) : xm_V X 0 0 (f_X11_holdsBond_j354  σ s0 x3) σ 354 [(3, .int (xm_J x3))] [.int (xm_J s0)] := by
  unfold f_X11_holdsBond_j354
  refine xg_iload_n hC dX11_holdsBond_354 rfl ?_
  refine xg_iconst hC dX11_holdsBond_355 ?_
  refine xg_icmp_ne hC h3 (xm_inc _ rfl) 363 dX11_holdsBond_356 rfl (fun c117 => ?_) (fun c118 => ?_)
  · refine xg_iconst hC dX11_holdsBond_359 ?_
    refine xg_goto hC 364 dX11_holdsBond_360 rfl ?_
    refine xg_icmp_ne hC (xm_in01 g0) (xm_inc _ rfl) 371 dX11_holdsBond_364 rfl (fun c119 => ?_) (fun c120 => ?_)
    · refine xg_iconst hC dX11_holdsBond_367 ?_
      refine xg_goto hC 372 dX11_holdsBond_368 rfl ?_
      exact xg_zret hC hQ (by decide) dX11_holdsBond_372
    refine xg_iconst hC dX11_holdsBond_371 ?_
    exact xg_zret hC hQ (by decide) dX11_holdsBond_372
  refine xg_iconst hC dX11_holdsBond_363 ?_
  refine xg_icmp_ne hC (xm_in01 g0) (xm_inc _ rfl) 371 dX11_holdsBond_364 rfl (fun c121 => ?_) (fun c122 => ?_)
  · refine xg_iconst hC dX11_holdsBond_367 ?_
    refine xg_goto hC 372 dX11_holdsBond_368 rfl ?_
    exact xg_zret hC hQ (by decide) dX11_holdsBond_372
  refine xg_iconst hC dX11_holdsBond_371 ?_
  exact xg_zret hC hQ (by decide) dX11_holdsBond_372
theorem w_X11_holdsBond_j451 {X : xm_X} (hC : xm_C X yX11_holdsBond.cls cX11_holdsBond 9 4 0 0) (hQ : xm_Rt X 2 (some .boolean) 0 0) (hI : xx_I X = xm_I)   (σ : xm_Mem) (x2 : Int) (x3 : Int) (x6 : Int) (h2 : xm_in x2) (h3 : xm_in x3) (h6 : xm_in x6) : xm_V X 0 0 (f_X11_holdsBond_j451  σ x2 x3 x6) σ 451 [(0, .ref (xm_B (xx_G X) + 84)), (2, .int (xm_J x2)), (3, .int (xm_J x3)), (6, .int (xm_J x6))] [] := by
  unfold f_X11_holdsBond_j451
  refine xg_iload_n hC dX11_holdsBond_451 rfl ?_
  refine xg_iconst hC dX11_holdsBond_452 ?_
  refine xg_icmp_ne hC h3 (xm_inc _ rfl) 464 dX11_holdsBond_453 rfl (fun c137 => ?_) (fun c138 => ?_)
  · refine xg_aload_n hC dX11_holdsBond_456 rfl ?_
    refine xg_iload_n hC dX11_holdsBond_457 rfl ?_
    refine xg_callV hC (ci := 10) (w_X11_isOnce hI σ x2 h2) xl_M_X11_89 xl_V_X11_isOnce (xm_hK (a := 84) (kd := 0) (n := 10) hI rfl).2 ((xm_hK (a := 84) (kd := 0) (n := 10) hI rfl).1 _) (by decide) rfl (by decide) ⟨by decide, by decide⟩ dX11_holdsBond_458 (rest := []) rfl rfl (Nat.le_of_ble_eq_true rfl) rfl rfl (st2 := fun o => .int (xm_J o.2) :: []) (fun _ => rfl) (fun o139 k140 => ?_)
    refine xg_goto hC 491 dX11_holdsBond_461 rfl ?_
    exact xg_zret hC hQ k140 dX11_holdsBond_491
  refine xg_iload_n hC dX11_holdsBond_464 rfl ?_
  refine xg_bipush hC dX11_holdsBond_465 (by decide) ?_
  refine xg_icmp_ne hC h3 (xm_inc _ rfl) 486 dX11_holdsBond_467 rfl (fun c141 => ?_) (fun c142 => ?_)
  · refine xg_aload_n hC dX11_holdsBond_470 rfl ?_
    refine xg_getW hC (b := 91) (xm_hK hI rfl) rfl (xm_wK hI rfl) (by decide) xl_F_X11_28 dX11_holdsBond_471 ?_
    refine xg_aload_n hC dX11_holdsBond_474 rfl ?_
    refine xg_getW hC (b := 94) (xm_hK hI rfl) rfl (xm_wK hI rfl) (by decide) xl_F_X11_25 dX11_holdsBond_475 ?_
    refine xg_iload hC dX11_holdsBond_478 rfl ?_
    refine xg_iald hC (xm_hK hI rfl) rfl h6 dX11_holdsBond_480 (fun b143 k144 => ?_)
    refine xg_vI k144 (fun v145 k146 => ?_)
    refine xg_iald hC (xm_hK hI rfl) rfl k146 dX11_holdsBond_481 (fun b147 k148 => ?_)
    refine xg_iconst hC dX11_holdsBond_482 ?_
    refine xg_icmp_ne hC k148 (xm_inc _ rfl) 490 dX11_holdsBond_483 rfl (fun c149 => ?_) (fun c150 => ?_)
    · refine xg_iconst hC dX11_holdsBond_486 ?_
      refine xg_goto hC 491 dX11_holdsBond_487 rfl ?_
      exact xg_zret hC hQ (by decide) dX11_holdsBond_491
    refine xg_iconst hC dX11_holdsBond_490 ?_
    exact xg_zret hC hQ (by decide) dX11_holdsBond_491
  refine xg_iconst hC dX11_holdsBond_486 ?_
  refine xg_goto hC 491 dX11_holdsBond_487 rfl ?_
  exact xg_zret hC hQ (by decide) dX11_holdsBond_491
theorem w_X11_holdsBond_j427 {X : xm_X} (hC : xm_C X yX11_holdsBond.cls cX11_holdsBond 9 4 0 0) (hQ : xm_Rt X 2 (some .boolean) 0 0) (hI : xx_I X = xm_I)   (σ : xm_Mem) (x2 : Int) (x3 : Int) (x4 : Int) (x6 : Int) (h2 : xm_in x2) (h3 : xm_in x3) (h4 : xm_in x4) (h6 : xm_in x6) : xm_V X 0 0 (f_X11_holdsBond_j427  σ x2 x3 x4 x6) σ 427 [(0, .ref (xm_B (xx_G X) + 84)), (2, .int (xm_J x2)), (3, .int (xm_J x3)), (4, .int (xm_J x4)), (6, .int (xm_J x6))] [] := by
  unfold f_X11_holdsBond_j427
  refine xg_iload_n hC dX11_holdsBond_427 rfl ?_
  refine xg_iconst hC dX11_holdsBond_428 ?_
  refine xg_icmp_lt hC h3 (xm_inc _ rfl) 451 dX11_holdsBond_429 rfl (fun c135 => ?_) (fun c136 => ?_)
  · exact xg_pick [0, 1, 2, 4] rfl (w_X11_holdsBond_j451 hC hQ hI σ x2 x3 x6 h2 h3 h6)
  refine xg_iload hC dX11_holdsBond_432 rfl ?_
  refine xg_aload_n hC dX11_holdsBond_434 rfl ?_
  refine xg_getW hC (b := 87) (xm_hK hI rfl) rfl (xm_wK hI rfl) (by decide) xl_F_X11_31 dX11_holdsBond_435 ?_
  refine xg_aload_n hC dX11_holdsBond_438 rfl ?_
  refine xg_getW hC (b := 94) (xm_hK hI rfl) rfl (xm_wK hI rfl) (by decide) xl_F_X11_25 dX11_holdsBond_439 ?_
  refine xg_iload hC dX11_holdsBond_442 rfl ?_
  refine xg_iald hC (xm_hK hI rfl) rfl h6 dX11_holdsBond_444 (fun b151 k152 => ?_)
  refine xg_vI k152 (fun v153 k154 => ?_)
  refine xg_iald hC (xm_hK hI rfl) rfl k154 dX11_holdsBond_445 (fun b155 k156 => ?_)
  refine xg_icmp_ge hC h4 k156 451 dX11_holdsBond_446 rfl (fun c157 => ?_) (fun c158 => ?_)
  · refine xg_iconst hC dX11_holdsBond_449 ?_
    exact xg_zret hC hQ (by decide) dX11_holdsBond_450
  exact xg_pick [0, 1, 2, 4] rfl (w_X11_holdsBond_j451 hC hQ hI σ x2 x3 x6 h2 h3 h6)
theorem w_X11_holdsBond_j524 {X : xm_X} (hC : xm_C X yX11_holdsBond.cls cX11_holdsBond 9 4 0 0) (hQ : xm_Rt X 2 (some .boolean) 0 0) (hI : xx_I X = xm_I)   (σ : xm_Mem) (s0 : Int) (s1 : Int) (x2 : Int) (g0 : 0 ≤ s0 ∧ s0 ≤ 1) (g1 : 0 ≤ s1 ∧ s1 ≤ 1) (h2 : xm_in x2) : xm_V X 0 0 (f_X11_holdsBond_j524  σ s0 s1 x2) σ 524 [(0, .ref (xm_B (xx_G X) + 84)), (2, .int (xm_J x2))] [.int (xm_J s0), .int (xm_J s1)] := by
  unfold f_X11_holdsBond_j524
  refine xg_icmp_ne hC (xm_in01 g1) (xm_in01 g0) 539 dX11_holdsBond_524 rfl (fun c177 => ?_) (fun c178 => ?_)
  · refine xg_aload_n hC dX11_holdsBond_527 rfl ?_
    refine xg_iload_n hC dX11_holdsBond_528 rfl ?_
    refine xg_callV hC (ci := 10) (w_X11_isOnlyOfItsDay hI σ x2 h2) xl_M_X11_104 xl_V_X11_isOnlyOfItsDay (xm_hK (a := 84) (kd := 0) (n := 10) hI rfl).2 ((xm_hK (a := 84) (kd := 0) (n := 10) hI rfl).1 _) (by decide) rfl (by decide) ⟨by decide, by decide⟩ dX11_holdsBond_529 (rest := []) rfl rfl (Nat.le_of_ble_eq_true rfl) rfl rfl (st2 := fun o => .int (xm_J o.2) :: []) (fun _ => rfl) (fun o179 k180 => ?_)
    refine xg_if_eq hC (xm_in01 k180) 539 dX11_holdsBond_532 rfl (fun c181 => ?_) (fun c182 => ?_)
    · refine xg_iconst hC dX11_holdsBond_539 ?_
      exact xg_zret hC hQ (by decide) dX11_holdsBond_540
    refine xg_iconst hC dX11_holdsBond_535 ?_
    refine xg_goto hC 540 dX11_holdsBond_536 rfl ?_
    exact xg_zret hC hQ (by decide) dX11_holdsBond_540
  refine xg_iconst hC dX11_holdsBond_539 ?_
  exact xg_zret hC hQ (by decide) dX11_holdsBond_540
theorem w_X11_holdsBond_j513 {X : xm_X} (hC : xm_C X yX11_holdsBond.cls cX11_holdsBond 9 4 0 0) (hQ : xm_Rt X 2 (some .boolean) 0 0) (hI : xx_I X = xm_I)   (σ : xm_Mem) (s0 : Int) (x2 : Int) (x3 : Int) (g0 : 0 ≤ s0 ∧ s0 ≤ 1) (h2 : xm_in x2) (h3 : xm_in x3) : xm_V X 0 0 (f_X11_holdsBond_j513  σ s0 x2 x3) σ 513 [(0, .ref (xm_B (xx_G X) + 84)), (2, .int (xm_J x2)), (3, .int (xm_J x3))] [.int (xm_J s0)] := by
  unfold f_X11_holdsBond_j513
  refine xg_iload_n hC dX11_holdsBond_513 rfl ?_
  refine xg_bipush hC dX11_holdsBond_514 (by decide) ?_
  refine xg_icmp_ne hC h3 (xm_inc _ rfl) 523 dX11_holdsBond_516 rfl (fun c175 => ?_) (fun c176 => ?_)
  · refine xg_iconst hC dX11_holdsBond_519 ?_
    refine xg_goto hC 524 dX11_holdsBond_520 rfl ?_
    exact xg_pick [0, 1] rfl (w_X11_holdsBond_j524 hC hQ hI σ (1 : Int) s0 x2 (by decide) g0 h2)
  refine xg_iconst hC dX11_holdsBond_523 ?_
  exact xg_pick [0, 1] rfl (w_X11_holdsBond_j524 hC hQ hI σ (0 : Int) s0 x2 (by decide) g0 h2)
theorem w_X11_holdsBond_j54 {X : xm_X} (hC : xm_C X yX11_holdsBond.cls cX11_holdsBond 9 4 0 0) (hQ : xm_Rt X 2 (some .boolean) 0 0) (hI : xx_I X = xm_I)   (σ : xm_Mem) (s0 : Int) (x1 : Int) (x2 : Int) (x3 : Int) (x4 : Int) (x5 : Int) (x6 : Int) (x7 : Int) (g0 : 0 ≤ s0 ∧ s0 ≤ 1) (h1 : xm_in x1) (h2 : xm_in x2) (h3 : xm_in x3) (h4 : xm_in x4) (h5 : xm_in x5) (h6 : xm_in x6) (h7 : xm_in x7) : xm_V X 0 0 (f_X11_holdsBond_j54  σ s0 x1 x2 x3 x4 x5 x6 x7) σ 54 [(0, .ref (xm_B (xx_G X) + 84)), (1, .int (xm_J x1)), (2, .int (xm_J x2)), (3, .int (xm_J x3)), (4, .int (xm_J x4)), (5, .int (xm_J x5)), (6, .int (xm_J x6)), (7, .int (xm_J x7))] [.int (xm_J s0)] := by
  unfold f_X11_holdsBond_j54
  refine xg_istore hC (l' := [(8, .int (xm_J s0)), (0, .ref (xm_B (xx_G X) + 84)), (1, .int (xm_J x1)), (2, .int (xm_J x2)), (3, .int (xm_J x3)), (4, .int (xm_J x4)), (5, .int (xm_J x5)), (6, .int (xm_J x6)), (7, .int (xm_J x7))]) dX11_holdsBond_54 (by decide) rfl ?_
  refine xg_iload_n hC dX11_holdsBond_56 rfl ?_
  refine xg_ite (fun e23 => xg_tswIn hC 1 104 e23 dX11_holdsBond_57 (xm_inc _ rfl) (by decide) (by decide) rfl rfl ?_) (fun n24 => ?_)
  · refine xg_iload_n hC dX11_holdsBond_104 rfl ?_
    refine xg_if_ne hC h3 142 dX11_holdsBond_105 rfl (fun c25 => ?_) (fun c26 => ?_)
    · refine xg_iload hC dX11_holdsBond_108 rfl ?_
      refine xg_if_lt hC h6 122 dX11_holdsBond_110 rfl (fun c27 => ?_) (fun c28 => ?_)
      · exact xg_pick [1, 8] rfl (w_X11_holdsBond_j122 hC hQ hI σ x7 h7)
      refine xg_aload_n hC dX11_holdsBond_113 rfl ?_
      refine xg_iload hC dX11_holdsBond_114 rfl ?_
      refine xg_callV hC (ci := 10) (w_X11_isMale hI σ x6 h6) xl_M_X11_85 xl_V_X11_isMale (xm_hK (a := 84) (kd := 0) (n := 10) hI rfl).2 ((xm_hK (a := 84) (kd := 0) (n := 10) hI rfl).1 _) (by decide) rfl (by decide) ⟨by decide, by decide⟩ dX11_holdsBond_116 (rest := []) rfl rfl (Nat.le_of_ble_eq_true rfl) rfl rfl (st2 := fun o => .int (xm_J o.2) :: []) (fun _ => rfl) (fun o35 k36 => ?_)
      refine xg_if_eq hC (xm_in01 k36) 140 dX11_holdsBond_119 rfl (fun c37 => ?_) (fun c38 => ?_)
      · refine xg_iconst hC dX11_holdsBond_140 ?_
        exact xg_zret hC hQ (by decide) dX11_holdsBond_141
      exact xg_pick [1, 8] rfl (w_X11_holdsBond_j122 hC hQ hI o35.1 x7 h7)
    refine xg_iload hC dX11_holdsBond_142 rfl ?_
    refine xg_if_eq hC (xm_in01 g0) 165 dX11_holdsBond_144 rfl (fun c39 => ?_) (fun c40 => ?_)
    · refine xg_iconst hC dX11_holdsBond_165 ?_
      refine xg_goto hC 170 dX11_holdsBond_166 rfl ?_
      exact xg_zret hC hQ (by decide) dX11_holdsBond_170
    refine xg_aload_n hC dX11_holdsBond_147 rfl ?_
    refine xg_iload hC dX11_holdsBond_148 rfl ?_
    refine xg_callV hC (ci := 10) (w_X11_isMale hI σ x5 h5) xl_M_X11_85 xl_V_X11_isMale (xm_hK (a := 84) (kd := 0) (n := 10) hI rfl).2 ((xm_hK (a := 84) (kd := 0) (n := 10) hI rfl).1 _) (by decide) rfl (by decide) ⟨by decide, by decide⟩ dX11_holdsBond_150 (rest := []) rfl rfl (Nat.le_of_ble_eq_true rfl) rfl rfl (st2 := fun o => .int (xm_J o.2) :: []) (fun _ => rfl) (fun o41 k42 => ?_)
    refine xg_if_eq hC (xm_in01 k42) 169 dX11_holdsBond_153 rfl (fun c43 => ?_) (fun c44 => ?_)
    · refine xg_iconst hC dX11_holdsBond_169 ?_
      exact xg_zret hC hQ (by decide) dX11_holdsBond_170
    refine xg_aload_n hC dX11_holdsBond_156 rfl ?_
    refine xg_iload hC dX11_holdsBond_157 rfl ?_
    refine xg_callV hC (ci := 10) (w_X11_isMale hI o41.1 x6 h6) xl_M_X11_85 xl_V_X11_isMale (xm_hK (a := 84) (kd := 0) (n := 10) hI rfl).2 ((xm_hK (a := 84) (kd := 0) (n := 10) hI rfl).1 _) (by decide) rfl (by decide) ⟨by decide, by decide⟩ dX11_holdsBond_159 (rest := []) rfl rfl (Nat.le_of_ble_eq_true rfl) rfl rfl (st2 := fun o => .int (xm_J o.2) :: []) (fun _ => rfl) (fun o45 k46 => ?_)
    refine xg_if_ne hC (xm_in01 k46) 169 dX11_holdsBond_162 rfl (fun c47 => ?_) (fun c48 => ?_)
    · refine xg_iconst hC dX11_holdsBond_165 ?_
      refine xg_goto hC 170 dX11_holdsBond_166 rfl ?_
      exact xg_zret hC hQ (by decide) dX11_holdsBond_170
    refine xg_iconst hC dX11_holdsBond_169 ?_
    exact xg_zret hC hQ (by decide) dX11_holdsBond_170
  refine xg_ite (fun e49 => xg_tswIn hC 2 171 e49 dX11_holdsBond_57 (xm_inc _ rfl) (by decide) (by decide) rfl rfl ?_) (fun n50 => ?_)
  · refine xg_iload_n hC dX11_holdsBond_171 rfl ?_
    refine xg_iconst hC dX11_holdsBond_172 ?_
    refine xg_icmp_ne hC h3 (xm_inc _ rfl) 195 dX11_holdsBond_173 rfl (fun c51 => ?_) (fun c52 => ?_)
    · refine xg_iload hC dX11_holdsBond_176 rfl ?_
      refine xg_aload_n hC dX11_holdsBond_178 rfl ?_
      refine xg_iload hC dX11_holdsBond_179 rfl ?_
      refine xg_callV hC (ci := 10) (w_X11_bornOn hI σ x5 h5) xl_M_X11_53 xl_V_X11_bornOn (xm_hK (a := 84) (kd := 0) (n := 10) hI rfl).2 ((xm_hK (a := 84) (kd := 0) (n := 10) hI rfl).1 _) (by decide) rfl (by decide) ⟨by decide, by decide⟩ dX11_holdsBond_181 (rest := [.int (xm_J x4)]) rfl rfl (Nat.le_of_ble_eq_true rfl) rfl rfl (st2 := fun o => .int (xm_J o.2) :: [.int (xm_J x4)]) (fun _ => rfl) (fun o53 k54 => ?_)
      refine xg_icmp_lt hC h4 k54 199 dX11_holdsBond_184 rfl (fun c55 => ?_) (fun c56 => ?_)
      · refine xg_iconst hC dX11_holdsBond_199 ?_
        exact xg_zret hC hQ (by decide) dX11_holdsBond_200
      refine xg_aload_n hC dX11_holdsBond_187 rfl ?_
      refine xg_iload_n hC dX11_holdsBond_188 rfl ?_
      refine xg_callV hC (ci := 10) (w_X11_isOnce hI o53.1 x2 h2) xl_M_X11_89 xl_V_X11_isOnce (xm_hK (a := 84) (kd := 0) (n := 10) hI rfl).2 ((xm_hK (a := 84) (kd := 0) (n := 10) hI rfl).1 _) (by decide) rfl (by decide) ⟨by decide, by decide⟩ dX11_holdsBond_189 (rest := []) rfl rfl (Nat.le_of_ble_eq_true rfl) rfl rfl (st2 := fun o => .int (xm_J o.2) :: []) (fun _ => rfl) (fun o57 k58 => ?_)
      refine xg_if_eq hC (xm_in01 k58) 199 dX11_holdsBond_192 rfl (fun c59 => ?_) (fun c60 => ?_)
      · refine xg_iconst hC dX11_holdsBond_199 ?_
        exact xg_zret hC hQ (by decide) dX11_holdsBond_200
      refine xg_iconst hC dX11_holdsBond_195 ?_
      refine xg_goto hC 200 dX11_holdsBond_196 rfl ?_
      exact xg_zret hC hQ (by decide) dX11_holdsBond_200
    refine xg_iconst hC dX11_holdsBond_195 ?_
    refine xg_goto hC 200 dX11_holdsBond_196 rfl ?_
    exact xg_zret hC hQ (by decide) dX11_holdsBond_200
  refine xg_ite (fun e61 => xg_tswIn hC 3 201 e61 dX11_holdsBond_57 (xm_inc _ rfl) (by decide) (by decide) rfl rfl ?_) (fun n62 => ?_)
  · refine xg_iload_n hC dX11_holdsBond_201 rfl ?_
    refine xg_if_ne hC h3 232 dX11_holdsBond_202 rfl (fun c63 => ?_) (fun c64 => ?_)
    · refine xg_iload hC dX11_holdsBond_205 rfl ?_
      refine xg_if_lt hC h7 232 dX11_holdsBond_207 rfl (fun c65 => ?_) (fun c66 => ?_)
      · refine xg_iconst hC dX11_holdsBond_232 ?_
        refine xg_goto hC 237 dX11_holdsBond_233 rfl ?_
        exact xg_zret hC hQ (by decide) dX11_holdsBond_237
      refine xg_aload_n hC dX11_holdsBond_210 rfl ?_
      refine xg_iload hC dX11_holdsBond_211 rfl ?_
      refine xg_iload hC dX11_holdsBond_213 rfl ?_
      refine xg_callV hC (ci := 10) (w_X11_isOfAge hI σ x7 x4 h7 h4) xl_M_X11_92 xl_V_X11_isOfAge (xm_hK (a := 84) (kd := 0) (n := 10) hI rfl).2 ((xm_hK (a := 84) (kd := 0) (n := 10) hI rfl).1 _) (by decide) rfl (by decide) ⟨by decide, by decide⟩ dX11_holdsBond_215 (rest := []) rfl rfl (Nat.le_of_ble_eq_true rfl) rfl rfl (st2 := fun o => .int (xm_J o.2) :: []) (fun _ => rfl) (fun o67 k68 => ?_)
      refine xg_if_eq hC (xm_in01 k68) 236 dX11_holdsBond_218 rfl (fun c69 => ?_) (fun c70 => ?_)
      · refine xg_iconst hC dX11_holdsBond_236 ?_
        exact xg_zret hC hQ (by decide) dX11_holdsBond_237
      refine xg_aload_n hC dX11_holdsBond_221 rfl ?_
      refine xg_iload hC dX11_holdsBond_222 rfl ?_
      refine xg_iload hC dX11_holdsBond_224 rfl ?_
      refine xg_callV hC (ci := 10) (w_X11_isDeadAhead hI o67.1 x7 x4 h7 h4) xl_M_X11_95 xl_V_X11_isDeadAhead (xm_hK (a := 84) (kd := 0) (n := 10) hI rfl).2 ((xm_hK (a := 84) (kd := 0) (n := 10) hI rfl).1 _) (by decide) rfl (by decide) ⟨by decide, by decide⟩ dX11_holdsBond_226 (rest := []) rfl rfl (Nat.le_of_ble_eq_true rfl) rfl rfl (st2 := fun o => .int (xm_J o.2) :: []) (fun _ => rfl) (fun o71 k72 => ?_)
      refine xg_if_ne hC (xm_in01 k72) 236 dX11_holdsBond_229 rfl (fun c73 => ?_) (fun c74 => ?_)
      · refine xg_iconst hC dX11_holdsBond_232 ?_
        refine xg_goto hC 237 dX11_holdsBond_233 rfl ?_
        exact xg_zret hC hQ (by decide) dX11_holdsBond_237
      refine xg_iconst hC dX11_holdsBond_236 ?_
      exact xg_zret hC hQ (by decide) dX11_holdsBond_237
    refine xg_iconst hC dX11_holdsBond_232 ?_
    refine xg_goto hC 237 dX11_holdsBond_233 rfl ?_
    exact xg_zret hC hQ (by decide) dX11_holdsBond_237
  refine xg_ite (fun e75 => xg_tswIn hC 4 238 e75 dX11_holdsBond_57 (xm_inc _ rfl) (by decide) (by decide) rfl rfl ?_) (fun n76 => ?_)
  · refine xg_iload_n hC dX11_holdsBond_238 rfl ?_
    refine xg_if_ne hC h3 273 dX11_holdsBond_239 rfl (fun c77 => ?_) (fun c78 => ?_)
    · refine xg_iload hC dX11_holdsBond_242 rfl ?_
      refine xg_if_lt hC h6 273 dX11_holdsBond_244 rfl (fun c79 => ?_) (fun c80 => ?_)
      · refine xg_iconst hC dX11_holdsBond_273 ?_
        refine xg_goto hC 278 dX11_holdsBond_274 rfl ?_
        exact xg_zret hC hQ (by decide) dX11_holdsBond_278
      refine xg_aload_n hC dX11_holdsBond_247 rfl ?_
      refine xg_iload hC dX11_holdsBond_248 rfl ?_
      refine xg_iload hC dX11_holdsBond_250 rfl ?_
      refine xg_callV hC (ci := 10) (w_X11_isOfAge hI σ x6 x4 h6 h4) xl_M_X11_92 xl_V_X11_isOfAge (xm_hK (a := 84) (kd := 0) (n := 10) hI rfl).2 ((xm_hK (a := 84) (kd := 0) (n := 10) hI rfl).1 _) (by decide) rfl (by decide) ⟨by decide, by decide⟩ dX11_holdsBond_252 (rest := []) rfl rfl (Nat.le_of_ble_eq_true rfl) rfl rfl (st2 := fun o => .int (xm_J o.2) :: []) (fun _ => rfl) (fun o81 k82 => ?_)
      refine xg_if_eq hC (xm_in01 k82) 277 dX11_holdsBond_255 rfl (fun c83 => ?_) (fun c84 => ?_)
      · refine xg_iconst hC dX11_holdsBond_277 ?_
        exact xg_zret hC hQ (by decide) dX11_holdsBond_278
      refine xg_aload_n hC dX11_holdsBond_258 rfl ?_
      refine xg_iload hC dX11_holdsBond_259 rfl ?_
      refine xg_iload hC dX11_holdsBond_261 rfl ?_
      refine xg_sipush hC dX11_holdsBond_263 (by decide) ?_
      refine xg_isub hC dX11_holdsBond_266 ?_
      refine xg_callV hC (ci := 10) (w_X11_isDeadAhead hI o81.1 x6 (xm_w (x4 - (300 : Int))) h6 (xm_w_in _)) xl_M_X11_95 xl_V_X11_isDeadAhead (xm_hK (a := 84) (kd := 0) (n := 10) hI rfl).2 ((xm_hK (a := 84) (kd := 0) (n := 10) hI rfl).1 _) (by decide) rfl (by decide) ⟨by decide, by decide⟩ dX11_holdsBond_267 (rest := []) rfl rfl (Nat.le_of_ble_eq_true rfl) rfl rfl (st2 := fun o => .int (xm_J o.2) :: []) (fun _ => rfl) (fun o85 k86 => ?_)
      refine xg_if_ne hC (xm_in01 k86) 277 dX11_holdsBond_270 rfl (fun c87 => ?_) (fun c88 => ?_)
      · refine xg_iconst hC dX11_holdsBond_273 ?_
        refine xg_goto hC 278 dX11_holdsBond_274 rfl ?_
        exact xg_zret hC hQ (by decide) dX11_holdsBond_278
      refine xg_iconst hC dX11_holdsBond_277 ?_
      exact xg_zret hC hQ (by decide) dX11_holdsBond_278
    refine xg_iconst hC dX11_holdsBond_273 ?_
    refine xg_goto hC 278 dX11_holdsBond_274 rfl ?_
    exact xg_zret hC hQ (by decide) dX11_holdsBond_278
  refine xg_ite (fun e89 => xg_tswIn hC 5 279 e89 dX11_holdsBond_57 (xm_inc _ rfl) (by decide) (by decide) rfl rfl ?_) (fun n90 => ?_)
  · refine xg_iload hC dX11_holdsBond_279 rfl ?_
    refine xg_if_eq hC (xm_in01 g0) 328 dX11_holdsBond_281 rfl (fun c91 => ?_) (fun c92 => ?_)
    · refine xg_iconst hC dX11_holdsBond_328 ?_
      refine xg_goto hC 333 dX11_holdsBond_329 rfl ?_
      exact xg_zret hC hQ (by decide) dX11_holdsBond_333
    refine xg_aload_n hC dX11_holdsBond_284 rfl ?_
    refine xg_iload hC dX11_holdsBond_285 rfl ?_
    refine xg_iload hC dX11_holdsBond_287 rfl ?_
    refine xg_callV hC (ci := 10) (w_X11_isOfAge hI σ x5 x4 h5 h4) xl_M_X11_92 xl_V_X11_isOfAge (xm_hK (a := 84) (kd := 0) (n := 10) hI rfl).2 ((xm_hK (a := 84) (kd := 0) (n := 10) hI rfl).1 _) (by decide) rfl (by decide) ⟨by decide, by decide⟩ dX11_holdsBond_289 (rest := []) rfl rfl (Nat.le_of_ble_eq_true rfl) rfl rfl (st2 := fun o => .int (xm_J o.2) :: []) (fun _ => rfl) (fun o93 k94 => ?_)
    refine xg_if_eq hC (xm_in01 k94) 332 dX11_holdsBond_292 rfl (fun c95 => ?_) (fun c96 => ?_)
    · refine xg_iconst hC dX11_holdsBond_332 ?_
      exact xg_zret hC hQ (by decide) dX11_holdsBond_333
    refine xg_aload_n hC dX11_holdsBond_295 rfl ?_
    refine xg_iload hC dX11_holdsBond_296 rfl ?_
    refine xg_iload hC dX11_holdsBond_298 rfl ?_
    refine xg_callV hC (ci := 10) (w_X11_isOfAge hI o93.1 x6 x4 h6 h4) xl_M_X11_92 xl_V_X11_isOfAge (xm_hK (a := 84) (kd := 0) (n := 10) hI rfl).2 ((xm_hK (a := 84) (kd := 0) (n := 10) hI rfl).1 _) (by decide) rfl (by decide) ⟨by decide, by decide⟩ dX11_holdsBond_300 (rest := []) rfl rfl (Nat.le_of_ble_eq_true rfl) rfl rfl (st2 := fun o => .int (xm_J o.2) :: []) (fun _ => rfl) (fun o97 k98 => ?_)
    refine xg_if_eq hC (xm_in01 k98) 332 dX11_holdsBond_303 rfl (fun c99 => ?_) (fun c100 => ?_)
    · refine xg_iconst hC dX11_holdsBond_332 ?_
      exact xg_zret hC hQ (by decide) dX11_holdsBond_333
    refine xg_aload_n hC dX11_holdsBond_306 rfl ?_
    refine xg_iload hC dX11_holdsBond_307 rfl ?_
    refine xg_iload hC dX11_holdsBond_309 rfl ?_
    refine xg_callV hC (ci := 10) (w_X11_isDeadAhead hI o97.1 x5 x4 h5 h4) xl_M_X11_95 xl_V_X11_isDeadAhead (xm_hK (a := 84) (kd := 0) (n := 10) hI rfl).2 ((xm_hK (a := 84) (kd := 0) (n := 10) hI rfl).1 _) (by decide) rfl (by decide) ⟨by decide, by decide⟩ dX11_holdsBond_311 (rest := []) rfl rfl (Nat.le_of_ble_eq_true rfl) rfl rfl (st2 := fun o => .int (xm_J o.2) :: []) (fun _ => rfl) (fun o101 k102 => ?_)
    refine xg_if_ne hC (xm_in01 k102) 332 dX11_holdsBond_314 rfl (fun c103 => ?_) (fun c104 => ?_)
    · refine xg_aload_n hC dX11_holdsBond_317 rfl ?_
      refine xg_iload hC dX11_holdsBond_318 rfl ?_
      refine xg_iload hC dX11_holdsBond_320 rfl ?_
      refine xg_callV hC (ci := 10) (w_X11_isDeadAhead hI o101.1 x6 x4 h6 h4) xl_M_X11_95 xl_V_X11_isDeadAhead (xm_hK (a := 84) (kd := 0) (n := 10) hI rfl).2 ((xm_hK (a := 84) (kd := 0) (n := 10) hI rfl).1 _) (by decide) rfl (by decide) ⟨by decide, by decide⟩ dX11_holdsBond_322 (rest := []) rfl rfl (Nat.le_of_ble_eq_true rfl) rfl rfl (st2 := fun o => .int (xm_J o.2) :: []) (fun _ => rfl) (fun o105 k106 => ?_)
      refine xg_if_ne hC (xm_in01 k106) 332 dX11_holdsBond_325 rfl (fun c107 => ?_) (fun c108 => ?_)
      · refine xg_iconst hC dX11_holdsBond_328 ?_
        refine xg_goto hC 333 dX11_holdsBond_329 rfl ?_
        exact xg_zret hC hQ (by decide) dX11_holdsBond_333
      refine xg_iconst hC dX11_holdsBond_332 ?_
      exact xg_zret hC hQ (by decide) dX11_holdsBond_333
    refine xg_iconst hC dX11_holdsBond_332 ?_
    exact xg_zret hC hQ (by decide) dX11_holdsBond_333
  refine xg_ite (fun e109 => xg_tswIn hC 6 334 e109 dX11_holdsBond_57 (xm_inc _ rfl) (by decide) (by decide) rfl rfl ?_) (fun n110 => ?_)
  · refine xg_iload hC dX11_holdsBond_334 rfl ?_
    refine xg_if_eq hC (xm_in01 g0) 367 dX11_holdsBond_336 rfl (fun c111 => ?_) (fun c112 => ?_)
    · refine xg_iconst hC dX11_holdsBond_367 ?_
      refine xg_goto hC 372 dX11_holdsBond_368 rfl ?_
      exact xg_zret hC hQ (by decide) dX11_holdsBond_372
    refine xg_aload_n hC dX11_holdsBond_339 rfl ?_
    refine xg_iload_n hC dX11_holdsBond_340 rfl ?_
    refine xg_callV hC (ci := 10) (w_X11_ahead hI σ x2 h2) xl_M_X11_98 xl_V_X11_ahead (xm_hK (a := 84) (kd := 0) (n := 10) hI rfl).2 ((xm_hK (a := 84) (kd := 0) (n := 10) hI rfl).1 _) (by decide) rfl (by decide) ⟨by decide, by decide⟩ dX11_holdsBond_341 (rest := []) rfl rfl (Nat.le_of_ble_eq_true rfl) rfl rfl (st2 := fun o => .int (xm_J o.2) :: []) (fun _ => rfl) (fun o113 k114 => ?_)
    refine xg_iconst hC dX11_holdsBond_344 ?_
    refine xg_irem hC dX11_holdsBond_345 (by decide) ?_
    refine xg_if_ne hC (xm_rem_in _ _) 353 dX11_holdsBond_346 rfl (fun c115 => ?_) (fun c116 => ?_)
    · refine xg_iconst hC dX11_holdsBond_349 ?_
      refine xg_goto hC 354 dX11_holdsBond_350 rfl ?_
      exact xg_pick [4] rfl (w_X11_holdsBond_j354 hC hQ hI o113.1 (1 : Int) x3 (by decide) h3)
    refine xg_iconst hC dX11_holdsBond_353 ?_
    exact xg_pick [4] rfl (w_X11_holdsBond_j354 hC hQ hI o113.1 (0 : Int) x3 (by decide) h3)
  refine xg_ite (fun e123 => xg_tswIn hC 7 373 e123 dX11_holdsBond_57 (xm_inc _ rfl) (by decide) (by decide) rfl rfl ?_) (fun n124 => ?_)
  · refine xg_iload_n hC dX11_holdsBond_373 rfl ?_
    refine xg_iconst hC dX11_holdsBond_374 ?_
    refine xg_icmp_ne hC h3 (xm_inc _ rfl) 386 dX11_holdsBond_375 rfl (fun c125 => ?_) (fun c126 => ?_)
    · refine xg_aload_n hC dX11_holdsBond_378 rfl ?_
      refine xg_iload_n hC dX11_holdsBond_379 rfl ?_
      refine xg_callV hC (ci := 10) (w_X11_isAlone hI σ x2 h2) xl_M_X11_101 xl_V_X11_isAlone (xm_hK (a := 84) (kd := 0) (n := 10) hI rfl).2 ((xm_hK (a := 84) (kd := 0) (n := 10) hI rfl).1 _) (by decide) rfl (by decide) ⟨by decide, by decide⟩ dX11_holdsBond_380 (rest := []) rfl rfl (Nat.le_of_ble_eq_true rfl) rfl rfl (st2 := fun o => .int (xm_J o.2) :: []) (fun _ => rfl) (fun o127 k128 => ?_)
      refine xg_if_eq hC (xm_in01 k128) 390 dX11_holdsBond_383 rfl (fun c129 => ?_) (fun c130 => ?_)
      · refine xg_iconst hC dX11_holdsBond_390 ?_
        exact xg_zret hC hQ (by decide) dX11_holdsBond_391
      refine xg_iconst hC dX11_holdsBond_386 ?_
      refine xg_goto hC 391 dX11_holdsBond_387 rfl ?_
      exact xg_zret hC hQ (by decide) dX11_holdsBond_391
    refine xg_iconst hC dX11_holdsBond_386 ?_
    refine xg_goto hC 391 dX11_holdsBond_387 rfl ?_
    exact xg_zret hC hQ (by decide) dX11_holdsBond_391
  refine xg_ite (fun e131 => xg_tswIn hC 8 392 e131 dX11_holdsBond_57 (xm_inc _ rfl) (by decide) (by decide) rfl rfl ?_) (fun n132 => ?_)
  · refine xg_iload_n hC dX11_holdsBond_392 rfl ?_
    refine xg_iconst hC dX11_holdsBond_393 ?_
    refine xg_icmp_lt hC h3 (xm_inc _ rfl) 427 dX11_holdsBond_394 rfl (fun c133 => ?_) (fun c134 => ?_)
    · exact xg_pick [1, 3, 4, 5, 7] rfl (w_X11_holdsBond_j427 hC hQ hI σ x2 x3 x4 x6 h2 h3 h4 h6)
    refine xg_iload_n hC dX11_holdsBond_397 rfl ?_
    refine xg_bipush hC dX11_holdsBond_398 (by decide) ?_
    refine xg_icmp_gt hC h3 (xm_inc _ rfl) 427 dX11_holdsBond_400 rfl (fun c159 => ?_) (fun c160 => ?_)
    · exact xg_pick [1, 3, 4, 5, 7] rfl (w_X11_holdsBond_j427 hC hQ hI σ x2 x3 x4 x6 h2 h3 h4 h6)
    refine xg_aload_n hC dX11_holdsBond_403 rfl ?_
    refine xg_iload hC dX11_holdsBond_404 rfl ?_
    refine xg_callV hC (ci := 10) (w_X11_bornOn hI σ x5 h5) xl_M_X11_53 xl_V_X11_bornOn (xm_hK (a := 84) (kd := 0) (n := 10) hI rfl).2 ((xm_hK (a := 84) (kd := 0) (n := 10) hI rfl).1 _) (by decide) rfl (by decide) ⟨by decide, by decide⟩ dX11_holdsBond_406 (rest := []) rfl rfl (Nat.le_of_ble_eq_true rfl) rfl rfl (st2 := fun o => .int (xm_J o.2) :: []) (fun _ => rfl) (fun o161 k162 => ?_)
    refine xg_iload hC dX11_holdsBond_409 rfl ?_
    refine xg_icmp_gt hC k162 h4 425 dX11_holdsBond_411 rfl (fun c163 => ?_) (fun c164 => ?_)
    · refine xg_iconst hC dX11_holdsBond_425 ?_
      exact xg_zret hC hQ (by decide) dX11_holdsBond_426
    refine xg_aload_n hC dX11_holdsBond_414 rfl ?_
    refine xg_iload hC dX11_holdsBond_415 rfl ?_
    refine xg_iload hC dX11_holdsBond_417 rfl ?_
    refine xg_callV hC (ci := 10) (w_X11_isDeadAhead hI o161.1 x5 x4 h5 h4) xl_M_X11_95 xl_V_X11_isDeadAhead (xm_hK (a := 84) (kd := 0) (n := 10) hI rfl).2 ((xm_hK (a := 84) (kd := 0) (n := 10) hI rfl).1 _) (by decide) rfl (by decide) ⟨by decide, by decide⟩ dX11_holdsBond_419 (rest := []) rfl rfl (Nat.le_of_ble_eq_true rfl) rfl rfl (st2 := fun o => .int (xm_J o.2) :: []) (fun _ => rfl) (fun o165 k166 => ?_)
    refine xg_if_eq hC (xm_in01 k166) 427 dX11_holdsBond_422 rfl (fun c167 => ?_) (fun c168 => ?_)
    · exact xg_pick [1, 3, 4, 5, 7] rfl (w_X11_holdsBond_j427 hC hQ hI o165.1 x2 x3 x4 x6 h2 h3 h4 h6)
    refine xg_iconst hC dX11_holdsBond_425 ?_
    exact xg_zret hC hQ (by decide) dX11_holdsBond_426
  refine xg_tswOut hC 492 dX11_holdsBond_57 h1 (by omega) rfl ?_
  refine xg_iload_n hC dX11_holdsBond_492 rfl ?_
  refine xg_bipush hC dX11_holdsBond_493 (by decide) ?_
  refine xg_icmp_lt hC h3 (xm_inc _ rfl) 535 dX11_holdsBond_495 rfl (fun c169 => ?_) (fun c170 => ?_)
  · refine xg_iconst hC dX11_holdsBond_535 ?_
    refine xg_goto hC 540 dX11_holdsBond_536 rfl ?_
    exact xg_zret hC hQ (by decide) dX11_holdsBond_540
  refine xg_aload_n hC dX11_holdsBond_498 rfl ?_
  refine xg_iload_n hC dX11_holdsBond_499 rfl ?_
  refine xg_callV hC (ci := 10) (w_X11_ahead hI σ x2 h2) xl_M_X11_98 xl_V_X11_ahead (xm_hK (a := 84) (kd := 0) (n := 10) hI rfl).2 ((xm_hK (a := 84) (kd := 0) (n := 10) hI rfl).1 _) (by decide) rfl (by decide) ⟨by decide, by decide⟩ dX11_holdsBond_500 (rest := []) rfl rfl (Nat.le_of_ble_eq_true rfl) rfl rfl (st2 := fun o => .int (xm_J o.2) :: []) (fun _ => rfl) (fun o171 k172 => ?_)
  refine xg_iconst hC dX11_holdsBond_503 ?_
  refine xg_irem hC dX11_holdsBond_504 (by decide) ?_
  refine xg_if_ne hC (xm_rem_in _ _) 512 dX11_holdsBond_505 rfl (fun c173 => ?_) (fun c174 => ?_)
  · refine xg_iconst hC dX11_holdsBond_508 ?_
    refine xg_goto hC 513 dX11_holdsBond_509 rfl ?_
    exact xg_pick [1, 3, 4] rfl (w_X11_holdsBond_j513 hC hQ hI o171.1 (1 : Int) x2 x3 (by decide) h2 h3)
  refine xg_iconst hC dX11_holdsBond_512 ?_
  exact xg_pick [1, 3, 4] rfl (w_X11_holdsBond_j513 hC hQ hI o171.1 (0 : Int) x2 x3 (by decide) h2 h3)
theorem w_X11_holdsBond_j49 {X : xm_X} (hC : xm_C X yX11_holdsBond.cls cX11_holdsBond 9 4 0 0) (hQ : xm_Rt X 2 (some .boolean) 0 0) (hI : xx_I X = xm_I)   (σ : xm_Mem) (x1 : Int) (x2 : Int) (x3 : Int) (x4 : Int) (x5 : Int) (x6 : Int) (x7 : Int) (h1 : xm_in x1) (h2 : xm_in x2) (h3 : xm_in x3) (h4 : xm_in x4) (h5 : xm_in x5) (h6 : xm_in x6) (h7 : xm_in x7) : xm_V X 0 0 (f_X11_holdsBond_j49  σ x1 x2 x3 x4 x5 x6 x7) σ 49 [(0, .ref (xm_B (xx_G X) + 84)), (1, .int (xm_J x1)), (2, .int (xm_J x2)), (3, .int (xm_J x3)), (4, .int (xm_J x4)), (5, .int (xm_J x5)), (6, .int (xm_J x6)), (7, .int (xm_J x7))] [] := by
  unfold f_X11_holdsBond_j49
  refine xg_iconst hC dX11_holdsBond_49 ?_
  refine xg_goto hC 54 dX11_holdsBond_50 rfl ?_
  exact (w_X11_holdsBond_j54 hC hQ hI σ (1 : Int) x1 x2 x3 x4 x5 x6 x7 (by decide) h1 h2 h3 h4 h5 h6 h7)
theorem w_X11_holdsBond {Γ : xm_Gm} {I : xm_Mem → Prop} {la : Launch} (hE : I = xm_I) (σ : xm_Mem) (x1 : Int) (x2 : Int) (h1 : xm_in x1) (h2 : xm_in x2) : ∀ o, f_X11_holdsBond σ x1 x2 = some o → xm_M Γ I la yX11_holdsBond cX11_holdsBond 9 (some .boolean) 4 0 0 [.ref (xm_B Γ + 84), .int (xm_J x1), .int (xm_J x2)] σ 2 o := by
  refine xg_enter (by decide) (by simp [lg_sl, xm_rf_cat, xm_cati, xm_catr, xm_catl]) (fun X hG hI0 hla hC hQ hname => ?_)
  subst hG
  have hI := hI0.trans hE
  clear hI0 hla
  unfold f_X11_holdsBond
  refine xg_pick [0, 1, 2] (l' := [(0, .ref (xm_B (xx_G X) + 84)), (1, .int (xm_J x1)), (2, .int (xm_J x2))]) rfl ?_
  refine xg_aload_n hC dX11_holdsBond_0 rfl ?_
  refine xg_getW hC (b := 86) (xm_hK hI rfl) rfl (xm_wK hI rfl) (by decide) xl_F_X11_43 dX11_holdsBond_1 ?_
  refine xg_iload_n hC dX11_holdsBond_4 rfl ?_
  refine xg_iald hC (xm_hK hI rfl) rfl h2 dX11_holdsBond_5 (fun b1 k2 => ?_)
  refine xg_vI k2 (fun v3 k4 => ?_)
  refine xg_istore_n hC (l' := [(3, .int (xm_J v3)), (0, .ref (xm_B (xx_G X) + 84)), (1, .int (xm_J x1)), (2, .int (xm_J x2))]) dX11_holdsBond_6 (by decide) rfl ?_
  refine xg_aload_n hC dX11_holdsBond_7 rfl ?_
  refine xg_getW hC (b := 87) (xm_hK hI rfl) rfl (xm_wK hI rfl) (by decide) xl_F_X11_31 dX11_holdsBond_8 ?_
  refine xg_iload_n hC dX11_holdsBond_11 rfl ?_
  refine xg_iald hC (xm_hK hI rfl) rfl h2 dX11_holdsBond_12 (fun b5 k6 => ?_)
  refine xg_vI k6 (fun v7 k8 => ?_)
  refine xg_istore hC (l' := [(4, .int (xm_J v7)), (3, .int (xm_J v3)), (0, .ref (xm_B (xx_G X) + 84)), (1, .int (xm_J x1)), (2, .int (xm_J x2))]) dX11_holdsBond_13 (by decide) rfl ?_
  refine xg_aload_n hC dX11_holdsBond_15 rfl ?_
  refine xg_getW hC (b := 88) (xm_hK hI rfl) rfl (xm_wK hI rfl) (by decide) xl_F_X11_46 dX11_holdsBond_16 ?_
  refine xg_iload_n hC dX11_holdsBond_19 rfl ?_
  refine xg_iald hC (xm_hK hI rfl) rfl h2 dX11_holdsBond_20 (fun b9 k10 => ?_)
  refine xg_vI k10 (fun v11 k12 => ?_)
  refine xg_istore hC (l' := [(5, .int (xm_J v11)), (4, .int (xm_J v7)), (3, .int (xm_J v3)), (0, .ref (xm_B (xx_G X) + 84)), (1, .int (xm_J x1)), (2, .int (xm_J x2))]) dX11_holdsBond_21 (by decide) rfl ?_
  refine xg_aload_n hC dX11_holdsBond_23 rfl ?_
  refine xg_getW hC (b := 89) (xm_hK hI rfl) rfl (xm_wK hI rfl) (by decide) xl_F_X11_34 dX11_holdsBond_24 ?_
  refine xg_iload_n hC dX11_holdsBond_27 rfl ?_
  refine xg_iald hC (xm_hK hI rfl) rfl h2 dX11_holdsBond_28 (fun b13 k14 => ?_)
  refine xg_vI k14 (fun v15 k16 => ?_)
  refine xg_istore hC (l' := [(6, .int (xm_J v15)), (5, .int (xm_J v11)), (4, .int (xm_J v7)), (3, .int (xm_J v3)), (0, .ref (xm_B (xx_G X) + 84)), (1, .int (xm_J x1)), (2, .int (xm_J x2))]) dX11_holdsBond_29 (by decide) rfl ?_
  refine xg_aload_n hC dX11_holdsBond_31 rfl ?_
  refine xg_getW hC (b := 90) (xm_hK hI rfl) rfl (xm_wK hI rfl) (by decide) xl_F_X11_37 dX11_holdsBond_32 ?_
  refine xg_iload_n hC dX11_holdsBond_35 rfl ?_
  refine xg_iald hC (xm_hK hI rfl) rfl h2 dX11_holdsBond_36 (fun b17 k18 => ?_)
  refine xg_vI k18 (fun v19 k20 => ?_)
  refine xg_istore hC (l' := [(7, .int (xm_J v19)), (6, .int (xm_J v15)), (5, .int (xm_J v11)), (4, .int (xm_J v7)), (3, .int (xm_J v3)), (0, .ref (xm_B (xx_G X) + 84)), (1, .int (xm_J x1)), (2, .int (xm_J x2))]) dX11_holdsBond_37 (by decide) rfl ?_
  refine xg_iload_n hC dX11_holdsBond_39 rfl ?_
  refine xg_iconst hC dX11_holdsBond_40 ?_
  refine xg_icmp_eq hC k4 (xm_inc _ rfl) 49 dX11_holdsBond_41 rfl (fun c21 => ?_) (fun c22 => ?_)
  · exact xg_pick [5, 6, 7, 4, 3, 2, 1, 0] rfl (w_X11_holdsBond_j49 hC hQ hI σ x1 x2 v3 v7 v11 v15 v19 h1 h2 k4 k8 k12 k16 k20)
  refine xg_iload_n hC dX11_holdsBond_44 rfl ?_
  refine xg_iconst hC dX11_holdsBond_45 ?_
  refine xg_icmp_ne hC k4 (xm_inc _ rfl) 53 dX11_holdsBond_46 rfl (fun c183 => ?_) (fun c184 => ?_)
  · exact xg_pick [5, 6, 7, 4, 3, 2, 1, 0] rfl (w_X11_holdsBond_j49 hC hQ hI σ x1 x2 v3 v7 v11 v15 v19 h1 h2 k4 k8 k12 k16 k20)
  refine xg_iconst hC dX11_holdsBond_53 ?_
  exact xg_pick [5, 6, 7, 4, 3, 2, 1, 0] rfl (w_X11_holdsBond_j54 hC hQ hI σ (0 : Int) x1 x2 v3 v7 v11 v15 v19 (by decide) h1 h2 k4 k8 k12 k16 k20)
theorem w_X11_broken_b10 {X : xm_X} (hC : xm_C X yX11_broken.cls cX11_broken 3 5 0 0) (hQ : xm_Rt X 1 (some .int) 0 0) (hI : xx_I X = xm_I) {K44 : xm_Mem → Int → Option xm_Out} (hK44 : ∀ (σ : xm_Mem) (x1 : Int), xm_in x1 → xm_V X 0 0 (K44 σ x1) σ 44 [(0, .ref (xm_B (xx_G X) + 84)), (1, .int (xm_J x1))] []) {self : xm_Mem → Int → Int → Option xm_Out} (hself : ∀ (σ : xm_Mem) (x1 : Int) (x2 : Int), xm_in x1 → xm_in x2 → xm_V X 0 0 (self σ x1 x2) σ 10 [(0, .ref (xm_B (xx_G X) + 84)), (1, .int (xm_J x1)), (2, .int (xm_J x2))] []) (σ : xm_Mem) (x1 : Int) (x2 : Int) (h1 : xm_in x1) (h2 : xm_in x2) : xm_V X 0 0 (f_X11_broken_b10 K44 self σ x1 x2) σ 10 [(0, .ref (xm_B (xx_G X) + 84)), (1, .int (xm_J x1)), (2, .int (xm_J x2))] [] := by
  unfold f_X11_broken_b10
  refine xg_iload_n hC dX11_broken_10 rfl ?_
  refine xg_aload_n hC dX11_broken_11 rfl ?_
  refine xg_getI hC (xm_hK hI rfl) rfl xl_F_X11_40 dX11_broken_12 (fun k3 => ?_)
  refine xg_icmp_ge hC h2 k3 44 dX11_broken_15 rfl (fun c4 => ?_) (fun c5 => ?_)
  · refine xg_aload_n hC dX11_broken_18 rfl ?_
    refine xg_getW hC (b := 92) (xm_hK hI rfl) rfl (xm_wK hI rfl) (by decide) xl_F_X11_14 dX11_broken_19 ?_
    refine xg_iload_n hC dX11_broken_22 rfl ?_
    refine xg_zald hC (xm_hK hI rfl) rfl h2 dX11_broken_23 (fun b6 k7 => ?_)
    refine xg_if_eq hC (xm_in01 k7) 38 dX11_broken_24 rfl (fun c8 => ?_) (fun c9 => ?_)
    · refine xg_iinc hC (l' := [(2, .int (xm_J (xm_w (x2 + 1)))), (0, .ref (xm_B (xx_G X) + 84)), (1, .int (xm_J x1))]) dX11_broken_38 (by decide) 2 rfl rfl ?_
      refine xg_goto hC 10 dX11_broken_41 rfl ?_
      exact xg_pick [1, 2, 0] rfl (hself σ x1 (xm_w (x2 + 1)) h1 (xm_w_in _))
    refine xg_aload_n hC dX11_broken_27 rfl ?_
    refine xg_iload_n hC dX11_broken_28 rfl ?_
    refine xg_iload_n hC dX11_broken_29 rfl ?_
    refine xg_callV hC (ci := 10) (w_X11_holdsBond hI σ x1 x2 h1 h2) xl_M_X11_107 xl_V_X11_holdsBond (xm_hK (a := 84) (kd := 0) (n := 10) hI rfl).2 ((xm_hK (a := 84) (kd := 0) (n := 10) hI rfl).1 _) (by decide) rfl (by decide) ⟨by decide, by decide⟩ dX11_broken_30 (rest := []) rfl rfl (Nat.le_of_ble_eq_true rfl) rfl rfl (st2 := fun o => .int (xm_J o.2) :: []) (fun _ => rfl) (fun o10 k11 => ?_)
    refine xg_if_ne hC (xm_in01 k11) 38 dX11_broken_33 rfl (fun c12 => ?_) (fun c13 => ?_)
    · refine xg_iload_n hC dX11_broken_36 rfl ?_
      exact xg_iret hC hQ h1 dX11_broken_37
    refine xg_iinc hC (l' := [(2, .int (xm_J (xm_w (x2 + 1)))), (0, .ref (xm_B (xx_G X) + 84)), (1, .int (xm_J x1))]) dX11_broken_38 (by decide) 2 rfl rfl ?_
    refine xg_goto hC 10 dX11_broken_41 rfl ?_
    exact xg_pick [1, 2, 0] rfl (hself o10.1 x1 (xm_w (x2 + 1)) h1 (xm_w_in _))
  exact xg_pick [0, 1] rfl (hK44 σ x1 h1)
theorem w_X11_broken_l10 {X : xm_X} (hC : xm_C X yX11_broken.cls cX11_broken 3 5 0 0) (hQ : xm_Rt X 1 (some .int) 0 0) (hI : xx_I X = xm_I) {K44 : xm_Mem → Int → Option xm_Out} (hK44 : ∀ (σ : xm_Mem) (x1 : Int), xm_in x1 → xm_V X 0 0 (K44 σ x1) σ 44 [(0, .ref (xm_B (xx_G X) + 84)), (1, .int (xm_J x1))] []) (n : Nat) : ∀ (σ : xm_Mem) (x1 : Int) (x2 : Int), xm_in x1 → xm_in x2 → xm_V X 0 0 (f_X11_broken_l10 K44 n σ x1 x2) σ 10 [(0, .ref (xm_B (xx_G X) + 84)), (1, .int (xm_J x1)), (2, .int (xm_J x2))] [] := by
  induction n with
  | zero => intro σ x1 x2 h1 h2; exact xg_none
  | succ n ih => intro σ x1 x2 h1 h2; exact w_X11_broken_b10 hC hQ hI hK44 ih σ x1 x2 h1 h2
theorem w_X11_broken_b2 {X : xm_X} (hC : xm_C X yX11_broken.cls cX11_broken 3 5 0 0) (hQ : xm_Rt X 1 (some .int) 0 0) (hI : xx_I X = xm_I)   {self : xm_Mem → Int → Option xm_Out} (hself : ∀ (σ : xm_Mem) (x1 : Int), xm_in x1 → xm_V X 0 0 (self σ x1) σ 2 [(0, .ref (xm_B (xx_G X) + 84)), (1, .int (xm_J x1))] []) (σ : xm_Mem) (x1 : Int) (h1 : xm_in x1) : xm_V X 0 0 (f_X11_broken_b2  self σ x1) σ 2 [(0, .ref (xm_B (xx_G X) + 84)), (1, .int (xm_J x1))] [] := by
  unfold f_X11_broken_b2
  refine xg_iload_n hC dX11_broken_2 rfl ?_
  refine xg_bipush hC dX11_broken_3 (by decide) ?_
  refine xg_icmp_gt hC h1 (xm_inc _ rfl) 50 dX11_broken_5 rfl (fun c1 => ?_) (fun c2 => ?_)
  · refine xg_iconst hC dX11_broken_50 ?_
    exact xg_iret hC hQ (xm_inc _ rfl) dX11_broken_51
  refine xg_iconst hC dX11_broken_8 ?_
  refine xg_istore_n hC (l' := [(2, .int (xm_J (0 : Int))), (0, .ref (xm_B (xx_G X) + 84)), (1, .int (xm_J x1))]) dX11_broken_9 (by decide) rfl ?_
  refine xg_pick [1, 2, 0] rfl (w_X11_broken_l10 hC hQ hI ?_ _ σ x1 (0 : Int) h1 (xm_inc _ rfl))
  intro σ_14 x1_14 h1_14
  refine xg_iinc hC (l' := [(1, .int (xm_J (xm_w (x1_14 + 1)))), (0, .ref (xm_B (xx_G X) + 84))]) dX11_broken_44 (by decide) 1 rfl rfl ?_
  refine xg_goto hC 2 dX11_broken_47 rfl ?_
  exact xg_pick [1, 0] rfl (hself σ_14 (xm_w (x1_14 + 1)) (xm_w_in _))
theorem w_X11_broken_l2 {X : xm_X} (hC : xm_C X yX11_broken.cls cX11_broken 3 5 0 0) (hQ : xm_Rt X 1 (some .int) 0 0) (hI : xx_I X = xm_I)   (n : Nat) : ∀ (σ : xm_Mem) (x1 : Int), xm_in x1 → xm_V X 0 0 (f_X11_broken_l2  n σ x1) σ 2 [(0, .ref (xm_B (xx_G X) + 84)), (1, .int (xm_J x1))] [] := by
  induction n with
  | zero => intro σ x1 h1; exact xg_none
  | succ n ih => intro σ x1 h1; exact w_X11_broken_b2 hC hQ hI ih σ x1 h1
theorem w_X11_broken {Γ : xm_Gm} {I : xm_Mem → Prop} {la : Launch} (hE : I = xm_I) (σ : xm_Mem)   : ∀ o, f_X11_broken σ  = some o → xm_M Γ I la yX11_broken cX11_broken 3 (some .int) 5 0 0 [.ref (xm_B Γ + 84)] σ 1 o := by
  refine xg_enter (by decide) (by simp [lg_sl, xm_rf_cat, xm_cati, xm_catr, xm_catl]) (fun X hG hI0 hla hC hQ hname => ?_)
  subst hG
  have hI := hI0.trans hE
  clear hI0 hla
  unfold f_X11_broken
  refine xg_pick [0] (l' := [(0, .ref (xm_B (xx_G X) + 84))]) rfl ?_
  refine xg_iconst hC dX11_broken_0 ?_
  refine xg_istore_n hC (l' := [(1, .int (xm_J (1 : Int))), (0, .ref (xm_B (xx_G X) + 84))]) dX11_broken_1 (by decide) rfl ?_
  exact xg_pick [1, 0] rfl (w_X11_broken_l2 hC hQ hI _ σ (1 : Int) (xm_inc _ rfl))
theorem w_X11_changed_b7 {X : xm_X} (hC : xm_C X yX11_changed.cls cX11_changed 2 1 0 0) (hQ : xm_Rt X 0 none 0 0) (hI : xx_I X = xm_I)   {self : xm_Mem → Int → Option xm_Out} (hself : ∀ (σ : xm_Mem) (x1 : Int), xm_in x1 → xm_V X 0 0 (self σ x1) σ 7 [(0, .ref (xm_B (xx_G X) + 84)), (1, .int (xm_J x1))] []) (σ : xm_Mem) (x1 : Int) (h1 : xm_in x1) : xm_V X 0 0 (f_X11_changed_b7  self σ x1) σ 7 [(0, .ref (xm_B (xx_G X) + 84)), (1, .int (xm_J x1))] [] := by
  unfold f_X11_changed_b7
  refine xg_iload_n hC dX11_changed_7 rfl ?_
  refine xg_bipush hC dX11_changed_8 (by decide) ?_
  refine xg_icmp_ge hC h1 (xm_inc _ rfl) 26 dX11_changed_10 rfl (fun c2 => ?_) (fun c3 => ?_)
  · refine xg_aload_n hC dX11_changed_13 rfl ?_
    refine xg_getW hC (b := 95) (xm_hK hI rfl) rfl (xm_wK hI rfl) (by decide) xl_F_X11_114 dX11_changed_14 ?_
    refine xg_iload_n hC dX11_changed_17 rfl ?_
    refine xg_iconst hC dX11_changed_18 ?_
    refine xg_zast hC (xm_hK hI rfl) rfl h1 (by decide) (xm_kpF hI rfl) dX11_changed_19 ?_
    refine xg_st (fun σ4 => ?_)
    refine xg_iinc hC (l' := [(1, .int (xm_J (xm_w (x1 + 1)))), (0, .ref (xm_B (xx_G X) + 84))]) dX11_changed_20 (by decide) 1 rfl rfl ?_
    refine xg_goto hC 7 dX11_changed_23 rfl ?_
    exact xg_pick [1, 0] rfl (hself σ4 (xm_w (x1 + 1)) (xm_w_in _))
  exact xg_vret hC hQ dX11_changed_26
theorem w_X11_changed_l7 {X : xm_X} (hC : xm_C X yX11_changed.cls cX11_changed 2 1 0 0) (hQ : xm_Rt X 0 none 0 0) (hI : xx_I X = xm_I)   (n : Nat) : ∀ (σ : xm_Mem) (x1 : Int), xm_in x1 → xm_V X 0 0 (f_X11_changed_l7  n σ x1) σ 7 [(0, .ref (xm_B (xx_G X) + 84)), (1, .int (xm_J x1))] [] := by
  induction n with
  | zero => intro σ x1 h1; exact xg_none
  | succ n ih => intro σ x1 h1; exact w_X11_changed_b7 hC hQ hI ih σ x1 h1
theorem w_X11_changed {Γ : xm_Gm} {I : xm_Mem → Prop} {la : Launch} (hE : I = xm_I) (σ : xm_Mem)   : ∀ o, f_X11_changed σ  = some o → xm_M Γ I la yX11_changed cX11_changed 2 none 1 0 0 [.ref (xm_B Γ + 84)] σ 0 o := by
  refine xg_enter (by decide) (by simp [lg_sl, xm_rf_cat, xm_cati, xm_catr, xm_catl]) (fun X hG hI0 hla hC hQ hname => ?_)
  subst hG
  have hI := hI0.trans hE
  clear hI0 hla
  unfold f_X11_changed
  refine xg_pick [0] (l' := [(0, .ref (xm_B (xx_G X) + 84))]) rfl ?_
  refine xg_aload_n hC dX11_changed_0 rfl ?_
  refine xg_iconst hC dX11_changed_1 ?_
  refine xg_putZ hC (xm_hK hI rfl) rfl rfl (by decide) (xm_kpK hI rfl) xl_F_X11_110 dX11_changed_2 ?_
  refine xg_st (fun σ1 => ?_)
  refine xg_iconst hC dX11_changed_5 ?_
  refine xg_istore_n hC (l' := [(1, .int (xm_J (0 : Int))), (0, .ref (xm_B (xx_G X) + 84))]) dX11_changed_6 (by decide) rfl ?_
  exact xg_pick [1, 0] rfl (w_X11_changed_l7 hC hQ hI _ σ1 (0 : Int) (xm_inc _ rfl))
theorem w_X11_bit {Γ : xm_Gm} {I : xm_Mem → Prop} {la : Launch} (hE : I = xm_I) (σ : xm_Mem) (x0 : Int) (h0 : xm_in x0) : ∀ o, f_X11_bit σ x0 = some o → xm_M Γ I la yX11_bit cX11_bit 1 (some .long) 1 0 0 [.int (xm_J x0)] σ 6 o := by
  refine xg_enter (by decide) (by simp [lg_sl, xm_rf_cat, xm_cati, xm_catr, xm_catl]) (fun X hG hI0 hla hC hQ hname => ?_)
  subst hG
  have hI := hI0.trans hE
  clear hI0 hla
  unfold f_X11_bit
  refine xg_pick [0] (l' := [(0, .int (xm_J x0))]) rfl ?_
  refine xg_lconst hC dX11_bit_0 (v := 1) rfl ?_
  refine xg_iload_n hC dX11_bit_1 rfl ?_
  refine xg_lshl hC dX11_bit_2 ?_
  exact xg_lret hC hQ dX11_bit_3
theorem w_X11_isOlder {Γ : xm_Gm} {I : xm_Mem → Prop} {la : Launch} (hE : I = xm_I) (σ : xm_Mem) (x1 : Int) (x2 : Int) (h1 : xm_in x1) (h2 : xm_in x2) : ∀ o, f_X11_isOlder σ x1 x2 = some o → xm_M Γ I la yX11_isOlder cX11_isOlder 3 (some .boolean) 2 0 0 [.ref (xm_B Γ + 84), .int (xm_J x1), .int (xm_J x2)] σ 2 o := by
  refine xg_enter (by decide) (by simp [lg_sl, xm_rf_cat, xm_cati, xm_catr, xm_catl]) (fun X hG hI0 hla hC hQ hname => ?_)
  subst hG
  have hI := hI0.trans hE
  clear hI0 hla
  unfold f_X11_isOlder
  refine xg_pick [0, 1, 2] (l' := [(0, .ref (xm_B (xx_G X) + 84)), (1, .int (xm_J x1)), (2, .int (xm_J x2))]) rfl ?_
  refine xg_aload_n hC dX11_isOlder_0 rfl ?_
  refine xg_iload_n hC dX11_isOlder_1 rfl ?_
  refine xg_callV hC (ci := 10) (w_X11_bornOn hI σ x1 h1) xl_M_X11_53 xl_V_X11_bornOn (xm_hK (a := 84) (kd := 0) (n := 10) hI rfl).2 ((xm_hK (a := 84) (kd := 0) (n := 10) hI rfl).1 _) (by decide) rfl (by decide) ⟨by decide, by decide⟩ dX11_isOlder_2 (rest := []) rfl rfl (Nat.le_of_ble_eq_true rfl) rfl rfl (st2 := fun o => .int (xm_J o.2) :: []) (fun _ => rfl) (fun o1 k2 => ?_)
  refine xg_aload_n hC dX11_isOlder_5 rfl ?_
  refine xg_iload_n hC dX11_isOlder_6 rfl ?_
  refine xg_callV hC (ci := 10) (w_X11_bornOn hI o1.1 x2 h2) xl_M_X11_53 xl_V_X11_bornOn (xm_hK (a := 84) (kd := 0) (n := 10) hI rfl).2 ((xm_hK (a := 84) (kd := 0) (n := 10) hI rfl).1 _) (by decide) rfl (by decide) ⟨by decide, by decide⟩ dX11_isOlder_7 (rest := [.int (xm_J o1.2)]) rfl rfl (Nat.le_of_ble_eq_true rfl) rfl rfl (st2 := fun o => .int (xm_J o.2) :: [.int (xm_J o1.2)]) (fun _ => rfl) (fun o3 k4 => ?_)
  refine xg_icmp_eq hC k2 k4 34 dX11_isOlder_10 rfl (fun c5 => ?_) (fun c6 => ?_)
  · refine xg_iload_n hC dX11_isOlder_34 rfl ?_
    refine xg_iload_n hC dX11_isOlder_35 rfl ?_
    refine xg_icmp_ge hC h1 h2 43 dX11_isOlder_36 rfl (fun c7 => ?_) (fun c8 => ?_)
    · refine xg_iconst hC dX11_isOlder_39 ?_
      refine xg_goto hC 44 dX11_isOlder_40 rfl ?_
      exact xg_zret hC hQ (by decide) dX11_isOlder_44
    refine xg_iconst hC dX11_isOlder_43 ?_
    exact xg_zret hC hQ (by decide) dX11_isOlder_44
  refine xg_aload_n hC dX11_isOlder_13 rfl ?_
  refine xg_iload_n hC dX11_isOlder_14 rfl ?_
  refine xg_callV hC (ci := 10) (w_X11_bornOn hI o3.1 x1 h1) xl_M_X11_53 xl_V_X11_bornOn (xm_hK (a := 84) (kd := 0) (n := 10) hI rfl).2 ((xm_hK (a := 84) (kd := 0) (n := 10) hI rfl).1 _) (by decide) rfl (by decide) ⟨by decide, by decide⟩ dX11_isOlder_15 (rest := []) rfl rfl (Nat.le_of_ble_eq_true rfl) rfl rfl (st2 := fun o => .int (xm_J o.2) :: []) (fun _ => rfl) (fun o9 k10 => ?_)
  refine xg_aload_n hC dX11_isOlder_18 rfl ?_
  refine xg_iload_n hC dX11_isOlder_19 rfl ?_
  refine xg_callV hC (ci := 10) (w_X11_bornOn hI o9.1 x2 h2) xl_M_X11_53 xl_V_X11_bornOn (xm_hK (a := 84) (kd := 0) (n := 10) hI rfl).2 ((xm_hK (a := 84) (kd := 0) (n := 10) hI rfl).1 _) (by decide) rfl (by decide) ⟨by decide, by decide⟩ dX11_isOlder_20 (rest := [.int (xm_J o9.2)]) rfl rfl (Nat.le_of_ble_eq_true rfl) rfl rfl (st2 := fun o => .int (xm_J o.2) :: [.int (xm_J o9.2)]) (fun _ => rfl) (fun o11 k12 => ?_)
  refine xg_icmp_ge hC k10 k12 30 dX11_isOlder_23 rfl (fun c13 => ?_) (fun c14 => ?_)
  · refine xg_iconst hC dX11_isOlder_26 ?_
    refine xg_goto hC 44 dX11_isOlder_27 rfl ?_
    exact xg_zret hC hQ (by decide) dX11_isOlder_44
  refine xg_iconst hC dX11_isOlder_30 ?_
  refine xg_goto hC 44 dX11_isOlder_31 rfl ?_
  exact xg_zret hC hQ (by decide) dX11_isOlder_44
theorem w_X11_isChild {Γ : xm_Gm} {I : xm_Mem → Prop} {la : Launch} (hE : I = xm_I) (σ : xm_Mem) (x1 : Int) (x2 : Int) (h1 : xm_in x1) (h2 : xm_in x2) : ∀ o, f_X11_isChild σ x1 x2 = some o → xm_M Γ I la yX11_isChild cX11_isChild 3 (some .boolean) 2 0 0 [.ref (xm_B Γ + 84), .int (xm_J x1), .int (xm_J x2)] σ 2 o := by
  refine xg_enter (by decide) (by simp [lg_sl, xm_rf_cat, xm_cati, xm_catr, xm_catl]) (fun X hG hI0 hla hC hQ hname => ?_)
  subst hG
  have hI := hI0.trans hE
  clear hI0 hla
  unfold f_X11_isChild
  refine xg_pick [0, 1, 2] (l' := [(0, .ref (xm_B (xx_G X) + 84)), (1, .int (xm_J x1)), (2, .int (xm_J x2))]) rfl ?_
  refine xg_aload_n hC dX11_isChild_0 rfl ?_
  refine xg_getW hC (b := 96) (xm_hK hI rfl) rfl (xm_wK hI rfl) (by decide) xl_F_X11_117 dX11_isChild_1 ?_
  refine xg_iload_n hC dX11_isChild_4 rfl ?_
  refine xg_zald hC (xm_hK hI rfl) rfl h1 dX11_isChild_5 (fun b1 k2 => ?_)
  refine xg_if_eq hC (xm_in01 k2) 31 dX11_isChild_6 rfl (fun c3 => ?_) (fun c4 => ?_)
  · refine xg_iconst hC dX11_isChild_31 ?_
    exact xg_zret hC hQ (by decide) dX11_isChild_32
  refine xg_aload_n hC dX11_isChild_9 rfl ?_
  refine xg_iload_n hC dX11_isChild_10 rfl ?_
  refine xg_callV hC (ci := 10) (w_X11_father hI σ x1 h1) xl_M_X11_76 xl_V_X11_father (xm_hK (a := 84) (kd := 0) (n := 10) hI rfl).2 ((xm_hK (a := 84) (kd := 0) (n := 10) hI rfl).1 _) (by decide) rfl (by decide) ⟨by decide, by decide⟩ dX11_isChild_11 (rest := []) rfl rfl (Nat.le_of_ble_eq_true rfl) rfl rfl (st2 := fun o => .int (xm_J o.2) :: []) (fun _ => rfl) (fun o5 k6 => ?_)
  refine xg_iload_n hC dX11_isChild_14 rfl ?_
  refine xg_icmp_eq hC k6 h2 27 dX11_isChild_15 rfl (fun c7 => ?_) (fun c8 => ?_)
  · refine xg_iconst hC dX11_isChild_27 ?_
    refine xg_goto hC 32 dX11_isChild_28 rfl ?_
    exact xg_zret hC hQ (by decide) dX11_isChild_32
  refine xg_aload_n hC dX11_isChild_18 rfl ?_
  refine xg_iload_n hC dX11_isChild_19 rfl ?_
  refine xg_callV hC (ci := 10) (w_X11_mother hI o5.1 x1 h1) xl_M_X11_79 xl_V_X11_mother (xm_hK (a := 84) (kd := 0) (n := 10) hI rfl).2 ((xm_hK (a := 84) (kd := 0) (n := 10) hI rfl).1 _) (by decide) rfl (by decide) ⟨by decide, by decide⟩ dX11_isChild_20 (rest := []) rfl rfl (Nat.le_of_ble_eq_true rfl) rfl rfl (st2 := fun o => .int (xm_J o.2) :: []) (fun _ => rfl) (fun o9 k10 => ?_)
  refine xg_iload_n hC dX11_isChild_23 rfl ?_
  refine xg_icmp_ne hC k10 h2 31 dX11_isChild_24 rfl (fun c11 => ?_) (fun c12 => ?_)
  · refine xg_iconst hC dX11_isChild_27 ?_
    refine xg_goto hC 32 dX11_isChild_28 rfl ?_
    exact xg_zret hC hQ (by decide) dX11_isChild_32
  refine xg_iconst hC dX11_isChild_31 ?_
  exact xg_zret hC hQ (by decide) dX11_isChild_32
theorem w_X11_reckon_b66 {X : xm_X} (hC : xm_C X yX11_reckon.cls cX11_reckon 4 6 0 0) (hQ : xm_Rt X 0 none 0 0) (hI : xx_I X = xm_I) {K106 : xm_Mem → Int → Int → Option xm_Out} (hK106 : ∀ (σ : xm_Mem) (x1 : Int) (x2 : Int), xm_in x1 → xm_in x2 → xm_V X 0 0 (K106 σ x1 x2) σ 106 [(0, .ref (xm_B (xx_G X) + 84)), (1, .int (xm_J x1)), (2, .int (xm_J x2))] []) {self : xm_Mem → Int → Int → Option xm_Out} (hself : ∀ (σ : xm_Mem) (x1 : Int) (x2 : Int), xm_in x1 → xm_in x2 → xm_V X 0 0 (self σ x1 x2) σ 66 [(0, .ref (xm_B (xx_G X) + 84)), (1, .int (xm_J x1)), (2, .int (xm_J x2))] []) (σ : xm_Mem) (x1 : Int) (x2 : Int) (h1 : xm_in x1) (h2 : xm_in x2) : xm_V X 0 0 (f_X11_reckon_b66 K106 self σ x1 x2) σ 66 [(0, .ref (xm_B (xx_G X) + 84)), (1, .int (xm_J x1)), (2, .int (xm_J x2))] [] := by
  unfold f_X11_reckon_b66
  refine xg_iload_n hC dX11_reckon_66 rfl ?_
  refine xg_if_le hC h2 106 dX11_reckon_67 rfl (fun c22 => ?_) (fun c23 => ?_)
  · refine xg_aload_n hC dX11_reckon_70 rfl ?_
    refine xg_iload_n hC dX11_reckon_71 rfl ?_
    refine xg_aload_n hC dX11_reckon_72 rfl ?_
    refine xg_getW hC (b := 97) (xm_hK hI rfl) rfl (xm_wK hI rfl) (by decide) xl_F_X11_129 dX11_reckon_73 ?_
    refine xg_iload_n hC dX11_reckon_76 rfl ?_
    refine xg_iconst hC dX11_reckon_77 ?_
    refine xg_isub hC dX11_reckon_78 ?_
    refine xg_vI (xm_w_in _) (fun v24 k25 => ?_)
    refine xg_iald hC (xm_hK hI rfl) rfl k25 dX11_reckon_79 (fun b26 k27 => ?_)
    refine xg_callV hC (ci := 10) (w_X11_isOlder hI σ x1 (σ.1 97 v24.toNat) h1 k27) xl_M_X11_132 xl_V_X11_isOlder (xm_hK (a := 84) (kd := 0) (n := 10) hI rfl).2 ((xm_hK (a := 84) (kd := 0) (n := 10) hI rfl).1 _) (by decide) rfl (by decide) ⟨by decide, by decide⟩ dX11_reckon_80 (rest := []) rfl rfl (Nat.le_of_ble_eq_true rfl) rfl rfl (st2 := fun o => .int (xm_J o.2) :: []) (fun _ => rfl) (fun o28 k29 => ?_)
    refine xg_if_eq hC (xm_in01 k29) 106 dX11_reckon_83 rfl (fun c30 => ?_) (fun c31 => ?_)
    · exact (hK106 o28.1 x1 x2 h1 h2)
    refine xg_aload_n hC dX11_reckon_86 rfl ?_
    refine xg_getW hC (b := 97) (xm_hK hI rfl) rfl (xm_wK hI rfl) (by decide) xl_F_X11_129 dX11_reckon_87 ?_
    refine xg_iload_n hC dX11_reckon_90 rfl ?_
    refine xg_aload_n hC dX11_reckon_91 rfl ?_
    refine xg_getW hC (b := 97) (xm_hK hI rfl) rfl (xm_wK hI rfl) (by decide) xl_F_X11_129 dX11_reckon_92 ?_
    refine xg_iload_n hC dX11_reckon_95 rfl ?_
    refine xg_iconst hC dX11_reckon_96 ?_
    refine xg_isub hC dX11_reckon_97 ?_
    refine xg_vI (xm_w_in _) (fun v32 k33 => ?_)
    refine xg_iald hC (xm_hK hI rfl) rfl k33 dX11_reckon_98 (fun b34 k35 => ?_)
    refine xg_iast hC (xm_hK hI rfl) rfl h2 k35 (xm_kpF hI rfl) dX11_reckon_99 ?_
    refine xg_st (fun σ36 => ?_)
    refine xg_iinc hC (l' := [(2, .int (xm_J (xm_w (x2 + (-1))))), (0, .ref (xm_B (xx_G X) + 84)), (1, .int (xm_J x1))]) dX11_reckon_100 (by decide) 2 rfl rfl ?_
    refine xg_goto hC 66 dX11_reckon_103 rfl ?_
    exact xg_pick [1, 2, 0] rfl (hself σ36 x1 (xm_w (x2 + (-1))) h1 (xm_w_in _))
  exact (hK106 σ x1 x2 h1 h2)
theorem w_X11_reckon_l66 {X : xm_X} (hC : xm_C X yX11_reckon.cls cX11_reckon 4 6 0 0) (hQ : xm_Rt X 0 none 0 0) (hI : xx_I X = xm_I) {K106 : xm_Mem → Int → Int → Option xm_Out} (hK106 : ∀ (σ : xm_Mem) (x1 : Int) (x2 : Int), xm_in x1 → xm_in x2 → xm_V X 0 0 (K106 σ x1 x2) σ 106 [(0, .ref (xm_B (xx_G X) + 84)), (1, .int (xm_J x1)), (2, .int (xm_J x2))] []) (n : Nat) : ∀ (σ : xm_Mem) (x1 : Int) (x2 : Int), xm_in x1 → xm_in x2 → xm_V X 0 0 (f_X11_reckon_l66 K106 n σ x1 x2) σ 66 [(0, .ref (xm_B (xx_G X) + 84)), (1, .int (xm_J x1)), (2, .int (xm_J x2))] [] := by
  induction n with
  | zero => intro σ x1 x2 h1 h2; exact xg_none
  | succ n ih => intro σ x1 x2 h1 h2; exact w_X11_reckon_b66 hC hQ hI hK106 ih σ x1 x2 h1 h2
theorem w_X11_reckon_b20 {X : xm_X} (hC : xm_C X yX11_reckon.cls cX11_reckon 4 6 0 0) (hQ : xm_Rt X 0 none 0 0) (hI : xx_I X = xm_I) {K129 : xm_Mem → Option xm_Out} (hK129 : ∀ (σ : xm_Mem), xm_V X 0 0 (K129 σ ) σ 129 [(0, .ref (xm_B (xx_G X) + 84))] []) {self : xm_Mem → Int → Option xm_Out} (hself : ∀ (σ : xm_Mem) (x1 : Int), xm_in x1 → xm_V X 0 0 (self σ x1) σ 20 [(0, .ref (xm_B (xx_G X) + 84)), (1, .int (xm_J x1))] []) (σ : xm_Mem) (x1 : Int) (h1 : xm_in x1) : xm_V X 0 0 (f_X11_reckon_b20 K129 self σ x1) σ 20 [(0, .ref (xm_B (xx_G X) + 84)), (1, .int (xm_J x1))] [] := by
  unfold f_X11_reckon_b20
  refine xg_iload_n hC dX11_reckon_20 rfl ?_
  refine xg_aload_n hC dX11_reckon_21 rfl ?_
  refine xg_getI hC (xm_hK hI rfl) rfl xl_F_X11_7 dX11_reckon_22 (fun k6 => ?_)
  refine xg_icmp_ge hC h1 k6 129 dX11_reckon_25 rfl (fun c7 => ?_) (fun c8 => ?_)
  · refine xg_aload_n hC dX11_reckon_28 rfl ?_
    refine xg_iload_n hC dX11_reckon_29 rfl ?_
    refine xg_callV hC (ci := 10) (w_X11_isPerson hI σ x1 h1) xl_M_X11_123 xl_V_X11_isPerson (xm_hK (a := 84) (kd := 0) (n := 10) hI rfl).2 ((xm_hK (a := 84) (kd := 0) (n := 10) hI rfl).1 _) (by decide) rfl (by decide) ⟨by decide, by decide⟩ dX11_reckon_30 (rest := []) rfl rfl (Nat.le_of_ble_eq_true rfl) rfl rfl (st2 := fun o => .int (xm_J o.2) :: []) (fun _ => rfl) (fun o9 k10 => ?_)
    refine xg_if_ne hC (xm_in01 k10) 39 dX11_reckon_33 rfl (fun c11 => ?_) (fun c12 => ?_)
    · refine xg_goto hC 123 dX11_reckon_36 rfl ?_
      refine xg_iinc hC (l' := [(1, .int (xm_J (xm_w (x1 + 1)))), (0, .ref (xm_B (xx_G X) + 84))]) dX11_reckon_123 (by decide) 1 rfl rfl ?_
      refine xg_goto hC 20 dX11_reckon_126 rfl ?_
      exact xg_pick [1, 0] rfl (hself o9.1 (xm_w (x1 + 1)) (xm_w_in _))
    refine xg_aload_n hC dX11_reckon_39 rfl ?_
    refine xg_getW hC (b := 96) (xm_hK hI rfl) rfl (xm_wK hI rfl) (by decide) xl_F_X11_117 dX11_reckon_40 ?_
    refine xg_iload_n hC dX11_reckon_43 rfl ?_
    refine xg_aload_n hC dX11_reckon_44 rfl ?_
    refine xg_iload_n hC dX11_reckon_45 rfl ?_
    refine xg_callV hC (ci := 10) (w_X11_toldLegit hI o9.1 x1 h1) xl_M_X11_126 xl_V_X11_toldLegit (xm_hK (a := 84) (kd := 0) (n := 10) hI rfl).2 ((xm_hK (a := 84) (kd := 0) (n := 10) hI rfl).1 _) (by decide) rfl (by decide) ⟨by decide, by decide⟩ dX11_reckon_46 (rest := [.int (xm_J x1), .ref (xm_B (xx_G X) + 96)]) rfl rfl (Nat.le_of_ble_eq_true rfl) rfl rfl (st2 := fun o => .int (xm_J o.2) :: [.int (xm_J x1), .ref (xm_B (xx_G X) + 96)]) (fun _ => rfl) (fun o13 k14 => ?_)
    refine xg_zast hC (xm_hK hI rfl) rfl h1 k14 (xm_kpF hI rfl) dX11_reckon_49 ?_
    refine xg_st (fun σ15 => ?_)
    refine xg_aload_n hC dX11_reckon_50 rfl ?_
    refine xg_getW hC (b := 99) (xm_hK hI rfl) rfl (xm_wK hI rfl) (by decide) xl_F_X11_56 dX11_reckon_51 ?_
    refine xg_iload_n hC dX11_reckon_54 rfl ?_
    refine xg_aload_n hC dX11_reckon_55 rfl ?_
    refine xg_iload_n hC dX11_reckon_56 rfl ?_
    refine xg_callV hC (ci := 10) (w_X11_deadOn hI σ15 x1 h1) xl_M_X11_49 xl_V_X11_deadOn (xm_hK (a := 84) (kd := 0) (n := 10) hI rfl).2 ((xm_hK (a := 84) (kd := 0) (n := 10) hI rfl).1 _) (by decide) rfl (by decide) ⟨by decide, by decide⟩ dX11_reckon_57 (rest := [.int (xm_J x1), .ref (xm_B (xx_G X) + 99)]) rfl rfl (Nat.le_of_ble_eq_true rfl) rfl rfl (st2 := fun o => .int (xm_J o.2) :: [.int (xm_J x1), .ref (xm_B (xx_G X) + 99)]) (fun _ => rfl) (fun o16 k17 => ?_)
    refine xg_iast hC (xm_hK hI rfl) rfl h1 k17 (xm_kpF hI rfl) dX11_reckon_60 ?_
    refine xg_st (fun σ18 => ?_)
    refine xg_aload_n hC dX11_reckon_61 rfl ?_
    refine xg_getI hC (xm_hK hI rfl) rfl xl_F_X11_120 dX11_reckon_62 (fun k19 => ?_)
    refine xg_vI k19 (fun v20 k21 => ?_)
    refine xg_istore_n hC (l' := [(2, .int (xm_J v20)), (0, .ref (xm_B (xx_G X) + 84)), (1, .int (xm_J x1))]) dX11_reckon_65 (by decide) rfl ?_
    refine xg_pick [1, 2, 0] rfl (w_X11_reckon_l66 hC hQ hI ?_ _ σ18 x1 v20 h1 k21)
    intro σ_37 x1_37 x2_37 h1_37 h2_37
    refine xg_aload_n hC dX11_reckon_106 rfl ?_
    refine xg_getW hC (b := 97) (xm_hK hI rfl) rfl (xm_wK hI rfl) (by decide) xl_F_X11_129 dX11_reckon_107 ?_
    refine xg_iload_n hC dX11_reckon_110 rfl ?_
    refine xg_iload_n hC dX11_reckon_111 rfl ?_
    refine xg_iast hC (xm_hK hI rfl) rfl h2_37 h1_37 (xm_kpF hI rfl) dX11_reckon_112 ?_
    refine xg_st (fun σ38 => ?_)
    refine xg_aload_n hC dX11_reckon_113 rfl ?_
    refine xg_dup hC dX11_reckon_114 rfl ?_
    refine xg_getI hC (xm_hK hI rfl) rfl xl_F_X11_120 dX11_reckon_115 (fun k39 => ?_)
    refine xg_iconst hC dX11_reckon_118 ?_
    refine xg_iadd hC dX11_reckon_119 ?_
    refine xg_putI hC (xm_hK hI rfl) rfl rfl (xm_w_in _) (xm_kpK hI rfl) xl_F_X11_120 dX11_reckon_120 ?_
    refine xg_st (fun σ40 => ?_)
    refine xg_iinc hC (l' := [(1, .int (xm_J (xm_w (x1_37 + 1)))), (0, .ref (xm_B (xx_G X) + 84)), (2, .int (xm_J x2_37))]) dX11_reckon_123 (by decide) 1 rfl rfl ?_
    refine xg_goto hC 20 dX11_reckon_126 rfl ?_
    exact xg_pick [1, 0] rfl (hself σ40 (xm_w (x1_37 + 1)) (xm_w_in _))
  exact xg_pick [0] rfl (hK129 σ)
theorem w_X11_reckon_l20 {X : xm_X} (hC : xm_C X yX11_reckon.cls cX11_reckon 4 6 0 0) (hQ : xm_Rt X 0 none 0 0) (hI : xx_I X = xm_I) {K129 : xm_Mem → Option xm_Out} (hK129 : ∀ (σ : xm_Mem), xm_V X 0 0 (K129 σ ) σ 129 [(0, .ref (xm_B (xx_G X) + 84))] []) (n : Nat) : ∀ (σ : xm_Mem) (x1 : Int), xm_in x1 → xm_V X 0 0 (f_X11_reckon_l20 K129 n σ x1) σ 20 [(0, .ref (xm_B (xx_G X) + 84)), (1, .int (xm_J x1))] [] := by
  induction n with
  | zero => intro σ x1 h1; exact xg_none
  | succ n ih => intro σ x1 h1; exact w_X11_reckon_b20 hC hQ hI hK129 ih σ x1 h1
theorem w_X11_reckon_b131 {X : xm_X} (hC : xm_C X yX11_reckon.cls cX11_reckon 4 6 0 0) (hQ : xm_Rt X 0 none 0 0) (hI : xx_I X = xm_I) {K154 : xm_Mem → Option xm_Out} (hK154 : ∀ (σ : xm_Mem), xm_V X 0 0 (K154 σ ) σ 154 [(0, .ref (xm_B (xx_G X) + 84))] []) {self : xm_Mem → Int → Option xm_Out} (hself : ∀ (σ : xm_Mem) (x1 : Int), xm_in x1 → xm_V X 0 0 (self σ x1) σ 131 [(0, .ref (xm_B (xx_G X) + 84)), (1, .int (xm_J x1))] []) (σ : xm_Mem) (x1 : Int) (h1 : xm_in x1) : xm_V X 0 0 (f_X11_reckon_b131 K154 self σ x1) σ 131 [(0, .ref (xm_B (xx_G X) + 84)), (1, .int (xm_J x1))] [] := by
  unfold f_X11_reckon_b131
  refine xg_iload_n hC dX11_reckon_131 rfl ?_
  refine xg_aload_n hC dX11_reckon_132 rfl ?_
  refine xg_getW hC (b := 100) (xm_hK hI rfl) rfl (xm_wK hI rfl) (by decide) xl_F_X11_135 dX11_reckon_133 ?_
  refine xg_alen hC (kd := 1) (n := 512) (xm_hK hI rfl) (by decide) rfl dX11_reckon_136 ?_
  refine xg_icmp_ge hC h1 (xm_inc _ rfl) 154 dX11_reckon_137 rfl (fun c42 => ?_) (fun c43 => ?_)
  · refine xg_aload_n hC dX11_reckon_140 rfl ?_
    refine xg_getW hC (b := 100) (xm_hK hI rfl) rfl (xm_wK hI rfl) (by decide) xl_F_X11_135 dX11_reckon_141 ?_
    refine xg_iload_n hC dX11_reckon_144 rfl ?_
    refine xg_ldc hC dX11_reckon_145 xl_C_X11_138 ?_
    refine xg_iast hC (xm_hK hI rfl) rfl h1 (xm_inc _ rfl) (xm_kpF hI rfl) dX11_reckon_147 ?_
    refine xg_st (fun σ44 => ?_)
    refine xg_iinc hC (l' := [(1, .int (xm_J (xm_w (x1 + 1)))), (0, .ref (xm_B (xx_G X) + 84))]) dX11_reckon_148 (by decide) 1 rfl rfl ?_
    refine xg_goto hC 131 dX11_reckon_151 rfl ?_
    exact xg_pick [1, 0] rfl (hself σ44 (xm_w (x1 + 1)) (xm_w_in _))
  exact xg_pick [0] rfl (hK154 σ)
theorem w_X11_reckon_l131 {X : xm_X} (hC : xm_C X yX11_reckon.cls cX11_reckon 4 6 0 0) (hQ : xm_Rt X 0 none 0 0) (hI : xx_I X = xm_I) {K154 : xm_Mem → Option xm_Out} (hK154 : ∀ (σ : xm_Mem), xm_V X 0 0 (K154 σ ) σ 154 [(0, .ref (xm_B (xx_G X) + 84))] []) (n : Nat) : ∀ (σ : xm_Mem) (x1 : Int), xm_in x1 → xm_V X 0 0 (f_X11_reckon_l131 K154 n σ x1) σ 131 [(0, .ref (xm_B (xx_G X) + 84)), (1, .int (xm_J x1))] [] := by
  induction n with
  | zero => intro σ x1 h1; exact xg_none
  | succ n ih => intro σ x1 h1; exact w_X11_reckon_b131 hC hQ hI hK154 ih σ x1 h1
theorem w_X11_reckon_b156 {X : xm_X} (hC : xm_C X yX11_reckon.cls cX11_reckon 4 6 0 0) (hQ : xm_Rt X 0 none 0 0) (hI : xx_I X = xm_I) {K216 : xm_Mem → Option xm_Out} (hK216 : ∀ (σ : xm_Mem), xm_V X 0 0 (K216 σ ) σ 216 [(0, .ref (xm_B (xx_G X) + 84))] []) {self : xm_Mem → Int → Option xm_Out} (hself : ∀ (σ : xm_Mem) (x1 : Int), xm_in x1 → xm_V X 0 0 (self σ x1) σ 156 [(0, .ref (xm_B (xx_G X) + 84)), (1, .int (xm_J x1))] []) (σ : xm_Mem) (x1 : Int) (h1 : xm_in x1) : xm_V X 0 0 (f_X11_reckon_b156 K216 self σ x1) σ 156 [(0, .ref (xm_B (xx_G X) + 84)), (1, .int (xm_J x1))] [] := by
  unfold f_X11_reckon_b156
  refine xg_iload_n hC dX11_reckon_156 rfl ?_
  refine xg_aload_n hC dX11_reckon_157 rfl ?_
  refine xg_getI hC (xm_hK hI rfl) rfl xl_F_X11_40 dX11_reckon_158 (fun k46 => ?_)
  refine xg_icmp_ge hC h1 k46 216 dX11_reckon_161 rfl (fun c47 => ?_) (fun c48 => ?_)
  · refine xg_aload_n hC dX11_reckon_164 rfl ?_
    refine xg_getW hC (b := 92) (xm_hK hI rfl) rfl (xm_wK hI rfl) (by decide) xl_F_X11_14 dX11_reckon_165 ?_
    refine xg_iload_n hC dX11_reckon_168 rfl ?_
    refine xg_zald hC (xm_hK hI rfl) rfl h1 dX11_reckon_169 (fun b49 k50 => ?_)
    refine xg_if_eq hC (xm_in01 k50) 210 dX11_reckon_170 rfl (fun c51 => ?_) (fun c52 => ?_)
    · refine xg_iinc hC (l' := [(1, .int (xm_J (xm_w (x1 + 1)))), (0, .ref (xm_B (xx_G X) + 84))]) dX11_reckon_210 (by decide) 1 rfl rfl ?_
      refine xg_goto hC 156 dX11_reckon_213 rfl ?_
      exact xg_pick [1, 0] rfl (hself σ (xm_w (x1 + 1)) (xm_w_in _))
    refine xg_aload_n hC dX11_reckon_173 rfl ?_
    refine xg_getW hC (b := 86) (xm_hK hI rfl) rfl (xm_wK hI rfl) (by decide) xl_F_X11_43 dX11_reckon_174 ?_
    refine xg_iload_n hC dX11_reckon_177 rfl ?_
    refine xg_iald hC (xm_hK hI rfl) rfl h1 dX11_reckon_178 (fun b53 k54 => ?_)
    refine xg_iconst hC dX11_reckon_179 ?_
    refine xg_icmp_ne hC k54 (xm_inc _ rfl) 210 dX11_reckon_180 rfl (fun c55 => ?_) (fun c56 => ?_)
    · refine xg_aload_n hC dX11_reckon_183 rfl ?_
      refine xg_getW hC (b := 100) (xm_hK hI rfl) rfl (xm_wK hI rfl) (by decide) xl_F_X11_135 dX11_reckon_184 ?_
      refine xg_bipush hC dX11_reckon_187 (by decide) ?_
      refine xg_aload_n hC dX11_reckon_189 rfl ?_
      refine xg_getW hC (b := 89) (xm_hK hI rfl) rfl (xm_wK hI rfl) (by decide) xl_F_X11_34 dX11_reckon_190 ?_
      refine xg_iload_n hC dX11_reckon_193 rfl ?_
      refine xg_iald hC (xm_hK hI rfl) rfl h1 dX11_reckon_194 (fun b57 k58 => ?_)
      refine xg_imul hC dX11_reckon_195 ?_
      refine xg_aload_n hC dX11_reckon_196 rfl ?_
      refine xg_getW hC (b := 88) (xm_hK hI rfl) rfl (xm_wK hI rfl) (by decide) xl_F_X11_46 dX11_reckon_197 ?_
      refine xg_iload_n hC dX11_reckon_200 rfl ?_
      refine xg_iald hC (xm_hK hI rfl) rfl h1 dX11_reckon_201 (fun b59 k60 => ?_)
      refine xg_iadd hC dX11_reckon_202 ?_
      refine xg_aload_n hC dX11_reckon_203 rfl ?_
      refine xg_getW hC (b := 87) (xm_hK hI rfl) rfl (xm_wK hI rfl) (by decide) xl_F_X11_31 dX11_reckon_204 ?_
      refine xg_iload_n hC dX11_reckon_207 rfl ?_
      refine xg_iald hC (xm_hK hI rfl) rfl h1 dX11_reckon_208 (fun b61 k62 => ?_)
      refine xg_iast hC (xm_hK hI rfl) rfl (xm_w_in _) k62 (xm_kpF hI rfl) dX11_reckon_209 ?_
      refine xg_st (fun σ63 => ?_)
      refine xg_iinc hC (l' := [(1, .int (xm_J (xm_w (x1 + 1)))), (0, .ref (xm_B (xx_G X) + 84))]) dX11_reckon_210 (by decide) 1 rfl rfl ?_
      refine xg_goto hC 156 dX11_reckon_213 rfl ?_
      exact xg_pick [1, 0] rfl (hself σ63 (xm_w (x1 + 1)) (xm_w_in _))
    refine xg_iinc hC (l' := [(1, .int (xm_J (xm_w (x1 + 1)))), (0, .ref (xm_B (xx_G X) + 84))]) dX11_reckon_210 (by decide) 1 rfl rfl ?_
    refine xg_goto hC 156 dX11_reckon_213 rfl ?_
    exact xg_pick [1, 0] rfl (hself σ (xm_w (x1 + 1)) (xm_w_in _))
  exact xg_pick [0] rfl (hK216 σ)
theorem w_X11_reckon_l156 {X : xm_X} (hC : xm_C X yX11_reckon.cls cX11_reckon 4 6 0 0) (hQ : xm_Rt X 0 none 0 0) (hI : xx_I X = xm_I) {K216 : xm_Mem → Option xm_Out} (hK216 : ∀ (σ : xm_Mem), xm_V X 0 0 (K216 σ ) σ 216 [(0, .ref (xm_B (xx_G X) + 84))] []) (n : Nat) : ∀ (σ : xm_Mem) (x1 : Int), xm_in x1 → xm_V X 0 0 (f_X11_reckon_l156 K216 n σ x1) σ 156 [(0, .ref (xm_B (xx_G X) + 84)), (1, .int (xm_J x1))] [] := by
  induction n with
  | zero => intro σ x1 h1; exact xg_none
  | succ n ih => intro σ x1 h1; exact w_X11_reckon_b156 hC hQ hI hK216 ih σ x1 h1
theorem w_X11_reckon_b248 {X : xm_X} (hC : xm_C X yX11_reckon.cls cX11_reckon 4 6 0 0) (hQ : xm_Rt X 0 none 0 0) (hI : xx_I X = xm_I) {K296 : xm_Mem → Int → Option xm_Out} (hK296 : ∀ (σ : xm_Mem) (x1 : Int), xm_in x1 → xm_V X 0 0 (K296 σ x1) σ 296 [(0, .ref (xm_B (xx_G X) + 84)), (1, .int (xm_J x1))] []) {self : xm_Mem → Int → Int → Int → Option xm_Out} (hself : ∀ (σ : xm_Mem) (x1 : Int) (x2 : Int) (x3 : Int), xm_in x1 → xm_in x2 → xm_in x3 → xm_V X 0 0 (self σ x1 x2 x3) σ 248 [(0, .ref (xm_B (xx_G X) + 84)), (1, .int (xm_J x1)), (2, .int (xm_J x2)), (3, .int (xm_J x3))] []) (σ : xm_Mem) (x1 : Int) (x2 : Int) (x3 : Int) (h1 : xm_in x1) (h2 : xm_in x2) (h3 : xm_in x3) : xm_V X 0 0 (f_X11_reckon_b248 K296 self σ x1 x2 x3) σ 248 [(0, .ref (xm_B (xx_G X) + 84)), (1, .int (xm_J x1)), (2, .int (xm_J x2)), (3, .int (xm_J x3))] [] := by
  unfold f_X11_reckon_b248
  refine xg_iload_n hC dX11_reckon_248 rfl ?_
  refine xg_aload_n hC dX11_reckon_249 rfl ?_
  refine xg_getI hC (xm_hK hI rfl) rfl xl_F_X11_120 dX11_reckon_250 (fun k79 => ?_)
  refine xg_icmp_ge hC h3 k79 296 dX11_reckon_253 rfl (fun c80 => ?_) (fun c81 => ?_)
  · refine xg_aload_n hC dX11_reckon_256 rfl ?_
    refine xg_aload_n hC dX11_reckon_257 rfl ?_
    refine xg_getW hC (b := 97) (xm_hK hI rfl) rfl (xm_wK hI rfl) (by decide) xl_F_X11_129 dX11_reckon_258 ?_
    refine xg_iload_n hC dX11_reckon_261 rfl ?_
    refine xg_iald hC (xm_hK hI rfl) rfl h3 dX11_reckon_262 (fun b82 k83 => ?_)
    refine xg_iload_n hC dX11_reckon_263 rfl ?_
    refine xg_callV hC (ci := 10) (w_X11_isChild hI σ (σ.1 97 x3.toNat) x2 k83 h2) xl_M_X11_147 xl_V_X11_isChild (xm_hK (a := 84) (kd := 0) (n := 10) hI rfl).2 ((xm_hK (a := 84) (kd := 0) (n := 10) hI rfl).1 _) (by decide) rfl (by decide) ⟨by decide, by decide⟩ dX11_reckon_264 (rest := []) rfl rfl (Nat.le_of_ble_eq_true rfl) rfl rfl (st2 := fun o => .int (xm_J o.2) :: []) (fun _ => rfl) (fun o84 k85 => ?_)
    refine xg_if_eq hC (xm_in01 k85) 290 dX11_reckon_267 rfl (fun c86 => ?_) (fun c87 => ?_)
    · refine xg_iinc hC (l' := [(3, .int (xm_J (xm_w (x3 + 1)))), (0, .ref (xm_B (xx_G X) + 84)), (1, .int (xm_J x1)), (2, .int (xm_J x2))]) dX11_reckon_290 (by decide) 3 rfl rfl ?_
      refine xg_goto hC 248 dX11_reckon_293 rfl ?_
      exact xg_pick [1, 2, 3, 0] rfl (hself o84.1 x1 x2 (xm_w (x3 + 1)) h1 h2 (xm_w_in _))
    refine xg_aload_n hC dX11_reckon_270 rfl ?_
    refine xg_getW hC (b := 98) (xm_hK hI rfl) rfl (xm_wK hI rfl) (by decide) xl_F_X11_139 dX11_reckon_271 ?_
    refine xg_iload_n hC dX11_reckon_274 rfl ?_
    refine xg_dup2 hC dX11_reckon_275 rfl rfl ?_
    refine xg_lald hC (xm_hK hI rfl) rfl h2 dX11_reckon_276 (fun b88 => ?_)
    refine xg_aload_n hC dX11_reckon_277 rfl ?_
    refine xg_getW hC (b := 98) (xm_hK hI rfl) rfl (xm_wK hI rfl) (by decide) xl_F_X11_139 dX11_reckon_278 ?_
    refine xg_aload_n hC dX11_reckon_281 rfl ?_
    refine xg_getW hC (b := 97) (xm_hK hI rfl) rfl (xm_wK hI rfl) (by decide) xl_F_X11_129 dX11_reckon_282 ?_
    refine xg_iload_n hC dX11_reckon_285 rfl ?_
    refine xg_iald hC (xm_hK hI rfl) rfl h3 dX11_reckon_286 (fun b90 k91 => ?_)
    refine xg_vI k91 (fun v92 k93 => ?_)
    refine xg_lald hC (xm_hK hI rfl) rfl k93 dX11_reckon_287 (fun b94 => ?_)
    refine xg_lor hC dX11_reckon_288 ?_
    refine xg_last hC (xm_hK hI rfl) rfl h2 (xm_kp2 hI) dX11_reckon_289 ?_
    refine xg_st (fun σ96 => ?_)
    refine xg_iinc hC (l' := [(3, .int (xm_J (xm_w (x3 + 1)))), (0, .ref (xm_B (xx_G X) + 84)), (1, .int (xm_J x1)), (2, .int (xm_J x2))]) dX11_reckon_290 (by decide) 3 rfl rfl ?_
    refine xg_goto hC 248 dX11_reckon_293 rfl ?_
    exact xg_pick [1, 2, 3, 0] rfl (hself σ96 x1 x2 (xm_w (x3 + 1)) h1 h2 (xm_w_in _))
  exact xg_pick [0, 1] rfl (hK296 σ x1 h1)
theorem w_X11_reckon_l248 {X : xm_X} (hC : xm_C X yX11_reckon.cls cX11_reckon 4 6 0 0) (hQ : xm_Rt X 0 none 0 0) (hI : xx_I X = xm_I) {K296 : xm_Mem → Int → Option xm_Out} (hK296 : ∀ (σ : xm_Mem) (x1 : Int), xm_in x1 → xm_V X 0 0 (K296 σ x1) σ 296 [(0, .ref (xm_B (xx_G X) + 84)), (1, .int (xm_J x1))] []) (n : Nat) : ∀ (σ : xm_Mem) (x1 : Int) (x2 : Int) (x3 : Int), xm_in x1 → xm_in x2 → xm_in x3 → xm_V X 0 0 (f_X11_reckon_l248 K296 n σ x1 x2 x3) σ 248 [(0, .ref (xm_B (xx_G X) + 84)), (1, .int (xm_J x1)), (2, .int (xm_J x2)), (3, .int (xm_J x3))] [] := by
  induction n with
  | zero => intro σ x1 x2 x3 h1 h2 h3; exact xg_none
  | succ n ih => intro σ x1 x2 x3 h1 h2 h3; exact w_X11_reckon_b248 hC hQ hI hK296 ih σ x1 x2 x3 h1 h2 h3
theorem w_X11_reckon_b223 {X : xm_X} (hC : xm_C X yX11_reckon.cls cX11_reckon 4 6 0 0) (hQ : xm_Rt X 0 none 0 0) (hI : xx_I X = xm_I)   {self : xm_Mem → Int → Option xm_Out} (hself : ∀ (σ : xm_Mem) (x1 : Int), xm_in x1 → xm_V X 0 0 (self σ x1) σ 223 [(0, .ref (xm_B (xx_G X) + 84)), (1, .int (xm_J x1))] []) (σ : xm_Mem) (x1 : Int) (h1 : xm_in x1) : xm_V X 0 0 (f_X11_reckon_b223  self σ x1) σ 223 [(0, .ref (xm_B (xx_G X) + 84)), (1, .int (xm_J x1))] [] := by
  unfold f_X11_reckon_b223
  refine xg_iload_n hC dX11_reckon_223 rfl ?_
  refine xg_if_lt hC h1 302 dX11_reckon_224 rfl (fun c68 => ?_) (fun c69 => ?_)
  · exact xg_vret hC hQ dX11_reckon_302
  refine xg_aload_n hC dX11_reckon_227 rfl ?_
  refine xg_getW hC (b := 97) (xm_hK hI rfl) rfl (xm_wK hI rfl) (by decide) xl_F_X11_129 dX11_reckon_228 ?_
  refine xg_iload_n hC dX11_reckon_231 rfl ?_
  refine xg_iald hC (xm_hK hI rfl) rfl h1 dX11_reckon_232 (fun b70 k71 => ?_)
  refine xg_vI k71 (fun v72 k73 => ?_)
  refine xg_istore_n hC (l' := [(2, .int (xm_J v72)), (0, .ref (xm_B (xx_G X) + 84)), (1, .int (xm_J x1))]) dX11_reckon_233 (by decide) rfl ?_
  refine xg_aload_n hC dX11_reckon_234 rfl ?_
  refine xg_getW hC (b := 98) (xm_hK hI rfl) rfl (xm_wK hI rfl) (by decide) xl_F_X11_139 dX11_reckon_235 ?_
  refine xg_iload_n hC dX11_reckon_238 rfl ?_
  refine xg_iload_n hC dX11_reckon_239 rfl ?_
  refine xg_callS hC (w_X11_bit hI σ v72 k73) xl_M_X11_143 xl_S_X11_bit (by decide) ⟨by decide, by decide⟩ dX11_reckon_240 (rest := [.int (xm_J v72), .ref (xm_B (xx_G X) + 98)]) rfl rfl (Nat.le_of_ble_eq_true rfl) rfl rfl (st2 := fun o => .long (Int64.ofInt o.2) :: [.int (xm_J v72), .ref (xm_B (xx_G X) + 98)]) (fun _ => rfl) (fun o74 k75 => ?_)
  refine xg_last hC (xm_hK hI rfl) rfl k73 (xm_kp2 hI) dX11_reckon_243 ?_
  refine xg_st (fun σ76 => ?_)
  refine xg_iload_n hC dX11_reckon_244 rfl ?_
  refine xg_iconst hC dX11_reckon_245 ?_
  refine xg_iadd hC dX11_reckon_246 ?_
  refine xg_vI (xm_w_in _) (fun v77 k78 => ?_)
  refine xg_istore_n hC (l' := [(3, .int (xm_J v77)), (2, .int (xm_J v72)), (0, .ref (xm_B (xx_G X) + 84)), (1, .int (xm_J x1))]) dX11_reckon_247 (by decide) rfl ?_
  refine xg_pick [2, 3, 1, 0] rfl (w_X11_reckon_l248 hC hQ hI ?_ _ σ76 x1 v72 v77 h1 k73 k78)
  intro σ_97 x1_97 h1_97
  refine xg_iinc hC (l' := [(1, .int (xm_J (xm_w (x1_97 + (-1))))), (0, .ref (xm_B (xx_G X) + 84))]) dX11_reckon_296 (by decide) 1 rfl rfl ?_
  refine xg_goto hC 223 dX11_reckon_299 rfl ?_
  exact xg_pick [1, 0] rfl (hself σ_97 (xm_w (x1_97 + (-1))) (xm_w_in _))
theorem w_X11_reckon_l223 {X : xm_X} (hC : xm_C X yX11_reckon.cls cX11_reckon 4 6 0 0) (hQ : xm_Rt X 0 none 0 0) (hI : xx_I X = xm_I)   (n : Nat) : ∀ (σ : xm_Mem) (x1 : Int), xm_in x1 → xm_V X 0 0 (f_X11_reckon_l223  n σ x1) σ 223 [(0, .ref (xm_B (xx_G X) + 84)), (1, .int (xm_J x1))] [] := by
  induction n with
  | zero => intro σ x1 h1; exact xg_none
  | succ n ih => intro σ x1 h1; exact w_X11_reckon_b223 hC hQ hI ih σ x1 h1
theorem w_X11_reckon {Γ : xm_Gm} {I : xm_Mem → Prop} {la : Launch} (hE : I = xm_I) (σ : xm_Mem)   : ∀ o, f_X11_reckon σ  = some o → xm_M Γ I la yX11_reckon cX11_reckon 4 none 6 0 0 [.ref (xm_B Γ + 84)] σ 0 o := by
  refine xg_enter (by decide) (by simp [lg_sl, xm_rf_cat, xm_cati, xm_catr, xm_catl]) (fun X hG hI0 hla hC hQ hname => ?_)
  subst hG
  have hI := hI0.trans hE
  clear hI0 hla
  unfold f_X11_reckon
  refine xg_pick [0] (l' := [(0, .ref (xm_B (xx_G X) + 84))]) rfl ?_
  refine xg_aload_n hC dX11_reckon_0 rfl ?_
  refine xg_getZ hC (xm_hK hI rfl) rfl xl_F_X11_110 dX11_reckon_1 (fun k1 => ?_)
  refine xg_if_eq hC (xm_in01 k1) 8 dX11_reckon_4 rfl (fun c2 => ?_) (fun c3 => ?_)
  · refine xg_aload_n hC dX11_reckon_8 rfl ?_
    refine xg_iconst hC dX11_reckon_9 ?_
    refine xg_putZ hC (xm_hK hI rfl) rfl rfl (by decide) (xm_kpK hI rfl) xl_F_X11_110 dX11_reckon_10 ?_
    refine xg_st (fun σ4 => ?_)
    refine xg_aload_n hC dX11_reckon_13 rfl ?_
    refine xg_iconst hC dX11_reckon_14 ?_
    refine xg_putI hC (xm_hK hI rfl) rfl rfl (xm_inc _ rfl) (xm_kpK hI rfl) xl_F_X11_120 dX11_reckon_15 ?_
    refine xg_st (fun σ5 => ?_)
    refine xg_iconst hC dX11_reckon_18 ?_
    refine xg_istore_n hC (l' := [(1, .int (xm_J (0 : Int))), (0, .ref (xm_B (xx_G X) + 84))]) dX11_reckon_19 (by decide) rfl ?_
    refine xg_pick [1, 0] rfl (w_X11_reckon_l20 hC hQ hI ?_ _ σ5 (0 : Int) (xm_inc _ rfl))
    intro σ_41
    refine xg_iconst hC dX11_reckon_129 ?_
    refine xg_istore_n hC (l' := [(1, .int (xm_J (0 : Int))), (0, .ref (xm_B (xx_G X) + 84))]) dX11_reckon_130 (by decide) rfl ?_
    refine xg_pick [1, 0] rfl (w_X11_reckon_l131 hC hQ hI ?_ _ σ_41 (0 : Int) (xm_inc _ rfl))
    intro σ_45
    refine xg_iconst hC dX11_reckon_154 ?_
    refine xg_istore_n hC (l' := [(1, .int (xm_J (0 : Int))), (0, .ref (xm_B (xx_G X) + 84))]) dX11_reckon_155 (by decide) rfl ?_
    refine xg_pick [1, 0] rfl (w_X11_reckon_l156 hC hQ hI ?_ _ σ_45 (0 : Int) (xm_inc _ rfl))
    intro σ_64
    refine xg_aload_n hC dX11_reckon_216 rfl ?_
    refine xg_getI hC (xm_hK hI rfl) rfl xl_F_X11_120 dX11_reckon_217 (fun k65 => ?_)
    refine xg_iconst hC dX11_reckon_220 ?_
    refine xg_isub hC dX11_reckon_221 ?_
    refine xg_vI (xm_w_in _) (fun v66 k67 => ?_)
    refine xg_istore_n hC (l' := [(1, .int (xm_J v66)), (0, .ref (xm_B (xx_G X) + 84))]) dX11_reckon_222 (by decide) rfl ?_
    exact xg_pick [1, 0] rfl (w_X11_reckon_l223 hC hQ hI _ σ_64 v66 k67)
  exact xg_vret hC hQ dX11_reckon_7
theorem w_X11_hasYielded {Γ : xm_Gm} {I : xm_Mem → Prop} {la : Launch} (hE : I = xm_I) (σ : xm_Mem) (x1 : Int) (x2 : Int) (x3 : Int) (h1 : xm_in x1) (h2 : xm_in x2) (h3 : xm_in x3) : ∀ o, f_X11_hasYielded σ x1 x2 x3 = some o → xm_M Γ I la yX11_hasYielded cX11_hasYielded 4 (some .boolean) 1 0 0 [.ref (xm_B Γ + 84), .int (xm_J x1), .int (xm_J x2), .int (xm_J x3)] σ 2 o := by
  refine xg_enter (by decide) (by simp [lg_sl, xm_rf_cat, xm_cati, xm_catr, xm_catl]) (fun X hG hI0 hla hC hQ hname => ?_)
  subst hG
  have hI := hI0.trans hE
  clear hI0 hla
  unfold f_X11_hasYielded
  refine xg_pick [0, 1, 2, 3] (l' := [(0, .ref (xm_B (xx_G X) + 84)), (1, .int (xm_J x1)), (2, .int (xm_J x2)), (3, .int (xm_J x3))]) rfl ?_
  refine xg_aload_n hC dX11_hasYielded_0 rfl ?_
  refine xg_getW hC (b := 100) (xm_hK hI rfl) rfl (xm_wK hI rfl) (by decide) xl_F_X11_135 dX11_hasYielded_1 ?_
  refine xg_bipush hC dX11_hasYielded_4 (by decide) ?_
  refine xg_iload_n hC dX11_hasYielded_6 rfl ?_
  refine xg_imul hC dX11_hasYielded_7 ?_
  refine xg_iload_n hC dX11_hasYielded_8 rfl ?_
  refine xg_iadd hC dX11_hasYielded_9 ?_
  refine xg_vI (xm_w_in _) (fun v1 k2 => ?_)
  refine xg_iald hC (xm_hK hI rfl) rfl k2 dX11_hasYielded_10 (fun b3 k4 => ?_)
  refine xg_iload_n hC dX11_hasYielded_11 rfl ?_
  refine xg_icmp_gt hC k4 h3 19 dX11_hasYielded_12 rfl (fun c5 => ?_) (fun c6 => ?_)
  · refine xg_iconst hC dX11_hasYielded_19 ?_
    exact xg_zret hC hQ (by decide) dX11_hasYielded_20
  refine xg_iconst hC dX11_hasYielded_15 ?_
  refine xg_goto hC 20 dX11_hasYielded_16 rfl ?_
  exact xg_zret hC hQ (by decide) dX11_hasYielded_20
theorem w_X11_counts {Γ : xm_Gm} {I : xm_Mem → Prop} {la : Launch} (hE : I = xm_I) (σ : xm_Mem) (x1 : Int) (x2 : Int) (x3 : Int) (h1 : xm_in x1) (h2 : xm_in x2) (h3 : xm_in x3) : ∀ o, f_X11_counts σ x1 x2 x3 = some o → xm_M Γ I la yX11_counts cX11_counts 4 (some .boolean) 3 0 0 [.ref (xm_B Γ + 84), .int (xm_J x1), .int (xm_J x2), .int (xm_J x3)] σ 2 o := by
  refine xg_enter (by decide) (by simp [lg_sl, xm_rf_cat, xm_cati, xm_catr, xm_catl]) (fun X hG hI0 hla hC hQ hname => ?_)
  subst hG
  have hI := hI0.trans hE
  clear hI0 hla
  unfold f_X11_counts
  refine xg_pick [0, 1, 2, 3] (l' := [(0, .ref (xm_B (xx_G X) + 84)), (1, .int (xm_J x1)), (2, .int (xm_J x2)), (3, .int (xm_J x3))]) rfl ?_
  refine xg_aload_n hC dX11_counts_0 rfl ?_
  refine xg_iload_n hC dX11_counts_1 rfl ?_
  refine xg_iload_n hC dX11_counts_2 rfl ?_
  refine xg_callV hC (ci := 10) (w_X11_isAlive hI σ x1 x3 h1 h3) xl_M_X11_150 xl_V_X11_isAlive (xm_hK (a := 84) (kd := 0) (n := 10) hI rfl).2 ((xm_hK (a := 84) (kd := 0) (n := 10) hI rfl).1 _) (by decide) rfl (by decide) ⟨by decide, by decide⟩ dX11_counts_3 (rest := []) rfl rfl (Nat.le_of_ble_eq_true rfl) rfl rfl (st2 := fun o => .int (xm_J o.2) :: []) (fun _ => rfl) (fun o1 k2 => ?_)
  refine xg_if_eq hC (xm_in01 k2) 45 dX11_counts_6 rfl (fun c3 => ?_) (fun c4 => ?_)
  · refine xg_iconst hC dX11_counts_45 ?_
    exact xg_zret hC hQ (by decide) dX11_counts_46
  refine xg_aload_n hC dX11_counts_9 rfl ?_
  refine xg_iload_n hC dX11_counts_10 rfl ?_
  refine xg_iload_n hC dX11_counts_11 rfl ?_
  refine xg_iload_n hC dX11_counts_12 rfl ?_
  refine xg_callV hC (ci := 10) (w_X11_hasYielded hI o1.1 x1 x2 x3 h1 h2 h3) xl_M_X11_153 xl_V_X11_hasYielded (xm_hK (a := 84) (kd := 0) (n := 10) hI rfl).2 ((xm_hK (a := 84) (kd := 0) (n := 10) hI rfl).1 _) (by decide) rfl (by decide) ⟨by decide, by decide⟩ dX11_counts_13 (rest := []) rfl rfl (Nat.le_of_ble_eq_true rfl) rfl rfl (st2 := fun o => .int (xm_J o.2) :: []) (fun _ => rfl) (fun o5 k6 => ?_)
  refine xg_if_ne hC (xm_in01 k6) 45 dX11_counts_16 rfl (fun c7 => ?_) (fun c8 => ?_)
  · refine xg_aload_n hC dX11_counts_19 rfl ?_
    refine xg_getW hC (b := 91) (xm_hK hI rfl) rfl (xm_wK hI rfl) (by decide) xl_F_X11_28 dX11_counts_20 ?_
    refine xg_aload_n hC dX11_counts_23 rfl ?_
    refine xg_getW hC (b := 94) (xm_hK hI rfl) rfl (xm_wK hI rfl) (by decide) xl_F_X11_25 dX11_counts_24 ?_
    refine xg_iload_n hC dX11_counts_27 rfl ?_
    refine xg_iald hC (xm_hK hI rfl) rfl h2 dX11_counts_28 (fun b9 k10 => ?_)
    refine xg_vI k10 (fun v11 k12 => ?_)
    refine xg_iald hC (xm_hK hI rfl) rfl k12 dX11_counts_29 (fun b13 k14 => ?_)
    refine xg_if_ne hC k14 41 dX11_counts_30 rfl (fun c15 => ?_) (fun c16 => ?_)
    · refine xg_aload_n hC dX11_counts_33 rfl ?_
      refine xg_iload_n hC dX11_counts_34 rfl ?_
      refine xg_callV hC (ci := 10) (w_X11_isMale hI o5.1 x1 h1) xl_M_X11_85 xl_V_X11_isMale (xm_hK (a := 84) (kd := 0) (n := 10) hI rfl).2 ((xm_hK (a := 84) (kd := 0) (n := 10) hI rfl).1 _) (by decide) rfl (by decide) ⟨by decide, by decide⟩ dX11_counts_35 (rest := []) rfl rfl (Nat.le_of_ble_eq_true rfl) rfl rfl (st2 := fun o => .int (xm_J o.2) :: []) (fun _ => rfl) (fun o17 k18 => ?_)
      refine xg_if_eq hC (xm_in01 k18) 45 dX11_counts_38 rfl (fun c19 => ?_) (fun c20 => ?_)
      · refine xg_iconst hC dX11_counts_45 ?_
        exact xg_zret hC hQ (by decide) dX11_counts_46
      refine xg_iconst hC dX11_counts_41 ?_
      refine xg_goto hC 46 dX11_counts_42 rfl ?_
      exact xg_zret hC hQ (by decide) dX11_counts_46
    refine xg_iconst hC dX11_counts_41 ?_
    refine xg_goto hC 46 dX11_counts_42 rfl ?_
    exact xg_zret hC hQ (by decide) dX11_counts_46
  refine xg_iconst hC dX11_counts_45 ?_
  exact xg_zret hC hQ (by decide) dX11_counts_46
theorem w_X11_walk_b106 {X : xm_X} {d : Nat} (hC : xm_C X yX11_walk.cls cX11_walk 7 (d + 4 + 1) 0 0) (hQ : xm_Rt X 0 none 0 0) (hI : xx_I X = xm_I) {rec : xm_Mem → Int → Int → Int → Option xm_Out} (hrec : ∀ (σ : xm_Mem) (x1 : Int) (x2 : Int) (x3 : Int), xm_in x1 → xm_in x2 → xm_in x3 → ∀ o, rec σ x1 x2 x3 = some o → xm_M (xx_G X) (xx_I X) (xx_la X) yX11_walk cX11_walk 7 none (d + 4) 0 0 [.ref (xm_B (xx_G X) + 84), .int (xm_J x1), .int (xm_J x2), .int (xm_J x3)] σ 0 o) {K163 : xm_Mem → Option xm_Out} (hK163 : ∀ (σ : xm_Mem), xm_V X 0 0 (K163 σ ) σ 163 [] []) {self : xm_Mem → Int → Int → Int → Int → Option xm_Out} (hself : ∀ (σ : xm_Mem) (x1 : Int) (x2 : Int) (x3 : Int) (x6 : Int), xm_in x1 → xm_in x2 → xm_in x3 → xm_in x6 → xm_V X 0 0 (self σ x1 x2 x3 x6) σ 106 [(0, .ref (xm_B (xx_G X) + 84)), (1, .int (xm_J x1)), (2, .int (xm_J x2)), (3, .int (xm_J x3)), (6, .int (xm_J x6))] []) (σ : xm_Mem) (x1 : Int) (x2 : Int) (x3 : Int) (x6 : Int) (h1 : xm_in x1) (h2 : xm_in x2) (h3 : xm_in x3) (h6 : xm_in x6) : xm_V X 0 0 (f_X11_walk_b106 rec K163 self σ x1 x2 x3 x6) σ 106 [(0, .ref (xm_B (xx_G X) + 84)), (1, .int (xm_J x1)), (2, .int (xm_J x2)), (3, .int (xm_J x3)), (6, .int (xm_J x6))] [] := by
  unfold f_X11_walk_b106
  refine xg_iload hC dX11_walk_106 rfl ?_
  refine xg_aload_n hC dX11_walk_108 rfl ?_
  refine xg_getI hC (xm_hK hI rfl) rfl xl_F_X11_120 dX11_walk_109 (fun k30 => ?_)
  refine xg_icmp_ge hC h6 k30 163 dX11_walk_112 rfl (fun c31 => ?_) (fun c32 => ?_)
  · refine xg_aload_n hC dX11_walk_115 rfl ?_
    refine xg_aload_n hC dX11_walk_116 rfl ?_
    refine xg_getW hC (b := 97) (xm_hK hI rfl) rfl (xm_wK hI rfl) (by decide) xl_F_X11_129 dX11_walk_117 ?_
    refine xg_iload hC dX11_walk_120 rfl ?_
    refine xg_iald hC (xm_hK hI rfl) rfl h6 dX11_walk_122 (fun b33 k34 => ?_)
    refine xg_iload_n hC dX11_walk_123 rfl ?_
    refine xg_callV hC (ci := 10) (w_X11_isChild hI σ (σ.1 97 x6.toNat) x1 k34 h1) xl_M_X11_147 xl_V_X11_isChild (xm_hK (a := 84) (kd := 0) (n := 10) hI rfl).2 ((xm_hK (a := 84) (kd := 0) (n := 10) hI rfl).1 _) (by decide) rfl (by omega) ⟨by decide, by decide⟩ dX11_walk_124 (rest := []) rfl rfl (Nat.le_of_ble_eq_true rfl) rfl rfl (st2 := fun o => .int (xm_J o.2) :: []) (fun _ => rfl) (fun o35 k36 => ?_)
    refine xg_if_eq hC (xm_in01 k36) 157 dX11_walk_127 rfl (fun c37 => ?_) (fun c38 => ?_)
    · refine xg_iinc hC (l' := [(6, .int (xm_J (xm_w (x6 + 1)))), (0, .ref (xm_B (xx_G X) + 84)), (1, .int (xm_J x1)), (2, .int (xm_J x2)), (3, .int (xm_J x3))]) dX11_walk_157 (by decide) 4 rfl rfl ?_
      refine xg_goto hC 106 dX11_walk_160 rfl ?_
      exact xg_pick [1, 2, 3, 4, 0] rfl (hself o35.1 x1 x2 x3 (xm_w (x6 + 1)) h1 h2 h3 (xm_w_in _))
    refine xg_aload_n hC dX11_walk_130 rfl ?_
    refine xg_aload_n hC dX11_walk_131 rfl ?_
    refine xg_getW hC (b := 97) (xm_hK hI rfl) rfl (xm_wK hI rfl) (by decide) xl_F_X11_129 dX11_walk_132 ?_
    refine xg_iload hC dX11_walk_135 rfl ?_
    refine xg_iald hC (xm_hK hI rfl) rfl h6 dX11_walk_137 (fun b39 k40 => ?_)
    refine xg_callV hC (ci := 10) (w_X11_isMale hI o35.1 (o35.1.1 97 x6.toNat) k40) xl_M_X11_85 xl_V_X11_isMale (xm_hK (a := 84) (kd := 0) (n := 10) hI rfl).2 ((xm_hK (a := 84) (kd := 0) (n := 10) hI rfl).1 _) (by decide) rfl (by omega) ⟨by decide, by decide⟩ dX11_walk_138 (rest := []) rfl rfl (Nat.le_of_ble_eq_true rfl) rfl rfl (st2 := fun o => .int (xm_J o.2) :: []) (fun _ => rfl) (fun o41 k42 => ?_)
    refine xg_if_eq hC (xm_in01 k42) 157 dX11_walk_141 rfl (fun c43 => ?_) (fun c44 => ?_)
    · refine xg_iinc hC (l' := [(6, .int (xm_J (xm_w (x6 + 1)))), (0, .ref (xm_B (xx_G X) + 84)), (1, .int (xm_J x1)), (2, .int (xm_J x2)), (3, .int (xm_J x3))]) dX11_walk_157 (by decide) 4 rfl rfl ?_
      refine xg_goto hC 106 dX11_walk_160 rfl ?_
      exact xg_pick [1, 2, 3, 4, 0] rfl (hself o41.1 x1 x2 x3 (xm_w (x6 + 1)) h1 h2 h3 (xm_w_in _))
    refine xg_aload_n hC dX11_walk_144 rfl ?_
    refine xg_aload_n hC dX11_walk_145 rfl ?_
    refine xg_getW hC (b := 97) (xm_hK hI rfl) rfl (xm_wK hI rfl) (by decide) xl_F_X11_129 dX11_walk_146 ?_
    refine xg_iload hC dX11_walk_149 rfl ?_
    refine xg_iald hC (xm_hK hI rfl) rfl h6 dX11_walk_151 (fun b45 k46 => ?_)
    refine xg_iload_n hC dX11_walk_152 rfl ?_
    refine xg_iload_n hC dX11_walk_153 rfl ?_
    refine xg_callV hC (ci := 10) (hrec o41.1 (o41.1.1 97 x6.toNat) x2 x3 k46 h2 h3) xl_M_X11_169 xl_V_X11_walk (xm_hK (a := 84) (kd := 0) (n := 10) hI rfl).2 ((xm_hK (a := 84) (kd := 0) (n := 10) hI rfl).1 _) (by decide) rfl (by omega) ⟨by decide, by decide⟩ dX11_walk_154 (rest := []) rfl rfl (Nat.le_of_ble_eq_true rfl) rfl rfl (st2 := fun o => []) (fun _ => rfl) (fun o47 k48 => ?_)
    refine xg_iinc hC (l' := [(6, .int (xm_J (xm_w (x6 + 1)))), (0, .ref (xm_B (xx_G X) + 84)), (1, .int (xm_J x1)), (2, .int (xm_J x2)), (3, .int (xm_J x3))]) dX11_walk_157 (by decide) 4 rfl rfl ?_
    refine xg_goto hC 106 dX11_walk_160 rfl ?_
    exact xg_pick [1, 2, 3, 4, 0] rfl (hself o47.1 x1 x2 x3 (xm_w (x6 + 1)) h1 h2 h3 (xm_w_in _))
  exact xg_pick [] rfl (hK163 σ)
theorem w_X11_walk_l106 {X : xm_X} {d : Nat} (hC : xm_C X yX11_walk.cls cX11_walk 7 (d + 4 + 1) 0 0) (hQ : xm_Rt X 0 none 0 0) (hI : xx_I X = xm_I) {rec : xm_Mem → Int → Int → Int → Option xm_Out} (hrec : ∀ (σ : xm_Mem) (x1 : Int) (x2 : Int) (x3 : Int), xm_in x1 → xm_in x2 → xm_in x3 → ∀ o, rec σ x1 x2 x3 = some o → xm_M (xx_G X) (xx_I X) (xx_la X) yX11_walk cX11_walk 7 none (d + 4) 0 0 [.ref (xm_B (xx_G X) + 84), .int (xm_J x1), .int (xm_J x2), .int (xm_J x3)] σ 0 o) {K163 : xm_Mem → Option xm_Out} (hK163 : ∀ (σ : xm_Mem), xm_V X 0 0 (K163 σ ) σ 163 [] []) (n : Nat) : ∀ (σ : xm_Mem) (x1 : Int) (x2 : Int) (x3 : Int) (x6 : Int), xm_in x1 → xm_in x2 → xm_in x3 → xm_in x6 → xm_V X 0 0 (f_X11_walk_l106 rec K163 n σ x1 x2 x3 x6) σ 106 [(0, .ref (xm_B (xx_G X) + 84)), (1, .int (xm_J x1)), (2, .int (xm_J x2)), (3, .int (xm_J x3)), (6, .int (xm_J x6))] [] := by
  induction n with
  | zero => intro σ x1 x2 x3 x6 h1 h2 h3 h6; exact xg_none
  | succ n ih => intro σ x1 x2 x3 x6 h1 h2 h3 h6; exact w_X11_walk_b106 hC hQ hI hrec hK163 ih σ x1 x2 x3 x6 h1 h2 h3 h6
theorem w_X11_walk_b180 {X : xm_X} {d : Nat} (hC : xm_C X yX11_walk.cls cX11_walk 7 (d + 4 + 1) 0 0) (hQ : xm_Rt X 0 none 0 0) (hI : xx_I X = xm_I) {rec : xm_Mem → Int → Int → Int → Option xm_Out} (hrec : ∀ (σ : xm_Mem) (x1 : Int) (x2 : Int) (x3 : Int), xm_in x1 → xm_in x2 → xm_in x3 → ∀ o, rec σ x1 x2 x3 = some o → xm_M (xx_G X) (xx_I X) (xx_la X) yX11_walk cX11_walk 7 none (d + 4) 0 0 [.ref (xm_B (xx_G X) + 84), .int (xm_J x1), .int (xm_J x2), .int (xm_J x3)] σ 0 o) {K219 : xm_Mem → Option xm_Out} (hK219 : ∀ (σ : xm_Mem), xm_V X 0 0 (K219 σ ) σ 219 [] []) {self : xm_Mem → Int → Int → Int → Int → Option xm_Out} (hself : ∀ (σ : xm_Mem) (x1 : Int) (x2 : Int) (x3 : Int) (x6 : Int), xm_in x1 → xm_in x2 → xm_in x3 → xm_in x6 → xm_V X 0 0 (self σ x1 x2 x3 x6) σ 180 [(0, .ref (xm_B (xx_G X) + 84)), (1, .int (xm_J x1)), (2, .int (xm_J x2)), (3, .int (xm_J x3)), (6, .int (xm_J x6))] []) (σ : xm_Mem) (x1 : Int) (x2 : Int) (x3 : Int) (x6 : Int) (h1 : xm_in x1) (h2 : xm_in x2) (h3 : xm_in x3) (h6 : xm_in x6) : xm_V X 0 0 (f_X11_walk_b180 rec K219 self σ x1 x2 x3 x6) σ 180 [(0, .ref (xm_B (xx_G X) + 84)), (1, .int (xm_J x1)), (2, .int (xm_J x2)), (3, .int (xm_J x3)), (6, .int (xm_J x6))] [] := by
  unfold f_X11_walk_b180
  refine xg_iload hC dX11_walk_180 rfl ?_
  refine xg_if_lt hC h6 219 dX11_walk_182 rfl (fun c55 => ?_) (fun c56 => ?_)
  · exact xg_pick [] rfl (hK219 σ)
  refine xg_aload_n hC dX11_walk_185 rfl ?_
  refine xg_aload_n hC dX11_walk_186 rfl ?_
  refine xg_getW hC (b := 97) (xm_hK hI rfl) rfl (xm_wK hI rfl) (by decide) xl_F_X11_129 dX11_walk_187 ?_
  refine xg_iload hC dX11_walk_190 rfl ?_
  refine xg_iald hC (xm_hK hI rfl) rfl h6 dX11_walk_192 (fun b57 k58 => ?_)
  refine xg_iload_n hC dX11_walk_193 rfl ?_
  refine xg_callV hC (ci := 10) (w_X11_isChild hI σ (σ.1 97 x6.toNat) x1 k58 h1) xl_M_X11_147 xl_V_X11_isChild (xm_hK (a := 84) (kd := 0) (n := 10) hI rfl).2 ((xm_hK (a := 84) (kd := 0) (n := 10) hI rfl).1 _) (by decide) rfl (by omega) ⟨by decide, by decide⟩ dX11_walk_194 (rest := []) rfl rfl (Nat.le_of_ble_eq_true rfl) rfl rfl (st2 := fun o => .int (xm_J o.2) :: []) (fun _ => rfl) (fun o59 k60 => ?_)
  refine xg_if_eq hC (xm_in01 k60) 213 dX11_walk_197 rfl (fun c61 => ?_) (fun c62 => ?_)
  · refine xg_iinc hC (l' := [(6, .int (xm_J (xm_w (x6 + (-1))))), (0, .ref (xm_B (xx_G X) + 84)), (1, .int (xm_J x1)), (2, .int (xm_J x2)), (3, .int (xm_J x3))]) dX11_walk_213 (by decide) 4 rfl rfl ?_
    refine xg_goto hC 180 dX11_walk_216 rfl ?_
    exact xg_pick [1, 2, 3, 4, 0] rfl (hself o59.1 x1 x2 x3 (xm_w (x6 + (-1))) h1 h2 h3 (xm_w_in _))
  refine xg_aload_n hC dX11_walk_200 rfl ?_
  refine xg_aload_n hC dX11_walk_201 rfl ?_
  refine xg_getW hC (b := 97) (xm_hK hI rfl) rfl (xm_wK hI rfl) (by decide) xl_F_X11_129 dX11_walk_202 ?_
  refine xg_iload hC dX11_walk_205 rfl ?_
  refine xg_iald hC (xm_hK hI rfl) rfl h6 dX11_walk_207 (fun b63 k64 => ?_)
  refine xg_iload_n hC dX11_walk_208 rfl ?_
  refine xg_iload_n hC dX11_walk_209 rfl ?_
  refine xg_callV hC (ci := 10) (hrec o59.1 (o59.1.1 97 x6.toNat) x2 x3 k64 h2 h3) xl_M_X11_169 xl_V_X11_walk (xm_hK (a := 84) (kd := 0) (n := 10) hI rfl).2 ((xm_hK (a := 84) (kd := 0) (n := 10) hI rfl).1 _) (by decide) rfl (by omega) ⟨by decide, by decide⟩ dX11_walk_210 (rest := []) rfl rfl (Nat.le_of_ble_eq_true rfl) rfl rfl (st2 := fun o => []) (fun _ => rfl) (fun o65 k66 => ?_)
  refine xg_iinc hC (l' := [(6, .int (xm_J (xm_w (x6 + (-1))))), (0, .ref (xm_B (xx_G X) + 84)), (1, .int (xm_J x1)), (2, .int (xm_J x2)), (3, .int (xm_J x3))]) dX11_walk_213 (by decide) 4 rfl rfl ?_
  refine xg_goto hC 180 dX11_walk_216 rfl ?_
  exact xg_pick [1, 2, 3, 4, 0] rfl (hself o65.1 x1 x2 x3 (xm_w (x6 + (-1))) h1 h2 h3 (xm_w_in _))
theorem w_X11_walk_l180 {X : xm_X} {d : Nat} (hC : xm_C X yX11_walk.cls cX11_walk 7 (d + 4 + 1) 0 0) (hQ : xm_Rt X 0 none 0 0) (hI : xx_I X = xm_I) {rec : xm_Mem → Int → Int → Int → Option xm_Out} (hrec : ∀ (σ : xm_Mem) (x1 : Int) (x2 : Int) (x3 : Int), xm_in x1 → xm_in x2 → xm_in x3 → ∀ o, rec σ x1 x2 x3 = some o → xm_M (xx_G X) (xx_I X) (xx_la X) yX11_walk cX11_walk 7 none (d + 4) 0 0 [.ref (xm_B (xx_G X) + 84), .int (xm_J x1), .int (xm_J x2), .int (xm_J x3)] σ 0 o) {K219 : xm_Mem → Option xm_Out} (hK219 : ∀ (σ : xm_Mem), xm_V X 0 0 (K219 σ ) σ 219 [] []) (n : Nat) : ∀ (σ : xm_Mem) (x1 : Int) (x2 : Int) (x3 : Int) (x6 : Int), xm_in x1 → xm_in x2 → xm_in x3 → xm_in x6 → xm_V X 0 0 (f_X11_walk_l180 rec K219 n σ x1 x2 x3 x6) σ 180 [(0, .ref (xm_B (xx_G X) + 84)), (1, .int (xm_J x1)), (2, .int (xm_J x2)), (3, .int (xm_J x3)), (6, .int (xm_J x6))] [] := by
  induction n with
  | zero => intro σ x1 x2 x3 x6 h1 h2 h3 h6; exact xg_none
  | succ n ih => intro σ x1 x2 x3 x6 h1 h2 h3 h6; exact w_X11_walk_b180 hC hQ hI hrec hK219 ih σ x1 x2 x3 x6 h1 h2 h3 h6
theorem w_X11_walk_j268 {X : xm_X} {d : Nat} (hC : xm_C X yX11_walk.cls cX11_walk 7 (d + 4 + 1) 0 0) (hQ : xm_Rt X 0 none 0 0) (hI : xx_I X = xm_I) {rec : xm_Mem → Int → Int → Int → Option xm_Out} (hrec : ∀ (σ : xm_Mem) (x1 : Int) (x2 : Int) (x3 : Int), xm_in x1 → xm_in x2 → xm_in x3 → ∀ o, rec σ x1 x2 x3 = some o → xm_M (xx_G X) (xx_I X) (xx_la X) yX11_walk cX11_walk 7 none (d + 4) 0 0 [.ref (xm_B (xx_G X) + 84), .int (xm_J x1), .int (xm_J x2), .int (xm_J x3)] σ 0 o) {K225 : xm_Mem → Int → Int → Int → Int → Int → Option xm_Out} (hK225 : ∀ (σ : xm_Mem) (x1 : Int) (x2 : Int) (x3 : Int) (x5 : Int) (x6 : Int), xm_in x1 → xm_in x2 → xm_in x3 → 0 ≤ x5 ∧ x5 ≤ 1 → xm_in x6 → xm_V X 0 0 (K225 σ x1 x2 x3 x5 x6) σ 225 [(0, .ref (xm_B (xx_G X) + 84)), (1, .int (xm_J x1)), (2, .int (xm_J x2)), (3, .int (xm_J x3)), (5, .int (xm_J x5)), (6, .int (xm_J x6))] []) (σ : xm_Mem) (x1 : Int) (x2 : Int) (x3 : Int) (x5 : Int) (x6 : Int) (h1 : xm_in x1) (h2 : xm_in x2) (h3 : xm_in x3) (h5 : 0 ≤ x5 ∧ x5 ≤ 1) (h6 : xm_in x6) : xm_V X 0 0 (f_X11_walk_j268 rec K225 σ x1 x2 x3 x5 x6) σ 268 [(0, .ref (xm_B (xx_G X) + 84)), (1, .int (xm_J x1)), (2, .int (xm_J x2)), (3, .int (xm_J x3)), (5, .int (xm_J x5)), (6, .int (xm_J x6))] [] := by
  unfold f_X11_walk_j268
  refine xg_aload_n hC dX11_walk_268 rfl ?_
  refine xg_aload_n hC dX11_walk_269 rfl ?_
  refine xg_getW hC (b := 97) (xm_hK hI rfl) rfl (xm_wK hI rfl) (by decide) xl_F_X11_129 dX11_walk_270 ?_
  refine xg_iload hC dX11_walk_273 rfl ?_
  refine xg_iald hC (xm_hK hI rfl) rfl h6 dX11_walk_275 (fun b79 k80 => ?_)
  refine xg_iload_n hC dX11_walk_276 rfl ?_
  refine xg_iload_n hC dX11_walk_277 rfl ?_
  refine xg_callV hC (ci := 10) (hrec σ (σ.1 97 x6.toNat) x2 x3 k80 h2 h3) xl_M_X11_169 xl_V_X11_walk (xm_hK (a := 84) (kd := 0) (n := 10) hI rfl).2 ((xm_hK (a := 84) (kd := 0) (n := 10) hI rfl).1 _) (by decide) rfl (by omega) ⟨by decide, by decide⟩ dX11_walk_278 (rest := []) rfl rfl (Nat.le_of_ble_eq_true rfl) rfl rfl (st2 := fun o => []) (fun _ => rfl) (fun o81 k82 => ?_)
  refine xg_iinc hC (l' := [(6, .int (xm_J (xm_w (x6 + 1)))), (0, .ref (xm_B (xx_G X) + 84)), (1, .int (xm_J x1)), (2, .int (xm_J x2)), (3, .int (xm_J x3)), (5, .int (xm_J x5))]) dX11_walk_281 (by decide) 5 rfl rfl ?_
  refine xg_goto hC 225 dX11_walk_284 rfl ?_
  exact xg_pick [1, 2, 3, 4, 5, 0] rfl (hK225 o81.1 x1 x2 x3 x5 (xm_w (x6 + 1)) h1 h2 h3 h5 (xm_w_in _))
