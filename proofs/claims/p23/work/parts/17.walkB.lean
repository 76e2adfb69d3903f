/-! ===== walks of the class (written by program) ===== -/
theorem w_X7_nextPart_l4 {X : xm_X} (hC : xm_C X yX7_nextPart.cls cX7_nextPart 5 3 0 0) (hQ : xm_Rt X 1 (some .int) 0 0) (hI : xx_I X = xm_I)   (n : Nat) : ∀ (σ : xm_Mem) (x1 : Int) (x2 : Int) (x3 : Int), 0 ≤ x1 ∧ xm_in x1 → xm_in x2 → xm_in x3 → xm_V X 0 0 (f_X7_nextPart_l4  n σ x1 x2 x3) σ 4 [(0, .ref (xm_ad (xx_G X) 5)), (1, xm_rf (xx_G X) x1), (2, .int (xm_J x2)), (3, .int (xm_J x3))] [] := by
  induction n with
  | zero => intro σ x1 x2 x3 h1 h2 h3; exact xg_none
  | succ n ih => intro σ x1 x2 x3 h1 h2 h3; exact w_X7_nextPart_b4 hC hQ hI ih σ x1 x2 x3 h1 h2 h3
theorem w_X7_nextPart {Γ : xm_Gm} {I : xm_Mem → Prop} {la : Launch} (hE : I = xm_I) (σ : xm_Mem) (x1 : Int) (h1 : 0 ≤ x1 ∧ xm_in x1) : ∀ o, f_X7_nextPart σ x1 = some o → xm_M Γ I la yX7_nextPart cX7_nextPart 5 (some .int) 3 0 0 [.ref (xm_ad Γ 5), xm_rf Γ x1] σ 1 o := by
  refine xg_enter (by decide) (by simp [lg_sl, xm_rf_cat, xm_cati, xm_catr, xm_catl]) (fun X hG hI0 hla hC hQ hname => ?_)
  subst hG
  have hI := hI0.trans hE
  clear hI0 hla
  unfold f_X7_nextPart
  refine xg_pick [0, 1] (l' := [(0, .ref (xm_ad (xx_G X) 5)), (1, xm_rf (xx_G X) x1)]) (by simp [lv_args, lv_pick, xm_rf_cat, xm_cati, xm_catr, xm_catl]) ?_
  refine xg_iconst hC dX7_nextPart_0 ?_
  refine xg_istore_n hC (l' := [(2, .int (xm_J (-1 : Int))), (0, .ref (xm_ad (xx_G X) 5)), (1, xm_rf (xx_G X) x1)]) dX7_nextPart_1 (by decide) (by simp [xm_rf_cat, xm_cati, xm_catr, xm_catl] <;> decide) ?_
  refine xg_iconst hC dX7_nextPart_2 ?_
  refine xg_istore_n hC (l' := [(3, .int (xm_J (0 : Int))), (2, .int (xm_J (-1 : Int))), (0, .ref (xm_ad (xx_G X) 5)), (1, xm_rf (xx_G X) x1)]) dX7_nextPart_3 (by decide) rfl ?_
  exact xg_pick [2, 3, 1, 0] rfl (w_X7_nextPart_l4 hC hQ hI _ σ x1 (-1 : Int) (0 : Int) ⟨h1.1, h1.2⟩ (xm_inc _ rfl) (xm_inc _ rfl))
theorem w_X5_deadOn {Γ : xm_Gm} {I : xm_Mem → Prop} {la : Launch} (hE : I = xm_I) (σ : xm_Mem) (x1 : Int) (h1 : xm_in x1) : ∀ o, f_X5_deadOn σ x1 = some o → xm_M Γ I la yX5_deadOn cX5_deadOn 2 (some .int) 2 0 0 [.ref (xm_ad Γ 9), .int (xm_J x1)] σ 1 o := by
  refine xg_enter (by decide) (by simp [lg_sl, xm_rf_cat, xm_cati, xm_catr, xm_catl]) (fun X hG hI0 hla hC hQ hname => ?_)
  subst hG
  have hI := hI0.trans hE
  clear hI0 hla
  unfold f_X5_deadOn
  refine xg_pick [0, 1] (l' := [(0, .ref (xm_ad (xx_G X) 9)), (1, .int (xm_J x1))]) rfl ?_
  refine xg_iload_n hC dX5_deadOn_0 rfl ?_
  refine xg_callSN hC (w_X10_isPersonNumber hI σ x1 h1) xl_N_X5_53 xl_S_X10_isPersonNumber (by decide) ⟨by decide, by decide⟩ dX5_deadOn_1 (rest := []) rfl rfl (Nat.le_of_ble_eq_true rfl) rfl rfl (st2 := fun o => .int (xm_J o.2) :: []) (fun _ => rfl) (fun o1 k2 => ?_)
  refine xg_if_eq hC (xm_in01 k2) 16 dX5_deadOn_4 rfl (fun c3 => ?_) (fun c4 => ?_)
  · refine xg_iconst hC dX5_deadOn_16 ?_
    exact xg_iret hC hQ (xm_inc _ rfl) dX5_deadOn_17
  refine xg_aload_n hC dX5_deadOn_7 rfl ?_
  refine xg_getW hC (b := 13) (xm_hK hI rfl) rfl (xm_wK hI rfl) (by decide) xl_F_X5_22 dX5_deadOn_8 ?_
  refine xg_iload_n hC dX5_deadOn_11 rfl ?_
  refine xg_iald hC (xm_hK hI rfl) rfl h1 dX5_deadOn_12 (fun b5 k6 => ?_)
  refine xg_goto hC 17 dX5_deadOn_13 rfl ?_
  exact xg_iret hC hQ k6 dX5_deadOn_17
theorem w_X9_earlier {Γ : xm_Gm} {I : xm_Mem → Prop} {la : Launch} (hE : I = xm_I) (σ : xm_Mem) (x0 : Int) (x1 : Int) (h0 : xm_in x0) (h1 : xm_in x1) : ∀ o, f_X9_earlier σ x0 x1 = some o → xm_M Γ I la yX9_earlier cX9_earlier 2 (some .int) 1 0 0 [.int (xm_J x0), .int (xm_J x1)] σ 1 o := by
  refine xg_enter (by decide) (by simp [lg_sl, xm_rf_cat, xm_cati, xm_catr, xm_catl]) (fun X hG hI0 hla hC hQ hname => ?_)
  subst hG
  have hI := hI0.trans hE
  clear hI0 hla
  unfold f_X9_earlier
  refine xg_pick [0, 1] (l' := [(0, .int (xm_J x0)), (1, .int (xm_J x1))]) rfl ?_
  refine xg_iload_n hC dX9_earlier_0 rfl ?_
  refine xg_iconst hC dX9_earlier_1 ?_
  refine xg_icmp_eq hC h1 (xm_inc _ rfl) 14 dX9_earlier_2 rfl (fun c1 => ?_) (fun c2 => ?_)
  · refine xg_iload_n hC dX9_earlier_14 rfl ?_
    exact xg_iret hC hQ h0 dX9_earlier_15
  refine xg_iload_n hC dX9_earlier_5 rfl ?_
  refine xg_iload_n hC dX9_earlier_6 rfl ?_
  refine xg_icmp_ge hC h1 h0 14 dX9_earlier_7 rfl (fun c3 => ?_) (fun c4 => ?_)
  · refine xg_iload_n hC dX9_earlier_10 rfl ?_
    refine xg_goto hC 15 dX9_earlier_11 rfl ?_
    exact xg_iret hC hQ h1 dX9_earlier_15
  refine xg_iload_n hC dX9_earlier_14 rfl ?_
  exact xg_iret hC hQ h0 dX9_earlier_15
theorem w_X9_lastDay_j21 {X : xm_X} (hC : xm_C X yX9_lastDay.cls cX9_lastDay 5 4 0 0) (hQ : xm_Rt X 1 (some .int) 0 0) (hI : xx_I X = xm_I)   (σ : xm_Mem) (x0 : Int) (x3 : Int) (h0 : 0 ≤ x0 ∧ xm_in x0) (h3 : xm_in x3) : xm_V X 0 0 (f_X9_lastDay_j21  σ x0 x3) σ 21 [(0, xm_rf (xx_G X) x0), (2, .ref (xm_ad (xx_G X) 9)), (3, .int (xm_J x3))] [] := by
  unfold f_X9_lastDay_j21
  refine xg_iload_n hC dX9_lastDay_21 rfl ?_
  refine xg_aload_n hC dX9_lastDay_22 rfl ?_
  refine xg_rload_n hC dX9_lastDay_23 rfl ?_
  refine xg_sgetI hC rfl xl_F_X9_42 dX9_lastDay_24 (fun k5 => ?_)
  refine xg_callV hC (ci := 4) (w_X5_deadOn hI σ (σ.1 x0.toNat 2) k5) xl_M_X9_60 xl_V_X5_deadOn (xm_hK (a := 9) (kd := 0) (n := 4) hI rfl).2 ((xm_hK (a := 9) (kd := 0) (n := 4) hI rfl).1 _) (by decide) rfl (by decide) ⟨by decide, by decide⟩ dX9_lastDay_27 (rest := [.int (xm_J x3)]) rfl rfl (Nat.le_of_ble_eq_true rfl) rfl rfl (st2 := fun o => .int (xm_J o.2) :: [.int (xm_J x3)]) (fun _ => rfl) (fun o6 k7 => ?_)
  refine xg_callS hC (w_X9_earlier hI o6.1 x3 o6.2 h3 k7) xl_M_X9_66 xl_S_X9_earlier (by decide) ⟨by decide, by decide⟩ dX9_lastDay_30 (rest := []) rfl rfl (Nat.le_of_ble_eq_true rfl) rfl rfl (st2 := fun o => .int (xm_J o.2) :: []) (fun _ => rfl) (fun o8 k9 => ?_)
  refine xg_istore_n hC (l' := [(3, .int (xm_J o8.2)), (0, xm_rf (xx_G X) x0), (2, .ref (xm_ad (xx_G X) 9))]) dX9_lastDay_33 (by decide) rfl ?_
  refine xg_iload_n hC dX9_lastDay_34 rfl ?_
  refine xg_aload_n hC dX9_lastDay_35 rfl ?_
  refine xg_rload_n hC dX9_lastDay_36 rfl ?_
  refine xg_sgetI hC rfl xl_F_X9_45 dX9_lastDay_37 (fun k10 => ?_)
  refine xg_callV hC (ci := 4) (w_X5_deadOn hI o8.1 (o8.1.1 x0.toNat 3) k10) xl_M_X9_60 xl_V_X5_deadOn (xm_hK (a := 9) (kd := 0) (n := 4) hI rfl).2 ((xm_hK (a := 9) (kd := 0) (n := 4) hI rfl).1 _) (by decide) rfl (by decide) ⟨by decide, by decide⟩ dX9_lastDay_40 (rest := [.int (xm_J o8.2)]) rfl rfl (Nat.le_of_ble_eq_true rfl) rfl rfl (st2 := fun o => .int (xm_J o.2) :: [.int (xm_J o8.2)]) (fun _ => rfl) (fun o11 k12 => ?_)
  refine xg_callS hC (w_X9_earlier hI o11.1 o8.2 o11.2 k9 k12) xl_M_X9_66 xl_S_X9_earlier (by decide) ⟨by decide, by decide⟩ dX9_lastDay_43 (rest := []) rfl rfl (Nat.le_of_ble_eq_true rfl) rfl rfl (st2 := fun o => .int (xm_J o.2) :: []) (fun _ => rfl) (fun o13 k14 => ?_)
  exact xg_iret hC hQ k14 dX9_lastDay_46
theorem w_X9_lastDay {Γ : xm_Gm} {I : xm_Mem → Prop} {la : Launch} (hE : I = xm_I) (σ : xm_Mem) (x0 : Int) (h0 : 0 ≤ x0 ∧ xm_in x0) : ∀ o, f_X9_lastDay σ x0 = some o → xm_M Γ I la yX9_lastDay cX9_lastDay 5 (some .int) 4 0 0 [xm_rf Γ x0, .ref (xm_ad Γ 5), .ref (xm_ad Γ 9)] σ 1 o := by
  refine xg_enter (by decide) (by simp [lg_sl, xm_rf_cat, xm_cati, xm_catr, xm_catl]) (fun X hG hI0 hla hC hQ hname => ?_)
  subst hG
  have hI := hI0.trans hE
  clear hI0 hla
  unfold f_X9_lastDay
  refine xg_pick [0, 1, 2] (l' := [(0, xm_rf (xx_G X) x0), (1, .ref (xm_ad (xx_G X) 5)), (2, .ref (xm_ad (xx_G X) 9))]) (by simp [lv_args, lv_pick, xm_rf_cat, xm_cati, xm_catr, xm_catl]) ?_
  refine xg_ldc hC dX9_lastDay_0 xl_C_X9_55 ?_
  refine xg_istore_n hC (l' := [(3, .int (xm_J (99999 : Int))), (0, xm_rf (xx_G X) x0), (1, .ref (xm_ad (xx_G X) 5)), (2, .ref (xm_ad (xx_G X) 9))]) dX9_lastDay_2 (by decide) rfl ?_
  refine xg_aload_n hC dX9_lastDay_3 rfl ?_
  refine xg_rload_n hC dX9_lastDay_4 rfl ?_
  refine xg_callV hC (ci := 6) (w_X7_nextPart hI σ x0 ⟨h0.1, h0.2⟩) xl_M_X9_56 xl_V_X7_nextPart (xm_hK (a := 5) (kd := 0) (n := 6) hI rfl).2 ((xm_hK (a := 5) (kd := 0) (n := 6) hI rfl).1 _) (by decide) rfl (by decide) ⟨by decide, by decide⟩ dX9_lastDay_5 (rest := []) rfl rfl (Nat.le_of_ble_eq_true rfl) rfl rfl (st2 := fun o => .int (xm_J o.2) :: []) (fun _ => rfl) (fun o1 k2 => ?_)
  refine xg_istore hC (l' := [(4, .int (xm_J o1.2)), (3, .int (xm_J (99999 : Int))), (0, xm_rf (xx_G X) x0), (1, .ref (xm_ad (xx_G X) 5)), (2, .ref (xm_ad (xx_G X) 9))]) dX9_lastDay_8 (by decide) rfl ?_
  refine xg_iload hC dX9_lastDay_10 rfl ?_
  refine xg_iconst hC dX9_lastDay_12 ?_
  refine xg_icmp_eq hC k2 (xm_inc _ rfl) 21 dX9_lastDay_13 rfl (fun c3 => ?_) (fun c4 => ?_)
  · exact xg_pick [2, 4, 1] rfl (w_X9_lastDay_j21 hC hQ hI o1.1 x0 (99999 : Int) ⟨h0.1, h0.2⟩ (xm_inc _ rfl))
  refine xg_iload hC dX9_lastDay_16 rfl ?_
  refine xg_iconst hC dX9_lastDay_18 ?_
  refine xg_isub hC dX9_lastDay_19 ?_
  refine xg_vI (xm_w_in _) (fun v15 k16 => ?_)
  refine xg_istore_n hC (l' := [(3, .int (xm_J v15)), (4, .int (xm_J o1.2)), (0, xm_rf (xx_G X) x0), (1, .ref (xm_ad (xx_G X) 5)), (2, .ref (xm_ad (xx_G X) 9))]) dX9_lastDay_20 (by decide) rfl ?_
  exact xg_pick [2, 4, 0] rfl (w_X9_lastDay_j21 hC hQ hI o1.1 x0 v15 ⟨h0.1, h0.2⟩ k16)
theorem w_X9_rebuild_b7 {X : xm_X} (hC : xm_C X yX9_rebuild.cls cX9_rebuild 5 5 0 0) (hQ : xm_Rt X 0 none 0 0) (hI : xx_I X = xm_I)   {self : xm_Mem → Int → Option xm_Out} (hself : ∀ (σ : xm_Mem) (x3 : Int), xm_in x3 → xm_V X 0 0 (self σ x3) σ 7 [(0, .ref (xm_ad (xx_G X) 18)), (1, .ref (xm_ad (xx_G X) 5)), (2, .ref (xm_ad (xx_G X) 9)), (3, .int (xm_J x3))] []) (σ : xm_Mem) (x3 : Int) (h3 : xm_in x3) : xm_V X 0 0 (f_X9_rebuild_b7  self σ x3) σ 7 [(0, .ref (xm_ad (xx_G X) 18)), (1, .ref (xm_ad (xx_G X) 5)), (2, .ref (xm_ad (xx_G X) 9)), (3, .int (xm_J x3))] [] := by
  unfold f_X9_rebuild_b7
  refine xg_iload_n hC dX9_rebuild_7 rfl ?_
  refine xg_aload_n hC dX9_rebuild_8 rfl ?_
  refine xg_callV hC (ci := 6) (w_X7_size hI σ ) xl_M_X9_28 xl_V_X7_size (xm_hK (a := 5) (kd := 0) (n := 6) hI rfl).2 ((xm_hK (a := 5) (kd := 0) (n := 6) hI rfl).1 _) (by decide) rfl (by decide) ⟨by decide, by decide⟩ dX9_rebuild_9 (rest := [.int (xm_J x3)]) rfl rfl (Nat.le_of_ble_eq_true rfl) rfl rfl (st2 := fun o => .int (xm_J o.2) :: [.int (xm_J x3)]) (fun _ => rfl) (fun o2 k3 => ?_)
  refine xg_icmp_ge hC h3 k3 123 dX9_rebuild_12 rfl (fun c4 => ?_) (fun c5 => ?_)
  · refine xg_aload_n hC dX9_rebuild_15 rfl ?_
    refine xg_iload_n hC dX9_rebuild_16 rfl ?_
    refine xg_callV hC (ci := 6) (w_X7_standing hI o2.1 x3 h3) xl_M_X9_33 xl_V_X7_standing (xm_hK (a := 5) (kd := 0) (n := 6) hI rfl).2 ((xm_hK (a := 5) (kd := 0) (n := 6) hI rfl).1 _) (by decide) rfl (by decide) ⟨by decide, by decide⟩ dX9_rebuild_17 (rest := []) rfl rfl (Nat.le_of_ble_eq_true rfl) rfl rfl (st2 := fun o => xm_rf (xx_G X) o.2 :: []) (fun _ => rfl) (fun o6 k7 => ?_)
    refine xg_vR k7 (fun v8 k9 => ?_)
    refine xg_rstore hC (l' := [(4, xm_rf (xx_G X) v8), (0, .ref (xm_ad (xx_G X) 18)), (1, .ref (xm_ad (xx_G X) 5)), (2, .ref (xm_ad (xx_G X) 9)), (3, .int (xm_J x3))]) dX9_rebuild_20 (by decide) rfl ?_
    refine xg_rload hC dX9_rebuild_22 rfl ?_
    refine xg_ifnull hC 117 dX9_rebuild_24 rfl (fun c10 => ?_) (fun c11 => ?_)
    · refine xg_iinc hC (l' := [(3, .int (xm_J (xm_w (x3 + 1)))), (4, xm_rf (xx_G X) v8), (0, .ref (xm_ad (xx_G X) 18)), (1, .ref (xm_ad (xx_G X) 5)), (2, .ref (xm_ad (xx_G X) 9))]) dX9_rebuild_117 (by decide) 4 rfl rfl ?_
      refine xg_goto hC 7 dX9_rebuild_120 rfl ?_
      exact xg_pick [2, 3, 4, 0] rfl (hself o6.1 (xm_w (x3 + 1)) (xm_w_in _))
    refine xg_rload hC dX9_rebuild_27 rfl ?_
    refine xg_sgetI hC rfl xl_F_X9_37 dX9_rebuild_29 (fun k12 => ?_)
    refine xg_iconst hC dX9_rebuild_32 ?_
    refine xg_icmp_ne hC k12 (xm_inc _ rfl) 117 dX9_rebuild_33 rfl (fun c13 => ?_) (fun c14 => ?_)
    · refine xg_aload_n hC dX9_rebuild_36 rfl ?_
      refine xg_getI hC (xm_hK hI rfl) rfl xl_F_X9_24 dX9_rebuild_37 (fun k15 => ?_)
      refine xg_sipush hC dX9_rebuild_40 (by decide) ?_
      refine xg_icmp_lt hC k15 (xm_inc _ rfl) 49 dX9_rebuild_43 rfl (fun c16 => ?_) (fun c17 => ?_)
      · refine xg_aload_n hC dX9_rebuild_49 rfl ?_
        refine xg_getW hC (b := 19) (xm_hK hI rfl) rfl (xm_wK hI rfl) (by decide) xl_F_X9_9 dX9_rebuild_50 ?_
        refine xg_aload_n hC dX9_rebuild_53 rfl ?_
        refine xg_getI hC (xm_hK hI rfl) rfl xl_F_X9_24 dX9_rebuild_54 (fun k18 => ?_)
        refine xg_rload hC dX9_rebuild_57 rfl ?_
        refine xg_sgetI hC rfl xl_F_X9_42 dX9_rebuild_59 (fun k19 => ?_)
        refine xg_iast hC (xm_hK hI rfl) rfl k18 k19 (xm_kpF hI rfl) dX9_rebuild_62 ?_
        refine xg_st (fun σ20 => ?_)
        refine xg_aload_n hC dX9_rebuild_63 rfl ?_
        refine xg_getW hC (b := 20) (xm_hK hI rfl) rfl (xm_wK hI rfl) (by decide) xl_F_X9_15 dX9_rebuild_64 ?_
        refine xg_aload_n hC dX9_rebuild_67 rfl ?_
        refine xg_getI hC (xm_hK hI rfl) rfl xl_F_X9_24 dX9_rebuild_68 (fun k21 => ?_)
        refine xg_rload hC dX9_rebuild_71 rfl ?_
        refine xg_sgetI hC rfl xl_F_X9_45 dX9_rebuild_73 (fun k22 => ?_)
        refine xg_iast hC (xm_hK hI rfl) rfl k21 k22 (xm_kpF hI rfl) dX9_rebuild_76 ?_
        refine xg_st (fun σ23 => ?_)
        refine xg_aload_n hC dX9_rebuild_77 rfl ?_
        refine xg_getW hC (b := 21) (xm_hK hI rfl) rfl (xm_wK hI rfl) (by decide) xl_F_X9_18 dX9_rebuild_78 ?_
        refine xg_aload_n hC dX9_rebuild_81 rfl ?_
        refine xg_getI hC (xm_hK hI rfl) rfl xl_F_X9_24 dX9_rebuild_82 (fun k24 => ?_)
        refine xg_rload hC dX9_rebuild_85 rfl ?_
        refine xg_sgetI hC rfl xl_F_X9_48 dX9_rebuild_87 (fun k25 => ?_)
        refine xg_iast hC (xm_hK hI rfl) rfl k24 k25 (xm_kpF hI rfl) dX9_rebuild_90 ?_
        refine xg_st (fun σ26 => ?_)
        refine xg_aload_n hC dX9_rebuild_91 rfl ?_
        refine xg_getW hC (b := 22) (xm_hK hI rfl) rfl (xm_wK hI rfl) (by decide) xl_F_X9_21 dX9_rebuild_92 ?_
        refine xg_aload_n hC dX9_rebuild_95 rfl ?_
        refine xg_getI hC (xm_hK hI rfl) rfl xl_F_X9_24 dX9_rebuild_96 (fun k27 => ?_)
        refine xg_rload hC dX9_rebuild_99 rfl ?_
        refine xg_aload_n hC dX9_rebuild_101 rfl ?_
        refine xg_aload_n hC dX9_rebuild_102 rfl ?_
        refine xg_callS hC (w_X9_lastDay hI σ26 v8 ⟨k9.1, k9.2⟩) xl_M_X9_51 xl_S_X9_lastDay (by decide) ⟨by decide, by decide⟩ dX9_rebuild_103 (rest := [.int (xm_J (σ26.1 18 4)), .ref (xm_ad (xx_G X) 22)]) rfl rfl (Nat.le_of_ble_eq_true rfl) rfl rfl (st2 := fun o => .int (xm_J o.2) :: [.int (xm_J (σ26.1 18 4)), .ref (xm_ad (xx_G X) 22)]) (fun _ => rfl) (fun o28 k29 => ?_)
        refine xg_iast hC (xm_hK hI rfl) rfl k27 k29 (xm_kpF hI rfl) dX9_rebuild_106 ?_
        refine xg_st (fun σ30 => ?_)
        refine xg_aload_n hC dX9_rebuild_107 rfl ?_
        refine xg_dup hC dX9_rebuild_108 rfl ?_
        refine xg_getI hC (xm_hK hI rfl) rfl xl_F_X9_24 dX9_rebuild_109 (fun k31 => ?_)
        refine xg_iconst hC dX9_rebuild_112 ?_
        refine xg_iadd hC dX9_rebuild_113 ?_
        refine xg_putI hC (xm_hK hI rfl) rfl rfl (xm_w_in _) (xm_kpK hI rfl) xl_F_X9_24 dX9_rebuild_114 ?_
        refine xg_st (fun σ32 => ?_)
        refine xg_iinc hC (l' := [(3, .int (xm_J (xm_w (x3 + 1)))), (4, xm_rf (xx_G X) v8), (0, .ref (xm_ad (xx_G X) 18)), (1, .ref (xm_ad (xx_G X) 5)), (2, .ref (xm_ad (xx_G X) 9))]) dX9_rebuild_117 (by decide) 4 rfl rfl ?_
        refine xg_goto hC 7 dX9_rebuild_120 rfl ?_
        exact xg_pick [2, 3, 4, 0] rfl (hself σ32 (xm_w (x3 + 1)) (xm_w_in _))
      refine xg_goto hC 117 dX9_rebuild_46 rfl ?_
      refine xg_iinc hC (l' := [(3, .int (xm_J (xm_w (x3 + 1)))), (4, xm_rf (xx_G X) v8), (0, .ref (xm_ad (xx_G X) 18)), (1, .ref (xm_ad (xx_G X) 5)), (2, .ref (xm_ad (xx_G X) 9))]) dX9_rebuild_117 (by decide) 4 rfl rfl ?_
      refine xg_goto hC 7 dX9_rebuild_120 rfl ?_
      exact xg_pick [2, 3, 4, 0] rfl (hself o6.1 (xm_w (x3 + 1)) (xm_w_in _))
    refine xg_iinc hC (l' := [(3, .int (xm_J (xm_w (x3 + 1)))), (4, xm_rf (xx_G X) v8), (0, .ref (xm_ad (xx_G X) 18)), (1, .ref (xm_ad (xx_G X) 5)), (2, .ref (xm_ad (xx_G X) 9))]) dX9_rebuild_117 (by decide) 4 rfl rfl ?_
    refine xg_goto hC 7 dX9_rebuild_120 rfl ?_
    exact xg_pick [2, 3, 4, 0] rfl (hself o6.1 (xm_w (x3 + 1)) (xm_w_in _))
  exact xg_vret hC hQ dX9_rebuild_123
theorem w_X9_rebuild_l7 {X : xm_X} (hC : xm_C X yX9_rebuild.cls cX9_rebuild 5 5 0 0) (hQ : xm_Rt X 0 none 0 0) (hI : xx_I X = xm_I)   (n : Nat) : ∀ (σ : xm_Mem) (x3 : Int), xm_in x3 → xm_V X 0 0 (f_X9_rebuild_l7  n σ x3) σ 7 [(0, .ref (xm_ad (xx_G X) 18)), (1, .ref (xm_ad (xx_G X) 5)), (2, .ref (xm_ad (xx_G X) 9)), (3, .int (xm_J x3))] [] := by
  induction n with
  | zero => intro σ x3 h3; exact xg_none
  | succ n ih => intro σ x3 h3; exact w_X9_rebuild_b7 hC hQ hI ih σ x3 h3
theorem w_X9_rebuild {Γ : xm_Gm} {I : xm_Mem → Prop} {la : Launch} (hE : I = xm_I) (σ : xm_Mem)   : ∀ o, f_X9_rebuild σ  = some o → xm_M Γ I la yX9_rebuild cX9_rebuild 5 none 5 0 0 [.ref (xm_ad Γ 18), .ref (xm_ad Γ 5), .ref (xm_ad Γ 9)] σ 0 o := by
  refine xg_enter (by decide) (by simp [lg_sl, xm_rf_cat, xm_cati, xm_catr, xm_catl]) (fun X hG hI0 hla hC hQ hname => ?_)
  subst hG
  have hI := hI0.trans hE
  clear hI0 hla
  unfold f_X9_rebuild
  refine xg_pick [0, 1, 2] (l' := [(0, .ref (xm_ad (xx_G X) 18)), (1, .ref (xm_ad (xx_G X) 5)), (2, .ref (xm_ad (xx_G X) 9))]) rfl ?_
  refine xg_aload_n hC dX9_rebuild_0 rfl ?_
  refine xg_iconst hC dX9_rebuild_1 ?_
  refine xg_putI hC (xm_hK hI rfl) rfl rfl (xm_inc _ rfl) (xm_kpK hI rfl) xl_F_X9_24 dX9_rebuild_2 ?_
  refine xg_st (fun σ1 => ?_)
  refine xg_iconst hC dX9_rebuild_5 ?_
  refine xg_istore_n hC (l' := [(3, .int (xm_J (0 : Int))), (0, .ref (xm_ad (xx_G X) 18)), (1, .ref (xm_ad (xx_G X) 5)), (2, .ref (xm_ad (xx_G X) 9))]) dX9_rebuild_6 (by decide) rfl ?_
  exact xg_pick [1, 2, 3, 0] rfl (w_X9_rebuild_l7 hC hQ hI _ σ1 (0 : Int) (xm_inc _ rfl))
theorem w_X9_putSomebodyInTwo_j52 {X : xm_X} (hC : xm_C X yX9_putSomebodyInTwo.cls cX9_putSomebodyInTwo 4 1 0 0) (hQ : xm_Rt X 2 (some .boolean) 0 0) (hI : xx_I X = xm_I) {K12 : xm_Mem → Int → Int → Option xm_Out} (hK12 : ∀ (σ : xm_Mem) (x1 : Int) (x2 : Int), xm_in x1 → xm_in x2 → xm_V X 0 0 (K12 σ x1 x2) σ 12 [(0, .ref (xm_ad (xx_G X) 18)), (1, .int (xm_J x1)), (2, .int (xm_J x2))] []) (σ : xm_Mem) (s0 : Int) (x1 : Int) (x2 : Int) (g0 : 0 ≤ s0 ∧ s0 ≤ 1) (h1 : xm_in x1) (h2 : xm_in x2) : xm_V X 0 0 (f_X9_putSomebodyInTwo_j52 K12 σ s0 x1 x2) σ 52 [(0, .ref (xm_ad (xx_G X) 18)), (1, .int (xm_J x1)), (2, .int (xm_J x2))] [.int (xm_J s0)] := by
  unfold f_X9_putSomebodyInTwo_j52
  refine xg_istore_n hC (l' := [(3, .int (xm_J s0)), (0, .ref (xm_ad (xx_G X) 18)), (1, .int (xm_J x1)), (2, .int (xm_J x2))]) dX9_putSomebodyInTwo_52 (by decide) rfl ?_
  refine xg_iload_n hC dX9_putSomebodyInTwo_53 rfl ?_
  refine xg_if_eq hC (xm_in01 g0) 89 dX9_putSomebodyInTwo_54 rfl (fun c12 => ?_) (fun c13 => ?_)
  · refine xg_iinc hC (l' := [(2, .int (xm_J (xm_w (x2 + 1)))), (3, .int (xm_J s0)), (0, .ref (xm_ad (xx_G X) 18)), (1, .int (xm_J x1))]) dX9_putSomebodyInTwo_89 (by decide) 3 rfl rfl ?_
    refine xg_goto hC 12 dX9_putSomebodyInTwo_92 rfl ?_
    exact xg_pick [2, 3, 0] rfl (hK12 σ x1 (xm_w (x2 + 1)) h1 (xm_w_in _))
  refine xg_aload_n hC dX9_putSomebodyInTwo_57 rfl ?_
  refine xg_getW hC (b := 21) (xm_hK hI rfl) rfl (xm_wK hI rfl) (by decide) xl_F_X9_18 dX9_putSomebodyInTwo_58 ?_
  refine xg_iload_n hC dX9_putSomebodyInTwo_61 rfl ?_
  refine xg_iald hC (xm_hK hI rfl) rfl h1 dX9_putSomebodyInTwo_62 (fun b14 k15 => ?_)
  refine xg_aload_n hC dX9_putSomebodyInTwo_63 rfl ?_
  refine xg_getW hC (b := 22) (xm_hK hI rfl) rfl (xm_wK hI rfl) (by decide) xl_F_X9_21 dX9_putSomebodyInTwo_64 ?_
  refine xg_iload_n hC dX9_putSomebodyInTwo_67 rfl ?_
  refine xg_iald hC (xm_hK hI rfl) rfl h2 dX9_putSomebodyInTwo_68 (fun b16 k17 => ?_)
  refine xg_icmp_gt hC k15 k17 89 dX9_putSomebodyInTwo_69 rfl (fun c18 => ?_) (fun c19 => ?_)
  · refine xg_iinc hC (l' := [(2, .int (xm_J (xm_w (x2 + 1)))), (3, .int (xm_J s0)), (0, .ref (xm_ad (xx_G X) 18)), (1, .int (xm_J x1))]) dX9_putSomebodyInTwo_89 (by decide) 3 rfl rfl ?_
    refine xg_goto hC 12 dX9_putSomebodyInTwo_92 rfl ?_
    exact xg_pick [2, 3, 0] rfl (hK12 σ x1 (xm_w (x2 + 1)) h1 (xm_w_in _))
  refine xg_aload_n hC dX9_putSomebodyInTwo_72 rfl ?_
  refine xg_getW hC (b := 21) (xm_hK hI rfl) rfl (xm_wK hI rfl) (by decide) xl_F_X9_18 dX9_putSomebodyInTwo_73 ?_
  refine xg_iload_n hC dX9_putSomebodyInTwo_76 rfl ?_
  refine xg_iald hC (xm_hK hI rfl) rfl h2 dX9_putSomebodyInTwo_77 (fun b20 k21 => ?_)
  refine xg_aload_n hC dX9_putSomebodyInTwo_78 rfl ?_
  refine xg_getW hC (b := 22) (xm_hK hI rfl) rfl (xm_wK hI rfl) (by decide) xl_F_X9_21 dX9_putSomebodyInTwo_79 ?_
  refine xg_iload_n hC dX9_putSomebodyInTwo_82 rfl ?_
  refine xg_iald hC (xm_hK hI rfl) rfl h1 dX9_putSomebodyInTwo_83 (fun b22 k23 => ?_)
  refine xg_icmp_gt hC k21 k23 89 dX9_putSomebodyInTwo_84 rfl (fun c24 => ?_) (fun c25 => ?_)
  · refine xg_iinc hC (l' := [(2, .int (xm_J (xm_w (x2 + 1)))), (3, .int (xm_J s0)), (0, .ref (xm_ad (xx_G X) 18)), (1, .int (xm_J x1))]) dX9_putSomebodyInTwo_89 (by decide) 3 rfl rfl ?_
    refine xg_goto hC 12 dX9_putSomebodyInTwo_92 rfl ?_
    exact xg_pick [2, 3, 0] rfl (hK12 σ x1 (xm_w (x2 + 1)) h1 (xm_w_in _))
  refine xg_iconst hC dX9_putSomebodyInTwo_87 ?_
  exact xg_zret hC hQ (by decide) dX9_putSomebodyInTwo_88
theorem w_X9_putSomebodyInTwo_j47 {X : xm_X} (hC : xm_C X yX9_putSomebodyInTwo.cls cX9_putSomebodyInTwo 4 1 0 0) (hQ : xm_Rt X 2 (some .boolean) 0 0) (hI : xx_I X = xm_I) {K12 : xm_Mem → Int → Int → Option xm_Out} (hK12 : ∀ (σ : xm_Mem) (x1 : Int) (x2 : Int), xm_in x1 → xm_in x2 → xm_V X 0 0 (K12 σ x1 x2) σ 12 [(0, .ref (xm_ad (xx_G X) 18)), (1, .int (xm_J x1)), (2, .int (xm_J x2))] []) (σ : xm_Mem) (x1 : Int) (x2 : Int) (h1 : xm_in x1) (h2 : xm_in x2) : xm_V X 0 0 (f_X9_putSomebodyInTwo_j47 K12 σ x1 x2) σ 47 [(0, .ref (xm_ad (xx_G X) 18)), (1, .int (xm_J x1)), (2, .int (xm_J x2))] [] := by
  unfold f_X9_putSomebodyInTwo_j47
  refine xg_iconst hC dX9_putSomebodyInTwo_47 ?_
  refine xg_goto hC 52 dX9_putSomebodyInTwo_48 rfl ?_
  exact (w_X9_putSomebodyInTwo_j52 hC hQ hI hK12 σ (1 : Int) x1 x2 (by decide) h1 h2)
theorem w_X9_putSomebodyInTwo_b12 {X : xm_X} (hC : xm_C X yX9_putSomebodyInTwo.cls cX9_putSomebodyInTwo 4 1 0 0) (hQ : xm_Rt X 2 (some .boolean) 0 0) (hI : xx_I X = xm_I) {K95 : xm_Mem → Int → Option xm_Out} (hK95 : ∀ (σ : xm_Mem) (x1 : Int), xm_in x1 → xm_V X 0 0 (K95 σ x1) σ 95 [(0, .ref (xm_ad (xx_G X) 18)), (1, .int (xm_J x1))] []) {self : xm_Mem → Int → Int → Option xm_Out} (hself : ∀ (σ : xm_Mem) (x1 : Int) (x2 : Int), xm_in x1 → xm_in x2 → xm_V X 0 0 (self σ x1 x2) σ 12 [(0, .ref (xm_ad (xx_G X) 18)), (1, .int (xm_J x1)), (2, .int (xm_J x2))] []) (σ : xm_Mem) (x1 : Int) (x2 : Int) (h1 : xm_in x1) (h2 : xm_in x2) : xm_V X 0 0 (f_X9_putSomebodyInTwo_b12 K95 self σ x1 x2) σ 12 [(0, .ref (xm_ad (xx_G X) 18)), (1, .int (xm_J x1)), (2, .int (xm_J x2))] [] := by
  unfold f_X9_putSomebodyInTwo_b12
  refine xg_iload_n hC dX9_putSomebodyInTwo_12 rfl ?_
  refine xg_iload_n hC dX9_putSomebodyInTwo_13 rfl ?_
  refine xg_icmp_ge hC h2 h1 95 dX9_putSomebodyInTwo_14 rfl (fun c4 => ?_) (fun c5 => ?_)
  · refine xg_aload_n hC dX9_putSomebodyInTwo_17 rfl ?_
    refine xg_getW hC (b := 19) (xm_hK hI rfl) rfl (xm_wK hI rfl) (by decide) xl_F_X9_9 dX9_putSomebodyInTwo_18 ?_
    refine xg_iload_n hC dX9_putSomebodyInTwo_21 rfl ?_
    refine xg_iald hC (xm_hK hI rfl) rfl h1 dX9_putSomebodyInTwo_22 (fun b6 k7 => ?_)
    refine xg_aload_n hC dX9_putSomebodyInTwo_23 rfl ?_
    refine xg_getW hC (b := 19) (xm_hK hI rfl) rfl (xm_wK hI rfl) (by decide) xl_F_X9_9 dX9_putSomebodyInTwo_24 ?_
    refine xg_iload_n hC dX9_putSomebodyInTwo_27 rfl ?_
    refine xg_iald hC (xm_hK hI rfl) rfl h2 dX9_putSomebodyInTwo_28 (fun b8 k9 => ?_)
    refine xg_icmp_eq hC k7 k9 47 dX9_putSomebodyInTwo_29 rfl (fun c10 => ?_) (fun c11 => ?_)
    · exact (w_X9_putSomebodyInTwo_j47 hC hQ hI hself σ x1 x2 h1 h2)
    refine xg_aload_n hC dX9_putSomebodyInTwo_32 rfl ?_
    refine xg_getW hC (b := 20) (xm_hK hI rfl) rfl (xm_wK hI rfl) (by decide) xl_F_X9_15 dX9_putSomebodyInTwo_33 ?_
    refine xg_iload_n hC dX9_putSomebodyInTwo_36 rfl ?_
    refine xg_iald hC (xm_hK hI rfl) rfl h1 dX9_putSomebodyInTwo_37 (fun b26 k27 => ?_)
    refine xg_aload_n hC dX9_putSomebodyInTwo_38 rfl ?_
    refine xg_getW hC (b := 20) (xm_hK hI rfl) rfl (xm_wK hI rfl) (by decide) xl_F_X9_15 dX9_putSomebodyInTwo_39 ?_
    refine xg_iload_n hC dX9_putSomebodyInTwo_42 rfl ?_
    refine xg_iald hC (xm_hK hI rfl) rfl h2 dX9_putSomebodyInTwo_43 (fun b28 k29 => ?_)
    refine xg_icmp_ne hC k27 k29 51 dX9_putSomebodyInTwo_44 rfl (fun c30 => ?_) (fun c31 => ?_)
    · exact (w_X9_putSomebodyInTwo_j47 hC hQ hI hself σ x1 x2 h1 h2)
    refine xg_iconst hC dX9_putSomebodyInTwo_51 ?_
    exact (w_X9_putSomebodyInTwo_j52 hC hQ hI hself σ (0 : Int) x1 x2 (by decide) h1 h2)
  exact xg_pick [0, 1] rfl (hK95 σ x1 h1)
theorem w_X9_putSomebodyInTwo_l12 {X : xm_X} (hC : xm_C X yX9_putSomebodyInTwo.cls cX9_putSomebodyInTwo 4 1 0 0) (hQ : xm_Rt X 2 (some .boolean) 0 0) (hI : xx_I X = xm_I) {K95 : xm_Mem → Int → Option xm_Out} (hK95 : ∀ (σ : xm_Mem) (x1 : Int), xm_in x1 → xm_V X 0 0 (K95 σ x1) σ 95 [(0, .ref (xm_ad (xx_G X) 18)), (1, .int (xm_J x1))] []) (n : Nat) : ∀ (σ : xm_Mem) (x1 : Int) (x2 : Int), xm_in x1 → xm_in x2 → xm_V X 0 0 (f_X9_putSomebodyInTwo_l12 K95 n σ x1 x2) σ 12 [(0, .ref (xm_ad (xx_G X) 18)), (1, .int (xm_J x1)), (2, .int (xm_J x2))] [] := by
  induction n with
  | zero => intro σ x1 x2 h1 h2; exact xg_none
  | succ n ih => intro σ x1 x2 h1 h2; exact w_X9_putSomebodyInTwo_b12 hC hQ hI hK95 ih σ x1 x2 h1 h2
theorem w_X9_putSomebodyInTwo_b2 {X : xm_X} (hC : xm_C X yX9_putSomebodyInTwo.cls cX9_putSomebodyInTwo 4 1 0 0) (hQ : xm_Rt X 2 (some .boolean) 0 0) (hI : xx_I X = xm_I)   {self : xm_Mem → Int → Option xm_Out} (hself : ∀ (σ : xm_Mem) (x1 : Int), xm_in x1 → xm_V X 0 0 (self σ x1) σ 2 [(0, .ref (xm_ad (xx_G X) 18)), (1, .int (xm_J x1))] []) (σ : xm_Mem) (x1 : Int) (h1 : xm_in x1) : xm_V X 0 0 (f_X9_putSomebodyInTwo_b2  self σ x1) σ 2 [(0, .ref (xm_ad (xx_G X) 18)), (1, .int (xm_J x1))] [] := by
  unfold f_X9_putSomebodyInTwo_b2
  refine xg_iload_n hC dX9_putSomebodyInTwo_2 rfl ?_
  refine xg_aload_n hC dX9_putSomebodyInTwo_3 rfl ?_
  refine xg_getI hC (xm_hK hI rfl) rfl xl_F_X9_24 dX9_putSomebodyInTwo_4 (fun k1 => ?_)
  refine xg_icmp_ge hC h1 k1 101 dX9_putSomebodyInTwo_7 rfl (fun c2 => ?_) (fun c3 => ?_)
  · refine xg_iconst hC dX9_putSomebodyInTwo_10 ?_
    refine xg_istore_n hC (l' := [(2, .int (xm_J (0 : Int))), (0, .ref (xm_ad (xx_G X) 18)), (1, .int (xm_J x1))]) dX9_putSomebodyInTwo_11 (by decide) rfl ?_
    refine xg_pick [1, 2, 0] rfl (w_X9_putSomebodyInTwo_l12 hC hQ hI ?_ _ σ x1 (0 : Int) h1 (xm_inc _ rfl))
    intro σ_32 x1_32 h1_32
    refine xg_iinc hC (l' := [(1, .int (xm_J (xm_w (x1_32 + 1)))), (0, .ref (xm_ad (xx_G X) 18))]) dX9_putSomebodyInTwo_95 (by decide) 1 rfl rfl ?_
    refine xg_goto hC 2 dX9_putSomebodyInTwo_98 rfl ?_
    exact xg_pick [1, 0] rfl (hself σ_32 (xm_w (x1_32 + 1)) (xm_w_in _))
  refine xg_iconst hC dX9_putSomebodyInTwo_101 ?_
  exact xg_zret hC hQ (by decide) dX9_putSomebodyInTwo_102
theorem w_X9_putSomebodyInTwo_l2 {X : xm_X} (hC : xm_C X yX9_putSomebodyInTwo.cls cX9_putSomebodyInTwo 4 1 0 0) (hQ : xm_Rt X 2 (some .boolean) 0 0) (hI : xx_I X = xm_I)   (n : Nat) : ∀ (σ : xm_Mem) (x1 : Int), xm_in x1 → xm_V X 0 0 (f_X9_putSomebodyInTwo_l2  n σ x1) σ 2 [(0, .ref (xm_ad (xx_G X) 18)), (1, .int (xm_J x1))] [] := by
  induction n with
  | zero => intro σ x1 h1; exact xg_none
  | succ n ih => intro σ x1 h1; exact w_X9_putSomebodyInTwo_b2 hC hQ hI ih σ x1 h1
theorem w_X9_putSomebodyInTwo {Γ : xm_Gm} {I : xm_Mem → Prop} {la : Launch} (hE : I = xm_I) (σ : xm_Mem)   : ∀ o, f_X9_putSomebodyInTwo σ  = some o → xm_M Γ I la yX9_putSomebodyInTwo cX9_putSomebodyInTwo 4 (some .boolean) 1 0 0 [.ref (xm_ad Γ 18)] σ 2 o := by
  refine xg_enter (by decide) (by simp [lg_sl, xm_rf_cat, xm_cati, xm_catr, xm_catl]) (fun X hG hI0 hla hC hQ hname => ?_)
  subst hG
  have hI := hI0.trans hE
  clear hI0 hla
  unfold f_X9_putSomebodyInTwo
  refine xg_pick [0] (l' := [(0, .ref (xm_ad (xx_G X) 18))]) rfl ?_
  refine xg_iconst hC dX9_putSomebodyInTwo_0 ?_
  refine xg_istore_n hC (l' := [(1, .int (xm_J (0 : Int))), (0, .ref (xm_ad (xx_G X) 18))]) dX9_putSomebodyInTwo_1 (by decide) rfl ?_
  exact xg_pick [1, 0] rfl (w_X9_putSomebodyInTwo_l2 hC hQ hI _ σ (0 : Int) (xm_inc _ rfl))
theorem w_X5_isMale {Γ : xm_Gm} {I : xm_Mem → Prop} {la : Launch} (hE : I = xm_I) (σ : xm_Mem) (x1 : Int) (h1 : xm_in x1) : ∀ o, f_X5_isMale σ x1 = some o → xm_M Γ I la yX5_isMale cX5_isMale 2 (some .boolean) 1 0 0 [.ref (xm_ad Γ 9), .int (xm_J x1)] σ 2 o := by
  refine xg_enter (by decide) (by simp [lg_sl, xm_rf_cat, xm_cati, xm_catr, xm_catl]) (fun X hG hI0 hla hC hQ hname => ?_)
  subst hG
  have hI := hI0.trans hE
  clear hI0 hla
  unfold f_X5_isMale
  refine xg_pick [0, 1] (l' := [(0, .ref (xm_ad (xx_G X) 9)), (1, .int (xm_J x1))]) rfl ?_
  refine xg_iload_n hC dX5_isMale_0 rfl ?_
  refine xg_if_lt hC h1 23 dX5_isMale_1 rfl (fun c1 => ?_) (fun c2 => ?_)
  · refine xg_iconst hC dX5_isMale_23 ?_
    exact xg_zret hC hQ (by decide) dX5_isMale_24
  refine xg_iload_n hC dX5_isMale_4 rfl ?_
  refine xg_bipush hC dX5_isMale_5 (by decide) ?_
  refine xg_icmp_ge hC h1 (xm_inc _ rfl) 23 dX5_isMale_7 rfl (fun c3 => ?_) (fun c4 => ?_)
  · refine xg_aload_n hC dX5_isMale_10 rfl ?_
    refine xg_getW hC (b := 11) (xm_hK hI rfl) rfl (xm_wK hI rfl) (by decide) xl_F_X5_15 dX5_isMale_11 ?_
    refine xg_iload_n hC dX5_isMale_14 rfl ?_
    refine xg_zald hC (xm_hK hI rfl) rfl h1 dX5_isMale_15 (fun b5 k6 => ?_)
    refine xg_if_eq hC (xm_in01 k6) 23 dX5_isMale_16 rfl (fun c7 => ?_) (fun c8 => ?_)
    · refine xg_iconst hC dX5_isMale_23 ?_
      exact xg_zret hC hQ (by decide) dX5_isMale_24
    refine xg_iconst hC dX5_isMale_19 ?_
    refine xg_goto hC 24 dX5_isMale_20 rfl ?_
    exact xg_zret hC hQ (by decide) dX5_isMale_24
  refine xg_iconst hC dX5_isMale_23 ?_
  exact xg_zret hC hQ (by decide) dX5_isMale_24
theorem w_X0_hasWrongSexes_j26 {X : xm_X} (hC : xm_C X yX0_hasWrongSexes.cls cX0_hasWrongSexes 2 2 0 0) (hQ : xm_Rt X 2 (some .boolean) 0 0) (hI : xx_I X = xm_I)   (σ : xm_Mem) (x0 : Int) (h0 : 0 ≤ x0 ∧ xm_in x0) : xm_V X 0 0 (f_X0_hasWrongSexes_j26  σ x0) σ 26 [(0, xm_rf (xx_G X) x0), (1, .ref (xm_ad (xx_G X) 9))] [] := by
  unfold f_X0_hasWrongSexes_j26
  refine xg_rload_n hC dX0_hasWrongSexes_26 rfl ?_
  refine xg_sgetI hC rfl xl_F_X0_57 dX0_hasWrongSexes_27 (fun k7 => ?_)
  refine xg_iconst hC dX0_hasWrongSexes_30 ?_
  refine xg_icmp_eq hC k7 (xm_inc _ rfl) 49 dX0_hasWrongSexes_31 rfl (fun c8 => ?_) (fun c9 => ?_)
  · refine xg_iconst hC dX0_hasWrongSexes_49 ?_
    exact xg_zret hC hQ (by decide) dX0_hasWrongSexes_50
  refine xg_aload_n hC dX0_hasWrongSexes_34 rfl ?_
  refine xg_rload_n hC dX0_hasWrongSexes_35 rfl ?_
  refine xg_sgetI hC rfl xl_F_X0_57 dX0_hasWrongSexes_36 (fun k10 => ?_)
  refine xg_callV hC (ci := 4) (w_X5_isMale hI σ (σ.1 x0.toNat 5) k10) xl_M_X0_83 xl_V_X5_isMale (xm_hK (a := 9) (kd := 0) (n := 4) hI rfl).2 ((xm_hK (a := 9) (kd := 0) (n := 4) hI rfl).1 _) (by decide) rfl (by decide) ⟨by decide, by decide⟩ dX0_hasWrongSexes_39 (rest := []) rfl rfl (Nat.le_of_ble_eq_true rfl) rfl rfl (st2 := fun o => .int (xm_J o.2) :: []) (fun _ => rfl) (fun o11 k12 => ?_)
  refine xg_if_eq hC (xm_in01 k12) 49 dX0_hasWrongSexes_42 rfl (fun c13 => ?_) (fun c14 => ?_)
  · refine xg_iconst hC dX0_hasWrongSexes_49 ?_
    exact xg_zret hC hQ (by decide) dX0_hasWrongSexes_50
  refine xg_iconst hC dX0_hasWrongSexes_45 ?_
  refine xg_goto hC 50 dX0_hasWrongSexes_46 rfl ?_
  exact xg_zret hC hQ (by decide) dX0_hasWrongSexes_50
theorem w_X0_hasWrongSexes {Γ : xm_Gm} {I : xm_Mem → Prop} {la : Launch} (hE : I = xm_I) (σ : xm_Mem) (x0 : Int) (h0 : 0 ≤ x0 ∧ xm_in x0) : ∀ o, f_X0_hasWrongSexes σ x0 = some o → xm_M Γ I la yX0_hasWrongSexes cX0_hasWrongSexes 2 (some .boolean) 2 0 0 [xm_rf Γ x0, .ref (xm_ad Γ 9)] σ 2 o := by
  refine xg_enter (by decide) (by simp [lg_sl, xm_rf_cat, xm_cati, xm_catr, xm_catl]) (fun X hG hI0 hla hC hQ hname => ?_)
  subst hG
  have hI := hI0.trans hE
  clear hI0 hla
  unfold f_X0_hasWrongSexes
  refine xg_pick [0, 1] (l' := [(0, xm_rf (xx_G X) x0), (1, .ref (xm_ad (xx_G X) 9))]) (by simp [lv_args, lv_pick, xm_rf_cat, xm_cati, xm_catr, xm_catl]) ?_
  refine xg_rload_n hC dX0_hasWrongSexes_0 rfl ?_
  refine xg_sgetI hC rfl xl_F_X0_35 dX0_hasWrongSexes_1 (fun k1 => ?_)
  refine xg_if_ne hC k1 51 dX0_hasWrongSexes_4 rfl (fun c2 => ?_) (fun c3 => ?_)
  · refine xg_rload_n hC dX0_hasWrongSexes_7 rfl ?_
    refine xg_sgetI hC rfl xl_F_X0_64 dX0_hasWrongSexes_8 (fun k4 => ?_)
    refine xg_iconst hC dX0_hasWrongSexes_11 ?_
    refine xg_icmp_eq hC k4 (xm_inc _ rfl) 26 dX0_hasWrongSexes_12 rfl (fun c5 => ?_) (fun c6 => ?_)
    · exact (w_X0_hasWrongSexes_j26 hC hQ hI σ x0 ⟨h0.1, h0.2⟩)
    refine xg_aload_n hC dX0_hasWrongSexes_15 rfl ?_
    refine xg_rload_n hC dX0_hasWrongSexes_16 rfl ?_
    refine xg_sgetI hC rfl xl_F_X0_64 dX0_hasWrongSexes_17 (fun k15 => ?_)
    refine xg_callV hC (ci := 4) (w_X5_isMale hI σ (σ.1 x0.toNat 4) k15) xl_M_X0_83 xl_V_X5_isMale (xm_hK (a := 9) (kd := 0) (n := 4) hI rfl).2 ((xm_hK (a := 9) (kd := 0) (n := 4) hI rfl).1 _) (by decide) rfl (by decide) ⟨by decide, by decide⟩ dX0_hasWrongSexes_20 (rest := []) rfl rfl (Nat.le_of_ble_eq_true rfl) rfl rfl (st2 := fun o => .int (xm_J o.2) :: []) (fun _ => rfl) (fun o16 k17 => ?_)
    refine xg_if_eq hC (xm_in01 k17) 45 dX0_hasWrongSexes_23 rfl (fun c18 => ?_) (fun c19 => ?_)
    · refine xg_iconst hC dX0_hasWrongSexes_45 ?_
      refine xg_goto hC 50 dX0_hasWrongSexes_46 rfl ?_
      exact xg_zret hC hQ (by decide) dX0_hasWrongSexes_50
    exact (w_X0_hasWrongSexes_j26 hC hQ hI o16.1 x0 ⟨h0.1, h0.2⟩)
  refine xg_rload_n hC dX0_hasWrongSexes_51 rfl ?_
  refine xg_callVs hC (ci := 2) (w_X3_isOfUnion hI σ x0 ⟨h0.1, h0.2⟩) xl_M_X0_67 xl_V_X3_isOfUnion (by decide) rfl (by decide) ⟨by decide, by decide⟩ dX0_hasWrongSexes_52 (rest := []) rfl rfl (Nat.le_of_ble_eq_true rfl) rfl rfl (st2 := fun o => .int (xm_J o.2) :: []) (fun _ => rfl) (fun o20 k21 => ?_)
  refine xg_if_eq hC (xm_in01 k21) 84 dX0_hasWrongSexes_55 rfl (fun c22 => ?_) (fun c23 => ?_)
  · refine xg_iconst hC dX0_hasWrongSexes_84 ?_
    exact xg_zret hC hQ (by decide) dX0_hasWrongSexes_85
  refine xg_aload_n hC dX0_hasWrongSexes_58 rfl ?_
  refine xg_rload_n hC dX0_hasWrongSexes_59 rfl ?_
  refine xg_sgetI hC rfl xl_F_X0_48 dX0_hasWrongSexes_60 (fun k24 => ?_)
  refine xg_callV hC (ci := 4) (w_X5_isMale hI o20.1 (o20.1.1 x0.toNat 2) k24) xl_M_X0_83 xl_V_X5_isMale (xm_hK (a := 9) (kd := 0) (n := 4) hI rfl).2 ((xm_hK (a := 9) (kd := 0) (n := 4) hI rfl).1 _) (by decide) rfl (by decide) ⟨by decide, by decide⟩ dX0_hasWrongSexes_63 (rest := []) rfl rfl (Nat.le_of_ble_eq_true rfl) rfl rfl (st2 := fun o => .int (xm_J o.2) :: []) (fun _ => rfl) (fun o25 k26 => ?_)
  refine xg_if_eq hC (xm_in01 k26) 80 dX0_hasWrongSexes_66 rfl (fun c27 => ?_) (fun c28 => ?_)
  · refine xg_iconst hC dX0_hasWrongSexes_80 ?_
    refine xg_goto hC 85 dX0_hasWrongSexes_81 rfl ?_
    exact xg_zret hC hQ (by decide) dX0_hasWrongSexes_85
  refine xg_aload_n hC dX0_hasWrongSexes_69 rfl ?_
  refine xg_rload_n hC dX0_hasWrongSexes_70 rfl ?_
  refine xg_sgetI hC rfl xl_F_X0_70 dX0_hasWrongSexes_71 (fun k29 => ?_)
  refine xg_callV hC (ci := 4) (w_X5_isMale hI o25.1 (o25.1.1 x0.toNat 3) k29) xl_M_X0_83 xl_V_X5_isMale (xm_hK (a := 9) (kd := 0) (n := 4) hI rfl).2 ((xm_hK (a := 9) (kd := 0) (n := 4) hI rfl).1 _) (by decide) rfl (by decide) ⟨by decide, by decide⟩ dX0_hasWrongSexes_74 (rest := []) rfl rfl (Nat.le_of_ble_eq_true rfl) rfl rfl (st2 := fun o => .int (xm_J o.2) :: []) (fun _ => rfl) (fun o30 k31 => ?_)
  refine xg_if_eq hC (xm_in01 k31) 84 dX0_hasWrongSexes_77 rfl (fun c32 => ?_) (fun c33 => ?_)
  · refine xg_iconst hC dX0_hasWrongSexes_84 ?_
    exact xg_zret hC hQ (by decide) dX0_hasWrongSexes_85
  refine xg_iconst hC dX0_hasWrongSexes_80 ?_
  refine xg_goto hC 85 dX0_hasWrongSexes_81 rfl ?_
  exact xg_zret hC hQ (by decide) dX0_hasWrongSexes_85
theorem w_X7_tellsAgain_b2 {X : xm_X} (hC : xm_C X yX7_tellsAgain.cls cX7_tellsAgain 4 3 0 0) (hQ : xm_Rt X 2 (some .boolean) 0 0) (hI : xx_I X = xm_I)   {self : xm_Mem → Int → Int → Option xm_Out} (hself : ∀ (σ : xm_Mem) (x1 : Int) (x2 : Int), 0 ≤ x1 ∧ xm_in x1 → xm_in x2 → xm_V X 0 0 (self σ x1 x2) σ 2 [(0, .ref (xm_ad (xx_G X) 5)), (1, xm_rf (xx_G X) x1), (2, .int (xm_J x2))] []) (σ : xm_Mem) (x1 : Int) (x2 : Int) (h1 : 0 ≤ x1 ∧ xm_in x1) (h2 : xm_in x2) : xm_V X 0 0 (f_X7_tellsAgain_b2  self σ x1 x2) σ 2 [(0, .ref (xm_ad (xx_G X) 5)), (1, xm_rf (xx_G X) x1), (2, .int (xm_J x2))] [] := by
  unfold f_X7_tellsAgain_b2
  refine xg_iload_n hC dX7_tellsAgain_2 rfl ?_
  refine xg_aload_n hC dX7_tellsAgain_3 rfl ?_
  refine xg_getI hC (xm_hK hI rfl) rfl xl_F_X7_23 dX7_tellsAgain_4 (fun k1 => ?_)
  refine xg_icmp_ge hC h2 k1 69 dX7_tellsAgain_7 rfl (fun c2 => ?_) (fun c3 => ?_)
  · refine xg_aload_n hC dX7_tellsAgain_10 rfl ?_
    refine xg_iload_n hC dX7_tellsAgain_11 rfl ?_
    refine xg_callV hC (ci := 6) (w_X7_standing hI σ x2 h2) xl_M_X7_41 xl_V_X7_standing (xm_hK (a := 5) (kd := 0) (n := 6) hI rfl).2 ((xm_hK (a := 5) (kd := 0) (n := 6) hI rfl).1 _) (by decide) rfl (by decide) ⟨by decide, by decide⟩ dX7_tellsAgain_12 (rest := []) rfl rfl (Nat.le_of_ble_eq_true rfl) rfl rfl (st2 := fun o => xm_rf (xx_G X) o.2 :: []) (fun _ => rfl) (fun o4 k5 => ?_)
    refine xg_vR k5 (fun v6 k7 => ?_)
    refine xg_rstore_n hC (l' := [(3, xm_rf (xx_G X) v6), (0, .ref (xm_ad (xx_G X) 5)), (1, xm_rf (xx_G X) x1), (2, .int (xm_J x2))]) dX7_tellsAgain_15 (by decide) rfl ?_
    refine xg_rload_n hC dX7_tellsAgain_16 rfl ?_
    refine xg_ifnull hC 63 dX7_tellsAgain_17 rfl (fun c8 => ?_) (fun c9 => ?_)
    · refine xg_iinc hC (l' := [(2, .int (xm_J (xm_w (x2 + 1)))), (3, xm_rf (xx_G X) v6), (0, .ref (xm_ad (xx_G X) 5)), (1, xm_rf (xx_G X) x1)]) dX7_tellsAgain_63 (by decide) 3 rfl (by simp [xm_rf_cat, xm_cati, xm_catr, xm_catl] <;> decide) ?_
      refine xg_goto hC 2 dX7_tellsAgain_66 rfl ?_
      exact xg_pick [2, 3, 0] rfl (hself o4.1 x1 (xm_w (x2 + 1)) ⟨h1.1, h1.2⟩ (xm_w_in _))
    refine xg_rload_n hC dX7_tellsAgain_20 rfl ?_
    refine xg_rload_n hC dX7_tellsAgain_21 rfl ?_
    refine xg_acmp_ne hC k7.1 h1.1 28 dX7_tellsAgain_22 rfl (fun c10 => ?_) (fun c11 => ?_)
    · refine xg_goto hC 63 dX7_tellsAgain_25 rfl ?_
      refine xg_iinc hC (l' := [(2, .int (xm_J (xm_w (x2 + 1)))), (3, xm_rf (xx_G X) v6), (0, .ref (xm_ad (xx_G X) 5)), (1, xm_rf (xx_G X) x1)]) dX7_tellsAgain_63 (by decide) 3 rfl (by simp [xm_rf_cat, xm_cati, xm_catr, xm_catl] <;> decide) ?_
      refine xg_goto hC 2 dX7_tellsAgain_66 rfl ?_
      exact xg_pick [2, 3, 0] rfl (hself o4.1 x1 (xm_w (x2 + 1)) ⟨h1.1, h1.2⟩ (xm_w_in _))
    refine xg_rload_n hC dX7_tellsAgain_28 rfl ?_
    refine xg_sgetI hC rfl xl_F_X7_72 dX7_tellsAgain_29 (fun k12 => ?_)
    refine xg_rload_n hC dX7_tellsAgain_32 rfl ?_
    refine xg_sgetI hC rfl xl_F_X7_72 dX7_tellsAgain_33 (fun k13 => ?_)
    refine xg_icmp_ne hC k12 k13 63 dX7_tellsAgain_36 rfl (fun c14 => ?_) (fun c15 => ?_)
    · refine xg_rload_n hC dX7_tellsAgain_39 rfl ?_
      refine xg_sgetI hC rfl xl_F_X7_57 dX7_tellsAgain_40 (fun k16 => ?_)
      refine xg_rload_n hC dX7_tellsAgain_43 rfl ?_
      refine xg_sgetI hC rfl xl_F_X7_57 dX7_tellsAgain_44 (fun k17 => ?_)
      refine xg_icmp_ne hC k16 k17 63 dX7_tellsAgain_47 rfl (fun c18 => ?_) (fun c19 => ?_)
      · refine xg_rload_n hC dX7_tellsAgain_50 rfl ?_
        refine xg_sgetI hC rfl xl_F_X7_63 dX7_tellsAgain_51 (fun k20 => ?_)
        refine xg_rload_n hC dX7_tellsAgain_54 rfl ?_
        refine xg_sgetI hC rfl xl_F_X7_63 dX7_tellsAgain_55 (fun k21 => ?_)
        refine xg_icmp_ne hC k20 k21 63 dX7_tellsAgain_58 rfl (fun c22 => ?_) (fun c23 => ?_)
        · refine xg_iconst hC dX7_tellsAgain_61 ?_
          exact xg_zret hC hQ (by decide) dX7_tellsAgain_62
        refine xg_iinc hC (l' := [(2, .int (xm_J (xm_w (x2 + 1)))), (3, xm_rf (xx_G X) v6), (0, .ref (xm_ad (xx_G X) 5)), (1, xm_rf (xx_G X) x1)]) dX7_tellsAgain_63 (by decide) 3 rfl (by simp [xm_rf_cat, xm_cati, xm_catr, xm_catl] <;> decide) ?_
        refine xg_goto hC 2 dX7_tellsAgain_66 rfl ?_
        exact xg_pick [2, 3, 0] rfl (hself o4.1 x1 (xm_w (x2 + 1)) ⟨h1.1, h1.2⟩ (xm_w_in _))
      refine xg_iinc hC (l' := [(2, .int (xm_J (xm_w (x2 + 1)))), (3, xm_rf (xx_G X) v6), (0, .ref (xm_ad (xx_G X) 5)), (1, xm_rf (xx_G X) x1)]) dX7_tellsAgain_63 (by decide) 3 rfl (by simp [xm_rf_cat, xm_cati, xm_catr, xm_catl] <;> decide) ?_
      refine xg_goto hC 2 dX7_tellsAgain_66 rfl ?_
      exact xg_pick [2, 3, 0] rfl (hself o4.1 x1 (xm_w (x2 + 1)) ⟨h1.1, h1.2⟩ (xm_w_in _))
    refine xg_iinc hC (l' := [(2, .int (xm_J (xm_w (x2 + 1)))), (3, xm_rf (xx_G X) v6), (0, .ref (xm_ad (xx_G X) 5)), (1, xm_rf (xx_G X) x1)]) dX7_tellsAgain_63 (by decide) 3 rfl (by simp [xm_rf_cat, xm_cati, xm_catr, xm_catl] <;> decide) ?_
    refine xg_goto hC 2 dX7_tellsAgain_66 rfl ?_
    exact xg_pick [2, 3, 0] rfl (hself o4.1 x1 (xm_w (x2 + 1)) ⟨h1.1, h1.2⟩ (xm_w_in _))
  refine xg_iconst hC dX7_tellsAgain_69 ?_
  exact xg_zret hC hQ (by decide) dX7_tellsAgain_70
theorem w_X7_tellsAgain_l2 {X : xm_X} (hC : xm_C X yX7_tellsAgain.cls cX7_tellsAgain 4 3 0 0) (hQ : xm_Rt X 2 (some .boolean) 0 0) (hI : xx_I X = xm_I)   (n : Nat) : ∀ (σ : xm_Mem) (x1 : Int) (x2 : Int), 0 ≤ x1 ∧ xm_in x1 → xm_in x2 → xm_V X 0 0 (f_X7_tellsAgain_l2  n σ x1 x2) σ 2 [(0, .ref (xm_ad (xx_G X) 5)), (1, xm_rf (xx_G X) x1), (2, .int (xm_J x2))] [] := by
  induction n with
  | zero => intro σ x1 x2 h1 h2; exact xg_none
  | succ n ih => intro σ x1 x2 h1 h2; exact w_X7_tellsAgain_b2 hC hQ hI ih σ x1 x2 h1 h2
theorem w_X7_tellsAgain {Γ : xm_Gm} {I : xm_Mem → Prop} {la : Launch} (hE : I = xm_I) (σ : xm_Mem) (x1 : Int) (h1 : 0 ≤ x1 ∧ xm_in x1) : ∀ o, f_X7_tellsAgain σ x1 = some o → xm_M Γ I la yX7_tellsAgain cX7_tellsAgain 4 (some .boolean) 3 0 0 [.ref (xm_ad Γ 5), xm_rf Γ x1] σ 2 o := by
  refine xg_enter (by decide) (by simp [lg_sl, xm_rf_cat, xm_cati, xm_catr, xm_catl]) (fun X hG hI0 hla hC hQ hname => ?_)
  subst hG
  have hI := hI0.trans hE
  clear hI0 hla
  unfold f_X7_tellsAgain
  refine xg_pick [0, 1] (l' := [(0, .ref (xm_ad (xx_G X) 5)), (1, xm_rf (xx_G X) x1)]) (by simp [lv_args, lv_pick, xm_rf_cat, xm_cati, xm_catr, xm_catl]) ?_
  refine xg_iconst hC dX7_tellsAgain_0 ?_
  refine xg_istore_n hC (l' := [(2, .int (xm_J (0 : Int))), (0, .ref (xm_ad (xx_G X) 5)), (1, xm_rf (xx_G X) x1)]) dX7_tellsAgain_1 (by decide) (by simp [xm_rf_cat, xm_cati, xm_catr, xm_catl] <;> decide) ?_
  exact xg_pick [1, 2, 0] rfl (w_X7_tellsAgain_l2 hC hQ hI _ σ x1 (0 : Int) ⟨h1.1, h1.2⟩ (xm_inc _ rfl))
theorem w_X5_bornOn {Γ : xm_Gm} {I : xm_Mem → Prop} {la : Launch} (hE : I = xm_I) (σ : xm_Mem) (x1 : Int) (h1 : xm_in x1) : ∀ o, f_X5_bornOn σ x1 = some o → xm_M Γ I la yX5_bornOn cX5_bornOn 2 (some .int) 2 0 0 [.ref (xm_ad Γ 9), .int (xm_J x1)] σ 1 o := by
  refine xg_enter (by decide) (by simp [lg_sl, xm_rf_cat, xm_cati, xm_catr, xm_catl]) (fun X hG hI0 hla hC hQ hname => ?_)
  subst hG
  have hI := hI0.trans hE
  clear hI0 hla
  unfold f_X5_bornOn
  refine xg_pick [0, 1] (l' := [(0, .ref (xm_ad (xx_G X) 9)), (1, .int (xm_J x1))]) rfl ?_
  refine xg_iload_n hC dX5_bornOn_0 rfl ?_
  refine xg_callSN hC (w_X10_isPersonNumber hI σ x1 h1) xl_N_X5_53 xl_S_X10_isPersonNumber (by decide) ⟨by decide, by decide⟩ dX5_bornOn_1 (rest := []) rfl rfl (Nat.le_of_ble_eq_true rfl) rfl rfl (st2 := fun o => .int (xm_J o.2) :: []) (fun _ => rfl) (fun o1 k2 => ?_)
  refine xg_if_eq hC (xm_in01 k2) 16 dX5_bornOn_4 rfl (fun c3 => ?_) (fun c4 => ?_)
  · refine xg_iconst hC dX5_bornOn_16 ?_
    exact xg_iret hC hQ (xm_inc _ rfl) dX5_bornOn_17
  refine xg_aload_n hC dX5_bornOn_7 rfl ?_
  refine xg_getW hC (b := 12) (xm_hK hI rfl) rfl (xm_wK hI rfl) (by decide) xl_F_X5_18 dX5_bornOn_8 ?_
  refine xg_iload_n hC dX5_bornOn_11 rfl ?_
  refine xg_iald hC (xm_hK hI rfl) rfl h1 dX5_bornOn_12 (fun b5 k6 => ?_)
  refine xg_goto hC 17 dX5_bornOn_13 rfl ?_
  exact xg_iret hC hQ k6 dX5_bornOn_17
theorem w_X5_has {Γ : xm_Gm} {I : xm_Mem → Prop} {la : Launch} (hE : I = xm_I) (σ : xm_Mem) (x1 : Int) (h1 : xm_in x1) : ∀ o, f_X5_has σ x1 = some o → xm_M Γ I la yX5_has cX5_has 2 (some .boolean) 1 0 0 [.ref (xm_ad Γ 9), .int (xm_J x1)] σ 2 o := by
  refine xg_enter (by decide) (by simp [lg_sl, xm_rf_cat, xm_cati, xm_catr, xm_catl]) (fun X hG hI0 hla hC hQ hname => ?_)
  subst hG
  have hI := hI0.trans hE
  clear hI0 hla
  unfold f_X5_has
  refine xg_pick [0, 1] (l' := [(0, .ref (xm_ad (xx_G X) 9)), (1, .int (xm_J x1))]) rfl ?_
  refine xg_iload_n hC dX5_has_0 rfl ?_
  refine xg_if_lt hC h1 23 dX5_has_1 rfl (fun c1 => ?_) (fun c2 => ?_)
  · refine xg_iconst hC dX5_has_23 ?_
    exact xg_zret hC hQ (by decide) dX5_has_24
  refine xg_iload_n hC dX5_has_4 rfl ?_
  refine xg_bipush hC dX5_has_5 (by decide) ?_
  refine xg_icmp_ge hC h1 (xm_inc _ rfl) 23 dX5_has_7 rfl (fun c3 => ?_) (fun c4 => ?_)
  · refine xg_aload_n hC dX5_has_10 rfl ?_
    refine xg_getW hC (b := 10) (xm_hK hI rfl) rfl (xm_wK hI rfl) (by decide) xl_F_X5_9 dX5_has_11 ?_
    refine xg_iload_n hC dX5_has_14 rfl ?_
    refine xg_zald hC (xm_hK hI rfl) rfl h1 dX5_has_15 (fun b5 k6 => ?_)
    refine xg_if_eq hC (xm_in01 k6) 23 dX5_has_16 rfl (fun c7 => ?_) (fun c8 => ?_)
    · refine xg_iconst hC dX5_has_23 ?_
      exact xg_zret hC hQ (by decide) dX5_has_24
    refine xg_iconst hC dX5_has_19 ?_
    refine xg_goto hC 24 dX5_has_20 rfl ?_
    exact xg_zret hC hQ (by decide) dX5_has_24
  refine xg_iconst hC dX5_has_23 ?_
  exact xg_zret hC hQ (by decide) dX5_has_24
theorem w_X5_isGrown {Γ : xm_Gm} {I : xm_Mem → Prop} {la : Launch} (hE : I = xm_I) (σ : xm_Mem) (x1 : Int) (x2 : Int) (h1 : xm_in x1) (h2 : xm_in x2) : ∀ o, f_X5_isGrown σ x1 x2 = some o → xm_M Γ I la yX5_isGrown cX5_isGrown 3 (some .boolean) 2 0 0 [.ref (xm_ad Γ 9), .int (xm_J x1), .int (xm_J x2)] σ 2 o := by
  refine xg_enter (by decide) (by simp [lg_sl, xm_rf_cat, xm_cati, xm_catr, xm_catl]) (fun X hG hI0 hla hC hQ hname => ?_)
  subst hG
  have hI := hI0.trans hE
  clear hI0 hla
  unfold f_X5_isGrown
  refine xg_pick [0, 1, 2] (l' := [(0, .ref (xm_ad (xx_G X) 9)), (1, .int (xm_J x1)), (2, .int (xm_J x2))]) rfl ?_
  refine xg_aload_n hC dX5_isGrown_0 rfl ?_
  refine xg_iload_n hC dX5_isGrown_1 rfl ?_
  refine xg_callV hC (ci := 4) (w_X5_has hI σ x1 h1) xl_M_X5_80 xl_V_X5_has (xm_hK (a := 9) (kd := 0) (n := 4) hI rfl).2 ((xm_hK (a := 9) (kd := 0) (n := 4) hI rfl).1 _) (by decide) rfl (by decide) ⟨by decide, by decide⟩ dX5_isGrown_2 (rest := []) rfl rfl (Nat.le_of_ble_eq_true rfl) rfl rfl (st2 := fun o => .int (xm_J o.2) :: []) (fun _ => rfl) (fun o1 k2 => ?_)
  refine xg_if_eq hC (xm_in01 k2) 26 dX5_isGrown_5 rfl (fun c3 => ?_) (fun c4 => ?_)
  · refine xg_iconst hC dX5_isGrown_26 ?_
    exact xg_zret hC hQ (by decide) dX5_isGrown_27
  refine xg_aload_n hC dX5_isGrown_8 rfl ?_
  refine xg_getW hC (b := 12) (xm_hK hI rfl) rfl (xm_wK hI rfl) (by decide) xl_F_X5_18 dX5_isGrown_9 ?_
  refine xg_iload_n hC dX5_isGrown_12 rfl ?_
  refine xg_iald hC (xm_hK hI rfl) rfl h1 dX5_isGrown_13 (fun b5 k6 => ?_)
  refine xg_iload_n hC dX5_isGrown_14 rfl ?_
  refine xg_sipush hC dX5_isGrown_15 (by decide) ?_
  refine xg_isub hC dX5_isGrown_18 ?_
  refine xg_icmp_gt hC k6 (xm_w_in _) 26 dX5_isGrown_19 rfl (fun c7 => ?_) (fun c8 => ?_)
  · refine xg_iconst hC dX5_isGrown_26 ?_
    exact xg_zret hC hQ (by decide) dX5_isGrown_27
  refine xg_iconst hC dX5_isGrown_22 ?_
  refine xg_goto hC 27 dX5_isGrown_23 rfl ?_
  exact xg_zret hC hQ (by decide) dX5_isGrown_27
theorem w_X5_isDeadAhead {Γ : xm_Gm} {I : xm_Mem → Prop} {la : Launch} (hE : I = xm_I) (σ : xm_Mem) (x1 : Int) (x2 : Int) (h1 : xm_in x1) (h2 : xm_in x2) : ∀ o, f_X5_isDeadAhead σ x1 x2 = some o → xm_M Γ I la yX5_isDeadAhead cX5_isDeadAhead 4 (some .boolean) 3 0 0 [.ref (xm_ad Γ 9), .int (xm_J x1), .int (xm_J x2)] σ 2 o := by
  refine xg_enter (by decide) (by simp [lg_sl, xm_rf_cat, xm_cati, xm_catr, xm_catl]) (fun X hG hI0 hla hC hQ hname => ?_)
  subst hG
  have hI := hI0.trans hE
  clear hI0 hla
  unfold f_X5_isDeadAhead
  refine xg_pick [0, 1, 2] (l' := [(0, .ref (xm_ad (xx_G X) 9)), (1, .int (xm_J x1)), (2, .int (xm_J x2))]) rfl ?_
  refine xg_aload_n hC dX5_isDeadAhead_0 rfl ?_
  refine xg_iload_n hC dX5_isDeadAhead_1 rfl ?_
  refine xg_callV hC (ci := 4) (w_X5_deadOn hI σ x1 h1) xl_M_X5_76 xl_V_X5_deadOn (xm_hK (a := 9) (kd := 0) (n := 4) hI rfl).2 ((xm_hK (a := 9) (kd := 0) (n := 4) hI rfl).1 _) (by decide) rfl (by decide) ⟨by decide, by decide⟩ dX5_isDeadAhead_2 (rest := []) rfl rfl (Nat.le_of_ble_eq_true rfl) rfl rfl (st2 := fun o => .int (xm_J o.2) :: []) (fun _ => rfl) (fun o1 k2 => ?_)
  refine xg_istore_n hC (l' := [(3, .int (xm_J o1.2)), (0, .ref (xm_ad (xx_G X) 9)), (1, .int (xm_J x1)), (2, .int (xm_J x2))]) dX5_isDeadAhead_5 (by decide) rfl ?_
  refine xg_iload_n hC dX5_isDeadAhead_6 rfl ?_
  refine xg_iconst hC dX5_isDeadAhead_7 ?_
  refine xg_icmp_eq hC k2 (xm_inc _ rfl) 20 dX5_isDeadAhead_8 rfl (fun c3 => ?_) (fun c4 => ?_)
  · refine xg_iconst hC dX5_isDeadAhead_20 ?_
    exact xg_zret hC hQ (by decide) dX5_isDeadAhead_21
  refine xg_iload_n hC dX5_isDeadAhead_11 rfl ?_
  refine xg_iload_n hC dX5_isDeadAhead_12 rfl ?_
  refine xg_icmp_ge hC k2 h2 20 dX5_isDeadAhead_13 rfl (fun c5 => ?_) (fun c6 => ?_)
  · refine xg_iconst hC dX5_isDeadAhead_16 ?_
    refine xg_goto hC 21 dX5_isDeadAhead_17 rfl ?_
    exact xg_zret hC hQ (by decide) dX5_isDeadAhead_21
  refine xg_iconst hC dX5_isDeadAhead_20 ?_
  exact xg_zret hC hQ (by decide) dX5_isDeadAhead_21
theorem w_X0_couldAct {Γ : xm_Gm} {I : xm_Mem → Prop} {la : Launch} (hE : I = xm_I) (σ : xm_Mem) (x0 : Int) (x1 : Int) (x2 : Int) (h0 : xm_in x0) (h1 : xm_in x1) (h2 : xm_in x2) : ∀ o, f_X0_couldAct σ x0 x1 x2 = some o → xm_M Γ I la yX0_couldAct cX0_couldAct 4 (some .boolean) 4 0 0 [.int (xm_J x0), .int (xm_J x1), .int (xm_J x2), .ref (xm_ad Γ 9)] σ 2 o := by
  refine xg_enter (by decide) (by simp [lg_sl, xm_rf_cat, xm_cati, xm_catr, xm_catl]) (fun X hG hI0 hla hC hQ hname => ?_)
  subst hG
  have hI := hI0.trans hE
  clear hI0 hla
  unfold f_X0_couldAct
  refine xg_pick [0, 1, 2, 3] (l' := [(0, .int (xm_J x0)), (1, .int (xm_J x1)), (2, .int (xm_J x2)), (3, .ref (xm_ad (xx_G X) 9))]) rfl ?_
  refine xg_aload_n hC dX0_couldAct_0 rfl ?_
  refine xg_iload_n hC dX0_couldAct_1 rfl ?_
  refine xg_iload_n hC dX0_couldAct_2 rfl ?_
  refine xg_callV hC (ci := 4) (w_X5_isGrown hI σ x0 x1 h0 h1) xl_M_X0_87 xl_V_X5_isGrown (xm_hK (a := 9) (kd := 0) (n := 4) hI rfl).2 ((xm_hK (a := 9) (kd := 0) (n := 4) hI rfl).1 _) (by decide) rfl (by decide) ⟨by decide, by decide⟩ dX0_couldAct_3 (rest := []) rfl rfl (Nat.le_of_ble_eq_true rfl) rfl rfl (st2 := fun o => .int (xm_J o.2) :: []) (fun _ => rfl) (fun o1 k2 => ?_)
  refine xg_if_eq hC (xm_in01 k2) 24 dX0_couldAct_6 rfl (fun c3 => ?_) (fun c4 => ?_)
  · refine xg_iconst hC dX0_couldAct_24 ?_
    exact xg_zret hC hQ (by decide) dX0_couldAct_25
  refine xg_aload_n hC dX0_couldAct_9 rfl ?_
  refine xg_iload_n hC dX0_couldAct_10 rfl ?_
  refine xg_iload_n hC dX0_couldAct_11 rfl ?_
  refine xg_iload_n hC dX0_couldAct_12 rfl ?_
  refine xg_isub hC dX0_couldAct_13 ?_
  refine xg_callV hC (ci := 4) (w_X5_isDeadAhead hI o1.1 x0 (xm_w (x1 - x2)) h0 (xm_w_in _)) xl_M_X0_91 xl_V_X5_isDeadAhead (xm_hK (a := 9) (kd := 0) (n := 4) hI rfl).2 ((xm_hK (a := 9) (kd := 0) (n := 4) hI rfl).1 _) (by decide) rfl (by decide) ⟨by decide, by decide⟩ dX0_couldAct_14 (rest := []) rfl rfl (Nat.le_of_ble_eq_true rfl) rfl rfl (st2 := fun o => .int (xm_J o.2) :: []) (fun _ => rfl) (fun o5 k6 => ?_)
  refine xg_if_ne hC (xm_in01 k6) 24 dX0_couldAct_17 rfl (fun c7 => ?_) (fun c8 => ?_)
  · refine xg_iconst hC dX0_couldAct_20 ?_
    refine xg_goto hC 25 dX0_couldAct_21 rfl ?_
    exact xg_zret hC hQ (by decide) dX0_couldAct_25
  refine xg_iconst hC dX0_couldAct_24 ?_
  exact xg_zret hC hQ (by decide) dX0_couldAct_25
theorem w_X3_turn {Γ : xm_Gm} {I : xm_Mem → Prop} {la : Launch} (hE : I = xm_I) (σ : xm_Mem) (x0 : Int) (h0 : 0 ≤ x0 ∧ xm_in x0) : ∀ o, f_X3_turn σ x0 = some o → xm_M Γ I la yX3_turn cX3_turn 1 (some .int) 1 0 0 [xm_rf Γ x0] σ 1 o := by
  refine xg_enter (by decide) (by simp [lg_sl, xm_rf_cat, xm_cati, xm_catr, xm_catl]) (fun X hG hI0 hla hC hQ hname => ?_)
  subst hG
  have hI := hI0.trans hE
  clear hI0 hla
  unfold f_X3_turn
  refine xg_pick [0] (l' := [(0, xm_rf (xx_G X) x0)]) (by simp [lv_args, lv_pick, xm_rf_cat, xm_cati, xm_catr, xm_catl]) ?_
  refine xg_iconst hC dX3_turn_0 ?_
  refine xg_rload_n hC dX3_turn_1 rfl ?_
  refine xg_sgetI hC rfl xl_F_X3_15 dX3_turn_2 (fun k1 => ?_)
  refine xg_imul hC dX3_turn_5 ?_
  refine xg_rload_n hC dX3_turn_6 rfl ?_
  refine xg_sgetI hC rfl xl_F_X3_9 dX3_turn_7 (fun k2 => ?_)
  refine xg_iconst hC dX3_turn_10 ?_
  refine xg_icmp_ne hC k2 (xm_inc _ rfl) 18 dX3_turn_11 rfl (fun c3 => ?_) (fun c4 => ?_)
  · refine xg_iconst hC dX3_turn_14 ?_
    refine xg_goto hC 19 dX3_turn_15 rfl ?_
    refine xg_iadd hC dX3_turn_19 ?_
    exact xg_iret hC hQ (xm_w_in _) dX3_turn_20
  refine xg_iconst hC dX3_turn_18 ?_
  refine xg_iadd hC dX3_turn_19 ?_
  exact xg_iret hC hQ (xm_w_in _) dX3_turn_20
theorem w_X3_opens {Γ : xm_Gm} {I : xm_Mem → Prop} {la : Launch} (hE : I = xm_I) (σ : xm_Mem) (x0 : Int) (h0 : 0 ≤ x0 ∧ xm_in x0) : ∀ o, f_X3_opens σ x0 = some o → xm_M Γ I la yX3_opens cX3_opens 1 (some .boolean) 1 0 0 [xm_rf Γ x0] σ 2 o := by
  refine xg_enter (by decide) (by simp [lg_sl, xm_rf_cat, xm_cati, xm_catr, xm_catl]) (fun X hG hI0 hla hC hQ hname => ?_)
  subst hG
  have hI := hI0.trans hE
  clear hI0 hla
  unfold f_X3_opens
  refine xg_pick [0] (l' := [(0, xm_rf (xx_G X) x0)]) (by simp [lv_args, lv_pick, xm_rf_cat, xm_cati, xm_catr, xm_catl]) ?_
  refine xg_rload_n hC dX3_opens_0 rfl ?_
  refine xg_sgetI hC rfl xl_F_X3_9 dX3_opens_1 (fun k1 => ?_)
  refine xg_iconst hC dX3_opens_4 ?_
  refine xg_icmp_eq hC k1 (xm_inc _ rfl) 17 dX3_opens_5 rfl (fun c2 => ?_) (fun c3 => ?_)
  · refine xg_iconst hC dX3_opens_17 ?_
    refine xg_goto hC 22 dX3_opens_18 rfl ?_
    exact xg_zret hC hQ (by decide) dX3_opens_22
  refine xg_rload_n hC dX3_opens_8 rfl ?_
  refine xg_sgetI hC rfl xl_F_X3_9 dX3_opens_9 (fun k4 => ?_)
  refine xg_bipush hC dX3_opens_12 (by decide) ?_
  refine xg_icmp_ne hC k4 (xm_inc _ rfl) 21 dX3_opens_14 rfl (fun c5 => ?_) (fun c6 => ?_)
  · refine xg_iconst hC dX3_opens_17 ?_
    refine xg_goto hC 22 dX3_opens_18 rfl ?_
    exact xg_zret hC hQ (by decide) dX3_opens_22
  refine xg_iconst hC dX3_opens_21 ?_
  exact xg_zret hC hQ (by decide) dX3_opens_22
theorem w_X7_isOutOfTurn_b4 {X : xm_X} (hC : xm_C X yX7_isOutOfTurn.cls cX7_isOutOfTurn 5 3 0 0) (hQ : xm_Rt X 2 (some .boolean) 0 0) (hI : xx_I X = xm_I) {K93 : xm_Mem → Int → Int → Option xm_Out} (hK93 : ∀ (σ : xm_Mem) (x1 : Int) (x2 : Int), 0 ≤ x1 ∧ xm_in x1 → 0 ≤ x2 ∧ xm_in x2 → xm_V X 0 0 (K93 σ x1 x2) σ 93 [(1, xm_rf (xx_G X) x1), (2, xm_rf (xx_G X) x2)] []) {self : xm_Mem → Int → Int → Int → Option xm_Out} (hself : ∀ (σ : xm_Mem) (x1 : Int) (x2 : Int) (x3 : Int), 0 ≤ x1 ∧ xm_in x1 → 0 ≤ x2 ∧ xm_in x2 → xm_in x3 → xm_V X 0 0 (self σ x1 x2 x3) σ 4 [(0, .ref (xm_ad (xx_G X) 5)), (1, xm_rf (xx_G X) x1), (2, xm_rf (xx_G X) x2), (3, .int (xm_J x3))] []) (σ : xm_Mem) (x1 : Int) (x2 : Int) (x3 : Int) (h1 : 0 ≤ x1 ∧ xm_in x1) (h2 : 0 ≤ x2 ∧ xm_in x2) (h3 : xm_in x3) : xm_V X 0 0 (f_X7_isOutOfTurn_b4 K93 self σ x1 x2 x3) σ 4 [(0, .ref (xm_ad (xx_G X) 5)), (1, xm_rf (xx_G X) x1), (2, xm_rf (xx_G X) x2), (3, .int (xm_J x3))] [] := by
  unfold f_X7_isOutOfTurn_b4
  refine xg_iload_n hC dX7_isOutOfTurn_4 rfl ?_
  refine xg_aload_n hC dX7_isOutOfTurn_5 rfl ?_
  refine xg_getI hC (xm_hK hI rfl) rfl xl_F_X7_23 dX7_isOutOfTurn_6 (fun k1 => ?_)
  refine xg_icmp_ge hC h3 k1 93 dX7_isOutOfTurn_9 rfl (fun c2 => ?_) (fun c3 => ?_)
  · refine xg_aload_n hC dX7_isOutOfTurn_12 rfl ?_
    refine xg_iload_n hC dX7_isOutOfTurn_13 rfl ?_
    refine xg_callV hC (ci := 6) (w_X7_standing hI σ x3 h3) xl_M_X7_41 xl_V_X7_standing (xm_hK (a := 5) (kd := 0) (n := 6) hI rfl).2 ((xm_hK (a := 5) (kd := 0) (n := 6) hI rfl).1 _) (by decide) rfl (by decide) ⟨by decide, by decide⟩ dX7_isOutOfTurn_14 (rest := []) rfl rfl (Nat.le_of_ble_eq_true rfl) rfl rfl (st2 := fun o => xm_rf (xx_G X) o.2 :: []) (fun _ => rfl) (fun o4 k5 => ?_)
    refine xg_vR k5 (fun v6 k7 => ?_)
    refine xg_rstore hC (l' := [(4, xm_rf (xx_G X) v6), (0, .ref (xm_ad (xx_G X) 5)), (1, xm_rf (xx_G X) x1), (2, xm_rf (xx_G X) x2), (3, .int (xm_J x3))]) dX7_isOutOfTurn_17 (by decide) rfl ?_
    refine xg_rload hC dX7_isOutOfTurn_19 rfl ?_
    refine xg_ifnull hC 87 dX7_isOutOfTurn_21 rfl (fun c8 => ?_) (fun c9 => ?_)
    · refine xg_iinc hC (l' := [(3, .int (xm_J (xm_w (x3 + 1)))), (4, xm_rf (xx_G X) v6), (0, .ref (xm_ad (xx_G X) 5)), (1, xm_rf (xx_G X) x1), (2, xm_rf (xx_G X) x2)]) dX7_isOutOfTurn_87 (by decide) 4 rfl (by simp [xm_rf_cat, xm_cati, xm_catr, xm_catl] <;> decide) ?_
      refine xg_goto hC 4 dX7_isOutOfTurn_90 rfl ?_
      exact xg_pick [2, 3, 4, 0] rfl (hself o4.1 x1 x2 (xm_w (x3 + 1)) ⟨h1.1, h1.2⟩ ⟨h2.1, h2.2⟩ (xm_w_in _))
    refine xg_rload hC dX7_isOutOfTurn_24 rfl ?_
    refine xg_rload_n hC dX7_isOutOfTurn_26 rfl ?_
    refine xg_acmp_eq hC k7.1 h1.1 87 dX7_isOutOfTurn_27 rfl (fun c10 => ?_) (fun c11 => ?_)
    · refine xg_iinc hC (l' := [(3, .int (xm_J (xm_w (x3 + 1)))), (4, xm_rf (xx_G X) v6), (0, .ref (xm_ad (xx_G X) 5)), (1, xm_rf (xx_G X) x1), (2, xm_rf (xx_G X) x2)]) dX7_isOutOfTurn_87 (by decide) 4 rfl (by simp [xm_rf_cat, xm_cati, xm_catr, xm_catl] <;> decide) ?_
      refine xg_goto hC 4 dX7_isOutOfTurn_90 rfl ?_
      exact xg_pick [2, 3, 4, 0] rfl (hself o4.1 x1 x2 (xm_w (x3 + 1)) ⟨h1.1, h1.2⟩ ⟨h2.1, h2.2⟩ (xm_w_in _))
    refine xg_rload_n hC dX7_isOutOfTurn_30 rfl ?_
    refine xg_rload hC dX7_isOutOfTurn_31 rfl ?_
    refine xg_callVs hC (ci := 2) (w_X3_takesTurnsWith hI o4.1 x1 v6 ⟨h1.1, h1.2⟩ ⟨k7.1, k7.2⟩) xl_M_X7_83 xl_V_X3_takesTurnsWith (by decide) rfl (by decide) ⟨by decide, by decide⟩ dX7_isOutOfTurn_33 (rest := []) rfl rfl (Nat.le_of_ble_eq_true rfl) rfl rfl (st2 := fun o => .int (xm_J o.2) :: []) (fun _ => rfl) (fun o12 k13 => ?_)
    refine xg_if_ne hC (xm_in01 k13) 42 dX7_isOutOfTurn_36 rfl (fun c14 => ?_) (fun c15 => ?_)
    · refine xg_goto hC 87 dX7_isOutOfTurn_39 rfl ?_
      refine xg_iinc hC (l' := [(3, .int (xm_J (xm_w (x3 + 1)))), (4, xm_rf (xx_G X) v6), (0, .ref (xm_ad (xx_G X) 5)), (1, xm_rf (xx_G X) x1), (2, xm_rf (xx_G X) x2)]) dX7_isOutOfTurn_87 (by decide) 4 rfl (by simp [xm_rf_cat, xm_cati, xm_catr, xm_catl] <;> decide) ?_
      refine xg_goto hC 4 dX7_isOutOfTurn_90 rfl ?_
      exact xg_pick [2, 3, 4, 0] rfl (hself o12.1 x1 x2 (xm_w (x3 + 1)) ⟨h1.1, h1.2⟩ ⟨h2.1, h2.2⟩ (xm_w_in _))
    refine xg_rload hC dX7_isOutOfTurn_42 rfl ?_
    refine xg_callVs hC (ci := 2) (w_X3_turn hI o12.1 v6 ⟨k7.1, k7.2⟩) xl_M_X7_86 xl_V_X3_turn (by decide) rfl (by decide) ⟨by decide, by decide⟩ dX7_isOutOfTurn_44 (rest := []) rfl rfl (Nat.le_of_ble_eq_true rfl) rfl rfl (st2 := fun o => .int (xm_J o.2) :: []) (fun _ => rfl) (fun o16 k17 => ?_)
    refine xg_rload_n hC dX7_isOutOfTurn_47 rfl ?_
    refine xg_callVs hC (ci := 2) (w_X3_turn hI o16.1 x1 ⟨h1.1, h1.2⟩) xl_M_X7_86 xl_V_X3_turn (by decide) rfl (by decide) ⟨by decide, by decide⟩ dX7_isOutOfTurn_48 (rest := [.int (xm_J o16.2)]) rfl rfl (Nat.le_of_ble_eq_true rfl) rfl rfl (st2 := fun o => .int (xm_J o.2) :: [.int (xm_J o16.2)]) (fun _ => rfl) (fun o18 k19 => ?_)
    refine xg_icmp_ne hC k17 k19 56 dX7_isOutOfTurn_51 rfl (fun c20 => ?_) (fun c21 => ?_)
    · refine xg_iconst hC dX7_isOutOfTurn_54 ?_
      exact xg_zret hC hQ (by decide) dX7_isOutOfTurn_55
    refine xg_rload hC dX7_isOutOfTurn_56 rfl ?_
    refine xg_callVs hC (ci := 2) (w_X3_turn hI o18.1 v6 ⟨k7.1, k7.2⟩) xl_M_X7_86 xl_V_X3_turn (by decide) rfl (by decide) ⟨by decide, by decide⟩ dX7_isOutOfTurn_58 (rest := []) rfl rfl (Nat.le_of_ble_eq_true rfl) rfl rfl (st2 := fun o => .int (xm_J o.2) :: []) (fun _ => rfl) (fun o22 k23 => ?_)
    refine xg_rload_n hC dX7_isOutOfTurn_61 rfl ?_
    refine xg_callVs hC (ci := 2) (w_X3_turn hI o22.1 x1 ⟨h1.1, h1.2⟩) xl_M_X7_86 xl_V_X3_turn (by decide) rfl (by decide) ⟨by decide, by decide⟩ dX7_isOutOfTurn_62 (rest := [.int (xm_J o22.2)]) rfl rfl (Nat.le_of_ble_eq_true rfl) rfl rfl (st2 := fun o => .int (xm_J o.2) :: [.int (xm_J o22.2)]) (fun _ => rfl) (fun o24 k25 => ?_)
    refine xg_icmp_ge hC k23 k25 87 dX7_isOutOfTurn_65 rfl (fun c26 => ?_) (fun c27 => ?_)
    · refine xg_rload_n hC dX7_isOutOfTurn_68 rfl ?_
      refine xg_ifnull hC 84 dX7_isOutOfTurn_69 rfl (fun c28 => ?_) (fun c29 => ?_)
      · refine xg_rload hC dX7_isOutOfTurn_84 rfl ?_
        refine xg_rstore_n hC (l' := [(2, xm_rf (xx_G X) v6), (4, xm_rf (xx_G X) v6), (0, .ref (xm_ad (xx_G X) 5)), (1, xm_rf (xx_G X) x1), (3, .int (xm_J x3))]) dX7_isOutOfTurn_86 (by decide) (by simp [xm_rf_cat, xm_cati, xm_catr, xm_catl] <;> decide) ?_
        refine xg_iinc hC (l' := [(3, .int (xm_J (xm_w (x3 + 1)))), (2, xm_rf (xx_G X) v6), (4, xm_rf (xx_G X) v6), (0, .ref (xm_ad (xx_G X) 5)), (1, xm_rf (xx_G X) x1)]) dX7_isOutOfTurn_87 (by decide) 4 rfl (by simp [xm_rf_cat, xm_cati, xm_catr, xm_catl] <;> decide) ?_
        refine xg_goto hC 4 dX7_isOutOfTurn_90 rfl ?_
        exact xg_pick [3, 4, 1, 0] rfl (hself o24.1 x1 v6 (xm_w (x3 + 1)) ⟨h1.1, h1.2⟩ ⟨k7.1, k7.2⟩ (xm_w_in _))
      refine xg_rload hC dX7_isOutOfTurn_72 rfl ?_
      refine xg_callVs hC (ci := 2) (w_X3_turn hI o24.1 v6 ⟨k7.1, k7.2⟩) xl_M_X7_86 xl_V_X3_turn (by decide) rfl (by decide) ⟨by decide, by decide⟩ dX7_isOutOfTurn_74 (rest := []) rfl rfl (Nat.le_of_ble_eq_true rfl) rfl rfl (st2 := fun o => .int (xm_J o.2) :: []) (fun _ => rfl) (fun o30 k31 => ?_)
      refine xg_rload_n hC dX7_isOutOfTurn_77 rfl ?_
      refine xg_callVs hC (ci := 2) (w_X3_turn hI o30.1 x2 ⟨h2.1, h2.2⟩) xl_M_X7_86 xl_V_X3_turn (by decide) rfl (by decide) ⟨by decide, by decide⟩ dX7_isOutOfTurn_78 (rest := [.int (xm_J o30.2)]) rfl rfl (Nat.le_of_ble_eq_true rfl) rfl rfl (st2 := fun o => .int (xm_J o.2) :: [.int (xm_J o30.2)]) (fun _ => rfl) (fun o32 k33 => ?_)
      refine xg_icmp_le hC k31 k33 87 dX7_isOutOfTurn_81 rfl (fun c34 => ?_) (fun c35 => ?_)
      · refine xg_rload hC dX7_isOutOfTurn_84 rfl ?_
        refine xg_rstore_n hC (l' := [(2, xm_rf (xx_G X) v6), (4, xm_rf (xx_G X) v6), (0, .ref (xm_ad (xx_G X) 5)), (1, xm_rf (xx_G X) x1), (3, .int (xm_J x3))]) dX7_isOutOfTurn_86 (by decide) (by simp [xm_rf_cat, xm_cati, xm_catr, xm_catl] <;> decide) ?_
        refine xg_iinc hC (l' := [(3, .int (xm_J (xm_w (x3 + 1)))), (2, xm_rf (xx_G X) v6), (4, xm_rf (xx_G X) v6), (0, .ref (xm_ad (xx_G X) 5)), (1, xm_rf (xx_G X) x1)]) dX7_isOutOfTurn_87 (by decide) 4 rfl (by simp [xm_rf_cat, xm_cati, xm_catr, xm_catl] <;> decide) ?_
        refine xg_goto hC 4 dX7_isOutOfTurn_90 rfl ?_
        exact xg_pick [3, 4, 1, 0] rfl (hself o32.1 x1 v6 (xm_w (x3 + 1)) ⟨h1.1, h1.2⟩ ⟨k7.1, k7.2⟩ (xm_w_in _))
      refine xg_iinc hC (l' := [(3, .int (xm_J (xm_w (x3 + 1)))), (4, xm_rf (xx_G X) v6), (0, .ref (xm_ad (xx_G X) 5)), (1, xm_rf (xx_G X) x1), (2, xm_rf (xx_G X) x2)]) dX7_isOutOfTurn_87 (by decide) 4 rfl (by simp [xm_rf_cat, xm_cati, xm_catr, xm_catl] <;> decide) ?_
      refine xg_goto hC 4 dX7_isOutOfTurn_90 rfl ?_
      exact xg_pick [2, 3, 4, 0] rfl (hself o32.1 x1 x2 (xm_w (x3 + 1)) ⟨h1.1, h1.2⟩ ⟨h2.1, h2.2⟩ (xm_w_in _))
    refine xg_iinc hC (l' := [(3, .int (xm_J (xm_w (x3 + 1)))), (4, xm_rf (xx_G X) v6), (0, .ref (xm_ad (xx_G X) 5)), (1, xm_rf (xx_G X) x1), (2, xm_rf (xx_G X) x2)]) dX7_isOutOfTurn_87 (by decide) 4 rfl (by simp [xm_rf_cat, xm_cati, xm_catr, xm_catl] <;> decide) ?_
    refine xg_goto hC 4 dX7_isOutOfTurn_90 rfl ?_
    exact xg_pick [2, 3, 4, 0] rfl (hself o24.1 x1 x2 (xm_w (x3 + 1)) ⟨h1.1, h1.2⟩ ⟨h2.1, h2.2⟩ (xm_w_in _))
  exact xg_pick [1, 2] rfl (hK93 σ x1 x2 ⟨h1.1, h1.2⟩ ⟨h2.1, h2.2⟩)
theorem w_X7_isOutOfTurn_l4 {X : xm_X} (hC : xm_C X yX7_isOutOfTurn.cls cX7_isOutOfTurn 5 3 0 0) (hQ : xm_Rt X 2 (some .boolean) 0 0) (hI : xx_I X = xm_I) {K93 : xm_Mem → Int → Int → Option xm_Out} (hK93 : ∀ (σ : xm_Mem) (x1 : Int) (x2 : Int), 0 ≤ x1 ∧ xm_in x1 → 0 ≤ x2 ∧ xm_in x2 → xm_V X 0 0 (K93 σ x1 x2) σ 93 [(1, xm_rf (xx_G X) x1), (2, xm_rf (xx_G X) x2)] []) (n : Nat) : ∀ (σ : xm_Mem) (x1 : Int) (x2 : Int) (x3 : Int), 0 ≤ x1 ∧ xm_in x1 → 0 ≤ x2 ∧ xm_in x2 → xm_in x3 → xm_V X 0 0 (f_X7_isOutOfTurn_l4 K93 n σ x1 x2 x3) σ 4 [(0, .ref (xm_ad (xx_G X) 5)), (1, xm_rf (xx_G X) x1), (2, xm_rf (xx_G X) x2), (3, .int (xm_J x3))] [] := by
  induction n with
  | zero => intro σ x1 x2 x3 h1 h2 h3; exact xg_none
  | succ n ih => intro σ x1 x2 x3 h1 h2 h3; exact w_X7_isOutOfTurn_b4 hC hQ hI hK93 ih σ x1 x2 x3 h1 h2 h3
theorem w_X7_isOutOfTurn_j109 {X : xm_X} (hC : xm_C X yX7_isOutOfTurn.cls cX7_isOutOfTurn 5 3 0 0) (hQ : xm_Rt X 2 (some .boolean) 0 0) (hI : xx_I X = xm_I)   (σ : xm_Mem) (s0 : Int) (x1 : Int) (g0 : 0 ≤ s0 ∧ s0 ≤ 1) (h1 : 0 ≤ x1 ∧ xm_in x1) : xm_V X 0 0 (f_X7_isOutOfTurn_j109  σ s0 x1) σ 109 [(1, xm_rf (xx_G X) x1)] [.int (xm_J s0)] := by
  unfold f_X7_isOutOfTurn_j109
  refine xg_istore_n hC (l' := [(3, .int (xm_J s0)), (1, xm_rf (xx_G X) x1)]) dX7_isOutOfTurn_109 (by decide) rfl ?_
  refine xg_iload_n hC dX7_isOutOfTurn_110 rfl ?_
  refine xg_rload_n hC dX7_isOutOfTurn_111 rfl ?_
  refine xg_callVs hC (ci := 2) (w_X3_opens hI σ x1 ⟨h1.1, h1.2⟩) xl_M_X7_90 xl_V_X3_opens (by decide) rfl (by decide) ⟨by decide, by decide⟩ dX7_isOutOfTurn_112 (rest := [.int (xm_J s0)]) rfl rfl (Nat.le_of_ble_eq_true rfl) rfl rfl (st2 := fun o => .int (xm_J o.2) :: [.int (xm_J s0)]) (fun _ => rfl) (fun o39 k40 => ?_)
  refine xg_icmp_ne hC (xm_in01 g0) (xm_in01 k40) 122 dX7_isOutOfTurn_115 rfl (fun c41 => ?_) (fun c42 => ?_)
  · refine xg_iconst hC dX7_isOutOfTurn_118 ?_
    refine xg_goto hC 123 dX7_isOutOfTurn_119 rfl ?_
    exact xg_zret hC hQ (by decide) dX7_isOutOfTurn_123
  refine xg_iconst hC dX7_isOutOfTurn_122 ?_
  exact xg_zret hC hQ (by decide) dX7_isOutOfTurn_123
theorem w_X7_isOutOfTurn_j108 {X : xm_X} (hC : xm_C X yX7_isOutOfTurn.cls cX7_isOutOfTurn 5 3 0 0) (hQ : xm_Rt X 2 (some .boolean) 0 0) (hI : xx_I X = xm_I)   (σ : xm_Mem) (x1 : Int) (h1 : 0 ≤ x1 ∧ xm_in x1) : xm_V X 0 0 (f_X7_isOutOfTurn_j108  σ x1) σ 108 [(1, xm_rf (xx_G X) x1)] [] := by
  unfold f_X7_isOutOfTurn_j108
  refine xg_iconst hC dX7_isOutOfTurn_108 ?_
  exact (w_X7_isOutOfTurn_j109 hC hQ hI σ (0 : Int) x1 (by decide) ⟨h1.1, h1.2⟩)
theorem w_X7_isOutOfTurn {Γ : xm_Gm} {I : xm_Mem → Prop} {la : Launch} (hE : I = xm_I) (σ : xm_Mem) (x1 : Int) (h1 : 0 ≤ x1 ∧ xm_in x1) : ∀ o, f_X7_isOutOfTurn σ x1 = some o → xm_M Γ I la yX7_isOutOfTurn cX7_isOutOfTurn 5 (some .boolean) 3 0 0 [.ref (xm_ad Γ 5), xm_rf Γ x1] σ 2 o := by
  refine xg_enter (by decide) (by simp [lg_sl, xm_rf_cat, xm_cati, xm_catr, xm_catl]) (fun X hG hI0 hla hC hQ hname => ?_)
  subst hG
  have hI := hI0.trans hE
  clear hI0 hla
  unfold f_X7_isOutOfTurn
  refine xg_pick [0, 1] (l' := [(0, .ref (xm_ad (xx_G X) 5)), (1, xm_rf (xx_G X) x1)]) (by simp [lv_args, lv_pick, xm_rf_cat, xm_cati, xm_catr, xm_catl]) ?_
  refine xg_null hC dX7_isOutOfTurn_0 ?_
  refine xg_rstore_n hC (l' := [(2, xm_rf (xx_G X) (0 : Int)), (0, .ref (xm_ad (xx_G X) 5)), (1, xm_rf (xx_G X) x1)]) dX7_isOutOfTurn_1 (by decide) (by simp [xm_rf_cat, xm_cati, xm_catr, xm_catl] <;> decide) ?_
  refine xg_iconst hC dX7_isOutOfTurn_2 ?_
  refine xg_istore_n hC (l' := [(3, .int (xm_J (0 : Int))), (2, xm_rf (xx_G X) (0 : Int)), (0, .ref (xm_ad (xx_G X) 5)), (1, xm_rf (xx_G X) x1)]) dX7_isOutOfTurn_3 (by decide) (by simp [xm_rf_cat, xm_cati, xm_catr, xm_catl] <;> decide) ?_
  refine xg_pick [2, 3, 1, 0] rfl (w_X7_isOutOfTurn_l4 hC hQ hI ?_ _ σ x1 (0 : Int) (0 : Int) ⟨h1.1, h1.2⟩ ⟨(by decide), xm_in0⟩ (xm_inc _ rfl))
  intro σ_36 x1_36 x2_36 h1_36 h2_36
  refine xg_rload_n hC dX7_isOutOfTurn_93 rfl ?_
  refine xg_ifnull hC 108 dX7_isOutOfTurn_94 rfl (fun c37 => ?_) (fun c38 => ?_)
  · exact xg_pick [0] rfl (w_X7_isOutOfTurn_j108 hC hQ hI σ_36 x1_36 ⟨h1_36.1, h1_36.2⟩)
  refine xg_rload_n hC dX7_isOutOfTurn_97 rfl ?_
  refine xg_callVs hC (ci := 2) (w_X3_opens hI σ_36 x2_36 ⟨h2_36.1, h2_36.2⟩) xl_M_X7_90 xl_V_X3_opens (by decide) rfl (by decide) ⟨by decide, by decide⟩ dX7_isOutOfTurn_98 (rest := []) rfl rfl (Nat.le_of_ble_eq_true rfl) rfl rfl (st2 := fun o => .int (xm_J o.2) :: []) (fun _ => rfl) (fun o43 k44 => ?_)
  refine xg_if_eq hC (xm_in01 k44) 108 dX7_isOutOfTurn_101 rfl (fun c45 => ?_) (fun c46 => ?_)
  · exact xg_pick [0] rfl (w_X7_isOutOfTurn_j108 hC hQ hI o43.1 x1_36 ⟨h1_36.1, h1_36.2⟩)
  refine xg_iconst hC dX7_isOutOfTurn_104 ?_
  refine xg_goto hC 109 dX7_isOutOfTurn_105 rfl ?_
  exact xg_pick [0] rfl (w_X7_isOutOfTurn_j109 hC hQ hI o43.1 (1 : Int) x1_36 (by decide) ⟨h1_36.1, h1_36.2⟩)
theorem w_X0_breaksATitle_j101 {X : xm_X} (hC : xm_C X yX0_breaksATitle.cls cX0_breaksATitle 4 4 0 0) (hQ : xm_Rt X 2 (some .boolean) 0 0) (hI : xx_I X = xm_I)   (σ : xm_Mem) (x0 : Int) (h0 : 0 ≤ x0 ∧ xm_in x0) : xm_V X 0 0 (f_X0_breaksATitle_j101  σ x0) σ 101 [(0, xm_rf (xx_G X) x0), (1, .ref (xm_ad (xx_G X) 5))] [] := by
  unfold f_X0_breaksATitle_j101
  refine xg_aload_n hC dX0_breaksATitle_101 rfl ?_
  refine xg_rload_n hC dX0_breaksATitle_102 rfl ?_
  refine xg_sgetI hC rfl xl_F_X0_94 dX0_breaksATitle_103 (fun k26 => ?_)
  refine xg_callV hC (ci := 6) (w_X7_grantOf hI σ (σ.1 x0.toNat 6) k26) xl_M_X0_97 xl_V_X7_grantOf (xm_hK (a := 5) (kd := 0) (n := 6) hI rfl).2 ((xm_hK (a := 5) (kd := 0) (n := 6) hI rfl).1 _) (by decide) rfl (by decide) ⟨by decide, by decide⟩ dX0_breaksATitle_106 (rest := []) rfl rfl (Nat.le_of_ble_eq_true rfl) rfl rfl (st2 := fun o => xm_rf (xx_G X) o.2 :: []) (fun _ => rfl) (fun o27 k28 => ?_)
  refine xg_vR k28 (fun v29 k30 => ?_)
  refine xg_rstore_n hC (l' := [(3, xm_rf (xx_G X) v29), (0, xm_rf (xx_G X) x0), (1, .ref (xm_ad (xx_G X) 5))]) dX0_breaksATitle_109 (by decide) rfl ?_
  refine xg_rload_n hC dX0_breaksATitle_110 rfl ?_
  refine xg_ifnonnull hC 116 dX0_breaksATitle_111 rfl (fun c31 => ?_) (fun c32 => ?_)
  · refine xg_iconst hC dX0_breaksATitle_114 ?_
    exact xg_zret hC hQ (by decide) dX0_breaksATitle_115
  refine xg_rload_n hC dX0_breaksATitle_116 rfl ?_
  refine xg_sgetI hC rfl xl_F_X0_45 dX0_breaksATitle_117 (fun k33 => ?_)
  refine xg_rload_n hC dX0_breaksATitle_120 rfl ?_
  refine xg_sgetI hC rfl xl_F_X0_45 dX0_breaksATitle_121 (fun k34 => ?_)
  refine xg_icmp_lt hC k33 k34 144 dX0_breaksATitle_124 rfl (fun c35 => ?_) (fun c36 => ?_)
  · refine xg_iconst hC dX0_breaksATitle_144 ?_
    refine xg_goto hC 149 dX0_breaksATitle_145 rfl ?_
    exact xg_zret hC hQ (by decide) dX0_breaksATitle_149
  refine xg_rload_n hC dX0_breaksATitle_127 rfl ?_
  refine xg_sgetI hC rfl xl_F_X0_35 dX0_breaksATitle_128 (fun k37 => ?_)
  refine xg_bipush hC dX0_breaksATitle_131 (by decide) ?_
  refine xg_icmp_ne hC k37 (xm_inc _ rfl) 148 dX0_breaksATitle_133 rfl (fun c38 => ?_) (fun c39 => ?_)
  · refine xg_rload_n hC dX0_breaksATitle_136 rfl ?_
    refine xg_sgetI hC rfl xl_F_X0_100 dX0_breaksATitle_137 (fun k40 => ?_)
    refine xg_iconst hC dX0_breaksATitle_140 ?_
    refine xg_icmp_eq hC k40 (xm_inc _ rfl) 148 dX0_breaksATitle_141 rfl (fun c41 => ?_) (fun c42 => ?_)
    · refine xg_iconst hC dX0_breaksATitle_148 ?_
      exact xg_zret hC hQ (by decide) dX0_breaksATitle_149
    refine xg_iconst hC dX0_breaksATitle_144 ?_
    refine xg_goto hC 149 dX0_breaksATitle_145 rfl ?_
    exact xg_zret hC hQ (by decide) dX0_breaksATitle_149
  refine xg_iconst hC dX0_breaksATitle_148 ?_
  exact xg_zret hC hQ (by decide) dX0_breaksATitle_149
theorem w_X0_breaksATitle_j75 {X : xm_X} (hC : xm_C X yX0_breaksATitle.cls cX0_breaksATitle 4 4 0 0) (hQ : xm_Rt X 2 (some .boolean) 0 0) (hI : xx_I X = xm_I)   (σ : xm_Mem) (x0 : Int) (h0 : 0 ≤ x0 ∧ xm_in x0) : xm_V X 0 0 (f_X0_breaksATitle_j75  σ x0) σ 75 [(0, xm_rf (xx_G X) x0), (1, .ref (xm_ad (xx_G X) 5))] [] := by
  unfold f_X0_breaksATitle_j75
  refine xg_rload_n hC dX0_breaksATitle_75 rfl ?_
  refine xg_sgetI hC rfl xl_F_X0_35 dX0_breaksATitle_76 (fun k23 => ?_)
  refine xg_iconst hC dX0_breaksATitle_79 ?_
  refine xg_icmp_eq hC k23 (xm_inc _ rfl) 101 dX0_breaksATitle_80 rfl (fun c24 => ?_) (fun c25 => ?_)
  · exact (w_X0_breaksATitle_j101 hC hQ hI σ x0 ⟨h0.1, h0.2⟩)
  refine xg_rload_n hC dX0_breaksATitle_83 rfl ?_
  refine xg_sgetI hC rfl xl_F_X0_35 dX0_breaksATitle_84 (fun k43 => ?_)
  refine xg_bipush hC dX0_breaksATitle_87 (by decide) ?_
  refine xg_icmp_eq hC k43 (xm_inc _ rfl) 101 dX0_breaksATitle_89 rfl (fun c44 => ?_) (fun c45 => ?_)
  · exact (w_X0_breaksATitle_j101 hC hQ hI σ x0 ⟨h0.1, h0.2⟩)
  refine xg_rload_n hC dX0_breaksATitle_92 rfl ?_
  refine xg_callVs hC (ci := 2) (w_X3_isOfLoss hI σ x0 ⟨h0.1, h0.2⟩) xl_M_X0_80 xl_V_X3_isOfLoss (by decide) rfl (by decide) ⟨by decide, by decide⟩ dX0_breaksATitle_93 (rest := []) rfl rfl (Nat.le_of_ble_eq_true rfl) rfl rfl (st2 := fun o => .int (xm_J o.2) :: []) (fun _ => rfl) (fun o46 k47 => ?_)
  refine xg_if_ne hC (xm_in01 k47) 101 dX0_breaksATitle_96 rfl (fun c48 => ?_) (fun c49 => ?_)
  · refine xg_iconst hC dX0_breaksATitle_99 ?_
    exact xg_zret hC hQ (by decide) dX0_breaksATitle_100
  exact (w_X0_breaksATitle_j101 hC hQ hI o46.1 x0 ⟨h0.1, h0.2⟩)
theorem w_X0_breaksATitle_j57 {X : xm_X} (hC : xm_C X yX0_breaksATitle.cls cX0_breaksATitle 4 4 0 0) (hQ : xm_Rt X 2 (some .boolean) 0 0) (hI : xx_I X = xm_I)   (σ : xm_Mem) (x0 : Int) (h0 : 0 ≤ x0 ∧ xm_in x0) : xm_V X 0 0 (f_X0_breaksATitle_j57  σ x0) σ 57 [(0, xm_rf (xx_G X) x0), (1, .ref (xm_ad (xx_G X) 5))] [] := by
  unfold f_X0_breaksATitle_j57
  refine xg_rload_n hC dX0_breaksATitle_57 rfl ?_
  refine xg_sgetI hC rfl xl_F_X0_35 dX0_breaksATitle_58 (fun k16 => ?_)
  refine xg_iconst hC dX0_breaksATitle_61 ?_
  refine xg_icmp_ne hC k16 (xm_inc _ rfl) 75 dX0_breaksATitle_62 rfl (fun c17 => ?_) (fun c18 => ?_)
  · refine xg_aload_n hC dX0_breaksATitle_65 rfl ?_
    refine xg_rload_n hC dX0_breaksATitle_66 rfl ?_
    refine xg_callV hC (ci := 6) (w_X7_tellsAgain hI σ x0 ⟨h0.1, h0.2⟩) xl_M_X0_41 xl_V_X7_tellsAgain (xm_hK (a := 5) (kd := 0) (n := 6) hI rfl).2 ((xm_hK (a := 5) (kd := 0) (n := 6) hI rfl).1 _) (by decide) rfl (by decide) ⟨by decide, by decide⟩ dX0_breaksATitle_67 (rest := []) rfl rfl (Nat.le_of_ble_eq_true rfl) rfl rfl (st2 := fun o => .int (xm_J o.2) :: []) (fun _ => rfl) (fun o19 k20 => ?_)
    refine xg_if_eq hC (xm_in01 k20) 75 dX0_breaksATitle_70 rfl (fun c21 => ?_) (fun c22 => ?_)
    · exact (w_X0_breaksATitle_j75 hC hQ hI o19.1 x0 ⟨h0.1, h0.2⟩)
    refine xg_iconst hC dX0_breaksATitle_73 ?_
    exact xg_zret hC hQ (by decide) dX0_breaksATitle_74
  exact (w_X0_breaksATitle_j75 hC hQ hI σ x0 ⟨h0.1, h0.2⟩)
theorem w_X0_breaksATitle_j25 {X : xm_X} (hC : xm_C X yX0_breaksATitle.cls cX0_breaksATitle 4 4 0 0) (hQ : xm_Rt X 2 (some .boolean) 0 0) (hI : xx_I X = xm_I)   (σ : xm_Mem) (x0 : Int) (h0 : 0 ≤ x0 ∧ xm_in x0) : xm_V X 0 0 (f_X0_breaksATitle_j25  σ x0) σ 25 [(0, xm_rf (xx_G X) x0), (1, .ref (xm_ad (xx_G X) 5)), (2, .ref (xm_ad (xx_G X) 9))] [] := by
  unfold f_X0_breaksATitle_j25
  refine xg_aload_n hC dX0_breaksATitle_25 rfl ?_
  refine xg_rload_n hC dX0_breaksATitle_26 rfl ?_
  refine xg_sgetI hC rfl xl_F_X0_48 dX0_breaksATitle_27 (fun k4 => ?_)
  refine xg_callV hC (ci := 4) (w_X5_bornOn hI σ (σ.1 x0.toNat 2) k4) xl_M_X0_51 xl_V_X5_bornOn (xm_hK (a := 9) (kd := 0) (n := 4) hI rfl).2 ((xm_hK (a := 9) (kd := 0) (n := 4) hI rfl).1 _) (by decide) rfl (by decide) ⟨by decide, by decide⟩ dX0_breaksATitle_30 (rest := []) rfl rfl (Nat.le_of_ble_eq_true rfl) rfl rfl (st2 := fun o => .int (xm_J o.2) :: []) (fun _ => rfl) (fun o5 k6 => ?_)
  refine xg_rload_n hC dX0_breaksATitle_33 rfl ?_
  refine xg_sgetI hC rfl xl_F_X0_45 dX0_breaksATitle_34 (fun k7 => ?_)
  refine xg_icmp_gt hC k6 k7 55 dX0_breaksATitle_37 rfl (fun c8 => ?_) (fun c9 => ?_)
  · refine xg_iconst hC dX0_breaksATitle_55 ?_
    exact xg_zret hC hQ (by decide) dX0_breaksATitle_56
  refine xg_aload_n hC dX0_breaksATitle_40 rfl ?_
  refine xg_rload_n hC dX0_breaksATitle_41 rfl ?_
  refine xg_sgetI hC rfl xl_F_X0_48 dX0_breaksATitle_42 (fun k10 => ?_)
  refine xg_rload_n hC dX0_breaksATitle_45 rfl ?_
  refine xg_sgetI hC rfl xl_F_X0_45 dX0_breaksATitle_46 (fun k11 => ?_)
  refine xg_callV hC (ci := 4) (w_X5_isDeadAhead hI o5.1 (o5.1.1 x0.toNat 2) (o5.1.1 x0.toNat 1) k10 k11) xl_M_X0_91 xl_V_X5_isDeadAhead (xm_hK (a := 9) (kd := 0) (n := 4) hI rfl).2 ((xm_hK (a := 9) (kd := 0) (n := 4) hI rfl).1 _) (by decide) rfl (by decide) ⟨by decide, by decide⟩ dX0_breaksATitle_49 (rest := []) rfl rfl (Nat.le_of_ble_eq_true rfl) rfl rfl (st2 := fun o => .int (xm_J o.2) :: []) (fun _ => rfl) (fun o12 k13 => ?_)
  refine xg_if_eq hC (xm_in01 k13) 57 dX0_breaksATitle_52 rfl (fun c14 => ?_) (fun c15 => ?_)
  · exact xg_pick [0, 1] rfl (w_X0_breaksATitle_j57 hC hQ hI o12.1 x0 ⟨h0.1, h0.2⟩)
  refine xg_iconst hC dX0_breaksATitle_55 ?_
  exact xg_zret hC hQ (by decide) dX0_breaksATitle_56
theorem w_X0_breaksATitle {Γ : xm_Gm} {I : xm_Mem → Prop} {la : Launch} (hE : I = xm_I) (σ : xm_Mem) (x0 : Int) (h0 : 0 ≤ x0 ∧ xm_in x0) : ∀ o, f_X0_breaksATitle σ x0 = some o → xm_M Γ I la yX0_breaksATitle cX0_breaksATitle 4 (some .boolean) 4 0 0 [xm_rf Γ x0, .ref (xm_ad Γ 5), .ref (xm_ad Γ 9)] σ 2 o := by
  refine xg_enter (by decide) (by simp [lg_sl, xm_rf_cat, xm_cati, xm_catr, xm_catl]) (fun X hG hI0 hla hC hQ hname => ?_)
  subst hG
  have hI := hI0.trans hE
  clear hI0 hla
  unfold f_X0_breaksATitle
  refine xg_pick [0, 1, 2] (l' := [(0, xm_rf (xx_G X) x0), (1, .ref (xm_ad (xx_G X) 5)), (2, .ref (xm_ad (xx_G X) 9))]) (by simp [lv_args, lv_pick, xm_rf_cat, xm_cati, xm_catr, xm_catl]) ?_
  refine xg_rload_n hC dX0_breaksATitle_0 rfl ?_
  refine xg_sgetI hC rfl xl_F_X0_35 dX0_breaksATitle_1 (fun k1 => ?_)
  refine xg_iconst hC dX0_breaksATitle_4 ?_
  refine xg_icmp_eq hC k1 (xm_inc _ rfl) 25 dX0_breaksATitle_5 rfl (fun c2 => ?_) (fun c3 => ?_)
  · exact (w_X0_breaksATitle_j25 hC hQ hI σ x0 ⟨h0.1, h0.2⟩)
  refine xg_rload_n hC dX0_breaksATitle_8 rfl ?_
  refine xg_sgetI hC rfl xl_F_X0_35 dX0_breaksATitle_9 (fun k50 => ?_)
  refine xg_iconst hC dX0_breaksATitle_12 ?_
  refine xg_icmp_eq hC k50 (xm_inc _ rfl) 25 dX0_breaksATitle_13 rfl (fun c51 => ?_) (fun c52 => ?_)
  · exact (w_X0_breaksATitle_j25 hC hQ hI σ x0 ⟨h0.1, h0.2⟩)
  refine xg_rload_n hC dX0_breaksATitle_16 rfl ?_
  refine xg_sgetI hC rfl xl_F_X0_35 dX0_breaksATitle_17 (fun k53 => ?_)
  refine xg_bipush hC dX0_breaksATitle_20 (by decide) ?_
  refine xg_icmp_ne hC k53 (xm_inc _ rfl) 57 dX0_breaksATitle_22 rfl (fun c54 => ?_) (fun c55 => ?_)
  · exact (w_X0_breaksATitle_j25 hC hQ hI σ x0 ⟨h0.1, h0.2⟩)
  exact xg_pick [0, 1] rfl (w_X0_breaksATitle_j57 hC hQ hI σ x0 ⟨h0.1, h0.2⟩)
theorem w_X0_breaks {Γ : xm_Gm} {I : xm_Mem → Prop} {la : Launch} (hE : I = xm_I) (σ : xm_Mem) (x0 : Int) (x1 : Int) (h0 : xm_in x0) (h1 : 0 ≤ x1 ∧ xm_in x1) : ∀ o, f_X0_breaks σ x0 x1 = some o → xm_M Γ I la yX0_breaks cX0_breaks 4 (some .boolean) 5 0 0 [.int (xm_J x0), xm_rf Γ x1, .ref (xm_ad Γ 5), .ref (xm_ad Γ 9)] σ 2 o := by
  refine xg_enter (by decide) (by simp [lg_sl, xm_rf_cat, xm_cati, xm_catr, xm_catl]) (fun X hG hI0 hla hC hQ hname => ?_)
  subst hG
  have hI := hI0.trans hE
  clear hI0 hla
  unfold f_X0_breaks
  refine xg_pick [0, 1, 2, 3] (l' := [(0, .int (xm_J x0)), (1, xm_rf (xx_G X) x1), (2, .ref (xm_ad (xx_G X) 5)), (3, .ref (xm_ad (xx_G X) 9))]) (by simp [lv_args, lv_pick, xm_rf_cat, xm_cati, xm_catr, xm_catl]) ?_
  refine xg_iload_n hC dX0_breaks_0 rfl ?_
  refine xg_ite (fun e1 => xg_tswIn hC 1 52 e1 dX0_breaks_1 (xm_inc _ rfl) (by decide) (by decide) rfl rfl ?_) (fun n2 => ?_)
  · refine xg_rload_n hC dX0_breaks_52 rfl ?_
    refine xg_aload_n hC dX0_breaks_53 rfl ?_
    refine xg_callS hC (w_X0_hasWrongSexes hI σ x1 ⟨h1.1, h1.2⟩) xl_M_X0_31 xl_S_X0_hasWrongSexes (by decide) ⟨by decide, by decide⟩ dX0_breaks_54 (rest := []) rfl rfl (Nat.le_of_ble_eq_true rfl) rfl rfl (st2 := fun o => .int (xm_J o.2) :: []) (fun _ => rfl) (fun o3 k4 => ?_)
    exact xg_zret hC hQ k4 dX0_breaks_57
  refine xg_ite (fun e5 => xg_tswIn hC 2 58 e5 dX0_breaks_1 (xm_inc _ rfl) (by decide) (by decide) rfl rfl ?_) (fun n6 => ?_)
  · refine xg_rload_n hC dX0_breaks_58 rfl ?_
    refine xg_sgetI hC rfl xl_F_X0_35 dX0_breaks_59 (fun k7 => ?_)
    refine xg_iconst hC dX0_breaks_62 ?_
    refine xg_icmp_ne hC k7 (xm_inc _ rfl) 93 dX0_breaks_63 rfl (fun c8 => ?_) (fun c9 => ?_)
    · refine xg_aload_n hC dX0_breaks_66 rfl ?_
      refine xg_rload_n hC dX0_breaks_67 rfl ?_
      refine xg_callV hC (ci := 6) (w_X7_tellsAgain hI σ x1 ⟨h1.1, h1.2⟩) xl_M_X0_41 xl_V_X7_tellsAgain (xm_hK (a := 5) (kd := 0) (n := 6) hI rfl).2 ((xm_hK (a := 5) (kd := 0) (n := 6) hI rfl).1 _) (by decide) rfl (by decide) ⟨by decide, by decide⟩ dX0_breaks_68 (rest := []) rfl rfl (Nat.le_of_ble_eq_true rfl) rfl rfl (st2 := fun o => .int (xm_J o.2) :: []) (fun _ => rfl) (fun o10 k11 => ?_)
      refine xg_if_ne hC (xm_in01 k11) 89 dX0_breaks_71 rfl (fun c12 => ?_) (fun c13 => ?_)
      · refine xg_rload_n hC dX0_breaks_74 rfl ?_
        refine xg_sgetI hC rfl xl_F_X0_45 dX0_breaks_75 (fun k14 => ?_)
        refine xg_aload_n hC dX0_breaks_78 rfl ?_
        refine xg_rload_n hC dX0_breaks_79 rfl ?_
        refine xg_sgetI hC rfl xl_F_X0_48 dX0_breaks_80 (fun k15 => ?_)
        refine xg_callV hC (ci := 4) (w_X5_bornOn hI o10.1 (o10.1.1 x1.toNat 2) k15) xl_M_X0_51 xl_V_X5_bornOn (xm_hK (a := 9) (kd := 0) (n := 4) hI rfl).2 ((xm_hK (a := 9) (kd := 0) (n := 4) hI rfl).1 _) (by decide) rfl (by decide) ⟨by decide, by decide⟩ dX0_breaks_83 (rest := [.int (xm_J (o10.1.1 x1.toNat 1))]) rfl rfl (Nat.le_of_ble_eq_true rfl) rfl rfl (st2 := fun o => .int (xm_J o.2) :: [.int (xm_J (o10.1.1 x1.toNat 1))]) (fun _ => rfl) (fun o16 k17 => ?_)
        refine xg_icmp_ge hC k14 k17 93 dX0_breaks_86 rfl (fun c18 => ?_) (fun c19 => ?_)
        · refine xg_iconst hC dX0_breaks_89 ?_
          refine xg_goto hC 94 dX0_breaks_90 rfl ?_
          exact xg_zret hC hQ (by decide) dX0_breaks_94
        refine xg_iconst hC dX0_breaks_93 ?_
        exact xg_zret hC hQ (by decide) dX0_breaks_94
      refine xg_iconst hC dX0_breaks_89 ?_
      refine xg_goto hC 94 dX0_breaks_90 rfl ?_
      exact xg_zret hC hQ (by decide) dX0_breaks_94
    refine xg_iconst hC dX0_breaks_93 ?_
    exact xg_zret hC hQ (by decide) dX0_breaks_94
  refine xg_ite (fun e20 => xg_tswIn hC 3 95 e20 dX0_breaks_1 (xm_inc _ rfl) (by decide) (by decide) rfl rfl ?_) (fun n21 => ?_)
  · refine xg_rload_n hC dX0_breaks_95 rfl ?_
    refine xg_sgetI hC rfl xl_F_X0_35 dX0_breaks_96 (fun k22 => ?_)
    refine xg_if_ne hC k22 130 dX0_breaks_99 rfl (fun c23 => ?_) (fun c24 => ?_)
    · refine xg_rload_n hC dX0_breaks_102 rfl ?_
      refine xg_sgetI hC rfl xl_F_X0_57 dX0_breaks_103 (fun k25 => ?_)
      refine xg_iconst hC dX0_breaks_106 ?_
      refine xg_icmp_eq hC k25 (xm_inc _ rfl) 130 dX0_breaks_107 rfl (fun c26 => ?_) (fun c27 => ?_)
      · refine xg_iconst hC dX0_breaks_130 ?_
        exact xg_zret hC hQ (by decide) dX0_breaks_131
      refine xg_rload_n hC dX0_breaks_110 rfl ?_
      refine xg_sgetI hC rfl xl_F_X0_57 dX0_breaks_111 (fun k28 => ?_)
      refine xg_rload_n hC dX0_breaks_114 rfl ?_
      refine xg_sgetI hC rfl xl_F_X0_45 dX0_breaks_115 (fun k29 => ?_)
      refine xg_iconst hC dX0_breaks_118 ?_
      refine xg_aload_n hC dX0_breaks_119 rfl ?_
      refine xg_callS hC (w_X0_couldAct hI σ (σ.1 x1.toNat 5) (σ.1 x1.toNat 1) (0 : Int) k28 k29 (xm_inc _ rfl)) xl_M_X0_60 xl_S_X0_couldAct (by decide) ⟨by decide, by decide⟩ dX0_breaks_120 (rest := []) rfl rfl (Nat.le_of_ble_eq_true rfl) rfl rfl (st2 := fun o => .int (xm_J o.2) :: []) (fun _ => rfl) (fun o30 k31 => ?_)
      refine xg_if_ne hC (xm_in01 k31) 130 dX0_breaks_123 rfl (fun c32 => ?_) (fun c33 => ?_)
      · refine xg_iconst hC dX0_breaks_126 ?_
        refine xg_goto hC 131 dX0_breaks_127 rfl ?_
        exact xg_zret hC hQ (by decide) dX0_breaks_131
      refine xg_iconst hC dX0_breaks_130 ?_
      exact xg_zret hC hQ (by decide) dX0_breaks_131
    refine xg_iconst hC dX0_breaks_130 ?_
    exact xg_zret hC hQ (by decide) dX0_breaks_131
  refine xg_ite (fun e34 => xg_tswIn hC 4 132 e34 dX0_breaks_1 (xm_inc _ rfl) (by decide) (by decide) rfl rfl ?_) (fun n35 => ?_)
  · refine xg_rload_n hC dX0_breaks_132 rfl ?_
    refine xg_sgetI hC rfl xl_F_X0_35 dX0_breaks_133 (fun k36 => ?_)
    refine xg_if_ne hC k36 169 dX0_breaks_136 rfl (fun c37 => ?_) (fun c38 => ?_)
    · refine xg_rload_n hC dX0_breaks_139 rfl ?_
      refine xg_sgetI hC rfl xl_F_X0_64 dX0_breaks_140 (fun k39 => ?_)
      refine xg_iconst hC dX0_breaks_143 ?_
      refine xg_icmp_eq hC k39 (xm_inc _ rfl) 169 dX0_breaks_144 rfl (fun c40 => ?_) (fun c41 => ?_)
      · refine xg_iconst hC dX0_breaks_169 ?_
        exact xg_zret hC hQ (by decide) dX0_breaks_170
      refine xg_rload_n hC dX0_breaks_147 rfl ?_
      refine xg_sgetI hC rfl xl_F_X0_64 dX0_breaks_148 (fun k42 => ?_)
      refine xg_rload_n hC dX0_breaks_151 rfl ?_
      refine xg_sgetI hC rfl xl_F_X0_45 dX0_breaks_152 (fun k43 => ?_)
      refine xg_sipush hC dX0_breaks_155 (by decide) ?_
      refine xg_aload_n hC dX0_breaks_158 rfl ?_
      refine xg_callS hC (w_X0_couldAct hI σ (σ.1 x1.toNat 4) (σ.1 x1.toNat 1) (300 : Int) k42 k43 (xm_inc _ rfl)) xl_M_X0_60 xl_S_X0_couldAct (by decide) ⟨by decide, by decide⟩ dX0_breaks_159 (rest := []) rfl rfl (Nat.le_of_ble_eq_true rfl) rfl rfl (st2 := fun o => .int (xm_J o.2) :: []) (fun _ => rfl) (fun o44 k45 => ?_)
      refine xg_if_ne hC (xm_in01 k45) 169 dX0_breaks_162 rfl (fun c46 => ?_) (fun c47 => ?_)
      · refine xg_iconst hC dX0_breaks_165 ?_
        refine xg_goto hC 170 dX0_breaks_166 rfl ?_
        exact xg_zret hC hQ (by decide) dX0_breaks_170
      refine xg_iconst hC dX0_breaks_169 ?_
      exact xg_zret hC hQ (by decide) dX0_breaks_170
    refine xg_iconst hC dX0_breaks_169 ?_
    exact xg_zret hC hQ (by decide) dX0_breaks_170
  refine xg_ite (fun e48 => xg_tswIn hC 5 171 e48 dX0_breaks_1 (xm_inc _ rfl) (by decide) (by decide) rfl rfl ?_) (fun n49 => ?_)
  · refine xg_rload_n hC dX0_breaks_171 rfl ?_
    refine xg_callVs hC (ci := 2) (w_X3_isOfUnion hI σ x1 ⟨h1.1, h1.2⟩) xl_M_X0_67 xl_V_X3_isOfUnion (by decide) rfl (by decide) ⟨by decide, by decide⟩ dX0_breaks_172 (rest := []) rfl rfl (Nat.le_of_ble_eq_true rfl) rfl rfl (st2 := fun o => .int (xm_J o.2) :: []) (fun _ => rfl) (fun o50 k51 => ?_)
    refine xg_if_eq hC (xm_in01 k51) 214 dX0_breaks_175 rfl (fun c52 => ?_) (fun c53 => ?_)
    · refine xg_iconst hC dX0_breaks_214 ?_
      exact xg_zret hC hQ (by decide) dX0_breaks_215
    refine xg_rload_n hC dX0_breaks_178 rfl ?_
    refine xg_sgetI hC rfl xl_F_X0_48 dX0_breaks_179 (fun k54 => ?_)
    refine xg_rload_n hC dX0_breaks_182 rfl ?_
    refine xg_sgetI hC rfl xl_F_X0_45 dX0_breaks_183 (fun k55 => ?_)
    refine xg_iconst hC dX0_breaks_186 ?_
    refine xg_aload_n hC dX0_breaks_187 rfl ?_
    refine xg_callS hC (w_X0_couldAct hI o50.1 (o50.1.1 x1.toNat 2) (o50.1.1 x1.toNat 1) (0 : Int) k54 k55 (xm_inc _ rfl)) xl_M_X0_60 xl_S_X0_couldAct (by decide) ⟨by decide, by decide⟩ dX0_breaks_188 (rest := []) rfl rfl (Nat.le_of_ble_eq_true rfl) rfl rfl (st2 := fun o => .int (xm_J o.2) :: []) (fun _ => rfl) (fun o56 k57 => ?_)
    refine xg_if_eq hC (xm_in01 k57) 210 dX0_breaks_191 rfl (fun c58 => ?_) (fun c59 => ?_)
    · refine xg_iconst hC dX0_breaks_210 ?_
      refine xg_goto hC 215 dX0_breaks_211 rfl ?_
      exact xg_zret hC hQ (by decide) dX0_breaks_215
    refine xg_rload_n hC dX0_breaks_194 rfl ?_
    refine xg_sgetI hC rfl xl_F_X0_70 dX0_breaks_195 (fun k60 => ?_)
    refine xg_rload_n hC dX0_breaks_198 rfl ?_
    refine xg_sgetI hC rfl xl_F_X0_45 dX0_breaks_199 (fun k61 => ?_)
    refine xg_iconst hC dX0_breaks_202 ?_
    refine xg_aload_n hC dX0_breaks_203 rfl ?_
    refine xg_callS hC (w_X0_couldAct hI o56.1 (o56.1.1 x1.toNat 3) (o56.1.1 x1.toNat 1) (0 : Int) k60 k61 (xm_inc _ rfl)) xl_M_X0_60 xl_S_X0_couldAct (by decide) ⟨by decide, by decide⟩ dX0_breaks_204 (rest := []) rfl rfl (Nat.le_of_ble_eq_true rfl) rfl rfl (st2 := fun o => .int (xm_J o.2) :: []) (fun _ => rfl) (fun o62 k63 => ?_)
    refine xg_if_ne hC (xm_in01 k63) 214 dX0_breaks_207 rfl (fun c64 => ?_) (fun c65 => ?_)
    · refine xg_iconst hC dX0_breaks_210 ?_
      refine xg_goto hC 215 dX0_breaks_211 rfl ?_
      exact xg_zret hC hQ (by decide) dX0_breaks_215
    refine xg_iconst hC dX0_breaks_214 ?_
    exact xg_zret hC hQ (by decide) dX0_breaks_215
  refine xg_ite (fun e66 => xg_tswIn hC 6 216 e66 dX0_breaks_1 (xm_inc _ rfl) (by decide) (by decide) rfl rfl ?_) (fun n67 => ?_)
  · refine xg_rload_n hC dX0_breaks_216 rfl ?_
    refine xg_callVs hC (ci := 2) (w_X3_isOfUnion hI σ x1 ⟨h1.1, h1.2⟩) xl_M_X0_67 xl_V_X3_isOfUnion (by decide) rfl (by decide) ⟨by decide, by decide⟩ dX0_breaks_217 (rest := []) rfl rfl (Nat.le_of_ble_eq_true rfl) rfl rfl (st2 := fun o => .int (xm_J o.2) :: []) (fun _ => rfl) (fun o68 k69 => ?_)
    refine xg_if_eq hC (xm_in01 k69) 235 dX0_breaks_220 rfl (fun c70 => ?_) (fun c71 => ?_)
    · refine xg_iconst hC dX0_breaks_235 ?_
      exact xg_zret hC hQ (by decide) dX0_breaks_236
    refine xg_aload_n hC dX0_breaks_223 rfl ?_
    refine xg_rload_n hC dX0_breaks_224 rfl ?_
    refine xg_callV hC (ci := 6) (w_X7_isOutOfTurn hI o68.1 x1 ⟨h1.1, h1.2⟩) xl_M_X0_73 xl_V_X7_isOutOfTurn (xm_hK (a := 5) (kd := 0) (n := 6) hI rfl).2 ((xm_hK (a := 5) (kd := 0) (n := 6) hI rfl).1 _) (by decide) rfl (by decide) ⟨by decide, by decide⟩ dX0_breaks_225 (rest := []) rfl rfl (Nat.le_of_ble_eq_true rfl) rfl rfl (st2 := fun o => .int (xm_J o.2) :: []) (fun _ => rfl) (fun o72 k73 => ?_)
    refine xg_if_eq hC (xm_in01 k73) 235 dX0_breaks_228 rfl (fun c74 => ?_) (fun c75 => ?_)
    · refine xg_iconst hC dX0_breaks_235 ?_
      exact xg_zret hC hQ (by decide) dX0_breaks_236
    refine xg_iconst hC dX0_breaks_231 ?_
    refine xg_goto hC 236 dX0_breaks_232 rfl ?_
    exact xg_zret hC hQ (by decide) dX0_breaks_236
  refine xg_ite (fun e76 => xg_tswIn hC 7 265 e76 dX0_breaks_1 (xm_inc _ rfl) (by decide) (by decide) rfl rfl ?_) (fun n77 => ?_)
  · refine xg_iconst hC dX0_breaks_265 ?_
    exact xg_zret hC hQ (by decide) dX0_breaks_266
  refine xg_ite (fun e78 => xg_tswIn hC 8 237 e78 dX0_breaks_1 (xm_inc _ rfl) (by decide) (by decide) rfl rfl ?_) (fun n79 => ?_)
  · refine xg_rload_n hC dX0_breaks_237 rfl ?_
    refine xg_aload_n hC dX0_breaks_238 rfl ?_
    refine xg_aload_n hC dX0_breaks_239 rfl ?_
    refine xg_callS hC (w_X0_breaksATitle hI σ x1 ⟨h1.1, h1.2⟩) xl_M_X0_76 xl_S_X0_breaksATitle (by decide) ⟨by decide, by decide⟩ dX0_breaks_240 (rest := []) rfl rfl (Nat.le_of_ble_eq_true rfl) rfl rfl (st2 := fun o => .int (xm_J o.2) :: []) (fun _ => rfl) (fun o80 k81 => ?_)
    exact xg_zret hC hQ k81 dX0_breaks_243
  refine xg_ite (fun e82 => xg_tswIn hC 9 244 e82 dX0_breaks_1 (xm_inc _ rfl) (by decide) (by decide) rfl rfl ?_) (fun n83 => ?_)
  · refine xg_rload_n hC dX0_breaks_244 rfl ?_
    refine xg_callVs hC (ci := 2) (w_X3_isOfLoss hI σ x1 ⟨h1.1, h1.2⟩) xl_M_X0_80 xl_V_X3_isOfLoss (by decide) rfl (by decide) ⟨by decide, by decide⟩ dX0_breaks_245 (rest := []) rfl rfl (Nat.le_of_ble_eq_true rfl) rfl rfl (st2 := fun o => .int (xm_J o.2) :: []) (fun _ => rfl) (fun o84 k85 => ?_)
    refine xg_if_eq hC (xm_in01 k85) 263 dX0_breaks_248 rfl (fun c86 => ?_) (fun c87 => ?_)
    · refine xg_iconst hC dX0_breaks_263 ?_
      exact xg_zret hC hQ (by decide) dX0_breaks_264
    refine xg_aload_n hC dX0_breaks_251 rfl ?_
    refine xg_rload_n hC dX0_breaks_252 rfl ?_
    refine xg_callV hC (ci := 6) (w_X7_isOutOfTurn hI o84.1 x1 ⟨h1.1, h1.2⟩) xl_M_X0_73 xl_V_X7_isOutOfTurn (xm_hK (a := 5) (kd := 0) (n := 6) hI rfl).2 ((xm_hK (a := 5) (kd := 0) (n := 6) hI rfl).1 _) (by decide) rfl (by decide) ⟨by decide, by decide⟩ dX0_breaks_253 (rest := []) rfl rfl (Nat.le_of_ble_eq_true rfl) rfl rfl (st2 := fun o => .int (xm_J o.2) :: []) (fun _ => rfl) (fun o88 k89 => ?_)
    refine xg_if_eq hC (xm_in01 k89) 263 dX0_breaks_256 rfl (fun c90 => ?_) (fun c91 => ?_)
    · refine xg_iconst hC dX0_breaks_263 ?_
      exact xg_zret hC hQ (by decide) dX0_breaks_264
    refine xg_iconst hC dX0_breaks_259 ?_
    refine xg_goto hC 264 dX0_breaks_260 rfl ?_
    exact xg_zret hC hQ (by decide) dX0_breaks_264
  refine xg_tswOut hC 265 dX0_breaks_1 h0 (by omega) rfl ?_
  refine xg_iconst hC dX0_breaks_265 ?_
  exact xg_zret hC hQ (by decide) dX0_breaks_266
theorem w_X0_firstBroken_b26 {X : xm_X} (hC : xm_C X yX0_firstBroken.cls cX0_firstBroken 6 6 0 0) (hQ : xm_Rt X 1 (some .int) 0 0) (hI : xx_I X = xm_I) {K67 : xm_Mem → Int → Option xm_Out} (hK67 : ∀ (σ : xm_Mem) (x3 : Int), xm_in x3 → xm_V X 0 0 (K67 σ x3) σ 67 [(0, .ref (xm_ad (xx_G X) 5)), (1, .ref (xm_ad (xx_G X) 9)), (2, .ref (xm_ad (xx_G X) 18)), (3, .int (xm_J x3))] []) {self : xm_Mem → Int → Int → Option xm_Out} (hself : ∀ (σ : xm_Mem) (x3 : Int) (x4 : Int), xm_in x3 → xm_in x4 → xm_V X 0 0 (self σ x3 x4) σ 26 [(0, .ref (xm_ad (xx_G X) 5)), (1, .ref (xm_ad (xx_G X) 9)), (2, .ref (xm_ad (xx_G X) 18)), (3, .int (xm_J x3)), (4, .int (xm_J x4))] []) (σ : xm_Mem) (x3 : Int) (x4 : Int) (h3 : xm_in x3) (h4 : xm_in x4) : xm_V X 0 0 (f_X0_firstBroken_b26 K67 self σ x3 x4) σ 26 [(0, .ref (xm_ad (xx_G X) 5)), (1, .ref (xm_ad (xx_G X) 9)), (2, .ref (xm_ad (xx_G X) 18)), (3, .int (xm_J x3)), (4, .int (xm_J x4))] [] := by
  unfold f_X0_firstBroken_b26
  refine xg_iload hC dX0_firstBroken_26 rfl ?_
  refine xg_aload_n hC dX0_firstBroken_28 rfl ?_
  refine xg_callV hC (ci := 6) (w_X7_size hI σ ) xl_M_X0_15 xl_V_X7_size (xm_hK (a := 5) (kd := 0) (n := 6) hI rfl).2 ((xm_hK (a := 5) (kd := 0) (n := 6) hI rfl).1 _) (by decide) rfl (by decide) ⟨by decide, by decide⟩ dX0_firstBroken_29 (rest := [.int (xm_J x4)]) rfl rfl (Nat.le_of_ble_eq_true rfl) rfl rfl (st2 := fun o => .int (xm_J o.2) :: [.int (xm_J x4)]) (fun _ => rfl) (fun o9 k10 => ?_)
  refine xg_icmp_ge hC h4 k10 67 dX0_firstBroken_32 rfl (fun c11 => ?_) (fun c12 => ?_)
  · refine xg_aload_n hC dX0_firstBroken_35 rfl ?_
    refine xg_iload hC dX0_firstBroken_36 rfl ?_
    refine xg_callV hC (ci := 6) (w_X7_standing hI o9.1 x4 h4) xl_M_X0_21 xl_V_X7_standing (xm_hK (a := 5) (kd := 0) (n := 6) hI rfl).2 ((xm_hK (a := 5) (kd := 0) (n := 6) hI rfl).1 _) (by decide) rfl (by decide) ⟨by decide, by decide⟩ dX0_firstBroken_38 (rest := []) rfl rfl (Nat.le_of_ble_eq_true rfl) rfl rfl (st2 := fun o => xm_rf (xx_G X) o.2 :: []) (fun _ => rfl) (fun o13 k14 => ?_)
    refine xg_vR k14 (fun v15 k16 => ?_)
    refine xg_rstore hC (l' := [(5, xm_rf (xx_G X) v15), (0, .ref (xm_ad (xx_G X) 5)), (1, .ref (xm_ad (xx_G X) 9)), (2, .ref (xm_ad (xx_G X) 18)), (3, .int (xm_J x3)), (4, .int (xm_J x4))]) dX0_firstBroken_41 (by decide) rfl ?_
    refine xg_rload hC dX0_firstBroken_43 rfl ?_
    refine xg_ifnull hC 61 dX0_firstBroken_45 rfl (fun c17 => ?_) (fun c18 => ?_)
    · refine xg_iinc hC (l' := [(4, .int (xm_J (xm_w (x4 + 1)))), (5, xm_rf (xx_G X) v15), (0, .ref (xm_ad (xx_G X) 5)), (1, .ref (xm_ad (xx_G X) 9)), (2, .ref (xm_ad (xx_G X) 18)), (3, .int (xm_J x3))]) dX0_firstBroken_61 (by decide) 5 rfl rfl ?_
      refine xg_goto hC 26 dX0_firstBroken_64 rfl ?_
      exact xg_pick [2, 3, 4, 5, 0] rfl (hself o13.1 x3 (xm_w (x4 + 1)) h3 (xm_w_in _))
    refine xg_iload_n hC dX0_firstBroken_48 rfl ?_
    refine xg_rload hC dX0_firstBroken_49 rfl ?_
    refine xg_aload_n hC dX0_firstBroken_51 rfl ?_
    refine xg_aload_n hC dX0_firstBroken_52 rfl ?_
    refine xg_callS hC (w_X0_breaks hI o13.1 x3 v15 h3 ⟨k16.1, k16.2⟩) xl_M_X0_25 xl_S_X0_breaks (by decide) ⟨by decide, by decide⟩ dX0_firstBroken_53 (rest := []) rfl rfl (Nat.le_of_ble_eq_true rfl) rfl rfl (st2 := fun o => .int (xm_J o.2) :: []) (fun _ => rfl) (fun o19 k20 => ?_)
    refine xg_if_eq hC (xm_in01 k20) 61 dX0_firstBroken_56 rfl (fun c21 => ?_) (fun c22 => ?_)
    · refine xg_iinc hC (l' := [(4, .int (xm_J (xm_w (x4 + 1)))), (5, xm_rf (xx_G X) v15), (0, .ref (xm_ad (xx_G X) 5)), (1, .ref (xm_ad (xx_G X) 9)), (2, .ref (xm_ad (xx_G X) 18)), (3, .int (xm_J x3))]) dX0_firstBroken_61 (by decide) 5 rfl rfl ?_
      refine xg_goto hC 26 dX0_firstBroken_64 rfl ?_
      exact xg_pick [2, 3, 4, 5, 0] rfl (hself o19.1 x3 (xm_w (x4 + 1)) h3 (xm_w_in _))
    refine xg_iload_n hC dX0_firstBroken_59 rfl ?_
    exact xg_iret hC hQ h3 dX0_firstBroken_60
  exact xg_pick [0, 1, 2, 3] rfl (hK67 o9.1 x3 h3)
theorem w_X0_firstBroken_l26 {X : xm_X} (hC : xm_C X yX0_firstBroken.cls cX0_firstBroken 6 6 0 0) (hQ : xm_Rt X 1 (some .int) 0 0) (hI : xx_I X = xm_I) {K67 : xm_Mem → Int → Option xm_Out} (hK67 : ∀ (σ : xm_Mem) (x3 : Int), xm_in x3 → xm_V X 0 0 (K67 σ x3) σ 67 [(0, .ref (xm_ad (xx_G X) 5)), (1, .ref (xm_ad (xx_G X) 9)), (2, .ref (xm_ad (xx_G X) 18)), (3, .int (xm_J x3))] []) (n : Nat) : ∀ (σ : xm_Mem) (x3 : Int) (x4 : Int), xm_in x3 → xm_in x4 → xm_V X 0 0 (f_X0_firstBroken_l26 K67 n σ x3 x4) σ 26 [(0, .ref (xm_ad (xx_G X) 5)), (1, .ref (xm_ad (xx_G X) 9)), (2, .ref (xm_ad (xx_G X) 18)), (3, .int (xm_J x3)), (4, .int (xm_J x4))] [] := by
  induction n with
  | zero => intro σ x3 x4 h3 h4; exact xg_none
  | succ n ih => intro σ x3 x4 h3 h4; exact w_X0_firstBroken_b26 hC hQ hI hK67 ih σ x3 x4 h3 h4
theorem w_X0_firstBroken_b2 {X : xm_X} (hC : xm_C X yX0_firstBroken.cls cX0_firstBroken 6 6 0 0) (hQ : xm_Rt X 1 (some .int) 0 0) (hI : xx_I X = xm_I)   {self : xm_Mem → Int → Option xm_Out} (hself : ∀ (σ : xm_Mem) (x3 : Int), xm_in x3 → xm_V X 0 0 (self σ x3) σ 2 [(0, .ref (xm_ad (xx_G X) 5)), (1, .ref (xm_ad (xx_G X) 9)), (2, .ref (xm_ad (xx_G X) 18)), (3, .int (xm_J x3))] []) (σ : xm_Mem) (x3 : Int) (h3 : xm_in x3) : xm_V X 0 0 (f_X0_firstBroken_b2  self σ x3) σ 2 [(0, .ref (xm_ad (xx_G X) 5)), (1, .ref (xm_ad (xx_G X) 9)), (2, .ref (xm_ad (xx_G X) 18)), (3, .int (xm_J x3))] [] := by
  unfold f_X0_firstBroken_b2
  refine xg_iload_n hC dX0_firstBroken_2 rfl ?_
  refine xg_bipush hC dX0_firstBroken_3 (by decide) ?_
  refine xg_icmp_gt hC h3 (xm_inc _ rfl) 73 dX0_firstBroken_5 rfl (fun c1 => ?_) (fun c2 => ?_)
  · refine xg_iconst hC dX0_firstBroken_73 ?_
    exact xg_iret hC hQ (xm_inc _ rfl) dX0_firstBroken_74
  refine xg_iload_n hC dX0_firstBroken_8 rfl ?_
  refine xg_bipush hC dX0_firstBroken_9 (by decide) ?_
  refine xg_icmp_ne hC h3 (xm_inc _ rfl) 23 dX0_firstBroken_11 rfl (fun c3 => ?_) (fun c4 => ?_)
  · refine xg_aload_n hC dX0_firstBroken_14 rfl ?_
    refine xg_callV hC (ci := 8) (w_X9_putSomebodyInTwo hI σ ) xl_M_X0_9 xl_V_X9_putSomebodyInTwo (xm_hK (a := 18) (kd := 0) (n := 8) hI rfl).2 ((xm_hK (a := 18) (kd := 0) (n := 8) hI rfl).1 _) (by decide) rfl (by decide) ⟨by decide, by decide⟩ dX0_firstBroken_15 (rest := []) rfl rfl (Nat.le_of_ble_eq_true rfl) rfl rfl (st2 := fun o => .int (xm_J o.2) :: []) (fun _ => rfl) (fun o5 k6 => ?_)
    refine xg_if_eq hC (xm_in01 k6) 23 dX0_firstBroken_18 rfl (fun c7 => ?_) (fun c8 => ?_)
    · refine xg_iconst hC dX0_firstBroken_23 ?_
      refine xg_istore hC (l' := [(4, .int (xm_J (0 : Int))), (0, .ref (xm_ad (xx_G X) 5)), (1, .ref (xm_ad (xx_G X) 9)), (2, .ref (xm_ad (xx_G X) 18)), (3, .int (xm_J x3))]) dX0_firstBroken_24 (by decide) rfl ?_
      refine xg_pick [1, 2, 3, 4, 0] rfl (w_X0_firstBroken_l26 hC hQ hI ?_ _ o5.1 x3 (0 : Int) h3 (xm_inc _ rfl))
      intro σ_23 x3_23 h3_23
      refine xg_iinc hC (l' := [(3, .int (xm_J (xm_w (x3_23 + 1)))), (0, .ref (xm_ad (xx_G X) 5)), (1, .ref (xm_ad (xx_G X) 9)), (2, .ref (xm_ad (xx_G X) 18))]) dX0_firstBroken_67 (by decide) 3 rfl rfl ?_
      refine xg_goto hC 2 dX0_firstBroken_70 rfl ?_
      exact xg_pick [1, 2, 3, 0] rfl (hself σ_23 (xm_w (x3_23 + 1)) (xm_w_in _))
    refine xg_iload_n hC dX0_firstBroken_21 rfl ?_
    exact xg_iret hC hQ h3 dX0_firstBroken_22
  refine xg_iconst hC dX0_firstBroken_23 ?_
  refine xg_istore hC (l' := [(4, .int (xm_J (0 : Int))), (0, .ref (xm_ad (xx_G X) 5)), (1, .ref (xm_ad (xx_G X) 9)), (2, .ref (xm_ad (xx_G X) 18)), (3, .int (xm_J x3))]) dX0_firstBroken_24 (by decide) rfl ?_
  refine xg_pick [1, 2, 3, 4, 0] rfl (w_X0_firstBroken_l26 hC hQ hI ?_ _ σ x3 (0 : Int) h3 (xm_inc _ rfl))
  intro σ_24 x3_24 h3_24
  refine xg_iinc hC (l' := [(3, .int (xm_J (xm_w (x3_24 + 1)))), (0, .ref (xm_ad (xx_G X) 5)), (1, .ref (xm_ad (xx_G X) 9)), (2, .ref (xm_ad (xx_G X) 18))]) dX0_firstBroken_67 (by decide) 3 rfl rfl ?_
  refine xg_goto hC 2 dX0_firstBroken_70 rfl ?_
  exact xg_pick [1, 2, 3, 0] rfl (hself σ_24 (xm_w (x3_24 + 1)) (xm_w_in _))
theorem w_X0_firstBroken_l2 {X : xm_X} (hC : xm_C X yX0_firstBroken.cls cX0_firstBroken 6 6 0 0) (hQ : xm_Rt X 1 (some .int) 0 0) (hI : xx_I X = xm_I)   (n : Nat) : ∀ (σ : xm_Mem) (x3 : Int), xm_in x3 → xm_V X 0 0 (f_X0_firstBroken_l2  n σ x3) σ 2 [(0, .ref (xm_ad (xx_G X) 5)), (1, .ref (xm_ad (xx_G X) 9)), (2, .ref (xm_ad (xx_G X) 18)), (3, .int (xm_J x3))] [] := by
  induction n with
  | zero => intro σ x3 h3; exact xg_none
  | succ n ih => intro σ x3 h3; exact w_X0_firstBroken_b2 hC hQ hI ih σ x3 h3
theorem w_X0_firstBroken {Γ : xm_Gm} {I : xm_Mem → Prop} {la : Launch} (hE : I = xm_I) (σ : xm_Mem)   : ∀ o, f_X0_firstBroken σ  = some o → xm_M Γ I la yX0_firstBroken cX0_firstBroken 6 (some .int) 6 0 0 [.ref (xm_ad Γ 5), .ref (xm_ad Γ 9), .ref (xm_ad Γ 18)] σ 1 o := by
  refine xg_enter (by decide) (by simp [lg_sl, xm_rf_cat, xm_cati, xm_catr, xm_catl]) (fun X hG hI0 hla hC hQ hname => ?_)
  subst hG
  have hI := hI0.trans hE
  clear hI0 hla
  unfold f_X0_firstBroken
  refine xg_pick [0, 1, 2] (l' := [(0, .ref (xm_ad (xx_G X) 5)), (1, .ref (xm_ad (xx_G X) 9)), (2, .ref (xm_ad (xx_G X) 18))]) rfl ?_
  refine xg_iconst hC dX0_firstBroken_0 ?_
  refine xg_istore_n hC (l' := [(3, .int (xm_J (1 : Int))), (0, .ref (xm_ad (xx_G X) 5)), (1, .ref (xm_ad (xx_G X) 9)), (2, .ref (xm_ad (xx_G X) 18))]) dX0_firstBroken_1 (by decide) rfl ?_
  exact xg_pick [1, 2, 3, 0] rfl (w_X0_firstBroken_l2 hC hQ hI _ σ (1 : Int) (xm_inc _ rfl))
theorem w_X10_firstBrokenBond {Γ : xm_Gm} {I : xm_Mem → Prop} {la : Launch} (hE : I = xm_I) (σ : xm_Mem)   : ∀ o, f_X10_firstBrokenBond σ  = some o → xm_M Γ I la yX10_firstBrokenBond cX10_firstBrokenBond 1 (some .int) 7 0 0 [.ref (xm_ad Γ 1)] σ 1 o := by
  refine xg_enter (by decide) (by simp [lg_sl, xm_rf_cat, xm_cati, xm_catr, xm_catl]) (fun X hG hI0 hla hC hQ hname => ?_)
  subst hG
  have hI := hI0.trans hE
  clear hI0 hla
  unfold f_X10_firstBrokenBond
  refine xg_pick [0] (l' := [(0, .ref (xm_ad (xx_G X) 1))]) rfl ?_
  refine xg_aload_n hC dX10_firstBrokenBond_0 rfl ?_
  refine xg_getW hC (b := 9) (xm_hK hI rfl) rfl (xm_wK hI rfl) (by decide) xl_F_X10_35 dX10_firstBrokenBond_1 ?_
  refine xg_aload_n hC dX10_firstBrokenBond_4 rfl ?_
  refine xg_getW hC (b := 5) (xm_hK hI rfl) rfl (xm_wK hI rfl) (by decide) xl_F_X10_28 dX10_firstBrokenBond_5 ?_
  refine xg_callV hC (ci := 4) (w_X5_rebuild hI σ ) xl_M_X10_240 xl_V_X5_rebuild (xm_hK (a := 9) (kd := 0) (n := 4) hI rfl).2 ((xm_hK (a := 9) (kd := 0) (n := 4) hI rfl).1 _) (by decide) rfl (by decide) ⟨by decide, by decide⟩ dX10_firstBrokenBond_8 (rest := []) rfl rfl (Nat.le_of_ble_eq_true rfl) rfl rfl (st2 := fun o => []) (fun _ => rfl) (fun o1 k2 => ?_)
  refine xg_aload_n hC dX10_firstBrokenBond_11 rfl ?_
  refine xg_getW hC (b := 18) (xm_hK hI rfl) rfl (xm_wK hI rfl) (by decide) xl_F_X10_42 dX10_firstBrokenBond_12 ?_
  refine xg_aload_n hC dX10_firstBrokenBond_15 rfl ?_
  refine xg_getW hC (b := 5) (xm_hK hI rfl) rfl (xm_wK hI rfl) (by decide) xl_F_X10_28 dX10_firstBrokenBond_16 ?_
  refine xg_aload_n hC dX10_firstBrokenBond_19 rfl ?_
  refine xg_getW hC (b := 9) (xm_hK hI rfl) rfl (xm_wK hI rfl) (by decide) xl_F_X10_35 dX10_firstBrokenBond_20 ?_
  refine xg_callV hC (ci := 8) (w_X9_rebuild hI o1.1 ) xl_M_X10_244 xl_V_X9_rebuild (xm_hK (a := 18) (kd := 0) (n := 8) hI rfl).2 ((xm_hK (a := 18) (kd := 0) (n := 8) hI rfl).1 _) (by decide) rfl (by decide) ⟨by decide, by decide⟩ dX10_firstBrokenBond_23 (rest := []) rfl rfl (Nat.le_of_ble_eq_true rfl) rfl rfl (st2 := fun o => []) (fun _ => rfl) (fun o3 k4 => ?_)
  refine xg_aload_n hC dX10_firstBrokenBond_26 rfl ?_
  refine xg_getW hC (b := 5) (xm_hK hI rfl) rfl (xm_wK hI rfl) (by decide) xl_F_X10_28 dX10_firstBrokenBond_27 ?_
  refine xg_aload_n hC dX10_firstBrokenBond_30 rfl ?_
  refine xg_getW hC (b := 9) (xm_hK hI rfl) rfl (xm_wK hI rfl) (by decide) xl_F_X10_35 dX10_firstBrokenBond_31 ?_
  refine xg_aload_n hC dX10_firstBrokenBond_34 rfl ?_
  refine xg_getW hC (b := 18) (xm_hK hI rfl) rfl (xm_wK hI rfl) (by decide) xl_F_X10_42 dX10_firstBrokenBond_35 ?_
  refine xg_callS hC (w_X0_firstBroken hI o3.1 ) xl_M_X10_247 xl_S_X0_firstBroken (by decide) ⟨by decide, by decide⟩ dX10_firstBrokenBond_38 (rest := []) rfl rfl (Nat.le_of_ble_eq_true rfl) rfl rfl (st2 := fun o => .int (xm_J o.2) :: []) (fun _ => rfl) (fun o5 k6 => ?_)
  exact xg_iret hC hQ k6 dX10_firstBrokenBond_41
theorem w_X7_dropLatest_j67 {X : xm_X} (hC : xm_C X yX7_dropLatest.cls cX7_dropLatest 2 2 0 0) (hQ : xm_Rt X 0 none 0 0) (hI : xx_I X = xm_I)   (σ : xm_Mem) (x1 : Int) (h1 : 0 ≤ x1 ∧ xm_in x1) : xm_V X 0 0 (f_X7_dropLatest_j67  σ x1) σ 67 [(0, .ref (xm_ad (xx_G X) 5)), (1, xm_rf (xx_G X) x1)] [] := by
  unfold f_X7_dropLatest_j67
  refine xg_rload_n hC dX7_dropLatest_67 rfl ?_
  refine xg_sgetI hC rfl xl_F_X7_72 dX7_dropLatest_68 (fun k23 => ?_)
  refine xg_iconst hC dX7_dropLatest_71 ?_
  refine xg_icmp_ne hC k23 (xm_inc _ rfl) 99 dX7_dropLatest_72 rfl (fun c24 => ?_) (fun c25 => ?_)
  · refine xg_aload_n hC dX7_dropLatest_75 rfl ?_
    refine xg_getI hC (xm_hK hI rfl) rfl xl_F_X7_30 dX7_dropLatest_76 (fun k26 => ?_)
    refine xg_if_le hC k26 99 dX7_dropLatest_79 rfl (fun c27 => ?_) (fun c28 => ?_)
    · refine xg_aload_n hC dX7_dropLatest_82 rfl ?_
      refine xg_getW hC (b := 8) (xm_hK hI rfl) rfl (xm_wK hI rfl) (by decide) xl_F_X7_20 dX7_dropLatest_83 ?_
      refine xg_aload_n hC dX7_dropLatest_86 rfl ?_
      refine xg_dup hC dX7_dropLatest_87 rfl ?_
      refine xg_getI hC (xm_hK hI rfl) rfl xl_F_X7_30 dX7_dropLatest_88 (fun k29 => ?_)
      refine xg_iconst hC dX7_dropLatest_91 ?_
      refine xg_isub hC dX7_dropLatest_92 ?_
      refine xg_vI (xm_w_in _) (fun v30 k31 => ?_)
      refine xg_dup_x1 hC dX7_dropLatest_93 rfl rfl ?_
      refine xg_putI hC (xm_hK hI rfl) rfl rfl k31 (xm_kpK hI rfl) xl_F_X7_30 dX7_dropLatest_94 ?_
      refine xg_st (fun σ32 => ?_)
      refine xg_null hC dX7_dropLatest_97 ?_
      refine xg_qast hC (xm_hK hI rfl) rfl k31 xm_in0 (xm_kpF hI rfl) dX7_dropLatest_98 ?_
      refine xg_st (fun σ33 => ?_)
      exact xg_vret hC hQ dX7_dropLatest_99
    exact xg_vret hC hQ dX7_dropLatest_99
  exact xg_vret hC hQ dX7_dropLatest_99
theorem w_X7_dropLatest {Γ : xm_Gm} {I : xm_Mem → Prop} {la : Launch} (hE : I = xm_I) (σ : xm_Mem)   : ∀ o, f_X7_dropLatest σ  = some o → xm_M Γ I la yX7_dropLatest cX7_dropLatest 2 none 2 0 0 [.ref (xm_ad Γ 5)] σ 0 o := by
  refine xg_enter (by decide) (by simp [lg_sl, xm_rf_cat, xm_cati, xm_catr, xm_catl]) (fun X hG hI0 hla hC hQ hname => ?_)
  subst hG
  have hI := hI0.trans hE
  clear hI0 hla
  unfold f_X7_dropLatest
  refine xg_pick [0] (l' := [(0, .ref (xm_ad (xx_G X) 5))]) rfl ?_
  refine xg_aload_n hC dX7_dropLatest_0 rfl ?_
  refine xg_aload_n hC dX7_dropLatest_1 rfl ?_
  refine xg_getI hC (xm_hK hI rfl) rfl xl_F_X7_23 dX7_dropLatest_2 (fun k1 => ?_)
  refine xg_iconst hC dX7_dropLatest_5 ?_
  refine xg_isub hC dX7_dropLatest_6 ?_
  refine xg_callV hC (ci := 6) (w_X7_taken hI σ (xm_w ((σ.1 5 3) - (1 : Int))) (xm_w_in _)) xl_M_X7_33 xl_V_X7_taken (xm_hK (a := 5) (kd := 0) (n := 6) hI rfl).2 ((xm_hK (a := 5) (kd := 0) (n := 6) hI rfl).1 _) (by decide) rfl (by decide) ⟨by decide, by decide⟩ dX7_dropLatest_7 (rest := []) rfl rfl (Nat.le_of_ble_eq_true rfl) rfl rfl (st2 := fun o => xm_rf (xx_G X) o.2 :: []) (fun _ => rfl) (fun o2 k3 => ?_)
  refine xg_vR k3 (fun v4 k5 => ?_)
  refine xg_rstore_n hC (l' := [(1, xm_rf (xx_G X) v4), (0, .ref (xm_ad (xx_G X) 5))]) dX7_dropLatest_10 (by decide) rfl ?_
  refine xg_rload_n hC dX7_dropLatest_11 rfl ?_
  refine xg_ifnonnull hC 16 dX7_dropLatest_12 rfl (fun c6 => ?_) (fun c7 => ?_)
  · exact xg_vret hC hQ dX7_dropLatest_15
  refine xg_aload_n hC dX7_dropLatest_16 rfl ?_
  refine xg_dup hC dX7_dropLatest_17 rfl ?_
  refine xg_getI hC (xm_hK hI rfl) rfl xl_F_X7_23 dX7_dropLatest_18 (fun k8 => ?_)
  refine xg_iconst hC dX7_dropLatest_21 ?_
  refine xg_isub hC dX7_dropLatest_22 ?_
  refine xg_putI hC (xm_hK hI rfl) rfl rfl (xm_w_in _) (xm_kpK hI rfl) xl_F_X7_23 dX7_dropLatest_23 ?_
  refine xg_st (fun σ9 => ?_)
  refine xg_aload_n hC dX7_dropLatest_26 rfl ?_
  refine xg_getW hC (b := 6) (xm_hK hI rfl) rfl (xm_wK hI rfl) (by decide) xl_F_X7_11 dX7_dropLatest_27 ?_
  refine xg_aload_n hC dX7_dropLatest_30 rfl ?_
  refine xg_getI hC (xm_hK hI rfl) rfl xl_F_X7_23 dX7_dropLatest_31 (fun k10 => ?_)
  refine xg_null hC dX7_dropLatest_34 ?_
  refine xg_qast hC (xm_hK hI rfl) rfl k10 xm_in0 (xm_kpF hI rfl) dX7_dropLatest_35 ?_
  refine xg_st (fun σ11 => ?_)
  refine xg_rload_n hC dX7_dropLatest_36 rfl ?_
  refine xg_sgetI hC rfl xl_F_X7_72 dX7_dropLatest_37 (fun k12 => ?_)
  refine xg_if_ne hC k12 67 dX7_dropLatest_40 rfl (fun c13 => ?_) (fun c14 => ?_)
  · refine xg_aload_n hC dX7_dropLatest_43 rfl ?_
    refine xg_getI hC (xm_hK hI rfl) rfl xl_F_X7_27 dX7_dropLatest_44 (fun k15 => ?_)
    refine xg_if_le hC k15 67 dX7_dropLatest_47 rfl (fun c16 => ?_) (fun c17 => ?_)
    · refine xg_aload_n hC dX7_dropLatest_50 rfl ?_
      refine xg_getW hC (b := 7) (xm_hK hI rfl) rfl (xm_wK hI rfl) (by decide) xl_F_X7_17 dX7_dropLatest_51 ?_
      refine xg_aload_n hC dX7_dropLatest_54 rfl ?_
      refine xg_dup hC dX7_dropLatest_55 rfl ?_
      refine xg_getI hC (xm_hK hI rfl) rfl xl_F_X7_27 dX7_dropLatest_56 (fun k18 => ?_)
      refine xg_iconst hC dX7_dropLatest_59 ?_
      refine xg_isub hC dX7_dropLatest_60 ?_
      refine xg_vI (xm_w_in _) (fun v19 k20 => ?_)
      refine xg_dup_x1 hC dX7_dropLatest_61 rfl rfl ?_
      refine xg_putI hC (xm_hK hI rfl) rfl rfl k20 (xm_kpK hI rfl) xl_F_X7_27 dX7_dropLatest_62 ?_
      refine xg_st (fun σ21 => ?_)
      refine xg_null hC dX7_dropLatest_65 ?_
      refine xg_qast hC (xm_hK hI rfl) rfl k20 xm_in0 (xm_kpF hI rfl) dX7_dropLatest_66 ?_
      refine xg_st (fun σ22 => ?_)
      exact xg_pick [1, 0] rfl (w_X7_dropLatest_j67 hC hQ hI σ22 v4 ⟨k5.1, k5.2⟩)
    exact xg_pick [1, 0] rfl (w_X7_dropLatest_j67 hC hQ hI σ11 v4 ⟨k5.1, k5.2⟩)
  exact xg_pick [1, 0] rfl (w_X7_dropLatest_j67 hC hQ hI σ11 v4 ⟨k5.1, k5.2⟩)
theorem w_X5_father {Γ : xm_Gm} {I : xm_Mem → Prop} {la : Launch} (hE : I = xm_I) (σ : xm_Mem) (x1 : Int) (h1 : xm_in x1) : ∀ o, f_X5_father σ x1 = some o → xm_M Γ I la yX5_father cX5_father 2 (some .int) 2 0 0 [.ref (xm_ad Γ 9), .int (xm_J x1)] σ 1 o := by
  refine xg_enter (by decide) (by simp [lg_sl, xm_rf_cat, xm_cati, xm_catr, xm_catl]) (fun X hG hI0 hla hC hQ hname => ?_)
  subst hG
  have hI := hI0.trans hE
  clear hI0 hla
  unfold f_X5_father
  refine xg_pick [0, 1] (l' := [(0, .ref (xm_ad (xx_G X) 9)), (1, .int (xm_J x1))]) rfl ?_
  refine xg_iload_n hC dX5_father_0 rfl ?_
  refine xg_callSN hC (w_X10_isPersonNumber hI σ x1 h1) xl_N_X5_53 xl_S_X10_isPersonNumber (by decide) ⟨by decide, by decide⟩ dX5_father_1 (rest := []) rfl rfl (Nat.le_of_ble_eq_true rfl) rfl rfl (st2 := fun o => .int (xm_J o.2) :: []) (fun _ => rfl) (fun o1 k2 => ?_)
  refine xg_if_eq hC (xm_in01 k2) 16 dX5_father_4 rfl (fun c3 => ?_) (fun c4 => ?_)
  · refine xg_iconst hC dX5_father_16 ?_
    exact xg_iret hC hQ (xm_inc _ rfl) dX5_father_17
  refine xg_aload_n hC dX5_father_7 rfl ?_
  refine xg_getW hC (b := 14) (xm_hK hI rfl) rfl (xm_wK hI rfl) (by decide) xl_F_X5_25 dX5_father_8 ?_
  refine xg_iload_n hC dX5_father_11 rfl ?_
  refine xg_iald hC (xm_hK hI rfl) rfl h1 dX5_father_12 (fun b5 k6 => ?_)
  refine xg_goto hC 17 dX5_father_13 rfl ?_
  exact xg_iret hC hQ k6 dX5_father_17
theorem w_X5_mother {Γ : xm_Gm} {I : xm_Mem → Prop} {la : Launch} (hE : I = xm_I) (σ : xm_Mem) (x1 : Int) (h1 : xm_in x1) : ∀ o, f_X5_mother σ x1 = some o → xm_M Γ I la yX5_mother cX5_mother 2 (some .int) 2 0 0 [.ref (xm_ad Γ 9), .int (xm_J x1)] σ 1 o := by
  refine xg_enter (by decide) (by simp [lg_sl, xm_rf_cat, xm_cati, xm_catr, xm_catl]) (fun X hG hI0 hla hC hQ hname => ?_)
  subst hG
  have hI := hI0.trans hE
  clear hI0 hla
  unfold f_X5_mother
  refine xg_pick [0, 1] (l' := [(0, .ref (xm_ad (xx_G X) 9)), (1, .int (xm_J x1))]) rfl ?_
  refine xg_iload_n hC dX5_mother_0 rfl ?_
  refine xg_callSN hC (w_X10_isPersonNumber hI σ x1 h1) xl_N_X5_53 xl_S_X10_isPersonNumber (by decide) ⟨by decide, by decide⟩ dX5_mother_1 (rest := []) rfl rfl (Nat.le_of_ble_eq_true rfl) rfl rfl (st2 := fun o => .int (xm_J o.2) :: []) (fun _ => rfl) (fun o1 k2 => ?_)
  refine xg_if_eq hC (xm_in01 k2) 16 dX5_mother_4 rfl (fun c3 => ?_) (fun c4 => ?_)
  · refine xg_iconst hC dX5_mother_16 ?_
    exact xg_iret hC hQ (xm_inc _ rfl) dX5_mother_17
  refine xg_aload_n hC dX5_mother_7 rfl ?_
  refine xg_getW hC (b := 15) (xm_hK hI rfl) rfl (xm_wK hI rfl) (by decide) xl_F_X5_28 dX5_mother_8 ?_
  refine xg_iload_n hC dX5_mother_11 rfl ?_
  refine xg_iald hC (xm_hK hI rfl) rfl h1 dX5_mother_12 (fun b5 k6 => ?_)
  refine xg_goto hC 17 dX5_mother_13 rfl ?_
  exact xg_iret hC hQ k6 dX5_mother_17
theorem w_X9_isOpen {Γ : xm_Gm} {I : xm_Mem → Prop} {la : Launch} (hE : I = xm_I) (σ : xm_Mem) (x1 : Int) (x2 : Int) (h1 : xm_in x1) (h2 : xm_in x2) : ∀ o, f_X9_isOpen σ x1 x2 = some o → xm_M Γ I la yX9_isOpen cX9_isOpen 3 (some .boolean) 1 0 0 [.ref (xm_ad Γ 18), .int (xm_J x1), .int (xm_J x2)] σ 2 o := by
  refine xg_enter (by decide) (by simp [lg_sl, xm_rf_cat, xm_cati, xm_catr, xm_catl]) (fun X hG hI0 hla hC hQ hname => ?_)
  subst hG
  have hI := hI0.trans hE
  clear hI0 hla
  unfold f_X9_isOpen
  refine xg_pick [0, 1, 2] (l' := [(0, .ref (xm_ad (xx_G X) 18)), (1, .int (xm_J x1)), (2, .int (xm_J x2))]) rfl ?_
  refine xg_aload_n hC dX9_isOpen_0 rfl ?_
  refine xg_getW hC (b := 21) (xm_hK hI rfl) rfl (xm_wK hI rfl) (by decide) xl_F_X9_18 dX9_isOpen_1 ?_
  refine xg_iload_n hC dX9_isOpen_4 rfl ?_
  refine xg_iald hC (xm_hK hI rfl) rfl h1 dX9_isOpen_5 (fun b1 k2 => ?_)
  refine xg_iload_n hC dX9_isOpen_6 rfl ?_
  refine xg_icmp_gt hC k2 h2 24 dX9_isOpen_7 rfl (fun c3 => ?_) (fun c4 => ?_)
  · refine xg_iconst hC dX9_isOpen_24 ?_
    exact xg_zret hC hQ (by decide) dX9_isOpen_25
  refine xg_iload_n hC dX9_isOpen_10 rfl ?_
  refine xg_aload_n hC dX9_isOpen_11 rfl ?_
  refine xg_getW hC (b := 22) (xm_hK hI rfl) rfl (xm_wK hI rfl) (by decide) xl_F_X9_21 dX9_isOpen_12 ?_
  refine xg_iload_n hC dX9_isOpen_15 rfl ?_
  refine xg_iald hC (xm_hK hI rfl) rfl h1 dX9_isOpen_16 (fun b5 k6 => ?_)
  refine xg_icmp_gt hC h2 k6 24 dX9_isOpen_17 rfl (fun c7 => ?_) (fun c8 => ?_)
  · refine xg_iconst hC dX9_isOpen_24 ?_
    exact xg_zret hC hQ (by decide) dX9_isOpen_25
  refine xg_iconst hC dX9_isOpen_20 ?_
  refine xg_goto hC 25 dX9_isOpen_21 rfl ?_
  exact xg_zret hC hQ (by decide) dX9_isOpen_25
theorem w_X9_joined_b3 {X : xm_X} (hC : xm_C X yX9_joined.cls cX9_joined 5 2 0 0) (hQ : xm_Rt X 2 (some .boolean) 0 0) (hI : xx_I X = xm_I)   {self : xm_Mem → Int → Int → Int → Int → Option xm_Out} (hself : ∀ (σ : xm_Mem) (x1 : Int) (x2 : Int) (x3 : Int) (x4 : Int), xm_in x1 → xm_in x2 → xm_in x3 → xm_in x4 → xm_V X 0 0 (self σ x1 x2 x3 x4) σ 3 [(0, .ref (xm_ad (xx_G X) 18)), (1, .int (xm_J x1)), (2, .int (xm_J x2)), (3, .int (xm_J x3)), (4, .int (xm_J x4))] []) (σ : xm_Mem) (x1 : Int) (x2 : Int) (x3 : Int) (x4 : Int) (h1 : xm_in x1) (h2 : xm_in x2) (h3 : xm_in x3) (h4 : xm_in x4) : xm_V X 0 0 (f_X9_joined_b3  self σ x1 x2 x3 x4) σ 3 [(0, .ref (xm_ad (xx_G X) 18)), (1, .int (xm_J x1)), (2, .int (xm_J x2)), (3, .int (xm_J x3)), (4, .int (xm_J x4))] [] := by
  unfold f_X9_joined_b3
  refine xg_iload hC dX9_joined_3 rfl ?_
  refine xg_aload_n hC dX9_joined_5 rfl ?_
  refine xg_getI hC (xm_hK hI rfl) rfl xl_F_X9_24 dX9_joined_6 (fun k1 => ?_)
  refine xg_icmp_ge hC h4 k1 52 dX9_joined_9 rfl (fun c2 => ?_) (fun c3 => ?_)
  · refine xg_aload_n hC dX9_joined_12 rfl ?_
    refine xg_getW hC (b := 19) (xm_hK hI rfl) rfl (xm_wK hI rfl) (by decide) xl_F_X9_9 dX9_joined_13 ?_
    refine xg_iload hC dX9_joined_16 rfl ?_
    refine xg_iald hC (xm_hK hI rfl) rfl h4 dX9_joined_18 (fun b4 k5 => ?_)
    refine xg_iload_n hC dX9_joined_19 rfl ?_
    refine xg_icmp_ne hC k5 h1 46 dX9_joined_20 rfl (fun c6 => ?_) (fun c7 => ?_)
    · refine xg_aload_n hC dX9_joined_23 rfl ?_
      refine xg_getW hC (b := 20) (xm_hK hI rfl) rfl (xm_wK hI rfl) (by decide) xl_F_X9_15 dX9_joined_24 ?_
      refine xg_iload hC dX9_joined_27 rfl ?_
      refine xg_iald hC (xm_hK hI rfl) rfl h4 dX9_joined_29 (fun b8 k9 => ?_)
      refine xg_iload_n hC dX9_joined_30 rfl ?_
      refine xg_icmp_ne hC k9 h2 46 dX9_joined_31 rfl (fun c10 => ?_) (fun c11 => ?_)
      · refine xg_aload_n hC dX9_joined_34 rfl ?_
        refine xg_iload hC dX9_joined_35 rfl ?_
        refine xg_iload_n hC dX9_joined_37 rfl ?_
        refine xg_callV hC (ci := 8) (w_X9_isOpen hI σ x4 x3 h4 h3) xl_M_X9_70 xl_V_X9_isOpen (xm_hK (a := 18) (kd := 0) (n := 8) hI rfl).2 ((xm_hK (a := 18) (kd := 0) (n := 8) hI rfl).1 _) (by decide) rfl (by decide) ⟨by decide, by decide⟩ dX9_joined_38 (rest := []) rfl rfl (Nat.le_of_ble_eq_true rfl) rfl rfl (st2 := fun o => .int (xm_J o.2) :: []) (fun _ => rfl) (fun o12 k13 => ?_)
        refine xg_if_eq hC (xm_in01 k13) 46 dX9_joined_41 rfl (fun c14 => ?_) (fun c15 => ?_)
        · refine xg_iinc hC (l' := [(4, .int (xm_J (xm_w (x4 + 1)))), (0, .ref (xm_ad (xx_G X) 18)), (1, .int (xm_J x1)), (2, .int (xm_J x2)), (3, .int (xm_J x3))]) dX9_joined_46 (by decide) 4 rfl rfl ?_
          refine xg_goto hC 3 dX9_joined_49 rfl ?_
          exact xg_pick [1, 2, 3, 4, 0] rfl (hself o12.1 x1 x2 x3 (xm_w (x4 + 1)) h1 h2 h3 (xm_w_in _))
        refine xg_iconst hC dX9_joined_44 ?_
        exact xg_zret hC hQ (by decide) dX9_joined_45
      refine xg_iinc hC (l' := [(4, .int (xm_J (xm_w (x4 + 1)))), (0, .ref (xm_ad (xx_G X) 18)), (1, .int (xm_J x1)), (2, .int (xm_J x2)), (3, .int (xm_J x3))]) dX9_joined_46 (by decide) 4 rfl rfl ?_
      refine xg_goto hC 3 dX9_joined_49 rfl ?_
      exact xg_pick [1, 2, 3, 4, 0] rfl (hself σ x1 x2 x3 (xm_w (x4 + 1)) h1 h2 h3 (xm_w_in _))
    refine xg_iinc hC (l' := [(4, .int (xm_J (xm_w (x4 + 1)))), (0, .ref (xm_ad (xx_G X) 18)), (1, .int (xm_J x1)), (2, .int (xm_J x2)), (3, .int (xm_J x3))]) dX9_joined_46 (by decide) 4 rfl rfl ?_
    refine xg_goto hC 3 dX9_joined_49 rfl ?_
    exact xg_pick [1, 2, 3, 4, 0] rfl (hself σ x1 x2 x3 (xm_w (x4 + 1)) h1 h2 h3 (xm_w_in _))
  refine xg_iconst hC dX9_joined_52 ?_
  exact xg_zret hC hQ (by decide) dX9_joined_53
theorem w_X9_joined_l3 {X : xm_X} (hC : xm_C X yX9_joined.cls cX9_joined 5 2 0 0) (hQ : xm_Rt X 2 (some .boolean) 0 0) (hI : xx_I X = xm_I)   (n : Nat) : ∀ (σ : xm_Mem) (x1 : Int) (x2 : Int) (x3 : Int) (x4 : Int), xm_in x1 → xm_in x2 → xm_in x3 → xm_in x4 → xm_V X 0 0 (f_X9_joined_l3  n σ x1 x2 x3 x4) σ 3 [(0, .ref (xm_ad (xx_G X) 18)), (1, .int (xm_J x1)), (2, .int (xm_J x2)), (3, .int (xm_J x3)), (4, .int (xm_J x4))] [] := by
  induction n with
  | zero => intro σ x1 x2 x3 x4 h1 h2 h3 h4; exact xg_none
  | succ n ih => intro σ x1 x2 x3 x4 h1 h2 h3 h4; exact w_X9_joined_b3 hC hQ hI ih σ x1 x2 x3 x4 h1 h2 h3 h4
theorem w_X9_joined {Γ : xm_Gm} {I : xm_Mem → Prop} {la : Launch} (hE : I = xm_I) (σ : xm_Mem) (x1 : Int) (x2 : Int) (x3 : Int) (h1 : xm_in x1) (h2 : xm_in x2) (h3 : xm_in x3) : ∀ o, f_X9_joined σ x1 x2 x3 = some o → xm_M Γ I la yX9_joined cX9_joined 5 (some .boolean) 2 0 0 [.ref (xm_ad Γ 18), .int (xm_J x1), .int (xm_J x2), .int (xm_J x3)] σ 2 o := by
  refine xg_enter (by decide) (by simp [lg_sl, xm_rf_cat, xm_cati, xm_catr, xm_catl]) (fun X hG hI0 hla hC hQ hname => ?_)
  subst hG
  have hI := hI0.trans hE
  clear hI0 hla
  unfold f_X9_joined
  refine xg_pick [0, 1, 2, 3] (l' := [(0, .ref (xm_ad (xx_G X) 18)), (1, .int (xm_J x1)), (2, .int (xm_J x2)), (3, .int (xm_J x3))]) rfl ?_
  refine xg_iconst hC dX9_joined_0 ?_
  refine xg_istore hC (l' := [(4, .int (xm_J (0 : Int))), (0, .ref (xm_ad (xx_G X) 18)), (1, .int (xm_J x1)), (2, .int (xm_J x2)), (3, .int (xm_J x3))]) dX9_joined_1 (by decide) rfl ?_
  exact xg_pick [1, 2, 3, 4, 0] rfl (w_X9_joined_l3 hC hQ hI _ σ x1 x2 x3 (0 : Int) h1 h2 h3 (xm_inc _ rfl))
theorem w_X2_isBornLegit {Γ : xm_Gm} {I : xm_Mem → Prop} {la : Launch} (hE : I = xm_I) (σ : xm_Mem) (x1 : Int) (h1 : xm_in x1) : ∀ o, f_X2_isBornLegit σ x1 = some o → xm_M Γ I la yX2_isBornLegit cX2_isBornLegit 7 (some .boolean) 3 0 0 [.ref (xm_ad Γ 23), .int (xm_J x1), .ref (xm_ad Γ 18)] σ 2 o := by
  refine xg_enter (by decide) (by simp [lg_sl, xm_rf_cat, xm_cati, xm_catr, xm_catl]) (fun X hG hI0 hla hC hQ hname => ?_)
  subst hG
  have hI := hI0.trans hE
  clear hI0 hla
  unfold f_X2_isBornLegit
  refine xg_pick [0, 1, 2] (l' := [(0, .ref (xm_ad (xx_G X) 23)), (1, .int (xm_J x1)), (2, .ref (xm_ad (xx_G X) 18))]) rfl ?_
  refine xg_aload_n hC dX2_isBornLegit_0 rfl ?_
  refine xg_getW hC (b := 9) (xm_hK hI rfl) rfl (xm_wK hI rfl) (by decide) xl_F_X2_33 dX2_isBornLegit_1 ?_
  refine xg_iload_n hC dX2_isBornLegit_4 rfl ?_
  refine xg_callV hC (ci := 4) (w_X5_father hI σ x1 h1) xl_M_X2_57 xl_V_X5_father (xm_hK (a := 9) (kd := 0) (n := 4) hI rfl).2 ((xm_hK (a := 9) (kd := 0) (n := 4) hI rfl).1 _) (by decide) rfl (by decide) ⟨by decide, by decide⟩ dX2_isBornLegit_5 (rest := []) rfl rfl (Nat.le_of_ble_eq_true rfl) rfl rfl (st2 := fun o => .int (xm_J o.2) :: []) (fun _ => rfl) (fun o1 k2 => ?_)
  refine xg_istore_n hC (l' := [(3, .int (xm_J o1.2)), (0, .ref (xm_ad (xx_G X) 23)), (1, .int (xm_J x1)), (2, .ref (xm_ad (xx_G X) 18))]) dX2_isBornLegit_8 (by decide) rfl ?_
  refine xg_aload_n hC dX2_isBornLegit_9 rfl ?_
  refine xg_getW hC (b := 9) (xm_hK hI rfl) rfl (xm_wK hI rfl) (by decide) xl_F_X2_33 dX2_isBornLegit_10 ?_
  refine xg_iload_n hC dX2_isBornLegit_13 rfl ?_
  refine xg_callV hC (ci := 4) (w_X5_mother hI o1.1 x1 h1) xl_M_X2_61 xl_V_X5_mother (xm_hK (a := 9) (kd := 0) (n := 4) hI rfl).2 ((xm_hK (a := 9) (kd := 0) (n := 4) hI rfl).1 _) (by decide) rfl (by decide) ⟨by decide, by decide⟩ dX2_isBornLegit_14 (rest := []) rfl rfl (Nat.le_of_ble_eq_true rfl) rfl rfl (st2 := fun o => .int (xm_J o.2) :: []) (fun _ => rfl) (fun o3 k4 => ?_)
  refine xg_istore hC (l' := [(4, .int (xm_J o3.2)), (3, .int (xm_J o1.2)), (0, .ref (xm_ad (xx_G X) 23)), (1, .int (xm_J x1)), (2, .ref (xm_ad (xx_G X) 18))]) dX2_isBornLegit_17 (by decide) rfl ?_
  refine xg_iload_n hC dX2_isBornLegit_19 rfl ?_
  refine xg_iconst hC dX2_isBornLegit_20 ?_
  refine xg_icmp_eq hC k2 (xm_inc _ rfl) 30 dX2_isBornLegit_21 rfl (fun c5 => ?_) (fun c6 => ?_)
  · refine xg_iconst hC dX2_isBornLegit_30 ?_
    exact xg_zret hC hQ (by decide) dX2_isBornLegit_31
  refine xg_iload hC dX2_isBornLegit_24 rfl ?_
  refine xg_iconst hC dX2_isBornLegit_26 ?_
  refine xg_icmp_ne hC k4 (xm_inc _ rfl) 32 dX2_isBornLegit_27 rfl (fun c7 => ?_) (fun c8 => ?_)
  · refine xg_iconst hC dX2_isBornLegit_30 ?_
    exact xg_zret hC hQ (by decide) dX2_isBornLegit_31
  refine xg_aload_n hC dX2_isBornLegit_32 rfl ?_
  refine xg_getW hC (b := 9) (xm_hK hI rfl) rfl (xm_wK hI rfl) (by decide) xl_F_X2_33 dX2_isBornLegit_33 ?_
  refine xg_iload_n hC dX2_isBornLegit_36 rfl ?_
  refine xg_callV hC (ci := 4) (w_X5_bornOn hI o3.1 x1 h1) xl_M_X2_64 xl_V_X5_bornOn (xm_hK (a := 9) (kd := 0) (n := 4) hI rfl).2 ((xm_hK (a := 9) (kd := 0) (n := 4) hI rfl).1 _) (by decide) rfl (by decide) ⟨by decide, by decide⟩ dX2_isBornLegit_37 (rest := []) rfl rfl (Nat.le_of_ble_eq_true rfl) rfl rfl (st2 := fun o => .int (xm_J o.2) :: []) (fun _ => rfl) (fun o9 k10 => ?_)
  refine xg_istore hC (l' := [(5, .int (xm_J o9.2)), (4, .int (xm_J o3.2)), (3, .int (xm_J o1.2)), (0, .ref (xm_ad (xx_G X) 23)), (1, .int (xm_J x1)), (2, .ref (xm_ad (xx_G X) 18))]) dX2_isBornLegit_40 (by decide) rfl ?_
  refine xg_aload_n hC dX2_isBornLegit_42 rfl ?_
  refine xg_iload_n hC dX2_isBornLegit_43 rfl ?_
  refine xg_iload hC dX2_isBornLegit_44 rfl ?_
  refine xg_iload hC dX2_isBornLegit_46 rfl ?_
  refine xg_callV hC (ci := 8) (w_X9_joined hI o9.1 o1.2 o3.2 o9.2 k2 k4 k10) xl_M_X2_67 xl_V_X9_joined (xm_hK (a := 18) (kd := 0) (n := 8) hI rfl).2 ((xm_hK (a := 18) (kd := 0) (n := 8) hI rfl).1 _) (by decide) rfl (by decide) ⟨by decide, by decide⟩ dX2_isBornLegit_48 (rest := []) rfl rfl (Nat.le_of_ble_eq_true rfl) rfl rfl (st2 := fun o => .int (xm_J o.2) :: []) (fun _ => rfl) (fun o11 k12 => ?_)
  refine xg_if_eq hC (xm_in01 k12) 56 dX2_isBornLegit_51 rfl (fun c13 => ?_) (fun c14 => ?_)
  · refine xg_aload_n hC dX2_isBornLegit_56 rfl ?_
    refine xg_getW hC (b := 9) (xm_hK hI rfl) rfl (xm_wK hI rfl) (by decide) xl_F_X2_33 dX2_isBornLegit_57 ?_
    refine xg_iload_n hC dX2_isBornLegit_60 rfl ?_
    refine xg_callV hC (ci := 4) (w_X5_deadOn hI o11.1 o1.2 k2) xl_M_X2_73 xl_V_X5_deadOn (xm_hK (a := 9) (kd := 0) (n := 4) hI rfl).2 ((xm_hK (a := 9) (kd := 0) (n := 4) hI rfl).1 _) (by decide) rfl (by decide) ⟨by decide, by decide⟩ dX2_isBornLegit_61 (rest := []) rfl rfl (Nat.le_of_ble_eq_true rfl) rfl rfl (st2 := fun o => .int (xm_J o.2) :: []) (fun _ => rfl) (fun o15 k16 => ?_)
    refine xg_istore hC (l' := [(6, .int (xm_J o15.2)), (5, .int (xm_J o9.2)), (4, .int (xm_J o3.2)), (3, .int (xm_J o1.2)), (0, .ref (xm_ad (xx_G X) 23)), (1, .int (xm_J x1)), (2, .ref (xm_ad (xx_G X) 18))]) dX2_isBornLegit_64 (by decide) rfl ?_
    refine xg_iload hC dX2_isBornLegit_66 rfl ?_
    refine xg_iconst hC dX2_isBornLegit_68 ?_
    refine xg_icmp_eq hC k16 (xm_inc _ rfl) 106 dX2_isBornLegit_69 rfl (fun c17 => ?_) (fun c18 => ?_)
    · refine xg_iconst hC dX2_isBornLegit_106 ?_
      exact xg_zret hC hQ (by decide) dX2_isBornLegit_107
    refine xg_iload hC dX2_isBornLegit_72 rfl ?_
    refine xg_iload hC dX2_isBornLegit_74 rfl ?_
    refine xg_sipush hC dX2_isBornLegit_76 (by decide) ?_
    refine xg_isub hC dX2_isBornLegit_79 ?_
    refine xg_icmp_lt hC k16 (xm_w_in _) 106 dX2_isBornLegit_80 rfl (fun c19 => ?_) (fun c20 => ?_)
    · refine xg_iconst hC dX2_isBornLegit_106 ?_
      exact xg_zret hC hQ (by decide) dX2_isBornLegit_107
    refine xg_iload hC dX2_isBornLegit_83 rfl ?_
    refine xg_iload hC dX2_isBornLegit_85 rfl ?_
    refine xg_icmp_gt hC k16 k10 106 dX2_isBornLegit_87 rfl (fun c21 => ?_) (fun c22 => ?_)
    · refine xg_iconst hC dX2_isBornLegit_106 ?_
      exact xg_zret hC hQ (by decide) dX2_isBornLegit_107
    refine xg_aload_n hC dX2_isBornLegit_90 rfl ?_
    refine xg_iload_n hC dX2_isBornLegit_91 rfl ?_
    refine xg_iload hC dX2_isBornLegit_92 rfl ?_
    refine xg_iload hC dX2_isBornLegit_94 rfl ?_
    refine xg_callV hC (ci := 8) (w_X9_joined hI o15.1 o1.2 o3.2 o15.2 k2 k4 k16) xl_M_X2_67 xl_V_X9_joined (xm_hK (a := 18) (kd := 0) (n := 8) hI rfl).2 ((xm_hK (a := 18) (kd := 0) (n := 8) hI rfl).1 _) (by decide) rfl (by decide) ⟨by decide, by decide⟩ dX2_isBornLegit_96 (rest := []) rfl rfl (Nat.le_of_ble_eq_true rfl) rfl rfl (st2 := fun o => .int (xm_J o.2) :: []) (fun _ => rfl) (fun o23 k24 => ?_)
    refine xg_if_eq hC (xm_in01 k24) 106 dX2_isBornLegit_99 rfl (fun c25 => ?_) (fun c26 => ?_)
    · refine xg_iconst hC dX2_isBornLegit_106 ?_
      exact xg_zret hC hQ (by decide) dX2_isBornLegit_107
    refine xg_iconst hC dX2_isBornLegit_102 ?_
    refine xg_goto hC 107 dX2_isBornLegit_103 rfl ?_
    exact xg_zret hC hQ (by decide) dX2_isBornLegit_107
  refine xg_iconst hC dX2_isBornLegit_54 ?_
  exact xg_zret hC hQ (by decide) dX2_isBornLegit_55
theorem w_X5_isElder {Γ : xm_Gm} {I : xm_Mem → Prop} {la : Launch} (hE : I = xm_I) (σ : xm_Mem) (x1 : Int) (x2 : Int) (h1 : xm_in x1) (h2 : xm_in x2) : ∀ o, f_X5_isElder σ x1 x2 = some o → xm_M Γ I la yX5_isElder cX5_isElder 3 (some .boolean) 3 0 0 [.ref (xm_ad Γ 9), .int (xm_J x1), .int (xm_J x2)] σ 2 o := by
  refine xg_enter (by decide) (by simp [lg_sl, xm_rf_cat, xm_cati, xm_catr, xm_catl]) (fun X hG hI0 hla hC hQ hname => ?_)
  subst hG
  have hI := hI0.trans hE
  clear hI0 hla
  unfold f_X5_isElder
  refine xg_pick [0, 1, 2] (l' := [(0, .ref (xm_ad (xx_G X) 9)), (1, .int (xm_J x1)), (2, .int (xm_J x2))]) rfl ?_
  refine xg_aload_n hC dX5_isElder_0 rfl ?_
  refine xg_iload_n hC dX5_isElder_1 rfl ?_
  refine xg_callV hC (ci := 4) (w_X5_bornOn hI σ x1 h1) xl_M_X5_83 xl_V_X5_bornOn (xm_hK (a := 9) (kd := 0) (n := 4) hI rfl).2 ((xm_hK (a := 9) (kd := 0) (n := 4) hI rfl).1 _) (by decide) rfl (by decide) ⟨by decide, by decide⟩ dX5_isElder_2 (rest := []) rfl rfl (Nat.le_of_ble_eq_true rfl) rfl rfl (st2 := fun o => .int (xm_J o.2) :: []) (fun _ => rfl) (fun o1 k2 => ?_)
  refine xg_aload_n hC dX5_isElder_5 rfl ?_
  refine xg_iload_n hC dX5_isElder_6 rfl ?_
  refine xg_callV hC (ci := 4) (w_X5_bornOn hI o1.1 x2 h2) xl_M_X5_83 xl_V_X5_bornOn (xm_hK (a := 9) (kd := 0) (n := 4) hI rfl).2 ((xm_hK (a := 9) (kd := 0) (n := 4) hI rfl).1 _) (by decide) rfl (by decide) ⟨by decide, by decide⟩ dX5_isElder_7 (rest := [.int (xm_J o1.2)]) rfl rfl (Nat.le_of_ble_eq_true rfl) rfl rfl (st2 := fun o => .int (xm_J o.2) :: [.int (xm_J o1.2)]) (fun _ => rfl) (fun o3 k4 => ?_)
  refine xg_icmp_eq hC k2 k4 34 dX5_isElder_10 rfl (fun c5 => ?_) (fun c6 => ?_)
  · refine xg_iload_n hC dX5_isElder_34 rfl ?_
    refine xg_iload_n hC dX5_isElder_35 rfl ?_
    refine xg_icmp_ge hC h1 h2 43 dX5_isElder_36 rfl (fun c7 => ?_) (fun c8 => ?_)
    · refine xg_iconst hC dX5_isElder_39 ?_
      refine xg_goto hC 44 dX5_isElder_40 rfl ?_
      exact xg_zret hC hQ (by decide) dX5_isElder_44
    refine xg_iconst hC dX5_isElder_43 ?_
    exact xg_zret hC hQ (by decide) dX5_isElder_44
  refine xg_aload_n hC dX5_isElder_13 rfl ?_
  refine xg_iload_n hC dX5_isElder_14 rfl ?_
  refine xg_callV hC (ci := 4) (w_X5_bornOn hI o3.1 x1 h1) xl_M_X5_83 xl_V_X5_bornOn (xm_hK (a := 9) (kd := 0) (n := 4) hI rfl).2 ((xm_hK (a := 9) (kd := 0) (n := 4) hI rfl).1 _) (by decide) rfl (by decide) ⟨by decide, by decide⟩ dX5_isElder_15 (rest := []) rfl rfl (Nat.le_of_ble_eq_true rfl) rfl rfl (st2 := fun o => .int (xm_J o.2) :: []) (fun _ => rfl) (fun o9 k10 => ?_)
  refine xg_aload_n hC dX5_isElder_18 rfl ?_
  refine xg_iload_n hC dX5_isElder_19 rfl ?_
  refine xg_callV hC (ci := 4) (w_X5_bornOn hI o9.1 x2 h2) xl_M_X5_83 xl_V_X5_bornOn (xm_hK (a := 9) (kd := 0) (n := 4) hI rfl).2 ((xm_hK (a := 9) (kd := 0) (n := 4) hI rfl).1 _) (by decide) rfl (by decide) ⟨by decide, by decide⟩ dX5_isElder_20 (rest := [.int (xm_J o9.2)]) rfl rfl (Nat.le_of_ble_eq_true rfl) rfl rfl (st2 := fun o => .int (xm_J o.2) :: [.int (xm_J o9.2)]) (fun _ => rfl) (fun o11 k12 => ?_)
  refine xg_icmp_ge hC k10 k12 30 dX5_isElder_23 rfl (fun c13 => ?_) (fun c14 => ?_)
  · refine xg_iconst hC dX5_isElder_26 ?_
    refine xg_goto hC 44 dX5_isElder_27 rfl ?_
    exact xg_zret hC hQ (by decide) dX5_isElder_44
  refine xg_iconst hC dX5_isElder_30 ?_
  refine xg_goto hC 44 dX5_isElder_31 rfl ?_
  exact xg_zret hC hQ (by decide) dX5_isElder_44
theorem w_X2_sortIn_b15 {X : xm_X} (hC : xm_C X yX2_sortIn.cls cX2_sortIn 3 4 0 0) (hQ : xm_Rt X 0 none 0 0) (hI : xx_I X = xm_I) {K58 : xm_Mem → Int → Int → Option xm_Out} (hK58 : ∀ (σ : xm_Mem) (x1 : Int) (x2 : Int), xm_in x1 → xm_in x2 → xm_V X 0 0 (K58 σ x1 x2) σ 58 [(0, .ref (xm_ad (xx_G X) 23)), (1, .int (xm_J x1)), (2, .int (xm_J x2))] []) {self : xm_Mem → Int → Int → Option xm_Out} (hself : ∀ (σ : xm_Mem) (x1 : Int) (x2 : Int), xm_in x1 → xm_in x2 → xm_V X 0 0 (self σ x1 x2) σ 15 [(0, .ref (xm_ad (xx_G X) 23)), (1, .int (xm_J x1)), (2, .int (xm_J x2))] []) (σ : xm_Mem) (x1 : Int) (x2 : Int) (h1 : xm_in x1) (h2 : xm_in x2) : xm_V X 0 0 (f_X2_sortIn_b15 K58 self σ x1 x2) σ 15 [(0, .ref (xm_ad (xx_G X) 23)), (1, .int (xm_J x1)), (2, .int (xm_J x2))] [] := by
  unfold f_X2_sortIn_b15
  refine xg_iload_n hC dX2_sortIn_15 rfl ?_
  refine xg_if_le hC h2 58 dX2_sortIn_16 rfl (fun c7 => ?_) (fun c8 => ?_)
  · refine xg_aload_n hC dX2_sortIn_19 rfl ?_
    refine xg_getW hC (b := 9) (xm_hK hI rfl) rfl (xm_wK hI rfl) (by decide) xl_F_X2_33 dX2_sortIn_20 ?_
    refine xg_iload_n hC dX2_sortIn_23 rfl ?_
    refine xg_aload_n hC dX2_sortIn_24 rfl ?_
    refine xg_getW hC (b := 25) (xm_hK hI rfl) rfl (xm_wK hI rfl) (by decide) xl_F_X2_15 dX2_sortIn_25 ?_
    refine xg_iload_n hC dX2_sortIn_28 rfl ?_
    refine xg_iconst hC dX2_sortIn_29 ?_
    refine xg_isub hC dX2_sortIn_30 ?_
    refine xg_vI (xm_w_in _) (fun v9 k10 => ?_)
    refine xg_iald hC (xm_hK hI rfl) rfl k10 dX2_sortIn_31 (fun b11 k12 => ?_)
    refine xg_callV hC (ci := 4) (w_X5_isElder hI σ x1 (σ.1 25 v9.toNat) h1 k12) xl_M_X2_76 xl_V_X5_isElder (xm_hK (a := 9) (kd := 0) (n := 4) hI rfl).2 ((xm_hK (a := 9) (kd := 0) (n := 4) hI rfl).1 _) (by decide) rfl (by decide) ⟨by decide, by decide⟩ dX2_sortIn_32 (rest := []) rfl rfl (Nat.le_of_ble_eq_true rfl) rfl rfl (st2 := fun o => .int (xm_J o.2) :: []) (fun _ => rfl) (fun o13 k14 => ?_)
    refine xg_if_eq hC (xm_in01 k14) 58 dX2_sortIn_35 rfl (fun c15 => ?_) (fun c16 => ?_)
    · exact (hK58 o13.1 x1 x2 h1 h2)
    refine xg_aload_n hC dX2_sortIn_38 rfl ?_
    refine xg_getW hC (b := 25) (xm_hK hI rfl) rfl (xm_wK hI rfl) (by decide) xl_F_X2_15 dX2_sortIn_39 ?_
    refine xg_iload_n hC dX2_sortIn_42 rfl ?_
    refine xg_aload_n hC dX2_sortIn_43 rfl ?_
    refine xg_getW hC (b := 25) (xm_hK hI rfl) rfl (xm_wK hI rfl) (by decide) xl_F_X2_15 dX2_sortIn_44 ?_
    refine xg_iload_n hC dX2_sortIn_47 rfl ?_
    refine xg_iconst hC dX2_sortIn_48 ?_
    refine xg_isub hC dX2_sortIn_49 ?_
    refine xg_vI (xm_w_in _) (fun v17 k18 => ?_)
    refine xg_iald hC (xm_hK hI rfl) rfl k18 dX2_sortIn_50 (fun b19 k20 => ?_)
    refine xg_iast hC (xm_hK hI rfl) rfl h2 k20 (xm_kpF hI rfl) dX2_sortIn_51 ?_
    refine xg_st (fun σ21 => ?_)
    refine xg_iinc hC (l' := [(2, .int (xm_J (xm_w (x2 + (-1))))), (0, .ref (xm_ad (xx_G X) 23)), (1, .int (xm_J x1))]) dX2_sortIn_52 (by decide) 2 rfl rfl ?_
    refine xg_goto hC 15 dX2_sortIn_55 rfl ?_
    exact xg_pick [1, 2, 0] rfl (hself σ21 x1 (xm_w (x2 + (-1))) h1 (xm_w_in _))
  exact (hK58 σ x1 x2 h1 h2)
theorem w_X2_sortIn_l15 {X : xm_X} (hC : xm_C X yX2_sortIn.cls cX2_sortIn 3 4 0 0) (hQ : xm_Rt X 0 none 0 0) (hI : xx_I X = xm_I) {K58 : xm_Mem → Int → Int → Option xm_Out} (hK58 : ∀ (σ : xm_Mem) (x1 : Int) (x2 : Int), xm_in x1 → xm_in x2 → xm_V X 0 0 (K58 σ x1 x2) σ 58 [(0, .ref (xm_ad (xx_G X) 23)), (1, .int (xm_J x1)), (2, .int (xm_J x2))] []) (n : Nat) : ∀ (σ : xm_Mem) (x1 : Int) (x2 : Int), xm_in x1 → xm_in x2 → xm_V X 0 0 (f_X2_sortIn_l15 K58 n σ x1 x2) σ 15 [(0, .ref (xm_ad (xx_G X) 23)), (1, .int (xm_J x1)), (2, .int (xm_J x2))] [] := by
  induction n with
  | zero => intro σ x1 x2 h1 h2; exact xg_none
  | succ n ih => intro σ x1 x2 h1 h2; exact w_X2_sortIn_b15 hC hQ hI hK58 ih σ x1 x2 h1 h2
theorem w_X2_sortIn {Γ : xm_Gm} {I : xm_Mem → Prop} {la : Launch} (hE : I = xm_I) (σ : xm_Mem) (x1 : Int) (h1 : xm_in x1) : ∀ o, f_X2_sortIn σ x1 = some o → xm_M Γ I la yX2_sortIn cX2_sortIn 3 none 4 0 0 [.ref (xm_ad Γ 23), .int (xm_J x1)] σ 0 o := by
  refine xg_enter (by decide) (by simp [lg_sl, xm_rf_cat, xm_cati, xm_catr, xm_catl]) (fun X hG hI0 hla hC hQ hname => ?_)
  subst hG
  have hI := hI0.trans hE
  clear hI0 hla
  unfold f_X2_sortIn
  refine xg_pick [0, 1] (l' := [(0, .ref (xm_ad (xx_G X) 23)), (1, .int (xm_J x1))]) rfl ?_
  refine xg_aload_n hC dX2_sortIn_0 rfl ?_
  refine xg_getI hC (xm_hK hI rfl) rfl xl_F_X2_19 dX2_sortIn_1 (fun k1 => ?_)
  refine xg_bipush hC dX2_sortIn_4 (by decide) ?_
  refine xg_icmp_lt hC k1 (xm_inc _ rfl) 10 dX2_sortIn_6 rfl (fun c2 => ?_) (fun c3 => ?_)
  · refine xg_aload_n hC dX2_sortIn_10 rfl ?_
    refine xg_getI hC (xm_hK hI rfl) rfl xl_F_X2_19 dX2_sortIn_11 (fun k4 => ?_)
    refine xg_vI k4 (fun v5 k6 => ?_)
    refine xg_istore_n hC (l' := [(2, .int (xm_J v5)), (0, .ref (xm_ad (xx_G X) 23)), (1, .int (xm_J x1))]) dX2_sortIn_14 (by decide) rfl ?_
    refine xg_pick [1, 2, 0] rfl (w_X2_sortIn_l15 hC hQ hI ?_ _ σ x1 v5 h1 k6)
    intro σ_22 x1_22 x2_22 h1_22 h2_22
    refine xg_aload_n hC dX2_sortIn_58 rfl ?_
    refine xg_getW hC (b := 25) (xm_hK hI rfl) rfl (xm_wK hI rfl) (by decide) xl_F_X2_15 dX2_sortIn_59 ?_
    refine xg_iload_n hC dX2_sortIn_62 rfl ?_
    refine xg_iload_n hC dX2_sortIn_63 rfl ?_
    refine xg_iast hC (xm_hK hI rfl) rfl h2_22 h1_22 (xm_kpF hI rfl) dX2_sortIn_64 ?_
    refine xg_st (fun σ23 => ?_)
    refine xg_aload_n hC dX2_sortIn_65 rfl ?_
    refine xg_dup hC dX2_sortIn_66 rfl ?_
    refine xg_getI hC (xm_hK hI rfl) rfl xl_F_X2_19 dX2_sortIn_67 (fun k24 => ?_)
    refine xg_iconst hC dX2_sortIn_70 ?_
    refine xg_iadd hC dX2_sortIn_71 ?_
    refine xg_putI hC (xm_hK hI rfl) rfl rfl (xm_w_in _) (xm_kpK hI rfl) xl_F_X2_19 dX2_sortIn_72 ?_
    refine xg_st (fun σ25 => ?_)
    exact xg_vret hC hQ dX2_sortIn_75
  exact xg_vret hC hQ dX2_sortIn_9
theorem w_X2_isLegit {Γ : xm_Gm} {I : xm_Mem → Prop} {la : Launch} (hE : I = xm_I) (σ : xm_Mem) (x1 : Int) (h1 : xm_in x1) : ∀ o, f_X2_isLegit σ x1 = some o → xm_M Γ I la yX2_isLegit cX2_isLegit 2 (some .boolean) 2 0 0 [.ref (xm_ad Γ 23), .int (xm_J x1)] σ 2 o := by
  refine xg_enter (by decide) (by simp [lg_sl, xm_rf_cat, xm_cati, xm_catr, xm_catl]) (fun X hG hI0 hla hC hQ hname => ?_)
  subst hG
  have hI := hI0.trans hE
  clear hI0 hla
  unfold f_X2_isLegit
  refine xg_pick [0, 1] (l' := [(0, .ref (xm_ad (xx_G X) 23)), (1, .int (xm_J x1))]) rfl ?_
  refine xg_iload_n hC dX2_isLegit_0 rfl ?_
  refine xg_callSN hC (w_X10_isPersonNumber hI σ x1 h1) xl_N_X2_94 xl_S_X10_isPersonNumber (by decide) ⟨by decide, by decide⟩ dX2_isLegit_1 (rest := []) rfl rfl (Nat.le_of_ble_eq_true rfl) rfl rfl (st2 := fun o => .int (xm_J o.2) :: []) (fun _ => rfl) (fun o1 k2 => ?_)
  refine xg_if_eq hC (xm_in01 k2) 20 dX2_isLegit_4 rfl (fun c3 => ?_) (fun c4 => ?_)
  · refine xg_iconst hC dX2_isLegit_20 ?_
    exact xg_zret hC hQ (by decide) dX2_isLegit_21
  refine xg_aload_n hC dX2_isLegit_7 rfl ?_
  refine xg_getW hC (b := 24) (xm_hK hI rfl) rfl (xm_wK hI rfl) (by decide) xl_F_X2_9 dX2_isLegit_8 ?_
  refine xg_iload_n hC dX2_isLegit_11 rfl ?_
  refine xg_zald hC (xm_hK hI rfl) rfl h1 dX2_isLegit_12 (fun b5 k6 => ?_)
  refine xg_if_eq hC (xm_in01 k6) 20 dX2_isLegit_13 rfl (fun c7 => ?_) (fun c8 => ?_)
  · refine xg_iconst hC dX2_isLegit_20 ?_
    exact xg_zret hC hQ (by decide) dX2_isLegit_21
  refine xg_iconst hC dX2_isLegit_16 ?_
  refine xg_goto hC 21 dX2_isLegit_17 rfl ?_
  exact xg_zret hC hQ (by decide) dX2_isLegit_21
theorem w_X2_listKids_j66 {X : xm_X} (hC : xm_C X yX2_listKids.cls cX2_listKids 6 3 0 0) (hQ : xm_Rt X 0 none 0 0) (hI : xx_I X = xm_I) {K19 : xm_Mem → Int → Int → Int → Option xm_Out} (hK19 : ∀ (σ : xm_Mem) (x1 : Int) (x2 : Int) (x3 : Int), xm_in x1 → xm_in x2 → xm_in x3 → xm_V X 0 0 (K19 σ x1 x2 x3) σ 19 [(0, .ref (xm_ad (xx_G X) 23)), (1, .int (xm_J x1)), (2, .int (xm_J x2)), (3, .int (xm_J x3))] []) (σ : xm_Mem) (s0 : Int) (x1 : Int) (x2 : Int) (x3 : Int) (x4 : Int) (g0 : 0 ≤ s0 ∧ s0 ≤ 1) (h1 : xm_in x1) (h2 : xm_in x2) (h3 : xm_in x3) (h4 : xm_in x4) : xm_V X 0 0 (f_X2_listKids_j66 K19 σ s0 x1 x2 x3 x4) σ 66 [(0, .ref (xm_ad (xx_G X) 23)), (1, .int (xm_J x1)), (2, .int (xm_J x2)), (3, .int (xm_J x3)), (4, .int (xm_J x4))] [.int (xm_J s0)] := by
  unfold f_X2_listKids_j66
  refine xg_istore hC (l' := [(5, .int (xm_J s0)), (0, .ref (xm_ad (xx_G X) 23)), (1, .int (xm_J x1)), (2, .int (xm_J x2)), (3, .int (xm_J x3)), (4, .int (xm_J x4))]) dX2_listKids_66 (by decide) rfl ?_
  refine xg_aload_n hC dX2_listKids_68 rfl ?_
  refine xg_iload hC dX2_listKids_69 rfl ?_
  refine xg_callV hC (ci := 1) (w_X2_isLegit hI σ x4 h4) xl_M_X2_80 xl_V_X2_isLegit (xm_hK (a := 23) (kd := 0) (n := 1) hI rfl).2 ((xm_hK (a := 23) (kd := 0) (n := 1) hI rfl).1 _) (by decide) rfl (by decide) ⟨by decide, by decide⟩ dX2_listKids_71 (rest := []) rfl rfl (Nat.le_of_ble_eq_true rfl) rfl rfl (st2 := fun o => .int (xm_J o.2) :: []) (fun _ => rfl) (fun o15 k16 => ?_)
  refine xg_if_eq hC (xm_in01 k16) 102 dX2_listKids_74 rfl (fun c17 => ?_) (fun c18 => ?_)
  · refine xg_iinc hC (l' := [(3, .int (xm_J (xm_w (x3 + 1)))), (5, .int (xm_J s0)), (0, .ref (xm_ad (xx_G X) 23)), (1, .int (xm_J x1)), (2, .int (xm_J x2)), (4, .int (xm_J x4))]) dX2_listKids_102 (by decide) 4 rfl rfl ?_
    refine xg_goto hC 19 dX2_listKids_105 rfl ?_
    exact xg_pick [2, 3, 4, 0] rfl (hK19 o15.1 x1 x2 (xm_w (x3 + 1)) h1 h2 (xm_w_in _))
  refine xg_iload hC dX2_listKids_77 rfl ?_
  refine xg_if_eq hC (xm_in01 g0) 102 dX2_listKids_79 rfl (fun c19 => ?_) (fun c20 => ?_)
  · refine xg_iinc hC (l' := [(3, .int (xm_J (xm_w (x3 + 1)))), (5, .int (xm_J s0)), (0, .ref (xm_ad (xx_G X) 23)), (1, .int (xm_J x1)), (2, .int (xm_J x2)), (4, .int (xm_J x4))]) dX2_listKids_102 (by decide) 4 rfl rfl ?_
    refine xg_goto hC 19 dX2_listKids_105 rfl ?_
    exact xg_pick [2, 3, 4, 0] rfl (hK19 o15.1 x1 x2 (xm_w (x3 + 1)) h1 h2 (xm_w_in _))
  refine xg_iload_n hC dX2_listKids_82 rfl ?_
  refine xg_aload_n hC dX2_listKids_83 rfl ?_
  refine xg_getW hC (b := 26) (xm_hK hI rfl) rfl (xm_wK hI rfl) (by decide) xl_F_X2_23 dX2_listKids_84 ?_
  refine xg_alen hC (kd := 1) (n := 128) (xm_hK hI rfl) (by decide) rfl dX2_listKids_87 ?_
  refine xg_icmp_ge hC h1 (xm_inc _ rfl) 102 dX2_listKids_88 rfl (fun c21 => ?_) (fun c22 => ?_)
  · refine xg_aload_n hC dX2_listKids_91 rfl ?_
    refine xg_getW hC (b := 26) (xm_hK hI rfl) rfl (xm_wK hI rfl) (by decide) xl_F_X2_23 dX2_listKids_92 ?_
    refine xg_iload_n hC dX2_listKids_95 rfl ?_
    refine xg_iinc hC (l' := [(1, .int (xm_J (xm_w (x1 + 1)))), (5, .int (xm_J s0)), (0, .ref (xm_ad (xx_G X) 23)), (2, .int (xm_J x2)), (3, .int (xm_J x3)), (4, .int (xm_J x4))]) dX2_listKids_96 (by decide) 2 rfl rfl ?_
    refine xg_iload hC dX2_listKids_99 rfl ?_
    refine xg_iast hC (xm_hK hI rfl) rfl h1 h4 (xm_kpF hI rfl) dX2_listKids_101 ?_
    refine xg_st (fun σ23 => ?_)
    refine xg_iinc hC (l' := [(3, .int (xm_J (xm_w (x3 + 1)))), (1, .int (xm_J (xm_w (x1 + 1)))), (5, .int (xm_J s0)), (0, .ref (xm_ad (xx_G X) 23)), (2, .int (xm_J x2)), (4, .int (xm_J x4))]) dX2_listKids_102 (by decide) 4 rfl rfl ?_
    refine xg_goto hC 19 dX2_listKids_105 rfl ?_
    exact xg_pick [3, 1, 4, 0] rfl (hK19 σ23 (xm_w (x1 + 1)) x2 (xm_w (x3 + 1)) (xm_w_in _) h2 (xm_w_in _))
  refine xg_iinc hC (l' := [(3, .int (xm_J (xm_w (x3 + 1)))), (5, .int (xm_J s0)), (0, .ref (xm_ad (xx_G X) 23)), (1, .int (xm_J x1)), (2, .int (xm_J x2)), (4, .int (xm_J x4))]) dX2_listKids_102 (by decide) 4 rfl rfl ?_
  refine xg_goto hC 19 dX2_listKids_105 rfl ?_
  exact xg_pick [2, 3, 4, 0] rfl (hK19 o15.1 x1 x2 (xm_w (x3 + 1)) h1 h2 (xm_w_in _))
theorem w_X2_listKids_j61 {X : xm_X} (hC : xm_C X yX2_listKids.cls cX2_listKids 6 3 0 0) (hQ : xm_Rt X 0 none 0 0) (hI : xx_I X = xm_I) {K19 : xm_Mem → Int → Int → Int → Option xm_Out} (hK19 : ∀ (σ : xm_Mem) (x1 : Int) (x2 : Int) (x3 : Int), xm_in x1 → xm_in x2 → xm_in x3 → xm_V X 0 0 (K19 σ x1 x2 x3) σ 19 [(0, .ref (xm_ad (xx_G X) 23)), (1, .int (xm_J x1)), (2, .int (xm_J x2)), (3, .int (xm_J x3))] []) (σ : xm_Mem) (x1 : Int) (x2 : Int) (x3 : Int) (x4 : Int) (h1 : xm_in x1) (h2 : xm_in x2) (h3 : xm_in x3) (h4 : xm_in x4) : xm_V X 0 0 (f_X2_listKids_j61 K19 σ x1 x2 x3 x4) σ 61 [(0, .ref (xm_ad (xx_G X) 23)), (1, .int (xm_J x1)), (2, .int (xm_J x2)), (3, .int (xm_J x3)), (4, .int (xm_J x4))] [] := by
  unfold f_X2_listKids_j61
  refine xg_iconst hC dX2_listKids_61 ?_
  refine xg_goto hC 66 dX2_listKids_62 rfl ?_
  exact (w_X2_listKids_j66 hC hQ hI hK19 σ (1 : Int) x1 x2 x3 x4 (by decide) h1 h2 h3 h4)
theorem w_X2_listKids_b19 {X : xm_X} (hC : xm_C X yX2_listKids.cls cX2_listKids 6 3 0 0) (hQ : xm_Rt X 0 none 0 0) (hI : xx_I X = xm_I) {K108 : xm_Mem → Int → Int → Option xm_Out} (hK108 : ∀ (σ : xm_Mem) (x1 : Int) (x2 : Int), xm_in x1 → xm_in x2 → xm_V X 0 0 (K108 σ x1 x2) σ 108 [(0, .ref (xm_ad (xx_G X) 23)), (1, .int (xm_J x1)), (2, .int (xm_J x2))] []) {self : xm_Mem → Int → Int → Int → Option xm_Out} (hself : ∀ (σ : xm_Mem) (x1 : Int) (x2 : Int) (x3 : Int), xm_in x1 → xm_in x2 → xm_in x3 → xm_V X 0 0 (self σ x1 x2 x3) σ 19 [(0, .ref (xm_ad (xx_G X) 23)), (1, .int (xm_J x1)), (2, .int (xm_J x2)), (3, .int (xm_J x3))] []) (σ : xm_Mem) (x1 : Int) (x2 : Int) (x3 : Int) (h1 : xm_in x1) (h2 : xm_in x2) (h3 : xm_in x3) : xm_V X 0 0 (f_X2_listKids_b19 K108 self σ x1 x2 x3) σ 19 [(0, .ref (xm_ad (xx_G X) 23)), (1, .int (xm_J x1)), (2, .int (xm_J x2)), (3, .int (xm_J x3))] [] := by
  unfold f_X2_listKids_b19
  refine xg_iload_n hC dX2_listKids_19 rfl ?_
  refine xg_aload_n hC dX2_listKids_20 rfl ?_
  refine xg_getI hC (xm_hK hI rfl) rfl xl_F_X2_19 dX2_listKids_21 (fun k4 => ?_)
  refine xg_icmp_ge hC h3 k4 108 dX2_listKids_24 rfl (fun c5 => ?_) (fun c6 => ?_)
  · refine xg_aload_n hC dX2_listKids_27 rfl ?_
    refine xg_getW hC (b := 25) (xm_hK hI rfl) rfl (xm_wK hI rfl) (by decide) xl_F_X2_15 dX2_listKids_28 ?_
    refine xg_iload_n hC dX2_listKids_31 rfl ?_
    refine xg_iald hC (xm_hK hI rfl) rfl h3 dX2_listKids_32 (fun b7 k8 => ?_)
    refine xg_vI k8 (fun v9 k10 => ?_)
    refine xg_istore hC (l' := [(4, .int (xm_J v9)), (0, .ref (xm_ad (xx_G X) 23)), (1, .int (xm_J x1)), (2, .int (xm_J x2)), (3, .int (xm_J x3))]) dX2_listKids_33 (by decide) rfl ?_
    refine xg_aload_n hC dX2_listKids_35 rfl ?_
    refine xg_getW hC (b := 9) (xm_hK hI rfl) rfl (xm_wK hI rfl) (by decide) xl_F_X2_33 dX2_listKids_36 ?_
    refine xg_iload hC dX2_listKids_39 rfl ?_
    refine xg_callV hC (ci := 4) (w_X5_father hI σ v9 k10) xl_M_X2_57 xl_V_X5_father (xm_hK (a := 9) (kd := 0) (n := 4) hI rfl).2 ((xm_hK (a := 9) (kd := 0) (n := 4) hI rfl).1 _) (by decide) rfl (by decide) ⟨by decide, by decide⟩ dX2_listKids_41 (rest := []) rfl rfl (Nat.le_of_ble_eq_true rfl) rfl rfl (st2 := fun o => .int (xm_J o.2) :: []) (fun _ => rfl) (fun o11 k12 => ?_)
    refine xg_iload_n hC dX2_listKids_44 rfl ?_
    refine xg_icmp_eq hC k12 h2 61 dX2_listKids_45 rfl (fun c13 => ?_) (fun c14 => ?_)
    · exact xg_pick [1, 2, 3, 4, 0] rfl (w_X2_listKids_j61 hC hQ hI hself o11.1 x1 x2 x3 v9 h1 h2 h3 k10)
    refine xg_aload_n hC dX2_listKids_48 rfl ?_
    refine xg_getW hC (b := 9) (xm_hK hI rfl) rfl (xm_wK hI rfl) (by decide) xl_F_X2_33 dX2_listKids_49 ?_
    refine xg_iload hC dX2_listKids_52 rfl ?_
    refine xg_callV hC (ci := 4) (w_X5_mother hI o11.1 v9 k10) xl_M_X2_61 xl_V_X5_mother (xm_hK (a := 9) (kd := 0) (n := 4) hI rfl).2 ((xm_hK (a := 9) (kd := 0) (n := 4) hI rfl).1 _) (by decide) rfl (by decide) ⟨by decide, by decide⟩ dX2_listKids_54 (rest := []) rfl rfl (Nat.le_of_ble_eq_true rfl) rfl rfl (st2 := fun o => .int (xm_J o.2) :: []) (fun _ => rfl) (fun o24 k25 => ?_)
    refine xg_iload_n hC dX2_listKids_57 rfl ?_
    refine xg_icmp_ne hC k25 h2 65 dX2_listKids_58 rfl (fun c26 => ?_) (fun c27 => ?_)
    · exact xg_pick [1, 2, 3, 4, 0] rfl (w_X2_listKids_j61 hC hQ hI hself o24.1 x1 x2 x3 v9 h1 h2 h3 k10)
    refine xg_iconst hC dX2_listKids_65 ?_
    exact xg_pick [1, 2, 3, 4, 0] rfl (w_X2_listKids_j66 hC hQ hI hself o24.1 (0 : Int) x1 x2 x3 v9 (by decide) h1 h2 h3 k10)
  exact xg_pick [0, 1, 2] rfl (hK108 σ x1 x2 h1 h2)
