/-! ===== walks of the class (written by program) ===== -/
theorem w_X8_hasRoomFor {Γ : xm_Gm} {I : xm_Mem → Prop} {la : Launch} (hE : I = xm_I) (σ : xm_Mem) (x1 : Int) (h1 : xm_in x1) : ∀ o, f_X8_hasRoomFor σ x1 = some o → xm_M Γ I la yX8_hasRoomFor cX8_hasRoomFor 2 (some .boolean) 1 0 0 [.ref (xm_ad Γ 2), .int (xm_J x1)] σ 2 o := by
  refine xg_enter (by decide) (by simp [lg_sl, xm_rf_cat, xm_cati, xm_catr, xm_catl]) (fun X hG hI0 hla hC hQ hname => ?_)
  subst hG
  have hI := hI0.trans hE
  clear hI0 hla
  unfold f_X8_hasRoomFor
  refine xg_pick [0, 1] (l' := [(0, .ref (xm_ad (xx_G X) 2)), (1, .int (xm_J x1))]) rfl ?_
  refine xg_aload_n hC dX8_hasRoomFor_0 rfl ?_
  refine xg_getI hC (xm_hK hI rfl) rfl xl_F_X8_15 dX8_hasRoomFor_1 (fun k1 => ?_)
  refine xg_iload_n hC dX8_hasRoomFor_4 rfl ?_
  refine xg_iadd hC dX8_hasRoomFor_5 ?_
  refine xg_bipush hC dX8_hasRoomFor_6 (by decide) ?_
  refine xg_icmp_gt hC (xm_w_in _) (xm_inc _ rfl) 15 dX8_hasRoomFor_8 rfl (fun c2 => ?_) (fun c3 => ?_)
  · refine xg_iconst hC dX8_hasRoomFor_15 ?_
    exact xg_zret hC hQ (by decide) dX8_hasRoomFor_16
  refine xg_iconst hC dX8_hasRoomFor_11 ?_
  refine xg_goto hC 16 dX8_hasRoomFor_12 rfl ?_
  exact xg_zret hC hQ (by decide) dX8_hasRoomFor_16
theorem w_X10_refuse {Γ : xm_Gm} {I : xm_Mem → Prop} {la : Launch} (hE : I = xm_I) (σ : xm_Mem) (x1 : Int) (h1 : xm_in x1) : ∀ o, f_X10_refuse σ x1 = some o → xm_M Γ I la yX10_refuse cX10_refuse 2 (some .int) 1 0 0 [.ref (xm_ad Γ 1), .int (xm_J x1)] σ 1 o := by
  refine xg_enter (by decide) (by simp [lg_sl, xm_rf_cat, xm_cati, xm_catr, xm_catl]) (fun X hG hI0 hla hC hQ hname => ?_)
  subst hG
  have hI := hI0.trans hE
  clear hI0 hla
  unfold f_X10_refuse
  refine xg_pick [0, 1] (l' := [(0, .ref (xm_ad (xx_G X) 1)), (1, .int (xm_J x1))]) rfl ?_
  refine xg_aload_n hC dX10_refuse_0 rfl ?_
  refine xg_iload_n hC dX10_refuse_1 rfl ?_
  refine xg_putI hC (xm_hK hI rfl) rfl rfl h1 (xm_kpK hI rfl) xl_F_X10_70 dX10_refuse_2 ?_
  refine xg_st (fun σ1 => ?_)
  refine xg_bipush hC dX10_refuse_5 (by decide) ?_
  exact xg_iret hC hQ (xm_inc _ rfl) dX10_refuse_7
theorem w_X8_add_b3 {X : xm_X} (hC : xm_C X yX8_add.cls cX8_add 3 1 0 0) (hQ : xm_Rt X 0 none 0 0) (hI : xx_I X = xm_I)   {self : xm_Mem → Int → Int → Option xm_Out} (hself : ∀ (σ : xm_Mem) (x1 : Int) (x2 : Int), xm_in x1 → xm_in x2 → xm_V X 0 0 (self σ x1 x2) σ 3 [(0, .ref (xm_ad (xx_G X) 2)), (1, .int (xm_J x1)), (2, .int (xm_J x2))] []) (σ : xm_Mem) (x1 : Int) (x2 : Int) (h1 : xm_in x1) (h2 : xm_in x2) : xm_V X 0 0 (f_X8_add_b3  self σ x1 x2) σ 3 [(0, .ref (xm_ad (xx_G X) 2)), (1, .int (xm_J x1)), (2, .int (xm_J x2))] [] := by
  unfold f_X8_add_b3
  refine xg_iload_n hC dX8_add_3 rfl ?_
  refine xg_if_lt hC h2 45 dX8_add_4 rfl (fun c1 => ?_) (fun c2 => ?_)
  · exact xg_vret hC hQ dX8_add_45
  refine xg_aload_n hC dX8_add_7 rfl ?_
  refine xg_getI hC (xm_hK hI rfl) rfl xl_F_X8_15 dX8_add_8 (fun k3 => ?_)
  refine xg_bipush hC dX8_add_11 (by decide) ?_
  refine xg_icmp_ge hC k3 (xm_inc _ rfl) 39 dX8_add_13 rfl (fun c4 => ?_) (fun c5 => ?_)
  · refine xg_aload_n hC dX8_add_16 rfl ?_
    refine xg_getW hC (b := 3) (xm_hK hI rfl) rfl (xm_wK hI rfl) (by decide) xl_F_X8_9 dX8_add_17 ?_
    refine xg_aload_n hC dX8_add_20 rfl ?_
    refine xg_dup hC dX8_add_21 rfl ?_
    refine xg_getI hC (xm_hK hI rfl) rfl xl_F_X8_15 dX8_add_22 (fun k6 => ?_)
    refine xg_vI k6 (fun v7 k8 => ?_)
    refine xg_dup_x1 hC dX8_add_25 rfl rfl ?_
    refine xg_iconst hC dX8_add_26 ?_
    refine xg_iadd hC dX8_add_27 ?_
    refine xg_putI hC (xm_hK hI rfl) rfl rfl (xm_w_in _) (xm_kpK hI rfl) xl_F_X8_15 dX8_add_28 ?_
    refine xg_st (fun σ9 => ?_)
    refine xg_iload_n hC dX8_add_31 rfl ?_
    refine xg_iload_n hC dX8_add_32 rfl ?_
    refine xg_ishr hC dX8_add_33 ?_
    refine xg_sipush hC dX8_add_34 (by decide) ?_
    refine xg_iand hC dX8_add_37 ?_
    refine xg_iast hC (xm_hK hI rfl) rfl k8 (xm_and_in _ _) (xm_kpF hI rfl) dX8_add_38 ?_
    refine xg_st (fun σ10 => ?_)
    refine xg_iinc hC (l' := [(2, .int (xm_J (xm_w (x2 + (-8))))), (0, .ref (xm_ad (xx_G X) 2)), (1, .int (xm_J x1))]) dX8_add_39 (by decide) 2 rfl rfl ?_
    refine xg_goto hC 3 dX8_add_42 rfl ?_
    exact xg_pick [1, 2, 0] rfl (hself σ10 x1 (xm_w (x2 + (-8))) h1 (xm_w_in _))
  refine xg_iinc hC (l' := [(2, .int (xm_J (xm_w (x2 + (-8))))), (0, .ref (xm_ad (xx_G X) 2)), (1, .int (xm_J x1))]) dX8_add_39 (by decide) 2 rfl rfl ?_
  refine xg_goto hC 3 dX8_add_42 rfl ?_
  exact xg_pick [1, 2, 0] rfl (hself σ x1 (xm_w (x2 + (-8))) h1 (xm_w_in _))
theorem w_X8_add_l3 {X : xm_X} (hC : xm_C X yX8_add.cls cX8_add 3 1 0 0) (hQ : xm_Rt X 0 none 0 0) (hI : xx_I X = xm_I)   (n : Nat) : ∀ (σ : xm_Mem) (x1 : Int) (x2 : Int), xm_in x1 → xm_in x2 → xm_V X 0 0 (f_X8_add_l3  n σ x1 x2) σ 3 [(0, .ref (xm_ad (xx_G X) 2)), (1, .int (xm_J x1)), (2, .int (xm_J x2))] [] := by
  induction n with
  | zero => intro σ x1 x2 h1 h2; exact xg_none
  | succ n ih => intro σ x1 x2 h1 h2; exact w_X8_add_b3 hC hQ hI ih σ x1 x2 h1 h2
theorem w_X8_add {Γ : xm_Gm} {I : xm_Mem → Prop} {la : Launch} (hE : I = xm_I) (σ : xm_Mem) (x1 : Int) (h1 : xm_in x1) : ∀ o, f_X8_add σ x1 = some o → xm_M Γ I la yX8_add cX8_add 3 none 1 0 0 [.ref (xm_ad Γ 2), .int (xm_J x1)] σ 0 o := by
  refine xg_enter (by decide) (by simp [lg_sl, xm_rf_cat, xm_cati, xm_catr, xm_catl]) (fun X hG hI0 hla hC hQ hname => ?_)
  subst hG
  have hI := hI0.trans hE
  clear hI0 hla
  unfold f_X8_add
  refine xg_pick [0, 1] (l' := [(0, .ref (xm_ad (xx_G X) 2)), (1, .int (xm_J x1))]) rfl ?_
  refine xg_bipush hC dX8_add_0 (by decide) ?_
  refine xg_istore_n hC (l' := [(2, .int (xm_J (24 : Int))), (0, .ref (xm_ad (xx_G X) 2)), (1, .int (xm_J x1))]) dX8_add_2 (by decide) rfl ?_
  exact xg_pick [1, 2, 0] rfl (w_X8_add_l3 hC hQ hI _ σ x1 (24 : Int) h1 (xm_inc _ rfl))
theorem w_X8_size {Γ : xm_Gm} {I : xm_Mem → Prop} {la : Launch} (hE : I = xm_I) (σ : xm_Mem)   : ∀ o, f_X8_size σ  = some o → xm_M Γ I la yX8_size cX8_size 1 (some .int) 1 0 0 [.ref (xm_ad Γ 2)] σ 1 o := by
  refine xg_enter (by decide) (by simp [lg_sl, xm_rf_cat, xm_cati, xm_catr, xm_catl]) (fun X hG hI0 hla hC hQ hname => ?_)
  subst hG
  have hI := hI0.trans hE
  clear hI0 hla
  unfold f_X8_size
  refine xg_pick [0] (l' := [(0, .ref (xm_ad (xx_G X) 2))]) rfl ?_
  refine xg_aload_n hC dX8_size_0 rfl ?_
  refine xg_getI hC (xm_hK hI rfl) rfl xl_F_X8_15 dX8_size_1 (fun k1 => ?_)
  exact xg_iret hC hQ k1 dX8_size_4
theorem w_X10_accept {Γ : xm_Gm} {I : xm_Mem → Prop} {la : Launch} (hE : I = xm_I) (σ : xm_Mem) (x1 : Int) (h1 : xm_in x1) : ∀ o, f_X10_accept σ x1 = some o → xm_M Γ I la yX10_accept cX10_accept 2 (some .int) 1 0 0 [.ref (xm_ad Γ 1), .int (xm_J x1)] σ 1 o := by
  refine xg_enter (by decide) (by simp [lg_sl, xm_rf_cat, xm_cati, xm_catr, xm_catl]) (fun X hG hI0 hla hC hQ hname => ?_)
  subst hG
  have hI := hI0.trans hE
  clear hI0 hla
  unfold f_X10_accept
  refine xg_pick [0, 1] (l' := [(0, .ref (xm_ad (xx_G X) 1)), (1, .int (xm_J x1))]) rfl ?_
  refine xg_aload_n hC dX10_accept_0 rfl ?_
  refine xg_iconst hC dX10_accept_1 ?_
  refine xg_putI hC (xm_hK hI rfl) rfl rfl (xm_inc _ rfl) (xm_kpK hI rfl) xl_F_X10_70 dX10_accept_2 ?_
  refine xg_st (fun σ1 => ?_)
  refine xg_iload_n hC dX10_accept_5 rfl ?_
  exact xg_iret hC hQ h1 dX10_accept_6
theorem w_X10_feed {Γ : xm_Gm} {I : xm_Mem → Prop} {la : Launch} (hE : I = xm_I) (σ : xm_Mem) (x1 : Int) (x2 : Int) (x3 : Int) (x4 : Int) (x5 : Int) (h1 : xm_in x1) (h2 : xm_in x2) (h3 : xm_in x3) (h4 : xm_in x4) (h5 : xm_in x5) : ∀ o, f_X10_feed σ x1 x2 x3 x4 x5 = some o → xm_M Γ I la yX10_feed cX10_feed 6 (some .int) 2 0 0 [.ref (xm_ad Γ 1), .int (xm_J x1), .int (xm_J x2), .int (xm_J x3), .int (xm_J x4), .int (xm_J x5)] σ 1 o := by
  refine xg_enter (by decide) (by simp [lg_sl, xm_rf_cat, xm_cati, xm_catr, xm_catl]) (fun X hG hI0 hla hC hQ hname => ?_)
  subst hG
  have hI := hI0.trans hE
  clear hI0 hla
  unfold f_X10_feed
  refine xg_pick [0, 1, 2, 3, 4, 5] (l' := [(0, .ref (xm_ad (xx_G X) 1)), (1, .int (xm_J x1)), (2, .int (xm_J x2)), (3, .int (xm_J x3)), (4, .int (xm_J x4)), (5, .int (xm_J x5))]) rfl ?_
  refine xg_aload_n hC dX10_feed_0 rfl ?_
  refine xg_getW hC (b := 2) (xm_hK hI rfl) rfl (xm_wK hI rfl) (by decide) xl_F_X10_10 dX10_feed_1 ?_
  refine xg_bipush hC dX10_feed_4 (by decide) ?_
  refine xg_callV hC (ci := 7) (w_X8_hasRoomFor hI σ (20 : Int) (xm_inc _ rfl)) xl_M_X10_83 xl_V_X8_hasRoomFor (xm_hK (a := 2) (kd := 0) (n := 7) hI rfl).2 ((xm_hK (a := 2) (kd := 0) (n := 7) hI rfl).1 _) (by decide) rfl (by decide) ⟨by decide, by decide⟩ dX10_feed_6 (rest := []) rfl rfl (Nat.le_of_ble_eq_true rfl) rfl rfl (st2 := fun o => .int (xm_J o.2) :: []) (fun _ => rfl) (fun o1 k2 => ?_)
  refine xg_if_ne hC (xm_in01 k2) 19 dX10_feed_9 rfl (fun c3 => ?_) (fun c4 => ?_)
  · refine xg_aload_n hC dX10_feed_12 rfl ?_
    refine xg_bipush hC dX10_feed_13 (by decide) ?_
    refine xg_callV hC (ci := 9) (w_X10_refuse hI o1.1 (9 : Int) (xm_inc _ rfl)) xl_M_X10_87 xl_V_X10_refuse (xm_hK (a := 1) (kd := 0) (n := 9) hI rfl).2 ((xm_hK (a := 1) (kd := 0) (n := 9) hI rfl).1 _) (by decide) rfl (by decide) ⟨by decide, by decide⟩ dX10_feed_15 (rest := []) rfl rfl (Nat.le_of_ble_eq_true rfl) rfl rfl (st2 := fun o => .int (xm_J o.2) :: []) (fun _ => rfl) (fun o5 k6 => ?_)
    exact xg_iret hC hQ k6 dX10_feed_18
  refine xg_aload_n hC dX10_feed_19 rfl ?_
  refine xg_getW hC (b := 2) (xm_hK hI rfl) rfl (xm_wK hI rfl) (by decide) xl_F_X10_10 dX10_feed_20 ?_
  refine xg_iload_n hC dX10_feed_23 rfl ?_
  refine xg_callV hC (ci := 7) (w_X8_add hI o1.1 x1 h1) xl_M_X10_91 xl_V_X8_add (xm_hK (a := 2) (kd := 0) (n := 7) hI rfl).2 ((xm_hK (a := 2) (kd := 0) (n := 7) hI rfl).1 _) (by decide) rfl (by decide) ⟨by decide, by decide⟩ dX10_feed_24 (rest := []) rfl rfl (Nat.le_of_ble_eq_true rfl) rfl rfl (st2 := fun o => []) (fun _ => rfl) (fun o7 k8 => ?_)
  refine xg_aload_n hC dX10_feed_27 rfl ?_
  refine xg_getW hC (b := 2) (xm_hK hI rfl) rfl (xm_wK hI rfl) (by decide) xl_F_X10_10 dX10_feed_28 ?_
  refine xg_iload_n hC dX10_feed_31 rfl ?_
  refine xg_callV hC (ci := 7) (w_X8_add hI o7.1 x2 h2) xl_M_X10_91 xl_V_X8_add (xm_hK (a := 2) (kd := 0) (n := 7) hI rfl).2 ((xm_hK (a := 2) (kd := 0) (n := 7) hI rfl).1 _) (by decide) rfl (by decide) ⟨by decide, by decide⟩ dX10_feed_32 (rest := []) rfl rfl (Nat.le_of_ble_eq_true rfl) rfl rfl (st2 := fun o => []) (fun _ => rfl) (fun o9 k10 => ?_)
  refine xg_aload_n hC dX10_feed_35 rfl ?_
  refine xg_getW hC (b := 2) (xm_hK hI rfl) rfl (xm_wK hI rfl) (by decide) xl_F_X10_10 dX10_feed_36 ?_
  refine xg_iload_n hC dX10_feed_39 rfl ?_
  refine xg_callV hC (ci := 7) (w_X8_add hI o9.1 x3 h3) xl_M_X10_91 xl_V_X8_add (xm_hK (a := 2) (kd := 0) (n := 7) hI rfl).2 ((xm_hK (a := 2) (kd := 0) (n := 7) hI rfl).1 _) (by decide) rfl (by decide) ⟨by decide, by decide⟩ dX10_feed_40 (rest := []) rfl rfl (Nat.le_of_ble_eq_true rfl) rfl rfl (st2 := fun o => []) (fun _ => rfl) (fun o11 k12 => ?_)
  refine xg_aload_n hC dX10_feed_43 rfl ?_
  refine xg_getW hC (b := 2) (xm_hK hI rfl) rfl (xm_wK hI rfl) (by decide) xl_F_X10_10 dX10_feed_44 ?_
  refine xg_iload hC dX10_feed_47 rfl ?_
  refine xg_callV hC (ci := 7) (w_X8_add hI o11.1 x4 h4) xl_M_X10_91 xl_V_X8_add (xm_hK (a := 2) (kd := 0) (n := 7) hI rfl).2 ((xm_hK (a := 2) (kd := 0) (n := 7) hI rfl).1 _) (by decide) rfl (by decide) ⟨by decide, by decide⟩ dX10_feed_49 (rest := []) rfl rfl (Nat.le_of_ble_eq_true rfl) rfl rfl (st2 := fun o => []) (fun _ => rfl) (fun o13 k14 => ?_)
  refine xg_aload_n hC dX10_feed_52 rfl ?_
  refine xg_getW hC (b := 2) (xm_hK hI rfl) rfl (xm_wK hI rfl) (by decide) xl_F_X10_10 dX10_feed_53 ?_
  refine xg_iload hC dX10_feed_56 rfl ?_
  refine xg_callV hC (ci := 7) (w_X8_add hI o13.1 x5 h5) xl_M_X10_91 xl_V_X8_add (xm_hK (a := 2) (kd := 0) (n := 7) hI rfl).2 ((xm_hK (a := 2) (kd := 0) (n := 7) hI rfl).1 _) (by decide) rfl (by decide) ⟨by decide, by decide⟩ dX10_feed_58 (rest := []) rfl rfl (Nat.le_of_ble_eq_true rfl) rfl rfl (st2 := fun o => []) (fun _ => rfl) (fun o15 k16 => ?_)
  refine xg_aload_n hC dX10_feed_61 rfl ?_
  refine xg_aload_n hC dX10_feed_62 rfl ?_
  refine xg_getW hC (b := 2) (xm_hK hI rfl) rfl (xm_wK hI rfl) (by decide) xl_F_X10_10 dX10_feed_63 ?_
  refine xg_callV hC (ci := 7) (w_X8_size hI o15.1 ) xl_M_X10_95 xl_V_X8_size (xm_hK (a := 2) (kd := 0) (n := 7) hI rfl).2 ((xm_hK (a := 2) (kd := 0) (n := 7) hI rfl).1 _) (by decide) rfl (by decide) ⟨by decide, by decide⟩ dX10_feed_66 (rest := [.ref (xm_ad (xx_G X) 1)]) rfl rfl (Nat.le_of_ble_eq_true rfl) rfl rfl (st2 := fun o => .int (xm_J o.2) :: [.ref (xm_ad (xx_G X) 1)]) (fun _ => rfl) (fun o17 k18 => ?_)
  refine xg_callV hC (ci := 9) (w_X10_accept hI o17.1 o17.2 k18) xl_M_X10_99 xl_V_X10_accept (xm_hK (a := 1) (kd := 0) (n := 9) hI rfl).2 ((xm_hK (a := 1) (kd := 0) (n := 9) hI rfl).1 _) (by decide) rfl (by decide) ⟨by decide, by decide⟩ dX10_feed_69 (rest := []) rfl rfl (Nat.le_of_ble_eq_true rfl) rfl rfl (st2 := fun o => .int (xm_J o.2) :: []) (fun _ => rfl) (fun o19 k20 => ?_)
  exact xg_iret hC hQ k20 dX10_feed_72
theorem w_X8_keep {Γ : xm_Gm} {I : xm_Mem → Prop} {la : Launch} (hE : I = xm_I) (σ : xm_Mem) (x1 : Int) (h1 : xm_in x1) : ∀ o, f_X8_keep σ x1 = some o → xm_M Γ I la yX8_keep cX8_keep 2 none 1 0 0 [.ref (xm_ad Γ 2), .int (xm_J x1)] σ 0 o := by
  refine xg_enter (by decide) (by simp [lg_sl, xm_rf_cat, xm_cati, xm_catr, xm_catl]) (fun X hG hI0 hla hC hQ hname => ?_)
  subst hG
  have hI := hI0.trans hE
  clear hI0 hla
  unfold f_X8_keep
  refine xg_pick [0, 1] (l' := [(0, .ref (xm_ad (xx_G X) 2)), (1, .int (xm_J x1))]) rfl ?_
  refine xg_iload_n hC dX8_keep_0 rfl ?_
  refine xg_if_lt hC h1 17 dX8_keep_1 rfl (fun c1 => ?_) (fun c2 => ?_)
  · exact xg_vret hC hQ dX8_keep_17
  refine xg_iload_n hC dX8_keep_4 rfl ?_
  refine xg_aload_n hC dX8_keep_5 rfl ?_
  refine xg_getI hC (xm_hK hI rfl) rfl xl_F_X8_15 dX8_keep_6 (fun k3 => ?_)
  refine xg_icmp_gt hC h1 k3 17 dX8_keep_9 rfl (fun c4 => ?_) (fun c5 => ?_)
  · exact xg_vret hC hQ dX8_keep_17
  refine xg_aload_n hC dX8_keep_12 rfl ?_
  refine xg_iload_n hC dX8_keep_13 rfl ?_
  refine xg_putI hC (xm_hK hI rfl) rfl rfl h1 (xm_kpK hI rfl) xl_F_X8_15 dX8_keep_14 ?_
  refine xg_st (fun σ6 => ?_)
  exact xg_vret hC hQ dX8_keep_17
theorem w_X10_end {Γ : xm_Gm} {I : xm_Mem → Prop} {la : Launch} (hE : I = xm_I) (σ : xm_Mem) (x1 : Int) (h1 : xm_in x1) : ∀ o, f_X10_end σ x1 = some o → xm_M Γ I la yX10_end cX10_end 2 (some .int) 2 0 0 [.ref (xm_ad Γ 1), .int (xm_J x1)] σ 1 o := by
  refine xg_enter (by decide) (by simp [lg_sl, xm_rf_cat, xm_cati, xm_catr, xm_catl]) (fun X hG hI0 hla hC hQ hname => ?_)
  subst hG
  have hI := hI0.trans hE
  clear hI0 hla
  unfold f_X10_end
  refine xg_pick [0, 1] (l' := [(0, .ref (xm_ad (xx_G X) 1)), (1, .int (xm_J x1))]) rfl ?_
  refine xg_iload_n hC dX10_end_0 rfl ?_
  refine xg_if_lt hC h1 15 dX10_end_1 rfl (fun c1 => ?_) (fun c2 => ?_)
  · refine xg_aload_n hC dX10_end_15 rfl ?_
    refine xg_iconst hC dX10_end_16 ?_
    refine xg_callV hC (ci := 9) (w_X10_refuse hI σ (3 : Int) (xm_inc _ rfl)) xl_M_X10_87 xl_V_X10_refuse (xm_hK (a := 1) (kd := 0) (n := 9) hI rfl).2 ((xm_hK (a := 1) (kd := 0) (n := 9) hI rfl).1 _) (by decide) rfl (by decide) ⟨by decide, by decide⟩ dX10_end_17 (rest := []) rfl rfl (Nat.le_of_ble_eq_true rfl) rfl rfl (st2 := fun o => .int (xm_J o.2) :: []) (fun _ => rfl) (fun o3 k4 => ?_)
    exact xg_iret hC hQ k4 dX10_end_20
  refine xg_iload_n hC dX10_end_4 rfl ?_
  refine xg_aload_n hC dX10_end_5 rfl ?_
  refine xg_getW hC (b := 2) (xm_hK hI rfl) rfl (xm_wK hI rfl) (by decide) xl_F_X10_10 dX10_end_6 ?_
  refine xg_callV hC (ci := 7) (w_X8_size hI σ ) xl_M_X10_95 xl_V_X8_size (xm_hK (a := 2) (kd := 0) (n := 7) hI rfl).2 ((xm_hK (a := 2) (kd := 0) (n := 7) hI rfl).1 _) (by decide) rfl (by decide) ⟨by decide, by decide⟩ dX10_end_9 (rest := [.int (xm_J x1)]) rfl rfl (Nat.le_of_ble_eq_true rfl) rfl rfl (st2 := fun o => .int (xm_J o.2) :: [.int (xm_J x1)]) (fun _ => rfl) (fun o5 k6 => ?_)
  refine xg_icmp_le hC h1 k6 21 dX10_end_12 rfl (fun c7 => ?_) (fun c8 => ?_)
  · refine xg_aload_n hC dX10_end_15 rfl ?_
    refine xg_iconst hC dX10_end_16 ?_
    refine xg_callV hC (ci := 9) (w_X10_refuse hI o5.1 (3 : Int) (xm_inc _ rfl)) xl_M_X10_87 xl_V_X10_refuse (xm_hK (a := 1) (kd := 0) (n := 9) hI rfl).2 ((xm_hK (a := 1) (kd := 0) (n := 9) hI rfl).1 _) (by decide) rfl (by decide) ⟨by decide, by decide⟩ dX10_end_17 (rest := []) rfl rfl (Nat.le_of_ble_eq_true rfl) rfl rfl (st2 := fun o => .int (xm_J o.2) :: []) (fun _ => rfl) (fun o9 k10 => ?_)
    exact xg_iret hC hQ k10 dX10_end_20
  refine xg_aload_n hC dX10_end_21 rfl ?_
  refine xg_getW hC (b := 2) (xm_hK hI rfl) rfl (xm_wK hI rfl) (by decide) xl_F_X10_10 dX10_end_22 ?_
  refine xg_iload_n hC dX10_end_25 rfl ?_
  refine xg_callV hC (ci := 7) (w_X8_keep hI o5.1 x1 h1) xl_M_X10_102 xl_V_X8_keep (xm_hK (a := 2) (kd := 0) (n := 7) hI rfl).2 ((xm_hK (a := 2) (kd := 0) (n := 7) hI rfl).1 _) (by decide) rfl (by decide) ⟨by decide, by decide⟩ dX10_end_26 (rest := []) rfl rfl (Nat.le_of_ble_eq_true rfl) rfl rfl (st2 := fun o => []) (fun _ => rfl) (fun o11 k12 => ?_)
  refine xg_aload_n hC dX10_end_29 rfl ?_
  refine xg_iload_n hC dX10_end_30 rfl ?_
  refine xg_callV hC (ci := 9) (w_X10_accept hI o11.1 x1 h1) xl_M_X10_99 xl_V_X10_accept (xm_hK (a := 1) (kd := 0) (n := 9) hI rfl).2 ((xm_hK (a := 1) (kd := 0) (n := 9) hI rfl).1 _) (by decide) rfl (by decide) ⟨by decide, by decide⟩ dX10_end_31 (rest := []) rfl rfl (Nat.le_of_ble_eq_true rfl) rfl rfl (st2 := fun o => .int (xm_J o.2) :: []) (fun _ => rfl) (fun o13 k14 => ?_)
  exact xg_iret hC hQ k14 dX10_end_34
theorem w_X3_init {Γ : xm_Gm} {I : xm_Mem → Prop} {la : Launch} (hE : I = xm_I) (σ : xm_Mem) (x0 : Int) (h0 : 0 ≤ x0 ∧ xm_in x0) : ∀ o, f_X3_init σ x0 = some o → xm_M Γ I la yX3_init cX3_init 1 none 2 0 0 [xm_rf Γ x0] σ 0 o := by
  refine xg_enter (by decide) (by simp [lg_sl, xm_rf_cat, xm_cati, xm_catr, xm_catl]) (fun X hG hI0 hla hC hQ hname => ?_)
  subst hG
  have hI := hI0.trans hE
  clear hI0 hla
  unfold f_X3_init
  refine xg_pick [0] (l' := [(0, xm_rf (xx_G X) x0)]) (by simp [lv_args, lv_pick, xm_rf_cat, xm_cati, xm_catr, xm_catl]) ?_
  refine xg_rload_n hC dX3_init_0 rfl ?_
  refine xg_guard (fun q1 => ?_)
  refine xg_oinit hC (v := x0) q1 xl_O_X3_3 xl_OI xl_OC (by decide) dX3_init_1 ?_
  refine xg_rload_n hC dX3_init_4 rfl ?_
  refine xg_iconst hC dX3_init_5 ?_
  refine xg_sputI hC rfl (Or.inl rfl) (xm_inc _ rfl) (fun z => xm_kpO hI z.2.2) xl_F_X3_9 dX3_init_6 ?_
  refine xg_st (fun σ3 => ?_)
  refine xg_rload_n hC dX3_init_9 rfl ?_
  refine xg_iconst hC dX3_init_10 ?_
  refine xg_sputI hC rfl (Or.inl rfl) (xm_inc _ rfl) (fun z => xm_kpO hI z.2.2) xl_F_X3_15 dX3_init_11 ?_
  refine xg_st (fun σ4 => ?_)
  refine xg_rload_n hC dX3_init_14 rfl ?_
  refine xg_iconst hC dX3_init_15 ?_
  refine xg_sputI hC rfl (Or.inl rfl) (xm_inc _ rfl) (fun z => xm_kpO hI z.2.2) xl_F_X3_18 dX3_init_16 ?_
  refine xg_st (fun σ5 => ?_)
  refine xg_rload_n hC dX3_init_19 rfl ?_
  refine xg_iconst hC dX3_init_20 ?_
  refine xg_sputI hC rfl (Or.inl rfl) (xm_inc _ rfl) (fun z => xm_kpO hI z.2.2) xl_F_X3_21 dX3_init_21 ?_
  refine xg_st (fun σ6 => ?_)
  refine xg_rload_n hC dX3_init_24 rfl ?_
  refine xg_iconst hC dX3_init_25 ?_
  refine xg_sputI hC rfl (Or.inl rfl) (xm_inc _ rfl) (fun z => xm_kpO hI z.2.2) xl_F_X3_24 dX3_init_26 ?_
  refine xg_st (fun σ7 => ?_)
  refine xg_rload_n hC dX3_init_29 rfl ?_
  refine xg_iconst hC dX3_init_30 ?_
  refine xg_sputI hC rfl (Or.inl rfl) (xm_inc _ rfl) (fun z => xm_kpO hI z.2.2) xl_F_X3_27 dX3_init_31 ?_
  refine xg_st (fun σ8 => ?_)
  refine xg_rload_n hC dX3_init_34 rfl ?_
  refine xg_iconst hC dX3_init_35 ?_
  refine xg_sputI hC rfl (Or.inl rfl) (xm_inc _ rfl) (fun z => xm_kpO hI z.2.2) xl_F_X3_30 dX3_init_36 ?_
  refine xg_st (fun σ9 => ?_)
  refine xg_rload_n hC dX3_init_39 rfl ?_
  refine xg_iconst hC dX3_init_40 ?_
  refine xg_sputI hC rfl (Or.inl rfl) (xm_inc _ rfl) (fun z => xm_kpO hI z.2.2) xl_F_X3_33 dX3_init_41 ?_
  refine xg_st (fun σ10 => ?_)
  refine xg_rload_n hC dX3_init_44 rfl ?_
  refine xg_iconst hC dX3_init_45 ?_
  refine xg_sputZ hC rfl (Or.inl rfl) (by decide) (fun z => xm_kpO hI z.2.2) xl_F_X3_36 dX3_init_46 ?_
  refine xg_st (fun σ11 => ?_)
  refine xg_rload_n hC dX3_init_49 rfl ?_
  refine xg_iconst hC dX3_init_50 ?_
  refine xg_sputZ hC rfl (Or.inl rfl) (by decide) (fun z => xm_kpO hI z.2.2) xl_F_X3_40 dX3_init_51 ?_
  refine xg_st (fun σ12 => ?_)
  exact xg_vret hC hQ dX3_init_54
theorem w_X8_at {Γ : xm_Gm} {I : xm_Mem → Prop} {la : Launch} (hE : I = xm_I) (σ : xm_Mem) (x1 : Int) (h1 : xm_in x1) : ∀ o, f_X8_at σ x1 = some o → xm_M Γ I la yX8_at cX8_at 2 (some .int) 1 0 0 [.ref (xm_ad Γ 2), .int (xm_J x1)] σ 1 o := by
  refine xg_enter (by decide) (by simp [lg_sl, xm_rf_cat, xm_cati, xm_catr, xm_catl]) (fun X hG hI0 hla hC hQ hname => ?_)
  subst hG
  have hI := hI0.trans hE
  clear hI0 hla
  unfold f_X8_at
  refine xg_pick [0, 1] (l' := [(0, .ref (xm_ad (xx_G X) 2)), (1, .int (xm_J x1))]) rfl ?_
  refine xg_iload_n hC dX8_at_0 rfl ?_
  refine xg_if_lt hC h1 21 dX8_at_1 rfl (fun c1 => ?_) (fun c2 => ?_)
  · refine xg_iconst hC dX8_at_21 ?_
    exact xg_iret hC hQ (xm_inc _ rfl) dX8_at_22
  refine xg_iload_n hC dX8_at_4 rfl ?_
  refine xg_aload_n hC dX8_at_5 rfl ?_
  refine xg_getI hC (xm_hK hI rfl) rfl xl_F_X8_15 dX8_at_6 (fun k3 => ?_)
  refine xg_icmp_ge hC h1 k3 21 dX8_at_9 rfl (fun c4 => ?_) (fun c5 => ?_)
  · refine xg_aload_n hC dX8_at_12 rfl ?_
    refine xg_getW hC (b := 3) (xm_hK hI rfl) rfl (xm_wK hI rfl) (by decide) xl_F_X8_9 dX8_at_13 ?_
    refine xg_iload_n hC dX8_at_16 rfl ?_
    refine xg_iald hC (xm_hK hI rfl) rfl h1 dX8_at_17 (fun b6 k7 => ?_)
    refine xg_goto hC 22 dX8_at_18 rfl ?_
    exact xg_iret hC hQ k7 dX8_at_22
  refine xg_iconst hC dX8_at_21 ?_
  exact xg_iret hC hQ (xm_inc _ rfl) dX8_at_22
theorem w_X6_isLetter {Γ : xm_Gm} {I : xm_Mem → Prop} {la : Launch} (hE : I = xm_I) (σ : xm_Mem) (x0 : Int) (h0 : xm_in x0) : ∀ o, f_X6_isLetter σ x0 = some o → xm_M Γ I la yX6_isLetter cX6_isLetter 1 (some .boolean) 1 0 0 [.int (xm_J x0)] σ 2 o := by
  refine xg_enter (by decide) (by simp [lg_sl, xm_rf_cat, xm_cati, xm_catr, xm_catl]) (fun X hG hI0 hla hC hQ hname => ?_)
  subst hG
  have hI := hI0.trans hE
  clear hI0 hla
  unfold f_X6_isLetter
  refine xg_pick [0] (l' := [(0, .int (xm_J x0))]) rfl ?_
  refine xg_iload_n hC dX6_isLetter_0 rfl ?_
  refine xg_bipush hC dX6_isLetter_1 (by decide) ?_
  refine xg_icmp_lt hC h0 (xm_inc _ rfl) 16 dX6_isLetter_3 rfl (fun c1 => ?_) (fun c2 => ?_)
  · refine xg_iconst hC dX6_isLetter_16 ?_
    exact xg_zret hC hQ (by decide) dX6_isLetter_17
  refine xg_iload_n hC dX6_isLetter_6 rfl ?_
  refine xg_bipush hC dX6_isLetter_7 (by decide) ?_
  refine xg_icmp_gt hC h0 (xm_inc _ rfl) 16 dX6_isLetter_9 rfl (fun c3 => ?_) (fun c4 => ?_)
  · refine xg_iconst hC dX6_isLetter_16 ?_
    exact xg_zret hC hQ (by decide) dX6_isLetter_17
  refine xg_iconst hC dX6_isLetter_12 ?_
  refine xg_goto hC 17 dX6_isLetter_13 rfl ?_
  exact xg_zret hC hQ (by decide) dX6_isLetter_17
theorem w_X6_isDigit {Γ : xm_Gm} {I : xm_Mem → Prop} {la : Launch} (hE : I = xm_I) (σ : xm_Mem) (x0 : Int) (h0 : xm_in x0) : ∀ o, f_X6_isDigit σ x0 = some o → xm_M Γ I la yX6_isDigit cX6_isDigit 1 (some .boolean) 1 0 0 [.int (xm_J x0)] σ 2 o := by
  refine xg_enter (by decide) (by simp [lg_sl, xm_rf_cat, xm_cati, xm_catr, xm_catl]) (fun X hG hI0 hla hC hQ hname => ?_)
  subst hG
  have hI := hI0.trans hE
  clear hI0 hla
  unfold f_X6_isDigit
  refine xg_pick [0] (l' := [(0, .int (xm_J x0))]) rfl ?_
  refine xg_iload_n hC dX6_isDigit_0 rfl ?_
  refine xg_bipush hC dX6_isDigit_1 (by decide) ?_
  refine xg_icmp_lt hC h0 (xm_inc _ rfl) 16 dX6_isDigit_3 rfl (fun c1 => ?_) (fun c2 => ?_)
  · refine xg_iconst hC dX6_isDigit_16 ?_
    exact xg_zret hC hQ (by decide) dX6_isDigit_17
  refine xg_iload_n hC dX6_isDigit_6 rfl ?_
  refine xg_bipush hC dX6_isDigit_7 (by decide) ?_
  refine xg_icmp_gt hC h0 (xm_inc _ rfl) 16 dX6_isDigit_9 rfl (fun c3 => ?_) (fun c4 => ?_)
  · refine xg_iconst hC dX6_isDigit_16 ?_
    exact xg_zret hC hQ (by decide) dX6_isDigit_17
  refine xg_iconst hC dX6_isDigit_12 ?_
  refine xg_goto hC 17 dX6_isDigit_13 rfl ?_
  exact xg_zret hC hQ (by decide) dX6_isDigit_17
theorem w_X6_next_b8 {X : xm_X} (hC : xm_C X yX6_next.cls cX6_next 1 2 0 0) (hQ : xm_Rt X 0 none 0 0) (hI : xx_I X = xm_I) {K51 : xm_Mem → Option xm_Out} (hK51 : ∀ (σ : xm_Mem), xm_V X 0 0 (K51 σ ) σ 51 [(0, .ref (xm_ad (xx_G X) 4))] []) {self : xm_Mem → Option xm_Out} (hself : ∀ (σ : xm_Mem), xm_V X 0 0 (self σ ) σ 8 [(0, .ref (xm_ad (xx_G X) 4))] []) (σ : xm_Mem)   : xm_V X 0 0 (f_X6_next_b8 K51 self σ) σ 8 [(0, .ref (xm_ad (xx_G X) 4))] [] := by
  unfold f_X6_next_b8
  refine xg_aload_n hC dX6_next_8 rfl ?_
  refine xg_getI hC (xm_hK hI rfl) rfl xl_F_X6_9 dX6_next_9 (fun k3 => ?_)
  refine xg_aload_n hC dX6_next_12 rfl ?_
  refine xg_getW hC (b := 2) (xm_hK hI rfl) rfl (xm_wK hI rfl) (by decide) xl_F_X6_21 dX6_next_13 ?_
  refine xg_callV hC (ci := 7) (w_X8_size hI σ ) xl_M_X6_47 xl_V_X8_size (xm_hK (a := 2) (kd := 0) (n := 7) hI rfl).2 ((xm_hK (a := 2) (kd := 0) (n := 7) hI rfl).1 _) (by decide) rfl (by decide) ⟨by decide, by decide⟩ dX6_next_16 (rest := [.int (xm_J (σ.1 4 1))]) rfl rfl (Nat.le_of_ble_eq_true rfl) rfl rfl (st2 := fun o => .int (xm_J o.2) :: [.int (xm_J (σ.1 4 1))]) (fun _ => rfl) (fun o4 k5 => ?_)
  refine xg_icmp_ge hC k3 k5 51 dX6_next_19 rfl (fun c6 => ?_) (fun c7 => ?_)
  · refine xg_aload_n hC dX6_next_22 rfl ?_
    refine xg_getW hC (b := 2) (xm_hK hI rfl) rfl (xm_wK hI rfl) (by decide) xl_F_X6_21 dX6_next_23 ?_
    refine xg_aload_n hC dX6_next_26 rfl ?_
    refine xg_getI hC (xm_hK hI rfl) rfl xl_F_X6_9 dX6_next_27 (fun k8 => ?_)
    refine xg_callV hC (ci := 7) (w_X8_at hI o4.1 (o4.1.1 4 1) k8) xl_M_X6_113 xl_V_X8_at (xm_hK (a := 2) (kd := 0) (n := 7) hI rfl).2 ((xm_hK (a := 2) (kd := 0) (n := 7) hI rfl).1 _) (by decide) rfl (by decide) ⟨by decide, by decide⟩ dX6_next_30 (rest := []) rfl rfl (Nat.le_of_ble_eq_true rfl) rfl rfl (st2 := fun o => .int (xm_J o.2) :: []) (fun _ => rfl) (fun o9 k10 => ?_)
    refine xg_bipush hC dX6_next_33 (by decide) ?_
    refine xg_icmp_ne hC k10 (xm_inc _ rfl) 51 dX6_next_35 rfl (fun c11 => ?_) (fun c12 => ?_)
    · refine xg_aload_n hC dX6_next_38 rfl ?_
      refine xg_dup hC dX6_next_39 rfl ?_
      refine xg_getI hC (xm_hK hI rfl) rfl xl_F_X6_9 dX6_next_40 (fun k13 => ?_)
      refine xg_iconst hC dX6_next_43 ?_
      refine xg_iadd hC dX6_next_44 ?_
      refine xg_putI hC (xm_hK hI rfl) rfl rfl (xm_w_in _) (xm_kpK hI rfl) xl_F_X6_9 dX6_next_45 ?_
      refine xg_st (fun σ14 => ?_)
      refine xg_goto hC 8 dX6_next_48 rfl ?_
      exact (hself σ14)
    exact (hK51 o9.1)
  exact (hK51 o4.1)
theorem w_X6_next_l8 {X : xm_X} (hC : xm_C X yX6_next.cls cX6_next 1 2 0 0) (hQ : xm_Rt X 0 none 0 0) (hI : xx_I X = xm_I) {K51 : xm_Mem → Option xm_Out} (hK51 : ∀ (σ : xm_Mem), xm_V X 0 0 (K51 σ ) σ 51 [(0, .ref (xm_ad (xx_G X) 4))] []) (n : Nat) : ∀ (σ : xm_Mem), xm_V X 0 0 (f_X6_next_l8 K51 n σ) σ 8 [(0, .ref (xm_ad (xx_G X) 4))] [] := by
  induction n with
  | zero => intro σ; exact xg_none
  | succ n ih => intro σ; exact w_X6_next_b8 hC hQ hI hK51 ih σ 
theorem w_X6_next_b120 {X : xm_X} (hC : xm_C X yX6_next.cls cX6_next 1 2 0 0) (hQ : xm_Rt X 0 none 0 0) (hI : xx_I X = xm_I)   {self : xm_Mem → Option xm_Out} (hself : ∀ (σ : xm_Mem), xm_V X 0 0 (self σ ) σ 120 [(0, .ref (xm_ad (xx_G X) 4))] []) (σ : xm_Mem)   : xm_V X 0 0 (f_X6_next_b120  self σ) σ 120 [(0, .ref (xm_ad (xx_G X) 4))] [] := by
  unfold f_X6_next_b120
  refine xg_aload_n hC dX6_next_120 rfl ?_
  refine xg_getI hC (xm_hK hI rfl) rfl xl_F_X6_15 dX6_next_121 (fun k25 => ?_)
  refine xg_aload_n hC dX6_next_124 rfl ?_
  refine xg_getW hC (b := 2) (xm_hK hI rfl) rfl (xm_wK hI rfl) (by decide) xl_F_X6_21 dX6_next_125 ?_
  refine xg_callV hC (ci := 7) (w_X8_size hI σ ) xl_M_X6_47 xl_V_X8_size (xm_hK (a := 2) (kd := 0) (n := 7) hI rfl).2 ((xm_hK (a := 2) (kd := 0) (n := 7) hI rfl).1 _) (by decide) rfl (by decide) ⟨by decide, by decide⟩ dX6_next_128 (rest := [.int (xm_J (σ.1 4 2))]) rfl rfl (Nat.le_of_ble_eq_true rfl) rfl rfl (st2 := fun o => .int (xm_J o.2) :: [.int (xm_J (σ.1 4 2))]) (fun _ => rfl) (fun o26 k27 => ?_)
  refine xg_icmp_ge hC k25 k27 164 dX6_next_131 rfl (fun c28 => ?_) (fun c29 => ?_)
  · refine xg_aload_n hC dX6_next_134 rfl ?_
    refine xg_getW hC (b := 2) (xm_hK hI rfl) rfl (xm_wK hI rfl) (by decide) xl_F_X6_21 dX6_next_135 ?_
    refine xg_aload_n hC dX6_next_138 rfl ?_
    refine xg_getI hC (xm_hK hI rfl) rfl xl_F_X6_15 dX6_next_139 (fun k30 => ?_)
    refine xg_callV hC (ci := 7) (w_X8_at hI o26.1 (o26.1.1 4 2) k30) xl_M_X6_113 xl_V_X8_at (xm_hK (a := 2) (kd := 0) (n := 7) hI rfl).2 ((xm_hK (a := 2) (kd := 0) (n := 7) hI rfl).1 _) (by decide) rfl (by decide) ⟨by decide, by decide⟩ dX6_next_142 (rest := []) rfl rfl (Nat.le_of_ble_eq_true rfl) rfl rfl (st2 := fun o => .int (xm_J o.2) :: []) (fun _ => rfl) (fun o31 k32 => ?_)
    refine xg_callS hC (w_X6_isDigit hI o31.1 o31.2 k32) xl_M_X6_117 xl_S_X6_isDigit (by decide) ⟨by decide, by decide⟩ dX6_next_145 (rest := []) rfl rfl (Nat.le_of_ble_eq_true rfl) rfl rfl (st2 := fun o => .int (xm_J o.2) :: []) (fun _ => rfl) (fun o33 k34 => ?_)
    refine xg_if_eq hC (xm_in01 k34) 164 dX6_next_148 rfl (fun c35 => ?_) (fun c36 => ?_)
    · exact xg_vret hC hQ dX6_next_164
    refine xg_aload_n hC dX6_next_151 rfl ?_
    refine xg_dup hC dX6_next_152 rfl ?_
    refine xg_getI hC (xm_hK hI rfl) rfl xl_F_X6_15 dX6_next_153 (fun k37 => ?_)
    refine xg_iconst hC dX6_next_156 ?_
    refine xg_iadd hC dX6_next_157 ?_
    refine xg_putI hC (xm_hK hI rfl) rfl rfl (xm_w_in _) (xm_kpK hI rfl) xl_F_X6_15 dX6_next_158 ?_
    refine xg_st (fun σ38 => ?_)
    refine xg_goto hC 120 dX6_next_161 rfl ?_
    exact (hself σ38)
  exact xg_vret hC hQ dX6_next_164
theorem w_X6_next_l120 {X : xm_X} (hC : xm_C X yX6_next.cls cX6_next 1 2 0 0) (hQ : xm_Rt X 0 none 0 0) (hI : xx_I X = xm_I)   (n : Nat) : ∀ (σ : xm_Mem), xm_V X 0 0 (f_X6_next_l120  n σ) σ 120 [(0, .ref (xm_ad (xx_G X) 4))] [] := by
  induction n with
  | zero => intro σ; exact xg_none
  | succ n ih => intro σ; exact w_X6_next_b120 hC hQ hI ih σ 
theorem w_X6_next_b76 {X : xm_X} (hC : xm_C X yX6_next.cls cX6_next 1 2 0 0) (hQ : xm_Rt X 0 none 0 0) (hI : xx_I X = xm_I)   {self : xm_Mem → Option xm_Out} (hself : ∀ (σ : xm_Mem), xm_V X 0 0 (self σ ) σ 76 [(0, .ref (xm_ad (xx_G X) 4))] []) (σ : xm_Mem)   : xm_V X 0 0 (f_X6_next_b76  self σ) σ 76 [(0, .ref (xm_ad (xx_G X) 4))] [] := by
  unfold f_X6_next_b76
  refine xg_aload_n hC dX6_next_76 rfl ?_
  refine xg_getI hC (xm_hK hI rfl) rfl xl_F_X6_15 dX6_next_77 (fun k39 => ?_)
  refine xg_aload_n hC dX6_next_80 rfl ?_
  refine xg_getW hC (b := 2) (xm_hK hI rfl) rfl (xm_wK hI rfl) (by decide) xl_F_X6_21 dX6_next_81 ?_
  refine xg_callV hC (ci := 7) (w_X8_size hI σ ) xl_M_X6_47 xl_V_X8_size (xm_hK (a := 2) (kd := 0) (n := 7) hI rfl).2 ((xm_hK (a := 2) (kd := 0) (n := 7) hI rfl).1 _) (by decide) rfl (by decide) ⟨by decide, by decide⟩ dX6_next_84 (rest := [.int (xm_J (σ.1 4 2))]) rfl rfl (Nat.le_of_ble_eq_true rfl) rfl rfl (st2 := fun o => .int (xm_J o.2) :: [.int (xm_J (σ.1 4 2))]) (fun _ => rfl) (fun o40 k41 => ?_)
  refine xg_icmp_ge hC k39 k41 164 dX6_next_87 rfl (fun c42 => ?_) (fun c43 => ?_)
  · refine xg_aload_n hC dX6_next_90 rfl ?_
    refine xg_getW hC (b := 2) (xm_hK hI rfl) rfl (xm_wK hI rfl) (by decide) xl_F_X6_21 dX6_next_91 ?_
    refine xg_aload_n hC dX6_next_94 rfl ?_
    refine xg_getI hC (xm_hK hI rfl) rfl xl_F_X6_15 dX6_next_95 (fun k44 => ?_)
    refine xg_callV hC (ci := 7) (w_X8_at hI o40.1 (o40.1.1 4 2) k44) xl_M_X6_113 xl_V_X8_at (xm_hK (a := 2) (kd := 0) (n := 7) hI rfl).2 ((xm_hK (a := 2) (kd := 0) (n := 7) hI rfl).1 _) (by decide) rfl (by decide) ⟨by decide, by decide⟩ dX6_next_98 (rest := []) rfl rfl (Nat.le_of_ble_eq_true rfl) rfl rfl (st2 := fun o => .int (xm_J o.2) :: []) (fun _ => rfl) (fun o45 k46 => ?_)
    refine xg_callS hC (w_X6_isLetter hI o45.1 o45.2 k46) xl_M_X6_121 xl_S_X6_isLetter (by decide) ⟨by decide, by decide⟩ dX6_next_101 (rest := []) rfl rfl (Nat.le_of_ble_eq_true rfl) rfl rfl (st2 := fun o => .int (xm_J o.2) :: []) (fun _ => rfl) (fun o47 k48 => ?_)
    refine xg_if_eq hC (xm_in01 k48) 164 dX6_next_104 rfl (fun c49 => ?_) (fun c50 => ?_)
    · exact xg_vret hC hQ dX6_next_164
    refine xg_aload_n hC dX6_next_107 rfl ?_
    refine xg_dup hC dX6_next_108 rfl ?_
    refine xg_getI hC (xm_hK hI rfl) rfl xl_F_X6_15 dX6_next_109 (fun k51 => ?_)
    refine xg_iconst hC dX6_next_112 ?_
    refine xg_iadd hC dX6_next_113 ?_
    refine xg_putI hC (xm_hK hI rfl) rfl rfl (xm_w_in _) (xm_kpK hI rfl) xl_F_X6_15 dX6_next_114 ?_
    refine xg_st (fun σ52 => ?_)
    refine xg_goto hC 76 dX6_next_117 rfl ?_
    exact (hself σ52)
  exact xg_vret hC hQ dX6_next_164
theorem w_X6_next_l76 {X : xm_X} (hC : xm_C X yX6_next.cls cX6_next 1 2 0 0) (hQ : xm_Rt X 0 none 0 0) (hI : xx_I X = xm_I)   (n : Nat) : ∀ (σ : xm_Mem), xm_V X 0 0 (f_X6_next_l76  n σ) σ 76 [(0, .ref (xm_ad (xx_G X) 4))] [] := by
  induction n with
  | zero => intro σ; exact xg_none
  | succ n ih => intro σ; exact w_X6_next_b76 hC hQ hI ih σ 
theorem w_X6_next {Γ : xm_Gm} {I : xm_Mem → Prop} {la : Launch} (hE : I = xm_I) (σ : xm_Mem)   : ∀ o, f_X6_next σ  = some o → xm_M Γ I la yX6_next cX6_next 1 none 2 0 0 [.ref (xm_ad Γ 4)] σ 0 o := by
  refine xg_enter (by decide) (by simp [lg_sl, xm_rf_cat, xm_cati, xm_catr, xm_catl]) (fun X hG hI0 hla hC hQ hname => ?_)
  subst hG
  have hI := hI0.trans hE
  clear hI0 hla
  unfold f_X6_next
  refine xg_pick [0] (l' := [(0, .ref (xm_ad (xx_G X) 4))]) rfl ?_
  refine xg_aload_n hC dX6_next_0 rfl ?_
  refine xg_aload_n hC dX6_next_1 rfl ?_
  refine xg_getI hC (xm_hK hI rfl) rfl xl_F_X6_15 dX6_next_2 (fun k1 => ?_)
  refine xg_putI hC (xm_hK hI rfl) rfl rfl k1 (xm_kpK hI rfl) xl_F_X6_9 dX6_next_5 ?_
  refine xg_st (fun σ2 => ?_)
  refine (w_X6_next_l8 hC hQ hI ?_ _ σ2)
  intro σ_15
  refine xg_aload_n hC dX6_next_51 rfl ?_
  refine xg_aload_n hC dX6_next_52 rfl ?_
  refine xg_getI hC (xm_hK hI rfl) rfl xl_F_X6_9 dX6_next_53 (fun k16 => ?_)
  refine xg_putI hC (xm_hK hI rfl) rfl rfl k16 (xm_kpK hI rfl) xl_F_X6_15 dX6_next_56 ?_
  refine xg_st (fun σ17 => ?_)
  refine xg_aload_n hC dX6_next_59 rfl ?_
  refine xg_getW hC (b := 2) (xm_hK hI rfl) rfl (xm_wK hI rfl) (by decide) xl_F_X6_21 dX6_next_60 ?_
  refine xg_aload_n hC dX6_next_63 rfl ?_
  refine xg_getI hC (xm_hK hI rfl) rfl xl_F_X6_9 dX6_next_64 (fun k18 => ?_)
  refine xg_callV hC (ci := 7) (w_X8_at hI σ17 (σ17.1 4 1) k18) xl_M_X6_113 xl_V_X8_at (xm_hK (a := 2) (kd := 0) (n := 7) hI rfl).2 ((xm_hK (a := 2) (kd := 0) (n := 7) hI rfl).1 _) (by decide) rfl (by decide) ⟨by decide, by decide⟩ dX6_next_67 (rest := []) rfl rfl (Nat.le_of_ble_eq_true rfl) rfl rfl (st2 := fun o => .int (xm_J o.2) :: []) (fun _ => rfl) (fun o19 k20 => ?_)
  refine xg_callS hC (w_X6_isLetter hI o19.1 o19.2 k20) xl_M_X6_121 xl_S_X6_isLetter (by decide) ⟨by decide, by decide⟩ dX6_next_70 (rest := []) rfl rfl (Nat.le_of_ble_eq_true rfl) rfl rfl (st2 := fun o => .int (xm_J o.2) :: []) (fun _ => rfl) (fun o21 k22 => ?_)
  refine xg_if_eq hC (xm_in01 k22) 120 dX6_next_73 rfl (fun c23 => ?_) (fun c24 => ?_)
  · exact (w_X6_next_l120 hC hQ hI _ o21.1)
  exact (w_X6_next_l76 hC hQ hI _ o21.1)
theorem w_X6_kindWord {Γ : xm_Gm} {I : xm_Mem → Prop} {la : Launch} (hE : I = xm_I) (σ : xm_Mem) (x0 : Int) (h0 : xm_in x0) : ∀ o, f_X6_kindWord σ x0 = some o → xm_M Γ I la yX6_kindWord cX6_kindWord 1 (some (.object "java/lang/String")) 1 0 0 [.int (xm_J x0)] σ 5 o := by
  refine xg_enter (by decide) (by simp [lg_sl, xm_rf_cat, xm_cati, xm_catr, xm_catl]) (fun X hG hI0 hla hC hQ hname => ?_)
  subst hG
  have hI := hI0.trans hE
  clear hI0 hla
  unfold f_X6_kindWord
  refine xg_pick [0] (l' := [(0, .int (xm_J x0))]) rfl ?_
  refine xg_iload_n hC dX6_kindWord_0 rfl ?_
  refine xg_ite (fun e1 => xg_tswIn hC 0 48 e1 dX6_kindWord_1 (xm_inc _ rfl) (by decide) (by decide) rfl rfl ?_) (fun n2 => ?_)
  · refine xg_ldcS hC (i := 133) (id := 0) (by decide) dX6_kindWord_48 ?_
    exact xg_sret hC hQ (v := (0 : Int)) (by decide) dX6_kindWord_50
  refine xg_ite (fun e3 => xg_tswIn hC 1 51 e3 dX6_kindWord_1 (xm_inc _ rfl) (by decide) (by decide) rfl rfl ?_) (fun n4 => ?_)
  · refine xg_ldcS hC (i := 135) (id := 1) (by decide) dX6_kindWord_51 ?_
    exact xg_sret hC hQ (v := (1 : Int)) (by decide) dX6_kindWord_53
  refine xg_ite (fun e5 => xg_tswIn hC 2 54 e5 dX6_kindWord_1 (xm_inc _ rfl) (by decide) (by decide) rfl rfl ?_) (fun n6 => ?_)
  · refine xg_ldcS hC (i := 137) (id := 2) (by decide) dX6_kindWord_54 ?_
    exact xg_sret hC hQ (v := (2 : Int)) (by decide) dX6_kindWord_56
  refine xg_ite (fun e7 => xg_tswIn hC 3 57 e7 dX6_kindWord_1 (xm_inc _ rfl) (by decide) (by decide) rfl rfl ?_) (fun n8 => ?_)
  · refine xg_ldcS hC (i := 139) (id := 3) (by decide) dX6_kindWord_57 ?_
    exact xg_sret hC hQ (v := (3 : Int)) (by decide) dX6_kindWord_59
  refine xg_ite (fun e9 => xg_tswIn hC 4 60 e9 dX6_kindWord_1 (xm_inc _ rfl) (by decide) (by decide) rfl rfl ?_) (fun n10 => ?_)
  · refine xg_ldcS hC (i := 141) (id := 4) (by decide) dX6_kindWord_60 ?_
    exact xg_sret hC hQ (v := (4 : Int)) (by decide) dX6_kindWord_62
  refine xg_ite (fun e11 => xg_tswIn hC 5 63 e11 dX6_kindWord_1 (xm_inc _ rfl) (by decide) (by decide) rfl rfl ?_) (fun n12 => ?_)
  · refine xg_ldcS hC (i := 142) (id := 5) (by decide) dX6_kindWord_63 ?_
    exact xg_sret hC hQ (v := (5 : Int)) (by decide) dX6_kindWord_65
  refine xg_ite (fun e13 => xg_tswIn hC 6 66 e13 dX6_kindWord_1 (xm_inc _ rfl) (by decide) (by decide) rfl rfl ?_) (fun n14 => ?_)
  · refine xg_ldcS hC (i := 144) (id := 6) (by decide) dX6_kindWord_66 ?_
    exact xg_sret hC hQ (v := (6 : Int)) (by decide) dX6_kindWord_68
  refine xg_ite (fun e15 => xg_tswIn hC 7 69 e15 dX6_kindWord_1 (xm_inc _ rfl) (by decide) (by decide) rfl rfl ?_) (fun n16 => ?_)
  · refine xg_ldcS hC (i := 146) (id := 7) (by decide) dX6_kindWord_69 ?_
    exact xg_sret hC hQ (v := (7 : Int)) (by decide) dX6_kindWord_71
  refine xg_tswOut hC 72 dX6_kindWord_1 h0 (by omega) rfl ?_
  refine xg_ldcS hC (i := 148) (id := 8) (by decide) dX6_kindWord_72 ?_
  exact xg_sret hC hQ (v := (8 : Int)) (by decide) dX6_kindWord_74
theorem w_X6_isWord_b20 {X : xm_X} (hC : xm_C X yX6_isWord.cls cX6_isWord 3 5 0 0) (hQ : xm_Rt X 2 (some .boolean) 0 0) (hI : xx_I X = xm_I)   {self : xm_Mem → Int → Int → Option xm_Out} (hself : ∀ (σ : xm_Mem) (x1 : Int) (x2 : Int), 0 ≤ x1 ∧ x1 < 24 → xm_in x2 → xm_V X 0 0 (self σ x1 x2) σ 20 [(0, .ref (xm_ad (xx_G X) 4)), (1, .ref (xm_adK (xx_G X) x1.toNat)), (2, .int (xm_J x2))] []) (σ : xm_Mem) (x1 : Int) (x2 : Int) (h1 : 0 ≤ x1 ∧ x1 < 24) (h2 : xm_in x2) : xm_V X 0 0 (f_X6_isWord_b20  self σ x1 x2) σ 20 [(0, .ref (xm_ad (xx_G X) 4)), (1, .ref (xm_adK (xx_G X) x1.toNat)), (2, .int (xm_J x2))] [] := by
  unfold f_X6_isWord_b20
  refine xg_iload_n hC dX6_isWord_20 rfl ?_
  refine xg_aload_n hC dX6_isWord_21 rfl ?_
  refine xg_callT hC mj_length xl_M_X6_124 xl_V_J0_length_8abf5 (xm_s22 h1) rfl (by decide) ⟨by decide, by decide⟩ dX6_isWord_22 (rest := [.int (xm_J x2)]) rfl rfl (Nat.le_of_ble_eq_true rfl) rfl rfl (st2 := fun o => .int (xm_J o.2) :: [.int (xm_J x2)]) (fun _ => rfl) (fun o7 k8 => ?_)
  refine xg_icmp_ge hC h2 k8 57 dX6_isWord_25 rfl (fun c9 => ?_) (fun c10 => ?_)
  · refine xg_aload_n hC dX6_isWord_28 rfl ?_
    refine xg_getW hC (b := 2) (xm_hK hI rfl) rfl (xm_wK hI rfl) (by decide) xl_F_X6_21 dX6_isWord_29 ?_
    refine xg_aload_n hC dX6_isWord_32 rfl ?_
    refine xg_getI hC (xm_hK hI rfl) rfl xl_F_X6_9 dX6_isWord_33 (fun k11 => ?_)
    refine xg_iload_n hC dX6_isWord_36 rfl ?_
    refine xg_iadd hC dX6_isWord_37 ?_
    refine xg_callV hC (ci := 7) (w_X8_at hI o7.1 (xm_w ((o7.1.1 4 1) + x2)) (xm_w_in _)) xl_M_X6_113 xl_V_X8_at (xm_hK (a := 2) (kd := 0) (n := 7) hI rfl).2 ((xm_hK (a := 2) (kd := 0) (n := 7) hI rfl).1 _) (by decide) rfl (by decide) ⟨by decide, by decide⟩ dX6_isWord_38 (rest := []) rfl rfl (Nat.le_of_ble_eq_true rfl) rfl rfl (st2 := fun o => .int (xm_J o.2) :: []) (fun _ => rfl) (fun o12 k13 => ?_)
    refine xg_aload_n hC dX6_isWord_41 rfl ?_
    refine xg_iload_n hC dX6_isWord_42 rfl ?_
    refine xg_callT hC (mj_charAt h2) xl_M_X6_129 xl_V_J0_charAt_5068e (xm_s22 h1) rfl (by decide) ⟨by decide, by decide⟩ dX6_isWord_43 (rest := [.int (xm_J o12.2)]) rfl rfl (Nat.le_of_ble_eq_true rfl) rfl rfl (st2 := fun o => .int (xm_J o.2) :: [.int (xm_J o12.2)]) (fun _ => rfl) (fun o14 k15 => ?_)
    refine xg_icmp_eq hC k13 k15 51 dX6_isWord_46 rfl (fun c16 => ?_) (fun c17 => ?_)
    · refine xg_iinc hC (l' := [(2, .int (xm_J (xm_w (x2 + 1)))), (0, .ref (xm_ad (xx_G X) 4)), (1, .ref (xm_adK (xx_G X) x1.toNat))]) dX6_isWord_51 (by decide) 2 rfl rfl ?_
      refine xg_goto hC 20 dX6_isWord_54 rfl ?_
      exact xg_pick [1, 2, 0] rfl (hself o14.1 x1 (xm_w (x2 + 1)) h1 (xm_w_in _))
    refine xg_iconst hC dX6_isWord_49 ?_
    exact xg_zret hC hQ (by decide) dX6_isWord_50
  refine xg_iconst hC dX6_isWord_57 ?_
  exact xg_zret hC hQ (by decide) dX6_isWord_58
theorem w_X6_isWord_l20 {X : xm_X} (hC : xm_C X yX6_isWord.cls cX6_isWord 3 5 0 0) (hQ : xm_Rt X 2 (some .boolean) 0 0) (hI : xx_I X = xm_I)   (n : Nat) : ∀ (σ : xm_Mem) (x1 : Int) (x2 : Int), 0 ≤ x1 ∧ x1 < 24 → xm_in x2 → xm_V X 0 0 (f_X6_isWord_l20  n σ x1 x2) σ 20 [(0, .ref (xm_ad (xx_G X) 4)), (1, .ref (xm_adK (xx_G X) x1.toNat)), (2, .int (xm_J x2))] [] := by
  induction n with
  | zero => intro σ x1 x2 h1 h2; exact xg_none
  | succ n ih => intro σ x1 x2 h1 h2; exact w_X6_isWord_b20 hC hQ hI ih σ x1 x2 h1 h2
theorem w_X6_isWord {Γ : xm_Gm} {I : xm_Mem → Prop} {la : Launch} (hE : I = xm_I) (σ : xm_Mem) (x1 : Int) (h1 : 0 ≤ x1 ∧ x1 < 24) : ∀ o, f_X6_isWord σ x1 = some o → xm_M Γ I la yX6_isWord cX6_isWord 3 (some .boolean) 5 0 0 [.ref (xm_ad Γ 4), .ref (xm_adK Γ x1.toNat)] σ 2 o := by
  refine xg_enter (by decide) (by simp [lg_sl, xm_rf_cat, xm_cati, xm_catr, xm_catl]) (fun X hG hI0 hla hC hQ hname => ?_)
  subst hG
  have hI := hI0.trans hE
  clear hI0 hla
  unfold f_X6_isWord
  refine xg_pick [0, 1] (l' := [(0, .ref (xm_ad (xx_G X) 4)), (1, .ref (xm_adK (xx_G X) x1.toNat))]) rfl ?_
  refine xg_aload_n hC dX6_isWord_0 rfl ?_
  refine xg_getI hC (xm_hK hI rfl) rfl xl_F_X6_15 dX6_isWord_1 (fun k1 => ?_)
  refine xg_aload_n hC dX6_isWord_4 rfl ?_
  refine xg_getI hC (xm_hK hI rfl) rfl xl_F_X6_9 dX6_isWord_5 (fun k2 => ?_)
  refine xg_isub hC dX6_isWord_8 ?_
  refine xg_aload_n hC dX6_isWord_9 rfl ?_
  refine xg_callT hC mj_length xl_M_X6_124 xl_V_J0_length_8abf5 (xm_s22 h1) rfl (by decide) ⟨by decide, by decide⟩ dX6_isWord_10 (rest := [.int (xm_J (xm_w ((σ.1 4 2) - (σ.1 4 1))))]) rfl rfl (Nat.le_of_ble_eq_true rfl) rfl rfl (st2 := fun o => .int (xm_J o.2) :: [.int (xm_J (xm_w ((σ.1 4 2) - (σ.1 4 1))))]) (fun _ => rfl) (fun o3 k4 => ?_)
  refine xg_icmp_eq hC (xm_w_in _) k4 18 dX6_isWord_13 rfl (fun c5 => ?_) (fun c6 => ?_)
  · refine xg_iconst hC dX6_isWord_18 ?_
    refine xg_istore_n hC (l' := [(2, .int (xm_J (0 : Int))), (0, .ref (xm_ad (xx_G X) 4)), (1, .ref (xm_adK (xx_G X) x1.toNat))]) dX6_isWord_19 (by decide) rfl ?_
    exact xg_pick [1, 2, 0] rfl (w_X6_isWord_l20 hC hQ hI _ o3.1 x1 (0 : Int) h1 (xm_inc _ rfl))
  refine xg_iconst hC dX6_isWord_16 ?_
  exact xg_zret hC hQ (by decide) dX6_isWord_17
theorem w_X6_fail {Γ : xm_Gm} {I : xm_Mem → Prop} {la : Launch} (hE : I = xm_I) (σ : xm_Mem)   : ∀ o, f_X6_fail σ  = some o → xm_M Γ I la yX6_fail cX6_fail 1 none 1 0 0 [.ref (xm_ad Γ 4)] σ 0 o := by
  refine xg_enter (by decide) (by simp [lg_sl, xm_rf_cat, xm_cati, xm_catr, xm_catl]) (fun X hG hI0 hla hC hQ hname => ?_)
  subst hG
  have hI := hI0.trans hE
  clear hI0 hla
  unfold f_X6_fail
  refine xg_pick [0] (l' := [(0, .ref (xm_ad (xx_G X) 4))]) rfl ?_
  refine xg_aload_n hC dX6_fail_0 rfl ?_
  refine xg_getI hC (xm_hK hI rfl) rfl xl_F_X6_18 dX6_fail_1 (fun k1 => ?_)
  refine xg_bipush hC dX6_fail_4 (by decide) ?_
  refine xg_icmp_ne hC k1 (xm_inc _ rfl) 17 dX6_fail_6 rfl (fun c2 => ?_) (fun c3 => ?_)
  · refine xg_aload_n hC dX6_fail_9 rfl ?_
    refine xg_aload_n hC dX6_fail_10 rfl ?_
    refine xg_getI hC (xm_hK hI rfl) rfl xl_F_X6_9 dX6_fail_11 (fun k4 => ?_)
    refine xg_putI hC (xm_hK hI rfl) rfl rfl k4 (xm_kpK hI rfl) xl_F_X6_18 dX6_fail_14 ?_
    refine xg_st (fun σ5 => ?_)
    exact xg_vret hC hQ dX6_fail_17
  exact xg_vret hC hQ dX6_fail_17
theorem w_X6_takeKind_b6 {X : xm_X} (hC : xm_C X yX6_takeKind.cls cX6_takeKind 2 6 0 0) (hQ : xm_Rt X 1 (some .int) 0 0) (hI : xx_I X = xm_I) {K31 : xm_Mem → Option xm_Out} (hK31 : ∀ (σ : xm_Mem), xm_V X 0 0 (K31 σ ) σ 31 [(0, .ref (xm_ad (xx_G X) 4))] []) {self : xm_Mem → Int → Option xm_Out} (hself : ∀ (σ : xm_Mem) (x1 : Int), xm_in x1 → xm_V X 0 0 (self σ x1) σ 6 [(0, .ref (xm_ad (xx_G X) 4)), (1, .int (xm_J x1))] []) (σ : xm_Mem) (x1 : Int) (h1 : xm_in x1) : xm_V X 0 0 (f_X6_takeKind_b6 K31 self σ x1) σ 6 [(0, .ref (xm_ad (xx_G X) 4)), (1, .int (xm_J x1))] [] := by
  unfold f_X6_takeKind_b6
  refine xg_iload_n hC dX6_takeKind_6 rfl ?_
  refine xg_bipush hC dX6_takeKind_7 (by decide) ?_
  refine xg_icmp_ge hC h1 (xm_inc _ rfl) 31 dX6_takeKind_9 rfl (fun c3 => ?_) (fun c4 => ?_)
  · refine xg_aload_n hC dX6_takeKind_12 rfl ?_
    refine xg_iload_n hC dX6_takeKind_13 rfl ?_
    refine xg_callS hC (w_X6_kindWord hI σ x1 h1) xl_M_X6_101 xl_S_X6_kindWord (by decide) ⟨by decide, by decide⟩ dX6_takeKind_14 (rest := [.ref (xm_ad (xx_G X) 4)]) rfl rfl (Nat.le_of_ble_eq_true rfl) rfl rfl (st2 := fun o => .ref (xm_adK (xx_G X) o.2.toNat) :: [.ref (xm_ad (xx_G X) 4)]) (fun _ => rfl) (fun o5 k6 => ?_)
    refine xg_callV hC (ci := 5) (w_X6_isWord hI o5.1 o5.2 k6) xl_M_X6_75 xl_V_X6_isWord (xm_hK (a := 4) (kd := 0) (n := 5) hI rfl).2 ((xm_hK (a := 4) (kd := 0) (n := 5) hI rfl).1 _) (by decide) rfl (by decide) ⟨by decide, by decide⟩ dX6_takeKind_17 (rest := []) rfl rfl (Nat.le_of_ble_eq_true rfl) rfl rfl (st2 := fun o => .int (xm_J o.2) :: []) (fun _ => rfl) (fun o7 k8 => ?_)
    refine xg_if_eq hC (xm_in01 k8) 25 dX6_takeKind_20 rfl (fun c9 => ?_) (fun c10 => ?_)
    · refine xg_iinc hC (l' := [(1, .int (xm_J (xm_w (x1 + 1)))), (0, .ref (xm_ad (xx_G X) 4))]) dX6_takeKind_25 (by decide) 1 rfl rfl ?_
      refine xg_goto hC 6 dX6_takeKind_28 rfl ?_
      exact xg_pick [1, 0] rfl (hself o7.1 (xm_w (x1 + 1)) (xm_w_in _))
    refine xg_iload_n hC dX6_takeKind_23 rfl ?_
    exact xg_iret hC hQ h1 dX6_takeKind_24
  exact xg_pick [0] rfl (hK31 σ)
theorem w_X6_takeKind_l6 {X : xm_X} (hC : xm_C X yX6_takeKind.cls cX6_takeKind 2 6 0 0) (hQ : xm_Rt X 1 (some .int) 0 0) (hI : xx_I X = xm_I) {K31 : xm_Mem → Option xm_Out} (hK31 : ∀ (σ : xm_Mem), xm_V X 0 0 (K31 σ ) σ 31 [(0, .ref (xm_ad (xx_G X) 4))] []) (n : Nat) : ∀ (σ : xm_Mem) (x1 : Int), xm_in x1 → xm_V X 0 0 (f_X6_takeKind_l6 K31 n σ x1) σ 6 [(0, .ref (xm_ad (xx_G X) 4)), (1, .int (xm_J x1))] [] := by
  induction n with
  | zero => intro σ x1 h1; exact xg_none
  | succ n ih => intro σ x1 h1; exact w_X6_takeKind_b6 hC hQ hI hK31 ih σ x1 h1
theorem w_X6_takeKind {Γ : xm_Gm} {I : xm_Mem → Prop} {la : Launch} (hE : I = xm_I) (σ : xm_Mem)   : ∀ o, f_X6_takeKind σ  = some o → xm_M Γ I la yX6_takeKind cX6_takeKind 2 (some .int) 6 0 0 [.ref (xm_ad Γ 4)] σ 1 o := by
  refine xg_enter (by decide) (by simp [lg_sl, xm_rf_cat, xm_cati, xm_catr, xm_catl]) (fun X hG hI0 hla hC hQ hname => ?_)
  subst hG
  have hI := hI0.trans hE
  clear hI0 hla
  unfold f_X6_takeKind
  refine xg_pick [0] (l' := [(0, .ref (xm_ad (xx_G X) 4))]) rfl ?_
  refine xg_aload_n hC dX6_takeKind_0 rfl ?_
  refine xg_callV hC (ci := 5) (w_X6_next hI σ ) xl_M_X6_44 xl_V_X6_next (xm_hK (a := 4) (kd := 0) (n := 5) hI rfl).2 ((xm_hK (a := 4) (kd := 0) (n := 5) hI rfl).1 _) (by decide) rfl (by decide) ⟨by decide, by decide⟩ dX6_takeKind_1 (rest := []) rfl rfl (Nat.le_of_ble_eq_true rfl) rfl rfl (st2 := fun o => []) (fun _ => rfl) (fun o1 k2 => ?_)
  refine xg_iconst hC dX6_takeKind_4 ?_
  refine xg_istore_n hC (l' := [(1, .int (xm_J (0 : Int))), (0, .ref (xm_ad (xx_G X) 4))]) dX6_takeKind_5 (by decide) rfl ?_
  refine xg_pick [1, 0] rfl (w_X6_takeKind_l6 hC hQ hI ?_ _ o1.1 (0 : Int) (xm_inc _ rfl))
  intro σ_11
  refine xg_aload_n hC dX6_takeKind_31 rfl ?_
  refine xg_callV hC (ci := 5) (w_X6_fail hI σ_11 ) xl_M_X6_52 xl_V_X6_fail (xm_hK (a := 4) (kd := 0) (n := 5) hI rfl).2 ((xm_hK (a := 4) (kd := 0) (n := 5) hI rfl).1 _) (by decide) rfl (by decide) ⟨by decide, by decide⟩ dX6_takeKind_32 (rest := []) rfl rfl (Nat.le_of_ble_eq_true rfl) rfl rfl (st2 := fun o => []) (fun _ => rfl) (fun o12 k13 => ?_)
  refine xg_iconst hC dX6_takeKind_35 ?_
  exact xg_iret hC hQ (xm_inc _ rfl) dX6_takeKind_36
theorem w_X6_numberAtHand_b45 {X : xm_X} (hC : xm_C X yX6_numberAtHand.cls cX6_numberAtHand 4 2 0 0) (hQ : xm_Rt X 1 (some .int) 0 0) (hI : xx_I X = xm_I)   {self : xm_Mem → Int → Int → Option xm_Out} (hself : ∀ (σ : xm_Mem) (x2 : Int) (x3 : Int), xm_in x2 → xm_in x3 → xm_V X 0 0 (self σ x2 x3) σ 45 [(0, .ref (xm_ad (xx_G X) 4)), (2, .int (xm_J x2)), (3, .int (xm_J x3))] []) (σ : xm_Mem) (x2 : Int) (x3 : Int) (h2 : xm_in x2) (h3 : xm_in x3) : xm_V X 0 0 (f_X6_numberAtHand_b45  self σ x2 x3) σ 45 [(0, .ref (xm_ad (xx_G X) 4)), (2, .int (xm_J x2)), (3, .int (xm_J x3))] [] := by
  unfold f_X6_numberAtHand_b45
  refine xg_iload_n hC dX6_numberAtHand_45 rfl ?_
  refine xg_aload_n hC dX6_numberAtHand_46 rfl ?_
  refine xg_getI hC (xm_hK hI rfl) rfl xl_F_X6_15 dX6_numberAtHand_47 (fun k21 => ?_)
  refine xg_icmp_ge hC h3 k21 76 dX6_numberAtHand_50 rfl (fun c22 => ?_) (fun c23 => ?_)
  · refine xg_bipush hC dX6_numberAtHand_53 (by decide) ?_
    refine xg_iload_n hC dX6_numberAtHand_55 rfl ?_
    refine xg_imul hC dX6_numberAtHand_56 ?_
    refine xg_aload_n hC dX6_numberAtHand_57 rfl ?_
    refine xg_getW hC (b := 2) (xm_hK hI rfl) rfl (xm_wK hI rfl) (by decide) xl_F_X6_21 dX6_numberAtHand_58 ?_
    refine xg_iload_n hC dX6_numberAtHand_61 rfl ?_
    refine xg_callV hC (ci := 7) (w_X8_at hI σ x3 h3) xl_M_X6_113 xl_V_X8_at (xm_hK (a := 2) (kd := 0) (n := 7) hI rfl).2 ((xm_hK (a := 2) (kd := 0) (n := 7) hI rfl).1 _) (by decide) rfl (by decide) ⟨by decide, by decide⟩ dX6_numberAtHand_62 (rest := [.int (xm_J (xm_w ((10 : Int) * x2)))]) rfl rfl (Nat.le_of_ble_eq_true rfl) rfl rfl (st2 := fun o => .int (xm_J o.2) :: [.int (xm_J (xm_w ((10 : Int) * x2)))]) (fun _ => rfl) (fun o24 k25 => ?_)
    refine xg_iadd hC dX6_numberAtHand_65 ?_
    refine xg_bipush hC dX6_numberAtHand_66 (by decide) ?_
    refine xg_isub hC dX6_numberAtHand_68 ?_
    refine xg_vI (xm_w_in _) (fun v26 k27 => ?_)
    refine xg_istore_n hC (l' := [(2, .int (xm_J v26)), (0, .ref (xm_ad (xx_G X) 4)), (3, .int (xm_J x3))]) dX6_numberAtHand_69 (by decide) rfl ?_
    refine xg_iinc hC (l' := [(3, .int (xm_J (xm_w (x3 + 1)))), (2, .int (xm_J v26)), (0, .ref (xm_ad (xx_G X) 4))]) dX6_numberAtHand_70 (by decide) 2 rfl rfl ?_
    refine xg_goto hC 45 dX6_numberAtHand_73 rfl ?_
    exact xg_pick [2, 1, 0] rfl (hself o24.1 v26 (xm_w (x3 + 1)) k27 (xm_w_in _))
  refine xg_iload_n hC dX6_numberAtHand_76 rfl ?_
  exact xg_iret hC hQ h2 dX6_numberAtHand_77
theorem w_X6_numberAtHand_l45 {X : xm_X} (hC : xm_C X yX6_numberAtHand.cls cX6_numberAtHand 4 2 0 0) (hQ : xm_Rt X 1 (some .int) 0 0) (hI : xx_I X = xm_I)   (n : Nat) : ∀ (σ : xm_Mem) (x2 : Int) (x3 : Int), xm_in x2 → xm_in x3 → xm_V X 0 0 (f_X6_numberAtHand_l45  n σ x2 x3) σ 45 [(0, .ref (xm_ad (xx_G X) 4)), (2, .int (xm_J x2)), (3, .int (xm_J x3))] [] := by
  induction n with
  | zero => intro σ x2 x3 h2 h3; exact xg_none
  | succ n ih => intro σ x2 x3 h2 h3; exact w_X6_numberAtHand_b45 hC hQ hI ih σ x2 x3 h2 h3
theorem w_X6_numberAtHand {Γ : xm_Gm} {I : xm_Mem → Prop} {la : Launch} (hE : I = xm_I) (σ : xm_Mem)   : ∀ o, f_X6_numberAtHand σ  = some o → xm_M Γ I la yX6_numberAtHand cX6_numberAtHand 4 (some .int) 2 0 0 [.ref (xm_ad Γ 4)] σ 1 o := by
  refine xg_enter (by decide) (by simp [lg_sl, xm_rf_cat, xm_cati, xm_catr, xm_catl]) (fun X hG hI0 hla hC hQ hname => ?_)
  subst hG
  have hI := hI0.trans hE
  clear hI0 hla
  unfold f_X6_numberAtHand
  refine xg_pick [0] (l' := [(0, .ref (xm_ad (xx_G X) 4))]) rfl ?_
  refine xg_aload_n hC dX6_numberAtHand_0 rfl ?_
  refine xg_getI hC (xm_hK hI rfl) rfl xl_F_X6_15 dX6_numberAtHand_1 (fun k1 => ?_)
  refine xg_aload_n hC dX6_numberAtHand_4 rfl ?_
  refine xg_getI hC (xm_hK hI rfl) rfl xl_F_X6_9 dX6_numberAtHand_5 (fun k2 => ?_)
  refine xg_isub hC dX6_numberAtHand_8 ?_
  refine xg_vI (xm_w_in _) (fun v3 k4 => ?_)
  refine xg_istore_n hC (l' := [(1, .int (xm_J v3)), (0, .ref (xm_ad (xx_G X) 4))]) dX6_numberAtHand_9 (by decide) rfl ?_
  refine xg_aload_n hC dX6_numberAtHand_10 rfl ?_
  refine xg_getW hC (b := 2) (xm_hK hI rfl) rfl (xm_wK hI rfl) (by decide) xl_F_X6_21 dX6_numberAtHand_11 ?_
  refine xg_aload_n hC dX6_numberAtHand_14 rfl ?_
  refine xg_getI hC (xm_hK hI rfl) rfl xl_F_X6_9 dX6_numberAtHand_15 (fun k5 => ?_)
  refine xg_callV hC (ci := 7) (w_X8_at hI σ (σ.1 4 1) k5) xl_M_X6_113 xl_V_X8_at (xm_hK (a := 2) (kd := 0) (n := 7) hI rfl).2 ((xm_hK (a := 2) (kd := 0) (n := 7) hI rfl).1 _) (by decide) rfl (by decide) ⟨by decide, by decide⟩ dX6_numberAtHand_18 (rest := []) rfl rfl (Nat.le_of_ble_eq_true rfl) rfl rfl (st2 := fun o => .int (xm_J o.2) :: []) (fun _ => rfl) (fun o6 k7 => ?_)
  refine xg_callS hC (w_X6_isDigit hI o6.1 o6.2 k7) xl_M_X6_117 xl_S_X6_isDigit (by decide) ⟨by decide, by decide⟩ dX6_numberAtHand_21 (rest := []) rfl rfl (Nat.le_of_ble_eq_true rfl) rfl rfl (st2 := fun o => .int (xm_J o.2) :: []) (fun _ => rfl) (fun o8 k9 => ?_)
  refine xg_if_eq hC (xm_in01 k9) 32 dX6_numberAtHand_24 rfl (fun c10 => ?_) (fun c11 => ?_)
  · refine xg_aload_n hC dX6_numberAtHand_32 rfl ?_
    refine xg_callV hC (ci := 5) (w_X6_fail hI o8.1 ) xl_M_X6_52 xl_V_X6_fail (xm_hK (a := 4) (kd := 0) (n := 5) hI rfl).2 ((xm_hK (a := 4) (kd := 0) (n := 5) hI rfl).1 _) (by decide) rfl (by decide) ⟨by decide, by decide⟩ dX6_numberAtHand_33 (rest := []) rfl rfl (Nat.le_of_ble_eq_true rfl) rfl rfl (st2 := fun o => []) (fun _ => rfl) (fun o12 k13 => ?_)
    refine xg_iconst hC dX6_numberAtHand_36 ?_
    exact xg_iret hC hQ (xm_inc _ rfl) dX6_numberAtHand_37
  refine xg_iload_n hC dX6_numberAtHand_27 rfl ?_
  refine xg_iconst hC dX6_numberAtHand_28 ?_
  refine xg_icmp_le hC k4 (xm_inc _ rfl) 38 dX6_numberAtHand_29 rfl (fun c14 => ?_) (fun c15 => ?_)
  · refine xg_aload_n hC dX6_numberAtHand_32 rfl ?_
    refine xg_callV hC (ci := 5) (w_X6_fail hI o8.1 ) xl_M_X6_52 xl_V_X6_fail (xm_hK (a := 4) (kd := 0) (n := 5) hI rfl).2 ((xm_hK (a := 4) (kd := 0) (n := 5) hI rfl).1 _) (by decide) rfl (by decide) ⟨by decide, by decide⟩ dX6_numberAtHand_33 (rest := []) rfl rfl (Nat.le_of_ble_eq_true rfl) rfl rfl (st2 := fun o => []) (fun _ => rfl) (fun o16 k17 => ?_)
    refine xg_iconst hC dX6_numberAtHand_36 ?_
    exact xg_iret hC hQ (xm_inc _ rfl) dX6_numberAtHand_37
  refine xg_iconst hC dX6_numberAtHand_38 ?_
  refine xg_istore_n hC (l' := [(2, .int (xm_J (0 : Int))), (1, .int (xm_J v3)), (0, .ref (xm_ad (xx_G X) 4))]) dX6_numberAtHand_39 (by decide) rfl ?_
  refine xg_aload_n hC dX6_numberAtHand_40 rfl ?_
  refine xg_getI hC (xm_hK hI rfl) rfl xl_F_X6_9 dX6_numberAtHand_41 (fun k18 => ?_)
  refine xg_vI k18 (fun v19 k20 => ?_)
  refine xg_istore_n hC (l' := [(3, .int (xm_J v19)), (2, .int (xm_J (0 : Int))), (1, .int (xm_J v3)), (0, .ref (xm_ad (xx_G X) 4))]) dX6_numberAtHand_44 (by decide) rfl ?_
  exact xg_pick [3, 1, 0] rfl (w_X6_numberAtHand_l45 hC hQ hI _ o8.1 (0 : Int) v19 (xm_inc _ rfl) k20)
theorem w_X6_takeNumber {Γ : xm_Gm} {I : xm_Mem → Prop} {la : Launch} (hE : I = xm_I) (σ : xm_Mem)   : ∀ o, f_X6_takeNumber σ  = some o → xm_M Γ I la yX6_takeNumber cX6_takeNumber 1 (some .int) 3 0 0 [.ref (xm_ad Γ 4)] σ 1 o := by
  refine xg_enter (by decide) (by simp [lg_sl, xm_rf_cat, xm_cati, xm_catr, xm_catl]) (fun X hG hI0 hla hC hQ hname => ?_)
  subst hG
  have hI := hI0.trans hE
  clear hI0 hla
  unfold f_X6_takeNumber
  refine xg_pick [0] (l' := [(0, .ref (xm_ad (xx_G X) 4))]) rfl ?_
  refine xg_aload_n hC dX6_takeNumber_0 rfl ?_
  refine xg_callV hC (ci := 5) (w_X6_next hI σ ) xl_M_X6_44 xl_V_X6_next (xm_hK (a := 4) (kd := 0) (n := 5) hI rfl).2 ((xm_hK (a := 4) (kd := 0) (n := 5) hI rfl).1 _) (by decide) rfl (by decide) ⟨by decide, by decide⟩ dX6_takeNumber_1 (rest := []) rfl rfl (Nat.le_of_ble_eq_true rfl) rfl rfl (st2 := fun o => []) (fun _ => rfl) (fun o1 k2 => ?_)
  refine xg_aload_n hC dX6_takeNumber_4 rfl ?_
  refine xg_callV hC (ci := 5) (w_X6_numberAtHand hI o1.1 ) xl_M_X6_110 xl_V_X6_numberAtHand (xm_hK (a := 4) (kd := 0) (n := 5) hI rfl).2 ((xm_hK (a := 4) (kd := 0) (n := 5) hI rfl).1 _) (by decide) rfl (by decide) ⟨by decide, by decide⟩ dX6_takeNumber_5 (rest := []) rfl rfl (Nat.le_of_ble_eq_true rfl) rfl rfl (st2 := fun o => .int (xm_J o.2) :: []) (fun _ => rfl) (fun o3 k4 => ?_)
  exact xg_iret hC hQ k4 dX6_takeNumber_8
theorem w_X6_takeWord {Γ : xm_Gm} {I : xm_Mem → Prop} {la : Launch} (hE : I = xm_I) (σ : xm_Mem) (x1 : Int) (h1 : 0 ≤ x1 ∧ x1 < 24) : ∀ o, f_X6_takeWord σ x1 = some o → xm_M Γ I la yX6_takeWord cX6_takeWord 2 none 6 0 0 [.ref (xm_ad Γ 4), .ref (xm_adK Γ x1.toNat)] σ 0 o := by
  refine xg_enter (by decide) (by simp [lg_sl, xm_rf_cat, xm_cati, xm_catr, xm_catl]) (fun X hG hI0 hla hC hQ hname => ?_)
  subst hG
  have hI := hI0.trans hE
  clear hI0 hla
  unfold f_X6_takeWord
  refine xg_pick [0, 1] (l' := [(0, .ref (xm_ad (xx_G X) 4)), (1, .ref (xm_adK (xx_G X) x1.toNat))]) rfl ?_
  refine xg_aload_n hC dX6_takeWord_0 rfl ?_
  refine xg_callV hC (ci := 5) (w_X6_next hI σ ) xl_M_X6_44 xl_V_X6_next (xm_hK (a := 4) (kd := 0) (n := 5) hI rfl).2 ((xm_hK (a := 4) (kd := 0) (n := 5) hI rfl).1 _) (by decide) rfl (by decide) ⟨by decide, by decide⟩ dX6_takeWord_1 (rest := []) rfl rfl (Nat.le_of_ble_eq_true rfl) rfl rfl (st2 := fun o => []) (fun _ => rfl) (fun o1 k2 => ?_)
  refine xg_aload_n hC dX6_takeWord_4 rfl ?_
  refine xg_aload_n hC dX6_takeWord_5 rfl ?_
  refine xg_callV hC (ci := 5) (w_X6_isWord hI o1.1 x1 h1) xl_M_X6_75 xl_V_X6_isWord (xm_hK (a := 4) (kd := 0) (n := 5) hI rfl).2 ((xm_hK (a := 4) (kd := 0) (n := 5) hI rfl).1 _) (by decide) rfl (by decide) ⟨by decide, by decide⟩ dX6_takeWord_6 (rest := []) rfl rfl (Nat.le_of_ble_eq_true rfl) rfl rfl (st2 := fun o => .int (xm_J o.2) :: []) (fun _ => rfl) (fun o3 k4 => ?_)
  refine xg_if_ne hC (xm_in01 k4) 16 dX6_takeWord_9 rfl (fun c5 => ?_) (fun c6 => ?_)
  · refine xg_aload_n hC dX6_takeWord_12 rfl ?_
    refine xg_callV hC (ci := 5) (w_X6_fail hI o3.1 ) xl_M_X6_52 xl_V_X6_fail (xm_hK (a := 4) (kd := 0) (n := 5) hI rfl).2 ((xm_hK (a := 4) (kd := 0) (n := 5) hI rfl).1 _) (by decide) rfl (by decide) ⟨by decide, by decide⟩ dX6_takeWord_13 (rest := []) rfl rfl (Nat.le_of_ble_eq_true rfl) rfl rfl (st2 := fun o => []) (fun _ => rfl) (fun o7 k8 => ?_)
    exact xg_vret hC hQ dX6_takeWord_16
  exact xg_vret hC hQ dX6_takeWord_16
theorem w_X6_takeParent {Γ : xm_Gm} {I : xm_Mem → Prop} {la : Launch} (hE : I = xm_I) (σ : xm_Mem)   : ∀ o, f_X6_takeParent σ  = some o → xm_M Γ I la yX6_takeParent cX6_takeParent 1 (some .int) 6 0 0 [.ref (xm_ad Γ 4)] σ 1 o := by
  refine xg_enter (by decide) (by simp [lg_sl, xm_rf_cat, xm_cati, xm_catr, xm_catl]) (fun X hG hI0 hla hC hQ hname => ?_)
  subst hG
  have hI := hI0.trans hE
  clear hI0 hla
  unfold f_X6_takeParent
  refine xg_pick [0] (l' := [(0, .ref (xm_ad (xx_G X) 4))]) rfl ?_
  refine xg_aload_n hC dX6_takeParent_0 rfl ?_
  refine xg_callV hC (ci := 5) (w_X6_next hI σ ) xl_M_X6_44 xl_V_X6_next (xm_hK (a := 4) (kd := 0) (n := 5) hI rfl).2 ((xm_hK (a := 4) (kd := 0) (n := 5) hI rfl).1 _) (by decide) rfl (by decide) ⟨by decide, by decide⟩ dX6_takeParent_1 (rest := []) rfl rfl (Nat.le_of_ble_eq_true rfl) rfl rfl (st2 := fun o => []) (fun _ => rfl) (fun o1 k2 => ?_)
  refine xg_aload_n hC dX6_takeParent_4 rfl ?_
  refine xg_ldcS hC (i := 108) (id := 12) (by decide) dX6_takeParent_5 ?_
  refine xg_callV hC (ci := 5) (w_X6_isWord hI o1.1 (12 : Int) (by decide)) xl_M_X6_75 xl_V_X6_isWord (xm_hK (a := 4) (kd := 0) (n := 5) hI rfl).2 ((xm_hK (a := 4) (kd := 0) (n := 5) hI rfl).1 _) (by decide) rfl (by decide) ⟨by decide, by decide⟩ dX6_takeParent_7 (rest := []) rfl rfl (Nat.le_of_ble_eq_true rfl) rfl rfl (st2 := fun o => .int (xm_J o.2) :: []) (fun _ => rfl) (fun o3 k4 => ?_)
  refine xg_if_eq hC (xm_in01 k4) 17 dX6_takeParent_10 rfl (fun c5 => ?_) (fun c6 => ?_)
  · refine xg_aload_n hC dX6_takeParent_17 rfl ?_
    refine xg_callV hC (ci := 5) (w_X6_numberAtHand hI o3.1 ) xl_M_X6_110 xl_V_X6_numberAtHand (xm_hK (a := 4) (kd := 0) (n := 5) hI rfl).2 ((xm_hK (a := 4) (kd := 0) (n := 5) hI rfl).1 _) (by decide) rfl (by decide) ⟨by decide, by decide⟩ dX6_takeParent_18 (rest := []) rfl rfl (Nat.le_of_ble_eq_true rfl) rfl rfl (st2 := fun o => .int (xm_J o.2) :: []) (fun _ => rfl) (fun o7 k8 => ?_)
    exact xg_iret hC hQ k8 dX6_takeParent_21
  refine xg_iconst hC dX6_takeParent_13 ?_
  refine xg_goto hC 21 dX6_takeParent_14 rfl ?_
  exact xg_iret hC hQ (xm_inc _ rfl) dX6_takeParent_21
theorem w_X6_takeBirth_j34 {X : xm_X} (hC : xm_C X yX6_takeBirth.cls cX6_takeBirth 2 7 0 0) (hQ : xm_Rt X 0 none 0 0) (hI : xx_I X = xm_I)   (σ : xm_Mem) (x1 : Int) (h1 : 0 ≤ x1 ∧ xm_in x1) : xm_V X 0 0 (f_X6_takeBirth_j34  σ x1) σ 34 [(0, .ref (xm_ad (xx_G X) 4)), (1, xm_rf (xx_G X) x1)] [] := by
  unfold f_X6_takeBirth_j34
  refine xg_aload_n hC dX6_takeBirth_34 rfl ?_
  refine xg_ldcS hC (i := 84) (id := 11) (by decide) dX6_takeBirth_35 ?_
  refine xg_callV hC (ci := 5) (w_X6_takeWord hI σ (11 : Int) (by decide)) xl_M_X6_86 xl_V_X6_takeWord (xm_hK (a := 4) (kd := 0) (n := 5) hI rfl).2 ((xm_hK (a := 4) (kd := 0) (n := 5) hI rfl).1 _) (by decide) rfl (by decide) ⟨by decide, by decide⟩ dX6_takeBirth_37 (rest := []) rfl rfl (Nat.le_of_ble_eq_true rfl) rfl rfl (st2 := fun o => []) (fun _ => rfl) (fun o15 k16 => ?_)
  refine xg_rload_n hC dX6_takeBirth_40 rfl ?_
  refine xg_aload_n hC dX6_takeBirth_41 rfl ?_
  refine xg_callV hC (ci := 5) (w_X6_takeParent hI o15.1 ) xl_M_X6_90 xl_V_X6_takeParent (xm_hK (a := 4) (kd := 0) (n := 5) hI rfl).2 ((xm_hK (a := 4) (kd := 0) (n := 5) hI rfl).1 _) (by decide) rfl (by decide) ⟨by decide, by decide⟩ dX6_takeBirth_42 (rest := [xm_rf (xx_G X) x1]) rfl rfl (by simp [xm_rf_cat, xm_cati, xm_catr, xm_catl]) rfl rfl (st2 := fun o => .int (xm_J o.2) :: [xm_rf (xx_G X) x1]) (fun _ => rfl) (fun o17 k18 => ?_)
  refine xg_sputI hC rfl (Or.inl rfl) k18 (fun z => xm_kpO hI z.2.2) xl_F_X6_93 dX6_takeBirth_45 ?_
  refine xg_st (fun σ19 => ?_)
  refine xg_aload_n hC dX6_takeBirth_48 rfl ?_
  refine xg_ldcS hC (i := 96) (id := 13) (by decide) dX6_takeBirth_49 ?_
  refine xg_callV hC (ci := 5) (w_X6_takeWord hI σ19 (13 : Int) (by decide)) xl_M_X6_86 xl_V_X6_takeWord (xm_hK (a := 4) (kd := 0) (n := 5) hI rfl).2 ((xm_hK (a := 4) (kd := 0) (n := 5) hI rfl).1 _) (by decide) rfl (by decide) ⟨by decide, by decide⟩ dX6_takeBirth_51 (rest := []) rfl rfl (Nat.le_of_ble_eq_true rfl) rfl rfl (st2 := fun o => []) (fun _ => rfl) (fun o20 k21 => ?_)
  refine xg_rload_n hC dX6_takeBirth_54 rfl ?_
  refine xg_aload_n hC dX6_takeBirth_55 rfl ?_
  refine xg_callV hC (ci := 5) (w_X6_takeParent hI o20.1 ) xl_M_X6_90 xl_V_X6_takeParent (xm_hK (a := 4) (kd := 0) (n := 5) hI rfl).2 ((xm_hK (a := 4) (kd := 0) (n := 5) hI rfl).1 _) (by decide) rfl (by decide) ⟨by decide, by decide⟩ dX6_takeBirth_56 (rest := [xm_rf (xx_G X) x1]) rfl rfl (by simp [xm_rf_cat, xm_cati, xm_catr, xm_catl]) rfl rfl (st2 := fun o => .int (xm_J o.2) :: [xm_rf (xx_G X) x1]) (fun _ => rfl) (fun o22 k23 => ?_)
  refine xg_sputI hC rfl (Or.inl rfl) k23 (fun z => xm_kpO hI z.2.2) xl_F_X6_98 dX6_takeBirth_59 ?_
  refine xg_st (fun σ24 => ?_)
  exact xg_vret hC hQ dX6_takeBirth_62
theorem w_X6_takeBirth {Γ : xm_Gm} {I : xm_Mem → Prop} {la : Launch} (hE : I = xm_I) (σ : xm_Mem) (x1 : Int) (h1 : 0 ≤ x1 ∧ xm_in x1) : ∀ o, f_X6_takeBirth σ x1 = some o → xm_M Γ I la yX6_takeBirth cX6_takeBirth 2 none 7 0 0 [.ref (xm_ad Γ 4), xm_rf Γ x1] σ 0 o := by
  refine xg_enter (by decide) (by simp [lg_sl, xm_rf_cat, xm_cati, xm_catr, xm_catl]) (fun X hG hI0 hla hC hQ hname => ?_)
  subst hG
  have hI := hI0.trans hE
  clear hI0 hla
  unfold f_X6_takeBirth
  refine xg_pick [0, 1] (l' := [(0, .ref (xm_ad (xx_G X) 4)), (1, xm_rf (xx_G X) x1)]) (by simp [lv_args, lv_pick, xm_rf_cat, xm_cati, xm_catr, xm_catl]) ?_
  refine xg_aload_n hC dX6_takeBirth_0 rfl ?_
  refine xg_callV hC (ci := 5) (w_X6_next hI σ ) xl_M_X6_44 xl_V_X6_next (xm_hK (a := 4) (kd := 0) (n := 5) hI rfl).2 ((xm_hK (a := 4) (kd := 0) (n := 5) hI rfl).1 _) (by decide) rfl (by decide) ⟨by decide, by decide⟩ dX6_takeBirth_1 (rest := []) rfl rfl (Nat.le_of_ble_eq_true rfl) rfl rfl (st2 := fun o => []) (fun _ => rfl) (fun o1 k2 => ?_)
  refine xg_rload_n hC dX6_takeBirth_4 rfl ?_
  refine xg_aload_n hC dX6_takeBirth_5 rfl ?_
  refine xg_ldcS hC (i := 73) (id := 9) (by decide) dX6_takeBirth_6 ?_
  refine xg_callV hC (ci := 5) (w_X6_isWord hI o1.1 (9 : Int) (by decide)) xl_M_X6_75 xl_V_X6_isWord (xm_hK (a := 4) (kd := 0) (n := 5) hI rfl).2 ((xm_hK (a := 4) (kd := 0) (n := 5) hI rfl).1 _) (by decide) rfl (by decide) ⟨by decide, by decide⟩ dX6_takeBirth_8 (rest := [xm_rf (xx_G X) x1]) rfl rfl (by simp [xm_rf_cat, xm_cati, xm_catr, xm_catl]) rfl rfl (st2 := fun o => .int (xm_J o.2) :: [xm_rf (xx_G X) x1]) (fun _ => rfl) (fun o3 k4 => ?_)
  refine xg_sputZ hC rfl (Or.inl rfl) k4 (fun z => xm_kpO hI z.2.2) xl_F_X6_79 dX6_takeBirth_11 ?_
  refine xg_st (fun σ5 => ?_)
  refine xg_rload_n hC dX6_takeBirth_14 rfl ?_
  refine xg_sgetZ hC rfl xl_F_X6_79 dX6_takeBirth_15 (fun k6 => ?_)
  refine xg_if_ne hC (xm_in01 k6) 34 dX6_takeBirth_18 rfl (fun c7 => ?_) (fun c8 => ?_)
  · refine xg_aload_n hC dX6_takeBirth_21 rfl ?_
    refine xg_ldcS hC (i := 82) (id := 10) (by decide) dX6_takeBirth_22 ?_
    refine xg_callV hC (ci := 5) (w_X6_isWord hI σ5 (10 : Int) (by decide)) xl_M_X6_75 xl_V_X6_isWord (xm_hK (a := 4) (kd := 0) (n := 5) hI rfl).2 ((xm_hK (a := 4) (kd := 0) (n := 5) hI rfl).1 _) (by decide) rfl (by decide) ⟨by decide, by decide⟩ dX6_takeBirth_24 (rest := []) rfl rfl (Nat.le_of_ble_eq_true rfl) rfl rfl (st2 := fun o => .int (xm_J o.2) :: []) (fun _ => rfl) (fun o9 k10 => ?_)
    refine xg_if_ne hC (xm_in01 k10) 34 dX6_takeBirth_27 rfl (fun c11 => ?_) (fun c12 => ?_)
    · refine xg_aload_n hC dX6_takeBirth_30 rfl ?_
      refine xg_callV hC (ci := 5) (w_X6_fail hI o9.1 ) xl_M_X6_52 xl_V_X6_fail (xm_hK (a := 4) (kd := 0) (n := 5) hI rfl).2 ((xm_hK (a := 4) (kd := 0) (n := 5) hI rfl).1 _) (by decide) rfl (by decide) ⟨by decide, by decide⟩ dX6_takeBirth_31 (rest := []) rfl rfl (Nat.le_of_ble_eq_true rfl) rfl rfl (st2 := fun o => []) (fun _ => rfl) (fun o13 k14 => ?_)
      exact (w_X6_takeBirth_j34 hC hQ hI o13.1 x1 ⟨h1.1, h1.2⟩)
    exact (w_X6_takeBirth_j34 hC hQ hI o9.1 x1 ⟨h1.1, h1.2⟩)
  exact (w_X6_takeBirth_j34 hC hQ hI σ5 x1 ⟨h1.1, h1.2⟩)
theorem w_X6_ruleWord {Γ : xm_Gm} {I : xm_Mem → Prop} {la : Launch} (hE : I = xm_I) (σ : xm_Mem) (x0 : Int) (h0 : xm_in x0) : ∀ o, f_X6_ruleWord σ x0 = some o → xm_M Γ I la yX6_ruleWord cX6_ruleWord 1 (some (.object "java/lang/String")) 1 0 0 [.int (xm_J x0)] σ 5 o := by
  refine xg_enter (by decide) (by simp [lg_sl, xm_rf_cat, xm_cati, xm_catr, xm_catl]) (fun X hG hI0 hla hC hQ hname => ?_)
  subst hG
  have hI := hI0.trans hE
  clear hI0 hla
  unfold f_X6_ruleWord
  refine xg_pick [0] (l' := [(0, .int (xm_J x0))]) rfl ?_
  refine xg_iload_n hC dX6_ruleWord_0 rfl ?_
  refine xg_ite (fun e1 => xg_tswIn hC 0 36 e1 dX6_ruleWord_1 (xm_inc _ rfl) (by decide) (by decide) rfl rfl ?_) (fun n2 => ?_)
  · refine xg_ldcS hC (i := 73) (id := 9) (by decide) dX6_ruleWord_36 ?_
    exact xg_sret hC hQ (v := (9 : Int)) (by decide) dX6_ruleWord_38
  refine xg_ite (fun e3 => xg_tswIn hC 1 39 e3 dX6_ruleWord_1 (xm_inc _ rfl) (by decide) (by decide) rfl rfl ?_) (fun n4 => ?_)
  · refine xg_ldcS hC (i := 150) (id := 14) (by decide) dX6_ruleWord_39 ?_
    exact xg_sret hC hQ (v := (14 : Int)) (by decide) dX6_ruleWord_41
  refine xg_ite (fun e5 => xg_tswIn hC 2 42 e5 dX6_ruleWord_1 (xm_inc _ rfl) (by decide) (by decide) rfl rfl ?_) (fun n6 => ?_)
  · refine xg_ldcS hC (i := 152) (id := 15) (by decide) dX6_ruleWord_42 ?_
    exact xg_sret hC hQ (v := (15 : Int)) (by decide) dX6_ruleWord_44
  refine xg_ite (fun e7 => xg_tswIn hC 3 45 e7 dX6_ruleWord_1 (xm_inc _ rfl) (by decide) (by decide) rfl rfl ?_) (fun n8 => ?_)
  · refine xg_ldcS hC (i := 154) (id := 16) (by decide) dX6_ruleWord_45 ?_
    exact xg_sret hC hQ (v := (16 : Int)) (by decide) dX6_ruleWord_47
  refine xg_ite (fun e9 => xg_tswIn hC 4 48 e9 dX6_ruleWord_1 (xm_inc _ rfl) (by decide) (by decide) rfl rfl ?_) (fun n10 => ?_)
  · refine xg_ldcS hC (i := 156) (id := 17) (by decide) dX6_ruleWord_48 ?_
    exact xg_sret hC hQ (v := (17 : Int)) (by decide) dX6_ruleWord_50
  refine xg_tswOut hC 51 dX6_ruleWord_1 h0 (by omega) rfl ?_
  refine xg_ldcS hC (i := 158) (id := 18) (by decide) dX6_ruleWord_51 ?_
  exact xg_sret hC hQ (v := (18 : Int)) (by decide) dX6_ruleWord_53
theorem w_X6_takeRule_b6 {X : xm_X} (hC : xm_C X yX6_takeRule.cls cX6_takeRule 2 6 0 0) (hQ : xm_Rt X 1 (some .int) 0 0) (hI : xx_I X = xm_I) {K31 : xm_Mem → Option xm_Out} (hK31 : ∀ (σ : xm_Mem), xm_V X 0 0 (K31 σ ) σ 31 [(0, .ref (xm_ad (xx_G X) 4))] []) {self : xm_Mem → Int → Option xm_Out} (hself : ∀ (σ : xm_Mem) (x1 : Int), xm_in x1 → xm_V X 0 0 (self σ x1) σ 6 [(0, .ref (xm_ad (xx_G X) 4)), (1, .int (xm_J x1))] []) (σ : xm_Mem) (x1 : Int) (h1 : xm_in x1) : xm_V X 0 0 (f_X6_takeRule_b6 K31 self σ x1) σ 6 [(0, .ref (xm_ad (xx_G X) 4)), (1, .int (xm_J x1))] [] := by
  unfold f_X6_takeRule_b6
  refine xg_iload_n hC dX6_takeRule_6 rfl ?_
  refine xg_bipush hC dX6_takeRule_7 (by decide) ?_
  refine xg_icmp_ge hC h1 (xm_inc _ rfl) 31 dX6_takeRule_9 rfl (fun c3 => ?_) (fun c4 => ?_)
  · refine xg_aload_n hC dX6_takeRule_12 rfl ?_
    refine xg_iload_n hC dX6_takeRule_13 rfl ?_
    refine xg_callS hC (w_X6_ruleWord hI σ x1 h1) xl_M_X6_105 xl_S_X6_ruleWord (by decide) ⟨by decide, by decide⟩ dX6_takeRule_14 (rest := [.ref (xm_ad (xx_G X) 4)]) rfl rfl (Nat.le_of_ble_eq_true rfl) rfl rfl (st2 := fun o => .ref (xm_adK (xx_G X) o.2.toNat) :: [.ref (xm_ad (xx_G X) 4)]) (fun _ => rfl) (fun o5 k6 => ?_)
    refine xg_callV hC (ci := 5) (w_X6_isWord hI o5.1 o5.2 k6) xl_M_X6_75 xl_V_X6_isWord (xm_hK (a := 4) (kd := 0) (n := 5) hI rfl).2 ((xm_hK (a := 4) (kd := 0) (n := 5) hI rfl).1 _) (by decide) rfl (by decide) ⟨by decide, by decide⟩ dX6_takeRule_17 (rest := []) rfl rfl (Nat.le_of_ble_eq_true rfl) rfl rfl (st2 := fun o => .int (xm_J o.2) :: []) (fun _ => rfl) (fun o7 k8 => ?_)
    refine xg_if_eq hC (xm_in01 k8) 25 dX6_takeRule_20 rfl (fun c9 => ?_) (fun c10 => ?_)
    · refine xg_iinc hC (l' := [(1, .int (xm_J (xm_w (x1 + 1)))), (0, .ref (xm_ad (xx_G X) 4))]) dX6_takeRule_25 (by decide) 1 rfl rfl ?_
      refine xg_goto hC 6 dX6_takeRule_28 rfl ?_
      exact xg_pick [1, 0] rfl (hself o7.1 (xm_w (x1 + 1)) (xm_w_in _))
    refine xg_iload_n hC dX6_takeRule_23 rfl ?_
    exact xg_iret hC hQ h1 dX6_takeRule_24
  exact xg_pick [0] rfl (hK31 σ)
theorem w_X6_takeRule_l6 {X : xm_X} (hC : xm_C X yX6_takeRule.cls cX6_takeRule 2 6 0 0) (hQ : xm_Rt X 1 (some .int) 0 0) (hI : xx_I X = xm_I) {K31 : xm_Mem → Option xm_Out} (hK31 : ∀ (σ : xm_Mem), xm_V X 0 0 (K31 σ ) σ 31 [(0, .ref (xm_ad (xx_G X) 4))] []) (n : Nat) : ∀ (σ : xm_Mem) (x1 : Int), xm_in x1 → xm_V X 0 0 (f_X6_takeRule_l6 K31 n σ x1) σ 6 [(0, .ref (xm_ad (xx_G X) 4)), (1, .int (xm_J x1))] [] := by
  induction n with
  | zero => intro σ x1 h1; exact xg_none
  | succ n ih => intro σ x1 h1; exact w_X6_takeRule_b6 hC hQ hI hK31 ih σ x1 h1
theorem w_X6_takeRule {Γ : xm_Gm} {I : xm_Mem → Prop} {la : Launch} (hE : I = xm_I) (σ : xm_Mem)   : ∀ o, f_X6_takeRule σ  = some o → xm_M Γ I la yX6_takeRule cX6_takeRule 2 (some .int) 6 0 0 [.ref (xm_ad Γ 4)] σ 1 o := by
  refine xg_enter (by decide) (by simp [lg_sl, xm_rf_cat, xm_cati, xm_catr, xm_catl]) (fun X hG hI0 hla hC hQ hname => ?_)
  subst hG
  have hI := hI0.trans hE
  clear hI0 hla
  unfold f_X6_takeRule
  refine xg_pick [0] (l' := [(0, .ref (xm_ad (xx_G X) 4))]) rfl ?_
  refine xg_aload_n hC dX6_takeRule_0 rfl ?_
  refine xg_callV hC (ci := 5) (w_X6_next hI σ ) xl_M_X6_44 xl_V_X6_next (xm_hK (a := 4) (kd := 0) (n := 5) hI rfl).2 ((xm_hK (a := 4) (kd := 0) (n := 5) hI rfl).1 _) (by decide) rfl (by decide) ⟨by decide, by decide⟩ dX6_takeRule_1 (rest := []) rfl rfl (Nat.le_of_ble_eq_true rfl) rfl rfl (st2 := fun o => []) (fun _ => rfl) (fun o1 k2 => ?_)
  refine xg_iconst hC dX6_takeRule_4 ?_
  refine xg_istore_n hC (l' := [(1, .int (xm_J (0 : Int))), (0, .ref (xm_ad (xx_G X) 4))]) dX6_takeRule_5 (by decide) rfl ?_
  refine xg_pick [1, 0] rfl (w_X6_takeRule_l6 hC hQ hI ?_ _ o1.1 (0 : Int) (xm_inc _ rfl))
  intro σ_11
  refine xg_aload_n hC dX6_takeRule_31 rfl ?_
  refine xg_callV hC (ci := 5) (w_X6_fail hI σ_11 ) xl_M_X6_52 xl_V_X6_fail (xm_hK (a := 4) (kd := 0) (n := 5) hI rfl).2 ((xm_hK (a := 4) (kd := 0) (n := 5) hI rfl).1 _) (by decide) rfl (by decide) ⟨by decide, by decide⟩ dX6_takeRule_32 (rest := []) rfl rfl (Nat.le_of_ble_eq_true rfl) rfl rfl (st2 := fun o => []) (fun _ => rfl) (fun o12 k13 => ?_)
  refine xg_iconst hC dX6_takeRule_35 ?_
  exact xg_iret hC hQ (xm_inc _ rfl) dX6_takeRule_36
theorem w_X6_takeWhatIsOf_j56 {X : xm_X} (hC : xm_C X yX6_takeWhatIsOf.cls cX6_takeWhatIsOf 2 8 0 0) (hQ : xm_Rt X 0 none 0 0) (hI : xx_I X = xm_I)   (σ : xm_Mem) (x1 : Int) (h1 : 0 ≤ x1 ∧ xm_in x1) : xm_V X 0 0 (f_X6_takeWhatIsOf_j56  σ x1) σ 56 [(0, .ref (xm_ad (xx_G X) 4)), (1, xm_rf (xx_G X) x1)] [] := by
  unfold f_X6_takeWhatIsOf_j56
  refine xg_rload_n hC dX6_takeWhatIsOf_56 rfl ?_
  refine xg_aload_n hC dX6_takeWhatIsOf_57 rfl ?_
  refine xg_callV hC (ci := 5) (w_X6_takeNumber hI σ ) xl_M_X6_34 xl_V_X6_takeNumber (xm_hK (a := 4) (kd := 0) (n := 5) hI rfl).2 ((xm_hK (a := 4) (kd := 0) (n := 5) hI rfl).1 _) (by decide) rfl (by decide) ⟨by decide, by decide⟩ dX6_takeWhatIsOf_58 (rest := [xm_rf (xx_G X) x1]) rfl rfl (by simp [xm_rf_cat, xm_cati, xm_catr, xm_catl]) rfl rfl (st2 := fun o => .int (xm_J o.2) :: [xm_rf (xx_G X) x1]) (fun _ => rfl) (fun o10 k11 => ?_)
  refine xg_sputI hC rfl (Or.inl rfl) k11 (fun z => xm_kpO hI z.2.2) xl_F_X6_58 dX6_takeWhatIsOf_61 ?_
  refine xg_st (fun σ12 => ?_)
  refine xg_rload_n hC dX6_takeWhatIsOf_64 rfl ?_
  refine xg_aload_n hC dX6_takeWhatIsOf_65 rfl ?_
  refine xg_callV hC (ci := 5) (w_X6_takeNumber hI σ12 ) xl_M_X6_34 xl_V_X6_takeNumber (xm_hK (a := 4) (kd := 0) (n := 5) hI rfl).2 ((xm_hK (a := 4) (kd := 0) (n := 5) hI rfl).1 _) (by decide) rfl (by decide) ⟨by decide, by decide⟩ dX6_takeWhatIsOf_66 (rest := [xm_rf (xx_G X) x1]) rfl rfl (by simp [xm_rf_cat, xm_cati, xm_catr, xm_catl]) rfl rfl (st2 := fun o => .int (xm_J o.2) :: [xm_rf (xx_G X) x1]) (fun _ => rfl) (fun o13 k14 => ?_)
  refine xg_sputI hC rfl (Or.inl rfl) k14 (fun z => xm_kpO hI z.2.2) xl_F_X6_61 dX6_takeWhatIsOf_69 ?_
  refine xg_st (fun σ15 => ?_)
  refine xg_goto hC 132 dX6_takeWhatIsOf_72 rfl ?_
  exact xg_vret hC hQ dX6_takeWhatIsOf_132
theorem w_X6_takeWhatIsOf_j105 {X : xm_X} (hC : xm_C X yX6_takeWhatIsOf.cls cX6_takeWhatIsOf 2 8 0 0) (hQ : xm_Rt X 0 none 0 0) (hI : xx_I X = xm_I)   (σ : xm_Mem) (x1 : Int) (h1 : 0 ≤ x1 ∧ xm_in x1) : xm_V X 0 0 (f_X6_takeWhatIsOf_j105  σ x1) σ 105 [(0, .ref (xm_ad (xx_G X) 4)), (1, xm_rf (xx_G X) x1)] [] := by
  unfold f_X6_takeWhatIsOf_j105
  refine xg_rload_n hC dX6_takeWhatIsOf_105 rfl ?_
  refine xg_aload_n hC dX6_takeWhatIsOf_106 rfl ?_
  refine xg_callV hC (ci := 5) (w_X6_takeNumber hI σ ) xl_M_X6_34 xl_V_X6_takeNumber (xm_hK (a := 4) (kd := 0) (n := 5) hI rfl).2 ((xm_hK (a := 4) (kd := 0) (n := 5) hI rfl).1 _) (by decide) rfl (by decide) ⟨by decide, by decide⟩ dX6_takeWhatIsOf_107 (rest := [xm_rf (xx_G X) x1]) rfl rfl (by simp [xm_rf_cat, xm_cati, xm_catr, xm_catl]) rfl rfl (st2 := fun o => .int (xm_J o.2) :: [xm_rf (xx_G X) x1]) (fun _ => rfl) (fun o33 k34 => ?_)
  refine xg_sputI hC rfl (Or.inl rfl) k34 (fun z => xm_kpO hI z.2.2) xl_F_X6_58 dX6_takeWhatIsOf_110 ?_
  refine xg_st (fun σ35 => ?_)
  refine xg_rload_n hC dX6_takeWhatIsOf_113 rfl ?_
  refine xg_aload_n hC dX6_takeWhatIsOf_114 rfl ?_
  refine xg_callV hC (ci := 5) (w_X6_takeNumber hI σ35 ) xl_M_X6_34 xl_V_X6_takeNumber (xm_hK (a := 4) (kd := 0) (n := 5) hI rfl).2 ((xm_hK (a := 4) (kd := 0) (n := 5) hI rfl).1 _) (by decide) rfl (by decide) ⟨by decide, by decide⟩ dX6_takeWhatIsOf_115 (rest := [xm_rf (xx_G X) x1]) rfl rfl (by simp [xm_rf_cat, xm_cati, xm_catr, xm_catl]) rfl rfl (st2 := fun o => .int (xm_J o.2) :: [xm_rf (xx_G X) x1]) (fun _ => rfl) (fun o36 k37 => ?_)
  refine xg_sputI hC rfl (Or.inl rfl) k37 (fun z => xm_kpO hI z.2.2) xl_F_X6_70 dX6_takeWhatIsOf_118 ?_
  refine xg_st (fun σ38 => ?_)
  refine xg_goto hC 132 dX6_takeWhatIsOf_121 rfl ?_
  exact xg_vret hC hQ dX6_takeWhatIsOf_132
theorem w_X6_takeWhatIsOf {Γ : xm_Gm} {I : xm_Mem → Prop} {la : Launch} (hE : I = xm_I) (σ : xm_Mem) (x1 : Int) (h1 : 0 ≤ x1 ∧ xm_in x1) : ∀ o, f_X6_takeWhatIsOf σ x1 = some o → xm_M Γ I la yX6_takeWhatIsOf cX6_takeWhatIsOf 2 none 8 0 0 [.ref (xm_ad Γ 4), xm_rf Γ x1] σ 0 o := by
  refine xg_enter (by decide) (by simp [lg_sl, xm_rf_cat, xm_cati, xm_catr, xm_catl]) (fun X hG hI0 hla hC hQ hname => ?_)
  subst hG
  have hI := hI0.trans hE
  clear hI0 hla
  unfold f_X6_takeWhatIsOf
  refine xg_pick [0, 1] (l' := [(0, .ref (xm_ad (xx_G X) 4)), (1, xm_rf (xx_G X) x1)]) (by simp [lv_args, lv_pick, xm_rf_cat, xm_cati, xm_catr, xm_catl]) ?_
  refine xg_rload_n hC dX6_takeWhatIsOf_0 rfl ?_
  refine xg_sgetI hC rfl xl_F_X6_29 dX6_takeWhatIsOf_1 (fun k1 => ?_)
  refine xg_vI k1 (fun v2 k3 => ?_)
  refine xg_ite (fun e4 => xg_tswIn hC 0 48 e4 dX6_takeWhatIsOf_4 (xm_inc _ rfl) (by decide) (by decide) rfl rfl ?_) (fun n5 => ?_)
  · refine xg_aload_n hC dX6_takeWhatIsOf_48 rfl ?_
    refine xg_rload_n hC dX6_takeWhatIsOf_49 rfl ?_
    refine xg_callV hC (ci := 5) (w_X6_takeBirth hI σ x1 ⟨h1.1, h1.2⟩) xl_M_X6_55 xl_V_X6_takeBirth (xm_hK (a := 4) (kd := 0) (n := 5) hI rfl).2 ((xm_hK (a := 4) (kd := 0) (n := 5) hI rfl).1 _) (by decide) rfl (by decide) ⟨by decide, by decide⟩ dX6_takeWhatIsOf_50 (rest := []) rfl rfl (Nat.le_of_ble_eq_true rfl) rfl rfl (st2 := fun o => []) (fun _ => rfl) (fun o6 k7 => ?_)
    refine xg_goto hC 132 dX6_takeWhatIsOf_53 rfl ?_
    exact xg_vret hC hQ dX6_takeWhatIsOf_132
  refine xg_ite (fun e8 => xg_tswIn hC 1 56 e8 dX6_takeWhatIsOf_4 (xm_inc _ rfl) (by decide) (by decide) rfl rfl ?_) (fun n9 => ?_)
  · exact (w_X6_takeWhatIsOf_j56 hC hQ hI σ x1 ⟨h1.1, h1.2⟩)
  refine xg_ite (fun e16 => xg_tswIn hC 2 56 e16 dX6_takeWhatIsOf_4 (xm_inc _ rfl) (by decide) (by decide) rfl rfl ?_) (fun n17 => ?_)
  · exact (w_X6_takeWhatIsOf_j56 hC hQ hI σ x1 ⟨h1.1, h1.2⟩)
  refine xg_ite (fun e18 => xg_tswIn hC 3 75 e18 dX6_takeWhatIsOf_4 (xm_inc _ rfl) (by decide) (by decide) rfl rfl ?_) (fun n19 => ?_)
  · refine xg_rload_n hC dX6_takeWhatIsOf_75 rfl ?_
    refine xg_aload_n hC dX6_takeWhatIsOf_76 rfl ?_
    refine xg_callV hC (ci := 5) (w_X6_takeNumber hI σ ) xl_M_X6_34 xl_V_X6_takeNumber (xm_hK (a := 4) (kd := 0) (n := 5) hI rfl).2 ((xm_hK (a := 4) (kd := 0) (n := 5) hI rfl).1 _) (by decide) rfl (by decide) ⟨by decide, by decide⟩ dX6_takeWhatIsOf_77 (rest := [xm_rf (xx_G X) x1]) rfl rfl (by simp [xm_rf_cat, xm_cati, xm_catr, xm_catl]) rfl rfl (st2 := fun o => .int (xm_J o.2) :: [xm_rf (xx_G X) x1]) (fun _ => rfl) (fun o20 k21 => ?_)
    refine xg_sputI hC rfl (Or.inl rfl) k21 (fun z => xm_kpO hI z.2.2) xl_F_X6_58 dX6_takeWhatIsOf_80 ?_
    refine xg_st (fun σ22 => ?_)
    refine xg_goto hC 132 dX6_takeWhatIsOf_83 rfl ?_
    exact xg_vret hC hQ dX6_takeWhatIsOf_132
  refine xg_ite (fun e23 => xg_tswIn hC 4 86 e23 dX6_takeWhatIsOf_4 (xm_inc _ rfl) (by decide) (by decide) rfl rfl ?_) (fun n24 => ?_)
  · refine xg_rload_n hC dX6_takeWhatIsOf_86 rfl ?_
    refine xg_aload_n hC dX6_takeWhatIsOf_87 rfl ?_
    refine xg_callV hC (ci := 5) (w_X6_takeNumber hI σ ) xl_M_X6_34 xl_V_X6_takeNumber (xm_hK (a := 4) (kd := 0) (n := 5) hI rfl).2 ((xm_hK (a := 4) (kd := 0) (n := 5) hI rfl).1 _) (by decide) rfl (by decide) ⟨by decide, by decide⟩ dX6_takeWhatIsOf_88 (rest := [xm_rf (xx_G X) x1]) rfl rfl (by simp [xm_rf_cat, xm_cati, xm_catr, xm_catl]) rfl rfl (st2 := fun o => .int (xm_J o.2) :: [xm_rf (xx_G X) x1]) (fun _ => rfl) (fun o25 k26 => ?_)
    refine xg_sputI hC rfl (Or.inl rfl) k26 (fun z => xm_kpO hI z.2.2) xl_F_X6_58 dX6_takeWhatIsOf_91 ?_
    refine xg_st (fun σ27 => ?_)
    refine xg_rload_n hC dX6_takeWhatIsOf_94 rfl ?_
    refine xg_aload_n hC dX6_takeWhatIsOf_95 rfl ?_
    refine xg_callV hC (ci := 5) (w_X6_takeRule hI σ27 ) xl_M_X6_64 xl_V_X6_takeRule (xm_hK (a := 4) (kd := 0) (n := 5) hI rfl).2 ((xm_hK (a := 4) (kd := 0) (n := 5) hI rfl).1 _) (by decide) rfl (by decide) ⟨by decide, by decide⟩ dX6_takeWhatIsOf_96 (rest := [xm_rf (xx_G X) x1]) rfl rfl (by simp [xm_rf_cat, xm_cati, xm_catr, xm_catl]) rfl rfl (st2 := fun o => .int (xm_J o.2) :: [xm_rf (xx_G X) x1]) (fun _ => rfl) (fun o28 k29 => ?_)
    refine xg_sputI hC rfl (Or.inl rfl) k29 (fun z => xm_kpO hI z.2.2) xl_F_X6_67 dX6_takeWhatIsOf_99 ?_
    refine xg_st (fun σ30 => ?_)
    refine xg_goto hC 132 dX6_takeWhatIsOf_102 rfl ?_
    exact xg_vret hC hQ dX6_takeWhatIsOf_132
  refine xg_ite (fun e31 => xg_tswIn hC 5 105 e31 dX6_takeWhatIsOf_4 (xm_inc _ rfl) (by decide) (by decide) rfl rfl ?_) (fun n32 => ?_)
  · exact (w_X6_takeWhatIsOf_j105 hC hQ hI σ x1 ⟨h1.1, h1.2⟩)
  refine xg_ite (fun e39 => xg_tswIn hC 6 105 e39 dX6_takeWhatIsOf_4 (xm_inc _ rfl) (by decide) (by decide) rfl rfl ?_) (fun n40 => ?_)
  · exact (w_X6_takeWhatIsOf_j105 hC hQ hI σ x1 ⟨h1.1, h1.2⟩)
  refine xg_tswOut hC 124 dX6_takeWhatIsOf_4 k3 (by omega) rfl ?_
  refine xg_rload_n hC dX6_takeWhatIsOf_124 rfl ?_
  refine xg_aload_n hC dX6_takeWhatIsOf_125 rfl ?_
  refine xg_callV hC (ci := 5) (w_X6_takeNumber hI σ ) xl_M_X6_34 xl_V_X6_takeNumber (xm_hK (a := 4) (kd := 0) (n := 5) hI rfl).2 ((xm_hK (a := 4) (kd := 0) (n := 5) hI rfl).1 _) (by decide) rfl (by decide) ⟨by decide, by decide⟩ dX6_takeWhatIsOf_126 (rest := [xm_rf (xx_G X) x1]) rfl rfl (by simp [xm_rf_cat, xm_cati, xm_catr, xm_catl]) rfl rfl (st2 := fun o => .int (xm_J o.2) :: [xm_rf (xx_G X) x1]) (fun _ => rfl) (fun o41 k42 => ?_)
  refine xg_sputI hC rfl (Or.inl rfl) k42 (fun z => xm_kpO hI z.2.2) xl_F_X6_70 dX6_takeWhatIsOf_129 ?_
  refine xg_st (fun σ43 => ?_)
  exact xg_vret hC hQ dX6_takeWhatIsOf_132
theorem w_X6_readInto {Γ : xm_Gm} {I : xm_Mem → Prop} {la : Launch} (hE : I = xm_I) (σ : xm_Mem) (x1 : Int) (h1 : 0 ≤ x1 ∧ xm_in x1) : ∀ o, f_X6_readInto σ x1 = some o → xm_M Γ I la yX6_readInto cX6_readInto 2 (some .int) 9 0 0 [.ref (xm_ad Γ 4), xm_rf Γ x1] σ 1 o := by
  refine xg_enter (by decide) (by simp [lg_sl, xm_rf_cat, xm_cati, xm_catr, xm_catl]) (fun X hG hI0 hla hC hQ hname => ?_)
  subst hG
  have hI := hI0.trans hE
  clear hI0 hla
  unfold f_X6_readInto
  refine xg_pick [0, 1] (l' := [(0, .ref (xm_ad (xx_G X) 4)), (1, xm_rf (xx_G X) x1)]) (by simp [lv_args, lv_pick, xm_rf_cat, xm_cati, xm_catr, xm_catl]) ?_
  refine xg_aload_n hC dX6_readInto_0 rfl ?_
  refine xg_iconst hC dX6_readInto_1 ?_
  refine xg_putI hC (xm_hK hI rfl) rfl rfl (xm_inc _ rfl) (xm_kpK hI rfl) xl_F_X6_9 dX6_readInto_2 ?_
  refine xg_st (fun σ1 => ?_)
  refine xg_aload_n hC dX6_readInto_5 rfl ?_
  refine xg_iconst hC dX6_readInto_6 ?_
  refine xg_putI hC (xm_hK hI rfl) rfl rfl (xm_inc _ rfl) (xm_kpK hI rfl) xl_F_X6_15 dX6_readInto_7 ?_
  refine xg_st (fun σ2 => ?_)
  refine xg_aload_n hC dX6_readInto_10 rfl ?_
  refine xg_bipush hC dX6_readInto_11 (by decide) ?_
  refine xg_putI hC (xm_hK hI rfl) rfl rfl (xm_inc _ rfl) (xm_kpK hI rfl) xl_F_X6_18 dX6_readInto_13 ?_
  refine xg_st (fun σ3 => ?_)
  refine xg_rload_n hC dX6_readInto_16 rfl ?_
  refine xg_aload_n hC dX6_readInto_17 rfl ?_
  refine xg_callV hC (ci := 5) (w_X6_takeKind hI σ3 ) xl_M_X6_25 xl_V_X6_takeKind (xm_hK (a := 4) (kd := 0) (n := 5) hI rfl).2 ((xm_hK (a := 4) (kd := 0) (n := 5) hI rfl).1 _) (by decide) rfl (by decide) ⟨by decide, by decide⟩ dX6_readInto_18 (rest := [xm_rf (xx_G X) x1]) rfl rfl (by simp [xm_rf_cat, xm_cati, xm_catr, xm_catl]) rfl rfl (st2 := fun o => .int (xm_J o.2) :: [xm_rf (xx_G X) x1]) (fun _ => rfl) (fun o4 k5 => ?_)
  refine xg_sputI hC rfl (Or.inl rfl) k5 (fun z => xm_kpO hI z.2.2) xl_F_X6_29 dX6_readInto_21 ?_
  refine xg_st (fun σ6 => ?_)
  refine xg_rload_n hC dX6_readInto_24 rfl ?_
  refine xg_aload_n hC dX6_readInto_25 rfl ?_
  refine xg_callV hC (ci := 5) (w_X6_takeNumber hI σ6 ) xl_M_X6_34 xl_V_X6_takeNumber (xm_hK (a := 4) (kd := 0) (n := 5) hI rfl).2 ((xm_hK (a := 4) (kd := 0) (n := 5) hI rfl).1 _) (by decide) rfl (by decide) ⟨by decide, by decide⟩ dX6_readInto_26 (rest := [xm_rf (xx_G X) x1]) rfl rfl (by simp [xm_rf_cat, xm_cati, xm_catr, xm_catl]) rfl rfl (st2 := fun o => .int (xm_J o.2) :: [xm_rf (xx_G X) x1]) (fun _ => rfl) (fun o7 k8 => ?_)
  refine xg_sputI hC rfl (Or.inl rfl) k8 (fun z => xm_kpO hI z.2.2) xl_F_X6_37 dX6_readInto_29 ?_
  refine xg_st (fun σ9 => ?_)
  refine xg_aload_n hC dX6_readInto_32 rfl ?_
  refine xg_rload_n hC dX6_readInto_33 rfl ?_
  refine xg_callV hC (ci := 5) (w_X6_takeWhatIsOf hI σ9 x1 ⟨h1.1, h1.2⟩) xl_M_X6_40 xl_V_X6_takeWhatIsOf (xm_hK (a := 4) (kd := 0) (n := 5) hI rfl).2 ((xm_hK (a := 4) (kd := 0) (n := 5) hI rfl).1 _) (by decide) rfl (by decide) ⟨by decide, by decide⟩ dX6_readInto_34 (rest := []) rfl rfl (Nat.le_of_ble_eq_true rfl) rfl rfl (st2 := fun o => []) (fun _ => rfl) (fun o10 k11 => ?_)
  refine xg_aload_n hC dX6_readInto_37 rfl ?_
  refine xg_callV hC (ci := 5) (w_X6_next hI o10.1 ) xl_M_X6_44 xl_V_X6_next (xm_hK (a := 4) (kd := 0) (n := 5) hI rfl).2 ((xm_hK (a := 4) (kd := 0) (n := 5) hI rfl).1 _) (by decide) rfl (by decide) ⟨by decide, by decide⟩ dX6_readInto_38 (rest := []) rfl rfl (Nat.le_of_ble_eq_true rfl) rfl rfl (st2 := fun o => []) (fun _ => rfl) (fun o12 k13 => ?_)
  refine xg_aload_n hC dX6_readInto_41 rfl ?_
  refine xg_getI hC (xm_hK hI rfl) rfl xl_F_X6_9 dX6_readInto_42 (fun k14 => ?_)
  refine xg_aload_n hC dX6_readInto_45 rfl ?_
  refine xg_getW hC (b := 2) (xm_hK hI rfl) rfl (xm_wK hI rfl) (by decide) xl_F_X6_21 dX6_readInto_46 ?_
  refine xg_callV hC (ci := 7) (w_X8_size hI o12.1 ) xl_M_X6_47 xl_V_X8_size (xm_hK (a := 2) (kd := 0) (n := 7) hI rfl).2 ((xm_hK (a := 2) (kd := 0) (n := 7) hI rfl).1 _) (by decide) rfl (by decide) ⟨by decide, by decide⟩ dX6_readInto_49 (rest := [.int (xm_J (o12.1.1 4 1))]) rfl rfl (Nat.le_of_ble_eq_true rfl) rfl rfl (st2 := fun o => .int (xm_J o.2) :: [.int (xm_J (o12.1.1 4 1))]) (fun _ => rfl) (fun o15 k16 => ?_)
  refine xg_icmp_ge hC k14 k16 59 dX6_readInto_52 rfl (fun c17 => ?_) (fun c18 => ?_)
  · refine xg_aload_n hC dX6_readInto_55 rfl ?_
    refine xg_callV hC (ci := 5) (w_X6_fail hI o15.1 ) xl_M_X6_52 xl_V_X6_fail (xm_hK (a := 4) (kd := 0) (n := 5) hI rfl).2 ((xm_hK (a := 4) (kd := 0) (n := 5) hI rfl).1 _) (by decide) rfl (by decide) ⟨by decide, by decide⟩ dX6_readInto_56 (rest := []) rfl rfl (Nat.le_of_ble_eq_true rfl) rfl rfl (st2 := fun o => []) (fun _ => rfl) (fun o19 k20 => ?_)
    refine xg_aload_n hC dX6_readInto_59 rfl ?_
    refine xg_getI hC (xm_hK hI rfl) rfl xl_F_X6_18 dX6_readInto_60 (fun k21 => ?_)
    exact xg_iret hC hQ k21 dX6_readInto_63
  refine xg_aload_n hC dX6_readInto_59 rfl ?_
  refine xg_getI hC (xm_hK hI rfl) rfl xl_F_X6_18 dX6_readInto_60 (fun k22 => ?_)
  exact xg_iret hC hQ k22 dX6_readInto_63
theorem w_X7_hasPerson {Γ : xm_Gm} {I : xm_Mem → Prop} {la : Launch} (hE : I = xm_I) (σ : xm_Mem) (x1 : Int) (h1 : xm_in x1) : ∀ o, f_X7_hasPerson σ x1 = some o → xm_M Γ I la yX7_hasPerson cX7_hasPerson 2 (some .boolean) 1 0 0 [.ref (xm_ad Γ 5), .int (xm_J x1)] σ 2 o := by
  refine xg_enter (by decide) (by simp [lg_sl, xm_rf_cat, xm_cati, xm_catr, xm_catl]) (fun X hG hI0 hla hC hQ hname => ?_)
  subst hG
  have hI := hI0.trans hE
  clear hI0 hla
  unfold f_X7_hasPerson
  refine xg_pick [0, 1] (l' := [(0, .ref (xm_ad (xx_G X) 5)), (1, .int (xm_J x1))]) rfl ?_
  refine xg_iload_n hC dX7_hasPerson_0 rfl ?_
  refine xg_if_lt hC h1 37 dX7_hasPerson_1 rfl (fun c1 => ?_) (fun c2 => ?_)
  · refine xg_iconst hC dX7_hasPerson_37 ?_
    exact xg_zret hC hQ (by decide) dX7_hasPerson_38
  refine xg_iload_n hC dX7_hasPerson_4 rfl ?_
  refine xg_aload_n hC dX7_hasPerson_5 rfl ?_
  refine xg_getI hC (xm_hK hI rfl) rfl xl_F_X7_27 dX7_hasPerson_6 (fun k3 => ?_)
  refine xg_icmp_ge hC h1 k3 37 dX7_hasPerson_9 rfl (fun c4 => ?_) (fun c5 => ?_)
  · refine xg_aload_n hC dX7_hasPerson_12 rfl ?_
    refine xg_getW hC (b := 7) (xm_hK hI rfl) rfl (xm_wK hI rfl) (by decide) xl_F_X7_17 dX7_hasPerson_13 ?_
    refine xg_iload_n hC dX7_hasPerson_16 rfl ?_
    refine xg_qald hC (xm_hK hI rfl) rfl h1 dX7_hasPerson_17 (fun b6 k7 => ?_)
    refine xg_ifnull hC 37 dX7_hasPerson_18 rfl (fun c8 => ?_) (fun c9 => ?_)
    · refine xg_iconst hC dX7_hasPerson_37 ?_
      exact xg_zret hC hQ (by decide) dX7_hasPerson_38
    refine xg_aload_n hC dX7_hasPerson_21 rfl ?_
    refine xg_getW hC (b := 7) (xm_hK hI rfl) rfl (xm_wK hI rfl) (by decide) xl_F_X7_17 dX7_hasPerson_22 ?_
    refine xg_iload_n hC dX7_hasPerson_25 rfl ?_
    refine xg_qald hC (xm_hK hI rfl) rfl h1 dX7_hasPerson_26 (fun b10 k11 => ?_)
    refine xg_sgetZ hC rfl xl_F_X7_37 dX7_hasPerson_27 (fun k12 => ?_)
    refine xg_if_eq hC (xm_in01 k12) 37 dX7_hasPerson_30 rfl (fun c13 => ?_) (fun c14 => ?_)
    · refine xg_iconst hC dX7_hasPerson_37 ?_
      exact xg_zret hC hQ (by decide) dX7_hasPerson_38
    refine xg_iconst hC dX7_hasPerson_33 ?_
    refine xg_goto hC 38 dX7_hasPerson_34 rfl ?_
    exact xg_zret hC hQ (by decide) dX7_hasPerson_38
  refine xg_iconst hC dX7_hasPerson_37 ?_
  exact xg_zret hC hQ (by decide) dX7_hasPerson_38
theorem w_X7_knowsPerson {Γ : xm_Gm} {I : xm_Mem → Prop} {la : Launch} (hE : I = xm_I) (σ : xm_Mem) (x1 : Int) (h1 : xm_in x1) : ∀ o, f_X7_knowsPerson σ x1 = some o → xm_M Γ I la yX7_knowsPerson cX7_knowsPerson 2 (some .boolean) 2 0 0 [.ref (xm_ad Γ 5), .int (xm_J x1)] σ 2 o := by
  refine xg_enter (by decide) (by simp [lg_sl, xm_rf_cat, xm_cati, xm_catr, xm_catl]) (fun X hG hI0 hla hC hQ hname => ?_)
  subst hG
  have hI := hI0.trans hE
  clear hI0 hla
  unfold f_X7_knowsPerson
  refine xg_pick [0, 1] (l' := [(0, .ref (xm_ad (xx_G X) 5)), (1, .int (xm_J x1))]) rfl ?_
  refine xg_iload_n hC dX7_knowsPerson_0 rfl ?_
  refine xg_iconst hC dX7_knowsPerson_1 ?_
  refine xg_icmp_eq hC h1 (xm_inc _ rfl) 13 dX7_knowsPerson_2 rfl (fun c1 => ?_) (fun c2 => ?_)
  · refine xg_iconst hC dX7_knowsPerson_13 ?_
    refine xg_goto hC 18 dX7_knowsPerson_14 rfl ?_
    exact xg_zret hC hQ (by decide) dX7_knowsPerson_18
  refine xg_aload_n hC dX7_knowsPerson_5 rfl ?_
  refine xg_iload_n hC dX7_knowsPerson_6 rfl ?_
  refine xg_callV hC (ci := 6) (w_X7_hasPerson hI σ x1 h1) xl_M_X7_69 xl_V_X7_hasPerson (xm_hK (a := 5) (kd := 0) (n := 6) hI rfl).2 ((xm_hK (a := 5) (kd := 0) (n := 6) hI rfl).1 _) (by decide) rfl (by decide) ⟨by decide, by decide⟩ dX7_knowsPerson_7 (rest := []) rfl rfl (Nat.le_of_ble_eq_true rfl) rfl rfl (st2 := fun o => .int (xm_J o.2) :: []) (fun _ => rfl) (fun o3 k4 => ?_)
  refine xg_if_eq hC (xm_in01 k4) 17 dX7_knowsPerson_10 rfl (fun c5 => ?_) (fun c6 => ?_)
  · refine xg_iconst hC dX7_knowsPerson_17 ?_
    exact xg_zret hC hQ (by decide) dX7_knowsPerson_18
  refine xg_iconst hC dX7_knowsPerson_13 ?_
  refine xg_goto hC 18 dX7_knowsPerson_14 rfl ?_
  exact xg_zret hC hQ (by decide) dX7_knowsPerson_18
theorem w_X7_grantOf {Γ : xm_Gm} {I : xm_Mem → Prop} {la : Launch} (hE : I = xm_I) (σ : xm_Mem) (x1 : Int) (h1 : xm_in x1) : ∀ o, f_X7_grantOf σ x1 = some o → xm_M Γ I la yX7_grantOf cX7_grantOf 3 (some (.object "HeirRoll$Entry")) 1 0 0 [.ref (xm_ad Γ 5), .int (xm_J x1)] σ 3 o := by
  refine xg_enter (by decide) (by simp [lg_sl, xm_rf_cat, xm_cati, xm_catr, xm_catl]) (fun X hG hI0 hla hC hQ hname => ?_)
  subst hG
  have hI := hI0.trans hE
  clear hI0 hla
  unfold f_X7_grantOf
  refine xg_pick [0, 1] (l' := [(0, .ref (xm_ad (xx_G X) 5)), (1, .int (xm_J x1))]) rfl ?_
  refine xg_iload_n hC dX7_grantOf_0 rfl ?_
  refine xg_if_lt hC h1 12 dX7_grantOf_1 rfl (fun c1 => ?_) (fun c2 => ?_)
  · refine xg_null hC dX7_grantOf_12 ?_
    exact xg_rret hC hQ (by decide) dX7_grantOf_13
  refine xg_iload_n hC dX7_grantOf_4 rfl ?_
  refine xg_aload_n hC dX7_grantOf_5 rfl ?_
  refine xg_getI hC (xm_hK hI rfl) rfl xl_F_X7_30 dX7_grantOf_6 (fun k3 => ?_)
  refine xg_icmp_lt hC h1 k3 14 dX7_grantOf_9 rfl (fun c4 => ?_) (fun c5 => ?_)
  · refine xg_aload_n hC dX7_grantOf_14 rfl ?_
    refine xg_getW hC (b := 8) (xm_hK hI rfl) rfl (xm_wK hI rfl) (by decide) xl_F_X7_20 dX7_grantOf_15 ?_
    refine xg_iload_n hC dX7_grantOf_18 rfl ?_
    refine xg_qald hC (xm_hK hI rfl) rfl h1 dX7_grantOf_19 (fun b6 k7 => ?_)
    refine xg_vR k7 (fun v8 k9 => ?_)
    refine xg_rstore_n hC (l' := [(2, xm_rf (xx_G X) v8), (0, .ref (xm_ad (xx_G X) 5)), (1, .int (xm_J x1))]) dX7_grantOf_20 (by decide) rfl ?_
    refine xg_rload_n hC dX7_grantOf_21 rfl ?_
    refine xg_ifnull hC 36 dX7_grantOf_22 rfl (fun c10 => ?_) (fun c11 => ?_)
    · refine xg_null hC dX7_grantOf_36 ?_
      exact xg_rret hC hQ (by decide) dX7_grantOf_37
    refine xg_rload_n hC dX7_grantOf_25 rfl ?_
    refine xg_sgetZ hC rfl xl_F_X7_37 dX7_grantOf_26 (fun k12 => ?_)
    refine xg_if_eq hC (xm_in01 k12) 36 dX7_grantOf_29 rfl (fun c13 => ?_) (fun c14 => ?_)
    · refine xg_null hC dX7_grantOf_36 ?_
      exact xg_rret hC hQ (by decide) dX7_grantOf_37
    refine xg_rload_n hC dX7_grantOf_32 rfl ?_
    refine xg_goto hC 37 dX7_grantOf_33 rfl ?_
    exact xg_rret hC hQ k9.1 dX7_grantOf_37
  refine xg_null hC dX7_grantOf_12 ?_
  exact xg_rret hC hQ (by decide) dX7_grantOf_13
theorem w_X7_hasTitle {Γ : xm_Gm} {I : xm_Mem → Prop} {la : Launch} (hE : I = xm_I) (σ : xm_Mem) (x1 : Int) (h1 : xm_in x1) : ∀ o, f_X7_hasTitle σ x1 = some o → xm_M Γ I la yX7_hasTitle cX7_hasTitle 2 (some .boolean) 2 0 0 [.ref (xm_ad Γ 5), .int (xm_J x1)] σ 2 o := by
  refine xg_enter (by decide) (by simp [lg_sl, xm_rf_cat, xm_cati, xm_catr, xm_catl]) (fun X hG hI0 hla hC hQ hname => ?_)
  subst hG
  have hI := hI0.trans hE
  clear hI0 hla
  unfold f_X7_hasTitle
  refine xg_pick [0, 1] (l' := [(0, .ref (xm_ad (xx_G X) 5)), (1, .int (xm_J x1))]) rfl ?_
  refine xg_aload_n hC dX7_hasTitle_0 rfl ?_
  refine xg_iload_n hC dX7_hasTitle_1 rfl ?_
  refine xg_callV hC (ci := 6) (w_X7_grantOf hI σ x1 h1) xl_M_X7_44 xl_V_X7_grantOf (xm_hK (a := 5) (kd := 0) (n := 6) hI rfl).2 ((xm_hK (a := 5) (kd := 0) (n := 6) hI rfl).1 _) (by decide) rfl (by decide) ⟨by decide, by decide⟩ dX7_hasTitle_2 (rest := []) rfl rfl (Nat.le_of_ble_eq_true rfl) rfl rfl (st2 := fun o => xm_rf (xx_G X) o.2 :: []) (fun _ => rfl) (fun o1 k2 => ?_)
  refine xg_ifnull hC 12 dX7_hasTitle_5 rfl (fun c3 => ?_) (fun c4 => ?_)
  · refine xg_iconst hC dX7_hasTitle_12 ?_
    exact xg_zret hC hQ (by decide) dX7_hasTitle_13
  refine xg_iconst hC dX7_hasTitle_8 ?_
  refine xg_goto hC 13 dX7_hasTitle_9 rfl ?_
  exact xg_zret hC hQ (by decide) dX7_hasTitle_13
theorem w_X7_knowsAllNamedBy {Γ : xm_Gm} {I : xm_Mem → Prop} {la : Launch} (hE : I = xm_I) (σ : xm_Mem) (x1 : Int) (h1 : 0 ≤ x1 ∧ xm_in x1) : ∀ o, f_X7_knowsAllNamedBy σ x1 = some o → xm_M Γ I la yX7_knowsAllNamedBy cX7_knowsAllNamedBy 2 (some .boolean) 3 0 0 [.ref (xm_ad Γ 5), xm_rf Γ x1] σ 2 o := by
  refine xg_enter (by decide) (by simp [lg_sl, xm_rf_cat, xm_cati, xm_catr, xm_catl]) (fun X hG hI0 hla hC hQ hname => ?_)
  subst hG
  have hI := hI0.trans hE
  clear hI0 hla
  unfold f_X7_knowsAllNamedBy
  refine xg_pick [0, 1] (l' := [(0, .ref (xm_ad (xx_G X) 5)), (1, xm_rf (xx_G X) x1)]) (by simp [lv_args, lv_pick, xm_rf_cat, xm_cati, xm_catr, xm_catl]) ?_
  refine xg_aload_n hC dX7_knowsAllNamedBy_0 rfl ?_
  refine xg_rload_n hC dX7_knowsAllNamedBy_1 rfl ?_
  refine xg_sgetI hC rfl xl_F_X7_47 dX7_knowsAllNamedBy_2 (fun k1 => ?_)
  refine xg_callV hC (ci := 6) (w_X7_knowsPerson hI σ (σ.1 x1.toNat 4) k1) xl_M_X7_50 xl_V_X7_knowsPerson (xm_hK (a := 5) (kd := 0) (n := 6) hI rfl).2 ((xm_hK (a := 5) (kd := 0) (n := 6) hI rfl).1 _) (by decide) rfl (by decide) ⟨by decide, by decide⟩ dX7_knowsAllNamedBy_5 (rest := []) rfl rfl (Nat.le_of_ble_eq_true rfl) rfl rfl (st2 := fun o => .int (xm_J o.2) :: []) (fun _ => rfl) (fun o2 k3 => ?_)
  refine xg_if_eq hC (xm_in01 k3) 67 dX7_knowsAllNamedBy_8 rfl (fun c4 => ?_) (fun c5 => ?_)
  · refine xg_iconst hC dX7_knowsAllNamedBy_67 ?_
    exact xg_zret hC hQ (by decide) dX7_knowsAllNamedBy_68
  refine xg_aload_n hC dX7_knowsAllNamedBy_11 rfl ?_
  refine xg_rload_n hC dX7_knowsAllNamedBy_12 rfl ?_
  refine xg_sgetI hC rfl xl_F_X7_54 dX7_knowsAllNamedBy_13 (fun k6 => ?_)
  refine xg_callV hC (ci := 6) (w_X7_knowsPerson hI o2.1 (o2.1.1 x1.toNat 5) k6) xl_M_X7_50 xl_V_X7_knowsPerson (xm_hK (a := 5) (kd := 0) (n := 6) hI rfl).2 ((xm_hK (a := 5) (kd := 0) (n := 6) hI rfl).1 _) (by decide) rfl (by decide) ⟨by decide, by decide⟩ dX7_knowsAllNamedBy_16 (rest := []) rfl rfl (Nat.le_of_ble_eq_true rfl) rfl rfl (st2 := fun o => .int (xm_J o.2) :: []) (fun _ => rfl) (fun o7 k8 => ?_)
  refine xg_if_eq hC (xm_in01 k8) 67 dX7_knowsAllNamedBy_19 rfl (fun c9 => ?_) (fun c10 => ?_)
  · refine xg_iconst hC dX7_knowsAllNamedBy_67 ?_
    exact xg_zret hC hQ (by decide) dX7_knowsAllNamedBy_68
  refine xg_aload_n hC dX7_knowsAllNamedBy_22 rfl ?_
  refine xg_rload_n hC dX7_knowsAllNamedBy_23 rfl ?_
  refine xg_sgetI hC rfl xl_F_X7_57 dX7_knowsAllNamedBy_24 (fun k11 => ?_)
  refine xg_callV hC (ci := 6) (w_X7_knowsPerson hI o7.1 (o7.1.1 x1.toNat 2) k11) xl_M_X7_50 xl_V_X7_knowsPerson (xm_hK (a := 5) (kd := 0) (n := 6) hI rfl).2 ((xm_hK (a := 5) (kd := 0) (n := 6) hI rfl).1 _) (by decide) rfl (by decide) ⟨by decide, by decide⟩ dX7_knowsAllNamedBy_27 (rest := []) rfl rfl (Nat.le_of_ble_eq_true rfl) rfl rfl (st2 := fun o => .int (xm_J o.2) :: []) (fun _ => rfl) (fun o12 k13 => ?_)
  refine xg_if_eq hC (xm_in01 k13) 67 dX7_knowsAllNamedBy_30 rfl (fun c14 => ?_) (fun c15 => ?_)
  · refine xg_iconst hC dX7_knowsAllNamedBy_67 ?_
    exact xg_zret hC hQ (by decide) dX7_knowsAllNamedBy_68
  refine xg_aload_n hC dX7_knowsAllNamedBy_33 rfl ?_
  refine xg_rload_n hC dX7_knowsAllNamedBy_34 rfl ?_
  refine xg_sgetI hC rfl xl_F_X7_60 dX7_knowsAllNamedBy_35 (fun k16 => ?_)
  refine xg_callV hC (ci := 6) (w_X7_knowsPerson hI o12.1 (o12.1.1 x1.toNat 3) k16) xl_M_X7_50 xl_V_X7_knowsPerson (xm_hK (a := 5) (kd := 0) (n := 6) hI rfl).2 ((xm_hK (a := 5) (kd := 0) (n := 6) hI rfl).1 _) (by decide) rfl (by decide) ⟨by decide, by decide⟩ dX7_knowsAllNamedBy_38 (rest := []) rfl rfl (Nat.le_of_ble_eq_true rfl) rfl rfl (st2 := fun o => .int (xm_J o.2) :: []) (fun _ => rfl) (fun o17 k18 => ?_)
  refine xg_if_eq hC (xm_in01 k18) 67 dX7_knowsAllNamedBy_41 rfl (fun c19 => ?_) (fun c20 => ?_)
  · refine xg_iconst hC dX7_knowsAllNamedBy_67 ?_
    exact xg_zret hC hQ (by decide) dX7_knowsAllNamedBy_68
  refine xg_rload_n hC dX7_knowsAllNamedBy_44 rfl ?_
  refine xg_sgetI hC rfl xl_F_X7_63 dX7_knowsAllNamedBy_45 (fun k21 => ?_)
  refine xg_iconst hC dX7_knowsAllNamedBy_48 ?_
  refine xg_icmp_eq hC k21 (xm_inc _ rfl) 63 dX7_knowsAllNamedBy_49 rfl (fun c22 => ?_) (fun c23 => ?_)
  · refine xg_iconst hC dX7_knowsAllNamedBy_63 ?_
    refine xg_goto hC 68 dX7_knowsAllNamedBy_64 rfl ?_
    exact xg_zret hC hQ (by decide) dX7_knowsAllNamedBy_68
  refine xg_aload_n hC dX7_knowsAllNamedBy_52 rfl ?_
  refine xg_rload_n hC dX7_knowsAllNamedBy_53 rfl ?_
  refine xg_sgetI hC rfl xl_F_X7_63 dX7_knowsAllNamedBy_54 (fun k24 => ?_)
  refine xg_callV hC (ci := 6) (w_X7_hasTitle hI o17.1 (o17.1.1 x1.toNat 6) k24) xl_M_X7_66 xl_V_X7_hasTitle (xm_hK (a := 5) (kd := 0) (n := 6) hI rfl).2 ((xm_hK (a := 5) (kd := 0) (n := 6) hI rfl).1 _) (by decide) rfl (by decide) ⟨by decide, by decide⟩ dX7_knowsAllNamedBy_57 (rest := []) rfl rfl (Nat.le_of_ble_eq_true rfl) rfl rfl (st2 := fun o => .int (xm_J o.2) :: []) (fun _ => rfl) (fun o25 k26 => ?_)
  refine xg_if_eq hC (xm_in01 k26) 67 dX7_knowsAllNamedBy_60 rfl (fun c27 => ?_) (fun c28 => ?_)
  · refine xg_iconst hC dX7_knowsAllNamedBy_67 ?_
    exact xg_zret hC hQ (by decide) dX7_knowsAllNamedBy_68
  refine xg_iconst hC dX7_knowsAllNamedBy_63 ?_
  refine xg_goto hC 68 dX7_knowsAllNamedBy_64 rfl ?_
  exact xg_zret hC hQ (by decide) dX7_knowsAllNamedBy_68
theorem w_X7_hasRoomFor {Γ : xm_Gm} {I : xm_Mem → Prop} {la : Launch} (hE : I = xm_I) (σ : xm_Mem) (x1 : Int) (h1 : 0 ≤ x1 ∧ xm_in x1) : ∀ o, f_X7_hasRoomFor σ x1 = some o → xm_M Γ I la yX7_hasRoomFor cX7_hasRoomFor 2 (some .boolean) 1 0 0 [.ref (xm_ad Γ 5), xm_rf Γ x1] σ 2 o := by
  refine xg_enter (by decide) (by simp [lg_sl, xm_rf_cat, xm_cati, xm_catr, xm_catl]) (fun X hG hI0 hla hC hQ hname => ?_)
  subst hG
  have hI := hI0.trans hE
  clear hI0 hla
  unfold f_X7_hasRoomFor
  refine xg_pick [0, 1] (l' := [(0, .ref (xm_ad (xx_G X) 5)), (1, xm_rf (xx_G X) x1)]) (by simp [lv_args, lv_pick, xm_rf_cat, xm_cati, xm_catr, xm_catl]) ?_
  refine xg_aload_n hC dX7_hasRoomFor_0 rfl ?_
  refine xg_getI hC (xm_hK hI rfl) rfl xl_F_X7_23 dX7_hasRoomFor_1 (fun k1 => ?_)
  refine xg_sipush hC dX7_hasRoomFor_4 (by decide) ?_
  refine xg_icmp_lt hC k1 (xm_inc _ rfl) 12 dX7_hasRoomFor_7 rfl (fun c2 => ?_) (fun c3 => ?_)
  · refine xg_rload_n hC dX7_hasRoomFor_12 rfl ?_
    refine xg_sgetI hC rfl xl_F_X7_72 dX7_hasRoomFor_13 (fun k4 => ?_)
    refine xg_if_ne hC k4 34 dX7_hasRoomFor_16 rfl (fun c5 => ?_) (fun c6 => ?_)
    · refine xg_aload_n hC dX7_hasRoomFor_19 rfl ?_
      refine xg_getI hC (xm_hK hI rfl) rfl xl_F_X7_27 dX7_hasRoomFor_20 (fun k7 => ?_)
      refine xg_bipush hC dX7_hasRoomFor_23 (by decide) ?_
      refine xg_icmp_ge hC k7 (xm_inc _ rfl) 32 dX7_hasRoomFor_25 rfl (fun c8 => ?_) (fun c9 => ?_)
      · refine xg_iconst hC dX7_hasRoomFor_28 ?_
        refine xg_goto hC 33 dX7_hasRoomFor_29 rfl ?_
        exact xg_zret hC hQ (by decide) dX7_hasRoomFor_33
      refine xg_iconst hC dX7_hasRoomFor_32 ?_
      exact xg_zret hC hQ (by decide) dX7_hasRoomFor_33
    refine xg_rload_n hC dX7_hasRoomFor_34 rfl ?_
    refine xg_sgetI hC rfl xl_F_X7_72 dX7_hasRoomFor_35 (fun k10 => ?_)
    refine xg_iconst hC dX7_hasRoomFor_38 ?_
    refine xg_icmp_ne hC k10 (xm_inc _ rfl) 51 dX7_hasRoomFor_39 rfl (fun c11 => ?_) (fun c12 => ?_)
    · refine xg_aload_n hC dX7_hasRoomFor_42 rfl ?_
      refine xg_getI hC (xm_hK hI rfl) rfl xl_F_X7_30 dX7_hasRoomFor_43 (fun k13 => ?_)
      refine xg_bipush hC dX7_hasRoomFor_46 (by decide) ?_
      refine xg_icmp_ge hC k13 (xm_inc _ rfl) 55 dX7_hasRoomFor_48 rfl (fun c14 => ?_) (fun c15 => ?_)
      · refine xg_iconst hC dX7_hasRoomFor_51 ?_
        refine xg_goto hC 56 dX7_hasRoomFor_52 rfl ?_
        exact xg_zret hC hQ (by decide) dX7_hasRoomFor_56
      refine xg_iconst hC dX7_hasRoomFor_55 ?_
      exact xg_zret hC hQ (by decide) dX7_hasRoomFor_56
    refine xg_iconst hC dX7_hasRoomFor_51 ?_
    refine xg_goto hC 56 dX7_hasRoomFor_52 rfl ?_
    exact xg_zret hC hQ (by decide) dX7_hasRoomFor_56
  refine xg_iconst hC dX7_hasRoomFor_10 ?_
  exact xg_zret hC hQ (by decide) dX7_hasRoomFor_11
theorem w_X7_add_j74 {X : xm_X} (hC : xm_C X yX7_add.cls cX7_add 2 2 0 0) (hQ : xm_Rt X 0 none 0 0) (hI : xx_I X = xm_I)   (σ : xm_Mem) (x1 : Int) (h1 : 0 ≤ x1 ∧ xm_in x1) : xm_V X 0 0 (f_X7_add_j74  σ x1) σ 74 [(0, .ref (xm_ad (xx_G X) 5)), (1, xm_rf (xx_G X) x1)] [] := by
  unfold f_X7_add_j74
  refine xg_aload_n hC dX7_add_74 rfl ?_
  refine xg_getW hC (b := 6) (xm_hK hI rfl) rfl (xm_wK hI rfl) (by decide) xl_F_X7_11 dX7_add_75 ?_
  refine xg_aload_n hC dX7_add_78 rfl ?_
  refine xg_dup hC dX7_add_79 rfl ?_
  refine xg_getI hC (xm_hK hI rfl) rfl xl_F_X7_23 dX7_add_80 (fun k25 => ?_)
  refine xg_vI k25 (fun v26 k27 => ?_)
  refine xg_dup_x1 hC dX7_add_83 rfl rfl ?_
  refine xg_iconst hC dX7_add_84 ?_
  refine xg_iadd hC dX7_add_85 ?_
  refine xg_putI hC (xm_hK hI rfl) rfl rfl (xm_w_in _) (xm_kpK hI rfl) xl_F_X7_23 dX7_add_86 ?_
  refine xg_st (fun σ28 => ?_)
  refine xg_rload_n hC dX7_add_89 rfl ?_
  refine xg_qast hC (xm_hK hI rfl) rfl k27 h1.2 (xm_kpF hI rfl) dX7_add_90 ?_
  refine xg_st (fun σ29 => ?_)
  exact xg_vret hC hQ dX7_add_91
theorem w_X7_add_j41 {X : xm_X} (hC : xm_C X yX7_add.cls cX7_add 2 2 0 0) (hQ : xm_Rt X 0 none 0 0) (hI : xx_I X = xm_I)   (σ : xm_Mem) (x1 : Int) (h1 : 0 ≤ x1 ∧ xm_in x1) : xm_V X 0 0 (f_X7_add_j41  σ x1) σ 41 [(0, .ref (xm_ad (xx_G X) 5)), (1, xm_rf (xx_G X) x1)] [] := by
  unfold f_X7_add_j41
  refine xg_rload_n hC dX7_add_41 rfl ?_
  refine xg_sgetI hC rfl xl_F_X7_72 dX7_add_42 (fun k15 => ?_)
  refine xg_iconst hC dX7_add_45 ?_
  refine xg_icmp_ne hC k15 (xm_inc _ rfl) 74 dX7_add_46 rfl (fun c16 => ?_) (fun c17 => ?_)
  · refine xg_rload_n hC dX7_add_49 rfl ?_
    refine xg_aload_n hC dX7_add_50 rfl ?_
    refine xg_getI hC (xm_hK hI rfl) rfl xl_F_X7_30 dX7_add_51 (fun k18 => ?_)
    refine xg_sputI hC rfl (Or.inl rfl) k18 (fun z => xm_kpO hI z.2.2) xl_F_X7_63 dX7_add_54 ?_
    refine xg_st (fun σ19 => ?_)
    refine xg_aload_n hC dX7_add_57 rfl ?_
    refine xg_getW hC (b := 8) (xm_hK hI rfl) rfl (xm_wK hI rfl) (by decide) xl_F_X7_20 dX7_add_58 ?_
    refine xg_aload_n hC dX7_add_61 rfl ?_
    refine xg_dup hC dX7_add_62 rfl ?_
    refine xg_getI hC (xm_hK hI rfl) rfl xl_F_X7_30 dX7_add_63 (fun k20 => ?_)
    refine xg_vI k20 (fun v21 k22 => ?_)
    refine xg_dup_x1 hC dX7_add_66 rfl rfl ?_
    refine xg_iconst hC dX7_add_67 ?_
    refine xg_iadd hC dX7_add_68 ?_
    refine xg_putI hC (xm_hK hI rfl) rfl rfl (xm_w_in _) (xm_kpK hI rfl) xl_F_X7_30 dX7_add_69 ?_
    refine xg_st (fun σ23 => ?_)
    refine xg_rload_n hC dX7_add_72 rfl ?_
    refine xg_qast hC (xm_hK hI rfl) rfl k22 h1.2 (xm_kpF hI rfl) dX7_add_73 ?_
    refine xg_st (fun σ24 => ?_)
    exact (w_X7_add_j74 hC hQ hI σ24 x1 ⟨h1.1, h1.2⟩)
  exact (w_X7_add_j74 hC hQ hI σ x1 ⟨h1.1, h1.2⟩)
theorem w_X7_add {Γ : xm_Gm} {I : xm_Mem → Prop} {la : Launch} (hE : I = xm_I) (σ : xm_Mem) (x1 : Int) (h1 : 0 ≤ x1 ∧ xm_in x1) : ∀ o, f_X7_add σ x1 = some o → xm_M Γ I la yX7_add cX7_add 2 none 2 0 0 [.ref (xm_ad Γ 5), xm_rf Γ x1] σ 0 o := by
  refine xg_enter (by decide) (by simp [lg_sl, xm_rf_cat, xm_cati, xm_catr, xm_catl]) (fun X hG hI0 hla hC hQ hname => ?_)
  subst hG
  have hI := hI0.trans hE
  clear hI0 hla
  unfold f_X7_add
  refine xg_pick [0, 1] (l' := [(0, .ref (xm_ad (xx_G X) 5)), (1, xm_rf (xx_G X) x1)]) (by simp [lv_args, lv_pick, xm_rf_cat, xm_cati, xm_catr, xm_catl]) ?_
  refine xg_aload_n hC dX7_add_0 rfl ?_
  refine xg_rload_n hC dX7_add_1 rfl ?_
  refine xg_callV hC (ci := 6) (w_X7_hasRoomFor hI σ x1 ⟨h1.1, h1.2⟩) xl_M_X7_75 xl_V_X7_hasRoomFor (xm_hK (a := 5) (kd := 0) (n := 6) hI rfl).2 ((xm_hK (a := 5) (kd := 0) (n := 6) hI rfl).1 _) (by decide) rfl (by decide) ⟨by decide, by decide⟩ dX7_add_2 (rest := []) rfl rfl (Nat.le_of_ble_eq_true rfl) rfl rfl (st2 := fun o => .int (xm_J o.2) :: []) (fun _ => rfl) (fun o1 k2 => ?_)
  refine xg_if_ne hC (xm_in01 k2) 9 dX7_add_5 rfl (fun c3 => ?_) (fun c4 => ?_)
  · exact xg_vret hC hQ dX7_add_8
  refine xg_rload_n hC dX7_add_9 rfl ?_
  refine xg_sgetI hC rfl xl_F_X7_72 dX7_add_10 (fun k5 => ?_)
  refine xg_if_ne hC k5 41 dX7_add_13 rfl (fun c6 => ?_) (fun c7 => ?_)
  · refine xg_rload_n hC dX7_add_16 rfl ?_
    refine xg_aload_n hC dX7_add_17 rfl ?_
    refine xg_getI hC (xm_hK hI rfl) rfl xl_F_X7_27 dX7_add_18 (fun k8 => ?_)
    refine xg_sputI hC rfl (Or.inl rfl) k8 (fun z => xm_kpO hI z.2.2) xl_F_X7_57 dX7_add_21 ?_
    refine xg_st (fun σ9 => ?_)
    refine xg_aload_n hC dX7_add_24 rfl ?_
    refine xg_getW hC (b := 7) (xm_hK hI rfl) rfl (xm_wK hI rfl) (by decide) xl_F_X7_17 dX7_add_25 ?_
    refine xg_aload_n hC dX7_add_28 rfl ?_
    refine xg_dup hC dX7_add_29 rfl ?_
    refine xg_getI hC (xm_hK hI rfl) rfl xl_F_X7_27 dX7_add_30 (fun k10 => ?_)
    refine xg_vI k10 (fun v11 k12 => ?_)
    refine xg_dup_x1 hC dX7_add_33 rfl rfl ?_
    refine xg_iconst hC dX7_add_34 ?_
    refine xg_iadd hC dX7_add_35 ?_
    refine xg_putI hC (xm_hK hI rfl) rfl rfl (xm_w_in _) (xm_kpK hI rfl) xl_F_X7_27 dX7_add_36 ?_
    refine xg_st (fun σ13 => ?_)
    refine xg_rload_n hC dX7_add_39 rfl ?_
    refine xg_qast hC (xm_hK hI rfl) rfl k12 h1.2 (xm_kpF hI rfl) dX7_add_40 ?_
    refine xg_st (fun σ14 => ?_)
    exact (w_X7_add_j41 hC hQ hI σ14 x1 ⟨h1.1, h1.2⟩)
  exact (w_X7_add_j41 hC hQ hI o1.1 x1 ⟨h1.1, h1.2⟩)
theorem w_X7_size {Γ : xm_Gm} {I : xm_Mem → Prop} {la : Launch} (hE : I = xm_I) (σ : xm_Mem)   : ∀ o, f_X7_size σ  = some o → xm_M Γ I la yX7_size cX7_size 1 (some .int) 1 0 0 [.ref (xm_ad Γ 5)] σ 1 o := by
  refine xg_enter (by decide) (by simp [lg_sl, xm_rf_cat, xm_cati, xm_catr, xm_catl]) (fun X hG hI0 hla hC hQ hname => ?_)
  subst hG
  have hI := hI0.trans hE
  clear hI0 hla
  unfold f_X7_size
  refine xg_pick [0] (l' := [(0, .ref (xm_ad (xx_G X) 5))]) rfl ?_
  refine xg_aload_n hC dX7_size_0 rfl ?_
  refine xg_getI hC (xm_hK hI rfl) rfl xl_F_X7_23 dX7_size_1 (fun k1 => ?_)
  exact xg_iret hC hQ k1 dX7_size_4
theorem w_X7_taken {Γ : xm_Gm} {I : xm_Mem → Prop} {la : Launch} (hE : I = xm_I) (σ : xm_Mem) (x1 : Int) (h1 : xm_in x1) : ∀ o, f_X7_taken σ x1 = some o → xm_M Γ I la yX7_taken cX7_taken 2 (some (.object "HeirRoll$Entry")) 1 0 0 [.ref (xm_ad Γ 5), .int (xm_J x1)] σ 3 o := by
  refine xg_enter (by decide) (by simp [lg_sl, xm_rf_cat, xm_cati, xm_catr, xm_catl]) (fun X hG hI0 hla hC hQ hname => ?_)
  subst hG
  have hI := hI0.trans hE
  clear hI0 hla
  unfold f_X7_taken
  refine xg_pick [0, 1] (l' := [(0, .ref (xm_ad (xx_G X) 5)), (1, .int (xm_J x1))]) rfl ?_
  refine xg_iload_n hC dX7_taken_0 rfl ?_
  refine xg_if_lt hC h1 21 dX7_taken_1 rfl (fun c1 => ?_) (fun c2 => ?_)
  · refine xg_null hC dX7_taken_21 ?_
    exact xg_rret hC hQ (by decide) dX7_taken_22
  refine xg_iload_n hC dX7_taken_4 rfl ?_
  refine xg_aload_n hC dX7_taken_5 rfl ?_
  refine xg_getI hC (xm_hK hI rfl) rfl xl_F_X7_23 dX7_taken_6 (fun k3 => ?_)
  refine xg_icmp_ge hC h1 k3 21 dX7_taken_9 rfl (fun c4 => ?_) (fun c5 => ?_)
  · refine xg_aload_n hC dX7_taken_12 rfl ?_
    refine xg_getW hC (b := 6) (xm_hK hI rfl) rfl (xm_wK hI rfl) (by decide) xl_F_X7_11 dX7_taken_13 ?_
    refine xg_iload_n hC dX7_taken_16 rfl ?_
    refine xg_qald hC (xm_hK hI rfl) rfl h1 dX7_taken_17 (fun b6 k7 => ?_)
    refine xg_goto hC 22 dX7_taken_18 rfl ?_
    exact xg_rret hC hQ k7 dX7_taken_22
  refine xg_null hC dX7_taken_21 ?_
  exact xg_rret hC hQ (by decide) dX7_taken_22
theorem w_X7_standing {Γ : xm_Gm} {I : xm_Mem → Prop} {la : Launch} (hE : I = xm_I) (σ : xm_Mem) (x1 : Int) (h1 : xm_in x1) : ∀ o, f_X7_standing σ x1 = some o → xm_M Γ I la yX7_standing cX7_standing 3 (some (.object "HeirRoll$Entry")) 2 0 0 [.ref (xm_ad Γ 5), .int (xm_J x1)] σ 3 o := by
  refine xg_enter (by decide) (by simp [lg_sl, xm_rf_cat, xm_cati, xm_catr, xm_catl]) (fun X hG hI0 hla hC hQ hname => ?_)
  subst hG
  have hI := hI0.trans hE
  clear hI0 hla
  unfold f_X7_standing
  refine xg_pick [0, 1] (l' := [(0, .ref (xm_ad (xx_G X) 5)), (1, .int (xm_J x1))]) rfl ?_
  refine xg_aload_n hC dX7_standing_0 rfl ?_
  refine xg_iload_n hC dX7_standing_1 rfl ?_
  refine xg_callV hC (ci := 6) (w_X7_taken hI σ x1 h1) xl_M_X7_33 xl_V_X7_taken (xm_hK (a := 5) (kd := 0) (n := 6) hI rfl).2 ((xm_hK (a := 5) (kd := 0) (n := 6) hI rfl).1 _) (by decide) rfl (by decide) ⟨by decide, by decide⟩ dX7_standing_2 (rest := []) rfl rfl (Nat.le_of_ble_eq_true rfl) rfl rfl (st2 := fun o => xm_rf (xx_G X) o.2 :: []) (fun _ => rfl) (fun o1 k2 => ?_)
  refine xg_vR k2 (fun v3 k4 => ?_)
  refine xg_rstore_n hC (l' := [(2, xm_rf (xx_G X) v3), (0, .ref (xm_ad (xx_G X) 5)), (1, .int (xm_J x1))]) dX7_standing_5 (by decide) rfl ?_
  refine xg_rload_n hC dX7_standing_6 rfl ?_
  refine xg_ifnull hC 21 dX7_standing_7 rfl (fun c5 => ?_) (fun c6 => ?_)
  · refine xg_null hC dX7_standing_21 ?_
    exact xg_rret hC hQ (by decide) dX7_standing_22
  refine xg_rload_n hC dX7_standing_10 rfl ?_
  refine xg_sgetZ hC rfl xl_F_X7_37 dX7_standing_11 (fun k7 => ?_)
  refine xg_if_eq hC (xm_in01 k7) 21 dX7_standing_14 rfl (fun c8 => ?_) (fun c9 => ?_)
  · refine xg_null hC dX7_standing_21 ?_
    exact xg_rret hC hQ (by decide) dX7_standing_22
  refine xg_rload_n hC dX7_standing_17 rfl ?_
  refine xg_goto hC 22 dX7_standing_18 rfl ?_
  exact xg_rret hC hQ k4.1 dX7_standing_22
theorem w_X10_isPersonNumber {Γ : xm_Gm} {I : xm_Mem → Prop} {la : Launch} (hE : I = xm_I) (σ : xm_Mem) (x0 : Int) (h0 : xm_in x0) : ∀ o, f_X10_isPersonNumber σ x0 = some o → xm_M Γ I la yX10_isPersonNumber cX10_isPersonNumber 1 (some .boolean) 1 0 0 [.int (xm_J x0)] σ 2 o := by
  refine xg_enter (by decide) (by simp [lg_sl, xm_rf_cat, xm_cati, xm_catr, xm_catl]) (fun X hG hI0 hla hC hQ hname => ?_)
  subst hG
  have hI := hI0.trans hE
  clear hI0 hla
  unfold f_X10_isPersonNumber
  refine xg_pick [0] (l' := [(0, .int (xm_J x0))]) rfl ?_
  refine xg_iload_n hC dX10_isPersonNumber_0 rfl ?_
  refine xg_if_lt hC h0 14 dX10_isPersonNumber_1 rfl (fun c1 => ?_) (fun c2 => ?_)
  · refine xg_iconst hC dX10_isPersonNumber_14 ?_
    exact xg_zret hC hQ (by decide) dX10_isPersonNumber_15
  refine xg_iload_n hC dX10_isPersonNumber_4 rfl ?_
  refine xg_bipush hC dX10_isPersonNumber_5 (by decide) ?_
  refine xg_icmp_ge hC h0 (xm_inc _ rfl) 14 dX10_isPersonNumber_7 rfl (fun c3 => ?_) (fun c4 => ?_)
  · refine xg_iconst hC dX10_isPersonNumber_10 ?_
    refine xg_goto hC 15 dX10_isPersonNumber_11 rfl ?_
    exact xg_zret hC hQ (by decide) dX10_isPersonNumber_15
  refine xg_iconst hC dX10_isPersonNumber_14 ?_
  exact xg_zret hC hQ (by decide) dX10_isPersonNumber_15
theorem w_X5_takeBirth {Γ : xm_Gm} {I : xm_Mem → Prop} {la : Launch} (hE : I = xm_I) (σ : xm_Mem) (x1 : Int) (x2 : Int) (h1 : 0 ≤ x1 ∧ xm_in x1) (h2 : xm_in x2) : ∀ o, f_X5_takeBirth σ x1 x2 = some o → xm_M Γ I la yX5_takeBirth cX5_takeBirth 3 none 1 0 0 [.ref (xm_ad Γ 9), xm_rf Γ x1, .int (xm_J x2)] σ 0 o := by
  refine xg_enter (by decide) (by simp [lg_sl, xm_rf_cat, xm_cati, xm_catr, xm_catl]) (fun X hG hI0 hla hC hQ hname => ?_)
  subst hG
  have hI := hI0.trans hE
  clear hI0 hla
  unfold f_X5_takeBirth
  refine xg_pick [0, 1, 2] (l' := [(0, .ref (xm_ad (xx_G X) 9)), (1, xm_rf (xx_G X) x1), (2, .int (xm_J x2))]) (by simp [lv_args, lv_pick, xm_rf_cat, xm_cati, xm_catr, xm_catl]) ?_
  refine xg_aload_n hC dX5_takeBirth_0 rfl ?_
  refine xg_getW hC (b := 10) (xm_hK hI rfl) rfl (xm_wK hI rfl) (by decide) xl_F_X5_9 dX5_takeBirth_1 ?_
  refine xg_iload_n hC dX5_takeBirth_4 rfl ?_
  refine xg_iconst hC dX5_takeBirth_5 ?_
  refine xg_zast hC (xm_hK hI rfl) rfl h2 (by decide) (xm_kpF hI rfl) dX5_takeBirth_6 ?_
  refine xg_st (fun σ1 => ?_)
  refine xg_aload_n hC dX5_takeBirth_7 rfl ?_
  refine xg_getW hC (b := 11) (xm_hK hI rfl) rfl (xm_wK hI rfl) (by decide) xl_F_X5_15 dX5_takeBirth_8 ?_
  refine xg_iload_n hC dX5_takeBirth_11 rfl ?_
  refine xg_rload_n hC dX5_takeBirth_12 rfl ?_
  refine xg_sgetZ hC rfl xl_F_X5_67 dX5_takeBirth_13 (fun k2 => ?_)
  refine xg_zast hC (xm_hK hI rfl) rfl h2 k2 (xm_kpF hI rfl) dX5_takeBirth_16 ?_
  refine xg_st (fun σ3 => ?_)
  refine xg_aload_n hC dX5_takeBirth_17 rfl ?_
  refine xg_getW hC (b := 12) (xm_hK hI rfl) rfl (xm_wK hI rfl) (by decide) xl_F_X5_18 dX5_takeBirth_18 ?_
  refine xg_iload_n hC dX5_takeBirth_21 rfl ?_
  refine xg_rload_n hC dX5_takeBirth_22 rfl ?_
  refine xg_sgetI hC rfl xl_F_X5_64 dX5_takeBirth_23 (fun k4 => ?_)
  refine xg_iast hC (xm_hK hI rfl) rfl h2 k4 (xm_kpF hI rfl) dX5_takeBirth_26 ?_
  refine xg_st (fun σ5 => ?_)
  refine xg_aload_n hC dX5_takeBirth_27 rfl ?_
  refine xg_getW hC (b := 14) (xm_hK hI rfl) rfl (xm_wK hI rfl) (by decide) xl_F_X5_25 dX5_takeBirth_28 ?_
  refine xg_iload_n hC dX5_takeBirth_31 rfl ?_
  refine xg_rload_n hC dX5_takeBirth_32 rfl ?_
  refine xg_sgetI hC rfl xl_F_X5_70 dX5_takeBirth_33 (fun k6 => ?_)
  refine xg_iast hC (xm_hK hI rfl) rfl h2 k6 (xm_kpF hI rfl) dX5_takeBirth_36 ?_
  refine xg_st (fun σ7 => ?_)
  refine xg_aload_n hC dX5_takeBirth_37 rfl ?_
  refine xg_getW hC (b := 15) (xm_hK hI rfl) rfl (xm_wK hI rfl) (by decide) xl_F_X5_28 dX5_takeBirth_38 ?_
  refine xg_iload_n hC dX5_takeBirth_41 rfl ?_
  refine xg_rload_n hC dX5_takeBirth_42 rfl ?_
  refine xg_sgetI hC rfl xl_F_X5_73 dX5_takeBirth_43 (fun k8 => ?_)
  refine xg_iast hC (xm_hK hI rfl) rfl h2 k8 (xm_kpF hI rfl) dX5_takeBirth_46 ?_
  refine xg_st (fun σ9 => ?_)
  exact xg_vret hC hQ dX5_takeBirth_47
theorem w_X5_rebuild_b2 {X : xm_X} (hC : xm_C X yX5_rebuild.cls cX5_rebuild 4 3 0 0) (hQ : xm_Rt X 0 none 0 0) (hI : xx_I X = xm_I) {K56 : xm_Mem → Option xm_Out} (hK56 : ∀ (σ : xm_Mem), xm_V X 0 0 (K56 σ ) σ 56 [(0, .ref (xm_ad (xx_G X) 9)), (1, .ref (xm_ad (xx_G X) 5))] []) {self : xm_Mem → Int → Option xm_Out} (hself : ∀ (σ : xm_Mem) (x2 : Int), xm_in x2 → xm_V X 0 0 (self σ x2) σ 2 [(0, .ref (xm_ad (xx_G X) 9)), (1, .ref (xm_ad (xx_G X) 5)), (2, .int (xm_J x2))] []) (σ : xm_Mem) (x2 : Int) (h2 : xm_in x2) : xm_V X 0 0 (f_X5_rebuild_b2 K56 self σ x2) σ 2 [(0, .ref (xm_ad (xx_G X) 9)), (1, .ref (xm_ad (xx_G X) 5)), (2, .int (xm_J x2))] [] := by
  unfold f_X5_rebuild_b2
  refine xg_iload_n hC dX5_rebuild_2 rfl ?_
  refine xg_bipush hC dX5_rebuild_3 (by decide) ?_
  refine xg_icmp_ge hC h2 (xm_inc _ rfl) 56 dX5_rebuild_5 rfl (fun c1 => ?_) (fun c2 => ?_)
  · refine xg_aload_n hC dX5_rebuild_8 rfl ?_
    refine xg_getW hC (b := 10) (xm_hK hI rfl) rfl (xm_wK hI rfl) (by decide) xl_F_X5_9 dX5_rebuild_9 ?_
    refine xg_iload_n hC dX5_rebuild_12 rfl ?_
    refine xg_iconst hC dX5_rebuild_13 ?_
    refine xg_zast hC (xm_hK hI rfl) rfl h2 (by decide) (xm_kpF hI rfl) dX5_rebuild_14 ?_
    refine xg_st (fun σ3 => ?_)
    refine xg_aload_n hC dX5_rebuild_15 rfl ?_
    refine xg_getW hC (b := 11) (xm_hK hI rfl) rfl (xm_wK hI rfl) (by decide) xl_F_X5_15 dX5_rebuild_16 ?_
    refine xg_iload_n hC dX5_rebuild_19 rfl ?_
    refine xg_iconst hC dX5_rebuild_20 ?_
    refine xg_zast hC (xm_hK hI rfl) rfl h2 (by decide) (xm_kpF hI rfl) dX5_rebuild_21 ?_
    refine xg_st (fun σ4 => ?_)
    refine xg_aload_n hC dX5_rebuild_22 rfl ?_
    refine xg_getW hC (b := 12) (xm_hK hI rfl) rfl (xm_wK hI rfl) (by decide) xl_F_X5_18 dX5_rebuild_23 ?_
    refine xg_iload_n hC dX5_rebuild_26 rfl ?_
    refine xg_iconst hC dX5_rebuild_27 ?_
    refine xg_iast hC (xm_hK hI rfl) rfl h2 (xm_inc _ rfl) (xm_kpF hI rfl) dX5_rebuild_28 ?_
    refine xg_st (fun σ5 => ?_)
    refine xg_aload_n hC dX5_rebuild_29 rfl ?_
    refine xg_getW hC (b := 13) (xm_hK hI rfl) rfl (xm_wK hI rfl) (by decide) xl_F_X5_22 dX5_rebuild_30 ?_
    refine xg_iload_n hC dX5_rebuild_33 rfl ?_
    refine xg_iconst hC dX5_rebuild_34 ?_
    refine xg_iast hC (xm_hK hI rfl) rfl h2 (xm_inc _ rfl) (xm_kpF hI rfl) dX5_rebuild_35 ?_
    refine xg_st (fun σ6 => ?_)
    refine xg_aload_n hC dX5_rebuild_36 rfl ?_
    refine xg_getW hC (b := 14) (xm_hK hI rfl) rfl (xm_wK hI rfl) (by decide) xl_F_X5_25 dX5_rebuild_37 ?_
    refine xg_iload_n hC dX5_rebuild_40 rfl ?_
    refine xg_iconst hC dX5_rebuild_41 ?_
    refine xg_iast hC (xm_hK hI rfl) rfl h2 (xm_inc _ rfl) (xm_kpF hI rfl) dX5_rebuild_42 ?_
    refine xg_st (fun σ7 => ?_)
    refine xg_aload_n hC dX5_rebuild_43 rfl ?_
    refine xg_getW hC (b := 15) (xm_hK hI rfl) rfl (xm_wK hI rfl) (by decide) xl_F_X5_28 dX5_rebuild_44 ?_
    refine xg_iload_n hC dX5_rebuild_47 rfl ?_
    refine xg_iconst hC dX5_rebuild_48 ?_
    refine xg_iast hC (xm_hK hI rfl) rfl h2 (xm_inc _ rfl) (xm_kpF hI rfl) dX5_rebuild_49 ?_
    refine xg_st (fun σ8 => ?_)
    refine xg_iinc hC (l' := [(2, .int (xm_J (xm_w (x2 + 1)))), (0, .ref (xm_ad (xx_G X) 9)), (1, .ref (xm_ad (xx_G X) 5))]) dX5_rebuild_50 (by decide) 2 rfl rfl ?_
    refine xg_goto hC 2 dX5_rebuild_53 rfl ?_
    exact xg_pick [1, 2, 0] rfl (hself σ8 (xm_w (x2 + 1)) (xm_w_in _))
  exact xg_pick [0, 1] rfl (hK56 σ)
theorem w_X5_rebuild_l2 {X : xm_X} (hC : xm_C X yX5_rebuild.cls cX5_rebuild 4 3 0 0) (hQ : xm_Rt X 0 none 0 0) (hI : xx_I X = xm_I) {K56 : xm_Mem → Option xm_Out} (hK56 : ∀ (σ : xm_Mem), xm_V X 0 0 (K56 σ ) σ 56 [(0, .ref (xm_ad (xx_G X) 9)), (1, .ref (xm_ad (xx_G X) 5))] []) (n : Nat) : ∀ (σ : xm_Mem) (x2 : Int), xm_in x2 → xm_V X 0 0 (f_X5_rebuild_l2 K56 n σ x2) σ 2 [(0, .ref (xm_ad (xx_G X) 9)), (1, .ref (xm_ad (xx_G X) 5)), (2, .int (xm_J x2))] [] := by
  induction n with
  | zero => intro σ x2 h2; exact xg_none
  | succ n ih => intro σ x2 h2; exact w_X5_rebuild_b2 hC hQ hI hK56 ih σ x2 h2
theorem w_X5_rebuild_j105 {X : xm_X} (hC : xm_C X yX5_rebuild.cls cX5_rebuild 4 3 0 0) (hQ : xm_Rt X 0 none 0 0) (hI : xx_I X = xm_I) {K58 : xm_Mem → Int → Option xm_Out} (hK58 : ∀ (σ : xm_Mem) (x2 : Int), xm_in x2 → xm_V X 0 0 (K58 σ x2) σ 58 [(0, .ref (xm_ad (xx_G X) 9)), (1, .ref (xm_ad (xx_G X) 5)), (2, .int (xm_J x2))] []) (σ : xm_Mem) (x2 : Int) (x3 : Int) (h2 : xm_in x2) (h3 : 0 ≤ x3 ∧ xm_in x3) : xm_V X 0 0 (f_X5_rebuild_j105 K58 σ x2 x3) σ 105 [(0, .ref (xm_ad (xx_G X) 9)), (1, .ref (xm_ad (xx_G X) 5)), (2, .int (xm_J x2)), (3, xm_rf (xx_G X) x3)] [] := by
  unfold f_X5_rebuild_j105
  refine xg_rload_n hC dX5_rebuild_105 rfl ?_
  refine xg_sgetI hC rfl xl_F_X5_57 dX5_rebuild_106 (fun k31 => ?_)
  refine xg_iconst hC dX5_rebuild_109 ?_
  refine xg_icmp_ne hC k31 (xm_inc _ rfl) 126 dX5_rebuild_110 rfl (fun c32 => ?_) (fun c33 => ?_)
  · refine xg_aload_n hC dX5_rebuild_113 rfl ?_
    refine xg_getW hC (b := 13) (xm_hK hI rfl) rfl (xm_wK hI rfl) (by decide) xl_F_X5_22 dX5_rebuild_114 ?_
    refine xg_rload_n hC dX5_rebuild_117 rfl ?_
    refine xg_sgetI hC rfl xl_F_X5_47 dX5_rebuild_118 (fun k34 => ?_)
    refine xg_rload_n hC dX5_rebuild_121 rfl ?_
    refine xg_sgetI hC rfl xl_F_X5_64 dX5_rebuild_122 (fun k35 => ?_)
    refine xg_iast hC (xm_hK hI rfl) rfl k34 k35 (xm_kpF hI rfl) dX5_rebuild_125 ?_
    refine xg_st (fun σ36 => ?_)
    refine xg_iinc hC (l' := [(2, .int (xm_J (xm_w (x2 + 1)))), (0, .ref (xm_ad (xx_G X) 9)), (1, .ref (xm_ad (xx_G X) 5)), (3, xm_rf (xx_G X) x3)]) dX5_rebuild_126 (by decide) 2 rfl rfl ?_
    refine xg_goto hC 58 dX5_rebuild_129 rfl ?_
    exact xg_pick [1, 2, 0] rfl (hK58 σ36 (xm_w (x2 + 1)) (xm_w_in _))
  refine xg_iinc hC (l' := [(2, .int (xm_J (xm_w (x2 + 1)))), (0, .ref (xm_ad (xx_G X) 9)), (1, .ref (xm_ad (xx_G X) 5)), (3, xm_rf (xx_G X) x3)]) dX5_rebuild_126 (by decide) 2 rfl rfl ?_
  refine xg_goto hC 58 dX5_rebuild_129 rfl ?_
  exact xg_pick [1, 2, 0] rfl (hK58 σ (xm_w (x2 + 1)) (xm_w_in _))
theorem w_X5_rebuild_b58 {X : xm_X} (hC : xm_C X yX5_rebuild.cls cX5_rebuild 4 3 0 0) (hQ : xm_Rt X 0 none 0 0) (hI : xx_I X = xm_I)   {self : xm_Mem → Int → Option xm_Out} (hself : ∀ (σ : xm_Mem) (x2 : Int), xm_in x2 → xm_V X 0 0 (self σ x2) σ 58 [(0, .ref (xm_ad (xx_G X) 9)), (1, .ref (xm_ad (xx_G X) 5)), (2, .int (xm_J x2))] []) (σ : xm_Mem) (x2 : Int) (h2 : xm_in x2) : xm_V X 0 0 (f_X5_rebuild_b58  self σ x2) σ 58 [(0, .ref (xm_ad (xx_G X) 9)), (1, .ref (xm_ad (xx_G X) 5)), (2, .int (xm_J x2))] [] := by
  unfold f_X5_rebuild_b58
  refine xg_iload_n hC dX5_rebuild_58 rfl ?_
  refine xg_aload_n hC dX5_rebuild_59 rfl ?_
  refine xg_callV hC (ci := 6) (w_X7_size hI σ ) xl_M_X5_37 xl_V_X7_size (xm_hK (a := 5) (kd := 0) (n := 6) hI rfl).2 ((xm_hK (a := 5) (kd := 0) (n := 6) hI rfl).1 _) (by decide) rfl (by decide) ⟨by decide, by decide⟩ dX5_rebuild_60 (rest := [.int (xm_J x2)]) rfl rfl (Nat.le_of_ble_eq_true rfl) rfl rfl (st2 := fun o => .int (xm_J o.2) :: [.int (xm_J x2)]) (fun _ => rfl) (fun o10 k11 => ?_)
  refine xg_icmp_ge hC h2 k11 132 dX5_rebuild_63 rfl (fun c12 => ?_) (fun c13 => ?_)
  · refine xg_aload_n hC dX5_rebuild_66 rfl ?_
    refine xg_iload_n hC dX5_rebuild_67 rfl ?_
    refine xg_callV hC (ci := 6) (w_X7_standing hI o10.1 x2 h2) xl_M_X5_43 xl_V_X7_standing (xm_hK (a := 5) (kd := 0) (n := 6) hI rfl).2 ((xm_hK (a := 5) (kd := 0) (n := 6) hI rfl).1 _) (by decide) rfl (by decide) ⟨by decide, by decide⟩ dX5_rebuild_68 (rest := []) rfl rfl (Nat.le_of_ble_eq_true rfl) rfl rfl (st2 := fun o => xm_rf (xx_G X) o.2 :: []) (fun _ => rfl) (fun o14 k15 => ?_)
    refine xg_vR k15 (fun v16 k17 => ?_)
    refine xg_rstore_n hC (l' := [(3, xm_rf (xx_G X) v16), (0, .ref (xm_ad (xx_G X) 9)), (1, .ref (xm_ad (xx_G X) 5)), (2, .int (xm_J x2))]) dX5_rebuild_71 (by decide) rfl ?_
    refine xg_rload_n hC dX5_rebuild_72 rfl ?_
    refine xg_ifnull hC 126 dX5_rebuild_73 rfl (fun c18 => ?_) (fun c19 => ?_)
    · refine xg_iinc hC (l' := [(2, .int (xm_J (xm_w (x2 + 1)))), (3, xm_rf (xx_G X) v16), (0, .ref (xm_ad (xx_G X) 9)), (1, .ref (xm_ad (xx_G X) 5))]) dX5_rebuild_126 (by decide) 3 rfl rfl ?_
      refine xg_goto hC 58 dX5_rebuild_129 rfl ?_
      exact xg_pick [2, 3, 0] rfl (hself o14.1 (xm_w (x2 + 1)) (xm_w_in _))
    refine xg_rload_n hC dX5_rebuild_76 rfl ?_
    refine xg_sgetI hC rfl xl_F_X5_47 dX5_rebuild_77 (fun k20 => ?_)
    refine xg_callSN hC (w_X10_isPersonNumber hI o14.1 (o14.1.1 v16.toNat 2) k20) xl_N_X5_53 xl_S_X10_isPersonNumber (by decide) ⟨by decide, by decide⟩ dX5_rebuild_80 (rest := []) rfl rfl (Nat.le_of_ble_eq_true rfl) rfl rfl (st2 := fun o => .int (xm_J o.2) :: []) (fun _ => rfl) (fun o21 k22 => ?_)
    refine xg_if_ne hC (xm_in01 k22) 89 dX5_rebuild_83 rfl (fun c23 => ?_) (fun c24 => ?_)
    · refine xg_goto hC 126 dX5_rebuild_86 rfl ?_
      refine xg_iinc hC (l' := [(2, .int (xm_J (xm_w (x2 + 1)))), (3, xm_rf (xx_G X) v16), (0, .ref (xm_ad (xx_G X) 9)), (1, .ref (xm_ad (xx_G X) 5))]) dX5_rebuild_126 (by decide) 3 rfl rfl ?_
      refine xg_goto hC 58 dX5_rebuild_129 rfl ?_
      exact xg_pick [2, 3, 0] rfl (hself o21.1 (xm_w (x2 + 1)) (xm_w_in _))
    refine xg_rload_n hC dX5_rebuild_89 rfl ?_
    refine xg_sgetI hC rfl xl_F_X5_57 dX5_rebuild_90 (fun k25 => ?_)
    refine xg_if_ne hC k25 105 dX5_rebuild_93 rfl (fun c26 => ?_) (fun c27 => ?_)
    · refine xg_aload_n hC dX5_rebuild_96 rfl ?_
      refine xg_rload_n hC dX5_rebuild_97 rfl ?_
      refine xg_rload_n hC dX5_rebuild_98 rfl ?_
      refine xg_sgetI hC rfl xl_F_X5_47 dX5_rebuild_99 (fun k28 => ?_)
      refine xg_callV hC (ci := 4) (w_X5_takeBirth hI o21.1 v16 (o21.1.1 v16.toNat 2) ⟨k17.1, k17.2⟩ k28) xl_M_X5_60 xl_V_X5_takeBirth (xm_hK (a := 9) (kd := 0) (n := 4) hI rfl).2 ((xm_hK (a := 9) (kd := 0) (n := 4) hI rfl).1 _) (by decide) rfl (by decide) ⟨by decide, by decide⟩ dX5_rebuild_102 (rest := []) rfl rfl (Nat.le_of_ble_eq_true rfl) rfl rfl (st2 := fun o => []) (fun _ => rfl) (fun o29 k30 => ?_)
      exact xg_pick [1, 2, 3, 0] rfl (w_X5_rebuild_j105 hC hQ hI hself o29.1 x2 v16 h2 ⟨k17.1, k17.2⟩)
    exact xg_pick [1, 2, 3, 0] rfl (w_X5_rebuild_j105 hC hQ hI hself o21.1 x2 v16 h2 ⟨k17.1, k17.2⟩)
  exact xg_vret hC hQ dX5_rebuild_132
theorem w_X5_rebuild_l58 {X : xm_X} (hC : xm_C X yX5_rebuild.cls cX5_rebuild 4 3 0 0) (hQ : xm_Rt X 0 none 0 0) (hI : xx_I X = xm_I)   (n : Nat) : ∀ (σ : xm_Mem) (x2 : Int), xm_in x2 → xm_V X 0 0 (f_X5_rebuild_l58  n σ x2) σ 58 [(0, .ref (xm_ad (xx_G X) 9)), (1, .ref (xm_ad (xx_G X) 5)), (2, .int (xm_J x2))] [] := by
  induction n with
  | zero => intro σ x2 h2; exact xg_none
  | succ n ih => intro σ x2 h2; exact w_X5_rebuild_b58 hC hQ hI ih σ x2 h2
theorem w_X5_rebuild {Γ : xm_Gm} {I : xm_Mem → Prop} {la : Launch} (hE : I = xm_I) (σ : xm_Mem)   : ∀ o, f_X5_rebuild σ  = some o → xm_M Γ I la yX5_rebuild cX5_rebuild 4 none 3 0 0 [.ref (xm_ad Γ 9), .ref (xm_ad Γ 5)] σ 0 o := by
  refine xg_enter (by decide) (by simp [lg_sl, xm_rf_cat, xm_cati, xm_catr, xm_catl]) (fun X hG hI0 hla hC hQ hname => ?_)
  subst hG
  have hI := hI0.trans hE
  clear hI0 hla
  unfold f_X5_rebuild
  refine xg_pick [0, 1] (l' := [(0, .ref (xm_ad (xx_G X) 9)), (1, .ref (xm_ad (xx_G X) 5))]) rfl ?_
  refine xg_iconst hC dX5_rebuild_0 ?_
  refine xg_istore_n hC (l' := [(2, .int (xm_J (0 : Int))), (0, .ref (xm_ad (xx_G X) 9)), (1, .ref (xm_ad (xx_G X) 5))]) dX5_rebuild_1 (by decide) rfl ?_
  refine xg_pick [1, 2, 0] rfl (w_X5_rebuild_l2 hC hQ hI ?_ _ σ (0 : Int) (xm_inc _ rfl))
  intro σ_9
  refine xg_iconst hC dX5_rebuild_56 ?_
  refine xg_istore_n hC (l' := [(2, .int (xm_J (0 : Int))), (0, .ref (xm_ad (xx_G X) 9)), (1, .ref (xm_ad (xx_G X) 5))]) dX5_rebuild_57 (by decide) rfl ?_
  exact xg_pick [1, 2, 0] rfl (w_X5_rebuild_l58 hC hQ hI _ σ_9 (0 : Int) (xm_inc _ rfl))
theorem w_X3_isOfUnion {Γ : xm_Gm} {I : xm_Mem → Prop} {la : Launch} (hE : I = xm_I) (σ : xm_Mem) (x0 : Int) (h0 : 0 ≤ x0 ∧ xm_in x0) : ∀ o, f_X3_isOfUnion σ x0 = some o → xm_M Γ I la yX3_isOfUnion cX3_isOfUnion 1 (some .boolean) 1 0 0 [xm_rf Γ x0] σ 2 o := by
  refine xg_enter (by decide) (by simp [lg_sl, xm_rf_cat, xm_cati, xm_catr, xm_catl]) (fun X hG hI0 hla hC hQ hname => ?_)
  subst hG
  have hI := hI0.trans hE
  clear hI0 hla
  unfold f_X3_isOfUnion
  refine xg_pick [0] (l' := [(0, xm_rf (xx_G X) x0)]) (by simp [lv_args, lv_pick, xm_rf_cat, xm_cati, xm_catr, xm_catl]) ?_
  refine xg_rload_n hC dX3_isOfUnion_0 rfl ?_
  refine xg_sgetI hC rfl xl_F_X3_9 dX3_isOfUnion_1 (fun k1 => ?_)
  refine xg_iconst hC dX3_isOfUnion_4 ?_
  refine xg_icmp_eq hC k1 (xm_inc _ rfl) 16 dX3_isOfUnion_5 rfl (fun c2 => ?_) (fun c3 => ?_)
  · refine xg_iconst hC dX3_isOfUnion_16 ?_
    refine xg_goto hC 21 dX3_isOfUnion_17 rfl ?_
    exact xg_zret hC hQ (by decide) dX3_isOfUnion_21
  refine xg_rload_n hC dX3_isOfUnion_8 rfl ?_
  refine xg_sgetI hC rfl xl_F_X3_9 dX3_isOfUnion_9 (fun k4 => ?_)
  refine xg_iconst hC dX3_isOfUnion_12 ?_
  refine xg_icmp_ne hC k4 (xm_inc _ rfl) 20 dX3_isOfUnion_13 rfl (fun c5 => ?_) (fun c6 => ?_)
  · refine xg_iconst hC dX3_isOfUnion_16 ?_
    refine xg_goto hC 21 dX3_isOfUnion_17 rfl ?_
    exact xg_zret hC hQ (by decide) dX3_isOfUnion_21
  refine xg_iconst hC dX3_isOfUnion_20 ?_
  exact xg_zret hC hQ (by decide) dX3_isOfUnion_21
theorem w_X3_isOfLoss {Γ : xm_Gm} {I : xm_Mem → Prop} {la : Launch} (hE : I = xm_I) (σ : xm_Mem) (x0 : Int) (h0 : 0 ≤ x0 ∧ xm_in x0) : ∀ o, f_X3_isOfLoss σ x0 = some o → xm_M Γ I la yX3_isOfLoss cX3_isOfLoss 1 (some .boolean) 1 0 0 [xm_rf Γ x0] σ 2 o := by
  refine xg_enter (by decide) (by simp [lg_sl, xm_rf_cat, xm_cati, xm_catr, xm_catl]) (fun X hG hI0 hla hC hQ hname => ?_)
  subst hG
  have hI := hI0.trans hE
  clear hI0 hla
  unfold f_X3_isOfLoss
  refine xg_pick [0] (l' := [(0, xm_rf (xx_G X) x0)]) (by simp [lv_args, lv_pick, xm_rf_cat, xm_cati, xm_catr, xm_catl]) ?_
  refine xg_rload_n hC dX3_isOfLoss_0 rfl ?_
  refine xg_sgetI hC rfl xl_F_X3_9 dX3_isOfLoss_1 (fun k1 => ?_)
  refine xg_bipush hC dX3_isOfLoss_4 (by decide) ?_
  refine xg_icmp_eq hC k1 (xm_inc _ rfl) 18 dX3_isOfLoss_6 rfl (fun c2 => ?_) (fun c3 => ?_)
  · refine xg_iconst hC dX3_isOfLoss_18 ?_
    refine xg_goto hC 23 dX3_isOfLoss_19 rfl ?_
    exact xg_zret hC hQ (by decide) dX3_isOfLoss_23
  refine xg_rload_n hC dX3_isOfLoss_9 rfl ?_
  refine xg_sgetI hC rfl xl_F_X3_9 dX3_isOfLoss_10 (fun k4 => ?_)
  refine xg_bipush hC dX3_isOfLoss_13 (by decide) ?_
  refine xg_icmp_ne hC k4 (xm_inc _ rfl) 22 dX3_isOfLoss_15 rfl (fun c5 => ?_) (fun c6 => ?_)
  · refine xg_iconst hC dX3_isOfLoss_18 ?_
    refine xg_goto hC 23 dX3_isOfLoss_19 rfl ?_
    exact xg_zret hC hQ (by decide) dX3_isOfLoss_23
  refine xg_iconst hC dX3_isOfLoss_22 ?_
  exact xg_zret hC hQ (by decide) dX3_isOfLoss_23
theorem w_X3_takesTurnsWith {Γ : xm_Gm} {I : xm_Mem → Prop} {la : Launch} (hE : I = xm_I) (σ : xm_Mem) (x0 : Int) (x1 : Int) (h0 : 0 ≤ x0 ∧ xm_in x0) (h1 : 0 ≤ x1 ∧ xm_in x1) : ∀ o, f_X3_takesTurnsWith σ x0 x1 = some o → xm_M Γ I la yX3_takesTurnsWith cX3_takesTurnsWith 2 (some .boolean) 2 0 0 [xm_rf Γ x0, xm_rf Γ x1] σ 2 o := by
  refine xg_enter (by decide) (by simp [lg_sl, xm_rf_cat, xm_cati, xm_catr, xm_catl]) (fun X hG hI0 hla hC hQ hname => ?_)
  subst hG
  have hI := hI0.trans hE
  clear hI0 hla
  unfold f_X3_takesTurnsWith
  refine xg_pick [0, 1] (l' := [(0, xm_rf (xx_G X) x0), (1, xm_rf (xx_G X) x1)]) (by simp [lv_args, lv_pick, xm_rf_cat, xm_cati, xm_catr, xm_catl]) ?_
  refine xg_rload_n hC dX3_takesTurnsWith_0 rfl ?_
  refine xg_callVs hC (ci := 2) (w_X3_isOfUnion hI σ x0 ⟨h0.1, h0.2⟩) xl_M_X3_43 xl_V_X3_isOfUnion (by decide) rfl (by decide) ⟨by decide, by decide⟩ dX3_takesTurnsWith_1 (rest := []) rfl rfl (Nat.le_of_ble_eq_true rfl) rfl rfl (st2 := fun o => .int (xm_J o.2) :: []) (fun _ => rfl) (fun o1 k2 => ?_)
  refine xg_if_eq hC (xm_in01 k2) 42 dX3_takesTurnsWith_4 rfl (fun c3 => ?_) (fun c4 => ?_)
  · refine xg_rload_n hC dX3_takesTurnsWith_42 rfl ?_
    refine xg_callVs hC (ci := 2) (w_X3_isOfLoss hI o1.1 x0 ⟨h0.1, h0.2⟩) xl_M_X3_47 xl_V_X3_isOfLoss (by decide) rfl (by decide) ⟨by decide, by decide⟩ dX3_takesTurnsWith_43 (rest := []) rfl rfl (Nat.le_of_ble_eq_true rfl) rfl rfl (st2 := fun o => .int (xm_J o.2) :: []) (fun _ => rfl) (fun o5 k6 => ?_)
    refine xg_if_eq hC (xm_in01 k6) 71 dX3_takesTurnsWith_46 rfl (fun c7 => ?_) (fun c8 => ?_)
    · refine xg_iconst hC dX3_takesTurnsWith_71 ?_
      exact xg_zret hC hQ (by decide) dX3_takesTurnsWith_72
    refine xg_rload_n hC dX3_takesTurnsWith_49 rfl ?_
    refine xg_callVs hC (ci := 2) (w_X3_isOfLoss hI o5.1 x1 ⟨h1.1, h1.2⟩) xl_M_X3_47 xl_V_X3_isOfLoss (by decide) rfl (by decide) ⟨by decide, by decide⟩ dX3_takesTurnsWith_50 (rest := []) rfl rfl (Nat.le_of_ble_eq_true rfl) rfl rfl (st2 := fun o => .int (xm_J o.2) :: []) (fun _ => rfl) (fun o9 k10 => ?_)
    refine xg_if_eq hC (xm_in01 k10) 71 dX3_takesTurnsWith_53 rfl (fun c11 => ?_) (fun c12 => ?_)
    · refine xg_iconst hC dX3_takesTurnsWith_71 ?_
      exact xg_zret hC hQ (by decide) dX3_takesTurnsWith_72
    refine xg_rload_n hC dX3_takesTurnsWith_56 rfl ?_
    refine xg_sgetI hC rfl xl_F_X3_30 dX3_takesTurnsWith_57 (fun k13 => ?_)
    refine xg_rload_n hC dX3_takesTurnsWith_60 rfl ?_
    refine xg_sgetI hC rfl xl_F_X3_30 dX3_takesTurnsWith_61 (fun k14 => ?_)
    refine xg_icmp_ne hC k13 k14 71 dX3_takesTurnsWith_64 rfl (fun c15 => ?_) (fun c16 => ?_)
    · refine xg_iconst hC dX3_takesTurnsWith_67 ?_
      refine xg_goto hC 72 dX3_takesTurnsWith_68 rfl ?_
      exact xg_zret hC hQ (by decide) dX3_takesTurnsWith_72
    refine xg_iconst hC dX3_takesTurnsWith_71 ?_
    exact xg_zret hC hQ (by decide) dX3_takesTurnsWith_72
  refine xg_rload_n hC dX3_takesTurnsWith_7 rfl ?_
  refine xg_callVs hC (ci := 2) (w_X3_isOfUnion hI o1.1 x1 ⟨h1.1, h1.2⟩) xl_M_X3_43 xl_V_X3_isOfUnion (by decide) rfl (by decide) ⟨by decide, by decide⟩ dX3_takesTurnsWith_8 (rest := []) rfl rfl (Nat.le_of_ble_eq_true rfl) rfl rfl (st2 := fun o => .int (xm_J o.2) :: []) (fun _ => rfl) (fun o17 k18 => ?_)
  refine xg_if_eq hC (xm_in01 k18) 40 dX3_takesTurnsWith_11 rfl (fun c19 => ?_) (fun c20 => ?_)
  · refine xg_iconst hC dX3_takesTurnsWith_40 ?_
    exact xg_zret hC hQ (by decide) dX3_takesTurnsWith_41
  refine xg_rload_n hC dX3_takesTurnsWith_14 rfl ?_
  refine xg_sgetI hC rfl xl_F_X3_18 dX3_takesTurnsWith_15 (fun k21 => ?_)
  refine xg_rload_n hC dX3_takesTurnsWith_18 rfl ?_
  refine xg_sgetI hC rfl xl_F_X3_18 dX3_takesTurnsWith_19 (fun k22 => ?_)
  refine xg_icmp_ne hC k21 k22 40 dX3_takesTurnsWith_22 rfl (fun c23 => ?_) (fun c24 => ?_)
  · refine xg_rload_n hC dX3_takesTurnsWith_25 rfl ?_
    refine xg_sgetI hC rfl xl_F_X3_21 dX3_takesTurnsWith_26 (fun k25 => ?_)
    refine xg_rload_n hC dX3_takesTurnsWith_29 rfl ?_
    refine xg_sgetI hC rfl xl_F_X3_21 dX3_takesTurnsWith_30 (fun k26 => ?_)
    refine xg_icmp_ne hC k25 k26 40 dX3_takesTurnsWith_33 rfl (fun c27 => ?_) (fun c28 => ?_)
    · refine xg_iconst hC dX3_takesTurnsWith_36 ?_
      refine xg_goto hC 41 dX3_takesTurnsWith_37 rfl ?_
      exact xg_zret hC hQ (by decide) dX3_takesTurnsWith_41
    refine xg_iconst hC dX3_takesTurnsWith_40 ?_
    exact xg_zret hC hQ (by decide) dX3_takesTurnsWith_41
  refine xg_iconst hC dX3_takesTurnsWith_40 ?_
  exact xg_zret hC hQ (by decide) dX3_takesTurnsWith_41
theorem w_X7_nextPart_b4 {X : xm_X} (hC : xm_C X yX7_nextPart.cls cX7_nextPart 5 3 0 0) (hQ : xm_Rt X 1 (some .int) 0 0) (hI : xx_I X = xm_I)   {self : xm_Mem → Int → Int → Int → Option xm_Out} (hself : ∀ (σ : xm_Mem) (x1 : Int) (x2 : Int) (x3 : Int), 0 ≤ x1 ∧ xm_in x1 → xm_in x2 → xm_in x3 → xm_V X 0 0 (self σ x1 x2 x3) σ 4 [(0, .ref (xm_ad (xx_G X) 5)), (1, xm_rf (xx_G X) x1), (2, .int (xm_J x2)), (3, .int (xm_J x3))] []) (σ : xm_Mem) (x1 : Int) (x2 : Int) (x3 : Int) (h1 : 0 ≤ x1 ∧ xm_in x1) (h2 : xm_in x2) (h3 : xm_in x3) : xm_V X 0 0 (f_X7_nextPart_b4  self σ x1 x2 x3) σ 4 [(0, .ref (xm_ad (xx_G X) 5)), (1, xm_rf (xx_G X) x1), (2, .int (xm_J x2)), (3, .int (xm_J x3))] [] := by
  unfold f_X7_nextPart_b4
  refine xg_iload_n hC dX7_nextPart_4 rfl ?_
  refine xg_aload_n hC dX7_nextPart_5 rfl ?_
  refine xg_getI hC (xm_hK hI rfl) rfl xl_F_X7_23 dX7_nextPart_6 (fun k1 => ?_)
  refine xg_icmp_ge hC h3 k1 83 dX7_nextPart_9 rfl (fun c2 => ?_) (fun c3 => ?_)
  · refine xg_aload_n hC dX7_nextPart_12 rfl ?_
    refine xg_iload_n hC dX7_nextPart_13 rfl ?_
    refine xg_callV hC (ci := 6) (w_X7_standing hI σ x3 h3) xl_M_X7_41 xl_V_X7_standing (xm_hK (a := 5) (kd := 0) (n := 6) hI rfl).2 ((xm_hK (a := 5) (kd := 0) (n := 6) hI rfl).1 _) (by decide) rfl (by decide) ⟨by decide, by decide⟩ dX7_nextPart_14 (rest := []) rfl rfl (Nat.le_of_ble_eq_true rfl) rfl rfl (st2 := fun o => xm_rf (xx_G X) o.2 :: []) (fun _ => rfl) (fun o4 k5 => ?_)
    refine xg_vR k5 (fun v6 k7 => ?_)
    refine xg_rstore hC (l' := [(4, xm_rf (xx_G X) v6), (0, .ref (xm_ad (xx_G X) 5)), (1, xm_rf (xx_G X) x1), (2, .int (xm_J x2)), (3, .int (xm_J x3))]) dX7_nextPart_17 (by decide) rfl ?_
    refine xg_rload hC dX7_nextPart_19 rfl ?_
    refine xg_ifnull hC 77 dX7_nextPart_21 rfl (fun c8 => ?_) (fun c9 => ?_)
    · refine xg_iinc hC (l' := [(3, .int (xm_J (xm_w (x3 + 1)))), (4, xm_rf (xx_G X) v6), (0, .ref (xm_ad (xx_G X) 5)), (1, xm_rf (xx_G X) x1), (2, .int (xm_J x2))]) dX7_nextPart_77 (by decide) 4 rfl rfl ?_
      refine xg_goto hC 4 dX7_nextPart_80 rfl ?_
      exact xg_pick [2, 3, 4, 0] rfl (hself o4.1 x1 x2 (xm_w (x3 + 1)) ⟨h1.1, h1.2⟩ h2 (xm_w_in _))
    refine xg_rload hC dX7_nextPart_24 rfl ?_
    refine xg_sgetI hC rfl xl_F_X7_72 dX7_nextPart_26 (fun k10 => ?_)
    refine xg_iconst hC dX7_nextPart_29 ?_
    refine xg_icmp_ne hC k10 (xm_inc _ rfl) 77 dX7_nextPart_30 rfl (fun c11 => ?_) (fun c12 => ?_)
    · refine xg_rload_n hC dX7_nextPart_33 rfl ?_
      refine xg_rload hC dX7_nextPart_34 rfl ?_
      refine xg_callVs hC (ci := 2) (w_X3_takesTurnsWith hI o4.1 x1 v6 ⟨h1.1, h1.2⟩ ⟨k7.1, k7.2⟩) xl_M_X7_83 xl_V_X3_takesTurnsWith (by decide) rfl (by decide) ⟨by decide, by decide⟩ dX7_nextPart_36 (rest := []) rfl rfl (Nat.le_of_ble_eq_true rfl) rfl rfl (st2 := fun o => .int (xm_J o.2) :: []) (fun _ => rfl) (fun o13 k14 => ?_)
      refine xg_if_ne hC (xm_in01 k14) 45 dX7_nextPart_39 rfl (fun c15 => ?_) (fun c16 => ?_)
      · refine xg_goto hC 77 dX7_nextPart_42 rfl ?_
        refine xg_iinc hC (l' := [(3, .int (xm_J (xm_w (x3 + 1)))), (4, xm_rf (xx_G X) v6), (0, .ref (xm_ad (xx_G X) 5)), (1, xm_rf (xx_G X) x1), (2, .int (xm_J x2))]) dX7_nextPart_77 (by decide) 4 rfl rfl ?_
        refine xg_goto hC 4 dX7_nextPart_80 rfl ?_
        exact xg_pick [2, 3, 4, 0] rfl (hself o13.1 x1 x2 (xm_w (x3 + 1)) ⟨h1.1, h1.2⟩ h2 (xm_w_in _))
      refine xg_rload hC dX7_nextPart_45 rfl ?_
      refine xg_sgetI hC rfl xl_F_X7_94 dX7_nextPart_47 (fun k17 => ?_)
      refine xg_rload_n hC dX7_nextPart_50 rfl ?_
      refine xg_sgetI hC rfl xl_F_X7_94 dX7_nextPart_51 (fun k18 => ?_)
      refine xg_icmp_le hC k17 k18 77 dX7_nextPart_54 rfl (fun c19 => ?_) (fun c20 => ?_)
      · refine xg_iload_n hC dX7_nextPart_57 rfl ?_
        refine xg_iconst hC dX7_nextPart_58 ?_
        refine xg_icmp_eq hC h2 (xm_inc _ rfl) 71 dX7_nextPart_59 rfl (fun c21 => ?_) (fun c22 => ?_)
        · refine xg_rload hC dX7_nextPart_71 rfl ?_
          refine xg_sgetI hC rfl xl_F_X7_94 dX7_nextPart_73 (fun k23 => ?_)
          refine xg_vI k23 (fun v24 k25 => ?_)
          refine xg_istore_n hC (l' := [(2, .int (xm_J v24)), (4, xm_rf (xx_G X) v6), (0, .ref (xm_ad (xx_G X) 5)), (1, xm_rf (xx_G X) x1), (3, .int (xm_J x3))]) dX7_nextPart_76 (by decide) (by simp [xm_rf_cat, xm_cati, xm_catr, xm_catl] <;> decide) ?_
          refine xg_iinc hC (l' := [(3, .int (xm_J (xm_w (x3 + 1)))), (2, .int (xm_J v24)), (4, xm_rf (xx_G X) v6), (0, .ref (xm_ad (xx_G X) 5)), (1, xm_rf (xx_G X) x1)]) dX7_nextPart_77 (by decide) 4 rfl rfl ?_
          refine xg_goto hC 4 dX7_nextPart_80 rfl ?_
          exact xg_pick [3, 4, 1, 0] rfl (hself o13.1 x1 v24 (xm_w (x3 + 1)) ⟨h1.1, h1.2⟩ k25 (xm_w_in _))
        refine xg_rload hC dX7_nextPart_62 rfl ?_
        refine xg_sgetI hC rfl xl_F_X7_94 dX7_nextPart_64 (fun k26 => ?_)
        refine xg_iload_n hC dX7_nextPart_67 rfl ?_
        refine xg_icmp_ge hC k26 h2 77 dX7_nextPart_68 rfl (fun c27 => ?_) (fun c28 => ?_)
        · refine xg_rload hC dX7_nextPart_71 rfl ?_
          refine xg_sgetI hC rfl xl_F_X7_94 dX7_nextPart_73 (fun k29 => ?_)
          refine xg_vI k29 (fun v30 k31 => ?_)
          refine xg_istore_n hC (l' := [(2, .int (xm_J v30)), (4, xm_rf (xx_G X) v6), (0, .ref (xm_ad (xx_G X) 5)), (1, xm_rf (xx_G X) x1), (3, .int (xm_J x3))]) dX7_nextPart_76 (by decide) (by simp [xm_rf_cat, xm_cati, xm_catr, xm_catl] <;> decide) ?_
          refine xg_iinc hC (l' := [(3, .int (xm_J (xm_w (x3 + 1)))), (2, .int (xm_J v30)), (4, xm_rf (xx_G X) v6), (0, .ref (xm_ad (xx_G X) 5)), (1, xm_rf (xx_G X) x1)]) dX7_nextPart_77 (by decide) 4 rfl rfl ?_
          refine xg_goto hC 4 dX7_nextPart_80 rfl ?_
          exact xg_pick [3, 4, 1, 0] rfl (hself o13.1 x1 v30 (xm_w (x3 + 1)) ⟨h1.1, h1.2⟩ k31 (xm_w_in _))
        refine xg_iinc hC (l' := [(3, .int (xm_J (xm_w (x3 + 1)))), (4, xm_rf (xx_G X) v6), (0, .ref (xm_ad (xx_G X) 5)), (1, xm_rf (xx_G X) x1), (2, .int (xm_J x2))]) dX7_nextPart_77 (by decide) 4 rfl rfl ?_
        refine xg_goto hC 4 dX7_nextPart_80 rfl ?_
        exact xg_pick [2, 3, 4, 0] rfl (hself o13.1 x1 x2 (xm_w (x3 + 1)) ⟨h1.1, h1.2⟩ h2 (xm_w_in _))
      refine xg_iinc hC (l' := [(3, .int (xm_J (xm_w (x3 + 1)))), (4, xm_rf (xx_G X) v6), (0, .ref (xm_ad (xx_G X) 5)), (1, xm_rf (xx_G X) x1), (2, .int (xm_J x2))]) dX7_nextPart_77 (by decide) 4 rfl rfl ?_
      refine xg_goto hC 4 dX7_nextPart_80 rfl ?_
      exact xg_pick [2, 3, 4, 0] rfl (hself o13.1 x1 x2 (xm_w (x3 + 1)) ⟨h1.1, h1.2⟩ h2 (xm_w_in _))
    refine xg_iinc hC (l' := [(3, .int (xm_J (xm_w (x3 + 1)))), (4, xm_rf (xx_G X) v6), (0, .ref (xm_ad (xx_G X) 5)), (1, xm_rf (xx_G X) x1), (2, .int (xm_J x2))]) dX7_nextPart_77 (by decide) 4 rfl rfl ?_
    refine xg_goto hC 4 dX7_nextPart_80 rfl ?_
    exact xg_pick [2, 3, 4, 0] rfl (hself o4.1 x1 x2 (xm_w (x3 + 1)) ⟨h1.1, h1.2⟩ h2 (xm_w_in _))
  refine xg_iload_n hC dX7_nextPart_83 rfl ?_
  exact xg_iret hC hQ h2 dX7_nextPart_84
