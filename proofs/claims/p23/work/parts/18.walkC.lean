/-! ===== walks of the class (written by program) ===== -/
theorem w_X2_listKids_l19 {X : xm_X} (hC : xm_C X yX2_listKids.cls cX2_listKids 6 3 0 0) (hQ : xm_Rt X 0 none 0 0) (hI : xx_I X = xm_I) {K108 : xm_Mem → Int → Int → Option xm_Out} (hK108 : ∀ (σ : xm_Mem) (x1 : Int) (x2 : Int), xm_in x1 → xm_in x2 → xm_V X 0 0 (K108 σ x1 x2) σ 108 [(0, .ref (xm_ad (xx_G X) 23)), (1, .int (xm_J x1)), (2, .int (xm_J x2))] []) (n : Nat) : ∀ (σ : xm_Mem) (x1 : Int) (x2 : Int) (x3 : Int), xm_in x1 → xm_in x2 → xm_in x3 → xm_V X 0 0 (f_X2_listKids_l19 K108 n σ x1 x2 x3) σ 19 [(0, .ref (xm_ad (xx_G X) 23)), (1, .int (xm_J x1)), (2, .int (xm_J x2)), (3, .int (xm_J x3))] [] := by
  induction n with
  | zero => intro σ x1 x2 x3 h1 h2 h3; exact xg_none
  | succ n ih => intro σ x1 x2 x3 h1 h2 h3; exact w_X2_listKids_b19 hC hQ hI hK108 ih σ x1 x2 x3 h1 h2 h3
theorem w_X2_listKids_b4 {X : xm_X} (hC : xm_C X yX2_listKids.cls cX2_listKids 6 3 0 0) (hQ : xm_Rt X 0 none 0 0) (hI : xx_I X = xm_I) {K114 : xm_Mem → Int → Option xm_Out} (hK114 : ∀ (σ : xm_Mem) (x1 : Int), xm_in x1 → xm_V X 0 0 (K114 σ x1) σ 114 [(0, .ref (xm_ad (xx_G X) 23)), (1, .int (xm_J x1))] []) {self : xm_Mem → Int → Int → Option xm_Out} (hself : ∀ (σ : xm_Mem) (x1 : Int) (x2 : Int), xm_in x1 → xm_in x2 → xm_V X 0 0 (self σ x1 x2) σ 4 [(0, .ref (xm_ad (xx_G X) 23)), (1, .int (xm_J x1)), (2, .int (xm_J x2))] []) (σ : xm_Mem) (x1 : Int) (x2 : Int) (h1 : xm_in x1) (h2 : xm_in x2) : xm_V X 0 0 (f_X2_listKids_b4 K114 self σ x1 x2) σ 4 [(0, .ref (xm_ad (xx_G X) 23)), (1, .int (xm_J x1)), (2, .int (xm_J x2))] [] := by
  unfold f_X2_listKids_b4
  refine xg_iload_n hC dX2_listKids_4 rfl ?_
  refine xg_bipush hC dX2_listKids_5 (by decide) ?_
  refine xg_icmp_ge hC h2 (xm_inc _ rfl) 114 dX2_listKids_7 rfl (fun c1 => ?_) (fun c2 => ?_)
  · refine xg_aload_n hC dX2_listKids_10 rfl ?_
    refine xg_getW hC (b := 27) (xm_hK hI rfl) rfl (xm_wK hI rfl) (by decide) xl_F_X2_26 dX2_listKids_11 ?_
    refine xg_iload_n hC dX2_listKids_14 rfl ?_
    refine xg_iload_n hC dX2_listKids_15 rfl ?_
    refine xg_iast hC (xm_hK hI rfl) rfl h2 h1 (xm_kpF hI rfl) dX2_listKids_16 ?_
    refine xg_st (fun σ3 => ?_)
    refine xg_iconst hC dX2_listKids_17 ?_
    refine xg_istore_n hC (l' := [(3, .int (xm_J (0 : Int))), (0, .ref (xm_ad (xx_G X) 23)), (1, .int (xm_J x1)), (2, .int (xm_J x2))]) dX2_listKids_18 (by decide) rfl ?_
    refine xg_pick [1, 2, 3, 0] rfl (w_X2_listKids_l19 hC hQ hI ?_ _ σ3 x1 x2 (0 : Int) h1 h2 (xm_inc _ rfl))
    intro σ_28 x1_28 x2_28 h1_28 h2_28
    refine xg_iinc hC (l' := [(2, .int (xm_J (xm_w (x2_28 + 1)))), (0, .ref (xm_ad (xx_G X) 23)), (1, .int (xm_J x1_28))]) dX2_listKids_108 (by decide) 2 rfl rfl ?_
    refine xg_goto hC 4 dX2_listKids_111 rfl ?_
    exact xg_pick [1, 2, 0] rfl (hself σ_28 x1_28 (xm_w (x2_28 + 1)) h1_28 (xm_w_in _))
  exact xg_pick [0, 1] rfl (hK114 σ x1 h1)
theorem w_X2_listKids_l4 {X : xm_X} (hC : xm_C X yX2_listKids.cls cX2_listKids 6 3 0 0) (hQ : xm_Rt X 0 none 0 0) (hI : xx_I X = xm_I) {K114 : xm_Mem → Int → Option xm_Out} (hK114 : ∀ (σ : xm_Mem) (x1 : Int), xm_in x1 → xm_V X 0 0 (K114 σ x1) σ 114 [(0, .ref (xm_ad (xx_G X) 23)), (1, .int (xm_J x1))] []) (n : Nat) : ∀ (σ : xm_Mem) (x1 : Int) (x2 : Int), xm_in x1 → xm_in x2 → xm_V X 0 0 (f_X2_listKids_l4 K114 n σ x1 x2) σ 4 [(0, .ref (xm_ad (xx_G X) 23)), (1, .int (xm_J x1)), (2, .int (xm_J x2))] [] := by
  induction n with
  | zero => intro σ x1 x2 h1 h2; exact xg_none
  | succ n ih => intro σ x1 x2 h1 h2; exact w_X2_listKids_b4 hC hQ hI hK114 ih σ x1 x2 h1 h2
theorem w_X2_listKids {Γ : xm_Gm} {I : xm_Mem → Prop} {la : Launch} (hE : I = xm_I) (σ : xm_Mem)   : ∀ o, f_X2_listKids σ  = some o → xm_M Γ I la yX2_listKids cX2_listKids 6 none 3 0 0 [.ref (xm_ad Γ 23)] σ 0 o := by
  refine xg_enter (by decide) (by simp [lg_sl, xm_rf_cat, xm_cati, xm_catr, xm_catl]) (fun X hG hI0 hla hC hQ hname => ?_)
  subst hG
  have hI := hI0.trans hE
  clear hI0 hla
  unfold f_X2_listKids
  refine xg_pick [0] (l' := [(0, .ref (xm_ad (xx_G X) 23))]) rfl ?_
  refine xg_iconst hC dX2_listKids_0 ?_
  refine xg_istore_n hC (l' := [(1, .int (xm_J (0 : Int))), (0, .ref (xm_ad (xx_G X) 23))]) dX2_listKids_1 (by decide) rfl ?_
  refine xg_iconst hC dX2_listKids_2 ?_
  refine xg_istore_n hC (l' := [(2, .int (xm_J (0 : Int))), (1, .int (xm_J (0 : Int))), (0, .ref (xm_ad (xx_G X) 23))]) dX2_listKids_3 (by decide) rfl ?_
  refine xg_pick [2, 1, 0] rfl (w_X2_listKids_l4 hC hQ hI ?_ _ σ (0 : Int) (0 : Int) (xm_inc _ rfl) (xm_inc _ rfl))
  intro σ_29 x1_29 h1_29
  refine xg_aload_n hC dX2_listKids_114 rfl ?_
  refine xg_getW hC (b := 27) (xm_hK hI rfl) rfl (xm_wK hI rfl) (by decide) xl_F_X2_26 dX2_listKids_115 ?_
  refine xg_bipush hC dX2_listKids_118 (by decide) ?_
  refine xg_iload_n hC dX2_listKids_120 rfl ?_
  refine xg_iast hC (xm_hK hI rfl) rfl (xm_inc _ rfl) h1_29 (xm_kpF hI rfl) dX2_listKids_121 ?_
  refine xg_st (fun σ30 => ?_)
  exact xg_vret hC hQ dX2_listKids_122
theorem w_X2_kidCount {Γ : xm_Gm} {I : xm_Mem → Prop} {la : Launch} (hE : I = xm_I) (σ : xm_Mem) (x1 : Int) (h1 : xm_in x1) : ∀ o, f_X2_kidCount σ x1 = some o → xm_M Γ I la yX2_kidCount cX2_kidCount 2 (some .int) 1 0 0 [.ref (xm_ad Γ 23), .int (xm_J x1)] σ 1 o := by
  refine xg_enter (by decide) (by simp [lg_sl, xm_rf_cat, xm_cati, xm_catr, xm_catl]) (fun X hG hI0 hla hC hQ hname => ?_)
  subst hG
  have hI := hI0.trans hE
  clear hI0 hla
  unfold f_X2_kidCount
  refine xg_pick [0, 1] (l' := [(0, .ref (xm_ad (xx_G X) 23)), (1, .int (xm_J x1))]) rfl ?_
  refine xg_iload_n hC dX2_kidCount_0 rfl ?_
  refine xg_if_lt hC h1 28 dX2_kidCount_1 rfl (fun c1 => ?_) (fun c2 => ?_)
  · refine xg_iconst hC dX2_kidCount_28 ?_
    exact xg_iret hC hQ (xm_inc _ rfl) dX2_kidCount_29
  refine xg_iload_n hC dX2_kidCount_4 rfl ?_
  refine xg_bipush hC dX2_kidCount_5 (by decide) ?_
  refine xg_icmp_ge hC h1 (xm_inc _ rfl) 28 dX2_kidCount_7 rfl (fun c3 => ?_) (fun c4 => ?_)
  · refine xg_aload_n hC dX2_kidCount_10 rfl ?_
    refine xg_getW hC (b := 27) (xm_hK hI rfl) rfl (xm_wK hI rfl) (by decide) xl_F_X2_26 dX2_kidCount_11 ?_
    refine xg_iload_n hC dX2_kidCount_14 rfl ?_
    refine xg_iconst hC dX2_kidCount_15 ?_
    refine xg_iadd hC dX2_kidCount_16 ?_
    refine xg_vI (xm_w_in _) (fun v5 k6 => ?_)
    refine xg_iald hC (xm_hK hI rfl) rfl k6 dX2_kidCount_17 (fun b7 k8 => ?_)
    refine xg_aload_n hC dX2_kidCount_18 rfl ?_
    refine xg_getW hC (b := 27) (xm_hK hI rfl) rfl (xm_wK hI rfl) (by decide) xl_F_X2_26 dX2_kidCount_19 ?_
    refine xg_iload_n hC dX2_kidCount_22 rfl ?_
    refine xg_iald hC (xm_hK hI rfl) rfl h1 dX2_kidCount_23 (fun b9 k10 => ?_)
    refine xg_isub hC dX2_kidCount_24 ?_
    refine xg_goto hC 29 dX2_kidCount_25 rfl ?_
    exact xg_iret hC hQ (xm_w_in _) dX2_kidCount_29
  refine xg_iconst hC dX2_kidCount_28 ?_
  exact xg_iret hC hQ (xm_inc _ rfl) dX2_kidCount_29
theorem w_X2_kid {Γ : xm_Gm} {I : xm_Mem → Prop} {la : Launch} (hE : I = xm_I) (σ : xm_Mem) (x1 : Int) (x2 : Int) (h1 : xm_in x1) (h2 : xm_in x2) : ∀ o, f_X2_kid σ x1 x2 = some o → xm_M Γ I la yX2_kid cX2_kid 4 (some .int) 1 0 0 [.ref (xm_ad Γ 23), .int (xm_J x1), .int (xm_J x2)] σ 1 o := by
  refine xg_enter (by decide) (by simp [lg_sl, xm_rf_cat, xm_cati, xm_catr, xm_catl]) (fun X hG hI0 hla hC hQ hname => ?_)
  subst hG
  have hI := hI0.trans hE
  clear hI0 hla
  unfold f_X2_kid
  refine xg_pick [0, 1, 2] (l' := [(0, .ref (xm_ad (xx_G X) 23)), (1, .int (xm_J x1)), (2, .int (xm_J x2))]) rfl ?_
  refine xg_iload_n hC dX2_kid_0 rfl ?_
  refine xg_if_lt hC h1 14 dX2_kid_1 rfl (fun c1 => ?_) (fun c2 => ?_)
  · refine xg_iconst hC dX2_kid_14 ?_
    exact xg_iret hC hQ (xm_inc _ rfl) dX2_kid_15
  refine xg_iload_n hC dX2_kid_4 rfl ?_
  refine xg_bipush hC dX2_kid_5 (by decide) ?_
  refine xg_icmp_ge hC h1 (xm_inc _ rfl) 14 dX2_kid_7 rfl (fun c3 => ?_) (fun c4 => ?_)
  · refine xg_iload_n hC dX2_kid_10 rfl ?_
    refine xg_if_ge hC h2 16 dX2_kid_11 rfl (fun c5 => ?_) (fun c6 => ?_)
    · refine xg_iconst hC dX2_kid_14 ?_
      exact xg_iret hC hQ (xm_inc _ rfl) dX2_kid_15
    refine xg_aload_n hC dX2_kid_16 rfl ?_
    refine xg_getW hC (b := 27) (xm_hK hI rfl) rfl (xm_wK hI rfl) (by decide) xl_F_X2_26 dX2_kid_17 ?_
    refine xg_iload_n hC dX2_kid_20 rfl ?_
    refine xg_iald hC (xm_hK hI rfl) rfl h1 dX2_kid_21 (fun b7 k8 => ?_)
    refine xg_iload_n hC dX2_kid_22 rfl ?_
    refine xg_iadd hC dX2_kid_23 ?_
    refine xg_vI (xm_w_in _) (fun v9 k10 => ?_)
    refine xg_istore_n hC (l' := [(3, .int (xm_J v9)), (0, .ref (xm_ad (xx_G X) 23)), (1, .int (xm_J x1)), (2, .int (xm_J x2))]) dX2_kid_24 (by decide) rfl ?_
    refine xg_iload_n hC dX2_kid_25 rfl ?_
    refine xg_aload_n hC dX2_kid_26 rfl ?_
    refine xg_getW hC (b := 27) (xm_hK hI rfl) rfl (xm_wK hI rfl) (by decide) xl_F_X2_26 dX2_kid_27 ?_
    refine xg_iload_n hC dX2_kid_30 rfl ?_
    refine xg_iconst hC dX2_kid_31 ?_
    refine xg_iadd hC dX2_kid_32 ?_
    refine xg_vI (xm_w_in _) (fun v11 k12 => ?_)
    refine xg_iald hC (xm_hK hI rfl) rfl k12 dX2_kid_33 (fun b13 k14 => ?_)
    refine xg_icmp_ge hC k10 k14 46 dX2_kid_34 rfl (fun c15 => ?_) (fun c16 => ?_)
    · refine xg_aload_n hC dX2_kid_37 rfl ?_
      refine xg_getW hC (b := 26) (xm_hK hI rfl) rfl (xm_wK hI rfl) (by decide) xl_F_X2_23 dX2_kid_38 ?_
      refine xg_iload_n hC dX2_kid_41 rfl ?_
      refine xg_iald hC (xm_hK hI rfl) rfl k10 dX2_kid_42 (fun b17 k18 => ?_)
      refine xg_goto hC 47 dX2_kid_43 rfl ?_
      exact xg_iret hC hQ k18 dX2_kid_47
    refine xg_iconst hC dX2_kid_46 ?_
    exact xg_iret hC hQ (xm_inc _ rfl) dX2_kid_47
  refine xg_iconst hC dX2_kid_14 ?_
  exact xg_iret hC hQ (xm_inc _ rfl) dX2_kid_15
theorem w_X2_body {Γ : xm_Gm} {I : xm_Mem → Prop} {la : Launch} (hE : I = xm_I) (σ : xm_Mem) (x1 : Int) (h1 : xm_in x1) : ∀ o, f_X2_body σ x1 = some o → xm_M Γ I la yX2_body cX2_body 2 (some .long) 2 0 0 [.ref (xm_ad Γ 23), .int (xm_J x1)] σ 6 o := by
  refine xg_enter (by decide) (by simp [lg_sl, xm_rf_cat, xm_cati, xm_catr, xm_catl]) (fun X hG hI0 hla hC hQ hname => ?_)
  subst hG
  have hI := hI0.trans hE
  clear hI0 hla
  unfold f_X2_body
  refine xg_pick [0, 1] (l' := [(0, .ref (xm_ad (xx_G X) 23)), (1, .int (xm_J x1))]) rfl ?_
  refine xg_iload_n hC dX2_body_0 rfl ?_
  refine xg_callSN hC (w_X10_isPersonNumber hI σ x1 h1) xl_N_X2_94 xl_S_X10_isPersonNumber (by decide) ⟨by decide, by decide⟩ dX2_body_1 (rest := []) rfl rfl (Nat.le_of_ble_eq_true rfl) rfl rfl (st2 := fun o => .int (xm_J o.2) :: []) (fun _ => rfl) (fun o1 k2 => ?_)
  refine xg_if_eq hC (xm_in01 k2) 16 dX2_body_4 rfl (fun c3 => ?_) (fun c4 => ?_)
  · refine xg_lconst hC dX2_body_16 (v := 0) rfl ?_
    exact xg_lret hC hQ dX2_body_17
  refine xg_aload_n hC dX2_body_7 rfl ?_
  refine xg_getW hC (b := 28) (xm_hK hI rfl) rfl (xm_wK hI rfl) (by decide) xl_F_X2_29 dX2_body_8 ?_
  refine xg_iload_n hC dX2_body_11 rfl ?_
  refine xg_lald hC (xm_hK hI rfl) rfl h1 dX2_body_12 (fun b5 => ?_)
  refine xg_goto hC 17 dX2_body_13 rfl ?_
  exact xg_lret hC hQ dX2_body_17
theorem w_X2_gatherBodies_b14 {X : xm_X} (hC : xm_C X yX2_gatherBodies.cls cX2_gatherBodies 5 3 0 0) (hQ : xm_Rt X 0 none 0 0) (hI : xx_I X = xm_I) {K44 : xm_Mem → Int → Int64 → Option xm_Out} (hK44 : ∀ (σ : xm_Mem) (x1 : Int) (x2 : Int64), xm_in x1 → xm_V X 0 0 (K44 σ x1 x2) σ 44 [(0, .ref (xm_ad (xx_G X) 23)), (1, .int (xm_J x1)), (2, .long x2)] []) {self : xm_Mem → Int → Int64 → Int → Option xm_Out} (hself : ∀ (σ : xm_Mem) (x1 : Int) (x2 : Int64) (x4 : Int), xm_in x1 → xm_in x4 → xm_V X 0 0 (self σ x1 x2 x4) σ 14 [(0, .ref (xm_ad (xx_G X) 23)), (1, .int (xm_J x1)), (2, .long x2), (4, .int (xm_J x4))] []) (σ : xm_Mem) (x1 : Int) (x2 : Int64) (x4 : Int) (h1 : xm_in x1) (h4 : xm_in x4) : xm_V X 0 0 (f_X2_gatherBodies_b14 K44 self σ x1 x2 x4) σ 14 [(0, .ref (xm_ad (xx_G X) 23)), (1, .int (xm_J x1)), (2, .long x2), (4, .int (xm_J x4))] [] := by
  unfold f_X2_gatherBodies_b14
  refine xg_iload hC dX2_gatherBodies_14 rfl ?_
  refine xg_aload_n hC dX2_gatherBodies_16 rfl ?_
  refine xg_iload_n hC dX2_gatherBodies_17 rfl ?_
  refine xg_callV hC (ci := 1) (w_X2_kidCount hI σ x1 h1) xl_M_X2_83 xl_V_X2_kidCount (xm_hK (a := 23) (kd := 0) (n := 1) hI rfl).2 ((xm_hK (a := 23) (kd := 0) (n := 1) hI rfl).1 _) (by decide) rfl (by decide) ⟨by decide, by decide⟩ dX2_gatherBodies_18 (rest := [.int (xm_J x4)]) rfl rfl (Nat.le_of_ble_eq_true rfl) rfl rfl (st2 := fun o => .int (xm_J o.2) :: [.int (xm_J x4)]) (fun _ => rfl) (fun o4 k5 => ?_)
  refine xg_icmp_ge hC h4 k5 44 dX2_gatherBodies_21 rfl (fun c6 => ?_) (fun c7 => ?_)
  · refine xg_lload_n hC dX2_gatherBodies_24 rfl ?_
    refine xg_aload_n hC dX2_gatherBodies_25 rfl ?_
    refine xg_aload_n hC dX2_gatherBodies_26 rfl ?_
    refine xg_iload_n hC dX2_gatherBodies_27 rfl ?_
    refine xg_iload hC dX2_gatherBodies_28 rfl ?_
    refine xg_callV hC (ci := 1) (w_X2_kid hI o4.1 x1 x4 h1 h4) xl_M_X2_86 xl_V_X2_kid (xm_hK (a := 23) (kd := 0) (n := 1) hI rfl).2 ((xm_hK (a := 23) (kd := 0) (n := 1) hI rfl).1 _) (by decide) rfl (by decide) ⟨by decide, by decide⟩ dX2_gatherBodies_30 (rest := [.ref (xm_ad (xx_G X) 23), .long x2]) rfl rfl (Nat.le_of_ble_eq_true rfl) rfl rfl (st2 := fun o => .int (xm_J o.2) :: [.ref (xm_ad (xx_G X) 23), .long x2]) (fun _ => rfl) (fun o8 k9 => ?_)
    refine xg_callV hC (ci := 1) (w_X2_body hI o8.1 o8.2 k9) xl_M_X2_90 xl_V_X2_body (xm_hK (a := 23) (kd := 0) (n := 1) hI rfl).2 ((xm_hK (a := 23) (kd := 0) (n := 1) hI rfl).1 _) (by decide) rfl (by decide) ⟨by decide, by decide⟩ dX2_gatherBodies_33 (rest := [.long x2]) rfl rfl (Nat.le_of_ble_eq_true rfl) rfl rfl (st2 := fun o => .long (Int64.ofInt o.2) :: [.long x2]) (fun _ => rfl) (fun o10 k11 => ?_)
    refine xg_lor hC dX2_gatherBodies_36 ?_
    refine xg_vJ (fun v12 => ?_)
    refine xg_lstore_n hC (l' := [(2, .long v12), (0, .ref (xm_ad (xx_G X) 23)), (1, .int (xm_J x1)), (4, .int (xm_J x4))]) dX2_gatherBodies_37 (by decide) rfl ?_
    refine xg_iinc hC (l' := [(4, .int (xm_J (xm_w (x4 + 1)))), (2, .long v12), (0, .ref (xm_ad (xx_G X) 23)), (1, .int (xm_J x1))]) dX2_gatherBodies_38 (by decide) 3 rfl rfl ?_
    refine xg_goto hC 14 dX2_gatherBodies_41 rfl ?_
    exact xg_pick [2, 3, 1, 0] rfl (hself o10.1 x1 v12 (xm_w (x4 + 1)) h1 (xm_w_in _))
  exact xg_pick [0, 1, 2] rfl (hK44 o4.1 x1 x2 h1)
theorem w_X2_gatherBodies_l14 {X : xm_X} (hC : xm_C X yX2_gatherBodies.cls cX2_gatherBodies 5 3 0 0) (hQ : xm_Rt X 0 none 0 0) (hI : xx_I X = xm_I) {K44 : xm_Mem → Int → Int64 → Option xm_Out} (hK44 : ∀ (σ : xm_Mem) (x1 : Int) (x2 : Int64), xm_in x1 → xm_V X 0 0 (K44 σ x1 x2) σ 44 [(0, .ref (xm_ad (xx_G X) 23)), (1, .int (xm_J x1)), (2, .long x2)] []) (n : Nat) : ∀ (σ : xm_Mem) (x1 : Int) (x2 : Int64) (x4 : Int), xm_in x1 → xm_in x4 → xm_V X 0 0 (f_X2_gatherBodies_l14 K44 n σ x1 x2 x4) σ 14 [(0, .ref (xm_ad (xx_G X) 23)), (1, .int (xm_J x1)), (2, .long x2), (4, .int (xm_J x4))] [] := by
  induction n with
  | zero => intro σ x1 x2 x4 h1 h4; exact xg_none
  | succ n ih => intro σ x1 x2 x4 h1 h4; exact w_X2_gatherBodies_b14 hC hQ hI hK44 ih σ x1 x2 x4 h1 h4
theorem w_X2_gatherBodies_b3 {X : xm_X} (hC : xm_C X yX2_gatherBodies.cls cX2_gatherBodies 5 3 0 0) (hQ : xm_Rt X 0 none 0 0) (hI : xx_I X = xm_I)   {self : xm_Mem → Int → Option xm_Out} (hself : ∀ (σ : xm_Mem) (x1 : Int), xm_in x1 → xm_V X 0 0 (self σ x1) σ 3 [(0, .ref (xm_ad (xx_G X) 23)), (1, .int (xm_J x1))] []) (σ : xm_Mem) (x1 : Int) (h1 : xm_in x1) : xm_V X 0 0 (f_X2_gatherBodies_b3  self σ x1) σ 3 [(0, .ref (xm_ad (xx_G X) 23)), (1, .int (xm_J x1))] [] := by
  unfold f_X2_gatherBodies_b3
  refine xg_iload_n hC dX2_gatherBodies_3 rfl ?_
  refine xg_if_lt hC h1 57 dX2_gatherBodies_4 rfl (fun c1 => ?_) (fun c2 => ?_)
  · exact xg_vret hC hQ dX2_gatherBodies_57
  refine xg_lconst hC dX2_gatherBodies_7 (v := 1) rfl ?_
  refine xg_iload_n hC dX2_gatherBodies_8 rfl ?_
  refine xg_lshl hC dX2_gatherBodies_9 ?_
  refine xg_vJ (fun v3 => ?_)
  refine xg_lstore_n hC (l' := [(2, .long v3), (0, .ref (xm_ad (xx_G X) 23)), (1, .int (xm_J x1))]) dX2_gatherBodies_10 (by decide) rfl ?_
  refine xg_iconst hC dX2_gatherBodies_11 ?_
  refine xg_istore hC (l' := [(4, .int (xm_J (0 : Int))), (2, .long v3), (0, .ref (xm_ad (xx_G X) 23)), (1, .int (xm_J x1))]) dX2_gatherBodies_12 (by decide) rfl ?_
  refine xg_pick [2, 3, 1, 0] rfl (w_X2_gatherBodies_l14 hC hQ hI ?_ _ σ x1 v3 (0 : Int) h1 (xm_inc _ rfl))
  intro σ_13 x1_13 x2_13 h1_13
  refine xg_aload_n hC dX2_gatherBodies_44 rfl ?_
  refine xg_getW hC (b := 28) (xm_hK hI rfl) rfl (xm_wK hI rfl) (by decide) xl_F_X2_29 dX2_gatherBodies_45 ?_
  refine xg_iload_n hC dX2_gatherBodies_48 rfl ?_
  refine xg_lload_n hC dX2_gatherBodies_49 rfl ?_
  refine xg_last hC (xm_hK hI rfl) rfl h1_13 (xm_kp2 hI) dX2_gatherBodies_50 ?_
  refine xg_st (fun σ14 => ?_)
  refine xg_iinc hC (l' := [(1, .int (xm_J (xm_w (x1_13 + (-1))))), (0, .ref (xm_ad (xx_G X) 23)), (2, .long x2_13)]) dX2_gatherBodies_51 (by decide) 1 rfl rfl ?_
  refine xg_goto hC 3 dX2_gatherBodies_54 rfl ?_
  exact xg_pick [1, 0] rfl (hself σ14 (xm_w (x1_13 + (-1))) (xm_w_in _))
theorem w_X2_gatherBodies_l3 {X : xm_X} (hC : xm_C X yX2_gatherBodies.cls cX2_gatherBodies 5 3 0 0) (hQ : xm_Rt X 0 none 0 0) (hI : xx_I X = xm_I)   (n : Nat) : ∀ (σ : xm_Mem) (x1 : Int), xm_in x1 → xm_V X 0 0 (f_X2_gatherBodies_l3  n σ x1) σ 3 [(0, .ref (xm_ad (xx_G X) 23)), (1, .int (xm_J x1))] [] := by
  induction n with
  | zero => intro σ x1 h1; exact xg_none
  | succ n ih => intro σ x1 h1; exact w_X2_gatherBodies_b3 hC hQ hI ih σ x1 h1
theorem w_X2_gatherBodies {Γ : xm_Gm} {I : xm_Mem → Prop} {la : Launch} (hE : I = xm_I) (σ : xm_Mem)   : ∀ o, f_X2_gatherBodies σ  = some o → xm_M Γ I la yX2_gatherBodies cX2_gatherBodies 5 none 3 0 0 [.ref (xm_ad Γ 23)] σ 0 o := by
  refine xg_enter (by decide) (by simp [lg_sl, xm_rf_cat, xm_cati, xm_catr, xm_catl]) (fun X hG hI0 hla hC hQ hname => ?_)
  subst hG
  have hI := hI0.trans hE
  clear hI0 hla
  unfold f_X2_gatherBodies
  refine xg_pick [0] (l' := [(0, .ref (xm_ad (xx_G X) 23))]) rfl ?_
  refine xg_bipush hC dX2_gatherBodies_0 (by decide) ?_
  refine xg_istore_n hC (l' := [(1, .int (xm_J (63 : Int))), (0, .ref (xm_ad (xx_G X) 23))]) dX2_gatherBodies_2 (by decide) rfl ?_
  exact xg_pick [1, 0] rfl (w_X2_gatherBodies_l3 hC hQ hI _ σ (63 : Int) (xm_inc _ rfl))
theorem w_X2_rebuild_j43 {X : xm_X} (hC : xm_C X yX2_rebuild.cls cX2_rebuild 3 5 0 0) (hQ : xm_Rt X 0 none 0 0) (hI : xx_I X = xm_I) {K7 : xm_Mem → Int → Option xm_Out} (hK7 : ∀ (σ : xm_Mem) (x2 : Int), xm_in x2 → xm_V X 0 0 (K7 σ x2) σ 7 [(0, .ref (xm_ad (xx_G X) 23)), (1, .ref (xm_ad (xx_G X) 18)), (2, .int (xm_J x2))] []) (σ : xm_Mem) (s0 : Int) (s1 : Int) (x2 : Int) (g0 : 0 ≤ s0 ∧ s0 ≤ 1) (g1 : xm_in s1) (h2 : xm_in x2) : xm_V X 0 0 (f_X2_rebuild_j43 K7 σ s0 s1 x2) σ 43 [(0, .ref (xm_ad (xx_G X) 23)), (1, .ref (xm_ad (xx_G X) 18)), (2, .int (xm_J x2))] [.int (xm_J s0), .int (xm_J s1), .ref (xm_ad (xx_G X) 24)] := by
  unfold f_X2_rebuild_j43
  refine xg_zast hC (xm_hK hI rfl) rfl g1 g0 (xm_kpF hI rfl) dX2_rebuild_43 ?_
  refine xg_st (fun σ8 => ?_)
  refine xg_aload_n hC dX2_rebuild_44 rfl ?_
  refine xg_getW hC (b := 9) (xm_hK hI rfl) rfl (xm_wK hI rfl) (by decide) xl_F_X2_33 dX2_rebuild_45 ?_
  refine xg_iload_n hC dX2_rebuild_48 rfl ?_
  refine xg_callV hC (ci := 4) (w_X5_has hI σ8 x2 h2) xl_M_X2_37 xl_V_X5_has (xm_hK (a := 9) (kd := 0) (n := 4) hI rfl).2 ((xm_hK (a := 9) (kd := 0) (n := 4) hI rfl).1 _) (by decide) rfl (by decide) ⟨by decide, by decide⟩ dX2_rebuild_49 (rest := []) rfl rfl (Nat.le_of_ble_eq_true rfl) rfl rfl (st2 := fun o => .int (xm_J o.2) :: []) (fun _ => rfl) (fun o9 k10 => ?_)
  refine xg_if_eq hC (xm_in01 k10) 60 dX2_rebuild_52 rfl (fun c11 => ?_) (fun c12 => ?_)
  · refine xg_iinc hC (l' := [(2, .int (xm_J (xm_w (x2 + 1)))), (0, .ref (xm_ad (xx_G X) 23)), (1, .ref (xm_ad (xx_G X) 18))]) dX2_rebuild_60 (by decide) 2 rfl rfl ?_
    refine xg_goto hC 7 dX2_rebuild_63 rfl ?_
    exact xg_pick [1, 2, 0] rfl (hK7 o9.1 (xm_w (x2 + 1)) (xm_w_in _))
  refine xg_aload_n hC dX2_rebuild_55 rfl ?_
  refine xg_iload_n hC dX2_rebuild_56 rfl ?_
  refine xg_callV hC (ci := 1) (w_X2_sortIn hI o9.1 x2 h2) xl_M_X2_47 xl_V_X2_sortIn (xm_hK (a := 23) (kd := 0) (n := 1) hI rfl).2 ((xm_hK (a := 23) (kd := 0) (n := 1) hI rfl).1 _) (by decide) rfl (by decide) ⟨by decide, by decide⟩ dX2_rebuild_57 (rest := []) rfl rfl (Nat.le_of_ble_eq_true rfl) rfl rfl (st2 := fun o => []) (fun _ => rfl) (fun o13 k14 => ?_)
  refine xg_iinc hC (l' := [(2, .int (xm_J (xm_w (x2 + 1)))), (0, .ref (xm_ad (xx_G X) 23)), (1, .ref (xm_ad (xx_G X) 18))]) dX2_rebuild_60 (by decide) 2 rfl rfl ?_
  refine xg_goto hC 7 dX2_rebuild_63 rfl ?_
  exact xg_pick [1, 2, 0] rfl (hK7 o13.1 (xm_w (x2 + 1)) (xm_w_in _))
theorem w_X2_rebuild_j42 {X : xm_X} (hC : xm_C X yX2_rebuild.cls cX2_rebuild 3 5 0 0) (hQ : xm_Rt X 0 none 0 0) (hI : xx_I X = xm_I) {K7 : xm_Mem → Int → Option xm_Out} (hK7 : ∀ (σ : xm_Mem) (x2 : Int), xm_in x2 → xm_V X 0 0 (K7 σ x2) σ 7 [(0, .ref (xm_ad (xx_G X) 23)), (1, .ref (xm_ad (xx_G X) 18)), (2, .int (xm_J x2))] []) (σ : xm_Mem) (s0 : Int) (x2 : Int) (g0 : xm_in s0) (h2 : xm_in x2) : xm_V X 0 0 (f_X2_rebuild_j42 K7 σ s0 x2) σ 42 [(0, .ref (xm_ad (xx_G X) 23)), (1, .ref (xm_ad (xx_G X) 18)), (2, .int (xm_J x2))] [.int (xm_J s0), .ref (xm_ad (xx_G X) 24)] := by
  unfold f_X2_rebuild_j42
  refine xg_iconst hC dX2_rebuild_42 ?_
  exact (w_X2_rebuild_j43 hC hQ hI hK7 σ (0 : Int) s0 x2 (by decide) g0 h2)
theorem w_X2_rebuild_b7 {X : xm_X} (hC : xm_C X yX2_rebuild.cls cX2_rebuild 3 5 0 0) (hQ : xm_Rt X 0 none 0 0) (hI : xx_I X = xm_I) {K66 : xm_Mem → Option xm_Out} (hK66 : ∀ (σ : xm_Mem), xm_V X 0 0 (K66 σ ) σ 66 [(0, .ref (xm_ad (xx_G X) 23))] []) {self : xm_Mem → Int → Option xm_Out} (hself : ∀ (σ : xm_Mem) (x2 : Int), xm_in x2 → xm_V X 0 0 (self σ x2) σ 7 [(0, .ref (xm_ad (xx_G X) 23)), (1, .ref (xm_ad (xx_G X) 18)), (2, .int (xm_J x2))] []) (σ : xm_Mem) (x2 : Int) (h2 : xm_in x2) : xm_V X 0 0 (f_X2_rebuild_b7 K66 self σ x2) σ 7 [(0, .ref (xm_ad (xx_G X) 23)), (1, .ref (xm_ad (xx_G X) 18)), (2, .int (xm_J x2))] [] := by
  unfold f_X2_rebuild_b7
  refine xg_iload_n hC dX2_rebuild_7 rfl ?_
  refine xg_bipush hC dX2_rebuild_8 (by decide) ?_
  refine xg_icmp_ge hC h2 (xm_inc _ rfl) 66 dX2_rebuild_10 rfl (fun c2 => ?_) (fun c3 => ?_)
  · refine xg_aload_n hC dX2_rebuild_13 rfl ?_
    refine xg_getW hC (b := 24) (xm_hK hI rfl) rfl (xm_wK hI rfl) (by decide) xl_F_X2_9 dX2_rebuild_14 ?_
    refine xg_iload_n hC dX2_rebuild_17 rfl ?_
    refine xg_aload_n hC dX2_rebuild_18 rfl ?_
    refine xg_getW hC (b := 9) (xm_hK hI rfl) rfl (xm_wK hI rfl) (by decide) xl_F_X2_33 dX2_rebuild_19 ?_
    refine xg_iload_n hC dX2_rebuild_22 rfl ?_
    refine xg_callV hC (ci := 4) (w_X5_has hI σ x2 h2) xl_M_X2_37 xl_V_X5_has (xm_hK (a := 9) (kd := 0) (n := 4) hI rfl).2 ((xm_hK (a := 9) (kd := 0) (n := 4) hI rfl).1 _) (by decide) rfl (by decide) ⟨by decide, by decide⟩ dX2_rebuild_23 (rest := [.int (xm_J x2), .ref (xm_ad (xx_G X) 24)]) rfl rfl (Nat.le_of_ble_eq_true rfl) rfl rfl (st2 := fun o => .int (xm_J o.2) :: [.int (xm_J x2), .ref (xm_ad (xx_G X) 24)]) (fun _ => rfl) (fun o4 k5 => ?_)
    refine xg_if_eq hC (xm_in01 k5) 42 dX2_rebuild_26 rfl (fun c6 => ?_) (fun c7 => ?_)
    · exact (w_X2_rebuild_j42 hC hQ hI hself o4.1 x2 x2 h2 h2)
    refine xg_aload_n hC dX2_rebuild_29 rfl ?_
    refine xg_iload_n hC dX2_rebuild_30 rfl ?_
    refine xg_aload_n hC dX2_rebuild_31 rfl ?_
    refine xg_callV hC (ci := 1) (w_X2_isBornLegit hI o4.1 x2 h2) xl_M_X2_43 xl_V_X2_isBornLegit (xm_hK (a := 23) (kd := 0) (n := 1) hI rfl).2 ((xm_hK (a := 23) (kd := 0) (n := 1) hI rfl).1 _) (by decide) rfl (by decide) ⟨by decide, by decide⟩ dX2_rebuild_32 (rest := [.int (xm_J x2), .ref (xm_ad (xx_G X) 24)]) rfl rfl (Nat.le_of_ble_eq_true rfl) rfl rfl (st2 := fun o => .int (xm_J o.2) :: [.int (xm_J x2), .ref (xm_ad (xx_G X) 24)]) (fun _ => rfl) (fun o15 k16 => ?_)
    refine xg_if_eq hC (xm_in01 k16) 42 dX2_rebuild_35 rfl (fun c17 => ?_) (fun c18 => ?_)
    · exact (w_X2_rebuild_j42 hC hQ hI hself o15.1 x2 x2 h2 h2)
    refine xg_iconst hC dX2_rebuild_38 ?_
    refine xg_goto hC 43 dX2_rebuild_39 rfl ?_
    exact (w_X2_rebuild_j43 hC hQ hI hself o15.1 (1 : Int) x2 x2 (by decide) h2 h2)
  exact xg_pick [0] rfl (hK66 σ)
theorem w_X2_rebuild_l7 {X : xm_X} (hC : xm_C X yX2_rebuild.cls cX2_rebuild 3 5 0 0) (hQ : xm_Rt X 0 none 0 0) (hI : xx_I X = xm_I) {K66 : xm_Mem → Option xm_Out} (hK66 : ∀ (σ : xm_Mem), xm_V X 0 0 (K66 σ ) σ 66 [(0, .ref (xm_ad (xx_G X) 23))] []) (n : Nat) : ∀ (σ : xm_Mem) (x2 : Int), xm_in x2 → xm_V X 0 0 (f_X2_rebuild_l7 K66 n σ x2) σ 7 [(0, .ref (xm_ad (xx_G X) 23)), (1, .ref (xm_ad (xx_G X) 18)), (2, .int (xm_J x2))] [] := by
  induction n with
  | zero => intro σ x2 h2; exact xg_none
  | succ n ih => intro σ x2 h2; exact w_X2_rebuild_b7 hC hQ hI hK66 ih σ x2 h2
theorem w_X2_rebuild {Γ : xm_Gm} {I : xm_Mem → Prop} {la : Launch} (hE : I = xm_I) (σ : xm_Mem)   : ∀ o, f_X2_rebuild σ  = some o → xm_M Γ I la yX2_rebuild cX2_rebuild 3 none 5 0 0 [.ref (xm_ad Γ 23), .ref (xm_ad Γ 18)] σ 0 o := by
  refine xg_enter (by decide) (by simp [lg_sl, xm_rf_cat, xm_cati, xm_catr, xm_catl]) (fun X hG hI0 hla hC hQ hname => ?_)
  subst hG
  have hI := hI0.trans hE
  clear hI0 hla
  unfold f_X2_rebuild
  refine xg_pick [0, 1] (l' := [(0, .ref (xm_ad (xx_G X) 23)), (1, .ref (xm_ad (xx_G X) 18))]) rfl ?_
  refine xg_aload_n hC dX2_rebuild_0 rfl ?_
  refine xg_iconst hC dX2_rebuild_1 ?_
  refine xg_putI hC (xm_hK hI rfl) rfl rfl (xm_inc _ rfl) (xm_kpK hI rfl) xl_F_X2_19 dX2_rebuild_2 ?_
  refine xg_st (fun σ1 => ?_)
  refine xg_iconst hC dX2_rebuild_5 ?_
  refine xg_istore_n hC (l' := [(2, .int (xm_J (0 : Int))), (0, .ref (xm_ad (xx_G X) 23)), (1, .ref (xm_ad (xx_G X) 18))]) dX2_rebuild_6 (by decide) rfl ?_
  refine xg_pick [1, 2, 0] rfl (w_X2_rebuild_l7 hC hQ hI ?_ _ σ1 (0 : Int) (xm_inc _ rfl))
  intro σ_19
  refine xg_aload_n hC dX2_rebuild_66 rfl ?_
  refine xg_callV hC (ci := 1) (w_X2_listKids hI σ_19 ) xl_M_X2_51 xl_V_X2_listKids (xm_hK (a := 23) (kd := 0) (n := 1) hI rfl).2 ((xm_hK (a := 23) (kd := 0) (n := 1) hI rfl).1 _) (by decide) rfl (by decide) ⟨by decide, by decide⟩ dX2_rebuild_67 (rest := []) rfl rfl (Nat.le_of_ble_eq_true rfl) rfl rfl (st2 := fun o => []) (fun _ => rfl) (fun o20 k21 => ?_)
  refine xg_aload_n hC dX2_rebuild_70 rfl ?_
  refine xg_callV hC (ci := 1) (w_X2_gatherBodies hI o20.1 ) xl_M_X2_54 xl_V_X2_gatherBodies (xm_hK (a := 23) (kd := 0) (n := 1) hI rfl).2 ((xm_hK (a := 23) (kd := 0) (n := 1) hI rfl).1 _) (by decide) rfl (by decide) ⟨by decide, by decide⟩ dX2_rebuild_71 (rest := []) rfl rfl (Nat.le_of_ble_eq_true rfl) rfl rfl (st2 := fun o => []) (fun _ => rfl) (fun o22 k23 => ?_)
  exact xg_vret hC hQ dX2_rebuild_74
theorem w_X4_forget {Γ : xm_Gm} {I : xm_Mem → Prop} {la : Launch} (hE : I = xm_I) (σ : xm_Mem)   : ∀ o, f_X4_forget σ  = some o → xm_M Γ I la yX4_forget cX4_forget 1 none 1 0 0 [.ref (xm_ad Γ 29)] σ 0 o := by
  refine xg_enter (by decide) (by simp [lg_sl, xm_rf_cat, xm_cati, xm_catr, xm_catl]) (fun X hG hI0 hla hC hQ hname => ?_)
  subst hG
  have hI := hI0.trans hE
  clear hI0 hla
  unfold f_X4_forget
  refine xg_pick [0] (l' := [(0, .ref (xm_ad (xx_G X) 29))]) rfl ?_
  refine xg_aload_n hC dX4_forget_0 rfl ?_
  refine xg_iconst hC dX4_forget_1 ?_
  refine xg_putI hC (xm_hK hI rfl) rfl rfl (xm_inc _ rfl) (xm_kpK hI rfl) xl_F_X4_19 dX4_forget_2 ?_
  refine xg_st (fun σ1 => ?_)
  refine xg_aload_n hC dX4_forget_5 rfl ?_
  refine xg_iconst hC dX4_forget_6 ?_
  refine xg_putI hC (xm_hK hI rfl) rfl rfl (xm_inc _ rfl) (xm_kpK hI rfl) xl_F_X4_22 dX4_forget_7 ?_
  refine xg_st (fun σ2 => ?_)
  exact xg_vret hC hQ dX4_forget_10
theorem w_X1_forget {Γ : xm_Gm} {I : xm_Mem → Prop} {la : Launch} (hE : I = xm_I) (σ : xm_Mem) (t : Nat)  (ht : t < 8)  : ∀ o, f_X1_forget t σ  = some o → xm_M Γ I la yX1_forget cX1_forget 1 none 1 0 0 [.ref (xm_ad Γ (xm_cb t))] σ 0 o := by
  refine xg_enter (by decide) (by simp [lg_sl, xm_rf_cat, xm_cati, xm_catr, xm_catl]) (fun X hG hI0 hla hC hQ hname => ?_)
  subst hG
  have hI := hI0.trans hE
  clear hI0 hla
  unfold f_X1_forget
  refine xg_pick [0] (l' := [(0, .ref (xm_ad (xx_G X) (xm_cb t)))]) rfl ?_
  refine xg_aload_n hC dX1_forget_0 rfl ?_
  refine xg_iconst hC dX1_forget_1 ?_
  refine xg_putZ hC (xm_hC hI ht) rfl rfl (by decide) (xm_kpT hI ht (by decide)) xl_F_X1_31 dX1_forget_2 ?_
  refine xg_st (fun σ1 => ?_)
  exact xg_vret hC hQ dX1_forget_5
theorem w_X10_settle_b46 {X : xm_X} (hC : xm_C X yX10_settle.cls cX10_settle 2 6 0 0) (hQ : xm_Rt X 0 none 0 0) (hI : xx_I X = xm_I)   {self : xm_Mem → Int → Option xm_Out} (hself : ∀ (σ : xm_Mem) (x1 : Int), xm_in x1 → xm_V X 0 0 (self σ x1) σ 46 [(0, .ref (xm_ad (xx_G X) 1)), (1, .int (xm_J x1))] []) (σ : xm_Mem) (x1 : Int) (h1 : xm_in x1) : xm_V X 0 0 (f_X10_settle_b46  self σ x1) σ 46 [(0, .ref (xm_ad (xx_G X) 1)), (1, .int (xm_J x1))] [] := by
  unfold f_X10_settle_b46
  refine xg_iload_n hC dX10_settle_46 rfl ?_
  refine xg_bipush hC dX10_settle_47 (by decide) ?_
  refine xg_icmp_ge hC h1 (xm_inc _ rfl) 67 dX10_settle_49 rfl (fun c9 => ?_) (fun c10 => ?_)
  · refine xg_aload_n hC dX10_settle_52 rfl ?_
    refine xg_getW hC (b := 35) (xm_hK hI rfl) rfl (xm_wK hI rfl) (by decide) xl_F_X10_66 dX10_settle_53 ?_
    refine xg_iload_n hC dX10_settle_56 rfl ?_
    refine xg_cald hC (xm_hK hI rfl) (xm_cw hI) h1 dX10_settle_57 (fun b11 => ?_)
    refine xg_callV hC (ci := 0) (w_X1_forget hI σ x1.toNat (xm_c8 b11)) xl_M_X10_259 xl_V_X1_forget (xm_hC hI (xm_c8 b11)).2 ((xm_hC hI (xm_c8 b11)).1 _) (by decide) rfl (by decide) ⟨by decide, by decide⟩ dX10_settle_58 (rest := []) rfl rfl (Nat.le_of_ble_eq_true rfl) rfl rfl (st2 := fun o => []) (fun _ => rfl) (fun o13 k14 => ?_)
    refine xg_iinc hC (l' := [(1, .int (xm_J (xm_w (x1 + 1)))), (0, .ref (xm_ad (xx_G X) 1))]) dX10_settle_61 (by decide) 1 rfl rfl ?_
    refine xg_goto hC 46 dX10_settle_64 rfl ?_
    exact xg_pick [1, 0] rfl (hself o13.1 (xm_w (x1 + 1)) (xm_w_in _))
  exact xg_vret hC hQ dX10_settle_67
theorem w_X10_settle_l46 {X : xm_X} (hC : xm_C X yX10_settle.cls cX10_settle 2 6 0 0) (hQ : xm_Rt X 0 none 0 0) (hI : xx_I X = xm_I)   (n : Nat) : ∀ (σ : xm_Mem) (x1 : Int), xm_in x1 → xm_V X 0 0 (f_X10_settle_l46  n σ x1) σ 46 [(0, .ref (xm_ad (xx_G X) 1)), (1, .int (xm_J x1))] [] := by
  induction n with
  | zero => intro σ x1 h1; exact xg_none
  | succ n ih => intro σ x1 h1; exact w_X10_settle_b46 hC hQ hI ih σ x1 h1
theorem w_X10_settle {Γ : xm_Gm} {I : xm_Mem → Prop} {la : Launch} (hE : I = xm_I) (σ : xm_Mem)   : ∀ o, f_X10_settle σ  = some o → xm_M Γ I la yX10_settle cX10_settle 2 none 6 0 0 [.ref (xm_ad Γ 1)] σ 0 o := by
  refine xg_enter (by decide) (by simp [lg_sl, xm_rf_cat, xm_cati, xm_catr, xm_catl]) (fun X hG hI0 hla hC hQ hname => ?_)
  subst hG
  have hI := hI0.trans hE
  clear hI0 hla
  unfold f_X10_settle
  refine xg_pick [0] (l' := [(0, .ref (xm_ad (xx_G X) 1))]) rfl ?_
  refine xg_aload_n hC dX10_settle_0 rfl ?_
  refine xg_getW hC (b := 9) (xm_hK hI rfl) rfl (xm_wK hI rfl) (by decide) xl_F_X10_35 dX10_settle_1 ?_
  refine xg_aload_n hC dX10_settle_4 rfl ?_
  refine xg_getW hC (b := 5) (xm_hK hI rfl) rfl (xm_wK hI rfl) (by decide) xl_F_X10_28 dX10_settle_5 ?_
  refine xg_callV hC (ci := 4) (w_X5_rebuild hI σ ) xl_M_X10_240 xl_V_X5_rebuild (xm_hK (a := 9) (kd := 0) (n := 4) hI rfl).2 ((xm_hK (a := 9) (kd := 0) (n := 4) hI rfl).1 _) (by decide) rfl (by decide) ⟨by decide, by decide⟩ dX10_settle_8 (rest := []) rfl rfl (Nat.le_of_ble_eq_true rfl) rfl rfl (st2 := fun o => []) (fun _ => rfl) (fun o1 k2 => ?_)
  refine xg_aload_n hC dX10_settle_11 rfl ?_
  refine xg_getW hC (b := 18) (xm_hK hI rfl) rfl (xm_wK hI rfl) (by decide) xl_F_X10_42 dX10_settle_12 ?_
  refine xg_aload_n hC dX10_settle_15 rfl ?_
  refine xg_getW hC (b := 5) (xm_hK hI rfl) rfl (xm_wK hI rfl) (by decide) xl_F_X10_28 dX10_settle_16 ?_
  refine xg_aload_n hC dX10_settle_19 rfl ?_
  refine xg_getW hC (b := 9) (xm_hK hI rfl) rfl (xm_wK hI rfl) (by decide) xl_F_X10_35 dX10_settle_20 ?_
  refine xg_callV hC (ci := 8) (w_X9_rebuild hI o1.1 ) xl_M_X10_244 xl_V_X9_rebuild (xm_hK (a := 18) (kd := 0) (n := 8) hI rfl).2 ((xm_hK (a := 18) (kd := 0) (n := 8) hI rfl).1 _) (by decide) rfl (by decide) ⟨by decide, by decide⟩ dX10_settle_23 (rest := []) rfl rfl (Nat.le_of_ble_eq_true rfl) rfl rfl (st2 := fun o => []) (fun _ => rfl) (fun o3 k4 => ?_)
  refine xg_aload_n hC dX10_settle_26 rfl ?_
  refine xg_getW hC (b := 23) (xm_hK hI rfl) rfl (xm_wK hI rfl) (by decide) xl_F_X10_51 dX10_settle_27 ?_
  refine xg_aload_n hC dX10_settle_30 rfl ?_
  refine xg_getW hC (b := 18) (xm_hK hI rfl) rfl (xm_wK hI rfl) (by decide) xl_F_X10_42 dX10_settle_31 ?_
  refine xg_callV hC (ci := 1) (w_X2_rebuild hI o3.1 ) xl_M_X10_253 xl_V_X2_rebuild (xm_hK (a := 23) (kd := 0) (n := 1) hI rfl).2 ((xm_hK (a := 23) (kd := 0) (n := 1) hI rfl).1 _) (by decide) rfl (by decide) ⟨by decide, by decide⟩ dX10_settle_34 (rest := []) rfl rfl (Nat.le_of_ble_eq_true rfl) rfl rfl (st2 := fun o => []) (fun _ => rfl) (fun o5 k6 => ?_)
  refine xg_aload_n hC dX10_settle_37 rfl ?_
  refine xg_getW hC (b := 29) (xm_hK hI rfl) rfl (xm_wK hI rfl) (by decide) xl_F_X10_60 dX10_settle_38 ?_
  refine xg_callV hC (ci := 3) (w_X4_forget hI o5.1 ) xl_M_X10_256 xl_V_X4_forget (xm_hK (a := 29) (kd := 0) (n := 3) hI rfl).2 ((xm_hK (a := 29) (kd := 0) (n := 3) hI rfl).1 _) (by decide) rfl (by decide) ⟨by decide, by decide⟩ dX10_settle_41 (rest := []) rfl rfl (Nat.le_of_ble_eq_true rfl) rfl rfl (st2 := fun o => []) (fun _ => rfl) (fun o7 k8 => ?_)
  refine xg_iconst hC dX10_settle_44 ?_
  refine xg_istore_n hC (l' := [(1, .int (xm_J (0 : Int))), (0, .ref (xm_ad (xx_G X) 1))]) dX10_settle_45 (by decide) rfl ?_
  exact xg_pick [1, 0] rfl (w_X10_settle_l46 hC hQ hI _ o7.1 (0 : Int) (xm_inc _ rfl))
theorem w_X10_record_j113 {X : xm_X} (hC : xm_C X yX10_record.cls cX10_record 2 10 1 10) (hQ : xm_Rt X 1 (some .int) 1 10) (hI : xx_I X = xm_I)   (σ : xm_Mem)   : xm_V X 1 10 (f_X10_record_j113  σ) σ 113 [(0, .ref (xm_ad (xx_G X) 1))] [] := by
  unfold f_X10_record_j113
  refine xg_aload_n hC dX10_record_113 rfl ?_
  refine xg_callV hC (ci := 9) (w_X10_settle hI σ ) xl_M_X10_127 xl_V_X10_settle (xm_hK (a := 1) (kd := 0) (n := 9) hI rfl).2 ((xm_hK (a := 1) (kd := 0) (n := 9) hI rfl).1 _) (by decide) rfl (by decide) ⟨by decide, by decide⟩ dX10_record_114 (rest := []) rfl rfl (Nat.le_of_ble_eq_true rfl) rfl rfl (st2 := fun o => []) (fun _ => rfl) (fun o33 k34 => ?_)
  refine xg_aload_n hC dX10_record_117 rfl ?_
  refine xg_getI hC (xm_hK hI rfl) rfl xl_F_X10_77 dX10_record_118 (fun k35 => ?_)
  refine xg_if_eq hC k35 132 dX10_record_121 rfl (fun c36 => ?_) (fun c37 => ?_)
  · refine xg_aload_n hC dX10_record_132 rfl ?_
    refine xg_aload_n hC dX10_record_133 rfl ?_
    refine xg_getW hC (b := 5) (xm_hK hI rfl) rfl (xm_wK hI rfl) (by decide) xl_F_X10_28 dX10_record_134 ?_
    refine xg_callV hC (ci := 6) (w_X7_size hI o33.1 ) xl_M_X10_130 xl_V_X7_size (xm_hK (a := 5) (kd := 0) (n := 6) hI rfl).2 ((xm_hK (a := 5) (kd := 0) (n := 6) hI rfl).1 _) (by decide) rfl (by decide) ⟨by decide, by decide⟩ dX10_record_137 (rest := [.ref (xm_ad (xx_G X) 1)]) rfl rfl (Nat.le_of_ble_eq_true rfl) rfl rfl (st2 := fun o => .int (xm_J o.2) :: [.ref (xm_ad (xx_G X) 1)]) (fun _ => rfl) (fun o38 k39 => ?_)
    refine xg_iconst hC dX10_record_140 ?_
    refine xg_isub hC dX10_record_141 ?_
    refine xg_callV hC (ci := 9) (w_X10_accept hI o38.1 (xm_w (o38.2 - (1 : Int))) (xm_w_in _)) xl_M_X10_99 xl_V_X10_accept (xm_hK (a := 1) (kd := 0) (n := 9) hI rfl).2 ((xm_hK (a := 1) (kd := 0) (n := 9) hI rfl).1 _) (by decide) rfl (by decide) ⟨by decide, by decide⟩ dX10_record_142 (rest := []) rfl rfl (Nat.le_of_ble_eq_true rfl) rfl rfl (st2 := fun o => .int (xm_J o.2) :: []) (fun _ => rfl) (fun o40 k41 => ?_)
    exact xg_iret hC hQ k41 dX10_record_145
  refine xg_aload_n hC dX10_record_124 rfl ?_
  refine xg_iconst hC dX10_record_125 ?_
  refine xg_callV hC (ci := 9) (w_X10_refuse hI o33.1 (5 : Int) (xm_inc _ rfl)) xl_M_X10_87 xl_V_X10_refuse (xm_hK (a := 1) (kd := 0) (n := 9) hI rfl).2 ((xm_hK (a := 1) (kd := 0) (n := 9) hI rfl).1 _) (by decide) rfl (by decide) ⟨by decide, by decide⟩ dX10_record_126 (rest := []) rfl rfl (Nat.le_of_ble_eq_true rfl) rfl rfl (st2 := fun o => .int (xm_J o.2) :: []) (fun _ => rfl) (fun o42 k43 => ?_)
  refine xg_goto hC 145 dX10_record_129 rfl ?_
  exact xg_iret hC hQ k43 dX10_record_145
theorem w_X10_record {Γ : xm_Gm} {I : xm_Mem → Prop} {la : Launch} (hE : I = xm_I) (σ : xm_Mem)   : ∀ o, f_X10_record σ  = some o → xm_M Γ I la yX10_record cX10_record 2 (some .int) 10 1 10 [.ref (xm_ad Γ 1)] σ 1 o := by
  refine xg_enter (by decide) (by simp [lg_sl, xm_rf_cat, xm_cati, xm_catr, xm_catl]) (fun X hG hI0 hla hC hQ hname => ?_)
  subst hG
  have hI := hI0.trans hE
  clear hI0 hla
  unfold f_X10_record
  refine xg_pick [0] (l' := [(0, .ref (xm_ad (xx_G X) 1))]) rfl ?_
  refine xg_new hC (by decide) xl_K_X10_105 xl_T_2 xl_Z_2 ⟨by decide, by decide⟩ (xm_kpN hI) dX10_record_0 ?_
  refine xg_st (fun σ1 => ?_)
  refine xg_vR (by omega) (fun v0 k0 => ?_)
  refine xg_guard (fun q0 => ?_)
  refine xg_dup hC dX10_record_3 xm_rf_cat ?_
  refine xg_callIN hC (w_X3_init hI σ1 v0 ⟨k0.1, k0.2⟩) (by omega) xl_N_X10_107 xl_I_X3_init (by decide) ⟨by decide, by decide⟩ dX10_record_4 (rest := [xm_rf (xx_G X) v0]) rfl rfl (by simp [xm_rf_cat, xm_cati, xm_catr, xm_catl]) rfl rfl (fun o2 k3 => ?_)
  refine xg_rstore_n hC (l' := [(1, xm_rf (xx_G X) v0), (0, .ref (xm_ad (xx_G X) 1))]) dX10_record_7 (by decide) rfl ?_
  refine xg_aload_n hC dX10_record_8 rfl ?_
  refine xg_iconst hC dX10_record_9 ?_
  refine xg_putI hC (xm_hK hI rfl) rfl rfl (xm_inc _ rfl) (xm_kpK hI rfl) xl_F_X10_77 dX10_record_10 ?_
  refine xg_st (fun σ4 => ?_)
  refine xg_aload_n hC dX10_record_13 rfl ?_
  refine xg_aload_n hC dX10_record_14 rfl ?_
  refine xg_getW hC (b := 4) (xm_hK hI rfl) rfl (xm_wK hI rfl) (by decide) xl_F_X10_21 dX10_record_15 ?_
  refine xg_rload_n hC dX10_record_18 rfl ?_
  refine xg_callV hC (ci := 5) (w_X6_readInto hI σ4 v0 ⟨k0.1, k0.2⟩) xl_M_X10_108 xl_V_X6_readInto (xm_hK (a := 4) (kd := 0) (n := 5) hI rfl).2 ((xm_hK (a := 4) (kd := 0) (n := 5) hI rfl).1 _) (by decide) rfl (by decide) ⟨by decide, by decide⟩ dX10_record_19 (rest := [.ref (xm_ad (xx_G X) 1)]) rfl rfl (Nat.le_of_ble_eq_true rfl) rfl rfl (st2 := fun o => .int (xm_J o.2) :: [.ref (xm_ad (xx_G X) 1)]) (fun _ => rfl) (fun o5 k6 => ?_)
  refine xg_putI hC (xm_hK hI rfl) rfl rfl k6 (xm_kpK hI rfl) xl_F_X10_74 dX10_record_22 ?_
  refine xg_st (fun σ7 => ?_)
  refine xg_aload_n hC dX10_record_25 rfl ?_
  refine xg_getW hC (b := 2) (xm_hK hI rfl) rfl (xm_wK hI rfl) (by decide) xl_F_X10_10 dX10_record_26 ?_
  refine xg_iconst hC dX10_record_29 ?_
  refine xg_callV hC (ci := 7) (w_X8_keep hI σ7 (0 : Int) (xm_inc _ rfl)) xl_M_X10_102 xl_V_X8_keep (xm_hK (a := 2) (kd := 0) (n := 7) hI rfl).2 ((xm_hK (a := 2) (kd := 0) (n := 7) hI rfl).1 _) (by decide) rfl (by decide) ⟨by decide, by decide⟩ dX10_record_30 (rest := []) rfl rfl (Nat.le_of_ble_eq_true rfl) rfl rfl (st2 := fun o => []) (fun _ => rfl) (fun o8 k9 => ?_)
  refine xg_aload_n hC dX10_record_33 rfl ?_
  refine xg_getI hC (xm_hK hI rfl) rfl xl_F_X10_74 dX10_record_34 (fun k10 => ?_)
  refine xg_bipush hC dX10_record_37 (by decide) ?_
  refine xg_icmp_eq hC k10 (xm_inc _ rfl) 48 dX10_record_39 rfl (fun c11 => ?_) (fun c12 => ?_)
  · refine xg_aload_n hC dX10_record_48 rfl ?_
    refine xg_getW hC (b := 5) (xm_hK hI rfl) rfl (xm_wK hI rfl) (by decide) xl_F_X10_28 dX10_record_49 ?_
    refine xg_rload_n hC dX10_record_52 rfl ?_
    refine xg_callV hC (ci := 6) (w_X7_knowsAllNamedBy hI o8.1 v0 ⟨k0.1, k0.2⟩) xl_M_X10_112 xl_V_X7_knowsAllNamedBy (xm_hK (a := 5) (kd := 0) (n := 6) hI rfl).2 ((xm_hK (a := 5) (kd := 0) (n := 6) hI rfl).1 _) (by decide) rfl (by decide) ⟨by decide, by decide⟩ dX10_record_53 (rest := []) rfl rfl (Nat.le_of_ble_eq_true rfl) rfl rfl (st2 := fun o => .int (xm_J o.2) :: []) (fun _ => rfl) (fun o13 k14 => ?_)
    refine xg_if_ne hC (xm_in01 k14) 65 dX10_record_56 rfl (fun c15 => ?_) (fun c16 => ?_)
    · refine xg_aload_n hC dX10_record_59 rfl ?_
      refine xg_iconst hC dX10_record_60 ?_
      refine xg_callV hC (ci := 9) (w_X10_refuse hI o13.1 (1 : Int) (xm_inc _ rfl)) xl_M_X10_87 xl_V_X10_refuse (xm_hK (a := 1) (kd := 0) (n := 9) hI rfl).2 ((xm_hK (a := 1) (kd := 0) (n := 9) hI rfl).1 _) (by decide) rfl (by decide) ⟨by decide, by decide⟩ dX10_record_61 (rest := []) rfl rfl (Nat.le_of_ble_eq_true rfl) rfl rfl (st2 := fun o => .int (xm_J o.2) :: []) (fun _ => rfl) (fun o17 k18 => ?_)
      exact xg_iret hC hQ k18 dX10_record_64
    refine xg_aload_n hC dX10_record_65 rfl ?_
    refine xg_getW hC (b := 5) (xm_hK hI rfl) rfl (xm_wK hI rfl) (by decide) xl_F_X10_28 dX10_record_66 ?_
    refine xg_rload_n hC dX10_record_69 rfl ?_
    refine xg_callV hC (ci := 6) (w_X7_hasRoomFor hI o13.1 v0 ⟨k0.1, k0.2⟩) xl_M_X10_116 xl_V_X7_hasRoomFor (xm_hK (a := 5) (kd := 0) (n := 6) hI rfl).2 ((xm_hK (a := 5) (kd := 0) (n := 6) hI rfl).1 _) (by decide) rfl (by decide) ⟨by decide, by decide⟩ dX10_record_70 (rest := []) rfl rfl (Nat.le_of_ble_eq_true rfl) rfl rfl (st2 := fun o => .int (xm_J o.2) :: []) (fun _ => rfl) (fun o19 k20 => ?_)
    refine xg_if_ne hC (xm_in01 k20) 83 dX10_record_73 rfl (fun c21 => ?_) (fun c22 => ?_)
    · refine xg_aload_n hC dX10_record_76 rfl ?_
      refine xg_bipush hC dX10_record_77 (by decide) ?_
      refine xg_callV hC (ci := 9) (w_X10_refuse hI o19.1 (9 : Int) (xm_inc _ rfl)) xl_M_X10_87 xl_V_X10_refuse (xm_hK (a := 1) (kd := 0) (n := 9) hI rfl).2 ((xm_hK (a := 1) (kd := 0) (n := 9) hI rfl).1 _) (by decide) rfl (by decide) ⟨by decide, by decide⟩ dX10_record_79 (rest := []) rfl rfl (Nat.le_of_ble_eq_true rfl) rfl rfl (st2 := fun o => .int (xm_J o.2) :: []) (fun _ => rfl) (fun o23 k24 => ?_)
      exact xg_iret hC hQ k24 dX10_record_82
    refine xg_aload_n hC dX10_record_83 rfl ?_
    refine xg_getW hC (b := 5) (xm_hK hI rfl) rfl (xm_wK hI rfl) (by decide) xl_F_X10_28 dX10_record_84 ?_
    refine xg_rload_n hC dX10_record_87 rfl ?_
    refine xg_callV hC (ci := 6) (w_X7_add hI o19.1 v0 ⟨k0.1, k0.2⟩) xl_M_X10_118 xl_V_X7_add (xm_hK (a := 5) (kd := 0) (n := 6) hI rfl).2 ((xm_hK (a := 5) (kd := 0) (n := 6) hI rfl).1 _) (by decide) rfl (by decide) ⟨by decide, by decide⟩ dX10_record_88 (rest := []) rfl rfl (Nat.le_of_ble_eq_true rfl) rfl rfl (st2 := fun o => []) (fun _ => rfl) (fun o25 k26 => ?_)
    refine xg_aload_n hC dX10_record_91 rfl ?_
    refine xg_aload_n hC dX10_record_92 rfl ?_
    refine xg_callV hC (ci := 9) (w_X10_firstBrokenBond hI o25.1 ) xl_M_X10_121 xl_V_X10_firstBrokenBond (xm_hK (a := 1) (kd := 0) (n := 9) hI rfl).2 ((xm_hK (a := 1) (kd := 0) (n := 9) hI rfl).1 _) (by decide) rfl (by decide) ⟨by decide, by decide⟩ dX10_record_93 (rest := [.ref (xm_ad (xx_G X) 1)]) rfl rfl (Nat.le_of_ble_eq_true rfl) rfl rfl (st2 := fun o => .int (xm_J o.2) :: [.ref (xm_ad (xx_G X) 1)]) (fun _ => rfl) (fun o27 k28 => ?_)
    refine xg_putI hC (xm_hK hI rfl) rfl rfl k28 (xm_kpK hI rfl) xl_F_X10_77 dX10_record_96 ?_
    refine xg_st (fun σ29 => ?_)
    refine xg_aload_n hC dX10_record_99 rfl ?_
    refine xg_getI hC (xm_hK hI rfl) rfl xl_F_X10_77 dX10_record_100 (fun k30 => ?_)
    refine xg_if_eq hC k30 113 dX10_record_103 rfl (fun c31 => ?_) (fun c32 => ?_)
    · exact xg_pick [1] rfl (w_X10_record_j113 hC hQ hI σ29)
    refine xg_aload_n hC dX10_record_106 rfl ?_
    refine xg_getW hC (b := 5) (xm_hK hI rfl) rfl (xm_wK hI rfl) (by decide) xl_F_X10_28 dX10_record_107 ?_
    refine xg_callV hC (ci := 6) (w_X7_dropLatest hI σ29 ) xl_M_X10_124 xl_V_X7_dropLatest (xm_hK (a := 5) (kd := 0) (n := 6) hI rfl).2 ((xm_hK (a := 5) (kd := 0) (n := 6) hI rfl).1 _) (by decide) rfl (by decide) ⟨by decide, by decide⟩ dX10_record_110 (rest := []) rfl rfl (Nat.le_of_ble_eq_true rfl) rfl rfl (st2 := fun o => []) (fun _ => rfl) (fun o44 k45 => ?_)
    exact xg_pick [1] rfl (w_X10_record_j113 hC hQ hI o44.1)
  refine xg_aload_n hC dX10_record_42 rfl ?_
  refine xg_iconst hC dX10_record_43 ?_
  refine xg_callV hC (ci := 9) (w_X10_refuse hI o8.1 (2 : Int) (xm_inc _ rfl)) xl_M_X10_87 xl_V_X10_refuse (xm_hK (a := 1) (kd := 0) (n := 9) hI rfl).2 ((xm_hK (a := 1) (kd := 0) (n := 9) hI rfl).1 _) (by decide) rfl (by decide) ⟨by decide, by decide⟩ dX10_record_44 (rest := []) rfl rfl (Nat.le_of_ble_eq_true rfl) rfl rfl (st2 := fun o => .int (xm_J o.2) :: []) (fun _ => rfl) (fun o46 k47 => ?_)
  exact xg_iret hC hQ k47 dX10_record_47
theorem w_X10_bond {Γ : xm_Gm} {I : xm_Mem → Prop} {la : Launch} (hE : I = xm_I) (σ : xm_Mem)   : ∀ o, f_X10_bond σ  = some o → xm_M Γ I la yX10_bond cX10_bond 1 (some .int) 1 0 0 [.ref (xm_ad Γ 1)] σ 1 o := by
  refine xg_enter (by decide) (by simp [lg_sl, xm_rf_cat, xm_cati, xm_catr, xm_catl]) (fun X hG hI0 hla hC hQ hname => ?_)
  subst hG
  have hI := hI0.trans hE
  clear hI0 hla
  unfold f_X10_bond
  refine xg_pick [0] (l' := [(0, .ref (xm_ad (xx_G X) 1))]) rfl ?_
  refine xg_aload_n hC dX10_bond_0 rfl ?_
  refine xg_getI hC (xm_hK hI rfl) rfl xl_F_X10_77 dX10_bond_1 (fun k1 => ?_)
  exact xg_iret hC hQ k1 dX10_bond_4
theorem w_X10_person {Γ : xm_Gm} {I : xm_Mem → Prop} {la : Launch} (hE : I = xm_I) (σ : xm_Mem) (x1 : Int) (x2 : Int) (h1 : xm_in x1) (h2 : xm_in x2) : ∀ o, f_X10_person σ x1 x2 = some o → xm_M Γ I la yX10_person cX10_person 3 (some .int) 3 0 0 [.ref (xm_ad Γ 1), .int (xm_J x1), .int (xm_J x2)] σ 1 o := by
  refine xg_enter (by decide) (by simp [lg_sl, xm_rf_cat, xm_cati, xm_catr, xm_catl]) (fun X hG hI0 hla hC hQ hname => ?_)
  subst hG
  have hI := hI0.trans hE
  clear hI0 hla
  unfold f_X10_person
  refine xg_pick [0, 1, 2] (l' := [(0, .ref (xm_ad (xx_G X) 1)), (1, .int (xm_J x1)), (2, .int (xm_J x2))]) rfl ?_
  refine xg_aload_n hC dX10_person_0 rfl ?_
  refine xg_getW hC (b := 9) (xm_hK hI rfl) rfl (xm_wK hI rfl) (by decide) xl_F_X10_35 dX10_person_1 ?_
  refine xg_iload_n hC dX10_person_4 rfl ?_
  refine xg_callV hC (ci := 4) (w_X5_has hI σ x1 h1) xl_M_X10_170 xl_V_X5_has (xm_hK (a := 9) (kd := 0) (n := 4) hI rfl).2 ((xm_hK (a := 9) (kd := 0) (n := 4) hI rfl).1 _) (by decide) rfl (by decide) ⟨by decide, by decide⟩ dX10_person_5 (rest := []) rfl rfl (Nat.le_of_ble_eq_true rfl) rfl rfl (st2 := fun o => .int (xm_J o.2) :: []) (fun _ => rfl) (fun o1 k2 => ?_)
  refine xg_if_ne hC (xm_in01 k2) 17 dX10_person_8 rfl (fun c3 => ?_) (fun c4 => ?_)
  · refine xg_aload_n hC dX10_person_11 rfl ?_
    refine xg_iconst hC dX10_person_12 ?_
    refine xg_callV hC (ci := 9) (w_X10_refuse hI o1.1 (1 : Int) (xm_inc _ rfl)) xl_M_X10_87 xl_V_X10_refuse (xm_hK (a := 1) (kd := 0) (n := 9) hI rfl).2 ((xm_hK (a := 1) (kd := 0) (n := 9) hI rfl).1 _) (by decide) rfl (by decide) ⟨by decide, by decide⟩ dX10_person_13 (rest := []) rfl rfl (Nat.le_of_ble_eq_true rfl) rfl rfl (st2 := fun o => .int (xm_J o.2) :: []) (fun _ => rfl) (fun o5 k6 => ?_)
    exact xg_iret hC hQ k6 dX10_person_16
  refine xg_iload_n hC dX10_person_17 rfl ?_
  refine xg_ite (fun e7 => xg_tswIn hC 0 56 e7 dX10_person_18 (xm_inc _ rfl) (by decide) (by decide) rfl rfl ?_) (fun n8 => ?_)
  · refine xg_aload_n hC dX10_person_56 rfl ?_
    refine xg_aload_n hC dX10_person_57 rfl ?_
    refine xg_getW hC (b := 9) (xm_hK hI rfl) rfl (xm_wK hI rfl) (by decide) xl_F_X10_35 dX10_person_58 ?_
    refine xg_iload_n hC dX10_person_61 rfl ?_
    refine xg_callV hC (ci := 4) (w_X5_isMale hI o1.1 x1 h1) xl_M_X10_173 xl_V_X5_isMale (xm_hK (a := 9) (kd := 0) (n := 4) hI rfl).2 ((xm_hK (a := 9) (kd := 0) (n := 4) hI rfl).1 _) (by decide) rfl (by decide) ⟨by decide, by decide⟩ dX10_person_62 (rest := [.ref (xm_ad (xx_G X) 1)]) rfl rfl (Nat.le_of_ble_eq_true rfl) rfl rfl (st2 := fun o => .int (xm_J o.2) :: [.ref (xm_ad (xx_G X) 1)]) (fun _ => rfl) (fun o9 k10 => ?_)
    refine xg_if_eq hC (xm_in01 k10) 72 dX10_person_65 rfl (fun c11 => ?_) (fun c12 => ?_)
    · refine xg_iconst hC dX10_person_72 ?_
      refine xg_callV hC (ci := 9) (w_X10_accept hI o9.1 (0 : Int) (xm_inc _ rfl)) xl_M_X10_99 xl_V_X10_accept (xm_hK (a := 1) (kd := 0) (n := 9) hI rfl).2 ((xm_hK (a := 1) (kd := 0) (n := 9) hI rfl).1 _) (by decide) rfl (by decide) ⟨by decide, by decide⟩ dX10_person_73 (rest := []) rfl rfl (Nat.le_of_ble_eq_true rfl) rfl rfl (st2 := fun o => .int (xm_J o.2) :: []) (fun _ => rfl) (fun o13 k14 => ?_)
      exact xg_iret hC hQ k14 dX10_person_76
    refine xg_iconst hC dX10_person_68 ?_
    refine xg_goto hC 73 dX10_person_69 rfl ?_
    refine xg_callV hC (ci := 9) (w_X10_accept hI o9.1 (1 : Int) (xm_inc _ rfl)) xl_M_X10_99 xl_V_X10_accept (xm_hK (a := 1) (kd := 0) (n := 9) hI rfl).2 ((xm_hK (a := 1) (kd := 0) (n := 9) hI rfl).1 _) (by decide) rfl (by decide) ⟨by decide, by decide⟩ dX10_person_73 (rest := []) rfl rfl (Nat.le_of_ble_eq_true rfl) rfl rfl (st2 := fun o => .int (xm_J o.2) :: []) (fun _ => rfl) (fun o15 k16 => ?_)
    exact xg_iret hC hQ k16 dX10_person_76
  refine xg_ite (fun e17 => xg_tswIn hC 1 77 e17 dX10_person_18 (xm_inc _ rfl) (by decide) (by decide) rfl rfl ?_) (fun n18 => ?_)
  · refine xg_aload_n hC dX10_person_77 rfl ?_
    refine xg_aload_n hC dX10_person_78 rfl ?_
    refine xg_getW hC (b := 9) (xm_hK hI rfl) rfl (xm_wK hI rfl) (by decide) xl_F_X10_35 dX10_person_79 ?_
    refine xg_iload_n hC dX10_person_82 rfl ?_
    refine xg_callV hC (ci := 4) (w_X5_bornOn hI o1.1 x1 h1) xl_M_X10_176 xl_V_X5_bornOn (xm_hK (a := 9) (kd := 0) (n := 4) hI rfl).2 ((xm_hK (a := 9) (kd := 0) (n := 4) hI rfl).1 _) (by decide) rfl (by decide) ⟨by decide, by decide⟩ dX10_person_83 (rest := [.ref (xm_ad (xx_G X) 1)]) rfl rfl (Nat.le_of_ble_eq_true rfl) rfl rfl (st2 := fun o => .int (xm_J o.2) :: [.ref (xm_ad (xx_G X) 1)]) (fun _ => rfl) (fun o19 k20 => ?_)
    refine xg_callV hC (ci := 9) (w_X10_accept hI o19.1 o19.2 k20) xl_M_X10_99 xl_V_X10_accept (xm_hK (a := 1) (kd := 0) (n := 9) hI rfl).2 ((xm_hK (a := 1) (kd := 0) (n := 9) hI rfl).1 _) (by decide) rfl (by decide) ⟨by decide, by decide⟩ dX10_person_86 (rest := []) rfl rfl (Nat.le_of_ble_eq_true rfl) rfl rfl (st2 := fun o => .int (xm_J o.2) :: []) (fun _ => rfl) (fun o21 k22 => ?_)
    exact xg_iret hC hQ k22 dX10_person_89
  refine xg_ite (fun e23 => xg_tswIn hC 2 90 e23 dX10_person_18 (xm_inc _ rfl) (by decide) (by decide) rfl rfl ?_) (fun n24 => ?_)
  · refine xg_aload_n hC dX10_person_90 rfl ?_
    refine xg_aload_n hC dX10_person_91 rfl ?_
    refine xg_getW hC (b := 9) (xm_hK hI rfl) rfl (xm_wK hI rfl) (by decide) xl_F_X10_35 dX10_person_92 ?_
    refine xg_iload_n hC dX10_person_95 rfl ?_
    refine xg_callV hC (ci := 4) (w_X5_father hI o1.1 x1 h1) xl_M_X10_179 xl_V_X5_father (xm_hK (a := 9) (kd := 0) (n := 4) hI rfl).2 ((xm_hK (a := 9) (kd := 0) (n := 4) hI rfl).1 _) (by decide) rfl (by decide) ⟨by decide, by decide⟩ dX10_person_96 (rest := [.ref (xm_ad (xx_G X) 1)]) rfl rfl (Nat.le_of_ble_eq_true rfl) rfl rfl (st2 := fun o => .int (xm_J o.2) :: [.ref (xm_ad (xx_G X) 1)]) (fun _ => rfl) (fun o25 k26 => ?_)
    refine xg_callV hC (ci := 9) (w_X10_accept hI o25.1 o25.2 k26) xl_M_X10_99 xl_V_X10_accept (xm_hK (a := 1) (kd := 0) (n := 9) hI rfl).2 ((xm_hK (a := 1) (kd := 0) (n := 9) hI rfl).1 _) (by decide) rfl (by decide) ⟨by decide, by decide⟩ dX10_person_99 (rest := []) rfl rfl (Nat.le_of_ble_eq_true rfl) rfl rfl (st2 := fun o => .int (xm_J o.2) :: []) (fun _ => rfl) (fun o27 k28 => ?_)
    exact xg_iret hC hQ k28 dX10_person_102
  refine xg_ite (fun e29 => xg_tswIn hC 3 103 e29 dX10_person_18 (xm_inc _ rfl) (by decide) (by decide) rfl rfl ?_) (fun n30 => ?_)
  · refine xg_aload_n hC dX10_person_103 rfl ?_
    refine xg_aload_n hC dX10_person_104 rfl ?_
    refine xg_getW hC (b := 9) (xm_hK hI rfl) rfl (xm_wK hI rfl) (by decide) xl_F_X10_35 dX10_person_105 ?_
    refine xg_iload_n hC dX10_person_108 rfl ?_
    refine xg_callV hC (ci := 4) (w_X5_mother hI o1.1 x1 h1) xl_M_X10_182 xl_V_X5_mother (xm_hK (a := 9) (kd := 0) (n := 4) hI rfl).2 ((xm_hK (a := 9) (kd := 0) (n := 4) hI rfl).1 _) (by decide) rfl (by decide) ⟨by decide, by decide⟩ dX10_person_109 (rest := [.ref (xm_ad (xx_G X) 1)]) rfl rfl (Nat.le_of_ble_eq_true rfl) rfl rfl (st2 := fun o => .int (xm_J o.2) :: [.ref (xm_ad (xx_G X) 1)]) (fun _ => rfl) (fun o31 k32 => ?_)
    refine xg_callV hC (ci := 9) (w_X10_accept hI o31.1 o31.2 k32) xl_M_X10_99 xl_V_X10_accept (xm_hK (a := 1) (kd := 0) (n := 9) hI rfl).2 ((xm_hK (a := 1) (kd := 0) (n := 9) hI rfl).1 _) (by decide) rfl (by decide) ⟨by decide, by decide⟩ dX10_person_112 (rest := []) rfl rfl (Nat.le_of_ble_eq_true rfl) rfl rfl (st2 := fun o => .int (xm_J o.2) :: []) (fun _ => rfl) (fun o33 k34 => ?_)
    exact xg_iret hC hQ k34 dX10_person_115
  refine xg_ite (fun e35 => xg_tswIn hC 4 116 e35 dX10_person_18 (xm_inc _ rfl) (by decide) (by decide) rfl rfl ?_) (fun n36 => ?_)
  · refine xg_aload_n hC dX10_person_116 rfl ?_
    refine xg_aload_n hC dX10_person_117 rfl ?_
    refine xg_getW hC (b := 9) (xm_hK hI rfl) rfl (xm_wK hI rfl) (by decide) xl_F_X10_35 dX10_person_118 ?_
    refine xg_iload_n hC dX10_person_121 rfl ?_
    refine xg_callV hC (ci := 4) (w_X5_deadOn hI o1.1 x1 h1) xl_M_X10_185 xl_V_X5_deadOn (xm_hK (a := 9) (kd := 0) (n := 4) hI rfl).2 ((xm_hK (a := 9) (kd := 0) (n := 4) hI rfl).1 _) (by decide) rfl (by decide) ⟨by decide, by decide⟩ dX10_person_122 (rest := [.ref (xm_ad (xx_G X) 1)]) rfl rfl (Nat.le_of_ble_eq_true rfl) rfl rfl (st2 := fun o => .int (xm_J o.2) :: [.ref (xm_ad (xx_G X) 1)]) (fun _ => rfl) (fun o37 k38 => ?_)
    refine xg_callV hC (ci := 9) (w_X10_accept hI o37.1 o37.2 k38) xl_M_X10_99 xl_V_X10_accept (xm_hK (a := 1) (kd := 0) (n := 9) hI rfl).2 ((xm_hK (a := 1) (kd := 0) (n := 9) hI rfl).1 _) (by decide) rfl (by decide) ⟨by decide, by decide⟩ dX10_person_125 (rest := []) rfl rfl (Nat.le_of_ble_eq_true rfl) rfl rfl (st2 := fun o => .int (xm_J o.2) :: []) (fun _ => rfl) (fun o39 k40 => ?_)
    exact xg_iret hC hQ k40 dX10_person_128
  refine xg_ite (fun e41 => xg_tswIn hC 5 129 e41 dX10_person_18 (xm_inc _ rfl) (by decide) (by decide) rfl rfl ?_) (fun n42 => ?_)
  · refine xg_aload_n hC dX10_person_129 rfl ?_
    refine xg_aload_n hC dX10_person_130 rfl ?_
    refine xg_getW hC (b := 23) (xm_hK hI rfl) rfl (xm_wK hI rfl) (by decide) xl_F_X10_51 dX10_person_131 ?_
    refine xg_iload_n hC dX10_person_134 rfl ?_
    refine xg_callV hC (ci := 1) (w_X2_isLegit hI o1.1 x1 h1) xl_M_X10_188 xl_V_X2_isLegit (xm_hK (a := 23) (kd := 0) (n := 1) hI rfl).2 ((xm_hK (a := 23) (kd := 0) (n := 1) hI rfl).1 _) (by decide) rfl (by decide) ⟨by decide, by decide⟩ dX10_person_135 (rest := [.ref (xm_ad (xx_G X) 1)]) rfl rfl (Nat.le_of_ble_eq_true rfl) rfl rfl (st2 := fun o => .int (xm_J o.2) :: [.ref (xm_ad (xx_G X) 1)]) (fun _ => rfl) (fun o43 k44 => ?_)
    refine xg_if_eq hC (xm_in01 k44) 145 dX10_person_138 rfl (fun c45 => ?_) (fun c46 => ?_)
    · refine xg_iconst hC dX10_person_145 ?_
      refine xg_callV hC (ci := 9) (w_X10_accept hI o43.1 (0 : Int) (xm_inc _ rfl)) xl_M_X10_99 xl_V_X10_accept (xm_hK (a := 1) (kd := 0) (n := 9) hI rfl).2 ((xm_hK (a := 1) (kd := 0) (n := 9) hI rfl).1 _) (by decide) rfl (by decide) ⟨by decide, by decide⟩ dX10_person_146 (rest := []) rfl rfl (Nat.le_of_ble_eq_true rfl) rfl rfl (st2 := fun o => .int (xm_J o.2) :: []) (fun _ => rfl) (fun o47 k48 => ?_)
      exact xg_iret hC hQ k48 dX10_person_149
    refine xg_iconst hC dX10_person_141 ?_
    refine xg_goto hC 146 dX10_person_142 rfl ?_
    refine xg_callV hC (ci := 9) (w_X10_accept hI o43.1 (1 : Int) (xm_inc _ rfl)) xl_M_X10_99 xl_V_X10_accept (xm_hK (a := 1) (kd := 0) (n := 9) hI rfl).2 ((xm_hK (a := 1) (kd := 0) (n := 9) hI rfl).1 _) (by decide) rfl (by decide) ⟨by decide, by decide⟩ dX10_person_146 (rest := []) rfl rfl (Nat.le_of_ble_eq_true rfl) rfl rfl (st2 := fun o => .int (xm_J o.2) :: []) (fun _ => rfl) (fun o49 k50 => ?_)
    exact xg_iret hC hQ k50 dX10_person_149
  refine xg_tswOut hC 150 dX10_person_18 h2 (by omega) rfl ?_
  refine xg_aload_n hC dX10_person_150 rfl ?_
  refine xg_iconst hC dX10_person_151 ?_
  refine xg_callV hC (ci := 9) (w_X10_refuse hI o1.1 (3 : Int) (xm_inc _ rfl)) xl_M_X10_87 xl_V_X10_refuse (xm_hK (a := 1) (kd := 0) (n := 9) hI rfl).2 ((xm_hK (a := 1) (kd := 0) (n := 9) hI rfl).1 _) (by decide) rfl (by decide) ⟨by decide, by decide⟩ dX10_person_152 (rest := []) rfl rfl (Nat.le_of_ble_eq_true rfl) rfl rfl (st2 := fun o => .int (xm_J o.2) :: []) (fun _ => rfl) (fun o51 k52 => ?_)
  exact xg_iret hC hQ k52 dX10_person_155
theorem w_X10_isDay {Γ : xm_Gm} {I : xm_Mem → Prop} {la : Launch} (hE : I = xm_I) (σ : xm_Mem) (x0 : Int) (h0 : xm_in x0) : ∀ o, f_X10_isDay σ x0 = some o → xm_M Γ I la yX10_isDay cX10_isDay 1 (some .boolean) 1 0 0 [.int (xm_J x0)] σ 2 o := by
  refine xg_enter (by decide) (by simp [lg_sl, xm_rf_cat, xm_cati, xm_catr, xm_catl]) (fun X hG hI0 hla hC hQ hname => ?_)
  subst hG
  have hI := hI0.trans hE
  clear hI0 hla
  unfold f_X10_isDay
  refine xg_pick [0] (l' := [(0, .int (xm_J x0))]) rfl ?_
  refine xg_iload_n hC dX10_isDay_0 rfl ?_
  refine xg_if_lt hC h0 14 dX10_isDay_1 rfl (fun c1 => ?_) (fun c2 => ?_)
  · refine xg_iconst hC dX10_isDay_14 ?_
    exact xg_zret hC hQ (by decide) dX10_isDay_15
  refine xg_iload_n hC dX10_isDay_4 rfl ?_
  refine xg_ldc hC dX10_isDay_5 xl_C_X10_239 ?_
  refine xg_icmp_gt hC h0 (xm_inc _ rfl) 14 dX10_isDay_7 rfl (fun c3 => ?_) (fun c4 => ?_)
  · refine xg_iconst hC dX10_isDay_14 ?_
    exact xg_zret hC hQ (by decide) dX10_isDay_15
  refine xg_iconst hC dX10_isDay_10 ?_
  refine xg_goto hC 15 dX10_isDay_11 rfl ?_
  exact xg_zret hC hQ (by decide) dX10_isDay_15
theorem w_X9_otherIn_b2 {X : xm_X} (hC : xm_C X yX9_otherIn.cls cX9_otherIn 4 2 0 0) (hQ : xm_Rt X 1 (some .int) 0 0) (hI : xx_I X = xm_I) {K32 : xm_Mem → Int → Option xm_Out} {K49 : xm_Mem → Int → Option xm_Out} (hK32 : ∀ (σ : xm_Mem) (x3 : Int), xm_in x3 → xm_V X 0 0 (K32 σ x3) σ 32 [(0, .ref (xm_ad (xx_G X) 18)), (3, .int (xm_J x3))] []) (hK49 : ∀ (σ : xm_Mem) (x3 : Int), xm_in x3 → xm_V X 0 0 (K49 σ x3) σ 49 [(0, .ref (xm_ad (xx_G X) 18)), (3, .int (xm_J x3))] []) {self : xm_Mem → Int → Int → Int → Option xm_Out} (hself : ∀ (σ : xm_Mem) (x1 : Int) (x2 : Int) (x3 : Int), xm_in x1 → xm_in x2 → xm_in x3 → xm_V X 0 0 (self σ x1 x2 x3) σ 2 [(0, .ref (xm_ad (xx_G X) 18)), (1, .int (xm_J x1)), (2, .int (xm_J x2)), (3, .int (xm_J x3))] []) (σ : xm_Mem) (x1 : Int) (x2 : Int) (x3 : Int) (h1 : xm_in x1) (h2 : xm_in x2) (h3 : xm_in x3) : xm_V X 0 0 (f_X9_otherIn_b2 K32 K49 self σ x1 x2 x3) σ 2 [(0, .ref (xm_ad (xx_G X) 18)), (1, .int (xm_J x1)), (2, .int (xm_J x2)), (3, .int (xm_J x3))] [] := by
  unfold f_X9_otherIn_b2
  refine xg_iload_n hC dX9_otherIn_2 rfl ?_
  refine xg_aload_n hC dX9_otherIn_3 rfl ?_
  refine xg_getI hC (xm_hK hI rfl) rfl xl_F_X9_24 dX9_otherIn_4 (fun k1 => ?_)
  refine xg_icmp_ge hC h3 k1 62 dX9_otherIn_7 rfl (fun c2 => ?_) (fun c3 => ?_)
  · refine xg_aload_n hC dX9_otherIn_10 rfl ?_
    refine xg_iload_n hC dX9_otherIn_11 rfl ?_
    refine xg_iload_n hC dX9_otherIn_12 rfl ?_
    refine xg_callV hC (ci := 8) (w_X9_isOpen hI σ x3 x2 h3 h2) xl_M_X9_70 xl_V_X9_isOpen (xm_hK (a := 18) (kd := 0) (n := 8) hI rfl).2 ((xm_hK (a := 18) (kd := 0) (n := 8) hI rfl).1 _) (by decide) rfl (by decide) ⟨by decide, by decide⟩ dX9_otherIn_13 (rest := []) rfl rfl (Nat.le_of_ble_eq_true rfl) rfl rfl (st2 := fun o => .int (xm_J o.2) :: []) (fun _ => rfl) (fun o4 k5 => ?_)
    refine xg_if_ne hC (xm_in01 k5) 22 dX9_otherIn_16 rfl (fun c6 => ?_) (fun c7 => ?_)
    · refine xg_goto hC 56 dX9_otherIn_19 rfl ?_
      refine xg_iinc hC (l' := [(3, .int (xm_J (xm_w (x3 + 1)))), (0, .ref (xm_ad (xx_G X) 18)), (1, .int (xm_J x1)), (2, .int (xm_J x2))]) dX9_otherIn_56 (by decide) 3 rfl rfl ?_
      refine xg_goto hC 2 dX9_otherIn_59 rfl ?_
      exact xg_pick [1, 2, 3, 0] rfl (hself o4.1 x1 x2 (xm_w (x3 + 1)) h1 h2 (xm_w_in _))
    refine xg_aload_n hC dX9_otherIn_22 rfl ?_
    refine xg_getW hC (b := 19) (xm_hK hI rfl) rfl (xm_wK hI rfl) (by decide) xl_F_X9_9 dX9_otherIn_23 ?_
    refine xg_iload_n hC dX9_otherIn_26 rfl ?_
    refine xg_iald hC (xm_hK hI rfl) rfl h3 dX9_otherIn_27 (fun b8 k9 => ?_)
    refine xg_iload_n hC dX9_otherIn_28 rfl ?_
    refine xg_icmp_ne hC k9 h1 39 dX9_otherIn_29 rfl (fun c10 => ?_) (fun c11 => ?_)
    · exact xg_pick [0, 3] rfl (hK32 o4.1 x3 h3)
    refine xg_aload_n hC dX9_otherIn_39 rfl ?_
    refine xg_getW hC (b := 20) (xm_hK hI rfl) rfl (xm_wK hI rfl) (by decide) xl_F_X9_15 dX9_otherIn_40 ?_
    refine xg_iload_n hC dX9_otherIn_43 rfl ?_
    refine xg_iald hC (xm_hK hI rfl) rfl h3 dX9_otherIn_44 (fun b12 k13 => ?_)
    refine xg_iload_n hC dX9_otherIn_45 rfl ?_
    refine xg_icmp_ne hC k13 h1 56 dX9_otherIn_46 rfl (fun c14 => ?_) (fun c15 => ?_)
    · exact xg_pick [0, 3] rfl (hK49 o4.1 x3 h3)
    refine xg_iinc hC (l' := [(3, .int (xm_J (xm_w (x3 + 1)))), (0, .ref (xm_ad (xx_G X) 18)), (1, .int (xm_J x1)), (2, .int (xm_J x2))]) dX9_otherIn_56 (by decide) 3 rfl rfl ?_
    refine xg_goto hC 2 dX9_otherIn_59 rfl ?_
    exact xg_pick [1, 2, 3, 0] rfl (hself o4.1 x1 x2 (xm_w (x3 + 1)) h1 h2 (xm_w_in _))
  refine xg_iconst hC dX9_otherIn_62 ?_
  exact xg_iret hC hQ (xm_inc _ rfl) dX9_otherIn_63
theorem w_X9_otherIn_l2 {X : xm_X} (hC : xm_C X yX9_otherIn.cls cX9_otherIn 4 2 0 0) (hQ : xm_Rt X 1 (some .int) 0 0) (hI : xx_I X = xm_I) {K32 : xm_Mem → Int → Option xm_Out} {K49 : xm_Mem → Int → Option xm_Out} (hK32 : ∀ (σ : xm_Mem) (x3 : Int), xm_in x3 → xm_V X 0 0 (K32 σ x3) σ 32 [(0, .ref (xm_ad (xx_G X) 18)), (3, .int (xm_J x3))] []) (hK49 : ∀ (σ : xm_Mem) (x3 : Int), xm_in x3 → xm_V X 0 0 (K49 σ x3) σ 49 [(0, .ref (xm_ad (xx_G X) 18)), (3, .int (xm_J x3))] []) (n : Nat) : ∀ (σ : xm_Mem) (x1 : Int) (x2 : Int) (x3 : Int), xm_in x1 → xm_in x2 → xm_in x3 → xm_V X 0 0 (f_X9_otherIn_l2 K32 K49 n σ x1 x2 x3) σ 2 [(0, .ref (xm_ad (xx_G X) 18)), (1, .int (xm_J x1)), (2, .int (xm_J x2)), (3, .int (xm_J x3))] [] := by
  induction n with
  | zero => intro σ x1 x2 x3 h1 h2 h3; exact xg_none
  | succ n ih => intro σ x1 x2 x3 h1 h2 h3; exact w_X9_otherIn_b2 hC hQ hI hK32 hK49 ih σ x1 x2 x3 h1 h2 h3
theorem w_X9_otherIn {Γ : xm_Gm} {I : xm_Mem → Prop} {la : Launch} (hE : I = xm_I) (σ : xm_Mem) (x1 : Int) (x2 : Int) (h1 : xm_in x1) (h2 : xm_in x2) : ∀ o, f_X9_otherIn σ x1 x2 = some o → xm_M Γ I la yX9_otherIn cX9_otherIn 4 (some .int) 2 0 0 [.ref (xm_ad Γ 18), .int (xm_J x1), .int (xm_J x2)] σ 1 o := by
  refine xg_enter (by decide) (by simp [lg_sl, xm_rf_cat, xm_cati, xm_catr, xm_catl]) (fun X hG hI0 hla hC hQ hname => ?_)
  subst hG
  have hI := hI0.trans hE
  clear hI0 hla
  unfold f_X9_otherIn
  refine xg_pick [0, 1, 2] (l' := [(0, .ref (xm_ad (xx_G X) 18)), (1, .int (xm_J x1)), (2, .int (xm_J x2))]) rfl ?_
  refine xg_iconst hC dX9_otherIn_0 ?_
  refine xg_istore_n hC (l' := [(3, .int (xm_J (0 : Int))), (0, .ref (xm_ad (xx_G X) 18)), (1, .int (xm_J x1)), (2, .int (xm_J x2))]) dX9_otherIn_1 (by decide) rfl ?_
  refine xg_pick [1, 2, 3, 0] rfl (w_X9_otherIn_l2 hC hQ hI ?_ ?_ _ σ x1 x2 (0 : Int) h1 h2 (xm_inc _ rfl))
  · intro σ_16 x3_16 h3_16
    refine xg_aload_n hC dX9_otherIn_32 rfl ?_
    refine xg_getW hC (b := 20) (xm_hK hI rfl) rfl (xm_wK hI rfl) (by decide) xl_F_X9_15 dX9_otherIn_33 ?_
    refine xg_iload_n hC dX9_otherIn_36 rfl ?_
    refine xg_iald hC (xm_hK hI rfl) rfl h3_16 dX9_otherIn_37 (fun b17 k18 => ?_)
    exact xg_iret hC hQ k18 dX9_otherIn_38
  intro σ_19 x3_19 h3_19
  refine xg_aload_n hC dX9_otherIn_49 rfl ?_
  refine xg_getW hC (b := 19) (xm_hK hI rfl) rfl (xm_wK hI rfl) (by decide) xl_F_X9_9 dX9_otherIn_50 ?_
  refine xg_iload_n hC dX9_otherIn_53 rfl ?_
  refine xg_iald hC (xm_hK hI rfl) rfl h3_19 dX9_otherIn_54 (fun b20 k21 => ?_)
  exact xg_iret hC hQ k21 dX9_otherIn_55
theorem w_X10_partner {Γ : xm_Gm} {I : xm_Mem → Prop} {la : Launch} (hE : I = xm_I) (σ : xm_Mem) (x1 : Int) (x2 : Int) (h1 : xm_in x1) (h2 : xm_in x2) : ∀ o, f_X10_partner σ x1 x2 = some o → xm_M Γ I la yX10_partner cX10_partner 3 (some .int) 3 0 0 [.ref (xm_ad Γ 1), .int (xm_J x1), .int (xm_J x2)] σ 1 o := by
  refine xg_enter (by decide) (by simp [lg_sl, xm_rf_cat, xm_cati, xm_catr, xm_catl]) (fun X hG hI0 hla hC hQ hname => ?_)
  subst hG
  have hI := hI0.trans hE
  clear hI0 hla
  unfold f_X10_partner
  refine xg_pick [0, 1, 2] (l' := [(0, .ref (xm_ad (xx_G X) 1)), (1, .int (xm_J x1)), (2, .int (xm_J x2))]) rfl ?_
  refine xg_aload_n hC dX10_partner_0 rfl ?_
  refine xg_getW hC (b := 9) (xm_hK hI rfl) rfl (xm_wK hI rfl) (by decide) xl_F_X10_35 dX10_partner_1 ?_
  refine xg_iload_n hC dX10_partner_4 rfl ?_
  refine xg_callV hC (ci := 4) (w_X5_has hI σ x1 h1) xl_M_X10_170 xl_V_X5_has (xm_hK (a := 9) (kd := 0) (n := 4) hI rfl).2 ((xm_hK (a := 9) (kd := 0) (n := 4) hI rfl).1 _) (by decide) rfl (by decide) ⟨by decide, by decide⟩ dX10_partner_5 (rest := []) rfl rfl (Nat.le_of_ble_eq_true rfl) rfl rfl (st2 := fun o => .int (xm_J o.2) :: []) (fun _ => rfl) (fun o1 k2 => ?_)
  refine xg_if_ne hC (xm_in01 k2) 17 dX10_partner_8 rfl (fun c3 => ?_) (fun c4 => ?_)
  · refine xg_aload_n hC dX10_partner_11 rfl ?_
    refine xg_iconst hC dX10_partner_12 ?_
    refine xg_callV hC (ci := 9) (w_X10_refuse hI o1.1 (1 : Int) (xm_inc _ rfl)) xl_M_X10_87 xl_V_X10_refuse (xm_hK (a := 1) (kd := 0) (n := 9) hI rfl).2 ((xm_hK (a := 1) (kd := 0) (n := 9) hI rfl).1 _) (by decide) rfl (by decide) ⟨by decide, by decide⟩ dX10_partner_13 (rest := []) rfl rfl (Nat.le_of_ble_eq_true rfl) rfl rfl (st2 := fun o => .int (xm_J o.2) :: []) (fun _ => rfl) (fun o5 k6 => ?_)
    exact xg_iret hC hQ k6 dX10_partner_16
  refine xg_iload_n hC dX10_partner_17 rfl ?_
  refine xg_callS hC (w_X10_isDay hI o1.1 x2 h2) xl_M_X10_191 xl_S_X10_isDay (by decide) ⟨by decide, by decide⟩ dX10_partner_18 (rest := []) rfl rfl (Nat.le_of_ble_eq_true rfl) rfl rfl (st2 := fun o => .int (xm_J o.2) :: []) (fun _ => rfl) (fun o7 k8 => ?_)
  refine xg_if_ne hC (xm_in01 k8) 30 dX10_partner_21 rfl (fun c9 => ?_) (fun c10 => ?_)
  · refine xg_aload_n hC dX10_partner_24 rfl ?_
    refine xg_iconst hC dX10_partner_25 ?_
    refine xg_callV hC (ci := 9) (w_X10_refuse hI o7.1 (3 : Int) (xm_inc _ rfl)) xl_M_X10_87 xl_V_X10_refuse (xm_hK (a := 1) (kd := 0) (n := 9) hI rfl).2 ((xm_hK (a := 1) (kd := 0) (n := 9) hI rfl).1 _) (by decide) rfl (by decide) ⟨by decide, by decide⟩ dX10_partner_26 (rest := []) rfl rfl (Nat.le_of_ble_eq_true rfl) rfl rfl (st2 := fun o => .int (xm_J o.2) :: []) (fun _ => rfl) (fun o11 k12 => ?_)
    exact xg_iret hC hQ k12 dX10_partner_29
  refine xg_aload_n hC dX10_partner_30 rfl ?_
  refine xg_aload_n hC dX10_partner_31 rfl ?_
  refine xg_getW hC (b := 18) (xm_hK hI rfl) rfl (xm_wK hI rfl) (by decide) xl_F_X10_42 dX10_partner_32 ?_
  refine xg_iload_n hC dX10_partner_35 rfl ?_
  refine xg_iload_n hC dX10_partner_36 rfl ?_
  refine xg_callV hC (ci := 8) (w_X9_otherIn hI o7.1 x1 x2 h1 h2) xl_M_X10_194 xl_V_X9_otherIn (xm_hK (a := 18) (kd := 0) (n := 8) hI rfl).2 ((xm_hK (a := 18) (kd := 0) (n := 8) hI rfl).1 _) (by decide) rfl (by decide) ⟨by decide, by decide⟩ dX10_partner_37 (rest := [.ref (xm_ad (xx_G X) 1)]) rfl rfl (Nat.le_of_ble_eq_true rfl) rfl rfl (st2 := fun o => .int (xm_J o.2) :: [.ref (xm_ad (xx_G X) 1)]) (fun _ => rfl) (fun o13 k14 => ?_)
  refine xg_callV hC (ci := 9) (w_X10_accept hI o13.1 o13.2 k14) xl_M_X10_99 xl_V_X10_accept (xm_hK (a := 1) (kd := 0) (n := 9) hI rfl).2 ((xm_hK (a := 1) (kd := 0) (n := 9) hI rfl).1 _) (by decide) rfl (by decide) ⟨by decide, by decide⟩ dX10_partner_40 (rest := []) rfl rfl (Nat.le_of_ble_eq_true rfl) rfl rfl (st2 := fun o => .int (xm_J o.2) :: []) (fun _ => rfl) (fun o15 k16 => ?_)
  exact xg_iret hC hQ k16 dX10_partner_43
theorem w_X1_isKnown {Γ : xm_Gm} {I : xm_Mem → Prop} {la : Launch} (hE : I = xm_I) (σ : xm_Mem) (t : Nat)  (ht : t < 8)  : ∀ o, f_X1_isKnown t σ  = some o → xm_M Γ I la yX1_isKnown cX1_isKnown 1 (some .boolean) 1 0 0 [.ref (xm_ad Γ (xm_cb t))] σ 2 o := by
  refine xg_enter (by decide) (by simp [lg_sl, xm_rf_cat, xm_cati, xm_catr, xm_catl]) (fun X hG hI0 hla hC hQ hname => ?_)
  subst hG
  have hI := hI0.trans hE
  clear hI0 hla
  unfold f_X1_isKnown
  refine xg_pick [0] (l' := [(0, .ref (xm_ad (xx_G X) (xm_cb t)))]) rfl ?_
  refine xg_aload_n hC dX1_isKnown_0 rfl ?_
  refine xg_getZ hC (xm_hC hI ht) rfl xl_F_X1_31 dX1_isKnown_1 (fun k1 => ?_)
  exact xg_zret hC hQ k1 dX1_isKnown_4
theorem w_X1_noteYields_b2 {X : xm_X} (hC : xm_C X yX1_noteYields.cls cX1_noteYields 3 3 0 0) (hQ : xm_Rt X 0 none 0 0) (hI : xx_I X = xm_I) {t : Nat} (ht : t < 8) {K21 : xm_Mem → Option xm_Out} (hK21 : ∀ (σ : xm_Mem), xm_V X 0 0 (K21 σ ) σ 21 [(0, .ref (xm_ad (xx_G X) (xm_cb t)))] []) {self : xm_Mem → Int → Option xm_Out} (hself : ∀ (σ : xm_Mem) (x1 : Int), xm_in x1 → xm_V X 0 0 (self σ x1) σ 2 [(0, .ref (xm_ad (xx_G X) (xm_cb t))), (1, .int (xm_J x1))] []) (σ : xm_Mem) (x1 : Int) (h1 : xm_in x1) : xm_V X 0 0 (f_X1_noteYields_b2 t K21 self σ x1) σ 2 [(0, .ref (xm_ad (xx_G X) (xm_cb t))), (1, .int (xm_J x1))] [] := by
  unfold f_X1_noteYields_b2
  refine xg_iload_n hC dX1_noteYields_2 rfl ?_
  refine xg_bipush hC dX1_noteYields_3 (by decide) ?_
  refine xg_icmp_ge hC h1 (xm_inc _ rfl) 21 dX1_noteYields_5 rfl (fun c1 => ?_) (fun c2 => ?_)
  · refine xg_aload_n hC dX1_noteYields_8 rfl ?_
    refine xg_getW hC (b := xm_cb t + 1) (xm_hC hI ht) rfl (xm_w5 hI ht) (Nat.le_add_left _ _) xl_F_X1_9 dX1_noteYields_9 ?_
    refine xg_iload_n hC dX1_noteYields_12 rfl ?_
    refine xg_iconst hC dX1_noteYields_13 ?_
    refine xg_iast hC (xm_hCa hI ht (by decide)) rfl h1 (xm_inc _ rfl) (xm_kpC hI ht (by decide) (by decide)) dX1_noteYields_14 ?_
    refine xg_st (fun σ3 => ?_)
    refine xg_iinc hC (l' := [(1, .int (xm_J (xm_w (x1 + 1)))), (0, .ref (xm_ad (xx_G X) (xm_cb t)))]) dX1_noteYields_15 (by decide) 1 rfl rfl ?_
    refine xg_goto hC 2 dX1_noteYields_18 rfl ?_
    exact xg_pick [1, 0] rfl (hself σ3 (xm_w (x1 + 1)) (xm_w_in _))
  exact xg_pick [0] rfl (hK21 σ)
theorem w_X1_noteYields_l2 {X : xm_X} (hC : xm_C X yX1_noteYields.cls cX1_noteYields 3 3 0 0) (hQ : xm_Rt X 0 none 0 0) (hI : xx_I X = xm_I) {t : Nat} (ht : t < 8) {K21 : xm_Mem → Option xm_Out} (hK21 : ∀ (σ : xm_Mem), xm_V X 0 0 (K21 σ ) σ 21 [(0, .ref (xm_ad (xx_G X) (xm_cb t)))] []) (n : Nat) : ∀ (σ : xm_Mem) (x1 : Int), xm_in x1 → xm_V X 0 0 (f_X1_noteYields_l2 t K21 n σ x1) σ 2 [(0, .ref (xm_ad (xx_G X) (xm_cb t))), (1, .int (xm_J x1))] [] := by
  induction n with
  | zero => intro σ x1 h1; exact xg_none
  | succ n ih => intro σ x1 h1; exact w_X1_noteYields_b2 hC hQ hI ht hK21 ih σ x1 h1
theorem w_X1_noteYields_b23 {X : xm_X} (hC : xm_C X yX1_noteYields.cls cX1_noteYields 3 3 0 0) (hQ : xm_Rt X 0 none 0 0) (hI : xx_I X = xm_I) {t : Nat} (ht : t < 8)   {self : xm_Mem → Int → Option xm_Out} (hself : ∀ (σ : xm_Mem) (x1 : Int), xm_in x1 → xm_V X 0 0 (self σ x1) σ 23 [(0, .ref (xm_ad (xx_G X) (xm_cb t))), (1, .int (xm_J x1))] []) (σ : xm_Mem) (x1 : Int) (h1 : xm_in x1) : xm_V X 0 0 (f_X1_noteYields_b23 t  self σ x1) σ 23 [(0, .ref (xm_ad (xx_G X) (xm_cb t))), (1, .int (xm_J x1))] [] := by
  unfold f_X1_noteYields_b23
  refine xg_iload_n hC dX1_noteYields_23 rfl ?_
  refine xg_aload_n hC dX1_noteYields_24 rfl ?_
  refine xg_getW hC (b := 5) (xm_hC hI ht) rfl (xm_w1 hI ht) (by decide) xl_F_X1_53 dX1_noteYields_25 ?_
  refine xg_callV hC (ci := 6) (w_X7_size hI σ ) xl_M_X1_87 xl_V_X7_size (xm_hK (a := 5) (kd := 0) (n := 6) hI rfl).2 ((xm_hK (a := 5) (kd := 0) (n := 6) hI rfl).1 _) (by decide) rfl (by decide) ⟨by decide, by decide⟩ dX1_noteYields_28 (rest := [.int (xm_J x1)]) rfl rfl (Nat.le_of_ble_eq_true rfl) rfl rfl (st2 := fun o => .int (xm_J o.2) :: [.int (xm_J x1)]) (fun _ => rfl) (fun o5 k6 => ?_)
  refine xg_icmp_ge hC h1 k6 98 dX1_noteYields_31 rfl (fun c7 => ?_) (fun c8 => ?_)
  · refine xg_aload_n hC dX1_noteYields_34 rfl ?_
    refine xg_getW hC (b := 5) (xm_hC hI ht) rfl (xm_w1 hI ht) (by decide) xl_F_X1_53 dX1_noteYields_35 ?_
    refine xg_iload_n hC dX1_noteYields_38 rfl ?_
    refine xg_callV hC (ci := 6) (w_X7_standing hI o5.1 x1 h1) xl_M_X1_90 xl_V_X7_standing (xm_hK (a := 5) (kd := 0) (n := 6) hI rfl).2 ((xm_hK (a := 5) (kd := 0) (n := 6) hI rfl).1 _) (by decide) rfl (by decide) ⟨by decide, by decide⟩ dX1_noteYields_39 (rest := []) rfl rfl (Nat.le_of_ble_eq_true rfl) rfl rfl (st2 := fun o => xm_rf (xx_G X) o.2 :: []) (fun _ => rfl) (fun o9 k10 => ?_)
    refine xg_vR k10 (fun v11 k12 => ?_)
    refine xg_rstore_n hC (l' := [(2, xm_rf (xx_G X) v11), (0, .ref (xm_ad (xx_G X) (xm_cb t))), (1, .int (xm_J x1))]) dX1_noteYields_42 (by decide) rfl ?_
    refine xg_rload_n hC dX1_noteYields_43 rfl ?_
    refine xg_ifnull hC 92 dX1_noteYields_44 rfl (fun c13 => ?_) (fun c14 => ?_)
    · refine xg_iinc hC (l' := [(1, .int (xm_J (xm_w (x1 + 1)))), (2, xm_rf (xx_G X) v11), (0, .ref (xm_ad (xx_G X) (xm_cb t)))]) dX1_noteYields_92 (by decide) 2 rfl rfl ?_
      refine xg_goto hC 23 dX1_noteYields_95 rfl ?_
      exact xg_pick [2, 0] rfl (hself o9.1 (xm_w (x1 + 1)) (xm_w_in _))
    refine xg_rload_n hC dX1_noteYields_47 rfl ?_
    refine xg_sgetI hC rfl xl_F_X1_93 dX1_noteYields_48 (fun k15 => ?_)
    refine xg_iconst hC dX1_noteYields_51 ?_
    refine xg_icmp_ne hC k15 (xm_inc _ rfl) 92 dX1_noteYields_52 rfl (fun c16 => ?_) (fun c17 => ?_)
    · refine xg_rload_n hC dX1_noteYields_55 rfl ?_
      refine xg_sgetI hC rfl xl_F_X1_96 dX1_noteYields_56 (fun k18 => ?_)
      refine xg_aload_n hC dX1_noteYields_59 rfl ?_
      refine xg_getC hC (xm_hC hI ht) rfl (xm_w0 hI ht) xl_F_X1_50 dX1_noteYields_60 (fun k19 => ?_)
      refine xg_icmp_eq hC k18 k19 69 dX1_noteYields_63 rfl (fun c20 => ?_) (fun c21 => ?_)
      · refine xg_rload_n hC dX1_noteYields_69 rfl ?_
        refine xg_sgetI hC rfl xl_F_X1_78 dX1_noteYields_70 (fun k22 => ?_)
        refine xg_callSN hC (w_X10_isPersonNumber hI o9.1 (o9.1.1 v11.toNat 2) k22) xl_N_X1_97 xl_S_X10_isPersonNumber (by decide) ⟨by decide, by decide⟩ dX1_noteYields_73 (rest := []) rfl rfl (Nat.le_of_ble_eq_true rfl) rfl rfl (st2 := fun o => .int (xm_J o.2) :: []) (fun _ => rfl) (fun o23 k24 => ?_)
        refine xg_if_eq hC (xm_in01 k24) 92 dX1_noteYields_76 rfl (fun c25 => ?_) (fun c26 => ?_)
        · refine xg_iinc hC (l' := [(1, .int (xm_J (xm_w (x1 + 1)))), (2, xm_rf (xx_G X) v11), (0, .ref (xm_ad (xx_G X) (xm_cb t)))]) dX1_noteYields_92 (by decide) 2 rfl rfl ?_
          refine xg_goto hC 23 dX1_noteYields_95 rfl ?_
          exact xg_pick [2, 0] rfl (hself o23.1 (xm_w (x1 + 1)) (xm_w_in _))
        refine xg_aload_n hC dX1_noteYields_79 rfl ?_
        refine xg_getW hC (b := xm_cb t + 1) (xm_hC hI ht) rfl (xm_w5 hI ht) (Nat.le_add_left _ _) xl_F_X1_9 dX1_noteYields_80 ?_
        refine xg_rload_n hC dX1_noteYields_83 rfl ?_
        refine xg_sgetI hC rfl xl_F_X1_78 dX1_noteYields_84 (fun k27 => ?_)
        refine xg_rload_n hC dX1_noteYields_87 rfl ?_
        refine xg_sgetI hC rfl xl_F_X1_81 dX1_noteYields_88 (fun k28 => ?_)
        refine xg_iast hC (xm_hCa hI ht (by decide)) rfl k27 k28 (xm_kpC hI ht (by decide) (by decide)) dX1_noteYields_91 ?_
        refine xg_st (fun σ29 => ?_)
        refine xg_iinc hC (l' := [(1, .int (xm_J (xm_w (x1 + 1)))), (2, xm_rf (xx_G X) v11), (0, .ref (xm_ad (xx_G X) (xm_cb t)))]) dX1_noteYields_92 (by decide) 2 rfl rfl ?_
        refine xg_goto hC 23 dX1_noteYields_95 rfl ?_
        exact xg_pick [2, 0] rfl (hself σ29 (xm_w (x1 + 1)) (xm_w_in _))
      refine xg_goto hC 92 dX1_noteYields_66 rfl ?_
      refine xg_iinc hC (l' := [(1, .int (xm_J (xm_w (x1 + 1)))), (2, xm_rf (xx_G X) v11), (0, .ref (xm_ad (xx_G X) (xm_cb t)))]) dX1_noteYields_92 (by decide) 2 rfl rfl ?_
      refine xg_goto hC 23 dX1_noteYields_95 rfl ?_
      exact xg_pick [2, 0] rfl (hself o9.1 (xm_w (x1 + 1)) (xm_w_in _))
    refine xg_iinc hC (l' := [(1, .int (xm_J (xm_w (x1 + 1)))), (2, xm_rf (xx_G X) v11), (0, .ref (xm_ad (xx_G X) (xm_cb t)))]) dX1_noteYields_92 (by decide) 2 rfl rfl ?_
    refine xg_goto hC 23 dX1_noteYields_95 rfl ?_
    exact xg_pick [2, 0] rfl (hself o9.1 (xm_w (x1 + 1)) (xm_w_in _))
  exact xg_vret hC hQ dX1_noteYields_98
theorem w_X1_noteYields_l23 {X : xm_X} (hC : xm_C X yX1_noteYields.cls cX1_noteYields 3 3 0 0) (hQ : xm_Rt X 0 none 0 0) (hI : xx_I X = xm_I) {t : Nat} (ht : t < 8)   (n : Nat) : ∀ (σ : xm_Mem) (x1 : Int), xm_in x1 → xm_V X 0 0 (f_X1_noteYields_l23 t  n σ x1) σ 23 [(0, .ref (xm_ad (xx_G X) (xm_cb t))), (1, .int (xm_J x1))] [] := by
  induction n with
  | zero => intro σ x1 h1; exact xg_none
  | succ n ih => intro σ x1 h1; exact w_X1_noteYields_b23 hC hQ hI ht ih σ x1 h1
theorem w_X1_noteYields {Γ : xm_Gm} {I : xm_Mem → Prop} {la : Launch} (hE : I = xm_I) (σ : xm_Mem) (t : Nat)  (ht : t < 8)  : ∀ o, f_X1_noteYields t σ  = some o → xm_M Γ I la yX1_noteYields cX1_noteYields 3 none 3 0 0 [.ref (xm_ad Γ (xm_cb t))] σ 0 o := by
  refine xg_enter (by decide) (by simp [lg_sl, xm_rf_cat, xm_cati, xm_catr, xm_catl]) (fun X hG hI0 hla hC hQ hname => ?_)
  subst hG
  have hI := hI0.trans hE
  clear hI0 hla
  unfold f_X1_noteYields
  refine xg_pick [0] (l' := [(0, .ref (xm_ad (xx_G X) (xm_cb t)))]) rfl ?_
  refine xg_iconst hC dX1_noteYields_0 ?_
  refine xg_istore_n hC (l' := [(1, .int (xm_J (0 : Int))), (0, .ref (xm_ad (xx_G X) (xm_cb t)))]) dX1_noteYields_1 (by decide) rfl ?_
  refine xg_pick [1, 0] rfl (w_X1_noteYields_l2 hC hQ hI ht ?_ _ σ (0 : Int) (xm_inc _ rfl))
  intro σ_4
  refine xg_iconst hC dX1_noteYields_21 ?_
  refine xg_istore_n hC (l' := [(1, .int (xm_J (0 : Int))), (0, .ref (xm_ad (xx_G X) (xm_cb t)))]) dX1_noteYields_22 (by decide) rfl ?_
  exact xg_pick [1, 0] rfl (w_X1_noteYields_l23 hC hQ hI ht _ σ_4 (0 : Int) (xm_inc _ rfl))
theorem w_X1_begin {Γ : xm_Gm} {I : xm_Mem → Prop} {la : Launch} (hE : I = xm_I) (σ : xm_Mem) (t : Nat)  (ht : t < 8)  : ∀ o, f_X1_begin t σ  = some o → xm_M Γ I la yX1_begin cX1_begin 2 (some .int) 4 0 0 [.ref (xm_ad Γ (xm_cb t))] σ 1 o := by
  refine xg_enter (by decide) (by simp [lg_sl, xm_rf_cat, xm_cati, xm_catr, xm_catl]) (fun X hG hI0 hla hC hQ hname => ?_)
  subst hG
  have hI := hI0.trans hE
  clear hI0 hla
  unfold f_X1_begin
  refine xg_pick [0] (l' := [(0, .ref (xm_ad (xx_G X) (xm_cb t)))]) rfl ?_
  refine xg_aload_n hC dX1_begin_0 rfl ?_
  refine xg_iconst hC dX1_begin_1 ?_
  refine xg_putZ hC (xm_hC hI ht) rfl rfl (by decide) (xm_kpT hI ht (by decide)) xl_F_X1_31 dX1_begin_2 ?_
  refine xg_st (fun σ1 => ?_)
  refine xg_aload_n hC dX1_begin_5 rfl ?_
  refine xg_iconst hC dX1_begin_6 ?_
  refine xg_putI hC (xm_hC hI ht) rfl rfl (xm_inc _ rfl) (xm_kpT hI ht (by decide)) xl_F_X1_27 dX1_begin_7 ?_
  refine xg_st (fun σ2 => ?_)
  refine xg_aload_n hC dX1_begin_10 rfl ?_
  refine xg_getW hC (b := 5) (xm_hC hI ht) rfl (xm_w1 hI ht) (by decide) xl_F_X1_53 dX1_begin_11 ?_
  refine xg_aload_n hC dX1_begin_14 rfl ?_
  refine xg_getC hC (xm_hC hI ht) rfl (xm_w0 hI ht) xl_F_X1_50 dX1_begin_15 (fun k3 => ?_)
  refine xg_callV hC (ci := 6) (w_X7_grantOf hI σ2 (t : Int) k3) xl_M_X1_69 xl_V_X7_grantOf (xm_hK (a := 5) (kd := 0) (n := 6) hI rfl).2 ((xm_hK (a := 5) (kd := 0) (n := 6) hI rfl).1 _) (by decide) rfl (by decide) ⟨by decide, by decide⟩ dX1_begin_18 (rest := []) rfl rfl (Nat.le_of_ble_eq_true rfl) rfl rfl (st2 := fun o => xm_rf (xx_G X) o.2 :: []) (fun _ => rfl) (fun o4 k5 => ?_)
  refine xg_vR k5 (fun v6 k7 => ?_)
  refine xg_rstore_n hC (l' := [(1, xm_rf (xx_G X) v6), (0, .ref (xm_ad (xx_G X) (xm_cb t)))]) dX1_begin_21 (by decide) rfl ?_
  refine xg_rload_n hC dX1_begin_22 rfl ?_
  refine xg_ifnonnull hC 28 dX1_begin_23 rfl (fun c8 => ?_) (fun c9 => ?_)
  · refine xg_iconst hC dX1_begin_26 ?_
    exact xg_iret hC hQ (xm_inc _ rfl) dX1_begin_27
  refine xg_aload_n hC dX1_begin_28 rfl ?_
  refine xg_rload_n hC dX1_begin_29 rfl ?_
  refine xg_sgetI hC rfl xl_F_X1_75 dX1_begin_30 (fun k10 => ?_)
  refine xg_putI hC (xm_hC hI ht) rfl rfl k10 (xm_kpT hI ht (by decide)) xl_F_X1_35 dX1_begin_33 ?_
  refine xg_st (fun σ11 => ?_)
  refine xg_aload_n hC dX1_begin_36 rfl ?_
  refine xg_rload_n hC dX1_begin_37 rfl ?_
  refine xg_sgetI hC rfl xl_F_X1_78 dX1_begin_38 (fun k12 => ?_)
  refine xg_putI hC (xm_hC hI ht) rfl rfl k12 (xm_kpT hI ht (by decide)) xl_F_X1_38 dX1_begin_41 ?_
  refine xg_st (fun σ13 => ?_)
  refine xg_aload_n hC dX1_begin_44 rfl ?_
  refine xg_aload_n hC dX1_begin_45 rfl ?_
  refine xg_getI hC (xm_hC hI ht) rfl xl_F_X1_38 dX1_begin_46 (fun k14 => ?_)
  refine xg_putI hC (xm_hC hI ht) rfl rfl k14 (xm_kpT hI ht (by decide)) xl_F_X1_41 dX1_begin_49 ?_
  refine xg_st (fun σ15 => ?_)
  refine xg_aload_n hC dX1_begin_52 rfl ?_
  refine xg_aload_n hC dX1_begin_53 rfl ?_
  refine xg_getI hC (xm_hC hI ht) rfl xl_F_X1_38 dX1_begin_54 (fun k16 => ?_)
  refine xg_putI hC (xm_hC hI ht) rfl rfl k16 (xm_kpT hI ht (by decide)) xl_F_X1_44 dX1_begin_57 ?_
  refine xg_st (fun σ17 => ?_)
  refine xg_aload_n hC dX1_begin_60 rfl ?_
  refine xg_rload_n hC dX1_begin_61 rfl ?_
  refine xg_sgetI hC rfl xl_F_X1_81 dX1_begin_62 (fun k18 => ?_)
  refine xg_putI hC (xm_hC hI ht) rfl rfl k18 (xm_kpT hI ht (by decide)) xl_F_X1_47 dX1_begin_65 ?_
  refine xg_st (fun σ19 => ?_)
  refine xg_aload_n hC dX1_begin_68 rfl ?_
  refine xg_callV hC (ci := 0) (w_X1_noteYields hI σ19 t ht) xl_M_X1_84 xl_V_X1_noteYields (xm_hC hI ht).2 ((xm_hC hI ht).1 _) (by decide) rfl (by decide) ⟨by decide, by decide⟩ dX1_begin_69 (rest := []) rfl rfl (Nat.le_of_ble_eq_true rfl) rfl rfl (st2 := fun o => []) (fun _ => rfl) (fun o20 k21 => ?_)
  refine xg_rload_n hC dX1_begin_72 rfl ?_
  refine xg_sgetI hC rfl xl_F_X1_81 dX1_begin_73 (fun k22 => ?_)
  exact xg_iret hC hQ k22 dX1_begin_76
theorem w_X7_latestLossOrBack_b5 {X : xm_X} (hC : xm_C X yX7_latestLossOrBack.cls cX7_latestLossOrBack 6 3 0 0) (hQ : xm_Rt X 3 (some (.object "HeirRoll$Entry")) 0 0) (hI : xx_I X = xm_I)   {self : xm_Mem → Int → Int → Int → Int → Option xm_Out} (hself : ∀ (σ : xm_Mem) (x1 : Int) (x2 : Int) (x3 : Int) (x4 : Int), xm_in x1 → xm_in x2 → 0 ≤ x3 ∧ xm_in x3 → xm_in x4 → xm_V X 0 0 (self σ x1 x2 x3 x4) σ 5 [(0, .ref (xm_ad (xx_G X) 5)), (1, .int (xm_J x1)), (2, .int (xm_J x2)), (3, xm_rf (xx_G X) x3), (4, .int (xm_J x4))] []) (σ : xm_Mem) (x1 : Int) (x2 : Int) (x3 : Int) (x4 : Int) (h1 : xm_in x1) (h2 : xm_in x2) (h3 : 0 ≤ x3 ∧ xm_in x3) (h4 : xm_in x4) : xm_V X 0 0 (f_X7_latestLossOrBack_b5  self σ x1 x2 x3 x4) σ 5 [(0, .ref (xm_ad (xx_G X) 5)), (1, .int (xm_J x1)), (2, .int (xm_J x2)), (3, xm_rf (xx_G X) x3), (4, .int (xm_J x4))] [] := by
  unfold f_X7_latestLossOrBack_b5
  refine xg_iload hC dX7_latestLossOrBack_5 rfl ?_
  refine xg_aload_n hC dX7_latestLossOrBack_7 rfl ?_
  refine xg_getI hC (xm_hK hI rfl) rfl xl_F_X7_23 dX7_latestLossOrBack_8 (fun k1 => ?_)
  refine xg_icmp_ge hC h4 k1 81 dX7_latestLossOrBack_11 rfl (fun c2 => ?_) (fun c3 => ?_)
  · refine xg_aload_n hC dX7_latestLossOrBack_14 rfl ?_
    refine xg_iload hC dX7_latestLossOrBack_15 rfl ?_
    refine xg_callV hC (ci := 6) (w_X7_standing hI σ x4 h4) xl_M_X7_41 xl_V_X7_standing (xm_hK (a := 5) (kd := 0) (n := 6) hI rfl).2 ((xm_hK (a := 5) (kd := 0) (n := 6) hI rfl).1 _) (by decide) rfl (by decide) ⟨by decide, by decide⟩ dX7_latestLossOrBack_17 (rest := []) rfl rfl (Nat.le_of_ble_eq_true rfl) rfl rfl (st2 := fun o => xm_rf (xx_G X) o.2 :: []) (fun _ => rfl) (fun o4 k5 => ?_)
    refine xg_vR k5 (fun v6 k7 => ?_)
    refine xg_rstore hC (l' := [(5, xm_rf (xx_G X) v6), (0, .ref (xm_ad (xx_G X) 5)), (1, .int (xm_J x1)), (2, .int (xm_J x2)), (3, xm_rf (xx_G X) x3), (4, .int (xm_J x4))]) dX7_latestLossOrBack_20 (by decide) rfl ?_
    refine xg_rload hC dX7_latestLossOrBack_22 rfl ?_
    refine xg_ifnull hC 75 dX7_latestLossOrBack_24 rfl (fun c8 => ?_) (fun c9 => ?_)
    · refine xg_iinc hC (l' := [(4, .int (xm_J (xm_w (x4 + 1)))), (5, xm_rf (xx_G X) v6), (0, .ref (xm_ad (xx_G X) 5)), (1, .int (xm_J x1)), (2, .int (xm_J x2)), (3, xm_rf (xx_G X) x3)]) dX7_latestLossOrBack_75 (by decide) 5 rfl (by simp [xm_rf_cat, xm_cati, xm_catr, xm_catl] <;> decide) ?_
      refine xg_goto hC 5 dX7_latestLossOrBack_78 rfl ?_
      exact xg_pick [2, 3, 4, 5, 0] rfl (hself o4.1 x1 x2 x3 (xm_w (x4 + 1)) h1 h2 ⟨h3.1, h3.2⟩ (xm_w_in _))
    refine xg_rload hC dX7_latestLossOrBack_27 rfl ?_
    refine xg_callVs hC (ci := 2) (w_X3_isOfLoss hI o4.1 v6 ⟨k7.1, k7.2⟩) xl_M_X7_97 xl_V_X3_isOfLoss (by decide) rfl (by decide) ⟨by decide, by decide⟩ dX7_latestLossOrBack_29 (rest := []) rfl rfl (Nat.le_of_ble_eq_true rfl) rfl rfl (st2 := fun o => .int (xm_J o.2) :: []) (fun _ => rfl) (fun o10 k11 => ?_)
    refine xg_if_eq hC (xm_in01 k11) 75 dX7_latestLossOrBack_32 rfl (fun c12 => ?_) (fun c13 => ?_)
    · refine xg_iinc hC (l' := [(4, .int (xm_J (xm_w (x4 + 1)))), (5, xm_rf (xx_G X) v6), (0, .ref (xm_ad (xx_G X) 5)), (1, .int (xm_J x1)), (2, .int (xm_J x2)), (3, xm_rf (xx_G X) x3)]) dX7_latestLossOrBack_75 (by decide) 5 rfl (by simp [xm_rf_cat, xm_cati, xm_catr, xm_catl] <;> decide) ?_
      refine xg_goto hC 5 dX7_latestLossOrBack_78 rfl ?_
      exact xg_pick [2, 3, 4, 5, 0] rfl (hself o10.1 x1 x2 x3 (xm_w (x4 + 1)) h1 h2 ⟨h3.1, h3.2⟩ (xm_w_in _))
    refine xg_rload hC dX7_latestLossOrBack_35 rfl ?_
    refine xg_sgetI hC rfl xl_F_X7_63 dX7_latestLossOrBack_37 (fun k14 => ?_)
    refine xg_iload_n hC dX7_latestLossOrBack_40 rfl ?_
    refine xg_icmp_ne hC k14 h1 75 dX7_latestLossOrBack_41 rfl (fun c15 => ?_) (fun c16 => ?_)
    · refine xg_rload hC dX7_latestLossOrBack_44 rfl ?_
      refine xg_sgetI hC rfl xl_F_X7_94 dX7_latestLossOrBack_46 (fun k17 => ?_)
      refine xg_iload_n hC dX7_latestLossOrBack_49 rfl ?_
      refine xg_icmp_le hC k17 h2 56 dX7_latestLossOrBack_50 rfl (fun c18 => ?_) (fun c19 => ?_)
      · refine xg_goto hC 75 dX7_latestLossOrBack_53 rfl ?_
        refine xg_iinc hC (l' := [(4, .int (xm_J (xm_w (x4 + 1)))), (5, xm_rf (xx_G X) v6), (0, .ref (xm_ad (xx_G X) 5)), (1, .int (xm_J x1)), (2, .int (xm_J x2)), (3, xm_rf (xx_G X) x3)]) dX7_latestLossOrBack_75 (by decide) 5 rfl (by simp [xm_rf_cat, xm_cati, xm_catr, xm_catl] <;> decide) ?_
        refine xg_goto hC 5 dX7_latestLossOrBack_78 rfl ?_
        exact xg_pick [2, 3, 4, 5, 0] rfl (hself o10.1 x1 x2 x3 (xm_w (x4 + 1)) h1 h2 ⟨h3.1, h3.2⟩ (xm_w_in _))
      refine xg_rload_n hC dX7_latestLossOrBack_56 rfl ?_
      refine xg_ifnull hC 72 dX7_latestLossOrBack_57 rfl (fun c20 => ?_) (fun c21 => ?_)
      · refine xg_rload hC dX7_latestLossOrBack_72 rfl ?_
        refine xg_rstore_n hC (l' := [(3, xm_rf (xx_G X) v6), (5, xm_rf (xx_G X) v6), (0, .ref (xm_ad (xx_G X) 5)), (1, .int (xm_J x1)), (2, .int (xm_J x2)), (4, .int (xm_J x4))]) dX7_latestLossOrBack_74 (by decide) rfl ?_
        refine xg_iinc hC (l' := [(4, .int (xm_J (xm_w (x4 + 1)))), (3, xm_rf (xx_G X) v6), (5, xm_rf (xx_G X) v6), (0, .ref (xm_ad (xx_G X) 5)), (1, .int (xm_J x1)), (2, .int (xm_J x2))]) dX7_latestLossOrBack_75 (by decide) 5 rfl (by simp [xm_rf_cat, xm_cati, xm_catr, xm_catl] <;> decide) ?_
        refine xg_goto hC 5 dX7_latestLossOrBack_78 rfl ?_
        exact xg_pick [3, 4, 5, 1, 0] rfl (hself o10.1 x1 x2 v6 (xm_w (x4 + 1)) h1 h2 ⟨k7.1, k7.2⟩ (xm_w_in _))
      refine xg_rload hC dX7_latestLossOrBack_60 rfl ?_
      refine xg_sgetI hC rfl xl_F_X7_94 dX7_latestLossOrBack_62 (fun k22 => ?_)
      refine xg_rload_n hC dX7_latestLossOrBack_65 rfl ?_
      refine xg_sgetI hC rfl xl_F_X7_94 dX7_latestLossOrBack_66 (fun k23 => ?_)
      refine xg_icmp_le hC k22 k23 75 dX7_latestLossOrBack_69 rfl (fun c24 => ?_) (fun c25 => ?_)
      · refine xg_rload hC dX7_latestLossOrBack_72 rfl ?_
        refine xg_rstore_n hC (l' := [(3, xm_rf (xx_G X) v6), (5, xm_rf (xx_G X) v6), (0, .ref (xm_ad (xx_G X) 5)), (1, .int (xm_J x1)), (2, .int (xm_J x2)), (4, .int (xm_J x4))]) dX7_latestLossOrBack_74 (by decide) rfl ?_
        refine xg_iinc hC (l' := [(4, .int (xm_J (xm_w (x4 + 1)))), (3, xm_rf (xx_G X) v6), (5, xm_rf (xx_G X) v6), (0, .ref (xm_ad (xx_G X) 5)), (1, .int (xm_J x1)), (2, .int (xm_J x2))]) dX7_latestLossOrBack_75 (by decide) 5 rfl (by simp [xm_rf_cat, xm_cati, xm_catr, xm_catl] <;> decide) ?_
        refine xg_goto hC 5 dX7_latestLossOrBack_78 rfl ?_
        exact xg_pick [3, 4, 5, 1, 0] rfl (hself o10.1 x1 x2 v6 (xm_w (x4 + 1)) h1 h2 ⟨k7.1, k7.2⟩ (xm_w_in _))
      refine xg_iinc hC (l' := [(4, .int (xm_J (xm_w (x4 + 1)))), (5, xm_rf (xx_G X) v6), (0, .ref (xm_ad (xx_G X) 5)), (1, .int (xm_J x1)), (2, .int (xm_J x2)), (3, xm_rf (xx_G X) x3)]) dX7_latestLossOrBack_75 (by decide) 5 rfl (by simp [xm_rf_cat, xm_cati, xm_catr, xm_catl] <;> decide) ?_
      refine xg_goto hC 5 dX7_latestLossOrBack_78 rfl ?_
      exact xg_pick [2, 3, 4, 5, 0] rfl (hself o10.1 x1 x2 x3 (xm_w (x4 + 1)) h1 h2 ⟨h3.1, h3.2⟩ (xm_w_in _))
    refine xg_iinc hC (l' := [(4, .int (xm_J (xm_w (x4 + 1)))), (5, xm_rf (xx_G X) v6), (0, .ref (xm_ad (xx_G X) 5)), (1, .int (xm_J x1)), (2, .int (xm_J x2)), (3, xm_rf (xx_G X) x3)]) dX7_latestLossOrBack_75 (by decide) 5 rfl (by simp [xm_rf_cat, xm_cati, xm_catr, xm_catl] <;> decide) ?_
    refine xg_goto hC 5 dX7_latestLossOrBack_78 rfl ?_
    exact xg_pick [2, 3, 4, 5, 0] rfl (hself o10.1 x1 x2 x3 (xm_w (x4 + 1)) h1 h2 ⟨h3.1, h3.2⟩ (xm_w_in _))
  refine xg_rload_n hC dX7_latestLossOrBack_81 rfl ?_
  exact xg_rret hC hQ h3.1 dX7_latestLossOrBack_82
theorem w_X7_latestLossOrBack_l5 {X : xm_X} (hC : xm_C X yX7_latestLossOrBack.cls cX7_latestLossOrBack 6 3 0 0) (hQ : xm_Rt X 3 (some (.object "HeirRoll$Entry")) 0 0) (hI : xx_I X = xm_I)   (n : Nat) : ∀ (σ : xm_Mem) (x1 : Int) (x2 : Int) (x3 : Int) (x4 : Int), xm_in x1 → xm_in x2 → 0 ≤ x3 ∧ xm_in x3 → xm_in x4 → xm_V X 0 0 (f_X7_latestLossOrBack_l5  n σ x1 x2 x3 x4) σ 5 [(0, .ref (xm_ad (xx_G X) 5)), (1, .int (xm_J x1)), (2, .int (xm_J x2)), (3, xm_rf (xx_G X) x3), (4, .int (xm_J x4))] [] := by
  induction n with
  | zero => intro σ x1 x2 x3 x4 h1 h2 h3 h4; exact xg_none
  | succ n ih => intro σ x1 x2 x3 x4 h1 h2 h3 h4; exact w_X7_latestLossOrBack_b5 hC hQ hI ih σ x1 x2 x3 x4 h1 h2 h3 h4
theorem w_X7_latestLossOrBack {Γ : xm_Gm} {I : xm_Mem → Prop} {la : Launch} (hE : I = xm_I) (σ : xm_Mem) (x1 : Int) (x2 : Int) (h1 : xm_in x1) (h2 : xm_in x2) : ∀ o, f_X7_latestLossOrBack σ x1 x2 = some o → xm_M Γ I la yX7_latestLossOrBack cX7_latestLossOrBack 6 (some (.object "HeirRoll$Entry")) 3 0 0 [.ref (xm_ad Γ 5), .int (xm_J x1), .int (xm_J x2)] σ 3 o := by
  refine xg_enter (by decide) (by simp [lg_sl, xm_rf_cat, xm_cati, xm_catr, xm_catl]) (fun X hG hI0 hla hC hQ hname => ?_)
  subst hG
  have hI := hI0.trans hE
  clear hI0 hla
  unfold f_X7_latestLossOrBack
  refine xg_pick [0, 1, 2] (l' := [(0, .ref (xm_ad (xx_G X) 5)), (1, .int (xm_J x1)), (2, .int (xm_J x2))]) rfl ?_
  refine xg_null hC dX7_latestLossOrBack_0 ?_
  refine xg_rstore_n hC (l' := [(3, xm_rf (xx_G X) (0 : Int)), (0, .ref (xm_ad (xx_G X) 5)), (1, .int (xm_J x1)), (2, .int (xm_J x2))]) dX7_latestLossOrBack_1 (by decide) rfl ?_
  refine xg_iconst hC dX7_latestLossOrBack_2 ?_
  refine xg_istore hC (l' := [(4, .int (xm_J (0 : Int))), (3, xm_rf (xx_G X) (0 : Int)), (0, .ref (xm_ad (xx_G X) 5)), (1, .int (xm_J x1)), (2, .int (xm_J x2))]) dX7_latestLossOrBack_3 (by decide) (by simp [xm_rf_cat, xm_cati, xm_catr, xm_catl] <;> decide) ?_
  exact xg_pick [2, 3, 4, 1, 0] rfl (w_X7_latestLossOrBack_l5 hC hQ hI _ σ x1 x2 (0 : Int) (0 : Int) h1 h2 ⟨(by decide), xm_in0⟩ (xm_inc _ rfl))
theorem w_X4_countBirthsOfKids_j59 {X : xm_X} (hC : xm_C X yX4_countBirthsOfKids.cls cX4_countBirthsOfKids 4 2 0 0) (hQ : xm_Rt X 0 none 0 0) (hI : xx_I X = xm_I) {K2 : xm_Mem → Int → Int → Option xm_Out} (hK2 : ∀ (σ : xm_Mem) (x1 : Int) (x2 : Int), xm_in x1 → xm_in x2 → xm_V X 0 0 (K2 σ x1 x2) σ 2 [(0, .ref (xm_ad (xx_G X) 29)), (1, .int (xm_J x1)), (2, .int (xm_J x2))] []) (σ : xm_Mem) (x1 : Int) (x2 : Int) (x3 : Int) (h1 : xm_in x1) (h2 : xm_in x2) (h3 : xm_in x3) : xm_V X 0 0 (f_X4_countBirthsOfKids_j59 K2 σ x1 x2 x3) σ 59 [(0, .ref (xm_ad (xx_G X) 29)), (1, .int (xm_J x1)), (2, .int (xm_J x2)), (3, .int (xm_J x3))] [] := by
  unfold f_X4_countBirthsOfKids_j59
  refine xg_aload_n hC dX4_countBirthsOfKids_59 rfl ?_
  refine xg_getW hC (b := 32) (xm_hK hI rfl) rfl (xm_wK hI rfl) (by decide) xl_F_X4_31 dX4_countBirthsOfKids_60 ?_
  refine xg_iload_n hC dX4_countBirthsOfKids_63 rfl ?_
  refine xg_aload_n hC dX4_countBirthsOfKids_64 rfl ?_
  refine xg_getW hC (b := 32) (xm_hK hI rfl) rfl (xm_wK hI rfl) (by decide) xl_F_X4_31 dX4_countBirthsOfKids_65 ?_
  refine xg_iload_n hC dX4_countBirthsOfKids_68 rfl ?_
  refine xg_iald hC (xm_hK hI rfl) rfl h1 dX4_countBirthsOfKids_69 (fun b13 k14 => ?_)
  refine xg_iconst hC dX4_countBirthsOfKids_70 ?_
  refine xg_iadd hC dX4_countBirthsOfKids_71 ?_
  refine xg_iast hC (xm_hK hI rfl) rfl h3 (xm_w_in _) (xm_kpF hI rfl) dX4_countBirthsOfKids_72 ?_
  refine xg_st (fun σ15 => ?_)
  refine xg_iinc hC (l' := [(2, .int (xm_J (xm_w (x2 + 1)))), (0, .ref (xm_ad (xx_G X) 29)), (1, .int (xm_J x1)), (3, .int (xm_J x3))]) dX4_countBirthsOfKids_73 (by decide) 2 rfl rfl ?_
  refine xg_goto hC 2 dX4_countBirthsOfKids_76 rfl ?_
  exact xg_pick [1, 2, 0] rfl (hK2 σ15 x1 (xm_w (x2 + 1)) h1 (xm_w_in _))
theorem w_X4_countBirthsOfKids_b2 {X : xm_X} (hC : xm_C X yX4_countBirthsOfKids.cls cX4_countBirthsOfKids 4 2 0 0) (hQ : xm_Rt X 0 none 0 0) (hI : xx_I X = xm_I)   {self : xm_Mem → Int → Int → Option xm_Out} (hself : ∀ (σ : xm_Mem) (x1 : Int) (x2 : Int), xm_in x1 → xm_in x2 → xm_V X 0 0 (self σ x1 x2) σ 2 [(0, .ref (xm_ad (xx_G X) 29)), (1, .int (xm_J x1)), (2, .int (xm_J x2))] []) (σ : xm_Mem) (x1 : Int) (x2 : Int) (h1 : xm_in x1) (h2 : xm_in x2) : xm_V X 0 0 (f_X4_countBirthsOfKids_b2  self σ x1 x2) σ 2 [(0, .ref (xm_ad (xx_G X) 29)), (1, .int (xm_J x1)), (2, .int (xm_J x2))] [] := by
  unfold f_X4_countBirthsOfKids_b2
  refine xg_iload_n hC dX4_countBirthsOfKids_2 rfl ?_
  refine xg_aload_n hC dX4_countBirthsOfKids_3 rfl ?_
  refine xg_getW hC (b := 23) (xm_hK hI rfl) rfl (xm_wK hI rfl) (by decide) xl_F_X4_54 dX4_countBirthsOfKids_4 ?_
  refine xg_iload_n hC dX4_countBirthsOfKids_7 rfl ?_
  refine xg_callV hC (ci := 1) (w_X2_kidCount hI σ x1 h1) xl_M_X4_91 xl_V_X2_kidCount (xm_hK (a := 23) (kd := 0) (n := 1) hI rfl).2 ((xm_hK (a := 23) (kd := 0) (n := 1) hI rfl).1 _) (by decide) rfl (by decide) ⟨by decide, by decide⟩ dX4_countBirthsOfKids_8 (rest := [.int (xm_J x2)]) rfl rfl (Nat.le_of_ble_eq_true rfl) rfl rfl (st2 := fun o => .int (xm_J o.2) :: [.int (xm_J x2)]) (fun _ => rfl) (fun o1 k2 => ?_)
  refine xg_icmp_ge hC h2 k2 79 dX4_countBirthsOfKids_11 rfl (fun c3 => ?_) (fun c4 => ?_)
  · refine xg_aload_n hC dX4_countBirthsOfKids_14 rfl ?_
    refine xg_getW hC (b := 23) (xm_hK hI rfl) rfl (xm_wK hI rfl) (by decide) xl_F_X4_54 dX4_countBirthsOfKids_15 ?_
    refine xg_iload_n hC dX4_countBirthsOfKids_18 rfl ?_
    refine xg_iload_n hC dX4_countBirthsOfKids_19 rfl ?_
    refine xg_callV hC (ci := 1) (w_X2_kid hI o1.1 x1 x2 h1 h2) xl_M_X4_94 xl_V_X2_kid (xm_hK (a := 23) (kd := 0) (n := 1) hI rfl).2 ((xm_hK (a := 23) (kd := 0) (n := 1) hI rfl).1 _) (by decide) rfl (by decide) ⟨by decide, by decide⟩ dX4_countBirthsOfKids_20 (rest := []) rfl rfl (Nat.le_of_ble_eq_true rfl) rfl rfl (st2 := fun o => .int (xm_J o.2) :: []) (fun _ => rfl) (fun o5 k6 => ?_)
    refine xg_istore_n hC (l' := [(3, .int (xm_J o5.2)), (0, .ref (xm_ad (xx_G X) 29)), (1, .int (xm_J x1)), (2, .int (xm_J x2))]) dX4_countBirthsOfKids_23 (by decide) rfl ?_
    refine xg_iload_n hC dX4_countBirthsOfKids_24 rfl ?_
    refine xg_iconst hC dX4_countBirthsOfKids_25 ?_
    refine xg_icmp_ne hC k6 (xm_inc _ rfl) 32 dX4_countBirthsOfKids_26 rfl (fun c7 => ?_) (fun c8 => ?_)
    · refine xg_goto hC 73 dX4_countBirthsOfKids_29 rfl ?_
      refine xg_iinc hC (l' := [(2, .int (xm_J (xm_w (x2 + 1)))), (3, .int (xm_J o5.2)), (0, .ref (xm_ad (xx_G X) 29)), (1, .int (xm_J x1))]) dX4_countBirthsOfKids_73 (by decide) 3 rfl rfl ?_
      refine xg_goto hC 2 dX4_countBirthsOfKids_76 rfl ?_
      exact xg_pick [2, 3, 0] rfl (hself o5.1 x1 (xm_w (x2 + 1)) h1 (xm_w_in _))
    refine xg_aload_n hC dX4_countBirthsOfKids_32 rfl ?_
    refine xg_getW hC (b := 32) (xm_hK hI rfl) rfl (xm_wK hI rfl) (by decide) xl_F_X4_31 dX4_countBirthsOfKids_33 ?_
    refine xg_iload_n hC dX4_countBirthsOfKids_36 rfl ?_
    refine xg_iald hC (xm_hK hI rfl) rfl k6 dX4_countBirthsOfKids_37 (fun b9 k10 => ?_)
    refine xg_iconst hC dX4_countBirthsOfKids_38 ?_
    refine xg_icmp_eq hC k10 (xm_inc _ rfl) 59 dX4_countBirthsOfKids_39 rfl (fun c11 => ?_) (fun c12 => ?_)
    · exact xg_pick [1, 2, 3, 0] rfl (w_X4_countBirthsOfKids_j59 hC hQ hI hself o5.1 x1 x2 o5.2 h1 h2 k6)
    refine xg_aload_n hC dX4_countBirthsOfKids_42 rfl ?_
    refine xg_getW hC (b := 32) (xm_hK hI rfl) rfl (xm_wK hI rfl) (by decide) xl_F_X4_31 dX4_countBirthsOfKids_43 ?_
    refine xg_iload_n hC dX4_countBirthsOfKids_46 rfl ?_
    refine xg_iald hC (xm_hK hI rfl) rfl k6 dX4_countBirthsOfKids_47 (fun b16 k17 => ?_)
    refine xg_aload_n hC dX4_countBirthsOfKids_48 rfl ?_
    refine xg_getW hC (b := 32) (xm_hK hI rfl) rfl (xm_wK hI rfl) (by decide) xl_F_X4_31 dX4_countBirthsOfKids_49 ?_
    refine xg_iload_n hC dX4_countBirthsOfKids_52 rfl ?_
    refine xg_iald hC (xm_hK hI rfl) rfl h1 dX4_countBirthsOfKids_53 (fun b18 k19 => ?_)
    refine xg_iconst hC dX4_countBirthsOfKids_54 ?_
    refine xg_iadd hC dX4_countBirthsOfKids_55 ?_
    refine xg_icmp_le hC k17 (xm_w_in _) 73 dX4_countBirthsOfKids_56 rfl (fun c20 => ?_) (fun c21 => ?_)
    · exact xg_pick [1, 2, 3, 0] rfl (w_X4_countBirthsOfKids_j59 hC hQ hI hself o5.1 x1 x2 o5.2 h1 h2 k6)
    refine xg_iinc hC (l' := [(2, .int (xm_J (xm_w (x2 + 1)))), (3, .int (xm_J o5.2)), (0, .ref (xm_ad (xx_G X) 29)), (1, .int (xm_J x1))]) dX4_countBirthsOfKids_73 (by decide) 3 rfl rfl ?_
    refine xg_goto hC 2 dX4_countBirthsOfKids_76 rfl ?_
    exact xg_pick [2, 3, 0] rfl (hself o5.1 x1 (xm_w (x2 + 1)) h1 (xm_w_in _))
  exact xg_vret hC hQ dX4_countBirthsOfKids_79
theorem w_X4_countBirthsOfKids_l2 {X : xm_X} (hC : xm_C X yX4_countBirthsOfKids.cls cX4_countBirthsOfKids 4 2 0 0) (hQ : xm_Rt X 0 none 0 0) (hI : xx_I X = xm_I)   (n : Nat) : ∀ (σ : xm_Mem) (x1 : Int) (x2 : Int), xm_in x1 → xm_in x2 → xm_V X 0 0 (f_X4_countBirthsOfKids_l2  n σ x1 x2) σ 2 [(0, .ref (xm_ad (xx_G X) 29)), (1, .int (xm_J x1)), (2, .int (xm_J x2))] [] := by
  induction n with
  | zero => intro σ x1 x2 h1 h2; exact xg_none
  | succ n ih => intro σ x1 x2 h1 h2; exact w_X4_countBirthsOfKids_b2 hC hQ hI ih σ x1 x2 h1 h2
theorem w_X4_countBirthsOfKids {Γ : xm_Gm} {I : xm_Mem → Prop} {la : Launch} (hE : I = xm_I) (σ : xm_Mem) (x1 : Int) (h1 : xm_in x1) : ∀ o, f_X4_countBirthsOfKids σ x1 = some o → xm_M Γ I la yX4_countBirthsOfKids cX4_countBirthsOfKids 4 none 2 0 0 [.ref (xm_ad Γ 29), .int (xm_J x1)] σ 0 o := by
  refine xg_enter (by decide) (by simp [lg_sl, xm_rf_cat, xm_cati, xm_catr, xm_catl]) (fun X hG hI0 hla hC hQ hname => ?_)
  subst hG
  have hI := hI0.trans hE
  clear hI0 hla
  unfold f_X4_countBirthsOfKids
  refine xg_pick [0, 1] (l' := [(0, .ref (xm_ad (xx_G X) 29)), (1, .int (xm_J x1))]) rfl ?_
  refine xg_iconst hC dX4_countBirthsOfKids_0 ?_
  refine xg_istore_n hC (l' := [(2, .int (xm_J (0 : Int))), (0, .ref (xm_ad (xx_G X) 29)), (1, .int (xm_J x1))]) dX4_countBirthsOfKids_1 (by decide) rfl ?_
  exact xg_pick [1, 2, 0] rfl (w_X4_countBirthsOfKids_l2 hC hQ hI _ σ x1 (0 : Int) h1 (xm_inc _ rfl))
theorem w_X2_size {Γ : xm_Gm} {I : xm_Mem → Prop} {la : Launch} (hE : I = xm_I) (σ : xm_Mem)   : ∀ o, f_X2_size σ  = some o → xm_M Γ I la yX2_size cX2_size 1 (some .int) 1 0 0 [.ref (xm_ad Γ 23)] σ 1 o := by
  refine xg_enter (by decide) (by simp [lg_sl, xm_rf_cat, xm_cati, xm_catr, xm_catl]) (fun X hG hI0 hla hC hQ hname => ?_)
  subst hG
  have hI := hI0.trans hE
  clear hI0 hla
  unfold f_X2_size
  refine xg_pick [0] (l' := [(0, .ref (xm_ad (xx_G X) 23))]) rfl ?_
  refine xg_aload_n hC dX2_size_0 rfl ?_
  refine xg_getI hC (xm_hK hI rfl) rfl xl_F_X2_19 dX2_size_1 (fun k1 => ?_)
  exact xg_iret hC hQ k1 dX2_size_4
theorem w_X2_byAge {Γ : xm_Gm} {I : xm_Mem → Prop} {la : Launch} (hE : I = xm_I) (σ : xm_Mem) (x1 : Int) (h1 : xm_in x1) : ∀ o, f_X2_byAge σ x1 = some o → xm_M Γ I la yX2_byAge cX2_byAge 2 (some .int) 1 0 0 [.ref (xm_ad Γ 23), .int (xm_J x1)] σ 1 o := by
  refine xg_enter (by decide) (by simp [lg_sl, xm_rf_cat, xm_cati, xm_catr, xm_catl]) (fun X hG hI0 hla hC hQ hname => ?_)
  subst hG
  have hI := hI0.trans hE
  clear hI0 hla
  unfold f_X2_byAge
  refine xg_pick [0, 1] (l' := [(0, .ref (xm_ad (xx_G X) 23)), (1, .int (xm_J x1))]) rfl ?_
  refine xg_iload_n hC dX2_byAge_0 rfl ?_
  refine xg_if_lt hC h1 21 dX2_byAge_1 rfl (fun c1 => ?_) (fun c2 => ?_)
  · refine xg_iconst hC dX2_byAge_21 ?_
    exact xg_iret hC hQ (xm_inc _ rfl) dX2_byAge_22
  refine xg_iload_n hC dX2_byAge_4 rfl ?_
  refine xg_aload_n hC dX2_byAge_5 rfl ?_
  refine xg_getI hC (xm_hK hI rfl) rfl xl_F_X2_19 dX2_byAge_6 (fun k3 => ?_)
  refine xg_icmp_ge hC h1 k3 21 dX2_byAge_9 rfl (fun c4 => ?_) (fun c5 => ?_)
  · refine xg_aload_n hC dX2_byAge_12 rfl ?_
    refine xg_getW hC (b := 25) (xm_hK hI rfl) rfl (xm_wK hI rfl) (by decide) xl_F_X2_15 dX2_byAge_13 ?_
    refine xg_iload_n hC dX2_byAge_16 rfl ?_
    refine xg_iald hC (xm_hK hI rfl) rfl h1 dX2_byAge_17 (fun b6 k7 => ?_)
    refine xg_goto hC 22 dX2_byAge_18 rfl ?_
    exact xg_iret hC hQ k7 dX2_byAge_22
  refine xg_iconst hC dX2_byAge_21 ?_
  exact xg_iret hC hQ (xm_inc _ rfl) dX2_byAge_22
theorem w_X4_orderByBirths_b10 {X : xm_X} (hC : xm_C X yX4_orderByBirths.cls cX4_orderByBirths 5 3 0 0) (hQ : xm_Rt X 0 none 0 0) (hI : xx_I X = xm_I) {K38 : xm_Mem → Int → Option xm_Out} (hK38 : ∀ (σ : xm_Mem) (x1 : Int), xm_in x1 → xm_V X 0 0 (K38 σ x1) σ 38 [(0, .ref (xm_ad (xx_G X) 29)), (1, .int (xm_J x1))] []) {self : xm_Mem → Int → Int → Option xm_Out} (hself : ∀ (σ : xm_Mem) (x1 : Int) (x2 : Int), xm_in x1 → xm_in x2 → xm_V X 0 0 (self σ x1 x2) σ 10 [(0, .ref (xm_ad (xx_G X) 29)), (1, .int (xm_J x1)), (2, .int (xm_J x2))] []) (σ : xm_Mem) (x1 : Int) (x2 : Int) (h1 : xm_in x1) (h2 : xm_in x2) : xm_V X 0 0 (f_X4_orderByBirths_b10 K38 self σ x1 x2) σ 10 [(0, .ref (xm_ad (xx_G X) 29)), (1, .int (xm_J x1)), (2, .int (xm_J x2))] [] := by
  unfold f_X4_orderByBirths_b10
  refine xg_iload_n hC dX4_orderByBirths_10 rfl ?_
  refine xg_bipush hC dX4_orderByBirths_11 (by decide) ?_
  refine xg_icmp_ge hC h2 (xm_inc _ rfl) 38 dX4_orderByBirths_13 rfl (fun c5 => ?_) (fun c6 => ?_)
  · refine xg_aload_n hC dX4_orderByBirths_16 rfl ?_
    refine xg_getW hC (b := 32) (xm_hK hI rfl) rfl (xm_wK hI rfl) (by decide) xl_F_X4_31 dX4_orderByBirths_17 ?_
    refine xg_iload_n hC dX4_orderByBirths_20 rfl ?_
    refine xg_iload_n hC dX4_orderByBirths_21 rfl ?_
    refine xg_iload_n hC dX4_orderByBirths_22 rfl ?_
    refine xg_icmp_ne hC h2 h1 30 dX4_orderByBirths_23 rfl (fun c7 => ?_) (fun c8 => ?_)
    · refine xg_iconst hC dX4_orderByBirths_26 ?_
      refine xg_goto hC 31 dX4_orderByBirths_27 rfl ?_
      refine xg_iast hC (xm_hK hI rfl) rfl h2 (xm_inc _ rfl) (xm_kpF hI rfl) dX4_orderByBirths_31 ?_
      refine xg_st (fun σ9 => ?_)
      refine xg_iinc hC (l' := [(2, .int (xm_J (xm_w (x2 + 1)))), (0, .ref (xm_ad (xx_G X) 29)), (1, .int (xm_J x1))]) dX4_orderByBirths_32 (by decide) 2 rfl rfl ?_
      refine xg_goto hC 10 dX4_orderByBirths_35 rfl ?_
      exact xg_pick [1, 2, 0] rfl (hself σ9 x1 (xm_w (x2 + 1)) h1 (xm_w_in _))
    refine xg_iconst hC dX4_orderByBirths_30 ?_
    refine xg_iast hC (xm_hK hI rfl) rfl h2 (xm_inc _ rfl) (xm_kpF hI rfl) dX4_orderByBirths_31 ?_
    refine xg_st (fun σ10 => ?_)
    refine xg_iinc hC (l' := [(2, .int (xm_J (xm_w (x2 + 1)))), (0, .ref (xm_ad (xx_G X) 29)), (1, .int (xm_J x1))]) dX4_orderByBirths_32 (by decide) 2 rfl rfl ?_
    refine xg_goto hC 10 dX4_orderByBirths_35 rfl ?_
    exact xg_pick [1, 2, 0] rfl (hself σ10 x1 (xm_w (x2 + 1)) h1 (xm_w_in _))
  exact xg_pick [0, 1] rfl (hK38 σ x1 h1)
theorem w_X4_orderByBirths_l10 {X : xm_X} (hC : xm_C X yX4_orderByBirths.cls cX4_orderByBirths 5 3 0 0) (hQ : xm_Rt X 0 none 0 0) (hI : xx_I X = xm_I) {K38 : xm_Mem → Int → Option xm_Out} (hK38 : ∀ (σ : xm_Mem) (x1 : Int), xm_in x1 → xm_V X 0 0 (K38 σ x1) σ 38 [(0, .ref (xm_ad (xx_G X) 29)), (1, .int (xm_J x1))] []) (n : Nat) : ∀ (σ : xm_Mem) (x1 : Int) (x2 : Int), xm_in x1 → xm_in x2 → xm_V X 0 0 (f_X4_orderByBirths_l10 K38 n σ x1 x2) σ 10 [(0, .ref (xm_ad (xx_G X) 29)), (1, .int (xm_J x1)), (2, .int (xm_J x2))] [] := by
  induction n with
  | zero => intro σ x1 x2 h1 h2; exact xg_none
  | succ n ih => intro σ x1 x2 h1 h2; exact w_X4_orderByBirths_b10 hC hQ hI hK38 ih σ x1 x2 h1 h2
theorem w_X4_orderByBirths_b40 {X : xm_X} (hC : xm_C X yX4_orderByBirths.cls cX4_orderByBirths 5 3 0 0) (hQ : xm_Rt X 0 none 0 0) (hI : xx_I X = xm_I) {K67 : xm_Mem → Option xm_Out} (hK67 : ∀ (σ : xm_Mem), xm_V X 0 0 (K67 σ ) σ 67 [(0, .ref (xm_ad (xx_G X) 29))] []) {self : xm_Mem → Int → Option xm_Out} (hself : ∀ (σ : xm_Mem) (x2 : Int), xm_in x2 → xm_V X 0 0 (self σ x2) σ 40 [(0, .ref (xm_ad (xx_G X) 29)), (2, .int (xm_J x2))] []) (σ : xm_Mem) (x2 : Int) (h2 : xm_in x2) : xm_V X 0 0 (f_X4_orderByBirths_b40 K67 self σ x2) σ 40 [(0, .ref (xm_ad (xx_G X) 29)), (2, .int (xm_J x2))] [] := by
  unfold f_X4_orderByBirths_b40
  refine xg_iload_n hC dX4_orderByBirths_40 rfl ?_
  refine xg_bipush hC dX4_orderByBirths_41 (by decide) ?_
  refine xg_icmp_ge hC h2 (xm_inc _ rfl) 67 dX4_orderByBirths_43 rfl (fun c12 => ?_) (fun c13 => ?_)
  · refine xg_aload_n hC dX4_orderByBirths_46 rfl ?_
    refine xg_getW hC (b := 32) (xm_hK hI rfl) rfl (xm_wK hI rfl) (by decide) xl_F_X4_31 dX4_orderByBirths_47 ?_
    refine xg_iload_n hC dX4_orderByBirths_50 rfl ?_
    refine xg_iald hC (xm_hK hI rfl) rfl h2 dX4_orderByBirths_51 (fun b14 k15 => ?_)
    refine xg_iconst hC dX4_orderByBirths_52 ?_
    refine xg_icmp_eq hC k15 (xm_inc _ rfl) 61 dX4_orderByBirths_53 rfl (fun c16 => ?_) (fun c17 => ?_)
    · refine xg_iinc hC (l' := [(2, .int (xm_J (xm_w (x2 + 1)))), (0, .ref (xm_ad (xx_G X) 29))]) dX4_orderByBirths_61 (by decide) 1 rfl rfl ?_
      refine xg_goto hC 40 dX4_orderByBirths_64 rfl ?_
      exact xg_pick [1, 0] rfl (hself σ (xm_w (x2 + 1)) (xm_w_in _))
    refine xg_aload_n hC dX4_orderByBirths_56 rfl ?_
    refine xg_iload_n hC dX4_orderByBirths_57 rfl ?_
    refine xg_callV hC (ci := 3) (w_X4_countBirthsOfKids hI σ x2 h2) xl_M_X4_79 xl_V_X4_countBirthsOfKids (xm_hK (a := 29) (kd := 0) (n := 3) hI rfl).2 ((xm_hK (a := 29) (kd := 0) (n := 3) hI rfl).1 _) (by decide) rfl (by decide) ⟨by decide, by decide⟩ dX4_orderByBirths_58 (rest := []) rfl rfl (Nat.le_of_ble_eq_true rfl) rfl rfl (st2 := fun o => []) (fun _ => rfl) (fun o18 k19 => ?_)
    refine xg_iinc hC (l' := [(2, .int (xm_J (xm_w (x2 + 1)))), (0, .ref (xm_ad (xx_G X) 29))]) dX4_orderByBirths_61 (by decide) 1 rfl rfl ?_
    refine xg_goto hC 40 dX4_orderByBirths_64 rfl ?_
    exact xg_pick [1, 0] rfl (hself o18.1 (xm_w (x2 + 1)) (xm_w_in _))
  exact xg_pick [0] rfl (hK67 σ)
theorem w_X4_orderByBirths_l40 {X : xm_X} (hC : xm_C X yX4_orderByBirths.cls cX4_orderByBirths 5 3 0 0) (hQ : xm_Rt X 0 none 0 0) (hI : xx_I X = xm_I) {K67 : xm_Mem → Option xm_Out} (hK67 : ∀ (σ : xm_Mem), xm_V X 0 0 (K67 σ ) σ 67 [(0, .ref (xm_ad (xx_G X) 29))] []) (n : Nat) : ∀ (σ : xm_Mem) (x2 : Int), xm_in x2 → xm_V X 0 0 (f_X4_orderByBirths_l40 K67 n σ x2) σ 40 [(0, .ref (xm_ad (xx_G X) 29)), (2, .int (xm_J x2))] [] := by
  induction n with
  | zero => intro σ x2 h2; exact xg_none
  | succ n ih => intro σ x2 h2; exact w_X4_orderByBirths_b40 hC hQ hI hK67 ih σ x2 h2
theorem w_X4_orderByBirths_b77 {X : xm_X} (hC : xm_C X yX4_orderByBirths.cls cX4_orderByBirths 5 3 0 0) (hQ : xm_Rt X 0 none 0 0) (hI : xx_I X = xm_I) {K148 : xm_Mem → Int → Option xm_Out} (hK148 : ∀ (σ : xm_Mem) (x2 : Int), xm_in x2 → xm_V X 0 0 (K148 σ x2) σ 148 [(0, .ref (xm_ad (xx_G X) 29)), (2, .int (xm_J x2))] []) {self : xm_Mem → Int → Int → Option xm_Out} (hself : ∀ (σ : xm_Mem) (x2 : Int) (x3 : Int), xm_in x2 → xm_in x3 → xm_V X 0 0 (self σ x2 x3) σ 77 [(0, .ref (xm_ad (xx_G X) 29)), (2, .int (xm_J x2)), (3, .int (xm_J x3))] []) (σ : xm_Mem) (x2 : Int) (x3 : Int) (h2 : xm_in x2) (h3 : xm_in x3) : xm_V X 0 0 (f_X4_orderByBirths_b77 K148 self σ x2 x3) σ 77 [(0, .ref (xm_ad (xx_G X) 29)), (2, .int (xm_J x2)), (3, .int (xm_J x3))] [] := by
  unfold f_X4_orderByBirths_b77
  refine xg_iload_n hC dX4_orderByBirths_77 rfl ?_
  refine xg_aload_n hC dX4_orderByBirths_78 rfl ?_
  refine xg_getW hC (b := 23) (xm_hK hI rfl) rfl (xm_wK hI rfl) (by decide) xl_F_X4_54 dX4_orderByBirths_79 ?_
  refine xg_callV hC (ci := 1) (w_X2_size hI σ ) xl_M_X4_82 xl_V_X2_size (xm_hK (a := 23) (kd := 0) (n := 1) hI rfl).2 ((xm_hK (a := 23) (kd := 0) (n := 1) hI rfl).1 _) (by decide) rfl (by decide) ⟨by decide, by decide⟩ dX4_orderByBirths_82 (rest := [.int (xm_J x3)]) rfl rfl (Nat.le_of_ble_eq_true rfl) rfl rfl (st2 := fun o => .int (xm_J o.2) :: [.int (xm_J x3)]) (fun _ => rfl) (fun o23 k24 => ?_)
  refine xg_icmp_ge hC h3 k24 148 dX4_orderByBirths_85 rfl (fun c25 => ?_) (fun c26 => ?_)
  · refine xg_aload_n hC dX4_orderByBirths_88 rfl ?_
    refine xg_getW hC (b := 23) (xm_hK hI rfl) rfl (xm_wK hI rfl) (by decide) xl_F_X4_54 dX4_orderByBirths_89 ?_
    refine xg_iload_n hC dX4_orderByBirths_92 rfl ?_
    refine xg_callV hC (ci := 1) (w_X2_byAge hI o23.1 x3 h3) xl_M_X4_87 xl_V_X2_byAge (xm_hK (a := 23) (kd := 0) (n := 1) hI rfl).2 ((xm_hK (a := 23) (kd := 0) (n := 1) hI rfl).1 _) (by decide) rfl (by decide) ⟨by decide, by decide⟩ dX4_orderByBirths_93 (rest := []) rfl rfl (Nat.le_of_ble_eq_true rfl) rfl rfl (st2 := fun o => .int (xm_J o.2) :: []) (fun _ => rfl) (fun o27 k28 => ?_)
    refine xg_istore hC (l' := [(4, .int (xm_J o27.2)), (0, .ref (xm_ad (xx_G X) 29)), (2, .int (xm_J x2)), (3, .int (xm_J x3))]) dX4_orderByBirths_96 (by decide) rfl ?_
    refine xg_iload hC dX4_orderByBirths_98 rfl ?_
    refine xg_iconst hC dX4_orderByBirths_100 ?_
    refine xg_icmp_eq hC k28 (xm_inc _ rfl) 142 dX4_orderByBirths_101 rfl (fun c29 => ?_) (fun c30 => ?_)
    · refine xg_iinc hC (l' := [(3, .int (xm_J (xm_w (x3 + 1)))), (4, .int (xm_J o27.2)), (0, .ref (xm_ad (xx_G X) 29)), (2, .int (xm_J x2))]) dX4_orderByBirths_142 (by decide) 3 rfl rfl ?_
      refine xg_goto hC 77 dX4_orderByBirths_145 rfl ?_
      exact xg_pick [2, 3, 0] rfl (hself o27.1 x2 (xm_w (x3 + 1)) h2 (xm_w_in _))
    refine xg_aload_n hC dX4_orderByBirths_104 rfl ?_
    refine xg_getW hC (b := 32) (xm_hK hI rfl) rfl (xm_wK hI rfl) (by decide) xl_F_X4_31 dX4_orderByBirths_105 ?_
    refine xg_iload hC dX4_orderByBirths_108 rfl ?_
    refine xg_iald hC (xm_hK hI rfl) rfl k28 dX4_orderByBirths_110 (fun b31 k32 => ?_)
    refine xg_iload_n hC dX4_orderByBirths_111 rfl ?_
    refine xg_icmp_ne hC k32 h2 142 dX4_orderByBirths_112 rfl (fun c33 => ?_) (fun c34 => ?_)
    · refine xg_aload_n hC dX4_orderByBirths_115 rfl ?_
      refine xg_getI hC (xm_hK hI rfl) rfl xl_F_X4_15 dX4_orderByBirths_116 (fun k35 => ?_)
      refine xg_bipush hC dX4_orderByBirths_119 (by decide) ?_
      refine xg_icmp_ge hC k35 (xm_inc _ rfl) 142 dX4_orderByBirths_121 rfl (fun c36 => ?_) (fun c37 => ?_)
      · refine xg_aload_n hC dX4_orderByBirths_124 rfl ?_
        refine xg_getW hC (b := 30) (xm_hK hI rfl) rfl (xm_wK hI rfl) (by decide) xl_F_X4_9 dX4_orderByBirths_125 ?_
        refine xg_aload_n hC dX4_orderByBirths_128 rfl ?_
        refine xg_dup hC dX4_orderByBirths_129 rfl ?_
        refine xg_getI hC (xm_hK hI rfl) rfl xl_F_X4_15 dX4_orderByBirths_130 (fun k38 => ?_)
        refine xg_vI k38 (fun v39 k40 => ?_)
        refine xg_dup_x1 hC dX4_orderByBirths_133 rfl rfl ?_
        refine xg_iconst hC dX4_orderByBirths_134 ?_
        refine xg_iadd hC dX4_orderByBirths_135 ?_
        refine xg_putI hC (xm_hK hI rfl) rfl rfl (xm_w_in _) (xm_kpK hI rfl) xl_F_X4_15 dX4_orderByBirths_136 ?_
        refine xg_st (fun σ41 => ?_)
        refine xg_iload hC dX4_orderByBirths_139 rfl ?_
        refine xg_iast hC (xm_hK hI rfl) rfl k40 k28 (xm_kpF hI rfl) dX4_orderByBirths_141 ?_
        refine xg_st (fun σ42 => ?_)
        refine xg_iinc hC (l' := [(3, .int (xm_J (xm_w (x3 + 1)))), (4, .int (xm_J o27.2)), (0, .ref (xm_ad (xx_G X) 29)), (2, .int (xm_J x2))]) dX4_orderByBirths_142 (by decide) 3 rfl rfl ?_
        refine xg_goto hC 77 dX4_orderByBirths_145 rfl ?_
        exact xg_pick [2, 3, 0] rfl (hself σ42 x2 (xm_w (x3 + 1)) h2 (xm_w_in _))
      refine xg_iinc hC (l' := [(3, .int (xm_J (xm_w (x3 + 1)))), (4, .int (xm_J o27.2)), (0, .ref (xm_ad (xx_G X) 29)), (2, .int (xm_J x2))]) dX4_orderByBirths_142 (by decide) 3 rfl rfl ?_
      refine xg_goto hC 77 dX4_orderByBirths_145 rfl ?_
      exact xg_pick [2, 3, 0] rfl (hself o27.1 x2 (xm_w (x3 + 1)) h2 (xm_w_in _))
    refine xg_iinc hC (l' := [(3, .int (xm_J (xm_w (x3 + 1)))), (4, .int (xm_J o27.2)), (0, .ref (xm_ad (xx_G X) 29)), (2, .int (xm_J x2))]) dX4_orderByBirths_142 (by decide) 3 rfl rfl ?_
    refine xg_goto hC 77 dX4_orderByBirths_145 rfl ?_
    exact xg_pick [2, 3, 0] rfl (hself o27.1 x2 (xm_w (x3 + 1)) h2 (xm_w_in _))
  exact xg_pick [0, 1] rfl (hK148 o23.1 x2 h2)
theorem w_X4_orderByBirths_l77 {X : xm_X} (hC : xm_C X yX4_orderByBirths.cls cX4_orderByBirths 5 3 0 0) (hQ : xm_Rt X 0 none 0 0) (hI : xx_I X = xm_I) {K148 : xm_Mem → Int → Option xm_Out} (hK148 : ∀ (σ : xm_Mem) (x2 : Int), xm_in x2 → xm_V X 0 0 (K148 σ x2) σ 148 [(0, .ref (xm_ad (xx_G X) 29)), (2, .int (xm_J x2))] []) (n : Nat) : ∀ (σ : xm_Mem) (x2 : Int) (x3 : Int), xm_in x2 → xm_in x3 → xm_V X 0 0 (f_X4_orderByBirths_l77 K148 n σ x2 x3) σ 77 [(0, .ref (xm_ad (xx_G X) 29)), (2, .int (xm_J x2)), (3, .int (xm_J x3))] [] := by
  induction n with
  | zero => intro σ x2 x3 h2 h3; exact xg_none
  | succ n ih => intro σ x2 x3 h2 h3; exact w_X4_orderByBirths_b77 hC hQ hI hK148 ih σ x2 x3 h2 h3
theorem w_X4_orderByBirths_b69 {X : xm_X} (hC : xm_C X yX4_orderByBirths.cls cX4_orderByBirths 5 3 0 0) (hQ : xm_Rt X 0 none 0 0) (hI : xx_I X = xm_I)   {self : xm_Mem → Int → Option xm_Out} (hself : ∀ (σ : xm_Mem) (x2 : Int), xm_in x2 → xm_V X 0 0 (self σ x2) σ 69 [(0, .ref (xm_ad (xx_G X) 29)), (2, .int (xm_J x2))] []) (σ : xm_Mem) (x2 : Int) (h2 : xm_in x2) : xm_V X 0 0 (f_X4_orderByBirths_b69  self σ x2) σ 69 [(0, .ref (xm_ad (xx_G X) 29)), (2, .int (xm_J x2))] [] := by
  unfold f_X4_orderByBirths_b69
  refine xg_iload_n hC dX4_orderByBirths_69 rfl ?_
  refine xg_bipush hC dX4_orderByBirths_70 (by decide) ?_
  refine xg_icmp_ge hC h2 (xm_inc _ rfl) 154 dX4_orderByBirths_72 rfl (fun c21 => ?_) (fun c22 => ?_)
  · refine xg_iconst hC dX4_orderByBirths_75 ?_
    refine xg_istore_n hC (l' := [(3, .int (xm_J (0 : Int))), (0, .ref (xm_ad (xx_G X) 29)), (2, .int (xm_J x2))]) dX4_orderByBirths_76 (by decide) rfl ?_
    refine xg_pick [1, 2, 0] rfl (w_X4_orderByBirths_l77 hC hQ hI ?_ _ σ x2 (0 : Int) h2 (xm_inc _ rfl))
    intro σ_43 x2_43 h2_43
    refine xg_iinc hC (l' := [(2, .int (xm_J (xm_w (x2_43 + 1)))), (0, .ref (xm_ad (xx_G X) 29))]) dX4_orderByBirths_148 (by decide) 1 rfl rfl ?_
    refine xg_goto hC 69 dX4_orderByBirths_151 rfl ?_
    exact xg_pick [1, 0] rfl (hself σ_43 (xm_w (x2_43 + 1)) (xm_w_in _))
  exact xg_vret hC hQ dX4_orderByBirths_154
theorem w_X4_orderByBirths_l69 {X : xm_X} (hC : xm_C X yX4_orderByBirths.cls cX4_orderByBirths 5 3 0 0) (hQ : xm_Rt X 0 none 0 0) (hI : xx_I X = xm_I)   (n : Nat) : ∀ (σ : xm_Mem) (x2 : Int), xm_in x2 → xm_V X 0 0 (f_X4_orderByBirths_l69  n σ x2) σ 69 [(0, .ref (xm_ad (xx_G X) 29)), (2, .int (xm_J x2))] [] := by
  induction n with
  | zero => intro σ x2 h2; exact xg_none
  | succ n ih => intro σ x2 h2; exact w_X4_orderByBirths_b69 hC hQ hI ih σ x2 h2
theorem w_X4_orderByBirths {Γ : xm_Gm} {I : xm_Mem → Prop} {la : Launch} (hE : I = xm_I) (σ : xm_Mem) (x1 : Int) (h1 : xm_in x1) : ∀ o, f_X4_orderByBirths σ x1 = some o → xm_M Γ I la yX4_orderByBirths cX4_orderByBirths 5 none 3 0 0 [.ref (xm_ad Γ 29), .int (xm_J x1)] σ 0 o := by
  refine xg_enter (by decide) (by simp [lg_sl, xm_rf_cat, xm_cati, xm_catr, xm_catl]) (fun X hG hI0 hla hC hQ hname => ?_)
  subst hG
  have hI := hI0.trans hE
  clear hI0 hla
  unfold f_X4_orderByBirths
  refine xg_pick [0, 1] (l' := [(0, .ref (xm_ad (xx_G X) 29)), (1, .int (xm_J x1))]) rfl ?_
  refine xg_iload_n hC dX4_orderByBirths_0 rfl ?_
  refine xg_callSN hC (w_X10_isPersonNumber hI σ x1 h1) xl_N_X4_76 xl_S_X10_isPersonNumber (by decide) ⟨by decide, by decide⟩ dX4_orderByBirths_1 (rest := []) rfl rfl (Nat.le_of_ble_eq_true rfl) rfl rfl (st2 := fun o => .int (xm_J o.2) :: []) (fun _ => rfl) (fun o1 k2 => ?_)
  refine xg_if_ne hC (xm_in01 k2) 8 dX4_orderByBirths_4 rfl (fun c3 => ?_) (fun c4 => ?_)
  · exact xg_vret hC hQ dX4_orderByBirths_7
  refine xg_iconst hC dX4_orderByBirths_8 ?_
  refine xg_istore_n hC (l' := [(2, .int (xm_J (0 : Int))), (0, .ref (xm_ad (xx_G X) 29)), (1, .int (xm_J x1))]) dX4_orderByBirths_9 (by decide) rfl ?_
  refine xg_pick [1, 2, 0] rfl (w_X4_orderByBirths_l10 hC hQ hI ?_ _ o1.1 x1 (0 : Int) h1 (xm_inc _ rfl))
  intro σ_11 x1_11 h1_11
  refine xg_iload_n hC dX4_orderByBirths_38 rfl ?_
  refine xg_istore_n hC (l' := [(2, .int (xm_J x1_11)), (0, .ref (xm_ad (xx_G X) 29)), (1, .int (xm_J x1_11))]) dX4_orderByBirths_39 (by decide) rfl ?_
  refine xg_pick [1, 0] rfl (w_X4_orderByBirths_l40 hC hQ hI ?_ _ σ_11 x1_11 h1_11)
  intro σ_20
  refine xg_iconst hC dX4_orderByBirths_67 ?_
  refine xg_istore_n hC (l' := [(2, .int (xm_J (0 : Int))), (0, .ref (xm_ad (xx_G X) 29))]) dX4_orderByBirths_68 (by decide) rfl ?_
  exact xg_pick [1, 0] rfl (w_X4_orderByBirths_l69 hC hQ hI _ σ_20 (0 : Int) (xm_inc _ rfl))
theorem w_X4_pushKids_j76 {X : xm_X} (hC : xm_C X yX4_pushKids.cls cX4_pushKids 7 2 0 0) (hQ : xm_Rt X 0 none 0 0) (hI : xx_I X = xm_I) {K13 : xm_Mem → Int → Int → Int → Int → Int → Option xm_Out} (hK13 : ∀ (σ : xm_Mem) (x1 : Int) (x2 : Int) (x3 : Int) (x4 : Int) (x5 : Int), xm_in x1 → xm_in x2 → 0 ≤ x3 ∧ x3 ≤ 1 → xm_in x4 → xm_in x5 → xm_V X 0 0 (K13 σ x1 x2 x3 x4 x5) σ 13 [(0, .ref (xm_ad (xx_G X) 29)), (1, .int (xm_J x1)), (2, .int (xm_J x2)), (3, .int (xm_J x3)), (4, .int (xm_J x4)), (5, .int (xm_J x5))] []) (σ : xm_Mem) (x1 : Int) (x2 : Int) (x3 : Int) (x4 : Int) (x5 : Int) (x6 : Int) (h1 : xm_in x1) (h2 : xm_in x2) (h3 : 0 ≤ x3 ∧ x3 ≤ 1) (h4 : xm_in x4) (h5 : xm_in x5) (h6 : xm_in x6) : xm_V X 0 0 (f_X4_pushKids_j76 K13 σ x1 x2 x3 x4 x5 x6) σ 76 [(0, .ref (xm_ad (xx_G X) 29)), (1, .int (xm_J x1)), (2, .int (xm_J x2)), (3, .int (xm_J x3)), (4, .int (xm_J x4)), (5, .int (xm_J x5)), (6, .int (xm_J x6))] [] := by
  unfold f_X4_pushKids_j76
  refine xg_iload hC dX4_pushKids_76 rfl ?_
  refine xg_iconst hC dX4_pushKids_78 ?_
  refine xg_icmp_eq hC h6 (xm_inc _ rfl) 112 dX4_pushKids_79 rfl (fun c11 => ?_) (fun c12 => ?_)
  · refine xg_iinc hC (l' := [(5, .int (xm_J (xm_w (x5 + 1)))), (0, .ref (xm_ad (xx_G X) 29)), (1, .int (xm_J x1)), (2, .int (xm_J x2)), (3, .int (xm_J x3)), (4, .int (xm_J x4)), (6, .int (xm_J x6))]) dX4_pushKids_112 (by decide) 5 rfl rfl ?_
    refine xg_goto hC 13 dX4_pushKids_115 rfl ?_
    exact xg_pick [1, 2, 3, 4, 5, 0] rfl (hK13 σ x1 x2 x3 x4 (xm_w (x5 + 1)) h1 h2 h3 h4 (xm_w_in _))
  refine xg_aload_n hC dX4_pushKids_82 rfl ?_
  refine xg_getI hC (xm_hK hI rfl) rfl xl_F_X4_28 dX4_pushKids_83 (fun k13 => ?_)
  refine xg_aload_n hC dX4_pushKids_86 rfl ?_
  refine xg_getW hC (b := 31) (xm_hK hI rfl) rfl (xm_wK hI rfl) (by decide) xl_F_X4_25 dX4_pushKids_87 ?_
  refine xg_alen hC (kd := 1) (n := 129) (xm_hK hI rfl) (by decide) rfl dX4_pushKids_90 ?_
  refine xg_icmp_ge hC k13 (xm_inc _ rfl) 112 dX4_pushKids_91 rfl (fun c14 => ?_) (fun c15 => ?_)
  · refine xg_aload_n hC dX4_pushKids_94 rfl ?_
    refine xg_getW hC (b := 31) (xm_hK hI rfl) rfl (xm_wK hI rfl) (by decide) xl_F_X4_25 dX4_pushKids_95 ?_
    refine xg_aload_n hC dX4_pushKids_98 rfl ?_
    refine xg_dup hC dX4_pushKids_99 rfl ?_
    refine xg_getI hC (xm_hK hI rfl) rfl xl_F_X4_28 dX4_pushKids_100 (fun k16 => ?_)
    refine xg_vI k16 (fun v17 k18 => ?_)
    refine xg_dup_x1 hC dX4_pushKids_103 rfl rfl ?_
    refine xg_iconst hC dX4_pushKids_104 ?_
    refine xg_iadd hC dX4_pushKids_105 ?_
    refine xg_putI hC (xm_hK hI rfl) rfl rfl (xm_w_in _) (xm_kpK hI rfl) xl_F_X4_28 dX4_pushKids_106 ?_
    refine xg_st (fun σ19 => ?_)
    refine xg_iload hC dX4_pushKids_109 rfl ?_
    refine xg_iast hC (xm_hK hI rfl) rfl k18 h6 (xm_kpF hI rfl) dX4_pushKids_111 ?_
    refine xg_st (fun σ20 => ?_)
    refine xg_iinc hC (l' := [(5, .int (xm_J (xm_w (x5 + 1)))), (0, .ref (xm_ad (xx_G X) 29)), (1, .int (xm_J x1)), (2, .int (xm_J x2)), (3, .int (xm_J x3)), (4, .int (xm_J x4)), (6, .int (xm_J x6))]) dX4_pushKids_112 (by decide) 5 rfl rfl ?_
    refine xg_goto hC 13 dX4_pushKids_115 rfl ?_
    exact xg_pick [1, 2, 3, 4, 5, 0] rfl (hK13 σ20 x1 x2 x3 x4 (xm_w (x5 + 1)) h1 h2 h3 h4 (xm_w_in _))
  refine xg_iinc hC (l' := [(5, .int (xm_J (xm_w (x5 + 1)))), (0, .ref (xm_ad (xx_G X) 29)), (1, .int (xm_J x1)), (2, .int (xm_J x2)), (3, .int (xm_J x3)), (4, .int (xm_J x4)), (6, .int (xm_J x6))]) dX4_pushKids_112 (by decide) 5 rfl rfl ?_
  refine xg_goto hC 13 dX4_pushKids_115 rfl ?_
  exact xg_pick [1, 2, 3, 4, 5, 0] rfl (hK13 σ x1 x2 x3 x4 (xm_w (x5 + 1)) h1 h2 h3 h4 (xm_w_in _))
theorem w_X4_pushKids_j70 {X : xm_X} (hC : xm_C X yX4_pushKids.cls cX4_pushKids 7 2 0 0) (hQ : xm_Rt X 0 none 0 0) (hI : xx_I X = xm_I) {K13 : xm_Mem → Int → Int → Int → Int → Int → Option xm_Out} (hK13 : ∀ (σ : xm_Mem) (x1 : Int) (x2 : Int) (x3 : Int) (x4 : Int) (x5 : Int), xm_in x1 → xm_in x2 → 0 ≤ x3 ∧ x3 ≤ 1 → xm_in x4 → xm_in x5 → xm_V X 0 0 (K13 σ x1 x2 x3 x4 x5) σ 13 [(0, .ref (xm_ad (xx_G X) 29)), (1, .int (xm_J x1)), (2, .int (xm_J x2)), (3, .int (xm_J x3)), (4, .int (xm_J x4)), (5, .int (xm_J x5))] []) (σ : xm_Mem) (s0 : Int) (s1 : Int) (x1 : Int) (x2 : Int) (x3 : Int) (x4 : Int) (x5 : Int) (x6 : Int) (g0 : 0 ≤ s0 ∧ s0 ≤ 1) (g1 : 0 ≤ s1 ∧ s1 ≤ 1) (h1 : xm_in x1) (h2 : xm_in x2) (h3 : 0 ≤ x3 ∧ x3 ≤ 1) (h4 : xm_in x4) (h5 : xm_in x5) (h6 : xm_in x6) : xm_V X 0 0 (f_X4_pushKids_j70 K13 σ s0 s1 x1 x2 x3 x4 x5 x6) σ 70 [(0, .ref (xm_ad (xx_G X) 29)), (1, .int (xm_J x1)), (2, .int (xm_J x2)), (3, .int (xm_J x3)), (4, .int (xm_J x4)), (5, .int (xm_J x5)), (6, .int (xm_J x6))] [.int (xm_J s0), .int (xm_J s1)] := by
  unfold f_X4_pushKids_j70
  refine xg_icmp_eq hC (xm_in01 g1) (xm_in01 g0) 76 dX4_pushKids_70 rfl (fun c25 => ?_) (fun c26 => ?_)
  · exact (w_X4_pushKids_j76 hC hQ hI hK13 σ x1 x2 x3 x4 x5 x6 h1 h2 h3 h4 h5 h6)
  refine xg_goto hC 112 dX4_pushKids_73 rfl ?_
  refine xg_iinc hC (l' := [(5, .int (xm_J (xm_w (x5 + 1)))), (0, .ref (xm_ad (xx_G X) 29)), (1, .int (xm_J x1)), (2, .int (xm_J x2)), (3, .int (xm_J x3)), (4, .int (xm_J x4)), (6, .int (xm_J x6))]) dX4_pushKids_112 (by decide) 5 rfl rfl ?_
  refine xg_goto hC 13 dX4_pushKids_115 rfl ?_
  exact xg_pick [1, 2, 3, 4, 5, 0] rfl (hK13 σ x1 x2 x3 x4 (xm_w (x5 + 1)) h1 h2 h3 h4 (xm_w_in _))
theorem w_X4_pushKids_j41 {X : xm_X} (hC : xm_C X yX4_pushKids.cls cX4_pushKids 7 2 0 0) (hQ : xm_Rt X 0 none 0 0) (hI : xx_I X = xm_I) {K13 : xm_Mem → Int → Int → Int → Int → Int → Option xm_Out} (hK13 : ∀ (σ : xm_Mem) (x1 : Int) (x2 : Int) (x3 : Int) (x4 : Int) (x5 : Int), xm_in x1 → xm_in x2 → 0 ≤ x3 ∧ x3 ≤ 1 → xm_in x4 → xm_in x5 → xm_V X 0 0 (K13 σ x1 x2 x3 x4 x5) σ 13 [(0, .ref (xm_ad (xx_G X) 29)), (1, .int (xm_J x1)), (2, .int (xm_J x2)), (3, .int (xm_J x3)), (4, .int (xm_J x4)), (5, .int (xm_J x5))] []) (σ : xm_Mem) (s0 : Int) (s1 : Int) (x1 : Int) (x2 : Int) (x3 : Int) (x4 : Int) (x5 : Int) (g0 : xm_in s0) (g1 : xm_in s1) (h1 : xm_in x1) (h2 : xm_in x2) (h3 : 0 ≤ x3 ∧ x3 ≤ 1) (h4 : xm_in x4) (h5 : xm_in x5) : xm_V X 0 0 (f_X4_pushKids_j41 K13 σ s0 s1 x1 x2 x3 x4 x5) σ 41 [(0, .ref (xm_ad (xx_G X) 29)), (1, .int (xm_J x1)), (2, .int (xm_J x2)), (3, .int (xm_J x3)), (4, .int (xm_J x4)), (5, .int (xm_J x5))] [.int (xm_J s0), .int (xm_J s1), .ref (xm_ad (xx_G X) 23)] := by
  unfold f_X4_pushKids_j41
  refine xg_callV hC (ci := 1) (w_X2_kid hI σ s1 s0 g1 g0) xl_M_X4_94 xl_V_X2_kid (xm_hK (a := 23) (kd := 0) (n := 1) hI rfl).2 ((xm_hK (a := 23) (kd := 0) (n := 1) hI rfl).1 _) (by decide) rfl (by decide) ⟨by decide, by decide⟩ dX4_pushKids_41 (rest := []) rfl rfl (Nat.le_of_ble_eq_true rfl) rfl rfl (st2 := fun o => .int (xm_J o.2) :: []) (fun _ => rfl) (fun o7 k8 => ?_)
  refine xg_istore hC (l' := [(6, .int (xm_J o7.2)), (0, .ref (xm_ad (xx_G X) 29)), (1, .int (xm_J x1)), (2, .int (xm_J x2)), (3, .int (xm_J x3)), (4, .int (xm_J x4)), (5, .int (xm_J x5))]) dX4_pushKids_44 (by decide) rfl ?_
  refine xg_iload_n hC dX4_pushKids_46 rfl ?_
  refine xg_iconst hC dX4_pushKids_47 ?_
  refine xg_icmp_eq hC h2 (xm_inc _ rfl) 76 dX4_pushKids_48 rfl (fun c9 => ?_) (fun c10 => ?_)
  · exact xg_pick [1, 2, 3, 4, 5, 6, 0] rfl (w_X4_pushKids_j76 hC hQ hI hK13 o7.1 x1 x2 x3 x4 x5 o7.2 h1 h2 h3 h4 h5 k8)
  refine xg_aload_n hC dX4_pushKids_51 rfl ?_
  refine xg_getW hC (b := 9) (xm_hK hI rfl) rfl (xm_wK hI rfl) (by decide) xl_F_X4_50 dX4_pushKids_52 ?_
  refine xg_iload hC dX4_pushKids_55 rfl ?_
  refine xg_callV hC (ci := 4) (w_X5_isMale hI o7.1 o7.2 k8) xl_M_X4_72 xl_V_X5_isMale (xm_hK (a := 9) (kd := 0) (n := 4) hI rfl).2 ((xm_hK (a := 9) (kd := 0) (n := 4) hI rfl).1 _) (by decide) rfl (by decide) ⟨by decide, by decide⟩ dX4_pushKids_57 (rest := []) rfl rfl (Nat.le_of_ble_eq_true rfl) rfl rfl (st2 := fun o => .int (xm_J o.2) :: []) (fun _ => rfl) (fun o21 k22 => ?_)
  refine xg_iload_n hC dX4_pushKids_60 rfl ?_
  refine xg_iconst hC dX4_pushKids_61 ?_
  refine xg_icmp_ne hC h2 (xm_inc _ rfl) 69 dX4_pushKids_62 rfl (fun c23 => ?_) (fun c24 => ?_)
  · refine xg_iconst hC dX4_pushKids_65 ?_
    refine xg_goto hC 70 dX4_pushKids_66 rfl ?_
    exact xg_pick [1, 2, 3, 4, 5, 6, 0] rfl (w_X4_pushKids_j70 hC hQ hI hK13 o21.1 (1 : Int) o21.2 x1 x2 x3 x4 x5 o7.2 (by decide) k22 h1 h2 h3 h4 h5 k8)
  refine xg_iconst hC dX4_pushKids_69 ?_
  exact xg_pick [1, 2, 3, 4, 5, 6, 0] rfl (w_X4_pushKids_j70 hC hQ hI hK13 o21.1 (0 : Int) o21.2 x1 x2 x3 x4 x5 o7.2 (by decide) k22 h1 h2 h3 h4 h5 k8)
theorem w_X4_pushKids_b13 {X : xm_X} (hC : xm_C X yX4_pushKids.cls cX4_pushKids 7 2 0 0) (hQ : xm_Rt X 0 none 0 0) (hI : xx_I X = xm_I)   {self : xm_Mem → Int → Int → Int → Int → Int → Option xm_Out} (hself : ∀ (σ : xm_Mem) (x1 : Int) (x2 : Int) (x3 : Int) (x4 : Int) (x5 : Int), xm_in x1 → xm_in x2 → 0 ≤ x3 ∧ x3 ≤ 1 → xm_in x4 → xm_in x5 → xm_V X 0 0 (self σ x1 x2 x3 x4 x5) σ 13 [(0, .ref (xm_ad (xx_G X) 29)), (1, .int (xm_J x1)), (2, .int (xm_J x2)), (3, .int (xm_J x3)), (4, .int (xm_J x4)), (5, .int (xm_J x5))] []) (σ : xm_Mem) (x1 : Int) (x2 : Int) (x3 : Int) (x4 : Int) (x5 : Int) (h1 : xm_in x1) (h2 : xm_in x2) (h3 : 0 ≤ x3 ∧ x3 ≤ 1) (h4 : xm_in x4) (h5 : xm_in x5) : xm_V X 0 0 (f_X4_pushKids_b13  self σ x1 x2 x3 x4 x5) σ 13 [(0, .ref (xm_ad (xx_G X) 29)), (1, .int (xm_J x1)), (2, .int (xm_J x2)), (3, .int (xm_J x3)), (4, .int (xm_J x4)), (5, .int (xm_J x5))] [] := by
  unfold f_X4_pushKids_b13
  refine xg_iload hC dX4_pushKids_13 rfl ?_
  refine xg_iload hC dX4_pushKids_15 rfl ?_
  refine xg_icmp_ge hC h5 h4 118 dX4_pushKids_17 rfl (fun c3 => ?_) (fun c4 => ?_)
  · refine xg_aload_n hC dX4_pushKids_20 rfl ?_
    refine xg_getW hC (b := 23) (xm_hK hI rfl) rfl (xm_wK hI rfl) (by decide) xl_F_X4_54 dX4_pushKids_21 ?_
    refine xg_iload_n hC dX4_pushKids_24 rfl ?_
    refine xg_iload_n hC dX4_pushKids_25 rfl ?_
    refine xg_if_eq hC (xm_in01 h3) 34 dX4_pushKids_26 rfl (fun c5 => ?_) (fun c6 => ?_)
    · refine xg_iload hC dX4_pushKids_34 rfl ?_
      refine xg_iconst hC dX4_pushKids_36 ?_
      refine xg_isub hC dX4_pushKids_37 ?_
      refine xg_iload hC dX4_pushKids_38 rfl ?_
      refine xg_isub hC dX4_pushKids_40 ?_
      exact (w_X4_pushKids_j41 hC hQ hI hself σ (xm_w ((xm_w (x4 - (1 : Int))) - x5)) x1 x1 x2 x3 x4 x5 (xm_w_in _) h1 h1 h2 h3 h4 h5)
    refine xg_iload hC dX4_pushKids_29 rfl ?_
    refine xg_goto hC 41 dX4_pushKids_31 rfl ?_
    exact (w_X4_pushKids_j41 hC hQ hI hself σ x5 x1 x1 x2 x3 x4 x5 h5 h1 h1 h2 h3 h4 h5)
  exact xg_vret hC hQ dX4_pushKids_118
theorem w_X4_pushKids_l13 {X : xm_X} (hC : xm_C X yX4_pushKids.cls cX4_pushKids 7 2 0 0) (hQ : xm_Rt X 0 none 0 0) (hI : xx_I X = xm_I)   (n : Nat) : ∀ (σ : xm_Mem) (x1 : Int) (x2 : Int) (x3 : Int) (x4 : Int) (x5 : Int), xm_in x1 → xm_in x2 → 0 ≤ x3 ∧ x3 ≤ 1 → xm_in x4 → xm_in x5 → xm_V X 0 0 (f_X4_pushKids_l13  n σ x1 x2 x3 x4 x5) σ 13 [(0, .ref (xm_ad (xx_G X) 29)), (1, .int (xm_J x1)), (2, .int (xm_J x2)), (3, .int (xm_J x3)), (4, .int (xm_J x4)), (5, .int (xm_J x5))] [] := by
  induction n with
  | zero => intro σ x1 x2 x3 x4 x5 h1 h2 h3 h4 h5; exact xg_none
  | succ n ih => intro σ x1 x2 x3 x4 x5 h1 h2 h3 h4 h5; exact w_X4_pushKids_b13 hC hQ hI ih σ x1 x2 x3 x4 x5 h1 h2 h3 h4 h5
theorem w_X4_pushKids {Γ : xm_Gm} {I : xm_Mem → Prop} {la : Launch} (hE : I = xm_I) (σ : xm_Mem) (x1 : Int) (x2 : Int) (x3 : Int) (h1 : xm_in x1) (h2 : xm_in x2) (h3 : 0 ≤ x3 ∧ x3 ≤ 1) : ∀ o, f_X4_pushKids σ x1 x2 x3 = some o → xm_M Γ I la yX4_pushKids cX4_pushKids 7 none 2 0 0 [.ref (xm_ad Γ 29), .int (xm_J x1), .int (xm_J x2), .int (xm_J x3)] σ 0 o := by
  refine xg_enter (by decide) (by simp [lg_sl, xm_rf_cat, xm_cati, xm_catr, xm_catl]) (fun X hG hI0 hla hC hQ hname => ?_)
  subst hG
  have hI := hI0.trans hE
  clear hI0 hla
  unfold f_X4_pushKids
  refine xg_pick [0, 1, 2, 3] (l' := [(0, .ref (xm_ad (xx_G X) 29)), (1, .int (xm_J x1)), (2, .int (xm_J x2)), (3, .int (xm_J x3))]) rfl ?_
  refine xg_aload_n hC dX4_pushKids_0 rfl ?_
  refine xg_getW hC (b := 23) (xm_hK hI rfl) rfl (xm_wK hI rfl) (by decide) xl_F_X4_54 dX4_pushKids_1 ?_
  refine xg_iload_n hC dX4_pushKids_4 rfl ?_
  refine xg_callV hC (ci := 1) (w_X2_kidCount hI σ x1 h1) xl_M_X4_91 xl_V_X2_kidCount (xm_hK (a := 23) (kd := 0) (n := 1) hI rfl).2 ((xm_hK (a := 23) (kd := 0) (n := 1) hI rfl).1 _) (by decide) rfl (by decide) ⟨by decide, by decide⟩ dX4_pushKids_5 (rest := []) rfl rfl (Nat.le_of_ble_eq_true rfl) rfl rfl (st2 := fun o => .int (xm_J o.2) :: []) (fun _ => rfl) (fun o1 k2 => ?_)
  refine xg_istore hC (l' := [(4, .int (xm_J o1.2)), (0, .ref (xm_ad (xx_G X) 29)), (1, .int (xm_J x1)), (2, .int (xm_J x2)), (3, .int (xm_J x3))]) dX4_pushKids_8 (by decide) rfl ?_
  refine xg_iconst hC dX4_pushKids_10 ?_
  refine xg_istore hC (l' := [(5, .int (xm_J (0 : Int))), (4, .int (xm_J o1.2)), (0, .ref (xm_ad (xx_G X) 29)), (1, .int (xm_J x1)), (2, .int (xm_J x2)), (3, .int (xm_J x3))]) dX4_pushKids_11 (by decide) rfl ?_
  exact xg_pick [2, 3, 4, 5, 1, 0] rfl (w_X4_pushKids_l13 hC hQ hI _ o1.1 x1 x2 x3 o1.2 (0 : Int) h1 h2 h3 k2 (xm_inc _ rfl))
theorem w_X4_orderByBranches_j121 {X : xm_X} (hC : xm_C X yX4_orderByBranches.cls cX4_orderByBranches 7 3 0 0) (hQ : xm_Rt X 0 none 0 0) (hI : xx_I X = xm_I) {K25 : xm_Mem → Int → Int64 → Int → Option xm_Out} (hK25 : ∀ (σ : xm_Mem) (x1 : Int) (x3 : Int64) (x5 : Int), xm_in x1 → xm_in x5 → xm_V X 0 0 (K25 σ x1 x3 x5) σ 25 [(0, .ref (xm_ad (xx_G X) 29)), (1, .int (xm_J x1)), (3, .long x3), (5, .int (xm_J x5))] []) (σ : xm_Mem) (x1 : Int) (x3 : Int64) (x5 : Int) (x6 : Int) (h1 : xm_in x1) (h5 : xm_in x5) (h6 : xm_in x6) : xm_V X 0 0 (f_X4_orderByBranches_j121 K25 σ x1 x3 x5 x6) σ 121 [(0, .ref (xm_ad (xx_G X) 29)), (1, .int (xm_J x1)), (3, .long x3), (5, .int (xm_J x5)), (6, .int (xm_J x6))] [] := by
  unfold f_X4_orderByBranches_j121
  refine xg_aload_n hC dX4_orderByBranches_121 rfl ?_
  refine xg_iload hC dX4_orderByBranches_122 rfl ?_
  refine xg_iconst hC dX4_orderByBranches_124 ?_
  refine xg_iload_n hC dX4_orderByBranches_125 rfl ?_
  refine xg_iconst hC dX4_orderByBranches_126 ?_
  refine xg_icmp_ne hC h1 (xm_inc _ rfl) 134 dX4_orderByBranches_127 rfl (fun c34 => ?_) (fun c35 => ?_)
  · refine xg_iconst hC dX4_orderByBranches_130 ?_
    refine xg_goto hC 135 dX4_orderByBranches_131 rfl ?_
    refine xg_callV hC (ci := 3) (w_X4_pushKids hI σ x6 (2 : Int) (1 : Int) h6 (xm_inc _ rfl) (by decide)) xl_M_X4_98 xl_V_X4_pushKids (xm_hK (a := 29) (kd := 0) (n := 3) hI rfl).2 ((xm_hK (a := 29) (kd := 0) (n := 3) hI rfl).1 _) (by decide) rfl (by decide) ⟨by decide, by decide⟩ dX4_orderByBranches_135 (rest := []) rfl rfl (Nat.le_of_ble_eq_true rfl) rfl rfl (st2 := fun o => []) (fun _ => rfl) (fun o36 k37 => ?_)
    refine xg_goto hC 177 dX4_orderByBranches_138 rfl ?_
    refine xg_iinc hC (l' := [(5, .int (xm_J (xm_w (x5 + 1)))), (0, .ref (xm_ad (xx_G X) 29)), (1, .int (xm_J x1)), (3, .long x3), (6, .int (xm_J x6))]) dX4_orderByBranches_177 (by decide) 3 rfl rfl ?_
    refine xg_goto hC 25 dX4_orderByBranches_180 rfl ?_
    exact xg_pick [1, 2, 3, 0] rfl (hK25 o36.1 x1 x3 (xm_w (x5 + 1)) h1 (xm_w_in _))
  refine xg_iconst hC dX4_orderByBranches_134 ?_
  refine xg_callV hC (ci := 3) (w_X4_pushKids hI σ x6 (2 : Int) (0 : Int) h6 (xm_inc _ rfl) (by decide)) xl_M_X4_98 xl_V_X4_pushKids (xm_hK (a := 29) (kd := 0) (n := 3) hI rfl).2 ((xm_hK (a := 29) (kd := 0) (n := 3) hI rfl).1 _) (by decide) rfl (by decide) ⟨by decide, by decide⟩ dX4_orderByBranches_135 (rest := []) rfl rfl (Nat.le_of_ble_eq_true rfl) rfl rfl (st2 := fun o => []) (fun _ => rfl) (fun o38 k39 => ?_)
  refine xg_goto hC 177 dX4_orderByBranches_138 rfl ?_
  refine xg_iinc hC (l' := [(5, .int (xm_J (xm_w (x5 + 1)))), (0, .ref (xm_ad (xx_G X) 29)), (1, .int (xm_J x1)), (3, .long x3), (6, .int (xm_J x6))]) dX4_orderByBranches_177 (by decide) 3 rfl rfl ?_
  refine xg_goto hC 25 dX4_orderByBranches_180 rfl ?_
  exact xg_pick [1, 2, 3, 0] rfl (hK25 o38.1 x1 x3 (xm_w (x5 + 1)) h1 (xm_w_in _))
theorem w_X4_orderByBranches_j169 {X : xm_X} (hC : xm_C X yX4_orderByBranches.cls cX4_orderByBranches 7 3 0 0) (hQ : xm_Rt X 0 none 0 0) (hI : xx_I X = xm_I) {K25 : xm_Mem → Int → Int64 → Int → Option xm_Out} (hK25 : ∀ (σ : xm_Mem) (x1 : Int) (x3 : Int64) (x5 : Int), xm_in x1 → xm_in x5 → xm_V X 0 0 (K25 σ x1 x3 x5) σ 25 [(0, .ref (xm_ad (xx_G X) 29)), (1, .int (xm_J x1)), (3, .long x3), (5, .int (xm_J x5))] []) (σ : xm_Mem) (x1 : Int) (x3 : Int64) (x5 : Int) (x6 : Int) (h1 : xm_in x1) (h5 : xm_in x5) (h6 : xm_in x6) : xm_V X 0 0 (f_X4_orderByBranches_j169 K25 σ x1 x3 x5 x6) σ 169 [(0, .ref (xm_ad (xx_G X) 29)), (1, .int (xm_J x1)), (3, .long x3), (5, .int (xm_J x5)), (6, .int (xm_J x6))] [] := by
  unfold f_X4_orderByBranches_j169
  refine xg_aload_n hC dX4_orderByBranches_169 rfl ?_
  refine xg_iload hC dX4_orderByBranches_170 rfl ?_
  refine xg_iconst hC dX4_orderByBranches_172 ?_
  refine xg_iconst hC dX4_orderByBranches_173 ?_
  refine xg_callV hC (ci := 3) (w_X4_pushKids hI σ x6 (1 : Int) (0 : Int) h6 (xm_inc _ rfl) (by decide)) xl_M_X4_98 xl_V_X4_pushKids (xm_hK (a := 29) (kd := 0) (n := 3) hI rfl).2 ((xm_hK (a := 29) (kd := 0) (n := 3) hI rfl).1 _) (by decide) rfl (by decide) ⟨by decide, by decide⟩ dX4_orderByBranches_174 (rest := []) rfl rfl (Nat.le_of_ble_eq_true rfl) rfl rfl (st2 := fun o => []) (fun _ => rfl) (fun o50 k51 => ?_)
  refine xg_iinc hC (l' := [(5, .int (xm_J (xm_w (x5 + 1)))), (0, .ref (xm_ad (xx_G X) 29)), (1, .int (xm_J x1)), (3, .long x3), (6, .int (xm_J x6))]) dX4_orderByBranches_177 (by decide) 3 rfl rfl ?_
  refine xg_goto hC 25 dX4_orderByBranches_180 rfl ?_
  exact xg_pick [1, 2, 3, 0] rfl (hK25 o50.1 x1 x3 (xm_w (x5 + 1)) h1 (xm_w_in _))
theorem w_X4_orderByBranches_j153 {X : xm_X} (hC : xm_C X yX4_orderByBranches.cls cX4_orderByBranches 7 3 0 0) (hQ : xm_Rt X 0 none 0 0) (hI : xx_I X = xm_I) {K25 : xm_Mem → Int → Int64 → Int → Option xm_Out} (hK25 : ∀ (σ : xm_Mem) (x1 : Int) (x3 : Int64) (x5 : Int), xm_in x1 → xm_in x5 → xm_V X 0 0 (K25 σ x1 x3 x5) σ 25 [(0, .ref (xm_ad (xx_G X) 29)), (1, .int (xm_J x1)), (3, .long x3), (5, .int (xm_J x5))] []) (σ : xm_Mem) (x1 : Int) (x3 : Int64) (x5 : Int) (x6 : Int) (h1 : xm_in x1) (h5 : xm_in x5) (h6 : xm_in x6) : xm_V X 0 0 (f_X4_orderByBranches_j153 K25 σ x1 x3 x5 x6) σ 153 [(0, .ref (xm_ad (xx_G X) 29)), (1, .int (xm_J x1)), (3, .long x3), (5, .int (xm_J x5)), (6, .int (xm_J x6))] [] := by
  unfold f_X4_orderByBranches_j153
  refine xg_iload_n hC dX4_orderByBranches_153 rfl ?_
  refine xg_if_ne hC h1 169 dX4_orderByBranches_154 rfl (fun c44 => ?_) (fun c45 => ?_)
  · refine xg_aload_n hC dX4_orderByBranches_157 rfl ?_
    refine xg_getW hC (b := 9) (xm_hK hI rfl) rfl (xm_wK hI rfl) (by decide) xl_F_X4_50 dX4_orderByBranches_158 ?_
    refine xg_iload hC dX4_orderByBranches_161 rfl ?_
    refine xg_callV hC (ci := 4) (w_X5_isMale hI σ x6 h6) xl_M_X4_72 xl_V_X5_isMale (xm_hK (a := 9) (kd := 0) (n := 4) hI rfl).2 ((xm_hK (a := 9) (kd := 0) (n := 4) hI rfl).1 _) (by decide) rfl (by decide) ⟨by decide, by decide⟩ dX4_orderByBranches_163 (rest := []) rfl rfl (Nat.le_of_ble_eq_true rfl) rfl rfl (st2 := fun o => .int (xm_J o.2) :: []) (fun _ => rfl) (fun o46 k47 => ?_)
    refine xg_if_eq hC (xm_in01 k47) 177 dX4_orderByBranches_166 rfl (fun c48 => ?_) (fun c49 => ?_)
    · refine xg_iinc hC (l' := [(5, .int (xm_J (xm_w (x5 + 1)))), (0, .ref (xm_ad (xx_G X) 29)), (1, .int (xm_J x1)), (3, .long x3), (6, .int (xm_J x6))]) dX4_orderByBranches_177 (by decide) 3 rfl rfl ?_
      refine xg_goto hC 25 dX4_orderByBranches_180 rfl ?_
      exact xg_pick [1, 2, 3, 0] rfl (hK25 o46.1 x1 x3 (xm_w (x5 + 1)) h1 (xm_w_in _))
    exact (w_X4_orderByBranches_j169 hC hQ hI hK25 o46.1 x1 x3 x5 x6 h1 h5 h6)
  exact (w_X4_orderByBranches_j169 hC hQ hI hK25 σ x1 x3 x5 x6 h1 h5 h6)
theorem w_X4_orderByBranches_b25 {X : xm_X} (hC : xm_C X yX4_orderByBranches.cls cX4_orderByBranches 7 3 0 0) (hQ : xm_Rt X 0 none 0 0) (hI : xx_I X = xm_I)   {self : xm_Mem → Int → Int64 → Int → Option xm_Out} (hself : ∀ (σ : xm_Mem) (x1 : Int) (x3 : Int64) (x5 : Int), xm_in x1 → xm_in x5 → xm_V X 0 0 (self σ x1 x3 x5) σ 25 [(0, .ref (xm_ad (xx_G X) 29)), (1, .int (xm_J x1)), (3, .long x3), (5, .int (xm_J x5))] []) (σ : xm_Mem) (x1 : Int) (x3 : Int64) (x5 : Int) (h1 : xm_in x1) (h5 : xm_in x5) : xm_V X 0 0 (f_X4_orderByBranches_b25  self σ x1 x3 x5) σ 25 [(0, .ref (xm_ad (xx_G X) 29)), (1, .int (xm_J x1)), (3, .long x3), (5, .int (xm_J x5))] [] := by
  unfold f_X4_orderByBranches_b25
  refine xg_iload hC dX4_orderByBranches_25 rfl ?_
  refine xg_aload_n hC dX4_orderByBranches_27 rfl ?_
  refine xg_getW hC (b := 31) (xm_hK hI rfl) rfl (xm_wK hI rfl) (by decide) xl_F_X4_25 dX4_orderByBranches_28 ?_
  refine xg_alen hC (kd := 1) (n := 129) (xm_hK hI rfl) (by decide) rfl dX4_orderByBranches_31 ?_
  refine xg_icmp_ge hC h5 (xm_inc _ rfl) 183 dX4_orderByBranches_32 rfl (fun c7 => ?_) (fun c8 => ?_)
  · refine xg_aload_n hC dX4_orderByBranches_35 rfl ?_
    refine xg_getI hC (xm_hK hI rfl) rfl xl_F_X4_28 dX4_orderByBranches_36 (fun k9 => ?_)
    refine xg_if_le hC k9 183 dX4_orderByBranches_39 rfl (fun c10 => ?_) (fun c11 => ?_)
    · refine xg_aload_n hC dX4_orderByBranches_42 rfl ?_
      refine xg_dup hC dX4_orderByBranches_43 rfl ?_
      refine xg_getI hC (xm_hK hI rfl) rfl xl_F_X4_28 dX4_orderByBranches_44 (fun k12 => ?_)
      refine xg_iconst hC dX4_orderByBranches_47 ?_
      refine xg_isub hC dX4_orderByBranches_48 ?_
      refine xg_putI hC (xm_hK hI rfl) rfl rfl (xm_w_in _) (xm_kpK hI rfl) xl_F_X4_28 dX4_orderByBranches_49 ?_
      refine xg_st (fun σ13 => ?_)
      refine xg_aload_n hC dX4_orderByBranches_52 rfl ?_
      refine xg_getW hC (b := 31) (xm_hK hI rfl) rfl (xm_wK hI rfl) (by decide) xl_F_X4_25 dX4_orderByBranches_53 ?_
      refine xg_aload_n hC dX4_orderByBranches_56 rfl ?_
      refine xg_getI hC (xm_hK hI rfl) rfl xl_F_X4_28 dX4_orderByBranches_57 (fun k14 => ?_)
      refine xg_vI k14 (fun v15 k16 => ?_)
      refine xg_iald hC (xm_hK hI rfl) rfl k16 dX4_orderByBranches_60 (fun b17 k18 => ?_)
      refine xg_vI k18 (fun v19 k20 => ?_)
      refine xg_istore hC (l' := [(6, .int (xm_J v19)), (0, .ref (xm_ad (xx_G X) 29)), (1, .int (xm_J x1)), (3, .long x3), (5, .int (xm_J x5))]) dX4_orderByBranches_61 (by decide) rfl ?_
      refine xg_lload_n hC dX4_orderByBranches_63 rfl ?_
      refine xg_lconst hC dX4_orderByBranches_64 (v := 1) rfl ?_
      refine xg_iload hC dX4_orderByBranches_65 rfl ?_
      refine xg_lshl hC dX4_orderByBranches_67 ?_
      refine xg_land hC dX4_orderByBranches_68 ?_
      refine xg_lconst hC dX4_orderByBranches_69 (v := 0) rfl ?_
      refine xg_lcmp hC dX4_orderByBranches_70 ?_
      refine xg_if_ne hC (xm_lc_in _ _) 177 dX4_orderByBranches_71 rfl (fun c21 => ?_) (fun c22 => ?_)
      · refine xg_aload_n hC dX4_orderByBranches_74 rfl ?_
        refine xg_getI hC (xm_hK hI rfl) rfl xl_F_X4_15 dX4_orderByBranches_75 (fun k23 => ?_)
        refine xg_bipush hC dX4_orderByBranches_78 (by decide) ?_
        refine xg_icmp_lt hC k23 (xm_inc _ rfl) 86 dX4_orderByBranches_80 rfl (fun c24 => ?_) (fun c25 => ?_)
        · refine xg_lload_n hC dX4_orderByBranches_86 rfl ?_
          refine xg_lconst hC dX4_orderByBranches_87 (v := 1) rfl ?_
          refine xg_iload hC dX4_orderByBranches_88 rfl ?_
          refine xg_lshl hC dX4_orderByBranches_90 ?_
          refine xg_lor hC dX4_orderByBranches_91 ?_
          refine xg_vJ (fun v26 => ?_)
          refine xg_lstore_n hC (l' := [(3, .long v26), (6, .int (xm_J v19)), (0, .ref (xm_ad (xx_G X) 29)), (1, .int (xm_J x1)), (5, .int (xm_J x5))]) dX4_orderByBranches_92 (by decide) rfl ?_
          refine xg_aload_n hC dX4_orderByBranches_93 rfl ?_
          refine xg_getW hC (b := 30) (xm_hK hI rfl) rfl (xm_wK hI rfl) (by decide) xl_F_X4_9 dX4_orderByBranches_94 ?_
          refine xg_aload_n hC dX4_orderByBranches_97 rfl ?_
          refine xg_dup hC dX4_orderByBranches_98 rfl ?_
          refine xg_getI hC (xm_hK hI rfl) rfl xl_F_X4_15 dX4_orderByBranches_99 (fun k27 => ?_)
          refine xg_vI k27 (fun v28 k29 => ?_)
          refine xg_dup_x1 hC dX4_orderByBranches_102 rfl rfl ?_
          refine xg_iconst hC dX4_orderByBranches_103 ?_
          refine xg_iadd hC dX4_orderByBranches_104 ?_
          refine xg_putI hC (xm_hK hI rfl) rfl rfl (xm_w_in _) (xm_kpK hI rfl) xl_F_X4_15 dX4_orderByBranches_105 ?_
          refine xg_st (fun σ30 => ?_)
          refine xg_iload hC dX4_orderByBranches_108 rfl ?_
          refine xg_iast hC (xm_hK hI rfl) rfl k29 k20 (xm_kpF hI rfl) dX4_orderByBranches_110 ?_
          refine xg_st (fun σ31 => ?_)
          refine xg_iload_n hC dX4_orderByBranches_111 rfl ?_
          refine xg_iconst hC dX4_orderByBranches_112 ?_
          refine xg_icmp_eq hC h1 (xm_inc _ rfl) 121 dX4_orderByBranches_113 rfl (fun c32 => ?_) (fun c33 => ?_)
          · exact xg_pick [2, 3, 0, 4, 1] rfl (w_X4_orderByBranches_j121 hC hQ hI hself σ31 x1 v26 x5 v19 h1 h5 k20)
          refine xg_iload_n hC dX4_orderByBranches_116 rfl ?_
          refine xg_iconst hC dX4_orderByBranches_117 ?_
          refine xg_icmp_ne hC h1 (xm_inc _ rfl) 141 dX4_orderByBranches_118 rfl (fun c40 => ?_) (fun c41 => ?_)
          · exact xg_pick [2, 3, 0, 4, 1] rfl (w_X4_orderByBranches_j121 hC hQ hI hself σ31 x1 v26 x5 v19 h1 h5 k20)
          refine xg_iload_n hC dX4_orderByBranches_141 rfl ?_
          refine xg_if_eq hC h1 153 dX4_orderByBranches_142 rfl (fun c42 => ?_) (fun c43 => ?_)
          · exact xg_pick [2, 3, 0, 4, 1] rfl (w_X4_orderByBranches_j153 hC hQ hI hself σ31 x1 v26 x5 v19 h1 h5 k20)
          refine xg_aload_n hC dX4_orderByBranches_145 rfl ?_
          refine xg_iload hC dX4_orderByBranches_146 rfl ?_
          refine xg_iconst hC dX4_orderByBranches_148 ?_
          refine xg_iconst hC dX4_orderByBranches_149 ?_
          refine xg_callV hC (ci := 3) (w_X4_pushKids hI σ31 v19 (0 : Int) (0 : Int) k20 (xm_inc _ rfl) (by decide)) xl_M_X4_98 xl_V_X4_pushKids (xm_hK (a := 29) (kd := 0) (n := 3) hI rfl).2 ((xm_hK (a := 29) (kd := 0) (n := 3) hI rfl).1 _) (by decide) rfl (by decide) ⟨by decide, by decide⟩ dX4_orderByBranches_150 (rest := []) rfl rfl (Nat.le_of_ble_eq_true rfl) rfl rfl (st2 := fun o => []) (fun _ => rfl) (fun o52 k53 => ?_)
          exact xg_pick [2, 3, 0, 4, 1] rfl (w_X4_orderByBranches_j153 hC hQ hI hself o52.1 x1 v26 x5 v19 h1 h5 k20)
        refine xg_goto hC 177 dX4_orderByBranches_83 rfl ?_
        refine xg_iinc hC (l' := [(5, .int (xm_J (xm_w (x5 + 1)))), (6, .int (xm_J v19)), (0, .ref (xm_ad (xx_G X) 29)), (1, .int (xm_J x1)), (3, .long x3)]) dX4_orderByBranches_177 (by decide) 4 rfl rfl ?_
        refine xg_goto hC 25 dX4_orderByBranches_180 rfl ?_
        exact xg_pick [2, 3, 4, 0] rfl (hself σ13 x1 x3 (xm_w (x5 + 1)) h1 (xm_w_in _))
      refine xg_iinc hC (l' := [(5, .int (xm_J (xm_w (x5 + 1)))), (6, .int (xm_J v19)), (0, .ref (xm_ad (xx_G X) 29)), (1, .int (xm_J x1)), (3, .long x3)]) dX4_orderByBranches_177 (by decide) 4 rfl rfl ?_
      refine xg_goto hC 25 dX4_orderByBranches_180 rfl ?_
      exact xg_pick [2, 3, 4, 0] rfl (hself σ13 x1 x3 (xm_w (x5 + 1)) h1 (xm_w_in _))
    exact xg_vret hC hQ dX4_orderByBranches_183
  exact xg_vret hC hQ dX4_orderByBranches_183
theorem w_X4_orderByBranches_l25 {X : xm_X} (hC : xm_C X yX4_orderByBranches.cls cX4_orderByBranches 7 3 0 0) (hQ : xm_Rt X 0 none 0 0) (hI : xx_I X = xm_I)   (n : Nat) : ∀ (σ : xm_Mem) (x1 : Int) (x3 : Int64) (x5 : Int), xm_in x1 → xm_in x5 → xm_V X 0 0 (f_X4_orderByBranches_l25  n σ x1 x3 x5) σ 25 [(0, .ref (xm_ad (xx_G X) 29)), (1, .int (xm_J x1)), (3, .long x3), (5, .int (xm_J x5))] [] := by
  induction n with
  | zero => intro σ x1 x3 x5 h1 h5; exact xg_none
  | succ n ih => intro σ x1 x3 x5 h1 h5; exact w_X4_orderByBranches_b25 hC hQ hI ih σ x1 x3 x5 h1 h5
theorem w_X4_orderByBranches {Γ : xm_Gm} {I : xm_Mem → Prop} {la : Launch} (hE : I = xm_I) (σ : xm_Mem) (x1 : Int) (x2 : Int) (h1 : xm_in x1) (h2 : xm_in x2) : ∀ o, f_X4_orderByBranches σ x1 x2 = some o → xm_M Γ I la yX4_orderByBranches cX4_orderByBranches 7 none 3 0 0 [.ref (xm_ad Γ 29), .int (xm_J x1), .int (xm_J x2)] σ 0 o := by
  refine xg_enter (by decide) (by simp [lg_sl, xm_rf_cat, xm_cati, xm_catr, xm_catl]) (fun X hG hI0 hla hC hQ hname => ?_)
  subst hG
  have hI := hI0.trans hE
  clear hI0 hla
  unfold f_X4_orderByBranches
  refine xg_pick [0, 1, 2] (l' := [(0, .ref (xm_ad (xx_G X) 29)), (1, .int (xm_J x1)), (2, .int (xm_J x2))]) rfl ?_
  refine xg_iload_n hC dX4_orderByBranches_0 rfl ?_
  refine xg_callSN hC (w_X10_isPersonNumber hI σ x2 h2) xl_N_X4_76 xl_S_X10_isPersonNumber (by decide) ⟨by decide, by decide⟩ dX4_orderByBranches_1 (rest := []) rfl rfl (Nat.le_of_ble_eq_true rfl) rfl rfl (st2 := fun o => .int (xm_J o.2) :: []) (fun _ => rfl) (fun o1 k2 => ?_)
  refine xg_if_ne hC (xm_in01 k2) 8 dX4_orderByBranches_4 rfl (fun c3 => ?_) (fun c4 => ?_)
  · exact xg_vret hC hQ dX4_orderByBranches_7
  refine xg_lconst hC dX4_orderByBranches_8 (v := 0) rfl ?_
  refine xg_lstore_n hC (l' := [(3, .long (0 : Int64)), (0, .ref (xm_ad (xx_G X) 29)), (1, .int (xm_J x1)), (2, .int (xm_J x2))]) dX4_orderByBranches_9 (by decide) rfl ?_
  refine xg_aload_n hC dX4_orderByBranches_10 rfl ?_
  refine xg_getW hC (b := 31) (xm_hK hI rfl) rfl (xm_wK hI rfl) (by decide) xl_F_X4_25 dX4_orderByBranches_11 ?_
  refine xg_iconst hC dX4_orderByBranches_14 ?_
  refine xg_iload_n hC dX4_orderByBranches_15 rfl ?_
  refine xg_iast hC (xm_hK hI rfl) rfl (xm_inc _ rfl) h2 (xm_kpF hI rfl) dX4_orderByBranches_16 ?_
  refine xg_st (fun σ5 => ?_)
  refine xg_aload_n hC dX4_orderByBranches_17 rfl ?_
  refine xg_iconst hC dX4_orderByBranches_18 ?_
  refine xg_putI hC (xm_hK hI rfl) rfl rfl (xm_inc _ rfl) (xm_kpK hI rfl) xl_F_X4_28 dX4_orderByBranches_19 ?_
  refine xg_st (fun σ6 => ?_)
  refine xg_iconst hC dX4_orderByBranches_22 ?_
  refine xg_istore hC (l' := [(5, .int (xm_J (0 : Int))), (3, .long (0 : Int64)), (0, .ref (xm_ad (xx_G X) 29)), (1, .int (xm_J x1)), (2, .int (xm_J x2))]) dX4_orderByBranches_23 (by decide) rfl ?_
  exact xg_pick [2, 3, 1, 0] rfl (w_X4_orderByBranches_l25 hC hQ hI _ σ6 x1 (0 : Int64) (0 : Int) h1 (xm_inc _ rfl))
theorem w_X5_isAlive {Γ : xm_Gm} {I : xm_Mem → Prop} {la : Launch} (hE : I = xm_I) (σ : xm_Mem) (x1 : Int) (x2 : Int) (h1 : xm_in x1) (h2 : xm_in x2) : ∀ o, f_X5_isAlive σ x1 x2 = some o → xm_M Γ I la yX5_isAlive cX5_isAlive 3 (some .boolean) 2 0 0 [.ref (xm_ad Γ 9), .int (xm_J x1), .int (xm_J x2)] σ 2 o := by
  refine xg_enter (by decide) (by simp [lg_sl, xm_rf_cat, xm_cati, xm_catr, xm_catl]) (fun X hG hI0 hla hC hQ hname => ?_)
  subst hG
  have hI := hI0.trans hE
  clear hI0 hla
  unfold f_X5_isAlive
  refine xg_pick [0, 1, 2] (l' := [(0, .ref (xm_ad (xx_G X) 9)), (1, .int (xm_J x1)), (2, .int (xm_J x2))]) rfl ?_
  refine xg_aload_n hC dX5_isAlive_0 rfl ?_
  refine xg_iload_n hC dX5_isAlive_1 rfl ?_
  refine xg_callV hC (ci := 4) (w_X5_has hI σ x1 h1) xl_M_X5_80 xl_V_X5_has (xm_hK (a := 9) (kd := 0) (n := 4) hI rfl).2 ((xm_hK (a := 9) (kd := 0) (n := 4) hI rfl).1 _) (by decide) rfl (by decide) ⟨by decide, by decide⟩ dX5_isAlive_2 (rest := []) rfl rfl (Nat.le_of_ble_eq_true rfl) rfl rfl (st2 := fun o => .int (xm_J o.2) :: []) (fun _ => rfl) (fun o1 k2 => ?_)
  refine xg_if_eq hC (xm_in01 k2) 42 dX5_isAlive_5 rfl (fun c3 => ?_) (fun c4 => ?_)
  · refine xg_iconst hC dX5_isAlive_42 ?_
    exact xg_zret hC hQ (by decide) dX5_isAlive_43
  refine xg_aload_n hC dX5_isAlive_8 rfl ?_
  refine xg_getW hC (b := 12) (xm_hK hI rfl) rfl (xm_wK hI rfl) (by decide) xl_F_X5_18 dX5_isAlive_9 ?_
  refine xg_iload_n hC dX5_isAlive_12 rfl ?_
  refine xg_iald hC (xm_hK hI rfl) rfl h1 dX5_isAlive_13 (fun b5 k6 => ?_)
  refine xg_iload_n hC dX5_isAlive_14 rfl ?_
  refine xg_icmp_gt hC k6 h2 42 dX5_isAlive_15 rfl (fun c7 => ?_) (fun c8 => ?_)
  · refine xg_iconst hC dX5_isAlive_42 ?_
    exact xg_zret hC hQ (by decide) dX5_isAlive_43
  refine xg_aload_n hC dX5_isAlive_18 rfl ?_
  refine xg_getW hC (b := 13) (xm_hK hI rfl) rfl (xm_wK hI rfl) (by decide) xl_F_X5_22 dX5_isAlive_19 ?_
  refine xg_iload_n hC dX5_isAlive_22 rfl ?_
  refine xg_iald hC (xm_hK hI rfl) rfl h1 dX5_isAlive_23 (fun b9 k10 => ?_)
  refine xg_iconst hC dX5_isAlive_24 ?_
  refine xg_icmp_eq hC k10 (xm_inc _ rfl) 38 dX5_isAlive_25 rfl (fun c11 => ?_) (fun c12 => ?_)
  · refine xg_iconst hC dX5_isAlive_38 ?_
    refine xg_goto hC 43 dX5_isAlive_39 rfl ?_
    exact xg_zret hC hQ (by decide) dX5_isAlive_43
  refine xg_aload_n hC dX5_isAlive_28 rfl ?_
  refine xg_getW hC (b := 13) (xm_hK hI rfl) rfl (xm_wK hI rfl) (by decide) xl_F_X5_22 dX5_isAlive_29 ?_
  refine xg_iload_n hC dX5_isAlive_32 rfl ?_
  refine xg_iald hC (xm_hK hI rfl) rfl h1 dX5_isAlive_33 (fun b13 k14 => ?_)
  refine xg_iload_n hC dX5_isAlive_34 rfl ?_
  refine xg_icmp_le hC k14 h2 42 dX5_isAlive_35 rfl (fun c15 => ?_) (fun c16 => ?_)
  · refine xg_iconst hC dX5_isAlive_38 ?_
    refine xg_goto hC 43 dX5_isAlive_39 rfl ?_
    exact xg_zret hC hQ (by decide) dX5_isAlive_43
  refine xg_iconst hC dX5_isAlive_42 ?_
  exact xg_zret hC hQ (by decide) dX5_isAlive_43
theorem w_X4_fill_j142 {X : xm_X} (hC : xm_C X yX4_fill.cls cX4_fill 7 4 0 0) (hQ : xm_Rt X 0 none 0 0) (hI : xx_I X = xm_I) {K63 : xm_Mem → Int → Int → Int → Int → Option xm_Out} (hK63 : ∀ (σ : xm_Mem) (x1 : Int) (x3 : Int) (x4 : Int) (x5 : Int), xm_in x1 → xm_in x3 → xm_in x5 → xm_V X 0 0 (K63 σ x1 x3 x4 x5) σ 63 [(0, .ref (xm_ad (xx_G X) 29)), (1, .int (xm_J x1)), (3, .int (xm_J x3)), (4, xm_rf (xx_G X) x4), (5, .int (xm_J x5))] []) (σ : xm_Mem) (x1 : Int) (x3 : Int) (x4 : Int) (x5 : Int) (x6 : Int) (h1 : xm_in x1) (h3 : xm_in x3) (h5 : xm_in x5) (h6 : xm_in x6) : xm_V X 0 0 (f_X4_fill_j142 K63 σ x1 x3 x4 x5 x6) σ 142 [(0, .ref (xm_ad (xx_G X) 29)), (1, .int (xm_J x1)), (3, .int (xm_J x3)), (4, xm_rf (xx_G X) x4), (5, .int (xm_J x5)), (6, .int (xm_J x6))] [] := by
  unfold f_X4_fill_j142
  refine xg_aload_n hC dX4_fill_142 rfl ?_
  refine xg_getW hC (b := 33) (xm_hK hI rfl) rfl (xm_wK hI rfl) (by decide) xl_F_X4_34 dX4_fill_143 ?_
  refine xg_aload_n hC dX4_fill_146 rfl ?_
  refine xg_dup hC dX4_fill_147 rfl ?_
  refine xg_getI hC (xm_hK hI rfl) rfl xl_F_X4_37 dX4_fill_148 (fun k32 => ?_)
  refine xg_vI k32 (fun v33 k34 => ?_)
  refine xg_dup_x1 hC dX4_fill_151 rfl rfl ?_
  refine xg_iconst hC dX4_fill_152 ?_
  refine xg_iadd hC dX4_fill_153 ?_
  refine xg_putI hC (xm_hK hI rfl) rfl rfl (xm_w_in _) (xm_kpK hI rfl) xl_F_X4_37 dX4_fill_154 ?_
  refine xg_st (fun σ35 => ?_)
  refine xg_iload hC dX4_fill_157 rfl ?_
  refine xg_iast hC (xm_hK hI rfl) rfl k34 h6 (xm_kpF hI rfl) dX4_fill_159 ?_
  refine xg_st (fun σ36 => ?_)
  refine xg_aload_n hC dX4_fill_160 rfl ?_
  refine xg_dup hC dX4_fill_161 rfl ?_
  refine xg_getL hC (xm_hK hI rfl) rfl xl_F_X4_40 dX4_fill_162 ?_
  refine xg_lconst hC dX4_fill_165 (v := 1) rfl ?_
  refine xg_iload hC dX4_fill_166 rfl ?_
  refine xg_lshl hC dX4_fill_168 ?_
  refine xg_lor hC dX4_fill_169 ?_
  refine xg_putL hC (xm_hK hI rfl) rfl rfl (xm_kp2 hI) xl_F_X4_40 dX4_fill_170 ?_
  refine xg_st (fun σ38 => ?_)
  refine xg_iinc hC (l' := [(5, .int (xm_J (xm_w (x5 + 1)))), (0, .ref (xm_ad (xx_G X) 29)), (1, .int (xm_J x1)), (3, .int (xm_J x3)), (4, xm_rf (xx_G X) x4), (6, .int (xm_J x6))]) dX4_fill_173 (by decide) 4 rfl (by simp [xm_rf_cat, xm_cati, xm_catr, xm_catl] <;> decide) ?_
  refine xg_goto hC 63 dX4_fill_176 rfl ?_
  exact xg_pick [1, 2, 3, 4, 0] rfl (hK63 σ38 x1 x3 x4 (xm_w (x5 + 1)) h1 h3 (xm_w_in _))
theorem w_X4_fill_j113 {X : xm_X} (hC : xm_C X yX4_fill.cls cX4_fill 7 4 0 0) (hQ : xm_Rt X 0 none 0 0) (hI : xx_I X = xm_I) {K63 : xm_Mem → Int → Int → Int → Int → Option xm_Out} (hK63 : ∀ (σ : xm_Mem) (x1 : Int) (x3 : Int) (x4 : Int) (x5 : Int), xm_in x1 → xm_in x3 → xm_in x5 → xm_V X 0 0 (K63 σ x1 x3 x4 x5) σ 63 [(0, .ref (xm_ad (xx_G X) 29)), (1, .int (xm_J x1)), (3, .int (xm_J x3)), (4, xm_rf (xx_G X) x4), (5, .int (xm_J x5))] []) (σ : xm_Mem) (x1 : Int) (x3 : Int) (x4 : Int) (x5 : Int) (x6 : Int) (h1 : xm_in x1) (h3 : xm_in x3) (h5 : xm_in x5) (h6 : xm_in x6) : xm_V X 0 0 (f_X4_fill_j113 K63 σ x1 x3 x4 x5 x6) σ 113 [(0, .ref (xm_ad (xx_G X) 29)), (1, .int (xm_J x1)), (3, .int (xm_J x3)), (4, xm_rf (xx_G X) x4), (5, .int (xm_J x5)), (6, .int (xm_J x6))] [] := by
  unfold f_X4_fill_j113
  refine xg_iload hC dX4_fill_113 rfl ?_
  refine xg_rload hC dX4_fill_115 rfl ?_
  refine xg_salen hC (n := 64) rfl dX4_fill_117 ?_
  refine xg_icmp_ge hC h6 (xm_inc _ rfl) 173 dX4_fill_118 rfl (fun c26 => ?_) (fun c27 => ?_)
  · refine xg_rload hC dX4_fill_121 rfl ?_
    refine xg_iload hC dX4_fill_123 rfl ?_
    refine xg_siald hC (n := 64) rfl h6 dX4_fill_125 (fun b28 k29 => ?_)
    refine xg_iconst hC dX4_fill_126 ?_
    refine xg_icmp_eq hC k29 (xm_inc _ rfl) 142 dX4_fill_127 rfl (fun c30 => ?_) (fun c31 => ?_)
    · exact (w_X4_fill_j142 hC hQ hI hK63 σ x1 x3 x4 x5 x6 h1 h3 h5 h6)
    refine xg_rload hC dX4_fill_130 rfl ?_
    refine xg_iload hC dX4_fill_132 rfl ?_
    refine xg_siald hC (n := 64) rfl h6 dX4_fill_134 (fun b39 k40 => ?_)
    refine xg_iload_n hC dX4_fill_135 rfl ?_
    refine xg_icmp_gt hC k40 h3 142 dX4_fill_136 rfl (fun c41 => ?_) (fun c42 => ?_)
    · exact (w_X4_fill_j142 hC hQ hI hK63 σ x1 x3 x4 x5 x6 h1 h3 h5 h6)
    refine xg_goto hC 173 dX4_fill_139 rfl ?_
    refine xg_iinc hC (l' := [(5, .int (xm_J (xm_w (x5 + 1)))), (0, .ref (xm_ad (xx_G X) 29)), (1, .int (xm_J x1)), (3, .int (xm_J x3)), (4, xm_rf (xx_G X) x4), (6, .int (xm_J x6))]) dX4_fill_173 (by decide) 4 rfl (by simp [xm_rf_cat, xm_cati, xm_catr, xm_catl] <;> decide) ?_
    refine xg_goto hC 63 dX4_fill_176 rfl ?_
    exact xg_pick [1, 2, 3, 4, 0] rfl (hK63 σ x1 x3 x4 (xm_w (x5 + 1)) h1 h3 (xm_w_in _))
  refine xg_iinc hC (l' := [(5, .int (xm_J (xm_w (x5 + 1)))), (0, .ref (xm_ad (xx_G X) 29)), (1, .int (xm_J x1)), (3, .int (xm_J x3)), (4, xm_rf (xx_G X) x4), (6, .int (xm_J x6))]) dX4_fill_173 (by decide) 4 rfl (by simp [xm_rf_cat, xm_cati, xm_catr, xm_catl] <;> decide) ?_
  refine xg_goto hC 63 dX4_fill_176 rfl ?_
  exact xg_pick [1, 2, 3, 4, 0] rfl (hK63 σ x1 x3 x4 (xm_w (x5 + 1)) h1 h3 (xm_w_in _))
theorem w_X4_fill_b63 {X : xm_X} (hC : xm_C X yX4_fill.cls cX4_fill 7 4 0 0) (hQ : xm_Rt X 0 none 0 0) (hI : xx_I X = xm_I)   {self : xm_Mem → Int → Int → Int → Int → Option xm_Out} (hself : ∀ (σ : xm_Mem) (x1 : Int) (x3 : Int) (x4 : Int) (x5 : Int), xm_in x1 → xm_in x3 → xm_in x5 → xm_V X 0 0 (self σ x1 x3 x4 x5) σ 63 [(0, .ref (xm_ad (xx_G X) 29)), (1, .int (xm_J x1)), (3, .int (xm_J x3)), (4, xm_rf (xx_G X) x4), (5, .int (xm_J x5))] []) (σ : xm_Mem) (x1 : Int) (x3 : Int) (x4 : Int) (x5 : Int) (h1 : xm_in x1) (h3 : xm_in x3) (h5 : xm_in x5) : xm_V X 0 0 (f_X4_fill_b63  self σ x1 x3 x4 x5) σ 63 [(0, .ref (xm_ad (xx_G X) 29)), (1, .int (xm_J x1)), (3, .int (xm_J x3)), (4, xm_rf (xx_G X) x4), (5, .int (xm_J x5))] [] := by
  unfold f_X4_fill_b63
  refine xg_iload hC dX4_fill_63 rfl ?_
  refine xg_aload_n hC dX4_fill_65 rfl ?_
  refine xg_getI hC (xm_hK hI rfl) rfl xl_F_X4_15 dX4_fill_66 (fun k9 => ?_)
  refine xg_icmp_ge hC h5 k9 179 dX4_fill_69 rfl (fun c10 => ?_) (fun c11 => ?_)
  · refine xg_aload_n hC dX4_fill_72 rfl ?_
    refine xg_getW hC (b := 30) (xm_hK hI rfl) rfl (xm_wK hI rfl) (by decide) xl_F_X4_9 dX4_fill_73 ?_
    refine xg_iload hC dX4_fill_76 rfl ?_
    refine xg_iald hC (xm_hK hI rfl) rfl h5 dX4_fill_78 (fun b12 k13 => ?_)
    refine xg_vI k13 (fun v14 k15 => ?_)
    refine xg_istore hC (l' := [(6, .int (xm_J v14)), (0, .ref (xm_ad (xx_G X) 29)), (1, .int (xm_J x1)), (3, .int (xm_J x3)), (4, xm_rf (xx_G X) x4), (5, .int (xm_J x5))]) dX4_fill_79 (by decide) rfl ?_
    refine xg_aload_n hC dX4_fill_81 rfl ?_
    refine xg_getW hC (b := 9) (xm_hK hI rfl) rfl (xm_wK hI rfl) (by decide) xl_F_X4_50 dX4_fill_82 ?_
    refine xg_iload hC dX4_fill_85 rfl ?_
    refine xg_iload_n hC dX4_fill_87 rfl ?_
    refine xg_callV hC (ci := 4) (w_X5_isAlive hI σ v14 x3 k15 h3) xl_M_X4_66 xl_V_X5_isAlive (xm_hK (a := 9) (kd := 0) (n := 4) hI rfl).2 ((xm_hK (a := 9) (kd := 0) (n := 4) hI rfl).1 _) (by decide) rfl (by decide) ⟨by decide, by decide⟩ dX4_fill_88 (rest := []) rfl rfl (Nat.le_of_ble_eq_true rfl) rfl rfl (st2 := fun o => .int (xm_J o.2) :: []) (fun _ => rfl) (fun o16 k17 => ?_)
    refine xg_if_eq hC (xm_in01 k17) 173 dX4_fill_91 rfl (fun c18 => ?_) (fun c19 => ?_)
    · refine xg_iinc hC (l' := [(5, .int (xm_J (xm_w (x5 + 1)))), (6, .int (xm_J v14)), (0, .ref (xm_ad (xx_G X) 29)), (1, .int (xm_J x1)), (3, .int (xm_J x3)), (4, xm_rf (xx_G X) x4)]) dX4_fill_173 (by decide) 5 rfl (by simp [xm_rf_cat, xm_cati, xm_catr, xm_catl] <;> decide) ?_
      refine xg_goto hC 63 dX4_fill_176 rfl ?_
      exact xg_pick [2, 3, 4, 5, 0] rfl (hself o16.1 x1 x3 x4 (xm_w (x5 + 1)) h1 h3 (xm_w_in _))
    refine xg_iload_n hC dX4_fill_94 rfl ?_
    refine xg_if_ne hC h1 113 dX4_fill_95 rfl (fun c20 => ?_) (fun c21 => ?_)
    · refine xg_aload_n hC dX4_fill_98 rfl ?_
      refine xg_getW hC (b := 9) (xm_hK hI rfl) rfl (xm_wK hI rfl) (by decide) xl_F_X4_50 dX4_fill_99 ?_
      refine xg_iload hC dX4_fill_102 rfl ?_
      refine xg_callV hC (ci := 4) (w_X5_isMale hI o16.1 v14 k15) xl_M_X4_72 xl_V_X5_isMale (xm_hK (a := 9) (kd := 0) (n := 4) hI rfl).2 ((xm_hK (a := 9) (kd := 0) (n := 4) hI rfl).1 _) (by decide) rfl (by decide) ⟨by decide, by decide⟩ dX4_fill_104 (rest := []) rfl rfl (Nat.le_of_ble_eq_true rfl) rfl rfl (st2 := fun o => .int (xm_J o.2) :: []) (fun _ => rfl) (fun o22 k23 => ?_)
      refine xg_if_ne hC (xm_in01 k23) 113 dX4_fill_107 rfl (fun c24 => ?_) (fun c25 => ?_)
      · refine xg_goto hC 173 dX4_fill_110 rfl ?_
        refine xg_iinc hC (l' := [(5, .int (xm_J (xm_w (x5 + 1)))), (6, .int (xm_J v14)), (0, .ref (xm_ad (xx_G X) 29)), (1, .int (xm_J x1)), (3, .int (xm_J x3)), (4, xm_rf (xx_G X) x4)]) dX4_fill_173 (by decide) 5 rfl (by simp [xm_rf_cat, xm_cati, xm_catr, xm_catl] <;> decide) ?_
        refine xg_goto hC 63 dX4_fill_176 rfl ?_
        exact xg_pick [2, 3, 4, 5, 0] rfl (hself o22.1 x1 x3 x4 (xm_w (x5 + 1)) h1 h3 (xm_w_in _))
      exact xg_pick [1, 2, 3, 4, 5, 0] rfl (w_X4_fill_j113 hC hQ hI hself o22.1 x1 x3 x4 x5 v14 h1 h3 h5 k15)
    exact xg_pick [1, 2, 3, 4, 5, 0] rfl (w_X4_fill_j113 hC hQ hI hself o16.1 x1 x3 x4 x5 v14 h1 h3 h5 k15)
  exact xg_vret hC hQ dX4_fill_179
theorem w_X4_fill_l63 {X : xm_X} (hC : xm_C X yX4_fill.cls cX4_fill 7 4 0 0) (hQ : xm_Rt X 0 none 0 0) (hI : xx_I X = xm_I)   (n : Nat) : ∀ (σ : xm_Mem) (x1 : Int) (x3 : Int) (x4 : Int) (x5 : Int), xm_in x1 → xm_in x3 → xm_in x5 → xm_V X 0 0 (f_X4_fill_l63  n σ x1 x3 x4 x5) σ 63 [(0, .ref (xm_ad (xx_G X) 29)), (1, .int (xm_J x1)), (3, .int (xm_J x3)), (4, xm_rf (xx_G X) x4), (5, .int (xm_J x5))] [] := by
  induction n with
  | zero => intro σ x1 x3 x4 x5 h1 h3 h5; exact xg_none
  | succ n ih => intro σ x1 x3 x4 x5 h1 h3 h5; exact w_X4_fill_b63 hC hQ hI ih σ x1 x3 x4 x5 h1 h3 h5
theorem w_X4_fill_j50 {X : xm_X} (hC : xm_C X yX4_fill.cls cX4_fill 7 4 0 0) (hQ : xm_Rt X 0 none 0 0) (hI : xx_I X = xm_I)   (σ : xm_Mem) (x1 : Int) (x3 : Int) (x4 : Int) (h1 : xm_in x1) (h3 : xm_in x3) : xm_V X 0 0 (f_X4_fill_j50  σ x1 x3 x4) σ 50 [(0, .ref (xm_ad (xx_G X) 29)), (1, .int (xm_J x1)), (3, .int (xm_J x3)), (4, xm_rf (xx_G X) x4)] [] := by
  unfold f_X4_fill_j50
  refine xg_aload_n hC dX4_fill_50 rfl ?_
  refine xg_iconst hC dX4_fill_51 ?_
  refine xg_putI hC (xm_hK hI rfl) rfl rfl (xm_inc _ rfl) (xm_kpK hI rfl) xl_F_X4_37 dX4_fill_52 ?_
  refine xg_st (fun σ7 => ?_)
  refine xg_aload_n hC dX4_fill_55 rfl ?_
  refine xg_lconst hC dX4_fill_56 (v := 0) rfl ?_
  refine xg_putL hC (xm_hK hI rfl) rfl rfl (xm_kp2 hI) xl_F_X4_40 dX4_fill_57 ?_
  refine xg_st (fun σ8 => ?_)
  refine xg_iconst hC dX4_fill_60 ?_
  refine xg_istore hC (l' := [(5, .int (xm_J (0 : Int))), (0, .ref (xm_ad (xx_G X) 29)), (1, .int (xm_J x1)), (3, .int (xm_J x3)), (4, xm_rf (xx_G X) x4)]) dX4_fill_61 (by decide) (by simp [xm_rf_cat, xm_cati, xm_catr, xm_catl] <;> decide) ?_
  exact xg_pick [1, 2, 3, 4, 0] rfl (w_X4_fill_l63 hC hQ hI _ σ8 x1 x3 x4 (0 : Int) h1 h3 (xm_inc _ rfl))
theorem w_X4_fill_j16 {X : xm_X} (hC : xm_C X yX4_fill.cls cX4_fill 7 4 0 0) (hQ : xm_Rt X 0 none 0 0) (hI : xx_I X = xm_I)   (σ : xm_Mem) (x1 : Int) (x2 : Int) (x3 : Int) (x4 : Int) (h1 : xm_in x1) (h2 : xm_in x2) (h3 : xm_in x3) : xm_V X 0 0 (f_X4_fill_j16  σ x1 x2 x3 x4) σ 16 [(0, .ref (xm_ad (xx_G X) 29)), (1, .int (xm_J x1)), (2, .int (xm_J x2)), (3, .int (xm_J x3)), (4, xm_rf (xx_G X) x4)] [] := by
  unfold f_X4_fill_j16
  refine xg_aload_n hC dX4_fill_16 rfl ?_
  refine xg_iconst hC dX4_fill_17 ?_
  refine xg_putI hC (xm_hK hI rfl) rfl rfl (xm_inc _ rfl) (xm_kpK hI rfl) xl_F_X4_15 dX4_fill_18 ?_
  refine xg_st (fun σ43 => ?_)
  refine xg_aload_n hC dX4_fill_21 rfl ?_
  refine xg_iload_n hC dX4_fill_22 rfl ?_
  refine xg_putI hC (xm_hK hI rfl) rfl rfl h1 (xm_kpK hI rfl) xl_F_X4_19 dX4_fill_23 ?_
  refine xg_st (fun σ44 => ?_)
  refine xg_aload_n hC dX4_fill_26 rfl ?_
  refine xg_iload_n hC dX4_fill_27 rfl ?_
  refine xg_putI hC (xm_hK hI rfl) rfl rfl h2 (xm_kpK hI rfl) xl_F_X4_22 dX4_fill_28 ?_
  refine xg_st (fun σ45 => ?_)
  refine xg_iload_n hC dX4_fill_31 rfl ?_
  refine xg_iconst hC dX4_fill_32 ?_
  refine xg_icmp_ne hC h1 (xm_inc _ rfl) 44 dX4_fill_33 rfl (fun c46 => ?_) (fun c47 => ?_)
  · refine xg_aload_n hC dX4_fill_36 rfl ?_
    refine xg_iload_n hC dX4_fill_37 rfl ?_
    refine xg_callV hC (ci := 3) (w_X4_orderByBirths hI σ45 x2 h2) xl_M_X4_58 xl_V_X4_orderByBirths (xm_hK (a := 29) (kd := 0) (n := 3) hI rfl).2 ((xm_hK (a := 29) (kd := 0) (n := 3) hI rfl).1 _) (by decide) rfl (by decide) ⟨by decide, by decide⟩ dX4_fill_38 (rest := []) rfl rfl (Nat.le_of_ble_eq_true rfl) rfl rfl (st2 := fun o => []) (fun _ => rfl) (fun o48 k49 => ?_)
    refine xg_goto hC 50 dX4_fill_41 rfl ?_
    exact xg_pick [0, 1, 3, 4] rfl (w_X4_fill_j50 hC hQ hI o48.1 x1 x3 x4 h1 h3)
  refine xg_aload_n hC dX4_fill_44 rfl ?_
  refine xg_iload_n hC dX4_fill_45 rfl ?_
  refine xg_iload_n hC dX4_fill_46 rfl ?_
  refine xg_callV hC (ci := 3) (w_X4_orderByBranches hI σ45 x1 x2 h1 h2) xl_M_X4_62 xl_V_X4_orderByBranches (xm_hK (a := 29) (kd := 0) (n := 3) hI rfl).2 ((xm_hK (a := 29) (kd := 0) (n := 3) hI rfl).1 _) (by decide) rfl (by decide) ⟨by decide, by decide⟩ dX4_fill_47 (rest := []) rfl rfl (Nat.le_of_ble_eq_true rfl) rfl rfl (st2 := fun o => []) (fun _ => rfl) (fun o50 k51 => ?_)
  exact xg_pick [0, 1, 3, 4] rfl (w_X4_fill_j50 hC hQ hI o50.1 x1 x3 x4 h1 h3)
