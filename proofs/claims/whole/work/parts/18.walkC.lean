/-! ===== walks of X2 X4 (written by program) ===== -/
theorem w_X2_isBornLegit {Γ : xm_Gm} {I : xm_Mem → Prop} {la : Launch} (hE : I = xm_I) (σ : xm_Mem) (x1 : Int) (h1 : xm_in x1) : ∀ o, f_X2_isBornLegit σ x1 = some o → xm_M Γ I la yX2_isBornLegit cX2_isBornLegit 7 (some .boolean) 3 0 0 [.ref (xm_B Γ + 23), .int (xm_J x1), .ref (xm_B Γ + 18)] σ 2 o := by
  refine xg_enter (by decide) (by simp [lg_sl, xm_rf_cat, xm_cati, xm_catr, xm_catl]) (fun X hG hI0 hla hC hQ hname => ?_)
  subst hG
  have hI := hI0.trans hE
  clear hI0 hla
  unfold f_X2_isBornLegit
  refine xg_pick [0, 1, 2] (l' := [(0, .ref (xm_B (xx_G X) + 23)), (1, .int (xm_J x1)), (2, .ref (xm_B (xx_G X) + 18))]) rfl ?_
  refine xg_aload_n hC dX2_isBornLegit_0 rfl ?_
  refine xg_getW hC (xm_hK hI rfl) rfl (xm_wK hI rfl) (by decide) xl_F_X2_33 dX2_isBornLegit_1 ?_
  refine xg_iload_n hC dX2_isBornLegit_4 rfl ?_
  refine xg_callV hC (ci := 4) (w_X5_father hI σ x1 h1) xl_M_X2_57 xl_V_X5_father (xm_hK (a := 9) (kd := 0) (n := 4) hI rfl).2 ((xm_hK (a := 9) (kd := 0) (n := 4) hI rfl).1 _) (by decide) rfl (by decide) ⟨by decide, by decide⟩ dX2_isBornLegit_5 (rest := []) rfl rfl (Nat.le_of_ble_eq_true rfl) rfl rfl (st2 := fun o => .int (xm_J o.2) :: []) (fun _ => rfl) (fun o1 k2 => ?_)
  refine xg_istore_n hC dX2_isBornLegit_8 (by decide) rfl ?_
  refine xg_aload_n hC dX2_isBornLegit_9 rfl ?_
  refine xg_getW hC (xm_hK hI rfl) rfl (xm_wK hI rfl) (by decide) xl_F_X2_33 dX2_isBornLegit_10 ?_
  refine xg_iload_n hC dX2_isBornLegit_13 rfl ?_
  refine xg_callV hC (ci := 4) (w_X5_mother hI o1.1 x1 h1) xl_M_X2_61 xl_V_X5_mother (xm_hK (a := 9) (kd := 0) (n := 4) hI rfl).2 ((xm_hK (a := 9) (kd := 0) (n := 4) hI rfl).1 _) (by decide) rfl (by decide) ⟨by decide, by decide⟩ dX2_isBornLegit_14 (rest := []) rfl rfl (Nat.le_of_ble_eq_true rfl) rfl rfl (st2 := fun o => .int (xm_J o.2) :: []) (fun _ => rfl) (fun o3 k4 => ?_)
  refine xg_istore hC dX2_isBornLegit_17 (by decide) rfl ?_
  refine xg_iload_n hC dX2_isBornLegit_19 rfl ?_
  refine xg_iconst hC dX2_isBornLegit_20 ?_
  refine xg_icmp_eq hC k2 (xm_inc _ rfl) 30 dX2_isBornLegit_21 rfl (fun c5 => ?_) (fun c6 => ?_)
  · refine xg_iconst hC dX2_isBornLegit_30 ?_
    exact xg_zret hC hQ (by decide) dX2_isBornLegit_31
  refine xg_iload hC dX2_isBornLegit_24 rfl ?_
  refine xg_iconst hC dX2_isBornLegit_26 ?_
  refine xg_icmp_ne hC k4 (xm_inc _ rfl) 32 dX2_isBornLegit_27 rfl (fun c7 => ?_) (fun c8 => ?_)
  · refine xg_iconst hC dX2_isBornLegit_30 ?_
    exact xg_zret hC hQ (by decide) dX2_isBornLegit_31
  refine xg_aload_n hC dX2_isBornLegit_32 rfl ?_
  refine xg_getW hC (xm_hK hI rfl) rfl (xm_wK hI rfl) (by decide) xl_F_X2_33 dX2_isBornLegit_33 ?_
  refine xg_iload_n hC dX2_isBornLegit_36 rfl ?_
  refine xg_callV hC (ci := 4) (w_X5_bornOn hI o3.1 x1 h1) xl_M_X2_64 xl_V_X5_bornOn (xm_hK (a := 9) (kd := 0) (n := 4) hI rfl).2 ((xm_hK (a := 9) (kd := 0) (n := 4) hI rfl).1 _) (by decide) rfl (by decide) ⟨by decide, by decide⟩ dX2_isBornLegit_37 (rest := []) rfl rfl (Nat.le_of_ble_eq_true rfl) rfl rfl (st2 := fun o => .int (xm_J o.2) :: []) (fun _ => rfl) (fun o9 k10 => ?_)
  refine xg_istore hC dX2_isBornLegit_40 (by decide) rfl ?_
  refine xg_aload_n hC dX2_isBornLegit_42 rfl ?_
  refine xg_iload_n hC dX2_isBornLegit_43 rfl ?_
  refine xg_iload hC dX2_isBornLegit_44 rfl ?_
  refine xg_iload hC dX2_isBornLegit_46 rfl ?_
  refine xg_callV hC (ci := 8) (w_X9_joined hI o9.1 o1.2 o3.2 o9.2 k2 k4 k10) xl_M_X2_67 xl_V_X9_joined (xm_hK (a := 18) (kd := 0) (n := 8) hI rfl).2 ((xm_hK (a := 18) (kd := 0) (n := 8) hI rfl).1 _) (by decide) rfl (by decide) ⟨by decide, by decide⟩ dX2_isBornLegit_48 (rest := []) rfl rfl (Nat.le_of_ble_eq_true rfl) rfl rfl (st2 := fun o => .int (xm_J o.2) :: []) (fun _ => rfl) (fun o11 k12 => ?_)
  refine xg_if_eq hC (xm_in01 k12) 56 dX2_isBornLegit_51 rfl (fun c13 => ?_) (fun c14 => ?_)
  · refine xg_aload_n hC dX2_isBornLegit_56 rfl ?_
    refine xg_getW hC (xm_hK hI rfl) rfl (xm_wK hI rfl) (by decide) xl_F_X2_33 dX2_isBornLegit_57 ?_
    refine xg_iload_n hC dX2_isBornLegit_60 rfl ?_
    refine xg_callV hC (ci := 4) (w_X5_deadOn hI o11.1 o1.2 k2) xl_M_X2_73 xl_V_X5_deadOn (xm_hK (a := 9) (kd := 0) (n := 4) hI rfl).2 ((xm_hK (a := 9) (kd := 0) (n := 4) hI rfl).1 _) (by decide) rfl (by decide) ⟨by decide, by decide⟩ dX2_isBornLegit_61 (rest := []) rfl rfl (Nat.le_of_ble_eq_true rfl) rfl rfl (st2 := fun o => .int (xm_J o.2) :: []) (fun _ => rfl) (fun o15 k16 => ?_)
    refine xg_istore hC dX2_isBornLegit_64 (by decide) rfl ?_
    refine xg_iload hC dX2_isBornLegit_66 rfl ?_
    refine xg_iconst hC dX2_isBornLegit_68 ?_
    refine xg_icmp_eq hC k16 (xm_inc _ rfl) 106 dX2_isBornLegit_69 rfl (fun c17 => ?_) (fun c18 => ?_)
    · refine xg_iconst hC dX2_isBornLegit_106 ?_
      exact xg_zret hC hQ (by decide) dX2_isBornLegit_107
    refine xg_iload hC dX2_isBornLegit_72 rfl ?_
    refine xg_iload hC dX2_isBornLegit_74 rfl ?_
    refine xg_sipush hC dX2_isBornLegit_76 (by decide) ?_
    refine xg_isub hC dX2_isBornLegit_79 ?_
    refine xg_icmp_lt hC k16 (xm_w_in _) 106 dX2_isBornLegit_80 rfl (fun c19 => ?_) (fun c20 => ?_)
    · refine xg_iconst hC dX2_isBornLegit_106 ?_
      exact xg_zret hC hQ (by decide) dX2_isBornLegit_107
    refine xg_iload hC dX2_isBornLegit_83 rfl ?_
    refine xg_iload hC dX2_isBornLegit_85 rfl ?_
    refine xg_icmp_gt hC k16 k10 106 dX2_isBornLegit_87 rfl (fun c21 => ?_) (fun c22 => ?_)
    · refine xg_iconst hC dX2_isBornLegit_106 ?_
      exact xg_zret hC hQ (by decide) dX2_isBornLegit_107
    refine xg_aload_n hC dX2_isBornLegit_90 rfl ?_
    refine xg_iload_n hC dX2_isBornLegit_91 rfl ?_
    refine xg_iload hC dX2_isBornLegit_92 rfl ?_
    refine xg_iload hC dX2_isBornLegit_94 rfl ?_
    refine xg_callV hC (ci := 8) (w_X9_joined hI o15.1 o1.2 o3.2 o15.2 k2 k4 k16) xl_M_X2_67 xl_V_X9_joined (xm_hK (a := 18) (kd := 0) (n := 8) hI rfl).2 ((xm_hK (a := 18) (kd := 0) (n := 8) hI rfl).1 _) (by decide) rfl (by decide) ⟨by decide, by decide⟩ dX2_isBornLegit_96 (rest := []) rfl rfl (Nat.le_of_ble_eq_true rfl) rfl rfl (st2 := fun o => .int (xm_J o.2) :: []) (fun _ => rfl) (fun o23 k24 => ?_)
    refine xg_if_eq hC (xm_in01 k24) 106 dX2_isBornLegit_99 rfl (fun c25 => ?_) (fun c26 => ?_)
    · refine xg_iconst hC dX2_isBornLegit_106 ?_
      exact xg_zret hC hQ (by decide) dX2_isBornLegit_107
    refine xg_iconst hC dX2_isBornLegit_102 ?_
    refine xg_goto hC 107 dX2_isBornLegit_103 rfl ?_
    exact xg_zret hC hQ (by decide) dX2_isBornLegit_107
  refine xg_iconst hC dX2_isBornLegit_54 ?_
  exact xg_zret hC hQ (by decide) dX2_isBornLegit_55
theorem w_X2_sortIn_b15 {X : xm_X} (hC : xm_C X yX2_sortIn.cls cX2_sortIn 3 4 0 0) (hQ : xm_Rt X 0 none 0 0) (hI : xx_I X = xm_I) {K58 : xm_Mem → Int → Int → Option xm_Out} (hK58 : ∀ (σ : xm_Mem) (x1 : Int) (x2 : Int), xm_in x1 → xm_in x2 → xm_V X 0 0 (K58 σ x1 x2) σ 58 [(0, .ref (xm_B (xx_G X) + 23)), (1, .int (xm_J x1)), (2, .int (xm_J x2))] []) {self : xm_Mem → Int → Int → Option xm_Out} (hself : ∀ (σ : xm_Mem) (x1 : Int) (x2 : Int), xm_in x1 → xm_in x2 → xm_V X 0 0 (self σ x1 x2) σ 15 [(0, .ref (xm_B (xx_G X) + 23)), (1, .int (xm_J x1)), (2, .int (xm_J x2))] []) (σ : xm_Mem) (x1 : Int) (x2 : Int) (h1 : xm_in x1) (h2 : xm_in x2) : xm_V X 0 0 (f_X2_sortIn_b15 K58 self σ x1 x2) σ 15 [(0, .ref (xm_B (xx_G X) + 23)), (1, .int (xm_J x1)), (2, .int (xm_J x2))] [] := by
  unfold f_X2_sortIn_b15
  refine xg_iload_n hC dX2_sortIn_15 rfl ?_
  refine xg_if_le hC h2 58 dX2_sortIn_16 rfl (fun c7 => ?_) (fun c8 => ?_)
  · refine xg_aload_n hC dX2_sortIn_19 rfl ?_
    refine xg_getW hC (xm_hK hI rfl) rfl (xm_wK hI rfl) (by decide) xl_F_X2_33 dX2_sortIn_20 ?_
    refine xg_iload_n hC dX2_sortIn_23 rfl ?_
    refine xg_aload_n hC dX2_sortIn_24 rfl ?_
    refine xg_getW hC (xm_hK hI rfl) rfl (xm_wK hI rfl) (by decide) xl_F_X2_15 dX2_sortIn_25 ?_
    refine xg_iload_n hC dX2_sortIn_28 rfl ?_
    refine xg_iconst hC dX2_sortIn_29 ?_
    refine xg_isub hC dX2_sortIn_30 ?_
    refine xg_vI (xm_w_in _) (fun v9 k10 => ?_)
    refine xg_iald hC (xm_hK hI rfl) rfl k10 dX2_sortIn_31 (fun b11 k12 => ?_)
    refine xg_callV hC (ci := 4) (w_X5_isElder hI σ x1 (σ.1 25 v9.toNat) h1 k12) xl_M_X2_76 xl_V_X5_isElder (xm_hK (a := 9) (kd := 0) (n := 4) hI rfl).2 ((xm_hK (a := 9) (kd := 0) (n := 4) hI rfl).1 _) (by decide) rfl (by decide) ⟨by decide, by decide⟩ dX2_sortIn_32 (rest := []) rfl rfl (Nat.le_of_ble_eq_true rfl) rfl rfl (st2 := fun o => .int (xm_J o.2) :: []) (fun _ => rfl) (fun o13 k14 => ?_)
    refine xg_if_eq hC (xm_in01 k14) 58 dX2_sortIn_35 rfl (fun c15 => ?_) (fun c16 => ?_)
    · exact (hK58 o13.1 x1 x2 h1 h2)
    refine xg_aload_n hC dX2_sortIn_38 rfl ?_
    refine xg_getW hC (xm_hK hI rfl) rfl (xm_wK hI rfl) (by decide) xl_F_X2_15 dX2_sortIn_39 ?_
    refine xg_iload_n hC dX2_sortIn_42 rfl ?_
    refine xg_aload_n hC dX2_sortIn_43 rfl ?_
    refine xg_getW hC (xm_hK hI rfl) rfl (xm_wK hI rfl) (by decide) xl_F_X2_15 dX2_sortIn_44 ?_
    refine xg_iload_n hC dX2_sortIn_47 rfl ?_
    refine xg_iconst hC dX2_sortIn_48 ?_
    refine xg_isub hC dX2_sortIn_49 ?_
    refine xg_vI (xm_w_in _) (fun v17 k18 => ?_)
    refine xg_iald hC (xm_hK hI rfl) rfl k18 dX2_sortIn_50 (fun b19 k20 => ?_)
    refine xg_iast hC (xm_hK hI rfl) rfl h2 k20 (xm_kpF hI rfl) dX2_sortIn_51 ?_
    refine xg_st (fun σ21 => ?_)
    refine xg_iinc hC dX2_sortIn_52 (by decide) 2 rfl rfl ?_
    refine xg_goto hC 15 dX2_sortIn_55 rfl ?_
    exact xg_pick [1, 2, 0] rfl (hself σ21 x1 (xm_w (x2 + (-1))) h1 (xm_w_in _))
  exact (hK58 σ x1 x2 h1 h2)
theorem w_X2_sortIn_l15 {X : xm_X} (hC : xm_C X yX2_sortIn.cls cX2_sortIn 3 4 0 0) (hQ : xm_Rt X 0 none 0 0) (hI : xx_I X = xm_I) {K58 : xm_Mem → Int → Int → Option xm_Out} (hK58 : ∀ (σ : xm_Mem) (x1 : Int) (x2 : Int), xm_in x1 → xm_in x2 → xm_V X 0 0 (K58 σ x1 x2) σ 58 [(0, .ref (xm_B (xx_G X) + 23)), (1, .int (xm_J x1)), (2, .int (xm_J x2))] []) (n : Nat) : ∀ (σ : xm_Mem) (x1 : Int) (x2 : Int), xm_in x1 → xm_in x2 → xm_V X 0 0 (f_X2_sortIn_l15 K58 n σ x1 x2) σ 15 [(0, .ref (xm_B (xx_G X) + 23)), (1, .int (xm_J x1)), (2, .int (xm_J x2))] [] := by
  induction n with
  | zero => intro σ x1 x2 h1 h2; exact xg_none
  | succ n ih => intro σ x1 x2 h1 h2; exact w_X2_sortIn_b15 hC hQ hI hK58 ih σ x1 x2 h1 h2
theorem w_X2_sortIn {Γ : xm_Gm} {I : xm_Mem → Prop} {la : Launch} (hE : I = xm_I) (σ : xm_Mem) (x1 : Int) (h1 : xm_in x1) : ∀ o, f_X2_sortIn σ x1 = some o → xm_M Γ I la yX2_sortIn cX2_sortIn 3 none 4 0 0 [.ref (xm_B Γ + 23), .int (xm_J x1)] σ 0 o := by
  refine xg_enter (by decide) (by simp [lg_sl, xm_rf_cat, xm_cati, xm_catr, xm_catl]) (fun X hG hI0 hla hC hQ hname => ?_)
  subst hG
  have hI := hI0.trans hE
  clear hI0 hla
  unfold f_X2_sortIn
  refine xg_pick [0, 1] (l' := [(0, .ref (xm_B (xx_G X) + 23)), (1, .int (xm_J x1))]) rfl ?_
  refine xg_aload_n hC dX2_sortIn_0 rfl ?_
  refine xg_getI hC (xm_hK hI rfl) rfl xl_F_X2_19 dX2_sortIn_1 (fun k1 => ?_)
  refine xg_bipush hC dX2_sortIn_4 (by decide) ?_
  refine xg_icmp_lt hC k1 (xm_inc _ rfl) 10 dX2_sortIn_6 rfl (fun c2 => ?_) (fun c3 => ?_)
  · refine xg_aload_n hC dX2_sortIn_10 rfl ?_
    refine xg_getI hC (xm_hK hI rfl) rfl xl_F_X2_19 dX2_sortIn_11 (fun k4 => ?_)
    refine xg_vI k4 (fun v5 k6 => ?_)
    refine xg_istore_n hC dX2_sortIn_14 (by decide) rfl ?_
    refine xg_pick [1, 2, 0] rfl (w_X2_sortIn_l15 hC hQ hI ?_ _ σ x1 v5 h1 k6)
    intro σ_22 x1_22 x2_22 h1_22 h2_22
    refine xg_aload_n hC dX2_sortIn_58 rfl ?_
    refine xg_getW hC (xm_hK hI rfl) rfl (xm_wK hI rfl) (by decide) xl_F_X2_15 dX2_sortIn_59 ?_
    refine xg_iload_n hC dX2_sortIn_62 rfl ?_
    refine xg_iload_n hC dX2_sortIn_63 rfl ?_
    refine xg_iast hC (xm_hK hI rfl) rfl h2_22 h1_22 (xm_kpF hI rfl) dX2_sortIn_64 ?_
    refine xg_st (fun σ23 => ?_)
    refine xg_aload_n hC dX2_sortIn_65 rfl ?_
    refine xg_dup hC dX2_sortIn_66 rfl ?_
    refine xg_getI hC (xm_hK hI rfl) rfl xl_F_X2_19 dX2_sortIn_67 (fun k24 => ?_)
    refine xg_iconst hC dX2_sortIn_70 ?_
    refine xg_iadd hC dX2_sortIn_71 ?_
    refine xg_putI hC (xm_hK hI rfl) rfl rfl (xm_w_in _) (xm_kpK hI rfl) xl_F_X2_19 dX2_sortIn_72 ?_
    refine xg_st (fun σ25 => ?_)
    exact xg_vret hC hQ dX2_sortIn_75
  exact xg_vret hC hQ dX2_sortIn_9
theorem w_X2_listKids_j66 {X : xm_X} (hC : xm_C X yX2_listKids.cls cX2_listKids 6 3 0 0) (hQ : xm_Rt X 0 none 0 0) (hI : xx_I X = xm_I) {K19 : xm_Mem → Int → Int → Int → Option xm_Out} (hK19 : ∀ (σ : xm_Mem) (x1 : Int) (x2 : Int) (x3 : Int), xm_in x1 → xm_in x2 → xm_in x3 → xm_V X 0 0 (K19 σ x1 x2 x3) σ 19 [(0, .ref (xm_B (xx_G X) + 23)), (1, .int (xm_J x1)), (2, .int (xm_J x2)), (3, .int (xm_J x3))] []) (σ : xm_Mem) (s0 : Int) (x1 : Int) (x2 : Int) (x3 : Int) (x4 : Int) (g0 : 0 ≤ s0 ∧ s0 ≤ 1) (h1 : xm_in x1) (h2 : xm_in x2) (h3 : xm_in x3) (h4 : xm_in x4) : xm_V X 0 0 (f_X2_listKids_j66 K19 σ s0 x1 x2 x3 x4) σ 66 [(0, .ref (xm_B (xx_G X) + 23)), (1, .int (xm_J x1)), (2, .int (xm_J x2)), (3, .int (xm_J x3)), (4, .int (xm_J x4))] [.int (xm_J s0)] := by
  unfold f_X2_listKids_j66
  refine xg_istore hC dX2_listKids_66 (by decide) rfl ?_
  refine xg_aload_n hC dX2_listKids_68 rfl ?_
  refine xg_getW hC (xm_hK hI rfl) rfl (xm_wK hI rfl) (by decide) xl_F_X2_9 dX2_listKids_69 ?_
  refine xg_iload hC dX2_listKids_72 rfl ?_
  refine xg_zald hC (xm_hK hI rfl) rfl h4 dX2_listKids_74 (fun b15 k16 => ?_)
  refine xg_if_eq hC (xm_in01 k16) 103 dX2_listKids_75 rfl (fun c17 => ?_) (fun c18 => ?_)
  · refine xg_iinc hC dX2_listKids_103 (by decide) 4 rfl rfl ?_
    refine xg_goto hC 19 dX2_listKids_106 rfl ?_
    exact xg_pick [2, 3, 4, 0] rfl (hK19 σ x1 x2 (xm_w (x3 + 1)) h1 h2 (xm_w_in _))
  refine xg_iload hC dX2_listKids_78 rfl ?_
  refine xg_if_eq hC (xm_in01 g0) 103 dX2_listKids_80 rfl (fun c19 => ?_) (fun c20 => ?_)
  · refine xg_iinc hC dX2_listKids_103 (by decide) 4 rfl rfl ?_
    refine xg_goto hC 19 dX2_listKids_106 rfl ?_
    exact xg_pick [2, 3, 4, 0] rfl (hK19 σ x1 x2 (xm_w (x3 + 1)) h1 h2 (xm_w_in _))
  refine xg_iload_n hC dX2_listKids_83 rfl ?_
  refine xg_aload_n hC dX2_listKids_84 rfl ?_
  refine xg_getW hC (xm_hK hI rfl) rfl (xm_wK hI rfl) (by decide) xl_F_X2_23 dX2_listKids_85 ?_
  refine xg_alen hC (xm_hK hI rfl) (by decide) rfl dX2_listKids_88 ?_
  refine xg_icmp_ge hC h1 (xm_inc _ rfl) 103 dX2_listKids_89 rfl (fun c21 => ?_) (fun c22 => ?_)
  · refine xg_aload_n hC dX2_listKids_92 rfl ?_
    refine xg_getW hC (xm_hK hI rfl) rfl (xm_wK hI rfl) (by decide) xl_F_X2_23 dX2_listKids_93 ?_
    refine xg_iload_n hC dX2_listKids_96 rfl ?_
    refine xg_iinc hC dX2_listKids_97 (by decide) 2 rfl rfl ?_
    refine xg_iload hC dX2_listKids_100 rfl ?_
    refine xg_iast hC (xm_hK hI rfl) rfl h1 h4 (xm_kpF hI rfl) dX2_listKids_102 ?_
    refine xg_st (fun σ23 => ?_)
    refine xg_iinc hC dX2_listKids_103 (by decide) 4 rfl rfl ?_
    refine xg_goto hC 19 dX2_listKids_106 rfl ?_
    exact xg_pick [3, 1, 4, 0] rfl (hK19 σ23 (xm_w (x1 + 1)) x2 (xm_w (x3 + 1)) (xm_w_in _) h2 (xm_w_in _))
  refine xg_iinc hC dX2_listKids_103 (by decide) 4 rfl rfl ?_
  refine xg_goto hC 19 dX2_listKids_106 rfl ?_
  exact xg_pick [2, 3, 4, 0] rfl (hK19 σ x1 x2 (xm_w (x3 + 1)) h1 h2 (xm_w_in _))
theorem w_X2_listKids_j61 {X : xm_X} (hC : xm_C X yX2_listKids.cls cX2_listKids 6 3 0 0) (hQ : xm_Rt X 0 none 0 0) (hI : xx_I X = xm_I) {K19 : xm_Mem → Int → Int → Int → Option xm_Out} (hK19 : ∀ (σ : xm_Mem) (x1 : Int) (x2 : Int) (x3 : Int), xm_in x1 → xm_in x2 → xm_in x3 → xm_V X 0 0 (K19 σ x1 x2 x3) σ 19 [(0, .ref (xm_B (xx_G X) + 23)), (1, .int (xm_J x1)), (2, .int (xm_J x2)), (3, .int (xm_J x3))] []) (σ : xm_Mem) (x1 : Int) (x2 : Int) (x3 : Int) (x4 : Int) (h1 : xm_in x1) (h2 : xm_in x2) (h3 : xm_in x3) (h4 : xm_in x4) : xm_V X 0 0 (f_X2_listKids_j61 K19 σ x1 x2 x3 x4) σ 61 [(0, .ref (xm_B (xx_G X) + 23)), (1, .int (xm_J x1)), (2, .int (xm_J x2)), (3, .int (xm_J x3)), (4, .int (xm_J x4))] [] := by
  unfold f_X2_listKids_j61
  refine xg_iconst hC dX2_listKids_61 ?_
  refine xg_goto hC 66 dX2_listKids_62 rfl ?_
  exact (w_X2_listKids_j66 hC hQ hI hK19 σ (1 : Int) x1 x2 x3 x4 (by decide) h1 h2 h3 h4)
theorem w_X2_listKids_b19 {X : xm_X} (hC : xm_C X yX2_listKids.cls cX2_listKids 6 3 0 0) (hQ : xm_Rt X 0 none 0 0) (hI : xx_I X = xm_I) {K109 : xm_Mem → Int → Int → Option xm_Out} (hK109 : ∀ (σ : xm_Mem) (x1 : Int) (x2 : Int), xm_in x1 → xm_in x2 → xm_V X 0 0 (K109 σ x1 x2) σ 109 [(0, .ref (xm_B (xx_G X) + 23)), (1, .int (xm_J x1)), (2, .int (xm_J x2))] []) {self : xm_Mem → Int → Int → Int → Option xm_Out} (hself : ∀ (σ : xm_Mem) (x1 : Int) (x2 : Int) (x3 : Int), xm_in x1 → xm_in x2 → xm_in x3 → xm_V X 0 0 (self σ x1 x2 x3) σ 19 [(0, .ref (xm_B (xx_G X) + 23)), (1, .int (xm_J x1)), (2, .int (xm_J x2)), (3, .int (xm_J x3))] []) (σ : xm_Mem) (x1 : Int) (x2 : Int) (x3 : Int) (h1 : xm_in x1) (h2 : xm_in x2) (h3 : xm_in x3) : xm_V X 0 0 (f_X2_listKids_b19 K109 self σ x1 x2 x3) σ 19 [(0, .ref (xm_B (xx_G X) + 23)), (1, .int (xm_J x1)), (2, .int (xm_J x2)), (3, .int (xm_J x3))] [] := by
  unfold f_X2_listKids_b19
  refine xg_iload_n hC dX2_listKids_19 rfl ?_
  refine xg_aload_n hC dX2_listKids_20 rfl ?_
  refine xg_getI hC (xm_hK hI rfl) rfl xl_F_X2_19 dX2_listKids_21 (fun k4 => ?_)
  refine xg_icmp_ge hC h3 k4 109 dX2_listKids_24 rfl (fun c5 => ?_) (fun c6 => ?_)
  · refine xg_aload_n hC dX2_listKids_27 rfl ?_
    refine xg_getW hC (xm_hK hI rfl) rfl (xm_wK hI rfl) (by decide) xl_F_X2_15 dX2_listKids_28 ?_
    refine xg_iload_n hC dX2_listKids_31 rfl ?_
    refine xg_iald hC (xm_hK hI rfl) rfl h3 dX2_listKids_32 (fun b7 k8 => ?_)
    refine xg_vI k8 (fun v9 k10 => ?_)
    refine xg_istore hC dX2_listKids_33 (by decide) rfl ?_
    refine xg_aload_n hC dX2_listKids_35 rfl ?_
    refine xg_getW hC (xm_hK hI rfl) rfl (xm_wK hI rfl) (by decide) xl_F_X2_33 dX2_listKids_36 ?_
    refine xg_iload hC dX2_listKids_39 rfl ?_
    refine xg_callV hC (ci := 4) (w_X5_father hI σ v9 k10) xl_M_X2_57 xl_V_X5_father (xm_hK (a := 9) (kd := 0) (n := 4) hI rfl).2 ((xm_hK (a := 9) (kd := 0) (n := 4) hI rfl).1 _) (by decide) rfl (by decide) ⟨by decide, by decide⟩ dX2_listKids_41 (rest := []) rfl rfl (Nat.le_of_ble_eq_true rfl) rfl rfl (st2 := fun o => .int (xm_J o.2) :: []) (fun _ => rfl) (fun o11 k12 => ?_)
    refine xg_iload_n hC dX2_listKids_44 rfl ?_
    refine xg_icmp_eq hC k12 h2 61 dX2_listKids_45 rfl (fun c13 => ?_) (fun c14 => ?_)
    · exact xg_pick [1, 2, 3, 4, 0] rfl (w_X2_listKids_j61 hC hQ hI hself o11.1 x1 x2 x3 v9 h1 h2 h3 k10)
    refine xg_aload_n hC dX2_listKids_48 rfl ?_
    refine xg_getW hC (xm_hK hI rfl) rfl (xm_wK hI rfl) (by decide) xl_F_X2_33 dX2_listKids_49 ?_
    refine xg_iload hC dX2_listKids_52 rfl ?_
    refine xg_callV hC (ci := 4) (w_X5_mother hI o11.1 v9 k10) xl_M_X2_61 xl_V_X5_mother (xm_hK (a := 9) (kd := 0) (n := 4) hI rfl).2 ((xm_hK (a := 9) (kd := 0) (n := 4) hI rfl).1 _) (by decide) rfl (by decide) ⟨by decide, by decide⟩ dX2_listKids_54 (rest := []) rfl rfl (Nat.le_of_ble_eq_true rfl) rfl rfl (st2 := fun o => .int (xm_J o.2) :: []) (fun _ => rfl) (fun o24 k25 => ?_)
    refine xg_iload_n hC dX2_listKids_57 rfl ?_
    refine xg_icmp_ne hC k25 h2 65 dX2_listKids_58 rfl (fun c26 => ?_) (fun c27 => ?_)
    · exact xg_pick [1, 2, 3, 4, 0] rfl (w_X2_listKids_j61 hC hQ hI hself o24.1 x1 x2 x3 v9 h1 h2 h3 k10)
    refine xg_iconst hC dX2_listKids_65 ?_
    exact xg_pick [1, 2, 3, 4, 0] rfl (w_X2_listKids_j66 hC hQ hI hself o24.1 (0 : Int) x1 x2 x3 v9 (by decide) h1 h2 h3 k10)
  exact xg_pick [0, 1, 2] rfl (hK109 σ x1 x2 h1 h2)
theorem w_X2_listKids_l19 {X : xm_X} (hC : xm_C X yX2_listKids.cls cX2_listKids 6 3 0 0) (hQ : xm_Rt X 0 none 0 0) (hI : xx_I X = xm_I) {K109 : xm_Mem → Int → Int → Option xm_Out} (hK109 : ∀ (σ : xm_Mem) (x1 : Int) (x2 : Int), xm_in x1 → xm_in x2 → xm_V X 0 0 (K109 σ x1 x2) σ 109 [(0, .ref (xm_B (xx_G X) + 23)), (1, .int (xm_J x1)), (2, .int (xm_J x2))] []) (n : Nat) : ∀ (σ : xm_Mem) (x1 : Int) (x2 : Int) (x3 : Int), xm_in x1 → xm_in x2 → xm_in x3 → xm_V X 0 0 (f_X2_listKids_l19 K109 n σ x1 x2 x3) σ 19 [(0, .ref (xm_B (xx_G X) + 23)), (1, .int (xm_J x1)), (2, .int (xm_J x2)), (3, .int (xm_J x3))] [] := by
  induction n with
  | zero => intro σ x1 x2 x3 h1 h2 h3; exact xg_none
  | succ n ih => intro σ x1 x2 x3 h1 h2 h3; exact w_X2_listKids_b19 hC hQ hI hK109 ih σ x1 x2 x3 h1 h2 h3
theorem w_X2_listKids_b4 {X : xm_X} (hC : xm_C X yX2_listKids.cls cX2_listKids 6 3 0 0) (hQ : xm_Rt X 0 none 0 0) (hI : xx_I X = xm_I) {K115 : xm_Mem → Int → Option xm_Out} (hK115 : ∀ (σ : xm_Mem) (x1 : Int), xm_in x1 → xm_V X 0 0 (K115 σ x1) σ 115 [(0, .ref (xm_B (xx_G X) + 23)), (1, .int (xm_J x1))] []) {self : xm_Mem → Int → Int → Option xm_Out} (hself : ∀ (σ : xm_Mem) (x1 : Int) (x2 : Int), xm_in x1 → xm_in x2 → xm_V X 0 0 (self σ x1 x2) σ 4 [(0, .ref (xm_B (xx_G X) + 23)), (1, .int (xm_J x1)), (2, .int (xm_J x2))] []) (σ : xm_Mem) (x1 : Int) (x2 : Int) (h1 : xm_in x1) (h2 : xm_in x2) : xm_V X 0 0 (f_X2_listKids_b4 K115 self σ x1 x2) σ 4 [(0, .ref (xm_B (xx_G X) + 23)), (1, .int (xm_J x1)), (2, .int (xm_J x2))] [] := by
  unfold f_X2_listKids_b4
  refine xg_iload_n hC dX2_listKids_4 rfl ?_
  refine xg_bipush hC dX2_listKids_5 (by decide) ?_
  refine xg_icmp_ge hC h2 (xm_inc _ rfl) 115 dX2_listKids_7 rfl (fun c1 => ?_) (fun c2 => ?_)
  · refine xg_aload_n hC dX2_listKids_10 rfl ?_
    refine xg_getW hC (xm_hK hI rfl) rfl (xm_wK hI rfl) (by decide) xl_F_X2_26 dX2_listKids_11 ?_
    refine xg_iload_n hC dX2_listKids_14 rfl ?_
    refine xg_iload_n hC dX2_listKids_15 rfl ?_
    refine xg_iast hC (xm_hK hI rfl) rfl h2 h1 (xm_kpF hI rfl) dX2_listKids_16 ?_
    refine xg_st (fun σ3 => ?_)
    refine xg_iconst hC dX2_listKids_17 ?_
    refine xg_istore_n hC dX2_listKids_18 (by decide) rfl ?_
    refine xg_pick [1, 2, 3, 0] rfl (w_X2_listKids_l19 hC hQ hI ?_ _ σ3 x1 x2 (0 : Int) h1 h2 (xm_inc _ rfl))
    intro σ_28 x1_28 x2_28 h1_28 h2_28
    refine xg_iinc hC dX2_listKids_109 (by decide) 2 rfl rfl ?_
    refine xg_goto hC 4 dX2_listKids_112 rfl ?_
    exact xg_pick [1, 2, 0] rfl (hself σ_28 x1_28 (xm_w (x2_28 + 1)) h1_28 (xm_w_in _))
  exact xg_pick [0, 1] rfl (hK115 σ x1 h1)
theorem w_X2_listKids_l4 {X : xm_X} (hC : xm_C X yX2_listKids.cls cX2_listKids 6 3 0 0) (hQ : xm_Rt X 0 none 0 0) (hI : xx_I X = xm_I) {K115 : xm_Mem → Int → Option xm_Out} (hK115 : ∀ (σ : xm_Mem) (x1 : Int), xm_in x1 → xm_V X 0 0 (K115 σ x1) σ 115 [(0, .ref (xm_B (xx_G X) + 23)), (1, .int (xm_J x1))] []) (n : Nat) : ∀ (σ : xm_Mem) (x1 : Int) (x2 : Int), xm_in x1 → xm_in x2 → xm_V X 0 0 (f_X2_listKids_l4 K115 n σ x1 x2) σ 4 [(0, .ref (xm_B (xx_G X) + 23)), (1, .int (xm_J x1)), (2, .int (xm_J x2))] [] := by
  induction n with
  | zero => intro σ x1 x2 h1 h2; exact xg_none
  | succ n ih => intro σ x1 x2 h1 h2; exact w_X2_listKids_b4 hC hQ hI hK115 ih σ x1 x2 h1 h2
theorem w_X2_listKids {Γ : xm_Gm} {I : xm_Mem → Prop} {la : Launch} (hE : I = xm_I) (σ : xm_Mem)   : ∀ o, f_X2_listKids σ  = some o → xm_M Γ I la yX2_listKids cX2_listKids 6 none 3 0 0 [.ref (xm_B Γ + 23)] σ 0 o := by
  refine xg_enter (by decide) (by simp [lg_sl, xm_rf_cat, xm_cati, xm_catr, xm_catl]) (fun X hG hI0 hla hC hQ hname => ?_)
  subst hG
  have hI := hI0.trans hE
  clear hI0 hla
  unfold f_X2_listKids
  refine xg_pick [0] (l' := [(0, .ref (xm_B (xx_G X) + 23))]) rfl ?_
  refine xg_iconst hC dX2_listKids_0 ?_
  refine xg_istore_n hC dX2_listKids_1 (by decide) rfl ?_
  refine xg_iconst hC dX2_listKids_2 ?_
  refine xg_istore_n hC dX2_listKids_3 (by decide) rfl ?_
  refine xg_pick [2, 1, 0] rfl (w_X2_listKids_l4 hC hQ hI ?_ _ σ (0 : Int) (0 : Int) (xm_inc _ rfl) (xm_inc _ rfl))
  intro σ_29 x1_29 h1_29
  refine xg_aload_n hC dX2_listKids_115 rfl ?_
  refine xg_getW hC (xm_hK hI rfl) rfl (xm_wK hI rfl) (by decide) xl_F_X2_26 dX2_listKids_116 ?_
  refine xg_bipush hC dX2_listKids_119 (by decide) ?_
  refine xg_iload_n hC dX2_listKids_121 rfl ?_
  refine xg_iast hC (xm_hK hI rfl) rfl (xm_inc _ rfl) h1_29 (xm_kpF hI rfl) dX2_listKids_122 ?_
  refine xg_st (fun σ30 => ?_)
  exact xg_vret hC hQ dX2_listKids_123
theorem w_X2_gatherBodies_b19 {X : xm_X} (hC : xm_C X yX2_gatherBodies.cls cX2_gatherBodies 5 1 0 0) (hQ : xm_Rt X 0 none 0 0) (hI : xx_I X = xm_I) {K53 : xm_Mem → Int → Int64 → Option xm_Out} (hK53 : ∀ (σ : xm_Mem) (x1 : Int) (x2 : Int64), xm_in x1 → xm_V X 0 0 (K53 σ x1 x2) σ 53 [(0, .ref (xm_B (xx_G X) + 23)), (1, .int (xm_J x1)), (2, .long x2)] []) {self : xm_Mem → Int → Int64 → Int → Option xm_Out} (hself : ∀ (σ : xm_Mem) (x1 : Int) (x2 : Int64) (x4 : Int), xm_in x1 → xm_in x4 → xm_V X 0 0 (self σ x1 x2 x4) σ 19 [(0, .ref (xm_B (xx_G X) + 23)), (1, .int (xm_J x1)), (2, .long x2), (4, .int (xm_J x4))] []) (σ : xm_Mem) (x1 : Int) (x2 : Int64) (x4 : Int) (h1 : xm_in x1) (h4 : xm_in x4) : xm_V X 0 0 (f_X2_gatherBodies_b19 K53 self σ x1 x2 x4) σ 19 [(0, .ref (xm_B (xx_G X) + 23)), (1, .int (xm_J x1)), (2, .long x2), (4, .int (xm_J x4))] [] := by
  unfold f_X2_gatherBodies_b19
  refine xg_iload hC dX2_gatherBodies_19 rfl ?_
  refine xg_aload_n hC dX2_gatherBodies_21 rfl ?_
  refine xg_getW hC (xm_hK hI rfl) rfl (xm_wK hI rfl) (by decide) xl_F_X2_26 dX2_gatherBodies_22 ?_
  refine xg_iload_n hC dX2_gatherBodies_25 rfl ?_
  refine xg_iconst hC dX2_gatherBodies_26 ?_
  refine xg_iadd hC dX2_gatherBodies_27 ?_
  refine xg_vI (xm_w_in _) (fun v8 k9 => ?_)
  refine xg_iald hC (xm_hK hI rfl) rfl k9 dX2_gatherBodies_28 (fun b10 k11 => ?_)
  refine xg_icmp_ge hC h4 k11 53 dX2_gatherBodies_29 rfl (fun c12 => ?_) (fun c13 => ?_)
  · refine xg_lload_n hC dX2_gatherBodies_32 rfl ?_
    refine xg_aload_n hC dX2_gatherBodies_33 rfl ?_
    refine xg_getW hC (xm_hK hI rfl) rfl (xm_wK hI rfl) (by decide) xl_F_X2_29 dX2_gatherBodies_34 ?_
    refine xg_aload_n hC dX2_gatherBodies_37 rfl ?_
    refine xg_getW hC (xm_hK hI rfl) rfl (xm_wK hI rfl) (by decide) xl_F_X2_23 dX2_gatherBodies_38 ?_
    refine xg_iload hC dX2_gatherBodies_41 rfl ?_
    refine xg_iald hC (xm_hK hI rfl) rfl h4 dX2_gatherBodies_43 (fun b14 k15 => ?_)
    refine xg_vI k15 (fun v16 k17 => ?_)
    refine xg_lald hC (xm_hK hI rfl) rfl k17 dX2_gatherBodies_44 (fun b18 => ?_)
    refine xg_lor hC dX2_gatherBodies_45 ?_
    refine xg_vJ (fun v20 => ?_)
    refine xg_lstore_n hC dX2_gatherBodies_46 (by decide) rfl ?_
    refine xg_iinc hC dX2_gatherBodies_47 (by decide) 3 rfl rfl ?_
    refine xg_goto hC 19 dX2_gatherBodies_50 rfl ?_
    exact xg_pick [2, 3, 1, 0] rfl (hself σ x1 v20 (xm_w (x4 + 1)) h1 (xm_w_in _))
  exact xg_pick [0, 1, 2] rfl (hK53 σ x1 x2 h1)
theorem w_X2_gatherBodies_l19 {X : xm_X} (hC : xm_C X yX2_gatherBodies.cls cX2_gatherBodies 5 1 0 0) (hQ : xm_Rt X 0 none 0 0) (hI : xx_I X = xm_I) {K53 : xm_Mem → Int → Int64 → Option xm_Out} (hK53 : ∀ (σ : xm_Mem) (x1 : Int) (x2 : Int64), xm_in x1 → xm_V X 0 0 (K53 σ x1 x2) σ 53 [(0, .ref (xm_B (xx_G X) + 23)), (1, .int (xm_J x1)), (2, .long x2)] []) (n : Nat) : ∀ (σ : xm_Mem) (x1 : Int) (x2 : Int64) (x4 : Int), xm_in x1 → xm_in x4 → xm_V X 0 0 (f_X2_gatherBodies_l19 K53 n σ x1 x2 x4) σ 19 [(0, .ref (xm_B (xx_G X) + 23)), (1, .int (xm_J x1)), (2, .long x2), (4, .int (xm_J x4))] [] := by
  induction n with
  | zero => intro σ x1 x2 x4 h1 h4; exact xg_none
  | succ n ih => intro σ x1 x2 x4 h1 h4; exact w_X2_gatherBodies_b19 hC hQ hI hK53 ih σ x1 x2 x4 h1 h4
theorem w_X2_gatherBodies_b3 {X : xm_X} (hC : xm_C X yX2_gatherBodies.cls cX2_gatherBodies 5 1 0 0) (hQ : xm_Rt X 0 none 0 0) (hI : xx_I X = xm_I)   {self : xm_Mem → Int → Option xm_Out} (hself : ∀ (σ : xm_Mem) (x1 : Int), xm_in x1 → xm_V X 0 0 (self σ x1) σ 3 [(0, .ref (xm_B (xx_G X) + 23)), (1, .int (xm_J x1))] []) (σ : xm_Mem) (x1 : Int) (h1 : xm_in x1) : xm_V X 0 0 (f_X2_gatherBodies_b3  self σ x1) σ 3 [(0, .ref (xm_B (xx_G X) + 23)), (1, .int (xm_J x1))] [] := by
  unfold f_X2_gatherBodies_b3
  refine xg_iload_n hC dX2_gatherBodies_3 rfl ?_
  refine xg_if_lt hC h1 66 dX2_gatherBodies_4 rfl (fun c1 => ?_) (fun c2 => ?_)
  · exact xg_vret hC hQ dX2_gatherBodies_66
  refine xg_lconst hC dX2_gatherBodies_7 (v := 1) rfl ?_
  refine xg_iload_n hC dX2_gatherBodies_8 rfl ?_
  refine xg_lshl hC dX2_gatherBodies_9 ?_
  refine xg_vJ (fun v3 => ?_)
  refine xg_lstore_n hC dX2_gatherBodies_10 (by decide) rfl ?_
  refine xg_aload_n hC dX2_gatherBodies_11 rfl ?_
  refine xg_getW hC (xm_hK hI rfl) rfl (xm_wK hI rfl) (by decide) xl_F_X2_26 dX2_gatherBodies_12 ?_
  refine xg_iload_n hC dX2_gatherBodies_15 rfl ?_
  refine xg_iald hC (xm_hK hI rfl) rfl h1 dX2_gatherBodies_16 (fun b4 k5 => ?_)
  refine xg_vI k5 (fun v6 k7 => ?_)
  refine xg_istore hC dX2_gatherBodies_17 (by decide) rfl ?_
  refine xg_pick [2, 3, 1, 0] rfl (w_X2_gatherBodies_l19 hC hQ hI ?_ _ σ x1 v3 v6 h1 k7)
  intro σ_21 x1_21 x2_21 h1_21
  refine xg_aload_n hC dX2_gatherBodies_53 rfl ?_
  refine xg_getW hC (xm_hK hI rfl) rfl (xm_wK hI rfl) (by decide) xl_F_X2_29 dX2_gatherBodies_54 ?_
  refine xg_iload_n hC dX2_gatherBodies_57 rfl ?_
  refine xg_lload_n hC dX2_gatherBodies_58 rfl ?_
  refine xg_last hC (xm_hK hI rfl) rfl h1_21 (xm_kp2 hI) dX2_gatherBodies_59 ?_
  refine xg_st (fun σ22 => ?_)
  refine xg_iinc hC dX2_gatherBodies_60 (by decide) 1 rfl rfl ?_
  refine xg_goto hC 3 dX2_gatherBodies_63 rfl ?_
  exact xg_pick [1, 0] rfl (hself σ22 (xm_w (x1_21 + (-1))) (xm_w_in _))
theorem w_X2_gatherBodies_l3 {X : xm_X} (hC : xm_C X yX2_gatherBodies.cls cX2_gatherBodies 5 1 0 0) (hQ : xm_Rt X 0 none 0 0) (hI : xx_I X = xm_I)   (n : Nat) : ∀ (σ : xm_Mem) (x1 : Int), xm_in x1 → xm_V X 0 0 (f_X2_gatherBodies_l3  n σ x1) σ 3 [(0, .ref (xm_B (xx_G X) + 23)), (1, .int (xm_J x1))] [] := by
  induction n with
  | zero => intro σ x1 h1; exact xg_none
  | succ n ih => intro σ x1 h1; exact w_X2_gatherBodies_b3 hC hQ hI ih σ x1 h1
theorem w_X2_gatherBodies {Γ : xm_Gm} {I : xm_Mem → Prop} {la : Launch} (hE : I = xm_I) (σ : xm_Mem)   : ∀ o, f_X2_gatherBodies σ  = some o → xm_M Γ I la yX2_gatherBodies cX2_gatherBodies 5 none 1 0 0 [.ref (xm_B Γ + 23)] σ 0 o := by
  refine xg_enter (by decide) (by simp [lg_sl, xm_rf_cat, xm_cati, xm_catr, xm_catl]) (fun X hG hI0 hla hC hQ hname => ?_)
  subst hG
  have hI := hI0.trans hE
  clear hI0 hla
  unfold f_X2_gatherBodies
  refine xg_pick [0] (l' := [(0, .ref (xm_B (xx_G X) + 23))]) rfl ?_
  refine xg_bipush hC dX2_gatherBodies_0 (by decide) ?_
  refine xg_istore_n hC dX2_gatherBodies_2 (by decide) rfl ?_
  exact xg_pick [1, 0] rfl (w_X2_gatherBodies_l3 hC hQ hI _ σ (63 : Int) (xm_inc _ rfl))
theorem w_X2_rebuild_j43 {X : xm_X} (hC : xm_C X yX2_rebuild.cls cX2_rebuild 3 5 0 0) (hQ : xm_Rt X 0 none 0 0) (hI : xx_I X = xm_I) {K7 : xm_Mem → Int → Option xm_Out} (hK7 : ∀ (σ : xm_Mem) (x2 : Int), xm_in x2 → xm_V X 0 0 (K7 σ x2) σ 7 [(0, .ref (xm_B (xx_G X) + 23)), (1, .ref (xm_B (xx_G X) + 18)), (2, .int (xm_J x2))] []) (σ : xm_Mem) (s0 : Int) (s1 : Int) (x2 : Int) (g0 : 0 ≤ s0 ∧ s0 ≤ 1) (g1 : xm_in s1) (h2 : xm_in x2) : xm_V X 0 0 (f_X2_rebuild_j43 K7 σ s0 s1 x2) σ 43 [(0, .ref (xm_B (xx_G X) + 23)), (1, .ref (xm_B (xx_G X) + 18)), (2, .int (xm_J x2))] [.int (xm_J s0), .int (xm_J s1), .ref (xm_B (xx_G X) + 24)] := by
  unfold f_X2_rebuild_j43
  refine xg_zast hC (xm_hK hI rfl) rfl g1 g0 (xm_kpF hI rfl) dX2_rebuild_43 ?_
  refine xg_st (fun σ8 => ?_)
  refine xg_aload_n hC dX2_rebuild_44 rfl ?_
  refine xg_getW hC (xm_hK hI rfl) rfl (xm_wK hI rfl) (by decide) xl_F_X2_33 dX2_rebuild_45 ?_
  refine xg_iload_n hC dX2_rebuild_48 rfl ?_
  refine xg_callV hC (ci := 4) (w_X5_has hI σ8 x2 h2) xl_M_X2_37 xl_V_X5_has (xm_hK (a := 9) (kd := 0) (n := 4) hI rfl).2 ((xm_hK (a := 9) (kd := 0) (n := 4) hI rfl).1 _) (by decide) rfl (by decide) ⟨by decide, by decide⟩ dX2_rebuild_49 (rest := []) rfl rfl (Nat.le_of_ble_eq_true rfl) rfl rfl (st2 := fun o => .int (xm_J o.2) :: []) (fun _ => rfl) (fun o9 k10 => ?_)
  refine xg_if_eq hC (xm_in01 k10) 60 dX2_rebuild_52 rfl (fun c11 => ?_) (fun c12 => ?_)
  · refine xg_iinc hC dX2_rebuild_60 (by decide) 2 rfl rfl ?_
    refine xg_goto hC 7 dX2_rebuild_63 rfl ?_
    exact xg_pick [1, 2, 0] rfl (hK7 o9.1 (xm_w (x2 + 1)) (xm_w_in _))
  refine xg_aload_n hC dX2_rebuild_55 rfl ?_
  refine xg_iload_n hC dX2_rebuild_56 rfl ?_
  refine xg_callV hC (ci := 1) (w_X2_sortIn hI o9.1 x2 h2) xl_M_X2_47 xl_V_X2_sortIn (xm_hK (a := 23) (kd := 0) (n := 1) hI rfl).2 ((xm_hK (a := 23) (kd := 0) (n := 1) hI rfl).1 _) (by decide) rfl (by decide) ⟨by decide, by decide⟩ dX2_rebuild_57 (rest := []) rfl rfl (Nat.le_of_ble_eq_true rfl) rfl rfl (st2 := fun o => []) (fun _ => rfl) (fun o13 k14 => ?_)
  refine xg_iinc hC dX2_rebuild_60 (by decide) 2 rfl rfl ?_
  refine xg_goto hC 7 dX2_rebuild_63 rfl ?_
  exact xg_pick [1, 2, 0] rfl (hK7 o13.1 (xm_w (x2 + 1)) (xm_w_in _))
theorem w_X2_rebuild_j42 {X : xm_X} (hC : xm_C X yX2_rebuild.cls cX2_rebuild 3 5 0 0) (hQ : xm_Rt X 0 none 0 0) (hI : xx_I X = xm_I) {K7 : xm_Mem → Int → Option xm_Out} (hK7 : ∀ (σ : xm_Mem) (x2 : Int), xm_in x2 → xm_V X 0 0 (K7 σ x2) σ 7 [(0, .ref (xm_B (xx_G X) + 23)), (1, .ref (xm_B (xx_G X) + 18)), (2, .int (xm_J x2))] []) (σ : xm_Mem) (s0 : Int) (x2 : Int) (g0 : xm_in s0) (h2 : xm_in x2) : xm_V X 0 0 (f_X2_rebuild_j42 K7 σ s0 x2) σ 42 [(0, .ref (xm_B (xx_G X) + 23)), (1, .ref (xm_B (xx_G X) + 18)), (2, .int (xm_J x2))] [.int (xm_J s0), .ref (xm_B (xx_G X) + 24)] := by
  unfold f_X2_rebuild_j42
  refine xg_iconst hC dX2_rebuild_42 ?_
  exact (w_X2_rebuild_j43 hC hQ hI hK7 σ (0 : Int) s0 x2 (by decide) g0 h2)
theorem w_X2_rebuild_b7 {X : xm_X} (hC : xm_C X yX2_rebuild.cls cX2_rebuild 3 5 0 0) (hQ : xm_Rt X 0 none 0 0) (hI : xx_I X = xm_I) {K66 : xm_Mem → Option xm_Out} (hK66 : ∀ (σ : xm_Mem), xm_V X 0 0 (K66 σ ) σ 66 [(0, .ref (xm_B (xx_G X) + 23))] []) {self : xm_Mem → Int → Option xm_Out} (hself : ∀ (σ : xm_Mem) (x2 : Int), xm_in x2 → xm_V X 0 0 (self σ x2) σ 7 [(0, .ref (xm_B (xx_G X) + 23)), (1, .ref (xm_B (xx_G X) + 18)), (2, .int (xm_J x2))] []) (σ : xm_Mem) (x2 : Int) (h2 : xm_in x2) : xm_V X 0 0 (f_X2_rebuild_b7 K66 self σ x2) σ 7 [(0, .ref (xm_B (xx_G X) + 23)), (1, .ref (xm_B (xx_G X) + 18)), (2, .int (xm_J x2))] [] := by
  unfold f_X2_rebuild_b7
  refine xg_iload_n hC dX2_rebuild_7 rfl ?_
  refine xg_bipush hC dX2_rebuild_8 (by decide) ?_
  refine xg_icmp_ge hC h2 (xm_inc _ rfl) 66 dX2_rebuild_10 rfl (fun c2 => ?_) (fun c3 => ?_)
  · refine xg_aload_n hC dX2_rebuild_13 rfl ?_
    refine xg_getW hC (xm_hK hI rfl) rfl (xm_wK hI rfl) (by decide) xl_F_X2_9 dX2_rebuild_14 ?_
    refine xg_iload_n hC dX2_rebuild_17 rfl ?_
    refine xg_aload_n hC dX2_rebuild_18 rfl ?_
    refine xg_getW hC (xm_hK hI rfl) rfl (xm_wK hI rfl) (by decide) xl_F_X2_33 dX2_rebuild_19 ?_
    refine xg_iload_n hC dX2_rebuild_22 rfl ?_
    refine xg_callV hC (ci := 4) (w_X5_has hI σ x2 h2) xl_M_X2_37 xl_V_X5_has (xm_hK (a := 9) (kd := 0) (n := 4) hI rfl).2 ((xm_hK (a := 9) (kd := 0) (n := 4) hI rfl).1 _) (by decide) rfl (by decide) ⟨by decide, by decide⟩ dX2_rebuild_23 (rest := [.int (xm_J x2), .ref (xm_B (xx_G X) + 24)]) rfl rfl (Nat.le_of_ble_eq_true rfl) rfl rfl (st2 := fun o => .int (xm_J o.2) :: [.int (xm_J x2), .ref (xm_B (xx_G X) + 24)]) (fun _ => rfl) (fun o4 k5 => ?_)
    refine xg_if_eq hC (xm_in01 k5) 42 dX2_rebuild_26 rfl (fun c6 => ?_) (fun c7 => ?_)
    · exact (w_X2_rebuild_j42 hC hQ hI hself o4.1 x2 x2 h2 h2)
    refine xg_aload_n hC dX2_rebuild_29 rfl ?_
    refine xg_iload_n hC dX2_rebuild_30 rfl ?_
    refine xg_aload_n hC dX2_rebuild_31 rfl ?_
    refine xg_callV hC (ci := 1) (w_X2_isBornLegit hI o4.1 x2 h2) xl_M_X2_43 xl_V_X2_isBornLegit (xm_hK (a := 23) (kd := 0) (n := 1) hI rfl).2 ((xm_hK (a := 23) (kd := 0) (n := 1) hI rfl).1 _) (by decide) rfl (by decide) ⟨by decide, by decide⟩ dX2_rebuild_32 (rest := [.int (xm_J x2), .ref (xm_B (xx_G X) + 24)]) rfl rfl (Nat.le_of_ble_eq_true rfl) rfl rfl (st2 := fun o => .int (xm_J o.2) :: [.int (xm_J x2), .ref (xm_B (xx_G X) + 24)]) (fun _ => rfl) (fun o15 k16 => ?_)
    refine xg_if_eq hC (xm_in01 k16) 42 dX2_rebuild_35 rfl (fun c17 => ?_) (fun c18 => ?_)
    · exact (w_X2_rebuild_j42 hC hQ hI hself o15.1 x2 x2 h2 h2)
    refine xg_iconst hC dX2_rebuild_38 ?_
    refine xg_goto hC 43 dX2_rebuild_39 rfl ?_
    exact (w_X2_rebuild_j43 hC hQ hI hself o15.1 (1 : Int) x2 x2 (by decide) h2 h2)
  exact xg_pick [0] rfl (hK66 σ)
theorem w_X2_rebuild_l7 {X : xm_X} (hC : xm_C X yX2_rebuild.cls cX2_rebuild 3 5 0 0) (hQ : xm_Rt X 0 none 0 0) (hI : xx_I X = xm_I) {K66 : xm_Mem → Option xm_Out} (hK66 : ∀ (σ : xm_Mem), xm_V X 0 0 (K66 σ ) σ 66 [(0, .ref (xm_B (xx_G X) + 23))] []) (n : Nat) : ∀ (σ : xm_Mem) (x2 : Int), xm_in x2 → xm_V X 0 0 (f_X2_rebuild_l7 K66 n σ x2) σ 7 [(0, .ref (xm_B (xx_G X) + 23)), (1, .ref (xm_B (xx_G X) + 18)), (2, .int (xm_J x2))] [] := by
  induction n with
  | zero => intro σ x2 h2; exact xg_none
  | succ n ih => intro σ x2 h2; exact w_X2_rebuild_b7 hC hQ hI hK66 ih σ x2 h2
theorem w_X2_rebuild {Γ : xm_Gm} {I : xm_Mem → Prop} {la : Launch} (hE : I = xm_I) (σ : xm_Mem)   : ∀ o, f_X2_rebuild σ  = some o → xm_M Γ I la yX2_rebuild cX2_rebuild 3 none 5 0 0 [.ref (xm_B Γ + 23), .ref (xm_B Γ + 18)] σ 0 o := by
  refine xg_enter (by decide) (by simp [lg_sl, xm_rf_cat, xm_cati, xm_catr, xm_catl]) (fun X hG hI0 hla hC hQ hname => ?_)
  subst hG
  have hI := hI0.trans hE
  clear hI0 hla
  unfold f_X2_rebuild
  refine xg_pick [0, 1] (l' := [(0, .ref (xm_B (xx_G X) + 23)), (1, .ref (xm_B (xx_G X) + 18))]) rfl ?_
  refine xg_aload_n hC dX2_rebuild_0 rfl ?_
  refine xg_iconst hC dX2_rebuild_1 ?_
  refine xg_putI hC (xm_hK hI rfl) rfl rfl (xm_inc _ rfl) (xm_kpK hI rfl) xl_F_X2_19 dX2_rebuild_2 ?_
  refine xg_st (fun σ1 => ?_)
  refine xg_iconst hC dX2_rebuild_5 ?_
  refine xg_istore_n hC dX2_rebuild_6 (by decide) rfl ?_
  refine xg_pick [1, 2, 0] rfl (w_X2_rebuild_l7 hC hQ hI ?_ _ σ1 (0 : Int) (xm_inc _ rfl))
  intro σ_19
  refine xg_aload_n hC dX2_rebuild_66 rfl ?_
  refine xg_callV hC (ci := 1) (w_X2_listKids hI σ_19 ) xl_M_X2_51 xl_V_X2_listKids (xm_hK (a := 23) (kd := 0) (n := 1) hI rfl).2 ((xm_hK (a := 23) (kd := 0) (n := 1) hI rfl).1 _) (by decide) rfl (by decide) ⟨by decide, by decide⟩ dX2_rebuild_67 (rest := []) rfl rfl (Nat.le_of_ble_eq_true rfl) rfl rfl (st2 := fun o => []) (fun _ => rfl) (fun o20 k21 => ?_)
  refine xg_aload_n hC dX2_rebuild_70 rfl ?_
  refine xg_callV hC (ci := 1) (w_X2_gatherBodies hI o20.1 ) xl_M_X2_54 xl_V_X2_gatherBodies (xm_hK (a := 23) (kd := 0) (n := 1) hI rfl).2 ((xm_hK (a := 23) (kd := 0) (n := 1) hI rfl).1 _) (by decide) rfl (by decide) ⟨by decide, by decide⟩ dX2_rebuild_71 (rest := []) rfl rfl (Nat.le_of_ble_eq_true rfl) rfl rfl (st2 := fun o => []) (fun _ => rfl) (fun o22 k23 => ?_)
  exact xg_vret hC hQ dX2_rebuild_74
theorem w_X4_forget {Γ : xm_Gm} {I : xm_Mem → Prop} {la : Launch} (hE : I = xm_I) (σ : xm_Mem)   : ∀ o, f_X4_forget σ  = some o → xm_M Γ I la yX4_forget cX4_forget 1 none 1 0 0 [.ref (xm_B Γ + 29)] σ 0 o := by
  refine xg_enter (by decide) (by simp [lg_sl, xm_rf_cat, xm_cati, xm_catr, xm_catl]) (fun X hG hI0 hla hC hQ hname => ?_)
  subst hG
  have hI := hI0.trans hE
  clear hI0 hla
  unfold f_X4_forget
  refine xg_pick [0] (l' := [(0, .ref (xm_B (xx_G X) + 29))]) rfl ?_
  refine xg_aload_n hC dX4_forget_0 rfl ?_
  refine xg_iconst hC dX4_forget_1 ?_
  refine xg_putI hC (xm_hK hI rfl) rfl rfl (xm_inc _ rfl) (xm_kpK hI rfl) xl_F_X4_19 dX4_forget_2 ?_
  refine xg_st (fun σ1 => ?_)
  refine xg_aload_n hC dX4_forget_5 rfl ?_
  refine xg_iconst hC dX4_forget_6 ?_
  refine xg_putI hC (xm_hK hI rfl) rfl rfl (xm_inc _ rfl) (xm_kpK hI rfl) xl_F_X4_22 dX4_forget_7 ?_
  refine xg_st (fun σ2 => ?_)
  exact xg_vret hC hQ dX4_forget_10
theorem w_X2_isLegit {Γ : xm_Gm} {I : xm_Mem → Prop} {la : Launch} (hE : I = xm_I) (σ : xm_Mem) (x1 : Int) (h1 : xm_in x1) : ∀ o, f_X2_isLegit σ x1 = some o → xm_M Γ I la yX2_isLegit cX2_isLegit 2 (some .boolean) 2 0 0 [.ref (xm_B Γ + 23), .int (xm_J x1)] σ 2 o := by
  refine xg_enter (by decide) (by simp [lg_sl, xm_rf_cat, xm_cati, xm_catr, xm_catl]) (fun X hG hI0 hla hC hQ hname => ?_)
  subst hG
  have hI := hI0.trans hE
  clear hI0 hla
  unfold f_X2_isLegit
  refine xg_pick [0, 1] (l' := [(0, .ref (xm_B (xx_G X) + 23)), (1, .int (xm_J x1))]) rfl ?_
  refine xg_iload_n hC dX2_isLegit_0 rfl ?_
  refine xg_callSN hC (w_X10_isPersonNumber hI σ x1 h1) xl_N_X2_80 xl_S_X10_isPersonNumber (by decide) ⟨by decide, by decide⟩ dX2_isLegit_1 (rest := []) rfl rfl (Nat.le_of_ble_eq_true rfl) rfl rfl (st2 := fun o => .int (xm_J o.2) :: []) (fun _ => rfl) (fun o1 k2 => ?_)
  refine xg_if_eq hC (xm_in01 k2) 20 dX2_isLegit_4 rfl (fun c3 => ?_) (fun c4 => ?_)
  · refine xg_iconst hC dX2_isLegit_20 ?_
    exact xg_zret hC hQ (by decide) dX2_isLegit_21
  refine xg_aload_n hC dX2_isLegit_7 rfl ?_
  refine xg_getW hC (xm_hK hI rfl) rfl (xm_wK hI rfl) (by decide) xl_F_X2_9 dX2_isLegit_8 ?_
  refine xg_iload_n hC dX2_isLegit_11 rfl ?_
  refine xg_zald hC (xm_hK hI rfl) rfl h1 dX2_isLegit_12 (fun b5 k6 => ?_)
  refine xg_if_eq hC (xm_in01 k6) 20 dX2_isLegit_13 rfl (fun c7 => ?_) (fun c8 => ?_)
  · refine xg_iconst hC dX2_isLegit_20 ?_
    exact xg_zret hC hQ (by decide) dX2_isLegit_21
  refine xg_iconst hC dX2_isLegit_16 ?_
  refine xg_goto hC 21 dX2_isLegit_17 rfl ?_
  exact xg_zret hC hQ (by decide) dX2_isLegit_21
theorem w_X2_kidCount {Γ : xm_Gm} {I : xm_Mem → Prop} {la : Launch} (hE : I = xm_I) (σ : xm_Mem) (x1 : Int) (h1 : xm_in x1) : ∀ o, f_X2_kidCount σ x1 = some o → xm_M Γ I la yX2_kidCount cX2_kidCount 2 (some .int) 1 0 0 [.ref (xm_B Γ + 23), .int (xm_J x1)] σ 1 o := by
  refine xg_enter (by decide) (by simp [lg_sl, xm_rf_cat, xm_cati, xm_catr, xm_catl]) (fun X hG hI0 hla hC hQ hname => ?_)
  subst hG
  have hI := hI0.trans hE
  clear hI0 hla
  unfold f_X2_kidCount
  refine xg_pick [0, 1] (l' := [(0, .ref (xm_B (xx_G X) + 23)), (1, .int (xm_J x1))]) rfl ?_
  refine xg_iload_n hC dX2_kidCount_0 rfl ?_
  refine xg_if_lt hC h1 28 dX2_kidCount_1 rfl (fun c1 => ?_) (fun c2 => ?_)
  · refine xg_iconst hC dX2_kidCount_28 ?_
    exact xg_iret hC hQ (xm_inc _ rfl) dX2_kidCount_29
  refine xg_iload_n hC dX2_kidCount_4 rfl ?_
  refine xg_bipush hC dX2_kidCount_5 (by decide) ?_
  refine xg_icmp_ge hC h1 (xm_inc _ rfl) 28 dX2_kidCount_7 rfl (fun c3 => ?_) (fun c4 => ?_)
  · refine xg_aload_n hC dX2_kidCount_10 rfl ?_
    refine xg_getW hC (xm_hK hI rfl) rfl (xm_wK hI rfl) (by decide) xl_F_X2_26 dX2_kidCount_11 ?_
    refine xg_iload_n hC dX2_kidCount_14 rfl ?_
    refine xg_iconst hC dX2_kidCount_15 ?_
    refine xg_iadd hC dX2_kidCount_16 ?_
    refine xg_vI (xm_w_in _) (fun v5 k6 => ?_)
    refine xg_iald hC (xm_hK hI rfl) rfl k6 dX2_kidCount_17 (fun b7 k8 => ?_)
    refine xg_aload_n hC dX2_kidCount_18 rfl ?_
    refine xg_getW hC (xm_hK hI rfl) rfl (xm_wK hI rfl) (by decide) xl_F_X2_26 dX2_kidCount_19 ?_
    refine xg_iload_n hC dX2_kidCount_22 rfl ?_
    refine xg_iald hC (xm_hK hI rfl) rfl h1 dX2_kidCount_23 (fun b9 k10 => ?_)
    refine xg_isub hC dX2_kidCount_24 ?_
    refine xg_goto hC 29 dX2_kidCount_25 rfl ?_
    exact xg_iret hC hQ (xm_w_in _) dX2_kidCount_29
  refine xg_iconst hC dX2_kidCount_28 ?_
  exact xg_iret hC hQ (xm_inc _ rfl) dX2_kidCount_29
theorem w_X2_kid {Γ : xm_Gm} {I : xm_Mem → Prop} {la : Launch} (hE : I = xm_I) (σ : xm_Mem) (x1 : Int) (x2 : Int) (h1 : xm_in x1) (h2 : xm_in x2) : ∀ o, f_X2_kid σ x1 x2 = some o → xm_M Γ I la yX2_kid cX2_kid 4 (some .int) 1 0 0 [.ref (xm_B Γ + 23), .int (xm_J x1), .int (xm_J x2)] σ 1 o := by
  refine xg_enter (by decide) (by simp [lg_sl, xm_rf_cat, xm_cati, xm_catr, xm_catl]) (fun X hG hI0 hla hC hQ hname => ?_)
  subst hG
  have hI := hI0.trans hE
  clear hI0 hla
  unfold f_X2_kid
  refine xg_pick [0, 1, 2] (l' := [(0, .ref (xm_B (xx_G X) + 23)), (1, .int (xm_J x1)), (2, .int (xm_J x2))]) rfl ?_
  refine xg_iload_n hC dX2_kid_0 rfl ?_
  refine xg_if_lt hC h1 14 dX2_kid_1 rfl (fun c1 => ?_) (fun c2 => ?_)
  · refine xg_iconst hC dX2_kid_14 ?_
    exact xg_iret hC hQ (xm_inc _ rfl) dX2_kid_15
  refine xg_iload_n hC dX2_kid_4 rfl ?_
  refine xg_bipush hC dX2_kid_5 (by decide) ?_
  refine xg_icmp_ge hC h1 (xm_inc _ rfl) 14 dX2_kid_7 rfl (fun c3 => ?_) (fun c4 => ?_)
  · refine xg_iload_n hC dX2_kid_10 rfl ?_
    refine xg_if_ge hC h2 16 dX2_kid_11 rfl (fun c5 => ?_) (fun c6 => ?_)
    · refine xg_iconst hC dX2_kid_14 ?_
      exact xg_iret hC hQ (xm_inc _ rfl) dX2_kid_15
    refine xg_aload_n hC dX2_kid_16 rfl ?_
    refine xg_getW hC (xm_hK hI rfl) rfl (xm_wK hI rfl) (by decide) xl_F_X2_26 dX2_kid_17 ?_
    refine xg_iload_n hC dX2_kid_20 rfl ?_
    refine xg_iald hC (xm_hK hI rfl) rfl h1 dX2_kid_21 (fun b7 k8 => ?_)
    refine xg_iload_n hC dX2_kid_22 rfl ?_
    refine xg_iadd hC dX2_kid_23 ?_
    refine xg_vI (xm_w_in _) (fun v9 k10 => ?_)
    refine xg_istore_n hC dX2_kid_24 (by decide) rfl ?_
    refine xg_iload_n hC dX2_kid_25 rfl ?_
    refine xg_aload_n hC dX2_kid_26 rfl ?_
    refine xg_getW hC (xm_hK hI rfl) rfl (xm_wK hI rfl) (by decide) xl_F_X2_26 dX2_kid_27 ?_
    refine xg_iload_n hC dX2_kid_30 rfl ?_
    refine xg_iconst hC dX2_kid_31 ?_
    refine xg_iadd hC dX2_kid_32 ?_
    refine xg_vI (xm_w_in _) (fun v11 k12 => ?_)
    refine xg_iald hC (xm_hK hI rfl) rfl k12 dX2_kid_33 (fun b13 k14 => ?_)
    refine xg_icmp_ge hC k10 k14 46 dX2_kid_34 rfl (fun c15 => ?_) (fun c16 => ?_)
    · refine xg_aload_n hC dX2_kid_37 rfl ?_
      refine xg_getW hC (xm_hK hI rfl) rfl (xm_wK hI rfl) (by decide) xl_F_X2_23 dX2_kid_38 ?_
      refine xg_iload_n hC dX2_kid_41 rfl ?_
      refine xg_iald hC (xm_hK hI rfl) rfl k10 dX2_kid_42 (fun b17 k18 => ?_)
      refine xg_goto hC 47 dX2_kid_43 rfl ?_
      exact xg_iret hC hQ k18 dX2_kid_47
    refine xg_iconst hC dX2_kid_46 ?_
    exact xg_iret hC hQ (xm_inc _ rfl) dX2_kid_47
  refine xg_iconst hC dX2_kid_14 ?_
  exact xg_iret hC hQ (xm_inc _ rfl) dX2_kid_15
theorem w_X4_countBirthsOfKids_j59 {X : xm_X} (hC : xm_C X yX4_countBirthsOfKids.cls cX4_countBirthsOfKids 4 2 0 0) (hQ : xm_Rt X 0 none 0 0) (hI : xx_I X = xm_I) {K2 : xm_Mem → Int → Int → Option xm_Out} (hK2 : ∀ (σ : xm_Mem) (x1 : Int) (x2 : Int), xm_in x1 → xm_in x2 → xm_V X 0 0 (K2 σ x1 x2) σ 2 [(0, .ref (xm_B (xx_G X) + 29)), (1, .int (xm_J x1)), (2, .int (xm_J x2))] []) (σ : xm_Mem) (x1 : Int) (x2 : Int) (x3 : Int) (h1 : xm_in x1) (h2 : xm_in x2) (h3 : xm_in x3) : xm_V X 0 0 (f_X4_countBirthsOfKids_j59 K2 σ x1 x2 x3) σ 59 [(0, .ref (xm_B (xx_G X) + 29)), (1, .int (xm_J x1)), (2, .int (xm_J x2)), (3, .int (xm_J x3))] [] := by
  unfold f_X4_countBirthsOfKids_j59
  refine xg_aload_n hC dX4_countBirthsOfKids_59 rfl ?_
  refine xg_getW hC (xm_hK hI rfl) rfl (xm_wK hI rfl) (by decide) xl_F_X4_31 dX4_countBirthsOfKids_60 ?_
  refine xg_iload_n hC dX4_countBirthsOfKids_63 rfl ?_
  refine xg_aload_n hC dX4_countBirthsOfKids_64 rfl ?_
  refine xg_getW hC (xm_hK hI rfl) rfl (xm_wK hI rfl) (by decide) xl_F_X4_31 dX4_countBirthsOfKids_65 ?_
  refine xg_iload_n hC dX4_countBirthsOfKids_68 rfl ?_
  refine xg_iald hC (xm_hK hI rfl) rfl h1 dX4_countBirthsOfKids_69 (fun b13 k14 => ?_)
  refine xg_iconst hC dX4_countBirthsOfKids_70 ?_
  refine xg_iadd hC dX4_countBirthsOfKids_71 ?_
  refine xg_iast hC (xm_hK hI rfl) rfl h3 (xm_w_in _) (xm_kpF hI rfl) dX4_countBirthsOfKids_72 ?_
  refine xg_st (fun σ15 => ?_)
  refine xg_iinc hC dX4_countBirthsOfKids_73 (by decide) 2 rfl rfl ?_
  refine xg_goto hC 2 dX4_countBirthsOfKids_76 rfl ?_
  exact xg_pick [1, 2, 0] rfl (hK2 σ15 x1 (xm_w (x2 + 1)) h1 (xm_w_in _))
theorem w_X4_countBirthsOfKids_b2 {X : xm_X} (hC : xm_C X yX4_countBirthsOfKids.cls cX4_countBirthsOfKids 4 2 0 0) (hQ : xm_Rt X 0 none 0 0) (hI : xx_I X = xm_I)   {self : xm_Mem → Int → Int → Option xm_Out} (hself : ∀ (σ : xm_Mem) (x1 : Int) (x2 : Int), xm_in x1 → xm_in x2 → xm_V X 0 0 (self σ x1 x2) σ 2 [(0, .ref (xm_B (xx_G X) + 29)), (1, .int (xm_J x1)), (2, .int (xm_J x2))] []) (σ : xm_Mem) (x1 : Int) (x2 : Int) (h1 : xm_in x1) (h2 : xm_in x2) : xm_V X 0 0 (f_X4_countBirthsOfKids_b2  self σ x1 x2) σ 2 [(0, .ref (xm_B (xx_G X) + 29)), (1, .int (xm_J x1)), (2, .int (xm_J x2))] [] := by
  unfold f_X4_countBirthsOfKids_b2
  refine xg_iload_n hC dX4_countBirthsOfKids_2 rfl ?_
  refine xg_aload_n hC dX4_countBirthsOfKids_3 rfl ?_
  refine xg_getW hC (xm_hK hI rfl) rfl (xm_wK hI rfl) (by decide) xl_F_X4_54 dX4_countBirthsOfKids_4 ?_
  refine xg_iload_n hC dX4_countBirthsOfKids_7 rfl ?_
  refine xg_callV hC (ci := 1) (w_X2_kidCount hI σ x1 h1) xl_M_X4_91 xl_V_X2_kidCount (xm_hK (a := 23) (kd := 0) (n := 1) hI rfl).2 ((xm_hK (a := 23) (kd := 0) (n := 1) hI rfl).1 _) (by decide) rfl (by decide) ⟨by decide, by decide⟩ dX4_countBirthsOfKids_8 (rest := [.int (xm_J x2)]) rfl rfl (Nat.le_of_ble_eq_true rfl) rfl rfl (st2 := fun o => .int (xm_J o.2) :: [.int (xm_J x2)]) (fun _ => rfl) (fun o1 k2 => ?_)
  refine xg_icmp_ge hC h2 k2 79 dX4_countBirthsOfKids_11 rfl (fun c3 => ?_) (fun c4 => ?_)
  · refine xg_aload_n hC dX4_countBirthsOfKids_14 rfl ?_
    refine xg_getW hC (xm_hK hI rfl) rfl (xm_wK hI rfl) (by decide) xl_F_X4_54 dX4_countBirthsOfKids_15 ?_
    refine xg_iload_n hC dX4_countBirthsOfKids_18 rfl ?_
    refine xg_iload_n hC dX4_countBirthsOfKids_19 rfl ?_
    refine xg_callV hC (ci := 1) (w_X2_kid hI o1.1 x1 x2 h1 h2) xl_M_X4_94 xl_V_X2_kid (xm_hK (a := 23) (kd := 0) (n := 1) hI rfl).2 ((xm_hK (a := 23) (kd := 0) (n := 1) hI rfl).1 _) (by decide) rfl (by decide) ⟨by decide, by decide⟩ dX4_countBirthsOfKids_20 (rest := []) rfl rfl (Nat.le_of_ble_eq_true rfl) rfl rfl (st2 := fun o => .int (xm_J o.2) :: []) (fun _ => rfl) (fun o5 k6 => ?_)
    refine xg_istore_n hC dX4_countBirthsOfKids_23 (by decide) rfl ?_
    refine xg_iload_n hC dX4_countBirthsOfKids_24 rfl ?_
    refine xg_iconst hC dX4_countBirthsOfKids_25 ?_
    refine xg_icmp_ne hC k6 (xm_inc _ rfl) 32 dX4_countBirthsOfKids_26 rfl (fun c7 => ?_) (fun c8 => ?_)
    · refine xg_goto hC 73 dX4_countBirthsOfKids_29 rfl ?_
      refine xg_iinc hC dX4_countBirthsOfKids_73 (by decide) 3 rfl rfl ?_
      refine xg_goto hC 2 dX4_countBirthsOfKids_76 rfl ?_
      exact xg_pick [2, 3, 0] rfl (hself o5.1 x1 (xm_w (x2 + 1)) h1 (xm_w_in _))
    refine xg_aload_n hC dX4_countBirthsOfKids_32 rfl ?_
    refine xg_getW hC (xm_hK hI rfl) rfl (xm_wK hI rfl) (by decide) xl_F_X4_31 dX4_countBirthsOfKids_33 ?_
    refine xg_iload_n hC dX4_countBirthsOfKids_36 rfl ?_
    refine xg_iald hC (xm_hK hI rfl) rfl k6 dX4_countBirthsOfKids_37 (fun b9 k10 => ?_)
    refine xg_iconst hC dX4_countBirthsOfKids_38 ?_
    refine xg_icmp_eq hC k10 (xm_inc _ rfl) 59 dX4_countBirthsOfKids_39 rfl (fun c11 => ?_) (fun c12 => ?_)
    · exact xg_pick [1, 2, 3, 0] rfl (w_X4_countBirthsOfKids_j59 hC hQ hI hself o5.1 x1 x2 o5.2 h1 h2 k6)
    refine xg_aload_n hC dX4_countBirthsOfKids_42 rfl ?_
    refine xg_getW hC (xm_hK hI rfl) rfl (xm_wK hI rfl) (by decide) xl_F_X4_31 dX4_countBirthsOfKids_43 ?_
    refine xg_iload_n hC dX4_countBirthsOfKids_46 rfl ?_
    refine xg_iald hC (xm_hK hI rfl) rfl k6 dX4_countBirthsOfKids_47 (fun b16 k17 => ?_)
    refine xg_aload_n hC dX4_countBirthsOfKids_48 rfl ?_
    refine xg_getW hC (xm_hK hI rfl) rfl (xm_wK hI rfl) (by decide) xl_F_X4_31 dX4_countBirthsOfKids_49 ?_
    refine xg_iload_n hC dX4_countBirthsOfKids_52 rfl ?_
    refine xg_iald hC (xm_hK hI rfl) rfl h1 dX4_countBirthsOfKids_53 (fun b18 k19 => ?_)
    refine xg_iconst hC dX4_countBirthsOfKids_54 ?_
    refine xg_iadd hC dX4_countBirthsOfKids_55 ?_
    refine xg_icmp_le hC k17 (xm_w_in _) 73 dX4_countBirthsOfKids_56 rfl (fun c20 => ?_) (fun c21 => ?_)
    · exact xg_pick [1, 2, 3, 0] rfl (w_X4_countBirthsOfKids_j59 hC hQ hI hself o5.1 x1 x2 o5.2 h1 h2 k6)
    refine xg_iinc hC dX4_countBirthsOfKids_73 (by decide) 3 rfl rfl ?_
    refine xg_goto hC 2 dX4_countBirthsOfKids_76 rfl ?_
    exact xg_pick [2, 3, 0] rfl (hself o5.1 x1 (xm_w (x2 + 1)) h1 (xm_w_in _))
  exact xg_vret hC hQ dX4_countBirthsOfKids_79
theorem w_X4_countBirthsOfKids_l2 {X : xm_X} (hC : xm_C X yX4_countBirthsOfKids.cls cX4_countBirthsOfKids 4 2 0 0) (hQ : xm_Rt X 0 none 0 0) (hI : xx_I X = xm_I)   (n : Nat) : ∀ (σ : xm_Mem) (x1 : Int) (x2 : Int), xm_in x1 → xm_in x2 → xm_V X 0 0 (f_X4_countBirthsOfKids_l2  n σ x1 x2) σ 2 [(0, .ref (xm_B (xx_G X) + 29)), (1, .int (xm_J x1)), (2, .int (xm_J x2))] [] := by
  induction n with
  | zero => intro σ x1 x2 h1 h2; exact xg_none
  | succ n ih => intro σ x1 x2 h1 h2; exact w_X4_countBirthsOfKids_b2 hC hQ hI ih σ x1 x2 h1 h2
theorem w_X4_countBirthsOfKids {Γ : xm_Gm} {I : xm_Mem → Prop} {la : Launch} (hE : I = xm_I) (σ : xm_Mem) (x1 : Int) (h1 : xm_in x1) : ∀ o, f_X4_countBirthsOfKids σ x1 = some o → xm_M Γ I la yX4_countBirthsOfKids cX4_countBirthsOfKids 4 none 2 0 0 [.ref (xm_B Γ + 29), .int (xm_J x1)] σ 0 o := by
  refine xg_enter (by decide) (by simp [lg_sl, xm_rf_cat, xm_cati, xm_catr, xm_catl]) (fun X hG hI0 hla hC hQ hname => ?_)
  subst hG
  have hI := hI0.trans hE
  clear hI0 hla
  unfold f_X4_countBirthsOfKids
  refine xg_pick [0, 1] (l' := [(0, .ref (xm_B (xx_G X) + 29)), (1, .int (xm_J x1))]) rfl ?_
  refine xg_iconst hC dX4_countBirthsOfKids_0 ?_
  refine xg_istore_n hC dX4_countBirthsOfKids_1 (by decide) rfl ?_
  exact xg_pick [1, 2, 0] rfl (w_X4_countBirthsOfKids_l2 hC hQ hI _ σ x1 (0 : Int) h1 (xm_inc _ rfl))
theorem w_X2_size {Γ : xm_Gm} {I : xm_Mem → Prop} {la : Launch} (hE : I = xm_I) (σ : xm_Mem)   : ∀ o, f_X2_size σ  = some o → xm_M Γ I la yX2_size cX2_size 1 (some .int) 1 0 0 [.ref (xm_B Γ + 23)] σ 1 o := by
  refine xg_enter (by decide) (by simp [lg_sl, xm_rf_cat, xm_cati, xm_catr, xm_catl]) (fun X hG hI0 hla hC hQ hname => ?_)
  subst hG
  have hI := hI0.trans hE
  clear hI0 hla
  unfold f_X2_size
  refine xg_pick [0] (l' := [(0, .ref (xm_B (xx_G X) + 23))]) rfl ?_
  refine xg_aload_n hC dX2_size_0 rfl ?_
  refine xg_getI hC (xm_hK hI rfl) rfl xl_F_X2_19 dX2_size_1 (fun k1 => ?_)
  exact xg_iret hC hQ k1 dX2_size_4
theorem w_X2_byAge {Γ : xm_Gm} {I : xm_Mem → Prop} {la : Launch} (hE : I = xm_I) (σ : xm_Mem) (x1 : Int) (h1 : xm_in x1) : ∀ o, f_X2_byAge σ x1 = some o → xm_M Γ I la yX2_byAge cX2_byAge 2 (some .int) 1 0 0 [.ref (xm_B Γ + 23), .int (xm_J x1)] σ 1 o := by
  refine xg_enter (by decide) (by simp [lg_sl, xm_rf_cat, xm_cati, xm_catr, xm_catl]) (fun X hG hI0 hla hC hQ hname => ?_)
  subst hG
  have hI := hI0.trans hE
  clear hI0 hla
  unfold f_X2_byAge
  refine xg_pick [0, 1] (l' := [(0, .ref (xm_B (xx_G X) + 23)), (1, .int (xm_J x1))]) rfl ?_
  refine xg_iload_n hC dX2_byAge_0 rfl ?_
  refine xg_if_lt hC h1 21 dX2_byAge_1 rfl (fun c1 => ?_) (fun c2 => ?_)
  · refine xg_iconst hC dX2_byAge_21 ?_
    exact xg_iret hC hQ (xm_inc _ rfl) dX2_byAge_22
  refine xg_iload_n hC dX2_byAge_4 rfl ?_
  refine xg_aload_n hC dX2_byAge_5 rfl ?_
  refine xg_getI hC (xm_hK hI rfl) rfl xl_F_X2_19 dX2_byAge_6 (fun k3 => ?_)
  refine xg_icmp_ge hC h1 k3 21 dX2_byAge_9 rfl (fun c4 => ?_) (fun c5 => ?_)
  · refine xg_aload_n hC dX2_byAge_12 rfl ?_
    refine xg_getW hC (xm_hK hI rfl) rfl (xm_wK hI rfl) (by decide) xl_F_X2_15 dX2_byAge_13 ?_
    refine xg_iload_n hC dX2_byAge_16 rfl ?_
    refine xg_iald hC (xm_hK hI rfl) rfl h1 dX2_byAge_17 (fun b6 k7 => ?_)
    refine xg_goto hC 22 dX2_byAge_18 rfl ?_
    exact xg_iret hC hQ k7 dX2_byAge_22
  refine xg_iconst hC dX2_byAge_21 ?_
  exact xg_iret hC hQ (xm_inc _ rfl) dX2_byAge_22
theorem w_X4_orderByBirths_b10 {X : xm_X} (hC : xm_C X yX4_orderByBirths.cls cX4_orderByBirths 5 3 0 0) (hQ : xm_Rt X 0 none 0 0) (hI : xx_I X = xm_I) {K38 : xm_Mem → Int → Option xm_Out} (hK38 : ∀ (σ : xm_Mem) (x1 : Int), xm_in x1 → xm_V X 0 0 (K38 σ x1) σ 38 [(0, .ref (xm_B (xx_G X) + 29)), (1, .int (xm_J x1))] []) {self : xm_Mem → Int → Int → Option xm_Out} (hself : ∀ (σ : xm_Mem) (x1 : Int) (x2 : Int), xm_in x1 → xm_in x2 → xm_V X 0 0 (self σ x1 x2) σ 10 [(0, .ref (xm_B (xx_G X) + 29)), (1, .int (xm_J x1)), (2, .int (xm_J x2))] []) (σ : xm_Mem) (x1 : Int) (x2 : Int) (h1 : xm_in x1) (h2 : xm_in x2) : xm_V X 0 0 (f_X4_orderByBirths_b10 K38 self σ x1 x2) σ 10 [(0, .ref (xm_B (xx_G X) + 29)), (1, .int (xm_J x1)), (2, .int (xm_J x2))] [] := by
  unfold f_X4_orderByBirths_b10
  refine xg_iload_n hC dX4_orderByBirths_10 rfl ?_
  refine xg_bipush hC dX4_orderByBirths_11 (by decide) ?_
  refine xg_icmp_ge hC h2 (xm_inc _ rfl) 38 dX4_orderByBirths_13 rfl (fun c5 => ?_) (fun c6 => ?_)
  · refine xg_aload_n hC dX4_orderByBirths_16 rfl ?_
    refine xg_getW hC (xm_hK hI rfl) rfl (xm_wK hI rfl) (by decide) xl_F_X4_31 dX4_orderByBirths_17 ?_
    refine xg_iload_n hC dX4_orderByBirths_20 rfl ?_
    refine xg_iload_n hC dX4_orderByBirths_21 rfl ?_
    refine xg_iload_n hC dX4_orderByBirths_22 rfl ?_
    refine xg_icmp_ne hC h2 h1 30 dX4_orderByBirths_23 rfl (fun c7 => ?_) (fun c8 => ?_)
    · refine xg_iconst hC dX4_orderByBirths_26 ?_
      refine xg_goto hC 31 dX4_orderByBirths_27 rfl ?_
      refine xg_iast hC (xm_hK hI rfl) rfl h2 (xm_inc _ rfl) (xm_kpF hI rfl) dX4_orderByBirths_31 ?_
      refine xg_st (fun σ9 => ?_)
      refine xg_iinc hC dX4_orderByBirths_32 (by decide) 2 rfl rfl ?_
      refine xg_goto hC 10 dX4_orderByBirths_35 rfl ?_
      exact xg_pick [1, 2, 0] rfl (hself σ9 x1 (xm_w (x2 + 1)) h1 (xm_w_in _))
    refine xg_iconst hC dX4_orderByBirths_30 ?_
    refine xg_iast hC (xm_hK hI rfl) rfl h2 (xm_inc _ rfl) (xm_kpF hI rfl) dX4_orderByBirths_31 ?_
    refine xg_st (fun σ10 => ?_)
    refine xg_iinc hC dX4_orderByBirths_32 (by decide) 2 rfl rfl ?_
    refine xg_goto hC 10 dX4_orderByBirths_35 rfl ?_
    exact xg_pick [1, 2, 0] rfl (hself σ10 x1 (xm_w (x2 + 1)) h1 (xm_w_in _))
  exact xg_pick [0, 1] rfl (hK38 σ x1 h1)
theorem w_X4_orderByBirths_l10 {X : xm_X} (hC : xm_C X yX4_orderByBirths.cls cX4_orderByBirths 5 3 0 0) (hQ : xm_Rt X 0 none 0 0) (hI : xx_I X = xm_I) {K38 : xm_Mem → Int → Option xm_Out} (hK38 : ∀ (σ : xm_Mem) (x1 : Int), xm_in x1 → xm_V X 0 0 (K38 σ x1) σ 38 [(0, .ref (xm_B (xx_G X) + 29)), (1, .int (xm_J x1))] []) (n : Nat) : ∀ (σ : xm_Mem) (x1 : Int) (x2 : Int), xm_in x1 → xm_in x2 → xm_V X 0 0 (f_X4_orderByBirths_l10 K38 n σ x1 x2) σ 10 [(0, .ref (xm_B (xx_G X) + 29)), (1, .int (xm_J x1)), (2, .int (xm_J x2))] [] := by
  induction n with
  | zero => intro σ x1 x2 h1 h2; exact xg_none
  | succ n ih => intro σ x1 x2 h1 h2; exact w_X4_orderByBirths_b10 hC hQ hI hK38 ih σ x1 x2 h1 h2
theorem w_X4_orderByBirths_b40 {X : xm_X} (hC : xm_C X yX4_orderByBirths.cls cX4_orderByBirths 5 3 0 0) (hQ : xm_Rt X 0 none 0 0) (hI : xx_I X = xm_I) {K67 : xm_Mem → Option xm_Out} (hK67 : ∀ (σ : xm_Mem), xm_V X 0 0 (K67 σ ) σ 67 [(0, .ref (xm_B (xx_G X) + 29))] []) {self : xm_Mem → Int → Option xm_Out} (hself : ∀ (σ : xm_Mem) (x2 : Int), xm_in x2 → xm_V X 0 0 (self σ x2) σ 40 [(0, .ref (xm_B (xx_G X) + 29)), (2, .int (xm_J x2))] []) (σ : xm_Mem) (x2 : Int) (h2 : xm_in x2) : xm_V X 0 0 (f_X4_orderByBirths_b40 K67 self σ x2) σ 40 [(0, .ref (xm_B (xx_G X) + 29)), (2, .int (xm_J x2))] [] := by
  unfold f_X4_orderByBirths_b40
  refine xg_iload_n hC dX4_orderByBirths_40 rfl ?_
  refine xg_bipush hC dX4_orderByBirths_41 (by decide) ?_
  refine xg_icmp_ge hC h2 (xm_inc _ rfl) 67 dX4_orderByBirths_43 rfl (fun c12 => ?_) (fun c13 => ?_)
  · refine xg_aload_n hC dX4_orderByBirths_46 rfl ?_
    refine xg_getW hC (xm_hK hI rfl) rfl (xm_wK hI rfl) (by decide) xl_F_X4_31 dX4_orderByBirths_47 ?_
    refine xg_iload_n hC dX4_orderByBirths_50 rfl ?_
    refine xg_iald hC (xm_hK hI rfl) rfl h2 dX4_orderByBirths_51 (fun b14 k15 => ?_)
    refine xg_iconst hC dX4_orderByBirths_52 ?_
    refine xg_icmp_eq hC k15 (xm_inc _ rfl) 61 dX4_orderByBirths_53 rfl (fun c16 => ?_) (fun c17 => ?_)
    · refine xg_iinc hC dX4_orderByBirths_61 (by decide) 1 rfl rfl ?_
      refine xg_goto hC 40 dX4_orderByBirths_64 rfl ?_
      exact xg_pick [1, 0] rfl (hself σ (xm_w (x2 + 1)) (xm_w_in _))
    refine xg_aload_n hC dX4_orderByBirths_56 rfl ?_
    refine xg_iload_n hC dX4_orderByBirths_57 rfl ?_
    refine xg_callV hC (ci := 3) (w_X4_countBirthsOfKids hI σ x2 h2) xl_M_X4_79 xl_V_X4_countBirthsOfKids (xm_hK (a := 29) (kd := 0) (n := 3) hI rfl).2 ((xm_hK (a := 29) (kd := 0) (n := 3) hI rfl).1 _) (by decide) rfl (by decide) ⟨by decide, by decide⟩ dX4_orderByBirths_58 (rest := []) rfl rfl (Nat.le_of_ble_eq_true rfl) rfl rfl (st2 := fun o => []) (fun _ => rfl) (fun o18 k19 => ?_)
    refine xg_iinc hC dX4_orderByBirths_61 (by decide) 1 rfl rfl ?_
    refine xg_goto hC 40 dX4_orderByBirths_64 rfl ?_
    exact xg_pick [1, 0] rfl (hself o18.1 (xm_w (x2 + 1)) (xm_w_in _))
  exact xg_pick [0] rfl (hK67 σ)
theorem w_X4_orderByBirths_l40 {X : xm_X} (hC : xm_C X yX4_orderByBirths.cls cX4_orderByBirths 5 3 0 0) (hQ : xm_Rt X 0 none 0 0) (hI : xx_I X = xm_I) {K67 : xm_Mem → Option xm_Out} (hK67 : ∀ (σ : xm_Mem), xm_V X 0 0 (K67 σ ) σ 67 [(0, .ref (xm_B (xx_G X) + 29))] []) (n : Nat) : ∀ (σ : xm_Mem) (x2 : Int), xm_in x2 → xm_V X 0 0 (f_X4_orderByBirths_l40 K67 n σ x2) σ 40 [(0, .ref (xm_B (xx_G X) + 29)), (2, .int (xm_J x2))] [] := by
  induction n with
  | zero => intro σ x2 h2; exact xg_none
  | succ n ih => intro σ x2 h2; exact w_X4_orderByBirths_b40 hC hQ hI hK67 ih σ x2 h2
theorem w_X4_orderByBirths_b77 {X : xm_X} (hC : xm_C X yX4_orderByBirths.cls cX4_orderByBirths 5 3 0 0) (hQ : xm_Rt X 0 none 0 0) (hI : xx_I X = xm_I) {K148 : xm_Mem → Int → Option xm_Out} (hK148 : ∀ (σ : xm_Mem) (x2 : Int), xm_in x2 → xm_V X 0 0 (K148 σ x2) σ 148 [(0, .ref (xm_B (xx_G X) + 29)), (2, .int (xm_J x2))] []) {self : xm_Mem → Int → Int → Option xm_Out} (hself : ∀ (σ : xm_Mem) (x2 : Int) (x3 : Int), xm_in x2 → xm_in x3 → xm_V X 0 0 (self σ x2 x3) σ 77 [(0, .ref (xm_B (xx_G X) + 29)), (2, .int (xm_J x2)), (3, .int (xm_J x3))] []) (σ : xm_Mem) (x2 : Int) (x3 : Int) (h2 : xm_in x2) (h3 : xm_in x3) : xm_V X 0 0 (f_X4_orderByBirths_b77 K148 self σ x2 x3) σ 77 [(0, .ref (xm_B (xx_G X) + 29)), (2, .int (xm_J x2)), (3, .int (xm_J x3))] [] := by
  unfold f_X4_orderByBirths_b77
  refine xg_iload_n hC dX4_orderByBirths_77 rfl ?_
  refine xg_aload_n hC dX4_orderByBirths_78 rfl ?_
  refine xg_getW hC (xm_hK hI rfl) rfl (xm_wK hI rfl) (by decide) xl_F_X4_54 dX4_orderByBirths_79 ?_
  refine xg_callV hC (ci := 1) (w_X2_size hI σ ) xl_M_X4_82 xl_V_X2_size (xm_hK (a := 23) (kd := 0) (n := 1) hI rfl).2 ((xm_hK (a := 23) (kd := 0) (n := 1) hI rfl).1 _) (by decide) rfl (by decide) ⟨by decide, by decide⟩ dX4_orderByBirths_82 (rest := [.int (xm_J x3)]) rfl rfl (Nat.le_of_ble_eq_true rfl) rfl rfl (st2 := fun o => .int (xm_J o.2) :: [.int (xm_J x3)]) (fun _ => rfl) (fun o23 k24 => ?_)
  refine xg_icmp_ge hC h3 k24 148 dX4_orderByBirths_85 rfl (fun c25 => ?_) (fun c26 => ?_)
  · refine xg_aload_n hC dX4_orderByBirths_88 rfl ?_
    refine xg_getW hC (xm_hK hI rfl) rfl (xm_wK hI rfl) (by decide) xl_F_X4_54 dX4_orderByBirths_89 ?_
    refine xg_iload_n hC dX4_orderByBirths_92 rfl ?_
    refine xg_callV hC (ci := 1) (w_X2_byAge hI o23.1 x3 h3) xl_M_X4_87 xl_V_X2_byAge (xm_hK (a := 23) (kd := 0) (n := 1) hI rfl).2 ((xm_hK (a := 23) (kd := 0) (n := 1) hI rfl).1 _) (by decide) rfl (by decide) ⟨by decide, by decide⟩ dX4_orderByBirths_93 (rest := []) rfl rfl (Nat.le_of_ble_eq_true rfl) rfl rfl (st2 := fun o => .int (xm_J o.2) :: []) (fun _ => rfl) (fun o27 k28 => ?_)
    refine xg_istore hC dX4_orderByBirths_96 (by decide) rfl ?_
    refine xg_iload hC dX4_orderByBirths_98 rfl ?_
    refine xg_iconst hC dX4_orderByBirths_100 ?_
    refine xg_icmp_eq hC k28 (xm_inc _ rfl) 142 dX4_orderByBirths_101 rfl (fun c29 => ?_) (fun c30 => ?_)
    · refine xg_iinc hC dX4_orderByBirths_142 (by decide) 3 rfl rfl ?_
      refine xg_goto hC 77 dX4_orderByBirths_145 rfl ?_
      exact xg_pick [2, 3, 0] rfl (hself o27.1 x2 (xm_w (x3 + 1)) h2 (xm_w_in _))
    refine xg_aload_n hC dX4_orderByBirths_104 rfl ?_
    refine xg_getW hC (xm_hK hI rfl) rfl (xm_wK hI rfl) (by decide) xl_F_X4_31 dX4_orderByBirths_105 ?_
    refine xg_iload hC dX4_orderByBirths_108 rfl ?_
    refine xg_iald hC (xm_hK hI rfl) rfl k28 dX4_orderByBirths_110 (fun b31 k32 => ?_)
    refine xg_iload_n hC dX4_orderByBirths_111 rfl ?_
    refine xg_icmp_ne hC k32 h2 142 dX4_orderByBirths_112 rfl (fun c33 => ?_) (fun c34 => ?_)
    · refine xg_aload_n hC dX4_orderByBirths_115 rfl ?_
      refine xg_getI hC (xm_hK hI rfl) rfl xl_F_X4_15 dX4_orderByBirths_116 (fun k35 => ?_)
      refine xg_bipush hC dX4_orderByBirths_119 (by decide) ?_
      refine xg_icmp_ge hC k35 (xm_inc _ rfl) 142 dX4_orderByBirths_121 rfl (fun c36 => ?_) (fun c37 => ?_)
      · refine xg_aload_n hC dX4_orderByBirths_124 rfl ?_
        refine xg_getW hC (xm_hK hI rfl) rfl (xm_wK hI rfl) (by decide) xl_F_X4_9 dX4_orderByBirths_125 ?_
        refine xg_aload_n hC dX4_orderByBirths_128 rfl ?_
        refine xg_dup hC dX4_orderByBirths_129 rfl ?_
        refine xg_getI hC (xm_hK hI rfl) rfl xl_F_X4_15 dX4_orderByBirths_130 (fun k38 => ?_)
        refine xg_vI k38 (fun v39 k40 => ?_)
        refine xg_dup_x1 hC dX4_orderByBirths_133 rfl rfl ?_
        refine xg_iconst hC dX4_orderByBirths_134 ?_
        refine xg_iadd hC dX4_orderByBirths_135 ?_
        refine xg_putI hC (xm_hK hI rfl) rfl rfl (xm_w_in _) (xm_kpK hI rfl) xl_F_X4_15 dX4_orderByBirths_136 ?_
        refine xg_st (fun σ41 => ?_)
        refine xg_iload hC dX4_orderByBirths_139 rfl ?_
        refine xg_iast hC (xm_hK hI rfl) rfl k40 k28 (xm_kpF hI rfl) dX4_orderByBirths_141 ?_
        refine xg_st (fun σ42 => ?_)
        refine xg_iinc hC dX4_orderByBirths_142 (by decide) 3 rfl rfl ?_
        refine xg_goto hC 77 dX4_orderByBirths_145 rfl ?_
        exact xg_pick [2, 3, 0] rfl (hself σ42 x2 (xm_w (x3 + 1)) h2 (xm_w_in _))
      refine xg_iinc hC dX4_orderByBirths_142 (by decide) 3 rfl rfl ?_
      refine xg_goto hC 77 dX4_orderByBirths_145 rfl ?_
      exact xg_pick [2, 3, 0] rfl (hself o27.1 x2 (xm_w (x3 + 1)) h2 (xm_w_in _))
    refine xg_iinc hC dX4_orderByBirths_142 (by decide) 3 rfl rfl ?_
    refine xg_goto hC 77 dX4_orderByBirths_145 rfl ?_
    exact xg_pick [2, 3, 0] rfl (hself o27.1 x2 (xm_w (x3 + 1)) h2 (xm_w_in _))
  exact xg_pick [0, 1] rfl (hK148 o23.1 x2 h2)
theorem w_X4_orderByBirths_l77 {X : xm_X} (hC : xm_C X yX4_orderByBirths.cls cX4_orderByBirths 5 3 0 0) (hQ : xm_Rt X 0 none 0 0) (hI : xx_I X = xm_I) {K148 : xm_Mem → Int → Option xm_Out} (hK148 : ∀ (σ : xm_Mem) (x2 : Int), xm_in x2 → xm_V X 0 0 (K148 σ x2) σ 148 [(0, .ref (xm_B (xx_G X) + 29)), (2, .int (xm_J x2))] []) (n : Nat) : ∀ (σ : xm_Mem) (x2 : Int) (x3 : Int), xm_in x2 → xm_in x3 → xm_V X 0 0 (f_X4_orderByBirths_l77 K148 n σ x2 x3) σ 77 [(0, .ref (xm_B (xx_G X) + 29)), (2, .int (xm_J x2)), (3, .int (xm_J x3))] [] := by
  induction n with
  | zero => intro σ x2 x3 h2 h3; exact xg_none
  | succ n ih => intro σ x2 x3 h2 h3; exact w_X4_orderByBirths_b77 hC hQ hI hK148 ih σ x2 x3 h2 h3
theorem w_X4_orderByBirths_b69 {X : xm_X} (hC : xm_C X yX4_orderByBirths.cls cX4_orderByBirths 5 3 0 0) (hQ : xm_Rt X 0 none 0 0) (hI : xx_I X = xm_I)   {self : xm_Mem → Int → Option xm_Out} (hself : ∀ (σ : xm_Mem) (x2 : Int), xm_in x2 → xm_V X 0 0 (self σ x2) σ 69 [(0, .ref (xm_B (xx_G X) + 29)), (2, .int (xm_J x2))] []) (σ : xm_Mem) (x2 : Int) (h2 : xm_in x2) : xm_V X 0 0 (f_X4_orderByBirths_b69  self σ x2) σ 69 [(0, .ref (xm_B (xx_G X) + 29)), (2, .int (xm_J x2))] [] := by
  unfold f_X4_orderByBirths_b69
  refine xg_iload_n hC dX4_orderByBirths_69 rfl ?_
  refine xg_bipush hC dX4_orderByBirths_70 (by decide) ?_
  refine xg_icmp_ge hC h2 (xm_inc _ rfl) 154 dX4_orderByBirths_72 rfl (fun c21 => ?_) (fun c22 => ?_)
  · refine xg_iconst hC dX4_orderByBirths_75 ?_
    refine xg_istore_n hC dX4_orderByBirths_76 (by decide) rfl ?_
    refine xg_pick [1, 2, 0] rfl (w_X4_orderByBirths_l77 hC hQ hI ?_ _ σ x2 (0 : Int) h2 (xm_inc _ rfl))
    intro σ_43 x2_43 h2_43
    refine xg_iinc hC dX4_orderByBirths_148 (by decide) 1 rfl rfl ?_
    refine xg_goto hC 69 dX4_orderByBirths_151 rfl ?_
    exact xg_pick [1, 0] rfl (hself σ_43 (xm_w (x2_43 + 1)) (xm_w_in _))
  exact xg_vret hC hQ dX4_orderByBirths_154
theorem w_X4_orderByBirths_l69 {X : xm_X} (hC : xm_C X yX4_orderByBirths.cls cX4_orderByBirths 5 3 0 0) (hQ : xm_Rt X 0 none 0 0) (hI : xx_I X = xm_I)   (n : Nat) : ∀ (σ : xm_Mem) (x2 : Int), xm_in x2 → xm_V X 0 0 (f_X4_orderByBirths_l69  n σ x2) σ 69 [(0, .ref (xm_B (xx_G X) + 29)), (2, .int (xm_J x2))] [] := by
  induction n with
  | zero => intro σ x2 h2; exact xg_none
  | succ n ih => intro σ x2 h2; exact w_X4_orderByBirths_b69 hC hQ hI ih σ x2 h2
theorem w_X4_orderByBirths {Γ : xm_Gm} {I : xm_Mem → Prop} {la : Launch} (hE : I = xm_I) (σ : xm_Mem) (x1 : Int) (h1 : xm_in x1) : ∀ o, f_X4_orderByBirths σ x1 = some o → xm_M Γ I la yX4_orderByBirths cX4_orderByBirths 5 none 3 0 0 [.ref (xm_B Γ + 29), .int (xm_J x1)] σ 0 o := by
  refine xg_enter (by decide) (by simp [lg_sl, xm_rf_cat, xm_cati, xm_catr, xm_catl]) (fun X hG hI0 hla hC hQ hname => ?_)
  subst hG
  have hI := hI0.trans hE
  clear hI0 hla
  unfold f_X4_orderByBirths
  refine xg_pick [0, 1] (l' := [(0, .ref (xm_B (xx_G X) + 29)), (1, .int (xm_J x1))]) rfl ?_
  refine xg_iload_n hC dX4_orderByBirths_0 rfl ?_
  refine xg_callSN hC (w_X10_isPersonNumber hI σ x1 h1) xl_N_X4_76 xl_S_X10_isPersonNumber (by decide) ⟨by decide, by decide⟩ dX4_orderByBirths_1 (rest := []) rfl rfl (Nat.le_of_ble_eq_true rfl) rfl rfl (st2 := fun o => .int (xm_J o.2) :: []) (fun _ => rfl) (fun o1 k2 => ?_)
  refine xg_if_ne hC (xm_in01 k2) 8 dX4_orderByBirths_4 rfl (fun c3 => ?_) (fun c4 => ?_)
  · exact xg_vret hC hQ dX4_orderByBirths_7
  refine xg_iconst hC dX4_orderByBirths_8 ?_
  refine xg_istore_n hC dX4_orderByBirths_9 (by decide) rfl ?_
  refine xg_pick [1, 2, 0] rfl (w_X4_orderByBirths_l10 hC hQ hI ?_ _ o1.1 x1 (0 : Int) h1 (xm_inc _ rfl))
  intro σ_11 x1_11 h1_11
  refine xg_iload_n hC dX4_orderByBirths_38 rfl ?_
  refine xg_istore_n hC dX4_orderByBirths_39 (by decide) rfl ?_
  refine xg_pick [1, 0] rfl (w_X4_orderByBirths_l40 hC hQ hI ?_ _ σ_11 x1_11 h1_11)
  intro σ_20
  refine xg_iconst hC dX4_orderByBirths_67 ?_
  refine xg_istore_n hC dX4_orderByBirths_68 (by decide) rfl ?_
  exact xg_pick [1, 0] rfl (w_X4_orderByBirths_l69 hC hQ hI _ σ_20 (0 : Int) (xm_inc _ rfl))
theorem w_X4_pushKids_j76 {X : xm_X} (hC : xm_C X yX4_pushKids.cls cX4_pushKids 7 2 0 0) (hQ : xm_Rt X 0 none 0 0) (hI : xx_I X = xm_I) {K13 : xm_Mem → Int → Int → Int → Int → Int → Option xm_Out} (hK13 : ∀ (σ : xm_Mem) (x1 : Int) (x2 : Int) (x3 : Int) (x4 : Int) (x5 : Int), xm_in x1 → xm_in x2 → 0 ≤ x3 ∧ x3 ≤ 1 → xm_in x4 → xm_in x5 → xm_V X 0 0 (K13 σ x1 x2 x3 x4 x5) σ 13 [(0, .ref (xm_B (xx_G X) + 29)), (1, .int (xm_J x1)), (2, .int (xm_J x2)), (3, .int (xm_J x3)), (4, .int (xm_J x4)), (5, .int (xm_J x5))] []) (σ : xm_Mem) (x1 : Int) (x2 : Int) (x3 : Int) (x4 : Int) (x5 : Int) (x6 : Int) (h1 : xm_in x1) (h2 : xm_in x2) (h3 : 0 ≤ x3 ∧ x3 ≤ 1) (h4 : xm_in x4) (h5 : xm_in x5) (h6 : xm_in x6) : xm_V X 0 0 (f_X4_pushKids_j76 K13 σ x1 x2 x3 x4 x5 x6) σ 76 [(0, .ref (xm_B (xx_G X) + 29)), (1, .int (xm_J x1)), (2, .int (xm_J x2)), (3, .int (xm_J x3)), (4, .int (xm_J x4)), (5, .int (xm_J x5)), (6, .int (xm_J x6))] [] := by
  unfold f_X4_pushKids_j76
  refine xg_iload hC dX4_pushKids_76 rfl ?_
  refine xg_iconst hC dX4_pushKids_78 ?_
  refine xg_icmp_eq hC h6 (xm_inc _ rfl) 112 dX4_pushKids_79 rfl (fun c11 => ?_) (fun c12 => ?_)
  · refine xg_iinc hC dX4_pushKids_112 (by decide) 5 rfl rfl ?_
    refine xg_goto hC 13 dX4_pushKids_115 rfl ?_
    exact xg_pick [1, 2, 3, 4, 5, 0] rfl (hK13 σ x1 x2 x3 x4 (xm_w (x5 + 1)) h1 h2 h3 h4 (xm_w_in _))
  refine xg_aload_n hC dX4_pushKids_82 rfl ?_
  refine xg_getI hC (xm_hK hI rfl) rfl xl_F_X4_28 dX4_pushKids_83 (fun k13 => ?_)
  refine xg_aload_n hC dX4_pushKids_86 rfl ?_
  refine xg_getW hC (xm_hK hI rfl) rfl (xm_wK hI rfl) (by decide) xl_F_X4_25 dX4_pushKids_87 ?_
  refine xg_alen hC (xm_hK hI rfl) (by decide) rfl dX4_pushKids_90 ?_
  refine xg_icmp_ge hC k13 (xm_inc _ rfl) 112 dX4_pushKids_91 rfl (fun c14 => ?_) (fun c15 => ?_)
  · refine xg_aload_n hC dX4_pushKids_94 rfl ?_
    refine xg_getW hC (xm_hK hI rfl) rfl (xm_wK hI rfl) (by decide) xl_F_X4_25 dX4_pushKids_95 ?_
    refine xg_aload_n hC dX4_pushKids_98 rfl ?_
    refine xg_dup hC dX4_pushKids_99 rfl ?_
    refine xg_getI hC (xm_hK hI rfl) rfl xl_F_X4_28 dX4_pushKids_100 (fun k16 => ?_)
    refine xg_vI k16 (fun v17 k18 => ?_)
    refine xg_dup_x1 hC dX4_pushKids_103 rfl rfl ?_
    refine xg_iconst hC dX4_pushKids_104 ?_
    refine xg_iadd hC dX4_pushKids_105 ?_
    refine xg_putI hC (xm_hK hI rfl) rfl rfl (xm_w_in _) (xm_kpK hI rfl) xl_F_X4_28 dX4_pushKids_106 ?_
    refine xg_st (fun σ19 => ?_)
    refine xg_iload hC dX4_pushKids_109 rfl ?_
    refine xg_iast hC (xm_hK hI rfl) rfl k18 h6 (xm_kpF hI rfl) dX4_pushKids_111 ?_
    refine xg_st (fun σ20 => ?_)
    refine xg_iinc hC dX4_pushKids_112 (by decide) 5 rfl rfl ?_
    refine xg_goto hC 13 dX4_pushKids_115 rfl ?_
    exact xg_pick [1, 2, 3, 4, 5, 0] rfl (hK13 σ20 x1 x2 x3 x4 (xm_w (x5 + 1)) h1 h2 h3 h4 (xm_w_in _))
  refine xg_iinc hC dX4_pushKids_112 (by decide) 5 rfl rfl ?_
  refine xg_goto hC 13 dX4_pushKids_115 rfl ?_
  exact xg_pick [1, 2, 3, 4, 5, 0] rfl (hK13 σ x1 x2 x3 x4 (xm_w (x5 + 1)) h1 h2 h3 h4 (xm_w_in _))
theorem w_X4_pushKids_j70 {X : xm_X} (hC : xm_C X yX4_pushKids.cls cX4_pushKids 7 2 0 0) (hQ : xm_Rt X 0 none 0 0) (hI : xx_I X = xm_I) {K13 : xm_Mem → Int → Int → Int → Int → Int → Option xm_Out} (hK13 : ∀ (σ : xm_Mem) (x1 : Int) (x2 : Int) (x3 : Int) (x4 : Int) (x5 : Int), xm_in x1 → xm_in x2 → 0 ≤ x3 ∧ x3 ≤ 1 → xm_in x4 → xm_in x5 → xm_V X 0 0 (K13 σ x1 x2 x3 x4 x5) σ 13 [(0, .ref (xm_B (xx_G X) + 29)), (1, .int (xm_J x1)), (2, .int (xm_J x2)), (3, .int (xm_J x3)), (4, .int (xm_J x4)), (5, .int (xm_J x5))] []) (σ : xm_Mem) (s0 : Int) (s1 : Int) (x1 : Int) (x2 : Int) (x3 : Int) (x4 : Int) (x5 : Int) (x6 : Int) (g0 : 0 ≤ s0 ∧ s0 ≤ 1) (g1 : 0 ≤ s1 ∧ s1 ≤ 1) (h1 : xm_in x1) (h2 : xm_in x2) (h3 : 0 ≤ x3 ∧ x3 ≤ 1) (h4 : xm_in x4) (h5 : xm_in x5) (h6 : xm_in x6) : xm_V X 0 0 (f_X4_pushKids_j70 K13 σ s0 s1 x1 x2 x3 x4 x5 x6) σ 70 [(0, .ref (xm_B (xx_G X) + 29)), (1, .int (xm_J x1)), (2, .int (xm_J x2)), (3, .int (xm_J x3)), (4, .int (xm_J x4)), (5, .int (xm_J x5)), (6, .int (xm_J x6))] [.int (xm_J s0), .int (xm_J s1)] := by
  unfold f_X4_pushKids_j70
  refine xg_icmp_eq hC (xm_in01 g1) (xm_in01 g0) 76 dX4_pushKids_70 rfl (fun c25 => ?_) (fun c26 => ?_)
  · exact (w_X4_pushKids_j76 hC hQ hI hK13 σ x1 x2 x3 x4 x5 x6 h1 h2 h3 h4 h5 h6)
  refine xg_goto hC 112 dX4_pushKids_73 rfl ?_
  refine xg_iinc hC dX4_pushKids_112 (by decide) 5 rfl rfl ?_
  refine xg_goto hC 13 dX4_pushKids_115 rfl ?_
  exact xg_pick [1, 2, 3, 4, 5, 0] rfl (hK13 σ x1 x2 x3 x4 (xm_w (x5 + 1)) h1 h2 h3 h4 (xm_w_in _))
theorem w_X4_pushKids_j41 {X : xm_X} (hC : xm_C X yX4_pushKids.cls cX4_pushKids 7 2 0 0) (hQ : xm_Rt X 0 none 0 0) (hI : xx_I X = xm_I) {K13 : xm_Mem → Int → Int → Int → Int → Int → Option xm_Out} (hK13 : ∀ (σ : xm_Mem) (x1 : Int) (x2 : Int) (x3 : Int) (x4 : Int) (x5 : Int), xm_in x1 → xm_in x2 → 0 ≤ x3 ∧ x3 ≤ 1 → xm_in x4 → xm_in x5 → xm_V X 0 0 (K13 σ x1 x2 x3 x4 x5) σ 13 [(0, .ref (xm_B (xx_G X) + 29)), (1, .int (xm_J x1)), (2, .int (xm_J x2)), (3, .int (xm_J x3)), (4, .int (xm_J x4)), (5, .int (xm_J x5))] []) (σ : xm_Mem) (s0 : Int) (s1 : Int) (x1 : Int) (x2 : Int) (x3 : Int) (x4 : Int) (x5 : Int) (g0 : xm_in s0) (g1 : xm_in s1) (h1 : xm_in x1) (h2 : xm_in x2) (h3 : 0 ≤ x3 ∧ x3 ≤ 1) (h4 : xm_in x4) (h5 : xm_in x5) : xm_V X 0 0 (f_X4_pushKids_j41 K13 σ s0 s1 x1 x2 x3 x4 x5) σ 41 [(0, .ref (xm_B (xx_G X) + 29)), (1, .int (xm_J x1)), (2, .int (xm_J x2)), (3, .int (xm_J x3)), (4, .int (xm_J x4)), (5, .int (xm_J x5))] [.int (xm_J s0), .int (xm_J s1), .ref (xm_B (xx_G X) + 23)] := by
  unfold f_X4_pushKids_j41
  refine xg_callV hC (ci := 1) (w_X2_kid hI σ s1 s0 g1 g0) xl_M_X4_94 xl_V_X2_kid (xm_hK (a := 23) (kd := 0) (n := 1) hI rfl).2 ((xm_hK (a := 23) (kd := 0) (n := 1) hI rfl).1 _) (by decide) rfl (by decide) ⟨by decide, by decide⟩ dX4_pushKids_41 (rest := []) rfl rfl (Nat.le_of_ble_eq_true rfl) rfl rfl (st2 := fun o => .int (xm_J o.2) :: []) (fun _ => rfl) (fun o7 k8 => ?_)
  refine xg_istore hC dX4_pushKids_44 (by decide) rfl ?_
  refine xg_iload_n hC dX4_pushKids_46 rfl ?_
  refine xg_iconst hC dX4_pushKids_47 ?_
  refine xg_icmp_eq hC h2 (xm_inc _ rfl) 76 dX4_pushKids_48 rfl (fun c9 => ?_) (fun c10 => ?_)
  · exact xg_pick [1, 2, 3, 4, 5, 6, 0] rfl (w_X4_pushKids_j76 hC hQ hI hK13 o7.1 x1 x2 x3 x4 x5 o7.2 h1 h2 h3 h4 h5 k8)
  refine xg_aload_n hC dX4_pushKids_51 rfl ?_
  refine xg_getW hC (xm_hK hI rfl) rfl (xm_wK hI rfl) (by decide) xl_F_X4_50 dX4_pushKids_52 ?_
  refine xg_iload hC dX4_pushKids_55 rfl ?_
  refine xg_callV hC (ci := 4) (w_X5_isMale hI o7.1 o7.2 k8) xl_M_X4_72 xl_V_X5_isMale (xm_hK (a := 9) (kd := 0) (n := 4) hI rfl).2 ((xm_hK (a := 9) (kd := 0) (n := 4) hI rfl).1 _) (by decide) rfl (by decide) ⟨by decide, by decide⟩ dX4_pushKids_57 (rest := []) rfl rfl (Nat.le_of_ble_eq_true rfl) rfl rfl (st2 := fun o => .int (xm_J o.2) :: []) (fun _ => rfl) (fun o21 k22 => ?_)
  refine xg_iload_n hC dX4_pushKids_60 rfl ?_
  refine xg_iconst hC dX4_pushKids_61 ?_
  refine xg_icmp_ne hC h2 (xm_inc _ rfl) 69 dX4_pushKids_62 rfl (fun c23 => ?_) (fun c24 => ?_)
  · refine xg_iconst hC dX4_pushKids_65 ?_
    refine xg_goto hC 70 dX4_pushKids_66 rfl ?_
    exact xg_pick [1, 2, 3, 4, 5, 6, 0] rfl (w_X4_pushKids_j70 hC hQ hI hK13 o21.1 (1 : Int) o21.2 x1 x2 x3 x4 x5 o7.2 (by decide) k22 h1 h2 h3 h4 h5 k8)
  refine xg_iconst hC dX4_pushKids_69 ?_
  exact xg_pick [1, 2, 3, 4, 5, 6, 0] rfl (w_X4_pushKids_j70 hC hQ hI hK13 o21.1 (0 : Int) o21.2 x1 x2 x3 x4 x5 o7.2 (by decide) k22 h1 h2 h3 h4 h5 k8)
theorem w_X4_pushKids_b13 {X : xm_X} (hC : xm_C X yX4_pushKids.cls cX4_pushKids 7 2 0 0) (hQ : xm_Rt X 0 none 0 0) (hI : xx_I X = xm_I)   {self : xm_Mem → Int → Int → Int → Int → Int → Option xm_Out} (hself : ∀ (σ : xm_Mem) (x1 : Int) (x2 : Int) (x3 : Int) (x4 : Int) (x5 : Int), xm_in x1 → xm_in x2 → 0 ≤ x3 ∧ x3 ≤ 1 → xm_in x4 → xm_in x5 → xm_V X 0 0 (self σ x1 x2 x3 x4 x5) σ 13 [(0, .ref (xm_B (xx_G X) + 29)), (1, .int (xm_J x1)), (2, .int (xm_J x2)), (3, .int (xm_J x3)), (4, .int (xm_J x4)), (5, .int (xm_J x5))] []) (σ : xm_Mem) (x1 : Int) (x2 : Int) (x3 : Int) (x4 : Int) (x5 : Int) (h1 : xm_in x1) (h2 : xm_in x2) (h3 : 0 ≤ x3 ∧ x3 ≤ 1) (h4 : xm_in x4) (h5 : xm_in x5) : xm_V X 0 0 (f_X4_pushKids_b13  self σ x1 x2 x3 x4 x5) σ 13 [(0, .ref (xm_B (xx_G X) + 29)), (1, .int (xm_J x1)), (2, .int (xm_J x2)), (3, .int (xm_J x3)), (4, .int (xm_J x4)), (5, .int (xm_J x5))] [] := by
  unfold f_X4_pushKids_b13
  refine xg_iload hC dX4_pushKids_13 rfl ?_
  refine xg_iload hC dX4_pushKids_15 rfl ?_
  refine xg_icmp_ge hC h5 h4 118 dX4_pushKids_17 rfl (fun c3 => ?_) (fun c4 => ?_)
  · refine xg_aload_n hC dX4_pushKids_20 rfl ?_
    refine xg_getW hC (xm_hK hI rfl) rfl (xm_wK hI rfl) (by decide) xl_F_X4_54 dX4_pushKids_21 ?_
    refine xg_iload_n hC dX4_pushKids_24 rfl ?_
    refine xg_iload_n hC dX4_pushKids_25 rfl ?_
    refine xg_if_eq hC (xm_in01 h3) 34 dX4_pushKids_26 rfl (fun c5 => ?_) (fun c6 => ?_)
    · refine xg_iload hC dX4_pushKids_34 rfl ?_
      refine xg_iconst hC dX4_pushKids_36 ?_
      refine xg_isub hC dX4_pushKids_37 ?_
      refine xg_iload hC dX4_pushKids_38 rfl ?_
      refine xg_isub hC dX4_pushKids_40 ?_
      exact (w_X4_pushKids_j41 hC hQ hI hself σ (xm_w ((xm_w (x4 - (1 : Int))) - x5)) x1 x1 x2 x3 x4 x5 (xm_w_in _) h1 h1 h2 h3 h4 h5)
    refine xg_iload hC dX4_pushKids_29 rfl ?_
    refine xg_goto hC 41 dX4_pushKids_31 rfl ?_
    exact (w_X4_pushKids_j41 hC hQ hI hself σ x5 x1 x1 x2 x3 x4 x5 h5 h1 h1 h2 h3 h4 h5)
  exact xg_vret hC hQ dX4_pushKids_118
theorem w_X4_pushKids_l13 {X : xm_X} (hC : xm_C X yX4_pushKids.cls cX4_pushKids 7 2 0 0) (hQ : xm_Rt X 0 none 0 0) (hI : xx_I X = xm_I)   (n : Nat) : ∀ (σ : xm_Mem) (x1 : Int) (x2 : Int) (x3 : Int) (x4 : Int) (x5 : Int), xm_in x1 → xm_in x2 → 0 ≤ x3 ∧ x3 ≤ 1 → xm_in x4 → xm_in x5 → xm_V X 0 0 (f_X4_pushKids_l13  n σ x1 x2 x3 x4 x5) σ 13 [(0, .ref (xm_B (xx_G X) + 29)), (1, .int (xm_J x1)), (2, .int (xm_J x2)), (3, .int (xm_J x3)), (4, .int (xm_J x4)), (5, .int (xm_J x5))] [] := by
  induction n with
  | zero => intro σ x1 x2 x3 x4 x5 h1 h2 h3 h4 h5; exact xg_none
  | succ n ih => intro σ x1 x2 x3 x4 x5 h1 h2 h3 h4 h5; exact w_X4_pushKids_b13 hC hQ hI ih σ x1 x2 x3 x4 x5 h1 h2 h3 h4 h5
theorem w_X4_pushKids {Γ : xm_Gm} {I : xm_Mem → Prop} {la : Launch} (hE : I = xm_I) (σ : xm_Mem) (x1 : Int) (x2 : Int) (x3 : Int) (h1 : xm_in x1) (h2 : xm_in x2) (h3 : 0 ≤ x3 ∧ x3 ≤ 1) : ∀ o, f_X4_pushKids σ x1 x2 x3 = some o → xm_M Γ I la yX4_pushKids cX4_pushKids 7 none 2 0 0 [.ref (xm_B Γ + 29), .int (xm_J x1), .int (xm_J x2), .int (xm_J x3)] σ 0 o := by
  refine xg_enter (by decide) (by simp [lg_sl, xm_rf_cat, xm_cati, xm_catr, xm_catl]) (fun X hG hI0 hla hC hQ hname => ?_)
  subst hG
  have hI := hI0.trans hE
  clear hI0 hla
  unfold f_X4_pushKids
  refine xg_pick [0, 1, 2, 3] (l' := [(0, .ref (xm_B (xx_G X) + 29)), (1, .int (xm_J x1)), (2, .int (xm_J x2)), (3, .int (xm_J x3))]) rfl ?_
  refine xg_aload_n hC dX4_pushKids_0 rfl ?_
  refine xg_getW hC (xm_hK hI rfl) rfl (xm_wK hI rfl) (by decide) xl_F_X4_54 dX4_pushKids_1 ?_
  refine xg_iload_n hC dX4_pushKids_4 rfl ?_
  refine xg_callV hC (ci := 1) (w_X2_kidCount hI σ x1 h1) xl_M_X4_91 xl_V_X2_kidCount (xm_hK (a := 23) (kd := 0) (n := 1) hI rfl).2 ((xm_hK (a := 23) (kd := 0) (n := 1) hI rfl).1 _) (by decide) rfl (by decide) ⟨by decide, by decide⟩ dX4_pushKids_5 (rest := []) rfl rfl (Nat.le_of_ble_eq_true rfl) rfl rfl (st2 := fun o => .int (xm_J o.2) :: []) (fun _ => rfl) (fun o1 k2 => ?_)
  refine xg_istore hC dX4_pushKids_8 (by decide) rfl ?_
  refine xg_iconst hC dX4_pushKids_10 ?_
  refine xg_istore hC dX4_pushKids_11 (by decide) rfl ?_
  exact xg_pick [2, 3, 4, 5, 1, 0] rfl (w_X4_pushKids_l13 hC hQ hI _ o1.1 x1 x2 x3 o1.2 (0 : Int) h1 h2 h3 k2 (xm_inc _ rfl))
theorem w_X4_orderByBranches_j121 {X : xm_X} (hC : xm_C X yX4_orderByBranches.cls cX4_orderByBranches 7 3 0 0) (hQ : xm_Rt X 0 none 0 0) (hI : xx_I X = xm_I) {K25 : xm_Mem → Int → Int64 → Int → Option xm_Out} (hK25 : ∀ (σ : xm_Mem) (x1 : Int) (x3 : Int64) (x5 : Int), xm_in x1 → xm_in x5 → xm_V X 0 0 (K25 σ x1 x3 x5) σ 25 [(0, .ref (xm_B (xx_G X) + 29)), (1, .int (xm_J x1)), (3, .long x3), (5, .int (xm_J x5))] []) (σ : xm_Mem) (x1 : Int) (x3 : Int64) (x5 : Int) (x6 : Int) (h1 : xm_in x1) (h5 : xm_in x5) (h6 : xm_in x6) : xm_V X 0 0 (f_X4_orderByBranches_j121 K25 σ x1 x3 x5 x6) σ 121 [(0, .ref (xm_B (xx_G X) + 29)), (1, .int (xm_J x1)), (3, .long x3), (5, .int (xm_J x5)), (6, .int (xm_J x6))] [] := by
  unfold f_X4_orderByBranches_j121
  refine xg_aload_n hC dX4_orderByBranches_121 rfl ?_
  refine xg_iload hC dX4_orderByBranches_122 rfl ?_
  refine xg_iconst hC dX4_orderByBranches_124 ?_
  refine xg_iload_n hC dX4_orderByBranches_125 rfl ?_
  refine xg_iconst hC dX4_orderByBranches_126 ?_
  refine xg_icmp_ne hC h1 (xm_inc _ rfl) 134 dX4_orderByBranches_127 rfl (fun c34 => ?_) (fun c35 => ?_)
  · refine xg_iconst hC dX4_orderByBranches_130 ?_
    refine xg_goto hC 135 dX4_orderByBranches_131 rfl ?_
    refine xg_callV hC (ci := 3) (w_X4_pushKids hI σ x6 (2 : Int) (1 : Int) h6 (xm_inc _ rfl) (by decide)) xl_M_X4_98 xl_V_X4_pushKids (xm_hK (a := 29) (kd := 0) (n := 3) hI rfl).2 ((xm_hK (a := 29) (kd := 0) (n := 3) hI rfl).1 _) (by decide) rfl (by decide) ⟨by decide, by decide⟩ dX4_orderByBranches_135 (rest := []) rfl rfl (Nat.le_of_ble_eq_true rfl) rfl rfl (st2 := fun o => []) (fun _ => rfl) (fun o36 k37 => ?_)
    refine xg_goto hC 177 dX4_orderByBranches_138 rfl ?_
    refine xg_iinc hC dX4_orderByBranches_177 (by decide) 3 rfl rfl ?_
    refine xg_goto hC 25 dX4_orderByBranches_180 rfl ?_
    exact xg_pick [1, 2, 3, 0] rfl (hK25 o36.1 x1 x3 (xm_w (x5 + 1)) h1 (xm_w_in _))
  refine xg_iconst hC dX4_orderByBranches_134 ?_
  refine xg_callV hC (ci := 3) (w_X4_pushKids hI σ x6 (2 : Int) (0 : Int) h6 (xm_inc _ rfl) (by decide)) xl_M_X4_98 xl_V_X4_pushKids (xm_hK (a := 29) (kd := 0) (n := 3) hI rfl).2 ((xm_hK (a := 29) (kd := 0) (n := 3) hI rfl).1 _) (by decide) rfl (by decide) ⟨by decide, by decide⟩ dX4_orderByBranches_135 (rest := []) rfl rfl (Nat.le_of_ble_eq_true rfl) rfl rfl (st2 := fun o => []) (fun _ => rfl) (fun o38 k39 => ?_)
  refine xg_goto hC 177 dX4_orderByBranches_138 rfl ?_
  refine xg_iinc hC dX4_orderByBranches_177 (by decide) 3 rfl rfl ?_
  refine xg_goto hC 25 dX4_orderByBranches_180 rfl ?_
  exact xg_pick [1, 2, 3, 0] rfl (hK25 o38.1 x1 x3 (xm_w (x5 + 1)) h1 (xm_w_in _))
theorem w_X4_orderByBranches_j169 {X : xm_X} (hC : xm_C X yX4_orderByBranches.cls cX4_orderByBranches 7 3 0 0) (hQ : xm_Rt X 0 none 0 0) (hI : xx_I X = xm_I) {K25 : xm_Mem → Int → Int64 → Int → Option xm_Out} (hK25 : ∀ (σ : xm_Mem) (x1 : Int) (x3 : Int64) (x5 : Int), xm_in x1 → xm_in x5 → xm_V X 0 0 (K25 σ x1 x3 x5) σ 25 [(0, .ref (xm_B (xx_G X) + 29)), (1, .int (xm_J x1)), (3, .long x3), (5, .int (xm_J x5))] []) (σ : xm_Mem) (x1 : Int) (x3 : Int64) (x5 : Int) (x6 : Int) (h1 : xm_in x1) (h5 : xm_in x5) (h6 : xm_in x6) : xm_V X 0 0 (f_X4_orderByBranches_j169 K25 σ x1 x3 x5 x6) σ 169 [(0, .ref (xm_B (xx_G X) + 29)), (1, .int (xm_J x1)), (3, .long x3), (5, .int (xm_J x5)), (6, .int (xm_J x6))] [] := by
  unfold f_X4_orderByBranches_j169
  refine xg_aload_n hC dX4_orderByBranches_169 rfl ?_
  refine xg_iload hC dX4_orderByBranches_170 rfl ?_
  refine xg_iconst hC dX4_orderByBranches_172 ?_
  refine xg_iconst hC dX4_orderByBranches_173 ?_
  refine xg_callV hC (ci := 3) (w_X4_pushKids hI σ x6 (1 : Int) (0 : Int) h6 (xm_inc _ rfl) (by decide)) xl_M_X4_98 xl_V_X4_pushKids (xm_hK (a := 29) (kd := 0) (n := 3) hI rfl).2 ((xm_hK (a := 29) (kd := 0) (n := 3) hI rfl).1 _) (by decide) rfl (by decide) ⟨by decide, by decide⟩ dX4_orderByBranches_174 (rest := []) rfl rfl (Nat.le_of_ble_eq_true rfl) rfl rfl (st2 := fun o => []) (fun _ => rfl) (fun o50 k51 => ?_)
  refine xg_iinc hC dX4_orderByBranches_177 (by decide) 3 rfl rfl ?_
  refine xg_goto hC 25 dX4_orderByBranches_180 rfl ?_
  exact xg_pick [1, 2, 3, 0] rfl (hK25 o50.1 x1 x3 (xm_w (x5 + 1)) h1 (xm_w_in _))
theorem w_X4_orderByBranches_j153 {X : xm_X} (hC : xm_C X yX4_orderByBranches.cls cX4_orderByBranches 7 3 0 0) (hQ : xm_Rt X 0 none 0 0) (hI : xx_I X = xm_I) {K25 : xm_Mem → Int → Int64 → Int → Option xm_Out} (hK25 : ∀ (σ : xm_Mem) (x1 : Int) (x3 : Int64) (x5 : Int), xm_in x1 → xm_in x5 → xm_V X 0 0 (K25 σ x1 x3 x5) σ 25 [(0, .ref (xm_B (xx_G X) + 29)), (1, .int (xm_J x1)), (3, .long x3), (5, .int (xm_J x5))] []) (σ : xm_Mem) (x1 : Int) (x3 : Int64) (x5 : Int) (x6 : Int) (h1 : xm_in x1) (h5 : xm_in x5) (h6 : xm_in x6) : xm_V X 0 0 (f_X4_orderByBranches_j153 K25 σ x1 x3 x5 x6) σ 153 [(0, .ref (xm_B (xx_G X) + 29)), (1, .int (xm_J x1)), (3, .long x3), (5, .int (xm_J x5)), (6, .int (xm_J x6))] [] := by
  unfold f_X4_orderByBranches_j153
  refine xg_iload_n hC dX4_orderByBranches_153 rfl ?_
  refine xg_if_ne hC h1 169 dX4_orderByBranches_154 rfl (fun c44 => ?_) (fun c45 => ?_)
  · refine xg_aload_n hC dX4_orderByBranches_157 rfl ?_
    refine xg_getW hC (xm_hK hI rfl) rfl (xm_wK hI rfl) (by decide) xl_F_X4_50 dX4_orderByBranches_158 ?_
    refine xg_iload hC dX4_orderByBranches_161 rfl ?_
    refine xg_callV hC (ci := 4) (w_X5_isMale hI σ x6 h6) xl_M_X4_72 xl_V_X5_isMale (xm_hK (a := 9) (kd := 0) (n := 4) hI rfl).2 ((xm_hK (a := 9) (kd := 0) (n := 4) hI rfl).1 _) (by decide) rfl (by decide) ⟨by decide, by decide⟩ dX4_orderByBranches_163 (rest := []) rfl rfl (Nat.le_of_ble_eq_true rfl) rfl rfl (st2 := fun o => .int (xm_J o.2) :: []) (fun _ => rfl) (fun o46 k47 => ?_)
    refine xg_if_eq hC (xm_in01 k47) 177 dX4_orderByBranches_166 rfl (fun c48 => ?_) (fun c49 => ?_)
    · refine xg_iinc hC dX4_orderByBranches_177 (by decide) 3 rfl rfl ?_
      refine xg_goto hC 25 dX4_orderByBranches_180 rfl ?_
      exact xg_pick [1, 2, 3, 0] rfl (hK25 o46.1 x1 x3 (xm_w (x5 + 1)) h1 (xm_w_in _))
    exact (w_X4_orderByBranches_j169 hC hQ hI hK25 o46.1 x1 x3 x5 x6 h1 h5 h6)
  exact (w_X4_orderByBranches_j169 hC hQ hI hK25 σ x1 x3 x5 x6 h1 h5 h6)
theorem w_X4_orderByBranches_b25 {X : xm_X} (hC : xm_C X yX4_orderByBranches.cls cX4_orderByBranches 7 3 0 0) (hQ : xm_Rt X 0 none 0 0) (hI : xx_I X = xm_I)   {self : xm_Mem → Int → Int64 → Int → Option xm_Out} (hself : ∀ (σ : xm_Mem) (x1 : Int) (x3 : Int64) (x5 : Int), xm_in x1 → xm_in x5 → xm_V X 0 0 (self σ x1 x3 x5) σ 25 [(0, .ref (xm_B (xx_G X) + 29)), (1, .int (xm_J x1)), (3, .long x3), (5, .int (xm_J x5))] []) (σ : xm_Mem) (x1 : Int) (x3 : Int64) (x5 : Int) (h1 : xm_in x1) (h5 : xm_in x5) : xm_V X 0 0 (f_X4_orderByBranches_b25  self σ x1 x3 x5) σ 25 [(0, .ref (xm_B (xx_G X) + 29)), (1, .int (xm_J x1)), (3, .long x3), (5, .int (xm_J x5))] [] := by
  unfold f_X4_orderByBranches_b25
  refine xg_iload hC dX4_orderByBranches_25 rfl ?_
  refine xg_aload_n hC dX4_orderByBranches_27 rfl ?_
  refine xg_getW hC (xm_hK hI rfl) rfl (xm_wK hI rfl) (by decide) xl_F_X4_25 dX4_orderByBranches_28 ?_
  refine xg_alen hC (xm_hK hI rfl) (by decide) rfl dX4_orderByBranches_31 ?_
  refine xg_icmp_ge hC h5 (xm_inc _ rfl) 183 dX4_orderByBranches_32 rfl (fun c7 => ?_) (fun c8 => ?_)
  · refine xg_aload_n hC dX4_orderByBranches_35 rfl ?_
    refine xg_getI hC (xm_hK hI rfl) rfl xl_F_X4_28 dX4_orderByBranches_36 (fun k9 => ?_)
    refine xg_if_le hC k9 183 dX4_orderByBranches_39 rfl (fun c10 => ?_) (fun c11 => ?_)
    · refine xg_aload_n hC dX4_orderByBranches_42 rfl ?_
      refine xg_dup hC dX4_orderByBranches_43 rfl ?_
      refine xg_getI hC (xm_hK hI rfl) rfl xl_F_X4_28 dX4_orderByBranches_44 (fun k12 => ?_)
      refine xg_iconst hC dX4_orderByBranches_47 ?_
      refine xg_isub hC dX4_orderByBranches_48 ?_
      refine xg_putI hC (xm_hK hI rfl) rfl rfl (xm_w_in _) (xm_kpK hI rfl) xl_F_X4_28 dX4_orderByBranches_49 ?_
      refine xg_st (fun σ13 => ?_)
      refine xg_aload_n hC dX4_orderByBranches_52 rfl ?_
      refine xg_getW hC (xm_hK hI rfl) rfl (xm_wK hI rfl) (by decide) xl_F_X4_25 dX4_orderByBranches_53 ?_
      refine xg_aload_n hC dX4_orderByBranches_56 rfl ?_
      refine xg_getI hC (xm_hK hI rfl) rfl xl_F_X4_28 dX4_orderByBranches_57 (fun k14 => ?_)
      refine xg_vI k14 (fun v15 k16 => ?_)
      refine xg_iald hC (xm_hK hI rfl) rfl k16 dX4_orderByBranches_60 (fun b17 k18 => ?_)
      refine xg_vI k18 (fun v19 k20 => ?_)
      refine xg_istore hC dX4_orderByBranches_61 (by decide) rfl ?_
      refine xg_lload_n hC dX4_orderByBranches_63 rfl ?_
      refine xg_lconst hC dX4_orderByBranches_64 (v := 1) rfl ?_
      refine xg_iload hC dX4_orderByBranches_65 rfl ?_
      refine xg_lshl hC dX4_orderByBranches_67 ?_
      refine xg_land hC dX4_orderByBranches_68 ?_
      refine xg_lconst hC dX4_orderByBranches_69 (v := 0) rfl ?_
      refine xg_lcmp hC dX4_orderByBranches_70 ?_
      refine xg_if_ne hC (xm_lc_in _ _) 177 dX4_orderByBranches_71 rfl (fun c21 => ?_) (fun c22 => ?_)
      · refine xg_aload_n hC dX4_orderByBranches_74 rfl ?_
        refine xg_getI hC (xm_hK hI rfl) rfl xl_F_X4_15 dX4_orderByBranches_75 (fun k23 => ?_)
        refine xg_bipush hC dX4_orderByBranches_78 (by decide) ?_
        refine xg_icmp_lt hC k23 (xm_inc _ rfl) 86 dX4_orderByBranches_80 rfl (fun c24 => ?_) (fun c25 => ?_)
        · refine xg_lload_n hC dX4_orderByBranches_86 rfl ?_
          refine xg_lconst hC dX4_orderByBranches_87 (v := 1) rfl ?_
          refine xg_iload hC dX4_orderByBranches_88 rfl ?_
          refine xg_lshl hC dX4_orderByBranches_90 ?_
          refine xg_lor hC dX4_orderByBranches_91 ?_
          refine xg_vJ (fun v26 => ?_)
          refine xg_lstore_n hC dX4_orderByBranches_92 (by decide) rfl ?_
          refine xg_aload_n hC dX4_orderByBranches_93 rfl ?_
          refine xg_getW hC (xm_hK hI rfl) rfl (xm_wK hI rfl) (by decide) xl_F_X4_9 dX4_orderByBranches_94 ?_
          refine xg_aload_n hC dX4_orderByBranches_97 rfl ?_
          refine xg_dup hC dX4_orderByBranches_98 rfl ?_
          refine xg_getI hC (xm_hK hI rfl) rfl xl_F_X4_15 dX4_orderByBranches_99 (fun k27 => ?_)
          refine xg_vI k27 (fun v28 k29 => ?_)
          refine xg_dup_x1 hC dX4_orderByBranches_102 rfl rfl ?_
          refine xg_iconst hC dX4_orderByBranches_103 ?_
          refine xg_iadd hC dX4_orderByBranches_104 ?_
          refine xg_putI hC (xm_hK hI rfl) rfl rfl (xm_w_in _) (xm_kpK hI rfl) xl_F_X4_15 dX4_orderByBranches_105 ?_
          refine xg_st (fun σ30 => ?_)
          refine xg_iload hC dX4_orderByBranches_108 rfl ?_
          refine xg_iast hC (xm_hK hI rfl) rfl k29 k20 (xm_kpF hI rfl) dX4_orderByBranches_110 ?_
          refine xg_st (fun σ31 => ?_)
          refine xg_iload_n hC dX4_orderByBranches_111 rfl ?_
          refine xg_iconst hC dX4_orderByBranches_112 ?_
          refine xg_icmp_eq hC h1 (xm_inc _ rfl) 121 dX4_orderByBranches_113 rfl (fun c32 => ?_) (fun c33 => ?_)
          · exact xg_pick [2, 3, 0, 4, 1] rfl (w_X4_orderByBranches_j121 hC hQ hI hself σ31 x1 v26 x5 v19 h1 h5 k20)
          refine xg_iload_n hC dX4_orderByBranches_116 rfl ?_
          refine xg_iconst hC dX4_orderByBranches_117 ?_
          refine xg_icmp_ne hC h1 (xm_inc _ rfl) 141 dX4_orderByBranches_118 rfl (fun c40 => ?_) (fun c41 => ?_)
          · exact xg_pick [2, 3, 0, 4, 1] rfl (w_X4_orderByBranches_j121 hC hQ hI hself σ31 x1 v26 x5 v19 h1 h5 k20)
          refine xg_iload_n hC dX4_orderByBranches_141 rfl ?_
          refine xg_if_eq hC h1 153 dX4_orderByBranches_142 rfl (fun c42 => ?_) (fun c43 => ?_)
          · exact xg_pick [2, 3, 0, 4, 1] rfl (w_X4_orderByBranches_j153 hC hQ hI hself σ31 x1 v26 x5 v19 h1 h5 k20)
          refine xg_aload_n hC dX4_orderByBranches_145 rfl ?_
          refine xg_iload hC dX4_orderByBranches_146 rfl ?_
          refine xg_iconst hC dX4_orderByBranches_148 ?_
          refine xg_iconst hC dX4_orderByBranches_149 ?_
          refine xg_callV hC (ci := 3) (w_X4_pushKids hI σ31 v19 (0 : Int) (0 : Int) k20 (xm_inc _ rfl) (by decide)) xl_M_X4_98 xl_V_X4_pushKids (xm_hK (a := 29) (kd := 0) (n := 3) hI rfl).2 ((xm_hK (a := 29) (kd := 0) (n := 3) hI rfl).1 _) (by decide) rfl (by decide) ⟨by decide, by decide⟩ dX4_orderByBranches_150 (rest := []) rfl rfl (Nat.le_of_ble_eq_true rfl) rfl rfl (st2 := fun o => []) (fun _ => rfl) (fun o52 k53 => ?_)
          exact xg_pick [2, 3, 0, 4, 1] rfl (w_X4_orderByBranches_j153 hC hQ hI hself o52.1 x1 v26 x5 v19 h1 h5 k20)
        refine xg_goto hC 177 dX4_orderByBranches_83 rfl ?_
        refine xg_iinc hC dX4_orderByBranches_177 (by decide) 4 rfl rfl ?_
        refine xg_goto hC 25 dX4_orderByBranches_180 rfl ?_
        exact xg_pick [2, 3, 4, 0] rfl (hself σ13 x1 x3 (xm_w (x5 + 1)) h1 (xm_w_in _))
      refine xg_iinc hC dX4_orderByBranches_177 (by decide) 4 rfl rfl ?_
      refine xg_goto hC 25 dX4_orderByBranches_180 rfl ?_
      exact xg_pick [2, 3, 4, 0] rfl (hself σ13 x1 x3 (xm_w (x5 + 1)) h1 (xm_w_in _))
    exact xg_vret hC hQ dX4_orderByBranches_183
  exact xg_vret hC hQ dX4_orderByBranches_183
theorem w_X4_orderByBranches_l25 {X : xm_X} (hC : xm_C X yX4_orderByBranches.cls cX4_orderByBranches 7 3 0 0) (hQ : xm_Rt X 0 none 0 0) (hI : xx_I X = xm_I)   (n : Nat) : ∀ (σ : xm_Mem) (x1 : Int) (x3 : Int64) (x5 : Int), xm_in x1 → xm_in x5 → xm_V X 0 0 (f_X4_orderByBranches_l25  n σ x1 x3 x5) σ 25 [(0, .ref (xm_B (xx_G X) + 29)), (1, .int (xm_J x1)), (3, .long x3), (5, .int (xm_J x5))] [] := by
  induction n with
  | zero => intro σ x1 x3 x5 h1 h5; exact xg_none
  | succ n ih => intro σ x1 x3 x5 h1 h5; exact w_X4_orderByBranches_b25 hC hQ hI ih σ x1 x3 x5 h1 h5
theorem w_X4_orderByBranches {Γ : xm_Gm} {I : xm_Mem → Prop} {la : Launch} (hE : I = xm_I) (σ : xm_Mem) (x1 : Int) (x2 : Int) (h1 : xm_in x1) (h2 : xm_in x2) : ∀ o, f_X4_orderByBranches σ x1 x2 = some o → xm_M Γ I la yX4_orderByBranches cX4_orderByBranches 7 none 3 0 0 [.ref (xm_B Γ + 29), .int (xm_J x1), .int (xm_J x2)] σ 0 o := by
  refine xg_enter (by decide) (by simp [lg_sl, xm_rf_cat, xm_cati, xm_catr, xm_catl]) (fun X hG hI0 hla hC hQ hname => ?_)
  subst hG
  have hI := hI0.trans hE
  clear hI0 hla
  unfold f_X4_orderByBranches
  refine xg_pick [0, 1, 2] (l' := [(0, .ref (xm_B (xx_G X) + 29)), (1, .int (xm_J x1)), (2, .int (xm_J x2))]) rfl ?_
  refine xg_iload_n hC dX4_orderByBranches_0 rfl ?_
  refine xg_callSN hC (w_X10_isPersonNumber hI σ x2 h2) xl_N_X4_76 xl_S_X10_isPersonNumber (by decide) ⟨by decide, by decide⟩ dX4_orderByBranches_1 (rest := []) rfl rfl (Nat.le_of_ble_eq_true rfl) rfl rfl (st2 := fun o => .int (xm_J o.2) :: []) (fun _ => rfl) (fun o1 k2 => ?_)
  refine xg_if_ne hC (xm_in01 k2) 8 dX4_orderByBranches_4 rfl (fun c3 => ?_) (fun c4 => ?_)
  · exact xg_vret hC hQ dX4_orderByBranches_7
  refine xg_lconst hC dX4_orderByBranches_8 (v := 0) rfl ?_
  refine xg_lstore_n hC dX4_orderByBranches_9 (by decide) rfl ?_
  refine xg_aload_n hC dX4_orderByBranches_10 rfl ?_
  refine xg_getW hC (xm_hK hI rfl) rfl (xm_wK hI rfl) (by decide) xl_F_X4_25 dX4_orderByBranches_11 ?_
  refine xg_iconst hC dX4_orderByBranches_14 ?_
  refine xg_iload_n hC dX4_orderByBranches_15 rfl ?_
  refine xg_iast hC (xm_hK hI rfl) rfl (xm_inc _ rfl) h2 (xm_kpF hI rfl) dX4_orderByBranches_16 ?_
  refine xg_st (fun σ5 => ?_)
  refine xg_aload_n hC dX4_orderByBranches_17 rfl ?_
  refine xg_iconst hC dX4_orderByBranches_18 ?_
  refine xg_putI hC (xm_hK hI rfl) rfl rfl (xm_inc _ rfl) (xm_kpK hI rfl) xl_F_X4_28 dX4_orderByBranches_19 ?_
  refine xg_st (fun σ6 => ?_)
  refine xg_iconst hC dX4_orderByBranches_22 ?_
  refine xg_istore hC dX4_orderByBranches_23 (by decide) rfl ?_
  exact xg_pick [2, 3, 1, 0] rfl (w_X4_orderByBranches_l25 hC hQ hI _ σ6 x1 (0 : Int64) (0 : Int) h1 (xm_inc _ rfl))
theorem w_X4_fill_j142 {X : xm_X} (hC : xm_C X yX4_fill.cls cX4_fill 7 4 0 0) (hQ : xm_Rt X 0 none 0 0) (hI : xx_I X = xm_I) {K63 : xm_Mem → Int → Int → Int → Int → Option xm_Out} (hK63 : ∀ (σ : xm_Mem) (x1 : Int) (x3 : Int) (x4 : Int) (x5 : Int), xm_in x1 → xm_in x3 → xm_in x5 → xm_V X 0 0 (K63 σ x1 x3 x4 x5) σ 63 [(0, .ref (xm_B (xx_G X) + 29)), (1, .int (xm_J x1)), (3, .int (xm_J x3)), (4, xm_rf (xx_G X) x4), (5, .int (xm_J x5))] []) (σ : xm_Mem) (x1 : Int) (x3 : Int) (x4 : Int) (x5 : Int) (x6 : Int) (h1 : xm_in x1) (h3 : xm_in x3) (h5 : xm_in x5) (h6 : xm_in x6) : xm_V X 0 0 (f_X4_fill_j142 K63 σ x1 x3 x4 x5 x6) σ 142 [(0, .ref (xm_B (xx_G X) + 29)), (1, .int (xm_J x1)), (3, .int (xm_J x3)), (4, xm_rf (xx_G X) x4), (5, .int (xm_J x5)), (6, .int (xm_J x6))] [] := by
  unfold f_X4_fill_j142
  refine xg_aload_n hC dX4_fill_142 rfl ?_
  refine xg_getW hC (xm_hK hI rfl) rfl (xm_wK hI rfl) (by decide) xl_F_X4_34 dX4_fill_143 ?_
  refine xg_aload_n hC dX4_fill_146 rfl ?_
  refine xg_dup hC dX4_fill_147 rfl ?_
  refine xg_getI hC (xm_hK hI rfl) rfl xl_F_X4_37 dX4_fill_148 (fun k32 => ?_)
  refine xg_vI k32 (fun v33 k34 => ?_)
  refine xg_dup_x1 hC dX4_fill_151 rfl rfl ?_
  refine xg_iconst hC dX4_fill_152 ?_
  refine xg_iadd hC dX4_fill_153 ?_
  refine xg_putI hC (xm_hK hI rfl) rfl rfl (xm_w_in _) (xm_kpK hI rfl) xl_F_X4_37 dX4_fill_154 ?_
  refine xg_st (fun σ35 => ?_)
  refine xg_iload hC dX4_fill_157 rfl ?_
  refine xg_iast hC (xm_hK hI rfl) rfl k34 h6 (xm_kpF hI rfl) dX4_fill_159 ?_
  refine xg_st (fun σ36 => ?_)
  refine xg_aload_n hC dX4_fill_160 rfl ?_
  refine xg_dup hC dX4_fill_161 rfl ?_
  refine xg_getL hC (xm_hK hI rfl) rfl xl_F_X4_40 dX4_fill_162 ?_
  refine xg_lconst hC dX4_fill_165 (v := 1) rfl ?_
  refine xg_iload hC dX4_fill_166 rfl ?_
  refine xg_lshl hC dX4_fill_168 ?_
  refine xg_lor hC dX4_fill_169 ?_
  refine xg_putL hC (xm_hK hI rfl) rfl rfl (xm_kp2 hI) xl_F_X4_40 dX4_fill_170 ?_
  refine xg_st (fun σ38 => ?_)
  refine xg_iinc hC (l' := [(5, .int (xm_J (xm_w (x5 + 1)))), (0, .ref (xm_B (xx_G X) + 29)), (1, .int (xm_J x1)), (3, .int (xm_J x3)), (4, xm_rf (xx_G X) x4), (6, .int (xm_J x6))]) dX4_fill_173 (by decide) 4 rfl (by simp [xm_rf_cat]) ?_
  refine xg_goto hC 63 dX4_fill_176 rfl ?_
  exact xg_pick [1, 2, 3, 4, 0] rfl (hK63 σ38 x1 x3 x4 (xm_w (x5 + 1)) h1 h3 (xm_w_in _))
theorem w_X4_fill_j113 {X : xm_X} (hC : xm_C X yX4_fill.cls cX4_fill 7 4 0 0) (hQ : xm_Rt X 0 none 0 0) (hI : xx_I X = xm_I) {K63 : xm_Mem → Int → Int → Int → Int → Option xm_Out} (hK63 : ∀ (σ : xm_Mem) (x1 : Int) (x3 : Int) (x4 : Int) (x5 : Int), xm_in x1 → xm_in x3 → xm_in x5 → xm_V X 0 0 (K63 σ x1 x3 x4 x5) σ 63 [(0, .ref (xm_B (xx_G X) + 29)), (1, .int (xm_J x1)), (3, .int (xm_J x3)), (4, xm_rf (xx_G X) x4), (5, .int (xm_J x5))] []) (σ : xm_Mem) (x1 : Int) (x3 : Int) (x4 : Int) (x5 : Int) (x6 : Int) (h1 : xm_in x1) (h3 : xm_in x3) (h5 : xm_in x5) (h6 : xm_in x6) : xm_V X 0 0 (f_X4_fill_j113 K63 σ x1 x3 x4 x5 x6) σ 113 [(0, .ref (xm_B (xx_G X) + 29)), (1, .int (xm_J x1)), (3, .int (xm_J x3)), (4, xm_rf (xx_G X) x4), (5, .int (xm_J x5)), (6, .int (xm_J x6))] [] := by
  unfold f_X4_fill_j113
  refine xg_iload hC dX4_fill_113 rfl ?_
  refine xg_rload hC dX4_fill_115 rfl ?_
  refine xg_salen hC (n := 64) rfl dX4_fill_117 ?_
  refine xg_icmp_ge hC h6 (xm_inc _ rfl) 173 dX4_fill_118 rfl (fun c26 => ?_) (fun c27 => ?_)
  · refine xg_rload hC dX4_fill_121 rfl ?_
    refine xg_iload hC dX4_fill_123 rfl ?_
    refine xg_siald hC (n := 64) rfl h6 dX4_fill_125 (fun b28 k29 => ?_)
    refine xg_iconst hC dX4_fill_126 ?_
    refine xg_icmp_eq hC k29 (xm_inc _ rfl) 142 dX4_fill_127 rfl (fun c30 => ?_) (fun c31 => ?_)
    · exact (w_X4_fill_j142 hC hQ hI hK63 σ x1 x3 x4 x5 x6 h1 h3 h5 h6)
    refine xg_rload hC dX4_fill_130 rfl ?_
    refine xg_iload hC dX4_fill_132 rfl ?_
    refine xg_siald hC (n := 64) rfl h6 dX4_fill_134 (fun b39 k40 => ?_)
    refine xg_iload_n hC dX4_fill_135 rfl ?_
    refine xg_icmp_gt hC k40 h3 142 dX4_fill_136 rfl (fun c41 => ?_) (fun c42 => ?_)
    · exact (w_X4_fill_j142 hC hQ hI hK63 σ x1 x3 x4 x5 x6 h1 h3 h5 h6)
    refine xg_goto hC 173 dX4_fill_139 rfl ?_
    refine xg_iinc hC (l' := [(5, .int (xm_J (xm_w (x5 + 1)))), (0, .ref (xm_B (xx_G X) + 29)), (1, .int (xm_J x1)), (3, .int (xm_J x3)), (4, xm_rf (xx_G X) x4), (6, .int (xm_J x6))]) dX4_fill_173 (by decide) 4 rfl (by simp [xm_rf_cat]) ?_
    refine xg_goto hC 63 dX4_fill_176 rfl ?_
    exact xg_pick [1, 2, 3, 4, 0] rfl (hK63 σ x1 x3 x4 (xm_w (x5 + 1)) h1 h3 (xm_w_in _))
  refine xg_iinc hC (l' := [(5, .int (xm_J (xm_w (x5 + 1)))), (0, .ref (xm_B (xx_G X) + 29)), (1, .int (xm_J x1)), (3, .int (xm_J x3)), (4, xm_rf (xx_G X) x4), (6, .int (xm_J x6))]) dX4_fill_173 (by decide) 4 rfl (by simp [xm_rf_cat]) ?_
  refine xg_goto hC 63 dX4_fill_176 rfl ?_
  exact xg_pick [1, 2, 3, 4, 0] rfl (hK63 σ x1 x3 x4 (xm_w (x5 + 1)) h1 h3 (xm_w_in _))
theorem w_X4_fill_b63 {X : xm_X} (hC : xm_C X yX4_fill.cls cX4_fill 7 4 0 0) (hQ : xm_Rt X 0 none 0 0) (hI : xx_I X = xm_I)   {self : xm_Mem → Int → Int → Int → Int → Option xm_Out} (hself : ∀ (σ : xm_Mem) (x1 : Int) (x3 : Int) (x4 : Int) (x5 : Int), xm_in x1 → xm_in x3 → xm_in x5 → xm_V X 0 0 (self σ x1 x3 x4 x5) σ 63 [(0, .ref (xm_B (xx_G X) + 29)), (1, .int (xm_J x1)), (3, .int (xm_J x3)), (4, xm_rf (xx_G X) x4), (5, .int (xm_J x5))] []) (σ : xm_Mem) (x1 : Int) (x3 : Int) (x4 : Int) (x5 : Int) (h1 : xm_in x1) (h3 : xm_in x3) (h5 : xm_in x5) : xm_V X 0 0 (f_X4_fill_b63  self σ x1 x3 x4 x5) σ 63 [(0, .ref (xm_B (xx_G X) + 29)), (1, .int (xm_J x1)), (3, .int (xm_J x3)), (4, xm_rf (xx_G X) x4), (5, .int (xm_J x5))] [] := by
  unfold f_X4_fill_b63
  refine xg_iload hC dX4_fill_63 rfl ?_
  refine xg_aload_n hC dX4_fill_65 rfl ?_
  refine xg_getI hC (xm_hK hI rfl) rfl xl_F_X4_15 dX4_fill_66 (fun k9 => ?_)
  refine xg_icmp_ge hC h5 k9 179 dX4_fill_69 rfl (fun c10 => ?_) (fun c11 => ?_)
  · refine xg_aload_n hC dX4_fill_72 rfl ?_
    refine xg_getW hC (xm_hK hI rfl) rfl (xm_wK hI rfl) (by decide) xl_F_X4_9 dX4_fill_73 ?_
    refine xg_iload hC dX4_fill_76 rfl ?_
    refine xg_iald hC (xm_hK hI rfl) rfl h5 dX4_fill_78 (fun b12 k13 => ?_)
    refine xg_vI k13 (fun v14 k15 => ?_)
    refine xg_istore hC dX4_fill_79 (by decide) rfl ?_
    refine xg_aload_n hC dX4_fill_81 rfl ?_
    refine xg_getW hC (xm_hK hI rfl) rfl (xm_wK hI rfl) (by decide) xl_F_X4_50 dX4_fill_82 ?_
    refine xg_iload hC dX4_fill_85 rfl ?_
    refine xg_iload_n hC dX4_fill_87 rfl ?_
    refine xg_callV hC (ci := 4) (w_X5_isAlive hI σ v14 x3 k15 h3) xl_M_X4_66 xl_V_X5_isAlive (xm_hK (a := 9) (kd := 0) (n := 4) hI rfl).2 ((xm_hK (a := 9) (kd := 0) (n := 4) hI rfl).1 _) (by decide) rfl (by decide) ⟨by decide, by decide⟩ dX4_fill_88 (rest := []) rfl rfl (Nat.le_of_ble_eq_true rfl) rfl rfl (st2 := fun o => .int (xm_J o.2) :: []) (fun _ => rfl) (fun o16 k17 => ?_)
    refine xg_if_eq hC (xm_in01 k17) 173 dX4_fill_91 rfl (fun c18 => ?_) (fun c19 => ?_)
    · refine xg_iinc hC (l' := [(5, .int (xm_J (xm_w (x5 + 1)))), (6, .int (xm_J v14)), (0, .ref (xm_B (xx_G X) + 29)), (1, .int (xm_J x1)), (3, .int (xm_J x3)), (4, xm_rf (xx_G X) x4)]) dX4_fill_173 (by decide) 5 rfl (by simp [xm_rf_cat]) ?_
      refine xg_goto hC 63 dX4_fill_176 rfl ?_
      exact xg_pick [2, 3, 4, 5, 0] rfl (hself o16.1 x1 x3 x4 (xm_w (x5 + 1)) h1 h3 (xm_w_in _))
    refine xg_iload_n hC dX4_fill_94 rfl ?_
    refine xg_if_ne hC h1 113 dX4_fill_95 rfl (fun c20 => ?_) (fun c21 => ?_)
    · refine xg_aload_n hC dX4_fill_98 rfl ?_
      refine xg_getW hC (xm_hK hI rfl) rfl (xm_wK hI rfl) (by decide) xl_F_X4_50 dX4_fill_99 ?_
      refine xg_iload hC dX4_fill_102 rfl ?_
      refine xg_callV hC (ci := 4) (w_X5_isMale hI o16.1 v14 k15) xl_M_X4_72 xl_V_X5_isMale (xm_hK (a := 9) (kd := 0) (n := 4) hI rfl).2 ((xm_hK (a := 9) (kd := 0) (n := 4) hI rfl).1 _) (by decide) rfl (by decide) ⟨by decide, by decide⟩ dX4_fill_104 (rest := []) rfl rfl (Nat.le_of_ble_eq_true rfl) rfl rfl (st2 := fun o => .int (xm_J o.2) :: []) (fun _ => rfl) (fun o22 k23 => ?_)
      refine xg_if_ne hC (xm_in01 k23) 113 dX4_fill_107 rfl (fun c24 => ?_) (fun c25 => ?_)
      · refine xg_goto hC 173 dX4_fill_110 rfl ?_
        refine xg_iinc hC (l' := [(5, .int (xm_J (xm_w (x5 + 1)))), (6, .int (xm_J v14)), (0, .ref (xm_B (xx_G X) + 29)), (1, .int (xm_J x1)), (3, .int (xm_J x3)), (4, xm_rf (xx_G X) x4)]) dX4_fill_173 (by decide) 5 rfl (by simp [xm_rf_cat]) ?_
        refine xg_goto hC 63 dX4_fill_176 rfl ?_
        exact xg_pick [2, 3, 4, 5, 0] rfl (hself o22.1 x1 x3 x4 (xm_w (x5 + 1)) h1 h3 (xm_w_in _))
      exact xg_pick [1, 2, 3, 4, 5, 0] rfl (w_X4_fill_j113 hC hQ hI hself o22.1 x1 x3 x4 x5 v14 h1 h3 h5 k15)
    exact xg_pick [1, 2, 3, 4, 5, 0] rfl (w_X4_fill_j113 hC hQ hI hself o16.1 x1 x3 x4 x5 v14 h1 h3 h5 k15)
  exact xg_vret hC hQ dX4_fill_179
theorem w_X4_fill_l63 {X : xm_X} (hC : xm_C X yX4_fill.cls cX4_fill 7 4 0 0) (hQ : xm_Rt X 0 none 0 0) (hI : xx_I X = xm_I)   (n : Nat) : ∀ (σ : xm_Mem) (x1 : Int) (x3 : Int) (x4 : Int) (x5 : Int), xm_in x1 → xm_in x3 → xm_in x5 → xm_V X 0 0 (f_X4_fill_l63  n σ x1 x3 x4 x5) σ 63 [(0, .ref (xm_B (xx_G X) + 29)), (1, .int (xm_J x1)), (3, .int (xm_J x3)), (4, xm_rf (xx_G X) x4), (5, .int (xm_J x5))] [] := by
  induction n with
  | zero => intro σ x1 x3 x4 x5 h1 h3 h5; exact xg_none
  | succ n ih => intro σ x1 x3 x4 x5 h1 h3 h5; exact w_X4_fill_b63 hC hQ hI ih σ x1 x3 x4 x5 h1 h3 h5
theorem w_X4_fill_j50 {X : xm_X} (hC : xm_C X yX4_fill.cls cX4_fill 7 4 0 0) (hQ : xm_Rt X 0 none 0 0) (hI : xx_I X = xm_I)   (σ : xm_Mem) (x1 : Int) (x3 : Int) (x4 : Int) (h1 : xm_in x1) (h3 : xm_in x3) : xm_V X 0 0 (f_X4_fill_j50  σ x1 x3 x4) σ 50 [(0, .ref (xm_B (xx_G X) + 29)), (1, .int (xm_J x1)), (3, .int (xm_J x3)), (4, xm_rf (xx_G X) x4)] [] := by
  unfold f_X4_fill_j50
  refine xg_aload_n hC dX4_fill_50 rfl ?_
  refine xg_iconst hC dX4_fill_51 ?_
  refine xg_putI hC (xm_hK hI rfl) rfl rfl (xm_inc _ rfl) (xm_kpK hI rfl) xl_F_X4_37 dX4_fill_52 ?_
  refine xg_st (fun σ7 => ?_)
  refine xg_aload_n hC dX4_fill_55 rfl ?_
  refine xg_lconst hC dX4_fill_56 (v := 0) rfl ?_
  refine xg_putL hC (xm_hK hI rfl) rfl rfl (xm_kp2 hI) xl_F_X4_40 dX4_fill_57 ?_
  refine xg_st (fun σ8 => ?_)
  refine xg_iconst hC dX4_fill_60 ?_
  refine xg_istore hC (l' := [(5, .int (xm_J (0 : Int))), (0, .ref (xm_B (xx_G X) + 29)), (1, .int (xm_J x1)), (3, .int (xm_J x3)), (4, xm_rf (xx_G X) x4)]) dX4_fill_61 (by decide) (by simp [xm_rf_cat]) ?_
  exact xg_pick [1, 2, 3, 4, 0] rfl (w_X4_fill_l63 hC hQ hI _ σ8 x1 x3 x4 (0 : Int) h1 h3 (xm_inc _ rfl))
theorem w_X4_fill_j16 {X : xm_X} (hC : xm_C X yX4_fill.cls cX4_fill 7 4 0 0) (hQ : xm_Rt X 0 none 0 0) (hI : xx_I X = xm_I)   (σ : xm_Mem) (x1 : Int) (x2 : Int) (x3 : Int) (x4 : Int) (h1 : xm_in x1) (h2 : xm_in x2) (h3 : xm_in x3) : xm_V X 0 0 (f_X4_fill_j16  σ x1 x2 x3 x4) σ 16 [(0, .ref (xm_B (xx_G X) + 29)), (1, .int (xm_J x1)), (2, .int (xm_J x2)), (3, .int (xm_J x3)), (4, xm_rf (xx_G X) x4)] [] := by
  unfold f_X4_fill_j16
  refine xg_aload_n hC dX4_fill_16 rfl ?_
  refine xg_iconst hC dX4_fill_17 ?_
  refine xg_putI hC (xm_hK hI rfl) rfl rfl (xm_inc _ rfl) (xm_kpK hI rfl) xl_F_X4_15 dX4_fill_18 ?_
  refine xg_st (fun σ43 => ?_)
  refine xg_aload_n hC dX4_fill_21 rfl ?_
  refine xg_iload_n hC dX4_fill_22 rfl ?_
  refine xg_putI hC (xm_hK hI rfl) rfl rfl h1 (xm_kpK hI rfl) xl_F_X4_19 dX4_fill_23 ?_
  refine xg_st (fun σ44 => ?_)
  refine xg_aload_n hC dX4_fill_26 rfl ?_
  refine xg_iload_n hC dX4_fill_27 rfl ?_
  refine xg_putI hC (xm_hK hI rfl) rfl rfl h2 (xm_kpK hI rfl) xl_F_X4_22 dX4_fill_28 ?_
  refine xg_st (fun σ45 => ?_)
  refine xg_iload_n hC dX4_fill_31 rfl ?_
  refine xg_iconst hC dX4_fill_32 ?_
  refine xg_icmp_ne hC h1 (xm_inc _ rfl) 44 dX4_fill_33 rfl (fun c46 => ?_) (fun c47 => ?_)
  · refine xg_aload_n hC dX4_fill_36 rfl ?_
    refine xg_iload_n hC dX4_fill_37 rfl ?_
    refine xg_callV hC (ci := 3) (w_X4_orderByBirths hI σ45 x2 h2) xl_M_X4_58 xl_V_X4_orderByBirths (xm_hK (a := 29) (kd := 0) (n := 3) hI rfl).2 ((xm_hK (a := 29) (kd := 0) (n := 3) hI rfl).1 _) (by decide) rfl (by decide) ⟨by decide, by decide⟩ dX4_fill_38 (rest := []) rfl rfl (Nat.le_of_ble_eq_true rfl) rfl rfl (st2 := fun o => []) (fun _ => rfl) (fun o48 k49 => ?_)
    refine xg_goto hC 50 dX4_fill_41 rfl ?_
    exact xg_pick [0, 1, 3, 4] rfl (w_X4_fill_j50 hC hQ hI o48.1 x1 x3 x4 h1 h3)
  refine xg_aload_n hC dX4_fill_44 rfl ?_
  refine xg_iload_n hC dX4_fill_45 rfl ?_
  refine xg_iload_n hC dX4_fill_46 rfl ?_
  refine xg_callV hC (ci := 3) (w_X4_orderByBranches hI σ45 x1 x2 h1 h2) xl_M_X4_62 xl_V_X4_orderByBranches (xm_hK (a := 29) (kd := 0) (n := 3) hI rfl).2 ((xm_hK (a := 29) (kd := 0) (n := 3) hI rfl).1 _) (by decide) rfl (by decide) ⟨by decide, by decide⟩ dX4_fill_47 (rest := []) rfl rfl (Nat.le_of_ble_eq_true rfl) rfl rfl (st2 := fun o => []) (fun _ => rfl) (fun o50 k51 => ?_)
  exact xg_pick [0, 1, 3, 4] rfl (w_X4_fill_j50 hC hQ hI o50.1 x1 x3 x4 h1 h3)
theorem w_X4_fill {Γ : xm_Gm} {I : xm_Mem → Prop} {la : Launch} (hE : I = xm_I) (σ : xm_Mem) (x1 : Int) (x2 : Int) (x3 : Int) (x4 : Int) (h1 : xm_in x1) (h2 : xm_in x2) (h3 : xm_in x3) : ∀ o, f_X4_fill σ x1 x2 x3 x4 = some o → xm_M Γ I la yX4_fill cX4_fill 7 none 4 0 0 [.ref (xm_B Γ + 29), .int (xm_J x1), .int (xm_J x2), .int (xm_J x3), xm_rf Γ x4] σ 0 o := by
  refine xg_enter (by decide) (by simp [lg_sl, xm_rf_cat, xm_cati, xm_catr, xm_catl]) (fun X hG hI0 hla hC hQ hname => ?_)
  subst hG
  have hI := hI0.trans hE
  clear hI0 hla
  unfold f_X4_fill
  refine xg_pick [0, 1, 2, 3, 4] (l' := [(0, .ref (xm_B (xx_G X) + 29)), (1, .int (xm_J x1)), (2, .int (xm_J x2)), (3, .int (xm_J x3)), (4, xm_rf (xx_G X) x4)]) (by simp [lv_args, lv_pick, xm_rf_cat, xm_cati, xm_catr, xm_catl]) ?_
  refine xg_iload_n hC dX4_fill_0 rfl ?_
  refine xg_aload_n hC dX4_fill_1 rfl ?_
  refine xg_getI hC (xm_hK hI rfl) rfl xl_F_X4_19 dX4_fill_2 (fun k1 => ?_)
  refine xg_icmp_ne hC h1 k1 16 dX4_fill_5 rfl (fun c2 => ?_) (fun c3 => ?_)
  · refine xg_iload_n hC dX4_fill_8 rfl ?_
    refine xg_aload_n hC dX4_fill_9 rfl ?_
    refine xg_getI hC (xm_hK hI rfl) rfl xl_F_X4_22 dX4_fill_10 (fun k4 => ?_)
    refine xg_icmp_eq hC h2 k4 50 dX4_fill_13 rfl (fun c5 => ?_) (fun c6 => ?_)
    · exact xg_pick [0, 1, 3, 4] rfl (w_X4_fill_j50 hC hQ hI σ x1 x3 x4 h1 h3)
    exact (w_X4_fill_j16 hC hQ hI σ x1 x2 x3 x4 h1 h2 h3)
  exact (w_X4_fill_j16 hC hQ hI σ x1 x2 x3 x4 h1 h2 h3)
theorem w_X4_size {Γ : xm_Gm} {I : xm_Mem → Prop} {la : Launch} (hE : I = xm_I) (σ : xm_Mem)   : ∀ o, f_X4_size σ  = some o → xm_M Γ I la yX4_size cX4_size 1 (some .int) 1 0 0 [.ref (xm_B Γ + 29)] σ 1 o := by
  refine xg_enter (by decide) (by simp [lg_sl, xm_rf_cat, xm_cati, xm_catr, xm_catl]) (fun X hG hI0 hla hC hQ hname => ?_)
  subst hG
  have hI := hI0.trans hE
  clear hI0 hla
  unfold f_X4_size
  refine xg_pick [0] (l' := [(0, .ref (xm_B (xx_G X) + 29))]) rfl ?_
  refine xg_aload_n hC dX4_size_0 rfl ?_
  refine xg_getI hC (xm_hK hI rfl) rfl xl_F_X4_37 dX4_size_1 (fun k1 => ?_)
  exact xg_iret hC hQ k1 dX4_size_4
theorem w_X4_has {Γ : xm_Gm} {I : xm_Mem → Prop} {la : Launch} (hE : I = xm_I) (σ : xm_Mem) (x1 : Int) (h1 : xm_in x1) : ∀ o, f_X4_has σ x1 = some o → xm_M Γ I la yX4_has cX4_has 2 (some .boolean) 2 0 0 [.ref (xm_B Γ + 29), .int (xm_J x1)] σ 2 o := by
  refine xg_enter (by decide) (by simp [lg_sl, xm_rf_cat, xm_cati, xm_catr, xm_catl]) (fun X hG hI0 hla hC hQ hname => ?_)
  subst hG
  have hI := hI0.trans hE
  clear hI0 hla
  unfold f_X4_has
  refine xg_pick [0, 1] (l' := [(0, .ref (xm_B (xx_G X) + 29)), (1, .int (xm_J x1))]) rfl ?_
  refine xg_iload_n hC dX4_has_0 rfl ?_
  refine xg_callSN hC (w_X10_isPersonNumber hI σ x1 h1) xl_N_X4_76 xl_S_X10_isPersonNumber (by decide) ⟨by decide, by decide⟩ dX4_has_1 (rest := []) rfl rfl (Nat.le_of_ble_eq_true rfl) rfl rfl (st2 := fun o => .int (xm_J o.2) :: []) (fun _ => rfl) (fun o1 k2 => ?_)
  refine xg_if_eq hC (xm_in01 k2) 24 dX4_has_4 rfl (fun c3 => ?_) (fun c4 => ?_)
  · refine xg_iconst hC dX4_has_24 ?_
    exact xg_zret hC hQ (by decide) dX4_has_25
  refine xg_aload_n hC dX4_has_7 rfl ?_
  refine xg_getL hC (xm_hK hI rfl) rfl xl_F_X4_40 dX4_has_8 ?_
  refine xg_lconst hC dX4_has_11 (v := 1) rfl ?_
  refine xg_iload_n hC dX4_has_12 rfl ?_
  refine xg_lshl hC dX4_has_13 ?_
  refine xg_land hC dX4_has_14 ?_
  refine xg_lconst hC dX4_has_15 (v := 0) rfl ?_
  refine xg_lcmp hC dX4_has_16 ?_
  refine xg_if_eq hC (xm_lc_in _ _) 24 dX4_has_17 rfl (fun c6 => ?_) (fun c7 => ?_)
  · refine xg_iconst hC dX4_has_24 ?_
    exact xg_zret hC hQ (by decide) dX4_has_25
  refine xg_iconst hC dX4_has_20 ?_
  refine xg_goto hC 25 dX4_has_21 rfl ?_
  exact xg_zret hC hQ (by decide) dX4_has_25
theorem w_X2_body {Γ : xm_Gm} {I : xm_Mem → Prop} {la : Launch} (hE : I = xm_I) (σ : xm_Mem) (x1 : Int) (h1 : xm_in x1) : ∀ o, f_X2_body σ x1 = some o → xm_M Γ I la yX2_body cX2_body 2 (some .long) 2 0 0 [.ref (xm_B Γ + 23), .int (xm_J x1)] σ 6 o := by
  refine xg_enter (by decide) (by simp [lg_sl, xm_rf_cat, xm_cati, xm_catr, xm_catl]) (fun X hG hI0 hla hC hQ hname => ?_)
  subst hG
  have hI := hI0.trans hE
  clear hI0 hla
  unfold f_X2_body
  refine xg_pick [0, 1] (l' := [(0, .ref (xm_B (xx_G X) + 23)), (1, .int (xm_J x1))]) rfl ?_
  refine xg_iload_n hC dX2_body_0 rfl ?_
  refine xg_callSN hC (w_X10_isPersonNumber hI σ x1 h1) xl_N_X2_80 xl_S_X10_isPersonNumber (by decide) ⟨by decide, by decide⟩ dX2_body_1 (rest := []) rfl rfl (Nat.le_of_ble_eq_true rfl) rfl rfl (st2 := fun o => .int (xm_J o.2) :: []) (fun _ => rfl) (fun o1 k2 => ?_)
  refine xg_if_eq hC (xm_in01 k2) 16 dX2_body_4 rfl (fun c3 => ?_) (fun c4 => ?_)
  · refine xg_lconst hC dX2_body_16 (v := 0) rfl ?_
    exact xg_lret hC hQ dX2_body_17
  refine xg_aload_n hC dX2_body_7 rfl ?_
  refine xg_getW hC (xm_hK hI rfl) rfl (xm_wK hI rfl) (by decide) xl_F_X2_29 dX2_body_8 ?_
  refine xg_iload_n hC dX2_body_11 rfl ?_
  refine xg_lald hC (xm_hK hI rfl) rfl h1 dX2_body_12 (fun b5 => ?_)
  refine xg_goto hC 17 dX2_body_13 rfl ?_
  exact xg_lret hC hQ dX2_body_17
theorem w_X4_eldestSonWithLine_b2 {X : xm_X} (hC : xm_C X yX4_eldestSonWithLine.cls cX4_eldestSonWithLine 4 3 0 0) (hQ : xm_Rt X 1 (some .int) 0 0) (hI : xx_I X = xm_I)   {self : xm_Mem → Int → Int → Option xm_Out} (hself : ∀ (σ : xm_Mem) (x1 : Int) (x2 : Int), xm_in x1 → xm_in x2 → xm_V X 0 0 (self σ x1 x2) σ 2 [(0, .ref (xm_B (xx_G X) + 29)), (1, .int (xm_J x1)), (2, .int (xm_J x2))] []) (σ : xm_Mem) (x1 : Int) (x2 : Int) (h1 : xm_in x1) (h2 : xm_in x2) : xm_V X 0 0 (f_X4_eldestSonWithLine_b2  self σ x1 x2) σ 2 [(0, .ref (xm_B (xx_G X) + 29)), (1, .int (xm_J x1)), (2, .int (xm_J x2))] [] := by
  unfold f_X4_eldestSonWithLine_b2
  refine xg_iload_n hC dX4_eldestSonWithLine_2 rfl ?_
  refine xg_aload_n hC dX4_eldestSonWithLine_3 rfl ?_
  refine xg_getW hC (xm_hK hI rfl) rfl (xm_wK hI rfl) (by decide) xl_F_X4_54 dX4_eldestSonWithLine_4 ?_
  refine xg_iload_n hC dX4_eldestSonWithLine_7 rfl ?_
  refine xg_callV hC (ci := 1) (w_X2_kidCount hI σ x1 h1) xl_M_X4_91 xl_V_X2_kidCount (xm_hK (a := 23) (kd := 0) (n := 1) hI rfl).2 ((xm_hK (a := 23) (kd := 0) (n := 1) hI rfl).1 _) (by decide) rfl (by decide) ⟨by decide, by decide⟩ dX4_eldestSonWithLine_8 (rest := [.int (xm_J x2)]) rfl rfl (Nat.le_of_ble_eq_true rfl) rfl rfl (st2 := fun o => .int (xm_J o.2) :: [.int (xm_J x2)]) (fun _ => rfl) (fun o1 k2 => ?_)
  refine xg_icmp_ge hC h2 k2 61 dX4_eldestSonWithLine_11 rfl (fun c3 => ?_) (fun c4 => ?_)
  · refine xg_aload_n hC dX4_eldestSonWithLine_14 rfl ?_
    refine xg_getW hC (xm_hK hI rfl) rfl (xm_wK hI rfl) (by decide) xl_F_X4_54 dX4_eldestSonWithLine_15 ?_
    refine xg_iload_n hC dX4_eldestSonWithLine_18 rfl ?_
    refine xg_iload_n hC dX4_eldestSonWithLine_19 rfl ?_
    refine xg_callV hC (ci := 1) (w_X2_kid hI o1.1 x1 x2 h1 h2) xl_M_X4_94 xl_V_X2_kid (xm_hK (a := 23) (kd := 0) (n := 1) hI rfl).2 ((xm_hK (a := 23) (kd := 0) (n := 1) hI rfl).1 _) (by decide) rfl (by decide) ⟨by decide, by decide⟩ dX4_eldestSonWithLine_20 (rest := []) rfl rfl (Nat.le_of_ble_eq_true rfl) rfl rfl (st2 := fun o => .int (xm_J o.2) :: []) (fun _ => rfl) (fun o5 k6 => ?_)
    refine xg_istore_n hC dX4_eldestSonWithLine_23 (by decide) rfl ?_
    refine xg_aload_n hC dX4_eldestSonWithLine_24 rfl ?_
    refine xg_getW hC (xm_hK hI rfl) rfl (xm_wK hI rfl) (by decide) xl_F_X4_50 dX4_eldestSonWithLine_25 ?_
    refine xg_iload_n hC dX4_eldestSonWithLine_28 rfl ?_
    refine xg_callV hC (ci := 4) (w_X5_isMale hI o5.1 o5.2 k6) xl_M_X4_72 xl_V_X5_isMale (xm_hK (a := 9) (kd := 0) (n := 4) hI rfl).2 ((xm_hK (a := 9) (kd := 0) (n := 4) hI rfl).1 _) (by decide) rfl (by decide) ⟨by decide, by decide⟩ dX4_eldestSonWithLine_29 (rest := []) rfl rfl (Nat.le_of_ble_eq_true rfl) rfl rfl (st2 := fun o => .int (xm_J o.2) :: []) (fun _ => rfl) (fun o7 k8 => ?_)
    refine xg_if_eq hC (xm_in01 k8) 55 dX4_eldestSonWithLine_32 rfl (fun c9 => ?_) (fun c10 => ?_)
    · refine xg_iinc hC dX4_eldestSonWithLine_55 (by decide) 3 rfl rfl ?_
      refine xg_goto hC 2 dX4_eldestSonWithLine_58 rfl ?_
      exact xg_pick [2, 3, 0] rfl (hself o7.1 x1 (xm_w (x2 + 1)) h1 (xm_w_in _))
    refine xg_aload_n hC dX4_eldestSonWithLine_35 rfl ?_
    refine xg_getW hC (xm_hK hI rfl) rfl (xm_wK hI rfl) (by decide) xl_F_X4_54 dX4_eldestSonWithLine_36 ?_
    refine xg_iload_n hC dX4_eldestSonWithLine_39 rfl ?_
    refine xg_callV hC (ci := 1) (w_X2_body hI o7.1 o5.2 k6) xl_M_X4_111 xl_V_X2_body (xm_hK (a := 23) (kd := 0) (n := 1) hI rfl).2 ((xm_hK (a := 23) (kd := 0) (n := 1) hI rfl).1 _) (by decide) rfl (by decide) ⟨by decide, by decide⟩ dX4_eldestSonWithLine_40 (rest := []) rfl rfl (Nat.le_of_ble_eq_true rfl) rfl rfl (st2 := fun o => .long (Int64.ofInt o.2) :: []) (fun _ => rfl) (fun o11 k12 => ?_)
    refine xg_aload_n hC dX4_eldestSonWithLine_43 rfl ?_
    refine xg_getL hC (xm_hK hI rfl) rfl xl_F_X4_40 dX4_eldestSonWithLine_44 ?_
    refine xg_land hC dX4_eldestSonWithLine_47 ?_
    refine xg_lconst hC dX4_eldestSonWithLine_48 (v := 0) rfl ?_
    refine xg_lcmp hC dX4_eldestSonWithLine_49 ?_
    refine xg_if_eq hC (xm_lc_in _ _) 55 dX4_eldestSonWithLine_50 rfl (fun c14 => ?_) (fun c15 => ?_)
    · refine xg_iinc hC dX4_eldestSonWithLine_55 (by decide) 3 rfl rfl ?_
      refine xg_goto hC 2 dX4_eldestSonWithLine_58 rfl ?_
      exact xg_pick [2, 3, 0] rfl (hself o11.1 x1 (xm_w (x2 + 1)) h1 (xm_w_in _))
    refine xg_iload_n hC dX4_eldestSonWithLine_53 rfl ?_
    exact xg_iret hC hQ k6 dX4_eldestSonWithLine_54
  refine xg_iconst hC dX4_eldestSonWithLine_61 ?_
  exact xg_iret hC hQ (xm_inc _ rfl) dX4_eldestSonWithLine_62
theorem w_X4_eldestSonWithLine_l2 {X : xm_X} (hC : xm_C X yX4_eldestSonWithLine.cls cX4_eldestSonWithLine 4 3 0 0) (hQ : xm_Rt X 1 (some .int) 0 0) (hI : xx_I X = xm_I)   (n : Nat) : ∀ (σ : xm_Mem) (x1 : Int) (x2 : Int), xm_in x1 → xm_in x2 → xm_V X 0 0 (f_X4_eldestSonWithLine_l2  n σ x1 x2) σ 2 [(0, .ref (xm_B (xx_G X) + 29)), (1, .int (xm_J x1)), (2, .int (xm_J x2))] [] := by
  induction n with
  | zero => intro σ x1 x2 h1 h2; exact xg_none
  | succ n ih => intro σ x1 x2 h1 h2; exact w_X4_eldestSonWithLine_b2 hC hQ hI ih σ x1 x2 h1 h2
theorem w_X4_eldestSonWithLine {Γ : xm_Gm} {I : xm_Mem → Prop} {la : Launch} (hE : I = xm_I) (σ : xm_Mem) (x1 : Int) (h1 : xm_in x1) : ∀ o, f_X4_eldestSonWithLine σ x1 = some o → xm_M Γ I la yX4_eldestSonWithLine cX4_eldestSonWithLine 4 (some .int) 3 0 0 [.ref (xm_B Γ + 29), .int (xm_J x1)] σ 1 o := by
  refine xg_enter (by decide) (by simp [lg_sl, xm_rf_cat, xm_cati, xm_catr, xm_catl]) (fun X hG hI0 hla hC hQ hname => ?_)
  subst hG
  have hI := hI0.trans hE
  clear hI0 hla
  unfold f_X4_eldestSonWithLine
  refine xg_pick [0, 1] (l' := [(0, .ref (xm_B (xx_G X) + 29)), (1, .int (xm_J x1))]) rfl ?_
  refine xg_iconst hC dX4_eldestSonWithLine_0 ?_
  refine xg_istore_n hC dX4_eldestSonWithLine_1 (by decide) rfl ?_
  exact xg_pick [1, 2, 0] rfl (w_X4_eldestSonWithLine_l2 hC hQ hI _ σ x1 (0 : Int) h1 (xm_inc _ rfl))
theorem w_X4_firstOf_b2 {X : xm_X} (hC : xm_C X yX4_firstOf.cls cX4_firstOf 4 1 0 0) (hQ : xm_Rt X 1 (some .int) 0 0) (hI : xx_I X = xm_I) {K25 : xm_Mem → Int → Option xm_Out} (hK25 : ∀ (σ : xm_Mem) (x3 : Int), xm_in x3 → xm_V X 0 0 (K25 σ x3) σ 25 [(0, .ref (xm_B (xx_G X) + 29)), (3, .int (xm_J x3))] []) {self : xm_Mem → Int64 → Int → Option xm_Out} (hself : ∀ (σ : xm_Mem) (x1 : Int64) (x3 : Int), xm_in x3 → xm_V X 0 0 (self σ x1 x3) σ 2 [(0, .ref (xm_B (xx_G X) + 29)), (1, .long x1), (3, .int (xm_J x3))] []) (σ : xm_Mem) (x1 : Int64) (x3 : Int) (h3 : xm_in x3) : xm_V X 0 0 (f_X4_firstOf_b2 K25 self σ x1 x3) σ 2 [(0, .ref (xm_B (xx_G X) + 29)), (1, .long x1), (3, .int (xm_J x3))] [] := by
  unfold f_X4_firstOf_b2
  refine xg_iload_n hC dX4_firstOf_2 rfl ?_
  refine xg_aload_n hC dX4_firstOf_3 rfl ?_
  refine xg_getI hC (xm_hK hI rfl) rfl xl_F_X4_37 dX4_firstOf_4 (fun k1 => ?_)
  refine xg_icmp_ge hC h3 k1 38 dX4_firstOf_7 rfl (fun c2 => ?_) (fun c3 => ?_)
  · refine xg_lload_n hC dX4_firstOf_10 rfl ?_
    refine xg_lconst hC dX4_firstOf_11 (v := 1) rfl ?_
    refine xg_aload_n hC dX4_firstOf_12 rfl ?_
    refine xg_getW hC (xm_hK hI rfl) rfl (xm_wK hI rfl) (by decide) xl_F_X4_34 dX4_firstOf_13 ?_
    refine xg_iload_n hC dX4_firstOf_16 rfl ?_
    refine xg_iald hC (xm_hK hI rfl) rfl h3 dX4_firstOf_17 (fun b4 k5 => ?_)
    refine xg_lshl hC dX4_firstOf_18 ?_
    refine xg_land hC dX4_firstOf_19 ?_
    refine xg_lconst hC dX4_firstOf_20 (v := 0) rfl ?_
    refine xg_lcmp hC dX4_firstOf_21 ?_
    refine xg_if_eq hC (xm_lc_in _ _) 32 dX4_firstOf_22 rfl (fun c6 => ?_) (fun c7 => ?_)
    · refine xg_iinc hC dX4_firstOf_32 (by decide) 2 rfl rfl ?_
      refine xg_goto hC 2 dX4_firstOf_35 rfl ?_
      exact xg_pick [1, 2, 0] rfl (hself σ x1 (xm_w (x3 + 1)) (xm_w_in _))
    exact xg_pick [0, 2] rfl (hK25 σ x3 h3)
  refine xg_iconst hC dX4_firstOf_38 ?_
  exact xg_iret hC hQ (xm_inc _ rfl) dX4_firstOf_39
theorem w_X4_firstOf_l2 {X : xm_X} (hC : xm_C X yX4_firstOf.cls cX4_firstOf 4 1 0 0) (hQ : xm_Rt X 1 (some .int) 0 0) (hI : xx_I X = xm_I) {K25 : xm_Mem → Int → Option xm_Out} (hK25 : ∀ (σ : xm_Mem) (x3 : Int), xm_in x3 → xm_V X 0 0 (K25 σ x3) σ 25 [(0, .ref (xm_B (xx_G X) + 29)), (3, .int (xm_J x3))] []) (n : Nat) : ∀ (σ : xm_Mem) (x1 : Int64) (x3 : Int), xm_in x3 → xm_V X 0 0 (f_X4_firstOf_l2 K25 n σ x1 x3) σ 2 [(0, .ref (xm_B (xx_G X) + 29)), (1, .long x1), (3, .int (xm_J x3))] [] := by
  induction n with
  | zero => intro σ x1 x3 h3; exact xg_none
  | succ n ih => intro σ x1 x3 h3; exact w_X4_firstOf_b2 hC hQ hI hK25 ih σ x1 x3 h3
theorem w_X4_firstOf {Γ : xm_Gm} {I : xm_Mem → Prop} {la : Launch} (hE : I = xm_I) (σ : xm_Mem) (x1 : Int64)  : ∀ o, f_X4_firstOf σ x1 = some o → xm_M Γ I la yX4_firstOf cX4_firstOf 4 (some .int) 1 0 0 [.ref (xm_B Γ + 29), .long x1] σ 1 o := by
  refine xg_enter (by decide) (by simp [lg_sl, xm_rf_cat, xm_cati, xm_catr, xm_catl]) (fun X hG hI0 hla hC hQ hname => ?_)
  subst hG
  have hI := hI0.trans hE
  clear hI0 hla
  unfold f_X4_firstOf
  refine xg_pick [0, 1] (l' := [(0, .ref (xm_B (xx_G X) + 29)), (1, .long x1)]) rfl ?_
  refine xg_iconst hC dX4_firstOf_0 ?_
  refine xg_istore_n hC dX4_firstOf_1 (by decide) rfl ?_
  refine xg_pick [1, 2, 0] rfl (w_X4_firstOf_l2 hC hQ hI ?_ _ σ x1 (0 : Int) (xm_inc _ rfl))
  intro σ_8 x3_8 h3_8
  refine xg_aload_n hC dX4_firstOf_25 rfl ?_
  refine xg_getW hC (xm_hK hI rfl) rfl (xm_wK hI rfl) (by decide) xl_F_X4_34 dX4_firstOf_26 ?_
  refine xg_iload_n hC dX4_firstOf_29 rfl ?_
  refine xg_iald hC (xm_hK hI rfl) rfl h3_8 dX4_firstOf_30 (fun b9 k10 => ?_)
  exact xg_iret hC hQ k10 dX4_firstOf_31
theorem w_X4_soleDaughterWithLine_b13 {X : xm_X} (hC : xm_C X yX4_soleDaughterWithLine.cls cX4_soleDaughterWithLine 9 3 0 0) (hQ : xm_Rt X 1 (some .int) 0 0) (hI : xx_I X = xm_I) {K135 : xm_Mem → Int → Option xm_Out} (hK135 : ∀ (σ : xm_Mem) (x4 : Int), xm_in x4 → xm_V X 0 0 (K135 σ x4) σ 135 [(0, .ref (xm_B (xx_G X) + 29)), (4, .int (xm_J x4))] []) {self : xm_Mem → Int → Int64 → Int → Int → Option xm_Out} (hself : ∀ (σ : xm_Mem) (x1 : Int) (x2 : Int64) (x4 : Int) (x5 : Int), xm_in x1 → xm_in x4 → xm_in x5 → xm_V X 0 0 (self σ x1 x2 x4 x5) σ 13 [(0, .ref (xm_B (xx_G X) + 29)), (1, .int (xm_J x1)), (2, .long x2), (4, .int (xm_J x4)), (5, .int (xm_J x5))] []) (σ : xm_Mem) (x1 : Int) (x2 : Int64) (x4 : Int) (x5 : Int) (h1 : xm_in x1) (h4 : xm_in x4) (h5 : xm_in x5) : xm_V X 0 0 (f_X4_soleDaughterWithLine_b13 K135 self σ x1 x2 x4 x5) σ 13 [(0, .ref (xm_B (xx_G X) + 29)), (1, .int (xm_J x1)), (2, .long x2), (4, .int (xm_J x4)), (5, .int (xm_J x5))] [] := by
  unfold f_X4_soleDaughterWithLine_b13
  refine xg_iload hC dX4_soleDaughterWithLine_13 rfl ?_
  refine xg_aload_n hC dX4_soleDaughterWithLine_15 rfl ?_
  refine xg_getW hC (xm_hK hI rfl) rfl (xm_wK hI rfl) (by decide) xl_F_X4_54 dX4_soleDaughterWithLine_16 ?_
  refine xg_iload_n hC dX4_soleDaughterWithLine_19 rfl ?_
  refine xg_callV hC (ci := 1) (w_X2_kidCount hI σ x1 h1) xl_M_X4_91 xl_V_X2_kidCount (xm_hK (a := 23) (kd := 0) (n := 1) hI rfl).2 ((xm_hK (a := 23) (kd := 0) (n := 1) hI rfl).1 _) (by decide) rfl (by decide) ⟨by decide, by decide⟩ dX4_soleDaughterWithLine_20 (rest := [.int (xm_J x5)]) rfl rfl (Nat.le_of_ble_eq_true rfl) rfl rfl (st2 := fun o => .int (xm_J o.2) :: [.int (xm_J x5)]) (fun _ => rfl) (fun o2 k3 => ?_)
  refine xg_icmp_ge hC h5 k3 135 dX4_soleDaughterWithLine_23 rfl (fun c4 => ?_) (fun c5 => ?_)
  · refine xg_aload_n hC dX4_soleDaughterWithLine_26 rfl ?_
    refine xg_getW hC (xm_hK hI rfl) rfl (xm_wK hI rfl) (by decide) xl_F_X4_54 dX4_soleDaughterWithLine_27 ?_
    refine xg_iload_n hC dX4_soleDaughterWithLine_30 rfl ?_
    refine xg_iload hC dX4_soleDaughterWithLine_31 rfl ?_
    refine xg_callV hC (ci := 1) (w_X2_kid hI o2.1 x1 x5 h1 h5) xl_M_X4_94 xl_V_X2_kid (xm_hK (a := 23) (kd := 0) (n := 1) hI rfl).2 ((xm_hK (a := 23) (kd := 0) (n := 1) hI rfl).1 _) (by decide) rfl (by decide) ⟨by decide, by decide⟩ dX4_soleDaughterWithLine_33 (rest := []) rfl rfl (Nat.le_of_ble_eq_true rfl) rfl rfl (st2 := fun o => .int (xm_J o.2) :: []) (fun _ => rfl) (fun o6 k7 => ?_)
    refine xg_istore hC dX4_soleDaughterWithLine_36 (by decide) rfl ?_
    refine xg_aload_n hC dX4_soleDaughterWithLine_38 rfl ?_
    refine xg_getW hC (xm_hK hI rfl) rfl (xm_wK hI rfl) (by decide) xl_F_X4_54 dX4_soleDaughterWithLine_39 ?_
    refine xg_iload hC dX4_soleDaughterWithLine_42 rfl ?_
    refine xg_callV hC (ci := 1) (w_X2_body hI o6.1 o6.2 k7) xl_M_X4_111 xl_V_X2_body (xm_hK (a := 23) (kd := 0) (n := 1) hI rfl).2 ((xm_hK (a := 23) (kd := 0) (n := 1) hI rfl).1 _) (by decide) rfl (by decide) ⟨by decide, by decide⟩ dX4_soleDaughterWithLine_44 (rest := []) rfl rfl (Nat.le_of_ble_eq_true rfl) rfl rfl (st2 := fun o => .long (Int64.ofInt o.2) :: []) (fun _ => rfl) (fun o8 k9 => ?_)
    refine xg_aload_n hC dX4_soleDaughterWithLine_47 rfl ?_
    refine xg_getL hC (xm_hK hI rfl) rfl xl_F_X4_40 dX4_soleDaughterWithLine_48 ?_
    refine xg_land hC dX4_soleDaughterWithLine_51 ?_
    refine xg_lload_n hC dX4_soleDaughterWithLine_52 rfl ?_
    refine xg_ldc2 hC dX4_soleDaughterWithLine_53 xl_C_X4_114 ?_
    refine xg_lxor hC dX4_soleDaughterWithLine_56 ?_
    refine xg_land hC dX4_soleDaughterWithLine_57 ?_
    refine xg_vJ (fun v11 => ?_)
    refine xg_lstore hC dX4_soleDaughterWithLine_58 (by decide) rfl ?_
    refine xg_aload_n hC dX4_soleDaughterWithLine_60 rfl ?_
    refine xg_getW hC (xm_hK hI rfl) rfl (xm_wK hI rfl) (by decide) xl_F_X4_50 dX4_soleDaughterWithLine_61 ?_
    refine xg_iload hC dX4_soleDaughterWithLine_64 rfl ?_
    refine xg_callV hC (ci := 4) (w_X5_isMale hI o8.1 o6.2 k7) xl_M_X4_72 xl_V_X5_isMale (xm_hK (a := 9) (kd := 0) (n := 4) hI rfl).2 ((xm_hK (a := 9) (kd := 0) (n := 4) hI rfl).1 _) (by decide) rfl (by decide) ⟨by decide, by decide⟩ dX4_soleDaughterWithLine_66 (rest := []) rfl rfl (Nat.le_of_ble_eq_true rfl) rfl rfl (st2 := fun o => .int (xm_J o.2) :: []) (fun _ => rfl) (fun o12 k13 => ?_)
    refine xg_if_ne hC (xm_in01 k13) 129 dX4_soleDaughterWithLine_69 rfl (fun c14 => ?_) (fun c15 => ?_)
    · refine xg_lload hC dX4_soleDaughterWithLine_72 rfl ?_
      refine xg_lconst hC dX4_soleDaughterWithLine_74 (v := 0) rfl ?_
      refine xg_lcmp hC dX4_soleDaughterWithLine_75 ?_
      refine xg_if_eq hC (xm_lc_in _ _) 129 dX4_soleDaughterWithLine_76 rfl (fun c16 => ?_) (fun c17 => ?_)
      · refine xg_iinc hC dX4_soleDaughterWithLine_129 (by decide) 6 rfl rfl ?_
        refine xg_goto hC 13 dX4_soleDaughterWithLine_132 rfl ?_
        exact xg_pick [3, 4, 5, 6, 0] rfl (hself o12.1 x1 x2 x4 (xm_w (x5 + 1)) h1 h4 (xm_w_in _))
      refine xg_aload_n hC dX4_soleDaughterWithLine_79 rfl ?_
      refine xg_getI hC (xm_hK hI rfl) rfl xl_F_X4_47 dX4_soleDaughterWithLine_80 (fun k18 => ?_)
      refine xg_bipush hC dX4_soleDaughterWithLine_83 (by decide) ?_
      refine xg_icmp_lt hC k18 (xm_inc _ rfl) 91 dX4_soleDaughterWithLine_85 rfl (fun c19 => ?_) (fun c20 => ?_)
      · refine xg_aload_n hC dX4_soleDaughterWithLine_91 rfl ?_
        refine xg_getW hC (xm_hK hI rfl) rfl (xm_wK hI rfl) (by decide) xl_F_X4_44 dX4_soleDaughterWithLine_92 ?_
        refine xg_aload_n hC dX4_soleDaughterWithLine_95 rfl ?_
        refine xg_dup hC dX4_soleDaughterWithLine_96 rfl ?_
        refine xg_getI hC (xm_hK hI rfl) rfl xl_F_X4_47 dX4_soleDaughterWithLine_97 (fun k21 => ?_)
        refine xg_vI k21 (fun v22 k23 => ?_)
        refine xg_dup_x1 hC dX4_soleDaughterWithLine_100 rfl rfl ?_
        refine xg_iconst hC dX4_soleDaughterWithLine_101 ?_
        refine xg_iadd hC dX4_soleDaughterWithLine_102 ?_
        refine xg_putI hC (xm_hK hI rfl) rfl rfl (xm_w_in _) (xm_kpK hI rfl) xl_F_X4_47 dX4_soleDaughterWithLine_103 ?_
        refine xg_st (fun σ24 => ?_)
        refine xg_aload_n hC dX4_soleDaughterWithLine_106 rfl ?_
        refine xg_lload hC dX4_soleDaughterWithLine_107 rfl ?_
        refine xg_callV hC (ci := 3) (w_X4_firstOf hI σ24 v11) xl_M_X4_116 xl_V_X4_firstOf (xm_hK (a := 29) (kd := 0) (n := 3) hI rfl).2 ((xm_hK (a := 29) (kd := 0) (n := 3) hI rfl).1 _) (by decide) rfl (by decide) ⟨by decide, by decide⟩ dX4_soleDaughterWithLine_109 (rest := [.int (xm_J v22), .ref (xm_B (xx_G X) + 34)]) rfl rfl (Nat.le_of_ble_eq_true rfl) rfl rfl (st2 := fun o => .int (xm_J o.2) :: [.int (xm_J v22), .ref (xm_B (xx_G X) + 34)]) (fun _ => rfl) (fun o25 k26 => ?_)
        refine xg_iast hC (xm_hK hI rfl) rfl k23 k26 (xm_kpF hI rfl) dX4_soleDaughterWithLine_112 ?_
        refine xg_st (fun σ27 => ?_)
        refine xg_lload_n hC dX4_soleDaughterWithLine_113 rfl ?_
        refine xg_aload_n hC dX4_soleDaughterWithLine_114 rfl ?_
        refine xg_getW hC (xm_hK hI rfl) rfl (xm_wK hI rfl) (by decide) xl_F_X4_54 dX4_soleDaughterWithLine_115 ?_
        refine xg_iload hC dX4_soleDaughterWithLine_118 rfl ?_
        refine xg_callV hC (ci := 1) (w_X2_body hI σ27 o6.2 k7) xl_M_X4_111 xl_V_X2_body (xm_hK (a := 23) (kd := 0) (n := 1) hI rfl).2 ((xm_hK (a := 23) (kd := 0) (n := 1) hI rfl).1 _) (by decide) rfl (by decide) ⟨by decide, by decide⟩ dX4_soleDaughterWithLine_120 (rest := [.long x2]) rfl rfl (Nat.le_of_ble_eq_true rfl) rfl rfl (st2 := fun o => .long (Int64.ofInt o.2) :: [.long x2]) (fun _ => rfl) (fun o28 k29 => ?_)
        refine xg_lor hC dX4_soleDaughterWithLine_123 ?_
        refine xg_vJ (fun v30 => ?_)
        refine xg_lstore_n hC dX4_soleDaughterWithLine_124 (by decide) rfl ?_
        refine xg_iload hC dX4_soleDaughterWithLine_125 rfl ?_
        refine xg_istore hC dX4_soleDaughterWithLine_127 (by decide) rfl ?_
        refine xg_iinc hC dX4_soleDaughterWithLine_129 (by decide) 6 rfl rfl ?_
        refine xg_goto hC 13 dX4_soleDaughterWithLine_132 rfl ?_
        exact xg_pick [5, 6, 2, 1, 0] rfl (hself o28.1 x1 v30 o6.2 (xm_w (x5 + 1)) h1 k7 (xm_w_in _))
      refine xg_goto hC 129 dX4_soleDaughterWithLine_88 rfl ?_
      refine xg_iinc hC dX4_soleDaughterWithLine_129 (by decide) 6 rfl rfl ?_
      refine xg_goto hC 13 dX4_soleDaughterWithLine_132 rfl ?_
      exact xg_pick [3, 4, 5, 6, 0] rfl (hself o12.1 x1 x2 x4 (xm_w (x5 + 1)) h1 h4 (xm_w_in _))
    refine xg_iinc hC dX4_soleDaughterWithLine_129 (by decide) 6 rfl rfl ?_
    refine xg_goto hC 13 dX4_soleDaughterWithLine_132 rfl ?_
    exact xg_pick [3, 4, 5, 6, 0] rfl (hself o12.1 x1 x2 x4 (xm_w (x5 + 1)) h1 h4 (xm_w_in _))
  exact xg_pick [0, 3] rfl (hK135 o2.1 x4 h4)
theorem w_X4_soleDaughterWithLine_l13 {X : xm_X} (hC : xm_C X yX4_soleDaughterWithLine.cls cX4_soleDaughterWithLine 9 3 0 0) (hQ : xm_Rt X 1 (some .int) 0 0) (hI : xx_I X = xm_I) {K135 : xm_Mem → Int → Option xm_Out} (hK135 : ∀ (σ : xm_Mem) (x4 : Int), xm_in x4 → xm_V X 0 0 (K135 σ x4) σ 135 [(0, .ref (xm_B (xx_G X) + 29)), (4, .int (xm_J x4))] []) (n : Nat) : ∀ (σ : xm_Mem) (x1 : Int) (x2 : Int64) (x4 : Int) (x5 : Int), xm_in x1 → xm_in x4 → xm_in x5 → xm_V X 0 0 (f_X4_soleDaughterWithLine_l13 K135 n σ x1 x2 x4 x5) σ 13 [(0, .ref (xm_B (xx_G X) + 29)), (1, .int (xm_J x1)), (2, .long x2), (4, .int (xm_J x4)), (5, .int (xm_J x5))] [] := by
  induction n with
  | zero => intro σ x1 x2 x4 x5 h1 h4 h5; exact xg_none
  | succ n ih => intro σ x1 x2 x4 x5 h1 h4 h5; exact w_X4_soleDaughterWithLine_b13 hC hQ hI hK135 ih σ x1 x2 x4 x5 h1 h4 h5
theorem w_X4_soleDaughterWithLine {Γ : xm_Gm} {I : xm_Mem → Prop} {la : Launch} (hE : I = xm_I) (σ : xm_Mem) (x1 : Int) (h1 : xm_in x1) : ∀ o, f_X4_soleDaughterWithLine σ x1 = some o → xm_M Γ I la yX4_soleDaughterWithLine cX4_soleDaughterWithLine 9 (some .int) 3 0 0 [.ref (xm_B Γ + 29), .int (xm_J x1)] σ 1 o := by
  refine xg_enter (by decide) (by simp [lg_sl, xm_rf_cat, xm_cati, xm_catr, xm_catl]) (fun X hG hI0 hla hC hQ hname => ?_)
  subst hG
  have hI := hI0.trans hE
  clear hI0 hla
  unfold f_X4_soleDaughterWithLine
  refine xg_pick [0, 1] (l' := [(0, .ref (xm_B (xx_G X) + 29)), (1, .int (xm_J x1))]) rfl ?_
  refine xg_lconst hC dX4_soleDaughterWithLine_0 (v := 0) rfl ?_
  refine xg_lstore_n hC dX4_soleDaughterWithLine_1 (by decide) rfl ?_
  refine xg_iconst hC dX4_soleDaughterWithLine_2 ?_
  refine xg_istore hC dX4_soleDaughterWithLine_3 (by decide) rfl ?_
  refine xg_aload_n hC dX4_soleDaughterWithLine_5 rfl ?_
  refine xg_iconst hC dX4_soleDaughterWithLine_6 ?_
  refine xg_putI hC (xm_hK hI rfl) rfl rfl (xm_inc _ rfl) (xm_kpK hI rfl) xl_F_X4_47 dX4_soleDaughterWithLine_7 ?_
  refine xg_st (fun σ1 => ?_)
  refine xg_iconst hC dX4_soleDaughterWithLine_10 ?_
  refine xg_istore hC dX4_soleDaughterWithLine_11 (by decide) rfl ?_
  refine xg_pick [3, 4, 2, 1, 0] rfl (w_X4_soleDaughterWithLine_l13 hC hQ hI ?_ _ σ1 x1 (0 : Int64) (-1 : Int) (0 : Int) h1 (xm_inc _ rfl) (xm_inc _ rfl))
  intro σ_31 x4_31 h4_31
  refine xg_aload_n hC dX4_soleDaughterWithLine_135 rfl ?_
  refine xg_getI hC (xm_hK hI rfl) rfl xl_F_X4_47 dX4_soleDaughterWithLine_136 (fun k32 => ?_)
  refine xg_iconst hC dX4_soleDaughterWithLine_139 ?_
  refine xg_icmp_le hC k32 (xm_inc _ rfl) 145 dX4_soleDaughterWithLine_140 rfl (fun c33 => ?_) (fun c34 => ?_)
  · refine xg_iconst hC dX4_soleDaughterWithLine_143 ?_
    exact xg_iret hC hQ (xm_inc _ rfl) dX4_soleDaughterWithLine_144
  refine xg_aload_n hC dX4_soleDaughterWithLine_145 rfl ?_
  refine xg_iconst hC dX4_soleDaughterWithLine_146 ?_
  refine xg_putI hC (xm_hK hI rfl) rfl rfl (xm_inc _ rfl) (xm_kpK hI rfl) xl_F_X4_47 dX4_soleDaughterWithLine_147 ?_
  refine xg_st (fun σ35 => ?_)
  refine xg_iload hC dX4_soleDaughterWithLine_150 rfl ?_
  exact xg_iret hC hQ h4_31 dX4_soleDaughterWithLine_152
theorem w_X4_stateByWrit_b18 {X : xm_X} (hC : xm_C X yX4_stateByWrit.cls cX4_stateByWrit 5 4 0 0) (hQ : xm_Rt X 1 (some .int) 0 0) (hI : xx_I X = xm_I) {K67 : xm_Mem → Int → Option xm_Out} (hK67 : ∀ (σ : xm_Mem) (x2 : Int), xm_in x2 → xm_V X 0 0 (K67 σ x2) σ 67 [(0, .ref (xm_B (xx_G X) + 29)), (2, .int (xm_J x2))] []) {self : xm_Mem → Int → Int → Option xm_Out} (hself : ∀ (σ : xm_Mem) (x2 : Int) (x3 : Int), xm_in x2 → xm_in x3 → xm_V X 0 0 (self σ x2 x3) σ 18 [(0, .ref (xm_B (xx_G X) + 29)), (2, .int (xm_J x2)), (3, .int (xm_J x3))] []) (σ : xm_Mem) (x2 : Int) (x3 : Int) (h2 : xm_in x2) (h3 : xm_in x3) : xm_V X 0 0 (f_X4_stateByWrit_b18 K67 self σ x2 x3) σ 18 [(0, .ref (xm_B (xx_G X) + 29)), (2, .int (xm_J x2)), (3, .int (xm_J x3))] [] := by
  unfold f_X4_stateByWrit_b18
  refine xg_iload_n hC dX4_stateByWrit_18 rfl ?_
  refine xg_bipush hC dX4_stateByWrit_19 (by decide) ?_
  refine xg_icmp_ge hC h3 (xm_inc _ rfl) 67 dX4_stateByWrit_21 rfl (fun c5 => ?_) (fun c6 => ?_)
  · refine xg_iload_n hC dX4_stateByWrit_24 rfl ?_
    refine xg_iconst hC dX4_stateByWrit_25 ?_
    refine xg_icmp_eq hC h2 (xm_inc _ rfl) 67 dX4_stateByWrit_26 rfl (fun c7 => ?_) (fun c8 => ?_)
    · exact xg_pick [0, 1] rfl (hK67 σ x2 h2)
    refine xg_aload_n hC dX4_stateByWrit_29 rfl ?_
    refine xg_iload_n hC dX4_stateByWrit_30 rfl ?_
    refine xg_callV hC (ci := 3) (w_X4_has hI σ x2 h2) xl_M_X4_102 xl_V_X4_has (xm_hK (a := 29) (kd := 0) (n := 3) hI rfl).2 ((xm_hK (a := 29) (kd := 0) (n := 3) hI rfl).1 _) (by decide) rfl (by decide) ⟨by decide, by decide⟩ dX4_stateByWrit_31 (rest := []) rfl rfl (Nat.le_of_ble_eq_true rfl) rfl rfl (st2 := fun o => .int (xm_J o.2) :: []) (fun _ => rfl) (fun o9 k10 => ?_)
    refine xg_if_ne hC (xm_in01 k10) 67 dX4_stateByWrit_34 rfl (fun c11 => ?_) (fun c12 => ?_)
    · refine xg_aload_n hC dX4_stateByWrit_37 rfl ?_
      refine xg_iload_n hC dX4_stateByWrit_38 rfl ?_
      refine xg_callV hC (ci := 3) (w_X4_eldestSonWithLine hI o9.1 x2 h2) xl_M_X4_105 xl_V_X4_eldestSonWithLine (xm_hK (a := 29) (kd := 0) (n := 3) hI rfl).2 ((xm_hK (a := 29) (kd := 0) (n := 3) hI rfl).1 _) (by decide) rfl (by decide) ⟨by decide, by decide⟩ dX4_stateByWrit_39 (rest := []) rfl rfl (Nat.le_of_ble_eq_true rfl) rfl rfl (st2 := fun o => .int (xm_J o.2) :: []) (fun _ => rfl) (fun o13 k14 => ?_)
      refine xg_istore hC dX4_stateByWrit_42 (by decide) rfl ?_
      refine xg_iload hC dX4_stateByWrit_44 rfl ?_
      refine xg_iconst hC dX4_stateByWrit_46 ?_
      refine xg_icmp_eq hC k14 (xm_inc _ rfl) 55 dX4_stateByWrit_47 rfl (fun c15 => ?_) (fun c16 => ?_)
      · refine xg_aload_n hC dX4_stateByWrit_55 rfl ?_
        refine xg_iload_n hC dX4_stateByWrit_56 rfl ?_
        refine xg_callV hC (ci := 3) (w_X4_soleDaughterWithLine hI o13.1 x2 h2) xl_M_X4_108 xl_V_X4_soleDaughterWithLine (xm_hK (a := 29) (kd := 0) (n := 3) hI rfl).2 ((xm_hK (a := 29) (kd := 0) (n := 3) hI rfl).1 _) (by decide) rfl (by decide) ⟨by decide, by decide⟩ dX4_stateByWrit_57 (rest := []) rfl rfl (Nat.le_of_ble_eq_true rfl) rfl rfl (st2 := fun o => .int (xm_J o.2) :: []) (fun _ => rfl) (fun o17 k18 => ?_)
        refine xg_istore_n hC dX4_stateByWrit_60 (by decide) rfl ?_
        refine xg_iinc hC dX4_stateByWrit_61 (by decide) 3 rfl rfl ?_
        refine xg_goto hC 18 dX4_stateByWrit_64 rfl ?_
        exact xg_pick [3, 1, 0] rfl (hself o17.1 o17.2 (xm_w (x3 + 1)) k18 (xm_w_in _))
      refine xg_iload hC dX4_stateByWrit_50 rfl ?_
      refine xg_goto hC 60 dX4_stateByWrit_52 rfl ?_
      refine xg_istore_n hC dX4_stateByWrit_60 (by decide) rfl ?_
      refine xg_iinc hC dX4_stateByWrit_61 (by decide) 3 rfl rfl ?_
      refine xg_goto hC 18 dX4_stateByWrit_64 rfl ?_
      exact xg_pick [3, 1, 0] rfl (hself o13.1 o13.2 (xm_w (x3 + 1)) k14 (xm_w_in _))
    exact xg_pick [0, 1] rfl (hK67 o9.1 x2 h2)
  exact xg_pick [0, 1] rfl (hK67 σ x2 h2)
theorem w_X4_stateByWrit_l18 {X : xm_X} (hC : xm_C X yX4_stateByWrit.cls cX4_stateByWrit 5 4 0 0) (hQ : xm_Rt X 1 (some .int) 0 0) (hI : xx_I X = xm_I) {K67 : xm_Mem → Int → Option xm_Out} (hK67 : ∀ (σ : xm_Mem) (x2 : Int), xm_in x2 → xm_V X 0 0 (K67 σ x2) σ 67 [(0, .ref (xm_B (xx_G X) + 29)), (2, .int (xm_J x2))] []) (n : Nat) : ∀ (σ : xm_Mem) (x2 : Int) (x3 : Int), xm_in x2 → xm_in x3 → xm_V X 0 0 (f_X4_stateByWrit_l18 K67 n σ x2 x3) σ 18 [(0, .ref (xm_B (xx_G X) + 29)), (2, .int (xm_J x2)), (3, .int (xm_J x3))] [] := by
  induction n with
  | zero => intro σ x2 x3 h2 h3; exact xg_none
  | succ n ih => intro σ x2 x3 h2 h3; exact w_X4_stateByWrit_b18 hC hQ hI hK67 ih σ x2 x3 h2 h3
theorem w_X4_stateByWrit {Γ : xm_Gm} {I : xm_Mem → Prop} {la : Launch} (hE : I = xm_I) (σ : xm_Mem) (x1 : Int) (h1 : xm_in x1) : ∀ o, f_X4_stateByWrit σ x1 = some o → xm_M Γ I la yX4_stateByWrit cX4_stateByWrit 5 (some .int) 4 0 0 [.ref (xm_B Γ + 29), .int (xm_J x1)] σ 1 o := by
  refine xg_enter (by decide) (by simp [lg_sl, xm_rf_cat, xm_cati, xm_catr, xm_catl]) (fun X hG hI0 hla hC hQ hname => ?_)
  subst hG
  have hI := hI0.trans hE
  clear hI0 hla
  unfold f_X4_stateByWrit
  refine xg_pick [0, 1] (l' := [(0, .ref (xm_B (xx_G X) + 29)), (1, .int (xm_J x1))]) rfl ?_
  refine xg_aload_n hC dX4_stateByWrit_0 rfl ?_
  refine xg_iconst hC dX4_stateByWrit_1 ?_
  refine xg_putI hC (xm_hK hI rfl) rfl rfl (xm_inc _ rfl) (xm_kpK hI rfl) xl_F_X4_47 dX4_stateByWrit_2 ?_
  refine xg_st (fun σ1 => ?_)
  refine xg_aload_n hC dX4_stateByWrit_5 rfl ?_
  refine xg_getI hC (xm_hK hI rfl) rfl xl_F_X4_37 dX4_stateByWrit_6 (fun k2 => ?_)
  refine xg_if_ne hC k2 14 dX4_stateByWrit_9 rfl (fun c3 => ?_) (fun c4 => ?_)
  · refine xg_iconst hC dX4_stateByWrit_12 ?_
    exact xg_iret hC hQ (xm_inc _ rfl) dX4_stateByWrit_13
  refine xg_iload_n hC dX4_stateByWrit_14 rfl ?_
  refine xg_istore_n hC dX4_stateByWrit_15 (by decide) rfl ?_
  refine xg_iconst hC dX4_stateByWrit_16 ?_
  refine xg_istore_n hC dX4_stateByWrit_17 (by decide) rfl ?_
  refine xg_pick [2, 1, 0] rfl (w_X4_stateByWrit_l18 hC hQ hI ?_ _ σ1 x1 (0 : Int) h1 (xm_inc _ rfl))
  intro σ_19 x2_19 h2_19
  refine xg_aload_n hC dX4_stateByWrit_67 rfl ?_
  refine xg_getI hC (xm_hK hI rfl) rfl xl_F_X4_47 dX4_stateByWrit_68 (fun k20 => ?_)
  refine xg_iconst hC dX4_stateByWrit_71 ?_
  refine xg_icmp_le hC k20 (xm_inc _ rfl) 80 dX4_stateByWrit_72 rfl (fun c21 => ?_) (fun c22 => ?_)
  · refine xg_bipush hC dX4_stateByWrit_75 (by decide) ?_
    refine xg_goto hC 81 dX4_stateByWrit_77 rfl ?_
    exact xg_iret hC hQ (xm_inc _ rfl) dX4_stateByWrit_81
  refine xg_iload_n hC dX4_stateByWrit_80 rfl ?_
  exact xg_iret hC hQ h2_19 dX4_stateByWrit_81
theorem w_X4_at {Γ : xm_Gm} {I : xm_Mem → Prop} {la : Launch} (hE : I = xm_I) (σ : xm_Mem) (x1 : Int) (h1 : xm_in x1) : ∀ o, f_X4_at σ x1 = some o → xm_M Γ I la yX4_at cX4_at 2 (some .int) 1 0 0 [.ref (xm_B Γ + 29), .int (xm_J x1)] σ 1 o := by
  refine xg_enter (by decide) (by simp [lg_sl, xm_rf_cat, xm_cati, xm_catr, xm_catl]) (fun X hG hI0 hla hC hQ hname => ?_)
  subst hG
  have hI := hI0.trans hE
  clear hI0 hla
  unfold f_X4_at
  refine xg_pick [0, 1] (l' := [(0, .ref (xm_B (xx_G X) + 29)), (1, .int (xm_J x1))]) rfl ?_
  refine xg_iload_n hC dX4_at_0 rfl ?_
  refine xg_if_lt hC h1 21 dX4_at_1 rfl (fun c1 => ?_) (fun c2 => ?_)
  · refine xg_iconst hC dX4_at_21 ?_
    exact xg_iret hC hQ (xm_inc _ rfl) dX4_at_22
  refine xg_iload_n hC dX4_at_4 rfl ?_
  refine xg_aload_n hC dX4_at_5 rfl ?_
  refine xg_getI hC (xm_hK hI rfl) rfl xl_F_X4_37 dX4_at_6 (fun k3 => ?_)
  refine xg_icmp_ge hC h1 k3 21 dX4_at_9 rfl (fun c4 => ?_) (fun c5 => ?_)
  · refine xg_aload_n hC dX4_at_12 rfl ?_
    refine xg_getW hC (xm_hK hI rfl) rfl (xm_wK hI rfl) (by decide) xl_F_X4_34 dX4_at_13 ?_
    refine xg_iload_n hC dX4_at_16 rfl ?_
    refine xg_iald hC (xm_hK hI rfl) rfl h1 dX4_at_17 (fun b6 k7 => ?_)
    refine xg_goto hC 22 dX4_at_18 rfl ?_
    exact xg_iret hC hQ k7 dX4_at_22
  refine xg_iconst hC dX4_at_21 ?_
  exact xg_iret hC hQ (xm_inc _ rfl) dX4_at_22
theorem w_X4_placeOf_b2 {X : xm_X} (hC : xm_C X yX4_placeOf.cls cX4_placeOf 3 1 0 0) (hQ : xm_Rt X 1 (some .int) 0 0) (hI : xx_I X = xm_I)   {self : xm_Mem → Int → Int → Option xm_Out} (hself : ∀ (σ : xm_Mem) (x1 : Int) (x2 : Int), xm_in x1 → xm_in x2 → xm_V X 0 0 (self σ x1 x2) σ 2 [(0, .ref (xm_B (xx_G X) + 29)), (1, .int (xm_J x1)), (2, .int (xm_J x2))] []) (σ : xm_Mem) (x1 : Int) (x2 : Int) (h1 : xm_in x1) (h2 : xm_in x2) : xm_V X 0 0 (f_X4_placeOf_b2  self σ x1 x2) σ 2 [(0, .ref (xm_B (xx_G X) + 29)), (1, .int (xm_J x1)), (2, .int (xm_J x2))] [] := by
  unfold f_X4_placeOf_b2
  refine xg_iload_n hC dX4_placeOf_2 rfl ?_
  refine xg_aload_n hC dX4_placeOf_3 rfl ?_
  refine xg_getI hC (xm_hK hI rfl) rfl xl_F_X4_37 dX4_placeOf_4 (fun k1 => ?_)
  refine xg_icmp_ge hC h2 k1 28 dX4_placeOf_7 rfl (fun c2 => ?_) (fun c3 => ?_)
  · refine xg_aload_n hC dX4_placeOf_10 rfl ?_
    refine xg_getW hC (xm_hK hI rfl) rfl (xm_wK hI rfl) (by decide) xl_F_X4_34 dX4_placeOf_11 ?_
    refine xg_iload_n hC dX4_placeOf_14 rfl ?_
    refine xg_iald hC (xm_hK hI rfl) rfl h2 dX4_placeOf_15 (fun b4 k5 => ?_)
    refine xg_iload_n hC dX4_placeOf_16 rfl ?_
    refine xg_icmp_ne hC k5 h1 22 dX4_placeOf_17 rfl (fun c6 => ?_) (fun c7 => ?_)
    · refine xg_iload_n hC dX4_placeOf_20 rfl ?_
      exact xg_iret hC hQ h2 dX4_placeOf_21
    refine xg_iinc hC dX4_placeOf_22 (by decide) 2 rfl rfl ?_
    refine xg_goto hC 2 dX4_placeOf_25 rfl ?_
    exact xg_pick [1, 2, 0] rfl (hself σ x1 (xm_w (x2 + 1)) h1 (xm_w_in _))
  refine xg_iconst hC dX4_placeOf_28 ?_
  exact xg_iret hC hQ (xm_inc _ rfl) dX4_placeOf_29
theorem w_X4_placeOf_l2 {X : xm_X} (hC : xm_C X yX4_placeOf.cls cX4_placeOf 3 1 0 0) (hQ : xm_Rt X 1 (some .int) 0 0) (hI : xx_I X = xm_I)   (n : Nat) : ∀ (σ : xm_Mem) (x1 : Int) (x2 : Int), xm_in x1 → xm_in x2 → xm_V X 0 0 (f_X4_placeOf_l2  n σ x1 x2) σ 2 [(0, .ref (xm_B (xx_G X) + 29)), (1, .int (xm_J x1)), (2, .int (xm_J x2))] [] := by
  induction n with
  | zero => intro σ x1 x2 h1 h2; exact xg_none
  | succ n ih => intro σ x1 x2 h1 h2; exact w_X4_placeOf_b2 hC hQ hI ih σ x1 x2 h1 h2
theorem w_X4_placeOf {Γ : xm_Gm} {I : xm_Mem → Prop} {la : Launch} (hE : I = xm_I) (σ : xm_Mem) (x1 : Int) (h1 : xm_in x1) : ∀ o, f_X4_placeOf σ x1 = some o → xm_M Γ I la yX4_placeOf cX4_placeOf 3 (some .int) 1 0 0 [.ref (xm_B Γ + 29), .int (xm_J x1)] σ 1 o := by
  refine xg_enter (by decide) (by simp [lg_sl, xm_rf_cat, xm_cati, xm_catr, xm_catl]) (fun X hG hI0 hla hC hQ hname => ?_)
  subst hG
  have hI := hI0.trans hE
  clear hI0 hla
  unfold f_X4_placeOf
  refine xg_pick [0, 1] (l' := [(0, .ref (xm_B (xx_G X) + 29)), (1, .int (xm_J x1))]) rfl ?_
  refine xg_iconst hC dX4_placeOf_0 ?_
  refine xg_istore_n hC dX4_placeOf_1 (by decide) rfl ?_
  exact xg_pick [1, 2, 0] rfl (w_X4_placeOf_l2 hC hQ hI _ σ x1 (0 : Int) h1 (xm_inc _ rfl))
theorem w_X4_heirCount {Γ : xm_Gm} {I : xm_Mem → Prop} {la : Launch} (hE : I = xm_I) (σ : xm_Mem)   : ∀ o, f_X4_heirCount σ  = some o → xm_M Γ I la yX4_heirCount cX4_heirCount 1 (some .int) 1 0 0 [.ref (xm_B Γ + 29)] σ 1 o := by
  refine xg_enter (by decide) (by simp [lg_sl, xm_rf_cat, xm_cati, xm_catr, xm_catl]) (fun X hG hI0 hla hC hQ hname => ?_)
  subst hG
  have hI := hI0.trans hE
  clear hI0 hla
  unfold f_X4_heirCount
  refine xg_pick [0] (l' := [(0, .ref (xm_B (xx_G X) + 29))]) rfl ?_
  refine xg_aload_n hC dX4_heirCount_0 rfl ?_
  refine xg_getI hC (xm_hK hI rfl) rfl xl_F_X4_47 dX4_heirCount_1 (fun k1 => ?_)
  exact xg_iret hC hQ k1 dX4_heirCount_4
theorem w_X4_heir {Γ : xm_Gm} {I : xm_Mem → Prop} {la : Launch} (hE : I = xm_I) (σ : xm_Mem) (x1 : Int) (h1 : xm_in x1) : ∀ o, f_X4_heir σ x1 = some o → xm_M Γ I la yX4_heir cX4_heir 2 (some .int) 1 0 0 [.ref (xm_B Γ + 29), .int (xm_J x1)] σ 1 o := by
  refine xg_enter (by decide) (by simp [lg_sl, xm_rf_cat, xm_cati, xm_catr, xm_catl]) (fun X hG hI0 hla hC hQ hname => ?_)
  subst hG
  have hI := hI0.trans hE
  clear hI0 hla
  unfold f_X4_heir
  refine xg_pick [0, 1] (l' := [(0, .ref (xm_B (xx_G X) + 29)), (1, .int (xm_J x1))]) rfl ?_
  refine xg_iload_n hC dX4_heir_0 rfl ?_
  refine xg_if_lt hC h1 21 dX4_heir_1 rfl (fun c1 => ?_) (fun c2 => ?_)
  · refine xg_iconst hC dX4_heir_21 ?_
    exact xg_iret hC hQ (xm_inc _ rfl) dX4_heir_22
  refine xg_iload_n hC dX4_heir_4 rfl ?_
  refine xg_aload_n hC dX4_heir_5 rfl ?_
  refine xg_getI hC (xm_hK hI rfl) rfl xl_F_X4_47 dX4_heir_6 (fun k3 => ?_)
  refine xg_icmp_ge hC h1 k3 21 dX4_heir_9 rfl (fun c4 => ?_) (fun c5 => ?_)
  · refine xg_aload_n hC dX4_heir_12 rfl ?_
    refine xg_getW hC (xm_hK hI rfl) rfl (xm_wK hI rfl) (by decide) xl_F_X4_44 dX4_heir_13 ?_
    refine xg_iload_n hC dX4_heir_16 rfl ?_
    refine xg_iald hC (xm_hK hI rfl) rfl h1 dX4_heir_17 (fun b6 k7 => ?_)
    refine xg_goto hC 22 dX4_heir_18 rfl ?_
    exact xg_iret hC hQ k7 dX4_heir_22
  refine xg_iconst hC dX4_heir_21 ?_
  exact xg_iret hC hQ (xm_inc _ rfl) dX4_heir_22
