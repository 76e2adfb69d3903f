/-! ===== walks of the reference (written by program) ===== -/
theorem w_X11_oneOf_l4 {X : xm_X} (hC : xm_C X yX11_oneOf.cls cX11_oneOf 5 6 0 0) (hQ : xm_Rt X 1 (some .int) 0 0) (hI : xx_I X = xm_I) {K59 : xm_Mem → Int → Option xm_Out} {K76 : xm_Mem → Option xm_Out} (hK59 : ∀ (σ : xm_Mem) (x2 : Int), xm_in x2 → xm_V X 0 0 (K59 σ x2) σ 59 [(0, .ref (xm_B (xx_G X) + 84)), (2, .int (xm_J x2))] []) (hK76 : ∀ (σ : xm_Mem), xm_V X 0 0 (K76 σ ) σ 76 [(0, .ref (xm_B (xx_G X) + 84))] []) (n : Nat) : ∀ (σ : xm_Mem) (x1 : Int) (x2 : Int) (x3 : Int), 0 ≤ x1 ∧ x1 < 22 → xm_in x2 → xm_in x3 → xm_V X 0 0 (f_X11_oneOf_l4 K59 K76 n σ x1 x2 x3) σ 4 [(0, .ref (xm_B (xx_G X) + 84)), (1, .ref (xm_adK (xx_G X) x1.toNat)), (2, .int (xm_J x2)), (3, .int (xm_J x3))] [] := by
  induction n with
  | zero => intro σ x1 x2 x3 h1 h2 h3; exact xg_none
  | succ n ih => intro σ x1 x2 x3 h1 h2 h3; exact w_X11_oneOf_b4 hC hQ hI hK59 hK76 ih σ x1 x2 x3 h1 h2 h3
theorem w_X11_oneOf {Γ : xm_Gm} {I : xm_Mem → Prop} {la : Launch} (hE : I = xm_I) (σ : xm_Mem) (x1 : Int) (h1 : 0 ≤ x1 ∧ x1 < 22) : ∀ o, f_X11_oneOf σ x1 = some o → xm_M Γ I la yX11_oneOf cX11_oneOf 5 (some .int) 6 0 0 [.ref (xm_B Γ + 84), .ref (xm_adK Γ x1.toNat)] σ 1 o := by
  refine xg_enter (by decide) (by simp [lg_sl, xm_rf_cat, xm_cati, xm_catr, xm_catl]) (fun X hG hI0 hla hC hQ hname => ?_)
  subst hG
  have hI := hI0.trans hE
  clear hI0 hla
  unfold f_X11_oneOf
  refine xg_pick [0, 1] (l' := [(0, .ref (xm_B (xx_G X) + 84)), (1, .ref (xm_adK (xx_G X) x1.toNat))]) rfl ?_
  refine xg_iconst hC dX11_oneOf_0 ?_
  refine xg_istore_n hC (l' := [(2, .int (xm_J (0 : Int))), (0, .ref (xm_B (xx_G X) + 84)), (1, .ref (xm_adK (xx_G X) x1.toNat))]) dX11_oneOf_1 (by decide) rfl ?_
  refine xg_iconst hC dX11_oneOf_2 ?_
  refine xg_istore_n hC (l' := [(3, .int (xm_J (0 : Int))), (2, .int (xm_J (0 : Int))), (0, .ref (xm_B (xx_G X) + 84)), (1, .ref (xm_adK (xx_G X) x1.toNat))]) dX11_oneOf_3 (by decide) rfl ?_
  refine xg_pick [2, 3, 1, 0] rfl (w_X11_oneOf_l4 hC hQ hI ?_ ?_ _ σ x1 (0 : Int) (0 : Int) h1 (xm_inc _ rfl) (xm_inc _ rfl))
  · intro σ_23 x2_23 h2_23
    refine xg_aload_n hC dX11_oneOf_59 rfl ?_
    refine xg_callV hC (ci := 10) (w_X11_next hI σ_23 ) xl_M_X11_303 xl_V_X11_next (xm_hK (a := 84) (kd := 0) (n := 10) hI rfl).2 ((xm_hK (a := 84) (kd := 0) (n := 10) hI rfl).1 _) (by decide) rfl (by decide) ⟨by decide, by decide⟩ dX11_oneOf_60 (rest := []) rfl rfl (Nat.le_of_ble_eq_true rfl) rfl rfl (st2 := fun o => []) (fun _ => rfl) (fun o24 k25 => ?_)
    refine xg_iload_n hC dX11_oneOf_63 rfl ?_
    exact xg_iret hC hQ h2_23 dX11_oneOf_64
  intro σ_26
  refine xg_aload_n hC dX11_oneOf_76 rfl ?_
  refine xg_iconst hC dX11_oneOf_77 ?_
  refine xg_putZ hC (xm_hK hI rfl) rfl rfl (by decide) (xm_kpK hI rfl) xl_F_X11_300 dX11_oneOf_78 ?_
  refine xg_st (fun σ27 => ?_)
  refine xg_iconst hC dX11_oneOf_81 ?_
  exact xg_iret hC hQ (xm_inc _ rfl) dX11_oneOf_82
theorem w_X11_parent {Γ : xm_Gm} {I : xm_Mem → Prop} {la : Launch} (hE : I = xm_I) (σ : xm_Mem)   : ∀ o, f_X11_parent σ  = some o → xm_M Γ I la yX11_parent cX11_parent 1 (some .int) 7 0 0 [.ref (xm_B Γ + 84)] σ 1 o := by
  refine xg_enter (by decide) (by simp [lg_sl, xm_rf_cat, xm_cati, xm_catr, xm_catl]) (fun X hG hI0 hla hC hQ hname => ?_)
  subst hG
  have hI := hI0.trans hE
  clear hI0 hla
  unfold f_X11_parent
  refine xg_pick [0] (l' := [(0, .ref (xm_B (xx_G X) + 84))]) rfl ?_
  refine xg_aload_n hC dX11_parent_0 rfl ?_
  refine xg_getZ hC (xm_hK hI rfl) rfl xl_F_X11_300 dX11_parent_1 (fun k1 => ?_)
  refine xg_if_eq hC (xm_in01 k1) 17 dX11_parent_4 rfl (fun c2 => ?_) (fun c3 => ?_)
  · refine xg_aload_n hC dX11_parent_17 rfl ?_
    refine xg_callV hC (ci := 10) (w_X11_number hI σ ) xl_M_X11_312 xl_V_X11_number (xm_hK (a := 84) (kd := 0) (n := 10) hI rfl).2 ((xm_hK (a := 84) (kd := 0) (n := 10) hI rfl).1 _) (by decide) rfl (by decide) ⟨by decide, by decide⟩ dX11_parent_18 (rest := []) rfl rfl (Nat.le_of_ble_eq_true rfl) rfl rfl (st2 := fun o => .int (xm_J o.2) :: []) (fun _ => rfl) (fun o4 k5 => ?_)
    exact xg_iret hC hQ k5 dX11_parent_21
  refine xg_aload_n hC dX11_parent_7 rfl ?_
  refine xg_ldcSW hC (i := 310) (id := 12) (by decide) dX11_parent_8 ?_
  refine xg_callV hC (ci := 10) (w_X11_is hI σ (12 : Int) (by decide)) xl_M_X11_306 xl_V_X11_is (xm_hK (a := 84) (kd := 0) (n := 10) hI rfl).2 ((xm_hK (a := 84) (kd := 0) (n := 10) hI rfl).1 _) (by decide) rfl (by decide) ⟨by decide, by decide⟩ dX11_parent_11 (rest := []) rfl rfl (Nat.le_of_ble_eq_true rfl) rfl rfl (st2 := fun o => .int (xm_J o.2) :: []) (fun _ => rfl) (fun o6 k7 => ?_)
  refine xg_if_ne hC (xm_in01 k7) 22 dX11_parent_14 rfl (fun c8 => ?_) (fun c9 => ?_)
  · refine xg_aload_n hC dX11_parent_17 rfl ?_
    refine xg_callV hC (ci := 10) (w_X11_number hI o6.1 ) xl_M_X11_312 xl_V_X11_number (xm_hK (a := 84) (kd := 0) (n := 10) hI rfl).2 ((xm_hK (a := 84) (kd := 0) (n := 10) hI rfl).1 _) (by decide) rfl (by decide) ⟨by decide, by decide⟩ dX11_parent_18 (rest := []) rfl rfl (Nat.le_of_ble_eq_true rfl) rfl rfl (st2 := fun o => .int (xm_J o.2) :: []) (fun _ => rfl) (fun o10 k11 => ?_)
    exact xg_iret hC hQ k11 dX11_parent_21
  refine xg_aload_n hC dX11_parent_22 rfl ?_
  refine xg_callV hC (ci := 10) (w_X11_next hI o6.1 ) xl_M_X11_303 xl_V_X11_next (xm_hK (a := 84) (kd := 0) (n := 10) hI rfl).2 ((xm_hK (a := 84) (kd := 0) (n := 10) hI rfl).1 _) (by decide) rfl (by decide) ⟨by decide, by decide⟩ dX11_parent_23 (rest := []) rfl rfl (Nat.le_of_ble_eq_true rfl) rfl rfl (st2 := fun o => []) (fun _ => rfl) (fun o12 k13 => ?_)
  refine xg_iconst hC dX11_parent_26 ?_
  exact xg_iret hC hQ (xm_inc _ rfl) dX11_parent_27
theorem w_X11_read_j214 {X : xm_X} (hC : xm_C X yX11_read.cls cX11_read 1 8 0 0) (hQ : xm_Rt X 0 none 0 0) (hI : xx_I X = xm_I)   (σ : xm_Mem)   : xm_V X 0 0 (f_X11_read_j214  σ) σ 214 [(0, .ref (xm_B (xx_G X) + 84))] [] := by
  unfold f_X11_read_j214
  refine xg_aload_n hC dX11_read_214 rfl ?_
  refine xg_getZ hC (xm_hK hI rfl) rfl xl_F_X11_300 dX11_read_215 (fun k33 => ?_)
  refine xg_if_eq hC (xm_in01 k33) 233 dX11_read_218 rfl (fun c34 => ?_) (fun c35 => ?_)
  · exact xg_vret hC hQ dX11_read_233
  refine xg_aload_n hC dX11_read_221 rfl ?_
  refine xg_getI hC (xm_hK hI rfl) rfl xl_F_X11_277 dX11_read_222 (fun k36 => ?_)
  refine xg_if_eq hC k36 233 dX11_read_225 rfl (fun c37 => ?_) (fun c38 => ?_)
  · exact xg_vret hC hQ dX11_read_233
  refine xg_aload_n hC dX11_read_228 rfl ?_
  refine xg_iconst hC dX11_read_229 ?_
  refine xg_putZ hC (xm_hK hI rfl) rfl rfl (by decide) (xm_kpK hI rfl) xl_F_X11_300 dX11_read_230 ?_
  refine xg_st (fun σ39 => ?_)
  exact xg_vret hC hQ dX11_read_233
theorem w_X11_read_j198 {X : xm_X} (hC : xm_C X yX11_read.cls cX11_read 1 8 0 0) (hQ : xm_Rt X 0 none 0 0) (hI : xx_I X = xm_I)   (σ : xm_Mem)   : xm_V X 0 0 (f_X11_read_j198  σ) σ 198 [(0, .ref (xm_B (xx_G X) + 84))] [] := by
  unfold f_X11_read_j198
  refine xg_aload_n hC dX11_read_198 rfl ?_
  refine xg_aload_n hC dX11_read_199 rfl ?_
  refine xg_callV hC (ci := 10) (w_X11_number hI σ ) xl_M_X11_312 xl_V_X11_number (xm_hK (a := 84) (kd := 0) (n := 10) hI rfl).2 ((xm_hK (a := 84) (kd := 0) (n := 10) hI rfl).1 _) (by decide) rfl (by decide) ⟨by decide, by decide⟩ dX11_read_200 (rest := [.ref (xm_B (xx_G X) + 84)]) rfl rfl (Nat.le_of_ble_eq_true rfl) rfl rfl (st2 := fun o => .int (xm_J o.2) :: [.ref (xm_B (xx_G X) + 84)]) (fun _ => rfl) (fun o42 k43 => ?_)
  refine xg_putI hC (xm_hK hI rfl) rfl rfl k43 (xm_kpK hI rfl) xl_F_X11_315 dX11_read_203 ?_
  refine xg_st (fun σ44 => ?_)
  refine xg_aload_n hC dX11_read_206 rfl ?_
  refine xg_aload_n hC dX11_read_207 rfl ?_
  refine xg_callV hC (ci := 10) (w_X11_number hI σ44 ) xl_M_X11_312 xl_V_X11_number (xm_hK (a := 84) (kd := 0) (n := 10) hI rfl).2 ((xm_hK (a := 84) (kd := 0) (n := 10) hI rfl).1 _) (by decide) rfl (by decide) ⟨by decide, by decide⟩ dX11_read_208 (rest := [.ref (xm_B (xx_G X) + 84)]) rfl rfl (Nat.le_of_ble_eq_true rfl) rfl rfl (st2 := fun o => .int (xm_J o.2) :: [.ref (xm_B (xx_G X) + 84)]) (fun _ => rfl) (fun o45 k46 => ?_)
  refine xg_putI hC (xm_hK hI rfl) rfl rfl k46 (xm_kpK hI rfl) xl_F_X11_318 dX11_read_211 ?_
  refine xg_st (fun σ47 => ?_)
  exact (w_X11_read_j214 hC hQ hI σ47)
theorem w_X11_read_j165 {X : xm_X} (hC : xm_C X yX11_read.cls cX11_read 1 8 0 0) (hQ : xm_Rt X 0 none 0 0) (hI : xx_I X = xm_I)   (σ : xm_Mem)   : xm_V X 0 0 (f_X11_read_j165  σ) σ 165 [(0, .ref (xm_B (xx_G X) + 84))] [] := by
  unfold f_X11_read_j165
  refine xg_aload_n hC dX11_read_165 rfl ?_
  refine xg_aload_n hC dX11_read_166 rfl ?_
  refine xg_callV hC (ci := 10) (w_X11_number hI σ ) xl_M_X11_312 xl_V_X11_number (xm_hK (a := 84) (kd := 0) (n := 10) hI rfl).2 ((xm_hK (a := 84) (kd := 0) (n := 10) hI rfl).1 _) (by decide) rfl (by decide) ⟨by decide, by decide⟩ dX11_read_167 (rest := [.ref (xm_B (xx_G X) + 84)]) rfl rfl (Nat.le_of_ble_eq_true rfl) rfl rfl (st2 := fun o => .int (xm_J o.2) :: [.ref (xm_B (xx_G X) + 84)]) (fun _ => rfl) (fun o69 k70 => ?_)
  refine xg_putI hC (xm_hK hI rfl) rfl rfl k70 (xm_kpK hI rfl) xl_F_X11_318 dX11_read_170 ?_
  refine xg_st (fun σ71 => ?_)
  refine xg_goto hC 214 dX11_read_173 rfl ?_
  exact (w_X11_read_j214 hC hQ hI σ71)
theorem w_X11_read {Γ : xm_Gm} {I : xm_Mem → Prop} {la : Launch} (hE : I = xm_I) (σ : xm_Mem)   : ∀ o, f_X11_read σ  = some o → xm_M Γ I la yX11_read cX11_read 1 none 8 0 0 [.ref (xm_B Γ + 84)] σ 0 o := by
  refine xg_enter (by decide) (by simp [lg_sl, xm_rf_cat, xm_cati, xm_catr, xm_catl]) (fun X hG hI0 hla hC hQ hname => ?_)
  subst hG
  have hI := hI0.trans hE
  clear hI0 hla
  unfold f_X11_read
  refine xg_pick [0] (l' := [(0, .ref (xm_B (xx_G X) + 84))]) rfl ?_
  refine xg_aload_n hC dX11_read_0 rfl ?_
  refine xg_iconst hC dX11_read_1 ?_
  refine xg_putI hC (xm_hK hI rfl) rfl rfl (xm_inc _ rfl) (xm_kpK hI rfl) xl_F_X11_265 dX11_read_2 ?_
  refine xg_st (fun σ1 => ?_)
  refine xg_aload_n hC dX11_read_5 rfl ?_
  refine xg_iconst hC dX11_read_6 ?_
  refine xg_putZ hC (xm_hK hI rfl) rfl rfl (by decide) (xm_kpK hI rfl) xl_F_X11_300 dX11_read_7 ?_
  refine xg_st (fun σ2 => ?_)
  refine xg_aload_n hC dX11_read_10 rfl ?_
  refine xg_iconst hC dX11_read_11 ?_
  refine xg_putI hC (xm_hK hI rfl) rfl rfl (xm_inc _ rfl) (xm_kpK hI rfl) xl_F_X11_315 dX11_read_12 ?_
  refine xg_st (fun σ3 => ?_)
  refine xg_aload_n hC dX11_read_15 rfl ?_
  refine xg_iconst hC dX11_read_16 ?_
  refine xg_putI hC (xm_hK hI rfl) rfl rfl (xm_inc _ rfl) (xm_kpK hI rfl) xl_F_X11_318 dX11_read_17 ?_
  refine xg_st (fun σ4 => ?_)
  refine xg_aload_n hC dX11_read_20 rfl ?_
  refine xg_iconst hC dX11_read_21 ?_
  refine xg_putI hC (xm_hK hI rfl) rfl rfl (xm_inc _ rfl) (xm_kpK hI rfl) xl_F_X11_321 dX11_read_22 ?_
  refine xg_st (fun σ5 => ?_)
  refine xg_aload_n hC dX11_read_25 rfl ?_
  refine xg_iconst hC dX11_read_26 ?_
  refine xg_putI hC (xm_hK hI rfl) rfl rfl (xm_inc _ rfl) (xm_kpK hI rfl) xl_F_X11_324 dX11_read_27 ?_
  refine xg_st (fun σ6 => ?_)
  refine xg_aload_n hC dX11_read_30 rfl ?_
  refine xg_callV hC (ci := 10) (w_X11_next hI σ6 ) xl_M_X11_303 xl_V_X11_next (xm_hK (a := 84) (kd := 0) (n := 10) hI rfl).2 ((xm_hK (a := 84) (kd := 0) (n := 10) hI rfl).1 _) (by decide) rfl (by decide) ⟨by decide, by decide⟩ dX11_read_31 (rest := []) rfl rfl (Nat.le_of_ble_eq_true rfl) rfl rfl (st2 := fun o => []) (fun _ => rfl) (fun o7 k8 => ?_)
  refine xg_aload_n hC dX11_read_34 rfl ?_
  refine xg_aload_n hC dX11_read_35 rfl ?_
  refine xg_ldcSW hC (i := 327) (id := 19) (by decide) dX11_read_36 ?_
  refine xg_callV hC (ci := 10) (w_X11_oneOf hI o7.1 (19 : Int) (by decide)) xl_M_X11_329 xl_V_X11_oneOf (xm_hK (a := 84) (kd := 0) (n := 10) hI rfl).2 ((xm_hK (a := 84) (kd := 0) (n := 10) hI rfl).1 _) (by decide) rfl (by decide) ⟨by decide, by decide⟩ dX11_read_39 (rest := [.ref (xm_B (xx_G X) + 84)]) rfl rfl (Nat.le_of_ble_eq_true rfl) rfl rfl (st2 := fun o => .int (xm_J o.2) :: [.ref (xm_B (xx_G X) + 84)]) (fun _ => rfl) (fun o9 k10 => ?_)
  refine xg_putI hC (xm_hK hI rfl) rfl rfl k10 (xm_kpK hI rfl) xl_F_X11_333 dX11_read_42 ?_
  refine xg_st (fun σ11 => ?_)
  refine xg_aload_n hC dX11_read_45 rfl ?_
  refine xg_aload_n hC dX11_read_46 rfl ?_
  refine xg_callV hC (ci := 10) (w_X11_number hI σ11 ) xl_M_X11_312 xl_V_X11_number (xm_hK (a := 84) (kd := 0) (n := 10) hI rfl).2 ((xm_hK (a := 84) (kd := 0) (n := 10) hI rfl).1 _) (by decide) rfl (by decide) ⟨by decide, by decide⟩ dX11_read_47 (rest := [.ref (xm_B (xx_G X) + 84)]) rfl rfl (Nat.le_of_ble_eq_true rfl) rfl rfl (st2 := fun o => .int (xm_J o.2) :: [.ref (xm_B (xx_G X) + 84)]) (fun _ => rfl) (fun o12 k13 => ?_)
  refine xg_putI hC (xm_hK hI rfl) rfl rfl k13 (xm_kpK hI rfl) xl_F_X11_336 dX11_read_50 ?_
  refine xg_st (fun σ14 => ?_)
  refine xg_aload_n hC dX11_read_53 rfl ?_
  refine xg_getI hC (xm_hK hI rfl) rfl xl_F_X11_333 dX11_read_54 (fun k15 => ?_)
  refine xg_vI k15 (fun v16 k17 => ?_)
  refine xg_ite (fun e18 => xg_tswIn hC 0 108 e18 dX11_read_57 (xm_inc _ rfl) (by decide) (by decide) rfl rfl ?_) (fun n19 => ?_)
  · refine xg_aload_n hC dX11_read_108 rfl ?_
    refine xg_iconst hC dX11_read_109 ?_
    refine xg_aload_n hC dX11_read_110 rfl ?_
    refine xg_ldcSW hC (i := 339) (id := 20) (by decide) dX11_read_111 ?_
    refine xg_callV hC (ci := 10) (w_X11_oneOf hI σ14 (20 : Int) (by decide)) xl_M_X11_329 xl_V_X11_oneOf (xm_hK (a := 84) (kd := 0) (n := 10) hI rfl).2 ((xm_hK (a := 84) (kd := 0) (n := 10) hI rfl).1 _) (by decide) rfl (by decide) ⟨by decide, by decide⟩ dX11_read_114 (rest := [.int (xm_J (1 : Int)), .ref (xm_B (xx_G X) + 84)]) rfl rfl (Nat.le_of_ble_eq_true rfl) rfl rfl (st2 := fun o => .int (xm_J o.2) :: [.int (xm_J (1 : Int)), .ref (xm_B (xx_G X) + 84)]) (fun _ => rfl) (fun o20 k21 => ?_)
    refine xg_isub hC dX11_read_117 ?_
    refine xg_putI hC (xm_hK hI rfl) rfl rfl (xm_w_in _) (xm_kpK hI rfl) xl_F_X11_324 dX11_read_118 ?_
    refine xg_st (fun σ22 => ?_)
    refine xg_aload_n hC dX11_read_121 rfl ?_
    refine xg_ldcSW hC (i := 341) (id := 11) (by decide) dX11_read_122 ?_
    refine xg_callV hC (ci := 10) (w_X11_must hI σ22 (11 : Int) (by decide)) xl_M_X11_343 xl_V_X11_must (xm_hK (a := 84) (kd := 0) (n := 10) hI rfl).2 ((xm_hK (a := 84) (kd := 0) (n := 10) hI rfl).1 _) (by decide) rfl (by decide) ⟨by decide, by decide⟩ dX11_read_125 (rest := []) rfl rfl (Nat.le_of_ble_eq_true rfl) rfl rfl (st2 := fun o => []) (fun _ => rfl) (fun o23 k24 => ?_)
    refine xg_aload_n hC dX11_read_128 rfl ?_
    refine xg_aload_n hC dX11_read_129 rfl ?_
    refine xg_callV hC (ci := 10) (w_X11_parent hI o23.1 ) xl_M_X11_347 xl_V_X11_parent (xm_hK (a := 84) (kd := 0) (n := 10) hI rfl).2 ((xm_hK (a := 84) (kd := 0) (n := 10) hI rfl).1 _) (by decide) rfl (by decide) ⟨by decide, by decide⟩ dX11_read_130 (rest := [.ref (xm_B (xx_G X) + 84)]) rfl rfl (Nat.le_of_ble_eq_true rfl) rfl rfl (st2 := fun o => .int (xm_J o.2) :: [.ref (xm_B (xx_G X) + 84)]) (fun _ => rfl) (fun o25 k26 => ?_)
    refine xg_putI hC (xm_hK hI rfl) rfl rfl k26 (xm_kpK hI rfl) xl_F_X11_318 dX11_read_133 ?_
    refine xg_st (fun σ27 => ?_)
    refine xg_aload_n hC dX11_read_136 rfl ?_
    refine xg_ldcSW hC (i := 350) (id := 13) (by decide) dX11_read_137 ?_
    refine xg_callV hC (ci := 10) (w_X11_must hI σ27 (13 : Int) (by decide)) xl_M_X11_343 xl_V_X11_must (xm_hK (a := 84) (kd := 0) (n := 10) hI rfl).2 ((xm_hK (a := 84) (kd := 0) (n := 10) hI rfl).1 _) (by decide) rfl (by decide) ⟨by decide, by decide⟩ dX11_read_140 (rest := []) rfl rfl (Nat.le_of_ble_eq_true rfl) rfl rfl (st2 := fun o => []) (fun _ => rfl) (fun o28 k29 => ?_)
    refine xg_aload_n hC dX11_read_143 rfl ?_
    refine xg_aload_n hC dX11_read_144 rfl ?_
    refine xg_callV hC (ci := 10) (w_X11_parent hI o28.1 ) xl_M_X11_347 xl_V_X11_parent (xm_hK (a := 84) (kd := 0) (n := 10) hI rfl).2 ((xm_hK (a := 84) (kd := 0) (n := 10) hI rfl).1 _) (by decide) rfl (by decide) ⟨by decide, by decide⟩ dX11_read_145 (rest := [.ref (xm_B (xx_G X) + 84)]) rfl rfl (Nat.le_of_ble_eq_true rfl) rfl rfl (st2 := fun o => .int (xm_J o.2) :: [.ref (xm_B (xx_G X) + 84)]) (fun _ => rfl) (fun o30 k31 => ?_)
    refine xg_putI hC (xm_hK hI rfl) rfl rfl k31 (xm_kpK hI rfl) xl_F_X11_321 dX11_read_148 ?_
    refine xg_st (fun σ32 => ?_)
    refine xg_goto hC 214 dX11_read_151 rfl ?_
    exact (w_X11_read_j214 hC hQ hI σ32)
  refine xg_ite (fun e40 => xg_tswIn hC 1 198 e40 dX11_read_57 (xm_inc _ rfl) (by decide) (by decide) rfl rfl ?_) (fun n41 => ?_)
  · exact (w_X11_read_j198 hC hQ hI σ14)
  refine xg_ite (fun e48 => xg_tswIn hC 2 198 e48 dX11_read_57 (xm_inc _ rfl) (by decide) (by decide) rfl rfl ?_) (fun n49 => ?_)
  · exact (w_X11_read_j198 hC hQ hI σ14)
  refine xg_ite (fun e50 => xg_tswIn hC 3 154 e50 dX11_read_57 (xm_inc _ rfl) (by decide) (by decide) rfl rfl ?_) (fun n51 => ?_)
  · refine xg_aload_n hC dX11_read_154 rfl ?_
    refine xg_aload_n hC dX11_read_155 rfl ?_
    refine xg_callV hC (ci := 10) (w_X11_number hI σ14 ) xl_M_X11_312 xl_V_X11_number (xm_hK (a := 84) (kd := 0) (n := 10) hI rfl).2 ((xm_hK (a := 84) (kd := 0) (n := 10) hI rfl).1 _) (by decide) rfl (by decide) ⟨by decide, by decide⟩ dX11_read_156 (rest := [.ref (xm_B (xx_G X) + 84)]) rfl rfl (Nat.le_of_ble_eq_true rfl) rfl rfl (st2 := fun o => .int (xm_J o.2) :: [.ref (xm_B (xx_G X) + 84)]) (fun _ => rfl) (fun o52 k53 => ?_)
    refine xg_putI hC (xm_hK hI rfl) rfl rfl k53 (xm_kpK hI rfl) xl_F_X11_315 dX11_read_159 ?_
    refine xg_st (fun σ54 => ?_)
    refine xg_goto hC 214 dX11_read_162 rfl ?_
    exact (w_X11_read_j214 hC hQ hI σ54)
  refine xg_ite (fun e55 => xg_tswIn hC 4 176 e55 dX11_read_57 (xm_inc _ rfl) (by decide) (by decide) rfl rfl ?_) (fun n56 => ?_)
  · refine xg_aload_n hC dX11_read_176 rfl ?_
    refine xg_aload_n hC dX11_read_177 rfl ?_
    refine xg_callV hC (ci := 10) (w_X11_number hI σ14 ) xl_M_X11_312 xl_V_X11_number (xm_hK (a := 84) (kd := 0) (n := 10) hI rfl).2 ((xm_hK (a := 84) (kd := 0) (n := 10) hI rfl).1 _) (by decide) rfl (by decide) ⟨by decide, by decide⟩ dX11_read_178 (rest := [.ref (xm_B (xx_G X) + 84)]) rfl rfl (Nat.le_of_ble_eq_true rfl) rfl rfl (st2 := fun o => .int (xm_J o.2) :: [.ref (xm_B (xx_G X) + 84)]) (fun _ => rfl) (fun o57 k58 => ?_)
    refine xg_putI hC (xm_hK hI rfl) rfl rfl k58 (xm_kpK hI rfl) xl_F_X11_315 dX11_read_181 ?_
    refine xg_st (fun σ59 => ?_)
    refine xg_aload_n hC dX11_read_184 rfl ?_
    refine xg_aload_n hC dX11_read_185 rfl ?_
    refine xg_ldcSW hC (i := 352) (id := 21) (by decide) dX11_read_186 ?_
    refine xg_callV hC (ci := 10) (w_X11_oneOf hI σ59 (21 : Int) (by decide)) xl_M_X11_329 xl_V_X11_oneOf (xm_hK (a := 84) (kd := 0) (n := 10) hI rfl).2 ((xm_hK (a := 84) (kd := 0) (n := 10) hI rfl).1 _) (by decide) rfl (by decide) ⟨by decide, by decide⟩ dX11_read_189 (rest := [.ref (xm_B (xx_G X) + 84)]) rfl rfl (Nat.le_of_ble_eq_true rfl) rfl rfl (st2 := fun o => .int (xm_J o.2) :: [.ref (xm_B (xx_G X) + 84)]) (fun _ => rfl) (fun o60 k61 => ?_)
    refine xg_putI hC (xm_hK hI rfl) rfl rfl k61 (xm_kpK hI rfl) xl_F_X11_324 dX11_read_192 ?_
    refine xg_st (fun σ62 => ?_)
    refine xg_goto hC 214 dX11_read_195 rfl ?_
    exact (w_X11_read_j214 hC hQ hI σ62)
  refine xg_ite (fun e63 => xg_tswIn hC 5 198 e63 dX11_read_57 (xm_inc _ rfl) (by decide) (by decide) rfl rfl ?_) (fun n64 => ?_)
  · exact (w_X11_read_j198 hC hQ hI σ14)
  refine xg_ite (fun e65 => xg_tswIn hC 6 198 e65 dX11_read_57 (xm_inc _ rfl) (by decide) (by decide) rfl rfl ?_) (fun n66 => ?_)
  · exact (w_X11_read_j198 hC hQ hI σ14)
  refine xg_ite (fun e67 => xg_tswIn hC 7 165 e67 dX11_read_57 (xm_inc _ rfl) (by decide) (by decide) rfl rfl ?_) (fun n68 => ?_)
  · exact (w_X11_read_j165 hC hQ hI σ14)
  refine xg_ite (fun e72 => xg_tswIn hC 8 165 e72 dX11_read_57 (xm_inc _ rfl) (by decide) (by decide) rfl rfl ?_) (fun n73 => ?_)
  · exact (w_X11_read_j165 hC hQ hI σ14)
  refine xg_tswOut hC 198 dX11_read_57 k17 (by omega) rfl ?_
  exact (w_X11_read_j198 hC hQ hI σ14)
theorem w_X11_namesThoseThere_j25 {X : xm_X} (hC : xm_C X yX11_namesThoseThere.cls cX11_namesThoseThere 2 3 0 0) (hQ : xm_Rt X 2 (some .boolean) 0 0) (hI : xx_I X = xm_I)   (σ : xm_Mem)   : xm_V X 0 0 (f_X11_namesThoseThere_j25  σ) σ 25 [(0, .ref (xm_B (xx_G X) + 84))] [] := by
  unfold f_X11_namesThoseThere_j25
  refine xg_aload_n hC dX11_namesThoseThere_25 rfl ?_
  refine xg_getI hC (xm_hK hI rfl) rfl xl_F_X11_321 dX11_namesThoseThere_26 (fun k7 => ?_)
  refine xg_if_lt hC k7 43 dX11_namesThoseThere_29 rfl (fun c8 => ?_) (fun c9 => ?_)
  · refine xg_iconst hC dX11_namesThoseThere_43 ?_
    refine xg_goto hC 48 dX11_namesThoseThere_44 rfl ?_
    exact xg_zret hC hQ (by decide) dX11_namesThoseThere_48
  refine xg_aload_n hC dX11_namesThoseThere_32 rfl ?_
  refine xg_aload_n hC dX11_namesThoseThere_33 rfl ?_
  refine xg_getI hC (xm_hK hI rfl) rfl xl_F_X11_321 dX11_namesThoseThere_34 (fun k10 => ?_)
  refine xg_callV hC (ci := 10) (w_X11_isPerson hI σ (σ.1 84 48) k10) xl_M_X11_123 xl_V_X11_isPerson (xm_hK (a := 84) (kd := 0) (n := 10) hI rfl).2 ((xm_hK (a := 84) (kd := 0) (n := 10) hI rfl).1 _) (by decide) rfl (by decide) ⟨by decide, by decide⟩ dX11_namesThoseThere_37 (rest := []) rfl rfl (Nat.le_of_ble_eq_true rfl) rfl rfl (st2 := fun o => .int (xm_J o.2) :: []) (fun _ => rfl) (fun o11 k12 => ?_)
  refine xg_if_eq hC (xm_in01 k12) 47 dX11_namesThoseThere_40 rfl (fun c13 => ?_) (fun c14 => ?_)
  · refine xg_iconst hC dX11_namesThoseThere_47 ?_
    exact xg_zret hC hQ (by decide) dX11_namesThoseThere_48
  refine xg_iconst hC dX11_namesThoseThere_43 ?_
  refine xg_goto hC 48 dX11_namesThoseThere_44 rfl ?_
  exact xg_zret hC hQ (by decide) dX11_namesThoseThere_48
theorem w_X11_namesThoseThere_j89 {X : xm_X} (hC : xm_C X yX11_namesThoseThere.cls cX11_namesThoseThere 2 3 0 0) (hQ : xm_Rt X 2 (some .boolean) 0 0) (hI : xx_I X = xm_I)   (σ : xm_Mem) (x1 : Int) (h1 : 0 ≤ x1 ∧ x1 ≤ 1) : xm_V X 0 0 (f_X11_namesThoseThere_j89  σ x1) σ 89 [(0, .ref (xm_B (xx_G X) + 84)), (1, .int (xm_J x1))] [] := by
  unfold f_X11_namesThoseThere_j89
  refine xg_aload_n hC dX11_namesThoseThere_89 rfl ?_
  refine xg_getI hC (xm_hK hI rfl) rfl xl_F_X11_318 dX11_namesThoseThere_90 (fun k26 => ?_)
  refine xg_if_lt hC k26 125 dX11_namesThoseThere_93 rfl (fun c27 => ?_) (fun c28 => ?_)
  · refine xg_iconst hC dX11_namesThoseThere_125 ?_
    refine xg_goto hC 130 dX11_namesThoseThere_126 rfl ?_
    exact xg_zret hC hQ (by decide) dX11_namesThoseThere_130
  refine xg_iload_n hC dX11_namesThoseThere_96 rfl ?_
  refine xg_if_eq hC (xm_in01 h1) 114 dX11_namesThoseThere_97 rfl (fun c29 => ?_) (fun c30 => ?_)
  · refine xg_aload_n hC dX11_namesThoseThere_114 rfl ?_
    refine xg_aload_n hC dX11_namesThoseThere_115 rfl ?_
    refine xg_getI hC (xm_hK hI rfl) rfl xl_F_X11_318 dX11_namesThoseThere_116 (fun k31 => ?_)
    refine xg_callV hC (ci := 10) (w_X11_isTitle hI σ (σ.1 84 47) k31) xl_M_X11_354 xl_V_X11_isTitle (xm_hK (a := 84) (kd := 0) (n := 10) hI rfl).2 ((xm_hK (a := 84) (kd := 0) (n := 10) hI rfl).1 _) (by decide) rfl (by decide) ⟨by decide, by decide⟩ dX11_namesThoseThere_119 (rest := []) rfl rfl (Nat.le_of_ble_eq_true rfl) rfl rfl (st2 := fun o => .int (xm_J o.2) :: []) (fun _ => rfl) (fun o32 k33 => ?_)
    refine xg_if_eq hC (xm_in01 k33) 129 dX11_namesThoseThere_122 rfl (fun c34 => ?_) (fun c35 => ?_)
    · refine xg_iconst hC dX11_namesThoseThere_129 ?_
      exact xg_zret hC hQ (by decide) dX11_namesThoseThere_130
    refine xg_iconst hC dX11_namesThoseThere_125 ?_
    refine xg_goto hC 130 dX11_namesThoseThere_126 rfl ?_
    exact xg_zret hC hQ (by decide) dX11_namesThoseThere_130
  refine xg_aload_n hC dX11_namesThoseThere_100 rfl ?_
  refine xg_aload_n hC dX11_namesThoseThere_101 rfl ?_
  refine xg_getI hC (xm_hK hI rfl) rfl xl_F_X11_318 dX11_namesThoseThere_102 (fun k36 => ?_)
  refine xg_callV hC (ci := 10) (w_X11_isPerson hI σ (σ.1 84 47) k36) xl_M_X11_123 xl_V_X11_isPerson (xm_hK (a := 84) (kd := 0) (n := 10) hI rfl).2 ((xm_hK (a := 84) (kd := 0) (n := 10) hI rfl).1 _) (by decide) rfl (by decide) ⟨by decide, by decide⟩ dX11_namesThoseThere_105 (rest := []) rfl rfl (Nat.le_of_ble_eq_true rfl) rfl rfl (st2 := fun o => .int (xm_J o.2) :: []) (fun _ => rfl) (fun o37 k38 => ?_)
  refine xg_if_eq hC (xm_in01 k38) 129 dX11_namesThoseThere_108 rfl (fun c39 => ?_) (fun c40 => ?_)
  · refine xg_iconst hC dX11_namesThoseThere_129 ?_
    exact xg_zret hC hQ (by decide) dX11_namesThoseThere_130
  refine xg_goto hC 125 dX11_namesThoseThere_111 rfl ?_
  refine xg_iconst hC dX11_namesThoseThere_125 ?_
  refine xg_goto hC 130 dX11_namesThoseThere_126 rfl ?_
  exact xg_zret hC hQ (by decide) dX11_namesThoseThere_130
theorem w_X11_namesThoseThere_j70 {X : xm_X} (hC : xm_C X yX11_namesThoseThere.cls cX11_namesThoseThere 2 3 0 0) (hQ : xm_Rt X 2 (some .boolean) 0 0) (hI : xx_I X = xm_I)   (σ : xm_Mem) (s0 : Int) (g0 : 0 ≤ s0 ∧ s0 ≤ 1) : xm_V X 0 0 (f_X11_namesThoseThere_j70  σ s0) σ 70 [(0, .ref (xm_B (xx_G X) + 84))] [.int (xm_J s0)] := by
  unfold f_X11_namesThoseThere_j70
  refine xg_istore_n hC (l' := [(1, .int (xm_J s0)), (0, .ref (xm_B (xx_G X) + 84))]) dX11_namesThoseThere_70 (by decide) rfl ?_
  refine xg_aload_n hC dX11_namesThoseThere_71 rfl ?_
  refine xg_getI hC (xm_hK hI rfl) rfl xl_F_X11_315 dX11_namesThoseThere_72 (fun k23 => ?_)
  refine xg_if_lt hC k23 89 dX11_namesThoseThere_75 rfl (fun c24 => ?_) (fun c25 => ?_)
  · exact xg_pick [1, 0] rfl (w_X11_namesThoseThere_j89 hC hQ hI σ s0 g0)
  refine xg_aload_n hC dX11_namesThoseThere_78 rfl ?_
  refine xg_aload_n hC dX11_namesThoseThere_79 rfl ?_
  refine xg_getI hC (xm_hK hI rfl) rfl xl_F_X11_315 dX11_namesThoseThere_80 (fun k41 => ?_)
  refine xg_callV hC (ci := 10) (w_X11_isPerson hI σ (σ.1 84 46) k41) xl_M_X11_123 xl_V_X11_isPerson (xm_hK (a := 84) (kd := 0) (n := 10) hI rfl).2 ((xm_hK (a := 84) (kd := 0) (n := 10) hI rfl).1 _) (by decide) rfl (by decide) ⟨by decide, by decide⟩ dX11_namesThoseThere_83 (rest := []) rfl rfl (Nat.le_of_ble_eq_true rfl) rfl rfl (st2 := fun o => .int (xm_J o.2) :: []) (fun _ => rfl) (fun o42 k43 => ?_)
  refine xg_if_eq hC (xm_in01 k43) 129 dX11_namesThoseThere_86 rfl (fun c44 => ?_) (fun c45 => ?_)
  · refine xg_iconst hC dX11_namesThoseThere_129 ?_
    exact xg_zret hC hQ (by decide) dX11_namesThoseThere_130
  exact xg_pick [1, 0] rfl (w_X11_namesThoseThere_j89 hC hQ hI o42.1 s0 g0)
theorem w_X11_namesThoseThere_j65 {X : xm_X} (hC : xm_C X yX11_namesThoseThere.cls cX11_namesThoseThere 2 3 0 0) (hQ : xm_Rt X 2 (some .boolean) 0 0) (hI : xx_I X = xm_I)   (σ : xm_Mem)   : xm_V X 0 0 (f_X11_namesThoseThere_j65  σ) σ 65 [(0, .ref (xm_B (xx_G X) + 84))] [] := by
  unfold f_X11_namesThoseThere_j65
  refine xg_iconst hC dX11_namesThoseThere_65 ?_
  refine xg_goto hC 70 dX11_namesThoseThere_66 rfl ?_
  exact (w_X11_namesThoseThere_j70 hC hQ hI σ (1 : Int) (by decide))
theorem w_X11_namesThoseThere {Γ : xm_Gm} {I : xm_Mem → Prop} {la : Launch} (hE : I = xm_I) (σ : xm_Mem)   : ∀ o, f_X11_namesThoseThere σ  = some o → xm_M Γ I la yX11_namesThoseThere cX11_namesThoseThere 2 (some .boolean) 3 0 0 [.ref (xm_B Γ + 84)] σ 2 o := by
  refine xg_enter (by decide) (by simp [lg_sl, xm_rf_cat, xm_cati, xm_catr, xm_catl]) (fun X hG hI0 hla hC hQ hname => ?_)
  subst hG
  have hI := hI0.trans hE
  clear hI0 hla
  unfold f_X11_namesThoseThere
  refine xg_pick [0] (l' := [(0, .ref (xm_B (xx_G X) + 84))]) rfl ?_
  refine xg_aload_n hC dX11_namesThoseThere_0 rfl ?_
  refine xg_getI hC (xm_hK hI rfl) rfl xl_F_X11_333 dX11_namesThoseThere_1 (fun k1 => ?_)
  refine xg_if_ne hC k1 49 dX11_namesThoseThere_4 rfl (fun c2 => ?_) (fun c3 => ?_)
  · refine xg_aload_n hC dX11_namesThoseThere_7 rfl ?_
    refine xg_getI hC (xm_hK hI rfl) rfl xl_F_X11_318 dX11_namesThoseThere_8 (fun k4 => ?_)
    refine xg_if_lt hC k4 25 dX11_namesThoseThere_11 rfl (fun c5 => ?_) (fun c6 => ?_)
    · exact (w_X11_namesThoseThere_j25 hC hQ hI σ)
    refine xg_aload_n hC dX11_namesThoseThere_14 rfl ?_
    refine xg_aload_n hC dX11_namesThoseThere_15 rfl ?_
    refine xg_getI hC (xm_hK hI rfl) rfl xl_F_X11_318 dX11_namesThoseThere_16 (fun k15 => ?_)
    refine xg_callV hC (ci := 10) (w_X11_isPerson hI σ (σ.1 84 47) k15) xl_M_X11_123 xl_V_X11_isPerson (xm_hK (a := 84) (kd := 0) (n := 10) hI rfl).2 ((xm_hK (a := 84) (kd := 0) (n := 10) hI rfl).1 _) (by decide) rfl (by decide) ⟨by decide, by decide⟩ dX11_namesThoseThere_19 (rest := []) rfl rfl (Nat.le_of_ble_eq_true rfl) rfl rfl (st2 := fun o => .int (xm_J o.2) :: []) (fun _ => rfl) (fun o16 k17 => ?_)
    refine xg_if_eq hC (xm_in01 k17) 47 dX11_namesThoseThere_22 rfl (fun c18 => ?_) (fun c19 => ?_)
    · refine xg_iconst hC dX11_namesThoseThere_47 ?_
      exact xg_zret hC hQ (by decide) dX11_namesThoseThere_48
    exact (w_X11_namesThoseThere_j25 hC hQ hI o16.1)
  refine xg_aload_n hC dX11_namesThoseThere_49 rfl ?_
  refine xg_getI hC (xm_hK hI rfl) rfl xl_F_X11_333 dX11_namesThoseThere_50 (fun k20 => ?_)
  refine xg_iconst hC dX11_namesThoseThere_53 ?_
  refine xg_icmp_eq hC k20 (xm_inc _ rfl) 65 dX11_namesThoseThere_54 rfl (fun c21 => ?_) (fun c22 => ?_)
  · exact (w_X11_namesThoseThere_j65 hC hQ hI σ)
  refine xg_aload_n hC dX11_namesThoseThere_57 rfl ?_
  refine xg_getI hC (xm_hK hI rfl) rfl xl_F_X11_333 dX11_namesThoseThere_58 (fun k46 => ?_)
  refine xg_iconst hC dX11_namesThoseThere_61 ?_
  refine xg_icmp_ne hC k46 (xm_inc _ rfl) 69 dX11_namesThoseThere_62 rfl (fun c47 => ?_) (fun c48 => ?_)
  · exact (w_X11_namesThoseThere_j65 hC hQ hI σ)
  refine xg_iconst hC dX11_namesThoseThere_69 ?_
  exact (w_X11_namesThoseThere_j70 hC hQ hI σ (0 : Int) (by decide))
theorem w_X11_feed_j75 {X : xm_X} (hC : xm_C X yX11_feed.cls cX11_feed 8 2 0 0) (hQ : xm_Rt X 1 (some .int) 0 0) (hI : xx_I X = xm_I) {K22 : xm_Mem → Int → Int → Int → Int → Int → Int → Option xm_Out} (hK22 : ∀ (σ : xm_Mem) (x1 : Int) (x2 : Int) (x3 : Int) (x4 : Int) (x5 : Int) (x6 : Int), xm_in x1 → xm_in x2 → xm_in x3 → xm_in x4 → xm_in x5 → xm_in x6 → xm_V X 0 0 (K22 σ x1 x2 x3 x4 x5 x6) σ 22 [(0, .ref (xm_B (xx_G X) + 84)), (1, .int (xm_J x1)), (2, .int (xm_J x2)), (3, .int (xm_J x3)), (4, .int (xm_J x4)), (5, .int (xm_J x5)), (6, .int (xm_J x6))] []) (σ : xm_Mem) (s0 : Int) (x1 : Int) (x2 : Int) (x3 : Int) (x4 : Int) (x5 : Int) (x6 : Int) (g0 : xm_in s0) (h1 : xm_in x1) (h2 : xm_in x2) (h3 : xm_in x3) (h4 : xm_in x4) (h5 : xm_in x5) (h6 : xm_in x6) : xm_V X 0 0 (f_X11_feed_j75 K22 σ s0 x1 x2 x3 x4 x5 x6) σ 75 [(0, .ref (xm_B (xx_G X) + 84)), (1, .int (xm_J x1)), (2, .int (xm_J x2)), (3, .int (xm_J x3)), (4, .int (xm_J x4)), (5, .int (xm_J x5)), (6, .int (xm_J x6))] [.int (xm_J s0)] := by
  unfold f_X11_feed_j75
  refine xg_istore hC (l' := [(7, .int (xm_J s0)), (0, .ref (xm_B (xx_G X) + 84)), (1, .int (xm_J x1)), (2, .int (xm_J x2)), (3, .int (xm_J x3)), (4, .int (xm_J x4)), (5, .int (xm_J x5)), (6, .int (xm_J x6))]) dX11_feed_75 (by decide) rfl ?_
  refine xg_aload_n hC dX11_feed_77 rfl ?_
  refine xg_getW hC (b := 85) (xm_hK hI rfl) rfl (xm_wK hI rfl) (by decide) xl_F_X11_271 dX11_feed_78 ?_
  refine xg_aload_n hC dX11_feed_81 rfl ?_
  refine xg_getI hC (xm_hK hI rfl) rfl xl_F_X11_268 dX11_feed_82 (fun k10 => ?_)
  refine xg_iload hC dX11_feed_85 rfl ?_
  refine xg_bipush hC dX11_feed_87 (by decide) ?_
  refine xg_bipush hC dX11_feed_89 (by decide) ?_
  refine xg_iload hC dX11_feed_91 rfl ?_
  refine xg_iconst hC dX11_feed_93 ?_
  refine xg_irem hC dX11_feed_94 (by decide) ?_
  refine xg_imul hC dX11_feed_95 ?_
  refine xg_isub hC dX11_feed_96 ?_
  refine xg_ishr hC dX11_feed_97 ?_
  refine xg_sipush hC dX11_feed_98 (by decide) ?_
  refine xg_iand hC dX11_feed_101 ?_
  refine xg_iast hC (xm_hK hI rfl) rfl k10 (xm_and_in _ _) (xm_kpF hI rfl) dX11_feed_102 ?_
  refine xg_st (fun σ11 => ?_)
  refine xg_aload_n hC dX11_feed_103 rfl ?_
  refine xg_dup hC dX11_feed_104 rfl ?_
  refine xg_getI hC (xm_hK hI rfl) rfl xl_F_X11_268 dX11_feed_105 (fun k12 => ?_)
  refine xg_iconst hC dX11_feed_108 ?_
  refine xg_iadd hC dX11_feed_109 ?_
  refine xg_putI hC (xm_hK hI rfl) rfl rfl (xm_w_in _) (xm_kpK hI rfl) xl_F_X11_268 dX11_feed_110 ?_
  refine xg_st (fun σ13 => ?_)
  refine xg_iinc hC (l' := [(6, .int (xm_J (xm_w (x6 + 1)))), (7, .int (xm_J s0)), (0, .ref (xm_B (xx_G X) + 84)), (1, .int (xm_J x1)), (2, .int (xm_J x2)), (3, .int (xm_J x3)), (4, .int (xm_J x4)), (5, .int (xm_J x5))]) dX11_feed_113 (by decide) 7 rfl rfl ?_
  refine xg_goto hC 22 dX11_feed_116 rfl ?_
  exact xg_pick [2, 3, 4, 5, 6, 7, 0] rfl (hK22 σ13 x1 x2 x3 x4 x5 (xm_w (x6 + 1)) h1 h2 h3 h4 h5 (xm_w_in _))
theorem w_X11_feed_b22 {X : xm_X} (hC : xm_C X yX11_feed.cls cX11_feed 8 2 0 0) (hQ : xm_Rt X 1 (some .int) 0 0) (hI : xx_I X = xm_I) {K119 : xm_Mem → Option xm_Out} (hK119 : ∀ (σ : xm_Mem), xm_V X 0 0 (K119 σ ) σ 119 [(0, .ref (xm_B (xx_G X) + 84))] []) {self : xm_Mem → Int → Int → Int → Int → Int → Int → Option xm_Out} (hself : ∀ (σ : xm_Mem) (x1 : Int) (x2 : Int) (x3 : Int) (x4 : Int) (x5 : Int) (x6 : Int), xm_in x1 → xm_in x2 → xm_in x3 → xm_in x4 → xm_in x5 → xm_in x6 → xm_V X 0 0 (self σ x1 x2 x3 x4 x5 x6) σ 22 [(0, .ref (xm_B (xx_G X) + 84)), (1, .int (xm_J x1)), (2, .int (xm_J x2)), (3, .int (xm_J x3)), (4, .int (xm_J x4)), (5, .int (xm_J x5)), (6, .int (xm_J x6))] []) (σ : xm_Mem) (x1 : Int) (x2 : Int) (x3 : Int) (x4 : Int) (x5 : Int) (x6 : Int) (h1 : xm_in x1) (h2 : xm_in x2) (h3 : xm_in x3) (h4 : xm_in x4) (h5 : xm_in x5) (h6 : xm_in x6) : xm_V X 0 0 (f_X11_feed_b22 K119 self σ x1 x2 x3 x4 x5 x6) σ 22 [(0, .ref (xm_B (xx_G X) + 84)), (1, .int (xm_J x1)), (2, .int (xm_J x2)), (3, .int (xm_J x3)), (4, .int (xm_J x4)), (5, .int (xm_J x5)), (6, .int (xm_J x6))] [] := by
  unfold f_X11_feed_b22
  refine xg_iload hC dX11_feed_22 rfl ?_
  refine xg_bipush hC dX11_feed_24 (by decide) ?_
  refine xg_icmp_ge hC h6 (xm_inc _ rfl) 119 dX11_feed_26 rfl (fun c6 => ?_) (fun c7 => ?_)
  · refine xg_iload hC dX11_feed_29 rfl ?_
    refine xg_iconst hC dX11_feed_31 ?_
    refine xg_icmp_ge hC h6 (xm_inc _ rfl) 39 dX11_feed_32 rfl (fun c8 => ?_) (fun c9 => ?_)
    · refine xg_iload_n hC dX11_feed_35 rfl ?_
      refine xg_goto hC 75 dX11_feed_36 rfl ?_
      exact (w_X11_feed_j75 hC hQ hI hself σ x1 x1 x2 x3 x4 x5 x6 h1 h1 h2 h3 h4 h5 h6)
    refine xg_iload hC dX11_feed_39 rfl ?_
    refine xg_bipush hC dX11_feed_41 (by decide) ?_
    refine xg_icmp_ge hC h6 (xm_inc _ rfl) 50 dX11_feed_43 rfl (fun c14 => ?_) (fun c15 => ?_)
    · refine xg_iload_n hC dX11_feed_46 rfl ?_
      refine xg_goto hC 75 dX11_feed_47 rfl ?_
      exact (w_X11_feed_j75 hC hQ hI hself σ x2 x1 x2 x3 x4 x5 x6 h2 h1 h2 h3 h4 h5 h6)
    refine xg_iload hC dX11_feed_50 rfl ?_
    refine xg_bipush hC dX11_feed_52 (by decide) ?_
    refine xg_icmp_ge hC h6 (xm_inc _ rfl) 61 dX11_feed_54 rfl (fun c16 => ?_) (fun c17 => ?_)
    · refine xg_iload_n hC dX11_feed_57 rfl ?_
      refine xg_goto hC 75 dX11_feed_58 rfl ?_
      exact (w_X11_feed_j75 hC hQ hI hself σ x3 x1 x2 x3 x4 x5 x6 h3 h1 h2 h3 h4 h5 h6)
    refine xg_iload hC dX11_feed_61 rfl ?_
    refine xg_bipush hC dX11_feed_63 (by decide) ?_
    refine xg_icmp_ge hC h6 (xm_inc _ rfl) 73 dX11_feed_65 rfl (fun c18 => ?_) (fun c19 => ?_)
    · refine xg_iload hC dX11_feed_68 rfl ?_
      refine xg_goto hC 75 dX11_feed_70 rfl ?_
      exact (w_X11_feed_j75 hC hQ hI hself σ x4 x1 x2 x3 x4 x5 x6 h4 h1 h2 h3 h4 h5 h6)
    refine xg_iload hC dX11_feed_73 rfl ?_
    exact (w_X11_feed_j75 hC hQ hI hself σ x5 x1 x2 x3 x4 x5 x6 h5 h1 h2 h3 h4 h5 h6)
  exact xg_pick [0] rfl (hK119 σ)
theorem w_X11_feed_l22 {X : xm_X} (hC : xm_C X yX11_feed.cls cX11_feed 8 2 0 0) (hQ : xm_Rt X 1 (some .int) 0 0) (hI : xx_I X = xm_I) {K119 : xm_Mem → Option xm_Out} (hK119 : ∀ (σ : xm_Mem), xm_V X 0 0 (K119 σ ) σ 119 [(0, .ref (xm_B (xx_G X) + 84))] []) (n : Nat) : ∀ (σ : xm_Mem) (x1 : Int) (x2 : Int) (x3 : Int) (x4 : Int) (x5 : Int) (x6 : Int), xm_in x1 → xm_in x2 → xm_in x3 → xm_in x4 → xm_in x5 → xm_in x6 → xm_V X 0 0 (f_X11_feed_l22 K119 n σ x1 x2 x3 x4 x5 x6) σ 22 [(0, .ref (xm_B (xx_G X) + 84)), (1, .int (xm_J x1)), (2, .int (xm_J x2)), (3, .int (xm_J x3)), (4, .int (xm_J x4)), (5, .int (xm_J x5)), (6, .int (xm_J x6))] [] := by
  induction n with
  | zero => intro σ x1 x2 x3 x4 x5 x6 h1 h2 h3 h4 h5 h6; exact xg_none
  | succ n ih => intro σ x1 x2 x3 x4 x5 x6 h1 h2 h3 h4 h5 h6; exact w_X11_feed_b22 hC hQ hI hK119 ih σ x1 x2 x3 x4 x5 x6 h1 h2 h3 h4 h5 h6
theorem w_X11_feed {Γ : xm_Gm} {I : xm_Mem → Prop} {la : Launch} (hE : I = xm_I) (σ : xm_Mem) (x1 : Int) (x2 : Int) (x3 : Int) (x4 : Int) (x5 : Int) (h1 : xm_in x1) (h2 : xm_in x2) (h3 : xm_in x3) (h4 : xm_in x4) (h5 : xm_in x5) : ∀ o, f_X11_feed σ x1 x2 x3 x4 x5 = some o → xm_M Γ I la yX11_feed cX11_feed 8 (some .int) 2 0 0 [.ref (xm_B Γ + 84), .int (xm_J x1), .int (xm_J x2), .int (xm_J x3), .int (xm_J x4), .int (xm_J x5)] σ 1 o := by
  refine xg_enter (by decide) (by simp [lg_sl, xm_rf_cat, xm_cati, xm_catr, xm_catl]) (fun X hG hI0 hla hC hQ hname => ?_)
  subst hG
  have hI := hI0.trans hE
  clear hI0 hla
  unfold f_X11_feed
  refine xg_pick [0, 1, 2, 3, 4, 5] (l' := [(0, .ref (xm_B (xx_G X) + 84)), (1, .int (xm_J x1)), (2, .int (xm_J x2)), (3, .int (xm_J x3)), (4, .int (xm_J x4)), (5, .int (xm_J x5))]) rfl ?_
  refine xg_aload_n hC dX11_feed_0 rfl ?_
  refine xg_getI hC (xm_hK hI rfl) rfl xl_F_X11_268 dX11_feed_1 (fun k1 => ?_)
  refine xg_bipush hC dX11_feed_4 (by decide) ?_
  refine xg_iadd hC dX11_feed_6 ?_
  refine xg_bipush hC dX11_feed_7 (by decide) ?_
  refine xg_icmp_le hC (xm_w_in _) (xm_inc _ rfl) 19 dX11_feed_9 rfl (fun c2 => ?_) (fun c3 => ?_)
  · refine xg_aload_n hC dX11_feed_12 rfl ?_
    refine xg_bipush hC dX11_feed_13 (by decide) ?_
    refine xg_callV hC (ci := 10) (w_X11_no hI σ (9 : Int) (xm_inc _ rfl)) xl_M_X11_371 xl_V_X11_no (xm_hK (a := 84) (kd := 0) (n := 10) hI rfl).2 ((xm_hK (a := 84) (kd := 0) (n := 10) hI rfl).1 _) (by decide) rfl (by decide) ⟨by decide, by decide⟩ dX11_feed_15 (rest := []) rfl rfl (Nat.le_of_ble_eq_true rfl) rfl rfl (st2 := fun o => .int (xm_J o.2) :: []) (fun _ => rfl) (fun o4 k5 => ?_)
    exact xg_iret hC hQ k5 dX11_feed_18
  refine xg_iconst hC dX11_feed_19 ?_
  refine xg_istore hC (l' := [(6, .int (xm_J (0 : Int))), (0, .ref (xm_B (xx_G X) + 84)), (1, .int (xm_J x1)), (2, .int (xm_J x2)), (3, .int (xm_J x3)), (4, .int (xm_J x4)), (5, .int (xm_J x5))]) dX11_feed_20 (by decide) rfl ?_
  refine xg_pick [1, 2, 3, 4, 5, 6, 0] rfl (w_X11_feed_l22 hC hQ hI ?_ _ σ x1 x2 x3 x4 x5 (0 : Int) h1 h2 h3 h4 h5 (xm_inc _ rfl))
  intro σ_20
  refine xg_aload_n hC dX11_feed_119 rfl ?_
  refine xg_aload_n hC dX11_feed_120 rfl ?_
  refine xg_getI hC (xm_hK hI rfl) rfl xl_F_X11_268 dX11_feed_121 (fun k21 => ?_)
  refine xg_callV hC (ci := 10) (w_X11_fine hI σ_20 (σ_20.1 84 1) k21) xl_M_X11_374 xl_V_X11_fine (xm_hK (a := 84) (kd := 0) (n := 10) hI rfl).2 ((xm_hK (a := 84) (kd := 0) (n := 10) hI rfl).1 _) (by decide) rfl (by decide) ⟨by decide, by decide⟩ dX11_feed_124 (rest := []) rfl rfl (Nat.le_of_ble_eq_true rfl) rfl rfl (st2 := fun o => .int (xm_J o.2) :: []) (fun _ => rfl) (fun o22 k23 => ?_)
  exact xg_iret hC hQ k23 dX11_feed_127
theorem w_X11_end {Γ : xm_Gm} {I : xm_Mem → Prop} {la : Launch} (hE : I = xm_I) (σ : xm_Mem) (x1 : Int) (h1 : xm_in x1) : ∀ o, f_X11_end σ x1 = some o → xm_M Γ I la yX11_end cX11_end 2 (some .int) 2 0 0 [.ref (xm_B Γ + 84), .int (xm_J x1)] σ 1 o := by
  refine xg_enter (by decide) (by simp [lg_sl, xm_rf_cat, xm_cati, xm_catr, xm_catl]) (fun X hG hI0 hla hC hQ hname => ?_)
  subst hG
  have hI := hI0.trans hE
  clear hI0 hla
  unfold f_X11_end
  refine xg_pick [0, 1] (l' := [(0, .ref (xm_B (xx_G X) + 84)), (1, .int (xm_J x1))]) rfl ?_
  refine xg_iload_n hC dX11_end_0 rfl ?_
  refine xg_iconst hC dX11_end_1 ?_
  refine xg_aload_n hC dX11_end_2 rfl ?_
  refine xg_getI hC (xm_hK hI rfl) rfl xl_F_X11_268 dX11_end_3 (fun k1 => ?_)
  refine xg_callS hC (w_X11_isIn hI σ x1 (0 : Int) (σ.1 84 1) h1 (xm_inc _ rfl) k1) xl_M_X11_10 xl_S_X11_isIn (by decide) ⟨by decide, by decide⟩ dX11_end_6 (rest := []) rfl rfl (Nat.le_of_ble_eq_true rfl) rfl rfl (st2 := fun o => .int (xm_J o.2) :: []) (fun _ => rfl) (fun o2 k3 => ?_)
  refine xg_if_ne hC (xm_in01 k3) 18 dX11_end_9 rfl (fun c4 => ?_) (fun c5 => ?_)
  · refine xg_aload_n hC dX11_end_12 rfl ?_
    refine xg_iconst hC dX11_end_13 ?_
    refine xg_callV hC (ci := 10) (w_X11_no hI o2.1 (3 : Int) (xm_inc _ rfl)) xl_M_X11_371 xl_V_X11_no (xm_hK (a := 84) (kd := 0) (n := 10) hI rfl).2 ((xm_hK (a := 84) (kd := 0) (n := 10) hI rfl).1 _) (by decide) rfl (by decide) ⟨by decide, by decide⟩ dX11_end_14 (rest := []) rfl rfl (Nat.le_of_ble_eq_true rfl) rfl rfl (st2 := fun o => .int (xm_J o.2) :: []) (fun _ => rfl) (fun o6 k7 => ?_)
    exact xg_iret hC hQ k7 dX11_end_17
  refine xg_aload_n hC dX11_end_18 rfl ?_
  refine xg_iload_n hC dX11_end_19 rfl ?_
  refine xg_putI hC (xm_hK hI rfl) rfl rfl h1 (xm_kpK hI rfl) xl_F_X11_268 dX11_end_20 ?_
  refine xg_st (fun σ8 => ?_)
  refine xg_aload_n hC dX11_end_23 rfl ?_
  refine xg_iload_n hC dX11_end_24 rfl ?_
  refine xg_callV hC (ci := 10) (w_X11_fine hI σ8 x1 h1) xl_M_X11_374 xl_V_X11_fine (xm_hK (a := 84) (kd := 0) (n := 10) hI rfl).2 ((xm_hK (a := 84) (kd := 0) (n := 10) hI rfl).1 _) (by decide) rfl (by decide) ⟨by decide, by decide⟩ dX11_end_25 (rest := []) rfl rfl (Nat.le_of_ble_eq_true rfl) rfl rfl (st2 := fun o => .int (xm_J o.2) :: []) (fun _ => rfl) (fun o9 k10 => ?_)
  exact xg_iret hC hQ k10 dX11_end_28
theorem w_X11_record_j356 {X : xm_X} (hC : xm_C X yX11_record.cls cX11_record 3 9 0 0) (hQ : xm_Rt X 1 (some .int) 0 0) (hI : xx_I X = xm_I)   (σ : xm_Mem) (s0 : Int) (s1 : Int) (x2 : Int) (g0 : 0 ≤ s0 ∧ s0 ≤ 1) (g1 : xm_in s1) (h2 : xm_in x2) : xm_V X 0 0 (f_X11_record_j356  σ s0 s1 x2) σ 356 [(0, .ref (xm_B (xx_G X) + 84)), (2, .int (xm_J x2))] [.int (xm_J s0), .int (xm_J s1), .ref (xm_B (xx_G X) + 84)] := by
  unfold f_X11_record_j356
  refine xg_isub hC dX11_record_356 ?_
  refine xg_putI hC (xm_hK hI rfl) rfl rfl (xm_w_in _) (xm_kpK hI rfl) xl_F_X11_22 dX11_record_357 ?_
  refine xg_st (fun σ105 => ?_)
  refine xg_aload_n hC dX11_record_360 rfl ?_
  refine xg_iload_n hC dX11_record_361 rfl ?_
  refine xg_putI hC (xm_hK hI rfl) rfl rfl h2 (xm_kpK hI rfl) xl_F_X11_377 dX11_record_362 ?_
  refine xg_st (fun σ106 => ?_)
  refine xg_aload_n hC dX11_record_365 rfl ?_
  refine xg_iconst hC dX11_record_366 ?_
  refine xg_callV hC (ci := 10) (w_X11_no hI σ106 (5 : Int) (xm_inc _ rfl)) xl_M_X11_371 xl_V_X11_no (xm_hK (a := 84) (kd := 0) (n := 10) hI rfl).2 ((xm_hK (a := 84) (kd := 0) (n := 10) hI rfl).1 _) (by decide) rfl (by decide) ⟨by decide, by decide⟩ dX11_record_367 (rest := []) rfl rfl (Nat.le_of_ble_eq_true rfl) rfl rfl (st2 := fun o => .int (xm_J o.2) :: []) (fun _ => rfl) (fun o107 k108 => ?_)
  exact xg_iret hC hQ k108 dX11_record_370
theorem w_X11_record_j334 {X : xm_X} (hC : xm_C X yX11_record.cls cX11_record 3 9 0 0) (hQ : xm_Rt X 1 (some .int) 0 0) (hI : xx_I X = xm_I)   (σ : xm_Mem) (s0 : Int) (s1 : Int) (x2 : Int) (g0 : 0 ≤ s0 ∧ s0 ≤ 1) (g1 : xm_in s1) (h2 : xm_in x2) : xm_V X 0 0 (f_X11_record_j334  σ s0 s1 x2) σ 334 [(0, .ref (xm_B (xx_G X) + 84)), (2, .int (xm_J x2))] [.int (xm_J s0), .int (xm_J s1), .ref (xm_B (xx_G X) + 84)] := by
  unfold f_X11_record_j334
  refine xg_isub hC dX11_record_334 ?_
  refine xg_putI hC (xm_hK hI rfl) rfl rfl (xm_w_in _) (xm_kpK hI rfl) xl_F_X11_7 dX11_record_335 ?_
  refine xg_st (fun σ100 => ?_)
  refine xg_aload_n hC dX11_record_338 rfl ?_
  refine xg_dup hC dX11_record_339 rfl ?_
  refine xg_getI hC (xm_hK hI rfl) rfl xl_F_X11_22 dX11_record_340 (fun k101 => ?_)
  refine xg_aload_n hC dX11_record_343 rfl ?_
  refine xg_getI hC (xm_hK hI rfl) rfl xl_F_X11_333 dX11_record_344 (fun k102 => ?_)
  refine xg_iconst hC dX11_record_347 ?_
  refine xg_icmp_ne hC k102 (xm_inc _ rfl) 355 dX11_record_348 rfl (fun c103 => ?_) (fun c104 => ?_)
  · refine xg_iconst hC dX11_record_351 ?_
    refine xg_goto hC 356 dX11_record_352 rfl ?_
    exact (w_X11_record_j356 hC hQ hI σ100 (1 : Int) (σ100.1 84 15) x2 (by decide) k101 h2)
  refine xg_iconst hC dX11_record_355 ?_
  exact (w_X11_record_j356 hC hQ hI σ100 (0 : Int) (σ100.1 84 15) x2 (by decide) k101 h2)
theorem w_X11_record_j261 {X : xm_X} (hC : xm_C X yX11_record.cls cX11_record 3 9 0 0) (hQ : xm_Rt X 1 (some .int) 0 0) (hI : xx_I X = xm_I)   (σ : xm_Mem) (x1 : Int) (h1 : xm_in x1) : xm_V X 0 0 (f_X11_record_j261  σ x1) σ 261 [(0, .ref (xm_B (xx_G X) + 84)), (1, .int (xm_J x1))] [] := by
  unfold f_X11_record_j261
  refine xg_aload_n hC dX11_record_261 rfl ?_
  refine xg_dup hC dX11_record_262 rfl ?_
  refine xg_getI hC (xm_hK hI rfl) rfl xl_F_X11_40 dX11_record_263 (fun k81 => ?_)
  refine xg_iconst hC dX11_record_266 ?_
  refine xg_iadd hC dX11_record_267 ?_
  refine xg_putI hC (xm_hK hI rfl) rfl rfl (xm_w_in _) (xm_kpK hI rfl) xl_F_X11_40 dX11_record_268 ?_
  refine xg_st (fun σ82 => ?_)
  refine xg_aload_n hC dX11_record_271 rfl ?_
  refine xg_callV hC (ci := 10) (w_X11_broken hI σ82 ) xl_M_X11_387 xl_V_X11_broken (xm_hK (a := 84) (kd := 0) (n := 10) hI rfl).2 ((xm_hK (a := 84) (kd := 0) (n := 10) hI rfl).1 _) (by decide) rfl (by decide) ⟨by decide, by decide⟩ dX11_record_272 (rest := []) rfl rfl (Nat.le_of_ble_eq_true rfl) rfl rfl (st2 := fun o => .int (xm_J o.2) :: []) (fun _ => rfl) (fun o83 k84 => ?_)
  refine xg_istore_n hC (l' := [(2, .int (xm_J o83.2)), (0, .ref (xm_B (xx_G X) + 84)), (1, .int (xm_J x1))]) dX11_record_275 (by decide) rfl ?_
  refine xg_iload_n hC dX11_record_276 rfl ?_
  refine xg_if_ne hC k84 300 dX11_record_277 rfl (fun c85 => ?_) (fun c86 => ?_)
  · refine xg_aload_n hC dX11_record_280 rfl ?_
    refine xg_dup hC dX11_record_281 rfl ?_
    refine xg_getI hC (xm_hK hI rfl) rfl xl_F_X11_390 dX11_record_282 (fun k87 => ?_)
    refine xg_iconst hC dX11_record_285 ?_
    refine xg_iadd hC dX11_record_286 ?_
    refine xg_putI hC (xm_hK hI rfl) rfl rfl (xm_w_in _) (xm_kpK hI rfl) xl_F_X11_390 dX11_record_287 ?_
    refine xg_st (fun σ88 => ?_)
    refine xg_aload_n hC dX11_record_290 rfl ?_
    refine xg_callV hC (ci := 10) (w_X11_changed hI σ88 ) xl_M_X11_393 xl_V_X11_changed (xm_hK (a := 84) (kd := 0) (n := 10) hI rfl).2 ((xm_hK (a := 84) (kd := 0) (n := 10) hI rfl).1 _) (by decide) rfl (by decide) ⟨by decide, by decide⟩ dX11_record_291 (rest := []) rfl rfl (Nat.le_of_ble_eq_true rfl) rfl rfl (st2 := fun o => []) (fun _ => rfl) (fun o89 k90 => ?_)
    refine xg_aload_n hC dX11_record_294 rfl ?_
    refine xg_iload_n hC dX11_record_295 rfl ?_
    refine xg_callV hC (ci := 10) (w_X11_fine hI o89.1 x1 h1) xl_M_X11_374 xl_V_X11_fine (xm_hK (a := 84) (kd := 0) (n := 10) hI rfl).2 ((xm_hK (a := 84) (kd := 0) (n := 10) hI rfl).1 _) (by decide) rfl (by decide) ⟨by decide, by decide⟩ dX11_record_296 (rest := []) rfl rfl (Nat.le_of_ble_eq_true rfl) rfl rfl (st2 := fun o => .int (xm_J o.2) :: []) (fun _ => rfl) (fun o91 k92 => ?_)
    exact xg_iret hC hQ k92 dX11_record_299
  refine xg_aload_n hC dX11_record_300 rfl ?_
  refine xg_dup hC dX11_record_301 rfl ?_
  refine xg_getI hC (xm_hK hI rfl) rfl xl_F_X11_40 dX11_record_302 (fun k93 => ?_)
  refine xg_iconst hC dX11_record_305 ?_
  refine xg_isub hC dX11_record_306 ?_
  refine xg_putI hC (xm_hK hI rfl) rfl rfl (xm_w_in _) (xm_kpK hI rfl) xl_F_X11_40 dX11_record_307 ?_
  refine xg_st (fun σ94 => ?_)
  refine xg_aload_n hC dX11_record_310 rfl ?_
  refine xg_getW hC (b := 92) (xm_hK hI rfl) rfl (xm_wK hI rfl) (by decide) xl_F_X11_14 dX11_record_311 ?_
  refine xg_iload_n hC dX11_record_314 rfl ?_
  refine xg_iconst hC dX11_record_315 ?_
  refine xg_zast hC (xm_hK hI rfl) rfl h1 (by decide) (xm_kpF hI rfl) dX11_record_316 ?_
  refine xg_st (fun σ95 => ?_)
  refine xg_aload_n hC dX11_record_317 rfl ?_
  refine xg_dup hC dX11_record_318 rfl ?_
  refine xg_getI hC (xm_hK hI rfl) rfl xl_F_X11_7 dX11_record_319 (fun k96 => ?_)
  refine xg_aload_n hC dX11_record_322 rfl ?_
  refine xg_getI hC (xm_hK hI rfl) rfl xl_F_X11_333 dX11_record_323 (fun k97 => ?_)
  refine xg_if_ne hC k97 333 dX11_record_326 rfl (fun c98 => ?_) (fun c99 => ?_)
  · refine xg_iconst hC dX11_record_329 ?_
    refine xg_goto hC 334 dX11_record_330 rfl ?_
    exact xg_pick [1, 0] rfl (w_X11_record_j334 hC hQ hI σ95 (1 : Int) (σ95.1 84 14) o83.2 (by decide) k96 k84)
  refine xg_iconst hC dX11_record_333 ?_
  exact xg_pick [1, 0] rfl (w_X11_record_j334 hC hQ hI σ95 (0 : Int) (σ95.1 84 14) o83.2 (by decide) k96 k84)
theorem w_X11_record_j236 {X : xm_X} (hC : xm_C X yX11_record.cls cX11_record 3 9 0 0) (hQ : xm_Rt X 1 (some .int) 0 0) (hI : xx_I X = xm_I)   (σ : xm_Mem) (x1 : Int) (h1 : xm_in x1) : xm_V X 0 0 (f_X11_record_j236  σ x1) σ 236 [(0, .ref (xm_B (xx_G X) + 84)), (1, .int (xm_J x1))] [] := by
  unfold f_X11_record_j236
  refine xg_aload_n hC dX11_record_236 rfl ?_
  refine xg_getI hC (xm_hK hI rfl) rfl xl_F_X11_333 dX11_record_237 (fun k73 => ?_)
  refine xg_iconst hC dX11_record_240 ?_
  refine xg_icmp_ne hC k73 (xm_inc _ rfl) 261 dX11_record_241 rfl (fun c74 => ?_) (fun c75 => ?_)
  · refine xg_aload_n hC dX11_record_244 rfl ?_
    refine xg_getW hC (b := 94) (xm_hK hI rfl) rfl (xm_wK hI rfl) (by decide) xl_F_X11_25 dX11_record_245 ?_
    refine xg_aload_n hC dX11_record_248 rfl ?_
    refine xg_dup hC dX11_record_249 rfl ?_
    refine xg_getI hC (xm_hK hI rfl) rfl xl_F_X11_22 dX11_record_250 (fun k76 => ?_)
    refine xg_vI k76 (fun v77 k78 => ?_)
    refine xg_dup_x1 hC dX11_record_253 rfl rfl ?_
    refine xg_iconst hC dX11_record_254 ?_
    refine xg_iadd hC dX11_record_255 ?_
    refine xg_putI hC (xm_hK hI rfl) rfl rfl (xm_w_in _) (xm_kpK hI rfl) xl_F_X11_22 dX11_record_256 ?_
    refine xg_st (fun σ79 => ?_)
    refine xg_iload_n hC dX11_record_259 rfl ?_
    refine xg_iast hC (xm_hK hI rfl) rfl k78 h1 (xm_kpF hI rfl) dX11_record_260 ?_
    refine xg_st (fun σ80 => ?_)
    exact (w_X11_record_j261 hC hQ hI σ80 x1 h1)
  exact (w_X11_record_j261 hC hQ hI σ x1 h1)
theorem w_X11_record_j184 {X : xm_X} (hC : xm_C X yX11_record.cls cX11_record 3 9 0 0) (hQ : xm_Rt X 1 (some .int) 0 0) (hI : xx_I X = xm_I)   (σ : xm_Mem) (s0 : Int) (s1 : Int) (x1 : Int) (g0 : xm_in s0) (g1 : xm_in s1) (h1 : xm_in x1) : xm_V X 0 0 (f_X11_record_j184  σ s0 s1 x1) σ 184 [(0, .ref (xm_B (xx_G X) + 84)), (1, .int (xm_J x1))] [.int (xm_J s0), .int (xm_J s1), .ref (xm_B (xx_G X) + 89)] := by
  unfold f_X11_record_j184
  refine xg_iast hC (xm_hK hI rfl) rfl g1 g0 (xm_kpF hI rfl) dX11_record_184 ?_
  refine xg_st (fun σ59 => ?_)
  refine xg_aload_n hC dX11_record_185 rfl ?_
  refine xg_getW hC (b := 90) (xm_hK hI rfl) rfl (xm_wK hI rfl) (by decide) xl_F_X11_37 dX11_record_186 ?_
  refine xg_iload_n hC dX11_record_189 rfl ?_
  refine xg_aload_n hC dX11_record_190 rfl ?_
  refine xg_getI hC (xm_hK hI rfl) rfl xl_F_X11_321 dX11_record_191 (fun k60 => ?_)
  refine xg_iast hC (xm_hK hI rfl) rfl h1 k60 (xm_kpF hI rfl) dX11_record_194 ?_
  refine xg_st (fun σ61 => ?_)
  refine xg_aload_n hC dX11_record_195 rfl ?_
  refine xg_getW hC (b := 91) (xm_hK hI rfl) rfl (xm_wK hI rfl) (by decide) xl_F_X11_28 dX11_record_196 ?_
  refine xg_iload_n hC dX11_record_199 rfl ?_
  refine xg_aload_n hC dX11_record_200 rfl ?_
  refine xg_getI hC (xm_hK hI rfl) rfl xl_F_X11_324 dX11_record_201 (fun k62 => ?_)
  refine xg_iast hC (xm_hK hI rfl) rfl h1 k62 (xm_kpF hI rfl) dX11_record_204 ?_
  refine xg_st (fun σ63 => ?_)
  refine xg_aload_n hC dX11_record_205 rfl ?_
  refine xg_getW hC (b := 92) (xm_hK hI rfl) rfl (xm_wK hI rfl) (by decide) xl_F_X11_14 dX11_record_206 ?_
  refine xg_iload_n hC dX11_record_209 rfl ?_
  refine xg_iconst hC dX11_record_210 ?_
  refine xg_zast hC (xm_hK hI rfl) rfl h1 (by decide) (xm_kpF hI rfl) dX11_record_211 ?_
  refine xg_st (fun σ64 => ?_)
  refine xg_aload_n hC dX11_record_212 rfl ?_
  refine xg_getI hC (xm_hK hI rfl) rfl xl_F_X11_333 dX11_record_213 (fun k65 => ?_)
  refine xg_if_ne hC k65 236 dX11_record_216 rfl (fun c66 => ?_) (fun c67 => ?_)
  · refine xg_aload_n hC dX11_record_219 rfl ?_
    refine xg_getW hC (b := 93) (xm_hK hI rfl) rfl (xm_wK hI rfl) (by decide) xl_F_X11_18 dX11_record_220 ?_
    refine xg_aload_n hC dX11_record_223 rfl ?_
    refine xg_dup hC dX11_record_224 rfl ?_
    refine xg_getI hC (xm_hK hI rfl) rfl xl_F_X11_7 dX11_record_225 (fun k68 => ?_)
    refine xg_vI k68 (fun v69 k70 => ?_)
    refine xg_dup_x1 hC dX11_record_228 rfl rfl ?_
    refine xg_iconst hC dX11_record_229 ?_
    refine xg_iadd hC dX11_record_230 ?_
    refine xg_putI hC (xm_hK hI rfl) rfl rfl (xm_w_in _) (xm_kpK hI rfl) xl_F_X11_7 dX11_record_231 ?_
    refine xg_st (fun σ71 => ?_)
    refine xg_iload_n hC dX11_record_234 rfl ?_
    refine xg_iast hC (xm_hK hI rfl) rfl k70 h1 (xm_kpF hI rfl) dX11_record_235 ?_
    refine xg_st (fun σ72 => ?_)
    exact (w_X11_record_j236 hC hQ hI σ72 x1 h1)
  exact (w_X11_record_j236 hC hQ hI σ64 x1 h1)
theorem w_X11_record_j159 {X : xm_X} (hC : xm_C X yX11_record.cls cX11_record 3 9 0 0) (hQ : xm_Rt X 1 (some .int) 0 0) (hI : xx_I X = xm_I)   (σ : xm_Mem) (s0 : Int) (s1 : Int) (x1 : Int) (g0 : xm_in s0) (g1 : xm_in s1) (h1 : xm_in x1) : xm_V X 0 0 (f_X11_record_j159  σ s0 s1 x1) σ 159 [(0, .ref (xm_B (xx_G X) + 84)), (1, .int (xm_J x1))] [.int (xm_J s0), .int (xm_J s1), .ref (xm_B (xx_G X) + 88)] := by
  unfold f_X11_record_j159
  refine xg_iast hC (xm_hK hI rfl) rfl g1 g0 (xm_kpF hI rfl) dX11_record_159 ?_
  refine xg_st (fun σ54 => ?_)
  refine xg_aload_n hC dX11_record_160 rfl ?_
  refine xg_getW hC (b := 89) (xm_hK hI rfl) rfl (xm_wK hI rfl) (by decide) xl_F_X11_34 dX11_record_161 ?_
  refine xg_iload_n hC dX11_record_164 rfl ?_
  refine xg_aload_n hC dX11_record_165 rfl ?_
  refine xg_getI hC (xm_hK hI rfl) rfl xl_F_X11_333 dX11_record_166 (fun k55 => ?_)
  refine xg_iconst hC dX11_record_169 ?_
  refine xg_icmp_ne hC k55 (xm_inc _ rfl) 180 dX11_record_170 rfl (fun c56 => ?_) (fun c57 => ?_)
  · refine xg_aload_n hC dX11_record_173 rfl ?_
    refine xg_getI hC (xm_hK hI rfl) rfl xl_F_X11_22 dX11_record_174 (fun k58 => ?_)
    refine xg_goto hC 184 dX11_record_177 rfl ?_
    exact (w_X11_record_j184 hC hQ hI σ54 (σ54.1 84 15) x1 x1 k58 h1 h1)
  refine xg_aload_n hC dX11_record_180 rfl ?_
  refine xg_getI hC (xm_hK hI rfl) rfl xl_F_X11_318 dX11_record_181 (fun k109 => ?_)
  exact (w_X11_record_j184 hC hQ hI σ54 (σ54.1 84 47) x1 x1 k109 h1 h1)
theorem w_X11_record_j111 {X : xm_X} (hC : xm_C X yX11_record.cls cX11_record 3 9 0 0) (hQ : xm_Rt X 1 (some .int) 0 0) (hI : xx_I X = xm_I)   (σ : xm_Mem)   : xm_V X 0 0 (f_X11_record_j111  σ) σ 111 [(0, .ref (xm_B (xx_G X) + 84))] [] := by
  unfold f_X11_record_j111
  refine xg_aload_n hC dX11_record_111 rfl ?_
  refine xg_getI hC (xm_hK hI rfl) rfl xl_F_X11_40 dX11_record_112 (fun k43 => ?_)
  refine xg_vI k43 (fun v44 k45 => ?_)
  refine xg_istore_n hC (l' := [(1, .int (xm_J v44)), (0, .ref (xm_B (xx_G X) + 84))]) dX11_record_115 (by decide) rfl ?_
  refine xg_aload_n hC dX11_record_116 rfl ?_
  refine xg_getW hC (b := 86) (xm_hK hI rfl) rfl (xm_wK hI rfl) (by decide) xl_F_X11_43 dX11_record_117 ?_
  refine xg_iload_n hC dX11_record_120 rfl ?_
  refine xg_aload_n hC dX11_record_121 rfl ?_
  refine xg_getI hC (xm_hK hI rfl) rfl xl_F_X11_333 dX11_record_122 (fun k46 => ?_)
  refine xg_iast hC (xm_hK hI rfl) rfl k45 k46 (xm_kpF hI rfl) dX11_record_125 ?_
  refine xg_st (fun σ47 => ?_)
  refine xg_aload_n hC dX11_record_126 rfl ?_
  refine xg_getW hC (b := 87) (xm_hK hI rfl) rfl (xm_wK hI rfl) (by decide) xl_F_X11_31 dX11_record_127 ?_
  refine xg_iload_n hC dX11_record_130 rfl ?_
  refine xg_aload_n hC dX11_record_131 rfl ?_
  refine xg_getI hC (xm_hK hI rfl) rfl xl_F_X11_336 dX11_record_132 (fun k48 => ?_)
  refine xg_iast hC (xm_hK hI rfl) rfl k45 k48 (xm_kpF hI rfl) dX11_record_135 ?_
  refine xg_st (fun σ49 => ?_)
  refine xg_aload_n hC dX11_record_136 rfl ?_
  refine xg_getW hC (b := 88) (xm_hK hI rfl) rfl (xm_wK hI rfl) (by decide) xl_F_X11_46 dX11_record_137 ?_
  refine xg_iload_n hC dX11_record_140 rfl ?_
  refine xg_aload_n hC dX11_record_141 rfl ?_
  refine xg_getI hC (xm_hK hI rfl) rfl xl_F_X11_333 dX11_record_142 (fun k50 => ?_)
  refine xg_if_ne hC k50 155 dX11_record_145 rfl (fun c51 => ?_) (fun c52 => ?_)
  · refine xg_aload_n hC dX11_record_148 rfl ?_
    refine xg_getI hC (xm_hK hI rfl) rfl xl_F_X11_7 dX11_record_149 (fun k53 => ?_)
    refine xg_goto hC 159 dX11_record_152 rfl ?_
    exact xg_pick [1, 0] rfl (w_X11_record_j159 hC hQ hI σ49 (σ49.1 84 14) v44 v44 k53 k45 k45)
  refine xg_aload_n hC dX11_record_155 rfl ?_
  refine xg_getI hC (xm_hK hI rfl) rfl xl_F_X11_315 dX11_record_156 (fun k110 => ?_)
  exact xg_pick [1, 0] rfl (w_X11_record_j159 hC hQ hI σ49 (σ49.1 84 46) v44 v44 k110 k45 k45)
theorem w_X11_record_j87 {X : xm_X} (hC : xm_C X yX11_record.cls cX11_record 3 9 0 0) (hQ : xm_Rt X 1 (some .int) 0 0) (hI : xx_I X = xm_I)   (σ : xm_Mem)   : xm_V X 0 0 (f_X11_record_j87  σ) σ 87 [(0, .ref (xm_B (xx_G X) + 84))] [] := by
  unfold f_X11_record_j87
  refine xg_aload_n hC dX11_record_87 rfl ?_
  refine xg_getI hC (xm_hK hI rfl) rfl xl_F_X11_333 dX11_record_88 (fun k35 => ?_)
  refine xg_iconst hC dX11_record_91 ?_
  refine xg_icmp_ne hC k35 (xm_inc _ rfl) 111 dX11_record_92 rfl (fun c36 => ?_) (fun c37 => ?_)
  · refine xg_aload_n hC dX11_record_95 rfl ?_
    refine xg_getI hC (xm_hK hI rfl) rfl xl_F_X11_22 dX11_record_96 (fun k38 => ?_)
    refine xg_bipush hC dX11_record_99 (by decide) ?_
    refine xg_icmp_ne hC k38 (xm_inc _ rfl) 111 dX11_record_101 rfl (fun c39 => ?_) (fun c40 => ?_)
    · refine xg_aload_n hC dX11_record_104 rfl ?_
      refine xg_bipush hC dX11_record_105 (by decide) ?_
      refine xg_callV hC (ci := 10) (w_X11_no hI σ (9 : Int) (xm_inc _ rfl)) xl_M_X11_371 xl_V_X11_no (xm_hK (a := 84) (kd := 0) (n := 10) hI rfl).2 ((xm_hK (a := 84) (kd := 0) (n := 10) hI rfl).1 _) (by decide) rfl (by decide) ⟨by decide, by decide⟩ dX11_record_107 (rest := []) rfl rfl (Nat.le_of_ble_eq_true rfl) rfl rfl (st2 := fun o => .int (xm_J o.2) :: []) (fun _ => rfl) (fun o41 k42 => ?_)
      exact xg_iret hC hQ k42 dX11_record_110
    exact (w_X11_record_j111 hC hQ hI σ)
  exact (w_X11_record_j111 hC hQ hI σ)
theorem w_X11_record_j30 {X : xm_X} (hC : xm_C X yX11_record.cls cX11_record 3 9 0 0) (hQ : xm_Rt X 1 (some .int) 0 0) (hI : xx_I X = xm_I)   (σ : xm_Mem)   : xm_V X 0 0 (f_X11_record_j30  σ) σ 30 [(0, .ref (xm_B (xx_G X) + 84))] [] := by
  unfold f_X11_record_j30
  refine xg_aload_n hC dX11_record_30 rfl ?_
  refine xg_iconst hC dX11_record_31 ?_
  refine xg_putI hC (xm_hK hI rfl) rfl rfl (xm_inc _ rfl) (xm_kpK hI rfl) xl_F_X11_268 dX11_record_32 ?_
  refine xg_st (fun σ10 => ?_)
  refine xg_aload_n hC dX11_record_35 rfl ?_
  refine xg_getZ hC (xm_hK hI rfl) rfl xl_F_X11_300 dX11_record_36 (fun k11 => ?_)
  refine xg_if_ne hC (xm_in01 k11) 48 dX11_record_39 rfl (fun c12 => ?_) (fun c13 => ?_)
  · refine xg_aload_n hC dX11_record_42 rfl ?_
    refine xg_iconst hC dX11_record_43 ?_
    refine xg_callV hC (ci := 10) (w_X11_no hI σ10 (2 : Int) (xm_inc _ rfl)) xl_M_X11_371 xl_V_X11_no (xm_hK (a := 84) (kd := 0) (n := 10) hI rfl).2 ((xm_hK (a := 84) (kd := 0) (n := 10) hI rfl).1 _) (by decide) rfl (by decide) ⟨by decide, by decide⟩ dX11_record_44 (rest := []) rfl rfl (Nat.le_of_ble_eq_true rfl) rfl rfl (st2 := fun o => .int (xm_J o.2) :: []) (fun _ => rfl) (fun o14 k15 => ?_)
    exact xg_iret hC hQ k15 dX11_record_47
  refine xg_aload_n hC dX11_record_48 rfl ?_
  refine xg_callV hC (ci := 10) (w_X11_namesThoseThere hI σ10 ) xl_M_X11_383 xl_V_X11_namesThoseThere (xm_hK (a := 84) (kd := 0) (n := 10) hI rfl).2 ((xm_hK (a := 84) (kd := 0) (n := 10) hI rfl).1 _) (by decide) rfl (by decide) ⟨by decide, by decide⟩ dX11_record_49 (rest := []) rfl rfl (Nat.le_of_ble_eq_true rfl) rfl rfl (st2 := fun o => .int (xm_J o.2) :: []) (fun _ => rfl) (fun o16 k17 => ?_)
  refine xg_if_ne hC (xm_in01 k17) 61 dX11_record_52 rfl (fun c18 => ?_) (fun c19 => ?_)
  · refine xg_aload_n hC dX11_record_55 rfl ?_
    refine xg_iconst hC dX11_record_56 ?_
    refine xg_callV hC (ci := 10) (w_X11_no hI o16.1 (1 : Int) (xm_inc _ rfl)) xl_M_X11_371 xl_V_X11_no (xm_hK (a := 84) (kd := 0) (n := 10) hI rfl).2 ((xm_hK (a := 84) (kd := 0) (n := 10) hI rfl).1 _) (by decide) rfl (by decide) ⟨by decide, by decide⟩ dX11_record_57 (rest := []) rfl rfl (Nat.le_of_ble_eq_true rfl) rfl rfl (st2 := fun o => .int (xm_J o.2) :: []) (fun _ => rfl) (fun o20 k21 => ?_)
    exact xg_iret hC hQ k21 dX11_record_60
  refine xg_aload_n hC dX11_record_61 rfl ?_
  refine xg_getI hC (xm_hK hI rfl) rfl xl_F_X11_40 dX11_record_62 (fun k22 => ?_)
  refine xg_sipush hC dX11_record_65 (by decide) ?_
  refine xg_icmp_eq hC k22 (xm_inc _ rfl) 104 dX11_record_68 rfl (fun c23 => ?_) (fun c24 => ?_)
  · refine xg_aload_n hC dX11_record_104 rfl ?_
    refine xg_bipush hC dX11_record_105 (by decide) ?_
    refine xg_callV hC (ci := 10) (w_X11_no hI o16.1 (9 : Int) (xm_inc _ rfl)) xl_M_X11_371 xl_V_X11_no (xm_hK (a := 84) (kd := 0) (n := 10) hI rfl).2 ((xm_hK (a := 84) (kd := 0) (n := 10) hI rfl).1 _) (by decide) rfl (by decide) ⟨by decide, by decide⟩ dX11_record_107 (rest := []) rfl rfl (Nat.le_of_ble_eq_true rfl) rfl rfl (st2 := fun o => .int (xm_J o.2) :: []) (fun _ => rfl) (fun o25 k26 => ?_)
    exact xg_iret hC hQ k26 dX11_record_110
  refine xg_aload_n hC dX11_record_71 rfl ?_
  refine xg_getI hC (xm_hK hI rfl) rfl xl_F_X11_333 dX11_record_72 (fun k27 => ?_)
  refine xg_if_ne hC k27 87 dX11_record_75 rfl (fun c28 => ?_) (fun c29 => ?_)
  · refine xg_aload_n hC dX11_record_78 rfl ?_
    refine xg_getI hC (xm_hK hI rfl) rfl xl_F_X11_7 dX11_record_79 (fun k30 => ?_)
    refine xg_bipush hC dX11_record_82 (by decide) ?_
    refine xg_icmp_eq hC k30 (xm_inc _ rfl) 104 dX11_record_84 rfl (fun c31 => ?_) (fun c32 => ?_)
    · refine xg_aload_n hC dX11_record_104 rfl ?_
      refine xg_bipush hC dX11_record_105 (by decide) ?_
      refine xg_callV hC (ci := 10) (w_X11_no hI o16.1 (9 : Int) (xm_inc _ rfl)) xl_M_X11_371 xl_V_X11_no (xm_hK (a := 84) (kd := 0) (n := 10) hI rfl).2 ((xm_hK (a := 84) (kd := 0) (n := 10) hI rfl).1 _) (by decide) rfl (by decide) ⟨by decide, by decide⟩ dX11_record_107 (rest := []) rfl rfl (Nat.le_of_ble_eq_true rfl) rfl rfl (st2 := fun o => .int (xm_J o.2) :: []) (fun _ => rfl) (fun o33 k34 => ?_)
      exact xg_iret hC hQ k34 dX11_record_110
    exact (w_X11_record_j87 hC hQ hI o16.1)
  exact (w_X11_record_j87 hC hQ hI o16.1)
theorem w_X11_record {Γ : xm_Gm} {I : xm_Mem → Prop} {la : Launch} (hE : I = xm_I) (σ : xm_Mem)   : ∀ o, f_X11_record σ  = some o → xm_M Γ I la yX11_record cX11_record 3 (some .int) 9 0 0 [.ref (xm_B Γ + 84)] σ 1 o := by
  refine xg_enter (by decide) (by simp [lg_sl, xm_rf_cat, xm_cati, xm_catr, xm_catl]) (fun X hG hI0 hla hC hQ hname => ?_)
  subst hG
  have hI := hI0.trans hE
  clear hI0 hla
  unfold f_X11_record
  refine xg_pick [0] (l' := [(0, .ref (xm_B (xx_G X) + 84))]) rfl ?_
  refine xg_aload_n hC dX11_record_0 rfl ?_
  refine xg_iconst hC dX11_record_1 ?_
  refine xg_putI hC (xm_hK hI rfl) rfl rfl (xm_inc _ rfl) (xm_kpK hI rfl) xl_F_X11_377 dX11_record_2 ?_
  refine xg_st (fun σ1 => ?_)
  refine xg_aload_n hC dX11_record_5 rfl ?_
  refine xg_bipush hC dX11_record_6 (by decide) ?_
  refine xg_putI hC (xm_hK hI rfl) rfl rfl (xm_inc _ rfl) (xm_kpK hI rfl) xl_F_X11_362 dX11_record_8 ?_
  refine xg_st (fun σ2 => ?_)
  refine xg_aload_n hC dX11_record_11 rfl ?_
  refine xg_callV hC (ci := 10) (w_X11_read hI σ2 ) xl_M_X11_380 xl_V_X11_read (xm_hK (a := 84) (kd := 0) (n := 10) hI rfl).2 ((xm_hK (a := 84) (kd := 0) (n := 10) hI rfl).1 _) (by decide) rfl (by decide) ⟨by decide, by decide⟩ dX11_record_12 (rest := []) rfl rfl (Nat.le_of_ble_eq_true rfl) rfl rfl (st2 := fun o => []) (fun _ => rfl) (fun o3 k4 => ?_)
  refine xg_aload_n hC dX11_record_15 rfl ?_
  refine xg_getZ hC (xm_hK hI rfl) rfl xl_F_X11_300 dX11_record_16 (fun k5 => ?_)
  refine xg_if_ne hC (xm_in01 k5) 30 dX11_record_19 rfl (fun c6 => ?_) (fun c7 => ?_)
  · refine xg_aload_n hC dX11_record_22 rfl ?_
    refine xg_aload_n hC dX11_record_23 rfl ?_
    refine xg_getI hC (xm_hK hI rfl) rfl xl_F_X11_274 dX11_record_24 (fun k8 => ?_)
    refine xg_putI hC (xm_hK hI rfl) rfl rfl k8 (xm_kpK hI rfl) xl_F_X11_362 dX11_record_27 ?_
    refine xg_st (fun σ9 => ?_)
    exact (w_X11_record_j30 hC hQ hI σ9)
  exact (w_X11_record_j30 hC hQ hI o3.1)
theorem w_X11_place {Γ : xm_Gm} {I : xm_Mem → Prop} {la : Launch} (hE : I = xm_I) (σ : xm_Mem)   : ∀ o, f_X11_place σ  = some o → xm_M Γ I la yX11_place cX11_place 1 (some .int) 1 0 0 [.ref (xm_B Γ + 84)] σ 1 o := by
  refine xg_enter (by decide) (by simp [lg_sl, xm_rf_cat, xm_cati, xm_catr, xm_catl]) (fun X hG hI0 hla hC hQ hname => ?_)
  subst hG
  have hI := hI0.trans hE
  clear hI0 hla
  unfold f_X11_place
  refine xg_pick [0] (l' := [(0, .ref (xm_B (xx_G X) + 84))]) rfl ?_
  refine xg_aload_n hC dX11_place_0 rfl ?_
  refine xg_getI hC (xm_hK hI rfl) rfl xl_F_X11_362 dX11_place_1 (fun k1 => ?_)
  exact xg_iret hC hQ k1 dX11_place_4
theorem w_X11_bond {Γ : xm_Gm} {I : xm_Mem → Prop} {la : Launch} (hE : I = xm_I) (σ : xm_Mem)   : ∀ o, f_X11_bond σ  = some o → xm_M Γ I la yX11_bond cX11_bond 1 (some .int) 1 0 0 [.ref (xm_B Γ + 84)] σ 1 o := by
  refine xg_enter (by decide) (by simp [lg_sl, xm_rf_cat, xm_cati, xm_catr, xm_catl]) (fun X hG hI0 hla hC hQ hname => ?_)
  subst hG
  have hI := hI0.trans hE
  clear hI0 hla
  unfold f_X11_bond
  refine xg_pick [0] (l' := [(0, .ref (xm_B (xx_G X) + 84))]) rfl ?_
  refine xg_aload_n hC dX11_bond_0 rfl ?_
  refine xg_getI hC (xm_hK hI rfl) rfl xl_F_X11_377 dX11_bond_1 (fun k1 => ?_)
  exact xg_iret hC hQ k1 dX11_bond_4
theorem w_X11_isNamed_j140 {X : xm_X} (hC : xm_C X yX11_isNamed.cls cX11_isNamed 6 1 0 0) (hQ : xm_Rt X 2 (some .boolean) 0 0) (hI : xx_I X = xm_I) {K4 : xm_Mem → Int → Int → Int → Option xm_Out} (hK4 : ∀ (σ : xm_Mem) (x1 : Int) (x2 : Int) (x3 : Int), xm_in x1 → 0 ≤ x2 ∧ x2 ≤ 1 → xm_in x3 → xm_V X 0 0 (K4 σ x1 x2 x3) σ 4 [(0, .ref (xm_B (xx_G X) + 84)), (1, .int (xm_J x1)), (2, .int (xm_J x2)), (3, .int (xm_J x3))] []) (σ : xm_Mem) (x1 : Int) (x2 : Int) (x3 : Int) (x4 : Int) (h1 : xm_in x1) (h2 : 0 ≤ x2 ∧ x2 ≤ 1) (h3 : xm_in x3) (h4 : xm_in x4) : xm_V X 0 0 (f_X11_isNamed_j140 K4 σ x1 x2 x3 x4) σ 140 [(0, .ref (xm_B (xx_G X) + 84)), (1, .int (xm_J x1)), (2, .int (xm_J x2)), (3, .int (xm_J x3)), (4, .int (xm_J x4))] [] := by
  unfold f_X11_isNamed_j140
  refine xg_aload_n hC dX11_isNamed_140 rfl ?_
  refine xg_getW hC (b := 86) (xm_hK hI rfl) rfl (xm_wK hI rfl) (by decide) xl_F_X11_43 dX11_isNamed_141 ?_
  refine xg_iload_n hC dX11_isNamed_144 rfl ?_
  refine xg_iald hC (xm_hK hI rfl) rfl h1 dX11_isNamed_145 (fun b34 k35 => ?_)
  refine xg_iconst hC dX11_isNamed_146 ?_
  refine xg_icmp_ne hC k35 (xm_inc _ rfl) 181 dX11_isNamed_147 rfl (fun c36 => ?_) (fun c37 => ?_)
  · refine xg_iload_n hC dX11_isNamed_150 rfl ?_
    refine xg_if_ne hC (xm_in01 h2) 175 dX11_isNamed_151 rfl (fun c38 => ?_) (fun c39 => ?_)
    · refine xg_iload hC dX11_isNamed_154 rfl ?_
      refine xg_iconst hC dX11_isNamed_156 ?_
      refine xg_icmp_lt hC h4 (xm_inc _ rfl) 179 dX11_isNamed_157 rfl (fun c40 => ?_) (fun c41 => ?_)
      · refine xg_iconst hC dX11_isNamed_179 ?_
        refine xg_istore_n hC (l' := [(2, .int (xm_J (0 : Int))), (0, .ref (xm_B (xx_G X) + 84)), (1, .int (xm_J x1)), (3, .int (xm_J x3)), (4, .int (xm_J x4))]) dX11_isNamed_180 (by decide) rfl ?_
        refine xg_iinc hC (l' := [(3, .int (xm_J (xm_w (x3 + 1)))), (2, .int (xm_J (0 : Int))), (0, .ref (xm_B (xx_G X) + 84)), (1, .int (xm_J x1)), (4, .int (xm_J x4))]) dX11_isNamed_181 (by decide) 3 rfl rfl ?_
        refine xg_goto hC 4 dX11_isNamed_184 rfl ?_
        exact xg_pick [2, 3, 1, 0] rfl (hK4 σ x1 (0 : Int) (xm_w (x3 + 1)) h1 (by decide) (xm_w_in _))
      refine xg_aload_n hC dX11_isNamed_160 rfl ?_
      refine xg_getW hC (b := 89) (xm_hK hI rfl) rfl (xm_wK hI rfl) (by decide) xl_F_X11_34 dX11_isNamed_161 ?_
      refine xg_iload_n hC dX11_isNamed_164 rfl ?_
      refine xg_iald hC (xm_hK hI rfl) rfl h3 dX11_isNamed_165 (fun b42 k43 => ?_)
      refine xg_aload_n hC dX11_isNamed_166 rfl ?_
      refine xg_getW hC (b := 89) (xm_hK hI rfl) rfl (xm_wK hI rfl) (by decide) xl_F_X11_34 dX11_isNamed_167 ?_
      refine xg_iload_n hC dX11_isNamed_170 rfl ?_
      refine xg_iald hC (xm_hK hI rfl) rfl h1 dX11_isNamed_171 (fun b44 k45 => ?_)
      refine xg_icmp_ne hC k43 k45 179 dX11_isNamed_172 rfl (fun c46 => ?_) (fun c47 => ?_)
      · refine xg_iconst hC dX11_isNamed_175 ?_
        refine xg_goto hC 180 dX11_isNamed_176 rfl ?_
        refine xg_istore_n hC (l' := [(2, .int (xm_J (1 : Int))), (0, .ref (xm_B (xx_G X) + 84)), (1, .int (xm_J x1)), (3, .int (xm_J x3)), (4, .int (xm_J x4))]) dX11_isNamed_180 (by decide) rfl ?_
        refine xg_iinc hC (l' := [(3, .int (xm_J (xm_w (x3 + 1)))), (2, .int (xm_J (1 : Int))), (0, .ref (xm_B (xx_G X) + 84)), (1, .int (xm_J x1)), (4, .int (xm_J x4))]) dX11_isNamed_181 (by decide) 3 rfl rfl ?_
        refine xg_goto hC 4 dX11_isNamed_184 rfl ?_
        exact xg_pick [2, 3, 1, 0] rfl (hK4 σ x1 (1 : Int) (xm_w (x3 + 1)) h1 (by decide) (xm_w_in _))
      refine xg_iconst hC dX11_isNamed_179 ?_
      refine xg_istore_n hC (l' := [(2, .int (xm_J (0 : Int))), (0, .ref (xm_B (xx_G X) + 84)), (1, .int (xm_J x1)), (3, .int (xm_J x3)), (4, .int (xm_J x4))]) dX11_isNamed_180 (by decide) rfl ?_
      refine xg_iinc hC (l' := [(3, .int (xm_J (xm_w (x3 + 1)))), (2, .int (xm_J (0 : Int))), (0, .ref (xm_B (xx_G X) + 84)), (1, .int (xm_J x1)), (4, .int (xm_J x4))]) dX11_isNamed_181 (by decide) 3 rfl rfl ?_
      refine xg_goto hC 4 dX11_isNamed_184 rfl ?_
      exact xg_pick [2, 3, 1, 0] rfl (hK4 σ x1 (0 : Int) (xm_w (x3 + 1)) h1 (by decide) (xm_w_in _))
    refine xg_iconst hC dX11_isNamed_175 ?_
    refine xg_goto hC 180 dX11_isNamed_176 rfl ?_
    refine xg_istore_n hC (l' := [(2, .int (xm_J (1 : Int))), (0, .ref (xm_B (xx_G X) + 84)), (1, .int (xm_J x1)), (3, .int (xm_J x3)), (4, .int (xm_J x4))]) dX11_isNamed_180 (by decide) rfl ?_
    refine xg_iinc hC (l' := [(3, .int (xm_J (xm_w (x3 + 1)))), (2, .int (xm_J (1 : Int))), (0, .ref (xm_B (xx_G X) + 84)), (1, .int (xm_J x1)), (4, .int (xm_J x4))]) dX11_isNamed_181 (by decide) 3 rfl rfl ?_
    refine xg_goto hC 4 dX11_isNamed_184 rfl ?_
    exact xg_pick [2, 3, 1, 0] rfl (hK4 σ x1 (1 : Int) (xm_w (x3 + 1)) h1 (by decide) (xm_w_in _))
  refine xg_iinc hC (l' := [(3, .int (xm_J (xm_w (x3 + 1)))), (0, .ref (xm_B (xx_G X) + 84)), (1, .int (xm_J x1)), (2, .int (xm_J x2)), (4, .int (xm_J x4))]) dX11_isNamed_181 (by decide) 3 rfl rfl ?_
  refine xg_goto hC 4 dX11_isNamed_184 rfl ?_
  exact xg_pick [1, 2, 3, 0] rfl (hK4 σ x1 x2 (xm_w (x3 + 1)) h1 h2 (xm_w_in _))
theorem w_X11_isNamed_j139 {X : xm_X} (hC : xm_C X yX11_isNamed.cls cX11_isNamed 6 1 0 0) (hQ : xm_Rt X 2 (some .boolean) 0 0) (hI : xx_I X = xm_I) {K4 : xm_Mem → Int → Int → Int → Option xm_Out} (hK4 : ∀ (σ : xm_Mem) (x1 : Int) (x2 : Int) (x3 : Int), xm_in x1 → 0 ≤ x2 ∧ x2 ≤ 1 → xm_in x3 → xm_V X 0 0 (K4 σ x1 x2 x3) σ 4 [(0, .ref (xm_B (xx_G X) + 84)), (1, .int (xm_J x1)), (2, .int (xm_J x2)), (3, .int (xm_J x3))] []) (σ : xm_Mem) (s0 : Int) (x1 : Int) (x3 : Int) (x4 : Int) (g0 : 0 ≤ s0 ∧ s0 ≤ 1) (h1 : xm_in x1) (h3 : xm_in x3) (h4 : xm_in x4) : xm_V X 0 0 (f_X11_isNamed_j139 K4 σ s0 x1 x3 x4) σ 139 [(0, .ref (xm_B (xx_G X) + 84)), (1, .int (xm_J x1)), (3, .int (xm_J x3)), (4, .int (xm_J x4))] [.int (xm_J s0)] := by
  unfold f_X11_isNamed_j139
  refine xg_istore_n hC (l' := [(2, .int (xm_J s0)), (0, .ref (xm_B (xx_G X) + 84)), (1, .int (xm_J x1)), (3, .int (xm_J x3)), (4, .int (xm_J x4))]) dX11_isNamed_139 (by decide) rfl ?_
  exact xg_pick [1, 2, 0, 3, 4] rfl (w_X11_isNamed_j140 hC hQ hI hK4 σ x1 s0 x3 x4 h1 g0 h3 h4)
theorem w_X11_isNamed_j134 {X : xm_X} (hC : xm_C X yX11_isNamed.cls cX11_isNamed 6 1 0 0) (hQ : xm_Rt X 2 (some .boolean) 0 0) (hI : xx_I X = xm_I) {K4 : xm_Mem → Int → Int → Int → Option xm_Out} (hK4 : ∀ (σ : xm_Mem) (x1 : Int) (x2 : Int) (x3 : Int), xm_in x1 → 0 ≤ x2 ∧ x2 ≤ 1 → xm_in x3 → xm_V X 0 0 (K4 σ x1 x2 x3) σ 4 [(0, .ref (xm_B (xx_G X) + 84)), (1, .int (xm_J x1)), (2, .int (xm_J x2)), (3, .int (xm_J x3))] []) (σ : xm_Mem) (x1 : Int) (x3 : Int) (x4 : Int) (h1 : xm_in x1) (h3 : xm_in x3) (h4 : xm_in x4) : xm_V X 0 0 (f_X11_isNamed_j134 K4 σ x1 x3 x4) σ 134 [(0, .ref (xm_B (xx_G X) + 84)), (1, .int (xm_J x1)), (3, .int (xm_J x3)), (4, .int (xm_J x4))] [] := by
  unfold f_X11_isNamed_j134
  refine xg_iconst hC dX11_isNamed_134 ?_
  refine xg_goto hC 139 dX11_isNamed_135 rfl ?_
  exact (w_X11_isNamed_j139 hC hQ hI hK4 σ (1 : Int) x1 x3 x4 (by decide) h1 h3 h4)
theorem w_X11_isNamed_j138 {X : xm_X} (hC : xm_C X yX11_isNamed.cls cX11_isNamed 6 1 0 0) (hQ : xm_Rt X 2 (some .boolean) 0 0) (hI : xx_I X = xm_I) {K4 : xm_Mem → Int → Int → Int → Option xm_Out} (hK4 : ∀ (σ : xm_Mem) (x1 : Int) (x2 : Int) (x3 : Int), xm_in x1 → 0 ≤ x2 ∧ x2 ≤ 1 → xm_in x3 → xm_V X 0 0 (K4 σ x1 x2 x3) σ 4 [(0, .ref (xm_B (xx_G X) + 84)), (1, .int (xm_J x1)), (2, .int (xm_J x2)), (3, .int (xm_J x3))] []) (σ : xm_Mem) (x1 : Int) (x3 : Int) (x4 : Int) (h1 : xm_in x1) (h3 : xm_in x3) (h4 : xm_in x4) : xm_V X 0 0 (f_X11_isNamed_j138 K4 σ x1 x3 x4) σ 138 [(0, .ref (xm_B (xx_G X) + 84)), (1, .int (xm_J x1)), (3, .int (xm_J x3)), (4, .int (xm_J x4))] [] := by
  unfold f_X11_isNamed_j138
  refine xg_iconst hC dX11_isNamed_138 ?_
  exact (w_X11_isNamed_j139 hC hQ hI hK4 σ (0 : Int) x1 x3 x4 (by decide) h1 h3 h4)
theorem w_X11_isNamed_j114 {X : xm_X} (hC : xm_C X yX11_isNamed.cls cX11_isNamed 6 1 0 0) (hQ : xm_Rt X 2 (some .boolean) 0 0) (hI : xx_I X = xm_I) {K4 : xm_Mem → Int → Int → Int → Option xm_Out} (hK4 : ∀ (σ : xm_Mem) (x1 : Int) (x2 : Int) (x3 : Int), xm_in x1 → 0 ≤ x2 ∧ x2 ≤ 1 → xm_in x3 → xm_V X 0 0 (K4 σ x1 x2 x3) σ 4 [(0, .ref (xm_B (xx_G X) + 84)), (1, .int (xm_J x1)), (2, .int (xm_J x2)), (3, .int (xm_J x3))] []) (σ : xm_Mem) (x1 : Int) (x3 : Int) (x4 : Int) (h1 : xm_in x1) (h3 : xm_in x3) (h4 : xm_in x4) : xm_V X 0 0 (f_X11_isNamed_j114 K4 σ x1 x3 x4) σ 114 [(0, .ref (xm_B (xx_G X) + 84)), (1, .int (xm_J x1)), (3, .int (xm_J x3)), (4, .int (xm_J x4))] [] := by
  unfold f_X11_isNamed_j114
  refine xg_iload hC dX11_isNamed_114 rfl ?_
  refine xg_if_ne hC h4 138 dX11_isNamed_116 rfl (fun c26 => ?_) (fun c27 => ?_)
  · refine xg_aload_n hC dX11_isNamed_119 rfl ?_
    refine xg_getW hC (b := 90) (xm_hK hI rfl) rfl (xm_wK hI rfl) (by decide) xl_F_X11_37 dX11_isNamed_120 ?_
    refine xg_iload_n hC dX11_isNamed_123 rfl ?_
    refine xg_iald hC (xm_hK hI rfl) rfl h3 dX11_isNamed_124 (fun b28 k29 => ?_)
    refine xg_aload_n hC dX11_isNamed_125 rfl ?_
    refine xg_getW hC (b := 88) (xm_hK hI rfl) rfl (xm_wK hI rfl) (by decide) xl_F_X11_46 dX11_isNamed_126 ?_
    refine xg_iload_n hC dX11_isNamed_129 rfl ?_
    refine xg_iald hC (xm_hK hI rfl) rfl h1 dX11_isNamed_130 (fun b30 k31 => ?_)
    refine xg_icmp_ne hC k29 k31 138 dX11_isNamed_131 rfl (fun c32 => ?_) (fun c33 => ?_)
    · exact (w_X11_isNamed_j134 hC hQ hI hK4 σ x1 x3 x4 h1 h3 h4)
    exact (w_X11_isNamed_j138 hC hQ hI hK4 σ x1 x3 x4 h1 h3 h4)
  exact (w_X11_isNamed_j138 hC hQ hI hK4 σ x1 x3 x4 h1 h3 h4)
theorem w_X11_isNamed_j94 {X : xm_X} (hC : xm_C X yX11_isNamed.cls cX11_isNamed 6 1 0 0) (hQ : xm_Rt X 2 (some .boolean) 0 0) (hI : xx_I X = xm_I) {K4 : xm_Mem → Int → Int → Int → Option xm_Out} (hK4 : ∀ (σ : xm_Mem) (x1 : Int) (x2 : Int) (x3 : Int), xm_in x1 → 0 ≤ x2 ∧ x2 ≤ 1 → xm_in x3 → xm_V X 0 0 (K4 σ x1 x2 x3) σ 4 [(0, .ref (xm_B (xx_G X) + 84)), (1, .int (xm_J x1)), (2, .int (xm_J x2)), (3, .int (xm_J x3))] []) (σ : xm_Mem) (x1 : Int) (x3 : Int) (x4 : Int) (x5 : Int) (h1 : xm_in x1) (h3 : xm_in x3) (h4 : xm_in x4) (h5 : 0 ≤ x5 ∧ x5 ≤ 1) : xm_V X 0 0 (f_X11_isNamed_j94 K4 σ x1 x3 x4 x5) σ 94 [(0, .ref (xm_B (xx_G X) + 84)), (1, .int (xm_J x1)), (3, .int (xm_J x3)), (4, .int (xm_J x4)), (5, .int (xm_J x5))] [] := by
  unfold f_X11_isNamed_j94
  refine xg_iload hC dX11_isNamed_94 rfl ?_
  refine xg_if_eq hC (xm_in01 h5) 114 dX11_isNamed_96 rfl (fun c24 => ?_) (fun c25 => ?_)
  · exact xg_pick [0, 1, 2, 3] rfl (w_X11_isNamed_j114 hC hQ hI hK4 σ x1 x3 x4 h1 h3 h4)
  refine xg_aload_n hC dX11_isNamed_99 rfl ?_
  refine xg_getW hC (b := 89) (xm_hK hI rfl) rfl (xm_wK hI rfl) (by decide) xl_F_X11_34 dX11_isNamed_100 ?_
  refine xg_iload_n hC dX11_isNamed_103 rfl ?_
  refine xg_iald hC (xm_hK hI rfl) rfl h3 dX11_isNamed_104 (fun b48 k49 => ?_)
  refine xg_aload_n hC dX11_isNamed_105 rfl ?_
  refine xg_getW hC (b := 88) (xm_hK hI rfl) rfl (xm_wK hI rfl) (by decide) xl_F_X11_46 dX11_isNamed_106 ?_
  refine xg_iload_n hC dX11_isNamed_109 rfl ?_
  refine xg_iald hC (xm_hK hI rfl) rfl h1 dX11_isNamed_110 (fun b50 k51 => ?_)
  refine xg_icmp_eq hC k49 k51 134 dX11_isNamed_111 rfl (fun c52 => ?_) (fun c53 => ?_)
  · exact xg_pick [0, 1, 2, 3] rfl (w_X11_isNamed_j134 hC hQ hI hK4 σ x1 x3 x4 h1 h3 h4)
  exact xg_pick [0, 1, 2, 3] rfl (w_X11_isNamed_j114 hC hQ hI hK4 σ x1 x3 x4 h1 h3 h4)
theorem w_X11_isNamed_j59 {X : xm_X} (hC : xm_C X yX11_isNamed.cls cX11_isNamed 6 1 0 0) (hQ : xm_Rt X 2 (some .boolean) 0 0) (hI : xx_I X = xm_I) {K4 : xm_Mem → Int → Int → Int → Option xm_Out} (hK4 : ∀ (σ : xm_Mem) (x1 : Int) (x2 : Int) (x3 : Int), xm_in x1 → 0 ≤ x2 ∧ x2 ≤ 1 → xm_in x3 → xm_V X 0 0 (K4 σ x1 x2 x3) σ 4 [(0, .ref (xm_B (xx_G X) + 84)), (1, .int (xm_J x1)), (2, .int (xm_J x2)), (3, .int (xm_J x3))] []) (σ : xm_Mem) (s0 : Int) (x1 : Int) (x2 : Int) (x3 : Int) (x4 : Int) (g0 : 0 ≤ s0 ∧ s0 ≤ 1) (h1 : xm_in x1) (h2 : 0 ≤ x2 ∧ x2 ≤ 1) (h3 : xm_in x3) (h4 : xm_in x4) : xm_V X 0 0 (f_X11_isNamed_j59 K4 σ s0 x1 x2 x3 x4) σ 59 [(0, .ref (xm_B (xx_G X) + 84)), (1, .int (xm_J x1)), (2, .int (xm_J x2)), (3, .int (xm_J x3)), (4, .int (xm_J x4))] [.int (xm_J s0)] := by
  unfold f_X11_isNamed_j59
  refine xg_istore hC (l' := [(5, .int (xm_J s0)), (0, .ref (xm_B (xx_G X) + 84)), (1, .int (xm_J x1)), (2, .int (xm_J x2)), (3, .int (xm_J x3)), (4, .int (xm_J x4))]) dX11_isNamed_59 (by decide) rfl ?_
  refine xg_aload_n hC dX11_isNamed_61 rfl ?_
  refine xg_getW hC (b := 86) (xm_hK hI rfl) rfl (xm_wK hI rfl) (by decide) xl_F_X11_43 dX11_isNamed_62 ?_
  refine xg_iload_n hC dX11_isNamed_65 rfl ?_
  refine xg_iald hC (xm_hK hI rfl) rfl h1 dX11_isNamed_66 (fun b16 k17 => ?_)
  refine xg_if_ne hC k17 140 dX11_isNamed_67 rfl (fun c18 => ?_) (fun c19 => ?_)
  · refine xg_iload_n hC dX11_isNamed_70 rfl ?_
    refine xg_if_ne hC (xm_in01 h2) 134 dX11_isNamed_71 rfl (fun c20 => ?_) (fun c21 => ?_)
    · refine xg_iload hC dX11_isNamed_74 rfl ?_
      refine xg_if_eq hC h4 94 dX11_isNamed_76 rfl (fun c22 => ?_) (fun c23 => ?_)
      · exact xg_pick [1, 2, 4, 5, 0] rfl (w_X11_isNamed_j94 hC hQ hI hK4 σ x1 x3 x4 s0 h1 h3 h4 g0)
      refine xg_aload_n hC dX11_isNamed_79 rfl ?_
      refine xg_getW hC (b := 88) (xm_hK hI rfl) rfl (xm_wK hI rfl) (by decide) xl_F_X11_46 dX11_isNamed_80 ?_
      refine xg_iload_n hC dX11_isNamed_83 rfl ?_
      refine xg_iald hC (xm_hK hI rfl) rfl h3 dX11_isNamed_84 (fun b54 k55 => ?_)
      refine xg_aload_n hC dX11_isNamed_85 rfl ?_
      refine xg_getW hC (b := 88) (xm_hK hI rfl) rfl (xm_wK hI rfl) (by decide) xl_F_X11_46 dX11_isNamed_86 ?_
      refine xg_iload_n hC dX11_isNamed_89 rfl ?_
      refine xg_iald hC (xm_hK hI rfl) rfl h1 dX11_isNamed_90 (fun b56 k57 => ?_)
      refine xg_icmp_eq hC k55 k57 134 dX11_isNamed_91 rfl (fun c58 => ?_) (fun c59 => ?_)
      · exact xg_pick [1, 2, 4, 5] rfl (w_X11_isNamed_j134 hC hQ hI hK4 σ x1 x3 x4 h1 h3 h4)
      exact xg_pick [1, 2, 4, 5, 0] rfl (w_X11_isNamed_j94 hC hQ hI hK4 σ x1 x3 x4 s0 h1 h3 h4 g0)
    exact xg_pick [1, 2, 4, 5] rfl (w_X11_isNamed_j134 hC hQ hI hK4 σ x1 x3 x4 h1 h3 h4)
  exact xg_pick [1, 2, 3, 4, 5] rfl (w_X11_isNamed_j140 hC hQ hI hK4 σ x1 x2 x3 x4 h1 h2 h3 h4)
theorem w_X11_isNamed_j54 {X : xm_X} (hC : xm_C X yX11_isNamed.cls cX11_isNamed 6 1 0 0) (hQ : xm_Rt X 2 (some .boolean) 0 0) (hI : xx_I X = xm_I) {K4 : xm_Mem → Int → Int → Int → Option xm_Out} (hK4 : ∀ (σ : xm_Mem) (x1 : Int) (x2 : Int) (x3 : Int), xm_in x1 → 0 ≤ x2 ∧ x2 ≤ 1 → xm_in x3 → xm_V X 0 0 (K4 σ x1 x2 x3) σ 4 [(0, .ref (xm_B (xx_G X) + 84)), (1, .int (xm_J x1)), (2, .int (xm_J x2)), (3, .int (xm_J x3))] []) (σ : xm_Mem) (x1 : Int) (x2 : Int) (x3 : Int) (x4 : Int) (h1 : xm_in x1) (h2 : 0 ≤ x2 ∧ x2 ≤ 1) (h3 : xm_in x3) (h4 : xm_in x4) : xm_V X 0 0 (f_X11_isNamed_j54 K4 σ x1 x2 x3 x4) σ 54 [(0, .ref (xm_B (xx_G X) + 84)), (1, .int (xm_J x1)), (2, .int (xm_J x2)), (3, .int (xm_J x3)), (4, .int (xm_J x4))] [] := by
  unfold f_X11_isNamed_j54
  refine xg_iconst hC dX11_isNamed_54 ?_
  refine xg_goto hC 59 dX11_isNamed_55 rfl ?_
  exact (w_X11_isNamed_j59 hC hQ hI hK4 σ (1 : Int) x1 x2 x3 x4 (by decide) h1 h2 h3 h4)
theorem w_X11_isNamed_b4 {X : xm_X} (hC : xm_C X yX11_isNamed.cls cX11_isNamed 6 1 0 0) (hQ : xm_Rt X 2 (some .boolean) 0 0) (hI : xx_I X = xm_I)   {self : xm_Mem → Int → Int → Int → Option xm_Out} (hself : ∀ (σ : xm_Mem) (x1 : Int) (x2 : Int) (x3 : Int), xm_in x1 → 0 ≤ x2 ∧ x2 ≤ 1 → xm_in x3 → xm_V X 0 0 (self σ x1 x2 x3) σ 4 [(0, .ref (xm_B (xx_G X) + 84)), (1, .int (xm_J x1)), (2, .int (xm_J x2)), (3, .int (xm_J x3))] []) (σ : xm_Mem) (x1 : Int) (x2 : Int) (x3 : Int) (h1 : xm_in x1) (h2 : 0 ≤ x2 ∧ x2 ≤ 1) (h3 : xm_in x3) : xm_V X 0 0 (f_X11_isNamed_b4  self σ x1 x2 x3) σ 4 [(0, .ref (xm_B (xx_G X) + 84)), (1, .int (xm_J x1)), (2, .int (xm_J x2)), (3, .int (xm_J x3))] [] := by
  unfold f_X11_isNamed_b4
  refine xg_iload_n hC dX11_isNamed_4 rfl ?_
  refine xg_aload_n hC dX11_isNamed_5 rfl ?_
  refine xg_getI hC (xm_hK hI rfl) rfl xl_F_X11_40 dX11_isNamed_6 (fun k1 => ?_)
  refine xg_icmp_ge hC h3 k1 187 dX11_isNamed_9 rfl (fun c2 => ?_) (fun c3 => ?_)
  · refine xg_iload_n hC dX11_isNamed_12 rfl ?_
    refine xg_iload_n hC dX11_isNamed_13 rfl ?_
    refine xg_icmp_eq hC h3 h1 181 dX11_isNamed_14 rfl (fun c4 => ?_) (fun c5 => ?_)
    · refine xg_iinc hC (l' := [(3, .int (xm_J (xm_w (x3 + 1)))), (0, .ref (xm_B (xx_G X) + 84)), (1, .int (xm_J x1)), (2, .int (xm_J x2))]) dX11_isNamed_181 (by decide) 3 rfl rfl ?_
      refine xg_goto hC 4 dX11_isNamed_184 rfl ?_
      exact xg_pick [1, 2, 3, 0] rfl (hself σ x1 x2 (xm_w (x3 + 1)) h1 h2 (xm_w_in _))
    refine xg_aload_n hC dX11_isNamed_17 rfl ?_
    refine xg_getW hC (b := 92) (xm_hK hI rfl) rfl (xm_wK hI rfl) (by decide) xl_F_X11_14 dX11_isNamed_18 ?_
    refine xg_iload_n hC dX11_isNamed_21 rfl ?_
    refine xg_zald hC (xm_hK hI rfl) rfl h3 dX11_isNamed_22 (fun b6 k7 => ?_)
    refine xg_if_ne hC (xm_in01 k7) 29 dX11_isNamed_23 rfl (fun c8 => ?_) (fun c9 => ?_)
    · refine xg_goto hC 181 dX11_isNamed_26 rfl ?_
      refine xg_iinc hC (l' := [(3, .int (xm_J (xm_w (x3 + 1)))), (0, .ref (xm_B (xx_G X) + 84)), (1, .int (xm_J x1)), (2, .int (xm_J x2))]) dX11_isNamed_181 (by decide) 3 rfl rfl ?_
      refine xg_goto hC 4 dX11_isNamed_184 rfl ?_
      exact xg_pick [1, 2, 3, 0] rfl (hself σ x1 x2 (xm_w (x3 + 1)) h1 h2 (xm_w_in _))
    refine xg_aload_n hC dX11_isNamed_29 rfl ?_
    refine xg_getW hC (b := 86) (xm_hK hI rfl) rfl (xm_wK hI rfl) (by decide) xl_F_X11_43 dX11_isNamed_30 ?_
    refine xg_iload_n hC dX11_isNamed_33 rfl ?_
    refine xg_iald hC (xm_hK hI rfl) rfl h3 dX11_isNamed_34 (fun b10 k11 => ?_)
    refine xg_vI k11 (fun v12 k13 => ?_)
    refine xg_istore hC (l' := [(4, .int (xm_J v12)), (0, .ref (xm_B (xx_G X) + 84)), (1, .int (xm_J x1)), (2, .int (xm_J x2)), (3, .int (xm_J x3))]) dX11_isNamed_35 (by decide) rfl ?_
    refine xg_iload hC dX11_isNamed_37 rfl ?_
    refine xg_if_eq hC k13 54 dX11_isNamed_39 rfl (fun c14 => ?_) (fun c15 => ?_)
    · exact xg_pick [1, 2, 3, 4, 0] rfl (w_X11_isNamed_j54 hC hQ hI hself σ x1 x2 x3 v12 h1 h2 h3 k13)
    refine xg_iload hC dX11_isNamed_42 rfl ?_
    refine xg_iconst hC dX11_isNamed_44 ?_
    refine xg_icmp_eq hC k13 (xm_inc _ rfl) 54 dX11_isNamed_45 rfl (fun c60 => ?_) (fun c61 => ?_)
    · exact xg_pick [1, 2, 3, 4, 0] rfl (w_X11_isNamed_j54 hC hQ hI hself σ x1 x2 x3 v12 h1 h2 h3 k13)
    refine xg_iload hC dX11_isNamed_48 rfl ?_
    refine xg_iconst hC dX11_isNamed_50 ?_
    refine xg_icmp_ne hC k13 (xm_inc _ rfl) 58 dX11_isNamed_51 rfl (fun c62 => ?_) (fun c63 => ?_)
    · exact xg_pick [1, 2, 3, 4, 0] rfl (w_X11_isNamed_j54 hC hQ hI hself σ x1 x2 x3 v12 h1 h2 h3 k13)
    refine xg_iconst hC dX11_isNamed_58 ?_
    exact xg_pick [1, 2, 3, 4, 0] rfl (w_X11_isNamed_j59 hC hQ hI hself σ (0 : Int) x1 x2 x3 v12 (by decide) h1 h2 h3 k13)
  refine xg_iload_n hC dX11_isNamed_187 rfl ?_
  exact xg_zret hC hQ h2 dX11_isNamed_188
theorem w_X11_isNamed_l4 {X : xm_X} (hC : xm_C X yX11_isNamed.cls cX11_isNamed 6 1 0 0) (hQ : xm_Rt X 2 (some .boolean) 0 0) (hI : xx_I X = xm_I)   (n : Nat) : ∀ (σ : xm_Mem) (x1 : Int) (x2 : Int) (x3 : Int), xm_in x1 → 0 ≤ x2 ∧ x2 ≤ 1 → xm_in x3 → xm_V X 0 0 (f_X11_isNamed_l4  n σ x1 x2 x3) σ 4 [(0, .ref (xm_B (xx_G X) + 84)), (1, .int (xm_J x1)), (2, .int (xm_J x2)), (3, .int (xm_J x3))] [] := by
  induction n with
  | zero => intro σ x1 x2 x3 h1 h2 h3; exact xg_none
  | succ n ih => intro σ x1 x2 x3 h1 h2 h3; exact w_X11_isNamed_b4 hC hQ hI ih σ x1 x2 x3 h1 h2 h3
theorem w_X11_isNamed {Γ : xm_Gm} {I : xm_Mem → Prop} {la : Launch} (hE : I = xm_I) (σ : xm_Mem) (x1 : Int) (h1 : xm_in x1) : ∀ o, f_X11_isNamed σ x1 = some o → xm_M Γ I la yX11_isNamed cX11_isNamed 6 (some .boolean) 1 0 0 [.ref (xm_B Γ + 84), .int (xm_J x1)] σ 2 o := by
  refine xg_enter (by decide) (by simp [lg_sl, xm_rf_cat, xm_cati, xm_catr, xm_catl]) (fun X hG hI0 hla hC hQ hname => ?_)
  subst hG
  have hI := hI0.trans hE
  clear hI0 hla
  unfold f_X11_isNamed
  refine xg_pick [0, 1] (l' := [(0, .ref (xm_B (xx_G X) + 84)), (1, .int (xm_J x1))]) rfl ?_
  refine xg_iconst hC dX11_isNamed_0 ?_
  refine xg_istore_n hC (l' := [(2, .int (xm_J (0 : Int))), (0, .ref (xm_B (xx_G X) + 84)), (1, .int (xm_J x1))]) dX11_isNamed_1 (by decide) rfl ?_
  refine xg_iconst hC dX11_isNamed_2 ?_
  refine xg_istore_n hC (l' := [(3, .int (xm_J (0 : Int))), (2, .int (xm_J (0 : Int))), (0, .ref (xm_B (xx_G X) + 84)), (1, .int (xm_J x1))]) dX11_isNamed_3 (by decide) rfl ?_
  exact xg_pick [2, 3, 1, 0] rfl (w_X11_isNamed_l4 hC hQ hI _ σ x1 (0 : Int) (0 : Int) h1 (by decide) (xm_inc _ rfl))
theorem w_X11_strike {Γ : xm_Gm} {I : xm_Mem → Prop} {la : Launch} (hE : I = xm_I) (σ : xm_Mem) (x1 : Int) (h1 : xm_in x1) : ∀ o, f_X11_strike σ x1 = some o → xm_M Γ I la yX11_strike cX11_strike 2 (some .int) 6 0 0 [.ref (xm_B Γ + 84), .int (xm_J x1)] σ 1 o := by
  refine xg_enter (by decide) (by simp [lg_sl, xm_rf_cat, xm_cati, xm_catr, xm_catl]) (fun X hG hI0 hla hC hQ hname => ?_)
  subst hG
  have hI := hI0.trans hE
  clear hI0 hla
  unfold f_X11_strike
  refine xg_pick [0, 1] (l' := [(0, .ref (xm_B (xx_G X) + 84)), (1, .int (xm_J x1))]) rfl ?_
  refine xg_aload_n hC dX11_strike_0 rfl ?_
  refine xg_iconst hC dX11_strike_1 ?_
  refine xg_putI hC (xm_hK hI rfl) rfl rfl (xm_inc _ rfl) (xm_kpK hI rfl) xl_F_X11_377 dX11_strike_2 ?_
  refine xg_st (fun σ1 => ?_)
  refine xg_iload_n hC dX11_strike_5 rfl ?_
  refine xg_iconst hC dX11_strike_6 ?_
  refine xg_aload_n hC dX11_strike_7 rfl ?_
  refine xg_getI hC (xm_hK hI rfl) rfl xl_F_X11_40 dX11_strike_8 (fun k2 => ?_)
  refine xg_iconst hC dX11_strike_11 ?_
  refine xg_isub hC dX11_strike_12 ?_
  refine xg_callS hC (w_X11_isIn hI σ1 x1 (0 : Int) (xm_w ((σ1.1 84 5) - (1 : Int))) h1 (xm_inc _ rfl) (xm_w_in _)) xl_M_X11_10 xl_S_X11_isIn (by decide) ⟨by decide, by decide⟩ dX11_strike_13 (rest := []) rfl rfl (Nat.le_of_ble_eq_true rfl) rfl rfl (st2 := fun o => .int (xm_J o.2) :: []) (fun _ => rfl) (fun o3 k4 => ?_)
  refine xg_if_ne hC (xm_in01 k4) 25 dX11_strike_16 rfl (fun c5 => ?_) (fun c6 => ?_)
  · refine xg_aload_n hC dX11_strike_19 rfl ?_
    refine xg_iconst hC dX11_strike_20 ?_
    refine xg_callV hC (ci := 10) (w_X11_no hI o3.1 (1 : Int) (xm_inc _ rfl)) xl_M_X11_371 xl_V_X11_no (xm_hK (a := 84) (kd := 0) (n := 10) hI rfl).2 ((xm_hK (a := 84) (kd := 0) (n := 10) hI rfl).1 _) (by decide) rfl (by decide) ⟨by decide, by decide⟩ dX11_strike_21 (rest := []) rfl rfl (Nat.le_of_ble_eq_true rfl) rfl rfl (st2 := fun o => .int (xm_J o.2) :: []) (fun _ => rfl) (fun o7 k8 => ?_)
    exact xg_iret hC hQ k8 dX11_strike_24
  refine xg_aload_n hC dX11_strike_25 rfl ?_
  refine xg_getW hC (b := 92) (xm_hK hI rfl) rfl (xm_wK hI rfl) (by decide) xl_F_X11_14 dX11_strike_26 ?_
  refine xg_iload_n hC dX11_strike_29 rfl ?_
  refine xg_zald hC (xm_hK hI rfl) rfl h1 dX11_strike_30 (fun b9 k10 => ?_)
  refine xg_if_ne hC (xm_in01 k10) 41 dX11_strike_31 rfl (fun c11 => ?_) (fun c12 => ?_)
  · refine xg_aload_n hC dX11_strike_34 rfl ?_
    refine xg_bipush hC dX11_strike_35 (by decide) ?_
    refine xg_callV hC (ci := 10) (w_X11_no hI o3.1 (8 : Int) (xm_inc _ rfl)) xl_M_X11_371 xl_V_X11_no (xm_hK (a := 84) (kd := 0) (n := 10) hI rfl).2 ((xm_hK (a := 84) (kd := 0) (n := 10) hI rfl).1 _) (by decide) rfl (by decide) ⟨by decide, by decide⟩ dX11_strike_37 (rest := []) rfl rfl (Nat.le_of_ble_eq_true rfl) rfl rfl (st2 := fun o => .int (xm_J o.2) :: []) (fun _ => rfl) (fun o13 k14 => ?_)
    exact xg_iret hC hQ k14 dX11_strike_40
  refine xg_aload_n hC dX11_strike_41 rfl ?_
  refine xg_iload_n hC dX11_strike_42 rfl ?_
  refine xg_callV hC (ci := 10) (w_X11_isNamed hI o3.1 x1 h1) xl_M_X11_396 xl_V_X11_isNamed (xm_hK (a := 84) (kd := 0) (n := 10) hI rfl).2 ((xm_hK (a := 84) (kd := 0) (n := 10) hI rfl).1 _) (by decide) rfl (by decide) ⟨by decide, by decide⟩ dX11_strike_43 (rest := []) rfl rfl (Nat.le_of_ble_eq_true rfl) rfl rfl (st2 := fun o => .int (xm_J o.2) :: []) (fun _ => rfl) (fun o15 k16 => ?_)
  refine xg_if_eq hC (xm_in01 k16) 56 dX11_strike_46 rfl (fun c17 => ?_) (fun c18 => ?_)
  · refine xg_aload_n hC dX11_strike_56 rfl ?_
    refine xg_getW hC (b := 92) (xm_hK hI rfl) rfl (xm_wK hI rfl) (by decide) xl_F_X11_14 dX11_strike_57 ?_
    refine xg_iload_n hC dX11_strike_60 rfl ?_
    refine xg_iconst hC dX11_strike_61 ?_
    refine xg_zast hC (xm_hK hI rfl) rfl h1 (by decide) (xm_kpF hI rfl) dX11_strike_62 ?_
    refine xg_st (fun σ19 => ?_)
    refine xg_aload_n hC dX11_strike_63 rfl ?_
    refine xg_aload_n hC dX11_strike_64 rfl ?_
    refine xg_callV hC (ci := 10) (w_X11_broken hI σ19 ) xl_M_X11_387 xl_V_X11_broken (xm_hK (a := 84) (kd := 0) (n := 10) hI rfl).2 ((xm_hK (a := 84) (kd := 0) (n := 10) hI rfl).1 _) (by decide) rfl (by decide) ⟨by decide, by decide⟩ dX11_strike_65 (rest := [.ref (xm_B (xx_G X) + 84)]) rfl rfl (Nat.le_of_ble_eq_true rfl) rfl rfl (st2 := fun o => .int (xm_J o.2) :: [.ref (xm_B (xx_G X) + 84)]) (fun _ => rfl) (fun o20 k21 => ?_)
    refine xg_putI hC (xm_hK hI rfl) rfl rfl k21 (xm_kpK hI rfl) xl_F_X11_377 dX11_strike_68 ?_
    refine xg_st (fun σ22 => ?_)
    refine xg_aload_n hC dX11_strike_71 rfl ?_
    refine xg_getI hC (xm_hK hI rfl) rfl xl_F_X11_377 dX11_strike_72 (fun k23 => ?_)
    refine xg_if_le hC k23 91 dX11_strike_75 rfl (fun c24 => ?_) (fun c25 => ?_)
    · refine xg_aload_n hC dX11_strike_78 rfl ?_
      refine xg_getW hC (b := 92) (xm_hK hI rfl) rfl (xm_wK hI rfl) (by decide) xl_F_X11_14 dX11_strike_79 ?_
      refine xg_iload_n hC dX11_strike_82 rfl ?_
      refine xg_iconst hC dX11_strike_83 ?_
      refine xg_zast hC (xm_hK hI rfl) rfl h1 (by decide) (xm_kpF hI rfl) dX11_strike_84 ?_
      refine xg_st (fun σ26 => ?_)
      refine xg_aload_n hC dX11_strike_85 rfl ?_
      refine xg_iconst hC dX11_strike_86 ?_
      refine xg_callV hC (ci := 10) (w_X11_no hI σ26 (5 : Int) (xm_inc _ rfl)) xl_M_X11_371 xl_V_X11_no (xm_hK (a := 84) (kd := 0) (n := 10) hI rfl).2 ((xm_hK (a := 84) (kd := 0) (n := 10) hI rfl).1 _) (by decide) rfl (by decide) ⟨by decide, by decide⟩ dX11_strike_87 (rest := []) rfl rfl (Nat.le_of_ble_eq_true rfl) rfl rfl (st2 := fun o => .int (xm_J o.2) :: []) (fun _ => rfl) (fun o27 k28 => ?_)
      exact xg_iret hC hQ k28 dX11_strike_90
    refine xg_aload_n hC dX11_strike_91 rfl ?_
    refine xg_dup hC dX11_strike_92 rfl ?_
    refine xg_getI hC (xm_hK hI rfl) rfl xl_F_X11_390 dX11_strike_93 (fun k29 => ?_)
    refine xg_iconst hC dX11_strike_96 ?_
    refine xg_isub hC dX11_strike_97 ?_
    refine xg_putI hC (xm_hK hI rfl) rfl rfl (xm_w_in _) (xm_kpK hI rfl) xl_F_X11_390 dX11_strike_98 ?_
    refine xg_st (fun σ30 => ?_)
    refine xg_aload_n hC dX11_strike_101 rfl ?_
    refine xg_callV hC (ci := 10) (w_X11_changed hI σ30 ) xl_M_X11_393 xl_V_X11_changed (xm_hK (a := 84) (kd := 0) (n := 10) hI rfl).2 ((xm_hK (a := 84) (kd := 0) (n := 10) hI rfl).1 _) (by decide) rfl (by decide) ⟨by decide, by decide⟩ dX11_strike_102 (rest := []) rfl rfl (Nat.le_of_ble_eq_true rfl) rfl rfl (st2 := fun o => []) (fun _ => rfl) (fun o31 k32 => ?_)
    refine xg_aload_n hC dX11_strike_105 rfl ?_
    refine xg_aload_n hC dX11_strike_106 rfl ?_
    refine xg_getI hC (xm_hK hI rfl) rfl xl_F_X11_390 dX11_strike_107 (fun k33 => ?_)
    refine xg_callV hC (ci := 10) (w_X11_fine hI o31.1 (o31.1.1 84 6) k33) xl_M_X11_374 xl_V_X11_fine (xm_hK (a := 84) (kd := 0) (n := 10) hI rfl).2 ((xm_hK (a := 84) (kd := 0) (n := 10) hI rfl).1 _) (by decide) rfl (by decide) ⟨by decide, by decide⟩ dX11_strike_110 (rest := []) rfl rfl (Nat.le_of_ble_eq_true rfl) rfl rfl (st2 := fun o => .int (xm_J o.2) :: []) (fun _ => rfl) (fun o34 k35 => ?_)
    exact xg_iret hC hQ k35 dX11_strike_113
  refine xg_aload_n hC dX11_strike_49 rfl ?_
  refine xg_bipush hC dX11_strike_50 (by decide) ?_
  refine xg_callV hC (ci := 10) (w_X11_no hI o15.1 (6 : Int) (xm_inc _ rfl)) xl_M_X11_371 xl_V_X11_no (xm_hK (a := 84) (kd := 0) (n := 10) hI rfl).2 ((xm_hK (a := 84) (kd := 0) (n := 10) hI rfl).1 _) (by decide) rfl (by decide) ⟨by decide, by decide⟩ dX11_strike_52 (rest := []) rfl rfl (Nat.le_of_ble_eq_true rfl) rfl rfl (st2 := fun o => .int (xm_J o.2) :: []) (fun _ => rfl) (fun o36 k37 => ?_)
  exact xg_iret hC hQ k37 dX11_strike_55
theorem w_X11_count {Γ : xm_Gm} {I : xm_Mem → Prop} {la : Launch} (hE : I = xm_I) (σ : xm_Mem) (x1 : Int) (h1 : xm_in x1) : ∀ o, f_X11_count σ x1 = some o → xm_M Γ I la yX11_count cX11_count 2 (some .int) 2 0 0 [.ref (xm_B Γ + 84), .int (xm_J x1)] σ 1 o := by
  refine xg_enter (by decide) (by simp [lg_sl, xm_rf_cat, xm_cati, xm_catr, xm_catl]) (fun X hG hI0 hla hC hQ hname => ?_)
  subst hG
  have hI := hI0.trans hE
  clear hI0 hla
  unfold f_X11_count
  refine xg_pick [0, 1] (l' := [(0, .ref (xm_B (xx_G X) + 84)), (1, .int (xm_J x1))]) rfl ?_
  refine xg_iload_n hC dX11_count_0 rfl ?_
  refine xg_ite (fun e1 => xg_tswIn hC 0 36 e1 dX11_count_1 (xm_inc _ rfl) (by decide) (by decide) rfl rfl ?_) (fun n2 => ?_)
  · refine xg_aload_n hC dX11_count_36 rfl ?_
    refine xg_aload_n hC dX11_count_37 rfl ?_
    refine xg_getI hC (xm_hK hI rfl) rfl xl_F_X11_40 dX11_count_38 (fun k3 => ?_)
    refine xg_callV hC (ci := 10) (w_X11_fine hI σ (σ.1 84 5) k3) xl_M_X11_374 xl_V_X11_fine (xm_hK (a := 84) (kd := 0) (n := 10) hI rfl).2 ((xm_hK (a := 84) (kd := 0) (n := 10) hI rfl).1 _) (by decide) rfl (by decide) ⟨by decide, by decide⟩ dX11_count_41 (rest := []) rfl rfl (Nat.le_of_ble_eq_true rfl) rfl rfl (st2 := fun o => .int (xm_J o.2) :: []) (fun _ => rfl) (fun o4 k5 => ?_)
    exact xg_iret hC hQ k5 dX11_count_44
  refine xg_ite (fun e6 => xg_tswIn hC 1 45 e6 dX11_count_1 (xm_inc _ rfl) (by decide) (by decide) rfl rfl ?_) (fun n7 => ?_)
  · refine xg_aload_n hC dX11_count_45 rfl ?_
    refine xg_aload_n hC dX11_count_46 rfl ?_
    refine xg_getI hC (xm_hK hI rfl) rfl xl_F_X11_390 dX11_count_47 (fun k8 => ?_)
    refine xg_callV hC (ci := 10) (w_X11_fine hI σ (σ.1 84 6) k8) xl_M_X11_374 xl_V_X11_fine (xm_hK (a := 84) (kd := 0) (n := 10) hI rfl).2 ((xm_hK (a := 84) (kd := 0) (n := 10) hI rfl).1 _) (by decide) rfl (by decide) ⟨by decide, by decide⟩ dX11_count_50 (rest := []) rfl rfl (Nat.le_of_ble_eq_true rfl) rfl rfl (st2 := fun o => .int (xm_J o.2) :: []) (fun _ => rfl) (fun o9 k10 => ?_)
    exact xg_iret hC hQ k10 dX11_count_53
  refine xg_ite (fun e11 => xg_tswIn hC 2 54 e11 dX11_count_1 (xm_inc _ rfl) (by decide) (by decide) rfl rfl ?_) (fun n12 => ?_)
  · refine xg_aload_n hC dX11_count_54 rfl ?_
    refine xg_aload_n hC dX11_count_55 rfl ?_
    refine xg_getI hC (xm_hK hI rfl) rfl xl_F_X11_7 dX11_count_56 (fun k13 => ?_)
    refine xg_callV hC (ci := 10) (w_X11_fine hI σ (σ.1 84 14) k13) xl_M_X11_374 xl_V_X11_fine (xm_hK (a := 84) (kd := 0) (n := 10) hI rfl).2 ((xm_hK (a := 84) (kd := 0) (n := 10) hI rfl).1 _) (by decide) rfl (by decide) ⟨by decide, by decide⟩ dX11_count_59 (rest := []) rfl rfl (Nat.le_of_ble_eq_true rfl) rfl rfl (st2 := fun o => .int (xm_J o.2) :: []) (fun _ => rfl) (fun o14 k15 => ?_)
    exact xg_iret hC hQ k15 dX11_count_62
  refine xg_ite (fun e16 => xg_tswIn hC 3 63 e16 dX11_count_1 (xm_inc _ rfl) (by decide) (by decide) rfl rfl ?_) (fun n17 => ?_)
  · refine xg_aload_n hC dX11_count_63 rfl ?_
    refine xg_aload_n hC dX11_count_64 rfl ?_
    refine xg_getI hC (xm_hK hI rfl) rfl xl_F_X11_22 dX11_count_65 (fun k18 => ?_)
    refine xg_callV hC (ci := 10) (w_X11_fine hI σ (σ.1 84 15) k18) xl_M_X11_374 xl_V_X11_fine (xm_hK (a := 84) (kd := 0) (n := 10) hI rfl).2 ((xm_hK (a := 84) (kd := 0) (n := 10) hI rfl).1 _) (by decide) rfl (by decide) ⟨by decide, by decide⟩ dX11_count_68 (rest := []) rfl rfl (Nat.le_of_ble_eq_true rfl) rfl rfl (st2 := fun o => .int (xm_J o.2) :: []) (fun _ => rfl) (fun o19 k20 => ?_)
    exact xg_iret hC hQ k20 dX11_count_71
  refine xg_ite (fun e21 => xg_tswIn hC 4 72 e21 dX11_count_1 (xm_inc _ rfl) (by decide) (by decide) rfl rfl ?_) (fun n22 => ?_)
  · refine xg_aload_n hC dX11_count_72 rfl ?_
    refine xg_aload_n hC dX11_count_73 rfl ?_
    refine xg_getI hC (xm_hK hI rfl) rfl xl_F_X11_268 dX11_count_74 (fun k23 => ?_)
    refine xg_callV hC (ci := 10) (w_X11_fine hI σ (σ.1 84 1) k23) xl_M_X11_374 xl_V_X11_fine (xm_hK (a := 84) (kd := 0) (n := 10) hI rfl).2 ((xm_hK (a := 84) (kd := 0) (n := 10) hI rfl).1 _) (by decide) rfl (by decide) ⟨by decide, by decide⟩ dX11_count_77 (rest := []) rfl rfl (Nat.le_of_ble_eq_true rfl) rfl rfl (st2 := fun o => .int (xm_J o.2) :: []) (fun _ => rfl) (fun o24 k25 => ?_)
    exact xg_iret hC hQ k25 dX11_count_80
  refine xg_tswOut hC 81 dX11_count_1 h1 (by omega) rfl ?_
  refine xg_aload_n hC dX11_count_81 rfl ?_
  refine xg_iconst hC dX11_count_82 ?_
  refine xg_callV hC (ci := 10) (w_X11_no hI σ (3 : Int) (xm_inc _ rfl)) xl_M_X11_371 xl_V_X11_no (xm_hK (a := 84) (kd := 0) (n := 10) hI rfl).2 ((xm_hK (a := 84) (kd := 0) (n := 10) hI rfl).1 _) (by decide) rfl (by decide) ⟨by decide, by decide⟩ dX11_count_83 (rest := []) rfl rfl (Nat.le_of_ble_eq_true rfl) rfl rfl (st2 := fun o => .int (xm_J o.2) :: []) (fun _ => rfl) (fun o26 k27 => ?_)
  exact xg_iret hC hQ k27 dX11_count_86
theorem w_X11_fact {Γ : xm_Gm} {I : xm_Mem → Prop} {la : Launch} (hE : I = xm_I) (σ : xm_Mem) (x1 : Int) (x2 : Int) (h1 : xm_in x1) (h2 : xm_in x2) : ∀ o, f_X11_fact σ x1 x2 = some o → xm_M Γ I la yX11_fact cX11_fact 4 (some .int) 2 0 0 [.ref (xm_B Γ + 84), .int (xm_J x1), .int (xm_J x2)] σ 1 o := by
  refine xg_enter (by decide) (by simp [lg_sl, xm_rf_cat, xm_cati, xm_catr, xm_catl]) (fun X hG hI0 hla hC hQ hname => ?_)
  subst hG
  have hI := hI0.trans hE
  clear hI0 hla
  unfold f_X11_fact
  refine xg_pick [0, 1, 2] (l' := [(0, .ref (xm_B (xx_G X) + 84)), (1, .int (xm_J x1)), (2, .int (xm_J x2))]) rfl ?_
  refine xg_iload_n hC dX11_fact_0 rfl ?_
  refine xg_iconst hC dX11_fact_1 ?_
  refine xg_aload_n hC dX11_fact_2 rfl ?_
  refine xg_getI hC (xm_hK hI rfl) rfl xl_F_X11_40 dX11_fact_3 (fun k1 => ?_)
  refine xg_iconst hC dX11_fact_6 ?_
  refine xg_isub hC dX11_fact_7 ?_
  refine xg_callS hC (w_X11_isIn hI σ x1 (0 : Int) (xm_w ((σ.1 84 5) - (1 : Int))) h1 (xm_inc _ rfl) (xm_w_in _)) xl_M_X11_10 xl_S_X11_isIn (by decide) ⟨by decide, by decide⟩ dX11_fact_8 (rest := []) rfl rfl (Nat.le_of_ble_eq_true rfl) rfl rfl (st2 := fun o => .int (xm_J o.2) :: []) (fun _ => rfl) (fun o2 k3 => ?_)
  refine xg_if_ne hC (xm_in01 k3) 20 dX11_fact_11 rfl (fun c4 => ?_) (fun c5 => ?_)
  · refine xg_aload_n hC dX11_fact_14 rfl ?_
    refine xg_iconst hC dX11_fact_15 ?_
    refine xg_callV hC (ci := 10) (w_X11_no hI o2.1 (1 : Int) (xm_inc _ rfl)) xl_M_X11_371 xl_V_X11_no (xm_hK (a := 84) (kd := 0) (n := 10) hI rfl).2 ((xm_hK (a := 84) (kd := 0) (n := 10) hI rfl).1 _) (by decide) rfl (by decide) ⟨by decide, by decide⟩ dX11_fact_16 (rest := []) rfl rfl (Nat.le_of_ble_eq_true rfl) rfl rfl (st2 := fun o => .int (xm_J o.2) :: []) (fun _ => rfl) (fun o6 k7 => ?_)
    exact xg_iret hC hQ k7 dX11_fact_19
  refine xg_aload_n hC dX11_fact_20 rfl ?_
  refine xg_getW hC (b := 86) (xm_hK hI rfl) rfl (xm_wK hI rfl) (by decide) xl_F_X11_43 dX11_fact_21 ?_
  refine xg_iload_n hC dX11_fact_24 rfl ?_
  refine xg_iald hC (xm_hK hI rfl) rfl h1 dX11_fact_25 (fun b8 k9 => ?_)
  refine xg_vI k9 (fun v10 k11 => ?_)
  refine xg_istore_n hC (l' := [(3, .int (xm_J v10)), (0, .ref (xm_B (xx_G X) + 84)), (1, .int (xm_J x1)), (2, .int (xm_J x2))]) dX11_fact_26 (by decide) rfl ?_
  refine xg_iload_n hC dX11_fact_27 rfl ?_
  refine xg_ite (fun e12 => xg_tswIn hC 0 64 e12 dX11_fact_28 (xm_inc _ rfl) (by decide) (by decide) rfl rfl ?_) (fun n13 => ?_)
  · refine xg_aload_n hC dX11_fact_64 rfl ?_
    refine xg_iload_n hC dX11_fact_65 rfl ?_
    refine xg_callV hC (ci := 10) (w_X11_fine hI o2.1 v10 k11) xl_M_X11_374 xl_V_X11_fine (xm_hK (a := 84) (kd := 0) (n := 10) hI rfl).2 ((xm_hK (a := 84) (kd := 0) (n := 10) hI rfl).1 _) (by decide) rfl (by decide) ⟨by decide, by decide⟩ dX11_fact_66 (rest := []) rfl rfl (Nat.le_of_ble_eq_true rfl) rfl rfl (st2 := fun o => .int (xm_J o.2) :: []) (fun _ => rfl) (fun o14 k15 => ?_)
    exact xg_iret hC hQ k15 dX11_fact_69
  refine xg_ite (fun e16 => xg_tswIn hC 1 70 e16 dX11_fact_28 (xm_inc _ rfl) (by decide) (by decide) rfl rfl ?_) (fun n17 => ?_)
  · refine xg_aload_n hC dX11_fact_70 rfl ?_
    refine xg_aload_n hC dX11_fact_71 rfl ?_
    refine xg_getW hC (b := 87) (xm_hK hI rfl) rfl (xm_wK hI rfl) (by decide) xl_F_X11_31 dX11_fact_72 ?_
    refine xg_iload_n hC dX11_fact_75 rfl ?_
    refine xg_iald hC (xm_hK hI rfl) rfl h1 dX11_fact_76 (fun b18 k19 => ?_)
    refine xg_callV hC (ci := 10) (w_X11_fine hI o2.1 (o2.1.1 87 x1.toNat) k19) xl_M_X11_374 xl_V_X11_fine (xm_hK (a := 84) (kd := 0) (n := 10) hI rfl).2 ((xm_hK (a := 84) (kd := 0) (n := 10) hI rfl).1 _) (by decide) rfl (by decide) ⟨by decide, by decide⟩ dX11_fact_77 (rest := []) rfl rfl (Nat.le_of_ble_eq_true rfl) rfl rfl (st2 := fun o => .int (xm_J o.2) :: []) (fun _ => rfl) (fun o20 k21 => ?_)
    exact xg_iret hC hQ k21 dX11_fact_80
  refine xg_ite (fun e22 => xg_tswIn hC 2 81 e22 dX11_fact_28 (xm_inc _ rfl) (by decide) (by decide) rfl rfl ?_) (fun n23 => ?_)
  · refine xg_aload_n hC dX11_fact_81 rfl ?_
    refine xg_aload_n hC dX11_fact_82 rfl ?_
    refine xg_getW hC (b := 92) (xm_hK hI rfl) rfl (xm_wK hI rfl) (by decide) xl_F_X11_14 dX11_fact_83 ?_
    refine xg_iload_n hC dX11_fact_86 rfl ?_
    refine xg_zald hC (xm_hK hI rfl) rfl h1 dX11_fact_87 (fun b24 k25 => ?_)
    refine xg_if_eq hC (xm_in01 k25) 95 dX11_fact_88 rfl (fun c26 => ?_) (fun c27 => ?_)
    · refine xg_iconst hC dX11_fact_95 ?_
      refine xg_callV hC (ci := 10) (w_X11_fine hI o2.1 (0 : Int) (xm_inc _ rfl)) xl_M_X11_374 xl_V_X11_fine (xm_hK (a := 84) (kd := 0) (n := 10) hI rfl).2 ((xm_hK (a := 84) (kd := 0) (n := 10) hI rfl).1 _) (by decide) rfl (by decide) ⟨by decide, by decide⟩ dX11_fact_96 (rest := []) rfl rfl (Nat.le_of_ble_eq_true rfl) rfl rfl (st2 := fun o => .int (xm_J o.2) :: []) (fun _ => rfl) (fun o28 k29 => ?_)
      exact xg_iret hC hQ k29 dX11_fact_99
    refine xg_iconst hC dX11_fact_91 ?_
    refine xg_goto hC 96 dX11_fact_92 rfl ?_
    refine xg_callV hC (ci := 10) (w_X11_fine hI o2.1 (1 : Int) (xm_inc _ rfl)) xl_M_X11_374 xl_V_X11_fine (xm_hK (a := 84) (kd := 0) (n := 10) hI rfl).2 ((xm_hK (a := 84) (kd := 0) (n := 10) hI rfl).1 _) (by decide) rfl (by decide) ⟨by decide, by decide⟩ dX11_fact_96 (rest := []) rfl rfl (Nat.le_of_ble_eq_true rfl) rfl rfl (st2 := fun o => .int (xm_J o.2) :: []) (fun _ => rfl) (fun o30 k31 => ?_)
    exact xg_iret hC hQ k31 dX11_fact_99
  refine xg_ite (fun e32 => xg_tswIn hC 3 100 e32 dX11_fact_28 (xm_inc _ rfl) (by decide) (by decide) rfl rfl ?_) (fun n33 => ?_)
  · refine xg_aload_n hC dX11_fact_100 rfl ?_
    refine xg_aload_n hC dX11_fact_101 rfl ?_
    refine xg_getW hC (b := 88) (xm_hK hI rfl) rfl (xm_wK hI rfl) (by decide) xl_F_X11_46 dX11_fact_102 ?_
    refine xg_iload_n hC dX11_fact_105 rfl ?_
    refine xg_iald hC (xm_hK hI rfl) rfl h1 dX11_fact_106 (fun b34 k35 => ?_)
    refine xg_callV hC (ci := 10) (w_X11_fine hI o2.1 (o2.1.1 88 x1.toNat) k35) xl_M_X11_374 xl_V_X11_fine (xm_hK (a := 84) (kd := 0) (n := 10) hI rfl).2 ((xm_hK (a := 84) (kd := 0) (n := 10) hI rfl).1 _) (by decide) rfl (by decide) ⟨by decide, by decide⟩ dX11_fact_107 (rest := []) rfl rfl (Nat.le_of_ble_eq_true rfl) rfl rfl (st2 := fun o => .int (xm_J o.2) :: []) (fun _ => rfl) (fun o36 k37 => ?_)
    exact xg_iret hC hQ k37 dX11_fact_110
  refine xg_ite (fun e38 => xg_tswIn hC 4 111 e38 dX11_fact_28 (xm_inc _ rfl) (by decide) (by decide) rfl rfl ?_) (fun n39 => ?_)
  · refine xg_aload_n hC dX11_fact_111 rfl ?_
    refine xg_iload_n hC dX11_fact_112 rfl ?_
    refine xg_if_eq hC k11 121 dX11_fact_113 rfl (fun c40 => ?_) (fun c41 => ?_)
    · refine xg_iconst hC dX11_fact_121 ?_
      refine xg_goto hC 131 dX11_fact_122 rfl ?_
      refine xg_callV hC (ci := 10) (w_X11_fine hI o2.1 (-1 : Int) (xm_inc _ rfl)) xl_M_X11_374 xl_V_X11_fine (xm_hK (a := 84) (kd := 0) (n := 10) hI rfl).2 ((xm_hK (a := 84) (kd := 0) (n := 10) hI rfl).1 _) (by decide) rfl (by decide) ⟨by decide, by decide⟩ dX11_fact_131 (rest := []) rfl rfl (Nat.le_of_ble_eq_true rfl) rfl rfl (st2 := fun o => .int (xm_J o.2) :: []) (fun _ => rfl) (fun o42 k43 => ?_)
      exact xg_iret hC hQ k43 dX11_fact_134
    refine xg_iload_n hC dX11_fact_116 rfl ?_
    refine xg_iconst hC dX11_fact_117 ?_
    refine xg_icmp_ne hC k11 (xm_inc _ rfl) 125 dX11_fact_118 rfl (fun c44 => ?_) (fun c45 => ?_)
    · refine xg_iconst hC dX11_fact_121 ?_
      refine xg_goto hC 131 dX11_fact_122 rfl ?_
      refine xg_callV hC (ci := 10) (w_X11_fine hI o2.1 (-1 : Int) (xm_inc _ rfl)) xl_M_X11_374 xl_V_X11_fine (xm_hK (a := 84) (kd := 0) (n := 10) hI rfl).2 ((xm_hK (a := 84) (kd := 0) (n := 10) hI rfl).1 _) (by decide) rfl (by decide) ⟨by decide, by decide⟩ dX11_fact_131 (rest := []) rfl rfl (Nat.le_of_ble_eq_true rfl) rfl rfl (st2 := fun o => .int (xm_J o.2) :: []) (fun _ => rfl) (fun o46 k47 => ?_)
      exact xg_iret hC hQ k47 dX11_fact_134
    refine xg_aload_n hC dX11_fact_125 rfl ?_
    refine xg_getW hC (b := 89) (xm_hK hI rfl) rfl (xm_wK hI rfl) (by decide) xl_F_X11_34 dX11_fact_126 ?_
    refine xg_iload_n hC dX11_fact_129 rfl ?_
    refine xg_iald hC (xm_hK hI rfl) rfl h1 dX11_fact_130 (fun b48 k49 => ?_)
    refine xg_callV hC (ci := 10) (w_X11_fine hI o2.1 (o2.1.1 89 x1.toNat) k49) xl_M_X11_374 xl_V_X11_fine (xm_hK (a := 84) (kd := 0) (n := 10) hI rfl).2 ((xm_hK (a := 84) (kd := 0) (n := 10) hI rfl).1 _) (by decide) rfl (by decide) ⟨by decide, by decide⟩ dX11_fact_131 (rest := []) rfl rfl (Nat.le_of_ble_eq_true rfl) rfl rfl (st2 := fun o => .int (xm_J o.2) :: []) (fun _ => rfl) (fun o50 k51 => ?_)
    exact xg_iret hC hQ k51 dX11_fact_134
  refine xg_tswOut hC 135 dX11_fact_28 h2 (by omega) rfl ?_
  refine xg_aload_n hC dX11_fact_135 rfl ?_
  refine xg_iconst hC dX11_fact_136 ?_
  refine xg_callV hC (ci := 10) (w_X11_no hI o2.1 (3 : Int) (xm_inc _ rfl)) xl_M_X11_371 xl_V_X11_no (xm_hK (a := 84) (kd := 0) (n := 10) hI rfl).2 ((xm_hK (a := 84) (kd := 0) (n := 10) hI rfl).1 _) (by decide) rfl (by decide) ⟨by decide, by decide⟩ dX11_fact_137 (rest := []) rfl rfl (Nat.le_of_ble_eq_true rfl) rfl rfl (st2 := fun o => .int (xm_J o.2) :: []) (fun _ => rfl) (fun o52 k53 => ?_)
  exact xg_iret hC hQ k53 dX11_fact_140
theorem w_X11_person {Γ : xm_Gm} {I : xm_Mem → Prop} {la : Launch} (hE : I = xm_I) (σ : xm_Mem) (x1 : Int) (x2 : Int) (h1 : xm_in x1) (h2 : xm_in x2) : ∀ o, f_X11_person σ x1 x2 = some o → xm_M Γ I la yX11_person cX11_person 3 (some .int) 7 0 0 [.ref (xm_B Γ + 84), .int (xm_J x1), .int (xm_J x2)] σ 1 o := by
  refine xg_enter (by decide) (by simp [lg_sl, xm_rf_cat, xm_cati, xm_catr, xm_catl]) (fun X hG hI0 hla hC hQ hname => ?_)
  subst hG
  have hI := hI0.trans hE
  clear hI0 hla
  unfold f_X11_person
  refine xg_pick [0, 1, 2] (l' := [(0, .ref (xm_B (xx_G X) + 84)), (1, .int (xm_J x1)), (2, .int (xm_J x2))]) rfl ?_
  refine xg_aload_n hC dX11_person_0 rfl ?_
  refine xg_iload_n hC dX11_person_1 rfl ?_
  refine xg_callV hC (ci := 10) (w_X11_isPerson hI σ x1 h1) xl_M_X11_123 xl_V_X11_isPerson (xm_hK (a := 84) (kd := 0) (n := 10) hI rfl).2 ((xm_hK (a := 84) (kd := 0) (n := 10) hI rfl).1 _) (by decide) rfl (by decide) ⟨by decide, by decide⟩ dX11_person_2 (rest := []) rfl rfl (Nat.le_of_ble_eq_true rfl) rfl rfl (st2 := fun o => .int (xm_J o.2) :: []) (fun _ => rfl) (fun o1 k2 => ?_)
  refine xg_if_ne hC (xm_in01 k2) 14 dX11_person_5 rfl (fun c3 => ?_) (fun c4 => ?_)
  · refine xg_aload_n hC dX11_person_8 rfl ?_
    refine xg_iconst hC dX11_person_9 ?_
    refine xg_callV hC (ci := 10) (w_X11_no hI o1.1 (1 : Int) (xm_inc _ rfl)) xl_M_X11_371 xl_V_X11_no (xm_hK (a := 84) (kd := 0) (n := 10) hI rfl).2 ((xm_hK (a := 84) (kd := 0) (n := 10) hI rfl).1 _) (by decide) rfl (by decide) ⟨by decide, by decide⟩ dX11_person_10 (rest := []) rfl rfl (Nat.le_of_ble_eq_true rfl) rfl rfl (st2 := fun o => .int (xm_J o.2) :: []) (fun _ => rfl) (fun o5 k6 => ?_)
    exact xg_iret hC hQ k6 dX11_person_13
  refine xg_aload_n hC dX11_person_14 rfl ?_
  refine xg_callV hC (ci := 10) (w_X11_reckon hI o1.1 ) xl_M_X11_179 xl_V_X11_reckon (xm_hK (a := 84) (kd := 0) (n := 10) hI rfl).2 ((xm_hK (a := 84) (kd := 0) (n := 10) hI rfl).1 _) (by decide) rfl (by decide) ⟨by decide, by decide⟩ dX11_person_15 (rest := []) rfl rfl (Nat.le_of_ble_eq_true rfl) rfl rfl (st2 := fun o => []) (fun _ => rfl) (fun o7 k8 => ?_)
  refine xg_iload_n hC dX11_person_18 rfl ?_
  refine xg_ite (fun e9 => xg_tswIn hC 0 56 e9 dX11_person_19 (xm_inc _ rfl) (by decide) (by decide) rfl rfl ?_) (fun n10 => ?_)
  · refine xg_aload_n hC dX11_person_56 rfl ?_
    refine xg_aload_n hC dX11_person_57 rfl ?_
    refine xg_iload_n hC dX11_person_58 rfl ?_
    refine xg_callV hC (ci := 10) (w_X11_isMale hI o7.1 x1 h1) xl_M_X11_85 xl_V_X11_isMale (xm_hK (a := 84) (kd := 0) (n := 10) hI rfl).2 ((xm_hK (a := 84) (kd := 0) (n := 10) hI rfl).1 _) (by decide) rfl (by decide) ⟨by decide, by decide⟩ dX11_person_59 (rest := [.ref (xm_B (xx_G X) + 84)]) rfl rfl (Nat.le_of_ble_eq_true rfl) rfl rfl (st2 := fun o => .int (xm_J o.2) :: [.ref (xm_B (xx_G X) + 84)]) (fun _ => rfl) (fun o11 k12 => ?_)
    refine xg_if_eq hC (xm_in01 k12) 69 dX11_person_62 rfl (fun c13 => ?_) (fun c14 => ?_)
    · refine xg_iconst hC dX11_person_69 ?_
      refine xg_callV hC (ci := 10) (w_X11_fine hI o11.1 (0 : Int) (xm_inc _ rfl)) xl_M_X11_374 xl_V_X11_fine (xm_hK (a := 84) (kd := 0) (n := 10) hI rfl).2 ((xm_hK (a := 84) (kd := 0) (n := 10) hI rfl).1 _) (by decide) rfl (by decide) ⟨by decide, by decide⟩ dX11_person_70 (rest := []) rfl rfl (Nat.le_of_ble_eq_true rfl) rfl rfl (st2 := fun o => .int (xm_J o.2) :: []) (fun _ => rfl) (fun o15 k16 => ?_)
      exact xg_iret hC hQ k16 dX11_person_73
    refine xg_iconst hC dX11_person_65 ?_
    refine xg_goto hC 70 dX11_person_66 rfl ?_
    refine xg_callV hC (ci := 10) (w_X11_fine hI o11.1 (1 : Int) (xm_inc _ rfl)) xl_M_X11_374 xl_V_X11_fine (xm_hK (a := 84) (kd := 0) (n := 10) hI rfl).2 ((xm_hK (a := 84) (kd := 0) (n := 10) hI rfl).1 _) (by decide) rfl (by decide) ⟨by decide, by decide⟩ dX11_person_70 (rest := []) rfl rfl (Nat.le_of_ble_eq_true rfl) rfl rfl (st2 := fun o => .int (xm_J o.2) :: []) (fun _ => rfl) (fun o17 k18 => ?_)
    exact xg_iret hC hQ k18 dX11_person_73
  refine xg_ite (fun e19 => xg_tswIn hC 1 74 e19 dX11_person_19 (xm_inc _ rfl) (by decide) (by decide) rfl rfl ?_) (fun n20 => ?_)
  · refine xg_aload_n hC dX11_person_74 rfl ?_
    refine xg_aload_n hC dX11_person_75 rfl ?_
    refine xg_iload_n hC dX11_person_76 rfl ?_
    refine xg_callV hC (ci := 10) (w_X11_bornOn hI o7.1 x1 h1) xl_M_X11_53 xl_V_X11_bornOn (xm_hK (a := 84) (kd := 0) (n := 10) hI rfl).2 ((xm_hK (a := 84) (kd := 0) (n := 10) hI rfl).1 _) (by decide) rfl (by decide) ⟨by decide, by decide⟩ dX11_person_77 (rest := [.ref (xm_B (xx_G X) + 84)]) rfl rfl (Nat.le_of_ble_eq_true rfl) rfl rfl (st2 := fun o => .int (xm_J o.2) :: [.ref (xm_B (xx_G X) + 84)]) (fun _ => rfl) (fun o21 k22 => ?_)
    refine xg_callV hC (ci := 10) (w_X11_fine hI o21.1 o21.2 k22) xl_M_X11_374 xl_V_X11_fine (xm_hK (a := 84) (kd := 0) (n := 10) hI rfl).2 ((xm_hK (a := 84) (kd := 0) (n := 10) hI rfl).1 _) (by decide) rfl (by decide) ⟨by decide, by decide⟩ dX11_person_80 (rest := []) rfl rfl (Nat.le_of_ble_eq_true rfl) rfl rfl (st2 := fun o => .int (xm_J o.2) :: []) (fun _ => rfl) (fun o23 k24 => ?_)
    exact xg_iret hC hQ k24 dX11_person_83
  refine xg_ite (fun e25 => xg_tswIn hC 2 84 e25 dX11_person_19 (xm_inc _ rfl) (by decide) (by decide) rfl rfl ?_) (fun n26 => ?_)
  · refine xg_aload_n hC dX11_person_84 rfl ?_
    refine xg_aload_n hC dX11_person_85 rfl ?_
    refine xg_iload_n hC dX11_person_86 rfl ?_
    refine xg_callV hC (ci := 10) (w_X11_father hI o7.1 x1 h1) xl_M_X11_76 xl_V_X11_father (xm_hK (a := 84) (kd := 0) (n := 10) hI rfl).2 ((xm_hK (a := 84) (kd := 0) (n := 10) hI rfl).1 _) (by decide) rfl (by decide) ⟨by decide, by decide⟩ dX11_person_87 (rest := [.ref (xm_B (xx_G X) + 84)]) rfl rfl (Nat.le_of_ble_eq_true rfl) rfl rfl (st2 := fun o => .int (xm_J o.2) :: [.ref (xm_B (xx_G X) + 84)]) (fun _ => rfl) (fun o27 k28 => ?_)
    refine xg_callV hC (ci := 10) (w_X11_fine hI o27.1 o27.2 k28) xl_M_X11_374 xl_V_X11_fine (xm_hK (a := 84) (kd := 0) (n := 10) hI rfl).2 ((xm_hK (a := 84) (kd := 0) (n := 10) hI rfl).1 _) (by decide) rfl (by decide) ⟨by decide, by decide⟩ dX11_person_90 (rest := []) rfl rfl (Nat.le_of_ble_eq_true rfl) rfl rfl (st2 := fun o => .int (xm_J o.2) :: []) (fun _ => rfl) (fun o29 k30 => ?_)
    exact xg_iret hC hQ k30 dX11_person_93
  refine xg_ite (fun e31 => xg_tswIn hC 3 94 e31 dX11_person_19 (xm_inc _ rfl) (by decide) (by decide) rfl rfl ?_) (fun n32 => ?_)
  · refine xg_aload_n hC dX11_person_94 rfl ?_
    refine xg_aload_n hC dX11_person_95 rfl ?_
    refine xg_iload_n hC dX11_person_96 rfl ?_
    refine xg_callV hC (ci := 10) (w_X11_mother hI o7.1 x1 h1) xl_M_X11_79 xl_V_X11_mother (xm_hK (a := 84) (kd := 0) (n := 10) hI rfl).2 ((xm_hK (a := 84) (kd := 0) (n := 10) hI rfl).1 _) (by decide) rfl (by decide) ⟨by decide, by decide⟩ dX11_person_97 (rest := [.ref (xm_B (xx_G X) + 84)]) rfl rfl (Nat.le_of_ble_eq_true rfl) rfl rfl (st2 := fun o => .int (xm_J o.2) :: [.ref (xm_B (xx_G X) + 84)]) (fun _ => rfl) (fun o33 k34 => ?_)
    refine xg_callV hC (ci := 10) (w_X11_fine hI o33.1 o33.2 k34) xl_M_X11_374 xl_V_X11_fine (xm_hK (a := 84) (kd := 0) (n := 10) hI rfl).2 ((xm_hK (a := 84) (kd := 0) (n := 10) hI rfl).1 _) (by decide) rfl (by decide) ⟨by decide, by decide⟩ dX11_person_100 (rest := []) rfl rfl (Nat.le_of_ble_eq_true rfl) rfl rfl (st2 := fun o => .int (xm_J o.2) :: []) (fun _ => rfl) (fun o35 k36 => ?_)
    exact xg_iret hC hQ k36 dX11_person_103
  refine xg_ite (fun e37 => xg_tswIn hC 4 104 e37 dX11_person_19 (xm_inc _ rfl) (by decide) (by decide) rfl rfl ?_) (fun n38 => ?_)
  · refine xg_aload_n hC dX11_person_104 rfl ?_
    refine xg_aload_n hC dX11_person_105 rfl ?_
    refine xg_getW hC (b := 99) (xm_hK hI rfl) rfl (xm_wK hI rfl) (by decide) xl_F_X11_56 dX11_person_106 ?_
    refine xg_iload_n hC dX11_person_109 rfl ?_
    refine xg_iald hC (xm_hK hI rfl) rfl h1 dX11_person_110 (fun b39 k40 => ?_)
    refine xg_callV hC (ci := 10) (w_X11_fine hI o7.1 (o7.1.1 99 x1.toNat) k40) xl_M_X11_374 xl_V_X11_fine (xm_hK (a := 84) (kd := 0) (n := 10) hI rfl).2 ((xm_hK (a := 84) (kd := 0) (n := 10) hI rfl).1 _) (by decide) rfl (by decide) ⟨by decide, by decide⟩ dX11_person_111 (rest := []) rfl rfl (Nat.le_of_ble_eq_true rfl) rfl rfl (st2 := fun o => .int (xm_J o.2) :: []) (fun _ => rfl) (fun o41 k42 => ?_)
    exact xg_iret hC hQ k42 dX11_person_114
  refine xg_ite (fun e43 => xg_tswIn hC 5 115 e43 dX11_person_19 (xm_inc _ rfl) (by decide) (by decide) rfl rfl ?_) (fun n44 => ?_)
  · refine xg_aload_n hC dX11_person_115 rfl ?_
    refine xg_aload_n hC dX11_person_116 rfl ?_
    refine xg_getW hC (b := 96) (xm_hK hI rfl) rfl (xm_wK hI rfl) (by decide) xl_F_X11_117 dX11_person_117 ?_
    refine xg_iload_n hC dX11_person_120 rfl ?_
    refine xg_zald hC (xm_hK hI rfl) rfl h1 dX11_person_121 (fun b45 k46 => ?_)
    refine xg_if_eq hC (xm_in01 k46) 129 dX11_person_122 rfl (fun c47 => ?_) (fun c48 => ?_)
    · refine xg_iconst hC dX11_person_129 ?_
      refine xg_callV hC (ci := 10) (w_X11_fine hI o7.1 (0 : Int) (xm_inc _ rfl)) xl_M_X11_374 xl_V_X11_fine (xm_hK (a := 84) (kd := 0) (n := 10) hI rfl).2 ((xm_hK (a := 84) (kd := 0) (n := 10) hI rfl).1 _) (by decide) rfl (by decide) ⟨by decide, by decide⟩ dX11_person_130 (rest := []) rfl rfl (Nat.le_of_ble_eq_true rfl) rfl rfl (st2 := fun o => .int (xm_J o.2) :: []) (fun _ => rfl) (fun o49 k50 => ?_)
      exact xg_iret hC hQ k50 dX11_person_133
    refine xg_iconst hC dX11_person_125 ?_
    refine xg_goto hC 130 dX11_person_126 rfl ?_
    refine xg_callV hC (ci := 10) (w_X11_fine hI o7.1 (1 : Int) (xm_inc _ rfl)) xl_M_X11_374 xl_V_X11_fine (xm_hK (a := 84) (kd := 0) (n := 10) hI rfl).2 ((xm_hK (a := 84) (kd := 0) (n := 10) hI rfl).1 _) (by decide) rfl (by decide) ⟨by decide, by decide⟩ dX11_person_130 (rest := []) rfl rfl (Nat.le_of_ble_eq_true rfl) rfl rfl (st2 := fun o => .int (xm_J o.2) :: []) (fun _ => rfl) (fun o51 k52 => ?_)
    exact xg_iret hC hQ k52 dX11_person_133
  refine xg_tswOut hC 134 dX11_person_19 h2 (by omega) rfl ?_
  refine xg_aload_n hC dX11_person_134 rfl ?_
  refine xg_iconst hC dX11_person_135 ?_
  refine xg_callV hC (ci := 10) (w_X11_no hI o7.1 (3 : Int) (xm_inc _ rfl)) xl_M_X11_371 xl_V_X11_no (xm_hK (a := 84) (kd := 0) (n := 10) hI rfl).2 ((xm_hK (a := 84) (kd := 0) (n := 10) hI rfl).1 _) (by decide) rfl (by decide) ⟨by decide, by decide⟩ dX11_person_136 (rest := []) rfl rfl (Nat.le_of_ble_eq_true rfl) rfl rfl (st2 := fun o => .int (xm_J o.2) :: []) (fun _ => rfl) (fun o53 k54 => ?_)
  exact xg_iret hC hQ k54 dX11_person_139
theorem w_X11_partner_j79 {X : xm_X} (hC : xm_C X yX11_partner.cls cX11_partner 4 4 0 0) (hQ : xm_Rt X 1 (some .int) 0 0) (hI : xx_I X = xm_I) {K32 : xm_Mem → Int → Int → Int → Option xm_Out} {K88 : xm_Mem → Int → Int → Option xm_Out} (hK32 : ∀ (σ : xm_Mem) (x1 : Int) (x2 : Int) (x3 : Int), xm_in x1 → xm_in x2 → xm_in x3 → xm_V X 0 0 (K32 σ x1 x2 x3) σ 32 [(0, .ref (xm_B (xx_G X) + 84)), (1, .int (xm_J x1)), (2, .int (xm_J x2)), (3, .int (xm_J x3))] []) (hK88 : ∀ (σ : xm_Mem) (x1 : Int) (x3 : Int), xm_in x1 → xm_in x3 → xm_V X 0 0 (K88 σ x1 x3) σ 88 [(0, .ref (xm_B (xx_G X) + 84)), (1, .int (xm_J x1)), (3, .int (xm_J x3))] []) (σ : xm_Mem) (x1 : Int) (x2 : Int) (x3 : Int) (h1 : xm_in x1) (h2 : xm_in x2) (h3 : xm_in x3) : xm_V X 0 0 (f_X11_partner_j79 K32 K88 σ x1 x2 x3) σ 79 [(0, .ref (xm_B (xx_G X) + 84)), (1, .int (xm_J x1)), (2, .int (xm_J x2)), (3, .int (xm_J x3))] [] := by
  unfold f_X11_partner_j79
  refine xg_aload_n hC dX11_partner_79 rfl ?_
  refine xg_iload_n hC dX11_partner_80 rfl ?_
  refine xg_iload_n hC dX11_partner_81 rfl ?_
  refine xg_callV hC (ci := 10) (w_X11_isOpen hI σ x3 x2 h3 h2) xl_M_X11_72 xl_V_X11_isOpen (xm_hK (a := 84) (kd := 0) (n := 10) hI rfl).2 ((xm_hK (a := 84) (kd := 0) (n := 10) hI rfl).1 _) (by decide) rfl (by decide) ⟨by decide, by decide⟩ dX11_partner_82 (rest := []) rfl rfl (Nat.le_of_ble_eq_true rfl) rfl rfl (st2 := fun o => .int (xm_J o.2) :: []) (fun _ => rfl) (fun o28 k29 => ?_)
  refine xg_if_eq hC (xm_in01 k29) 118 dX11_partner_85 rfl (fun c30 => ?_) (fun c31 => ?_)
  · refine xg_iinc hC (l' := [(3, .int (xm_J (xm_w (x3 + 1)))), (0, .ref (xm_B (xx_G X) + 84)), (1, .int (xm_J x1)), (2, .int (xm_J x2))]) dX11_partner_118 (by decide) 3 rfl rfl ?_
    refine xg_goto hC 32 dX11_partner_121 rfl ?_
    exact xg_pick [1, 2, 3, 0] rfl (hK32 o28.1 x1 x2 (xm_w (x3 + 1)) h1 h2 (xm_w_in _))
  exact xg_pick [0, 1, 3] rfl (hK88 o28.1 x1 x3 h1 h3)
theorem w_X11_partner_b32 {X : xm_X} (hC : xm_C X yX11_partner.cls cX11_partner 4 4 0 0) (hQ : xm_Rt X 1 (some .int) 0 0) (hI : xx_I X = xm_I) {K88 : xm_Mem → Int → Int → Option xm_Out} {K124 : xm_Mem → Option xm_Out} (hK88 : ∀ (σ : xm_Mem) (x1 : Int) (x3 : Int), xm_in x1 → xm_in x3 → xm_V X 0 0 (K88 σ x1 x3) σ 88 [(0, .ref (xm_B (xx_G X) + 84)), (1, .int (xm_J x1)), (3, .int (xm_J x3))] []) (hK124 : ∀ (σ : xm_Mem), xm_V X 0 0 (K124 σ ) σ 124 [(0, .ref (xm_B (xx_G X) + 84))] []) {self : xm_Mem → Int → Int → Int → Option xm_Out} (hself : ∀ (σ : xm_Mem) (x1 : Int) (x2 : Int) (x3 : Int), xm_in x1 → xm_in x2 → xm_in x3 → xm_V X 0 0 (self σ x1 x2 x3) σ 32 [(0, .ref (xm_B (xx_G X) + 84)), (1, .int (xm_J x1)), (2, .int (xm_J x2)), (3, .int (xm_J x3))] []) (σ : xm_Mem) (x1 : Int) (x2 : Int) (x3 : Int) (h1 : xm_in x1) (h2 : xm_in x2) (h3 : xm_in x3) : xm_V X 0 0 (f_X11_partner_b32 K88 K124 self σ x1 x2 x3) σ 32 [(0, .ref (xm_B (xx_G X) + 84)), (1, .int (xm_J x1)), (2, .int (xm_J x2)), (3, .int (xm_J x3))] [] := by
  unfold f_X11_partner_b32
  refine xg_iload_n hC dX11_partner_32 rfl ?_
  refine xg_aload_n hC dX11_partner_33 rfl ?_
  refine xg_getI hC (xm_hK hI rfl) rfl xl_F_X11_40 dX11_partner_34 (fun k13 => ?_)
  refine xg_icmp_ge hC h3 k13 124 dX11_partner_37 rfl (fun c14 => ?_) (fun c15 => ?_)
  · refine xg_aload_n hC dX11_partner_40 rfl ?_
    refine xg_getW hC (b := 92) (xm_hK hI rfl) rfl (xm_wK hI rfl) (by decide) xl_F_X11_14 dX11_partner_41 ?_
    refine xg_iload_n hC dX11_partner_44 rfl ?_
    refine xg_zald hC (xm_hK hI rfl) rfl h3 dX11_partner_45 (fun b16 k17 => ?_)
    refine xg_if_eq hC (xm_in01 k17) 118 dX11_partner_46 rfl (fun c18 => ?_) (fun c19 => ?_)
    · refine xg_iinc hC (l' := [(3, .int (xm_J (xm_w (x3 + 1)))), (0, .ref (xm_B (xx_G X) + 84)), (1, .int (xm_J x1)), (2, .int (xm_J x2))]) dX11_partner_118 (by decide) 3 rfl rfl ?_
      refine xg_goto hC 32 dX11_partner_121 rfl ?_
      exact xg_pick [1, 2, 3, 0] rfl (hself σ x1 x2 (xm_w (x3 + 1)) h1 h2 (xm_w_in _))
    refine xg_aload_n hC dX11_partner_49 rfl ?_
    refine xg_getW hC (b := 86) (xm_hK hI rfl) rfl (xm_wK hI rfl) (by decide) xl_F_X11_43 dX11_partner_50 ?_
    refine xg_iload_n hC dX11_partner_53 rfl ?_
    refine xg_iald hC (xm_hK hI rfl) rfl h3 dX11_partner_54 (fun b20 k21 => ?_)
    refine xg_iconst hC dX11_partner_55 ?_
    refine xg_icmp_ne hC k21 (xm_inc _ rfl) 118 dX11_partner_56 rfl (fun c22 => ?_) (fun c23 => ?_)
    · refine xg_aload_n hC dX11_partner_59 rfl ?_
      refine xg_getW hC (b := 88) (xm_hK hI rfl) rfl (xm_wK hI rfl) (by decide) xl_F_X11_46 dX11_partner_60 ?_
      refine xg_iload_n hC dX11_partner_63 rfl ?_
      refine xg_iald hC (xm_hK hI rfl) rfl h3 dX11_partner_64 (fun b24 k25 => ?_)
      refine xg_iload_n hC dX11_partner_65 rfl ?_
      refine xg_icmp_eq hC k25 h1 79 dX11_partner_66 rfl (fun c26 => ?_) (fun c27 => ?_)
      · exact (w_X11_partner_j79 hC hQ hI hself hK88 σ x1 x2 x3 h1 h2 h3)
      refine xg_aload_n hC dX11_partner_69 rfl ?_
      refine xg_getW hC (b := 89) (xm_hK hI rfl) rfl (xm_wK hI rfl) (by decide) xl_F_X11_34 dX11_partner_70 ?_
      refine xg_iload_n hC dX11_partner_73 rfl ?_
      refine xg_iald hC (xm_hK hI rfl) rfl h3 dX11_partner_74 (fun b32 k33 => ?_)
      refine xg_iload_n hC dX11_partner_75 rfl ?_
      refine xg_icmp_ne hC k33 h1 118 dX11_partner_76 rfl (fun c34 => ?_) (fun c35 => ?_)
      · exact (w_X11_partner_j79 hC hQ hI hself hK88 σ x1 x2 x3 h1 h2 h3)
      refine xg_iinc hC (l' := [(3, .int (xm_J (xm_w (x3 + 1)))), (0, .ref (xm_B (xx_G X) + 84)), (1, .int (xm_J x1)), (2, .int (xm_J x2))]) dX11_partner_118 (by decide) 3 rfl rfl ?_
      refine xg_goto hC 32 dX11_partner_121 rfl ?_
      exact xg_pick [1, 2, 3, 0] rfl (hself σ x1 x2 (xm_w (x3 + 1)) h1 h2 (xm_w_in _))
    refine xg_iinc hC (l' := [(3, .int (xm_J (xm_w (x3 + 1)))), (0, .ref (xm_B (xx_G X) + 84)), (1, .int (xm_J x1)), (2, .int (xm_J x2))]) dX11_partner_118 (by decide) 3 rfl rfl ?_
    refine xg_goto hC 32 dX11_partner_121 rfl ?_
    exact xg_pick [1, 2, 3, 0] rfl (hself σ x1 x2 (xm_w (x3 + 1)) h1 h2 (xm_w_in _))
  exact xg_pick [0] rfl (hK124 σ)
theorem w_X11_partner_l32 {X : xm_X} (hC : xm_C X yX11_partner.cls cX11_partner 4 4 0 0) (hQ : xm_Rt X 1 (some .int) 0 0) (hI : xx_I X = xm_I) {K88 : xm_Mem → Int → Int → Option xm_Out} {K124 : xm_Mem → Option xm_Out} (hK88 : ∀ (σ : xm_Mem) (x1 : Int) (x3 : Int), xm_in x1 → xm_in x3 → xm_V X 0 0 (K88 σ x1 x3) σ 88 [(0, .ref (xm_B (xx_G X) + 84)), (1, .int (xm_J x1)), (3, .int (xm_J x3))] []) (hK124 : ∀ (σ : xm_Mem), xm_V X 0 0 (K124 σ ) σ 124 [(0, .ref (xm_B (xx_G X) + 84))] []) (n : Nat) : ∀ (σ : xm_Mem) (x1 : Int) (x2 : Int) (x3 : Int), xm_in x1 → xm_in x2 → xm_in x3 → xm_V X 0 0 (f_X11_partner_l32 K88 K124 n σ x1 x2 x3) σ 32 [(0, .ref (xm_B (xx_G X) + 84)), (1, .int (xm_J x1)), (2, .int (xm_J x2)), (3, .int (xm_J x3))] [] := by
  induction n with
  | zero => intro σ x1 x2 x3 h1 h2 h3; exact xg_none
  | succ n ih => intro σ x1 x2 x3 h1 h2 h3; exact w_X11_partner_b32 hC hQ hI hK88 hK124 ih σ x1 x2 x3 h1 h2 h3
theorem w_X11_partner {Γ : xm_Gm} {I : xm_Mem → Prop} {la : Launch} (hE : I = xm_I) (σ : xm_Mem) (x1 : Int) (x2 : Int) (h1 : xm_in x1) (h2 : xm_in x2) : ∀ o, f_X11_partner σ x1 x2 = some o → xm_M Γ I la yX11_partner cX11_partner 4 (some .int) 4 0 0 [.ref (xm_B Γ + 84), .int (xm_J x1), .int (xm_J x2)] σ 1 o := by
  refine xg_enter (by decide) (by simp [lg_sl, xm_rf_cat, xm_cati, xm_catr, xm_catl]) (fun X hG hI0 hla hC hQ hname => ?_)
  subst hG
  have hI := hI0.trans hE
  clear hI0 hla
  unfold f_X11_partner
  refine xg_pick [0, 1, 2] (l' := [(0, .ref (xm_B (xx_G X) + 84)), (1, .int (xm_J x1)), (2, .int (xm_J x2))]) rfl ?_
  refine xg_aload_n hC dX11_partner_0 rfl ?_
  refine xg_iload_n hC dX11_partner_1 rfl ?_
  refine xg_callV hC (ci := 10) (w_X11_isPerson hI σ x1 h1) xl_M_X11_123 xl_V_X11_isPerson (xm_hK (a := 84) (kd := 0) (n := 10) hI rfl).2 ((xm_hK (a := 84) (kd := 0) (n := 10) hI rfl).1 _) (by decide) rfl (by decide) ⟨by decide, by decide⟩ dX11_partner_2 (rest := []) rfl rfl (Nat.le_of_ble_eq_true rfl) rfl rfl (st2 := fun o => .int (xm_J o.2) :: []) (fun _ => rfl) (fun o1 k2 => ?_)
  refine xg_if_ne hC (xm_in01 k2) 14 dX11_partner_5 rfl (fun c3 => ?_) (fun c4 => ?_)
  · refine xg_aload_n hC dX11_partner_8 rfl ?_
    refine xg_iconst hC dX11_partner_9 ?_
    refine xg_callV hC (ci := 10) (w_X11_no hI o1.1 (1 : Int) (xm_inc _ rfl)) xl_M_X11_371 xl_V_X11_no (xm_hK (a := 84) (kd := 0) (n := 10) hI rfl).2 ((xm_hK (a := 84) (kd := 0) (n := 10) hI rfl).1 _) (by decide) rfl (by decide) ⟨by decide, by decide⟩ dX11_partner_10 (rest := []) rfl rfl (Nat.le_of_ble_eq_true rfl) rfl rfl (st2 := fun o => .int (xm_J o.2) :: []) (fun _ => rfl) (fun o5 k6 => ?_)
    exact xg_iret hC hQ k6 dX11_partner_13
  refine xg_iload_n hC dX11_partner_14 rfl ?_
  refine xg_iconst hC dX11_partner_15 ?_
  refine xg_ldc hC dX11_partner_16 xl_C_X11_59 ?_
  refine xg_callS hC (w_X11_isIn hI o1.1 x2 (0 : Int) (99999 : Int) h2 (xm_inc _ rfl) (xm_inc _ rfl)) xl_M_X11_10 xl_S_X11_isIn (by decide) ⟨by decide, by decide⟩ dX11_partner_18 (rest := []) rfl rfl (Nat.le_of_ble_eq_true rfl) rfl rfl (st2 := fun o => .int (xm_J o.2) :: []) (fun _ => rfl) (fun o7 k8 => ?_)
  refine xg_if_ne hC (xm_in01 k8) 30 dX11_partner_21 rfl (fun c9 => ?_) (fun c10 => ?_)
  · refine xg_aload_n hC dX11_partner_24 rfl ?_
    refine xg_iconst hC dX11_partner_25 ?_
    refine xg_callV hC (ci := 10) (w_X11_no hI o7.1 (3 : Int) (xm_inc _ rfl)) xl_M_X11_371 xl_V_X11_no (xm_hK (a := 84) (kd := 0) (n := 10) hI rfl).2 ((xm_hK (a := 84) (kd := 0) (n := 10) hI rfl).1 _) (by decide) rfl (by decide) ⟨by decide, by decide⟩ dX11_partner_26 (rest := []) rfl rfl (Nat.le_of_ble_eq_true rfl) rfl rfl (st2 := fun o => .int (xm_J o.2) :: []) (fun _ => rfl) (fun o11 k12 => ?_)
    exact xg_iret hC hQ k12 dX11_partner_29
  refine xg_iconst hC dX11_partner_30 ?_
  refine xg_istore_n hC (l' := [(3, .int (xm_J (0 : Int))), (0, .ref (xm_B (xx_G X) + 84)), (1, .int (xm_J x1)), (2, .int (xm_J x2))]) dX11_partner_31 (by decide) rfl ?_
  refine xg_pick [1, 2, 3, 0] rfl (w_X11_partner_l32 hC hQ hI ?_ ?_ _ o7.1 x1 x2 (0 : Int) h1 h2 (xm_inc _ rfl))
  · intro σ_36 x1_36 x3_36 h1_36 h3_36
    refine xg_aload_n hC dX11_partner_88 rfl ?_
    refine xg_aload_n hC dX11_partner_89 rfl ?_
    refine xg_getW hC (b := 88) (xm_hK hI rfl) rfl (xm_wK hI rfl) (by decide) xl_F_X11_46 dX11_partner_90 ?_
    refine xg_iload_n hC dX11_partner_93 rfl ?_
    refine xg_iald hC (xm_hK hI rfl) rfl h3_36 dX11_partner_94 (fun b37 k38 => ?_)
    refine xg_iload_n hC dX11_partner_95 rfl ?_
    refine xg_icmp_ne hC k38 h1_36 108 dX11_partner_96 rfl (fun c39 => ?_) (fun c40 => ?_)
    · refine xg_aload_n hC dX11_partner_99 rfl ?_
      refine xg_getW hC (b := 89) (xm_hK hI rfl) rfl (xm_wK hI rfl) (by decide) xl_F_X11_34 dX11_partner_100 ?_
      refine xg_iload_n hC dX11_partner_103 rfl ?_
      refine xg_iald hC (xm_hK hI rfl) rfl h3_36 dX11_partner_104 (fun b41 k42 => ?_)
      refine xg_goto hC 114 dX11_partner_105 rfl ?_
      refine xg_callV hC (ci := 10) (w_X11_fine hI σ_36 (σ_36.1 89 x3_36.toNat) k42) xl_M_X11_374 xl_V_X11_fine (xm_hK (a := 84) (kd := 0) (n := 10) hI rfl).2 ((xm_hK (a := 84) (kd := 0) (n := 10) hI rfl).1 _) (by decide) rfl (by decide) ⟨by decide, by decide⟩ dX11_partner_114 (rest := []) rfl rfl (Nat.le_of_ble_eq_true rfl) rfl rfl (st2 := fun o => .int (xm_J o.2) :: []) (fun _ => rfl) (fun o43 k44 => ?_)
      exact xg_iret hC hQ k44 dX11_partner_117
    refine xg_aload_n hC dX11_partner_108 rfl ?_
    refine xg_getW hC (b := 88) (xm_hK hI rfl) rfl (xm_wK hI rfl) (by decide) xl_F_X11_46 dX11_partner_109 ?_
    refine xg_iload_n hC dX11_partner_112 rfl ?_
    refine xg_iald hC (xm_hK hI rfl) rfl h3_36 dX11_partner_113 (fun b45 k46 => ?_)
    refine xg_callV hC (ci := 10) (w_X11_fine hI σ_36 (σ_36.1 88 x3_36.toNat) k46) xl_M_X11_374 xl_V_X11_fine (xm_hK (a := 84) (kd := 0) (n := 10) hI rfl).2 ((xm_hK (a := 84) (kd := 0) (n := 10) hI rfl).1 _) (by decide) rfl (by decide) ⟨by decide, by decide⟩ dX11_partner_114 (rest := []) rfl rfl (Nat.le_of_ble_eq_true rfl) rfl rfl (st2 := fun o => .int (xm_J o.2) :: []) (fun _ => rfl) (fun o47 k48 => ?_)
    exact xg_iret hC hQ k48 dX11_partner_117
  intro σ_49
  refine xg_aload_n hC dX11_partner_124 rfl ?_
  refine xg_iconst hC dX11_partner_125 ?_
  refine xg_callV hC (ci := 10) (w_X11_fine hI σ_49 (-1 : Int) (xm_inc _ rfl)) xl_M_X11_374 xl_V_X11_fine (xm_hK (a := 84) (kd := 0) (n := 10) hI rfl).2 ((xm_hK (a := 84) (kd := 0) (n := 10) hI rfl).1 _) (by decide) rfl (by decide) ⟨by decide, by decide⟩ dX11_partner_126 (rest := []) rfl rfl (Nat.le_of_ble_eq_true rfl) rfl rfl (st2 := fun o => .int (xm_J o.2) :: []) (fun _ => rfl) (fun o50 k51 => ?_)
  exact xg_iret hC hQ k51 dX11_partner_129
theorem w_X11_closer {Γ : xm_Gm} {I : xm_Mem → Prop} {la : Launch} (hE : I = xm_I) (σ : xm_Mem) (x0 : Int) (x1 : Int) (x2 : Int) (h1 : xm_in x1) (h2 : xm_in x2) : ∀ o, f_X11_closer σ x0 x1 x2 = some o → xm_M Γ I la yX11_closer cX11_closer 3 none 1 0 0 [xm_rf Γ x0, .int (xm_J x1), .int (xm_J x2)] σ 0 o := by
  refine xg_enter (by decide) (by simp [lg_sl, xm_rf_cat, xm_cati, xm_catr, xm_catl]) (fun X hG hI0 hla hC hQ hname => ?_)
  subst hG
  have hI := hI0.trans hE
  clear hI0 hla
  unfold f_X11_closer
  refine xg_pick [0, 1, 2] (l' := [(0, xm_rf (xx_G X) x0), (1, .int (xm_J x1)), (2, .int (xm_J x2))]) (by simp [lv_args, lv_pick, xm_rf_cat, xm_cati, xm_catr, xm_catl]) ?_
  refine xg_iload_n hC dX11_closer_0 rfl ?_
  refine xg_if_lt hC h1 21 dX11_closer_1 rfl (fun c1 => ?_) (fun c2 => ?_)
  · exact xg_vret hC hQ dX11_closer_21
  refine xg_rload_n hC dX11_closer_4 rfl ?_
  refine xg_iload_n hC dX11_closer_5 rfl ?_
  refine xg_siald hC (n := 64) rfl h1 dX11_closer_6 (fun b3 k4 => ?_)
  refine xg_if_lt hC k4 17 dX11_closer_7 rfl (fun c5 => ?_) (fun c6 => ?_)
  · refine xg_rload_n hC dX11_closer_17 rfl ?_
    refine xg_iload_n hC dX11_closer_18 rfl ?_
    refine xg_iload_n hC dX11_closer_19 rfl ?_
    refine xg_siast hC (n := 64) rfl h1 h2 (fun z => xm_kpA hI z.2.2) dX11_closer_20 ?_
    refine xg_st (fun σ7 => ?_)
    exact xg_vret hC hQ dX11_closer_21
  refine xg_iload_n hC dX11_closer_10 rfl ?_
  refine xg_rload_n hC dX11_closer_11 rfl ?_
  refine xg_iload_n hC dX11_closer_12 rfl ?_
  refine xg_siald hC (n := 64) rfl h1 dX11_closer_13 (fun b8 k9 => ?_)
  refine xg_icmp_ge hC h2 k9 21 dX11_closer_14 rfl (fun c10 => ?_) (fun c11 => ?_)
  · refine xg_rload_n hC dX11_closer_17 rfl ?_
    refine xg_iload_n hC dX11_closer_18 rfl ?_
    refine xg_iload_n hC dX11_closer_19 rfl ?_
    refine xg_siast hC (n := 64) rfl h1 h2 (fun z => xm_kpA hI z.2.2) dX11_closer_20 ?_
    refine xg_st (fun σ12 => ?_)
    exact xg_vret hC hQ dX11_closer_21
  exact xg_vret hC hQ dX11_closer_21
theorem w_X11_climb_b2 {X : xm_X} (hC : xm_C X yX11_climb.cls cX11_climb 5 2 0 0) (hQ : xm_Rt X 0 none 0 0) (hI : xx_I X = xm_I) {K18 : xm_Mem → Int → Int → Option xm_Out} (hK18 : ∀ (σ : xm_Mem) (x1 : Int) (x2 : Int), xm_in x1 → xm_V X 0 0 (K18 σ x1 x2) σ 18 [(0, .ref (xm_B (xx_G X) + 84)), (1, .int (xm_J x1)), (2, xm_rf (xx_G X) x2)] []) {self : xm_Mem → Int → Int → Int → Option xm_Out} (hself : ∀ (σ : xm_Mem) (x1 : Int) (x2 : Int) (x3 : Int), xm_in x1 → xm_in x3 → xm_V X 0 0 (self σ x1 x2 x3) σ 2 [(0, .ref (xm_B (xx_G X) + 84)), (1, .int (xm_J x1)), (2, xm_rf (xx_G X) x2), (3, .int (xm_J x3))] []) (σ : xm_Mem) (x1 : Int) (x2 : Int) (x3 : Int) (h1 : xm_in x1) (h3 : xm_in x3) : xm_V X 0 0 (f_X11_climb_b2 K18 self σ x1 x2 x3) σ 2 [(0, .ref (xm_B (xx_G X) + 84)), (1, .int (xm_J x1)), (2, xm_rf (xx_G X) x2), (3, .int (xm_J x3))] [] := by
  unfold f_X11_climb_b2
  refine xg_iload_n hC dX11_climb_2 rfl ?_
  refine xg_bipush hC dX11_climb_3 (by decide) ?_
  refine xg_icmp_ge hC h3 (xm_inc _ rfl) 18 dX11_climb_5 rfl (fun c1 => ?_) (fun c2 => ?_)
  · refine xg_rload_n hC dX11_climb_8 rfl ?_
    refine xg_iload_n hC dX11_climb_9 rfl ?_
    refine xg_iconst hC dX11_climb_10 ?_
    refine xg_siast hC (n := 64) rfl h3 (xm_inc _ rfl) (fun z => xm_kpA hI z.2.2) dX11_climb_11 ?_
    refine xg_st (fun σ3 => ?_)
    refine xg_iinc hC (l' := [(3, .int (xm_J (xm_w (x3 + 1)))), (0, .ref (xm_B (xx_G X) + 84)), (1, .int (xm_J x1)), (2, xm_rf (xx_G X) x2)]) dX11_climb_12 (by decide) 3 rfl (by simp [xm_rf_cat, xm_cati, xm_catr, xm_catl] <;> decide) ?_
    refine xg_goto hC 2 dX11_climb_15 rfl ?_
    exact xg_pick [1, 2, 3, 0] rfl (hself σ3 x1 x2 (xm_w (x3 + 1)) h1 (xm_w_in _))
  exact xg_pick [0, 1, 2] rfl (hK18 σ x1 x2 h1)
theorem w_X11_climb_l2 {X : xm_X} (hC : xm_C X yX11_climb.cls cX11_climb 5 2 0 0) (hQ : xm_Rt X 0 none 0 0) (hI : xx_I X = xm_I) {K18 : xm_Mem → Int → Int → Option xm_Out} (hK18 : ∀ (σ : xm_Mem) (x1 : Int) (x2 : Int), xm_in x1 → xm_V X 0 0 (K18 σ x1 x2) σ 18 [(0, .ref (xm_B (xx_G X) + 84)), (1, .int (xm_J x1)), (2, xm_rf (xx_G X) x2)] []) (n : Nat) : ∀ (σ : xm_Mem) (x1 : Int) (x2 : Int) (x3 : Int), xm_in x1 → xm_in x3 → xm_V X 0 0 (f_X11_climb_l2 K18 n σ x1 x2 x3) σ 2 [(0, .ref (xm_B (xx_G X) + 84)), (1, .int (xm_J x1)), (2, xm_rf (xx_G X) x2), (3, .int (xm_J x3))] [] := by
  induction n with
  | zero => intro σ x1 x2 x3 h1 h3; exact xg_none
  | succ n ih => intro σ x1 x2 x3 h1 h3; exact w_X11_climb_b2 hC hQ hI hK18 ih σ x1 x2 x3 h1 h3
theorem w_X11_climb_b29 {X : xm_X} (hC : xm_C X yX11_climb.cls cX11_climb 5 2 0 0) (hQ : xm_Rt X 0 none 0 0) (hI : xx_I X = xm_I)   {self : xm_Mem → Int → Int → Option xm_Out} (hself : ∀ (σ : xm_Mem) (x2 : Int) (x3 : Int), xm_in x3 → xm_V X 0 0 (self σ x2 x3) σ 29 [(0, .ref (xm_B (xx_G X) + 84)), (2, xm_rf (xx_G X) x2), (3, .int (xm_J x3))] []) (σ : xm_Mem) (x2 : Int) (x3 : Int) (h3 : xm_in x3) : xm_V X 0 0 (f_X11_climb_b29  self σ x2 x3) σ 29 [(0, .ref (xm_B (xx_G X) + 84)), (2, xm_rf (xx_G X) x2), (3, .int (xm_J x3))] [] := by
  unfold f_X11_climb_b29
  refine xg_iload_n hC dX11_climb_29 rfl ?_
  refine xg_if_lt hC h3 89 dX11_climb_30 rfl (fun c9 => ?_) (fun c10 => ?_)
  · exact xg_vret hC hQ dX11_climb_89
  refine xg_aload_n hC dX11_climb_33 rfl ?_
  refine xg_getW hC (b := 97) (xm_hK hI rfl) rfl (xm_wK hI rfl) (by decide) xl_F_X11_129 dX11_climb_34 ?_
  refine xg_iload_n hC dX11_climb_37 rfl ?_
  refine xg_iald hC (xm_hK hI rfl) rfl h3 dX11_climb_38 (fun b11 k12 => ?_)
  refine xg_vI k12 (fun v13 k14 => ?_)
  refine xg_istore hC (l' := [(4, .int (xm_J v13)), (0, .ref (xm_B (xx_G X) + 84)), (2, xm_rf (xx_G X) x2), (3, .int (xm_J x3))]) dX11_climb_39 (by decide) rfl ?_
  refine xg_rload_n hC dX11_climb_41 rfl ?_
  refine xg_iload hC dX11_climb_42 rfl ?_
  refine xg_siald hC (n := 64) rfl k14 dX11_climb_44 (fun b15 k16 => ?_)
  refine xg_if_ge hC k16 51 dX11_climb_45 rfl (fun c17 => ?_) (fun c18 => ?_)
  · refine xg_goto hC 83 dX11_climb_48 rfl ?_
    refine xg_iinc hC (l' := [(3, .int (xm_J (xm_w (x3 + (-1))))), (4, .int (xm_J v13)), (0, .ref (xm_B (xx_G X) + 84)), (2, xm_rf (xx_G X) x2)]) dX11_climb_83 (by decide) 3 rfl (by simp [xm_rf_cat, xm_cati, xm_catr, xm_catl] <;> decide) ?_
    refine xg_goto hC 29 dX11_climb_86 rfl ?_
    exact xg_pick [2, 3, 0] rfl (hself σ x2 (xm_w (x3 + (-1))) (xm_w_in _))
  refine xg_rload_n hC dX11_climb_51 rfl ?_
  refine xg_aload_n hC dX11_climb_52 rfl ?_
  refine xg_iload hC dX11_climb_53 rfl ?_
  refine xg_callV hC (ci := 10) (w_X11_father hI σ v13 k14) xl_M_X11_76 xl_V_X11_father (xm_hK (a := 84) (kd := 0) (n := 10) hI rfl).2 ((xm_hK (a := 84) (kd := 0) (n := 10) hI rfl).1 _) (by decide) rfl (by decide) ⟨by decide, by decide⟩ dX11_climb_55 (rest := [xm_rf (xx_G X) x2]) rfl rfl (by simp [xm_rf_cat, xm_cati, xm_catr, xm_catl]) rfl rfl (st2 := fun o => .int (xm_J o.2) :: [xm_rf (xx_G X) x2]) (fun _ => rfl) (fun o19 k20 => ?_)
  refine xg_rload_n hC dX11_climb_58 rfl ?_
  refine xg_iload hC dX11_climb_59 rfl ?_
  refine xg_siald hC (n := 64) rfl k14 dX11_climb_61 (fun b21 k22 => ?_)
  refine xg_iconst hC dX11_climb_62 ?_
  refine xg_iadd hC dX11_climb_63 ?_
  refine xg_callS hC (w_X11_closer hI o19.1 x2 o19.2 (xm_w ((o19.1.1 x2.toNat v13.toNat) + (1 : Int))) k20 (xm_w_in _)) xl_M_X11_399 xl_S_X11_closer (by decide) ⟨by decide, by decide⟩ dX11_climb_64 (rest := []) rfl rfl (Nat.le_of_ble_eq_true rfl) rfl rfl (st2 := fun o => []) (fun _ => rfl) (fun o23 k24 => ?_)
  refine xg_rload_n hC dX11_climb_67 rfl ?_
  refine xg_aload_n hC dX11_climb_68 rfl ?_
  refine xg_iload hC dX11_climb_69 rfl ?_
  refine xg_callV hC (ci := 10) (w_X11_mother hI o23.1 v13 k14) xl_M_X11_79 xl_V_X11_mother (xm_hK (a := 84) (kd := 0) (n := 10) hI rfl).2 ((xm_hK (a := 84) (kd := 0) (n := 10) hI rfl).1 _) (by decide) rfl (by decide) ⟨by decide, by decide⟩ dX11_climb_71 (rest := [xm_rf (xx_G X) x2]) rfl rfl (by simp [xm_rf_cat, xm_cati, xm_catr, xm_catl]) rfl rfl (st2 := fun o => .int (xm_J o.2) :: [xm_rf (xx_G X) x2]) (fun _ => rfl) (fun o25 k26 => ?_)
  refine xg_rload_n hC dX11_climb_74 rfl ?_
  refine xg_iload hC dX11_climb_75 rfl ?_
  refine xg_siald hC (n := 64) rfl k14 dX11_climb_77 (fun b27 k28 => ?_)
  refine xg_iconst hC dX11_climb_78 ?_
  refine xg_iadd hC dX11_climb_79 ?_
  refine xg_callS hC (w_X11_closer hI o25.1 x2 o25.2 (xm_w ((o25.1.1 x2.toNat v13.toNat) + (1 : Int))) k26 (xm_w_in _)) xl_M_X11_399 xl_S_X11_closer (by decide) ⟨by decide, by decide⟩ dX11_climb_80 (rest := []) rfl rfl (Nat.le_of_ble_eq_true rfl) rfl rfl (st2 := fun o => []) (fun _ => rfl) (fun o29 k30 => ?_)
  refine xg_iinc hC (l' := [(3, .int (xm_J (xm_w (x3 + (-1))))), (4, .int (xm_J v13)), (0, .ref (xm_B (xx_G X) + 84)), (2, xm_rf (xx_G X) x2)]) dX11_climb_83 (by decide) 3 rfl (by simp [xm_rf_cat, xm_cati, xm_catr, xm_catl] <;> decide) ?_
  refine xg_goto hC 29 dX11_climb_86 rfl ?_
  exact xg_pick [2, 3, 0] rfl (hself o29.1 x2 (xm_w (x3 + (-1))) (xm_w_in _))
theorem w_X11_climb_l29 {X : xm_X} (hC : xm_C X yX11_climb.cls cX11_climb 5 2 0 0) (hQ : xm_Rt X 0 none 0 0) (hI : xx_I X = xm_I)   (n : Nat) : ∀ (σ : xm_Mem) (x2 : Int) (x3 : Int), xm_in x3 → xm_V X 0 0 (f_X11_climb_l29  n σ x2 x3) σ 29 [(0, .ref (xm_B (xx_G X) + 84)), (2, xm_rf (xx_G X) x2), (3, .int (xm_J x3))] [] := by
  induction n with
  | zero => intro σ x2 x3 h3; exact xg_none
  | succ n ih => intro σ x2 x3 h3; exact w_X11_climb_b29 hC hQ hI ih σ x2 x3 h3
theorem w_X11_climb {Γ : xm_Gm} {I : xm_Mem → Prop} {la : Launch} (hE : I = xm_I) (σ : xm_Mem) (x1 : Int) (x2 : Int) (h1 : xm_in x1) : ∀ o, f_X11_climb σ x1 x2 = some o → xm_M Γ I la yX11_climb cX11_climb 5 none 2 0 0 [.ref (xm_B Γ + 84), .int (xm_J x1), xm_rf Γ x2] σ 0 o := by
  refine xg_enter (by decide) (by simp [lg_sl, xm_rf_cat, xm_cati, xm_catr, xm_catl]) (fun X hG hI0 hla hC hQ hname => ?_)
  subst hG
  have hI := hI0.trans hE
  clear hI0 hla
  unfold f_X11_climb
  refine xg_pick [0, 1, 2] (l' := [(0, .ref (xm_B (xx_G X) + 84)), (1, .int (xm_J x1)), (2, xm_rf (xx_G X) x2)]) (by simp [lv_args, lv_pick, xm_rf_cat, xm_cati, xm_catr, xm_catl]) ?_
  refine xg_iconst hC dX11_climb_0 ?_
  refine xg_istore_n hC (l' := [(3, .int (xm_J (0 : Int))), (0, .ref (xm_B (xx_G X) + 84)), (1, .int (xm_J x1)), (2, xm_rf (xx_G X) x2)]) dX11_climb_1 (by decide) (by simp [xm_rf_cat, xm_cati, xm_catr, xm_catl] <;> decide) ?_
  refine xg_pick [1, 2, 3, 0] rfl (w_X11_climb_l2 hC hQ hI ?_ _ σ x1 x2 (0 : Int) h1 (xm_inc _ rfl))
  intro σ_4 x1_4 x2_4 h1_4
  refine xg_rload_n hC dX11_climb_18 rfl ?_
  refine xg_iload_n hC dX11_climb_19 rfl ?_
  refine xg_iconst hC dX11_climb_20 ?_
  refine xg_siast hC (n := 64) rfl h1_4 (xm_inc _ rfl) (fun z => xm_kpA hI z.2.2) dX11_climb_21 ?_
  refine xg_st (fun σ5 => ?_)
  refine xg_aload_n hC dX11_climb_22 rfl ?_
  refine xg_getI hC (xm_hK hI rfl) rfl xl_F_X11_120 dX11_climb_23 (fun k6 => ?_)
  refine xg_iconst hC dX11_climb_26 ?_
  refine xg_isub hC dX11_climb_27 ?_
  refine xg_vI (xm_w_in _) (fun v7 k8 => ?_)
  refine xg_istore_n hC (l' := [(3, .int (xm_J v7)), (0, .ref (xm_B (xx_G X) + 84)), (1, .int (xm_J x1_4)), (2, xm_rf (xx_G X) x2_4)]) dX11_climb_28 (by decide) (by simp [xm_rf_cat, xm_cati, xm_catr, xm_catl] <;> decide) ?_
  exact xg_pick [1, 3, 0] rfl (w_X11_climb_l29 hC hQ hI _ σ5 x2_4 v7 k8)
theorem w_X11_kin_j99 {X : xm_X} (hC : xm_C X yX11_kin.cls cX11_kin 5 7 0 0) (hQ : xm_Rt X 1 (some .int) 0 0) (hI : xx_I X = xm_I) {K49 : xm_Mem → Int → Int → Option xm_Out} (hK49 : ∀ (σ : xm_Mem) (x3 : Int) (x4 : Int), xm_in x3 → xm_in x4 → xm_V X 0 0 (K49 σ x3 x4) σ 49 [(0, .ref (xm_B (xx_G X) + 84)), (3, .int (xm_J x3)), (4, .int (xm_J x4))] []) (σ : xm_Mem) (x4 : Int) (h4 : xm_in x4) : xm_V X 0 0 (f_X11_kin_j99 K49 σ x4) σ 99 [(0, .ref (xm_B (xx_G X) + 84)), (4, .int (xm_J x4))] [] := by
  unfold f_X11_kin_j99
  refine xg_aload_n hC dX11_kin_99 rfl ?_
  refine xg_getW hC (b := 109) (xm_hK hI rfl) rfl (xm_wK hI rfl) (by decide) xl_F_X11_365 dX11_kin_100 ?_
  refine xg_iload hC dX11_kin_103 rfl ?_
  refine xg_iald hC (xm_hK hI rfl) rfl h4 dX11_kin_105 (fun b31 k32 => ?_)
  refine xg_aload_n hC dX11_kin_106 rfl ?_
  refine xg_getW hC (b := 110) (xm_hK hI rfl) rfl (xm_wK hI rfl) (by decide) xl_F_X11_368 dX11_kin_107 ?_
  refine xg_iload hC dX11_kin_110 rfl ?_
  refine xg_iald hC (xm_hK hI rfl) rfl h4 dX11_kin_112 (fun b33 k34 => ?_)
  refine xg_iadd hC dX11_kin_113 ?_
  refine xg_vI (xm_w_in _) (fun v35 k36 => ?_)
  refine xg_istore_n hC (l' := [(3, .int (xm_J v35)), (0, .ref (xm_B (xx_G X) + 84)), (4, .int (xm_J x4))]) dX11_kin_114 (by decide) rfl ?_
  refine xg_iinc hC (l' := [(4, .int (xm_J (xm_w (x4 + 1)))), (3, .int (xm_J v35)), (0, .ref (xm_B (xx_G X) + 84))]) dX11_kin_115 (by decide) 2 rfl rfl ?_
  refine xg_goto hC 49 dX11_kin_118 rfl ?_
  exact xg_pick [2, 1, 0] rfl (hK49 σ v35 (xm_w (x4 + 1)) k36 (xm_w_in _))
theorem w_X11_kin_b49 {X : xm_X} (hC : xm_C X yX11_kin.cls cX11_kin 5 7 0 0) (hQ : xm_Rt X 1 (some .int) 0 0) (hI : xx_I X = xm_I) {K121 : xm_Mem → Int → Option xm_Out} (hK121 : ∀ (σ : xm_Mem) (x3 : Int), xm_in x3 → xm_V X 0 0 (K121 σ x3) σ 121 [(0, .ref (xm_B (xx_G X) + 84)), (3, .int (xm_J x3))] []) {self : xm_Mem → Int → Int → Option xm_Out} (hself : ∀ (σ : xm_Mem) (x3 : Int) (x4 : Int), xm_in x3 → xm_in x4 → xm_V X 0 0 (self σ x3 x4) σ 49 [(0, .ref (xm_B (xx_G X) + 84)), (3, .int (xm_J x3)), (4, .int (xm_J x4))] []) (σ : xm_Mem) (x3 : Int) (x4 : Int) (h3 : xm_in x3) (h4 : xm_in x4) : xm_V X 0 0 (f_X11_kin_b49 K121 self σ x3 x4) σ 49 [(0, .ref (xm_B (xx_G X) + 84)), (3, .int (xm_J x3)), (4, .int (xm_J x4))] [] := by
  unfold f_X11_kin_b49
  refine xg_iload hC dX11_kin_49 rfl ?_
  refine xg_bipush hC dX11_kin_51 (by decide) ?_
  refine xg_icmp_ge hC h4 (xm_inc _ rfl) 121 dX11_kin_53 rfl (fun c19 => ?_) (fun c20 => ?_)
  · refine xg_aload_n hC dX11_kin_56 rfl ?_
    refine xg_getW hC (b := 109) (xm_hK hI rfl) rfl (xm_wK hI rfl) (by decide) xl_F_X11_365 dX11_kin_57 ?_
    refine xg_iload hC dX11_kin_60 rfl ?_
    refine xg_iald hC (xm_hK hI rfl) rfl h4 dX11_kin_62 (fun b21 k22 => ?_)
    refine xg_if_lt hC k22 115 dX11_kin_63 rfl (fun c23 => ?_) (fun c24 => ?_)
    · refine xg_iinc hC (l' := [(4, .int (xm_J (xm_w (x4 + 1)))), (0, .ref (xm_B (xx_G X) + 84)), (3, .int (xm_J x3))]) dX11_kin_115 (by decide) 2 rfl rfl ?_
      refine xg_goto hC 49 dX11_kin_118 rfl ?_
      exact xg_pick [1, 2, 0] rfl (hself σ x3 (xm_w (x4 + 1)) h3 (xm_w_in _))
    refine xg_aload_n hC dX11_kin_66 rfl ?_
    refine xg_getW hC (b := 110) (xm_hK hI rfl) rfl (xm_wK hI rfl) (by decide) xl_F_X11_368 dX11_kin_67 ?_
    refine xg_iload hC dX11_kin_70 rfl ?_
    refine xg_iald hC (xm_hK hI rfl) rfl h4 dX11_kin_72 (fun b25 k26 => ?_)
    refine xg_if_lt hC k26 115 dX11_kin_73 rfl (fun c27 => ?_) (fun c28 => ?_)
    · refine xg_iinc hC (l' := [(4, .int (xm_J (xm_w (x4 + 1)))), (0, .ref (xm_B (xx_G X) + 84)), (3, .int (xm_J x3))]) dX11_kin_115 (by decide) 2 rfl rfl ?_
      refine xg_goto hC 49 dX11_kin_118 rfl ?_
      exact xg_pick [1, 2, 0] rfl (hself σ x3 (xm_w (x4 + 1)) h3 (xm_w_in _))
    refine xg_iload_n hC dX11_kin_76 rfl ?_
    refine xg_if_lt hC h3 99 dX11_kin_77 rfl (fun c29 => ?_) (fun c30 => ?_)
    · exact xg_pick [0, 2] rfl (w_X11_kin_j99 hC hQ hI hself σ x4 h4)
    refine xg_aload_n hC dX11_kin_80 rfl ?_
    refine xg_getW hC (b := 109) (xm_hK hI rfl) rfl (xm_wK hI rfl) (by decide) xl_F_X11_365 dX11_kin_81 ?_
    refine xg_iload hC dX11_kin_84 rfl ?_
    refine xg_iald hC (xm_hK hI rfl) rfl h4 dX11_kin_86 (fun b37 k38 => ?_)
    refine xg_aload_n hC dX11_kin_87 rfl ?_
    refine xg_getW hC (b := 110) (xm_hK hI rfl) rfl (xm_wK hI rfl) (by decide) xl_F_X11_368 dX11_kin_88 ?_
    refine xg_iload hC dX11_kin_91 rfl ?_
    refine xg_iald hC (xm_hK hI rfl) rfl h4 dX11_kin_93 (fun b39 k40 => ?_)
    refine xg_iadd hC dX11_kin_94 ?_
    refine xg_iload_n hC dX11_kin_95 rfl ?_
    refine xg_icmp_ge hC (xm_w_in _) h3 115 dX11_kin_96 rfl (fun c41 => ?_) (fun c42 => ?_)
    · exact xg_pick [0, 2] rfl (w_X11_kin_j99 hC hQ hI hself σ x4 h4)
    refine xg_iinc hC (l' := [(4, .int (xm_J (xm_w (x4 + 1)))), (0, .ref (xm_B (xx_G X) + 84)), (3, .int (xm_J x3))]) dX11_kin_115 (by decide) 2 rfl rfl ?_
    refine xg_goto hC 49 dX11_kin_118 rfl ?_
    exact xg_pick [1, 2, 0] rfl (hself σ x3 (xm_w (x4 + 1)) h3 (xm_w_in _))
  exact xg_pick [0, 1] rfl (hK121 σ x3 h3)
theorem w_X11_kin_l49 {X : xm_X} (hC : xm_C X yX11_kin.cls cX11_kin 5 7 0 0) (hQ : xm_Rt X 1 (some .int) 0 0) (hI : xx_I X = xm_I) {K121 : xm_Mem → Int → Option xm_Out} (hK121 : ∀ (σ : xm_Mem) (x3 : Int), xm_in x3 → xm_V X 0 0 (K121 σ x3) σ 121 [(0, .ref (xm_B (xx_G X) + 84)), (3, .int (xm_J x3))] []) (n : Nat) : ∀ (σ : xm_Mem) (x3 : Int) (x4 : Int), xm_in x3 → xm_in x4 → xm_V X 0 0 (f_X11_kin_l49 K121 n σ x3 x4) σ 49 [(0, .ref (xm_B (xx_G X) + 84)), (3, .int (xm_J x3)), (4, .int (xm_J x4))] [] := by
  induction n with
  | zero => intro σ x3 x4 h3 h4; exact xg_none
  | succ n ih => intro σ x3 x4 h3 h4; exact w_X11_kin_b49 hC hQ hI hK121 ih σ x3 x4 h3 h4
theorem w_X11_kin {Γ : xm_Gm} {I : xm_Mem → Prop} {la : Launch} (hE : I = xm_I) (σ : xm_Mem) (x1 : Int) (x2 : Int) (h1 : xm_in x1) (h2 : xm_in x2) : ∀ o, f_X11_kin σ x1 x2 = some o → xm_M Γ I la yX11_kin cX11_kin 5 (some .int) 7 0 0 [.ref (xm_B Γ + 84), .int (xm_J x1), .int (xm_J x2)] σ 1 o := by
  refine xg_enter (by decide) (by simp [lg_sl, xm_rf_cat, xm_cati, xm_catr, xm_catl]) (fun X hG hI0 hla hC hQ hname => ?_)
  subst hG
  have hI := hI0.trans hE
  clear hI0 hla
  unfold f_X11_kin
  refine xg_pick [0, 1, 2] (l' := [(0, .ref (xm_B (xx_G X) + 84)), (1, .int (xm_J x1)), (2, .int (xm_J x2))]) rfl ?_
  refine xg_aload_n hC dX11_kin_0 rfl ?_
  refine xg_iload_n hC dX11_kin_1 rfl ?_
  refine xg_callV hC (ci := 10) (w_X11_isPerson hI σ x1 h1) xl_M_X11_123 xl_V_X11_isPerson (xm_hK (a := 84) (kd := 0) (n := 10) hI rfl).2 ((xm_hK (a := 84) (kd := 0) (n := 10) hI rfl).1 _) (by decide) rfl (by decide) ⟨by decide, by decide⟩ dX11_kin_2 (rest := []) rfl rfl (Nat.le_of_ble_eq_true rfl) rfl rfl (st2 := fun o => .int (xm_J o.2) :: []) (fun _ => rfl) (fun o1 k2 => ?_)
  refine xg_if_eq hC (xm_in01 k2) 16 dX11_kin_5 rfl (fun c3 => ?_) (fun c4 => ?_)
  · refine xg_aload_n hC dX11_kin_16 rfl ?_
    refine xg_iconst hC dX11_kin_17 ?_
    refine xg_callV hC (ci := 10) (w_X11_no hI o1.1 (1 : Int) (xm_inc _ rfl)) xl_M_X11_371 xl_V_X11_no (xm_hK (a := 84) (kd := 0) (n := 10) hI rfl).2 ((xm_hK (a := 84) (kd := 0) (n := 10) hI rfl).1 _) (by decide) rfl (by decide) ⟨by decide, by decide⟩ dX11_kin_18 (rest := []) rfl rfl (Nat.le_of_ble_eq_true rfl) rfl rfl (st2 := fun o => .int (xm_J o.2) :: []) (fun _ => rfl) (fun o5 k6 => ?_)
    exact xg_iret hC hQ k6 dX11_kin_21
  refine xg_aload_n hC dX11_kin_8 rfl ?_
  refine xg_iload_n hC dX11_kin_9 rfl ?_
  refine xg_callV hC (ci := 10) (w_X11_isPerson hI o1.1 x2 h2) xl_M_X11_123 xl_V_X11_isPerson (xm_hK (a := 84) (kd := 0) (n := 10) hI rfl).2 ((xm_hK (a := 84) (kd := 0) (n := 10) hI rfl).1 _) (by decide) rfl (by decide) ⟨by decide, by decide⟩ dX11_kin_10 (rest := []) rfl rfl (Nat.le_of_ble_eq_true rfl) rfl rfl (st2 := fun o => .int (xm_J o.2) :: []) (fun _ => rfl) (fun o7 k8 => ?_)
  refine xg_if_ne hC (xm_in01 k8) 22 dX11_kin_13 rfl (fun c9 => ?_) (fun c10 => ?_)
  · refine xg_aload_n hC dX11_kin_16 rfl ?_
    refine xg_iconst hC dX11_kin_17 ?_
    refine xg_callV hC (ci := 10) (w_X11_no hI o7.1 (1 : Int) (xm_inc _ rfl)) xl_M_X11_371 xl_V_X11_no (xm_hK (a := 84) (kd := 0) (n := 10) hI rfl).2 ((xm_hK (a := 84) (kd := 0) (n := 10) hI rfl).1 _) (by decide) rfl (by decide) ⟨by decide, by decide⟩ dX11_kin_18 (rest := []) rfl rfl (Nat.le_of_ble_eq_true rfl) rfl rfl (st2 := fun o => .int (xm_J o.2) :: []) (fun _ => rfl) (fun o11 k12 => ?_)
    exact xg_iret hC hQ k12 dX11_kin_21
  refine xg_aload_n hC dX11_kin_22 rfl ?_
  refine xg_callV hC (ci := 10) (w_X11_reckon hI o7.1 ) xl_M_X11_179 xl_V_X11_reckon (xm_hK (a := 84) (kd := 0) (n := 10) hI rfl).2 ((xm_hK (a := 84) (kd := 0) (n := 10) hI rfl).1 _) (by decide) rfl (by decide) ⟨by decide, by decide⟩ dX11_kin_23 (rest := []) rfl rfl (Nat.le_of_ble_eq_true rfl) rfl rfl (st2 := fun o => []) (fun _ => rfl) (fun o13 k14 => ?_)
  refine xg_aload_n hC dX11_kin_26 rfl ?_
  refine xg_iload_n hC dX11_kin_27 rfl ?_
  refine xg_aload_n hC dX11_kin_28 rfl ?_
  refine xg_getW hC (b := 109) (xm_hK hI rfl) rfl (xm_wK hI rfl) (by decide) xl_F_X11_365 dX11_kin_29 ?_
  refine xg_callV hC (ci := 10) (w_X11_climb hI o13.1 x1 ((109 : Nat) : Int) h1) xl_M_X11_403 xl_V_X11_climb (xm_hK (a := 84) (kd := 0) (n := 10) hI rfl).2 ((xm_hK (a := 84) (kd := 0) (n := 10) hI rfl).1 _) (by decide) rfl (by decide) ⟨by decide, by decide⟩ dX11_kin_32 (rest := []) (by rw [xm_rfN (Γ := xx_G X) (a := 109) (by decide)]; rfl) rfl (Nat.le_of_ble_eq_true rfl) rfl rfl (st2 := fun o => []) (fun _ => rfl) (fun o15 k16 => ?_)
  refine xg_aload_n hC dX11_kin_35 rfl ?_
  refine xg_iload_n hC dX11_kin_36 rfl ?_
  refine xg_aload_n hC dX11_kin_37 rfl ?_
  refine xg_getW hC (b := 110) (xm_hK hI rfl) rfl (xm_wK hI rfl) (by decide) xl_F_X11_368 dX11_kin_38 ?_
  refine xg_callV hC (ci := 10) (w_X11_climb hI o15.1 x2 ((110 : Nat) : Int) h2) xl_M_X11_403 xl_V_X11_climb (xm_hK (a := 84) (kd := 0) (n := 10) hI rfl).2 ((xm_hK (a := 84) (kd := 0) (n := 10) hI rfl).1 _) (by decide) rfl (by decide) ⟨by decide, by decide⟩ dX11_kin_41 (rest := []) (by rw [xm_rfN (Γ := xx_G X) (a := 110) (by decide)]; rfl) rfl (Nat.le_of_ble_eq_true rfl) rfl rfl (st2 := fun o => []) (fun _ => rfl) (fun o17 k18 => ?_)
  refine xg_iconst hC dX11_kin_44 ?_
  refine xg_istore_n hC (l' := [(3, .int (xm_J (-1 : Int))), (0, .ref (xm_B (xx_G X) + 84)), (1, .int (xm_J x1)), (2, .int (xm_J x2))]) dX11_kin_45 (by decide) rfl ?_
  refine xg_iconst hC dX11_kin_46 ?_
  refine xg_istore hC (l' := [(4, .int (xm_J (0 : Int))), (3, .int (xm_J (-1 : Int))), (0, .ref (xm_B (xx_G X) + 84)), (1, .int (xm_J x1)), (2, .int (xm_J x2))]) dX11_kin_47 (by decide) rfl ?_
  refine xg_pick [2, 1, 0] rfl (w_X11_kin_l49 hC hQ hI ?_ _ o17.1 (-1 : Int) (0 : Int) (xm_inc _ rfl) (xm_inc _ rfl))
  intro σ_43 x3_43 h3_43
  refine xg_aload_n hC dX11_kin_121 rfl ?_
  refine xg_iload_n hC dX11_kin_122 rfl ?_
  refine xg_callV hC (ci := 10) (w_X11_fine hI σ_43 x3_43 h3_43) xl_M_X11_374 xl_V_X11_fine (xm_hK (a := 84) (kd := 0) (n := 10) hI rfl).2 ((xm_hK (a := 84) (kd := 0) (n := 10) hI rfl).1 _) (by decide) rfl (by decide) ⟨by decide, by decide⟩ dX11_kin_123 (rest := []) rfl rfl (Nat.le_of_ble_eq_true rfl) rfl rfl (st2 := fun o => .int (xm_J o.2) :: []) (fun _ => rfl) (fun o44 k45 => ?_)
  exact xg_iret hC hQ k45 dX11_kin_126
theorem w_X11_titleWhy {Γ : xm_Gm} {I : xm_Mem → Prop} {la : Launch} (hE : I = xm_I) (σ : xm_Mem) (x1 : Int) (x2 : Int) (h1 : xm_in x1) (h2 : xm_in x2) : ∀ o, f_X11_titleWhy σ x1 x2 = some o → xm_M Γ I la yX11_titleWhy cX11_titleWhy 3 (some .int) 3 0 0 [.ref (xm_B Γ + 84), .int (xm_J x1), .int (xm_J x2)] σ 1 o := by
  refine xg_enter (by decide) (by simp [lg_sl, xm_rf_cat, xm_cati, xm_catr, xm_catl]) (fun X hG hI0 hla hC hQ hname => ?_)
  subst hG
  have hI := hI0.trans hE
  clear hI0 hla
  unfold f_X11_titleWhy
  refine xg_pick [0, 1, 2] (l' := [(0, .ref (xm_B (xx_G X) + 84)), (1, .int (xm_J x1)), (2, .int (xm_J x2))]) rfl ?_
  refine xg_aload_n hC dX11_titleWhy_0 rfl ?_
  refine xg_iload_n hC dX11_titleWhy_1 rfl ?_
  refine xg_callV hC (ci := 10) (w_X11_isTitle hI σ x1 h1) xl_M_X11_354 xl_V_X11_isTitle (xm_hK (a := 84) (kd := 0) (n := 10) hI rfl).2 ((xm_hK (a := 84) (kd := 0) (n := 10) hI rfl).1 _) (by decide) rfl (by decide) ⟨by decide, by decide⟩ dX11_titleWhy_2 (rest := []) rfl rfl (Nat.le_of_ble_eq_true rfl) rfl rfl (st2 := fun o => .int (xm_J o.2) :: []) (fun _ => rfl) (fun o1 k2 => ?_)
  refine xg_if_ne hC (xm_in01 k2) 12 dX11_titleWhy_5 rfl (fun c3 => ?_) (fun c4 => ?_)
  · refine xg_iconst hC dX11_titleWhy_8 ?_
    refine xg_goto hC 27 dX11_titleWhy_9 rfl ?_
    exact xg_iret hC hQ (xm_inc _ rfl) dX11_titleWhy_27
  refine xg_iload_n hC dX11_titleWhy_12 rfl ?_
  refine xg_iconst hC dX11_titleWhy_13 ?_
  refine xg_ldc hC dX11_titleWhy_14 xl_C_X11_59 ?_
  refine xg_callS hC (w_X11_isIn hI o1.1 x2 (0 : Int) (99999 : Int) h2 (xm_inc _ rfl) (xm_inc _ rfl)) xl_M_X11_10 xl_S_X11_isIn (by decide) ⟨by decide, by decide⟩ dX11_titleWhy_16 (rest := []) rfl rfl (Nat.le_of_ble_eq_true rfl) rfl rfl (st2 := fun o => .int (xm_J o.2) :: []) (fun _ => rfl) (fun o5 k6 => ?_)
  refine xg_if_eq hC (xm_in01 k6) 26 dX11_titleWhy_19 rfl (fun c7 => ?_) (fun c8 => ?_)
  · refine xg_iconst hC dX11_titleWhy_26 ?_
    exact xg_iret hC hQ (xm_inc _ rfl) dX11_titleWhy_27
  refine xg_iconst hC dX11_titleWhy_22 ?_
  refine xg_goto hC 27 dX11_titleWhy_23 rfl ?_
  exact xg_iret hC hQ (xm_inc _ rfl) dX11_titleWhy_27
theorem w_X11_holder {Γ : xm_Gm} {I : xm_Mem → Prop} {la : Launch} (hE : I = xm_I) (σ : xm_Mem) (x1 : Int) (x2 : Int) (h1 : xm_in x1) (h2 : xm_in x2) : ∀ o, f_X11_holder σ x1 x2 = some o → xm_M Γ I la yX11_holder cX11_holder 4 (some .int) 77 0 0 [.ref (xm_B Γ + 84), .int (xm_J x1), .int (xm_J x2)] σ 1 o := by
  refine xg_enter (by decide) (by simp [lg_sl, xm_rf_cat, xm_cati, xm_catr, xm_catl]) (fun X hG hI0 hla hC hQ hname => ?_)
  subst hG
  have hI := hI0.trans hE
  clear hI0 hla
  unfold f_X11_holder
  refine xg_pick [0, 1, 2] (l' := [(0, .ref (xm_B (xx_G X) + 84)), (1, .int (xm_J x1)), (2, .int (xm_J x2))]) rfl ?_
  refine xg_aload_n hC dX11_holder_0 rfl ?_
  refine xg_iload_n hC dX11_holder_1 rfl ?_
  refine xg_iload_n hC dX11_holder_2 rfl ?_
  refine xg_callV hC (ci := 10) (w_X11_titleWhy hI σ x1 x2 h1 h2) xl_M_X11_407 xl_V_X11_titleWhy (xm_hK (a := 84) (kd := 0) (n := 10) hI rfl).2 ((xm_hK (a := 84) (kd := 0) (n := 10) hI rfl).1 _) (by decide) rfl (by decide) ⟨by decide, by decide⟩ dX11_holder_3 (rest := []) rfl rfl (Nat.le_of_ble_eq_true rfl) rfl rfl (st2 := fun o => .int (xm_J o.2) :: []) (fun _ => rfl) (fun o1 k2 => ?_)
  refine xg_istore_n hC (l' := [(3, .int (xm_J o1.2)), (0, .ref (xm_B (xx_G X) + 84)), (1, .int (xm_J x1)), (2, .int (xm_J x2))]) dX11_holder_6 (by decide) rfl ?_
  refine xg_iload_n hC dX11_holder_7 rfl ?_
  refine xg_if_le hC k2 19 dX11_holder_8 rfl (fun c3 => ?_) (fun c4 => ?_)
  · refine xg_aload_n hC dX11_holder_11 rfl ?_
    refine xg_iload_n hC dX11_holder_12 rfl ?_
    refine xg_callV hC (ci := 10) (w_X11_no hI o1.1 o1.2 k2) xl_M_X11_371 xl_V_X11_no (xm_hK (a := 84) (kd := 0) (n := 10) hI rfl).2 ((xm_hK (a := 84) (kd := 0) (n := 10) hI rfl).1 _) (by decide) rfl (by decide) ⟨by decide, by decide⟩ dX11_holder_13 (rest := []) rfl rfl (Nat.le_of_ble_eq_true rfl) rfl rfl (st2 := fun o => .int (xm_J o.2) :: []) (fun _ => rfl) (fun o5 k6 => ?_)
    refine xg_goto hC 29 dX11_holder_16 rfl ?_
    exact xg_iret hC hQ k6 dX11_holder_29
  refine xg_aload_n hC dX11_holder_19 rfl ?_
  refine xg_aload_n hC dX11_holder_20 rfl ?_
  refine xg_iload_n hC dX11_holder_21 rfl ?_
  refine xg_iload_n hC dX11_holder_22 rfl ?_
  refine xg_callV hC (ci := 10) (w_X11_stateOn hI o1.1 x1 x2 h1 h2) xl_M_X11_410 xl_V_X11_stateOn (xm_hK (a := 84) (kd := 0) (n := 10) hI rfl).2 ((xm_hK (a := 84) (kd := 0) (n := 10) hI rfl).1 _) (by decide) rfl (by decide) ⟨by decide, by decide⟩ dX11_holder_23 (rest := [.ref (xm_B (xx_G X) + 84)]) rfl rfl (Nat.le_of_ble_eq_true rfl) rfl rfl (st2 := fun o => .int (xm_J o.2) :: [.ref (xm_B (xx_G X) + 84)]) (fun _ => rfl) (fun o7 k8 => ?_)
  refine xg_callV hC (ci := 10) (w_X11_fine hI o7.1 o7.2 k8) xl_M_X11_374 xl_V_X11_fine (xm_hK (a := 84) (kd := 0) (n := 10) hI rfl).2 ((xm_hK (a := 84) (kd := 0) (n := 10) hI rfl).1 _) (by decide) rfl (by decide) ⟨by decide, by decide⟩ dX11_holder_26 (rest := []) rfl rfl (Nat.le_of_ble_eq_true rfl) rfl rfl (st2 := fun o => .int (xm_J o.2) :: []) (fun _ => rfl) (fun o9 k10 => ?_)
  exact xg_iret hC hQ k10 dX11_holder_29
theorem w_X11_since {Γ : xm_Gm} {I : xm_Mem → Prop} {la : Launch} (hE : I = xm_I) (σ : xm_Mem) (x1 : Int) (x2 : Int) (h1 : xm_in x1) (h2 : xm_in x2) : ∀ o, f_X11_since σ x1 x2 = some o → xm_M Γ I la yX11_since cX11_since 5 (some .int) 76 0 0 [.ref (xm_B Γ + 84), .int (xm_J x1), .int (xm_J x2)] σ 1 o := by
  refine xg_enter (by decide) (by simp [lg_sl, xm_rf_cat, xm_cati, xm_catr, xm_catl]) (fun X hG hI0 hla hC hQ hname => ?_)
  subst hG
  have hI := hI0.trans hE
  clear hI0 hla
  unfold f_X11_since
  refine xg_pick [0, 1, 2] (l' := [(0, .ref (xm_B (xx_G X) + 84)), (1, .int (xm_J x1)), (2, .int (xm_J x2))]) rfl ?_
  refine xg_aload_n hC dX11_since_0 rfl ?_
  refine xg_iload_n hC dX11_since_1 rfl ?_
  refine xg_iload_n hC dX11_since_2 rfl ?_
  refine xg_callV hC (ci := 10) (w_X11_titleWhy hI σ x1 x2 h1 h2) xl_M_X11_407 xl_V_X11_titleWhy (xm_hK (a := 84) (kd := 0) (n := 10) hI rfl).2 ((xm_hK (a := 84) (kd := 0) (n := 10) hI rfl).1 _) (by decide) rfl (by decide) ⟨by decide, by decide⟩ dX11_since_3 (rest := []) rfl rfl (Nat.le_of_ble_eq_true rfl) rfl rfl (st2 := fun o => .int (xm_J o.2) :: []) (fun _ => rfl) (fun o1 k2 => ?_)
  refine xg_istore_n hC (l' := [(3, .int (xm_J o1.2)), (0, .ref (xm_B (xx_G X) + 84)), (1, .int (xm_J x1)), (2, .int (xm_J x2))]) dX11_since_6 (by decide) rfl ?_
  refine xg_iload_n hC dX11_since_7 rfl ?_
  refine xg_if_le hC k2 17 dX11_since_8 rfl (fun c3 => ?_) (fun c4 => ?_)
  · refine xg_aload_n hC dX11_since_11 rfl ?_
    refine xg_iload_n hC dX11_since_12 rfl ?_
    refine xg_callV hC (ci := 10) (w_X11_no hI o1.1 o1.2 k2) xl_M_X11_371 xl_V_X11_no (xm_hK (a := 84) (kd := 0) (n := 10) hI rfl).2 ((xm_hK (a := 84) (kd := 0) (n := 10) hI rfl).1 _) (by decide) rfl (by decide) ⟨by decide, by decide⟩ dX11_since_13 (rest := []) rfl rfl (Nat.le_of_ble_eq_true rfl) rfl rfl (st2 := fun o => .int (xm_J o.2) :: []) (fun _ => rfl) (fun o5 k6 => ?_)
    exact xg_iret hC hQ k6 dX11_since_16
  refine xg_aload_n hC dX11_since_17 rfl ?_
  refine xg_iload_n hC dX11_since_18 rfl ?_
  refine xg_iload_n hC dX11_since_19 rfl ?_
  refine xg_callV hC (ci := 10) (w_X11_eventOn hI o1.1 x1 x2 h1 h2) xl_M_X11_262 xl_V_X11_eventOn (xm_hK (a := 84) (kd := 0) (n := 10) hI rfl).2 ((xm_hK (a := 84) (kd := 0) (n := 10) hI rfl).1 _) (by decide) rfl (by decide) ⟨by decide, by decide⟩ dX11_since_20 (rest := []) rfl rfl (Nat.le_of_ble_eq_true rfl) rfl rfl (st2 := fun o => .int (xm_J o.2) :: []) (fun _ => rfl) (fun o7 k8 => ?_)
  refine xg_istore hC (l' := [(4, .int (xm_J o7.2)), (3, .int (xm_J o1.2)), (0, .ref (xm_B (xx_G X) + 84)), (1, .int (xm_J x1)), (2, .int (xm_J x2))]) dX11_since_23 (by decide) rfl ?_
  refine xg_aload_n hC dX11_since_25 rfl ?_
  refine xg_iload hC dX11_since_26 rfl ?_
  refine xg_if_ge hC k8 35 dX11_since_28 rfl (fun c9 => ?_) (fun c10 => ?_)
  · refine xg_iconst hC dX11_since_31 ?_
    refine xg_goto hC 42 dX11_since_32 rfl ?_
    refine xg_callV hC (ci := 10) (w_X11_fine hI o7.1 (-1 : Int) (xm_inc _ rfl)) xl_M_X11_374 xl_V_X11_fine (xm_hK (a := 84) (kd := 0) (n := 10) hI rfl).2 ((xm_hK (a := 84) (kd := 0) (n := 10) hI rfl).1 _) (by decide) rfl (by decide) ⟨by decide, by decide⟩ dX11_since_42 (rest := []) rfl rfl (Nat.le_of_ble_eq_true rfl) rfl rfl (st2 := fun o => .int (xm_J o.2) :: []) (fun _ => rfl) (fun o11 k12 => ?_)
    exact xg_iret hC hQ k12 dX11_since_45
  refine xg_aload_n hC dX11_since_35 rfl ?_
  refine xg_getW hC (b := 108) (xm_hK hI rfl) rfl (xm_wK hI rfl) (by decide) xl_F_X11_232 dX11_since_36 ?_
  refine xg_iload hC dX11_since_39 rfl ?_
  refine xg_iald hC (xm_hK hI rfl) rfl k8 dX11_since_41 (fun b13 k14 => ?_)
  refine xg_callV hC (ci := 10) (w_X11_fine hI o7.1 (o7.1.1 108 o7.2.toNat) k14) xl_M_X11_374 xl_V_X11_fine (xm_hK (a := 84) (kd := 0) (n := 10) hI rfl).2 ((xm_hK (a := 84) (kd := 0) (n := 10) hI rfl).1 _) (by decide) rfl (by decide) ⟨by decide, by decide⟩ dX11_since_42 (rest := []) rfl rfl (Nat.le_of_ble_eq_true rfl) rfl rfl (st2 := fun o => .int (xm_J o.2) :: []) (fun _ => rfl) (fun o15 k16 => ?_)
  exact xg_iret hC hQ k16 dX11_since_45
theorem w_X11_line {Γ : xm_Gm} {I : xm_Mem → Prop} {la : Launch} (hE : I = xm_I) (σ : xm_Mem) (x1 : Int) (x2 : Int) (x3 : Int) (h1 : xm_in x1) (h2 : xm_in x2) (h3 : xm_in x3) : ∀ o, f_X11_line σ x1 x2 x3 = some o → xm_M Γ I la yX11_line cX11_line 5 (some .int) 77 0 0 [.ref (xm_B Γ + 84), .int (xm_J x1), .int (xm_J x2), .int (xm_J x3)] σ 1 o := by
  refine xg_enter (by decide) (by simp [lg_sl, xm_rf_cat, xm_cati, xm_catr, xm_catl]) (fun X hG hI0 hla hC hQ hname => ?_)
  subst hG
  have hI := hI0.trans hE
  clear hI0 hla
  unfold f_X11_line
  refine xg_pick [0, 1, 2, 3] (l' := [(0, .ref (xm_B (xx_G X) + 84)), (1, .int (xm_J x1)), (2, .int (xm_J x2)), (3, .int (xm_J x3))]) rfl ?_
  refine xg_aload_n hC dX11_line_0 rfl ?_
  refine xg_iload_n hC dX11_line_1 rfl ?_
  refine xg_iload_n hC dX11_line_2 rfl ?_
  refine xg_callV hC (ci := 10) (w_X11_titleWhy hI σ x1 x2 h1 h2) xl_M_X11_407 xl_V_X11_titleWhy (xm_hK (a := 84) (kd := 0) (n := 10) hI rfl).2 ((xm_hK (a := 84) (kd := 0) (n := 10) hI rfl).1 _) (by decide) rfl (by decide) ⟨by decide, by decide⟩ dX11_line_3 (rest := []) rfl rfl (Nat.le_of_ble_eq_true rfl) rfl rfl (st2 := fun o => .int (xm_J o.2) :: []) (fun _ => rfl) (fun o1 k2 => ?_)
  refine xg_istore hC (l' := [(4, .int (xm_J o1.2)), (0, .ref (xm_B (xx_G X) + 84)), (1, .int (xm_J x1)), (2, .int (xm_J x2)), (3, .int (xm_J x3))]) dX11_line_6 (by decide) rfl ?_
  refine xg_iload hC dX11_line_8 rfl ?_
  refine xg_if_le hC k2 20 dX11_line_10 rfl (fun c3 => ?_) (fun c4 => ?_)
  · refine xg_aload_n hC dX11_line_13 rfl ?_
    refine xg_iload hC dX11_line_14 rfl ?_
    refine xg_callV hC (ci := 10) (w_X11_no hI o1.1 o1.2 k2) xl_M_X11_371 xl_V_X11_no (xm_hK (a := 84) (kd := 0) (n := 10) hI rfl).2 ((xm_hK (a := 84) (kd := 0) (n := 10) hI rfl).1 _) (by decide) rfl (by decide) ⟨by decide, by decide⟩ dX11_line_16 (rest := []) rfl rfl (Nat.le_of_ble_eq_true rfl) rfl rfl (st2 := fun o => .int (xm_J o.2) :: []) (fun _ => rfl) (fun o5 k6 => ?_)
    exact xg_iret hC hQ k6 dX11_line_19
  refine xg_aload_n hC dX11_line_20 rfl ?_
  refine xg_iload_n hC dX11_line_21 rfl ?_
  refine xg_iload_n hC dX11_line_22 rfl ?_
  refine xg_callV hC (ci := 10) (w_X11_lineOn hI o1.1 x1 x2 h1 h2) xl_M_X11_413 xl_V_X11_lineOn (xm_hK (a := 84) (kd := 0) (n := 10) hI rfl).2 ((xm_hK (a := 84) (kd := 0) (n := 10) hI rfl).1 _) (by decide) rfl (by decide) ⟨by decide, by decide⟩ dX11_line_23 (rest := []) rfl rfl (Nat.le_of_ble_eq_true rfl) rfl rfl (st2 := fun o => []) (fun _ => rfl) (fun o7 k8 => ?_)
  refine xg_iload_n hC dX11_line_26 rfl ?_
  refine xg_iconst hC dX11_line_27 ?_
  refine xg_aload_n hC dX11_line_28 rfl ?_
  refine xg_getI hC (xm_hK hI rfl) rfl xl_F_X11_166 dX11_line_29 (fun k9 => ?_)
  refine xg_iconst hC dX11_line_32 ?_
  refine xg_isub hC dX11_line_33 ?_
  refine xg_callS hC (w_X11_isIn hI o7.1 x3 (0 : Int) (xm_w ((o7.1.1 84 27) - (1 : Int))) h3 (xm_inc _ rfl) (xm_w_in _)) xl_M_X11_10 xl_S_X11_isIn (by decide) ⟨by decide, by decide⟩ dX11_line_34 (rest := []) rfl rfl (Nat.le_of_ble_eq_true rfl) rfl rfl (st2 := fun o => .int (xm_J o.2) :: []) (fun _ => rfl) (fun o10 k11 => ?_)
  refine xg_if_eq hC (xm_in01 k11) 53 dX11_line_37 rfl (fun c12 => ?_) (fun c13 => ?_)
  · refine xg_aload_n hC dX11_line_53 rfl ?_
    refine xg_iconst hC dX11_line_54 ?_
    refine xg_callV hC (ci := 10) (w_X11_no hI o10.1 (1 : Int) (xm_inc _ rfl)) xl_M_X11_371 xl_V_X11_no (xm_hK (a := 84) (kd := 0) (n := 10) hI rfl).2 ((xm_hK (a := 84) (kd := 0) (n := 10) hI rfl).1 _) (by decide) rfl (by decide) ⟨by decide, by decide⟩ dX11_line_55 (rest := []) rfl rfl (Nat.le_of_ble_eq_true rfl) rfl rfl (st2 := fun o => .int (xm_J o.2) :: []) (fun _ => rfl) (fun o14 k15 => ?_)
    exact xg_iret hC hQ k15 dX11_line_58
  refine xg_aload_n hC dX11_line_40 rfl ?_
  refine xg_aload_n hC dX11_line_41 rfl ?_
  refine xg_getW hC (b := 101) (xm_hK hI rfl) rfl (xm_wK hI rfl) (by decide) xl_F_X11_163 dX11_line_42 ?_
  refine xg_iload_n hC dX11_line_45 rfl ?_
  refine xg_iald hC (xm_hK hI rfl) rfl h3 dX11_line_46 (fun b16 k17 => ?_)
  refine xg_callV hC (ci := 10) (w_X11_fine hI o10.1 (o10.1.1 101 x3.toNat) k17) xl_M_X11_374 xl_V_X11_fine (xm_hK (a := 84) (kd := 0) (n := 10) hI rfl).2 ((xm_hK (a := 84) (kd := 0) (n := 10) hI rfl).1 _) (by decide) rfl (by decide) ⟨by decide, by decide⟩ dX11_line_47 (rest := []) rfl rfl (Nat.le_of_ble_eq_true rfl) rfl rfl (st2 := fun o => .int (xm_J o.2) :: []) (fun _ => rfl) (fun o18 k19 => ?_)
  refine xg_goto hC 58 dX11_line_50 rfl ?_
  exact xg_iret hC hQ k19 dX11_line_58
theorem w_X11_rank {Γ : xm_Gm} {I : xm_Mem → Prop} {la : Launch} (hE : I = xm_I) (σ : xm_Mem) (x1 : Int) (x2 : Int) (x3 : Int) (h1 : xm_in x1) (h2 : xm_in x2) (h3 : xm_in x3) : ∀ o, f_X11_rank σ x1 x2 x3 = some o → xm_M Γ I la yX11_rank cX11_rank 4 (some .int) 77 0 0 [.ref (xm_B Γ + 84), .int (xm_J x1), .int (xm_J x2), .int (xm_J x3)] σ 1 o := by
  refine xg_enter (by decide) (by simp [lg_sl, xm_rf_cat, xm_cati, xm_catr, xm_catl]) (fun X hG hI0 hla hC hQ hname => ?_)
  subst hG
  have hI := hI0.trans hE
  clear hI0 hla
  unfold f_X11_rank
  refine xg_pick [0, 1, 2, 3] (l' := [(0, .ref (xm_B (xx_G X) + 84)), (1, .int (xm_J x1)), (2, .int (xm_J x2)), (3, .int (xm_J x3))]) rfl ?_
  refine xg_aload_n hC dX11_rank_0 rfl ?_
  refine xg_iload_n hC dX11_rank_1 rfl ?_
  refine xg_callV hC (ci := 10) (w_X11_isTitle hI σ x1 h1) xl_M_X11_354 xl_V_X11_isTitle (xm_hK (a := 84) (kd := 0) (n := 10) hI rfl).2 ((xm_hK (a := 84) (kd := 0) (n := 10) hI rfl).1 _) (by decide) rfl (by decide) ⟨by decide, by decide⟩ dX11_rank_2 (rest := []) rfl rfl (Nat.le_of_ble_eq_true rfl) rfl rfl (st2 := fun o => .int (xm_J o.2) :: []) (fun _ => rfl) (fun o1 k2 => ?_)
  refine xg_if_eq hC (xm_in01 k2) 16 dX11_rank_5 rfl (fun c3 => ?_) (fun c4 => ?_)
  · refine xg_aload_n hC dX11_rank_16 rfl ?_
    refine xg_iconst hC dX11_rank_17 ?_
    refine xg_callV hC (ci := 10) (w_X11_no hI o1.1 (1 : Int) (xm_inc _ rfl)) xl_M_X11_371 xl_V_X11_no (xm_hK (a := 84) (kd := 0) (n := 10) hI rfl).2 ((xm_hK (a := 84) (kd := 0) (n := 10) hI rfl).1 _) (by decide) rfl (by decide) ⟨by decide, by decide⟩ dX11_rank_18 (rest := []) rfl rfl (Nat.le_of_ble_eq_true rfl) rfl rfl (st2 := fun o => .int (xm_J o.2) :: []) (fun _ => rfl) (fun o5 k6 => ?_)
    exact xg_iret hC hQ k6 dX11_rank_21
  refine xg_aload_n hC dX11_rank_8 rfl ?_
  refine xg_iload_n hC dX11_rank_9 rfl ?_
  refine xg_callV hC (ci := 10) (w_X11_isPerson hI o1.1 x2 h2) xl_M_X11_123 xl_V_X11_isPerson (xm_hK (a := 84) (kd := 0) (n := 10) hI rfl).2 ((xm_hK (a := 84) (kd := 0) (n := 10) hI rfl).1 _) (by decide) rfl (by decide) ⟨by decide, by decide⟩ dX11_rank_10 (rest := []) rfl rfl (Nat.le_of_ble_eq_true rfl) rfl rfl (st2 := fun o => .int (xm_J o.2) :: []) (fun _ => rfl) (fun o7 k8 => ?_)
  refine xg_if_ne hC (xm_in01 k8) 22 dX11_rank_13 rfl (fun c9 => ?_) (fun c10 => ?_)
  · refine xg_aload_n hC dX11_rank_16 rfl ?_
    refine xg_iconst hC dX11_rank_17 ?_
    refine xg_callV hC (ci := 10) (w_X11_no hI o7.1 (1 : Int) (xm_inc _ rfl)) xl_M_X11_371 xl_V_X11_no (xm_hK (a := 84) (kd := 0) (n := 10) hI rfl).2 ((xm_hK (a := 84) (kd := 0) (n := 10) hI rfl).1 _) (by decide) rfl (by decide) ⟨by decide, by decide⟩ dX11_rank_18 (rest := []) rfl rfl (Nat.le_of_ble_eq_true rfl) rfl rfl (st2 := fun o => .int (xm_J o.2) :: []) (fun _ => rfl) (fun o11 k12 => ?_)
    exact xg_iret hC hQ k12 dX11_rank_21
  refine xg_iload_n hC dX11_rank_22 rfl ?_
  refine xg_iconst hC dX11_rank_23 ?_
  refine xg_ldc hC dX11_rank_24 xl_C_X11_59 ?_
  refine xg_callS hC (w_X11_isIn hI o7.1 x3 (0 : Int) (99999 : Int) h3 (xm_inc _ rfl) (xm_inc _ rfl)) xl_M_X11_10 xl_S_X11_isIn (by decide) ⟨by decide, by decide⟩ dX11_rank_26 (rest := []) rfl rfl (Nat.le_of_ble_eq_true rfl) rfl rfl (st2 := fun o => .int (xm_J o.2) :: []) (fun _ => rfl) (fun o13 k14 => ?_)
  refine xg_if_ne hC (xm_in01 k14) 38 dX11_rank_29 rfl (fun c15 => ?_) (fun c16 => ?_)
  · refine xg_aload_n hC dX11_rank_32 rfl ?_
    refine xg_iconst hC dX11_rank_33 ?_
    refine xg_callV hC (ci := 10) (w_X11_no hI o13.1 (3 : Int) (xm_inc _ rfl)) xl_M_X11_371 xl_V_X11_no (xm_hK (a := 84) (kd := 0) (n := 10) hI rfl).2 ((xm_hK (a := 84) (kd := 0) (n := 10) hI rfl).1 _) (by decide) rfl (by decide) ⟨by decide, by decide⟩ dX11_rank_34 (rest := []) rfl rfl (Nat.le_of_ble_eq_true rfl) rfl rfl (st2 := fun o => .int (xm_J o.2) :: []) (fun _ => rfl) (fun o17 k18 => ?_)
    exact xg_iret hC hQ k18 dX11_rank_37
  refine xg_aload_n hC dX11_rank_38 rfl ?_
  refine xg_iload_n hC dX11_rank_39 rfl ?_
  refine xg_iload_n hC dX11_rank_40 rfl ?_
  refine xg_callV hC (ci := 10) (w_X11_lineOn hI o13.1 x1 x3 h1 h3) xl_M_X11_413 xl_V_X11_lineOn (xm_hK (a := 84) (kd := 0) (n := 10) hI rfl).2 ((xm_hK (a := 84) (kd := 0) (n := 10) hI rfl).1 _) (by decide) rfl (by decide) ⟨by decide, by decide⟩ dX11_rank_41 (rest := []) rfl rfl (Nat.le_of_ble_eq_true rfl) rfl rfl (st2 := fun o => []) (fun _ => rfl) (fun o19 k20 => ?_)
  refine xg_aload_n hC dX11_rank_44 rfl ?_
  refine xg_aload_n hC dX11_rank_45 rfl ?_
  refine xg_iload_n hC dX11_rank_46 rfl ?_
  refine xg_callV hC (ci := 10) (w_X11_placeOf hI o19.1 x2 h2) xl_M_X11_214 xl_V_X11_placeOf (xm_hK (a := 84) (kd := 0) (n := 10) hI rfl).2 ((xm_hK (a := 84) (kd := 0) (n := 10) hI rfl).1 _) (by decide) rfl (by decide) ⟨by decide, by decide⟩ dX11_rank_47 (rest := [.ref (xm_B (xx_G X) + 84)]) rfl rfl (Nat.le_of_ble_eq_true rfl) rfl rfl (st2 := fun o => .int (xm_J o.2) :: [.ref (xm_B (xx_G X) + 84)]) (fun _ => rfl) (fun o21 k22 => ?_)
  refine xg_callV hC (ci := 10) (w_X11_fine hI o21.1 o21.2 k22) xl_M_X11_374 xl_V_X11_fine (xm_hK (a := 84) (kd := 0) (n := 10) hI rfl).2 ((xm_hK (a := 84) (kd := 0) (n := 10) hI rfl).1 _) (by decide) rfl (by decide) ⟨by decide, by decide⟩ dX11_rank_50 (rest := []) rfl rfl (Nat.le_of_ble_eq_true rfl) rfl rfl (st2 := fun o => .int (xm_J o.2) :: []) (fun _ => rfl) (fun o23 k24 => ?_)
  exact xg_iret hC hQ k24 dX11_rank_53
theorem w_X11_coheir {Γ : xm_Gm} {I : xm_Mem → Prop} {la : Launch} (hE : I = xm_I) (σ : xm_Mem) (x1 : Int) (x2 : Int) (x3 : Int) (h1 : xm_in x1) (h2 : xm_in x2) (h3 : xm_in x3) : ∀ o, f_X11_coheir σ x1 x2 x3 = some o → xm_M Γ I la yX11_coheir cX11_coheir 6 (some .int) 76 0 0 [.ref (xm_B Γ + 84), .int (xm_J x1), .int (xm_J x2), .int (xm_J x3)] σ 1 o := by
  refine xg_enter (by decide) (by simp [lg_sl, xm_rf_cat, xm_cati, xm_catr, xm_catl]) (fun X hG hI0 hla hC hQ hname => ?_)
  subst hG
  have hI := hI0.trans hE
  clear hI0 hla
  unfold f_X11_coheir
  refine xg_pick [0, 1, 2, 3] (l' := [(0, .ref (xm_B (xx_G X) + 84)), (1, .int (xm_J x1)), (2, .int (xm_J x2)), (3, .int (xm_J x3))]) rfl ?_
  refine xg_aload_n hC dX11_coheir_0 rfl ?_
  refine xg_iload_n hC dX11_coheir_1 rfl ?_
  refine xg_iload_n hC dX11_coheir_2 rfl ?_
  refine xg_callV hC (ci := 10) (w_X11_titleWhy hI σ x1 x2 h1 h2) xl_M_X11_407 xl_V_X11_titleWhy (xm_hK (a := 84) (kd := 0) (n := 10) hI rfl).2 ((xm_hK (a := 84) (kd := 0) (n := 10) hI rfl).1 _) (by decide) rfl (by decide) ⟨by decide, by decide⟩ dX11_coheir_3 (rest := []) rfl rfl (Nat.le_of_ble_eq_true rfl) rfl rfl (st2 := fun o => .int (xm_J o.2) :: []) (fun _ => rfl) (fun o1 k2 => ?_)
  refine xg_istore hC (l' := [(4, .int (xm_J o1.2)), (0, .ref (xm_B (xx_G X) + 84)), (1, .int (xm_J x1)), (2, .int (xm_J x2)), (3, .int (xm_J x3))]) dX11_coheir_6 (by decide) rfl ?_
  refine xg_iload hC dX11_coheir_8 rfl ?_
  refine xg_if_le hC k2 20 dX11_coheir_10 rfl (fun c3 => ?_) (fun c4 => ?_)
  · refine xg_aload_n hC dX11_coheir_13 rfl ?_
    refine xg_iload hC dX11_coheir_14 rfl ?_
    refine xg_callV hC (ci := 10) (w_X11_no hI o1.1 o1.2 k2) xl_M_X11_371 xl_V_X11_no (xm_hK (a := 84) (kd := 0) (n := 10) hI rfl).2 ((xm_hK (a := 84) (kd := 0) (n := 10) hI rfl).1 _) (by decide) rfl (by decide) ⟨by decide, by decide⟩ dX11_coheir_16 (rest := []) rfl rfl (Nat.le_of_ble_eq_true rfl) rfl rfl (st2 := fun o => .int (xm_J o.2) :: []) (fun _ => rfl) (fun o5 k6 => ?_)
    exact xg_iret hC hQ k6 dX11_coheir_19
  refine xg_aload_n hC dX11_coheir_20 rfl ?_
  refine xg_iload_n hC dX11_coheir_21 rfl ?_
  refine xg_iload_n hC dX11_coheir_22 rfl ?_
  refine xg_callV hC (ci := 10) (w_X11_eventOn hI o1.1 x1 x2 h1 h2) xl_M_X11_262 xl_V_X11_eventOn (xm_hK (a := 84) (kd := 0) (n := 10) hI rfl).2 ((xm_hK (a := 84) (kd := 0) (n := 10) hI rfl).1 _) (by decide) rfl (by decide) ⟨by decide, by decide⟩ dX11_coheir_23 (rest := []) rfl rfl (Nat.le_of_ble_eq_true rfl) rfl rfl (st2 := fun o => .int (xm_J o.2) :: []) (fun _ => rfl) (fun o7 k8 => ?_)
  refine xg_istore hC (l' := [(5, .int (xm_J o7.2)), (4, .int (xm_J o1.2)), (0, .ref (xm_B (xx_G X) + 84)), (1, .int (xm_J x1)), (2, .int (xm_J x2)), (3, .int (xm_J x3))]) dX11_coheir_26 (by decide) rfl ?_
  refine xg_iload hC dX11_coheir_28 rfl ?_
  refine xg_if_lt hC k8 45 dX11_coheir_30 rfl (fun c9 => ?_) (fun c10 => ?_)
  · refine xg_aload_n hC dX11_coheir_45 rfl ?_
    refine xg_iconst hC dX11_coheir_46 ?_
    refine xg_callV hC (ci := 10) (w_X11_no hI o7.1 (1 : Int) (xm_inc _ rfl)) xl_M_X11_371 xl_V_X11_no (xm_hK (a := 84) (kd := 0) (n := 10) hI rfl).2 ((xm_hK (a := 84) (kd := 0) (n := 10) hI rfl).1 _) (by decide) rfl (by decide) ⟨by decide, by decide⟩ dX11_coheir_47 (rest := []) rfl rfl (Nat.le_of_ble_eq_true rfl) rfl rfl (st2 := fun o => .int (xm_J o.2) :: []) (fun _ => rfl) (fun o11 k12 => ?_)
    exact xg_iret hC hQ k12 dX11_coheir_50
  refine xg_aload_n hC dX11_coheir_33 rfl ?_
  refine xg_getW hC (b := 106) (xm_hK hI rfl) rfl (xm_wK hI rfl) (by decide) xl_F_X11_226 dX11_coheir_34 ?_
  refine xg_iload hC dX11_coheir_37 rfl ?_
  refine xg_iald hC (xm_hK hI rfl) rfl k8 dX11_coheir_39 (fun b13 k14 => ?_)
  refine xg_bipush hC dX11_coheir_40 (by decide) ?_
  refine xg_icmp_eq hC k14 (xm_inc _ rfl) 51 dX11_coheir_42 rfl (fun c15 => ?_) (fun c16 => ?_)
  · refine xg_aload_n hC dX11_coheir_51 rfl ?_
    refine xg_aload_n hC dX11_coheir_52 rfl ?_
    refine xg_getW hC (b := 107) (xm_hK hI rfl) rfl (xm_wK hI rfl) (by decide) xl_F_X11_229 dX11_coheir_53 ?_
    refine xg_iload hC dX11_coheir_56 rfl ?_
    refine xg_iald hC (xm_hK hI rfl) rfl k8 dX11_coheir_58 (fun b17 k18 => ?_)
    refine xg_putI hC (xm_hK hI rfl) rfl rfl k18 (xm_kpK hI rfl) xl_F_X11_186 dX11_coheir_59 ?_
    refine xg_st (fun σ19 => ?_)
    refine xg_aload_n hC dX11_coheir_62 rfl ?_
    refine xg_iload_n hC dX11_coheir_63 rfl ?_
    refine xg_iload_n hC dX11_coheir_64 rfl ?_
    refine xg_callV hC (ci := 10) (w_X11_passes hI σ19 x1 x2 h1 h2) xl_M_X11_248 xl_V_X11_passes (xm_hK (a := 84) (kd := 0) (n := 10) hI rfl).2 ((xm_hK (a := 84) (kd := 0) (n := 10) hI rfl).1 _) (by decide) rfl (by decide) ⟨by decide, by decide⟩ dX11_coheir_65 (rest := []) rfl rfl (Nat.le_of_ble_eq_true rfl) rfl rfl (st2 := fun o => []) (fun _ => rfl) (fun o20 k21 => ?_)
    refine xg_iload_n hC dX11_coheir_68 rfl ?_
    refine xg_iconst hC dX11_coheir_69 ?_
    refine xg_aload_n hC dX11_coheir_70 rfl ?_
    refine xg_getI hC (xm_hK hI rfl) rfl xl_F_X11_192 dX11_coheir_71 (fun k22 => ?_)
    refine xg_iconst hC dX11_coheir_74 ?_
    refine xg_isub hC dX11_coheir_75 ?_
    refine xg_callS hC (w_X11_isIn hI o20.1 x3 (0 : Int) (xm_w ((o20.1.1 84 33) - (1 : Int))) h3 (xm_inc _ rfl) (xm_w_in _)) xl_M_X11_10 xl_S_X11_isIn (by decide) ⟨by decide, by decide⟩ dX11_coheir_76 (rest := []) rfl rfl (Nat.le_of_ble_eq_true rfl) rfl rfl (st2 := fun o => .int (xm_J o.2) :: []) (fun _ => rfl) (fun o23 k24 => ?_)
    refine xg_if_eq hC (xm_in01 k24) 95 dX11_coheir_79 rfl (fun c25 => ?_) (fun c26 => ?_)
    · refine xg_aload_n hC dX11_coheir_95 rfl ?_
      refine xg_iconst hC dX11_coheir_96 ?_
      refine xg_callV hC (ci := 10) (w_X11_no hI o23.1 (1 : Int) (xm_inc _ rfl)) xl_M_X11_371 xl_V_X11_no (xm_hK (a := 84) (kd := 0) (n := 10) hI rfl).2 ((xm_hK (a := 84) (kd := 0) (n := 10) hI rfl).1 _) (by decide) rfl (by decide) ⟨by decide, by decide⟩ dX11_coheir_97 (rest := []) rfl rfl (Nat.le_of_ble_eq_true rfl) rfl rfl (st2 := fun o => .int (xm_J o.2) :: []) (fun _ => rfl) (fun o27 k28 => ?_)
      exact xg_iret hC hQ k28 dX11_coheir_100
    refine xg_aload_n hC dX11_coheir_82 rfl ?_
    refine xg_aload_n hC dX11_coheir_83 rfl ?_
    refine xg_getW hC (b := 103) (xm_hK hI rfl) rfl (xm_wK hI rfl) (by decide) xl_F_X11_211 dX11_coheir_84 ?_
    refine xg_iload_n hC dX11_coheir_87 rfl ?_
    refine xg_iald hC (xm_hK hI rfl) rfl h3 dX11_coheir_88 (fun b29 k30 => ?_)
    refine xg_callV hC (ci := 10) (w_X11_fine hI o23.1 (o23.1.1 103 x3.toNat) k30) xl_M_X11_374 xl_V_X11_fine (xm_hK (a := 84) (kd := 0) (n := 10) hI rfl).2 ((xm_hK (a := 84) (kd := 0) (n := 10) hI rfl).1 _) (by decide) rfl (by decide) ⟨by decide, by decide⟩ dX11_coheir_89 (rest := []) rfl rfl (Nat.le_of_ble_eq_true rfl) rfl rfl (st2 := fun o => .int (xm_J o.2) :: []) (fun _ => rfl) (fun o31 k32 => ?_)
    refine xg_goto hC 100 dX11_coheir_92 rfl ?_
    exact xg_iret hC hQ k32 dX11_coheir_100
  refine xg_aload_n hC dX11_coheir_45 rfl ?_
  refine xg_iconst hC dX11_coheir_46 ?_
  refine xg_callV hC (ci := 10) (w_X11_no hI o7.1 (1 : Int) (xm_inc _ rfl)) xl_M_X11_371 xl_V_X11_no (xm_hK (a := 84) (kd := 0) (n := 10) hI rfl).2 ((xm_hK (a := 84) (kd := 0) (n := 10) hI rfl).1 _) (by decide) rfl (by decide) ⟨by decide, by decide⟩ dX11_coheir_47 (rest := []) rfl rfl (Nat.le_of_ble_eq_true rfl) rfl rfl (st2 := fun o => .int (xm_J o.2) :: []) (fun _ => rfl) (fun o33 k34 => ?_)
  exact xg_iret hC hQ k34 dX11_coheir_50
theorem w_X11_begins {Γ : xm_Gm} {I : xm_Mem → Prop} {la : Launch} (hE : I = xm_I) (σ : xm_Mem) (x1 : Int) (x2 : Int) (h1 : xm_in x1) (h2 : xm_in x2) : ∀ o, f_X11_begins σ x1 x2 = some o → xm_M Γ I la yX11_begins cX11_begins 3 (some .boolean) 1 0 0 [.ref (xm_B Γ + 84), .int (xm_J x1), .int (xm_J x2)] σ 2 o := by
  refine xg_enter (by decide) (by simp [lg_sl, xm_rf_cat, xm_cati, xm_catr, xm_catl]) (fun X hG hI0 hla hC hQ hname => ?_)
  subst hG
  have hI := hI0.trans hE
  clear hI0 hla
  unfold f_X11_begins
  refine xg_pick [0, 1, 2] (l' := [(0, .ref (xm_B (xx_G X) + 84)), (1, .int (xm_J x1)), (2, .int (xm_J x2))]) rfl ?_
  refine xg_iload_n hC dX11_begins_0 rfl ?_
  refine xg_if_eq hC h2 33 dX11_begins_1 rfl (fun c1 => ?_) (fun c2 => ?_)
  · refine xg_iconst hC dX11_begins_33 ?_
    refine xg_goto hC 38 dX11_begins_34 rfl ?_
    exact xg_zret hC hQ (by decide) dX11_begins_38
  refine xg_aload_n hC dX11_begins_4 rfl ?_
  refine xg_getW hC (b := 108) (xm_hK hI rfl) rfl (xm_wK hI rfl) (by decide) xl_F_X11_232 dX11_begins_5 ?_
  refine xg_sipush hC dX11_begins_8 (by decide) ?_
  refine xg_iload_n hC dX11_begins_11 rfl ?_
  refine xg_imul hC dX11_begins_12 ?_
  refine xg_iload_n hC dX11_begins_13 rfl ?_
  refine xg_iadd hC dX11_begins_14 ?_
  refine xg_vI (xm_w_in _) (fun v3 k4 => ?_)
  refine xg_iald hC (xm_hK hI rfl) rfl k4 dX11_begins_15 (fun b5 k6 => ?_)
  refine xg_aload_n hC dX11_begins_16 rfl ?_
  refine xg_getW hC (b := 108) (xm_hK hI rfl) rfl (xm_wK hI rfl) (by decide) xl_F_X11_232 dX11_begins_17 ?_
  refine xg_sipush hC dX11_begins_20 (by decide) ?_
  refine xg_iload_n hC dX11_begins_23 rfl ?_
  refine xg_imul hC dX11_begins_24 ?_
  refine xg_iload_n hC dX11_begins_25 rfl ?_
  refine xg_iadd hC dX11_begins_26 ?_
  refine xg_iconst hC dX11_begins_27 ?_
  refine xg_isub hC dX11_begins_28 ?_
  refine xg_vI (xm_w_in _) (fun v7 k8 => ?_)
  refine xg_iald hC (xm_hK hI rfl) rfl k8 dX11_begins_29 (fun b9 k10 => ?_)
  refine xg_icmp_eq hC k6 k10 37 dX11_begins_30 rfl (fun c11 => ?_) (fun c12 => ?_)
  · refine xg_iconst hC dX11_begins_37 ?_
    exact xg_zret hC hQ (by decide) dX11_begins_38
  refine xg_iconst hC dX11_begins_33 ?_
  refine xg_goto hC 38 dX11_begins_34 rfl ?_
  exact xg_zret hC hQ (by decide) dX11_begins_38
theorem w_X11_tenures_b23 {X : xm_X} (hC : xm_C X yX11_tenures.cls cX11_tenures 4 75 0 0) (hQ : xm_Rt X 1 (some .int) 0 0) (hI : xx_I X = xm_I) {K56 : xm_Mem → Int → Option xm_Out} (hK56 : ∀ (σ : xm_Mem) (x2 : Int), xm_in x2 → xm_V X 0 0 (K56 σ x2) σ 56 [(0, .ref (xm_B (xx_G X) + 84)), (2, .int (xm_J x2))] []) {self : xm_Mem → Int → Int → Int → Option xm_Out} (hself : ∀ (σ : xm_Mem) (x1 : Int) (x2 : Int) (x3 : Int), xm_in x1 → xm_in x2 → xm_in x3 → xm_V X 0 0 (self σ x1 x2 x3) σ 23 [(0, .ref (xm_B (xx_G X) + 84)), (1, .int (xm_J x1)), (2, .int (xm_J x2)), (3, .int (xm_J x3))] []) (σ : xm_Mem) (x1 : Int) (x2 : Int) (x3 : Int) (h1 : xm_in x1) (h2 : xm_in x2) (h3 : xm_in x3) : xm_V X 0 0 (f_X11_tenures_b23 K56 self σ x1 x2 x3) σ 23 [(0, .ref (xm_B (xx_G X) + 84)), (1, .int (xm_J x1)), (2, .int (xm_J x2)), (3, .int (xm_J x3))] [] := by
  unfold f_X11_tenures_b23
  refine xg_iload_n hC dX11_tenures_23 rfl ?_
  refine xg_aload_n hC dX11_tenures_24 rfl ?_
  refine xg_getW hC (b := 104) (xm_hK hI rfl) rfl (xm_wK hI rfl) (by decide) xl_F_X11_238 dX11_tenures_25 ?_
  refine xg_iload_n hC dX11_tenures_28 rfl ?_
  refine xg_iald hC (xm_hK hI rfl) rfl h1 dX11_tenures_29 (fun b9 k10 => ?_)
  refine xg_icmp_ge hC h3 k10 56 dX11_tenures_30 rfl (fun c11 => ?_) (fun c12 => ?_)
  · refine xg_iload_n hC dX11_tenures_33 rfl ?_
    refine xg_aload_n hC dX11_tenures_34 rfl ?_
    refine xg_iload_n hC dX11_tenures_35 rfl ?_
    refine xg_iload_n hC dX11_tenures_36 rfl ?_
    refine xg_callV hC (ci := 10) (w_X11_begins hI σ x1 x3 h1 h3) xl_M_X11_416 xl_V_X11_begins (xm_hK (a := 84) (kd := 0) (n := 10) hI rfl).2 ((xm_hK (a := 84) (kd := 0) (n := 10) hI rfl).1 _) (by decide) rfl (by decide) ⟨by decide, by decide⟩ dX11_tenures_37 (rest := [.int (xm_J x2)]) rfl rfl (Nat.le_of_ble_eq_true rfl) rfl rfl (st2 := fun o => .int (xm_J o.2) :: [.int (xm_J x2)]) (fun _ => rfl) (fun o13 k14 => ?_)
    refine xg_if_eq hC (xm_in01 k14) 47 dX11_tenures_40 rfl (fun c15 => ?_) (fun c16 => ?_)
    · refine xg_iconst hC dX11_tenures_47 ?_
      refine xg_iadd hC dX11_tenures_48 ?_
      refine xg_vI (xm_w_in _) (fun v17 k18 => ?_)
      refine xg_istore_n hC (l' := [(2, .int (xm_J v17)), (0, .ref (xm_B (xx_G X) + 84)), (1, .int (xm_J x1)), (3, .int (xm_J x3))]) dX11_tenures_49 (by decide) rfl ?_
      refine xg_iinc hC (l' := [(3, .int (xm_J (xm_w (x3 + 1)))), (2, .int (xm_J v17)), (0, .ref (xm_B (xx_G X) + 84)), (1, .int (xm_J x1))]) dX11_tenures_50 (by decide) 3 rfl rfl ?_
      refine xg_goto hC 23 dX11_tenures_53 rfl ?_
      exact xg_pick [2, 3, 1, 0] rfl (hself o13.1 x1 v17 (xm_w (x3 + 1)) h1 k18 (xm_w_in _))
    refine xg_iconst hC dX11_tenures_43 ?_
    refine xg_goto hC 48 dX11_tenures_44 rfl ?_
    refine xg_iadd hC dX11_tenures_48 ?_
    refine xg_vI (xm_w_in _) (fun v19 k20 => ?_)
    refine xg_istore_n hC (l' := [(2, .int (xm_J v19)), (0, .ref (xm_B (xx_G X) + 84)), (1, .int (xm_J x1)), (3, .int (xm_J x3))]) dX11_tenures_49 (by decide) rfl ?_
    refine xg_iinc hC (l' := [(3, .int (xm_J (xm_w (x3 + 1)))), (2, .int (xm_J v19)), (0, .ref (xm_B (xx_G X) + 84)), (1, .int (xm_J x1))]) dX11_tenures_50 (by decide) 3 rfl rfl ?_
    refine xg_goto hC 23 dX11_tenures_53 rfl ?_
    exact xg_pick [2, 3, 1, 0] rfl (hself o13.1 x1 v19 (xm_w (x3 + 1)) h1 k20 (xm_w_in _))
  exact xg_pick [0, 2] rfl (hK56 σ x2 h2)
theorem w_X11_tenures_l23 {X : xm_X} (hC : xm_C X yX11_tenures.cls cX11_tenures 4 75 0 0) (hQ : xm_Rt X 1 (some .int) 0 0) (hI : xx_I X = xm_I) {K56 : xm_Mem → Int → Option xm_Out} (hK56 : ∀ (σ : xm_Mem) (x2 : Int), xm_in x2 → xm_V X 0 0 (K56 σ x2) σ 56 [(0, .ref (xm_B (xx_G X) + 84)), (2, .int (xm_J x2))] []) (n : Nat) : ∀ (σ : xm_Mem) (x1 : Int) (x2 : Int) (x3 : Int), xm_in x1 → xm_in x2 → xm_in x3 → xm_V X 0 0 (f_X11_tenures_l23 K56 n σ x1 x2 x3) σ 23 [(0, .ref (xm_B (xx_G X) + 84)), (1, .int (xm_J x1)), (2, .int (xm_J x2)), (3, .int (xm_J x3))] [] := by
  induction n with
  | zero => intro σ x1 x2 x3 h1 h2 h3; exact xg_none
  | succ n ih => intro σ x1 x2 x3 h1 h2 h3; exact w_X11_tenures_b23 hC hQ hI hK56 ih σ x1 x2 x3 h1 h2 h3
theorem w_X11_tenures {Γ : xm_Gm} {I : xm_Mem → Prop} {la : Launch} (hE : I = xm_I) (σ : xm_Mem) (x1 : Int) (h1 : xm_in x1) : ∀ o, f_X11_tenures σ x1 = some o → xm_M Γ I la yX11_tenures cX11_tenures 4 (some .int) 75 0 0 [.ref (xm_B Γ + 84), .int (xm_J x1)] σ 1 o := by
  refine xg_enter (by decide) (by simp [lg_sl, xm_rf_cat, xm_cati, xm_catr, xm_catl]) (fun X hG hI0 hla hC hQ hname => ?_)
  subst hG
  have hI := hI0.trans hE
  clear hI0 hla
  unfold f_X11_tenures
  refine xg_pick [0, 1] (l' := [(0, .ref (xm_B (xx_G X) + 84)), (1, .int (xm_J x1))]) rfl ?_
  refine xg_aload_n hC dX11_tenures_0 rfl ?_
  refine xg_iload_n hC dX11_tenures_1 rfl ?_
  refine xg_callV hC (ci := 10) (w_X11_isTitle hI σ x1 h1) xl_M_X11_354 xl_V_X11_isTitle (xm_hK (a := 84) (kd := 0) (n := 10) hI rfl).2 ((xm_hK (a := 84) (kd := 0) (n := 10) hI rfl).1 _) (by decide) rfl (by decide) ⟨by decide, by decide⟩ dX11_tenures_2 (rest := []) rfl rfl (Nat.le_of_ble_eq_true rfl) rfl rfl (st2 := fun o => .int (xm_J o.2) :: []) (fun _ => rfl) (fun o1 k2 => ?_)
  refine xg_if_ne hC (xm_in01 k2) 14 dX11_tenures_5 rfl (fun c3 => ?_) (fun c4 => ?_)
  · refine xg_aload_n hC dX11_tenures_8 rfl ?_
    refine xg_iconst hC dX11_tenures_9 ?_
    refine xg_callV hC (ci := 10) (w_X11_no hI o1.1 (1 : Int) (xm_inc _ rfl)) xl_M_X11_371 xl_V_X11_no (xm_hK (a := 84) (kd := 0) (n := 10) hI rfl).2 ((xm_hK (a := 84) (kd := 0) (n := 10) hI rfl).1 _) (by decide) rfl (by decide) ⟨by decide, by decide⟩ dX11_tenures_10 (rest := []) rfl rfl (Nat.le_of_ble_eq_true rfl) rfl rfl (st2 := fun o => .int (xm_J o.2) :: []) (fun _ => rfl) (fun o5 k6 => ?_)
    exact xg_iret hC hQ k6 dX11_tenures_13
  refine xg_aload_n hC dX11_tenures_14 rfl ?_
  refine xg_iload_n hC dX11_tenures_15 rfl ?_
  refine xg_callV hC (ci := 10) (w_X11_goThrough hI o1.1 x1 h1) xl_M_X11_258 xl_V_X11_goThrough (xm_hK (a := 84) (kd := 0) (n := 10) hI rfl).2 ((xm_hK (a := 84) (kd := 0) (n := 10) hI rfl).1 _) (by decide) rfl (by decide) ⟨by decide, by decide⟩ dX11_tenures_16 (rest := []) rfl rfl (Nat.le_of_ble_eq_true rfl) rfl rfl (st2 := fun o => []) (fun _ => rfl) (fun o7 k8 => ?_)
  refine xg_iconst hC dX11_tenures_19 ?_
  refine xg_istore_n hC (l' := [(2, .int (xm_J (0 : Int))), (0, .ref (xm_B (xx_G X) + 84)), (1, .int (xm_J x1))]) dX11_tenures_20 (by decide) rfl ?_
  refine xg_iconst hC dX11_tenures_21 ?_
  refine xg_istore_n hC (l' := [(3, .int (xm_J (0 : Int))), (2, .int (xm_J (0 : Int))), (0, .ref (xm_B (xx_G X) + 84)), (1, .int (xm_J x1))]) dX11_tenures_22 (by decide) rfl ?_
  refine xg_pick [2, 3, 1, 0] rfl (w_X11_tenures_l23 hC hQ hI ?_ _ o7.1 x1 (0 : Int) (0 : Int) h1 (xm_inc _ rfl) (xm_inc _ rfl))
  intro σ_21 x2_21 h2_21
  refine xg_aload_n hC dX11_tenures_56 rfl ?_
  refine xg_iload_n hC dX11_tenures_57 rfl ?_
  refine xg_callV hC (ci := 10) (w_X11_fine hI σ_21 x2_21 h2_21) xl_M_X11_374 xl_V_X11_fine (xm_hK (a := 84) (kd := 0) (n := 10) hI rfl).2 ((xm_hK (a := 84) (kd := 0) (n := 10) hI rfl).1 _) (by decide) rfl (by decide) ⟨by decide, by decide⟩ dX11_tenures_58 (rest := []) rfl rfl (Nat.le_of_ble_eq_true rfl) rfl rfl (st2 := fun o => .int (xm_J o.2) :: []) (fun _ => rfl) (fun o22 k23 => ?_)
  exact xg_iret hC hQ k23 dX11_tenures_61
theorem w_X11_tenureWhy {Γ : xm_Gm} {I : xm_Mem → Prop} {la : Launch} (hE : I = xm_I) (σ : xm_Mem) (x0 : Int) (h0 : xm_in x0) : ∀ o, f_X11_tenureWhy σ x0 = some o → xm_M Γ I la yX11_tenureWhy cX11_tenureWhy 1 (some .int) 1 0 0 [.int (xm_J x0)] σ 1 o := by
  refine xg_enter (by decide) (by simp [lg_sl, xm_rf_cat, xm_cati, xm_catr, xm_catl]) (fun X hG hI0 hla hC hQ hname => ?_)
  subst hG
  have hI := hI0.trans hE
  clear hI0 hla
  unfold f_X11_tenureWhy
  refine xg_pick [0] (l' := [(0, .int (xm_J x0))]) rfl ?_
  refine xg_iload_n hC dX11_tenureWhy_0 rfl ?_
  refine xg_if_ge hC h0 8 dX11_tenureWhy_1 rfl (fun c1 => ?_) (fun c2 => ?_)
  · refine xg_iconst hC dX11_tenureWhy_4 ?_
    refine xg_goto hC 9 dX11_tenureWhy_5 rfl ?_
    exact xg_iret hC hQ (xm_inc _ rfl) dX11_tenureWhy_9
  refine xg_iconst hC dX11_tenureWhy_8 ?_
  exact xg_iret hC hQ (xm_inc _ rfl) dX11_tenureWhy_9
theorem w_X11_tenure_j56 {X : xm_X} (hC : xm_C X yX11_tenure.cls cX11_tenure 7 75 0 0) (hQ : xm_Rt X 1 (some .int) 0 0) (hI : xx_I X = xm_I) {K28 : xm_Mem → Int → Int → Int → Int → Int → Int → Option xm_Out} (hK28 : ∀ (σ : xm_Mem) (x1 : Int) (x2 : Int) (x3 : Int) (x4 : Int) (x5 : Int) (x6 : Int), xm_in x1 → xm_in x2 → xm_in x3 → xm_in x4 → xm_in x5 → xm_in x6 → xm_V X 0 0 (K28 σ x1 x2 x3 x4 x5 x6) σ 28 [(0, .ref (xm_B (xx_G X) + 84)), (1, .int (xm_J x1)), (2, .int (xm_J x2)), (3, .int (xm_J x3)), (4, .int (xm_J x4)), (5, .int (xm_J x5)), (6, .int (xm_J x6))] []) (σ : xm_Mem) (s0 : Int) (s1 : Int) (x1 : Int) (x2 : Int) (x3 : Int) (x5 : Int) (x6 : Int) (g0 : 0 ≤ s0 ∧ s0 ≤ 1) (g1 : xm_in s1) (h1 : xm_in x1) (h2 : xm_in x2) (h3 : xm_in x3) (h5 : xm_in x5) (h6 : xm_in x6) : xm_V X 0 0 (f_X11_tenure_j56 K28 σ s0 s1 x1 x2 x3 x5 x6) σ 56 [(0, .ref (xm_B (xx_G X) + 84)), (1, .int (xm_J x1)), (2, .int (xm_J x2)), (3, .int (xm_J x3)), (5, .int (xm_J x5)), (6, .int (xm_J x6))] [.int (xm_J s0), .int (xm_J s1)] := by
  unfold f_X11_tenure_j56
  refine xg_iadd hC dX11_tenure_56 ?_
  refine xg_vI (xm_w_in _) (fun v17 k18 => ?_)
  refine xg_istore hC (l' := [(4, .int (xm_J v17)), (0, .ref (xm_B (xx_G X) + 84)), (1, .int (xm_J x1)), (2, .int (xm_J x2)), (3, .int (xm_J x3)), (5, .int (xm_J x5)), (6, .int (xm_J x6))]) dX11_tenure_57 (by decide) rfl ?_
  refine xg_iload hC dX11_tenure_59 rfl ?_
  refine xg_iload_n hC dX11_tenure_61 rfl ?_
  refine xg_icmp_ne hC k18 h2 81 dX11_tenure_62 rfl (fun c19 => ?_) (fun c20 => ?_)
  · refine xg_iload hC dX11_tenure_65 rfl ?_
    refine xg_if_ge hC h5 81 dX11_tenure_67 rfl (fun c21 => ?_) (fun c22 => ?_)
    · refine xg_sipush hC dX11_tenure_70 (by decide) ?_
      refine xg_iload_n hC dX11_tenure_73 rfl ?_
      refine xg_imul hC dX11_tenure_74 ?_
      refine xg_iload hC dX11_tenure_75 rfl ?_
      refine xg_iadd hC dX11_tenure_77 ?_
      refine xg_goto hC 83 dX11_tenure_78 rfl ?_
      refine xg_vI (xm_w_in _) (fun v23 k24 => ?_)
      refine xg_istore hC (l' := [(5, .int (xm_J v23)), (4, .int (xm_J v17)), (0, .ref (xm_B (xx_G X) + 84)), (1, .int (xm_J x1)), (2, .int (xm_J x2)), (3, .int (xm_J x3)), (6, .int (xm_J x6))]) dX11_tenure_83 (by decide) rfl ?_
      refine xg_iinc hC (l' := [(6, .int (xm_J (xm_w (x6 + 1)))), (5, .int (xm_J v23)), (4, .int (xm_J v17)), (0, .ref (xm_B (xx_G X) + 84)), (1, .int (xm_J x1)), (2, .int (xm_J x2)), (3, .int (xm_J x3))]) dX11_tenure_85 (by decide) 6 rfl rfl ?_
      refine xg_goto hC 28 dX11_tenure_88 rfl ?_
      exact xg_pick [3, 4, 5, 6, 2, 1, 0] rfl (hK28 σ x1 x2 x3 v17 v23 (xm_w (x6 + 1)) h1 h2 h3 k18 k24 (xm_w_in _))
    refine xg_iload hC dX11_tenure_81 rfl ?_
    refine xg_istore hC (l' := [(5, .int (xm_J x5)), (4, .int (xm_J v17)), (0, .ref (xm_B (xx_G X) + 84)), (1, .int (xm_J x1)), (2, .int (xm_J x2)), (3, .int (xm_J x3)), (6, .int (xm_J x6))]) dX11_tenure_83 (by decide) rfl ?_
    refine xg_iinc hC (l' := [(6, .int (xm_J (xm_w (x6 + 1)))), (5, .int (xm_J x5)), (4, .int (xm_J v17)), (0, .ref (xm_B (xx_G X) + 84)), (1, .int (xm_J x1)), (2, .int (xm_J x2)), (3, .int (xm_J x3))]) dX11_tenure_85 (by decide) 6 rfl rfl ?_
    refine xg_goto hC 28 dX11_tenure_88 rfl ?_
    exact xg_pick [3, 4, 5, 6, 2, 1, 0] rfl (hK28 σ x1 x2 x3 v17 x5 (xm_w (x6 + 1)) h1 h2 h3 k18 h5 (xm_w_in _))
  refine xg_iload hC dX11_tenure_81 rfl ?_
  refine xg_istore hC (l' := [(5, .int (xm_J x5)), (4, .int (xm_J v17)), (0, .ref (xm_B (xx_G X) + 84)), (1, .int (xm_J x1)), (2, .int (xm_J x2)), (3, .int (xm_J x3)), (6, .int (xm_J x6))]) dX11_tenure_83 (by decide) rfl ?_
  refine xg_iinc hC (l' := [(6, .int (xm_J (xm_w (x6 + 1)))), (5, .int (xm_J x5)), (4, .int (xm_J v17)), (0, .ref (xm_B (xx_G X) + 84)), (1, .int (xm_J x1)), (2, .int (xm_J x2)), (3, .int (xm_J x3))]) dX11_tenure_85 (by decide) 6 rfl rfl ?_
  refine xg_goto hC 28 dX11_tenure_88 rfl ?_
  exact xg_pick [3, 4, 5, 6, 2, 1, 0] rfl (hK28 σ x1 x2 x3 v17 x5 (xm_w (x6 + 1)) h1 h2 h3 k18 h5 (xm_w_in _))
theorem w_X11_tenure_b28 {X : xm_X} (hC : xm_C X yX11_tenure.cls cX11_tenure 7 75 0 0) (hQ : xm_Rt X 1 (some .int) 0 0) (hI : xx_I X = xm_I) {K91 : xm_Mem → Int → Int → Option xm_Out} (hK91 : ∀ (σ : xm_Mem) (x3 : Int) (x5 : Int), xm_in x3 → xm_in x5 → xm_V X 0 0 (K91 σ x3 x5) σ 91 [(0, .ref (xm_B (xx_G X) + 84)), (3, .int (xm_J x3)), (5, .int (xm_J x5))] []) {self : xm_Mem → Int → Int → Int → Int → Int → Int → Option xm_Out} (hself : ∀ (σ : xm_Mem) (x1 : Int) (x2 : Int) (x3 : Int) (x4 : Int) (x5 : Int) (x6 : Int), xm_in x1 → xm_in x2 → xm_in x3 → xm_in x4 → xm_in x5 → xm_in x6 → xm_V X 0 0 (self σ x1 x2 x3 x4 x5 x6) σ 28 [(0, .ref (xm_B (xx_G X) + 84)), (1, .int (xm_J x1)), (2, .int (xm_J x2)), (3, .int (xm_J x3)), (4, .int (xm_J x4)), (5, .int (xm_J x5)), (6, .int (xm_J x6))] []) (σ : xm_Mem) (x1 : Int) (x2 : Int) (x3 : Int) (x4 : Int) (x5 : Int) (x6 : Int) (h1 : xm_in x1) (h2 : xm_in x2) (h3 : xm_in x3) (h4 : xm_in x4) (h5 : xm_in x5) (h6 : xm_in x6) : xm_V X 0 0 (f_X11_tenure_b28 K91 self σ x1 x2 x3 x4 x5 x6) σ 28 [(0, .ref (xm_B (xx_G X) + 84)), (1, .int (xm_J x1)), (2, .int (xm_J x2)), (3, .int (xm_J x3)), (4, .int (xm_J x4)), (5, .int (xm_J x5)), (6, .int (xm_J x6))] [] := by
  unfold f_X11_tenure_b28
  refine xg_iload hC dX11_tenure_28 rfl ?_
  refine xg_aload_n hC dX11_tenure_30 rfl ?_
  refine xg_getW hC (b := 104) (xm_hK hI rfl) rfl (xm_wK hI rfl) (by decide) xl_F_X11_238 dX11_tenure_31 ?_
  refine xg_iload_n hC dX11_tenure_34 rfl ?_
  refine xg_iald hC (xm_hK hI rfl) rfl h1 dX11_tenure_35 (fun b9 k10 => ?_)
  refine xg_icmp_ge hC h6 k10 91 dX11_tenure_36 rfl (fun c11 => ?_) (fun c12 => ?_)
  · refine xg_iload hC dX11_tenure_39 rfl ?_
    refine xg_aload_n hC dX11_tenure_41 rfl ?_
    refine xg_iload_n hC dX11_tenure_42 rfl ?_
    refine xg_iload hC dX11_tenure_43 rfl ?_
    refine xg_callV hC (ci := 10) (w_X11_begins hI σ x1 x6 h1 h6) xl_M_X11_416 xl_V_X11_begins (xm_hK (a := 84) (kd := 0) (n := 10) hI rfl).2 ((xm_hK (a := 84) (kd := 0) (n := 10) hI rfl).1 _) (by decide) rfl (by decide) ⟨by decide, by decide⟩ dX11_tenure_45 (rest := [.int (xm_J x4)]) rfl rfl (Nat.le_of_ble_eq_true rfl) rfl rfl (st2 := fun o => .int (xm_J o.2) :: [.int (xm_J x4)]) (fun _ => rfl) (fun o13 k14 => ?_)
    refine xg_if_eq hC (xm_in01 k14) 55 dX11_tenure_48 rfl (fun c15 => ?_) (fun c16 => ?_)
    · refine xg_iconst hC dX11_tenure_55 ?_
      exact xg_pick [0, 1, 2, 3, 5, 6] rfl (w_X11_tenure_j56 hC hQ hI hself o13.1 (0 : Int) x4 x1 x2 x3 x5 x6 (by decide) h4 h1 h2 h3 h5 h6)
    refine xg_iconst hC dX11_tenure_51 ?_
    refine xg_goto hC 56 dX11_tenure_52 rfl ?_
    exact xg_pick [0, 1, 2, 3, 5, 6] rfl (w_X11_tenure_j56 hC hQ hI hself o13.1 (1 : Int) x4 x1 x2 x3 x5 x6 (by decide) h4 h1 h2 h3 h5 h6)
  exact xg_pick [0, 3, 5] rfl (hK91 σ x3 x5 h3 h5)
theorem w_X11_tenure_l28 {X : xm_X} (hC : xm_C X yX11_tenure.cls cX11_tenure 7 75 0 0) (hQ : xm_Rt X 1 (some .int) 0 0) (hI : xx_I X = xm_I) {K91 : xm_Mem → Int → Int → Option xm_Out} (hK91 : ∀ (σ : xm_Mem) (x3 : Int) (x5 : Int), xm_in x3 → xm_in x5 → xm_V X 0 0 (K91 σ x3 x5) σ 91 [(0, .ref (xm_B (xx_G X) + 84)), (3, .int (xm_J x3)), (5, .int (xm_J x5))] []) (n : Nat) : ∀ (σ : xm_Mem) (x1 : Int) (x2 : Int) (x3 : Int) (x4 : Int) (x5 : Int) (x6 : Int), xm_in x1 → xm_in x2 → xm_in x3 → xm_in x4 → xm_in x5 → xm_in x6 → xm_V X 0 0 (f_X11_tenure_l28 K91 n σ x1 x2 x3 x4 x5 x6) σ 28 [(0, .ref (xm_B (xx_G X) + 84)), (1, .int (xm_J x1)), (2, .int (xm_J x2)), (3, .int (xm_J x3)), (4, .int (xm_J x4)), (5, .int (xm_J x5)), (6, .int (xm_J x6))] [] := by
  induction n with
  | zero => intro σ x1 x2 x3 x4 x5 x6 h1 h2 h3 h4 h5 h6; exact xg_none
  | succ n ih => intro σ x1 x2 x3 x4 x5 x6 h1 h2 h3 h4 h5 h6; exact w_X11_tenure_b28 hC hQ hI hK91 ih σ x1 x2 x3 x4 x5 x6 h1 h2 h3 h4 h5 h6
theorem w_X11_tenure_j110 {X : xm_X} (hC : xm_C X yX11_tenure.cls cX11_tenure 7 75 0 0) (hQ : xm_Rt X 1 (some .int) 0 0) (hI : xx_I X = xm_I)   (σ : xm_Mem) (x3 : Int) (x5 : Int) (h3 : xm_in x3) (h5 : xm_in x5) : xm_V X 0 0 (f_X11_tenure_j110  σ x3 x5) σ 110 [(0, .ref (xm_B (xx_G X) + 84)), (3, .int (xm_J x3)), (5, .int (xm_J x5))] [] := by
  unfold f_X11_tenure_j110
  refine xg_iload hC dX11_tenure_110 rfl ?_
  refine xg_if_ge hC h5 123 dX11_tenure_112 rfl (fun c28 => ?_) (fun c29 => ?_)
  · refine xg_aload_n hC dX11_tenure_115 rfl ?_
    refine xg_iconst hC dX11_tenure_116 ?_
    refine xg_callV hC (ci := 10) (w_X11_no hI σ (1 : Int) (xm_inc _ rfl)) xl_M_X11_371 xl_V_X11_no (xm_hK (a := 84) (kd := 0) (n := 10) hI rfl).2 ((xm_hK (a := 84) (kd := 0) (n := 10) hI rfl).1 _) (by decide) rfl (by decide) ⟨by decide, by decide⟩ dX11_tenure_117 (rest := []) rfl rfl (Nat.le_of_ble_eq_true rfl) rfl rfl (st2 := fun o => .int (xm_J o.2) :: []) (fun _ => rfl) (fun o30 k31 => ?_)
    refine xg_goto hC 148 dX11_tenure_120 rfl ?_
    exact xg_iret hC hQ k31 dX11_tenure_148
  refine xg_aload_n hC dX11_tenure_123 rfl ?_
  refine xg_iload_n hC dX11_tenure_124 rfl ?_
  refine xg_if_ne hC h3 138 dX11_tenure_125 rfl (fun c32 => ?_) (fun c33 => ?_)
  · refine xg_aload_n hC dX11_tenure_128 rfl ?_
    refine xg_getW hC (b := 106) (xm_hK hI rfl) rfl (xm_wK hI rfl) (by decide) xl_F_X11_226 dX11_tenure_129 ?_
    refine xg_iload hC dX11_tenure_132 rfl ?_
    refine xg_iald hC (xm_hK hI rfl) rfl h5 dX11_tenure_134 (fun b34 k35 => ?_)
    refine xg_goto hC 145 dX11_tenure_135 rfl ?_
    refine xg_callV hC (ci := 10) (w_X11_fine hI σ (σ.1 106 x5.toNat) k35) xl_M_X11_374 xl_V_X11_fine (xm_hK (a := 84) (kd := 0) (n := 10) hI rfl).2 ((xm_hK (a := 84) (kd := 0) (n := 10) hI rfl).1 _) (by decide) rfl (by decide) ⟨by decide, by decide⟩ dX11_tenure_145 (rest := []) rfl rfl (Nat.le_of_ble_eq_true rfl) rfl rfl (st2 := fun o => .int (xm_J o.2) :: []) (fun _ => rfl) (fun o36 k37 => ?_)
    exact xg_iret hC hQ k37 dX11_tenure_148
  refine xg_aload_n hC dX11_tenure_138 rfl ?_
  refine xg_getW hC (b := 108) (xm_hK hI rfl) rfl (xm_wK hI rfl) (by decide) xl_F_X11_232 dX11_tenure_139 ?_
  refine xg_iload hC dX11_tenure_142 rfl ?_
  refine xg_iald hC (xm_hK hI rfl) rfl h5 dX11_tenure_144 (fun b38 k39 => ?_)
  refine xg_callV hC (ci := 10) (w_X11_fine hI σ (σ.1 108 x5.toNat) k39) xl_M_X11_374 xl_V_X11_fine (xm_hK (a := 84) (kd := 0) (n := 10) hI rfl).2 ((xm_hK (a := 84) (kd := 0) (n := 10) hI rfl).1 _) (by decide) rfl (by decide) ⟨by decide, by decide⟩ dX11_tenure_145 (rest := []) rfl rfl (Nat.le_of_ble_eq_true rfl) rfl rfl (st2 := fun o => .int (xm_J o.2) :: []) (fun _ => rfl) (fun o40 k41 => ?_)
  exact xg_iret hC hQ k41 dX11_tenure_148
theorem w_X11_tenure {Γ : xm_Gm} {I : xm_Mem → Prop} {la : Launch} (hE : I = xm_I) (σ : xm_Mem) (x1 : Int) (x2 : Int) (x3 : Int) (h1 : xm_in x1) (h2 : xm_in x2) (h3 : xm_in x3) : ∀ o, f_X11_tenure σ x1 x2 x3 = some o → xm_M Γ I la yX11_tenure cX11_tenure 7 (some .int) 75 0 0 [.ref (xm_B Γ + 84), .int (xm_J x1), .int (xm_J x2), .int (xm_J x3)] σ 1 o := by
  refine xg_enter (by decide) (by simp [lg_sl, xm_rf_cat, xm_cati, xm_catr, xm_catl]) (fun X hG hI0 hla hC hQ hname => ?_)
  subst hG
  have hI := hI0.trans hE
  clear hI0 hla
  unfold f_X11_tenure
  refine xg_pick [0, 1, 2, 3] (l' := [(0, .ref (xm_B (xx_G X) + 84)), (1, .int (xm_J x1)), (2, .int (xm_J x2)), (3, .int (xm_J x3))]) rfl ?_
  refine xg_aload_n hC dX11_tenure_0 rfl ?_
  refine xg_iload_n hC dX11_tenure_1 rfl ?_
  refine xg_callV hC (ci := 10) (w_X11_isTitle hI σ x1 h1) xl_M_X11_354 xl_V_X11_isTitle (xm_hK (a := 84) (kd := 0) (n := 10) hI rfl).2 ((xm_hK (a := 84) (kd := 0) (n := 10) hI rfl).1 _) (by decide) rfl (by decide) ⟨by decide, by decide⟩ dX11_tenure_2 (rest := []) rfl rfl (Nat.le_of_ble_eq_true rfl) rfl rfl (st2 := fun o => .int (xm_J o.2) :: []) (fun _ => rfl) (fun o1 k2 => ?_)
  refine xg_if_ne hC (xm_in01 k2) 14 dX11_tenure_5 rfl (fun c3 => ?_) (fun c4 => ?_)
  · refine xg_aload_n hC dX11_tenure_8 rfl ?_
    refine xg_iconst hC dX11_tenure_9 ?_
    refine xg_callV hC (ci := 10) (w_X11_no hI o1.1 (1 : Int) (xm_inc _ rfl)) xl_M_X11_371 xl_V_X11_no (xm_hK (a := 84) (kd := 0) (n := 10) hI rfl).2 ((xm_hK (a := 84) (kd := 0) (n := 10) hI rfl).1 _) (by decide) rfl (by decide) ⟨by decide, by decide⟩ dX11_tenure_10 (rest := []) rfl rfl (Nat.le_of_ble_eq_true rfl) rfl rfl (st2 := fun o => .int (xm_J o.2) :: []) (fun _ => rfl) (fun o5 k6 => ?_)
    exact xg_iret hC hQ k6 dX11_tenure_13
  refine xg_aload_n hC dX11_tenure_14 rfl ?_
  refine xg_iload_n hC dX11_tenure_15 rfl ?_
  refine xg_callV hC (ci := 10) (w_X11_goThrough hI o1.1 x1 h1) xl_M_X11_258 xl_V_X11_goThrough (xm_hK (a := 84) (kd := 0) (n := 10) hI rfl).2 ((xm_hK (a := 84) (kd := 0) (n := 10) hI rfl).1 _) (by decide) rfl (by decide) ⟨by decide, by decide⟩ dX11_tenure_16 (rest := []) rfl rfl (Nat.le_of_ble_eq_true rfl) rfl rfl (st2 := fun o => []) (fun _ => rfl) (fun o7 k8 => ?_)
  refine xg_iconst hC dX11_tenure_19 ?_
  refine xg_istore hC (l' := [(4, .int (xm_J (-1 : Int))), (0, .ref (xm_B (xx_G X) + 84)), (1, .int (xm_J x1)), (2, .int (xm_J x2)), (3, .int (xm_J x3))]) dX11_tenure_20 (by decide) rfl ?_
  refine xg_iconst hC dX11_tenure_22 ?_
  refine xg_istore hC (l' := [(5, .int (xm_J (-1 : Int))), (4, .int (xm_J (-1 : Int))), (0, .ref (xm_B (xx_G X) + 84)), (1, .int (xm_J x1)), (2, .int (xm_J x2)), (3, .int (xm_J x3))]) dX11_tenure_23 (by decide) rfl ?_
  refine xg_iconst hC dX11_tenure_25 ?_
  refine xg_istore hC (l' := [(6, .int (xm_J (0 : Int))), (5, .int (xm_J (-1 : Int))), (4, .int (xm_J (-1 : Int))), (0, .ref (xm_B (xx_G X) + 84)), (1, .int (xm_J x1)), (2, .int (xm_J x2)), (3, .int (xm_J x3))]) dX11_tenure_26 (by decide) rfl ?_
  refine xg_pick [3, 4, 5, 6, 2, 1, 0] rfl (w_X11_tenure_l28 hC hQ hI ?_ _ o7.1 x1 x2 x3 (-1 : Int) (-1 : Int) (0 : Int) h1 h2 h3 (xm_inc _ rfl) (xm_inc _ rfl) (xm_inc _ rfl))
  intro σ_25 x3_25 x5_25 h3_25 h5_25
  refine xg_iload_n hC dX11_tenure_91 rfl ?_
  refine xg_if_eq hC h3_25 110 dX11_tenure_92 rfl (fun c26 => ?_) (fun c27 => ?_)
  · exact (w_X11_tenure_j110 hC hQ hI σ_25 x3_25 x5_25 h3_25 h5_25)
  refine xg_iload_n hC dX11_tenure_95 rfl ?_
  refine xg_iconst hC dX11_tenure_96 ?_
  refine xg_icmp_eq hC h3_25 (xm_inc _ rfl) 110 dX11_tenure_97 rfl (fun c42 => ?_) (fun c43 => ?_)
  · exact (w_X11_tenure_j110 hC hQ hI σ_25 x3_25 x5_25 h3_25 h5_25)
  refine xg_aload_n hC dX11_tenure_100 rfl ?_
  refine xg_iload hC dX11_tenure_101 rfl ?_
  refine xg_callS hC (w_X11_tenureWhy hI σ_25 x5_25 h5_25) xl_M_X11_419 xl_S_X11_tenureWhy (by decide) ⟨by decide, by decide⟩ dX11_tenure_103 (rest := [.ref (xm_B (xx_G X) + 84)]) rfl rfl (Nat.le_of_ble_eq_true rfl) rfl rfl (st2 := fun o => .int (xm_J o.2) :: [.ref (xm_B (xx_G X) + 84)]) (fun _ => rfl) (fun o44 k45 => ?_)
  refine xg_callV hC (ci := 10) (w_X11_no hI o44.1 o44.2 k45) xl_M_X11_371 xl_V_X11_no (xm_hK (a := 84) (kd := 0) (n := 10) hI rfl).2 ((xm_hK (a := 84) (kd := 0) (n := 10) hI rfl).1 _) (by decide) rfl (by decide) ⟨by decide, by decide⟩ dX11_tenure_106 (rest := []) rfl rfl (Nat.le_of_ble_eq_true rfl) rfl rfl (st2 := fun o => .int (xm_J o.2) :: []) (fun _ => rfl) (fun o46 k47 => ?_)
  exact xg_iret hC hQ k47 dX11_tenure_109
theorem w_X11_holds_b36 {X : xm_X} (hC : xm_C X yX11_holds.cls cX11_holds 6 77 0 0) (hQ : xm_Rt X 1 (some .int) 0 0) (hI : xx_I X = xm_I) {K74 : xm_Mem → Int → Option xm_Out} {K90 : xm_Mem → Option xm_Out} (hK74 : ∀ (σ : xm_Mem) (x5 : Int), xm_in x5 → xm_V X 0 0 (K74 σ x5) σ 74 [(0, .ref (xm_B (xx_G X) + 84)), (5, .int (xm_J x5))] []) (hK90 : ∀ (σ : xm_Mem), xm_V X 0 0 (K90 σ ) σ 90 [(0, .ref (xm_B (xx_G X) + 84))] []) {self : xm_Mem → Int → Int → Int → Int → Int → Option xm_Out} (hself : ∀ (σ : xm_Mem) (x1 : Int) (x2 : Int) (x3 : Int) (x4 : Int) (x5 : Int), xm_in x1 → xm_in x2 → xm_in x3 → xm_in x4 → xm_in x5 → xm_V X 0 0 (self σ x1 x2 x3 x4 x5) σ 36 [(0, .ref (xm_B (xx_G X) + 84)), (1, .int (xm_J x1)), (2, .int (xm_J x2)), (3, .int (xm_J x3)), (4, .int (xm_J x4)), (5, .int (xm_J x5))] []) (σ : xm_Mem) (x1 : Int) (x2 : Int) (x3 : Int) (x4 : Int) (x5 : Int) (h1 : xm_in x1) (h2 : xm_in x2) (h3 : xm_in x3) (h4 : xm_in x4) (h5 : xm_in x5) : xm_V X 0 0 (f_X11_holds_b36 K74 K90 self σ x1 x2 x3 x4 x5) σ 36 [(0, .ref (xm_B (xx_G X) + 84)), (1, .int (xm_J x1)), (2, .int (xm_J x2)), (3, .int (xm_J x3)), (4, .int (xm_J x4)), (5, .int (xm_J x5))] [] := by
  unfold f_X11_holds_b36
  refine xg_iload hC dX11_holds_36 rfl ?_
  refine xg_aload_n hC dX11_holds_38 rfl ?_
  refine xg_getI hC (xm_hK hI rfl) rfl xl_F_X11_22 dX11_holds_39 (fun k13 => ?_)
  refine xg_icmp_ge hC h5 k13 90 dX11_holds_42 rfl (fun c14 => ?_) (fun c15 => ?_)
  · refine xg_aload_n hC dX11_holds_45 rfl ?_
    refine xg_iload hC dX11_holds_46 rfl ?_
    refine xg_callV hC (ci := 10) (w_X11_isTitle hI σ x5 h5) xl_M_X11_354 xl_V_X11_isTitle (xm_hK (a := 84) (kd := 0) (n := 10) hI rfl).2 ((xm_hK (a := 84) (kd := 0) (n := 10) hI rfl).1 _) (by decide) rfl (by decide) ⟨by decide, by decide⟩ dX11_holds_48 (rest := []) rfl rfl (Nat.le_of_ble_eq_true rfl) rfl rfl (st2 := fun o => .int (xm_J o.2) :: []) (fun _ => rfl) (fun o16 k17 => ?_)
    refine xg_if_eq hC (xm_in01 k17) 84 dX11_holds_51 rfl (fun c18 => ?_) (fun c19 => ?_)
    · refine xg_iinc hC (l' := [(5, .int (xm_J (xm_w (x5 + 1)))), (0, .ref (xm_B (xx_G X) + 84)), (1, .int (xm_J x1)), (2, .int (xm_J x2)), (3, .int (xm_J x3)), (4, .int (xm_J x4))]) dX11_holds_84 (by decide) 5 rfl rfl ?_
      refine xg_goto hC 36 dX11_holds_87 rfl ?_
      exact xg_pick [1, 2, 3, 4, 5, 0] rfl (hself o16.1 x1 x2 x3 x4 (xm_w (x5 + 1)) h1 h2 h3 h4 (xm_w_in _))
    refine xg_aload_n hC dX11_holds_54 rfl ?_
    refine xg_iload hC dX11_holds_55 rfl ?_
    refine xg_iload_n hC dX11_holds_57 rfl ?_
    refine xg_callV hC (ci := 10) (w_X11_stateOn hI o16.1 x5 x2 h5 h2) xl_M_X11_410 xl_V_X11_stateOn (xm_hK (a := 84) (kd := 0) (n := 10) hI rfl).2 ((xm_hK (a := 84) (kd := 0) (n := 10) hI rfl).1 _) (by decide) rfl (by decide) ⟨by decide, by decide⟩ dX11_holds_58 (rest := []) rfl rfl (Nat.le_of_ble_eq_true rfl) rfl rfl (st2 := fun o => .int (xm_J o.2) :: []) (fun _ => rfl) (fun o20 k21 => ?_)
    refine xg_iload_n hC dX11_holds_61 rfl ?_
    refine xg_icmp_eq hC k21 h1 68 dX11_holds_62 rfl (fun c22 => ?_) (fun c23 => ?_)
    · refine xg_iload hC dX11_holds_68 rfl ?_
      refine xg_iload_n hC dX11_holds_70 rfl ?_
      refine xg_icmp_ne hC h4 h3 81 dX11_holds_71 rfl (fun c24 => ?_) (fun c25 => ?_)
      · exact xg_pick [0, 5] rfl (hK74 o20.1 x5 h5)
      refine xg_iinc hC (l' := [(4, .int (xm_J (xm_w (x4 + 1)))), (0, .ref (xm_B (xx_G X) + 84)), (1, .int (xm_J x1)), (2, .int (xm_J x2)), (3, .int (xm_J x3)), (5, .int (xm_J x5))]) dX11_holds_81 (by decide) 4 rfl rfl ?_
      refine xg_iinc hC (l' := [(5, .int (xm_J (xm_w (x5 + 1)))), (4, .int (xm_J (xm_w (x4 + 1)))), (0, .ref (xm_B (xx_G X) + 84)), (1, .int (xm_J x1)), (2, .int (xm_J x2)), (3, .int (xm_J x3))]) dX11_holds_84 (by decide) 5 rfl rfl ?_
      refine xg_goto hC 36 dX11_holds_87 rfl ?_
      exact xg_pick [2, 3, 4, 5, 1, 0] rfl (hself o20.1 x1 x2 x3 (xm_w (x4 + 1)) (xm_w (x5 + 1)) h1 h2 h3 (xm_w_in _) (xm_w_in _))
    refine xg_goto hC 84 dX11_holds_65 rfl ?_
    refine xg_iinc hC (l' := [(5, .int (xm_J (xm_w (x5 + 1)))), (0, .ref (xm_B (xx_G X) + 84)), (1, .int (xm_J x1)), (2, .int (xm_J x2)), (3, .int (xm_J x3)), (4, .int (xm_J x4))]) dX11_holds_84 (by decide) 5 rfl rfl ?_
    refine xg_goto hC 36 dX11_holds_87 rfl ?_
    exact xg_pick [1, 2, 3, 4, 5, 0] rfl (hself o20.1 x1 x2 x3 x4 (xm_w (x5 + 1)) h1 h2 h3 h4 (xm_w_in _))
  exact xg_pick [0] rfl (hK90 σ)
theorem w_X11_holds_l36 {X : xm_X} (hC : xm_C X yX11_holds.cls cX11_holds 6 77 0 0) (hQ : xm_Rt X 1 (some .int) 0 0) (hI : xx_I X = xm_I) {K74 : xm_Mem → Int → Option xm_Out} {K90 : xm_Mem → Option xm_Out} (hK74 : ∀ (σ : xm_Mem) (x5 : Int), xm_in x5 → xm_V X 0 0 (K74 σ x5) σ 74 [(0, .ref (xm_B (xx_G X) + 84)), (5, .int (xm_J x5))] []) (hK90 : ∀ (σ : xm_Mem), xm_V X 0 0 (K90 σ ) σ 90 [(0, .ref (xm_B (xx_G X) + 84))] []) (n : Nat) : ∀ (σ : xm_Mem) (x1 : Int) (x2 : Int) (x3 : Int) (x4 : Int) (x5 : Int), xm_in x1 → xm_in x2 → xm_in x3 → xm_in x4 → xm_in x5 → xm_V X 0 0 (f_X11_holds_l36 K74 K90 n σ x1 x2 x3 x4 x5) σ 36 [(0, .ref (xm_B (xx_G X) + 84)), (1, .int (xm_J x1)), (2, .int (xm_J x2)), (3, .int (xm_J x3)), (4, .int (xm_J x4)), (5, .int (xm_J x5))] [] := by
  induction n with
  | zero => intro σ x1 x2 x3 x4 x5 h1 h2 h3 h4 h5; exact xg_none
  | succ n ih => intro σ x1 x2 x3 x4 x5 h1 h2 h3 h4 h5; exact w_X11_holds_b36 hC hQ hI hK74 hK90 ih σ x1 x2 x3 x4 x5 h1 h2 h3 h4 h5
theorem w_X11_holds {Γ : xm_Gm} {I : xm_Mem → Prop} {la : Launch} (hE : I = xm_I) (σ : xm_Mem) (x1 : Int) (x2 : Int) (x3 : Int) (h1 : xm_in x1) (h2 : xm_in x2) (h3 : xm_in x3) : ∀ o, f_X11_holds σ x1 x2 x3 = some o → xm_M Γ I la yX11_holds cX11_holds 6 (some .int) 77 0 0 [.ref (xm_B Γ + 84), .int (xm_J x1), .int (xm_J x2), .int (xm_J x3)] σ 1 o := by
  refine xg_enter (by decide) (by simp [lg_sl, xm_rf_cat, xm_cati, xm_catr, xm_catl]) (fun X hG hI0 hla hC hQ hname => ?_)
  subst hG
  have hI := hI0.trans hE
  clear hI0 hla
  unfold f_X11_holds
  refine xg_pick [0, 1, 2, 3] (l' := [(0, .ref (xm_B (xx_G X) + 84)), (1, .int (xm_J x1)), (2, .int (xm_J x2)), (3, .int (xm_J x3))]) rfl ?_
  refine xg_aload_n hC dX11_holds_0 rfl ?_
  refine xg_iload_n hC dX11_holds_1 rfl ?_
  refine xg_callV hC (ci := 10) (w_X11_isPerson hI σ x1 h1) xl_M_X11_123 xl_V_X11_isPerson (xm_hK (a := 84) (kd := 0) (n := 10) hI rfl).2 ((xm_hK (a := 84) (kd := 0) (n := 10) hI rfl).1 _) (by decide) rfl (by decide) ⟨by decide, by decide⟩ dX11_holds_2 (rest := []) rfl rfl (Nat.le_of_ble_eq_true rfl) rfl rfl (st2 := fun o => .int (xm_J o.2) :: []) (fun _ => rfl) (fun o1 k2 => ?_)
  refine xg_if_ne hC (xm_in01 k2) 14 dX11_holds_5 rfl (fun c3 => ?_) (fun c4 => ?_)
  · refine xg_aload_n hC dX11_holds_8 rfl ?_
    refine xg_iconst hC dX11_holds_9 ?_
    refine xg_callV hC (ci := 10) (w_X11_no hI o1.1 (1 : Int) (xm_inc _ rfl)) xl_M_X11_371 xl_V_X11_no (xm_hK (a := 84) (kd := 0) (n := 10) hI rfl).2 ((xm_hK (a := 84) (kd := 0) (n := 10) hI rfl).1 _) (by decide) rfl (by decide) ⟨by decide, by decide⟩ dX11_holds_10 (rest := []) rfl rfl (Nat.le_of_ble_eq_true rfl) rfl rfl (st2 := fun o => .int (xm_J o.2) :: []) (fun _ => rfl) (fun o5 k6 => ?_)
    exact xg_iret hC hQ k6 dX11_holds_13
  refine xg_iload_n hC dX11_holds_14 rfl ?_
  refine xg_iconst hC dX11_holds_15 ?_
  refine xg_ldc hC dX11_holds_16 xl_C_X11_59 ?_
  refine xg_callS hC (w_X11_isIn hI o1.1 x2 (0 : Int) (99999 : Int) h2 (xm_inc _ rfl) (xm_inc _ rfl)) xl_M_X11_10 xl_S_X11_isIn (by decide) ⟨by decide, by decide⟩ dX11_holds_18 (rest := []) rfl rfl (Nat.le_of_ble_eq_true rfl) rfl rfl (st2 := fun o => .int (xm_J o.2) :: []) (fun _ => rfl) (fun o7 k8 => ?_)
  refine xg_if_ne hC (xm_in01 k8) 30 dX11_holds_21 rfl (fun c9 => ?_) (fun c10 => ?_)
  · refine xg_aload_n hC dX11_holds_24 rfl ?_
    refine xg_iconst hC dX11_holds_25 ?_
    refine xg_callV hC (ci := 10) (w_X11_no hI o7.1 (3 : Int) (xm_inc _ rfl)) xl_M_X11_371 xl_V_X11_no (xm_hK (a := 84) (kd := 0) (n := 10) hI rfl).2 ((xm_hK (a := 84) (kd := 0) (n := 10) hI rfl).1 _) (by decide) rfl (by decide) ⟨by decide, by decide⟩ dX11_holds_26 (rest := []) rfl rfl (Nat.le_of_ble_eq_true rfl) rfl rfl (st2 := fun o => .int (xm_J o.2) :: []) (fun _ => rfl) (fun o11 k12 => ?_)
    exact xg_iret hC hQ k12 dX11_holds_29
  refine xg_iconst hC dX11_holds_30 ?_
  refine xg_istore hC (l' := [(4, .int (xm_J (0 : Int))), (0, .ref (xm_B (xx_G X) + 84)), (1, .int (xm_J x1)), (2, .int (xm_J x2)), (3, .int (xm_J x3))]) dX11_holds_31 (by decide) rfl ?_
  refine xg_iconst hC dX11_holds_33 ?_
  refine xg_istore hC (l' := [(5, .int (xm_J (0 : Int))), (4, .int (xm_J (0 : Int))), (0, .ref (xm_B (xx_G X) + 84)), (1, .int (xm_J x1)), (2, .int (xm_J x2)), (3, .int (xm_J x3))]) dX11_holds_34 (by decide) rfl ?_
  refine xg_pick [2, 3, 4, 5, 1, 0] rfl (w_X11_holds_l36 hC hQ hI ?_ ?_ _ o7.1 x1 x2 x3 (0 : Int) (0 : Int) h1 h2 h3 (xm_inc _ rfl) (xm_inc _ rfl))
  · intro σ_26 x5_26 h5_26
    refine xg_aload_n hC dX11_holds_74 rfl ?_
    refine xg_iload hC dX11_holds_75 rfl ?_
    refine xg_callV hC (ci := 10) (w_X11_fine hI σ_26 x5_26 h5_26) xl_M_X11_374 xl_V_X11_fine (xm_hK (a := 84) (kd := 0) (n := 10) hI rfl).2 ((xm_hK (a := 84) (kd := 0) (n := 10) hI rfl).1 _) (by decide) rfl (by decide) ⟨by decide, by decide⟩ dX11_holds_77 (rest := []) rfl rfl (Nat.le_of_ble_eq_true rfl) rfl rfl (st2 := fun o => .int (xm_J o.2) :: []) (fun _ => rfl) (fun o27 k28 => ?_)
    exact xg_iret hC hQ k28 dX11_holds_80
  intro σ_29
  refine xg_aload_n hC dX11_holds_90 rfl ?_
  refine xg_iconst hC dX11_holds_91 ?_
  refine xg_callV hC (ci := 10) (w_X11_no hI σ_29 (1 : Int) (xm_inc _ rfl)) xl_M_X11_371 xl_V_X11_no (xm_hK (a := 84) (kd := 0) (n := 10) hI rfl).2 ((xm_hK (a := 84) (kd := 0) (n := 10) hI rfl).1 _) (by decide) rfl (by decide) ⟨by decide, by decide⟩ dX11_holds_92 (rest := []) rfl rfl (Nat.le_of_ble_eq_true rfl) rfl rfl (st2 := fun o => .int (xm_J o.2) :: []) (fun _ => rfl) (fun o30 k31 => ?_)
  exact xg_iret hC hQ k31 dX11_holds_95
theorem w_X11_status {Γ : xm_Gm} {I : xm_Mem → Prop} {la : Launch} (hE : I = xm_I) (σ : xm_Mem)   : ∀ o, f_X11_status σ  = some o → xm_M Γ I la yX11_status cX11_status 1 (some .int) 1 0 0 [.ref (xm_B Γ + 84)] σ 1 o := by
  refine xg_enter (by decide) (by simp [lg_sl, xm_rf_cat, xm_cati, xm_catr, xm_catl]) (fun X hG hI0 hla hC hQ hname => ?_)
  subst hG
  have hI := hI0.trans hE
  clear hI0 hla
  unfold f_X11_status
  refine xg_pick [0] (l' := [(0, .ref (xm_B (xx_G X) + 84))]) rfl ?_
  refine xg_aload_n hC dX11_status_0 rfl ?_
  refine xg_getI hC (xm_hK hI rfl) rfl xl_F_X11_1 dX11_status_1 (fun k1 => ?_)
  exact xg_iret hC hQ k1 dX11_status_4
