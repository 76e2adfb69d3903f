/-! ===== the first three tells; the whole walk ===== -/
noncomputable def f_L_first (cl : Nat → Int) (σ : xm_Mem) : Option xm_Out := (f_L_tell σ).bind (fun o1 => if o1.1.2.2 = σ.2.2 + 1 ∧ o1.1.2.2 ≤ 100000 then (if o1.2 = 0 then (@ite _ (xm_gb o1.1 (0 : Int) (-1 : Int) (-1 : Int)) (Classical.propDecidable _) (xm_st (xm_aps o1.1 89 0 (xm_bP (0 : Int).toNat (0 : Int) (-1 : Int) (-1 : Int))) (fun σ7 => (f_L_tell σ7).bind (fun o9 => if o9.1.2.2 = σ7.2.2 + 1 ∧ o9.1.2.2 ≤ 100000 then (if o9.2 = (1 : Int) then (@ite _ (xm_gt o9.1 (4000 : Int) (0 : Int) (1 : Int)) (Classical.propDecidable _) (xm_st (xm_aps o9.1 89 0 (xm_tP 1 (4000 : Int).toNat (0 : Int).toNat (1 : Int))) (fun σ15 => (f_L_tell σ15).bind (fun o17 => if o17.1.2.2 = σ15.2.2 + 1 ∧ o17.1.2.2 ≤ 100000 then (if o17.2 = (2 : Int) then (f_L_law cl o17.1) else (none)) else none))) none) else (none)) else none))) none) else (none)) else none)
theorem w_L_first {X : xm_X} {cl : Nat → Int} (hC : xm_C X RL cL_law 17 12 600000 7302250) (hI : xx_I X = xm_I) (hL : xm_LW X cl) (σ : xm_Mem) : xm_VL X 0 (f_L_first cl σ) σ 72 [(0, .ref (xm_sb (xx_G X))), (1, .ref (xm_ad (xx_G X) 1)), (2, .ref (xm_ad (xx_G X) 84)), (3, .ref (xm_ad (xx_G X) 86)), (4, .ref (xm_ad (xx_G X) 87)), (5, .ref (xm_ad (xx_G X) 88))] [.ref (xm_ad (xx_G X) 84), .ref (xm_ad (xx_G X) 1)] := by
  unfold f_L_first
  refine xg_inL (fun hz => ?_)
  refine xg_callS hC (w_L_tell hI σ) xl_M_L_85 xl_S_L_tell (by decide) ⟨by omega, by omega⟩ dL_law_72 (rest := []) rfl rfl (Nat.le_of_ble_eq_true rfl) rfl rfl (st2 := fun o => .int (xm_J o.2) :: []) (fun _ => rfl) (fun o1 k2 => ?_)
  refine xg_guard (fun z3 => ?_)
  refine xg_if_ne hC k2 113 dL_law_75 rfl (fun c4 => ?_) (fun c5 => ?_)
  · refine xg_aload_n hC dL_law_78 rfl ?_
    refine xg_aload_n hC dL_law_79 rfl ?_
    refine xg_iconst hC dL_law_80 ?_
    refine xg_iconst hC dL_law_81 ?_
    refine xg_iconst hC dL_law_82 ?_
    refine xg_iconst hC dL_law_83 ?_
    refine @xg_ite _ _ _ _ _ _ _ _ _ _ (Classical.propDecidable _) (fun k6 => ?_) (fun _ => xg_none)
    refine xg_callS1 hC (ml_bornI (by decide) (xm_JIX hI) k6) xl_M_L_81 xl_S_L_born (by decide) ⟨by omega, by omega⟩ dL_law_84 (rest := [.ref (xm_ad (xx_G X) 1)]) rfl rfl (Nat.le_of_ble_eq_true rfl) rfl rfl (st2 := fun o => [.ref (xm_ad (xx_G X) 84)] ++ [.ref (xm_ad (xx_G X) 1)]) (fun _ => rfl) (fun _ => ?_)
    refine xg_sg (σ2 := xm_aps o1.1 89 0 (xm_bP (0 : Int).toNat (0 : Int) (-1 : Int) (-1 : Int))) rfl (st2 := [.ref (xm_ad (xx_G X) 84), .ref (xm_ad (xx_G X) 1)]) rfl ?_
    refine xg_stE (n := (o1.1).2.2) (xm_aps_2 _ _ _ _) (fun σ7 z8 => ?_)
    refine xg_callS hC (w_L_tell hI σ7) xl_M_L_85 xl_S_L_tell (by decide) ⟨by omega, by omega⟩ dL_law_87 (rest := []) rfl rfl (Nat.le_of_ble_eq_true rfl) rfl rfl (st2 := fun o => .int (xm_J o.2) :: []) (fun _ => rfl) (fun o9 k10 => ?_)
    refine xg_guard (fun z11 => ?_)
    refine xg_iconst hC dL_law_90 ?_
    refine xg_icmp_ne hC k10 (xm_inc _ rfl) 113 dL_law_91 rfl (fun c12 => ?_) (fun c13 => ?_)
    · refine xg_aload_n hC dL_law_94 rfl ?_
      refine xg_aload_n hC dL_law_95 rfl ?_
      refine xg_ldcS hC (i := 89) (id := 1) (by decide) dL_law_96 ?_
      refine xg_sipush hC dL_law_98 (by decide) ?_
      refine xg_iconst hC dL_law_101 ?_
      refine xg_iconst hC dL_law_102 ?_
      refine @xg_ite _ _ _ _ _ _ _ _ _ _ (Classical.propDecidable _) (fun k14 => ?_) (fun _ => xg_none)
      refine xg_callS1 hC (ml_textI (i := 1) (by decide) (by decide) (xm_JIX hI) k14) xl_M_L_91 xl_S_L_text (by decide) ⟨by omega, by omega⟩ dL_law_103 (rest := [.ref (xm_ad (xx_G X) 1)]) rfl rfl (Nat.le_of_ble_eq_true rfl) rfl rfl (st2 := fun o => [.ref (xm_ad (xx_G X) 84)] ++ [.ref (xm_ad (xx_G X) 1)]) (fun _ => rfl) (fun _ => ?_)
      refine xg_sg (σ2 := xm_aps o9.1 89 0 (xm_tP 1 (4000 : Int).toNat (0 : Int).toNat (1 : Int))) rfl (st2 := [.ref (xm_ad (xx_G X) 84), .ref (xm_ad (xx_G X) 1)]) rfl ?_
      refine xg_stE (n := (o9.1).2.2) (xm_aps_2 _ _ _ _) (fun σ15 z16 => ?_)
      refine xg_callS hC (w_L_tell hI σ15) xl_M_L_85 xl_S_L_tell (by decide) ⟨by omega, by omega⟩ dL_law_106 (rest := []) rfl rfl (Nat.le_of_ble_eq_true rfl) rfl rfl (st2 := fun o => .int (xm_J o.2) :: []) (fun _ => rfl) (fun o17 k18 => ?_)
      refine xg_guard (fun z19 => ?_)
      refine xg_iconst hC dL_law_109 ?_
      refine xg_icmp_eq hC k18 (xm_inc _ rfl) 115 dL_law_110 rfl (fun c20 => ?_) (fun c21 => ?_)
      · exact (xg_toL (by omega) (by omega) (by omega) (w_L_law hC hI hL o17.1))
      refine xg_iconst hC dL_law_113 ?_
      exact xg_none
    refine xg_iconst hC dL_law_113 ?_
    exact xg_none
  refine xg_iconst hC dL_law_113 ?_
  exact xg_none
def xm_z : xm_Mem := (fun _ _ => 0, fun _ _ => 0, 0)
/-- what the constructor leaves -/
noncomputable def f_made : Option xm_Mem := (f_X10_init (xm_nw xm_z) 1).map (fun o => o.1)
noncomputable def f_main (cl : Nat → Int) (el : Int) : Option xm_Out := (f_X10_init (xm_nw xm_z) 1).bind (fun o1 => if o1.1.2.2 = 83 then (@ite _ (xm_I (xm_st1 o1.1 el)) (Classical.propDecidable _) (f_L_first cl (xm_st1 o1.1 el)) none) else none)
theorem w_entry1 {X : xm_X} (hC : xm_C X RL cL_law 17 12 600000 7302250) (hI : xx_I X = xm_I0) {k : xm_Out → Option xm_Out} (h : ∀ o, xm_V X (0 + 1 + 82) (0 + xm_nf 9 + 9536) (k o) o.1 8 [(1, .ref (xm_ad (xx_G X) 1)), (0, .ref (xm_sb (xx_G X)))] []) : xm_V X 0 0 ((f_X10_init (xm_nw xm_z) 1).bind k) xm_z 0 [(0, .ref (xm_sb (xx_G X)))] [] := by
  generalize hr : (f_X10_init (xm_nw xm_z) 1).bind k = r
  have hg : (if xm_lay (xm_z.2.2 + 1) = (0, 9) ∧ xm_nxt xm_z then r else none) = r := if_pos (by decide +kernel)
  rw [← hg]
  refine xg_new hC (ci := 9) (by decide) xl_K_L_29 xl_T_9 xl_Z_9 ⟨Nat.le_of_ble_eq_true rfl, Nat.le_of_ble_eq_true rfl⟩ (xm_kp0 hI) dL_law_0 ?_
  refine xg_stk (st' := [xm_rf (xx_G X) 1]) rfl ?_
  refine xg_dup hC dL_law_3 xm_rf_cat ?_
  rw [← hr]
  refine xg_callI hC (v := 1) (w_X10_init hI (xm_nw xm_z) 1 ⟨by decide, xm_inc _ rfl⟩) (by decide) xl_M_L_67 xl_I_X10_init (by decide) ⟨Nat.le_of_ble_eq_true rfl, Nat.le_of_ble_eq_true rfl⟩ dL_law_4 (rest := [xm_rf (xx_G X) 1]) rfl rfl (by simp [xm_rf_cat]) rfl rfl (fun o1 _ => ?_)
  refine xg_stk (st' := [.ref (xm_ad (xx_G X) 1)]) rfl ?_
  refine xg_astore_n hC (l' := [(1, .ref (xm_ad (xx_G X) 1)), (0, .ref (xm_sb (xx_G X)))]) dL_law_7 (by decide) rfl ?_
  exact h o1
theorem xm_I_sI {X : xm_X} : xx_I (xm_sI X xm_I) = xm_I := rfl
theorem w_all {X : xm_X} {cl : Nat → Int} (hC : xm_C X RL cL_law 17 12 600000 7302250) (hI : xx_I X = xm_I0) (hL : xm_LW (xm_sI X xm_I) cl) {el : Int} (hEl : el = (xm_el (xx_G X) : Int)) : xm_V X 0 0 (f_main cl el) xm_z 0 [(0, .ref (xm_sb (xx_G X)))] [] := by
  unfold f_main
  refine w_entry1 hC hI (fun o1 => ?_)
  refine xg_guard (fun h83 => ?_)
  refine @xg_ite _ _ _ _ _ _ _ _ _ _ (Classical.propDecidable _) (fun hw => ?_) (fun _ => xg_none)
  have hC2 : xm_C (xm_sI X xm_I) RL cL_law 17 12 600000 7302250 := hC
  have e : (xm_st1 o1.1 el).2.2 = 110 := rfl
  refine w_entry2 hC hI ⟨Nat.le_of_ble_eq_true rfl, Nat.le_of_ble_eq_true rfl⟩ h83 hEl hw ?_
  exact xg_toL (n := 0) (by omega) (by omega) (by omega) (w_L_first hC2 xm_I_sI hL (xm_st1 o1.1 el))
