/-! ===== constructors (written by program) ===== -/
def xm_I0 : xm_Mem → Prop := fun _ => True
theorem xm_kp0 {X : xm_X} {σ σ' : xm_Mem} (hI : xx_I X = xm_I0) : xx_I X σ → xx_I X σ' := by rw [hI]; exact fun _ => trivial
set_option maxRecDepth 20000 in
noncomputable def f_X8_init (σ : xm_Mem) (x0 : Int) : Option xm_Out := if 1 ≤ x0 then (if xm_lay (σ.2.2 + 1) = (1, 80) ∧ xm_nxt σ then (xm_st (xm_nw σ) (fun σ3 => xm_vr ((σ.2.2 : Int) + 1) (fun v4 => if xm_obj σ3 x0 7 then (xm_st (xm_u1 σ3 x0.toNat 0 v4) (fun σ6 => if xm_obj σ6 x0 7 then (xm_st (xm_u1 σ6 x0.toNat 1 (0 : Int)) (fun σ7 => some (σ7, 0))) else none)) else none)) ) else none) else none
set_option maxRecDepth 20000 in
noncomputable def f_X6_init (σ : xm_Mem) (x0 : Int) (x1 : Int) : Option xm_Out := if 1 ≤ x0 then (if xm_obj σ x0 5 then (xm_st (xm_u1 σ x0.toNat 1 (0 : Int)) (fun σ3 => if xm_obj σ3 x0 5 then (xm_st (xm_u1 σ3 x0.toNat 2 (0 : Int)) (fun σ4 => if xm_obj σ4 x0 5 then (xm_st (xm_u1 σ4 x0.toNat 3 (-9 : Int)) (fun σ5 => if xm_obj σ5 x0 5 then (xm_st (xm_u1 σ5 x0.toNat 0 x1) (fun σ6 => some (σ6, 0))) else none)) else none)) else none)) else none) else none
set_option maxRecDepth 20000 in
noncomputable def f_X7_init (σ : xm_Mem) (x0 : Int) : Option xm_Out := if 1 ≤ x0 then (if xm_lay (σ.2.2 + 1) = (4, 200) ∧ xm_nxt σ then (xm_st (xm_nw σ) (fun σ3 => xm_vr ((σ.2.2 : Int) + 1) (fun v4 => if xm_obj σ3 x0 6 then (xm_st (xm_u1 σ3 x0.toNat 0 v4) (fun σ6 => if xm_lay (σ6.2.2 + 1) = (4, 64) ∧ xm_nxt σ6 then (xm_st (xm_nw σ6) (fun σ7 => xm_vr ((σ6.2.2 : Int) + 1) (fun v8 => if xm_obj σ7 x0 6 then (xm_st (xm_u1 σ7 x0.toNat 1 v8) (fun σ10 => if xm_lay (σ10.2.2 + 1) = (4, 8) ∧ xm_nxt σ10 then (xm_st (xm_nw σ10) (fun σ11 => xm_vr ((σ10.2.2 : Int) + 1) (fun v12 => if xm_obj σ11 x0 6 then (xm_st (xm_u1 σ11 x0.toNat 2 v12) (fun σ14 => if xm_obj σ14 x0 6 then (xm_st (xm_u1 σ14 x0.toNat 3 (0 : Int)) (fun σ15 => if xm_obj σ15 x0 6 then (xm_st (xm_u1 σ15 x0.toNat 4 (0 : Int)) (fun σ16 => if xm_obj σ16 x0 6 then (xm_st (xm_u1 σ16 x0.toNat 5 (0 : Int)) (fun σ17 => some (σ17, 0))) else none)) else none)) else none)) else none)) ) else none)) else none)) ) else none)) else none)) ) else none) else none
set_option maxRecDepth 20000 in
noncomputable def f_X5_init (σ : xm_Mem) (x0 : Int) : Option xm_Out := if 1 ≤ x0 then (if xm_lay (σ.2.2 + 1) = (2, 64) ∧ xm_nxt σ then (xm_st (xm_nw σ) (fun σ3 => xm_vr ((σ.2.2 : Int) + 1) (fun v4 => if xm_obj σ3 x0 4 then (xm_st (xm_u1 σ3 x0.toNat 0 v4) (fun σ6 => if xm_lay (σ6.2.2 + 1) = (2, 64) ∧ xm_nxt σ6 then (xm_st (xm_nw σ6) (fun σ7 => xm_vr ((σ6.2.2 : Int) + 1) (fun v8 => if xm_obj σ7 x0 4 then (xm_st (xm_u1 σ7 x0.toNat 1 v8) (fun σ10 => if xm_lay (σ10.2.2 + 1) = (1, 64) ∧ xm_nxt σ10 then (xm_st (xm_nw σ10) (fun σ11 => xm_vr ((σ10.2.2 : Int) + 1) (fun v12 => if xm_obj σ11 x0 4 then (xm_st (xm_u1 σ11 x0.toNat 2 v12) (fun σ14 => if xm_lay (σ14.2.2 + 1) = (1, 64) ∧ xm_nxt σ14 then (xm_st (xm_nw σ14) (fun σ15 => xm_vr ((σ14.2.2 : Int) + 1) (fun v16 => if xm_obj σ15 x0 4 then (xm_st (xm_u1 σ15 x0.toNat 3 v16) (fun σ18 => if xm_lay (σ18.2.2 + 1) = (1, 64) ∧ xm_nxt σ18 then (xm_st (xm_nw σ18) (fun σ19 => xm_vr ((σ18.2.2 : Int) + 1) (fun v20 => if xm_obj σ19 x0 4 then (xm_st (xm_u1 σ19 x0.toNat 4 v20) (fun σ22 => if xm_lay (σ22.2.2 + 1) = (1, 64) ∧ xm_nxt σ22 then (xm_st (xm_nw σ22) (fun σ23 => xm_vr ((σ22.2.2 : Int) + 1) (fun v24 => if xm_obj σ23 x0 4 then (xm_st (xm_u1 σ23 x0.toNat 5 v24) (fun σ26 => if xm_lay (σ26.2.2 + 1) = (1, 64) ∧ xm_nxt σ26 then (xm_st (xm_nw σ26) (fun σ27 => xm_vr ((σ26.2.2 : Int) + 1) (fun v28 => if xm_obj σ27 x0 4 then (xm_st (xm_u1 σ27 x0.toNat 6 v28) (fun σ30 => if xm_lay (σ30.2.2 + 1) = (1, 64) ∧ xm_nxt σ30 then (xm_st (xm_nw σ30) (fun σ31 => xm_vr ((σ30.2.2 : Int) + 1) (fun v32 => if xm_obj σ31 x0 4 then (xm_st (xm_u1 σ31 x0.toNat 7 v32) (fun σ34 => some (σ34, 0))) else none)) ) else none)) else none)) ) else none)) else none)) ) else none)) else none)) ) else none)) else none)) ) else none)) else none)) ) else none)) else none)) ) else none)) else none)) ) else none) else none
set_option maxRecDepth 20000 in
noncomputable def f_X9_init (σ : xm_Mem) (x0 : Int) : Option xm_Out := if 1 ≤ x0 then (if xm_lay (σ.2.2 + 1) = (1, 200) ∧ xm_nxt σ then (xm_st (xm_nw σ) (fun σ3 => xm_vr ((σ.2.2 : Int) + 1) (fun v4 => if xm_obj σ3 x0 8 then (xm_st (xm_u1 σ3 x0.toNat 0 v4) (fun σ6 => if xm_lay (σ6.2.2 + 1) = (1, 200) ∧ xm_nxt σ6 then (xm_st (xm_nw σ6) (fun σ7 => xm_vr ((σ6.2.2 : Int) + 1) (fun v8 => if xm_obj σ7 x0 8 then (xm_st (xm_u1 σ7 x0.toNat 1 v8) (fun σ10 => if xm_lay (σ10.2.2 + 1) = (1, 200) ∧ xm_nxt σ10 then (xm_st (xm_nw σ10) (fun σ11 => xm_vr ((σ10.2.2 : Int) + 1) (fun v12 => if xm_obj σ11 x0 8 then (xm_st (xm_u1 σ11 x0.toNat 2 v12) (fun σ14 => if xm_lay (σ14.2.2 + 1) = (1, 200) ∧ xm_nxt σ14 then (xm_st (xm_nw σ14) (fun σ15 => xm_vr ((σ14.2.2 : Int) + 1) (fun v16 => if xm_obj σ15 x0 8 then (xm_st (xm_u1 σ15 x0.toNat 3 v16) (fun σ18 => if xm_obj σ18 x0 8 then (xm_st (xm_u1 σ18 x0.toNat 4 (0 : Int)) (fun σ19 => some (σ19, 0))) else none)) else none)) ) else none)) else none)) ) else none)) else none)) ) else none)) else none)) ) else none) else none
set_option maxRecDepth 20000 in
noncomputable def f_X2_init (σ : xm_Mem) (x0 : Int) (x1 : Int) : Option xm_Out := if 1 ≤ x0 then (if xm_lay (σ.2.2 + 1) = (2, 64) ∧ xm_nxt σ then (xm_st (xm_nw σ) (fun σ3 => xm_vr ((σ.2.2 : Int) + 1) (fun v4 => if xm_obj σ3 x0 1 then (xm_st (xm_u1 σ3 x0.toNat 1 v4) (fun σ6 => if xm_lay (σ6.2.2 + 1) = (1, 64) ∧ xm_nxt σ6 then (xm_st (xm_nw σ6) (fun σ7 => xm_vr ((σ6.2.2 : Int) + 1) (fun v8 => if xm_obj σ7 x0 1 then (xm_st (xm_u1 σ7 x0.toNat 2 v8) (fun σ10 => if xm_obj σ10 x0 1 then (xm_st (xm_u1 σ10 x0.toNat 3 (0 : Int)) (fun σ11 => if xm_lay (σ11.2.2 + 1) = (1, 128) ∧ xm_nxt σ11 then (xm_st (xm_nw σ11) (fun σ12 => xm_vr ((σ11.2.2 : Int) + 1) (fun v13 => if xm_obj σ12 x0 1 then (xm_st (xm_u1 σ12 x0.toNat 4 v13) (fun σ15 => if xm_lay (σ15.2.2 + 1) = (1, 65) ∧ xm_nxt σ15 then (xm_st (xm_nw σ15) (fun σ16 => xm_vr ((σ15.2.2 : Int) + 1) (fun v17 => if xm_obj σ16 x0 1 then (xm_st (xm_u1 σ16 x0.toNat 5 v17) (fun σ19 => if xm_lay (σ19.2.2 + 1) = (3, 64) ∧ xm_nxt σ19 then (xm_st (xm_nw σ19) (fun σ20 => xm_vr ((σ19.2.2 : Int) + 1) (fun v21 => if xm_obj σ20 x0 1 then (xm_st (xm_u1 σ20 x0.toNat 6 v21) (fun σ23 => if xm_obj σ23 x0 1 then (xm_st (xm_u1 σ23 x0.toNat 0 x1) (fun σ24 => some (σ24, 0))) else none)) else none)) ) else none)) else none)) ) else none)) else none)) ) else none)) else none)) else none)) ) else none)) else none)) ) else none) else none
set_option maxRecDepth 20000 in
noncomputable def f_X4_init (σ : xm_Mem) (x0 : Int) (x1 : Int) (x2 : Int) : Option xm_Out := if 1 ≤ x0 then (if xm_lay (σ.2.2 + 1) = (1, 64) ∧ xm_nxt σ then (xm_st (xm_nw σ) (fun σ3 => xm_vr ((σ.2.2 : Int) + 1) (fun v4 => if xm_obj σ3 x0 3 then (xm_st (xm_u1 σ3 x0.toNat 2 v4) (fun σ6 => if xm_obj σ6 x0 3 then (xm_st (xm_u1 σ6 x0.toNat 3 (0 : Int)) (fun σ7 => if xm_obj σ7 x0 3 then (xm_st (xm_u1 σ7 x0.toNat 4 (-1 : Int)) (fun σ8 => if xm_obj σ8 x0 3 then (xm_st (xm_u1 σ8 x0.toNat 5 (-1 : Int)) (fun σ9 => if xm_lay (σ9.2.2 + 1) = (1, 129) ∧ xm_nxt σ9 then (xm_st (xm_nw σ9) (fun σ10 => xm_vr ((σ9.2.2 : Int) + 1) (fun v11 => if xm_obj σ10 x0 3 then (xm_st (xm_u1 σ10 x0.toNat 6 v11) (fun σ13 => if xm_obj σ13 x0 3 then (xm_st (xm_u1 σ13 x0.toNat 7 (0 : Int)) (fun σ14 => if xm_lay (σ14.2.2 + 1) = (1, 64) ∧ xm_nxt σ14 then (xm_st (xm_nw σ14) (fun σ15 => xm_vr ((σ14.2.2 : Int) + 1) (fun v16 => if xm_obj σ15 x0 3 then (xm_st (xm_u1 σ15 x0.toNat 8 v16) (fun σ18 => if xm_lay (σ18.2.2 + 1) = (1, 64) ∧ xm_nxt σ18 then (xm_st (xm_nw σ18) (fun σ19 => xm_vr ((σ18.2.2 : Int) + 1) (fun v20 => if xm_obj σ19 x0 3 then (xm_st (xm_u1 σ19 x0.toNat 9 v20) (fun σ22 => if xm_obj σ22 x0 3 then (xm_st (xm_u1 σ22 x0.toNat 10 (0 : Int)) (fun σ23 => if xm_obj σ23 x0 3 then (xm_st (xm_u2 σ23 x0.toNat 11 (0 : Int64)) (fun σ24 => if xm_lay (σ24.2.2 + 1) = (1, 64) ∧ xm_nxt σ24 then (xm_st (xm_nw σ24) (fun σ25 => xm_vr ((σ24.2.2 : Int) + 1) (fun v26 => if xm_obj σ25 x0 3 then (xm_st (xm_u1 σ25 x0.toNat 12 v26) (fun σ28 => if xm_obj σ28 x0 3 then (xm_st (xm_u1 σ28 x0.toNat 13 (0 : Int)) (fun σ29 => if xm_obj σ29 x0 3 then (xm_st (xm_u1 σ29 x0.toNat 0 x1) (fun σ30 => if xm_obj σ30 x0 3 then (xm_st (xm_u1 σ30 x0.toNat 1 x2) (fun σ31 => some (σ31, 0))) else none)) else none)) else none)) else none)) ) else none)) else none)) else none)) else none)) ) else none)) else none)) ) else none)) else none)) else none)) ) else none)) else none)) else none)) else none)) else none)) ) else none) else none
set_option maxRecDepth 20000 in
noncomputable def f_X1_init (σ : xm_Mem) (x0 : Int) (x1 : Int) (x2 : Int) (x3 : Int) (x4 : Int) (x5 : Int) : Option xm_Out := if 1 ≤ x0 then (if xm_lay (σ.2.2 + 1) = (1, 64) ∧ xm_nxt σ then (xm_st (xm_nw σ) (fun σ3 => xm_vr ((σ.2.2 : Int) + 1) (fun v4 => if xm_obj σ3 x0 0 then (xm_st (xm_u1 σ3 x0.toNat 5 v4) (fun σ6 => if xm_lay (σ6.2.2 + 1) = (1, 200) ∧ xm_nxt σ6 then (xm_st (xm_nw σ6) (fun σ7 => xm_vr ((σ6.2.2 : Int) + 1) (fun v8 => if xm_obj σ7 x0 0 then (xm_st (xm_u1 σ7 x0.toNat 6 v8) (fun σ10 => if xm_lay (σ10.2.2 + 1) = (1, 200) ∧ xm_nxt σ10 then (xm_st (xm_nw σ10) (fun σ11 => xm_vr ((σ10.2.2 : Int) + 1) (fun v12 => if xm_obj σ11 x0 0 then (xm_st (xm_u1 σ11 x0.toNat 7 v12) (fun σ14 => if xm_lay (σ14.2.2 + 1) = (1, 200) ∧ xm_nxt σ14 then (xm_st (xm_nw σ14) (fun σ15 => xm_vr ((σ14.2.2 : Int) + 1) (fun v16 => if xm_obj σ15 x0 0 then (xm_st (xm_u1 σ15 x0.toNat 8 v16) (fun σ18 => if xm_lay (σ18.2.2 + 1) = (1, 200) ∧ xm_nxt σ18 then (xm_st (xm_nw σ18) (fun σ19 => xm_vr ((σ18.2.2 : Int) + 1) (fun v20 => if xm_obj σ19 x0 0 then (xm_st (xm_u1 σ19 x0.toNat 9 v20) (fun σ22 => if xm_obj σ22 x0 0 then (xm_st (xm_u1 σ22 x0.toNat 10 (0 : Int)) (fun σ23 => if xm_obj σ23 x0 0 then (xm_st (xm_u1 σ23 x0.toNat 11 (0 : Int)) (fun σ24 => if xm_obj σ24 x0 0 then (xm_st (xm_u1 σ24 x0.toNat 12 (-1 : Int)) (fun σ25 => if xm_obj σ25 x0 0 then (xm_st (xm_u1 σ25 x0.toNat 13 (-1 : Int)) (fun σ26 => if xm_obj σ26 x0 0 then (xm_st (xm_u1 σ26 x0.toNat 14 (-1 : Int)) (fun σ27 => if xm_obj σ27 x0 0 then (xm_st (xm_u1 σ27 x0.toNat 15 (-1 : Int)) (fun σ28 => if xm_obj σ28 x0 0 then (xm_st (xm_u1 σ28 x0.toNat 16 (-1 : Int)) (fun σ29 => if xm_obj σ29 x0 0 then (xm_st (xm_u1 σ29 x0.toNat 0 x1) (fun σ30 => if xm_obj σ30 x0 0 then (xm_st (xm_u1 σ30 x0.toNat 1 x2) (fun σ31 => if xm_obj σ31 x0 0 then (xm_st (xm_u1 σ31 x0.toNat 2 x3) (fun σ32 => if xm_obj σ32 x0 0 then (xm_st (xm_u1 σ32 x0.toNat 3 x4) (fun σ33 => if xm_obj σ33 x0 0 then (xm_st (xm_u1 σ33 x0.toNat 4 x5) (fun σ34 => some (σ34, 0))) else none)) else none)) else none)) else none)) else none)) else none)) else none)) else none)) else none)) else none)) else none)) else none)) else none)) ) else none)) else none)) ) else none)) else none)) ) else none)) else none)) ) else none)) else none)) ) else none) else none
set_option maxRecDepth 20000 in
noncomputable def f_X10_init (σ : xm_Mem) (x0 : Int) : Option xm_Out := if 1 ≤ x0 then (if xm_lay (σ.2.2 + 1) = (0, 7) ∧ xm_nxt σ then (xm_st (xm_nw σ) (fun σ3 => xm_vr ((σ.2.2 : Int) + 1) (fun v4 => if 1 ≤ v4 then ((f_X8_init σ3 v4).bind (fun o7 => if xm_obj o7.1 x0 9 then (xm_st (xm_u1 o7.1 x0.toNat 0 v4) (fun σ9 => if xm_lay (σ9.2.2 + 1) = (0, 5) ∧ xm_nxt σ9 then (xm_st (xm_nw σ9) (fun σ10 => xm_vr ((σ9.2.2 : Int) + 1) (fun v11 => if 1 ≤ v11 then (if xm_obj σ10 x0 9 then (xm_vr (σ10.1 x0.toNat 0) (fun v15 => (f_X6_init σ10 v11 v15).bind (fun o17 => if xm_obj o17.1 x0 9 then (xm_st (xm_u1 o17.1 x0.toNat 1 v11) (fun σ19 => if xm_lay (σ19.2.2 + 1) = (0, 6) ∧ xm_nxt σ19 then (xm_st (xm_nw σ19) (fun σ20 => xm_vr ((σ19.2.2 : Int) + 1) (fun v21 => if 1 ≤ v21 then ((f_X7_init σ20 v21).bind (fun o24 => if xm_obj o24.1 x0 9 then (xm_st (xm_u1 o24.1 x0.toNat 2 v21) (fun σ26 => if xm_lay (σ26.2.2 + 1) = (0, 4) ∧ xm_nxt σ26 then (xm_st (xm_nw σ26) (fun σ27 => xm_vr ((σ26.2.2 : Int) + 1) (fun v28 => if 1 ≤ v28 then ((f_X5_init σ27 v28).bind (fun o31 => if xm_obj o31.1 x0 9 then (xm_st (xm_u1 o31.1 x0.toNat 3 v28) (fun σ33 => if xm_lay (σ33.2.2 + 1) = (0, 8) ∧ xm_nxt σ33 then (xm_st (xm_nw σ33) (fun σ34 => xm_vr ((σ33.2.2 : Int) + 1) (fun v35 => if 1 ≤ v35 then ((f_X9_init σ34 v35).bind (fun o38 => if xm_obj o38.1 x0 9 then (xm_st (xm_u1 o38.1 x0.toNat 4 v35) (fun σ40 => if xm_lay (σ40.2.2 + 1) = (0, 1) ∧ xm_nxt σ40 then (xm_st (xm_nw σ40) (fun σ41 => xm_vr ((σ40.2.2 : Int) + 1) (fun v42 => if 1 ≤ v42 then (if xm_obj σ41 x0 9 then (xm_vr (σ41.1 x0.toNat 3) (fun v46 => (f_X2_init σ41 v42 v46).bind (fun o48 => if xm_obj o48.1 x0 9 then (xm_st (xm_u1 o48.1 x0.toNat 5 v42) (fun σ50 => if xm_lay (σ50.2.2 + 1) = (0, 3) ∧ xm_nxt σ50 then (xm_st (xm_nw σ50) (fun σ51 => xm_vr ((σ50.2.2 : Int) + 1) (fun v52 => if 1 ≤ v52 then (if xm_obj σ51 x0 9 then (xm_vr (σ51.1 x0.toNat 3) (fun v56 => if xm_obj σ51 x0 9 then (xm_vr (σ51.1 x0.toNat 5) (fun v59 => (f_X4_init σ51 v52 v56 v59).bind (fun o61 => if xm_obj o61.1 x0 9 then (xm_st (xm_u1 o61.1 x0.toNat 6 v52) (fun σ63 => if xm_lay (σ63.2.2 + 1) = (5, 8) ∧ xm_nxt σ63 then (xm_st (xm_nw σ63) (fun σ64 => xm_vr ((σ63.2.2 : Int) + 1) (fun v65 => if xm_obj σ64 x0 9 then (xm_st (xm_u1 σ64 x0.toNat 7 v65) (fun σ67 => if xm_obj σ67 x0 9 then (xm_st (xm_u1 σ67 x0.toNat 8 (0 : Int)) (fun σ68 => if xm_obj σ68 x0 9 then (xm_st (xm_u1 σ68 x0.toNat 9 (-9 : Int)) (fun σ69 => if xm_obj σ69 x0 9 then (xm_st (xm_u1 σ69 x0.toNat 10 (0 : Int)) (fun σ70 => if (0 : Int) < (8 : Int) then (if xm_obj σ70 x0 9 then (xm_vr (σ70.1 x0.toNat 7) (fun v73 => if xm_lay (σ70.2.2 + 1) = (0, 0) ∧ xm_nxt σ70 then (xm_st (xm_nw σ70) (fun σ75 => xm_vr ((σ70.2.2 : Int) + 1) (fun v76 => if 1 ≤ v76 then (if xm_obj σ75 x0 9 then (xm_vr (σ75.1 x0.toNat 2) (fun v80 => if xm_obj σ75 x0 9 then (xm_vr (σ75.1 x0.toNat 3) (fun v83 => if xm_obj σ75 x0 9 then (xm_vr (σ75.1 x0.toNat 5) (fun v86 => if xm_obj σ75 x0 9 then (xm_vr (σ75.1 x0.toNat 6) (fun v89 => (f_X1_init σ75 v76 (0 : Int) v80 v83 v86 v89).bind (fun o91 => if xm_arr o91.1 v73 5 8 ∧ (0 ≤ (0 : Int) ∧ (0 : Int) < 8) ∧ xm_obj o91.1 v76 0 then (xm_st (xm_u1 o91.1 v73.toNat (0 : Int).toNat v76) (fun σ93 => if (1 : Int) < (8 : Int) then (if xm_obj σ93 x0 9 then (xm_vr (σ93.1 x0.toNat 7) (fun v96 => if xm_lay (σ93.2.2 + 1) = (0, 0) ∧ xm_nxt σ93 then (xm_st (xm_nw σ93) (fun σ98 => xm_vr ((σ93.2.2 : Int) + 1) (fun v99 => if 1 ≤ v99 then (if xm_obj σ98 x0 9 then (xm_vr (σ98.1 x0.toNat 2) (fun v103 => if xm_obj σ98 x0 9 then (xm_vr (σ98.1 x0.toNat 3) (fun v106 => if xm_obj σ98 x0 9 then (xm_vr (σ98.1 x0.toNat 5) (fun v109 => if xm_obj σ98 x0 9 then (xm_vr (σ98.1 x0.toNat 6) (fun v112 => (f_X1_init σ98 v99 (1 : Int) v103 v106 v109 v112).bind (fun o114 => if xm_arr o114.1 v96 5 8 ∧ (0 ≤ (1 : Int) ∧ (1 : Int) < 8) ∧ xm_obj o114.1 v99 0 then (xm_st (xm_u1 o114.1 v96.toNat (1 : Int).toNat v99) (fun σ116 => if (2 : Int) < (8 : Int) then (if xm_obj σ116 x0 9 then (xm_vr (σ116.1 x0.toNat 7) (fun v119 => if xm_lay (σ116.2.2 + 1) = (0, 0) ∧ xm_nxt σ116 then (xm_st (xm_nw σ116) (fun σ121 => xm_vr ((σ116.2.2 : Int) + 1) (fun v122 => if 1 ≤ v122 then (if xm_obj σ121 x0 9 then (xm_vr (σ121.1 x0.toNat 2) (fun v126 => if xm_obj σ121 x0 9 then (xm_vr (σ121.1 x0.toNat 3) (fun v129 => if xm_obj σ121 x0 9 then (xm_vr (σ121.1 x0.toNat 5) (fun v132 => if xm_obj σ121 x0 9 then (xm_vr (σ121.1 x0.toNat 6) (fun v135 => (f_X1_init σ121 v122 (2 : Int) v126 v129 v132 v135).bind (fun o137 => if xm_arr o137.1 v119 5 8 ∧ (0 ≤ (2 : Int) ∧ (2 : Int) < 8) ∧ xm_obj o137.1 v122 0 then (xm_st (xm_u1 o137.1 v119.toNat (2 : Int).toNat v122) (fun σ139 => if (3 : Int) < (8 : Int) then (if xm_obj σ139 x0 9 then (xm_vr (σ139.1 x0.toNat 7) (fun v142 => if xm_lay (σ139.2.2 + 1) = (0, 0) ∧ xm_nxt σ139 then (xm_st (xm_nw σ139) (fun σ144 => xm_vr ((σ139.2.2 : Int) + 1) (fun v145 => if 1 ≤ v145 then (if xm_obj σ144 x0 9 then (xm_vr (σ144.1 x0.toNat 2) (fun v149 => if xm_obj σ144 x0 9 then (xm_vr (σ144.1 x0.toNat 3) (fun v152 => if xm_obj σ144 x0 9 then (xm_vr (σ144.1 x0.toNat 5) (fun v155 => if xm_obj σ144 x0 9 then (xm_vr (σ144.1 x0.toNat 6) (fun v158 => (f_X1_init σ144 v145 (3 : Int) v149 v152 v155 v158).bind (fun o160 => if xm_arr o160.1 v142 5 8 ∧ (0 ≤ (3 : Int) ∧ (3 : Int) < 8) ∧ xm_obj o160.1 v145 0 then (xm_st (xm_u1 o160.1 v142.toNat (3 : Int).toNat v145) (fun σ162 => if (4 : Int) < (8 : Int) then (if xm_obj σ162 x0 9 then (xm_vr (σ162.1 x0.toNat 7) (fun v165 => if xm_lay (σ162.2.2 + 1) = (0, 0) ∧ xm_nxt σ162 then (xm_st (xm_nw σ162) (fun σ167 => xm_vr ((σ162.2.2 : Int) + 1) (fun v168 => if 1 ≤ v168 then (if xm_obj σ167 x0 9 then (xm_vr (σ167.1 x0.toNat 2) (fun v172 => if xm_obj σ167 x0 9 then (xm_vr (σ167.1 x0.toNat 3) (fun v175 => if xm_obj σ167 x0 9 then (xm_vr (σ167.1 x0.toNat 5) (fun v178 => if xm_obj σ167 x0 9 then (xm_vr (σ167.1 x0.toNat 6) (fun v181 => (f_X1_init σ167 v168 (4 : Int) v172 v175 v178 v181).bind (fun o183 => if xm_arr o183.1 v165 5 8 ∧ (0 ≤ (4 : Int) ∧ (4 : Int) < 8) ∧ xm_obj o183.1 v168 0 then (xm_st (xm_u1 o183.1 v165.toNat (4 : Int).toNat v168) (fun σ185 => if (5 : Int) < (8 : Int) then (if xm_obj σ185 x0 9 then (xm_vr (σ185.1 x0.toNat 7) (fun v188 => if xm_lay (σ185.2.2 + 1) = (0, 0) ∧ xm_nxt σ185 then (xm_st (xm_nw σ185) (fun σ190 => xm_vr ((σ185.2.2 : Int) + 1) (fun v191 => if 1 ≤ v191 then (if xm_obj σ190 x0 9 then (xm_vr (σ190.1 x0.toNat 2) (fun v195 => if xm_obj σ190 x0 9 then (xm_vr (σ190.1 x0.toNat 3) (fun v198 => if xm_obj σ190 x0 9 then (xm_vr (σ190.1 x0.toNat 5) (fun v201 => if xm_obj σ190 x0 9 then (xm_vr (σ190.1 x0.toNat 6) (fun v204 => (f_X1_init σ190 v191 (5 : Int) v195 v198 v201 v204).bind (fun o206 => if xm_arr o206.1 v188 5 8 ∧ (0 ≤ (5 : Int) ∧ (5 : Int) < 8) ∧ xm_obj o206.1 v191 0 then (xm_st (xm_u1 o206.1 v188.toNat (5 : Int).toNat v191) (fun σ208 => if (6 : Int) < (8 : Int) then (if xm_obj σ208 x0 9 then (xm_vr (σ208.1 x0.toNat 7) (fun v211 => if xm_lay (σ208.2.2 + 1) = (0, 0) ∧ xm_nxt σ208 then (xm_st (xm_nw σ208) (fun σ213 => xm_vr ((σ208.2.2 : Int) + 1) (fun v214 => if 1 ≤ v214 then (if xm_obj σ213 x0 9 then (xm_vr (σ213.1 x0.toNat 2) (fun v218 => if xm_obj σ213 x0 9 then (xm_vr (σ213.1 x0.toNat 3) (fun v221 => if xm_obj σ213 x0 9 then (xm_vr (σ213.1 x0.toNat 5) (fun v224 => if xm_obj σ213 x0 9 then (xm_vr (σ213.1 x0.toNat 6) (fun v227 => (f_X1_init σ213 v214 (6 : Int) v218 v221 v224 v227).bind (fun o229 => if xm_arr o229.1 v211 5 8 ∧ (0 ≤ (6 : Int) ∧ (6 : Int) < 8) ∧ xm_obj o229.1 v214 0 then (xm_st (xm_u1 o229.1 v211.toNat (6 : Int).toNat v214) (fun σ231 => if (7 : Int) < (8 : Int) then (if xm_obj σ231 x0 9 then (xm_vr (σ231.1 x0.toNat 7) (fun v234 => if xm_lay (σ231.2.2 + 1) = (0, 0) ∧ xm_nxt σ231 then (xm_st (xm_nw σ231) (fun σ236 => xm_vr ((σ231.2.2 : Int) + 1) (fun v237 => if 1 ≤ v237 then (if xm_obj σ236 x0 9 then (xm_vr (σ236.1 x0.toNat 2) (fun v241 => if xm_obj σ236 x0 9 then (xm_vr (σ236.1 x0.toNat 3) (fun v244 => if xm_obj σ236 x0 9 then (xm_vr (σ236.1 x0.toNat 5) (fun v247 => if xm_obj σ236 x0 9 then (xm_vr (σ236.1 x0.toNat 6) (fun v250 => (f_X1_init σ236 v237 (7 : Int) v241 v244 v247 v250).bind (fun o252 => if xm_arr o252.1 v234 5 8 ∧ (0 ≤ (7 : Int) ∧ (7 : Int) < 8) ∧ xm_obj o252.1 v237 0 then (xm_st (xm_u1 o252.1 v234.toNat (7 : Int).toNat v237) (fun σ254 => if (8 : Int) < (8 : Int) then none else (some (σ254, 0)))) else none))) else none)) else none)) else none)) else none) else none)) ) else none)) else none) else none)) else none))) else none)) else none)) else none)) else none) else none)) ) else none)) else none) else none)) else none))) else none)) else none)) else none)) else none) else none)) ) else none)) else none) else none)) else none))) else none)) else none)) else none)) else none) else none)) ) else none)) else none) else none)) else none))) else none)) else none)) else none)) else none) else none)) ) else none)) else none) else none)) else none))) else none)) else none)) else none)) else none) else none)) ) else none)) else none) else none)) else none))) else none)) else none)) else none)) else none) else none)) ) else none)) else none) else none)) else none))) else none)) else none)) else none)) else none) else none)) ) else none)) else none) else none)) else none)) else none)) else none)) else none)) ) else none)) else none))) else none)) else none) else none)) ) else none)) else none))) else none) else none)) ) else none)) else none)) else none)) ) else none)) else none)) else none)) ) else none)) else none)) else none)) ) else none)) else none))) else none) else none)) ) else none)) else none)) else none)) ) else none) else none
set_option maxRecDepth 20000 in
theorem w_X8_init {Γ : xm_Gm} {I : xm_Mem → Prop} {la : Launch} (hE : I = xm_I0) (σ : xm_Mem) (x0 : Int) (h0 : 0 ≤ x0 ∧ xm_in x0) : ∀ o, f_X8_init σ x0 = some o → xm_M Γ I la yX8_init cX8_init 1 none 2 1 80 [xm_rf Γ x0] σ 0 o := by
  refine xg_enter (by decide) (by simp [lg_sl, xm_rf_cat, xm_cati, xm_catr, xm_catl]) (fun X hG hI0 hla hC hQ hname => ?_)
  subst hG
  have hI := hI0.trans hE
  clear hI0 hla
  unfold f_X8_init
  refine xg_pick [0] (l' := [(0, xm_rf (xx_G X) x0)]) (by simp [lv_args, lv_pick, xm_rf_cat, xm_cati, xm_catr, xm_catl]) ?_
  refine xg_rload_n hC dX8_init_0 rfl ?_
  refine xg_guard (fun q1 => ?_)
  refine xg_oinit hC (v := x0) q1 xl_O_X8_3 xl_OI xl_OC (by decide) dX8_init_1 ?_
  refine xg_rload_n hC dX8_init_4 rfl ?_
  refine xg_bipush hC dX8_init_5 (by decide) ?_
  refine xg_newa hC (atype := .int) (kd := 1) (N := 80) (by decide) rfl (Nat.le_of_ble_eq_true rfl) xl_A_int ⟨Nat.le_of_ble_eq_true rfl, Nat.le_of_ble_eq_true rfl⟩ (xm_kp0 hI) dX8_init_7 ?_
  refine xg_st (fun σ3 => ?_)
  refine xg_vR (by omega) (fun v4 k5 => ?_)
  refine xg_sputR hC rfl rfl (Or.inr ⟨hname, rfl⟩) k5.2 k5.1 (fun _ => xm_kp0 hI) xl_F_X8_9 dX8_init_9 ?_
  refine xg_st (fun σ6 => ?_)
  refine xg_rload_n hC dX8_init_12 rfl ?_
  refine xg_iconst hC dX8_init_13 ?_
  refine xg_sputI hC rfl (Or.inr ⟨hname, rfl⟩) (xm_inc _ rfl) (fun _ => xm_kp0 hI) xl_F_X8_15 dX8_init_14 ?_
  refine xg_st (fun σ7 => ?_)
  exact xg_vret hC hQ dX8_init_17
set_option maxRecDepth 20000 in
theorem w_X6_init {Γ : xm_Gm} {I : xm_Mem → Prop} {la : Launch} (hE : I = xm_I0) (σ : xm_Mem) (x0 : Int) (x1 : Int) (h0 : 0 ≤ x0 ∧ xm_in x0) (h1 : 0 ≤ x1 ∧ xm_in x1) : ∀ o, f_X6_init σ x0 x1 = some o → xm_M Γ I la yX6_init cX6_init 2 none 2 0 0 [xm_rf Γ x0, xm_rf Γ x1] σ 0 o := by
  refine xg_enter (by decide) (by simp [lg_sl, xm_rf_cat, xm_cati, xm_catr, xm_catl]) (fun X hG hI0 hla hC hQ hname => ?_)
  subst hG
  have hI := hI0.trans hE
  clear hI0 hla
  unfold f_X6_init
  refine xg_pick [0, 1] (l' := [(0, xm_rf (xx_G X) x0), (1, xm_rf (xx_G X) x1)]) (by simp [lv_args, lv_pick, xm_rf_cat, xm_cati, xm_catr, xm_catl]) ?_
  refine xg_rload_n hC dX6_init_0 rfl ?_
  refine xg_guard (fun q1 => ?_)
  refine xg_oinit hC (v := x0) q1 xl_O_X6_3 xl_OI xl_OC (by decide) dX6_init_1 ?_
  refine xg_rload_n hC dX6_init_4 rfl ?_
  refine xg_iconst hC dX6_init_5 ?_
  refine xg_sputI hC rfl (Or.inr ⟨hname, rfl⟩) (xm_inc _ rfl) (fun _ => xm_kp0 hI) xl_F_X6_9 dX6_init_6 ?_
  refine xg_st (fun σ3 => ?_)
  refine xg_rload_n hC dX6_init_9 rfl ?_
  refine xg_iconst hC dX6_init_10 ?_
  refine xg_sputI hC rfl (Or.inr ⟨hname, rfl⟩) (xm_inc _ rfl) (fun _ => xm_kp0 hI) xl_F_X6_15 dX6_init_11 ?_
  refine xg_st (fun σ4 => ?_)
  refine xg_rload_n hC dX6_init_14 rfl ?_
  refine xg_bipush hC dX6_init_15 (by decide) ?_
  refine xg_sputI hC rfl (Or.inr ⟨hname, rfl⟩) (xm_inc _ rfl) (fun _ => xm_kp0 hI) xl_F_X6_18 dX6_init_17 ?_
  refine xg_st (fun σ5 => ?_)
  refine xg_rload_n hC dX6_init_20 rfl ?_
  refine xg_rload_n hC dX6_init_21 rfl ?_
  refine xg_sputR hC rfl rfl (Or.inr ⟨hname, rfl⟩) h1.2 h1.1 (fun _ => xm_kp0 hI) xl_F_X6_21 dX6_init_22 ?_
  refine xg_st (fun σ6 => ?_)
  exact xg_vret hC hQ dX6_init_25
set_option maxRecDepth 20000 in
theorem w_X7_init {Γ : xm_Gm} {I : xm_Mem → Prop} {la : Launch} (hE : I = xm_I0) (σ : xm_Mem) (x0 : Int) (h0 : 0 ≤ x0 ∧ xm_in x0) : ∀ o, f_X7_init σ x0 = some o → xm_M Γ I la yX7_init cX7_init 1 none 2 3 272 [xm_rf Γ x0] σ 0 o := by
  refine xg_enter (by decide) (by simp [lg_sl, xm_rf_cat, xm_cati, xm_catr, xm_catl]) (fun X hG hI0 hla hC hQ hname => ?_)
  subst hG
  have hI := hI0.trans hE
  clear hI0 hla
  unfold f_X7_init
  refine xg_pick [0] (l' := [(0, xm_rf (xx_G X) x0)]) (by simp [lv_args, lv_pick, xm_rf_cat, xm_cati, xm_catr, xm_catl]) ?_
  refine xg_rload_n hC dX7_init_0 rfl ?_
  refine xg_guard (fun q1 => ?_)
  refine xg_oinit hC (v := x0) q1 xl_O_X7_3 xl_OI xl_OC (by decide) dX7_init_1 ?_
  refine xg_rload_n hC dX7_init_4 rfl ?_
  refine xg_sipush hC dX7_init_5 (by decide) ?_
  refine xg_newq hC (kd := 4) (ci := 2) (N := 200) (by unfold xm_kc; decide) rfl (Nat.le_of_ble_eq_true rfl) xl_K_X7_9 ⟨Nat.le_of_ble_eq_true rfl, Nat.le_of_ble_eq_true rfl⟩ (xm_kp0 hI) dX7_init_8 ?_
  refine xg_st (fun σ3 => ?_)
  refine xg_vR (by omega) (fun v4 k5 => ?_)
  refine xg_sputR hC rfl rfl (Or.inr ⟨hname, rfl⟩) k5.2 k5.1 (fun _ => xm_kp0 hI) xl_F_X7_11 dX7_init_11 ?_
  refine xg_st (fun σ6 => ?_)
  refine xg_rload_n hC dX7_init_14 rfl ?_
  refine xg_bipush hC dX7_init_15 (by decide) ?_
  refine xg_newq hC (kd := 4) (ci := 2) (N := 64) (by unfold xm_kc; decide) rfl (Nat.le_of_ble_eq_true rfl) xl_K_X7_9 ⟨Nat.le_of_ble_eq_true rfl, Nat.le_of_ble_eq_true rfl⟩ (xm_kp0 hI) dX7_init_17 ?_
  refine xg_st (fun σ7 => ?_)
  refine xg_vR (by omega) (fun v8 k9 => ?_)
  refine xg_sputR hC rfl rfl (Or.inr ⟨hname, rfl⟩) k9.2 k9.1 (fun _ => xm_kp0 hI) xl_F_X7_17 dX7_init_20 ?_
  refine xg_st (fun σ10 => ?_)
  refine xg_rload_n hC dX7_init_23 rfl ?_
  refine xg_bipush hC dX7_init_24 (by decide) ?_
  refine xg_newq hC (kd := 4) (ci := 2) (N := 8) (by unfold xm_kc; decide) rfl (Nat.le_of_ble_eq_true rfl) xl_K_X7_9 ⟨Nat.le_of_ble_eq_true rfl, Nat.le_of_ble_eq_true rfl⟩ (xm_kp0 hI) dX7_init_26 ?_
  refine xg_st (fun σ11 => ?_)
  refine xg_vR (by omega) (fun v12 k13 => ?_)
  refine xg_sputR hC rfl rfl (Or.inr ⟨hname, rfl⟩) k13.2 k13.1 (fun _ => xm_kp0 hI) xl_F_X7_20 dX7_init_29 ?_
  refine xg_st (fun σ14 => ?_)
  refine xg_rload_n hC dX7_init_32 rfl ?_
  refine xg_iconst hC dX7_init_33 ?_
  refine xg_sputI hC rfl (Or.inr ⟨hname, rfl⟩) (xm_inc _ rfl) (fun _ => xm_kp0 hI) xl_F_X7_23 dX7_init_34 ?_
  refine xg_st (fun σ15 => ?_)
  refine xg_rload_n hC dX7_init_37 rfl ?_
  refine xg_iconst hC dX7_init_38 ?_
  refine xg_sputI hC rfl (Or.inr ⟨hname, rfl⟩) (xm_inc _ rfl) (fun _ => xm_kp0 hI) xl_F_X7_27 dX7_init_39 ?_
  refine xg_st (fun σ16 => ?_)
  refine xg_rload_n hC dX7_init_42 rfl ?_
  refine xg_iconst hC dX7_init_43 ?_
  refine xg_sputI hC rfl (Or.inr ⟨hname, rfl⟩) (xm_inc _ rfl) (fun _ => xm_kp0 hI) xl_F_X7_30 dX7_init_44 ?_
  refine xg_st (fun σ17 => ?_)
  exact xg_vret hC hQ dX7_init_47
set_option maxRecDepth 20000 in
theorem w_X5_init {Γ : xm_Gm} {I : xm_Mem → Prop} {la : Launch} (hE : I = xm_I0) (σ : xm_Mem) (x0 : Int) (h0 : 0 ≤ x0 ∧ xm_in x0) : ∀ o, f_X5_init σ x0 = some o → xm_M Γ I la yX5_init cX5_init 1 none 2 8 512 [xm_rf Γ x0] σ 0 o := by
  refine xg_enter (by decide) (by simp [lg_sl, xm_rf_cat, xm_cati, xm_catr, xm_catl]) (fun X hG hI0 hla hC hQ hname => ?_)
  subst hG
  have hI := hI0.trans hE
  clear hI0 hla
  unfold f_X5_init
  refine xg_pick [0] (l' := [(0, xm_rf (xx_G X) x0)]) (by simp [lv_args, lv_pick, xm_rf_cat, xm_cati, xm_catr, xm_catl]) ?_
  refine xg_rload_n hC dX5_init_0 rfl ?_
  refine xg_guard (fun q1 => ?_)
  refine xg_oinit hC (v := x0) q1 xl_O_X5_3 xl_OI xl_OC (by decide) dX5_init_1 ?_
  refine xg_rload_n hC dX5_init_4 rfl ?_
  refine xg_bipush hC dX5_init_5 (by decide) ?_
  refine xg_newa hC (atype := .boolean) (kd := 2) (N := 64) (by decide) rfl (Nat.le_of_ble_eq_true rfl) xl_A_boolean ⟨Nat.le_of_ble_eq_true rfl, Nat.le_of_ble_eq_true rfl⟩ (xm_kp0 hI) dX5_init_7 ?_
  refine xg_st (fun σ3 => ?_)
  refine xg_vR (by omega) (fun v4 k5 => ?_)
  refine xg_sputR hC rfl rfl (Or.inr ⟨hname, rfl⟩) k5.2 k5.1 (fun _ => xm_kp0 hI) xl_F_X5_9 dX5_init_9 ?_
  refine xg_st (fun σ6 => ?_)
  refine xg_rload_n hC dX5_init_12 rfl ?_
  refine xg_bipush hC dX5_init_13 (by decide) ?_
  refine xg_newa hC (atype := .boolean) (kd := 2) (N := 64) (by decide) rfl (Nat.le_of_ble_eq_true rfl) xl_A_boolean ⟨Nat.le_of_ble_eq_true rfl, Nat.le_of_ble_eq_true rfl⟩ (xm_kp0 hI) dX5_init_15 ?_
  refine xg_st (fun σ7 => ?_)
  refine xg_vR (by omega) (fun v8 k9 => ?_)
  refine xg_sputR hC rfl rfl (Or.inr ⟨hname, rfl⟩) k9.2 k9.1 (fun _ => xm_kp0 hI) xl_F_X5_15 dX5_init_17 ?_
  refine xg_st (fun σ10 => ?_)
  refine xg_rload_n hC dX5_init_20 rfl ?_
  refine xg_bipush hC dX5_init_21 (by decide) ?_
  refine xg_newa hC (atype := .int) (kd := 1) (N := 64) (by decide) rfl (Nat.le_of_ble_eq_true rfl) xl_A_int ⟨Nat.le_of_ble_eq_true rfl, Nat.le_of_ble_eq_true rfl⟩ (xm_kp0 hI) dX5_init_23 ?_
  refine xg_st (fun σ11 => ?_)
  refine xg_vR (by omega) (fun v12 k13 => ?_)
  refine xg_sputR hC rfl rfl (Or.inr ⟨hname, rfl⟩) k13.2 k13.1 (fun _ => xm_kp0 hI) xl_F_X5_18 dX5_init_25 ?_
  refine xg_st (fun σ14 => ?_)
  refine xg_rload_n hC dX5_init_28 rfl ?_
  refine xg_bipush hC dX5_init_29 (by decide) ?_
  refine xg_newa hC (atype := .int) (kd := 1) (N := 64) (by decide) rfl (Nat.le_of_ble_eq_true rfl) xl_A_int ⟨Nat.le_of_ble_eq_true rfl, Nat.le_of_ble_eq_true rfl⟩ (xm_kp0 hI) dX5_init_31 ?_
  refine xg_st (fun σ15 => ?_)
  refine xg_vR (by omega) (fun v16 k17 => ?_)
  refine xg_sputR hC rfl rfl (Or.inr ⟨hname, rfl⟩) k17.2 k17.1 (fun _ => xm_kp0 hI) xl_F_X5_22 dX5_init_33 ?_
  refine xg_st (fun σ18 => ?_)
  refine xg_rload_n hC dX5_init_36 rfl ?_
  refine xg_bipush hC dX5_init_37 (by decide) ?_
  refine xg_newa hC (atype := .int) (kd := 1) (N := 64) (by decide) rfl (Nat.le_of_ble_eq_true rfl) xl_A_int ⟨Nat.le_of_ble_eq_true rfl, Nat.le_of_ble_eq_true rfl⟩ (xm_kp0 hI) dX5_init_39 ?_
  refine xg_st (fun σ19 => ?_)
  refine xg_vR (by omega) (fun v20 k21 => ?_)
  refine xg_sputR hC rfl rfl (Or.inr ⟨hname, rfl⟩) k21.2 k21.1 (fun _ => xm_kp0 hI) xl_F_X5_25 dX5_init_41 ?_
  refine xg_st (fun σ22 => ?_)
  refine xg_rload_n hC dX5_init_44 rfl ?_
  refine xg_bipush hC dX5_init_45 (by decide) ?_
  refine xg_newa hC (atype := .int) (kd := 1) (N := 64) (by decide) rfl (Nat.le_of_ble_eq_true rfl) xl_A_int ⟨Nat.le_of_ble_eq_true rfl, Nat.le_of_ble_eq_true rfl⟩ (xm_kp0 hI) dX5_init_47 ?_
  refine xg_st (fun σ23 => ?_)
  refine xg_vR (by omega) (fun v24 k25 => ?_)
  refine xg_sputR hC rfl rfl (Or.inr ⟨hname, rfl⟩) k25.2 k25.1 (fun _ => xm_kp0 hI) xl_F_X5_28 dX5_init_49 ?_
  refine xg_st (fun σ26 => ?_)
  refine xg_rload_n hC dX5_init_52 rfl ?_
  refine xg_bipush hC dX5_init_53 (by decide) ?_
  refine xg_newa hC (atype := .int) (kd := 1) (N := 64) (by decide) rfl (Nat.le_of_ble_eq_true rfl) xl_A_int ⟨Nat.le_of_ble_eq_true rfl, Nat.le_of_ble_eq_true rfl⟩ (xm_kp0 hI) dX5_init_55 ?_
  refine xg_st (fun σ27 => ?_)
  refine xg_vR (by omega) (fun v28 k29 => ?_)
  refine xg_sputR hC rfl rfl (Or.inr ⟨hname, rfl⟩) k29.2 k29.1 (fun _ => xm_kp0 hI) xl_F_X5_31 dX5_init_57 ?_
  refine xg_st (fun σ30 => ?_)
  refine xg_rload_n hC dX5_init_60 rfl ?_
  refine xg_bipush hC dX5_init_61 (by decide) ?_
  refine xg_newa hC (atype := .int) (kd := 1) (N := 64) (by decide) rfl (Nat.le_of_ble_eq_true rfl) xl_A_int ⟨Nat.le_of_ble_eq_true rfl, Nat.le_of_ble_eq_true rfl⟩ (xm_kp0 hI) dX5_init_63 ?_
  refine xg_st (fun σ31 => ?_)
  refine xg_vR (by omega) (fun v32 k33 => ?_)
  refine xg_sputR hC rfl rfl (Or.inr ⟨hname, rfl⟩) k33.2 k33.1 (fun _ => xm_kp0 hI) xl_F_X5_34 dX5_init_65 ?_
  refine xg_st (fun σ34 => ?_)
  exact xg_vret hC hQ dX5_init_68
set_option maxRecDepth 20000 in
theorem w_X9_init {Γ : xm_Gm} {I : xm_Mem → Prop} {la : Launch} (hE : I = xm_I0) (σ : xm_Mem) (x0 : Int) (h0 : 0 ≤ x0 ∧ xm_in x0) : ∀ o, f_X9_init σ x0 = some o → xm_M Γ I la yX9_init cX9_init 1 none 2 4 800 [xm_rf Γ x0] σ 0 o := by
  refine xg_enter (by decide) (by simp [lg_sl, xm_rf_cat, xm_cati, xm_catr, xm_catl]) (fun X hG hI0 hla hC hQ hname => ?_)
  subst hG
  have hI := hI0.trans hE
  clear hI0 hla
  unfold f_X9_init
  refine xg_pick [0] (l' := [(0, xm_rf (xx_G X) x0)]) (by simp [lv_args, lv_pick, xm_rf_cat, xm_cati, xm_catr, xm_catl]) ?_
  refine xg_rload_n hC dX9_init_0 rfl ?_
  refine xg_guard (fun q1 => ?_)
  refine xg_oinit hC (v := x0) q1 xl_O_X9_3 xl_OI xl_OC (by decide) dX9_init_1 ?_
  refine xg_rload_n hC dX9_init_4 rfl ?_
  refine xg_sipush hC dX9_init_5 (by decide) ?_
  refine xg_newa hC (atype := .int) (kd := 1) (N := 200) (by decide) rfl (Nat.le_of_ble_eq_true rfl) xl_A_int ⟨Nat.le_of_ble_eq_true rfl, Nat.le_of_ble_eq_true rfl⟩ (xm_kp0 hI) dX9_init_8 ?_
  refine xg_st (fun σ3 => ?_)
  refine xg_vR (by omega) (fun v4 k5 => ?_)
  refine xg_sputR hC rfl rfl (Or.inr ⟨hname, rfl⟩) k5.2 k5.1 (fun _ => xm_kp0 hI) xl_F_X9_9 dX9_init_10 ?_
  refine xg_st (fun σ6 => ?_)
  refine xg_rload_n hC dX9_init_13 rfl ?_
  refine xg_sipush hC dX9_init_14 (by decide) ?_
  refine xg_newa hC (atype := .int) (kd := 1) (N := 200) (by decide) rfl (Nat.le_of_ble_eq_true rfl) xl_A_int ⟨Nat.le_of_ble_eq_true rfl, Nat.le_of_ble_eq_true rfl⟩ (xm_kp0 hI) dX9_init_17 ?_
  refine xg_st (fun σ7 => ?_)
  refine xg_vR (by omega) (fun v8 k9 => ?_)
  refine xg_sputR hC rfl rfl (Or.inr ⟨hname, rfl⟩) k9.2 k9.1 (fun _ => xm_kp0 hI) xl_F_X9_15 dX9_init_19 ?_
  refine xg_st (fun σ10 => ?_)
  refine xg_rload_n hC dX9_init_22 rfl ?_
  refine xg_sipush hC dX9_init_23 (by decide) ?_
  refine xg_newa hC (atype := .int) (kd := 1) (N := 200) (by decide) rfl (Nat.le_of_ble_eq_true rfl) xl_A_int ⟨Nat.le_of_ble_eq_true rfl, Nat.le_of_ble_eq_true rfl⟩ (xm_kp0 hI) dX9_init_26 ?_
  refine xg_st (fun σ11 => ?_)
  refine xg_vR (by omega) (fun v12 k13 => ?_)
  refine xg_sputR hC rfl rfl (Or.inr ⟨hname, rfl⟩) k13.2 k13.1 (fun _ => xm_kp0 hI) xl_F_X9_18 dX9_init_28 ?_
  refine xg_st (fun σ14 => ?_)
  refine xg_rload_n hC dX9_init_31 rfl ?_
  refine xg_sipush hC dX9_init_32 (by decide) ?_
  refine xg_newa hC (atype := .int) (kd := 1) (N := 200) (by decide) rfl (Nat.le_of_ble_eq_true rfl) xl_A_int ⟨Nat.le_of_ble_eq_true rfl, Nat.le_of_ble_eq_true rfl⟩ (xm_kp0 hI) dX9_init_35 ?_
  refine xg_st (fun σ15 => ?_)
  refine xg_vR (by omega) (fun v16 k17 => ?_)
  refine xg_sputR hC rfl rfl (Or.inr ⟨hname, rfl⟩) k17.2 k17.1 (fun _ => xm_kp0 hI) xl_F_X9_21 dX9_init_37 ?_
  refine xg_st (fun σ18 => ?_)
  refine xg_rload_n hC dX9_init_40 rfl ?_
  refine xg_iconst hC dX9_init_41 ?_
  refine xg_sputI hC rfl (Or.inr ⟨hname, rfl⟩) (xm_inc _ rfl) (fun _ => xm_kp0 hI) xl_F_X9_24 dX9_init_42 ?_
  refine xg_st (fun σ19 => ?_)
  exact xg_vret hC hQ dX9_init_45
set_option maxRecDepth 20000 in
theorem w_X2_init {Γ : xm_Gm} {I : xm_Mem → Prop} {la : Launch} (hE : I = xm_I0) (σ : xm_Mem) (x0 : Int) (x1 : Int) (h0 : 0 ≤ x0 ∧ xm_in x0) (h1 : 0 ≤ x1 ∧ xm_in x1) : ∀ o, f_X2_init σ x0 x1 = some o → xm_M Γ I la yX2_init cX2_init 2 none 2 5 385 [xm_rf Γ x0, xm_rf Γ x1] σ 0 o := by
  refine xg_enter (by decide) (by simp [lg_sl, xm_rf_cat, xm_cati, xm_catr, xm_catl]) (fun X hG hI0 hla hC hQ hname => ?_)
  subst hG
  have hI := hI0.trans hE
  clear hI0 hla
  unfold f_X2_init
  refine xg_pick [0, 1] (l' := [(0, xm_rf (xx_G X) x0), (1, xm_rf (xx_G X) x1)]) (by simp [lv_args, lv_pick, xm_rf_cat, xm_cati, xm_catr, xm_catl]) ?_
  refine xg_rload_n hC dX2_init_0 rfl ?_
  refine xg_guard (fun q1 => ?_)
  refine xg_oinit hC (v := x0) q1 xl_O_X2_3 xl_OI xl_OC (by decide) dX2_init_1 ?_
  refine xg_rload_n hC dX2_init_4 rfl ?_
  refine xg_bipush hC dX2_init_5 (by decide) ?_
  refine xg_newa hC (atype := .boolean) (kd := 2) (N := 64) (by decide) rfl (Nat.le_of_ble_eq_true rfl) xl_A_boolean ⟨Nat.le_of_ble_eq_true rfl, Nat.le_of_ble_eq_true rfl⟩ (xm_kp0 hI) dX2_init_7 ?_
  refine xg_st (fun σ3 => ?_)
  refine xg_vR (by omega) (fun v4 k5 => ?_)
  refine xg_sputR hC rfl rfl (Or.inr ⟨hname, rfl⟩) k5.2 k5.1 (fun _ => xm_kp0 hI) xl_F_X2_9 dX2_init_9 ?_
  refine xg_st (fun σ6 => ?_)
  refine xg_rload_n hC dX2_init_12 rfl ?_
  refine xg_bipush hC dX2_init_13 (by decide) ?_
  refine xg_newa hC (atype := .int) (kd := 1) (N := 64) (by decide) rfl (Nat.le_of_ble_eq_true rfl) xl_A_int ⟨Nat.le_of_ble_eq_true rfl, Nat.le_of_ble_eq_true rfl⟩ (xm_kp0 hI) dX2_init_15 ?_
  refine xg_st (fun σ7 => ?_)
  refine xg_vR (by omega) (fun v8 k9 => ?_)
  refine xg_sputR hC rfl rfl (Or.inr ⟨hname, rfl⟩) k9.2 k9.1 (fun _ => xm_kp0 hI) xl_F_X2_15 dX2_init_17 ?_
  refine xg_st (fun σ10 => ?_)
  refine xg_rload_n hC dX2_init_20 rfl ?_
  refine xg_iconst hC dX2_init_21 ?_
  refine xg_sputI hC rfl (Or.inr ⟨hname, rfl⟩) (xm_inc _ rfl) (fun _ => xm_kp0 hI) xl_F_X2_19 dX2_init_22 ?_
  refine xg_st (fun σ11 => ?_)
  refine xg_rload_n hC dX2_init_25 rfl ?_
  refine xg_sipush hC dX2_init_26 (by decide) ?_
  refine xg_newa hC (atype := .int) (kd := 1) (N := 128) (by decide) rfl (Nat.le_of_ble_eq_true rfl) xl_A_int ⟨Nat.le_of_ble_eq_true rfl, Nat.le_of_ble_eq_true rfl⟩ (xm_kp0 hI) dX2_init_29 ?_
  refine xg_st (fun σ12 => ?_)
  refine xg_vR (by omega) (fun v13 k14 => ?_)
  refine xg_sputR hC rfl rfl (Or.inr ⟨hname, rfl⟩) k14.2 k14.1 (fun _ => xm_kp0 hI) xl_F_X2_23 dX2_init_31 ?_
  refine xg_st (fun σ15 => ?_)
  refine xg_rload_n hC dX2_init_34 rfl ?_
  refine xg_bipush hC dX2_init_35 (by decide) ?_
  refine xg_newa hC (atype := .int) (kd := 1) (N := 65) (by decide) rfl (Nat.le_of_ble_eq_true rfl) xl_A_int ⟨Nat.le_of_ble_eq_true rfl, Nat.le_of_ble_eq_true rfl⟩ (xm_kp0 hI) dX2_init_37 ?_
  refine xg_st (fun σ16 => ?_)
  refine xg_vR (by omega) (fun v17 k18 => ?_)
  refine xg_sputR hC rfl rfl (Or.inr ⟨hname, rfl⟩) k18.2 k18.1 (fun _ => xm_kp0 hI) xl_F_X2_26 dX2_init_39 ?_
  refine xg_st (fun σ19 => ?_)
  refine xg_rload_n hC dX2_init_42 rfl ?_
  refine xg_bipush hC dX2_init_43 (by decide) ?_
  refine xg_newa hC (atype := .long) (kd := 3) (N := 64) (by decide) rfl (Nat.le_of_ble_eq_true rfl) xl_A_long ⟨Nat.le_of_ble_eq_true rfl, Nat.le_of_ble_eq_true rfl⟩ (xm_kp0 hI) dX2_init_45 ?_
  refine xg_st (fun σ20 => ?_)
  refine xg_vR (by omega) (fun v21 k22 => ?_)
  refine xg_sputR hC rfl rfl (Or.inr ⟨hname, rfl⟩) k22.2 k22.1 (fun _ => xm_kp0 hI) xl_F_X2_29 dX2_init_47 ?_
  refine xg_st (fun σ23 => ?_)
  refine xg_rload_n hC dX2_init_50 rfl ?_
  refine xg_rload_n hC dX2_init_51 rfl ?_
  refine xg_sputR hC rfl rfl (Or.inr ⟨hname, rfl⟩) h1.2 h1.1 (fun _ => xm_kp0 hI) xl_F_X2_33 dX2_init_52 ?_
  refine xg_st (fun σ24 => ?_)
  exact xg_vret hC hQ dX2_init_55
set_option maxRecDepth 20000 in
theorem w_X4_init {Γ : xm_Gm} {I : xm_Mem → Prop} {la : Launch} (hE : I = xm_I0) (σ : xm_Mem) (x0 : Int) (x1 : Int) (x2 : Int) (h0 : 0 ≤ x0 ∧ xm_in x0) (h1 : 0 ≤ x1 ∧ xm_in x1) (h2 : 0 ≤ x2 ∧ xm_in x2) : ∀ o, f_X4_init σ x0 x1 x2 = some o → xm_M Γ I la yX4_init cX4_init 3 none 2 5 385 [xm_rf Γ x0, xm_rf Γ x1, xm_rf Γ x2] σ 0 o := by
  refine xg_enter (by decide) (by simp [lg_sl, xm_rf_cat, xm_cati, xm_catr, xm_catl]) (fun X hG hI0 hla hC hQ hname => ?_)
  subst hG
  have hI := hI0.trans hE
  clear hI0 hla
  unfold f_X4_init
  refine xg_pick [0, 1, 2] (l' := [(0, xm_rf (xx_G X) x0), (1, xm_rf (xx_G X) x1), (2, xm_rf (xx_G X) x2)]) (by simp [lv_args, lv_pick, xm_rf_cat, xm_cati, xm_catr, xm_catl]) ?_
  refine xg_rload_n hC dX4_init_0 rfl ?_
  refine xg_guard (fun q1 => ?_)
  refine xg_oinit hC (v := x0) q1 xl_O_X4_3 xl_OI xl_OC (by decide) dX4_init_1 ?_
  refine xg_rload_n hC dX4_init_4 rfl ?_
  refine xg_bipush hC dX4_init_5 (by decide) ?_
  refine xg_newa hC (atype := .int) (kd := 1) (N := 64) (by decide) rfl (Nat.le_of_ble_eq_true rfl) xl_A_int ⟨Nat.le_of_ble_eq_true rfl, Nat.le_of_ble_eq_true rfl⟩ (xm_kp0 hI) dX4_init_7 ?_
  refine xg_st (fun σ3 => ?_)
  refine xg_vR (by omega) (fun v4 k5 => ?_)
  refine xg_sputR hC rfl rfl (Or.inr ⟨hname, rfl⟩) k5.2 k5.1 (fun _ => xm_kp0 hI) xl_F_X4_9 dX4_init_9 ?_
  refine xg_st (fun σ6 => ?_)
  refine xg_rload_n hC dX4_init_12 rfl ?_
  refine xg_iconst hC dX4_init_13 ?_
  refine xg_sputI hC rfl (Or.inr ⟨hname, rfl⟩) (xm_inc _ rfl) (fun _ => xm_kp0 hI) xl_F_X4_15 dX4_init_14 ?_
  refine xg_st (fun σ7 => ?_)
  refine xg_rload_n hC dX4_init_17 rfl ?_
  refine xg_iconst hC dX4_init_18 ?_
  refine xg_sputI hC rfl (Or.inr ⟨hname, rfl⟩) (xm_inc _ rfl) (fun _ => xm_kp0 hI) xl_F_X4_19 dX4_init_19 ?_
  refine xg_st (fun σ8 => ?_)
  refine xg_rload_n hC dX4_init_22 rfl ?_
  refine xg_iconst hC dX4_init_23 ?_
  refine xg_sputI hC rfl (Or.inr ⟨hname, rfl⟩) (xm_inc _ rfl) (fun _ => xm_kp0 hI) xl_F_X4_22 dX4_init_24 ?_
  refine xg_st (fun σ9 => ?_)
  refine xg_rload_n hC dX4_init_27 rfl ?_
  refine xg_sipush hC dX4_init_28 (by decide) ?_
  refine xg_newa hC (atype := .int) (kd := 1) (N := 129) (by decide) rfl (Nat.le_of_ble_eq_true rfl) xl_A_int ⟨Nat.le_of_ble_eq_true rfl, Nat.le_of_ble_eq_true rfl⟩ (xm_kp0 hI) dX4_init_31 ?_
  refine xg_st (fun σ10 => ?_)
  refine xg_vR (by omega) (fun v11 k12 => ?_)
  refine xg_sputR hC rfl rfl (Or.inr ⟨hname, rfl⟩) k12.2 k12.1 (fun _ => xm_kp0 hI) xl_F_X4_25 dX4_init_33 ?_
  refine xg_st (fun σ13 => ?_)
  refine xg_rload_n hC dX4_init_36 rfl ?_
  refine xg_iconst hC dX4_init_37 ?_
  refine xg_sputI hC rfl (Or.inr ⟨hname, rfl⟩) (xm_inc _ rfl) (fun _ => xm_kp0 hI) xl_F_X4_28 dX4_init_38 ?_
  refine xg_st (fun σ14 => ?_)
  refine xg_rload_n hC dX4_init_41 rfl ?_
  refine xg_bipush hC dX4_init_42 (by decide) ?_
  refine xg_newa hC (atype := .int) (kd := 1) (N := 64) (by decide) rfl (Nat.le_of_ble_eq_true rfl) xl_A_int ⟨Nat.le_of_ble_eq_true rfl, Nat.le_of_ble_eq_true rfl⟩ (xm_kp0 hI) dX4_init_44 ?_
  refine xg_st (fun σ15 => ?_)
  refine xg_vR (by omega) (fun v16 k17 => ?_)
  refine xg_sputR hC rfl rfl (Or.inr ⟨hname, rfl⟩) k17.2 k17.1 (fun _ => xm_kp0 hI) xl_F_X4_31 dX4_init_46 ?_
  refine xg_st (fun σ18 => ?_)
  refine xg_rload_n hC dX4_init_49 rfl ?_
  refine xg_bipush hC dX4_init_50 (by decide) ?_
  refine xg_newa hC (atype := .int) (kd := 1) (N := 64) (by decide) rfl (Nat.le_of_ble_eq_true rfl) xl_A_int ⟨Nat.le_of_ble_eq_true rfl, Nat.le_of_ble_eq_true rfl⟩ (xm_kp0 hI) dX4_init_52 ?_
  refine xg_st (fun σ19 => ?_)
  refine xg_vR (by omega) (fun v20 k21 => ?_)
  refine xg_sputR hC rfl rfl (Or.inr ⟨hname, rfl⟩) k21.2 k21.1 (fun _ => xm_kp0 hI) xl_F_X4_34 dX4_init_54 ?_
  refine xg_st (fun σ22 => ?_)
  refine xg_rload_n hC dX4_init_57 rfl ?_
  refine xg_iconst hC dX4_init_58 ?_
  refine xg_sputI hC rfl (Or.inr ⟨hname, rfl⟩) (xm_inc _ rfl) (fun _ => xm_kp0 hI) xl_F_X4_37 dX4_init_59 ?_
  refine xg_st (fun σ23 => ?_)
  refine xg_rload_n hC dX4_init_62 rfl ?_
  refine xg_lconst hC dX4_init_63 (v := 0) rfl ?_
  refine xg_sputL hC rfl (Or.inr ⟨hname, rfl⟩) (fun _ => xm_kp0 hI) xl_F_X4_40 dX4_init_64 ?_
  refine xg_st (fun σ24 => ?_)
  refine xg_rload_n hC dX4_init_67 rfl ?_
  refine xg_bipush hC dX4_init_68 (by decide) ?_
  refine xg_newa hC (atype := .int) (kd := 1) (N := 64) (by decide) rfl (Nat.le_of_ble_eq_true rfl) xl_A_int ⟨Nat.le_of_ble_eq_true rfl, Nat.le_of_ble_eq_true rfl⟩ (xm_kp0 hI) dX4_init_70 ?_
  refine xg_st (fun σ25 => ?_)
  refine xg_vR (by omega) (fun v26 k27 => ?_)
  refine xg_sputR hC rfl rfl (Or.inr ⟨hname, rfl⟩) k27.2 k27.1 (fun _ => xm_kp0 hI) xl_F_X4_44 dX4_init_72 ?_
  refine xg_st (fun σ28 => ?_)
  refine xg_rload_n hC dX4_init_75 rfl ?_
  refine xg_iconst hC dX4_init_76 ?_
  refine xg_sputI hC rfl (Or.inr ⟨hname, rfl⟩) (xm_inc _ rfl) (fun _ => xm_kp0 hI) xl_F_X4_47 dX4_init_77 ?_
  refine xg_st (fun σ29 => ?_)
  refine xg_rload_n hC dX4_init_80 rfl ?_
  refine xg_rload_n hC dX4_init_81 rfl ?_
  refine xg_sputR hC rfl rfl (Or.inr ⟨hname, rfl⟩) h1.2 h1.1 (fun _ => xm_kp0 hI) xl_F_X4_50 dX4_init_82 ?_
  refine xg_st (fun σ30 => ?_)
  refine xg_rload_n hC dX4_init_85 rfl ?_
  refine xg_rload_n hC dX4_init_86 rfl ?_
  refine xg_sputR hC rfl rfl (Or.inr ⟨hname, rfl⟩) h2.2 h2.1 (fun _ => xm_kp0 hI) xl_F_X4_54 dX4_init_87 ?_
  refine xg_st (fun σ31 => ?_)
  exact xg_vret hC hQ dX4_init_90
set_option maxRecDepth 20000 in
theorem w_X1_init {Γ : xm_Gm} {I : xm_Mem → Prop} {la : Launch} (hE : I = xm_I0) (σ : xm_Mem) (x0 : Int) (x1 : Int) (x2 : Int) (x3 : Int) (x4 : Int) (x5 : Int) (h0 : 0 ≤ x0 ∧ xm_in x0) (h1 : xm_in x1) (h2 : 0 ≤ x2 ∧ xm_in x2) (h3 : 0 ≤ x3 ∧ xm_in x3) (h4 : 0 ≤ x4 ∧ xm_in x4) (h5 : 0 ≤ x5 ∧ xm_in x5) : ∀ o, f_X1_init σ x0 x1 x2 x3 x4 x5 = some o → xm_M Γ I la yX1_init cX1_init 6 none 2 5 864 [xm_rf Γ x0, .int (xm_J x1), xm_rf Γ x2, xm_rf Γ x3, xm_rf Γ x4, xm_rf Γ x5] σ 0 o := by
  refine xg_enter (by decide) (by simp [lg_sl, xm_rf_cat, xm_cati, xm_catr, xm_catl]) (fun X hG hI0 hla hC hQ hname => ?_)
  subst hG
  have hI := hI0.trans hE
  clear hI0 hla
  unfold f_X1_init
  refine xg_pick [0, 1, 2, 3, 4, 5] (l' := [(0, xm_rf (xx_G X) x0), (1, .int (xm_J x1)), (2, xm_rf (xx_G X) x2), (3, xm_rf (xx_G X) x3), (4, xm_rf (xx_G X) x4), (5, xm_rf (xx_G X) x5)]) (by simp [lv_args, lv_pick, xm_rf_cat, xm_cati, xm_catr, xm_catl]) ?_
  refine xg_rload_n hC dX1_init_0 rfl ?_
  refine xg_guard (fun q1 => ?_)
  refine xg_oinit hC (v := x0) q1 xl_O_X1_3 xl_OI xl_OC (by decide) dX1_init_1 ?_
  refine xg_rload_n hC dX1_init_4 rfl ?_
  refine xg_bipush hC dX1_init_5 (by decide) ?_
  refine xg_newa hC (atype := .int) (kd := 1) (N := 64) (by decide) rfl (Nat.le_of_ble_eq_true rfl) xl_A_int ⟨Nat.le_of_ble_eq_true rfl, Nat.le_of_ble_eq_true rfl⟩ (xm_kp0 hI) dX1_init_7 ?_
  refine xg_st (fun σ3 => ?_)
  refine xg_vR (by omega) (fun v4 k5 => ?_)
  refine xg_sputR hC rfl rfl (Or.inr ⟨hname, rfl⟩) k5.2 k5.1 (fun _ => xm_kp0 hI) xl_F_X1_9 dX1_init_9 ?_
  refine xg_st (fun σ6 => ?_)
  refine xg_rload_n hC dX1_init_12 rfl ?_
  refine xg_sipush hC dX1_init_13 (by decide) ?_
  refine xg_newa hC (atype := .int) (kd := 1) (N := 200) (by decide) rfl (Nat.le_of_ble_eq_true rfl) xl_A_int ⟨Nat.le_of_ble_eq_true rfl, Nat.le_of_ble_eq_true rfl⟩ (xm_kp0 hI) dX1_init_16 ?_
  refine xg_st (fun σ7 => ?_)
  refine xg_vR (by omega) (fun v8 k9 => ?_)
  refine xg_sputR hC rfl rfl (Or.inr ⟨hname, rfl⟩) k9.2 k9.1 (fun _ => xm_kp0 hI) xl_F_X1_15 dX1_init_18 ?_
  refine xg_st (fun σ10 => ?_)
  refine xg_rload_n hC dX1_init_21 rfl ?_
  refine xg_sipush hC dX1_init_22 (by decide) ?_
  refine xg_newa hC (atype := .int) (kd := 1) (N := 200) (by decide) rfl (Nat.le_of_ble_eq_true rfl) xl_A_int ⟨Nat.le_of_ble_eq_true rfl, Nat.le_of_ble_eq_true rfl⟩ (xm_kp0 hI) dX1_init_25 ?_
  refine xg_st (fun σ11 => ?_)
  refine xg_vR (by omega) (fun v12 k13 => ?_)
  refine xg_sputR hC rfl rfl (Or.inr ⟨hname, rfl⟩) k13.2 k13.1 (fun _ => xm_kp0 hI) xl_F_X1_18 dX1_init_27 ?_
  refine xg_st (fun σ14 => ?_)
  refine xg_rload_n hC dX1_init_30 rfl ?_
  refine xg_sipush hC dX1_init_31 (by decide) ?_
  refine xg_newa hC (atype := .int) (kd := 1) (N := 200) (by decide) rfl (Nat.le_of_ble_eq_true rfl) xl_A_int ⟨Nat.le_of_ble_eq_true rfl, Nat.le_of_ble_eq_true rfl⟩ (xm_kp0 hI) dX1_init_34 ?_
  refine xg_st (fun σ15 => ?_)
  refine xg_vR (by omega) (fun v16 k17 => ?_)
  refine xg_sputR hC rfl rfl (Or.inr ⟨hname, rfl⟩) k17.2 k17.1 (fun _ => xm_kp0 hI) xl_F_X1_21 dX1_init_36 ?_
  refine xg_st (fun σ18 => ?_)
  refine xg_rload_n hC dX1_init_39 rfl ?_
  refine xg_sipush hC dX1_init_40 (by decide) ?_
  refine xg_newa hC (atype := .int) (kd := 1) (N := 200) (by decide) rfl (Nat.le_of_ble_eq_true rfl) xl_A_int ⟨Nat.le_of_ble_eq_true rfl, Nat.le_of_ble_eq_true rfl⟩ (xm_kp0 hI) dX1_init_43 ?_
  refine xg_st (fun σ19 => ?_)
  refine xg_vR (by omega) (fun v20 k21 => ?_)
  refine xg_sputR hC rfl rfl (Or.inr ⟨hname, rfl⟩) k21.2 k21.1 (fun _ => xm_kp0 hI) xl_F_X1_24 dX1_init_45 ?_
  refine xg_st (fun σ22 => ?_)
  refine xg_rload_n hC dX1_init_48 rfl ?_
  refine xg_iconst hC dX1_init_49 ?_
  refine xg_sputI hC rfl (Or.inr ⟨hname, rfl⟩) (xm_inc _ rfl) (fun _ => xm_kp0 hI) xl_F_X1_27 dX1_init_50 ?_
  refine xg_st (fun σ23 => ?_)
  refine xg_rload_n hC dX1_init_53 rfl ?_
  refine xg_iconst hC dX1_init_54 ?_
  refine xg_sputZ hC rfl (Or.inr ⟨hname, rfl⟩) (by decide) (fun _ => xm_kp0 hI) xl_F_X1_31 dX1_init_55 ?_
  refine xg_st (fun σ24 => ?_)
  refine xg_rload_n hC dX1_init_58 rfl ?_
  refine xg_iconst hC dX1_init_59 ?_
  refine xg_sputI hC rfl (Or.inr ⟨hname, rfl⟩) (xm_inc _ rfl) (fun _ => xm_kp0 hI) xl_F_X1_35 dX1_init_60 ?_
  refine xg_st (fun σ25 => ?_)
  refine xg_rload_n hC dX1_init_63 rfl ?_
  refine xg_iconst hC dX1_init_64 ?_
  refine xg_sputI hC rfl (Or.inr ⟨hname, rfl⟩) (xm_inc _ rfl) (fun _ => xm_kp0 hI) xl_F_X1_38 dX1_init_65 ?_
  refine xg_st (fun σ26 => ?_)
  refine xg_rload_n hC dX1_init_68 rfl ?_
  refine xg_iconst hC dX1_init_69 ?_
  refine xg_sputI hC rfl (Or.inr ⟨hname, rfl⟩) (xm_inc _ rfl) (fun _ => xm_kp0 hI) xl_F_X1_41 dX1_init_70 ?_
  refine xg_st (fun σ27 => ?_)
  refine xg_rload_n hC dX1_init_73 rfl ?_
  refine xg_iconst hC dX1_init_74 ?_
  refine xg_sputI hC rfl (Or.inr ⟨hname, rfl⟩) (xm_inc _ rfl) (fun _ => xm_kp0 hI) xl_F_X1_44 dX1_init_75 ?_
  refine xg_st (fun σ28 => ?_)
  refine xg_rload_n hC dX1_init_78 rfl ?_
  refine xg_iconst hC dX1_init_79 ?_
  refine xg_sputI hC rfl (Or.inr ⟨hname, rfl⟩) (xm_inc _ rfl) (fun _ => xm_kp0 hI) xl_F_X1_47 dX1_init_80 ?_
  refine xg_st (fun σ29 => ?_)
  refine xg_rload_n hC dX1_init_83 rfl ?_
  refine xg_iload_n hC dX1_init_84 rfl ?_
  refine xg_sputI hC rfl (Or.inr ⟨hname, rfl⟩) h1 (fun _ => xm_kp0 hI) xl_F_X1_50 dX1_init_85 ?_
  refine xg_st (fun σ30 => ?_)
  refine xg_rload_n hC dX1_init_88 rfl ?_
  refine xg_rload_n hC dX1_init_89 rfl ?_
  refine xg_sputR hC rfl rfl (Or.inr ⟨hname, rfl⟩) h2.2 h2.1 (fun _ => xm_kp0 hI) xl_F_X1_53 dX1_init_90 ?_
  refine xg_st (fun σ31 => ?_)
  refine xg_rload_n hC dX1_init_93 rfl ?_
  refine xg_rload_n hC dX1_init_94 rfl ?_
  refine xg_sputR hC rfl rfl (Or.inr ⟨hname, rfl⟩) h3.2 h3.1 (fun _ => xm_kp0 hI) xl_F_X1_57 dX1_init_95 ?_
  refine xg_st (fun σ32 => ?_)
  refine xg_rload_n hC dX1_init_98 rfl ?_
  refine xg_rload hC dX1_init_99 rfl ?_
  refine xg_sputR hC rfl rfl (Or.inr ⟨hname, rfl⟩) h4.2 h4.1 (fun _ => xm_kp0 hI) xl_F_X1_61 dX1_init_101 ?_
  refine xg_st (fun σ33 => ?_)
  refine xg_rload_n hC dX1_init_104 rfl ?_
  refine xg_rload hC dX1_init_105 rfl ?_
  refine xg_sputR hC rfl rfl (Or.inr ⟨hname, rfl⟩) h5.2 h5.1 (fun _ => xm_kp0 hI) xl_F_X1_65 dX1_init_107 ?_
  refine xg_st (fun σ34 => ?_)
  exact xg_vret hC hQ dX1_init_110
set_option maxRecDepth 20000 in
theorem w_X10_init {Γ : xm_Gm} {I : xm_Mem → Prop} {la : Launch} (hE : I = xm_I0) (σ : xm_Mem) (x0 : Int) (h0 : 0 ≤ x0 ∧ xm_in x0) : ∀ o, f_X10_init σ x0 = some o → xm_M Γ I la yX10_init cX10_init 2 none 3 82 9536 [xm_rf Γ x0] σ 0 o := by
  refine xg_enter (by decide) (by simp [lg_sl, xm_rf_cat, xm_cati, xm_catr, xm_catl]) (fun X hG hI0 hla hC hQ hname => ?_)
  subst hG
  have hI := hI0.trans hE
  clear hI0 hla
  unfold f_X10_init
  refine xg_pick [0] (l' := [(0, xm_rf (xx_G X) x0)]) (by simp [lv_args, lv_pick, xm_rf_cat, xm_cati, xm_catr, xm_catl]) ?_
  refine xg_rload_n hC dX10_init_0 rfl ?_
  refine xg_guard (fun q1 => ?_)
  refine xg_oinit hC (v := x0) q1 xl_O_X10_1 xl_OI xl_OC (by decide) dX10_init_1 ?_
  refine xg_rload_n hC dX10_init_4 rfl ?_
  refine xg_new hC (ci := 7) (by decide) xl_K_X10_7 xl_T_7 xl_Z_7 ⟨Nat.le_of_ble_eq_true rfl, Nat.le_of_ble_eq_true rfl⟩ (xm_kp0 hI) dX10_init_5 ?_
  refine xg_st (fun σ3 => ?_)
  refine xg_vR (by omega) (fun v4 k5 => ?_)
  refine xg_guard (fun q6 => ?_)
  refine xg_dup hC dX10_init_8 xm_rf_cat ?_
  refine xg_callIN hC (w_X8_init hI σ3 v4 ⟨k5.1, k5.2⟩) q6 xl_N_X10_9 xl_I_X8_init (by decide) ⟨Nat.le_of_ble_eq_true rfl, Nat.le_of_ble_eq_true rfl⟩ dX10_init_9 (rest := [xm_rf (xx_G X) v4, xm_rf (xx_G X) x0]) rfl rfl (by simp [xm_rf_cat, xm_cati, xm_catr, xm_catl]) rfl rfl (fun o7 k8 => ?_)
  refine xg_sputR hC rfl rfl (Or.inr ⟨hname, rfl⟩) k5.2 k5.1 (fun _ => xm_kp0 hI) xl_F_X10_10 dX10_init_12 ?_
  refine xg_st (fun σ9 => ?_)
  refine xg_rload_n hC dX10_init_15 rfl ?_
  refine xg_new hC (ci := 5) (by decide) xl_K_X10_16 xl_T_5 xl_Z_5 ⟨Nat.le_of_ble_eq_true rfl, Nat.le_of_ble_eq_true rfl⟩ (xm_kp0 hI) dX10_init_16 ?_
  refine xg_st (fun σ10 => ?_)
  refine xg_vR (by omega) (fun v11 k12 => ?_)
  refine xg_guard (fun q13 => ?_)
  refine xg_dup hC dX10_init_19 xm_rf_cat ?_
  refine xg_rload_n hC dX10_init_20 rfl ?_
  refine xg_sgetR hC rfl xl_F_X10_10 dX10_init_21 (fun k14 => ?_)
  refine xg_vR k14 (fun v15 k16 => ?_)
  refine xg_callI hC (w_X6_init hI σ10 v11 v15 ⟨k12.1, k12.2⟩ ⟨k16.1, k16.2⟩) q13 xl_M_X10_18 xl_I_X6_init (by decide) ⟨Nat.le_of_ble_eq_true rfl, Nat.le_of_ble_eq_true rfl⟩ dX10_init_24 (rest := [xm_rf (xx_G X) v11, xm_rf (xx_G X) x0]) rfl rfl (by simp [xm_rf_cat, xm_cati, xm_catr, xm_catl]) rfl rfl (fun o17 k18 => ?_)
  refine xg_sputR hC rfl rfl (Or.inr ⟨hname, rfl⟩) k12.2 k12.1 (fun _ => xm_kp0 hI) xl_F_X10_21 dX10_init_27 ?_
  refine xg_st (fun σ19 => ?_)
  refine xg_rload_n hC dX10_init_30 rfl ?_
  refine xg_new hC (ci := 6) (by decide) xl_K_X10_25 xl_T_6 xl_Z_6 ⟨Nat.le_of_ble_eq_true rfl, Nat.le_of_ble_eq_true rfl⟩ (xm_kp0 hI) dX10_init_31 ?_
  refine xg_st (fun σ20 => ?_)
  refine xg_vR (by omega) (fun v21 k22 => ?_)
  refine xg_guard (fun q23 => ?_)
  refine xg_dup hC dX10_init_34 xm_rf_cat ?_
  refine xg_callIN hC (w_X7_init hI σ20 v21 ⟨k22.1, k22.2⟩) q23 xl_N_X10_27 xl_I_X7_init (by decide) ⟨Nat.le_of_ble_eq_true rfl, Nat.le_of_ble_eq_true rfl⟩ dX10_init_35 (rest := [xm_rf (xx_G X) v21, xm_rf (xx_G X) x0]) rfl rfl (by simp [xm_rf_cat, xm_cati, xm_catr, xm_catl]) rfl rfl (fun o24 k25 => ?_)
  refine xg_sputR hC rfl rfl (Or.inr ⟨hname, rfl⟩) k22.2 k22.1 (fun _ => xm_kp0 hI) xl_F_X10_28 dX10_init_38 ?_
  refine xg_st (fun σ26 => ?_)
  refine xg_rload_n hC dX10_init_41 rfl ?_
  refine xg_new hC (ci := 4) (by decide) xl_K_X10_32 xl_T_4 xl_Z_4 ⟨Nat.le_of_ble_eq_true rfl, Nat.le_of_ble_eq_true rfl⟩ (xm_kp0 hI) dX10_init_42 ?_
  refine xg_st (fun σ27 => ?_)
  refine xg_vR (by omega) (fun v28 k29 => ?_)
  refine xg_guard (fun q30 => ?_)
  refine xg_dup hC dX10_init_45 xm_rf_cat ?_
  refine xg_callIN hC (w_X5_init hI σ27 v28 ⟨k29.1, k29.2⟩) q30 xl_N_X10_34 xl_I_X5_init (by decide) ⟨Nat.le_of_ble_eq_true rfl, Nat.le_of_ble_eq_true rfl⟩ dX10_init_46 (rest := [xm_rf (xx_G X) v28, xm_rf (xx_G X) x0]) rfl rfl (by simp [xm_rf_cat, xm_cati, xm_catr, xm_catl]) rfl rfl (fun o31 k32 => ?_)
  refine xg_sputR hC rfl rfl (Or.inr ⟨hname, rfl⟩) k29.2 k29.1 (fun _ => xm_kp0 hI) xl_F_X10_35 dX10_init_49 ?_
  refine xg_st (fun σ33 => ?_)
  refine xg_rload_n hC dX10_init_52 rfl ?_
  refine xg_new hC (ci := 8) (by decide) xl_K_X10_39 xl_T_8 xl_Z_8 ⟨Nat.le_of_ble_eq_true rfl, Nat.le_of_ble_eq_true rfl⟩ (xm_kp0 hI) dX10_init_53 ?_
  refine xg_st (fun σ34 => ?_)
  refine xg_vR (by omega) (fun v35 k36 => ?_)
  refine xg_guard (fun q37 => ?_)
  refine xg_dup hC dX10_init_56 xm_rf_cat ?_
  refine xg_callIN hC (w_X9_init hI σ34 v35 ⟨k36.1, k36.2⟩) q37 xl_N_X10_41 xl_I_X9_init (by decide) ⟨Nat.le_of_ble_eq_true rfl, Nat.le_of_ble_eq_true rfl⟩ dX10_init_57 (rest := [xm_rf (xx_G X) v35, xm_rf (xx_G X) x0]) rfl rfl (by simp [xm_rf_cat, xm_cati, xm_catr, xm_catl]) rfl rfl (fun o38 k39 => ?_)
  refine xg_sputR hC rfl rfl (Or.inr ⟨hname, rfl⟩) k36.2 k36.1 (fun _ => xm_kp0 hI) xl_F_X10_42 dX10_init_60 ?_
  refine xg_st (fun σ40 => ?_)
  refine xg_rload_n hC dX10_init_63 rfl ?_
  refine xg_new hC (ci := 1) (by decide) xl_K_X10_46 xl_T_1 xl_Z_1 ⟨Nat.le_of_ble_eq_true rfl, Nat.le_of_ble_eq_true rfl⟩ (xm_kp0 hI) dX10_init_64 ?_
  refine xg_st (fun σ41 => ?_)
  refine xg_vR (by omega) (fun v42 k43 => ?_)
  refine xg_guard (fun q44 => ?_)
  refine xg_dup hC dX10_init_67 xm_rf_cat ?_
  refine xg_rload_n hC dX10_init_68 rfl ?_
  refine xg_sgetR hC rfl xl_F_X10_35 dX10_init_69 (fun k45 => ?_)
  refine xg_vR k45 (fun v46 k47 => ?_)
  refine xg_callI hC (w_X2_init hI σ41 v42 v46 ⟨k43.1, k43.2⟩ ⟨k47.1, k47.2⟩) q44 xl_M_X10_48 xl_I_X2_init (by decide) ⟨Nat.le_of_ble_eq_true rfl, Nat.le_of_ble_eq_true rfl⟩ dX10_init_72 (rest := [xm_rf (xx_G X) v42, xm_rf (xx_G X) x0]) rfl rfl (by simp [xm_rf_cat, xm_cati, xm_catr, xm_catl]) rfl rfl (fun o48 k49 => ?_)
  refine xg_sputR hC rfl rfl (Or.inr ⟨hname, rfl⟩) k43.2 k43.1 (fun _ => xm_kp0 hI) xl_F_X10_51 dX10_init_75 ?_
  refine xg_st (fun σ50 => ?_)
  refine xg_rload_n hC dX10_init_78 rfl ?_
  refine xg_new hC (ci := 3) (by decide) xl_K_X10_55 xl_T_3 xl_Z_3 ⟨Nat.le_of_ble_eq_true rfl, Nat.le_of_ble_eq_true rfl⟩ (xm_kp0 hI) dX10_init_79 ?_
  refine xg_st (fun σ51 => ?_)
  refine xg_vR (by omega) (fun v52 k53 => ?_)
  refine xg_guard (fun q54 => ?_)
  refine xg_dup hC dX10_init_82 xm_rf_cat ?_
  refine xg_rload_n hC dX10_init_83 rfl ?_
  refine xg_sgetR hC rfl xl_F_X10_35 dX10_init_84 (fun k55 => ?_)
  refine xg_vR k55 (fun v56 k57 => ?_)
  refine xg_rload_n hC dX10_init_87 rfl ?_
  refine xg_sgetR hC rfl xl_F_X10_51 dX10_init_88 (fun k58 => ?_)
  refine xg_vR k58 (fun v59 k60 => ?_)
  refine xg_callI hC (w_X4_init hI σ51 v52 v56 v59 ⟨k53.1, k53.2⟩ ⟨k57.1, k57.2⟩ ⟨k60.1, k60.2⟩) q54 xl_M_X10_57 xl_I_X4_init (by decide) ⟨Nat.le_of_ble_eq_true rfl, Nat.le_of_ble_eq_true rfl⟩ dX10_init_91 (rest := [xm_rf (xx_G X) v52, xm_rf (xx_G X) x0]) rfl rfl (by simp [xm_rf_cat, xm_cati, xm_catr, xm_catl]) rfl rfl (fun o61 k62 => ?_)
  refine xg_sputR hC rfl rfl (Or.inr ⟨hname, rfl⟩) k53.2 k53.1 (fun _ => xm_kp0 hI) xl_F_X10_60 dX10_init_94 ?_
  refine xg_st (fun σ63 => ?_)
  refine xg_rload_n hC dX10_init_97 rfl ?_
  refine xg_bipush hC dX10_init_98 (by decide) ?_
  refine xg_newq hC (kd := 5) (ci := 0) (N := 8) (by unfold xm_kc; decide) rfl (Nat.le_of_ble_eq_true rfl) xl_K_X10_64 ⟨Nat.le_of_ble_eq_true rfl, Nat.le_of_ble_eq_true rfl⟩ (xm_kp0 hI) dX10_init_100 ?_
  refine xg_st (fun σ64 => ?_)
  refine xg_vR (by omega) (fun v65 k66 => ?_)
  refine xg_sputR hC rfl rfl (Or.inr ⟨hname, rfl⟩) k66.2 k66.1 (fun _ => xm_kp0 hI) xl_F_X10_66 dX10_init_103 ?_
  refine xg_st (fun σ67 => ?_)
  refine xg_rload_n hC dX10_init_106 rfl ?_
  refine xg_iconst hC dX10_init_107 ?_
  refine xg_sputI hC rfl (Or.inr ⟨hname, rfl⟩) (xm_inc _ rfl) (fun _ => xm_kp0 hI) xl_F_X10_70 dX10_init_108 ?_
  refine xg_st (fun σ68 => ?_)
  refine xg_rload_n hC dX10_init_111 rfl ?_
  refine xg_bipush hC dX10_init_112 (by decide) ?_
  refine xg_sputI hC rfl (Or.inr ⟨hname, rfl⟩) (xm_inc _ rfl) (fun _ => xm_kp0 hI) xl_F_X10_74 dX10_init_114 ?_
  refine xg_st (fun σ69 => ?_)
  refine xg_rload_n hC dX10_init_117 rfl ?_
  refine xg_iconst hC dX10_init_118 ?_
  refine xg_sputI hC rfl (Or.inr ⟨hname, rfl⟩) (xm_inc _ rfl) (fun _ => xm_kp0 hI) xl_F_X10_77 dX10_init_119 ?_
  refine xg_st (fun σ70 => ?_)
  refine xg_iconst hC dX10_init_122 ?_
  refine xg_istore_n hC (l' := [(1, .int (xm_J (0 : Int))), (0, xm_rf (xx_G X) x0)]) dX10_init_123 (by decide) (by simp [xm_rf_cat, xm_cati, xm_catr, xm_catl] <;> decide) ?_
  refine xg_iload_n hC dX10_init_124 rfl ?_
  refine xg_bipush hC dX10_init_125 (by decide) ?_
  refine xg_icmp_ge hC (xm_inc _ rfl) (xm_inc _ rfl) 166 dX10_init_127 rfl (fun c71 => ?_) (fun c71 => xg_none)
  refine xg_rload_n hC dX10_init_130 rfl ?_
  refine xg_sgetR hC rfl xl_F_X10_66 dX10_init_131 (fun k72 => ?_)
  refine xg_vR k72 (fun v73 k74 => ?_)
  refine xg_iload_n hC dX10_init_134 rfl ?_
  refine xg_new hC (ci := 0) (by decide) xl_K_X10_64 xl_T_0 xl_Z_0 ⟨Nat.le_of_ble_eq_true rfl, Nat.le_of_ble_eq_true rfl⟩ (xm_kp0 hI) dX10_init_135 ?_
  refine xg_st (fun σ75 => ?_)
  refine xg_vR (by omega) (fun v76 k77 => ?_)
  refine xg_guard (fun q78 => ?_)
  refine xg_dup hC dX10_init_138 xm_rf_cat ?_
  refine xg_iload_n hC dX10_init_139 rfl ?_
  refine xg_rload_n hC dX10_init_140 rfl ?_
  refine xg_sgetR hC rfl xl_F_X10_28 dX10_init_141 (fun k79 => ?_)
  refine xg_vR k79 (fun v80 k81 => ?_)
  refine xg_rload_n hC dX10_init_144 rfl ?_
  refine xg_sgetR hC rfl xl_F_X10_35 dX10_init_145 (fun k82 => ?_)
  refine xg_vR k82 (fun v83 k84 => ?_)
  refine xg_rload_n hC dX10_init_148 rfl ?_
  refine xg_sgetR hC rfl xl_F_X10_51 dX10_init_149 (fun k85 => ?_)
  refine xg_vR k85 (fun v86 k87 => ?_)
  refine xg_rload_n hC dX10_init_152 rfl ?_
  refine xg_sgetR hC rfl xl_F_X10_60 dX10_init_153 (fun k88 => ?_)
  refine xg_vR k88 (fun v89 k90 => ?_)
  refine xg_callI hC (w_X1_init hI σ75 v76 (0 : Int) v80 v83 v86 v89 ⟨k77.1, k77.2⟩ (xm_inc _ rfl) ⟨k81.1, k81.2⟩ ⟨k84.1, k84.2⟩ ⟨k87.1, k87.2⟩ ⟨k90.1, k90.2⟩) q78 xl_M_X10_80 xl_I_X1_init (by decide) ⟨Nat.le_of_ble_eq_true rfl, Nat.le_of_ble_eq_true rfl⟩ dX10_init_156 (rest := [xm_rf (xx_G X) v76, .int (xm_J (0 : Int)), xm_rf (xx_G X) v73]) rfl rfl (by simp [xm_rf_cat, xm_cati, xm_catr, xm_catl]) rfl rfl (fun o91 k92 => ?_)
  refine xg_scast hC (xm_inc _ rfl) k77.2 (fun _ => xm_kp0 hI) dX10_init_159 ?_
  refine xg_st (fun σ93 => ?_)
  refine xg_iinc hC (l' := [(1, .int (xm_J (1 : Int))), (0, xm_rf (xx_G X) x0)]) dX10_init_160 (by decide) 0 rfl (by rw [show xm_w ((0 : Int) + 1) = 1 from by decide +kernel]; simp [xm_rf_cat, xm_cati, xm_catr, xm_catl]) ?_
  refine xg_goto hC 124 dX10_init_163 rfl ?_
  refine xg_iload_n hC dX10_init_124 rfl ?_
  refine xg_bipush hC dX10_init_125 (by decide) ?_
  refine xg_icmp_ge hC (xm_inc _ rfl) (xm_inc _ rfl) 166 dX10_init_127 rfl (fun c94 => ?_) (fun c94 => xg_none)
  refine xg_rload_n hC dX10_init_130 rfl ?_
  refine xg_sgetR hC rfl xl_F_X10_66 dX10_init_131 (fun k95 => ?_)
  refine xg_vR k95 (fun v96 k97 => ?_)
  refine xg_iload_n hC dX10_init_134 rfl ?_
  refine xg_new hC (ci := 0) (by decide) xl_K_X10_64 xl_T_0 xl_Z_0 ⟨Nat.le_of_ble_eq_true rfl, Nat.le_of_ble_eq_true rfl⟩ (xm_kp0 hI) dX10_init_135 ?_
  refine xg_st (fun σ98 => ?_)
  refine xg_vR (by omega) (fun v99 k100 => ?_)
  refine xg_guard (fun q101 => ?_)
  refine xg_dup hC dX10_init_138 xm_rf_cat ?_
  refine xg_iload_n hC dX10_init_139 rfl ?_
  refine xg_rload_n hC dX10_init_140 rfl ?_
  refine xg_sgetR hC rfl xl_F_X10_28 dX10_init_141 (fun k102 => ?_)
  refine xg_vR k102 (fun v103 k104 => ?_)
  refine xg_rload_n hC dX10_init_144 rfl ?_
  refine xg_sgetR hC rfl xl_F_X10_35 dX10_init_145 (fun k105 => ?_)
  refine xg_vR k105 (fun v106 k107 => ?_)
  refine xg_rload_n hC dX10_init_148 rfl ?_
  refine xg_sgetR hC rfl xl_F_X10_51 dX10_init_149 (fun k108 => ?_)
  refine xg_vR k108 (fun v109 k110 => ?_)
  refine xg_rload_n hC dX10_init_152 rfl ?_
  refine xg_sgetR hC rfl xl_F_X10_60 dX10_init_153 (fun k111 => ?_)
  refine xg_vR k111 (fun v112 k113 => ?_)
  refine xg_callI hC (w_X1_init hI σ98 v99 (1 : Int) v103 v106 v109 v112 ⟨k100.1, k100.2⟩ (xm_inc _ rfl) ⟨k104.1, k104.2⟩ ⟨k107.1, k107.2⟩ ⟨k110.1, k110.2⟩ ⟨k113.1, k113.2⟩) q101 xl_M_X10_80 xl_I_X1_init (by decide) ⟨Nat.le_of_ble_eq_true rfl, Nat.le_of_ble_eq_true rfl⟩ dX10_init_156 (rest := [xm_rf (xx_G X) v99, .int (xm_J (1 : Int)), xm_rf (xx_G X) v96]) rfl rfl (by simp [xm_rf_cat, xm_cati, xm_catr, xm_catl]) rfl rfl (fun o114 k115 => ?_)
  refine xg_scast hC (xm_inc _ rfl) k100.2 (fun _ => xm_kp0 hI) dX10_init_159 ?_
  refine xg_st (fun σ116 => ?_)
  refine xg_iinc hC (l' := [(1, .int (xm_J (2 : Int))), (0, xm_rf (xx_G X) x0)]) dX10_init_160 (by decide) 0 rfl (by rw [show xm_w ((1 : Int) + 1) = 2 from by decide +kernel]; simp [xm_rf_cat, xm_cati, xm_catr, xm_catl]) ?_
  refine xg_goto hC 124 dX10_init_163 rfl ?_
  refine xg_iload_n hC dX10_init_124 rfl ?_
  refine xg_bipush hC dX10_init_125 (by decide) ?_
  refine xg_icmp_ge hC (xm_inc _ rfl) (xm_inc _ rfl) 166 dX10_init_127 rfl (fun c117 => ?_) (fun c117 => xg_none)
  refine xg_rload_n hC dX10_init_130 rfl ?_
  refine xg_sgetR hC rfl xl_F_X10_66 dX10_init_131 (fun k118 => ?_)
  refine xg_vR k118 (fun v119 k120 => ?_)
  refine xg_iload_n hC dX10_init_134 rfl ?_
  refine xg_new hC (ci := 0) (by decide) xl_K_X10_64 xl_T_0 xl_Z_0 ⟨Nat.le_of_ble_eq_true rfl, Nat.le_of_ble_eq_true rfl⟩ (xm_kp0 hI) dX10_init_135 ?_
  refine xg_st (fun σ121 => ?_)
  refine xg_vR (by omega) (fun v122 k123 => ?_)
  refine xg_guard (fun q124 => ?_)
  refine xg_dup hC dX10_init_138 xm_rf_cat ?_
  refine xg_iload_n hC dX10_init_139 rfl ?_
  refine xg_rload_n hC dX10_init_140 rfl ?_
  refine xg_sgetR hC rfl xl_F_X10_28 dX10_init_141 (fun k125 => ?_)
  refine xg_vR k125 (fun v126 k127 => ?_)
  refine xg_rload_n hC dX10_init_144 rfl ?_
  refine xg_sgetR hC rfl xl_F_X10_35 dX10_init_145 (fun k128 => ?_)
  refine xg_vR k128 (fun v129 k130 => ?_)
  refine xg_rload_n hC dX10_init_148 rfl ?_
  refine xg_sgetR hC rfl xl_F_X10_51 dX10_init_149 (fun k131 => ?_)
  refine xg_vR k131 (fun v132 k133 => ?_)
  refine xg_rload_n hC dX10_init_152 rfl ?_
  refine xg_sgetR hC rfl xl_F_X10_60 dX10_init_153 (fun k134 => ?_)
  refine xg_vR k134 (fun v135 k136 => ?_)
  refine xg_callI hC (w_X1_init hI σ121 v122 (2 : Int) v126 v129 v132 v135 ⟨k123.1, k123.2⟩ (xm_inc _ rfl) ⟨k127.1, k127.2⟩ ⟨k130.1, k130.2⟩ ⟨k133.1, k133.2⟩ ⟨k136.1, k136.2⟩) q124 xl_M_X10_80 xl_I_X1_init (by decide) ⟨Nat.le_of_ble_eq_true rfl, Nat.le_of_ble_eq_true rfl⟩ dX10_init_156 (rest := [xm_rf (xx_G X) v122, .int (xm_J (2 : Int)), xm_rf (xx_G X) v119]) rfl rfl (by simp [xm_rf_cat, xm_cati, xm_catr, xm_catl]) rfl rfl (fun o137 k138 => ?_)
  refine xg_scast hC (xm_inc _ rfl) k123.2 (fun _ => xm_kp0 hI) dX10_init_159 ?_
  refine xg_st (fun σ139 => ?_)
  refine xg_iinc hC (l' := [(1, .int (xm_J (3 : Int))), (0, xm_rf (xx_G X) x0)]) dX10_init_160 (by decide) 0 rfl (by rw [show xm_w ((2 : Int) + 1) = 3 from by decide +kernel]; simp [xm_rf_cat, xm_cati, xm_catr, xm_catl]) ?_
  refine xg_goto hC 124 dX10_init_163 rfl ?_
  refine xg_iload_n hC dX10_init_124 rfl ?_
  refine xg_bipush hC dX10_init_125 (by decide) ?_
  refine xg_icmp_ge hC (xm_inc _ rfl) (xm_inc _ rfl) 166 dX10_init_127 rfl (fun c140 => ?_) (fun c140 => xg_none)
  refine xg_rload_n hC dX10_init_130 rfl ?_
  refine xg_sgetR hC rfl xl_F_X10_66 dX10_init_131 (fun k141 => ?_)
  refine xg_vR k141 (fun v142 k143 => ?_)
  refine xg_iload_n hC dX10_init_134 rfl ?_
  refine xg_new hC (ci := 0) (by decide) xl_K_X10_64 xl_T_0 xl_Z_0 ⟨Nat.le_of_ble_eq_true rfl, Nat.le_of_ble_eq_true rfl⟩ (xm_kp0 hI) dX10_init_135 ?_
  refine xg_st (fun σ144 => ?_)
  refine xg_vR (by omega) (fun v145 k146 => ?_)
  refine xg_guard (fun q147 => ?_)
  refine xg_dup hC dX10_init_138 xm_rf_cat ?_
  refine xg_iload_n hC dX10_init_139 rfl ?_
  refine xg_rload_n hC dX10_init_140 rfl ?_
  refine xg_sgetR hC rfl xl_F_X10_28 dX10_init_141 (fun k148 => ?_)
  refine xg_vR k148 (fun v149 k150 => ?_)
  refine xg_rload_n hC dX10_init_144 rfl ?_
  refine xg_sgetR hC rfl xl_F_X10_35 dX10_init_145 (fun k151 => ?_)
  refine xg_vR k151 (fun v152 k153 => ?_)
  refine xg_rload_n hC dX10_init_148 rfl ?_
  refine xg_sgetR hC rfl xl_F_X10_51 dX10_init_149 (fun k154 => ?_)
  refine xg_vR k154 (fun v155 k156 => ?_)
  refine xg_rload_n hC dX10_init_152 rfl ?_
  refine xg_sgetR hC rfl xl_F_X10_60 dX10_init_153 (fun k157 => ?_)
  refine xg_vR k157 (fun v158 k159 => ?_)
  refine xg_callI hC (w_X1_init hI σ144 v145 (3 : Int) v149 v152 v155 v158 ⟨k146.1, k146.2⟩ (xm_inc _ rfl) ⟨k150.1, k150.2⟩ ⟨k153.1, k153.2⟩ ⟨k156.1, k156.2⟩ ⟨k159.1, k159.2⟩) q147 xl_M_X10_80 xl_I_X1_init (by decide) ⟨Nat.le_of_ble_eq_true rfl, Nat.le_of_ble_eq_true rfl⟩ dX10_init_156 (rest := [xm_rf (xx_G X) v145, .int (xm_J (3 : Int)), xm_rf (xx_G X) v142]) rfl rfl (by simp [xm_rf_cat, xm_cati, xm_catr, xm_catl]) rfl rfl (fun o160 k161 => ?_)
  refine xg_scast hC (xm_inc _ rfl) k146.2 (fun _ => xm_kp0 hI) dX10_init_159 ?_
  refine xg_st (fun σ162 => ?_)
  refine xg_iinc hC (l' := [(1, .int (xm_J (4 : Int))), (0, xm_rf (xx_G X) x0)]) dX10_init_160 (by decide) 0 rfl (by rw [show xm_w ((3 : Int) + 1) = 4 from by decide +kernel]; simp [xm_rf_cat, xm_cati, xm_catr, xm_catl]) ?_
  refine xg_goto hC 124 dX10_init_163 rfl ?_
  refine xg_iload_n hC dX10_init_124 rfl ?_
  refine xg_bipush hC dX10_init_125 (by decide) ?_
  refine xg_icmp_ge hC (xm_inc _ rfl) (xm_inc _ rfl) 166 dX10_init_127 rfl (fun c163 => ?_) (fun c163 => xg_none)
  refine xg_rload_n hC dX10_init_130 rfl ?_
  refine xg_sgetR hC rfl xl_F_X10_66 dX10_init_131 (fun k164 => ?_)
  refine xg_vR k164 (fun v165 k166 => ?_)
  refine xg_iload_n hC dX10_init_134 rfl ?_
  refine xg_new hC (ci := 0) (by decide) xl_K_X10_64 xl_T_0 xl_Z_0 ⟨Nat.le_of_ble_eq_true rfl, Nat.le_of_ble_eq_true rfl⟩ (xm_kp0 hI) dX10_init_135 ?_
  refine xg_st (fun σ167 => ?_)
  refine xg_vR (by omega) (fun v168 k169 => ?_)
  refine xg_guard (fun q170 => ?_)
  refine xg_dup hC dX10_init_138 xm_rf_cat ?_
  refine xg_iload_n hC dX10_init_139 rfl ?_
  refine xg_rload_n hC dX10_init_140 rfl ?_
  refine xg_sgetR hC rfl xl_F_X10_28 dX10_init_141 (fun k171 => ?_)
  refine xg_vR k171 (fun v172 k173 => ?_)
  refine xg_rload_n hC dX10_init_144 rfl ?_
  refine xg_sgetR hC rfl xl_F_X10_35 dX10_init_145 (fun k174 => ?_)
  refine xg_vR k174 (fun v175 k176 => ?_)
  refine xg_rload_n hC dX10_init_148 rfl ?_
  refine xg_sgetR hC rfl xl_F_X10_51 dX10_init_149 (fun k177 => ?_)
  refine xg_vR k177 (fun v178 k179 => ?_)
  refine xg_rload_n hC dX10_init_152 rfl ?_
  refine xg_sgetR hC rfl xl_F_X10_60 dX10_init_153 (fun k180 => ?_)
  refine xg_vR k180 (fun v181 k182 => ?_)
  refine xg_callI hC (w_X1_init hI σ167 v168 (4 : Int) v172 v175 v178 v181 ⟨k169.1, k169.2⟩ (xm_inc _ rfl) ⟨k173.1, k173.2⟩ ⟨k176.1, k176.2⟩ ⟨k179.1, k179.2⟩ ⟨k182.1, k182.2⟩) q170 xl_M_X10_80 xl_I_X1_init (by decide) ⟨Nat.le_of_ble_eq_true rfl, Nat.le_of_ble_eq_true rfl⟩ dX10_init_156 (rest := [xm_rf (xx_G X) v168, .int (xm_J (4 : Int)), xm_rf (xx_G X) v165]) rfl rfl (by simp [xm_rf_cat, xm_cati, xm_catr, xm_catl]) rfl rfl (fun o183 k184 => ?_)
  refine xg_scast hC (xm_inc _ rfl) k169.2 (fun _ => xm_kp0 hI) dX10_init_159 ?_
  refine xg_st (fun σ185 => ?_)
  refine xg_iinc hC (l' := [(1, .int (xm_J (5 : Int))), (0, xm_rf (xx_G X) x0)]) dX10_init_160 (by decide) 0 rfl (by rw [show xm_w ((4 : Int) + 1) = 5 from by decide +kernel]; simp [xm_rf_cat, xm_cati, xm_catr, xm_catl]) ?_
  refine xg_goto hC 124 dX10_init_163 rfl ?_
  refine xg_iload_n hC dX10_init_124 rfl ?_
  refine xg_bipush hC dX10_init_125 (by decide) ?_
  refine xg_icmp_ge hC (xm_inc _ rfl) (xm_inc _ rfl) 166 dX10_init_127 rfl (fun c186 => ?_) (fun c186 => xg_none)
  refine xg_rload_n hC dX10_init_130 rfl ?_
  refine xg_sgetR hC rfl xl_F_X10_66 dX10_init_131 (fun k187 => ?_)
  refine xg_vR k187 (fun v188 k189 => ?_)
  refine xg_iload_n hC dX10_init_134 rfl ?_
  refine xg_new hC (ci := 0) (by decide) xl_K_X10_64 xl_T_0 xl_Z_0 ⟨Nat.le_of_ble_eq_true rfl, Nat.le_of_ble_eq_true rfl⟩ (xm_kp0 hI) dX10_init_135 ?_
  refine xg_st (fun σ190 => ?_)
  refine xg_vR (by omega) (fun v191 k192 => ?_)
  refine xg_guard (fun q193 => ?_)
  refine xg_dup hC dX10_init_138 xm_rf_cat ?_
  refine xg_iload_n hC dX10_init_139 rfl ?_
  refine xg_rload_n hC dX10_init_140 rfl ?_
  refine xg_sgetR hC rfl xl_F_X10_28 dX10_init_141 (fun k194 => ?_)
  refine xg_vR k194 (fun v195 k196 => ?_)
  refine xg_rload_n hC dX10_init_144 rfl ?_
  refine xg_sgetR hC rfl xl_F_X10_35 dX10_init_145 (fun k197 => ?_)
  refine xg_vR k197 (fun v198 k199 => ?_)
  refine xg_rload_n hC dX10_init_148 rfl ?_
  refine xg_sgetR hC rfl xl_F_X10_51 dX10_init_149 (fun k200 => ?_)
  refine xg_vR k200 (fun v201 k202 => ?_)
  refine xg_rload_n hC dX10_init_152 rfl ?_
  refine xg_sgetR hC rfl xl_F_X10_60 dX10_init_153 (fun k203 => ?_)
  refine xg_vR k203 (fun v204 k205 => ?_)
  refine xg_callI hC (w_X1_init hI σ190 v191 (5 : Int) v195 v198 v201 v204 ⟨k192.1, k192.2⟩ (xm_inc _ rfl) ⟨k196.1, k196.2⟩ ⟨k199.1, k199.2⟩ ⟨k202.1, k202.2⟩ ⟨k205.1, k205.2⟩) q193 xl_M_X10_80 xl_I_X1_init (by decide) ⟨Nat.le_of_ble_eq_true rfl, Nat.le_of_ble_eq_true rfl⟩ dX10_init_156 (rest := [xm_rf (xx_G X) v191, .int (xm_J (5 : Int)), xm_rf (xx_G X) v188]) rfl rfl (by simp [xm_rf_cat, xm_cati, xm_catr, xm_catl]) rfl rfl (fun o206 k207 => ?_)
  refine xg_scast hC (xm_inc _ rfl) k192.2 (fun _ => xm_kp0 hI) dX10_init_159 ?_
  refine xg_st (fun σ208 => ?_)
  refine xg_iinc hC (l' := [(1, .int (xm_J (6 : Int))), (0, xm_rf (xx_G X) x0)]) dX10_init_160 (by decide) 0 rfl (by rw [show xm_w ((5 : Int) + 1) = 6 from by decide +kernel]; simp [xm_rf_cat, xm_cati, xm_catr, xm_catl]) ?_
  refine xg_goto hC 124 dX10_init_163 rfl ?_
  refine xg_iload_n hC dX10_init_124 rfl ?_
  refine xg_bipush hC dX10_init_125 (by decide) ?_
  refine xg_icmp_ge hC (xm_inc _ rfl) (xm_inc _ rfl) 166 dX10_init_127 rfl (fun c209 => ?_) (fun c209 => xg_none)
  refine xg_rload_n hC dX10_init_130 rfl ?_
  refine xg_sgetR hC rfl xl_F_X10_66 dX10_init_131 (fun k210 => ?_)
  refine xg_vR k210 (fun v211 k212 => ?_)
  refine xg_iload_n hC dX10_init_134 rfl ?_
  refine xg_new hC (ci := 0) (by decide) xl_K_X10_64 xl_T_0 xl_Z_0 ⟨Nat.le_of_ble_eq_true rfl, Nat.le_of_ble_eq_true rfl⟩ (xm_kp0 hI) dX10_init_135 ?_
  refine xg_st (fun σ213 => ?_)
  refine xg_vR (by omega) (fun v214 k215 => ?_)
  refine xg_guard (fun q216 => ?_)
  refine xg_dup hC dX10_init_138 xm_rf_cat ?_
  refine xg_iload_n hC dX10_init_139 rfl ?_
  refine xg_rload_n hC dX10_init_140 rfl ?_
  refine xg_sgetR hC rfl xl_F_X10_28 dX10_init_141 (fun k217 => ?_)
  refine xg_vR k217 (fun v218 k219 => ?_)
  refine xg_rload_n hC dX10_init_144 rfl ?_
  refine xg_sgetR hC rfl xl_F_X10_35 dX10_init_145 (fun k220 => ?_)
  refine xg_vR k220 (fun v221 k222 => ?_)
  refine xg_rload_n hC dX10_init_148 rfl ?_
  refine xg_sgetR hC rfl xl_F_X10_51 dX10_init_149 (fun k223 => ?_)
  refine xg_vR k223 (fun v224 k225 => ?_)
  refine xg_rload_n hC dX10_init_152 rfl ?_
  refine xg_sgetR hC rfl xl_F_X10_60 dX10_init_153 (fun k226 => ?_)
  refine xg_vR k226 (fun v227 k228 => ?_)
  refine xg_callI hC (w_X1_init hI σ213 v214 (6 : Int) v218 v221 v224 v227 ⟨k215.1, k215.2⟩ (xm_inc _ rfl) ⟨k219.1, k219.2⟩ ⟨k222.1, k222.2⟩ ⟨k225.1, k225.2⟩ ⟨k228.1, k228.2⟩) q216 xl_M_X10_80 xl_I_X1_init (by decide) ⟨Nat.le_of_ble_eq_true rfl, Nat.le_of_ble_eq_true rfl⟩ dX10_init_156 (rest := [xm_rf (xx_G X) v214, .int (xm_J (6 : Int)), xm_rf (xx_G X) v211]) rfl rfl (by simp [xm_rf_cat, xm_cati, xm_catr, xm_catl]) rfl rfl (fun o229 k230 => ?_)
  refine xg_scast hC (xm_inc _ rfl) k215.2 (fun _ => xm_kp0 hI) dX10_init_159 ?_
  refine xg_st (fun σ231 => ?_)
  refine xg_iinc hC (l' := [(1, .int (xm_J (7 : Int))), (0, xm_rf (xx_G X) x0)]) dX10_init_160 (by decide) 0 rfl (by rw [show xm_w ((6 : Int) + 1) = 7 from by decide +kernel]; simp [xm_rf_cat, xm_cati, xm_catr, xm_catl]) ?_
  refine xg_goto hC 124 dX10_init_163 rfl ?_
  refine xg_iload_n hC dX10_init_124 rfl ?_
  refine xg_bipush hC dX10_init_125 (by decide) ?_
  refine xg_icmp_ge hC (xm_inc _ rfl) (xm_inc _ rfl) 166 dX10_init_127 rfl (fun c232 => ?_) (fun c232 => xg_none)
  refine xg_rload_n hC dX10_init_130 rfl ?_
  refine xg_sgetR hC rfl xl_F_X10_66 dX10_init_131 (fun k233 => ?_)
  refine xg_vR k233 (fun v234 k235 => ?_)
  refine xg_iload_n hC dX10_init_134 rfl ?_
  refine xg_new hC (ci := 0) (by decide) xl_K_X10_64 xl_T_0 xl_Z_0 ⟨Nat.le_of_ble_eq_true rfl, Nat.le_of_ble_eq_true rfl⟩ (xm_kp0 hI) dX10_init_135 ?_
  refine xg_st (fun σ236 => ?_)
  refine xg_vR (by omega) (fun v237 k238 => ?_)
  refine xg_guard (fun q239 => ?_)
  refine xg_dup hC dX10_init_138 xm_rf_cat ?_
  refine xg_iload_n hC dX10_init_139 rfl ?_
  refine xg_rload_n hC dX10_init_140 rfl ?_
  refine xg_sgetR hC rfl xl_F_X10_28 dX10_init_141 (fun k240 => ?_)
  refine xg_vR k240 (fun v241 k242 => ?_)
  refine xg_rload_n hC dX10_init_144 rfl ?_
  refine xg_sgetR hC rfl xl_F_X10_35 dX10_init_145 (fun k243 => ?_)
  refine xg_vR k243 (fun v244 k245 => ?_)
  refine xg_rload_n hC dX10_init_148 rfl ?_
  refine xg_sgetR hC rfl xl_F_X10_51 dX10_init_149 (fun k246 => ?_)
  refine xg_vR k246 (fun v247 k248 => ?_)
  refine xg_rload_n hC dX10_init_152 rfl ?_
  refine xg_sgetR hC rfl xl_F_X10_60 dX10_init_153 (fun k249 => ?_)
  refine xg_vR k249 (fun v250 k251 => ?_)
  refine xg_callI hC (w_X1_init hI σ236 v237 (7 : Int) v241 v244 v247 v250 ⟨k238.1, k238.2⟩ (xm_inc _ rfl) ⟨k242.1, k242.2⟩ ⟨k245.1, k245.2⟩ ⟨k248.1, k248.2⟩ ⟨k251.1, k251.2⟩) q239 xl_M_X10_80 xl_I_X1_init (by decide) ⟨Nat.le_of_ble_eq_true rfl, Nat.le_of_ble_eq_true rfl⟩ dX10_init_156 (rest := [xm_rf (xx_G X) v237, .int (xm_J (7 : Int)), xm_rf (xx_G X) v234]) rfl rfl (by simp [xm_rf_cat, xm_cati, xm_catr, xm_catl]) rfl rfl (fun o252 k253 => ?_)
  refine xg_scast hC (xm_inc _ rfl) k238.2 (fun _ => xm_kp0 hI) dX10_init_159 ?_
  refine xg_st (fun σ254 => ?_)
  refine xg_iinc hC (l' := [(1, .int (xm_J (8 : Int))), (0, xm_rf (xx_G X) x0)]) dX10_init_160 (by decide) 0 rfl (by rw [show xm_w ((7 : Int) + 1) = 8 from by decide +kernel]; simp [xm_rf_cat, xm_cati, xm_catr, xm_catl]) ?_
  refine xg_goto hC 124 dX10_init_163 rfl ?_
  refine xg_iload_n hC dX10_init_124 rfl ?_
  refine xg_bipush hC dX10_init_125 (by decide) ?_
  refine xg_icmp_ge hC (xm_inc _ rfl) (xm_inc _ rfl) 166 dX10_init_127 rfl (fun c255 => xg_none) (fun c255 => ?_)
  exact xg_vret hC hQ dX10_init_166
