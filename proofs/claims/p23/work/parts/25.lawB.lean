/-! ===== tell ===== -/
theorem xm_JI_I : xm_JI xm_I := by
  refine ⟨fun σ h => by have := h.1; omega, fun σ σ' h e e2 => ⟨by rw [e2]; exact h.1, fun a k b hw => ?_⟩, fun σ h => h.nw⟩
  rw [e a k (fun z => by
    have h8 : ∀ a, a < 90 → 84 ≤ a → xm_fr0 a = true := by decide +kernel
    rw [xm_wire_none (h8 a (by omega) z.1) k] at hw
    cases hw)]
  exact h.2 a k b hw
/-- how much the text has -/
def xm_tc (σ : xm_Mem) : Nat := (σ.1 84 3).toNat
/-- setLength(0) -/
def xm_s0 (σ : xm_Mem) : xm_Mem := xm_u1 (if xm_tc σ = 0 then σ else xm_u1 σ 84 2 1) 84 3 0
/-- the builder, grown -/
def xm_gB (σ : xm_Mem) : Prop := xm_SB σ 89 34 (xm_tc σ)
noncomputable def f_L_tell_j57 (σ : xm_Mem) : Option xm_Out := (f_X10_end σ (xm_tc σ : Int)).bind (fun o => @ite _ (xm_gB o.1) (Classical.propDecidable _) (if o.2 < 0 then (some (xm_s0 o.1, o.2)) else ((f_X10_record (xm_s0 o.1)).bind (fun o2 => some (o2.1, o2.2)))) none)
noncomputable def f_L_tell_b2 (self : xm_Mem → Int → Option xm_Out) (σ : xm_Mem) (x2 : Int) : Option xm_Out := @ite _ (xm_gB σ ∧ 0 ≤ x2 ∧ x2 ≤ 100) (Classical.propDecidable _) (if x2.toNat < xm_tc σ then ((f_X10_feed σ (xm_at4 σ 89 (xm_tc σ) x2.toNat) (xm_at4 σ 89 (xm_tc σ) (x2.toNat + 4)) (xm_at4 σ 89 (xm_tc σ) (x2.toNat + 8)) (xm_at4 σ 89 (xm_tc σ) (x2.toNat + 12)) (xm_at4 σ 89 (xm_tc σ) (x2.toNat + 16))).bind (fun o => self o.1 (xm_w (((x2.toNat : Nat) : Int) + 20)))) else (f_L_tell_j57 σ)) none
noncomputable def f_L_tell_l2 (n : Nat) : xm_Mem → Int → Option xm_Out := xm_it f_L_tell_b2 (fun _ _ => none) n
noncomputable def f_L_tell (σ : xm_Mem) : Option xm_Out := f_L_tell_l2 xm_fuel σ 0
section XTL
variable {X : xm_X}
theorem wt_j57 (hC : xm_C X RL cL_tell 3 11 1 10) (hQ : xm_Rt X 1 (some .int) 1 10) (hI0 : xx_I X = xm_I) (σ : xm_Mem) (h : xm_gB σ) : xm_V X 0 0 (f_L_tell_j57 σ) σ 57 [(0, .ref (xm_ad (xx_G X) 1)), (1, .ref (xm_ad (xx_G X) 84))] [] := by
  unfold f_L_tell_j57
  have hI : xx_I X = xx_I X := rfl
  have hJ : xm_JI (xx_I X) := by rw [hI0]; exact xm_JI_I
  refine xg_aload_n hC dL_tell_57 rfl ?_
  refine xg_aload_n hC dL_tell_58 rfl ?_
  refine xg_callV1 hC (ci := 10) (mb_len hJ h) xl_M_L_9 xl_V_J4_length_8abf5 rfl (xm_h84a hI hJ) (by decide) rfl (by decide) ⟨by omega, by omega⟩ dL_tell_59 (rest := [.ref (xm_ad (xx_G X) 1)]) rfl rfl (by simp [Value.category]) rfl rfl (st2 := fun o => [.int (xm_J o.2)] ++ [.ref (xm_ad (xx_G X) 1)]) (fun _ => rfl) (fun hf9 => ?_)
  try dsimp only
  refine xg_stk (st' := [.int (xm_J (xm_tc σ : Int)), .ref (xm_ad (xx_G X) 1)]) rfl ?_
  refine xg_callV hC (ci := 9) (w_X10_end hI0 σ (xm_tc σ : Int) (xm_c34 h)) xl_M_L_34 xl_V_X10_end (xm_hK (a := 1) (kd := 0) (n := 9) hI0 rfl).2 ((xm_hK (a := 1) (kd := 0) (n := 9) hI0 rfl).1 _) (by decide) rfl (by decide) ⟨by omega, by omega⟩ dL_tell_62 (rest := []) rfl rfl (by simp [Value.category]) rfl rfl (st2 := fun o => .int (xm_J o.2) :: []) (fun _ => rfl) (fun o hfo => ?_)
  refine xg_istore_n hC (l' := [(2, .int (xm_J o.2)), (0, .ref (xm_ad (xx_G X) 1)), (1, .ref (xm_ad (xx_G X) 84))]) dL_tell_65 (by decide) rfl ?_
  refine xg_aload_n hC dL_tell_66 rfl ?_
  refine xg_iconst hC dL_tell_67 ?_
  refine @xg_ite _ _ _ _ _ _ _ _ _ _ (Classical.propDecidable _) (fun h2 => ?_) (fun _ => xg_none)
  refine xg_callV1 hC (ci := 10) (mb_set0 hJ h2) xl_M_L_38 xl_V_J4_setLength_d00df rfl (xm_h84a hI hJ) (by decide) rfl (by decide) ⟨by omega, by omega⟩ dL_tell_68 (rest := []) rfl rfl (by simp [Value.category]) rfl rfl (st2 := fun o => [] ++ []) (fun _ => rfl) (fun hf9 => ?_)
  try dsimp only
  refine xg_stk (st' := []) rfl ?_
  refine xg_iload_n hC dL_tell_71 rfl ?_
  refine xg_if_ge hC hfo 79 dL_tell_72 rfl (fun _ => ?_) (fun _ => ?_)
  · refine xg_iload_n hC dL_tell_75 rfl ?_
    refine xg_goto hC 83 dL_tell_76 rfl ?_
    exact xg_widen (kc2 := 1) (sc2 := 10) (by decide) (by decide) (xg_iret hC hQ hfo dL_tell_83)
  · refine xg_aload_n hC dL_tell_79 rfl ?_
    refine xg_callV hC (ci := 9) (w_X10_record hI0 (xm_s0 o.1)) xl_M_L_42 xl_V_X10_record (xm_hK (a := 1) (kd := 0) (n := 9) hI0 rfl).2 ((xm_hK (a := 1) (kd := 0) (n := 9) hI0 rfl).1 _) (by decide) rfl (by decide) ⟨by omega, by omega⟩ dL_tell_80 (rest := []) rfl rfl (by simp [Value.category]) rfl rfl (st2 := fun o => .int (xm_J o.2) :: []) (fun _ => rfl) (fun o2 hfr => ?_)
    exact xg_iret hC hQ hfr dL_tell_83
theorem wt_b2 (hC : xm_C X RL cL_tell 3 11 1 10) (hQ : xm_Rt X 1 (some .int) 1 10) (hI0 : xx_I X = xm_I) {self : xm_Mem → Int → Option xm_Out} (hself : ∀ (σ : xm_Mem) (x2 : Int), xm_in x2 → xm_V X 0 0 (self σ x2) σ 2 [(0, .ref (xm_ad (xx_G X) 1)), (1, .ref (xm_ad (xx_G X) 84)), (2, .int (xm_J x2))] []) (σ : xm_Mem) (x2 : Int) (hx : xm_in x2) : xm_V X 0 0 (f_L_tell_b2 self σ x2) σ 2 [(0, .ref (xm_ad (xx_G X) 1)), (1, .ref (xm_ad (xx_G X) 84)), (2, .int (xm_J x2))] [] := by
  unfold f_L_tell_b2
  have hI : xx_I X = xx_I X := rfl
  have hJ : xm_JI (xx_I X) := by rw [hI0]; exact xm_JI_I
  refine @xg_ite _ _ _ _ _ _ _ _ _ _ (Classical.propDecidable _) (fun hg => ?_) (fun _ => xg_none)
  obtain ⟨h, h0, h100⟩ := hg
  obtain ⟨k, rfl⟩ := Int.eq_ofNat_of_zero_le h0
  rw [Int.toNat_natCast]
  have hk9 : xm_in (k : Int) := hx
  have hn34 := h.2.2.2.2.2.2
  refine xg_iload_n hC dL_tell_2 rfl ?_
  refine xg_aload_n hC dL_tell_3 rfl ?_
  refine xg_callV1 hC (ci := 10) (mb_len hJ h) xl_M_L_9 xl_V_J4_length_8abf5 rfl (xm_h84a hI hJ) (by decide) rfl (by decide) ⟨by omega, by omega⟩ dL_tell_4 (rest := [.int (xm_J (k : Int))]) rfl rfl (by simp [Value.category]) rfl rfl (st2 := fun o => [.int (xm_J o.2)] ++ [.int (xm_J (k : Int))]) (fun _ => rfl) (fun hf9 => ?_)
  try dsimp only
  refine xg_stk (st' := [.int (xm_J (xm_tc σ : Int)), .int (xm_J (k : Int))]) rfl ?_
  by_cases hkc : k < xm_tc σ
  · rw [if_pos hkc]
    refine xg_icmp_geN hC hk9 (xm_c34 h) 57 dL_tell_7 rfl (by omega) ?_
    refine xg_aload_n hC dL_tell_10 rfl ?_
    refine xg_aload_n hC dL_tell_11 rfl ?_
    refine xg_iload_n hC dL_tell_12 rfl ?_
    refine xg_callS1 hC (ml_four (k := k) (by omega) hJ h) xl_M_L_25 xl_S_L_four (by decide) ⟨by omega, by omega⟩ dL_tell_13 (rest := [.ref (xm_ad (xx_G X) 1)]) rfl rfl (by simp [Value.category]) rfl rfl (st2 := fun o => [.int (xm_J o.2)] ++ [.ref (xm_ad (xx_G X) 1)]) (fun _ => rfl) (fun hf0 => ?_)
    try dsimp only
    refine xg_stk (st' := [.int (xm_J (xm_at4 σ 89 (xm_tc σ) k)), .ref (xm_ad (xx_G X) 1)]) rfl ?_
    refine xg_aload_n hC dL_tell_16 rfl ?_
    refine xg_iload_n hC dL_tell_17 rfl ?_
    refine xg_iconst hC dL_tell_18 ?_
    refine xg_iadd hC dL_tell_19 ?_
    refine xg_top (w := ((k + 4 : Nat) : Int)) (by rw [xp_w (by omega) (by omega)]; omega) ?_
    refine xg_callS1 hC (ml_four (k := (k + 4)) (by omega) hJ h) xl_M_L_25 xl_S_L_four (by decide) ⟨by omega, by omega⟩ dL_tell_20 (rest := [.int (xm_J (xm_at4 σ 89 (xm_tc σ) k)), .ref (xm_ad (xx_G X) 1)]) rfl rfl (by simp [Value.category]) rfl rfl (st2 := fun o => [.int (xm_J o.2)] ++ [.int (xm_J (xm_at4 σ 89 (xm_tc σ) k)), .ref (xm_ad (xx_G X) 1)]) (fun _ => rfl) (fun hf4 => ?_)
    try dsimp only
    refine xg_stk (st' := [.int (xm_J (xm_at4 σ 89 (xm_tc σ) (k + 4))), .int (xm_J (xm_at4 σ 89 (xm_tc σ) k)), .ref (xm_ad (xx_G X) 1)]) rfl ?_
    refine xg_aload_n hC dL_tell_23 rfl ?_
    refine xg_iload_n hC dL_tell_24 rfl ?_
    refine xg_bipush hC dL_tell_25 (by decide) ?_
    refine xg_iadd hC dL_tell_27 ?_
    refine xg_top (w := ((k + 8 : Nat) : Int)) (by rw [xp_w (by omega) (by omega)]; omega) ?_
    refine xg_callS1 hC (ml_four (k := (k + 8)) (by omega) hJ h) xl_M_L_25 xl_S_L_four (by decide) ⟨by omega, by omega⟩ dL_tell_28 (rest := [.int (xm_J (xm_at4 σ 89 (xm_tc σ) (k + 4))), .int (xm_J (xm_at4 σ 89 (xm_tc σ) k)), .ref (xm_ad (xx_G X) 1)]) rfl rfl (by simp [Value.category]) rfl rfl (st2 := fun o => [.int (xm_J o.2)] ++ [.int (xm_J (xm_at4 σ 89 (xm_tc σ) (k + 4))), .int (xm_J (xm_at4 σ 89 (xm_tc σ) k)), .ref (xm_ad (xx_G X) 1)]) (fun _ => rfl) (fun hf8 => ?_)
    try dsimp only
    refine xg_stk (st' := [.int (xm_J (xm_at4 σ 89 (xm_tc σ) (k + 8))), .int (xm_J (xm_at4 σ 89 (xm_tc σ) (k + 4))), .int (xm_J (xm_at4 σ 89 (xm_tc σ) k)), .ref (xm_ad (xx_G X) 1)]) rfl ?_
    refine xg_aload_n hC dL_tell_31 rfl ?_
    refine xg_iload_n hC dL_tell_32 rfl ?_
    refine xg_bipush hC dL_tell_33 (by decide) ?_
    refine xg_iadd hC dL_tell_35 ?_
    refine xg_top (w := ((k + 12 : Nat) : Int)) (by rw [xp_w (by omega) (by omega)]; omega) ?_
    refine xg_callS1 hC (ml_four (k := (k + 12)) (by omega) hJ h) xl_M_L_25 xl_S_L_four (by decide) ⟨by omega, by omega⟩ dL_tell_36 (rest := [.int (xm_J (xm_at4 σ 89 (xm_tc σ) (k + 8))), .int (xm_J (xm_at4 σ 89 (xm_tc σ) (k + 4))), .int (xm_J (xm_at4 σ 89 (xm_tc σ) k)), .ref (xm_ad (xx_G X) 1)]) rfl rfl (by simp [Value.category]) rfl rfl (st2 := fun o => [.int (xm_J o.2)] ++ [.int (xm_J (xm_at4 σ 89 (xm_tc σ) (k + 8))), .int (xm_J (xm_at4 σ 89 (xm_tc σ) (k + 4))), .int (xm_J (xm_at4 σ 89 (xm_tc σ) k)), .ref (xm_ad (xx_G X) 1)]) (fun _ => rfl) (fun hf12 => ?_)
    try dsimp only
    refine xg_stk (st' := [.int (xm_J (xm_at4 σ 89 (xm_tc σ) (k + 12))), .int (xm_J (xm_at4 σ 89 (xm_tc σ) (k + 8))), .int (xm_J (xm_at4 σ 89 (xm_tc σ) (k + 4))), .int (xm_J (xm_at4 σ 89 (xm_tc σ) k)), .ref (xm_ad (xx_G X) 1)]) rfl ?_
    refine xg_aload_n hC dL_tell_39 rfl ?_
    refine xg_iload_n hC dL_tell_40 rfl ?_
    refine xg_bipush hC dL_tell_41 (by decide) ?_
    refine xg_iadd hC dL_tell_43 ?_
    refine xg_top (w := ((k + 16 : Nat) : Int)) (by rw [xp_w (by omega) (by omega)]; omega) ?_
    refine xg_callS1 hC (ml_four (k := (k + 16)) (by omega) hJ h) xl_M_L_25 xl_S_L_four (by decide) ⟨by omega, by omega⟩ dL_tell_44 (rest := [.int (xm_J (xm_at4 σ 89 (xm_tc σ) (k + 12))), .int (xm_J (xm_at4 σ 89 (xm_tc σ) (k + 8))), .int (xm_J (xm_at4 σ 89 (xm_tc σ) (k + 4))), .int (xm_J (xm_at4 σ 89 (xm_tc σ) k)), .ref (xm_ad (xx_G X) 1)]) rfl rfl (by simp [Value.category]) rfl rfl (st2 := fun o => [.int (xm_J o.2)] ++ [.int (xm_J (xm_at4 σ 89 (xm_tc σ) (k + 12))), .int (xm_J (xm_at4 σ 89 (xm_tc σ) (k + 8))), .int (xm_J (xm_at4 σ 89 (xm_tc σ) (k + 4))), .int (xm_J (xm_at4 σ 89 (xm_tc σ) k)), .ref (xm_ad (xx_G X) 1)]) (fun _ => rfl) (fun hf16 => ?_)
    try dsimp only
    refine xg_stk (st' := [.int (xm_J (xm_at4 σ 89 (xm_tc σ) (k + 16))), .int (xm_J (xm_at4 σ 89 (xm_tc σ) (k + 12))), .int (xm_J (xm_at4 σ 89 (xm_tc σ) (k + 8))), .int (xm_J (xm_at4 σ 89 (xm_tc σ) (k + 4))), .int (xm_J (xm_at4 σ 89 (xm_tc σ) k)), .ref (xm_ad (xx_G X) 1)]) rfl ?_
    refine xg_callV hC (ci := 9) (w_X10_feed hI0 σ (xm_at4 σ 89 (xm_tc σ) k) (xm_at4 σ 89 (xm_tc σ) (k + 4)) (xm_at4 σ 89 (xm_tc σ) (k + 8)) (xm_at4 σ 89 (xm_tc σ) (k + 12)) (xm_at4 σ 89 (xm_tc σ) (k + 16)) hf0 hf4 hf8 hf12 hf16) xl_M_L_28 xl_V_X10_feed (xm_hK (a := 1) (kd := 0) (n := 9) hI0 rfl).2 ((xm_hK (a := 1) (kd := 0) (n := 9) hI0 rfl).1 _) (by decide) rfl (by decide) ⟨by omega, by omega⟩ dL_tell_47 (rest := []) rfl rfl (by simp [Value.category]) rfl rfl (st2 := fun o => .int (xm_J o.2) :: []) (fun _ => rfl) (fun o hfo => ?_)
    refine xg_pop hC dL_tell_50 rfl ?_
    refine xg_iinc hC (l' := [(2, .int (xm_J (xm_w ((k : Int) + 20)))), (0, .ref (xm_ad (xx_G X) 1)), (1, .ref (xm_ad (xx_G X) 84))]) dL_tell_51 (by decide) 2 rfl rfl ?_
    refine xg_goto hC 2 dL_tell_54 rfl ?_
    exact xg_pick [1, 2, 0] rfl (hself o.1 _ (xm_w_in _))
  · rw [if_neg hkc]
    refine xg_icmp_geJ hC hk9 (xm_c34 h) 57 dL_tell_7 rfl (by omega) ?_
    exact xg_pick [0, 1] rfl (wt_j57 hC hQ hI0 σ h)
theorem wt_l2 (hC : xm_C X RL cL_tell 3 11 1 10) (hQ : xm_Rt X 1 (some .int) 1 10) (hI : xx_I X = xm_I) (n : Nat) : ∀ (σ : xm_Mem) (x2 : Int), xm_in x2 → xm_V X 0 0 (f_L_tell_l2 n σ x2) σ 2 [(0, .ref (xm_ad (xx_G X) 1)), (1, .ref (xm_ad (xx_G X) 84)), (2, .int (xm_J x2))] [] := by
  induction n with
  | zero => intro σ x2 _; exact xg_none
  | succ n ih => intro σ x2 hx; exact wt_b2 hC hQ hI ih σ x2 hx
end XTL
theorem w_L_tell {Γ : xm_Gm} {I : xm_Mem → Prop} {la : Launch} (hE : I = xm_I) (σ : xm_Mem) : ∀ o, f_L_tell σ = some o → xm_M Γ I la yL_tell cL_tell 3 (some .int) 11 1 10 [.ref (xm_ad Γ 1), .ref (xm_ad Γ 84)] σ 1 o := by
  refine xg_enter (by decide) (by simp [lg_sl, Value.category]) (fun X hG hI0 hla hC hQ hname => ?_)
  subst hG
  have hI := hI0.trans hE
  unfold f_L_tell
  refine xg_iconst hC dL_tell_0 ?_
  refine xg_istore_n hC (l' := [(2, .int (xm_J 0)), (0, .ref (xm_ad (xx_G X) 1)), (1, .ref (xm_ad (xx_G X) 84))]) dL_tell_1 (by decide) rfl ?_
  exact xg_pick [1, 2, 0] rfl (wt_l2 hC hQ hI xm_fuel σ 0 xm_in0)
