/-! ===== the builder: append, length, charAt, setLength(0), its constructor ===== -/
/-- how many digits -/
def xm_dg (w : Nat) : Nat := if w < 10 then 1 else if w < 100 then 2 else if w < 1000 then 3 else if w < 10000 then 4 else 5
theorem xm_dg_pos (w : Nat) : 1 ≤ xm_dg w ∧ xm_dg w ≤ 5 := by unfold xm_dg; (repeat' split) <;> omega
theorem xm_dg_small (w : Nat) : (w < 10 → xm_dg w = 1) ∧ (10 ≤ w → w < 100 → xm_dg w = 2) := by unfold xm_dg; (repeat' split) <;> omega
theorem xm_dg_100 (w : Nat) (h : w ≤ 99999) (h1 : 100 ≤ w) : xm_dg w = xm_dg (w / 100) + 2 := by unfold xm_dg; (repeat' split) <;> omega
/-- the digits, written from the last one on -/
def xm_gc (a : Nat) : Nat → xm_Mem → Nat → Nat → xm_Mem
  | 0, σ, _, _ => σ
  | f + 1, σ, p, r => if r < 100 then (if r < 10 then xm_u1 σ a (p - 1) (48 + ((r % 10 : Nat) : Int)) else xm_u1 (xm_u1 σ a (p - 1) (48 + ((r % 10 : Nat) : Int))) a (p - 2) (48 + ((r / 10 : Nat) : Int))) else xm_gc a f (xm_u1 (xm_u1 σ a (p - 1) (48 + ((r % 100 % 10 : Nat) : Int))) a (p - 2) (48 + ((r % 100 / 10 : Nat) : Int))) (p - 2) (r / 100)
theorem xm_negn {w : Nat} (h : w ≤ 99999) : xm_neg (-(w : Int)) = (w : Int) := by
  unfold xm_neg xm_J
  rw [← Int32.ofInt_neg, Int.neg_neg]
  exact xm_J_toInt ⟨by omega, by omega⟩
theorem xm_negw {w : Nat} (h : w ≤ 99999) : xm_neg (w : Int) = -(w : Int) := by
  unfold xm_neg xm_J
  rw [← Int32.ofInt_neg]
  exact xm_J_toInt ⟨by omega, by omega⟩
theorem xm_div100 {w : Nat} (h : w ≤ 99999) : xm_div (-(w : Int)) 100 = -((w / 100 : Nat) : Int) := by
  unfold xm_div
  rw [Int32.toInt_div, xm_J_toInt ⟨by omega, by omega⟩, xm_J_toInt ⟨by omega, by omega⟩, Int.neg_tdiv, Int.tdiv_eq_ediv_of_nonneg (by omega)]
  have e : ((w : Int) / 100) = ((w / 100 : Nat) : Int) := by omega
  rw [e]
  apply Int.bmod_eq_of_le <;> omega
theorem xm_mod100 {w : Nat} (h : w ≤ 99999) : xm_w (xm_w (-((w / 100 : Nat) : Int) * (100 : Int)) - (-(w : Int))) = ((w % 100 : Nat) : Int) := by
  rw [xp_w (x := -((w / 100 : Nat) : Int) * (100 : Int)) (by omega) (by omega), xp_w (by omega) (by omega)]
  omega
section XJQ
variable {X : xm_X} {own : String} {cc : ByteArray} {nL fr mc ms kc sc : Nat} {r : Option xm_Out} {σ : xm_Mem} {pc : Nat} {l : List (Nat × Value)} {st : List Value}
theorem xm_cty4 {ci k : Nat} (h : xm_ft ci k = 4) : xm_cty ci k = .byte := by
  unfold xm_ft at h; split at h <;> simp_all
theorem xg_putB (hC : xm_C X own cc nL fr mc ms) {a ci k idx : Nat} {v : Int} (hl : xm_has (xx_I X) a 0 ci) (ht : xm_ft ci k = 4) (hfin : (xm_cT ci k).2.2.2 = false) (hv : 0 ≤ v ∧ v ≤ 127) (hI : xm_kp X σ a k v) (hF : xm_F own idx ci k) (hd : decode cc pc = .ok (.putfield idx, 3)) (kk : xm_V X kc sc r (xm_u1 σ a k v) (pc + 3) l st) : xm_V X kc sc r σ pc l (.int (xm_J v) :: .ref (xm_ad (xx_G X) a) :: st) := by
  have h := xm_map_set1 (Γ := xx_G X) (σ := σ) (a := a) (v := v) hF.2.1 (by rw [ht]; decide)
  rw [ht] at h
  refine xg_put0 (σ' := xm_u1 σ a k v) hC hl.2 (hl.1 σ) (Or.inl hfin) (by rw [xm_cty4 ht]; exact (xm_bz hv).1) (by rw [xm_cty4 ht]; exact (xm_bz hv).2.1) rfl (xm_u1_109 (xm_k7 hl.2 (by decide))) (fun hT hI2 => hT.u1 (hl.1 σ hI2).2 ⟨by omega, by omega⟩ ?_ ?_ (fun _ => hv)) hI (fun b hb => xm_cell_u1 hb) h hF hd kk
  · rw [xm_tk_o hl.2, ht]; exact fun q => by cases q
  · rw [xm_tk_o hl.2, ht]; exact fun q => by cases q
end XJQ
section XJF
variable {Γ : xm_Gm} {I : xm_Mem → Prop} {la : Launch} {σ : xm_Mem} {v n c q : Nat}
theorem mb_appS0 {i : Nat} (hi : i < 24) (hJ : xm_JI I) (h : xm_SB σ v n c) (hlen : c + xm_ln.getD i 0 ≤ n) : xm_M Γ I la yJ4_append_15ec4 cJ4_append_15ec4 2 (some (.object "java/lang/StringBuilder")) 6 0 0 [.ref (xm_ad Γ 84), .ref (xm_adK Γ i)] σ 7 (xm_u1 (xm_cpm σ v c (xm_ln.getD i 0) (fun j => xm_chr (i : Int) ((0 + j : Nat) : Int))) 84 3 ((c + xm_ln.getD i 0 : Nat) : Int), 0) :=
  xg_enter (by decide) (by simp [lg_sl, Value.category]) (fun X hG hI hla hC hQ hname => by
    subst hG
    subst hI
    have hI : xx_I X = xx_I X := rfl
    refine xg_pick [0, 1] (l' := [(0, .ref (xm_ad (xx_G X) 84)), (1, .ref (xm_adK (xx_G X) i))]) rfl ?_
    refine xg_aload_n hC dJ4_append_15ec4_0 rfl ?_
    refine xg_aload_n hC dJ4_append_15ec4_1 rfl ?_
    refine xg_callSU1 hC (mj_appS0 hi hJ h hlen) xl_M_J4_29 xl_U_J5_append_cf1ce xl_I_J5_append_cf1ce xl_SU (by decide) rfl (xm_h84a hI hJ) (by decide) ⟨by omega, by omega⟩ dJ4_append_15ec4_2 (rest := []) rfl rfl (by simp [Value.category]) rfl rfl (st2 := (fun o => [.ref (xm_ad (xx_G X) 84)] ++ [])) (fun _ => rfl) (fun _ => ?_)
    try dsimp only
    refine xg_stk (st' := [.ref (xm_ad (xx_G X) 84)]) rfl ?_
    refine xg_pop hC dJ4_append_15ec4_5 rfl ?_
    refine xg_aload_n hC dJ4_append_15ec4_6 rfl ?_
    exact xg_aret (rk := 7) (v := 0) hC hQ (Or.inl ⟨_, rfl⟩) rfl trivial dJ4_append_15ec4_7) _ rfl
theorem mb_appS1 {i : Nat} (hi : i < 24) (hJ : xm_JI I) (h : xm_SB σ v 16 c) (hlen : 17 ≤ c + xm_ln.getD i 0 ∧ c + xm_ln.getD i 0 ≤ 34) (hby : ∀ j, j < 16 → 0 ≤ σ.1 v j ∧ σ.1 v j ≤ 127) (h88 : σ.2.2 = 88) (hnx : xm_nxt σ) (h2 : xm_SB (xm_u1 (xm_cpm (xm_nw σ) 89 0 16 (fun j => (xm_nw σ).1 v (0 + j))) 84 0 89) 89 34 c) : xm_M Γ I la yJ4_append_15ec4 cJ4_append_15ec4 2 (some (.object "java/lang/StringBuilder")) 6 1 34 [.ref (xm_ad Γ 84), .ref (xm_adK Γ i)] σ 7 (xm_u1 (xm_cpm (xm_u1 (xm_cpm (xm_nw σ) 89 0 16 (fun j => (xm_nw σ).1 v (0 + j))) 84 0 89) 89 c (xm_ln.getD i 0) (fun j => xm_chr (i : Int) ((0 + j : Nat) : Int))) 84 3 ((c + xm_ln.getD i 0 : Nat) : Int), 0) :=
  xg_enter (by decide) (by simp [lg_sl, Value.category]) (fun X hG hI hla hC hQ hname => by
    subst hG
    subst hI
    have hI : xx_I X = xx_I X := rfl
    refine xg_pick [0, 1] (l' := [(0, .ref (xm_ad (xx_G X) 84)), (1, .ref (xm_adK (xx_G X) i))]) rfl ?_
    refine xg_aload_n hC dJ4_append_15ec4_0 rfl ?_
    refine xg_aload_n hC dJ4_append_15ec4_1 rfl ?_
    refine xg_callSU1 hC (mj_appS1 hi hJ h hlen hby h88 hnx h2) xl_M_J4_29 xl_U_J5_append_cf1ce xl_I_J5_append_cf1ce xl_SU (by decide) rfl (xm_h84a hI hJ) (by decide) ⟨by omega, by omega⟩ dJ4_append_15ec4_2 (rest := []) rfl rfl (by simp [Value.category]) rfl rfl (st2 := (fun o => [.ref (xm_ad (xx_G X) 84)] ++ [])) (fun _ => rfl) (fun _ => ?_)
    try dsimp only
    refine xg_stk (st' := [.ref (xm_ad (xx_G X) 84)]) rfl ?_
    refine xg_pop hC dJ4_append_15ec4_5 rfl ?_
    refine xg_aload_n hC dJ4_append_15ec4_6 rfl ?_
    exact xg_aret (rk := 7) (v := 0) hC hQ (Or.inl ⟨_, rfl⟩) rfl trivial dJ4_append_15ec4_7) _ rfl
theorem mj_appC {x : Int} (hx : 0 ≤ x ∧ x ≤ 127) (hJ : xm_JI I) (h : xm_SB σ v n c) (hlen : c + 1 ≤ n) : xm_M Γ I la yJ5_append_3fe6f cJ5_append_3fe6f 2 (some (.object "java/lang/AbstractStringBuilder")) 5 0 0 [.ref (xm_ad Γ 84), .int (xm_J x)] σ 7 (xm_u1 (xm_u1 σ 84 3 ((c + 1 : Nat) : Int)) v c x, 0) :=
  xg_enter (by decide) (by simp [lg_sl, Value.category]) (fun X hG hI hla hC hQ hname => by
    subst hG
    subst hI
    have hI : xx_I X = xx_I X := rfl
    have hx9 : xm_in x := ⟨by omega, by omega⟩
    have hn34 := h.2.2.2.2.2.2
    refine xg_pick [0, 1] (l' := [(0, .ref (xm_ad (xx_G X) 84)), (1, .int (xm_J x))]) rfl ?_
    refine xg_aload_n hC dJ5_append_3fe6f_0 rfl ?_
    refine xg_aload_n hC dJ5_append_3fe6f_1 rfl ?_
    refine xg_getI hC (xm_h84 hI hJ) rfl xl_F_J5_79 dJ5_append_3fe6f_2 (fun _ => ?_)
    refine xg_top h.2.2.1 ?_
    refine xg_iconst hC dJ5_append_3fe6f_5 ?_
    refine xg_iadd hC dJ5_append_3fe6f_6 ?_
    refine xg_top (w := ((c + 1 : Nat) : Int)) (by rw [xp_w (by omega) (by omega)]; omega) ?_
    refine xg_callU1 hC (mj_ens0 (q := c + 1) hJ h hlen) xl_M_J5_100 xl_U_J5_ensureCapacityInternal_d00df xl_I_J5_ensureCapacityInternal_d00df xl_W_J5_ensureCapacityInternal_d00df rfl (xm_h84a hI hJ) (by decide) ⟨by omega, by omega⟩ dJ5_append_3fe6f_7 (rest := []) rfl rfl (by simp [Value.category]) rfl rfl (st2 := (fun o => [] ++ [])) (fun _ => rfl) (fun _ => ?_)
    try dsimp only
    refine xg_stk (st' := []) rfl ?_
    refine xg_aload_n hC dJ5_append_3fe6f_10 rfl ?_
    refine xg_callU1 hC (mj_isL hJ h) xl_M_J5_83 xl_U_J5_isLatin1_aae02 xl_I_J5_isLatin1_aae02 xl_W_J5_isLatin1_aae02 rfl (xm_h84a hI hJ) (by decide) ⟨by omega, by omega⟩ dJ5_append_3fe6f_11 (rest := []) rfl rfl (by simp [Value.category]) rfl rfl (st2 := (fun o => [.int (xm_J o.2)] ++ [])) (fun _ => rfl) (fun _ => ?_)
    try dsimp only
    refine xg_stk (st' := [.int (xm_J (1 : Int))]) rfl ?_
    refine xg_if_eqN hC (xm_inc 1 rfl) 45 dJ5_append_3fe6f_14 rfl (by decide) ?_
    refine xg_iload_n hC dJ5_append_3fe6f_17 rfl ?_
    refine xg_callS1 hC (mj_canE hx) xl_M_J5_191 xl_S_J1_canEncode_fc78d (by decide) ⟨by omega, by omega⟩ dJ5_append_3fe6f_18 (rest := []) rfl rfl (by simp [Value.category]) rfl rfl (st2 := (fun o => [.int (xm_J o.2)] ++ [])) (fun _ => rfl) (fun _ => ?_)
    try dsimp only
    refine xg_stk (st' := [.int (xm_J (1 : Int))]) rfl ?_
    refine xg_if_eqN hC (xm_inc 1 rfl) 45 dJ5_append_3fe6f_21 rfl (by decide) ?_
    refine xg_aload_n hC dJ5_append_3fe6f_24 rfl ?_
    refine xg_getR hC (xm_h84 hI hJ) rfl xl_F_J5_15 dJ5_append_3fe6f_25 (fun _ => ?_)
    refine xg_stk (st' := [.ref (xm_ad (xx_G X) v)]) (by rw [xm_rfv h]) ?_
    refine xg_aload_n hC dJ5_append_3fe6f_28 rfl ?_
    refine xg_dup hC dJ5_append_3fe6f_29 rfl ?_
    refine xg_getI hC (xm_h84 hI hJ) rfl xl_F_J5_79 dJ5_append_3fe6f_30 (fun _ => ?_)
    refine xg_top h.2.2.1 ?_
    refine xg_dup_x1 hC dJ5_append_3fe6f_33 rfl rfl ?_
    refine xg_iconst hC dJ5_append_3fe6f_34 ?_
    refine xg_iadd hC dJ5_append_3fe6f_35 ?_
    refine xg_top (w := ((c + 1 : Nat) : Int)) (by rw [xp_w (by omega) (by omega)]; omega) ?_
    refine xg_putI hC (xm_h84 hI hJ) rfl rfl ⟨by omega, by omega⟩ (xm_kp84 hI hJ (by decide)) xl_F_J5_79 dJ5_append_3fe6f_36 ?_
    refine xg_iload_n hC dJ5_append_3fe6f_39 rfl ?_
    refine xg_i2b hC hx dJ5_append_3fe6f_40 ?_
    refine xg_bast hC h.2.2.2.1 (show 1 ≤ v ∧ v ≤ σ.2.2 from xm_va h) (xm_c34 h) ⟨by omega, by omega⟩ hx (xm_kp84 hI hJ h.2.2.2.2.1) dJ5_append_3fe6f_41 ?_
    refine xg_goto hC 75 dJ5_append_3fe6f_42 rfl ?_
    refine xg_aload_n hC dJ5_append_3fe6f_75 rfl ?_
    rw [Int.toNat_natCast]
    exact xg_aret (rk := 7) (v := 0) hC hQ (Or.inl ⟨_, rfl⟩) rfl trivial dJ5_append_3fe6f_76) _ rfl
theorem mb_appC {x : Int} (hx : 0 ≤ x ∧ x ≤ 127) (hJ : xm_JI I) (h : xm_SB σ v n c) (hlen : c + 1 ≤ n) : xm_M Γ I la yJ4_append_cf468 cJ4_append_cf468 2 (some (.object "java/lang/StringBuilder")) 6 0 0 [.ref (xm_ad Γ 84), .int (xm_J x)] σ 7 (xm_u1 (xm_u1 σ 84 3 ((c + 1 : Nat) : Int)) v c x, 0) :=
  xg_enter (by decide) (by simp [lg_sl, Value.category]) (fun X hG hI hla hC hQ hname => by
    subst hG
    subst hI
    have hI : xx_I X = xx_I X := rfl
    have hx9 : xm_in x := ⟨by omega, by omega⟩
    refine xg_pick [0, 1] (l' := [(0, .ref (xm_ad (xx_G X) 84)), (1, .int (xm_J x))]) rfl ?_
    refine xg_aload_n hC dJ4_append_cf468_0 rfl ?_
    refine xg_iload_n hC dJ4_append_cf468_1 rfl ?_
    refine xg_callSU1 hC (mj_appC hx hJ h hlen) xl_M_J4_50 xl_U_J5_append_3fe6f xl_I_J5_append_3fe6f xl_SU (by decide) rfl (xm_h84a hI hJ) (by decide) ⟨by omega, by omega⟩ dJ4_append_cf468_2 (rest := []) rfl rfl (by simp [Value.category]) rfl rfl (st2 := (fun o => [.ref (xm_ad (xx_G X) 84)] ++ [])) (fun _ => rfl) (fun _ => ?_)
    try dsimp only
    refine xg_stk (st' := [.ref (xm_ad (xx_G X) 84)]) rfl ?_
    refine xg_pop hC dJ4_append_cf468_5 rfl ?_
    refine xg_aload_n hC dJ4_append_cf468_6 rfl ?_
    exact xg_aret (rk := 7) (v := 0) hC hQ (Or.inl ⟨_, rfl⟩) rfl trivial dJ4_append_cf468_7) _ rfl
theorem mj_size {w : Nat} (hw : w ≤ 99999) : xm_M Γ I la yJ6_stringSize_0f7a4 cJ6_stringSize_0f7a4 4 (some .int) 1 0 0 [.int (xm_J (w : Int))] σ 1 (σ, ((xm_dg w : Nat) : Int)) :=
  xg_enter (by decide) (by simp [lg_sl, Value.category]) (fun X hG hI hla hC hQ hname => by
    subst hG
    subst hI
    have hI : xx_I X = xx_I X := rfl
    have hw9 : xm_in (w : Int) := ⟨by omega, by omega⟩
    refine xg_pick [0] (l' := [(0, .int (xm_J (w : Int)))]) rfl ?_
    refine xg_iconst hC dJ6_stringSize_0f7a4_0 ?_
    refine xg_istore_n hC (l' := [(1, .int (xm_J (1 : Int))), (0, .int (xm_J (w : Int)))]) dJ6_stringSize_0f7a4_1 (by decide) rfl ?_
    refine xg_iload_n hC dJ6_stringSize_0f7a4_2 rfl ?_
    refine xg_if_ltN hC hw9 11 dJ6_stringSize_0f7a4_3 rfl (by omega) ?_
    refine xg_iconst hC dJ6_stringSize_0f7a4_6 ?_
    refine xg_istore_n hC (l' := [(1, .int (xm_J (0 : Int))), (0, .int (xm_J (w : Int)))]) dJ6_stringSize_0f7a4_7 (by decide) rfl ?_
    refine xg_iload_n hC dJ6_stringSize_0f7a4_8 rfl ?_
    refine xg_ineg hC dJ6_stringSize_0f7a4_9 ?_
    refine xg_top (w := (-(w : Int))) (xm_negw hw) ?_
    refine xg_istore_n hC (l' := [(0, .int (xm_J (-(w : Int)))), (1, .int (xm_J (0 : Int)))]) dJ6_stringSize_0f7a4_10 (by decide) rfl ?_
    refine xg_bipush hC dJ6_stringSize_0f7a4_11 (by decide) ?_
    refine xg_istore_n hC (l' := [(2, .int (xm_J (-10 : Int))), (0, .int (xm_J (-(w : Int)))), (1, .int (xm_J (0 : Int)))]) dJ6_stringSize_0f7a4_13 (by decide) rfl ?_
    refine xg_iconst hC dJ6_stringSize_0f7a4_14 ?_
    refine xg_istore_n hC (l' := [(3, .int (xm_J (1 : Int))), (2, .int (xm_J (-10 : Int))), (0, .int (xm_J (-(w : Int)))), (1, .int (xm_J (0 : Int)))]) dJ6_stringSize_0f7a4_15 (by decide) rfl ?_
    refine xg_iload_n hC dJ6_stringSize_0f7a4_16 rfl ?_
    refine xg_bipush hC dJ6_stringSize_0f7a4_17 (by decide) ?_
    refine xg_icmp_geN hC (xm_inc _ rfl) (xm_inc _ rfl) 42 dJ6_stringSize_0f7a4_19 rfl (by decide) ?_
    refine xg_iload_n hC dJ6_stringSize_0f7a4_22 rfl ?_
    refine xg_iload_n hC dJ6_stringSize_0f7a4_23 rfl ?_
    by_cases h1 : w < 10
    · refine xg_icmp_leN hC ⟨by omega, by omega⟩ (xm_inc _ rfl) 31 dJ6_stringSize_0f7a4_24 rfl (by omega) ?_
      refine xg_iload_n hC dJ6_stringSize_0f7a4_27 rfl ?_
      refine xg_iload_n hC dJ6_stringSize_0f7a4_28 rfl ?_
      refine xg_iadd hC dJ6_stringSize_0f7a4_29 ?_
      refine xg_top (w := ((xm_dg w : Nat) : Int)) (by rw [show xm_w (((1 : Int)) + (0 : Int)) = 1 from by decide +kernel]; unfold xm_dg; (repeat' split) <;> omega) ?_
      exact xg_iret hC hQ ⟨by unfold xm_dg; (repeat' split) <;> omega, by unfold xm_dg; (repeat' split) <;> omega⟩ dJ6_stringSize_0f7a4_30
    · refine xg_icmp_leJ hC ⟨by omega, by omega⟩ (xm_inc _ rfl) 31 dJ6_stringSize_0f7a4_24 rfl (by omega) ?_
      refine xg_bipush hC dJ6_stringSize_0f7a4_31 (by decide) ?_
      refine xg_iload_n hC dJ6_stringSize_0f7a4_33 rfl ?_
      refine xg_imul hC dJ6_stringSize_0f7a4_34 ?_
      refine xg_top (w := (-100 : Int)) (by decide +kernel) ?_
      refine xg_istore_n hC (l' := [(2, .int (xm_J (-100 : Int))), (3, .int (xm_J (1 : Int))), (0, .int (xm_J (-(w : Int)))), (1, .int (xm_J (0 : Int)))]) dJ6_stringSize_0f7a4_35 (by decide) rfl ?_
      refine xg_iinc hC (l' := [(3, .int (xm_J (xm_w ((1 : Int) + 1)))), (2, .int (xm_J (-100 : Int))), (0, .int (xm_J (-(w : Int)))), (1, .int (xm_J (0 : Int)))]) dJ6_stringSize_0f7a4_36 (by decide) 1 rfl rfl ?_
      refine xg_pick [0, 1, 2, 3] (l' := [(3, .int (xm_J (2 : Int))), (2, .int (xm_J (-100 : Int))), (0, .int (xm_J (-(w : Int)))), (1, .int (xm_J (0 : Int)))]) (by rw [show xm_w (((1 : Int)) + 1) = 2 from by decide +kernel]; rfl) ?_
      refine xg_goto hC 16 dJ6_stringSize_0f7a4_39 rfl ?_
      refine xg_iload_n hC dJ6_stringSize_0f7a4_16 rfl ?_
      refine xg_bipush hC dJ6_stringSize_0f7a4_17 (by decide) ?_
      refine xg_icmp_geN hC (xm_inc _ rfl) (xm_inc _ rfl) 42 dJ6_stringSize_0f7a4_19 rfl (by decide) ?_
      refine xg_iload_n hC dJ6_stringSize_0f7a4_22 rfl ?_
      refine xg_iload_n hC dJ6_stringSize_0f7a4_23 rfl ?_
      by_cases h2 : w < 100
      · refine xg_icmp_leN hC ⟨by omega, by omega⟩ (xm_inc _ rfl) 31 dJ6_stringSize_0f7a4_24 rfl (by omega) ?_
        refine xg_iload_n hC dJ6_stringSize_0f7a4_27 rfl ?_
        refine xg_iload_n hC dJ6_stringSize_0f7a4_28 rfl ?_
        refine xg_iadd hC dJ6_stringSize_0f7a4_29 ?_
        refine xg_top (w := ((xm_dg w : Nat) : Int)) (by rw [show xm_w (((2 : Int)) + (0 : Int)) = 2 from by decide +kernel]; unfold xm_dg; (repeat' split) <;> omega) ?_
        exact xg_iret hC hQ ⟨by unfold xm_dg; (repeat' split) <;> omega, by unfold xm_dg; (repeat' split) <;> omega⟩ dJ6_stringSize_0f7a4_30
      · refine xg_icmp_leJ hC ⟨by omega, by omega⟩ (xm_inc _ rfl) 31 dJ6_stringSize_0f7a4_24 rfl (by omega) ?_
        refine xg_bipush hC dJ6_stringSize_0f7a4_31 (by decide) ?_
        refine xg_iload_n hC dJ6_stringSize_0f7a4_33 rfl ?_
        refine xg_imul hC dJ6_stringSize_0f7a4_34 ?_
        refine xg_top (w := (-1000 : Int)) (by decide +kernel) ?_
        refine xg_istore_n hC (l' := [(2, .int (xm_J (-1000 : Int))), (3, .int (xm_J (2 : Int))), (0, .int (xm_J (-(w : Int)))), (1, .int (xm_J (0 : Int)))]) dJ6_stringSize_0f7a4_35 (by decide) rfl ?_
        refine xg_iinc hC (l' := [(3, .int (xm_J (xm_w ((2 : Int) + 1)))), (2, .int (xm_J (-1000 : Int))), (0, .int (xm_J (-(w : Int)))), (1, .int (xm_J (0 : Int)))]) dJ6_stringSize_0f7a4_36 (by decide) 1 rfl rfl ?_
        refine xg_pick [0, 1, 2, 3] (l' := [(3, .int (xm_J (3 : Int))), (2, .int (xm_J (-1000 : Int))), (0, .int (xm_J (-(w : Int)))), (1, .int (xm_J (0 : Int)))]) (by rw [show xm_w (((2 : Int)) + 1) = 3 from by decide +kernel]; rfl) ?_
        refine xg_goto hC 16 dJ6_stringSize_0f7a4_39 rfl ?_
        refine xg_iload_n hC dJ6_stringSize_0f7a4_16 rfl ?_
        refine xg_bipush hC dJ6_stringSize_0f7a4_17 (by decide) ?_
        refine xg_icmp_geN hC (xm_inc _ rfl) (xm_inc _ rfl) 42 dJ6_stringSize_0f7a4_19 rfl (by decide) ?_
        refine xg_iload_n hC dJ6_stringSize_0f7a4_22 rfl ?_
        refine xg_iload_n hC dJ6_stringSize_0f7a4_23 rfl ?_
        by_cases h3 : w < 1000
        · refine xg_icmp_leN hC ⟨by omega, by omega⟩ (xm_inc _ rfl) 31 dJ6_stringSize_0f7a4_24 rfl (by omega) ?_
          refine xg_iload_n hC dJ6_stringSize_0f7a4_27 rfl ?_
          refine xg_iload_n hC dJ6_stringSize_0f7a4_28 rfl ?_
          refine xg_iadd hC dJ6_stringSize_0f7a4_29 ?_
          refine xg_top (w := ((xm_dg w : Nat) : Int)) (by rw [show xm_w (((3 : Int)) + (0 : Int)) = 3 from by decide +kernel]; unfold xm_dg; (repeat' split) <;> omega) ?_
          exact xg_iret hC hQ ⟨by unfold xm_dg; (repeat' split) <;> omega, by unfold xm_dg; (repeat' split) <;> omega⟩ dJ6_stringSize_0f7a4_30
        · refine xg_icmp_leJ hC ⟨by omega, by omega⟩ (xm_inc _ rfl) 31 dJ6_stringSize_0f7a4_24 rfl (by omega) ?_
          refine xg_bipush hC dJ6_stringSize_0f7a4_31 (by decide) ?_
          refine xg_iload_n hC dJ6_stringSize_0f7a4_33 rfl ?_
          refine xg_imul hC dJ6_stringSize_0f7a4_34 ?_
          refine xg_top (w := (-10000 : Int)) (by decide +kernel) ?_
          refine xg_istore_n hC (l' := [(2, .int (xm_J (-10000 : Int))), (3, .int (xm_J (3 : Int))), (0, .int (xm_J (-(w : Int)))), (1, .int (xm_J (0 : Int)))]) dJ6_stringSize_0f7a4_35 (by decide) rfl ?_
          refine xg_iinc hC (l' := [(3, .int (xm_J (xm_w ((3 : Int) + 1)))), (2, .int (xm_J (-10000 : Int))), (0, .int (xm_J (-(w : Int)))), (1, .int (xm_J (0 : Int)))]) dJ6_stringSize_0f7a4_36 (by decide) 1 rfl rfl ?_
          refine xg_pick [0, 1, 2, 3] (l' := [(3, .int (xm_J (4 : Int))), (2, .int (xm_J (-10000 : Int))), (0, .int (xm_J (-(w : Int)))), (1, .int (xm_J (0 : Int)))]) (by rw [show xm_w (((3 : Int)) + 1) = 4 from by decide +kernel]; rfl) ?_
          refine xg_goto hC 16 dJ6_stringSize_0f7a4_39 rfl ?_
          refine xg_iload_n hC dJ6_stringSize_0f7a4_16 rfl ?_
          refine xg_bipush hC dJ6_stringSize_0f7a4_17 (by decide) ?_
          refine xg_icmp_geN hC (xm_inc _ rfl) (xm_inc _ rfl) 42 dJ6_stringSize_0f7a4_19 rfl (by decide) ?_
          refine xg_iload_n hC dJ6_stringSize_0f7a4_22 rfl ?_
          refine xg_iload_n hC dJ6_stringSize_0f7a4_23 rfl ?_
          by_cases h4 : w < 10000
          · refine xg_icmp_leN hC ⟨by omega, by omega⟩ (xm_inc _ rfl) 31 dJ6_stringSize_0f7a4_24 rfl (by omega) ?_
            refine xg_iload_n hC dJ6_stringSize_0f7a4_27 rfl ?_
            refine xg_iload_n hC dJ6_stringSize_0f7a4_28 rfl ?_
            refine xg_iadd hC dJ6_stringSize_0f7a4_29 ?_
            refine xg_top (w := ((xm_dg w : Nat) : Int)) (by rw [show xm_w (((4 : Int)) + (0 : Int)) = 4 from by decide +kernel]; unfold xm_dg; (repeat' split) <;> omega) ?_
            exact xg_iret hC hQ ⟨by unfold xm_dg; (repeat' split) <;> omega, by unfold xm_dg; (repeat' split) <;> omega⟩ dJ6_stringSize_0f7a4_30
          · refine xg_icmp_leJ hC ⟨by omega, by omega⟩ (xm_inc _ rfl) 31 dJ6_stringSize_0f7a4_24 rfl (by omega) ?_
            refine xg_bipush hC dJ6_stringSize_0f7a4_31 (by decide) ?_
            refine xg_iload_n hC dJ6_stringSize_0f7a4_33 rfl ?_
            refine xg_imul hC dJ6_stringSize_0f7a4_34 ?_
            refine xg_top (w := (-100000 : Int)) (by decide +kernel) ?_
            refine xg_istore_n hC (l' := [(2, .int (xm_J (-100000 : Int))), (3, .int (xm_J (4 : Int))), (0, .int (xm_J (-(w : Int)))), (1, .int (xm_J (0 : Int)))]) dJ6_stringSize_0f7a4_35 (by decide) rfl ?_
            refine xg_iinc hC (l' := [(3, .int (xm_J (xm_w ((4 : Int) + 1)))), (2, .int (xm_J (-100000 : Int))), (0, .int (xm_J (-(w : Int)))), (1, .int (xm_J (0 : Int)))]) dJ6_stringSize_0f7a4_36 (by decide) 1 rfl rfl ?_
            refine xg_pick [0, 1, 2, 3] (l' := [(3, .int (xm_J (5 : Int))), (2, .int (xm_J (-100000 : Int))), (0, .int (xm_J (-(w : Int)))), (1, .int (xm_J (0 : Int)))]) (by rw [show xm_w (((4 : Int)) + 1) = 5 from by decide +kernel]; rfl) ?_
            refine xg_goto hC 16 dJ6_stringSize_0f7a4_39 rfl ?_
            refine xg_iload_n hC dJ6_stringSize_0f7a4_16 rfl ?_
            refine xg_bipush hC dJ6_stringSize_0f7a4_17 (by decide) ?_
            refine xg_icmp_geN hC (xm_inc _ rfl) (xm_inc _ rfl) 42 dJ6_stringSize_0f7a4_19 rfl (by decide) ?_
            refine xg_iload_n hC dJ6_stringSize_0f7a4_22 rfl ?_
            refine xg_iload_n hC dJ6_stringSize_0f7a4_23 rfl ?_
            refine xg_icmp_leN hC ⟨by omega, by omega⟩ (xm_inc _ rfl) 31 dJ6_stringSize_0f7a4_24 rfl (by omega) ?_
            refine xg_iload_n hC dJ6_stringSize_0f7a4_27 rfl ?_
            refine xg_iload_n hC dJ6_stringSize_0f7a4_28 rfl ?_
            refine xg_iadd hC dJ6_stringSize_0f7a4_29 ?_
            refine xg_top (w := ((xm_dg w : Nat) : Int)) (by rw [show xm_w (((5 : Int)) + (0 : Int)) = 5 from by decide +kernel]; unfold xm_dg; (repeat' split) <;> omega) ?_
            exact xg_iret hC hQ ⟨by unfold xm_dg; (repeat' split) <;> omega, by unfold xm_dg; (repeat' split) <;> omega⟩ dJ6_stringSize_0f7a4_30) _ rfl
theorem mj_gcl {X : xm_X} {I : xm_Mem → Prop} {v n : Nat} (hC : xm_C X RJ6 cJ6_getChars_ba4f3 7 1 0 0) (hQ : xm_Rt X 1 (some .int) 0 0) (hI : xx_I X = I) (hJ : xm_JI I) (hl : xm_lay v = (6, n)) (hn : n ≤ 34) (hv : 84 ≤ v ∧ v ≤ 89) : ∀ (f : Nat) (σ : xm_Mem) (q w : Nat), w ≤ 99999 → 1 ≤ f ∧ w < 10 ^ (2 * f) → xm_dg w ≤ q → q ≤ n → v ≤ σ.2.2 → xm_V X 0 0 (some (xm_gc v f σ q w, ((q - xm_dg w : Nat) : Int))) σ 22 [(0, .int (xm_J (-(w : Int)))), (2, .ref (xm_ad (xx_G X) v)), (5, .int (xm_J (q : Int))), (6, .int (xm_J (0 : Int)))] [] := by
  intro f
  induction f with
  | zero =>
    intro σ q w hw h1 h2 h3 h4
    exact absurd h1.1 (by decide)
  | succ f ih =>
    intro σ q w hw h1 h2 h3 h4
    have ha : 1 ≤ v ∧ v ≤ σ.2.2 := ⟨by omega, h4⟩
    have hd1 := xm_dg_pos w
    refine xg_iload_n hC dJ6_getChars_ba4f3_22 rfl ?_
    refine xg_bipush hC dJ6_getChars_ba4f3_23 (by decide) ?_
    by_cases h100 : w < 100
    · refine xg_icmp_gtJ hC ⟨by omega, by omega⟩ (xm_inc _ rfl) 72 dJ6_getChars_ba4f3_25 rfl (by omega) ?_
      refine xg_aload_n hC dJ6_getChars_ba4f3_72 rfl ?_
      refine xg_iinc hC (l' := [(5, .int (xm_J (xm_w ((q : Int) + (-1))))), (0, .int (xm_J (-(w : Int)))), (2, .ref (xm_ad (xx_G X) v)), (6, .int (xm_J (0 : Int)))]) dJ6_getChars_ba4f3_73 (by decide) 2 rfl rfl ?_
      refine xg_pick [0, 1, 2, 3] (l' := [(5, .int (xm_J ((q - 1 : Nat) : Int))), (0, .int (xm_J (-(w : Int)))), (2, .ref (xm_ad (xx_G X) v)), (6, .int (xm_J (0 : Int)))]) (by rw [show xm_w ((q : Int) + (-1)) = ((q - 1 : Nat) : Int) from by rw [xp_w (by omega) (by omega)]; omega]; rfl) ?_
      refine xg_iload hC dJ6_getChars_ba4f3_76 rfl ?_
      refine xg_gd1 hC dJ6_getChars_ba4f3_78 ?_
      refine xg_iload_n hC dJ6_getChars_ba4f3_81 rfl ?_
      refine xg_ineg hC dJ6_getChars_ba4f3_82 ?_
      refine xg_top (w := ((w : Nat) : Int)) (xm_negn hw) ?_
      refine xg_dr1 hC (i := w) (by omega) dJ6_getChars_ba4f3_83 ?_
      refine xg_bast hC hl ha ⟨by omega, by omega⟩ ⟨by omega, by omega⟩ ⟨by omega, by omega⟩ (xm_kp84 hI hJ hv) dJ6_getChars_ba4f3_84 ?_
      rw [Int.toNat_natCast]
      refine xg_iload_n hC dJ6_getChars_ba4f3_85 rfl ?_
      refine xg_bipush hC dJ6_getChars_ba4f3_86 (by decide) ?_
      by_cases h10 : w < 10
      · have e : xm_gc v (f + 1) σ q w = xm_u1 σ v (q - 1) (48 + ((w % 10 : Nat) : Int)) := by rw [xm_gc, if_pos h100, if_pos h10]
        rw [e]
        refine xg_icmp_geJ hC ⟨by omega, by omega⟩ (xm_inc _ rfl) 104 dJ6_getChars_ba4f3_88 rfl (by omega) ?_
        refine xg_iload hC dJ6_getChars_ba4f3_104 rfl ?_
        refine xg_if_eqJ hC (xm_inc _ rfl) 118 dJ6_getChars_ba4f3_106 rfl rfl ?_
        refine xg_iload hC dJ6_getChars_ba4f3_118 rfl ?_
        refine xg_top (w := ((q - xm_dg w : Nat) : Int)) (by have := xm_dg_small w; omega) ?_
        exact xg_iret hC hQ ⟨by omega, by omega⟩ dJ6_getChars_ba4f3_120
      · have e : xm_gc v (f + 1) σ q w = xm_u1 (xm_u1 σ v (q - 1) (48 + ((w % 10 : Nat) : Int))) v (q - 2) (48 + ((w / 10 : Nat) : Int)) := by rw [xm_gc, if_pos h100, if_neg h10]
        rw [e]
        have hd2 : 2 ≤ xm_dg w := by unfold xm_dg; (repeat' split) <;> omega
        refine xg_icmp_geN hC ⟨by omega, by omega⟩ (xm_inc _ rfl) 104 dJ6_getChars_ba4f3_88 rfl (by omega) ?_
        refine xg_aload_n hC dJ6_getChars_ba4f3_91 rfl ?_
        refine xg_iinc hC (l' := [(5, .int (xm_J (xm_w (((q - 1 : Nat) : Int) + (-1))))), (0, .int (xm_J (-(w : Int)))), (2, .ref (xm_ad (xx_G X) v)), (6, .int (xm_J (0 : Int)))]) dJ6_getChars_ba4f3_92 (by decide) 0 rfl rfl ?_
        refine xg_pick [0, 1, 2, 3] (l' := [(5, .int (xm_J ((q - 2 : Nat) : Int))), (0, .int (xm_J (-(w : Int)))), (2, .ref (xm_ad (xx_G X) v)), (6, .int (xm_J (0 : Int)))]) (by rw [show xm_w (((q - 1 : Nat) : Int) + (-1)) = ((q - 2 : Nat) : Int) from by rw [xp_w (by omega) (by omega)]; omega]; rfl) ?_
        refine xg_iload hC dJ6_getChars_ba4f3_95 rfl ?_
        refine xg_gd2 hC dJ6_getChars_ba4f3_97 ?_
        refine xg_iload_n hC dJ6_getChars_ba4f3_100 rfl ?_
        refine xg_ineg hC dJ6_getChars_ba4f3_101 ?_
        refine xg_top (w := ((w : Nat) : Int)) (xm_negn hw) ?_
        refine xg_dr2 hC (i := w) (by omega) dJ6_getChars_ba4f3_102 ?_
        refine xg_bast hC hl ha ⟨by omega, by omega⟩ ⟨by omega, by omega⟩ ⟨by omega, by omega⟩ (xm_kp84 hI hJ hv) dJ6_getChars_ba4f3_103 ?_
        rw [Int.toNat_natCast]
        refine xg_iload hC dJ6_getChars_ba4f3_104 rfl ?_
        refine xg_if_eqJ hC (xm_inc _ rfl) 118 dJ6_getChars_ba4f3_106 rfl rfl ?_
        refine xg_iload hC dJ6_getChars_ba4f3_118 rfl ?_
        refine xg_top (w := ((q - xm_dg w : Nat) : Int)) (by have := xm_dg_small w; omega) ?_
        exact xg_iret hC hQ ⟨by omega, by omega⟩ dJ6_getChars_ba4f3_120
    · have e : xm_gc v (f + 1) σ q w = xm_gc v f (xm_u1 (xm_u1 σ v (q - 1) (48 + ((w % 100 % 10 : Nat) : Int))) v (q - 2) (48 + ((w % 100 / 10 : Nat) : Int))) (q - 2) (w / 100) := by rw [xm_gc, if_neg h100]
      rw [e]
      have hd2 := xm_dg_100 w hw (by omega)
      have h5 : w < 10 ^ (2 * f) * 10 ^ 2 := by
        have h6 := h1.2
        rw [show 2 * (f + 1) = 2 * f + 2 by omega, Nat.pow_add] at h6
        exact h6
      have hf : 1 ≤ f := by
        rcases f with _ | f
        · simp at h5; omega
        · omega
      refine xg_icmp_gtN hC ⟨by omega, by omega⟩ (xm_inc _ rfl) 72 dJ6_getChars_ba4f3_25 rfl (by omega) ?_
      refine xg_iload_n hC dJ6_getChars_ba4f3_28 rfl ?_
      refine xg_bipush hC dJ6_getChars_ba4f3_29 (by decide) ?_
      refine xg_idiv hC dJ6_getChars_ba4f3_31 (by decide) ?_
      refine xg_top (w := (-((w / 100 : Nat) : Int))) (xm_div100 hw) ?_
      refine xg_istore_n hC (l' := [(3, .int (xm_J (-((w / 100 : Nat) : Int)))), (0, .int (xm_J (-(w : Int)))), (2, .ref (xm_ad (xx_G X) v)), (5, .int (xm_J (q : Int))), (6, .int (xm_J (0 : Int)))]) dJ6_getChars_ba4f3_32 (by decide) rfl ?_
      refine xg_iload_n hC dJ6_getChars_ba4f3_33 rfl ?_
      refine xg_bipush hC dJ6_getChars_ba4f3_34 (by decide) ?_
      refine xg_imul hC dJ6_getChars_ba4f3_36 ?_
      refine xg_iload_n hC dJ6_getChars_ba4f3_37 rfl ?_
      refine xg_isub hC dJ6_getChars_ba4f3_38 ?_
      refine xg_top (w := ((w % 100 : Nat) : Int)) (xm_mod100 hw) ?_
      refine xg_istore hC (l' := [(4, .int (xm_J ((w % 100 : Nat) : Int))), (3, .int (xm_J (-((w / 100 : Nat) : Int)))), (0, .int (xm_J (-(w : Int)))), (2, .ref (xm_ad (xx_G X) v)), (5, .int (xm_J (q : Int))), (6, .int (xm_J (0 : Int)))]) dJ6_getChars_ba4f3_39 (by decide) rfl ?_
      refine xg_iload_n hC dJ6_getChars_ba4f3_41 rfl ?_
      refine xg_istore_n hC (l' := [(0, .int (xm_J (-((w / 100 : Nat) : Int)))), (4, .int (xm_J ((w % 100 : Nat) : Int))), (3, .int (xm_J (-((w / 100 : Nat) : Int)))), (2, .ref (xm_ad (xx_G X) v)), (5, .int (xm_J (q : Int))), (6, .int (xm_J (0 : Int)))]) dJ6_getChars_ba4f3_42 (by decide) rfl ?_
      refine xg_aload_n hC dJ6_getChars_ba4f3_43 rfl ?_
      refine xg_iinc hC (l' := [(5, .int (xm_J (xm_w ((q : Int) + (-1))))), (0, .int (xm_J (-((w / 100 : Nat) : Int)))), (4, .int (xm_J ((w % 100 : Nat) : Int))), (3, .int (xm_J (-((w / 100 : Nat) : Int)))), (2, .ref (xm_ad (xx_G X) v)), (6, .int (xm_J (0 : Int)))]) dJ6_getChars_ba4f3_44 (by decide) 4 rfl rfl ?_
      refine xg_pick [0, 1, 2, 3, 4, 5] (l' := [(5, .int (xm_J ((q - 1 : Nat) : Int))), (0, .int (xm_J (-((w / 100 : Nat) : Int)))), (4, .int (xm_J ((w % 100 : Nat) : Int))), (3, .int (xm_J (-((w / 100 : Nat) : Int)))), (2, .ref (xm_ad (xx_G X) v)), (6, .int (xm_J (0 : Int)))]) (by rw [show xm_w ((q : Int) + (-1)) = ((q - 1 : Nat) : Int) from by rw [xp_w (by omega) (by omega)]; omega]; rfl) ?_
      refine xg_iload hC dJ6_getChars_ba4f3_47 rfl ?_
      refine xg_gd1 hC dJ6_getChars_ba4f3_49 ?_
      refine xg_iload hC dJ6_getChars_ba4f3_52 rfl ?_
      refine xg_dr1 hC (i := w % 100) (by omega) dJ6_getChars_ba4f3_54 ?_
      refine xg_bast hC hl ha ⟨by omega, by omega⟩ ⟨by omega, by omega⟩ ⟨by omega, by omega⟩ (xm_kp84 hI hJ hv) dJ6_getChars_ba4f3_55 ?_
      rw [Int.toNat_natCast]
      refine xg_aload_n hC dJ6_getChars_ba4f3_56 rfl ?_
      refine xg_iinc hC (l' := [(5, .int (xm_J (xm_w (((q - 1 : Nat) : Int) + (-1))))), (0, .int (xm_J (-((w / 100 : Nat) : Int)))), (4, .int (xm_J ((w % 100 : Nat) : Int))), (3, .int (xm_J (-((w / 100 : Nat) : Int)))), (2, .ref (xm_ad (xx_G X) v)), (6, .int (xm_J (0 : Int)))]) dJ6_getChars_ba4f3_57 (by decide) 0 rfl rfl ?_
      refine xg_pick [0, 1, 2, 3, 4, 5] (l' := [(5, .int (xm_J ((q - 2 : Nat) : Int))), (0, .int (xm_J (-((w / 100 : Nat) : Int)))), (4, .int (xm_J ((w % 100 : Nat) : Int))), (3, .int (xm_J (-((w / 100 : Nat) : Int)))), (2, .ref (xm_ad (xx_G X) v)), (6, .int (xm_J (0 : Int)))]) (by rw [show xm_w (((q - 1 : Nat) : Int) + (-1)) = ((q - 2 : Nat) : Int) from by rw [xp_w (by omega) (by omega)]; omega]; rfl) ?_
      refine xg_iload hC dJ6_getChars_ba4f3_60 rfl ?_
      refine xg_gd2 hC dJ6_getChars_ba4f3_62 ?_
      refine xg_iload hC dJ6_getChars_ba4f3_65 rfl ?_
      refine xg_dr2 hC (i := w % 100) (by omega) dJ6_getChars_ba4f3_67 ?_
      refine xg_bast hC hl ha ⟨by omega, by omega⟩ ⟨by omega, by omega⟩ ⟨by omega, by omega⟩ (xm_kp84 hI hJ hv) dJ6_getChars_ba4f3_68 ?_
      rw [Int.toNat_natCast]
      refine xg_goto hC 22 dJ6_getChars_ba4f3_69 rfl ?_
      refine xg_pick [1, 4, 0, 5] rfl ?_
      have K := ih (xm_u1 (xm_u1 σ v (q - 1) (48 + ((w % 100 % 10 : Nat) : Int))) v (q - 2) (48 + ((w % 100 / 10 : Nat) : Int))) (q - 2) (w / 100) (by omega) ⟨hf, Nat.div_lt_of_lt_mul (by omega)⟩ (by omega) (by omega) h4
      rw [show q - 2 - xm_dg (w / 100) = q - xm_dg w by omega] at K
      exact K
theorem mj_getC {w : Nat} (hJ : xm_JI I) (hl : xm_lay v = (6, n)) (hn : n ≤ 34) (hv : 84 ≤ v ∧ v ≤ 89) (hw : w ≤ 99999) (hdq : xm_dg w ≤ q) (hqn : q ≤ n) (h4 : v ≤ σ.2.2) : xm_M Γ I la yJ6_getChars_ba4f3 cJ6_getChars_ba4f3 7 (some .int) 1 0 0 [.int (xm_J (w : Int)), .int (xm_J (q : Int)), .ref (xm_ad Γ v)] σ 1 (xm_gc v 3 σ q w, ((q - xm_dg w : Nat) : Int)) :=
  xg_enter (by decide) (by simp [lg_sl, Value.category]) (fun X hG hI hla hC hQ hname => by
    subst hG
    subst hI
    have hI : xx_I X = xx_I X := rfl
    have hw9 : xm_in (w : Int) := ⟨by omega, by omega⟩
    have hq9 : xm_in (q : Int) := ⟨by omega, by omega⟩
    refine xg_pick [0, 1, 2] (l' := [(0, .int (xm_J (w : Int))), (1, .int (xm_J (q : Int))), (2, .ref (xm_ad (xx_G X) v))]) rfl ?_
    refine xg_iload_n hC dJ6_getChars_ba4f3_0 rfl ?_
    refine xg_istore hC (l' := [(5, .int (xm_J (q : Int))), (0, .int (xm_J (w : Int))), (1, .int (xm_J (q : Int))), (2, .ref (xm_ad (xx_G X) v))]) dJ6_getChars_ba4f3_1 (by decide) rfl ?_
    refine xg_iload_n hC dJ6_getChars_ba4f3_3 rfl ?_
    refine xg_if_geJ hC hw9 11 dJ6_getChars_ba4f3_4 rfl (by omega) ?_
    refine xg_iconst hC dJ6_getChars_ba4f3_11 ?_
    refine xg_istore hC (l' := [(6, .int (xm_J (0 : Int))), (5, .int (xm_J (q : Int))), (0, .int (xm_J (w : Int))), (1, .int (xm_J (q : Int))), (2, .ref (xm_ad (xx_G X) v))]) dJ6_getChars_ba4f3_12 (by decide) rfl ?_
    refine xg_iload hC dJ6_getChars_ba4f3_14 rfl ?_
    refine xg_if_neN hC (xm_inc _ rfl) 22 dJ6_getChars_ba4f3_16 rfl rfl ?_
    refine xg_iload_n hC dJ6_getChars_ba4f3_19 rfl ?_
    refine xg_ineg hC dJ6_getChars_ba4f3_20 ?_
    refine xg_top (w := (-(w : Int))) (xm_negw hw) ?_
    refine xg_istore_n hC (l' := [(0, .int (xm_J (-(w : Int)))), (6, .int (xm_J (0 : Int))), (5, .int (xm_J (q : Int))), (1, .int (xm_J (q : Int))), (2, .ref (xm_ad (xx_G X) v))]) dJ6_getChars_ba4f3_21 (by decide) rfl ?_
    refine xg_pick [0, 4, 2, 1] rfl ?_
    exact mj_gcl hC hQ hI hJ hl hn hv 3 σ q w hw ⟨by decide, by omega⟩ hdq hqn h4) _ rfl
theorem mj_appI {w : Nat} (hw : w ≤ 99999) (hJ : xm_JI I) (h : xm_SB σ v n c) (hlen : c + xm_dg w ≤ n) : xm_M Γ I la yJ5_append_c97b9 cJ5_append_c97b9 4 (some (.object "java/lang/AbstractStringBuilder")) 5 0 0 [.ref (xm_ad Γ 84), .int (xm_J (w : Int))] σ 7 (xm_u1 (xm_gc v 3 σ (c + xm_dg w) w) 84 3 ((c + xm_dg w : Nat) : Int), 0) :=
  xg_enter (by decide) (by simp [lg_sl, Value.category]) (fun X hG hI hla hC hQ hname => by
    subst hG
    subst hI
    have hI : xx_I X = xx_I X := rfl
    have hw9 : xm_in (w : Int) := ⟨by omega, by omega⟩
    have hn34 := h.2.2.2.2.2.2
    have hd1 := xm_dg_pos w
    refine xg_pick [0, 1] (l' := [(0, .ref (xm_ad (xx_G X) 84)), (1, .int (xm_J (w : Int)))]) rfl ?_
    refine xg_aload_n hC dJ5_append_c97b9_0 rfl ?_
    refine xg_getI hC (xm_h84 hI hJ) rfl xl_F_J5_79 dJ5_append_c97b9_1 (fun _ => ?_)
    refine xg_top h.2.2.1 ?_
    refine xg_istore_n hC (l' := [(2, .int (xm_J (c : Int))), (0, .ref (xm_ad (xx_G X) 84)), (1, .int (xm_J (w : Int)))]) dJ5_append_c97b9_4 (by decide) rfl ?_
    refine xg_iload_n hC dJ5_append_c97b9_5 rfl ?_
    refine xg_iload_n hC dJ5_append_c97b9_6 rfl ?_
    refine xg_callS1 hC (mj_size hw) xl_M_J5_245 xl_S_J6_stringSize_0f7a4 (by decide) ⟨by omega, by omega⟩ dJ5_append_c97b9_7 (rest := [.int (xm_J (c : Int))]) rfl rfl (by simp [Value.category]) rfl rfl (st2 := (fun o => [.int (xm_J o.2)] ++ [.int (xm_J (c : Int))])) (fun _ => rfl) (fun _ => ?_)
    try dsimp only
    refine xg_stk (st' := [.int (xm_J ((xm_dg w : Nat) : Int)), .int (xm_J (c : Int))]) rfl ?_
    refine xg_iadd hC dJ5_append_c97b9_10 ?_
    refine xg_top (w := ((c + xm_dg w : Nat) : Int)) (by rw [xp_w (by omega) (by omega)]; omega) ?_
    refine xg_istore_n hC (l' := [(3, .int (xm_J ((c + xm_dg w : Nat) : Int))), (2, .int (xm_J (c : Int))), (0, .ref (xm_ad (xx_G X) 84)), (1, .int (xm_J (w : Int)))]) dJ5_append_c97b9_11 (by decide) rfl ?_
    refine xg_aload_n hC dJ5_append_c97b9_12 rfl ?_
    refine xg_iload_n hC dJ5_append_c97b9_13 rfl ?_
    refine xg_callU1 hC (mj_ens0 (q := c + xm_dg w) hJ h hlen) xl_M_J5_100 xl_U_J5_ensureCapacityInternal_d00df xl_I_J5_ensureCapacityInternal_d00df xl_W_J5_ensureCapacityInternal_d00df rfl (xm_h84a hI hJ) (by decide) ⟨by omega, by omega⟩ dJ5_append_c97b9_14 (rest := []) rfl rfl (by simp [Value.category]) rfl rfl (st2 := (fun o => [] ++ [])) (fun _ => rfl) (fun _ => ?_)
    try dsimp only
    refine xg_stk (st' := []) rfl ?_
    refine xg_aload_n hC dJ5_append_c97b9_17 rfl ?_
    refine xg_callU1 hC (mj_isL hJ h) xl_M_J5_83 xl_U_J5_isLatin1_aae02 xl_I_J5_isLatin1_aae02 xl_W_J5_isLatin1_aae02 rfl (xm_h84a hI hJ) (by decide) ⟨by omega, by omega⟩ dJ5_append_c97b9_18 (rest := []) rfl rfl (by simp [Value.category]) rfl rfl (st2 := (fun o => [.int (xm_J o.2)] ++ [])) (fun _ => rfl) (fun _ => ?_)
    try dsimp only
    refine xg_stk (st' := [.int (xm_J (1 : Int))]) rfl ?_
    refine xg_if_eqN hC (xm_inc 1 rfl) 37 dJ5_append_c97b9_21 rfl (by decide) ?_
    refine xg_iload_n hC dJ5_append_c97b9_24 rfl ?_
    refine xg_iload_n hC dJ5_append_c97b9_25 rfl ?_
    refine xg_aload_n hC dJ5_append_c97b9_26 rfl ?_
    refine xg_getR hC (xm_h84 hI hJ) rfl xl_F_J5_15 dJ5_append_c97b9_27 (fun _ => ?_)
    refine xg_stk (st' := [.ref (xm_ad (xx_G X) v), .int (xm_J ((c + xm_dg w : Nat) : Int)), .int (xm_J (w : Int))]) (by rw [xm_rfv h]) ?_
    refine xg_callS1 hC (mj_getC (q := c + xm_dg w) hJ h.2.2.2.1 (by omega) h.2.2.2.2.1 hw (by omega) hlen h.2.2.2.2.2.1) xl_M_J5_248 xl_S_J6_getChars_ba4f3 (by decide) ⟨by omega, by omega⟩ dJ5_append_c97b9_30 (rest := []) rfl rfl (by simp [Value.category]) rfl rfl (st2 := (fun o => [.int (xm_J o.2)] ++ [])) (fun _ => rfl) (fun _ => ?_)
    try dsimp only
    refine xg_stk (st' := [.int (xm_J ((c + xm_dg w - xm_dg w : Nat) : Int))]) rfl ?_
    refine xg_pop hC dJ5_append_c97b9_33 rfl ?_
    refine xg_goto hC 48 dJ5_append_c97b9_34 rfl ?_
    refine xg_aload_n hC dJ5_append_c97b9_48 rfl ?_
    refine xg_iload_n hC dJ5_append_c97b9_49 rfl ?_
    refine xg_putI hC (xm_h84 hI hJ) rfl rfl ⟨by omega, by omega⟩ (xm_kp84 hI hJ (by decide)) xl_F_J5_79 dJ5_append_c97b9_50 ?_
    refine xg_aload_n hC dJ5_append_c97b9_53 rfl ?_
    exact xg_aret (rk := 7) (v := 0) hC hQ (Or.inl ⟨_, rfl⟩) rfl trivial dJ5_append_c97b9_54) _ rfl
theorem mb_appI {w : Nat} (hw : w ≤ 99999) (hJ : xm_JI I) (h : xm_SB σ v n c) (hlen : c + xm_dg w ≤ n) : xm_M Γ I la yJ4_append_bf812 cJ4_append_bf812 2 (some (.object "java/lang/StringBuilder")) 6 0 0 [.ref (xm_ad Γ 84), .int (xm_J (w : Int))] σ 7 (xm_u1 (xm_gc v 3 σ (c + xm_dg w) w) 84 3 ((c + xm_dg w : Nat) : Int), 0) :=
  xg_enter (by decide) (by simp [lg_sl, Value.category]) (fun X hG hI hla hC hQ hname => by
    subst hG
    subst hI
    have hI : xx_I X = xx_I X := rfl
    have hw9 : xm_in (w : Int) := ⟨by omega, by omega⟩
    refine xg_pick [0, 1] (l' := [(0, .ref (xm_ad (xx_G X) 84)), (1, .int (xm_J (w : Int)))]) rfl ?_
    refine xg_aload_n hC dJ4_append_bf812_0 rfl ?_
    refine xg_iload_n hC dJ4_append_bf812_1 rfl ?_
    refine xg_callSU1 hC (mj_appI hw hJ h hlen) xl_M_J4_53 xl_U_J5_append_c97b9 xl_I_J5_append_c97b9 xl_SU (by decide) rfl (xm_h84a hI hJ) (by decide) ⟨by omega, by omega⟩ dJ4_append_bf812_2 (rest := []) rfl rfl (by simp [Value.category]) rfl rfl (st2 := (fun o => [.ref (xm_ad (xx_G X) 84)] ++ [])) (fun _ => rfl) (fun _ => ?_)
    try dsimp only
    refine xg_stk (st' := [.ref (xm_ad (xx_G X) 84)]) rfl ?_
    refine xg_pop hC dJ4_append_bf812_5 rfl ?_
    refine xg_aload_n hC dJ4_append_bf812_6 rfl ?_
    exact xg_aret (rk := 7) (v := 0) hC hQ (Or.inl ⟨_, rfl⟩) rfl trivial dJ4_append_bf812_7) _ rfl
theorem mj_len (hJ : xm_JI I) (h : xm_SB σ v n c) : xm_M Γ I la yJ5_length_8abf5 cJ5_length_8abf5 1 (some .int) 1 0 0 [.ref (xm_ad Γ 84)] σ 1 (σ, (c : Int)) :=
  xg_enter (by decide) (by simp [lg_sl, Value.category]) (fun X hG hI hla hC hQ hname => by
    subst hG
    subst hI
    have hI : xx_I X = xx_I X := rfl
    refine xg_pick [0] (l' := [(0, .ref (xm_ad (xx_G X) 84))]) rfl ?_
    refine xg_aload_n hC dJ5_length_8abf5_0 rfl ?_
    refine xg_getI hC (xm_h84 hI hJ) rfl xl_F_J5_79 dJ5_length_8abf5_1 (fun _ => ?_)
    refine xg_top h.2.2.1 ?_
    exact xg_iret hC hQ (xm_c34 h) dJ5_length_8abf5_4) _ rfl
theorem mb_len (hJ : xm_JI I) (h : xm_SB σ v n c) : xm_M Γ I la yJ4_length_8abf5 cJ4_length_8abf5 1 (some .int) 2 0 0 [.ref (xm_ad Γ 84)] σ 1 (σ, (c : Int)) :=
  xg_enter (by decide) (by simp [lg_sl, Value.category]) (fun X hG hI hla hC hQ hname => by
    subst hG
    subst hI
    have hI : xx_I X = xx_I X := rfl
    refine xg_pick [0] (l' := [(0, .ref (xm_ad (xx_G X) 84))]) rfl ?_
    refine xg_aload_n hC dJ4_length_8abf5_0 rfl ?_
    refine xg_callSU1 hC (mj_len hJ h) xl_M_J4_343 xl_U_J5_length_8abf5 xl_I_J5_length_8abf5 xl_SU (by decide) rfl (xm_h84a hI hJ) (by decide) ⟨by omega, by omega⟩ dJ4_length_8abf5_1 (rest := []) rfl rfl (by simp [Value.category]) rfl rfl (st2 := (fun o => [.int (xm_J o.2)] ++ [])) (fun _ => rfl) (fun _ => ?_)
    try dsimp only
    refine xg_stk (st' := [.int (xm_J (c : Int))]) rfl ?_
    exact xg_iret hC hQ (xm_c34 h) dJ4_length_8abf5_4) _ rfl
theorem mj_chr {i : Nat} (hJ : xm_JI I) (h : xm_SB σ v n c) (hi : i < c) : xm_M Γ I la yJ5_charAt_5068e cJ5_charAt_5068e 5 (some .char) 3 0 0 [.ref (xm_ad Γ 84), .int (xm_J (i : Int))] σ 1 (σ, σ.1 v i) :=
  xg_enter (by decide) (by simp [lg_sl, Value.category]) (fun X hG hI hla hC hQ hname => by
    subst hG
    subst hI
    have hI : xx_I X = xx_I X := rfl
    have hn34 := h.2.2.2.2.2.2
    have hi9 : xm_in (i : Int) := ⟨by omega, by omega⟩
    refine xg_pick [0, 1] (l' := [(0, .ref (xm_ad (xx_G X) 84)), (1, .int (xm_J (i : Int)))]) rfl ?_
    refine xg_aload_n hC dJ5_charAt_5068e_0 rfl ?_
    refine xg_getB hC (xm_h84 hI hJ) rfl xl_F_J5_22 dJ5_charAt_5068e_1 (fun _ => ?_)
    refine xg_top h.2.1 ?_
    refine xg_istore_n hC (l' := [(2, .int (xm_J (0 : Int))), (0, .ref (xm_ad (xx_G X) 84)), (1, .int (xm_J (i : Int)))]) dJ5_charAt_5068e_4 (by decide) rfl ?_
    refine xg_aload_n hC dJ5_charAt_5068e_5 rfl ?_
    refine xg_getR hC (xm_h84 hI hJ) rfl xl_F_J5_15 dJ5_charAt_5068e_6 (fun _ => ?_)
    refine xg_stk (st' := [.ref (xm_ad (xx_G X) v)]) (by rw [xm_rfv h]) ?_
    refine xg_astore_n hC (l' := [(3, .ref (xm_ad (xx_G X) v)), (2, .int (xm_J (0 : Int))), (0, .ref (xm_ad (xx_G X) 84)), (1, .int (xm_J (i : Int)))]) dJ5_charAt_5068e_9 (by decide) rfl ?_
    refine xg_aload_n hC dJ5_charAt_5068e_10 rfl ?_
    refine xg_getI hC (xm_h84 hI hJ) rfl xl_F_J5_79 dJ5_charAt_5068e_11 (fun _ => ?_)
    refine xg_top h.2.2.1 ?_
    refine xg_aload_n hC dJ5_charAt_5068e_14 rfl ?_
    refine xg_balen hC h.2.2.2.1 (xm_va h) dJ5_charAt_5068e_15 ?_
    refine xg_iload_n hC dJ5_charAt_5068e_16 rfl ?_
    refine xg_ishr hC dJ5_charAt_5068e_17 ?_
    refine xg_top (w := (n : Int)) (xm_shr34 h) ?_
    refine xg_min hC (xm_c34 h) (xm_n34 h) (by decide) xl_M_J5_138 ⟨by omega, by omega⟩ (by simp [Value.category]) dJ5_charAt_5068e_18 ?_
    refine xg_top (w := (c : Int)) (by unfold xm_min; split <;> omega) ?_
    refine xg_istore hC (l' := [(4, .int (xm_J (c : Int))), (3, .ref (xm_ad (xx_G X) v)), (2, .int (xm_J (0 : Int))), (0, .ref (xm_ad (xx_G X) 84)), (1, .int (xm_J (i : Int)))]) dJ5_charAt_5068e_21 (by decide) rfl ?_
    refine xg_iload_n hC dJ5_charAt_5068e_23 rfl ?_
    refine xg_iload hC dJ5_charAt_5068e_24 rfl ?_
    refine xg_callS1 hC (mj_checkIndex hi9 (xm_c34 h) _ (by rw [if_neg (by omega), if_pos (by omega)]; rfl)) xl_M_J5_144 xl_S_J0_checkIndex_df160 (by decide) ⟨by omega, by omega⟩ dJ5_charAt_5068e_26 (rest := []) rfl rfl (by simp [Value.category]) rfl rfl (st2 := (fun o => [] ++ [])) (fun _ => rfl) (fun _ => ?_)
    try dsimp only
    refine xg_stk (st' := []) rfl ?_
    refine xg_iload_n hC dJ5_charAt_5068e_29 rfl ?_
    refine xg_if_neN hC xm_in0 42 dJ5_charAt_5068e_30 rfl rfl ?_
    refine xg_aload_n hC dJ5_charAt_5068e_33 rfl ?_
    refine xg_iload_n hC dJ5_charAt_5068e_34 rfl ?_
    refine xg_bald hC h.2.2.2.1 (xm_va h) hi9 ⟨by omega, by omega⟩ dJ5_charAt_5068e_35 (fun hb => ?_)
    rw [Int.toNat_natCast] at hb ⊢
    refine xg_sipush hC dJ5_charAt_5068e_36 (by decide) ?_
    refine xg_bchr hC hb dJ5_charAt_5068e_39 dJ5_charAt_5068e_40 ?_
    exact xg_nret hC hQ ⟨by omega, by omega⟩ (xm_cn hb) dJ5_charAt_5068e_41) _ rfl
theorem mb_chr {i : Nat} (hJ : xm_JI I) (h : xm_SB σ v n c) (hi : i < c) (hby : 0 ≤ σ.1 v i ∧ σ.1 v i ≤ 127) : xm_M Γ I la yJ4_charAt_5068e cJ4_charAt_5068e 2 (some .char) 4 0 0 [.ref (xm_ad Γ 84), .int (xm_J (i : Int))] σ 1 (σ, σ.1 v i) :=
  xg_enter (by decide) (by simp [lg_sl, Value.category]) (fun X hG hI hla hC hQ hname => by
    subst hG
    subst hI
    have hI : xx_I X = xx_I X := rfl
    have hn34 := h.2.2.2.2.2.2
    have hi9 : xm_in (i : Int) := ⟨by omega, by omega⟩
    refine xg_pick [0, 1] (l' := [(0, .ref (xm_ad (xx_G X) 84)), (1, .int (xm_J (i : Int)))]) rfl ?_
    refine xg_aload_n hC dJ4_charAt_5068e_0 rfl ?_
    refine xg_iload_n hC dJ4_charAt_5068e_1 rfl ?_
    refine xg_callSU1 hC (mj_chr hJ h hi) xl_M_J4_329 xl_U_J5_charAt_5068e xl_I_J5_charAt_5068e xl_SU (by decide) rfl (xm_h84a hI hJ) (by decide) ⟨by omega, by omega⟩ dJ4_charAt_5068e_2 (rest := []) rfl rfl (by simp [Value.category]) rfl rfl (st2 := (fun o => [.int (xm_J o.2)] ++ [])) (fun _ => rfl) (fun _ => ?_)
    try dsimp only
    refine xg_stk (st' := [.int (xm_J (σ.1 v i))]) rfl ?_
    exact xg_nret hC hQ ⟨by omega, by omega⟩ (xm_cn hby) dJ4_charAt_5068e_5) _ rfl
theorem mj_set0 (hJ : xm_JI I) (h : xm_SB σ v n c) : xm_M Γ I la yJ5_setLength_d00df cJ5_setLength_d00df 2 none 5 0 0 [.ref (xm_ad Γ 84), .int (xm_J (0 : Int))] σ 0 (xm_u1 (if c = 0 then σ else xm_u1 σ 84 2 1) 84 3 0, 0) :=
  xg_enter (by decide) (by simp [lg_sl, Value.category]) (fun X hG hI hla hC hQ hname => by
    subst hG
    subst hI
    have hI : xx_I X = xx_I X := rfl
    have hn34 := h.2.2.2.2.2.2
    refine xg_pick [0, 1] (l' := [(0, .ref (xm_ad (xx_G X) 84)), (1, .int (xm_J (0 : Int)))]) rfl ?_
    refine xg_iload_n hC dJ5_setLength_d00df_0 rfl ?_
    refine xg_if_geJ hC (xm_inc _ rfl) 13 dJ5_setLength_d00df_1 rfl (by decide) ?_
    refine xg_aload_n hC dJ5_setLength_d00df_13 rfl ?_
    refine xg_iload_n hC dJ5_setLength_d00df_14 rfl ?_
    refine xg_stk (st' := [.int (xm_J ((0 : Nat) : Int)), .ref (xm_ad (xx_G X) 84)]) rfl ?_
    refine xg_callU1 hC (mj_ens0 (q := 0) hJ h (Nat.zero_le _)) xl_M_J5_100 xl_U_J5_ensureCapacityInternal_d00df xl_I_J5_ensureCapacityInternal_d00df xl_W_J5_ensureCapacityInternal_d00df rfl (xm_h84a hI hJ) (by decide) ⟨by omega, by omega⟩ dJ5_setLength_d00df_15 (rest := []) rfl rfl (by simp [Value.category]) rfl rfl (st2 := (fun o => [] ++ [])) (fun _ => rfl) (fun _ => ?_)
    try dsimp only
    refine xg_stk (st' := []) rfl ?_
    refine xg_aload_n hC dJ5_setLength_d00df_18 rfl ?_
    refine xg_getI hC (xm_h84 hI hJ) rfl xl_F_J5_79 dJ5_setLength_d00df_19 (fun _ => ?_)
    refine xg_top h.2.2.1 ?_
    refine xg_iload_n hC dJ5_setLength_d00df_22 rfl ?_
    refine xg_icmp_geJ hC (xm_c34 h) (xm_inc _ rfl) 63 dJ5_setLength_d00df_23 rfl (by omega) ?_
    refine xg_aload_n hC dJ5_setLength_d00df_63 rfl ?_
    refine xg_getI hC (xm_h84 hI hJ) rfl xl_F_J5_79 dJ5_setLength_d00df_64 (fun _ => ?_)
    refine xg_top h.2.2.1 ?_
    refine xg_iload_n hC dJ5_setLength_d00df_67 rfl ?_
    by_cases hc0 : c = 0
    · rw [if_pos hc0]
      refine xg_icmp_leJ hC (xm_c34 h) (xm_inc _ rfl) 76 dJ5_setLength_d00df_68 rfl (by omega) ?_
      refine xg_aload_n hC dJ5_setLength_d00df_76 rfl ?_
      refine xg_iload_n hC dJ5_setLength_d00df_77 rfl ?_
      exact xg_putI hC (xm_h84 hI hJ) rfl rfl xm_in0 (xm_kp84 hI hJ (by decide)) xl_F_J5_79 dJ5_setLength_d00df_78 (xg_vret hC hQ dJ5_setLength_d00df_81)
    · rw [if_neg hc0]
      refine xg_icmp_leN hC (xm_c34 h) (xm_inc _ rfl) 76 dJ5_setLength_d00df_68 rfl (by omega) ?_
      refine xg_aload_n hC dJ5_setLength_d00df_71 rfl ?_
      refine xg_iconst hC dJ5_setLength_d00df_72 ?_
      refine xg_putZ hC (xm_h84 hI hJ) rfl rfl (by decide) (xm_kp84 hI hJ (by decide)) xl_F_J5_73 dJ5_setLength_d00df_73 ?_
      refine xg_aload_n hC dJ5_setLength_d00df_76 rfl ?_
      refine xg_iload_n hC dJ5_setLength_d00df_77 rfl ?_
      exact xg_putI hC (xm_h84 hI hJ) rfl rfl xm_in0 (xm_kp84 hI hJ (by decide)) xl_F_J5_79 dJ5_setLength_d00df_78 (xg_vret hC hQ dJ5_setLength_d00df_81)) _ rfl
theorem mb_set0 (hJ : xm_JI I) (h : xm_SB σ v n c) : xm_M Γ I la yJ4_setLength_d00df cJ4_setLength_d00df 2 none 6 0 0 [.ref (xm_ad Γ 84), .int (xm_J (0 : Int))] σ 0 (xm_u1 (if c = 0 then σ else xm_u1 σ 84 2 1) 84 3 0, 0) :=
  xg_enter (by decide) (by simp [lg_sl, Value.category]) (fun X hG hI hla hC hQ hname => by
    subst hG
    subst hI
    have hI : xx_I X = xx_I X := rfl
    refine xg_pick [0, 1] (l' := [(0, .ref (xm_ad (xx_G X) 84)), (1, .int (xm_J (0 : Int)))]) rfl ?_
    refine xg_aload_n hC dJ4_setLength_d00df_0 rfl ?_
    refine xg_iload_n hC dJ4_setLength_d00df_1 rfl ?_
    refine xg_callSU1 hC (mj_set0 hJ h) xl_M_J4_333 xl_U_J5_setLength_d00df xl_I_J5_setLength_d00df xl_SU (by decide) rfl (xm_h84a hI hJ) (by decide) ⟨by omega, by omega⟩ dJ4_setLength_d00df_2 (rest := []) rfl rfl (by simp [Value.category]) rfl rfl (st2 := (fun o => [] ++ [])) (fun _ => rfl) (fun _ => ?_)
    try dsimp only
    refine xg_stk (st' := []) rfl ?_
    exact xg_vret hC hQ dJ4_setLength_d00df_5) _ rfl
theorem mj_init (hJ : xm_JI I) (h84 : σ.2.2 = 84) : xm_M Γ I la yJ5_init_d00df cJ5_init_d00df 2 none 2 1 16 [.ref (xm_ad Γ 84), .int (xm_J (16 : Int))] σ 0 (xm_u1 (xm_u1 (xm_nw σ) 84 0 85) 84 1 0, 0) :=
  xg_enter (by decide) (by simp [lg_sl, Value.category]) (fun X hG hI hla hC hQ hname => by
    subst hG
    subst hI
    have hI : xx_I X = xx_I X := rfl
    refine xg_pick [0, 1] (l' := [(0, .ref (xm_ad (xx_G X) 84)), (1, .int (xm_J (16 : Int)))]) rfl ?_
    refine xg_aload_n hC dJ5_init_d00df_0 rfl ?_
    refine xg_stk (st' := [xm_rf (xx_G X) 84]) rfl ?_
    refine xg_oinit hC (by decide) xl_O_J5_3 xl_OI xl_OC (by decide) dJ5_init_d00df_1 ?_
    refine xg_gcB hC dJ5_init_d00df_4 ?_
    refine xg_if_eqN hC (xm_inc 1 rfl) 25 dJ5_init_d00df_7 rfl (by decide) ?_
    refine xg_aload_n hC dJ5_init_d00df_10 rfl ?_
    refine xg_iload_n hC dJ5_init_d00df_11 rfl ?_
    refine xg_newb hC (N := 16) rfl (by decide) (by rw [h84]; decide) (Or.inl (by omega)) ⟨by omega, by omega⟩ (xm_kpnw hI hJ) dJ5_init_d00df_12 ?_
    refine xg_stk (st' := [xm_rf (xx_G X) 85, .ref (xm_ad (xx_G X) 84)]) (by rw [h84]; rfl) ?_
    refine xg_putR0 (v := 85) hC rfl (xm_h84a hI hJ) rfl rfl (Or.inl rfl) (xm_inc _ rfl) (by decide) (xm_kp84 hI hJ (by decide)) xl_F_J5_15 dJ5_init_d00df_14 ?_
    refine xg_aload_n hC dJ5_init_d00df_17 rfl ?_
    refine xg_iconst hC dJ5_init_d00df_18 ?_
    refine xg_putB hC (xm_h84 hI hJ) rfl rfl (by decide) (xm_kp84 hI hJ (by decide)) xl_F_J5_22 dJ5_init_d00df_19 ?_
    refine xg_goto hC 38 dJ5_init_d00df_22 rfl ?_
    exact xg_vret hC hQ dJ5_init_d00df_38) _ rfl
theorem mb_init (hJ : xm_JI I) (h84 : σ.2.2 = 84) : xm_M Γ I la yJ4_init_da8c8 cJ4_init_da8c8 1 none 3 1 16 [.ref (xm_ad Γ 84)] σ 0 (xm_u1 (xm_u1 (xm_nw σ) 84 0 85) 84 1 0, 0) :=
  xg_enter (by decide) (by simp [lg_sl, Value.category]) (fun X hG hI hla hC hQ hname => by
    subst hG
    subst hI
    have hI : xx_I X = xx_I X := rfl
    refine xg_pick [0] (l' := [(0, .ref (xm_ad (xx_G X) 84))]) rfl ?_
    refine xg_aload_n hC dJ4_init_da8c8_0 rfl ?_
    refine xg_bipush hC dJ4_init_da8c8_1 (by decide) ?_
    refine xg_stk (st' := [.int (xm_J (16 : Int)), xm_rf (xx_G X) 84]) rfl ?_
    refine xg_callI1 hC (As := [.int (xm_J (16 : Int))]) (mj_init hJ h84) (by decide) xl_M_J4_1 xl_I_J5_init_d00df (by decide) ⟨by omega, by omega⟩ dJ4_init_da8c8_3 (rest := []) rfl rfl (by simp [Value.category]) rfl rfl ?_
    try dsimp only
    exact xg_vret hC hQ dJ4_init_da8c8_6) _ rfl
end XJF
