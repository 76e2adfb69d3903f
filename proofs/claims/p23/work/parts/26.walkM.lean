/-! ===== the law from its entry ===== -/
/-- the builder's row, grown -/
def xm_g1 (σ : xm_Mem) : xm_Mem := xm_u1 (xm_cpm (xm_nw σ) 89 0 16 (fun j => (xm_nw σ).1 85 (0 + j))) 84 0 89
theorem xm_gr {σ : xm_Mem} (h : xm_SB σ 85 16 15) (h88 : σ.2.2 = 88) : xm_SB (xm_g1 σ) 89 34 15 := by
  refine ⟨xm_u1_at _ _ _ _, ?_, ?_, by decide, by decide, by show 89 ≤ σ.2.2 + 1; omega, by decide, by decide⟩
  · unfold xm_g1
    rw [xm_u1_ne _ _ (by omega), xm_cpm_ne (by omega)]
    exact h.2.1
  · unfold xm_g1
    rw [xm_u1_ne _ _ (by omega), xm_cpm_ne (by omega)]
    exact h.2.2.1
/-- the first text: the first man is born -/
def xm_b1 (σ : xm_Mem) : xm_Mem := xm_ap (xm_ap (xm_g1 (xm_aps σ 85 0 [(0, 19), (1, 0), (0, 20)])) 89 15 (0, 22)) 89 (15 + 9) (0, 12)
/-- the builder; the rules' texts; the days, the sexes -/
def xm_s1 (σ : xm_Mem) : xm_Mem := xm_u1 (xm_u1 (xm_nw (xm_nw σ)) 84 0 85) 84 1 0
def xm_s3 (σ : xm_Mem) : xm_Mem := xm_u1 (xm_u1 (xm_u1 (xm_u1 (xm_u1 (xm_nw (xm_s1 σ)) 86 0 10) 86 1 15) 86 2 16) 86 3 17) 86 4 18
def xm_s6 (σ : xm_Mem) : xm_Mem := xm_u1 (xm_nw (xm_nw (xm_s3 σ))) 88 0 1
/-- the ghost jump: from 89 cells to 110 places; where the line will be -/
def xm_gj (σ : xm_Mem) (el : Int) : xm_Mem := xm_u1 (σ.1, σ.2.1, 110) 109 1 el
/-- what stands ahead of the first tell, from what the constructor leaves -/
def xm_st1 (σ : xm_Mem) (el : Int) : xm_Mem := xm_gj (xm_b1 (xm_s6 σ)) el
def xm_Ik (k : Nat) : xm_Mem → Prop := fun σ => k ≤ σ.2.2
theorem xm_JIk {k : Nat} (h : 84 ≤ k) : xm_JI (xm_Ik k) := ⟨fun σ h2 => Nat.le_trans h h2, fun σ σ' h2 _ e => by show k ≤ σ'.2.2; rw [e]; exact h2, fun σ h2 => Nat.le_succ_of_le h2⟩
def xm_sI (X : xm_X) (I : xm_Mem → Prop) : xm_X := (X.1, I, X.2.2)
section XLM
variable {X : xm_X} {own : String} {cc : ByteArray} {nL fr mc ms kc sc n : Nat} {r r1 r2 : Option xm_Out} {σ : xm_Mem} {pc : Nat} {l l' : List (Nat × Value)} {st : List Value} {I : xm_Mem → Prop}
theorem xg_swI (hi : I σ) (k : xm_V (xm_sI X I) kc sc r σ pc l st) : xm_V X kc sc r σ pc l st :=
  fun o ho H locs ls hR hS hL => k o ho H locs ls ⟨hR.1, hR.2.1, hR.2.2.1, hi, hR.2.2.2.2⟩ hS hL
theorem xm_kpk {k : Nat} (_ : 84 ≤ k) : xx_I (xm_sI X (xm_Ik k)) σ → xx_I (xm_sI X (xm_Ik k)) (xm_nw σ) := fun h => Nat.le_succ_of_le h
theorem xm_kpu {k a j : Nat} {v : Int} (_ : 84 ≤ k) : xm_kp (xm_sI X (xm_Ik k)) σ a j v := fun h => h
theorem xm_has88 : xm_has (xx_I (xm_sI X (xm_Ik 88))) 88 2 24 := ⟨fun σ h => ⟨by decide, h⟩, by decide⟩
theorem xg_gj (h89 : σ.2.2 = 89) {el : Int} (hel : el = (xm_el (xx_G X) : Int)) (hI : xm_I (xm_gj σ el)) (k : xm_V (xm_sI X xm_I) kc sc r (xm_gj σ el) pc l st) : xm_V X kc sc r σ pc l st := by
  refine fun o ho H locs ls hR hS hL => k o ho H locs ls ⟨fun a h1 h2 h3 => ?_, ?_, fun a j => ?_, hI, hR.2.2.2.2.1, ?_⟩ hS hL
  · have hT := hR.2.2.1
    have e0 : (xm_gj σ el).1 109 0 = 0 := by
      unfold xm_gj
      rw [xm_u1_ne _ _ (by omega)]
      exact ((hT 109 0).2.2.2.1 (by omega)).1
    have h110 : a ≤ 110 := h2
    have h89' : a ≤ 89 := by
      apply Classical.byContradiction
      intro hn
      have key : ∀ a, a ≤ 110 → 89 < a → (xm_lay a).1 = 9 ∨ a = 110 := by decide +kernel
      rcases h3 with h3 | ⟨h3, h4⟩
      · rcases key a h110 (by omega) with z | z
        · rw [z] at h3; exact absurd h3 (by decide)
        · rw [z] at h3; exact absurd h3 (by decide)
      · rw [e0] at h4; cases h4
    have h7 : (xm_lay a).1 ≤ 7 := by
      rcases h3 with h3 | ⟨h3, h4⟩
      · exact h3
      · rw [e0] at h4; cases h4
    have hat := hR.1 a h1 (by omega) (Or.inl h7)
    have ec : xm_cell (xx_G X) (xm_gj σ el) a = xm_cell (xx_G X) σ a := by
      have e : ∀ i, (xm_gj σ el).1 a i = σ.1 a i := fun i => xm_u1_ne _ _ (fun z => by omega)
      unfold xm_cell
      simp only [e]
      rfl
    show va_at _ xm_cl (xm_ad (xx_G X) a, xm_cell (xx_G X) (xm_gj σ el) a) H
    rw [ec]
    exact hat
  · have hs := hR.2.1
    have hT := hR.2.2.1
    have e0 : (xm_gj σ el).1 109 0 = 0 := by
      unfold xm_gj
      rw [xm_u1_ne _ _ (by omega)]
      exact ((hT 109 0).2.2.2.1 (by omega)).1
    have e1 : xm_top σ = 89 := by unfold xm_top; rw [if_pos (by omega), h89]
    have e2 : xm_top (xm_gj σ el) = 89 := by unfold xm_top; rw [e0]; rfl
    show H.size = xm_B (xx_G X) + 1 + xm_top (xm_gj σ el)
    rw [e2, hs, e1]
  · have hT := hR.2.2.1
    have hr := xm_el_rg (xx_G X)
    by_cases e : a = 109 ∧ j = 1
    · obtain ⟨rfl, rfl⟩ := e
      have ev : (xm_gj σ el).1 109 1 = el := xm_u1_at _ _ _ _
      rw [ev]
      refine ⟨⟨by omega, by omega⟩, fun z => ?_, fun _ => by omega, fun z => ?_, fun z => ?_⟩
      · exact absurd z (by decide)
      · exact absurd z (by show ¬ 110 < 109; decide)
      · exact absurd z (by decide)
    · have ev : (xm_gj σ el).1 a j = σ.1 a j := xm_u1_ne _ _ e
      rw [ev]
      exact ⟨(hT a j).1, (hT a j).2.1, (hT a j).2.2.1, fun z => (hT a j).2.2.2.1 (by have z2 : 110 < a := z; omega), (hT a j).2.2.2.2⟩
  · have hr := xm_el_rg (xx_G X)
    have hT := hR.2.2.1
    refine Or.inr ⟨show 110 ≤ 110 by decide, show 110 < 1000000 by decide, ?_, Or.inl ⟨?_, ?_⟩⟩
    · exact (xm_u1_at _ _ _ _).trans hel
    · unfold xm_gj
      rw [xm_u1_ne _ _ (by omega)]
      exact ((hT 109 0).2.2.2.1 (by omega)).1
    · show 110 - 21 < xm_el (xx_G X)
      omega
end XLM
theorem xm_s6_z {σ : xm_Mem} (hz : ∀ a k, 83 < a → σ.1 a k = 0) : (xm_s6 σ).1 84 0 = 85 ∧ (xm_s6 σ).1 84 1 = 0 ∧ (xm_s6 σ).1 84 2 = 0 ∧ (xm_s6 σ).1 84 3 = 0 := by
  have e : ∀ k, (xm_s6 σ).1 84 k = (xm_s1 σ).1 84 k := fun k => by
    show (xm_u1 (xm_nw (xm_nw (xm_u1 (xm_u1 (xm_u1 (xm_u1 (xm_u1 (xm_nw (xm_s1 σ)) 86 0 10) 86 1 15) 86 2 16) 86 3 17) 86 4 18))) 88 0 1).1 84 k = _
    rw [xm_u1_ne _ _ (by omega)]
    show (xm_u1 (xm_u1 (xm_u1 (xm_u1 (xm_u1 (xm_nw (xm_s1 σ)) 86 0 10) 86 1 15) 86 2 16) 86 3 17) 86 4 18).1 84 k = _
    rw [xm_u1_ne _ _ (by omega), xm_u1_ne _ _ (by omega), xm_u1_ne _ _ (by omega), xm_u1_ne _ _ (by omega), xm_u1_ne _ _ (by omega)]
    rfl
  rw [e, e, e, e]
  unfold xm_s1
  refine ⟨?_, xm_u1_at _ _ _ _, ?_, ?_⟩
  · rw [xm_u1_ne _ _ (by omega), xm_u1_at]
  · rw [xm_u1_ne _ _ (by omega), xm_u1_ne _ _ (by omega)]
    exact hz 84 2 (by decide)
  · rw [xm_u1_ne _ _ (by omega), xm_u1_ne _ _ (by omega)]
    exact hz 84 3 (by decide)
theorem xm_s6_SB {σ : xm_Mem} (h83 : σ.2.2 = 83) (hz : ∀ a k, 83 < a → σ.1 a k = 0) : xm_SB (xm_s6 σ) 85 16 0 := by
  obtain ⟨g0, g1, g2, g3⟩ := xm_s6_z hz
  exact ⟨g0, g1, g3, by decide, by decide, by show 85 ≤ σ.2.2 + 5; omega, by decide, by decide⟩
theorem xm_b1_2 {σ : xm_Mem} (h83 : σ.2.2 = 83) : (xm_b1 (xm_s6 σ)).2.2 = 89 := by
  unfold xm_b1
  rw [xm_ap_2, xm_ap_2]
  show (xm_aps (xm_s6 σ) 85 0 [(0, 19), (1, 0), (0, 20)]).2.2 + 1 = 89
  rw [xm_aps_2]
  show σ.2.2 + 5 + 1 = 89
  omega
section XLN
variable {Γ : xm_Gm} {I : xm_Mem → Prop} {la : Launch} {σ : xm_Mem} {v n c : Nat}
theorem ml_born1 (hJ : xm_JI I) (h : xm_SB σ 85 16 0) (h88 : σ.2.2 = 88) : xm_M Γ I la yL_born cL_born 5 (some (.object "java/lang/StringBuilder")) 7 1 34 [.ref (xm_ad Γ 84), .int (xm_J (0 : Int)), .int (xm_J (1 : Int)), .int (xm_J (-1 : Int)), .int (xm_J (-1 : Int))] σ 7 (xm_b1 σ, 0) :=
  xg_enter (by decide) (by simp [lg_sl, Value.category]) (fun X hG hI hla hC hQ hname => by
    subst hG
    subst hI
    have hI : xx_I X = xx_I X := rfl
    have e19 : xm_pl (0, 19) = 5 := by decide
    have e10 : xm_pl (1, 0) = 1 := by decide
    have e20 : xm_pl (0, 20) = 9 := by decide
    have e12 : xm_pl (0, 12) = 4 := by decide
    have e22 : xm_pl (0, 22) = 9 := by decide
    refine xg_pick [0, 1, 2, 3, 4] (l' := [(0, .ref (xm_ad (xx_G X) 84)), (1, .int (xm_J (0 : Int))), (2, .int (xm_J (1 : Int))), (3, .int (xm_J (-1 : Int))), (4, .int (xm_J (-1 : Int)))]) rfl ?_
    refine xg_aload_n hC dL_born_0 rfl ?_
    refine xg_ldcS hC (i := 45) (id := 19) (by decide) dL_born_1 ?_
    refine xg_callV1 hC (ci := 10) (mb_ap0 (i := 19) (by decide) hJ h (by omega)) xl_M_L_47 xl_V_J4_append_15ec4 rfl (xm_h84a hI hJ) (by decide) rfl (by decide) ⟨by omega, by omega⟩ dL_born_3 (rest := []) rfl rfl (by simp [Value.category]) rfl rfl (st2 := fun o => [.ref (xm_ad (xx_G X) 84)] ++ []) (fun _ => rfl) (fun hf9 => ?_)
    try dsimp only
    refine xg_stk (st' := [.ref (xm_ad (xx_G X) 84)]) rfl ?_
    have h1 := xm_ap_SB (p := (0, 19)) h (xm_po0 (by decide)) (by omega)
    refine xg_iload_n hC dL_born_6 rfl ?_
    refine xg_top (w := ((0 : Nat) : Int)) rfl ?_
    refine xg_callV1 hC (ci := 10) (mb_ap1 (i := 0) (by decide) hJ h1 (by omega)) xl_M_L_51 xl_V_J4_append_bf812 rfl (xm_h84a hI hJ) (by decide) rfl (by decide) ⟨by omega, by omega⟩ dL_born_7 (rest := []) rfl rfl (by simp [Value.category]) rfl rfl (st2 := fun o => [.ref (xm_ad (xx_G X) 84)] ++ []) (fun _ => rfl) (fun hf9 => ?_)
    try dsimp only
    refine xg_stk (st' := [.ref (xm_ad (xx_G X) 84)]) rfl ?_
    have h2 := xm_ap_SB (p := (1, 0)) h1 (xm_po1 (by decide)) (by omega)
    refine xg_iload_n hC dL_born_10 rfl ?_
    refine xg_if_eqN hC (xm_inc _ rfl) 19 dL_born_11 rfl (by decide) ?_
    refine xg_ldcS hC (i := 54) (id := 20) (by decide) dL_born_14 ?_
    refine xg_goto hC 21 dL_born_16 rfl ?_
    refine xg_callV1 hC (ci := 10) (mb_ap0 (i := 20) (by decide) hJ h2 (by omega)) xl_M_L_47 xl_V_J4_append_15ec4 rfl (xm_h84a hI hJ) (by decide) rfl (by decide) ⟨by omega, by omega⟩ dL_born_21 (rest := []) rfl rfl (by simp [Value.category]) rfl rfl (st2 := fun o => [.ref (xm_ad (xx_G X) 84)] ++ []) (fun _ => rfl) (fun hf9 => ?_)
    try dsimp only
    refine xg_stk (st' := [.ref (xm_ad (xx_G X) 84)]) rfl ?_
    have h3 := xm_ap_SB (p := (0, 20)) h2 (xm_po0 (by decide)) (by omega)
    refine xg_pop hC dL_born_24 rfl ?_
    refine xg_iload_n hC dL_born_25 rfl ?_
    refine xg_if_geN hC (xm_inc _ rfl) 39 dL_born_26 rfl (by decide) ?_
    refine xg_aload_n hC dL_born_29 rfl ?_
    refine xg_ldcS hC (i := 58) (id := 22) (by decide) dL_born_30 ?_
    have e15 : 0 + xm_pl (0, 19) + xm_pl (1, 0) + xm_pl (0, 20) = 15 := by rw [e19, e10, e20]
    rw [e15] at h3
    refine xg_sg (σ2 := xm_aps σ 85 0 [(0, 19), (1, 0), (0, 20)]) rfl (st2 := [.ref (xm_adK (xx_G X) 22), .ref (xm_ad (xx_G X) 84)]) rfl ?_
    have hs : xm_SB (xm_aps σ 85 0 [(0, 19), (1, 0), (0, 20)]) 85 16 15 := h3
    have ht8 : (xm_aps σ 85 0 [(0, 19), (1, 0), (0, 20)]).2.2 = 88 := (xm_aps_2 _ _ _ _).trans h88
    refine xg_facts (fun hT _ => ?_)
    refine xg_callV1 hC (ci := 10) (mb_appS1 (i := 22) (by decide) hJ hs (by decide) (fun j _ => (hT 85 j).2.2.2.2 (by simp only [xm_tk, hs.2.2.2.1])) ht8 (Or.inl (by rw [ht8]; decide)) (xm_gr hs ht8)) xl_M_L_47 xl_V_J4_append_15ec4 rfl (xm_h84a hI hJ) (by decide) rfl (by decide) ⟨by omega, by omega⟩ dL_born_32 (rest := []) rfl rfl (by simp [Value.category]) rfl rfl (st2 := fun o => [.ref (xm_ad (xx_G X) 84)] ++ []) (fun _ => rfl) (fun hf9 => ?_)
    try dsimp only
    refine xg_stk (st' := [.ref (xm_ad (xx_G X) 84)]) rfl ?_
    refine xg_sg (σ2 := xm_ap (xm_g1 (xm_aps σ 85 0 [(0, 19), (1, 0), (0, 20)])) 89 15 (0, 22)) rfl (st2 := [.ref (xm_ad (xx_G X) 84)]) rfl ?_
    have hg := xm_ap_SB (p := (0, 22)) (xm_gr hs ht8) (xm_po0 (by decide)) (by omega)
    rw [e22] at hg
    refine xg_pop hC dL_born_35 rfl ?_
    refine xg_goto hC 50 dL_born_36 rfl ?_
    refine xg_iload hC dL_born_50 rfl ?_
    refine xg_if_geN hC (xm_inc _ rfl) 64 dL_born_52 rfl (by decide) ?_
    refine xg_aload_n hC dL_born_55 rfl ?_
    refine xg_ldcS hC (i := 62) (id := 12) (by decide) dL_born_56 ?_
    refine xg_callV1 hC (ci := 10) (mb_ap0 (i := 12) (by decide) hJ hg (by omega)) xl_M_L_47 xl_V_J4_append_15ec4 rfl (xm_h84a hI hJ) (by decide) rfl (by decide) ⟨by omega, by omega⟩ dL_born_58 (rest := []) rfl rfl (by simp [Value.category]) rfl rfl (st2 := fun o => [.ref (xm_ad (xx_G X) 84)] ++ []) (fun _ => rfl) (fun hf9 => ?_)
    try dsimp only
    refine xg_stk (st' := [.ref (xm_ad (xx_G X) 84)]) rfl ?_
    have h4 := xm_ap_SB (p := (0, 12)) hg (xm_po0 (by decide)) (by omega)
    refine xg_goto hC 70 dL_born_61 rfl ?_
    refine xg_sg (σ2 := xm_b1 σ) rfl (st2 := [.ref (xm_ad (xx_G X) 84)]) rfl ?_
    exact xg_aret (rk := 7) (v := 0) hC hQ (Or.inl ⟨_, rfl⟩) rfl trivial dL_born_70) _ rfl
end XLN
theorem w_entry2 {X : xm_X} (hC : xm_C X RL cL_law 17 12 600000 7302250) (hI : xx_I X = xm_I0) {kc sc : Nat} (hk : kc ≤ 100 ∧ sc ≤ 10000) {r : Option xm_Out} {σ : xm_Mem} (h83 : σ.2.2 = 83) {el : Int} (hEl : el = (xm_el (xx_G X) : Int)) (hwire : xm_I (xm_st1 σ el)) (k : xm_V (xm_sI X xm_I) 200 11000 r (xm_st1 σ el) 72 [(0, .ref (xm_sb (xx_G X))), (1, .ref (xm_ad (xx_G X) 1)), (2, .ref (xm_ad (xx_G X) 84)), (3, .ref (xm_ad (xx_G X) 86)), (4, .ref (xm_ad (xx_G X) 87)), (5, .ref (xm_ad (xx_G X) 88))] [.ref (xm_ad (xx_G X) 84), .ref (xm_ad (xx_G X) 1)]) : xm_V X kc sc r σ 8 [(1, .ref (xm_ad (xx_G X) 1)), (0, .ref (xm_sb (xx_G X)))] [] := by
  have hn10 : xm_nf 10 = 4 := by decide
  refine xg_facts (fun hT0 _ => ?_)
  have hz : ∀ a k, 83 < a → σ.1 a k = 0 := fun a k h => ((hT0 a k).2.2.2.1 (by omega)).1
  clear hT0
  rw [show r = (if xm_lay (σ.2.2 + 1) = (0, 10) ∧ xm_nxt σ then r else none) from (if_pos ⟨by rw [h83]; decide, Or.inl (by omega)⟩).symm]
  refine xg_new hC (ci := 10) (by decide) xl_K_L_10 xl_T_10 xl_Z_10 ⟨by omega, by omega⟩ (xm_kp0 hI) dL_law_8 ?_
  refine xg_stk (st' := [.ref (xm_ad (xx_G X) 84)]) (by rw [h83]; rfl) ?_
  refine xg_swI (I := xm_Ik 84) (by show 84 ≤ σ.2.2 + 1; omega) ?_
  have hC4 : xm_C (xm_sI X (xm_Ik 84)) RL cL_law 17 12 600000 7302250 := hC
  refine xg_dup hC4 dL_law_11 rfl ?_
  refine xg_callI1 hC4 (v := 84) (rest := [.ref (xm_ad (xx_G X) 84)]) (mb_init (σ := xm_nw σ) (xm_JIk (by decide)) (by show σ.2.2 + 1 = 84; omega)) (by decide) xl_M_L_68 xl_I_J4_init_da8c8 (by decide) ⟨by omega, by omega⟩ dL_law_12 (As := []) rfl rfl (by simp [Value.category]) rfl rfl ?_
  refine xg_sg (σ2 := xm_s1 σ) rfl (st2 := [.ref (xm_ad (xx_G X) 84)]) rfl ?_
  refine xg_astore_n hC4 (l' := [(2, .ref (xm_ad (xx_G X) 84)), (1, .ref (xm_ad (xx_G X) 1)), (0, .ref (xm_sb (xx_G X)))]) dL_law_15 (by decide) rfl ?_
  refine xg_iconst hC4 dL_law_16 ?_
  refine xg_newS hC4 (N := 5) rfl (by decide) (by show xm_lay (σ.2.2 + 1 + 1 + 1) = _; rw [h83]; decide) (Or.inl (by show σ.2.2 + 1 + 1 < 89; omega)) (xm_mem 1291 (by decide +kernel) rfl) ⟨by omega, by omega⟩ (xm_kpk (by decide)) dL_law_17 ?_
  refine xg_sg (σ2 := xm_nw (xm_s1 σ)) rfl (st2 := [.ref (xm_ad (xx_G X) 86)]) (by show [Value.ref (xm_ad (xx_G X) (σ.2.2 + 1 + 1 + 1))] = _; rw [h83]) ?_
  refine xg_dup hC4 dL_law_20 rfl ?_
  refine xg_iconst hC4 dL_law_21 ?_
  refine xg_ldcS hC4 (i := 71) (id := 9) (by decide) dL_law_22 ?_
  refine xg_stk (st' := .ref (xm_adK (xx_G X) 9) :: .int (xm_J ((0 : Nat) : Int)) :: .ref (xm_ad (xx_G X) 86) :: [.ref (xm_ad (xx_G X) 86)]) rfl ?_
  refine xg_sast hC4 (a := 86) (i := 0) (id := 9) xm_l86 ⟨by decide, by show 86 ≤ σ.2.2 + 1 + 1 + 1; omega⟩ (by decide) (by decide) (by decide) (xm_kpu (by decide)) dL_law_24 ?_
  refine xg_dup hC4 dL_law_25 rfl ?_
  refine xg_iconst hC4 dL_law_26 ?_
  refine xg_ldcS hC4 (i := 73) (id := 14) (by decide) dL_law_27 ?_
  refine xg_stk (st' := .ref (xm_adK (xx_G X) 14) :: .int (xm_J ((1 : Nat) : Int)) :: .ref (xm_ad (xx_G X) 86) :: [.ref (xm_ad (xx_G X) 86)]) rfl ?_
  refine xg_sast hC4 (a := 86) (i := 1) (id := 14) xm_l86 ⟨by decide, by show 86 ≤ σ.2.2 + 1 + 1 + 1; omega⟩ (by decide) (by decide) (by decide) (xm_kpu (by decide)) dL_law_29 ?_
  refine xg_dup hC4 dL_law_30 rfl ?_
  refine xg_iconst hC4 dL_law_31 ?_
  refine xg_ldcS hC4 (i := 75) (id := 15) (by decide) dL_law_32 ?_
  refine xg_stk (st' := .ref (xm_adK (xx_G X) 15) :: .int (xm_J ((2 : Nat) : Int)) :: .ref (xm_ad (xx_G X) 86) :: [.ref (xm_ad (xx_G X) 86)]) rfl ?_
  refine xg_sast hC4 (a := 86) (i := 2) (id := 15) xm_l86 ⟨by decide, by show 86 ≤ σ.2.2 + 1 + 1 + 1; omega⟩ (by decide) (by decide) (by decide) (xm_kpu (by decide)) dL_law_34 ?_
  refine xg_dup hC4 dL_law_35 rfl ?_
  refine xg_iconst hC4 dL_law_36 ?_
  refine xg_ldcS hC4 (i := 77) (id := 16) (by decide) dL_law_37 ?_
  refine xg_stk (st' := .ref (xm_adK (xx_G X) 16) :: .int (xm_J ((3 : Nat) : Int)) :: .ref (xm_ad (xx_G X) 86) :: [.ref (xm_ad (xx_G X) 86)]) rfl ?_
  refine xg_sast hC4 (a := 86) (i := 3) (id := 16) xm_l86 ⟨by decide, by show 86 ≤ σ.2.2 + 1 + 1 + 1; omega⟩ (by decide) (by decide) (by decide) (xm_kpu (by decide)) dL_law_39 ?_
  refine xg_dup hC4 dL_law_40 rfl ?_
  refine xg_iconst hC4 dL_law_41 ?_
  refine xg_ldcS hC4 (i := 79) (id := 17) (by decide) dL_law_42 ?_
  refine xg_stk (st' := .ref (xm_adK (xx_G X) 17) :: .int (xm_J ((4 : Nat) : Int)) :: .ref (xm_ad (xx_G X) 86) :: [.ref (xm_ad (xx_G X) 86)]) rfl ?_
  refine xg_sast hC4 (a := 86) (i := 4) (id := 17) xm_l86 ⟨by decide, by show 86 ≤ σ.2.2 + 1 + 1 + 1; omega⟩ (by decide) (by decide) (by decide) (xm_kpu (by decide)) dL_law_44 ?_
  refine xg_astore_n hC4 (l' := [(3, .ref (xm_ad (xx_G X) 86)), (2, .ref (xm_ad (xx_G X) 84)), (1, .ref (xm_ad (xx_G X) 1)), (0, .ref (xm_sb (xx_G X)))]) dL_law_45 (by decide) rfl ?_
  refine xg_sg (σ2 := xm_s3 σ) rfl (st2 := []) rfl ?_
  refine xg_bipush hC4 dL_law_46 (by decide) ?_
  rw [show r = (if xm_lay (((xm_s3 σ)).2.2 + 1) = (1, 24) ∧ xm_nxt (xm_s3 σ) then r else none) from (if_pos ⟨by show xm_lay (σ.2.2 + 3 + 1) = _; rw [h83]; decide, Or.inl (by show σ.2.2 + 3 < 89; omega)⟩).symm]
  refine xg_newa hC4 (atype := .int) (kd := 1) (N := 24) (by decide) rfl (by decide) xl_A_int ⟨by omega, by omega⟩ (xm_kpk (by decide)) dL_law_48 ?_
  refine xg_sg (σ2 := (xm_nw (xm_s3 σ))) rfl (st2 := [.ref (xm_ad (xx_G X) 87)]) (by show [xm_rf (xx_G X) (((σ.2.2 + 3 : Nat) : Int) + 1)] = _; rw [h83]; rfl) ?_
  refine xg_astore hC4 (l' := [(4, .ref (xm_ad (xx_G X) 87)), (3, .ref (xm_ad (xx_G X) 86)), (2, .ref (xm_ad (xx_G X) 84)), (1, .ref (xm_ad (xx_G X) 1)), (0, .ref (xm_sb (xx_G X)))]) dL_law_50 (by decide) rfl ?_
  refine xg_bipush hC4 dL_law_52 (by decide) ?_
  rw [show r = (if xm_lay (((xm_nw (xm_s3 σ))).2.2 + 1) = (2, 24) ∧ xm_nxt (xm_nw (xm_s3 σ)) then r else none) from (if_pos ⟨by show xm_lay (σ.2.2 + 4 + 1) = _; rw [h83]; decide, Or.inl (by show σ.2.2 + 4 < 89; omega)⟩).symm]
  refine xg_newa hC4 (atype := .boolean) (kd := 2) (N := 24) (by decide) rfl (by decide) xl_A_boolean ⟨by omega, by omega⟩ (xm_kpk (by decide)) dL_law_54 ?_
  refine xg_sg (σ2 := (xm_nw (xm_nw (xm_s3 σ)))) rfl (st2 := [.ref (xm_ad (xx_G X) 88)]) (by show [xm_rf (xx_G X) (((σ.2.2 + 4 : Nat) : Int) + 1)] = _; rw [h83]; rfl) ?_
  refine xg_astore hC4 (l' := [(5, .ref (xm_ad (xx_G X) 88)), (4, .ref (xm_ad (xx_G X) 87)), (3, .ref (xm_ad (xx_G X) 86)), (2, .ref (xm_ad (xx_G X) 84)), (1, .ref (xm_ad (xx_G X) 1)), (0, .ref (xm_sb (xx_G X)))]) dL_law_56 (by decide) rfl ?_
  refine xg_swI (I := xm_Ik 88) (by show 88 ≤ σ.2.2 + 5; omega) ?_
  have hC8 : xm_C (xm_sI X (xm_Ik 88)) RL cL_law 17 12 600000 7302250 := hC
  refine xg_aload hC8 dL_law_58 rfl ?_
  refine xg_iconst hC8 dL_law_60 ?_
  refine xg_iconst hC8 dL_law_61 ?_
  rw [show r = (if 0 ≤ (0 : Int) ∧ (0 : Int) < 24 then r else none) from (if_pos (by decide)).symm]
  refine xg_zast hC8 (a := 88) (n := 24) xm_has88 rfl (xm_inc _ rfl) (by decide) (xm_kpu (by decide)) dL_law_62 ?_
  refine xg_sg (σ2 := xm_s6 σ) rfl (st2 := []) rfl ?_
  refine xg_aload_n hC8 dL_law_63 rfl ?_
  refine xg_aload_n hC8 dL_law_64 rfl ?_
  refine xg_iconst hC8 dL_law_65 ?_
  refine xg_iconst hC8 dL_law_66 ?_
  refine xg_iconst hC8 dL_law_67 ?_
  refine xg_iconst hC8 dL_law_68 ?_
  refine xg_callS1 hC8 (ml_born1 (σ := xm_s6 σ) (xm_JIk (by decide)) (xm_s6_SB h83 hz) (by show σ.2.2 + 5 = 88; omega)) xl_M_L_81 xl_S_L_born (by decide) ⟨by omega, by omega⟩ dL_law_69 (rest := [.ref (xm_ad (xx_G X) 1)]) rfl rfl (by simp [Value.category]) rfl rfl (st2 := fun o => [.ref (xm_ad (xx_G X) 84)] ++ [.ref (xm_ad (xx_G X) 1)]) (fun _ => rfl) (fun _ => ?_)
  refine xg_sg (σ2 := xm_b1 (xm_s6 σ)) rfl (st2 := [.ref (xm_ad (xx_G X) 84), .ref (xm_ad (xx_G X) 1)]) rfl ?_
  refine xg_gj (X := xm_sI X (xm_Ik 88)) (xm_b1_2 h83) hEl hwire ?_
  exact xg_pick [5, 4, 3, 2, 1, 0] rfl (xg_widen (by omega) (by omega) k)
