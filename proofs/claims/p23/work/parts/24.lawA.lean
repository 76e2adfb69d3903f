/-! ===== the law's small methods: low, cell, at, four, born, text ===== -/
/-- a cell of the script, or what stands for it -/
def xm_clv (Γ : xm_Gm) (k : Nat) : Int := if k < xm_sN Γ then (xm_sx Γ k).toInt else xm_w (790386105 * xm_w ((k : Int) + 3))
def xm_atv (σ : xm_Mem) (v c k : Nat) : Int := if k < c then σ.1 v k else 0
def xm_at4 (σ : xm_Mem) (v c k : Nat) : Int := xm_or (xm_or (xm_or (xm_shli (xm_atv σ v c k) 24) (xm_shli (xm_atv σ v c (k + 1)) 16)) (xm_shli (xm_atv σ v c (k + 2)) 8)) (xm_atv σ v c (k + 3))
/-- a piece of a text: (0, a text's place), (1, a number), (2, a sign) -/
def xm_pl (p : Nat × Nat) : Nat := if p.1 = 0 then xm_ln.getD p.2 0 else if p.1 = 1 then xm_dg p.2 else 1
def xm_ap (σ : xm_Mem) (v c : Nat) (p : Nat × Nat) : xm_Mem :=
  if p.1 = 0 then xm_u1 (xm_cpm σ v c (xm_ln.getD p.2 0) (fun j => xm_chr (p.2 : Int) ((0 + j : Nat) : Int))) 84 3 ((c + xm_ln.getD p.2 0 : Nat) : Int)
  else if p.1 = 1 then xm_u1 (xm_gc v 3 σ (c + xm_dg p.2) p.2) 84 3 ((c + xm_dg p.2 : Nat) : Int)
  else xm_u1 (xm_u1 σ 84 3 ((c + 1 : Nat) : Int)) v c (p.2 : Int)
def xm_aps (σ : xm_Mem) (v c : Nat) : List (Nat × Nat) → xm_Mem
  | [] => σ
  | p :: t => xm_aps (xm_ap σ v c p) v (c + xm_pl p) t
def xm_plS (c : Nat) : List (Nat × Nat) → Nat
  | [] => c
  | p :: t => xm_plS (c + xm_pl p) t
def xm_pOK (p : Nat × Nat) : Prop := (p.1 = 0 → p.2 < 24) ∧ (p.1 = 1 → p.2 ≤ 99999) ∧ (p.1 = 2 → p.2 ≤ 127)
theorem xm_po0 {i : Nat} (h : i < 24) : xm_pOK (0, i) := ⟨fun _ => h, fun z => absurd z (show ¬ (0 : Nat) = 1 by decide), fun z => absurd z (show ¬ (0 : Nat) = 2 by decide)⟩
theorem xm_po1 {i : Nat} (h : i ≤ 99999) : xm_pOK (1, i) := ⟨fun z => absurd z (show ¬ (1 : Nat) = 0 by decide), fun _ => h, fun z => absurd z (show ¬ (1 : Nat) = 2 by decide)⟩
theorem xm_po2 {i : Nat} (h : i ≤ 127) : xm_pOK (2, i) := ⟨fun z => absurd z (show ¬ (2 : Nat) = 0 by decide), fun z => absurd z (show ¬ (2 : Nat) = 1 by decide), fun _ => h⟩
/-- what born tells, what text tells -/
def xm_bP (d : Nat) (s f m : Int) : List (Nat × Nat) := [(0, 19), (1, d), (0, if s = 0 then 21 else 20)] ++ (if f < 0 then [(0, 22)] else [(1, f.toNat), (0, 23)]) ++ (if m < 0 then [(0, 12)] else [(1, m.toNat)])
def xm_tP (i d a : Nat) (q : Int) : List (Nat × Nat) := [(0, i), (2, 32), (1, d), (2, 32), (1, a)] ++ (if q < 0 then [] else [(2, 32), (1, q.toNat)])
theorem xm_pl1 (w : Nat) : 1 ≤ xm_pl (1, w) ∧ xm_pl (1, w) ≤ 5 := xm_dg_pos w
theorem xm_pl2 {w : Nat} (h : w ≤ 99) : 1 ≤ xm_pl (1, w) ∧ xm_pl (1, w) ≤ 2 := by
  show 1 ≤ xm_dg w ∧ xm_dg w ≤ 2
  unfold xm_dg
  (repeat' split) <;> omega
theorem xm_SBu {σ : xm_Mem} {v n c k : Nat} (h : xm_SB σ v n c) (hk : k ≤ n) : xm_SB (xm_u1 σ 84 3 (k : Int)) v n k := by
  refine ⟨by rw [xm_u1_ne σ _ (by omega)]; exact h.1, by rw [xm_u1_ne σ _ (by omega)]; exact h.2.1, xm_u1_at _ _ _ _, h.2.2.2.1, h.2.2.2.2.1, h.2.2.2.2.2.1, hk, h.2.2.2.2.2.2.2⟩
theorem xm_SBn {σ : xm_Mem} {v n c : Nat} (h : xm_SB σ v n c) : v ≠ 84 := fun y => by
  have h6 := h.2.2.2.1
  rw [y] at h6
  have h8 : (xm_lay 84).1 = 6 := by rw [h6]
  exact absurd h8 (by decide)
theorem xm_SBv {σ : xm_Mem} {v n c k : Nat} {x : Int} (h : xm_SB σ v n c) : xm_SB (xm_u1 σ v k x) v n c := by
  have hn := xm_SBn h
  refine ⟨by rw [xm_u1_ne σ _ (by omega)]; exact h.1, by rw [xm_u1_ne σ _ (by omega)]; exact h.2.1, by rw [xm_u1_ne σ _ (by omega)]; exact h.2.2.1, h.2.2.2⟩
theorem xm_gc_SB {v n c : Nat} : ∀ (f : Nat) (σ : xm_Mem) (p r : Nat), xm_SB σ v n c → xm_SB (xm_gc v f σ p r) v n c := by
  intro f
  induction f with
  | zero => intro σ p r h; exact h
  | succ f ih =>
    intro σ p r h
    rw [xm_gc]
    split
    · split
      · exact xm_SBv h
      · exact xm_SBv (xm_SBv h)
    · exact ih _ _ _ (xm_SBv (xm_SBv h))
theorem xm_ap_SB {σ : xm_Mem} {v n c : Nat} {p : Nat × Nat} (h : xm_SB σ v n c) (hp : xm_pOK p) (hlen : c + xm_pl p ≤ n) : xm_SB (xm_ap σ v c p) v n (c + xm_pl p) := by
  unfold xm_ap
  unfold xm_pl at hlen ⊢
  split
  · rename_i e
    rw [if_pos e] at hlen
    exact xm_SBu (xm_SBcp h) hlen
  · rename_i e
    rw [if_neg e] at hlen
    split
    · rename_i e2
      rw [if_pos e2] at hlen
      exact xm_SBu (xm_gc_SB _ _ _ _ h) hlen
    · rename_i e2
      rw [if_neg e2] at hlen
      exact xm_SBv (xm_SBu h hlen)
section XLR
variable {X : xm_X} {own : String} {cc : ByteArray} {nL fr mc ms kc sc : Nat} {r : Option xm_Out} {σ : xm_Mem} {pc : Nat} {l : List (Nat × Value)} {st : List Value}
theorem xm_scX (hC : xm_C X own cc nL fr mc ms) : va_X (xm_sb (xx_G X)) (xm_sN (xx_G X)) (xm_sx (xx_G X)) (xx_s X) (xx_s X).heap ∧ xm_sb (xx_G X) < (xx_s X).heap.size ∧ ¬ xm_A X (xm_sb (xx_G X)) := by
  obtain ⟨-, -, -, -, -, h6, h7, h8⟩ := xm_k2 hC
  have e := hC.2.2.2.2.2.2.2.2.1 _ h8
  refine ⟨h6.kept e, ?_, Nat.not_lt.mpr h8⟩
  rcases Nat.lt_or_ge (xm_sb (xx_G X)) (xx_s X).heap.size with h | h
  · exact h
  · rw [Array.getElem?_eq_none h, Array.getElem?_eq_getElem h7] at e
    cases e
theorem xg_scL (hC : xm_C X own cc nL fr mc ms) (hd : decode cc pc = .ok (.arraylength, 1)) (kk : xm_V X kc sc r σ (pc + 1) l (.int (xm_J (xm_sN (xx_G X) : Int)) :: st)) : xm_V X kc sc r σ pc l (.ref (xm_sb (xx_G X)) :: st) :=
  fun o ho H locs ls hR hS hL => va_slen hC.1 hC.2.1 (xm_scX hC).1 (xm_scX hC).2.1 (xm_scX hC).2.2 hS hd (kk o ho H locs ls hR hS hL)
theorem xg_scR (hC : xm_C X own cc nL fr mc ms) {i : Nat} (hi : i < xm_sN (xx_G X) ∧ i ≤ 100000) (hd : decode cc pc = .ok (.iaload, 1)) (kk : xm_V X kc sc r σ (pc + 1) l (.int (xm_J (xm_sx (xx_G X) i).toInt) :: st)) : xm_V X kc sc r σ pc l (.int (xm_J (i : Int)) :: .ref (xm_sb (xx_G X)) :: st) := by
  intro o ho H locs ls hR hS hL
  have hin : xm_in (i : Int) := ⟨by omega, by omega⟩
  refine va_sld hC.1 hC.2.1 (xm_scX hC).1 (xm_scX hC).2.1 (xm_scX hC).2.2 hS (xm_vp hin ⟨by omega, by omega⟩) hd ?_
  rw [xm_clamp hin, Int.toNat_natCast]
  have K := kk o ho H locs ls hR hS hL
  rw [xm_J_of] at K
  exact K
end XLR
section XLM
variable {Γ : xm_Gm} {I : xm_Mem → Prop} {la : Launch} {σ : xm_Mem} {v n c q : Nat}
theorem mb_ap0 {i : Nat} (hi : i < 24) (hJ : xm_JI I) (h : xm_SB σ v n c) (hlen : c + xm_pl (0, i) ≤ n) : xm_M Γ I la yJ4_append_15ec4 cJ4_append_15ec4 2 (some (.object "java/lang/StringBuilder")) 6 0 0 [.ref (xm_ad Γ 84), .ref (xm_adK Γ i)] σ 7 (xm_ap σ v c (0, i), 0) := mb_appS0 hi hJ h hlen
theorem mb_ap1 {i : Nat} (hi : i ≤ 99999) (hJ : xm_JI I) (h : xm_SB σ v n c) (hlen : c + xm_pl (1, i) ≤ n) : xm_M Γ I la yJ4_append_bf812 cJ4_append_bf812 2 (some (.object "java/lang/StringBuilder")) 6 0 0 [.ref (xm_ad Γ 84), .int (xm_J (i : Int))] σ 7 (xm_ap σ v c (1, i), 0) := mb_appI hi hJ h hlen
theorem mb_ap2 {i : Nat} (hi : i ≤ 127) (hJ : xm_JI I) (h : xm_SB σ v n c) (hlen : c + xm_pl (2, i) ≤ n) : xm_M Γ I la yJ4_append_cf468 cJ4_append_cf468 2 (some (.object "java/lang/StringBuilder")) 6 0 0 [.ref (xm_ad Γ 84), .int (xm_J (i : Int))] σ 7 (xm_ap σ v c (2, i), 0) := mb_appC (x := (i : Int)) ⟨by omega, by omega⟩ hJ h hlen
theorem ml_low {x : Int} (hx : xm_in x) (hn : 0 < n ∧ n ≤ 100000) : xm_M Γ I la yL_low cL_low 2 (some .int) 1 0 0 [.int (xm_J x), .int (xm_J (n : Int))] σ 1 (σ, xm_rem (xm_and x 2147483647) (n : Int)) :=
  xg_enter (by decide) (by simp [lg_sl, Value.category]) (fun X hG hI hla hC hQ hname => by
    subst hG
    subst hI
    have hI : xx_I X = xx_I X := rfl
    have hn9 : xm_in (n : Int) := ⟨by omega, by omega⟩
    refine xg_pick [0, 1] (l' := [(0, .int (xm_J x)), (1, .int (xm_J (n : Int)))]) rfl ?_
    refine xg_iload_n hC dL_low_0 rfl ?_
    refine xg_ldc hC dL_low_1 xl_C_L_7 ?_
    refine xg_iand hC dL_low_3 ?_
    refine xg_iload_n hC dL_low_4 rfl ?_
    refine xg_irem hC dL_low_5 (fun z => by have e := (xm_J_eq hn9 xm_in0).mp (z.trans xm_J0.symm); omega) ?_
    exact xg_iret hC hQ (xm_rem_in _ _) dL_low_6) _ rfl
theorem ml_cell {k : Nat} (hk : k ≤ 100) (hN : xm_sN Γ ≤ 100000) : xm_M Γ I la yL_cell cL_cell 2 (some .int) 1 0 0 [.ref (xm_sb Γ), .int (xm_J (k : Int))] σ 1 (σ, xm_clv Γ k) :=
  xg_enter (by decide) (by simp [lg_sl, Value.category]) (fun X hG hI hla hC hQ hname => by
    subst hG
    subst hI
    have hI : xx_I X = xx_I X := rfl
    have hk9 : xm_in (k : Int) := ⟨by omega, by omega⟩
    have hN9 : xm_in (xm_sN (xx_G X) : Int) := ⟨by omega, by omega⟩
    refine xg_pick [0, 1] (l' := [(0, .ref (xm_sb (xx_G X))), (1, .int (xm_J (k : Int)))]) rfl ?_
    refine xg_iload_n hC dL_cell_0 rfl ?_
    refine xg_aload_n hC dL_cell_1 rfl ?_
    refine xg_scL hC dL_cell_2 ?_
    by_cases hkn : k < xm_sN (xx_G X)
    · rw [show xm_clv (xx_G X) k = (xm_sx (xx_G X) k).toInt from if_pos hkn]
      refine xg_icmp_geN hC hk9 hN9 12 dL_cell_3 rfl (by omega) ?_
      refine xg_aload_n hC dL_cell_6 rfl ?_
      refine xg_iload_n hC dL_cell_7 rfl ?_
      refine xg_scR hC (by omega) dL_cell_8 ?_
      refine xg_goto hC 18 dL_cell_9 rfl ?_
      exact xg_iret hC hQ (xm_in_toInt _) dL_cell_18
    · rw [show xm_clv (xx_G X) k = xm_w (790386105 * xm_w ((k : Int) + 3)) from if_neg hkn]
      refine xg_icmp_geJ hC hk9 hN9 12 dL_cell_3 rfl (by omega) ?_
      refine xg_ldc hC dL_cell_12 xl_C_L_8 ?_
      refine xg_iload_n hC dL_cell_14 rfl ?_
      refine xg_iconst hC dL_cell_15 ?_
      refine xg_iadd hC dL_cell_16 ?_
      refine xg_imul hC dL_cell_17 ?_
      exact xg_iret hC hQ (xm_w_in _) dL_cell_18) _ rfl
theorem ml_at {k : Nat} (hk : k ≤ 1000) (hJ : xm_JI I) (h : xm_SB σ v n c) : xm_M Γ I la yL_at cL_at 2 (some .int) 5 0 0 [.ref (xm_ad Γ 84), .int (xm_J (k : Int))] σ 1 (σ, xm_atv σ v c k) :=
  xg_enter (by decide) (by simp [lg_sl, Value.category]) (fun X hG hI hla hC hQ hname => by
    subst hG
    subst hI
    have hI : xx_I X = xx_I X := rfl
    have hn34 := h.2.2.2.2.2.2
    have hk9 : xm_in (k : Int) := ⟨by omega, by omega⟩
    refine xg_facts (fun hT _ => ?_)
    have hby := (hT v k).2.2.2.2 (by simp only [xm_tk, h.2.2.2.1])
    refine xg_pick [0, 1] (l' := [(0, .ref (xm_ad (xx_G X) 84)), (1, .int (xm_J (k : Int)))]) rfl ?_
    refine xg_iload_n hC dL_at_0 rfl ?_
    refine xg_aload_n hC dL_at_1 rfl ?_
    refine xg_callV1 hC (ci := 10) (mb_len hJ h) xl_M_L_9 xl_V_J4_length_8abf5 rfl (xm_h84a hI hJ) (by decide) rfl (by decide) ⟨by omega, by omega⟩ dL_at_2 (rest := [.int (xm_J (k : Int))]) rfl rfl (by simp [Value.category]) rfl rfl (st2 := fun o => [.int (xm_J o.2)] ++ [.int (xm_J (k : Int))]) (fun _ => rfl) (fun hf9 => ?_)
    try dsimp only
    refine xg_stk (st' := [.int (xm_J (c : Int)), .int (xm_J (k : Int))]) rfl ?_
    by_cases hkc : k < c
    · rw [show xm_atv σ v c k = σ.1 v k from if_pos hkc]
      refine xg_icmp_geN hC hk9 (xm_c34 h) 16 dL_at_5 rfl (by omega) ?_
      refine xg_aload_n hC dL_at_8 rfl ?_
      refine xg_iload_n hC dL_at_9 rfl ?_
      refine xg_callV1 hC (ci := 10) (mb_chr hJ h hkc hby) xl_M_L_15 xl_V_J4_charAt_5068e rfl (xm_h84a hI hJ) (by decide) rfl (by decide) ⟨by omega, by omega⟩ dL_at_10 (rest := []) rfl rfl (by simp [Value.category]) rfl rfl (st2 := fun o => [.int (xm_J o.2)] ++ []) (fun _ => rfl) (fun hf9 => ?_)
      try dsimp only
      refine xg_stk (st' := [.int (xm_J (σ.1 v k))]) rfl ?_
      refine xg_goto hC 17 dL_at_13 rfl ?_
      exact xg_iret hC hQ hf9 dL_at_17
    · rw [show xm_atv σ v c k = 0 from if_neg hkc]
      refine xg_icmp_geJ hC hk9 (xm_c34 h) 16 dL_at_5 rfl (by omega) ?_
      refine xg_iconst hC dL_at_16 ?_
      exact xg_iret hC hQ xm_in0 dL_at_17) _ rfl
theorem ml_four {k : Nat} (hk : k ≤ 900) (hJ : xm_JI I) (h : xm_SB σ v n c) : xm_M Γ I la yL_four cL_four 2 (some .int) 6 0 0 [.ref (xm_ad Γ 84), .int (xm_J (k : Int))] σ 1 (σ, xm_at4 σ v c k) :=
  xg_enter (by decide) (by simp [lg_sl, Value.category]) (fun X hG hI hla hC hQ hname => by
    subst hG
    subst hI
    have hI : xx_I X = xx_I X := rfl
    have hk9 : xm_in (k : Int) := ⟨by omega, by omega⟩
    refine xg_pick [0, 1] (l' := [(0, .ref (xm_ad (xx_G X) 84)), (1, .int (xm_J (k : Int)))]) rfl ?_
    refine xg_aload_n hC dL_four_0 rfl ?_
    refine xg_iload_n hC dL_four_1 rfl ?_
    refine xg_callS1 hC (ml_at (k := k) (by omega) hJ h) xl_M_L_19 xl_S_L_at (by decide) ⟨by omega, by omega⟩ dL_four_2 (rest := []) rfl rfl (by simp [Value.category]) rfl rfl (st2 := fun o => [.int (xm_J o.2)] ++ []) (fun _ => rfl) (fun hf0 => ?_)
    try dsimp only
    refine xg_stk (st' := [.int (xm_J (xm_atv σ v c k))]) rfl ?_
    refine xg_bipush hC dL_four_5 (by decide) ?_
    refine xg_ishl hC dL_four_7 ?_
    refine xg_aload_n hC dL_four_8 rfl ?_
    refine xg_iload_n hC dL_four_9 rfl ?_
    refine xg_iconst hC dL_four_10 ?_
    refine xg_iadd hC dL_four_11 ?_
    refine xg_top (w := ((k + 1 : Nat) : Int)) (by rw [xp_w (by omega) (by omega)]; omega) ?_
    refine xg_callS1 hC (ml_at (k := (k + 1)) (by omega) hJ h) xl_M_L_19 xl_S_L_at (by decide) ⟨by omega, by omega⟩ dL_four_12 (rest := [.int (xm_J (xm_shli (xm_atv σ v c k) (24 : Int)))]) rfl rfl (by simp [Value.category]) rfl rfl (st2 := fun o => [.int (xm_J o.2)] ++ [.int (xm_J (xm_shli (xm_atv σ v c k) (24 : Int)))]) (fun _ => rfl) (fun hf1 => ?_)
    try dsimp only
    refine xg_stk (st' := [.int (xm_J (xm_atv σ v c (k + 1))), .int (xm_J (xm_shli (xm_atv σ v c k) (24 : Int)))]) rfl ?_
    refine xg_bipush hC dL_four_15 (by decide) ?_
    refine xg_ishl hC dL_four_17 ?_
    refine xg_ior hC dL_four_18 ?_
    refine xg_aload_n hC dL_four_19 rfl ?_
    refine xg_iload_n hC dL_four_20 rfl ?_
    refine xg_iconst hC dL_four_21 ?_
    refine xg_iadd hC dL_four_22 ?_
    refine xg_top (w := ((k + 2 : Nat) : Int)) (by rw [xp_w (by omega) (by omega)]; omega) ?_
    refine xg_callS1 hC (ml_at (k := (k + 2)) (by omega) hJ h) xl_M_L_19 xl_S_L_at (by decide) ⟨by omega, by omega⟩ dL_four_23 (rest := [.int (xm_J (xm_or (xm_shli (xm_atv σ v c k) (24 : Int)) (xm_shli (xm_atv σ v c (k + 1)) (16 : Int))))]) rfl rfl (by simp [Value.category]) rfl rfl (st2 := fun o => [.int (xm_J o.2)] ++ [.int (xm_J (xm_or (xm_shli (xm_atv σ v c k) (24 : Int)) (xm_shli (xm_atv σ v c (k + 1)) (16 : Int))))]) (fun _ => rfl) (fun hf2 => ?_)
    try dsimp only
    refine xg_stk (st' := [.int (xm_J (xm_atv σ v c (k + 2))), .int (xm_J (xm_or (xm_shli (xm_atv σ v c k) (24 : Int)) (xm_shli (xm_atv σ v c (k + 1)) (16 : Int))))]) rfl ?_
    refine xg_bipush hC dL_four_26 (by decide) ?_
    refine xg_ishl hC dL_four_28 ?_
    refine xg_ior hC dL_four_29 ?_
    refine xg_aload_n hC dL_four_30 rfl ?_
    refine xg_iload_n hC dL_four_31 rfl ?_
    refine xg_iconst hC dL_four_32 ?_
    refine xg_iadd hC dL_four_33 ?_
    refine xg_top (w := ((k + 3 : Nat) : Int)) (by rw [xp_w (by omega) (by omega)]; omega) ?_
    refine xg_callS1 hC (ml_at (k := (k + 3)) (by omega) hJ h) xl_M_L_19 xl_S_L_at (by decide) ⟨by omega, by omega⟩ dL_four_34 (rest := [.int (xm_J (xm_or (xm_or (xm_shli (xm_atv σ v c k) (24 : Int)) (xm_shli (xm_atv σ v c (k + 1)) (16 : Int))) (xm_shli (xm_atv σ v c (k + 2)) (8 : Int))))]) rfl rfl (by simp [Value.category]) rfl rfl (st2 := fun o => [.int (xm_J o.2)] ++ [.int (xm_J (xm_or (xm_or (xm_shli (xm_atv σ v c k) (24 : Int)) (xm_shli (xm_atv σ v c (k + 1)) (16 : Int))) (xm_shli (xm_atv σ v c (k + 2)) (8 : Int))))]) (fun _ => rfl) (fun hf3 => ?_)
    try dsimp only
    refine xg_stk (st' := [.int (xm_J (xm_atv σ v c (k + 3))), .int (xm_J (xm_or (xm_or (xm_shli (xm_atv σ v c k) (24 : Int)) (xm_shli (xm_atv σ v c (k + 1)) (16 : Int))) (xm_shli (xm_atv σ v c (k + 2)) (8 : Int))))]) rfl ?_
    refine xg_ior hC dL_four_37 ?_
    exact xg_iret hC hQ (xm_or_in _ _) dL_four_38) _ rfl
theorem ml_born {d : Nat} {s f m : Int} (hd : d ≤ 99999) (hs : 0 ≤ s ∧ s ≤ 1) (hf : -1 ≤ f ∧ f ≤ 99) (hm : -1 ≤ m ∧ m ≤ 99) (hJ : xm_JI I) (h : xm_SB σ v 34 0) : xm_M Γ I la yL_born cL_born 5 (some (.object "java/lang/StringBuilder")) 7 0 0 [.ref (xm_ad Γ 84), .int (xm_J (d : Int)), .int (xm_J s), .int (xm_J f), .int (xm_J m)] σ 7 (xm_aps σ v 0 (xm_bP d s f m), 0) :=
  xg_enter (by decide) (by simp [lg_sl, Value.category]) (fun X hG hI hla hC hQ hname => by
    subst hG
    subst hI
    have hI : xx_I X = xx_I X := rfl
    have hd9 : xm_in (d : Int) := ⟨by omega, by omega⟩
    have hs9 : xm_in s := ⟨by omega, by omega⟩
    have hf8 : xm_in f := ⟨by omega, by omega⟩
    have hm9 : xm_in m := ⟨by omega, by omega⟩
    have e19 : xm_pl (0, 19) = 5 := by decide
    have e20 : xm_pl (0, 20) = 9 := by decide
    have e21 : xm_pl (0, 21) = 11 := by decide
    have e22 : xm_pl (0, 22) = 9 := by decide
    have e23 : xm_pl (0, 23) = 5 := by decide
    have e12 : xm_pl (0, 12) = 4 := by decide
    have ed := xm_pl1 d
    have ef := xm_pl2 (w := f.toNat) (by omega)
    have em := xm_pl2 (w := m.toNat) (by omega)
    refine xg_pick [0, 1, 2, 3, 4] (l' := [(0, .ref (xm_ad (xx_G X) 84)), (1, .int (xm_J (d : Int))), (2, .int (xm_J s)), (3, .int (xm_J f)), (4, .int (xm_J m))]) rfl ?_
    refine xg_aload_n hC dL_born_0 rfl ?_
    refine xg_ldcS hC (i := 45) (id := 19) (by decide) dL_born_1 ?_
    refine xg_callV1 hC (ci := 10) (mb_ap0 (i := 19) (by decide) hJ h (by omega)) xl_M_L_47 xl_V_J4_append_15ec4 rfl (xm_h84a hI hJ) (by decide) rfl (by decide) ⟨by omega, by omega⟩ dL_born_3 (rest := []) rfl rfl (by simp [Value.category]) rfl rfl (st2 := fun o => [.ref (xm_ad (xx_G X) 84)] ++ []) (fun _ => rfl) (fun hf9 => ?_)
    try dsimp only
    refine xg_stk (st' := [.ref (xm_ad (xx_G X) 84)]) rfl ?_
    have h1 := xm_ap_SB (p := (0, 19)) h (xm_po0 (by decide)) (by omega)
    refine xg_iload_n hC dL_born_6 rfl ?_
    refine xg_callV1 hC (ci := 10) (mb_ap1 (i := d) hd hJ h1 (by omega)) xl_M_L_51 xl_V_J4_append_bf812 rfl (xm_h84a hI hJ) (by decide) rfl (by decide) ⟨by omega, by omega⟩ dL_born_7 (rest := []) rfl rfl (by simp [Value.category]) rfl rfl (st2 := fun o => [.ref (xm_ad (xx_G X) 84)] ++ []) (fun _ => rfl) (fun hf9 => ?_)
    try dsimp only
    refine xg_stk (st' := [.ref (xm_ad (xx_G X) 84)]) rfl ?_
    have h2 := xm_ap_SB (p := (1, d)) h1 (xm_po1 hd) (by omega)
    refine xg_iload_n hC dL_born_10 rfl ?_
    by_cases hsx : s = 0
    · refine xg_if_eqJ hC hs9 19 dL_born_11 rfl hsx ?_
      refine xg_ldcS hC (i := 56) (id := 21) (by decide) dL_born_19 ?_
      refine xg_callV1 hC (ci := 10) (mb_ap0 (i := 21) (by decide) hJ h2 (by omega)) xl_M_L_47 xl_V_J4_append_15ec4 rfl (xm_h84a hI hJ) (by decide) rfl (by decide) ⟨by omega, by omega⟩ dL_born_21 (rest := []) rfl rfl (by simp [Value.category]) rfl rfl (st2 := fun o => [.ref (xm_ad (xx_G X) 84)] ++ []) (fun _ => rfl) (fun hf9 => ?_)
      try dsimp only
      refine xg_stk (st' := [.ref (xm_ad (xx_G X) 84)]) rfl ?_
      have h3 := xm_ap_SB (p := (0, 21)) h2 (xm_po0 (by decide)) (by omega)
      refine xg_pop hC dL_born_24 rfl ?_
      refine xg_iload_n hC dL_born_25 rfl ?_
      by_cases hfx : f < 0
      · refine xg_if_geN hC hf8 39 dL_born_26 rfl (by omega) ?_
        refine xg_aload_n hC dL_born_29 rfl ?_
        refine xg_ldcS hC (i := 58) (id := 22) (by decide) dL_born_30 ?_
        refine xg_callV1 hC (ci := 10) (mb_ap0 (i := 22) (by decide) hJ h3 (by omega)) xl_M_L_47 xl_V_J4_append_15ec4 rfl (xm_h84a hI hJ) (by decide) rfl (by decide) ⟨by omega, by omega⟩ dL_born_32 (rest := []) rfl rfl (by simp [Value.category]) rfl rfl (st2 := fun o => [.ref (xm_ad (xx_G X) 84)] ++ []) (fun _ => rfl) (fun hf9 => ?_)
        try dsimp only
        refine xg_stk (st' := [.ref (xm_ad (xx_G X) 84)]) rfl ?_
        have h4 := xm_ap_SB (p := (0, 22)) h3 (xm_po0 (by decide)) (by omega)
        refine xg_pop hC dL_born_35 rfl ?_
        refine xg_goto hC 50 dL_born_36 rfl ?_
        refine xg_iload hC dL_born_50 rfl ?_
        by_cases hmx : m < 0
        · refine xg_if_geN hC hm9 64 dL_born_52 rfl (by omega) ?_
          refine xg_aload_n hC dL_born_55 rfl ?_
          refine xg_ldcS hC (i := 62) (id := 12) (by decide) dL_born_56 ?_
          refine xg_callV1 hC (ci := 10) (mb_ap0 (i := 12) (by decide) hJ h4 (by omega)) xl_M_L_47 xl_V_J4_append_15ec4 rfl (xm_h84a hI hJ) (by decide) rfl (by decide) ⟨by omega, by omega⟩ dL_born_58 (rest := []) rfl rfl (by simp [Value.category]) rfl rfl (st2 := fun o => [.ref (xm_ad (xx_G X) 84)] ++ []) (fun _ => rfl) (fun hf9 => ?_)
          try dsimp only
          refine xg_stk (st' := [.ref (xm_ad (xx_G X) 84)]) rfl ?_
          have h5 := xm_ap_SB (p := (0, 12)) h4 (xm_po0 (by decide)) (by omega)
          refine xg_goto hC 70 dL_born_61 rfl ?_
          rw [show xm_aps σ v 0 (xm_bP d s f m) = (xm_ap (xm_ap (xm_ap (xm_ap (xm_ap σ v (0) (0, 19)) v (0 + xm_pl (0, 19)) (1, d)) v (0 + xm_pl (0, 19) + xm_pl (1, d)) (0, 21)) v (0 + xm_pl (0, 19) + xm_pl (1, d) + xm_pl (0, 21)) (0, 22)) v (0 + xm_pl (0, 19) + xm_pl (1, d) + xm_pl (0, 21) + xm_pl (0, 22)) (0, 12)) from by rw [xm_bP, if_pos hsx, if_pos hfx, if_pos hmx]; rfl]
          exact xg_aret (rk := 7) (v := 0) hC hQ (Or.inl ⟨_, rfl⟩) rfl trivial dL_born_70
        · refine xg_if_geJ hC hm9 64 dL_born_52 rfl (by omega) ?_
          refine xg_aload_n hC dL_born_64 rfl ?_
          refine xg_iload hC dL_born_65 rfl ?_
          refine xg_top (w := ((m.toNat : Nat) : Int)) (by omega) ?_
          refine xg_callV1 hC (ci := 10) (mb_ap1 (i := m.toNat) (by omega) hJ h4 (by omega)) xl_M_L_51 xl_V_J4_append_bf812 rfl (xm_h84a hI hJ) (by decide) rfl (by decide) ⟨by omega, by omega⟩ dL_born_67 (rest := []) rfl rfl (by simp [Value.category]) rfl rfl (st2 := fun o => [.ref (xm_ad (xx_G X) 84)] ++ []) (fun _ => rfl) (fun hf9 => ?_)
          try dsimp only
          refine xg_stk (st' := [.ref (xm_ad (xx_G X) 84)]) rfl ?_
          have h5 := xm_ap_SB (p := (1, m.toNat)) h4 (xm_po1 (by omega)) (by omega)
          rw [show xm_aps σ v 0 (xm_bP d s f m) = (xm_ap (xm_ap (xm_ap (xm_ap (xm_ap σ v (0) (0, 19)) v (0 + xm_pl (0, 19)) (1, d)) v (0 + xm_pl (0, 19) + xm_pl (1, d)) (0, 21)) v (0 + xm_pl (0, 19) + xm_pl (1, d) + xm_pl (0, 21)) (0, 22)) v (0 + xm_pl (0, 19) + xm_pl (1, d) + xm_pl (0, 21) + xm_pl (0, 22)) (1, m.toNat)) from by rw [xm_bP, if_pos hsx, if_pos hfx, if_neg hmx]; rfl]
          exact xg_aret (rk := 7) (v := 0) hC hQ (Or.inl ⟨_, rfl⟩) rfl trivial dL_born_70
      · refine xg_if_geJ hC hf8 39 dL_born_26 rfl (by omega) ?_
        refine xg_aload_n hC dL_born_39 rfl ?_
        refine xg_iload_n hC dL_born_40 rfl ?_
        refine xg_top (w := ((f.toNat : Nat) : Int)) (by omega) ?_
        refine xg_callV1 hC (ci := 10) (mb_ap1 (i := f.toNat) (by omega) hJ h3 (by omega)) xl_M_L_51 xl_V_J4_append_bf812 rfl (xm_h84a hI hJ) (by decide) rfl (by decide) ⟨by omega, by omega⟩ dL_born_41 (rest := []) rfl rfl (by simp [Value.category]) rfl rfl (st2 := fun o => [.ref (xm_ad (xx_G X) 84)] ++ []) (fun _ => rfl) (fun hf9 => ?_)
        try dsimp only
        refine xg_stk (st' := [.ref (xm_ad (xx_G X) 84)]) rfl ?_
        have h4 := xm_ap_SB (p := (1, f.toNat)) h3 (xm_po1 (by omega)) (by omega)
        refine xg_ldcS hC (i := 60) (id := 23) (by decide) dL_born_44 ?_
        refine xg_callV1 hC (ci := 10) (mb_ap0 (i := 23) (by decide) hJ h4 (by omega)) xl_M_L_47 xl_V_J4_append_15ec4 rfl (xm_h84a hI hJ) (by decide) rfl (by decide) ⟨by omega, by omega⟩ dL_born_46 (rest := []) rfl rfl (by simp [Value.category]) rfl rfl (st2 := fun o => [.ref (xm_ad (xx_G X) 84)] ++ []) (fun _ => rfl) (fun hf9 => ?_)
        try dsimp only
        refine xg_stk (st' := [.ref (xm_ad (xx_G X) 84)]) rfl ?_
        have h5 := xm_ap_SB (p := (0, 23)) h4 (xm_po0 (by decide)) (by omega)
        refine xg_pop hC dL_born_49 rfl ?_
        refine xg_iload hC dL_born_50 rfl ?_
        by_cases hmx : m < 0
        · refine xg_if_geN hC hm9 64 dL_born_52 rfl (by omega) ?_
          refine xg_aload_n hC dL_born_55 rfl ?_
          refine xg_ldcS hC (i := 62) (id := 12) (by decide) dL_born_56 ?_
          refine xg_callV1 hC (ci := 10) (mb_ap0 (i := 12) (by decide) hJ h5 (by omega)) xl_M_L_47 xl_V_J4_append_15ec4 rfl (xm_h84a hI hJ) (by decide) rfl (by decide) ⟨by omega, by omega⟩ dL_born_58 (rest := []) rfl rfl (by simp [Value.category]) rfl rfl (st2 := fun o => [.ref (xm_ad (xx_G X) 84)] ++ []) (fun _ => rfl) (fun hf9 => ?_)
          try dsimp only
          refine xg_stk (st' := [.ref (xm_ad (xx_G X) 84)]) rfl ?_
          have h6 := xm_ap_SB (p := (0, 12)) h5 (xm_po0 (by decide)) (by omega)
          refine xg_goto hC 70 dL_born_61 rfl ?_
          rw [show xm_aps σ v 0 (xm_bP d s f m) = (xm_ap (xm_ap (xm_ap (xm_ap (xm_ap (xm_ap σ v (0) (0, 19)) v (0 + xm_pl (0, 19)) (1, d)) v (0 + xm_pl (0, 19) + xm_pl (1, d)) (0, 21)) v (0 + xm_pl (0, 19) + xm_pl (1, d) + xm_pl (0, 21)) (1, f.toNat)) v (0 + xm_pl (0, 19) + xm_pl (1, d) + xm_pl (0, 21) + xm_pl (1, f.toNat)) (0, 23)) v (0 + xm_pl (0, 19) + xm_pl (1, d) + xm_pl (0, 21) + xm_pl (1, f.toNat) + xm_pl (0, 23)) (0, 12)) from by rw [xm_bP, if_pos hsx, if_neg hfx, if_pos hmx]; rfl]
          exact xg_aret (rk := 7) (v := 0) hC hQ (Or.inl ⟨_, rfl⟩) rfl trivial dL_born_70
        · refine xg_if_geJ hC hm9 64 dL_born_52 rfl (by omega) ?_
          refine xg_aload_n hC dL_born_64 rfl ?_
          refine xg_iload hC dL_born_65 rfl ?_
          refine xg_top (w := ((m.toNat : Nat) : Int)) (by omega) ?_
          refine xg_callV1 hC (ci := 10) (mb_ap1 (i := m.toNat) (by omega) hJ h5 (by omega)) xl_M_L_51 xl_V_J4_append_bf812 rfl (xm_h84a hI hJ) (by decide) rfl (by decide) ⟨by omega, by omega⟩ dL_born_67 (rest := []) rfl rfl (by simp [Value.category]) rfl rfl (st2 := fun o => [.ref (xm_ad (xx_G X) 84)] ++ []) (fun _ => rfl) (fun hf9 => ?_)
          try dsimp only
          refine xg_stk (st' := [.ref (xm_ad (xx_G X) 84)]) rfl ?_
          have h6 := xm_ap_SB (p := (1, m.toNat)) h5 (xm_po1 (by omega)) (by omega)
          rw [show xm_aps σ v 0 (xm_bP d s f m) = (xm_ap (xm_ap (xm_ap (xm_ap (xm_ap (xm_ap σ v (0) (0, 19)) v (0 + xm_pl (0, 19)) (1, d)) v (0 + xm_pl (0, 19) + xm_pl (1, d)) (0, 21)) v (0 + xm_pl (0, 19) + xm_pl (1, d) + xm_pl (0, 21)) (1, f.toNat)) v (0 + xm_pl (0, 19) + xm_pl (1, d) + xm_pl (0, 21) + xm_pl (1, f.toNat)) (0, 23)) v (0 + xm_pl (0, 19) + xm_pl (1, d) + xm_pl (0, 21) + xm_pl (1, f.toNat) + xm_pl (0, 23)) (1, m.toNat)) from by rw [xm_bP, if_pos hsx, if_neg hfx, if_neg hmx]; rfl]
          exact xg_aret (rk := 7) (v := 0) hC hQ (Or.inl ⟨_, rfl⟩) rfl trivial dL_born_70
    · refine xg_if_eqN hC hs9 19 dL_born_11 rfl hsx ?_
      refine xg_ldcS hC (i := 54) (id := 20) (by decide) dL_born_14 ?_
      refine xg_goto hC 21 dL_born_16 rfl ?_
      refine xg_callV1 hC (ci := 10) (mb_ap0 (i := 20) (by decide) hJ h2 (by omega)) xl_M_L_47 xl_V_J4_append_15ec4 rfl (xm_h84a hI hJ) (by decide) rfl (by decide) ⟨by omega, by omega⟩ dL_born_21 (rest := []) rfl rfl (by simp [Value.category]) rfl rfl (st2 := fun o => [.ref (xm_ad (xx_G X) 84)] ++ []) (fun _ => rfl) (fun hf9 => ?_)
      try dsimp only
      refine xg_stk (st' := [.ref (xm_ad (xx_G X) 84)]) rfl ?_
      have h3 := xm_ap_SB (p := (0, 20)) h2 (xm_po0 (by decide)) (by omega)
      refine xg_pop hC dL_born_24 rfl ?_
      refine xg_iload_n hC dL_born_25 rfl ?_
      by_cases hfx : f < 0
      · refine xg_if_geN hC hf8 39 dL_born_26 rfl (by omega) ?_
        refine xg_aload_n hC dL_born_29 rfl ?_
        refine xg_ldcS hC (i := 58) (id := 22) (by decide) dL_born_30 ?_
        refine xg_callV1 hC (ci := 10) (mb_ap0 (i := 22) (by decide) hJ h3 (by omega)) xl_M_L_47 xl_V_J4_append_15ec4 rfl (xm_h84a hI hJ) (by decide) rfl (by decide) ⟨by omega, by omega⟩ dL_born_32 (rest := []) rfl rfl (by simp [Value.category]) rfl rfl (st2 := fun o => [.ref (xm_ad (xx_G X) 84)] ++ []) (fun _ => rfl) (fun hf9 => ?_)
        try dsimp only
        refine xg_stk (st' := [.ref (xm_ad (xx_G X) 84)]) rfl ?_
        have h4 := xm_ap_SB (p := (0, 22)) h3 (xm_po0 (by decide)) (by omega)
        refine xg_pop hC dL_born_35 rfl ?_
        refine xg_goto hC 50 dL_born_36 rfl ?_
        refine xg_iload hC dL_born_50 rfl ?_
        by_cases hmx : m < 0
        · refine xg_if_geN hC hm9 64 dL_born_52 rfl (by omega) ?_
          refine xg_aload_n hC dL_born_55 rfl ?_
          refine xg_ldcS hC (i := 62) (id := 12) (by decide) dL_born_56 ?_
          refine xg_callV1 hC (ci := 10) (mb_ap0 (i := 12) (by decide) hJ h4 (by omega)) xl_M_L_47 xl_V_J4_append_15ec4 rfl (xm_h84a hI hJ) (by decide) rfl (by decide) ⟨by omega, by omega⟩ dL_born_58 (rest := []) rfl rfl (by simp [Value.category]) rfl rfl (st2 := fun o => [.ref (xm_ad (xx_G X) 84)] ++ []) (fun _ => rfl) (fun hf9 => ?_)
          try dsimp only
          refine xg_stk (st' := [.ref (xm_ad (xx_G X) 84)]) rfl ?_
          have h5 := xm_ap_SB (p := (0, 12)) h4 (xm_po0 (by decide)) (by omega)
          refine xg_goto hC 70 dL_born_61 rfl ?_
          rw [show xm_aps σ v 0 (xm_bP d s f m) = (xm_ap (xm_ap (xm_ap (xm_ap (xm_ap σ v (0) (0, 19)) v (0 + xm_pl (0, 19)) (1, d)) v (0 + xm_pl (0, 19) + xm_pl (1, d)) (0, 20)) v (0 + xm_pl (0, 19) + xm_pl (1, d) + xm_pl (0, 20)) (0, 22)) v (0 + xm_pl (0, 19) + xm_pl (1, d) + xm_pl (0, 20) + xm_pl (0, 22)) (0, 12)) from by rw [xm_bP, if_neg hsx, if_pos hfx, if_pos hmx]; rfl]
          exact xg_aret (rk := 7) (v := 0) hC hQ (Or.inl ⟨_, rfl⟩) rfl trivial dL_born_70
        · refine xg_if_geJ hC hm9 64 dL_born_52 rfl (by omega) ?_
          refine xg_aload_n hC dL_born_64 rfl ?_
          refine xg_iload hC dL_born_65 rfl ?_
          refine xg_top (w := ((m.toNat : Nat) : Int)) (by omega) ?_
          refine xg_callV1 hC (ci := 10) (mb_ap1 (i := m.toNat) (by omega) hJ h4 (by omega)) xl_M_L_51 xl_V_J4_append_bf812 rfl (xm_h84a hI hJ) (by decide) rfl (by decide) ⟨by omega, by omega⟩ dL_born_67 (rest := []) rfl rfl (by simp [Value.category]) rfl rfl (st2 := fun o => [.ref (xm_ad (xx_G X) 84)] ++ []) (fun _ => rfl) (fun hf9 => ?_)
          try dsimp only
          refine xg_stk (st' := [.ref (xm_ad (xx_G X) 84)]) rfl ?_
          have h5 := xm_ap_SB (p := (1, m.toNat)) h4 (xm_po1 (by omega)) (by omega)
          rw [show xm_aps σ v 0 (xm_bP d s f m) = (xm_ap (xm_ap (xm_ap (xm_ap (xm_ap σ v (0) (0, 19)) v (0 + xm_pl (0, 19)) (1, d)) v (0 + xm_pl (0, 19) + xm_pl (1, d)) (0, 20)) v (0 + xm_pl (0, 19) + xm_pl (1, d) + xm_pl (0, 20)) (0, 22)) v (0 + xm_pl (0, 19) + xm_pl (1, d) + xm_pl (0, 20) + xm_pl (0, 22)) (1, m.toNat)) from by rw [xm_bP, if_neg hsx, if_pos hfx, if_neg hmx]; rfl]
          exact xg_aret (rk := 7) (v := 0) hC hQ (Or.inl ⟨_, rfl⟩) rfl trivial dL_born_70
      · refine xg_if_geJ hC hf8 39 dL_born_26 rfl (by omega) ?_
        refine xg_aload_n hC dL_born_39 rfl ?_
        refine xg_iload_n hC dL_born_40 rfl ?_
        refine xg_top (w := ((f.toNat : Nat) : Int)) (by omega) ?_
        refine xg_callV1 hC (ci := 10) (mb_ap1 (i := f.toNat) (by omega) hJ h3 (by omega)) xl_M_L_51 xl_V_J4_append_bf812 rfl (xm_h84a hI hJ) (by decide) rfl (by decide) ⟨by omega, by omega⟩ dL_born_41 (rest := []) rfl rfl (by simp [Value.category]) rfl rfl (st2 := fun o => [.ref (xm_ad (xx_G X) 84)] ++ []) (fun _ => rfl) (fun hf9 => ?_)
        try dsimp only
        refine xg_stk (st' := [.ref (xm_ad (xx_G X) 84)]) rfl ?_
        have h4 := xm_ap_SB (p := (1, f.toNat)) h3 (xm_po1 (by omega)) (by omega)
        refine xg_ldcS hC (i := 60) (id := 23) (by decide) dL_born_44 ?_
        refine xg_callV1 hC (ci := 10) (mb_ap0 (i := 23) (by decide) hJ h4 (by omega)) xl_M_L_47 xl_V_J4_append_15ec4 rfl (xm_h84a hI hJ) (by decide) rfl (by decide) ⟨by omega, by omega⟩ dL_born_46 (rest := []) rfl rfl (by simp [Value.category]) rfl rfl (st2 := fun o => [.ref (xm_ad (xx_G X) 84)] ++ []) (fun _ => rfl) (fun hf9 => ?_)
        try dsimp only
        refine xg_stk (st' := [.ref (xm_ad (xx_G X) 84)]) rfl ?_
        have h5 := xm_ap_SB (p := (0, 23)) h4 (xm_po0 (by decide)) (by omega)
        refine xg_pop hC dL_born_49 rfl ?_
        refine xg_iload hC dL_born_50 rfl ?_
        by_cases hmx : m < 0
        · refine xg_if_geN hC hm9 64 dL_born_52 rfl (by omega) ?_
          refine xg_aload_n hC dL_born_55 rfl ?_
          refine xg_ldcS hC (i := 62) (id := 12) (by decide) dL_born_56 ?_
          refine xg_callV1 hC (ci := 10) (mb_ap0 (i := 12) (by decide) hJ h5 (by omega)) xl_M_L_47 xl_V_J4_append_15ec4 rfl (xm_h84a hI hJ) (by decide) rfl (by decide) ⟨by omega, by omega⟩ dL_born_58 (rest := []) rfl rfl (by simp [Value.category]) rfl rfl (st2 := fun o => [.ref (xm_ad (xx_G X) 84)] ++ []) (fun _ => rfl) (fun hf9 => ?_)
          try dsimp only
          refine xg_stk (st' := [.ref (xm_ad (xx_G X) 84)]) rfl ?_
          have h6 := xm_ap_SB (p := (0, 12)) h5 (xm_po0 (by decide)) (by omega)
          refine xg_goto hC 70 dL_born_61 rfl ?_
          rw [show xm_aps σ v 0 (xm_bP d s f m) = (xm_ap (xm_ap (xm_ap (xm_ap (xm_ap (xm_ap σ v (0) (0, 19)) v (0 + xm_pl (0, 19)) (1, d)) v (0 + xm_pl (0, 19) + xm_pl (1, d)) (0, 20)) v (0 + xm_pl (0, 19) + xm_pl (1, d) + xm_pl (0, 20)) (1, f.toNat)) v (0 + xm_pl (0, 19) + xm_pl (1, d) + xm_pl (0, 20) + xm_pl (1, f.toNat)) (0, 23)) v (0 + xm_pl (0, 19) + xm_pl (1, d) + xm_pl (0, 20) + xm_pl (1, f.toNat) + xm_pl (0, 23)) (0, 12)) from by rw [xm_bP, if_neg hsx, if_neg hfx, if_pos hmx]; rfl]
          exact xg_aret (rk := 7) (v := 0) hC hQ (Or.inl ⟨_, rfl⟩) rfl trivial dL_born_70
        · refine xg_if_geJ hC hm9 64 dL_born_52 rfl (by omega) ?_
          refine xg_aload_n hC dL_born_64 rfl ?_
          refine xg_iload hC dL_born_65 rfl ?_
          refine xg_top (w := ((m.toNat : Nat) : Int)) (by omega) ?_
          refine xg_callV1 hC (ci := 10) (mb_ap1 (i := m.toNat) (by omega) hJ h5 (by omega)) xl_M_L_51 xl_V_J4_append_bf812 rfl (xm_h84a hI hJ) (by decide) rfl (by decide) ⟨by omega, by omega⟩ dL_born_67 (rest := []) rfl rfl (by simp [Value.category]) rfl rfl (st2 := fun o => [.ref (xm_ad (xx_G X) 84)] ++ []) (fun _ => rfl) (fun hf9 => ?_)
          try dsimp only
          refine xg_stk (st' := [.ref (xm_ad (xx_G X) 84)]) rfl ?_
          have h6 := xm_ap_SB (p := (1, m.toNat)) h5 (xm_po1 (by omega)) (by omega)
          rw [show xm_aps σ v 0 (xm_bP d s f m) = (xm_ap (xm_ap (xm_ap (xm_ap (xm_ap (xm_ap σ v (0) (0, 19)) v (0 + xm_pl (0, 19)) (1, d)) v (0 + xm_pl (0, 19) + xm_pl (1, d)) (0, 20)) v (0 + xm_pl (0, 19) + xm_pl (1, d) + xm_pl (0, 20)) (1, f.toNat)) v (0 + xm_pl (0, 19) + xm_pl (1, d) + xm_pl (0, 20) + xm_pl (1, f.toNat)) (0, 23)) v (0 + xm_pl (0, 19) + xm_pl (1, d) + xm_pl (0, 20) + xm_pl (1, f.toNat) + xm_pl (0, 23)) (1, m.toNat)) from by rw [xm_bP, if_neg hsx, if_neg hfx, if_neg hmx]; rfl]
          exact xg_aret (rk := 7) (v := 0) hC hQ (Or.inl ⟨_, rfl⟩) rfl trivial dL_born_70) _ rfl
theorem ml_text {i d a : Nat} {q : Int} (hi : i < 24) (hd : d ≤ 99999) (hi5 : xm_ln.getD i 0 ≤ 5) (ha : a ≤ 99) (hq : -1 ≤ q ∧ q ≤ 99) (hJ : xm_JI I) (h : xm_SB σ v 34 0) : xm_M Γ I la yL_text cL_text 5 (some (.object "java/lang/StringBuilder")) 7 0 0 [.ref (xm_ad Γ 84), .ref (xm_adK Γ i), .int (xm_J (d : Int)), .int (xm_J (a : Int)), .int (xm_J q)] σ 7 (xm_aps σ v 0 (xm_tP i d a q), 0) :=
  xg_enter (by decide) (by simp [lg_sl, Value.category]) (fun X hG hI hla hC hQ hname => by
    subst hG
    subst hI
    have hI : xx_I X = xx_I X := rfl
    have hd9 : xm_in (d : Int) := ⟨by omega, by omega⟩
    have ha9 : xm_in (a : Int) := ⟨by omega, by omega⟩
    have hq9 : xm_in q := ⟨by omega, by omega⟩
    have e32 : xm_pl (2, 32) = 1 := by decide
    have ei : xm_pl (0, i) ≤ 5 := hi5
    have ed := xm_pl1 d
    have ea := xm_pl2 (w := a) ha
    have eq := xm_pl2 (w := q.toNat) (by omega)
    refine xg_pick [0, 1, 2, 3, 4] (l' := [(0, .ref (xm_ad (xx_G X) 84)), (1, .ref (xm_adK (xx_G X) i)), (2, .int (xm_J (d : Int))), (3, .int (xm_J (a : Int))), (4, .int (xm_J q))]) rfl ?_
    refine xg_aload_n hC dL_text_0 rfl ?_
    refine xg_aload_n hC dL_text_1 rfl ?_
    refine xg_callV1 hC (ci := 10) (mb_ap0 (i := i) hi hJ h (by omega)) xl_M_L_47 xl_V_J4_append_15ec4 rfl (xm_h84a hI hJ) (by decide) rfl (by decide) ⟨by omega, by omega⟩ dL_text_2 (rest := []) rfl rfl (by simp [Value.category]) rfl rfl (st2 := fun o => [.ref (xm_ad (xx_G X) 84)] ++ []) (fun _ => rfl) (fun hf9 => ?_)
    try dsimp only
    refine xg_stk (st' := [.ref (xm_ad (xx_G X) 84)]) rfl ?_
    have h1 := xm_ap_SB (p := (0, i)) h (xm_po0 hi) (by omega)
    refine xg_bipush hC dL_text_5 (by decide) ?_
    refine xg_callV1 hC (ci := 10) (mb_ap2 (i := 32) (by decide) hJ h1 (by omega)) xl_M_L_64 xl_V_J4_append_cf468 rfl (xm_h84a hI hJ) (by decide) rfl (by decide) ⟨by omega, by omega⟩ dL_text_7 (rest := []) rfl rfl (by simp [Value.category]) rfl rfl (st2 := fun o => [.ref (xm_ad (xx_G X) 84)] ++ []) (fun _ => rfl) (fun hf9 => ?_)
    try dsimp only
    refine xg_stk (st' := [.ref (xm_ad (xx_G X) 84)]) rfl ?_
    have h2 := xm_ap_SB (p := (2, 32)) h1 (xm_po2 (by decide)) (by omega)
    refine xg_iload_n hC dL_text_10 rfl ?_
    refine xg_callV1 hC (ci := 10) (mb_ap1 (i := d) hd hJ h2 (by omega)) xl_M_L_51 xl_V_J4_append_bf812 rfl (xm_h84a hI hJ) (by decide) rfl (by decide) ⟨by omega, by omega⟩ dL_text_11 (rest := []) rfl rfl (by simp [Value.category]) rfl rfl (st2 := fun o => [.ref (xm_ad (xx_G X) 84)] ++ []) (fun _ => rfl) (fun hf9 => ?_)
    try dsimp only
    refine xg_stk (st' := [.ref (xm_ad (xx_G X) 84)]) rfl ?_
    have h3 := xm_ap_SB (p := (1, d)) h2 (xm_po1 hd) (by omega)
    refine xg_bipush hC dL_text_14 (by decide) ?_
    refine xg_callV1 hC (ci := 10) (mb_ap2 (i := 32) (by decide) hJ h3 (by omega)) xl_M_L_64 xl_V_J4_append_cf468 rfl (xm_h84a hI hJ) (by decide) rfl (by decide) ⟨by omega, by omega⟩ dL_text_16 (rest := []) rfl rfl (by simp [Value.category]) rfl rfl (st2 := fun o => [.ref (xm_ad (xx_G X) 84)] ++ []) (fun _ => rfl) (fun hf9 => ?_)
    try dsimp only
    refine xg_stk (st' := [.ref (xm_ad (xx_G X) 84)]) rfl ?_
    have h4 := xm_ap_SB (p := (2, 32)) h3 (xm_po2 (by decide)) (by omega)
    refine xg_iload_n hC dL_text_19 rfl ?_
    refine xg_callV1 hC (ci := 10) (mb_ap1 (i := a) (by omega) hJ h4 (by omega)) xl_M_L_51 xl_V_J4_append_bf812 rfl (xm_h84a hI hJ) (by decide) rfl (by decide) ⟨by omega, by omega⟩ dL_text_20 (rest := []) rfl rfl (by simp [Value.category]) rfl rfl (st2 := fun o => [.ref (xm_ad (xx_G X) 84)] ++ []) (fun _ => rfl) (fun hf9 => ?_)
    try dsimp only
    refine xg_stk (st' := [.ref (xm_ad (xx_G X) 84)]) rfl ?_
    have h5 := xm_ap_SB (p := (1, a)) h4 (xm_po1 (by omega)) (by omega)
    refine xg_pop hC dL_text_23 rfl ?_
    refine xg_iload hC dL_text_24 rfl ?_
    by_cases hqx : q < 0
    · refine xg_if_geN hC hq9 33 dL_text_26 rfl (by omega) ?_
      refine xg_aload_n hC dL_text_29 rfl ?_
      refine xg_goto hC 44 dL_text_30 rfl ?_
      rw [show xm_aps σ v 0 (xm_tP i d a q) = (xm_ap (xm_ap (xm_ap (xm_ap (xm_ap σ v (0) (0, i)) v (0 + xm_pl (0, i)) (2, 32)) v (0 + xm_pl (0, i) + xm_pl (2, 32)) (1, d)) v (0 + xm_pl (0, i) + xm_pl (2, 32) + xm_pl (1, d)) (2, 32)) v (0 + xm_pl (0, i) + xm_pl (2, 32) + xm_pl (1, d) + xm_pl (2, 32)) (1, a)) from by rw [xm_tP, if_pos hqx]; rfl]
      exact xg_aret (rk := 7) (v := 0) hC hQ (Or.inl ⟨_, rfl⟩) rfl trivial dL_text_44
    · refine xg_if_geJ hC hq9 33 dL_text_26 rfl (by omega) ?_
      refine xg_aload_n hC dL_text_33 rfl ?_
      refine xg_bipush hC dL_text_34 (by decide) ?_
      refine xg_callV1 hC (ci := 10) (mb_ap2 (i := 32) (by decide) hJ h5 (by omega)) xl_M_L_64 xl_V_J4_append_cf468 rfl (xm_h84a hI hJ) (by decide) rfl (by decide) ⟨by omega, by omega⟩ dL_text_36 (rest := []) rfl rfl (by simp [Value.category]) rfl rfl (st2 := fun o => [.ref (xm_ad (xx_G X) 84)] ++ []) (fun _ => rfl) (fun hf9 => ?_)
      try dsimp only
      refine xg_stk (st' := [.ref (xm_ad (xx_G X) 84)]) rfl ?_
      have h6 := xm_ap_SB (p := (2, 32)) h5 (xm_po2 (by decide)) (by omega)
      refine xg_iload hC dL_text_39 rfl ?_
      refine xg_top (w := ((q.toNat : Nat) : Int)) (by omega) ?_
      refine xg_callV1 hC (ci := 10) (mb_ap1 (i := q.toNat) (by omega) hJ h6 (by omega)) xl_M_L_51 xl_V_J4_append_bf812 rfl (xm_h84a hI hJ) (by decide) rfl (by decide) ⟨by omega, by omega⟩ dL_text_41 (rest := []) rfl rfl (by simp [Value.category]) rfl rfl (st2 := fun o => [.ref (xm_ad (xx_G X) 84)] ++ []) (fun _ => rfl) (fun hf9 => ?_)
      try dsimp only
      refine xg_stk (st' := [.ref (xm_ad (xx_G X) 84)]) rfl ?_
      have h7 := xm_ap_SB (p := (1, q.toNat)) h6 (xm_po1 (by omega)) (by omega)
      rw [show xm_aps σ v 0 (xm_tP i d a q) = (xm_ap (xm_ap (xm_ap (xm_ap (xm_ap (xm_ap (xm_ap σ v (0) (0, i)) v (0 + xm_pl (0, i)) (2, 32)) v (0 + xm_pl (0, i) + xm_pl (2, 32)) (1, d)) v (0 + xm_pl (0, i) + xm_pl (2, 32) + xm_pl (1, d)) (2, 32)) v (0 + xm_pl (0, i) + xm_pl (2, 32) + xm_pl (1, d) + xm_pl (2, 32)) (1, a)) v (0 + xm_pl (0, i) + xm_pl (2, 32) + xm_pl (1, d) + xm_pl (2, 32) + xm_pl (1, a)) (2, 32)) v (0 + xm_pl (0, i) + xm_pl (2, 32) + xm_pl (1, d) + xm_pl (2, 32) + xm_pl (1, a) + xm_pl (2, 32)) (1, q.toNat)) from by rw [xm_tP, if_neg hqx]; rfl]
      exact xg_aret (rk := 7) (v := 0) hC hQ (Or.inl ⟨_, rfl⟩) rfl trivial dL_text_44) _ rfl
end XLM
