/-! ===== the text that the law builds: its object (84), its bytes (85, then 89) ===== -/
theorem xp_w {x : Int} (h1 : -2147483648 ≤ x) (h2 : x ≤ 2147483647) : xm_w x = x := xm_w_id ⟨h1, h2⟩
/-- what an invariant must bear for the builder's methods -/
def xm_JI (I : xm_Mem → Prop) : Prop := (∀ σ, I σ → 84 ≤ σ.2.2) ∧ (∀ σ σ', I σ → (∀ a k, ¬ (84 ≤ a ∧ a ≤ 89) → σ'.1 a k = σ.1 a k) → σ'.2 = σ.2 → I σ') ∧ ∀ σ, I σ → I (xm_nw σ)
/-- the builder: its row of bytes, how many it can hold, how many it has -/
def xm_SB (σ : xm_Mem) (v n c : Nat) : Prop := σ.1 84 0 = (v : Int) ∧ σ.1 84 1 = 0 ∧ σ.1 84 3 = (c : Int) ∧ xm_lay v = (6, n) ∧ (84 ≤ v ∧ v ≤ 89) ∧ v ≤ σ.2.2 ∧ c ≤ n ∧ n ≤ 34
theorem xm_va {σ : xm_Mem} {v n c : Nat} (h : xm_SB σ v n c) : 1 ≤ v ∧ v ≤ σ.2.2 := ⟨by have := h.2.2.2.2.1; omega, h.2.2.2.2.2.1⟩
theorem xm_c34 {σ : xm_Mem} {v n c : Nat} (h : xm_SB σ v n c) : xm_in (c : Int) := by have := h.2.2.2.2.2.2; exact ⟨by omega, by omega⟩
theorem xm_n34 {σ : xm_Mem} {v n c : Nat} (h : xm_SB σ v n c) : xm_in (n : Int) := by have := h.2.2.2.2.2.2; exact ⟨by omega, by omega⟩
theorem xm_rfv {Γ : xm_Gm} {σ : xm_Mem} {v n c : Nat} (h : xm_SB σ v n c) : xm_rf Γ (σ.1 84 0) = .ref (xm_ad Γ v) := by
  have := h.2.2.2.2.1
  rw [h.1, xm_rf_pos (by omega), Int.toNat_natCast]
theorem xm_shr34 {σ : xm_Mem} {v n c : Nat} (h : xm_SB σ v n c) : xm_shr (n : Int) 0 = (n : Int) := xm_shr0 n (by have := h.2.2.2.2.2.2; omega)
theorem xm_shli0 : ∀ n : Nat, n < 100 → xm_shli (n : Nat) 0 = n := by decide +kernel
theorem xm_by_chr : ∀ i, i < 24 → ∀ j, j < xm_ln.getD i 0 → (xm_by.getD i []).getD j 0 = xm_J (xm_chr ((i : Nat) : Int) ((j : Nat) : Int)) := by decide +kernel
theorem arrV_get {cA : ClassId} {n j : Nat} {f : Nat → Value} (h : j < n) : (arrV cA n f).slots[j]? = some (f j) := by
  unfold arrV
  simp [h]
theorem xm_SBcp {σ : xm_Mem} {v n c d k : Nat} {g : Nat → Int} (h : xm_SB σ v n c) : xm_SB (xm_cpm σ v d k g) v n c := by
  have h6 := h.2.2.2.1
  have e : ∀ j, (xm_cpm σ v d k g).1 84 j = σ.1 84 j := fun j => xm_cpm_ne (fun y => by
    rw [← y.1] at h6
    have h8 : (xm_lay 84).1 = 6 := by rw [h6]
    exact absurd h8 (by decide))
  exact ⟨by rw [e]; exact h.1, by rw [e]; exact h.2.1, by rw [e]; exact h.2.2.1, h6, h.2.2.2.2⟩
theorem xg_nn {X : xm_X} {own : String} {cc : ByteArray} {nL fr mc ms kc sc : Nat} {r : Option xm_Out} {σ : xm_Mem} {pc a : Nat} {l : List (Nat × Value)} {st : List Value} (hC : xm_C X own cc nL fr mc ms) {off : Int} (tgt : Nat) (hd : decode cc pc = .ok (.ifnonnull off, 3)) (ht : (pc : Int) + off = (tgt : Int)) (k : xm_V X kc sc r σ tgt l st) : xm_V X kc sc r σ pc l (.ref a :: st) :=
  fun o ho H locs ls hR hS hL => lv_ifnonnull hC.1 hC.2.1 hd ht (k o ho H locs ls hR hS hL)
section XJD
variable {X : xm_X} {I : xm_Mem → Prop} {σ : xm_Mem}
theorem xm_h84 (hI : xx_I X = I) (hJ : xm_JI I) : xm_has (xx_I X) 84 0 10 := by rw [hI]; exact ⟨fun σ h => ⟨by decide, hJ.1 σ h⟩, by decide⟩
theorem xm_h84a (hI : xx_I X = I) (hJ : xm_JI I) : xx_I X σ → 1 ≤ 84 ∧ 84 ≤ σ.2.2 := by rw [hI]; exact fun h => ⟨by decide, hJ.1 σ h⟩
theorem xm_kp84 (hI : xx_I X = I) (hJ : xm_JI I) {a k : Nat} {v : Int} (h : 84 ≤ a ∧ a ≤ 89) : xm_kp X σ a k v := by
  unfold xm_kp
  rw [hI]
  exact fun z => hJ.2.1 σ _ z (fun b j hb => xm_u1_ne σ v (fun y => hb (by rw [y.1]; exact h))) rfl
theorem xm_kpcp (hI : xx_I X = I) (hJ : xm_JI I) {a dp n : Nat} {g : Nat → Int} (h : 84 ≤ a ∧ a ≤ 89) : xx_I X σ → xx_I X (xm_cpm σ a dp n g) := by
  rw [hI]
  exact fun z => hJ.2.1 σ _ z (fun b j hb => xm_cpm_ne (fun y => hb (by rw [y.1]; exact h))) rfl
theorem xm_kpnw (hI : xx_I X = I) (hJ : xm_JI I) : xx_I X σ → xx_I X (xm_nw σ) := by rw [hI]; exact hJ.2.2 σ
/-- a byte row as the source of a copy -/
theorem xm_srcB {own : String} {cc : ByteArray} {nL fr mc ms : Nat} (hC : xm_C X own cc nL fr mc ms) {a n : Nat} (hl : xm_lay a = (6, n)) (ha : 1 ≤ a ∧ a ≤ σ.2.2) : ∀ (H : Heap) (locs : List Loc), xm_R (xx_G X) (xx_I X) σ H → va_S (xm_A X) (xx_s X).heap H locs → ∃ cs : Cell, H[xm_ad (xx_G X) a]? = some cs ∧ (xx_s X).isArrayOf cs .byte ∧ cs.vm ≠ .unknown ∧ n ≤ cs.slots.size ∧ ∀ j, j < n → cs.slots[j]? = some (.int (xm_J (σ.1 a j))) := by
  intro H locs hR hS
  have h7 := xm_k7 hl (by decide)
  have hc := hR.1 a ha.1 ha.2 (Or.inl h7)
  rw [xm_cell_6 hl] at hc
  have hc : H[xm_ad (xx_G X) a]? = some (arrV (xm_cA (xx_G X) 6) n (fun j => .int (xm_J (σ.1 a j)))) := hc
  refine ⟨_, hc, (hC.2.2.2.2.2.1.1.2 5 _ rfl).1 n (fun j => .int (xm_J (σ.1 a j))), (fun q => by cases q), by rw [arrV_size]; exact Nat.le_refl _, fun j hj => ?_⟩
  exact arrV_get hj
/-- a text -/
theorem xm_srcT {own : String} {cc : ByteArray} {nL fr mc ms : Nat} (hC : xm_C X own cc nL fr mc ms) {i : Nat} (hi : i < 24) : ∀ (H : Heap) (locs : List Loc), xm_R (xx_G X) (xx_I X) σ H → va_S (xm_A X) (xx_s X).heap H locs → ∃ cs : Cell, H[xm_adV (xx_G X) i]? = some cs ∧ (xx_s X).isArrayOf cs .byte ∧ cs.vm ≠ .unknown ∧ xm_ln.getD i 0 ≤ cs.slots.size ∧ ∀ j, j < xm_ln.getD i 0 → cs.slots[j]? = some (.int (xm_J (xm_chr (i : Int) (j : Int)))) := by
  intro H locs hR hS
  obtain ⟨cell, h1, h2, h3, h4, h5, h6, h7⟩ := ((xm_S0 hC).1 i hi).2.2.2
  refine ⟨cell, by rw [hS.2.1 _ (Array.getElem?_eq_some_iff.mp h1).1 h7]; exact h1, h2, h3, h4, fun j hj => ?_⟩
  rw [h6 j hj]
  show some (Value.int ((xm_by.getD i []).getD j 0)) = _
  rw [xm_by_chr i hi j hj]
end XJD
section XJE
variable {Γ : xm_Gm} {I : xm_Mem → Prop} {la : Launch} {σ : xm_Mem} {v n c q : Nat}
theorem mj_isL (hJ : xm_JI I) (h : xm_SB σ v n c) : xm_M Γ I la yJ5_isLatin1_aae02 cJ5_isLatin1_aae02 1 (some .boolean) 1 0 0 [.ref (xm_ad Γ 84)] σ 2 (σ, 1) :=
  xg_enter (by decide) (by simp [lg_sl, Value.category]) (fun X hG hI hla hC hQ hname => by
    subst hG
    subst hI
    have hI : xx_I X = xx_I X := rfl
    refine xg_pick [0] (l' := [(0, .ref (xm_ad (xx_G X) 84))]) rfl ?_
    refine xg_gcB hC dJ5_isLatin1_aae02_0 ?_
    refine xg_if_eqN hC (xm_inc 1 rfl) 17 dJ5_isLatin1_aae02_3 rfl (by decide) ?_
    refine xg_aload_n hC dJ5_isLatin1_aae02_6 rfl ?_
    refine xg_getB hC (xm_h84 hI hJ) rfl xl_F_J5_22 dJ5_isLatin1_aae02_7 (fun _ => ?_)
    refine xg_top h.2.1 ?_
    refine xg_if_neN hC xm_in0 17 dJ5_isLatin1_aae02_10 rfl rfl ?_
    refine xg_iconst hC dJ5_isLatin1_aae02_13 ?_
    refine xg_goto hC 18 dJ5_isLatin1_aae02_14 rfl ?_
    exact xg_zret hC hQ (v := 1) (by decide) dJ5_isLatin1_aae02_18) _ rfl
theorem mj_canE {x : Int} (hx : 0 ≤ x ∧ x ≤ 127) : xm_M Γ I la yJ1_canEncode_fc78d cJ1_canEncode_fc78d 1 (some .boolean) 1 0 0 [.int (xm_J x)] σ 2 (σ, 1) :=
  xg_enter (by decide) (by simp [lg_sl, Value.category]) (fun X hG hI hla hC hQ hname => by
    subst hG
    subst hI
    have hI : xx_I X = xx_I X := rfl
    have hx9 : xm_in x := ⟨by omega, by omega⟩
    refine xg_pick [0] (l' := [(0, .int (xm_J x))]) rfl ?_
    refine xg_iload_n hC dJ1_canEncode_fc78d_0 rfl ?_
    refine xg_sipush hC dJ1_canEncode_fc78d_1 (by decide) ?_
    refine xg_icmp_gtN hC hx9 (xm_inc _ rfl) 11 dJ1_canEncode_fc78d_4 rfl (by omega) ?_
    refine xg_iconst hC dJ1_canEncode_fc78d_7 ?_
    refine xg_goto hC 12 dJ1_canEncode_fc78d_8 rfl ?_
    exact xg_zret hC hQ (v := 1) (by decide) dJ1_canEncode_fc78d_12) _ rfl
theorem mj_newLen (hq : 1 ≤ q ∧ q ≤ 18) : xm_M Γ I la yJ8_newLength_cabcc cJ8_newLength_cabcc 4 (some .int) 2 0 0 [.int (xm_J (16 : Int)), .int (xm_J (q : Int)), .int (xm_J (18 : Int))] σ 1 (σ, 34) :=
  xg_enter (by decide) (by simp [lg_sl, Value.category]) (fun X hG hI hla hC hQ hname => by
    subst hG
    subst hI
    have hI : xx_I X = xx_I X := rfl
    have hq9 : xm_in (q : Int) := ⟨by omega, by omega⟩
    refine xg_pick [0, 1, 2] (l' := [(0, .int (xm_J (16 : Int))), (1, .int (xm_J (q : Int))), (2, .int (xm_J (18 : Int)))]) rfl ?_
    refine xg_iload_n hC dJ8_newLength_cabcc_0 rfl ?_
    refine xg_iload_n hC dJ8_newLength_cabcc_1 rfl ?_
    refine xg_iload_n hC dJ8_newLength_cabcc_2 rfl ?_
    refine xg_max hC hq9 (xm_inc _ rfl) (by decide) xl_M_J8_194 ⟨by omega, by omega⟩ (by simp [Value.category]) dJ8_newLength_cabcc_3 ?_
    refine xg_top (w := (18 : Int)) (by unfold xm_max; split <;> omega) ?_
    refine xg_iadd hC dJ8_newLength_cabcc_6 ?_
    refine xg_top (w := (34 : Int)) (by decide +kernel) ?_
    refine xg_istore_n hC (l' := [(3, .int (xm_J (34 : Int))), (0, .int (xm_J (16 : Int))), (1, .int (xm_J (q : Int))), (2, .int (xm_J (18 : Int)))]) dJ8_newLength_cabcc_7 (by decide) rfl ?_
    refine xg_iconst hC dJ8_newLength_cabcc_8 ?_
    refine xg_iload_n hC dJ8_newLength_cabcc_9 rfl ?_
    refine xg_icmp_geN hC (xm_inc _ rfl) (xm_inc _ rfl) 21 dJ8_newLength_cabcc_10 rfl (by decide) ?_
    refine xg_iload_n hC dJ8_newLength_cabcc_13 rfl ?_
    refine xg_ldc hC dJ8_newLength_cabcc_14 xl_C_J8_200 ?_
    refine xg_icmp_gtN hC (xm_inc _ rfl) (xm_inc _ rfl) 21 dJ8_newLength_cabcc_16 rfl (by decide) ?_
    refine xg_iload_n hC dJ8_newLength_cabcc_19 rfl ?_
    exact xg_iret hC hQ (xm_inc 34 rfl) dJ8_newLength_cabcc_20) _ rfl
theorem mj_newCap (hJ : xm_JI I) (h : xm_SB σ v 16 c) (hq : 17 ≤ q ∧ q ≤ 34) : xm_M Γ I la yJ5_newCapacity_0f7a4 cJ5_newCapacity_0f7a4 6 (some .int) 3 0 0 [.ref (xm_ad Γ 84), .int (xm_J (q : Int))] σ 1 (σ, 34) :=
  xg_enter (by decide) (by simp [lg_sl, Value.category]) (fun X hG hI hla hC hQ hname => by
    subst hG
    subst hI
    have hI : xx_I X = xx_I X := rfl
    have hq9 : xm_in (q : Int) := ⟨by omega, by omega⟩
    refine xg_pick [0, 1] (l' := [(0, .ref (xm_ad (xx_G X) 84)), (1, .int (xm_J (q : Int)))]) rfl ?_
    refine xg_aload_n hC dJ5_newCapacity_0f7a4_0 rfl ?_
    refine xg_getR hC (xm_h84 hI hJ) rfl xl_F_J5_15 dJ5_newCapacity_0f7a4_1 (fun _ => ?_)
    refine xg_stk (st' := [.ref (xm_ad (xx_G X) v)]) (by rw [xm_rfv h]) ?_
    refine xg_balen hC h.2.2.2.1 (xm_va h) dJ5_newCapacity_0f7a4_4 ?_
    refine xg_top (w := (16 : Int)) rfl ?_
    refine xg_istore_n hC (l' := [(2, .int (xm_J (16 : Int))), (0, .ref (xm_ad (xx_G X) 84)), (1, .int (xm_J (q : Int)))]) dJ5_newCapacity_0f7a4_5 (by decide) rfl ?_
    refine xg_iload_n hC dJ5_newCapacity_0f7a4_6 rfl ?_
    refine xg_aload_n hC dJ5_newCapacity_0f7a4_7 rfl ?_
    refine xg_getB hC (xm_h84 hI hJ) rfl xl_F_J5_22 dJ5_newCapacity_0f7a4_8 (fun _ => ?_)
    refine xg_top h.2.1 ?_
    refine xg_ishl hC dJ5_newCapacity_0f7a4_11 ?_
    refine xg_top (w := (q : Int)) (xm_shli0 _ (by omega)) ?_
    refine xg_istore_n hC (l' := [(3, .int (xm_J (q : Int))), (2, .int (xm_J (16 : Int))), (0, .ref (xm_ad (xx_G X) 84)), (1, .int (xm_J (q : Int)))]) dJ5_newCapacity_0f7a4_12 (by decide) rfl ?_
    refine xg_iload_n hC dJ5_newCapacity_0f7a4_13 rfl ?_
    refine xg_iload_n hC dJ5_newCapacity_0f7a4_14 rfl ?_
    refine xg_isub hC dJ5_newCapacity_0f7a4_15 ?_
    refine xg_top (w := ((q - 16 : Nat) : Int)) (by rw [xp_w (by omega) (by omega)]; omega) ?_
    refine xg_istore hC (l' := [(4, .int (xm_J ((q - 16 : Nat) : Int))), (3, .int (xm_J (q : Int))), (2, .int (xm_J (16 : Int))), (0, .ref (xm_ad (xx_G X) 84)), (1, .int (xm_J (q : Int)))]) dJ5_newCapacity_0f7a4_16 (by decide) rfl ?_
    refine xg_iload_n hC dJ5_newCapacity_0f7a4_18 rfl ?_
    refine xg_iload hC dJ5_newCapacity_0f7a4_19 rfl ?_
    refine xg_iload_n hC dJ5_newCapacity_0f7a4_21 rfl ?_
    refine xg_iconst hC dJ5_newCapacity_0f7a4_22 ?_
    refine xg_aload_n hC dJ5_newCapacity_0f7a4_23 rfl ?_
    refine xg_getB hC (xm_h84 hI hJ) rfl xl_F_J5_22 dJ5_newCapacity_0f7a4_24 (fun _ => ?_)
    refine xg_top h.2.1 ?_
    refine xg_ishl hC dJ5_newCapacity_0f7a4_27 ?_
    refine xg_top (w := (2 : Int)) (by decide +kernel) ?_
    refine xg_iadd hC dJ5_newCapacity_0f7a4_28 ?_
    refine xg_top (w := (18 : Int)) (by decide +kernel) ?_
    refine xg_callS1 hC (mj_newLen (q := q - 16) (by omega)) xl_M_J5_114 xl_S_J8_newLength_cabcc (by decide) ⟨by omega, by omega⟩ dJ5_newCapacity_0f7a4_29 (rest := []) rfl rfl (by simp [Value.category]) rfl rfl (st2 := (fun o => [.int (xm_J o.2)] ++ [])) (fun _ => rfl) (fun _ => ?_)
    try dsimp only
    refine xg_stk (st' := [.int (xm_J (34 : Int))]) rfl ?_
    refine xg_istore hC (l' := [(5, .int (xm_J (34 : Int))), (4, .int (xm_J ((q - 16 : Nat) : Int))), (3, .int (xm_J (q : Int))), (2, .int (xm_J (16 : Int))), (0, .ref (xm_ad (xx_G X) 84)), (1, .int (xm_J (q : Int)))]) dJ5_newCapacity_0f7a4_32 (by decide) rfl ?_
    refine xg_iload hC dJ5_newCapacity_0f7a4_34 rfl ?_
    refine xg_ldc hC dJ5_newCapacity_0f7a4_36 xl_C_J5_39 ?_
    refine xg_icmp_neJ hC (xm_inc _ rfl) (xm_inc _ rfl) 51 dJ5_newCapacity_0f7a4_38 rfl (by decide) ?_
    refine xg_iload hC dJ5_newCapacity_0f7a4_51 rfl ?_
    refine xg_aload_n hC dJ5_newCapacity_0f7a4_53 rfl ?_
    refine xg_getB hC (xm_h84 hI hJ) rfl xl_F_J5_22 dJ5_newCapacity_0f7a4_54 (fun _ => ?_)
    refine xg_top h.2.1 ?_
    refine xg_ishr hC dJ5_newCapacity_0f7a4_57 ?_
    refine xg_top (w := (34 : Int)) (by decide +kernel) ?_
    exact xg_iret hC hQ (xm_inc 34 rfl) dJ5_newCapacity_0f7a4_58) _ rfl
theorem mj_copyOf (hJ : xm_JI I) (h : xm_SB σ v 16 c) (hby : ∀ j, j < 16 → 0 ≤ σ.1 v j ∧ σ.1 v j ≤ 127) (h88 : σ.2.2 = 88) (hnx : xm_nxt σ) : xm_M Γ I la yJ7_copyOf_9075b cJ7_copyOf_9075b 3 (some (.array .byte)) 2 1 34 [.ref (xm_ad Γ v), .int (xm_J (34 : Int))] σ 3 (xm_cpm (xm_nw σ) 89 0 16 (fun j => (xm_nw σ).1 v (0 + j)), 89) :=
  xg_enter (by decide) (by simp [lg_sl, Value.category]) (fun X hG hI hla hC hQ hname => by
    subst hG
    subst hI
    have hI : xx_I X = xx_I X := rfl
    refine xg_pick [0, 1] (l' := [(0, .ref (xm_ad (xx_G X) v)), (1, .int (xm_J (34 : Int)))]) rfl ?_
    refine xg_iload_n hC dJ7_copyOf_9075b_0 rfl ?_
    refine xg_aload_n hC dJ7_copyOf_9075b_1 rfl ?_
    refine xg_balen hC h.2.2.2.1 (xm_va h) dJ7_copyOf_9075b_2 ?_
    refine xg_top (w := (16 : Int)) rfl ?_
    refine xg_icmp_neJ hC (xm_inc _ rfl) (xm_inc _ rfl) 14 dJ7_copyOf_9075b_3 rfl (by decide) ?_
    refine xg_iload_n hC dJ7_copyOf_9075b_14 rfl ?_
    refine xg_newb hC (N := 34) rfl (by decide) (by rw [h88]; decide) hnx ⟨by omega, by omega⟩ (xm_kpnw hI hJ) dJ7_copyOf_9075b_15 ?_
    refine xg_stk (st' := [.ref (xm_ad (xx_G X) 89)]) (by rw [h88]) ?_
    have h1 : xm_SB (xm_nw σ) v 16 c := ⟨h.1, h.2.1, h.2.2.1, h.2.2.2.1, h.2.2.2.2.1, Nat.le_succ_of_le h.2.2.2.2.2.1, h.2.2.2.2.2.2⟩
    refine xg_astore_n hC (l' := [(2, .ref (xm_ad (xx_G X) 89)), (0, .ref (xm_ad (xx_G X) v)), (1, .int (xm_J (34 : Int)))]) dJ7_copyOf_9075b_17 (by decide) rfl ?_
    refine xg_aload_n hC dJ7_copyOf_9075b_18 rfl ?_
    refine xg_iconst hC dJ7_copyOf_9075b_19 ?_
    refine xg_aload_n hC dJ7_copyOf_9075b_20 rfl ?_
    refine xg_iconst hC dJ7_copyOf_9075b_21 ?_
    refine xg_aload_n hC dJ7_copyOf_9075b_22 rfl ?_
    refine xg_balen hC h1.2.2.2.1 (xm_va h1) dJ7_copyOf_9075b_23 ?_
    refine xg_top (w := (16 : Int)) rfl ?_
    refine xg_iload_n hC dJ7_copyOf_9075b_24 rfl ?_
    refine xg_min hC (xm_inc _ rfl) (xm_inc _ rfl) (by decide) xl_M_J7_304 ⟨by omega, by omega⟩ (by simp [Value.category]) dJ7_copyOf_9075b_25 ?_
    refine xg_top (w := ((16 : Nat) : Int)) (by decide) ?_
    refine xg_stk (st' := [.int (xm_J ((16 : Nat) : Int)), .int (xm_J ((0 : Nat) : Int)), .ref (xm_ad (xx_G X) 89), .int (xm_J ((0 : Nat) : Int)), .ref (xm_ad (xx_G X) v)]) rfl ?_
    refine xg_acopy hC (xm_srcB hC h1.2.2.2.1 (xm_va h1)) (n0 := 16) (n1 := 34) (f := (xm_nw σ).1 v) (fun j hj => hby (0 + j) (by omega)) rfl (show 1 ≤ 89 ∧ 89 ≤ σ.2.2 + 1 by omega) (by omega) (by omega) ⟨by decide, by decide⟩ (xm_kpcp hI hJ (by decide)) (xm_mem 764 (by decide +kernel) rfl) (by decide) (by simp) dJ7_copyOf_9075b_28 ?_
    refine xg_aload_n hC dJ7_copyOf_9075b_31 rfl ?_
    exact xg_aret (rk := 3) (v := 89) hC hQ (Or.inr ⟨_, rfl⟩) (by show some (xm_rf _ _) = _; rw [xm_rf_pos (by decide)]; rfl) (by show (0 : Int) ≤ 89; decide) dJ7_copyOf_9075b_32) _ rfl
theorem mj_ens0 (hJ : xm_JI I) (h : xm_SB σ v n c) (hq : q ≤ n) : xm_M Γ I la yJ5_ensureCapacityInternal_d00df cJ5_ensureCapacityInternal_d00df 3 none 4 0 0 [.ref (xm_ad Γ 84), .int (xm_J (q : Int))] σ 0 (σ, 0) :=
  xg_enter (by decide) (by simp [lg_sl, Value.category]) (fun X hG hI hla hC hQ hname => by
    subst hG
    subst hI
    have hI : xx_I X = xx_I X := rfl
    have hn34 := h.2.2.2.2.2.2
    have hq9 : xm_in (q : Int) := ⟨by omega, by omega⟩
    refine xg_pick [0, 1] (l' := [(0, .ref (xm_ad (xx_G X) 84)), (1, .int (xm_J (q : Int)))]) rfl ?_
    refine xg_aload_n hC dJ5_ensureCapacityInternal_d00df_0 rfl ?_
    refine xg_getR hC (xm_h84 hI hJ) rfl xl_F_J5_15 dJ5_ensureCapacityInternal_d00df_1 (fun _ => ?_)
    refine xg_stk (st' := [.ref (xm_ad (xx_G X) v)]) (by rw [xm_rfv h]) ?_
    refine xg_balen hC h.2.2.2.1 (xm_va h) dJ5_ensureCapacityInternal_d00df_4 ?_
    refine xg_aload_n hC dJ5_ensureCapacityInternal_d00df_5 rfl ?_
    refine xg_getB hC (xm_h84 hI hJ) rfl xl_F_J5_22 dJ5_ensureCapacityInternal_d00df_6 (fun _ => ?_)
    refine xg_top h.2.1 ?_
    refine xg_ishr hC dJ5_ensureCapacityInternal_d00df_9 ?_
    refine xg_top (w := (n : Int)) (xm_shr34 h) ?_
    refine xg_istore_n hC (l' := [(2, .int (xm_J (n : Int))), (0, .ref (xm_ad (xx_G X) 84)), (1, .int (xm_J (q : Int)))]) dJ5_ensureCapacityInternal_d00df_10 (by decide) rfl ?_
    refine xg_iload_n hC dJ5_ensureCapacityInternal_d00df_11 rfl ?_
    refine xg_iload_n hC dJ5_ensureCapacityInternal_d00df_12 rfl ?_
    refine xg_isub hC dJ5_ensureCapacityInternal_d00df_13 ?_
    refine xg_if_leJ hC (xm_w_in _) 38 dJ5_ensureCapacityInternal_d00df_14 rfl (by rw [xp_w (by omega) (by omega)]; omega) ?_
    exact xg_vret hC hQ dJ5_ensureCapacityInternal_d00df_38) _ rfl
theorem mj_ens1 (hJ : xm_JI I) (h : xm_SB σ v 16 c) (hq : 17 ≤ q ∧ q ≤ 34) (hby : ∀ j, j < 16 → 0 ≤ σ.1 v j ∧ σ.1 v j ≤ 127) (h88 : σ.2.2 = 88) (hnx : xm_nxt σ) : xm_M Γ I la yJ5_ensureCapacityInternal_d00df cJ5_ensureCapacityInternal_d00df 3 none 4 1 34 [.ref (xm_ad Γ 84), .int (xm_J (q : Int))] σ 0 (xm_u1 (xm_cpm (xm_nw σ) 89 0 16 (fun j => (xm_nw σ).1 v (0 + j))) 84 0 89, 0) :=
  xg_enter (by decide) (by simp [lg_sl, Value.category]) (fun X hG hI hla hC hQ hname => by
    subst hG
    subst hI
    have hI : xx_I X = xx_I X := rfl
    have hq9 : xm_in (q : Int) := ⟨by omega, by omega⟩
    refine xg_pick [0, 1] (l' := [(0, .ref (xm_ad (xx_G X) 84)), (1, .int (xm_J (q : Int)))]) rfl ?_
    refine xg_aload_n hC dJ5_ensureCapacityInternal_d00df_0 rfl ?_
    refine xg_getR hC (xm_h84 hI hJ) rfl xl_F_J5_15 dJ5_ensureCapacityInternal_d00df_1 (fun _ => ?_)
    refine xg_stk (st' := [.ref (xm_ad (xx_G X) v)]) (by rw [xm_rfv h]) ?_
    refine xg_balen hC h.2.2.2.1 (xm_va h) dJ5_ensureCapacityInternal_d00df_4 ?_
    refine xg_aload_n hC dJ5_ensureCapacityInternal_d00df_5 rfl ?_
    refine xg_getB hC (xm_h84 hI hJ) rfl xl_F_J5_22 dJ5_ensureCapacityInternal_d00df_6 (fun _ => ?_)
    refine xg_top h.2.1 ?_
    refine xg_ishr hC dJ5_ensureCapacityInternal_d00df_9 ?_
    refine xg_top (w := ((16 : Nat) : Int)) (xm_shr34 h) ?_
    refine xg_istore_n hC (l' := [(2, .int (xm_J ((16 : Nat) : Int))), (0, .ref (xm_ad (xx_G X) 84)), (1, .int (xm_J (q : Int)))]) dJ5_ensureCapacityInternal_d00df_10 (by decide) rfl ?_
    refine xg_iload_n hC dJ5_ensureCapacityInternal_d00df_11 rfl ?_
    refine xg_iload_n hC dJ5_ensureCapacityInternal_d00df_12 rfl ?_
    refine xg_isub hC dJ5_ensureCapacityInternal_d00df_13 ?_
    refine xg_if_leN hC (xm_w_in _) 38 dJ5_ensureCapacityInternal_d00df_14 rfl (by rw [xp_w (by omega) (by omega)]; omega) ?_
    refine xg_aload_n hC dJ5_ensureCapacityInternal_d00df_17 rfl ?_
    refine xg_aload_n hC dJ5_ensureCapacityInternal_d00df_18 rfl ?_
    refine xg_getR hC (xm_h84 hI hJ) rfl xl_F_J5_15 dJ5_ensureCapacityInternal_d00df_19 (fun _ => ?_)
    refine xg_stk (st' := [.ref (xm_ad (xx_G X) v), .ref (xm_ad (xx_G X) 84)]) (by rw [xm_rfv h]) ?_
    refine xg_aload_n hC dJ5_ensureCapacityInternal_d00df_22 rfl ?_
    refine xg_iload_n hC dJ5_ensureCapacityInternal_d00df_23 rfl ?_
    refine xg_callU1 hC (mj_newCap hJ h hq) xl_M_J5_104 xl_U_J5_newCapacity_0f7a4 xl_I_J5_newCapacity_0f7a4 xl_W_J5_newCapacity_0f7a4 rfl (xm_h84a hI hJ) (by decide) ⟨by omega, by omega⟩ dJ5_ensureCapacityInternal_d00df_24 (rest := [.ref (xm_ad (xx_G X) v), .ref (xm_ad (xx_G X) 84)]) rfl rfl (by simp [Value.category]) rfl rfl (st2 := (fun o => [.int (xm_J o.2)] ++ [.ref (xm_ad (xx_G X) v), .ref (xm_ad (xx_G X) 84)])) (fun _ => rfl) (fun _ => ?_)
    try dsimp only
    refine xg_stk (st' := [.int (xm_J (34 : Int)), .ref (xm_ad (xx_G X) v), .ref (xm_ad (xx_G X) 84)]) rfl ?_
    refine xg_aload_n hC dJ5_ensureCapacityInternal_d00df_27 rfl ?_
    refine xg_getB hC (xm_h84 hI hJ) rfl xl_F_J5_22 dJ5_ensureCapacityInternal_d00df_28 (fun _ => ?_)
    refine xg_top h.2.1 ?_
    refine xg_ishl hC dJ5_ensureCapacityInternal_d00df_31 ?_
    refine xg_top (w := (34 : Int)) (by decide +kernel) ?_
    refine xg_callS1 hC (mj_copyOf hJ h hby h88 hnx) xl_M_J5_108 xl_S_J7_copyOf_9075b (by decide) ⟨by omega, by omega⟩ dJ5_ensureCapacityInternal_d00df_32 (rest := [.ref (xm_ad (xx_G X) 84)]) rfl rfl (by simp [Value.category]) rfl rfl (st2 := (fun o => [xm_rf (xx_G X) o.2] ++ [.ref (xm_ad (xx_G X) 84)])) (fun _ => rfl) (fun _ => ?_)
    try dsimp only
    refine xg_stk (st' := [xm_rf (xx_G X) 89, .ref (xm_ad (xx_G X) 84)]) rfl ?_
    exact xg_putR0 (v := 89) hC rfl (xm_h84a hI hJ) rfl rfl (Or.inl rfl) (xm_inc _ rfl) (by decide) (xm_kp84 hI hJ (by decide)) xl_F_J5_15 dJ5_ensureCapacityInternal_d00df_35 (xg_vret hC hQ dJ5_ensureCapacityInternal_d00df_38)) _ rfl
theorem mj_infl {i : Nat} (hi : i < 24) (hJ : xm_JI I) (h : xm_SB σ v n c) : xm_M Γ I la yJ5_inflateIfNeededFor_a7421 cJ5_inflateIfNeededFor_a7421 2 none 2 0 0 [.ref (xm_ad Γ 84), .ref (xm_adK Γ i)] σ 0 (σ, 0) :=
  xg_enter (by decide) (by simp [lg_sl, Value.category]) (fun X hG hI hla hC hQ hname => by
    subst hG
    subst hI
    have hI : xx_I X = xx_I X := rfl
    refine xg_pick [0, 1] (l' := [(0, .ref (xm_ad (xx_G X) 84)), (1, .ref (xm_adK (xx_G X) i))]) rfl ?_
    refine xg_gcB hC dJ5_inflateIfNeededFor_a7421_0 ?_
    refine xg_if_eqN hC (xm_inc 1 rfl) 21 dJ5_inflateIfNeededFor_a7421_3 rfl (by decide) ?_
    refine xg_aload_n hC dJ5_inflateIfNeededFor_a7421_6 rfl ?_
    refine xg_getB hC (xm_h84 hI hJ) rfl xl_F_J5_22 dJ5_inflateIfNeededFor_a7421_7 (fun _ => ?_)
    refine xg_top h.2.1 ?_
    refine xg_aload_n hC dJ5_inflateIfNeededFor_a7421_10 rfl ?_
    refine xg_callT1 hC (mj_coder hi _ rfl) xl_M_J5_40 xl_V_J0_coder_7d493 hi rfl (by decide) ⟨by omega, by omega⟩ dJ5_inflateIfNeededFor_a7421_11 (rest := [.int (xm_J (0 : Int))]) rfl rfl (by simp [Value.category]) rfl rfl (st2 := (fun o => [.int (xm_J o.2)] ++ [.int (xm_J (0 : Int))])) (fun _ => rfl) (fun _ => ?_)
    try dsimp only
    refine xg_stk (st' := [.int (xm_J (0 : Int)), .int (xm_J (0 : Int))]) rfl ?_
    refine xg_icmp_eqJ hC xm_in0 xm_in0 21 dJ5_inflateIfNeededFor_a7421_14 rfl rfl ?_
    exact xg_vret hC hQ dJ5_inflateIfNeededFor_a7421_21) _ rfl
theorem mj_getB {i : Nat} (hi : i < 24) (hJ : xm_JI I) (h : xm_SB σ v n c) (hlen : c + xm_ln.getD i 0 ≤ n) : xm_M Γ I la yJ0_getBytes_840e7 cJ0_getBytes_840e7 4 none 2 0 0 [.ref (xm_adK Γ i), .ref (xm_ad Γ v), .int (xm_J (c : Int)), .int (xm_J (0 : Int))] σ 0 (xm_cpm σ v c (xm_ln.getD i 0) (fun j => xm_chr (i : Int) ((0 + j : Nat) : Int)), 0) :=
  xg_enter (by decide) (by simp [lg_sl, Value.category]) (fun X hG hI hla hC hQ hname => by
    subst hG
    subst hI
    have hI : xx_I X = xx_I X := rfl
    have hln := xm_ln_ok i hi
    refine xg_pick [0, 1, 2, 3] (l' := [(0, .ref (xm_adK (xx_G X) i)), (1, .ref (xm_ad (xx_G X) v)), (2, .int (xm_J (c : Int))), (3, .int (xm_J (0 : Int)))]) rfl ?_
    refine xg_aload_n hC dJ0_getBytes_840e7_0 rfl ?_
    refine xg_callT1 hC (mj_coder hi _ rfl) xl_M_J0_335 xl_V_J0_coder_7d493 hi rfl (by decide) ⟨by omega, by omega⟩ dJ0_getBytes_840e7_1 (rest := []) rfl rfl (by simp [Value.category]) rfl rfl (st2 := (fun o => [.int (xm_J o.2)] ++ [])) (fun _ => rfl) (fun _ => ?_)
    try dsimp only
    refine xg_stk (st' := [.int (xm_J (0 : Int))]) rfl ?_
    refine xg_iload_n hC dJ0_getBytes_840e7_4 rfl ?_
    refine xg_icmp_neN hC xm_in0 (xm_inc _ rfl) 28 dJ0_getBytes_840e7_5 rfl rfl ?_
    refine xg_aload_n hC dJ0_getBytes_840e7_8 rfl ?_
    refine xg_sval hC hi dJ0_getBytes_840e7_9 ?_
    refine xg_iconst hC dJ0_getBytes_840e7_12 ?_
    refine xg_aload_n hC dJ0_getBytes_840e7_13 rfl ?_
    refine xg_iload_n hC dJ0_getBytes_840e7_14 rfl ?_
    refine xg_iload_n hC dJ0_getBytes_840e7_15 rfl ?_
    refine xg_ishl hC dJ0_getBytes_840e7_16 ?_
    refine xg_top (w := (c : Int)) (xm_shli0 _ (by have := h.2.2.2.2.2.2; omega)) ?_
    refine xg_aload_n hC dJ0_getBytes_840e7_17 rfl ?_
    refine xg_sval hC hi dJ0_getBytes_840e7_18 ?_
    refine xg_slen hC hi dJ0_getBytes_840e7_21 ?_
    refine xg_stk (st' := [.int (xm_J ((xm_ln.getD i 0 : Nat) : Int)), .int (xm_J (c : Int)), .ref (xm_ad (xx_G X) v), .int (xm_J ((0 : Nat) : Int)), .ref (xm_adV (xx_G X) i)]) rfl ?_
    refine xg_acopy hC (xm_srcT hC hi) (n1 := n) (f := fun j => xm_chr (i : Int) (j : Int)) (fun j hj => (xm_chr_ok i hi (0 + j) (by omega)).2) h.2.2.2.1 (xm_va h) (by omega) hlen ⟨by omega, by have := h.2.2.2.2.2.2; omega⟩ (xm_kpcp hI hJ h.2.2.2.2.1) (xm_mem 1221 (by decide +kernel) rfl) (by decide) (by simp) dJ0_getBytes_840e7_22 ?_
    refine xg_goto hC 43 dJ0_getBytes_840e7_25 rfl ?_
    exact xg_vret hC hQ dJ0_getBytes_840e7_43) _ rfl
theorem mj_putS {i : Nat} (hi : i < 24) (hJ : xm_JI I) (h : xm_SB σ v n c) (hlen : c + xm_ln.getD i 0 ≤ n) : xm_M Γ I la yJ5_putStringAt_47b60 cJ5_putStringAt_47b60 3 none 3 0 0 [.ref (xm_ad Γ 84), .int (xm_J (c : Int)), .ref (xm_adK Γ i)] σ 0 (xm_cpm σ v c (xm_ln.getD i 0) (fun j => xm_chr (i : Int) ((0 + j : Nat) : Int)), 0) :=
  xg_enter (by decide) (by simp [lg_sl, Value.category]) (fun X hG hI hla hC hQ hname => by
    subst hG
    subst hI
    have hI : xx_I X = xx_I X := rfl
    refine xg_pick [0, 1, 2] (l' := [(0, .ref (xm_ad (xx_G X) 84)), (1, .int (xm_J (c : Int))), (2, .ref (xm_adK (xx_G X) i))]) rfl ?_
    refine xg_aload_n hC dJ5_putStringAt_47b60_0 rfl ?_
    refine xg_aload_n hC dJ5_putStringAt_47b60_1 rfl ?_
    refine xg_callU1 hC (mj_infl hi hJ h) xl_M_J5_397 xl_U_J5_inflateIfNeededFor_a7421 xl_I_J5_inflateIfNeededFor_a7421 xl_W_J5_inflateIfNeededFor_a7421 rfl (xm_h84a hI hJ) (by decide) ⟨by omega, by omega⟩ dJ5_putStringAt_47b60_2 (rest := []) rfl rfl (by simp [Value.category]) rfl rfl (st2 := (fun o => [] ++ [])) (fun _ => rfl) (fun _ => ?_)
    try dsimp only
    refine xg_stk (st' := []) rfl ?_
    refine xg_aload_n hC dJ5_putStringAt_47b60_5 rfl ?_
    refine xg_aload_n hC dJ5_putStringAt_47b60_6 rfl ?_
    refine xg_getR hC (xm_h84 hI hJ) rfl xl_F_J5_15 dJ5_putStringAt_47b60_7 (fun _ => ?_)
    refine xg_stk (st' := [.ref (xm_ad (xx_G X) v), .ref (xm_adK (xx_G X) i)]) (by rw [xm_rfv h]) ?_
    refine xg_iload_n hC dJ5_putStringAt_47b60_10 rfl ?_
    refine xg_aload_n hC dJ5_putStringAt_47b60_11 rfl ?_
    refine xg_getB hC (xm_h84 hI hJ) rfl xl_F_J5_22 dJ5_putStringAt_47b60_12 (fun _ => ?_)
    refine xg_top h.2.1 ?_
    refine xg_callT1 hC (mj_getB hi hJ h hlen) xl_M_J5_399 xl_V_J0_getBytes_840e7 hi rfl (by decide) ⟨by omega, by omega⟩ dJ5_putStringAt_47b60_15 (rest := []) rfl rfl (by simp [Value.category]) rfl rfl (st2 := (fun o => [] ++ [])) (fun _ => rfl) (fun _ => ?_)
    try dsimp only
    refine xg_stk (st' := []) rfl ?_
    exact xg_vret hC hQ dJ5_putStringAt_47b60_18) _ rfl
theorem mj_appS0 {i : Nat} (hi : i < 24) (hJ : xm_JI I) (h : xm_SB σ v n c) (hlen : c + xm_ln.getD i 0 ≤ n) : xm_M Γ I la yJ5_append_cf1ce cJ5_append_cf1ce 3 (some (.object "java/lang/AbstractStringBuilder")) 5 0 0 [.ref (xm_ad Γ 84), .ref (xm_adK Γ i)] σ 7 (xm_u1 (xm_cpm σ v c (xm_ln.getD i 0) (fun j => xm_chr (i : Int) ((0 + j : Nat) : Int))) 84 3 ((c + xm_ln.getD i 0 : Nat) : Int), 0) :=
  xg_enter (by decide) (by simp [lg_sl, Value.category]) (fun X hG hI hla hC hQ hname => by
    subst hG
    subst hI
    have hI : xx_I X = xx_I X := rfl
    have hln := xm_ln_ok i hi
    have hn34 := h.2.2.2.2.2.2
    refine xg_pick [0, 1] (l' := [(0, .ref (xm_ad (xx_G X) 84)), (1, .ref (xm_adK (xx_G X) i))]) rfl ?_
    refine xg_aload_n hC dJ5_append_cf1ce_0 rfl ?_
    refine xg_nn hC 9 dJ5_append_cf1ce_1 rfl ?_
    refine xg_aload_n hC dJ5_append_cf1ce_9 rfl ?_
    refine xg_callT1 hC (mj_length (v := (i : Int)) _ (by unfold fj_length; rw [if_pos ⟨by omega, by omega⟩])) xl_M_J5_32 xl_V_J0_length_8abf5 hi rfl (by decide) ⟨by omega, by omega⟩ dJ5_append_cf1ce_10 (rest := []) rfl rfl (by simp [Value.category]) rfl rfl (st2 := (fun o => [.int (xm_J o.2)] ++ [])) (fun _ => rfl) (fun _ => ?_)
    try dsimp only
    refine xg_stk (st' := [.int (xm_J ((xm_ln.getD i 0 : Nat) : Int))]) rfl ?_
    refine xg_istore_n hC (l' := [(2, .int (xm_J ((xm_ln.getD i 0 : Nat) : Int))), (0, .ref (xm_ad (xx_G X) 84)), (1, .ref (xm_adK (xx_G X) i))]) dJ5_append_cf1ce_13 (by decide) rfl ?_
    refine xg_aload_n hC dJ5_append_cf1ce_14 rfl ?_
    refine xg_aload_n hC dJ5_append_cf1ce_15 rfl ?_
    refine xg_getI hC (xm_h84 hI hJ) rfl xl_F_J5_79 dJ5_append_cf1ce_16 (fun _ => ?_)
    refine xg_top h.2.2.1 ?_
    refine xg_iload_n hC dJ5_append_cf1ce_19 rfl ?_
    refine xg_iadd hC dJ5_append_cf1ce_20 ?_
    refine xg_top (w := ((c + xm_ln.getD i 0 : Nat) : Int)) (by rw [xp_w (by omega) (by omega)]; omega) ?_
    refine xg_callU1 hC (mj_ens0 (q := c + xm_ln.getD i 0) hJ h hlen) xl_M_J5_100 xl_U_J5_ensureCapacityInternal_d00df xl_I_J5_ensureCapacityInternal_d00df xl_W_J5_ensureCapacityInternal_d00df rfl (xm_h84a hI hJ) (by decide) ⟨by omega, by omega⟩ dJ5_append_cf1ce_21 (rest := []) rfl rfl (by simp [Value.category]) rfl rfl (st2 := (fun o => [] ++ [])) (fun _ => rfl) (fun _ => ?_)
    try dsimp only
    refine xg_stk (st' := []) rfl ?_
    refine xg_aload_n hC dJ5_append_cf1ce_24 rfl ?_
    refine xg_aload_n hC dJ5_append_cf1ce_25 rfl ?_
    refine xg_getI hC (xm_h84 hI hJ) rfl xl_F_J5_79 dJ5_append_cf1ce_26 (fun _ => ?_)
    refine xg_top h.2.2.1 ?_
    refine xg_aload_n hC dJ5_append_cf1ce_29 rfl ?_
    refine xg_callU1 hC (mj_putS hi hJ h hlen) xl_M_J5_208 xl_U_J5_putStringAt_47b60 xl_I_J5_putStringAt_47b60 xl_W_J5_putStringAt_47b60 rfl (xm_h84a hI hJ) (by decide) ⟨by omega, by omega⟩ dJ5_append_cf1ce_30 (rest := []) rfl rfl (by simp [Value.category]) rfl rfl (st2 := (fun o => [] ++ [])) (fun _ => rfl) (fun _ => ?_)
    try dsimp only
    refine xg_stk (st' := []) rfl ?_
    have h3 : xm_SB (xm_cpm σ v c (xm_ln.getD i 0) (fun j => xm_chr (i : Int) ((0 + j : Nat) : Int))) v n c := xm_SBcp h
    refine xg_aload_n hC dJ5_append_cf1ce_33 rfl ?_
    refine xg_dup hC dJ5_append_cf1ce_34 rfl ?_
    refine xg_getI hC (xm_h84 hI hJ) rfl xl_F_J5_79 dJ5_append_cf1ce_35 (fun _ => ?_)
    refine xg_top h3.2.2.1 ?_
    refine xg_iload_n hC dJ5_append_cf1ce_38 rfl ?_
    refine xg_iadd hC dJ5_append_cf1ce_39 ?_
    refine xg_top (w := ((c + xm_ln.getD i 0 : Nat) : Int)) (by rw [xp_w (by omega) (by omega)]; omega) ?_
    refine xg_putI hC (xm_h84 hI hJ) rfl rfl ⟨by omega, by omega⟩ (xm_kp84 hI hJ (by decide)) xl_F_J5_79 dJ5_append_cf1ce_40 ?_
    refine xg_aload_n hC dJ5_append_cf1ce_43 rfl ?_
    exact xg_aret (rk := 7) (v := 0) hC hQ (Or.inl ⟨_, rfl⟩) rfl trivial dJ5_append_cf1ce_44) _ rfl
theorem mj_appS1 {i : Nat} (hi : i < 24) (hJ : xm_JI I) (h : xm_SB σ v 16 c) (hlen : 17 ≤ c + xm_ln.getD i 0 ∧ c + xm_ln.getD i 0 ≤ 34) (hby : ∀ j, j < 16 → 0 ≤ σ.1 v j ∧ σ.1 v j ≤ 127) (h88 : σ.2.2 = 88) (hnx : xm_nxt σ) (h2 : xm_SB (xm_u1 (xm_cpm (xm_nw σ) 89 0 16 (fun j => (xm_nw σ).1 v (0 + j))) 84 0 89) 89 34 c) : xm_M Γ I la yJ5_append_cf1ce cJ5_append_cf1ce 3 (some (.object "java/lang/AbstractStringBuilder")) 5 1 34 [.ref (xm_ad Γ 84), .ref (xm_adK Γ i)] σ 7 (xm_u1 (xm_cpm (xm_u1 (xm_cpm (xm_nw σ) 89 0 16 (fun j => (xm_nw σ).1 v (0 + j))) 84 0 89) 89 c (xm_ln.getD i 0) (fun j => xm_chr (i : Int) ((0 + j : Nat) : Int))) 84 3 ((c + xm_ln.getD i 0 : Nat) : Int), 0) :=
  xg_enter (by decide) (by simp [lg_sl, Value.category]) (fun X hG hI hla hC hQ hname => by
    subst hG
    subst hI
    have hI : xx_I X = xx_I X := rfl
    have hln := xm_ln_ok i hi
    have hn34 := h.2.2.2.2.2.2
    refine xg_pick [0, 1] (l' := [(0, .ref (xm_ad (xx_G X) 84)), (1, .ref (xm_adK (xx_G X) i))]) rfl ?_
    refine xg_aload_n hC dJ5_append_cf1ce_0 rfl ?_
    refine xg_nn hC 9 dJ5_append_cf1ce_1 rfl ?_
    refine xg_aload_n hC dJ5_append_cf1ce_9 rfl ?_
    refine xg_callT1 hC (mj_length (v := (i : Int)) _ (by unfold fj_length; rw [if_pos ⟨by omega, by omega⟩])) xl_M_J5_32 xl_V_J0_length_8abf5 hi rfl (by decide) ⟨by omega, by omega⟩ dJ5_append_cf1ce_10 (rest := []) rfl rfl (by simp [Value.category]) rfl rfl (st2 := (fun o => [.int (xm_J o.2)] ++ [])) (fun _ => rfl) (fun _ => ?_)
    try dsimp only
    refine xg_stk (st' := [.int (xm_J ((xm_ln.getD i 0 : Nat) : Int))]) rfl ?_
    refine xg_istore_n hC (l' := [(2, .int (xm_J ((xm_ln.getD i 0 : Nat) : Int))), (0, .ref (xm_ad (xx_G X) 84)), (1, .ref (xm_adK (xx_G X) i))]) dJ5_append_cf1ce_13 (by decide) rfl ?_
    refine xg_aload_n hC dJ5_append_cf1ce_14 rfl ?_
    refine xg_aload_n hC dJ5_append_cf1ce_15 rfl ?_
    refine xg_getI hC (xm_h84 hI hJ) rfl xl_F_J5_79 dJ5_append_cf1ce_16 (fun _ => ?_)
    refine xg_top h.2.2.1 ?_
    refine xg_iload_n hC dJ5_append_cf1ce_19 rfl ?_
    refine xg_iadd hC dJ5_append_cf1ce_20 ?_
    refine xg_top (w := ((c + xm_ln.getD i 0 : Nat) : Int)) (by rw [xp_w (by omega) (by omega)]; omega) ?_
    refine xg_callU1 hC (mj_ens1 (q := c + xm_ln.getD i 0) hJ h hlen hby h88 hnx) xl_M_J5_100 xl_U_J5_ensureCapacityInternal_d00df xl_I_J5_ensureCapacityInternal_d00df xl_W_J5_ensureCapacityInternal_d00df rfl (xm_h84a hI hJ) (by decide) ⟨by omega, by omega⟩ dJ5_append_cf1ce_21 (rest := []) rfl rfl (by simp [Value.category]) rfl rfl (st2 := (fun o => [] ++ [])) (fun _ => rfl) (fun _ => ?_)
    try dsimp only
    refine xg_stk (st' := []) rfl ?_
    refine xg_aload_n hC dJ5_append_cf1ce_24 rfl ?_
    refine xg_aload_n hC dJ5_append_cf1ce_25 rfl ?_
    refine xg_getI hC (xm_h84 hI hJ) rfl xl_F_J5_79 dJ5_append_cf1ce_26 (fun _ => ?_)
    refine xg_top h2.2.2.1 ?_
    refine xg_aload_n hC dJ5_append_cf1ce_29 rfl ?_
    refine xg_callU1 hC (mj_putS hi hJ h2 (by omega)) xl_M_J5_208 xl_U_J5_putStringAt_47b60 xl_I_J5_putStringAt_47b60 xl_W_J5_putStringAt_47b60 rfl (xm_h84a hI hJ) (by decide) ⟨by omega, by omega⟩ dJ5_append_cf1ce_30 (rest := []) rfl rfl (by simp [Value.category]) rfl rfl (st2 := (fun o => [] ++ [])) (fun _ => rfl) (fun _ => ?_)
    try dsimp only
    refine xg_stk (st' := []) rfl ?_
    have h3 : xm_SB (xm_cpm (xm_u1 (xm_cpm (xm_nw σ) 89 0 16 (fun j => (xm_nw σ).1 v (0 + j))) 84 0 89) 89 c (xm_ln.getD i 0) (fun j => xm_chr (i : Int) ((0 + j : Nat) : Int))) 89 34 c := xm_SBcp h2
    refine xg_aload_n hC dJ5_append_cf1ce_33 rfl ?_
    refine xg_dup hC dJ5_append_cf1ce_34 rfl ?_
    refine xg_getI hC (xm_h84 hI hJ) rfl xl_F_J5_79 dJ5_append_cf1ce_35 (fun _ => ?_)
    refine xg_top h3.2.2.1 ?_
    refine xg_iload_n hC dJ5_append_cf1ce_38 rfl ?_
    refine xg_iadd hC dJ5_append_cf1ce_39 ?_
    refine xg_top (w := ((c + xm_ln.getD i 0 : Nat) : Int)) (by rw [xp_w (by omega) (by omega)]; omega) ?_
    refine xg_putI hC (xm_h84 hI hJ) rfl rfl ⟨by omega, by omega⟩ (xm_kp84 hI hJ (by decide)) xl_F_J5_79 dJ5_append_cf1ce_40 ?_
    refine xg_aload_n hC dJ5_append_cf1ce_43 rfl ?_
    exact xg_aret (rk := 7) (v := 0) hC hQ (Or.inl ⟨_, rfl⟩) rfl trivial dJ5_append_cf1ce_44) _ rfl
end XJE
