/-! ===== rows for bytes: reads, writes, new rows of them, copies; the digits' tables ===== -/
theorem xm_bn : ∀ v : Nat, v < 128 → narrow .byte (.int (xm_J (v : Int))) = .int (xm_J (v : Int)) ∧ fits .byte (.int (xm_J (v : Int))) = true ∧ (xm_J (v : Int)).toInt8.toInt32 = xm_J (v : Int) ∧ ((xm_J (v : Int) &&& xm_J 255).toUInt32 % 65536).toInt32 = xm_J (v : Int) := by decide +kernel
theorem xm_bz {v : Int} (h : 0 ≤ v ∧ v ≤ 127) : narrow .byte (.int (xm_J v)) = .int (xm_J v) ∧ fits .byte (.int (xm_J v)) = true ∧ (xm_J v).toInt8.toInt32 = xm_J v ∧ ((xm_J v &&& xm_J 255).toUInt32 % 65536).toInt32 = xm_J v := by
  obtain ⟨n, rfl⟩ := Int.eq_ofNat_of_zero_le h.1
  exact xm_bn n (by omega)
/-- a stretch of a row is written -/
def xm_cpm (σ : xm_Mem) (a dp n : Nat) (g : Nat → Int) : xm_Mem := (fun x k => if x = a ∧ dp ≤ k ∧ k < dp + n then g (k - dp) else σ.1 x k, σ.2)
theorem xm_cpm_at {σ : xm_Mem} {a dp n : Nat} {g : Nat → Int} {k : Nat} (h : dp ≤ k ∧ k < dp + n) : (xm_cpm σ a dp n g).1 a k = g (k - dp) := if_pos ⟨rfl, h⟩
theorem xm_cpm_ne {σ : xm_Mem} {a dp n : Nat} {g : Nat → Int} {x k : Nat} (h : ¬ (x = a ∧ dp ≤ k ∧ k < dp + n)) : (xm_cpm σ a dp n g).1 x k = σ.1 x k := if_neg h
theorem xm_T.cpm {σ : xm_Mem} (h : xm_T σ) {a dp n n1 : Nat} {g : Nat → Int} (hl : xm_lay a = (6, n1)) (ha : a ≤ σ.2.2) (hg : ∀ j, j < n → 0 ≤ g j ∧ g j ≤ 127) : xm_T (xm_cpm σ a dp n g) := by
  intro x k
  by_cases e : x = a ∧ dp ≤ k ∧ k < dp + n
  · obtain ⟨rfl, e⟩ := e
    rw [xm_cpm_at e]
    have := hg (k - dp) (by omega)
    have tk : xm_tk x k = 4 := by simp only [xm_tk, hl]
    exact ⟨⟨by omega, by omega⟩, (fun z => by rw [tk] at z; cases z), fun _ => this.1, fun z => absurd ha (Nat.not_le.mpr z), fun _ => this⟩
  · rw [xm_cpm_ne e]
    exact h x k
theorem xm_cell_cpm {Γ : xm_Gm} {σ : xm_Mem} {a dp n b : Nat} {g : Nat → Int} (h : b ≠ a) : xm_cell Γ (xm_cpm σ a dp n g) b = xm_cell Γ σ b := by
  have e : ∀ i, (xm_cpm σ a dp n g).1 b i = σ.1 b i := fun i => xm_cpm_ne (fun z => h z.1)
  unfold xm_cell
  simp only [e]
  rfl
section XB
variable {X : xm_X} {own : String} {cc : ByteArray} {nL fr mc ms kc sc : Nat} {r : Option xm_Out} {σ : xm_Mem} {pc : Nat} {l l' : List (Nat × Value)} {st : List Value}
theorem xg_balen (hC : xm_C X own cc nL fr mc ms) {a n : Nat} (hl : xm_lay a = (6, n)) (ha : 1 ≤ a ∧ a ≤ σ.2.2) (hd : decode cc pc = .ok (.arraylength, 1)) (kk : xm_V X kc sc r σ (pc + 1) l (.int (xm_J (n : Int)) :: st)) : xm_V X kc sc r σ pc l (.ref (xm_ad (xx_G X) a) :: st) := by
  intro o ho H locs ls hR hS hL
  exact va_alen hC.1 hC.2.1 hC.2.2.2.2.2.1.1 (hR.w1 ha.1 ha.2 (xm_k7 hl (by decide)) (xm_cell_6 hl)) 0 5 rfl rfl (rfl : Int32.ofNat n = xm_J (n : Int)) hd (kk o ho H locs ls hR hS hL)
theorem xg_bald (hC : xm_C X own cc nL fr mc ms) {a n : Nat} {i : Int} (hl : xm_lay a = (6, n)) (ha : 1 ≤ a ∧ a ≤ σ.2.2) (hin : xm_in i) (hi : 0 ≤ i ∧ i < (n : Int)) (hd : decode cc pc = .ok (.baload, 1)) (kk : 0 ≤ σ.1 a i.toNat ∧ σ.1 a i.toNat ≤ 127 → xm_V X kc sc r σ (pc + 1) l (.int (xm_J (σ.1 a i.toNat)) :: st)) : xm_V X kc sc r σ pc l (.int (xm_J i) :: .ref (xm_ad (xx_G X) a) :: st) := by
  refine xg_facts (fun hT hI o ho H locs ls hR hS hL => ?_)
  refine va_bald hC.1 hC.2.1 hC.2.2.2.2.2.1.1 (hR.w1 ha.1 ha.2 (xm_k7 hl (by decide)) (xm_cell_6 hl)) 0 5 rfl rfl (xm_vp hin hi) hd ?_
  show xm_W X H locs kc sc o (F0 (xx_m X) (pc + 1) ls (.int (xm_J (σ.1 a (xm_J i).toNatClampNeg)) :: st))
  rw [xm_clamp hin]
  exact kk ((hT _ _).2.2.2.2 (by simp only [xm_tk, hl])) o ho H locs ls hR hS hL
theorem xg_bast (hC : xm_C X own cc nL fr mc ms) {a n : Nat} {i v : Int} (hl : xm_lay a = (6, n)) (ha : 1 ≤ a ∧ a ≤ σ.2.2) (hin : xm_in i) (hi : 0 ≤ i ∧ i < (n : Int)) (hv : 0 ≤ v ∧ v ≤ 127) (hI : xm_kp X σ a i.toNat v) (hd : decode cc pc = .ok (.bastore, 1)) (kk : xm_V X kc sc r (xm_u1 σ a i.toNat v) (pc + 1) l st) : xm_V X kc sc r σ pc l (.int (xm_J v) :: .int (xm_J i) :: .ref (xm_ad (xx_G X) a) :: st) := by
  refine xg_facts (fun hT hI2 o ho H locs ls hR hS hL => ?_)
  have h7 := xm_k7 hl (by decide)
  have hP := hR.1 a ha.1 ha.2 (Or.inl h7)
  rw [xm_cell_6 hl] at hP
  have hin2 := xm_vp hin hi
  refine W.bast hC.1 hC.2.1 hP ((hC.2.2.2.2.2.1.1.2 5 _ rfl).1 n (fun j => .int (xm_J (σ.1 a j)))) (fun q => by cases q) (by show ¬ (xm_J i < 0 ∨ (arrV _ _ _).slots.size ≤ _); rw [arrV_size]; exact hin2) rfl rfl hd fun H1 e z oq => ?_
  refine kk o ho H1 _ ls (hR.put ha.1 rfl (xm_u1_109 h7) (hT.u1 ha.2 ⟨by omega, by omega⟩ (fun q => by simp only [xm_tk, hl] at q; cases q) (fun q => by simp only [xm_tk, hl] at q; cases q) (fun _ => hv)) (hI hI2) (fun b hb => xm_cell_u1 hb) ?_ z oq) (hS.put z oq (xm_ad_gt ha.1)) hL
  rw [xm_cell_6 hl]
  show H1[_]? = some (vp_cell _ _)
  rw [e]
  rw [vp_cell_i]
  show some ((arrV (xm_cA (xx_G X) 6) n (fun j => .int (xm_J (σ.1 a j)))).setSlot _ _) = _
  rw [arrV_store, (xm_bz hv).1]
  refine congrArg some (show arrV _ n _ = arrV _ n (fun j => Value.int (xm_J ((xm_u1 σ a i.toNat v).1 a j))) from congrArg (arrV _ n) (funext fun q => ?_))
  rw [xm_clamp hin]
  by_cases hq : q = i.toNat
  · subst hq
    simp only [updV, if_true, xm_u1_at]
  · simp only [updV, if_neg hq]
    rw [xm_u1_ne σ v (fun z => hq z.2)]
/-- new byte[N] -/
theorem xg_newb (hC : xm_C X own cc nL fr mc ms) {N : Nat} {n : Int} (hn : (N : Int) = n) (hN : N ≤ 100000) (hlay : xm_lay (σ.2.2 + 1) = (6, N)) (hnx : xm_nxt σ) (hcap : kc + 1 ≤ mc ∧ sc + N ≤ ms) (hI : xx_I X σ → xx_I X (xm_nw σ)) (hd : decode cc pc = .ok (.newarray .byte, 2)) (kk : xm_V X (kc + 1) (sc + N) r (xm_nw σ) (pc + 2) l (.ref (xm_ad (xx_G X) (σ.2.2 + 1)) :: st)) : xm_V X kc sc r σ pc l (.int (xm_J n) :: st) := by
  intro o ho H locs ls hR hS hL
  have hts := hC.2.2.2.2.1
  have hK := hC.2.2.2.2.2.1.1
  have hcp := hC.2.2.2.2.2.2.2.2.2.2.2
  have hsz : H.size = xm_ad (xx_G X) (σ.2.2 + 1) := (xm_nx hR hnx).1
  have hz := hR.2.2.1
  subst hn
  have hin : xm_in (N : Int) := ⟨by omega, by omega⟩
  have hpos : ¬ xm_J (N : Int) < 0 := by
    rw [← xm_J0, xm_J_lt hin xm_in0]; omega
  have hcl : (xm_J (N : Int)).toNatClampNeg = N := by rw [xm_clamp hin]; omega
  have hbytes : N * componentBytes (newarray.typeOf .byte) ≤ 536870912 := by
    rw [show componentBytes (newarray.typeOf .byte) = 1 from rfl]
    omega
  refine va_newaK (atype := .byte) hC.1 hC.2.1 (hts _ xl_A_byte) rfl hd rfl hpos hcl hbytes (Nat.le_trans hcap.1 hcp.1) (Nat.le_trans hcap.2 hcp.2) hsz fun H1 cA e1 z1 o1 hAr hNm => ?_
  refine kk o ho H1 locs ls (hR.nw hnx (hI hR.2.2.2.1) ?_ (by rw [z1, hsz]) (fun q hq => o1 q (by rw [← hsz]; exact hq))) ⟨Nat.le_trans hS.1 (by rw [hsz, z1]; omega), fun x g1 g2 => (o1 x (by rw [← hsz]; exact Nat.lt_of_lt_of_le g1 hS.1)).trans (hS.2.1 x g1 g2), hS.2.2⟩ hL
  have g : ∀ k, σ.1 (σ.2.2 + 1) k = 0 ∧ σ.2.1 (σ.2.2 + 1) k = 0 := fun k => (hz (σ.2.2 + 1) k).2.2.2.1 (Nat.lt_succ_self _)
  rw [xm_cell_6 hlay]
  have hc : cA = xm_cA (xx_G X) 6 := by
    have := (hK.2 5 _ rfl).2
    exact Option.some.inj (hNm.symm.trans this)
  subst hc
  show H1[xm_ad (xx_G X) (σ.2.2 + 1)]? = some (vp_cell _ _)
  rw [e1]
  simp only [g]
  rfl
-- the digits' tables
theorem xm_k2 (hC : xm_C X own cc nL fr mc ms) : xm_K2 (xx_G X) (xx_s X) := hC.2.2.2.2.2.1.2.2.2.2.2.2.2.2
theorem xm_hkp (hC : xm_C X own cc nL fr mc ms) : ∀ a : Nat, a < (xm_H0 (xx_G X)).size → ¬ xm_A X a → (xx_s X).heap[a]? = (xm_H0 (xx_G X))[a]? := fun a _ hn => hC.2.2.2.2.2.2.2.2.1 a (Nat.not_lt.mp hn)
theorem xg_gd1 (hC : xm_C X RJ6 cc nL fr mc ms) (hd : decode cc pc = .ok (.getstatic 83, 3)) (kk : xm_V X kc sc r σ (pc + 3) l (.ref (xm_t1 (xx_G X)) :: st)) : xm_V X kc sc r σ pc l st :=
  fun o ho H locs ls hR hS hL => va_gets (C := "java/lang/Integer") (ref := "java/lang/Integer") hC.1 hC.2.1 (va_Z.kept (xm_k2 hC).1 (xm_hkp hC)) hS hC.2.2.2.1 (hC.2.2.2.2.1 _ (xm_mem 1236 (by decide +kernel) rfl)) (fun _ h => h) hd (kk o ho H locs ls hR hS hL)
theorem xg_gd2 (hC : xm_C X RJ6 cc nL fr mc ms) (hd : decode cc pc = .ok (.getstatic 87, 3)) (kk : xm_V X kc sc r σ (pc + 3) l (.ref (xm_t2 (xx_G X)) :: st)) : xm_V X kc sc r σ pc l st :=
  fun o ho H locs ls hR hS hL => va_gets (C := "java/lang/Integer") (ref := "java/lang/Integer") hC.1 hC.2.1 (va_Z.kept (xm_k2 hC).2.1 (xm_hkp hC)) hS hC.2.2.2.1 (hC.2.2.2.2.1 _ (xm_mem 1238 (by decide +kernel) rfl)) (fun _ h => h) hd (kk o ho H locs ls hR hS hL)
theorem xg_gcB (hC : xm_C X RJ5 cc nL fr mc ms) (hd : decode cc pc = .ok (.getstatic 18, 3)) (kk : xm_V X kc sc r σ (pc + 3) l (.int (xm_J 1) :: st)) : xm_V X kc sc r σ pc l st :=
  fun o ho H locs ls hR hS hL => va_gets (C := "java/lang/String") (n := "COMPACT_STRINGS") (d := "Z") (ref := "java/lang/String") hC.1 hC.2.1 (va_Z.kept hC.2.2.2.2.2.1.2.2.2.2.2.2.1 (xm_hkp hC)) hS hC.2.2.2.1 (hC.2.2.2.2.1 _ (xm_mem 772 (by decide +kernel) rfl)) (fun _ h => h) hd (kk o ho H locs ls hR hS hL)
theorem xg_dr1 (hC : xm_C X own cc nL fr mc ms) {i : Nat} (hi : i < 100) (hd : decode cc pc = .ok (.baload, 1)) (kk : xm_V X kc sc r σ (pc + 1) l (.int (xm_J (48 + ((i % 10 : Nat) : Int))) :: st)) : xm_V X kc sc r σ pc l (.int (xm_J (i : Int)) :: .ref (xm_t1 (xx_G X)) :: st) := by
  intro o ho H locs ls hR hS hL
  have hin : xm_in (i : Int) := ⟨by omega, by omega⟩
  exact va_tb hC.1 hC.2.1 (va_T.kept (xm_k2 hC).2.2.1 (xm_hkp hC)) hS (xm_vp hin ⟨by omega, by omega⟩) (by rw [xm_clamp hin, Int.toNat_natCast]) hd (kk o ho H locs ls hR hS hL)
theorem xg_dr2 (hC : xm_C X own cc nL fr mc ms) {i : Nat} (hi : i < 100) (hd : decode cc pc = .ok (.baload, 1)) (kk : xm_V X kc sc r σ (pc + 1) l (.int (xm_J (48 + ((i / 10 : Nat) : Int))) :: st)) : xm_V X kc sc r σ pc l (.int (xm_J (i : Int)) :: .ref (xm_t2 (xx_G X)) :: st) := by
  intro o ho H locs ls hR hS hL
  have hin : xm_in (i : Int) := ⟨by omega, by omega⟩
  exact va_tb hC.1 hC.2.1 (va_T.kept (xm_k2 hC).2.2.2.1 (xm_hkp hC)) hS (xm_vp hin ⟨by omega, by omega⟩) (by rw [xm_clamp hin, Int.toNat_natCast]) hd (kk o ho H locs ls hR hS hL)
theorem xg_i2b (hC : xm_C X own cc nL fr mc ms) {v : Int} (hv : 0 ≤ v ∧ v ≤ 127) (hd : decode cc pc = .ok (.i2b, 1)) (k : xm_V X kc sc r σ (pc + 1) l (.int (xm_J v) :: st)) : xm_V X kc sc r σ pc l (.int (xm_J v) :: st) :=
  fun o ho H locs ls hR hS hL => lv_i2b hC.1 hC.2.1 hd (xm_bz hv).2.2.1 (k o ho H locs ls hR hS hL)
/-- & 255, (char): of a byte of 0 .. 127 -/
theorem xg_bchr (hC : xm_C X own cc nL fr mc ms) {v : Int} (hv : 0 ≤ v ∧ v ≤ 127) (hd1 : decode cc pc = .ok (.iand, 1)) (hd2 : decode cc (pc + 1) = .ok (.i2c, 1)) (k : xm_V X kc sc r σ (pc + 1 + 1) l (.int (xm_J v) :: st)) : xm_V X kc sc r σ pc l (.int (xm_J 255) :: .int (xm_J v) :: st) :=
  fun o ho H locs ls hR hS hL => lv_iand hC.1 hC.2.1 hd1 (lv_i2c hC.1 hC.2.1 hd2 (xm_bz hv).2.2.2 (k o ho H locs ls hR hS hL))
/-- areturn of a place that is known -/
theorem xg_aret (hC : xm_C X own cc nL fr mc ms) {rk : Nat} {v : Int} {a : Nat} {rt : FieldType} (hQ : xm_Rt X rk (some rt) kc sc) (hrt : (∃ n, rt = .object n) ∨ ∃ t, rt = .array t) (hv : xm_o (xx_G X) rk v = some (.ref a)) (hf : xm_f rk v) (hd : decode cc pc = .ok (.areturn, 1)) : xm_V X kc sc (some (σ, v)) σ pc l [.ref a] := by
  intro o ho H locs ls hR hS hL T hT Xs
  cases ho
  have hlocks := hC.2.2.2.2.2.2.1
  obtain ⟨t, a1, b1⟩ := W.aret (hlocks := hlocks) (Qc := xm_Qc (xx_G X) (xx_I X) rk (σ, v)) (free := xm_A X) hC.1 hC.2.1 hQ.1 hrt (Or.inr ⟨_, rfl⟩) (fun t ht _ => xm_fr (rk := rk) (v := v) hR hf hS ht (by rw [hv])) hS.2.2 hd T hT Xs
  exact ⟨t, a1, hQ.2 _ _ b1⟩
/-- System.arraycopy into a byte row -/
theorem xg_acopy (hC : xm_C X own cc nL fr mc ms) {idx b0 n0 a n1 sp dp n : Nat} {f : Nat → Int}
    (hsrc : ∀ (H : Heap) (locs : List Loc), xm_R (xx_G X) (xx_I X) σ H → va_S (xm_A X) (xx_s X).heap H locs → ∃ cs : Cell, H[b0]? = some cs ∧ (xx_s X).isArrayOf cs .byte ∧ cs.vm ≠ .unknown ∧ n0 ≤ cs.slots.size ∧ ∀ j, j < n0 → cs.slots[j]? = some (.int (xm_J (f j))))
    (hf : ∀ j, j < n → 0 ≤ f (sp + j) ∧ f (sp + j) ≤ 127) (hl : xm_lay a = (6, n1)) (ha : 1 ≤ a ∧ a ≤ σ.2.2) (h4 : sp + n ≤ n0) (h5 : dp + n ≤ n1) (hb : n0 ≤ 100000 ∧ n1 ≤ 100000)
    (hI : xx_I X σ → xx_I X (xm_cpm σ a dp n (fun j => f (sp + j)))) (hlink : Cond.methodLink own idx arraycopyName ∈ xm_tb) (hfr : 1 ≤ fr) (hrest : (st.map fun v => v.category).sum ≤ 8) (hd : decode cc pc = .ok (.invokestatic idx, 3))
    (kk : xm_V X kc sc r (xm_cpm σ a dp n (fun j => f (sp + j))) (pc + 3) l st) : xm_V X kc sc r σ pc l (.int (xm_J (n : Int)) :: .int (xm_J (dp : Int)) :: .ref (xm_ad (xx_G X) a) :: .int (xm_J (sp : Int)) :: .ref b0 :: st) := by
  refine xg_facts (fun hT hI2 o ho H locs ls hR hS hL => ?_)
  have hts := hC.2.2.2.2.1
  have hK := hC.2.2.2.2.2.1.1
  have hcp := hC.2.2.2.2.2.2.2.2.2
  have h7 := xm_k7 hl (by decide)
  have hc1 := hR.1 a ha.1 ha.2 (Or.inl h7)
  rw [xm_cell_6 hl] at hc1
  have hc1 : H[xm_ad (xx_G X) a]? = some (arrV (xm_cA (xx_G X) 6) n1 (fun j => .int (xm_J (σ.1 a j)))) := hc1
  obtain ⟨cs, hs1, hs2, hs3, hs4, hs5⟩ := hsrc H locs hR hS
  obtain ⟨hs6, k0, hk0, cm0, hkk0⟩ := hs2
  obtain ⟨-, k1, hk1, cm1, hkk1⟩ := (hK.2 5 _ rfl).1 n1 (fun j => .int (xm_J (σ.1 a j)))
  have cl : ∀ q : Nat, q ≤ 100000 → (xm_J (q : Int)).toNatClampNeg = q ∧ (xm_J (q : Int)).toInt = (q : Int) ∧ ¬ xm_J (q : Int) < 0 := fun q hq => by
    have hin : xm_in (q : Int) := ⟨by omega, by omega⟩
    refine ⟨by rw [xm_clamp hin, Int.toNat_natCast], xm_J_toInt hin, ?_⟩
    rw [← xm_J0, xm_J_lt hin xm_in0]
    omega
  obtain ⟨cs1, cs2, cs3⟩ := cl sp (by omega)
  obtain ⟨cd1, cd2, cd3⟩ := cl dp (by omega)
  obtain ⟨cn1, cn2, cn3⟩ := cl n (by omega)
  intro T hT0 Xs
  obtain ⟨vm', X', step⟩ := Xs.arraycopy hC.1 hC.2.2.2.1 (hts _ hlink) (hts _ (xm_mem 766 (by decide +kernel) rfl)) (hts _ (xm_mem 765 (by decide +kernel) rfl)) (hts _ (xm_mem 56 (by decide +kernel) rfl)) (src := b0) (dst := xm_ad (xx_G X) a) (cs := cs) (cd := arrV (xm_cA (xx_G X) 6) n1 (fun j => .int (xm_J (σ.1 a j)))) (srcPos := xm_J sp) (destPos := xm_J dp) (n := xm_J n) (by rw [hT0]; exact hs1) (by rw [hT0]; exact hc1)
    hs6 (fun _ h => by cases h) hs3 (fun h => by cases h) hk0 hk1 hkk0 hkk1 (by simp [refKind]) cs3 cd3 cn3
    (by rw [cs2, cn2]; omega)
    (by rw [cd2, cn2, arrV_size]; omega)
    (fun vm₁ _ i hi => by
      rw [cn1] at hi
      have e : cs.slots.getD ((xm_J sp).toNatClampNeg + i) .null = .int (xm_J (f (sp + i))) := by
        rw [cs1, Array.getD_eq_getD_getElem?, hs5 _ (by omega)]
        rfl
      refine ⟨?_, ?_⟩
      · rw [e]
        exact (xm_bz (hf i hi)).2.1
      · rw [e]
        exact trivial)
    (g := F0 (xx_m X) pc ls (.int (xm_J n) :: .int (xm_J dp) :: .ref (xm_ad (xx_G X) a) :: .int (xm_J sp) :: .ref b0 :: st)) rfl (by show ls.size = _; rw [hL.1]) (rest := st) rfl (by rw [hC.2.1]; exact hd) (by omega) (by
      have e3 : nativeFrameWords "java/lang/System" "arraycopy" 5 ≤ 20 := by decide +kernel
      show 2 * 0 + _ + _ ≤ _
      omega)
  have e1 : copied cs (arrV (xm_cA (xx_G X) 6) n1 (fun j => .int (xm_J (σ.1 a j)))) (xm_J sp) (xm_J dp) (xm_J n) = arrV (xm_cA (xx_G X) 6) n1 (fun j => .int (va_cpy (fun j => xm_J (f j)) (fun j => xm_J (σ.1 a j)) sp dp n j)) := by
    have z := va_copiedX (fun z => Value.int z) cs (xm_cA (xx_G X) 6) (n0 := n0) (n1 := n1) (sp := sp) (dp := dp) (n := n) (fun j => xm_J (f j)) (fun j => xm_J (σ.1 a j)) hs5 h4
    unfold copied
    rw [cs1, cd1, cn1]
    exact z
  rw [e1] at X' step
  have hlt : xm_ad (xx_G X) a < H.size := (Array.getElem?_eq_some_iff.mp hc1).1
  generalize hnew : arrV (xm_cA (xx_G X) 6) n1 (fun j => Value.int (va_cpy (fun j => xm_J (f j)) (fun j => xm_J (σ.1 a j)) sp dp n j)) = nw at X' step
  have hheap : ((T.setVm vm').setCell (xm_ad (xx_G X) a) nw).heap = H.setIfInBounds (xm_ad (xx_G X) a) nw := by rw [← hT0]; rfl
  have oq : ∀ q : Nat, q ≠ xm_ad (xx_G X) a → (H.setIfInBounds (xm_ad (xx_G X) a) nw)[q]? = H[q]? := fun q hq => by simp [Array.getElem?_setIfInBounds, Ne.symm hq]
  have z : (H.setIfInBounds (xm_ad (xx_G X) a) nw).size = H.size := by simp
  have key := kk o ho (H.setIfInBounds (xm_ad (xx_G X) a) nw) (locs ++ (cs.stretch (xm_J sp).toNatClampNeg (xm_J n).toNatClampNeg).zipIdx.map fun q => ⟨xm_ad (xx_G X) a, (xm_J dp).toNatClampNeg + q.2⟩) ls
    (hR.put ha.1 rfl (fun k => xm_cpm_ne (fun y => xm_109 h7 y.1.symm)) (hT.cpm hl ha.2 hf) (hI hI2) (fun b hb => xm_cell_cpm hb) (by
      rw [xm_cell_6 hl]
      show (H.setIfInBounds (xm_ad (xx_G X) a) nw)[xm_ad (xx_G X) a]? = some (arrV (xm_cA (xx_G X) 6) n1 (fun j => Value.int (xm_J ((xm_cpm σ a dp n (fun j => f (sp + j))).1 a j))))
      have e2 : (fun j => Value.int (xm_J ((xm_cpm σ a dp n (fun j => f (sp + j))).1 a j))) = (fun j => Value.int (va_cpy (fun j => xm_J (f j)) (fun j => xm_J (σ.1 a j)) sp dp n j)) := by
        funext j
        unfold va_cpy
        by_cases c : dp ≤ j ∧ j < dp + n
        · rw [xm_cpm_at c, if_pos c]
        · rw [xm_cpm_ne (fun y => c y.2), if_neg c]
      rw [e2, hnew]
      simp [Array.getElem?_setIfInBounds, hlt]) z oq)
    ⟨by rw [z]; exact hS.1, fun q g1 g2 => by
      rw [oq q (fun e => g2 (by rw [e]; exact xm_ad_gt ha.1))]
      exact hS.2.1 q g1 g2, fun q hq => by
      rcases List.mem_append.mp hq with h | h
      · exact hS.2.2 q h
      · obtain ⟨z, -, hz⟩ := List.mem_map.mp h
        rw [← hz]
        exact xm_ad_gt ha.1⟩ hL
  obtain ⟨t, a1, b1⟩ := key _ hheap X'
  exact ⟨t, step t a1, b1⟩
end XB
