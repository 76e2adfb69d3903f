/-! ===== rows for texts; the JDK's own methods ===== -/
def xm_slen (v : Int) : Int := (xm_ln.getD v.toNat 0 : Nat)
def xm_chs : List (List Int) := xm_tx.map (fun s => s.toList.map (fun c => (c.toNat : Int)))
def xm_chr (v k : Int) : Int := (xm_chs.getD v.toNat []).getD k.toNat 0
theorem xm_chr_ok : ∀ i, i < 24 → ∀ k, k < xm_ln.getD i 0 → ((((xm_by.getD i []).getD k 0 &&& 255).toUInt32 % 65536).toInt32) = xm_J ((xm_chs.getD i []).getD k 0) ∧ 0 ≤ (xm_chs.getD i []).getD k 0 ∧ (xm_chs.getD i []).getD k 0 ≤ 127 := by decide +kernel
theorem xm_ln_ok : ∀ i, i < 24 → xm_ln.getD i 0 < 100 := by decide +kernel
theorem xm_shr0 : ∀ n, n < 100 → xm_shr (n : Nat) 0 = n := by decide +kernel
theorem xm_cn {v : Int} (h : 0 ≤ v ∧ v ≤ 127) : narrow .char (.int (xm_J v)) = .int (xm_J v) := by
  obtain ⟨n, rfl⟩ : ∃ n : Nat, v = n := ⟨v.toNat, by omega⟩
  have : ∀ n, n < 128 → narrow .char (.int (xm_J (n : Nat))) = .int (xm_J (n : Nat)) := by decide +kernel
  exact this n (by omega)
def fj_length (σ : xm_Mem) (v : Int) : Option xm_Out := if 0 ≤ v ∧ v < 24 then some (σ, xm_slen v) else none
def fj_charAt (σ : xm_Mem) (v k : Int) : Option xm_Out := if (0 ≤ v ∧ v < 24) ∧ 0 ≤ k ∧ k < xm_slen v then some (σ, xm_chr v k) else none
section XS
variable {X : xm_X} {own : String} {cc : ByteArray} {nL fr mc ms kc sc : Nat} {r r1 r2 : Option xm_Out} {σ : xm_Mem} {pc : Nat} {l l' : List (Nat × Value)} {st : List Value}
theorem xm_S0 (hC : xm_C X own cc nL fr mc ms) : vk_S 24 xm_ln xm_by (xm_adK (xx_G X)) (xm_adV (xx_G X)) (xm_A X) (xx_s X) (xx_s X).heap :=
  vk_S.kept hC.2.2.2.2.2.1.2.1 (fun a _ hn => hC.2.2.2.2.2.2.2.2.1 a (Nat.not_lt.mp hn))
theorem xg_ldcS (hC : xm_C X own cc nL fr mc ms) {i id : Nat} (hu : (own, i, id) ∈ xm_use) (hd : decode cc pc = .ok (.ldc i, 2)) (k : xm_V X kc sc r σ (pc + 2) l (.ref (xm_adK (xx_G X) id) :: st)) : xm_V X kc sc r σ pc l st :=
  fun o ho H locs ls hR hS hL => va_ldcS hC.1 hC.2.1 hC.2.2.2.1 (hC.2.2.2.2.2.1.2.2.1 _ hu) hd (k o ho H locs ls hR hS hL)
theorem xg_ldcSW (hC : xm_C X own cc nL fr mc ms) {i id : Nat} (hu : (own, i, id) ∈ xm_use) (hd : decode cc pc = .ok (.ldc_w i, 3)) (k : xm_V X kc sc r σ (pc + 3) l (.ref (xm_adK (xx_G X) id) :: st)) : xm_V X kc sc r σ pc l st := by
  intro o ho H locs ls hR hS hL T hT Xs
  obtain ⟨t, a1, b1⟩ := k o ho H locs ls hR hS hL T hT Xs
  have hZ := hC.2.2.2.2.2.1.2.2.1 _ hu
  exact ⟨t, Jvm.Stand.ldcStringW Xs hC.1 hC.2.2.2.1 hZ.1 hZ.2 (g := F0 (xx_m X) pc ls st) rfl (by rw [hC.2.1]; exact hd) t a1, b1⟩
theorem xg_sval (hC : xm_C X RJ0 cc nL fr mc ms) {i : Nat} (hi : i < 24) (hd : decode cc pc = .ok (.getfield 9, 3)) (kk : xm_V X kc sc r σ (pc + 3) l (.ref (xm_adV (xx_G X) i) :: st)) : xm_V X kc sc r σ pc l (.ref (xm_adK (xx_G X) i) :: st) :=
  fun o ho H locs ls hR hS hL => vk_getf (o := "java/lang/String") (n := "value") (d := "[B") (ref := "java/lang/String") hC.1 hC.2.1 ((xm_S0 hC).1 i hi).2.2.1 hS hC.2.2.2.1 (hC.2.2.2.2.1 _ (xm_mem 1317 (by decide +kernel) rfl)) (fun _ h => h) hd (kk o ho H locs ls hR hS hL)
theorem xg_scod (hC : xm_C X RJ0 cc nL fr mc ms) {i : Nat} (hi : i < 24) (hd : decode cc pc = .ok (.getfield 15, 3)) (kk : xm_V X kc sc r σ (pc + 3) l (.int (xm_J 0) :: st)) : xm_V X kc sc r σ pc l (.ref (xm_adK (xx_G X) i) :: st) :=
  fun o ho H locs ls hR hS hL => vk_getf (o := "java/lang/String") (n := "coder") (d := "B") (ref := "java/lang/String") hC.1 hC.2.1 ((xm_S0 hC).1 i hi).2.1 hS hC.2.2.2.1 (hC.2.2.2.2.1 _ (xm_mem 1318 (by decide +kernel) rfl)) (fun _ h => h) hd (kk o ho H locs ls hR hS hL)
theorem xg_slen (hC : xm_C X own cc nL fr mc ms) {i : Nat} (hi : i < 24) (hd : decode cc pc = .ok (.arraylength, 1)) (kk : xm_V X kc sc r σ (pc + 1) l (.int (xm_J (xm_ln.getD i 0 : Nat)) :: st)) : xm_V X kc sc r σ pc l (.ref (xm_adV (xx_G X) i) :: st) :=
  fun o ho H locs ls hR hS hL => va_tlen hC.1 hC.2.1 ((xm_S0 hC).1 i hi).2.2.2 hS rfl hd (kk o ho H locs ls hR hS hL)
theorem xg_sbyte (hC : xm_C X own cc nL fr mc ms) {i : Nat} {k : Int} (hi : i < 24) (hk : xm_in k) (h : 0 ≤ k ∧ k < (xm_ln.getD i 0 : Nat)) (hd : decode cc pc = .ok (.baload, 1)) (kk : xm_V X kc sc r σ (pc + 1) l (.int ((xm_by.getD i []).getD k.toNat 0) :: st)) : xm_V X kc sc r σ pc l (.int (xm_J k) :: .ref (xm_adV (xx_G X) i) :: st) :=
  fun o ho H locs ls hR hS hL => va_tb hC.1 hC.2.1 ((xm_S0 hC).1 i hi).2.2.2 hS (xm_vp hk h) (by rw [xm_clamp hk]) hd (kk o ho H locs ls hR hS hL)
theorem xg_gcs (hC : xm_C X RJ0 cc nL fr mc ms) (hd : decode cc pc = .ok (.getstatic 38, 3)) (kk : xm_V X kc sc r σ (pc + 3) l (.int (xm_J 1) :: st)) : xm_V X kc sc r σ pc l st :=
  fun o ho H locs ls hR hS hL => va_gets (C := "java/lang/String") (n := "COMPACT_STRINGS") (d := "Z") (ref := "java/lang/String") hC.1 hC.2.1 (va_Z.kept hC.2.2.2.2.2.1.2.2.2.2.2.2.1 (fun a _ hn => hC.2.2.2.2.2.2.2.2.1 a (Nat.not_lt.mp hn))) hS hC.2.2.2.1 (hC.2.2.2.2.1 _ (xm_mem 916 (by decide +kernel) rfl)) (fun _ h => h) hd (kk o ho H locs ls hR hS hL)
theorem xg_gform (hC : xm_C X RJ0 cc nL fr mc ms) (hd : decode cc pc = .ok (.getstatic 1053, 3)) (kk : ∀ v : Value, (v = .null ∨ ∃ t, v = .ref t) → xm_V X kc sc r σ (pc + 3) l (v :: st)) : xm_V X kc sc r σ pc l st := by
  intro o ho H locs ls hR hS hL
  have hk := fun (a : Nat) (_ : a < (xm_H0 (xx_G X)).size) (hn : ¬ xm_A X a) => hC.2.2.2.2.2.2.2.2.1 a (Nat.not_lt.mp hn)
  have hl := hC.2.2.2.2.1 _ (xm_mem 686 (w := Cond.fieldLink RJ0 1053 "jdk/internal/util/Preconditions" "SIOOBE_FORMATTER" "Ljava/util/function/BiFunction;") (by decide +kernel) rfl)
  rcases hC.2.2.2.2.2.1.2.2.2.2.2.2.2.1 with h | ⟨t, h⟩
  · exact va_gets (C := "jdk/internal/util/Preconditions") hC.1 hC.2.1 (va_Z.kept h hk) hS hC.2.2.2.1 hl (fun _ h => h) hd (kk .null (Or.inl rfl) o ho H locs ls hR hS hL)
  · exact va_gets (C := "jdk/internal/util/Preconditions") hC.1 hC.2.1 (va_Z.kept h hk) hS hC.2.2.2.1 hl (fun _ h => h) hd (kk (.ref t) (Or.inr ⟨t, rfl⟩) o ho H locs ls hR hS hL)
/-- a return of byte or char -/
theorem xg_nret (hC : xm_C X own cc nL fr mc ms) {ty : FieldType} (hQ : xm_Rt X 1 (some ty) kc sc) {v : Int} (hv : xm_in v) (hn : narrow ty (.int (xm_J v)) = .int (xm_J v)) (hd : decode cc pc = .ok (.ireturn, 1)) : xm_V X kc sc (some (σ, v)) σ pc l [.int (xm_J v)] := by
  intro o ho H locs ls hR hS hL T hT Xs
  cases ho
  have hlocks := hC.2.2.2.2.2.2.1
  obtain ⟨t, a, b⟩ := W.zret (hlocks := hlocks) (ty := ty) (Qc := xm_Qc (xx_G X) (xx_I X) 1 (σ, v)) (free := xm_A X) hC.1 hC.2.1 hQ.1 hn (fun t ht _ => xm_fr (rk := 1) (v := v) hR hv hS ht rfl) hS.2.2 hd T hT Xs
  exact ⟨t, a, hQ.2 _ _ b⟩
/-- a call of a text's method -/
theorem xg_callT (hC : xm_C X own cc nL fr mc ms) {rk i idx maxL n fr' mc' ms' kc' sc' : Nat} {y : MethodName} {bytes : ByteArray} {ret : Option FieldType} {As : List Value} {r0 : Option xm_Out} {k : xm_Out → Option xm_Out} {stk rest : List Value} {st2 : xm_Out → List Value}
    (hM : ∀ o, r0 = some o → xm_M (xx_G X) (xx_I X) (xx_la X) y bytes maxL ret fr' mc' ms' (.ref (xm_adK (xx_G X) i) :: As) σ rk o) (hL : xm_L own idx y bytes maxL ret n) (hV : Cond.instanceMethod y ∈ xm_tb ∧ Cond.selects y.cls y y ∈ xm_tb)
    (hi : i < 24) (hcl : y.cls = "java/lang/String") (hfr : fr' + 1 ≤ fr) (hcap : kc + mc' ≤ mc ∧ sc + ms' ≤ ms) (hd : decode cc pc = .ok (.invokevirtual idx, 3)) (hstk : stk = As.reverse ++ .ref (xm_adK (xx_G X) i) :: rest) (hn : As.length = n) (hrest : (rest.map fun v => v.category).sum ≤ 8)
    (hkc : kc + mc' = kc') (hsc : sc + ms' = sc') (hst2 : ∀ o, (xm_o (xx_G X) rk o.2).toList ++ rest = st2 o) (kk : ∀ o, xm_f rk o.2 → xm_V X kc' sc' (k o) o.1 (pc + 3) l (st2 o)) : xm_V X kc sc (r0.bind k) σ pc l stk := by
  refine xg_run (a := (Value.ref (xm_adK (xx_G X) i) :: As).toArray) (fun o ho H locs ls hR hS hLs => ?_) hkc hsc hst2 kk
  have hts := hC.2.2.2.2.1
  have hcp := hC.2.2.2.2.2.2.2.2.2.2.2
  have hrecv := vk_recv (xm_S0 hC) hi hS
  refine va_runV (As := As) (rest := rest) (C := y.cls) (maxL := maxL) (ret := ret) ⟨hC.1, hC.2.1, hC.2.2.1, hC.2.2.2.1, hts⟩ (hM o ho) ⟨xm_cb_of hC hL hfr, hts _ hV.1, hts _ hV.2⟩ ⟨xm_blind, by rw [hcl]; exact hrecv, xm_pre hR hC.2.2.2.2.2.1⟩ rfl hn (by show ls.size = _; rw [hLs.1, hC.2.2.1]) hstk (by show 2 * 0 + _ ≤ 8; omega) hd ⟨by omega, by omega⟩
theorem xm_lmin : yJ9_min_7cf53 = Lib.Math.min.name ∧ cJ9_min_7cf53 = Lib.Math.min.code := by decide +kernel
theorem xm_lmax : yJ9_max_7cf53 = Lib.Math.max.name ∧ cJ9_max_7cf53 = Lib.Math.max.code := by decide +kernel
def xm_min (a b : Int) : Int := if b < a then b else a
def xm_max (a b : Int) : Int := if a < b then b else a
theorem xm_min_in {a b : Int} (ha : xm_in a) (hb : xm_in b) : xm_in (xm_min a b) := by unfold xm_min; split <;> assumption
theorem xm_max_in {a b : Int} (ha : xm_in a) (hb : xm_in b) : xm_in (xm_max a b) := by unfold xm_max; split <;> assumption
theorem xg_min (hC : xm_C X own cc nL fr mc ms) {idx : Nat} {a b : Int} (ha : xm_in a) (hb : xm_in b) (hfr : 1 ≤ fr) (hL : xm_L own idx yJ9_min_7cf53 cJ9_min_7cf53 2 (some .int) 2) (hcap : kc ≤ mc ∧ sc ≤ ms) (hrest : (st.map fun v => v.category).sum ≤ 8) (hd : decode cc pc = .ok (.invokestatic idx, 3)) (kk : xm_V X kc sc r σ (pc + 3) l (.int (xm_J (xm_min a b)) :: st)) : xm_V X kc sc r σ pc l (.int (xm_J b) :: .int (xm_J a) :: st) := by
  intro o ho H locs ls hR hS hLs
  have hts := hC.2.2.2.2.1
  have hcp := hC.2.2.2.2.2.2.2.2.2
  obtain ⟨l1, l2, l3, -⟩ := hL
  have l4 := xl_S_J9_min_7cf53
  rw [xm_lmin.1] at l1 l3 l4
  rw [xm_lmin.2] at l3
  refine va_mmin hC.1 hC.2.1 (by rw [hLs.1]) hC.2.2.2.1 (hts _ l1) (hts _ l4) (hts _ l2) (hts _ l3) (by omega) (by omega) (by omega) (by omega) hd ?_
  have K := kk o ho H locs ls hR hS hLs
  have e := xm_J_lt hb ha
  unfold xm_min at K
  by_cases h : b < a
  · rw [if_pos h] at K
    rw [if_pos (e.mpr h)]
    exact K
  · rw [if_neg h] at K
    rw [if_neg (fun z => h (e.mp z))]
    exact K
theorem xg_max (hC : xm_C X own cc nL fr mc ms) {idx : Nat} {a b : Int} (ha : xm_in a) (hb : xm_in b) (hfr : 1 ≤ fr) (hL : xm_L own idx yJ9_max_7cf53 cJ9_max_7cf53 2 (some .int) 2) (hcap : kc ≤ mc ∧ sc ≤ ms) (hrest : (st.map fun v => v.category).sum ≤ 8) (hd : decode cc pc = .ok (.invokestatic idx, 3)) (kk : xm_V X kc sc r σ (pc + 3) l (.int (xm_J (xm_max a b)) :: st)) : xm_V X kc sc r σ pc l (.int (xm_J b) :: .int (xm_J a) :: st) := by
  intro o ho H locs ls hR hS hLs
  have hts := hC.2.2.2.2.1
  have hcp := hC.2.2.2.2.2.2.2.2.2
  obtain ⟨l1, l2, l3, -⟩ := hL
  have l4 := xl_S_J9_max_7cf53
  rw [xm_lmax.1] at l1 l3 l4
  rw [xm_lmax.2] at l3
  refine va_mmax hC.1 hC.2.1 (by rw [hLs.1]) hC.2.2.2.1 (hts _ l1) (hts _ l4) (hts _ l2) (hts _ l3) (by omega) (by omega) (by omega) (by omega) hd ?_
  have K := kk o ho H locs ls hR hS hLs
  have e := xm_J_lt ha hb
  unfold xm_max at K
  by_cases h : a < b
  · rw [if_pos h] at K
    rw [if_pos (e.mpr h)]
    exact K
  · rw [if_neg h] at K
    rw [if_neg (fun z => h (e.mp z))]
    exact K
end XS
section XT
variable {Γ : xm_Gm} {I : xm_Mem → Prop} {la : Launch} {σ : xm_Mem} {i : Nat}
theorem mj_coder (hi : i < 24) : ∀ o, some (σ, (0 : Int)) = some o → xm_M Γ I la yJ0_coder_7d493 cJ0_coder_7d493 1 (some .byte) 1 0 0 [.ref (xm_adK Γ i)] σ 1 o :=
  xg_enter (by decide) (by simp [lg_sl, Value.category]) (fun X hG hI hla hC hQ hname => by
    subst hG
    refine xg_gcs hC dJ0_coder_7d493_0 ?_
    suffices h : xm_V X 0 0 (if (1 : Int) = 0 then none else some (σ, (0 : Int))) σ 3 (lv_args 0 [.ref (xm_adK (xx_G X) i)]) [.int (xm_J 1)] by simpa using h
    refine xg_if_eq hC (xm_inc 1 rfl) 13 dJ0_coder_7d493_3 (by decide) (fun h => absurd h (by decide)) (fun _ => ?_)
    refine xg_aload_n hC dJ0_coder_7d493_6 rfl ?_
    refine xg_scod hC hi dJ0_coder_7d493_7 ?_
    refine xg_goto hC 14 dJ0_coder_7d493_10 (by decide) ?_
    exact xg_nret hC hQ xm_in0 (by decide +kernel) dJ0_coder_7d493_14)
theorem mj_isLatin1 (hi : i < 24) : ∀ o, some (σ, (1 : Int)) = some o → xm_M Γ I la yJ0_isLatin1_aae02 cJ0_isLatin1_aae02 1 (some .boolean) 1 0 0 [.ref (xm_adK Γ i)] σ 2 o :=
  xg_enter (by decide) (by simp [lg_sl, Value.category]) (fun X hG hI hla hC hQ hname => by
    subst hG
    refine xg_gcs hC dJ0_isLatin1_aae02_0 ?_
    suffices h : xm_V X 0 0 (if (1 : Int) = 0 then none else (if (0 : Int) = 0 then some (σ, (1 : Int)) else none)) σ 3 (lv_args 0 [.ref (xm_adK (xx_G X) i)]) [.int (xm_J 1)] by simpa using h
    refine xg_if_eq hC (xm_inc 1 rfl) 17 dJ0_isLatin1_aae02_3 (by decide) (fun h => absurd h (by decide)) (fun _ => ?_)
    refine xg_aload_n hC dJ0_isLatin1_aae02_6 rfl ?_
    refine xg_scod hC hi dJ0_isLatin1_aae02_7 ?_
    refine xg_if_ne hC xm_in0 17 dJ0_isLatin1_aae02_10 (by decide) (fun _ => ?_) (fun h => absurd rfl h)
    refine xg_iconst hC dJ0_isLatin1_aae02_13 ?_
    refine xg_goto hC 18 dJ0_isLatin1_aae02_14 (by decide) ?_
    exact xg_zret hC hQ (by decide) dJ0_isLatin1_aae02_18)
theorem mj_length {v : Int} : ∀ o, fj_length σ v = some o → xm_M Γ I la yJ0_length_8abf5 cJ0_length_8abf5 1 (some .int) 2 0 0 [.ref (xm_adK Γ v.toNat)] σ 1 o :=
  xg_enter (by decide) (by simp [lg_sl, Value.category]) (fun X hG hI hla hC hQ hname => by
    subst hG
    refine xg_guard (fun hv => ?_)
    have hi : v.toNat < 24 := by omega
    have hl := xm_ln_ok _ hi
    refine xg_aload_n hC dJ0_length_8abf5_0 rfl ?_
    refine xg_sval hC hi dJ0_length_8abf5_1 ?_
    refine xg_slen hC hi dJ0_length_8abf5_4 ?_
    refine xg_aload_n hC dJ0_length_8abf5_5 rfl ?_
    have h := xg_callT (X := X) (l := lv_args 0 [.ref (xm_adK (xx_G X) v.toNat)]) (kc := 0) (sc := 0) (k := fun o => some (o.1, xm_shr (xm_ln.getD v.toNat 0 : Nat) o.2)) hC (mj_coder (σ := σ) hi) xl_M_J0_335 xl_V_J0_coder_7d493 hi rfl (by decide) ⟨by decide, by decide⟩ dJ0_length_8abf5_6 (rest := [.int (xm_J (xm_ln.getD v.toNat 0 : Nat))]) rfl rfl (Nat.le_of_ble_eq_true rfl) rfl rfl (st2 := fun o => [.int (xm_J o.2), .int (xm_J (xm_ln.getD v.toNat 0 : Nat))]) (fun _ => rfl) (fun o _ => by
      refine xg_ishr hC dJ0_length_8abf5_9 ?_
      exact xg_iret hC hQ (xm_shr_in _ _) dJ0_length_8abf5_10)
    have e : (some (σ, (0 : Int))).bind (fun o => some (o.1, xm_shr (xm_ln.getD v.toNat 0 : Nat) o.2)) = some (σ, xm_slen v) := by
      show some (σ, xm_shr (xm_ln.getD v.toNat 0 : Nat) 0) = _
      rw [xm_shr0 _ hl]; rfl
    rw [e] at h
    exact h)
theorem mj_check {k n : Int} (hk : xm_in k) (hn : xm_in n) {v : Value} (hv : v = .null ∨ ∃ t, v = .ref t) : ∀ o, (if k < 0 then none else if k < n then some (σ, k) else none) = some o → xm_M Γ I la yJ3_checkIndex_8e157 cJ3_checkIndex_8e157 3 (some .int) 1 0 0 [.int (xm_J k), .int (xm_J n), v] σ 1 o :=
  xg_enter (by decide) (by rcases hv with rfl | ⟨t, rfl⟩ <;> simp [lg_sl, Value.category]) (fun X hG hI hla hC hQ hname => by
    subst hG
    refine xg_iload_n hC dJ3_checkIndex_8e157_0 rfl ?_
    refine xg_if_lt hC hk 9 dJ3_checkIndex_8e157_1 (by decide) (fun _ => xg_none) (fun _ => ?_)
    refine xg_iload_n hC dJ3_checkIndex_8e157_4 rfl ?_
    refine xg_iload_n hC dJ3_checkIndex_8e157_5 rfl ?_
    refine xg_icmp_lt hC hk hn 16 dJ3_checkIndex_8e157_6 (by decide) (fun _ => ?_) (fun _ => xg_none)
    refine xg_iload_n hC dJ3_checkIndex_8e157_16 rfl ?_
    exact xg_iret hC hQ hk dJ3_checkIndex_8e157_17)
theorem mj_checkIndex {k n : Int} (hk : xm_in k) (hn : xm_in n) : ∀ o, ((if k < 0 then none else if k < n then some (σ, k) else none).bind (fun o => some (o.1, 0))) = some o → xm_M Γ I la yJ0_checkIndex_df160 cJ0_checkIndex_df160 2 none 2 0 0 [.int (xm_J k), .int (xm_J n)] σ 0 o :=
  xg_enter (by decide) (by simp [lg_sl, Value.category]) (fun X hG hI hla hC hQ hname => by
    subst hG
    refine xg_iload_n hC dJ0_checkIndex_df160_0 rfl ?_
    refine xg_iload_n hC dJ0_checkIndex_df160_1 rfl ?_
    refine xg_gform hC dJ0_checkIndex_df160_2 (fun v hv => ?_)
    refine xg_callS hC (mj_check hk hn hv) xl_M_J0_1059 xl_S_J3_checkIndex_8e157 (by decide) ⟨by decide, by decide⟩ dJ0_checkIndex_df160_5 (rest := []) rfl rfl (Nat.le_of_ble_eq_true rfl) rfl rfl (st2 := fun o => [.int (xm_J o.2)]) (fun _ => rfl) (fun o _ => ?_)
    refine xg_pop hC dJ0_checkIndex_df160_8 rfl ?_
    exact xg_vret hC hQ dJ0_checkIndex_df160_9)
theorem mj_lchar {k : Int} (hk : xm_in k) (hi : i < 24) : ∀ o, (if 0 ≤ k ∧ k < (xm_ln.getD i 0 : Nat) then some (σ, xm_chr i k) else none) = some o → xm_M Γ I la yJ1_charAt_3b067 cJ1_charAt_3b067 2 (some .char) 3 0 0 [.ref (xm_adV Γ i), .int (xm_J k)] σ 1 o :=
  xg_enter (by decide) (by simp [lg_sl, Value.category]) (fun X hG hI hla hC hQ hname => by
    subst hG
    have hl := xm_ln_ok _ hi
    refine xg_guard (fun h => ?_)
    have hkn : k.toNat < xm_ln.getD i 0 := by omega
    obtain ⟨hc1, hc2, hc3⟩ := xm_chr_ok i hi _ hkn
    refine xg_iload_n hC dJ1_charAt_3b067_0 rfl ?_
    refine xg_aload_n hC dJ1_charAt_3b067_1 rfl ?_
    refine xg_slen hC hi dJ1_charAt_3b067_2 ?_
    have hz : some (σ, xm_chr i k) = ((if k < 0 then none else if k < (xm_ln.getD i 0 : Nat) then some (σ, k) else none).bind (fun o => some (o.1, (0 : Int)))).bind (fun o => some (o.1, xm_chr i k)) := by
      rw [if_neg (by omega), if_pos h.2]; rfl
    rw [hz]
    refine xg_callS hC (mj_checkIndex hk ⟨by omega, by omega⟩) xl_M_J1_9 xl_S_J0_checkIndex_df160 (by decide) ⟨by decide, by decide⟩ dJ1_charAt_3b067_3 (rest := []) rfl rfl (Nat.le_of_ble_eq_true rfl) rfl rfl (st2 := fun o => []) (fun _ => rfl) (fun o _ => ?_)
    refine xg_aload_n hC dJ1_charAt_3b067_6 rfl ?_
    refine xg_iload_n hC dJ1_charAt_3b067_7 rfl ?_
    refine xg_sbyte hC hi hk h dJ1_charAt_3b067_8 ?_
    refine xg_sipush hC dJ1_charAt_3b067_9 (by decide) ?_
    have key : xm_V X 0 0 (some (o.1, xm_chr i k)) o.1 14 (lv_args 0 [.ref (xm_adV (xx_G X) i), .int (xm_J k)]) [.int (xm_J (xm_chr i k))] :=
      xg_nret hC hQ ⟨by show _ ≤ (xm_chs.getD i []).getD k.toNat 0; omega, by show (xm_chs.getD i []).getD k.toNat 0 ≤ _; omega⟩ (xm_cn ⟨hc2, hc3⟩) dJ1_charAt_3b067_14
    exact fun o1 ho H locs ls hR hS hL => lv_iand hC.1 hC.2.1 dJ1_charAt_3b067_12 (lv_i2c hC.1 hC.2.1 dJ1_charAt_3b067_13 hc1 (key o1 ho H locs ls hR hS hL)))
theorem mj_charAt {v k : Int} (hk : xm_in k) : ∀ o, fj_charAt σ v k = some o → xm_M Γ I la yJ0_charAt_5068e cJ0_charAt_5068e 2 (some .char) 4 0 0 [.ref (xm_adK Γ v.toNat), .int (xm_J k)] σ 1 o :=
  xg_enter (by decide) (by simp [lg_sl, Value.category]) (fun X hG hI hla hC hQ hname => by
    subst hG
    refine xg_guard (fun h => ?_)
    have hi : v.toNat < 24 := by omega
    have hl := xm_ln_ok _ hi
    have hkn : k.toNat < xm_ln.getD v.toNat 0 := by have := h.2.2; unfold xm_slen at this; omega
    obtain ⟨hc1, hc2, hc3⟩ := xm_chr_ok _ hi _ hkn
    refine xg_aload_n hC dJ0_charAt_5068e_0 rfl ?_
    have hz : some (σ, xm_chr v k) = (some (σ, (1 : Int))).bind (fun o => if o.2 = 0 then none else ((if 0 ≤ k ∧ k < (xm_ln.getD v.toNat 0 : Nat) then some (o.1, xm_chr v.toNat k) else none).bind (fun o => if 0 ≤ o.2 ∧ o.2 ≤ 127 then some (o.1, o.2) else none))) := by
      have h2 : 0 ≤ k ∧ k < (xm_ln.getD v.toNat 0 : Nat) := h.2
      have h3 : 0 ≤ xm_chr v.toNat k ∧ xm_chr v.toNat k ≤ 127 := ⟨hc2, hc3⟩
      simp only [Option.bind_some, if_pos h2, if_pos h3]
      rfl
    rw [hz]
    refine xg_callT hC (mj_isLatin1 (σ := σ) hi) xl_M_J0_492 xl_V_J0_isLatin1_aae02 hi rfl (by decide) ⟨by decide, by decide⟩ dJ0_charAt_5068e_1 (rest := []) rfl rfl (Nat.le_of_ble_eq_true rfl) rfl rfl (st2 := fun o => [.int (xm_J o.2)]) (fun _ => rfl) (fun o hf => ?_)
    refine xg_if_eq hC (xm_in01 hf) 16 dJ0_charAt_5068e_4 (by decide) (fun _ => xg_none) (fun _ => ?_)
    refine xg_aload_n hC dJ0_charAt_5068e_7 rfl ?_
    refine xg_sval hC hi dJ0_charAt_5068e_8 ?_
    refine xg_iload_n hC dJ0_charAt_5068e_11 rfl ?_
    refine xg_callS hC (mj_lchar hk hi) xl_M_J0_495 xl_S_J1_charAt_3b067 (by decide) ⟨by decide, by decide⟩ dJ0_charAt_5068e_12 (rest := []) rfl rfl (Nat.le_of_ble_eq_true rfl) rfl rfl (st2 := fun o => [.int (xm_J o.2)]) (fun _ => rfl) (fun o1 hf1 => ?_)
    refine xg_guard (fun h4 => ?_)
    exact xg_nret hC hQ ⟨by omega, by omega⟩ (xm_cn h4) dJ0_charAt_5068e_15)
end XT
