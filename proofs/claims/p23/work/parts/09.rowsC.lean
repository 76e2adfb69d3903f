/-! ===== rows of the abstract machine: stores, arrays ===== -/
theorem xm_cty0 {ci k : Nat} (h : xm_ft ci k = 0) : xm_cty ci k = .int := by
  unfold xm_ft at h; split at h <;> simp_all
theorem xm_cty3 {ci k : Nat} (h : xm_ft ci k = 3) : xm_cty ci k = .boolean := by
  unfold xm_ft at h; split at h <;> simp_all
theorem xm_cty2 {ci k : Nat} (h : xm_ft ci k = 2) : xm_cty ci k = .long := by
  unfold xm_ft at h; split at h <;> simp_all
theorem xm_zn {v : Int} (h : 0 ≤ v ∧ v ≤ 1) : narrow .boolean (.int (xm_J v)) = .int (xm_J v) ∧ fits .boolean (.int (xm_J v)) = true := by
  have : v = 0 ∨ v = 1 := by omega
  rcases this with rfl | rfl <;> exact ⟨rfl, by decide⟩
def xm_isR (ty : FieldType) : Bool := match ty with | .object _ => true | .array _ => true | _ => false
theorem xm_rn {Γ : xm_Gm} {ty : FieldType} {v : Int} (h : xm_isR ty = true) : narrow ty (xm_rf Γ v) = xm_rf Γ v ∧ fits ty (xm_rf Γ v) = true := by
  unfold xm_rf
  cases xm_on Γ v <;> cases ty <;> first | (simp [xm_isR] at h; done) | exact ⟨rfl, rfl⟩
section XJ
variable {X : xm_X} {own : String} {cc : ByteArray} {nL fr mc ms kc sc : Nat} {r r1 r2 : Option xm_Out} {σ : xm_Mem} {pc : Nat} {l l' : List (Nat × Value)} {st : List Value}
/-- a store keeps what is known of the memory -/
abbrev xm_kp (X : xm_X) (σ : xm_Mem) (a k : Nat) (v : Int) : Prop := xx_I X σ → xx_I X (xm_u1 σ a k v)
theorem xg_putI0 (hC : xm_C X own cc nL fr mc ms) {a ci k idx : Nat} {v : Int} (hl : xm_lay a = (0, ci)) (ha : xx_I X σ → 1 ≤ a ∧ a ≤ σ.2.2) (ht : xm_ft ci k = 0) (hfin : (xm_cT ci k).2.2.2 = false ∨ ((xx_t X).name = "<init>" ∧ (xm_cT ci k).1 = own)) (hv : xm_in v) (hI : xm_kp X σ a k v) (hF : xm_F own idx ci k) (hd : decode cc pc = .ok (.putfield idx, 3)) (kk : xm_V X kc sc r (xm_u1 σ a k v) (pc + 3) l st) : xm_V X kc sc r σ pc l (.int (xm_J v) :: .ref (xm_ad (xx_G X) a) :: st) := by
  have h := xm_map_set1 (Γ := xx_G X) (σ := σ) (a := a) (v := v) hF.2.1 (by rw [ht]; decide)
  rw [ht] at h
  refine xg_put0 (σ' := xm_u1 σ a k v) hC hl ha hfin (by rw [xm_cty0 ht]; rfl) (by rw [xm_cty0 ht]; rfl) rfl (xm_u1_109 (xm_k7 hl (by decide))) (fun hT hI2 => hT.u1 (ha hI2).2 hv ?_ ?_ ?_) hI (fun b hb => xm_cell_u1 hb) h hF hd kk
  · rw [xm_tk_o hl, ht]; exact fun q => by cases q
  · rw [xm_tk_o hl, ht]; exact fun q => by cases q
  · rw [xm_tk_o hl, ht]; exact fun q => by cases q
theorem xg_putI (hC : xm_C X own cc nL fr mc ms) {a ci k idx : Nat} {v : Int} (hl : xm_has (xx_I X) a 0 ci) (ht : xm_ft ci k = 0) (hfin : (xm_cT ci k).2.2.2 = false) (hv : xm_in v) (hI : xm_kp X σ a k v) (hF : xm_F own idx ci k) (hd : decode cc pc = .ok (.putfield idx, 3)) (kk : xm_V X kc sc r (xm_u1 σ a k v) (pc + 3) l st) : xm_V X kc sc r σ pc l (.int (xm_J v) :: .ref (xm_ad (xx_G X) a) :: st) :=
  xg_putI0 hC hl.2 (hl.1 σ) ht (Or.inl hfin) hv hI hF hd kk
theorem xg_putZ0 (hC : xm_C X own cc nL fr mc ms) {a ci k idx : Nat} {v : Int} (hl : xm_lay a = (0, ci)) (ha : xx_I X σ → 1 ≤ a ∧ a ≤ σ.2.2) (ht : xm_ft ci k = 3) (hfin : (xm_cT ci k).2.2.2 = false ∨ ((xx_t X).name = "<init>" ∧ (xm_cT ci k).1 = own)) (hv : 0 ≤ v ∧ v ≤ 1) (hI : xm_kp X σ a k v) (hF : xm_F own idx ci k) (hd : decode cc pc = .ok (.putfield idx, 3)) (kk : xm_V X kc sc r (xm_u1 σ a k v) (pc + 3) l st) : xm_V X kc sc r σ pc l (.int (xm_J v) :: .ref (xm_ad (xx_G X) a) :: st) := by
  have h := xm_map_set1 (Γ := xx_G X) (σ := σ) (a := a) (v := v) hF.2.1 (by rw [ht]; decide)
  rw [ht] at h
  refine xg_put0 (σ' := xm_u1 σ a k v) hC hl ha hfin (by rw [xm_cty3 ht]; exact (xm_zn hv).1) (by rw [xm_cty3 ht]; exact (xm_zn hv).2) rfl (xm_u1_109 (xm_k7 hl (by decide))) (fun hT hI2 => hT.u1 (ha hI2).2 (xm_in01 hv) (fun _ => hv) ?_ ?_) hI (fun b hb => xm_cell_u1 hb) h hF hd kk
  · rw [xm_tk_o hl, ht]; exact fun q => by cases q
  · rw [xm_tk_o hl, ht]; exact fun q => by cases q
theorem xg_putZ (hC : xm_C X own cc nL fr mc ms) {a ci k idx : Nat} {v : Int} (hl : xm_has (xx_I X) a 0 ci) (ht : xm_ft ci k = 3) (hfin : (xm_cT ci k).2.2.2 = false) (hv : 0 ≤ v ∧ v ≤ 1) (hI : xm_kp X σ a k v) (hF : xm_F own idx ci k) (hd : decode cc pc = .ok (.putfield idx, 3)) (kk : xm_V X kc sc r (xm_u1 σ a k v) (pc + 3) l st) : xm_V X kc sc r σ pc l (.int (xm_J v) :: .ref (xm_ad (xx_G X) a) :: st) :=
  xg_putZ0 hC hl.2 (hl.1 σ) ht (Or.inl hfin) hv hI hF hd kk
theorem xg_putR0 (hC : xm_C X own cc nL fr mc ms) {a ci k idx : Nat} {v : Int} (hl : xm_lay a = (0, ci)) (ha : xx_I X σ → 1 ≤ a ∧ a ≤ σ.2.2) (ht : xm_ft ci k = 1) (hty : xm_isR (xm_cty ci k) = true) (hfin : (xm_cT ci k).2.2.2 = false ∨ ((xx_t X).name = "<init>" ∧ (xm_cT ci k).1 = own)) (hv : xm_in v) (hv0 : 0 ≤ v) (hI : xm_kp X σ a k v) (hF : xm_F own idx ci k) (hd : decode cc pc = .ok (.putfield idx, 3)) (kk : xm_V X kc sc r (xm_u1 σ a k v) (pc + 3) l st) : xm_V X kc sc r σ pc l (xm_rf (xx_G X) v :: .ref (xm_ad (xx_G X) a) :: st) := by
  have h := xm_map_set1 (Γ := xx_G X) (σ := σ) (a := a) (v := v) hF.2.1 (by rw [ht]; decide)
  rw [ht] at h
  refine xg_put0 (σ' := xm_u1 σ a k v) hC hl ha hfin (xm_rn hty).1 (xm_rn hty).2 rfl (xm_u1_109 (xm_k7 hl (by decide))) (fun hT hI2 => hT.u1 (ha hI2).2 hv ?_ (fun _ => hv0) ?_) hI (fun b hb => xm_cell_u1 hb) h hF hd kk
  · rw [xm_tk_o hl, ht]; exact fun q => by cases q
  · rw [xm_tk_o hl, ht]; exact fun q => by cases q
theorem xg_putL0 (hC : xm_C X own cc nL fr mc ms) {a ci k idx : Nat} {v : Int64} (hl : xm_lay a = (0, ci)) (ha : xx_I X σ → 1 ≤ a ∧ a ≤ σ.2.2) (ht : xm_ft ci k = 2) (hfin : (xm_cT ci k).2.2.2 = false ∨ ((xx_t X).name = "<init>" ∧ (xm_cT ci k).1 = own)) (hI : xx_I X σ → xx_I X (xm_u2 σ a k v)) (hF : xm_F own idx ci k) (hd : decode cc pc = .ok (.putfield idx, 3)) (kk : xm_V X kc sc r (xm_u2 σ a k v) (pc + 3) l st) : xm_V X kc sc r σ pc l (.long v :: .ref (xm_ad (xx_G X) a) :: st) :=
  xg_put0 (σ' := xm_u2 σ a k v) hC hl ha hfin (by rw [xm_cty2 ht]; rfl) (by rw [xm_cty2 ht]; rfl) rfl (fun _ => rfl) (fun hT hI2 => hT.u2 (ha hI2).2) hI (fun b hb => xm_cell_u2 hb) (xm_map_set2 hF.2.1 ht) hF hd kk
theorem xg_putL (hC : xm_C X own cc nL fr mc ms) {a ci k idx : Nat} {v : Int64} (hl : xm_has (xx_I X) a 0 ci) (ht : xm_ft ci k = 2) (hfin : (xm_cT ci k).2.2.2 = false) (hI : xx_I X σ → xx_I X (xm_u2 σ a k v)) (hF : xm_F own idx ci k) (hd : decode cc pc = .ok (.putfield idx, 3)) (kk : xm_V X kc sc r (xm_u2 σ a k v) (pc + 3) l st) : xm_V X kc sc r σ pc l (.long v :: .ref (xm_ad (xx_G X) a) :: st) :=
  xg_putL0 hC hl.2 (hl.1 σ) ht (Or.inl hfin) hI hF hd kk
-- by a symbolic reference (constructors; an entry's own fields)
theorem xg_sputI (hC : xm_C X own cc nL fr mc ms) {ci k idx : Nat} {q v : Int} (ht : xm_ft ci k = 0) (hfin : (xm_cT ci k).2.2.2 = false ∨ ((xx_t X).name = "<init>" ∧ (xm_cT ci k).1 = own)) (hv : xm_in v) (hI : xm_obj σ q ci → xm_kp X σ q.toNat k v) (hF : xm_F own idx ci k) (hd : decode cc pc = .ok (.putfield idx, 3)) (kk : xm_V X kc sc r (xm_u1 σ q.toNat k v) (pc + 3) l st) : xm_V X kc sc (if xm_obj σ q ci then r else none) σ pc l (.int (xm_J v) :: xm_rf (xx_G X) q :: st) := by
  refine xg_guard (fun h => ?_)
  rw [xm_rf_pos h.1]
  exact xg_putI0 hC h.2.2 (fun _ => ⟨by omega, by omega⟩) ht hfin hv (hI h) hF hd kk
theorem xg_sputZ (hC : xm_C X own cc nL fr mc ms) {ci k idx : Nat} {q v : Int} (ht : xm_ft ci k = 3) (hfin : (xm_cT ci k).2.2.2 = false ∨ ((xx_t X).name = "<init>" ∧ (xm_cT ci k).1 = own)) (hv : 0 ≤ v ∧ v ≤ 1) (hI : xm_obj σ q ci → xm_kp X σ q.toNat k v) (hF : xm_F own idx ci k) (hd : decode cc pc = .ok (.putfield idx, 3)) (kk : xm_V X kc sc r (xm_u1 σ q.toNat k v) (pc + 3) l st) : xm_V X kc sc (if xm_obj σ q ci then r else none) σ pc l (.int (xm_J v) :: xm_rf (xx_G X) q :: st) := by
  refine xg_guard (fun h => ?_)
  rw [xm_rf_pos h.1]
  exact xg_putZ0 hC h.2.2 (fun _ => ⟨by omega, by omega⟩) ht hfin hv (hI h) hF hd kk
theorem xg_sputR (hC : xm_C X own cc nL fr mc ms) {ci k idx : Nat} {q v : Int} (ht : xm_ft ci k = 1) (hty : xm_isR (xm_cty ci k) = true) (hfin : (xm_cT ci k).2.2.2 = false ∨ ((xx_t X).name = "<init>" ∧ (xm_cT ci k).1 = own)) (hv : xm_in v) (hv0 : 0 ≤ v) (hI : xm_obj σ q ci → xm_kp X σ q.toNat k v) (hF : xm_F own idx ci k) (hd : decode cc pc = .ok (.putfield idx, 3)) (kk : xm_V X kc sc r (xm_u1 σ q.toNat k v) (pc + 3) l st) : xm_V X kc sc (if xm_obj σ q ci then r else none) σ pc l (xm_rf (xx_G X) v :: xm_rf (xx_G X) q :: st) := by
  refine xg_guard (fun h => ?_)
  rw [xm_rf_pos (v := q) h.1]
  exact xg_putR0 hC h.2.2 (fun _ => ⟨by omega, by omega⟩) ht hty hfin hv hv0 (hI h) hF hd kk
theorem xg_sputL (hC : xm_C X own cc nL fr mc ms) {ci k idx : Nat} {q : Int} {v : Int64} (ht : xm_ft ci k = 2) (hfin : (xm_cT ci k).2.2.2 = false ∨ ((xx_t X).name = "<init>" ∧ (xm_cT ci k).1 = own)) (hI : xm_obj σ q ci → xx_I X σ → xx_I X (xm_u2 σ q.toNat k v)) (hF : xm_F own idx ci k) (hd : decode cc pc = .ok (.putfield idx, 3)) (kk : xm_V X kc sc r (xm_u2 σ q.toNat k v) (pc + 3) l st) : xm_V X kc sc (if xm_obj σ q ci then r else none) σ pc l (.long v :: xm_rf (xx_G X) q :: st) := by
  refine xg_guard (fun h => ?_)
  rw [xm_rf_pos h.1]
  exact xg_putL0 hC h.2.2 (fun _ => ⟨by omega, by omega⟩) ht hfin (hI h) hF hd kk
-- arrays: reads
theorem xg_iald (hC : xm_C X own cc nL fr mc ms) {a n : Nat} {i N : Int} (hl : xm_has (xx_I X) a 1 n) (hN : (n : Int) = N) (hi : xm_in i) (hd : decode cc pc = .ok (.iaload, 1)) (kk : 0 ≤ i ∧ i < N → xm_in (σ.1 a i.toNat) → xm_V X kc sc r σ (pc + 1) l (.int (xm_J (σ.1 a i.toNat)) :: st)) : xm_V X kc sc (if 0 ≤ i ∧ i < N then r else none) σ pc l (.int (xm_J i) :: .ref (xm_ad (xx_G X) a) :: st) := by
  subst hN
  refine xg_guard (fun h => xg_facts (fun hT hI o ho H locs ls hR hS hL => ?_))
  obtain ⟨h1, h2⟩ := hl.1 σ hI
  refine va_iald hC.1 hC.2.1 hC.2.2.2.2.2.1.1 (hR.w1 h1 h2 (xm_k7 hl.2 (by decide)) (xm_cell_1 hl.2)) 0 0 rfl rfl (xm_vp hi h) hd ?_
  show xm_W X H locs kc sc o (F0 (xx_m X) (pc + 1) ls (.int (xm_J (σ.1 a (xm_J i).toNatClampNeg)) :: st))
  rw [xm_clamp hi]
  exact kk h (hT _ _).1 o ho H locs ls hR hS hL
theorem xg_zald (hC : xm_C X own cc nL fr mc ms) {a n : Nat} {i N : Int} (hl : xm_has (xx_I X) a 2 n) (hN : (n : Int) = N) (hi : xm_in i) (hd : decode cc pc = .ok (.baload, 1)) (kk : 0 ≤ i ∧ i < N → 0 ≤ σ.1 a i.toNat ∧ σ.1 a i.toNat ≤ 1 → xm_V X kc sc r σ (pc + 1) l (.int (xm_J (σ.1 a i.toNat)) :: st)) : xm_V X kc sc (if 0 ≤ i ∧ i < N then r else none) σ pc l (.int (xm_J i) :: .ref (xm_ad (xx_G X) a) :: st) := by
  subst hN
  refine xg_guard (fun h => xg_facts (fun hT hI o ho H locs ls hR hS hL => ?_))
  obtain ⟨h1, h2⟩ := hl.1 σ hI
  refine va_zald hC.1 hC.2.1 hC.2.2.2.2.2.1.1 (hR.w1 h1 h2 (xm_k7 hl.2 (by decide)) (xm_cell_2 hl.2)) 0 1 rfl rfl (xm_vp hi h) hd ?_
  show xm_W X H locs kc sc o (F0 (xx_m X) (pc + 1) ls (.int (xm_J (σ.1 a (xm_J i).toNatClampNeg)) :: st))
  rw [xm_clamp hi]
  exact kk h ((hT _ _).2.1 (by simp only [xm_tk, hl.2])) o ho H locs ls hR hS hL
theorem xg_lald (hC : xm_C X own cc nL fr mc ms) {a n : Nat} {i N : Int} (hl : xm_has (xx_I X) a 3 n) (hN : (n : Int) = N) (hi : xm_in i) (hd : decode cc pc = .ok (.laload, 1)) (kk : 0 ≤ i ∧ i < N → xm_V X kc sc r σ (pc + 1) l (.long (σ.2.1 a i.toNat) :: st)) : xm_V X kc sc (if 0 ≤ i ∧ i < N then r else none) σ pc l (.int (xm_J i) :: .ref (xm_ad (xx_G X) a) :: st) := by
  subst hN
  refine xg_guard (fun h => xg_facts (fun hT hI o ho H locs ls hR hS hL => ?_))
  obtain ⟨h1, h2⟩ := hl.1 σ hI
  refine va_lald hC.1 hC.2.1 hC.2.2.2.2.2.1.1 (hR.w1 h1 h2 (xm_k7 hl.2 (by decide)) (xm_cell_3 hl.2)) 0 2 rfl rfl (xm_vp hi h) hd ?_
  show xm_W X H locs kc sc o (F0 (xx_m X) (pc + 1) ls (.long (σ.2.1 a (xm_J i).toNatClampNeg) :: st))
  rw [xm_clamp hi]
  exact kk h o ho H locs ls hR hS hL
theorem xg_qald (hC : xm_C X own cc nL fr mc ms) {a n : Nat} {i N : Int} (hl : xm_has (xx_I X) a 4 n) (hN : (n : Int) = N) (hi : xm_in i) (hd : decode cc pc = .ok (.aaload, 1)) (kk : 0 ≤ i ∧ i < N → 0 ≤ σ.1 a i.toNat → xm_V X kc sc r σ (pc + 1) l (xm_rf (xx_G X) (σ.1 a i.toNat) :: st)) : xm_V X kc sc (if 0 ≤ i ∧ i < N then r else none) σ pc l (.int (xm_J i) :: .ref (xm_ad (xx_G X) a) :: st) := by
  subst hN
  refine xg_guard (fun h => xg_facts (fun hT hI o ho H locs ls hR hS hL => ?_))
  obtain ⟨h1, h2⟩ := hl.1 σ hI
  refine va_aldq hC.1 hC.2.1 hC.2.2.2.2.2.1.1 (hR.w1 h1 h2 (xm_k7 hl.2 (by decide)) (xm_cell_4 hl.2)) 0 3 rfl rfl (xm_vp hi h) hd ?_
  show xm_W X H locs kc sc o (F0 (xx_m X) (pc + 1) ls (xm_rf (xx_G X) (σ.1 a (xm_J i).toNatClampNeg) :: st))
  rw [xm_clamp hi]
  exact kk h ((hT _ _).2.2.1 (by simp only [xm_tk, hl.2])) o ho H locs ls hR hS hL
/-- courses[i] -/
theorem xg_cald (hC : xm_C X own cc nL fr mc ms) {a : Nat} {i : Int} (hl : xm_has (xx_I X) a 5 8) (hw : xx_I X σ → ∀ j, j < 8 → σ.1 a j = (xm_cb j : Int)) (hi : xm_in i) (hd : decode cc pc = .ok (.aaload, 1)) (kk : 0 ≤ i ∧ i < 8 → xm_V X kc sc r σ (pc + 1) l (.ref (xm_ad (xx_G X) (xm_cb i.toNat)) :: st)) : xm_V X kc sc (if 0 ≤ i ∧ i < 8 then r else none) σ pc l (.int (xm_J i) :: .ref (xm_ad (xx_G X) a) :: st) := by
  refine xg_guard (fun h => xg_facts (fun hT hI o ho H locs ls hR hS hL => ?_))
  obtain ⟨h1, h2⟩ := hl.1 σ hI
  refine va_aldq hC.1 hC.2.1 hC.2.2.2.2.2.1.1 (hR.w1 h1 h2 (xm_k7 hl.2 (by decide)) (xm_cell_5 hl.2)) 0 4 rfl rfl (xm_vp hi h) hd ?_
  show xm_W X H locs kc sc o (F0 (xx_m X) (pc + 1) ls (xm_rf (xx_G X) (σ.1 a (xm_J i).toNatClampNeg) :: st))
  rw [xm_clamp hi, hw hI _ (by omega), xm_rf_pos (by unfold xm_cb; omega)]
  exact kk h o ho H locs ls hR hS hL
theorem xg_alen (hC : xm_C X own cc nL fr mc ms) {a n kd : Nat} {N : Int} (hl : xm_has (xx_I X) a kd n) (hkd : kd = 1 ∨ kd = 2 ∨ kd = 3) (hN : (n : Int) = N) (hd : decode cc pc = .ok (.arraylength, 1)) (kk : xm_V X kc sc r σ (pc + 1) l (.int (xm_J N) :: st)) : xm_V X kc sc r σ pc l (.ref (xm_ad (xx_G X) a) :: st) := by
  subst hN
  refine xg_facts (fun hT hI o ho H locs ls hR hS hL => ?_)
  obtain ⟨h1, h2⟩ := hl.1 σ hI
  have hv : Int32.ofNat n = xm_J (n : Int) := rfl
  have K := kk o ho H locs ls hR hS hL
  rcases hkd with rfl | rfl | rfl
  · exact va_alen hC.1 hC.2.1 hC.2.2.2.2.2.1.1 (hR.w1 h1 h2 (xm_k7 hl.2 (by decide)) (xm_cell_1 hl.2)) 0 0 rfl rfl hv hd K
  · exact va_alen hC.1 hC.2.1 hC.2.2.2.2.2.1.1 (hR.w1 h1 h2 (xm_k7 hl.2 (by decide)) (xm_cell_2 hl.2)) 0 1 rfl rfl hv hd K
  · exact va_alen hC.1 hC.2.1 hC.2.2.2.2.2.1.1 (hR.w1 h1 h2 (xm_k7 hl.2 (by decide)) (xm_cell_3 hl.2)) 0 2 rfl rfl hv hd K
/-- an array by a symbolic reference -/
theorem xm_hasS {X : xm_X} {σ : xm_Mem} {v : Int} {kd n : Nat} (h : xm_arr σ v kd n) : (xx_I X σ → 1 ≤ v.toNat ∧ v.toNat ≤ σ.2.2) ∧ xm_lay v.toNat = (kd, n) := ⟨fun _ => ⟨by omega, by omega⟩, h.2.2⟩
theorem xg_siald (hC : xm_C X own cc nL fr mc ms) {n : Nat} {i v N : Int} (hN : (n : Int) = N) (hi : xm_in i) (hd : decode cc pc = .ok (.iaload, 1)) (kk : 0 ≤ i ∧ i < N → xm_in (σ.1 v.toNat i.toNat) → xm_V X kc sc r σ (pc + 1) l (.int (xm_J (σ.1 v.toNat i.toNat)) :: st)) : xm_V X kc sc (if xm_arr σ v 1 n ∧ 0 ≤ i ∧ i < N then r else none) σ pc l (.int (xm_J i) :: xm_rf (xx_G X) v :: st) := by
  subst hN
  refine xg_guard (fun hh => xg_facts (fun hT hI o ho H locs ls hR hS hL => ?_))
  obtain ⟨ha, h⟩ := hh
  have hz := xm_hasS (X := X) ha
  obtain ⟨h1, h2⟩ := hz.1 hI
  rw [xm_rf_pos ha.1]
  refine va_iald hC.1 hC.2.1 hC.2.2.2.2.2.1.1 (hR.w1 h1 h2 (xm_k7 hz.2 (by decide)) (xm_cell_1 hz.2)) 0 0 rfl rfl (xm_vp hi h) hd ?_
  show xm_W X H locs kc sc o (F0 (xx_m X) (pc + 1) ls (.int (xm_J (σ.1 v.toNat (xm_J i).toNatClampNeg)) :: st))
  rw [xm_clamp hi]
  exact kk h (hT _ _).1 o ho H locs ls hR hS hL
theorem xg_salen (hC : xm_C X own cc nL fr mc ms) {n : Nat} {v N : Int} (hN : (n : Int) = N) (hd : decode cc pc = .ok (.arraylength, 1)) (kk : xm_V X kc sc r σ (pc + 1) l (.int (xm_J N) :: st)) : xm_V X kc sc (if xm_arr σ v 1 n then r else none) σ pc l (xm_rf (xx_G X) v :: st) := by
  subst hN
  refine xg_guard (fun ha => xg_facts (fun hT hI o ho H locs ls hR hS hL => ?_))
  have hz := xm_hasS (X := X) ha
  obtain ⟨h1, h2⟩ := hz.1 hI
  rw [xm_rf_pos ha.1]
  exact va_alen hC.1 hC.2.1 hC.2.2.2.2.2.1.1 (hR.w1 h1 h2 (xm_k7 hz.2 (by decide)) (xm_cell_1 hz.2)) 0 0 rfl rfl (rfl : Int32.ofNat n = xm_J (n : Int)) hd (kk o ho H locs ls hR hS hL)
-- arrays: writes
theorem xg_iast0 (hC : xm_C X own cc nL fr mc ms) {a n : Nat} {i v : Int} (hl : xm_lay a = (1, n)) (ha : xx_I X σ → 1 ≤ a ∧ a ≤ σ.2.2) (hi : xm_in i) (h : 0 ≤ i ∧ i < (n : Int)) (hv : xm_in v) (hI : xm_kp X σ a i.toNat v) (hd : decode cc pc = .ok (.iastore, 1)) (kk : xm_V X kc sc r (xm_u1 σ a i.toNat v) (pc + 1) l st) : xm_V X kc sc r σ pc l (.int (xm_J v) :: .int (xm_J i) :: .ref (xm_ad (xx_G X) a) :: st) := by
  refine xg_facts (fun hT hI2 o ho H locs ls hR hS hL => ?_)
  obtain ⟨h1, h2⟩ := ha hI2
  have hP := hR.1 a h1 h2 (Or.inl (xm_k7 hl (by decide)))
  rw [xm_cell_1 hl] at hP
  have hin := xm_vp hi h
  have hA : xm_A X (xm_ad (xx_G X) a) := xm_ad_gt h1
  refine W.iast hC.1 hC.2.1 hP ((hC.2.2.2.2.2.1.1.2 0 _ rfl).1 n (fun j => .int (xm_J (σ.1 a j)))) (fun q => by cases q) (by show ¬ (xm_J i < 0 ∨ (arrV _ _ _).slots.size ≤ _); rw [arrV_size]; exact hin) rfl rfl hd fun H1 e z oq => ?_
  refine kk o ho H1 _ ls (hR.put h1 rfl (xm_u1_109 (xm_k7 hl (by decide))) (hT.u1 h2 hv (fun q => by simp only [xm_tk, hl] at q; cases q) (fun q => by simp only [xm_tk, hl] at q; cases q) (fun q => by simp only [xm_tk, hl] at q; cases q)) (hI hI2) (fun b hb => xm_cell_u1 hb) ?_ z oq) (hS.put z oq hA) hL
  rw [xm_cell_1 hl]
  show H1[_]? = some (vp_cell _ _)
  rw [e]
  rw [vp_cell_i]
  show some ((arrV (xm_cA (xx_G X) 1) n (fun j => .int (xm_J (σ.1 a j)))).setSlot _ _) = _
  rw [arrV_store]
  refine congrArg some (show arrV _ n _ = arrV _ n (fun j => Value.int (xm_J ((xm_u1 σ a i.toNat v).1 a j))) from congrArg (arrV _ n) (funext fun q => ?_))
  rw [xm_clamp hi]
  by_cases hq : q = i.toNat
  · subst hq
    simp only [updV, if_true, xm_u1_at]
  · simp only [updV, if_neg hq]
    rw [xm_u1_ne σ v (fun z => hq z.2)]
theorem xg_iast (hC : xm_C X own cc nL fr mc ms) {a n : Nat} {i v N : Int} (hl : xm_has (xx_I X) a 1 n) (hN : (n : Int) = N) (hi : xm_in i) (hv : xm_in v) (hI : xm_kp X σ a i.toNat v) (hd : decode cc pc = .ok (.iastore, 1)) (kk : xm_V X kc sc r (xm_u1 σ a i.toNat v) (pc + 1) l st) : xm_V X kc sc (if 0 ≤ i ∧ i < N then r else none) σ pc l (.int (xm_J v) :: .int (xm_J i) :: .ref (xm_ad (xx_G X) a) :: st) := by
  subst hN
  exact xg_guard (fun h => xg_iast0 hC hl.2 (hl.1 σ) hi h hv hI hd kk)
theorem xg_siast (hC : xm_C X own cc nL fr mc ms) {n : Nat} {i q v N : Int} (hN : (n : Int) = N) (hi : xm_in i) (hv : xm_in v) (hI : xm_arr σ q 1 n → xm_kp X σ q.toNat i.toNat v) (hd : decode cc pc = .ok (.iastore, 1)) (kk : xm_V X kc sc r (xm_u1 σ q.toNat i.toNat v) (pc + 1) l st) : xm_V X kc sc (if xm_arr σ q 1 n ∧ 0 ≤ i ∧ i < N then r else none) σ pc l (.int (xm_J v) :: .int (xm_J i) :: xm_rf (xx_G X) q :: st) := by
  subst hN
  refine xg_guard (fun h => ?_)
  rw [xm_rf_pos h.1.1]
  exact xg_iast0 hC (xm_hasS (X := X) h.1).2 (xm_hasS (X := X) h.1).1 hi h.2 hv (hI h.1) hd kk
theorem xg_zast (hC : xm_C X own cc nL fr mc ms) {a n : Nat} {i v N : Int} (hl : xm_has (xx_I X) a 2 n) (hN : (n : Int) = N) (hi : xm_in i) (hv : 0 ≤ v ∧ v ≤ 1) (hI : xm_kp X σ a i.toNat v) (hd : decode cc pc = .ok (.bastore, 1)) (kk : xm_V X kc sc r (xm_u1 σ a i.toNat v) (pc + 1) l st) : xm_V X kc sc (if 0 ≤ i ∧ i < N then r else none) σ pc l (.int (xm_J v) :: .int (xm_J i) :: .ref (xm_ad (xx_G X) a) :: st) := by
  subst hN
  refine xg_guard (fun h => xg_facts (fun hT hI2 o ho H locs ls hR hS hL => ?_))
  obtain ⟨h1, h2⟩ := hl.1 σ hI2
  have hP := hR.1 a h1 h2 (Or.inl (xm_k7 hl.2 (by decide)))
  rw [xm_cell_2 hl.2] at hP
  have hin := xm_vp hi h
  have hA : xm_A X (xm_ad (xx_G X) a) := xm_ad_gt h1
  refine W.zast hC.1 hC.2.1 hP ((hC.2.2.2.2.2.1.1.2 1 _ rfl).1 n (fun j => .int (xm_J (σ.1 a j)))) (fun q => by cases q) (by show ¬ (xm_J i < 0 ∨ (arrV _ _ _).slots.size ≤ _); rw [arrV_size]; exact hin) rfl rfl hd fun H1 e z oq => ?_
  refine kk o ho H1 _ ls (hR.put h1 rfl (xm_u1_109 (xm_k7 hl.2 (by decide))) (hT.u1 h2 (xm_in01 hv) (fun _ => hv) (fun q => by simp only [xm_tk, hl.2] at q; cases q) (fun q => by simp only [xm_tk, hl.2] at q; cases q)) (hI hI2) (fun b hb => xm_cell_u1 hb) ?_ z oq) (hS.put z oq hA) hL
  rw [xm_cell_2 hl.2]
  show H1[_]? = some (vp_cell _ _)
  rw [e]
  rw [vp_cell_i]
  show some ((arrV (xm_cA (xx_G X) 2) n (fun j => .int (xm_J (σ.1 a j)))).setSlot _ _) = _
  rw [arrV_store]
  refine congrArg some (show arrV _ n _ = arrV _ n (fun j => Value.int (xm_J ((xm_u1 σ a i.toNat v).1 a j))) from congrArg (arrV _ n) (funext fun q => ?_))
  rw [xm_clamp hi]
  by_cases hq : q = i.toNat
  · subst hq
    simp only [updV, if_true, xm_u1_at]
    first | exact (xm_zn hv).1 | (have : v = 0 ∨ v = 1 := by omega
                                  rcases this with rfl | rfl <;> rfl)
  · simp only [updV, if_neg hq]
    rw [xm_u1_ne σ v (fun z => hq z.2)]
theorem xg_last (hC : xm_C X own cc nL fr mc ms) {a n : Nat} {i N : Int} {v : Int64} (hl : xm_has (xx_I X) a 3 n) (hN : (n : Int) = N) (hi : xm_in i) (hI : xx_I X σ → xx_I X (xm_u2 σ a i.toNat v)) (hd : decode cc pc = .ok (.lastore, 1)) (kk : xm_V X kc sc r (xm_u2 σ a i.toNat v) (pc + 1) l st) : xm_V X kc sc (if 0 ≤ i ∧ i < N then r else none) σ pc l (.long v :: .int (xm_J i) :: .ref (xm_ad (xx_G X) a) :: st) := by
  subst hN
  refine xg_guard (fun h => xg_facts (fun hT hI2 o ho H locs ls hR hS hL => ?_))
  obtain ⟨h1, h2⟩ := hl.1 σ hI2
  have hP := hR.1 a h1 h2 (Or.inl (xm_k7 hl.2 (by decide)))
  rw [xm_cell_3 hl.2] at hP
  have hin := xm_vp hi h
  have hA : xm_A X (xm_ad (xx_G X) a) := xm_ad_gt h1
  refine W.last hC.1 hC.2.1 hP ((hC.2.2.2.2.2.1.1.2 2 _ rfl).1 n (fun j => .long (σ.2.1 a j))) (fun q => by cases q) (by show ¬ (xm_J i < 0 ∨ (arrV _ _ _).slots.size ≤ _); rw [arrV_size]; exact hin) rfl rfl hd fun H1 e z oq => ?_
  refine kk o ho H1 _ ls (hR.put h1 rfl (fun _ => rfl) (hT.u2 h2) (hI hI2) (fun b hb => xm_cell_u2 hb) ?_ z oq) (hS.put z oq hA) hL
  rw [xm_cell_3 hl.2]
  show H1[_]? = some (vp_cell _ _)
  rw [e]
  rw [vp_cell_l]
  show some ((arrV (xm_cA (xx_G X) 3) n (fun j => .long (σ.2.1 a j))).setSlot _ _) = _
  rw [arrV_store]
  refine congrArg some (show arrV _ n _ = arrV _ n (fun j => Value.long ((xm_u2 σ a i.toNat v).2.1 a j)) from congrArg (arrV _ n) (funext fun q => ?_))
  rw [xm_clamp hi]
  by_cases hq : q = i.toNat
  · subst hq
    simp only [updV, if_true, xm_u2_at]
  · simp only [updV, if_neg hq]
    rw [xm_u2_ne σ v (fun z => hq z.2)]
end XJ
