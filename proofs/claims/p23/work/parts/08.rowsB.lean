/-! ===== rows of the abstract machine: cells ===== -/
def xm_u1 (σ : xm_Mem) (a k : Nat) (v : Int) : xm_Mem := (fun a' k' => if a' = a ∧ k' = k then v else σ.1 a' k', σ.2)
def xm_u2 (σ : xm_Mem) (a k : Nat) (w : Int64) : xm_Mem := (σ.1, fun a' k' => if a' = a ∧ k' = k then w else σ.2.1 a' k', σ.2.2)
/-- one cell more -/
def xm_nw (σ : xm_Mem) : xm_Mem := (σ.1, σ.2.1, σ.2.2 + 1)
theorem xm_u1_at (σ : xm_Mem) (a k : Nat) (v : Int) : (xm_u1 σ a k v).1 a k = v := by simp [xm_u1]
theorem xm_u1_ne (σ : xm_Mem) {a k a' k' : Nat} (v : Int) (h : ¬ (a' = a ∧ k' = k)) : (xm_u1 σ a k v).1 a' k' = σ.1 a' k' := by simp [xm_u1, h]
theorem xm_u2_at (σ : xm_Mem) (a k : Nat) (v : Int64) : (xm_u2 σ a k v).2.1 a k = v := by simp [xm_u2]
theorem xm_u2_ne (σ : xm_Mem) {a k a' k' : Nat} (v : Int64) (h : ¬ (a' = a ∧ k' = k)) : (xm_u2 σ a k v).2.1 a' k' = σ.2.1 a' k' := by simp [xm_u2, h]
/-- a symbolic reference names an object of the class, or an array of the kind and length -/
abbrev xm_obj (σ : xm_Mem) (v : Int) (ci : Nat) : Prop := 1 ≤ v ∧ v ≤ σ.2.2 ∧ xm_lay v.toNat = (0, ci)
abbrev xm_arr (σ : xm_Mem) (v : Int) (kd n : Nat) : Prop := 1 ≤ v ∧ v ≤ σ.2.2 ∧ xm_lay v.toNat = (kd, n)
/-- the same for a place that is known -/
abbrev xm_has (I : xm_Mem → Prop) (a kd n : Nat) : Prop := (∀ σ, I σ → 1 ≤ a ∧ a ≤ σ.2.2) ∧ xm_lay a = (kd, n)
def xm_F (own : String) (idx ci k : Nat) : Prop := ci < 11 ∧ k < xm_nf ci ∧ Cond.fieldLink own idx (xm_cT ci k).1 (xm_cT ci k).2.1 (xm_cT ci k).2.2.1 ∈ xm_tb
theorem xm_cell_o {Γ : xm_Gm} {σ : xm_Mem} {a ci : Nat} (h : xm_lay a = (0, ci)) : xm_cell Γ σ a = .inr (ci, (List.range (xm_nf ci)).map (fun k => xm_val Γ (xm_ft ci k) (σ.1 a k) (σ.2.1 a k))) := by
  simp only [xm_cell, h]
theorem xm_cell_1 {Γ : xm_Gm} {σ : xm_Mem} {a n : Nat} (h : xm_lay a = (1, n)) : xm_cell Γ σ a = .inl (xm_cA Γ 1, n, .inl (fun i => xm_J (σ.1 a i))) := by
  simp only [xm_cell, h]
theorem xm_cell_2 {Γ : xm_Gm} {σ : xm_Mem} {a n : Nat} (h : xm_lay a = (2, n)) : xm_cell Γ σ a = .inl (xm_cA Γ 2, n, .inl (fun i => xm_J (σ.1 a i))) := by
  simp only [xm_cell, h]
theorem xm_cell_3 {Γ : xm_Gm} {σ : xm_Mem} {a n : Nat} (h : xm_lay a = (3, n)) : xm_cell Γ σ a = .inl (xm_cA Γ 3, n, .inr (.inl (fun i => σ.2.1 a i))) := by
  simp only [xm_cell, h]
theorem xm_cell_4 {Γ : xm_Gm} {σ : xm_Mem} {a n : Nat} (h : xm_lay a = (4, n)) : xm_cell Γ σ a = .inl (xm_cA Γ 4, n, .inr (.inr (.inr (.inr (fun i => xm_on Γ (σ.1 a i)))))) := by
  simp only [xm_cell, h]
theorem xm_cell_5 {Γ : xm_Gm} {σ : xm_Mem} {a n : Nat} (h : xm_lay a = (5, n)) : xm_cell Γ σ a = .inl (xm_cA Γ 5, n, .inr (.inr (.inr (.inr (fun i => xm_on Γ (σ.1 a i)))))) := by
  simp only [xm_cell, h]
theorem xm_cell_6 {Γ : xm_Gm} {σ : xm_Mem} {a n : Nat} (h : xm_lay a = (6, n)) : xm_cell Γ σ a = .inl (xm_cA Γ 6, n, .inl (fun i => xm_J (σ.1 a i))) := by
  simp only [xm_cell, h]
theorem xm_cell_7 {Γ : xm_Gm} {σ : xm_Mem} {a n : Nat} (h : xm_lay a = (7, n)) : xm_cell Γ σ a = .inl (xm_cA Γ 7, n, .inr (.inr (.inr (.inr (fun i => xm_sn Γ (σ.1 a i)))))) := by
  simp only [xm_cell, h]
theorem xm_cell_8 {Γ : xm_Gm} {σ : xm_Mem} {a n : Nat} (h : xm_lay a = (8, n)) : xm_cell Γ σ a = .inl (xm_cA Γ 1, n, .inl (fun i => xm_J (σ.1 a i))) := by
  simp only [xm_cell, h]
theorem xm_k7 {a k n : Nat} (h : xm_lay a = (k, n)) (hk : k ≤ 7) : (xm_lay a).1 ≤ 7 := by rw [h]; exact hk
theorem xm_109 {a : Nat} (h : (xm_lay a).1 ≤ 7) : a ≠ 109 := fun z => by
  rw [z] at h
  exact absurd h (by decide)
theorem xm_R.w1 {Γ : xm_Gm} {I : xm_Mem → Prop} {σ : xm_Mem} {H : Heap} (h : xm_R Γ I σ H) {a : Nat} (h1 : 1 ≤ a) (h2 : a ≤ σ.2.2) (hk : (xm_lay a).1 ≤ 7) {e : va_E} (he : xm_cell Γ σ a = e) : va_P (xm_D Γ) xm_cl [(xm_ad Γ a, e)] H := by
  intro k q hq
  cases k with
  | zero => cases hq; rw [← he]; exact h.1 a h1 h2 (Or.inl hk)
  | succ k => simp at hq
/-- a cell has changed: the memory follows -/
theorem xm_R.put {Γ : xm_Gm} {I : xm_Mem → Prop} {σ σ' : xm_Mem} {H H1 : Heap} {a : Nat} (h : xm_R Γ I σ H) (h1 : 1 ≤ a) (hn : σ'.2.2 = σ.2.2) (hg : ∀ k, σ'.1 109 k = σ.1 109 k) (hT : xm_T σ') (hI : I σ')
    (ho : ∀ b, b ≠ a → xm_cell Γ σ' b = xm_cell Γ σ b) (he : va_at (xm_D Γ) xm_cl (xm_ad Γ a, xm_cell Γ σ' a) H1) (z : H1.size = H.size) (oq : ∀ q : Nat, q ≠ xm_ad Γ a → H1[q]? = H[q]?) : xm_R Γ I σ' H1 := by
  have hgt := xm_ad_gt (Γ := Γ) h1
  refine ⟨fun b g1 g2 g3 => ?_, by rw [z, h.2.1]; unfold xm_top; rw [hn, hg], hT, hI, fun q hq => by rw [oq q (by omega)]; exact h.2.2.2.2.1 q hq, ?_⟩
  · by_cases e : b = a
    · subst e; exact he
    · rw [ho b e]
      exact (h.1 b g1 (by rw [← hn]; exact g2) (by unfold xm_lv at g3 ⊢; rw [← hg]; exact g3)).kept (oq _ (fun z => e (xm_ad_inj z)))
  · have := h.2.2.2.2.2
    unfold xm_gh at this ⊢
    rw [hn, hg, hg]
    exact this
theorem xm_cell_u1 {Γ : xm_Gm} {σ : xm_Mem} {a k b : Nat} {v : Int} (h : b ≠ a) : xm_cell Γ (xm_u1 σ a k v) b = xm_cell Γ σ b := by
  have e : ∀ i, (xm_u1 σ a k v).1 b i = σ.1 b i := fun i => xm_u1_ne σ v (fun z => h z.1)
  unfold xm_cell
  simp only [e]
  rfl
theorem xm_cell_u2 {Γ : xm_Gm} {σ : xm_Mem} {a k b : Nat} {v : Int64} (h : b ≠ a) : xm_cell Γ (xm_u2 σ a k v) b = xm_cell Γ σ b := by
  have e : ∀ i, (xm_u2 σ a k v).2.1 b i = σ.2.1 b i := fun i => xm_u2_ne σ v (fun z => h z.1)
  unfold xm_cell
  simp only [e]
  rfl
theorem xm_T.u1 {σ : xm_Mem} (h : xm_T σ) {a k : Nat} {v : Int} (ha : a ≤ σ.2.2) (hv : xm_in v) (hz : xm_tk a k = 3 → 0 ≤ v ∧ v ≤ 1) (hr : xm_tk a k = 1 → 0 ≤ v) (hb : xm_tk a k = 4 → 0 ≤ v ∧ v ≤ 127) : xm_T (xm_u1 σ a k v) := by
  intro b i
  by_cases e : b = a ∧ i = k
  · obtain ⟨rfl, rfl⟩ := e
    rw [xm_u1_at]
    exact ⟨hv, hz, hr, fun z => absurd ha (Nat.not_le.mpr z), hb⟩
  · rw [xm_u1_ne σ v e]
    exact h b i
theorem xm_T.u2 {σ : xm_Mem} (h : xm_T σ) {a k : Nat} {v : Int64} (ha : a ≤ σ.2.2) : xm_T (xm_u2 σ a k v) := by
  intro b i
  refine ⟨(h b i).1, (h b i).2.1, (h b i).2.2.1, fun z => ⟨((h b i).2.2.2.1 z).1, ?_⟩, (h b i).2.2.2.2⟩
  rw [xm_u2_ne σ v (fun q => absurd z (by rw [q.1]; exact Nat.not_lt.mpr ha))]
  exact ((h b i).2.2.2.1 z).2
theorem xm_u1_109 {σ : xm_Mem} {a k : Nat} {v : Int} (h : (xm_lay a).1 ≤ 7) : ∀ j, (xm_u1 σ a k v).1 109 j = σ.1 109 j := fun j => xm_u1_ne σ v (fun z => xm_109 h z.1.symm)
theorem xm_I.u1 {σ : xm_Mem} {a k : Nat} {v : Int} (h : xm_I σ) (hw : xm_wire a k = none) : xm_I (xm_u1 σ a k v) := by
  refine ⟨h.1, fun b i c hc => ?_⟩
  rw [xm_u1_ne σ v (fun z => by rw [z.1, z.2, hw] at hc; cases hc)]
  exact h.2 b i c hc
theorem xm_I.u2 {σ : xm_Mem} {a k : Nat} {v : Int64} (h : xm_I σ) : xm_I (xm_u2 σ a k v) := ⟨h.1, h.2⟩
theorem xm_I.nw {σ : xm_Mem} (h : xm_I σ) : xm_I (xm_nw σ) := ⟨Nat.le_succ_of_le h.1, h.2⟩
theorem xm_hasK {a kd n : Nat} (h : (decide (1 ≤ a) && decide (a ≤ 110) && decide (xm_lay a = (kd, n))) = true) : xm_has xm_I a kd n := by
  simp at h
  exact ⟨fun σ hI => ⟨h.1.1, Nat.le_trans h.1.2 hI.1⟩, h.2⟩
theorem xm_len_map {Γ : xm_Gm} {σ : xm_Mem} {a ci k : Nat} : ((List.range (xm_nf ci)).map (fun k => xm_val Γ (xm_ft ci k) (σ.1 a k) (σ.2.1 a k))).length = xm_nf ci := by simp
theorem xm_map_set1 {Γ : xm_Gm} {σ : xm_Mem} {a ci k : Nat} {v : Int} (hk : k < xm_nf ci) (ht : xm_ft ci k ≠ 2) : ((List.range (xm_nf ci)).map (fun k => xm_val Γ (xm_ft ci k) (σ.1 a k) (σ.2.1 a k))).set k (xm_val Γ (xm_ft ci k) v 0) = (List.range (xm_nf ci)).map (fun j => xm_val Γ (xm_ft ci j) ((xm_u1 σ a k v).1 a j) ((xm_u1 σ a k v).2.1 a j)) := by
  have hval : ∀ x y z, xm_val Γ (xm_ft ci k) x y = xm_val Γ (xm_ft ci k) x z := by
    intro x y z
    unfold xm_val
    split
    · rfl
    · exact absurd (by assumption) ht
    · rfl
  apply List.ext_getElem
  · simp
  · intro i h1 h2
    simp only [List.getElem_set, List.getElem_map, List.getElem_range]
    by_cases e : k = i
    · subst e
      rw [if_pos rfl, xm_u1_at]
      exact hval _ _ _
    · rw [if_neg e, xm_u1_ne σ v (fun z => e z.2.symm)]
      rfl
theorem xm_map_set2 {Γ : xm_Gm} {σ : xm_Mem} {a ci k : Nat} {v : Int64} (hk : k < xm_nf ci) (ht : xm_ft ci k = 2) : ((List.range (xm_nf ci)).map (fun k => xm_val Γ (xm_ft ci k) (σ.1 a k) (σ.2.1 a k))).set k (.long v) = (List.range (xm_nf ci)).map (fun j => xm_val Γ (xm_ft ci j) ((xm_u2 σ a k v).1 a j) ((xm_u2 σ a k v).2.1 a j)) := by
  apply List.ext_getElem
  · simp
  · intro i h1 h2
    simp only [List.getElem_set, List.getElem_map, List.getElem_range]
    by_cases e : k = i
    · subst e
      rw [if_pos rfl, xm_u2_at, ht]
      rfl
    · rw [if_neg e, xm_u2_ne σ v (fun z => e z.2.symm)]
      rfl
section XH
variable {X : xm_X} {own : String} {cc : ByteArray} {nL fr mc ms kc sc : Nat} {r r1 r2 : Option xm_Out} {σ : xm_Mem} {pc : Nat} {l l' : List (Nat × Value)} {st : List Value}
theorem xg_facts (k : xm_T σ → xx_I X σ → xm_V X kc sc r σ pc l st) : xm_V X kc sc r σ pc l st := fun o ho H locs ls hR hS hL => k hR.2.2.1 hR.2.2.2.1 o ho H locs ls hR hS hL
/-- getfield, at an object that is there -/
theorem xg_get0 (hC : xm_C X own cc nL fr mc ms) {a ci k idx : Nat} (hl : xm_lay a = (0, ci)) (ha : xx_I X σ → 1 ≤ a ∧ a ≤ σ.2.2) (hF : xm_F own idx ci k) (hd : decode cc pc = .ok (.getfield idx, 3)) (kk : xm_V X kc sc r σ (pc + 3) l (xm_val (xx_G X) (xm_ft ci k) (σ.1 a k) (σ.2.1 a k) :: st)) : xm_V X kc sc r σ pc l (.ref (xm_ad (xx_G X) a) :: st) := by
  intro o ho H locs ls hR hS hL
  obtain ⟨hci, hk, hlink⟩ := hF
  obtain ⟨h1, h2⟩ := ha hR.2.2.2.1
  exact va_get (C := xm_cR ci) (T := xm_cT ci) (N := xm_nf ci) (ci := ci) (Ts := xm_tb) hC.1 hC.2.1 hC.2.2.2.2.1 (xm_hin hci) hC.2.2.2.1 hC.2.2.2.2.2.1.1 (hR.w1 h1 h2 (xm_k7 hl (by decide)) (xm_cell_o hl)) 0 rfl (xm_cl_at hci) k hk (hC.2.2.2.2.1 _ hlink) (fun _ h => h) (by simp [hk]) hd (kk o ho H locs ls hR hS hL)
theorem xg_getI (hC : xm_C X own cc nL fr mc ms) {a ci k idx : Nat} (hl : xm_has (xx_I X) a 0 ci) (ht : xm_ft ci k = 0) (hF : xm_F own idx ci k) (hd : decode cc pc = .ok (.getfield idx, 3)) (kk : xm_in (σ.1 a k) → xm_V X kc sc r σ (pc + 3) l (.int (xm_J (σ.1 a k)) :: st)) : xm_V X kc sc r σ pc l (.ref (xm_ad (xx_G X) a) :: st) := by
  refine xg_facts (fun hT hI => xg_get0 hC hl.2 (hl.1 σ) hF hd ?_)
  rw [ht]
  exact kk (hT a k).1
theorem xm_tk_o {a ci k : Nat} (hl : xm_lay a = (0, ci)) : xm_tk a k = xm_ft ci k := by simp only [xm_tk, hl]
theorem xg_getZ (hC : xm_C X own cc nL fr mc ms) {a ci k idx : Nat} (hl : xm_has (xx_I X) a 0 ci) (ht : xm_ft ci k = 3) (hF : xm_F own idx ci k) (hd : decode cc pc = .ok (.getfield idx, 3)) (kk : 0 ≤ σ.1 a k ∧ σ.1 a k ≤ 1 → xm_V X kc sc r σ (pc + 3) l (.int (xm_J (σ.1 a k)) :: st)) : xm_V X kc sc r σ pc l (.ref (xm_ad (xx_G X) a) :: st) := by
  refine xg_facts (fun hT hI => xg_get0 hC hl.2 (hl.1 σ) hF hd ?_)
  rw [ht]
  exact kk ((hT a k).2.1 (by rw [xm_tk_o hl.2]; exact ht))
theorem xg_getL (hC : xm_C X own cc nL fr mc ms) {a ci k idx : Nat} (hl : xm_has (xx_I X) a 0 ci) (ht : xm_ft ci k = 2) (hF : xm_F own idx ci k) (hd : decode cc pc = .ok (.getfield idx, 3)) (kk : xm_V X kc sc r σ (pc + 3) l (.long (σ.2.1 a k) :: st)) : xm_V X kc sc r σ pc l (.ref (xm_ad (xx_G X) a) :: st) := by
  refine xg_facts (fun hT hI => xg_get0 hC hl.2 (hl.1 σ) hF hd ?_)
  rw [ht]
  exact kk
theorem xg_getB (hC : xm_C X own cc nL fr mc ms) {a ci k idx : Nat} (hl : xm_has (xx_I X) a 0 ci) (ht : xm_ft ci k = 4) (hF : xm_F own idx ci k) (hd : decode cc pc = .ok (.getfield idx, 3)) (kk : 0 ≤ σ.1 a k ∧ σ.1 a k ≤ 127 → xm_V X kc sc r σ (pc + 3) l (.int (xm_J (σ.1 a k)) :: st)) : xm_V X kc sc r σ pc l (.ref (xm_ad (xx_G X) a) :: st) := by
  refine xg_facts (fun hT hI => xg_get0 hC hl.2 (hl.1 σ) hF hd ?_)
  rw [ht]
  exact kk ((hT a k).2.2.2.2 (by rw [xm_tk_o hl.2]; exact ht))
/-- a reference in a known object -/
theorem xg_getR (hC : xm_C X own cc nL fr mc ms) {a ci k idx : Nat} (hl : xm_has (xx_I X) a 0 ci) (ht : xm_ft ci k = 1) (hF : xm_F own idx ci k) (hd : decode cc pc = .ok (.getfield idx, 3)) (kk : 0 ≤ σ.1 a k → xm_V X kc sc r σ (pc + 3) l (xm_rf (xx_G X) (σ.1 a k) :: st)) : xm_V X kc sc r σ pc l (.ref (xm_ad (xx_G X) a) :: st) := by
  refine xg_facts (fun hT hI => xg_get0 hC hl.2 (hl.1 σ) hF hd ?_)
  rw [ht]
  exact kk ((hT a k).2.2.1 (by rw [xm_tk_o hl.2]; exact ht))
/-- a final reference: where it leads -/
theorem xg_getW (hC : xm_C X own cc nL fr mc ms) {a ci k idx b : Nat} (hl : xm_has (xx_I X) a 0 ci) (ht : xm_ft ci k = 1) (hw : xx_I X σ → σ.1 a k = (b : Int)) (hb : 1 ≤ b) (hF : xm_F own idx ci k) (hd : decode cc pc = .ok (.getfield idx, 3)) (kk : xm_V X kc sc r σ (pc + 3) l (.ref (xm_ad (xx_G X) b) :: st)) : xm_V X kc sc r σ pc l (.ref (xm_ad (xx_G X) a) :: st) := by
  refine xg_facts (fun hT hI => xg_get0 hC hl.2 (hl.1 σ) hF hd ?_)
  rw [ht, hw hI]
  have e : xm_val (xx_G X) 1 (b : Int) (σ.2.1 a k) = .ref (xm_ad (xx_G X) b) := by
    show xm_rf _ _ = _
    rw [xm_rf_pos (by omega), Int.toNat_natCast]
  rw [e]
  exact kk
/-- a final int: what it is -/
theorem xg_getC (hC : xm_C X own cc nL fr mc ms) {a ci k idx b : Nat} (hl : xm_has (xx_I X) a 0 ci) (ht : xm_ft ci k = 0) (hw : xx_I X σ → σ.1 a k = (b : Int)) (hF : xm_F own idx ci k) (hd : decode cc pc = .ok (.getfield idx, 3)) (kk : xm_in (b : Int) → xm_V X kc sc r σ (pc + 3) l (.int (xm_J (b : Int)) :: st)) : xm_V X kc sc r σ pc l (.ref (xm_ad (xx_G X) a) :: st) := by
  refine xg_facts (fun hT hI => xg_get0 hC hl.2 (hl.1 σ) hF hd ?_)
  have h := kk (by rw [← hw hI]; exact (hT a k).1)
  rw [ht, hw hI]
  exact h
-- by a symbolic reference
theorem xg_sget0 (hC : xm_C X own cc nL fr mc ms) {ci k idx : Nat} {v : Int} (hF : xm_F own idx ci k) (hd : decode cc pc = .ok (.getfield idx, 3)) (kk : xm_obj σ v ci → xm_V X kc sc r σ (pc + 3) l (xm_val (xx_G X) (xm_ft ci k) (σ.1 v.toNat k) (σ.2.1 v.toNat k) :: st)) : xm_V X kc sc (if xm_obj σ v ci then r else none) σ pc l (xm_rf (xx_G X) v :: st) := by
  refine xg_guard (fun h => ?_)
  rw [xm_rf_pos h.1]
  exact xg_get0 hC h.2.2 (fun _ => ⟨by omega, by omega⟩) hF hd (kk h)
theorem xg_sgetI (hC : xm_C X own cc nL fr mc ms) {ci k idx : Nat} {v : Int} (ht : xm_ft ci k = 0) (hF : xm_F own idx ci k) (hd : decode cc pc = .ok (.getfield idx, 3)) (kk : xm_in (σ.1 v.toNat k) → xm_V X kc sc r σ (pc + 3) l (.int (xm_J (σ.1 v.toNat k)) :: st)) : xm_V X kc sc (if xm_obj σ v ci then r else none) σ pc l (xm_rf (xx_G X) v :: st) := by
  refine xg_facts (fun hT _ => xg_sget0 hC hF hd (fun h => ?_))
  rw [ht]
  exact kk (hT _ _).1
theorem xg_sgetZ (hC : xm_C X own cc nL fr mc ms) {ci k idx : Nat} {v : Int} (ht : xm_ft ci k = 3) (hF : xm_F own idx ci k) (hd : decode cc pc = .ok (.getfield idx, 3)) (kk : 0 ≤ σ.1 v.toNat k ∧ σ.1 v.toNat k ≤ 1 → xm_V X kc sc r σ (pc + 3) l (.int (xm_J (σ.1 v.toNat k)) :: st)) : xm_V X kc sc (if xm_obj σ v ci then r else none) σ pc l (xm_rf (xx_G X) v :: st) := by
  refine xg_facts (fun hT _ => xg_sget0 hC hF hd (fun h => ?_))
  rw [ht]
  exact kk ((hT _ _).2.1 (by rw [xm_tk_o h.2.2]; exact ht))
theorem xg_sgetR (hC : xm_C X own cc nL fr mc ms) {ci k idx : Nat} {v : Int} (ht : xm_ft ci k = 1) (hF : xm_F own idx ci k) (hd : decode cc pc = .ok (.getfield idx, 3)) (kk : 0 ≤ σ.1 v.toNat k → xm_V X kc sc r σ (pc + 3) l (xm_rf (xx_G X) (σ.1 v.toNat k) :: st)) : xm_V X kc sc (if xm_obj σ v ci then r else none) σ pc l (xm_rf (xx_G X) v :: st) := by
  refine xg_facts (fun hT _ => xg_sget0 hC hF hd (fun h => ?_))
  rw [ht]
  exact kk ((hT _ _).2.2.1 (by rw [xm_tk_o h.2.2]; exact ht))
/-- putfield, any place; the memory behind it is given -/
theorem xg_put0 (hC : xm_C X own cc nL fr mc ms) {a ci k idx : Nat} {v : Value} {σ' : xm_Mem} (hl : xm_lay a = (0, ci)) (ha : xx_I X σ → 1 ≤ a ∧ a ≤ σ.2.2) (hfin : (xm_cT ci k).2.2.2 = false ∨ ((xx_t X).name = "<init>" ∧ (xm_cT ci k).1 = own)) (hn : narrow (xm_cty ci k) v = v) (hfit : fits (xm_cty ci k) v = true)
    (hn2 : σ'.2.2 = σ.2.2) (hg2 : ∀ k, σ'.1 109 k = σ.1 109 k) (hT' : xm_T σ → xx_I X σ → xm_T σ') (hI' : xx_I X σ → xx_I X σ') (ho2 : ∀ b, b ≠ a → xm_cell (xx_G X) σ' b = xm_cell (xx_G X) σ b) (hset : ((List.range (xm_nf ci)).map (fun k => xm_val (xx_G X) (xm_ft ci k) (σ.1 a k) (σ.2.1 a k))).set k v = (List.range (xm_nf ci)).map (fun j => xm_val (xx_G X) (xm_ft ci j) (σ'.1 a j) (σ'.2.1 a j)))
    (hF : xm_F own idx ci k) (hd : decode cc pc = .ok (.putfield idx, 3)) (kk : xm_V X kc sc r σ' (pc + 3) l st) : xm_V X kc sc r σ pc l (v :: .ref (xm_ad (xx_G X) a) :: st) := by
  intro o ho H locs ls hR hS hL
  obtain ⟨hci, hk, hlink⟩ := hF
  obtain ⟨h1, h2⟩ := ha hR.2.2.2.1
  have hts := hC.2.2.2.2.1
  have hin := xm_hin hci
  have hK := hC.2.2.2.2.2.1.1
  have hc := xm_cl_at hci
  have hown := hC.2.2.2.1
  have hap := va_apart (own := own) (D := xm_D (xx_G X)) hts hin (xm_cty ci) (xm_hty hci) (xm_hnm hci) hK hc
  have hP := hR.1 a h1 h2 (Or.inl (xm_k7 hl (by decide)))
  rw [xm_cell_o hl] at hP
  obtain ⟨r0, h3, cell, q1, q2, q3, q4⟩ := hP
  have hr : r0 = (xm_cR ci, xm_cT ci, xm_nf ci) := Option.some.inj (h3.symm.trans hc)
  subst hr
  obtain ⟨hS0, hfc, kC, hkC, hkind⟩ := hK.1 ci _ hc
  obtain ⟨cf, kf, fi, f, hi, hsl⟩ := hS0 k hk
  have hst := (u_facts hfc hkC (u_lays hts hin hk) hi).1
  have hlen : k < ((List.range (xm_nf ci)).map (fun k => xm_val (xx_G X) (xm_ft ci k) (σ.1 a k) (σ.2.1 a k))).length := by simp [hk]
  have tail : ∀ (H' : Heap) (L : List Loc), H'[xm_ad (xx_G X) a]? = some (cell.setSlot f.slot v) → H'.size = H.size → (∀ q, q ≠ xm_ad (xx_G X) a → H'[q]? = H[q]?) → va_S (xm_A X) (xx_s X).heap H' L → xm_W X H' L kc sc o (F0 (xx_m X) (pc + 3) ls st) := by
    intro H' L e1 e2 e3 e4
    refine kk o ho H' L ls (hR.put h1 hn2 hg2 (hT' hR.2.2.1 hR.2.2.2.1) (hI' hR.2.2.2.1) ho2 ?_ e2 e3) e4 hL
    rw [xm_cell_o hl, ← hset]
    rw [hsl] at e1
    exact ⟨_, hc, t_OB.to (V := updV (vp_V _) k v) ⟨_, e1, q2, q3, t_set q4 hap hk v⟩ (fun j _ => vp_updV_set hlen v j)⟩
  have hd2 := xm_hty hci k hk
  have hA : xm_A X (xm_ad (xx_G X) a) := xm_ad_gt h1
  rcases hfin with hfin | ⟨hin2, hdecl⟩
  · have hlay := hts _ (hin _ (u_in_lay hk))
    unfold u_lay at hlay
    by_cases hff : (xm_cT ci k).2.2.2 = true
    · rw [hfin] at hff; cases hff
    rw [if_neg hff] at hlay
    have h6 := u_store hfc hkC hkind hlay hi hd2 hn hfit
    refine W.putK hC.1 hC.2.1 (f := f) ⟨hown, hts _ hlink, ⟨_, _, _, hi⟩, hst⟩ (by rw [q2]; exact h6) q1 q3 (by rw [hsl]; exact k2_hasslot (q4 k hk)) rfl rfl hd fun H' e1 e2 e3 => ?_
    exact tail H' _ e1 e2 e3 (hS.put e2 e3 hA)
  · by_cases hff : (xm_cT ci k).2.2.2 = true
    · have hlay := hts _ (hin _ (u_in_lay hk))
      unfold u_lay at hlay
      rw [if_pos hff] at hlay
      have hcf : (xx_m X).cls = cf := by
        obtain ⟨_, _, c', _, _, _, -, -, hf', -, -, -, hown2, -⟩ := Cond.laysFinal_spec hlay
        have e1 : c' = cf := by have := hi.symm.trans hf'; simp at this; exact this.1.symm
        rw [hdecl] at hown2
        rw [← e1]; exact Option.some.inj (hown.symm.trans hown2)
      have h6 := u_fits hfc hkC hkind (Or.inr hlay) hi hd2 hn hfit
      refine W.putFinK hC.1 hC.2.1 hown (hts _ hlink) hi hst hcf hin2 (by rw [q2]; exact h6) q1 q3 (by rw [hsl]; exact k2_hasslot (q4 k hk)) rfl rfl hd fun H' e1 e2 e3 => ?_
      exact tail H' _ e1 e2 e3 (hS.put e2 e3 hA)
    · have hlay := hts _ (hin _ (u_in_lay hk))
      unfold u_lay at hlay
      rw [if_neg hff] at hlay
      have h6 := u_store hfc hkC hkind hlay hi hd2 hn hfit
      refine W.putK hC.1 hC.2.1 (f := f) ⟨hown, hts _ hlink, ⟨_, _, _, hi⟩, hst⟩ (by rw [q2]; exact h6) q1 q3 (by rw [hsl]; exact k2_hasslot (q4 k hk)) rfl rfl hd fun H' e1 e2 e3 => ?_
      exact tail H' _ e1 e2 e3 (hS.put e2 e3 hA)
end XH
