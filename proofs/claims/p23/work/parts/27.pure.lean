/-! ===== the pure side: tools, the start ===== -/
noncomputable def xb (P : Prop) : Int := @ite _ P (Classical.propDecidable P) 1 0
theorem xb_pos {P : Prop} (h : P) : xb P = 1 := by unfold xb; exact if_pos h
theorem xb_neg {P : Prop} (h : ¬ P) : xb P = 0 := by unfold xb; exact if_neg h
theorem xb_01 (P : Prop) : xb P = 0 ∨ xb P = 1 := by
  by_cases h : P
  · exact Or.inr (xb_pos h)
  · exact Or.inl (xb_neg h)
theorem xb_1 {P : Prop} : xb P = 1 ↔ P := by
  by_cases h : P
  · exact ⟨fun _ => h, fun _ => xb_pos h⟩
  · exact ⟨fun z => absurd (xb_neg h ▸ z) (by decide), fun z => absurd z h⟩
theorem xb_0 {P : Prop} : xb P = 0 ↔ ¬ P := by
  by_cases h : P
  · exact ⟨fun z => absurd (xb_pos h ▸ z) (by decide), fun z => absurd h z⟩
  · exact ⟨fun _ => h, fun _ => xb_neg h⟩
theorem xb_congr {P Q : Prop} (h : P ↔ Q) : xb P = xb Q := by rw [propext h]
/-- reads behind writes -/
theorem xu11 (σ : xm_Mem) (a k : Nat) (v : Int) (a' k' : Nat) : (xm_u1 σ a k v).1 a' k' = if a' = a ∧ k' = k then v else σ.1 a' k' := rfl
theorem xu12 (σ : xm_Mem) (a k : Nat) (v : Int) : (xm_u1 σ a k v).2 = σ.2 := rfl
theorem xu21 (σ : xm_Mem) (a k : Nat) (v : Int64) : (xm_u2 σ a k v).1 = σ.1 := rfl
theorem xu22 (σ : xm_Mem) (a k : Nat) (v : Int64) (a' k' : Nat) : (xm_u2 σ a k v).2.1 a' k' = if a' = a ∧ k' = k then v else σ.2.1 a' k' := rfl
theorem xu23 (σ : xm_Mem) (a k : Nat) (v : Int64) : (xm_u2 σ a k v).2.2 = σ.2.2 := rfl
theorem xst (σ : xm_Mem) (k : xm_Mem → Option xm_Out) : xm_st σ k = k σ := rfl
theorem xvl (v : Int) (k : Int → Option xm_Out) : xm_vl v k = k v := rfl
theorem xvj (v : Int64) (k : Int64 → Option xm_Out) : xm_vj v k = k v := rfl
theorem xvr {v : Int} (k : Int → Option xm_Out) (h : v ≤ 2147483647) : xm_vr v k = k v := by unfold xm_vr; exact if_pos h
-- the start
def xi_W : List (Nat × Nat × Nat) := xm_wireL ++ (List.range 8).map (fun k => (35, k, 36 + 6 * k)) ++ (List.range 8).flatMap (fun t => (List.range 10).map (fun k => (36 + 6 * t, k, [t, 5, 9, 23, 29, 36 + 6 * t + 1, 36 + 6 * t + 2, 36 + 6 * t + 3, 36 + 6 * t + 4, 36 + 6 * t + 5].getD k 0)))
theorem xi_all {a k b : Nat} (h : xm_wire a k = some b) : (a, k, b) ∈ xi_W := by
  unfold xm_wire at h
  unfold xi_W
  split at h
  · rename_i e
    subst e
    split at h
    · rename_i hk
      cases h
      exact List.mem_append_left _ (List.mem_append_right _ (List.mem_map.mpr ⟨k, List.mem_range.mpr hk, rfl⟩))
    · cases h
  · split at h
    · rename_i e
      have hk : k < 10 := by
        have := (List.getElem?_eq_some_iff.mp h).1
        simpa using this
      obtain ⟨t, ht, rfl⟩ : ∃ t, t < 8 ∧ a = 36 + 6 * t := ⟨(a - 36) / 6, by omega, by omega⟩
      have e6 : (36 + 6 * t - 36) / 6 = t := by omega
      rw [e6] at h
      refine List.mem_append_right _ (List.mem_flatMap.mpr ⟨t, List.mem_range.mpr ht, List.mem_map.mpr ⟨k, List.mem_range.mpr hk, ?_⟩⟩)
      rw [List.getD_eq_getElem?_getD, h]
      rfl
    · simp only [Option.map_eq_some_iff] at h
      obtain ⟨q, h1, h2⟩ := h
      have h3 := List.find?_some h1
      have h4 := List.mem_of_find?_eq_some h1
      simp at h3
      refine List.mem_append_left _ (List.mem_append_left _ ?_)
      rw [← h3.1, ← h3.2, ← h2]
      exact h4
def xi_F : List (Nat × Nat × Int) := [(1, 8, 0), (1, 9, -9), (1, 10, 0), (2, 1, 0), (5, 3, 0), (5, 4, 0), (5, 5, 0), (18, 4, 0), (23, 3, 0), (29, 4, -1), (29, 5, -1), (84, 1, 0), (84, 2, 0), (84, 3, -9), (84, 4, 0), (84, 5, 0), (84, 6, 0), (84, 14, 0), (84, 15, 0), (84, 18, 0)] ++ (List.range 8).map (fun t => (36 + 6 * t, 11, 0)) ++ (List.range 8).map (fun t => (95, t, 0)) ++ (List.range 64).map (fun t => (10, t, 0)) ++ (List.range 200).map (fun t => (92, t, 0)) ++ (List.range 64).map (fun t => (24, t, 0)) ++ (List.range 65).map (fun t => (27, t, 0))
