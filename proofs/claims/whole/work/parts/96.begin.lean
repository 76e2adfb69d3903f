/-! ===== the start: nothing told yet; the claim ===== -/
def hr_S0 : xS := (fun _ _ => 0, 0, fun _ => 0, 0, fun _ => 0, 0)
theorem hr_fst {T : Nat → Prop} (h : ∀ b, ¬ T b) : ∀ c b, fstB T c b = 0 := by
  intro c
  induction c with
  | zero => intro b; rfl
  | succ c ih => intro b; rw [fstB_s, if_neg (h b)]; exact ih _
theorem hr_noP (p : Int) : ¬ isP hr_S0 p := fun z => by have h0 := z.1; have h1 : p < ((0 : Nat) : Int) := z.2.1; omega
theorem hr_noT (p : Int) : ¬ isT hr_S0 p := fun z => by have h0 := z.1; have h1 : p < ((0 : Nat) : Int) := z.2.1; omega
theorem hr_OK : OK hr_S0 := by
  refine ⟨⟨⟨Nat.zero_le _, Nat.zero_le _, Nat.zero_le _⟩, fun r h => absurd h (Nat.not_lt_zero _), fun p h => absurd h (Nat.not_lt_zero _), fun t h => absurd h (Nat.not_lt_zero _)⟩, fun r h => absurd h (Nat.not_lt_zero _), hr_fst (fun b z => ?_) _ _⟩
  obtain ⟨r, h, _⟩ := z
  exact absurd h (Nat.not_lt_zero _)
theorem hr_kid (p : Nat) : kidL hr_S0 (fun _ => 0) 0 p = [] := rfl
theorem hr_sK : ∀ p, sK hr_S0 (fun _ => 0) 0 p = 0 := by
  intro p
  induction p with
  | zero => rfl
  | succ p ih => show sK hr_S0 (fun _ => 0) 0 p + (kidL hr_S0 (fun _ => 0) 0 p).length = 0; rw [ih, hr_kid]; rfl
theorem hr_start {σ : xm_Mem} (hc : σ.2.2 = 110) (hF : ∀ q ∈ xi_F, σ.1 q.1 q.2.1 = q.2.2) : hr_LV σ := by
  have f : ∀ (a k : Nat) (v : Int), (a, k, v) ∈ xi_F → σ.1 a k = v := fun a k v h => hF (a, k, v) h
  have c18 : σ.1 1 8 = 0 := f 1 8 0 (by decide +kernel)
  have c19 : σ.1 1 9 = -9 := f 1 9 (-9) (by decide +kernel)
  have c1a : σ.1 1 10 = 0 := f 1 10 0 (by decide +kernel)
  have c21 : σ.1 2 1 = 0 := f 2 1 0 (by decide +kernel)
  have c53 : σ.1 5 3 = 0 := f 5 3 0 (by decide +kernel)
  have c54 : σ.1 5 4 = 0 := f 5 4 0 (by decide +kernel)
  have c55 : σ.1 5 5 = 0 := f 5 5 0 (by decide +kernel)
  have c184 : σ.1 18 4 = 0 := f 18 4 0 (by decide +kernel)
  have c233 : σ.1 23 3 = 0 := f 23 3 0 (by decide +kernel)
  have c294 : σ.1 29 4 = -1 := f 29 4 (-1) (by decide +kernel)
  have c841 : σ.1 84 1 = 0 := f 84 1 0 (by decide +kernel)
  have c842 : σ.1 84 2 = 0 := f 84 2 0 (by decide +kernel)
  have c843 : σ.1 84 3 = -9 := f 84 3 (-9) (by decide +kernel)
  have c844 : σ.1 84 4 = 0 := f 84 4 0 (by decide +kernel)
  have c845 : σ.1 84 5 = 0 := f 84 5 0 (by decide +kernel)
  have c846 : σ.1 84 6 = 0 := f 84 6 0 (by decide +kernel)
  have c84e : σ.1 84 14 = 0 := f 84 14 0 (by decide +kernel)
  have c84f : σ.1 84 15 = 0 := f 84 15 0 (by decide +kernel)
  have c84i : σ.1 84 18 = 0 := f 84 18 0 (by decide +kernel)
  have r27 : ∀ p, p < 65 → σ.1 27 p = 0 := fun p h => f 27 p 0 (by unfold xi_F; exact List.mem_append_right _ (List.mem_map.mpr ⟨p, List.mem_range.mpr h, rfl⟩))
  have r24 : ∀ p, p < 64 → σ.1 24 p = 0 := fun p h => f 24 p 0 (by unfold xi_F; exact List.mem_append_left _ (List.mem_append_right _ (List.mem_map.mpr ⟨p, List.mem_range.mpr h, rfl⟩)))
  have r10 : ∀ p, p < 64 → σ.1 10 p = 0 := fun p h => f 10 p 0 (by unfold xi_F; exact List.mem_append_left _ (List.mem_append_left _ (List.mem_append_left _ (List.mem_append_right _ (List.mem_map.mpr ⟨p, List.mem_range.mpr h, rfl⟩)))))
  have nl : ∀ (P : Nat → Prop) (k : Nat), k < 0 → P k := fun P k h => absurd h (Nat.not_lt_zero _)
  have hMS : MS σ hr_S0 := ⟨c845, c84e, c84f, fun r h => absurd h (Nat.not_lt_zero _), fun r h => absurd h (Nat.not_lt_zero _), fun r h => absurd h (Nat.not_lt_zero _)⟩
  have hCS : CS σ hr_S0 (fun _ => 0) := ⟨⟨c53, c54, c55⟩, ⟨by omega, by omega⟩, fun r h => absurd h (Nat.not_lt_zero _), fun r q _ h => absurd h (Nat.not_lt_zero _), fun r h => absurd h (Nat.not_lt_zero _), fun r h => absurd h (Nat.not_lt_zero _)⟩
  have hPO : PO σ hr_S0 := fun p h => ⟨by rw [r10 p h, xb_neg (hr_noP _)], fun z => absurd z (Nat.not_lt_zero _), fun z => absurd z (hr_noP _)⟩
  have hUO : UO σ hr_S0 (sn hr_S0) := ⟨0, fun _ => 0, c184, Nat.zero_le _, fun j h => absurd h (Nat.not_lt_zero _), fun i j _ h => absurd h (Nat.not_lt_zero _), fun r h => absurd h (Nat.not_lt_zero _)⟩
  have hDA : DA σ hr_S0 (fun _ => 0) 0 := ⟨c233, fun i h => absurd h (Nat.not_lt_zero _), fun p h => by rw [r24 p h, xb_neg (fun z => hr_noP _ z.1)]⟩
  have hKD : KD σ hr_S0 (fun _ => 0) 0 := ⟨fun p h => by rw [r27 p (by omega), hr_sK]; rfl, fun p h => by rw [hr_kid]; exact fun i h => absurd h (Nat.not_lt_zero _)⟩
  have hCV : CV σ hr_S0 (fun _ => 0) 0 := fun z => absurd z (by rw [c294]; decide)
  refine ⟨hr_S0, fun _ => 0, 0, fun _ => 0, fun _ => 0, fun _ => 0, 0, ⟨⟨hr_OK, ⟨Nat.zero_le _, fun i h => absurd h (Nat.not_lt_zero _), fun i j _ h => absurd h (Nat.not_lt_zero _), fun p z => absurd z (hr_noP _)⟩, fun i h => absurd h (Nat.not_lt_zero _)⟩, ⟨Nat.zero_le _, fun k h => absurd h (Nat.not_lt_zero _)⟩⟩, ⟨⟨hCS, hUO, ⟨⟨⟨hPO, hDA, hKD⟩, hCV, by omega⟩, fun p z => absurd z (hr_noP _)⟩, fun t z => absurd z (hr_noT _)⟩, ⟨hMS, Or.inl c84i, fun t z => absurd z (hr_noT _)⟩⟩, ⟨⟨c21, fun k h => absurd h (Nat.not_lt_zero _)⟩, ⟨c841, fun k h => absurd h (Nat.not_lt_zero _)⟩⟩, ⟨by rw [c18, c842], by rw [c19, c843], by rw [c1a, c844]⟩, c846⟩
