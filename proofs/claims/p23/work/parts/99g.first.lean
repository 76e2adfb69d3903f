/-! ===== nothing told yet; the first three ===== -/
def hr_S0 : xS := (fun _ _ => 0, 0, fun _ => 0, 0, fun _ => 0, 0)
theorem hr_fst {T : Nat → Prop} (h : ∀ b, ¬ T b) : ∀ c b, fstB T c b = 0 := by
  intro c
  induction c with
  | zero => intro b; rfl
  | succ c ih => intro b; rw [fstB_s, if_neg (h b)]; exact ih _
theorem hr_noP (p : Int) : ¬ isP hr_S0 p := fun z => by have h0 := z.1; have h1 : p < ((0 : Nat) : Int) := z.2.1; omega
theorem hr_noT (p : Int) : ¬ isT hr_S0 p := fun z => by have h0 := z.1; have h1 : p < ((0 : Nat) : Int) := z.2.1; omega
theorem hr_OK : OK hr_S0 := by
  refine ⟨⟨⟨Nat.zero_le _, Nat.zero_le _, Nat.zero_le _⟩, fun r h => absurd h (Nat.not_lt_zero _), fun p h => absurd h (Nat.not_lt_zero _), fun t h => absurd h (Nat.not_lt_zero _)⟩, fun r h => absurd h (Nat.not_lt_zero _), hr_fst (fun b z => ?_) _ _⟩
  obtain ⟨r, h, _⟩ := z
  exact absurd h (Nat.not_lt_zero _)
theorem hr_kid (p : Nat) : kidL hr_S0 (fun _ => 0) 0 p = [] := rfl
theorem hr_sK : ∀ p, sK hr_S0 (fun _ => 0) 0 p = 0 := by
  intro p
  induction p with
  | zero => rfl
  | succ p ih => show sK hr_S0 (fun _ => 0) 0 p + (kidL hr_S0 (fun _ => 0) 0 p).length = 0; rw [ih, hr_kid]; rfl
/-- what the constructor leaves in the class -/
def xf_F : List (Nat × Nat × Int) := [(1, 8, 0), (1, 9, -9), (1, 10, 0), (2, 1, 0), (5, 3, 0), (5, 4, 0), (5, 5, 0), (18, 4, 0), (23, 3, 0), (29, 4, -1), (87, 0, 0), (87, 1, 0), (88, 1, 0), (109, 0, 0)] ++ (List.range 64).map (fun t => (10, t, 0)) ++ (List.range 64).map (fun t => (24, t, 0)) ++ (List.range 65).map (fun t => (27, t, 0))
theorem made_dec : (f_made.map (fun σ => decide (σ.2.2 = 83) && xi_W.all (fun q => decide (σ.1 q.1 q.2.1 = (q.2.2 : Int))) && xf_F.all (fun q => decide (σ.1 q.1 q.2.1 = q.2.2)))) = some true := by decide +kernel
theorem xi_lo : xi_W.all (fun q => decide (q.1 ≤ 83)) = true := by decide +kernel
theorem made_ok : ∃ o1, f_X10_init (xm_nw xm_z) 1 = some o1 ∧ o1.1.2.2 = 83 ∧ (∀ q ∈ xi_W, o1.1.1 q.1 q.2.1 = (q.2.2 : Int)) ∧ ∀ q ∈ xf_F, o1.1.1 q.1 q.2.1 = q.2.2 := by
  have h := made_dec
  unfold f_made at h
  cases hm : f_X10_init (xm_nw xm_z) 1 with
  | none => rw [hm] at h; cases h
  | some o1 =>
    rw [hm] at h
    simp only [Option.map_some, Option.some.injEq, Bool.and_eq_true, decide_eq_true_eq, List.all_eq_true] at h
    exact ⟨o1, rfl, h.1.1, h.1.2, h.2⟩
section XG1
variable {σ : xm_Mem} {el : Int} {cl : Nat → Int}
theorem s6_lo {a k : Nat} (ha : a ≤ 83 ∨ a = 87 ∨ a = 109 ∨ (a = 88 ∧ k ≠ 0)) : (xm_s6 σ).1 a k = σ.1 a k := by
  show (xm_u1 (xm_nw (xm_nw (xm_s3 σ))) 88 0 1).1 a k = _
  rw [xm_u1_ne _ _ (by omega)]
  show (xm_u1 (xm_u1 (xm_u1 (xm_u1 (xm_u1 (xm_nw (xm_s1 σ)) 86 0 10) 86 1 15) 86 2 16) 86 3 17) 86 4 18).1 a k = _
  rw [xm_u1_ne _ _ (by omega), xm_u1_ne _ _ (by omega), xm_u1_ne _ _ (by omega), xm_u1_ne _ _ (by omega), xm_u1_ne _ _ (by omega)]
  show (xm_u1 (xm_u1 (xm_nw (xm_nw σ)) 84 0 85) 84 1 0).1 a k = _
  rw [xm_u1_ne _ _ (by omega), xm_u1_ne _ _ (by omega)]
  rfl
theorem b1_ne {τ : xm_Mem} {a k : Nat} (h85 : a ≠ 85) (h89 : a ≠ 89) (h84 : ¬ (a = 84 ∧ (k = 0 ∨ k = 3))) : (xm_b1 τ).1 a k = τ.1 a k := by
  unfold xm_b1
  rw [ap_ne h89 (by omega), ap_ne h89 (by omega)]
  unfold xm_g1
  rw [xm_u1_ne _ _ (by omega), xm_cpm_ne (by omega)]
  show (xm_aps τ 85 0 [(0, 19), (1, 0), (0, 20)]).1 a k = _
  exact aps_ne h85 (by omega) _ _ _
theorem st1_lo {a k : Nat} (ha : a ≤ 83 ∨ a = 87 ∨ (a = 109 ∧ k ≠ 1) ∨ (a = 88 ∧ k ≠ 0)) : (xm_st1 σ el).1 a k = σ.1 a k := by
  unfold xm_st1 xm_gj
  rw [xm_u1_ne _ _ (by omega)]
  show (xm_b1 (xm_s6 σ)).1 a k = _
  rw [b1_ne (by omega) (by omega) (by omega), s6_lo (by omega)]
theorem st1_hi : (xm_st1 σ el).1 109 1 = el ∧ (xm_st1 σ el).1 88 0 = 1 ∧ RU (xm_st1 σ el) := by
  have e : ∀ a k, ¬ (a = 109 ∧ k = 1) → (xm_st1 σ el).1 a k = (xm_b1 (xm_s6 σ)).1 a k := fun a k h => xm_u1_ne _ _ h
  refine ⟨xm_u1_at _ _ _ _, ?_, fun i hi => ?_⟩
  · rw [e _ _ (by omega), b1_ne (by omega) (by omega) (by omega)]
    exact xm_u1_at _ _ _ _
  · rw [e _ _ (by omega), b1_ne (by omega) (by omega) (by omega)]
    show (xm_u1 (xm_nw (xm_nw (xm_s3 σ))) 88 0 1).1 86 i = _
    rw [xm_u1_ne _ _ (by omega)]
    show (xm_u1 (xm_u1 (xm_u1 (xm_u1 (xm_u1 (xm_nw (xm_s1 σ)) 86 0 10) 86 1 15) 86 2 16) 86 3 17) 86 4 18).1 86 i = _
    simp only [xu11]
    have hi5 : i = 0 ∨ i = 1 ∨ i = 2 ∨ i = 3 ∨ i = 4 := by omega
    rcases hi5 with rfl | rfl | rfl | rfl | rfl <;> rfl
theorem st1_SB : xm_SB (xm_st1 σ el) 89 34 28 := by
  have e : ∀ a k, ¬ (a = 109 ∧ k = 1) → (xm_st1 σ el).1 a k = (xm_b1 (xm_s6 σ)).1 a k := fun a k h => xm_u1_ne _ _ h
  refine ⟨?_, ?_, ?_, by decide, by decide, by show 89 ≤ 110; decide, by decide, by decide⟩
  · rw [e _ _ (by omega)]
    unfold xm_b1
    rw [ap_ne (by omega) (by omega), ap_ne (by omega) (by omega)]
    exact xm_u1_at _ _ _ _
  · rw [e _ _ (by omega), b1_ne (by omega) (by omega) (by omega)]
    show (xm_u1 (xm_nw (xm_nw (xm_s3 σ))) 88 0 1).1 84 1 = _
    rw [xm_u1_ne _ _ (by omega)]
    show (xm_u1 (xm_u1 (xm_u1 (xm_u1 (xm_u1 (xm_nw (xm_s1 σ)) 86 0 10) 86 1 15) 86 2 16) 86 3 17) 86 4 18).1 84 1 = _
    rw [xm_u1_ne _ _ (by omega), xm_u1_ne _ _ (by omega), xm_u1_ne _ _ (by omega), xm_u1_ne _ _ (by omega), xm_u1_ne _ _ (by omega)]
    show (xm_u1 (xm_u1 (xm_nw (xm_nw σ)) 84 0 85) 84 1 0).1 84 1 = 0
    exact xm_u1_at _ _ _ _
  · rw [e _ _ (by omega)]
    unfold xm_b1
    rw [ap_3 (by decide)]
    rfl
theorem ok_w {i : Nat} (h : i < 24) : xm_pOK (0, i) := xm_po0 h
theorem st1_by : ∀ k, k < 28 → (xm_st1 σ el).1 89 k = lB (pcS (xm_bP 0 1 (-1) (-1))) k := by
  intro k hk
  have e : (xm_st1 σ el).1 89 k = (xm_b1 (xm_s6 σ)).1 89 k := xm_u1_ne _ _ (by omega)
  rw [e]
  have hp : pcS (xm_bP 0 1 (-1) (-1)) = pcS [(0, 19), (1, 0), (0, 20)] ++ (pcB (0, 22) ++ pcB (0, 12)) := by decide +kernel
  have hl : (pcS [(0, 19), (1, 0), (0, 20)]).length = 15 := by decide +kernel
  have hl2 : (pcB (0, 22)).length = 9 := by decide +kernel
  have p22 : xm_pl (0, 22) = 9 := by decide
  have p12 : xm_pl (0, 12) = 4 := by decide
  unfold xm_b1 lB
  rw [ap_at (ok_w (by decide)) (by decide), ap_at (ok_w (by decide)) (by decide), p22, p12, hp]
  by_cases h1 : 15 + 9 ≤ k
  · rw [if_pos (by omega)]
    have e1 : k = (pcS [(0, 19), (1, 0), (0, 20)]).length + ((pcB (0, 22)).length + (k - (15 + 9))) := by omega
    conv => rhs; rw [e1]
    rw [lB_a2, lB_a2]
  · rw [if_neg (by omega)]
    by_cases h2 : 15 ≤ k
    · rw [if_pos (by omega)]
      have e1 : k = (pcS [(0, 19), (1, 0), (0, 20)]).length + (k - 15) := by omega
      conv => rhs; rw [e1]
      rw [lB_a2, lB_a1 (by omega)]
    · rw [if_neg (by omega), lB_a1 (by omega)]
      unfold xm_g1
      rw [xm_u1_ne _ _ (by omega), xm_cpm_at (by omega)]
      show (xm_aps (xm_s6 σ) 85 0 [(0, 19), (1, 0), (0, 20)]).1 85 (0 + (k - 0)) = _
      have e2 : 0 + (k - 0) = k := by omega
      rw [e2, aps_at (by decide) k _ _ _ (fun p hp => by
        simp only [List.mem_cons, List.not_mem_nil, or_false] at hp
        rcases hp with rfl | rfl | rfl
        · exact xm_po0 (by decide)
        · exact xm_po1 (by decide)
        · exact xm_po0 (by decide)), pcS_len, hl, if_pos ⟨Nat.zero_le _, by omega⟩]
      rfl
/-- the world of what the constructor leaves -/
theorem st1_CI (h83 : σ.2.2 = 83) (hF : ∀ q ∈ xf_F, σ.1 q.1 q.2.1 = q.2.2) : PU hr_S0 (fun _ => 0) 0 (fun _ => 0) ∧ CI (xm_st1 σ el) hr_S0 (fun _ => 0) 0 (fun _ => 0) (fun _ => 0) ∧ (xm_st1 σ el).1 2 1 = 0 := by
  have f : ∀ (a k : Nat) (v : Int), (a, k, v) ∈ xf_F → a ≤ 83 → (xm_st1 σ el).1 a k = v := fun a k v h ha => by rw [st1_lo (Or.inl ha)]; exact hF (a, k, v) h
  have c21 := f 2 1 0 (by decide +kernel) (by decide)
  have c53 := f 5 3 0 (by decide +kernel) (by decide)
  have c54 := f 5 4 0 (by decide +kernel) (by decide)
  have c55 := f 5 5 0 (by decide +kernel) (by decide)
  have c184 := f 18 4 0 (by decide +kernel) (by decide)
  have c233 := f 23 3 0 (by decide +kernel) (by decide)
  have c294 := f 29 4 (-1) (by decide +kernel) (by decide)
  have r27 : ∀ p, p < 65 → (xm_st1 σ el).1 27 p = 0 := fun p h => f 27 p 0 (by unfold xf_F; exact List.mem_append_right _ (List.mem_map.mpr ⟨p, List.mem_range.mpr h, rfl⟩)) (by decide)
  have r24 : ∀ p, p < 64 → (xm_st1 σ el).1 24 p = 0 := fun p h => f 24 p 0 (by unfold xf_F; exact List.mem_append_left _ (List.mem_append_right _ (List.mem_map.mpr ⟨p, List.mem_range.mpr h, rfl⟩))) (by decide)
  have r10 : ∀ p, p < 64 → (xm_st1 σ el).1 10 p = 0 := fun p h => f 10 p 0 (by unfold xf_F; exact List.mem_append_left _ (List.mem_append_left _ (List.mem_append_right _ (List.mem_map.mpr ⟨p, List.mem_range.mpr h, rfl⟩)))) (by decide)
  have hc : (xm_st1 σ el).2.2 = 110 := rfl
  generalize xm_st1 σ el = τ at c21 c53 c54 c55 c184 c233 c294 r27 r24 r10 hc
  have hCS : CS τ hr_S0 (fun _ => 0) := ⟨⟨c53, c54, c55⟩, ⟨by omega, by omega⟩, fun r h => absurd h (Nat.not_lt_zero _), fun r q _ h => absurd h (Nat.not_lt_zero _), fun r h => absurd h (Nat.not_lt_zero _), fun r h => absurd h (Nat.not_lt_zero _)⟩
  have hPO : PO τ hr_S0 := fun p h => ⟨by rw [r10 p h, xb_neg (hr_noP _)], fun z => absurd z (Nat.not_lt_zero _), fun z => absurd z (hr_noP _)⟩
  have hUO : UO τ hr_S0 (sn hr_S0) := ⟨0, fun _ => 0, c184, Nat.zero_le _, fun j h => absurd h (Nat.not_lt_zero _), fun i j _ h => absurd h (Nat.not_lt_zero _), fun r h => absurd h (Nat.not_lt_zero _)⟩
  have hDA : DA τ hr_S0 (fun _ => 0) 0 := ⟨c233, fun i h => absurd h (Nat.not_lt_zero _), fun p h => by rw [r24 p h, xb_neg (fun z => hr_noP _ z.1)]⟩
  have hKD : KD τ hr_S0 (fun _ => 0) 0 := ⟨fun p h => by rw [r27 p (by omega), hr_sK]; rfl, fun p h => by rw [hr_kid]; exact fun i h => absurd h (Nat.not_lt_zero _)⟩
  have hCV : CV τ hr_S0 (fun _ => 0) 0 := fun z => absurd z (by rw [c294]; decide)
  exact ⟨⟨hr_OK, ⟨Nat.zero_le _, fun i h => absurd h (Nat.not_lt_zero _), fun i j _ h => absurd h (Nat.not_lt_zero _), fun p z => absurd z (hr_noP _)⟩, fun i h => absurd h (Nat.not_lt_zero _)⟩, ⟨hCS, hUO, ⟨⟨⟨hPO, hDA, hKD⟩, hCV, by omega⟩, fun p z => absurd z (hr_noP _)⟩, fun t z => absurd z (hr_noT _)⟩, c21⟩
theorem st1_I (h83 : σ.2.2 = 83) (hW : ∀ q ∈ xi_W, σ.1 q.1 q.2.1 = (q.2.2 : Int)) : xm_I (xm_st1 σ el) := by
  refine ⟨Nat.le_refl _, fun a k b hw => ?_⟩
  have hm := xi_all hw
  have hlo := of_decide_eq_true (List.all_eq_true.mp xi_lo _ hm)
  rw [st1_lo (Or.inl hlo)]
  exact hW (a, k, b) hm
end XG1
