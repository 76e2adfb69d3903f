/-! ===== the line is told ===== -/
section XE4
variable {fr ρ : Int} {cl : Nat → Int} {S : xS} {A : Nat → Nat} {n : Nat} {m : Nat → Int64} {e : Nat → Nat}
/-- what is asked of the k-th -/
def nthL (L : List Nat) (k : Nat) : Int := if k < L.length then ((L.getD k 0 : Nat) : Int) else -9
theorem l572_ok {K : xm_Mem → Int → Int → Int → Option xm_Out} {L : List Nat} {c : Nat} {x7 : Int} (hT : TW S fr ρ) (hA : AGE S A n) (hL : lineA S A n m 0 99000 = L) (hl : L = line S A n 0 99000 0) (h23 : L.length ≤ 23) (hd : ∀ q, q ∈ L → wDead S (q : Int) < 0)
    (hK : ∀ σ', LV σ' S A n m e → AR σ' L → σ'.2.2 = c → Sm (K σ' x7 99000 (L.length : Int))) : ∀ (r k : Nat), k + r = L.length → ∀ σ, LV σ S A n m e → σ.1 109 0 = 1 → (∀ j, j < k → σ.1 110 j = ((L.getD j 0 : Nat) : Int)) → σ.2.2 = c → ∀ N, r < N → Sm (f_L_law_l572 cl K N σ x7 99000 (k : Int) (nthL L k)) := by
  intro r
  induction r with
  | zero =>
    intro k hk σ hW h9 hc hcc N hN
    obtain ⟨N, rfl⟩ : ∃ M, N = M + 1 := ⟨N - 1, by omega⟩
    show Sm (f_L_law_b572 cl K (f_L_law_l572 cl K N) σ x7 99000 (k : Int) (nthL L k))
    unfold f_L_law_b572 nthL
    rw [if_neg (show ¬ k < L.length by omega)]
    refine sm_if (by decide) ?_
    have ek : k = L.length := by omega
    rw [ek]
    exact hK σ hW ⟨h9, fun j hj => hc j (by omega)⟩ hcc
  | succ r ih =>
    intro k hk σ hW h9 hc hcc N hN
    obtain ⟨N, rfl⟩ : ∃ M, N = M + 1 := ⟨N - 1, by omega⟩
    have hkl : k < L.length := by omega
    show Sm (f_L_law_b572 cl K (f_L_law_l572 cl K N) σ x7 99000 (k : Int) (nthL L k))
    have en : nthL L k = ((L.getD k 0 : Nat) : Int) := if_pos hkl
    rw [en]
    unfold f_L_law_b572
    have hin := getD_in hkl
    have hinl : L.getD k 0 ∈ line S A n 0 99000 0 := by rw [← hl]; exact hin
    have hP : isP S ((L.getD k 0 : Nat) : Int) := line_isP hT.1.1 hA (tw_0 hT) hinl
    have hnd : L.Nodup := by rw [hl]; exact nd_line hA _ _ _
    refine sm_no (by omega) (sm_if (by omega) ?_)
    obtain ⟨σ1, a1, a2, a3, a4⟩ := qa_lv hW (k_rank hW.1 hW.2.1 (tw_T hT) hP (d := 99000) ⟨by decide, by decide⟩)
    rw [hL, plc_at hnd hkl] at a1
    refine sm_b a1 (sm_if a4 (sm_if rfl ?_))
    obtain ⟨σ2, b1, b2, b3, b4⟩ := qa_lv a2 (k_dead a2.1 a2.2.1 hP)
    have f1 : σ2.1 109 0 = 1 := by rw [b3 109 0 (by omega), a3 109 0 (by omega)]; exact h9
    refine sm_b b1 (sm_if b4 (sm_if (hd _ hin) (sm_if ⟨f1, by omega, by omega⟩ ?_)))
    rw [xp_w (by omega) (by omega)]
    have hW3 := lv_110 b2 (k : Int).toNat ((L.getD k 0 : Nat) : Int)
    obtain ⟨σ4, d1, d2, d3, d4⟩ := qa_lv hW3 (k_line hW3.1 hW3.2.1 (tw_T hT) (d := 99000) ⟨by decide, by decide⟩ (k + 1))
    rw [hL] at d1
    have d1' : f_X10_line (xm_u1 σ2 110 (k : Int).toNat ((L.getD k 0 : Nat) : Int)) (0 : Int) (99000 : Int) ((k : Int) + 1) = some (σ4, nthL L (k + 1)) := d1
    refine sm_b d1' (sm_if d4 ?_)
    have ek : ((k : Int) + 1) = ((k + 1 : Nat) : Int) := by omega
    show Sm (f_L_law_l572 cl K N σ4 x7 99000 ((k : Int) + 1) (nthL L (k + 1)))
    rw [ek]
    refine ih (k + 1) (by omega) σ4 d2 (by rw [d3 109 0 (by omega), xm_u1_ne _ _ (by omega)]; exact f1) (fun j hj => ?_) (by rw [d4]; show σ2.2.2 = c; rw [b4, a4]; exact hcc) N (by omega)
    rw [d3 110 j (by omega), Int.toNat_natCast]
    by_cases hjk : j = k
    · subst hjk; exact xm_u1_at _ _ _ _
    · rw [xm_u1_ne _ _ (fun z => hjk z.2), b3 110 j (by omega), a3 110 j (by omega)]
      exact hc j (by omega)
theorem lv_mk {σ : xm_Mem} (hW : LV σ S A n m e) : LV (xm_mkL σ) S A n m e := by
  have hne : ∀ a k, ¬ (a = 109 ∨ a = 110) → (xm_mkL σ).1 a k = σ.1 a k := fun a k z => by
    show (if a = 110 then (0 : Int) else if a = 109 ∧ k = 0 then 1 else σ.1 a k) = _
    rw [if_neg (by omega), if_neg (by omega)]
  have g : gx (fun a _ => a = 109 ∨ a = 110) σ (xm_mkL σ) := ⟨hne, fun a k _ => rfl, rfl⟩
  exact ⟨hW.1, ci_gx hW.1.1 hW.2.1 g (fun a k z => by omega), by rw [hne _ _ (by omega)]; exact hW.2.2.1, sb_gx hW.2.2.2 g (fun k z => by omega)⟩
/-- from the making of the line on -/
theorem tail_ok {σ : xm_Mem} (hW : LV σ S A n m e) (hT : TW S fr ρ) (hfr : 0 ≤ fr ∧ fr ≤ 99999) (h95 : ∀ r, r < sn S → wD S r ≤ 95000) (hsn : sn S ≤ 150) (hsp : sp S ≤ 22) (h110 : 110 ≤ σ.2.2) (hcap : σ.2.2 ≤ 80000) (h0 : σ.1 109 0 = 0) (h1 : σ.1 109 1 = (σ.2.2 : Int) - 20) :
    Sm (if σ.1 109 0 = 0 ∧ σ.1 109 1 = (σ.2.2 : Int) - 20 then (xm_st (xm_mkL σ) (fun σ136 => (f_X10_line σ136 (0 : Int) (99000 : Int) (0 : Int)).bind (fun o138 => if o138.1.2.2 = σ136.2.2 then (f_L_law_l572 cl (fun σ_160 x7_160 x8_160 x10_160 => (f_X10_tenures σ_160 (0 : Int)).bind (fun o161 => if o161.1.2.2 = σ_160.2.2 then ((f_X10_holder o161.1 (0 : Int) x8_160).bind (fun o164 => if o164.1.2.2 = o161.1.2.2 then (f_L_law_l657 cl (fun σ_229 x7_229 x8_229 x12_229 x13_229 => if x12_229 = (-1 : Int) then ((f_X10_holder σ_229 (0 : Int) (99999 : Int)).bind (fun o232 => if o232.1.2.2 = σ_229.2.2 then (if o232.2 = (-1 : Int) then ((f_X10_holder o232.1 (0 : Int) x8_229).bind (fun o237 => if o237.1.2.2 = o232.1.2.2 then (if o237.2 = x13_229 then ((f_X10_holder o237.1 (0 : Int) x7_229).bind (fun o242 => if o242.1.2.2 = o237.1.2.2 then (if o242.2 = (-4 : Int) then (none) else ((f_X10_tenure o242.1 (0 : Int) (0 : Int) (1 : Int)).bind (fun o247 => if o247.1.2.2 = o242.1.2.2 then (if o247.2 = x7_229 then (some (o247.1, 1)) else (none)) else none))) else none)) else (none)) else none)) else (none)) else none)) else (none)) xm_fuel o164.1 x7_160 x8_160 x10_160 o161.2 o164.2 o164.2 (1 : Int)) else none)) else none)) xm_fuel o138.1 fr (99000 : Int) (0 : Int) o138.2) else none))) else none) := by
  refine sm_if ⟨h0, h1⟩ ?_
  have hW1 := lv_mk hW
  have hA := hW.1.2.1
  have hX : ∀ r, r < sn S → wD S r ≤ 99000 := fun r hr => by have := h95 r hr; omega
  obtain ⟨c1, c2, c3, c4⟩ := late_all (m := m) hT hA hX (by decide)
  have hlen : (line S A n 0 99000 0).length ≤ 22 := Nat.le_trans (line_sp hT.1 hA (tw_0 hT)) hsp
  obtain ⟨σ1, a1, a2, a3, a4⟩ := qa_lv hW1 (k_line hW1.1 hW1.2.1 (tw_T hT) (d := 99000) ⟨by decide, by decide⟩ 0)
  have a1' : f_X10_line (xm_mkL σ) (0 : Int) (99000 : Int) (0 : Int) = some (σ1, nthL (lineA S A n m 0 99000) 0) := a1
  refine sm_b a1' (sm_if a4 ?_)
  rw [c2]
  refine l572_ok (cl := cl) (c := σ.2.2) hT hA c2 rfl (by omega) (fun q hq => ?_) (fun σ2 hW2 hA2 hc2 => ?_) (line S A n 0 99000 0).length 0 (by omega) σ1 a2 (by rw [a3 109 0 (by omega)]; rfl) (fun j hj => absurd hj (Nat.not_lt_zero _)) (by rw [a4]; rfl) xm_fuel (xfu (by omega))
  · have hc := (line_mem.mp hq).2
    rw [tw_cnt hT (by decide)] at hc
    rcases hc.1.2 with z | z
    · exact z
    · unfold wDead at z ⊢
      split at z
      · rename_i hl
        have := hX _ hl
        omega
      · rename_i hl
        rw [if_neg hl]
        decide
  · obtain ⟨σ3, b1, b2, b3, b4⟩ := qa_lv hW2 (k_tenures hW2.1 hW2.2.1 (tw_T hT))
    refine sm_b b1 (sm_if b4 ?_)
    obtain ⟨σ4, d1, d2, d3, d4⟩ := qa_lv b2 (k_holder b2.1 b2.2.1 (tw_T hT) (d := 99000) ⟨by decide, by decide⟩)
    refine sm_b d1 (sm_if d4 ?_)
    have hten : tenN S A n m 0 ≤ 200 := Nat.le_trans (cn_le _ _) (NS_ok (A := A) (n := n) (m := m) hT.1.1 (tw_T hT)).1
    have key := l657_ok (cl := cl) (ρ := ρ) (had := holdA S A n m 0 99000) (x11 := (tenN S A n m 0 : Int)) hfr ⟨by omega, by omega⟩ (K := fun σ_229 x7_229 x8_229 x12_229 x13_229 => if x12_229 = (-1 : Int) then ((f_X10_holder σ_229 (0 : Int) (99999 : Int)).bind (fun o232 => if o232.1.2.2 = σ_229.2.2 then (if o232.2 = (-1 : Int) then ((f_X10_holder o232.1 (0 : Int) x8_229).bind (fun o237 => if o237.1.2.2 = o232.1.2.2 then (if o237.2 = x13_229 then ((f_X10_holder o237.1 (0 : Int) x7_229).bind (fun o242 => if o242.1.2.2 = o237.1.2.2 then (if o242.2 = (-4 : Int) then (none) else ((f_X10_tenure o242.1 (0 : Int) (0 : Int) (1 : Int)).bind (fun o247 => if o247.1.2.2 = o242.1.2.2 then (if o247.2 = x7_229 then (some (o247.1, 1)) else (none)) else none))) else none)) else (none)) else none)) else (none)) else none)) else (none))
      (fun σ5 S5 A5 n5 m5 e5 hW5 hT5 h5 h6 => sm_if rfl (fin_ok hW5 hT5 hfr h5 h6)) (line S A n 0 99000 0).length 1 (by decide) (by omega) S A n m e σ4 (line S A n 0 99000 0) rfl d2 hT c2 hX (by omega) (by omega) (ar_kp (ar_kp hA2 b3) d3) rfl (by omega) (by omega) (by omega) xm_fuel (xfu (by omega))
    exact key
end XE4
