/-! ===== the law's loop ===== -/
def hr_LV (σ : xm_Mem) : Prop := ∃ (S : xS) (A : Nat → Nat) (n : Nat) (m : Nat → Int64) (e : Nat → Nat) (B : Nat → Int) (s : Nat), IV σ S A n m e B s
/-- a call of both sides: they answer alike, and what the law keeps is kept -/
def hr_LC (f g : xm_Mem → Option xm_Out) (σ : xm_Mem) : Prop := ∃ σ1 σ2 a, f σ = some (σ1, a) ∧ g σ1 = some (σ2, a) ∧ hr_LV σ2 ∧ σ2.2.2 ≤ σ.2.2 + 1
section XL
variable {σ : xm_Mem} {S : xS} {A : Nat → Nat} {n : Nat} {m : Nat → Int64} {e : Nat → Nat} {B : Nat → Int} {s : Nat}
theorem hr_q {f g : xm_Mem → Option xm_Out} (h : IV σ S A n m e B s) (q : ∀ τ, MI τ S A n m → τ.1 84 1 = (s : Int) → τ.1 84 6 = (sN S : Int) → 110 ≤ τ.2.2 → ∃ a w, QA σ S A n m e (f σ) a w ∧ QB τ S A n m (g τ) a w) : hr_LC f g σ := by
  obtain ⟨σ1, σ2, a, a1, a2, a3, a4⟩ := iv_q (f := f) (g := g) h q
  exact ⟨σ1, σ2, a, a1, a2, ⟨_, _, _, _, _, _, _, a3⟩, by omega⟩
theorem hr_feed (h : hr_LV σ) (x1 x2 x3 x4 x5 : Int) : hr_LC (fun τ => f_X10_feed τ x1 x2 x3 x4 x5) (fun τ => f_X11_feed τ x1 x2 x3 x4 x5) σ := by
  obtain ⟨S, A, n, m, e, B, s, h⟩ := h
  obtain ⟨σ1, σ2, a, B1, s1, a1, a2, a3, a4⟩ := iv_feed h x1 x2 x3 x4 x5
  exact ⟨σ1, σ2, a, a1, a2, ⟨_, _, _, _, _, _, _, a3⟩, by omega⟩
theorem hr_end (h : hr_LV σ) (x1 : Int) : hr_LC (fun τ => f_X10_end τ x1) (fun τ => f_X11_end τ x1) σ := by
  obtain ⟨S, A, n, m, e, B, s, h⟩ := h
  obtain ⟨σ1, σ2, a, s1, a1, a2, a3, a4⟩ := iv_end h x1
  exact ⟨σ1, σ2, a, a1, a2, ⟨_, _, _, _, _, _, _, a3⟩, by omega⟩
theorem hr_record (h : hr_LV σ) (hc : σ.2.2 < 100000) : hr_LC (fun τ => f_X10_record τ) (fun τ => f_X11_record τ) σ := by
  obtain ⟨S, A, n, m, e, B, s, h⟩ := h
  obtain ⟨σ1, σ2, a, S1, A1, n1, m1, e1, a1, a2, a3, a4⟩ := iv_record h hc
  exact ⟨σ1, σ2, a, a1, a2, ⟨_, _, _, _, _, _, _, a3⟩, by omega⟩
theorem hr_place (h : hr_LV σ) : hr_LC (fun τ => f_X10_place τ) (fun τ => f_X11_place τ) σ := by
  obtain ⟨S, A, n, m, e, B, s, h⟩ := h
  exact ⟨σ, σ, _, rfl, congrArg (fun v => some (σ, v)) h.2.2.2.1.2.1.symm, ⟨S, A, n, m, e, B, s, h⟩, Nat.le_succ _⟩
theorem hr_bond (h : hr_LV σ) : hr_LC (fun τ => f_X10_bond τ) (fun τ => f_X11_bond τ) σ := by
  obtain ⟨S, A, n, m, e, B, s, h⟩ := h
  exact ⟨σ, σ, _, rfl, congrArg (fun v => some (σ, v)) h.2.2.2.1.2.2.symm, ⟨S, A, n, m, e, B, s, h⟩, Nat.le_succ _⟩
theorem hr_strike (h : hr_LV σ) (x1 : Int) : hr_LC (fun τ => f_X10_strike τ x1) (fun τ => f_X11_strike τ x1) σ := by
  obtain ⟨S, A, n, m, e, B, s, h⟩ := h
  obtain ⟨σ1, σ2, a, S1, A1, n1, m1, a1, a2, a3, a4⟩ := iv_strike h x1
  exact ⟨σ1, σ2, a, a1, a2, ⟨_, _, _, _, _, _, _, a3⟩, by omega⟩
theorem hr_count (h : hr_LV σ) (x1 : Int) : hr_LC (fun τ => f_X10_count τ x1) (fun τ => f_X11_count τ x1) σ := by
  obtain ⟨S, A, n, m, e, B, s, h⟩ := h
  exact hr_q (f := fun τ => f_X10_count τ x1) (g := fun τ => f_X11_count τ x1) h (fun τ hM h1 h6 hc => q_count h.1.1 h.2.1.1 hM h.2.2.1.1.1 h1 h6 x1)
theorem hr_fact (h : hr_LV σ) (x1 x2 : Int) : hr_LC (fun τ => f_X10_fact τ x1 x2) (fun τ => f_X11_fact τ x1 x2) σ := by
  obtain ⟨S, A, n, m, e, B, s, h⟩ := h
  exact hr_q (f := fun τ => f_X10_fact τ x1 x2) (g := fun τ => f_X11_fact τ x1 x2) h (fun τ hM h1 h6 hc => q_fact h.1.1 h.2.1.1 hM x1 x2)
theorem hr_person (h : hr_LV σ) (x1 x2 : Int) : hr_LC (fun τ => f_X10_person τ x1 x2) (fun τ => f_X11_person τ x1 x2) σ := by
  obtain ⟨S, A, n, m, e, B, s, h⟩ := h
  exact hr_q (f := fun τ => f_X10_person τ x1 x2) (g := fun τ => f_X11_person τ x1 x2) h (fun τ hM h1 h6 hc => q_person h.1.1 h.2.1.1 hM x1 x2)
theorem hr_partner (h : hr_LV σ) (x1 x2 : Int) : hr_LC (fun τ => f_X10_partner τ x1 x2) (fun τ => f_X11_partner τ x1 x2) σ := by
  obtain ⟨S, A, n, m, e, B, s, h⟩ := h
  exact hr_q (f := fun τ => f_X10_partner τ x1 x2) (g := fun τ => f_X11_partner τ x1 x2) h (fun τ hM h1 h6 hc => q_partner h.1.1 h.2.1.1 hM x1 x2)
theorem hr_kin (h : hr_LV σ) (x1 x2 : Int) : hr_LC (fun τ => f_X10_kin τ x1 x2) (fun τ => f_X11_kin τ x1 x2) σ := by
  obtain ⟨S, A, n, m, e, B, s, h⟩ := h
  exact hr_q (f := fun τ => f_X10_kin τ x1 x2) (g := fun τ => f_X11_kin τ x1 x2) h (fun τ hM h1 h6 hc => q_kin h.1.1 h.2.1.1 hM hc x1 x2)
theorem hr_holder (h : hr_LV σ) (x1 x2 : Int) : hr_LC (fun τ => f_X10_holder τ x1 x2) (fun τ => f_X11_holder τ x1 x2) σ := by
  obtain ⟨S, A, n, m, e, B, s, h⟩ := h
  exact hr_q (f := fun τ => f_X10_holder τ x1 x2) (g := fun τ => f_X11_holder τ x1 x2) h (fun τ hM h1 h6 hc => q_holder h.1.1 h.2.1.1 hM x1 x2)
theorem hr_since (h : hr_LV σ) (x1 x2 : Int) : hr_LC (fun τ => f_X10_since τ x1 x2) (fun τ => f_X11_since τ x1 x2) σ := by
  obtain ⟨S, A, n, m, e, B, s, h⟩ := h
  exact hr_q (f := fun τ => f_X10_since τ x1 x2) (g := fun τ => f_X11_since τ x1 x2) h (fun τ hM h1 h6 hc => q_since h.1.1 h.2.1.1 hM x1 x2)
theorem hr_line (h : hr_LV σ) (x1 x2 x3 : Int) : hr_LC (fun τ => f_X10_line τ x1 x2 x3) (fun τ => f_X11_line τ x1 x2 x3) σ := by
  obtain ⟨S, A, n, m, e, B, s, h⟩ := h
  exact hr_q (f := fun τ => f_X10_line τ x1 x2 x3) (g := fun τ => f_X11_line τ x1 x2 x3) h (fun τ hM h1 h6 hc => q_line h.1.1 h.2.1.1 hM x1 x2 x3)
theorem hr_rank (h : hr_LV σ) (x1 x2 x3 : Int) : hr_LC (fun τ => f_X10_rank τ x1 x2 x3) (fun τ => f_X11_rank τ x1 x2 x3) σ := by
  obtain ⟨S, A, n, m, e, B, s, h⟩ := h
  exact hr_q (f := fun τ => f_X10_rank τ x1 x2 x3) (g := fun τ => f_X11_rank τ x1 x2 x3) h (fun τ hM h1 h6 hc => q_rank h.1.1 h.2.1.1 hM x1 x2 x3)
theorem hr_coheir (h : hr_LV σ) (x1 x2 x3 : Int) : hr_LC (fun τ => f_X10_coheir τ x1 x2 x3) (fun τ => f_X11_coheir τ x1 x2 x3) σ := by
  obtain ⟨S, A, n, m, e, B, s, h⟩ := h
  exact hr_q (f := fun τ => f_X10_coheir τ x1 x2 x3) (g := fun τ => f_X11_coheir τ x1 x2 x3) h (fun τ hM h1 h6 hc => q_coheir h.1.1 h.2.1.1 hM x1 x2 x3)
theorem hr_tenures (h : hr_LV σ) (x1 : Int) : hr_LC (fun τ => f_X10_tenures τ x1) (fun τ => f_X11_tenures τ x1) σ := by
  obtain ⟨S, A, n, m, e, B, s, h⟩ := h
  exact hr_q (f := fun τ => f_X10_tenures τ x1) (g := fun τ => f_X11_tenures τ x1) h (fun τ hM h1 h6 hc => q_tenures h.1.1 h.2.1.1 hM x1)
theorem hr_tenure (h : hr_LV σ) (x1 x2 x3 : Int) : hr_LC (fun τ => f_X10_tenure τ x1 x2 x3) (fun τ => f_X11_tenure τ x1 x2 x3) σ := by
  obtain ⟨S, A, n, m, e, B, s, h⟩ := h
  exact hr_q (f := fun τ => f_X10_tenure τ x1 x2 x3) (g := fun τ => f_X11_tenure τ x1 x2 x3) h (fun τ hM h1 h6 hc => q_tenure h.1.1 h.2.1.1 hM x1 x2 x3)
theorem hr_holds (h : hr_LV σ) (x1 x2 x3 : Int) : hr_LC (fun τ => f_X10_holds τ x1 x2 x3) (fun τ => f_X11_holds τ x1 x2 x3) σ := by
  obtain ⟨S, A, n, m, e, B, s, h⟩ := h
  exact hr_q (f := fun τ => f_X10_holds τ x1 x2 x3) (g := fun τ => f_X11_holds τ x1 x2 x3) h (fun τ hM h1 h6 hc => q_holds h.1.1 h.2.1.1 hM x1 x2 x3)
theorem hr_status (h : hr_LV σ) : hr_LC (fun τ => f_X10_status τ) (fun τ => f_X11_status τ) σ := by
  obtain ⟨S, A, n, m, e, B, s, h⟩ := h
  exact ⟨σ, σ, _, rfl, congrArg (fun v => some (σ, v)) h.2.2.2.1.1.symm, ⟨S, A, n, m, e, B, s, h⟩, Nat.le_succ _⟩
theorem hr_call {f g k : xm_Mem → Option xm_Out} (h : hr_LC f g σ) (hk : ∀ σ', hr_LV σ' → σ'.2.2 ≤ σ.2.2 + 1 → ∃ o, k σ' = some o) : ∃ o, (f σ).bind (fun o1 => (g o1.1).bind (fun o2 => if o1.2 = o2.2 then k o2.1 else none)) = some o := by
  obtain ⟨σ1, σ2, a, a1, a2, a3, a4⟩ := h
  obtain ⟨o, ho⟩ := hk σ2 a3 a4
  refine ⟨o, ?_⟩
  rw [a1, Option.bind_some]
  show (g σ1).bind (fun o2 => if a = o2.2 then k o2.1 else none) = some o
  rw [a2, Option.bind_some]
  show (if a = a then k σ2 else none) = some o
  rw [if_pos rfl]
  exact ho
section XM
variable {N : Nat} {xs : Nat → Int32} {self : xm_Mem → Int → Option xm_Out} {x3 : Int}
theorem hr_fl0 (h : hr_LV σ) (g1 : 0 ≤ (xm_w (x3 + (1 : Int))) ∧ (xm_w (x3 + (1 : Int))) < (N : Int)) (g2 : 0 ≤ (xm_w (x3 + (2 : Int))) ∧ (xm_w (x3 + (2 : Int))) < (N : Int)) (g3 : 0 ≤ (xm_w (x3 + (3 : Int))) ∧ (xm_w (x3 + (3 : Int))) < (N : Int)) (g4 : 0 ≤ (xm_w (x3 + (4 : Int))) ∧ (xm_w (x3 + (4 : Int))) < (N : Int)) (g5 : 0 ≤ (xm_w (x3 + (5 : Int))) ∧ (xm_w (x3 + (5 : Int))) < (N : Int)) (hk : ∀ σ', hr_LV σ' → σ'.2.2 ≤ σ.2.2 + 1 → ∃ o, self σ' (xm_w (x3 + 6)) = some o) : ∃ o, fl_0 N xs self σ x3 = some o := by
  unfold fl_0
  simp only [if_pos g1, if_pos g2, if_pos g3, if_pos g4, if_pos g5]
  exact hr_call (f := fun τ => f_X10_feed τ ((xs (xm_w (x3 + (1 : Int))).toNat).toInt) ((xs (xm_w (x3 + (2 : Int))).toNat).toInt) ((xs (xm_w (x3 + (3 : Int))).toNat).toInt) ((xs (xm_w (x3 + (4 : Int))).toNat).toInt) ((xs (xm_w (x3 + (5 : Int))).toNat).toInt)) (g := fun τ => f_X11_feed τ ((xs (xm_w (x3 + (1 : Int))).toNat).toInt) ((xs (xm_w (x3 + (2 : Int))).toNat).toInt) ((xs (xm_w (x3 + (3 : Int))).toNat).toInt) ((xs (xm_w (x3 + (4 : Int))).toNat).toInt) ((xs (xm_w (x3 + (5 : Int))).toNat).toInt)) (k := fun τ => self τ (xm_w (x3 + 6))) (hr_feed h ((xs (xm_w (x3 + (1 : Int))).toNat).toInt) ((xs (xm_w (x3 + (2 : Int))).toNat).toInt) ((xs (xm_w (x3 + (3 : Int))).toNat).toInt) ((xs (xm_w (x3 + (4 : Int))).toNat).toInt) ((xs (xm_w (x3 + (5 : Int))).toNat).toInt)) hk
theorem hr_fl1 (h : hr_LV σ) (g1 : 0 ≤ (xm_w (x3 + (1 : Int))) ∧ (xm_w (x3 + (1 : Int))) < (N : Int)) (hk : ∀ σ', hr_LV σ' → σ'.2.2 ≤ σ.2.2 + 1 → ∃ o, self σ' (xm_w (x3 + 6)) = some o) : ∃ o, fl_1 N xs self σ x3 = some o := by
  unfold fl_1
  simp only [if_pos g1]
  exact hr_call (f := fun τ => f_X10_end τ ((xs (xm_w (x3 + (1 : Int))).toNat).toInt)) (g := fun τ => f_X11_end τ ((xs (xm_w (x3 + (1 : Int))).toNat).toInt)) (k := fun τ => self τ (xm_w (x3 + 6))) (hr_end h ((xs (xm_w (x3 + (1 : Int))).toNat).toInt)) hk
theorem hr_fl2 (hc : σ.2.2 < 100000) (h : hr_LV σ) (hk : ∀ σ', hr_LV σ' → σ'.2.2 ≤ σ.2.2 + 1 → ∃ o, self σ' (xm_w (x3 + 6)) = some o) : ∃ o, fl_2 N xs self σ x3 = some o := by
  unfold fl_2
  exact hr_call (f := fun τ => f_X10_record τ) (g := fun τ => f_X11_record τ) (k := fun τ => self τ (xm_w (x3 + 6))) (hr_record h hc) hk
theorem hr_fl3 (h : hr_LV σ) (hk : ∀ σ', hr_LV σ' → σ'.2.2 ≤ σ.2.2 + 1 → ∃ o, self σ' (xm_w (x3 + 6)) = some o) : ∃ o, fl_3 N xs self σ x3 = some o := by
  unfold fl_3
  exact hr_call (f := fun τ => f_X10_place τ) (g := fun τ => f_X11_place τ) (k := fun τ => self τ (xm_w (x3 + 6))) (hr_place h) hk
theorem hr_fl4 (h : hr_LV σ) (hk : ∀ σ', hr_LV σ' → σ'.2.2 ≤ σ.2.2 + 1 → ∃ o, self σ' (xm_w (x3 + 6)) = some o) : ∃ o, fl_4 N xs self σ x3 = some o := by
  unfold fl_4
  exact hr_call (f := fun τ => f_X10_bond τ) (g := fun τ => f_X11_bond τ) (k := fun τ => self τ (xm_w (x3 + 6))) (hr_bond h) hk
theorem hr_fl5 (h : hr_LV σ) (g1 : 0 ≤ (xm_w (x3 + (1 : Int))) ∧ (xm_w (x3 + (1 : Int))) < (N : Int)) (hk : ∀ σ', hr_LV σ' → σ'.2.2 ≤ σ.2.2 + 1 → ∃ o, self σ' (xm_w (x3 + 6)) = some o) : ∃ o, fl_5 N xs self σ x3 = some o := by
  unfold fl_5
  simp only [if_pos g1]
  exact hr_call (f := fun τ => f_X10_strike τ ((xs (xm_w (x3 + (1 : Int))).toNat).toInt)) (g := fun τ => f_X11_strike τ ((xs (xm_w (x3 + (1 : Int))).toNat).toInt)) (k := fun τ => self τ (xm_w (x3 + 6))) (hr_strike h ((xs (xm_w (x3 + (1 : Int))).toNat).toInt)) hk
theorem hr_fl6 (h : hr_LV σ) (g1 : 0 ≤ (xm_w (x3 + (1 : Int))) ∧ (xm_w (x3 + (1 : Int))) < (N : Int)) (hk : ∀ σ', hr_LV σ' → σ'.2.2 ≤ σ.2.2 + 1 → ∃ o, self σ' (xm_w (x3 + 6)) = some o) : ∃ o, fl_6 N xs self σ x3 = some o := by
  unfold fl_6
  simp only [if_pos g1]
  exact hr_call (f := fun τ => f_X10_count τ ((xs (xm_w (x3 + (1 : Int))).toNat).toInt)) (g := fun τ => f_X11_count τ ((xs (xm_w (x3 + (1 : Int))).toNat).toInt)) (k := fun τ => self τ (xm_w (x3 + 6))) (hr_count h ((xs (xm_w (x3 + (1 : Int))).toNat).toInt)) hk
theorem hr_fl7 (h : hr_LV σ) (g1 : 0 ≤ (xm_w (x3 + (1 : Int))) ∧ (xm_w (x3 + (1 : Int))) < (N : Int)) (g2 : 0 ≤ (xm_w (x3 + (2 : Int))) ∧ (xm_w (x3 + (2 : Int))) < (N : Int)) (hk : ∀ σ', hr_LV σ' → σ'.2.2 ≤ σ.2.2 + 1 → ∃ o, self σ' (xm_w (x3 + 6)) = some o) : ∃ o, fl_7 N xs self σ x3 = some o := by
  unfold fl_7
  simp only [if_pos g1, if_pos g2]
  exact hr_call (f := fun τ => f_X10_fact τ ((xs (xm_w (x3 + (1 : Int))).toNat).toInt) ((xs (xm_w (x3 + (2 : Int))).toNat).toInt)) (g := fun τ => f_X11_fact τ ((xs (xm_w (x3 + (1 : Int))).toNat).toInt) ((xs (xm_w (x3 + (2 : Int))).toNat).toInt)) (k := fun τ => self τ (xm_w (x3 + 6))) (hr_fact h ((xs (xm_w (x3 + (1 : Int))).toNat).toInt) ((xs (xm_w (x3 + (2 : Int))).toNat).toInt)) hk
theorem hr_fl8 (h : hr_LV σ) (g1 : 0 ≤ (xm_w (x3 + (1 : Int))) ∧ (xm_w (x3 + (1 : Int))) < (N : Int)) (g2 : 0 ≤ (xm_w (x3 + (2 : Int))) ∧ (xm_w (x3 + (2 : Int))) < (N : Int)) (hk : ∀ σ', hr_LV σ' → σ'.2.2 ≤ σ.2.2 + 1 → ∃ o, self σ' (xm_w (x3 + 6)) = some o) : ∃ o, fl_8 N xs self σ x3 = some o := by
  unfold fl_8
  simp only [if_pos g1, if_pos g2]
  exact hr_call (f := fun τ => f_X10_person τ ((xs (xm_w (x3 + (1 : Int))).toNat).toInt) ((xs (xm_w (x3 + (2 : Int))).toNat).toInt)) (g := fun τ => f_X11_person τ ((xs (xm_w (x3 + (1 : Int))).toNat).toInt) ((xs (xm_w (x3 + (2 : Int))).toNat).toInt)) (k := fun τ => self τ (xm_w (x3 + 6))) (hr_person h ((xs (xm_w (x3 + (1 : Int))).toNat).toInt) ((xs (xm_w (x3 + (2 : Int))).toNat).toInt)) hk
theorem hr_fl9 (h : hr_LV σ) (g1 : 0 ≤ (xm_w (x3 + (1 : Int))) ∧ (xm_w (x3 + (1 : Int))) < (N : Int)) (g2 : 0 ≤ (xm_w (x3 + (2 : Int))) ∧ (xm_w (x3 + (2 : Int))) < (N : Int)) (hk : ∀ σ', hr_LV σ' → σ'.2.2 ≤ σ.2.2 + 1 → ∃ o, self σ' (xm_w (x3 + 6)) = some o) : ∃ o, fl_9 N xs self σ x3 = some o := by
  unfold fl_9
  simp only [if_pos g1, if_pos g2]
  exact hr_call (f := fun τ => f_X10_partner τ ((xs (xm_w (x3 + (1 : Int))).toNat).toInt) ((xs (xm_w (x3 + (2 : Int))).toNat).toInt)) (g := fun τ => f_X11_partner τ ((xs (xm_w (x3 + (1 : Int))).toNat).toInt) ((xs (xm_w (x3 + (2 : Int))).toNat).toInt)) (k := fun τ => self τ (xm_w (x3 + 6))) (hr_partner h ((xs (xm_w (x3 + (1 : Int))).toNat).toInt) ((xs (xm_w (x3 + (2 : Int))).toNat).toInt)) hk
theorem hr_fl10 (h : hr_LV σ) (g1 : 0 ≤ (xm_w (x3 + (1 : Int))) ∧ (xm_w (x3 + (1 : Int))) < (N : Int)) (g2 : 0 ≤ (xm_w (x3 + (2 : Int))) ∧ (xm_w (x3 + (2 : Int))) < (N : Int)) (hk : ∀ σ', hr_LV σ' → σ'.2.2 ≤ σ.2.2 + 1 → ∃ o, self σ' (xm_w (x3 + 6)) = some o) : ∃ o, fl_10 N xs self σ x3 = some o := by
  unfold fl_10
  simp only [if_pos g1, if_pos g2]
  exact hr_call (f := fun τ => f_X10_kin τ ((xs (xm_w (x3 + (1 : Int))).toNat).toInt) ((xs (xm_w (x3 + (2 : Int))).toNat).toInt)) (g := fun τ => f_X11_kin τ ((xs (xm_w (x3 + (1 : Int))).toNat).toInt) ((xs (xm_w (x3 + (2 : Int))).toNat).toInt)) (k := fun τ => self τ (xm_w (x3 + 6))) (hr_kin h ((xs (xm_w (x3 + (1 : Int))).toNat).toInt) ((xs (xm_w (x3 + (2 : Int))).toNat).toInt)) hk
theorem hr_fl11 (h : hr_LV σ) (g1 : 0 ≤ (xm_w (x3 + (1 : Int))) ∧ (xm_w (x3 + (1 : Int))) < (N : Int)) (g2 : 0 ≤ (xm_w (x3 + (2 : Int))) ∧ (xm_w (x3 + (2 : Int))) < (N : Int)) (hk : ∀ σ', hr_LV σ' → σ'.2.2 ≤ σ.2.2 + 1 → ∃ o, self σ' (xm_w (x3 + 6)) = some o) : ∃ o, fl_11 N xs self σ x3 = some o := by
  unfold fl_11
  simp only [if_pos g1, if_pos g2]
  exact hr_call (f := fun τ => f_X10_holder τ ((xs (xm_w (x3 + (1 : Int))).toNat).toInt) ((xs (xm_w (x3 + (2 : Int))).toNat).toInt)) (g := fun τ => f_X11_holder τ ((xs (xm_w (x3 + (1 : Int))).toNat).toInt) ((xs (xm_w (x3 + (2 : Int))).toNat).toInt)) (k := fun τ => self τ (xm_w (x3 + 6))) (hr_holder h ((xs (xm_w (x3 + (1 : Int))).toNat).toInt) ((xs (xm_w (x3 + (2 : Int))).toNat).toInt)) hk
theorem hr_fl12 (h : hr_LV σ) (g1 : 0 ≤ (xm_w (x3 + (1 : Int))) ∧ (xm_w (x3 + (1 : Int))) < (N : Int)) (g2 : 0 ≤ (xm_w (x3 + (2 : Int))) ∧ (xm_w (x3 + (2 : Int))) < (N : Int)) (hk : ∀ σ', hr_LV σ' → σ'.2.2 ≤ σ.2.2 + 1 → ∃ o, self σ' (xm_w (x3 + 6)) = some o) : ∃ o, fl_12 N xs self σ x3 = some o := by
  unfold fl_12
  simp only [if_pos g1, if_pos g2]
  exact hr_call (f := fun τ => f_X10_since τ ((xs (xm_w (x3 + (1 : Int))).toNat).toInt) ((xs (xm_w (x3 + (2 : Int))).toNat).toInt)) (g := fun τ => f_X11_since τ ((xs (xm_w (x3 + (1 : Int))).toNat).toInt) ((xs (xm_w (x3 + (2 : Int))).toNat).toInt)) (k := fun τ => self τ (xm_w (x3 + 6))) (hr_since h ((xs (xm_w (x3 + (1 : Int))).toNat).toInt) ((xs (xm_w (x3 + (2 : Int))).toNat).toInt)) hk
theorem hr_fl13 (h : hr_LV σ) (g1 : 0 ≤ (xm_w (x3 + (1 : Int))) ∧ (xm_w (x3 + (1 : Int))) < (N : Int)) (g2 : 0 ≤ (xm_w (x3 + (2 : Int))) ∧ (xm_w (x3 + (2 : Int))) < (N : Int)) (g3 : 0 ≤ (xm_w (x3 + (3 : Int))) ∧ (xm_w (x3 + (3 : Int))) < (N : Int)) (hk : ∀ σ', hr_LV σ' → σ'.2.2 ≤ σ.2.2 + 1 → ∃ o, self σ' (xm_w (x3 + 6)) = some o) : ∃ o, fl_13 N xs self σ x3 = some o := by
  unfold fl_13
  simp only [if_pos g1, if_pos g2, if_pos g3]
  exact hr_call (f := fun τ => f_X10_line τ ((xs (xm_w (x3 + (1 : Int))).toNat).toInt) ((xs (xm_w (x3 + (2 : Int))).toNat).toInt) ((xs (xm_w (x3 + (3 : Int))).toNat).toInt)) (g := fun τ => f_X11_line τ ((xs (xm_w (x3 + (1 : Int))).toNat).toInt) ((xs (xm_w (x3 + (2 : Int))).toNat).toInt) ((xs (xm_w (x3 + (3 : Int))).toNat).toInt)) (k := fun τ => self τ (xm_w (x3 + 6))) (hr_line h ((xs (xm_w (x3 + (1 : Int))).toNat).toInt) ((xs (xm_w (x3 + (2 : Int))).toNat).toInt) ((xs (xm_w (x3 + (3 : Int))).toNat).toInt)) hk
theorem hr_fl14 (h : hr_LV σ) (g1 : 0 ≤ (xm_w (x3 + (1 : Int))) ∧ (xm_w (x3 + (1 : Int))) < (N : Int)) (g2 : 0 ≤ (xm_w (x3 + (2 : Int))) ∧ (xm_w (x3 + (2 : Int))) < (N : Int)) (g3 : 0 ≤ (xm_w (x3 + (3 : Int))) ∧ (xm_w (x3 + (3 : Int))) < (N : Int)) (hk : ∀ σ', hr_LV σ' → σ'.2.2 ≤ σ.2.2 + 1 → ∃ o, self σ' (xm_w (x3 + 6)) = some o) : ∃ o, fl_14 N xs self σ x3 = some o := by
  unfold fl_14
  simp only [if_pos g1, if_pos g2, if_pos g3]
  exact hr_call (f := fun τ => f_X10_rank τ ((xs (xm_w (x3 + (1 : Int))).toNat).toInt) ((xs (xm_w (x3 + (2 : Int))).toNat).toInt) ((xs (xm_w (x3 + (3 : Int))).toNat).toInt)) (g := fun τ => f_X11_rank τ ((xs (xm_w (x3 + (1 : Int))).toNat).toInt) ((xs (xm_w (x3 + (2 : Int))).toNat).toInt) ((xs (xm_w (x3 + (3 : Int))).toNat).toInt)) (k := fun τ => self τ (xm_w (x3 + 6))) (hr_rank h ((xs (xm_w (x3 + (1 : Int))).toNat).toInt) ((xs (xm_w (x3 + (2 : Int))).toNat).toInt) ((xs (xm_w (x3 + (3 : Int))).toNat).toInt)) hk
theorem hr_fl15 (h : hr_LV σ) (g1 : 0 ≤ (xm_w (x3 + (1 : Int))) ∧ (xm_w (x3 + (1 : Int))) < (N : Int)) (g2 : 0 ≤ (xm_w (x3 + (2 : Int))) ∧ (xm_w (x3 + (2 : Int))) < (N : Int)) (g3 : 0 ≤ (xm_w (x3 + (3 : Int))) ∧ (xm_w (x3 + (3 : Int))) < (N : Int)) (hk : ∀ σ', hr_LV σ' → σ'.2.2 ≤ σ.2.2 + 1 → ∃ o, self σ' (xm_w (x3 + 6)) = some o) : ∃ o, fl_15 N xs self σ x3 = some o := by
  unfold fl_15
  simp only [if_pos g1, if_pos g2, if_pos g3]
  exact hr_call (f := fun τ => f_X10_coheir τ ((xs (xm_w (x3 + (1 : Int))).toNat).toInt) ((xs (xm_w (x3 + (2 : Int))).toNat).toInt) ((xs (xm_w (x3 + (3 : Int))).toNat).toInt)) (g := fun τ => f_X11_coheir τ ((xs (xm_w (x3 + (1 : Int))).toNat).toInt) ((xs (xm_w (x3 + (2 : Int))).toNat).toInt) ((xs (xm_w (x3 + (3 : Int))).toNat).toInt)) (k := fun τ => self τ (xm_w (x3 + 6))) (hr_coheir h ((xs (xm_w (x3 + (1 : Int))).toNat).toInt) ((xs (xm_w (x3 + (2 : Int))).toNat).toInt) ((xs (xm_w (x3 + (3 : Int))).toNat).toInt)) hk
theorem hr_fl16 (h : hr_LV σ) (g1 : 0 ≤ (xm_w (x3 + (1 : Int))) ∧ (xm_w (x3 + (1 : Int))) < (N : Int)) (hk : ∀ σ', hr_LV σ' → σ'.2.2 ≤ σ.2.2 + 1 → ∃ o, self σ' (xm_w (x3 + 6)) = some o) : ∃ o, fl_16 N xs self σ x3 = some o := by
  unfold fl_16
  simp only [if_pos g1]
  exact hr_call (f := fun τ => f_X10_tenures τ ((xs (xm_w (x3 + (1 : Int))).toNat).toInt)) (g := fun τ => f_X11_tenures τ ((xs (xm_w (x3 + (1 : Int))).toNat).toInt)) (k := fun τ => self τ (xm_w (x3 + 6))) (hr_tenures h ((xs (xm_w (x3 + (1 : Int))).toNat).toInt)) hk
theorem hr_fl17 (h : hr_LV σ) (g1 : 0 ≤ (xm_w (x3 + (1 : Int))) ∧ (xm_w (x3 + (1 : Int))) < (N : Int)) (g2 : 0 ≤ (xm_w (x3 + (2 : Int))) ∧ (xm_w (x3 + (2 : Int))) < (N : Int)) (g3 : 0 ≤ (xm_w (x3 + (3 : Int))) ∧ (xm_w (x3 + (3 : Int))) < (N : Int)) (hk : ∀ σ', hr_LV σ' → σ'.2.2 ≤ σ.2.2 + 1 → ∃ o, self σ' (xm_w (x3 + 6)) = some o) : ∃ o, fl_17 N xs self σ x3 = some o := by
  unfold fl_17
  simp only [if_pos g1, if_pos g2, if_pos g3]
  exact hr_call (f := fun τ => f_X10_tenure τ ((xs (xm_w (x3 + (1 : Int))).toNat).toInt) ((xs (xm_w (x3 + (2 : Int))).toNat).toInt) ((xs (xm_w (x3 + (3 : Int))).toNat).toInt)) (g := fun τ => f_X11_tenure τ ((xs (xm_w (x3 + (1 : Int))).toNat).toInt) ((xs (xm_w (x3 + (2 : Int))).toNat).toInt) ((xs (xm_w (x3 + (3 : Int))).toNat).toInt)) (k := fun τ => self τ (xm_w (x3 + 6))) (hr_tenure h ((xs (xm_w (x3 + (1 : Int))).toNat).toInt) ((xs (xm_w (x3 + (2 : Int))).toNat).toInt) ((xs (xm_w (x3 + (3 : Int))).toNat).toInt)) hk
theorem hr_fl18 (h : hr_LV σ) (g1 : 0 ≤ (xm_w (x3 + (1 : Int))) ∧ (xm_w (x3 + (1 : Int))) < (N : Int)) (g2 : 0 ≤ (xm_w (x3 + (2 : Int))) ∧ (xm_w (x3 + (2 : Int))) < (N : Int)) (g3 : 0 ≤ (xm_w (x3 + (3 : Int))) ∧ (xm_w (x3 + (3 : Int))) < (N : Int)) (hk : ∀ σ', hr_LV σ' → σ'.2.2 ≤ σ.2.2 + 1 → ∃ o, self σ' (xm_w (x3 + 6)) = some o) : ∃ o, fl_18 N xs self σ x3 = some o := by
  unfold fl_18
  simp only [if_pos g1, if_pos g2, if_pos g3]
  exact hr_call (f := fun τ => f_X10_holds τ ((xs (xm_w (x3 + (1 : Int))).toNat).toInt) ((xs (xm_w (x3 + (2 : Int))).toNat).toInt) ((xs (xm_w (x3 + (3 : Int))).toNat).toInt)) (g := fun τ => f_X11_holds τ ((xs (xm_w (x3 + (1 : Int))).toNat).toInt) ((xs (xm_w (x3 + (2 : Int))).toNat).toInt) ((xs (xm_w (x3 + (3 : Int))).toNat).toInt)) (k := fun τ => self τ (xm_w (x3 + 6))) (hr_holds h ((xs (xm_w (x3 + (1 : Int))).toNat).toInt) ((xs (xm_w (x3 + (2 : Int))).toNat).toInt) ((xs (xm_w (x3 + (3 : Int))).toNat).toInt)) hk
theorem hr_fl19 (h : hr_LV σ) (hk : ∀ σ', hr_LV σ' → σ'.2.2 ≤ σ.2.2 + 1 → ∃ o, self σ' (xm_w (x3 + 6)) = some o) : ∃ o, fl_19 N xs self σ x3 = some o := by
  unfold fl_19
  exact hr_call (f := fun τ => f_X10_status τ) (g := fun τ => f_X11_status τ) (k := fun τ => self τ (xm_w (x3 + 6))) (hr_status h) hk
theorem hr_sw (h : hr_LV σ) (hc : σ.2.2 < 100000) (g1 : 0 ≤ (xm_w (x3 + (1 : Int))) ∧ (xm_w (x3 + (1 : Int))) < (N : Int)) (g2 : 0 ≤ (xm_w (x3 + (2 : Int))) ∧ (xm_w (x3 + (2 : Int))) < (N : Int)) (g3 : 0 ≤ (xm_w (x3 + (3 : Int))) ∧ (xm_w (x3 + (3 : Int))) < (N : Int)) (g4 : 0 ≤ (xm_w (x3 + (4 : Int))) ∧ (xm_w (x3 + (4 : Int))) < (N : Int)) (g5 : 0 ≤ (xm_w (x3 + (5 : Int))) ∧ (xm_w (x3 + (5 : Int))) < (N : Int)) (hk : ∀ σ', hr_LV σ' → σ'.2.2 ≤ σ.2.2 + 1 → ∃ o, self σ' (xm_w (x3 + 6)) = some o) (v : Int) : ∃ o, fl_sw N xs self σ x3 v = some o := by
  unfold fl_sw
  by_cases c0 : v = 0
  · rw [if_pos c0]; exact hr_fl0 h g1 g2 g3 g4 g5 hk
  rw [if_neg c0]
  by_cases c1 : v = 1
  · rw [if_pos c1]; exact hr_fl1 h g1 hk
  rw [if_neg c1]
  by_cases c2 : v = 2
  · rw [if_pos c2]; exact hr_fl2 hc h hk
  rw [if_neg c2]
  by_cases c3 : v = 3
  · rw [if_pos c3]; exact hr_fl3 h hk
  rw [if_neg c3]
  by_cases c4 : v = 4
  · rw [if_pos c4]; exact hr_fl4 h hk
  rw [if_neg c4]
  by_cases c5 : v = 5
  · rw [if_pos c5]; exact hr_fl5 h g1 hk
  rw [if_neg c5]
  by_cases c6 : v = 6
  · rw [if_pos c6]; exact hr_fl6 h g1 hk
  rw [if_neg c6]
  by_cases c7 : v = 7
  · rw [if_pos c7]; exact hr_fl7 h g1 g2 hk
  rw [if_neg c7]
  by_cases c8 : v = 8
  · rw [if_pos c8]; exact hr_fl8 h g1 g2 hk
  rw [if_neg c8]
  by_cases c9 : v = 9
  · rw [if_pos c9]; exact hr_fl9 h g1 g2 hk
  rw [if_neg c9]
  by_cases c10 : v = 10
  · rw [if_pos c10]; exact hr_fl10 h g1 g2 hk
  rw [if_neg c10]
  by_cases c11 : v = 11
  · rw [if_pos c11]; exact hr_fl11 h g1 g2 hk
  rw [if_neg c11]
  by_cases c12 : v = 12
  · rw [if_pos c12]; exact hr_fl12 h g1 g2 hk
  rw [if_neg c12]
  by_cases c13 : v = 13
  · rw [if_pos c13]; exact hr_fl13 h g1 g2 g3 hk
  rw [if_neg c13]
  by_cases c14 : v = 14
  · rw [if_pos c14]; exact hr_fl14 h g1 g2 g3 hk
  rw [if_neg c14]
  by_cases c15 : v = 15
  · rw [if_pos c15]; exact hr_fl15 h g1 g2 g3 hk
  rw [if_neg c15]
  by_cases c16 : v = 16
  · rw [if_pos c16]; exact hr_fl16 h g1 hk
  rw [if_neg c16]
  by_cases c17 : v = 17
  · rw [if_pos c17]; exact hr_fl17 h g1 g2 g3 hk
  rw [if_neg c17]
  by_cases c18 : v = 18
  · rw [if_pos c18]; exact hr_fl18 h g1 g2 g3 hk
  rw [if_neg c18]
  by_cases c19 : v = 19
  · rw [if_pos c19]; exact hr_fl19 h hk
  rw [if_neg c19]
  exact hk σ h (Nat.le_succ _)
end XM
theorem hr_law {N : Nat} {xs : Nat → Int32} (hN : N ≤ 3072) (h : hr_LV σ) (hc : σ.2.2 = 110) (n : Nat) (hn : 600 < n) : ∃ o, f_law N xs n σ 0 = some o := by
  unfold f_law
  refine it_T (γ := xm_Mem × Nat × Int) _ _ (fun (g : xm_Mem → Int → Option xm_Out) x => g x.1 x.2.2) (fun x => hr_LV x.1 ∧ x.1.2.2 ≤ 110 + x.2.1 ∧ x.2.1 ≤ 512 ∧ x.2.2 = 6 * (x.2.1 : Int)) (fun x => 600 - x.2.1) (fun z => ∃ o, z = some o) ?_ n (σ, 0, 0) ⟨h, by show σ.2.2 ≤ 110 + 0; omega, Nat.zero_le _, rfl⟩ (by show 600 - 0 < n; omega)
  rintro self ⟨σ0, i, x3⟩ ⟨h1, h2, h3, h4⟩ ih
  replace h1 : hr_LV σ0 := h1
  replace h2 : σ0.2.2 ≤ 110 + i := h2
  replace h3 : i ≤ 512 := h3
  replace h4 : x3 = 6 * (i : Int) := h4
  show ∃ o, fl_b N xs self σ0 x3 = some o
  unfold fl_b
  have e6 : xm_w ((N : Int) - 6) = (N : Int) - 6 := xp_w (by omega) (by omega)
  have w : ∀ j : Int, 0 ≤ j → j ≤ 6 → xm_w (x3 + j) = x3 + j := fun j a b => xp_w (by omega) (by omega)
  rw [e6]
  by_cases c : (N : Int) - 6 < x3
  · rw [if_pos c]; exact ⟨_, rfl⟩
  · rw [if_neg c, if_pos ⟨by omega, by omega⟩, xvl]
    refine hr_sw h1 (by omega) ⟨by rw [w 1 (by omega) (by omega)]; omega, by rw [w 1 (by omega) (by omega)]; omega⟩ ⟨by rw [w 2 (by omega) (by omega)]; omega, by rw [w 2 (by omega) (by omega)]; omega⟩ ⟨by rw [w 3 (by omega) (by omega)]; omega, by rw [w 3 (by omega) (by omega)]; omega⟩ ⟨by rw [w 4 (by omega) (by omega)]; omega, by rw [w 4 (by omega) (by omega)]; omega⟩ ⟨by rw [w 5 (by omega) (by omega)]; omega, by rw [w 5 (by omega) (by omega)]; omega⟩ (fun σ' k1 k2 => ?_) _
    rw [w 6 (by omega) (by omega)]
    exact ih (σ', i + 1, x3 + 6) ⟨k1, by show σ'.2.2 ≤ 110 + (i + 1); omega, by show i + 1 ≤ 512; omega, by show x3 + 6 = 6 * ((i + 1 : Nat) : Int); omega⟩ (by show 600 - (i + 1) < 600 - i; omega)
end XL
