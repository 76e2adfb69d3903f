/-! ===== the law's end: the line told, the holders' deaths ===== -/
def Sm (r : Option xm_Out) : Prop := ∃ o, r = some o
theorem sm_b {r : Option xm_Out} {o : xm_Out} {f : xm_Out → Option xm_Out} (h : r = some o) (k : Sm (f o)) : Sm (r.bind f) := by rw [h]; exact k
theorem sm_if {c : Prop} {i : Decidable c} {a b : Option xm_Out} (hc : c) (k : Sm a) : Sm (@ite _ c i a b) := by rw [if_pos hc]; exact k
theorem sm_no {c : Prop} {i : Decidable c} {a b : Option xm_Out} (hc : ¬ c) (k : Sm b) : Sm (@ite _ c i a b) := by rw [if_neg hc]; exact k
section XE1
variable {S : xS} {A : Nat → Nat} {n : Nat} {m : Nat → Int64} {e : Nat → Nat} {fr ρ : Int} {σ : xm_Mem}
theorem nd_wit {ko : Nat → List Nat} : ∀ (N : Nat) (x : xW), x.2.Nodup → (wit ko N x).2.Nodup := by
  intro N
  induction N with
  | zero => intro x h; exact h
  | succ N ih =>
    intro x h
    show (wit ko N (wst ko x)).2.Nodup
    refine ih _ ?_
    obtain ⟨st, acc⟩ := x
    cases st with
    | nil => exact h
    | cons q st =>
      by_cases hq : q ∈ acc
      · rw [wst_in hq]; exact h
      · rw [wst_out hq]
        show (acc ++ [q]).Nodup
        refine List.nodup_append.mpr ⟨h, List.nodup_cons.mpr ⟨List.not_mem_nil, List.nodup_nil⟩, fun a ha b hb => ?_⟩
        rw [List.mem_singleton.mp hb]
        exact fun z => hq (z ▸ ha)
theorem nd_pre (hA : AGE S A n) : ∀ k, k ≤ n → (pre A k).Nodup := by
  intro k
  induction k with
  | zero => intro _; exact List.nodup_nil
  | succ k ih =>
    intro hk
    rw [pre_s]
    refine List.nodup_append.mpr ⟨ih (by omega), List.nodup_cons.mpr ⟨List.not_mem_nil, List.nodup_nil⟩, fun a ha b hb => ?_⟩
    rw [List.mem_singleton.mp hb]
    obtain ⟨i, hi, rfl⟩ := pre_mem.mp ha
    intro z
    have := hA.inj (by omega) (by omega) z
    omega
theorem nd_ord (hA : AGE S A n) (rule : Int) (root : Nat) : (ord S A n rule root).Nodup := by
  unfold ord
  split
  · unfold ordN
    have key : ∀ N, (nlist (ringN S A n root) N).Nodup := by
      intro N
      induction N with
      | zero => exact List.nodup_nil
      | succ N ih =>
        show (nlist (ringN S A n root) N ++ ringN S A n root N).Nodup
        refine List.nodup_append.mpr ⟨ih, List.Pairwise.filter _ (nd_pre hA n (Nat.le_refl _)), fun a ha b hb z => ?_⟩
        subst z
        obtain ⟨d, hd, hm⟩ := (nlist_mem N).mp ha
        unfold ringN at hm hb
        have e1 := dc_t.mp (List.mem_filter.mp hm).2
        have e2 := dc_t.mp (List.mem_filter.mp hb).2
        rw [e1] at e2
        omega
    exact key 64
  · show (wit (koL S A n rule) 129 ([root], [])).2.Nodup
    exact nd_wit 129 ([root], []) List.nodup_nil
theorem nd_line (hA : AGE S A n) (t : Nat) (d : Int) (root : Nat) : (line S A n t d root).Nodup := List.Pairwise.filter _ (nd_ord hA _ _)
theorem cn_lt {P : Nat → Prop} {N : Nat} (h : ∀ q, P q → q < N) : ∀ k, cn P k ≤ N := by
  have key : ∀ k, cn P k ≤ k ∧ cn P k ≤ N := by
    intro k
    induction k with
    | zero => exact ⟨Nat.le_refl _, Nat.zero_le _⟩
    | succ k ih =>
      by_cases hp : P k
      · have := h k hp
        rw [cn_yes hp]
        omega
      · rw [cn_no hp]; omega
  exact fun k => (key k).2
theorem line_sp (hF : FM S) (hA : AGE S A n) {t : Nat} {d : Int} {root : Nat} (hr : isP S (root : Int)) : (line S A n t d root).length ≤ sp S := by
  have h := ord_ok hF.1 hA (rule := rl S t) hr
  refine Nat.le_trans (cntL_len _ _ _ _) ?_
  rw [← h.1.1]
  refine cn_lt (fun q hq => ?_) 64
  have := (h.2 q hq).2.1
  omega
theorem plc_at {L : List Nat} (h : L.Nodup) {k : Nat} (hk : k < L.length) : plc L ((L.getD k 0 : Nat) : Int) = (k : Int) := by
  have e : fsx (fun j => ((L.getD j 0 : Nat) : Int) = ((L.getD k 0 : Nat) : Int)) L.length = k := by
    refine fsx_eq (Nat.le_of_lt hk) (fun r hr z => ?_) (fun _ => rfl)
    have z' : L.getD r 0 = L.getD k 0 := by omega
    rw [List.getD_eq_getElem?_getD, List.getD_eq_getElem?_getD, List.getElem?_eq_getElem (by omega), List.getElem?_eq_getElem hk] at z'
    have z2 : L[r] = L[k] := z'
    exact List.pairwise_iff_getElem.mp h r k (by omega) hk hr z2
  unfold plc
  rw [e, if_pos hk]
/-- without the one at a place -/
theorem del_at {L : List Nat} (h : L.Nodup) {k : Nat} (hk : k < L.length) : (L.filter (fun q => dc (((q : Nat) : Int) ≠ ((L.getD k 0 : Nat) : Int)))).length = L.length - 1 ∧ ∀ j, (L.filter (fun q => dc (((q : Nat) : Int) ≠ ((L.getD k 0 : Nat) : Int)))).getD j 0 = if j < k then L.getD j 0 else L.getD (j + 1) 0 := by
  induction L generalizing k with
  | nil => exact absurd hk (Nat.not_lt_zero _)
  | cons a l ih =>
    have hn := List.nodup_cons.mp h
    cases k with
    | zero =>
      have e1 : l.filter (fun q => dc (((q : Nat) : Int) ≠ (((a :: l).getD 0 0 : Nat) : Int))) = l := by
        refine List.filter_eq_self.mpr (fun q hq => dc_y (fun z => ?_))
        have z' : ((q : Nat) : Int) = ((a : Nat) : Int) := z
        have : q = a := by omega
        exact hn.1 (this ▸ hq)
      rw [List.filter_cons_of_neg (a := a) (p := fun q => dc (((q : Nat) : Int) ≠ (((a :: l).getD 0 0 : Nat) : Int))) (fun z => (dc_t.mp z) rfl), e1]
      exact ⟨rfl, fun j => by rw [if_neg (Nat.not_lt_zero _)]; rfl⟩
    | succ k =>
      have hk' : k < l.length := by have : k + 1 < l.length + 1 := hk; omega
      have hin := getD_in hk'
      obtain ⟨i1, i2⟩ := ih hn.2 hk'
      have e0 : (a :: l).getD (k + 1) 0 = l.getD k 0 := rfl
      rw [e0, List.filter_cons_of_pos (a := a) (p := fun q => dc (((q : Nat) : Int) ≠ ((l.getD k 0 : Nat) : Int))) (dc_y (fun z => by
        have : a = l.getD k 0 := by omega
        exact hn.1 (this ▸ hin)))]
      refine ⟨by show (l.filter _).length + 1 = l.length + 1 - 1; rw [i1]; omega, fun j => ?_⟩
      cases j with
      | zero => rw [if_pos (by omega)]; rfl
      | succ j =>
        show (l.filter _).getD j 0 = _
        rw [i2 j]
        by_cases hj : j < k
        · rw [if_pos hj, if_pos (by omega)]; rfl
        · rw [if_neg hj, if_neg (by omega)]; rfl
theorem hold_fr (h : TW S fr ρ) (hA : AGE S A n) : holdA S A n m 0 fr ≠ -4 ∧ tenK S A n m 0 0 = 0 ∧ 0 < NS S A n m 0 ∧ (stp S A n m 0 0).2.2.2 = fr := by
  obtain ⟨n1, n2, n3, n4⟩ := NS_ok (A := A) (n := n) (m := m) h.1.1 (tw_T h)
  have hfr : fr ≤ 99999 := by
    have := (h.1.1.1.day (h.1.1.1.2.2.2 0 (by rw [h.2.1]; decide)).1).2
    have e : wD S (stb S 0) = fr := h.2.2.1.2.1
    omega
  have e0 : (stp S A n m 0 0).1 = fr := by rw [stp_0 h]
  refine ⟨?_, ?_, n4, by rw [stp_0 h]⟩
  · rcases sK_rg S A n m 0 fr with ⟨_, z⟩ | ⟨k, k1, k2, k3, _⟩
    · exact absurd (by rw [e0]; exact Int.le_refl _) (z 0 n4)
    · unfold holdA
      rw [k3, if_neg (by omega), Int.toNat_natCast]
      rcases stp_HL (A := A) (n := n) (m := m) h hA hfr k (n3 k k1) with ⟨z, _⟩ | ⟨z, _⟩ <;> omega
  · unfold tenK
    refine fsx_eq (Nat.zero_le _) (fun r hr => absurd hr (Nat.not_lt_zero _)) (fun _ => ⟨?_, rfl⟩)
    unfold bgn
    rw [stp_0 h]
/-- the last questions -/
theorem fin_ok (hW : LV σ S A n m e) (hT : TW S fr ρ) (h0 : 0 ≤ fr ∧ fr ≤ 99999) {had : Int} (h1 : holdA S A n m 0 99999 = -1) (h2 : holdA S A n m 0 99000 = had) :
    Sm ((f_X10_holder σ (0 : Int) (99999 : Int)).bind (fun o232 => if o232.1.2.2 = σ.2.2 then (if o232.2 = (-1 : Int) then ((f_X10_holder o232.1 (0 : Int) (99000 : Int)).bind (fun o237 => if o237.1.2.2 = o232.1.2.2 then (if o237.2 = had then ((f_X10_holder o237.1 (0 : Int) fr).bind (fun o242 => if o242.1.2.2 = o237.1.2.2 then (if o242.2 = (-4 : Int) then (none) else ((f_X10_tenure o242.1 (0 : Int) (0 : Int) (1 : Int)).bind (fun o247 => if o247.1.2.2 = o242.1.2.2 then (if o247.2 = fr then (some (o247.1, 1)) else (none)) else none))) else none)) else (none)) else none)) else (none)) else none)) := by
  have ht := tw_T hT
  obtain ⟨g1, g2, g3, g4⟩ := hold_fr (m := m) hT hW.1.2.1
  obtain ⟨σ1, a1, a2, a3, a4⟩ := qa_lv hW (k_holder hW.1 hW.2.1 ht (d := 99999) ⟨by decide, by decide⟩)
  refine sm_b a1 (sm_if a4 (sm_if h1 ?_))
  obtain ⟨σ2, b1, b2, b3, b4⟩ := qa_lv a2 (k_holder a2.1 a2.2.1 ht (d := 99000) ⟨by decide, by decide⟩)
  refine sm_b b1 (sm_if b4 (sm_if h2 ?_))
  obtain ⟨σ3, c1, c2, c3, c4⟩ := qa_lv b2 (k_holder b2.1 b2.2.1 ht (d := fr) h0)
  refine sm_b c1 (sm_if c4 (sm_no g1 ?_))
  obtain ⟨σ4, d1, d2, d3, d4⟩ := qa_lv c2 (k_tenure c2.1 c2.2.1 ht (u := 0) (by rw [g2]; exact g3))
  rw [g2, g4] at d1
  exact sm_b d1 (sm_if d4 (sm_if rfl ⟨_, rfl⟩))
end XE1
