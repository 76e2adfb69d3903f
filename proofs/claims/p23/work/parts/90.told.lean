/-! ===== what is told: taken or refused ===== -/
/-- the law's own cells are kept -/
def KP (σ σ1 : xm_Mem) : Prop := ∀ a k, (85 ≤ a ∧ a ≤ 88) ∨ a = 109 ∨ a = 110 → σ1.1 a k = σ.1 a k
theorem KP.rf (σ : xm_Mem) : KP σ σ := fun _ _ _ => rfl
theorem KP.tr {σ σ1 σ2 : xm_Mem} (h : KP σ σ1) (g : KP σ1 σ2) : KP σ σ2 := fun a k z => (g a k z).trans (h a k z)
theorem KP.gx {Z : Nat → Nat → Prop} {σ σ1 : xm_Mem} (g : gx Z σ σ1) (hz : ∀ a k, Z a k → ¬ ((85 ≤ a ∧ a ≤ 88) ∨ a = 109 ∨ a = 110)) : KP σ σ1 := fun a k z => g.1 a k (fun w => hz a k w z)
/-- the law's world between two tells -/
def LV (σ : xm_Mem) (S : xS) (A : Nat → Nat) (n : Nat) (m : Nat → Int64) (e : Nat → Nat) : Prop := PU S A n m ∧ CI σ S A n m e ∧ σ.1 2 1 = 0 ∧ xm_SB σ 89 34 0
section XTO
variable {σ : xm_Mem} {S : xS} {A : Nat → Nat} {n : Nat} {m : Nat → Int64} {e : Nat → Nat} {K D a b c w : Int} {L : List (Nat × Nat)} {u : List (Nat × Nat)}
theorem tx_by : ∀ (u : List (Nat × Nat)), (∀ t ∈ u, tkok t) → ∀ x ∈ txL u, 0 ≤ x ∧ x ≤ 127 := by
  intro u
  induction u with
  | nil => intro _ x hx; cases hx
  | cons t u ih =>
    intro h x hx
    rw [txL_c] at hx
    rcases List.mem_append.mp hx with hx | hx
    · rcases (tk_cls (h t List.mem_cons_self)).2 with ⟨_, z⟩ | ⟨_, z⟩
      · have := z x hx; omega
      · have := z x hx; omega
    · cases u with
      | nil => cases hx
      | cons t' u' =>
        have hx' : x ∈ 32 :: txL (t' :: u') := hx
        rcases List.mem_cons.mp hx' with rfl | hx'
        · decide
        · exact ih (fun q hq => h q (List.mem_cons_of_mem _ hq)) x hx'
theorem tx_pos {t : Nat × Nat} {u : List (Nat × Nat)} (h : tkok t) : 1 ≤ (txL (t :: u)).length := by
  rw [txL_c, List.length_append]
  have := (tk_cls h).1
  omega
/-- the text stands in the builder -/
theorem tl_text (hW : LV σ S A n m e) (hL : ∀ p ∈ L, xm_pOK p) (hu : pcS L = txL u) (hk : ∀ t ∈ u, tkok t) (hn : u ≠ []) (h34 : (txL u).length ≤ 34) (hx : xm_nxt σ) (hc : σ.2.2 < 100000) : ∃ σr, f_L_tell (xm_aps σ 89 0 L) = (f_X10_record σr).bind (fun o2 => some (o2.1, o2.2)) ∧ CI σr S A n m e ∧ TC σr (lB (txL u)) (txL u).length ∧ isB (lB (txL u)) (txL u).length ∧ xm_SB σr 89 34 0 ∧ KP σ σr ∧ σr.2.2 = σ.2.2 ∧ xm_nxt σr := by
  obtain ⟨hU, hC, h21, hS⟩ := hW
  have hpl : xm_plS 0 L = (txL u).length := by rw [pcS_len, hu]; omega
  have hS1 := aps_SB L σ 0 hS hL (by omega)
  rw [hpl] at hS1
  have g1 : gx (fun a k => a = 89 ∨ (a = 84 ∧ k = 3)) σ (xm_aps σ 89 0 L) := ⟨fun a k z => aps_ne (fun y => z (Or.inl y)) (fun y => z (Or.inr y)) L σ 0, fun a k _ => by rw [xm_aps_e], by rw [xm_aps_e]⟩
  have hby : ∀ k, k < (txL u).length → (xm_aps σ 89 0 L).1 89 k = lB (txL u) k := fun k hk => by
    rw [aps_at (by decide) k L σ 0 hL, hpl, if_pos ⟨Nat.zero_le _, hk⟩, hu]
    rfl
  have hr : ∀ k, k < (txL u).length → 0 ≤ lB (txL u) k ∧ lB (txL u) k ≤ 127 := fun k hk' => tx_by u hk _ (lB_mem hk')
  have h1 : 1 ≤ (txL u).length := by
    cases u with
    | nil => exact absurd rfl hn
    | cons t u => exact tx_pos (hk t List.mem_cons_self)
  obtain ⟨σr, r1, r2, r3, r4, r5⟩ := te_pre h1 hS1 hby hr (by rw [g1.1 _ _ (by omega)]; exact h21)
  have hC1 := ci_gx hU.1 hC g1 (fun a k z => by omega)
  have hC2 := ci_gx hU.1 hC1 r2 (fun a k z => by unfold zTe zTp at z; omega)
  have k1 : KP σ (xm_aps σ 89 0 L) := KP.gx g1 (fun a k z => by omega)
  have k2 : KP (xm_aps σ 89 0 L) σr := KP.gx r2 (fun a k z => by unfold zTe zTp at z; omega)
  have k := k1.tr k2
  have e2 : σr.2.2 = σ.2.2 := r2.2.2.trans g1.2.2
  refine ⟨σr, r1, hC2, r3, ⟨by omega, fun k hk' => by have := hr k hk'; omega⟩, r4, k, e2, ?_⟩
  unfold xm_nxt at hx ⊢
  rw [e2, k 109 0 (by omega), k 109 1 (by omega)]
  exact hx
theorem cr_kp {σ1 : xm_Mem} {p b' : Int} (h : CR0 σ σ1 p b') : KP σ σ1 ∧ (xm_SB σ 89 34 0 → xm_SB σ1 89 34 0) := by
  refine ⟨fun a k z => (h.1 a k (by omega) (by omega)).1, fun hS => ⟨by rw [(h.1 84 0 (by decide) (by decide)).1]; exact hS.1, by rw [(h.1 84 1 (by decide) (by decide)).1]; exact hS.2.1, by rw [(h.1 84 3 (by decide) (by decide)).1]; exact hS.2.2.1, hS.2.2.2.1, hS.2.2.2.2.1, by rw [h.2.1]; exact Nat.le_succ_of_le hS.2.2.2.2.2.1, hS.2.2.2.2.2.2⟩⟩
theorem tl_ok (hW : LV σ S A n m e) (hL : ∀ p ∈ L, xm_pOK p) (hu : pcS L = txL u) (hk : ∀ t ∈ u, tkok t) (hn : u ≠ []) (h34 : (txL u).length ≤ 34) (hx : xm_nxt σ) (hc : σ.2.2 < 100000) (hR : Rds (txL u) K D a b c w) (hkw : kwn S K a b c) (hrm : rom S K) (hf : fstB (breaks (adR S K D a b c w)) 9 1 = 0) : ∃ σ1 A' n' m' e', f_L_tell (xm_aps σ 89 0 L) = some (σ1, (sn S : Int)) ∧ LV σ1 (adR S K D a b c w) A' n' m' e' ∧ KP σ σ1 ∧ σ1.2.2 = σ.2.2 + 1 := by
  obtain ⟨σr, r1, r2, r3, r4, r5, r6, r7, r8⟩ := tl_text hW hL hu hk hn h34 hx hc
  obtain ⟨q1, rfl, rfl, rfl, rfl, rfl, rfl⟩ := hR
  obtain ⟨σ1, A', n', m', e', s1, s2, s3, s4, s5⟩ := (c_record hW.1 r2 r4 r3 (by omega) r8).2.2.2.2 q1 hkw hrm hf
  have hc := cr_kp s3
  refine ⟨σ1, A', n', m', e', by rw [r1, s1]; rfl, ⟨s2, s4, s3.2.2.2.2, hc.2 r5⟩, r6.tr hc.1, by rw [s3.2.1, r7]⟩
theorem tl_no (hW : LV σ S A n m e) (hL : ∀ p ∈ L, xm_pOK p) (hu : pcS L = txL u) (hk : ∀ t ∈ u, tkok t) (hn : u ≠ []) (h34 : (txL u).length ≤ 34) (hx : xm_nxt σ) (hc : σ.2.2 < 100000) (hR : Rds (txL u) K D a b c w) (hkw : kwn S K a b c) (hrm : rom S K) (hf : fstB (breaks (adR S K D a b c w)) 9 1 ≠ 0) : ∃ σ1, f_L_tell (xm_aps σ 89 0 L) = some (σ1, -9) ∧ LV σ1 S A n m e ∧ KP σ σ1 ∧ σ1.2.2 = σ.2.2 + 1 ∧ σ1.1 1 8 = 5 ∧ σ1.1 1 10 = (fstB (breaks (adR S K D a b c w)) 9 1 : Int) := by
  obtain ⟨σr, r1, r2, r3, r4, r5, r6, r7, r8⟩ := tl_text hW hL hu hk hn h34 hx hc
  obtain ⟨q1, rfl, rfl, rfl, rfl, rfl, rfl⟩ := hR
  obtain ⟨σ1, s1, s3, s4, s5⟩ := (c_record hW.1 r2 r4 r3 (by omega) r8).2.2.2.1 q1 hkw hrm hf
  have hc := cr_kp s3
  refine ⟨σ1, by rw [r1, s1]; rfl, ⟨hW.1, s4, s3.2.2.2.2, hc.2 r5⟩, r6.tr hc.1, by rw [s3.2.1, r7], s5, s3.2.2.2.1⟩
/-- a question leaves the law's world -/
theorem qa_lv (hW : LV σ S A n m e) {r : Option xm_Out} {x y : Int} (h : QA σ S A n m e r x y) : ∃ σ1, r = some (σ1, x) ∧ LV σ1 S A n m e ∧ KP σ σ1 ∧ σ1.2.2 = σ.2.2 := by
  obtain ⟨σ1, h1, h2, h3, h4⟩ := h
  refine ⟨σ1, h1, ⟨hW.1, h3, by rw [h2.1 _ _ (fun z => by unfold zQ1 zQ at z; omega)]; exact hW.2.2.1, sb_gx hW.2.2.2 h2 (fun k z => by unfold zQ1 zQ at z; omega)⟩, KP.gx h2 (fun a k z => by unfold zQ1 zQ at z; omega), h2.2.2⟩
end XTO
