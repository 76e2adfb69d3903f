/-! ===== the reference's reader ===== -/
theorem u1_id {σ : xm_Mem} {a k : Nat} {v : Int} (h : σ.1 a k = v) : xm_u1 σ a k v = σ := by
  refine mem_ext (fun b j => ?_) rfl
  rw [xu11]
  split
  · rename_i e; rw [e.1, e.2, h]
  · rfl
def TM (τ : xm_Mem) (B : Nat → Int) (s : Nat) : Prop := τ.1 84 1 = (s : Int) ∧ ∀ k, k < s → τ.1 85 k = B k
def frk (Q : Nat → Prop) (σ σ' : xm_Mem) : Prop := (∀ a k, ¬ (a = 84 ∧ Q k) → σ'.1 a k = σ.1 a k) ∧ σ'.2 = σ.2
theorem frk.rf (Q : Nat → Prop) (σ : xm_Mem) : frk Q σ σ := ⟨fun _ _ _ => rfl, rfl⟩
theorem frk.tr {Q : Nat → Prop} {σ σ' σ'' : xm_Mem} (h : frk Q σ σ') (g : frk Q σ' σ'') : frk Q σ σ'' := ⟨fun a k n => (g.1 a k n).trans (h.1 a k n), g.2.trans h.2⟩
theorem frk.mono {P Q : Nat → Prop} {σ σ' : xm_Mem} (h : frk P σ σ') (hi : ∀ k, P k → Q k) : frk Q σ σ' := ⟨fun a k n => h.1 a k (fun z => n ⟨z.1, hi k z.2⟩), h.2⟩
theorem frk.u1 {Q : Nat → Prop} {σ σ' : xm_Mem} (h : frk Q σ σ') {k : Nat} {v : Int} (hk : Q k) : frk Q σ (xm_u1 σ' 84 k v) := by
  refine ⟨fun b j n => ?_, h.2⟩
  rw [xu11, if_neg (fun z : b = 84 ∧ j = k => n ⟨z.1, by rw [z.2]; exact hk⟩)]
  exact h.1 b j n
def qN (k : Nat) : Prop := 39 ≤ k ∧ k ≤ 43
def qR (k : Nat) : Prop := (39 ≤ k ∧ k ≤ 43) ∨ k = 50
def qA (k : Nat) : Prop := 39 ≤ k ∧ k ≤ 50
theorem TM.frk {τ τ' : xm_Mem} {B : Nat → Int} {s : Nat} (h : TM τ B s) (g : frk qA τ τ') : TM τ' B s :=
  ⟨by rw [g.1 84 1 (fun z => by have := z.2; unfold qA at this; omega)]; exact h.1, fun k hk => by rw [g.1 85 k (fun z => by omega)]; exact h.2 k hk⟩
def TK (τ : xm_Mem) (B : Nat → Int) (s p : Nat) : Prop := τ.1 84 41 = (skp B s p : Int) ∧ τ.1 84 39 = (nP B s p : Int) ∧
  (skp B s p = s → τ.1 84 40 = 0) ∧ (skp B s p < s → τ.1 84 42 = (nP B s p : Int) ∧ (isL B (skp B s p) → τ.1 84 40 = 2) ∧ (¬ isL B (skp B s p) → ¬ nok B s p → τ.1 84 40 = 1) ∧ (nok B s p → τ.1 84 40 = 3 ∧ τ.1 84 43 = nV B s p))
section XQ
variable {τ : xm_Mem} {B : Nat → Int} {s p : Nat}
theorem qNA : ∀ k, qN k → qA k := fun k h => ⟨h.1, by have := h.2; omega⟩
theorem qNR : ∀ k, qN k → qR k := fun k h => Or.inl h
theorem qRA : ∀ k, qR k → qA k := fun k h => by unfold qR at h; unfold qA; omega
/-- the reference, as far as it has read -/
def RM (τ : xm_Mem) (B : Nat → Int) (s p : Nat) (w : Int) : Prop := p ≤ s ∧ ((w = -9 ∧ τ.1 84 50 = 1 ∧ TK τ B s p) ∨ (w ≠ -9 ∧ τ.1 84 50 = 0 ∧ τ.1 84 41 = w))
theorem TK.frk {τ τ' : xm_Mem} {Q : Nat → Prop} (h : TK τ B s p) (g : frk Q τ τ') (hq : ∀ k, Q k → 44 ≤ k) : TK τ' B s p := by
  have o : ∀ k, k < 44 → τ'.1 84 k = τ.1 84 k := fun k hk => g.1 84 k (fun z => by have := hq k z.2; omega)
  unfold TK at *
  rw [o 41 (by omega), o 39 (by omega), o 40 (by omega), o 42 (by omega), o 43 (by omega)]
  exact h
theorem RM.frk {τ τ' : xm_Mem} {Q : Nat → Prop} {w : Int} (h : RM τ B s p w) (g : frk Q τ τ') (hq : ∀ k, Q k → 44 ≤ k ∧ k < 50) : RM τ' B s p w := by
  refine ⟨h.1, ?_⟩
  have o : ∀ k, (k < 44 ∨ k = 50) → τ'.1 84 k = τ.1 84 k := fun k hk => g.1 84 k (fun z => by have := hq k z.2; omega)
  rcases h.2 with ⟨h1, h2, h3⟩ | ⟨h1, h2, h3⟩
  · exact Or.inl ⟨h1, by rw [o 50 (by omega)]; exact h2, h3.frk g (fun k hk => (hq k hk).1)⟩
  · exact Or.inr ⟨h1, by rw [o 50 (by omega)]; exact h2, by rw [o 41 (by omega)]; exact h3⟩
/-- finds a fault -/
theorem m_bad (hp : p ≤ s) (hK : TK τ B s p) {w : Int} (hw : w = -9) : frk qR τ (xm_u1 τ 84 50 0) ∧ RM (xm_u1 τ 84 50 0) B s (nP B s p) (fl w (skp B s p)) := by
  refine ⟨(frk.rf _ _).u1 (Or.inr rfl), (nP_rg hp).2, Or.inr ⟨flQ9, by simp [xu11], ?_⟩⟩
  have : fl w (skp B s p) = (skp B s p : Int) := by unfold fl; rw [if_pos hw]
  rw [this]
  simp [xu11, hK.1]
theorem fl_no {w : Int} {a : Nat} (h : w ≠ -9) : fl w a = w := by unfold fl; rw [if_neg h]
theorem nW_no {w : Int} (h : w ≠ -9) : nW B s p w = w := by unfold nW; split; rfl; exact fl_no h
theorem dW_no {v w : Int} (h : w ≠ -9) : dW B s p v w = w := by unfold dW; split; rfl; exact fl_no h
theorem pW_no {w : Int} (h : w ≠ -9) : pW B s p w = w := by unfold pW; split; rfl; exact nW_no h
theorem lW_no {W : Nat → Int} {n : Nat} {w : Int} (h : w ≠ -9) : lW B s p W n w = w := by unfold lW; split; rfl; exact fl_no h
theorem eW_no {w : Int} (h : w ≠ -9) : eW B s p w = w := by unfold eW; split; exact fl_no h; rfl
theorem tlW_no {K w : Int} (h : w ≠ -9) : tlW B s K p w = w := by
  unfold tlW
  simp only [nW_no h, dW_no h, pW_no h, lW_no h, eW_no h, ite_self]
theorem nok_tok (hK : TK τ B s p) (hp : p ≤ s) : (τ.1 84 40 = 3) ↔ nok B s p := by
  constructor
  · intro h
    refine Classical.byContradiction (fun n => ?_)
    by_cases e : skp B s p = s
    · have := hK.2.2.1 e; omega
    · have hl : skp B s p < s := by have := (skp_rg (B := B) hp).2; omega
      have q := hK.2.2.2 hl
      by_cases l : isL B (skp B s p)
      · have := q.2.1 l; omega
      · have := q.2.2.1 l n; omega
  · intro h
    exact ((hK.2.2.2 h.1).2.2.2 h).1
theorem wd_let {v : Int} (hp : p ≤ s) (hv : 0 ≤ v ∧ v < 19) (h : wd B s p v) : skp B s p < s ∧ isL B (skp B s p) ∧ 1 ≤ xm_slen v := by
  have tb : ∀ i, i < 19 → 1 ≤ xm_slen (i : Nat) ∧ 97 ≤ xm_chr (i : Nat) 0 ∧ xm_chr (i : Nat) 0 ≤ 122 := by decide +kernel
  have t := tb v.toNat (by omega)
  rw [show ((v.toNat : Nat) : Int) = v by omega] at t
  have r := nP_rg (B := B) hp
  unfold wd isW at h
  have h0 := h.2 0 (by omega)
  refine ⟨by omega, ?_, t.1⟩
  unfold isL
  rw [show skp B s p + 0 = skp B s p from rfl] at h0
  rw [h0]
  exact t.2
/-- a text that is a row of words -/
def rowOf (v : Int) (n : Nat) (W : Nat → Int) (O : Nat → Nat) : Prop := (0 ≤ v ∧ v < 24) ∧ O 0 = 0 ∧ (O n : Int) = xm_slen v + 1 ∧ ∀ i, i < n → (0 ≤ W i ∧ W i < 19) ∧ (O (i + 1) : Int) = O i + xm_slen (W i) + 1 ∧ (O (i + 1) : Int) ≤ xm_slen v + 1 ∧ ((O (i + 1) : Int) < xm_slen v + 1 → xm_chr v ((O (i + 1) : Int) - 1) = 32) ∧ ∀ j : Nat, (j : Int) < xm_slen (W i) → xm_chr v ((O i + j : Nat) : Int) = xm_chr (W i) (j : Nat) ∧ ¬ xm_chr v ((O i + j : Nat) : Int) = 32
end XQ
