/-! ===== names in a walk; places; loops by fuel ===== -/
def xm_it {α : Type} (b : α → α) (z : α) : Nat → α
  | 0 => z
  | n + 1 => b (xm_it b z n)
def xm_fuel : Nat := 100000
def xm_dep : Nat := 66
def xm_st (σ : xm_Mem) (k : xm_Mem → Option xm_Out) : Option xm_Out := k σ
def xm_vl (v : Int) (k : Int → Option xm_Out) : Option xm_Out := k v
def xm_vj (v : Int64) (k : Int64 → Option xm_Out) : Option xm_Out := k v
def xm_vr (v : Int) (k : Int → Option xm_Out) : Option xm_Out := if v ≤ 2147483647 then k v else none
def xm_fr0 (a : Nat) : Bool := decide (a ≠ 35) && decide (¬ (36 ≤ a ∧ a < 84 ∧ (a - 36) % 6 = 0)) && decide (a ∉ [1, 2, 4, 5, 9, 18, 23, 29])
theorem xm_wire_heads : ∀ q ∈ xm_wireL, q.1 ∈ [1, 2, 4, 5, 9, 18, 23, 29] := by decide +kernel
theorem xm_wire_none {a : Nat} (h : xm_fr0 a = true) (k : Nat) : xm_wire a k = none := by
  simp only [xm_fr0, Bool.and_eq_true, decide_eq_true_eq] at h
  unfold xm_wire
  rw [if_neg h.1.1, if_neg h.1.2]
  have e : xm_wireL.find? (fun q => q.1 == a && q.2.1 == k) = none := by
    rw [List.find?_eq_none]
    intro q hq hz
    simp at hz
    exact h.2 (hz.1 ▸ xm_wire_heads q hq)
  rw [e]
  rfl
theorem xm_free1 : ∀ a, a < 111 → (xm_lay a).1 = 1 → xm_fr0 a = true := by decide +kernel
theorem xm_lay_hi {a : Nat} (h : 111 ≤ a) : xm_lay a = (0, 2) := by
  unfold xm_lay
  rw [List.getD_eq_getElem?_getD, List.getElem?_eq_none (by show 111 ≤ a; exact h)]
  rfl
theorem xm_lay_lo : ∀ a, a < 111 → xm_lay a ≠ (0, 2) := by decide +kernel
theorem xm_free_hi {a : Nat} (h : 111 ≤ a) : xm_fr0 a = true := by
  simp only [xm_fr0, Bool.and_eq_true, decide_eq_true_eq]
  refine ⟨⟨by omega, by omega⟩, ?_⟩
  simp
  omega
theorem xm_cbl (t : Nat) (h : t < 8) : xm_lay (xm_cb t) = (0, 0) ∧ xm_lay (xm_cb t + 1) = (1, 64) := by
  have : ∀ t, t < 8 → xm_lay (xm_cb t) = (0, 0) ∧ xm_lay (xm_cb t + 1) = (1, 64) := by decide +kernel
  exact this t h
theorem xm_cbl2 : ∀ t, t < 8 → ∀ j, j < 6 → 2 ≤ j → xm_lay (xm_cb t + j) = (1, 200) := by decide +kernel
theorem xm_cbw : ∀ t, t < 8 → xm_wire (xm_cb t) 0 = some t ∧ xm_wire (xm_cb t) 1 = some 5 ∧ xm_wire (xm_cb t) 2 = some 9 ∧ xm_wire (xm_cb t) 3 = some 23 ∧ xm_wire (xm_cb t) 4 = some 29 ∧ xm_wire (xm_cb t) 5 = some (xm_cb t + 1) ∧ xm_wire (xm_cb t) 6 = some (xm_cb t + 2) ∧ xm_wire (xm_cb t) 7 = some (xm_cb t + 3) ∧ xm_wire (xm_cb t) 8 = some (xm_cb t + 4) ∧ xm_wire (xm_cb t) 9 = some (xm_cb t + 5) := by decide +kernel
theorem xm_cbn : ∀ t, t < 8 → ∀ k, k < 17 → 10 ≤ k → xm_wire (xm_cb t) k = none := by decide +kernel
theorem xm_crw : ∀ j, j < 8 → xm_wire 35 j = some (xm_cb j) := by decide +kernel
theorem xm_c8 {v : Int} (h : 0 ≤ v ∧ v < 8) : v.toNat < 8 := by omega
theorem xm_s22 {v : Int} (h : 0 ≤ v ∧ v < 24) : v.toNat < 24 := by omega
theorem xm_rfN {Γ : xm_Gm} {a : Nat} (h : 1 ≤ a) : (Value.ref (xm_ad Γ a)) = xm_rf Γ ((a : Nat) : Int) := by
  rw [xm_rf_pos (by omega)]
  rfl
theorem xm_cati {x : Int32} : (Value.int x).category = 1 := rfl
theorem xm_catr {x : Nat} : (Value.ref x).category = 1 := rfl
theorem xm_catl {x : Int64} : (Value.long x).category = 2 := rfl
section XN
variable {X : xm_X} {own : String} {cc : ByteArray} {nL fr mc ms kc sc : Nat} {r r1 r2 : Option xm_Out} {σ : xm_Mem} {pc : Nat} {l l' : List (Nat × Value)} {st : List Value}
theorem xg_st {k : xm_Mem → Option xm_Out} (h : ∀ s, xm_V X kc sc (k s) s pc l st) : xm_V X kc sc (xm_st σ k) σ pc l st := h σ
theorem xg_vI {v : Int} {k : Int → Option xm_Out} (hv : xm_in v) (h : ∀ x, xm_in x → xm_V X kc sc (k x) σ pc l (.int (xm_J x) :: st)) : xm_V X kc sc (xm_vl v k) σ pc l (.int (xm_J v) :: st) := h v hv
theorem xg_vZ {v : Int} {k : Int → Option xm_Out} (hv : 0 ≤ v ∧ v ≤ 1) (h : ∀ x, 0 ≤ x ∧ x ≤ 1 → xm_V X kc sc (k x) σ pc l (.int (xm_J x) :: st)) : xm_V X kc sc (xm_vl v k) σ pc l (.int (xm_J v) :: st) := h v hv
theorem xg_vJ {v : Int64} {k : Int64 → Option xm_Out} (h : ∀ x, xm_V X kc sc (k x) σ pc l (.long x :: st)) : xm_V X kc sc (xm_vj v k) σ pc l (.long v :: st) := h v
theorem xg_vR {v : Int} {k : Int → Option xm_Out} (hv : 0 ≤ v) (h : ∀ x, 0 ≤ x ∧ xm_in x → xm_V X kc sc (k x) σ pc l (xm_rf (xx_G X) x :: st)) : xm_V X kc sc (xm_vr v k) σ pc l (xm_rf (xx_G X) v :: st) := by
  unfold xm_vr
  exact xg_guard (fun q => h v ⟨hv, by unfold xm_in; omega⟩)
theorem xm_hK {a kd n : Nat} (hI : xx_I X = xm_I) (h : (decide (1 ≤ a) && decide (a ≤ 110) && decide (xm_lay a = (kd, n))) = true) : xm_has (xx_I X) a kd n := by
  rw [hI]; exact xm_hasK h
theorem xm_hA {a kd n : Nat} (hI : xx_I X = xm_I) (h1 : 1 ≤ a) (h2 : a ≤ 110) (h : xm_lay a = (kd, n)) : xm_has (xx_I X) a kd n := by
  rw [hI]; exact ⟨fun σ hi => ⟨h1, Nat.le_trans h2 hi.1⟩, h⟩
theorem xm_hC {t : Nat} (hI : xx_I X = xm_I) (ht : t < 8) : xm_has (xx_I X) (xm_cb t) 0 0 := xm_hA hI (by unfold xm_cb; omega) (by unfold xm_cb; omega) (xm_cbl t ht).1
theorem xm_hCa {t j : Nat} (hI : xx_I X = xm_I) (ht : t < 8) (hj : j = 1) : xm_has (xx_I X) (xm_cb t + j) 1 64 := by
  subst hj; exact xm_hA hI (by unfold xm_cb; omega) (by unfold xm_cb; omega) (xm_cbl t ht).2
theorem xm_hCb {t j : Nat} (hI : xx_I X = xm_I) (ht : t < 8) (h1 : 2 ≤ j) (h2 : j < 6) : xm_has (xx_I X) (xm_cb t + j) 1 200 := xm_hA hI (by unfold xm_cb; omega) (by unfold xm_cb; omega) (xm_cbl2 t ht j h2 h1)
theorem xm_kpW {a k : Nat} {v : Int} (hI : xx_I X = xm_I) (h : xm_wire a k = none) : xm_kp X σ a k v := by
  unfold xm_kp; rw [hI]; exact fun hi => hi.u1 h
theorem xm_kpF {a k : Nat} {v : Int} (hI : xx_I X = xm_I) (h : xm_fr0 a = true) : xm_kp X σ a k v := xm_kpW hI (xm_wire_none h k)
theorem xm_kpK {a k : Nat} {v : Int} (hI : xx_I X = xm_I) (h : xm_wire a k = none) : xm_kp X σ a k v := xm_kpW hI h
theorem xm_kpC {t j k : Nat} {v : Int} (hI : xx_I X = xm_I) (ht : t < 8) (h1 : 1 ≤ j) (h2 : j < 6) : xm_kp X σ (xm_cb t + j) k v := by
  have : ∀ t, t < 8 → ∀ j, j < 6 → 1 ≤ j → xm_fr0 (xm_cb t + j) = true := by decide +kernel
  exact xm_kpF hI (this t ht j h2 h1)
theorem xm_kpT {t k : Nat} {v : Int} (hI : xx_I X = xm_I) (ht : t < 8) (hk : k < 17 ∧ 10 ≤ k) : xm_kp X σ (xm_cb t) k v := xm_kpW hI (xm_cbn t ht k hk.1 hk.2)
theorem xm_kpA {a k n : Nat} {v : Int} (hI : xx_I X = xm_I) (h : xm_lay a = (1, n)) : xm_kp X σ a k v := by
  refine xm_kpF hI ?_
  by_cases q : a < 111
  · exact xm_free1 a q (by rw [h])
  · exact xm_free_hi (by omega)
theorem xm_kpO {a k : Nat} {v : Int} (hI : xx_I X = xm_I) (h : xm_lay a = (0, 2)) : xm_kp X σ a k v := by
  refine xm_kpF hI ?_
  by_cases q : a < 111
  · exact absurd h (xm_lay_lo a q)
  · exact xm_free_hi (by omega)
theorem xm_kp2 {a k : Nat} {v : Int64} (hI : xx_I X = xm_I) : xx_I X σ → xx_I X (xm_u2 σ a k v) := by
  rw [hI]; exact fun hi => hi.u2
theorem xm_kpN (hI : xx_I X = xm_I) : xx_I X σ → xx_I X (xm_nw σ) := by
  rw [hI]; exact fun hi => hi.nw
theorem xm_wK {a k b : Nat} (hI : xx_I X = xm_I) (h : xm_wire a k = some b) : xx_I X σ → σ.1 a k = (b : Int) := by
  rw [hI]; exact fun hi => hi.2 a k b h
theorem xm_w0 {t : Nat} (hI : xx_I X = xm_I) (ht : t < 8) : xx_I X σ → σ.1 (xm_cb t) 0 = (t : Int) := xm_wK hI (xm_cbw t ht).1
theorem xm_w1 {t : Nat} (hI : xx_I X = xm_I) (ht : t < 8) : xx_I X σ → σ.1 (xm_cb t) 1 = ((5 : Nat) : Int) := xm_wK hI (xm_cbw t ht).2.1
theorem xm_w2 {t : Nat} (hI : xx_I X = xm_I) (ht : t < 8) : xx_I X σ → σ.1 (xm_cb t) 2 = ((9 : Nat) : Int) := xm_wK hI (xm_cbw t ht).2.2.1
theorem xm_w3 {t : Nat} (hI : xx_I X = xm_I) (ht : t < 8) : xx_I X σ → σ.1 (xm_cb t) 3 = ((23 : Nat) : Int) := xm_wK hI (xm_cbw t ht).2.2.2.1
theorem xm_w4 {t : Nat} (hI : xx_I X = xm_I) (ht : t < 8) : xx_I X σ → σ.1 (xm_cb t) 4 = ((29 : Nat) : Int) := xm_wK hI (xm_cbw t ht).2.2.2.2.1
theorem xm_w5 {t : Nat} (hI : xx_I X = xm_I) (ht : t < 8) : xx_I X σ → σ.1 (xm_cb t) 5 = ((xm_cb t + 1 : Nat) : Int) := xm_wK hI (xm_cbw t ht).2.2.2.2.2.1
theorem xm_w6 {t : Nat} (hI : xx_I X = xm_I) (ht : t < 8) : xx_I X σ → σ.1 (xm_cb t) 6 = ((xm_cb t + 2 : Nat) : Int) := xm_wK hI (xm_cbw t ht).2.2.2.2.2.2.1
theorem xm_w7 {t : Nat} (hI : xx_I X = xm_I) (ht : t < 8) : xx_I X σ → σ.1 (xm_cb t) 7 = ((xm_cb t + 3 : Nat) : Int) := xm_wK hI (xm_cbw t ht).2.2.2.2.2.2.2.1
theorem xm_w8 {t : Nat} (hI : xx_I X = xm_I) (ht : t < 8) : xx_I X σ → σ.1 (xm_cb t) 8 = ((xm_cb t + 4 : Nat) : Int) := xm_wK hI (xm_cbw t ht).2.2.2.2.2.2.2.2.1
theorem xm_w9 {t : Nat} (hI : xx_I X = xm_I) (ht : t < 8) : xx_I X σ → σ.1 (xm_cb t) 9 = ((xm_cb t + 5 : Nat) : Int) := xm_wK hI (xm_cbw t ht).2.2.2.2.2.2.2.2.2
theorem xm_cw (hI : xx_I X = xm_I) : xx_I X σ → ∀ j, j < 8 → σ.1 35 j = (xm_cb j : Int) := fun hi j hj => xm_wK hI (xm_crw j hj) hi
end XN
