/-! ===== strike ===== -/
section XS
variable {σ σ1 τ τ1 : xm_Mem} {S : xS} {A A' : Nat → Nat} {n n' : Nat} {m m' : Nat → Int64} {e : Nat → Nat} {B : Nat → Int} {s : Nat}
theorem preA_cg (h : n = n' ∧ ∀ i, i < n → A i = A' i) : pre A n = pre A' n' := by
  obtain ⟨rfl, h⟩ := h
  unfold pre
  exact List.map_congr_left (fun i hi => h i (List.mem_range.mp hi))
theorem kidL_cg (h : n = n' ∧ ∀ i, i < n → A i = A' i) (p : Nat) : kidL S A n p = kidL S A' n' p := by
  unfold kidL
  rw [preA_cg h]
theorem sK_cg (h : n = n' ∧ ∀ i, i < n → A i = A' i) : ∀ p, sK S A n p = sK S A' n' p := by
  intro p
  induction p with
  | zero => rfl
  | succ p ih =>
    show sK S A n p + (kidL S A n p).length = sK S A' n' p + (kidL S A' n' p).length
    rw [ih, kidL_cg h]
/-- settled, with the orders that are known already -/
theorem c_settle2 (hU : PU S A n m) (hC : CS σ S e) : ∃ σ', f_X10_settle σ = some (σ', 0) ∧ gx (fun a _ => 10 ≤ a ∧ a ≤ 83) σ σ' ∧ CI σ' S A n m e := by
  obtain ⟨σ', A', n', m', a1, a2, a3, a4, a5, a6⟩ := c_settle hU.1 hC
  have h := AGE.uniq a3.2.1 hU.2.1
  have eb : ∀ i, i < n → m' (A i) = m (A i) := by
    have hb : BDY S A n m' := by
      intro i hi q hq
      obtain ⟨rfl, h2⟩ := h
      rw [← h2 i hi]
      have y := a3.2.2 i hi q hq
      rw [y]
      constructor
      · rintro (z | ⟨j, j1, j2, j3⟩)
        · exact Or.inl z
        · exact Or.inr ⟨j, j1, by rw [← h2 j j1]; exact j2, by rw [← h2 j j1]; exact j3⟩
      · rintro (z | ⟨j, j1, j2, j3⟩)
        · exact Or.inl z
        · exact Or.inr ⟨j, j1, by rw [h2 j j1]; exact j2, by rw [h2 j j1]; exact j3⟩
    exact BDY.uniq hU.1 hU.2.1 hb hU.2.2
  obtain ⟨c1, c2, ⟨⟨⟨p1, ⟨d1, d2, d3⟩, k1, k2⟩, v1, v2⟩, b1⟩, f1⟩ := a4
  refine ⟨σ', a1, a2, c1, c2, ⟨⟨⟨p1, ⟨by rw [d1, h.1], fun i hi => by rw [d2 i (by rw [h.1]; exact hi), h.2 i (by rw [h.1]; exact hi)], d3⟩, fun p hp => by rw [k1 p hp, sK_cg h], fun p hp => by rw [← sK_cg h, ← kidL_cg h]; exact k2 p hp⟩, fun z => absurd z (by omega), v2⟩, fun p hp => ?_⟩, fun t ht => Or.inl (a6 t (isT_t hU.1 ht).1)⟩
  obtain ⟨i, i1, i2⟩ := hU.2.1.2.2.2 p hp
  rw [b1 p hp, ← i2]
  exact eb i i1
/-- the records, one of them told to stand or not -/
def setS (S : xS) (r : Nat) (v : Int) : xS := (fun q k => if q = r ∧ k = 6 then v else S.1 q k, S.2)
def nmP (S : xS) (q : Nat) (x : Int) : Prop := w1 S q = x ∨ (if wK S q = 1 ∨ wK S q = 2 then w2 S q else -1) = x ∨ (if wK S q = 0 then w2 S q else -1) = x ∨ (if wK S q = 0 then w3 S q else -1) = x
def nmd1 (S : xS) (r q : Nat) : Prop := q ≠ r ∧ wS S q = 1 ∧ ((wK S r = 0 ∧ nmP S q (w1 S r)) ∨ (wK S r = 4 ∧ 4 ≤ wK S q ∧ w2 S q = w2 S r))
def nmd (S : xS) (r : Nat) : Prop := ∃ q, q < sn S ∧ nmd1 S r q
theorem set_k (r : Nat) (v : Int) (q : Nat) : wK (setS S r v) q = wK S q ∧ wD (setS S r v) q = wD S q ∧ w1 (setS S r v) q = w1 S q ∧ w2 (setS S r v) q = w2 S q ∧ w3 (setS S r v) q = w3 S q ∧ wW (setS S r v) q = wW S q ∧ wS (setS S r v) q = if q = r then v else wS S q := by
  refine ⟨if_neg (by omega), if_neg (by omega), if_neg (by omega), if_neg (by omega), if_neg (by omega), if_neg (by omega), ?_⟩
  show (if q = r ∧ 6 = 6 then v else S.1 q 6) = _
  by_cases z : q = r
  · rw [if_pos ⟨z, rfl⟩, if_pos z]
  · rw [if_neg (fun y => z y.1), if_neg z]; rfl
theorem set_WF (hW : WF S) (r : Nat) {v : Int} (hv : 0 ≤ v ∧ v ≤ 1) : WF (setS S r v) := by
  obtain ⟨h1, h2, h3, h4⟩ := hW
  refine ⟨h1, fun q hq => ?_, fun p hp => ?_, fun t ht => ?_⟩
  · obtain ⟨k0, k1, k2, k3, k4, k5, k6⟩ := set_k (S := S) r v q
    have := h2 q hq
    rw [k0, k1, k2, k3, k4, k5, k6]
    refine ⟨this.1, this.2.1, ?_, this.2.2.2⟩
    split
    · exact hv
    · exact this.2.2.1
  · have k := set_k (S := S) r v (sbb S p)
    show sbb S p < sn S ∧ wK (setS S r v) (sbb S p) = 0 ∧ w1 (setS S r v) (sbb S p) = p
    rw [k.1, k.2.2.1]; exact h3 p hp
  · have k := set_k (S := S) r v (stb S t)
    show stb S t < sn S ∧ wK (setS S r v) (stb S t) = 4 ∧ w2 (setS S r v) (stb S t) = t
    rw [k.1, k.2.2.2.1]; exact h4 t ht
theorem set_NM (hW : WF S) (hN : NM S) {r : Nat} (hn : ¬ nmd S r) : NM (setS S r 0) := by
  have isp : ∀ q : Nat, q < sn S → q ≠ r → wS S q = 1 → ∀ x : Int, nmP S q x → isP S x → isP (setS S r 0) x := by
    intro q hq hqr hs x hx h
    refine ⟨h.1, h.2.1, ?_⟩
    have k := (set_k (S := S) r 0 (sbb S x.toNat)).2.2.2.2.2.2
    show wS (setS S r 0) (sbb S x.toNat) = 1
    rw [k]
    by_cases z : sbb S x.toNat = r
    · have y := hW.2.2.1 x.toNat (by have := h.1; have := h.2.1; omega)
      rw [z] at y
      exact absurd ⟨q, hq, hqr, hs, Or.inl ⟨y.2.1, by rw [y.2.2, Int.toNat_of_nonneg h.1]; exact hx⟩⟩ hn
    · rw [if_neg z]; exact h.2.2
  have ist : ∀ q : Nat, q < sn S → q ≠ r → wS S q = 1 → 5 ≤ wK S q → isT S (w2 S q) → isT (setS S r 0) (w2 S q) := by
    intro q hq hqr hs h5 h
    refine ⟨h.1, h.2.1, ?_⟩
    have k := (set_k (S := S) r 0 (stb S (w2 S q).toNat)).2.2.2.2.2.2
    show wS (setS S r 0) (stb S (w2 S q).toNat) = 1
    rw [k]
    by_cases z : stb S (w2 S q).toNat = r
    · have y := hW.2.2.2 (w2 S q).toNat (by have := h.1; have := h.2.1; omega)
      rw [z] at y
      exact absurd ⟨q, hq, hqr, hs, Or.inr ⟨y.2.1, by omega, by rw [y.2.2, Int.toNat_of_nonneg h.1]⟩⟩ hn
    · rw [if_neg z]; exact h.2.2
  intro q hq hs
  obtain ⟨k0, k1, k2, k3, k4, k5, k6⟩ := set_k (S := S) r 0 q
  rw [k6] at hs
  by_cases z : q = r
  · rw [if_pos z] at hs; omega
  · rw [if_neg z] at hs
    have hq : q < sn S := hq
    obtain ⟨n1, n2, n3, n4⟩ := hN q hq hs
    rw [k0, k2, k3, k4]
    refine ⟨fun c => ?_, fun c => isp q hq z hs _ (Or.inl rfl) (n2 c), fun c => isp q hq z hs _ (Or.inr (Or.inl (if_pos c))) (n3 c), fun c => ist q hq z hs c (n4 c)⟩
    obtain ⟨m1, m2⟩ := n1 c
    exact ⟨m1.imp id (fun y => isp q hq z hs _ (Or.inr (Or.inr (Or.inl (if_pos c)))) y), m2.imp id (fun y => isp q hq z hs _ (Or.inr (Or.inr (Or.inr (if_pos c)))) y)⟩
theorem cs_set (hC : CS σ S e) {r : Nat} (hr : r < sn S) (v : Int) : CS (xm_u1 σ (e r) 9 v) (setS S r v) e := by
  have hinj := fun q hq => hC.inj (r := q) (q := r) hq hr
  obtain ⟨a, b, c, d, f, g⟩ := hC
  obtain ⟨c1, c2, c3, c4⟩ := c r hr
  have o : ∀ b k, b ≠ e r → (xm_u1 σ (e r) 9 v).1 b k = σ.1 b k := fun b k z => by rw [xu11, if_neg (fun y => z y.1)]
  refine ⟨⟨by rw [o 5 3 (by omega)]; exact a.1, by rw [o 5 4 (by omega)]; exact a.2.1, by rw [o 5 5 (by omega)]; exact a.2.2⟩, b, fun q hq => ?_, d, fun p hp => by rw [o 7 p (by omega)]; exact f p hp, fun t ht => by rw [o 8 t (by omega)]; exact g t ht⟩
  have hq : q < sn S := hq
  obtain ⟨q1, q2, q3, q4⟩ := c q hq
  refine ⟨by rw [o 6 q (by omega)]; exact q1, q2, q3, ?_⟩
  obtain ⟨k0, k1, k2, k3, k4, k5, k6⟩ := set_k (S := S) r v q
  unfold CE at q4 ⊢
  rw [k0, k1, k2, k3, k4, k5, k6]
  obtain ⟨y0, y1, y2, y3, y4, y5, y6, y7, y8, y9⟩ := q4
  have o2 : ∀ k, k ≠ 9 → (xm_u1 σ (e r) 9 v).1 (e q) k = σ.1 (e q) k := fun k z => by rw [xu11, if_neg (fun y => z y.2)]
  refine ⟨by rw [o2 0 (by omega)]; exact y0, by rw [o2 1 (by omega)]; exact y1, by rw [o2 2 (by omega)]; exact y2, by rw [o2 3 (by omega)]; exact y3, by rw [o2 4 (by omega)]; exact y4, by rw [o2 5 (by omega)]; exact y5, by rw [o2 6 (by omega)]; exact y6, by rw [o2 7 (by omega)]; exact y7, by rw [o2 8 (by omega)]; exact y8, ?_⟩
  by_cases z : q = r
  · subst z
    rw [xu11, if_pos ⟨rfl, rfl⟩, if_pos rfl]
  · have ne : e q ≠ e r := fun y => z ((hinj q hq).mp (by omega))
    rw [o _ _ ne, if_neg z]; exact y9
theorem ms_set (hM : MS τ S) (r : Nat) (v : Int) : MS (xm_u1 τ 92 r v) (setS S r v) := by
  obtain ⟨a, b, c, d, f, g⟩ := hM
  have o : ∀ b k, b ≠ 92 → (xm_u1 τ 92 r v).1 b k = τ.1 b k := fun b k z => by rw [xu11, if_neg (fun y => z y.1)]
  refine ⟨by rw [o _ _ (by omega)]; exact a, by rw [o _ _ (by omega)]; exact b, by rw [o _ _ (by omega)]; exact c, fun q hq => ?_, fun p hp => by rw [o _ _ (by omega)]; exact f p hp, fun t ht => by rw [o _ _ (by omega)]; exact g t ht⟩
  obtain ⟨y0, y1, y2, y3, y4, y5, y6⟩ := d q hq
  obtain ⟨k0, k1, k2, k3, k4, k5, k6⟩ := set_k (S := S) r v q
  rw [k0, k1, k2, k3, k4, k5, k6, o _ _ (by omega), o _ _ (by omega), o _ _ (by omega), o _ _ (by omega), o _ _ (by omega), o _ _ (by omega)]
  refine ⟨y0, y1, y2, y3, y4, y5, ?_⟩
  rw [xu11]
  by_cases z : q = r
  · rw [if_pos ⟨rfl, z⟩, if_pos z]
  · rw [if_neg (fun y => z y.2), if_neg z]; exact y6
theorem sN_set {r : Nat} (hr : r < sn S) (h : wS S r = 1) : sN S = sN (setS S r 0) + 1 := by
  unfold sN
  refine cn_oneN (P := fun q => wS (setS S r 0) q = 1) (b := r) ?_ hr (fun i _ => ?_)
  · show ¬ wS (setS S r 0) r = 1
    rw [(set_k (S := S) r 0 r).2.2.2.2.2.2, if_pos rfl]; decide
  · show wS S i = 1 ↔ wS (setS S r 0) i = 1 ∨ i = r
    rw [(set_k (S := S) r 0 i).2.2.2.2.2.2]
    by_cases z : i = r
    · subst z; exact ⟨fun _ => Or.inr rfl, fun _ => h⟩
    · rw [if_neg z]; exact ⟨fun y => Or.inl y, fun y => y.resolve_right z⟩
end XS
