/-! ===== bits, rows as lists, persons by age ===== -/
noncomputable def dc (P : Prop) : Bool := @decide P (Classical.propDecidable P)
theorem dc_t {P : Prop} : dc P = true ↔ P := by unfold dc; exact @decide_eq_true_iff P (Classical.propDecidable P)
theorem dc_y {P : Prop} (h : P) : dc P = true := dc_t.mpr h
theorem dc_n {P : Prop} (h : ¬ P) : dc P = false := by
  cases e : dc P with
  | false => rfl
  | true => exact absurd (dc_t.mp e) h
def bt (v : Int64) (q : Nat) : Prop := v.toBitVec.getLsbD q = true
theorem bt_or (v w : Int64) (q : Nat) : bt (v ||| w) q ↔ bt v q ∨ bt w q := by
  unfold bt
  rw [show (v ||| w).toBitVec = v.toBitVec ||| w.toBitVec from rfl, BitVec.getLsbD_or, Bool.or_eq_true]
theorem bt_and (v w : Int64) (q : Nat) : bt (v &&& w) q ↔ bt v q ∧ bt w q := by
  unfold bt
  rw [show (v &&& w).toBitVec = v.toBitVec &&& w.toBitVec from rfl, BitVec.getLsbD_and, Bool.and_eq_true]
theorem bt_m1 : ∀ q, q < 64 → (-1 : Int64).toBitVec.getLsbD q = true := by decide +kernel
theorem bt_not (v : Int64) {q : Nat} (h : q < 64) : bt (v ^^^ (-1 : Int64)) q ↔ ¬ bt v q := by
  unfold bt
  rw [show (v ^^^ (-1 : Int64)).toBitVec = v.toBitVec ^^^ (-1 : Int64).toBitVec from rfl, BitVec.getLsbD_xor, bt_m1 q h]
  cases v.toBitVec.getLsbD q <;> simp
theorem bt_0 (q : Nat) : ¬ bt (0 : Int64) q := by
  unfold bt
  rw [show (0 : Int64).toBitVec = 0#64 from rfl]
  simp
theorem bt_tab : ∀ p, p < 64 → ∀ q, q < 64 → (xm_shl (1 : Int64) ((p : Nat) : Int)).toBitVec.getLsbD q = decide (q = p) := by decide +kernel
theorem bt_shl {p q : Nat} (hp : p < 64) (hq : q < 64) : bt (xm_shl (1 : Int64) (p : Int)) q ↔ q = p := by
  unfold bt
  rw [bt_tab p hp q hq, decide_eq_true_iff]
theorem bt_z {v : Int64} : v = 0 ↔ ∀ q, q < 64 → ¬ bt v q := by
  constructor
  · rintro rfl q _; exact bt_0 q
  · intro h
    apply Int64.toBitVec_inj.mp
    apply BitVec.eq_of_getLsbD_eq
    intro i hi
    rw [show (0 : Int64).toBitVec = 0#64 from rfl]
    have := h i hi
    unfold bt at this
    simp at this
    rw [this]
    simp
theorem bt_ext {v w : Int64} (h : ∀ q, q < 64 → (bt v q ↔ bt w q)) : v = w := by
  apply Int64.toBitVec_inj.mp
  apply BitVec.eq_of_getLsbD_eq
  intro i hi
  have := h i hi
  unfold bt at this
  exact Bool.eq_iff_iff.mpr this
theorem lc_0 (v : Int64) : xm_lc v 0 = 0 ↔ v = 0 := by
  unfold xm_lc
  rw [← lg_cmp_eq]
  constructor
  · intro h; exact Int32.toInt_inj.mp h
  · intro h; rw [h]; rfl
theorem lc_b (v : Int64) {p : Nat} (hp : p < 64) : xm_lc (v &&& xm_shl (1 : Int64) (p : Int)) 0 = 0 ↔ ¬ bt v p := by
  rw [lc_0, bt_z]
  constructor
  · intro h z
    exact h p hp ((bt_and _ _ _).mpr ⟨z, (bt_shl hp hp).mpr rfl⟩)
  · intro h q hq z
    rw [bt_and, bt_shl hp hq] at z
    exact h (z.2 ▸ z.1)
theorem i64 (x : Int64) : Int64.ofInt x.toInt = x := Int64.ofInt_toInt x
-- rows as lists
def LA (σ : xm_Mem) (a o : Nat) (l : List Nat) : Prop := ∀ i, i < l.length → σ.1 a (o + i) = ((l.getD i 0 : Nat) : Int)
theorem LA.nil {σ : xm_Mem} {a o : Nat} : LA σ a o [] := fun i h => absurd h (Nat.not_lt_zero _)
theorem getD_app1 {l r : List Nat} {i : Nat} (h : i < l.length) : (l ++ r).getD i 0 = l.getD i 0 := by
  rw [List.getD_eq_getElem?_getD, List.getD_eq_getElem?_getD, List.getElem?_append_left h]
theorem getD_last {l : List Nat} {x : Nat} : (l ++ [x]).getD l.length 0 = x := by
  rw [List.getD_eq_getElem?_getD, List.getElem?_append_right (Nat.le_refl _), Nat.sub_self]
  rfl
theorem getD_mem {l : List Nat} {i : Nat} (h : i < l.length) : l.getD i 0 ∈ l := by
  rw [List.getD_eq_getElem?_getD, List.getElem?_eq_getElem h]
  exact List.getElem_mem h
theorem mem_getD {l : List Nat} {x : Nat} (h : x ∈ l) : ∃ i, i < l.length ∧ l.getD i 0 = x := by
  obtain ⟨i, hi, e⟩ := List.getElem_of_mem h
  exact ⟨i, hi, by rw [List.getD_eq_getElem?_getD, List.getElem?_eq_getElem hi]; exact e⟩
theorem LA.app {σ σ' : xm_Mem} {a o : Nat} {l : List Nat} {x : Nat} (h : LA σ a o l) (h1 : ∀ i, i < l.length → σ'.1 a (o + i) = σ.1 a (o + i)) (h2 : σ'.1 a (o + l.length) = (x : Int)) : LA σ' a o (l ++ [x]) := by
  intro i hi
  rw [List.length_append] at hi
  have hi : i < l.length + 1 := hi
  by_cases e : i = l.length
  · subst e; rw [getD_last]; exact h2
  · rw [getD_app1 (by omega), h1 i (by omega)]; exact h i (by omega)
theorem LA.eq {σ σ' : xm_Mem} {a o : Nat} {l : List Nat} (h : LA σ a o l) (h1 : ∀ i, i < l.length → σ'.1 a (o + i) = σ.1 a (o + i)) : LA σ' a o l := fun i hi => by rw [h1 i hi]; exact h i hi
def pre (A : Nat → Nat) (n : Nat) : List Nat := (List.range n).map A
theorem pre_0 {A : Nat → Nat} : pre A 0 = [] := rfl
theorem pre_s (A : Nat → Nat) (n : Nat) : pre A (n + 1) = pre A n ++ [A n] := by
  unfold pre
  rw [List.range_succ, List.map_append]
  rfl
theorem pre_len (A : Nat → Nat) (n : Nat) : (pre A n).length = n := by unfold pre; simp
theorem pre_mem {A : Nat → Nat} {n x : Nat} : x ∈ pre A n ↔ ∃ i, i < n ∧ A i = x := by
  unfold pre
  rw [List.mem_map]
  constructor
  · rintro ⟨i, h1, h2⟩; exact ⟨i, List.mem_range.mp h1, h2⟩
  · rintro ⟨i, h1, h2⟩; exact ⟨i, List.mem_range.mpr h1, h2⟩
theorem pre_getD {A : Nat → Nat} {n i : Nat} (h : i < n) : (pre A n).getD i 0 = A i := by
  unfold pre
  rw [List.getD_eq_getElem?_getD, List.getElem?_map, List.getElem?_range h]
  rfl
theorem filt_y {f : Nat → Bool} {l : List Nat} {x : Nat} (h : f x = true) : (l ++ [x]).filter f = l.filter f ++ [x] := by
  rw [List.filter_append, List.filter_cons_of_pos h]; rfl
theorem filt_n {f : Nat → Bool} {l : List Nat} {x : Nat} (h : ¬ f x = true) : (l ++ [x]).filter f = l.filter f := by
  rw [List.filter_append, List.filter_cons_of_neg h]; simp
-- by age
def older (S : xS) (p q : Nat) : Prop := wBorn S p < wBorn S q ∨ (wBorn S p = wBorn S q ∧ p < q)
theorem older_tr {S : xS} {p q r : Nat} (h : older S p q) (g : older S q r) : older S p r := by unfold older at *; omega
theorem older_as {S : xS} {p q : Nat} (h : older S p q) : ¬ older S q p := by unfold older at *; omega
theorem older_to {S : xS} {p q : Nat} (h : p ≠ q) : older S p q ∨ older S q p := by unfold older; omega
def AGEk (S : xS) (k : Nat) (A : Nat → Nat) (n : Nat) : Prop := n ≤ k ∧ (∀ i, i < n → isP S (A i : Int) ∧ A i < k) ∧ (∀ i j, i < j → j < n → older S (A i) (A j)) ∧ ∀ p, p < k → isP S (p : Int) → ∃ i, i < n ∧ A i = p
def AGE (S : xS) (A : Nat → Nat) (n : Nat) : Prop := n ≤ 64 ∧ (∀ i, i < n → isP S (A i : Int) ∧ A i < 64) ∧ (∀ i j, i < j → j < n → older S (A i) (A j)) ∧ ∀ p : Nat, isP S (p : Int) → ∃ i, i < n ∧ A i = p
theorem AGEk.zero (S : xS) (A : Nat → Nat) : AGEk S 0 A 0 := ⟨Nat.le_refl _, fun i h => absurd h (Nat.not_lt_zero _), fun i j _ h => absurd h (Nat.not_lt_zero _), fun p h => absurd h (Nat.not_lt_zero _)⟩
theorem AGEk.no {S : xS} {k n : Nat} {A : Nat → Nat} (h : AGEk S k A n) (hp : ¬ isP S (k : Int)) : AGEk S (k + 1) A n := by
  obtain ⟨h0, h1, h2, h3⟩ := h
  refine ⟨by omega, fun i hi => ⟨(h1 i hi).1, by have := (h1 i hi).2; omega⟩, h2, fun p hp2 hq => ?_⟩
  by_cases e : p = k
  · subst e; exact absurd hq hp
  · exact h3 p (by omega) hq
def insA (A : Nat → Nat) (j p : Nat) : Nat → Nat := fun i => if i < j then A i else if i = j then p else A (i - 1)
theorem AGEk.ins {S : xS} {k n j : Nat} {A : Nat → Nat} (h : AGEk S k A n) (hp : isP S (k : Int)) (hj : j ≤ n) (h1 : 0 < j → ¬ older S k (A (j - 1))) (h2 : ∀ i, j ≤ i → i < n → older S k (A i)) : AGEk S (k + 1) (insA A j k) (n + 1) := by
  obtain ⟨g0, g1, g2, g3⟩ := h
  have lo : ∀ i, i < j → older S (A i) k := by
    intro i hi
    have a : older S (A (j - 1)) k := by
      have n1 : A (j - 1) ≠ k := by have := (g1 (j - 1) (by omega)).2; omega
      rcases older_to (S := S) n1 with z | z
      · exact z
      · exact absurd z (h1 (by omega))
    by_cases e : i = j - 1
    · subst e; exact a
    · exact older_tr (g2 i (j - 1) (by omega) (by omega)) a
  have e1 : ∀ i, i < j → insA A j k i = A i := fun i hi => if_pos hi
  have e2 : insA A j k j = k := by unfold insA; rw [if_neg (Nat.lt_irrefl _), if_pos rfl]
  have e3 : ∀ i, j < i → insA A j k i = A (i - 1) := fun i hi => by unfold insA; rw [if_neg (by omega), if_neg (by omega)]
  refine ⟨by omega, fun i hi => ?_, fun a b hab hb => ?_, fun p hp2 hq => ?_⟩
  · rcases Nat.lt_trichotomy i j with z | z | z
    · rw [e1 i z]; exact ⟨(g1 i (by omega)).1, by have := (g1 i (by omega)).2; omega⟩
    · subst z; rw [e2]; exact ⟨hp, by omega⟩
    · rw [e3 i z]; exact ⟨(g1 (i - 1) (by omega)).1, by have := (g1 (i - 1) (by omega)).2; omega⟩
  · rcases Nat.lt_trichotomy a j with z | z | z
    · rw [e1 a z]
      rcases Nat.lt_trichotomy b j with y | y | y
      · rw [e1 b y]; exact g2 a b hab (by omega)
      · subst y; rw [e2]; exact lo a z
      · rw [e3 b y]; exact g2 a (b - 1) (by omega) (by omega)
    · subst z; rw [e2, e3 b hab]; exact h2 (b - 1) (by omega) (by omega)
    · rw [e3 a z, e3 b (by omega)]; exact g2 (a - 1) (b - 1) (by omega) (by omega)
  · by_cases e : p = k
    · subst e; exact ⟨j, by omega, e2⟩
    · obtain ⟨i, i1, i2⟩ := g3 p (by omega) hq
      by_cases z : i < j
      · exact ⟨i, by omega, by rw [e1 i z]; exact i2⟩
      · exact ⟨i + 1, by omega, by rw [e3 (i + 1) (by omega)]; exact i2⟩
theorem AGEk.age {S : xS} {k n : Nat} {A : Nat → Nat} (h : AGEk S k A n) (hk : k ≤ 64) (hP : ∀ p : Nat, isP S (p : Int) → p < k) : AGE S A n :=
  ⟨by have := h.1; omega, fun i hi => ⟨(h.2.1 i hi).1, by have := (h.2.1 i hi).2; omega⟩, h.2.2.1, fun p hp => h.2.2.2 p (hP p hp) hp⟩
theorem AGE.inj {S : xS} {n : Nat} {A : Nat → Nat} (h : AGE S A n) {i j : Nat} (hi : i < n) (hj : j < n) (e : A i = A j) : i = j := by
  rcases Nat.lt_trichotomy i j with z | z | z
  · have := h.2.2.1 i j z hj; rw [e] at this; exact absurd this (older_as this)
  · exact z
  · have := h.2.2.1 j i z hi; rw [e] at this; exact absurd this (older_as this)
theorem AGE.lt {S : xS} {n : Nat} {A : Nat → Nat} (h : AGE S A n) {i j : Nat} (hi : i < n) (hj : j < n) (o : older S (A i) (A j)) : i < j := by
  rcases Nat.lt_trichotomy i j with z | z | z
  · exact z
  · subst z; exact absurd o (older_as o)
  · exact absurd o (older_as (h.2.2.1 j i z hi))
theorem AGE.uniq_lt {S : xS} {n n' : Nat} {A A' : Nat → Nat} (h : AGE S A n) (g : AGE S A' n') : ∀ k i, i < k → i < n → i < n' → A i = A' i := by
  intro k
  induction k with
  | zero => intro i hi; exact absurd hi (Nat.not_lt_zero _)
  | succ k ih =>
    intro i hi h1 h2
    by_cases e : i = k
    · subst e
      obtain ⟨a, a1, a2⟩ := g.2.2.2 (A i) (h.2.1 i h1).1
      obtain ⟨b, b1, b2⟩ := h.2.2.2 (A' i) (g.2.1 i h2).1
      have ha : ¬ a < i := fun z => by
        have := ih a z (by omega) (by omega)
        rw [a2] at this
        have := h.inj (by omega) h1 this
        omega
      have hb : ¬ b < i := fun z => by
        have := ih b z (by omega) (by omega)
        rw [b2] at this
        have := g.inj (i := i) (j := b) h2 (by omega) this
        omega
      by_cases c : a = i
      · rw [c] at a2; exact a2.symm
      · by_cases d : b = i
        · rw [d] at b2; exact b2
        · have o1 := g.2.2.1 i a (by omega) a1
          have o2 := h.2.2.1 i b (by omega) b1
          rw [a2] at o1
          rw [b2] at o2
          exact absurd o1 (older_as o2)
    · exact ih i (by omega) h1 h2
theorem AGE.uniq {S : xS} {n n' : Nat} {A A' : Nat → Nat} (h : AGE S A n) (g : AGE S A' n') : n = n' ∧ ∀ i, i < n → A i = A' i := by
  have u := AGE.uniq_lt h g
  have e : n = n' := by
    rcases Nat.lt_trichotomy n n' with z | z | z
    · obtain ⟨b, b1, b2⟩ := h.2.2.2 (A' n) (g.2.1 n z).1
      have := u (b + 1) b (by omega) b1 (by omega)
      rw [b2] at this
      have := g.inj z (by omega) this
      omega
    · exact z
    · obtain ⟨b, b1, b2⟩ := g.2.2.2 (A n') (h.2.1 n' z).1
      have := u (b + 1) b (by omega) (by omega) b1
      rw [b2] at this
      have := h.inj (by omega) z this
      omega
  exact ⟨e, fun i hi => u (i + 1) i (by omega) hi (by omega)⟩
theorem AGE.cg {S : xS} {n : Nat} {A A' : Nat → Nat} (h : AGE S A n) (g : ∀ i, i < n → A' i = A i) : AGE S A' n := by
  obtain ⟨h0, h1, h2, h3⟩ := h
  refine ⟨h0, fun i hi => by rw [g i hi]; exact h1 i hi, fun i j hij hj => by rw [g i (by omega), g j hj]; exact h2 i j hij hj, fun p hp => ?_⟩
  obtain ⟨i, i1, i2⟩ := h3 p hp
  exact ⟨i, i1, by rw [g i i1]; exact i2⟩
