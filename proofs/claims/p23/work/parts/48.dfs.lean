/-! ===== the order of a body, as both walk it ===== -/
noncomputable def kidF (S : xS) (A : Nat → Nat) (n p : Nat) (h : Nat → Prop) : List Nat := (pre A n).filter (fun c => dc (isCh S p c ∧ h c))
theorem kidF_eq (S : xS) (A : Nat → Nat) (p : Nat) (h : Nat → Prop) : ∀ n, (kidL S A n p).filter (fun c => dc (h c)) = kidF S A n p h := by
  intro n
  unfold kidL kidF
  rw [List.filter_filter]
  apply congrArg (fun f => List.filter f (pre A n))
  funext c
  by_cases a : isCh S p c
  · by_cases b : h c
    · rw [dc_y a, dc_y b, dc_y ⟨a, b⟩]; rfl
    · rw [dc_y a, dc_n b, dc_n (fun z => b z.2)]; rfl
  · rw [dc_n a, dc_n (fun z : isCh S p c ∧ h c => a z.1)]; simp
theorem kidF_len (S : xS) (A : Nat → Nat) (n p : Nat) (h : Nat → Prop) : (kidF S A n p h).length ≤ (kidL S A n p).length := by
  rw [← kidF_eq]; exact List.length_filter_le _ _
theorem kidF_two (S : xS) (A : Nat → Nat) (p : Nat) (h : Nat → Prop) : ∀ n, (kidF S A n p h).length + (kidF S A n p (fun c => ¬ h c)).length = (kidL S A n p).length := by
  intro n
  induction n with
  | zero => rfl
  | succ n ih =>
    unfold kidF kidL at *
    rw [pre_s]
    by_cases a : isCh S p (A n)
    · by_cases b : h (A n)
      · rw [filt_y (dc_y ⟨a, b⟩), filt_n (fun z => (dc_t.mp z).2 b), filt_y (dc_y a), List.length_append, List.length_append]
        omega
      · rw [filt_n (fun z => b (dc_t.mp z).2), filt_y (dc_y ⟨a, b⟩), filt_y (dc_y a), List.length_append, List.length_append]
        omega
    · rw [filt_n (fun z => a (dc_t.mp z).1), filt_n (fun z => a (dc_t.mp z).1), filt_n (fun z => a (dc_t.mp z))]
      exact ih
theorem kidF_mem {S : xS} {A : Nat → Nat} {n p c : Nat} {h : Nat → Prop} : c ∈ kidF S A n p h ↔ c ∈ kidL S A n p ∧ h c := by
  rw [← kidF_eq, List.mem_filter, dc_t]
/-- the children of one in the order in which they are gone to -/
noncomputable def koL (S : xS) (A : Nat → Nat) (n : Nat) (rule : Int) (p : Nat) : List Nat :=
  if rule = 0 then (@ite _ (wMale S p) (Classical.propDecidable _) (kidF S A n p (fun c => wMale S c)) [])
  else if rule = 3 then (kidL S A n p).reverse
  else if rule = 2 then kidL S A n p
  else kidF S A n p (fun c => wMale S c) ++ kidF S A n p (fun c => ¬ wMale S c)
theorem koL_len (S : xS) (A : Nat → Nat) (n : Nat) (rule : Int) (p : Nat) : (koL S A n rule p).length ≤ (kidL S A n p).length := by
  unfold koL
  by_cases h0 : rule = 0
  · rw [if_pos h0]
    by_cases m : wMale S p
    · rw [if_pos m]; exact kidF_len _ _ _ _ _
    · rw [if_neg m]; exact Nat.zero_le _
  · rw [if_neg h0]
    by_cases h3 : rule = 3
    · rw [if_pos h3, List.length_reverse]; exact Nat.le_refl _
    · rw [if_neg h3]
      by_cases h2 : rule = 2
      · rw [if_pos h2]; exact Nat.le_refl _
      · rw [if_neg h2, List.length_append, kidF_two]; exact Nat.le_refl _
theorem koL_mem {S : xS} {A : Nat → Nat} {n : Nat} {rule : Int} {p c : Nat} (h : c ∈ koL S A n rule p) : c ∈ kidL S A n p := by
  unfold koL at h
  by_cases h0 : rule = 0
  · rw [if_pos h0] at h
    by_cases m : wMale S p
    · rw [if_pos m] at h; exact (kidF_mem.mp h).1
    · rw [if_neg m] at h; exact absurd h List.not_mem_nil
  · rw [if_neg h0] at h
    by_cases h3 : rule = 3
    · rw [if_pos h3] at h; exact List.mem_reverse.mp h
    · rw [if_neg h3] at h
      by_cases h2 : rule = 2
      · rw [if_pos h2] at h; exact h
      · rw [if_neg h2] at h
        rcases List.mem_append.mp h with z | z
        · exact (kidF_mem.mp z).1
        · exact (kidF_mem.mp z).1
abbrev xW : Type := List Nat × List Nat
noncomputable def wst (ko : Nat → List Nat) (x : xW) : xW := match x.1 with
  | [] => x
  | p :: st => @ite _ (p ∈ x.2) (Classical.propDecidable _) (st, x.2) (ko p ++ st, x.2 ++ [p])
noncomputable def wit (ko : Nat → List Nat) : Nat → xW → xW
  | 0, x => x
  | k + 1, x => wit ko k (wst ko x)
theorem wst_nil (ko : Nat → List Nat) (acc : List Nat) : wst ko ([], acc) = ([], acc) := rfl
theorem wst_in {ko : Nat → List Nat} {p : Nat} {st acc : List Nat} (h : p ∈ acc) : wst ko (p :: st, acc) = (st, acc) := if_pos h
theorem wst_out {ko : Nat → List Nat} {p : Nat} {st acc : List Nat} (h : ¬ p ∈ acc) : wst ko (p :: st, acc) = (ko p ++ st, acc ++ [p]) := if_neg h
theorem wit_add (ko : Nat → List Nat) : ∀ a b x, wit ko (a + b) x = wit ko b (wit ko a x) := by
  intro a
  induction a with
  | zero => intro b x; rw [Nat.zero_add]; rfl
  | succ a ih => intro b x; rw [show a + 1 + b = (a + b) + 1 by omega]; show wit ko (a + b) (wst ko x) = wit ko b (wit ko a (wst ko x)); exact ih b _
theorem wit_s (ko : Nat → List Nat) (k : Nat) (x : xW) : wit ko (k + 1) x = wst ko (wit ko k x) := wit_add ko k 1 x
theorem wit_nil (ko : Nat → List Nat) (acc : List Nat) : ∀ k, wit ko k ([], acc) = ([], acc) := by
  intro k
  induction k with
  | zero => rfl
  | succ k ih => exact ih
def goes (ko : Nat → List Nat) (x y : xW) : Prop := ∃ k, wit ko k x = y
theorem goes.rf (ko : Nat → List Nat) (x : xW) : goes ko x x := ⟨0, rfl⟩
theorem goes.tr {ko : Nat → List Nat} {x y z : xW} (h : goes ko x y) (g : goes ko y z) : goes ko x z := by
  obtain ⟨a, ha⟩ := h
  obtain ⟨b, hb⟩ := g
  exact ⟨a + b, by rw [wit_add, ha, hb]⟩
theorem goes.one (ko : Nat → List Nat) (x : xW) : goes ko x (wst ko x) := ⟨1, rfl⟩
theorem goes_end {ko : Nat → List Nat} {x : xW} {acc : List Nat} {N : Nat} (h : goes ko x ([], acc)) (hN : (wit ko N x).1 = []) : wit ko N x = ([], acc) := by
  obtain ⟨k, hk⟩ := h
  by_cases c : k ≤ N
  · rw [show N = k + (N - k) by omega, wit_add, hk, wit_nil]
  · have e : wit ko N x = ([], (wit ko N x).2) := Prod.ext hN rfl
    rw [show k = N + (k - N) by omega, wit_add, e, wit_nil] at hk
    rw [e, ← hk]
/-- not twice, and numbers of persons -/
def ND (acc : List Nat) : Prop := cn (fun q => q ∈ acc) 64 = acc.length ∧ ∀ q, q ∈ acc → q < 64
theorem ND.nil : ND [] := ⟨cn_none 64 (fun _ _ h => List.not_mem_nil h), fun q h => absurd h List.not_mem_nil⟩
theorem ND.app {acc : List Nat} {p : Nat} (h : ND acc) (hp : p < 64) (hn : ¬ p ∈ acc) : ND (acc ++ [p]) ∧ acc.length < 64 := by
  have e : cn (fun q => q ∈ acc ++ [p]) 64 = cn (fun q => q ∈ acc) 64 + 1 := cn_one (P := fun q => q ∈ acc) (Q := fun q => q ∈ acc ++ [p]) (b := p) hn (fun i => by rw [List.mem_append, List.mem_singleton]) 64 hp
  have := cn_le (fun q => q ∈ acc ++ [p]) 64
  refine ⟨⟨by rw [e, h.1, List.length_append]; rfl, fun q hq => ?_⟩, by rw [← h.1]; omega⟩
  rcases List.mem_append.mp hq with z | z
  · exact h.2 q z
  · rw [List.mem_singleton] at z; omega
/-- what is still to be pushed -/
noncomputable def sA (ko : Nat → List Nat) (acc : List Nat) : Nat → Nat
  | 0 => 0
  | P + 1 => sA ko acc P + @ite _ (P ∈ acc) (Classical.propDecidable _) 0 (ko P).length
theorem sA_app {ko : Nat → List Nat} {acc : List Nat} {p : Nat} (hn : ¬ p ∈ acc) : ∀ P, sA ko (acc ++ [p]) P + (if p < P then (ko p).length else 0) = sA ko acc P := by
  intro P
  induction P with
  | zero => rfl
  | succ P ih =>
    show sA ko (acc ++ [p]) P + @ite _ (P ∈ acc ++ [p]) (Classical.propDecidable _) 0 (ko P).length + _ = sA ko acc P + @ite _ (P ∈ acc) (Classical.propDecidable _) 0 (ko P).length
    by_cases e : P = p
    · subst e
      rw [if_neg (Nat.lt_irrefl _)] at ih
      rw [if_pos (List.mem_append.mpr (Or.inr (List.mem_singleton.mpr rfl))), if_pos (Nat.lt_succ_self _), if_neg hn]
      omega
    · by_cases m : P ∈ acc
      · rw [if_pos (List.mem_append.mpr (Or.inl m)), if_pos m]
        have : (if p < P + 1 then (ko p).length else 0) = (if p < P then (ko p).length else 0) := by
          by_cases q : p < P
          · rw [if_pos q, if_pos (by omega)]
          · rw [if_neg q, if_neg (by omega)]
        omega
      · rw [if_neg (fun z => by
          rcases List.mem_append.mp z with z | z
          · exact m z
          · rw [List.mem_singleton] at z; exact e z), if_neg m]
        have : (if p < P + 1 then (ko p).length else 0) = (if p < P then (ko p).length else 0) := by
          by_cases q : p < P
          · rw [if_pos q, if_pos (by omega)]
          · rw [if_neg q, if_neg (by omega)]
        omega
theorem sA_le (S : xS) (A : Nat → Nat) (n : Nat) (rule : Int) : ∀ P, sA (koL S A n rule) [] P ≤ sK S A n P := by
  intro P
  induction P with
  | zero => exact Nat.le_refl _
  | succ P ih =>
    show sA (koL S A n rule) [] P + @ite _ (P ∈ []) (Classical.propDecidable _) 0 _ ≤ sK S A n P + _
    rw [if_neg (List.not_mem_nil)]
    have := koL_len S A n rule P
    omega
/-- the walk from a root, k steps on: what may be said of it -/
theorem wit_inv {S : xS} {A : Nat → Nat} {n : Nat} (hO : OK S) (hA : AGE S A n) (rule : Int) {root : Nat} (hr : root < 64) : ∀ k, k ≤ 129 → ((∀ q, q ∈ (wit (koL S A n rule) k ([root], [])).1 → q < 64) ∧ ND (wit (koL S A n rule) k ([root], [])).2) ∧ ((wit (koL S A n rule) k ([root], [])).1 = [] ∨ (wit (koL S A n rule) k ([root], [])).1.length + sA (koL S A n rule) (wit (koL S A n rule) k ([root], [])).2 64 + k ≤ 129) := by
  intro k
  induction k with
  | zero =>
    intro _
    refine ⟨⟨fun q h => ?_, ND.nil⟩, Or.inr ?_⟩
    · have h : q ∈ [root] := h
      rw [List.mem_singleton] at h; omega
    · have h1 := sA_le S A n rule 64
      have h2 := sK_le S A 64 n
      have h3 := hA.1
      show 1 + sA (koL S A n rule) [] 64 + 0 ≤ 129
      omega
  | succ k ih =>
    intro hk
    obtain ⟨⟨h1, h2⟩, h3⟩ := ih (by omega)
    rw [wit_s]
    generalize wit (koL S A n rule) k ([root], []) = x at h1 h2 h3
    obtain ⟨st, acc⟩ := x
    cases st with
    | nil => exact ⟨⟨h1, h2⟩, Or.inl rfl⟩
    | cons p st =>
      have hp : p < 64 := h1 p (List.mem_cons_self)
      rcases h3 with h3 | h3
      · exact absurd h3 (List.cons_ne_nil _ _)
      · have h3 : st.length + 1 + sA (koL S A n rule) acc 64 + k ≤ 129 := h3
        by_cases c : p ∈ acc
        · rw [wst_in c]
          exact ⟨⟨fun q hq => h1 q (List.mem_cons_of_mem _ hq), h2⟩, Or.inr (by show st.length + sA (koL S A n rule) acc 64 + (k + 1) ≤ 129; omega)⟩
        · rw [wst_out c]
          have e := sA_app (ko := koL S A n rule) c 64
          rw [if_pos hp] at e
          refine ⟨⟨fun q hq => ?_, (h2.app hp c).1⟩, Or.inr ?_⟩
          · rcases List.mem_append.mp hq with z | z
            · exact (kid_rg hO hA (koL_mem z)).2.2.1
            · exact h1 q (List.mem_cons_of_mem _ z)
          · show (koL S A n rule p ++ st).length + sA (koL S A n rule) (acc ++ [p]) 64 + (k + 1) ≤ 129
            rw [List.length_append]
            omega
theorem wit_done {S : xS} {A : Nat → Nat} {n : Nat} (hO : OK S) (hA : AGE S A n) (rule : Int) {root : Nat} (hr : root < 64) : (wit (koL S A n rule) 129 ([root], [])).1 = [] := by
  rcases (wit_inv hO hA rule hr 129 (Nat.le_refl _)).2 with h | h
  · exact h
  · exact List.length_eq_zero_iff.mp (by omega)
/-- all of a body in the order of a rule but near -/
noncomputable def ordW (S : xS) (A : Nat → Nat) (n : Nat) (rule : Int) (root : Nat) : List Nat := (wit (koL S A n rule) 129 ([root], [])).2
theorem ordW_of {S : xS} {A : Nat → Nat} {n : Nat} (hO : OK S) (hA : AGE S A n) {rule : Int} {root : Nat} (hr : root < 64) {acc : List Nat} (h : goes (koL S A n rule) ([root], []) ([], acc)) : ordW S A n rule root = acc := by
  unfold ordW
  rw [goes_end h (wit_done hO hA rule hr)]
