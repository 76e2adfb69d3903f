/-! ===== by writ: who is gone down to ===== -/
def hdI (l : List Nat) : Int := match l with
  | [] => -1
  | c :: _ => (c : Int)
def hdN (l : List Nat) : Nat := match l with
  | [] => 0
  | c :: _ => c
/-- somebody of the line is in one's body -/
def tch (m : Nat → Int64) (L : List Nat) (c : Nat) : Prop := ∃ q, q ∈ L ∧ bt (m c) q
noncomputable def sonL (S : xS) (A : Nat → Nat) (n : Nat) (m : Nat → Int64) (L : List Nat) (p : Nat) : List Nat := kidF S A n p (fun c => wMale S c ∧ tch m L c)
noncomputable def dauL (S : xS) (A : Nat → Nat) (n p : Nat) : List Nat := kidF S A n p (fun c => ¬ wMale S c)
abbrev xD : Type := (Nat → Prop) × List Nat × Int
def own (m : Nat → Int64) (x : xD) (c q : Nat) : Prop := bt (m c) q ∧ ¬ x.1 q
noncomputable def fstL (P : Nat → Prop) (L : List Nat) : Nat := hdN (L.filter (fun q => dc (P q)))
noncomputable def dstep (m : Nat → Int64) (L : List Nat) (x : xD) (c : Nat) : xD := @ite _ (∃ q, q ∈ L ∧ own m x c q) (Classical.propDecidable _) (fun q => x.1 q ∨ bt (m c) q, x.2.1 ++ [fstL (own m x c) L], (c : Int)) (fun q => x.1 q ∨ bt (m c) q, x.2)
noncomputable def dfold (m : Nat → Int64) (L l : List Nat) : xD := l.foldl (dstep m L) (fun _ => False, [], -1)
noncomputable def dscN (S : xS) (A : Nat → Nat) (n : Nat) (m : Nat → Int64) (L : List Nat) : Nat → Nat → Int × List Nat
  | 0, _ => (-1, [])
  | k + 1, p => @ite _ (p ∈ L) (Classical.propDecidable _) ((p : Int), [])
      (if (sonL S A n m L p).length = 0 then (if 1 < (dfold m L (dauL S A n p)).2.1.length then (-2, (dfold m L (dauL S A n p)).2.1) else dscN S A n m L k (dfold m L (dauL S A n p)).2.2.toNat) else dscN S A n m L k (hdN (sonL S A n m L p)))
/-- who takes a title of the rule writ, or -2 and the coheirs -/
noncomputable def dsc (S : xS) (A : Nat → Nat) (n : Nat) (m : Nat → Int64) (L : List Nat) (p : Nat) : Int × List Nat := dscN S A n m L 65 p
theorem dfold_s (m : Nat → Int64) (L l : List Nat) (c : Nat) : dfold m L (l ++ [c]) = dstep m L (dfold m L l) c := by
  unfold dfold
  rw [List.foldl_append]
  rfl
theorem hd_mem {l : List Nat} (h : l.length ≠ 0) : hdN l ∈ l ∧ hdI l = hdN l := by
  cases l with
  | nil => exact absurd rfl h
  | cons c l => exact ⟨List.mem_cons_self, rfl⟩
theorem hd_nil {l : List Nat} (h : l.length = 0) : hdI l = -1 := by
  cases l with
  | nil => rfl
  | cons c l => exact absurd h (Nat.succ_ne_zero _)
section XD
variable {S : xS} {A : Nat → Nat} {n : Nat} {m : Nat → Int64} {L : List Nat}
theorem dfold_len (m : Nat → Int64) (L : List Nat) (E : Nat → Nat) (f : Nat → Bool) : ∀ k, (dfold m L ((pre E k).filter f)).2.1.length ≤ k := by
  intro k
  induction k with
  | zero => exact Nat.le_refl _
  | succ k ih =>
    by_cases y : f (E k) = true
    · rw [pre_s, filt_y y, dfold_s]
      unfold dstep
      by_cases w : ∃ q, q ∈ L ∧ own m (dfold m L ((pre E k).filter f)) (E k) q
      · rw [if_pos w]
        show (_ ++ [_]).length ≤ k + 1
        rw [List.length_append]
        exact Nat.succ_le_succ ih
      · rw [if_neg w]; exact Nat.le_succ_of_le ih
    · rw [pre_s, filt_n y]; exact Nat.le_succ_of_le ih
/-- what the daughters gone through give -/
theorem dfold_inv (m : Nat → Int64) (L : List Nat) : ∀ l : List Nat, (∀ q, (dfold m L l).1 q ↔ ∃ c, c ∈ l ∧ bt (m c) q) ∧ ((dfold m L l).2.1.length = 0 → (dfold m L l).2.2 = -1 ∧ ∀ c, c ∈ l → ¬ tch m L c) ∧ ((dfold m L l).2.1.length ≠ 0 → ∃ c, c ∈ l ∧ tch m L c ∧ (dfold m L l).2.2 = (c : Int)) := by
  have key : ∀ k (l : List Nat), l.length = k → (∀ q, (dfold m L l).1 q ↔ ∃ c, c ∈ l ∧ bt (m c) q) ∧ ((dfold m L l).2.1.length = 0 → (dfold m L l).2.2 = -1 ∧ ∀ c, c ∈ l → ¬ tch m L c) ∧ ((dfold m L l).2.1.length ≠ 0 → ∃ c, c ∈ l ∧ tch m L c ∧ (dfold m L l).2.2 = (c : Int)) := by
    intro k
    induction k with
    | zero =>
      intro l hl
      have e : l = [] := List.length_eq_zero_iff.mp hl
      subst e
      exact ⟨fun q => ⟨fun h => h.elim, fun ⟨c, h, _⟩ => absurd h List.not_mem_nil⟩, fun _ => ⟨rfl, fun c h => absurd h List.not_mem_nil⟩, fun h => absurd rfl h⟩
    | succ k ih =>
      intro l hl
      obtain ⟨l', c, rfl⟩ : ∃ l' c, l = l' ++ [c] := by
        have hne : l ≠ [] := fun z => by rw [z] at hl; exact absurd hl (by simp)
        exact ⟨l.dropLast, l.getLast hne, (List.dropLast_concat_getLast hne).symm⟩
      rw [List.length_append] at hl
      have hl' : l'.length = k := by have : l'.length + 1 = k + 1 := hl; omega
      obtain ⟨i1, i2, i3⟩ := ih l' hl'
      rw [dfold_s]
      have b1 : ∀ q, (fun q => (dfold m L l').1 q ∨ bt (m c) q) q ↔ ∃ x, x ∈ l' ++ [c] ∧ bt (m x) q := by
        intro q
        show (dfold m L l').1 q ∨ bt (m c) q ↔ _
        rw [i1 q]
        constructor
        · rintro (⟨x, x1, x2⟩ | z)
          · exact ⟨x, List.mem_append.mpr (Or.inl x1), x2⟩
          · exact ⟨c, List.mem_append.mpr (Or.inr (List.mem_singleton.mpr rfl)), z⟩
        · rintro ⟨x, x1, x2⟩
          rcases List.mem_append.mp x1 with z | z
          · exact Or.inl ⟨x, z, x2⟩
          · rw [List.mem_singleton] at z; rw [z] at x2; exact Or.inr x2
      unfold dstep
      by_cases w : ∃ q, q ∈ L ∧ own m (dfold m L l') c q
      · rw [if_pos w]
        refine ⟨b1, fun h => ?_, fun _ => ?_⟩
        · have h : ((dfold m L l').2.1 ++ [_]).length = 0 := h
          rw [List.length_append] at h
          exact absurd h (Nat.succ_ne_zero _)
        · obtain ⟨q, q1, q2⟩ := w
          exact ⟨c, List.mem_append.mpr (Or.inr (List.mem_singleton.mpr rfl)), ⟨q, q1, q2.1⟩, rfl⟩
      · rw [if_neg w]
        refine ⟨b1, fun h => ?_, fun h => ?_⟩
        · obtain ⟨a1, a2⟩ := i2 h
          refine ⟨a1, fun x hx => ?_⟩
          rcases List.mem_append.mp hx with z | z
          · exact a2 x z
          · rw [List.mem_singleton] at z
            subst z
            rintro ⟨q, q1, q2⟩
            refine w ⟨q, q1, q2, fun y => ?_⟩
            obtain ⟨e, e1, e2⟩ := (i1 q).mp y
            exact a2 e e1 ⟨q, q1, e2⟩
        · obtain ⟨x, x1, x2⟩ := i3 h
          exact ⟨x, List.mem_append.mpr (Or.inl x1), x2⟩
  exact fun l => key l.length l rfl
/-- below one, who isn't in the line, but has somebody of it in the body, a child has -/
theorem tch_kid (hO : OK S) (hA : AGE S A n) (hm : BDY S A n m) {p : Nat} (hp : isP S (p : Int)) (hL : ∀ q, q ∈ L → q < 64) (ht : tch m L p) (hn : ¬ p ∈ L) : ∃ c, c ∈ kidL S A n p ∧ tch m L c := by
  obtain ⟨q, q1, q2⟩ := ht
  obtain ⟨i, i1, i2⟩ := hA.2.2.2 p hp
  rw [← i2] at q2
  rcases (hm i i1 q (hL q q1)).mp q2 with z | ⟨j, j1, j2, j3⟩
  · rw [z, i2] at q1; exact absurd q1 hn
  · rw [i2] at j2
    exact ⟨A j, kid_mem.mpr ⟨⟨j, j1, rfl⟩, j2⟩, q, q1, j3⟩
/-- the way down goes on -/
theorem dsc_next (hO : OK S) (hA : AGE S A n) (hm : BDY S A n m) {p : Nat} (hp : isP S (p : Int)) (hL : ∀ q, q ∈ L → q < 64) (ht : tch m L p) (hn : ¬ p ∈ L) :
    ((sonL S A n m L p).length ≠ 0 → hdN (sonL S A n m L p) ∈ kidL S A n p ∧ tch m L (hdN (sonL S A n m L p))) ∧
    ((sonL S A n m L p).length = 0 → (dfold m L (dauL S A n p)).2.1.length ≠ 0 ∧ ∃ c : Nat, (dfold m L (dauL S A n p)).2.2 = (c : Int) ∧ c ∈ kidL S A n p ∧ tch m L c) := by
  constructor
  · intro h
    have := (hd_mem h).1
    have k := kidF_mem.mp this
    exact ⟨k.1, k.2.2⟩
  · intro h
    obtain ⟨c, c1, c2⟩ := tch_kid hO hA hm hp hL ht hn
    have nm : ¬ wMale S c := fun z => by
      have : c ∈ sonL S A n m L p := kidF_mem.mpr ⟨c1, z, c2⟩
      rw [List.length_eq_zero_iff.mp h] at this
      exact absurd this List.not_mem_nil
    have cd : c ∈ dauL S A n p := kidF_mem.mpr ⟨c1, nm⟩
    obtain ⟨i1, i2, i3⟩ := dfold_inv m L (dauL S A n p)
    have hne : (dfold m L (dauL S A n p)).2.1.length ≠ 0 := fun z => (i2 z).2 c cd c2
    obtain ⟨x, x1, x2, x3⟩ := i3 hne
    exact ⟨hne, x, x3, (kidF_mem.mp x1).1, x2⟩
/-- steps enough are enough -/
theorem dscN_fuel (hO : OK S) (hA : AGE S A n) (hm : BDY S A n m) (hL : ∀ q, q ∈ L → q < 64) : ∀ d k k' p : Nat, isP S (p : Int) → tch m L p → 64 - p ≤ d → 64 - p ≤ k → 64 - p ≤ k' → dscN S A n m L k p = dscN S A n m L k' p := by
  intro d
  induction d with
  | zero => intro k k' p hp _ h; have := (hO.rec hp).2.2.2.2.2; exact absurd h (by omega)
  | succ d ih =>
    intro k k' p hp ht h h1 h2
    have p64 := (hO.rec hp).2.2.2.2.2
    obtain ⟨k, rfl⟩ : ∃ x, k = x + 1 := ⟨k - 1, by omega⟩
    obtain ⟨k', rfl⟩ : ∃ x, k' = x + 1 := ⟨k' - 1, by omega⟩
    unfold dscN
    by_cases c : p ∈ L
    · rw [if_pos c, if_pos c]
    · rw [if_neg c, if_neg c]
      obtain ⟨n1, n2⟩ := dsc_next hO hA hm hp hL ht c
      by_cases s : (sonL S A n m L p).length = 0
      · rw [if_pos s, if_pos s]
        obtain ⟨_, x, x1, x2, x3⟩ := n2 s
        have kr := kid_rg hO hA x2
        by_cases o : 1 < (dfold m L (dauL S A n p)).2.1.length
        · rw [if_pos o, if_pos o]
        · rw [if_neg o, if_neg o, x1, Int.toNat_natCast]
          exact ih k k' x kr.1 x3 (by omega) (by omega) (by omega)
      · rw [if_neg s, if_neg s]
        obtain ⟨x2, x3⟩ := n1 s
        have kr := kid_rg hO hA x2
        exact ih k k' _ kr.1 x3 (by omega) (by omega) (by omega)
theorem dsc_in {p : Nat} (h : p ∈ L) : dsc S A n m L p = ((p : Int), []) := if_pos h
theorem dsc_step (hO : OK S) (hA : AGE S A n) (hm : BDY S A n m) (hL : ∀ q, q ∈ L → q < 64) {p : Nat} (hp : isP S (p : Int)) (ht : tch m L p) (hn : ¬ p ∈ L) :
    dsc S A n m L p = if (sonL S A n m L p).length = 0 then (if 1 < (dfold m L (dauL S A n p)).2.1.length then (-2, (dfold m L (dauL S A n p)).2.1) else dsc S A n m L (dfold m L (dauL S A n p)).2.2.toNat) else dsc S A n m L (hdN (sonL S A n m L p)) := by
  have p64 := (hO.rec hp).2.2.2.2.2
  obtain ⟨n1, n2⟩ := dsc_next hO hA hm hp hL ht hn
  unfold dsc
  conv => lhs; unfold dscN
  rw [if_neg hn]
  by_cases s : (sonL S A n m L p).length = 0
  · rw [if_pos s, if_pos s]
    obtain ⟨_, x, x1, x2, x3⟩ := n2 s
    have kr := kid_rg hO hA x2
    by_cases o : 1 < (dfold m L (dauL S A n p)).2.1.length
    · rw [if_pos o, if_pos o]
    · rw [if_neg o, if_neg o, x1, Int.toNat_natCast]
      exact dscN_fuel hO hA hm hL 64 64 65 x kr.1 x3 (by omega) (by omega) (by omega)
  · rw [if_neg s, if_neg s]
    obtain ⟨x2, x3⟩ := n1 s
    have kr := kid_rg hO hA x2
    exact dscN_fuel hO hA hm hL 64 64 65 _ kr.1 x3 (by omega) (by omega) (by omega)
/-- all of an order are in the root's body -/
theorem bdy_tr (hO : OK S) (hA : AGE S A n) (hm : BDY S A n m) : ∀ (dd i : Nat), i < n → n - i ≤ dd → ∀ p c : Nat, p < 64 → bt (m (A i)) p → c ∈ kidL S A n p → bt (m (A i)) c := by
  intro dd
  induction dd with
  | zero => intro i hi h; exact absurd h (by omega)
  | succ dd ih =>
    intro i hi hd p c hp hb hc
    have kr := kid_rg hO hA hc
    obtain ⟨⟨j, j1, j2⟩, j3⟩ := kid_mem.mp hc
    rw [hm i hi c kr.2.2.1]
    rcases (hm i hi p hp).mp hb with z | ⟨x, x1, x2, x3⟩
    · right
      refine ⟨j, j1, by rw [j2, ← z]; exact j3, ?_⟩
      rw [j2]
      have := (hm j j1 c kr.2.2.1)
      rw [j2] at this
      exact this.mpr (Or.inl rfl)
    · right
      have := ch_idx hO hA hi x1 x2
      exact ⟨x, x1, x2, ih x x1 (by omega) p c hp x3 hc⟩
theorem ord_body (hO : OK S) (hA : AGE S A n) (hm : BDY S A n m) {root : Nat} (hroot : isP S (root : Int)) {rule : Int} (hr4 : rule ≠ 4) {q : Nat} (hq : q ∈ ord S A n rule root) : bt (m root) q := by
  unfold ord at hq
  rw [if_neg hr4] at hq
  obtain ⟨i, i1, i2⟩ := hA.2.2.2 root hroot
  have key : ∀ k, (∀ q, q ∈ (wit (koL S A n rule) k ([root], [])).1 → bt (m root) q) ∧ ∀ q, q ∈ (wit (koL S A n rule) k ([root], [])).2 → bt (m root) q := by
    intro k
    induction k with
    | zero =>
      refine ⟨fun q h => ?_, fun q h => absurd h List.not_mem_nil⟩
      have h : q ∈ [root] := h
      rw [List.mem_singleton] at h
      rw [h]
      have := hm i i1 root (hO.rec hroot).2.2.2.2.2
      rw [i2] at this
      exact this.mpr (Or.inl rfl)
    | succ k ih =>
      have hP := wit_isP hO hA rule hroot k
      obtain ⟨h1, h2⟩ := ih
      rw [wit_s]
      generalize wit (koL S A n rule) k ([root], []) = x at h1 h2 hP
      obtain ⟨st, acc⟩ := x
      cases st with
      | nil => exact ⟨h1, h2⟩
      | cons p st =>
        have hb := h1 p List.mem_cons_self
        have hpp := hP.1 p List.mem_cons_self
        by_cases c : p ∈ acc
        · rw [wst_in c]
          exact ⟨fun q hq => h1 q (List.mem_cons_of_mem _ hq), h2⟩
        · rw [wst_out c]
          refine ⟨fun q hq => ?_, fun q hq => ?_⟩
          · rcases List.mem_append.mp hq with z | z
            · have := bdy_tr hO hA hm (n - i) i i1 (Nat.le_refl _) p q (hO.rec hpp).2.2.2.2.2 (by rw [i2]; exact hb) (koL_mem z)
              rw [i2] at this
              exact this
            · exact h1 q (List.mem_cons_of_mem _ z)
          · rcases List.mem_append.mp hq with z | z
            · exact h2 q z
            · rw [List.mem_singleton] at z; rw [z]; exact hb
  exact (key 129).2 q hq
end XD
