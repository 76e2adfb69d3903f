/-! ===== the same family: the same orders of bodies ===== -/
def SF (S S' : xS) : Prop := (∀ p : Int, isP S p ↔ isP S' p) ∧ ∀ p : Int, isP S p → (wBorn S' p = wBorn S p ∧ wFa S' p = wFa S p ∧ wMo S' p = wMo S p ∧ (wMale S' p ↔ wMale S p)) ∧ (wLegit S' p ↔ wLegit S p)
section XSF
variable {S S' : xS} {A A' : Nat → Nat} {n n' : Nat}
theorem sf_age (h : SF S S') (g : AGE S' A' n') : AGE S A' n' := by
  refine ⟨g.1, fun i hi => ⟨(h.1 _).mpr (g.2.1 i hi).1, (g.2.1 i hi).2⟩, fun i j hij hj => ?_, fun p hp => g.2.2.2 p ((h.1 _).mp hp)⟩
  have hi : i < n' := by omega
  have o := g.2.2.1 i j hij hj
  unfold older at o ⊢
  rw [(h.2 _ ((h.1 _).mpr (g.2.1 i hi).1)).1.1, (h.2 _ ((h.1 _).mpr (g.2.1 j hj).1)).1.1] at o
  exact o
theorem sf_pre (h : SF S S') (k : AGE S A n) (g : AGE S' A' n') : pre A n = pre A' n' := by
  obtain ⟨e1, e2⟩ := k.uniq (sf_age h g)
  rw [← e1]
  exact pre_cg n e2
theorem age_P (k : AGE S A n) {c : Nat} (hc : c ∈ pre A n) : isP S (c : Int) := by
  obtain ⟨i, hi, rfl⟩ := pre_mem.mp hc
  exact (k.2.1 i hi).1
theorem sf_ch (h : SF S S') {p c : Nat} (hc : isP S (c : Int)) : isCh S p c ↔ isCh S' p c := by
  obtain ⟨⟨_, h2, h3, _⟩, h5⟩ := h.2 _ hc
  unfold isCh
  rw [h2, h3, h5]
theorem sf_kidF (h : SF S S') (k : AGE S A n) (g : AGE S' A' n') {p : Nat} {f f' : Nat → Prop} (hf : ∀ c : Nat, isP S (c : Int) → (f c ↔ f' c)) : kidF S A n p f = kidF S' A' n' p f' := by
  unfold kidF
  rw [← sf_pre h k g]
  refine filter_cg (fun c hc => ?_)
  have := age_P k hc
  rw [sf_ch h this, hf c this]
theorem sf_kidL (h : SF S S') (k : AGE S A n) (g : AGE S' A' n') {p : Nat} : kidL S A n p = kidL S' A' n' p := by
  unfold kidL
  rw [← sf_pre h k g]
  refine filter_cg (fun c hc => ?_)
  exact sf_ch h (age_P k hc)
theorem sf_koL (h : SF S S') (k : AGE S A n) (g : AGE S' A' n') {rule : Int} {p : Nat} (hp : isP S (p : Int)) : koL S A n rule p = koL S' A' n' rule p := by
  have hm : ∀ c : Nat, isP S (c : Int) → (wMale S c ↔ wMale S' c) := fun c hc => (h.2 _ hc).1.2.2.2.symm
  have e1 : kidF S A n p (fun c => wMale S c) = kidF S' A' n' p (fun c => wMale S' c) := sf_kidF h k g hm
  have e2 : kidF S A n p (fun c => ¬ wMale S c) = kidF S' A' n' p (fun c => ¬ wMale S' c) := sf_kidF h k g (fun c hc => not_congr (hm c hc))
  unfold koL
  rw [e1, e2, sf_kidL h k g]
  by_cases m : wMale S p
  · rw [if_pos m, if_pos ((hm p hp).mp m)]
  · rw [if_neg m, if_neg (fun z => m ((hm p hp).mpr z))]
theorem koL_P (k : AGE S A n) {rule : Int} {p c : Nat} (hc : c ∈ koL S A n rule p) : isP S (c : Int) := by
  have := koL_mem hc
  unfold kidL at this
  exact age_P k (List.mem_filter.mp this).1
theorem wit_cg {ko ko' : Nat → List Nat} {Q : Nat → Prop} (h1 : ∀ p, Q p → ko p = ko' p) (h2 : ∀ p c, Q p → c ∈ ko p → Q c) : ∀ (N : Nat) (x : xW), (∀ p ∈ x.1, Q p) → wit ko N x = wit ko' N x := by
  intro N
  induction N with
  | zero => intro x _; rfl
  | succ N ih =>
    intro x hx
    show wit ko N (wst ko x) = wit ko' N (wst ko' x)
    obtain ⟨st, acc⟩ := x
    cases st with
    | nil => rw [wst_nil, wst_nil]; exact ih _ (fun p hp => absurd hp List.not_mem_nil)
    | cons p st =>
      have hq : Q p := hx p List.mem_cons_self
      by_cases hp : p ∈ acc
      · rw [wst_in hp, wst_in hp]
        exact ih _ (fun q hq' => hx q (List.mem_cons_of_mem _ hq'))
      · rw [wst_out hp, wst_out hp, ← h1 p hq]
        refine ih _ (fun q hq' => ?_)
        rcases List.mem_append.mp hq' with z | z
        · exact h2 p q hq z
        · exact hx q (List.mem_cons_of_mem _ z)
theorem sf_nr (h : SF S S') {root : Nat} : nrF S root = nrF S' root := by
  unfold nrF
  have e : NR S root = NR S' root := by
    funext f
    refine propext ⟨fun g => ⟨g.1, fun c hc hr => ?_⟩, fun g => ⟨g.1, fun c hc hr => ?_⟩⟩
    · have hc' := (h.1 _).mpr hc
      obtain ⟨⟨_, h2, h3, _⟩, h5⟩ := h.2 _ hc'
      have := g.2 c hc' hr
      rw [h2, h3, h5]
      exact this
    · obtain ⟨⟨_, h2, h3, _⟩, h5⟩ := h.2 _ hc
      have := g.2 c ((h.1 _).mp hc) hr
      rw [h2, h3, h5] at this
      exact this
  rw [e]
theorem sf_ord (h : SF S S') (k : AGE S A n) (g : AGE S' A' n') {rule : Int} {root : Nat} (hr : isP S (root : Int)) : ord S A n rule root = ord S' A' n' rule root := by
  unfold ord
  have e1 : ordN S A n root = ordN S' A' n' root := by
    unfold ordN
    have : ringN S A n root = ringN S' A' n' root := by
      unfold ringN
      rw [sf_pre h k g, sf_nr h]
    rw [this]
  have e2 : ordW S A n rule root = ordW S' A' n' rule root := by
    unfold ordW
    rw [wit_cg (Q := fun p => isP S (p : Int)) (fun p hp => sf_koL h k g hp) (fun p c _ hc => koL_P k hc) 129 ([root], []) (fun p hp => by
      have : p = root := List.mem_singleton.mp hp
      rw [this]; exact hr)]
  rw [e1, e2]
theorem goes_acc {ko : Nat → List Nat} : ∀ (N : Nat) (x : xW) (p : Nat), p ∈ x.2 → p ∈ (wit ko N x).2 := by
  intro N
  induction N with
  | zero => intro x p h; exact h
  | succ N ih =>
    intro x p h
    show p ∈ (wit ko N (wst ko x)).2
    refine ih _ p ?_
    obtain ⟨st, acc⟩ := x
    cases st with
    | nil => exact h
    | cons q st =>
      by_cases hq : q ∈ acc
      · rw [wst_in hq]; exact h
      · rw [wst_out hq]; exact List.mem_append_left _ h
theorem nr_ex (hO : OK S) (root : Nat) : ∃ f, NR S root f := by
  have key : ∀ N, ∃ f : Nat → Int, f root = 0 ∧ ∀ c : Nat, c < N → isP S (c : Int) → c ≠ root → (wLegit S c → f c = comb (f (wFa S c).toNat) (f (wMo S c).toNat)) ∧ (¬ wLegit S c → f c = -1) := by
    intro N
    induction N with
    | zero => exact ⟨fun _ => 0, rfl, fun c hc => absurd hc (Nat.not_lt_zero _)⟩
    | succ N ih =>
      obtain ⟨f, f0, f1⟩ := ih
      by_cases hr : N = root
      · exact ⟨f, f0, fun c hc hp hcr => f1 c (by omega) hp hcr⟩
      · refine ⟨fun x => if x = N then (@ite _ (wLegit S N) (Classical.propDecidable _) (comb (f (wFa S N).toNat) (f (wMo S N).toNat)) (-1)) else f x, ?_, fun c hc hp hcr => ?_⟩
        · show (if root = N then _ else f root) = 0
          rw [if_neg (fun z => hr z.symm)]
          exact f0
        · by_cases hcN : c = N
          · subst hcN
            refine ⟨fun l => ?_, fun l => ?_⟩
            · obtain ⟨⟨_, a2, _⟩, ⟨_, b2, _⟩, _⟩ := lg_par hO hp l
              show (if c = c then _ else f c) = comb (if (wFa S c).toNat = c then _ else f (wFa S c).toNat) (if (wMo S c).toNat = c then _ else f (wMo S c).toNat)
              rw [if_pos rfl, if_pos l, if_neg (by omega), if_neg (by omega)]
            · show (if c = c then _ else f c) = -1
              rw [if_pos rfl, if_neg l]
          · have g := f1 c (by omega) hp hcr
            refine ⟨fun l => ?_, fun l => ?_⟩
            · obtain ⟨⟨_, a2, _⟩, ⟨_, b2, _⟩, _⟩ := lg_par hO hp l
              show (if c = N then _ else f c) = comb (if (wFa S c).toNat = N then _ else f (wFa S c).toNat) (if (wMo S c).toNat = N then _ else f (wMo S c).toNat)
              rw [if_neg hcN, if_neg (by omega), if_neg (by omega)]
              exact g.1 l
            · show (if c = N then _ else f c) = -1
              rw [if_neg hcN]
              exact g.2 l
  obtain ⟨f, f0, f1⟩ := key 64
  exact ⟨f, f0, fun c hp hcr => f1 c (hO.rec hp).2.2.2.2.2 hp hcr⟩
theorem nr_root (hO : OK S) (root : Nat) : nrF S root root = 0 := (Classical.epsilon_spec (p := NR S root) (nr_ex hO root)).1
theorem root_ord (hO : OK S) (k : AGE S A n) {rule : Int} {root : Nat} (hr : isP S (root : Int)) : root ∈ ord S A n rule root := by
  unfold ord
  split
  · unfold ordN
    refine (nlist_mem 64).mpr ⟨0, by decide, ?_⟩
    unfold ringN
    obtain ⟨i, hi, e⟩ := k.2.2.2 root hr
    refine List.mem_filter.mpr ⟨pre_mem.mpr ⟨i, hi, e⟩, dc_y ?_⟩
    exact nr_root hO root
  · unfold ordW
    show root ∈ (wit _ 128 (wst _ ([root], []))).2
    rw [wst_out List.not_mem_nil]
    exact goes_acc _ _ _ (List.mem_append_right _ List.mem_cons_self)
end XSF
