/-! ===== kin ===== -/
def par (S : xS) (c q : Nat) : Prop := wFa S c = (q : Int) ∨ wMo S c = (q : Int)
def lwr (u : Nat → Int) (q v : Int) (k : Nat) : Int := if (k : Int) = q ∧ (u k < 0 ∨ v < u k) then v else u k
def KI (S : xS) (p : Nat) (Pr : Nat → Prop) (u : Nat → Int) : Prop := (∀ q, q < 64 → -1 ≤ u q ∧ (0 ≤ u q → u q ≤ 63 - (q : Int) ∧ isP S (q : Int))) ∧ u p = 0 ∧ (∀ q, q < 64 → 0 ≤ u q → q = p ∨ ∃ c, Pr c ∧ isP S (c : Int) ∧ par S c q ∧ 0 ≤ u c ∧ u q = u c + 1) ∧ ∀ c q : Nat, Pr c → isP S (c : Int) → 0 ≤ u c → par S c q → 0 ≤ u q ∧ u q ≤ u c + 1
def KF (S : xS) (p : Nat) (u : Nat → Int) : Prop := ∃ Pr : Nat → Prop, KI S p Pr u ∧ ∀ c : Nat, isP S (c : Int) → 0 ≤ u c → Pr c
noncomputable def knF (u v : Nat → Int) : Nat → Int
  | 0 => -1
  | i + 1 => if u i < 0 ∨ v i < 0 then knF u v i else if knF u v i < 0 ∨ u i + v i < knF u v i then u i + v i else knF u v i
theorem knF_cg {u v u' v' : Nat → Int} : ∀ i, (∀ k, k < i → u k = u' k ∧ v k = v' k) → knF u v i = knF u' v' i := by
  intro i
  induction i with
  | zero => intro _; rfl
  | succ i ih =>
    intro h
    obtain ⟨h1, h2⟩ := h i (Nat.lt_succ_self i)
    unfold knF
    rw [ih (fun k hk => h k (by omega)), h1, h2]
theorem knF_ge {u v : Nat → Int} (hu : ∀ k, k < 64 → -1 ≤ u k ∧ u k ≤ 63) (hv : ∀ k, k < 64 → -1 ≤ v k ∧ v k ≤ 63) : ∀ i, i ≤ 64 → -1 ≤ knF u v i ∧ knF u v i ≤ 126 := by
  intro i
  induction i with
  | zero => intro _; exact ⟨Int.le_refl _, by show (-1 : Int) ≤ 126; decide⟩
  | succ i ih =>
    intro h
    have h1 := ih (by omega)
    have h2 := hu i (by omega)
    have h3 := hv i (by omega)
    unfold knF
    (repeat' split) <;> omega
section XK
variable {σ σ1 τ τ1 : xm_Mem} {S : xS} {A : Nat → Nat} {n : Nat} {m : Nat → Int64} {e : Nat → Nat} {p : Nat} {Pr Pr' : Nat → Prop} {u u' : Nat → Int}
theorem par_ok (hO : OK S) {c q : Nat} (hc : isP S (c : Int)) (h : par S c q) : isP S (q : Int) ∧ q < c ∧ older S q c := by
  unfold older
  rcases h with h | h
  · rcases hO.fa hc with y | ⟨y1, y2, y3, _⟩
    · omega
    · rw [h] at y1 y2 y3; exact ⟨y1, by omega, Or.inl (by omega)⟩
  · rcases hO.mo hc with y | ⟨y1, y2, y3, _⟩
    · omega
    · rw [h] at y1 y2 y3; exact ⟨y1, by omega, Or.inl (by omega)⟩
theorem lw2_no {x k : Nat} {v : Int} (h : ¬ par S x k) : lwr (lwr u (wFa S x) v) (wMo S x) v k = u k := by
  unfold par at h
  unfold lwr
  rw [if_neg (by omega), if_neg (by omega)]
theorem lw2_yes {x k : Nat} {v : Int} (hv : 0 ≤ v) (h : par S x k) : lwr (lwr u (wFa S x) v) (wMo S x) v k = if u k < 0 ∨ v < u k then v else u k := by
  unfold par at h
  unfold lwr
  by_cases a : (k : Int) = wFa S x
  · by_cases c : u k < 0 ∨ v < u k
    · rw [if_pos (show (k : Int) = wFa S x ∧ (u k < 0 ∨ v < u k) from ⟨a, c⟩), if_neg (show ¬ ((k : Int) = wMo S x ∧ (v < 0 ∨ v < v)) by omega), if_pos c]
    · rw [if_neg (show ¬ ((k : Int) = wFa S x ∧ (u k < 0 ∨ v < u k)) from fun z => c z.2), if_neg (show ¬ ((k : Int) = wMo S x ∧ (u k < 0 ∨ v < u k)) from fun z => c z.2), if_neg c]
  · rw [if_neg (show ¬ ((k : Int) = wFa S x ∧ (u k < 0 ∨ v < u k)) from fun z => a z.1)]
    have b : (k : Int) = wMo S x := by omega
    by_cases c : u k < 0 ∨ v < u k
    · rw [if_pos ⟨b, c⟩, if_pos c]
    · rw [if_neg (fun z => c z.2), if_neg c]
theorem ki_step (hO : OK S) (h : KI S p Pr u) {x : Nat} (hx : isP S (x : Int)) (hu : 0 ≤ u x) (hT : ∀ q : Nat, par S x q → ¬ Pr q) : KI S p (fun c => Pr c ∨ c = x) (lwr (lwr u (wFa S x) (u x + 1)) (wMo S x) (u x + 1)) := by
  obtain ⟨h1, h2, h3, h4⟩ := h
  have x64 := (isP_rg hO.1 hx).2.2
  have no := fun k (hk : ¬ par S x k) => lw2_no (u := u) (v := u x + 1) hk
  have yes := fun k (hk : par S x k) => lw2_yes (u := u) (v := u x + 1) (by omega) hk
  generalize lwr (lwr u (wFa S x) (u x + 1)) (wMo S x) (u x + 1) = w at no yes
  have wx : w x = u x := no x (fun z => by have := (par_ok hO hx z).2.1; omega)
  refine ⟨fun q hq => ?_, ?_, fun q hq h0 => ?_, fun c q hc hcp h0 hp => ?_⟩
  · by_cases z : par S x q
    · have y := yes q z
      obtain ⟨o1, o2, _⟩ := par_ok hO hx z
      have b := (h1 x (by omega)).2 hu
      have bq := h1 q hq
      rw [y]
      split
      · exact ⟨by omega, fun _ => ⟨by omega, o1⟩⟩
      · exact bq
    · rw [no q z]; exact h1 q hq
  · by_cases z : par S x p
    · rw [yes p z, if_neg (by omega)]; exact h2
    · rw [no p z]; exact h2
  · have old : 0 ≤ u q → w q = u q → q = p ∨ ∃ c, (Pr c ∨ c = x) ∧ isP S (c : Int) ∧ par S c q ∧ 0 ≤ w c ∧ w q = w c + 1 := by
      intro y1 y2
      rcases h3 q hq y1 with y | ⟨c, c1, c2, c3, c4, c5⟩
      · exact Or.inl y
      · have wc : w c = u c := no c (fun z => hT c z c1)
        exact Or.inr ⟨c, Or.inl c1, c2, c3, by omega, by omega⟩
    by_cases z : par S x q
    · have y := yes q z
      by_cases c : u q < 0 ∨ u x + 1 < u q
      · rw [if_pos c] at y
        exact Or.inr ⟨x, Or.inr rfl, hx, z, by omega, by omega⟩
      · rw [if_neg c] at y
        exact old (by omega) y
    · exact old (by rw [← no q z]; exact h0) (no q z)
  · rcases hc with hc | hc
    · have wc : w c = u c := no c (fun z => hT c z hc)
      have y := h4 c q hc hcp (by omega) hp
      by_cases z : par S x q
      · have y2 := yes q z
        split at y2 <;> omega
      · rw [no q z]; omega
    · subst hc
      have y := yes q hp
      split at y <;> omega
theorem ki_skip (h : KI S p Pr u) {x : Nat} (hu : ¬ 0 ≤ u x) : KI S p (fun c => Pr c ∨ c = x) u := by
  obtain ⟨h1, h2, h3, h4⟩ := h
  refine ⟨h1, h2, fun q hq h0 => ?_, fun c q hc hcp h0 hp => ?_⟩
  · rcases h3 q hq h0 with y | ⟨c, c1, c2⟩
    · exact Or.inl y
    · exact Or.inr ⟨c, Or.inl c1, c2⟩
  · rcases hc with hc | hc
    · exact h4 c q hc hcp h0 hp
    · subst hc; exact absurd h0 hu
theorem ki_cg (h : KI S p Pr u) (h1 : ∀ q, q < 64 → u' q = u q) (h2 : ∀ c, Pr' c ↔ Pr c) (hO : OK S) (hp : p < 64) : KI S p Pr' u' := by
  obtain ⟨a1, a2, a3, a4⟩ := h
  refine ⟨fun q hq => by rw [h1 q hq]; exact a1 q hq, by rw [h1 p hp]; exact a2, fun q hq h0 => ?_, fun c q hc hcp h0 hpr => ?_⟩
  · rw [h1 q hq] at h0 ⊢
    rcases a3 q hq h0 with y | ⟨c, c1, c2, c3, c4, c5⟩
    · exact Or.inl y
    · have c64 : c < 64 := by have := (isP_rg hO.1 c2).2.2; omega
      exact Or.inr ⟨c, (h2 c).mpr c1, c2, c3, by rw [h1 c c64]; exact c4, by rw [h1 c c64]; exact c5⟩
  · have c64 : c < 64 := by have := (isP_rg hO.1 hcp).2.2; omega
    have q64 : q < 64 := by have := (par_ok hO hcp hpr).2.1; omega
    rw [h1 c c64] at h0 ⊢
    rw [h1 q q64]
    exact a4 c q ((h2 c).mp hc) hcp h0 hpr
theorem ki_le (hO : OK S) (h : KI S p Pr u) (h' : KI S p Pr' u') (all : ∀ c : Nat, isP S (c : Int) → 0 ≤ u' c → Pr' c) {q : Nat} (hq : q < 64) (ih : ∀ c, q < c → c < 64 → u c = u' c) (h0 : 0 ≤ u q) : 0 ≤ u' q ∧ u' q ≤ u q := by
  rcases h.2.2.1 q hq h0 with y | ⟨c, c1, c2, c3, c4, c5⟩
  · subst y
    rw [h'.2.1]
    exact ⟨Int.le_refl _, h0⟩
  · have c64 : c < 64 := by have := (isP_rg hO.1 c2).2.2; omega
    have e := ih c (par_ok hO c2 c3).2.1 c64
    have := h'.2.2.2 c q (all c c2 (by omega)) c2 (by omega) c3
    omega
theorem kf_uniq (hO : OK S) (h : KF S p u) (h' : KF S p u') : ∀ q, q < 64 → u q = u' q := by
  obtain ⟨P1, h1, h2⟩ := h
  obtain ⟨P2, g1, g2⟩ := h'
  have key : ∀ k q, 64 - q ≤ k → q < 64 → u q = u' q := by
    intro k
    induction k with
    | zero => intro q h hq; omega
    | succ k ih =>
      intro q hk hq
      have ihc : ∀ c, q < c → c < 64 → u c = u' c := fun c c1 c2 => ih c (by omega) c2
      have b1 := (h1.1 q hq).1
      have b2 := (g1.1 q hq).1
      by_cases z : 0 ≤ u q
      · have y1 := ki_le hO h1 g1 g2 hq ihc z
        have y2 := ki_le hO g1 h1 h2 hq (fun c c1 c2 => (ihc c c1 c2).symm) y1.1
        omega
      · by_cases z2 : 0 ≤ u' q
        · have y2 := ki_le hO g1 h1 h2 hq (fun c c1 c2 => (ihc c c1 c2).symm) z2
          omega
        · omega
  exact fun q hq => key 64 q (by omega) hq
theorem ki_init {p : Nat} (hp : isP S (p : Int)) (hO : OK S) : KI S p (fun _ => False) (fun k => if k = p then 0 else -1) := by
  have p64 := (isP_rg hO.1 hp).2.2
  refine ⟨fun q hq => ?_, if_pos rfl, fun q hq h0 => ?_, fun c q hc => absurd hc id⟩
  · show -1 ≤ (if q = p then (0 : Int) else -1) ∧ (0 ≤ (if q = p then (0 : Int) else -1) → (if q = p then (0 : Int) else -1) ≤ 63 - (q : Int) ∧ isP S (q : Int))
    by_cases z : q = p
    · subst z
      rw [if_pos rfl]
      exact ⟨by omega, fun _ => ⟨by omega, hp⟩⟩
    · rw [if_neg z]
      exact ⟨by omega, fun y => absurd y (by omega)⟩
  · have h0 : 0 ≤ (if q = p then (0 : Int) else -1) := h0
    by_cases z : q = p
    · exact Or.inl z
    · rw [if_neg z] at h0; omega
end XK
