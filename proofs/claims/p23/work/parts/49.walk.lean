/-! ===== the reference's walk ===== -/
/-- the rule of a title -/
def rl (S : xS) (t : Nat) : Int := wW S (stb S t)
/-- who counts for a line on a day -/
def cnt (S : xS) (t : Nat) (d : Int) (p : Nat) : Prop := (wBorn S p ≤ d ∧ (wDead S p < 0 ∨ d < wDead S p)) ∧ ¬ (wYl S t p ≤ d) ∧ (rl S t ≠ 0 ∨ wMale S p)
noncomputable def cntL (S : xS) (t : Nat) (d : Int) (l : List Nat) : List Nat := l.filter (fun p => dc (cnt S t d p))
def zW (a k : Nat) : Prop := (a = 84 ∧ (k = 27 ∨ k = 28)) ∨ a = 101
theorem zWM : ∀ a k, zW a k → ¬ (a = 84 ∧ (k = 5 ∨ k = 14 ∨ k = 15)) ∧ ¬ (86 ≤ a ∧ a ≤ 94) := fun a k h => by unfold zW at h; omega
theorem zWR : ∀ a k, zW a k → ¬ (a = 84 ∧ k = 22) ∧ ¬ (96 ≤ a ∧ a ≤ 100) := fun a k h => by unfold zW at h; omega
/-- the walk's own cells -/
def WS (τ : xm_Mem) (S : xS) (t : Nat) (d : Int) (acc : List Nat) : Prop := (∀ q, q < 64 → (bt (τ.2.1 84 28) q ↔ q ∈ acc)) ∧ τ.1 84 27 = ((cntL S t d acc).length : Int) ∧ LA τ 101 0 (cntL S t d acc) ∧ ND acc
theorem cntL_len (S : xS) (t : Nat) (d : Int) (acc : List Nat) : (cntL S t d acc).length ≤ acc.length := List.length_filter_le _ _
section XW
variable {σ : xm_Mem} {S : xS} {A : Nat → Nat} {n : Nat} {m : Nat → Int64} {t : Nat} {d : Int}
theorem isT_t (hO : OK S) (ht : isT S (t : Int)) : t < 8 ∧ t < stn S ∧ stb S t < sn S ∧ stb S t < 200 ∧ wS S (stb S t) = 1 ∧ wK S (stb S t) = 4 ∧ w2 S (stb S t) = t := by
  have h1 := hO.1.t ht.1 ht.2.1
  have h2 := ht.2.2
  have h3 := ht.2.1
  have h4 := hO.1.n
  rw [Int.toNat_natCast] at h1 h2
  exact ⟨by omega, by omega, h1.1, by omega, h2, h1.2.1, h1.2.2.1⟩
theorem rl_rg (hO : OK S) (ht : isT S (t : Int)) : 0 ≤ rl S t ∧ rl S t ≤ 5 := (hO.1.2.1 _ (isT_t hO ht).2.2.1).2.2.2.1
theorem RO.p (hR : RO σ S A n m) (hA : AGE S A n) {p : Nat} (hp : isP S (p : Int)) : σ.1 96 p = xb (wLegit S p) ∧ σ.1 99 p = wDead S p ∧ σ.2.1 98 p = m p := by
  obtain ⟨i, i1, i2⟩ := hA.2.2.2 p hp
  have := hR.2.1 i i1
  rw [i2] at this
  exact this.2
/-- what one step down gives -/
def WR (S : xS) (t : Nat) (d : Int) (ko : Nat → List Nat) (τ : xm_Mem) (acc l : List Nat) (τ' : xm_Mem) : Prop := ∃ acc', gx zW τ τ' ∧ WS τ' S t d acc' ∧ ∀ st, goes ko (l ++ st, acc) (st, acc')
theorem up_run {α : Type} {b : α → α} {z : α} {app : α → xm_Mem → Nat → Option xm_Out} {K : xm_Mem → Option xm_Out} {g : Nat → Prop} {rec : xm_Mem → Int → Int → Int → Option xm_Out} {ko : Nat → List Nat} (hn : n ≤ 64)
    (hb : ∀ self τ i, gx zW σ τ → i < n → app (b self) τ i = @ite _ (g (A i)) (Classical.propDecidable _) ((rec τ (A i : Int) (t : Int) d).bind (fun o => app self o.1 (i + 1))) (app self τ (i + 1)))
    (he : ∀ self τ, gx zW σ τ → app (b self) τ n = K τ)
    (hrec : ∀ i τ acc, i < n → g (A i) → gx zW σ τ → WS τ S t d acc → ∃ τ', rec τ (A i : Int) (t : Int) d = some (τ', 0) ∧ WR S t d ko τ acc [A i] τ')
    {acc : List Nat} (h : WS σ S t d acc) : ∃ τ', app (xm_it b z xm_fuel) σ 0 = K τ' ∧ WR S t d ko σ acc ((pre A n).filter (fun c => dc (g c))) τ' := by
  refine it_T (γ := xm_Mem × Nat) b z (fun f a => app f a.1 a.2) (fun a => a.2 ≤ n ∧ WR S t d ko σ acc ((pre A a.2).filter (fun c => dc (g c))) a.1) (fun a => n - a.2) (fun r => ∃ τ', r = K τ' ∧ WR S t d ko σ acc ((pre A n).filter (fun c => dc (g c))) τ') ?_ xm_fuel (σ, 0) ⟨Nat.zero_le _, acc, gx.rf _ _, h, fun st => goes.rf _ _⟩ (xfu (by show n - 0 < _; omega))
  rintro self ⟨τ, i⟩ ⟨hi, acc1, h1, h2, h3⟩ ih
  replace hi : i ≤ n := hi
  replace h1 : gx zW σ τ := h1
  replace h2 : WS τ S t d acc1 := h2
  replace h3 : ∀ st, goes ko ((pre A i).filter (fun c => dc (g c)) ++ st, acc) (st, acc1) := h3
  show ∃ τ', app (b self) τ i = K τ' ∧ _
  by_cases c : i < n
  · rw [hb self τ i h1 c]
    by_cases y : g (A i)
    · obtain ⟨τ', a1, acc2, a2, a3, a4⟩ := hrec i τ acc1 c y h1 h2
      rw [if_pos y, a1, Option.bind_some]
      refine ih (τ', i + 1) ⟨c, acc2, h1.tr a2, a3, fun st => ?_⟩ (by show n - (i + 1) < n - i; omega)
      show goes ko ((pre A (i + 1)).filter (fun c => dc (g c)) ++ st, acc) (st, acc2)
      rw [pre_s, filt_y (dc_y y), List.append_assoc]
      exact (h3 _).tr (a4 st)
    · rw [if_neg y]
      refine ih (τ, i + 1) ⟨c, acc1, h1, h2, fun st => ?_⟩ (by show n - (i + 1) < n - i; omega)
      show goes ko ((pre A (i + 1)).filter (fun c => dc (g c)) ++ st, acc) (st, acc1)
      rw [pre_s, filt_n (fun z => y (dc_t.mp z))]
      exact h3 st
  · have e : i = n := by omega
    subst e
    rw [he self τ h1]
    exact ⟨τ, rfl, acc1, h1, h2, h3⟩
theorem dn_run {α : Type} {b : α → α} {z : α} {app : α → xm_Mem → Nat → Option xm_Out} {K : xm_Mem → Option xm_Out} {g : Nat → Prop} {rec : xm_Mem → Int → Int → Int → Option xm_Out} {ko : Nat → List Nat} (hn : n ≤ 64)
    (hb : ∀ self τ i, gx zW σ τ → i < n → app (b self) τ (i + 1) = @ite _ (g (A i)) (Classical.propDecidable _) ((rec τ (A i : Int) (t : Int) d).bind (fun o => app self o.1 i)) (app self τ i))
    (he : ∀ self τ, gx zW σ τ → app (b self) τ 0 = K τ)
    (hrec : ∀ i τ acc, i < n → g (A i) → gx zW σ τ → WS τ S t d acc → ∃ τ', rec τ (A i : Int) (t : Int) d = some (τ', 0) ∧ WR S t d ko τ acc [A i] τ')
    {acc : List Nat} (h : WS σ S t d acc) : ∃ τ', app (xm_it b z xm_fuel) σ n = K τ' ∧ WR S t d ko σ acc ((pre A n).filter (fun c => dc (g c))).reverse τ' := by
  refine it_T (γ := xm_Mem × Nat) b z (fun f a => app f a.1 a.2) (fun a => a.2 ≤ n ∧ ∃ acc', gx zW σ a.1 ∧ WS a.1 S t d acc' ∧ ∀ st, goes ko (((pre A n).filter (fun c => dc (g c))).reverse ++ st, acc) (((pre A a.2).filter (fun c => dc (g c))).reverse ++ st, acc')) (fun a => a.2) (fun r => ∃ τ', r = K τ' ∧ WR S t d ko σ acc ((pre A n).filter (fun c => dc (g c))).reverse τ') ?_ xm_fuel (σ, n) ⟨Nat.le_refl _, acc, gx.rf _ _, h, fun st => goes.rf _ _⟩ (xfu (by show n < _; omega))
  rintro self ⟨τ, i⟩ ⟨hi, acc1, h1, h2, h3⟩ ih
  replace hi : i ≤ n := hi
  replace h1 : gx zW σ τ := h1
  replace h2 : WS τ S t d acc1 := h2
  replace h3 : ∀ st, goes ko (((pre A n).filter (fun c => dc (g c))).reverse ++ st, acc) (((pre A i).filter (fun c => dc (g c))).reverse ++ st, acc1) := h3
  show ∃ τ', app (b self) τ i = K τ' ∧ _
  cases i with
  | zero =>
    rw [he self τ h1]
    exact ⟨τ, rfl, acc1, h1, h2, h3⟩
  | succ i =>
    have c : i < n := by omega
    rw [hb self τ i h1 c]
    by_cases y : g (A i)
    · obtain ⟨τ', a1, acc2, a2, a3, a4⟩ := hrec i τ acc1 c y h1 h2
      rw [if_pos y, a1, Option.bind_some]
      refine ih (τ', i) ⟨by show i ≤ n; omega, acc2, h1.tr a2, a3, fun st => ?_⟩ (Nat.lt_succ_self i)
      have h4 := h3 st
      rw [pre_s, filt_y (dc_y y), List.reverse_append, List.append_assoc] at h4
      exact h4.tr (a4 _)
    · rw [if_neg y]
      refine ih (τ, i) ⟨by show i ≤ n; omega, acc1, h1, h2, fun st => ?_⟩ (Nat.lt_succ_self i)
      have h4 := h3 st
      rw [pre_s, filt_n (fun z => y (dc_t.mp z))] at h4
      exact h4
theorem WR.tr {ko : Nat → List Nat} {τ τ' τ'' : xm_Mem} {acc acc' l l' : List Nat} (h1 : gx zW τ τ') (h2 : WS τ' S t d acc') (h3 : ∀ st, goes ko (l ++ st, acc) (st, acc')) (h : WR S t d ko τ' acc' l' τ'') : WR S t d ko τ acc (l ++ l') τ'' := by
  obtain ⟨acc2, g1, g2, g3⟩ := h
  exact ⟨acc2, h1.tr g1, g2, fun st => by rw [List.append_assoc]; exact (h3 _).tr (g3 st)⟩
end XW
