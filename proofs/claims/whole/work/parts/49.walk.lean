/-! ===== the reference's walk ===== -/
/-- the rule of a title -/
def rl (S : xS) (t : Nat) : Int := wW S (stb S t)
/-- who counts for a line on a day -/
def cnt (S : xS) (t : Nat) (d : Int) (p : Nat) : Prop := (wBorn S p ≤ d ∧ (wDead S p < 0 ∨ d < wDead S p)) ∧ ¬ (wYl S t p ≤ d) ∧ (rl S t ≠ 0 ∨ wMale S p)
noncomputable def cntL (S : xS) (t : Nat) (d : Int) (l : List Nat) : List Nat := l.filter (fun p => dc (cnt S t d p))
def zW (a k : Nat) : Prop := (a = 84 ∧ (k = 27 ∨ k = 28)) ∨ a = 101
theorem zWM : ∀ a k, zW a k → ¬ (a = 84 ∧ (k = 5 ∨ k = 14 ∨ k = 15)) ∧ ¬ (86 ≤ a ∧ a ≤ 94) := fun a k h => by unfold zW at h; omega
theorem zWR : ∀ a k, zW a k → ¬ (a = 84 ∧ k = 22) ∧ ¬ (96 ≤ a ∧ a ≤ 100) := fun a k h => by unfold zW at h; omega
/-- the walk's own cells -/
def WS (τ : xm_Mem) (S : xS) (t : Nat) (d : Int) (acc : List Nat) : Prop := (∀ q, q < 64 → (bt (τ.2.1 84 28) q ↔ q ∈ acc)) ∧ τ.1 84 27 = ((cntL S t d acc).length : Int) ∧ LA τ 101 0 (cntL S t d acc) ∧ ND acc
theorem cntL_len (S : xS) (t : Nat) (d : Int) (acc : List Nat) : (cntL S t d acc).length ≤ acc.length := List.length_filter_le _ _
section XW
variable {σ : xm_Mem} {S : xS} {A : Nat → Nat} {n : Nat} {m : Nat → Int64} {t : Nat} {d : Int}
theorem isT_t (hO : OK S) (ht : isT S (t : Int)) : t < 8 ∧ t < stn S ∧ stb S t < sn S ∧ stb S t < 200 ∧ wS S (stb S t) = 1 ∧ wK S (stb S t) = 4 ∧ w2 S (stb S t) = t := by
  have h1 := hO.1.t ht.1 ht.2.1
  have h2 := ht.2.2
  have h3 := ht.2.1
  have h4 := hO.1.n
  rw [Int.toNat_natCast] at h1 h2
  exact ⟨by omega, by omega, h1.1, by omega, h2, h1.2.1, h1.2.2.1⟩
theorem rl_rg (hO : OK S) (ht : isT S (t : Int)) : 0 ≤ rl S t ∧ rl S t ≤ 5 := (hO.1.2.1 _ (isT_t hO ht).2.2.1).2.2.2.1
theorem RO.p (hR : RO σ S A n m) (hA : AGE S A n) {p : Nat} (hp : isP S (p : Int)) : σ.1 96 p = xb (wLegit S p) ∧ σ.1 99 p = wDead S p ∧ σ.2.1 98 p = m p := by
  obtain ⟨i, i1, i2⟩ := hA.2.2.2 p hp
  have := hR.2.1 i i1
  rw [i2] at this
  exact this.2
theorem m_isAlive (hO : OK S) (hA : AGE S A n) (hM : MS σ S) (hR : RO σ S A n m) {p : Nat} (hp : isP S (p : Int)) (d : Int) : f_X11_isAlive σ (p : Int) d = some (σ, xb (wBorn S p ≤ d ∧ (wDead S p < 0 ∨ d < wDead S p))) := by
  unfold f_X11_isAlive
  have r := isP_rg hO.1 hp
  have hg : 0 ≤ (p : Int) ∧ (p : Int) < 64 := ⟨r.1, r.2.2⟩
  simp only [m_bornOn hO.1 hM hp.1 hp.2.1, Option.bind_some, if_pos hg, Int.toNat_natCast, (hR.p hA hp).2.1]
  (repeat' split) <;> first | (exfalso; omega) | (rw [xb_pos (by omega)]; done) | (rw [xb_neg (by omega)]; done)
theorem m_hasYielded (hR : RO σ S A n m) {p : Nat} (hp : p < 64) (ht : t < 8) (d : Int) : f_X11_hasYielded σ (p : Int) (t : Int) d = some (σ, xb (wYl S t p ≤ d)) := by
  unfold f_X11_hasYielded
  have e : xm_w (xm_w (64 * (t : Int)) + (p : Int)) = ((64 * t + p : Nat) : Int) := by
    rw [xp_w (x := 64 * (t : Int)) (by omega) (by omega), xp_w (by omega) (by omega)]; omega
  rw [e, xvl, if_pos ⟨by omega, by omega⟩, Int.toNat_natCast, hR.2.2 t p ht hp]
  (repeat' split) <;> first | (rw [xb_pos (by omega)]; done) | (rw [xb_neg (by omega)]; done)
theorem m_counts (hO : OK S) (hA : AGE S A n) (hM : MS σ S) (hR : RO σ S A n m) (ht : isT S (t : Int)) {p : Nat} (hp : isP S (p : Int)) (d : Int) : f_X11_counts σ (p : Int) (t : Int) d = some (σ, xb (cnt S t d p)) := by
  unfold f_X11_counts cnt rl
  have r := isP_rg hO.1 hp
  obtain ⟨t1, t2, t3, t4, _⟩ := isT_t hO ht
  have hg8 : 0 ≤ (t : Int) ∧ (t : Int) < 8 := ⟨by omega, by omega⟩
  have e94 := hM.2.2.2.2.2 t t2
  have hg2 : 0 ≤ ((stb S t : Nat) : Int) ∧ ((stb S t : Nat) : Int) < 200 := ⟨by omega, by omega⟩
  have e91 := (hM.2.2.2.1 _ t3).2.2.2.2.2.1
  simp only [m_isAlive hO hA hM hR hp, Option.bind_some, m_hasYielded hR (show p < 64 by omega) t1, xbi, if_pos hg8, xvl, Int.toNat_natCast, e94, if_pos hg2, e91, m_isMale hO.1 hM hp.1 hp.2.1]
  by_cases a : wBorn S p ≤ d ∧ (wDead S p < 0 ∨ d < wDead S p)
  · rw [if_pos a]
    by_cases b : wYl S t p ≤ d
    · rw [if_pos b, xb_neg (fun z => z.2.1 b)]
    · rw [if_neg b]
      by_cases c : wW S (stb S t) = 0
      · rw [if_pos c]
        by_cases e : wMale S p
        · rw [if_pos e, xb_pos ⟨a, b, Or.inr e⟩]
        · rw [if_neg e, xb_neg (fun z => z.2.2.elim (fun y => y c) e)]
      · rw [if_neg c, xb_pos ⟨a, b, Or.inl c⟩]
  · rw [if_neg a, xb_neg (fun z => a z.1)]
/-- what one step down gives -/
def WR (S : xS) (t : Nat) (d : Int) (ko : Nat → List Nat) (τ : xm_Mem) (acc l : List Nat) (τ' : xm_Mem) : Prop := ∃ acc', gx zW τ τ' ∧ WS τ' S t d acc' ∧ ∀ st, goes ko (l ++ st, acc) (st, acc')
theorem up_run {α : Type} {b : α → α} {z : α} {app : α → xm_Mem → Nat → Option xm_Out} {K : xm_Mem → Option xm_Out} {g : Nat → Prop} {rec : xm_Mem → Int → Int → Int → Option xm_Out} {ko : Nat → List Nat} (hn : n ≤ 64)
    (hb : ∀ self τ i, gx zW σ τ → i < n → app (b self) τ i = @ite _ (g (A i)) (Classical.propDecidable _) ((rec τ (A i : Int) (t : Int) d).bind (fun o => app self o.1 (i + 1))) (app self τ (i + 1)))
    (he : ∀ self τ, gx zW σ τ → app (b self) τ n = K τ)
    (hrec : ∀ i τ acc, i < n → g (A i) → gx zW σ τ → WS τ S t d acc → ∃ τ', rec τ (A i : Int) (t : Int) d = some (τ', 0) ∧ WR S t d ko τ acc [A i] τ')
    {acc : List Nat} (h : WS σ S t d acc) : ∃ τ', app (xm_it b z xm_fuel) σ 0 = K τ' ∧ WR S t d ko σ acc ((pre A n).filter (fun c => dc (g c))) τ' := by
  refine it_T (γ := xm_Mem × Nat) b z (fun f a => app f a.1 a.2) (fun a => a.2 ≤ n ∧ WR S t d ko σ acc ((pre A a.2).filter (fun c => dc (g c))) a.1) (fun a => n - a.2) (fun r => ∃ τ', r = K τ' ∧ WR S t d ko σ acc ((pre A n).filter (fun c => dc (g c))) τ') ?_ xm_fuel (σ, 0) ⟨Nat.zero_le _, acc, gx.rf _ _, h, fun st => goes.rf _ _⟩ (xfu (by show n - 0 < _; omega))
  rintro self ⟨τ, i⟩ ⟨hi, acc1, h1, h2, h3⟩ ih
  replace hi : i ≤ n := hi
  replace h1 : gx zW σ τ := h1
  replace h2 : WS τ S t d acc1 := h2
  replace h3 : ∀ st, goes ko ((pre A i).filter (fun c => dc (g c)) ++ st, acc) (st, acc1) := h3
  show ∃ τ', app (b self) τ i = K τ' ∧ _
  by_cases c : i < n
  · rw [hb self τ i h1 c]
    by_cases y : g (A i)
    · obtain ⟨τ', a1, acc2, a2, a3, a4⟩ := hrec i τ acc1 c y h1 h2
      rw [if_pos y, a1, Option.bind_some]
      refine ih (τ', i + 1) ⟨c, acc2, h1.tr a2, a3, fun st => ?_⟩ (by show n - (i + 1) < n - i; omega)
      show goes ko ((pre A (i + 1)).filter (fun c => dc (g c)) ++ st, acc) (st, acc2)
      rw [pre_s, filt_y (dc_y y), List.append_assoc]
      exact (h3 _).tr (a4 st)
    · rw [if_neg y]
      refine ih (τ, i + 1) ⟨c, acc1, h1, h2, fun st => ?_⟩ (by show n - (i + 1) < n - i; omega)
      show goes ko ((pre A (i + 1)).filter (fun c => dc (g c)) ++ st, acc) (st, acc1)
      rw [pre_s, filt_n (fun z => y (dc_t.mp z))]
      exact h3 st
  · have e : i = n := by omega
    subst e
    rw [he self τ h1]
    exact ⟨τ, rfl, acc1, h1, h2, h3⟩
theorem dn_run {α : Type} {b : α → α} {z : α} {app : α → xm_Mem → Nat → Option xm_Out} {K : xm_Mem → Option xm_Out} {g : Nat → Prop} {rec : xm_Mem → Int → Int → Int → Option xm_Out} {ko : Nat → List Nat} (hn : n ≤ 64)
    (hb : ∀ self τ i, gx zW σ τ → i < n → app (b self) τ (i + 1) = @ite _ (g (A i)) (Classical.propDecidable _) ((rec τ (A i : Int) (t : Int) d).bind (fun o => app self o.1 i)) (app self τ i))
    (he : ∀ self τ, gx zW σ τ → app (b self) τ 0 = K τ)
    (hrec : ∀ i τ acc, i < n → g (A i) → gx zW σ τ → WS τ S t d acc → ∃ τ', rec τ (A i : Int) (t : Int) d = some (τ', 0) ∧ WR S t d ko τ acc [A i] τ')
    {acc : List Nat} (h : WS σ S t d acc) : ∃ τ', app (xm_it b z xm_fuel) σ n = K τ' ∧ WR S t d ko σ acc ((pre A n).filter (fun c => dc (g c))).reverse τ' := by
  refine it_T (γ := xm_Mem × Nat) b z (fun f a => app f a.1 a.2) (fun a => a.2 ≤ n ∧ ∃ acc', gx zW σ a.1 ∧ WS a.1 S t d acc' ∧ ∀ st, goes ko (((pre A n).filter (fun c => dc (g c))).reverse ++ st, acc) (((pre A a.2).filter (fun c => dc (g c))).reverse ++ st, acc')) (fun a => a.2) (fun r => ∃ τ', r = K τ' ∧ WR S t d ko σ acc ((pre A n).filter (fun c => dc (g c))).reverse τ') ?_ xm_fuel (σ, n) ⟨Nat.le_refl _, acc, gx.rf _ _, h, fun st => goes.rf _ _⟩ (xfu (by show n < _; omega))
  rintro self ⟨τ, i⟩ ⟨hi, acc1, h1, h2, h3⟩ ih
  replace hi : i ≤ n := hi
  replace h1 : gx zW σ τ := h1
  replace h2 : WS τ S t d acc1 := h2
  replace h3 : ∀ st, goes ko (((pre A n).filter (fun c => dc (g c))).reverse ++ st, acc) (((pre A i).filter (fun c => dc (g c))).reverse ++ st, acc1) := h3
  show ∃ τ', app (b self) τ i = K τ' ∧ _
  cases i with
  | zero =>
    rw [he self τ h1]
    exact ⟨τ, rfl, acc1, h1, h2, h3⟩
  | succ i =>
    have c : i < n := by omega
    rw [hb self τ i h1 c]
    by_cases y : g (A i)
    · obtain ⟨τ', a1, acc2, a2, a3, a4⟩ := hrec i τ acc1 c y h1 h2
      rw [if_pos y, a1, Option.bind_some]
      refine ih (τ', i) ⟨by show i ≤ n; omega, acc2, h1.tr a2, a3, fun st => ?_⟩ (Nat.lt_succ_self i)
      have h4 := h3 st
      rw [pre_s, filt_y (dc_y y), List.reverse_append, List.append_assoc] at h4
      exact h4.tr (a4 _)
    · rw [if_neg y]
      refine ih (τ, i) ⟨by show i ≤ n; omega, acc1, h1, h2, fun st => ?_⟩ (Nat.lt_succ_self i)
      have h4 := h3 st
      rw [pre_s, filt_n (fun z => y (dc_t.mp z))] at h4
      exact h4
theorem WR.tr {ko : Nat → List Nat} {τ τ' τ'' : xm_Mem} {acc acc' l l' : List Nat} (h1 : gx zW τ τ') (h2 : WS τ' S t d acc') (h3 : ∀ st, goes ko (l ++ st, acc) (st, acc')) (h : WR S t d ko τ' acc' l' τ'') : WR S t d ko τ acc (l ++ l') τ'' := by
  obtain ⟨acc2, g1, g2, g3⟩ := h
  exact ⟨acc2, h1.tr g1, g2, fun st => by rw [List.append_assoc]; exact (h3 _).tr (g3 st)⟩
/-- the ways down from one, each child as a step down is -/
theorem m_downs (hO : OK S) (hA : AGE S A n) (hM : MS σ S) (hR : RO σ S A n m) (ht : isT S (t : Int)) (h4 : rl S t ≠ 4) {p : Nat} (hp : isP S (p : Int)) {rec : xm_Mem → Int → Int → Int → Option xm_Out}
    (hrec : ∀ c τ acc, c ∈ kidL S A n p → gx zW σ τ → WS τ S t d acc → ∃ τ', rec τ (c : Int) (t : Int) d = some (τ', 0) ∧ WR S t d (koL S A n (rl S t)) τ acc [c] τ')
    {acc : List Nat} (h : WS σ S t d acc) : ∃ τ', f_X11_walk_j58 rec σ (p : Int) (t : Int) d = some (τ', 0) ∧ WR S t d (koL S A n (rl S t)) σ acc (koL S A n (rl S t) p) τ' := by
  have hn := hA.1
  obtain ⟨t1, t2, t3, t4, _⟩ := isT_t hO ht
  have hrg := rl_rg hO ht
  have e94 := hM.2.2.2.2.2 t t2
  have e91 := (hM.2.2.2.1 _ t3).2.2.2.2.2.1
  unfold f_X11_walk_j58
  rw [if_pos ⟨by omega, by omega⟩, Int.toNat_natCast, e94, xvl, if_pos ⟨by omega, by omega⟩, Int.toNat_natCast, e91, xvl]
  rw [show wW S (stb S t) = rl S t from rfl]
  -- what each row's place gives
  have at' : ∀ {τ : xm_Mem} {i : Nat}, gx zW σ τ → i < n → τ.1 84 22 = (n : Int) ∧ τ.1 97 i = (A i : Int) ∧ f_X11_isChild τ (A i : Int) (p : Int) = some (τ, xb (isCh S p (A i))) ∧ f_X11_isMale τ (A i : Int) = some (τ, xb (wMale S (A i))) := by
    intro τ i hz hi
    have hRτ := hR.gx hz zWR
    have hMτ := hM.gx hz zWM
    have hc := hA.2.1 i hi
    exact ⟨hRτ.1, (hRτ.2.1 i hi).1, m_isChild hO hMτ hc.1 (hRτ.2.1 i hi).2.1 p, m_isMale hO.1 hMτ hc.1.1 hc.1.2.1⟩
  have n22 : ∀ {τ : xm_Mem}, gx zW σ τ → τ.1 84 22 = (n : Int) := fun hz => (hR.gx hz zWR).1
  have rec1 : ∀ (g : Nat → Prop), (∀ c, g c → isCh S p c) → ∀ i τ acc, i < n → g (A i) → gx zW σ τ → WS τ S t d acc → ∃ τ', rec τ (A i : Int) (t : Int) d = some (τ', 0) ∧ WR S t d (koL S A n (rl S t)) τ acc [A i] τ' := fun g hg i τ acc hi y hz hw => hrec (A i) τ acc (kid_mem.mpr ⟨⟨i, hi, rfl⟩, hg _ y⟩) hz hw
  by_cases c0 : rl S t = 0
  · rw [if_neg (by omega), if_neg (by omega)]
    unfold f_X11_walk_j88
    rw [if_pos c0, m_isMale hO.1 hM hp.1 hp.2.1, Option.bind_some]
    try dsimp only
    rw [xbi]
    unfold koL
    rw [if_pos c0]
    by_cases mp : wMale S p
    · rw [if_pos mp, if_pos mp]
      unfold f_X11_walk_l106
      have r := up_run (σ := σ) (S := S) (A := A) (n := n) (t := t) (d := d) (rec := rec) (ko := koL S A n (rl S t)) (b := f_X11_walk_b106 rec (fun σ_49 => some (σ_49, 0))) (z := fun _ _ _ _ _ => none) (app := fun f τ i => f τ (p : Int) (t : Int) d (i : Int)) (K := fun τ => some (τ, 0)) (g := fun c => isCh S p c ∧ wMale S c) hn (fun self τ i hz hi => by
        obtain ⟨a1, a2, a3, a4⟩ := at' hz hi
        show f_X11_walk_b106 rec _ self τ (p : Int) (t : Int) d (i : Int) = _
        unfold f_X11_walk_b106
        rw [a1, if_pos (by omega), if_pos ⟨by omega, by omega⟩, Int.toNat_natCast, a2, a3, Option.bind_some, xbi, xw1 (by omega)]
        by_cases y : isCh S p (A i)
        · rw [if_pos y, if_pos ⟨by omega, by omega⟩, a2, a4, Option.bind_some]
          try dsimp only
          rw [xbi]
          by_cases w : wMale S (A i)
          · rw [if_pos w, if_pos ⟨by omega, by omega⟩, a2, if_pos ⟨y, w⟩]
          · rw [if_neg w, if_neg (fun z => w z.2)]
        · rw [if_neg y, if_neg (fun z => y z.1)]) (fun self τ hz => by
        show f_X11_walk_b106 rec _ self τ (p : Int) (t : Int) d (n : Int) = _
        unfold f_X11_walk_b106
        rw [n22 hz, if_neg (by omega)]) (rec1 (fun c => isCh S p c ∧ wMale S c) (fun c y => y.1)) h
      exact r
    · rw [if_neg mp, if_neg mp]
      exact ⟨σ, rfl, acc, gx.rf _ _, h, fun st => goes.rf _ _⟩
  · by_cases c3 : rl S t = 3
    · rw [if_neg (by omega), if_neg (by omega)]
      unfold f_X11_walk_j88
      rw [if_neg c0, if_pos c3, n22 (gx.rf _ _), xvl]
      unfold koL
      rw [if_neg c0, if_pos c3]
      unfold f_X11_walk_l180
      have r := dn_run (σ := σ) (S := S) (A := A) (n := n) (t := t) (d := d) (rec := rec) (ko := koL S A n (rl S t)) (b := f_X11_walk_b180 rec (fun σ_67 => some (σ_67, 0))) (z := fun _ _ _ _ _ => none) (app := fun f τ i => f τ (p : Int) (t : Int) d ((i : Int) - 1)) (K := fun τ => some (τ, 0)) (g := fun c => isCh S p c) hn (fun self τ i hz hi => by
        obtain ⟨a1, a2, a3, a4⟩ := at' hz hi
        show f_X11_walk_b180 rec _ self τ (p : Int) (t : Int) d (((i + 1 : Nat) : Int) - 1) = _
        unfold f_X11_walk_b180
        rw [show ((i + 1 : Nat) : Int) - 1 = (i : Int) by omega, if_neg (by omega), if_pos ⟨by omega, by omega⟩, Int.toNat_natCast, a2, a3, Option.bind_some, xbi, xwn (by omega)]
        by_cases y : isCh S p (A i)
        · rw [if_pos y, if_pos y, if_pos ⟨by omega, by omega⟩, a2]
        · rw [if_neg y, if_neg y]) (fun self τ hz => by
        show f_X11_walk_b180 rec _ self τ (p : Int) (t : Int) d (((0 : Nat) : Int) - 1) = _
        unfold f_X11_walk_b180
        rw [if_pos (by omega)]) (rec1 (fun c => isCh S p c) (fun c y => y)) h
      rw [xp_w (by omega) (by omega)]
      exact r
    · have l290 : ∀ {σ1 : xm_Mem} {acc1 : List Nat}, gx zW σ σ1 → WS σ1 S t d acc1 → ∃ τ', f_X11_walk_l290 rec xm_fuel σ1 (p : Int) (t : Int) d 1 0 = some (τ', 0) ∧ WR S t d (koL S A n (rl S t)) σ1 acc1 (kidF S A n p (fun c => ¬ wMale S c)) τ' := by
        intro σ1 acc1 hz1 hw1
        unfold f_X11_walk_l290
        exact up_run (σ := σ1) (S := S) (A := A) (n := n) (t := t) (d := d) (rec := rec) (ko := koL S A n (rl S t)) (b := f_X11_walk_b290 rec) (z := fun _ _ _ _ _ _ => none) (app := fun f τ i => f τ (p : Int) (t : Int) d 1 (i : Int)) (K := fun τ => some (τ, 0)) (g := fun c => isCh S p c ∧ ¬ wMale S c) hn (fun self τ i hz hi => by
          obtain ⟨a1, a2, a3, a4⟩ := at' (hz1.tr hz) hi
          show f_X11_walk_b290 rec self τ (p : Int) (t : Int) d 1 (i : Int) = _
          unfold f_X11_walk_b290
          rw [a1, if_pos (by omega), if_neg (by decide), if_pos ⟨by omega, by omega⟩, Int.toNat_natCast, a2, a3, Option.bind_some, xbi, xw1 (by omega)]
          by_cases y : isCh S p (A i)
          · rw [if_pos y, if_pos ⟨by omega, by omega⟩, a2, a4, Option.bind_some]
            try dsimp only
            rw [xbi]
            by_cases w : wMale S (A i)
            · rw [if_pos w, if_neg (fun z => z.2 w)]
            · rw [if_neg w, if_pos ⟨by omega, by omega⟩, a2, if_pos ⟨y, w⟩]
          · rw [if_neg y, if_neg (fun z => y z.1)]) (fun self τ hz => by
          show f_X11_walk_b290 rec self τ (p : Int) (t : Int) d 1 (n : Int) = _
          unfold f_X11_walk_b290
          rw [n22 (hz1.tr hz), if_neg (by omega)]) (fun i τ acc hi y hz hw => rec1 (fun c => isCh S p c ∧ ¬ wMale S c) (fun c y => y.1) i τ acc hi y (hz1.tr hz) hw) hw1
      have l290z : ∀ {σ1 : xm_Mem}, gx zW σ σ1 → f_X11_walk_l290 rec xm_fuel σ1 (p : Int) (t : Int) d 0 0 = some (σ1, 0) := by
        intro σ1 hz1
        unfold f_X11_walk_l290
        refine it_T (γ := Nat) _ _ (fun (f : xm_Mem → Int → Int → Int → Int → Int → Option xm_Out) _ => f σ1 (p : Int) (t : Int) d 0 0) (fun _ => True) (fun _ => 0) (fun r => r = some (σ1, 0)) ?_ xm_fuel 0 trivial (xfu (by show 0 < _; decide))
        intro self i _ _
        show f_X11_walk_b290 rec self σ1 (p : Int) (t : Int) d 0 0 = _
        unfold f_X11_walk_b290
        by_cases q : (0 : Int) < σ1.1 84 22
        · rw [if_pos q, if_pos rfl]
        · rw [if_neg q]
      have j88 : ∀ s0 : Int, (s0 = 1 ∨ s0 = 0) → ∃ τ', f_X11_walk_j88 rec σ s0 (p : Int) (t : Int) d (rl S t) = some (τ', 0) ∧ WR S t d (koL S A n (rl S t)) σ acc (if s0 = 1 then kidF S A n p (fun c => wMale S c) ++ kidF S A n p (fun c => ¬ wMale S c) else kidL S A n p) τ' := by
        intro s0 hs0
        unfold f_X11_walk_j88
        rw [if_neg c0, if_neg c3]
        unfold f_X11_walk_l225
        rcases hs0 with rfl | rfl
        · obtain ⟨τ1, b1, acc1, b2, b3, b4⟩ := up_run (σ := σ) (S := S) (A := A) (n := n) (t := t) (d := d) (rec := rec) (ko := koL S A n (rl S t)) (b := f_X11_walk_b225 rec (fun σ_89 x1_89 x2_89 x3_89 x5_89 => f_X11_walk_l290 rec xm_fuel σ_89 x1_89 x2_89 x3_89 x5_89 (0 : Int))) (z := fun _ _ _ _ _ _ => none) (app := fun f τ i => f τ (p : Int) (t : Int) d 1 (i : Int)) (K := fun τ => f_X11_walk_l290 rec xm_fuel τ (p : Int) (t : Int) d 1 0) (g := fun c => isCh S p c ∧ wMale S c) hn (fun self τ i hz hi => by
            obtain ⟨a1, a2, a3, a4⟩ := at' hz hi
            show f_X11_walk_b225 rec _ self τ (p : Int) (t : Int) d 1 (i : Int) = _
            unfold f_X11_walk_b225 f_X11_walk_j268
            rw [a1, if_pos (by omega), if_pos ⟨by omega, by omega⟩, Int.toNat_natCast, a2, a3, Option.bind_some, xbi, xw1 (by omega)]
            by_cases y : isCh S p (A i)
            · rw [if_pos y, if_neg (by decide), if_pos ⟨by omega, by omega⟩, a2, a4, Option.bind_some]
              try dsimp only
              rw [xbi]
              by_cases w : wMale S (A i)
              · rw [if_pos w, if_pos ⟨by omega, by omega⟩, a2, if_pos ⟨y, w⟩]
              · rw [if_neg w, if_neg (fun z => w z.2)]
            · rw [if_neg y, if_neg (fun z => y z.1)]) (fun self τ hz => by
            show f_X11_walk_b225 rec _ self τ (p : Int) (t : Int) d 1 (n : Int) = _
            unfold f_X11_walk_b225
            rw [n22 hz, if_neg (by omega)]) (rec1 (fun c => isCh S p c ∧ wMale S c) (fun c y => y.1)) h
          obtain ⟨τ2, d1, d2⟩ := l290 b2 b3
          rw [if_pos rfl]
          exact ⟨τ2, b1.trans d1, WR.tr b2 b3 b4 d2⟩
        · obtain ⟨τ1, b1, acc1, b2, b3, b4⟩ := up_run (σ := σ) (S := S) (A := A) (n := n) (t := t) (d := d) (rec := rec) (ko := koL S A n (rl S t)) (b := f_X11_walk_b225 rec (fun σ_89 x1_89 x2_89 x3_89 x5_89 => f_X11_walk_l290 rec xm_fuel σ_89 x1_89 x2_89 x3_89 x5_89 (0 : Int))) (z := fun _ _ _ _ _ _ => none) (app := fun f τ i => f τ (p : Int) (t : Int) d 0 (i : Int)) (K := fun τ => f_X11_walk_l290 rec xm_fuel τ (p : Int) (t : Int) d 0 0) (g := fun c => isCh S p c) hn (fun self τ i hz hi => by
            obtain ⟨a1, a2, a3, a4⟩ := at' hz hi
            show f_X11_walk_b225 rec _ self τ (p : Int) (t : Int) d 0 (i : Int) = _
            unfold f_X11_walk_b225 f_X11_walk_j268
            rw [a1, if_pos (by omega), if_pos ⟨by omega, by omega⟩, Int.toNat_natCast, a2, a3, Option.bind_some, xbi, xw1 (by omega)]
            by_cases y : isCh S p (A i)
            · rw [if_pos y, if_pos y, if_pos rfl, if_pos ⟨by omega, by omega⟩]
              try dsimp only
              rw [a2]
            · rw [if_neg y, if_neg y]) (fun self τ hz => by
            show f_X11_walk_b225 rec _ self τ (p : Int) (t : Int) d 0 (n : Int) = _
            unfold f_X11_walk_b225
            rw [n22 hz, if_neg (by omega)]) (rec1 (fun c => isCh S p c) (fun c y => y)) h
          rw [if_neg (by decide)]
          exact ⟨τ1, b1.trans (l290z b2), acc1, b2, b3, b4⟩
      unfold f_X11_walk_j83
      have ek : koL S A n (rl S t) p = (if rl S t = 2 then kidL S A n p else kidF S A n p (fun c => wMale S c) ++ kidF S A n p (fun c => ¬ wMale S c)) := by
        conv => lhs; unfold koL
        rw [if_neg c0, if_neg c3]
      by_cases c2 : rl S t = 2
      · rw [ek, if_pos c2, if_neg (by omega), if_neg (by omega)]
        have := j88 0 (Or.inr rfl)
        rw [if_neg (by decide)] at this
        exact this
      · rw [ek, if_neg c2]
        have := j88 1 (Or.inl rfl)
        rw [if_pos rfl] at this
        by_cases c1 : rl S t = 1
        · rw [if_pos c1]; exact this
        · rw [if_neg c1, if_pos (by omega)]; exact this
theorem m_walk (hO : OK S) (hA : AGE S A n) (hM : MS σ S) (hR : RO σ S A n m) (ht : isT S (t : Int)) (h4 : rl S t ≠ 4) : ∀ (dd p : Nat) (τ : xm_Mem) (acc : List Nat), isP S (p : Int) → 64 - p ≤ dd → gx zW σ τ → WS τ S t d acc → ∃ τ', f_X11_walk dd τ (p : Int) (t : Int) d = some (τ', 0) ∧ WR S t d (koL S A n (rl S t)) τ acc [p] τ' := by
  intro dd
  induction dd with
  | zero => intro p τ acc hp h; have := (hO.rec hp).2.2.2.2.2; exact absurd h (by omega)
  | succ dd ih =>
    intro p τ acc hp hd hz hw
    have p64 := (hO.rec hp).2.2.2.2.2
    show ∃ τ', f_X11_walk_b (f_X11_walk dd) τ (p : Int) (t : Int) d = some (τ', 0) ∧ _
    unfold f_X11_walk_b f_X11_bit
    rw [Option.bind_some]
    try dsimp only
    rw [i64]
    obtain ⟨w1, w2, w3, w4⟩ := hw
    have hb := lc_b (τ.2.1 84 28) p64
    by_cases c : p ∈ acc
    · rw [if_neg (fun z => hb.mp z ((w1 p p64).mpr c))]
      exact ⟨τ, rfl, acc, gx.rf _ _, ⟨w1, w2, w3, w4⟩, fun st => ⟨1, wst_in c⟩⟩
    · rw [if_pos (hb.mpr (fun z => c ((w1 p p64).mp z))), Option.bind_some]
      try dsimp only
      rw [i64, xst]
      have n4 := w4.app p64 c
      have z1 : gx zW τ (xm_u2 τ 84 28 (τ.2.1 84 28 ||| xm_shl 1 (p : Int))) := (gx.rf _ _).u2 (by unfold zW; omega)
      have hM1 := (hM.gx hz zWM).gx z1 zWM
      have hR1 := (hR.gx hz zWR).gx z1 zWR
      have bits : ∀ q, q < 64 → (bt (τ.2.1 84 28 ||| xm_shl 1 (p : Int)) q ↔ q ∈ acc ++ [p]) := by
        intro q hq
        rw [bt_or, w1 q hq, bt_shl p64 hq, List.mem_append, List.mem_singleton]
      rw [m_counts hO hA hM1 hR1 ht hp, Option.bind_some]
      try dsimp only
      rw [xbi]
      have kids : ∀ {τ2 : xm_Mem}, gx zW τ τ2 → WS τ2 S t d (acc ++ [p]) → ∃ τ', f_X11_walk_j58 (f_X11_walk dd) τ2 (p : Int) (t : Int) d = some (τ', 0) ∧ WR S t d (koL S A n (rl S t)) τ acc [p] τ' := by
        intro τ2 z2 hw2
        have z3 := hz.tr z2
        obtain ⟨τ', a1, acc', a2, a3, a4⟩ := m_downs hO hA (hM.gx z3 zWM) (hR.gx z3 zWR) ht h4 hp (rec := f_X11_walk dd) (fun x τ3 acc3 hx hz3 hw3 => by
          have := kid_rg hO hA hx
          exact ih x τ3 acc3 this.1 (by omega) (z3.tr hz3) hw3) hw2
        refine ⟨τ', a1, acc', z2.tr a2, a3, fun st => ?_⟩
        have g1 : goes (koL S A n (rl S t)) (p :: st, acc) (koL S A n (rl S t) p ++ st, acc ++ [p]) := ⟨1, wst_out c⟩
        exact g1.tr (a4 st)
      by_cases y : cnt S t d p
      · have el : cntL S t d (acc ++ [p]) = cntL S t d acc ++ [p] := filt_y (dc_y y)
        have hlen := cntL_len S t d acc
        have e27 : (xm_u2 τ 84 28 (τ.2.1 84 28 ||| xm_shl 1 (p : Int))).1 84 27 = ((cntL S t d acc).length : Int) := w2
        rw [if_pos y, e27, if_pos ⟨by omega, by omega⟩, xst, Int.toNat_natCast, xst]
        have e27' : (xm_u1 (xm_u2 τ 84 28 (τ.2.1 84 28 ||| xm_shl 1 (p : Int))) 101 (cntL S t d acc).length (p : Int)).1 84 27 = ((cntL S t d acc).length : Int) := by rw [xu11, if_neg (by omega)]; exact w2
        rw [e27', xw1 (by omega)]
        refine kids ((z1.u1 (by unfold zW; omega)).u1 (by unfold zW; omega)) ⟨bits, ?_, ?_, n4.1⟩
        · rw [el, List.length_append, xu11, if_pos ⟨rfl, rfl⟩]; rfl
        · rw [el]
          refine LA.app w3 (fun i hi => ?_) ?_
          · rw [xu11, if_neg (by omega), xu11, if_neg (by omega)]; rfl
          · rw [xu11, if_neg (by omega), xu11, if_pos ⟨rfl, by omega⟩]
      · have el : cntL S t d (acc ++ [p]) = cntL S t d acc := filt_n (fun z => y (dc_t.mp z))
        rw [if_neg y]
        exact kids z1 ⟨bits, by rw [el]; exact w2, by rw [el]; exact w3, n4.1⟩
end XW
