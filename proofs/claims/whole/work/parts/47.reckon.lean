/-! ===== the reference reckons ===== -/
def gx (Z : Nat → Nat → Prop) (σ σ' : xm_Mem) : Prop := (∀ a k, ¬ Z a k → σ'.1 a k = σ.1 a k) ∧ (∀ a k, ¬ Z a k → σ'.2.1 a k = σ.2.1 a k) ∧ σ'.2.2 = σ.2.2
theorem gx.rf (Z : Nat → Nat → Prop) (σ : xm_Mem) : gx Z σ σ := ⟨fun _ _ _ => rfl, fun _ _ _ => rfl, rfl⟩
theorem gx.tr {Z : Nat → Nat → Prop} {σ σ' σ'' : xm_Mem} (h : gx Z σ σ') (g : gx Z σ' σ'') : gx Z σ σ'' := ⟨fun a k n => (g.1 a k n).trans (h.1 a k n), fun a k n => (g.2.1 a k n).trans (h.2.1 a k n), g.2.2.trans h.2.2⟩
theorem gx.mono {Z Y : Nat → Nat → Prop} {σ σ' : xm_Mem} (h : gx Z σ σ') (hi : ∀ a k, Z a k → Y a k) : gx Y σ σ' := ⟨fun a k n => h.1 a k (fun z => n (hi a k z)), fun a k n => h.2.1 a k (fun z => n (hi a k z)), h.2.2⟩
theorem gx.u1 {Z : Nat → Nat → Prop} {σ σ' : xm_Mem} (h : gx Z σ σ') {a k : Nat} {v : Int} (ha : Z a k) : gx Z σ (xm_u1 σ' a k v) := by
  refine ⟨fun b j n => ?_, fun b j n => h.2.1 b j n, h.2.2⟩
  rw [xu11, if_neg (fun z : b = a ∧ j = k => n (by rw [z.1, z.2]; exact ha))]
  exact h.1 b j n
theorem gx.u2 {Z : Nat → Nat → Prop} {σ σ' : xm_Mem} (h : gx Z σ σ') {a k : Nat} {v : Int64} (ha : Z a k) : gx Z σ (xm_u2 σ' a k v) := by
  refine ⟨fun b j n => h.1 b j n, fun b j n => ?_, h.2.2⟩
  rw [xu22, if_neg (fun z : b = a ∧ j = k => n (by rw [z.1, z.2]; exact ha))]
  exact h.2.1 b j n
theorem MS.gx {σ σ' : xm_Mem} {S : xS} {Z : Nat → Nat → Prop} (h : MS σ S) (hf : gx Z σ σ') (hz : ∀ a k, Z a k → ¬ (a = 84 ∧ (k = 5 ∨ k = 14 ∨ k = 15)) ∧ ¬ (86 ≤ a ∧ a ≤ 94)) : MS σ' S := by
  have o : ∀ a k, (86 ≤ a ∧ a ≤ 94) → σ'.1 a k = σ.1 a k := fun a k n => hf.1 a k (fun z => (hz a k z).2 n)
  have o84 : ∀ k, (k = 5 ∨ k = 14 ∨ k = 15) → σ'.1 84 k = σ.1 84 k := fun k n => hf.1 84 k (fun z => (hz 84 k z).1 ⟨rfl, n⟩)
  unfold MS
  rw [o84 5 (by omega), o84 14 (by omega), o84 15 (by omega)]
  refine ⟨h.1, h.2.1, h.2.2.1, fun r hr => ?_, fun p hp => ?_, fun t ht => ?_⟩
  · rw [o 86 r (by omega), o 87 r (by omega), o 88 r (by omega), o 89 r (by omega), o 90 r (by omega), o 91 r (by omega), o 92 r (by omega)]; exact h.2.2.2.1 r hr
  · rw [o 93 p (by omega)]; exact h.2.2.2.2.1 p hp
  · rw [o 94 t (by omega)]; exact h.2.2.2.2.2 t ht
def isYl (S : xS) (t p : Nat) (r : Nat) : Prop := wS S r = 1 ∧ wK S r = 5 ∧ w2 S r = (t : Int) ∧ w1 S r = (p : Int)
/-- the day of a yield; 100000: there is none -/
noncomputable def wYl (S : xS) (t p : Nat) : Int := ldx (isYl S t p) (wD S) 100000 (sn S)
/-- what the reference has reckoned -/
def RO (σ : xm_Mem) (S : xS) (A : Nat → Nat) (n : Nat) (m : Nat → Int64) : Prop := σ.1 84 22 = (n : Int) ∧ (∀ i, i < n → σ.1 97 i = (A i : Int) ∧ σ.1 96 (A i) = xb (wLegit S (A i)) ∧ σ.1 99 (A i) = wDead S (A i) ∧ σ.2.1 98 (A i) = m (A i)) ∧ ∀ t p, t < 8 → p < 64 → σ.1 100 (64 * t + p) = wYl S t p
def zR (a k : Nat) : Prop := (a = 84 ∧ (k = 18 ∨ k = 22)) ∨ (96 ≤ a ∧ a ≤ 100)
theorem zRM : ∀ a k, zR a k → ¬ (a = 84 ∧ (k = 5 ∨ k = 14 ∨ k = 15)) ∧ ¬ (86 ≤ a ∧ a ≤ 94) := fun a k h => by unfold zR at h; omega
theorem ch_idx {S : xS} {A : Nat → Nat} {n : Nat} (hO : OK S) (hA : AGE S A n) {i j : Nat} (hi : i < n) (hj : j < n) (h : isCh S (A i) (A j)) : i < j := by
  have := kid_rg hO hA (p := A i) (c := A j) (kid_mem.mpr ⟨⟨j, hj, rfl⟩, h⟩)
  exact hA.lt hi hj (Or.inl (by omega))
theorem BDY.uniq {S : xS} {A : Nat → Nat} {n : Nat} {m m' : Nat → Int64} (hO : OK S) (hA : AGE S A n) (h : BDY S A n m) (g : BDY S A n m') : ∀ i, i < n → m (A i) = m' (A i) := by
  have key : ∀ d i, i < n → n - i ≤ d → m (A i) = m' (A i) := by
    intro d
    induction d with
    | zero => intro i hi h; exact absurd h (by omega)
    | succ d ih =>
      intro i hi hd
      refine bt_ext (fun q hq => ?_)
      rw [h i hi q hq, g i hi q hq]
      have e : ∀ j, j < n → isCh S (A i) (A j) → m (A j) = m' (A j) := fun j hj hc => ih j hj (by have := ch_idx hO hA hi hj hc; omega)
      constructor
      · rintro (z | ⟨j, j1, j2, j3⟩)
        · exact Or.inl z
        · exact Or.inr ⟨j, j1, j2, by rw [← e j j1 j2]; exact j3⟩
      · rintro (z | ⟨j, j1, j2, j3⟩)
        · exact Or.inl z
        · exact Or.inr ⟨j, j1, j2, by rw [e j j1 j2]; exact j3⟩
  exact fun i hi => key (n - i) i hi (Nat.le_refl _)
section XA
variable {σ : xm_Mem} {S : xS}
theorem m_isOlder (hO : OK S) (hM : MS σ S) {p q : Nat} (hp : isP S (p : Int)) (hq : isP S (q : Int)) : f_X11_isOlder σ (p : Int) (q : Int) = some (σ, xb (older S p q)) := by
  unfold f_X11_isOlder older
  simp only [m_bornOn hO.1 hM hp.1 hp.2.1, m_bornOn hO.1 hM hq.1 hq.2.1, Option.bind_some]
  (repeat' split) <;> first | (rw [xb_pos (by omega)]; done) | (rw [xb_neg (by omega)]; done)
theorem m_isChild (hO : OK S) (hM : MS σ S) {c : Nat} (hc : isP S (c : Int)) (h : σ.1 96 c = xb (wLegit S c)) (p : Nat) : f_X11_isChild σ (c : Int) (p : Int) = some (σ, xb (isCh S p c)) := by
  unfold f_X11_isChild isCh
  have r := isP_rg hO.1 hc
  rw [if_pos ⟨r.1, r.2.2⟩, Int.toNat_natCast, h, xbi]
  simp only [m_father hO.1 hM hc.1 hc.2.1, m_mother hO.1 hM hc.1 hc.2.1, Option.bind_some]
  by_cases l : wLegit S c
  · rw [if_pos l]
    by_cases a : wFa S c = (p : Int)
    · rw [if_pos a, xb_pos ⟨l, Or.inl a⟩]
    · rw [if_neg a]
      by_cases b : wMo S c = (p : Int)
      · rw [if_pos b, xb_pos ⟨l, Or.inr b⟩]
      · rw [if_neg b, xb_neg (fun z => z.2.elim a b)]
  · rw [if_neg l, xb_neg (fun z => l z.1)]
theorem m_ins (hO : OK S) (hM : MS σ S) {k n : Nat} {A : Nat → Nat} (hA : AGEk S k A n) (hk : k < 64) (hp : isP S (k : Int)) (h97 : ∀ i, i < n → σ.1 97 i = (A i : Int)) (K : xm_Mem → Int → Int → Option xm_Out) :
    ∃ (τ : xm_Mem) (j : Nat), f_X11_reckon_l66 K xm_fuel σ (k : Int) (n : Int) = K τ (k : Int) (j : Int) ∧ j ≤ n ∧ gx (fun a _ => a = 97) σ τ ∧ (∀ i, i < j → τ.1 97 i = (A i : Int)) ∧ (∀ i, j ≤ i → i < n → τ.1 97 (i + 1) = (A i : Int) ∧ older S k (A i)) ∧ (0 < j → ¬ older S k (A (j - 1))) := by
  unfold f_X11_reckon_l66
  have hn := hA.1
  refine it_T (γ := xm_Mem × Nat) _ _ (fun (g : xm_Mem → Int → Int → Option xm_Out) a => g a.1 (k : Int) (a.2 : Int)) (fun a => a.2 ≤ n ∧ gx (fun a _ => a = 97) σ a.1 ∧ (∀ i, i < a.2 → a.1.1 97 i = (A i : Int)) ∧ ∀ i, a.2 ≤ i → i < n → a.1.1 97 (i + 1) = (A i : Int) ∧ older S k (A i)) (fun a => a.2) (fun z => ∃ (τ : xm_Mem) (j : Nat), z = K τ (k : Int) (j : Int) ∧ j ≤ n ∧ gx (fun a _ => a = 97) σ τ ∧ (∀ i, i < j → τ.1 97 i = (A i : Int)) ∧ (∀ i, j ≤ i → i < n → τ.1 97 (i + 1) = (A i : Int) ∧ older S k (A i)) ∧ (0 < j → ¬ older S k (A (j - 1)))) ?_ xm_fuel (σ, n) ⟨Nat.le_refl _, gx.rf _ _, h97, fun i h1 h2 => absurd h2 (by have : n ≤ i := h1; omega)⟩ (xfu (by show n < _; omega))
  rintro self ⟨τ, j⟩ ⟨hj, hf, hlo, hhi⟩ ih
  replace hj : j ≤ n := hj
  replace hf : gx (fun a _ => a = 97) σ τ := hf
  replace hlo : ∀ i, i < j → τ.1 97 i = (A i : Int) := hlo
  replace hhi : ∀ i, j ≤ i → i < n → τ.1 97 (i + 1) = (A i : Int) ∧ older S k (A i) := hhi
  have hMτ : MS τ S := hM.gx hf (fun a k h => by omega)
  show ∃ (τ' : xm_Mem) (j' : Nat), f_X11_reckon_b66 K self τ (k : Int) (j : Int) = _ ∧ _
  unfold f_X11_reckon_b66
  cases j with
  | zero =>
    rw [if_neg (by decide)]
    exact ⟨τ, 0, rfl, hj, hf, hlo, hhi, fun h => absurd h (Nat.lt_irrefl _)⟩
  | succ i =>
    have hAi := (hA.2.1 i (by omega)).1
    rw [if_pos (by omega), xwm (by omega)]
    simp only [xvl, Int.toNat_natCast, hlo i (Nat.lt_succ_self i), m_isOlder hO hMτ hp hAi, Option.bind_some, xbi, xst]
    rw [if_pos ⟨by omega, by omega⟩]
    by_cases o : older S k (A i)
    · rw [if_pos o, if_pos ⟨by omega, by omega⟩, if_pos ⟨by omega, by omega⟩, xwm' (by omega)]
      refine ih (_, i) ⟨by show i ≤ n; omega, hf.u1 rfl, fun x hx => ?_, fun x h1 h2 => ?_⟩ (Nat.lt_succ_self i)
      · have hx : x < i := hx
        show (xm_u1 τ 97 (i + 1) _).1 97 x = _
        rw [xu11, if_neg (by omega)]
        exact hlo x (by omega)
      · have h1 : i ≤ x := h1
        show (xm_u1 τ 97 (i + 1) _).1 97 (x + 1) = _ ∧ _
        rw [xu11]
        by_cases z : x = i
        · subst z
          rw [if_pos ⟨rfl, rfl⟩]
          exact ⟨rfl, o⟩
        · rw [if_neg (by omega)]
          exact hhi x (by omega) h2
    · rw [if_neg o]
      exact ⟨τ, i + 1, rfl, hj, hf, hlo, hhi, fun _ => o⟩
def zR1 (a k : Nat) : Prop := (a = 84 ∧ k = 22) ∨ a = 96 ∨ a = 97 ∨ a = 99
theorem zR1M : ∀ a k, zR1 a k → ¬ (a = 84 ∧ (k = 5 ∨ k = 14 ∨ k = 15)) ∧ ¬ (86 ≤ a ∧ a ≤ 94) := fun a k h => by unfold zR1 at h; omega
theorem m_reck1 (hO : OK S) (hM : MS σ S) (h22 : σ.1 84 22 = 0) (K : xm_Mem → Option xm_Out) : ∃ σ' A n, f_X11_reckon_l20 K xm_fuel σ 0 = K σ' ∧ gx zR1 σ σ' ∧ AGE S A n ∧ σ'.1 84 22 = (n : Int) ∧ (∀ i, i < n → σ'.1 97 i = (A i : Int)) ∧ ∀ p : Nat, isP S (p : Int) → σ'.1 96 p = xb (wLegit S p) ∧ σ'.1 99 p = wDead S p := by
  unfold f_X11_reckon_l20
  have hsp := hO.1.1.2.1
  refine it_T (γ := xm_Mem × Nat) _ _ (fun (g : xm_Mem → Int → Option xm_Out) a => g a.1 (a.2 : Int)) (fun a => a.2 ≤ sp S ∧ gx zR1 σ a.1 ∧ (∀ p : Nat, p < a.2 → isP S (p : Int) → a.1.1 96 p = xb (wLegit S p) ∧ a.1.1 99 p = wDead S p) ∧ ∃ A n, AGEk S a.2 A n ∧ a.1.1 84 22 = (n : Int) ∧ ∀ i, i < n → a.1.1 97 i = (A i : Int)) (fun a => sp S - a.2) (fun z => ∃ σ' A n, z = K σ' ∧ gx zR1 σ σ' ∧ AGE S A n ∧ σ'.1 84 22 = (n : Int) ∧ (∀ i, i < n → σ'.1 97 i = (A i : Int)) ∧ ∀ p : Nat, isP S (p : Int) → σ'.1 96 p = xb (wLegit S p) ∧ σ'.1 99 p = wDead S p) ?_ xm_fuel (σ, 0) ⟨Nat.zero_le _, gx.rf _ _, fun p h => absurd h (Nat.not_lt_zero _), fun _ => 0, 0, AGEk.zero _ _, h22, fun i h => absurd h (Nat.not_lt_zero _)⟩ (xfu (by show sp S - 0 < _; omega))
  rintro self ⟨τ, k⟩ ⟨hk, hf, hl, A, n, hA, h3, h97⟩ ih
  replace hk : k ≤ sp S := hk
  replace hf : gx zR1 σ τ := hf
  replace hA : AGEk S k A n := hA
  replace hl : ∀ p : Nat, p < k → isP S (p : Int) → τ.1 96 p = xb (wLegit S p) ∧ τ.1 99 p = wDead S p := hl
  replace h3 : τ.1 84 22 = (n : Int) := h3
  replace h97 : ∀ i, i < n → τ.1 97 i = (A i : Int) := h97
  have hMτ : MS τ S := hM.gx hf zR1M
  show ∃ σ' A n, f_X11_reckon_b20 K self τ (k : Int) = _ ∧ _
  unfold f_X11_reckon_b20
  rw [hMτ.2.1]
  have hn := hA.1
  by_cases h : k < sp S
  · rw [if_pos (by omega), m_isPerson hO.1 hMτ, Option.bind_some]
    try dsimp only
    rw [xbi]
    by_cases c : isP S (k : Int)
    · have hg : 0 ≤ (k : Int) ∧ (k : Int) < 64 := ⟨by omega, by omega⟩
      have f1 : gx zR1 σ (xm_u1 τ 96 k (xb (wLegit S k))) := hf.u1 (by unfold zR1; omega)
      have f2 : gx zR1 σ (xm_u1 (xm_u1 τ 96 k (xb (wLegit S k))) 99 k (wDead S k)) := f1.u1 (by unfold zR1; omega)
      rw [if_pos c, m_toldLegit hO.1 hMτ c.1 c.2.1, Option.bind_some, if_pos hg, xst, Int.toNat_natCast, m_deadOn hO.1 (hM.gx f1 zR1M), Option.bind_some]
      try dsimp only
      rw [if_pos hg, xst, xvl]
      have e22 : (xm_u1 (xm_u1 τ 96 k (xb (wLegit S k))) 99 k (wDead S k)).1 84 22 = (n : Int) := by rw [xu11, if_neg (by omega), xu11, if_neg (by omega)]; exact h3
      rw [e22]
      obtain ⟨τ2, j, a1, a2, a3, a4, a5, a6⟩ := m_ins hO (hM.gx f2 zR1M) hA (by omega) c (fun i hi => by rw [xu11, if_neg (by omega), xu11, if_neg (by omega)]; exact h97 i hi) (fun σ_37 x1_37 x2_37 => if 0 ≤ x2_37 ∧ x2_37 < 64 then (xm_st (xm_u1 σ_37 97 x2_37.toNat x1_37) (fun σ38 => xm_st (xm_u1 σ38 84 22 (xm_w ((σ38.1 84 22) + (1 : Int)))) (fun σ40 => self σ40 (xm_w (x1_37 + 1))))) else none)
      rw [a1]
      try dsimp only
      have e23 : (xm_u1 τ2 97 j (k : Int)).1 84 22 = (n : Int) := by rw [xu11, if_neg (by omega), a3.1 84 22 (by omega)]; exact e22
      rw [if_pos ⟨by omega, by omega⟩, xst, xst, Int.toNat_natCast, e23, xw1 (by omega), xw1 (by omega)]
      refine ih (_, k + 1) ⟨h, ((f2.tr (a3.mono (fun a k h => by unfold zR1; omega))).u1 (by unfold zR1; omega)).u1 (by unfold zR1; omega), fun p hp hpp => ?_, insA A j k, n + 1, hA.ins c a2 a6 (fun i h1 h2 => (a5 i h1 h2).2), by simp [xu11], fun i hi => ?_⟩ (by show sp S - (k + 1) < sp S - k; omega)
      · have hp : p < k + 1 := hp
        show (xm_u1 (xm_u1 τ2 97 j (k : Int)) 84 22 _).1 96 p = _ ∧ (xm_u1 (xm_u1 τ2 97 j (k : Int)) 84 22 _).1 99 p = _
        rw [xu11, if_neg (by omega), xu11, if_neg (by omega), xu11, if_neg (by omega), xu11, if_neg (by omega), a3.1 96 p (by omega), a3.1 99 p (by omega), xu11, if_neg (by omega), xu11, xu11, xu11, if_neg (by omega : ¬ (99 = 96 ∧ p = k))]
        by_cases e : p = k
        · subst e; rw [if_pos ⟨rfl, rfl⟩, if_pos ⟨rfl, rfl⟩]; exact ⟨rfl, rfl⟩
        · rw [if_neg (fun z => e z.2), if_neg (fun z => e z.2)]; exact hl p (by omega) hpp
      · simp only [xu11]
        unfold insA
        rcases Nat.lt_trichotomy i j with z | z | z
        · have e1 : ¬ i = j := by omega
          simp [e1, z]
          exact a4 i z
        · subst z
          simp
        · have e1 : ¬ i = j := by omega
          have e2 : ¬ i < j := by omega
          simp [e1, e2]
          have := (a5 (i - 1) (by omega) (by omega)).1
          rw [show i - 1 + 1 = i by omega] at this
          exact this
    · rw [if_neg c, xw1 (by omega)]
      refine ih (τ, k + 1) ⟨h, hf, fun p hp hpp => ?_, A, n, hA.no c, h3, h97⟩ (by show sp S - (k + 1) < sp S - k; omega)
      have hp : p < k + 1 := hp
      by_cases e : p = k
      · subst e; exact absurd hpp c
      · exact hl p (by omega) hpp
  · rw [if_neg (by omega)]
    have e : k = sp S := by omega
    subst e
    have hlt : ∀ p : Nat, isP S (p : Int) → p < sp S := fun p hp => by have := hp.2.1; omega
    exact ⟨τ, A, n, rfl, hf, hA.age (by omega) hlt, h3, h97, fun p hp => hl p (hlt p hp) hp⟩
theorem m_reck2 (hO : OK S) (hM : MS σ S) (K : xm_Mem → Option xm_Out) : ∃ σ', f_X11_reckon_l131 (fun σ_45 => f_X11_reckon_l156 K xm_fuel σ_45 (0 : Int)) xm_fuel σ 0 = K σ' ∧ gx (fun a _ => a = 100) σ σ' ∧ ∀ t p, t < 8 → p < 64 → σ'.1 100 (64 * t + p) = wYl S t p := by
  unfold f_X11_reckon_l131
  have hn := hO.1.n
  refine it_T (γ := xm_Mem × Nat) _ _ (fun (g : xm_Mem → Int → Option xm_Out) a => g a.1 (a.2 : Int)) (fun a => a.2 ≤ 512 ∧ gx (fun a _ => a = 100) σ a.1 ∧ ∀ k, k < a.2 → a.1.1 100 k = 100000) (fun a => 512 - a.2) (fun z => ∃ σ', z = K σ' ∧ gx (fun a _ => a = 100) σ σ' ∧ ∀ t p, t < 8 → p < 64 → σ'.1 100 (64 * t + p) = wYl S t p) ?_ xm_fuel (σ, 0) ⟨Nat.zero_le _, gx.rf _ _, fun p h => absurd h (Nat.not_lt_zero _)⟩ (xfu (by show 512 - 0 < _; decide))
  rintro self ⟨τ, i⟩ ⟨hi, hf, hz⟩ ih
  replace hi : i ≤ 512 := hi
  replace hf : gx (fun a _ => a = 100) σ τ := hf
  replace hz : ∀ k, k < i → τ.1 100 k = 100000 := hz
  show ∃ σ', f_X11_reckon_b131 _ self τ (i : Int) = _ ∧ _
  unfold f_X11_reckon_b131
  by_cases h : i < 512
  · rw [if_pos (by omega), if_pos ⟨by omega, by omega⟩, xst, Int.toNat_natCast, xw1 (by omega)]
    refine ih (_, i + 1) ⟨h, hf.u1 rfl, fun k hk => ?_⟩ (by show 512 - (i + 1) < 512 - i; omega)
    have hk : k < i + 1 := hk
    show (xm_u1 τ 100 i 100000).1 100 k = _
    rw [xu11]
    by_cases e : k = i
    · rw [if_pos ⟨rfl, e⟩]
    · rw [if_neg (fun z => e z.2)]; exact hz k (by omega)
  · rw [if_neg (by omega)]
    try dsimp only
    have e : i = 512 := by omega
    subst e
    unfold f_X11_reckon_l156
    refine it_T (γ := xm_Mem × Nat) _ _ (fun (g : xm_Mem → Int → Option xm_Out) a => g a.1 (a.2 : Int)) (fun a => a.2 ≤ sn S ∧ gx (fun a _ => a = 100) σ a.1 ∧ ∀ t p, t < 8 → p < 64 → a.1.1 100 (64 * t + p) = ldx (isYl S t p) (wD S) 100000 a.2) (fun a => sn S - a.2) (fun z => ∃ σ', z = K σ' ∧ gx (fun a _ => a = 100) σ σ' ∧ ∀ t p, t < 8 → p < 64 → σ'.1 100 (64 * t + p) = wYl S t p) ?_ xm_fuel (τ, 0) ⟨Nat.zero_le _, hf, fun t p h1 h2 => hz _ (by omega)⟩ (xfu (by show sn S - 0 < _; omega))
    clear ih hz hf hi h
    rintro self ⟨τ, i⟩ ⟨hi, hf, hY⟩ ih
    replace hi : i ≤ sn S := hi
    replace hf : gx (fun a _ => a = 100) σ τ := hf
    replace hY : ∀ t p, t < 8 → p < 64 → τ.1 100 (64 * t + p) = ldx (isYl S t p) (wD S) 100000 i := hY
    have hMτ : MS τ S := hM.gx hf (fun a k h => by omega)
    show ∃ σ', f_X11_reckon_b156 _ self τ (i : Int) = _ ∧ _
    unfold f_X11_reckon_b156
    rw [hMτ.1]
    by_cases h : i < sn S
    · obtain ⟨a1, a2, a3, a4, a5, a6, a7⟩ := hMτ.2.2.2.1 i h
      have hg : 0 ≤ (i : Int) ∧ (i : Int) < 200 := ⟨by omega, by omega⟩
      have no : (∀ t p, ¬ isYl S t p i) → ∃ σ', self τ (xm_w ((i : Int) + 1)) = K σ' ∧ gx (fun a _ => a = 100) σ σ' ∧ ∀ t p, t < 8 → p < 64 → σ'.1 100 (64 * t + p) = wYl S t p := by
        intro z
        rw [xw1 (by omega)]
        exact ih (τ, i + 1) ⟨h, hf, fun t p h1 h2 => by show τ.1 100 _ = ldx _ _ _ (i + 1); rw [ldx_no (z t p)]; exact hY t p h1 h2⟩ (by show sn S - (i + 1) < sn S - i; omega)
      rw [if_pos (by omega)]
      simp only [if_pos hg, Int.toNat_natCast, a1, a2, a3, a4, a7]
      by_cases s : wS S i = 0
      · rw [if_pos s]; exact no (fun t p z => by have := z.1; omega)
      · rw [if_neg s]
        have s1 : wS S i = 1 := by rcases hO.1.st h with z | z; exact absurd z s; exact z
        by_cases c : wK S i = 5
        · obtain ⟨b1, b2, _⟩ := (hO.1.2.1 i h).2.2.2.2.2.2.2.2.1 (Or.inl c)
          have hst := hO.1.1
          obtain ⟨q, hq⟩ : ∃ q : Nat, w1 S i = (q : Int) := ⟨(w1 S i).toNat, by omega⟩
          obtain ⟨t, ht⟩ : ∃ t : Nat, w2 S i = (t : Int) := ⟨(w2 S i).toNat, by omega⟩
          have e1 : xm_w (xm_w (64 * w2 S i) + w1 S i) = ((64 * t + q : Nat) : Int) := by
            rw [xp_w (x := 64 * w2 S i) (by omega) (by omega), xp_w (by omega) (by omega)]; omega
          rw [if_pos c, e1, if_pos ⟨by omega, by omega⟩, xst, Int.toNat_natCast, xw1 (by omega)]
          refine ih (_, i + 1) ⟨h, hf.u1 rfl, fun t2 p2 h1 h2 => ?_⟩ (by show sn S - (i + 1) < sn S - i; omega)
          show (xm_u1 τ 100 (64 * t + q) (wD S i)).1 100 (64 * t2 + p2) = ldx _ _ _ (i + 1)
          rw [xu11]
          by_cases z : isYl S t2 p2 i
          · rw [ldx_yes z, if_pos ⟨rfl, by have := z.2.2.1; have := z.2.2.2; omega⟩]
          · rw [ldx_no z, if_neg (fun y => z ⟨s1, c, by have := y.2; omega, by have := y.2; omega⟩)]
            exact hY t2 p2 h1 h2
        · rw [if_neg c]; exact no (fun t p z => c z.2.1)
    · rw [if_neg (by omega)]
      have e : i = sn S := by omega
      subst e
      exact ⟨τ, rfl, hf, hY⟩
theorem m_reck3 (hO : OK S) (hM : MS σ S) {A : Nat → Nat} {n : Nat} (hA : AGE S A n) (h22 : σ.1 84 22 = (n : Int)) (h97 : ∀ i, i < n → σ.1 97 i = (A i : Int)) (h96 : ∀ i, i < n → σ.1 96 (A i) = xb (wLegit S (A i))) : ∃ σ', f_X11_reckon_l223 xm_fuel σ ((n : Int) - 1) = some (σ', 0) ∧ gx (fun a _ => a = 98) σ σ' ∧ BDY S A n (fun p => σ'.2.1 98 p) := by
  unfold f_X11_reckon_l223
  have hn := hA.1
  refine it_T (γ := xm_Mem × Nat) _ _ (fun (g : xm_Mem → Int → Option xm_Out) a => g a.1 ((a.2 : Int) - 1)) (fun a => a.2 ≤ n ∧ gx (fun a _ => a = 98) σ a.1 ∧ ∀ i, a.2 ≤ i → i < n → ∀ q, q < 64 → (bt (a.1.2.1 98 (A i)) q ↔ q = A i ∨ ∃ j, j < n ∧ isCh S (A i) (A j) ∧ bt (a.1.2.1 98 (A j)) q)) (fun a => a.2) (fun z => ∃ σ', z = some (σ', 0) ∧ gx (fun a _ => a = 98) σ σ' ∧ BDY S A n (fun p => σ'.2.1 98 p)) ?_ xm_fuel (σ, n) ⟨Nat.le_refl _, gx.rf _ _, fun p h1 h2 => absurd h2 (by have : n ≤ p := h1; omega)⟩ (xfu (by show n < _; omega))
  rintro self ⟨τ, P⟩ ⟨hP, hf, hB⟩ ih
  replace hP : P ≤ n := hP
  replace hf : gx (fun a _ => a = 98) σ τ := hf
  replace hB : ∀ i, P ≤ i → i < n → ∀ q, q < 64 → (bt (τ.2.1 98 (A i)) q ↔ q = A i ∨ ∃ j, j < n ∧ isCh S (A i) (A j) ∧ bt (τ.2.1 98 (A j)) q) := hB
  show ∃ σ', f_X11_reckon_b223 self τ ((P : Int) - 1) = _ ∧ _
  unfold f_X11_reckon_b223
  have o : ∀ a k, a ≠ 98 → τ.1 a k = σ.1 a k := fun a k z => hf.1 a k z
  cases P with
  | zero =>
    rw [if_pos (by decide)]
    exact ⟨τ, rfl, hf, fun i hi q hq => hB i (Nat.zero_le _) hi q hq⟩
  | succ k =>
    have hk : k < n := by omega
    have hc := hA.2.1 k hk
    have e1 : ((k + 1 : Nat) : Int) - 1 = (k : Int) := by omega
    rw [e1, if_neg (by omega), if_pos ⟨by omega, by omega⟩, xvl, Int.toNat_natCast, o 97 k (by decide), h97 k hk]
    unfold f_X11_bit
    rw [Option.bind_some]
    try dsimp only
    rw [if_pos ⟨by omega, by omega⟩, xst, Int.toNat_natCast, xvl, xw1 (by omega), i64]
    unfold f_X11_reckon_l248
    refine it_T (γ := xm_Mem × Nat) _ _ (fun (g : xm_Mem → Int → Int → Int → Option xm_Out) a => g a.1 (k : Int) (A k : Int) (a.2 : Int)) (fun a => (k < a.2 ∧ a.2 ≤ n) ∧ gx (fun a _ => a = 98) σ a.1 ∧ (∀ p, p ≠ A k → a.1.2.1 98 p = τ.2.1 98 p) ∧ ∀ q, q < 64 → (bt (a.1.2.1 98 (A k)) q ↔ q = A k ∨ ∃ j, j < a.2 ∧ isCh S (A k) (A j) ∧ bt (τ.2.1 98 (A j)) q)) (fun a => n - a.2) (fun z => ∃ σ', z = some (σ', 0) ∧ gx (fun a _ => a = 98) σ σ' ∧ BDY S A n (fun p => σ'.2.1 98 p)) ?_ xm_fuel (_, k + 1) ⟨⟨Nat.lt_succ_self k, hk⟩, hf.u2 rfl, fun p hp => ?_, fun q hq => ?_⟩ (xfu (by show n - (k + 1) < _; omega))
    · rintro self2 ⟨v, j⟩ ⟨⟨hj1, hj2⟩, hf2, hv1, hv2⟩ ih2
      replace hj1 : k < j := hj1
      replace hj2 : j ≤ n := hj2
      replace hf2 : gx (fun a _ => a = 98) σ v := hf2
      replace hv1 : ∀ p, p ≠ A k → v.2.1 98 p = τ.2.1 98 p := hv1
      replace hv2 : ∀ q, q < 64 → (bt (v.2.1 98 (A k)) q ↔ q = A k ∨ ∃ i, i < j ∧ isCh S (A k) (A i) ∧ bt (τ.2.1 98 (A i)) q) := hv2
      show ∃ σ', f_X11_reckon_b248 _ self2 v (k : Int) (A k : Int) (j : Int) = _ ∧ _
      unfold f_X11_reckon_b248
      have ov : ∀ a k, a ≠ 98 → v.1 a k = σ.1 a k := fun a k z => hf2.1 a k z
      have hMv : MS v S := hM.gx hf2 (fun a k h => by omega)
      rw [ov 84 22 (by decide), h22]
      by_cases h : j < n
      · have hcj := hA.2.1 j h
        have h96v : v.1 96 (A j) = xb (wLegit S (A j)) := by rw [ov 96 _ (by decide)]; exact h96 j h
        rw [if_pos (by omega), if_pos ⟨by omega, by omega⟩, Int.toNat_natCast, ov 97 j (by decide), h97 j h, m_isChild hO hMv hcj.1 h96v, Option.bind_some]
        try dsimp only
        rw [xbi]
        by_cases z : isCh S (A k) (A j)
        · have hne : A j ≠ A k := fun y => by have := hA.inj h hk y; omega
          rw [if_pos z, if_pos ⟨by omega, by omega⟩, if_pos ⟨by omega, by omega⟩, xvl, ov 97 j (by decide), h97 j h, if_pos ⟨by omega, by omega⟩, if_pos ⟨by omega, by omega⟩, xst, Int.toNat_natCast, Int.toNat_natCast, xw1 (by omega)]
          refine ih2 (_, j + 1) ⟨⟨by show k < j + 1; omega, h⟩, hf2.u2 rfl, fun p hp => ?_, fun q hq => ?_⟩ (by show n - (j + 1) < n - j; omega)
          · show (xm_u2 v 98 (A k) _).2.1 98 p = _
            rw [xu22, if_neg (fun y => hp y.2)]; exact hv1 p hp
          · show bt ((xm_u2 v 98 (A k) _).2.1 98 (A k)) q ↔ _
            rw [xu22, if_pos ⟨rfl, rfl⟩, bt_or, hv2 q hq, hv1 _ hne]
            constructor
            · rintro ((y | ⟨i, i1, i2⟩) | y)
              · exact Or.inl y
              · exact Or.inr ⟨i, by show i < j + 1; omega, i2⟩
              · exact Or.inr ⟨j, Nat.lt_succ_self j, z, y⟩
            · rintro (y | ⟨i, i1, i2⟩)
              · exact Or.inl (Or.inl y)
              · have i1 : i < j + 1 := i1
                by_cases e : i = j
                · subst e; exact Or.inr i2.2
                · exact Or.inl (Or.inr ⟨i, by omega, i2⟩)
        · rw [if_neg z, xw1 (by omega)]
          refine ih2 (v, j + 1) ⟨⟨by show k < j + 1; omega, h⟩, hf2, hv1, fun q hq => ?_⟩ (by show n - (j + 1) < n - j; omega)
          show bt (v.2.1 98 (A k)) q ↔ _
          rw [hv2 q hq]
          constructor
          · rintro (y | ⟨i, i1, i2⟩)
            · exact Or.inl y
            · exact Or.inr ⟨i, by show i < j + 1; omega, i2⟩
          · rintro (y | ⟨i, i1, i2⟩)
            · exact Or.inl y
            · have i1 : i < j + 1 := i1
              by_cases e : i = j
              · subst e; exact absurd i2.1 z
              · exact Or.inr ⟨i, by omega, i2⟩
      · have ej : j = n := by omega
        subst ej
        rw [if_neg (by omega)]
        try dsimp only
        rw [xwn (by omega)]
        refine ih (v, k) ⟨by show k ≤ j; omega, hf2, fun i h1 h2 q hq => ?_⟩ (Nat.lt_succ_self k)
        have h1 : k ≤ i := h1
        show bt (v.2.1 98 (A i)) q ↔ q = A i ∨ ∃ x, x < j ∧ isCh S (A i) (A x) ∧ bt (v.2.1 98 (A x)) q
        have hnx : ∀ x, x < j → isCh S (A i) (A x) → v.2.1 98 (A x) = τ.2.1 98 (A x) := fun x hx hcx => hv1 _ (fun y => by
          have := hA.inj hx hk y
          have := ch_idx hO hA h2 hx hcx
          omega)
        by_cases e : i = k
        · subst e
          rw [hv2 q hq]
          constructor
          · rintro (y | ⟨x, x1, x2, x3⟩)
            · exact Or.inl y
            · exact Or.inr ⟨x, x1, x2, by rw [hnx x x1 x2]; exact x3⟩
          · rintro (y | ⟨x, x1, x2, x3⟩)
            · exact Or.inl y
            · rw [hnx x x1 x2] at x3; exact Or.inr ⟨x, x1, x2, x3⟩
        · rw [hv1 (A i) (fun y => e (hA.inj h2 hk y)), hB i (by omega) h2 q hq]
          constructor
          · rintro (y | ⟨x, x1, x2, x3⟩)
            · exact Or.inl y
            · exact Or.inr ⟨x, x1, x2, by rw [hnx x x1 x2]; exact x3⟩
          · rintro (y | ⟨x, x1, x2, x3⟩)
            · exact Or.inl y
            · rw [hnx x x1 x2] at x3; exact Or.inr ⟨x, x1, x2, x3⟩
    · show (xm_u2 τ 98 (A k) _).2.1 98 p = _
      rw [xu22, if_neg (fun y => hp y.2)]
    · show bt ((xm_u2 τ 98 (A k) _).2.1 98 (A k)) q ↔ _
      rw [xu22, if_pos ⟨rfl, rfl⟩, bt_shl hc.2 hq]
      constructor
      · exact Or.inl
      · rintro (y | ⟨i, i1, i2, _⟩)
        · exact y
        · have i1 : i < k + 1 := i1
          have := ch_idx hO hA hk (by omega) i2
          omega
theorem RO.gx {σ' : xm_Mem} {A : Nat → Nat} {n : Nat} {m : Nat → Int64} {Z : Nat → Nat → Prop} (h : RO σ S A n m) (hf : gx Z σ σ') (hz : ∀ a k, Z a k → ¬ (a = 84 ∧ k = 22) ∧ ¬ (96 ≤ a ∧ a ≤ 100)) : RO σ' S A n m := by
  have o : ∀ a k, (96 ≤ a ∧ a ≤ 100) → σ'.1 a k = σ.1 a k := fun a k y => hf.1 a k (fun z => (hz a k z).2 y)
  have o2 : ∀ a k, (96 ≤ a ∧ a ≤ 100) → σ'.2.1 a k = σ.2.1 a k := fun a k y => hf.2.1 a k (fun z => (hz a k z).2 y)
  refine ⟨by rw [hf.1 84 22 (fun z => (hz _ _ z).1 ⟨rfl, rfl⟩)]; exact h.1, fun i hi => ?_, fun t p h1 h2 => by rw [o 100 _ (by omega)]; exact h.2.2 t p h1 h2⟩
  rw [o 97 _ (by omega), o 96 _ (by omega), o 99 _ (by omega), o2 98 _ (by omega)]
  exact h.2.1 i hi
/-- reckoned or not -/
def RI (σ : xm_Mem) (S : xS) (A : Nat → Nat) (n : Nat) (m : Nat → Int64) : Prop := σ.1 84 18 = 0 ∨ (σ.1 84 18 = 1 ∧ RO σ S A n m)
theorem m_reckon (hO : OK S) (hM : MS σ S) {A : Nat → Nat} {n : Nat} {m : Nat → Int64} (hA : AGE S A n) (hm : BDY S A n m) (hR : RI σ S A n m) : ∃ σ', f_X11_reckon σ = some (σ', 0) ∧ gx zR σ σ' ∧ σ'.1 84 18 = 1 ∧ RO σ' S A n m := by
  unfold f_X11_reckon
  rcases hR with h | ⟨h, hr⟩
  · rw [if_pos h, xst, xst]
    have f0 : gx zR σ (xm_u1 (xm_u1 σ 84 18 1) 84 22 0) := ((gx.rf _ _).u1 (by unfold zR; omega)).u1 (by unfold zR; omega)
    have hM0 := hM.gx f0 zRM
    obtain ⟨σ1, A1, n1, a1, a2, a3, a4, a5, a6⟩ := m_reck1 hO hM0 (by simp [xu11]) (fun σ_41 => f_X11_reckon_l131 (fun σ_45 => f_X11_reckon_l156 (fun σ_64 => xm_vl (xm_w ((σ_64.1 84 22) - (1 : Int))) (fun v66 => f_X11_reckon_l223 xm_fuel σ_64 v66)) xm_fuel σ_45 (0 : Int)) xm_fuel σ_41 (0 : Int))
    rw [a1]
    obtain ⟨e1, e2⟩ := AGE.uniq a3 hA
    subst e1
    have f1 := f0.tr (a2.mono (fun a k h => by unfold zR1 at h; unfold zR; omega))
    have hM1 := hM.gx f1 zRM
    obtain ⟨σ2, b1, b2, b3⟩ := m_reck2 hO hM1 (fun σ_64 => xm_vl (xm_w ((σ_64.1 84 22) - (1 : Int))) (fun v66 => f_X11_reckon_l223 xm_fuel σ_64 v66))
    try dsimp only
    rw [b1]
    have f2 := f1.tr (b2.mono (fun a k h => by unfold zR; omega))
    have hM2 := hM.gx f2 zRM
    have o2 : ∀ a k, a ≠ 100 → σ2.1 a k = σ1.1 a k := fun a k z => b2.1 a k z
    have e22 : σ2.1 84 22 = (n1 : Int) := by rw [o2 84 22 (by decide)]; exact a4
    have hn := hA.1
    rw [xvl, e22, xp_w (by omega) (by omega)]
    obtain ⟨σ3, d1, d2, d3⟩ := m_reck3 hO hM2 hA e22 (fun i hi => by rw [o2 97 i (by decide), a5 i hi, e2 i hi]) (fun i hi => by rw [o2 96 _ (by decide)]; exact (a6 _ (hA.2.1 i hi).1).1)
    have o3 : ∀ a k, a ≠ 98 → σ3.1 a k = σ2.1 a k := fun a k z => d2.1 a k z
    refine ⟨σ3, d1, f2.tr (d2.mono (fun a k h => by unfold zR; omega)), ?_, by rw [o3 84 22 (by decide)]; exact e22, fun i hi => ⟨?_, ?_, ?_, ?_⟩, fun t p h1 h2 => ?_⟩
    · rw [o3 84 18 (by decide), o2 84 18 (by decide), a2.1 84 18 (by unfold zR1; omega)]; simp [xu11]
    · rw [o3 97 i (by decide), o2 97 i (by decide), a5 i hi, e2 i hi]
    · rw [o3 96 _ (by decide), o2 96 _ (by decide)]; exact (a6 _ (hA.2.1 i hi).1).1
    · rw [o3 99 _ (by decide), o2 99 _ (by decide)]; exact (a6 _ (hA.2.1 i hi).1).2
    · exact (BDY.uniq hO hA d3 hm i hi)
    · rw [o3 100 _ (by decide)]; exact b3 t p h1 h2
  · rw [if_neg (by omega)]
    exact ⟨σ, rfl, gx.rf _ _, h, hr⟩
end XA
