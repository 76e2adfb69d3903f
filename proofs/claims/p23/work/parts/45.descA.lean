/-! ===== the class: who is legit, by age ===== -/
theorem xwm {i : Nat} (h : i < 1000000) : xm_w (((i + 1 : Nat) : Int) - 1) = (i : Int) := by rw [xp_w (by omega) (by omega)]; omega
theorem xwm' {i : Nat} (h : i < 1000000) : xm_w (((i + 1 : Nat) : Int) + (-1)) = (i : Int) := by rw [xp_w (by omega) (by omega)]; omega
theorem xwn {i : Nat} (h : i < 1000000) : xm_w ((i : Int) + (-1)) = (i : Int) - 1 := by rw [xp_w (by omega) (by omega)]; omega
theorem fstB_0 {T : Nat → Prop} : ∀ c b, 1 ≤ b → fstB T c b = 0 → ∀ i, b ≤ i → i < b + c → ¬ T i := by
  intro c
  induction c with
  | zero => intro b _ _ i h1 h2; exact absurd h2 (by omega)
  | succ c ih =>
    intro b hb h i h1 h2
    rw [fstB_s] at h
    by_cases t : T b
    · rw [if_pos t] at h; omega
    · rw [if_neg t] at h
      by_cases e : i = b
      · subst e; exact t
      · exact ih (b + 1) (by omega) h i (by omega) (by omega)
/-- the records are as they must be, and no bond is broken -/
def OK (S : xS) : Prop := WF S ∧ NM S ∧ fstB (breaks S) 9 1 = 0
theorem OK.hold {S : xS} (h : OK S) {b r : Nat} (hb : 1 ≤ b ∧ b ≤ 9) (hr : r < sn S) (hs : wS S r = 1) : hold S b r := by
  have := fstB_0 9 1 (Nat.le_refl _) h.2.2 b hb.1 (by omega)
  exact Classical.byContradiction (fun n => this ⟨r, hr, hs, n⟩)
theorem OK.uq {S : xS} (h : OK S) : uq S := by
  refine uq_of h.1 ?_
  have := (same_bond h.1).trans h.2.2
  exact fstB_0 9 1 (Nat.le_refl _) this 2 (by omega) (by omega)
theorem OK.rec {S : xS} (h : OK S) {p : Nat} (hp : isP S (p : Int)) : sbb S p < sn S ∧ wK S (sbb S p) = 0 ∧ w1 S (sbb S p) = p ∧ wS S (sbb S p) = 1 ∧ p < sp S ∧ p < 64 := by
  have h1 := h.1.p hp.1 hp.2.1
  have h2 := hp.2.2
  have h3 := hp.2.1
  rw [Int.toNat_natCast] at h1 h2
  exact ⟨h1.1, h1.2.1, h1.2.2.1, h2, by omega, by omega⟩
theorem OK.fa {S : xS} (h : OK S) {p : Nat} (hp : isP S (p : Int)) : wFa S p = -1 ∨ (isP S (wFa S p) ∧ wFa S p < p ∧ wBorn S (wFa S p) + 4000 ≤ wBorn S p ∧ wMale S (wFa S p)) := by
  obtain ⟨r1, r2, r3, r4, r5, r6⟩ := h.rec hp
  have e : wFa S p = w2 S (sbb S p) := rfl
  have eb : wBorn S p = wD S (sbb S p) := rfl
  have n1 := ((h.2.1 _ r1 r4).1 r2).1
  have k := ((h.1.2.1 _ r1).2.2.2.2.1 r2).2.1
  have b1 : hB1 S (sbb S p) := h.hold (b := 1) (by omega) r1 r4
  have b4 : hB4 S (sbb S p) := h.hold (b := 4) (by omega) r1 r4
  have c1 := (b1.1 r2).1
  have c4 := b4 r2
  rw [e, eb]
  rcases n1 with z | z
  · exact Or.inl z
  · have := z.1
    refine Or.inr ⟨z, by omega, ?_, ?_⟩
    · rcases c4 with y | y
      · omega
      · exact y.1
    · rcases c1 with y | y
      · omega
      · exact y
theorem OK.mo {S : xS} (h : OK S) {p : Nat} (hp : isP S (p : Int)) : wMo S p = -1 ∨ (isP S (wMo S p) ∧ wMo S p < p ∧ wBorn S (wMo S p) + 4000 ≤ wBorn S p ∧ ¬ wMale S (wMo S p)) := by
  obtain ⟨r1, r2, r3, r4, r5, r6⟩ := h.rec hp
  have e : wMo S p = w3 S (sbb S p) := rfl
  have eb : wBorn S p = wD S (sbb S p) := rfl
  have n1 := ((h.2.1 _ r1 r4).1 r2).2
  have k := ((h.1.2.1 _ r1).2.2.2.2.1 r2).2.2.1
  have b1 : hB1 S (sbb S p) := h.hold (b := 1) (by omega) r1 r4
  have b3 : hB3 S (sbb S p) := h.hold (b := 3) (by omega) r1 r4
  have c1 := (b1.1 r2).2
  have c3 := b3 r2
  rw [e, eb]
  rcases n1 with z | z
  · exact Or.inl z
  · have := z.1
    refine Or.inr ⟨z, by omega, ?_, ?_⟩
    · rcases c3 with y | y
      · omega
      · exact y.1
    · rcases c1 with y | y
      · omega
      · exact y
section XA
variable {σ : xm_Mem} {S : xS} {e : Nat → Nat}
theorem UO.fr {σ' : xm_Mem} {A : Nat → Prop} {n : Nat} (h : UO σ S n) (hf : fr A σ σ') (hA : ∀ a, A a → ¬ zU a) : UO σ' S n := by
  have o : ∀ a k, zU a → σ'.1 a k = σ.1 a k := fun a k z => hf.1 a k (fun w => hA a w z)
  obtain ⟨m, u, u1, u2, u3, u4, u5⟩ := h
  refine ⟨m, u, by rw [o 18 4 (by unfold zU; omega)]; exact u1, u2, fun j hj => ?_, u4, u5⟩
  rw [o 19 j (by unfold zU; omega), o 20 j (by unfold zU; omega), o 21 j (by unfold zU; omega), o 22 j (by unfold zU; omega)]
  exact u3 j hj
theorem c_joined (hO : OK S) (hU : UO σ S (sn S)) (f m d : Int) : f_X9_joined σ f m d = some (σ, xb (united S f m d)) := by
  unfold f_X9_joined f_X9_joined_l3
  have hn := hO.1.n
  obtain ⟨k, u, u1, u2, u3, u4, u5⟩ := hU
  refine it_T (γ := Nat) _ _ (fun (g : xm_Mem → Int → Int → Int → Int → Option xm_Out) i => g σ f m d (i : Int)) (fun i => i ≤ k ∧ ∀ j, j < i → ¬ (w1 S (u j) = f ∧ w2 S (u j) = m ∧ wD S (u j) ≤ d ∧ d ≤ wOpen S (u j))) (fun i => k - i) (fun z => z = some (σ, xb (united S f m d))) ?_ xm_fuel 0 ⟨Nat.zero_le _, fun j h => absurd h (Nat.not_lt_zero _)⟩ (xfu (by omega))
  rintro self i ⟨hi, hno⟩ ih
  show f_X9_joined_b3 self σ f m d (i : Int) = _
  unfold f_X9_joined_b3
  rw [u1]
  by_cases h : i < k
  · obtain ⟨⟨v1, v2, v3⟩, v4, v5, v6, v7⟩ := u3 i h
    rw [oL_eq hO.uq] at v7
    have hg : 0 ≤ (i : Int) ∧ (i : Int) < 200 := ⟨by omega, by omega⟩
    have go : ¬ (w1 S (u i) = f ∧ w2 S (u i) = m ∧ wD S (u i) ≤ d ∧ d ≤ wOpen S (u i)) → self σ f m d (xm_w ((i : Int) + 1)) = some (σ, xb (united S f m d)) := by
      intro q
      rw [xw1 (by omega)]
      refine ih (i + 1) ⟨h, fun j hj => ?_⟩ (by omega)
      by_cases e : j = i
      · subst e; exact q
      · exact hno j (by omega)
    rw [if_pos (by omega)]
    unfold f_X9_isOpen
    simp only [if_pos hg, Int.toNat_natCast, v4, v5, v6, v7]
    by_cases a : w1 S (u i) = f
    · rw [if_pos a]
      by_cases b : w2 S (u i) = m
      · rw [if_pos b]
        by_cases c : d < wD S (u i)
        · rw [if_pos c]
          simp only [Option.bind_some, if_true]
          exact go (fun z => by omega)
        · rw [if_neg c]
          by_cases c2 : wOpen S (u i) < d
          · rw [if_pos c2]
            simp only [Option.bind_some, if_true]
            exact go (fun z => by omega)
          · rw [if_neg c2]
            simp only [Option.bind_some]
            rw [if_neg (by decide), xb_pos ⟨u i, v1, ⟨v2, v3, a, b⟩, by omega, by omega⟩]
      · rw [if_neg b]; exact go (fun z => b z.2.1)
    · rw [if_neg a]; exact go (fun z => a z.1)
  · rw [if_neg (by omega), xb_neg]
    rintro ⟨r, r1, ⟨r2, r3, r4, r5⟩, r6, r7⟩
    obtain ⟨j, j1, j2⟩ := u5 r r1 r2 r3
    exact hno j (by omega) (by rw [j2]; exact ⟨r4, r5, r6, r7⟩)
theorem c_bornLegit (hO : OK S) (hP : PO σ S) (hU : UO σ S (sn S)) {p : Nat} (hp : isP S (p : Int)) : f_X2_isBornLegit σ (p : Int) = some (σ, xb (wLegit S p)) := by
  unfold f_X2_isBornLegit
  have hW := hO.1
  have hf := hO.fa hp
  have hm := hO.mo hp
  have hb := wBorn_rg hW hp.1 hp.2.1
  simp only [c_father hW hP hp, c_mother hW hP hp, c_bornOn hW hP hp, Option.bind_some, c_joined hO hU]
  unfold wLegit
  by_cases f0 : wFa S p = -1
  · rw [if_pos f0, xb_neg (fun z => by omega)]
  · have hf := hf.resolve_left f0
    have fr := isP_rg hW hf.1
    rw [if_neg f0]
    by_cases m0 : wMo S p = -1
    · rw [if_pos m0, xb_neg (fun z => by omega)]
    · have hm := hm.resolve_left m0
      have mr := isP_rg hW hm.1
      simp only [c_deadOn hP (isP_sn hW hp) fr.1 fr.2.2, Option.bind_some, hO.uq (wFa S p), c_joined hO hU]
      rw [if_neg m0, xp_w (by omega) (by omega)]
      have hd := wDead_rg hW (wFa S p)
      by_cases u : united S (wFa S p) (wMo S p) (wBorn S p)
      · rw [xb_pos u, if_neg (by decide), xb_pos ⟨by omega, by omega, Or.inl u⟩]
      · rw [xb_neg u, if_pos rfl]
        by_cases d0 : wDead S (wFa S p) = -1
        · rw [if_pos d0, xb_neg (fun z => by rcases z.2.2 with z | z; exact u z; omega)]
        · rw [if_neg d0]
          by_cases d1 : wDead S (wFa S p) < wBorn S p - 300
          · rw [if_pos d1, xb_neg (fun z => by rcases z.2.2 with z | z; exact u z; omega)]
          · rw [if_neg d1]
            by_cases d2 : wBorn S p < wDead S (wFa S p)
            · rw [if_pos d2, xb_neg (fun z => by rcases z.2.2 with z | z; exact u z; omega)]
            · rw [if_neg d2]
              by_cases v : united S (wFa S p) (wMo S p) (wDead S (wFa S p))
              · rw [xb_pos v, if_neg (by decide), xb_pos ⟨by omega, by omega, Or.inr ⟨⟨by omega, by omega, by omega⟩, v⟩⟩]
              · rw [xb_neg v, if_pos rfl, xb_neg (fun z => by rcases z.2.2 with z | z; exact u z; exact v z.2)]
theorem c_isElder (hO : OK S) (hP : PO σ S) {p q : Nat} (hp : isP S (p : Int)) (hq : isP S (q : Int)) : f_X5_isElder σ (p : Int) (q : Int) = some (σ, xb (older S p q)) := by
  unfold f_X5_isElder older
  simp only [c_bornOn hO.1 hP hp, c_bornOn hO.1 hP hq, Option.bind_some]
  (repeat' split) <;> first | (rw [xb_pos (by omega)]; done) | (rw [xb_neg (by omega)]; done)
def zS (a : Nat) : Prop := a = 23 ∨ a = 25
def zD (a : Nat) : Prop := a = 23 ∨ (24 ≤ a ∧ a ≤ 28)
theorem zSD : ∀ a, zS a → zD a := fun a h => by unfold zS at h; unfold zD; omega
theorem zDC : ∀ a, zD a → zC a := fun a h => by unfold zD at h; unfold zC; omega
theorem zDP : ∀ a, zD a → ¬ zP a := fun a h z => by unfold zD at h; unfold zP at z; omega
theorem zDU : ∀ a, zD a → ¬ zU a := fun a h z => by unfold zD at h; unfold zU at z; omega
theorem c_sortIn (hO : OK S) (hP : PO σ S) {k n : Nat} {A : Nat → Nat} (hA : AGEk S k A n) (hk : k < 64) (hp : isP S (k : Int)) (h3 : σ.1 23 3 = (n : Int)) (h25 : ∀ i, i < n → σ.1 25 i = (A i : Int)) :
    ∃ σ' A', f_X2_sortIn σ (k : Int) = some (σ', 0) ∧ fr zS σ σ' ∧ AGEk S (k + 1) A' (n + 1) ∧ σ'.1 23 3 = ((n + 1 : Nat) : Int) ∧ ∀ i, i < n + 1 → σ'.1 25 i = (A' i : Int) := by
  unfold f_X2_sortIn f_X2_sortIn_l15
  have hn := hA.1
  rw [h3, if_pos (by omega), xvl]
  refine it_T (γ := xm_Mem × Nat) _ _ (fun (g : xm_Mem → Int → Int → Option xm_Out) a => g a.1 (k : Int) (a.2 : Int)) (fun a => a.2 ≤ n ∧ fr (fun b => b = 25) σ a.1 ∧ (∀ i, i < a.2 → a.1.1 25 i = (A i : Int)) ∧ ∀ i, a.2 ≤ i → i < n → a.1.1 25 (i + 1) = (A i : Int) ∧ older S k (A i)) (fun a => a.2) (fun z => ∃ σ' A', z = some (σ', 0) ∧ fr zS σ σ' ∧ AGEk S (k + 1) A' (n + 1) ∧ σ'.1 23 3 = ((n + 1 : Nat) : Int) ∧ ∀ i, i < n + 1 → σ'.1 25 i = (A' i : Int)) ?_ xm_fuel (σ, n) ⟨Nat.le_refl _, fr.rf _ _, h25, fun i h1 h2 => absurd h2 (by have : n ≤ i := h1; omega)⟩ (xfu (by show n < _; omega))
  rintro self ⟨τ, j⟩ ⟨hj, hf, hlo, hhi⟩ ih
  replace hj : j ≤ n := hj
  replace hlo : ∀ i, i < j → τ.1 25 i = (A i : Int) := hlo
  replace hhi : ∀ i, j ≤ i → i < n → τ.1 25 (i + 1) = (A i : Int) ∧ older S k (A i) := hhi
  have hPτ : PO τ S := hP.fr hf (fun a h z => by unfold zP at z; omega)
  show ∃ σ' A', f_X2_sortIn_b15 _ self τ (k : Int) (j : Int) = some (σ', 0) ∧ _
  unfold f_X2_sortIn_b15
  have fin : (0 < j → ¬ older S k (A (j - 1))) → ∃ σ' A', (if 0 ≤ (j : Int) ∧ (j : Int) < 64 then (xm_st (xm_u1 τ 25 (j : Int).toNat (k : Int)) (fun σ23 => xm_st (xm_u1 σ23 23 3 (xm_w ((σ23.1 23 3) + (1 : Int)))) (fun σ25 => some (σ25, (0 : Int))))) else none) = some (σ', 0) ∧ fr zS σ σ' ∧ AGEk S (k + 1) A' (n + 1) ∧ σ'.1 23 3 = ((n + 1 : Nat) : Int) ∧ ∀ i, i < n + 1 → σ'.1 25 i = (A' i : Int) := by
    intro hst
    have e23 : (xm_u1 τ 25 j (k : Int)).1 23 3 = (n : Int) := by rw [xu11, if_neg (by omega), hf.1 23 3 (by decide), h3]
    rw [if_pos ⟨by omega, by omega⟩]
    simp only [xst, Int.toNat_natCast, e23]
    rw [xw1 (by omega)]
    refine ⟨_, insA A j k, rfl, ((hf.mono (fun b hb => Or.inr hb)).u1 (Or.inr rfl)).u1 (Or.inl rfl), hA.ins hp hj hst (fun i h1 h2 => (hhi i h1 h2).2), by simp [xu11], fun i hi => ?_⟩
    simp only [xu11]
    unfold insA
    rcases Nat.lt_trichotomy i j with z | z | z
    · have e1 : ¬ i = j := by omega
      simp [e1, z]
      exact hlo i z
    · subst z
      simp
    · have e1 : ¬ i = j := by omega
      have e2 : ¬ i < j := by omega
      simp [e1, e2]
      have := (hhi (i - 1) (by omega) (by omega)).1
      rw [show i - 1 + 1 = i by omega] at this
      exact this
  cases j with
  | zero =>
    rw [if_neg (by decide)]
    exact fin (fun h => absurd h (Nat.lt_irrefl _))
  | succ i =>
    have hAi := (hA.2.1 i (by omega)).1
    rw [if_pos (by omega), xwm (by omega)]
    simp only [xvl, Int.toNat_natCast, hlo i (Nat.lt_succ_self i), c_isElder hO hPτ hp hAi, Option.bind_some, xbi, xst]
    rw [if_pos ⟨by omega, by omega⟩]
    by_cases o : older S k (A i)
    · rw [if_pos o, if_pos ⟨by omega, by omega⟩, if_pos ⟨by omega, by omega⟩, xwm' (by omega)]
      refine ih (_, i) ⟨by show i ≤ n; omega, hf.u1 rfl, fun x hx => ?_, fun x h1 h2 => ?_⟩ (Nat.lt_succ_self i)
      · have hx : x < i := hx
        show (xm_u1 τ 25 (i + 1) _).1 25 x = _
        rw [xu11, if_neg (by omega)]
        exact hlo x (by omega)
      · have h1 : i ≤ x := h1
        show (xm_u1 τ 25 (i + 1) _).1 25 (x + 1) = _ ∧ _
        rw [xu11]
        by_cases z : x = i
        · subst z
          rw [if_pos ⟨rfl, rfl⟩]
          exact ⟨rfl, o⟩
        · rw [if_neg (by omega)]
          exact hhi x (by omega) h2
    · rw [if_neg o]
      exact fin (fun _ => o)
/-- by age, who is legit, as the class keeps it -/
def DA (σ : xm_Mem) (S : xS) (A : Nat → Nat) (n : Nat) : Prop := σ.1 23 3 = (n : Int) ∧ (∀ i, i < n → σ.1 25 i = (A i : Int)) ∧ ∀ p : Nat, p < 64 → σ.1 24 p = xb (isP S (p : Int) ∧ wLegit S p)
theorem c_desc1 (hO : OK S) (hP : PO σ S) (hU : UO σ S (sn S)) (K : xm_Mem → Option xm_Out) : ∃ σ' A n, f_X2_rebuild_l7 K xm_fuel (xm_u1 σ 23 3 0) 0 = K σ' ∧ fr zD σ σ' ∧ AGE S A n ∧ DA σ' S A n := by
  unfold f_X2_rebuild_l7
  refine it_T (γ := xm_Mem × Nat) _ _ (fun (g : xm_Mem → Int → Option xm_Out) a => g a.1 (a.2 : Int)) (fun a => a.2 ≤ 64 ∧ fr zD σ a.1 ∧ (∀ p : Nat, p < a.2 → a.1.1 24 p = xb (isP S (p : Int) ∧ wLegit S p)) ∧ ∃ A n, AGEk S a.2 A n ∧ a.1.1 23 3 = (n : Int) ∧ ∀ i, i < n → a.1.1 25 i = (A i : Int)) (fun a => 64 - a.2) (fun z => ∃ σ' A n, z = K σ' ∧ fr zD σ σ' ∧ AGE S A n ∧ DA σ' S A n) ?_ xm_fuel (xm_u1 σ 23 3 0, 0) ⟨Nat.zero_le _, (fr.rf _ _).u1 (Or.inl rfl), fun p h => absurd h (Nat.not_lt_zero _), fun _ => 0, 0, AGEk.zero _ _, by simp [xu11], fun i h => absurd h (Nat.not_lt_zero _)⟩ (xfu (by show 64 - 0 < _; decide))
  rintro self ⟨τ, k⟩ ⟨hk, hf, hl, A, n, hA, h3, h25⟩ ih
  replace hk : k ≤ 64 := hk
  replace hA : AGEk S k A n := hA
  replace hl : ∀ p : Nat, p < k → τ.1 24 p = xb (isP S (p : Int) ∧ wLegit S p) := hl
  replace h3 : τ.1 23 3 = (n : Int) := h3
  replace h25 : ∀ i, i < n → τ.1 25 i = (A i : Int) := h25
  replace hf : fr zD σ τ := hf
  have hPτ : PO τ S := hP.fr hf zDP
  have hUτ : UO τ S (sn S) := hU.fr hf zDU
  show ∃ σ' A n, f_X2_rebuild_b7 K self τ (k : Int) = _ ∧ _
  unfold f_X2_rebuild_b7
  by_cases h : k < 64
  · rw [if_pos (by omega), c_has hO.1 hPτ]
    simp only [Option.bind_some, xbi]
    have hg : 0 ≤ (k : Int) ∧ (k : Int) < 64 := ⟨by omega, by omega⟩
    have n24 : ∀ v, ∀ p : Nat, p < k → (xm_u1 τ 24 k v).1 24 p = xb (isP S (p : Int) ∧ wLegit S p) := fun v p hp => by rw [xu11, if_neg (by omega)]; exact hl p hp
    have yes : ∀ v : Int, v = xb (isP S (k : Int) ∧ wLegit S k) → ∃ σ' A n, f_X2_rebuild_j43 self τ v (k : Int) (k : Int) = K σ' ∧ fr zD σ σ' ∧ AGE S A n ∧ DA σ' S A n := by
      intro v hv
      unfold f_X2_rebuild_j43
      have f1 : fr zD σ (xm_u1 τ 24 k v) := hf.u1 (by unfold zD; omega)
      have hP1 : PO (xm_u1 τ 24 k v) S := hP.fr f1 zDP
      rw [if_pos hg]
      simp only [xst, Int.toNat_natCast, c_has hO.1 hP1, Option.bind_some, xbi]
      have h31 : (xm_u1 τ 24 k v).1 23 3 = (n : Int) := by rw [xu11, if_neg (by omega)]; exact h3
      have h251 : ∀ i, i < n → (xm_u1 τ 24 k v).1 25 i = (A i : Int) := fun i hi => by rw [xu11, if_neg (by omega)]; exact h25 i hi
      by_cases c : isP S (k : Int)
      · rw [if_pos c]
        obtain ⟨σ2, A2, a1, a2, a3, a4, a5⟩ := c_sortIn hO hP1 hA h c h31 h251
        rw [a1]
        simp only [Option.bind_some]
        rw [xw1 (by omega)]
        refine ih (σ2, k + 1) ⟨h, f1.tr (a2.mono zSD), fun p hp => ?_, A2, n + 1, a3, a4, a5⟩ (by show 64 - (k + 1) < 64 - k; omega)
        have hp : p < k + 1 := hp
        show σ2.1 24 p = _
        rw [a2.1 24 p (by unfold zS; omega)]
        by_cases e : p = k
        · subst e; rw [xu11, if_pos ⟨rfl, rfl⟩]; exact hv
        · exact n24 v p (by omega)
      · rw [if_neg c, xw1 (by omega)]
        refine ih (_, k + 1) ⟨h, f1, fun p hp => ?_, A, n, hA.no c, h31, h251⟩ (by show 64 - (k + 1) < 64 - k; omega)
        have hp : p < k + 1 := hp
        show (xm_u1 τ 24 k v).1 24 p = _
        by_cases e : p = k
        · subst e; rw [xu11, if_pos ⟨rfl, rfl⟩]; exact hv
        · exact n24 v p (by omega)
    unfold f_X2_rebuild_j42
    by_cases c : isP S (k : Int)
    · rw [if_pos c, c_bornLegit hO hPτ hUτ c]
      simp only [Option.bind_some, xbi]
      by_cases l : wLegit S k
      · rw [if_pos l]; exact yes 1 (xb_pos ⟨c, l⟩).symm
      · rw [if_neg l]; exact yes 0 (xb_neg (fun z => l z.2)).symm
    · rw [if_neg c]; exact yes 0 (xb_neg (fun z => c z.1)).symm
  · rw [if_neg (by omega)]
    have e : k = 64 := by omega
    subst e
    exact ⟨τ, A, n, rfl, hf, hA.age (Nat.le_refl _) (fun p hp => (hO.rec hp).2.2.2.2.2), h3, h25, hl⟩
end XA
