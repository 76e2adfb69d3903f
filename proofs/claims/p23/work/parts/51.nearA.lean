/-! ===== near: by births from the root ===== -/
def comb (a b : Int) : Int := if a < 0 then (if b < 0 then -1 else b + 1) else if b < 0 then a + 1 else xm_min a b + 1
/-- how many births away, -1: not of the body -/
def NR (S : xS) (root : Nat) (f : Nat → Int) : Prop := f root = 0 ∧ ∀ c : Nat, isP S (c : Int) → c ≠ root → (wLegit S c → f c = comb (f (wFa S c).toNat) (f (wMo S c).toNat)) ∧ (¬ wLegit S c → f c = -1)
theorem lg_par {S : xS} (hO : OK S) {c : Nat} (hc : isP S (c : Int)) (l : wLegit S c) : (isP S (((wFa S c).toNat : Nat) : Int) ∧ (wFa S c).toNat < c ∧ ((wFa S c).toNat : Int) = wFa S c) ∧ (isP S (((wMo S c).toNat : Nat) : Int) ∧ (wMo S c).toNat < c ∧ ((wMo S c).toNat : Int) = wMo S c) ∧ wFa S c ≠ wMo S c := by
  have h1 := l.1
  have h2 := l.2.1
  have hf := (hO.fa hc).resolve_left (by omega)
  have hm := (hO.mo hc).resolve_left (by omega)
  have e1 : ((wFa S c).toNat : Int) = wFa S c := by omega
  have e2 : ((wMo S c).toNat : Int) = wMo S c := by omega
  refine ⟨⟨by rw [e1]; exact hf.1, by omega, e1⟩, ⟨by rw [e2]; exact hm.1, by omega, e2⟩, fun z => hm.2.2.2 (by rw [← z]; exact hf.2.2.2)⟩
theorem NR.uniq {S : xS} (hO : OK S) {root : Nat} {f g : Nat → Int} (h : NR S root f) (k : NR S root g) : ∀ (N c : Nat), c < N → isP S (c : Int) → f c = g c := by
  intro N
  induction N with
  | zero => intro c hc; exact absurd hc (Nat.not_lt_zero _)
  | succ N ih =>
    intro c hc hp
    by_cases e : c = root
    · subst e; rw [h.1, k.1]
    · by_cases l : wLegit S c
      · obtain ⟨⟨a1, a2, _⟩, ⟨b1, b2, _⟩, _⟩ := lg_par hO hp l
        rw [(h.2 c hp e).1 l, (k.2 c hp e).1 l, ih _ (by omega) a1, ih _ (by omega) b1]
      · rw [(h.2 c hp e).2 l, (k.2 c hp e).2 l]
theorem comb_rg {a b c : Int} (h1 : -1 ≤ a) (h2 : -1 ≤ b) (h3 : a < c) (h4 : b < c) (h5 : 0 ≤ c) : -1 ≤ comb a b ∧ comb a b ≤ c := by
  unfold comb xm_min
  (repeat' split) <;> omega
noncomputable def nrF (S : xS) (root : Nat) : Nat → Int := Classical.epsilon (NR S root)
theorem nrF_eq {S : xS} (hO : OK S) {root : Nat} {f : Nat → Int} (h : NR S root f) {c : Nat} (hc : isP S (c : Int)) : nrF S root c = f c :=
  NR.uniq hO (Classical.epsilon_spec (p := NR S root) ⟨f, h⟩) h (c + 1) c (Nat.lt_succ_self c) hc
def nlist (g : Nat → List Nat) : Nat → List Nat
  | 0 => []
  | k + 1 => nlist g k ++ g k
noncomputable def ringN (S : xS) (A : Nat → Nat) (n root : Nat) : Nat → List Nat := fun d => (pre A n).filter (fun p => dc (nrF S root p = (d : Int)))
noncomputable def ordN (S : xS) (A : Nat → Nat) (n root : Nat) : List Nat := nlist (ringN S A n root) 64
/-- what is taken when N rings are done and of the next those of the first k -/
noncomputable def partN (S : xS) (A : Nat → Nat) (n root N k : Nat) : List Nat := nlist (ringN S A n root) N ++ (pre A k).filter (fun p => dc (nrF S root p = (N : Int)))
section XN
variable {σ : xm_Mem} {S : xS} {A : Nat → Nat} {n : Nat}
theorem nlist_mem {g : Nat → List Nat} {q : Nat} : ∀ N, q ∈ nlist g N ↔ ∃ d, d < N ∧ q ∈ g d := by
  intro N
  induction N with
  | zero => exact ⟨fun h => absurd h List.not_mem_nil, fun ⟨d, h, _⟩ => absurd h (Nat.not_lt_zero _)⟩
  | succ N ih =>
    show q ∈ nlist g N ++ g N ↔ _
    rw [List.mem_append, ih]
    constructor
    · rintro (⟨d, h1, h2⟩ | h)
      · exact ⟨d, by omega, h2⟩
      · exact ⟨N, Nat.lt_succ_self N, h⟩
    · rintro ⟨d, h1, h2⟩
      by_cases e : d = N
      · subst e; exact Or.inr h2
      · exact Or.inl ⟨d, by omega, h2⟩
theorem partN_mem {root N k q : Nat} (h : q ∈ partN S A n root N k) (hk : k ≤ n) : ∃ i, i < n ∧ A i = q ∧ ((∃ d, d < N ∧ nrF S root q = ((d : Nat) : Int)) ∨ (nrF S root q = (N : Int) ∧ i < k)) := by
  unfold partN at h
  rcases List.mem_append.mp h with z | z
  · obtain ⟨d, d1, d2⟩ := (nlist_mem N).mp z
    unfold ringN at d2
    rw [List.mem_filter, pre_mem, dc_t] at d2
    obtain ⟨⟨i, i1, i2⟩, d3⟩ := d2
    exact ⟨i, i1, i2, Or.inl ⟨d, d1, d3⟩⟩
  · rw [List.mem_filter, pre_mem, dc_t] at z
    obtain ⟨⟨i, i1, i2⟩, d3⟩ := z
    exact ⟨i, by omega, i2, Or.inr ⟨d3, i1⟩⟩
theorem partN_new (hA : AGE S A n) {root N k : Nat} (hk : k < n) (h : nrF S root (A k) = (N : Int)) : ¬ A k ∈ partN S A n root N k := by
  intro z
  obtain ⟨i, i1, i2, i3⟩ := partN_mem z (by omega)
  have := hA.inj i1 hk i2
  subst this
  rcases i3 with ⟨d, d1, d2⟩ | i3
  · rw [h] at d2; omega
  · omega
theorem partN_y {root N k : Nat} (h : nrF S root (A k) = (N : Int)) : partN S A n root N (k + 1) = partN S A n root N k ++ [A k] := by
  unfold partN
  rw [pre_s, filt_y (dc_y h), List.append_assoc]
theorem partN_n {root N k : Nat} (h : ¬ nrF S root (A k) = (N : Int)) : partN S A n root N (k + 1) = partN S A n root N k := by
  unfold partN
  rw [pre_s, filt_n (fun z => h (dc_t.mp z))]
theorem partN_0 (root N : Nat) : partN S A n root (N + 1) 0 = partN S A n root N n := by
  show nlist _ N ++ ringN S A n root N ++ [] = _
  rw [List.append_nil]
  rfl
theorem partN_ND (hA : AGE S A n) (root : Nat) : ∀ N k, k ≤ n → ND (partN S A n root N k) := by
  have inner : ∀ N, ND (partN S A n root N 0) → ∀ k, k ≤ n → ND (partN S A n root N k) := by
    intro N h0 k
    induction k with
    | zero => intro _; exact h0
    | succ k ih =>
      intro hk
      by_cases y : nrF S root (A k) = (N : Int)
      · rw [partN_y y]
        exact ((ih (by omega)).app (hA.2.1 k (by omega)).2 (partN_new hA (by omega) y)).1
      · rw [partN_n y]; exact ih (by omega)
  intro N
  induction N with
  | zero => exact inner 0 ND.nil
  | succ N ih => exact inner (N + 1) (by rw [partN_0]; exact ih n (Nat.le_refl _))
theorem partN_len (hA : AGE S A n) {root N k : Nat} (hk : k < n) (h : nrF S root (A k) = (N : Int)) : (partN S A n root N k).length < 64 :=
  ((partN_ND hA root N k (by omega)).app (hA.2.1 k hk).2 (partN_new hA hk h)).2
theorem ordN_part (root : Nat) : ordN S A n root = partN S A n root 64 0 := by
  show nlist _ 64 = nlist _ 64 ++ []
  rw [List.append_nil]
-- the class
def zN (a : Nat) : Prop := a = 32
theorem c_kidsN (hO : OK S) (hA : AGE S A n) (hK : KD σ S A n) {p root : Nat} (hp : p < 64) (hpr : root ≤ p) {f : Nat → Int} (hp0 : 0 ≤ f p) (hrg : ∀ c : Nat, c < 64 → -1 ≤ f c ∧ f c ≤ c) (hf : ∀ c, c < 64 → σ.1 32 c = f c)
    (hI : ∀ c : Nat, c < 64 → c ≠ root → f c = @ite _ (isP S (c : Int) ∧ wLegit S c) (Classical.propDecidable _) (comb (if (wFa S c).toNat < p then f (wFa S c).toNat else -1) (if (wMo S c).toNat < p then f (wMo S c).toNat else -1)) (-1)) :
    ∃ (σ' : xm_Mem) (f' : Nat → Int), f_X4_countBirthsOfKids σ (p : Int) = some (σ', 0) ∧ fr zN σ σ' ∧ (∀ c, c < 64 → σ'.1 32 c = f' c) ∧ (∀ c, c ≤ p → f' c = f c) ∧ (∀ c : Nat, c < 64 → -1 ≤ f' c ∧ f' c ≤ c) ∧
      ∀ c : Nat, c < 64 → c ≠ root → f' c = @ite _ (isP S (c : Int) ∧ wLegit S c) (Classical.propDecidable _) (comb (if (wFa S c).toNat < p + 1 then f' (wFa S c).toNat else -1) (if (wMo S c).toNat < p + 1 then f' (wMo S c).toNat else -1)) (-1) := by
  unfold f_X4_countBirthsOfKids f_X4_countBirthsOfKids_l2
  have hlen : (kidL S A n p).length ≤ 128 := by
    have h1 := sK_le S A (p + 1) n
    have h3 : sK S A n (p + 1) = sK S A n p + (kidL S A n p).length := rfl
    have := hA.1
    omega
  refine it_T (γ := (xm_Mem × (Nat → Int)) × Nat) _ _ (fun (g : xm_Mem → Int → Int → Option xm_Out) a => g a.1.1 (p : Int) (a.2 : Int)) (fun a => a.2 ≤ (kidL S A n p).length ∧ fr zN σ a.1.1 ∧ (∀ c, c < 64 → a.1.1.1 32 c = a.1.2 c) ∧ (∀ c, c ≤ p → a.1.2 c = f c) ∧ (∀ c : Nat, c < 64 → -1 ≤ a.1.2 c ∧ a.1.2 c ≤ c) ∧
      ∀ c : Nat, c < 64 → c ≠ root → a.1.2 c = @ite _ (isP S (c : Int) ∧ wLegit S c) (Classical.propDecidable _) (comb (@ite _ ((wFa S c).toNat < p ∨ ((wFa S c).toNat = p ∧ ∃ i, i < a.2 ∧ (kidL S A n p).getD i 0 = c)) (Classical.propDecidable _) (a.1.2 (wFa S c).toNat) (-1)) (@ite _ ((wMo S c).toNat < p ∨ ((wMo S c).toNat = p ∧ ∃ i, i < a.2 ∧ (kidL S A n p).getD i 0 = c)) (Classical.propDecidable _) (a.1.2 (wMo S c).toNat) (-1))) (-1)) (fun a => (kidL S A n p).length - a.2)
    (fun z => ∃ (σ' : xm_Mem) (f' : Nat → Int), z = some (σ', 0) ∧ fr zN σ σ' ∧ (∀ c, c < 64 → σ'.1 32 c = f' c) ∧ (∀ c, c ≤ p → f' c = f c) ∧ (∀ c : Nat, c < 64 → -1 ≤ f' c ∧ f' c ≤ c) ∧
      ∀ c : Nat, c < 64 → c ≠ root → f' c = @ite _ (isP S (c : Int) ∧ wLegit S c) (Classical.propDecidable _) (comb (if (wFa S c).toNat < p + 1 then f' (wFa S c).toNat else -1) (if (wMo S c).toNat < p + 1 then f' (wMo S c).toNat else -1)) (-1)) ?_ xm_fuel ((σ, f), 0) ⟨Nat.zero_le _, fr.rf _ _, hf, fun c _ => rfl, hrg, fun c hc hr => ?_⟩ (xfu (by show _ - 0 < _; omega))
  · rintro self ⟨⟨τ, g⟩, i⟩ ⟨hi, hz, hg, hlow, hrg2, hJ⟩ ih
    replace hi : i ≤ (kidL S A n p).length := hi
    replace hz : fr zN σ τ := hz
    replace hg : ∀ c, c < 64 → τ.1 32 c = g c := hg
    replace hlow : ∀ c, c ≤ p → g c = f c := hlow
    replace hrg2 : ∀ c : Nat, c < 64 → -1 ≤ g c ∧ g c ≤ c := hrg2
    replace hJ : ∀ c : Nat, c < 64 → c ≠ root → g c = @ite _ (isP S (c : Int) ∧ wLegit S c) (Classical.propDecidable _) (comb (@ite _ ((wFa S c).toNat < p ∨ ((wFa S c).toNat = p ∧ ∃ k, k < i ∧ (kidL S A n p).getD k 0 = c)) (Classical.propDecidable _) (g (wFa S c).toNat) (-1)) (@ite _ ((wMo S c).toNat < p ∨ ((wMo S c).toNat = p ∧ ∃ k, k < i ∧ (kidL S A n p).getD k 0 = c)) (Classical.propDecidable _) (g (wMo S c).toNat) (-1))) (-1) := hJ
    have hKτ : KD τ S A n := hK.fr hz (fun a h => by unfold zN at h; omega)
    show ∃ (σ' : xm_Mem) (f' : Nat → Int), f_X4_countBirthsOfKids_b2 self τ (p : Int) (i : Int) = _ ∧ _
    unfold f_X4_countBirthsOfKids_b2
    rw [c_kidCount hA hKτ hp, Option.bind_some]
    try dsimp only
    by_cases h : i < (kidL S A n p).length
    · rw [if_pos (by omega), c_kid hA hKτ hp h, Option.bind_some]
      try dsimp only
      have hkm := getD_mem h
      generalize hk : (kidL S A n p).getD i 0 = kd at hkm
      have kr := kid_rg hO hA hkm
      obtain ⟨_, klg, kpar⟩ := kid_mem.mp hkm
      obtain ⟨⟨pf1, pf2, pf3⟩, ⟨pm1, pm2, pm3⟩, pne⟩ := lg_par hO kr.1 klg
      have kne : kd ≠ root := by omega
      -- this child, before
      have hnot : ¬ ∃ k, k < i ∧ (kidL S A n p).getD k 0 = kd := by
        rintro ⟨k, k1, k2⟩
        -- the row of children has none twice
        have nd : ∀ (l : Nat) (a b : Nat), a < b → b < ((pre A l).filter (fun c => dc (isCh S p c))).length → l ≤ n → ((pre A l).filter (fun c => dc (isCh S p c))).getD a 0 ≠ ((pre A l).filter (fun c => dc (isCh S p c))).getD b 0 := by
          intro l
          induction l with
          | zero => intro a b _ hb; exact absurd hb (Nat.not_lt_zero _)
          | succ l ihl =>
            intro a b hab hb hl
            by_cases y : isCh S p (A l)
            · rw [pre_s, filt_y (dc_y y)] at hb ⊢
              rw [List.length_append] at hb
              have hb : b < ((pre A l).filter (fun c => dc (isCh S p c))).length + 1 := hb
              by_cases eb : b = ((pre A l).filter (fun c => dc (isCh S p c))).length
              · subst eb
                rw [getD_last, getD_app1 hab]
                intro z
                have := getD_mem hab
                rw [z, List.mem_filter, pre_mem] at this
                obtain ⟨⟨j, j1, j2⟩, _⟩ := this
                have := hA.inj (by omega) (by omega) j2
                omega
              · rw [getD_app1 (by omega), getD_app1 (by omega)]
                exact ihl a b hab (by omega) (by omega)
            · rw [pre_s, filt_n (fun z => y (dc_t.mp z))] at hb ⊢
              exact ihl a b hab hb (by omega)
        exact nd n k i k1 h (Nat.le_refl _) (k2.trans hk.symm)
      have gk := hJ kd kr.2.2.1 kne
      rw [if_pos ⟨kr.1, klg⟩] at gk
      have gp : g p = f p := hlow p (Nat.le_refl _)
      have rgp := hrg2 p hp
      have rgk := hrg2 kd kr.2.2.1
      -- what this child's number must become
      have step : ∀ v : Int, v = comb (@ite _ ((wFa S kd).toNat < p ∨ (wFa S kd).toNat = p) (Classical.propDecidable _) (g (wFa S kd).toNat) (-1)) (@ite _ ((wMo S kd).toNat < p ∨ (wMo S kd).toNat = p) (Classical.propDecidable _) (g (wMo S kd).toNat) (-1)) → (-1 ≤ v ∧ v ≤ kd) → (∀ τ', (∀ a k, ¬ (a = 32 ∧ k = kd) → τ'.1 a k = τ.1 a k) → fr zN τ τ' → τ'.1 32 kd = v →
          ∃ (σ' : xm_Mem) (f' : Nat → Int), self τ' (p : Int) (xm_w ((i : Int) + 1)) = some (σ', 0) ∧ fr zN σ σ' ∧ (∀ c, c < 64 → σ'.1 32 c = f' c) ∧ (∀ c, c ≤ p → f' c = f c) ∧ (∀ c : Nat, c < 64 → -1 ≤ f' c ∧ f' c ≤ c) ∧
      ∀ c : Nat, c < 64 → c ≠ root → f' c = @ite _ (isP S (c : Int) ∧ wLegit S c) (Classical.propDecidable _) (comb (if (wFa S c).toNat < p + 1 then f' (wFa S c).toNat else -1) (if (wMo S c).toNat < p + 1 then f' (wMo S c).toNat else -1)) (-1)) := by
        intro v hv hvr τ' h1 h2 h3
        rw [xw1 (by omega)]
        obtain ⟨g2, gq, gkd⟩ : ∃ g2 : Nat → Int, (∀ q, q ≠ kd → g2 q = g q) ∧ g2 kd = v := ⟨fun c => if c = kd then v else g c, fun q hq => if_neg hq, if_pos rfl⟩
        have key : ∀ c : Nat, c < 64 → c ≠ root → g2 c = @ite _ (isP S (c : Int) ∧ wLegit S c) (Classical.propDecidable _) (comb (@ite _ ((wFa S c).toNat < p ∨ ((wFa S c).toNat = p ∧ ∃ k, k < i + 1 ∧ (kidL S A n p).getD k 0 = c)) (Classical.propDecidable _) (g2 (wFa S c).toNat) (-1)) (@ite _ ((wMo S c).toNat < p ∨ ((wMo S c).toNat = p ∧ ∃ k, k < i + 1 ∧ (kidL S A n p).getD k 0 = c)) (Classical.propDecidable _) (g2 (wMo S c).toNat) (-1))) (-1) := by
          intro c hc hcr
          by_cases e : c = kd
          · subst e
            have q1 : ((wFa S c).toNat < p ∨ (wFa S c).toNat = p) ↔ ((wFa S c).toNat < p ∨ ((wFa S c).toNat = p ∧ ∃ k, k < i + 1 ∧ (kidL S A n p).getD k 0 = c)) := ⟨fun z => z.elim Or.inl (fun y => Or.inr ⟨y, i, Nat.lt_succ_self i, hk⟩), fun z => z.elim Or.inl (fun y => Or.inr y.1)⟩
            have q2 : ((wMo S c).toNat < p ∨ (wMo S c).toNat = p) ↔ ((wMo S c).toNat < p ∨ ((wMo S c).toNat = p ∧ ∃ k, k < i + 1 ∧ (kidL S A n p).getD k 0 = c)) := ⟨fun z => z.elim Or.inl (fun y => Or.inr ⟨y, i, Nat.lt_succ_self i, hk⟩), fun z => z.elim Or.inl (fun y => Or.inr y.1)⟩
            rw [gkd, if_pos ⟨kr.1, klg⟩, gq (wFa S c).toNat (by omega), gq (wMo S c).toNat (by omega), ← propext q1, ← propext q2]
            exact hv
          · rw [gq c e, hJ c hc hcr]
            by_cases l : isP S (c : Int) ∧ wLegit S c
            · rw [if_pos l, if_pos l]
              have par := lg_par hO l.1 l.2
              have ex : (∃ k, k < i ∧ (kidL S A n p).getD k 0 = c) ↔ ∃ k, k < i + 1 ∧ (kidL S A n p).getD k 0 = c := by
                constructor
                · rintro ⟨k, k1, k2⟩; exact ⟨k, by omega, k2⟩
                · rintro ⟨k, k1, k2⟩
                  by_cases ek : k = i
                  · subst ek; exact absurd (k2.symm.trans hk) e
                  · exact ⟨k, by omega, k2⟩
              rw [← propext ex]
              congr 1
              · by_cases y : (wFa S c).toNat < p ∨ ((wFa S c).toNat = p ∧ ∃ k, k < i ∧ (kidL S A n p).getD k 0 = c)
                · rw [if_pos y, if_pos y, gq _ (by omega)]
                · rw [if_neg y, if_neg y]
              · by_cases y : (wMo S c).toNat < p ∨ ((wMo S c).toNat = p ∧ ∃ k, k < i ∧ (kidL S A n p).getD k 0 = c)
                · rw [if_pos y, if_pos y, gq _ (by omega)]
                · rw [if_neg y, if_neg y]
            · rw [if_neg l, if_neg l]
        refine ih ((τ', g2), i + 1) ⟨h, hz.tr h2, fun c hc => ?_, fun c hc => ?_, fun c hc => ?_, key⟩ (by show _ - (i + 1) < _ - i; omega)
        · show τ'.1 32 c = g2 c
          by_cases e : c = kd
          · subst e; rw [gkd]; exact h3
          · rw [gq c e, h1 32 c (fun z => e z.2)]; exact hg c hc
        · show g2 c = f c
          rw [gq c (by omega)]; exact hlow c hc
        · show -1 ≤ g2 c ∧ g2 c ≤ _
          by_cases e : c = kd
          · subst e; rw [gkd]; exact hvr
          · rw [gq c e]; exact hrg2 c hc
      have hg0 : 0 ≤ (kd : Int) ∧ (kd : Int) < 64 := ⟨by omega, by omega⟩
      have hgp : 0 ≤ (p : Int) ∧ (p : Int) < 64 := ⟨by omega, by omega⟩
      rw [if_neg (by omega), if_pos hg0, Int.toNat_natCast, hg kd kr.2.2.1]
      -- the number to be
      have rf := hrg2 (wFa S kd).toNat (by omega)
      have rm := hrg2 (wMo S kd).toNat (by omega)
      have hst : ∀ v : Int, (g kd = -1 → v = g p + 1) → (g kd ≠ -1 → g p + 1 < g kd → v = g p + 1) → (g kd ≠ -1 → ¬ g p + 1 < g kd → v = g kd) → v = comb (@ite _ ((wFa S kd).toNat < p ∨ (wFa S kd).toNat = p) (Classical.propDecidable _) (g (wFa S kd).toNat) (-1)) (@ite _ ((wMo S kd).toNat < p ∨ (wMo S kd).toNat = p) (Classical.propDecidable _) (g (wMo S kd).toNat) (-1)) ∧ (-1 ≤ v ∧ v ≤ kd) := by
        intro v v1 v2 v3
        rcases kpar with kp | kp
        · have ef : (wFa S kd).toNat = p := by omega
          have em : (wMo S kd).toNat ≠ p := by omega
          rw [if_neg (fun z => z.elim (fun y => by omega) (fun y => hnot y.2))] at gk
          rw [ef, if_pos (Or.inr rfl)]
          by_cases y : (wMo S kd).toNat < p
          · rw [if_pos (Or.inl y)] at gk ⊢
            rw [gk] at v1 v2 v3
            revert v1 v2 v3
            unfold comb xm_min
            (repeat' split) <;> omega
          · rw [if_neg (fun z => z.elim y (fun x => em x.1))] at gk
            rw [if_neg (fun z => z.elim y em)]
            rw [gk] at v1 v2 v3
            revert v1 v2 v3
            unfold comb xm_min
            (repeat' split) <;> omega
        · have em : (wMo S kd).toNat = p := by omega
          have ef : (wFa S kd).toNat ≠ p := by omega
          have gk2 := gk
          rw [show (@ite _ ((wMo S kd).toNat < p ∨ ((wMo S kd).toNat = p ∧ ∃ k, k < i ∧ (kidL S A n p).getD k 0 = kd)) (Classical.propDecidable _) (g (wMo S kd).toNat) (-1)) = -1 from if_neg (fun z => z.elim (fun y => by omega) (fun y => hnot y.2))] at gk2
          rw [em, show (@ite _ (p < p ∨ p = p) (Classical.propDecidable _) (g p) (-1)) = g p from if_pos (Or.inr rfl)]
          by_cases y : (wFa S kd).toNat < p
          · rw [if_pos (Or.inl y)] at gk2 ⊢
            rw [gk2] at v1 v2 v3
            revert v1 v2 v3
            unfold comb xm_min
            (repeat' split) <;> omega
          · rw [if_neg (fun z => z.elim y (fun x => ef x.1))] at gk2
            rw [if_neg (fun z => z.elim y ef)]
            rw [gk2] at v1 v2 v3
            revert v1 v2 v3
            unfold comb xm_min
            (repeat' split) <;> omega
      have set : (∀ v : Int, v = g p + 1 → v = comb (@ite _ ((wFa S kd).toNat < p ∨ (wFa S kd).toNat = p) (Classical.propDecidable _) (g (wFa S kd).toNat) (-1)) (@ite _ ((wMo S kd).toNat < p ∨ (wMo S kd).toNat = p) (Classical.propDecidable _) (g (wMo S kd).toNat) (-1)) ∧ (-1 ≤ v ∧ v ≤ kd)) → ∃ (σ' : xm_Mem) (f' : Nat → Int), f_X4_countBirthsOfKids_j59 self τ (p : Int) (i : Int) (kd : Int) = some (σ', 0) ∧ fr zN σ σ' ∧ (∀ c, c < 64 → σ'.1 32 c = f' c) ∧ (∀ c, c ≤ p → f' c = f c) ∧ (∀ c : Nat, c < 64 → -1 ≤ f' c ∧ f' c ≤ c) ∧
      ∀ c : Nat, c < 64 → c ≠ root → f' c = @ite _ (isP S (c : Int) ∧ wLegit S c) (Classical.propDecidable _) (comb (if (wFa S c).toNat < p + 1 then f' (wFa S c).toNat else -1) (if (wMo S c).toNat < p + 1 then f' (wMo S c).toNat else -1)) (-1) := by
        intro hv
        obtain ⟨v1, v2⟩ := hv _ rfl
        unfold f_X4_countBirthsOfKids_j59
        rw [if_pos hgp, if_pos hg0, xst, Int.toNat_natCast, Int.toNat_natCast, hg p hp, xp_w (by omega) (by omega)]
        exact step _ v1 v2 _ (fun a k z => by rw [xu11, if_neg z]) ((fr.rf _ _).u1 rfl) (by rw [xu11, if_pos ⟨rfl, rfl⟩])
      by_cases c1 : g kd = -1
      · rw [if_pos c1]
        exact set (fun v hv => hst v (fun _ => hv) (fun z => absurd c1 z) (fun z => absurd c1 z))
      · rw [if_neg c1, if_pos hg0, if_pos hgp, Int.toNat_natCast, hg p hp, xp_w (by omega) (by omega)]
        by_cases c2 : g p + 1 < g kd
        · rw [if_pos c2]
          exact set (fun v hv => hst v (fun z => absurd z c1) (fun _ _ => hv) (fun _ z => absurd c2 z))
        · rw [if_neg c2]
          obtain ⟨v1, v2⟩ := hst (g kd) (fun z => absurd z c1) (fun _ z => absurd z c2) (fun _ _ => rfl)
          exact step _ v1 v2 τ (fun a k _ => rfl) (fr.rf _ _) (hg kd kr.2.2.1)
    · rw [if_neg (by omega)]
      refine ⟨τ, g, rfl, hz, hg, hlow, hrg2, fun c hc hcr => ?_⟩
      rw [hJ c hc hcr]
      by_cases l : isP S (c : Int) ∧ wLegit S c
      · rw [if_pos l, if_pos l]
        have par := lg_par hO l.1 l.2
        have kk : ∀ q : Nat, (q : Int) = wFa S c ∨ (q : Int) = wMo S c → q = p → ∃ k, k < i ∧ (kidL S A n p).getD k 0 = c := by
          intro q hq e
          subst e
          obtain ⟨x, hx, hxc⟩ := hA.2.2.2 c l.1
          have : c ∈ kidL S A n q := kid_mem.mpr ⟨⟨x, hx, hxc⟩, l.2, hq.elim (fun z => Or.inl z.symm) (fun z => Or.inr z.symm)⟩
          obtain ⟨k, k1, k2⟩ := mem_getD this
          exact ⟨k, by omega, k2⟩
        congr 1
        · by_cases y : (wFa S c).toNat < p + 1
          · rw [if_pos y, if_pos]
            by_cases e : (wFa S c).toNat = p
            · exact Or.inr ⟨e, kk _ (Or.inl par.1.2.2) e⟩
            · exact Or.inl (by omega)
          · rw [if_neg y, if_neg (fun z => z.elim (fun x => y (by omega)) (fun x => y (by omega)))]
        · by_cases y : (wMo S c).toNat < p + 1
          · rw [if_pos y, if_pos]
            by_cases e : (wMo S c).toNat = p
            · exact Or.inr ⟨e, kk _ (Or.inr par.2.1.2.2) e⟩
            · exact Or.inl (by omega)
          · rw [if_neg y, if_neg (fun z => z.elim (fun x => y (by omega)) (fun x => y (by omega)))]
      · rw [if_neg l, if_neg l]
  · show f c = _
    rw [hI c hc hr]
    by_cases l : isP S (c : Int) ∧ wLegit S c
    · rw [if_pos l, if_pos l]
      congr 1
      · by_cases y : (wFa S c).toNat < p
        · rw [if_pos y, if_pos (Or.inl y)]
        · rw [if_neg y, if_neg (fun z => z.elim y (fun ⟨_, k, k1, _⟩ => absurd k1 (Nat.not_lt_zero _)))]
      · by_cases y : (wMo S c).toNat < p
        · rw [if_pos y, if_pos (Or.inl y)]
        · rw [if_neg y, if_neg (fun z => z.elim y (fun ⟨_, k, k1, _⟩ => absurd k1 (Nat.not_lt_zero _)))]
    · rw [if_neg l, if_neg l]
end XN
