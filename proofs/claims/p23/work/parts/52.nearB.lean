/-! ===== the class orders a body by births ===== -/
def zBN (a k : Nat) : Prop := (a = 29 ∧ k = 3) ∨ a = 30 ∨ a = 32
section XN
variable {σ : xm_Mem} {S : xS} {A : Nat → Nat} {n : Nat}
theorem DA.gx {σ' : xm_Mem} {Z : Nat → Nat → Prop} (h : DA σ S A n) (hf : gx Z σ σ') (hz : ∀ a k, Z a k → ¬ (23 ≤ a ∧ a ≤ 25)) : DA σ' S A n := by
  have o : ∀ a k, (23 ≤ a ∧ a ≤ 25) → σ'.1 a k = σ.1 a k := fun a k z => hf.1 a k (fun w => hz a k w z)
  exact ⟨by rw [o 23 3 (by omega)]; exact h.1, fun i hi => by rw [o 25 i (by omega)]; exact h.2.1 i hi, fun p hp => by rw [o 24 p (by omega)]; exact h.2.2 p hp⟩
theorem fr.gx {Z : Nat → Prop} {σ σ' : xm_Mem} (h : fr Z σ σ') : gx (fun a _ => Z a) σ σ' := ⟨fun a k n => h.1 a k n, fun a k n => h.2.1 a k n, h.2.2⟩
theorem c_byAge (hA : AGE S A n) (hD : DA σ S A n) {k : Nat} (hk : k < n) : f_X2_byAge σ (k : Int) = some (σ, (A k : Int)) := by
  unfold f_X2_byAge
  have := hA.1
  rw [if_neg (by omega), hD.1, if_pos (by omega), if_pos ⟨by omega, by omega⟩, Int.toNat_natCast, hD.2.1 k hk]
theorem c_near1 (hO : OK S) (hA : AGE S A n) (hK : KD σ S A n) {root : Nat} (hroot : isP S (root : Int)) (K : xm_Mem → Option xm_Out) :
    ∃ (σ' : xm_Mem), f_X4_orderByBirths_l10 (fun σ_11 x1_11 => f_X4_orderByBirths_l40 K xm_fuel σ_11 x1_11) xm_fuel σ (root : Int) 0 = K σ' ∧ fr zN σ σ' ∧ ∀ c : Nat, isP S (c : Int) → σ'.1 32 c = nrF S root c := by
  have r64 := (hO.rec hroot).2.2.2.2.2
  unfold f_X4_orderByBirths_l10
  refine it_T (γ := xm_Mem × Nat) _ _ (fun (g : xm_Mem → Int → Int → Option xm_Out) a => g a.1 (root : Int) (a.2 : Int)) (fun a => a.2 ≤ 64 ∧ fr zN σ a.1 ∧ ∀ c, c < a.2 → a.1.1 32 c = if c = root then 0 else -1) (fun a => 64 - a.2) (fun z => ∃ (σ' : xm_Mem), z = K σ' ∧ fr zN σ σ' ∧ ∀ c : Nat, isP S (c : Int) → σ'.1 32 c = nrF S root c) ?_ xm_fuel (σ, 0) ⟨Nat.zero_le _, fr.rf _ _, fun c h => absurd h (Nat.not_lt_zero _)⟩ (xfu (by show 64 - 0 < _; decide))
  rintro self ⟨τ, i⟩ ⟨hi, hf, hz⟩ ih
  replace hi : i ≤ 64 := hi
  replace hf : fr zN σ τ := hf
  replace hz : ∀ c, c < i → τ.1 32 c = if c = root then 0 else -1 := hz
  show ∃ σ', f_X4_orderByBirths_b10 _ self τ (root : Int) (i : Int) = _ ∧ _
  unfold f_X4_orderByBirths_b10
  by_cases h : i < 64
  · have hg : 0 ≤ (i : Int) ∧ (i : Int) < 64 := ⟨by omega, by omega⟩
    have step : ∀ v : Int, v = (if i = root then 0 else -1) → ∃ (σ' : xm_Mem), self (xm_u1 τ 32 i v) (root : Int) (xm_w ((i : Int) + 1)) = K σ' ∧ fr zN σ σ' ∧ ∀ c : Nat, isP S (c : Int) → σ'.1 32 c = nrF S root c := by
      intro v hv
      rw [xw1 (by omega)]
      refine ih (_, i + 1) ⟨h, hf.u1 rfl, fun c hc => ?_⟩ (by show 64 - (i + 1) < 64 - i; omega)
      have hc : c < i + 1 := hc
      show (xm_u1 τ 32 i v).1 32 c = _
      rw [xu11]
      by_cases e : c = i
      · subst e; rw [if_pos ⟨rfl, rfl⟩]; exact hv
      · rw [if_neg (fun z => e z.2)]; exact hz c (by omega)
    rw [if_pos (by omega)]
    by_cases e : i = root
    · rw [if_pos (by omega), if_pos hg, xst, Int.toNat_natCast]
      exact step 0 (if_pos e).symm
    · rw [if_neg (by omega), if_pos hg, xst, Int.toNat_natCast]
      exact step (-1) (if_neg e).symm
  · rw [if_neg (by omega)]
    try dsimp only
    have e : i = 64 := by omega
    subst e
    unfold f_X4_orderByBirths_l40
    refine it_T (γ := (xm_Mem × (Nat → Int)) × Nat) _ _ (fun (g : xm_Mem → Int → Option xm_Out) a => g a.1.1 (a.2 : Int)) (fun a => (root ≤ a.2 ∧ a.2 ≤ 64) ∧ fr zN σ a.1.1 ∧ a.1.2 root = 0 ∧ (∀ c, c < 64 → a.1.1.1 32 c = a.1.2 c) ∧ (∀ c : Nat, c < 64 → -1 ≤ a.1.2 c ∧ a.1.2 c ≤ c) ∧ ∀ c : Nat, c < 64 → c ≠ root → a.1.2 c = @ite _ (isP S (c : Int) ∧ wLegit S c) (Classical.propDecidable _) (comb (if (wFa S c).toNat < a.2 then a.1.2 (wFa S c).toNat else -1) (if (wMo S c).toNat < a.2 then a.1.2 (wMo S c).toNat else -1)) (-1)) (fun a => 64 - a.2) (fun z => ∃ (σ' : xm_Mem), z = K σ' ∧ fr zN σ σ' ∧ ∀ c : Nat, isP S (c : Int) → σ'.1 32 c = nrF S root c) ?_ xm_fuel ((τ, fun c => if c = root then 0 else -1), root) ⟨⟨Nat.le_refl _, by omega⟩, hf, if_pos rfl, fun c hc => hz c hc, fun c hc => ?_, fun c hc hr => ?_⟩ (xfu (by show 64 - root < _; omega))
    · clear ih hz hf h hi
      rintro self ⟨⟨τ, f⟩, P⟩ ⟨⟨hP1, hP2⟩, hf, h0, h32, hrg, hI⟩ ih
      replace hP1 : root ≤ P := hP1
      replace hP2 : P ≤ 64 := hP2
      replace hf : fr zN σ τ := hf
      replace h0 : f root = 0 := h0
      replace h32 : ∀ c, c < 64 → τ.1 32 c = f c := h32
      replace hrg : ∀ c : Nat, c < 64 → -1 ≤ f c ∧ f c ≤ c := hrg
      replace hI : ∀ c : Nat, c < 64 → c ≠ root → f c = @ite _ (isP S (c : Int) ∧ wLegit S c) (Classical.propDecidable _) (comb (if (wFa S c).toNat < P then f (wFa S c).toNat else -1) (if (wMo S c).toNat < P then f (wMo S c).toNat else -1)) (-1) := hI
      show ∃ σ', f_X4_orderByBirths_b40 _ self τ (P : Int) = _ ∧ _
      unfold f_X4_orderByBirths_b40
      by_cases h : P < 64
      · rw [if_pos (by omega), if_pos ⟨by omega, by omega⟩, Int.toNat_natCast, h32 P h]
        by_cases c1 : f P = -1
        · rw [if_pos c1, xw1 (by omega)]
          refine ih ((τ, f), P + 1) ⟨⟨by show root ≤ P + 1; omega, h⟩, hf, h0, h32, hrg, fun c hc hr => ?_⟩ (by show 64 - (P + 1) < 64 - P; omega)
          show f c = @ite _ (isP S (c : Int) ∧ wLegit S c) (Classical.propDecidable _) (comb (if (wFa S c).toNat < P + 1 then f (wFa S c).toNat else -1) (if (wMo S c).toNat < P + 1 then f (wMo S c).toNat else -1)) (-1)
          have q : ∀ x : Nat, (if x < P + 1 then f x else -1) = if x < P then f x else -1 := by
            intro x
            by_cases e : x = P
            · subst e; rw [if_pos (Nat.lt_succ_self _), if_neg (Nat.lt_irrefl _), c1]
            · by_cases y : x < P
              · rw [if_pos (by omega), if_pos y]
              · rw [if_neg (by omega), if_neg y]
          rw [q, q]
          exact hI c hc hr
        · have rgP := hrg P h
          obtain ⟨σ2, f2, a1, a2, a3, a4, a5, a6⟩ := c_kidsN hO hA (hK.fr hf (fun a h => by unfold zN at h; omega)) h hP1 (by omega) hrg h32 hI
          rw [if_neg c1, a1, Option.bind_some, xw1 (by omega)]
          exact ih ((σ2, f2), P + 1) ⟨⟨by show root ≤ P + 1; omega, h⟩, hf.tr a2, by show f2 root = 0; rw [a4 root hP1]; exact h0, a3, a5, a6⟩ (by show 64 - (P + 1) < 64 - P; omega)
      · rw [if_neg (by omega)]
        have e : P = 64 := by omega
        subst e
        refine ⟨τ, rfl, hf, fun c hc => ?_⟩
        have c64 := (hO.rec hc).2.2.2.2.2
        rw [h32 c c64]
        refine (nrF_eq hO ⟨h0, fun c hc hr => ?_⟩ hc).symm
        have c64 := (hO.rec hc).2.2.2.2.2
        have := hI c c64 hr
        constructor
        · intro l
          have par := lg_par hO hc l
          rw [if_pos ⟨hc, l⟩, if_pos (by omega), if_pos (by omega)] at this
          exact this
        · intro l
          rw [if_neg (fun z => l z.2)] at this
          exact this
    · show -1 ≤ (if c = root then (0 : Int) else -1) ∧ (if c = root then (0 : Int) else -1) ≤ c
      split <;> omega
    · show (if c = root then (0 : Int) else -1) = @ite _ (isP S (c : Int) ∧ wLegit S c) (Classical.propDecidable _) (comb (if (wFa S c).toNat < root then (if (wFa S c).toNat = root then (0 : Int) else -1) else -1) (if (wMo S c).toNat < root then (if (wMo S c).toNat = root then (0 : Int) else -1) else -1)) (-1)
      rw [if_neg hr]
      have q : ∀ x : Nat, (if x < root then (if x = root then (0 : Int) else -1) else -1) = -1 := by
        intro x
        (repeat' split) <;> omega
      rw [q, q]
      by_cases l : isP S (c : Int) ∧ wLegit S c
      · rw [if_pos l]; rfl
      · rw [if_neg l]
theorem c_near (hO : OK S) (hA : AGE S A n) (hD : DA σ S A n) (hK : KD σ S A n) {root : Nat} (hroot : isP S (root : Int)) (h3 : σ.1 29 3 = 0) :
    ∃ σ', f_X4_orderByBirths σ (root : Int) = some (σ', 0) ∧ gx zBN σ σ' ∧ σ'.1 29 3 = ((ordN S A n root).length : Int) ∧ LA σ' 30 0 (ordN S A n root) := by
  have r64 := (hO.rec hroot).2.2.2.2.2
  have hn := hA.1
  unfold f_X4_orderByBirths f_X10_isPersonNumber
  rw [if_neg (by omega), if_pos (by omega), Option.bind_some]
  try dsimp only
  rw [if_neg (by decide)]
  obtain ⟨σ1, a1, a2, a3⟩ := c_near1 hO hA hK hroot (fun σ_20 => f_X4_orderByBirths_l69 xm_fuel σ_20 (0 : Int))
  rw [a1]
  try dsimp only
  have z1 : gx zBN σ σ1 := a2.gx.mono (fun a k h => by unfold zN at h; unfold zBN; omega)
  unfold f_X4_orderByBirths_l69
  refine it_T (γ := xm_Mem × Nat) _ _ (fun (g : xm_Mem → Int → Option xm_Out) a => g a.1 (a.2 : Int)) (fun a => a.2 ≤ 64 ∧ gx zBN σ a.1 ∧ (∀ c : Nat, isP S (c : Int) → a.1.1 32 c = nrF S root c) ∧ a.1.1 29 3 = ((partN S A n root a.2 0).length : Int) ∧ LA a.1 30 0 (partN S A n root a.2 0)) (fun a => 64 - a.2) (fun z => ∃ σ', z = some (σ', 0) ∧ gx zBN σ σ' ∧ σ'.1 29 3 = ((ordN S A n root).length : Int) ∧ LA σ' 30 0 (ordN S A n root)) ?_ xm_fuel (σ1, 0) ⟨Nat.zero_le _, z1, a3, ?_, LA.nil⟩ (xfu (by show 64 - 0 < _; decide))
  · rintro self ⟨τ, N⟩ ⟨hN, hf, h32, hb1, hb2⟩ ih
    replace hN : N ≤ 64 := hN
    replace hf : gx zBN σ τ := hf
    replace h32 : ∀ c : Nat, isP S (c : Int) → τ.1 32 c = nrF S root c := h32
    replace hb1 : τ.1 29 3 = ((partN S A n root N 0).length : Int) := hb1
    replace hb2 : LA τ 30 0 (partN S A n root N 0) := hb2
    show ∃ σ', f_X4_orderByBirths_b69 self τ (N : Int) = _ ∧ _
    unfold f_X4_orderByBirths_b69
    by_cases h : N < 64
    · rw [if_pos (by omega)]
      unfold f_X4_orderByBirths_l77
      refine it_T (γ := xm_Mem × Nat) _ _ (fun (g : xm_Mem → Int → Int → Option xm_Out) a => g a.1 (N : Int) (a.2 : Int)) (fun a => a.2 ≤ n ∧ gx zBN σ a.1 ∧ (∀ c : Nat, isP S (c : Int) → a.1.1 32 c = nrF S root c) ∧ a.1.1 29 3 = ((partN S A n root N a.2).length : Int) ∧ LA a.1 30 0 (partN S A n root N a.2)) (fun a => n - a.2) (fun z => ∃ σ', z = some (σ', 0) ∧ gx zBN σ σ' ∧ σ'.1 29 3 = ((ordN S A n root).length : Int) ∧ LA σ' 30 0 (ordN S A n root)) ?_ xm_fuel (τ, 0) ⟨Nat.zero_le _, hf, h32, hb1, hb2⟩ (xfu (by show n - 0 < _; omega))
      clear hf h32 hb1 hb2
      rintro self2 ⟨τ, k⟩ ⟨hk, hf, h32, hb1, hb2⟩ ih2
      replace hk : k ≤ n := hk
      replace hf : gx zBN σ τ := hf
      replace h32 : ∀ c : Nat, isP S (c : Int) → τ.1 32 c = nrF S root c := h32
      replace hb1 : τ.1 29 3 = ((partN S A n root N k).length : Int) := hb1
      replace hb2 : LA τ 30 0 (partN S A n root N k) := hb2
      have hDτ := hD.gx hf (fun a k h => by unfold zBN at h; omega)
      show ∃ σ', f_X4_orderByBirths_b77 _ self2 τ (N : Int) (k : Int) = _ ∧ _
      unfold f_X4_orderByBirths_b77 f_X2_size
      rw [hDτ.1, Option.bind_some]
      try dsimp only
      by_cases hkn : k < n
      · have hAk := hA.2.1 k hkn
        rw [if_pos (by omega), c_byAge hA hDτ hkn, Option.bind_some]
        try dsimp only
        rw [if_neg (by omega), if_pos ⟨by omega, by omega⟩, Int.toNat_natCast, h32 _ hAk.1]
        by_cases y : nrF S root (A k) = (N : Int)
        · have hl := partN_len hA hkn y
          rw [if_pos y, hb1, if_pos (by omega), xvl, xst, if_pos ⟨by omega, by omega⟩, xst, Int.toNat_natCast, xw1 (by omega), xw1 (by omega)]
          refine ih2 (_, k + 1) ⟨hkn, (hf.u1 (by unfold zBN; omega)).u1 (by unfold zBN; omega), fun c hc => ?_, ?_, ?_⟩ (by show n - (k + 1) < n - k; omega)
          · show (xm_u1 (xm_u1 τ 29 3 _) 30 _ _).1 32 c = _
            rw [xu11, if_neg (by omega), xu11, if_neg (by omega)]; exact h32 c hc
          · show (xm_u1 (xm_u1 τ 29 3 _) 30 _ _).1 29 3 = ((partN S A n root N (k + 1)).length : Int)
            rw [partN_y y, xu11, if_neg (by omega), xu11, if_pos ⟨rfl, rfl⟩]
            simp only [List.length_append, List.length_cons, List.length_nil, Nat.zero_add]
          · show LA (xm_u1 (xm_u1 τ 29 3 _) 30 _ _) 30 0 (partN S A n root N (k + 1))
            rw [partN_y y]
            refine LA.app hb2 (fun j hj => ?_) ?_
            · rw [xu11, if_neg (by omega), xu11, if_neg (by omega)]
            · rw [xu11, if_pos ⟨rfl, by omega⟩]
        · rw [if_neg y, xw1 (by omega)]
          refine ih2 (τ, k + 1) ⟨hkn, hf, h32, ?_, ?_⟩ (by show n - (k + 1) < n - k; omega)
          · show τ.1 29 3 = ((partN S A n root N (k + 1)).length : Int)
            rw [partN_n y]; exact hb1
          · show LA τ 30 0 (partN S A n root N (k + 1))
            rw [partN_n y]; exact hb2
      · rw [if_neg (by omega)]
        try dsimp only
        have e : k = n := by omega
        subst e
        rw [xw1 (by omega)]
        refine ih (τ, N + 1) ⟨h, hf, h32, ?_, ?_⟩ (by show 64 - (N + 1) < 64 - N; omega)
        · show τ.1 29 3 = ((partN S A k root (N + 1) 0).length : Int)
          rw [partN_0]; exact hb1
        · show LA τ 30 0 (partN S A k root (N + 1) 0)
          rw [partN_0]; exact hb2
    · rw [if_neg (by omega)]
      have e : N = 64 := by omega
      subst e
      rw [← ordN_part] at hb1 hb2
      exact ⟨τ, rfl, hf, hb1, hb2⟩
  · show σ1.1 29 3 = _
    rw [a2.1 29 3 (by unfold zN; omega)]; exact h3
end XN
