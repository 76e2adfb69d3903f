/-! ===== the class goes down ===== -/
def zHe (a k : Nat) : Prop := (a = 29 ∧ k = 13) ∨ a = 34
/-- the bodies, as the class keeps them -/
def BD (σ : xm_Mem) (S : xS) (m : Nat → Int64) : Prop := ∀ p : Nat, isP S (p : Int) → σ.2.1 28 p = m p
section XE
variable {σ : xm_Mem} {S : xS} {A : Nat → Nat} {n : Nat} {m : Nat → Int64} {L : List Nat}
theorem LN.gx {σ' : xm_Mem} {Z : Nat → Nat → Prop} (h : LN σ L) (hf : gx Z σ σ') (hz : ∀ a k, Z a k → ¬ (a = 29 ∧ (k = 10 ∨ k = 11)) ∧ a ≠ 33) : LN σ' L :=
  ⟨by rw [hf.1 29 10 (fun z => (hz _ _ z).1 ⟨rfl, Or.inl rfl⟩)]; exact h.1, h.2.1.eq (fun i _ => hf.1 33 _ (fun z => (hz _ _ z).2 rfl)), fun q hq => by rw [hf.2.1 29 11 (fun z => (hz _ _ z).1 ⟨rfl, Or.inr rfl⟩)]; exact h.2.2 q hq⟩
theorem BD.gx {σ' : xm_Mem} {Z : Nat → Nat → Prop} (h : BD σ S m) (hf : gx Z σ σ') (hz : ∀ a k, Z a k → a ≠ 28) : BD σ' S m := fun p hp => by rw [hf.2.1 28 p (fun z => hz _ _ z rfl)]; exact h p hp
theorem c_body (hO : OK S) (hB : BD σ S m) {p : Nat} (hp : isP S (p : Int)) : f_X2_body σ (p : Int) = some (σ, (m p).toInt) := by
  have p64 := (hO.rec hp).2.2.2.2.2
  unfold f_X2_body f_X10_isPersonNumber
  rw [if_neg (by omega), if_pos (by omega), Option.bind_some]
  try dsimp only
  rw [if_neg (by decide), if_pos ⟨by omega, by omega⟩, Int.toNat_natCast, hB p hp]
theorem c_lhas (hN : LN σ L) {p : Nat} (hp : p < 64) : f_X4_has σ (p : Int) = some (σ, xb (p ∈ L)) := by
  unfold f_X4_has f_X10_isPersonNumber
  have hb := lc_b (σ.2.1 29 11) hp
  rw [if_neg (by omega), if_pos (by omega), Option.bind_some]
  try dsimp only
  rw [if_neg (by decide)]
  by_cases c : p ∈ L
  · rw [if_neg (fun z => hb.mp z ((hN.2.2 p hp).mpr c)), xb_pos c]
  · rw [if_pos (hb.mpr (fun z => c ((hN.2.2 p hp).mp z))), xb_neg c]
theorem kidL_len (S : xS) (A : Nat → Nat) (n p : Nat) : (kidL S A n p).length ≤ n := by
  have := List.length_filter_le (fun c => dc (isCh S p c)) (pre A n)
  rw [pre_len] at this
  exact this
theorem c_firstOf (hN : LN σ L) (hl : L.length ≤ 64) (h64 : ∀ q, q ∈ L → q < 64) (v : Int64) : f_X4_firstOf σ v = some (σ, hdI (L.filter (fun q => dc (bt v q)))) := by
  unfold f_X4_firstOf f_X4_firstOf_l2
  refine it_T (γ := Nat) _ _ (fun (g : xm_Mem → Int64 → Int → Option xm_Out) i => g σ v (i : Int)) (fun i => i ≤ L.length ∧ ∀ j, j < i → ¬ bt v (L.getD j 0)) (fun i => L.length - i) (fun z => z = some (σ, hdI (L.filter (fun q => dc (bt v q))))) ?_ xm_fuel 0 ⟨Nat.zero_le _, fun j h => absurd h (Nat.not_lt_zero _)⟩ (xfu (by show L.length - 0 < _; omega))
  rintro self i ⟨hi, hno⟩ ih
  show f_X4_firstOf_b2 _ self σ v (i : Int) = _
  unfold f_X4_firstOf_b2
  rw [hN.1]
  by_cases h : i < L.length
  · have e := hN.2.1 i h
    rw [Nat.zero_add] at e
    have q64 := h64 _ (getD_mem h)
    have hb := lc_b v q64
    rw [if_pos (by omega), if_pos ⟨by omega, by omega⟩, Int.toNat_natCast, e]
    by_cases c : bt v (L.getD i 0)
    · rw [if_neg (fun z => hb.mp z c)]
      try dsimp only
      rw [if_pos ⟨by omega, by omega⟩, Int.toNat_natCast, e, hd_filter L i h hno c]
    · rw [if_pos (hb.mpr c), xw1 (by omega)]
      refine ih (i + 1) ⟨h, fun j hj => ?_⟩ (by omega)
      by_cases ej : j = i
      · subst ej; exact c
      · exact hno j (by omega)
  · rw [if_neg (by omega), filter_none (fun j hj => hno j (by omega))]
    rfl
theorem c_son (hO : OK S) (hA : AGE S A n) (hP : PO σ S) (hK : KD σ S A n) (hB : BD σ S m) (hN : LN σ L) (h64 : ∀ q, q ∈ L → q < 64) {p : Nat} (hp : p < 64) : f_X4_eldestSonWithLine σ (p : Int) = some (σ, hdI (sonL S A n m L p)) := by
  unfold f_X4_eldestSonWithLine f_X4_eldestSonWithLine_l2
  have hn := hA.1
  have hlen := kidL_len S A n p
  have eS : sonL S A n m L p = (kidL S A n p).filter (fun c : Nat => dc (wMale S c ∧ tch m L c)) := (kidF_eq S A p (fun c : Nat => wMale S c ∧ tch m L c) n).symm
  rw [eS]
  refine it_T (γ := Nat) _ _ (fun (g : xm_Mem → Int → Int → Option xm_Out) i => g σ (p : Int) (i : Int)) (fun i => i ≤ (kidL S A n p).length ∧ ∀ j, j < i → ¬ (wMale S ((kidL S A n p).getD j 0 : Nat) ∧ tch m L ((kidL S A n p).getD j 0))) (fun i => (kidL S A n p).length - i) (fun z => z = some (σ, hdI ((kidL S A n p).filter (fun c : Nat => dc (wMale S c ∧ tch m L c))))) ?_ xm_fuel 0 ⟨Nat.zero_le _, fun j h => absurd h (Nat.not_lt_zero _)⟩ (xfu (by show _ - 0 < _; omega))
  rintro self i ⟨hi, hno⟩ ih
  show f_X4_eldestSonWithLine_b2 self σ (p : Int) (i : Int) = _
  unfold f_X4_eldestSonWithLine_b2
  rw [c_kidCount hA hK hp, Option.bind_some]
  try dsimp only
  by_cases h : i < (kidL S A n p).length
  · have kr := kid_rg hO hA (getD_mem h)
    rw [if_pos (by omega), c_kid hA hK hp h, Option.bind_some]
    try dsimp only
    rw [c_isMale hO.1 hP kr.1, Option.bind_some]
    try dsimp only
    rw [xbi]
    have go : ¬ (wMale S ((kidL S A n p).getD i 0 : Nat) ∧ tch m L ((kidL S A n p).getD i 0)) → self σ (p : Int) (xm_w ((i : Int) + 1)) = some (σ, hdI ((kidL S A n p).filter (fun c : Nat => dc (wMale S c ∧ tch m L c)))) := by
      intro z
      rw [xw1 (by omega)]
      refine ih (i + 1) ⟨h, fun j hj => ?_⟩ (by omega)
      by_cases ej : j = i
      · subst ej; exact z
      · exact hno j (by omega)
    by_cases a : wMale S ((kidL S A n p).getD i 0 : Nat)
    · rw [if_pos a, c_body hO hB kr.1, Option.bind_some]
      try dsimp only
      rw [i64]
      have hz : xm_lc (m ((kidL S A n p).getD i 0) &&& σ.2.1 29 11) 0 = 0 ↔ ¬ tch m L ((kidL S A n p).getD i 0) := by
        rw [lc_0, bt_z]
        constructor
        · rintro z ⟨q, q1, q2⟩
          exact z q (h64 q q1) ((bt_and _ _ _).mpr ⟨q2, (hN.2.2 q (h64 q q1)).mpr q1⟩)
        · intro z q hq y
          rw [bt_and, hN.2.2 q hq] at y
          exact z ⟨q, y.2, y.1⟩
      by_cases c : tch m L ((kidL S A n p).getD i 0)
      · rw [if_neg (fun z => hz.mp z c), hd_filter (P := fun c : Nat => wMale S c ∧ tch m L c) _ i h hno ⟨a, c⟩]
      · rw [if_pos (hz.mpr c)]; exact go (fun z => c z.2)
    · rw [if_neg a]; exact go (fun z => a z.1)
  · rw [if_neg (by omega), filter_none (P := fun c : Nat => wMale S c ∧ tch m L c) (fun j hj => hno j (by omega))]
    rfl
theorem c_daughter (hO : OK S) (hA : AGE S A n) (hP : PO σ S) (hK : KD σ S A n) (hB : BD σ S m) (hN : LN σ L) (hl : L.length ≤ 64) (h64 : ∀ q, q ∈ L → q < 64) {p : Nat} (hp : p < 64) :
    ∃ σ', gx zHe σ σ' ∧ ((1 < (dfold m L (dauL S A n p)).2.1.length ∧ f_X4_soleDaughterWithLine σ (p : Int) = some (σ', -1) ∧ σ'.1 29 13 = ((dfold m L (dauL S A n p)).2.1.length : Int) ∧ LA σ' 34 0 (dfold m L (dauL S A n p)).2.1) ∨ (¬ 1 < (dfold m L (dauL S A n p)).2.1.length ∧ f_X4_soleDaughterWithLine σ (p : Int) = some (σ', (dfold m L (dauL S A n p)).2.2) ∧ σ'.1 29 13 = 0)) := by
  unfold f_X4_soleDaughterWithLine f_X4_soleDaughterWithLine_l13
  have hn := hA.1
  have hlen := kidL_len S A n p
  rw [xst]
  have eD : (pre (fun i => (kidL S A n p).getD i 0) (kidL S A n p).length).filter (fun c : Nat => dc (¬ wMale S c)) = dauL S A n p := by rw [pre_self]; exact kidF_eq S A p (fun c => ¬ wMale S c) n
  refine it_T (γ := (xm_Mem × Int64) × Nat) _ _ (fun (g : xm_Mem → Int → Int64 → Int → Int → Option xm_Out) a => g a.1.1 (p : Int) a.1.2 (dfold m L ((pre (fun i => (kidL S A n p).getD i 0) a.2).filter (fun c : Nat => dc (¬ wMale S c)))).2.2 (a.2 : Int)) (fun a => a.2 ≤ (kidL S A n p).length ∧ gx zHe σ a.1.1 ∧ (∀ q, q ∈ L → (bt a.1.2 q ↔ (dfold m L ((pre (fun i => (kidL S A n p).getD i 0) a.2).filter (fun c : Nat => dc (¬ wMale S c)))).1 q)) ∧ a.1.1.1 29 13 = ((dfold m L ((pre (fun i => (kidL S A n p).getD i 0) a.2).filter (fun c : Nat => dc (¬ wMale S c)))).2.1.length : Int) ∧ LA a.1.1 34 0 (dfold m L ((pre (fun i => (kidL S A n p).getD i 0) a.2).filter (fun c : Nat => dc (¬ wMale S c)))).2.1) (fun a => (kidL S A n p).length - a.2)
    (fun z => ∃ σ', gx zHe σ σ' ∧ ((1 < (dfold m L (dauL S A n p)).2.1.length ∧ z = some (σ', -1) ∧ σ'.1 29 13 = ((dfold m L (dauL S A n p)).2.1.length : Int) ∧ LA σ' 34 0 (dfold m L (dauL S A n p)).2.1) ∨ (¬ 1 < (dfold m L (dauL S A n p)).2.1.length ∧ z = some (σ', (dfold m L (dauL S A n p)).2.2) ∧ σ'.1 29 13 = 0))) ?_ xm_fuel ((xm_u1 σ 29 13 0, 0), 0) ⟨Nat.zero_le _, (gx.rf _ _).u1 (Or.inl ⟨rfl, rfl⟩), fun q _ => ⟨fun z => absurd z (bt_0 q), fun z => z.elim⟩, ?_, LA.nil⟩ (xfu (by show _ - 0 < _; omega))
  · rintro self ⟨⟨τ, o⟩, i⟩ ⟨hi, hf, ho, h1, h2⟩ ih
    replace hi : i ≤ (kidL S A n p).length := hi
    replace hf : gx zHe σ τ := hf
    have dl := dfold_len m L (fun i => (kidL S A n p).getD i 0) (fun c : Nat => dc (¬ wMale S c)) i
    replace ho : ∀ q, q ∈ L → (bt o q ↔ (dfold m L ((pre (fun i => (kidL S A n p).getD i 0) i).filter (fun c : Nat => dc (¬ wMale S c)))).1 q) := ho
    replace h1 : τ.1 29 13 = ((dfold m L ((pre (fun i => (kidL S A n p).getD i 0) i).filter (fun c : Nat => dc (¬ wMale S c)))).2.1.length : Int) := h1
    replace h2 : LA τ 34 0 (dfold m L ((pre (fun i => (kidL S A n p).getD i 0) i).filter (fun c : Nat => dc (¬ wMale S c)))).2.1 := h2
    have hPτ := hP.gx hf (fun a k h z => by unfold zHe at h; unfold zP at z; omega)
    have hKτ := hK.gx hf (fun a k h => by unfold zHe at h; omega)
    have hBτ := hB.gx hf (fun a k h => by unfold zHe at h; omega)
    have hNτ := hN.gx hf (fun a k h => by unfold zHe at h; omega)
    have nx := fun x => ih (x, i + 1)
    show ∃ σ', gx zHe σ σ' ∧ ((_ ∧ f_X4_soleDaughterWithLine_b13 _ self τ (p : Int) o (dfold m L ((pre (fun i => (kidL S A n p).getD i 0) i).filter (fun c : Nat => dc (¬ wMale S c)))).2.2 (i : Int) = _ ∧ _) ∨ (_ ∧ f_X4_soleDaughterWithLine_b13 _ self τ (p : Int) o (dfold m L ((pre (fun i => (kidL S A n p).getD i 0) i).filter (fun c : Nat => dc (¬ wMale S c)))).2.2 (i : Int) = _ ∧ _))
    unfold f_X4_soleDaughterWithLine_b13
    rw [c_kidCount hA hKτ hp, Option.bind_some]
    try dsimp only
    by_cases h : i < (kidL S A n p).length
    · have hkm := getD_mem h
      rw [if_pos (by omega), c_kid hA hKτ hp h, Option.bind_some]
      try dsimp only
      have epre : pre (fun i => (kidL S A n p).getD i 0) (i + 1) = pre (fun i => (kidL S A n p).getD i 0) i ++ [(kidL S A n p).getD i 0] := pre_s _ _
      generalize hc : (kidL S A n p).getD i 0 = c at hkm epre
      have kr := kid_rg hO hA hkm
      rw [c_body hO hBτ kr.1, Option.bind_some]
      try dsimp only
      rw [i64, xvj, c_isMale hO.1 hPτ kr.1, Option.bind_some]
      try dsimp only
      rw [xbi, xw1 (by omega)]
      by_cases b : wMale S c
      · rw [if_pos b]
        have e : (pre (fun i => (kidL S A n p).getD i 0) (i + 1)).filter (fun c : Nat => dc (¬ wMale S c)) = (pre (fun i => (kidL S A n p).getD i 0) i).filter (fun c : Nat => dc (¬ wMale S c)) := by rw [epre]; exact filt_n (f := fun c : Nat => dc (¬ wMale S c)) (fun y => (dc_t.mp y) b)
        have := nx (τ, o)
        simp only [e] at this
        exact this ⟨h, hf, ho, h1, h2⟩ (by show _ - (i + 1) < _ - i; omega)
      · have e : (pre (fun i => (kidL S A n p).getD i 0) (i + 1)).filter (fun c : Nat => dc (¬ wMale S c)) = (pre (fun i => (kidL S A n p).getD i 0) i).filter (fun c : Nat => dc (¬ wMale S c)) ++ [c] := by rw [epre, filt_y (dc_y b)]
        simp only [e, dfold_s] at nx
        generalize hD : dfold m L ((pre (fun i => (kidL S A n p).getD i 0) i).filter (fun c : Nat => dc (¬ wMale S c))) = D at ho h1 h2 nx dl
        rw [if_neg b]
        have ob : ∀ q, q ∈ L → (bt ((m c &&& τ.2.1 29 11) &&& (o ^^^ (-1 : Int64))) q ↔ own m D c q) := by
          intro q hq
          have q64 := h64 q hq
          rw [bt_and, bt_and, bt_not o q64, hNτ.2.2 q q64, ho q hq]
          exact ⟨fun z => ⟨z.1.1, z.2⟩, fun z => ⟨⟨z.1, hq⟩, z.2⟩⟩
        have oz : xm_lc ((m c &&& τ.2.1 29 11) &&& (o ^^^ (-1 : Int64))) 0 = 0 ↔ ¬ ∃ q, q ∈ L ∧ own m D c q := by
          rw [lc_0, bt_z]
          constructor
          · rintro z ⟨q, q1, q2⟩
            exact z q (h64 q q1) ((ob q q1).mpr q2)
          · intro z q hq y
            have hq2 : q ∈ L := by
              rw [bt_and, bt_and, hNτ.2.2 q hq] at y
              exact y.1.2
            exact z ⟨q, hq2, (ob q hq2).mp y⟩
        by_cases w : ∃ q, q ∈ L ∧ own m D c q
        · have dv : dstep m L D c = (fun q => D.1 q ∨ bt (m c) q, D.2.1 ++ [fstL (own m D c) L], (c : Int)) := by unfold dstep; rw [if_pos w]
          simp only [dv] at nx
          have hne : (L.filter (fun q => dc (own m D c q))).length ≠ 0 := by
            obtain ⟨q, q1, q2⟩ := w
            have : q ∈ L.filter (fun q => dc (own m D c q)) := List.mem_filter.mpr ⟨q1, dc_y q2⟩
            intro z
            rw [List.length_eq_zero_iff.mp z] at this
            exact absurd this List.not_mem_nil
          have f1 : gx zHe σ (xm_u1 τ 29 13 ((D.2.1.length + 1 : Nat) : Int)) := hf.u1 (Or.inl ⟨rfl, rfl⟩)
          have hN1 := hN.gx f1 (fun a k h => by unfold zHe at h; omega)
          rw [if_neg (fun z => oz.mp z w), h1, if_pos (by omega), xvl, xst, xw1 (by omega), c_firstOf hN1 hl h64, Option.bind_some]
          try dsimp only
          rw [if_pos ⟨by omega, by omega⟩, xst, Int.toNat_natCast]
          rw [filter_cg ob, (hd_mem hne).2]
          have f2 : gx zHe σ (xm_u1 (xm_u1 τ 29 13 ((D.2.1.length + 1 : Nat) : Int)) 34 D.2.1.length ((hdN (L.filter (fun q => dc (own m D c q))) : Nat) : Int)) := f1.u1 (Or.inr rfl)
          rw [c_body hO (hB.gx f2 (fun a k h => by unfold zHe at h; omega)) kr.1, Option.bind_some]
          try dsimp only
          rw [i64, xvj]
          refine nx (xm_u1 (xm_u1 τ 29 13 ((D.2.1.length + 1 : Nat) : Int)) 34 D.2.1.length ((hdN (L.filter (fun q => dc (own m D c q))) : Nat) : Int), o ||| m c) ⟨h, f2, fun q hq => by rw [bt_or, ho q hq], ?_, LA.app h2 (fun j hj => ?_) ?_⟩ (by show _ - (i + 1) < _ - i; omega)
          · show (xm_u1 (xm_u1 τ 29 13 _) 34 _ _).1 29 13 = _
            rw [xu11, if_neg (by omega), xu11, if_pos ⟨rfl, rfl⟩, List.length_append]; rfl
          · show (xm_u1 (xm_u1 τ 29 13 _) 34 _ _).1 34 _ = _
            rw [xu11, if_neg (by omega), xu11, if_neg (by omega)]
          · show (xm_u1 (xm_u1 τ 29 13 _) 34 _ _).1 34 _ = _
            rw [xu11, if_pos ⟨rfl, by omega⟩]; rfl
        · have dv : dstep m L D c = (fun q => D.1 q ∨ bt (m c) q, D.2) := by unfold dstep; rw [if_neg w]
          simp only [dv] at nx
          rw [if_pos (oz.mpr w)]
          refine nx (τ, o) ⟨h, hf, fun q hq => ?_, h1, h2⟩ (by show _ - (i + 1) < _ - i; omega)
          show bt o q ↔ D.1 q ∨ bt (m c) q
          rw [ho q hq]
          constructor
          · exact Or.inl
          · rintro (z | z)
            · exact z
            · exact Classical.byContradiction (fun y => w ⟨q, hq, z, y⟩)
    · rw [if_neg (by omega)]
      try dsimp only
      have e : i = (kidL S A n p).length := by omega
      subst e
      rw [eD] at h1 h2 ⊢
      rw [h1]
      by_cases g : 1 < (dfold m L (dauL S A n p)).2.1.length
      · rw [if_pos (by omega)]
        exact ⟨τ, hf, Or.inl ⟨g, rfl, h1, h2⟩⟩
      · rw [if_neg (by omega), xst]
        exact ⟨_, hf.u1 (Or.inl ⟨rfl, rfl⟩), Or.inr ⟨g, rfl, by rw [xu11, if_pos ⟨rfl, rfl⟩]⟩⟩
  · show (xm_u1 σ 29 13 0).1 29 13 = 0
    rw [xu11, if_pos ⟨rfl, rfl⟩]
theorem c_stateByWrit (hO : OK S) (hA : AGE S A n) (hm : BDY S A n m) (hP : PO σ S) (hK : KD σ S A n) (hB : BD σ S m) (hN : LN σ L) (hl : L.length ≤ 64) (hLp : ∀ q, q ∈ L → isP S (q : Int)) {root : Nat} (hroot : isP S (root : Int)) (ht : tch m L root) :
    ∃ σ', f_X4_stateByWrit σ (root : Int) = some (σ', (dsc S A n m L root).1) ∧ gx zHe σ σ' ∧ σ'.1 29 13 = ((dsc S A n m L root).2.length : Int) ∧ LA σ' 34 0 (dsc S A n m L root).2 := by
  unfold f_X4_stateByWrit
  have hn := hA.1
  have h64 : ∀ q, q ∈ L → q < 64 := fun q hq => (hO.rec (hLp q hq)).2.2.2.2.2
  have hne : L.length ≠ 0 := by
    obtain ⟨q, q1, _⟩ := ht
    intro z
    rw [List.length_eq_zero_iff.mp z] at q1
    exact absurd q1 List.not_mem_nil
  have f0 : gx zHe σ (xm_u1 σ 29 13 0) := (gx.rf _ _).u1 (Or.inl ⟨rfl, rfl⟩)
  have e10 : (xm_u1 σ 29 13 0).1 29 10 = (L.length : Int) := by rw [xu11, if_neg (by omega)]; exact hN.1
  rw [xst, e10, if_neg (by omega)]
  unfold f_X4_stateByWrit_l18
  refine it_T (γ := (xm_Mem × Int) × Nat) _ _ (fun (g : xm_Mem → Int → Int → Option xm_Out) a => g a.1.1 a.1.2 (a.2 : Int)) (fun a => a.2 ≤ 64 ∧ gx zHe σ a.1.1 ∧ ((∃ p : Nat, a.1.2 = (p : Int) ∧ a.2 ≤ p ∧ (isP S (p : Int) ∧ tch m L p) ∧ dsc S A n m L p = dsc S A n m L root ∧ a.1.1.1 29 13 = 0) ∨ (a.1.2 = -1 ∧ 1 < (dsc S A n m L root).2.length ∧ (dsc S A n m L root).1 = -2 ∧ a.1.1.1 29 13 = ((dsc S A n m L root).2.length : Int) ∧ LA a.1.1 34 0 (dsc S A n m L root).2))) (fun a => 64 - a.2) (fun z => ∃ σ', z = some (σ', (dsc S A n m L root).1) ∧ gx zHe σ σ' ∧ σ'.1 29 13 = ((dsc S A n m L root).2.length : Int) ∧ LA σ' 34 0 (dsc S A n m L root).2) ?_ xm_fuel ((xm_u1 σ 29 13 0, (root : Int)), 0) ⟨Nat.zero_le _, f0, Or.inl ⟨root, rfl, Nat.zero_le _, ⟨hroot, ht⟩, rfl, ?_⟩⟩ (xfu (by show 64 - 0 < _; decide))
  · rintro self ⟨⟨τ, a⟩, i⟩ ⟨hi, hf, hs⟩ ih
    replace hi : i ≤ 64 := hi
    replace hf : gx zHe σ τ := hf
    have hPτ := hP.gx hf (fun a k h z => by unfold zHe at h; unfold zP at z; omega)
    have hKτ := hK.gx hf (fun a k h => by unfold zHe at h; omega)
    have hBτ := hB.gx hf (fun a k h => by unfold zHe at h; omega)
    have hNτ := hN.gx hf (fun a k h => by unfold zHe at h; omega)
    show ∃ σ', f_X4_stateByWrit_b18 _ self τ a (i : Int) = _ ∧ _
    unfold f_X4_stateByWrit_b18
    rcases hs with ⟨p, rfl', hip, ⟨hp, htp⟩, hd, h13⟩ | ⟨e1, e2, e3, e4, e5⟩
    · have ea : a = (p : Int) := rfl'
      subst ea
      replace hip : i ≤ p := hip
      replace h13 : τ.1 29 13 = 0 := h13
      have p64 := (hO.rec hp).2.2.2.2.2
      rw [if_pos (by omega), if_neg (by omega), c_lhas hNτ p64, Option.bind_some]
      try dsimp only
      rw [xbi]
      by_cases c : p ∈ L
      · rw [if_pos c]
        try dsimp only
        rw [h13, if_neg (by decide), ← hd, dsc_in c]
        exact ⟨τ, rfl, hf, h13, LA.nil⟩
      · obtain ⟨n1, n2⟩ := dsc_next hO hA hm hp h64 htp c
        have st := dsc_step hO hA hm h64 hp htp c
        rw [if_neg c, c_son hO hA hPτ hKτ hBτ hNτ h64 p64, Option.bind_some]
        try dsimp only
        rw [xw1 (by omega)]
        by_cases s : (sonL S A n m L p).length = 0
        · rw [hd_nil s, if_pos rfl]
          rw [if_pos s] at st
          obtain ⟨m1, x, m2, m3, m4⟩ := n2 s
          have kr := kid_rg hO hA m3
          obtain ⟨τ2, a1, ⟨a2, a3, a4, a5⟩ | ⟨a2, a3, a4⟩⟩ := c_daughter hO hA hPτ hKτ hBτ hNτ hl h64 p64
          · rw [a3, Option.bind_some]
            rw [if_pos a2] at st
            have e := hd.symm.trans st
            exact ih ((τ2, -1), i + 1) ⟨by show i + 1 ≤ 64; omega, hf.tr a1, Or.inr ⟨rfl, by rw [e]; exact a2, by rw [e], by rw [e]; exact a4, by rw [e]; exact a5⟩⟩ (by show 64 - (i + 1) < 64 - i; omega)
          · rw [a3, Option.bind_some, m2]
            rw [if_neg a2, m2, Int.toNat_natCast] at st
            exact ih ((τ2, (x : Int)), i + 1) ⟨by show i + 1 ≤ 64; omega, hf.tr a1, Or.inl ⟨x, rfl, by show i + 1 ≤ x; omega, ⟨kr.1, m4⟩, st.symm.trans hd, a4⟩⟩ (by show 64 - (i + 1) < 64 - i; omega)
        · have hh := hd_mem s
          rw [hh.2, if_neg (by omega)]
          rw [if_neg s] at st
          obtain ⟨m3, m4⟩ := n1 s
          have kr := kid_rg hO hA m3
          exact ih ((τ, (hdN (sonL S A n m L p) : Int)), i + 1) ⟨by show i + 1 ≤ 64; omega, hf, Or.inl ⟨hdN (sonL S A n m L p), rfl, by show i + 1 ≤ _; omega, ⟨kr.1, m4⟩, st.symm.trans hd, h13⟩⟩ (by show 64 - (i + 1) < 64 - i; omega)
    · replace e1 : a = -1 := e1
      subst e1
      have fin : ∃ σ', (if (1 : Int) < τ.1 29 13 then (some (τ, (-2 : Int))) else (some (τ, (-1 : Int)))) = some (σ', (dsc S A n m L root).1) ∧ gx zHe σ σ' ∧ σ'.1 29 13 = ((dsc S A n m L root).2.length : Int) ∧ LA σ' 34 0 (dsc S A n m L root).2 := by
        have e4 : τ.1 29 13 = ((dsc S A n m L root).2.length : Int) := e4
        rw [if_pos (by omega), e3]
        exact ⟨τ, rfl, hf, e4, e5⟩
      by_cases h : (i : Int) < 64
      · rw [if_pos h, if_pos rfl]; exact fin
      · rw [if_neg h]; exact fin
  · show (xm_u1 σ 29 13 0).1 29 13 = 0
    rw [xu11, if_pos ⟨rfl, rfl⟩]
end XE
