/-! ===== the reference goes down ===== -/
theorem hd_filter {P : Nat → Prop} : ∀ (L : List Nat) (k : Nat), k < L.length → (∀ j, j < k → ¬ P (L.getD j 0)) → P (L.getD k 0) → hdI (L.filter (fun q => dc (P q))) = ((L.getD k 0 : Nat) : Int) := by
  intro L
  induction L with
  | nil => intro k h; exact absurd h (Nat.not_lt_zero _)
  | cons a l ih =>
    intro k hk hno hy
    cases k with
    | zero =>
      have hy : P a := hy
      rw [List.filter_cons_of_pos (p := fun q => dc (P q)) (dc_y hy)]
      rfl
    | succ k =>
      have h0 : ¬ P a := hno 0 (Nat.succ_pos k)
      rw [List.filter_cons_of_neg (p := fun q => dc (P q)) (fun z => h0 (dc_t.mp z))]
      exact ih k (by have : k + 1 < l.length + 1 := hk; omega) (fun j hj => hno (j + 1) (by omega)) hy
theorem filter_none {P : Nat → Prop} {L : List Nat} (h : ∀ j, j < L.length → ¬ P (L.getD j 0)) : L.filter (fun q => dc (P q)) = [] := by
  refine List.filter_eq_nil_iff.mpr (fun q hq z => ?_)
  obtain ⟨j, j1, j2⟩ := mem_getD hq
  exact h j j1 (by rw [j2]; exact dc_t.mp z)
theorem filter_cg {P Q : Nat → Prop} {L : List Nat} (h : ∀ q, q ∈ L → (P q ↔ Q q)) : L.filter (fun q => dc (P q)) = L.filter (fun q => dc (Q q)) := by
  refine List.filter_congr (fun q hq => ?_)
  by_cases p : P q
  · rw [dc_y p, dc_y ((h q hq).mp p)]
  · rw [dc_n p, dc_n (fun z => p ((h q hq).mpr z))]
/-- the told line of the reference -/
def ML (σ : xm_Mem) (L : List Nat) : Prop := σ.1 84 27 = (L.length : Int) ∧ LA σ 101 0 L
def zDs (a k : Nat) : Prop := (a = 84 ∧ (k = 30 ∨ k = 33)) ∨ a = 103
theorem zDsM : ∀ a k, zDs a k → ¬ (a = 84 ∧ (k = 5 ∨ k = 14 ∨ k = 15)) ∧ ¬ (86 ≤ a ∧ a ≤ 94) := fun a k h => by unfold zDs at h; omega
theorem zDsR : ∀ a k, zDs a k → ¬ (a = 84 ∧ k = 22) ∧ ¬ (96 ≤ a ∧ a ≤ 100) := fun a k h => by unfold zDs at h; omega
section XE
variable {σ : xm_Mem} {S : xS} {A : Nat → Nat} {n : Nat} {m : Nat → Int64} {L : List Nat}
theorem ML.gx {σ' : xm_Mem} {Z : Nat → Nat → Prop} (h : ML σ L) (hf : gx Z σ σ') (hz : ∀ a k, Z a k → ¬ (a = 84 ∧ k = 27) ∧ a ≠ 101) : ML σ' L :=
  ⟨by rw [hf.1 84 27 (fun z => (hz _ _ z).1 ⟨rfl, rfl⟩)]; exact h.1, h.2.eq (fun i _ => hf.1 101 _ (fun z => (hz _ _ z).2 rfl))⟩
theorem m_lineBits (hL : ML σ L) (hl : L.length ≤ 64) (h64 : ∀ q, q ∈ L → q < 64) : ∃ v : Int64, f_X11_lineBits σ = some (σ, v.toInt) ∧ ∀ q, q < 64 → (bt v q ↔ q ∈ L) := by
  unfold f_X11_lineBits f_X11_lineBits_l4
  refine it_T (γ := Int64 × Nat) _ _ (fun (g : xm_Mem → Int64 → Int → Option xm_Out) a => g σ a.1 (a.2 : Int)) (fun a => a.2 ≤ L.length ∧ ∀ q, q < 64 → (bt a.1 q ↔ ∃ j, j < a.2 ∧ L.getD j 0 = q)) (fun a => L.length - a.2) (fun z => ∃ v : Int64, z = some (σ, v.toInt) ∧ ∀ q, q < 64 → (bt v q ↔ q ∈ L)) ?_ xm_fuel (0, 0) ⟨Nat.zero_le _, fun q _ => ⟨fun z => absurd z (bt_0 q), fun ⟨j, j1, _⟩ => absurd j1 (Nat.not_lt_zero _)⟩⟩ (xfu (by show L.length - 0 < _; omega))
  rintro self ⟨v, i⟩ ⟨hi, hv⟩ ih
  replace hi : i ≤ L.length := hi
  replace hv : ∀ q, q < 64 → (bt v q ↔ ∃ j, j < i ∧ L.getD j 0 = q) := hv
  show ∃ w : Int64, f_X11_lineBits_b4 self σ v (i : Int) = _ ∧ _
  unfold f_X11_lineBits_b4 f_X11_bit
  rw [hL.1]
  by_cases h : i < L.length
  · have e := hL.2 i h
    rw [Nat.zero_add] at e
    have q64 := h64 _ (getD_mem h)
    rw [if_pos (by omega), if_pos ⟨by omega, by omega⟩, Option.bind_some, Int.toNat_natCast, e]
    try dsimp only
    rw [i64, xvj, xw1 (by omega)]
    refine ih (_, i + 1) ⟨h, fun q hq => ?_⟩ (by show L.length - (i + 1) < L.length - i; omega)
    rw [bt_or, hv q hq, bt_shl q64 hq]
    constructor
    · rintro (⟨j, j1, j2⟩ | z)
      · exact ⟨j, by show j < i + 1; omega, j2⟩
      · exact ⟨i, Nat.lt_succ_self i, z.symm⟩
    · rintro ⟨j, j1, j2⟩
      have j1 : j < i + 1 := j1
      by_cases ej : j = i
      · subst ej; exact Or.inr j2.symm
      · exact Or.inl ⟨j, by omega, j2⟩
  · rw [if_neg (by omega)]
    have e : i = L.length := by omega
    subst e
    refine ⟨v, rfl, fun q hq => ?_⟩
    rw [hv q hq]
    exact ⟨fun ⟨j, j1, j2⟩ => by rw [← j2]; exact getD_mem j1, fun z => mem_getD z⟩
theorem m_firstOf (hL : ML σ L) (hl : L.length ≤ 64) (h64 : ∀ q, q ∈ L → q < 64) (v : Int64) : f_X11_firstOf σ v = some (σ, hdI (L.filter (fun q => dc (bt v q)))) := by
  unfold f_X11_firstOf f_X11_firstOf_l2
  refine it_T (γ := Nat) _ _ (fun (g : xm_Mem → Int64 → Int → Option xm_Out) i => g σ v (i : Int)) (fun i => i ≤ L.length ∧ ∀ j, j < i → ¬ bt v (L.getD j 0)) (fun i => L.length - i) (fun z => z = some (σ, hdI (L.filter (fun q => dc (bt v q))))) ?_ xm_fuel 0 ⟨Nat.zero_le _, fun j h => absurd h (Nat.not_lt_zero _)⟩ (xfu (by show L.length - 0 < _; omega))
  rintro self i ⟨hi, hno⟩ ih
  show f_X11_firstOf_b2 _ self σ v (i : Int) = _
  unfold f_X11_firstOf_b2 f_X11_bit
  rw [hL.1]
  by_cases h : i < L.length
  · have e := hL.2 i h
    rw [Nat.zero_add] at e
    have q64 := h64 _ (getD_mem h)
    have hb := lc_b v q64
    rw [if_pos (by omega), if_pos ⟨by omega, by omega⟩, Option.bind_some, Int.toNat_natCast, e]
    try dsimp only
    rw [i64]
    by_cases c : bt v (L.getD i 0)
    · rw [if_neg (fun z => hb.mp z c)]
      try dsimp only
      rw [hL.1, if_pos (by omega), if_pos ⟨by omega, by omega⟩, Int.toNat_natCast, e, hd_filter L i h hno c]
    · rw [if_pos (hb.mpr c), xw1 (by omega)]
      refine ih (i + 1) ⟨h, fun j hj => ?_⟩ (by omega)
      by_cases ej : j = i
      · subst ej; exact c
      · exact hno j (by omega)
  · rw [if_neg (by omega)]
    try dsimp only
    rw [hL.1, if_neg (by omega), filter_none (fun j hj => hno j (by omega))]
    rfl
theorem m_sons (hO : OK S) (hA : AGE S A n) (hM : MS σ S) (hR : RO σ S A n m) (h64 : ∀ q, q ∈ L → q < 64) {v : Int64} (hv : ∀ q, q < 64 → (bt v q ↔ q ∈ L)) (p : Nat) (K : xm_Mem → Int64 → Int → Int → Option xm_Out) : f_X11_descend_l32 K xm_fuel σ v (p : Int) (-1) ((n : Int) - 1) = K σ v (p : Int) (hdI (sonL S A n m L p)) := by
  unfold f_X11_descend_l32
  have hn := hA.1
  refine it_T (γ := List Nat × Nat) _ _ (fun (g : xm_Mem → Int64 → Int → Int → Int → Option xm_Out) a => g σ v (p : Int) (hdI a.1) ((a.2 : Int) - 1)) (fun a => a.2 ≤ n ∧ sonL S A n m L p = kidF S A a.2 p (fun c => wMale S c ∧ tch m L c) ++ a.1) (fun a => a.2) (fun z => z = K σ v (p : Int) (hdI (sonL S A n m L p))) ?_ xm_fuel ([], n) ⟨Nat.le_refl _, (List.append_nil _).symm⟩ (xfu (by show n < _; omega))
  rintro self ⟨l, k⟩ ⟨hk, hl⟩ ih
  replace hk : k ≤ n := hk
  replace hl : sonL S A n m L p = kidF S A k p (fun c => wMale S c ∧ tch m L c) ++ l := hl
  show f_X11_descend_b32 K self σ v (p : Int) (hdI l) ((k : Int) - 1) = _
  unfold f_X11_descend_b32
  cases k with
  | zero =>
    rw [if_pos (by decide), hl]
    rfl
  | succ k =>
    have hk' : k < n := by omega
    have hc := hA.2.1 k hk'
    have hr := hR.2.1 k hk'
    have gk : 0 ≤ (k : Int) ∧ (k : Int) < 64 := ⟨by omega, by omega⟩
    rw [show ((k + 1 : Nat) : Int) - 1 = (k : Int) by omega, if_neg (by omega), if_pos gk, Int.toNat_natCast, hr.1, m_isChild hO hM hc.1 hr.2.1 p, Option.bind_some]
    try dsimp only
    rw [xbi, xwn (by omega)]
    have no : ¬ (isCh S p (A k) ∧ wMale S (A k) ∧ tch m L (A k)) → self σ v (p : Int) (hdI l) ((k : Int) - 1) = K σ v (p : Int) (hdI (sonL S A n m L p)) := by
      intro z
      refine ih (l, k) ⟨by show k ≤ n; omega, ?_⟩ (Nat.lt_succ_self k)
      show sonL S A n m L p = kidF S A k p (fun c => wMale S c ∧ tch m L c) ++ l
      rw [hl]
      unfold kidF
      rw [pre_s, filt_n (fun y => z (dc_t.mp y))]
    by_cases a : isCh S p (A k)
    · rw [if_pos a, if_pos gk, hr.1, m_isMale hO.1 hM hc.1.1 hc.1.2.1, Option.bind_some]
      try dsimp only
      rw [xbi]
      by_cases b : wMale S (A k)
      · have hz : xm_lc (σ.2.1 98 (A k) &&& v) 0 = 0 ↔ ¬ tch m L (A k) := by
          rw [lc_0, bt_z, hr.2.2.2]
          constructor
          · rintro z ⟨q, q1, q2⟩
            exact z q (h64 q q1) ((bt_and _ _ _).mpr ⟨q2, (hv q (h64 q q1)).mpr q1⟩)
          · intro z q hq y
            rw [bt_and, hv q hq] at y
            exact z ⟨q, y.2, y.1⟩
        rw [if_pos b, if_pos gk, hr.1, xvl, if_pos ⟨by omega, by omega⟩, Int.toNat_natCast]
        by_cases c : tch m L (A k)
        · rw [if_neg (fun z => hz.mp z c), if_pos gk, xvl]
          refine ih (A k :: l, k) ⟨by show k ≤ n; omega, ?_⟩ (Nat.lt_succ_self k)
          show sonL S A n m L p = kidF S A k p (fun c => wMale S c ∧ tch m L c) ++ A k :: l
          rw [hl]
          unfold kidF
          rw [pre_s, filt_y (dc_y ⟨a, b, c⟩), List.append_assoc]
          rfl
        · rw [if_pos (hz.mpr c)]; exact no (fun z => c z.2.2)
      · rw [if_neg b]; exact no (fun z => b z.2.1)
    · rw [if_neg a]; exact no (fun z => a z.1)
theorem m_daus (hO : OK S) (hA : AGE S A n) (hM : MS σ S) (hR : RO σ S A n m) (hL : ML σ L) (hl : L.length ≤ 64) (h64 : ∀ q, q ∈ L → q < 64) {v : Int64} (hv : ∀ q, q < 64 → (bt v q ↔ q ∈ L)) (p : Nat) (K : xm_Mem → Int64 → Int → Option xm_Out) (h33 : σ.1 84 33 = 0) :
    ∃ σ', f_X11_descend_l125 K xm_fuel σ v (p : Int) 0 (-1) 0 = K σ' v (dfold m L (dauL S A n p)).2.2 ∧ gx (fun a k => (a = 84 ∧ k = 33) ∨ a = 103) σ σ' ∧ σ'.1 84 33 = ((dfold m L (dauL S A n p)).2.1.length : Int) ∧ LA σ' 103 0 (dfold m L (dauL S A n p)).2.1 := by
  unfold f_X11_descend_l125
  have hn := hA.1
  refine it_T (γ := (xm_Mem × Int64) × Nat) _ _ (fun (g : xm_Mem → Int64 → Int → Int64 → Int → Int → Option xm_Out) a => g a.1.1 v (p : Int) a.1.2 (dfold m L (kidF S A a.2 p (fun c => ¬ wMale S c))).2.2 (a.2 : Int)) (fun a => a.2 ≤ n ∧ gx (fun a k => (a = 84 ∧ k = 33) ∨ a = 103) σ a.1.1 ∧ (∀ q, q < 64 → (bt a.1.2 q ↔ (dfold m L (kidF S A a.2 p (fun c => ¬ wMale S c))).1 q)) ∧ a.1.1.1 84 33 = ((dfold m L (kidF S A a.2 p (fun c => ¬ wMale S c))).2.1.length : Int) ∧ LA a.1.1 103 0 (dfold m L (kidF S A a.2 p (fun c => ¬ wMale S c))).2.1) (fun a => n - a.2) (fun z => ∃ σ', z = K σ' v (dfold m L (dauL S A n p)).2.2 ∧ gx (fun a k => (a = 84 ∧ k = 33) ∨ a = 103) σ σ' ∧ σ'.1 84 33 = ((dfold m L (dauL S A n p)).2.1.length : Int) ∧ LA σ' 103 0 (dfold m L (dauL S A n p)).2.1) ?_ xm_fuel ((σ, 0), 0) ⟨Nat.zero_le _, gx.rf _ _, fun q _ => ⟨fun z => absurd z (bt_0 q), fun z => z.elim⟩, h33, LA.nil⟩ (xfu (by show n - 0 < _; omega))
  rintro self ⟨⟨τ, o⟩, i⟩ ⟨hi, hf, ho, h1, h2⟩ ih
  replace hi : i ≤ n := hi
  replace hf : gx (fun a k => (a = 84 ∧ k = 33) ∨ a = 103) σ τ := hf
  have hlen := dfold_len m L A (fun c => dc (isCh S p c ∧ ¬ wMale S c)) i
  have step : ∀ c, kidF S A (i + 1) p (fun c => ¬ wMale S c) = kidF S A i p (fun c => ¬ wMale S c) ++ [c] → dfold m L (kidF S A (i + 1) p (fun c => ¬ wMale S c)) = dstep m L (dfold m L (kidF S A i p (fun c => ¬ wMale S c))) c := fun c e => by rw [e, dfold_s]
  have hlen : (dfold m L (kidF S A i p (fun c => ¬ wMale S c))).2.1.length ≤ i := hlen
  replace ho : ∀ q, q < 64 → (bt o q ↔ (dfold m L (kidF S A i p (fun c => ¬ wMale S c))).1 q) := ho
  replace h1 : τ.1 84 33 = ((dfold m L (kidF S A i p (fun c => ¬ wMale S c))).2.1.length : Int) := h1
  replace h2 : LA τ 103 0 (dfold m L (kidF S A i p (fun c => ¬ wMale S c))).2.1 := h2
  have hMτ := hM.gx hf (fun a k h => by omega)
  have hRτ := hR.gx hf (fun a k h => by omega)
  have hLτ := hL.gx hf (fun a k h => by omega)
  show ∃ σ', f_X11_descend_b125 K self τ v (p : Int) o (dfold m L (kidF S A i p (fun c => ¬ wMale S c))).2.2 (i : Int) = _ ∧ _
  unfold f_X11_descend_b125
  rw [hRτ.1]
  by_cases h : i < n
  · have hc := hA.2.1 i h
    have hr := hRτ.2.1 i h
    have nx := fun x => ih (x, i + 1)
    rw [if_pos (by omega), if_pos ⟨by omega, by omega⟩, Int.toNat_natCast, hr.1, xvl, m_isChild hO hMτ hc.1 hr.2.1 p, Option.bind_some]
    try dsimp only
    rw [xbi, xw1 (by omega)]
    have no : ¬ (isCh S p (A i) ∧ ¬ wMale S (A i)) → ∃ σ', self τ v (p : Int) o (dfold m L (kidF S A i p (fun c => ¬ wMale S c))).2.2 ((i + 1 : Nat) : Int) = K σ' v (dfold m L (dauL S A n p)).2.2 ∧ gx (fun a k => (a = 84 ∧ k = 33) ∨ a = 103) σ σ' ∧ σ'.1 84 33 = ((dfold m L (dauL S A n p)).2.1.length : Int) ∧ LA σ' 103 0 (dfold m L (dauL S A n p)).2.1 := by
      intro z
      have e : kidF S A (i + 1) p (fun c => ¬ wMale S c) = kidF S A i p (fun c => ¬ wMale S c) := by unfold kidF; rw [pre_s, filt_n (fun y => z (dc_t.mp y))]
      have := nx (τ, o)
      simp only [e] at this
      exact this ⟨h, hf, ho, h1, h2⟩ (by show n - (i + 1) < n - i; omega)
    by_cases a : isCh S p (A i)
    · rw [if_pos a, m_isMale hO.1 hMτ hc.1.1 hc.1.2.1, Option.bind_some]
      try dsimp only
      rw [xbi]
      by_cases b : wMale S (A i)
      · rw [if_pos b]; exact no (fun z => z.2 b)
      · have ek : kidF S A (i + 1) p (fun c => ¬ wMale S c) = kidF S A i p (fun c => ¬ wMale S c) ++ [A i] := by unfold kidF; rw [pre_s, filt_y (dc_y ⟨a, b⟩)]
        have est := step _ ek
        simp only [est] at nx
        generalize hD : dfold m L (kidF S A i p (fun c => ¬ wMale S c)) = D at ho h1 h2 nx hlen no
        have gA : 0 ≤ (A i : Int) ∧ (A i : Int) < 64 := ⟨by omega, by omega⟩
        rw [if_neg b, if_pos gA, Int.toNat_natCast, hr.2.2.2, m_firstOf hLτ hl h64, Option.bind_some]
        try dsimp only
        rw [if_pos gA, hr.2.2.2, xvj]
        have cg : L.filter (fun q => dc (bt ((m (A i) &&& v) &&& (o ^^^ (-1 : Int64))) q)) = L.filter (fun q => dc (own m D (A i) q)) := by
          refine filter_cg (fun q hq => ?_)
          have q64 := h64 q hq
          rw [bt_and, bt_and, bt_not o q64, hv q q64, ho q q64]
          exact ⟨fun z => ⟨z.1.1, z.2⟩, fun z => ⟨⟨z.1, hq⟩, z.2⟩⟩
        rw [cg]
        have bits : ∀ q, q < 64 → (bt (o ||| m (A i)) q ↔ (D.1 q ∨ bt (m (A i)) q)) := fun q hq => by rw [bt_or, ho q hq]
        by_cases w : ∃ q, q ∈ L ∧ own m D (A i) q
        · have hne : (L.filter (fun q => dc (own m D (A i) q))).length ≠ 0 := by
            obtain ⟨q, q1, q2⟩ := w
            have : q ∈ L.filter (fun q => dc (own m D (A i) q)) := List.mem_filter.mpr ⟨q1, dc_y q2⟩
            intro z
            rw [List.length_eq_zero_iff.mp z] at this
            exact absurd this List.not_mem_nil
          have hh := (hd_mem hne).2
          rw [hh, if_neg (by omega), h1, if_pos ⟨by omega, by omega⟩, xst, Int.toNat_natCast, xst]
          have e33 : (xm_u1 τ 103 D.2.1.length ((hdN (L.filter (fun q => dc (own m D (A i) q))) : Nat) : Int)).1 84 33 = (D.2.1.length : Int) := by rw [xu11, if_neg (by omega)]; exact h1
          rw [e33, xw1 (by omega)]
          have dv : dstep m L D (A i) = (fun q => D.1 q ∨ bt (m (A i)) q, D.2.1 ++ [fstL (own m D (A i)) L], (A i : Int)) := by unfold dstep; rw [if_pos w]
          simp only [dv] at nx
          refine nx (xm_u1 (xm_u1 τ 103 D.2.1.length ((hdN (L.filter (fun q => dc (own m D (A i) q))) : Nat) : Int)) 84 33 ((D.2.1.length + 1 : Nat) : Int), o ||| m (A i)) ⟨h, (hf.u1 (Or.inr rfl)).u1 (Or.inl ⟨rfl, rfl⟩), bits, ?_, LA.app h2 (fun j hj => ?_) ?_⟩ (by show n - (i + 1) < n - i; omega)
          · show (xm_u1 (xm_u1 τ 103 _ _) 84 33 _).1 84 33 = _
            rw [xu11, if_pos ⟨rfl, rfl⟩, List.length_append]; rfl
          · show (xm_u1 (xm_u1 τ 103 _ _) 84 33 _).1 103 _ = _
            rw [xu11, if_neg (by omega), xu11, if_neg (by omega)]
          · show (xm_u1 (xm_u1 τ 103 _ _) 84 33 _).1 103 _ = _
            rw [xu11, if_neg (by omega), xu11, if_pos ⟨rfl, by omega⟩]; rfl
        · have hnil : L.filter (fun q => dc (own m D (A i) q)) = [] := List.filter_eq_nil_iff.mpr (fun q hq z => w ⟨q, hq, dc_t.mp z⟩)
          rw [hnil, show hdI ([] : List Nat) = -1 from rfl, if_pos (by decide)]
          have dv : dstep m L D (A i) = (fun q => D.1 q ∨ bt (m (A i)) q, D.2) := by unfold dstep; rw [if_neg w]
          simp only [dv] at nx
          exact nx (τ, o ||| m (A i)) ⟨h, hf, bits, h1, h2⟩ (by show n - (i + 1) < n - i; omega)
    · rw [if_neg a]; exact no (fun z => a z.1)
  · rw [if_neg (by omega)]
    have e : i = n := by omega
    subst e
    exact ⟨τ, rfl, hf, h1, h2⟩
theorem m_descend (hO : OK S) (hA : AGE S A n) (hm : BDY S A n m) (hM : MS σ S) (hR : RO σ S A n m) (hL : ML σ L) (hl : L.length ≤ 64) (hLp : ∀ q, q ∈ L → isP S (q : Int)) {root : Nat} (hroot : isP S (root : Int)) (h31 : σ.1 84 31 = (root : Int)) (ht : tch m L root) :
    ∃ σ', f_X11_descend σ = some (σ', 0) ∧ gx zDs σ σ' ∧ σ'.1 84 30 = (dsc S A n m L root).1 ∧ σ'.1 84 33 = ((dsc S A n m L root).2.length : Int) ∧ LA σ' 103 0 (dsc S A n m L root).2 := by
  unfold f_X11_descend
  have hn := hA.1
  have h64 : ∀ q, q ∈ L → q < 64 := fun q hq => (hO.rec (hLp q hq)).2.2.2.2.2
  obtain ⟨v, v1, hv⟩ := m_lineBits hL hl h64
  rw [v1, Option.bind_some]
  try dsimp only
  rw [i64, xvj, h31, xvl]
  unfold f_X11_descend_l10
  refine it_T (γ := xm_Mem × Nat) _ _ (fun (g : xm_Mem → Int64 → Int → Option xm_Out) a => g a.1 v (a.2 : Int)) (fun a => gx zDs σ a.1 ∧ (isP S (a.2 : Int) ∧ tch m L a.2) ∧ dsc S A n m L a.2 = dsc S A n m L root) (fun a => 64 - a.2) (fun z => ∃ σ', z = some (σ', 0) ∧ gx zDs σ σ' ∧ σ'.1 84 30 = (dsc S A n m L root).1 ∧ σ'.1 84 33 = ((dsc S A n m L root).2.length : Int) ∧ LA σ' 103 0 (dsc S A n m L root).2) ?_ xm_fuel (σ, root) ⟨gx.rf _ _, ⟨hroot, ht⟩, rfl⟩ (xfu (by show 64 - root < _; omega))
  rintro self ⟨τ, p⟩ ⟨hf, ⟨hp, htp⟩, hd⟩ ih
  replace hf : gx zDs σ τ := hf
  replace hp : isP S (p : Int) := hp
  replace htp : tch m L p := htp
  replace hd : dsc S A n m L p = dsc S A n m L root := hd
  have p64 := (hO.rec hp).2.2.2.2.2
  have hMτ := hM.gx hf zDsM
  have hRτ := hR.gx hf zDsR
  have hLτ := hL.gx hf (fun a k h => by unfold zDs at h; omega)
  show ∃ σ', f_X11_descend_b10 _ self τ v (p : Int) = _ ∧ _
  unfold f_X11_descend_b10 f_X11_bit
  rw [Option.bind_some]
  try dsimp only
  rw [i64]
  have hb := lc_b v p64
  by_cases c : p ∈ L
  · rw [if_neg (fun z => hb.mp z ((hv p p64).mpr c))]
    try dsimp only
    rw [xst, xst, ← hd, dsc_in c]
    refine ⟨_, rfl, (hf.u1 (by unfold zDs; omega)).u1 (by unfold zDs; omega), ?_, ?_, LA.nil⟩
    · rw [xu11, if_pos ⟨rfl, rfl⟩]
    · rw [xu11, if_neg (by omega), xu11, if_pos ⟨rfl, rfl⟩]; rfl
  · obtain ⟨n1, n2⟩ := dsc_next hO hA hm hp h64 htp c
    have st := dsc_step hO hA hm h64 hp htp c
    rw [if_pos (hb.mpr (fun z => c ((hv p p64).mp z))), hRτ.1, xp_w (x := (n : Int) - 1) (by omega) (by omega), xvl, m_sons hO hA hMτ hRτ h64 hv p]
    try dsimp only
    by_cases s : (sonL S A n m L p).length = 0
    · rw [hd_nil s, if_pos (by decide), xst]
      rw [if_pos s] at st
      obtain ⟨m1, x, m2, m3, m4⟩ := n2 s
      have kr := kid_rg hO hA m3
      have f1 : gx zDs σ (xm_u1 τ 84 33 0) := hf.u1 (by unfold zDs; omega)
      obtain ⟨τ2, a1, a2, a3, a4⟩ := m_daus hO hA (hM.gx f1 zDsM) (hR.gx f1 zDsR) (hL.gx f1 (fun a k h => by unfold zDs at h; omega)) hl h64 hv p (fun σ_72 x1_72 x7_72 => if (1 : Int) < (σ_72.1 84 33) then (xm_st (xm_u1 σ_72 84 30 (-2 : Int)) (fun σ76 => some (σ76, 0))) else (self σ_72 x1_72 x7_72)) (by rw [xu11, if_pos ⟨rfl, rfl⟩])
      have f2 : gx zDs σ τ2 := f1.tr (a2.mono (fun a k h => by unfold zDs; omega))
      rw [a1]
      try dsimp only
      rw [a3]
      by_cases o : 1 < (dfold m L (dauL S A n p)).2.1.length
      · rw [if_pos (by omega), xst, ← hd, st, if_pos o]
        refine ⟨_, rfl, f2.u1 (by unfold zDs; omega), ?_, ?_, a4.eq (fun i _ => ?_)⟩
        · rw [xu11, if_pos ⟨rfl, rfl⟩]
        · rw [xu11, if_neg (by omega)]; exact a3
        · rw [xu11, if_neg (by omega)]
      · rw [if_neg (by omega), m2]
        rw [if_neg o, m2, Int.toNat_natCast] at st
        exact ih (τ2, x) ⟨f2, ⟨kr.1, m4⟩, st.symm.trans hd⟩ (by show 64 - x < 64 - p; omega)
    · have hh := hd_mem s
      rw [hh.2, if_neg (by omega)]
      rw [if_neg s] at st
      obtain ⟨m3, m4⟩ := n1 s
      have kr := kid_rg hO hA m3
      exact ih (τ, hdN (sonL S A n m L p)) ⟨hf, ⟨kr.1, m4⟩, st.symm.trans hd⟩ (by show 64 - hdN _ < 64 - p; omega)
end XE
