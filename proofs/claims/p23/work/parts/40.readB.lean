/-! ===== the class's reader, its takes ===== -/
noncomputable def nP (B : Nat → Int) (s p : Nat) : Nat := tnd B s (skp B s p)
def nok (B : Nat → Int) (s p : Nat) : Prop := okN B s (skp B s p) (nP B s p)
noncomputable def nW (B : Nat → Int) (s p : Nat) (w : Int) : Int := @ite _ (nok B s p) (Classical.propDecidable _) w (fl w (skp B s p))
noncomputable def nV (B : Nat → Int) (s p : Nat) : Int := nv B (skp B s p) (nP B s p - skp B s p)
def wd (B : Nat → Int) (s p : Nat) (v : Int) : Prop := isW B (skp B s p) (nP B s p) v
noncomputable def dW (B : Nat → Int) (s p : Nat) (v w : Int) : Int := @ite _ (wd B s p v) (Classical.propDecidable _) w (fl w (skp B s p))
noncomputable def pW (B : Nat → Int) (s p : Nat) (w : Int) : Int := @ite _ (wd B s p 12) (Classical.propDecidable _) w (nW B s p w)
noncomputable def pV (B : Nat → Int) (s p : Nat) : Int := @ite _ (wd B s p 12) (Classical.propDecidable _) (-1) (nV B s p)
noncomputable def lx (B : Nat → Int) (s p : Nat) (W : Nat → Int) (n : Nat) : Nat := fsx (fun i => wd B s p (W i)) n
noncomputable def lW (B : Nat → Int) (s p : Nat) (W : Nat → Int) (n : Nat) (w : Int) : Int := if lx B s p W n < n then w else fl w (skp B s p)
noncomputable def nA (B : Nat → Int) (s p : Nat) : Int := @ite _ (nok B s p) (Classical.propDecidable _) (nV B s p) (-1)
noncomputable def pA (B : Nat → Int) (s p : Nat) : Int := @ite _ (wd B s p 12) (Classical.propDecidable _) (-1) (nA B s p)
noncomputable def lA (B : Nat → Int) (s p : Nat) (W : Nat → Int) (n : Nat) : Int := if lx B s p W n < n then (lx B s p W n : Int) else -1
noncomputable def eW (B : Nat → Int) (s p : Nat) (w : Int) : Int := if skp B s p < s then fl w (skp B s p) else w
def wKn (i : Nat) : Int := i
def wSx (i : Nat) : Int := 9 + i
def wRl (i : Nat) : Int := if i = 0 then 9 else 13 + i
theorem flQ9 {w : Int} {a : Nat} : ¬ fl w a = -9 := by unfold fl; split <;> omega
theorem nW_9 {B : Nat → Int} {s p : Nat} {w : Int} (h : nW B s p w = -9) : nok B s p ∧ w = -9 := by
  unfold nW at h
  by_cases c : nok B s p
  · rw [if_pos c] at h; exact ⟨c, h⟩
  · rw [if_neg c] at h; exact absurd h flQ9
theorem dW_9 {B : Nat → Int} {s p : Nat} {v w : Int} (h : dW B s p v w = -9) : wd B s p v ∧ w = -9 := by
  unfold dW at h
  by_cases c : wd B s p v
  · rw [if_pos c] at h; exact ⟨c, h⟩
  · rw [if_neg c] at h; exact absurd h flQ9
theorem pW_9 {B : Nat → Int} {s p : Nat} {w : Int} (h : pW B s p w = -9) : (wd B s p 12 ∨ nok B s p) ∧ w = -9 := by
  unfold pW at h
  by_cases c : wd B s p 12
  · rw [if_pos c] at h; exact ⟨Or.inl c, h⟩
  · rw [if_neg c] at h; exact ⟨Or.inr (nW_9 h).1, (nW_9 h).2⟩
theorem lW_9 {B : Nat → Int} {s p n : Nat} {W : Nat → Int} {w : Int} (h : lW B s p W n w = -9) : lx B s p W n < n ∧ w = -9 := by
  unfold lW at h
  split at h
  · rename_i c; exact ⟨c, h⟩
  · exact absurd h flQ9
theorem nA_ok {B : Nat → Int} {s p : Nat} (h : nok B s p) : nA B s p = nV B s p := by unfold nA; exact if_pos h
theorem pA_ok {B : Nat → Int} {s p : Nat} (h : wd B s p 12 ∨ nok B s p) : pA B s p = pV B s p := by
  unfold pA pV
  by_cases c : wd B s p 12
  · rw [if_pos c, if_pos c]
  · rw [if_neg c, if_neg c, nA_ok (h.resolve_left c)]
theorem lA_ok {B : Nat → Int} {s p n : Nat} {W : Nat → Int} (h : lx B s p W n < n) : lA B s p W n = lx B s p W n := by unfold lA; exact if_pos h
theorem nP_rg {B : Nat → Int} {s p : Nat} (h : p ≤ s) : skp B s p ≤ nP B s p ∧ nP B s p ≤ s := tnd_rg (skp_rg h).2
theorem fl_fl {w : Int} {a b : Nat} : fl (fl w a) b = fl w a := by
  have h := flQ9 (w := w) (a := a)
  show (if fl w a = -9 then (b : Int) else fl w a) = fl w a
  rw [if_neg h]
section XT
variable {σ : xm_Mem} {B : Nat → Int} {s p : Nat} {f t w : Int}
theorem r6_takeNumber (hB : isB B s) (hT : TC σ B s) (hp : p ≤ s) : f_X6_takeNumber (cst σ f (p : Int) w) = some (cst σ (skp B s p : Int) (nP B s p : Int) (nW B s p w), nA B s p) := by
  unfold f_X6_takeNumber
  rw [r6_next hB hT p hp]
  simp only [Option.bind_some]
  rw [r6_number hB hT (skp_rg hp).2]
  show Option.bind (some (@ite xm_Out (nok B s p) (Classical.propDecidable _) _ _)) _ = _
  unfold nW nA
  by_cases c : nok B s p
  · simp only [if_pos c, Option.bind_some]; rfl
  · simp only [if_neg c, Option.bind_some]; rfl
theorem r6_isW' (hB : isB B s) (hT : TC σ B s) (hp : p ≤ s) {v : Int} (hv : 0 ≤ v ∧ v < 24) : f_X6_isWord (cst σ (skp B s p : Int) (nP B s p : Int) w) v = some (cst σ (skp B s p : Int) (nP B s p : Int) w, xb (wd B s p v)) := r6_isWord hB hT (nP_rg hp) hv
theorem r6_takeWord (hB : isB B s) (hT : TC σ B s) (hp : p ≤ s) {v : Int} (hv : 0 ≤ v ∧ v < 24) : f_X6_takeWord (cst σ f (p : Int) w) v = some (cst σ (skp B s p : Int) (nP B s p : Int) (dW B s p v w), 0) := by
  unfold f_X6_takeWord
  rw [r6_next hB hT p hp]
  simp only [Option.bind_some]
  rw [show (tnd B s (skp B s p) : Int) = (nP B s p : Int) from rfl, r6_isW' hB hT hp hv]
  simp only [Option.bind_some, xbi]
  unfold dW
  by_cases c : wd B s p v
  · rw [if_pos c, if_pos c]
  · rw [if_neg c, if_neg c, r6_fail]; rfl
theorem r6_takeParent (hB : isB B s) (hT : TC σ B s) (hp : p ≤ s) : f_X6_takeParent (cst σ f (p : Int) w) = some (cst σ (skp B s p : Int) (nP B s p : Int) (pW B s p w), pA B s p) := by
  unfold f_X6_takeParent
  rw [r6_next hB hT p hp]
  simp only [Option.bind_some]
  rw [show (tnd B s (skp B s p) : Int) = (nP B s p : Int) from rfl, r6_isW' hB hT hp (by decide)]
  simp only [Option.bind_some, xbi]
  unfold pW pA
  by_cases c : wd B s p 12
  · rw [if_pos c, if_pos c, if_pos c]
  · rw [if_neg c, if_neg c, if_neg c, show (nP B s p : Int) = (tnd B s (skp B s p) : Int) from rfl, r6_number hB hT (skp_rg hp).2]
    show Option.bind (some (@ite xm_Out (nok B s p) (Classical.propDecidable _) _ _)) _ = _
    unfold nW nA
    by_cases c : nok B s p
    · simp only [if_pos c, Option.bind_some]; rfl
    · simp only [if_neg c, Option.bind_some]
theorem r6_kindWord (i : Nat) (h : i < 9) : f_X6_kindWord σ (i : Int) = some (σ, wKn i) := by
  have : i = 0 ∨ i = 1 ∨ i = 2 ∨ i = 3 ∨ i = 4 ∨ i = 5 ∨ i = 6 ∨ i = 7 ∨ i = 8 := by omega
  rcases this with rfl | rfl | rfl | rfl | rfl | rfl | rfl | rfl | rfl <;> rfl
theorem r6_ruleWord (i : Nat) (h : i < 6) : f_X6_ruleWord σ (i : Int) = some (σ, wRl i) := by
  have : i = 0 ∨ i = 1 ∨ i = 2 ∨ i = 3 ∨ i = 4 ∨ i = 5 := by omega
  rcases this with rfl | rfl | rfl | rfl | rfl | rfl <;> rfl
theorem r6_takeKind (hB : isB B s) (hT : TC σ B s) (hp : p ≤ s) : f_X6_takeKind (cst σ f (p : Int) w) = some (cst σ (skp B s p : Int) (nP B s p : Int) (lW B s p wKn 9 w), lA B s p wKn 9) := by
  unfold f_X6_takeKind f_X6_takeKind_l6
  rw [r6_next hB hT p hp, Option.bind_some]
  rw [show (tnd B s (skp B s p) : Int) = (nP B s p : Int) from rfl]
  refine it_T (γ := Nat) _ _ (fun (g : xm_Mem → Int → Option xm_Out) i => g (cst σ (skp B s p : Int) (nP B s p : Int) w) (i : Int)) (fun i => i ≤ 9 ∧ ∀ k, k < i → ¬ wd B s p (wKn k)) (fun i => 9 - i) (fun z => z = some (cst σ (skp B s p : Int) (nP B s p : Int) (lW B s p wKn 9 w), lA B s p wKn 9)) ?_ xm_fuel 0 ⟨by omega, fun k h => absurd h (Nat.not_lt_zero _)⟩ (xfu (by decide))
  rintro self i ⟨hi, hm⟩ ih
  show f_X6_takeKind_b6 _ self (cst σ (skp B s p : Int) (nP B s p : Int) w) (i : Int) = _
  unfold f_X6_takeKind_b6
  unfold lW lA
  by_cases h : i < 9
  · rw [if_pos (by omega), r6_kindWord i h]
    simp only [Option.bind_some]
    rw [r6_isW' hB hT hp (by unfold wKn; omega)]
    simp only [Option.bind_some, xbi]
    by_cases c : wd B s p (wKn i)
    · have e : lx B s p wKn 9 = i := fsx_eq hi hm (fun _ => c)
      rw [if_pos c, e, if_pos h, if_pos h]
    · rw [if_neg c, xw1 (by omega)]
      refine ih (i + 1) ⟨h, fun k hk => ?_⟩ (by omega)
      by_cases z : k = i
      · subst z; exact c
      · exact hm k (by omega)
  · have e : lx B s p wKn 9 = 9 := fsx_eq (Nat.le_refl _) (fun r hr => hm r (by omega)) (fun z => absurd z (Nat.lt_irrefl _))
    rw [if_neg (by omega)]
    simp only [r6_fail, Option.bind_some]
    rw [e, if_neg (Nat.lt_irrefl _), if_neg (Nat.lt_irrefl _)]
theorem r6_takeRule (hB : isB B s) (hT : TC σ B s) (hp : p ≤ s) : f_X6_takeRule (cst σ f (p : Int) w) = some (cst σ (skp B s p : Int) (nP B s p : Int) (lW B s p wRl 6 w), lA B s p wRl 6) := by
  unfold f_X6_takeRule f_X6_takeRule_l6
  rw [r6_next hB hT p hp, Option.bind_some]
  rw [show (tnd B s (skp B s p) : Int) = (nP B s p : Int) from rfl]
  refine it_T (γ := Nat) _ _ (fun (g : xm_Mem → Int → Option xm_Out) i => g (cst σ (skp B s p : Int) (nP B s p : Int) w) (i : Int)) (fun i => i ≤ 6 ∧ ∀ k, k < i → ¬ wd B s p (wRl k)) (fun i => 6 - i) (fun z => z = some (cst σ (skp B s p : Int) (nP B s p : Int) (lW B s p wRl 6 w), lA B s p wRl 6)) ?_ xm_fuel 0 ⟨by omega, fun k h => absurd h (Nat.not_lt_zero _)⟩ (xfu (by decide))
  rintro self i ⟨hi, hm⟩ ih
  show f_X6_takeRule_b6 _ self (cst σ (skp B s p : Int) (nP B s p : Int) w) (i : Int) = _
  unfold f_X6_takeRule_b6
  unfold lW lA
  by_cases h : i < 6
  · rw [if_pos (by omega), r6_ruleWord i h]
    simp only [Option.bind_some]
    rw [r6_isW' hB hT hp (by unfold wRl; split <;> omega)]
    simp only [Option.bind_some, xbi]
    by_cases c : wd B s p (wRl i)
    · have e : lx B s p wRl 6 = i := fsx_eq hi hm (fun _ => c)
      rw [if_pos c, e, if_pos h, if_pos h]
    · rw [if_neg c, xw1 (by omega)]
      refine ih (i + 1) ⟨h, fun k hk => ?_⟩ (by omega)
      by_cases z : k = i
      · subst z; exact c
      · exact hm k (by omega)
  · have e : lx B s p wRl 6 = 6 := fsx_eq (Nat.le_refl _) (fun r hr => hm r (by omega)) (fun z => absurd z (Nat.lt_irrefl _))
    rw [if_neg (by omega)]
    simp only [r6_fail, Option.bind_some]
    rw [e, if_neg (Nat.lt_irrefl _), if_neg (Nat.lt_irrefl _)]
theorem TC.u1 (h : TC σ B s) {a k : Nat} {v : Int} (ha : 111 ≤ a) : TC (xm_u1 σ a k v) B s :=
  ⟨by rw [xu11, if_neg (by omega)]; exact h.1, fun j hj => by rw [xu11, if_neg (by omega)]; exact h.2 j hj⟩
theorem xobjc (q : Int) (c : Nat) : xm_obj (cst σ f t w) q c = xm_obj σ q c := rfl
theorem lx_sex : (lx B s p wSx 2 < 2) ↔ (wd B s p 9 ∨ wd B s p 10) := by
  have g := fsx_spec (fun i => wd B s p (wSx i)) 2
  unfold lx
  constructor
  · intro h
    have c := g.2.1 h
    have e : fsx (fun i => wd B s p (wSx i)) 2 = 0 ∨ fsx (fun i => wd B s p (wSx i)) 2 = 1 := by omega
    rcases e with e | e
    · rw [e] at c; exact Or.inl c
    · rw [e] at c; exact Or.inr c
  · intro h
    refine Classical.byContradiction (fun n => ?_)
    have e : fsx (fun i => wd B s p (wSx i)) 2 = 2 := by omega
    rw [e] at g
    rcases h with h | h
    · exact g.2.2 0 (by decide) h
    · exact g.2.2 1 (by decide) h
theorem r6_j34 {a : Nat} (ha : 111 ≤ a) (ho : xm_obj σ (a : Int) 2) (hB : isB B s) (hT : TC σ B s) (hp : p ≤ s) :
    f_X6_takeBirth_j34 (cst σ f (p : Int) w) (a : Int) = some (cst (xm_u1 (xm_u1 σ a 4 (pA B s (nP B s p))) a 5 (pA B s (nP B s (nP B s (nP B s p))))) (skp B s (nP B s (nP B s (nP B s p))) : Int) (nP B s (nP B s (nP B s (nP B s p))) : Int) (pW B s (nP B s (nP B s (nP B s p))) (dW B s (nP B s (nP B s p)) 13 (pW B s (nP B s p) (dW B s p 11 w)))), 0) := by
  have n4 : a ≠ 4 := by omega
  have p1 := (nP_rg (B := B) hp).2
  have p2 := (nP_rg (B := B) p1).2
  have p3 := (nP_rg (B := B) p2).2
  unfold f_X6_takeBirth_j34
  rw [r6_takeWord hB hT hp (by decide)]
  simp only [Option.bind_some]
  rw [r6_takeParent hB hT p1]
  simp only [Option.bind_some, xobjc, if_pos ho, xst, Int.toNat_natCast, cst_o _ n4]
  rw [r6_takeWord hB (hT.u1 ha) p2 (by decide)]
  simp only [Option.bind_some]
  rw [r6_takeParent hB (hT.u1 ha) p3]
  simp only [Option.bind_some, xobjc, xobj1, if_pos ho, xst, Int.toNat_natCast, cst_o _ n4]
theorem r6_takeBirth {a : Nat} (ha : 111 ≤ a) (ho : xm_obj σ (a : Int) 2) (hB : isB B s) (hT : TC σ B s) (hp : p ≤ s) :
    f_X6_takeBirth (cst σ f (p : Int) w) (a : Int) = some (cst (xm_u1 (xm_u1 (xm_u1 σ a 8 (xb (wd B s p 9))) a 4 (pA B s (nP B s (nP B s p)))) a 5 (pA B s (nP B s (nP B s (nP B s (nP B s p)))))) (skp B s (nP B s (nP B s (nP B s (nP B s p)))) : Int) (nP B s (nP B s (nP B s (nP B s (nP B s p)))) : Int) (pW B s (nP B s (nP B s (nP B s (nP B s p)))) (dW B s (nP B s (nP B s (nP B s p))) 13 (pW B s (nP B s (nP B s p)) (dW B s (nP B s p) 11 (lW B s p wSx 2 w))))), 0) := by
  have n4 : a ≠ 4 := by omega
  have p1 := (nP_rg (B := B) hp).2
  unfold f_X6_takeBirth
  rw [r6_next hB hT p hp]
  simp only [Option.bind_some]
  rw [show (tnd B s (skp B s p) : Int) = (nP B s p : Int) from rfl, r6_isW' hB hT hp (by decide)]
  simp only [Option.bind_some, xobjc, if_pos ho, xst, Int.toNat_natCast, cst_o _ n4, xobj1, cst_r n4, xu11, and_self, if_true, xbi]
  have hT1 : TC (xm_u1 σ a 8 (xb (wd B s p 9))) B s := hT.u1 ha
  have ho1 : xm_obj (xm_u1 σ a 8 (xb (wd B s p 9))) (a : Int) 2 := ho
  by_cases c : wd B s p 9
  · rw [if_pos c, r6_j34 ha ho1 hB hT1 p1]
    have e : lW B s p wSx 2 w = w := by unfold lW; rw [if_pos (lx_sex.mpr (Or.inl c))]
    rw [e]
  · rw [if_neg c, r6_isW' hB hT1 hp (by decide)]
    simp only [Option.bind_some, xbi]
    by_cases d : wd B s p 10
    · rw [if_pos d, r6_j34 ha ho1 hB hT1 p1]
      have e : lW B s p wSx 2 w = w := by unfold lW; rw [if_pos (lx_sex.mpr (Or.inr d))]
      rw [e]
    · rw [if_neg d, r6_fail]
      simp only [Option.bind_some]
      rw [r6_j34 ha ho1 hB hT1 p1]
      have e : lW B s p wSx 2 w = fl w (skp B s p) := by unfold lW; rw [if_neg (fun z => by rcases lx_sex.mp z with z | z; exact c z; exact d z)]
      rw [e]
theorem r6_j56 {a : Nat} (ha : 111 ≤ a) (ho : xm_obj σ (a : Int) 2) (hB : isB B s) (hT : TC σ B s) (hp : p ≤ s) :
    f_X6_takeWhatIsOf_j56 (cst σ f (p : Int) w) (a : Int) = some (cst (xm_u1 (xm_u1 σ a 2 (nA B s p)) a 3 (nA B s (nP B s p))) (skp B s (nP B s p) : Int) (nP B s (nP B s p) : Int) (nW B s (nP B s p) (nW B s p w)), 0) := by
  have n4 : a ≠ 4 := by omega
  have p1 := (nP_rg (B := B) hp).2
  unfold f_X6_takeWhatIsOf_j56
  rw [r6_takeNumber hB hT hp]
  simp only [Option.bind_some, xobjc, if_pos ho, xst, Int.toNat_natCast, cst_o _ n4]
  rw [r6_takeNumber hB (hT.u1 ha) p1]
  simp only [Option.bind_some, xobjc, xobj1, if_pos ho, xst, Int.toNat_natCast, cst_o _ n4]
theorem r6_j105 {a : Nat} (ha : 111 ≤ a) (ho : xm_obj σ (a : Int) 2) (hB : isB B s) (hT : TC σ B s) (hp : p ≤ s) :
    f_X6_takeWhatIsOf_j105 (cst σ f (p : Int) w) (a : Int) = some (cst (xm_u1 (xm_u1 σ a 2 (nA B s p)) a 6 (nA B s (nP B s p))) (skp B s (nP B s p) : Int) (nP B s (nP B s p) : Int) (nW B s (nP B s p) (nW B s p w)), 0) := by
  have n4 : a ≠ 4 := by omega
  have p1 := (nP_rg (B := B) hp).2
  unfold f_X6_takeWhatIsOf_j105
  rw [r6_takeNumber hB hT hp]
  simp only [Option.bind_some, xobjc, if_pos ho, xst, Int.toNat_natCast, cst_o _ n4]
  rw [r6_takeNumber hB (hT.u1 ha) p1]
  simp only [Option.bind_some, xobjc, xobj1, if_pos ho, xst, Int.toNat_natCast, cst_o _ n4]
/-- the place of a record's fault behind kind and day -/
noncomputable def tlW (B : Nat → Int) (s : Nat) (K : Int) (p : Nat) (w : Int) : Int :=
  if K = 0 then eW B s (nP B s (nP B s (nP B s (nP B s (nP B s p))))) (pW B s (nP B s (nP B s (nP B s (nP B s p)))) (dW B s (nP B s (nP B s (nP B s p))) 13 (pW B s (nP B s (nP B s p)) (dW B s (nP B s p) 11 (lW B s p wSx 2 w)))))
  else if K = 1 ∨ K = 2 ∨ K = 5 ∨ K = 6 then eW B s (nP B s (nP B s p)) (nW B s (nP B s p) (nW B s p w))
  else if K = 4 then eW B s (nP B s (nP B s p)) (lW B s (nP B s p) wRl 6 (nW B s p w))
  else eW B s (nP B s p) (nW B s p w)
noncomputable def rdK (B : Nat → Int) (s : Nat) : Int := lA B s 0 wKn 9
noncomputable def rdP (B : Nat → Int) (s : Nat) : Nat := nP B s (nP B s 0)
noncomputable def rdD (B : Nat → Int) (s : Nat) : Int := nV B s (nP B s 0)
noncomputable def rdW (B : Nat → Int) (s : Nat) : Int := tlW B s (rdK B s) (rdP B s) (nW B s (nP B s 0) (lW B s 0 wKn 9 (-9)))
noncomputable def rd1 (B : Nat → Int) (s : Nat) : Int := if 1 ≤ rdK B s ∧ rdK B s ≤ 6 then nV B s (rdP B s) else -1
noncomputable def rd2 (B : Nat → Int) (s : Nat) : Int := if rdK B s = 0 then pV B s (nP B s (nP B s (rdP B s))) else if rdK B s = 1 ∨ rdK B s = 2 ∨ rdK B s = 5 ∨ rdK B s = 6 then nV B s (nP B s (rdP B s)) else if rdK B s = 7 ∨ rdK B s = 8 then nV B s (rdP B s) else -1
noncomputable def rd3 (B : Nat → Int) (s : Nat) : Int := if rdK B s = 0 then pV B s (nP B s (nP B s (nP B s (nP B s (rdP B s))))) else -1
noncomputable def rd4 (B : Nat → Int) (s : Nat) : Int := if rdK B s = 0 then xb (wd B s (rdP B s) 9) else if rdK B s = 4 then (lx B s (nP B s (rdP B s)) wRl 6 : Int) else 0
theorem eW_9 (h : eW B s p w = -9) : w = -9 := by
  unfold eW at h
  split at h
  · exact absurd h flQ9
  · exact h
end XT
