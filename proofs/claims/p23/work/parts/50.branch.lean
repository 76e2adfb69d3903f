/-! ===== the class orders a body by branches ===== -/
theorem pre_self (s : List Nat) : pre (fun i => s.getD i 0) s.length = s := by
  apply List.ext_getElem?
  intro i
  by_cases h : i < s.length
  · unfold pre
    rw [List.getElem?_map, List.getElem?_range h, List.getElem?_eq_getElem h]
    show some (s.getD i 0) = _
    rw [List.getD_eq_getElem?_getD, List.getElem?_eq_getElem h]
    rfl
  · rw [List.getElem?_eq_none (by rw [pre_len]; omega), List.getElem?_eq_none (by omega)]
theorem getD_rev {s : List Nat} {i : Nat} (h : i < s.length) : s.reverse.getD i 0 = s.getD (s.length - 1 - i) 0 := by
  rw [List.getD_eq_getElem?_getD, List.getD_eq_getElem?_getD, List.getElem?_reverse h]
theorem pre_cg {e f : Nat → Nat} : ∀ n, (∀ i, i < n → e i = f i) → pre e n = pre f n := by
  intro n
  induction n with
  | zero => intro _; rfl
  | succ n ih => intro h; rw [pre_s, pre_s, ih (fun i hi => h i (by omega)), h n (by omega)]
section XB
variable {σ : xm_Mem} {S : xS} {A : Nat → Nat} {n : Nat} {e : Nat → Nat}
theorem PO.gx {σ' : xm_Mem} {Z : Nat → Nat → Prop} (h : PO σ S) (hf : gx Z σ σ') (hz : ∀ a k, Z a k → ¬ zP a) : PO σ' S := by
  intro p hp
  have o : ∀ a k, zP a → σ'.1 a k = σ.1 a k := fun a k z => hf.1 a k (fun w => hz a k w z)
  rw [o 10 p (by unfold zP; omega), o 13 p (by unfold zP; omega), o 11 p (by unfold zP; omega), o 12 p (by unfold zP; omega), o 14 p (by unfold zP; omega), o 15 p (by unfold zP; omega)]
  exact h p hp
theorem KD.gx {σ' : xm_Mem} {Z : Nat → Nat → Prop} (h : KD σ S A n) (hf : gx Z σ σ') (hz : ∀ a k, Z a k → a ≠ 26 ∧ a ≠ 27) : KD σ' S A n :=
  ⟨fun p hp => by rw [hf.1 27 p (fun w => (hz _ _ w).2 rfl)]; exact h.1 p hp, fun p hp => (h.2 p hp).eq (fun i _ => hf.1 26 _ (fun w => (hz _ _ w).1 rfl))⟩
def zT (a k : Nat) : Prop := (a = 29 ∧ k = 7) ∨ a = 31
def zB (a k : Nat) : Prop := (a = 29 ∧ (k = 3 ∨ k = 7)) ∨ a = 30 ∨ a = 31
theorem zTB : ∀ a k, zT a k → zB a k := fun a k h => by unfold zT at h; unfold zB; omega
theorem zTP : ∀ a k, zT a k → ¬ zP a := fun a k h z => by unfold zT at h; unfold zP at z; omega
theorem zTK : ∀ a k, zT a k → a ≠ 26 ∧ a ≠ 27 := fun a k h => by unfold zT at h; omega
theorem zBP : ∀ a k, zB a k → ¬ zP a := fun a k h z => by unfold zB at h; unfold zP at z; omega
theorem zBK : ∀ a k, zB a k → a ≠ 26 ∧ a ≠ 27 := fun a k h => by unfold zB at h; omega
/-- the stack, its top last -/
def SA (σ : xm_Mem) (r : List Nat) : Prop := σ.1 29 7 = (r.length : Int) ∧ LA σ 31 0 r
def whichP (S : xS) (w : Int) (c : Nat) : Prop := w = 2 ∨ (w = 1 ∧ wMale S c) ∨ (w = 0 ∧ ¬ wMale S c)
theorem c_pushKids (hO : OK S) (hA : AGE S A n) (hP : PO σ S) (hK : KD σ S A n) {p : Nat} (hp : p < 64) {w ef : Int} (hw : w = 0 ∨ w = 1 ∨ w = 2) {r : List Nat} (hr : SA σ r)
    (hcap : r.length + ((kidL S A n p).filter (fun c => dc (whichP S w c))).length ≤ 129) :
    ∃ σ', f_X4_pushKids σ (p : Int) w ef = some (σ', 0) ∧ gx zT σ σ' ∧ SA σ' (r ++ ((if ef = 0 then (kidL S A n p).reverse else kidL S A n p).filter (fun c => dc (whichP S w c)))) := by
  unfold f_X4_pushKids f_X4_pushKids_l13
  have hn := hA.1
  have hlen : (kidL S A n p).length ≤ 128 := by
    have h1 := sK_le S A (p + 1) n
    have h3 : sK S A n (p + 1) = sK S A n p + (kidL S A n p).length := rfl
    omega
  rw [c_kidCount hA hK hp, Option.bind_some]
  generalize hE : (fun i => (kidL S A n p).getD (if ef = 0 then (kidL S A n p).length - 1 - i else i) 0) = E
  have eE : pre E (kidL S A n p).length = (if ef = 0 then (kidL S A n p).reverse else kidL S A n p) := by
    by_cases h0 : ef = 0
    · rw [if_pos h0]
      have := pre_self (kidL S A n p).reverse
      rw [List.length_reverse] at this
      rw [← this]
      refine pre_cg _ (fun i hi => ?_)
      rw [getD_rev hi, ← hE]
      simp only [if_pos h0]
    · rw [if_neg h0, ← pre_self (kidL S A n p), pre_self]
      rw [← hE]
      simp only [if_neg h0]
      exact pre_self _
  have hlenF : ((pre E (kidL S A n p).length).filter (fun c => dc (whichP S w c))).length = ((kidL S A n p).filter (fun c => dc (whichP S w c))).length := by
    rw [eE]
    by_cases h0 : ef = 0
    · rw [if_pos h0, List.filter_reverse, List.length_reverse]
    · rw [if_neg h0]
  refine it_T (γ := xm_Mem × Nat) _ _ (fun (g : xm_Mem → Int → Int → Int → Int → Int → Option xm_Out) a => g a.1 (p : Int) w ef ((kidL S A n p).length : Int) (a.2 : Int)) (fun a => a.2 ≤ (kidL S A n p).length ∧ gx zT σ a.1 ∧ SA a.1 (r ++ ((pre E a.2).filter (fun c => dc (whichP S w c))))) (fun a => (kidL S A n p).length - a.2) (fun z => ∃ σ', z = some (σ', 0) ∧ gx zT σ σ' ∧ SA σ' (r ++ ((if ef = 0 then (kidL S A n p).reverse else kidL S A n p).filter (fun c => dc (whichP S w c))))) ?_ xm_fuel (σ, 0) ⟨Nat.zero_le _, gx.rf _ _, by show SA σ (r ++ []); rw [List.append_nil]; exact hr⟩ (xfu (by show (kidL S A n p).length - 0 < _; omega))
  rintro self ⟨τ, i⟩ ⟨hi, hf, hS⟩ ih
  replace hi : i ≤ (kidL S A n p).length := hi
  replace hf : gx zT σ τ := hf
  replace hS : SA τ (r ++ ((pre E i).filter (fun c => dc (whichP S w c)))) := hS
  have hPτ := hP.gx hf zTP
  have hKτ := hK.gx hf zTK
  show ∃ σ', f_X4_pushKids_b13 self τ (p : Int) w ef ((kidL S A n p).length : Int) (i : Int) = _ ∧ _
  unfold f_X4_pushKids_b13
  by_cases h : i < (kidL S A n p).length
  · rw [if_pos (by omega)]
    have kE : E i ∈ kidL S A n p := by
      rw [← hE]
      refine getD_mem ?_
      by_cases h0 : ef = 0
      · rw [if_pos h0]; omega
      · rw [if_neg h0]; exact h
    have kr := kid_rg hO hA kE
    have mono := filt_mono E (fun c => dc (whichP S w c)) (kidL S A n p).length (i + 1) h
    rw [hlenF] at mono
    have no : ¬ whichP S w (E i) → ∃ σ', self τ (p : Int) w ef ((kidL S A n p).length : Int) (xm_w ((i : Int) + 1)) = some (σ', 0) ∧ gx zT σ σ' ∧ SA σ' (r ++ ((if ef = 0 then (kidL S A n p).reverse else kidL S A n p).filter (fun c => dc (whichP S w c)))) := by
      intro z
      rw [xw1 (by omega)]
      refine ih (τ, i + 1) ⟨h, hf, ?_⟩ (by show _ - (i + 1) < _ - i; omega)
      show SA τ (r ++ ((pre E (i + 1)).filter (fun c => dc (whichP S w c))))
      rw [pre_s, filt_n (fun y => z (dc_t.mp y))]
      exact hS
    have yes : whichP S w (E i) → ∃ σ', f_X4_pushKids_j76 self τ (p : Int) w ef ((kidL S A n p).length : Int) (i : Int) (E i : Int) = some (σ', 0) ∧ gx zT σ σ' ∧ SA σ' (r ++ ((if ef = 0 then (kidL S A n p).reverse else kidL S A n p).filter (fun c => dc (whichP S w c)))) := by
      intro z
      unfold f_X4_pushKids_j76
      have e1 : (pre E (i + 1)).filter (fun c => dc (whichP S w c)) = (pre E i).filter (fun c => dc (whichP S w c)) ++ [E i] := by rw [pre_s, filt_y (dc_y z)]
      rw [e1, List.length_append] at mono
      have mono : ((pre E i).filter (fun c => dc (whichP S w c))).length + 1 ≤ ((kidL S A n p).filter (fun c => dc (whichP S w c))).length := mono
      have el : (r ++ ((pre E i).filter (fun c => dc (whichP S w c)))).length = r.length + ((pre E i).filter (fun c => dc (whichP S w c))).length := List.length_append
      rw [if_neg (by omega), hS.1, if_pos (by omega), xvl, xst, if_pos ⟨by omega, by omega⟩, xst, Int.toNat_natCast, xw1 (by omega), xw1 (by omega)]
      refine ih (_, i + 1) ⟨h, (hf.u1 (by unfold zT; omega)).u1 (by unfold zT; omega), ?_⟩ (by show _ - (i + 1) < _ - i; omega)
      show SA (xm_u1 (xm_u1 τ 29 7 _) 31 _ _) (r ++ ((pre E (i + 1)).filter (fun c => dc (whichP S w c))))
      rw [e1, ← List.append_assoc]
      refine ⟨?_, LA.app hS.2 (fun j hj => ?_) ?_⟩
      · rw [xu11, if_neg (by omega), xu11, if_pos ⟨rfl, rfl⟩]
        simp only [List.length_append, List.length_cons, List.length_nil, Nat.zero_add]
      · rw [xu11, if_neg (by omega), xu11, if_neg (by omega)]
      · rw [xu11, if_pos ⟨rfl, by omega⟩]
    have j41 : ∀ s0 : Int, f_X2_kid τ (p : Int) s0 = some (τ, (E i : Int)) → ∃ σ', f_X4_pushKids_j41 self τ s0 (p : Int) (p : Int) w ef ((kidL S A n p).length : Int) (i : Int) = some (σ', 0) ∧ gx zT σ σ' ∧ SA σ' (r ++ ((if ef = 0 then (kidL S A n p).reverse else kidL S A n p).filter (fun c => dc (whichP S w c)))) := by
      intro s0 hs
      unfold f_X4_pushKids_j41 f_X4_pushKids_j70
      rw [hs, Option.bind_some]
      try dsimp only
      by_cases w2 : w = 2
      · rw [if_pos w2]; exact yes (Or.inl w2)
      · rw [if_neg w2, c_isMale hO.1 hPτ kr.1, Option.bind_some]
        try dsimp only
        by_cases mm : wMale S (E i)
        · rw [xb_pos mm]
          by_cases w1 : w = 1
          · rw [if_pos w1, if_pos rfl]; exact yes (Or.inr (Or.inl ⟨w1, mm⟩))
          · rw [if_neg w1, if_neg (by decide)]; exact no (fun z => by unfold whichP at z; rcases z with z | z | z; exact w2 z; exact w1 z.1; exact z.2 mm)
        · rw [xb_neg mm]
          by_cases w1 : w = 1
          · rw [if_pos w1, if_neg (by decide)]; exact no (fun z => by unfold whichP at z; rcases z with z | z | z; exact w2 z; exact mm z.2; omega)
          · rw [if_neg w1, if_pos rfl]; exact yes (Or.inr (Or.inr ⟨by omega, mm⟩))
    by_cases h0 : ef = 0
    · rw [if_pos h0]
      have e1 : xm_w (xm_w (((kidL S A n p).length : Int) - 1) - (i : Int)) = (((kidL S A n p).length - 1 - i : Nat) : Int) := by
        rw [xp_w (x := ((kidL S A n p).length : Int) - 1) (by omega) (by omega), xp_w (by omega) (by omega)]; omega
      rw [e1]
      refine j41 _ ?_
      rw [c_kid hA hKτ hp (by omega), ← hE]
      simp only [if_pos h0]
    · rw [if_neg h0]
      refine j41 _ ?_
      rw [c_kid hA hKτ hp h, ← hE]
      simp only [if_neg h0]
  · rw [if_neg (by omega)]
    have ei : i = (kidL S A n p).length := by omega
    rw [ei, eE] at hS
    exact ⟨τ, rfl, hf, hS⟩
theorem wh2 (l : List Nat) : l.filter (fun c => dc (whichP S 2 c)) = l := List.filter_eq_self.mpr (fun c _ => dc_y (Or.inl rfl))
theorem wh1 (S : xS) : (fun c => dc (whichP S 1 c)) = (fun c : Nat => dc (wMale S c)) := by
  funext c
  by_cases h : wMale S c
  · rw [dc_y h, dc_y (show whichP S 1 c from Or.inr (Or.inl ⟨rfl, h⟩))]
  · rw [dc_n h, dc_n (show ¬ whichP S 1 c from fun z => by unfold whichP at z; rcases z with z | z | z; omega; exact h z.2; omega)]
theorem wh0 (S : xS) : (fun c => dc (whichP S 0 c)) = (fun c : Nat => dc (¬ wMale S c)) := by
  funext c
  by_cases h : wMale S c
  · rw [dc_n (show ¬ ¬ wMale S c from fun z => z h), dc_n (show ¬ whichP S 0 c from fun z => by unfold whichP at z; rcases z with z | z | z; omega; omega; exact z.2 h)]
  · rw [dc_y h, dc_y (show whichP S 0 c from Or.inr (Or.inr ⟨rfl, h⟩))]
theorem wit_isP (hO : OK S) (hA : AGE S A n) (rule : Int) {root : Nat} (hr : isP S (root : Int)) : ∀ k, (∀ q, q ∈ (wit (koL S A n rule) k ([root], [])).1 → isP S (q : Int)) ∧ ∀ q, q ∈ (wit (koL S A n rule) k ([root], [])).2 → isP S (q : Int) := by
  intro k
  induction k with
  | zero =>
    refine ⟨fun q h => ?_, fun q h => absurd h List.not_mem_nil⟩
    have h : q ∈ [root] := h
    rw [List.mem_singleton] at h
    rw [h]; exact hr
  | succ k ih =>
    obtain ⟨h1, h2⟩ := ih
    rw [wit_s]
    generalize wit (koL S A n rule) k ([root], []) = x at h1 h2
    obtain ⟨st, acc⟩ := x
    cases st with
    | nil => exact ⟨h1, h2⟩
    | cons p st =>
      by_cases c : p ∈ acc
      · rw [wst_in c]
        exact ⟨fun q hq => h1 q (List.mem_cons_of_mem _ hq), h2⟩
      · rw [wst_out c]
        refine ⟨fun q hq => ?_, fun q hq => ?_⟩
        · rcases List.mem_append.mp hq with z | z
          · exact (kid_rg hO hA (koL_mem z)).1
          · exact h1 q (List.mem_cons_of_mem _ z)
        · rcases List.mem_append.mp hq with z | z
          · exact h2 q z
          · rw [List.mem_singleton] at z; rw [z]; exact h1 p List.mem_cons_self
theorem c_branches (hO : OK S) (hA : AGE S A n) (hP : PO σ S) (hK : KD σ S A n) {rule : Int} (hrl : rule = 0 ∨ rule = 1 ∨ rule = 2 ∨ rule = 3 ∨ rule = 5) {root : Nat} (hroot : isP S (root : Int)) (h3 : σ.1 29 3 = 0) :
    ∃ σ', f_X4_orderByBranches σ rule (root : Int) = some (σ', 0) ∧ gx zB σ σ' ∧ σ'.1 29 3 = ((ordW S A n rule root).length : Int) ∧ LA σ' 30 0 (ordW S A n rule root) := by
  have r64 := (hO.rec hroot).2.2.2.2.2
  unfold f_X4_orderByBranches f_X10_isPersonNumber
  rw [if_neg (by omega), if_pos (by omega), Option.bind_some]
  try dsimp only
  rw [if_neg (by decide), if_pos (by decide), xst, xst]
  unfold f_X4_orderByBranches_l25
  refine it_T (γ := (xm_Mem × Int64) × Nat) _ _ (fun (g : xm_Mem → Int → Int64 → Int → Option xm_Out) a => g a.1.1 rule a.1.2 (a.2 : Int)) (fun a => a.2 ≤ 129 ∧ gx zB σ a.1.1 ∧ (a.1.1.1 29 3 = (((wit (koL S A n rule) a.2 ([root], [])).2.length : Nat) : Int) ∧ LA a.1.1 30 0 (wit (koL S A n rule) a.2 ([root], [])).2) ∧ (∀ q, q < 64 → (bt a.1.2 q ↔ q ∈ (wit (koL S A n rule) a.2 ([root], [])).2)) ∧ SA a.1.1 (wit (koL S A n rule) a.2 ([root], [])).1.reverse) (fun a => 129 - a.2) (fun z => ∃ σ', z = some (σ', 0) ∧ gx zB σ σ' ∧ σ'.1 29 3 = ((ordW S A n rule root).length : Int) ∧ LA σ' 30 0 (ordW S A n rule root)) ?_ xm_fuel ((_, 0), 0) ⟨Nat.zero_le _, ((gx.rf _ _).u1 (by unfold zB; omega)).u1 (by unfold zB; omega), ⟨?_, LA.nil⟩, fun q _ => ⟨fun z => absurd z (bt_0 q), fun z => absurd z List.not_mem_nil⟩, ⟨?_, ?_⟩⟩ (xfu (by show 129 - 0 < _; decide))
  · rintro self ⟨⟨τ, v⟩, i⟩ ⟨hi, hf, hb, hv, hS⟩ ih
    replace hi : i ≤ 129 := hi
    replace hf : gx zB σ τ := hf
    show ∃ σ', f_X4_orderByBranches_b25 self τ rule v (i : Int) = _ ∧ _
    have inv := wit_inv hO hA rule r64 i hi
    have invP := wit_isP hO hA rule hroot i
    have fin : (wit (koL S A n rule) i ([root], [])).1 = [] → ordW S A n rule root = (wit (koL S A n rule) i ([root], [])).2 := by
      intro z
      refine ordW_of hO hA r64 ⟨i, ?_⟩
      exact Prod.ext z rfl
    have nx : i < 129 → wit (koL S A n rule) (i + 1) ([root], []) = wst (koL S A n rule) (wit (koL S A n rule) i ([root], [])) := fun _ => wit_s _ _ _
    have inv2 := fun h : i < 129 => wit_inv hO hA rule r64 (i + 1) h
    unfold f_X4_orderByBranches_b25
    by_cases h : i < 129
    · rw [if_pos (by omega)]
      have ih1 := fun x => ih (x, i + 1)
      simp only [nx h] at ih1
      replace inv2 := inv2 h
      rw [nx h] at inv2
      replace hb : τ.1 29 3 = (((wit (koL S A n rule) i ([root], [])).2.length : Nat) : Int) ∧ LA τ 30 0 (wit (koL S A n rule) i ([root], [])).2 := hb
      replace hv : ∀ q, q < 64 → (bt v q ↔ q ∈ (wit (koL S A n rule) i ([root], [])).2) := hv
      replace hS : SA τ (wit (koL S A n rule) i ([root], [])).1.reverse := hS
      generalize wit (koL S A n rule) i ([root], []) = x at hb hv hS inv invP inv2 fin ih1
      obtain ⟨stk, acc⟩ := x
      cases stk with
      | nil =>
        have e7 : τ.1 29 7 = 0 := hS.1
        rw [if_neg (by omega)]
        have f := fin rfl
        exact ⟨τ, rfl, hf, by rw [f]; exact hb.1, by rw [f]; exact hb.2⟩
      | cons p st =>
        have erev : (p :: st).reverse = st.reverse ++ [p] := List.reverse_cons
        have hS : SA τ (st.reverse ++ [p]) := by rw [← erev]; exact hS
        have hb : τ.1 29 3 = (acc.length : Int) ∧ LA τ 30 0 acc := hb
        have hv : ∀ q, q < 64 → (bt v q ↔ q ∈ acc) := hv
        have hp : p < 64 := inv.1.1 p (List.mem_cons_self)
        have e7 : τ.1 29 7 = ((st.length + 1 : Nat) : Int) := by rw [hS.1, List.length_append, List.length_reverse]; rfl
        have hst : st.length + 1 ≤ 129 := by
          rcases inv.2 with z | z
          · exact absurd z (List.cons_ne_nil _ _)
          · have z : st.length + 1 + sA (koL S A n rule) acc 64 + i ≤ 129 := z
            omega
        have e31 : τ.1 31 st.length = (p : Int) := by
          have := hS.2 st.length (by rw [List.length_append, List.length_reverse]; exact Nat.lt_succ_self _)
          rw [Nat.zero_add] at this
          rw [this]
          have := getD_last (l := st.reverse) (x := p)
          rw [List.length_reverse] at this
          rw [this]
        have f1 : gx zB σ (xm_u1 τ 29 7 (st.length : Int)) := hf.u1 (by unfold zB; omega)
        have e7' : (xm_u1 τ 29 7 (st.length : Int)).1 29 7 = (st.length : Int) := by rw [xu11, if_pos ⟨rfl, rfl⟩]
        have e31' : (xm_u1 τ 29 7 (st.length : Int)).1 31 st.length = (p : Int) := by rw [xu11, if_neg (by omega)]; exact e31
        rw [if_pos (by omega), xst, e7, xwm (by omega), xvl, e7', if_pos ⟨by omega, by omega⟩, Int.toNat_natCast, xvl, e31']
        have hbit := lc_b v hp
        have SAr : SA (xm_u1 τ 29 7 (st.length : Int)) st.reverse := by
          refine ⟨by rw [xu11, if_pos ⟨rfl, rfl⟩, List.length_reverse], fun j hj => ?_⟩
          rw [xu11, if_neg (by omega)]
          have := hS.2 j (by rw [List.length_append]; omega)
          rw [getD_app1 hj] at this
          exact this
        by_cases c : p ∈ acc
        · rw [if_neg (fun z => hbit.mp z ((hv p hp).mpr c)), xw1 (by omega)]
          rw [wst_in c] at ih1
          refine ih1 (xm_u1 τ 29 7 (st.length : Int), v) ⟨h, f1, ⟨?_, ?_⟩, hv, SAr⟩ (by show 129 - (i + 1) < 129 - i; omega)
          · show (xm_u1 τ 29 7 _).1 29 3 = _
            rw [xu11, if_neg (by omega)]; exact hb.1
          · exact hb.2.eq (fun j _ => by show (xm_u1 τ 29 7 _).1 30 _ = _; rw [xu11, if_neg (by omega)])
        · have nd := inv.1.2.app hp c
          have e3 : (xm_u1 τ 29 7 (st.length : Int)).1 29 3 = (acc.length : Int) := by rw [xu11, if_neg (by omega)]; exact hb.1
          rw [if_pos (hbit.mpr (fun z => c ((hv p hp).mp z))), e3, if_pos (by omega), xvj, xvl, xst, if_pos ⟨by omega, by omega⟩, xst, Int.toNat_natCast, xw1 (by omega)]
          rw [wst_out c] at ih1 inv2
          have cap : st.length + (koL S A n rule p).length ≤ 129 := by
            rcases inv2.2 with z | z
            · have z : koL S A n rule p ++ st = [] := z
              have := congrArg List.length z
              rw [List.length_append] at this
              have this : (koL S A n rule p).length + st.length = 0 := this
              omega
            · have z : (koL S A n rule p ++ st).length + sA (koL S A n rule) (acc ++ [p]) 64 + (i + 1) ≤ 129 := z
              rw [List.length_append] at z
              omega
          generalize hτ2 : xm_u1 (xm_u1 (xm_u1 τ 29 7 (st.length : Int)) 29 3 ((acc.length + 1 : Nat) : Int)) 30 acc.length (p : Int) = τ2
          have f2 : gx zB σ τ2 := by rw [← hτ2]; exact (f1.u1 (by unfold zB; omega)).u1 (by unfold zB; omega)
          have hP2 := hP.gx f2 zBP
          have hK2 := hK.gx f2 zBK
          have S2 : SA τ2 st.reverse := by
            rw [← hτ2]
            refine ⟨by rw [xu11, if_neg (by omega), xu11, if_neg (by omega)]; exact SAr.1, SAr.2.eq (fun j _ => by rw [xu11, if_neg (by omega), xu11, if_neg (by omega)])⟩
          have B2 : τ2.1 29 3 = ((acc ++ [p]).length : Int) ∧ LA τ2 30 0 (acc ++ [p]) := by
            rw [← hτ2]
            refine ⟨by rw [xu11, if_neg (by omega), xu11, if_pos ⟨rfl, rfl⟩, List.length_append]; rfl, LA.app hb.2 (fun j hj => ?_) ?_⟩
            · rw [xu11, if_neg (by omega), xu11, if_neg (by omega), xu11, if_neg (by omega)]
            · rw [xu11, if_pos ⟨rfl, by omega⟩]
          have V2 : ∀ q, q < 64 → (bt (v ||| xm_shl 1 (p : Int)) q ↔ q ∈ acc ++ [p]) := by
            intro q hq
            rw [bt_or, hv q hq, bt_shl hp hq, List.mem_append, List.mem_singleton]
          -- behind the pushes
          have go : ∀ τ3, gx zT τ2 τ3 → SA τ3 (st.reverse ++ (koL S A n rule p).reverse) → ∃ σ', self τ3 rule (v ||| xm_shl 1 (p : Int)) (xm_w ((i : Int) + 1)) = some (σ', 0) ∧ gx zB σ σ' ∧ σ'.1 29 3 = ((ordW S A n rule root).length : Int) ∧ LA σ' 30 0 (ordW S A n rule root) := by
            intro τ3 hz hs
            rw [xw1 (by omega)]
            refine ih1 (τ3, v ||| xm_shl 1 (p : Int)) ⟨h, f2.tr (hz.mono zTB), ⟨?_, ?_⟩, V2, ?_⟩ (by show 129 - (i + 1) < 129 - i; omega)
            · show τ3.1 29 3 = _
              rw [hz.1 29 3 (by unfold zT; omega)]; exact B2.1
            · exact B2.2.eq (fun j _ => hz.1 30 _ (by unfold zT; omega))
            · show SA τ3 (koL S A n rule p ++ st).reverse
              rw [List.reverse_append]; exact hs
          have c3 : rule = 3 → koL S A n rule p = (kidL S A n p).reverse := fun z => by unfold koL; rw [if_neg (by omega), if_pos z]
          have c2 : rule = 2 → koL S A n rule p = kidL S A n p := fun z => by unfold koL; rw [if_neg (by omega), if_neg (by omega), if_pos z]
          have c15 : rule = 1 ∨ rule = 5 → koL S A n rule p = kidF S A n p (fun c => wMale S c) ++ kidF S A n p (fun c => ¬ wMale S c) := fun z => by unfold koL; rw [if_neg (by omega), if_neg (by omega), if_neg (by omega)]
          unfold f_X4_orderByBranches_j121 f_X4_orderByBranches_j153 f_X4_orderByBranches_j169
          by_cases k3 : rule = 3
          · rw [if_pos k3, if_pos k3]
            obtain ⟨τ3, a1, a2, a3⟩ := c_pushKids hO hA hP2 hK2 hp (w := 2) (ef := 1) (by omega) S2 (by rw [wh2, List.length_reverse]; rw [c3 k3, List.length_reverse] at cap; exact cap)
            rw [a1, Option.bind_some]
            refine go τ3 a2 ?_
            rw [wh2, if_neg (by decide)] at a3
            rw [c3 k3, List.reverse_reverse]; exact a3
          · by_cases k2 : rule = 2
            · rw [if_neg k3, if_pos k2, if_neg k3]
              obtain ⟨τ3, a1, a2, a3⟩ := c_pushKids hO hA hP2 hK2 hp (w := 2) (ef := 0) (by omega) S2 (by rw [wh2, List.length_reverse]; rw [c2 k2] at cap; exact cap)
              rw [a1, Option.bind_some]
              refine go τ3 a2 ?_
              rw [wh2, if_pos rfl] at a3
              rw [c2 k2]; exact a3
            · by_cases k0 : rule = 0
              · have hpp : isP S (p : Int) := invP.1 p List.mem_cons_self
                rw [if_neg k3, if_neg k2, if_pos k0, if_pos k0, c_isMale hO.1 hP2 hpp, Option.bind_some]
                try dsimp only
                rw [xbi]
                have c0 : koL S A n rule p = @ite _ (wMale S p) (Classical.propDecidable _) (kidF S A n p (fun c => wMale S c)) [] := by unfold koL; rw [if_pos k0]
                by_cases mp : wMale S p
                · rw [if_pos mp]
                  rw [if_pos mp] at c0
                  rw [c0] at cap
                  obtain ⟨τ3, a1, a2, a3⟩ := c_pushKids hO hA hP2 hK2 hp (w := 1) (ef := 0) (by omega) S2 (by rw [wh1, List.length_reverse, kidF_eq]; exact cap)
                  rw [a1, Option.bind_some]
                  refine go τ3 a2 ?_
                  rw [wh1, if_pos rfl, List.filter_reverse, kidF_eq] at a3
                  rw [c0]; exact a3
                · rw [if_neg mp]
                  rw [if_neg mp] at c0
                  refine go τ2 (gx.rf _ _) ?_
                  rw [c0, List.reverse_nil, List.append_nil]; exact S2
              · rw [if_neg k3, if_neg k2, if_neg k0]
                have ck := c15 (by omega)
                rw [ck, List.length_append] at cap
                obtain ⟨τ3, a1, a2, a3⟩ := c_pushKids hO hA hP2 hK2 hp (w := 0) (ef := 0) (by omega) S2 (by rw [wh0, List.length_reverse, kidF_eq]; omega)
                rw [a1, Option.bind_some]
                try dsimp only
                rw [wh0, if_pos rfl, List.filter_reverse, kidF_eq] at a3
                rw [if_neg k0]
                obtain ⟨τ4, b1, b2, b3⟩ := c_pushKids hO hA (hP2.gx a2 zTP) (hK2.gx a2 zTK) hp (w := 1) (ef := 0) (by omega) a3 (by rw [wh1, List.length_append, List.length_reverse, List.length_reverse, kidF_eq]; omega)
                rw [b1, Option.bind_some]
                refine go τ4 (a2.tr b2) ?_
                rw [wh1, if_pos rfl, List.filter_reverse, kidF_eq, List.append_assoc] at b3
                rw [ck, List.reverse_append]; exact b3
    · rw [if_neg (by omega)]
      have e : i = 129 := by omega
      subst e
      exact ⟨τ, rfl, hf, hb.1, hb.2⟩
  · show (xm_u1 _ 29 7 1).1 29 3 = ((([] : List Nat).length : Nat) : Int)
    rw [xu11, if_neg (by omega), xu11, if_neg (by omega)]; exact h3
  · show (xm_u1 _ 29 7 1).1 29 7 = _
    rw [xu11, if_pos ⟨rfl, rfl⟩]; rfl
  · intro j hj
    have hj : j < 1 := hj
    have : j = 0 := by omega
    subst this
    show (xm_u1 _ 29 7 1).1 31 0 = _
    rw [xu11, if_neg (by omega), xu11, if_pos ⟨rfl, rfl⟩]; rfl
end XB
