/-! ===== texts: what is told is read as meant ===== -/
def wdL (v : Nat) : List Int := (List.range (xm_ln.getD v 0)).map (fun (j : Nat) => xm_chr (v : Int) (j : Int))
def dgL (w : Nat) : List Int :=
  if w < 10 then [48 + ((w : Nat) : Int)]
  else if w < 100 then [48 + ((w / 10 : Nat) : Int), 48 + ((w % 10 : Nat) : Int)]
  else if w < 1000 then [48 + ((w / 100 : Nat) : Int), 48 + ((w / 10 % 10 : Nat) : Int), 48 + ((w % 10 : Nat) : Int)]
  else if w < 10000 then [48 + ((w / 1000 : Nat) : Int), 48 + ((w / 100 % 10 : Nat) : Int), 48 + ((w / 10 % 10 : Nat) : Int), 48 + ((w % 10 : Nat) : Int)]
  else [48 + ((w / 10000 : Nat) : Int), 48 + ((w / 1000 % 10 : Nat) : Int), 48 + ((w / 100 % 10 : Nat) : Int), 48 + ((w / 10 % 10 : Nat) : Int), 48 + ((w % 10 : Nat) : Int)]
/-- a part of a told record: (0, a word), (1, a number) -/
def tkL (t : Nat × Nat) : List Int := if t.1 = 0 then wdL t.2 else dgL t.2
def tkok (t : Nat × Nat) : Prop := (t.1 = 0 → t.2 < 19) ∧ (t.1 ≠ 0 → t.2 ≤ 99999)
/-- parts with a space between -/
def txL : List (Nat × Nat) → List Int
  | [] => []
  | t :: u => tkL t ++ (match u with | [] => [] | _ :: _ => 32 :: txL u)
def rsL (u : List (Nat × Nat)) : List Int := match u with | [] => [] | _ :: _ => 32 :: txL u
theorem txL_c (t : Nat × Nat) (u : List (Nat × Nat)) : txL (t :: u) = tkL t ++ rsL u := by
  cases u <;> rfl
def lB (l : List Int) (k : Nat) : Int := l.getD k 0
theorem lB_drop (l : List Int) (p j : Nat) : lB l (p + j) = (l.drop p).getD j 0 := by
  simp [lB, List.getD_eq_getElem?_getD, List.getElem?_drop]
theorem dgL_len (w : Nat) : (dgL w).length = xm_dg w := by
  unfold dgL xm_dg
  (repeat' split) <;> rfl
theorem wdL_len (v : Nat) : (wdL v).length = xm_ln.getD v 0 := by simp [wdL]
theorem wdL_at {v j : Nat} (h : j < xm_ln.getD v 0) : (wdL v).getD j 0 = xm_chr (v : Int) (j : Int) := by
  rw [wdL, List.getD_eq_getElem?_getD, List.getElem?_map, List.getElem?_range h]
  rfl
theorem wdL_let : ∀ v, v < 19 → 1 ≤ (wdL v).length ∧ ∀ x ∈ wdL v, 97 ≤ x ∧ x ≤ 122 := by decide +kernel
theorem dgL_dig {w : Nat} (h : w ≤ 99999) : ∀ x ∈ dgL w, 48 ≤ x ∧ x ≤ 57 := by
  intro x hx
  unfold dgL at hx
  (repeat' split at hx) <;> (simp only [List.mem_cons, List.not_mem_nil, or_false] at hx; omega)
theorem dgL_1 (w : Nat) : 1 ≤ (dgL w).length ∧ (dgL w).length ≤ 5 := by rw [dgL_len]; exact xm_dg_pos w
/-- letters all, or digits all -/
theorem tk_cls {t : Nat × Nat} (h : tkok t) : 1 ≤ (tkL t).length ∧ ((t.1 = 0 ∧ ∀ x ∈ tkL t, 97 ≤ x ∧ x ≤ 122) ∨ (t.1 ≠ 0 ∧ ∀ x ∈ tkL t, 48 ≤ x ∧ x ≤ 57)) := by
  unfold tkL
  by_cases e : t.1 = 0
  · rw [if_pos e]
    have := wdL_let t.2 (h.1 e)
    exact ⟨this.1, Or.inl ⟨e, this.2⟩⟩
  · rw [if_neg e]
    exact ⟨(dgL_1 _).1, Or.inr ⟨e, dgL_dig (h.2 e)⟩⟩
theorem lB_mem {l : List Int} {i : Nat} (h : i < l.length) : l.getD i 0 ∈ l := by
  rw [List.getD_eq_getElem?_getD, List.getElem?_eq_getElem h]
  exact List.getElem_mem h
theorem lB_a1 {a b : List Int} {i : Nat} (h : i < a.length) : (a ++ b).getD i 0 = a.getD i 0 := by
  simp [List.getD_eq_getElem?_getD, List.getElem?_append, h]
theorem lB_a2 {a b : List Int} {i : Nat} : (a ++ b).getD (a.length + i) 0 = b.getD i 0 := by
  rw [List.getD_eq_getElem?_getD, List.getD_eq_getElem?_getD, List.getElem?_append_right (by omega), Nat.add_sub_cancel_left]
/-- where the parts stand: from p on -/
def AtL (l : List Int) (p : Nat) (u : List (Nat × Nat)) : Prop := p ≤ l.length ∧ (l.drop p = rsL u ∨ (u ≠ [] ∧ l.drop p = txL u))
theorem tk_next {l : List Int} {p : Nat} {t : Nat × Nat} {u : List (Nat × Nat)} (h : AtL l p (t :: u)) (ht : tkok t) : skp (lB l) l.length p < l.length ∧ (∀ i, i < (tkL t).length → lB l (skp (lB l) l.length p + i) = (tkL t).getD i 0) ∧ nP (lB l) l.length p = skp (lB l) l.length p + (tkL t).length ∧ AtL l (nP (lB l) l.length p) u := by
  obtain ⟨hp, h⟩ := h
  obtain ⟨h1, hc⟩ := tk_cls ht
  have key : ∃ f, p ≤ f ∧ f ≤ l.length ∧ l.drop f = tkL t ++ rsL u ∧ ∀ k, p ≤ k → k < f → lB l k = 32 := by
    rcases h with h | ⟨-, h⟩
    · have h' : l.drop p = 32 :: txL (t :: u) := h
      have hlt : p < l.length := by
        apply Classical.byContradiction
        intro z
        rw [List.drop_eq_nil_of_le (by omega)] at h'
        cases h'
      refine ⟨p + 1, by omega, by omega, ?_, fun k k1 k2 => ?_⟩
      · rw [← txL_c, ← List.drop_drop, h']; rfl
      · have e : k = p + 0 := by omega
        rw [e, lB_drop, h']; rfl
    · exact ⟨p, Nat.le_refl _, hp, by rw [h, txL_c], fun k k1 k2 => absurd k2 (by omega)⟩
  obtain ⟨f, f1, f2, f3, f4⟩ := key
  have hlen : l.length = f + ((tkL t).length + (rsL u).length) := by
    have := congrArg List.length f3
    rw [List.length_drop, List.length_append] at this
    omega
  have hat : ∀ i, i < (tkL t).length → lB l (f + i) = (tkL t).getD i 0 := fun i hi => by rw [lB_drop, f3, lB_a1 hi]
  have hmem : ∀ i, i < (tkL t).length → lB l (f + i) ∈ tkL t := fun i hi => by rw [hat i hi]; exact lB_mem hi
  have h0 := hmem 0 (by omega)
  rw [Nat.add_zero] at h0
  have hsk : skp (lB l) l.length p = f := by
    refine run_eq f1 (by omega) f4 (fun _ => ?_)
    show ¬ lB l f = 32
    rcases hc with ⟨_, hc⟩ | ⟨_, hc⟩
    · have := hc _ h0; omega
    · have := hc _ h0; omega
  have hend : f + (tkL t).length < l.length → lB l (f + (tkL t).length) = 32 := by
    intro hlt
    have e := @lB_a2 (tkL t) (rsL u) 0
    rw [lB_drop, f3]
    rw [Nat.add_zero] at e
    rw [e]
    cases u with
    | nil => simp [rsL] at hlen; omega
    | cons a b => rfl
  have hnd : nP (lB l) l.length p = f + (tkL t).length := by
    unfold nP
    rw [hsk]
    unfold tnd
    rcases hc with ⟨_, hc⟩ | ⟨_, hc⟩
    · rw [if_pos ⟨by omega, hc _ h0⟩]
      refine run_eq (by omega) (by omega) (fun k k1 k2 => ?_) (fun hlt => ?_)
      · have := hmem (k - f) (by omega)
        rw [show f + (k - f) = k by omega] at this
        exact hc _ this
      · unfold isL
        rw [hend (by omega)]
        decide
    · rw [if_neg (fun z => by have := hc _ h0; have := z.2; unfold isL at this; omega)]
      refine run_eq (by omega) (by omega) (fun k k1 k2 => ?_) (fun hlt => ?_)
      · have := hmem (k - f) (by omega)
        rw [show f + (k - f) = k by omega] at this
        exact hc _ this
      · unfold isG
        rw [hend (by omega)]
        decide
  rw [hnd, hsk]
  refine ⟨by omega, hat, rfl, by omega, Or.inl ?_⟩
  rw [← List.drop_drop, f3, List.drop_left]
theorem tk_wd {l : List Int} {p : Nat} {t : Nat × Nat} {u : List (Nat × Nat)} (h : AtL l p (t :: u)) (ht : tkok t) (v : Nat) : wd (lB l) l.length p (v : Int) ↔ tkL t = wdL v := by
  obtain ⟨h1, h2, h3, h4⟩ := tk_next h ht
  unfold wd isW
  rw [h3]
  have es : xm_slen (v : Int) = ((wdL v).length : Int) := by rw [wdL_len]; rfl
  rw [es]
  constructor
  · rintro ⟨a, b⟩
    have el : (tkL t).length = (wdL v).length := by omega
    refine List.ext_getElem el (fun i i1 i2 => ?_)
    have := b i (by omega)
    rw [h2 i i1] at this
    have e1 : (tkL t).getD i 0 = (tkL t)[i] := by rw [List.getD_eq_getElem?_getD, List.getElem?_eq_getElem i1]; rfl
    have e2 : (wdL v).getD i 0 = (wdL v)[i] := by rw [List.getD_eq_getElem?_getD, List.getElem?_eq_getElem i2]; rfl
    rw [← e1, ← e2, this, wdL_at (by rw [wdL_len] at i2; exact i2)]
  · intro e
    refine ⟨by rw [e]; omega, fun i hi => ?_⟩
    have hi' : i < (wdL v).length := by omega
    rw [h2 i (by rw [e]; exact hi'), e, wdL_at (by rw [wdL_len] at hi'; exact hi')]
theorem nv_dg {B : Nat → Int} {f w : Nat} (hw : w ≤ 99999) (h : ∀ i, i < (dgL w).length → B (f + i) = (dgL w).getD i 0) : nv B f (dgL w).length = (w : Int) := by
  unfold dgL at h ⊢
  split
  · rename_i a
    rw [if_pos a] at h
    have h0 := h 0 (by simp)
    simp only [List.length_cons, List.length_nil, nv, List.getD_cons_zero] at h0 ⊢
    omega
  · rename_i a
    rw [if_neg a] at h
    split
    · rename_i b
      rw [if_pos b] at h
      have h0 := h 0 (by simp)
      have h1 := h 1 (by simp)
      simp only [List.length_cons, List.length_nil, nv, List.getD_cons_zero, List.getD_cons_succ] at h0 h1 ⊢
      omega
    · rename_i b
      rw [if_neg b] at h
      split
      · rename_i c
        rw [if_pos c] at h
        have h0 := h 0 (by simp)
        have h1 := h 1 (by simp)
        have h2 := h 2 (by simp)
        simp only [List.length_cons, List.length_nil, nv, List.getD_cons_zero, List.getD_cons_succ] at h0 h1 h2 ⊢
        omega
      · rename_i c
        rw [if_neg c] at h
        split
        · rename_i d
          rw [if_pos d] at h
          have h0 := h 0 (by simp)
          have h1 := h 1 (by simp)
          have h2 := h 2 (by simp)
          have h3 := h 3 (by simp)
          simp only [List.length_cons, List.length_nil, nv, List.getD_cons_zero, List.getD_cons_succ] at h0 h1 h2 h3 ⊢
          omega
        · rename_i d
          rw [if_neg d] at h
          have h0 := h 0 (by simp)
          have h1 := h 1 (by simp)
          have h2 := h 2 (by simp)
          have h3 := h 3 (by simp)
          have h4 := h 4 (by simp)
          simp only [List.length_cons, List.length_nil, nv, List.getD_cons_zero, List.getD_cons_succ] at h0 h1 h2 h3 h4 ⊢
          omega
theorem tk_num {l : List Int} {p w : Nat} {u : List (Nat × Nat)} (h : AtL l p ((1, w) :: u)) (hw : w ≤ 99999) : nok (lB l) l.length p ∧ nV (lB l) l.length p = (w : Int) := by
  have ht : tkok (1, w) := ⟨fun z => absurd z (show ¬ (1 : Nat) = 0 by decide), fun _ => hw⟩
  obtain ⟨h1, h2, h3, h4⟩ := tk_next h ht
  have e : tkL (1, w) = dgL w := rfl
  rw [e] at h2 h3
  have h5 := dgL_1 w
  refine ⟨⟨h1, ?_, by rw [h3]; omega⟩, ?_⟩
  · have h0 := h2 0 (by omega)
    rw [Nat.add_zero] at h0
    unfold isG
    rw [h0]
    exact dgL_dig hw _ (lB_mem (by omega))
  · unfold nV
    rw [h3, show skp (lB l) l.length p + (dgL w).length - skp (lB l) l.length p = (dgL w).length by omega]
    exact nv_dg hw h2
theorem at_end {l : List Int} {p : Nat} (h : AtL l p []) (w : Int) : eW (lB l) l.length p w = w := by
  have hp : p = l.length := by
    rcases h.2 with z | z
    · have := congrArg List.length z
      have e : (rsL []).length = 0 := rfl
      rw [List.length_drop, e] at this
      have := h.1
      omega
    · exact absurd rfl z.1
  unfold eW
  rw [if_neg]
  have := (skp_rg (B := lB l) (s := l.length) (p := p) h.1).1
  omega
theorem at_0 (t : Nat × Nat) (u : List (Nat × Nat)) : AtL (txL (t :: u)) 0 (t :: u) := ⟨Nat.zero_le _, Or.inr ⟨fun z => (by cases z), rfl⟩⟩
/-- how a text reads -/
def Rds (l : List Int) (K D a b c w : Int) : Prop := rdW (lB l) l.length = -9 ∧ rdK (lB l) l.length = K ∧ rdD (lB l) l.length = D ∧ rd1 (lB l) l.length = a ∧ rd2 (lB l) l.length = b ∧ rd3 (lB l) l.length = c ∧ rd4 (lB l) l.length = w
theorem lx_at {l : List Int} {p : Nat} {t : Nat × Nat} {u : List (Nat × Nat)} (h : AtL l p (t :: u)) (ht : tkok t) {W : Nat → Nat} {n i : Nat} (hi : i < n) (h1 : tkL t = wdL (W i)) (h2 : ∀ j, j < i → tkL t ≠ wdL (W j)) : lx (lB l) l.length p (fun j => ((W j : Nat) : Int)) n = i := by
  unfold lx
  exact fsx_eq (Nat.le_of_lt hi) (fun r hr z => h2 r hr ((tk_wd h ht (W r)).mp z)) (fun _ => (tk_wd h ht (W i)).mpr h1)
theorem wK_fun : wKn = fun j => ((j : Nat) : Int) := rfl
theorem wS_fun : wSx = fun j => ((9 + j : Nat) : Int) := by
  funext j; unfold wSx; omega
theorem wR_fun : wRl = fun j => ((if j = 0 then 9 else 13 + j : Nat) : Int) := by
  funext j; unfold wRl; split <;> omega
theorem wd_dif : ∀ i, i < 19 → ∀ j, j < 19 → wdL i = wdL j → i = j := by decide +kernel
theorem kd_at {l : List Int} {k : Nat} {u : List (Nat × Nat)} (h : AtL l 0 ((0, k) :: u)) (hk : k < 9) : lx (lB l) l.length 0 wKn 9 = k ∧ rdK (lB l) l.length = (k : Int) ∧ lW (lB l) l.length 0 wKn 9 (-9) = -9 := by
  have ht : tkok (0, k) := ⟨fun _ => by show k < 19; omega, fun z => absurd rfl z⟩
  have e : lx (lB l) l.length 0 wKn 9 = k := by
    rw [wK_fun]
    exact lx_at (W := fun j => j) h ht hk rfl (fun j hj z => by
      have := wd_dif k (by omega) j (by omega) z
      omega)
  refine ⟨e, ?_, ?_⟩
  · unfold rdK lA
    rw [e, if_pos hk]
  · unfold lW
    rw [e, if_pos hk]
/-- wed, dead -/
theorem rd_two {k d a q : Nat} (hk : k = 1 ∨ k = 2) (hd : d ≤ 99999) (ha : a ≤ 99999) (hq : q ≤ 99999) : Rds (txL [(0, k), (1, d), (1, a), (1, q)]) k d a q (-1) 0 := by
  have h0 := at_0 (0, k) [(1, d), (1, a), (1, q)]
  generalize txL [(0, k), (1, d), (1, a), (1, q)] = l at h0 ⊢
  have hk9 : k < 9 := by omega
  obtain ⟨k1, k2, k3⟩ := kd_at h0 hk9
  have t0 : tkok (0, k) := ⟨fun _ => by show k < 19; omega, fun z => absurd rfl z⟩
  have t1 : ∀ w, w ≤ 99999 → tkok (1, w) := fun w hw => ⟨fun z => absurd z (show ¬ (1 : Nat) = 0 by decide), fun _ => hw⟩
  have h1 := (tk_next h0 t0).2.2.2
  have h2 := (tk_next h1 (t1 d hd)).2.2.2
  have h3 := (tk_next h2 (t1 a ha)).2.2.2
  have h4 := (tk_next h3 (t1 q hq)).2.2.2
  obtain ⟨n1, v1⟩ := tk_num h1 hd
  obtain ⟨n2, v2⟩ := tk_num h2 ha
  obtain ⟨n3, v3⟩ := tk_num h3 hq
  have c12 : (k : Int) = 1 ∨ (k : Int) = 2 ∨ (k : Int) = 5 ∨ (k : Int) = 6 := by omega
  refine ⟨?_, k2, v1, ?_, ?_, ?_, ?_⟩
  · unfold rdW tlW rdP
    rw [k2, if_neg (by omega), if_pos c12, at_end h4, k3]
    unfold nW
    rw [if_pos n3, if_pos n2, if_pos n1]
  · unfold rd1 rdP
    rw [k2, if_pos (by omega)]
    exact v2
  · unfold rd2 rdP
    rw [k2, if_neg (by omega), if_pos c12]
    exact v3
  · unfold rd3
    rw [k2, if_neg (by omega)]
  · unfold rd4
    rw [k2, if_neg (by omega), if_neg (by omega)]
theorem rd_dead {d a : Nat} (hd : d ≤ 99999) (ha : a ≤ 99999) : Rds (txL [(0, 3), (1, d), (1, a)]) 3 d a (-1) (-1) 0 := by
  have h0 := at_0 (0, 3) [(1, d), (1, a)]
  generalize txL [(0, 3), (1, d), (1, a)] = l at h0 ⊢
  obtain ⟨k1, k2, k3⟩ := kd_at h0 (by decide)
  have k2 : rdK (lB l) l.length = 3 := k2
  have t0 : tkok (0, 3) := ⟨fun _ => by decide, fun z => absurd rfl z⟩
  have t1 : ∀ w, w ≤ 99999 → tkok (1, w) := fun w hw => ⟨fun z => absurd z (show ¬ (1 : Nat) = 0 by decide), fun _ => hw⟩
  have h1 := (tk_next h0 t0).2.2.2
  have h2 := (tk_next h1 (t1 d hd)).2.2.2
  have h3 := (tk_next h2 (t1 a ha)).2.2.2
  obtain ⟨n1, v1⟩ := tk_num h1 hd
  obtain ⟨n2, v2⟩ := tk_num h2 ha
  refine ⟨?_, k2, v1, ?_, ?_, ?_, ?_⟩
  · unfold rdW tlW rdP
    rw [k2, if_neg (by decide), if_neg (by decide), if_neg (by decide), at_end h3, k3]
    unfold nW
    rw [if_pos n2, if_pos n1]
  · unfold rd1 rdP
    rw [k2, if_pos (by decide)]
    exact v2
  · unfold rd2
    rw [k2, if_neg (by decide), if_neg (by decide), if_neg (by decide)]
  · unfold rd3
    rw [k2, if_neg (by decide)]
  · unfold rd4
    rw [k2, if_neg (by decide), if_neg (by decide)]
theorem rd_title {d a i : Nat} (hd : d ≤ 99999) (ha : a ≤ 99999) (hi : i < 6) : Rds (txL [(0, 4), (1, d), (1, a), (0, if i = 0 then 9 else 13 + i)]) 4 d a (-1) (-1) i := by
  have hr : tkok (0, if i = 0 then 9 else 13 + i) := ⟨fun _ => by show (if i = 0 then 9 else 13 + i) < 19; split <;> omega, fun z => absurd rfl z⟩
  have hrl : (if i = 0 then 9 else 13 + i) < 19 := hr.1 rfl
  generalize hw : (if i = 0 then 9 else 13 + i) = rw_ at hr hrl ⊢
  have h0 := at_0 (0, 4) [(1, d), (1, a), (0, rw_)]
  generalize txL [(0, 4), (1, d), (1, a), (0, rw_)] = l at h0 ⊢
  obtain ⟨k1, k2, k3⟩ := kd_at h0 (by decide)
  have k2 : rdK (lB l) l.length = 4 := k2
  have t0 : tkok (0, 4) := ⟨fun _ => by decide, fun z => absurd rfl z⟩
  have t1 : ∀ w, w ≤ 99999 → tkok (1, w) := fun w hw => ⟨fun z => absurd z (show ¬ (1 : Nat) = 0 by decide), fun _ => hw⟩
  have h1 := (tk_next h0 t0).2.2.2
  have h2 := (tk_next h1 (t1 d hd)).2.2.2
  have h3 := (tk_next h2 (t1 a ha)).2.2.2
  have h4 := (tk_next h3 hr).2.2.2
  obtain ⟨n1, v1⟩ := tk_num h1 hd
  obtain ⟨n2, v2⟩ := tk_num h2 ha
  have el : lx (lB l) l.length (nP (lB l) l.length (nP (lB l) l.length (nP (lB l) l.length 0))) wRl 6 = i := by
    rw [wR_fun]
    refine lx_at (W := fun j => if j = 0 then 9 else 13 + j) h3 hr hi (by show wdL rw_ = wdL (if i = 0 then 9 else 13 + i); rw [hw]) (fun j hj z => ?_)
    have z' : wdL rw_ = wdL (if j = 0 then 9 else 13 + j) := z
    have := wd_dif rw_ hrl _ (by split <;> omega) z'
    rw [← hw] at this
    split at this <;> split at this <;> omega
  refine ⟨?_, k2, v1, ?_, ?_, ?_, ?_⟩
  · unfold rdW tlW rdP
    rw [k2, if_neg (by decide), if_neg (by decide), if_pos rfl, at_end h4, k3]
    unfold lW
    rw [el, if_pos hi]
    unfold nW
    rw [if_pos n2, if_pos n1]
  · unfold rd1 rdP
    rw [k2, if_pos (by decide)]
    exact v2
  · unfold rd2
    rw [k2, if_neg (by decide), if_neg (by decide), if_neg (by decide)]
  · unfold rd3
    rw [k2, if_neg (by decide)]
  · unfold rd4 rdP
    rw [k2, if_neg (by decide), if_pos rfl, el]
/-- a parent: none, or a number -/
def prT (f : Int) : Nat × Nat := if f < 0 then (0, 12) else (1, f.toNat)
theorem pr_at {l : List Int} {p : Nat} {f : Int} {u : List (Nat × Nat)} (hf : -1 ≤ f ∧ f ≤ 99999) (h : AtL l p (prT f :: u)) : tkok (prT f) ∧ (∀ w, pW (lB l) l.length p w = w) ∧ pV (lB l) l.length p = f := by
  unfold prT at h ⊢
  unfold pW pV
  by_cases hn : f < 0
  · rw [if_pos hn] at h ⊢
    have ht : tkok (0, 12) := ⟨fun _ => by decide, fun z => absurd rfl z⟩
    have hw : wd (lB l) l.length p 12 := (tk_wd h ht 12).mpr rfl
    exact ⟨ht, fun w => if_pos hw, by rw [if_pos hw]; omega⟩
  · rw [if_neg hn] at h ⊢
    have ht : tkok (1, f.toNat) := ⟨fun z => absurd z (show ¬ (1 : Nat) = 0 by decide), fun _ => by show f.toNat ≤ 99999; omega⟩
    obtain ⟨n1, v1⟩ := tk_num h (by omega)
    have hw : ¬ wd (lB l) l.length p 12 := fun z => by
      have e := (tk_wd h ht 12).mp z
      have m1 : (dgL f.toNat).getD 0 0 ∈ dgL f.toNat := lB_mem (by have := dgL_1 f.toNat; omega)
      have e' : dgL f.toNat = wdL 12 := e
      have a1 := dgL_dig (w := f.toNat) (by omega) _ m1
      rw [e'] at a1 m1
      have a2 := (wdL_let 12 (by decide)).2 _ m1
      omega
    refine ⟨ht, fun w => ?_, ?_⟩
    · rw [if_neg hw]
      unfold nW
      rw [if_pos n1]
    · rw [if_neg hw, v1]
      omega
theorem rd_born {d : Nat} {s f m : Int} (hd : d ≤ 99999) (hf : -1 ≤ f ∧ f ≤ 99999) (hm : -1 ≤ m ∧ m ≤ 99999) (hs : 0 ≤ s ∧ s ≤ 1) : Rds (txL [(0, 0), (1, d), (0, if s = 0 then 10 else 9), (0, 11), prT f, (0, 13), prT m]) 0 d (-1) f m s := by
  have hx : (if s = 0 then 10 else 9 : Nat) = 9 ∨ (if s = 0 then 10 else 9 : Nat) = 10 := by split <;> simp
  have hx0 : (if s = 0 then 10 else 9 : Nat) = 9 ↔ s = 1 := by split <;> omega
  generalize (if s = 0 then 10 else 9 : Nat) = x at hx hx0 ⊢
  have h0 := at_0 (0, 0) [(1, d), (0, x), (0, 11), prT f, (0, 13), prT m]
  generalize txL [(0, 0), (1, d), (0, x), (0, 11), prT f, (0, 13), prT m] = l at h0 ⊢
  obtain ⟨k1, k2, k3⟩ := kd_at h0 (by decide)
  have k2 : rdK (lB l) l.length = 0 := k2
  have tw : ∀ v, v < 19 → tkok (0, v) := fun v hv => ⟨fun _ => hv, fun z => absurd rfl z⟩
  have t1 : ∀ w, w ≤ 99999 → tkok (1, w) := fun w hw => ⟨fun z => absurd z (show ¬ (1 : Nat) = 0 by decide), fun _ => hw⟩
  have h1 := (tk_next h0 (tw 0 (by decide))).2.2.2
  have h2 := (tk_next h1 (t1 d hd)).2.2.2
  have h3 := (tk_next h2 (tw x (by omega))).2.2.2
  have h4 := (tk_next h3 (tw 11 (by decide))).2.2.2
  obtain ⟨p1, p2, p3⟩ := pr_at hf h4
  have h5 := (tk_next h4 p1).2.2.2
  have h6 := (tk_next h5 (tw 13 (by decide))).2.2.2
  obtain ⟨q1, q2, q3⟩ := pr_at hm h6
  have h7 := (tk_next h6 q1).2.2.2
  obtain ⟨n1, v1⟩ := tk_num h1 hd
  have wx : ∀ v : Nat, v < 19 → (wd (lB l) l.length (nP (lB l) l.length (nP (lB l) l.length 0)) (v : Int) ↔ x = v) := fun v hv => ⟨fun z => wd_dif x (by omega) v hv ((tk_wd h2 (tw x (by omega)) v).mp z), fun z => (tk_wd h2 (tw x (by omega)) v).mpr (by rw [z]; rfl)⟩
  have el : lx (lB l) l.length (nP (lB l) l.length (nP (lB l) l.length 0)) wSx 2 < 2 := lx_sex.mpr (by
    rcases hx with z | z
    · exact Or.inl ((wx 9 (by decide)).mpr z)
    · exact Or.inr ((wx 10 (by decide)).mpr z))
  have w11 : wd (lB l) l.length (nP (lB l) l.length (nP (lB l) l.length (nP (lB l) l.length 0))) 11 := (tk_wd h3 (tw 11 (by decide)) 11).mpr rfl
  have w13 : wd (lB l) l.length (nP (lB l) l.length (nP (lB l) l.length (nP (lB l) l.length (nP (lB l) l.length (nP (lB l) l.length 0))))) 13 := (tk_wd h5 (tw 13 (by decide)) 13).mpr rfl
  refine ⟨?_, k2, v1, ?_, ?_, ?_, ?_⟩
  · unfold rdW tlW rdP
    rw [k2, if_pos rfl, at_end h7, k3, q2]
    unfold dW
    rw [if_pos w13, p2, if_pos w11]
    unfold lW
    rw [if_pos el]
    unfold nW
    rw [if_pos n1]
  · unfold rd1
    rw [k2, if_neg (by decide)]
  · unfold rd2 rdP
    rw [k2, if_pos rfl, p3]
  · unfold rd3 rdP
    rw [k2, if_pos rfl, q3]
  · unfold rd4 rdP
    rw [k2, if_pos rfl]
    by_cases h9 : x = 9
    · have z : wd (lB l) l.length (nP (lB l) l.length (nP (lB l) l.length 0)) 9 := (wx 9 (by decide)).mpr h9
      rw [xb_pos z]
      exact (hx0.mp h9).symm
    · have z : ¬ wd (lB l) l.length (nP (lB l) l.length (nP (lB l) l.length 0)) 9 := fun z => h9 ((wx 9 (by decide)).mp z)
      rw [xb_neg z]
      have : ¬ s = 1 := fun z => h9 (hx0.mpr z)
      omega
