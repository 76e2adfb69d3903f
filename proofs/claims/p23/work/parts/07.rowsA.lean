/-! ===== rows of the abstract machine: instructions that touch no cell ===== -/
section XG
variable {X : xm_X} {own : String} {cc : ByteArray} {nL fr mc ms kc sc : Nat} {r r1 r2 : Option xm_Out} {σ : xm_Mem} {pc : Nat} {l l' : List (Nat × Value)} {st : List Value}
theorem xg_none : xm_V X kc sc none σ pc l st := fun o ho => by cases ho
theorem xg_ite {c : Prop} [Decidable c] (k1 : c → xm_V X kc sc r1 σ pc l st) (k2 : ¬ c → xm_V X kc sc r2 σ pc l st) : xm_V X kc sc (if c then r1 else r2) σ pc l st := by
  by_cases h : c
  · rw [if_pos h]; exact k1 h
  · rw [if_neg h]; exact k2 h
theorem xg_guard {c : Prop} [Decidable c] (k1 : c → xm_V X kc sc r1 σ pc l st) : xm_V X kc sc (if c then r1 else none) σ pc l st := xg_ite k1 (fun _ => xg_none)
theorem xg_pick (ks : List Nat) (h : lv_pick l ks = l') (k : xm_V X kc sc r σ pc l' st) : xm_V X kc sc r σ pc l st := fun o ho H locs ls hR hS hL => k o ho H locs ls hR hS (lv_sub hL ks h)
theorem xg_stk {st' : List Value} (h : st = st') (k : xm_V X kc sc r σ pc l st') : xm_V X kc sc r σ pc l st := by subst h; exact k
def xm_get (l : List (Nat × Value)) (i : Nat) : Option Value := l.lookup i
theorem xm_get_at {ls : Array Slot} {n i : Nat} {l : List (Nat × Value)} {v : Value} (h : lv_has ls n l) (hg : xm_get l i = some v) : ls[i]? = some (.val v) := by
  refine h.2.2 (i, v) ?_
  clear h
  unfold xm_get at hg
  induction l with
  | nil => cases hg
  | cons q t ih =>
    obtain ⟨a, b⟩ := q
    by_cases e : i = a
    · subst e
      simp [List.lookup] at hg
      subst hg
      exact List.mem_cons_self
    · have e2 : (i == a) = false := by simp [e]
      simp only [List.lookup, e2] at hg
      exact List.mem_cons_of_mem _ (ih hg)
theorem xg_iconst (hC : xm_C X own cc nL fr mc ms) {n : Int} (hd : decode cc pc = .ok (.iconst n, 1)) (k : xm_V X kc sc r σ (pc + 1) l (.int (xm_J n) :: st)) : xm_V X kc sc r σ pc l st := fun o ho H locs ls hR hS hL => lv_iconst hC.1 hC.2.1 hd rfl (k o ho H locs ls hR hS hL)
theorem xg_bipush (hC : xm_C X own cc nL fr mc ms) {n : Int} (hd : decode cc pc = .ok (.bipush n, 2)) (hv : (Int8.ofInt n).toInt32 = xm_J n) (k : xm_V X kc sc r σ (pc + 2) l (.int (xm_J n) :: st)) : xm_V X kc sc r σ pc l st := fun o ho H locs ls hR hS hL => lv_bipush hC.1 hC.2.1 hd hv (k o ho H locs ls hR hS hL)
theorem xg_sipush (hC : xm_C X own cc nL fr mc ms) {n : Int} (hd : decode cc pc = .ok (.sipush n, 3)) (hv : (Int16.ofInt n).toInt32 = xm_J n) (k : xm_V X kc sc r σ (pc + 3) l (.int (xm_J n) :: st)) : xm_V X kc sc r σ pc l st := fun o ho H locs ls hR hS hL => lv_sipush hC.1 hC.2.1 hd hv (k o ho H locs ls hR hS hL)
theorem xg_ldc (hC : xm_C X own cc nL fr mc ms) {n : Int} {i : Nat} (hd : decode cc pc = .ok (.ldc i, 2)) (hm : Cond.constant own i (xm_J n) ∈ xm_tb) (k : xm_V X kc sc r σ (pc + 2) l (.int (xm_J n) :: st)) : xm_V X kc sc r σ pc l st := fun o ho H locs ls hR hS hL => lv_ldc hC.1 hC.2.1 hC.2.2.2.1 (hC.2.2.2.2.1 _ hm) hd (k o ho H locs ls hR hS hL)
theorem xg_ldcw (hC : xm_C X own cc nL fr mc ms) {n : Int} {i : Nat} (hd : decode cc pc = .ok (.ldc_w i, 3)) (hm : Cond.constant own i (xm_J n) ∈ xm_tb) (k : xm_V X kc sc r σ (pc + 3) l (.int (xm_J n) :: st)) : xm_V X kc sc r σ pc l st := fun o ho H locs ls hR hS hL => lv_ldcw hC.1 hC.2.1 hC.2.2.2.1 (hC.2.2.2.2.1 _ hm) hd (k o ho H locs ls hR hS hL)
theorem xg_ldc2 (hC : xm_C X own cc nL fr mc ms) {n : Int64} {i : Nat} (hd : decode cc pc = .ok (.ldc2_w i, 3)) (hm : Cond.constantLong own i n ∈ xm_tb) (k : xm_V X kc sc r σ (pc + 3) l (.long n :: st)) : xm_V X kc sc r σ pc l st := fun o ho H locs ls hR hS hL => lv_ldc2 hC.1 hC.2.1 hC.2.2.2.1 (hC.2.2.2.2.1 _ hm) hd (k o ho H locs ls hR hS hL)
theorem xg_lconst (hC : xm_C X own cc nL fr mc ms) {n : Fin 2} {v : Int64} (hd : decode cc pc = .ok (.lconst n, 1)) (hv : Int64.ofNat (n : Nat) = v) (k : xm_V X kc sc r σ (pc + 1) l (.long v :: st)) : xm_V X kc sc r σ pc l st := fun o ho H locs ls hR hS hL => lv_lconst hC.1 hC.2.1 hd hv (k o ho H locs ls hR hS hL)
theorem xg_null (hC : xm_C X own cc nL fr mc ms)  (hd : decode cc pc = .ok (.aconst_null, 1)) (k : xm_V X kc sc r σ (pc + 1) l (xm_rf (xx_G X) 0 :: st)) : xm_V X kc sc r σ pc l st := fun o ho H locs ls hR hS hL => lv_null hC.1 hC.2.1 hd (k o ho H locs ls hR hS hL)
theorem xg_iload (hC : xm_C X own cc nL fr mc ms) {i : Nat} {x : Int32} (hd : decode cc pc = .ok (.iload i, 2)) (hl : xm_get l i = some (.int x)) (k : xm_V X kc sc r σ (pc + 2) l (.int x :: st)) : xm_V X kc sc r σ pc l st := fun o ho H locs ls hR hS hL => lv_iload hC.1 hC.2.1 hd (xm_get_at hL hl) (k o ho H locs ls hR hS hL)
theorem xg_iload_n (hC : xm_C X own cc nL fr mc ms) {n : Fin 4} {x : Int32} (hd : decode cc pc = .ok (.iload_n n, 1)) (hl : xm_get l (n : Nat) = some (.int x)) (k : xm_V X kc sc r σ (pc + 1) l (.int x :: st)) : xm_V X kc sc r σ pc l st := fun o ho H locs ls hR hS hL => lv_iload_n hC.1 hC.2.1 hd rfl (xm_get_at hL hl) (k o ho H locs ls hR hS hL)
theorem xg_aload (hC : xm_C X own cc nL fr mc ms) {i : Nat} {x : Nat} (hd : decode cc pc = .ok (.aload i, 2)) (hl : xm_get l i = some (.ref x)) (k : xm_V X kc sc r σ (pc + 2) l (.ref x :: st)) : xm_V X kc sc r σ pc l st := fun o ho H locs ls hR hS hL => lv_aload hC.1 hC.2.1 hd (xm_get_at hL hl) (k o ho H locs ls hR hS hL)
theorem xg_aload_n (hC : xm_C X own cc nL fr mc ms) {n : Fin 4} {x : Nat} (hd : decode cc pc = .ok (.aload_n n, 1)) (hl : xm_get l (n : Nat) = some (.ref x)) (k : xm_V X kc sc r σ (pc + 1) l (.ref x :: st)) : xm_V X kc sc r σ pc l st := fun o ho H locs ls hR hS hL => lv_aload_n hC.1 hC.2.1 hd rfl (xm_get_at hL hl) (k o ho H locs ls hR hS hL)
theorem xg_lload (hC : xm_C X own cc nL fr mc ms) {i : Nat} {x : Int64} (hd : decode cc pc = .ok (.lload i, 2)) (hl : xm_get l i = some (.long x)) (k : xm_V X kc sc r σ (pc + 2) l (.long x :: st)) : xm_V X kc sc r σ pc l st := fun o ho H locs ls hR hS hL => lv_lload hC.1 hC.2.1 hd (xm_get_at hL hl) (k o ho H locs ls hR hS hL)
theorem xg_lload_n (hC : xm_C X own cc nL fr mc ms) {n : Fin 4} {x : Int64} (hd : decode cc pc = .ok (.lload_n n, 1)) (hl : xm_get l (n : Nat) = some (.long x)) (k : xm_V X kc sc r σ (pc + 1) l (.long x :: st)) : xm_V X kc sc r σ pc l st := fun o ho H locs ls hR hS hL => lv_lload_n hC.1 hC.2.1 hd rfl (xm_get_at hL hl) (k o ho H locs ls hR hS hL)
theorem xg_rload (hC : xm_C X own cc nL fr mc ms) {i : Nat} {v : Int} (hd : decode cc pc = .ok (.aload i, 2)) (hl : xm_get l i = some (xm_rf (xx_G X) v)) (k : xm_V X kc sc r σ (pc + 2) l (xm_rf (xx_G X) v :: st)) : xm_V X kc sc r σ pc l st := by
  intro o ho H locs ls hR hS hL
  have hk := k o ho H locs ls hR hS hL
  have hz := xm_get_at hL hl
  unfold xm_rf at hk hz
  cases hon : xm_on (xx_G X) v with
  | none =>
    rw [hon] at hk hz
    exact lv_aloadN hC.1 hC.2.1 hd hz hk
  | some a =>
    rw [hon] at hk hz
    exact lv_aload hC.1 hC.2.1 hd hz hk
theorem xg_rload_n (hC : xm_C X own cc nL fr mc ms) {n : Fin 4} {v : Int} (hd : decode cc pc = .ok (.aload_n n, 1)) (hl : xm_get l (n : Nat) = some (xm_rf (xx_G X) v)) (k : xm_V X kc sc r σ (pc + 1) l (xm_rf (xx_G X) v :: st)) : xm_V X kc sc r σ pc l st := by
  intro o ho H locs ls hR hS hL
  have hk := k o ho H locs ls hR hS hL
  have hz := xm_get_at hL hl
  unfold xm_rf at hk hz
  cases hon : xm_on (xx_G X) v with
  | none =>
    rw [hon] at hk hz
    exact lv_aload_nN hC.1 hC.2.1 hd rfl hz hk
  | some a =>
    rw [hon] at hk hz
    exact lv_aload_n hC.1 hC.2.1 hd rfl hz hk
theorem xg_istore (hC : xm_C X own cc nL fr mc ms) {i : Nat} {x : Int32} (hd : decode cc pc = .ok (.istore i, 2)) (hn : i < nL) (hl : (i, Value.int x) :: l.filter (fun q => !(q.1 == i) && !(q.1 + 1 == i && q.2.category == 2)) = l') (k : xm_V X kc sc r σ (pc + 2) l' st) : xm_V X kc sc r σ pc l (.int x :: st) := fun o ho H locs ls hR hS hL => lv_istore hC.1 hC.2.1 hd hL (by rw [hC.2.2.1]; exact hn) hl (fun ls' hL' => k o ho H locs ls' hR hS hL')
theorem xg_istore_n (hC : xm_C X own cc nL fr mc ms) {n : Fin 4} {x : Int32} (hd : decode cc pc = .ok (.istore_n n, 1)) (hn : (n : Nat) < nL) (hl : ((n : Nat), Value.int x) :: l.filter (fun q => !(q.1 == (n : Nat)) && !(q.1 + 1 == (n : Nat) && q.2.category == 2)) = l') (k : xm_V X kc sc r σ (pc + 1) l' st) : xm_V X kc sc r σ pc l (.int x :: st) := fun o ho H locs ls hR hS hL => lv_istore_n hC.1 hC.2.1 hd rfl hL (by rw [hC.2.2.1]; exact hn) hl (fun ls' hL' => k o ho H locs ls' hR hS hL')
theorem xg_astore (hC : xm_C X own cc nL fr mc ms) {i : Nat} {x : Nat} (hd : decode cc pc = .ok (.astore i, 2)) (hn : i < nL) (hl : (i, Value.ref x) :: l.filter (fun q => !(q.1 == i) && !(q.1 + 1 == i && q.2.category == 2)) = l') (k : xm_V X kc sc r σ (pc + 2) l' st) : xm_V X kc sc r σ pc l (.ref x :: st) := fun o ho H locs ls hR hS hL => lv_astore hC.1 hC.2.1 hd hL (by rw [hC.2.2.1]; exact hn) hl (fun ls' hL' => k o ho H locs ls' hR hS hL')
theorem xg_astore_n (hC : xm_C X own cc nL fr mc ms) {n : Fin 4} {x : Nat} (hd : decode cc pc = .ok (.astore_n n, 1)) (hn : (n : Nat) < nL) (hl : ((n : Nat), Value.ref x) :: l.filter (fun q => !(q.1 == (n : Nat)) && !(q.1 + 1 == (n : Nat) && q.2.category == 2)) = l') (k : xm_V X kc sc r σ (pc + 1) l' st) : xm_V X kc sc r σ pc l (.ref x :: st) := fun o ho H locs ls hR hS hL => lv_astore_n hC.1 hC.2.1 hd rfl hL (by rw [hC.2.2.1]; exact hn) hl (fun ls' hL' => k o ho H locs ls' hR hS hL')
theorem xg_lstore (hC : xm_C X own cc nL fr mc ms) {i : Nat} {x : Int64} (hd : decode cc pc = .ok (.lstore i, 2)) (hn : i + 1 < nL) (hl : (i, Value.long x) :: l.filter (fun q => !(q.1 == i) && (!(q.1 == i + 1) && !(q.1 + 1 == i && q.2.category == 2))) = l') (k : xm_V X kc sc r σ (pc + 2) l' st) : xm_V X kc sc r σ pc l (.long x :: st) := fun o ho H locs ls hR hS hL => lv_lstore hC.1 hC.2.1 hd hL (by rw [hC.2.2.1]; exact hn) hl (fun ls' hL' => k o ho H locs ls' hR hS hL')
theorem xg_lstore_n (hC : xm_C X own cc nL fr mc ms) {n : Fin 4} {x : Int64} (hd : decode cc pc = .ok (.lstore_n n, 1)) (hn : (n : Nat) + 1 < nL) (hl : ((n : Nat), Value.long x) :: l.filter (fun q => !(q.1 == (n : Nat)) && (!(q.1 == (n : Nat) + 1) && !(q.1 + 1 == (n : Nat) && q.2.category == 2))) = l') (k : xm_V X kc sc r σ (pc + 1) l' st) : xm_V X kc sc r σ pc l (.long x :: st) := fun o ho H locs ls hR hS hL => lv_lstore_n hC.1 hC.2.1 hd rfl hL (by rw [hC.2.2.1]; exact hn) hl (fun ls' hL' => k o ho H locs ls' hR hS hL')
theorem xg_rstore (hC : xm_C X own cc nL fr mc ms) {i : Nat} {v : Int} (hd : decode cc pc = .ok (.astore i, 2)) (hn : i < nL) (hl : (i, xm_rf (xx_G X) v) :: l.filter (fun q => !(q.1 == i) && !(q.1 + 1 == i && q.2.category == 2)) = l') (k : xm_V X kc sc r σ (pc + 2) l' st) : xm_V X kc sc r σ pc l (xm_rf (xx_G X) v :: st) := by
  intro o ho H locs ls hR hS hL
  unfold xm_rf at hl ⊢
  cases hon : xm_on (xx_G X) v with
  | none =>
    rw [hon] at hl
    exact lv_astoreN hC.1 hC.2.1 hd hL (by rw [hC.2.2.1]; exact hn) hl (fun ls' hL' => k o ho H locs ls' hR hS hL')
  | some a =>
    rw [hon] at hl
    exact lv_astore hC.1 hC.2.1 hd hL (by rw [hC.2.2.1]; exact hn) hl (fun ls' hL' => k o ho H locs ls' hR hS hL')
theorem xg_rstore_n (hC : xm_C X own cc nL fr mc ms) {n : Fin 4} {v : Int} (hd : decode cc pc = .ok (.astore_n n, 1)) (hn : (n : Nat) < nL) (hl : ((n : Nat), xm_rf (xx_G X) v) :: l.filter (fun q => !(q.1 == (n : Nat)) && !(q.1 + 1 == (n : Nat) && q.2.category == 2)) = l') (k : xm_V X kc sc r σ (pc + 1) l' st) : xm_V X kc sc r σ pc l (xm_rf (xx_G X) v :: st) := by
  intro o ho H locs ls hR hS hL
  unfold xm_rf at hl ⊢
  cases hon : xm_on (xx_G X) v with
  | none =>
    rw [hon] at hl
    exact lv_astore_nN hC.1 hC.2.1 hd rfl hL (by rw [hC.2.2.1]; exact hn) hl (fun ls' hL' => k o ho H locs ls' hR hS hL')
  | some a =>
    rw [hon] at hl
    exact lv_astore_n hC.1 hC.2.1 hd rfl hL (by rw [hC.2.2.1]; exact hn) hl (fun ls' hL' => k o ho H locs ls' hR hS hL')
theorem xg_iinc (hC : xm_C X own cc nL fr mc ms) {i : Nat} {n : Int} {x : Int} (hd : decode cc pc = .ok (.iinc i n, 3)) (hi : i < nL) (j : Nat) (hj : l[j]? = some (i, Value.int (xm_J x))) (hl : (i, Value.int (xm_J (xm_w (x + n)))) :: l.filter (fun q => !(q.1 == i) && !(q.1 + 1 == i && q.2.category == 2)) = l') (k : xm_V X kc sc r σ (pc + 3) l' st) : xm_V X kc sc r σ pc l st := by
  intro o ho H locs ls hR hS hL
  exact lv_iinc hC.1 hC.2.1 hd hL hj (xm_J_add x n) (by rw [hC.2.2.1]; exact hi) hl (fun ls' hL' => k o ho H locs ls' hR hS hL')
theorem xg_dup (hC : xm_C X own cc nL fr mc ms) {va : Value} (hd : decode cc pc = .ok (.dup, 1)) (hv : va.category = 1) (k : xm_V X kc sc r σ (pc + 1) l (va :: va :: st)) : xm_V X kc sc r σ pc l (va :: st) := fun o ho H locs ls hR hS hL => lv_dup hC.1 hC.2.1 hd hv (k o ho H locs ls hR hS hL)
theorem xg_dup_x1 (hC : xm_C X own cc nL fr mc ms) {va vb : Value} (hd : decode cc pc = .ok (.dup_x1, 1)) (hv : va.category = 1) (hv2 : vb.category = 1) (k : xm_V X kc sc r σ (pc + 1) l (va :: vb :: va :: st)) : xm_V X kc sc r σ pc l (va :: vb :: st) := fun o ho H locs ls hR hS hL => lv_dup_x1 hC.1 hC.2.1 hd hv hv2 (k o ho H locs ls hR hS hL)
theorem xg_dup2 (hC : xm_C X own cc nL fr mc ms) {va vb : Value} (hd : decode cc pc = .ok (.dup2, 1)) (hv : va.category = 1) (hv2 : vb.category = 1) (k : xm_V X kc sc r σ (pc + 1) l (va :: vb :: va :: vb :: st)) : xm_V X kc sc r σ pc l (va :: vb :: st) := fun o ho H locs ls hR hS hL => lv_dup2_11 hC.1 hC.2.1 hd hv hv2 (k o ho H locs ls hR hS hL)
theorem xg_pop (hC : xm_C X own cc nL fr mc ms) {va : Value} (hd : decode cc pc = .ok (.pop, 1)) (hv : va.category = 1) (k : xm_V X kc sc r σ (pc + 1) l st) : xm_V X kc sc r σ pc l (va :: st) := fun o ho H locs ls hR hS hL => lv_pop hC.1 hC.2.1 hd hv (k o ho H locs ls hR hS hL)
theorem xm_rf_cat {Γ : xm_Gm} {v : Int} : (xm_rf Γ v).category = 1 := by
  unfold xm_rf
  cases xm_on Γ v <;> rfl
theorem xg_iadd (hC : xm_C X own cc nL fr mc ms) {a b : Int} (hd : decode cc pc = .ok (.iadd, 1)) (k : xm_V X kc sc r σ (pc + 1) l (.int (xm_J (xm_w (a + b))) :: st)) : xm_V X kc sc r σ pc l (.int (xm_J b) :: .int (xm_J a) :: st) := fun o ho H locs ls hR hS hL => lv_iadd hC.1 hC.2.1 hd (by rw [xm_J_add]; exact k o ho H locs ls hR hS hL)
theorem xg_isub (hC : xm_C X own cc nL fr mc ms) {a b : Int} (hd : decode cc pc = .ok (.isub, 1)) (k : xm_V X kc sc r σ (pc + 1) l (.int (xm_J (xm_w (a - b))) :: st)) : xm_V X kc sc r σ pc l (.int (xm_J b) :: .int (xm_J a) :: st) := fun o ho H locs ls hR hS hL => lv_isub hC.1 hC.2.1 hd (by rw [xm_J_sub]; exact k o ho H locs ls hR hS hL)
theorem xg_imul (hC : xm_C X own cc nL fr mc ms) {a b : Int} (hd : decode cc pc = .ok (.imul, 1)) (k : xm_V X kc sc r σ (pc + 1) l (.int (xm_J (xm_w (a * b))) :: st)) : xm_V X kc sc r σ pc l (.int (xm_J b) :: .int (xm_J a) :: st) := fun o ho H locs ls hR hS hL => lv_imul hC.1 hC.2.1 hd (by rw [xm_J_mul]; exact k o ho H locs ls hR hS hL)
/-- ints, bit by bit -/
def xm_and (a b : Int) : Int := (xm_J a &&& xm_J b).toInt
def xm_shr (a b : Int) : Int := (xm_J a >>> (xm_J b &&& 31)).toInt
def xm_rem (a b : Int) : Int := (xm_J a - xm_J a / xm_J b * xm_J b).toInt
def xm_shl (x : Int64) (n : Int) : Int64 := x <<< ((xm_J n).toInt64 &&& 63)
def xm_lc (x y : Int64) : Int := (lg_cmp x y).toInt
theorem xm_and_in (a b : Int) : xm_in (xm_and a b) := xm_in_toInt _
theorem xm_shr_in (a b : Int) : xm_in (xm_shr a b) := xm_in_toInt _
theorem xm_rem_in (a b : Int) : xm_in (xm_rem a b) := xm_in_toInt _
theorem xm_lc_in (a b : Int64) : xm_in (xm_lc a b) := xm_in_toInt _
theorem xg_iand (hC : xm_C X own cc nL fr mc ms) {a b : Int} (hd : decode cc pc = .ok (.iand, 1)) (k : xm_V X kc sc r σ (pc + 1) l (.int (xm_J (xm_and a b)) :: st)) : xm_V X kc sc r σ pc l (.int (xm_J b) :: .int (xm_J a) :: st) := fun o ho H locs ls hR hS hL => lv_iand hC.1 hC.2.1 hd (by have hz := k o ho H locs ls hR hS hL; rwa [xm_and, xm_J_of] at hz)
theorem xg_ishr (hC : xm_C X own cc nL fr mc ms) {a b : Int} (hd : decode cc pc = .ok (.ishr, 1)) (k : xm_V X kc sc r σ (pc + 1) l (.int (xm_J (xm_shr a b)) :: st)) : xm_V X kc sc r σ pc l (.int (xm_J b) :: .int (xm_J a) :: st) := fun o ho H locs ls hR hS hL => lv_ishr hC.1 hC.2.1 hd (by have hz := k o ho H locs ls hR hS hL; rwa [xm_shr, xm_J_of] at hz)
def xm_or (a b : Int) : Int := (xm_J a ||| xm_J b).toInt
def xm_shli (a b : Int) : Int := (xm_J a <<< (xm_J b &&& 31)).toInt
def xm_neg (a : Int) : Int := (- xm_J a).toInt
def xm_div (a b : Int) : Int := (xm_J a / xm_J b).toInt
theorem xm_or_in (a b : Int) : xm_in (xm_or a b) := xm_in_toInt _
theorem xm_shli_in (a b : Int) : xm_in (xm_shli a b) := xm_in_toInt _
theorem xm_neg_in (a : Int) : xm_in (xm_neg a) := xm_in_toInt _
theorem xm_div_in (a b : Int) : xm_in (xm_div a b) := xm_in_toInt _
theorem xg_ior (hC : xm_C X own cc nL fr mc ms) {a b : Int} (hd : decode cc pc = .ok (.ior, 1)) (k : xm_V X kc sc r σ (pc + 1) l (.int (xm_J (xm_or a b)) :: st)) : xm_V X kc sc r σ pc l (.int (xm_J b) :: .int (xm_J a) :: st) := fun o ho H locs ls hR hS hL => lv_ior hC.1 hC.2.1 hd (by have hz := k o ho H locs ls hR hS hL; rwa [xm_or, xm_J_of] at hz)
theorem xg_ishl (hC : xm_C X own cc nL fr mc ms) {a b : Int} (hd : decode cc pc = .ok (.ishl, 1)) (k : xm_V X kc sc r σ (pc + 1) l (.int (xm_J (xm_shli a b)) :: st)) : xm_V X kc sc r σ pc l (.int (xm_J b) :: .int (xm_J a) :: st) := fun o ho H locs ls hR hS hL => lv_ishl hC.1 hC.2.1 hd (by have hz := k o ho H locs ls hR hS hL; rwa [xm_shli, xm_J_of] at hz)
theorem xg_ineg (hC : xm_C X own cc nL fr mc ms) {a : Int} (hd : decode cc pc = .ok (.ineg, 1)) (k : xm_V X kc sc r σ (pc + 1) l (.int (xm_J (xm_neg a)) :: st)) : xm_V X kc sc r σ pc l (.int (xm_J a) :: st) := fun o ho H locs ls hR hS hL => lv_ineg hC.1 hC.2.1 hd (by have hz := k o ho H locs ls hR hS hL; rwa [xm_neg, xm_J_of] at hz)
theorem xg_idiv (hC : xm_C X own cc nL fr mc ms) {a b : Int} (hd : decode cc pc = .ok (.idiv, 1)) (hne : ¬ xm_J b = 0) (k : xm_V X kc sc r σ (pc + 1) l (.int (xm_J (xm_div a b)) :: st)) : xm_V X kc sc r σ pc l (.int (xm_J b) :: .int (xm_J a) :: st) := fun o ho H locs ls hR hS hL => lv_idiv hC.1 hC.2.1 hd hne (by have hz := k o ho H locs ls hR hS hL; rwa [xm_div, xm_J_of] at hz)
theorem xg_irem (hC : xm_C X own cc nL fr mc ms) {a b : Int} (hd : decode cc pc = .ok (.irem, 1)) (hne : ¬ xm_J b = 0) (k : xm_V X kc sc r σ (pc + 1) l (.int (xm_J (xm_rem a b)) :: st)) : xm_V X kc sc r σ pc l (.int (xm_J b) :: .int (xm_J a) :: st) := fun o ho H locs ls hR hS hL => lv_irem hC.1 hC.2.1 hd hne (by have hz := k o ho H locs ls hR hS hL; rwa [xm_rem, xm_J_of] at hz)
theorem xg_land (hC : xm_C X own cc nL fr mc ms) {a b : Int64} (hd : decode cc pc = .ok (.land, 1)) (k : xm_V X kc sc r σ (pc + 1) l (.long (a &&& b) :: st)) : xm_V X kc sc r σ pc l (.long b :: .long a :: st) := fun o ho H locs ls hR hS hL => lv_land hC.1 hC.2.1 hd (k o ho H locs ls hR hS hL)
theorem xg_lor (hC : xm_C X own cc nL fr mc ms) {a b : Int64} (hd : decode cc pc = .ok (.lor, 1)) (k : xm_V X kc sc r σ (pc + 1) l (.long (a ||| b) :: st)) : xm_V X kc sc r σ pc l (.long b :: .long a :: st) := fun o ho H locs ls hR hS hL => lv_lor hC.1 hC.2.1 hd (k o ho H locs ls hR hS hL)
theorem xg_lxor (hC : xm_C X own cc nL fr mc ms) {a b : Int64} (hd : decode cc pc = .ok (.lxor, 1)) (k : xm_V X kc sc r σ (pc + 1) l (.long (a ^^^ b) :: st)) : xm_V X kc sc r σ pc l (.long b :: .long a :: st) := fun o ho H locs ls hR hS hL => lv_lxor hC.1 hC.2.1 hd (k o ho H locs ls hR hS hL)
theorem xg_lshl (hC : xm_C X own cc nL fr mc ms) {a : Int64} {b : Int} (hd : decode cc pc = .ok (.lshl, 1)) (k : xm_V X kc sc r σ (pc + 1) l (.long (xm_shl a b) :: st)) : xm_V X kc sc r σ pc l (.int (xm_J b) :: .long a :: st) := fun o ho H locs ls hR hS hL => lv_lshl hC.1 hC.2.1 hd rfl (k o ho H locs ls hR hS hL)
theorem xg_lcmp (hC : xm_C X own cc nL fr mc ms) {a b : Int64} (hd : decode cc pc = .ok (.lcmp, 1)) (k : xm_V X kc sc r σ (pc + 1) l (.int (xm_J (xm_lc a b)) :: st)) : xm_V X kc sc r σ pc l (.long b :: .long a :: st) := fun o ho H locs ls hR hS hL => W.lcmp hC.1 hC.2.1 hd (by have hz := k o ho H locs ls hR hS hL; rwa [xm_lc, xm_J_of] at hz)
theorem xg_goto (hC : xm_C X own cc nL fr mc ms) {off : Int} (tgt : Nat) (hd : decode cc pc = .ok (.goto off, 3)) (ht : (pc : Int) + off = (tgt : Int)) (k : xm_V X kc sc r σ tgt l st) : xm_V X kc sc r σ pc l st := fun o ho H locs ls hR hS hL => lv_goto hC.1 hC.2.1 hd ht (k o ho H locs ls hR hS hL)
theorem xg_icmp_eq (hC : xm_C X own cc nL fr mc ms) {a b : Int} (ha : xm_in a) (hb : xm_in b) {off : Int} (tgt : Nat) (hd : decode cc pc = .ok (.if_icmp .eq off, 3)) (ht : (pc : Int) + off = (tgt : Int)) (k1 : a = b → xm_V X kc sc r1 σ (tgt) l st) (k2 : ¬ a = b → xm_V X kc sc r2 σ (pc + 3) l st) : xm_V X kc sc (if a = b then r1 else r2) σ pc l (.int (xm_J b) :: .int (xm_J a) :: st) := by
  intro o ho H locs ls hR hS hL
  have he := xm_J_eq ha hb
  refine lv_icmp_eq hC.1 hC.2.1 hd ht (fun q => ?_) (fun q => ?_)
  · have q2 := he.mp q
    rw [if_pos q2] at ho
    exact k1 q2 o ho H locs ls hR hS hL
  · have q2 : ¬ (a = b) := fun z => q (he.mpr z)
    rw [if_neg q2] at ho
    exact k2 q2 o ho H locs ls hR hS hL
theorem xg_if_eq (hC : xm_C X own cc nL fr mc ms) {a : Int} (ha : xm_in a) {off : Int} (tgt : Nat) (hd : decode cc pc = .ok (.ifCond .eq off, 3)) (ht : (pc : Int) + off = (tgt : Int)) (k1 : a = 0 → xm_V X kc sc r1 σ (tgt) l st) (k2 : ¬ a = 0 → xm_V X kc sc r2 σ (pc + 3) l st) : xm_V X kc sc (if a = 0 then r1 else r2) σ pc l (.int (xm_J a) :: st) := by
  intro o ho H locs ls hR hS hL
  have hb := xm_in0; have he := xm_J_eq ha hb
  rw [xm_J0] at he
  refine lv_if_eq hC.1 hC.2.1 hd ht (fun q => ?_) (fun q => ?_)
  · have q2 := he.mp q
    rw [if_pos q2] at ho
    exact k1 q2 o ho H locs ls hR hS hL
  · have q2 : ¬ (a = 0) := fun z => q (he.mpr z)
    rw [if_neg q2] at ho
    exact k2 q2 o ho H locs ls hR hS hL
theorem xg_icmp_ne (hC : xm_C X own cc nL fr mc ms) {a b : Int} (ha : xm_in a) (hb : xm_in b) {off : Int} (tgt : Nat) (hd : decode cc pc = .ok (.if_icmp .ne off, 3)) (ht : (pc : Int) + off = (tgt : Int)) (k1 : a = b → xm_V X kc sc r1 σ (pc + 3) l st) (k2 : ¬ a = b → xm_V X kc sc r2 σ (tgt) l st) : xm_V X kc sc (if a = b then r1 else r2) σ pc l (.int (xm_J b) :: .int (xm_J a) :: st) := by
  intro o ho H locs ls hR hS hL
  have he := xm_J_eq ha hb
  refine lv_icmp_ne hC.1 hC.2.1 hd ht (fun q => ?_) (fun q => ?_)
  · have q2 : ¬ (a = b) := fun z => q (he.mpr z)
    rw [if_neg q2] at ho
    exact k2 q2 o ho H locs ls hR hS hL
  · have q2 := he.mp q
    rw [if_pos q2] at ho
    exact k1 q2 o ho H locs ls hR hS hL
theorem xg_if_ne (hC : xm_C X own cc nL fr mc ms) {a : Int} (ha : xm_in a) {off : Int} (tgt : Nat) (hd : decode cc pc = .ok (.ifCond .ne off, 3)) (ht : (pc : Int) + off = (tgt : Int)) (k1 : a = 0 → xm_V X kc sc r1 σ (pc + 3) l st) (k2 : ¬ a = 0 → xm_V X kc sc r2 σ (tgt) l st) : xm_V X kc sc (if a = 0 then r1 else r2) σ pc l (.int (xm_J a) :: st) := by
  intro o ho H locs ls hR hS hL
  have hb := xm_in0; have he := xm_J_eq ha hb
  rw [xm_J0] at he
  refine lv_if_ne hC.1 hC.2.1 hd ht (fun q => ?_) (fun q => ?_)
  · have q2 : ¬ (a = 0) := fun z => q (he.mpr z)
    rw [if_neg q2] at ho
    exact k2 q2 o ho H locs ls hR hS hL
  · have q2 := he.mp q
    rw [if_pos q2] at ho
    exact k1 q2 o ho H locs ls hR hS hL
theorem xg_icmp_lt (hC : xm_C X own cc nL fr mc ms) {a b : Int} (ha : xm_in a) (hb : xm_in b) {off : Int} (tgt : Nat) (hd : decode cc pc = .ok (.if_icmp .lt off, 3)) (ht : (pc : Int) + off = (tgt : Int)) (k1 : a < b → xm_V X kc sc r1 σ (tgt) l st) (k2 : ¬ a < b → xm_V X kc sc r2 σ (pc + 3) l st) : xm_V X kc sc (if a < b then r1 else r2) σ pc l (.int (xm_J b) :: .int (xm_J a) :: st) := by
  intro o ho H locs ls hR hS hL
  have he := xm_J_lt ha hb
  refine lv_icmp_lt hC.1 hC.2.1 hd ht (fun q => ?_) (fun q => ?_)
  · have q2 := he.mp q
    rw [if_pos q2] at ho
    exact k1 q2 o ho H locs ls hR hS hL
  · have q2 : ¬ (a < b) := fun z => q (he.mpr z)
    rw [if_neg q2] at ho
    exact k2 q2 o ho H locs ls hR hS hL
theorem xg_if_lt (hC : xm_C X own cc nL fr mc ms) {a : Int} (ha : xm_in a) {off : Int} (tgt : Nat) (hd : decode cc pc = .ok (.ifCond .lt off, 3)) (ht : (pc : Int) + off = (tgt : Int)) (k1 : a < 0 → xm_V X kc sc r1 σ (tgt) l st) (k2 : ¬ a < 0 → xm_V X kc sc r2 σ (pc + 3) l st) : xm_V X kc sc (if a < 0 then r1 else r2) σ pc l (.int (xm_J a) :: st) := by
  intro o ho H locs ls hR hS hL
  have hb := xm_in0; have he := xm_J_lt ha hb
  rw [xm_J0] at he
  refine lv_if_lt hC.1 hC.2.1 hd ht (fun q => ?_) (fun q => ?_)
  · have q2 := he.mp q
    rw [if_pos q2] at ho
    exact k1 q2 o ho H locs ls hR hS hL
  · have q2 : ¬ (a < 0) := fun z => q (he.mpr z)
    rw [if_neg q2] at ho
    exact k2 q2 o ho H locs ls hR hS hL
theorem xg_icmp_ge (hC : xm_C X own cc nL fr mc ms) {a b : Int} (ha : xm_in a) (hb : xm_in b) {off : Int} (tgt : Nat) (hd : decode cc pc = .ok (.if_icmp .ge off, 3)) (ht : (pc : Int) + off = (tgt : Int)) (k1 : a < b → xm_V X kc sc r1 σ (pc + 3) l st) (k2 : ¬ a < b → xm_V X kc sc r2 σ (tgt) l st) : xm_V X kc sc (if a < b then r1 else r2) σ pc l (.int (xm_J b) :: .int (xm_J a) :: st) := by
  intro o ho H locs ls hR hS hL
  have he := xm_J_lt ha hb
  refine lv_icmp_ge hC.1 hC.2.1 hd ht (fun q => ?_) (fun q => ?_)
  · have q2 : ¬ (a < b) := fun z => absurd (he.mpr z) (Int32.not_lt.mpr q)
    rw [if_neg q2] at ho
    exact k2 q2 o ho H locs ls hR hS hL
  · have q2 : a < b := he.mp (Int32.not_le.mp q)
    rw [if_pos q2] at ho
    exact k1 q2 o ho H locs ls hR hS hL
theorem xg_if_ge (hC : xm_C X own cc nL fr mc ms) {a : Int} (ha : xm_in a) {off : Int} (tgt : Nat) (hd : decode cc pc = .ok (.ifCond .ge off, 3)) (ht : (pc : Int) + off = (tgt : Int)) (k1 : a < 0 → xm_V X kc sc r1 σ (pc + 3) l st) (k2 : ¬ a < 0 → xm_V X kc sc r2 σ (tgt) l st) : xm_V X kc sc (if a < 0 then r1 else r2) σ pc l (.int (xm_J a) :: st) := by
  intro o ho H locs ls hR hS hL
  have hb := xm_in0; have he := xm_J_lt ha hb
  rw [xm_J0] at he
  refine lv_if_ge hC.1 hC.2.1 hd ht (fun q => ?_) (fun q => ?_)
  · have q2 : ¬ (a < 0) := fun z => absurd (he.mpr z) (Int32.not_lt.mpr q)
    rw [if_neg q2] at ho
    exact k2 q2 o ho H locs ls hR hS hL
  · have q2 : a < 0 := he.mp (Int32.not_le.mp q)
    rw [if_pos q2] at ho
    exact k1 q2 o ho H locs ls hR hS hL
theorem xg_icmp_gt (hC : xm_C X own cc nL fr mc ms) {a b : Int} (ha : xm_in a) (hb : xm_in b) {off : Int} (tgt : Nat) (hd : decode cc pc = .ok (.if_icmp .gt off, 3)) (ht : (pc : Int) + off = (tgt : Int)) (k1 : b < a → xm_V X kc sc r1 σ (tgt) l st) (k2 : ¬ b < a → xm_V X kc sc r2 σ (pc + 3) l st) : xm_V X kc sc (if b < a then r1 else r2) σ pc l (.int (xm_J b) :: .int (xm_J a) :: st) := by
  intro o ho H locs ls hR hS hL
  have he := xm_J_lt hb ha
  refine lv_icmp_gt hC.1 hC.2.1 hd ht (fun q => ?_) (fun q => ?_)
  · have q2 := he.mp q
    rw [if_pos q2] at ho
    exact k1 q2 o ho H locs ls hR hS hL
  · have q2 : ¬ (b < a) := fun z => q (he.mpr z)
    rw [if_neg q2] at ho
    exact k2 q2 o ho H locs ls hR hS hL
theorem xg_if_gt (hC : xm_C X own cc nL fr mc ms) {a : Int} (ha : xm_in a) {off : Int} (tgt : Nat) (hd : decode cc pc = .ok (.ifCond .gt off, 3)) (ht : (pc : Int) + off = (tgt : Int)) (k1 : 0 < a → xm_V X kc sc r1 σ (tgt) l st) (k2 : ¬ 0 < a → xm_V X kc sc r2 σ (pc + 3) l st) : xm_V X kc sc (if 0 < a then r1 else r2) σ pc l (.int (xm_J a) :: st) := by
  intro o ho H locs ls hR hS hL
  have hb := xm_in0; have he := xm_J_lt hb ha
  rw [xm_J0] at he
  refine lv_if_gt hC.1 hC.2.1 hd ht (fun q => ?_) (fun q => ?_)
  · have q2 := he.mp q
    rw [if_pos q2] at ho
    exact k1 q2 o ho H locs ls hR hS hL
  · have q2 : ¬ (0 < a) := fun z => q (he.mpr z)
    rw [if_neg q2] at ho
    exact k2 q2 o ho H locs ls hR hS hL
theorem xg_icmp_le (hC : xm_C X own cc nL fr mc ms) {a b : Int} (ha : xm_in a) (hb : xm_in b) {off : Int} (tgt : Nat) (hd : decode cc pc = .ok (.if_icmp .le off, 3)) (ht : (pc : Int) + off = (tgt : Int)) (k1 : b < a → xm_V X kc sc r1 σ (pc + 3) l st) (k2 : ¬ b < a → xm_V X kc sc r2 σ (tgt) l st) : xm_V X kc sc (if b < a then r1 else r2) σ pc l (.int (xm_J b) :: .int (xm_J a) :: st) := by
  intro o ho H locs ls hR hS hL
  have he := xm_J_lt hb ha
  refine lv_icmp_le hC.1 hC.2.1 hd ht (fun q => ?_) (fun q => ?_)
  · have q2 : ¬ (b < a) := fun z => absurd (he.mpr z) (Int32.not_lt.mpr q)
    rw [if_neg q2] at ho
    exact k2 q2 o ho H locs ls hR hS hL
  · have q2 : b < a := he.mp (Int32.not_le.mp q)
    rw [if_pos q2] at ho
    exact k1 q2 o ho H locs ls hR hS hL
theorem xg_if_le (hC : xm_C X own cc nL fr mc ms) {a : Int} (ha : xm_in a) {off : Int} (tgt : Nat) (hd : decode cc pc = .ok (.ifCond .le off, 3)) (ht : (pc : Int) + off = (tgt : Int)) (k1 : 0 < a → xm_V X kc sc r1 σ (pc + 3) l st) (k2 : ¬ 0 < a → xm_V X kc sc r2 σ (tgt) l st) : xm_V X kc sc (if 0 < a then r1 else r2) σ pc l (.int (xm_J a) :: st) := by
  intro o ho H locs ls hR hS hL
  have hb := xm_in0; have he := xm_J_lt hb ha
  rw [xm_J0] at he
  refine lv_if_le hC.1 hC.2.1 hd ht (fun q => ?_) (fun q => ?_)
  · have q2 : ¬ (0 < a) := fun z => absurd (he.mpr z) (Int32.not_lt.mpr q)
    rw [if_neg q2] at ho
    exact k2 q2 o ho H locs ls hR hS hL
  · have q2 : 0 < a := he.mp (Int32.not_le.mp q)
    rw [if_pos q2] at ho
    exact k1 q2 o ho H locs ls hR hS hL
theorem xg_ifnull (hC : xm_C X own cc nL fr mc ms) {v : Int} {off : Int} (tgt : Nat) (hd : decode cc pc = .ok (.ifnull off, 3)) (ht : (pc : Int) + off = (tgt : Int)) (k1 : v = 0 → xm_V X kc sc r1 σ (tgt) l st) (k2 : ¬ v = 0 → xm_V X kc sc r2 σ (pc + 3) l st) : xm_V X kc sc (if v = 0 then r1 else r2) σ pc l (xm_rf (xx_G X) v :: st) := by
  intro o ho H locs ls hR hS hL
  by_cases h : v = 0
  · rw [if_pos h] at ho
    subst h
    exact lv_ifnullN hC.1 hC.2.1 hd ht (k1 rfl o ho H locs ls hR hS hL)
  · rw [if_neg h] at ho
    have e : xm_rf (xx_G X) v = .ref (xm_ad (xx_G X) v.toNat) := by unfold xm_rf xm_on; rw [if_neg h]; rfl
    rw [e]
    exact lv_ifnull hC.1 hC.2.1 hd (k2 h o ho H locs ls hR hS hL)
theorem xg_ifnonnull (hC : xm_C X own cc nL fr mc ms) {v : Int} {off : Int} (tgt : Nat) (hd : decode cc pc = .ok (.ifnonnull off, 3)) (ht : (pc : Int) + off = (tgt : Int)) (k1 : v = 0 → xm_V X kc sc r1 σ (pc + 3) l st) (k2 : ¬ v = 0 → xm_V X kc sc r2 σ (tgt) l st) : xm_V X kc sc (if v = 0 then r1 else r2) σ pc l (xm_rf (xx_G X) v :: st) := by
  intro o ho H locs ls hR hS hL
  by_cases h : v = 0
  · rw [if_pos h] at ho
    subst h
    exact lv_ifnonnullN hC.1 hC.2.1 hd (k1 rfl o ho H locs ls hR hS hL)
  · rw [if_neg h] at ho
    have e : xm_rf (xx_G X) v = .ref (xm_ad (xx_G X) v.toNat) := by unfold xm_rf xm_on; rw [if_neg h]; rfl
    rw [e]
    exact lv_ifnonnull hC.1 hC.2.1 hd ht (k2 h o ho H locs ls hR hS hL)
theorem xg_acmp_eq (hC : xm_C X own cc nL fr mc ms) {a b : Int} (ha : 0 ≤ a) (hb : 0 ≤ b) {off : Int} (tgt : Nat) (hd : decode cc pc = .ok (.if_acmp .eq off, 3)) (ht : (pc : Int) + off = (tgt : Int)) (k1 : a = b → xm_V X kc sc r1 σ (tgt) l st) (k2 : ¬ a = b → xm_V X kc sc r2 σ (pc + 3) l st) : xm_V X kc sc (if a = b then r1 else r2) σ pc l (xm_rf (xx_G X) b :: xm_rf (xx_G X) a :: st) := by
  intro o ho H locs ls hR hS hL
  have he := xm_on_inj (Γ := xx_G X) ha hb
  unfold xm_rf
  refine lv_acmp_eq hC.1 hC.2.1 hd ht (fun q => ?_) (fun q => ?_)
  · have q2 := he.mp q
    rw [if_pos q2] at ho
    exact k1 q2 o ho H locs ls hR hS hL
  · have q2 : ¬ (a = b) := fun z => q (he.mpr z)
    rw [if_neg q2] at ho
    exact k2 q2 o ho H locs ls hR hS hL
theorem xg_acmp_ne (hC : xm_C X own cc nL fr mc ms) {a b : Int} (ha : 0 ≤ a) (hb : 0 ≤ b) {off : Int} (tgt : Nat) (hd : decode cc pc = .ok (.if_acmp .ne off, 3)) (ht : (pc : Int) + off = (tgt : Int)) (k1 : a = b → xm_V X kc sc r1 σ (pc + 3) l st) (k2 : ¬ a = b → xm_V X kc sc r2 σ (tgt) l st) : xm_V X kc sc (if a = b then r1 else r2) σ pc l (xm_rf (xx_G X) b :: xm_rf (xx_G X) a :: st) := by
  intro o ho H locs ls hR hS hL
  have he := xm_on_inj (Γ := xx_G X) ha hb
  unfold xm_rf
  refine lv_acmp_ne hC.1 hC.2.1 hd ht (fun q => ?_) (fun q => ?_)
  · have q2 : ¬ (a = b) := fun z => q (he.mpr z)
    rw [if_neg q2] at ho
    exact k2 q2 o ho H locs ls hR hS hL
  · have q2 := he.mp q
    rw [if_pos q2] at ho
    exact k1 q2 o ho H locs ls hR hS hL
theorem xg_tswIn (hC : xm_C X own cc nL fr mc ms) {dflt lo hi : Int} {offs : Array Int} {len : Nat} {x : Int} (j : Int) {off : Int} (tgt : Nat) (hj : x = j) (hd : decode cc pc = .ok (.tableswitch dflt lo hi offs, len)) (hin : xm_in j) (h1 : ¬ j < lo) (h2 : ¬ hi < j) (ho2 : offs[(j - lo).toNat]? = some off) (ht : (pc : Int) + off = (tgt : Int)) (k : xm_V X kc sc r σ tgt l st) : xm_V X kc sc r σ pc l (.int (xm_J x) :: st) := by
  subst hj
  intro o ho H locs ls hR hS hL
  exact lv_tableIn hC.1 hC.2.1 hd (by rw [xm_J_toInt hin]; exact h1) (by rw [xm_J_toInt hin]; exact h2) (by rw [xm_J_toInt hin]; exact ho2) ht (k o ho H locs ls hR hS hL)
theorem xg_tswOut (hC : xm_C X own cc nL fr mc ms) {dflt lo hi : Int} {offs : Array Int} {len : Nat} {x : Int} (tgt : Nat) (hd : decode cc pc = .ok (.tableswitch dflt lo hi offs, len)) (hin : xm_in x) (h : x < lo ∨ hi < x) (ht : (pc : Int) + dflt = (tgt : Int)) (k : xm_V X kc sc r σ tgt l st) : xm_V X kc sc r σ pc l (.int (xm_J x) :: st) := by
  intro o ho H locs ls hR hS hL
  exact lv_tableOut hC.1 hC.2.1 hd (by rw [xm_J_toInt hin]; exact h) ht (k o ho H locs ls hR hS hL)
end XG
