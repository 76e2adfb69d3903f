/-! ===== the bytes of the texts that are told ===== -/
/-- the bytes of a piece -/
def pcB (p : Nat × Nat) : List Int := if p.1 = 0 then wdL p.2 else if p.1 = 1 then dgL p.2 else [(p.2 : Int)]
theorem pcB_len (p : Nat × Nat) : (pcB p).length = xm_pl p := by
  unfold pcB xm_pl
  split
  · exact wdL_len _
  · split
    · exact dgL_len _
    · rfl
def pcS : List (Nat × Nat) → List Int
  | [] => []
  | p :: t => pcB p ++ pcS t
theorem pcS_len : ∀ (L : List (Nat × Nat)) (c : Nat), xm_plS c L = c + (pcS L).length := by
  intro L
  induction L with
  | nil => intro c; rfl
  | cons p t ih =>
    intro c
    rw [xm_plS, ih, pcS, List.length_append, pcB_len]
    omega
theorem gc_ne {v b j : Nat} (hb : b ≠ v) : ∀ (f : Nat) (σ : xm_Mem) (p r : Nat), (xm_gc v f σ p r).1 b j = σ.1 b j := by
  intro f
  induction f with
  | zero => intro σ p r; rfl
  | succ f ih =>
    intro σ p r
    rw [xm_gc]
    split
    · split
      · exact xm_u1_ne _ _ (fun z => hb z.1)
      · rw [xm_u1_ne _ _ (fun z => hb z.1)]
        exact xm_u1_ne _ _ (fun z => hb z.1)
    · rw [ih, xm_u1_ne _ _ (fun z => hb z.1)]
      exact xm_u1_ne _ _ (fun z => hb z.1)
theorem gc_at {σ : xm_Mem} {v c w k : Nat} (hw : w ≤ 99999) : (xm_gc v 3 σ (c + xm_dg w) w).1 v k = if c ≤ k ∧ k < c + xm_dg w then (dgL w).getD (k - c) 0 else σ.1 v k := by
  unfold dgL
  by_cases h1 : w < 10
  · have e : xm_dg w = 1 := by unfold xm_dg; rw [if_pos h1]
    rw [e, if_pos h1, xm_gc, if_pos (show w < 100 by omega), if_pos (show w < 10 by omega)]
    simp only [xu11]
    by_cases hk : c ≤ k ∧ k < c + 1
    · rw [if_pos (show c ≤ k ∧ k < c + 1 from hk)]
      have hj : k = c := by omega
      rcases hj with rfl
      · rw [if_pos ⟨trivial, by omega⟩, Nat.sub_self]
        show (48 : Int) + ((w % 10 : Nat) : Int) = 48 + ((w : Nat) : Int)
        omega
    · rw [if_neg (by omega), if_neg hk]
  by_cases h2 : w < 100
  · have e : xm_dg w = 2 := by unfold xm_dg; rw [if_neg h1, if_pos h2]
    rw [e, if_neg h1, if_pos h2, xm_gc, if_pos (show w < 100 by omega), if_neg (show ¬ w < 10 by omega)]
    simp only [xu11]
    by_cases hk : c ≤ k ∧ k < c + 2
    · rw [if_pos (show c ≤ k ∧ k < c + 2 from hk)]
      have hj : k = c ∨ k = c + 1 := by omega
      rcases hj with rfl | rfl
      · rw [if_pos ⟨trivial, by omega⟩, Nat.sub_self]
        show (48 : Int) + ((w / 10 : Nat) : Int) = 48 + ((w / 10 : Nat) : Int)
        omega
      · rw [if_neg (by omega), if_pos ⟨trivial, by omega⟩, Nat.add_sub_cancel_left]
        show (48 : Int) + ((w % 10 : Nat) : Int) = 48 + ((w % 10 : Nat) : Int)
        omega
    · rw [if_neg (by omega), if_neg (by omega), if_neg hk]
  by_cases h3 : w < 1000
  · have e : xm_dg w = 3 := by unfold xm_dg; rw [if_neg h1, if_neg h2, if_pos h3]
    rw [e, if_neg h1, if_neg h2, if_pos h3, xm_gc, if_neg (show ¬ w < 100 by omega), xm_gc, if_pos (show w / 100 < 100 by omega), if_pos (show w / 100 < 10 by omega)]
    simp only [xu11]
    by_cases hk : c ≤ k ∧ k < c + 3
    · rw [if_pos (show c ≤ k ∧ k < c + 3 from hk)]
      have hj : k = c ∨ k = c + 1 ∨ k = c + 2 := by omega
      rcases hj with rfl | rfl | rfl
      · rw [if_pos ⟨trivial, by omega⟩, Nat.sub_self]
        show (48 : Int) + ((w / 100 % 10 : Nat) : Int) = 48 + ((w / 100 : Nat) : Int)
        omega
      · rw [if_neg (by omega), if_pos ⟨trivial, by omega⟩, Nat.add_sub_cancel_left]
        show (48 : Int) + ((w % 100 / 10 : Nat) : Int) = 48 + ((w / 10 % 10 : Nat) : Int)
        omega
      · rw [if_neg (by omega), if_neg (by omega), if_pos ⟨trivial, by omega⟩, Nat.add_sub_cancel_left]
        show (48 : Int) + ((w % 100 % 10 : Nat) : Int) = 48 + ((w % 10 : Nat) : Int)
        omega
    · rw [if_neg (by omega), if_neg (by omega), if_neg (by omega), if_neg hk]
  by_cases h4 : w < 10000
  · have e : xm_dg w = 4 := by unfold xm_dg; rw [if_neg h1, if_neg h2, if_neg h3, if_pos h4]
    rw [e, if_neg h1, if_neg h2, if_neg h3, if_pos h4, xm_gc, if_neg (show ¬ w < 100 by omega), xm_gc, if_pos (show w / 100 < 100 by omega), if_neg (show ¬ w / 100 < 10 by omega)]
    simp only [xu11]
    by_cases hk : c ≤ k ∧ k < c + 4
    · rw [if_pos (show c ≤ k ∧ k < c + 4 from hk)]
      have hj : k = c ∨ k = c + 1 ∨ k = c + 2 ∨ k = c + 3 := by omega
      rcases hj with rfl | rfl | rfl | rfl
      · rw [if_pos ⟨trivial, by omega⟩, Nat.sub_self]
        show (48 : Int) + ((w / 100 / 10 : Nat) : Int) = 48 + ((w / 1000 : Nat) : Int)
        omega
      · rw [if_neg (by omega), if_pos ⟨trivial, by omega⟩, Nat.add_sub_cancel_left]
        show (48 : Int) + ((w / 100 % 10 : Nat) : Int) = 48 + ((w / 100 % 10 : Nat) : Int)
        omega
      · rw [if_neg (by omega), if_neg (by omega), if_pos ⟨trivial, by omega⟩, Nat.add_sub_cancel_left]
        show (48 : Int) + ((w % 100 / 10 : Nat) : Int) = 48 + ((w / 10 % 10 : Nat) : Int)
        omega
      · rw [if_neg (by omega), if_neg (by omega), if_neg (by omega), if_pos ⟨trivial, by omega⟩, Nat.add_sub_cancel_left]
        show (48 : Int) + ((w % 100 % 10 : Nat) : Int) = 48 + ((w % 10 : Nat) : Int)
        omega
    · rw [if_neg (by omega), if_neg (by omega), if_neg (by omega), if_neg (by omega), if_neg hk]
  have e : xm_dg w = 5 := by unfold xm_dg; rw [if_neg h1, if_neg h2, if_neg h3, if_neg h4]
  rw [e, if_neg h1, if_neg h2, if_neg h3, if_neg h4, xm_gc, if_neg (show ¬ w < 100 by omega), xm_gc, if_neg (show ¬ w / 100 < 100 by omega), xm_gc, if_pos (show w / 100 / 100 < 100 by omega), if_pos (show w / 100 / 100 < 10 by omega)]
  simp only [xu11]
  by_cases hk : c ≤ k ∧ k < c + 5
  · rw [if_pos (show c ≤ k ∧ k < c + 5 from hk)]
    have hj : k = c ∨ k = c + 1 ∨ k = c + 2 ∨ k = c + 3 ∨ k = c + 4 := by omega
    rcases hj with rfl | rfl | rfl | rfl | rfl
    · rw [if_pos ⟨trivial, by omega⟩, Nat.sub_self]
      show (48 : Int) + ((w / 100 / 100 % 10 : Nat) : Int) = 48 + ((w / 10000 : Nat) : Int)
      omega
    · rw [if_neg (by omega), if_pos ⟨trivial, by omega⟩, Nat.add_sub_cancel_left]
      show (48 : Int) + ((w / 100 % 100 / 10 : Nat) : Int) = 48 + ((w / 1000 % 10 : Nat) : Int)
      omega
    · rw [if_neg (by omega), if_neg (by omega), if_pos ⟨trivial, by omega⟩, Nat.add_sub_cancel_left]
      show (48 : Int) + ((w / 100 % 100 % 10 : Nat) : Int) = 48 + ((w / 100 % 10 : Nat) : Int)
      omega
    · rw [if_neg (by omega), if_neg (by omega), if_neg (by omega), if_pos ⟨trivial, by omega⟩, Nat.add_sub_cancel_left]
      show (48 : Int) + ((w % 100 / 10 : Nat) : Int) = 48 + ((w / 10 % 10 : Nat) : Int)
      omega
    · rw [if_neg (by omega), if_neg (by omega), if_neg (by omega), if_neg (by omega), if_pos ⟨trivial, by omega⟩, Nat.add_sub_cancel_left]
      show (48 : Int) + ((w % 100 % 10 : Nat) : Int) = 48 + ((w % 10 : Nat) : Int)
      omega
  · rw [if_neg (by omega), if_neg (by omega), if_neg (by omega), if_neg (by omega), if_neg (by omega), if_neg hk]
theorem ap_ne {σ : xm_Mem} {v c : Nat} {p : Nat × Nat} {b j : Nat} (hb : b ≠ v) (h3 : ¬ (b = 84 ∧ j = 3)) : (xm_ap σ v c p).1 b j = σ.1 b j := by
  unfold xm_ap
  split
  · rw [xm_u1_ne _ _ h3, xm_cpm_ne (fun z => hb z.1)]
  · split
    · rw [xm_u1_ne _ _ h3]
      exact gc_ne hb _ _ _ _
    · rw [xm_u1_ne _ _ (fun z => hb z.1), xm_u1_ne _ _ h3]
theorem ap_at {σ : xm_Mem} {v c : Nat} {p : Nat × Nat} (hp : xm_pOK p) (hv : v ≠ 84) (k : Nat) : (xm_ap σ v c p).1 v k = if c ≤ k ∧ k < c + xm_pl p then (pcB p).getD (k - c) 0 else σ.1 v k := by
  unfold xm_ap pcB xm_pl
  split
  · rename_i e
    rw [xm_u1_ne _ _ (fun z => hv z.1)]
    by_cases hk : c ≤ k ∧ k < c + xm_ln.getD p.2 0
    · rw [xm_cpm_at hk, if_pos hk, wdL_at (by omega), Nat.zero_add]
    · rw [xm_cpm_ne (fun z => hk z.2), if_neg hk]
  · rename_i e
    split
    · rename_i e2
      rw [xm_u1_ne _ _ (fun z => hv z.1)]
      exact gc_at (hp.2.1 e2)
    · rw [xu11]
      by_cases hk : k = c
      · subst hk
        rw [if_pos ⟨rfl, rfl⟩, if_pos (by omega), Nat.sub_self]
        rfl
      · rw [if_neg (fun z => hk z.2), if_neg (by omega), xm_u1_ne _ _ (fun z => hv z.1)]
theorem ap_3 {σ : xm_Mem} {v c : Nat} {p : Nat × Nat} (hv : v ≠ 84) : (xm_ap σ v c p).1 84 3 = ((c + xm_pl p : Nat) : Int) := by
  unfold xm_ap xm_pl
  split
  · exact xm_u1_at _ _ _ _
  · split
    · exact xm_u1_at _ _ _ _
    · rw [xm_u1_ne _ _ (fun z => hv z.1.symm)]
      exact xm_u1_at _ _ _ _
theorem aps_ne {v b j : Nat} (hb : b ≠ v) (h3 : ¬ (b = 84 ∧ j = 3)) : ∀ (L : List (Nat × Nat)) (σ : xm_Mem) (c : Nat), (xm_aps σ v c L).1 b j = σ.1 b j := by
  intro L
  induction L with
  | nil => intro σ c; rfl
  | cons p t ih => intro σ c; rw [xm_aps, ih, ap_ne hb h3]
theorem aps_at {v : Nat} (hv : v ≠ 84) (k : Nat) : ∀ (L : List (Nat × Nat)) (σ : xm_Mem) (c : Nat), (∀ p ∈ L, xm_pOK p) → (xm_aps σ v c L).1 v k = if c ≤ k ∧ k < xm_plS c L then (pcS L).getD (k - c) 0 else σ.1 v k := by
  intro L
  induction L with
  | nil =>
    intro σ c _
    rw [xm_plS, if_neg (by omega)]
    rfl
  | cons p t ih =>
    intro σ c h
    have hp := h p List.mem_cons_self
    rw [xm_aps, ih _ _ (fun q hq => h q (List.mem_cons_of_mem _ hq)), ap_at hp hv, xm_plS, pcS]
    have hl := pcS_len t (c + xm_pl p)
    have hb := pcB_len p
    by_cases h1 : c + xm_pl p ≤ k ∧ k < xm_plS (c + xm_pl p) t
    · rw [if_pos h1, if_pos (by omega)]
      have e : k - c = (pcB p).length + (k - (c + xm_pl p)) := by omega
      rw [e, lB_a2]
    · rw [if_neg h1]
      by_cases h2 : c ≤ k ∧ k < c + xm_pl p
      · rw [if_pos h2, if_pos (by omega), lB_a1 (by omega)]
      · rw [if_neg h2, if_neg (by omega)]
theorem aps_SB {v n : Nat} : ∀ (L : List (Nat × Nat)) (σ : xm_Mem) (c : Nat), xm_SB σ v n c → (∀ p ∈ L, xm_pOK p) → xm_plS c L ≤ n → xm_SB (xm_aps σ v c L) v n (xm_plS c L) := by
  intro L
  induction L with
  | nil => intro σ c h _ _; exact h
  | cons p t ih =>
    intro σ c h hp hl
    rw [xm_plS] at hl ⊢
    rw [xm_aps]
    have h2 := pcS_len t (c + xm_pl p)
    exact ih _ _ (xm_ap_SB h (hp p List.mem_cons_self) (by omega)) (fun q hq => hp q (List.mem_cons_of_mem _ hq)) hl
theorem bP_ok {d : Nat} {s f m : Int} (hd : d ≤ 99999) (hf : -1 ≤ f ∧ f ≤ 99) (hm : -1 ≤ m ∧ m ≤ 99) : ∀ p ∈ xm_bP d s f m, xm_pOK p := by
  intro p hp
  unfold xm_bP at hp
  simp only [List.mem_append, List.mem_cons, List.not_mem_nil, or_false] at hp
  rcases hp with ((rfl | rfl | rfl) | hp) | hp
  · exact xm_po0 (by decide)
  · exact xm_po1 hd
  · exact xm_po0 (by split <;> decide)
  · split at hp
    · simp only [List.mem_cons, List.not_mem_nil, or_false] at hp
      rw [hp]; exact xm_po0 (by decide)
    · simp only [List.mem_cons, List.not_mem_nil, or_false] at hp
      rcases hp with rfl | rfl
      · exact xm_po1 (by omega)
      · exact xm_po0 (by decide)
  · split at hp
    · simp only [List.mem_cons, List.not_mem_nil, or_false] at hp
      rw [hp]; exact xm_po0 (by decide)
    · simp only [List.mem_cons, List.not_mem_nil, or_false] at hp
      rw [hp]; exact xm_po1 (by omega)
theorem tP_ok {i d a : Nat} {q : Int} (hi : i < 24) (hd : d ≤ 99999) (ha : a ≤ 99) (hq : -1 ≤ q ∧ q ≤ 99) : ∀ p ∈ xm_tP i d a q, xm_pOK p := by
  intro p hp
  unfold xm_tP at hp
  simp only [List.mem_append, List.mem_cons, List.not_mem_nil, or_false] at hp
  rcases hp with (rfl | rfl | rfl | rfl | rfl) | hp
  · exact xm_po0 hi
  · exact xm_po2 (by decide)
  · exact xm_po1 hd
  · exact xm_po2 (by decide)
  · exact xm_po1 (by omega)
  · split at hp
    · cases hp
    · simp only [List.mem_cons, List.not_mem_nil, or_false] at hp
      rcases hp with rfl | rfl
      · exact xm_po2 (by decide)
      · exact xm_po1 (by omega)
theorem wd_19 : wdL 19 = wdL 0 ++ [32] := by decide +kernel
theorem wd_20 : wdL 20 = 32 :: (wdL 9 ++ 32 :: (wdL 11 ++ [32])) := by decide +kernel
theorem wd_21 : wdL 21 = 32 :: (wdL 10 ++ 32 :: (wdL 11 ++ [32])) := by decide +kernel
theorem wd_22 : wdL 22 = wdL 12 ++ 32 :: (wdL 13 ++ [32]) := by decide +kernel
theorem wd_23 : wdL 23 = 32 :: (wdL 13 ++ [32]) := by decide +kernel
theorem pc0 (i : Nat) : pcB (0, i) = wdL i := rfl
theorem pc1 (w : Nat) : pcB (1, w) = dgL w := rfl
theorem pc2 : pcB (2, 32) = [32] := rfl
theorem tx2 (t t' : Nat × Nat) (u : List (Nat × Nat)) : txL (t :: t' :: u) = tkL t ++ 32 :: txL (t' :: u) := rfl
theorem tx1 (t : Nat × Nat) : txL [t] = tkL t := List.append_nil _
theorem bP_tx {d : Nat} {s f m : Int} : pcS (xm_bP d s f m) = txL [(0, 0), (1, d), (0, if s = 0 then 10 else 9), (0, 11), prT f, (0, 13), prT m] := by
  have tk0 : ∀ i, tkL (0, i) = wdL i := fun _ => rfl
  have tk1 : ∀ i, tkL (1, i) = dgL i := fun _ => rfl
  unfold xm_bP prT
  by_cases hs : s = 0 <;> by_cases hf : f < 0 <;> by_cases hm : m < 0 <;> simp only [hs, hf, hm, if_true, if_false, List.cons_append, List.nil_append, pcS, pc0, pc1, wd_19, wd_20, wd_21, wd_22, wd_23, tx2, tx1, tk0, tk1, List.append_assoc, List.append_nil]
theorem tP_tx {i d a : Nat} {q : Int} : pcS (xm_tP i d a q) = txL ((0, i) :: (1, d) :: (1, a) :: (if q < 0 then [] else [(1, q.toNat)])) := by
  have tk0 : ∀ i, tkL (0, i) = wdL i := fun _ => rfl
  have tk1 : ∀ i, tkL (1, i) = dgL i := fun _ => rfl
  unfold xm_tP
  by_cases hq : q < 0 <;> simp only [hq, if_true, if_false, List.cons_append, List.nil_append, pcS, pc0, pc1, pc2, tx2, tx1, tk0, tk1, List.append_assoc, List.append_nil]
