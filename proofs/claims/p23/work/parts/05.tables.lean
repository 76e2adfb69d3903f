/-! ===== the abstract memory: its layout, its tables (written by program from names and constructors) ===== -/
/-- the builder's own private methods, called on it -/
def xm_pV : List (MethodName × Nat × Nat × Nat) := [(yJ5_ensureCapacityInternal_d00df, 735, 736, 1308), (yJ5_newCapacity_0f7a4, 739, 740, 1309), (yJ5_putStringAt_47b60, 1183, 1184, 1312), (yJ5_inflateIfNeededFor_a7421, 1187, 1188, 1313)]
def xm_pS : List Cond := xm_pV.map (fun q => Cond.selects RJ4 q.1 q.1)
theorem xm_pV_ok : ∀ n, n < 4 → (xm_pV[n]?.map (fun q => decide (lw_tbl[q.2.1]? = some (Cond.privateMethod q.1)) && decide (lw_tbl[q.2.2.1]? = some (Cond.instanceMethod q.1)) && decide (lw_tbl[q.2.2.2]? = some (Cond.sameMethod q.1.cls q.1.cls q.1.name q.1.desc)) && decide (q.1.cls = RJ5))) = some true := by decide +kernel
theorem xm_pI : lw_tbl[1271]? = some (Cond.instantiable RJ4 4) := by decide +kernel
def xm_tb : List Cond := (xm_pS ++ lw_tbl).filter goodWord
theorem xm_mem {w : Cond} (i : Nat) (h : lw_tbl[i]? = some w) (hg : goodWord w = true) : w ∈ xm_tb := List.mem_filter.mpr ⟨List.mem_append_right _ (List.mem_of_getElem? h), hg⟩
theorem xm_memS (i : Nat) {w : Cond} (h : xm_pS[i]? = some w) (hg : goodWord w = true) : w ∈ xm_tb := List.mem_filter.mpr ⟨List.mem_append_left _ (List.mem_of_getElem? h), hg⟩
theorem xm_good {w : Cond} (h : w ∈ xm_tb) : (w ∈ xm_pS ∨ w ∈ lw_tbl) ∧ goodWord w = true := ⟨List.mem_append.mp (List.mem_filter.mp h).1, (List.mem_filter.mp h).2⟩
theorem xm_selP {y : MethodName} {s : State} {args : Array Value} (hins : (Cond.instantiable RJ4 4).before args s = true) (hpriv : (Cond.privateMethod y).before args s = true) (hinst : (Cond.instanceMethod y).before args s = true) (hsame : (Cond.sameMethod y.cls y.cls y.name y.desc).before args s = true) : (Cond.selects RJ4 y y).before args s = true := by
  obtain ⟨c, k, hc, hk, -⟩ := Cond.instantiable_spec hins
  obtain ⟨mk, methM, hnamed, hmethM, -, -⟩ := Cond.instanceMethod_spec hinst
  obtain ⟨cn, ck, r1, hcn, hck, hni, hf, hn1⟩ := Cond.sameMethod_found hsame
  have hr : r1 = mk := Option.some.inj (hn1.symm.trans hnamed)
  subst hr
  have hcls : r1.cls = cn := Option.some.inj ((findClass_of_methodNamed hnamed).symm.trans hcn)
  have hsel : selectMethod {} s.vm c r1 = .method r1 := selectMethod_private hmethM (Cond.privateMethod_at hpriv r1 methM hnamed hmethM)
  simp only [Cond.before, Cond.holds, Cond.value, hc, hf, hnamed, hsel, hcls, hck]
  simp
  exact hni
theorem xm_allw {s : State} {args : Array Value} (hts : ∀ w ∈ lw_tbl, w.before args s = true) : ∀ w ∈ xm_tb, w.before args s = true := by
  intro w hw
  rcases (xm_good hw).1 with h | h
  · obtain ⟨q, hq, rfl⟩ := List.mem_map.mp h
    obtain ⟨n, hn⟩ := List.getElem?_of_mem hq
    have hn4 : n < 4 := (List.getElem?_eq_some_iff.mp hn).1
    have g := xm_pV_ok n hn4
    rw [hn] at g
    simp only [Option.map_some, Option.some.injEq, Bool.and_eq_true, decide_eq_true_eq] at g
    have hI : (Cond.instantiable RJ4 4).before args s = true := hts _ (List.mem_of_getElem? xm_pI)
    exact xm_selP hI (hts _ (List.mem_of_getElem? g.1.1.1)) (hts _ (List.mem_of_getElem? g.1.1.2)) (hts _ (List.mem_of_getElem? g.1.2))
  · exact hts _ h
def xm_cR : Nat → String
  | 0 => RX1
  | 1 => RX2
  | 2 => RX3
  | 3 => RX4
  | 4 => RX5
  | 5 => RX6
  | 6 => RX7
  | 7 => RX8
  | 8 => RX9
  | 9 => RX10
  | _ => RJ4
def xm_cT : Nat → u_T
  | 0 => TX1
  | 1 => TX2
  | 2 => TX3
  | 3 => TX4
  | 4 => TX5
  | 5 => TX6
  | 6 => TX7
  | 7 => TX8
  | 8 => TX9
  | 9 => TX10
  | _ => TJ4
def xm_nf : Nat → Nat
  | 0 => 17
  | 1 => 7
  | 2 => 10
  | 3 => 14
  | 4 => 8
  | 5 => 4
  | 6 => 6
  | 7 => 2
  | 8 => 5
  | 9 => 11
  | _ => 4
def xm_cty : Nat → Nat → FieldType
  | 0 => tyX1
  | 1 => tyX2
  | 2 => tyX3
  | 3 => tyX4
  | 4 => tyX5
  | 5 => tyX6
  | 6 => tyX7
  | 7 => tyX8
  | 8 => tyX9
  | 9 => tyX10
  | _ => tyJ4
def xm_ft (ci k : Nat) : Nat := match xm_cty ci k with
  | .int => 0
  | .boolean => 3
  | .long => 2
  | .byte => 4
  | _ => 1
def xm_cl : List vw_C := (List.range 11).map (fun i => (xm_cR i, xm_cT i, xm_nf i))
theorem xm_cl_at {ci : Nat} (h : ci < 11) : xm_cl[ci]? = some (xm_cR ci, xm_cT ci, xm_nf ci) := by
  simp [xm_cl, h]
def xm_ix0 : List Nat := [286, 288, 290, 292, 294, 296, 298, 300, 302, 304, 306, 308, 310, 312, 314, 316, 318]
theorem xm_ok0 : ∀ k, k < 17 → lw_tbl[xm_ix0.getD k 0]? = some (u_lay RX1 TX1 k) ∧ goodWord (u_lay RX1 TX1 k) = true := by decide +kernel
def xm_ix1 : List Nat := [197, 199, 201, 203, 205, 207, 209]
theorem xm_ok1 : ∀ k, k < 7 → lw_tbl[xm_ix1.getD k 0]? = some (u_lay RX2 TX2 k) ∧ goodWord (u_lay RX2 TX2 k) = true := by decide +kernel
def xm_ix2 : List Nat := [847, 849, 851, 853, 855, 857, 859, 861, 863, 865]
theorem xm_ok2 : ∀ k, k < 10 → lw_tbl[xm_ix2.getD k 0]? = some (u_lay RX3 TX3 k) ∧ goodWord (u_lay RX3 TX3 k) = true := by decide +kernel
def xm_ix3 : List Nat := [233, 235, 237, 239, 241, 243, 245, 247, 249, 251, 253, 255, 257, 259]
theorem xm_ok3 : ∀ k, k < 14 → lw_tbl[xm_ix3.getD k 0]? = some (u_lay RX4 TX4 k) ∧ goodWord (u_lay RX4 TX4 k) = true := by decide +kernel
def xm_ix4 : List Nat := [144, 146, 148, 150, 152, 154, 156, 158]
theorem xm_ok4 : ∀ k, k < 8 → lw_tbl[xm_ix4.getD k 0]? = some (u_lay RX5 TX5 k) ∧ goodWord (u_lay RX5 TX5 k) = true := by decide +kernel
def xm_ix5 : List Nat := [94, 96, 98, 100]
theorem xm_ok5 : ∀ k, k < 4 → lw_tbl[xm_ix5.getD k 0]? = some (u_lay RX6 TX6 k) ∧ goodWord (u_lay RX6 TX6 k) = true := by decide +kernel
def xm_ix6 : List Nat := [117, 119, 121, 123, 125, 127]
theorem xm_ok6 : ∀ k, k < 6 → lw_tbl[xm_ix6.getD k 0]? = some (u_lay RX7 TX7 k) ∧ goodWord (u_lay RX7 TX7 k) = true := by decide +kernel
def xm_ix7 : List Nat := [78, 80]
theorem xm_ok7 : ∀ k, k < 2 → lw_tbl[xm_ix7.getD k 0]? = some (u_lay RX8 TX8 k) ∧ goodWord (u_lay RX8 TX8 k) = true := by decide +kernel
def xm_ix8 : List Nat := [173, 175, 177, 179, 181]
theorem xm_ok8 : ∀ k, k < 5 → lw_tbl[xm_ix8.getD k 0]? = some (u_lay RX9 TX9 k) ∧ goodWord (u_lay RX9 TX9 k) = true := by decide +kernel
def xm_ix9 : List Nat := [332, 334, 336, 338, 340, 342, 344, 346, 348, 350, 352]
theorem xm_ok9 : ∀ k, k < 11 → lw_tbl[xm_ix9.getD k 0]? = some (u_lay RX10 TX10 k) ∧ goodWord (u_lay RX10 TX10 k) = true := by decide +kernel
def xm_ix10 : List Nat := [1283, 1285, 1287, 1289]
theorem xm_ok10 : ∀ k, k < 4 → lw_tbl[xm_ix10.getD k 0]? = some (u_lay RJ4 TJ4 k) ∧ goodWord (u_lay RJ4 TJ4 k) = true := by decide +kernel
theorem xm_hin {ci : Nat} (h : ci < 11) : ∀ w ∈ u_ws (xm_cR ci) (xm_cT ci) (xm_nf ci), w ∈ xm_tb := by
  intro w hw
  obtain ⟨k, hk, rfl⟩ := List.mem_map.mp hw
  have hk := List.mem_range.mp hk
  match ci, h with
  | 0, _ => exact xm_mem _ (xm_ok0 k hk).1 (xm_ok0 k hk).2
  | 1, _ => exact xm_mem _ (xm_ok1 k hk).1 (xm_ok1 k hk).2
  | 2, _ => exact xm_mem _ (xm_ok2 k hk).1 (xm_ok2 k hk).2
  | 3, _ => exact xm_mem _ (xm_ok3 k hk).1 (xm_ok3 k hk).2
  | 4, _ => exact xm_mem _ (xm_ok4 k hk).1 (xm_ok4 k hk).2
  | 5, _ => exact xm_mem _ (xm_ok5 k hk).1 (xm_ok5 k hk).2
  | 6, _ => exact xm_mem _ (xm_ok6 k hk).1 (xm_ok6 k hk).2
  | 7, _ => exact xm_mem _ (xm_ok7 k hk).1 (xm_ok7 k hk).2
  | 8, _ => exact xm_mem _ (xm_ok8 k hk).1 (xm_ok8 k hk).2
  | 9, _ => exact xm_mem _ (xm_ok9 k hk).1 (xm_ok9 k hk).2
  | 10, _ => exact xm_mem _ (xm_ok10 k hk).1 (xm_ok10 k hk).2
theorem xm_hty {ci : Nat} (h : ci < 11) : ∀ k, k < xm_nf ci → parseFieldDescriptor (xm_cT ci k).2.2.1 = some (xm_cty ci k) := by
  match ci, h with
  | 0, _ => exact tyX1_ok
  | 1, _ => exact tyX2_ok
  | 2, _ => exact tyX3_ok
  | 3, _ => exact tyX4_ok
  | 4, _ => exact tyX5_ok
  | 5, _ => exact tyX6_ok
  | 6, _ => exact tyX7_ok
  | 7, _ => exact tyX8_ok
  | 8, _ => exact tyX9_ok
  | 9, _ => exact tyX10_ok
  | 10, _ => exact tyJ4_ok
theorem xm_hnm {ci : Nat} (h : ci < 11) : ∀ a, a < xm_nf ci → ∀ b, b < xm_nf ci → a ≠ b → (xm_cT ci a).2.1 ≠ (xm_cT ci b).2.1 := by
  match ci, h with
  | 0, _ => exact nmX1
  | 1, _ => exact nmX2
  | 2, _ => exact nmX3
  | 3, _ => exact nmX4
  | 4, _ => exact nmX5
  | 5, _ => exact nmX6
  | 6, _ => exact nmX7
  | 7, _ => exact nmX8
  | 8, _ => exact nmX9
  | 9, _ => exact nmX10
  | 10, _ => exact nmJ4
def xm_layL : List (Nat × Nat) := [(9, 0), (0, 9), (0, 7), (1, 80), (0, 5), (0, 6), (4, 200), (4, 64), (4, 8), (0, 4), (2, 64), (2, 64), (1, 64), (1, 64), (1, 64), (1, 64), (1, 64), (1, 64), (0, 8), (1, 200), (1, 200), (1, 200), (1, 200), (0, 1), (2, 64), (1, 64), (1, 128), (1, 65), (3, 64), (0, 3), (1, 64), (1, 129), (1, 64), (1, 64), (1, 64), (5, 8), (0, 0), (1, 64), (1, 200), (1, 200), (1, 200), (1, 200), (0, 0), (1, 64), (1, 200), (1, 200), (1, 200), (1, 200), (0, 0), (1, 64), (1, 200), (1, 200), (1, 200), (1, 200), (0, 0), (1, 64), (1, 200), (1, 200), (1, 200), (1, 200), (0, 0), (1, 64), (1, 200), (1, 200), (1, 200), (1, 200), (0, 0), (1, 64), (1, 200), (1, 200), (1, 200), (1, 200), (0, 0), (1, 64), (1, 200), (1, 200), (1, 200), (1, 200), (0, 0), (1, 64), (1, 200), (1, 200), (1, 200), (1, 200), (0, 10), (6, 16), (7, 5), (1, 24), (2, 24), (6, 34), (9, 0), (9, 0), (9, 0), (9, 0), (9, 0), (9, 0), (9, 0), (9, 0), (9, 0), (9, 0), (9, 0), (9, 0), (9, 0), (9, 0), (9, 0), (9, 0), (9, 0), (9, 0), (9, 0), (9, 0), (8, 24)]
def xm_lay (a : Nat) : Nat × Nat := xm_layL.getD a (0, 2)
def xm_wireL : List (Nat × Nat × Nat) := [(1, 0, 2), (1, 1, 4), (1, 2, 5), (1, 3, 9), (1, 4, 18), (1, 5, 23), (1, 6, 29), (1, 7, 35), (2, 0, 3), (4, 0, 2), (5, 0, 6), (5, 1, 7), (5, 2, 8), (9, 0, 10), (9, 1, 11), (9, 2, 12), (9, 3, 13), (9, 4, 14), (9, 5, 15), (9, 6, 16), (9, 7, 17), (18, 0, 19), (18, 1, 20), (18, 2, 21), (18, 3, 22), (23, 0, 9), (23, 1, 24), (23, 2, 25), (23, 4, 26), (23, 5, 27), (23, 6, 28), (29, 0, 9), (29, 1, 23), (29, 2, 30), (29, 6, 31), (29, 8, 32), (29, 9, 33), (29, 12, 34)]
/-- where the Course t stands -/
def xm_cb (t : Nat) : Nat := 36 + 6 * t
/-- the final places: what they hold -/
def xm_wire (a k : Nat) : Option Nat :=
  if a = 35 then (if k < 8 then some (36 + 6 * k) else none)
  else if 36 ≤ a ∧ a < 84 ∧ (a - 36) % 6 = 0 then [(a - 36) / 6, 5, 9, 23, 29, a + 1, a + 2, a + 3, a + 4, a + 5][k]?
  else (xm_wireL.find? (fun q => q.1 == a && q.2.1 == k)).map (fun q => q.2.2)
