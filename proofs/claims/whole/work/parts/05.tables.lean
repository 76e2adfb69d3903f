/-! ===== the abstract memory: its layout, its tables (written by program from names and constructors) ===== -/
def xm_tb : List Cond := lw_tbl.filter goodWord
theorem xm_mem {w : Cond} (i : Nat) (h : lw_tbl[i]? = some w) (hg : goodWord w = true) : w ∈ xm_tb := List.mem_filter.mpr ⟨List.mem_of_getElem? h, hg⟩
theorem xm_good {w : Cond} (h : w ∈ xm_tb) : w ∈ lw_tbl ∧ goodWord w = true := List.mem_filter.mp h
def xm_cR : Nat → String
  | 0 => RX1
  | 1 => RX2
  | 2 => RX3
  | 3 => RX4
  | 4 => RX5
  | 5 => RX6
  | 6 => RX7
  | 7 => RX8
  | 8 => RX9
  | 9 => RX10
  | _ => RX11
def xm_cT : Nat → u_T
  | 0 => TX1
  | 1 => TX2
  | 2 => TX3
  | 3 => TX4
  | 4 => TX5
  | 5 => TX6
  | 6 => TX7
  | 7 => TX8
  | 8 => TX9
  | 9 => TX10
  | _ => TX11
def xm_nf : Nat → Nat
  | 0 => 17
  | 1 => 7
  | 2 => 10
  | 3 => 14
  | 4 => 8
  | 5 => 4
  | 6 => 6
  | 7 => 2
  | 8 => 5
  | 9 => 11
  | _ => 53
def xm_cty : Nat → Nat → FieldType
  | 0 => tyX1
  | 1 => tyX2
  | 2 => tyX3
  | 3 => tyX4
  | 4 => tyX5
  | 5 => tyX6
  | 6 => tyX7
  | 7 => tyX8
  | 8 => tyX9
  | 9 => tyX10
  | _ => tyX11
def xm_ft (ci k : Nat) : Nat := match xm_cty ci k with
  | .int => 0
  | .boolean => 3
  | .long => 2
  | _ => 1
def xm_cl : List vw_C := (List.range 11).map (fun i => (xm_cR i, xm_cT i, xm_nf i))
theorem xm_cl_at {ci : Nat} (h : ci < 11) : xm_cl[ci]? = some (xm_cR ci, xm_cT ci, xm_nf ci) := by
  simp [xm_cl, h]
def xm_ix0 : List Nat := [343, 345, 347, 349, 351, 353, 355, 357, 359, 361, 363, 365, 367, 369, 371, 373, 375]
theorem xm_ok0 : ∀ k, k < 17 → lw_tbl[xm_ix0.getD k 0]? = some (u_lay RX1 TX1 k) ∧ goodWord (u_lay RX1 TX1 k) = true := by decide +kernel
def xm_ix1 : List Nat := [254, 256, 258, 260, 262, 264, 266]
theorem xm_ok1 : ∀ k, k < 7 → lw_tbl[xm_ix1.getD k 0]? = some (u_lay RX2 TX2 k) ∧ goodWord (u_lay RX2 TX2 k) = true := by decide +kernel
def xm_ix2 : List Nat := [510, 512, 514, 516, 518, 520, 522, 524, 526, 528]
theorem xm_ok2 : ∀ k, k < 10 → lw_tbl[xm_ix2.getD k 0]? = some (u_lay RX3 TX3 k) ∧ goodWord (u_lay RX3 TX3 k) = true := by decide +kernel
def xm_ix3 : List Nat := [290, 292, 294, 296, 298, 300, 302, 304, 306, 308, 310, 312, 314, 316]
theorem xm_ok3 : ∀ k, k < 14 → lw_tbl[xm_ix3.getD k 0]? = some (u_lay RX4 TX4 k) ∧ goodWord (u_lay RX4 TX4 k) = true := by decide +kernel
def xm_ix4 : List Nat := [201, 203, 205, 207, 209, 211, 213, 215]
theorem xm_ok4 : ∀ k, k < 8 → lw_tbl[xm_ix4.getD k 0]? = some (u_lay RX5 TX5 k) ∧ goodWord (u_lay RX5 TX5 k) = true := by decide +kernel
def xm_ix5 : List Nat := [151, 153, 155, 157]
theorem xm_ok5 : ∀ k, k < 4 → lw_tbl[xm_ix5.getD k 0]? = some (u_lay RX6 TX6 k) ∧ goodWord (u_lay RX6 TX6 k) = true := by decide +kernel
def xm_ix6 : List Nat := [174, 176, 178, 180, 182, 184]
theorem xm_ok6 : ∀ k, k < 6 → lw_tbl[xm_ix6.getD k 0]? = some (u_lay RX7 TX7 k) ∧ goodWord (u_lay RX7 TX7 k) = true := by decide +kernel
def xm_ix7 : List Nat := [135, 137]
theorem xm_ok7 : ∀ k, k < 2 → lw_tbl[xm_ix7.getD k 0]? = some (u_lay RX8 TX8 k) ∧ goodWord (u_lay RX8 TX8 k) = true := by decide +kernel
def xm_ix8 : List Nat := [230, 232, 234, 236, 238]
theorem xm_ok8 : ∀ k, k < 5 → lw_tbl[xm_ix8.getD k 0]? = some (u_lay RX9 TX9 k) ∧ goodWord (u_lay RX9 TX9 k) = true := by decide +kernel
def xm_ix9 : List Nat := [389, 391, 393, 395, 397, 399, 401, 403, 405, 407, 409]
theorem xm_ok9 : ∀ k, k < 11 → lw_tbl[xm_ix9.getD k 0]? = some (u_lay RX10 TX10 k) ∧ goodWord (u_lay RX10 TX10 k) = true := by decide +kernel
def xm_ix10 : List Nat := [1249, 1251, 1253, 1255, 1257, 1259, 1261, 1263, 1265, 1267, 1269, 1271, 1273, 1275, 1277, 1279, 1281, 1283, 1285, 1287, 1289, 1291, 1293, 1295, 1297, 1299, 1301, 1303, 1305, 1307, 1309, 1311, 1313, 1315, 1317, 1319, 1321, 1323, 1325, 1327, 1329, 1331, 1333, 1335, 1337, 1339, 1341, 1343, 1345, 1347, 1349, 1351, 1353]
theorem xm_ok10 : ∀ k, k < 53 → lw_tbl[xm_ix10.getD k 0]? = some (u_lay RX11 TX11 k) ∧ goodWord (u_lay RX11 TX11 k) = true := by decide +kernel
theorem xm_hin {ci : Nat} (h : ci < 11) : ∀ w ∈ u_ws (xm_cR ci) (xm_cT ci) (xm_nf ci), w ∈ xm_tb := by
  intro w hw
  obtain ⟨k, hk, rfl⟩ := List.mem_map.mp hw
  have hk := List.mem_range.mp hk
  match ci, h with
  | 0, _ => exact xm_mem _ (xm_ok0 k hk).1 (xm_ok0 k hk).2
  | 1, _ => exact xm_mem _ (xm_ok1 k hk).1 (xm_ok1 k hk).2
  | 2, _ => exact xm_mem _ (xm_ok2 k hk).1 (xm_ok2 k hk).2
  | 3, _ => exact xm_mem _ (xm_ok3 k hk).1 (xm_ok3 k hk).2
  | 4, _ => exact xm_mem _ (xm_ok4 k hk).1 (xm_ok4 k hk).2
  | 5, _ => exact xm_mem _ (xm_ok5 k hk).1 (xm_ok5 k hk).2
  | 6, _ => exact xm_mem _ (xm_ok6 k hk).1 (xm_ok6 k hk).2
  | 7, _ => exact xm_mem _ (xm_ok7 k hk).1 (xm_ok7 k hk).2
  | 8, _ => exact xm_mem _ (xm_ok8 k hk).1 (xm_ok8 k hk).2
  | 9, _ => exact xm_mem _ (xm_ok9 k hk).1 (xm_ok9 k hk).2
  | 10, _ => exact xm_mem _ (xm_ok10 k hk).1 (xm_ok10 k hk).2
theorem xm_hty {ci : Nat} (h : ci < 11) : ∀ k, k < xm_nf ci → parseFieldDescriptor (xm_cT ci k).2.2.1 = some (xm_cty ci k) := by
  match ci, h with
  | 0, _ => exact tyX1_ok
  | 1, _ => exact tyX2_ok
  | 2, _ => exact tyX3_ok
  | 3, _ => exact tyX4_ok
  | 4, _ => exact tyX5_ok
  | 5, _ => exact tyX6_ok
  | 6, _ => exact tyX7_ok
  | 7, _ => exact tyX8_ok
  | 8, _ => exact tyX9_ok
  | 9, _ => exact tyX10_ok
  | 10, _ => exact tyX11_ok
theorem xm_hnm {ci : Nat} (h : ci < 11) : ∀ a, a < xm_nf ci → ∀ b, b < xm_nf ci → a ≠ b → (xm_cT ci a).2.1 ≠ (xm_cT ci b).2.1 := by
  match ci, h with
  | 0, _ => exact nmX1
  | 1, _ => exact nmX2
  | 2, _ => exact nmX3
  | 3, _ => exact nmX4
  | 4, _ => exact nmX5
  | 5, _ => exact nmX6
  | 6, _ => exact nmX7
  | 7, _ => exact nmX8
  | 8, _ => exact nmX9
  | 9, _ => exact nmX10
  | 10, _ => exact nmX11
def xm_layL : List (Nat × Nat) := [(9, 0), (0, 9), (0, 7), (1, 80), (0, 5), (0, 6), (4, 200), (4, 64), (4, 8), (0, 4), (2, 64), (2, 64), (1, 64), (1, 64), (1, 64), (1, 64), (1, 64), (1, 64), (0, 8), (1, 200), (1, 200), (1, 200), (1, 200), (0, 1), (2, 64), (1, 64), (1, 128), (1, 65), (3, 64), (0, 3), (1, 64), (1, 129), (1, 64), (1, 64), (1, 64), (5, 8), (0, 0), (1, 64), (1, 200), (1, 200), (1, 200), (1, 200), (0, 0), (1, 64), (1, 200), (1, 200), (1, 200), (1, 200), (0, 0), (1, 64), (1, 200), (1, 200), (1, 200), (1, 200), (0, 0), (1, 64), (1, 200), (1, 200), (1, 200), (1, 200), (0, 0), (1, 64), (1, 200), (1, 200), (1, 200), (1, 200), (0, 0), (1, 64), (1, 200), (1, 200), (1, 200), (1, 200), (0, 0), (1, 64), (1, 200), (1, 200), (1, 200), (1, 200), (0, 0), (1, 64), (1, 200), (1, 200), (1, 200), (1, 200), (0, 10), (1, 80), (1, 200), (1, 200), (1, 200), (1, 200), (1, 200), (1, 200), (2, 200), (1, 64), (1, 8), (2, 8), (2, 64), (1, 64), (3, 64), (1, 64), (1, 512), (1, 64), (1, 64), (1, 64), (1, 8), (1, 1600), (1, 1600), (1, 1600), (1, 1600), (1, 64), (1, 64)]
def xm_lay (a : Nat) : Nat × Nat := xm_layL.getD a (0, 2)
def xm_wireL : List (Nat × Nat × Nat) := [(1, 0, 2), (1, 1, 4), (1, 2, 5), (1, 3, 9), (1, 4, 18), (1, 5, 23), (1, 6, 29), (1, 7, 35), (2, 0, 3), (4, 0, 2), (5, 0, 6), (5, 1, 7), (5, 2, 8), (9, 0, 10), (9, 1, 11), (9, 2, 12), (9, 3, 13), (9, 4, 14), (9, 5, 15), (9, 6, 16), (9, 7, 17), (18, 0, 19), (18, 1, 20), (18, 2, 21), (18, 3, 22), (23, 0, 9), (23, 1, 24), (23, 2, 25), (23, 4, 26), (23, 5, 27), (23, 6, 28), (29, 0, 9), (29, 1, 23), (29, 2, 30), (29, 6, 31), (29, 8, 32), (29, 9, 33), (29, 12, 34), (84, 0, 85), (84, 7, 86), (84, 8, 87), (84, 9, 88), (84, 10, 89), (84, 11, 90), (84, 12, 91), (84, 13, 92), (84, 16, 93), (84, 17, 94), (84, 19, 95), (84, 20, 96), (84, 21, 97), (84, 23, 98), (84, 24, 99), (84, 25, 100), (84, 26, 101), (84, 29, 102), (84, 32, 103), (84, 34, 104), (84, 35, 105), (84, 36, 106), (84, 37, 107), (84, 38, 108), (84, 51, 109), (84, 52, 110)]
/-- where the Course t stands -/
def xm_cb (t : Nat) : Nat := 36 + 6 * t
/-- the final places: what they hold -/
def xm_wire (a k : Nat) : Option Nat :=
  if a = 35 then (if k < 8 then some (36 + 6 * k) else none)
  else if 36 ≤ a ∧ a < 84 ∧ (a - 36) % 6 = 0 then [(a - 36) / 6, 5, 9, 23, 29, a + 1, a + 2, a + 3, a + 4, a + 5][k]?
  else (xm_wireL.find? (fun q => q.1 == a && q.2.1 == k)).map (fun q => q.2.2)
