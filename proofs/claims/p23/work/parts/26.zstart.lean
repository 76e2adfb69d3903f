/-! ===== the start: what the Statement gives of it (written by program) ===== -/
def xs_q (i : Nat) : String × Nat := [(RX6, 133), (RX6, 135), (RX6, 137), (RX6, 139), (RX6, 141), (RX6, 142), (RX6, 144), (RX6, 146), (RX6, 148), (RX6, 73), (RX6, 82), (RX6, 84), (RX6, 108), (RX6, 96), (RX6, 150), (RX6, 152), (RX6, 154), (RX6, 156), (RX6, 158), (RL, 45), (RL, 54), (RL, 56), (RL, 58), (RL, 60)].getD i ("", 0)
def xs_tm (i : Nat) : Term := Term.string (xs_q i).1 (xs_q i).2
def xs_fl : List Cond := flatC (Jvm.Cond.and given_1 narrow_1)
def xs_pe : List Nat := [237, 245, 252, 260, 268, 277, 286, 294, 302, 310, 318, 328, 334, 342, 349, 358, 367, 375, 383, 391, 400, 413, 428, 441]
def xs_pc : List Nat := [238, 246, 253, 261, 269, 278, 287, 295, 303, 311, 319, 329, 335, 343, 350, 359, 368, 376, 384, 392, 401, 414, 429, 442]
def xs_pa : List Nat := [239, 247, 254, 262, 270, 279, 288, 296, 304, 312, 320, 330, 336, 344, 351, 360, 369, 377, 385, 393, 402, 415, 430, 443]
def xs_pl : List Nat := [240, 248, 255, 263, 271, 280, 289, 297, 305, 313, 321, 331, 337, 345, 352, 361, 370, 378, 386, 394, 403, 416, 431, 444]
def xs_si : List Nat := [895, 896, 897, 898, 899, 900, 901, 902, 903, 957, 958, 959, 968, 969, 977, 978, 979, 980, 981, 1154, 1248, 1249, 1250, 1251, 1252, 1293, 1294, 1295, 1296, 1297, 1298, 1300, 1301]
def xs_pq : List Nat := [0, 0, 0, 0, 0, 0, 0, 0, 0, 0, 0, 0, 0, 0, 0, 0, 0, 0, 0, 0, 0, 0, 0, 0, 458, 467, 477, 487, 496, 505, 513, 523, 532]
def xs_g1 : List Nat := [12, 13, 14, 15, 16, 17, 18, 19, 20, 21, 22, 23, 24, 25, 26, 27, 28, 29, 30, 31, 32, 33, 34, 35, 36, 37, 38, 39, 40, 41, 42, 43, 44, 45, 46, 47, 48, 49, 50, 51, 52, 53, 54, 55, 56, 57, 58, 59, 60, 61, 62, 63, 64, 65, 66, 67, 68, 69, 70, 71, 72, 73, 74, 75, 76, 77, 78, 79, 80, 81, 82, 83, 84, 85, 86, 87, 88, 89, 90, 91, 92, 93, 94, 95, 96, 97, 98, 99, 100, 101, 102, 103, 104, 105, 106, 107, 108, 109, 110, 111]
def xs_g2 : List Nat := [115, 116, 117, 118, 119, 120, 121, 122, 123, 124, 125, 126, 127, 128, 129, 130, 131, 132, 133, 134, 135, 136, 137, 138, 139, 140, 141, 142, 143, 144, 145, 146, 147, 148, 149, 150, 151, 152, 153, 154, 155, 156, 157, 158, 159, 160, 161, 162, 163, 164, 165, 166, 167, 168, 169, 170, 171, 172, 173, 174, 175, 176, 177, 178, 179, 180, 181, 182, 183, 184, 185, 186, 187, 188, 189, 190, 191, 192, 193, 194, 195, 196, 197, 198, 199, 200, 201, 202, 203, 204, 205, 206, 207, 208, 209, 210, 211, 212, 213, 214]
def xs_px : List (List Nat) := [[241, 242, 243, 244], [249, 250, 251], [256, 257, 258, 259], [264, 265, 266, 267], [272, 273, 274, 275, 276], [281, 282, 283, 284, 285], [290, 291, 292, 293], [298, 299, 300, 301], [306, 307, 308, 309], [314, 315, 316, 317], [322, 323, 324, 325, 326, 327], [332, 333], [338, 339, 340, 341], [346, 347, 348], [353, 354, 355, 356, 357], [362, 363, 364, 365, 366], [371, 372, 373, 374], [379, 380, 381, 382], [387, 388, 389, 390], [395, 396, 397, 398, 399], [404, 405, 406, 407, 408, 409, 410, 411, 412], [417, 418, 419, 420, 421, 422, 423, 424, 425, 426, 427], [432, 433, 434, 435, 436, 437, 438, 439, 440], [445, 446, 447, 448, 449]]
theorem xs_ex : ∀ i, i < 24 → xs_fl[xs_pe.getD i 0]? = some (Cond.exactly (xs_tm i) "java/lang/String") := by decide +kernel
theorem xs_co : ∀ i, i < 24 → xs_fl[xs_pc.getD i 0]? = some (Cond.eq (.field (xs_tm i) "java/lang/String" "coder" "B") (.int 0)) := by decide +kernel
theorem xs_ar : ∀ i, i < 24 → xs_fl[xs_pa.getD i 0]? = some (Cond.arrayOf (.field (xs_tm i) "java/lang/String" "value" "[B") .byte) := by decide +kernel
theorem xs_le : ∀ i, i < 24 → xs_fl[xs_pl.getD i 0]? = some (Cond.eq (.length (.field (xs_tm i) "java/lang/String" "value" "[B")) (.int (Int32.ofNat (xm_ln.getD i 0)))) := by decide +kernel
theorem xs_el : ∀ i, i < 24 → ∀ j, j < xm_ln.getD i 0 → xs_fl[(xs_px.getD i []).getD j 0]? = some (Cond.eq (.elem (.field (xs_tm i) "java/lang/String" "value" "[B") (.int (Int32.ofNat j))) (.int ((xm_by.getD i []).getD j 0))) := by decide +kernel
theorem xs_sr : ∀ n, n < 33 → (xm_use[n]?.map (fun q => Cond.stringRef q.1 q.2.1 (xm_tx.getD q.2.2 ""))) = lw_tbl[xs_si.getD n 0]? := by decide +kernel
theorem xs_sq : ∀ n, n < 33 → (xm_use[n]?.map (fun q => decide (q.2.2 < 24) && (decide ((q.1, q.2.1) = xs_q q.2.2) || decide (xs_fl[xs_pq.getD n 0]? = some (Cond.eq (xs_tm q.2.2) (Term.string q.1 q.2.1)))))) = some true := by decide +kernel
theorem xs_t1 : ∀ j, j < 100 → xs_fl[xs_g1.getD j 0]? = some (Cond.eq (.elem (.static "java/lang/Integer" "DigitOnes" "[B") (.int (Int32.ofNat j))) (.int (xm_J (48 + ((j % 10 : Nat) : Int))))) := by decide +kernel
theorem xs_t2 : ∀ j, j < 100 → xs_fl[xs_g2.getD j 0]? = some (Cond.eq (.elem (.static "java/lang/Integer" "DigitTens" "[B") (.int (Int32.ofNat j))) (.int (xm_J (48 + ((j / 10 : Nat) : Int))))) := by decide +kernel
theorem xs_dis : ∀ i, i < 24 → ∀ j, j < 24 → (xm_ln.getD i 0 = xm_ln.getD j 0 ∧ ∀ k, k < 12 → k < xm_ln.getD i 0 → (xm_by.getD i []).getD k 0 = (xm_by.getD j []).getD k 0) → i = j := by decide +kernel
theorem xs_ln12 : ∀ i, i < 24 → xm_ln.getD i 0 ≤ 12 := by decide +kernel
theorem xs_nst : ∀ q ∈ xm_nst, Cond.methodLinkNest q.1 q.2.1 q.2.2.1 q.2.2.2 ∈ lw_tbl := by
  have h : ∀ n, n < 9 → (xm_nst[n]?.map (fun q => Cond.methodLinkNest q.1 q.2.1 q.2.2.1 q.2.2.2)) = lw_tbl[[72, 105, 132, 164, 383, 402, 460, 486, 793].getD n 0]? := by decide +kernel
  intro q hq
  obtain ⟨n, hn⟩ := List.getElem?_of_mem hq
  have hn9 : n < 9 := by
    have := (List.getElem?_eq_some_iff.mp hn).1
    exact this
  have := h n hn9
  rw [hn] at this
  exact List.mem_of_getElem? this.symm
theorem xs_eqr {args : Array Value} {s : State} {t u : Term} {a : Nat} (h : (Cond.eq t u).before args s = true) (ht : t.eval args s none [] s = some (.ref a)) : u.eval args s none [] s = some (.ref a) := by
  cases hv : u.eval args s none [] s with
  | none => simp [Cond.before, Cond.holds, Cond.value, ht, hv] at h
  | some w =>
    simp only [Cond.before, Cond.holds, Cond.value, ht, hv] at h
    cases w <;> simp_all
theorem xs_eqi {args : Array Value} {s : State} {t : Term} {z : Int32} (h : (Cond.eq t (.int z)).before args s = true) : t.eval args s none [] s = some (.int z) := by
  cases hv : t.eval args s none [] s with
  | none => simp [Cond.before, Cond.holds, Cond.value, hv] at h
  | some w =>
    have hz : (Term.int z).eval args s none [] s = some (.int z) := rfl
    simp only [Cond.before, Cond.holds, Cond.value, hv, hz] at h
    cases w <;> simp_all
theorem xs_arr {s : State} {args : Array Value} {ty : FieldType} (hp : ∀ C, ty ≠ .object C) (h : (Cond.arrayClass ty).before args s = true) : ∃ cA, ArrOfT s cA ty ∧ va_RA s cA ty := by
  obtain ⟨cA, kA, comp, h1, h2, h3⟩ := Cond.arrayClass_spec h
  refine ⟨cA, fun n z => ⟨fun k h => (by cases h), kA, h2, comp, h3⟩, ?_⟩
  unfold va_RA
  split
  · exact absurd rfl (hp _)
  · exact h1
theorem xs_arq {s : State} {args : Array Value} {C : String} (h : (Cond.arrayOver (.object C)).before args s = true) : ∃ cA, ArrOfT s cA (.object C) ∧ va_RA s cA (.object C) := by
  obtain ⟨comp, cA, kA, h1, -, h2, h3, h4⟩ := Cond.arrayOver_spec h
  exact ⟨cA, fun n z => ⟨fun k h => (by cases h), kA, h2, comp, h3⟩, kA, comp, h2, h3, h1, h4⟩
/-- the texts: each by itself; two are not one, for they read otherwise -/
theorem xs_S {b : Nat} {s : State} {A : Nat → Prop} (hf : ∀ {w : Cond} (k : Nat), xs_fl[k]? = some w → w.before #[Value.ref b] s = true) (hA : ∀ a : Nat, a < s.heap.size → ¬ A a) : ∃ adK adV : Nat → Nat, vk_S 24 xm_ln xm_by adK adV A s s.heap ∧ ∀ i : Nat, i < 24 → (xs_tm i).eval #[Value.ref b] s none [] s = some (.ref (adK i)) := by
  have h1 : ∀ i, ∃ q : Nat × Nat, i < 24 → (va_O "java/lang/String" q.1 A s s.heap ∧ va_OF "java/lang/String" "coder" "B" (.int 0) q.1 A s s.heap ∧ va_OF "java/lang/String" "value" "[B" (.ref q.2) q.1 A s s.heap ∧ va_T .byte q.2 (xm_ln.getD i 0) (fun j => .int ((xm_by.getD i []).getD j 0)) A s s.heap) ∧ (xs_tm i).eval #[Value.ref b] s none [] s = some (.ref q.1) := by
    intro i
    by_cases hi : i < 24
    · obtain ⟨aK, aV, hS, hev⟩ := vk_Sof (args := #[Value.ref b]) (s := s) (N := 1) (tm := fun _ => xs_tm i) (len := [xm_ln.getD i 0]) (byt := [xm_by.getD i []]) (A := A)
        (fun j hj => by have e : j = 0 := by omega
                        subst e; exact Nat.lt_of_le_of_lt (xs_ln12 i hi) (by decide))
        (fun j hj => hf _ (xs_ex i hi)) (fun j hj => hf _ (xs_co i hi)) (fun j hj => hf _ (xs_ar i hi))
        (fun j hj => by have e : j = 0 := by omega
                        subst e; exact hf _ (xs_le i hi))
        (fun j hj k hk => by have e : j = 0 := by omega
                             subst e; exact hf _ (xs_el i hi k hk))
        (fun j k hj hk hjk => absurd (show j = k by omega) hjk) hA
      exact ⟨(aK 0, aV 0), fun _ => ⟨hS.1 0 (by decide), hev 0 (by decide)⟩⟩
    · exact ⟨(0, 0), fun z => absurd z hi⟩
  obtain ⟨q, hq⟩ := Classical.axiomOfChoice h1
  refine ⟨fun i => (q i).1, fun i => (q i).2, ⟨fun i hi => (hq i hi).1, fun i j hi hj e => ?_⟩, fun i hi => (hq i hi).2⟩
  obtain ⟨⟨-, -, hv1, ht1⟩, -⟩ := hq i hi
  obtain ⟨⟨-, -, hv2, ht2⟩, -⟩ := hq j hj
  have e1 : (q i).1 = (q j).1 := e
  rw [e1] at hv1
  have e2 : (q i).2 = (q j).2 := by
    obtain ⟨cf, k, n, f, cell, a1, a2, a3, a4, a5, a6⟩ := hv1
    obtain ⟨cf', k', n', f', cell', b1, b2, b3, b4, b5, b6⟩ := hv2
    cases a1.symm.trans b1
    cases a3.symm.trans b3
    exact Value.ref.inj (Option.some.inj (a5.symm.trans b5))
  rw [e2] at ht1
  obtain ⟨c1, a1, a2, a3, a4, a5, a6, a7⟩ := ht1
  obtain ⟨c2, b1, b2, b3, b4, b5, b6, b7⟩ := ht2
  cases a1.symm.trans b1
  have el : xm_ln.getD i 0 = xm_ln.getD j 0 := by
    have h := a5.symm.trans b5
    have k1 := xs_ln12 i hi
    have k2 := xs_ln12 j hj
    generalize xm_ln.getD i 0 = x at h k1
    generalize xm_ln.getD j 0 = y at h k2
    have key : ∀ x, x ≤ 12 → ∀ y, y ≤ 12 → Int32.ofNat x = Int32.ofNat y → x = y := by decide
    exact key x k1 y k2 h
  refine xs_dis i hi j hj ⟨el, fun k _ hk => ?_⟩
  have h := (a6 k hk).symm.trans (b6 k (el ▸ hk))
  have h2 := Option.some.inj h
  exact Value.int.inj h2
theorem xs_dgt {b : Nat} {s : State} {A : Nat → Prop} {n : String} {f : Nat → Int32} (harr : (Cond.arrayOf (.static "java/lang/Integer" n "[B") .byte).before #[Value.ref b] s = true) (hlen : (Cond.eq (.length (.static "java/lang/Integer" n "[B")) (.int 100)).before #[Value.ref b] s = true) (hel : ∀ j, j < 100 → (Cond.eq (.elem (.static "java/lang/Integer" n "[B") (.int (Int32.ofNat j))) (.int (f j))).before #[Value.ref b] s = true) (hl : (Cond.laysStatic "java/lang/Integer" n "[B").before #[Value.ref b] s = true) (hi : (Cond.initialized "java/lang/Integer").before #[Value.ref b] s = true) (hA : ∀ a : Nat, a < s.heap.size → ¬ A a) : ∃ t : Nat, va_Z "java/lang/Integer" n "[B" (.ref t) A s s.heap ∧ va_T .byte t 100 (fun j => .int (f j)) A s s.heap := by
  obtain ⟨t, h1, h2⟩ := va_Tof (args := #[Value.ref b]) (s := s) (tm := .static "java/lang/Integer" n "[B") (ty := .byte) (N := 100) (f := fun j => .int (f j)) (A := A) (by decide) harr (xs_eqi hlen) (fun j hj => xs_eqi (hel j hj)) hA
  exact ⟨t, va_Zref hl hi h1 hA, h2⟩
theorem xs_all {b L : Nat} {xs : Nat → Int32} {s : State} (el : Nat) (hts : ∀ w ∈ lw_tbl, w.before #[Value.ref b] s = true) (hgv : (Jvm.Cond.and given_1 narrow_1).before #[Value.ref b] s = true) (hX : va_X b L xs s s.heap) (hb : b < s.heap.size) : ∃ Γ : xm_Gm, xm_B Γ = s.heap.size - 1 ∧ xm_H0 Γ = s.heap ∧ xm_el Γ = 90 + el % 100000 ∧ xm_sb Γ = b ∧ xm_sN Γ = L ∧ xm_sx Γ = xs ∧ xm_K Γ s := by
  have hf : ∀ {w : Cond} (k : Nat), xs_fl[k]? = some w → w.before #[Value.ref b] s = true := fun k h => flat_of_before _ hgv _ (List.mem_of_getElem? h)
  have htb : ∀ w ∈ xm_tb, w.before #[Value.ref b] s = true := xm_allw hts
  have ht : ∀ {w : Cond} (k : Nat), lw_tbl[k]? = some w → w.before #[Value.ref b] s = true := fun k h => hts _ (List.mem_of_getElem? h)
  have hA : ∀ a : Nat, a < s.heap.size → ¬ (fun q => s.heap.size - 1 < q) a := fun a h => by show ¬ _ < _; omega
  obtain ⟨adK, adV, hS, hev⟩ := xs_S (A := fun q => s.heap.size - 1 < q) hf hA
  have hD : ∀ ci, ∃ q : ClassId × (Nat → Nat), ci < 11 → u_Kn s (xm_cR ci) (xm_cT ci) (xm_nf ci) q.1 q.2 := by
    intro ci
    by_cases h : ci < 11
    · have hi : Cond.instantiable (xm_cR ci) (xm_nf ci) ∈ xm_tb := by
        match ci, h with
        | 0, _ => exact xl_T_0
        | 1, _ => exact xl_T_1
        | 2, _ => exact xl_T_2
        | 3, _ => exact xl_T_3
        | 4, _ => exact xl_T_4
        | 5, _ => exact xl_T_5
        | 6, _ => exact xl_T_6
        | 7, _ => exact xl_T_7
        | 8, _ => exact xl_T_8
        | 9, _ => exact xl_T_9
        | 10, _ => exact xl_T_10
      obtain ⟨cC, iS, hk⟩ := u_known htb (xm_hin h) (htb _ hi)
      exact ⟨(cC, iS), fun _ => hk⟩
    · exact ⟨(0, fun _ => 0), fun z => absurd z h⟩
  obtain ⟨dd, hdd⟩ := Classical.axiomOfChoice hD
  obtain ⟨c1, a1⟩ := xs_arr (ty := .int) (fun C h => by cases h) (htb _ xl_A_int)
  obtain ⟨c2, a2⟩ := xs_arr (ty := .boolean) (fun C h => by cases h) (htb _ xl_A_boolean)
  obtain ⟨c3, a3⟩ := xs_arr (ty := .long) (fun C h => by cases h) (htb _ xl_A_long)
  obtain ⟨c6, a6⟩ := xs_arr (ty := .byte) (fun C h => by cases h) (htb _ xl_A_byte)
  have o4 : (Cond.arrayOver (.object RX3)).before #[Value.ref b] s = true := ht 110 (by decide +kernel)
  have o5 : (Cond.arrayOver (.object RX1)).before #[Value.ref b] s = true := ht 263 (by decide +kernel)
  have o7 : (Cond.arrayOver (.object "java/lang/String")).before #[Value.ref b] s = true := ht 1292 (by decide +kernel)
  obtain ⟨c4, a4⟩ := xs_arq o4
  obtain ⟨c5, a5⟩ := xs_arq o5
  obtain ⟨c7, a7⟩ := xs_arq o7
  obtain ⟨t1, z1, y1⟩ := xs_dgt (A := fun q => s.heap.size - 1 < q) (f := fun j => xm_J (48 + ((j % 10 : Nat) : Int))) (hf 10 (by decide +kernel)) (hf 11 (by decide +kernel)) (fun j hj => hf _ (xs_t1 j hj)) (ht 1237 (by decide +kernel)) (ht 59 (by decide +kernel)) hA
  obtain ⟨t2, z2, y2⟩ := xs_dgt (A := fun q => s.heap.size - 1 < q) (f := fun j => xm_J (48 + ((j / 10 : Nat) : Int))) (hf 113 (by decide +kernel)) (hf 114 (by decide +kernel)) (fun j hj => hf _ (xs_t2 j hj)) (ht 1239 (by decide +kernel)) (ht 59 (by decide +kernel)) hA
  refine ⟨(s.heap.size - 1, fun k => match k with | 1 => c1 | 2 => c2 | 3 => c3 | 4 => c4 | 5 => c5 | 6 => c6 | _ => c7, (fun k => (dd k).1, fun k => (dd k).2), s.heap, adK, adV, el, (b, L, xs), (t1, t2)), rfl, rfl, rfl, rfl, rfl, rfl, ⟨⟨?_, ?_⟩, hS, ?_, ?_, o4, o5, ?_, ?_, z1, z2, y1, y2, o7, hX, hb, Nat.le_sub_one_of_lt hb⟩⟩
  · intro c q hq
    have hc : c < 11 := by
      have := (List.getElem?_eq_some_iff.mp hq).1
      simpa [xm_cl] using this
    rw [xm_cl_at hc] at hq
    cases hq
    exact hdd c hc
  · intro k q hq
    match k, hq with
    | 0, hq => cases hq; exact a1
    | 1, hq => cases hq; exact a2
    | 2, hq => cases hq; exact a3
    | 3, hq => cases hq; exact a4
    | 4, hq => cases hq; exact a5
    | 5, hq => cases hq; exact a6
    | 6, hq => cases hq; exact a7
    | k + 7, hq => simp [xm_tys] at hq
  · intro q hq
    obtain ⟨n, hn⟩ := List.getElem?_of_mem hq
    have hnN : n < 33 := (List.getElem?_eq_some_iff.mp hn).1
    have h1 := xs_sr n hnN
    have h2 := xs_sq n hnN
    rw [hn] at h1 h2
    simp only [Option.map_some, Option.some.injEq, Bool.and_eq_true, Bool.or_eq_true, decide_eq_true_eq] at h1 h2
    refine vk_R.of (A := #[Value.ref b]) (ht _ h1.symm) ?_
    have he := hev q.2.2 h2.1
    rcases h2.2 with g | g
    · have e : Term.string q.1 q.2.1 = xs_tm q.2.2 := by unfold xs_tm; rw [← g]
      rw [e]
      exact he
    · exact xs_eqr (hf _ g) he
  · intro q hq
    exact va_tabs (A := #[Value.ref b]) (u := s) (U := s) (by rfl) rfl (hts _ (xs_nst q hq))
  · exact va_Zof (args := #[Value.ref b]) (ht 773 (by decide +kernel)) (ht 51 (by decide +kernel)) (va_eqi (hf 8 (by decide +kernel))) hA
  · exact va_Zqof (args := #[Value.ref b]) (ht 687 (by decide +kernel)) (ht 57 (by decide +kernel)) (hf 4 (by decide +kernel)) hA
/-- the cells that the law reads -/
def xm_cls (L : Nat) (xs : Nat → Int32) (k : Nat) : Int := if k < L then (xs k).toInt else xm_w (790386105 * xm_w ((k : Int) + 3))
theorem xm_cls_in (L : Nat) (xs : Nat → Int32) (k : Nat) : xm_in (xm_cls L xs k) := by
  unfold xm_cls
  split
  · exact xm_in_toInt _
  · exact xm_w_in _
theorem w_main {p : Program} {e : Env} {s : State} {m : MethodId} {below : List Frame} {meth : Method} {c : Code} (l : Launch) {b L : Nat} {xs : Nat → Int32} (hL : L ≤ 260) (C0 : lw_At p s m meth c b L xs) {el : Nat} (hel : 90 ≤ el ∧ el < 100090) {o : xm_Out} (ho : f_main (xm_cls L xs) (el : Int) = some o) : W p l e room_1 s m #[Value.ref b] below meth c s.heap [] 0 0 (lw_Z below #[Value.ref b] s) (entryFrame m ([Value.ref b] : List Value).toArray 17) := by
  obtain ⟨hx, hb, hr, hml, hown, hts, hX, hbl, hlocks, hgv⟩ := C0
  obtain ⟨Γ, hB, hH0, hEl, hsb, hsN, hsx, hK⟩ := xs_all (el - 90) hts hgv hX hbl
  have hl := lv_entry ([.ref b]) (n := 17) (Nat.le_of_ble_eq_true rfl)
  rw [lg_entry_eq]
  generalize (lg_sl ([.ref b]) ++ List.replicate (17 - (lg_sl ([.ref b])).length) Slot.unset).toArray = ls at hl ⊢
  have hl : lv_has ls 17 [(0, .ref b)] := hl
  have hC : xm_C (Γ, xm_I0, l, p, e, room_1, s, m, #[Value.ref b], below, meth, c, fun _ => lw_Z below #[Value.ref b] s) RL cL_law 17 12 600000 7302250 :=
    ⟨hx, hb, hml, hown, xm_allw hts, hK, hlocks, by show xm_B Γ < s.heap.size; omega, fun q _ => by show s.heap[q]? = (xm_H0 Γ)[q]?; rw [hH0], Nat.le_of_ble_eq_true rfl, Nat.le_of_ble_eq_true rfl, Nat.le_of_ble_eq_true rfl, Nat.le_of_ble_eq_true rfl⟩
  have hW : xm_LW (xm_sI (Γ, xm_I0, l, p, e, room_1, s, m, #[Value.ref b], below, meth, c, fun _ => lw_Z below #[Value.ref b] s) xm_I) (xm_cls L xs) :=
    ⟨fun k => by show xm_cls L xs k = xm_clv Γ k; unfold xm_cls xm_clv; rw [hsN, hsx], by show xm_sN Γ ≤ 100000; omega, b, rfl, rfl, hr, fun _ => rfl, fun q hq => by have : xm_B Γ < q := hq; show s.heap.size ≤ q; omega⟩
  have key := w_all hC rfl hW (el := (el : Int)) (by show (el : Int) = (xm_el Γ : Int); rw [hEl]; omega)
  have h0 : xm_R Γ xm_I0 xm_z s.heap := ⟨fun a h1 h2 => absurd (Nat.le_trans h1 h2) (by decide), by show s.heap.size = xm_B Γ + 1 + 0; omega, fun a k => ⟨xm_in0, fun _ => by show (0 : Int) ≤ 0 ∧ (0 : Int) ≤ 1; decide, fun _ => by show (0 : Int) ≤ 0; decide, fun _ => ⟨rfl, rfl⟩, fun _ => by show (0 : Int) ≤ 0 ∧ (0 : Int) ≤ 127; decide⟩, trivial, fun q _ => by rw [hH0], Or.inl (by decide)⟩
  exact key o ho s.heap [] ls h0 va_S.rf (by show lv_has ls c.maxLocals [(0, .ref (xm_sb Γ))]; rw [hml, hsb]; exact hl)

