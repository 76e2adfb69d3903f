/-! ===== the start: what the Statement gives of it (written by program) ===== -/
def xs_q (i : Nat) : String × Nat := [(RX6, 133), (RX6, 135), (RX6, 137), (RX6, 139), (RX6, 141), (RX6, 142), (RX6, 144), (RX6, 146), (RX6, 148), (RX6, 73), (RX6, 82), (RX6, 84), (RX6, 108), (RX6, 96), (RX6, 150), (RX6, 152), (RX6, 154), (RX6, 156), (RX6, 158), (RX11, 327), (RX11, 339), (RX11, 352)].getD i ("", 0)
def xs_tm (i : Nat) : Term := Term.string (xs_q i).1 (xs_q i).2
def xs_fl : List Cond := flatC (Jvm.Cond.and given_1 narrow_1)
def xs_pe : List Nat := [9, 17, 25, 35, 46, 59, 73, 87, 102, 118, 135, 155, 172, 192, 212, 235, 259, 283, 308, 334, 402, 524]
def xs_pc : List Nat := [10, 18, 26, 36, 47, 60, 74, 88, 103, 119, 136, 156, 173, 193, 213, 236, 260, 284, 309, 335, 403, 525]
def xs_pa : List Nat := [11, 19, 27, 37, 48, 61, 75, 89, 104, 120, 137, 157, 174, 194, 214, 237, 261, 285, 310, 336, 404, 526]
def xs_pl : List Nat := [12, 20, 28, 38, 49, 62, 76, 90, 105, 121, 138, 158, 175, 195, 215, 238, 262, 286, 311, 337, 405, 527]
def xs_si : List Nat := [557, 558, 559, 560, 561, 562, 563, 564, 565, 638, 639, 640, 649, 650, 658, 659, 660, 661, 662, 1387, 1402, 1403, 1416, 1417, 1418]
def xs_pq : List Nat := [0, 0, 0, 0, 0, 0, 0, 0, 0, 0, 0, 0, 0, 0, 0, 0, 0, 0, 0, 0, 0, 454, 484, 514, 0]
def xs_px : List (List Nat) := [[13, 14, 15, 16], [21, 22, 23], [29, 30, 31, 32], [39, 40, 41, 42], [50, 51, 52, 53, 54], [63, 64, 65, 66, 67], [77, 78, 79, 80], [91, 92, 93, 94], [106, 107, 108, 109], [122, 123, 124, 125], [139, 140, 141, 142, 143, 144], [159, 160], [176, 177, 178, 179], [196, 197, 198], [216, 217, 218, 219, 220], [239, 240, 241, 242, 243], [263, 264, 265, 266], [287, 288, 289, 290], [312, 313, 314, 315], [338, 339, 340, 341, 342, 343, 344, 345, 346, 347, 348, 349, 350, 351, 352, 353, 354, 355, 356, 357, 358, 359, 360, 361, 362, 363, 364, 365, 366, 367, 368, 369, 370, 371, 372, 373, 374, 375, 376, 377, 378, 379, 380, 381, 382], [406, 407, 408, 409, 410, 411, 412, 413, 414, 415, 416], [528, 529, 530, 531, 532, 533, 534, 535, 536, 537, 538, 539, 540, 541, 542, 543, 544, 545, 546, 547, 548, 549, 550, 551, 552, 553, 554, 555, 556, 557, 558]]
def xs_pn : List (List Nat) := [[], [24], [33, 34], [43, 44, 45], [55, 56, 57, 58], [68, 69, 70, 71, 72], [81, 82, 83, 84, 85, 86], [95, 96, 97, 98, 99, 100, 101], [110, 111, 112, 113, 114, 115, 116, 117], [126, 127, 128, 129, 130, 131, 132, 133, 134], [145, 146, 147, 148, 149, 150, 151, 152, 153, 154], [161, 162, 163, 164, 165, 166, 167, 168, 169, 170, 171], [180, 181, 182, 183, 184, 185, 186, 187, 188, 189, 190, 191], [199, 200, 201, 202, 203, 204, 205, 206, 207, 208, 209, 210, 211], [221, 222, 223, 224, 225, 226, 227, 228, 229, 230, 231, 232, 233, 234], [244, 245, 246, 247, 248, 249, 250, 251, 252, 253, 254, 255, 256, 257, 258], [267, 268, 269, 270, 271, 272, 273, 274, 275, 276, 277, 278, 279, 280, 281, 282], [291, 292, 293, 294, 295, 296, 297, 298, 299, 300, 301, 302, 303, 304, 305, 306, 307], [316, 317, 318, 319, 320, 321, 322, 323, 324, 325, 326, 327, 328, 329, 330, 331, 332, 333], [383, 384, 385, 386, 387, 388, 389, 390, 391, 392, 393, 394, 395, 396, 397, 398, 399, 400, 401], [417, 418, 419, 420, 421, 422, 423, 424, 425, 426, 427, 428, 429, 430, 431, 432, 433, 434, 435, 436], [559, 560, 561, 562, 563, 564, 565, 566, 567, 568, 569, 570, 571, 572, 573, 574, 575, 576, 577, 578, 579]]
theorem xs_ex : ∀ i, i < 22 → xs_fl[xs_pe.getD i 0]? = some (Cond.exactly (xs_tm i) "java/lang/String") := by decide +kernel
theorem xs_co : ∀ i, i < 22 → xs_fl[xs_pc.getD i 0]? = some (Cond.eq (.field (xs_tm i) "java/lang/String" "coder" "B") (.int 0)) := by decide +kernel
theorem xs_ar : ∀ i, i < 22 → xs_fl[xs_pa.getD i 0]? = some (Cond.arrayOf (.field (xs_tm i) "java/lang/String" "value" "[B") .byte) := by decide +kernel
theorem xs_le : ∀ i, i < 22 → xs_fl[xs_pl.getD i 0]? = some (Cond.eq (.length (.field (xs_tm i) "java/lang/String" "value" "[B")) (.int (Int32.ofNat (xm_ln.getD i 0)))) := by decide +kernel
theorem xs_el : ∀ i, i < 22 → ∀ j, j < xm_ln.getD i 0 → xs_fl[(xs_px.getD i []).getD j 0]? = some (Cond.eq (.elem (.field (xs_tm i) "java/lang/String" "value" "[B") (.int (Int32.ofNat j))) (.int ((xm_by.getD i []).getD j 0))) := by decide +kernel
theorem xs_ne : ∀ i, i < 22 → ∀ j, j < i → xs_fl[(xs_pn.getD i []).getD j 0]? = some (Cond.not (Cond.eq (xs_tm j) (xs_tm i))) := by decide +kernel
theorem xs_sr : ∀ n, n < 25 → (xm_use[n]?.map (fun q => Cond.stringRef q.1 q.2.1 (xm_tx.getD q.2.2 ""))) = lw_tbl[xs_si.getD n 0]? := by decide +kernel
theorem xs_sq : ∀ n, n < 25 → (xm_use[n]?.map (fun q => decide (q.2.2 < 22) && (decide ((q.1, q.2.1) = xs_q q.2.2) || decide (xs_fl[xs_pq.getD n 0]? = some (Cond.eq (xs_tm q.2.2) (Term.string q.1 q.2.1)))))) = some true := by decide +kernel
theorem xs_nst : ∀ q ∈ xm_nst, Cond.methodLinkNest q.1 q.2.1 q.2.2.1 q.2.2.2 ∈ lw_tbl := by
  have h : ∀ n, n < 9 → (xm_nst[n]?.map (fun q => Cond.methodLinkNest q.1 q.2.1 q.2.2.1 q.2.2.2)) = lw_tbl[[129, 162, 189, 221, 450, 712, 866, 996, 1018].getD n 0]? := by decide +kernel
  intro q hq
  obtain ⟨n, hn⟩ := List.getElem?_of_mem hq
  have hn9 : n < 9 := by
    have := (List.getElem?_eq_some_iff.mp hn).1
    exact this
  have := h n hn9
  rw [hn] at this
  exact List.mem_of_getElem? this.symm
theorem xs_eqr {args : Array Value} {s : State} {t u : Term} {a : Nat} (h : (Cond.eq t u).before args s = true) (ht : t.eval args s none [] s = some (.ref a)) : u.eval args s none [] s = some (.ref a) := by
  cases hv : u.eval args s none [] s with
  | none => simp [Cond.before, Cond.holds, Cond.value, ht, hv] at h
  | some w =>
    simp only [Cond.before, Cond.holds, Cond.value, ht, hv] at h
    cases w <;> simp_all
theorem xs_arr {s : State} {args : Array Value} {ty : FieldType} (hp : ∀ C, ty ≠ .object C) (h : (Cond.arrayClass ty).before args s = true) : ∃ cA, ArrOfT s cA ty ∧ va_RA s cA ty := by
  obtain ⟨cA, kA, comp, h1, h2, h3⟩ := Cond.arrayClass_spec h
  refine ⟨cA, fun n z => ⟨fun k h => (by cases h), kA, h2, comp, h3⟩, ?_⟩
  unfold va_RA
  split
  · exact absurd rfl (hp _)
  · exact h1
theorem xs_arq {s : State} {args : Array Value} {C : String} (h : (Cond.arrayOver (.object C)).before args s = true) : ∃ cA, ArrOfT s cA (.object C) ∧ va_RA s cA (.object C) := by
  obtain ⟨comp, cA, kA, h1, -, h2, h3, h4⟩ := Cond.arrayOver_spec h
  exact ⟨cA, fun n z => ⟨fun k h => (by cases h), kA, h2, comp, h3⟩, kA, comp, h2, h3, h1, h4⟩
theorem xs_all {b : Nat} {s : State} (hts : ∀ w ∈ lw_tbl, w.before #[Value.ref b] s = true) (hgv : (Jvm.Cond.and given_1 narrow_1).before #[Value.ref b] s = true) (hb : b < s.heap.size) : ∃ Γ : xm_Gm, xm_B Γ = s.heap.size - 1 ∧ xm_H0 Γ = s.heap ∧ xm_K Γ s := by
  have hf : ∀ {w : Cond} (k : Nat), xs_fl[k]? = some w → w.before #[Value.ref b] s = true := fun k h => flat_of_before _ hgv _ (List.mem_of_getElem? h)
  have htb : ∀ w ∈ xm_tb, w.before #[Value.ref b] s = true := fun w hw => hts w (xm_good hw).1
  have ht : ∀ {w : Cond} (k : Nat), lw_tbl[k]? = some w → w.before #[Value.ref b] s = true := fun k h => hts _ (List.mem_of_getElem? h)
  have hA : ∀ a : Nat, a < s.heap.size → ¬ (fun q => s.heap.size - 1 < q) a := fun a h => by show ¬ _ < _; omega
  obtain ⟨adK, adV, hS, hev⟩ := vk_Sof (args := #[Value.ref b]) (s := s) (N := 22) (tm := xs_tm) (len := xm_ln) (byt := xm_by) (A := fun q => s.heap.size - 1 < q) (fun i hi => Nat.lt_trans (xm_ln_ok i hi) (by decide)) (fun i hi => hf _ (xs_ex i hi)) (fun i hi => hf _ (xs_co i hi)) (fun i hi => hf _ (xs_ar i hi)) (fun i hi => hf _ (xs_le i hi)) (fun i hi j hj => hf _ (xs_el i hi j hj)) (fun i j hi hj hij => by
    rcases Nat.lt_or_gt_of_ne hij with h | h
    · exact Or.inl (hf _ (xs_ne j hj i h))
    · exact Or.inr (hf _ (xs_ne i hi j h))) hA
  have hD : ∀ ci, ∃ q : ClassId × (Nat → Nat), ci < 11 → u_Kn s (xm_cR ci) (xm_cT ci) (xm_nf ci) q.1 q.2 := by
    intro ci
    by_cases h : ci < 11
    · have hi : Cond.instantiable (xm_cR ci) (xm_nf ci) ∈ xm_tb := by
        match ci, h with
        | 0, _ => exact xl_T_0
        | 1, _ => exact xl_T_1
        | 2, _ => exact xl_T_2
        | 3, _ => exact xl_T_3
        | 4, _ => exact xl_T_4
        | 5, _ => exact xl_T_5
        | 6, _ => exact xl_T_6
        | 7, _ => exact xl_T_7
        | 8, _ => exact xl_T_8
        | 9, _ => exact xl_T_9
        | 10, _ => exact xl_T_10
      obtain ⟨cC, iS, hk⟩ := u_known htb (xm_hin h) (htb _ hi)
      exact ⟨(cC, iS), fun _ => hk⟩
    · exact ⟨(0, fun _ => 0), fun z => absurd z h⟩
  obtain ⟨dd, hdd⟩ := Classical.axiomOfChoice hD
  obtain ⟨c1, a1⟩ := xs_arr (ty := .int) (fun C h => by cases h) (htb _ xl_A_int)
  obtain ⟨c2, a2⟩ := xs_arr (ty := .boolean) (fun C h => by cases h) (htb _ xl_A_boolean)
  obtain ⟨c3, a3⟩ := xs_arr (ty := .long) (fun C h => by cases h) (htb _ xl_A_long)
  have o4 : (Cond.arrayOver (.object RX3)).before #[Value.ref b] s = true := ht 167 (by decide +kernel)
  have o5 : (Cond.arrayOver (.object RX1)).before #[Value.ref b] s = true := ht 320 (by decide +kernel)
  obtain ⟨c4, a4⟩ := xs_arq o4
  obtain ⟨c5, a5⟩ := xs_arq o5
  refine ⟨(s.heap.size - 1, fun k => match k with | 1 => c1 | 2 => c2 | 3 => c3 | 4 => c4 | _ => c5, (fun k => (dd k).1, fun k => (dd k).2), s.heap, adK, adV), rfl, rfl, ⟨⟨?_, ?_⟩, hS, ?_, ?_, o4, o5, ?_, ?_⟩⟩
  · intro c q hq
    have hc : c < 11 := by
      have := (List.getElem?_eq_some_iff.mp hq).1
      simpa [xm_cl] using this
    rw [xm_cl_at hc] at hq
    cases hq
    exact hdd c hc
  · intro k q hq
    match k, hq with
    | 0, hq => cases hq; exact a1
    | 1, hq => cases hq; exact a2
    | 2, hq => cases hq; exact a3
    | 3, hq => cases hq; exact a4
    | 4, hq => cases hq; exact a5
    | k + 5, hq => simp [xm_tys] at hq
  · intro q hq
    obtain ⟨n, hn⟩ := List.getElem?_of_mem hq
    have hn25 : n < 25 := (List.getElem?_eq_some_iff.mp hn).1
    have h1 := xs_sr n hn25
    have h2 := xs_sq n hn25
    rw [hn] at h1 h2
    simp only [Option.map_some, Option.some.injEq, Bool.and_eq_true, Bool.or_eq_true, decide_eq_true_eq] at h1 h2
    refine vk_R.of (A := #[Value.ref b]) (ht _ h1.symm) ?_
    have he := hev q.2.2 h2.1
    rcases h2.2 with g | g
    · have e : Term.string q.1 q.2.1 = xs_tm q.2.2 := by unfold xs_tm; rw [← g]
      rw [e]
      exact he
    · exact xs_eqr (hf _ g) he
  · intro q hq
    exact va_tabs (A := #[Value.ref b]) (u := s) (U := s) (by rfl) rfl (hts _ (xs_nst q hq))
  · exact va_Zof (args := #[Value.ref b]) (ht 579 (by decide +kernel)) (ht 113 (by decide +kernel)) (va_eqi (hf 4 (by decide +kernel))) hA
  · exact va_Zqof (args := #[Value.ref b]) (ht 595 (by decide +kernel)) (ht 115 (by decide +kernel)) (hf 5 (by decide +kernel)) hA
