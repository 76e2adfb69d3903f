/-! ===== rows of the law's own: the rules' texts, the line ===== -/
/-- the line, newly made -/
def xm_mkL (σ : xm_Mem) : xm_Mem := (fun a k => if a = 110 then 0 else if a = 109 ∧ k = 0 then 1 else σ.1 a k, σ.2)
theorem xm_asg (vm : Vm) (c : ClassId) : vm.assignable c c = true := by
  show Vm.assignableAux vm (255 + 1) c c = true
  rw [Vm.assignableAux]
  simp
theorem xm_l110 : xm_lay 110 = (8, 24) := by decide
theorem xm_l86 : xm_lay 86 = (7, 5) := by decide
section XLE
variable {X : xm_X} {own : String} {cc : ByteArray} {nL fr mc ms kc sc : Nat} {r r1 r2 : Option xm_Out} {σ : xm_Mem} {pc : Nat} {l l' : List (Nat × Value)} {st : List Value}
/-- a store, its number of cells known -/
theorem xg_stE {k : xm_Mem → Option xm_Out} {n : Nat} (h2 : σ.2.2 = n) (h : ∀ s : xm_Mem, s.2.2 = n → xm_V X kc sc (k s) s pc l st) : xm_V X kc sc (xm_st σ k) σ pc l st := h σ h2
theorem xg_newS (hC : xm_C X own cc nL fr mc ms) {idx N : Nat} {n : Int} (hn : (N : Int) = n) (hN : N ≤ 100000) (hlay : xm_lay (σ.2.2 + 1) = (7, N)) (hnx : xm_nxt σ) (h1 : Cond.classLink own idx "java/lang/String" ∈ xm_tb) (hcap : kc + 1 ≤ mc ∧ sc + N ≤ ms) (hI : xx_I X σ → xx_I X (xm_nw σ)) (hd : decode cc pc = .ok (.anewarray idx, 3)) (kk : xm_V X (kc + 1) (sc + N) r (xm_nw σ) (pc + 3) l (.ref (xm_ad (xx_G X) (σ.2.2 + 1)) :: st)) : xm_V X kc sc r σ pc l (.int (xm_J n) :: st) := by
  intro o ho H locs ls hR hS hL
  have hts := hC.2.2.2.2.1
  have hK := hC.2.2.2.2.2.1.1
  have hcp := hC.2.2.2.2.2.2.2.2.2.2.2
  have hsz : H.size = xm_ad (xx_G X) (σ.2.2 + 1) := (xm_nx hR hnx).1
  have hz := hR.2.2.1
  subst hn
  have hin : xm_in (N : Int) := ⟨by omega, by omega⟩
  have hpos : ¬ xm_J (N : Int) < 0 := by
    rw [← xm_J0, xm_J_lt hin xm_in0]; omega
  have hcl : (xm_J (N : Int)).toNatClampNeg = N := by rw [xm_clamp hin]; omega
  have hover : va_AO "java/lang/String" (xx_s X) := hC.2.2.2.2.2.1.2.2.2.2.2.2.2.2.2.2.2.2.1
  refine W.anew hC.1 hC.2.1 hC.2.2.2.1 (hts _ h1) (va_AO.use hover) rfl hd rfl hpos (by rw [hcl]; omega) (Nat.le_trans hcap.1 hcp.1) (by rw [hcl]; exact Nat.le_trans hcap.2 hcp.2) fun cA kA comp f1 f2 f3 f4 => ?_
  rw [hcl]
  generalize hH1 : H.push ({ cls := cA, slots := Array.replicate N .null, vm := .none } : Cell) = H1
  have z1 : H1.size = H.size + 1 := by rw [← hH1, Array.size_push]
  have e1 : H1[H.size]? = some (arrV cA N (fun _ => .null)) := by rw [← hH1, Array.getElem?_push_size, ← arrV_new]
  have o1 : ∀ q, q < H.size → H1[q]? = H[q]? := by
    intro q hq
    rw [← hH1, Array.getElem?_push, if_neg (Nat.ne_of_lt hq)]
  have key := kk o ho H1 locs ls (hR.nw hnx (hI hR.2.2.2.1) ?_ z1 o1) ⟨Nat.le_trans hS.1 (by omega), fun x g1 g2 => (o1 x (Nat.lt_of_lt_of_le g1 hS.1)).trans (hS.2.1 x g1 g2), hS.2.2⟩ hL
  · rw [← hsz] at key
    exact key
  · have g : ∀ k, σ.1 (σ.2.2 + 1) k = 0 := fun k => ((hz (σ.2.2 + 1) k).2.2.2.1 (Nat.lt_succ_self _)).1
    rw [xm_cell_7 hlay]
    have hc : cA = xm_cA (xx_G X) 7 := by
      obtain ⟨_, _, _, _, _, k4⟩ := (hK.2 6 _ rfl).2
      exact Option.some.inj (f1.symm.trans k4)
    subst hc
    show H1[xm_ad (xx_G X) (σ.2.2 + 1)]? = some (vp_cell _ _)
    rw [← hsz, e1]
    simp only [g]
    rfl
theorem xg_sast (hC : xm_C X own cc nL fr mc ms) {a n i id : Nat} (hl : xm_lay a = (7, n)) (ha : 1 ≤ a ∧ a ≤ σ.2.2) (hi : i < n) (hn : n ≤ 1000) (hid : id < 24) (hI : xm_kp X σ a i ((id : Int) + 1)) (hd : decode cc pc = .ok (.aastore, 1)) (kk : xm_V X kc sc r (xm_u1 σ a i ((id : Int) + 1)) (pc + 1) l st) : xm_V X kc sc r σ pc l (.ref (xm_adK (xx_G X) id) :: .int (xm_J (i : Int)) :: .ref (xm_ad (xx_G X) a) :: st) := by
  refine xg_facts (fun hT hI2 o ho H locs ls hR hS hL => ?_)
  obtain ⟨h1, h2⟩ := ha
  have hii : xm_in (i : Int) := ⟨by omega, by omega⟩
  have h7 : (xm_lay a).1 ≤ 7 := xm_k7 hl (by decide)
  have hP := hR.1 a h1 h2 (Or.inl h7)
  rw [xm_cell_7 hl] at hP
  have hin := xm_vp (n := n) hii ⟨by omega, by omega⟩
  have hA : xm_A X (xm_ad (xx_G X) a) := xm_ad_gt h1
  have hK := hC.2.2.2.2.2.1.1
  have hTu : xm_T (xm_u1 σ a i ((id : Int) + 1)) := hT.u1 h2 ⟨by omega, by omega⟩ (fun q => by simp only [xm_tk, hl] at q; cases q) (fun _ => by omega) (fun q => by simp only [xm_tk, hl] at q; cases q)
  obtain ⟨cv, v1, v2, v3, v4⟩ := ((xm_S0 hC).1 id hid).1
  have v5 : H[xm_adK (xx_G X) id]? = some cv := by rw [hS.2.1 _ (Array.getElem?_eq_some_iff.mp v1).1 v4]; exact v1
  obtain ⟨kA, comp, k1, k2, k3, -⟩ := (hK.2 6 _ rfl).2
  have hcomp : comp = cv.cls := Option.some.inj (k3.symm.trans v3)
  subst hcomp
  obtain ⟨kC, hkC, -⟩ := Vm.findClass_spec v3
  refine W.aast hC.1 hC.2.1 hP (fun q h => by cases h) (fun h => by cases h) k1 k2 rfl hkC ⟨fun z => hin (Or.inl z), Nat.not_le.mp (fun z => hin (Or.inr (by
    have e : (arrV (xm_cA (xx_G X) 7) n (fun j => va_rf (xm_sn (xx_G X) (σ.1 a j)))).slots.size = n := arrV_size _ _ _
    exact e ▸ z)))⟩ v5 (fun q h => by rw [h] at v2; cases v2) hkC (xm_asg _ _) rfl rfl hd (fun H1 e z oq => ?_)
  refine kk o ho H1 _ ls (hR.put h1 rfl (xm_u1_109 h7) hTu (hI hI2) (fun b hb => xm_cell_u1 hb) ?_ z oq) (hS.put z oq hA) hL
  rw [xm_cell_7 hl]
  show H1[_]? = some (vp_cell _ _)
  rw [e]
  show some ((arrV (xm_cA (xx_G X) 7) n (fun j => va_rf (xm_sn (xx_G X) (σ.1 a j)))).setSlot _ _) = _
  rw [arrV_store]
  refine congrArg some (show arrV _ n _ = arrV _ n (fun j => va_rf (xm_sn (xx_G X) ((xm_u1 σ a i ((id : Int) + 1)).1 a j))) from congrArg (arrV _ n) (funext fun q => ?_))
  rw [xm_clamp hii, Int.toNat_natCast]
  by_cases hq : q = i
  · subst hq
    simp only [updV, if_true, xm_u1_at]
    unfold xm_sn
    rw [if_neg (by omega), show ((id : Int) + 1).toNat - 1 = id by omega]
    rfl
  · simp only [updV, if_neg hq]
    rw [xm_u1_ne σ _ (fun z => hq z.2)]
theorem xg_saldT (hC : xm_C X own cc nL fr mc ms) {a n id : Nat} {i : Int} (hl : xm_lay a = (7, n)) (ha : xx_I X σ → 1 ≤ a ∧ a ≤ σ.2.2) (hi : xm_in i) (h : 0 ≤ i ∧ i < (n : Int)) (he : σ.1 a i.toNat = (id : Int) + 1) (hd : decode cc pc = .ok (.aaload, 1)) (kk : xm_V X kc sc r σ (pc + 1) l (.ref (xm_adK (xx_G X) id) :: st)) : xm_V X kc sc r σ pc l (.int (xm_J i) :: .ref (xm_ad (xx_G X) a) :: st) := by
  refine xg_facts (fun hT hI o ho H locs ls hR hS hL => ?_)
  obtain ⟨h1, h2⟩ := ha hI
  refine va_aldq hC.1 hC.2.1 hC.2.2.2.2.2.1.1 (hR.w1 h1 h2 (xm_k7 hl (by decide)) (xm_cell_7 hl)) 0 6 rfl rfl (xm_vp hi h) hd ?_
  rw [xm_clamp hi]
  have e : va_rf (xm_sn (xx_G X) (σ.1 a i.toNat)) = .ref (xm_adK (xx_G X) id) := by
    rw [he]
    unfold xm_sn
    rw [if_neg (by omega), show ((id : Int) + 1).toNat - 1 = id by omega]
    rfl
  show xm_W X H locs kc sc o (F0 (xx_m X) (pc + 1) ls (va_rf (xm_sn (xx_G X) (σ.1 a i.toNat)) :: st))
  rw [e]
  exact kk o ho H locs ls hR hS hL
theorem xg_newL (hC : xm_C X own cc nL fr mc ms) {n : Int} (hn : n = 24) (h110 : 110 ≤ σ.2.2) (hf : σ.1 109 0 = 0) (hl : σ.1 109 1 = (σ.2.2 : Int) - 20) (h1 : Cond.arrayClass .int ∈ xm_tb) (hcap : kc + 1 ≤ mc ∧ sc + 24 ≤ ms) (hI : xx_I X σ → xx_I X (xm_mkL σ)) (hd : decode cc pc = .ok (.newarray .int, 2)) (kk : xm_V X (kc + 1) (sc + 24) r (xm_mkL σ) (pc + 2) l (.ref (xm_ad (xx_G X) 110) :: st)) : xm_V X kc sc r σ pc l (.int (xm_J n) :: st) := by
  intro o ho H locs ls hR hS hL
  have hts := hC.2.2.2.2.1
  have hK := hC.2.2.2.2.2.1.1
  have hcp := hC.2.2.2.2.2.2.2.2.2.2.2
  have hgh := hR.2.2.2.2.2
  have hel := xm_el_rg (xx_G X)
  have hsz0 := hR.2.1
  have g1 : σ.1 109 1 = (xm_el (xx_G X) : Int) ∧ σ.2.2 < 1000000 := by
    rcases hgh with z | z
    · omega
    · exact ⟨z.2.2.1, z.2.1⟩
  have hel2 : xm_el (xx_G X) = σ.2.2 - 20 := by have := g1.1; omega
  have htop : xm_top σ = σ.2.2 - 21 := by
    unfold xm_top
    rw [if_neg (by omega), hf]
    rfl
  have hsz : H.size = xm_ad (xx_G X) 110 := by
    unfold xm_ad xm_of
    rw [if_neg (by decide), if_neg (by decide), if_pos rfl]
    omega
  subst hn
  refine va_newaK hC.1 hC.2.1 (hts _ (show Cond.arrayClass (newarray.typeOf .int) ∈ xm_tb from h1)) rfl hd rfl (by decide) (show (xm_J 24).toNatClampNeg = 24 from by decide) (show 24 * componentBytes FieldType.int ≤ 536870912 by decide) (Nat.le_trans hcap.1 hcp.1) (Nat.le_trans hcap.2 hcp.2) hsz fun H1 cA e1 z1 o1 hAr hNm => ?_
  have hc : cA = xm_cA (xx_G X) 1 := by
    have := (hK.2 0 _ rfl).2
    exact Option.some.inj (hNm.symm.trans this)
  have oq : ∀ q : Nat, q < H.size → H1[q]? = H[q]? := fun q hq => o1 q (by rw [← hsz]; exact hq)
  have hT := hR.2.2.1
  have h109 : xm_lay 109 = (9, 0) := by decide
  refine kk o ho H1 locs ls ⟨fun b b1 b2 b3 => ?_, ?_, fun a k => ?_, hI hR.2.2.2.1, fun q hq => by rw [oq q (by rw [hsz0]; omega)]; exact hR.2.2.2.2.1 q hq, ?_⟩ ⟨Nat.le_trans hS.1 (by rw [hsz, z1]; omega), fun x g1 g2 => (oq x (Nat.lt_of_lt_of_le g1 hS.1)).trans (hS.2.1 x g1 g2), hS.2.2⟩ hL
  · by_cases hb : b = 110
    · subst hb
      rw [xm_cell_8 xm_l110]
      show H1[_]? = some (vp_cell _ _)
      rw [e1, hc]
      rfl
    · have hb9 : b ≠ 109 := fun z => by
        rcases b3 with z3 | z3
        · rw [z, h109] at z3; exact absurd z3 (by decide)
        · rw [z, h109] at z3; exact absurd z3.1 (by decide)
      have b4 : xm_lv σ b := by
        rcases b3 with z3 | z3
        · exact Or.inl z3
        · exfalso
          have : ∀ b, b < 300 → b ≠ 110 → ¬ (xm_lay b).1 = 8 := by decide +kernel
          by_cases h3 : b < 300
          · exact this b h3 hb z3.1
          · have e9 : xm_lay b = (0, 2) := by
              unfold xm_lay
              rw [List.getD_eq_getElem?_getD, List.getElem?_eq_none (by
                have : xm_layL.length ≤ 300 := by decide +kernel
                omega)]
              rfl
            rw [e9] at z3
            exact absurd z3.1 (by decide)
      have hat := hR.1 b b1 b2 b4
      have ec : xm_cell (xx_G X) (xm_mkL σ) b = xm_cell (xx_G X) σ b := by
        have e : ∀ i, (xm_mkL σ).1 b i = σ.1 b i := fun i => by
          show (if b = 110 then (0 : Int) else if b = 109 ∧ i = 0 then 1 else σ.1 b i) = _
          rw [if_neg hb, if_neg (fun z => hb9 z.1)]
        unfold xm_cell
        simp only [e]
        rfl
      rw [ec]
      exact hat.kept (oq _ (va_at.lt hat))
  · have : xm_top (xm_mkL σ) = σ.2.2 - 21 + 1 := by
      unfold xm_top
      rw [if_neg (show ¬ (xm_mkL σ).2.2 ≤ 89 from by show ¬ σ.2.2 ≤ 89; omega)]
      rfl
    rw [z1, this, ← hsz, hsz0, htop]
    omega
  · show xm_in (if a = 110 then (0 : Int) else if a = 109 ∧ k = 0 then 1 else σ.1 a k) ∧ (xm_tk a k = 3 → 0 ≤ (if a = 110 then (0 : Int) else if a = 109 ∧ k = 0 then 1 else σ.1 a k) ∧ (if a = 110 then (0 : Int) else if a = 109 ∧ k = 0 then 1 else σ.1 a k) ≤ 1) ∧ (xm_tk a k = 1 → 0 ≤ (if a = 110 then (0 : Int) else if a = 109 ∧ k = 0 then 1 else σ.1 a k)) ∧ (σ.2.2 < a → (if a = 110 then (0 : Int) else if a = 109 ∧ k = 0 then 1 else σ.1 a k) = 0 ∧ σ.2.1 a k = 0) ∧ (xm_tk a k = 4 → 0 ≤ (if a = 110 then (0 : Int) else if a = 109 ∧ k = 0 then 1 else σ.1 a k) ∧ (if a = 110 then (0 : Int) else if a = 109 ∧ k = 0 then 1 else σ.1 a k) ≤ 127)
    have hTa := hT a k
    by_cases ha : a = 110
    · rw [if_pos ha]
      exact ⟨xm_in0, fun _ => ⟨by decide, by decide⟩, fun _ => by decide, fun z => ⟨rfl, (hTa.2.2.2.1 z).2⟩, fun _ => ⟨by decide, by decide⟩⟩
    · rw [if_neg ha]
      by_cases hb : a = 109 ∧ k = 0
      · rw [if_pos hb]
        exact ⟨xm_inc _ rfl, fun _ => ⟨by decide, by decide⟩, fun _ => by decide, fun z => by omega, fun _ => ⟨by decide, by decide⟩⟩
      · rw [if_neg hb]
        exact hTa
  · refine Or.inr ⟨h110, g1.2, ?_, Or.inr ⟨?_, ?_⟩⟩
    · show (if 109 = 110 then (0 : Int) else if 109 = 109 ∧ 1 = 0 then 1 else σ.1 109 1) = _
      rw [if_neg (by decide), if_neg (by decide)]
      exact g1.1
    · rfl
    · show xm_el (xx_G X) ≤ σ.2.2 - 20
      omega
theorem xg_liald (hC : xm_C X own cc nL fr mc ms) {i : Int} (ha : xx_I X σ → 110 ≤ σ.2.2) (hi : xm_in i) (hd : decode cc pc = .ok (.iaload, 1)) (kk : σ.1 109 0 = 1 ∧ 0 ≤ i ∧ i < 24 → xm_in (σ.1 110 i.toNat) → xm_V X kc sc r σ (pc + 1) l (.int (xm_J (σ.1 110 i.toNat)) :: st)) : xm_V X kc sc (if σ.1 109 0 = 1 ∧ 0 ≤ i ∧ i < 24 then r else none) σ pc l (.int (xm_J i) :: .ref (xm_ad (xx_G X) 110) :: st) := by
  refine xg_guard (fun h => xg_facts (fun hT hI o ho H locs ls hR hS hL => ?_))
  have h2 := ha hI
  have hat := hR.1 110 (by decide) h2 (Or.inr ⟨by rw [xm_l110], h.1⟩)
  have hP : va_P (xm_D (xx_G X)) xm_cl [(xm_ad (xx_G X) 110, xm_cell (xx_G X) σ 110)] H := fun q w hq => by
    match q, hq with
    | 0, hq => cases hq; exact hat
    | q + 1, hq => simp at hq
  rw [xm_cell_8 xm_l110] at hP
  refine va_iald hC.1 hC.2.1 hC.2.2.2.2.2.1.1 hP 0 0 rfl rfl (xm_vp hi h.2) hd ?_
  show xm_W X H locs kc sc o (F0 (xx_m X) (pc + 1) ls (.int (xm_J (σ.1 110 (xm_J i).toNatClampNeg)) :: st))
  rw [xm_clamp hi]
  exact kk h (hT _ _).1 o ho H locs ls hR hS hL
theorem xg_liast0 (hC : xm_C X own cc nL fr mc ms) {a n : Nat} {i v N : Int} (hl : xm_lay a = (8, n)) (hN : (n : Int) = N) (h1 : 1 ≤ a) (h9 : a ≠ 109) (ha : xx_I X σ → a ≤ σ.2.2) (hi : xm_in i) (hv : xm_in v) (hI : xm_kp X σ a i.toNat v) (hd : decode cc pc = .ok (.iastore, 1)) (kk : xm_V X kc sc r (xm_u1 σ a i.toNat v) (pc + 1) l st) : xm_V X kc sc (if σ.1 109 0 = 1 ∧ 0 ≤ i ∧ i < N then r else none) σ pc l (.int (xm_J v) :: .int (xm_J i) :: .ref (xm_ad (xx_G X) a) :: st) := by
  subst hN
  refine xg_guard (fun h => xg_facts (fun hT hI2 o ho H locs ls hR hS hL => ?_))
  have h2 := ha hI2
  have hP := hR.1 a h1 h2 (Or.inr ⟨by rw [hl], h.1⟩)
  rw [xm_cell_8 hl] at hP
  have hin := xm_vp hi h.2
  have hA : xm_A X (xm_ad (xx_G X) a) := xm_ad_gt h1
  refine W.iast hC.1 hC.2.1 hP ((hC.2.2.2.2.2.1.1.2 0 _ rfl).1 n (fun j => .int (xm_J (σ.1 a j)))) (fun q => by cases q) (by show ¬ (xm_J i < 0 ∨ (arrV _ _ _).slots.size ≤ _); rw [arrV_size]; exact hin) rfl rfl hd fun H1 e z oq => ?_
  refine kk o ho H1 _ ls (hR.put h1 rfl (fun j => xm_u1_ne σ v (fun z => h9 z.1.symm)) (hR.2.2.1.u1 h2 hv (fun q => by simp only [xm_tk, hl] at q; cases q) (fun q => by simp only [xm_tk, hl] at q; cases q) (fun q => by simp only [xm_tk, hl] at q; cases q)) (hI hI2) (fun b hb => xm_cell_u1 hb) ?_ z oq) (hS.put z oq hA) hL
  rw [xm_cell_8 hl]
  show H1[_]? = some (vp_cell _ _)
  rw [e]
  rw [vp_cell_i]
  show some ((arrV (xm_cA (xx_G X) 1) n (fun j => .int (xm_J (σ.1 a j)))).setSlot _ _) = _
  rw [arrV_store]
  refine congrArg some (show arrV _ n _ = arrV _ n (fun j => Value.int (xm_J ((xm_u1 σ a i.toNat v).1 a j))) from congrArg (arrV _ n) (funext fun q => ?_))
  rw [xm_clamp hi]
  by_cases hq : q = i.toNat
  · subst hq
    simp only [updV, if_true, xm_u1_at]
  · simp only [updV, if_neg hq]
    rw [xm_u1_ne σ v (fun z => hq z.2)]
theorem xg_liast (hC : xm_C X own cc nL fr mc ms) {i v : Int} (ha : xx_I X σ → 110 ≤ σ.2.2) (hi : xm_in i) (hv : xm_in v) (hI : xm_kp X σ 110 i.toNat v) (hd : decode cc pc = .ok (.iastore, 1)) (kk : xm_V X kc sc r (xm_u1 σ 110 i.toNat v) (pc + 1) l st) : xm_V X kc sc (if σ.1 109 0 = 1 ∧ 0 ≤ i ∧ i < 24 then r else none) σ pc l (.int (xm_J v) :: .int (xm_J i) :: .ref (xm_ad (xx_G X) 110) :: st) := xg_liast0 hC xm_l110 rfl (by decide) (by decide) ha hi hv hI hd kk
end XLE
