/-! ===== rows of the abstract machine: reference stores, new cells, calls, returns, a method's start ===== -/
theorem xm_cell_q {Γ : xm_Gm} {σ : xm_Mem} {a n kd : Nat} (hkd : kd = 4 ∨ kd = 5) (h : xm_lay a = (kd, n)) : xm_cell Γ σ a = .inl (xm_cA Γ kd, n, .inr (.inr (.inr (.inr (fun i => xm_on Γ (σ.1 a i)))))) := by
  rcases hkd with rfl | rfl
  · exact xm_cell_4 h
  · exact xm_cell_5 h
/-- what an array of references holds: the kind of the array, the class -/
def xm_kc (kd ci : Nat) : Prop := (kd = 4 ∧ ci = 2) ∨ (kd = 5 ∧ ci = 0)
theorem xm_kc_ty {Γ : xm_Gm} {kd ci : Nat} (h : xm_kc kd ci) : (xm_tys Γ)[kd - 1]? = some (xm_cA Γ kd, .object (xm_cR ci)) ∧ (kd = 4 ∨ kd = 5) ∧ ci < 11 := by
  rcases h with ⟨rfl, rfl⟩ | ⟨rfl, rfl⟩
  · exact ⟨rfl, Or.inl rfl, by decide⟩
  · exact ⟨rfl, Or.inr rfl, by decide⟩
def xm_tyk (ty : FieldType) : Bool := match ty with | .int => true | .boolean => true | .long => true | .byte => true | .object _ => true | .array _ => true | _ => false
theorem xm_tyk_all : ∀ ci, ci < 11 → ∀ k, k < xm_nf ci → xm_tyk (xm_cty ci k) = true := by decide +kernel
theorem xm_dflt {Γ : xm_Gm} {ci k : Nat} (hci : ci < 11) (hk : k < xm_nf ci) : defaultValue (xm_cty ci k) = xm_val Γ (xm_ft ci k) 0 0 := by
  have h := xm_tyk_all ci hci k hk
  unfold xm_ft
  generalize xm_cty ci k = ty at h ⊢
  cases ty <;> first | rfl | (simp [xm_tyk] at h; done)
theorem xm_T.nw {σ : xm_Mem} (h : xm_T σ) : xm_T (xm_nw σ) := fun a k => ⟨(h a k).1, (h a k).2.1, (h a k).2.2.1, fun z => (h a k).2.2.2.1 (Nat.lt_of_succ_lt z), (h a k).2.2.2.2⟩
/-- one cell more: where it comes to be, and what is then there -/
theorem xm_nx {Γ : xm_Gm} {I : xm_Mem → Prop} {σ : xm_Mem} {H : Heap} (h : xm_R Γ I σ H) (hn : xm_nxt σ) : H.size = xm_ad Γ (σ.2.2 + 1) ∧ xm_top (xm_nw σ) = xm_top σ + 1 ∧ xm_gh Γ (xm_nw σ) := by
  have h1 := h.2.1
  have h2 := h.2.2.2.2.2
  have he := xm_el_rg Γ
  have e22 : (xm_nw σ).2.2 = σ.2.2 + 1 := rfl
  have e1 : (xm_nw σ).1 = σ.1 := rfl
  unfold xm_nxt at hn
  unfold xm_gh at h2 ⊢
  unfold xm_top at h1 ⊢
  unfold xm_ad xm_of
  rw [e22, e1]
  rcases hn with hn | ⟨n1, n2, n3⟩
  · rw [if_pos (by omega)] at h1
    rw [if_pos (by omega), if_pos (by omega), if_pos (by omega)]
    exact ⟨by omega, by omega, Or.inl (by omega)⟩
  · rcases h2 with h2 | ⟨g1, g2, g3, g4⟩
    · omega
    · rw [if_neg (by omega)] at h1
      rw [if_neg (show ¬ (σ.2.2 + 1 ≤ 89) by omega), if_neg (show ¬ (σ.2.2 + 1 < 110) by omega), if_neg (show ¬ (σ.2.2 + 1 = 110) by omega), if_neg (show ¬ (1000000 ≤ σ.2.2 + 1) by omega), if_neg (show ¬ (σ.2.2 + 1 ≤ 89) by omega), if_neg (show ¬ (σ.2.2 ≤ 89) by omega)]
      rcases g4 with ⟨f0, f1⟩ | ⟨f0, f1⟩
      · rw [f0] at h1
        have n4 : (σ.2.2 : Int) - 20 < σ.1 109 1 := by
          rcases n3 with z | z
          · rw [f0] at z; cases z
          · exact z
        rw [g3] at n4
        have n5 : σ.2.2 + 1 - 21 < xm_el Γ := by omega
        rw [if_pos n5, f0]
        exact ⟨by simp at h1; omega, by simp; omega, Or.inr ⟨by omega, by omega, g3, Or.inl ⟨rfl, by omega⟩⟩⟩
      · rw [f0] at h1
        rw [if_neg (show ¬ (σ.2.2 + 1 - 21 < xm_el Γ) by omega), f0]
        exact ⟨by simp at h1; omega, by simp; omega, Or.inr ⟨by omega, by omega, g3, Or.inr ⟨rfl, by omega⟩⟩⟩
theorem xm_R.nw {Γ : xm_Gm} {I : xm_Mem → Prop} {σ : xm_Mem} {H H1 : Heap} (h : xm_R Γ I σ H) (hn : xm_nxt σ) (hI : I (xm_nw σ)) (he : va_at (xm_D Γ) xm_cl (xm_ad Γ (σ.2.2 + 1), xm_cell Γ σ (σ.2.2 + 1)) H1) (z : H1.size = H.size + 1) (oq : ∀ q : Nat, q < H.size → H1[q]? = H[q]?) : xm_R Γ I (xm_nw σ) H1 := by
  have hs := h.2.1
  obtain ⟨x1, x2, x3⟩ := xm_nx h hn
  have hgt := xm_ad_gt (Γ := Γ) (a := σ.2.2 + 1) (by omega)
  refine ⟨fun b g1 g2 g3 => ?_, by rw [z, hs, x2]; omega, h.2.2.1.nw, hI, fun q hq => by rw [oq q (by omega)]; exact h.2.2.2.2.1 q hq, x3⟩
  by_cases e : b = σ.2.2 + 1
  · subst e; exact he
  · have g4 : b ≤ σ.2.2 := by have : b ≤ σ.2.2 + 1 := g2; omega
    have hat := h.1 b g1 g4 g3
    exact hat.kept (oq _ (va_at.lt hat))
section XK
variable {X : xm_X} {own : String} {cc : ByteArray} {nL fr mc ms kc sc : Nat} {r r1 r2 : Option xm_Out} {σ : xm_Mem} {pc : Nat} {l l' : List (Nat × Value)} {st : List Value}
theorem xg_qast0 (hC : xm_C X own cc nL fr mc ms) {a n kd ci : Nat} {i v : Int} (hkc : xm_kc kd ci) (hl : xm_lay a = (kd, n)) (ha : xx_I X σ → 1 ≤ a ∧ a ≤ σ.2.2) (hi : xm_in i) (h : 0 ≤ i ∧ i < (n : Int)) (hv : v = 0 ∨ xm_obj σ v ci) (hI : xm_kp X σ a i.toNat v) (hvin : xm_in v) (hd : decode cc pc = .ok (.aastore, 1)) (kk : xm_V X kc sc r (xm_u1 σ a i.toNat v) (pc + 1) l st) : xm_V X kc sc r σ pc l (xm_rf (xx_G X) v :: .int (xm_J i) :: .ref (xm_ad (xx_G X) a) :: st) := by
  refine xg_facts (fun hT hI2 o ho H locs ls hR hS hL => ?_)
  obtain ⟨h1, h2⟩ := ha hI2
  obtain ⟨hty, hkd, hci⟩ := xm_kc_ty (Γ := xx_G X) hkc
  have h7 : (xm_lay a).1 ≤ 7 := xm_k7 hl (by rcases hkd with rfl | rfl <;> decide)
  have hP := hR.1 a h1 h2 (Or.inl h7)
  rw [xm_cell_q hkd hl] at hP
  have hin := xm_vp hi h
  have hA : xm_A X (xm_ad (xx_G X) a) := xm_ad_gt h1
  have hK := hC.2.2.2.2.2.1.1
  have hv0 : 0 ≤ v := by rcases hv with rfl | hv <;> omega
  have hTu : xm_T (xm_u1 σ a i.toNat v) := hT.u1 h2 hvin (fun q => by rcases hkd with rfl | rfl <;> (simp only [xm_tk, hl] at q; cases q)) (fun _ => hv0) (fun q => by rcases hkd with rfl | rfl <;> (simp only [xm_tk, hl] at q; cases q))
  have tail : ∀ H1 : Heap, H1[xm_ad (xx_G X) a]? = some ((vp_cell (xm_cA (xx_G X) kd) (n, .inr (.inr (.inr (.inr (fun i => xm_on (xx_G X) (σ.1 a i))))))).setSlot (xm_J i).toNatClampNeg (xm_rf (xx_G X) v)) → H1.size = H.size → (∀ q, q ≠ xm_ad (xx_G X) a → H1[q]? = H[q]?) → xm_W X H1 (locs ++ [⟨xm_ad (xx_G X) a, (xm_J i).toNatClampNeg⟩]) kc sc o (F0 (xx_m X) (pc + 1) ls st) := by
    intro H1 e z oq
    refine kk o ho H1 _ ls (hR.put h1 rfl (xm_u1_109 h7) hTu (hI hI2) (fun b hb => xm_cell_u1 hb) ?_ z oq) (hS.put z oq hA) hL
    rw [xm_cell_q hkd hl]
    show H1[_]? = some (vp_cell _ _)
    rw [e]
    show some ((arrV (xm_cA (xx_G X) kd) n (fun j => va_rf (xm_on (xx_G X) (σ.1 a j)))).setSlot _ _) = _
    rw [arrV_store]
    refine congrArg some (show arrV _ n _ = arrV _ n (fun j => va_rf (xm_on (xx_G X) ((xm_u1 σ a i.toNat v).1 a j))) from congrArg (arrV _ n) (funext fun q => ?_))
    rw [xm_clamp hi]
    by_cases hq : q = i.toNat
    · subst hq
      simp only [updV, if_true, xm_u1_at]
      rfl
    · simp only [updV, if_neg hq]
      rw [xm_u1_ne σ v (fun z => hq z.2)]
  have hin2 : ¬ (xm_J i < 0 ∨ (vp_cell (xm_cA (xx_G X) kd) (n, .inr (.inr (.inr (.inr (fun i => xm_on (xx_G X) (σ.1 a i))))))).slots.size ≤ (xm_J i).toNatClampNeg) := by
    show ¬ (xm_J i < 0 ∨ (arrV _ _ _).slots.size ≤ _); rw [arrV_size]; exact hin
  rcases hv with rfl | hv
  · rw [xm_rf_0]
    exact va_WaastN (C := xm_cR ci) hC.1 hC.2.1 hP ((hK.2 _ _ hty).1 n (fun j => va_rf (xm_on (xx_G X) (σ.1 a j)))) (fun h => by cases h) hin2 rfl rfl hd (fun H1 e z oq => tail H1 e z oq)
  · have hv2 : 1 ≤ v.toNat ∧ v.toNat ≤ σ.2.2 := ⟨by omega, by omega⟩
    have hPv := hR.1 v.toNat hv2.1 hv2.2 (Or.inl (xm_k7 hv.2.2 (by decide)))
    rw [xm_cell_o hv.2.2] at hPv
    obtain ⟨r', hr', cellV, g1, g2, g3, -⟩ := hPv
    have hr2 : r' = _ := Option.some.inj (hr'.symm.trans (xm_cl_at hci))
    subst hr2
    have hcls := (hK.1 ci _ (xm_cl_at hci)).2
    obtain ⟨kA, comp, k1, k2, k3, -⟩ := (hK.2 _ _ hty).2
    have hcomp : comp = (xm_D (xx_G X)).1 ci := Option.some.inj (k3.symm.trans hcls.1)
    subst hcomp
    obtain ⟨kC, hkC, -⟩ := hcls.2
    have htl : ∀ H1 : Heap, _ → _ → _ → _ := tail
    rw [xm_rf_pos hv.1] at htl ⊢
    exact W.aast hC.1 hC.2.1 hP (fun q h => by cases h) (fun h => by cases h) k1 k2 rfl hkC ⟨fun z => hin2 (Or.inl z), Nat.not_le.mp (fun z => hin2 (Or.inr z))⟩ g1 (fun q h => by rw [g3] at h; cases h) (by rw [g2]; exact hkC) (by rw [g2]; exact va_assign hcls) rfl rfl hd (fun H1 e z oq => htl H1 e z oq)
theorem xg_qast (hC : xm_C X own cc nL fr mc ms) {a n : Nat} {i v N : Int} (hl : xm_has (xx_I X) a 4 n) (hN : (n : Int) = N) (hi : xm_in i) (hvin : xm_in v) (hI : xm_kp X σ a i.toNat v) (hd : decode cc pc = .ok (.aastore, 1)) (kk : xm_V X kc sc r (xm_u1 σ a i.toNat v) (pc + 1) l st) : xm_V X kc sc (if (0 ≤ i ∧ i < N) ∧ (v = 0 ∨ xm_obj σ v 2) then r else none) σ pc l (xm_rf (xx_G X) v :: .int (xm_J i) :: .ref (xm_ad (xx_G X) a) :: st) := by
  subst hN
  exact xg_guard (fun h => xg_qast0 hC (Or.inl ⟨rfl, rfl⟩) hl.2 (hl.1 σ) hi h.1 h.2 hI hvin hd kk)
theorem xg_scast (hC : xm_C X own cc nL fr mc ms) {i q v : Int} (hi : xm_in i) (hvin : xm_in v) (hI : xm_arr σ q 5 8 → xm_kp X σ q.toNat i.toNat v) (hd : decode cc pc = .ok (.aastore, 1)) (kk : xm_V X kc sc r (xm_u1 σ q.toNat i.toNat v) (pc + 1) l st) : xm_V X kc sc (if xm_arr σ q 5 8 ∧ (0 ≤ i ∧ i < 8) ∧ xm_obj σ v 0 then r else none) σ pc l (xm_rf (xx_G X) v :: .int (xm_J i) :: xm_rf (xx_G X) q :: st) := by
  refine xg_guard (fun h => ?_)
  rw [xm_rf_pos (v := q) h.1.1]
  exact xg_qast0 (n := 8) hC (Or.inr ⟨rfl, rfl⟩) h.1.2.2 (xm_hasS (X := X) h.1).1 hi h.2.1 (Or.inr h.2.2) (hI h.1) hvin hd kk
/-- new -/
theorem xg_new (hC : xm_C X own cc nL fr mc ms) {ci idx : Nat} (hci : ci < 11) (h1 : Cond.classLink own idx (xm_cR ci) ∈ xm_tb) (h2 : Cond.instantiable (xm_cR ci) (xm_nf ci) ∈ xm_tb) (h3 : Cond.initialized (xm_cR ci) ∈ xm_tb) (hcap : kc + 1 ≤ mc ∧ sc + xm_nf ci ≤ ms) (hI : xx_I X σ → xx_I X (xm_nw σ)) (hd : decode cc pc = .ok (.new idx, 3)) (kk : xm_V X (kc + 1) (sc + xm_nf ci) r (xm_nw σ) (pc + 3) l (xm_rf (xx_G X) ((σ.2.2 : Int) + 1) :: st)) : xm_V X kc sc (if xm_lay (σ.2.2 + 1) = (0, ci) ∧ xm_nxt σ then r else none) σ pc l st := by
  refine xg_guard (fun hg o ho H locs ls hR hS hL => ?_)
  obtain ⟨hlay, hnx⟩ := hg
  have hts := hC.2.2.2.2.1
  have hKn := hC.2.2.2.2.2.1.1.1 ci _ (xm_cl_at hci)
  have hcp := hC.2.2.2.2.2.2.2.2.2.2.2
  have hsz : H.size = xm_ad (xx_G X) (σ.2.2 + 1) := (xm_nx hR hnx).1
  have hz := hR.2.2.1
  refine W.newcK hC.1 hC.2.1 hC.2.2.2.1 (hts _ h1) (hts _ h2) (hts _ h3) rfl hd (Nat.le_trans hcap.1 hcp.1) (Nat.le_trans hcap.2 hcp.2) hKn.2.1 hsz fun H1 kC hkC e1 z1 o1 => ?_
  have key := kk o ho H1 locs ls (hR.nw hnx (hI hR.2.2.2.1) ?_ (by rw [z1, hsz]) (fun q hq => o1 q (by rw [← hsz]; exact hq))) ⟨Nat.le_trans hS.1 (by rw [hsz, z1]; omega), fun x g1 g2 => (o1 x (by rw [← hsz]; exact Nat.lt_of_lt_of_le g1 hS.1)).trans (hS.2.1 x g1 g2), hS.2.2⟩ hL
  · rw [xm_rf_pos (by omega)] at key
    have e : ((σ.2.2 : Int) + 1).toNat = σ.2.2 + 1 := by omega
    rw [e] at key
    exact key
  · rw [xm_cell_o hlay]
    refine ⟨_, xm_cl_at hci, (u_born (xm_cty ci) hts (xm_hin hci) hKn hkC e1 (xm_hty hci)).to (fun k hk => ?_)⟩
    rw [xm_dflt (Γ := xx_G X) hci hk]
    have g := (hz (σ.2.2 + 1) k).2.2.2.1 (Nat.lt_succ_self _)
    simp [vp_V, hk, g.1, g.2]
/-- newarray -/
theorem xg_newa (hC : xm_C X own cc nL fr mc ms) {atype : ArrayType} {kd N : Nat} {n : Int} (hkd : (kd = 1 ∧ newarray.typeOf atype = .int) ∨ (kd = 2 ∧ newarray.typeOf atype = .boolean) ∨ (kd = 3 ∧ newarray.typeOf atype = .long)) (hn : (N : Int) = n) (hN : N ≤ 100000) (h1 : Cond.arrayClass (newarray.typeOf atype) ∈ xm_tb) (hcap : kc + 1 ≤ mc ∧ sc + N ≤ ms) (hI : xx_I X σ → xx_I X (xm_nw σ)) (hd : decode cc pc = .ok (.newarray atype, 2)) (kk : xm_V X (kc + 1) (sc + N) r (xm_nw σ) (pc + 2) l (xm_rf (xx_G X) ((σ.2.2 : Int) + 1) :: st)) : xm_V X kc sc (if xm_lay (σ.2.2 + 1) = (kd, N) ∧ xm_nxt σ then r else none) σ pc l (.int (xm_J n) :: st) := by
  refine xg_guard (fun hg o ho H locs ls hR hS hL => ?_)
  obtain ⟨hlay, hnx⟩ := hg
  have hts := hC.2.2.2.2.1
  have hK := hC.2.2.2.2.2.1.1
  have hcp := hC.2.2.2.2.2.2.2.2.2.2.2
  have hsz : H.size = xm_ad (xx_G X) (σ.2.2 + 1) := (xm_nx hR hnx).1
  have hz := hR.2.2.1
  subst hn
  have hin : xm_in (N : Int) := ⟨by omega, by omega⟩
  have hpos : ¬ xm_J (N : Int) < 0 := by
    rw [← xm_J0, xm_J_lt hin xm_in0]; omega
  have hcl : (xm_J (N : Int)).toNatClampNeg = N := by rw [xm_clamp hin]; omega
  have hbytes : N * componentBytes (newarray.typeOf atype) ≤ 536870912 := by
    rcases hkd with ⟨-, e⟩ | ⟨-, e⟩ | ⟨-, e⟩ <;> rw [e]
    · rw [show componentBytes FieldType.int = 4 from rfl]
      omega
    · rw [show componentBytes FieldType.boolean = 1 from rfl]
      omega
    · rw [show componentBytes FieldType.long = 8 from rfl]
      omega
  refine va_newaK hC.1 hC.2.1 (hts _ h1) rfl hd rfl hpos hcl hbytes (Nat.le_trans hcap.1 hcp.1) (Nat.le_trans hcap.2 hcp.2) hsz fun H1 cA e1 z1 o1 hAr hNm => ?_
  have key := kk o ho H1 locs ls (hR.nw hnx (hI hR.2.2.2.1) ?_ (by rw [z1, hsz]) (fun q hq => o1 q (by rw [← hsz]; exact hq))) ⟨Nat.le_trans hS.1 (by rw [hsz, z1]; omega), fun x g1 g2 => (o1 x (by rw [← hsz]; exact Nat.lt_of_lt_of_le g1 hS.1)).trans (hS.2.1 x g1 g2), hS.2.2⟩ hL
  · rw [xm_rf_pos (by omega)] at key
    have e : ((σ.2.2 : Int) + 1).toNat = σ.2.2 + 1 := by omega
    rw [e] at key
    exact key
  · have g : ∀ k, σ.1 (σ.2.2 + 1) k = 0 ∧ σ.2.1 (σ.2.2 + 1) k = 0 := fun k => (hz (σ.2.2 + 1) k).2.2.2.1 (Nat.lt_succ_self _)
    rcases hkd with ⟨rfl, e⟩ | ⟨rfl, e⟩ | ⟨rfl, e⟩
    · rw [xm_cell_1 hlay]
      have hc : cA = xm_cA (xx_G X) 1 := by
        have := (hK.2 0 _ rfl).2
        rw [e] at hNm
        exact Option.some.inj (hNm.symm.trans this)
      subst hc
      show H1[xm_ad (xx_G X) (σ.2.2 + 1)]? = some (vp_cell _ _)
      rw [e1, e]
      simp only [g]
      rfl
    · rw [xm_cell_2 hlay]
      have hc : cA = xm_cA (xx_G X) 2 := by
        have := (hK.2 1 _ rfl).2
        rw [e] at hNm
        exact Option.some.inj (hNm.symm.trans this)
      subst hc
      show H1[xm_ad (xx_G X) (σ.2.2 + 1)]? = some (vp_cell _ _)
      rw [e1, e]
      simp only [g]
      rfl
    · rw [xm_cell_3 hlay]
      have hc : cA = xm_cA (xx_G X) 3 := by
        have := (hK.2 2 _ rfl).2
        rw [e] at hNm
        exact Option.some.inj (hNm.symm.trans this)
      subst hc
      show H1[xm_ad (xx_G X) (σ.2.2 + 1)]? = some (vp_cell _ _)
      rw [e1, e]
      simp only [g]
      rfl
/-- anewarray -/
theorem xg_newq (hC : xm_C X own cc nL fr mc ms) {idx kd ci N : Nat} {n : Int} (hkc : xm_kc kd ci) (hn : (N : Int) = n) (hN : N ≤ 100000) (h1 : Cond.classLink own idx (xm_cR ci) ∈ xm_tb) (hcap : kc + 1 ≤ mc ∧ sc + N ≤ ms) (hI : xx_I X σ → xx_I X (xm_nw σ)) (hd : decode cc pc = .ok (.anewarray idx, 3)) (kk : xm_V X (kc + 1) (sc + N) r (xm_nw σ) (pc + 3) l (xm_rf (xx_G X) ((σ.2.2 : Int) + 1) :: st)) : xm_V X kc sc (if xm_lay (σ.2.2 + 1) = (kd, N) ∧ xm_nxt σ then r else none) σ pc l (.int (xm_J n) :: st) := by
  refine xg_guard (fun hg o ho H locs ls hR hS hL => ?_)
  obtain ⟨hlay, hnx⟩ := hg
  obtain ⟨hty, hkd, hci⟩ := xm_kc_ty (Γ := xx_G X) hkc
  have hts := hC.2.2.2.2.1
  have hK := hC.2.2.2.2.2.1.1
  have hcp := hC.2.2.2.2.2.2.2.2.2.2.2
  have hsz : H.size = xm_ad (xx_G X) (σ.2.2 + 1) := (xm_nx hR hnx).1
  have hz := hR.2.2.1
  subst hn
  have hin : xm_in (N : Int) := ⟨by omega, by omega⟩
  have hpos : ¬ xm_J (N : Int) < 0 := by
    rw [← xm_J0, xm_J_lt hin xm_in0]; omega
  have hcl : (xm_J (N : Int)).toNatClampNeg = N := by rw [xm_clamp hin]; omega
  have hover : va_AO (xm_cR ci) (xx_s X) := by
    rcases hkc with ⟨-, rfl⟩ | ⟨-, rfl⟩
    · exact hC.2.2.2.2.2.1.2.2.2.2.1
    · exact hC.2.2.2.2.2.1.2.2.2.2.2.1
  refine W.anew hC.1 hC.2.1 hC.2.2.2.1 (hts _ h1) (va_AO.use hover) rfl hd rfl hpos (by rw [hcl]; omega) (Nat.le_trans hcap.1 hcp.1) (by rw [hcl]; exact Nat.le_trans hcap.2 hcp.2) fun cA kA comp f1 f2 f3 f4 => ?_
  rw [hcl]
  generalize hH1 : H.push ({ cls := cA, slots := Array.replicate N .null, vm := .none } : Cell) = H1
  have z1 : H1.size = H.size + 1 := by rw [← hH1, Array.size_push]
  have e1 : H1[H.size]? = some (arrV cA N (fun _ => .null)) := by rw [← hH1, Array.getElem?_push_size, ← arrV_new]
  have o1 : ∀ q, q < H.size → H1[q]? = H[q]? := by
    intro q hq
    rw [← hH1, Array.getElem?_push, if_neg (Nat.ne_of_lt hq)]
  have key := kk o ho H1 locs ls (hR.nw hnx (hI hR.2.2.2.1) ?_ z1 o1) ⟨Nat.le_trans hS.1 (by omega), fun x g1 g2 => (o1 x (Nat.lt_of_lt_of_le g1 hS.1)).trans (hS.2.1 x g1 g2), hS.2.2⟩ hL
  · rw [xm_rf_pos (by omega)] at key
    have e : ((σ.2.2 : Int) + 1).toNat = σ.2.2 + 1 := by omega
    rw [e, ← hsz] at key
    exact key
  · have g : ∀ k, σ.1 (σ.2.2 + 1) k = 0 := fun k => ((hz (σ.2.2 + 1) k).2.2.2.1 (Nat.lt_succ_self _)).1
    rw [xm_cell_q hkd hlay]
    have hc : cA = xm_cA (xx_G X) kd := by
      obtain ⟨_, _, _, _, _, k4⟩ := (hK.2 _ _ hty).2
      exact Option.some.inj (f1.symm.trans k4)
    subst hc
    show H1[xm_ad (xx_G X) (σ.2.2 + 1)]? = some (vp_cell _ _)
    rw [← hsz, e1]
    simp only [g]
    rfl
/-- Object's constructor -/
theorem xg_oinit (hC : xm_C X own cc nL fr mc ms) {idx : Nat} {v : Int} (hv : 1 ≤ v) (h1 : Cond.methodLink own idx objectInit ∈ xm_tb) (h2 : Cond.instanceMethod objectInit ∈ xm_tb) (h3 : Cond.code objectInit ⟨#[0xb1]⟩ 1 none ∈ xm_tb) (hfr : 1 ≤ fr) (hd : decode cc pc = .ok (.invokespecial idx, 3)) (kk : xm_V X kc sc r σ (pc + 3) l []) : xm_V X kc sc r σ pc l [xm_rf (xx_G X) v] := by
  intro o ho H locs ls hR hS hL
  have hts := hC.2.2.2.2.1
  have hcp := hC.2.2.2.2.2.2.2.2.2
  rw [xm_rf_pos hv]
  exact W.objInit hC.1 hC.2.1 hC.2.2.2.1 (hts _ h1) (hts _ h2) (hts _ h3) rfl (by show ls.size = _; rw [hL.1]) rfl hd (by omega) (by show 2 * 0 + _ + 12 ≤ _; simp; omega) (kk o ho H locs ls hR hS hL)
-- calls
theorem xm_blind {Γ : xm_Gm} {I : xm_Mem → Prop} {av : List Value} : FrameBlind (va_Pc av (fun U => xm_R Γ I σ U.heap ∧ xm_K Γ U)) := by
  intro a U g mk q
  exact ⟨q.1, q.2.1, xm_K.same rfl q.2.2⟩
theorem xm_goodW {y : MethodName} {bytes : ByteArray} {maxL : Nat} {ret : Option FieldType} (h : Cond.code y bytes maxL ret ∈ xm_tb) : GoodIn xm_tb (Cond.code y bytes maxL ret :: xm_tb) := by
  intro w hw
  have hm : w ∈ xm_tb := by
    rcases List.mem_cons.mp hw with e | e
    · rw [e]; exact h
    · exact e
  exact ⟨hm, good_of_word (xm_good hm).2⟩
/-- what a call's link says -/
def xm_L (own : String) (idx : Nat) (y : MethodName) (bytes : ByteArray) (maxL : Nat) (ret : Option FieldType) (n : Nat) : Prop :=
  Cond.methodLink own idx y ∈ xm_tb ∧ Cond.initialized y.cls ∈ xm_tb ∧ Cond.code y bytes maxL ret ∈ xm_tb ∧ maxL ≤ 21 ∧ (y.cls ≠ "java/lang/invoke/MethodHandle" ∧ y.cls ≠ "java/lang/invoke/VarHandle" ∧ (parseMethodDescriptor y.desc).map (fun d => d.parameters.length) = some n)
def xm_LN (own : String) (idx : Nat) (y : MethodName) (host : String) (bytes : ByteArray) (maxL : Nat) (ret : Option FieldType) (n : Nat) : Prop :=
  (own, idx, y, host) ∈ xm_nst ∧ Cond.initialized y.cls ∈ xm_tb ∧ Cond.code y bytes maxL ret ∈ xm_tb ∧ maxL ≤ 21 ∧ (y.cls ≠ "java/lang/invoke/MethodHandle" ∧ y.cls ≠ "java/lang/invoke/VarHandle" ∧ (parseMethodDescriptor y.desc).map (fun d => d.parameters.length) = some n)
theorem xm_cb_of (hC : xm_C X own cc nL fr mc ms) {idx : Nat} {y : MethodName} {bytes : ByteArray} {maxL : Nat} {ret : Option FieldType} {n fr' mc' ms' : Nat} (hL : xm_L own idx y bytes maxL ret n) (hfr : fr' + 1 ≤ fr) : CallB (xx_R X) (xx_s X) (xx_a X) own idx y bytes maxL ret (Cond.code y bytes maxL ret :: xm_tb) (xm_rm fr' mc' ms') mc' ms' n := by
  obtain ⟨h1, h2, h3, h4, h5⟩ := hL
  have hts := hC.2.2.2.2.1
  have hcp := hC.2.2.2.2.2.2.2.2.2
  exact callB_of n hts (xm_goodW h3) rfl rfl rfl (hts _ h2) (hts _ h1) h5 ⟨by show fr' + 1 ≤ _; omega, by show 8 + (maxL + 11) + 40 * fr' ≤ _; omega⟩
theorem xm_cn_of (hC : xm_C X own cc nL fr mc ms) {idx : Nat} {y : MethodName} {host : String} {bytes : ByteArray} {maxL : Nat} {ret : Option FieldType} {n fr' mc' ms' : Nat} (hL : xm_LN own idx y host bytes maxL ret n) (hfr : fr' + 1 ≤ fr) : va_CN (xx_R X) (xx_s X) (xx_a X) own idx y host bytes maxL ret (Cond.code y bytes maxL ret :: xm_tb) (xm_rm fr' mc' ms') mc' ms' n := by
  obtain ⟨h1, h2, h3, h4, h5⟩ := hL
  have hts := hC.2.2.2.2.1
  have hcp := hC.2.2.2.2.2.2.2.2.2
  exact va_cnB n hts (xm_goodW h3) rfl rfl rfl (hC.2.2.2.2.2.1.2.2.2.1 _ h1) (hts _ h2) h5 ⟨by show fr' + 1 ≤ _; omega, by show 8 + (maxL + 11) + 40 * fr' ≤ _; omega⟩
/-- behind any call -/
theorem xg_run {rk mc' ms' kc' sc' : Nat} {r0 : Option xm_Out} {k : xm_Out → Option xm_Out} {stk rest : List Value} {st2 : xm_Out → List Value} {a : Array Value}
    (hrun : ∀ o, r0 = some o → ∀ (H : Heap) (locs : List Loc) (ls : Array Slot), xm_R (xx_G X) (xx_I X) σ H → va_S (xm_A X) (xx_s X).heap H locs → lv_has ls (xx_c X).maxLocals l → va_Run (xx_p X) (xx_la X) (xx_e X) (xx_R X) (xx_s X) (xx_m X) (xx_a X) (xx_b X) (xx_t X) (xx_c X) H locs kc sc mc' ms' (F0 (xx_m X) pc ls stk) rest (xm_Qc (xx_G X) (xx_I X) rk o a) (xm_A X))
    (hkc : kc + mc' = kc') (hsc : sc + ms' = sc') (hst2 : ∀ o, (xm_o (xx_G X) rk o.2).toList ++ rest = st2 o) (kk : ∀ o, xm_f rk o.2 → xm_V X kc' sc' (k o) o.1 (pc + 3) l (st2 o)) : xm_V X kc sc (r0.bind k) σ pc l stk := by
  subst hkc
  subst hsc
  intro o' ho' H locs ls hR hS hL
  obtain ⟨o, g1, g2⟩ := Option.bind_eq_some_iff.mp ho'
  intro T hT Xs
  obtain ⟨v, st₀, t, T', L, h0, X', hL', e1, e2, ⟨⟨hv, hR1, hf⟩, hz, hk⟩, hst⟩ := hrun o g1 H locs ls hR hS hL T hT Xs
  cases hv
  rw [h0] at hz hk
  have K := kk o hf o' g2 T'.heap (locs ++ L) ls (by rw [e1]; exact hR1)
    ⟨Nat.le_trans hS.1 (by rw [e1]; exact hz), fun q h1 h2 => by rw [e1, hk q (Nat.lt_of_lt_of_le h1 hS.1) h2]; exact hS.2.1 q h1 h2, fun q hq => by
      rcases List.mem_append.mp hq with h | h
      · exact hS.2.2 q h
      · exact hL' q h⟩ hL
  rw [← hst2 o] at K
  obtain ⟨t2, a1, b1⟩ := K T' rfl X'
  exact ⟨t2, hst t2 a1, b1⟩
theorem xm_pre {Γ : xm_Gm} {I : xm_Mem → Prop} {s : State} {H : Heap} {av : List Value} (hR : xm_R Γ I σ H) (hK : xm_K Γ s) : ∀ U : State, U.heap = H → s.WarmedH U.vm → va_Pc av (fun U => xm_R Γ I σ U.heap ∧ xm_K Γ U) av.toArray U :=
  fun U hU hW => ⟨rfl, by rw [hU]; exact hR, xm_K.warm hW hK⟩
/-- invokevirtual -/
theorem xg_callV (hC : xm_C X own cc nL fr mc ms) {rk ci a idx maxL n fr' mc' ms' kc' sc' : Nat} {y : MethodName} {bytes : ByteArray} {ret : Option FieldType} {As : List Value} {r0 : Option xm_Out} {k : xm_Out → Option xm_Out} {stk rest : List Value} {st2 : xm_Out → List Value}
    (hM : ∀ o, r0 = some o → xm_M (xx_G X) (xx_I X) (xx_la X) y bytes maxL ret fr' mc' ms' (.ref (xm_ad (xx_G X) a) :: As) σ rk o) (hL : xm_L own idx y bytes maxL ret n) (hV : Cond.instanceMethod y ∈ xm_tb ∧ Cond.selects y.cls y y ∈ xm_tb)
    (hl : xm_lay a = (0, ci)) (ha : xx_I X σ → 1 ≤ a ∧ a ≤ σ.2.2) (hci : ci < 11) (hcl : xm_cR ci = y.cls) (hfr : fr' + 1 ≤ fr) (hcap : kc + mc' ≤ mc ∧ sc + ms' ≤ ms) (hd : decode cc pc = .ok (.invokevirtual idx, 3)) (hstk : stk = As.reverse ++ .ref (xm_ad (xx_G X) a) :: rest) (hn : As.length = n) (hrest : (rest.map fun v => v.category).sum ≤ 8)
    (hkc : kc + mc' = kc') (hsc : sc + ms' = sc') (hst2 : ∀ o, (xm_o (xx_G X) rk o.2).toList ++ rest = st2 o) (kk : ∀ o, xm_f rk o.2 → xm_V X kc' sc' (k o) o.1 (pc + 3) l (st2 o)) : xm_V X kc sc (r0.bind k) σ pc l stk := by
  refine xg_run (a := (Value.ref (xm_ad (xx_G X) a) :: As).toArray) (fun o ho H locs ls hR hS hLs => ?_) hkc hsc hst2 kk
  have hts := hC.2.2.2.2.1
  have hcp := hC.2.2.2.2.2.2.2.2.2.2.2
  obtain ⟨g1, g2⟩ := ha hR.2.2.2.1
  have hrecv := va_recv hC.2.2.2.2.2.1.1 (hR.w1 g1 g2 (xm_k7 hl (by decide)) (xm_cell_o hl)) (xm_cl_at hci) (q0 := 0) rfl
  refine va_runV (As := As) (rest := rest) (C := y.cls) (maxL := maxL) (ret := ret) ⟨hC.1, hC.2.1, hC.2.2.1, hC.2.2.2.1, hts⟩ (hM o ho) ⟨xm_cb_of hC hL hfr, hts _ hV.1, hts _ hV.2⟩ ⟨xm_blind, by rw [← hcl]; exact hrecv, xm_pre hR hC.2.2.2.2.2.1⟩ rfl hn (by show ls.size = _; rw [hLs.1, hC.2.2.1]) hstk (by show 2 * 0 + _ ≤ 8; omega) hd ⟨by omega, by omega⟩
/-- invokestatic -/
theorem xg_callS (hC : xm_C X own cc nL fr mc ms) {rk idx maxL n fr' mc' ms' kc' sc' : Nat} {y : MethodName} {bytes : ByteArray} {ret : Option FieldType} {As : List Value} {r0 : Option xm_Out} {k : xm_Out → Option xm_Out} {stk rest : List Value} {st2 : xm_Out → List Value}
    (hM : ∀ o, r0 = some o → xm_M (xx_G X) (xx_I X) (xx_la X) y bytes maxL ret fr' mc' ms' As σ rk o) (hL : xm_L own idx y bytes maxL ret n) (hV : Cond.static y ∈ xm_tb)
    (hfr : fr' + 1 ≤ fr) (hcap : kc + mc' ≤ mc ∧ sc + ms' ≤ ms) (hd : decode cc pc = .ok (.invokestatic idx, 3)) (hstk : stk = As.reverse ++ rest) (hn : As.length = n) (hrest : (rest.map fun v => v.category).sum ≤ 8)
    (hkc : kc + mc' = kc') (hsc : sc + ms' = sc') (hst2 : ∀ o, (xm_o (xx_G X) rk o.2).toList ++ rest = st2 o) (kk : ∀ o, xm_f rk o.2 → xm_V X kc' sc' (k o) o.1 (pc + 3) l (st2 o)) : xm_V X kc sc (r0.bind k) σ pc l stk := by
  refine xg_run (a := As.toArray) (fun o ho H locs ls hR hS hLs => ?_) hkc hsc hst2 kk
  have hts := hC.2.2.2.2.1
  have hcp := hC.2.2.2.2.2.2.2.2.2.2.2
  refine va_runS (As := As) (rest := rest) (maxL := maxL) (ret := ret) ⟨hC.1, hC.2.1, hC.2.2.1, hC.2.2.2.1, hts⟩ (hM o ho) ⟨xm_cb_of hC hL hfr, hts _ hV⟩ ⟨xm_blind, xm_pre hR hC.2.2.2.2.2.1⟩ rfl hn (by show ls.size = _; rw [hLs.1, hC.2.2.1]) hstk (by show 2 * 0 + _ ≤ 8; omega) hd ⟨by omega, by omega⟩
theorem xg_callSN (hC : xm_C X own cc nL fr mc ms) {rk idx maxL n fr' mc' ms' kc' sc' : Nat} {y : MethodName} {host : String} {bytes : ByteArray} {ret : Option FieldType} {As : List Value} {r0 : Option xm_Out} {k : xm_Out → Option xm_Out} {stk rest : List Value} {st2 : xm_Out → List Value}
    (hM : ∀ o, r0 = some o → xm_M (xx_G X) (xx_I X) (xx_la X) y bytes maxL ret fr' mc' ms' As σ rk o) (hL : xm_LN own idx y host bytes maxL ret n) (hV : Cond.static y ∈ xm_tb)
    (hfr : fr' + 1 ≤ fr) (hcap : kc + mc' ≤ mc ∧ sc + ms' ≤ ms) (hd : decode cc pc = .ok (.invokestatic idx, 3)) (hstk : stk = As.reverse ++ rest) (hn : As.length = n) (hrest : (rest.map fun v => v.category).sum ≤ 8)
    (hkc : kc + mc' = kc') (hsc : sc + ms' = sc') (hst2 : ∀ o, (xm_o (xx_G X) rk o.2).toList ++ rest = st2 o) (kk : ∀ o, xm_f rk o.2 → xm_V X kc' sc' (k o) o.1 (pc + 3) l (st2 o)) : xm_V X kc sc (r0.bind k) σ pc l stk := by
  refine xg_run (a := As.toArray) (fun o ho H locs ls hR hS hLs => ?_) hkc hsc hst2 kk
  have hts := hC.2.2.2.2.1
  have hcp := hC.2.2.2.2.2.2.2.2.2.2.2
  refine va_runSN (As := As) (rest := rest) (maxL := maxL) (ret := ret) ⟨hC.1, hC.2.1, hC.2.2.1, hC.2.2.2.1, hts⟩ (hM o ho) ⟨xm_cn_of hC hL hfr, hts _ hV, trivial⟩ ⟨xm_blind, xm_pre hR hC.2.2.2.2.2.1⟩ rfl hn (by show ls.size = _; rw [hLs.1, hC.2.2.1]) hstk (by show 2 * 0 + _ ≤ 8; omega) hd ⟨by omega, by omega⟩
/-- constructors -/
theorem xg_callI (hC : xm_C X own cc nL fr mc ms) {idx maxL n fr' mc' ms' kc' sc' : Nat} {y : MethodName} {bytes : ByteArray} {v : Int} {As : List Value} {r0 : Option xm_Out} {k : xm_Out → Option xm_Out} {stk rest : List Value}
    (hM : ∀ o, r0 = some o → xm_M (xx_G X) (xx_I X) (xx_la X) y bytes maxL none fr' mc' ms' (xm_rf (xx_G X) v :: As) σ 0 o) (hv : 1 ≤ v) (hL : xm_L own idx y bytes maxL none n) (hV : Cond.instanceMethod y ∈ xm_tb ∧ y.name = "<init>")
    (hfr : fr' + 1 ≤ fr) (hcap : kc + mc' ≤ mc ∧ sc + ms' ≤ ms) (hd : decode cc pc = .ok (.invokespecial idx, 3)) (hstk : stk = As.reverse ++ xm_rf (xx_G X) v :: rest) (hn : As.length = n) (hrest : (rest.map fun v => v.category).sum ≤ 8)
    (hkc : kc + mc' = kc') (hsc : sc + ms' = sc') (kk : ∀ o, xm_f 0 o.2 → xm_V X kc' sc' (k o) o.1 (pc + 3) l rest) : xm_V X kc sc (r0.bind k) σ pc l stk := by
  refine xg_run (rk := 0) (a := (Value.ref (xm_ad (xx_G X) v.toNat) :: As).toArray) (fun o ho H locs ls hR hS hLs => ?_) hkc hsc (fun _ => rfl) kk
  have hts := hC.2.2.2.2.1
  have hcp := hC.2.2.2.2.2.2.2.2.2.2.2
  have hm := hM o ho
  rw [xm_rf_pos hv] at hm hstk
  refine va_runI (As := As) (rest := rest) (maxL := maxL) ⟨hC.1, hC.2.1, hC.2.2.1, hC.2.2.2.1, hts⟩ hm ⟨xm_cb_of hC hL hfr, hV.2, hts _ hV.1⟩ ⟨xm_blind, xm_pre hR hC.2.2.2.2.2.1⟩ rfl hn (by show ls.size = _; rw [hLs.1, hC.2.2.1]) hstk (by show 2 * 0 + _ ≤ 8; omega) hd ⟨by omega, by omega⟩
theorem xg_callIN (hC : xm_C X own cc nL fr mc ms) {idx maxL n fr' mc' ms' kc' sc' : Nat} {y : MethodName} {host : String} {bytes : ByteArray} {v : Int} {As : List Value} {r0 : Option xm_Out} {k : xm_Out → Option xm_Out} {stk rest : List Value}
    (hM : ∀ o, r0 = some o → xm_M (xx_G X) (xx_I X) (xx_la X) y bytes maxL none fr' mc' ms' (xm_rf (xx_G X) v :: As) σ 0 o) (hv : 1 ≤ v) (hL : xm_LN own idx y host bytes maxL none n) (hV : Cond.instanceMethod y ∈ xm_tb ∧ y.name = "<init>")
    (hfr : fr' + 1 ≤ fr) (hcap : kc + mc' ≤ mc ∧ sc + ms' ≤ ms) (hd : decode cc pc = .ok (.invokespecial idx, 3)) (hstk : stk = As.reverse ++ xm_rf (xx_G X) v :: rest) (hn : As.length = n) (hrest : (rest.map fun v => v.category).sum ≤ 8)
    (hkc : kc + mc' = kc') (hsc : sc + ms' = sc') (kk : ∀ o, xm_f 0 o.2 → xm_V X kc' sc' (k o) o.1 (pc + 3) l rest) : xm_V X kc sc (r0.bind k) σ pc l stk := by
  refine xg_run (rk := 0) (a := (Value.ref (xm_ad (xx_G X) v.toNat) :: As).toArray) (fun o ho H locs ls hR hS hLs => ?_) hkc hsc (fun _ => rfl) kk
  have hts := hC.2.2.2.2.1
  have hcp := hC.2.2.2.2.2.2.2.2.2.2.2
  have hm := hM o ho
  rw [xm_rf_pos hv] at hm hstk
  refine va_runIN (As := As) (rest := rest) (maxL := maxL) ⟨hC.1, hC.2.1, hC.2.2.1, hC.2.2.2.1, hts⟩ hm ⟨xm_cn_of hC hL hfr, hV.2, hts _ hV.1⟩ ⟨xm_blind, xm_pre hR hC.2.2.2.2.2.1⟩ rfl hn (by show ls.size = _; rw [hLs.1, hC.2.2.1]) hstk (by show 2 * 0 + _ ≤ 8; omega) hd ⟨by omega, by omega⟩
/-- a call of an object by a symbolic reference -/
theorem xg_callVs (hC : xm_C X own cc nL fr mc ms) {rk ci idx maxL n fr' mc' ms' kc' sc' : Nat} {v : Int} {y : MethodName} {bytes : ByteArray} {ret : Option FieldType} {As : List Value} {r0 : Option xm_Out} {k : xm_Out → Option xm_Out} {stk rest : List Value} {st2 : xm_Out → List Value}
    (hM : ∀ o, r0 = some o → xm_M (xx_G X) (xx_I X) (xx_la X) y bytes maxL ret fr' mc' ms' (xm_rf (xx_G X) v :: As) σ rk o) (hL : xm_L own idx y bytes maxL ret n) (hV : Cond.instanceMethod y ∈ xm_tb ∧ Cond.selects y.cls y y ∈ xm_tb)
    (hci : ci < 11) (hcl : xm_cR ci = y.cls) (hfr : fr' + 1 ≤ fr) (hcap : kc + mc' ≤ mc ∧ sc + ms' ≤ ms) (hd : decode cc pc = .ok (.invokevirtual idx, 3)) (hstk : stk = As.reverse ++ xm_rf (xx_G X) v :: rest) (hn : As.length = n) (hrest : (rest.map fun v => v.category).sum ≤ 8)
    (hkc : kc + mc' = kc') (hsc : sc + ms' = sc') (hst2 : ∀ o, (xm_o (xx_G X) rk o.2).toList ++ rest = st2 o) (kk : ∀ o, xm_f rk o.2 → xm_V X kc' sc' (k o) o.1 (pc + 3) l (st2 o)) : xm_V X kc sc (if xm_obj σ v ci then r0.bind k else none) σ pc l stk := by
  refine xg_guard (fun h => ?_)
  rw [xm_rf_pos h.1] at hM hstk
  exact xg_callV hC hM hL hV h.2.2 (fun _ => ⟨by omega, by omega⟩) hci hcl hfr hcap hd hstk hn hrest hkc hsc hst2 kk
-- returns
theorem xm_fr {Γ : xm_Gm} {I : xm_Mem → Prop} {rk : Nat} {v : Int} {H : Heap} {s t : State} {locs : List Loc} (hR : xm_R Γ I σ H) (hf : xm_f rk v) (hS : va_S (fun q => xm_B Γ < q) s.heap H locs) (ht : t.heap = H) {a : Array Value} {oc : Outcome} (ho : oc = .returned (xm_o Γ rk v)) : xm_Qc Γ I rk (σ, v) a s oc t :=
  ⟨⟨ho, by rw [ht]; exact hR, hf⟩, hS.F ht⟩
theorem xg_iret (hC : xm_C X own cc nL fr mc ms) (hQ : xm_Rt X 1 (some .int) kc sc) {v : Int} (hv : xm_in v) (hd : decode cc pc = .ok (.ireturn, 1)) : xm_V X kc sc (some (σ, v)) σ pc l [.int (xm_J v)] := by
  intro o ho H locs ls hR hS hL T hT Xs
  cases ho
  have hlocks := hC.2.2.2.2.2.2.1
  obtain ⟨t, a, b⟩ := W.iret (hlocks := hlocks) (Qc := xm_Qc (xx_G X) (xx_I X) 1 (σ, v)) (free := xm_A X) hC.1 hC.2.1 hQ.1 (fun t ht _ => xm_fr (rk := 1) (v := v) hR hv hS ht rfl) hS.2.2 hd T hT Xs
  exact ⟨t, a, hQ.2 _ _ b⟩
theorem xg_zret (hC : xm_C X own cc nL fr mc ms) (hQ : xm_Rt X 2 (some .boolean) kc sc) {v : Int} (hv : 0 ≤ v ∧ v ≤ 1) (hd : decode cc pc = .ok (.ireturn, 1)) : xm_V X kc sc (some (σ, v)) σ pc l [.int (xm_J v)] := by
  intro o ho H locs ls hR hS hL T hT Xs
  cases ho
  have hlocks := hC.2.2.2.2.2.2.1
  obtain ⟨t, a, b⟩ := W.zret (hlocks := hlocks) (ty := .boolean) (Qc := xm_Qc (xx_G X) (xx_I X) 2 (σ, v)) (free := xm_A X) hC.1 hC.2.1 hQ.1 (xm_zn hv).1 (fun t ht _ => xm_fr (rk := 2) (v := v) hR hv hS ht rfl) hS.2.2 hd T hT Xs
  exact ⟨t, a, hQ.2 _ _ b⟩
theorem xg_vret (hC : xm_C X own cc nL fr mc ms) (hQ : xm_Rt X 0 none kc sc) (hd : decode cc pc = .ok (.return_, 1)) : xm_V X kc sc (some (σ, 0)) σ pc l [] := by
  intro o ho H locs ls hR hS hL T hT Xs
  cases ho
  have hlocks := hC.2.2.2.2.2.2.1
  obtain ⟨t, a, b⟩ := W.vret (hlocks := hlocks) (Qc := xm_Qc (xx_G X) (xx_I X) 0 (σ, 0)) (free := xm_A X) hC.1 hC.2.1 hQ.1 (fun t ht _ => xm_fr (rk := 0) (v := 0) hR trivial hS ht rfl) hS.2.2 hd T hT Xs
  exact ⟨t, a, hQ.2 _ _ b⟩
theorem xm_rf_or {Γ : xm_Gm} {v : Int} : xm_rf Γ v = .null ∨ ∃ a, xm_rf Γ v = .ref a := va_rf_or _
theorem xg_rret (hC : xm_C X own cc nL fr mc ms) {C : String} (hQ : xm_Rt X 3 (some (.object C)) kc sc) {v : Int} (hv : 0 ≤ v) (hd : decode cc pc = .ok (.areturn, 1)) : xm_V X kc sc (some (σ, v)) σ pc l [xm_rf (xx_G X) v] := by
  intro o ho H locs ls hR hS hL T hT Xs
  cases ho
  have hlocks := hC.2.2.2.2.2.2.1
  obtain ⟨t, a, b⟩ := W.aret (hlocks := hlocks) (Qc := xm_Qc (xx_G X) (xx_I X) 3 (σ, v)) (free := xm_A X) hC.1 hC.2.1 hQ.1 (Or.inl ⟨C, rfl⟩) xm_rf_or (fun t ht _ => xm_fr (rk := 3) (v := v) hR hv hS ht rfl) hS.2.2 hd T hT Xs
  exact ⟨t, a, hQ.2 _ _ b⟩
theorem xg_cret (hC : xm_C X own cc nL fr mc ms) {C : String} (hQ : xm_Rt X 4 (some (.object C)) kc sc) {v : Int} (hv : 0 ≤ v ∧ v < 8) (hd : decode cc pc = .ok (.areturn, 1)) : xm_V X kc sc (some (σ, v)) σ pc l [.ref (xm_ad (xx_G X) (xm_cb v.toNat))] := by
  intro o ho H locs ls hR hS hL T hT Xs
  cases ho
  have hlocks := hC.2.2.2.2.2.2.1
  obtain ⟨t, a, b⟩ := W.aret (hlocks := hlocks) (Qc := xm_Qc (xx_G X) (xx_I X) 4 (σ, v)) (free := xm_A X) hC.1 hC.2.1 hQ.1 (Or.inl ⟨C, rfl⟩) (Or.inr ⟨_, rfl⟩) (fun t ht _ => xm_fr (rk := 4) (v := v) hR hv hS ht rfl) hS.2.2 hd T hT Xs
  exact ⟨t, a, hQ.2 _ _ b⟩
theorem xg_sret (hC : xm_C X own cc nL fr mc ms) {C : String} (hQ : xm_Rt X 5 (some (.object C)) kc sc) {v : Int} (hv : 0 ≤ v ∧ v < 24) (hd : decode cc pc = .ok (.areturn, 1)) : xm_V X kc sc (some (σ, v)) σ pc l [.ref (xm_adK (xx_G X) v.toNat)] := by
  intro o ho H locs ls hR hS hL T hT Xs
  cases ho
  have hlocks := hC.2.2.2.2.2.2.1
  obtain ⟨t, a, b⟩ := W.aret (hlocks := hlocks) (Qc := xm_Qc (xx_G X) (xx_I X) 5 (σ, v)) (free := xm_A X) hC.1 hC.2.1 hQ.1 (Or.inl ⟨C, rfl⟩) (Or.inr ⟨_, rfl⟩) (fun t ht _ => xm_fr (rk := 5) (v := v) hR hv hS ht rfl) hS.2.2 hd T hT Xs
  exact ⟨t, a, hQ.2 _ _ b⟩
theorem xg_lret (hC : xm_C X own cc nL fr mc ms) (hQ : xm_Rt X 6 (some .long) kc sc) {v : Int64} (hd : decode cc pc = .ok (.lreturn, 1)) : xm_V X kc sc (some (σ, v.toInt)) σ pc l [.long v] := by
  intro o ho H locs ls hR hS hL T hT Xs
  cases ho
  have hlocks := hC.2.2.2.2.2.2.1
  obtain ⟨t, a, b⟩ := W.lret (hlocks := hlocks) (v := v) (Qc := xm_Qc (xx_G X) (xx_I X) 6 (σ, v.toInt)) (free := xm_A X) hC.1 hC.2.1 hQ.1 (fun t ht _ => xm_fr (rk := 6) (v := v.toInt) hR trivial hS ht (by show _ = Outcome.returned (some (.long (Int64.ofInt v.toInt))); rw [Int64.ofInt_toInt])) hS.2.2 hd T hT Xs
  exact ⟨t, a, hQ.2 _ _ b⟩
/-- behind a making: the room as the contract has it -/
theorem xg_widen {kc2 sc2 : Nat} (h1 : kc ≤ kc2) (h2 : sc ≤ sc2) (k : xm_V X kc2 sc2 r σ pc l st) : xm_V X kc sc r σ pc l st := fun o ho H locs ls hR hS hL => W.widen h1 h2 (k o ho H locs ls hR hS hL)
end XK
/-- A METHOD'S START -/
theorem xg_enter {Γ : xm_Gm} {I : xm_Mem → Prop} {la : Launch} {y : MethodName} {cc : ByteArray} {maxL : Nat} {ret : Option FieldType} {fr mc ms rk : Nat} {av : List Value} {σ : xm_Mem} {r : Option xm_Out} (hy : plainName y.cls = true) (hlen : (lg_sl av).length ≤ maxL)
    (body : ∀ X : xm_X, xx_G X = Γ → xx_I X = I → xx_la X = la → xm_C X y.cls cc maxL fr mc ms → xm_Rt X rk ret mc ms → (xx_t X).name = y.name → xm_V X 0 0 r σ 0 (lv_args 0 av) []) : ∀ o, r = some o → xm_M Γ I la y cc maxL ret fr mc ms av σ rk o := by
  intro o ho
  refine Met.ofW (cc := cc) (maxL := maxL) (ret := ret) hy rfl ?_
  intro p e s m args below meth c s₁ B hml hv
  obtain ⟨rfl, hR, hK⟩ := hv
  have hts := atoms_spec (ws := Cond.code y cc maxL ret :: xm_tb) B.pre
  have hown : s.vm.findClass y.cls = some m.cls := findClass_of_methodNamed B.named
  have hname : meth.name = y.name := (name_of_methodNamed B.named B.method).1
  have hl := lv_entry av (n := maxL) hlen
  rw [lg_entry_eq]
  have key := body (Γ, I, la, p, e, xm_rm fr mc ms, s, m, av.toArray, below, meth, c, fun o' => MQ below (xm_Qc Γ I rk o') av.toArray s mc ms (fun q => xm_B Γ < q)) rfl rfl rfl
    ⟨B.exec, B.bytes, hml, hown, fun w hw => hts w (List.mem_cons_of_mem _ hw), hK, B.notSynchronized, by show xm_B Γ < s.heap.size; rw [hR.2.1]; omega, hR.2.2.2.2.1, Nat.le_refl _, Nat.le_refl _, Nat.le_refl _, Nat.le_refl _⟩ ⟨B.returns, fun o' t h => h⟩ hname
  exact key o ho s.heap [] _ hR va_S.rf (by show lv_has _ c.maxLocals _; rw [hml]; exact hl)
