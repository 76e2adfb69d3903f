/-! ===== the class reads a record ===== -/
section XT2
variable {σ : xm_Mem} {B : Nat → Int} {s p : Nat} {f t w : Int}
theorem fr_u1 {σ : xm_Mem} {a k : Nat} {v : Int} : fr (fun b => b = a) σ (xm_u1 σ a k v) := (fr.rf _ _).u1 rfl
theorem nok_V (hB : isB B s) (hp : p ≤ s) (h : nok B s p) : 0 ≤ nV B s p ∧ nV B s p ≤ 99999 := by
  have hs := (skp_rg (B := B) hp).2
  have hr := tnd_rg (B := B) hs
  refine nv_lt (s := s) hB h.2.2 (fun i hi => dig_in hs h.2.1 _ (Nat.le_add_right _ _) ?_)
  have : i < nP B s p - skp B s p := hi
  unfold nP at this
  omega
theorem r6_what {a : Nat} (ha : 111 ≤ a) (ho : xm_obj σ (a : Int) 2) (hB : isB B s) (hT : TC σ B s) (hp : p ≤ s) (hK : -1 ≤ σ.1 a 0 ∧ σ.1 a 0 ≤ 8) :
    ∃ (σ2 : xm_Mem) (f2 : Int) (p2 : Nat) (w2 : Int), f_X6_takeWhatIsOf (cst σ f (p : Int) w) (a : Int) = some (cst σ2 f2 (p2 : Int) w2, 0) ∧ p2 ≤ s ∧ eW B s p2 w2 = tlW B s (σ.1 a 0) p w ∧ fr (fun b => b = a) σ σ2 ∧
      (0 ≤ σ.1 a 0 → tlW B s (σ.1 a 0) p w = -9 → (∀ k, ¬ (2 ≤ k ∧ k ≤ 8) → σ2.1 a k = σ.1 a k) ∧
        σ2.1 a 2 = (if 1 ≤ σ.1 a 0 ∧ σ.1 a 0 ≤ 6 then nV B s p else σ.1 a 2) ∧ σ2.1 a 3 = (if σ.1 a 0 = 1 ∨ σ.1 a 0 = 2 then nV B s (nP B s p) else σ.1 a 3) ∧
        σ2.1 a 4 = (if σ.1 a 0 = 0 then pV B s (nP B s (nP B s p)) else σ.1 a 4) ∧ σ2.1 a 5 = (if σ.1 a 0 = 0 then pV B s (nP B s (nP B s (nP B s (nP B s p)))) else σ.1 a 5) ∧
        σ2.1 a 6 = (if σ.1 a 0 = 5 ∨ σ.1 a 0 = 6 then nV B s (nP B s p) else if σ.1 a 0 = 7 ∨ σ.1 a 0 = 8 then nV B s p else σ.1 a 6) ∧
        (σ.1 a 0 = 4 → σ2.1 a 7 = lx B s (nP B s p) wRl 6) ∧ (σ.1 a 0 = 0 → σ2.1 a 8 = xb (wd B s p 9))) := by
  have n4 : a ≠ 4 := by omega
  have p1 := (nP_rg (B := B) hp).2
  have p2 := (nP_rg (B := B) p1).2
  have p3 := (nP_rg (B := B) p2).2
  have p4 := (nP_rg (B := B) p3).2
  have p5 := (nP_rg (B := B) p4).2
  unfold f_X6_takeWhatIsOf
  simp only [xobjc, if_pos ho, xvl, Int.toNat_natCast, cst_r n4]
  have e : σ.1 a 0 = -1 ∨ σ.1 a 0 = 0 ∨ σ.1 a 0 = 1 ∨ σ.1 a 0 = 2 ∨ σ.1 a 0 = 3 ∨ σ.1 a 0 = 4 ∨ σ.1 a 0 = 5 ∨ σ.1 a 0 = 6 ∨ σ.1 a 0 = 7 ∨ σ.1 a 0 = 8 := by omega
  rcases e with e | e | e | e | e | e | e | e | e | e
  · rw [if_neg (by omega), if_neg (by omega), if_neg (by omega), if_neg (by omega), if_neg (by omega), if_neg (by omega), if_neg (by omega), r6_takeNumber hB hT hp]
    simp only [Option.bind_some, xobjc, if_pos ho, xst, cst_o _ n4]
    refine ⟨_, _, _, _, rfl, p1, ?_, fr_u1, fun z => absurd z (by omega)⟩
    unfold tlW; rw [e]; rfl
  · rw [if_pos e, r6_takeBirth ha ho hB hT hp]
    simp only [Option.bind_some]
    refine ⟨_, _, _, _, rfl, p5, ?_, (fr_u1.tr fr_u1).tr fr_u1, fun _ z => ?_⟩
    · unfold tlW; rw [e]; rfl
    · unfold tlW at z
      rw [e, if_pos rfl] at z
      have z1 := eW_9 z
      have z2 := pW_9 z1
      have z3 := dW_9 z2.2
      have z4 := pW_9 z3.2
      have z5 := dW_9 z4.2
      have z6 := lW_9 z5.2
      rw [pA_ok z2.1, pA_ok z4.1]
      refine ⟨fun k hk => ?_, ?_, ?_, ?_, ?_, ?_, ?_, ?_⟩
      · rw [xu11, if_neg (by omega), xu11, if_neg (by omega), xu11, if_neg (by omega)]
      all_goals simp [xu11, e]
  · rw [if_neg (by omega), if_pos e, r6_j56 ha ho hB hT hp]
    refine ⟨_, _, _, _, rfl, p2, ?_, fr_u1.tr fr_u1, fun _ z => ?_⟩
    · unfold tlW; rw [e]; rfl
    · unfold tlW at z
      rw [e, if_neg (by decide), if_pos (by decide)] at z
      have z1 := nW_9 (eW_9 z)
      have z2 := nW_9 z1.2
      rw [nA_ok z1.1, nA_ok z2.1]
      refine ⟨fun k hk => ?_, ?_, ?_, ?_, ?_, ?_, ?_, ?_⟩
      · rw [xu11, if_neg (by omega), xu11, if_neg (by omega)]
      all_goals simp [xu11, e]
  · rw [if_neg (by omega), if_neg (by omega), if_pos e, r6_j56 ha ho hB hT hp]
    refine ⟨_, _, _, _, rfl, p2, ?_, fr_u1.tr fr_u1, fun _ z => ?_⟩
    · unfold tlW; rw [e]; rfl
    · unfold tlW at z
      rw [e, if_neg (by decide), if_pos (by decide)] at z
      have z1 := nW_9 (eW_9 z)
      have z2 := nW_9 z1.2
      rw [nA_ok z1.1, nA_ok z2.1]
      refine ⟨fun k hk => ?_, ?_, ?_, ?_, ?_, ?_, ?_, ?_⟩
      · rw [xu11, if_neg (by omega), xu11, if_neg (by omega)]
      all_goals simp [xu11, e]
  · rw [if_neg (by omega), if_neg (by omega), if_neg (by omega), if_pos e, r6_takeNumber hB hT hp]
    simp only [Option.bind_some, xobjc, if_pos ho, xst, cst_o _ n4]
    refine ⟨_, _, _, _, rfl, p1, ?_, fr_u1, fun _ z => ?_⟩
    · unfold tlW; rw [e]; rfl
    · unfold tlW at z
      rw [e, if_neg (by decide), if_neg (by decide), if_neg (by decide)] at z
      have z1 := nW_9 (eW_9 z)
      rw [nA_ok z1.1]
      refine ⟨fun k hk => ?_, ?_, ?_, ?_, ?_, ?_, ?_, ?_⟩
      · rw [xu11, if_neg (by omega)]
      all_goals simp [xu11, e]
  · rw [if_neg (by omega), if_neg (by omega), if_neg (by omega), if_neg (by omega), if_pos e, r6_takeNumber hB hT hp]
    simp only [Option.bind_some, xobjc, if_pos ho, xst, cst_o _ n4]
    rw [r6_takeRule hB (hT.u1 ha) p1]
    simp only [Option.bind_some, xobjc, xobj1, if_pos ho, xst, cst_o _ n4]
    refine ⟨_, _, _, _, rfl, p2, ?_, fr_u1.tr fr_u1, fun _ z => ?_⟩
    · unfold tlW; rw [e]; rfl
    · unfold tlW at z
      rw [e, if_neg (by decide), if_neg (by decide), if_pos (by decide)] at z
      have z1 := lW_9 (eW_9 z)
      have z2 := nW_9 z1.2
      rw [lA_ok z1.1, nA_ok z2.1]
      refine ⟨fun k hk => ?_, ?_, ?_, ?_, ?_, ?_, ?_, ?_⟩
      · rw [xu11, if_neg (by omega), xu11, if_neg (by omega)]
      all_goals simp [xu11, e]
  · rw [if_neg (by omega), if_neg (by omega), if_neg (by omega), if_neg (by omega), if_neg (by omega), if_pos e, r6_j105 ha ho hB hT hp]
    refine ⟨_, _, _, _, rfl, p2, ?_, fr_u1.tr fr_u1, fun _ z => ?_⟩
    · unfold tlW; rw [e]; rfl
    · unfold tlW at z
      rw [e, if_neg (by decide), if_pos (by decide)] at z
      have z1 := nW_9 (eW_9 z)
      have z2 := nW_9 z1.2
      rw [nA_ok z1.1, nA_ok z2.1]
      refine ⟨fun k hk => ?_, ?_, ?_, ?_, ?_, ?_, ?_, ?_⟩
      · rw [xu11, if_neg (by omega), xu11, if_neg (by omega)]
      all_goals simp [xu11, e]
  · rw [if_neg (by omega), if_neg (by omega), if_neg (by omega), if_neg (by omega), if_neg (by omega), if_neg (by omega), if_pos e, r6_j105 ha ho hB hT hp]
    refine ⟨_, _, _, _, rfl, p2, ?_, fr_u1.tr fr_u1, fun _ z => ?_⟩
    · unfold tlW; rw [e]; rfl
    · unfold tlW at z
      rw [e, if_neg (by decide), if_pos (by decide)] at z
      have z1 := nW_9 (eW_9 z)
      have z2 := nW_9 z1.2
      rw [nA_ok z1.1, nA_ok z2.1]
      refine ⟨fun k hk => ?_, ?_, ?_, ?_, ?_, ?_, ?_, ?_⟩
      · rw [xu11, if_neg (by omega), xu11, if_neg (by omega)]
      all_goals simp [xu11, e]
  · rw [if_neg (by omega), if_neg (by omega), if_neg (by omega), if_neg (by omega), if_neg (by omega), if_neg (by omega), if_neg (by omega), r6_takeNumber hB hT hp]
    simp only [Option.bind_some, xobjc, if_pos ho, xst, cst_o _ n4]
    refine ⟨_, _, _, _, rfl, p1, ?_, fr_u1, fun _ z => ?_⟩
    · unfold tlW; rw [e]; rfl
    · unfold tlW at z
      rw [e, if_neg (by decide), if_neg (by decide), if_neg (by decide)] at z
      have z1 := nW_9 (eW_9 z)
      rw [nA_ok z1.1]
      refine ⟨fun k hk => ?_, ?_, ?_, ?_, ?_, ?_, ?_, ?_⟩
      · rw [xu11, if_neg (by omega)]
      all_goals simp [xu11, e]
  · rw [if_neg (by omega), if_neg (by omega), if_neg (by omega), if_neg (by omega), if_neg (by omega), if_neg (by omega), if_neg (by omega), r6_takeNumber hB hT hp]
    simp only [Option.bind_some, xobjc, if_pos ho, xst, cst_o _ n4]
    refine ⟨_, _, _, _, rfl, p1, ?_, fr_u1, fun _ z => ?_⟩
    · unfold tlW; rw [e]; rfl
    · unfold tlW at z
      rw [e, if_neg (by decide), if_neg (by decide), if_neg (by decide)] at z
      have z1 := nW_9 (eW_9 z)
      rw [nA_ok z1.1]
      refine ⟨fun k hk => ?_, ?_, ?_, ?_, ?_, ?_, ?_, ?_⟩
      · rw [xu11, if_neg (by omega)]
      all_goals simp [xu11, e]
theorem tlW_9 {K : Int} (h : tlW B s K p w = -9) : w = -9 := by
  unfold tlW at h
  by_cases k0 : K = 0
  · rw [if_pos k0] at h
    exact (lW_9 (dW_9 (pW_9 (dW_9 (pW_9 (eW_9 h)).2).2).2).2).2
  · rw [if_neg k0] at h
    by_cases k1 : K = 1 ∨ K = 2 ∨ K = 5 ∨ K = 6
    · rw [if_pos k1] at h; exact (nW_9 (nW_9 (eW_9 h)).2).2
    · rw [if_neg k1] at h
      by_cases k2 : K = 4
      · rw [if_pos k2] at h; exact (nW_9 (lW_9 (eW_9 h)).2).2
      · rw [if_neg k2] at h; exact (nW_9 (eW_9 h)).2
theorem rdW_9 (h : rdW B s = -9) : (lx B s 0 wKn 9 < 9 ∧ rdK B s = lx B s 0 wKn 9) ∧ nok B s (nP B s 0) := by
  have h1 := nW_9 (tlW_9 h)
  have h2 := lW_9 h1.2
  exact ⟨⟨h2.1, lA_ok h2.1⟩, h1.1⟩
theorem rdK_rg : -1 ≤ rdK B s ∧ rdK B s ≤ 8 := by
  unfold rdK lA
  split <;> omega
theorem r6_readInto {a : Nat} (ha : 111 ≤ a) (ho : xm_obj σ (a : Int) 2) (hB : isB B s) (hT : TC σ B s) (hi : ∀ k, 2 ≤ k → k ≤ 6 → σ.1 a k = -1) :
    ∃ σ', f_X6_readInto σ (a : Int) = some (σ', rdW B s) ∧ fr (fun b => b = 4 ∨ b = a) σ σ' ∧
      (rdW B s = -9 → σ'.1 a 0 = rdK B s ∧ σ'.1 a 1 = rdD B s ∧ σ'.1 a 2 = rd1 B s ∧ σ'.1 a 3 = (if rdK B s = 1 ∨ rdK B s = 2 then rd2 B s else -1) ∧ σ'.1 a 4 = (if rdK B s = 0 then rd2 B s else -1) ∧ σ'.1 a 5 = (if rdK B s = 0 then rd3 B s else -1) ∧ σ'.1 a 6 = (if 4 ≤ rdK B s then rd2 B s else -1) ∧ (rdK B s = 4 → σ'.1 a 7 = rd4 B s) ∧ (rdK B s = 0 → σ'.1 a 8 = rd4 B s) ∧ σ'.1 a 9 = σ.1 a 9) := by
  have n4 : a ≠ 4 := by omega
  have p0 : (0 : Nat) ≤ s := Nat.zero_le _
  have p1 := (nP_rg (B := B) p0).2
  have p2 := (nP_rg (B := B) p1).2
  unfold f_X6_readInto
  simp only [xst]
  rw [show xm_u1 (xm_u1 (xm_u1 σ 4 1 0) 4 2 0) 4 3 (-9) = cst σ 0 ((0 : Nat) : Int) (-9) from rfl, r6_takeKind hB hT p0]
  simp only [Option.bind_some, xobjc, if_pos ho, xst, Int.toNat_natCast, cst_o _ n4]
  have hT1 : TC (xm_u1 σ a 0 (lA B s 0 wKn 9)) B s := hT.u1 ha
  rw [r6_takeNumber hB hT1 p1]
  simp only [Option.bind_some, xobjc, xobj1, if_pos ho, xst, Int.toNat_natCast, cst_o _ n4]
  have hT2 : TC (xm_u1 (xm_u1 σ a 0 (lA B s 0 wKn 9)) a 1 (nA B s (nP B s 0))) B s := hT1.u1 ha
  have hK2 : (xm_u1 (xm_u1 σ a 0 (lA B s 0 wKn 9)) a 1 (nA B s (nP B s 0))).1 a 0 = rdK B s := by simp [xu11]; rfl
  have rg := rdK_rg (B := B) (s := s)
  obtain ⟨σ2, f2, q, w2, e1, e2, e3, e4, e5⟩ := r6_what (f := (skp B s (nP B s 0) : Int)) (w := nW B s (nP B s 0) (lW B s 0 wKn 9 (-9))) ha (show xm_obj (xm_u1 (xm_u1 σ a 0 (lA B s 0 wKn 9)) a 1 (nA B s (nP B s 0))) (a : Int) 2 from ho) hB hT2 p2 (by rw [hK2]; exact rg)
  rw [e1]
  simp only [Option.bind_some]
  have hT3 : TC σ2 B s := ⟨by rw [e4.1 2 1 (by omega)]; exact hT2.1, fun k hk => by rw [e4.1 3 k (by omega)]; exact hT2.2 k hk⟩
  rw [r6_next hB hT3 q e2]
  unfold f_X8_size
  simp only [Option.bind_some, cst_r1, hT3.cst.1, cst_r3]
  rw [hK2] at e3 e5
  have e3 : eW B s q w2 = rdW B s := e3
  have main : fr (fun b => b = 4 ∨ b = a) σ σ2 := ((fr_u1.tr fr_u1).tr e4).mono (fun b hb => Or.inr hb)
  have fin : ∀ x y z, fr (fun b => b = 4 ∨ b = a) σ (cst σ2 x y z) := fun x y z => ((main.u1 (Or.inl rfl)).u1 (Or.inl rfl)).u1 (Or.inl rfl)
  have fields : ∀ x y z, (rdW B s = -9 → (cst σ2 x y z).1 a 0 = rdK B s ∧ (cst σ2 x y z).1 a 1 = rdD B s ∧ (cst σ2 x y z).1 a 2 = rd1 B s ∧ (cst σ2 x y z).1 a 3 = (if rdK B s = 1 ∨ rdK B s = 2 then rd2 B s else -1) ∧ (cst σ2 x y z).1 a 4 = (if rdK B s = 0 then rd2 B s else -1) ∧ (cst σ2 x y z).1 a 5 = (if rdK B s = 0 then rd3 B s else -1) ∧ (cst σ2 x y z).1 a 6 = (if 4 ≤ rdK B s then rd2 B s else -1) ∧ (rdK B s = 4 → (cst σ2 x y z).1 a 7 = rd4 B s) ∧ (rdK B s = 0 → (cst σ2 x y z).1 a 8 = rd4 B s) ∧ (cst σ2 x y z).1 a 9 = σ.1 a 9) := by
    intro x y z h
    have k := rdW_9 h
    obtain ⟨g1, g2, g3, g4, g5, g6, g7, g8⟩ := e5 (by rw [k.1.2]; omega) h
    simp only [cst_r n4]
    have o : ∀ j, 2 ≤ j → j ≤ 6 → (xm_u1 (xm_u1 σ a 0 (lA B s 0 wKn 9)) a 1 (nA B s (nP B s 0))).1 a j = -1 := fun j h1 h2 => by rw [xu11, if_neg (by omega), xu11, if_neg (by omega)]; exact hi j h1 h2
    rw [o 2 (by omega) (by omega)] at g2
    rw [o 3 (by omega) (by omega)] at g3
    rw [o 4 (by omega) (by omega)] at g4
    rw [o 5 (by omega) (by omega)] at g5
    rw [o 6 (by omega) (by omega)] at g6
    refine ⟨?_, ?_, ?_, ?_, ?_, ?_, ?_, fun z => ?_, fun z => ?_, ?_⟩
    · rw [g1 0 (by omega), hK2]
    · rw [g1 1 (by omega)]
      have := nA_ok k.2
      simp [xu11, this]
      rfl
    · rw [g2]; rfl
    · rw [g3]
      unfold rd2 rdP
      by_cases c : rdK B s = 1 ∨ rdK B s = 2
      · rw [if_pos c, if_pos c, if_neg (by omega), if_pos (by omega)]
      · rw [if_neg c, if_neg c]
    · rw [g4]
      unfold rd2 rdP
      by_cases c : rdK B s = 0
      · rw [if_pos c, if_pos c, if_pos c]
      · rw [if_neg c, if_neg c]
    · rw [g5]
      unfold rd3 rdP
      by_cases c : rdK B s = 0
      · rw [if_pos c, if_pos c]
      · rw [if_neg c, if_neg c]
    · rw [g6]
      unfold rd2 rdP
      by_cases c : rdK B s = 5 ∨ rdK B s = 6
      · rw [if_pos c, if_pos (by omega), if_neg (by omega), if_pos (by omega)]
      · rw [if_neg c]
        by_cases d : rdK B s = 7 ∨ rdK B s = 8
        · rw [if_pos d, if_pos (by omega), if_neg (by omega), if_neg (by omega)]
        · rw [if_neg d]
          by_cases v : 4 ≤ rdK B s
          · rw [if_pos v, if_neg (by omega), if_neg (by omega)]
          · rw [if_neg v]
    · rw [g7 z]; unfold rd4 rdP; rw [if_neg (by omega), if_pos z]
    · rw [g8 z]; unfold rd4 rdP; rw [if_pos z]
    · rw [g1 9 (by omega)]; simp [xu11]
  by_cases c : skp B s q < s
  · rw [if_pos (by omega), r6_fail]
    simp only [Option.bind_some, cst_r3]
    have : rdW B s = fl w2 (skp B s q) := by rw [← e3]; unfold eW; exact if_pos c
    exact ⟨_, by rw [this], fin _ _ _, fields _ _ _⟩
  · rw [if_neg (by omega)]
    have : rdW B s = w2 := by rw [← e3]; unfold eW; exact if_neg c
    exact ⟨_, by rw [this], fin _ _ _, fields _ _ _⟩
end XT2
