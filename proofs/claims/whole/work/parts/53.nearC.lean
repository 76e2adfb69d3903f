/-! ===== the reference's near; a line ===== -/
noncomputable def ord (S : xS) (A : Nat → Nat) (n : Nat) (rule : Int) (root : Nat) : List Nat := if rule = 4 then ordN S A n root else ordW S A n rule root
/-- the LINE of a title on a day from a root -/
noncomputable def line (S : xS) (A : Nat → Nat) (n t : Nat) (d : Int) (root : Nat) : List Nat := cntL S t d (ord S A n (rl S t) root)
theorem cntL_app (S : xS) (t : Nat) (d : Int) (l r : List Nat) : cntL S t d (l ++ r) = cntL S t d l ++ cntL S t d r := List.filter_append _ _
theorem cntL_y {S : xS} {t : Nat} {d : Int} {l : List Nat} {p : Nat} (h : cnt S t d p) : cntL S t d (l ++ [p]) = cntL S t d l ++ [p] := filt_y (dc_y h)
theorem cntL_n {S : xS} {t : Nat} {d : Int} {l : List Nat} {p : Nat} (h : ¬ cnt S t d p) : cntL S t d (l ++ [p]) = cntL S t d l := filt_n (fun z => h (dc_t.mp z))
def zNR (a k : Nat) : Prop := (a = 84 ∧ k = 27) ∨ a = 101 ∨ a = 102
theorem zNRM : ∀ a k, zNR a k → ¬ (a = 84 ∧ (k = 5 ∨ k = 14 ∨ k = 15)) ∧ ¬ (86 ≤ a ∧ a ≤ 94) := fun a k h => by unfold zNR at h; omega
theorem zNRR : ∀ a k, zNR a k → ¬ (a = 84 ∧ k = 22) ∧ ¬ (96 ≤ a ∧ a ≤ 100) := fun a k h => by unfold zNR at h; omega
section XN
variable {σ : xm_Mem} {S : xS} {A : Nat → Nat} {n : Nat} {m : Nat → Int64} {t : Nat} {d : Int}
theorem m_near1 (hO : OK S) (hA : AGE S A n) (hM : MS σ S) (hR : RO σ S A n m) {root : Nat} (hroot : isP S (root : Int)) (K : xm_Mem → Int → Int → Int → Option xm_Out) :
    ∃ (σ' : xm_Mem) (M : Nat), f_X11_walkNear_l3 (fun σ_4 x1_4 x2_4 x3_4 => if 0 ≤ x1_4 ∧ x1_4 < 64 then (xm_st (xm_u1 σ_4 102 x1_4.toNat (0 : Int)) (fun σ5 => f_X11_walkNear_l37 K xm_fuel σ5 x1_4 x2_4 x3_4 (0 : Int) (0 : Int))) else none) xm_fuel σ (root : Int) (t : Int) d 0 = K σ' (t : Int) d (M : Int) ∧ gx (fun a _ => a = 102) σ σ' ∧ M < 64 ∧ ∀ c : Nat, isP S (c : Int) → σ'.1 102 c = nrF S root c ∧ nrF S root c ≤ M := by
  have r64 := (hO.rec hroot).2.2.2.2.2
  have hn := hA.1
  unfold f_X11_walkNear_l3
  refine it_T (γ := xm_Mem × Nat) _ _ (fun (g : xm_Mem → Int → Int → Int → Int → Option xm_Out) a => g a.1 (root : Int) (t : Int) d (a.2 : Int)) (fun a => a.2 ≤ 64 ∧ gx (fun a _ => a = 102) σ a.1 ∧ ∀ c, c < a.2 → a.1.1 102 c = -1) (fun a => 64 - a.2) (fun z => ∃ (σ' : xm_Mem) (M : Nat), z = K σ' (t : Int) d (M : Int) ∧ gx (fun a _ => a = 102) σ σ' ∧ M < 64 ∧ ∀ c : Nat, isP S (c : Int) → σ'.1 102 c = nrF S root c ∧ nrF S root c ≤ M) ?_ xm_fuel (σ, 0) ⟨Nat.zero_le _, gx.rf _ _, fun c h => absurd h (Nat.not_lt_zero _)⟩ (xfu (by show 64 - 0 < _; decide))
  rintro self ⟨τ, i⟩ ⟨hi, hf, hz⟩ ih
  replace hi : i ≤ 64 := hi
  replace hf : gx (fun a _ => a = 102) σ τ := hf
  replace hz : ∀ c, c < i → τ.1 102 c = -1 := hz
  show ∃ σ' M, f_X11_walkNear_b3 _ self τ (root : Int) (t : Int) d (i : Int) = _ ∧ _
  unfold f_X11_walkNear_b3
  by_cases h : i < 64
  · rw [if_pos (by omega), if_pos ⟨by omega, by omega⟩, xst, Int.toNat_natCast, xw1 (by omega)]
    refine ih (_, i + 1) ⟨h, hf.u1 rfl, fun c hc => ?_⟩ (by show 64 - (i + 1) < 64 - i; omega)
    have hc : c < i + 1 := hc
    show (xm_u1 τ 102 i (-1)).1 102 c = _
    rw [xu11]
    by_cases e : c = i
    · rw [if_pos ⟨rfl, e⟩]
    · rw [if_neg (fun z => e z.2)]; exact hz c (by omega)
  · rw [if_neg (by omega)]
    try dsimp only
    have e64 : i = 64 := by omega
    subst e64
    rw [if_pos ⟨by omega, by omega⟩, xst, Int.toNat_natCast]
    unfold f_X11_walkNear_l37
    refine it_T (γ := (xm_Mem × Nat) × Nat) _ _ (fun (g : xm_Mem → Int → Int → Int → Int → Int → Option xm_Out) a => g a.1.1 (root : Int) (t : Int) d (a.1.2 : Int) (a.2 : Int)) (fun a => a.2 ≤ n ∧ gx (fun a _ => a = 102) σ a.1.1 ∧ a.1.2 < 64 ∧ a.1.1.1 102 root = 0 ∧ (∀ c : Nat, isP S (c : Int) → -1 ≤ a.1.1.1 102 c ∧ a.1.1.1 102 c ≤ c) ∧ (∀ i, i < a.2 → a.1.1.1 102 (A i) ≤ (a.1.2 : Int)) ∧ (∀ i, a.2 ≤ i → i < n → A i ≠ root → a.1.1.1 102 (A i) = -1) ∧ ∀ i, i < a.2 → A i ≠ root → (wLegit S (A i) → a.1.1.1 102 (A i) = comb (a.1.1.1 102 (wFa S (A i)).toNat) (a.1.1.1 102 (wMo S (A i)).toNat)) ∧ (¬ wLegit S (A i) → a.1.1.1 102 (A i) = -1)) (fun a => n - a.2) (fun z => ∃ (σ' : xm_Mem) (M : Nat), z = K σ' (t : Int) d (M : Int) ∧ gx (fun a _ => a = 102) σ σ' ∧ M < 64 ∧ ∀ c : Nat, isP S (c : Int) → σ'.1 102 c = nrF S root c ∧ nrF S root c ≤ M) ?_ xm_fuel ((xm_u1 τ 102 root 0, 0), 0) ⟨Nat.zero_le _, hf.u1 rfl, by show 0 < 64; decide, ?_, fun c hc => ?_, fun i h => absurd h (Nat.not_lt_zero _), fun i _ hi hr => ?_, fun i h => absurd h (Nat.not_lt_zero _)⟩ (xfu (by show n - 0 < _; omega))
    · clear ih hz hf h hi
      rintro self ⟨⟨τ, M⟩, k⟩ ⟨hk, hf, hM64, h0, hrg, hmx, hrest, hdone⟩ ih
      replace hk : k ≤ n := hk
      replace hf : gx (fun a _ => a = 102) σ τ := hf
      replace hM64 : M < 64 := hM64
      replace h0 : τ.1 102 root = 0 := h0
      replace hrg : ∀ c : Nat, isP S (c : Int) → -1 ≤ τ.1 102 c ∧ τ.1 102 c ≤ c := hrg
      replace hmx : ∀ i, i < k → τ.1 102 (A i) ≤ (M : Int) := hmx
      replace hrest : ∀ i, k ≤ i → i < n → A i ≠ root → τ.1 102 (A i) = -1 := hrest
      replace hdone : ∀ i, i < k → A i ≠ root → (wLegit S (A i) → τ.1 102 (A i) = comb (τ.1 102 (wFa S (A i)).toNat) (τ.1 102 (wMo S (A i)).toNat)) ∧ (¬ wLegit S (A i) → τ.1 102 (A i) = -1) := hdone
      have hMτ := hM.gx hf (fun a k h => by omega)
      have hRτ := hR.gx hf (fun a k h => by omega)
      show ∃ σ' M', f_X11_walkNear_b37 K self τ (root : Int) (t : Int) d (M : Int) (k : Int) = _ ∧ _
      unfold f_X11_walkNear_b37
      rw [hRτ.1]
      by_cases h : k < n
      · have hc := hA.2.1 k h
        have hr97 := hRτ.2.1 k h
        rw [if_pos (by omega), if_pos ⟨by omega, by omega⟩, Int.toNat_natCast, hr97.1, xvl]
        have gk : 0 ≤ (A k : Int) ∧ (A k : Int) < 64 := ⟨by omega, by omega⟩
        by_cases er : A k = root
        · rw [if_pos (by omega), xw1 (by omega)]
          refine ih ((τ, M), k + 1) ⟨h, hf, hM64, h0, hrg, fun i hi => ?_, fun i hi => hrest i (by have : k + 1 ≤ i := hi; omega), fun i hi hne => ?_⟩ (by show n - (k + 1) < n - k; omega)
          · have hi : i < k + 1 := hi
            by_cases e : i = k
            · subst e; show τ.1 102 (A i) ≤ _; rw [er, h0]; omega
            · exact hmx i (by omega)
          · have hi : i < k + 1 := hi
            by_cases e : i = k
            · subst e; exact absurd er hne
            · exact hdone i (by omega) hne
        · rw [if_neg (by omega), if_pos gk, Int.toNat_natCast, hr97.2.1, xbi]
          by_cases l : wLegit S (A k)
          · obtain ⟨⟨pf1, pf2, pf3⟩, ⟨pm1, pm2, pm3⟩, pne⟩ := lg_par hO hc.1 l
            have rf := hrg _ pf1
            have rm := hrg _ pm1
            rw [if_pos l, m_father hO.1 hMτ hc.1.1 hc.1.2.1, Option.bind_some]
            try dsimp only
            rw [if_pos ⟨by omega, by omega⟩, xvl, m_mother hO.1 hMτ hc.1.1 hc.1.2.1, Option.bind_some]
            try dsimp only
            rw [if_pos ⟨by omega, by omega⟩, xvl]
            -- what is written
            have fin : ∀ v : Int, v = comb (τ.1 102 (wFa S (A k)).toNat) (τ.1 102 (wMo S (A k)).toNat) → ∃ (σ' : xm_Mem) (M' : Nat), self (xm_u1 τ 102 (A k) v) (root : Int) (t : Int) d (xm_max (M : Int) v) (xm_w ((k : Int) + 1)) = K σ' (t : Int) d (M' : Int) ∧ gx (fun a _ => a = 102) σ σ' ∧ M' < 64 ∧ ∀ c : Nat, isP S (c : Int) → σ'.1 102 c = nrF S root c ∧ nrF S root c ≤ M' := by
              intro v hv
              have rv := comb_rg (a := τ.1 102 (wFa S (A k)).toNat) (b := τ.1 102 (wMo S (A k)).toNat) (c := (A k : Int)) rf.1 rm.1 (by omega) (by omega) (by omega)
              rw [← hv] at rv
              obtain ⟨M2, hM2⟩ : ∃ M2 : Nat, xm_max (M : Int) v = (M2 : Int) := ⟨(xm_max (M : Int) v).toNat, by unfold xm_max; split <;> omega⟩
              have hM2b : M ≤ M2 ∧ v ≤ M2 ∧ M2 < 64 := by unfold xm_max at hM2; split at hM2 <;> omega
              have o : ∀ q, q ≠ A k → (xm_u1 τ 102 (A k) v).1 102 q = τ.1 102 q := fun q hq => by rw [xu11, if_neg (fun z => hq z.2)]
              have oe : (xm_u1 τ 102 (A k) v).1 102 (A k) = v := by rw [xu11, if_pos ⟨rfl, rfl⟩]
              have ne : ∀ i, i < n → i ≠ k → A i ≠ A k := fun i hi hik z => hik (hA.inj hi h z)
              rw [hM2, xw1 (by omega)]
              refine ih ((_, M2), k + 1) ⟨h, hf.u1 rfl, hM2b.2.2, by show (xm_u1 τ 102 (A k) v).1 102 root = 0; rw [o root (fun z => er z.symm)]; exact h0, fun c hcp => ?_, fun i hi => ?_, fun i hi hi2 hne => ?_, fun i hi hne => ?_⟩ (by show n - (k + 1) < n - k; omega)
              · show -1 ≤ (xm_u1 τ 102 (A k) v).1 102 c ∧ (xm_u1 τ 102 (A k) v).1 102 c ≤ c
                by_cases e : c = A k
                · rw [e, oe]; exact rv
                · rw [o c e]; exact hrg c hcp
              · have hi : i < k + 1 := hi
                show (xm_u1 τ 102 (A k) v).1 102 (A i) ≤ (M2 : Int)
                by_cases e : i = k
                · subst e; rw [oe]; exact hM2b.2.1
                · rw [o _ (ne i (by omega) e)]; have := hmx i (by omega); omega
              · have hi : k + 1 ≤ i := hi
                show (xm_u1 τ 102 (A k) v).1 102 (A i) = -1
                rw [o _ (ne i hi2 (by omega))]; exact hrest i (by omega) hi2 hne
              · have hi : i < k + 1 := hi
                show (wLegit S (A i) → (xm_u1 τ 102 (A k) v).1 102 (A i) = comb ((xm_u1 τ 102 (A k) v).1 102 _) ((xm_u1 τ 102 (A k) v).1 102 _)) ∧ (¬ wLegit S (A i) → (xm_u1 τ 102 (A k) v).1 102 (A i) = -1)
                by_cases e : i = k
                · subst e
                  rw [oe, o (wFa S (A i)).toNat (by omega), o (wMo S (A i)).toNat (by omega)]
                  exact ⟨fun _ => hv, fun z => absurd l z⟩
                · rw [o _ (ne i (by omega) e)]
                  have hd := hdone i (by omega) hne
                  refine ⟨fun li => ?_, hd.2⟩
                  obtain ⟨⟨qf1, qf2, qf3⟩, ⟨qm1, qm2, qm3⟩, qne⟩ := lg_par hO (hA.2.1 i (by omega)).1 li
                  have nf : (wFa S (A i)).toNat ≠ A k := fun z => by
                    have := ch_idx hO hA (i := k) (j := i) h (by omega) ⟨li, Or.inl (by rw [← z]; exact qf3.symm)⟩
                    omega
                  have nm : (wMo S (A i)).toNat ≠ A k := fun z => by
                    have := ch_idx hO hA (i := k) (j := i) h (by omega) ⟨li, Or.inr (by rw [← z]; exact qm3.symm)⟩
                    omega
                  rw [o _ nf, o _ nm]
                  exact hd.1 li
            have j133 : ∀ s0 : Int, (-1 ≤ s0 ∧ s0 < 64) → (if s0 < 0 then -1 else s0 + 1) = comb (τ.1 102 (wFa S (A k)).toNat) (τ.1 102 (wMo S (A k)).toNat) → ∃ (σ' : xm_Mem) (M' : Nat), f_X11_walkNear_j133 self τ s0 (A k : Int) (root : Int) (t : Int) d (M : Int) (k : Int) (A k : Int) = K σ' (t : Int) d (M' : Int) ∧ gx (fun a _ => a = 102) σ σ' ∧ M' < 64 ∧ ∀ c : Nat, isP S (c : Int) → σ'.1 102 c = nrF S root c ∧ nrF S root c ≤ M' := by
              intro s0 hs hv
              unfold f_X11_walkNear_j133 f_X11_walkNear_j163
              have e1 : (xm_u1 τ 102 (A k) s0).1 102 (A k) = s0 := by rw [xu11, if_pos ⟨rfl, rfl⟩]
              have e2 : ∀ v, (xm_u1 τ 102 (A k) v).1 102 (A k) = v := fun v => by rw [xu11, if_pos ⟨rfl, rfl⟩]
              simp only [if_pos gk, xst, Int.toNat_natCast, e1, u1_u1, xvl, e2]
              by_cases c : s0 < 0
              · rw [if_pos c]
                rw [if_pos c] at hv
                exact fin (-1) hv
              · rw [if_neg c, xp_w (x := s0 + 1) (by omega) (by omega)]
                rw [if_neg c] at hv
                exact fin (s0 + 1) hv
            by_cases ca : τ.1 102 (wFa S (A k)).toNat < 0
            · rw [if_pos ca]
              refine j133 _ ⟨rm.1, by omega⟩ ?_
              unfold comb
              rw [if_pos ca]
            · rw [if_neg ca]
              by_cases cb : τ.1 102 (wMo S (A k)).toNat < 0
              · rw [if_pos cb]
                refine j133 _ ⟨rf.1, by omega⟩ ?_
                unfold comb
                rw [if_neg ca, if_neg ca, if_pos cb]
              · rw [if_neg cb]
                refine j133 _ ?_ ?_
                · unfold xm_min; split <;> omega
                · unfold comb
                  rw [if_neg ca, if_neg cb, if_neg (by unfold xm_min; split <;> omega)]
          · rw [if_neg l, xw1 (by omega)]
            refine ih ((τ, M), k + 1) ⟨h, hf, hM64, h0, hrg, fun i hi => ?_, fun i hi => hrest i (by have : k + 1 ≤ i := hi; omega), fun i hi hne => ?_⟩ (by show n - (k + 1) < n - k; omega)
            · have hi : i < k + 1 := hi
              by_cases e : i = k
              · subst e; show τ.1 102 (A i) ≤ _; rw [hrest i (Nat.le_refl _) h er]; omega
              · exact hmx i (by omega)
            · have hi : i < k + 1 := hi
              by_cases e : i = k
              · subst e; exact ⟨fun z => absurd z l, fun _ => hrest i (Nat.le_refl _) h er⟩
              · exact hdone i (by omega) hne
      · rw [if_neg (by omega)]
        have e : k = n := by omega
        subst e
        have hNR : NR S root (fun c => τ.1 102 c) := ⟨h0, fun c hcp hr => by
          obtain ⟨i, i1, i2⟩ := hA.2.2.2 c hcp
          have := hdone i i1 (by rw [i2]; exact hr)
          rw [i2] at this
          exact this⟩
        refine ⟨τ, M, rfl, hf, hM64, fun c hcp => ?_⟩
        have e1 := nrF_eq hO hNR hcp
        obtain ⟨i, i1, i2⟩ := hA.2.2.2 c hcp
        have := hmx i i1
        rw [i2] at this
        exact ⟨e1.symm, by rw [e1]; exact this⟩
    · show (xm_u1 τ 102 root 0).1 102 root = 0
      rw [xu11, if_pos ⟨rfl, rfl⟩]
    · show -1 ≤ (xm_u1 τ 102 root 0).1 102 c ∧ (xm_u1 τ 102 root 0).1 102 c ≤ c
      have c64 := (hO.rec hc).2.2.2.2.2
      rw [xu11]
      by_cases e : c = root
      · rw [if_pos ⟨rfl, e⟩]; omega
      · rw [if_neg (fun z => e z.2), hz c c64]; omega
    · show (xm_u1 τ 102 root 0).1 102 (A i) = -1
      rw [xu11, if_neg (fun z => hr z.2)]
      exact hz _ (hA.2.1 i hi).2
theorem m_near (hO : OK S) (hA : AGE S A n) (hM : MS σ S) (hR : RO σ S A n m) (ht : isT S (t : Int)) {root : Nat} (hroot : isP S (root : Int)) (h27 : σ.1 84 27 = 0) :
    ∃ σ', f_X11_walkNear σ (root : Int) (t : Int) d = some (σ', 0) ∧ gx zNR σ σ' ∧ σ'.1 84 27 = ((cntL S t d (ordN S A n root)).length : Int) ∧ LA σ' 101 0 (cntL S t d (ordN S A n root)) := by
  have hn := hA.1
  unfold f_X11_walkNear
  obtain ⟨σ1, M, a1, a2, a3, a4⟩ := m_near1 (t := t) (d := d) hO hA hM hR hroot (fun σ_47 x2_47 x3_47 x4_47 => f_X11_walkNear_l187 xm_fuel σ_47 x2_47 x3_47 x4_47 (0 : Int))
  rw [a1]
  try dsimp only
  have z1 : gx zNR σ σ1 := a2.mono (fun a k h => by unfold zNR; omega)
  -- behind the last ring nobody is
  have tail : ∀ N, M + 1 ≤ N → partN S A n root N 0 = partN S A n root (M + 1) 0 := by
    intro N
    induction N with
    | zero => intro h; exact absurd h (by omega)
    | succ N ih =>
      intro h
      by_cases e : N = M
      · subst e; rfl
      · rw [partN_0, ← ih (by omega)]
        have : ∀ k, k ≤ n → partN S A n root N k = partN S A n root N 0 := by
          intro k
          induction k with
          | zero => intro _; rfl
          | succ k ihk =>
            intro hk
            have := (a4 _ (hA.2.1 k (by omega)).1).2
            rw [partN_n (by omega)]
            exact ihk (by omega)
        exact this n (Nat.le_refl _)
  have lastE : partN S A n root (M + 1) 0 = ordN S A n root := by rw [ordN_part, tail 64 (by omega)]
  unfold f_X11_walkNear_l187
  refine it_T (γ := xm_Mem × Nat) _ _ (fun (g : xm_Mem → Int → Int → Int → Int → Option xm_Out) a => g a.1 (t : Int) d (M : Int) (a.2 : Int)) (fun a => a.2 ≤ M + 1 ∧ gx zNR σ a.1 ∧ (∀ c : Nat, isP S (c : Int) → a.1.1 102 c = nrF S root c) ∧ a.1.1 84 27 = ((cntL S t d (partN S A n root a.2 0)).length : Int) ∧ LA a.1 101 0 (cntL S t d (partN S A n root a.2 0))) (fun a => M + 1 - a.2) (fun z => ∃ σ', z = some (σ', 0) ∧ gx zNR σ σ' ∧ σ'.1 84 27 = ((cntL S t d (ordN S A n root)).length : Int) ∧ LA σ' 101 0 (cntL S t d (ordN S A n root))) ?_ xm_fuel (σ1, 0) ⟨Nat.zero_le _, z1, fun c hc => (a4 c hc).1, ?_, LA.nil⟩ (xfu (by show M + 1 - 0 < _; omega))
  · rintro self ⟨τ, N⟩ ⟨hN, hf, h102, hb1, hb2⟩ ih
    replace hN : N ≤ M + 1 := hN
    replace hf : gx zNR σ τ := hf
    replace h102 : ∀ c : Nat, isP S (c : Int) → τ.1 102 c = nrF S root c := h102
    replace hb1 : τ.1 84 27 = ((cntL S t d (partN S A n root N 0)).length : Int) := hb1
    replace hb2 : LA τ 101 0 (cntL S t d (partN S A n root N 0)) := hb2
    show ∃ σ', f_X11_walkNear_b187 self τ (t : Int) d (M : Int) (N : Int) = _ ∧ _
    unfold f_X11_walkNear_b187
    by_cases h : N < M + 1
    · rw [if_neg (by omega)]
      unfold f_X11_walkNear_l197
      refine it_T (γ := xm_Mem × Nat) _ _ (fun (g : xm_Mem → Int → Int → Int → Int → Int → Option xm_Out) a => g a.1 (t : Int) d (M : Int) (N : Int) (a.2 : Int)) (fun a => a.2 ≤ n ∧ gx zNR σ a.1 ∧ (∀ c : Nat, isP S (c : Int) → a.1.1 102 c = nrF S root c) ∧ a.1.1 84 27 = ((cntL S t d (partN S A n root N a.2)).length : Int) ∧ LA a.1 101 0 (cntL S t d (partN S A n root N a.2))) (fun a => n - a.2) (fun z => ∃ σ', z = some (σ', 0) ∧ gx zNR σ σ' ∧ σ'.1 84 27 = ((cntL S t d (ordN S A n root)).length : Int) ∧ LA σ' 101 0 (cntL S t d (ordN S A n root))) ?_ xm_fuel (τ, 0) ⟨Nat.zero_le _, hf, h102, hb1, hb2⟩ (xfu (by show n - 0 < _; omega))
      clear hf h102 hb1 hb2
      rintro self2 ⟨τ, k⟩ ⟨hk, hf, h102, hb1, hb2⟩ ih2
      replace hk : k ≤ n := hk
      replace hf : gx zNR σ τ := hf
      replace h102 : ∀ c : Nat, isP S (c : Int) → τ.1 102 c = nrF S root c := h102
      replace hb1 : τ.1 84 27 = ((cntL S t d (partN S A n root N k)).length : Int) := hb1
      replace hb2 : LA τ 101 0 (cntL S t d (partN S A n root N k)) := hb2
      have hMτ := hM.gx hf zNRM
      have hRτ := hR.gx hf zNRR
      show ∃ σ', f_X11_walkNear_b197 _ self2 τ (t : Int) d (M : Int) (N : Int) (k : Int) = _ ∧ _
      unfold f_X11_walkNear_b197
      rw [hRτ.1]
      by_cases hkn : k < n
      · have hAk := hA.2.1 k hkn
        have gk : 0 ≤ (k : Int) ∧ (k : Int) < 64 := ⟨by omega, by omega⟩
        rw [if_pos (by omega), if_pos gk, Int.toNat_natCast, (hRτ.2.1 k hkn).1, xvl, if_pos ⟨by omega, by omega⟩, Int.toNat_natCast, h102 _ hAk.1]
        by_cases y : nrF S root (A k) = (N : Int)
        · have hl := partN_len hA hkn y
          have hl2 := cntL_len S t d (partN S A n root N k)
          rw [if_pos y, if_pos gk, m_counts hO hA hMτ hRτ ht hAk.1, Option.bind_some]
          try dsimp only
          rw [xbi]
          by_cases c : cnt S t d (A k)
          · rw [if_pos c, if_pos gk, hb1, if_pos ⟨by omega, by omega⟩, (hRτ.2.1 k hkn).1, xst, Int.toNat_natCast, xst]
            have e27 : (xm_u1 τ 101 (cntL S t d (partN S A n root N k)).length (A k : Int)).1 84 27 = ((cntL S t d (partN S A n root N k)).length : Int) := by rw [xu11, if_neg (by omega)]; exact hb1
            rw [e27, xw1 (by omega), xw1 (by omega)]
            refine ih2 (_, k + 1) ⟨hkn, (hf.u1 (by unfold zNR; omega)).u1 (by unfold zNR; omega), fun c hc => ?_, ?_, ?_⟩ (by show n - (k + 1) < n - k; omega)
            · show (xm_u1 (xm_u1 τ 101 _ _) 84 27 _).1 102 c = _
              rw [xu11, if_neg (by omega), xu11, if_neg (by omega)]; exact h102 c hc
            · show (xm_u1 (xm_u1 τ 101 _ _) 84 27 _).1 84 27 = ((cntL S t d (partN S A n root N (k + 1))).length : Int)
              rw [partN_y y, cntL_y c, xu11, if_pos ⟨rfl, rfl⟩]
              simp only [List.length_append, List.length_cons, List.length_nil, Nat.zero_add]
            · show LA (xm_u1 (xm_u1 τ 101 _ _) 84 27 _) 101 0 (cntL S t d (partN S A n root N (k + 1)))
              rw [partN_y y, cntL_y c]
              refine LA.app hb2 (fun j hj => ?_) ?_
              · rw [xu11, if_neg (by omega), xu11, if_neg (by omega)]
              · rw [xu11, if_neg (by omega), xu11, if_pos ⟨rfl, by omega⟩]
          · rw [if_neg c, xw1 (by omega)]
            refine ih2 (τ, k + 1) ⟨hkn, hf, h102, ?_, ?_⟩ (by show n - (k + 1) < n - k; omega)
            · show τ.1 84 27 = ((cntL S t d (partN S A n root N (k + 1))).length : Int)
              rw [partN_y y, cntL_n c]; exact hb1
            · show LA τ 101 0 (cntL S t d (partN S A n root N (k + 1)))
              rw [partN_y y, cntL_n c]; exact hb2
        · rw [if_neg y, xw1 (by omega)]
          refine ih2 (τ, k + 1) ⟨hkn, hf, h102, ?_, ?_⟩ (by show n - (k + 1) < n - k; omega)
          · show τ.1 84 27 = ((cntL S t d (partN S A n root N (k + 1))).length : Int)
            rw [partN_n y]; exact hb1
          · show LA τ 101 0 (cntL S t d (partN S A n root N (k + 1)))
            rw [partN_n y]; exact hb2
      · rw [if_neg (by omega)]
        try dsimp only
        have e : k = n := by omega
        subst e
        rw [xw1 (by omega)]
        refine ih (τ, N + 1) ⟨h, hf, h102, ?_, ?_⟩ (by show M + 1 - (N + 1) < M + 1 - N; omega)
        · show τ.1 84 27 = ((cntL S t d (partN S A k root (N + 1) 0)).length : Int)
          rw [partN_0]; exact hb1
        · show LA τ 101 0 (cntL S t d (partN S A k root (N + 1) 0))
          rw [partN_0]; exact hb2
    · rw [if_pos (by omega)]
      have e : N = M + 1 := by omega
      subst e
      rw [lastE] at hb1 hb2
      exact ⟨τ, rfl, hf, hb1, hb2⟩
  · show σ1.1 84 27 = _
    rw [a2.1 84 27 (by omega)]; exact h27
/-- the reference's line, and what it may change for it -/
def zLn (a k : Nat) : Prop := zR a k ∨ (a = 84 ∧ (k = 27 ∨ k = 28)) ∨ a = 101 ∨ a = 102
theorem zLnM : ∀ a k, zLn a k → ¬ (a = 84 ∧ (k = 5 ∨ k = 14 ∨ k = 15)) ∧ ¬ (86 ≤ a ∧ a ≤ 94) := fun a k h => by unfold zLn zR at h; omega
/-- reckoned, and the line told -/
def LM (σ : xm_Mem) (S : xS) (A : Nat → Nat) (n : Nat) (m : Nat → Int64) (l : List Nat) : Prop := (σ.1 84 18 = 1 ∧ RO σ S A n m) ∧ σ.1 84 27 = (l.length : Int) ∧ LA σ 101 0 l
theorem m_lineOf (hO : OK S) (hA : AGE S A n) (hm : BDY S A n m) (hM : MS σ S) (hR : RI σ S A n m) (ht : isT S (t : Int)) {root : Nat} (hroot : isP S (root : Int)) (d : Int) :
    ∃ σ', f_X11_lineOf σ (t : Int) d (root : Int) = some (σ', 0) ∧ gx zLn σ σ' ∧ LM σ' S A n m (line S A n t d root) := by
  obtain ⟨t1, t2, t3, t4, _⟩ := isT_t hO ht
  have r64 := (hO.rec hroot).2.2.2.2.2
  unfold f_X11_lineOf
  obtain ⟨σ1, a1, a2, a3, a4⟩ := m_reckon hO hM hA hm hR
  rw [a1, Option.bind_some]
  try dsimp only
  rw [xst, xst]
  have z2 : gx zLn σ (xm_u2 (xm_u1 σ1 84 27 0) 84 28 0) := ((gx.mono (Y := zLn) a2 (fun a k h => Or.inl h)).u1 (Or.inr (Or.inl ⟨rfl, Or.inl rfl⟩))).u2 (Or.inr (Or.inl ⟨rfl, Or.inr rfl⟩))
  have y2 : gx zW σ1 (xm_u2 (xm_u1 σ1 84 27 0) 84 28 0) := ((gx.rf _ _).u1 (by unfold zW; omega)).u2 (by unfold zW; omega)
  have hM2 := hM.gx z2 zLnM
  have hR2 := a4.gx y2 zWR
  have e94 := hM2.2.2.2.2.2 t t2
  have e91 := (hM2.2.2.2.1 _ t3).2.2.2.2.2.1
  rw [if_pos ⟨by omega, by omega⟩, Int.toNat_natCast, e94, xvl, if_pos ⟨by omega, by omega⟩, Int.toNat_natCast, e91]
  unfold line ord
  by_cases c : wW S (stb S t) = 4
  · rw [if_pos c, if_pos (show rl S t = 4 from c)]
    obtain ⟨σ3, b1, b2, b3, b4⟩ := m_near (t := t) (d := d) hO hA hM2 hR2 ht hroot (by show (xm_u1 σ1 84 27 0).1 84 27 = 0; rw [xu11, if_pos ⟨rfl, rfl⟩])
    rw [b1, Option.bind_some]
    refine ⟨σ3, rfl, z2.tr (b2.mono (fun a k h => by unfold zNR at h; unfold zLn; omega)), ⟨?_, hR2.gx b2 zNRR⟩, b3, b4⟩
    rw [b2.1 84 18 (by unfold zNR; omega), y2.1 84 18 (by unfold zW; omega)]; exact a3
  · rw [if_neg c, if_neg (show ¬ rl S t = 4 from c)]
    have w0 : WS (xm_u2 (xm_u1 σ1 84 27 0) 84 28 0) S t d [] := by
      refine ⟨fun q _ => ⟨fun z => ?_, fun z => absurd z List.not_mem_nil⟩, ?_, LA.nil, ND.nil⟩
      · rw [xu22, if_pos ⟨rfl, rfl⟩] at z; exact absurd z (bt_0 q)
      · show (xm_u1 σ1 84 27 0).1 84 27 = 0
        rw [xu11, if_pos ⟨rfl, rfl⟩]
    obtain ⟨σ3, b1, acc, b2, b3, b4⟩ := m_walk hO hA hM2 hR2 ht c xm_dep root _ [] hroot (by show 64 - root ≤ 66; omega) (gx.rf _ _) w0
    rw [b1, Option.bind_some]
    have eo : ordW S A n (rl S t) root = acc := ordW_of hO hA r64 (b4 [])
    rw [eo]
    refine ⟨σ3, rfl, z2.tr (b2.mono (fun a k h => by unfold zW at h; unfold zLn; omega)), ⟨?_, hR2.gx b2 zWR⟩, b3.2.1, b3.2.2.1⟩
    rw [b2.1 84 18 (by unfold zW; omega), y2.1 84 18 (by unfold zW; omega)]; exact a3
end XN
