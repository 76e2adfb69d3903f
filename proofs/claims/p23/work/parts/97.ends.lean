/-! ===== the law's end: its loops ===== -/
/-- a text and how it reads -/
def TXT (L : List (Nat × Nat)) (K D a b c w : Int) : Prop := ∃ u : List (Nat × Nat), (∀ p ∈ L, xm_pOK p) ∧ pcS L = txL u ∧ (∀ t ∈ u, tkok t) ∧ u ≠ [] ∧ (txL u).length ≤ 34 ∧ Rds (txL u) K D a b c w
theorem dg2 {w : Nat} (h : w ≤ 99) : (dgL w).length ≤ 2 := by rw [dgL_len]; exact (xm_pl2 h).2
theorem tk0 (i : Nat) : tkL (0, i) = wdL i := rfl
theorem tk1 (i : Nat) : tkL (1, i) = dgL i := rfl
theorem tkw {i : Nat} (h : i < 19) : tkok (0, i) := ⟨fun _ => h, fun z => absurd rfl z⟩
theorem tkn {i : Nat} (h : i ≤ 99999) : tkok (1, i) := ⟨fun z => absurd z (show ¬ (1 : Nat) = 0 by decide), fun _ => h⟩
theorem wl3 : (wdL 3).length = 4 := by decide
theorem wl1 : (wdL 1).length = 3 := by decide
theorem txt_dead {D p : Int} (hD : 0 ≤ D ∧ D ≤ 99999) (hp : 0 ≤ p ∧ p ≤ 99) : TXT (xm_tP 3 D.toNat p.toNat (-1)) 3 D p (-1) (-1) 0 := by
  refine ⟨[(0, 3), (1, D.toNat), (1, p.toNat)], tP_ok (by decide) (by omega) (by omega) ⟨by decide, by decide⟩, ?_, ?_, fun z => (by cases z), ?_, ?_⟩
  · rw [tP_tx, if_pos (by decide)]
  · intro t ht
    simp only [List.mem_cons, List.not_mem_nil, or_false] at ht
    rcases ht with rfl | rfl | rfl
    · exact tkw (by decide)
    · exact tkn (by omega)
    · exact tkn (by omega)
  · rw [tx2, tx2, tx1, tk0, tk1, tk1]
    simp only [List.length_append, List.length_cons, wl3]
    have h1 := (dgL_1 D.toNat).2
    have h2 := dg2 (w := p.toNat) (by omega)
    omega
  · have h := rd_dead (d := D.toNat) (a := p.toNat) (by omega) (by omega)
    have e1 : ((D.toNat : Nat) : Int) = D := by omega
    have e2 : ((p.toNat : Nat) : Int) = p := by omega
    rw [e1, e2] at h
    exact h
theorem txt_wed {D p q : Int} (hD : 0 ≤ D ∧ D ≤ 99999) (hp : 0 ≤ p ∧ p ≤ 99) (hq : 0 ≤ q ∧ q ≤ 99) : TXT (xm_tP 1 D.toNat p.toNat q) 1 D p q (-1) 0 := by
  refine ⟨[(0, 1), (1, D.toNat), (1, p.toNat), (1, q.toNat)], tP_ok (by decide) (by omega) (by omega) ⟨by omega, by omega⟩, ?_, ?_, fun z => (by cases z), ?_, ?_⟩
  · rw [tP_tx, if_neg (by omega)]
  · intro t ht
    simp only [List.mem_cons, List.not_mem_nil, or_false] at ht
    rcases ht with rfl | rfl | rfl | rfl
    · exact tkw (by decide)
    · exact tkn (by omega)
    · exact tkn (by omega)
    · exact tkn (by omega)
  · rw [tx2, tx2, tx2, tx1, tk0, tk1, tk1, tk1]
    simp only [List.length_append, List.length_cons, wl1]
    have h1 := (dgL_1 D.toNat).2
    have h2 := dg2 (w := p.toNat) (by omega)
    have h3 := dg2 (w := q.toNat) (by omega)
    omega
  · have h := rd_two (k := 1) (d := D.toNat) (a := p.toNat) (q := q.toNat) (Or.inl rfl) (by omega) (by omega) (by omega)
    have e1 : ((D.toNat : Nat) : Int) = D := by omega
    have e2 : ((p.toNat : Nat) : Int) = p := by omega
    have e3 : ((q.toNat : Nat) : Int) = q := by omega
    rw [e1, e2, e3] at h
    exact h
theorem wlx : (wdL 0).length = 4 ∧ (wdL 9).length = 4 ∧ (wdL 10).length = 6 ∧ (wdL 11).length = 2 ∧ (wdL 12).length = 4 ∧ (wdL 13).length = 3 ∧ (wdL 4).length = 5 := by decide
theorem prT_ok {f : Int} (hf : -1 ≤ f ∧ f ≤ 99) : tkok (prT f) ∧ (tkL (prT f)).length ≤ 4 := by
  unfold prT
  split
  · exact ⟨tkw (by decide), by rw [tk0, wlx.2.2.2.2.1]; exact Nat.le_refl _⟩
  · exact ⟨tkn (by omega), by rw [tk1]; have := dg2 (w := f.toNat) (by omega); omega⟩
theorem txt_born {D s f m : Int} (hD : 0 ≤ D ∧ D ≤ 99999) (hs : 0 ≤ s ∧ s ≤ 1) (hf : -1 ≤ f ∧ f ≤ 99) (hm : -1 ≤ m ∧ m ≤ 99) : TXT (xm_bP D.toNat s f m) 0 D (-1) f m s := by
  have hx : (if s = 0 then 10 else 9 : Nat) < 19 ∧ (wdL (if s = 0 then 10 else 9)).length ≤ 6 := by
    split
    · exact ⟨by decide, by rw [wlx.2.2.1]; decide⟩
    · exact ⟨by decide, by rw [wlx.2.1]; decide⟩
  refine ⟨_, bP_ok (by omega) hf hm, bP_tx, ?_, fun z => (by cases z), ?_, ?_⟩
  · intro t ht
    simp only [List.mem_cons, List.not_mem_nil, or_false] at ht
    rcases ht with rfl | rfl | rfl | rfl | rfl | rfl | rfl
    · exact tkw (by decide)
    · exact tkn (by omega)
    · exact tkw hx.1
    · exact tkw (by decide)
    · exact (prT_ok hf).1
    · exact tkw (by decide)
    · exact (prT_ok hm).1
  · rw [tx2, tx2, tx2, tx2, tx2, tx2, tx1, tk0, tk0, tk0, tk0, tk1]
    simp only [List.length_append, List.length_cons, wlx.1, wlx.2.2.2.1, wlx.2.2.2.2.2.1]
    have h1 := (dgL_1 D.toNat).2
    have h2 := (prT_ok hf).2
    have h3 := (prT_ok hm).2
    have h4 := hx.2
    omega
  · have h := rd_born (d := D.toNat) (s := s) (f := f) (m := m) (by omega) ⟨hf.1, by omega⟩ ⟨hm.1, by omega⟩ hs
    have e1 : ((D.toNat : Nat) : Int) = D := by omega
    rw [e1] at h
    exact h
section XE2
variable {S : xS} {A : Nat → Nat} {n : Nat} {m : Nat → Int64} {e : Nat → Nat} {fr ρ D : Int} {σ : xm_Mem} {cl : Nat → Int} {L : List Nat}
theorem to_ok {K a b c w : Int} {P : List (Nat × Nat)} (hW : LV σ S A n m e) (hx : xm_nxt σ) (hc : σ.2.2 < 100000) (h : TXT P K D a b c w) (hkw : kwn S K a b c) (hrm : rom S K) (hf : fstB (breaks (adR S K D a b c w)) 9 1 = 0) : ∃ σ1 A' n' m' e', f_L_tell (xm_aps σ 89 0 P) = some (σ1, (sn S : Int)) ∧ LV σ1 (adR S K D a b c w) A' n' m' e' ∧ KP σ σ1 ∧ σ1.2.2 = σ.2.2 + 1 := by
  obtain ⟨u, h1, h2, h3, h4, h5, h6⟩ := h
  exact tl_ok hW h1 h2 h3 h4 h5 hx hc h6 hkw hrm hf
theorem to_no {K a b c w : Int} {P : List (Nat × Nat)} (hW : LV σ S A n m e) (hx : xm_nxt σ) (hc : σ.2.2 < 100000) (h : TXT P K D a b c w) (hkw : kwn S K a b c) (hrm : rom S K) (hf : fstB (breaks (adR S K D a b c w)) 9 1 ≠ 0) : ∃ σ1, f_L_tell (xm_aps σ 89 0 P) = some (σ1, -9) ∧ LV σ1 S A n m e ∧ KP σ σ1 ∧ σ1.2.2 = σ.2.2 + 1 ∧ σ1.1 1 8 = 5 ∧ σ1.1 1 10 = (fstB (breaks (adR S K D a b c w)) 9 1 : Int) := by
  obtain ⟨u, h1, h2, h3, h4, h5, h6⟩ := h
  exact tl_no hW h1 h2 h3 h4 h5 hx hc h6 hkw hrm hf
/-- the array of the line -/
def AR (σ : xm_Mem) (L : List Nat) : Prop := σ.1 109 0 = 1 ∧ ∀ j, j < L.length → σ.1 110 j = ((L.getD j 0 : Nat) : Int)
theorem ar_kp {σ1 : xm_Mem} (h : AR σ L) (k : KP σ σ1) : AR σ1 L := ⟨by rw [k 109 0 (by omega)]; exact h.1, fun j hj => by rw [k 110 j (by omega)]; exact h.2 j hj⟩
theorem nxt_flag {σ1 : xm_Mem} (h : σ1.1 109 0 = 1) (h1 : 110 ≤ σ1.2.2) (h2 : σ1.2.2 < 999999) : xm_nxt σ1 := Or.inr ⟨h1, h2, Or.inl h⟩
theorem lv_110 (hW : LV σ S A n m e) (k : Nat) (v : Int) : LV (xm_u1 σ 110 k v) S A n m e := by
  have g : gx (fun a _ => a = 110) σ (xm_u1 σ 110 k v) := (gx.rf _ _).u1 rfl
  exact ⟨hW.1, ci_gx hW.1.1 hW.2.1 g (fun a k z => by omega), by rw [xm_u1_ne _ _ (by omega)]; exact hW.2.2.1, sb_gx hW.2.2.2 g (fun k z => by omega)⟩
theorem l816_ok {K : xm_Mem → Int → Int → Int → Int → Int → Int → Int → Option xm_Out} {c : Nat} {x7 x8 x11 x12 x13 x14 : Int} (hT : TW S fr ρ) (hD : 0 ≤ D ∧ D ≤ 99999) (hL : lineA S A n m 0 D = L) (h23 : L.length ≤ 23) (hx : xm_w (x8 + x14) = D)
    (hK : ∀ σ', LV σ' S A n m e → AR σ' L → σ'.2.2 = c → Sm (K σ' x7 x8 (L.length : Int) x11 x12 x13 x14)) : ∀ (r k : Nat), k + r = L.length → ∀ σ, LV σ S A n m e → AR σ L → σ.2.2 = c → ∀ N, r < N → Sm (f_L_law_l816 cl K N σ x7 x8 (L.length : Int) x11 x12 x13 x14 (k : Int)) := by
  intro r
  induction r with
  | zero =>
    intro k hk σ hW hA hc N hN
    obtain ⟨N, rfl⟩ : ∃ M, N = M + 1 := ⟨N - 1, by omega⟩
    show Sm (f_L_law_b816 cl K (f_L_law_l816 cl K N) σ x7 x8 (L.length : Int) x11 x12 x13 x14 (k : Int))
    unfold f_L_law_b816
    exact sm_no (by omega) (hK σ hW hA hc)
  | succ r ih =>
    intro k hk σ hW hA hc N hN
    obtain ⟨N, rfl⟩ : ∃ M, N = M + 1 := ⟨N - 1, by omega⟩
    show Sm (f_L_law_b816 cl K (f_L_law_l816 cl K N) σ x7 x8 (L.length : Int) x11 x12 x13 x14 (k : Int))
    unfold f_L_law_b816
    rw [hx]
    obtain ⟨σ1, a1, a2, a3, a4⟩ := qa_lv hW (k_line hW.1 hW.2.1 (tw_T hT) hD k)
    rw [hL, if_pos (by omega)] at a1
    have hA1 := ar_kp hA a3
    refine sm_if (by omega) (sm_b a1 (sm_if a4 (sm_if ⟨hA1.1, by omega, by omega⟩ (sm_if ?_ ?_))))
    · show ((L.getD k 0 : Nat) : Int) = σ1.1 110 (k : Int).toNat
      rw [Int.toNat_natCast, hA1.2 k (by omega)]
    · rw [xp_w (by omega) (by omega)]
      exact ih (k + 1) (by omega) σ1 a2 hA1 (by rw [a4]; exact hc) N (by omega)
theorem l725_ok {K : xm_Mem → Int → Int → Int → Int → Int → Int → Option xm_Out} {c pl : Nat} {x7 x8 x11 x13 x14 : Int} (hpl : pl < L.length) (h23 : L.length ≤ 23)
    (hK : ∀ σ', LV σ' S A n m e → σ'.1 109 0 = 1 → (∀ j, j < L.length - 1 → σ'.1 110 j = ((if j < pl then L.getD j 0 else L.getD (j + 1) 0 : Nat) : Int)) → σ'.2.2 = c → Sm (K σ' x7 x8 ((L.length - 1 : Nat) : Int) x11 x13 x14)) : ∀ (r k : Nat), k + r = L.length - 1 → pl ≤ k → ∀ σ, LV σ S A n m e → σ.1 109 0 = 1 → (∀ j, j < L.length → σ.1 110 j = ((if pl ≤ j ∧ j < k then L.getD (j + 1) 0 else L.getD j 0 : Nat) : Int)) → σ.2.2 = c → ∀ N, r < N → Sm (f_L_law_l725 cl K N σ x7 x8 ((L.length - 1 : Nat) : Int) x11 x13 x14 (k : Int)) := by
  intro r
  induction r with
  | zero =>
    intro k hk hpk σ hW h9 hA hc N hN
    obtain ⟨N, rfl⟩ : ∃ M, N = M + 1 := ⟨N - 1, by omega⟩
    show Sm (f_L_law_b725 cl K (f_L_law_l725 cl K N) σ x7 x8 ((L.length - 1 : Nat) : Int) x11 x13 x14 (k : Int))
    unfold f_L_law_b725
    refine sm_no (by omega) (hK σ hW h9 (fun j hj => ?_) hc)
    rw [hA j (by omega)]
    by_cases h : j < pl
    · rw [if_pos h, if_neg (by omega)]
    · rw [if_neg h, if_pos (by omega)]
  | succ r ih =>
    intro k hk hpk σ hW h9 hA hc N hN
    obtain ⟨N, rfl⟩ : ∃ M, N = M + 1 := ⟨N - 1, by omega⟩
    show Sm (f_L_law_b725 cl K (f_L_law_l725 cl K N) σ x7 x8 ((L.length - 1 : Nat) : Int) x11 x13 x14 (k : Int))
    unfold f_L_law_b725
    refine sm_if (by omega) ?_
    rw [xp_w (by omega) (by omega)]
    show Sm (if σ.1 109 0 = 1 ∧ 0 ≤ (k : Int) + 1 ∧ (k : Int) + 1 < 24 then _ else none)
    refine sm_if ⟨h9, by omega, by omega⟩ (sm_if ⟨h9, by omega, by omega⟩ ?_)
    show Sm (f_L_law_l725 cl K N (xm_u1 σ 110 (k : Int).toNat (σ.1 110 ((k : Int) + 1).toNat)) x7 x8 ((L.length - 1 : Nat) : Int) x11 x13 x14 ((k : Int) + 1))
    rw [Int.toNat_natCast, show ((k : Int) + 1).toNat = k + 1 by omega]
    refine ih (k + 1) (by omega) (by omega) _ (lv_110 hW _ _) (by rw [xm_u1_ne _ _ (by omega)]; exact h9) (fun j hj => ?_) hc N (by omega)
    by_cases hjk : j = k
    · subst hjk
      rw [xm_u1_at, hA (j + 1) (by omega), if_neg (by omega), if_pos (by omega)]
    · rw [xm_u1_ne _ _ (fun z => hjk z.2), hA j hj]
      by_cases h : pl ≤ j ∧ j < k
      · rw [if_pos h, if_pos (by omega)]
      · rw [if_neg h, if_neg (by omega)]
theorem l665_ok {K : xm_Mem → Int → Int → Int → Int → Int → Int → Int → Int → Option xm_Out} {x7 x8 x11 x13 x14 : Int} {pl : Nat} (hA : AR σ L) (hpl : pl < L.length) (h23 : L.length ≤ 23) (hno : ∀ j, j < pl → L.getD j 0 ≠ L.getD pl 0)
    (hK : Sm (K σ x7 x8 (L.length : Int) x11 ((L.getD pl 0 : Nat) : Int) x13 x14 (pl : Int))) : ∀ (r k : Nat), k + r = pl → ∀ N, r < N → Sm (f_L_law_l665 cl K N σ x7 x8 (L.length : Int) x11 ((L.getD pl 0 : Nat) : Int) x13 x14 (k : Int)) := by
  intro r
  induction r with
  | zero =>
    intro k hk N hN
    obtain ⟨N, rfl⟩ : ∃ M, N = M + 1 := ⟨N - 1, by omega⟩
    have ek : k = pl := by omega
    subst ek
    show Sm (f_L_law_b665 cl K (f_L_law_l665 cl K N) σ x7 x8 (L.length : Int) x11 ((L.getD k 0 : Nat) : Int) x13 x14 (k : Int))
    unfold f_L_law_b665
    exact sm_if (by omega) (sm_if ⟨hA.1, by omega, by omega⟩ (sm_if (by rw [Int.toNat_natCast]; exact hA.2 k hpl) hK))
  | succ r ih =>
    intro k hk N hN
    obtain ⟨N, rfl⟩ : ∃ M, N = M + 1 := ⟨N - 1, by omega⟩
    show Sm (f_L_law_b665 cl K (f_L_law_l665 cl K N) σ x7 x8 (L.length : Int) x11 ((L.getD pl 0 : Nat) : Int) x13 x14 (k : Int))
    unfold f_L_law_b665
    refine sm_if (by omega) (sm_if ⟨hA.1, by omega, by omega⟩ (sm_no ?_ ?_))
    · rw [Int.toNat_natCast, hA.2 k (by omega)]
      have := hno k (by omega)
      omega
    · rw [xp_w (by omega) (by omega)]
      exact ih (k + 1) (by omega) N (by omega)
end XE2
