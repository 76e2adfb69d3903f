/-! ===== what changes the records: settle, changed; the invariant of the law ===== -/
section XS
variable {σ σ1 τ τ1 : xm_Mem} {S : xS} {A : Nat → Nat} {n : Nat} {m : Nat → Int64} {e : Nat → Nat} {B : Nat → Int} {s : Nat}
/-- more cells -/
theorem ci_ct {σ' : xm_Mem} (h : CI σ S A n m e) (h1 : σ'.1 = σ.1) (h2 : σ'.2.1 = σ.2.1) (h3 : σ.2.2 ≤ σ'.2.2) (h4 : σ'.2.2 ≤ 100000) : CI σ' S A n m e := by
  obtain ⟨x, y, c⟩ := σ
  obtain ⟨x', y', c'⟩ := σ'
  have h1 : x' = x := h1
  have h2 : y' = y := h2
  have h3 : c ≤ c' := h3
  have h4 : c' ≤ 100000 := h4
  subst h1 h2
  obtain ⟨⟨a, b, d, f⟩, hUO, ⟨⟨hF, hV, hc⟩, hB⟩, hK⟩ := h
  have b : 110 ≤ c ∧ c ≤ 100000 := b
  exact ⟨⟨a, ⟨Nat.le_trans b.1 h3, h4⟩, fun r hr => ⟨(d r hr).1, (d r hr).2.1, Nat.le_trans (d r hr).2.2.1 h3, (d r hr).2.2.2⟩, f⟩, hUO, ⟨⟨hF, hV, Nat.le_trans hc h3⟩, hB⟩, hK⟩
/-- changes of other cells, and more cells -/
theorem ci_up {σ' : xm_Mem} (hO : OK S) (h : CI σ S A n m e) (h1 : ∀ a k, 5 ≤ a → a ≤ 83 ∨ 111 ≤ a → a ≤ σ.2.2 → σ'.1 a k = σ.1 a k) (h2 : ∀ a k, 5 ≤ a → a ≤ 83 ∨ 111 ≤ a → a ≤ σ.2.2 → σ'.2.1 a k = σ.2.1 a k) (h3 : σ.2.2 ≤ σ'.2.2) (h4 : σ'.2.2 ≤ 100000) : CI σ' S A n m e := by
  have g : gx (fun a _ => a ≤ 4 ∨ (84 ≤ a ∧ a ≤ 110) ∨ σ.2.2 < a) σ (σ'.1, σ'.2.1, σ.2.2) := ⟨fun a k z => h1 a k (by omega) (by omega) (by omega), fun a k z => h2 a k (by omega) (by omega) (by omega), rfl⟩
  exact ci_ct (ci_gx hO h g (fun a k z => by omega)) rfl rfl h3 h4
theorem c_settle (hO : OK S) (hC : CS σ S e) : ∃ σ' A n m, f_X10_settle σ = some (σ', 0) ∧ gx (fun a _ => 10 ≤ a ∧ a ≤ 83) σ σ' ∧ PU S A n m ∧ CI σ' S A n m e ∧ σ'.1 29 4 = -1 ∧ ∀ t, t < 8 → σ'.1 (xm_cb t) 11 = 0 := by
  obtain ⟨σ1, a1, a2, a3⟩ := r5_rebuild hO.1 hC
  have g1 : gx (fun a _ => 10 ≤ a ∧ a ≤ 83) σ σ1 := a2.gx.mono (fun a k z => by unfold zP at z; omega)
  have hC1 := cs_gx hC g1 (fun a k z => by omega)
  obtain ⟨σ2, b1, b2, b3⟩ := r9_rebuild hO.1 hC1 a3
  have g2 := g1.tr (b2.gx.mono (fun a k z => by unfold zU at z; show 10 ≤ a ∧ a ≤ 83; omega))
  have hP2 := a3.fr b2 (fun a z => by unfold zU at z; unfold zP; omega)
  obtain ⟨σ3, A, n, m, c1, c2, c3⟩ := c_desc hO hP2 b3
  have g3 := g2.tr (c2.gx.mono (fun a k z => by unfold zD at z; show 10 ≤ a ∧ a ≤ 83; omega))
  have hP3 := hP2.fr c2 (fun a z => by unfold zD at z; unfold zP; omega)
  have hU3 := b3.fr c2 (fun a z => by unfold zD at z; unfold zU; omega)
  obtain ⟨d1, d2, d3, d4, d5⟩ := c3
  have hC3 := cs_gx hC g3 (fun a k z => by omega)
  have hB3 : BD σ3 S m := fun p hp => by
    obtain ⟨i, i1, i2⟩ := d1.2.2.2 p hp
    subst i2
    exact d5 i i1
  unfold f_X10_settle
  rw [a1, Option.bind_some]
  try dsimp only
  rw [b1, Option.bind_some]
  try dsimp only
  rw [c1, Option.bind_some]
  try dsimp only
  unfold f_X4_forget
  rw [xst, xst, Option.bind_some]
  try dsimp only
  have gf : gx (fun a k => a = 29 ∧ (k = 4 ∨ k = 5)) σ3 (xm_u1 (xm_u1 σ3 29 4 (-1)) 29 5 (-1)) := ((gx.rf _ _).u1 ⟨rfl, Or.inl rfl⟩).u1 ⟨rfl, Or.inr rfl⟩
  have f4 : (xm_u1 (xm_u1 σ3 29 4 (-1)) 29 5 (-1)).1 29 4 = -1 := by rw [xu11, if_neg (by omega), xu11, if_pos ⟨rfl, rfl⟩]
  generalize xm_u1 (xm_u1 σ3 29 4 (-1)) 29 5 (-1) = σ4 at gf f4
  have c110 := hC3.2.1.1
  have g4 : gx (fun a _ => 10 ≤ a ∧ a ≤ 83) σ σ4 := g3.tr (gf.mono (fun a k z => by omega))
  unfold f_X10_settle_l46
  refine it_T (γ := xm_Mem × Nat) _ _ (fun (g : xm_Mem → Int → Option xm_Out) x => g x.1 (x.2 : Int)) (fun x => x.2 ≤ 8 ∧ gx (fun a k => a = 29 ∨ (36 ≤ a ∧ a ≤ 83)) σ3 x.1 ∧ x.1.1 29 4 = -1 ∧ gx (fun a _ => 10 ≤ a ∧ a ≤ 83) σ x.1 ∧ ∀ t, t < x.2 → x.1.1 (xm_cb t) 11 = 0) (fun x => 8 - x.2) (fun z => ∃ σ' A n m, z = some (σ', 0) ∧ gx (fun a _ => 10 ≤ a ∧ a ≤ 83) σ σ' ∧ PU S A n m ∧ CI σ' S A n m e ∧ σ'.1 29 4 = -1 ∧ ∀ t, t < 8 → σ'.1 (xm_cb t) 11 = 0) ?_ xm_fuel (σ4, 0) ⟨Nat.zero_le _, gf.mono (fun a k z => by omega), f4, g4, fun t h => absurd h (Nat.not_lt_zero _)⟩ (xfu (by show 8 - 0 < _; decide))
  rintro self ⟨σ0, i⟩ ⟨hi, hg, h29, hgg, hI⟩ ih
  replace hi : i ≤ 8 := hi
  replace hg : gx (fun a k => a = 29 ∨ (36 ≤ a ∧ a ≤ 83)) σ3 σ0 := hg
  replace h29 : σ0.1 29 4 = -1 := h29
  replace hgg : gx (fun a _ => 10 ≤ a ∧ a ≤ 83) σ σ0 := hgg
  replace hI : ∀ t, t < i → σ0.1 (xm_cb t) 11 = 0 := hI
  show ∃ σ' A n m, f_X10_settle_b46 self σ0 (i : Int) = _ ∧ _
  unfold f_X10_settle_b46
  by_cases h : i < 8
  · have gi : 0 ≤ (i : Int) ∧ (i : Int) < 8 := ⟨by omega, by omega⟩
    have cb : 36 ≤ xm_cb i ∧ xm_cb i ≤ 83 := by unfold xm_cb; omega
    rw [if_pos gi.2, if_pos gi]
    unfold f_X1_forget
    rw [xst, Option.bind_some]
    try dsimp only
    rw [xw1 (by omega), Int.toNat_natCast]
    refine ih (xm_u1 σ0 (xm_cb i) 11 0, i + 1) ⟨h, hg.u1 (Or.inr cb), ?_, hgg.u1 (by omega), fun t ht => ?_⟩ (by show 8 - (i + 1) < 8 - i; omega)
    · show (xm_u1 σ0 (xm_cb i) 11 0).1 29 4 = -1
      rw [xu11, if_neg (by omega)]; exact h29
    · have ht : t < i + 1 := ht
      show (xm_u1 σ0 (xm_cb i) 11 0).1 (xm_cb t) 11 = 0
      rw [xu11]
      by_cases y : t = i
      · subst y; rw [if_pos ⟨rfl, rfl⟩]
      · rw [if_neg (fun z => y (by have := z.1; unfold xm_cb at this; omega))]; exact hI t (by omega)
  · have ei : i = 8 := by omega
    subst ei
    rw [if_neg (by omega)]
    refine ⟨σ0, A, n, m, rfl, hgg, ⟨hO, d1, d4⟩, ⟨cs_gx hC hgg (fun a k z => by omega), ?_, ⟨⟨⟨hP3.gx hg (fun a k z => by unfold zP; omega), d2.gx hg (fun a k z => by omega), d3.gx hg (fun a k z => by omega)⟩, fun z => absurd z (by omega), by rw [hg.2.2]; exact c110⟩, hB3.gx hg (fun a k z => by omega)⟩, fun t ht => Or.inl (hI t (isT_t hO ht).1)⟩, h29, hI⟩
    exact hU3.fr (A := fun a => a = 29 ∨ (36 ≤ a ∧ a ≤ 83)) ⟨fun a k z => hg.1 a k z, fun a k z => hg.2.1 a k z, hg.2.2⟩ (fun a h z => by unfold zU at z; omega)
end XS
/-- what the law keeps: the records and their orders, the bytes, the three told cells, the count of records that stand -/
def IV (σ : xm_Mem) (S : xS) (A : Nat → Nat) (n : Nat) (m : Nat → Int64) (e : Nat → Nat) (B : Nat → Int) (s : Nat) : Prop := (PU S A n m ∧ isB B s) ∧ (CI σ S A n m e ∧ MI σ S A n m) ∧ (TC σ B s ∧ TM σ B s) ∧ (σ.1 1 8 = σ.1 84 2 ∧ σ.1 1 9 = σ.1 84 3 ∧ σ.1 1 10 = σ.1 84 4) ∧ σ.1 84 6 = (sN S : Int)
section XV
variable {σ : xm_Mem} {S : xS} {A : Nat → Nat} {n : Nat} {m : Nat → Int64} {e : Nat → Nat} {B : Nat → Int} {s : Nat}
/-- a question keeps it, and both answer alike -/
theorem iv_q {f g : xm_Mem → Option xm_Out} (h : IV σ S A n m e B s) (q : ∀ τ, MI τ S A n m → τ.1 84 1 = (s : Int) → τ.1 84 6 = (sN S : Int) → 110 ≤ τ.2.2 → ∃ a w, QA σ S A n m e (f σ) a w ∧ QB τ S A n m (g τ) a w) : ∃ σ1 σ2 a, f σ = some (σ1, a) ∧ g σ1 = some (σ2, a) ∧ IV σ2 S A n m e B s ∧ σ2.2.2 = σ.2.2 := by
  obtain ⟨⟨hU, hB⟩, ⟨hC, hM⟩, ⟨hTC, hTM⟩, ⟨w1, w2, w3⟩, h6⟩ := h
  have c110 := hC.1.2.1.1
  obtain ⟨a, w, ⟨σ1, a1, a2, a3, a4⟩, _⟩ := q σ hM hTM.1 h6 c110
  have o1 : ∀ a k, a ≤ 3 ∨ 84 ≤ a → ¬ (a = 1 ∧ k = 8) → σ1.1 a k = σ.1 a k := fun b k z y => a2.1 b k (by unfold zQ1 zQ; omega)
  have hM1 := mi_gx hM hU.1 a2 (fun b k z => by unfold zQ1 zQ at z; omega)
  obtain ⟨a', w', ⟨σ1', b1, b2, b3, b4⟩, ⟨σ2, d1, d2, d3, d4⟩⟩ := q σ1 hM1 (by rw [o1 84 1 (by omega) (by omega)]; exact hTM.1) (by rw [o1 84 6 (by omega) (by omega)]; exact h6) (by rw [a2.2.2]; exact c110)
  rw [a1] at b1
  have e1 := Option.some.inj b1
  have e2 : σ1 = σ1' := congrArg Prod.fst e1
  have e3 : a = a' := congrArg Prod.snd e1
  subst e2 e3
  have o2 : ∀ a k, a ≤ 85 → ¬ (a = 84 ∧ (k = 2 ∨ 18 ≤ k)) → σ2.1 a k = σ1.1 a k := fun b k z y => d2.1 b k (by unfold zNQ zMq zLn zR; omega)
  refine ⟨σ1, σ2, a, a1, d1, ⟨⟨hU, hB⟩, ⟨ci_gx hU.1 a3 d2 (fun b k z => by unfold zNQ zMq zLn zR at z; omega), d3⟩, ⟨⟨?_, fun k hk => ?_⟩, ⟨?_, fun k hk => ?_⟩⟩, ⟨?_, ?_, ?_⟩, ?_⟩, by rw [d2.2.2, a2.2.2]⟩
  · rw [o2 2 1 (by omega) (by omega), o1 2 1 (by omega) (by omega)]; exact hTC.1
  · rw [o2 3 k (by omega) (by omega), o1 3 k (by omega) (by omega)]; exact hTC.2 k hk
  · rw [o2 84 1 (by omega) (by omega), o1 84 1 (by omega) (by omega)]; exact hTM.1
  · rw [o2 85 k (by omega) (by omega), o1 85 k (by omega) (by omega)]; exact hTM.2 k hk
  · rw [o2 1 8 (by omega) (by omega), d4, b4]
  · rw [o2 1 9 (by omega) (by omega), o1 1 9 (by omega) (by omega), o2 84 3 (by omega) (by omega), o1 84 3 (by omega) (by omega)]; exact w2
  · rw [o2 1 10 (by omega) (by omega), o1 1 10 (by omega) (by omega), o2 84 4 (by omega) (by omega), o1 84 4 (by omega) (by omega)]; exact w3
  · rw [o2 84 6 (by omega) (by omega), o1 84 6 (by omega) (by omega)]; exact h6
end XV
