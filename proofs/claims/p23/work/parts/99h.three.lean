/-! ===== the first three are told ===== -/
section XG2
variable {σ : xm_Mem} {el : Int} {cl : Nat → Int}
theorem fst_at {T : Nat → Prop} : ∀ c b, fstB T c b ≠ 0 → T (fstB T c b) := by
  intro c
  induction c with
  | zero => intro b h; exact absurd rfl h
  | succ c ih =>
    intro b h
    rw [fstB_s] at h ⊢
    by_cases t : T b
    · rw [if_pos t]; exact t
    · rw [if_neg t] at h ⊢
      exact ih (b + 1) h
noncomputable def hr_S1 : xS := adR hr_S0 0 0 (-1) (-1) (-1) 1
noncomputable def hr_S2 : xS := adR hr_S1 0 0 (-1) (-1) (-1) 0
noncomputable def hr_S3 : xS := adR hr_S2 1 4000 0 1 (-1) 0
theorem hr_FM0 : FM hr_S0 := ⟨hr_OK, fun r h => absurd h (Nat.not_lt_zero _)⟩
theorem hr_b1 : kwn hr_S0 0 (-1) (-1) (-1) ∧ rom hr_S0 0 ∧ fstB (breaks hr_S1) 9 1 = 0 ∧ FM hr_S1 := by
  obtain ⟨k1, k2⟩ := birth_ok (D := 0) (w := 1) hr_FM0 (f := -1) (m := -1) (Or.inl rfl) (Or.inl rfl)
  have hr : rom hr_S0 0 := ⟨by decide, fun _ => by decide, fun z => absurd z (by decide)⟩
  have ho : rdO 0 0 (-1) (-1) (-1) 1 := ⟨⟨by decide, by decide⟩, ⟨by decide, by decide⟩, ⟨by decide, by decide⟩, fun _ => ⟨rfl, by decide, by decide, by decide⟩, fun z => absurd z (by decide), fun z => absurd z (by decide), fun z => absurd z (by decide)⟩
  exact ⟨k1, hr, k2, ad_FM hr_FM0 ho k1 hr (Or.inl rfl) k2⟩
theorem hr_b2 : kwn hr_S1 0 (-1) (-1) (-1) ∧ rom hr_S1 0 ∧ fstB (breaks hr_S2) 9 1 = 0 ∧ FM hr_S2 := by
  obtain ⟨k1, k2⟩ := birth_ok (D := 0) (w := 0) hr_b1.2.2.2 (f := -1) (m := -1) (Or.inl rfl) (Or.inl rfl)
  have hr : rom hr_S1 0 := ⟨by decide, fun _ => by decide, fun z => absurd z (by decide)⟩
  have ho : rdO 0 0 (-1) (-1) (-1) 0 := ⟨⟨by decide, by decide⟩, ⟨by decide, by decide⟩, ⟨by decide, by decide⟩, fun _ => ⟨rfl, by decide, by decide, by decide⟩, fun z => absurd z (by decide), fun z => absurd z (by decide), fun z => absurd z (by decide)⟩
  exact ⟨k1, hr, k2, ad_FM hr_b1.2.2.2 ho k1 hr (Or.inl rfl) k2⟩
theorem hr_2 : sn hr_S2 = 2 ∧ sp hr_S2 = 2 ∧ (wBorn hr_S2 0 = 0 ∧ wBorn hr_S2 1 = 0) ∧ (bSx hr_S2 0 = 1 ∧ bSx hr_S2 1 = 0) ∧ (wK hr_S2 0 = 0 ∧ wK hr_S2 1 = 0) := by
  refine ⟨rfl, rfl, ⟨rfl, rfl⟩, ⟨rfl, rfl⟩, rfl, rfl⟩
theorem hr_k2 : ∀ r, r < sn hr_S2 → wK hr_S2 r = 0 := fun r h => by
  have h2 : r < 2 := h
  have e : r = 0 ∨ r = 1 := by omega
  rcases e with rfl | rfl
  · exact hr_2.2.2.2.2.1
  · exact hr_2.2.2.2.2.2
theorem hr_d2 (p : Int) : wDead hr_S2 p = -1 := no_dead (fun r hr z => by have := hr_k2 r hr; have := z.2.1; omega)
theorem hr_b3 : kwn hr_S2 1 0 1 (-1) ∧ rom hr_S2 1 ∧ fstB (breaks hr_S3) 9 1 = 0 ∧ FM hr_S3 := by
  have hF := hr_b2.2.2.2
  have p0 : isP hr_S2 (0 : Int) := (fm_P hF 0).mpr ⟨by decide, by decide⟩
  have p1 : isP hr_S2 (1 : Int) := (fm_P hF 1).mpr ⟨by decide, by decide⟩
  have hno : ∀ r, r < sn hr_S2 → wK hr_S2 r = 1 → ¬ (w1 hr_S2 r = 0 ∧ w2 hr_S2 r = 1) := fun r hr k => by have := hr_k2 r hr; omega
  obtain ⟨k1, k2⟩ := wed_ok (D := 4000) hF (p := 0) (q := 1) ⟨p0, hr_2.2.2.2.1.1, ⟨by rw [hr_2.2.2.1.1]; decide, fun z => by rw [hr_d2] at z; omega⟩⟩ ⟨p1, fun z => by
    have z' : bSx hr_S2 1 = 1 := z
    rw [hr_2.2.2.2.1.2] at z'
    exact absurd z' (by decide), ⟨by rw [hr_2.2.2.1.2]; decide, fun z => by rw [hr_d2] at z; omega⟩⟩ hno
  have hr : rom hr_S2 1 := ⟨by decide, fun z => absurd z (by decide), fun z => absurd z (by decide)⟩
  have ho : rdO 1 4000 0 1 (-1) 0 := ⟨⟨by decide, by decide⟩, ⟨by decide, by decide⟩, ⟨by decide, by decide⟩, fun z => absurd z (by decide), fun _ => ⟨by decide, by decide, rfl⟩, fun z => absurd z (by decide), fun z => absurd z (by decide)⟩
  have hf : fstB (breaks hr_S3) 9 1 = 0 := by
    rcases k2 with z | z
    · exact z
    · exfalso
      have n7 : ¬ breaks hr_S3 7 := by
        rintro ⟨r, r1, r2, r3⟩
        refine r3 ?_
        show hB7 hr_S3 r
        unfold hB7
        intro hkr q q1 hc
        obtain ⟨c1, c2, c3, _⟩ := hc
        have q1' : q < sn hr_S2 + 1 := q1
        have r1' : r < sn hr_S2 + 1 := r1
        have both : ∀ x, x < sn hr_S2 + 1 → wK hr_S3 x = 1 → x = sn hr_S2 := fun x hx hk => by
          apply Classical.byContradiction
          intro hne
          have e := (ad_old (K := 1) (D := 4000) (a := 0) (b := 1) (c := -1) (w := 0) (S := hr_S2) (q := x) hne).1
          have e' : wK hr_S3 x = wK hr_S2 x := e
          rw [e', hr_k2 x (by omega)] at hk
          exact absurd hk (by decide)
        have e1 := both q q1' c3
        have e2 := both r r1' hkr
        exact c1 (e1.trans e2.symm)
      have z' : fstB (breaks hr_S3) 9 1 = 7 := z
      have h7 := fst_at (T := breaks hr_S3) 9 1 (by rw [z']; decide)
      rw [z'] at h7
      exact n7 h7
  exact ⟨k1, hr, hf, ad_FM hF ho k1 hr (Or.inr (Or.inl rfl)) hf⟩
theorem hr_3 : sn hr_S3 = 3 ∧ sp hr_S3 = 2 ∧ stn hr_S3 = 0 := ⟨rfl, rfl, rfl⟩
theorem hr_o3 {p : Int} (hp : 0 ≤ p ∧ p < 2) : wBorn hr_S3 p = wBorn hr_S2 p ∧ (wMale hr_S3 p ↔ wMale hr_S2 p) ∧ bSx hr_S3 p = bSx hr_S2 p := by
  have hW := hr_b2.2.2.2.1.1
  have hp' : 0 ≤ p ∧ p < sp hr_S2 := hp
  obtain ⟨b1, _, _, b4⟩ := ad_b (K := 1) (D := 4000) (a := 0) (b := 1) (c := -1) (w := 0) hW hp'
  exact ⟨b1, b4, old_sx hW hp'⟩
theorem hr_BW : BW hr_S3 := by
  have hF := hr_b3.2.2.2
  refine ⟨hF, hr_3.2.2, ⟨(fm_P hF _).mpr ⟨by decide, by decide⟩, (hr_o3 (p := 0) (by decide)).2.1.mpr hr_2.2.2.2.1.1, (hr_o3 (p := 0) (by decide)).1.trans hr_2.2.2.1.1⟩, fun r hr => ?_⟩
  have h3 : r < 3 := hr
  have e : r = 0 ∨ r = 1 ∨ r = 2 := by omega
  rcases e with rfl | rfl | rfl
  · exact ⟨Or.inl rfl, by show (0 : Int) ≤ 90000; decide⟩
  · exact ⟨Or.inl rfl, by show (0 : Int) ≤ 90000; decide⟩
  · exact ⟨Or.inr rfl, by show (4000 : Int) ≤ 90000; decide⟩
theorem u1_tx : pcS (xm_bP 0 1 (-1) (-1)) = txL [(0, 0), (1, 0), (0, 9), (0, 11), prT (-1), (0, 13), prT (-1)] := bP_tx
/-- the first text, which stands there already -/
theorem tell_1 (h83 : σ.2.2 = 83) (hF : ∀ q ∈ xf_F, σ.1 q.1 q.2.1 = q.2.2) (hel : 100 ≤ el) : ∃ σ1 A' n' m' e', f_L_tell (xm_st1 σ el) = some (σ1, 0) ∧ LV σ1 hr_S1 A' n' m' e' ∧ KP (xm_st1 σ el) σ1 ∧ σ1.2.2 = 111 := by
  obtain ⟨hU, hC, h21⟩ := st1_CI (el := el) h83 hF
  have hS := st1_SB (σ := σ) (el := el)
  have hb := st1_by (σ := σ) (el := el)
  have h110 : (xm_st1 σ el).2.2 = 110 := rfl
  have h109 := (st1_hi (σ := σ) (el := el)).1
  have hx : xm_nxt (xm_st1 σ el) := Or.inr ⟨by omega, by omega, Or.inr (by rw [h109, h110]; omega)⟩
  generalize xm_st1 σ el = τ at hC h21 hS hb h110 hx
  rw [u1_tx] at hb
  have hk : ∀ t ∈ [(0, 0), (1, 0), (0, 9), (0, 11), prT (-1), (0, 13), prT (-1)], tkok t := by
    intro t ht
    simp only [List.mem_cons, List.not_mem_nil, or_false] at ht
    rcases ht with rfl | rfl | rfl | rfl | rfl | rfl | rfl
    · exact tkw (by decide)
    · exact tkn (by decide)
    · exact tkw (by decide)
    · exact tkw (by decide)
    · exact (prT_ok (by decide)).1
    · exact tkw (by decide)
    · exact (prT_ok (by decide)).1
  have hlen : (txL [(0, 0), (1, 0), (0, 9), (0, 11), prT (-1), (0, 13), prT (-1)]).length = 28 := by decide +kernel
  have hR : Rds (txL [(0, 0), (1, 0), (0, 9), (0, 11), prT (-1), (0, 13), prT (-1)]) 0 0 (-1) (-1) (-1) 1 := rd_born (d := 0) (s := 1) (f := -1) (m := -1) (by decide) (by decide) (by decide) (by decide)
  have hr := tx_by _ hk
  generalize txL [(0, 0), (1, 0), (0, 9), (0, 11), prT (-1), (0, 13), prT (-1)] = l at hb hlen hR hr
  have hrr : ∀ k, k < l.length → 0 ≤ lB l k ∧ lB l k ≤ 127 := fun k hk' => hr _ (lB_mem hk')
  rw [← hlen] at hS hb
  obtain ⟨σr, r1, r2, r3, r4, r5⟩ := te_pre (by omega) hS hb hrr h21
  have hC2 := ci_gx hU.1 hC r2 (fun a k z => by unfold zTe zTp at z; omega)
  have k2 : KP τ σr := KP.gx r2 (fun a k z => by unfold zTe zTp at z; omega)
  have e2 : σr.2.2 = τ.2.2 := r2.2.2
  have hxr : xm_nxt σr := by
    unfold xm_nxt at hx ⊢
    rw [e2, k2 109 0 (by omega), k2 109 1 (by omega)]
    exact hx
  obtain ⟨q1, q2, q3, q4, q5, q6, q7⟩ := hR
  have hrec := (c_record hU hC2 (B := lB l) (s := l.length) ⟨by omega, fun k hk' => by have := hrr k hk'; omega⟩ r3 (by omega) hxr).2.2.2.2
  rw [q2, q3, q4, q5, q6, q7] at hrec
  obtain ⟨σ1, A', n', m', e', s1, s2, s3, s4, s5⟩ := hrec q1 hr_b1.1 hr_b1.2.1 hr_b1.2.2.1
  have hc := cr_kp s3
  exact ⟨σ1, A', n', m', e', by rw [r1, s1]; rfl, ⟨s2, s4, s3.2.2.2.2, hc.2 r4⟩, k2.tr hc.1, by rw [s3.2.1, e2, h110]⟩
theorem first_ok (h83 : σ.2.2 = 83) (hF : ∀ q ∈ xf_F, σ.1 q.1 q.2.1 = q.2.2) (hel : (100 : Int) + simR cl 10 0 hr_S3 = el) : Sm (f_L_first cl (xm_st1 σ el)) := by
  obtain ⟨σ1, A1, n1, m1, e1, a1, a2, a3, a4⟩ := tell_1 (σ := σ) (el := el) h83 hF (by omega)
  have g := fun (a k : Nat) (h : (85 ≤ a ∧ a ≤ 88) ∨ a = 109 ∨ a = 110) => a3 a k h
  have hh := st1_hi (σ := σ) (el := el)
  have f : ∀ (a k : Nat) (v : Int), (a, k, v) ∈ xf_F → (a = 87 ∨ (a = 109 ∧ k ≠ 1) ∨ (a = 88 ∧ k ≠ 0)) → σ1.1 a k = v := fun a k v h ha => by
    rw [g a k (by omega), st1_lo (by omega)]
    exact hF (a, k, v) h
  have c870 := f 87 0 0 (by decide +kernel) (by decide)
  have c871 := f 87 1 0 (by decide +kernel) (by decide)
  have c881 := f 88 1 0 (by decide +kernel) (by decide)
  have c109 := f 109 0 0 (by decide +kernel) (by decide)
  have c880 : σ1.1 88 0 = 1 := by rw [g 88 0 (by omega)]; exact hh.2.1
  have c1091 : σ1.1 109 1 = el := by rw [g 109 1 (by omega)]; exact hh.1
  have hRU : RU σ1 := ru_kp hh.2.2 a3
  unfold f_L_first
  refine sm_b a1 (sm_if ⟨by rw [a4]; rfl, by show σ1.2.2 ≤ 100000; omega⟩ (sm_if rfl ?_))
  clear a1 a3 g hh f
  refine sm_if ⟨a2.2.2.2, by decide, by decide, by decide⟩ ?_
  have hx1 : xm_nxt σ1 := Or.inr ⟨by omega, by omega, Or.inr (by omega)⟩
  obtain ⟨σ2, A2, n2, m2, e2, b1, b2, b3, b4⟩ := to_ok a2 hx1 (by omega) (txt_born (D := 0) (s := 0) (f := -1) (m := -1) (by decide) (by decide) (by decide) (by decide)) hr_b2.1 hr_b2.2.1 hr_b2.2.2.1
  show Sm ((f_L_tell (xm_aps σ1 89 0 (xm_bP (0 : Int).toNat (0 : Int) (-1 : Int) (-1 : Int)))).bind _)
  refine sm_b b1 (sm_if ⟨by rw [xm_aps_2]; exact b4, by show σ2.2.2 ≤ 100000; omega⟩ (sm_if rfl ?_))
  have hW2 : LV σ2 hr_S2 A2 n2 m2 e2 := b2
  refine sm_if ⟨hW2.2.2.2, by decide, by decide, by decide⟩ ?_
  have hx2 : xm_nxt σ2 := Or.inr ⟨by omega, by omega, Or.inr (by rw [b3 109 1 (by omega)]; omega)⟩
  obtain ⟨σ3, A3, n3, m3, e3, d1, d2, d3, d4⟩ := to_ok hW2 hx2 (by omega) (txt_wed (D := 4000) (p := 0) (q := 1) (by decide) (by decide) (by decide)) hr_b3.1 hr_b3.2.1 hr_b3.2.2.1
  show Sm ((f_L_tell (xm_aps σ2 89 0 (xm_tP 1 (4000 : Int).toNat (0 : Int).toNat (1 : Int)))).bind _)
  refine sm_b d1 (sm_if ⟨by rw [xm_aps_2]; exact d4, by show σ3.2.2 ≤ 100000; omega⟩ (sm_if rfl ?_))
  have k := b3.tr d3
  have hW3 : LV σ3 hr_S3 A3 n3 m3 e3 := d2
  refine law_ok (cl := cl) (el := el) hW3 ⟨hr_BW, fun p hp => ?_, fun p hp => ?_, ru_kp hRU k⟩ hr_3.2.1 hr_3.1 (by show σ3.2.2 = 113; omega) (by show σ3.1 109 0 = 0; rw [k 109 0 (by omega)]; exact c109) (by show σ3.1 109 1 = el; rw [k 109 1 (by omega)]; exact c1091) hel
  · have hp2 : p < 2 := hp
    show σ3.1 87 p = _ ∧ _
    rw [k 87 p (by omega), (hr_o3 (p := (p : Int)) ⟨by omega, by omega⟩).1]
    have e : p = 0 ∨ p = 1 := by omega
    rcases e with rfl | rfl
    · exact ⟨c870, by decide, by decide⟩
    · exact ⟨c871, by decide, by decide⟩
  · have hp2 : p < 2 := hp
    show σ3.1 88 p = _ ∧ _
    rw [k 88 p (by omega), (hr_o3 (p := (p : Int)) ⟨by omega, by omega⟩).2.2]
    have e : p = 0 ∨ p = 1 := by omega
    rcases e with rfl | rfl
    · exact ⟨c880, by decide, by decide⟩
    · exact ⟨c881, by decide, by decide⟩
theorem simR_le : ∀ (r k : Nat) (S : xS), simR cl r k S ≤ 3 * r := by
  intro r
  induction r with
  | zero => intro k S; exact Nat.le_refl _
  | succ r ih =>
    intro k S
    show (simB cl k S).2 + simR cl r (k + 1) (simB cl k S).1 ≤ 3 * (r + 1)
    have h1 := ih (k + 1) (simB cl k S).1
    have h2 : (simB cl k S).2 ≤ 3 := by
      unfold simB
      split
      · exact Nat.zero_le _
      · split
        · exact Nat.le_refl _
        · exact (by decide : 1 ≤ 3)
    omega
theorem main_of : ∃ (el : Nat) (o : xm_Out), (90 ≤ el ∧ el < 100090) ∧ f_main cl (el : Int) = some o := by
  obtain ⟨o1, h1, h2, h3, h4⟩ := made_ok
  have hle := simR_le (cl := cl) 10 0 hr_S3
  have hS : Sm (f_main cl ((100 + simR cl 10 0 hr_S3 : Nat) : Int)) := by
    unfold f_main
    refine sm_b h1 (sm_if h2 (sm_if (st1_I h2 h3) (first_ok h2 h4 ?_)))
    omega
  obtain ⟨o, ho⟩ := hS
  exact ⟨100 + simR cl 10 0 hr_S3, o, ⟨by omega, by omega⟩, ho⟩
end XG2
