/-! ===== record: the reference, all its ends ===== -/
section XR
variable {σ τ τ1 τ2 : xm_Mem} {S : xS} {A : Nat → Nat} {n : Nat} {m : Nat → Int64} {B : Nat → Int} {s : Nat} {p b : Int}
theorem mi_rows {Z : Nat → Nat → Prop} (h : MI τ S A n m) (hM : MS τ1 S) (hf : gx Z τ τ1) (hz : ∀ a k, Z a k → (a = 84 ∧ (k = 4 ∨ k = 5 ∨ k = 14 ∨ k = 15)) ∨ (86 ≤ a ∧ a ≤ 94)) : MI τ1 S A n m := by
  have e18 : τ1.1 84 18 = τ.1 84 18 := hf.1 84 18 (fun z => by have := hz _ _ z; omega)
  have o : ∀ a k, 95 ≤ a → τ1.1 a k = τ.1 a k := fun a k z => hf.1 a k (fun y => by have := hz _ _ y; omega)
  refine ⟨hM, ?_, fun t ht => ?_⟩
  · rcases h.2.1 with r | ⟨r1, r2⟩
    · exact Or.inl (by rw [e18]; exact r)
    · exact Or.inr ⟨by rw [e18]; exact r1, r2.gx hf (fun a k z => by have := hz a k z; omega)⟩
  · rcases h.2.2 t ht with g | ⟨g, g18, g1, g2⟩
    · exact Or.inl (by rw [o 95 t (by omega)]; exact g)
    · refine Or.inr ⟨by rw [o 95 t (by omega)]; exact g, by rw [e18]; exact g18, by rw [o 104 t (by omega)]; exact g1, fun k hk => ?_⟩
      rw [o 105 _ (by omega), o 106 _ (by omega), o 107 _ (by omega), o 108 _ (by omega)]
      exact g2 k hk
theorem m_record (hU : PU S A n m) (hM : MI τ S A n m) (hB : isB B s) (hT : TM τ B s) (h6 : τ.1 84 6 = (sN S : Int)) :
    (rdW B s ≠ -9 → ∃ τ1, f_X11_record τ = some (τ1, -9) ∧ MR τ τ1 S A n m 2 (rdW B s) 0) ∧
    (rdW B s = -9 → ¬ kwn S (rdK B s) (rd1 B s) (rd2 B s) (rd3 B s) → ∃ τ1, f_X11_record τ = some (τ1, -9) ∧ MR τ τ1 S A n m 1 (-9) 0) ∧
    (rdW B s = -9 → kwn S (rdK B s) (rd1 B s) (rd2 B s) (rd3 B s) → ¬ rom S (rdK B s) → ∃ τ1, f_X11_record τ = some (τ1, -9) ∧ MR τ τ1 S A n m 9 (-9) 0) ∧
    (rdW B s = -9 → kwn S (rdK B s) (rd1 B s) (rd2 B s) (rd3 B s) → rom S (rdK B s) → fstB (breaks (adR S (rdK B s) (rdD B s) (rd1 B s) (rd2 B s) (rd3 B s) (rd4 B s))) 9 1 ≠ 0 → ∃ τ1, f_X11_record τ = some (τ1, -9) ∧ MR τ τ1 S A n m 5 (-9) (fstB (breaks (adR S (rdK B s) (rdD B s) (rd1 B s) (rd2 B s) (rd3 B s) (rd4 B s))) 9 1 : Int)) ∧
    (rdW B s = -9 → kwn S (rdK B s) (rd1 B s) (rd2 B s) (rd3 B s) → rom S (rdK B s) → fstB (breaks (adR S (rdK B s) (rdD B s) (rd1 B s) (rd2 B s) (rd3 B s) (rd4 B s))) 9 1 = 0 → ∀ A' n' m', ∃ τ1, f_X11_record τ = some (τ1, (sn S : Int)) ∧ MR τ τ1 (adR S (rdK B s) (rdD B s) (rd1 B s) (rd2 B s) (rd3 B s) (rd4 B s)) A' n' m' 0 (-9) 0) := by
  have hn := hU.1.1.1.1
  unfold f_X11_record
  rw [xst, xst]
  have g2 : gx (fun x k => x = 84 ∧ (k = 3 ∨ k = 4)) τ (xm_u1 (xm_u1 τ 84 4 0) 84 3 (-9)) := ((gx.rf _ _).u1 (by omega)).u1 (by omega)
  have t2 : TM (xm_u1 (xm_u1 τ 84 4 0) 84 3 (-9)) B s := ⟨by rw [g2.1 84 1 (by omega)]; exact hT.1, fun k hk => by rw [g2.1 85 k (by omega)]; exact hT.2 k hk⟩
  have w3 : (xm_u1 (xm_u1 τ 84 4 0) 84 3 (-9)).1 84 3 = -9 := by rw [xu11, if_pos ⟨rfl, rfl⟩]
  have w4 : (xm_u1 (xm_u1 τ 84 4 0) 84 3 (-9)).1 84 4 = 0 := by rw [xu11, if_neg (by omega), xu11, if_pos ⟨rfl, rfl⟩]
  generalize xm_u1 (xm_u1 τ 84 4 0) 84 3 (-9) = τa at g2 t2 w3 w4
  obtain ⟨τb, a1, a2, a3⟩ := m_read (σ := τa) hB t2
  have gb : gx (fun x k => x = 84 ∧ 39 ≤ k ∧ k ≤ 50) τa τb := ⟨fun x k z => a2.1 x k (fun y => z (by unfold qA at y; omega)), fun x k _ => by rw [a2.2], by rw [a2.2]⟩
  rw [a1, Option.bind_some]
  try dsimp only
  have g3 : gx zMR τ τb := (g2.mono (fun x k z => Or.inl (by omega))).tr (gb.mono (fun x k z => Or.inl (by omega)))
  have hMb : MI τb S A n m := mi_gx (mi_gx hM hU.1 g2 (fun x k z => by omega)) hU.1 gb (fun x k z => by omega)
  have b3 : τb.1 84 3 = -9 := by rw [gb.1 84 3 (by omega)]; exact w3
  have b4 : τb.1 84 4 = 0 := by rw [gb.1 84 4 (by omega)]; exact w4
  have b6 : τb.1 84 6 = (sN S : Int) := by rw [gb.1 84 6 (by omega), g2.1 84 6 (by omega)]; exact h6
  -- behind the keeping of no byte
  have keep : ∀ σ0 : xm_Mem, gx zMR τ σ0 → MI σ0 S A n m → σ0.1 84 4 = 0 → σ0.1 84 6 = (sN S : Int) → ∃ τc, xm_u1 σ0 84 1 0 = τc ∧ gx zMR τ τc ∧ MI τc S A n m ∧ τc.1 84 1 = 0 ∧ (∀ k, k ≠ 1 → τc.1 84 k = σ0.1 84 k) ∧ τc.1 84 4 = 0 ∧ τc.1 84 6 = (sN S : Int) := by
    intro σ0 y1 y2 y3 y4
    have g : gx (fun x k => x = 84 ∧ k = 1) σ0 (xm_u1 σ0 84 1 0) := (gx.rf _ _).u1 ⟨rfl, rfl⟩
    exact ⟨_, rfl, y1.tr (g.mono (fun x k z => Or.inl (by omega))), mi_gx y2 hU.1 g (fun x k z => by omega), by rw [xu11, if_pos ⟨rfl, rfl⟩], fun k hk => g.1 84 k (by omega), by rw [g.1 84 4 (by omega)]; exact y3, by rw [g.1 84 6 (by omega)]; exact y4⟩
  unfold f_X11_record_j30
  rcases a3 with ⟨h, h50, hF⟩ | ⟨h, h50, h41⟩
  · have ho := rd_ok hB h
    rw [h50, if_neg (show ¬ (1 : Int) = 0 by decide), xst]
    obtain ⟨τc, c0, c1, c2, c3, c4, c5, c6⟩ := keep τb g3 hMb b4 b6
    rw [c0, c4 50 (by omega), h50, if_neg (show ¬ (1 : Int) = 0 by decide)]
    have c33 : τc.1 84 3 = -9 := by rw [c4 3 (by omega)]; exact b3
    have hFc : FL τc (rdK B s) (rdD B s) (rd1 B s) (rd2 B s) (rd3 B s) (rd4 B s) := ⟨by rw [c4 44 (by omega)]; exact hF.1, by rw [c4 45 (by omega)]; exact hF.2.1, by rw [c4 46 (by omega)]; exact hF.2.2.1, by rw [c4 47 (by omega)]; exact hF.2.2.2.1, by rw [c4 48 (by omega)]; exact hF.2.2.2.2.1, by rw [c4 49 (by omega)]; exact hF.2.2.2.2.2⟩
    rw [m_names hU.1.1 c2.1 ho hFc, Option.bind_some]
    try dsimp only
    refine ⟨fun z => absurd h z, fun _ hk => ?_, fun _ hk hr => ?_, fun _ hk hr hb => ?_, fun _ hk hr hb => ?_⟩
    · rw [xb_neg hk, if_pos rfl]
      exact mr_no hU.1 c2 c1 c3 c33 c5 c6 1
    · rw [xb_pos hk, if_neg (show ¬ (1 : Int) = 0 by decide), c2.1.1]
      unfold f_X11_record_j87
      rw [hFc.1, c2.1.2.1, c2.1.2.2.1]
      by_cases z1 : (sn S : Int) = 200
      · rw [if_pos z1]; exact mr_no hU.1 c2 c1 c3 c33 c5 c6 9
      · have hp := hU.1.1.1.2.1
        have ht := hU.1.1.1.2.2
        rw [if_neg z1]
        by_cases k0 : rdK B s = 0
        · rw [if_pos k0]
          by_cases z2 : (sp S : Int) = 64
          · rw [if_pos z2]; exact mr_no hU.1 c2 c1 c3 c33 c5 c6 9
          · exact absurd ⟨by omega, fun _ => by omega, fun y => by omega⟩ hr
        · rw [if_neg k0]
          by_cases k4 : rdK B s = 4
          · rw [if_pos k4]
            by_cases z2 : (stn S : Int) = 8
            · rw [if_pos z2]; exact mr_no hU.1 c2 c1 c3 c33 c5 c6 9
            · exact absurd ⟨by omega, fun y => absurd y k0, fun y => by omega⟩ hr
          · exact absurd ⟨by omega, fun y => absurd y k0, fun y => absurd y k4⟩ hr
    all_goals
      have z1 : ¬ (sn S : Int) = 200 := by have := hr.1; omega
      have j87 : f_X11_record_j87 τc = f_X11_record_j111 τc := by
        unfold f_X11_record_j87
        rw [hFc.1, c2.1.2.2.1]
        by_cases k4 : rdK B s = 4
        · rw [if_pos k4, if_neg (show ¬ (stn S : Int) = 8 by have := hr.2.2 k4; omega)]
        · rw [if_neg k4]
      have j30 : (if τc.1 84 44 = 0 then (if τc.1 84 14 = (64 : Int) then ((f_X11_no τc (9 : Int)).bind (fun o33 => some (o33.1, o33.2))) else f_X11_record_j87 τc) else f_X11_record_j87 τc) = f_X11_record_j111 τc := by
        rw [hFc.1, c2.1.2.1, j87]
        by_cases k0 : rdK B s = 0
        · rw [if_pos k0, if_neg (show ¬ (sp S : Int) = 64 by have := hr.2.1 k0; omega)]
        · rw [if_neg k0]
      rw [xb_pos hk, if_neg (show ¬ (1 : Int) = 0 by decide), c2.1.1, if_neg z1, j30]
      obtain ⟨τd, d1, d2, d3, d4, d5, d6⟩ := m_rows hU.1.1 c2.1 hFc hr
      have hW' := ad_WF hU.1.1 ho hk hr
      have hN' := ad_NM hU.1.1 hU.1.2.1 ho hk
      have dn : τd.1 84 5 = (sn S : Int) := by rw [d4 5 (by omega) (by omega)]; exact c2.1.1
      rw [d1]
      unfold f_X11_record_j261
      rw [dn, xst, xw1 (by omega), m_broken hW' d3, Option.bind_some]
      try dsimp only
    · have e5 : (xm_u1 τd 84 5 ((sn S + 1 : Nat) : Int)).1 84 5 = ((sn S + 1 : Nat) : Int) := by rw [xu11, if_pos ⟨rfl, rfl⟩]
      have ew : xm_w (((sn S + 1 : Nat) : Int) - 1) = (sn S : Int) := by rw [xp_w (by omega) (by omega)]; omega
      have g200 : 0 ≤ (sn S : Int) ∧ (sn S : Int) < 200 := ⟨by omega, by omega⟩
      have ge : gx (fun x k => (x = 84 ∧ (k = 4 ∨ k = 5 ∨ k = 14 ∨ k = 15)) ∨ (86 ≤ x ∧ x ≤ 94)) τc (xm_u1 τd 84 5 ((sn S + 1 : Nat) : Int)) := (d2.mono (fun x k z => by omega)).u1 (Or.inl ⟨rfl, by omega⟩)
      have oe : ∀ k, k ≠ 5 → (xm_u1 τd 84 5 ((sn S + 1 : Nat) : Int)).1 84 k = τd.1 84 k := fun k z => by rw [xu11, if_neg (fun y => z y.2)]
      generalize xm_u1 τd 84 5 ((sn S + 1 : Nat) : Int) = τe at d3 e5 ge oe
      rw [if_neg (show ¬ ((fstB (breaks (adR S (rdK B s) (rdD B s) (rd1 B s) (rd2 B s) (rd3 B s) (rd4 B s))) 9 1 : Nat) : Int) = 0 by omega), e5, ew, xst, if_pos g200, xst, Int.toNat_natCast]
      have oh : ∀ x k, ¬ (x = 84 ∧ k = 5) → ¬ (x = 92 ∧ k = sn S) → (xm_u1 (xm_u1 τe 84 5 (sn S : Int)) 92 (sn S) 0).1 x k = τe.1 x k := fun x k y1 y2 => by rw [xu11, if_neg y2, xu11, if_neg y1]
      have h5 : (xm_u1 (xm_u1 τe 84 5 (sn S : Int)) 92 (sn S) 0).1 84 5 = (sn S : Int) := by rw [xu11, if_neg (by omega), xu11, if_pos ⟨rfl, rfl⟩]
      have gh : gx (fun x k => (x = 84 ∧ (k = 4 ∨ k = 5 ∨ k = 14 ∨ k = 15)) ∨ (86 ≤ x ∧ x ≤ 94)) τe (xm_u1 (xm_u1 τe 84 5 (sn S : Int)) 92 (sn S) 0) := ((gx.rf _ _).u1 (Or.inl ⟨rfl, by omega⟩)).u1 (Or.inr (by omega))
      have lh : (xm_u1 (xm_u1 τe 84 5 (sn S : Int)) 92 (sn S) 0).2 = τe.2 := rfl
      generalize xm_u1 (xm_u1 τe 84 5 (sn S : Int)) 92 (sn S) 0 = τh at oh h5 gh lh
      have h44 : τh.1 84 44 = rdK B s := by rw [oh 84 44 (by omega) (by omega), oe 44 (by omega), d4 44 (by omega) (by omega)]; exact hFc.1
      have h14 : τh.1 84 14 = ((if rdK B s = 0 then sp S + 1 else sp S : Nat) : Int) := by rw [oh 84 14 (by omega) (by omega), oe 14 (by omega)]; exact d5
      have h15 : τh.1 84 15 = ((if rdK B s = 4 then stn S + 1 else stn S : Nat) : Int) := by rw [oh 84 15 (by omega) (by omega), oe 15 (by omega)]; exact d6
      -- the end
      have fin : ∃ τ1, (xm_st (xm_u1 (xm_u1 τh 84 14 (sp S : Int)) 84 15 (stn S : Int)) (fun σ105 => xm_st (xm_u1 σ105 84 4 (fstB (breaks (adR S (rdK B s) (rdD B s) (rd1 B s) (rd2 B s) (rd3 B s) (rd4 B s))) 9 1 : Int)) (fun σ106 => (f_X11_no σ106 (5 : Int)).bind (fun o107 => some (o107.1, o107.2))))) = some (τ1, -9) ∧ MR τ τ1 S A n m 5 (-9) (fstB (breaks (adR S (rdK B s) (rdD B s) (rd1 B s) (rd2 B s) (rd3 B s) (rd4 B s))) 9 1 : Int) := by
        rw [xst, xst]
        have gf : gx (fun x k => (x = 84 ∧ (k = 4 ∨ k = 5 ∨ k = 14 ∨ k = 15)) ∨ (86 ≤ x ∧ x ≤ 94)) τh (xm_u1 (xm_u1 (xm_u1 τh 84 14 (sp S : Int)) 84 15 (stn S : Int)) 84 4 (fstB (breaks (adR S (rdK B s) (rdD B s) (rd1 B s) (rd2 B s) (rd3 B s) (rd4 B s))) 9 1 : Int)) := (((gx.rf _ _).u1 (Or.inl ⟨rfl, by omega⟩)).u1 (Or.inl ⟨rfl, by omega⟩)).u1 (Or.inl ⟨rfl, by omega⟩)
        have of' : ∀ x k, ¬ (x = 84 ∧ (k = 4 ∨ k = 14 ∨ k = 15)) → (xm_u1 (xm_u1 (xm_u1 τh 84 14 (sp S : Int)) 84 15 (stn S : Int)) 84 4 (fstB (breaks (adR S (rdK B s) (rdD B s) (rd1 B s) (rd2 B s) (rd3 B s) (rd4 B s))) 9 1 : Int)).1 x k = τh.1 x k := fun x k y => by rw [xu11, if_neg (by omega), xu11, if_neg (by omega), xu11, if_neg (by omega)]
        have f4 : (xm_u1 (xm_u1 (xm_u1 τh 84 14 (sp S : Int)) 84 15 (stn S : Int)) 84 4 (fstB (breaks (adR S (rdK B s) (rdD B s) (rd1 B s) (rd2 B s) (rd3 B s) (rd4 B s))) 9 1 : Int)).1 84 4 = (fstB (breaks (adR S (rdK B s) (rdD B s) (rd1 B s) (rd2 B s) (rd3 B s) (rd4 B s))) 9 1 : Int) := by rw [xu11, if_pos ⟨rfl, rfl⟩]
        have f14 : (xm_u1 (xm_u1 (xm_u1 τh 84 14 (sp S : Int)) 84 15 (stn S : Int)) 84 4 (fstB (breaks (adR S (rdK B s) (rdD B s) (rd1 B s) (rd2 B s) (rd3 B s) (rd4 B s))) 9 1 : Int)).1 84 14 = (sp S : Int) := by rw [xu11, if_neg (by omega), xu11, if_neg (by omega), xu11, if_pos ⟨rfl, rfl⟩]
        have f15 : (xm_u1 (xm_u1 (xm_u1 τh 84 14 (sp S : Int)) 84 15 (stn S : Int)) 84 4 (fstB (breaks (adR S (rdK B s) (rdD B s) (rd1 B s) (rd2 B s) (rd3 B s) (rd4 B s))) 9 1 : Int)).1 84 15 = (stn S : Int) := by rw [xu11, if_neg (by omega), xu11, if_pos ⟨rfl, rfl⟩]
        generalize xm_u1 (xm_u1 (xm_u1 τh 84 14 (sp S : Int)) 84 15 (stn S : Int)) 84 4 (fstB (breaks (adR S (rdK B s) (rdD B s) (rd1 B s) (rd2 B s) (rd3 B s) (rd4 B s))) 9 1 : Int) = τf at gf of' f4 f14 f15
        have gcf := (ge.tr gh).tr gf
        have hMS : MS τf S := ms_un hU.1.1 d3 (by rw [of' 84 5 (by omega)]; exact h5) f14 f15 (fun x r y1 y2 y3 => by rw [of' x r (by omega), oh x r (by omega) (by omega)]) (fun q => by rw [of' 93 q (by omega), oh 93 q (by omega) (by omega)]) (fun q => by rw [of' 94 q (by omega), oh 94 q (by omega) (by omega)])
        have hMI := mi_rows c2 hMS gcf (fun a k z => z)
        exact mr_no hU.1 hMI (c1.tr (gcf.mono (fun x k z => by unfold zMR; omega))) (by rw [of' 84 1 (by omega), oh 84 1 (by omega) (by omega), oe 1 (by omega), d4 1 (by omega) (by omega)]; exact c3) (by rw [of' 84 3 (by omega), oh 84 3 (by omega) (by omega), oe 3 (by omega), d4 3 (by omega) (by omega)]; exact c33) f4 (by rw [of' 84 6 (by omega), oh 84 6 (by omega) (by omega), oe 6 (by omega), d4 6 (by omega) (by omega)]; exact c6) 5
      have x15 : ∀ v : Int, (xm_u1 τh 84 14 v).1 84 15 = τh.1 84 15 := fun v => by rw [xu11, if_neg (by omega)]
      have x44 : ∀ v : Int, (xm_u1 τh 84 14 v).1 84 44 = rdK B s := fun v => by rw [xu11, if_neg (by omega)]; exact h44
      unfold f_X11_record_j334 f_X11_record_j356
      rw [h44, h14]
      have hsp := hU.1.1.1.2.1
      have hst := hU.1.1.1.2.2
      by_cases k0 : rdK B s = 0
      · have w1 : xm_w (((sp S + 1 : Nat) : Int) - 1) = (sp S : Int) := by rw [xp_w (by omega) (by omega)]; omega
        have w2 : xm_w ((stn S : Int) - 0) = (stn S : Int) := by rw [xp_w (by omega) (by omega)]; omega
        rw [if_pos k0, if_pos k0, w1, xst, x44, x15, h15, if_neg (show ¬ rdK B s = 4 by omega), if_neg (show ¬ rdK B s = 4 by omega), w2]
        exact fin
      · have w1 : xm_w ((sp S : Int) - 0) = (sp S : Int) := by rw [xp_w (by omega) (by omega)]; omega
        rw [if_neg k0, if_neg k0, w1, xst, x44, x15, h15]
        by_cases k4 : rdK B s = 4
        · have w2 : xm_w (((stn S + 1 : Nat) : Int) - 1) = (stn S : Int) := by rw [xp_w (by omega) (by omega)]; omega
          rw [if_pos k4, if_pos k4, w2]
          exact fin
        · have w2 : xm_w ((stn S : Int) - 0) = (stn S : Int) := by rw [xp_w (by omega) (by omega)]; omega
          rw [if_neg k4, if_neg k4, w2]
          exact fin
    · intro A' n' m'
      have ge : gx (fun x k => (x = 84 ∧ (k = 5 ∨ k = 14 ∨ k = 15)) ∨ (86 ≤ x ∧ x ≤ 94)) τc (xm_u1 τd 84 5 ((sn S + 1 : Nat) : Int)) := (d2.mono (fun x k z => by omega)).u1 (Or.inl ⟨rfl, by omega⟩)
      have oe : ∀ k, k ≠ 5 → (xm_u1 τd 84 5 ((sn S + 1 : Nat) : Int)).1 84 k = τd.1 84 k := fun k z => by rw [xu11, if_neg (fun y => z y.2)]
      generalize xm_u1 τd 84 5 ((sn S + 1 : Nat) : Int) = τe at d3 ge oe
      have e6 : τe.1 84 6 = (sN S : Int) := by rw [oe 6 (by omega), d4 6 (by omega) (by omega)]; exact c6
      have le : sN S ≤ sn S := cn_le _ _
      have aN : sN (adR S (rdK B s) (rdD B s) (rd1 B s) (rd2 B s) (rd3 B s) (rd4 B s)) = sN S + 1 := ad_sN
      rw [hb, if_pos (show ((0 : Nat) : Int) = 0 by rfl), e6, xst, xw1 (by omega)]
      have gg : gx (fun x k => x = 84 ∧ k = 6) τe (xm_u1 τe 84 6 ((sN S + 1 : Nat) : Int)) := (gx.rf _ _).u1 ⟨rfl, rfl⟩
      have v6 : (xm_u1 τe 84 6 ((sN S + 1 : Nat) : Int)).1 84 6 = ((sN S + 1 : Nat) : Int) := by rw [xu11, if_pos ⟨rfl, rfl⟩]
      generalize xm_u1 τe 84 6 ((sN S + 1 : Nat) : Int) = τg at gg v6
      obtain ⟨τh, y1, y2, y3⟩ := m_changed (d3.gx gg (fun a k z => by omega)) A' n' m' ⟨hW', hN', hb⟩
      rw [y1, Option.bind_some]
      try dsimp only
      unfold f_X11_fine
      rw [xst, Option.bind_some]
      have oh : ∀ k, k ≠ 5 → k ≠ 6 → k ≠ 14 → k ≠ 15 → k ≠ 18 → τh.1 84 k = τc.1 84 k := fun k z1 z2 z3 z4 z5 => by rw [y2.1 84 k (by omega), gg.1 84 k (by omega), ge.1 84 k (by omega)]
      have h6' : τh.1 84 6 = ((sN S + 1 : Nat) : Int) := by rw [y2.1 84 6 (by omega)]; exact v6
      have gt : gx zMR τ τh := ((c1.tr (ge.mono (fun x k z => by unfold zMR; omega))).tr (gg.mono (fun x k z => by unfold zMR; omega))).tr (y2.mono (fun x k z => by unfold zMR; omega))
      have gl : gx (fun x k => x = 84 ∧ k = 2) τh (xm_u1 τh 84 2 0) := (gx.rf _ _).u1 ⟨rfl, rfl⟩
      exact ⟨_, rfl, gt.tr (gl.mono (fun x k z => by unfold zMR; omega)), mi_gx y3 ⟨hW', hN', hb⟩ gl (fun a k z => by omega), by rw [gl.1 84 1 (by omega), oh 1 (by omega) (by omega) (by omega) (by omega) (by omega)]; exact c3, by rw [xu11, if_pos ⟨rfl, rfl⟩], by rw [gl.1 84 3 (by omega), oh 3 (by omega) (by omega) (by omega) (by omega) (by omega)]; exact c33, by rw [gl.1 84 4 (by omega), oh 4 (by omega) (by omega) (by omega) (by omega) (by omega)]; exact c5, by rw [gl.1 84 6 (by omega), h6', aN]⟩
  · rw [h50, if_pos rfl, xst, h41, xst]
    refine ⟨fun _ => ?_, fun z => absurd z h, fun z => absurd z h, fun z => absurd z h, fun z => absurd z h⟩
    have g : gx (fun x k => x = 84 ∧ k = 3) τb (xm_u1 τb 84 3 (rdW B s)) := (gx.rf _ _).u1 ⟨rfl, rfl⟩
    have e50 : (xm_u1 τb 84 3 (rdW B s)).1 84 50 = 0 := by rw [xu11, if_neg (by omega)]; exact h50
    have e3 : (xm_u1 τb 84 3 (rdW B s)).1 84 3 = rdW B s := by rw [xu11, if_pos ⟨rfl, rfl⟩]
    obtain ⟨τc, c0, c1, c2, c3, c4, c5, c6⟩ := keep _ (g3.tr (g.mono (fun x k z => Or.inl (by omega)))) (mi_gx hMb hU.1 g (fun x k z => by omega)) (by rw [g.1 84 4 (by omega)]; exact b4) (by rw [g.1 84 6 (by omega)]; exact b6)
    rw [c0, c4 50 (by omega), e50, if_pos rfl]
    exact mr_no hU.1 c2 c1 c3 (by rw [c4 3 (by omega)]; exact e3) c5 c6 2
end XR
