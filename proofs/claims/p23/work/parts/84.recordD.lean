/-! ===== record: the class drops the latest ===== -/
section XR
variable {σ σ' τ : xm_Mem} {S : xS} {e : Nat → Nat} {a : Nat} {K D b c d w : Int}
theorem cs_un (hW : WF S) (hC : CS σ (adR S K D b c d w) (fun r => if r = sn S then a else e r))
    (h53 : σ'.1 5 3 = (sn S : Int)) (h54 : σ'.1 5 4 = (sp S : Int)) (h55 : σ'.1 5 5 = (stn S : Int))
    (h6 : ∀ r, r < sn S → σ'.1 6 r = σ.1 6 r) (h7 : ∀ p, p < sp S → σ'.1 7 p = σ.1 7 p) (h8 : ∀ t, t < stn S → σ'.1 8 t = σ.1 8 t)
    (hx : ∀ x k, 111 ≤ x → σ'.1 x k = σ.1 x k) (hc : σ'.2.2 = σ.2.2) : CS σ' S e := by
  obtain ⟨⟨a1, a2, a3⟩, b1, c1, d1, f1, g1⟩ := hC
  obtain ⟨n1, n2, n3, n4, n5⟩ := ad_n (S := S) (K := K) (D := D) (a := b) (b := c) (c := d) (w := w)
  refine ⟨⟨h53, h54, h55⟩, by rw [hc]; exact b1, fun r hr => ?_, fun r q hr hq => ?_, fun p hp => ?_, fun t ht => ?_⟩
  · have z : r ≠ sn S := by omega
    have y : σ.1 6 r = (((if r = sn S then a else e r : Nat)) : Int) ∧ 111 ≤ (if r = sn S then a else e r) ∧ (if r = sn S then a else e r) ≤ σ.2.2 ∧ CE σ (if r = sn S then a else e r) (adR S K D b c d w) r := c1 r (by omega)
    rw [if_neg z] at y
    obtain ⟨q1, q2, q3, q4⟩ := y
    obtain ⟨m0, m1, m2, m3, m4, m5, m6⟩ := ad_old (S := S) (K := K) (D := D) (a := b) (b := c) (c := d) (w := w) z
    refine ⟨by rw [h6 r hr]; exact q1, q2, by rw [hc]; exact q3, ?_⟩
    unfold CE at q4 ⊢
    rw [m0, m1, m2, m3, m4, m5, m6] at q4
    simp only [hx (e r) _ q2]
    exact q4
  · have y : (if r = sn S then a else e r) < (if q = sn S then a else e q) := d1 r q hr (by omega)
    rw [if_neg (by omega), if_neg (by omega)] at y
    exact y
  · have y : σ.1 7 p = (((if sbb (adR S K D b c d w) p = sn S then a else e (sbb (adR S K D b c d w) p) : Nat)) : Int) := f1 p (by omega)
    rw [ad_p hp, if_neg (by have := (hW.2.2.1 p hp).1; omega)] at y
    rw [h7 p hp]; exact y
  · have y : σ.1 8 t = (((if stb (adR S K D b c d w) t = sn S then a else e (stb (adR S K D b c d w) t) : Nat)) : Int) := g1 t (by omega)
    rw [ad_t ht, if_neg (by have := (hW.2.2.2 t ht).1; omega)] at y
    rw [h8 t ht]; exact y
theorem c_drop (hW : WF S) (hW' : WF (adR S K D b c d w)) (hC : CS σ (adR S K D b c d w) (fun r => if r = sn S then a else e r)) : ∃ σ', f_X7_dropLatest σ = some (σ', 0) ∧ gx (fun x _ => 5 ≤ x ∧ x ≤ 8) σ σ' ∧ CS σ' S e := by
  obtain ⟨n1, n2, n3, n4, n5⟩ := ad_n (S := S) (K := K) (D := D) (a := b) (b := c) (c := d) (w := w)
  have hn := hW'.1.1
  have hp64 := hW'.1.2.1
  have ht8 := hW'.1.2.2
  obtain ⟨e1, e2, e3, e4, e5⟩ := hC.at (r := sn S) (by omega)
  have e1 : σ.1 6 (sn S) = (((if sn S = sn S then a else e (sn S) : Nat)) : Int) := e1
  have e2 : xm_obj σ (((if sn S = sn S then a else e (sn S) : Nat)) : Int) 2 := e2
  have e3 : CE σ (if sn S = sn S then a else e (sn S)) (adR S K D b c d w) (sn S) := e3
  have e4 : (((if sn S = sn S then a else e (sn S) : Nat)) : Int) ≤ 2147483647 := e4
  have e5 : ¬ (((if sn S = sn S then a else e (sn S) : Nat)) : Int) = 0 := e5
  rw [if_pos rfl] at e1 e2 e3 e4 e5
  have eK : σ.1 a 0 = K := by rw [e3.1]; exact ad_new.1
  have a111 : 111 ≤ a := by
    have y : 111 ≤ (if sn S = sn S then a else e (sn S)) := (hC.2.2.1 (sn S) (by omega)).2.1
    rw [if_pos rfl] at y; exact y
  have ac : a ≤ σ.2.2 := by
    have y : (if sn S = sn S then a else e (sn S)) ≤ σ.2.2 := (hC.2.2.1 (sn S) (by omega)).2.2.1
    rw [if_pos rfl] at y; exact y
  have ob : ∀ σ0 : xm_Mem, σ0.2.2 = σ.2.2 → xm_obj σ0 (a : Int) 2 := fun σ0 h => xobj a111 (by rw [h]; exact ac)
  have c53 := hC.1.1
  have c54 := hC.1.2.1
  have c55 := hC.1.2.2
  rw [n1] at c53
  have ew : xm_w (((sn S + 1 : Nat) : Int) - 1) = (sn S : Int) := by rw [xp_w (by omega) (by omega)]; omega
  have tk : f_X7_taken σ (sn S : Int) = some (σ, (a : Int)) := by
    rw [r7_taken hW' hC, if_pos ⟨by omega, by omega⟩, Int.toNat_natCast, if_pos rfl]
  unfold f_X7_dropLatest
  rw [c53, ew, tk, Option.bind_some]
  try dsimp only
  rw [xvr _ e4, if_neg e5, c53, ew, xst]
  have v3 : (xm_u1 σ 5 3 (sn S : Int)).1 5 3 = (sn S : Int) := by rw [xu11, if_pos ⟨rfl, rfl⟩]
  rw [v3, if_pos ⟨⟨by omega, by omega⟩, Or.inl rfl⟩, xst, Int.toNat_natCast, if_pos (ob (xm_u1 (xm_u1 σ 5 3 (sn S : Int)) 6 (sn S) 0) rfl)]
  have g2 : gx (fun x _ => 5 ≤ x ∧ x ≤ 8) σ (xm_u1 (xm_u1 σ 5 3 (sn S : Int)) 6 (sn S) 0) := ((gx.rf _ _).u1 (by omega)).u1 (by omega)
  have u3 : (xm_u1 (xm_u1 σ 5 3 (sn S : Int)) 6 (sn S) 0).1 5 3 = (sn S : Int) := by rw [xu11, if_neg (by omega)]; exact v3
  have u4 : (xm_u1 (xm_u1 σ 5 3 (sn S : Int)) 6 (sn S) 0).1 5 4 = σ.1 5 4 := by rw [xu11, if_neg (by omega), xu11, if_neg (by omega)]
  have u5 : (xm_u1 (xm_u1 σ 5 3 (sn S : Int)) 6 (sn S) 0).1 5 5 = σ.1 5 5 := by rw [xu11, if_neg (by omega), xu11, if_neg (by omega)]
  have u6 : ∀ r, r < sn S → (xm_u1 (xm_u1 σ 5 3 (sn S : Int)) 6 (sn S) 0).1 6 r = σ.1 6 r := fun r hr => by rw [xu11, if_neg (by omega), xu11, if_neg (by omega)]
  have u7 : ∀ p, (xm_u1 (xm_u1 σ 5 3 (sn S : Int)) 6 (sn S) 0).1 7 p = σ.1 7 p := fun p => by rw [xu11, if_neg (by omega), xu11, if_neg (by omega)]
  have u8 : ∀ p, (xm_u1 (xm_u1 σ 5 3 (sn S : Int)) 6 (sn S) 0).1 8 p = σ.1 8 p := fun p => by rw [xu11, if_neg (by omega), xu11, if_neg (by omega)]
  generalize xm_u1 (xm_u1 σ 5 3 (sn S : Int)) 6 (sn S) 0 = σ1 at g2 u3 u4 u5 u6 u7 u8
  have hx : ∀ (σ2 : xm_Mem), gx (fun x _ => 5 ≤ x ∧ x ≤ 8) σ σ2 → ∀ x k, 111 ≤ x → σ2.1 x k = σ.1 x k := fun σ2 g x k z => g.1 x k (by omega)
  have k1 : σ1.1 a 0 = K := by rw [hx _ g2 a 0 a111]; exact eK
  simp only [Int.toNat_natCast]
  rw [k1, u4, c54, n4]
  unfold f_X7_dropLatest_j67
  by_cases k0 : K = 0
  · rw [if_pos k0, if_pos k0, if_pos (show (0 : Int) < ((sp S + 1 : Nat) : Int) by omega)]
    have ew2 : xm_w (((sp S + 1 : Nat) : Int) - 1) = (sp S : Int) := by rw [xp_w (by omega) (by omega)]; omega
    rw [n4, if_pos k0] at hp64
    rw [ew2, xvl, xst, if_pos ⟨⟨by omega, by omega⟩, by first | exact Or.inl rfl | exact Or.inl trivial⟩, xst]
    simp only [Int.toNat_natCast]
    have g3 : gx (fun x _ => 5 ≤ x ∧ x ≤ 8) σ (xm_u1 (xm_u1 σ1 5 4 (sp S : Int)) 7 (sp S) 0) := (g2.u1 (by omega)).u1 (by omega)
    have kk : (xm_u1 (xm_u1 σ1 5 4 (sp S : Int)) 7 (sp S) 0).1 a 0 = K := by rw [hx _ g3 a 0 a111]; exact eK
    rw [if_pos (ob (xm_u1 (xm_u1 σ1 5 4 (sp S : Int)) 7 (sp S) 0) g3.2.2), kk, if_neg (show ¬ K = 4 by omega)]
    refine ⟨_, rfl, g3, cs_un hW hC ?_ ?_ ?_ (fun r hr => ?_) (fun p hp => ?_) (fun t ht => ?_) (hx _ g3) g3.2.2⟩
    · rw [xu11, if_neg (by omega), xu11, if_neg (by omega)]; exact u3
    · rw [xu11, if_neg (by omega), xu11, if_pos ⟨rfl, rfl⟩]
    · rw [xu11, if_neg (by omega), xu11, if_neg (by omega), u5, c55, n5, if_neg (show ¬ K = 4 by omega)]
    · rw [xu11, if_neg (by omega), xu11, if_neg (by omega)]; exact u6 r hr
    · rw [xu11, if_neg (by omega), xu11, if_neg (by omega)]; exact u7 p
    · rw [xu11, if_neg (by omega), xu11, if_neg (by omega)]; exact u8 t
  · rw [if_neg k0, if_pos (ob σ1 g2.2.2)]
    simp only [Int.toNat_natCast]
    rw [k1]
    by_cases k4 : K = 4
    · rw [if_pos k4, u5, c55, n5, if_pos k4, if_pos (show (0 : Int) < ((stn S + 1 : Nat) : Int) by omega)]
      have ew2 : xm_w (((stn S + 1 : Nat) : Int) - 1) = (stn S : Int) := by rw [xp_w (by omega) (by omega)]; omega
      rw [n5, if_pos k4] at ht8
      rw [ew2, xvl, xst, if_pos ⟨⟨by omega, by omega⟩, by first | exact Or.inl rfl | exact Or.inl trivial⟩, xst]
      simp only [Int.toNat_natCast]
      have g3 : gx (fun x _ => 5 ≤ x ∧ x ≤ 8) σ (xm_u1 (xm_u1 σ1 5 5 (stn S : Int)) 8 (stn S) 0) := (g2.u1 (by omega)).u1 (by omega)
      refine ⟨_, rfl, g3, cs_un hW hC ?_ ?_ ?_ (fun r hr => ?_) (fun p hp => ?_) (fun t ht => ?_) (hx _ g3) g3.2.2⟩
      · rw [xu11, if_neg (by omega), xu11, if_neg (by omega)]; exact u3
      · rw [xu11, if_neg (by omega), xu11, if_neg (by omega), u4, c54, n4, if_neg k0]
      · rw [xu11, if_neg (by omega), xu11, if_pos ⟨rfl, rfl⟩]
      · rw [xu11, if_neg (by omega), xu11, if_neg (by omega)]; exact u6 r hr
      · rw [xu11, if_neg (by omega), xu11, if_neg (by omega)]; exact u7 p
      · rw [xu11, if_neg (by omega), xu11, if_neg (by omega)]; exact u8 t
    · rw [if_neg k4]
      exact ⟨σ1, rfl, g2, cs_un hW hC u3 (by rw [u4, c54, n4, if_neg k0]) (by rw [u5, c55, n5, if_neg k4]) u6 (fun p _ => u7 p) (fun t _ => u8 t) (hx _ g2) g2.2.2⟩
end XR
