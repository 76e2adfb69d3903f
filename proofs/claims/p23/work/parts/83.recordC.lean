/-! ===== record: the class adds ===== -/
section XR
variable {σ σ' τ : xm_Mem} {S : xS} {e : Nat → Nat} {a : Nat} {K D b c d w : Int}
theorem cs_ad (hC : CS σ S e) (hE : EF σ a K D b c d w) (ha : 111 ≤ a ∧ a ≤ σ.2.2) (hlt : ∀ r, r < sn S → e r < a)
    (h53 : σ'.1 5 3 = ((sn S + 1 : Nat) : Int)) (h54 : σ'.1 5 4 = ((if K = 0 then sp S + 1 else sp S : Nat) : Int)) (h55 : σ'.1 5 5 = ((if K = 4 then stn S + 1 else stn S : Nat) : Int))
    (h6 : ∀ r, σ'.1 6 r = if r = sn S then (a : Int) else σ.1 6 r) (h7 : ∀ p, σ'.1 7 p = if K = 0 ∧ p = sp S then (a : Int) else σ.1 7 p) (h8 : ∀ t, σ'.1 8 t = if K = 4 ∧ t = stn S then (a : Int) else σ.1 8 t)
    (hEn : ∀ k, σ'.1 a k = if K = 0 ∧ k = 2 then (sp S : Int) else if K = 4 ∧ k = 6 then (stn S : Int) else σ.1 a k) (hx : ∀ x k, 111 ≤ x → x ≠ a → σ'.1 x k = σ.1 x k) (hc : σ'.2.2 = σ.2.2) (hW : WF S) :
    CS σ' (adR S K D b c d w) (fun r => if r = sn S then a else e r) := by
  obtain ⟨⟨a1, a2, a3⟩, b1, c1, d1, f1, g1⟩ := hC
  obtain ⟨e0, e1, e2, e3, e4, e5, e6, e7, e8, e9⟩ := hE
  refine ⟨⟨h53, h54, h55⟩, by rw [hc]; exact b1, fun r hr => ?_, fun r q hr hq => ?_, fun p hp => ?_, fun t ht => ?_⟩
  · have hr : r < sn S + 1 := hr
    rw [h6 r, hc]
    by_cases z : r = sn S
    · subst z
      obtain ⟨n0, n1, n2, n3, n4, n5, n6⟩ := ad_new (S := S) (K := K) (D := D) (a := b) (b := c) (c := d) (w := w)
      rw [if_pos rfl]
      show _ = (((if sn S = sn S then a else e (sn S) : Nat)) : Int) ∧ 111 ≤ (if sn S = sn S then a else e (sn S)) ∧ (if sn S = sn S then a else e (sn S)) ≤ σ.2.2 ∧ CE σ' (if sn S = sn S then a else e (sn S)) _ _
      rw [if_pos rfl]
      refine ⟨rfl, ha.1, ha.2, ?_⟩
      unfold CE
      rw [n0, n1, n2, n3, n4, n5, n6]
      have en : ∀ k, k ≠ 2 → k ≠ 6 → σ'.1 a k = σ.1 a k := fun k y1 y2 => by rw [hEn k, if_neg (fun q => y1 q.2), if_neg (fun q => y2 q.2)]
      rw [en 0 (by omega) (by omega), en 1 (by omega) (by omega), en 3 (by omega) (by omega), en 4 (by omega) (by omega), en 5 (by omega) (by omega), en 7 (by omega) (by omega), en 8 (by omega) (by omega), en 9 (by omega) (by omega), hEn 2, hEn 6, e0, e1, e2, e3, e4, e5, e6, e9]
      refine ⟨rfl, rfl, ?_, ?_, ?_, rfl, ?_, e7, e8, rfl⟩
      · by_cases k0 : K = 0
        · rw [if_pos ⟨k0, rfl⟩, if_pos k0]
        · rw [if_neg (fun q => k0 q.1), if_neg (fun q => absurd q.2 (by decide)), if_neg k0]
      · by_cases k0 : K = 1 ∨ K = 2
        · rw [if_pos k0, if_pos k0, if_neg (show ¬ K = 4 by omega)]
        · rw [if_neg k0, if_neg k0]
      · by_cases k0 : K = 0
        · rw [if_pos k0, if_pos k0, if_neg (show ¬ K = 4 by omega)]
        · rw [if_neg k0, if_neg k0]
      · rw [if_neg (fun q => absurd q.2 (by decide))]
        by_cases k4 : K = 4
        · rw [if_pos ⟨k4, rfl⟩, if_pos (show 4 ≤ K by omega), if_pos k4]
        · rw [if_neg (fun q => k4 q.1), if_neg k4]
    · obtain ⟨q1, q2, q3, q4⟩ := c1 r (by omega)
      have ne : e r ≠ a := by have := hlt r (by omega); omega
      rw [if_neg z]
      show _ = (((if r = sn S then a else e r : Nat)) : Int) ∧ 111 ≤ (if r = sn S then a else e r) ∧ (if r = sn S then a else e r) ≤ σ.2.2 ∧ CE σ' (if r = sn S then a else e r) _ _
      rw [if_neg z]
      refine ⟨q1, q2, q3, ?_⟩
      obtain ⟨n0, n1, n2, n3, n4, n5, n6⟩ := ad_old (S := S) (K := K) (D := D) (a := b) (b := c) (c := d) (w := w) z
      unfold CE at q4 ⊢
      rw [n0, n1, n2, n3, n4, n5, n6]
      simp only [hx (e r) _ q2 ne]
      exact q4
  · have hq : q < sn S + 1 := hq
    show (if r = sn S then a else e r) < (if q = sn S then a else e q)
    rw [if_neg (show ¬ r = sn S by omega)]
    by_cases z : q = sn S
    · rw [if_pos z]; exact hlt r (by omega)
    · rw [if_neg z]; exact d1 r q hr (by omega)
  · rw [h7 p]
    show _ = (((if sbb (adR S K D b c d w) p = sn S then a else e (sbb (adR S K D b c d w) p) : Nat)) : Int)
    by_cases z : p < sp S
    · rw [ad_p z, if_neg (fun q => by omega), if_neg (by have := (hW.2.2.1 p z).1; omega)]
      exact f1 p z
    · have hp : p < if K = 0 then sp S + 1 else sp S := hp
      by_cases y : K = 0
      · rw [if_pos y] at hp
        have ep : p = sp S := by omega
        have sb : sbb (adR S K D b c d w) p = sn S := if_pos ⟨y, ep⟩
        rw [sb, if_pos ⟨y, ep⟩, if_pos rfl]
      · rw [if_neg y] at hp; exact absurd hp z
  · rw [h8 t]
    show _ = (((if stb (adR S K D b c d w) t = sn S then a else e (stb (adR S K D b c d w) t) : Nat)) : Int)
    by_cases z : t < stn S
    · rw [ad_t z, if_neg (fun q => by omega), if_neg (by have := (hW.2.2.2 t z).1; omega)]
      exact g1 t z
    · have ht : t < if K = 4 then stn S + 1 else stn S := ht
      by_cases y : K = 4
      · rw [if_pos y] at ht
        have ep : t = stn S := by omega
        have sb : stb (adR S K D b c d w) t = sn S := if_pos ⟨y, ep⟩
        rw [sb, if_pos ⟨y, ep⟩, if_pos rfl]
      · rw [if_neg y] at ht; exact absurd ht z
theorem c_addR (hW : WF S) (hC : CS σ S e) (hE : EF σ a K D b c d w) (hr : rom S K) (ha : 111 ≤ a ∧ a ≤ σ.2.2) (hlt : ∀ r, r < sn S → e r < a) : ∃ σ', f_X7_add σ (a : Int) = some (σ', 0) ∧ gx (fun x _ => (5 ≤ x ∧ x ≤ 8) ∨ x = a) σ σ' ∧ CS σ' (adR S K D b c d w) (fun r => if r = sn S then a else e r) := by
  have ob : ∀ σ0 : xm_Mem, σ0.2.2 = σ.2.2 → xm_obj σ0 (a : Int) 2 := fun σ0 h => xobj ha.1 (by rw [h]; exact ha.2)
  have e0 := hE.1
  have c53 := hC.1.1
  have c54 := hC.1.2.1
  have c55 := hC.1.2.2
  have g200 : 0 ≤ (sn S : Int) ∧ (sn S : Int) < 200 := ⟨by omega, by have := hr.1; omega⟩
  unfold f_X7_add
  rw [c_room hC e0 (ob σ rfl), Option.bind_some]
  try dsimp only
  rw [xb_pos hr, if_neg (show ¬ (1 : Int) = 0 by decide), if_pos (ob σ rfl)]
  simp only [Int.toNat_natCast]
  rw [e0, c54]
  by_cases k0 : K = 0
  · have hp := hr.2.1 k0
    rw [if_pos k0, if_pos (ob σ rfl), xst]
    have v1 : (xm_u1 σ a 2 (sp S : Int)).1 5 4 = (sp S : Int) := by rw [xu11, if_neg (by omega)]; exact c54
    rw [v1, xvl, xst, if_pos ⟨⟨by omega, by omega⟩, Or.inr (ob _ rfl)⟩, xst, xw1 (by omega), Int.toNat_natCast]
    have z0 : (xm_u1 (xm_u1 (xm_u1 σ a 2 (sp S : Int)) 5 4 ((sp S + 1 : Nat) : Int)) 7 (sp S) (a : Int)).1 a 0 = K := by rw [xu11, if_neg (by omega), xu11, if_neg (by omega), xu11, if_neg (by omega)]; exact e0
    have z3 : (xm_u1 (xm_u1 (xm_u1 σ a 2 (sp S : Int)) 5 4 ((sp S + 1 : Nat) : Int)) 7 (sp S) (a : Int)).1 5 3 = (sn S : Int) := by rw [xu11, if_neg (by omega), xu11, if_neg (by omega), xu11, if_neg (by omega)]; exact c53
    unfold f_X7_add_j41 f_X7_add_j74
    rw [if_pos (ob (xm_u1 (xm_u1 (xm_u1 σ a 2 (sp S : Int)) 5 4 ((sp S + 1 : Nat) : Int)) 7 (sp S) (a : Int)) rfl)]
    simp only [Int.toNat_natCast]
    rw [z0, if_neg (show ¬ K = 4 by omega), z3, xvl, xst, if_pos ⟨g200, Or.inr (ob _ rfl)⟩, xst, xw1 (by omega), Int.toNat_natCast]
    refine ⟨_, rfl, ((((((gx.rf _ _).u1 (Or.inr rfl)).u1 (Or.inl (by omega))).u1 (Or.inl (by omega))).u1 (Or.inl (by omega))).u1 (Or.inl (by omega))), cs_ad hC hE ha hlt ?_ ?_ ?_ (fun r => ?_) (fun p => ?_) (fun t => ?_) (fun k => ?_) (fun x k h1 h2 => ?_) rfl hW⟩
    · rw [xu11, if_neg (by omega), xu11, if_pos ⟨rfl, rfl⟩]
    · rw [xu11, if_neg (by omega), xu11, if_neg (by omega), xu11, if_neg (by omega), xu11, if_pos ⟨rfl, rfl⟩, if_pos k0]
    · rw [xu11, if_neg (by omega), xu11, if_neg (by omega), xu11, if_neg (by omega), xu11, if_neg (by omega), xu11, if_neg (by omega), if_neg (show ¬ K = 4 by omega)]; exact c55
    · rw [xu11]
      by_cases y : r = sn S
      · rw [if_pos ⟨rfl, y⟩, if_pos y]
      · rw [if_neg (fun q => y q.2), if_neg y, xu11, if_neg (by omega), xu11, if_neg (by omega), xu11, if_neg (by omega), xu11, if_neg (by omega)]
    · rw [xu11, if_neg (by omega), xu11, if_neg (by omega), xu11]
      by_cases y : p = sp S
      · rw [if_pos ⟨rfl, y⟩, if_pos ⟨k0, y⟩]
      · rw [if_neg (fun q => y q.2), if_neg (fun q => y q.2), xu11, if_neg (by omega), xu11, if_neg (by omega)]
    · rw [xu11, if_neg (by omega), xu11, if_neg (by omega), xu11, if_neg (by omega), xu11, if_neg (by omega), xu11, if_neg (by omega), if_neg (fun q => by omega)]
    · rw [xu11, if_neg (by omega), xu11, if_neg (by omega), xu11, if_neg (by omega), xu11, if_neg (by omega), xu11]
      by_cases y : k = 2
      · rw [if_pos ⟨rfl, y⟩, if_pos ⟨k0, y⟩]
      · rw [if_neg (fun q => y q.2), if_neg (fun q => y q.2), if_neg (fun q => by omega)]
    · rw [xu11, if_neg (by omega), xu11, if_neg (by omega), xu11, if_neg (by omega), xu11, if_neg (by omega), xu11, if_neg (fun q => h2 q.1)]
  · rw [if_neg k0]
    unfold f_X7_add_j41 f_X7_add_j74
    rw [if_pos (ob σ rfl)]
    simp only [Int.toNat_natCast]
    rw [e0, c55]
    by_cases k4 : K = 4
    · have ht := hr.2.2 k4
      rw [if_pos k4, if_pos (ob σ rfl), xst]
      have v1 : (xm_u1 σ a 6 (stn S : Int)).1 5 5 = (stn S : Int) := by rw [xu11, if_neg (by omega)]; exact c55
      rw [v1, xvl, xst, if_pos ⟨⟨by omega, by omega⟩, Or.inr (ob _ rfl)⟩, xst, xw1 (by omega), Int.toNat_natCast]
      have z3 : (xm_u1 (xm_u1 (xm_u1 σ a 6 (stn S : Int)) 5 5 ((stn S + 1 : Nat) : Int)) 8 (stn S) (a : Int)).1 5 3 = (sn S : Int) := by rw [xu11, if_neg (by omega), xu11, if_neg (by omega), xu11, if_neg (by omega)]; exact c53
      rw [z3, xvl, xst, if_pos ⟨g200, Or.inr (ob _ rfl)⟩, xst, xw1 (by omega), Int.toNat_natCast]
      refine ⟨_, rfl, ((((((gx.rf _ _).u1 (Or.inr rfl)).u1 (Or.inl (by omega))).u1 (Or.inl (by omega))).u1 (Or.inl (by omega))).u1 (Or.inl (by omega))), cs_ad hC hE ha hlt ?_ ?_ ?_ (fun r => ?_) (fun p => ?_) (fun t => ?_) (fun k => ?_) (fun x k h1 h2 => ?_) rfl hW⟩
      · rw [xu11, if_neg (by omega), xu11, if_pos ⟨rfl, rfl⟩]
      · rw [xu11, if_neg (by omega), xu11, if_neg (by omega), xu11, if_neg (by omega), xu11, if_neg (by omega), xu11, if_neg (by omega), if_neg k0]; exact c54
      · rw [xu11, if_neg (by omega), xu11, if_neg (by omega), xu11, if_neg (by omega), xu11, if_pos ⟨rfl, rfl⟩, if_pos k4]
      · rw [xu11]
        by_cases y : r = sn S
        · rw [if_pos ⟨rfl, y⟩, if_pos y]
        · rw [if_neg (fun q => y q.2), if_neg y, xu11, if_neg (by omega), xu11, if_neg (by omega), xu11, if_neg (by omega), xu11, if_neg (by omega)]
      · rw [xu11, if_neg (by omega), xu11, if_neg (by omega), xu11, if_neg (by omega), xu11, if_neg (by omega), xu11, if_neg (by omega), if_neg (fun q => k0 q.1)]
      · rw [xu11, if_neg (by omega), xu11, if_neg (by omega), xu11]
        by_cases y : t = stn S
        · rw [if_pos ⟨rfl, y⟩, if_pos ⟨k4, y⟩]
        · rw [if_neg (fun q => y q.2), if_neg (fun q => y q.2), xu11, if_neg (by omega), xu11, if_neg (by omega)]
      · rw [xu11, if_neg (by omega), xu11, if_neg (by omega), xu11, if_neg (by omega), xu11, if_neg (by omega), xu11, if_neg (show ¬ (K = 0 ∧ k = 2) from fun q => k0 q.1)]
        by_cases y : k = 6
        · rw [if_pos ⟨rfl, y⟩, if_pos ⟨k4, y⟩]
        · rw [if_neg (fun q => y q.2), if_neg (fun q => y q.2)]
      · rw [xu11, if_neg (by omega), xu11, if_neg (by omega), xu11, if_neg (by omega), xu11, if_neg (by omega), xu11, if_neg (fun q => h2 q.1)]
    · rw [if_neg k4, c53, xvl, xst, if_pos ⟨g200, Or.inr (ob _ rfl)⟩, xst, xw1 (by omega), Int.toNat_natCast]
      refine ⟨_, rfl, ((gx.rf _ _).u1 (Or.inl (by omega))).u1 (Or.inl (by omega)), cs_ad hC hE ha hlt ?_ ?_ ?_ (fun r => ?_) (fun p => ?_) (fun t => ?_) (fun k => ?_) (fun x k h1 h2 => ?_) rfl hW⟩
      · rw [xu11, if_neg (by omega), xu11, if_pos ⟨rfl, rfl⟩]
      · rw [xu11, if_neg (by omega), xu11, if_neg (by omega), if_neg k0]; exact c54
      · rw [xu11, if_neg (by omega), xu11, if_neg (by omega), if_neg k4]; exact c55
      · rw [xu11]
        by_cases y : r = sn S
        · rw [if_pos ⟨rfl, y⟩, if_pos y]
        · rw [if_neg (fun q => y q.2), if_neg y, xu11, if_neg (by omega)]
      · rw [xu11, if_neg (by omega), xu11, if_neg (by omega), if_neg (fun q => k0 q.1)]
      · rw [xu11, if_neg (by omega), xu11, if_neg (by omega), if_neg (fun q => k4 q.1)]
      · rw [xu11, if_neg (by omega), xu11, if_neg (by omega), if_neg (fun q => k0 q.1), if_neg (fun q => k4 q.1)]
      · rw [xu11, if_neg (by omega), xu11, if_neg (by omega)]
end XR
