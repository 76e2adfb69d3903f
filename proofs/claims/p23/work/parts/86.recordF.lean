/-! ===== record: the class, all its ends ===== -/
def CR0 (σ σ1 : xm_Mem) (p b : Int) : Prop := (∀ x k, 84 ≤ x → x ≤ 110 → σ1.1 x k = σ.1 x k ∧ σ1.2.1 x k = σ.2.1 x k) ∧ σ1.2.2 = σ.2.2 + 1 ∧ σ1.1 1 9 = p ∧ σ1.1 1 10 = b ∧ σ1.1 2 1 = 0
def CR (σ σ1 : xm_Mem) (S : xS) (A : Nat → Nat) (n : Nat) (m : Nat → Int64) (e : Nat → Nat) (w p b : Int) : Prop := CR0 σ σ1 p b ∧ CI σ1 S A n m e ∧ σ1.1 1 8 = w
section XR
variable {σ σ1 σ2 τ : xm_Mem} {S : xS} {A : Nat → Nat} {n : Nat} {m : Nat → Int64} {e : Nat → Nat} {a : Nat} {B : Nat → Int} {s : Nat} {p b : Int}
theorem CR0.gx' {Z : Nat → Nat → Prop} (h : CR0 σ σ1 p b) (g : gx Z σ1 σ2) (hz : ∀ x k, Z x k → (5 ≤ x ∧ x ≤ 83) ∨ 111 ≤ x ∨ (x = 1 ∧ k = 8)) : CR0 σ σ2 p b :=
  ⟨fun x k h1 h2 => ⟨by rw [g.1 x k (fun z => by have := hz _ _ z; omega)]; exact (h.1 x k h1 h2).1, by rw [g.2.1 x k (fun z => by have := hz _ _ z; omega)]; exact (h.1 x k h1 h2).2⟩, by rw [g.2.2]; exact h.2.1, by rw [g.1 1 9 (fun z => by have := hz _ _ z; omega)]; exact h.2.2.1, by rw [g.1 1 10 (fun z => by have := hz _ _ z; omega)]; exact h.2.2.2.1, by rw [g.1 2 1 (fun z => by have := hz _ _ z; omega)]; exact h.2.2.2.2⟩
theorem cr_ref (hO : OK S) (hC : CI σ1 S A n m e) (h : CR0 σ σ1 p b) (w : Int) : ∃ σ2, (f_X10_refuse σ1 w).bind (fun o => some (o.1, o.2)) = some (σ2, -9) ∧ CR σ σ2 S A n m e w p b := by
  unfold f_X10_refuse
  rw [xst, Option.bind_some]
  have g : gx (fun x k => x = 1 ∧ k = 8) σ1 (xm_u1 σ1 1 8 w) := (gx.rf _ _).u1 ⟨rfl, rfl⟩
  exact ⟨_, rfl, h.gx' g (fun x k z => by omega), ci_gx hO hC g (fun a k z => by omega), by rw [xu11, if_pos ⟨rfl, rfl⟩]⟩
theorem c_record (hU : PU S A n m) (hC : CI σ S A n m e) (hB : isB B s) (hT : TC σ B s) (hc : σ.2.2 < 100000) (hx : xm_nxt σ) :
    (rdW B s ≠ -9 → ∃ σ1, f_X10_record σ = some (σ1, -9) ∧ CR σ σ1 S A n m e 2 (rdW B s) 0) ∧
    (rdW B s = -9 → ¬ kwn S (rdK B s) (rd1 B s) (rd2 B s) (rd3 B s) → ∃ σ1, f_X10_record σ = some (σ1, -9) ∧ CR σ σ1 S A n m e 1 (-9) 0) ∧
    (rdW B s = -9 → kwn S (rdK B s) (rd1 B s) (rd2 B s) (rd3 B s) → ¬ rom S (rdK B s) → ∃ σ1, f_X10_record σ = some (σ1, -9) ∧ CR σ σ1 S A n m e 9 (-9) 0) ∧
    (rdW B s = -9 → kwn S (rdK B s) (rd1 B s) (rd2 B s) (rd3 B s) → rom S (rdK B s) → fstB (breaks (adR S (rdK B s) (rdD B s) (rd1 B s) (rd2 B s) (rd3 B s) (rd4 B s))) 9 1 ≠ 0 → ∃ σ1, f_X10_record σ = some (σ1, -9) ∧ CR σ σ1 S A n m e 5 (-9) (fstB (breaks (adR S (rdK B s) (rdD B s) (rd1 B s) (rd2 B s) (rd3 B s) (rd4 B s))) 9 1 : Int)) ∧
    (rdW B s = -9 → kwn S (rdK B s) (rd1 B s) (rd2 B s) (rd3 B s) → rom S (rdK B s) → fstB (breaks (adR S (rdK B s) (rdD B s) (rd1 B s) (rd2 B s) (rd3 B s) (rd4 B s))) 9 1 = 0 → ∃ σ1 A' n' m' e', f_X10_record σ = some (σ1, (sn S : Int)) ∧ PU (adR S (rdK B s) (rdD B s) (rd1 B s) (rd2 B s) (rd3 B s) (rd4 B s)) A' n' m' ∧ CR σ σ1 (adR S (rdK B s) (rdD B s) (rd1 B s) (rd2 B s) (rd3 B s) (rd4 B s)) A' n' m' e' 0 (-9) 0) := by
  obtain ⟨σ8, p1, p2, p3, p4, p5, p6, p7, p8⟩ := c_pre hU.1 hC hB hT hc hx
  rw [p1]
  unfold recT
  rw [p5]
  have h0 : CR0 σ σ8 (rdW B s) 0 := ⟨p3, p2, p5, p6, p7⟩
  have c110 := hC.1.2.1.1
  have a111 : 111 ≤ σ.2.2 + 1 ∧ σ.2.2 + 1 ≤ σ8.2.2 := by omega
  have hlt : ∀ r, r < sn S → e r < σ.2.2 + 1 := fun r hr => by have := (hC.1.2.2.1 r hr).2.2.1; omega
  generalize σ.2.2 + 1 = a at a111 hlt p8
  have ob := xobj a111.1 a111.2
  constructor
  · intro h
    rw [if_neg h]
    exact cr_ref hU.1 p4 h0 2
  · by_cases h : rdW B s = -9
    · have ho := rd_ok hB h
      have hE := p8 h
      rw [h] at h0
      generalize rdK B s = K at ho hE ⊢
      generalize rdD B s = D at ho hE ⊢
      generalize rd1 B s = x1 at ho hE ⊢
      generalize rd2 B s = x2 at ho hE ⊢
      generalize rd3 B s = x3 at ho hE ⊢
      generalize rd4 B s = x4 at ho hE ⊢
      rw [if_pos h, c_knows hU.1.1 p4.1 ho hE ob, Option.bind_some]
      try dsimp only
      refine ⟨fun _ hk => ?_, fun _ hk hr => ?_, fun _ hk hr hb => ?_, fun _ hk hr hb => ?_⟩
      · rw [xb_neg hk, if_pos rfl]
        exact cr_ref hU.1 p4 h0 1
      · rw [xb_pos hk, if_neg (by decide), c_room p4.1 hE.1 ob, Option.bind_some]
        try dsimp only
        rw [xb_neg hr, if_pos rfl]
        exact cr_ref hU.1 p4 h0 9
      all_goals
        rw [xb_pos hk, if_neg (by decide), c_room p4.1 hE.1 ob, Option.bind_some]
        try dsimp only
        rw [xb_pos hr, if_neg (by decide)]
        obtain ⟨σ9, a1, a2, a3⟩ := c_addR hU.1.1 p4.1 hE hr a111 hlt
        rw [a1, Option.bind_some]
        try dsimp only
        have hW' := ad_WF hU.1.1 ho hk hr
        have hN' := ad_NM hU.1.1 hU.1.2.1 ho hk
        obtain ⟨σ10, b1, b2, b3, b4⟩ := c_bond hW' hN' a3
        rw [b1, Option.bind_some]
        try dsimp only
        rw [xst]
        have zpu : ∀ y, zPU y → 10 ≤ y ∧ y ≤ 22 := fun y z => by unfold zPU zP zU at z; omega
        have h9 := h0.gx' a2 (fun x k z => by omega)
        have g10 : gx (fun y _ => 10 ≤ y ∧ y ≤ 22) σ9 σ10 := b2.gx.mono (fun y k z => zpu y z)
        have h10 := h9.gx' g10 (fun x k z => by omega)
        have cs10 := cs_gx a3 g10 (fun y k z => by omega)
        have h11 : CR0 σ (xm_u1 σ10 1 10 (fstB (breaks (adR S K D x1 x2 x3 x4)) 9 1 : Int)) (-9) (fstB (breaks (adR S K D x1 x2 x3 x4)) 9 1 : Int) :=
          ⟨fun x k y1 y2 => ⟨by rw [xu11, if_neg (by omega)]; exact (h10.1 x k y1 y2).1, (h10.1 x k y1 y2).2⟩, h10.2.1, by rw [xu11, if_neg (by omega)]; exact h10.2.2.1, by rw [xu11, if_pos ⟨rfl, rfl⟩], by rw [xu11, if_neg (by omega)]; exact h10.2.2.2.2⟩
        have cs11 : CS (xm_u1 σ10 1 10 (fstB (breaks (adR S K D x1 x2 x3 x4)) 9 1 : Int)) (adR S K D x1 x2 x3 x4) (fun r => if r = sn S then a else e r) := cs_gx cs10 ((gx.rf (fun x k => x = 1 ∧ k = 10) σ10).u1 ⟨rfl, rfl⟩) (fun y k z => by omega)
        generalize xm_u1 σ10 1 10 (fstB (breaks (adR S K D x1 x2 x3 x4)) 9 1 : Int) = σ11 at h11 cs11
        rw [h11.2.2.2.1]
      · rw [if_neg (by omega)]
        obtain ⟨σ12, d1, d2, d3⟩ := c_drop hU.1.1 hW' cs11
        obtain ⟨σ13, f1, f2, f3⟩ := c_settle2 hU d3
        rw [d1, Option.bind_some]
        try dsimp only
        unfold f_X10_record_j113
        rw [f1, Option.bind_some]
        try dsimp only
        have h13 := (h11.gx' d2 (fun x k z => by omega)).gx' f2 (fun x k z => by omega)
        rw [h13.2.2.2.1, if_neg (by omega)]
        exact cr_ref hU.1 f3 h13 5
      · rw [hb] at h11 ⊢
        rw [if_pos (by decide)]
        obtain ⟨σ13, A', n', m', f1, f2, f3, f4, _⟩ := c_settle ⟨hW', hN', hb⟩ cs11
        unfold f_X10_record_j113
        rw [f1, Option.bind_some]
        try dsimp only
        have h13 := h11.gx' f2 (fun x k z => by omega)
        have hn := hU.1.1.1.1
        have ew : xm_w (((sn S + 1 : Nat) : Int) - 1) = (sn S : Int) := by rw [xp_w (by omega) (by omega)]; omega
        have e1 : sn (adR S K D x1 x2 x3 x4) = sn S + 1 := rfl
        rw [h13.2.2.2.1, if_pos (by decide), r7_size f4.1, Option.bind_some]
        try dsimp only
        rw [e1, ew]
        unfold f_X10_accept
        rw [xst, Option.bind_some]
        have g : gx (fun x k => x = 1 ∧ k = 8) σ13 (xm_u1 σ13 1 8 0) := (gx.rf _ _).u1 ⟨rfl, rfl⟩
        exact ⟨_, A', n', m', _, rfl, f3, h13.gx' g (fun x k z => by omega), ci_gx ⟨hW', hN', hb⟩ f4 g (fun y k z => by omega), by rw [xu11, if_pos ⟨rfl, rfl⟩]⟩
    · exact ⟨fun z => absurd z h, fun z => absurd z h, fun z => absurd z h, fun z => absurd z h⟩
end XR
