/-! ===== record: the class reads ===== -/
noncomputable def recT (v0 : Int) (σ : xm_Mem) : Option xm_Out := if (σ.1 1 9) = (-9 : Int) then ((f_X7_knowsAllNamedBy σ v0).bind (fun o13 => if o13.2 = 0 then ((f_X10_refuse o13.1 (1 : Int)).bind (fun o17 => some (o17.1, o17.2))) else ((f_X7_hasRoomFor o13.1 v0).bind (fun o19 => if o19.2 = 0 then ((f_X10_refuse o19.1 (9 : Int)).bind (fun o23 => some (o23.1, o23.2))) else ((f_X7_add o19.1 v0).bind (fun o25 => (f_X10_firstBrokenBond o25.1).bind (fun o27 => xm_st (xm_u1 o27.1 1 10 o27.2) (fun σ29 => if (σ29.1 1 10) = 0 then (f_X10_record_j113 σ29) else ((f_X7_dropLatest σ29).bind (fun o44 => f_X10_record_j113 o44.1)))))))))) else ((f_X10_refuse σ (2 : Int)).bind (fun o46 => some (o46.1, o46.2)))
section XR
variable {σ σ' τ : xm_Mem} {S : xS} {A : Nat → Nat} {n : Nat} {m : Nat → Int64} {e : Nat → Nat} {a : Nat} {B : Nat → Int} {s : Nat}
theorem c_init {σ : xm_Mem} {a : Nat} (ob : xm_obj σ (a : Int) 2) (ha : 1 ≤ a) : ∃ σ', f_X3_init σ (a : Int) = some (σ', 0) ∧ gx (fun x _ => x = a) σ σ' ∧ (∀ k, k ≤ 7 → σ'.1 a k = -1) ∧ σ'.1 a 9 = 1 := by
  have ob' : ∀ τ : xm_Mem, τ.2.2 = σ.2.2 → xm_obj τ (a : Int) 2 := fun τ h => ⟨ob.1, by rw [h]; exact ob.2.1, ob.2.2⟩
  unfold f_X3_init
  rw [if_pos (by omega)]
  have st : ∀ (τ : xm_Mem) (k : Nat) (v : Int) (f : xm_Mem → Option xm_Out), τ.2.2 = σ.2.2 → (if xm_obj τ (a : Int) 2 then xm_st (xm_u1 τ (a : Int).toNat k v) f else none) = f (xm_u1 τ a k v) := fun τ k v f h => by rw [if_pos (ob' τ h), xst, Int.toNat_natCast]
  rw [st (σ) 0 _ _ rfl, st (xm_u1 σ a 0 (-1)) 1 _ _ rfl, st (xm_u1 (xm_u1 σ a 0 (-1)) a 1 (-1)) 2 _ _ rfl, st (xm_u1 (xm_u1 (xm_u1 σ a 0 (-1)) a 1 (-1)) a 2 (-1)) 3 _ _ rfl, st (xm_u1 (xm_u1 (xm_u1 (xm_u1 σ a 0 (-1)) a 1 (-1)) a 2 (-1)) a 3 (-1)) 4 _ _ rfl, st (xm_u1 (xm_u1 (xm_u1 (xm_u1 (xm_u1 σ a 0 (-1)) a 1 (-1)) a 2 (-1)) a 3 (-1)) a 4 (-1)) 5 _ _ rfl, st (xm_u1 (xm_u1 (xm_u1 (xm_u1 (xm_u1 (xm_u1 σ a 0 (-1)) a 1 (-1)) a 2 (-1)) a 3 (-1)) a 4 (-1)) a 5 (-1)) 6 _ _ rfl, st (xm_u1 (xm_u1 (xm_u1 (xm_u1 (xm_u1 (xm_u1 (xm_u1 σ a 0 (-1)) a 1 (-1)) a 2 (-1)) a 3 (-1)) a 4 (-1)) a 5 (-1)) a 6 (-1)) 7 _ _ rfl, st (xm_u1 (xm_u1 (xm_u1 (xm_u1 (xm_u1 (xm_u1 (xm_u1 (xm_u1 σ a 0 (-1)) a 1 (-1)) a 2 (-1)) a 3 (-1)) a 4 (-1)) a 5 (-1)) a 6 (-1)) a 7 (-1)) 8 _ _ rfl, st (xm_u1 (xm_u1 (xm_u1 (xm_u1 (xm_u1 (xm_u1 (xm_u1 (xm_u1 (xm_u1 σ a 0 (-1)) a 1 (-1)) a 2 (-1)) a 3 (-1)) a 4 (-1)) a 5 (-1)) a 6 (-1)) a 7 (-1)) a 8 0) 9 _ _ rfl]
  refine ⟨_, rfl, ((((((((((gx.rf (fun x _ => x = a) σ).u1 rfl).u1 rfl).u1 rfl).u1 rfl).u1 rfl).u1 rfl).u1 rfl).u1 rfl).u1 rfl).u1 rfl, fun k hk => ?_, by rw [xu11, if_pos ⟨rfl, rfl⟩]⟩
  have c : k = 0 ∨ k = 1 ∨ k = 2 ∨ k = 3 ∨ k = 4 ∨ k = 5 ∨ k = 6 ∨ k = 7 := by omega
  rcases c with c | c | c | c | c | c | c | c <;> subst c <;> simp [xu11]
theorem c_pre (hO : OK S) (hC : CI σ S A n m e) (hB : isB B s) (hT : TC σ B s) (hc : σ.2.2 < 100000) (hx : xm_nxt σ) : ∃ σ8, f_X10_record σ = recT ((σ.2.2 + 1 : Nat) : Int) σ8 ∧ σ8.2.2 = σ.2.2 + 1 ∧ (∀ x k, 84 ≤ x → x ≤ 110 → σ8.1 x k = σ.1 x k ∧ σ8.2.1 x k = σ.2.1 x k) ∧ CI σ8 S A n m e ∧ σ8.1 1 9 = rdW B s ∧ σ8.1 1 10 = 0 ∧ σ8.1 2 1 = 0 ∧ (rdW B s = -9 → EF σ8 (σ.2.2 + 1) (rdK B s) (rdD B s) (rd1 B s) (rd2 B s) (rd3 B s) (rd4 B s)) := by
  have c110 := hC.1.2.1.1
  have a111 : 111 ≤ σ.2.2 + 1 := by omega
  unfold f_X10_record
  rw [if_pos ⟨xm_lay_hi a111, hx⟩, xst]
  have ev : (σ.2.2 : Int) + 1 = ((σ.2.2 + 1 : Nat) : Int) := by omega
  rw [ev, xvr _ (by omega), if_pos (by omega)]
  generalize ha : σ.2.2 + 1 = a at a111
  have ac : a = (xm_nw σ).2.2 := ha.symm
  have ob : xm_obj (xm_nw σ) (a : Int) 2 := xobj a111 (by omega)
  obtain ⟨σ2, b1, b2, b3, b4⟩ := c_init ob (by omega)
  rw [b1, Option.bind_some]
  try dsimp only
  rw [xst]
  have c4 : (xm_u1 σ2 1 10 0).2.2 = a := by show σ2.2.2 = a; rw [b2.2.2]; exact ac.symm
  have t4 : TC (xm_u1 σ2 1 10 0) B s := ⟨by rw [xu11, if_neg (by omega), b2.1 2 1 (by omega)]; exact hT.1, fun k hk => by rw [xu11, if_neg (by omega), b2.1 3 k (by omega)]; exact hT.2 k hk⟩
  have i4 : ∀ k, k ≤ 7 → (xm_u1 σ2 1 10 0).1 a k = -1 := fun k hk => by rw [xu11, if_neg (by omega)]; exact b3 k hk
  have n4 : (xm_u1 σ2 1 10 0).1 a 9 = 1 := by rw [xu11, if_neg (by omega)]; exact b4
  have z4 : (xm_u1 σ2 1 10 0).1 1 10 = 0 := by rw [xu11, if_pos ⟨rfl, rfl⟩]
  have o4 : ∀ x k, x ≠ 1 → x ≠ a → (xm_u1 σ2 1 10 0).1 x k = σ.1 x k := fun x k z1 z2 => by rw [xu11, if_neg (fun q => z1 q.1)]; exact b2.1 x k z2
  have l4 : ∀ x k, x ≠ a → (xm_u1 σ2 1 10 0).2.1 x k = σ.2.1 x k := fun x k z2 => b2.2.1 x k z2
  generalize xm_u1 σ2 1 10 0 = σ4 at c4 t4 i4 n4 z4 o4 l4
  obtain ⟨σ5, d1, d2, d3⟩ := r6_readInto a111 (xobj a111 (by omega)) hB t4 (fun k _ h => i4 k (by omega))
  rw [d1, Option.bind_some]
  try dsimp only
  rw [xst]
  have s5 : (xm_u1 σ5 1 9 (rdW B s)).1 2 1 = (s : Int) := by rw [xu11, if_neg (by omega), d2.1 2 1 (by omega)]; exact t4.1
  unfold f_X8_keep
  rw [if_neg (show ¬ (0 : Int) < 0 by decide), s5, if_neg (show ¬ (s : Int) < 0 by omega), xst, Option.bind_some]
  refine ⟨_, rfl, ?_, fun x k h1 h2 => ⟨?_, ?_⟩, ?_, ?_, ?_, ?_, fun h => ?_⟩
  · show σ5.2.2 = a
    rw [d2.2.2]; exact c4
  · rw [xu11, if_neg (by omega), xu11, if_neg (by omega), d2.1 x k (by omega)]; exact o4 x k (by omega) (by omega)
  · show σ5.2.1 x k = σ.2.1 x k
    rw [d2.2.1 x k (by omega)]; exact l4 x k (by omega)
  · refine ci_up hO hC (fun x k h1 h2 h3 => ?_) (fun x k h1 h2 h3 => ?_) ?_ ?_
    · rw [xu11, if_neg (by omega), xu11, if_neg (by omega), d2.1 x k (by omega)]; exact o4 x k (by omega) (by omega)
    · show σ5.2.1 x k = σ.2.1 x k
      rw [d2.2.1 x k (by omega)]; exact l4 x k (by omega)
    · show σ.2.2 ≤ σ5.2.2
      rw [d2.2.2, c4]; omega
    · show σ5.2.2 ≤ 100000
      rw [d2.2.2, c4]; omega
  · rw [xu11, if_neg (by omega), xu11, if_pos ⟨rfl, rfl⟩]
  · rw [xu11, if_neg (by omega), xu11, if_neg (by omega), d2.1 1 10 (by omega)]; exact z4
  · rw [xu11, if_pos ⟨rfl, rfl⟩]
  · obtain ⟨y0, y1, y2, y3, y4, y5, y6, y7, y8, y9⟩ := d3 h
    have oe : ∀ k, (xm_u1 (xm_u1 σ5 1 9 (rdW B s)) 2 1 0).1 a k = σ5.1 a k := fun k => by rw [xu11, if_neg (by omega), xu11, if_neg (by omega)]
    unfold EF
    simp only [oe]
    exact ⟨y0, y1, y2, y3, y4, y5, y6, y7, y8, by rw [y9]; exact n4⟩
end XR
