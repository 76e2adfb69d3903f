/-! ===== record: who is named, and is there room ===== -/
/-- an entry as it was read -/
def EF (σ : xm_Mem) (a : Nat) (K D b c d w : Int) : Prop := σ.1 a 0 = K ∧ σ.1 a 1 = D ∧ σ.1 a 2 = b ∧ σ.1 a 3 = (if K = 1 ∨ K = 2 then c else -1) ∧ σ.1 a 4 = (if K = 0 then c else -1) ∧ σ.1 a 5 = (if K = 0 then d else -1) ∧ σ.1 a 6 = (if 4 ≤ K then c else -1) ∧ (K = 4 → σ.1 a 7 = w) ∧ (K = 0 → σ.1 a 8 = w) ∧ σ.1 a 9 = 1
section XR
variable {σ τ : xm_Mem} {S : xS} {e : Nat → Nat} {a : Nat} {K D b c d w : Int}
theorem c_knowsP (hW : WF S) (hC : CS σ S e) (x : Int) : f_X7_knowsPerson σ x = some (σ, xb (x = -1 ∨ isP S x)) := by
  unfold f_X7_knowsPerson
  by_cases z : x = -1
  · rw [if_pos z, xb_pos (Or.inl z)]
  · rw [if_neg z, r7_hasPerson hW hC, Option.bind_some]
    try dsimp only
    rw [xbi]
    by_cases y : isP S x
    · rw [if_pos y, xb_pos (Or.inr y)]
    · rw [if_neg y, xb_neg (fun q => q.elim z y)]
theorem kwn_eq (ho : rdO K D b c d w) : kwn S K b c d ↔ (((if K = 0 then c else -1) = -1 ∨ isP S (if K = 0 then c else -1)) ∧ ((if K = 0 then d else -1) = -1 ∨ isP S (if K = 0 then d else -1)) ∧ (b = -1 ∨ isP S b) ∧ ((if K = 1 ∨ K = 2 then c else -1) = -1 ∨ isP S (if K = 1 ∨ K = 2 then c else -1)) ∧ ((if 4 ≤ K then c else -1) = -1 ∨ isT S (if 4 ≤ K then c else -1))) := by
  obtain ⟨o1, o2, o3, o4, o5, o6, o7⟩ := ho
  unfold kwn
  constructor
  · rintro ⟨k1, k2, k3, k4⟩
    refine ⟨?_, ?_, ?_, ?_, ?_⟩
    · by_cases z : K = 0
      · rw [if_pos z]; exact (k1 z).1
      · rw [if_neg z]; exact Or.inl rfl
    · by_cases z : K = 0
      · rw [if_pos z]; exact (k1 z).2
      · rw [if_neg z]; exact Or.inl rfl
    · by_cases z : 1 ≤ K ∧ K ≤ 6
      · exact Or.inr (k2 z)
      · by_cases y : K = 0
        · exact Or.inl (o4 y).1
        · exact Or.inl (o7 (by omega)).1
    · by_cases z : K = 1 ∨ K = 2
      · rw [if_pos z]; exact Or.inr (k3 z)
      · rw [if_neg z]; exact Or.inl rfl
    · by_cases z : 4 ≤ K
      · rw [if_pos z]
        by_cases y : K = 4
        · exact Or.inl (o6 (Or.inr y)).2.1
        · exact Or.inr (k4 (by omega))
      · rw [if_neg z]; exact Or.inl rfl
  · rintro ⟨h1, h2, h3, h4, h5⟩
    refine ⟨fun z => ?_, fun z => ?_, fun z => ?_, fun z => ?_⟩
    · rw [if_pos z] at h1 h2; exact ⟨h1, h2⟩
    · refine h3.resolve_left (fun y => ?_)
      by_cases q : K = 3 ∨ K = 4
      · have := (o6 q).1; omega
      · have := (o5 (by omega)).1; omega
    · rw [if_pos z] at h4
      refine h4.resolve_left (fun y => ?_)
      have := (o5 (by omega)).2.1; omega
    · rw [if_pos (by omega)] at h5
      refine h5.resolve_left (fun y => ?_)
      by_cases q : 7 ≤ K
      · have := (o7 q).2.1; omega
      · have := (o5 (by omega)).2.1; omega
theorem c_knows (hW : WF S) (hC : CS σ S e) (ho : rdO K D b c d w) (hE : EF σ a K D b c d w) (ob : xm_obj σ (a : Int) 2) : f_X7_knowsAllNamedBy σ (a : Int) = some (σ, xb (kwn S K b c d)) := by
  obtain ⟨e0, e1, e2, e3, e4, e5, e6, _⟩ := hE
  rw [xb_congr (kwn_eq ho)]
  unfold f_X7_knowsAllNamedBy
  rw [if_pos ob]
  simp only [Int.toNat_natCast]
  rw [e4, c_knowsP hW hC, Option.bind_some]
  try dsimp only
  rw [xbi]
  generalize (if K = 0 then c else -1) = y4 at e4 ⊢
  by_cases q4 : y4 = -1 ∨ isP S y4
  · rw [if_pos q4, if_pos ob, e5, c_knowsP hW hC, Option.bind_some]
    try dsimp only
    rw [xbi]
    generalize (if K = 0 then d else -1) = y5 at e5 ⊢
    by_cases q5 : y5 = -1 ∨ isP S y5
    · rw [if_pos q5, if_pos ob, e2, c_knowsP hW hC, Option.bind_some]
      try dsimp only
      rw [xbi]
      by_cases q2 : b = -1 ∨ isP S b
      · rw [if_pos q2, if_pos ob, e3, c_knowsP hW hC, Option.bind_some]
        try dsimp only
        rw [xbi]
        generalize (if K = 1 ∨ K = 2 then c else -1) = y3 at e3 ⊢
        by_cases q3 : y3 = -1 ∨ isP S y3
        · rw [if_pos q3, if_pos ob, e6]
          generalize (if 4 ≤ K then c else -1) = y6 at e6 ⊢
          by_cases z : y6 = -1
          · rw [if_pos z, xb_pos ⟨q4, q5, q2, q3, Or.inl z⟩]
          · rw [if_neg z, if_pos ob, r7_hasTitle hW hC, Option.bind_some]
            try dsimp only
            rw [xbi]
            by_cases q6 : isT S y6
            · rw [if_pos q6, xb_pos ⟨q4, q5, q2, q3, Or.inr q6⟩]
            · rw [if_neg q6, xb_neg (fun x => x.2.2.2.2.elim z q6)]
        · rw [if_neg q3, xb_neg (fun x => q3 x.2.2.2.1)]
      · rw [if_neg q2, xb_neg (fun x => q2 x.2.2.1)]
    · rw [if_neg q5, xb_neg (fun x => q5 x.2.1)]
  · rw [if_neg q4, xb_neg (fun x => q4 x.1)]
theorem c_room (hC : CS σ S e) (e0 : σ.1 a 0 = K) (ob : xm_obj σ (a : Int) 2) : f_X7_hasRoomFor σ (a : Int) = some (σ, xb (rom S K)) := by
  unfold f_X7_hasRoomFor rom
  simp only [if_pos ob, Int.toNat_natCast, e0, hC.1.1, hC.1.2.1, hC.1.2.2]
  by_cases h : (sn S : Int) < 200
  · rw [if_pos h]
    by_cases k0 : K = 0
    · rw [if_pos k0]
      by_cases p : (sp S : Int) < 64
      · rw [if_pos p, xb_pos ⟨by omega, fun _ => by omega, fun z => by omega⟩]
      · rw [if_neg p, xb_neg (fun z => p (by have := z.2.1 k0; omega))]
    · rw [if_neg k0]
      by_cases k4 : K = 4
      · rw [if_pos k4]
        by_cases p : (stn S : Int) < 8
        · rw [if_pos p, xb_pos ⟨by omega, fun z => absurd z k0, fun _ => by omega⟩]
        · rw [if_neg p, xb_neg (fun z => p (by have := z.2.2 k4; omega))]
      · rw [if_neg k4, xb_pos ⟨by omega, fun z => absurd z k0, fun z => absurd z k4⟩]
  · rw [if_neg h, xb_neg (fun z => h (by have := z.1; omega))]
end XR
