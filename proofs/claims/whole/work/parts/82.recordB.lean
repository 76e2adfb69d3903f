/-! ===== record: who is named, and is there room ===== -/
/-- an entry as it was read -/
def EF (σ : xm_Mem) (a : Nat) (K D b c d w : Int) : Prop := σ.1 a 0 = K ∧ σ.1 a 1 = D ∧ σ.1 a 2 = b ∧ σ.1 a 3 = (if K = 1 ∨ K = 2 then c else -1) ∧ σ.1 a 4 = (if K = 0 then c else -1) ∧ σ.1 a 5 = (if K = 0 then d else -1) ∧ σ.1 a 6 = (if 4 ≤ K then c else -1) ∧ (K = 4 → σ.1 a 7 = w) ∧ (K = 0 → σ.1 a 8 = w) ∧ σ.1 a 9 = 1
section XR
variable {σ τ : xm_Mem} {S : xS} {e : Nat → Nat} {a : Nat} {K D b c d w : Int}
theorem c_knowsP (hW : WF S) (hC : CS σ S e) (x : Int) : f_X7_knowsPerson σ x = some (σ, xb (x = -1 ∨ isP S x)) := by
  unfold f_X7_knowsPerson
  by_cases z : x = -1
  · rw [if_pos z, xb_pos (Or.inl z)]
  · rw [if_neg z, r7_hasPerson hW hC, Option.bind_some]
    try dsimp only
    rw [xbi]
    by_cases y : isP S x
    · rw [if_pos y, xb_pos (Or.inr y)]
    · rw [if_neg y, xb_neg (fun q => q.elim z y)]
theorem kwn_eq (ho : rdO K D b c d w) : kwn S K b c d ↔ (((if K = 0 then c else -1) = -1 ∨ isP S (if K = 0 then c else -1)) ∧ ((if K = 0 then d else -1) = -1 ∨ isP S (if K = 0 then d else -1)) ∧ (b = -1 ∨ isP S b) ∧ ((if K = 1 ∨ K = 2 then c else -1) = -1 ∨ isP S (if K = 1 ∨ K = 2 then c else -1)) ∧ ((if 4 ≤ K then c else -1) = -1 ∨ isT S (if 4 ≤ K then c else -1))) := by
  obtain ⟨o1, o2, o3, o4, o5, o6, o7⟩ := ho
  unfold kwn
  constructor
  · rintro ⟨k1, k2, k3, k4⟩
    refine ⟨?_, ?_, ?_, ?_, ?_⟩
    · by_cases z : K = 0
      · rw [if_pos z]; exact (k1 z).1
      · rw [if_neg z]; exact Or.inl rfl
    · by_cases z : K = 0
      · rw [if_pos z]; exact (k1 z).2
      · rw [if_neg z]; exact Or.inl rfl
    · by_cases z : 1 ≤ K ∧ K ≤ 6
      · exact Or.inr (k2 z)
      · by_cases y : K = 0
        · exact Or.inl (o4 y).1
        · exact Or.inl (o7 (by omega)).1
    · by_cases z : K = 1 ∨ K = 2
      · rw [if_pos z]; exact Or.inr (k3 z)
      · rw [if_neg z]; exact Or.inl rfl
    · by_cases z : 4 ≤ K
      · rw [if_pos z]
        by_cases y : K = 4
        · exact Or.inl (o6 (Or.inr y)).2.1
        · exact Or.inr (k4 (by omega))
      · rw [if_neg z]; exact Or.inl rfl
  · rintro ⟨h1, h2, h3, h4, h5⟩
    refine ⟨fun z => ?_, fun z => ?_, fun z => ?_, fun z => ?_⟩
    · rw [if_pos z] at h1 h2; exact ⟨h1, h2⟩
    · refine h3.resolve_left (fun y => ?_)
      by_cases q : K = 3 ∨ K = 4
      · have := (o6 q).1; omega
      · have := (o5 (by omega)).1; omega
    · rw [if_pos z] at h4
      refine h4.resolve_left (fun y => ?_)
      have := (o5 (by omega)).2.1; omega
    · rw [if_pos (by omega)] at h5
      refine h5.resolve_left (fun y => ?_)
      by_cases q : 7 ≤ K
      · have := (o7 q).2.1; omega
      · have := (o5 (by omega)).2.1; omega
theorem c_knows (hW : WF S) (hC : CS σ S e) (ho : rdO K D b c d w) (hE : EF σ a K D b c d w) (ob : xm_obj σ (a : Int) 2) : f_X7_knowsAllNamedBy σ (a : Int) = some (σ, xb (kwn S K b c d)) := by
  obtain ⟨e0, e1, e2, e3, e4, e5, e6, _⟩ := hE
  rw [xb_congr (kwn_eq ho)]
  unfold f_X7_knowsAllNamedBy
  rw [if_pos ob]
  simp only [Int.toNat_natCast]
  rw [e4, c_knowsP hW hC, Option.bind_some]
  try dsimp only
  rw [xbi]
  generalize (if K = 0 then c else -1) = y4 at e4 ⊢
  by_cases q4 : y4 = -1 ∨ isP S y4
  · rw [if_pos q4, if_pos ob, e5, c_knowsP hW hC, Option.bind_some]
    try dsimp only
    rw [xbi]
    generalize (if K = 0 then d else -1) = y5 at e5 ⊢
    by_cases q5 : y5 = -1 ∨ isP S y5
    · rw [if_pos q5, if_pos ob, e2, c_knowsP hW hC, Option.bind_some]
      try dsimp only
      rw [xbi]
      by_cases q2 : b = -1 ∨ isP S b
      · rw [if_pos q2, if_pos ob, e3, c_knowsP hW hC, Option.bind_some]
        try dsimp only
        rw [xbi]
        generalize (if K = 1 ∨ K = 2 then c else -1) = y3 at e3 ⊢
        by_cases q3 : y3 = -1 ∨ isP S y3
        · rw [if_pos q3, if_pos ob, e6]
          generalize (if 4 ≤ K then c else -1) = y6 at e6 ⊢
          by_cases z : y6 = -1
          · rw [if_pos z, xb_pos ⟨q4, q5, q2, q3, Or.inl z⟩]
          · rw [if_neg z, if_pos ob, r7_hasTitle hW hC, Option.bind_some]
            try dsimp only
            rw [xbi]
            by_cases q6 : isT S y6
            · rw [if_pos q6, xb_pos ⟨q4, q5, q2, q3, Or.inr q6⟩]
            · rw [if_neg q6, xb_neg (fun x => x.2.2.2.2.elim z q6)]
        · rw [if_neg q3, xb_neg (fun x => q3 x.2.2.2.1)]
      · rw [if_neg q2, xb_neg (fun x => q2 x.2.2.1)]
    · rw [if_neg q5, xb_neg (fun x => q5 x.2.1)]
  · rw [if_neg q4, xb_neg (fun x => q4 x.1)]
theorem c_room (hC : CS σ S e) (e0 : σ.1 a 0 = K) (ob : xm_obj σ (a : Int) 2) : f_X7_hasRoomFor σ (a : Int) = some (σ, xb (rom S K)) := by
  unfold f_X7_hasRoomFor rom
  simp only [if_pos ob, Int.toNat_natCast, e0, hC.1.1, hC.1.2.1, hC.1.2.2]
  by_cases h : (sn S : Int) < 200
  · rw [if_pos h]
    by_cases k0 : K = 0
    · rw [if_pos k0]
      by_cases p : (sp S : Int) < 64
      · rw [if_pos p, xb_pos ⟨by omega, fun _ => by omega, fun z => by omega⟩]
      · rw [if_neg p, xb_neg (fun z => p (by have := z.2.1 k0; omega))]
    · rw [if_neg k0]
      by_cases k4 : K = 4
      · rw [if_pos k4]
        by_cases p : (stn S : Int) < 8
        · rw [if_pos p, xb_pos ⟨by omega, fun z => absurd z k0, fun _ => by omega⟩]
        · rw [if_neg p, xb_neg (fun z => p (by have := z.2.2 k4; omega))]
      · rw [if_neg k4, xb_pos ⟨by omega, fun z => absurd z k0, fun z => absurd z k4⟩]
  · rw [if_neg h, xb_neg (fun z => h (by have := z.1; omega))]
theorem m_names (hW : WF S) (hM : MS τ S) (ho : rdO K D b c d w) (hF : FL τ K D b c d w) : f_X11_namesThoseThere τ = some (τ, xb (kwn S K b c d)) := by
  obtain ⟨f0, f1, f2, f3, f4, f5⟩ := hF
  obtain ⟨o1, o2, o3, o4, o5, o6, o7⟩ := ho
  unfold f_X11_namesThoseThere f_X11_namesThoseThere_j65 f_X11_namesThoseThere_j70 f_X11_namesThoseThere_j89 f_X11_namesThoseThere_j25
  simp only [f0, f2, f3, f4, m_isPerson hW hM, m_isTitle hW hM, Option.bind_some, xbi]
  by_cases k0 : K = 0
  · rw [if_pos k0]
    obtain ⟨_, b1, b2, _⟩ := o4 k0
    have key : kwn S K b c d ↔ (c < 0 ∨ isP S c) ∧ (d < 0 ∨ isP S d) := by
      unfold kwn
      constructor
      · rintro ⟨k1, _⟩
        exact ⟨(k1 k0).1.imp (fun z => by omega) id, (k1 k0).2.imp (fun z => by omega) id⟩
      · rintro ⟨h1, h2⟩
        exact ⟨fun _ => ⟨h1.imp (fun z => by omega) id, h2.imp (fun z => by omega) id⟩, fun z => by omega, fun z => by omega, fun z => by omega⟩
    rw [xb_congr key]
    by_cases c1 : c < 0
    · rw [if_pos c1]
      by_cases d1 : d < 0
      · rw [if_pos d1, xb_pos ⟨Or.inl c1, Or.inl d1⟩]
      · rw [if_neg d1]
        by_cases d2 : isP S d
        · rw [if_pos d2, xb_pos ⟨Or.inl c1, Or.inr d2⟩]
        · rw [if_neg d2, xb_neg (fun z => z.2.elim d1 d2)]
    · rw [if_neg c1]
      by_cases c2 : isP S c
      · rw [if_pos c2]
        by_cases d1 : d < 0
        · rw [if_pos d1, xb_pos ⟨Or.inr c2, Or.inl d1⟩]
        · rw [if_neg d1]
          by_cases d2 : isP S d
          · rw [if_pos d2, xb_pos ⟨Or.inr c2, Or.inr d2⟩]
          · rw [if_neg d2, xb_neg (fun z => z.2.elim d1 d2)]
      · rw [if_neg c2, xb_neg (fun z => z.1.elim c1 c2)]
  · rw [if_neg k0]
    by_cases k12 : K = 1 ∨ K = 2
    · have y := o5 (by omega)
      have key : kwn S K b c d ↔ isP S b ∧ isP S c := by
        unfold kwn
        exact ⟨fun h => ⟨h.2.1 (by omega), h.2.2.1 k12⟩, fun h => ⟨fun z => absurd z k0, fun _ => h.1, fun _ => h.2, fun z => by omega⟩⟩
      rw [xb_congr key]
      have e1 : ¬ b < 0 := by omega
      have e2 : ¬ c < 0 := by omega
      have e3 : ¬ (1 : Int) = 0 := by decide
      (try simp only [if_neg e1, if_neg e2, if_neg e3])
      have R : (@ite _ (isP S b) (Classical.propDecidable _) (@ite _ (isP S c) (Classical.propDecidable _) (some (τ, (1 : Int))) (some (τ, 0))) (some (τ, 0))) = some (τ, xb (isP S b ∧ isP S c)) := by
        by_cases q1 : isP S b
        · rw [if_pos q1]
          by_cases q2 : isP S c
          · rw [if_pos q2, xb_pos ⟨q1, q2⟩]
          · rw [if_neg q2, xb_neg (fun z => q2 z.2)]
        · rw [if_neg q1, xb_neg (fun z => q1 z.1)]
      by_cases k1 : K = 1
      · rw [if_pos k1]; exact R
      · rw [if_neg k1, if_pos (k12.resolve_left k1)]; exact R
    · rw [if_neg (fun z => k12 (Or.inl z)), if_neg (fun z => k12 (Or.inr z))]
      simp only [if_true]
      have key : kwn S K b c d ↔ (b < 0 ∨ isP S b) ∧ (c < 0 ∨ isT S c) := by
        unfold kwn
        constructor
        · rintro ⟨_, k2, _, k4⟩
          constructor
          · by_cases z : 7 ≤ K
            · exact Or.inl (by have := (o7 z).1; omega)
            · exact Or.inr (k2 (by omega))
          · by_cases z : 5 ≤ K
            · exact Or.inr (k4 z)
            · exact Or.inl (by have := (o6 (by omega)).2.1; omega)
        · rintro ⟨h1, h2⟩
          refine ⟨fun z => absurd z k0, fun z => h1.resolve_left (fun y => ?_), fun z => absurd z k12, fun z => h2.resolve_left (fun y => ?_)⟩
          · by_cases q : K = 3 ∨ K = 4
            · have := (o6 q).1; omega
            · have := (o5 (by omega)).1; omega
          · by_cases q : 7 ≤ K
            · have := (o7 q).2.1; omega
            · have := (o5 (by omega)).2.1; omega
      rw [xb_congr key]
      by_cases b1 : b < 0
      · rw [if_pos b1]
        by_cases c1 : c < 0
        · rw [if_pos c1, xb_pos ⟨Or.inl b1, Or.inl c1⟩]
        · rw [if_neg c1]
          by_cases c2 : isT S c
          · rw [if_pos c2, xb_pos ⟨Or.inl b1, Or.inr c2⟩]
          · rw [if_neg c2, xb_neg (fun z => z.2.elim c1 c2)]
      · rw [if_neg b1]
        by_cases b2 : isP S b
        · rw [if_pos b2]
          by_cases c1 : c < 0
          · rw [if_pos c1, xb_pos ⟨Or.inr b2, Or.inl c1⟩]
          · rw [if_neg c1]
            by_cases c2 : isT S c
            · rw [if_pos c2, xb_pos ⟨Or.inr b2, Or.inr c2⟩]
            · rw [if_neg c2, xb_neg (fun z => z.2.elim c1 c2)]
        · rw [if_neg b2, xb_neg (fun z => z.1.elim b1 b2)]
end XR
