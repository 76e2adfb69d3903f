/-! ===== the title of the first man: its steps ===== -/
def TW (S : xS) (fr ρ : Int) : Prop := FM S ∧ stn S = 1 ∧ (ow S 0 = 0 ∧ oD S 0 = fr ∧ rl S 0 = ρ) ∧ (0 ≤ ρ ∧ ρ ≤ 4) ∧ wMale S 0
/-- who has it: one of the line, or nobody, and the line is empty -/
def HL (S : xS) (A : Nat → Nat) (n : Nat) (d s : Int) : Prop := (s = -1 ∧ line S A n 0 d 0 = []) ∨ (0 ≤ s ∧ s.toNat ∈ line S A n 0 d 0)
noncomputable def dS (S : xS) (A : Nat → Nat) (n : Nat) (s h d : Int) : Int := @ite _ (must S 0 s d) (Classical.propDecidable _) (hdI (line S A n 0 d 0)) (bornA S A n 0 d 0 s h)
section XST
variable {S : xS} {A : Nat → Nat} {n : Nat} {m : Nat → Int64} {fr ρ : Int}
theorem tw_T (h : TW S fr ρ) : isT S ((0 : Nat) : Int) := by
  have h0 : 0 < stn S := by rw [h.2.1]; decide
  exact ⟨by decide, by show ((0 : Nat) : Int) < stn S; omega, (h.1.2 _ (h.1.1.1.2.2.2 0 h0).1).1⟩
theorem tw_0 (h : TW S fr ρ) : isP S ((0 : Nat) : Int) := by
  have := (ow_ok h.1.1 (tw_T h)).1
  rw [h.2.2.1.1] at this
  exact this
theorem tw_lost (h : TW S fr ρ) (d : Int) : ¬ lostP S 0 d ∧ ¬ backP S 0 d := by
  refine ⟨fun z => ?_, fun z => ?_⟩
  · obtain ⟨b, b1, _⟩ := z
    have := (h.1.2 b b1.1.1).2
    have := b1.1.2.2.1
    omega
  · obtain ⟨b, b1, _⟩ := z
    have := (h.1.2 b b1.1.1).2
    have := b1.1.2.2.1
    omega
theorem tw_call (h : TW S fr ρ) (d : Int) (r : Nat) : ¬ callR S A n 0 d r < sn S := fun z => by
  have := (callR_ok h.1.1 z).1.2.1
  have := (h.1.2 _ z).2
  omega
theorem ldx_none {P : Nat → Prop} {f : Nat → Int} {a : Int} : ∀ n, (∀ i, i < n → ¬ P i) → ldx P f a n = a := by
  intro n
  induction n with
  | zero => intro _; rfl
  | succ n ih => intro hn; rw [ldx_no (hn n (Nat.lt_succ_self n))]; exact ih (fun i hi => hn i (by omega))
theorem fm_yl (h : FM S) (t p : Nat) : wYl S t p = 100000 := ldx_none _ (fun i hi z => by
  have := (h.2 i hi).2
  have := z.2.1
  omega)
theorem tw_cnt (h : TW S fr ρ) {d : Int} (hd : d ≤ 99999) (q : Nat) : cnt S 0 d q ↔ (wBorn S q ≤ d ∧ (wDead S q < 0 ∨ d < wDead S q)) ∧ (ρ ≠ 0 ∨ wMale S q) := by
  unfold cnt
  rw [fm_yl h.1, h.2.2.1.2.2]
  constructor
  · rintro ⟨a, _, c⟩; exact ⟨a, c⟩
  · rintro ⟨a, c⟩; exact ⟨a, by omega, c⟩
theorem tw_must (h : TW S fr ρ) {d : Int} (hd : d ≤ 99999) (s : Int) : must S 0 s d ↔ s < 0 ∨ ¬ alv S s.toNat d := by
  unfold must
  rw [fm_yl h.1]
  constructor
  · rintro (a | a | a)
    · exact Or.inl a
    · exact Or.inr a
    · omega
  · rintro (a | a)
    · exact Or.inl a
    · exact Or.inr (Or.inl a)
theorem psR_0 (h : TW S fr ρ) (d : Int) : psR S A n 0 d 0 = 0 := by
  unfold psR
  rw [h.2.2.1.1, if_neg (fun z => z.2 rfl)]
theorem psS_0 (h : TW S fr ρ) (d : Int) : psS S A n m 0 d 0 = hdI (line S A n 0 d 0) := by
  unfold psS
  rw [psR_0 h, h.2.2.1.2.2]
  have := h.2.2.2.1
  rw [if_neg (show ¬ ρ = 5 by omega)]
  generalize line S A n 0 d 0 = L
  cases L with
  | nil => rfl
  | cons c l => rfl
theorem dP_0 (h : TW S fr ρ) (x : xC) (hx : x.2.1 = 0) (d : Int) : dP S A n m 0 x d = (dS S A n x.1 x.2.2 d, 0, if dS S A n x.1 x.2.2 d = x.1 then x.2.2 else d) := by
  obtain ⟨s, r, hh⟩ := x
  have hx' : r = 0 := hx
  subst hx'
  have e1 : dP1 S A n m 0 (s, 0, hh) d = (s, 0, hh) := by unfold dP1; rw [if_neg (tw_lost h d).2]
  have e2 : dP2 S A n m 0 (s, 0, hh) d = (dS S A n s hh d, 0) := by
    unfold dP2 dS
    by_cases hm : must S 0 s d
    · rw [if_pos hm, if_pos hm]
      show (psS S A n m 0 d 0, psR S A n 0 d 0) = _
      rw [psS_0 h, psR_0 h]
    · rw [if_neg hm, if_neg hm]
  have e3 : dP3 S A n 0 (dS S A n s hh d, 0) d = (dS S A n s hh d, 0) := by
    unfold dP3
    rw [if_neg (fun z => tw_call h d _ z.2)]
  unfold dP
  rw [if_neg (tw_lost h d).1, e1, e2, e3]
theorem stp_r (h : TW S fr ρ) : ∀ k, (stp S A n m 0 k).2.2.1 = 0 := by
  intro k
  induction k with
  | zero =>
    show (dP S A n m 0 ((ow S 0 : Int), ow S 0, oD S 0) (oD S 0)).2.1 = 0
    rw [dP_0 h _ h.2.2.1.1]
  | succ k ih =>
    show (dP S A n m 0 (stp S A n m 0 k).2 _).2.1 = 0
    rw [dP_0 h _ ih]
theorem stp_0 (h : TW S fr ρ) : stp S A n m 0 0 = (fr, dS S A n 0 fr fr, 0, fr) := by
  show (oD S 0, dP S A n m 0 ((ow S 0 : Int), ow S 0, oD S 0) (oD S 0)) = _
  rw [dP_0 h _ h.2.2.1.1, h.2.2.1.1, h.2.2.1.2.1]
  show (fr, dS S A n 0 fr fr, 0, if dS S A n 0 fr fr = 0 then fr else fr) = _
  rw [ite_self]
theorem stp_s (h : TW S fr ρ) (k : Nat) : stp S A n m 0 (k + 1) = (nxD S 0 (stp S A n m 0 k).1, dS S A n (stp S A n m 0 k).2.1 (stp S A n m 0 k).2.2.2 (nxD S 0 (stp S A n m 0 k).1), 0, if dS S A n (stp S A n m 0 k).2.1 (stp S A n m 0 k).2.2.2 (nxD S 0 (stp S A n m 0 k).1) = (stp S A n m 0 k).2.1 then (stp S A n m 0 k).2.2.2 else nxD S 0 (stp S A n m 0 k).1) := by
  show (nxD S 0 (stp S A n m 0 k).1, dP S A n m 0 (stp S A n m 0 k).2 (nxD S 0 (stp S A n m 0 k).1)) = _
  rw [dP_0 h _ (stp_r h k)]
theorem getD_in {L : List Nat} {k : Nat} (h : k < L.length) : L.getD k 0 ∈ L := by
  rw [List.getD_eq_getElem?_getD, List.getElem?_eq_getElem h]
  exact List.getElem_mem h
theorem dS_HL (h : TW S fr ρ) {s hh d : Int} (hd : d ≤ 99999) (hs : s < 0 ∨ (s.toNat ∈ ord S A n ρ 0 ∧ (ρ ≠ 0 ∨ wMale S s.toNat))) : HL S A n d (dS S A n s hh d) := by
  unfold dS
  by_cases hm : must S 0 s d
  · rw [if_pos hm]
    unfold HL
    generalize line S A n 0 d 0 = L
    cases L with
    | nil => exact Or.inl ⟨rfl, rfl⟩
    | cons c l => exact Or.inr ⟨by show (0 : Int) ≤ (c : Int); omega, by show ((c : Nat) : Int).toNat ∈ c :: l; rw [Int.toNat_natCast]; exact List.mem_cons_self⟩
  · rw [if_neg hm]
    rw [tw_must h hd] at hm
    have h0 : ¬ s < 0 := fun z => hm (Or.inl z)
    have ha : alv S s.toNat d := Classical.byContradiction (fun z => hm (Or.inr z))
    have hso := hs.resolve_left h0
    have hin : s.toNat ∈ line S A n 0 d 0 := line_mem.mpr ⟨by rw [h.2.2.1.2.2]; exact hso.1, (tw_cnt h hd _).mpr ⟨ha, hso.2⟩⟩
    have hpl := plc_rg (line S A n 0 d 0) s
    unfold bornA
    split
    · rename_i hl
      refine Or.inr ⟨by omega, ?_⟩
      rw [Int.toNat_natCast]
      exact getD_in (by omega)
    · exact Or.inr ⟨by omega, hin⟩
theorem HL_ord (h : TW S fr ρ) {d s : Int} (hd : d ≤ 99999) (g : HL S A n d s) : s < 0 ∨ (s.toNat ∈ ord S A n ρ 0 ∧ (ρ ≠ 0 ∨ wMale S s.toNat)) := by
  rcases g with ⟨z, _⟩ | ⟨_, z⟩
  · exact Or.inl (by omega)
  · have := line_mem.mp z
    rw [h.2.2.1.2.2] at this
    exact Or.inr ⟨this.1, ((tw_cnt h hd _).mp this.2).2⟩
theorem stp_HL (h : TW S fr ρ) (hA : AGE S A n) (hfr : fr ≤ 99999) : ∀ k, (stp S A n m 0 k).1 ≤ 99999 → HL S A n (stp S A n m 0 k).1 (stp S A n m 0 k).2.1 := by
  intro k
  induction k with
  | zero =>
    intro _
    rw [stp_0 h]
    exact dS_HL h hfr (Or.inr ⟨root_ord h.1.1 hA (tw_0 h), Or.inr h.2.2.2.2⟩)
  | succ k ih =>
    intro hk
    have hlt : (stp S A n m 0 k).1 ≤ 99999 := by
      rw [stp_s h] at hk
      have hk' : nxD S 0 (stp S A n m 0 k).1 ≤ 99999 := hk
      rcases (nxD_spec (t := 0) h.1.1.1 (stp S A n m 0 k).1).2.1 with z | ⟨r, r1, r2, r3, r4⟩
      · omega
      · omega
    have g := ih hlt
    rw [stp_s h] at hk ⊢
    exact dS_HL h hk (HL_ord h hlt g)
/-- each step's day is a record's -/
theorem stp_rec (h : TW S fr ρ) : ∀ k, (stp S A n m 0 k).1 ≤ 99999 → ∃ r, r < sn S ∧ (stp S A n m 0 k).1 = wD S r := by
  intro k
  cases k with
  | zero =>
    intro _
    exact ⟨stb S 0, (h.1.1.1.2.2.2 0 (by rw [h.2.1]; decide)).1, rfl⟩
  | succ k =>
    intro hk
    rw [stp_s h] at hk ⊢
    have hk' : nxD S 0 (stp S A n m 0 k).1 ≤ 99999 := hk
    rcases (nxD_spec (t := 0) h.1.1.1 (stp S A n m 0 k).1).2.1 with z | ⟨r, r1, r2, r3, r4⟩
    · omega
    · exact ⟨r, r1, r4⟩
/-- behind all that is told: the last step -/
theorem late_K (h : TW S fr ρ) {X : Int} (hX : ∀ r, r < sn S → wD S r ≤ X) : sK_ S A n m 0 X = ((NS S A n m 0 - 1 : Nat) : Int) := by
  obtain ⟨_, _, n3, n4⟩ := NS_ok (A := A) (n := n) (m := m) h.1.1 (tw_T h)
  have hle : ∀ k, k < NS S A n m 0 → (stp S A n m 0 k).1 ≤ X := fun k hk => by
    obtain ⟨r, r1, r2⟩ := stp_rec h k (n3 k hk)
    rw [r2]; exact hX r r1
  rcases sK_rg S A n m 0 X with ⟨_, z⟩ | ⟨k, k1, _, k3, k4⟩
  · exact absurd (hle 0 n4) (z 0 n4)
  · rw [k3]
    have : k = NS S A n m 0 - 1 := by
      apply Classical.byContradiction
      intro hne
      exact k4 (NS S A n m 0 - 1) (by omega) (by omega) (hle _ (by omega))
    rw [this]
theorem late_all (h : TW S fr ρ) (hA : AGE S A n) {X : Int} (hX : ∀ r, r < sn S → wD S r ≤ X) (hX9 : X ≤ 99999) : holdA S A n m 0 X = (stp S A n m 0 (NS S A n m 0 - 1)).2.1 ∧ lineA S A n m 0 X = line S A n 0 X 0 ∧ sncA S A n m 0 X = (stp S A n m 0 (NS S A n m 0 - 1)).2.2.2 ∧ HL S A n X (holdA S A n m 0 X) := by
  have e := late_K (A := A) (n := n) (m := m) h hX
  obtain ⟨n1, n2, n3, n4⟩ := NS_ok (A := A) (n := n) (m := m) h.1.1 (tw_T h)
  have e1 : holdA S A n m 0 X = (stp S A n m 0 (NS S A n m 0 - 1)).2.1 := by
    unfold holdA
    rw [e, if_neg (by omega), Int.toNat_natCast]
  refine ⟨e1, ?_, ?_, ?_⟩
  · unfold lineA rtA
    rw [e, if_neg (by omega), Int.toNat_natCast, stp_r h]
  · unfold sncA
    rw [e, if_neg (by omega), Int.toNat_natCast]
  · have hl := n3 (NS S A n m 0 - 1) (by omega)
    have g := stp_HL (A := A) (n := n) (m := m) h hA (by
      have := (h.1.1.1.day (h.1.1.1.2.2.2 0 (by rw [h.2.1]; decide)).1).2
      have e : wD S (stb S 0) = fr := h.2.2.1.2.1
      omega) _ hl
    obtain ⟨r, r1, r2⟩ := stp_rec h _ hl
    have hno := (sK_no (A := A) (n := n) (m := m) h.1.1 (tw_T h) hX9 e).2.2
    have es := line_same (t := 0) h.1.1 hA (tw_T h) (D := (stp S A n m 0 (NS S A n m 0 - 1)).1) (d := X) (by rw [r2]; exact hX r r1) hX9 hno (tw_0 h)
    unfold HL
    rw [e1, es]
    exact g
end XST
