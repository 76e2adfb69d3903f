/-! ===== the reference's reader ===== -/
theorem u1_id {σ : xm_Mem} {a k : Nat} {v : Int} (h : σ.1 a k = v) : xm_u1 σ a k v = σ := by
  refine mem_ext (fun b j => ?_) rfl
  rw [xu11]
  split
  · rename_i e; rw [e.1, e.2, h]
  · rfl
def TM (τ : xm_Mem) (B : Nat → Int) (s : Nat) : Prop := τ.1 84 1 = (s : Int) ∧ ∀ k, k < s → τ.1 85 k = B k
def frk (Q : Nat → Prop) (σ σ' : xm_Mem) : Prop := (∀ a k, ¬ (a = 84 ∧ Q k) → σ'.1 a k = σ.1 a k) ∧ σ'.2 = σ.2
theorem frk.rf (Q : Nat → Prop) (σ : xm_Mem) : frk Q σ σ := ⟨fun _ _ _ => rfl, rfl⟩
theorem frk.tr {Q : Nat → Prop} {σ σ' σ'' : xm_Mem} (h : frk Q σ σ') (g : frk Q σ' σ'') : frk Q σ σ'' := ⟨fun a k n => (g.1 a k n).trans (h.1 a k n), g.2.trans h.2⟩
theorem frk.mono {P Q : Nat → Prop} {σ σ' : xm_Mem} (h : frk P σ σ') (hi : ∀ k, P k → Q k) : frk Q σ σ' := ⟨fun a k n => h.1 a k (fun z => n ⟨z.1, hi k z.2⟩), h.2⟩
theorem frk.u1 {Q : Nat → Prop} {σ σ' : xm_Mem} (h : frk Q σ σ') {k : Nat} {v : Int} (hk : Q k) : frk Q σ (xm_u1 σ' 84 k v) := by
  refine ⟨fun b j n => ?_, h.2⟩
  rw [xu11, if_neg (fun z : b = 84 ∧ j = k => n ⟨z.1, by rw [z.2]; exact hk⟩)]
  exact h.1 b j n
def qN (k : Nat) : Prop := 39 ≤ k ∧ k ≤ 43
def qR (k : Nat) : Prop := (39 ≤ k ∧ k ≤ 43) ∨ k = 50
def qA (k : Nat) : Prop := 39 ≤ k ∧ k ≤ 50
theorem TM.frk {τ τ' : xm_Mem} {B : Nat → Int} {s : Nat} (h : TM τ B s) (g : frk qA τ τ') : TM τ' B s :=
  ⟨by rw [g.1 84 1 (fun z => by have := z.2; unfold qA at this; omega)]; exact h.1, fun k hk => by rw [g.1 85 k (fun z => by omega)]; exact h.2 k hk⟩
def TK (τ : xm_Mem) (B : Nat → Int) (s p : Nat) : Prop := τ.1 84 41 = (skp B s p : Int) ∧ τ.1 84 39 = (nP B s p : Int) ∧
  (skp B s p = s → τ.1 84 40 = 0) ∧ (skp B s p < s → τ.1 84 42 = (nP B s p : Int) ∧ (isL B (skp B s p) → τ.1 84 40 = 2) ∧ (¬ isL B (skp B s p) → ¬ nok B s p → τ.1 84 40 = 1) ∧ (nok B s p → τ.1 84 40 = 3 ∧ τ.1 84 43 = nV B s p))
section XQ
variable {τ : xm_Mem} {B : Nat → Int} {s p : Nat}
theorem m_isIn' (x a b : Int) : f_X11_isIn τ x a b = some (τ, xb (a ≤ x ∧ x ≤ b)) := by
  unfold f_X11_isIn
  (repeat' split) <;> first | (rw [xb_pos (by omega)]; done) | (rw [xb_neg (by omega)]; done)
theorem m_l0 (K : xm_Mem → Option xm_Out) (hB : isB B s) (hM : TM τ B s) (hp : p ≤ s) (h39 : τ.1 84 39 = (p : Int)) : f_X11_next_l0 K xm_fuel τ = K (xm_u1 τ 84 39 (skp B s p : Int)) := by
  have h80 := hB.1
  unfold f_X11_next_l0
  have st : τ = xm_u1 τ 84 39 (p : Int) := (u1_id h39).symm
  have go : xm_it (f_X11_next_b0 K) (fun _ => none) xm_fuel (xm_u1 τ 84 39 (p : Int)) = K (xm_u1 τ 84 39 (skp B s p : Int)) := by
    refine it_T (γ := Nat) _ _ (fun (g : xm_Mem → Option xm_Out) i => g (xm_u1 τ 84 39 (i : Int))) (fun i => (p ≤ i ∧ i ≤ s) ∧ ∀ k, p ≤ k → k < i → B k = 32) (fun i => s - i) (fun z => z = K (xm_u1 τ 84 39 (skp B s p : Int))) ?_ xm_fuel p ⟨⟨Nat.le_refl _, hp⟩, fun k h1 h2 => absurd h2 (by omega)⟩ (xfu (by omega))
    rintro self i ⟨hi, hL⟩ ih
    show f_X11_next_b0 K self (xm_u1 τ 84 39 (i : Int)) = _
    unfold f_X11_next_b0
    have e39 : (xm_u1 τ 84 39 (i : Int)).1 84 39 = (i : Int) := by simp [xu11]
    have e1 : (xm_u1 τ 84 39 (i : Int)).1 84 1 = (s : Int) := by simp [xu11, hM.1]
    simp only [e39, e1, xvl, xst, u1_u1]
    by_cases h : i < s
    · have e85 : (xm_u1 τ 84 39 (i : Int)).1 85 i = B i := by rw [xu11, if_neg (by omega)]; exact hM.2 i h
      rw [if_pos (by omega), if_pos ⟨by omega, by omega⟩, Int.toNat_natCast, e85]
      by_cases l : B i = 32
      · rw [if_pos l, xw1 (by omega)]
        refine ih (i + 1) ⟨⟨by omega, h⟩, fun k h1 h2 => ?_⟩ (by omega)
        by_cases e : k = i
        · subst e; exact l
        · exact hL k h1 (by omega)
      · rw [if_neg l]
        have e : skp B s p = i := run_eq hi.1 (by omega) hL (fun _ => l)
        rw [e]
    · rw [if_neg (by omega)]
      have e : skp B s p = i := run_eq hi.1 (by omega) hL (fun z => absurd z (by omega))
      rw [e]
  exact Eq.trans (congrArg (fun x => xm_it (f_X11_next_b0 K) (fun _ => none) xm_fuel x) st) go
theorem m_l121 (K : xm_Mem → Option xm_Out) (hB : isB B s) (hM : TM τ B s) (hp : p ≤ s) (h39 : τ.1 84 39 = (p : Int)) : f_X11_next_l121 K xm_fuel τ = K (xm_u1 τ 84 39 (run (isL B) (s - p) p : Int)) := by
  have h80 := hB.1
  unfold f_X11_next_l121
  have st : τ = xm_u1 τ 84 39 (p : Int) := (u1_id h39).symm
  have go : xm_it (f_X11_next_b121 K) (fun _ => none) xm_fuel (xm_u1 τ 84 39 (p : Int)) = K (xm_u1 τ 84 39 (run (isL B) (s - p) p : Int)) := by
    refine it_T (γ := Nat) _ _ (fun (g : xm_Mem → Option xm_Out) i => g (xm_u1 τ 84 39 (i : Int))) (fun i => (p ≤ i ∧ i ≤ s) ∧ ∀ k, p ≤ k → k < i → isL B k) (fun i => s - i) (fun z => z = K (xm_u1 τ 84 39 (run (isL B) (s - p) p : Int))) ?_ xm_fuel p ⟨⟨Nat.le_refl _, hp⟩, fun k h1 h2 => absurd h2 (by omega)⟩ (xfu (by omega))
    rintro self i ⟨hi, hL⟩ ih
    show f_X11_next_b121 K self (xm_u1 τ 84 39 (i : Int)) = _
    unfold f_X11_next_b121
    have e39 : (xm_u1 τ 84 39 (i : Int)).1 84 39 = (i : Int) := by simp [xu11]
    have e1 : (xm_u1 τ 84 39 (i : Int)).1 84 1 = (s : Int) := by simp [xu11, hM.1]
    simp only [e39, e1, xvl, m_isIn', Option.bind_some, xbi, xst, u1_u1]
    by_cases h : i < s
    · have e85 : (xm_u1 τ 84 39 (i : Int)).1 85 i = B i := by rw [xu11, if_neg (by omega)]; exact hM.2 i h
      rw [if_pos (by omega), if_pos ⟨by omega, by omega⟩, Int.toNat_natCast, e85]
      by_cases l : 97 ≤ B i ∧ B i ≤ 122
      · rw [if_pos l, xw1 (by omega)]
        refine ih (i + 1) ⟨⟨by omega, h⟩, fun k h1 h2 => ?_⟩ (by omega)
        by_cases e : k = i
        · subst e; exact l
        · exact hL k h1 (by omega)
      · rw [if_neg l]
        have e : run (isL B) (s - p) p = i := run_eq hi.1 (by omega) hL (fun _ => l)
        rw [e]
    · rw [if_neg (by omega)]
      have e : run (isL B) (s - p) p = i := run_eq hi.1 (by omega) hL (fun z => absurd z (by omega))
      rw [e]
  exact Eq.trans (congrArg (fun x => xm_it (f_X11_next_b121 K) (fun _ => none) xm_fuel x) st) go
theorem m_l172 (K : xm_Mem → Option xm_Out) (hB : isB B s) (hM : TM τ B s) (hp : p ≤ s) (h39 : τ.1 84 39 = (p : Int)) (h41 : τ.1 84 41 = (p : Int)) (h43 : τ.1 84 43 = 0) : ∃ v, f_X11_next_l172 K xm_fuel τ = K (xm_u1 (xm_u1 τ 84 43 v) 84 39 (run (isG B) (s - p) p : Int)) ∧ (run (isG B) (s - p) p - p ≤ 5 → v = nv B p (run (isG B) (s - p) p - p)) := by
  have h80 := hB.1
  unfold f_X11_next_l172
  have st : τ = xm_u1 (xm_u1 τ 84 43 (nv B p 0)) 84 39 ((p + 0 : Nat) : Int) := by
    rw [show nv B p 0 = 0 from rfl, u1_id h43]; exact (u1_id h39).symm
  have go : ∃ v, xm_it (f_X11_next_b172 K) (fun _ => none) xm_fuel (xm_u1 (xm_u1 τ 84 43 (nv B p 0)) 84 39 ((p + 0 : Nat) : Int)) = K (xm_u1 (xm_u1 τ 84 43 v) 84 39 (run (isG B) (s - p) p : Int)) ∧ (run (isG B) (s - p) p - p ≤ 5 → v = nv B p (run (isG B) (s - p) p - p)) := by
    refine it_T (γ := Nat) _ _ (fun (g : xm_Mem → Option xm_Out) i => g (xm_u1 (xm_u1 τ 84 43 (nv B p (min i 5))) 84 39 ((p + i : Nat) : Int))) (fun i => p + i ≤ s ∧ ∀ k, p ≤ k → k < p + i → isG B k) (fun i => s - i) (fun z => ∃ v, z = K (xm_u1 (xm_u1 τ 84 43 v) 84 39 (run (isG B) (s - p) p : Int)) ∧ (run (isG B) (s - p) p - p ≤ 5 → v = nv B p (run (isG B) (s - p) p - p))) ?_ xm_fuel 0 ⟨by omega, fun k h1 h2 => absurd h2 (by omega)⟩ (xfu (by omega))
    rintro self i ⟨hi, hL⟩ ih
    show ∃ v, f_X11_next_b172 K self (xm_u1 (xm_u1 τ 84 43 (nv B p (min i 5))) 84 39 ((p + i : Nat) : Int)) = _ ∧ _
    unfold f_X11_next_b172 f_X11_next_j243
    have e39 : (xm_u1 (xm_u1 τ 84 43 (nv B p (min i 5))) 84 39 ((p + i : Nat) : Int)).1 84 39 = ((p + i : Nat) : Int) := by simp [xu11]
    have e41 : (xm_u1 (xm_u1 τ 84 43 (nv B p (min i 5))) 84 39 ((p + i : Nat) : Int)).1 84 41 = (p : Int) := by simp [xu11, h41]
    have e43 : (xm_u1 (xm_u1 τ 84 43 (nv B p (min i 5))) 84 39 ((p + i : Nat) : Int)).1 84 43 = nv B p (min i 5) := by simp [xu11]
    have e1 : (xm_u1 (xm_u1 τ 84 43 (nv B p (min i 5))) 84 39 ((p + i : Nat) : Int)).1 84 1 = (s : Int) := by simp [xu11, hM.1]
    have w39 : ∀ x, (xm_u1 (xm_u1 (xm_u1 τ 84 43 (nv B p (min i 5))) 84 39 ((p + i : Nat) : Int)) 84 43 x).1 84 39 = ((p + i : Nat) : Int) := fun x => by simp [xu11]
    have sh : ∀ x y, xm_u1 (xm_u1 (xm_u1 (xm_u1 τ 84 43 (nv B p (min i 5))) 84 39 ((p + i : Nat) : Int)) 84 43 x) 84 39 y = xm_u1 (xm_u1 τ 84 43 x) 84 39 y := fun x y => by
      rw [u1_cm (a := 84) (k := 39) (b := 84) (j := 43) (by decide), u1_u1, u1_u1]
    simp only [e39, e1, e41, e43, xvl, m_isIn', Option.bind_some, xbi, xst, w39, sh]
    by_cases h : p + i < s
    · have e85 : (xm_u1 (xm_u1 τ 84 43 (nv B p (min i 5))) 84 39 ((p + i : Nat) : Int)).1 85 (p + i) = B (p + i) := by rw [xu11, if_neg (by omega), xu11, if_neg (by omega)]; exact hM.2 _ h
      rw [if_pos (by omega), if_pos ⟨by omega, by omega⟩, Int.toNat_natCast, e85]
      by_cases l : 48 ≤ B (p + i) ∧ B (p + i) ≤ 57
      · rw [if_pos l, xp_w (x := ((p + i : Nat) : Int) - p) (by omega) (by omega), xp_w (x := ((p + i : Nat) : Int) + 1) (by omega) (by omega)]
        have nx : ∀ k, p ≤ k → k < p + (i + 1) → isG B k := fun k h1 h2 => by
          by_cases e : k = p + i
          · subst e; exact l
          · exact hL k h1 (by omega)
        have cs : ((p + i : Nat) : Int) + 1 = ((p + (i + 1) : Nat) : Int) := by omega
        by_cases q : i < 5
        · have hn := nv_lt hB (k := i) (a := p) (by omega) (fun j hj => ⟨by omega, hL _ (by omega) (by omega)⟩)
          have m5 : min i 5 = i := by omega
          have m6 : min (i + 1) 5 = i + 1 := by omega
          rw [if_pos (by omega), if_pos ⟨by omega, by omega⟩, m5, xp_w (x := 10 * nv B p i) (by omega) (by omega), xp_w (x := 10 * nv B p i + B (p + i)) (by omega) (by omega), xp_w (x := 10 * nv B p i + B (p + i) - 48) (by omega) (by omega), cs]
          have := ih (i + 1) ⟨by omega, nx⟩ (by omega)
          rw [m6] at this
          exact this
        · have m5 : min i 5 = 5 := by omega
          have m6 : min (i + 1) 5 = 5 := by omega
          rw [if_neg (by omega), m5, cs]
          have := ih (i + 1) ⟨by omega, nx⟩ (by omega)
          rw [m6] at this
          exact this
      · rw [if_neg l]
        have e : run (isG B) (s - p) p = p + i := run_eq (by omega) (by omega) hL (fun _ => l)
        rw [e]
        refine ⟨_, rfl, fun z => ?_⟩
        rw [show min i 5 = p + i - p by omega]
    · rw [if_neg (by omega)]
      have e : run (isG B) (s - p) p = p + i := run_eq (by omega) (by omega) hL (fun z => absurd z (by omega))
      rw [e]
      refine ⟨_, rfl, fun z => ?_⟩
      rw [show min i 5 = p + i - p by omega]
  obtain ⟨v, g1, g2⟩ := go
  exact ⟨v, Eq.trans (congrArg (fun x => xm_it (f_X11_next_b172 K) (fun _ => none) xm_fuel x) st) g1, g2⟩
theorem qNA : ∀ k, qN k → qA k := fun k h => ⟨h.1, by have := h.2; omega⟩
theorem qNR : ∀ k, qN k → qR k := fun k h => Or.inl h
theorem qRA : ∀ k, qR k → qA k := fun k h => by unfold qR at h; unfold qA; omega
theorem m_j105 {a : Nat} {s0 : Int} (hB : isB B s) (hM : TM τ B s) (ha : a < s) (h39 : τ.1 84 39 = (a : Int)) (h41 : τ.1 84 41 = (a : Int)) (h0 : (s0 = 2 ∧ isL B a) ∨ (s0 = 3 ∧ ¬ isL B a ∧ isG B a) ∨ (s0 = 1 ∧ ¬ isL B a ∧ ¬ isG B a)) :
    ∃ τ', f_X11_next_j105 τ s0 = some (τ', 0) ∧ frk qN τ τ' ∧ τ'.1 84 41 = (a : Int) ∧ τ'.1 84 39 = (tnd B s a : Int) ∧ τ'.1 84 42 = (tnd B s a : Int) ∧ (isL B a → τ'.1 84 40 = 2) ∧ (¬ isL B a → ¬ okN B s a (tnd B s a) → τ'.1 84 40 = 1) ∧ (okN B s a (tnd B s a) → τ'.1 84 40 = 3 ∧ τ'.1 84 43 = nv B a (tnd B s a - a)) := by
  have h80 := hB.1
  have ht := tnd_rg (B := B) (s := s) (f := a) (by omega)
  unfold f_X11_next_j105 f_X11_next_j164
  simp only [xst]
  have t39 : (xm_u1 (xm_u1 τ 84 40 s0) 84 43 0).1 84 39 = (a : Int) := by simp [xu11, h39]
  have t40 : (xm_u1 (xm_u1 τ 84 40 s0) 84 43 0).1 84 40 = s0 := by simp [xu11]
  have t41 : (xm_u1 (xm_u1 τ 84 40 s0) 84 43 0).1 84 41 = (a : Int) := by simp [xu11, h41]
  have t43 : (xm_u1 (xm_u1 τ 84 40 s0) 84 43 0).1 84 43 = 0 := by simp [xu11]
  have fr0 : frk qN τ (xm_u1 (xm_u1 τ 84 40 s0) 84 43 0) := ((frk.rf _ _).u1 (by unfold qN; omega)).u1 (by unfold qN; omega)
  have tM : TM (xm_u1 (xm_u1 τ 84 40 s0) 84 43 0) B s := hM.frk (fr0.mono qNA)
  generalize xm_u1 (xm_u1 τ 84 40 s0) 84 43 0 = ω at *
  rw [t40]
  rcases h0 with ⟨rfl, l⟩ | ⟨rfl, l, g⟩ | ⟨rfl, l, g⟩
  · rw [if_pos rfl, m_l121 _ hB tM (by omega) t39]
    have e40 : (xm_u1 ω 84 39 (run (isL B) (s - a) a : Int)).1 84 40 = 2 := by simp [xu11, t40]
    have et : tnd B s a = run (isL B) (s - a) a := by unfold tnd; rw [if_pos ⟨ha, l⟩]
    rw [e40, if_neg (by decide)]
    refine ⟨_, rfl, (fr0.u1 (by unfold qN; omega)).u1 (by unfold qN; omega), ?_, ?_, ?_, fun _ => ?_, fun z => absurd l z, fun z => ?_⟩
    · simp [xu11, t41]
    · simp [xu11, et]
    · simp [xu11, et]
    · simp [xu11, t40]
    · have := z.2.1
      unfold isL at l
      unfold isG at this
      omega
  · rw [if_neg (by decide), if_pos rfl]
    obtain ⟨v, e1, e2⟩ := m_l172 (fun σ_88 => if (5 : Int) < (xm_w ((σ_88.1 84 39) - (σ_88.1 84 41))) then (some (xm_u1 (xm_u1 σ_88 84 40 (1 : Int)) 84 42 ((xm_u1 σ_88 84 40 (1 : Int)).1 84 39), 0)) else (some (xm_u1 (xm_u1 σ_88 84 40 (3 : Int)) 84 42 ((xm_u1 σ_88 84 40 (3 : Int)).1 84 39), 0))) hB tM (by omega) t39 t41 t43
    rw [e1]
    have et : tnd B s a = run (isG B) (s - a) a := by unfold tnd; rw [if_neg (fun z => l z.2)]
    rw [← et] at e2 ⊢
    have e39 : (xm_u1 (xm_u1 ω 84 43 v) 84 39 (tnd B s a : Int)).1 84 39 = (tnd B s a : Int) := by simp [xu11]
    have e41 : (xm_u1 (xm_u1 ω 84 43 v) 84 39 (tnd B s a : Int)).1 84 41 = (a : Int) := by simp [xu11, t41]
    rw [e39, e41, xp_w (by omega) (by omega)]
    by_cases q : (5 : Int) < (tnd B s a : Int) - a
    · rw [if_pos q]
      refine ⟨_, rfl, (((fr0.u1 (by unfold qN; omega)).u1 (by unfold qN; omega)).u1 (by unfold qN; omega)).u1 (by unfold qN; omega), ?_, ?_, ?_, fun z => absurd z l, fun _ _ => ?_, fun z => ?_⟩
      · simp [xu11, t41]
      · simp [xu11]
      · simp [xu11]
      · simp [xu11]
      · have := z.2.2; omega
    · rw [if_neg q]
      refine ⟨_, rfl, (((fr0.u1 (by unfold qN; omega)).u1 (by unfold qN; omega)).u1 (by unfold qN; omega)).u1 (by unfold qN; omega), ?_, ?_, ?_, fun z => absurd z l, fun _ z => absurd (show okN B s a (tnd B s a) from ⟨ha, g, by omega⟩) z, fun z => ⟨?_, ?_⟩⟩
      · simp [xu11, t41]
      · simp [xu11]
      · simp [xu11]
      · simp [xu11]
      · simp [xu11, e2 (by omega)]
  · rw [if_neg (by decide), if_neg (by decide)]
    have et : tnd B s a = a := by
      unfold tnd; rw [if_neg (fun z => l z.2)]
      exact run_eq (Nat.le_refl _) (by omega) (fun k h1 h2 => absurd h2 (by omega)) (fun _ => g)
    refine ⟨_, rfl, fr0.u1 (by unfold qN; omega), ?_, ?_, ?_, fun z => absurd z l, fun _ _ => ?_, fun z => absurd z.2.1 g⟩
    · simp [xu11, t41]
    · simp [xu11, et, t39]
    · simp [xu11, et, t39]
    · simp [xu11, t40]
theorem m_next (hB : isB B s) (hM : TM τ B s) (hp : p ≤ s) (h39 : τ.1 84 39 = (p : Int)) : ∃ τ', f_X11_next τ = some (τ', 0) ∧ frk qN τ τ' ∧ TK τ' B s p := by
  have h80 := hB.1
  have hs := (skp_rg (B := B) hp)
  have ht := tnd_rg (B := B) hs.2
  unfold f_X11_next
  rw [m_l0 _ hB hM hp h39]
  have f0 : frk qN τ (xm_u1 (xm_u1 (xm_u1 τ 84 39 (skp B s p : Int)) 84 41 (skp B s p : Int)) 84 40 0) := (((frk.rf _ _).u1 (by unfold qN; omega)).u1 (by unfold qN; omega)).u1 (by unfold qN; omega)
  have e39 : (xm_u1 τ 84 39 (skp B s p : Int)).1 84 39 = (skp B s p : Int) := by simp [xu11]
  simp only [xst, e39]
  have g39 : (xm_u1 (xm_u1 (xm_u1 τ 84 39 (skp B s p : Int)) 84 41 (skp B s p : Int)) 84 40 0).1 84 39 = (skp B s p : Int) := by simp [xu11]
  have g1 : (xm_u1 (xm_u1 (xm_u1 τ 84 39 (skp B s p : Int)) 84 41 (skp B s p : Int)) 84 40 0).1 84 1 = (s : Int) := by simp [xu11, hM.1]
  simp only [g39, g1, xvl]
  by_cases hend : skp B s p = s
  · rw [if_pos (by omega)]
    refine ⟨_, rfl, f0, ?_, ?_, fun _ => ?_, fun z => absurd z (by omega)⟩
    · simp [xu11]
    · have : nP B s p = s := by unfold nP; omega
      rw [this]; simp [xu11]; omega
    · simp [xu11]
  · have hlt : skp B s p < s := by omega
    have g85 : (xm_u1 (xm_u1 (xm_u1 τ 84 39 (skp B s p : Int)) 84 41 (skp B s p : Int)) 84 40 0).1 85 (skp B s p) = B (skp B s p) := by simp [xu11]; exact hM.2 _ hlt
    rw [if_neg (by omega), if_pos ⟨by omega, by omega⟩, Int.toNat_natCast, g85]
    simp only [m_isIn', Option.bind_some, xbi]
    have M3 := hM.frk (f0.mono qNA)
    have g41 : (xm_u1 (xm_u1 (xm_u1 τ 84 39 (skp B s p : Int)) 84 41 (skp B s p : Int)) 84 40 0).1 84 41 = (skp B s p : Int) := by simp [xu11]
    have fin : ∀ s0 : Int, (s0 = 2 ∧ isL B (skp B s p)) ∨ (s0 = 3 ∧ ¬ isL B (skp B s p) ∧ isG B (skp B s p)) ∨ (s0 = 1 ∧ ¬ isL B (skp B s p) ∧ ¬ isG B (skp B s p)) → ∃ τ', f_X11_next_j105 (xm_u1 (xm_u1 (xm_u1 τ 84 39 (skp B s p : Int)) 84 41 (skp B s p : Int)) 84 40 0) s0 = some (τ', 0) ∧ frk qN τ τ' ∧ TK τ' B s p := by
      intro s0 h0
      obtain ⟨τ', a1, a2, a3, a4, a5, a6, a7, a8⟩ := m_j105 hB M3 hlt g39 g41 h0
      exact ⟨τ', a1, f0.tr a2, a3, a4, fun z => absurd z hend, fun _ => ⟨a5, a6, a7, a8⟩⟩
    by_cases l : 97 ≤ B (skp B s p) ∧ B (skp B s p) ≤ 122
    · rw [if_pos l]
      exact fin 2 (Or.inl ⟨rfl, l⟩)
    · rw [if_neg l]
      by_cases g : 48 ≤ B (skp B s p) ∧ B (skp B s p) ≤ 57
      · rw [if_pos g]
        exact fin 3 (Or.inr (Or.inl ⟨rfl, l, g⟩))
      · rw [if_neg g]
        exact fin 1 (Or.inr (Or.inr ⟨rfl, l, g⟩))
/-- the reference, as far as it has read -/
def RM (τ : xm_Mem) (B : Nat → Int) (s p : Nat) (w : Int) : Prop := p ≤ s ∧ ((w = -9 ∧ τ.1 84 50 = 1 ∧ TK τ B s p) ∨ (w ≠ -9 ∧ τ.1 84 50 = 0 ∧ τ.1 84 41 = w))
theorem TK.frk {τ τ' : xm_Mem} {Q : Nat → Prop} (h : TK τ B s p) (g : frk Q τ τ') (hq : ∀ k, Q k → 44 ≤ k) : TK τ' B s p := by
  have o : ∀ k, k < 44 → τ'.1 84 k = τ.1 84 k := fun k hk => g.1 84 k (fun z => by have := hq k z.2; omega)
  unfold TK at *
  rw [o 41 (by omega), o 39 (by omega), o 40 (by omega), o 42 (by omega), o 43 (by omega)]
  exact h
theorem RM.frk {τ τ' : xm_Mem} {Q : Nat → Prop} {w : Int} (h : RM τ B s p w) (g : frk Q τ τ') (hq : ∀ k, Q k → 44 ≤ k ∧ k < 50) : RM τ' B s p w := by
  refine ⟨h.1, ?_⟩
  have o : ∀ k, (k < 44 ∨ k = 50) → τ'.1 84 k = τ.1 84 k := fun k hk => g.1 84 k (fun z => by have := hq k z.2; omega)
  rcases h.2 with ⟨h1, h2, h3⟩ | ⟨h1, h2, h3⟩
  · exact Or.inl ⟨h1, by rw [o 50 (by omega)]; exact h2, h3.frk g (fun k hk => (hq k hk).1)⟩
  · exact Or.inr ⟨h1, by rw [o 50 (by omega)]; exact h2, by rw [o 41 (by omega)]; exact h3⟩
/-- goes on -/
theorem m_go (hB : isB B s) (hM : TM τ B s) (hp : p ≤ s) (hK : TK τ B s p) (hg : τ.1 84 50 = 1) {w : Int} (hw : w = -9) : ∃ τ', f_X11_next τ = some (τ', 0) ∧ frk qR τ τ' ∧ RM τ' B s (nP B s p) w := by
  obtain ⟨τ', a1, a2, a3⟩ := m_next hB hM (nP_rg hp).2 hK.2.1
  exact ⟨τ', a1, a2.mono qNR, (nP_rg hp).2, Or.inl ⟨hw, by rw [a2.1 84 50 (fun z => by have := z.2; unfold qN at this; omega)]; exact hg, a3⟩⟩
/-- finds a fault -/
theorem m_bad (hp : p ≤ s) (hK : TK τ B s p) {w : Int} (hw : w = -9) : frk qR τ (xm_u1 τ 84 50 0) ∧ RM (xm_u1 τ 84 50 0) B s (nP B s p) (fl w (skp B s p)) := by
  refine ⟨(frk.rf _ _).u1 (Or.inr rfl), (nP_rg hp).2, Or.inr ⟨flQ9, by simp [xu11], ?_⟩⟩
  have : fl w (skp B s p) = (skp B s p : Int) := by unfold fl; rw [if_pos hw]
  rw [this]
  simp [xu11, hK.1]
theorem fl_no {w : Int} {a : Nat} (h : w ≠ -9) : fl w a = w := by unfold fl; rw [if_neg h]
theorem nW_no {w : Int} (h : w ≠ -9) : nW B s p w = w := by unfold nW; split; rfl; exact fl_no h
theorem dW_no {v w : Int} (h : w ≠ -9) : dW B s p v w = w := by unfold dW; split; rfl; exact fl_no h
theorem pW_no {w : Int} (h : w ≠ -9) : pW B s p w = w := by unfold pW; split; rfl; exact nW_no h
theorem lW_no {W : Nat → Int} {n : Nat} {w : Int} (h : w ≠ -9) : lW B s p W n w = w := by unfold lW; split; rfl; exact fl_no h
theorem eW_no {w : Int} (h : w ≠ -9) : eW B s p w = w := by unfold eW; split; exact fl_no h; rfl
theorem tlW_no {K w : Int} (h : w ≠ -9) : tlW B s K p w = w := by
  unfold tlW
  simp only [nW_no h, dW_no h, pW_no h, lW_no h, eW_no h, ite_self]
theorem nok_tok (hK : TK τ B s p) (hp : p ≤ s) : (τ.1 84 40 = 3) ↔ nok B s p := by
  constructor
  · intro h
    refine Classical.byContradiction (fun n => ?_)
    by_cases e : skp B s p = s
    · have := hK.2.2.1 e; omega
    · have hl : skp B s p < s := by have := (skp_rg (B := B) hp).2; omega
      have q := hK.2.2.2 hl
      by_cases l : isL B (skp B s p)
      · have := q.2.1 l; omega
      · have := q.2.2.1 l n; omega
  · intro h
    exact ((hK.2.2.2 h.1).2.2.2 h).1
theorem m_number {w : Int} (hB : isB B s) (hM : TM τ B s) (hR : RM τ B s p w) : ∃ τ' v, f_X11_number τ = some (τ', v) ∧ frk qR τ τ' ∧ RM τ' B s (nP B s p) (nW B s p w) ∧ (nW B s p w = -9 → v = nV B s p) := by
  unfold f_X11_number f_X11_number_j20
  obtain ⟨hp, ⟨h1, h2, h3⟩ | ⟨h1, h2, h3⟩⟩ := hR
  · rw [if_neg (by omega)]
    by_cases c : nok B s p
    · have e3 := (nok_tok h3 hp).mpr c
      have ev := ((h3.2.2.2 c.1).2.2.2 c).2
      rw [if_pos e3, if_neg (by omega), xvl]
      obtain ⟨τ', a1, a2, a3⟩ := m_go hB hM hp h3 h2 h1
      rw [a1]
      have en : nW B s p w = w := by unfold nW; rw [if_pos c]
      rw [en]
      exact ⟨τ', _, rfl, a2, a3, fun _ => ev⟩
    · have e3 : ¬ τ.1 84 40 = 3 := fun z => c ((nok_tok h3 hp).mp z)
      have en : nW B s p w = fl w (skp B s p) := by unfold nW; rw [if_neg c]
      rw [if_neg e3, xst, en]
      have e50 : (xm_u1 τ 84 50 0).1 84 50 = 0 := by simp [xu11]
      rw [if_pos e50]
      obtain ⟨a1, a2⟩ := m_bad hp h3 h1
      exact ⟨_, _, rfl, a1, a2, fun z => absurd z flQ9⟩
  · rw [if_pos h2, if_pos h2, nW_no h1]
    exact ⟨_, _, rfl, frk.rf _ _, ⟨(nP_rg hp).2, Or.inr ⟨h1, h2, h3⟩⟩, fun z => absurd z h1⟩
theorem wd_let {v : Int} (hp : p ≤ s) (hv : 0 ≤ v ∧ v < 19) (h : wd B s p v) : skp B s p < s ∧ isL B (skp B s p) ∧ 1 ≤ xm_slen v := by
  have tb : ∀ i, i < 19 → 1 ≤ xm_slen (i : Nat) ∧ 97 ≤ xm_chr (i : Nat) 0 ∧ xm_chr (i : Nat) 0 ≤ 122 := by decide +kernel
  have t := tb v.toNat (by omega)
  rw [show ((v.toNat : Nat) : Int) = v by omega] at t
  have r := nP_rg (B := B) hp
  unfold wd isW at h
  have h0 := h.2 0 (by omega)
  refine ⟨by omega, ?_, t.1⟩
  unfold isL
  rw [show skp B s p + 0 = skp B s p from rfl] at h0
  rw [h0]
  exact t.2
theorem m_isPart {v wv : Int} {o L : Nat} (hB : isB B s) (hM : TM τ B s) (hp : p ≤ s) (hK : TK τ B s p) (hv : 0 ≤ v ∧ v < 22) (hw : 0 ≤ wv ∧ wv < 19) (hL : xm_slen wv = L) (ho : ((o + L : Nat) : Int) ≤ xm_slen v) (hc : ∀ j, j < L → xm_chr v ((o + j : Nat) : Int) = xm_chr wv (j : Nat)) :
    f_X11_isPart τ v (o : Int) ((o + L : Nat) : Int) = some (τ, xb (wd B s p wv)) := by
  have h80 := hB.1
  have r := nP_rg (B := B) hp
  have hl : xm_slen v < 100 := by
    have := xm_ln_ok v.toNat (by omega)
    unfold xm_slen
    omega
  have hL1 : 1 ≤ L := by
    have tb : ∀ i, i < 19 → 1 ≤ xm_slen (i : Nat) := by decide +kernel
    have := tb wv.toNat (by omega)
    rw [show ((wv.toNat : Nat) : Int) = wv by omega] at this
    omega
  have zero : ¬ wd B s p wv → f_X11_isPart_l33 xm_fuel τ v (o : Int) ((o + L : Nat) : Int) 0 (o : Int) = some (τ, xb (wd B s p wv)) := by
    intro n
    unfold f_X11_isPart_l33
    refine it_T (γ := Nat) _ _ (fun (g : xm_Mem → Int → Int → Int → Int → Int → Option xm_Out) _ => g τ v (o : Int) ((o + L : Nat) : Int) 0 (o : Int)) (fun _ => True) (fun _ => 0) (fun z => z = some (τ, xb (wd B s p wv))) ?_ xm_fuel 0 trivial (xfu (by omega))
    intro self i _ _
    show f_X11_isPart_b33 self τ v (o : Int) ((o + L : Nat) : Int) 0 (o : Int) = _
    unfold f_X11_isPart_b33
    rw [if_pos (by omega), if_pos rfl, xb_neg n]
  unfold f_X11_isPart
  by_cases e2 : τ.1 84 40 = 2
  · have hs : skp B s p < s := by
      refine Classical.byContradiction (fun n => ?_)
      have := hK.2.2.1 (by have := (skp_rg (B := B) hp).2; omega)
      omega
    have k := hK.2.2.2 hs
    rw [if_pos e2, k.1, hK.1, xp_w (x := (nP B s p : Int) - skp B s p) (by omega) (by omega), xp_w (x := ((o + L : Nat) : Int) - o) (by omega) (by omega)]
    by_cases q : (nP B s p : Int) - skp B s p = ((o + L : Nat) : Int) - o
    · rw [if_pos q]
      rw [show (1 : Int) = xb (∀ i, i < 0 → B (skp B s p + i) = xm_chr wv (i : Nat)) from (xb_pos (fun i h => absurd h (Nat.not_lt_zero _))).symm]
      unfold f_X11_isPart_l33
      refine it_T (γ := Nat) _ _ (fun (g : xm_Mem → Int → Int → Int → Int → Int → Option xm_Out) j => g τ v (o : Int) ((o + L : Nat) : Int) (xb (∀ i, i < j → B (skp B s p + i) = xm_chr wv (i : Nat))) ((o + j : Nat) : Int)) (fun j => j ≤ L) (fun j => L - j) (fun z => z = some (τ, xb (wd B s p wv))) ?_ xm_fuel 0 (Nat.zero_le _) (xfu (by omega))
      intro self j hj ih
      show f_X11_isPart_b33 self τ v (o : Int) ((o + L : Nat) : Int) (xb (∀ i, i < j → B (skp B s p + i) = xm_chr wv (i : Nat))) ((o + j : Nat) : Int) = _
      unfold f_X11_isPart_b33 fj_charAt
      rw [hK.1]
      simp only [xbi]
      by_cases hjl : j < L
      · rw [if_pos (by omega)]
        by_cases a : ∀ i, i < j → B (skp B s p + i) = xm_chr wv (i : Nat)
        · have ew : xm_w (xm_w ((skp B s p : Int) + ((o + j : Nat) : Int)) - o) = ((skp B s p + j : Nat) : Int) := by
            rw [xp_w (x := (skp B s p : Int) + ((o + j : Nat) : Int)) (by omega) (by omega), xp_w (by omega) (by omega)]; omega
          have hg : (0 ≤ v ∧ v < 22) ∧ 0 ≤ ((o + j : Nat) : Int) ∧ ((o + j : Nat) : Int) < xm_slen v := ⟨hv, by omega, by omega⟩
          rw [if_pos a, ew, xvl, if_pos ⟨by omega, by omega⟩, if_pos hg, Int.toNat_natCast, hM.2 _ (by omega), hc j hjl]
          simp only [Option.bind_some]
          have cs : xm_w (((o + j : Nat) : Int) + 1) = ((o + (j + 1) : Nat) : Int) := by rw [xp_w (by omega) (by omega)]; omega
          have nx := ih (j + 1) (by show j + 1 ≤ L; omega) (by show L - (j + 1) < L - j; omega)
          rw [cs]
          by_cases m : B (skp B s p + j) = xm_chr wv (j : Nat)
          · rw [if_pos m]
            rw [xb_pos (fun i hi => by
              by_cases e : i = j
              · subst e; exact m
              · exact a i (by omega))] at nx
            exact nx
          · rw [if_neg m]
            rw [xb_neg (fun z => m (z j (by omega)))] at nx
            exact nx
        · rw [if_neg a, xb_neg a]
          rw [xb_neg (fun z => a (fun i hi => z.2 i (by omega)))]
      · rw [if_neg (by omega)]
        have e : j = L := by omega
        subst e
        rw [xb_congr]
        constructor
        · intro z
          exact ⟨by rw [hL]; omega, fun i hi => z i (by omega)⟩
        · intro z i hi
          exact z.2 i (by omega)
    · rw [if_neg q]
      exact zero (fun z => q (by have := z.1; omega))
  · rw [if_neg e2]
    exact zero (fun z => e2 (by
      have := wd_let hp hw z
      exact (hK.2.2.2 this.1).2.1 this.2.1))
theorem m_is {v : Int} (hB : isB B s) (hM : TM τ B s) (hp : p ≤ s) (hK : TK τ B s p) (hv : 0 ≤ v ∧ v < 19) : f_X11_is τ v = some (τ, xb (wd B s p v)) := by
  unfold f_X11_is fj_length
  rw [if_pos (by omega)]
  simp only [Option.bind_some]
  have e : xm_slen v = ((0 + (xm_slen v).toNat : Nat) : Int) := by unfold xm_slen; omega
  have := m_isPart (v := v) (wv := v) (o := 0) (L := (xm_slen v).toNat) hB hM hp hK (by omega) hv (by omega) (by omega) (fun j _ => by rw [Nat.zero_add])
  rw [← e] at this
  rw [show (0 : Int) = ((0 : Nat) : Int) from rfl, this]
  rfl
theorem m_must {v w : Int} (hB : isB B s) (hM : TM τ B s) (hR : RM τ B s p w) (hv : 0 ≤ v ∧ v < 19) : ∃ τ', f_X11_must τ v = some (τ', 0) ∧ frk qR τ τ' ∧ RM τ' B s (nP B s p) (dW B s p v w) := by
  unfold f_X11_must f_X11_must_j20
  obtain ⟨hp, ⟨h1, h2, h3⟩ | ⟨h1, h2, h3⟩⟩ := hR
  · rw [if_neg (by omega), m_is hB hM hp h3 hv]
    simp only [Option.bind_some, xbi]
    by_cases c : wd B s p v
    · have en : dW B s p v w = w := by unfold dW; rw [if_pos c]
      obtain ⟨τ', a1, a2, a3⟩ := m_go hB hM hp h3 h2 h1
      rw [if_pos c, if_neg (by omega), a1, en]
      exact ⟨τ', rfl, a2, a3⟩
    · have en : dW B s p v w = fl w (skp B s p) := by unfold dW; rw [if_neg c]
      have e50 : (xm_u1 τ 84 50 0).1 84 50 = 0 := by simp [xu11]
      obtain ⟨a1, a2⟩ := m_bad hp h3 h1
      rw [if_neg c, xst, if_pos e50, en]
      exact ⟨_, rfl, a1, a2⟩
  · rw [if_pos h2, if_pos h2, dW_no h1]
    exact ⟨_, rfl, frk.rf _ _, ⟨(nP_rg hp).2, Or.inr ⟨h1, h2, h3⟩⟩⟩
theorem m_parent {w : Int} (hB : isB B s) (hM : TM τ B s) (hR : RM τ B s p w) : ∃ τ' v, f_X11_parent τ = some (τ', v) ∧ frk qR τ τ' ∧ RM τ' B s (nP B s p) (pW B s p w) ∧ (pW B s p w = -9 → v = pV B s p) := by
  have hR0 := hR
  unfold f_X11_parent
  obtain ⟨hp, ⟨h1, h2, h3⟩ | ⟨h1, h2, h3⟩⟩ := hR
  · rw [if_neg (by omega), m_is hB hM hp h3 (by decide)]
    simp only [Option.bind_some, xbi]
    by_cases c : wd B s p 12
    · have en : pW B s p w = w := by unfold pW; rw [if_pos c]
      have ev : pV B s p = -1 := by unfold pV; rw [if_pos c]
      obtain ⟨τ', a1, a2, a3⟩ := m_go hB hM hp h3 h2 h1
      rw [if_pos c, a1, en, ev]
      exact ⟨τ', _, rfl, a2, a3, fun _ => rfl⟩
    · have en : pW B s p w = nW B s p w := by unfold pW; rw [if_neg c]
      have ev : pV B s p = nV B s p := by unfold pV; rw [if_neg c]
      obtain ⟨τ', v, a1, a2, a3, a4⟩ := m_number hB hM hR0
      rw [if_neg c, a1, en, ev]
      exact ⟨τ', v, rfl, a2, a3, a4⟩
  · obtain ⟨τ', v, a1, a2, a3, a4⟩ := m_number hB hM hR0
    rw [nW_no h1] at a3 a4
    rw [if_pos h2, a1, pW_no h1]
    exact ⟨τ', v, rfl, a2, a3, fun z => absurd z h1⟩
/-- a text that is a row of words -/
def rowOf (v : Int) (n : Nat) (W : Nat → Int) (O : Nat → Nat) : Prop := (0 ≤ v ∧ v < 22) ∧ O 0 = 0 ∧ (O n : Int) = xm_slen v + 1 ∧ ∀ i, i < n → (0 ≤ W i ∧ W i < 19) ∧ (O (i + 1) : Int) = O i + xm_slen (W i) + 1 ∧ (O (i + 1) : Int) ≤ xm_slen v + 1 ∧ ((O (i + 1) : Int) < xm_slen v + 1 → xm_chr v ((O (i + 1) : Int) - 1) = 32) ∧ ∀ j : Nat, (j : Int) < xm_slen (W i) → xm_chr v ((O i + j : Nat) : Int) = xm_chr (W i) (j : Nat) ∧ ¬ xm_chr v ((O i + j : Nat) : Int) = 32
theorem m_l22 {v : Int} {n : Nat} {W : Nat → Int} {O : Nat → Nat} (hr : rowOf v n W O) {i : Nat} (hi : i < n) (K : xm_Mem → Int → Int → Int → Int → Option xm_Out) (x2 : Int) : f_X11_oneOf_l22 K xm_fuel τ v x2 (O i : Int) (O i : Int) = K τ v x2 (O i : Int) ((O (i + 1) : Int) - 1) := by
  obtain ⟨hv, _, _, h⟩ := hr
  obtain ⟨h1, h2, h3, h4, h5⟩ := h i hi
  have hl : xm_slen v < 100 := by
    have := xm_ln_ok v.toNat (by omega)
    unfold xm_slen
    omega
  have hl0 : 0 ≤ xm_slen (W i) := by unfold xm_slen; omega
  unfold f_X11_oneOf_l22
  refine it_T (γ := Nat) _ _ (fun (g : xm_Mem → Int → Int → Int → Int → Option xm_Out) j => g τ v x2 (O i : Int) ((O i + j : Nat) : Int)) (fun j => (j : Int) ≤ xm_slen (W i)) (fun j => (xm_slen (W i)).toNat - j) (fun z => z = K τ v x2 (O i : Int) ((O (i + 1) : Int) - 1)) ?_ xm_fuel 0 hl0 (xfu (by omega))
  intro self j hj ih
  show f_X11_oneOf_b22 K self τ v x2 (O i : Int) ((O i + j : Nat) : Int) = _
  replace hj : (j : Int) ≤ xm_slen (W i) := hj
  unfold f_X11_oneOf_b22 fj_length fj_charAt
  rw [if_pos hv]
  simp only [Option.bind_some]
  by_cases q : (j : Int) < xm_slen (W i)
  · have hg : (0 ≤ v ∧ v < 22) ∧ 0 ≤ ((O i + j : Nat) : Int) ∧ ((O i + j : Nat) : Int) < xm_slen v := ⟨hv, by omega, by omega⟩
    rw [if_pos hg.2.2, if_pos hg]
    simp only [Option.bind_some]
    rw [if_neg (h5 j q).2, xp_w (by omega) (by omega), show ((O i + j : Nat) : Int) + 1 = ((O i + (j + 1) : Nat) : Int) by omega]
    exact ih (j + 1) (by show ((j + 1 : Nat) : Int) ≤ _; omega) (by show (xm_slen (W i)).toNat - (j + 1) < (xm_slen (W i)).toNat - j; omega)
  · have e : ((O i + j : Nat) : Int) = (O (i + 1) : Int) - 1 := by omega
    rw [e]
    by_cases z : (O (i + 1) : Int) - 1 < xm_slen v
    · have hg : (0 ≤ v ∧ v < 22) ∧ 0 ≤ (O (i + 1) : Int) - 1 ∧ (O (i + 1) : Int) - 1 < xm_slen v := ⟨hv, by omega, z⟩
      rw [if_pos z, if_pos hg]
      simp only [Option.bind_some]
      rw [if_pos (h4 (by omega))]
    · rw [if_neg z]
theorem m_oneOf {v w : Int} {n : Nat} {W : Nat → Int} {O : Nat → Nat} (hr : rowOf v n W O) (hn : n < 50) (hB : isB B s) (hM : TM τ B s) (hR : RM τ B s p w) : ∃ τ' x, f_X11_oneOf τ v = some (τ', x) ∧ frk qR τ τ' ∧ RM τ' B s (nP B s p) (lW B s p W n w) ∧ (lW B s p W n w = -9 → x = lx B s p W n) ∧ (¬ lW B s p W n w = -9 → x = 0) := by
  unfold f_X11_oneOf f_X11_oneOf_l4
  obtain ⟨hv, hO, hO2, hh⟩ := hr
  have hl : xm_slen v < 100 := by
    have := xm_ln_ok v.toNat (by omega)
    unfold xm_slen
    omega
  obtain ⟨hp, ⟨h1, h2, h3⟩ | ⟨h1, h2, h3⟩⟩ := hR
  · rw [show (0 : Int) = ((0 : Nat) : Int) from rfl]
    conv => enter [1, τ', 1, x, 1, 1]; rw [show xm_it (f_X11_oneOf_b4 (fun σ_23 x2_23 => (f_X11_next σ_23).bind (fun o24 => some (o24.1, x2_23))) (fun σ_26 => xm_st (xm_u1 σ_26 84 50 ((0 : Nat) : Int)) (fun σ27 => some (σ27, ((0 : Nat) : Int))))) (fun _ _ _ _ => none) xm_fuel τ v ((0 : Nat) : Int) ((0 : Nat) : Int) = xm_it (f_X11_oneOf_b4 (fun σ_23 x2_23 => (f_X11_next σ_23).bind (fun o24 => some (o24.1, x2_23))) (fun σ_26 => xm_st (xm_u1 σ_26 84 50 ((0 : Nat) : Int)) (fun σ27 => some (σ27, ((0 : Nat) : Int))))) (fun _ _ _ _ => none) xm_fuel τ v ((0 : Nat) : Int) (O 0 : Int) from by rw [hO]]
    refine it_T (γ := Nat) _ _ (fun (g : xm_Mem → Int → Int → Int → Option xm_Out) i => g τ v (i : Int) (O i : Int)) (fun i => i ≤ n ∧ ∀ k, k < i → ¬ wd B s p (W k)) (fun i => n - i) (fun z => ∃ τ' x, z = some (τ', x) ∧ frk qR τ τ' ∧ RM τ' B s (nP B s p) (lW B s p W n w) ∧ (lW B s p W n w = -9 → x = lx B s p W n) ∧ (¬ lW B s p W n w = -9 → x = 0)) ?_ xm_fuel 0 ⟨Nat.zero_le _, fun k hk => absurd hk (Nat.not_lt_zero _)⟩ (xfu (by omega))
    rintro self i ⟨hi, hm⟩ ih
    show ∃ τ' x, f_X11_oneOf_b4 _ _ self τ v (i : Int) (O i : Int) = some (τ', x) ∧ _
    unfold f_X11_oneOf_b4 fj_length
    rw [if_neg (by omega), if_pos hv]
    simp only [Option.bind_some]
    by_cases q : i < n
    · have g := hh i q
      have hl0 : 0 ≤ xm_slen (W i) := by unfold xm_slen; omega
      have gl : 1 ≤ xm_slen (W i) := by
        have tb : ∀ i, i < 19 → 1 ≤ xm_slen (i : Nat) := by decide +kernel
        have := tb (W i).toNat (by omega)
        rw [show (((W i).toNat : Nat) : Int) = W i by omega] at this
        exact this
      have ip := m_isPart (v := v) (wv := W i) (o := O i) (L := (xm_slen (W i)).toNat) hB hM hp h3 hv g.1 (by omega) (by omega) (fun j hj => (g.2.2.2.2 j (by omega)).1)
      rw [show ((O i + (xm_slen (W i)).toNat : Nat) : Int) = (O (i + 1) : Int) - 1 by omega] at ip
      rw [if_pos (by omega), m_l22 ⟨hv, hO, hO2, hh⟩ q]
      simp only [ip, Option.bind_some, xbi, xvl]
      by_cases c : wd B s p (W i)
      · have e : lx B s p W n = i := fsx_eq hi hm (fun _ => c)
        have el : lW B s p W n w = w := by unfold lW; rw [e, if_pos q]
        obtain ⟨τ', a1, a2, a3⟩ := m_go hB hM hp h3 h2 h1
        rw [if_pos c, a1, el, e]
        exact ⟨τ', _, rfl, a2, a3, fun _ => rfl, fun z => absurd h1 z⟩
      · rw [if_neg c, xw1 (by omega), xp_w (x := (O (i + 1) : Int) - 1 + 1) (by omega) (by omega), show (O (i + 1) : Int) - 1 + 1 = O (i + 1) by omega]
        refine ih (i + 1) ⟨q, fun k hk => ?_⟩ (by show n - (i + 1) < n - i; omega)
        by_cases z : k = i
        · subst z; exact c
        · exact hm k (by omega)
    · have e : i = n := by omega
      subst e
      have el : lx B s p W i = i := fsx_eq (Nat.le_refl _) hm (fun z => absurd z (Nat.lt_irrefl _))
      have ef : lW B s p W i w = fl w (skp B s p) := by unfold lW; rw [el, if_neg (Nat.lt_irrefl _)]
      rw [if_neg (by omega), xst, ef]
      obtain ⟨a1, a2⟩ := m_bad hp h3 h1
      exact ⟨_, _, rfl, a1, a2, fun z => absurd z flQ9, fun _ => rfl⟩
  · have one : ∀ self, f_X11_oneOf_b4 (fun σ_23 x2_23 => (f_X11_next σ_23).bind (fun o24 => some (o24.1, x2_23))) (fun σ_26 => xm_st (xm_u1 σ_26 84 50 (0 : Int)) (fun σ27 => some (σ27, (0 : Int)))) self τ v 0 0 = some (τ, 0) := by
      intro self
      unfold f_X11_oneOf_b4
      rw [if_pos h2]
      show xm_st (xm_u1 τ 84 50 0) (fun σ27 => some (σ27, (0 : Int))) = _
      rw [xst, u1_id h2]
    refine it_T (γ := Nat) _ _ (fun (g : xm_Mem → Int → Int → Int → Option xm_Out) _ => g τ v 0 0) (fun _ => True) (fun _ => 0) (fun z => ∃ τ' x, z = some (τ', x) ∧ frk qR τ τ' ∧ RM τ' B s (nP B s p) (lW B s p W n w) ∧ (lW B s p W n w = -9 → x = lx B s p W n) ∧ (¬ lW B s p W n w = -9 → x = 0)) ?_ xm_fuel 0 trivial (xfu (by omega))
    intro self _ _ _
    rw [lW_no h1]
    exact ⟨τ, 0, one self, frk.rf _ _, ⟨(nP_rg hp).2, Or.inr ⟨h1, h2, h3⟩⟩, fun z => absurd z h1, fun _ => rfl⟩
end XQ
