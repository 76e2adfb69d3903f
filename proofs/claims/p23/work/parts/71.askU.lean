/-! ===== partner; the tape ===== -/
theorem by_rg (y : Int) : 0 ≤ xm_and y 255 ∧ xm_and y 255 ≤ 255 := by
  unfold xm_and
  generalize xm_J y = a
  have e : (a &&& xm_J 255).toInt = (((a &&& xm_J 255).toBitVec).toInt) := rfl
  have h2 : ((a &&& xm_J 255).toBitVec).toNat ≤ 255 := by
    show (a.toBitVec &&& (xm_J 255).toBitVec).toNat ≤ 255
    rw [BitVec.toNat_and]
    exact Nat.and_le_right
  rw [e, BitVec.toInt_eq_toNat_of_lt (by omega)]
  omega
theorem xm_rem4 : ∀ n : Nat, n < 20 → xm_rem (n : Nat) 4 = ((n % 4 : Nat) : Int) := by decide +kernel
def byt (x sh : Int) : Int := xm_and (xm_shr x sh) 255
def apB (B : Nat → Int) (s : Nat) (x : Int) (k : Nat) : Int := if k < s then B k else byt x (24 - 8 * ((k - s : Nat) : Int))
def x5i (x1 x2 x3 x4 x5 : Int) (i : Nat) : Int := if i < 4 then x1 else if i < 8 then x2 else if i < 12 then x3 else if i < 16 then x4 else x5
def fdB (B : Nat → Int) (s : Nat) (x1 x2 x3 x4 x5 : Int) (k : Nat) : Int := if k < s then B k else byt (x5i x1 x2 x3 x4 x5 (k - s)) (24 - 8 * (((k - s) % 4 : Nat) : Int))
theorem apB_fd {B : Nat → Int} {s : Nat} {x1 x2 x3 x4 x5 : Int} {k : Nat} (hk : k < s + 20) : apB (apB (apB (apB (apB B s x1) (s + 4) x2) (s + 8) x3) (s + 12) x4) (s + 16) x5 k = fdB B s x1 x2 x3 x4 x5 k := by
  unfold apB fdB x5i
  by_cases c0 : k < s
  · simp only [if_pos c0, if_pos (show k < s + 4 by omega), if_pos (show k < s + 8 by omega), if_pos (show k < s + 12 by omega), if_pos (show k < s + 16 by omega)]
  · by_cases c1 : k < s + 4
    · simp only [if_neg c0, if_pos c1, if_pos (show k < s + 8 by omega), if_pos (show k < s + 12 by omega), if_pos (show k < s + 16 by omega), if_pos (show k - s < 4 by omega)]
      rw [show (k - s) % 4 = k - s by omega]
    · by_cases c2 : k < s + 8
      · simp only [if_neg c0, if_neg c1, if_pos c2, if_pos (show k < s + 12 by omega), if_pos (show k < s + 16 by omega), if_neg (show ¬ k - s < 4 by omega), if_pos (show k - s < 8 by omega)]
        rw [show (k - s) % 4 = k - (s + 4) by omega]
      · by_cases c3 : k < s + 12
        · simp only [if_neg c0, if_neg c1, if_neg c2, if_pos c3, if_pos (show k < s + 16 by omega), if_neg (show ¬ k - s < 4 by omega), if_neg (show ¬ k - s < 8 by omega), if_pos (show k - s < 12 by omega)]
          rw [show (k - s) % 4 = k - (s + 8) by omega]
        · by_cases c4 : k < s + 16
          · simp only [if_neg c0, if_neg c1, if_neg c2, if_neg c3, if_pos c4, if_neg (show ¬ k - s < 4 by omega), if_neg (show ¬ k - s < 8 by omega), if_neg (show ¬ k - s < 12 by omega), if_pos (show k - s < 16 by omega)]
            rw [show (k - s) % 4 = k - (s + 12) by omega]
          · simp only [if_neg c0, if_neg c1, if_neg c2, if_neg c3, if_neg c4, if_neg (show ¬ k - s < 4 by omega), if_neg (show ¬ k - s < 8 by omega), if_neg (show ¬ k - s < 12 by omega), if_neg (show ¬ k - s < 16 by omega)]
            rw [show (k - s) % 4 = k - (s + 16) by omega]
theorem fdB_ok {B : Nat → Int} {s : Nat} (hB : isB B s) (hs : s + 20 ≤ 80) (x1 x2 x3 x4 x5 : Int) : isB (fdB B s x1 x2 x3 x4 x5) (s + 20) := by
  refine ⟨hs, fun k _ => ?_⟩
  unfold fdB
  by_cases c : k < s
  · rw [if_pos c]; exact hB.2 k c
  · rw [if_neg c]; exact by_rg _
def zTp (a k : Nat) : Prop := (a = 2 ∧ k = 1) ∨ a = 3
section XG
variable {σ σ1 τ τ1 : xm_Mem} {S : xS} {A : Nat → Nat} {n : Nat} {m : Nat → Int64} {t : Nat} {e : Nat → Nat} {B : Nat → Int} {s : Nat}
theorem c_add (hT : TC σ B s) (hs : s + 4 ≤ 80) (x : Int) : ∃ σ', f_X8_add σ x = some (σ', 0) ∧ gx zTp σ σ' ∧ TC σ' (apB B s x) (s + 4) := by
  unfold f_X8_add f_X8_add_l3
  refine it_T (γ := xm_Mem × Nat) _ _ (fun (g : xm_Mem → Int → Int → Option xm_Out) a => g a.1 x (24 - 8 * (a.2 : Int))) (fun a => a.2 ≤ 4 ∧ gx zTp σ a.1 ∧ TC a.1 (apB B s x) (s + a.2)) (fun a => 4 - a.2) (fun z => ∃ σ', z = some (σ', 0) ∧ gx zTp σ σ' ∧ TC σ' (apB B s x) (s + 4)) ?_ xm_fuel (σ, 0) ⟨Nat.zero_le _, gx.rf _ _, ?_⟩ (xfu (by show 4 - 0 < _; decide))
  · rintro self ⟨σ0, i⟩ ⟨hi, hg, hI⟩ ih
    replace hi : i ≤ 4 := hi
    replace hg : gx zTp σ σ0 := hg
    replace hI : TC σ0 (apB B s x) (s + i) := hI
    show ∃ σ', f_X8_add_b3 self σ0 x (24 - 8 * (i : Int)) = _ ∧ _
    unfold f_X8_add_b3
    by_cases h : i < 4
    · rw [if_neg (show ¬ 24 - 8 * (i : Int) < 0 by omega), hI.1, if_pos (show ((s + i : Nat) : Int) < 80 by omega), xvl, xst, if_pos ⟨by omega, by omega⟩, xst, xw1 (by omega), Int.toNat_natCast, xp_w (x := 24 - 8 * (i : Int) + -8) (by omega) (by omega)]
      have e1 : 24 - 8 * (i : Int) + -8 = 24 - 8 * ((i + 1 : Nat) : Int) := by omega
      rw [e1]
      refine ih (_, i + 1) ⟨h, (hg.u1 (Or.inl ⟨rfl, rfl⟩)).u1 (Or.inr rfl), ?_, fun k hk => ?_⟩ (by show 4 - (i + 1) < 4 - i; omega)
      · show (xm_u1 (xm_u1 σ0 2 1 _) 3 (s + i) _).1 2 1 = _
        rw [xu11, if_neg (by omega), xu11, if_pos ⟨rfl, rfl⟩]
        omega
      · have hk : k < s + (i + 1) := hk
        show (xm_u1 (xm_u1 σ0 2 1 _) 3 (s + i) _).1 3 k = _
        by_cases q : k = s + i
        · subst q
          rw [xu11, if_pos ⟨rfl, rfl⟩]
          unfold apB byt
          rw [if_neg (by omega), show s + i - s = i by omega]
        · rw [xu11, if_neg (by omega), xu11, if_neg (by omega)]
          exact hI.2 k (by omega)
    · rw [if_pos (show 24 - 8 * (i : Int) < 0 by omega)]
      have ei : i = 4 := by omega
      subst ei
      exact ⟨σ0, rfl, hg, hI⟩
  · refine ⟨hT.1, fun k hk => ?_⟩
    have hk : k < s := hk
    unfold apB
    rw [if_pos hk]
    exact hT.2 k hk
theorem c_feed (hT : TC σ B s) (x1 x2 x3 x4 x5 : Int) : (s + 20 ≤ 80 → ∃ σ', f_X10_feed σ x1 x2 x3 x4 x5 = some (σ', ((s + 20 : Nat) : Int)) ∧ gx (fun a k => zTp a k ∨ (a = 1 ∧ k = 8)) σ σ' ∧ TC σ' (fdB B s x1 x2 x3 x4 x5) (s + 20) ∧ σ'.1 1 8 = 0) ∧ (s ≤ 80 → ¬ s + 20 ≤ 80 → f_X10_feed σ x1 x2 x3 x4 x5 = some (xm_u1 σ 1 8 9, -9)) := by
  unfold f_X10_feed f_X8_hasRoomFor
  rw [hT.1]
  constructor
  · intro hs
    obtain ⟨σ1, a1, a2, a3⟩ := c_add hT (by omega) x1
    obtain ⟨σ2, b1, b2, b3⟩ := c_add a3 (by omega) x2
    obtain ⟨σ3, c1, c2, c3⟩ := c_add b3 (by omega) x3
    obtain ⟨σ4, d1, d2, d3⟩ := c_add c3 (by omega) x4
    obtain ⟨σ5, e1, e2, e3⟩ := c_add d3 (by omega) x5
    rw [xp_w (by omega) (by omega), if_neg (show ¬ (80 : Int) < (s : Int) + 20 by omega), Option.bind_some]
    try dsimp only
    rw [if_neg (show ¬ (1 : Int) = 0 by decide), a1, Option.bind_some]
    try dsimp only
    rw [b1, Option.bind_some]
    try dsimp only
    rw [c1, Option.bind_some]
    try dsimp only
    rw [d1, Option.bind_some]
    try dsimp only
    rw [e1, Option.bind_some]
    try dsimp only
    unfold f_X8_size f_X10_accept
    rw [Option.bind_some, xst, Option.bind_some, e3.1]
    have g := (((a2.tr b2).tr c2).tr d2).tr e2
    refine ⟨_, rfl, (g.mono (fun a k z => Or.inl z)).u1 (Or.inr ⟨rfl, rfl⟩), ⟨by rw [xu11, if_neg (by omega)]; exact e3.1, fun k hk => ?_⟩, by rw [xu11, if_pos ⟨rfl, rfl⟩]⟩
    rw [xu11, if_neg (by omega), e3.2 k (by omega)]
    exact apB_fd hk
  · intro h8 hs
    rw [xp_w (by omega) (by omega), if_pos (show (80 : Int) < (s : Int) + 20 by omega), Option.bind_some]
    try dsimp only
    rw [if_pos rfl]
    unfold f_X10_refuse
    rw [xst, Option.bind_some]
theorem c_end (hT : TC σ B s) (x : Int) : f_X10_end σ x = if 0 ≤ x ∧ x ≤ s then some (xm_u1 (xm_u1 σ 2 1 x) 1 8 0, x) else some (xm_u1 σ 1 8 3, -9) := by
  unfold f_X10_end f_X8_size f_X8_keep f_X10_accept f_X10_refuse
  rw [hT.1]
  by_cases c1 : x < 0
  · rw [if_pos c1, if_neg (by omega), xst, Option.bind_some]
  · rw [if_neg c1, Option.bind_some]
    try dsimp only
    by_cases c2 : (s : Int) < x
    · rw [if_pos c2, if_neg (by omega), xst, Option.bind_some]
    · rw [if_neg c2, if_neg c1, hT.1, if_neg c2, xst, Option.bind_some, if_pos ⟨by omega, by omega⟩, xst, Option.bind_some]
end XG
