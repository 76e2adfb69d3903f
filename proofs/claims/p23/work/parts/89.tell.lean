/-! ===== tell: the text comes onto the tape and is a record ===== -/
theorem J_nat {n : Nat} (h : n < 2147483648) : (xm_J (n : Int)).toBitVec = BitVec.ofNat 32 n := by
  show BitVec.ofInt 32 (n : Int) = _
  rw [BitVec.ofInt_natCast]
theorem bv_int {n : Nat} (h : n < 2147483648) : (BitVec.ofNat 32 n).toInt = (n : Int) := by
  rw [BitVec.toInt_eq_toNat_of_lt]
  · rw [BitVec.toNat_ofNat, Nat.mod_eq_of_lt (by omega)]
  · rw [BitVec.toNat_ofNat, Nat.mod_eq_of_lt (by omega)]
    omega
theorem or_lt {x y : Nat} (hx : x < 2147483648) (hy : y < 2147483648) : x ||| y < 2147483648 := Nat.or_lt_two_pow (n := 31) hx hy
theorem or_nat {x y : Nat} (hx : x < 2147483648) (hy : y < 2147483648) : xm_or (x : Int) (y : Int) = ((x ||| y : Nat) : Int) := by
  show ((xm_J (x : Int)).toBitVec ||| (xm_J (y : Int)).toBitVec).toInt = _
  rw [J_nat hx, J_nat hy, ← BitVec.ofNat_or, bv_int (or_lt hx hy)]
theorem shl_nat : ∀ a : Nat, a < 128 → xm_shli (a : Int) 24 = ((a * 16777216 : Nat) : Int) ∧ xm_shli (a : Int) 16 = ((a * 65536 : Nat) : Int) ∧ xm_shli (a : Int) 8 = ((a * 256 : Nat) : Int) := by decide +kernel
theorem or_add {x y i : Nat} (h : y < 2 ^ i) (hd : 2 ^ i ∣ x) : x ||| y = x + y := by
  obtain ⟨k, rfl⟩ := hd
  have := Nat.shiftLeft_add_eq_or_of_lt h k
  rw [Nat.shiftLeft_eq, Nat.mul_comm] at this
  exact this.symm
theorem at4_nat {a b c d : Nat} (ha : a < 128) (hb : b < 128) (hc : c < 128) (hd : d < 128) : xm_or (xm_or (xm_or (xm_shli (a : Int) 24) (xm_shli (b : Int) 16)) (xm_shli (c : Int) 8)) (d : Int) = ((a * 16777216 + b * 65536 + c * 256 + d : Nat) : Int) := by
  rw [(shl_nat a ha).1, (shl_nat b hb).2.1, (shl_nat c hc).2.2]
  rw [or_nat (by omega) (by omega), or_add (i := 24) (by omega) ⟨a, by omega⟩, or_nat (by omega) (by omega), or_add (i := 16) (by omega) ⟨a * 256 + b, by omega⟩, or_nat (by omega) (by omega), or_add (i := 8) (by omega) ⟨a * 65536 + b * 256 + c, by omega⟩]
theorem and_nat {x : Nat} (hx : x < 2147483648) : xm_and (x : Int) 255 = ((x % 256 : Nat) : Int) := by
  show ((xm_J (x : Int)).toBitVec &&& (xm_J ((255 : Nat) : Int)).toBitVec).toInt = _
  rw [J_nat hx, J_nat (by decide), ← BitVec.ofNat_and, show x &&& 255 = x % 256 from Nat.and_two_pow_sub_one_eq_mod x 8, bv_int (by omega)]
theorem shr_nat {x : Nat} (hx : x < 2147483648) : xm_shr (x : Int) 24 = ((x / 16777216 : Nat) : Int) ∧ xm_shr (x : Int) 16 = ((x / 65536 : Nat) : Int) ∧ xm_shr (x : Int) 8 = ((x / 256 : Nat) : Int) ∧ xm_shr (x : Int) 0 = (x : Int) := by
  have key : ∀ k : Nat, (xm_J (x : Int)).toBitVec.sshiftRight k = BitVec.ofNat 32 (x / 2 ^ k) := by
    intro k
    rw [J_nat hx]
    apply BitVec.eq_of_toInt_eq
    rw [BitVec.toInt_sshiftRight, bv_int hx, bv_int (Nat.lt_of_le_of_lt (Nat.div_le_self _ _) hx), Int.shiftRight_eq_div_pow]
    exact (Int.natCast_ediv x (2 ^ k)).symm
  refine ⟨?_, ?_, ?_, ?_⟩
  · show ((xm_J (x : Int)).toBitVec.sshiftRight 24).toInt = _
    rw [key, bv_int (Nat.lt_of_le_of_lt (Nat.div_le_self _ _) hx)]
  · show ((xm_J (x : Int)).toBitVec.sshiftRight 16).toInt = _
    rw [key, bv_int (Nat.lt_of_le_of_lt (Nat.div_le_self _ _) hx)]
  · show ((xm_J (x : Int)).toBitVec.sshiftRight 8).toInt = _
    rw [key, bv_int (Nat.lt_of_le_of_lt (Nat.div_le_self _ _) hx)]
  · show ((xm_J (x : Int)).toBitVec.sshiftRight 0).toInt = _
    rw [key, bv_int (Nat.lt_of_le_of_lt (Nat.div_le_self _ _) hx)]
    omega
theorem byt_x {x : Nat} (hx : x < 2147483648) : byt (x : Int) 24 = ((x / 16777216 % 256 : Nat) : Int) ∧ byt (x : Int) 16 = ((x / 65536 % 256 : Nat) : Int) ∧ byt (x : Int) 8 = ((x / 256 % 256 : Nat) : Int) ∧ byt (x : Int) 0 = ((x % 256 : Nat) : Int) := by
  obtain ⟨h1, h2, h3, h4⟩ := shr_nat hx
  unfold byt
  rw [h1, h2, h3, h4]
  exact ⟨and_nat (Nat.lt_of_le_of_lt (Nat.div_le_self _ _) hx), and_nat (Nat.lt_of_le_of_lt (Nat.div_le_self _ _) hx), and_nat (Nat.lt_of_le_of_lt (Nat.div_le_self _ _) hx), and_nat hx⟩
theorem byt_nat {a b c d : Nat} (ha : a < 128) (hb : b < 128) (hc : c < 128) (hd : d < 128) : byt (xm_or (xm_or (xm_or (xm_shli (a : Int) 24) (xm_shli (b : Int) 16)) (xm_shli (c : Int) 8)) (d : Int)) 24 = (a : Int) ∧ byt (xm_or (xm_or (xm_or (xm_shli (a : Int) 24) (xm_shli (b : Int) 16)) (xm_shli (c : Int) 8)) (d : Int)) 16 = (b : Int) ∧ byt (xm_or (xm_or (xm_or (xm_shli (a : Int) 24) (xm_shli (b : Int) 16)) (xm_shli (c : Int) 8)) (d : Int)) 8 = (c : Int) ∧ byt (xm_or (xm_or (xm_or (xm_shli (a : Int) 24) (xm_shli (b : Int) 16)) (xm_shli (c : Int) 8)) (d : Int)) 0 = (d : Int) := by
  rw [at4_nat ha hb hc hd]
  have key : ∀ x : Nat, x = a * 16777216 + b * 65536 + c * 256 + d → x < 2147483648 ∧ x / 16777216 % 256 = a ∧ x / 65536 % 256 = b ∧ x / 256 % 256 = c ∧ x % 256 = d := by
    intro x hx
    omega
  obtain ⟨x, hx⟩ : ∃ x : Nat, x = a * 16777216 + b * 65536 + c * 256 + d := ⟨_, rfl⟩
  obtain ⟨k0, k1, k2, k3, k4⟩ := key x hx
  rw [← hx]
  obtain ⟨h1, h2, h3, h4⟩ := byt_x k0
  rw [h1, h2, h3, h4, k1, k2, k3, k4]
  exact ⟨rfl, rfl, rfl, rfl⟩
section XTE
variable {σ : xm_Mem} {l : List Int}
theorem xTeI : ∀ {k : Nat}, k < 128 → ∃ n : Nat, n < 128 ∧ ((k : Nat) : Int) = n := fun {k} h => ⟨k, h, rfl⟩
theorem atv_l (hby : ∀ k, k < l.length → σ.1 89 k = lB l k) (k : Nat) : xm_atv σ 89 l.length k = lB l k := by
  unfold xm_atv
  by_cases h : k < l.length
  · rw [if_pos h, hby k h]
  · rw [if_neg h]
    unfold lB
    rw [List.getD_eq_getElem?_getD, List.getElem?_eq_none (by omega)]
    rfl
theorem lB_out {k : Nat} (h : l.length ≤ k) : lB l k = 0 := by
  unfold lB
  rw [List.getD_eq_getElem?_getD, List.getElem?_eq_none h]
  rfl
theorem at4_byt (hby : ∀ k, k < l.length → σ.1 89 k = lB l k) (hr : ∀ k, k < l.length → 0 ≤ lB l k ∧ lB l k ≤ 127) (k : Nat) : byt (xm_at4 σ 89 l.length k) 24 = lB l k ∧ byt (xm_at4 σ 89 l.length k) 16 = lB l (k + 1) ∧ byt (xm_at4 σ 89 l.length k) 8 = lB l (k + 2) ∧ byt (xm_at4 σ 89 l.length k) 0 = lB l (k + 3) := by
  have hn : ∀ k, ∃ n : Nat, n < 128 ∧ lB l k = (n : Int) := by
    intro k
    by_cases h : k < l.length
    · have := hr k h
      exact ⟨(lB l k).toNat, by omega, by omega⟩
    · exact ⟨0, by decide, lB_out (by omega)⟩
  unfold xm_at4
  rw [atv_l hby, atv_l hby, atv_l hby, atv_l hby]
  obtain ⟨a, a1, a2⟩ := hn k
  obtain ⟨b, b1, b2⟩ := hn (k + 1)
  obtain ⟨c, c1, c2⟩ := hn (k + 2)
  obtain ⟨d, d1, d2⟩ := hn (k + 3)
  rw [a2, b2, c2, d2]
  exact byt_nat a1 b1 c1 d1
theorem x5_byt (hby : ∀ k, k < l.length → σ.1 89 k = lB l k) (hr : ∀ k, k < l.length → 0 ≤ lB l k ∧ lB l k ≤ 127) (b j : Nat) (hj : j < 20) : byt (x5i (xm_at4 σ 89 l.length b) (xm_at4 σ 89 l.length (b + 4)) (xm_at4 σ 89 l.length (b + 8)) (xm_at4 σ 89 l.length (b + 12)) (xm_at4 σ 89 l.length (b + 16)) j) (24 - 8 * ((j % 4 : Nat) : Int)) = lB l (b + j) := by
  have key : ∀ q r : Nat, r < 4 → byt (xm_at4 σ 89 l.length (b + 4 * q)) (24 - 8 * ((r : Nat) : Int)) = lB l (b + (4 * q + r)) := by
    intro q r hr4
    obtain ⟨h1, h2, h3, h4⟩ := at4_byt hby hr (b + 4 * q)
    have hq : r = 0 ∨ r = 1 ∨ r = 2 ∨ r = 3 := by omega
    rcases hq with rfl | rfl | rfl | rfl
    · exact h1
    · exact h2
    · exact h3
    · exact h4
  have hm : j % 4 < 4 := Nat.mod_lt _ (by decide)
  have h4 : j / 4 < 5 := by omega
  have e := key (j / 4) (j % 4) hm
  rw [show 4 * (j / 4) + j % 4 = j by omega] at e
  rw [← e]
  congr 1
  unfold x5i
  have hq : j / 4 = 0 ∨ j / 4 = 1 ∨ j / 4 = 2 ∨ j / 4 = 3 ∨ j / 4 = 4 := by omega
  rcases hq with z | z | z | z | z
  · rw [z, if_pos (by omega), Nat.mul_zero, Nat.add_zero]
  · rw [z, if_neg (by omega), if_pos (by omega)]
  · rw [z, if_neg (by omega), if_neg (by omega), if_pos (by omega)]
  · rw [z, if_neg (by omega), if_neg (by omega), if_neg (by omega), if_pos (by omega)]
  · rw [z, if_neg (by omega), if_neg (by omega), if_neg (by omega), if_neg (by omega)]
def zTe (a k : Nat) : Prop := zTp a k ∨ (a = 1 ∧ k = 8) ∨ (a = 84 ∧ (k = 2 ∨ k = 3))
theorem sb_gx {σ' : xm_Mem} {Z : Nat → Nat → Prop} {v n c : Nat} (h : xm_SB σ v n c) (g : gx Z σ σ') (hz : ∀ k, Z 84 k → k ≠ 0 ∧ k ≠ 1 ∧ k ≠ 3) : xm_SB σ' v n c :=
  ⟨by rw [g.1 _ _ (fun z => (hz _ z).1 rfl)]; exact h.1, by rw [g.1 _ _ (fun z => (hz _ z).2.1 rfl)]; exact h.2.1, by rw [g.1 _ _ (fun z => (hz _ z).2.2 rfl)]; exact h.2.2.1, h.2.2.2.1, h.2.2.2.2.1, by rw [g.2.2]; exact h.2.2.2.2.2.1, h.2.2.2.2.2.2⟩
theorem tc_SB {c : Nat} (h : xm_SB σ 89 34 c) : xm_tc σ = c := by unfold xm_tc; rw [h.2.2.1]; rfl
theorem gB_SB {c : Nat} (h : xm_SB σ 89 34 c) : xm_gB σ := by unfold xm_gB; rw [tc_SB h]; exact h
/-- what the end and the record begin with -/
theorem te_end {σ0 : xm_Mem} {B : Nat → Int} {s : Nat} (hg : gx zTe σ0 σ) (h34 : l.length ≤ 34) (hS : xm_SB σ 89 34 l.length) (hT : TC σ B s) (hs : l.length ≤ s) (hB : ∀ k, k < l.length → B k = lB l k) : ∃ σr, f_L_tell_j57 σ = (f_X10_record σr).bind (fun o2 => some (o2.1, o2.2)) ∧ gx zTe σ0 σr ∧ TC σr (lB l) l.length ∧ xm_SB σr 89 34 0 ∧ σr.1 1 8 = 0 := by
  have e0 := c_end hT (l.length : Int)
  rw [if_pos ⟨by omega, by omega⟩] at e0
  have g1 : gx zTe σ (xm_u1 (xm_u1 σ 2 1 (l.length : Int)) 1 8 0) := (((gx.rf _ _).u1 (Or.inl (Or.inl ⟨rfl, rfl⟩))).u1 (Or.inr (Or.inl ⟨rfl, rfl⟩)))
  have hS1 : xm_SB (xm_u1 (xm_u1 σ 2 1 (l.length : Int)) 1 8 0) 89 34 l.length := ⟨hS.1, hS.2.1, hS.2.2.1, hS.2.2.2⟩
  have e21 : (xm_u1 (xm_u1 σ 2 1 (l.length : Int)) 1 8 0).1 2 1 = (l.length : Int) := by
    rw [xm_u1_ne _ _ (by omega)]
    exact xm_u1_at _ _ _ _
  have e3 : ∀ k, (xm_u1 (xm_u1 σ 2 1 (l.length : Int)) 1 8 0).1 3 k = σ.1 3 k := fun k => by rw [xm_u1_ne _ _ (by omega), xm_u1_ne _ _ (by omega)]
  have e8 : (xm_u1 (xm_u1 σ 2 1 (l.length : Int)) 1 8 0).1 1 8 = 0 := xm_u1_at _ _ _ _
  unfold f_L_tell_j57
  rw [tc_SB hS, e0]
  generalize xm_u1 (xm_u1 σ 2 1 (l.length : Int)) 1 8 0 = σ1 at g1 hS1 e21 e3 e8 ⊢
  have hx : ((some (σ1, (l.length : Int))).bind (fun o => @ite _ (xm_gB o.1) (Classical.propDecidable _) (if o.2 < 0 then (some (xm_s0 o.1, o.2)) else ((f_X10_record (xm_s0 o.1)).bind (fun o2 => some (o2.1, o2.2)))) none)) = (f_X10_record (xm_s0 σ1)).bind (fun o2 => some (o2.1, o2.2)) := by
    show @ite _ (xm_gB σ1) (Classical.propDecidable _) (if (l.length : Int) < 0 then (some (xm_s0 σ1, (l.length : Int))) else ((f_X10_record (xm_s0 σ1)).bind (fun o2 => some (o2.1, o2.2)))) none = _
    rw [if_pos (gB_SB hS1), if_neg (by omega)]
  rw [hx]
  have g2 : gx zTe σ1 (xm_s0 σ1) := by
    unfold xm_s0
    refine gx.u1 ?_ (Or.inr (Or.inr ⟨rfl, Or.inr rfl⟩))
    split
    · exact gx.rf _ _
    · exact (gx.rf _ _).u1 (Or.inr (Or.inr ⟨rfl, Or.inl rfl⟩))
  have eo : ∀ a k, ¬ a = 84 → (xm_s0 σ1).1 a k = σ1.1 a k := by
    intro a k ha
    unfold xm_s0
    rw [xm_u1_ne _ _ (fun z => ha z.1)]
    split
    · rfl
    · exact xm_u1_ne _ _ (fun z => ha z.1)
  have e84 : ∀ k, k ≠ 2 → k ≠ 3 → (xm_s0 σ1).1 84 k = σ1.1 84 k := by
    intro k h2 h3
    unfold xm_s0
    rw [xm_u1_ne _ _ (fun z => h3 z.2)]
    split
    · rfl
    · exact xm_u1_ne _ _ (fun z => h2 z.2)
  refine ⟨xm_s0 σ1, rfl, (hg.tr g1).tr g2, ⟨by rw [eo _ _ (by decide)]; exact e21, fun k hk => by rw [eo _ _ (by decide), e3, hT.2 k (by omega), hB k hk]⟩, ⟨by rw [e84 _ (by decide) (by decide)]; exact hS1.1, by rw [e84 _ (by decide) (by decide)]; exact hS1.2.1, ?_, hS1.2.2.2.1, hS1.2.2.2.2.1, by rw [g2.2.2]; exact hS1.2.2.2.2.2.1, by decide, by decide⟩, by rw [eo _ _ (by decide)]; exact e8⟩
  unfold xm_s0
  exact xm_u1_at _ _ _ _
theorem te_feed {B : Nat → Int} {s : Nat} (hs : s + 20 ≤ 80) (hS : xm_SB σ 89 34 l.length) (hby : ∀ k, k < l.length → σ.1 89 k = lB l k) (hr : ∀ k, k < l.length → 0 ≤ lB l k ∧ lB l k ≤ 127) (hT : TC σ B s) (hB : ∀ k, k < s → B k = lB l k) (hlt : s < l.length) (self : xm_Mem → Int → Option xm_Out) : ∃ σ', f_L_tell_b2 self σ (s : Int) = self σ' ((s + 20 : Nat) : Int) ∧ gx zTe σ σ' ∧ xm_SB σ' 89 34 l.length ∧ (∀ k, k < l.length → σ'.1 89 k = lB l k) ∧ ∃ B', TC σ' B' (s + 20) ∧ ∀ k, k < s + 20 → B' k = lB l k := by
  obtain ⟨σ', f1, f2, f3, f4⟩ := (c_feed hT (xm_at4 σ 89 l.length s) (xm_at4 σ 89 l.length (s + 4)) (xm_at4 σ 89 l.length (s + 8)) (xm_at4 σ 89 l.length (s + 12)) (xm_at4 σ 89 l.length (s + 16))).1 hs
  have g : gx zTe σ σ' := f2.mono (fun a k z => by
    rcases z with z | z
    · exact Or.inl z
    · exact Or.inr (Or.inl z))
  refine ⟨σ', ?_, g, sb_gx hS f2 (fun k z => by unfold zTp at z; omega), fun k hk => by rw [f2.1 _ _ (fun z => by unfold zTp at z; omega)]; exact hby k hk, _, f3, fun k hk => ?_⟩
  · unfold f_L_tell_b2
    rw [if_pos ⟨gB_SB hS, by omega, by omega⟩, Int.toNat_natCast, tc_SB hS, if_pos hlt, f1]
    show self σ' (xm_w ((s : Int) + 20)) = _
    rw [xp_w (by omega) (by omega)]
    rfl
  · unfold fdB
    by_cases h : k < s
    · rw [if_pos h, hB k h]
    · rw [if_neg h, x5_byt hby hr s (k - s) (by omega), show s + (k - s) = k by omega]
/-- tell: the record is read from the text's bytes -/
theorem te_pre (h1 : 1 ≤ l.length) (hS : xm_SB σ 89 34 l.length) (hby : ∀ k, k < l.length → σ.1 89 k = lB l k) (hr : ∀ k, k < l.length → 0 ≤ lB l k ∧ lB l k ≤ 127) (hT : σ.1 2 1 = 0) : ∃ σr, f_L_tell σ = (f_X10_record σr).bind (fun o2 => some (o2.1, o2.2)) ∧ gx zTe σ σr ∧ TC σr (lB l) l.length ∧ xm_SB σr 89 34 0 ∧ σr.1 1 8 = 0 := by
  have h34 : l.length ≤ 34 := hS.2.2.2.2.2.2.1
  have hT0 : TC σ (fun _ => 0) 0 := ⟨hT, fun k hk => absurd hk (Nat.not_lt_zero _)⟩
  unfold f_L_tell f_L_tell_l2
  obtain ⟨n, hn⟩ : ∃ n, xm_fuel = n + 3 := ⟨99997, rfl⟩
  rw [hn]
  obtain ⟨σ1, a1, a2, a3, a4, B1, a5, a6⟩ := te_feed (s := 0) (by omega) hS hby hr hT0 (fun k hk => absurd hk (Nat.not_lt_zero _)) (by omega) (xm_it f_L_tell_b2 (fun _ _ => none) (n + 2))
  show ∃ σr, f_L_tell_b2 (xm_it f_L_tell_b2 (fun _ _ => none) (n + 2)) σ ((0 : Nat) : Int) = _ ∧ _
  rw [a1]
  show ∃ σr, f_L_tell_b2 (xm_it f_L_tell_b2 (fun _ _ => none) (n + 1)) σ1 ((0 + 20 : Nat) : Int) = _ ∧ _
  have fin : ∀ (τ : xm_Mem) (B : Nat → Int) (s : Nat) (self : xm_Mem → Int → Option xm_Out), gx zTe σ τ → xm_SB τ 89 34 l.length → TC τ B s → (∀ k, k < s → B k = lB l k) → l.length ≤ s → s ≤ 100 → ∃ σr, f_L_tell_b2 self τ (s : Int) = (f_X10_record σr).bind (fun o2 => some (o2.1, o2.2)) ∧ gx zTe σ σr ∧ TC σr (lB l) l.length ∧ xm_SB σr 89 34 0 ∧ σr.1 1 8 = 0 := by
    intro τ B s self g hSt hTt hBt hls hs1
    obtain ⟨σr, r1, r2⟩ := te_end g h34 hSt hTt hls (fun k hk => hBt k (by omega))
    refine ⟨σr, ?_, r2⟩
    unfold f_L_tell_b2
    rw [if_pos ⟨gB_SB hSt, by omega, by omega⟩, Int.toNat_natCast, tc_SB hSt, if_neg (by omega)]
    exact r1
  by_cases hc : l.length ≤ 20
  · exact fin σ1 B1 (0 + 20) _ a2 a3 a5 a6 (by omega) (by omega)
  · obtain ⟨σ2, b1, b2, b3, b4, B2, b5, b6⟩ := te_feed (s := 0 + 20) (by omega) a3 a4 hr a5 a6 (by omega) (xm_it f_L_tell_b2 (fun _ _ => none) (n + 1))
    rw [b1]
    show ∃ σr, f_L_tell_b2 (xm_it f_L_tell_b2 (fun _ _ => none) n) σ2 ((0 + 20 + 20 : Nat) : Int) = _ ∧ _
    exact fin σ2 B2 (0 + 20 + 20) _ (a2.tr b2) b3 b5 b6 (by omega) (by omega)
end XTE
