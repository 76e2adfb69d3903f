/-! ===== tell: the text comes onto the tape and is a record ===== -/
theorem J_nat {n : Nat} (h : n < 2147483648) : (xm_J (n : Int)).toBitVec = BitVec.ofNat 32 n := by
  show BitVec.ofInt 32 (n : Int) = _
  rw [BitVec.ofInt_natCast]
theorem bv_int {n : Nat} (h : n < 2147483648) : (BitVec.ofNat 32 n).toInt = (n : Int) := by
  rw [BitVec.toInt_eq_toNat_of_lt]
  · rw [BitVec.toNat_ofNat, Nat.mod_eq_of_lt (by omega)]
  · rw [BitVec.toNat_ofNat, Nat.mod_eq_of_lt (by omega)]
    omega
theorem or_lt {x y : Nat} (hx : x < 2147483648) (hy : y < 2147483648) : x ||| y < 2147483648 := Nat.or_lt_two_pow (n := 31) hx hy
theorem or_nat {x y : Nat} (hx : x < 2147483648) (hy : y < 2147483648) : xm_or (x : Int) (y : Int) = ((x ||| y : Nat) : Int) := by
  show ((xm_J (x : Int)).toBitVec ||| (xm_J (y : Int)).toBitVec).toInt = _
  rw [J_nat hx, J_nat hy, ← BitVec.ofNat_or, bv_int (or_lt hx hy)]
theorem shl_nat : ∀ a : Nat, a < 128 → xm_shli (a : Int) 24 = ((a * 16777216 : Nat) : Int) ∧ xm_shli (a : Int) 16 = ((a * 65536 : Nat) : Int) ∧ xm_shli (a : Int) 8 = ((a * 256 : Nat) : Int) := by decide +kernel
theorem or_add {x y i : Nat} (h : y < 2 ^ i) (hd : 2 ^ i ∣ x) : x ||| y = x + y := by
  obtain ⟨k, rfl⟩ := hd
  have := Nat.shiftLeft_add_eq_or_of_lt h k
  rw [Nat.shiftLeft_eq, Nat.mul_comm] at this
  exact this.symm
theorem at4_nat {a b c d : Nat} (ha : a < 128) (hb : b < 128) (hc : c < 128) (hd : d < 128) : xm_or (xm_or (xm_or (xm_shli (a : Int) 24) (xm_shli (b : Int) 16)) (xm_shli (c : Int) 8)) (d : Int) = ((a * 16777216 + b * 65536 + c * 256 + d : Nat) : Int) := by
  rw [(shl_nat a ha).1, (shl_nat b hb).2.1, (shl_nat c hc).2.2]
  rw [or_nat (by omega) (by omega), or_add (i := 24) (by omega) ⟨a, by omega⟩, or_nat (by omega) (by omega), or_add (i := 16) (by omega) ⟨a * 256 + b, by omega⟩, or_nat (by omega) (by omega), or_add (i := 8) (by omega) ⟨a * 65536 + b * 256 + c, by omega⟩]
theorem and_nat {x : Nat} (hx : x < 2147483648) : xm_and (x : Int) 255 = ((x % 256 : Nat) : Int) := by
  show ((xm_J (x : Int)).toBitVec &&& (xm_J ((255 : Nat) : Int)).toBitVec).toInt = _
  rw [J_nat hx, J_nat (by decide), ← BitVec.ofNat_and, show x &&& 255 = x % 256 from Nat.and_two_pow_sub_one_eq_mod x 8, bv_int (by omega)]
theorem shr_nat {x : Nat} (hx : x < 2147483648) : xm_shr (x : Int) 24 = ((x / 16777216 : Nat) : Int) ∧ xm_shr (x : Int) 16 = ((x / 65536 : Nat) : Int) ∧ xm_shr (x : Int) 8 = ((x / 256 : Nat) : Int) ∧ xm_shr (x : Int) 0 = (x : Int) := by
  have key : ∀ k : Nat, (xm_J (x : Int)).toBitVec.sshiftRight k = BitVec.ofNat 32 (x / 2 ^ k) := by
    intro k
    rw [J_nat hx]
    apply BitVec.eq_of_toInt_eq
    rw [BitVec.toInt_sshiftRight, bv_int hx, bv_int (Nat.lt_of_le_of_lt (Nat.div_le_self _ _) hx), Int.shiftRight_eq_div_pow]
    exact (Int.natCast_ediv x (2 ^ k)).symm
  refine ⟨?_, ?_, ?_, ?_⟩
  · show ((xm_J (x : Int)).toBitVec.sshiftRight 24).toInt = _
    rw [key, bv_int (Nat.lt_of_le_of_lt (Nat.div_le_self _ _) hx)]
  · show ((xm_J (x : Int)).toBitVec.sshiftRight 16).toInt = _
    rw [key, bv_int (Nat.lt_of_le_of_lt (Nat.div_le_self _ _) hx)]
  · show ((xm_J (x : Int)).toBitVec.sshiftRight 8).toInt = _
    rw [key, bv_int (Nat.lt_of_le_of_lt (Nat.div_le_self _ _) hx)]
  · show ((xm_J (x : Int)).toBitVec.sshiftRight 0).toInt = _
    rw [key, bv_int (Nat.lt_of_le_of_lt (Nat.div_le_self _ _) hx)]
    omega
theorem byt_x {x : Nat} (hx : x < 2147483648) : byt (x : Int) 24 = ((x / 16777216 % 256 : Nat) : Int) ∧ byt (x : Int) 16 = ((x / 65536 % 256 : Nat) : Int) ∧ byt (x : Int) 8 = ((x / 256 % 256 : Nat) : Int) ∧ byt (x : Int) 0 = ((x % 256 : Nat) : Int) := by
  obtain ⟨h1, h2, h3, h4⟩ := shr_nat hx
  unfold byt
  rw [h1, h2, h3, h4]
  exact ⟨and_nat (Nat.lt_of_le_of_lt (Nat.div_le_self _ _) hx), and_nat (Nat.lt_of_le_of_lt (Nat.div_le_self _ _) hx), and_nat (Nat.lt_of_le_of_lt (Nat.div_le_self _ _) hx), and_nat hx⟩
theorem byt_nat {a b c d : Nat} (ha : a < 128) (hb : b < 128) (hc : c < 128) (hd : d < 128) : byt (xm_or (xm_or (xm_or (xm_shli (a : Int) 24) (xm_shli (b : Int) 16)) (xm_shli (c : Int) 8)) (d : Int)) 24 = (a : Int) ∧ byt (xm_or (xm_or (xm_or (xm_shli (a : Int) 24) (xm_shli (b : Int) 16)) (xm_shli (c : Int) 8)) (d : Int)) 16 = (b : Int) ∧ byt (xm_or (xm_or (xm_or (xm_shli (a : Int) 24) (xm_shli (b : Int) 16)) (xm_shli (c : Int) 8)) (d : Int)) 8 = (c : Int) ∧ byt (xm_or (xm_or (xm_or (xm_shli (a : Int) 24) (xm_shli (b : Int) 16)) (xm_shli (c : Int) 8)) (d : Int)) 0 = (d : Int) := by
  rw [at4_nat ha hb hc hd]
  have key : ∀ x : Nat, x = a * 16777216 + b * 65536 + c * 256 + d → x < 2147483648 ∧ x / 16777216 % 256 = a ∧ x / 65536 % 256 = b ∧ x / 256 % 256 = c ∧ x % 256 = d := by
    intro x hx
    omega
  obtain ⟨x, hx⟩ : ∃ x : Nat, x = a * 16777216 + b * 65536 + c * 256 + d := ⟨_, rfl⟩
  obtain ⟨k0, k1, k2, k3, k4⟩ := key x hx
  rw [← hx]
  obtain ⟨h1, h2, h3, h4⟩ := byt_x k0
  rw [h1, h2, h3, h4, k1, k2, k3, k4]
  exact ⟨rfl, rfl, rfl, rfl⟩
