/-! ===== an abstract machine over the kit's rows: the whole room as one memory ===== -/
abbrev xm_Mem : Type := (Nat → Nat → Int) × (Nat → Nat → Int64) × Nat
abbrev xm_Out : Type := xm_Mem × Int
/-- base, array classes, the kit's slots, the heap below, the texts' cells, their bytes' cells; where the line is made; the script: its cell, length, ints; the digits' two tables -/
abbrev xm_Gm : Type := Nat × (Nat → ClassId) × va_G × Heap × (Nat → Nat) × (Nat → Nat) × Nat × (Nat × Nat × (Nat → Int32)) × (Nat × Nat)
def xm_B (Γ : xm_Gm) : Nat := Γ.1
def xm_cA (Γ : xm_Gm) : Nat → ClassId := Γ.2.1
def xm_D (Γ : xm_Gm) : va_G := Γ.2.2.1
def xm_H0 (Γ : xm_Gm) : Heap := Γ.2.2.2.1
def xm_adK (Γ : xm_Gm) : Nat → Nat := Γ.2.2.2.2.1
def xm_adV (Γ : xm_Gm) : Nat → Nat := Γ.2.2.2.2.2.1
/-- where the line is made, counted from the base -/
def xm_el (Γ : xm_Gm) : Nat := 90 + Γ.2.2.2.2.2.2.1 % 100000
def xm_sb (Γ : xm_Gm) : Nat := Γ.2.2.2.2.2.2.2.1.1
def xm_sN (Γ : xm_Gm) : Nat := Γ.2.2.2.2.2.2.2.1.2.1
def xm_sx (Γ : xm_Gm) : Nat → Int32 := Γ.2.2.2.2.2.2.2.1.2.2
def xm_t1 (Γ : xm_Gm) : Nat := Γ.2.2.2.2.2.2.2.2.1
def xm_t2 (Γ : xm_Gm) : Nat := Γ.2.2.2.2.2.2.2.2.2
/-- the address of a place: the entries go round the line, which is made between them -/
def xm_of (l a : Nat) : Nat := if a ≤ 89 then a else if a < 110 then 2000000 + a else if a = 110 then l else if 1000000 ≤ a then 3000000 + a else if a - 21 < l then a - 21 else a - 20
def xm_ad (Γ : xm_Gm) (a : Nat) : Nat := xm_B Γ + xm_of (xm_el Γ) a
theorem xm_el_rg (Γ : xm_Gm) : 90 ≤ xm_el Γ ∧ xm_el Γ < 100090 := by unfold xm_el; omega
theorem xm_of_inj {l a b : Nat} (hl : 90 ≤ l ∧ l < 100090) (h : xm_of l a = xm_of l b) : a = b := by
  unfold xm_of at h
  (repeat' split at h) <;> omega
theorem xm_of_pos {l a : Nat} (hl : 90 ≤ l) (h : 1 ≤ a) : 1 ≤ xm_of l a := by
  unfold xm_of
  (repeat' split) <;> omega
theorem xm_ad_inj {Γ : xm_Gm} {a b : Nat} (h : xm_ad Γ a = xm_ad Γ b) : a = b := xm_of_inj (xm_el_rg Γ) (by unfold xm_ad at h; omega)
theorem xm_ad_gt {Γ : xm_Gm} {a : Nat} (h : 1 ≤ a) : xm_B Γ < xm_ad Γ a := by
  have := xm_of_pos (xm_el_rg Γ).1 h
  unfold xm_ad
  omega
theorem xm_ad_lo {Γ : xm_Gm} {a : Nat} (h : a ≤ 89) : xm_ad Γ a = xm_B Γ + a := by unfold xm_ad xm_of; rw [if_pos h]
-- ints
def xm_in (x : Int) : Prop := -2147483648 ≤ x ∧ x ≤ 2147483647
def xm_J (x : Int) : Int32 := Int32.ofInt x
def xm_w (x : Int) : Int := (Int32.ofInt x).toInt
theorem xm_in_toInt (x : Int32) : xm_in x.toInt := ⟨by have := Int32.le_toInt x; simpa using this, by have := Int32.toInt_lt x; simp at this; omega⟩
theorem xm_w_in (x : Int) : xm_in (xm_w x) := xm_in_toInt _
theorem xm_J_w (x : Int) : xm_J (xm_w x) = xm_J x := Int32.ofInt_toInt _
theorem xm_J_toInt {x : Int} (h : xm_in x) : (xm_J x).toInt = x := by
  obtain ⟨h1, h2⟩ := h
  exact Int32.toInt_ofInt_of_le (by simpa using h1) (by simp; omega)
theorem xm_w_id {x : Int} (h : xm_in x) : xm_w x = x := xm_J_toInt h
theorem xm_J_of (x : Int32) : xm_J x.toInt = x := by simp [xm_J]
theorem xm_J_add (a b : Int) : xm_J a + xm_J b = xm_J (xm_w (a + b)) := by rw [xm_J_w]; simp [xm_J, Int32.ofInt_add]
theorem xm_J_sub (a b : Int) : xm_J a - xm_J b = xm_J (xm_w (a - b)) := by rw [xm_J_w]; simp [xm_J, Int32.ofInt_sub]
theorem xm_J_mul (a b : Int) : xm_J a * xm_J b = xm_J (xm_w (a * b)) := by rw [xm_J_w]; simp [xm_J, Int32.ofInt_mul]
theorem xm_J_lt {a b : Int} (ha : xm_in a) (hb : xm_in b) : xm_J a < xm_J b ↔ a < b := by
  rw [Int32.lt_iff_toInt_lt, xm_J_toInt ha, xm_J_toInt hb]
theorem xm_J_le {a b : Int} (ha : xm_in a) (hb : xm_in b) : xm_J a ≤ xm_J b ↔ a ≤ b := by
  rw [Int32.le_iff_toInt_le, xm_J_toInt ha, xm_J_toInt hb]
theorem xm_J_eq {a b : Int} (ha : xm_in a) (hb : xm_in b) : xm_J a = xm_J b ↔ a = b := by
  rw [← Int32.toInt_inj, xm_J_toInt ha, xm_J_toInt hb]
theorem xm_in0 : xm_in 0 := ⟨by decide, by decide⟩
theorem xm_inc (n : Int) (h : (decide (-2147483648 ≤ n) && decide (n ≤ 2147483647)) = true) : xm_in n := by
  simp at h; exact h
theorem xm_J0 : xm_J 0 = 0 := rfl
theorem xm_in01 {x : Int} (h : 0 ≤ x ∧ x ≤ 1) : xm_in x := ⟨by omega, by omega⟩
theorem xm_clamp {i : Int} (h : xm_in i) : (xm_J i).toNatClampNeg = i.toNat := by
  show (xm_J i).toInt.toNat = _
  rw [xm_J_toInt h]
theorem xm_vp {i : Int} {n : Nat} (h : xm_in i) (h1 : 0 ≤ i ∧ i < (n : Int)) : vp_in (xm_J i) n := by
  rw [vp_in_iff, xm_J_toInt h]; exact h1
-- references
def xm_on (Γ : xm_Gm) (v : Int) : Option Nat := if v = 0 then none else some (xm_ad Γ v.toNat)
def xm_rf (Γ : xm_Gm) (v : Int) : Value := va_rf (xm_on Γ v)
theorem xm_rf_pos {Γ : xm_Gm} {v : Int} (h : 1 ≤ v) : xm_rf Γ v = .ref (xm_ad Γ v.toNat) := by
  unfold xm_rf xm_on
  rw [if_neg (by omega)]
  rfl
theorem xm_rf_0 {Γ : xm_Gm} : xm_rf Γ 0 = .null := rfl
theorem xm_on_inj {Γ : xm_Gm} {a b : Int} (ha : 0 ≤ a) (hb : 0 ≤ b) : xm_on Γ a = xm_on Γ b ↔ a = b := by
  unfold xm_on
  by_cases h1 : a = 0 <;> by_cases h2 : b = 0 <;> simp [h1, h2]
  · omega
  · constructor
    · intro z
      have := xm_ad_inj z
      omega
    · rintro rfl; rfl
def xm_val (Γ : xm_Gm) (t : Nat) (v : Int) (w : Int64) : Value := match t with
  | 1 => xm_rf Γ v
  | 2 => .long w
  | _ => .int (xm_J v)
/-- a text in the memory: its number and one -/
def xm_sn (Γ : xm_Gm) (v : Int) : Option Nat := if v = 0 then none else some (xm_adK Γ (v.toNat - 1))
def xm_cell (Γ : xm_Gm) (σ : xm_Mem) (a : Nat) : va_E := match (xm_lay a).1 with
  | 0 => .inr ((xm_lay a).2, (List.range (xm_nf (xm_lay a).2)).map (fun k => xm_val Γ (xm_ft (xm_lay a).2 k) (σ.1 a k) (σ.2.1 a k)))
  | 1 => .inl (xm_cA Γ 1, (xm_lay a).2, .inl (fun i => xm_J (σ.1 a i)))
  | 2 => .inl (xm_cA Γ 2, (xm_lay a).2, .inl (fun i => xm_J (σ.1 a i)))
  | 3 => .inl (xm_cA Γ 3, (xm_lay a).2, .inr (.inl (fun i => σ.2.1 a i)))
  | 6 => .inl (xm_cA Γ 6, (xm_lay a).2, .inl (fun i => xm_J (σ.1 a i)))
  | 7 => .inl (xm_cA Γ 7, (xm_lay a).2, .inr (.inr (.inr (.inr (fun i => xm_sn Γ (σ.1 a i))))))
  | 8 => .inl (xm_cA Γ 1, (xm_lay a).2, .inl (fun i => xm_J (σ.1 a i)))
  | k => .inl (xm_cA Γ k, (xm_lay a).2, .inr (.inr (.inr (.inr (fun i => xm_on Γ (σ.1 a i))))))
/-- the kind of a place: 0 int, 1 reference, 2 long, 3 boolean, 4 a byte of 0 .. 127 -/
def xm_tk (a k : Nat) : Nat := match (xm_lay a).1 with
  | 0 => xm_ft (xm_lay a).2 k
  | 1 => 0
  | 2 => 3
  | 3 => 2
  | 6 => 4
  | 8 => 0
  | _ => 1
def xm_T (σ : xm_Mem) : Prop := ∀ a k, xm_in (σ.1 a k) ∧ (xm_tk a k = 3 → 0 ≤ σ.1 a k ∧ σ.1 a k ≤ 1) ∧ (xm_tk a k = 1 → 0 ≤ σ.1 a k) ∧ (σ.2.2 < a → σ.1 a k = 0 ∧ σ.2.1 a k = 0) ∧ (xm_tk a k = 4 → 0 ≤ σ.1 a k ∧ σ.1 a k ≤ 127)
/-- a place that has its cell (110 once the line is made: 109 tells) -/
def xm_lv (σ : xm_Mem) (a : Nat) : Prop := (xm_lay a).1 ≤ 7 ∨ ((xm_lay a).1 = 8 ∧ σ.1 109 0 = 1)
/-- what 109 tells: whether the line is made, and where it is -/
def xm_gh (Γ : xm_Gm) (σ : xm_Mem) : Prop := σ.2.2 ≤ 89 ∨ (110 ≤ σ.2.2 ∧ σ.2.2 < 1000000 ∧ σ.1 109 1 = (xm_el Γ : Int) ∧ ((σ.1 109 0 = 0 ∧ σ.2.2 - 21 < xm_el Γ) ∨ (σ.1 109 0 = 1 ∧ xm_el Γ ≤ σ.2.2 - 20)))
/-- how many cells there are -/
def xm_top (σ : xm_Mem) : Nat := if σ.2.2 ≤ 89 then σ.2.2 else σ.2.2 - 21 + (σ.1 109 0).toNat
/-- there is a place for one more -/
abbrev xm_nxt (σ : xm_Mem) : Prop := σ.2.2 < 89 ∨ (110 ≤ σ.2.2 ∧ σ.2.2 < 999999 ∧ (σ.1 109 0 = 1 ∨ (σ.2.2 : Int) - 20 < σ.1 109 1))
def xm_R (Γ : xm_Gm) (I : xm_Mem → Prop) (σ : xm_Mem) (H : Heap) : Prop :=
  (∀ a, 1 ≤ a → a ≤ σ.2.2 → xm_lv σ a → va_at (xm_D Γ) xm_cl (xm_ad Γ a, xm_cell Γ σ a) H) ∧ H.size = xm_B Γ + 1 + xm_top σ ∧ xm_T σ ∧ I σ ∧ (∀ q, q ≤ xm_B Γ → H[q]? = (xm_H0 Γ)[q]?) ∧ xm_gh Γ σ
def xm_I (σ : xm_Mem) : Prop := 110 ≤ σ.2.2 ∧ ∀ a k b, xm_wire a k = some b → σ.1 a k = (b : Int)
def xm_tys (Γ : xm_Gm) : List (ClassId × FieldType) := [(xm_cA Γ 1, .int), (xm_cA Γ 2, .boolean), (xm_cA Γ 3, .long), (xm_cA Γ 4, .object RX3), (xm_cA Γ 5, .object RX1), (xm_cA Γ 6, .byte), (xm_cA Γ 7, .object "java/lang/String")]
-- texts: the distinct ones by their places
def xm_tx : List String := ["born", "wed", "part", "dead", "title", "yield", "call", "lost", "back", "male", "female", "of", "none", "and", "mixed", "equal", "last", "near", "writ", "born ", " male of ", " female of ", "none and ", " and "]
def xm_by : List (List Int32) := xm_tx.map (fun s => s.toList.map (fun c => Int32.ofNat c.toNat))
def xm_ln : List Nat := xm_tx.map (fun s => s.length)
/-- the class and entry of each use, and which text it is -/
def xm_use : List (String × Nat × Nat) := [(RX6, 133, 0), (RX6, 135, 1), (RX6, 137, 2), (RX6, 139, 3), (RX6, 141, 4), (RX6, 142, 5), (RX6, 144, 6), (RX6, 146, 7), (RX6, 148, 8), (RX6, 73, 9), (RX6, 82, 10), (RX6, 84, 11), (RX6, 108, 12), (RX6, 96, 13), (RX6, 150, 14), (RX6, 152, 15), (RX6, 154, 16), (RX6, 156, 17), (RX6, 158, 18), (RL, 45, 19), (RL, 54, 20), (RL, 56, 21), (RL, 58, 22), (RL, 60, 23), (RL, 62, 12), (RL, 71, 9), (RL, 73, 14), (RL, 75, 15), (RL, 77, 16), (RL, 79, 17), (RL, 89, 1), (RL, 110, 4), (RL, 112, 3)]
def xm_nst : List (String × Nat × MethodName × String) := [(RX10, 9, yX8_init, RX10), (RX10, 27, yX7_init, RX10), (RX10, 34, yX5_init, RX10), (RX10, 41, yX9_init, RX10), (RX5, 53, yX10_isPersonNumber, RX10), (RX2, 94, yX10_isPersonNumber, RX10), (RX1, 97, yX10_isPersonNumber, RX10), (RX4, 76, yX10_isPersonNumber, RX10), (RX10, 107, yX3_init, RX10)]
/-- the digits' tables, and the script: they stand below -/
def xm_K2 (Γ : xm_Gm) (U : State) : Prop := va_Z "java/lang/Integer" "DigitOnes" "[B" (.ref (xm_t1 Γ)) (fun q => xm_B Γ < q) U (xm_H0 Γ) ∧ va_Z "java/lang/Integer" "DigitTens" "[B" (.ref (xm_t2 Γ)) (fun q => xm_B Γ < q) U (xm_H0 Γ) ∧
  va_T .byte (xm_t1 Γ) 100 (fun j => .int (xm_J (48 + ((j % 10 : Nat) : Int)))) (fun q => xm_B Γ < q) U (xm_H0 Γ) ∧ va_T .byte (xm_t2 Γ) 100 (fun j => .int (xm_J (48 + ((j / 10 : Nat) : Int)))) (fun q => xm_B Γ < q) U (xm_H0 Γ) ∧ va_AO "java/lang/String" U ∧
  va_X (xm_sb Γ) (xm_sN Γ) (xm_sx Γ) U (xm_H0 Γ) ∧ xm_sb Γ < (xm_H0 Γ).size ∧ xm_sb Γ ≤ xm_B Γ
/-- what the tables say beside their words -/
def xm_K (Γ : xm_Gm) (U : State) : Prop := va_K (xm_D Γ) xm_cl (xm_tys Γ) U ∧ vk_S 24 xm_ln xm_by (xm_adK Γ) (xm_adV Γ) (fun q => xm_B Γ < q) U (xm_H0 Γ) ∧
  (∀ q ∈ xm_use, vk_R q.1 q.2.1 (xm_tx.getD q.2.2 "") (xm_adK Γ q.2.2) U) ∧ (∀ q ∈ xm_nst, va_Nw (.methodLinkNest q.1 q.2.1 q.2.2.1 q.2.2.2) U) ∧ va_AO RX3 U ∧ va_AO RX1 U ∧
  va_Z "java/lang/String" "COMPACT_STRINGS" "Z" (.int 1) (fun q => xm_B Γ < q) U (xm_H0 Γ) ∧ va_Zq "jdk/internal/util/Preconditions" "SIOOBE_FORMATTER" "Ljava/util/function/BiFunction;" (fun q => xm_B Γ < q) U (xm_H0 Γ) ∧ xm_K2 Γ U
-- the context of a walk
abbrev xm_X : Type := xm_Gm × (xm_Mem → Prop) × Launch × Program × Env × Room × State × MethodId × Array Value × List Frame × Method × Code × (xm_Out → State → Prop)
def xx_G (X : xm_X) : xm_Gm := X.1
def xx_I (X : xm_X) : xm_Mem → Prop := X.2.1
def xx_la (X : xm_X) : Launch := X.2.2.1
def xx_p (X : xm_X) : Program := X.2.2.2.1
def xx_e (X : xm_X) : Env := X.2.2.2.2.1
def xx_R (X : xm_X) : Room := X.2.2.2.2.2.1
def xx_s (X : xm_X) : State := X.2.2.2.2.2.2.1
def xx_m (X : xm_X) : MethodId := X.2.2.2.2.2.2.2.1
def xx_a (X : xm_X) : Array Value := X.2.2.2.2.2.2.2.2.1
def xx_b (X : xm_X) : List Frame := X.2.2.2.2.2.2.2.2.2.1
def xx_t (X : xm_X) : Method := X.2.2.2.2.2.2.2.2.2.2.1
def xx_c (X : xm_X) : Code := X.2.2.2.2.2.2.2.2.2.2.2.1
def xx_Q (X : xm_X) : xm_Out → State → Prop := X.2.2.2.2.2.2.2.2.2.2.2.2
abbrev xm_W (X : xm_X) (H : Heap) (locs : List Loc) (kc sc : Nat) (o : xm_Out) (g : JFrame) : Prop := W (xx_p X) (xx_la X) (xx_e X) (xx_R X) (xx_s X) (xx_m X) (xx_a X) (xx_b X) (xx_t X) (xx_c X) H locs kc sc (xx_Q X o) g
abbrev xm_A (X : xm_X) : Nat → Prop := fun q => xm_B (xx_G X) < q
/-- THE JUDGEMENT: if r tells an end, the machine comes to it from here -/
def xm_V (X : xm_X) (kc sc : Nat) (r : Option xm_Out) (σ : xm_Mem) (pc : Nat) (l : List (Nat × Value)) (st : List Value) : Prop :=
  ∀ o, r = some o → ∀ (H : Heap) (locs : List Loc) (ls : Array Slot), xm_R (xx_G X) (xx_I X) σ H → va_S (xm_A X) (xx_s X).heap H locs → lv_has ls (xx_c X).maxLocals l → xm_W X H locs kc sc o (F0 (xx_m X) pc ls st)
/-- what holds all along a method's walk -/
def xm_C (X : xm_X) (own : String) (cc : ByteArray) (nL fr mc ms : Nat) : Prop :=
  (xx_p X).tables.exec = Jvm.exec ∧ (xx_c X).code = cc ∧ (xx_c X).maxLocals = nL ∧ (xx_s X).vm.findClass own = some (xx_m X).cls ∧ (∀ w ∈ xm_tb, w.before (xx_a X) (xx_s X) = true) ∧ xm_K (xx_G X) (xx_s X) ∧ (xx_t X).locks = false ∧ xm_B (xx_G X) < (xx_s X).heap.size ∧ (∀ q, q ≤ xm_B (xx_G X) → (xx_s X).heap[q]? = (xm_H0 (xx_G X))[q]?) ∧
  fr ≤ (xx_R X).frames ∧ 40 * fr ≤ (xx_R X).locals ∧ mc ≤ (xx_R X).cells ∧ ms ≤ (xx_R X).slots
-- answers
def xm_o (Γ : xm_Gm) (rk : Nat) (v : Int) : Option Value := match rk with
  | 0 => none
  | 1 => some (.int (xm_J v))
  | 2 => some (.int (xm_J v))
  | 3 => some (xm_rf Γ v)
  | 4 => some (.ref (xm_ad Γ (xm_cb v.toNat)))
  | 5 => some (.ref (xm_adK Γ v.toNat))
  | 7 => some (.ref (xm_ad Γ 84))
  | _ => some (.long (Int64.ofInt v))
def xm_f (rk : Nat) (v : Int) : Prop := match rk with
  | 1 => xm_in v
  | 2 => 0 ≤ v ∧ v ≤ 1
  | 3 => 0 ≤ v
  | 4 => 0 ≤ v ∧ v < 8
  | 5 => 0 ≤ v ∧ v < 24
  | _ => True
def xm_Qc (Γ : xm_Gm) (I : xm_Mem → Prop) (rk : Nat) (o : xm_Out) : Array Value → State → Outcome → State → Prop := fun _ st oc t =>
  (oc = .returned (xm_o Γ rk o.2) ∧ xm_R Γ I o.1 t.heap ∧ xm_f rk o.2) ∧ va_F (fun q => xm_B Γ < q) st t
def xm_rm (fr mc ms : Nat) : Room := { frames := fr, cells := mc, slots := ms, locals := 40 * fr }
/-- a method's contract at one start and one end -/
def xm_M (Γ : xm_Gm) (I : xm_Mem → Prop) (la : Launch) (y : MethodName) (cc : ByteArray) (maxL : Nat) (ret : Option FieldType) (fr mc ms : Nat) (av : List Value) (σ : xm_Mem) (rk : Nat) (o : xm_Out) : Prop :=
  Met la y (.code y cc maxL ret :: xm_tb) (xm_rm fr mc ms) (va_Pc av (fun U => xm_R Γ I σ U.heap ∧ xm_K Γ U)) (xm_Qc Γ I rk o) mc ms (fun q => xm_B Γ < q)
/-- what a return needs -/
def xm_Rt (X : xm_X) (rk : Nat) (ret : Option FieldType) (mc ms : Nat) : Prop := (xx_t X).sig.returnType = ret ∧ ∀ o t, MQ (xx_b X) (xm_Qc (xx_G X) (xx_I X) rk o) (xx_a X) (xx_s X) mc ms (xm_A X) t → xx_Q X o t
-- the tables' words move
theorem xm_K2.moved {Γ : xm_Gm} {u U : State} (ha : u.vm.Alike U.vm) (h : xm_K2 Γ u) : xm_K2 Γ U := by
  obtain ⟨h1, h2, h3, h4, h5, h6, h7⟩ := h
  exact ⟨va_Z.moved ha h1, va_Z.moved ha h2, va_T.moved ha h3, va_T.moved ha h4, va_AO.moved ha h5, va_X.moved ha h6, h7⟩
theorem xm_K.same {Γ : xm_Gm} {u U : State} (hv : U.vm = u.vm) (h : xm_K Γ u) : xm_K Γ U := by
  obtain ⟨h1, h2, h3, h4, h5, h6, h7, h8, h9⟩ := h
  have ha : u.vm.Alike U.vm := by rw [hv]; exact Vm.Alike.refl _
  refine ⟨va_K.moved ha h1, vk_S.moved ha h2, fun q hq => vk_R.same hv (h3 q hq), fun q hq => va_Nw.same rfl hv.symm (h4 q hq), va_AO.moved ha h5, va_AO.moved ha h6, va_Z.moved ha h7, ?_, h9.moved ha⟩
  rcases h8 with h | ⟨t, h⟩
  · exact Or.inl (va_Z.moved ha h)
  · exact Or.inr ⟨t, va_Z.moved ha h⟩
theorem xm_K.warm {Γ : xm_Gm} {s U : State} (hW : s.WarmedH U.vm) (h : xm_K Γ s) : xm_K Γ U := by
  obtain ⟨h1, h2, h3, h4, h5, h6, h7, h8, h9⟩ := h
  have ha := hW.alike
  refine ⟨va_K.moved ha h1, vk_S.moved ha h2, fun q hq => vk_R.warm hW (h3 q hq), fun q hq => va_Nw.warmM hW (h4 q hq), va_AO.moved ha h5, va_AO.moved ha h6, va_Z.moved ha h7, ?_, h9.moved ha⟩
  rcases h8 with h | ⟨t, h⟩
  · exact Or.inl (va_Z.moved ha h)
  · exact Or.inr ⟨t, va_Z.moved ha h⟩
