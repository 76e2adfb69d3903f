/-! ===== the records: what both sides hold of them ===== -/
/-- what the records are: the rows (what, day, one, two, three, word, stands), how many, who was born by which, how many, which made each title, how many -/
abbrev xS : Type := (Nat → Nat → Int) × Nat × (Nat → Nat) × Nat × (Nat → Nat) × Nat
def sn (S : xS) : Nat := S.2.1
def sbb (S : xS) (p : Nat) : Nat := S.2.2.1 p
def sp (S : xS) : Nat := S.2.2.2.1
def stb (S : xS) (t : Nat) : Nat := S.2.2.2.2.1 t
def stn (S : xS) : Nat := S.2.2.2.2.2
def wK (S : xS) (r : Nat) : Int := S.1 r 0
def wD (S : xS) (r : Nat) : Int := S.1 r 1
def w1 (S : xS) (r : Nat) : Int := S.1 r 2
def w2 (S : xS) (r : Nat) : Int := S.1 r 3
def w3 (S : xS) (r : Nat) : Int := S.1 r 4
def wW (S : xS) (r : Nat) : Int := S.1 r 5
def wS (S : xS) (r : Nat) : Int := S.1 r 6
/-- the reference holds them so -/
def MS (σ : xm_Mem) (S : xS) : Prop := σ.1 84 5 = (sn S : Int) ∧ σ.1 84 14 = (sp S : Int) ∧ σ.1 84 15 = (stn S : Int) ∧
  (∀ r : Nat, r < sn S → σ.1 86 r = wK S r ∧ σ.1 87 r = wD S r ∧ σ.1 88 r = w1 S r ∧ σ.1 89 r = w2 S r ∧ σ.1 90 r = w3 S r ∧ σ.1 91 r = wW S r ∧ σ.1 92 r = wS S r) ∧
  (∀ p : Nat, p < sp S → σ.1 93 p = (sbb S p : Int)) ∧ (∀ t : Nat, t < stn S → σ.1 94 t = (stb S t : Int))
/-- an entry of the class tells a record -/
def CE (σ : xm_Mem) (a : Nat) (S : xS) (r : Nat) : Prop := σ.1 a 0 = wK S r ∧ σ.1 a 1 = wD S r ∧ σ.1 a 2 = w1 S r ∧ σ.1 a 3 = (if wK S r = 1 ∨ wK S r = 2 then w2 S r else -1) ∧ σ.1 a 4 = (if wK S r = 0 then w2 S r else -1) ∧ σ.1 a 5 = (if wK S r = 0 then w3 S r else -1) ∧ σ.1 a 6 = (if 4 ≤ wK S r then w2 S r else -1) ∧ (wK S r = 4 → σ.1 a 7 = wW S r) ∧ (wK S r = 0 → σ.1 a 8 = wW S r) ∧ σ.1 a 9 = wS S r
/-- the class holds them so, its entries at e -/
def CS (σ : xm_Mem) (S : xS) (e : Nat → Nat) : Prop := (σ.1 5 3 = (sn S : Int) ∧ σ.1 5 4 = (sp S : Int) ∧ σ.1 5 5 = (stn S : Int)) ∧ (110 ≤ σ.2.2 ∧ σ.2.2 ≤ 100000) ∧
  (∀ r : Nat, r < sn S → σ.1 6 r = (e r : Int) ∧ 111 ≤ e r ∧ e r ≤ σ.2.2 ∧ CE σ (e r) S r) ∧ (∀ r q : Nat, r < q → q < sn S → e r < e q) ∧
  (∀ p : Nat, p < sp S → σ.1 7 p = (e (sbb S p) : Int)) ∧ (∀ t : Nat, t < stn S → σ.1 8 t = (e (stb S t) : Int))
/-- what may be said of each record by itself, and of the numbers -/
def WF (S : xS) : Prop := (sn S ≤ 200 ∧ sp S ≤ 64 ∧ stn S ≤ 8) ∧
  (∀ r : Nat, r < sn S → (0 ≤ wK S r ∧ wK S r ≤ 8) ∧ (0 ≤ wD S r ∧ wD S r ≤ 99999) ∧ (0 ≤ wS S r ∧ wS S r ≤ 1) ∧ (0 ≤ wW S r ∧ wW S r ≤ 5) ∧
    (wK S r = 0 → (0 ≤ w1 S r ∧ w1 S r < sp S ∧ sbb S (w1 S r).toNat = r) ∧ (-1 ≤ w2 S r ∧ w2 S r < w1 S r) ∧ (-1 ≤ w3 S r ∧ w3 S r < w1 S r) ∧ wW S r ≤ 1) ∧
    (wK S r = 1 ∨ wK S r = 2 → (0 ≤ w1 S r ∧ w1 S r < sp S) ∧ (0 ≤ w2 S r ∧ w2 S r < sp S) ∧ w3 S r = -1) ∧
    (wK S r = 3 → (0 ≤ w1 S r ∧ w1 S r < sp S) ∧ w2 S r = -1 ∧ w3 S r = -1) ∧
    (wK S r = 4 → (0 ≤ w1 S r ∧ w1 S r < sp S) ∧ (0 ≤ w2 S r ∧ w2 S r < stn S ∧ stb S (w2 S r).toNat = r) ∧ w3 S r = -1) ∧
    (wK S r = 5 ∨ wK S r = 6 → (0 ≤ w1 S r ∧ w1 S r < sp S) ∧ (0 ≤ w2 S r ∧ w2 S r < stn S) ∧ w3 S r = -1) ∧
    (7 ≤ wK S r → w1 S r = -1 ∧ (0 ≤ w2 S r ∧ w2 S r < stn S) ∧ w3 S r = -1)) ∧
  (∀ p : Nat, p < sp S → sbb S p < sn S ∧ wK S (sbb S p) = 0 ∧ w1 S (sbb S p) = p) ∧
  (∀ t : Nat, t < stn S → stb S t < sn S ∧ wK S (stb S t) = 4 ∧ w2 S (stb S t) = t)
/-- one is there: born by a record that stands -/
def isP (S : xS) (p : Int) : Prop := 0 ≤ p ∧ p < sp S ∧ wS S (sbb S p.toNat) = 1
def isT (S : xS) (t : Int) : Prop := 0 ≤ t ∧ t < stn S ∧ wS S (stb S t.toNat) = 1
/-- who is named by a record that stands is there -/
def NM (S : xS) : Prop := ∀ r : Nat, r < sn S → wS S r = 1 →
  (wK S r = 0 → (w2 S r = -1 ∨ isP S (w2 S r)) ∧ (w3 S r = -1 ∨ isP S (w3 S r))) ∧ (1 ≤ wK S r ∧ wK S r ≤ 6 → isP S (w1 S r)) ∧ (wK S r = 1 ∨ wK S r = 2 → isP S (w2 S r)) ∧ (5 ≤ wK S r → isT S (w2 S r))
theorem xobj {σ : xm_Mem} {a : Nat} (h1 : 111 ≤ a) (h2 : a ≤ σ.2.2) : xm_obj σ (a : Int) 2 := ⟨by omega, by omega, by rw [Int.toNat_natCast]; exact xm_lay_hi h1⟩
section XR
variable {σ : xm_Mem} {S : xS} {e : Nat → Nat}
/-- a place that a record has: its entry -/
theorem CS.at (h : CS σ S e) {r : Nat} (hr : r < sn S) : σ.1 6 r = (e r : Int) ∧ xm_obj σ (e r : Int) 2 ∧ CE σ (e r) S r ∧ (e r : Int) ≤ 2147483647 ∧ ¬ (e r : Int) = 0 := by
  obtain ⟨h1, h2, h3, h4⟩ := h.2.2.1 r hr
  have := h.2.1
  exact ⟨h1, xobj h2 h3, h4, by omega, by omega⟩
theorem CS.inj (h : CS σ S e) {r q : Nat} (hr : r < sn S) (hq : q < sn S) : (e r : Int) = (e q : Int) ↔ r = q := by
  constructor
  · intro z
    rcases Nat.lt_trichotomy r q with g | g | g
    · have := h.2.2.2.1 r q g hq; omega
    · exact g
    · have := h.2.2.2.1 q r g hr; omega
  · rintro rfl; rfl
theorem r7_size (h : CS σ S e) : f_X7_size σ = some (σ, (sn S : Int)) := by unfold f_X7_size; rw [h.1.1]
theorem r7_taken (hW : WF S) (h : CS σ S e) (i : Int) : f_X7_taken σ i = some (σ, if 0 ≤ i ∧ i < sn S then (e i.toNat : Int) else 0) := by
  unfold f_X7_taken
  have hn := hW.1.1
  rw [h.1.1]
  by_cases h1 : i < 0
  · rw [if_pos h1, if_neg (by omega)]
  · rw [if_neg h1]
    by_cases h2 : i < sn S
    · rw [if_pos h2, if_pos (by omega), if_pos (by omega), (h.at (r := i.toNat) (by omega)).1]
    · rw [if_neg h2, if_neg (by omega)]
theorem r7_standing (hW : WF S) (h : CS σ S e) {r : Nat} (hr : r < sn S) : f_X7_standing σ (r : Int) = some (σ, if wS S r = 0 then 0 else (e r : Int)) := by
  unfold f_X7_standing
  obtain ⟨h1, h2, h3, h4, h5⟩ := h.at hr
  rw [r7_taken hW h, if_pos ⟨by omega, by omega⟩]
  simp only [Option.bind_some, Int.toNat_natCast]
  rw [xvr _ h4, if_neg h5, if_pos h2, Int.toNat_natCast, h3.2.2.2.2.2.2.2.2.2]
  split <;> rfl
theorem r3_isOfUnion {a r : Nat} (ho : xm_obj σ (a : Int) 2) (h : CE σ a S r) : f_X3_isOfUnion σ (a : Int) = some (σ, xb (wK S r = 1 ∨ wK S r = 2)) := by
  unfold f_X3_isOfUnion
  simp only [if_pos ho, Int.toNat_natCast, h.1]
  by_cases h1 : wK S r = 1
  · rw [if_pos h1, xb_pos (Or.inl h1)]
  · rw [if_neg h1]
    by_cases h2 : wK S r = 2
    · rw [if_pos h2, xb_pos (Or.inr h2)]
    · rw [if_neg h2, xb_neg (by omega)]
theorem r3_isOfLoss {a r : Nat} (ho : xm_obj σ (a : Int) 2) (h : CE σ a S r) : f_X3_isOfLoss σ (a : Int) = some (σ, xb (wK S r = 7 ∨ wK S r = 8)) := by
  unfold f_X3_isOfLoss
  simp only [if_pos ho, Int.toNat_natCast, h.1]
  by_cases h1 : wK S r = 7
  · rw [if_pos h1, xb_pos (Or.inl h1)]
  · rw [if_neg h1]
    by_cases h2 : wK S r = 8
    · rw [if_pos h2, xb_pos (Or.inr h2)]
    · rw [if_neg h2, xb_neg (by omega)]
theorem r3_opens {a r : Nat} (ho : xm_obj σ (a : Int) 2) (h : CE σ a S r) : f_X3_opens σ (a : Int) = some (σ, xb (wK S r = 1 ∨ wK S r = 7)) := by
  unfold f_X3_opens
  simp only [if_pos ho, Int.toNat_natCast, h.1]
  by_cases h1 : wK S r = 1
  · rw [if_pos h1, xb_pos (Or.inl h1)]
  · rw [if_neg h1]
    by_cases h2 : wK S r = 7
    · rw [if_pos h2, xb_pos (Or.inr h2)]
    · rw [if_neg h2, xb_neg (by omega)]
/-- the turn of a record -/
noncomputable def wT (S : xS) (r : Nat) : Int := 2 * wD S r + xb (wK S r = 1)
theorem r3_turn {a r : Nat} (hW : WF S) (hr : r < sn S) (ho : xm_obj σ (a : Int) 2) (h : CE σ a S r) : f_X3_turn σ (a : Int) = some (σ, wT S r) := by
  unfold f_X3_turn wT
  have hd := (hW.2.1 r hr).2.1
  simp only [if_pos ho, Int.toNat_natCast, h.1, h.2.1]
  by_cases h1 : wK S r = 1
  · rw [if_pos h1, xb_pos h1, xp_w (x := 2 * wD S r) (by omega) (by omega), xp_w (by omega) (by omega)]
  · rw [if_neg h1, xb_neg h1, xp_w (x := 2 * wD S r) (by omega) (by omega), xp_w (by omega) (by omega)]
/-- of one pair, or of one title's losts and backs -/
def sameP (S : xS) (r q : Nat) : Prop := (((wK S r = 1 ∨ wK S r = 2) ∧ (wK S q = 1 ∨ wK S q = 2)) ∧ w1 S q = w1 S r ∧ w2 S q = w2 S r) ∨ ((7 ≤ wK S r ∧ 7 ≤ wK S q) ∧ w2 S q = w2 S r)
theorem r3_takesTurnsWith {a r b q : Nat} (hW : WF S) (hr : r < sn S) (hq : q < sn S) (ho : xm_obj σ (a : Int) 2) (h : CE σ a S r) (ho2 : xm_obj σ (b : Int) 2) (h2 : CE σ b S q) : f_X3_takesTurnsWith σ (a : Int) (b : Int) = some (σ, xb (sameP S r q)) := by
  unfold f_X3_takesTurnsWith
  have hk := (hW.2.1 r hr).1
  have hk2 := (hW.2.1 q hq).1
  simp only [if_pos ho, if_pos ho2, Int.toNat_natCast, r3_isOfUnion ho h, r3_isOfUnion ho2 h2, r3_isOfLoss ho h, r3_isOfLoss ho2 h2, Option.bind_some, xb_0, h.2.2.1, h2.2.2.1, h.2.2.2.1, h2.2.2.2.1, h.2.2.2.2.2.2.1, h2.2.2.2.2.2.2.1]
  unfold sameP
  (repeat' split) <;> first | (exfalso; omega) | (rw [xb_pos (by omega)]; done) | (rw [xb_neg (by omega)]; done)
end XR
