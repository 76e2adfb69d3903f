/-! ===== the reference reckons ===== -/
def gx (Z : Nat → Nat → Prop) (σ σ' : xm_Mem) : Prop := (∀ a k, ¬ Z a k → σ'.1 a k = σ.1 a k) ∧ (∀ a k, ¬ Z a k → σ'.2.1 a k = σ.2.1 a k) ∧ σ'.2.2 = σ.2.2
theorem gx.rf (Z : Nat → Nat → Prop) (σ : xm_Mem) : gx Z σ σ := ⟨fun _ _ _ => rfl, fun _ _ _ => rfl, rfl⟩
theorem gx.tr {Z : Nat → Nat → Prop} {σ σ' σ'' : xm_Mem} (h : gx Z σ σ') (g : gx Z σ' σ'') : gx Z σ σ'' := ⟨fun a k n => (g.1 a k n).trans (h.1 a k n), fun a k n => (g.2.1 a k n).trans (h.2.1 a k n), g.2.2.trans h.2.2⟩
theorem gx.mono {Z Y : Nat → Nat → Prop} {σ σ' : xm_Mem} (h : gx Z σ σ') (hi : ∀ a k, Z a k → Y a k) : gx Y σ σ' := ⟨fun a k n => h.1 a k (fun z => n (hi a k z)), fun a k n => h.2.1 a k (fun z => n (hi a k z)), h.2.2⟩
theorem gx.u1 {Z : Nat → Nat → Prop} {σ σ' : xm_Mem} (h : gx Z σ σ') {a k : Nat} {v : Int} (ha : Z a k) : gx Z σ (xm_u1 σ' a k v) := by
  refine ⟨fun b j n => ?_, fun b j n => h.2.1 b j n, h.2.2⟩
  rw [xu11, if_neg (fun z : b = a ∧ j = k => n (by rw [z.1, z.2]; exact ha))]
  exact h.1 b j n
theorem gx.u2 {Z : Nat → Nat → Prop} {σ σ' : xm_Mem} (h : gx Z σ σ') {a k : Nat} {v : Int64} (ha : Z a k) : gx Z σ (xm_u2 σ' a k v) := by
  refine ⟨fun b j n => h.1 b j n, fun b j n => ?_, h.2.2⟩
  rw [xu22, if_neg (fun z : b = a ∧ j = k => n (by rw [z.1, z.2]; exact ha))]
  exact h.2.1 b j n
theorem MS.gx {σ σ' : xm_Mem} {S : xS} {Z : Nat → Nat → Prop} (h : MS σ S) (hf : gx Z σ σ') (hz : ∀ a k, Z a k → ¬ (a = 84 ∧ (k = 5 ∨ k = 14 ∨ k = 15)) ∧ ¬ (86 ≤ a ∧ a ≤ 94)) : MS σ' S := by
  have o : ∀ a k, (86 ≤ a ∧ a ≤ 94) → σ'.1 a k = σ.1 a k := fun a k n => hf.1 a k (fun z => (hz a k z).2 n)
  have o84 : ∀ k, (k = 5 ∨ k = 14 ∨ k = 15) → σ'.1 84 k = σ.1 84 k := fun k n => hf.1 84 k (fun z => (hz 84 k z).1 ⟨rfl, n⟩)
  unfold MS
  rw [o84 5 (by omega), o84 14 (by omega), o84 15 (by omega)]
  refine ⟨h.1, h.2.1, h.2.2.1, fun r hr => ?_, fun p hp => ?_, fun t ht => ?_⟩
  · rw [o 86 r (by omega), o 87 r (by omega), o 88 r (by omega), o 89 r (by omega), o 90 r (by omega), o 91 r (by omega), o 92 r (by omega)]; exact h.2.2.2.1 r hr
  · rw [o 93 p (by omega)]; exact h.2.2.2.2.1 p hp
  · rw [o 94 t (by omega)]; exact h.2.2.2.2.2 t ht
def isYl (S : xS) (t p : Nat) (r : Nat) : Prop := wS S r = 1 ∧ wK S r = 5 ∧ w2 S r = (t : Int) ∧ w1 S r = (p : Int)
/-- the day of a yield; 100000: there is none -/
noncomputable def wYl (S : xS) (t p : Nat) : Int := ldx (isYl S t p) (wD S) 100000 (sn S)
/-- what the reference has reckoned -/
def RO (σ : xm_Mem) (S : xS) (A : Nat → Nat) (n : Nat) (m : Nat → Int64) : Prop := σ.1 84 22 = (n : Int) ∧ (∀ i, i < n → σ.1 97 i = (A i : Int) ∧ σ.1 96 (A i) = xb (wLegit S (A i)) ∧ σ.1 99 (A i) = wDead S (A i) ∧ σ.2.1 98 (A i) = m (A i)) ∧ ∀ t p, t < 8 → p < 64 → σ.1 100 (64 * t + p) = wYl S t p
def zR (a k : Nat) : Prop := (a = 84 ∧ (k = 18 ∨ k = 22)) ∨ (96 ≤ a ∧ a ≤ 100)
theorem zRM : ∀ a k, zR a k → ¬ (a = 84 ∧ (k = 5 ∨ k = 14 ∨ k = 15)) ∧ ¬ (86 ≤ a ∧ a ≤ 94) := fun a k h => by unfold zR at h; omega
theorem ch_idx {S : xS} {A : Nat → Nat} {n : Nat} (hO : OK S) (hA : AGE S A n) {i j : Nat} (hi : i < n) (hj : j < n) (h : isCh S (A i) (A j)) : i < j := by
  have := kid_rg hO hA (p := A i) (c := A j) (kid_mem.mpr ⟨⟨j, hj, rfl⟩, h⟩)
  exact hA.lt hi hj (Or.inl (by omega))
theorem BDY.uniq {S : xS} {A : Nat → Nat} {n : Nat} {m m' : Nat → Int64} (hO : OK S) (hA : AGE S A n) (h : BDY S A n m) (g : BDY S A n m') : ∀ i, i < n → m (A i) = m' (A i) := by
  have key : ∀ d i, i < n → n - i ≤ d → m (A i) = m' (A i) := by
    intro d
    induction d with
    | zero => intro i hi h; exact absurd h (by omega)
    | succ d ih =>
      intro i hi hd
      refine bt_ext (fun q hq => ?_)
      rw [h i hi q hq, g i hi q hq]
      have e : ∀ j, j < n → isCh S (A i) (A j) → m (A j) = m' (A j) := fun j hj hc => ih j hj (by have := ch_idx hO hA hi hj hc; omega)
      constructor
      · rintro (z | ⟨j, j1, j2, j3⟩)
        · exact Or.inl z
        · exact Or.inr ⟨j, j1, j2, by rw [← e j j1 j2]; exact j3⟩
      · rintro (z | ⟨j, j1, j2, j3⟩)
        · exact Or.inl z
        · exact Or.inr ⟨j, j1, j2, by rw [e j j1 j2]; exact j3⟩
  exact fun i hi => key (n - i) i hi (Nat.le_refl _)
section XA
variable {σ : xm_Mem} {S : xS}
def zR1 (a k : Nat) : Prop := (a = 84 ∧ k = 22) ∨ a = 96 ∨ a = 97 ∨ a = 99
theorem zR1M : ∀ a k, zR1 a k → ¬ (a = 84 ∧ (k = 5 ∨ k = 14 ∨ k = 15)) ∧ ¬ (86 ≤ a ∧ a ≤ 94) := fun a k h => by unfold zR1 at h; omega
theorem RO.gx {σ' : xm_Mem} {A : Nat → Nat} {n : Nat} {m : Nat → Int64} {Z : Nat → Nat → Prop} (h : RO σ S A n m) (hf : gx Z σ σ') (hz : ∀ a k, Z a k → ¬ (a = 84 ∧ k = 22) ∧ ¬ (96 ≤ a ∧ a ≤ 100)) : RO σ' S A n m := by
  have o : ∀ a k, (96 ≤ a ∧ a ≤ 100) → σ'.1 a k = σ.1 a k := fun a k y => hf.1 a k (fun z => (hz a k z).2 y)
  have o2 : ∀ a k, (96 ≤ a ∧ a ≤ 100) → σ'.2.1 a k = σ.2.1 a k := fun a k y => hf.2.1 a k (fun z => (hz a k z).2 y)
  refine ⟨by rw [hf.1 84 22 (fun z => (hz _ _ z).1 ⟨rfl, rfl⟩)]; exact h.1, fun i hi => ?_, fun t p h1 h2 => by rw [o 100 _ (by omega)]; exact h.2.2 t p h1 h2⟩
  rw [o 97 _ (by omega), o 96 _ (by omega), o 99 _ (by omega), o2 98 _ (by omega)]
  exact h.2.1 i hi
/-- reckoned or not -/
def RI (σ : xm_Mem) (S : xS) (A : Nat → Nat) (n : Nat) (m : Nat → Int64) : Prop := σ.1 84 18 = 0 ∨ (σ.1 84 18 = 1 ∧ RO σ S A n m)
end XA
