/-! ===== the reference's near; a line ===== -/
noncomputable def ord (S : xS) (A : Nat → Nat) (n : Nat) (rule : Int) (root : Nat) : List Nat := if rule = 4 then ordN S A n root else ordW S A n rule root
/-- the LINE of a title on a day from a root -/
noncomputable def line (S : xS) (A : Nat → Nat) (n t : Nat) (d : Int) (root : Nat) : List Nat := cntL S t d (ord S A n (rl S t) root)
theorem cntL_app (S : xS) (t : Nat) (d : Int) (l r : List Nat) : cntL S t d (l ++ r) = cntL S t d l ++ cntL S t d r := List.filter_append _ _
theorem cntL_y {S : xS} {t : Nat} {d : Int} {l : List Nat} {p : Nat} (h : cnt S t d p) : cntL S t d (l ++ [p]) = cntL S t d l ++ [p] := filt_y (dc_y h)
theorem cntL_n {S : xS} {t : Nat} {d : Int} {l : List Nat} {p : Nat} (h : ¬ cnt S t d p) : cntL S t d (l ++ [p]) = cntL S t d l := filt_n (fun z => h (dc_t.mp z))
def zNR (a k : Nat) : Prop := (a = 84 ∧ k = 27) ∨ a = 101 ∨ a = 102
theorem zNRM : ∀ a k, zNR a k → ¬ (a = 84 ∧ (k = 5 ∨ k = 14 ∨ k = 15)) ∧ ¬ (86 ≤ a ∧ a ≤ 94) := fun a k h => by unfold zNR at h; omega
theorem zNRR : ∀ a k, zNR a k → ¬ (a = 84 ∧ k = 22) ∧ ¬ (96 ≤ a ∧ a ≤ 100) := fun a k h => by unfold zNR at h; omega
section XN
variable {σ : xm_Mem} {S : xS} {A : Nat → Nat} {n : Nat} {m : Nat → Int64} {t : Nat} {d : Int}
/-- the reference's line, and what it may change for it -/
def zLn (a k : Nat) : Prop := zR a k ∨ (a = 84 ∧ (k = 27 ∨ k = 28)) ∨ a = 101 ∨ a = 102
theorem zLnM : ∀ a k, zLn a k → ¬ (a = 84 ∧ (k = 5 ∨ k = 14 ∨ k = 15)) ∧ ¬ (86 ≤ a ∧ a ≤ 94) := fun a k h => by unfold zLn zR at h; omega
/-- reckoned, and the line told -/
def LM (σ : xm_Mem) (S : xS) (A : Nat → Nat) (n : Nat) (m : Nat → Int64) (l : List Nat) : Prop := (σ.1 84 18 = 1 ∧ RO σ S A n m) ∧ σ.1 84 27 = (l.length : Int) ∧ LA σ 101 0 l
end XN
