/-! ===== the reference's day and course ===== -/
section XM
variable {σ : xm_Mem} {S : xS} {A : Nat → Nat} {n : Nat} {m : Nat → Int64} {L : List Nat} {t : Nat}
theorem plc_mem {q : Nat} : 0 ≤ plc L (q : Int) ↔ q ∈ L := by
  have g := fsx_spec (fun k => ((L.getD k 0 : Nat) : Int) = (q : Int)) L.length
  unfold plc
  constructor
  · intro h
    by_cases c : fsx (fun k => ((L.getD k 0 : Nat) : Int) = (q : Int)) L.length < L.length
    · have e := g.2.1 c
      have e : L.getD (fsx (fun k => ((L.getD k 0 : Nat) : Int) = (q : Int)) L.length) 0 = q := by omega
      rw [← e]; exact getD_mem c
    · rw [if_neg c] at h; omega
  · intro h
    obtain ⟨k, k1, k2⟩ := mem_getD h
    have c : fsx (fun k => ((L.getD k 0 : Nat) : Int) = (q : Int)) L.length < L.length := by
      refine Classical.byContradiction (fun z => ?_)
      exact g.2.2 k (by omega) (by show ((L.getD k 0 : Nat) : Int) = _; rw [k2])
    rw [if_pos c]; omega
end XM
