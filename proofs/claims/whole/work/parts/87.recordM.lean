/-! ===== record: the reference ===== -/
def zMR (x k : Nat) : Prop := (x = 84 ∧ (k ≤ 6 ∨ k = 14 ∨ k = 15 ∨ k = 18 ∨ 39 ≤ k)) ∨ (86 ≤ x ∧ x ≤ 95)
def MR (τ τ1 : xm_Mem) (S : xS) (A : Nat → Nat) (n : Nat) (m : Nat → Int64) (w p b : Int) : Prop := gx zMR τ τ1 ∧ MI τ1 S A n m ∧ τ1.1 84 1 = 0 ∧ τ1.1 84 2 = w ∧ τ1.1 84 3 = p ∧ τ1.1 84 4 = b ∧ τ1.1 84 6 = (sN S : Int)
section XR
variable {σ τ τ1 τ2 : xm_Mem} {S : xS} {A : Nat → Nat} {n : Nat} {m : Nat → Int64} {B : Nat → Int} {s : Nat} {p b : Int} {K D x1 x2 x3 x4 : Int}
theorem mr_no (hO : OK S) (hM : MI τ1 S A n m) (g : gx zMR τ τ1) (h1 : τ1.1 84 1 = 0) (h3 : τ1.1 84 3 = p) (h4 : τ1.1 84 4 = b) (h6 : τ1.1 84 6 = (sN S : Int)) (w : Int) : ∃ τ2, (f_X11_no τ1 w).bind (fun o => some (o.1, o.2)) = some (τ2, -9) ∧ MR τ τ2 S A n m w p b := by
  unfold f_X11_no
  rw [xst, Option.bind_some]
  have g2 : gx (fun x k => x = 84 ∧ k = 2) τ1 (xm_u1 τ1 84 2 w) := (gx.rf _ _).u1 ⟨rfl, rfl⟩
  exact ⟨_, rfl, g.tr (g2.mono (fun x k z => Or.inl (by omega))), mi_gx hM hO g2 (fun a k z => by omega), by rw [g2.1 84 1 (by omega)]; exact h1, by rw [xu11, if_pos ⟨rfl, rfl⟩], by rw [g2.1 84 3 (by omega)]; exact h3, by rw [g2.1 84 4 (by omega)]; exact h4, by rw [g2.1 84 6 (by omega)]; exact h6⟩
/-- the rows with one more -/
theorem ms_ad (hW : WF S) (hM : MS τ S) (h5 : τ1.1 84 5 = ((sn S + 1 : Nat) : Int)) (h14 : τ1.1 84 14 = ((if K = 0 then sp S + 1 else sp S : Nat) : Int)) (h15 : τ1.1 84 15 = ((if K = 4 then stn S + 1 else stn S : Nat) : Int))
    (hold : ∀ x r, 86 ≤ x → x ≤ 92 → r < sn S → τ1.1 x r = τ.1 x r) (h93 : ∀ q, τ1.1 93 q = if K = 0 ∧ q = sp S then (sn S : Int) else τ.1 93 q) (h94 : ∀ q, τ1.1 94 q = if K = 4 ∧ q = stn S then (sn S : Int) else τ.1 94 q)
    (r86 : τ1.1 86 (sn S) = K) (r87 : τ1.1 87 (sn S) = D) (r88 : τ1.1 88 (sn S) = if K = 0 then (sp S : Int) else x1) (r89 : τ1.1 89 (sn S) = if K = 4 then (stn S : Int) else x2) (r90 : τ1.1 90 (sn S) = x3) (r91 : τ1.1 91 (sn S) = x4) (r92 : τ1.1 92 (sn S) = 1) :
    MS τ1 (adR S K D x1 x2 x3 x4) := by
  obtain ⟨a, b, c, d, f, g⟩ := hM
  refine ⟨h5, h14, h15, fun r hr => ?_, fun q hq => ?_, fun t ht => ?_⟩
  · have hr : r < sn S + 1 := hr
    by_cases z : r = sn S
    · subst z
      obtain ⟨n0, n1, n2, n3, n4, n5, n6⟩ := ad_new (S := S) (K := K) (D := D) (a := x1) (b := x2) (c := x3) (w := x4)
      rw [n0, n1, n2, n3, n4, n5, n6]
      exact ⟨r86, r87, r88, r89, r90, r91, r92⟩
    · obtain ⟨n0, n1, n2, n3, n4, n5, n6⟩ := ad_old (S := S) (K := K) (D := D) (a := x1) (b := x2) (c := x3) (w := x4) z
      have hr2 : r < sn S := by omega
      rw [n0, n1, n2, n3, n4, n5, n6, hold 86 r (by omega) (by omega) hr2, hold 87 r (by omega) (by omega) hr2, hold 88 r (by omega) (by omega) hr2, hold 89 r (by omega) (by omega) hr2, hold 90 r (by omega) (by omega) hr2, hold 91 r (by omega) (by omega) hr2, hold 92 r (by omega) (by omega) hr2]
      exact d r hr2
  · rw [h93 q]
    by_cases z : q < sp S
    · rw [ad_p z, if_neg (fun y => by omega)]; exact f q z
    · have hq : q < if K = 0 then sp S + 1 else sp S := hq
      by_cases y : K = 0
      · rw [if_pos y] at hq
        have ep : q = sp S := by omega
        have sb : sbb (adR S K D x1 x2 x3 x4) q = sn S := if_pos ⟨y, ep⟩
        rw [sb, if_pos ⟨y, ep⟩]
      · rw [if_neg y] at hq; exact absurd hq z
  · rw [h94 t]
    by_cases z : t < stn S
    · rw [ad_t z, if_neg (fun y => by omega)]; exact g t z
    · have ht : t < if K = 4 then stn S + 1 else stn S := ht
      by_cases y : K = 4
      · rw [if_pos y] at ht
        have ep : t = stn S := by omega
        have sb : stb (adR S K D x1 x2 x3 x4) t = sn S := if_pos ⟨y, ep⟩
        rw [sb, if_pos ⟨y, ep⟩]
      · rw [if_neg y] at ht; exact absurd ht z
/-- the rows back -/
theorem ms_un (hW : WF S) (hM : MS τ (adR S K D x1 x2 x3 x4)) (h5 : τ1.1 84 5 = (sn S : Int)) (h14 : τ1.1 84 14 = (sp S : Int)) (h15 : τ1.1 84 15 = (stn S : Int)) (hold : ∀ x r, 86 ≤ x → x ≤ 92 → r < sn S → τ1.1 x r = τ.1 x r) (h93 : ∀ q, τ1.1 93 q = τ.1 93 q) (h94 : ∀ q, τ1.1 94 q = τ.1 94 q) : MS τ1 S := by
  obtain ⟨a, b, c, d, f, g⟩ := hM
  obtain ⟨n1, n2, n3, n4, n5⟩ := ad_n (S := S) (K := K) (D := D) (a := x1) (b := x2) (c := x3) (w := x4)
  refine ⟨h5, h14, h15, fun r hr => ?_, fun q hq => ?_, fun t ht => ?_⟩
  · have y := d r (by omega)
    obtain ⟨m0, m1, m2, m3, m4, m5, m6⟩ := ad_old (S := S) (K := K) (D := D) (a := x1) (b := x2) (c := x3) (w := x4) (show r ≠ sn S by omega)
    rw [m0, m1, m2, m3, m4, m5, m6] at y
    rw [hold 86 r (by omega) (by omega) hr, hold 87 r (by omega) (by omega) hr, hold 88 r (by omega) (by omega) hr, hold 89 r (by omega) (by omega) hr, hold 90 r (by omega) (by omega) hr, hold 91 r (by omega) (by omega) hr, hold 92 r (by omega) (by omega) hr]
    exact y
  · rw [h93 q, f q (by omega), ad_p hq]
  · rw [h94 t, g t (by omega), ad_t ht]
end XR
