/-! ===== a death behind all that: one step more, the rest of the line ===== -/
section XLD
variable {S : xS} {A A' : Nat → Nat} {n n' : Nat} {m m' : Nat → Int64} {fr ρ D p : Int}
abbrev dd (S : xS) (D p : Int) : xS := adR S 3 D p (-1) (-1) 0
/-- what such a death is -/
def LD (S : xS) (fr ρ D p : Int) : Prop := TW S fr ρ ∧ isP S p ∧ wDead S p < 0 ∧ (∀ r, r < sn S → wD S r < D) ∧ D ≤ 99999
theorem ld_AC (h : LD S fr ρ D p) : AC S 3 D p (-1) := ⟨Or.inr (Or.inr (Or.inl rfl)), fun z => absurd z (by decide), fun _ => ⟨h.2.2.1, fun r hr _ => Int.le_of_lt (h.2.2.2.1 r hr)⟩⟩
theorem ld_born (h : LD S fr ρ D p) {q : Int} (hq : isP S q) : wBorn S q < D := h.2.2.2.1 _ (h.1.1.1.1.p hq.1 hq.2.1).1
theorem ld_dead (h : LD S fr ρ D p) {q : Int} : (q ≠ p → wDead (dd S D p) q = wDead S q) ∧ wDead (dd S D p) p = D :=
  ⟨fun z => ad_dead h.1.1.1.1 (fun y => z y.2.symm), ad_dead3 h.1.1.1.1 rfl h.2.2.1⟩
theorem ld_FM (h : LD S fr ρ D p) (hr : sn S < 200) : FM (dd S D p) ∧ kwn S 3 p (-1) (-1) ∧ fstB (breaks (dd S D p)) 9 1 = 0 ∧ rom S 3 := by
  have h1 := death_ok (D := D) h.1.1 h.2.1 (Int.le_of_lt (ld_born h h.2.1)) h.2.2.1 (fun r hr _ => Int.le_of_lt (h.2.2.2.1 r hr))
  have hrm : rom S 3 := ⟨hr, fun z => absurd z (by decide), fun z => absurd z (by decide)⟩
  have hD := h.2.2.2.2
  have h0 := ld_born h h.2.1
  have h00 := (h.1.1.1.1.day (h.1.1.1.1.p h.2.1.1 h.2.1.2.1).1).1
  have hb : (0 : Int) ≤ wBorn S p := h00
  have ho : rdO 3 D p (-1) (-1) 0 := ⟨⟨by decide, by decide⟩, ⟨by omega, hD⟩, ⟨by decide, by decide⟩, fun z => absurd z (by decide), fun z => absurd z (by decide), fun _ => ⟨h.2.1.1, rfl, rfl⟩, fun z => absurd z (by decide)⟩
  exact ⟨ad_FM h.1.1 ho h1.1 hrm (Or.inr (Or.inr (Or.inl rfl))) h1.2, h1.1, h1.2, hrm⟩
theorem ld_open (h : LD S fr ρ D p) {r : Nat} (hr : r < sn S) {d : Int} (hd : d ≤ D) : d ≤ wOpen (dd S D p) r ↔ d ≤ wOpen S r := by
  refine ⟨ad_open h.1.1 (ld_AC h) hr, fun z => ?_⟩
  rw [open_le (fun q hq => by have := (h.1.1.2 q hq).2; omega)] at z
  rw [open_le (ad_np h.1.1 (ld_AC h))]
  obtain ⟨o1, o2, o3, o4, o5, o6, o7⟩ := ad_old (K := 3) (D := D) (a := p) (b := -1) (c := -1) (w := 0) (S := S) (q := r) (by omega)
  rw [o3, o4]
  have e1 := ad_deadx (c := -1) (w := 0) h.1.1 (ld_AC h) (w1 S r)
  have e2 := ad_deadx (c := -1) (w := 0) h.1.1 (ld_AC h) (w2 S r)
  clear o1 o2 o3 o4 o5 o6 o7
  omega
theorem ld_uni (h : LD S fr ρ D p) {x y d : Int} (hd : d ≤ D) : united (dd S D p) x y d ↔ united S x y d := by
  unfold united isWed
  constructor
  · rintro ⟨r, r1, ⟨r2, r3, r4, r5⟩, r6, r7⟩
    have r1' : r < sn S + 1 := r1
    by_cases er : r = sn S
    · subst er
      rw [ad_new.1] at r3
      exact absurd r3 (by decide)
    · obtain ⟨o1, o2, o3, o4, o5, o6, o7⟩ := ad_old (K := 3) (D := D) (a := p) (b := -1) (c := -1) (w := 0) (S := S) (q := r) er
      rw [o7] at r2; rw [o1] at r3; rw [o3] at r4; rw [o4] at r5; rw [o2] at r6
      exact ⟨r, by omega, ⟨r2, r3, r4, r5⟩, r6, (ld_open h (by omega) hd).mp r7⟩
  · rintro ⟨r, r1, ⟨r2, r3, r4, r5⟩, r6, r7⟩
    obtain ⟨o1, o2, o3, o4, o5, o6, o7⟩ := ad_old (K := 3) (D := D) (a := p) (b := -1) (c := -1) (w := 0) (S := S) (q := r) (by omega)
    refine ⟨r, Nat.lt_succ_of_lt r1, ⟨by rw [o7]; exact r2, by rw [o1]; exact r3, by rw [o3]; exact r4, by rw [o4]; exact r5⟩, by rw [o2]; exact r6, (ld_open h r1 hd).mpr r7⟩
theorem ld_legit (h : LD S fr ρ D p) {q : Int} (hq : isP S q) : wLegit (dd S D p) q ↔ wLegit S q := by
  obtain ⟨b1, b2, b3, _⟩ := ad_b (K := 3) (D := D) (a := p) (b := -1) (c := -1) (w := 0) h.1.1.1.1 ⟨hq.1, hq.2.1⟩
  have hb := ld_born h hq
  have e := ad_deadx (c := -1) (w := 0) h.1.1 (ld_AC h) (wFa S q)
  unfold wLegit
  rw [b1, b2, b3, ld_uni h (Int.le_of_lt hb)]
  rcases e with e | ⟨_, _, e1, e2⟩
  · rw [e]
    by_cases hle : wDead S (wFa S q) ≤ D
    · rw [ld_uni h hle]
    · have : ¬ ((0 ≤ wDead S (wFa S q) ∧ wBorn S q - 300 ≤ wDead S (wFa S q) ∧ wDead S (wFa S q) ≤ wBorn S q)) := fun z => by omega
      constructor
      · rintro ⟨c1, c2, c3 | ⟨c3, _⟩⟩
        · exact ⟨c1, c2, Or.inl c3⟩
        · exact absurd c3 this
      · rintro ⟨c1, c2, c3 | ⟨c3, _⟩⟩
        · exact ⟨c1, c2, Or.inl c3⟩
        · exact absurd c3 this
  · rw [e2]
    constructor
    · rintro ⟨c1, c2, c3 | ⟨c3, _⟩⟩
      · exact ⟨c1, c2, Or.inl c3⟩
      · omega
    · rintro ⟨c1, c2, c3 | ⟨c3, _⟩⟩
      · exact ⟨c1, c2, Or.inl c3⟩
      · omega
theorem ld_SF (h : LD S fr ρ D p) (hr : sn S < 200) : SF S (dd S D p) := by
  have hF := (ld_FM h hr).1
  refine ⟨fun q => ?_, fun q hq => ?_⟩
  · rw [fm_P h.1.1, fm_P hF]
    exact Iff.rfl
  · exact ⟨ad_b h.1.1.1.1 ⟨hq.1, hq.2.1⟩, ld_legit h hq⟩
theorem ld_TW (h : LD S fr ρ D p) (hr : sn S < 200) : TW (dd S D p) fr ρ := by
  have h0 : 0 < stn S := by rw [h.1.2.1]; decide
  have et : stb (dd S D p) 0 = stb S 0 := ad_t h0
  have hlt := (h.1.1.1.1.2.2.2 0 h0).1
  obtain ⟨o1, o2, o3, o4, o5, o6, o7⟩ := ad_old (K := 3) (D := D) (a := p) (b := -1) (c := -1) (w := 0) (S := S) (q := stb S 0) (by omega)
  refine ⟨(ld_FM h hr).1, h.1.2.1, ⟨?_, ?_, ?_⟩, h.1.2.2.2.1, ?_⟩
  · have := h.1.2.2.1.1
    unfold ow at this ⊢
    rw [et, o3]; exact this
  · have := h.1.2.2.1.2.1
    unfold oD at this ⊢
    rw [et, o2]; exact this
  · have := h.1.2.2.1.2.2
    unfold rl at this ⊢
    rw [et, o6]; exact this
  · have h0P := tw_0 h.1
    exact (ad_b h.1.1.1.1 ⟨h0P.1, h0P.2.1⟩).2.2.2.mpr h.1.2.2.2.2
theorem ld_alive (h : LD S fr ρ D p) {q d : Int} (hd : d < D) : (wDead (dd S D p) q < 0 ∨ d < wDead (dd S D p) q) ↔ (wDead S q < 0 ∨ d < wDead S q) := by
  rcases ad_deadx (c := -1) (w := 0) h.1.1 (ld_AC h) q with e | ⟨_, _, e1, e2⟩
  · rw [e]
  · rw [e2]; omega
theorem ld_line (h : LD S fr ρ D p) (hr : sn S < 200) (hA : AGE S A n) (hA' : AGE (dd S D p) A' n') {d : Int} (hd : d < D) : line (dd S D p) A' n' 0 d 0 = line S A n 0 d 0 := by
  have hF := ld_SF h hr
  have hT := ld_TW h hr
  have hD := h.2.2.2.2
  unfold line
  rw [hT.2.2.1.2.2, h.1.2.2.1.2.2, ← sf_ord hF hA hA' (tw_0 h.1)]
  unfold cntL
  refine filter_cg (fun q hq => ?_)
  have hqP := (ord_ok h.1.1.1 hA (tw_0 h.1)).2 q hq
  obtain ⟨⟨b1, _, _, b4⟩, _⟩ := hF.2 _ hqP
  rw [tw_cnt hT (by omega), tw_cnt h.1 (by omega), b1, b4, ld_alive h hd]
/-- on the day itself: the line of the day before without the dead -/
theorem ld_lineD (h : LD S fr ρ D p) (hr : sn S < 200) (hA : AGE S A n) (hA' : AGE (dd S D p) A' n') : line (dd S D p) A' n' 0 D 0 = (line S A n 0 (D - 1) 0).filter (fun q => dc (((q : Nat) : Int) ≠ p)) := by
  have hF := ld_SF h hr
  have hT := ld_TW h hr
  have hD := h.2.2.2.2
  unfold line
  rw [hT.2.2.1.2.2, h.1.2.2.1.2.2, ← sf_ord hF hA hA' (tw_0 h.1)]
  unfold cntL
  rw [List.filter_filter]
  refine List.filter_congr (fun q hq => ?_)
  have hqP := (ord_ok h.1.1.1 hA (tw_0 h.1)).2 q hq
  obtain ⟨⟨b1, _, _, b4⟩, _⟩ := hF.2 _ hqP
  have hb := ld_born h hqP
  have hdr : wDead S q < D := by
    rcases Int.lt_or_le (wDead S q) 0 with z | z
    · have := ld_born h hqP
      have := (h.1.1.1.1.day (h.1.1.1.1.p hqP.1 hqP.2.1).1).1
      have e0 : (0 : Int) ≤ wBorn S q := this
      omega
    · unfold wDead at z ⊢
      split at z
      · rename_i hl
        rw [if_pos hl]
        exact h.2.2.2.1 _ hl
      · omega
  have key : cnt (dd S D p) 0 D q ↔ ((q : Nat) : Int) ≠ p ∧ cnt S 0 (D - 1) q := by
    rw [tw_cnt hT (by omega), tw_cnt h.1 (by omega), b1, b4]
    by_cases e : ((q : Nat) : Int) = p
    · have e2 : wDead (dd S D p) q = D := by rw [e]; exact (ld_dead (q := p) h).2
      rw [e2]
      have e3 : (0 : Int) ≤ D := by
        have := (h.1.1.1.1.day (h.1.1.1.1.p hqP.1 hqP.2.1).1).1
        have e0 : (0 : Int) ≤ wBorn S q := this
        omega
      constructor
      · intro z; omega
      · rintro ⟨z, _⟩; exact absurd e z
    · rw [(ld_dead h).1 e]
      constructor
      · rintro ⟨⟨z1, z2⟩, z3⟩
        exact ⟨e, ⟨by omega, by omega⟩, z3⟩
      · rintro ⟨_, ⟨z1, z2⟩, z3⟩
        exact ⟨⟨by omega, by omega⟩, z3⟩
  by_cases c : cnt (dd S D p) 0 D q
  · have := key.mp c
    rw [dc_y c, dc_y this.1, dc_y this.2]
    rfl
  · rw [dc_n c]
    by_cases e : ((q : Nat) : Int) ≠ p
    · rw [dc_y e, dc_n (fun z => c (key.mpr ⟨e, z⟩))]
      rfl
    · rw [dc_n e]
      rfl
theorem ld_must (h : LD S fr ρ D p) (hr : sn S < 200) {s d : Int} (hd : d < D) (hs : s < 0 ∨ isP S s) : must (dd S D p) 0 s d ↔ must S 0 s d := by
  have hT := ld_TW h hr
  have hD := h.2.2.2.2
  rw [tw_must hT (by omega), tw_must h.1 (by omega)]
  rcases hs with z | z
  · exact ⟨fun _ => Or.inl z, fun _ => Or.inl z⟩
  · have e : ((s.toNat : Nat) : Int) = s := by have := z.1; omega
    unfold alv
    rw [e, ld_alive h hd, (ad_b h.1.1.1.1 ⟨z.1, z.2.1⟩).1]
theorem fsx_cg {P Q : Nat → Prop} {N : Nat} (h : ∀ i, i < N → (P i ↔ Q i)) : fsx P N = fsx Q N := by
  obtain ⟨q1, q2, q3⟩ := fsx_spec Q N
  exact fsx_eq q1 (fun r hr z => q3 r hr ((h r (by omega)).mp z)) (fun hl => (h _ hl).mpr (q2 hl))
theorem ld_dS (h : LD S fr ρ D p) (hr : sn S < 200) (hA : AGE S A n) (hA' : AGE (dd S D p) A' n') {s hh d : Int} (hd : d < D) (hs : s < 0 ∨ isP S s) : dS (dd S D p) A' n' s hh d = dS S A n s hh d := by
  have hF := ld_SF h hr
  unfold dS
  have em := ld_must h hr hd hs
  have el := ld_line h hr hA hA' hd
  by_cases hm : must S 0 s d
  · rw [if_pos hm, if_pos (em.mpr hm), el]
  · rw [if_neg hm, if_neg (fun z => hm (em.mp z))]
    have eK : lateK (dd S D p) A' n' 0 d 0 s hh = lateK S A n 0 d 0 s hh := by
      unfold lateK
      rw [el]
      refine fsx_cg (fun i hi => ?_)
      have hpl := plc_rg (line S A n 0 d 0) s
      have hin := getD_in (L := line S A n 0 d 0) (k := i) (by omega)
      have hP := line_isP h.1.1.1 hA (tw_0 h.1) hin
      generalize (line S A n 0 d 0).getD i 0 = c at hP
      obtain ⟨⟨b1, b2, _, _⟩, b5⟩ := hF.2 _ hP
      unfold lateB
      rw [b1, b2, b5]
      rcases ad_deadx (c := -1) (w := 0) h.1.1 (ld_AC h) (wFa S c) with e | ⟨_, _, e1, e2⟩
      · rw [e]
      · rw [e2]
        constructor
        · rintro ⟨_, _, z, _⟩; omega
        · rintro ⟨_, _, z, _⟩; omega
    unfold bornA
    rw [eK, el]
theorem ld_nx (h : LD S fr ρ D p) {d : Int} : (nxD S 0 d ≤ 99999 → nxD (dd S D p) 0 d = nxD S 0 d) ∧ (99999 < nxD S 0 d → d < D → nxD (dd S D p) 0 d = D) ∧ (D ≤ d → nxD (dd S D p) 0 d = 100000) := by
  have hW := h.1.1.1.1
  obtain ⟨s1, s2, s3⟩ := nxD_spec (t := 0) hW d
  have hD := h.2.2.2.2
  have hold : ∀ r, r < sn S → ((hap (dd S D p) 0 r ∧ d < wD (dd S D p) r) ↔ (hap S 0 r ∧ d < wD S r)) ∧ wD (dd S D p) r = wD S r := by
    intro r hr
    obtain ⟨o1, o2, o3, o4, o5, o6, o7⟩ := ad_old (K := 3) (D := D) (a := p) (b := -1) (c := -1) (w := 0) (S := S) (q := r) (by omega)
    unfold hap
    rw [o1, o2, o4, o7]
    exact ⟨Iff.rfl, rfl⟩
  obtain ⟨n1, n2, n3, n4, n5, n6, n7⟩ := ad_new (S := S) (K := 3) (D := D) (a := p) (b := -1) (c := -1) (w := 0)
  have hnew : hap (dd S D p) 0 (sn S) := ⟨n7, Or.inr (Or.inl n1)⟩
  refine ⟨fun hle => ?_, fun hgt hdD => ?_, fun hge => ?_⟩
  · rcases s2 with z | ⟨r, r1, r2, r3, r4⟩
    · omega
    · refine mnx_eq s1 (fun q hq hP => ?_) (Or.inr ⟨r, Nat.lt_succ_of_lt r1, (hold r r1).1.mpr ⟨r2, r3⟩, by rw [(hold r r1).2]; exact r4⟩)
      have hq' : q < sn S + 1 := hq
      by_cases eq : q = sn S
      · subst eq
        rw [n2, r4]
        exact Int.le_of_lt (h.2.2.2.1 r r1)
      · have := (hold q (by omega)).1.mp hP
        rw [(hold q (by omega)).2]
        exact mnx_le (P := fun r => hap S 0 r ∧ d < wD S r) (f := wD S) (a := 100000) (sn S) |>.2.1 q (by omega) this
  · refine mnx_eq (by omega) (fun q hq hP => ?_) (Or.inr ⟨sn S, Nat.lt_succ_self _, ⟨hnew, by rw [n2]; exact hdD⟩, n2.symm⟩)
    have hq' : q < sn S + 1 := hq
    by_cases eq : q = sn S
    · subst eq
      rw [n2]; exact Int.le_refl _
    · have z := (hold q (by omega)).1.mp hP
      have := mnx_le (P := fun r => hap S 0 r ∧ d < wD S r) (f := wD S) (a := 100000) (sn S) |>.2.1 q (by omega) z
      have y := (hW.day (r := q) (by omega)).2
      unfold nxD at hgt
      omega
  · refine mnx_eq (Int.le_refl _) (fun q hq hP => ?_) (Or.inl rfl)
    have hq' : q < sn S + 1 := hq
    by_cases eq : q = sn S
    · subst eq
      rw [n2] at hP
      omega
    · have z := (hold q (by omega)).1.mp hP
      have := h.2.2.2.1 q (by omega)
      omega
/-- the steps: the same, and one more -/
theorem ld_stp (h : LD S fr ρ D p) (hr : sn S < 200) (hA : AGE S A n) (hA' : AGE (dd S D p) A' n') : ∀ k, k < NS S A n m 0 → stp (dd S D p) A' n' m' 0 k = stp S A n m 0 k := by
  have hT := ld_TW h hr
  obtain ⟨n1, n2, n3, n4⟩ := NS_ok (A := A) (n := n) (m := m) h.1.1.1 (tw_T h.1)
  have hfr : fr < D := by
    have := h.2.2.2.1 _ (h.1.1.1.1.2.2.2 0 (by rw [h.1.2.1]; decide)).1
    have e : wD S (stb S 0) = fr := h.1.2.2.1.2.1
    omega
  have hD := h.2.2.2.2
  intro k
  induction k with
  | zero =>
    intro _
    rw [stp_0 hT, stp_0 h.1, ld_dS h hr hA hA' (s := 0) hfr (Or.inr (tw_0 h.1))]
  | succ k ih =>
    intro hk
    have e := ih (by omega)
    have hday := n3 (k + 1) hk
    rw [stp_s h.1] at hday
    have hday' : nxD S 0 (stp S A n m 0 k).1 ≤ 99999 := hday
    have hlt : nxD S 0 (stp S A n m 0 k).1 < D := by
      rcases (nxD_spec (t := 0) h.1.1.1.1 (stp S A n m 0 k).1).2.1 with z | ⟨r, r1, r2, r3, r4⟩
      · omega
      · rw [r4]; exact h.2.2.2.1 r r1
    have g := stp_HL (A := A) (n := n) (m := m) h.1 hA (by omega) k (n3 k (by omega))
    have hs : (stp S A n m 0 k).2.1 < 0 ∨ isP S (stp S A n m 0 k).2.1 := by
      rcases g with ⟨z, _⟩ | ⟨z0, z⟩
      · exact Or.inl (by omega)
      · have := line_isP h.1.1.1 hA (tw_0 h.1) z
        have e : (((stp S A n m 0 k).2.1.toNat : Nat) : Int) = (stp S A n m 0 k).2.1 := by omega
        rw [e] at this
        exact Or.inr this
    rw [stp_s hT, stp_s h.1, e, (ld_nx h).1 hday', ld_dS h hr hA hA' hlt hs]
theorem ld_last (h : LD S fr ρ D p) (hr : sn S < 200) (hA : AGE S A n) (hA' : AGE (dd S D p) A' n') (hh : (stp S A n m 0 (NS S A n m 0 - 1)).2.1 = p) : NS (dd S D p) A' n' m' 0 = NS S A n m 0 + 1 ∧ stp (dd S D p) A' n' m' 0 (NS S A n m 0) = (D, hdI (line (dd S D p) A' n' 0 D 0), 0, D) := by
  have hT := ld_TW h hr
  obtain ⟨n1, n2, n3, n4⟩ := NS_ok (A := A) (n := n) (m := m) h.1.1.1 (tw_T h.1)
  have hD := h.2.2.2.2
  obtain ⟨K, hK⟩ : ∃ K, NS S A n m 0 = K + 1 := ⟨NS S A n m 0 - 1, by omega⟩
  rw [hK, Nat.add_sub_cancel] at hh
  have hS : (stp S A n m 0 (K + 1)).1 = nxD S 0 (stp S A n m 0 K).1 := by rw [stp_s h.1]
  have hKd : (stp S A n m 0 K).1 < D := by
    obtain ⟨r, r1, r2⟩ := stp_rec h.1 K (n3 K (by omega))
    rw [r2]; exact h.2.2.2.1 r r1
  have hgt : 99999 < nxD S 0 (stp S A n m 0 K).1 := by rw [← hS, ← hK]; exact n2
  have eK := ld_stp (m := m) (m' := m') h hr hA hA' K (by omega)
  have e0 : (0 : Int) ≤ D := by
    have := (h.1.1.1.1.day (h.1.1.1.1.2.2.2 0 (by rw [h.1.2.1]; decide)).1).1
    have := h.2.2.2.1 _ (h.1.1.1.1.2.2.2 0 (by rw [h.1.2.1]; decide)).1
    omega
  have hmust : must (dd S D p) 0 p D := by
    rw [tw_must hT (by omega)]
    refine Or.inr (fun z => ?_)
    have e : ((p.toNat : Nat) : Int) = p := by have := h.2.1.1; omega
    have := z.2
    rw [e, (ld_dead (q := p) h).2] at this
    omega
  have hne : hdI (line (dd S D p) A' n' 0 D 0) ≠ p := by
    intro z
    have hp0 := h.2.1.1
    have hin : p.toNat ∈ line (dd S D p) A' n' 0 D 0 := by
      generalize line (dd S D p) A' n' 0 D 0 = L at z ⊢
      cases L with
      | nil =>
        have : (-1 : Int) = p := z
        omega
      | cons c l =>
        have e : ((c : Nat) : Int) = p := z
        rw [← e, Int.toNat_natCast]
        exact List.mem_cons_self
    have hc := (line_mem.mp hin).2
    rw [tw_cnt hT (by omega)] at hc
    have e : ((p.toNat : Nat) : Int) = p := by omega
    rw [e, (ld_dead (q := p) h).2] at hc
    omega
  have eS : stp (dd S D p) A' n' m' 0 (K + 1) = (D, hdI (line (dd S D p) A' n' 0 D 0), 0, D) := by
    rw [stp_s hT, eK, (ld_nx h).2.1 hgt hKd, hh]
    unfold dS
    rw [if_pos hmust, if_neg hne]
  rw [hK]
  refine ⟨?_, eS⟩
  have e2 : (stp (dd S D p) A' n' m' 0 (K + 1 + 1)).1 = 100000 := by
    rw [stp_s hT, eS]
    exact (ld_nx h).2.2 (Int.le_refl _)
  obtain ⟨m1, m2, m3, m4⟩ := NS_ok (A := A') (n := n') (m := m') hT.1.1 (tw_T hT)
  have a1 : ¬ K + 1 + 1 < NS (dd S D p) A' n' m' 0 := fun z => by
    have := m3 _ z
    rw [e2] at this
    omega
  have a2 : ¬ NS (dd S D p) A' n' m' 0 < K + 1 + 1 := fun z => by
    by_cases ez : NS (dd S D p) A' n' m' 0 = K + 1
    · rw [ez, eS] at m2
      have m2' : 99999 < D := m2
      omega
    · rw [ld_stp (m := m) (m' := m') h hr hA hA' _ (by omega)] at m2
      have := n3 (NS (dd S D p) A' n' m' 0) (by omega)
      omega
  omega
/-- what the law asks of it -/
theorem ld_all (h : LD S fr ρ D p) (hr : sn S < 200) (hA : AGE S A n) (hA' : AGE (dd S D p) A' n') (hh : holdA S A n m 0 (D - 1) = p) : holdA (dd S D p) A' n' m' 0 D = hdI (lineA (dd S D p) A' n' m' 0 D) ∧ sncA (dd S D p) A' n' m' 0 D = D ∧ tenN (dd S D p) A' n' m' 0 = tenN S A n m 0 + 1 ∧ lineA (dd S D p) A' n' m' 0 D = (lineA S A n m 0 (D - 1)).filter (fun q => dc (((q : Nat) : Int) ≠ p)) := by
  have hT := ld_TW h hr
  have hD := h.2.2.2.2
  have hX : ∀ r, r < sn S → wD S r ≤ D - 1 := fun r hr' => by have := h.2.2.2.1 r hr'; omega
  obtain ⟨c1, c2, c3, c4⟩ := late_all (m := m) h.1 hA hX (by omega)
  have hX' : ∀ r, r < sn (dd S D p) → wD (dd S D p) r ≤ D := fun r hr' => by
    have hr2 : r < sn S + 1 := hr'
    by_cases er : r = sn S
    · subst er
      rw [ad_new.2.1]; exact Int.le_refl _
    · rw [(ad_old er).2.1]
      exact Int.le_of_lt (h.2.2.2.1 r (by omega))
  obtain ⟨d1, d2, d3, d4⟩ := late_all (m := m') hT hA' hX' hD
  rw [hh] at c1
  obtain ⟨l1, l2⟩ := ld_last (m := m) (m' := m') h hr hA hA' c1.symm
  rw [l1, Nat.add_sub_cancel, l2] at d1 d3
  refine ⟨by rw [d2]; exact d1, d3, ?_, by rw [d2, c2]; exact ld_lineD h hr hA hA'⟩
  unfold tenN
  rw [l1, cn_yes (P := bgn (dd S D p) A' n' m' 0) (by unfold bgn; rw [l2])]
  congr 1
  refine cn_congr _ (fun k hk => ?_)
  unfold bgn
  rw [ld_stp (m := m) (m' := m') h hr hA hA' k hk]
/-- what was, stays -/
theorem ld_old (h : LD S fr ρ D p) (hr : sn S < 200) (hA : AGE S A n) (hA' : AGE (dd S D p) A' n') (hh : holdA S A n m 0 (D - 1) = p) {d : Int} (hd : d < D) : holdA (dd S D p) A' n' m' 0 d = holdA S A n m 0 d := by
  have hD := h.2.2.2.2
  have hX : ∀ r, r < sn S → wD S r ≤ D - 1 := fun r hr' => by have := h.2.2.2.1 r hr'; omega
  obtain ⟨c1, c2, c3, c4⟩ := late_all (m := m) h.1 hA hX (by omega)
  rw [hh] at c1
  obtain ⟨l1, l2⟩ := ld_last (m := m) (m' := m') h hr hA hA' c1.symm
  have es := ld_stp (m := m) (m' := m') h hr hA hA'
  have eK : sK_ (dd S D p) A' n' m' 0 d = sK_ S A n m 0 d := by
    unfold sK_
    rw [l1, ldx_no (by rw [l2]; show ¬ D ≤ d; omega)]
    have key : ∀ N, N ≤ NS S A n m 0 → ldx (fun k => (stp (dd S D p) A' n' m' 0 k).1 ≤ d) (fun k => (k : Int)) (-1) N = ldx (fun k => (stp S A n m 0 k).1 ≤ d) (fun k => (k : Int)) (-1) N := by
      intro N
      induction N with
      | zero => intro _; rfl
      | succ N ih =>
        intro hN
        have e := es N (by omega)
        by_cases c : (stp S A n m 0 N).1 ≤ d
        · rw [ldx_yes (P := fun k => (stp S A n m 0 k).1 ≤ d) c, ldx_yes (P := fun k => (stp (dd S D p) A' n' m' 0 k).1 ≤ d) (by rw [e]; exact c)]
        · rw [ldx_no (P := fun k => (stp S A n m 0 k).1 ≤ d) c, ldx_no (P := fun k => (stp (dd S D p) A' n' m' 0 k).1 ≤ d) (by rw [e]; exact c)]
          exact ih (by omega)
    exact key _ (Nat.le_refl _)
  unfold holdA
  rw [eK]
  by_cases c : sK_ S A n m 0 d < 0
  · rw [if_pos c, if_pos c]
  · rw [if_neg c, if_neg c]
    rcases sK_rg S A n m 0 d with ⟨z, _⟩ | ⟨k, k1, _, k3, _⟩
    · omega
    · rw [k3, Int.toNat_natCast, es k k1]
end XLD
