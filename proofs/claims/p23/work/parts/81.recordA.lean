/-! ===== record: what is read, the records with one more ===== -/
def rdO (K D a b c w : Int) : Prop := (0 ≤ K ∧ K ≤ 8) ∧ (0 ≤ D ∧ D ≤ 99999) ∧ (0 ≤ w ∧ w ≤ 5) ∧ (K = 0 → a = -1 ∧ -1 ≤ b ∧ -1 ≤ c ∧ w ≤ 1) ∧ (K = 1 ∨ K = 2 ∨ K = 5 ∨ K = 6 → 0 ≤ a ∧ 0 ≤ b ∧ c = -1) ∧ (K = 3 ∨ K = 4 → 0 ≤ a ∧ b = -1 ∧ c = -1) ∧ (7 ≤ K → a = -1 ∧ 0 ≤ b ∧ c = -1)
theorem rd_ok {B : Nat → Int} {s : Nat} (hB : isB B s) (h : rdW B s = -9) : rdO (rdK B s) (rdD B s) (rd1 B s) (rd2 B s) (rd3 B s) (rd4 B s) := by
  obtain ⟨⟨h1, h2⟩, h3⟩ := rdW_9 h
  have s0 : (0 : Nat) ≤ s := Nat.zero_le _
  have p1 := (nP_rg (B := B) s0).2
  have p2 := (nP_rg (B := B) p1).2
  have p3 := (nP_rg (B := B) p2).2
  have p4 := (nP_rg (B := B) p3).2
  have p5 := (nP_rg (B := B) p4).2
  have p6 := (nP_rg (B := B) p5).2
  have hD := nok_V hB p1 h3
  have hKr : 0 ≤ rdK B s ∧ rdK B s ≤ 8 := by rw [h2]; omega
  unfold rdW at h
  have hx : ∀ p, p ≤ s → (wd B s p 12 ∨ nok B s p) → -1 ≤ pV B s p := by
    intro p hp z
    unfold pV
    by_cases y : wd B s p 12
    · rw [if_pos y]; exact Int.le_refl _
    · rw [if_neg y]
      have := (nok_V hB hp (z.resolve_left y)).1
      omega
  have eP : rdP B s = nP B s (nP B s 0) := rfl
  refine ⟨hKr, hD, ?_⟩
  unfold tlW at h
  rw [eP] at h
  by_cases k0 : rdK B s = 0
  · rw [if_pos k0] at h
    have y1 := pW_9 (eW_9 h)
    have y2 := pW_9 (dW_9 y1.2).2
    have c1 := hx _ p6 y1.1
    have c2 := hx _ p4 y2.1
    have x01 := xb_01 (wd B s (rdP B s) 9)
    have r1 : rd1 B s = -1 := by unfold rd1; exact if_neg (by omega)
    have r2 : rd2 B s = pV B s (nP B s (nP B s (nP B s (nP B s 0)))) := by unfold rd2; rw [eP]; exact if_pos k0
    have r3 : rd3 B s = pV B s (nP B s (nP B s (nP B s (nP B s (nP B s (nP B s 0)))))) := by unfold rd3; rw [eP]; exact if_pos k0
    have r4 : rd4 B s = xb (wd B s (rdP B s) 9) := by unfold rd4; exact if_pos k0
    rw [r1, r2, r3, r4]
    exact ⟨by omega, fun _ => ⟨rfl, c2, c1, by omega⟩, fun z => by omega, fun z => by omega, fun z => by omega⟩
  · rw [if_neg k0] at h
    have r3 : rd3 B s = -1 := by unfold rd3; exact if_neg k0
    rw [r3]
    by_cases k1 : rdK B s = 1 ∨ rdK B s = 2 ∨ rdK B s = 5 ∨ rdK B s = 6
    · rw [if_pos k1] at h
      have y1 := nW_9 (eW_9 h)
      have y2 := nW_9 y1.2
      have v1 := (nok_V hB p3 y1.1).1
      have v2 := (nok_V hB p2 y2.1).1
      have r1 : rd1 B s = nV B s (nP B s (nP B s 0)) := by unfold rd1; rw [eP]; exact if_pos (by omega)
      have r2 : rd2 B s = nV B s (nP B s (nP B s (nP B s 0))) := by unfold rd2; rw [eP, if_neg k0]; exact if_pos k1
      have r4 : rd4 B s = 0 := by unfold rd4; rw [if_neg k0]; exact if_neg (by omega)
      rw [r1, r2, r4]
      exact ⟨by omega, fun z => absurd z k0, fun _ => ⟨v2, v1, rfl⟩, fun z => by omega, fun z => by omega⟩
    · rw [if_neg k1] at h
      by_cases k2 : rdK B s = 4
      · rw [if_pos k2] at h
        have y1 := lW_9 (eW_9 h)
        have y2 := nW_9 y1.2
        have v2 := (nok_V hB p2 y2.1).1
        have l6 := y1.1
        have r1 : rd1 B s = nV B s (nP B s (nP B s 0)) := by unfold rd1; rw [eP]; exact if_pos (by omega)
        have r2 : rd2 B s = -1 := by unfold rd2; rw [if_neg k0, if_neg k1]; exact if_neg (by omega)
        have r4 : rd4 B s = (lx B s (nP B s (nP B s (nP B s 0))) wRl 6 : Int) := by unfold rd4; rw [eP, if_neg k0]; exact if_pos k2
        rw [r1, r2, r4]
        exact ⟨by omega, fun z => absurd z k0, fun z => absurd z k1, fun z => ⟨v2, rfl, rfl⟩, fun z => by omega⟩
      · rw [if_neg k2] at h
        have y2 := nW_9 (eW_9 h)
        have v2 := (nok_V hB p2 y2.1).1
        have r4 : rd4 B s = 0 := by unfold rd4; rw [if_neg k0]; exact if_neg k2
        rw [r4]
        by_cases k3 : rdK B s = 3
        · have r1 : rd1 B s = nV B s (nP B s (nP B s 0)) := by unfold rd1; rw [eP]; exact if_pos (by omega)
          have r2 : rd2 B s = -1 := by unfold rd2; rw [if_neg k0, if_neg k1]; exact if_neg (by omega)
          rw [r1, r2]
          exact ⟨by omega, fun z => absurd z k0, fun z => absurd z k1, fun z => ⟨v2, rfl, rfl⟩, fun z => by omega⟩
        · have r1 : rd1 B s = -1 := by unfold rd1; exact if_neg (by omega)
          have r2 : rd2 B s = nV B s (nP B s (nP B s 0)) := by unfold rd2; rw [eP, if_neg k0, if_neg k1]; exact if_pos (by omega)
          rw [r1, r2]
          exact ⟨by omega, fun z => absurd z k0, fun z => absurd z k1, fun z => by omega, fun z => ⟨rfl, v2, rfl⟩⟩
/-- who is named is there -/
def kwn (S : xS) (K a b c : Int) : Prop := (K = 0 → (b = -1 ∨ isP S b) ∧ (c = -1 ∨ isP S c)) ∧ (1 ≤ K ∧ K ≤ 6 → isP S a) ∧ (K = 1 ∨ K = 2 → isP S b) ∧ (5 ≤ K → isT S b)
def rom (S : xS) (K : Int) : Prop := sn S < 200 ∧ (K = 0 → sp S < 64) ∧ (K = 4 → stn S < 8)
/-- the records with one more -/
def adR (S : xS) (K D a b c w : Int) : xS := (fun q k => if q = sn S then (if k = 0 then K else if k = 1 then D else if k = 2 then (if K = 0 then (sp S : Int) else a) else if k = 3 then (if K = 4 then (stn S : Int) else b) else if k = 4 then c else if k = 5 then w else 1) else S.1 q k, sn S + 1, (fun p => if K = 0 ∧ p = sp S then sn S else sbb S p), (if K = 0 then sp S + 1 else sp S), (fun t => if K = 4 ∧ t = stn S then sn S else stb S t), (if K = 4 then stn S + 1 else stn S))
section XR
variable {S : xS} {K D a b c w : Int}
theorem ad_old {q : Nat} (hq : q ≠ sn S) : wK (adR S K D a b c w) q = wK S q ∧ wD (adR S K D a b c w) q = wD S q ∧ w1 (adR S K D a b c w) q = w1 S q ∧ w2 (adR S K D a b c w) q = w2 S q ∧ w3 (adR S K D a b c w) q = w3 S q ∧ wW (adR S K D a b c w) q = wW S q ∧ wS (adR S K D a b c w) q = wS S q :=
  ⟨if_neg hq, if_neg hq, if_neg hq, if_neg hq, if_neg hq, if_neg hq, if_neg hq⟩
theorem ad_new : wK (adR S K D a b c w) (sn S) = K ∧ wD (adR S K D a b c w) (sn S) = D ∧ w1 (adR S K D a b c w) (sn S) = (if K = 0 then (sp S : Int) else a) ∧ w2 (adR S K D a b c w) (sn S) = (if K = 4 then (stn S : Int) else b) ∧ w3 (adR S K D a b c w) (sn S) = c ∧ wW (adR S K D a b c w) (sn S) = w ∧ wS (adR S K D a b c w) (sn S) = 1 := by
  refine ⟨?_, ?_, ?_, ?_, ?_, ?_, ?_⟩ <;> exact if_pos rfl
theorem ad_p {p : Nat} (hp : p < sp S) : sbb (adR S K D a b c w) p = sbb S p := if_neg (fun z => by omega)
theorem ad_t {t : Nat} (ht : t < stn S) : stb (adR S K D a b c w) t = stb S t := if_neg (fun z => by omega)
theorem ad_n : sn (adR S K D a b c w) = sn S + 1 ∧ sp S ≤ sp (adR S K D a b c w) ∧ stn S ≤ stn (adR S K D a b c w) ∧ sp (adR S K D a b c w) = (if K = 0 then sp S + 1 else sp S) ∧ stn (adR S K D a b c w) = (if K = 4 then stn S + 1 else stn S) := by
  refine ⟨rfl, ?_, ?_, rfl, rfl⟩
  · show sp S ≤ if K = 0 then sp S + 1 else sp S
    split <;> omega
  · show stn S ≤ if K = 4 then stn S + 1 else stn S
    split <;> omega
theorem ad_isP (hW : WF S) {x : Int} (h : isP S x) : isP (adR S K D a b c w) x := by
  have n1 := (ad_n (S := S) (K := K) (D := D) (a := a) (b := b) (c := c) (w := w))
  have h1 := h.1
  have h2 := h.2.1
  refine ⟨h1, by omega, ?_⟩
  rw [ad_p (show x.toNat < sp S by omega)]
  have := (hW.2.2.1 x.toNat (by omega)).1
  rw [(ad_old (show sbb S x.toNat ≠ sn S by omega)).2.2.2.2.2.2]
  exact h.2.2
theorem ad_isT (hW : WF S) {x : Int} (h : isT S x) : isT (adR S K D a b c w) x := by
  have n1 := (ad_n (S := S) (K := K) (D := D) (a := a) (b := b) (c := c) (w := w))
  have h1 := h.1
  have h2 := h.2.1
  refine ⟨h1, by omega, ?_⟩
  rw [ad_t (show x.toNat < stn S by omega)]
  have := (hW.2.2.2 x.toNat (by omega)).1
  rw [(ad_old (show stb S x.toNat ≠ sn S by omega)).2.2.2.2.2.2]
  exact h.2.2
theorem ad_NM (hW : WF S) (hN : NM S) (ho : rdO K D a b c w) (hk : kwn S K a b c) : NM (adR S K D a b c w) := by
  intro q hq hs
  have hq : q < sn S + 1 := hq
  by_cases z : q = sn S
  · subst z
    obtain ⟨e0, e1, e2, e3, e4, e5, e6⟩ := ad_new (S := S) (K := K) (D := D) (a := a) (b := b) (c := c) (w := w)
    rw [e0, e2, e3, e4]
    obtain ⟨k1, k2, k3, k4⟩ := hk
    refine ⟨fun y => ?_, fun y => ?_, fun y => ?_, fun y => ?_⟩
    · rw [if_neg (show ¬ K = 4 by omega)]
      exact ⟨(k1 y).1.imp id (ad_isP hW), (k1 y).2.imp id (ad_isP hW)⟩
    · rw [if_neg (show ¬ K = 0 by omega)]; exact ad_isP hW (k2 y)
    · rw [if_neg (show ¬ K = 4 by omega)]; exact ad_isP hW (k3 y)
    · rw [if_neg (show ¬ K = 4 by omega)]; exact ad_isT hW (k4 y)
  · obtain ⟨e0, e1, e2, e3, e4, e5, e6⟩ := ad_old (S := S) (K := K) (D := D) (a := a) (b := b) (c := c) (w := w) z
    rw [e6] at hs
    rw [e0, e2, e3, e4]
    obtain ⟨k1, k2, k3, k4⟩ := hN q (by omega) hs
    exact ⟨fun y => ⟨(k1 y).1.imp id (ad_isP hW), (k1 y).2.imp id (ad_isP hW)⟩, fun y => ad_isP hW (k2 y), fun y => ad_isP hW (k3 y), fun y => ad_isT hW (k4 y)⟩
theorem ad_WF (hW : WF S) (ho : rdO K D a b c w) (hk : kwn S K a b c) (hr : rom S K) : WF (adR S K D a b c w) := by
  obtain ⟨n1, n2, n3, n4, n5⟩ := ad_n (S := S) (K := K) (D := D) (a := a) (b := b) (c := c) (w := w)
  obtain ⟨⟨h1, h2, h3⟩, hr1, hp1, ht1⟩ := hW
  obtain ⟨o1, o2, o3, o4, o5, o6, o7⟩ := ho
  obtain ⟨k1, k2, k3, k4⟩ := hk
  refine ⟨⟨by have := hr.1; omega, ?_, ?_⟩, fun q hq => ?_, fun p hp => ?_, fun t ht => ?_⟩
  · rw [n4]
    by_cases z : K = 0
    · rw [if_pos z]; have := hr.2.1 z; omega
    · rw [if_neg z]; exact h2
  · rw [n5]
    by_cases z : K = 4
    · rw [if_pos z]; have := hr.2.2 z; omega
    · rw [if_neg z]; exact h3
  · rw [n1] at hq
    by_cases z : q = sn S
    · subst z
      obtain ⟨e0, e1, e2, e3, e4, e5, e6⟩ := ad_new (S := S) (K := K) (D := D) (a := a) (b := b) (c := c) (w := w)
      rw [e0, e1, e2, e3, e4, e5, e6]
      refine ⟨o1, o2, ⟨by decide, by decide⟩, o3, fun y => ?_, fun y => ?_, fun y => ?_, fun y => ?_, fun y => ?_, fun y => ?_⟩
      · obtain ⟨_, y2, y3, y4⟩ := o4 y
        have b1 := (k1 y).1
        have b2 := (k1 y).2
        have p1 : b < (sp S : Int) := b1.elim (fun q => by omega) (fun q => q.2.1)
        have p2 : c < (sp S : Int) := b2.elim (fun q => by omega) (fun q => q.2.1)
        have sb : sbb (adR S K D a b c w) (sp S) = sn S := if_pos ⟨y, rfl⟩
        rw [if_pos y, if_neg (show ¬ K = 4 by omega), n4, if_pos y, Int.toNat_natCast, sb]
        exact ⟨⟨by omega, by omega, rfl⟩, ⟨y2, p1⟩, ⟨y3, p2⟩, y4⟩
      · have y5 := o5 (by omega)
        have p1 := (k2 (by omega)).2.1
        have p2 := (k3 y).2.1
        rw [if_neg (show ¬ K = 0 by omega), if_neg (show ¬ K = 4 by omega)]
        exact ⟨⟨y5.1, by omega⟩, ⟨y5.2.1, by omega⟩, y5.2.2⟩
      · have y6 := o6 (Or.inl y)
        have p1 := (k2 (by omega)).2.1
        rw [if_neg (show ¬ K = 0 by omega), if_neg (show ¬ K = 4 by omega)]
        exact ⟨⟨y6.1, by omega⟩, y6.2.1, y6.2.2⟩
      · have y6 := o6 (Or.inr y)
        have p1 := (k2 (by omega)).2.1
        have sb : stb (adR S K D a b c w) (stn S) = sn S := if_pos ⟨y, rfl⟩
        rw [if_neg (show ¬ K = 0 by omega), if_pos y, n5, if_pos y, Int.toNat_natCast, sb]
        exact ⟨⟨y6.1, by omega⟩, ⟨by omega, by omega, rfl⟩, y6.2.2⟩
      · have y5 := o5 (by omega)
        have p1 := (k2 (by omega)).2.1
        have p2 := (k4 (by omega)).2.1
        rw [if_neg (show ¬ K = 0 by omega), if_neg (show ¬ K = 4 by omega)]
        exact ⟨⟨y5.1, by omega⟩, ⟨y5.2.1, by omega⟩, y5.2.2⟩
      · have y7 := o7 y
        have p2 := (k4 (by omega)).2.1
        rw [if_neg (show ¬ K = 0 by omega), if_neg (show ¬ K = 4 by omega)]
        exact ⟨y7.1, ⟨y7.2.1, by omega⟩, y7.2.2⟩
    · obtain ⟨e0, e1, e2, e3, e4, e5, e6⟩ := ad_old (S := S) (K := K) (D := D) (a := a) (b := b) (c := c) (w := w) z
      rw [e0, e1, e2, e3, e4, e5, e6]
      obtain ⟨y0, y1, y2, y3, y4, y5, y6, y7, y8, y9⟩ := hr1 q (by omega)
      refine ⟨y0, y1, y2, y3, fun y => ?_, fun y => ?_, fun y => ?_, fun y => ?_, fun y => ?_, fun y => ?_⟩
      · obtain ⟨⟨u1, u2, u3⟩, u4⟩ := y4 y
        exact ⟨⟨u1, by omega, by rw [ad_p (by omega)]; exact u3⟩, u4⟩
      · obtain ⟨⟨u1, u2⟩, ⟨u3, u4⟩, u5⟩ := y5 y
        exact ⟨⟨u1, by omega⟩, ⟨u3, by omega⟩, u5⟩
      · obtain ⟨⟨u1, u2⟩, u3⟩ := y6 y
        exact ⟨⟨u1, by omega⟩, u3⟩
      · obtain ⟨⟨u1, u2⟩, ⟨u3, u4, u5⟩, u6⟩ := y7 y
        exact ⟨⟨u1, by omega⟩, ⟨u3, by omega, by rw [ad_t (by omega)]; exact u5⟩, u6⟩
      · obtain ⟨⟨u1, u2⟩, ⟨u3, u4⟩, u5⟩ := y8 y
        exact ⟨⟨u1, by omega⟩, ⟨u3, by omega⟩, u5⟩
      · obtain ⟨u1, ⟨u3, u4⟩, u5⟩ := y9 y
        exact ⟨u1, ⟨u3, by omega⟩, u5⟩
  · by_cases z : p < sp S
    · obtain ⟨u1, u2, u3⟩ := hp1 p z
      have o := ad_old (S := S) (K := K) (D := D) (a := a) (b := b) (c := c) (w := w) (show sbb S p ≠ sn S by omega)
      rw [ad_p z, o.1, o.2.2.1, n1]
      exact ⟨by omega, u2, u3⟩
    · rw [n4] at hp
      by_cases y : K = 0
      · rw [if_pos y] at hp
        have ep : p = sp S := by omega
        subst ep
        have sb : sbb (adR S K D a b c w) (sp S) = sn S := if_pos ⟨y, rfl⟩
        have o := ad_new (S := S) (K := K) (D := D) (a := a) (b := b) (c := c) (w := w)
        rw [sb, n1, o.1, o.2.2.1, if_pos y]
        exact ⟨by omega, y, rfl⟩
      · rw [if_neg y] at hp; exact absurd hp z
  · by_cases z : t < stn S
    · obtain ⟨u1, u2, u3⟩ := ht1 t z
      have o := ad_old (S := S) (K := K) (D := D) (a := a) (b := b) (c := c) (w := w) (show stb S t ≠ sn S by omega)
      rw [ad_t z, o.1, o.2.2.2.1, n1]
      exact ⟨by omega, u2, u3⟩
    · rw [n5] at ht
      by_cases y : K = 4
      · rw [if_pos y] at ht
        have ep : t = stn S := by omega
        subst ep
        have sb : stb (adR S K D a b c w) (stn S) = sn S := if_pos ⟨y, rfl⟩
        have o := ad_new (S := S) (K := K) (D := D) (a := a) (b := b) (c := c) (w := w)
        rw [sb, n1, o.1, o.2.2.2.1, if_pos y]
        exact ⟨by omega, y, rfl⟩
      · rw [if_neg y] at ht; exact absurd ht z
theorem ad_sN : sN (adR S K D a b c w) = sN S + 1 := by
  unfold sN
  have e := (ad_new (S := S) (K := K) (D := D) (a := a) (b := b) (c := c) (w := w)).2.2.2.2.2.2
  show cn _ (sn S + 1) = _
  rw [cn_yes (P := fun r => wS (adR S K D a b c w) r = 1) e]
  rw [cn_congr (sn S) (fun i hi => by
    show wS (adR S K D a b c w) i = 1 ↔ wS S i = 1
    rw [(ad_old (S := S) (K := K) (D := D) (a := a) (b := b) (c := c) (w := w) (show i ≠ sn S by omega)).2.2.2.2.2.2])]
end XR
