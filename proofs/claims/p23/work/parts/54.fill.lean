/-! ===== the class fills its line ===== -/
noncomputable def wYc (S : xS) (t p : Nat) : Int := ldx (isYl S t p) (wD S) (-1) (sn S)
theorem ldx_two (P : Nat → Prop) (f : Nat → Int) (a b : Int) : ∀ n, (ldx P f a n = a ∧ ldx P f b n = b) ∨ ∃ r, r < n ∧ P r ∧ ldx P f a n = f r ∧ ldx P f b n = f r := by
  intro n
  induction n with
  | zero => exact Or.inl ⟨rfl, rfl⟩
  | succ n ih =>
    by_cases h : P n
    · exact Or.inr ⟨n, Nat.lt_succ_self n, h, ldx_yes h, ldx_yes h⟩
    · rw [ldx_no h, ldx_no h]
      rcases ih with z | ⟨r, r1, r2⟩
      · exact Or.inl z
      · exact Or.inr ⟨r, by omega, r2⟩
theorem yc_iff {S : xS} (hW : WF S) (t p : Nat) {d : Int} (hd : d ≤ 99999) : (wYc S t p = -1 ∨ d < wYc S t p) ↔ ¬ wYl S t p ≤ d := by
  unfold wYc wYl
  rcases ldx_two (isYl S t p) (wD S) (-1) 100000 (sn S) with ⟨h1, h2⟩ | ⟨r, r1, _, h1, h2⟩
  · rw [h1, h2]; omega
  · rw [h1, h2]; have := hW.day r1; omega
def YV (σ : xm_Mem) (S : xS) (t : Nat) : Prop := ∀ p, p < 64 → σ.1 (xm_cb t + 1) p = wYc S t p
/-- the order of a body that is kept -/
def CV (σ : xm_Mem) (S : xS) (A : Nat → Nat) (n : Nat) : Prop := 0 ≤ σ.1 29 4 → ∃ q : Nat, σ.1 29 5 = (q : Int) ∧ σ.1 29 3 = ((ord S A n (σ.1 29 4) q).length : Int) ∧ LA σ 30 0 (ord S A n (σ.1 29 4) q)
def LN (σ : xm_Mem) (l : List Nat) : Prop := σ.1 29 10 = (l.length : Int) ∧ LA σ 33 0 l ∧ ∀ q, q < 64 → (bt (σ.2.1 29 11) q ↔ q ∈ l)
def zL (a : Nat) : Prop := 29 ≤ a ∧ a ≤ 34
theorem zLP : ∀ a, zL a → ¬ zP a := fun a h z => by unfold zL at h; unfold zP at z; omega
theorem zLC : ∀ a, zL a → zC a := fun a h => by unfold zL at h; unfold zC; omega
section XF
variable {σ : xm_Mem} {S : xS} {A : Nat → Nat} {n : Nat} {t : Nat} {d : Int}
theorem ND_len {l : List Nat} (h : ND l) : l.length ≤ 64 := by rw [← h.1]; exact cn_le _ _
theorem ord_ok (hO : OK S) (hA : AGE S A n) {rule : Int} {root : Nat} (hroot : isP S (root : Int)) : ND (ord S A n rule root) ∧ ∀ q, q ∈ ord S A n rule root → isP S (q : Int) := by
  have r64 := (hO.rec hroot).2.2.2.2.2
  unfold ord
  by_cases h : rule = 4
  · rw [if_pos h, ordN_part]
    refine ⟨partN_ND hA root 64 0 (Nat.zero_le _), fun q hq => ?_⟩
    obtain ⟨i, i1, i2, _⟩ := partN_mem hq (Nat.zero_le _)
    rw [← i2]; exact (hA.2.1 i i1).1
  · rw [if_neg h]
    exact ⟨(wit_inv hO hA rule r64 129 (Nat.le_refl _)).1.2, (wit_isP hO hA rule hroot 129).2⟩
theorem line_mem {q root : Nat} : q ∈ line S A n t d root ↔ q ∈ ord S A n (rl S t) root ∧ cnt S t d q := by
  unfold line cntL
  rw [List.mem_filter, dc_t]
theorem line_isP (hO : OK S) (hA : AGE S A n) {root q : Nat} (hroot : isP S (root : Int)) (h : q ∈ line S A n t d root) : isP S (q : Int) := (ord_ok hO hA hroot).2 q (line_mem.mp h).1
theorem line_len (hO : OK S) (hA : AGE S A n) {root : Nat} (hroot : isP S (root : Int)) : (line S A n t d root).length ≤ 64 :=
  Nat.le_trans (cntL_len _ _ _ _) (ND_len (ord_ok hO hA hroot).1)
theorem c_isAlive (hO : OK S) (hP : PO σ S) (p : Int) (d : Int) : f_X5_isAlive σ p d = some (σ, xb (isP S p ∧ wBorn S p ≤ d ∧ (wDead S p < 0 ∨ d < wDead S p))) := by
  unfold f_X5_isAlive
  simp only [c_has hO.1 hP, Option.bind_some, xbi]
  by_cases h : isP S p
  · have r := isP_rg hO.1 h
    have hg : 0 ≤ p ∧ p < 64 := ⟨r.1, r.2.2⟩
    have rg := wDead_rg hO.1 p
    have e12 := (hP.is hO.1 h).2.1
    have e13 := (hP.at hg.1 hg.2).2 (isP_sn hO.1 h)
    rw [hO.uq p] at e13
    rw [if_pos h]
    simp only [if_pos hg, e12, e13]
    by_cases a : d < wBorn S p
    · rw [if_pos a, xb_neg (fun z => by omega)]
    · rw [if_neg a]
      by_cases b : wDead S p = -1
      · rw [if_pos b, xb_pos ⟨h, by omega, by omega⟩]
      · rw [if_neg b]
        by_cases c : d < wDead S p
        · rw [if_pos c, xb_pos ⟨h, by omega, by omega⟩]
        · rw [if_neg c, xb_neg (fun z => by omega)]
  · rw [if_neg h, xb_neg (fun z => h z.1)]
theorem c_fill2 (hO : OK S) (hA : AGE S A n) (hP : PO σ S) (ht : t < 8) (hd : 0 ≤ d ∧ d ≤ 99999) (hY : YV σ S t) (hn : 110 ≤ σ.2.2) {l : List Nat} (hl : ND l ∧ ∀ q, q ∈ l → isP S (q : Int)) (h3 : σ.1 29 3 = (l.length : Int)) (h30 : LA σ 30 0 l) :
    ∃ σ', f_X4_fill_j50 σ (rl S t) d (((xm_cb t + 1) : Nat) : Int) = some (σ', 0) ∧ gx (fun a k => (a = 29 ∧ (k = 10 ∨ k = 11)) ∨ a = 33) σ σ' ∧ LN σ' (cntL S t d l) := by
  unfold f_X4_fill_j50 f_X4_fill_l63
  have hlen := ND_len hl.1
  have hE := pre_self l
  rw [xst, xst]
  have hcb : 36 ≤ xm_cb t ∧ xm_cb t + 1 ≤ 110 := by unfold xm_cb; omega
  refine it_T (γ := xm_Mem × Nat) _ _ (fun (g : xm_Mem → Int → Int → Int → Int → Option xm_Out) a => g a.1 (rl S t) d (((xm_cb t + 1) : Nat) : Int) (a.2 : Int)) (fun a => a.2 ≤ l.length ∧ gx (fun a k => (a = 29 ∧ (k = 10 ∨ k = 11)) ∨ a = 33) σ a.1 ∧ LN a.1 (cntL S t d (pre (fun i => l.getD i 0) a.2))) (fun a => l.length - a.2) (fun z => ∃ σ', z = some (σ', 0) ∧ gx (fun a k => (a = 29 ∧ (k = 10 ∨ k = 11)) ∨ a = 33) σ σ' ∧ LN σ' (cntL S t d l)) ?_ xm_fuel (xm_u2 (xm_u1 σ 29 10 0) 29 11 0, 0) ⟨Nat.zero_le _, ((gx.rf _ _).u1 (Or.inl ⟨rfl, Or.inl rfl⟩)).u2 (Or.inl ⟨rfl, Or.inr rfl⟩), ?_, LA.nil, fun q _ => ⟨fun z => ?_, fun z => absurd z List.not_mem_nil⟩⟩ (xfu (by show l.length - 0 < _; omega))
  · rintro self ⟨τ, i⟩ ⟨hi, hf, hS⟩ ih
    replace hi : i ≤ l.length := hi
    replace hf : gx (fun a k => (a = 29 ∧ (k = 10 ∨ k = 11)) ∨ a = 33) σ τ := hf
    replace hS : LN τ (cntL S t d (pre (fun i => l.getD i 0) i)) := hS
    have hPτ := hP.gx hf (fun a k h z => by unfold zP at z; omega)
    have hlen2 := cntL_len S t d (pre (fun i => l.getD i 0) i)
    rw [pre_len] at hlen2
    show ∃ σ', f_X4_fill_b63 self τ (rl S t) d (((xm_cb t + 1) : Nat) : Int) (i : Int) = _ ∧ _
    unfold f_X4_fill_b63
    rw [hf.1 29 3 (by omega), h3]
    by_cases h : i < l.length
    · have hm := getD_mem h
      generalize hp : l.getD i 0 = p at hm
      have hpp := hl.2 p hm
      have p64 := (hO.rec hpp).2.2.2.2.2
      have e30 : τ.1 30 i = (p : Int) := by
        have := h30 i h
        rw [Nat.zero_add, hp] at this
        rw [hf.1 30 i (by omega)]; exact this
      have epre : pre (fun i => l.getD i 0) (i + 1) = pre (fun i => l.getD i 0) i ++ [p] := by rw [pre_s]; rw [hp]
      have no : ¬ cnt S t d p → ∃ σ', self τ (rl S t) d (((xm_cb t + 1) : Nat) : Int) (xm_w ((i : Int) + 1)) = some (σ', 0) ∧ gx (fun a k => (a = 29 ∧ (k = 10 ∨ k = 11)) ∨ a = 33) σ σ' ∧ LN σ' (cntL S t d l) := by
        intro z
        rw [xw1 (by omega)]
        refine ih (τ, i + 1) ⟨h, hf, ?_⟩ (by show l.length - (i + 1) < l.length - i; omega)
        show LN τ (cntL S t d (pre (fun i => l.getD i 0) (i + 1)))
        rw [epre, cntL_n z]; exact hS
      have yes : cnt S t d p → ∃ σ', f_X4_fill_j142 self τ (rl S t) d (((xm_cb t + 1) : Nat) : Int) (i : Int) (p : Int) = some (σ', 0) ∧ gx (fun a k => (a = 29 ∧ (k = 10 ∨ k = 11)) ∨ a = 33) σ σ' ∧ LN σ' (cntL S t d l) := by
        intro z
        unfold f_X4_fill_j142
        rw [hS.1, xvl, xst, if_pos ⟨by omega, by omega⟩, xst, xst, Int.toNat_natCast, xw1 (by omega), xw1 (by omega)]
        generalize hτ2 : xm_u2 (xm_u1 (xm_u1 τ 29 10 (((cntL S t d (pre (fun i => l.getD i 0) i)).length + 1 : Nat) : Int)) 33 (cntL S t d (pre (fun i => l.getD i 0) i)).length (p : Int)) 29 11 ((xm_u1 (xm_u1 τ 29 10 (((cntL S t d (pre (fun i => l.getD i 0) i)).length + 1 : Nat) : Int)) 33 (cntL S t d (pre (fun i => l.getD i 0) i)).length (p : Int)).2.1 29 11 ||| xm_shl 1 (p : Int)) = τ2
        have f2 : gx (fun a k => (a = 29 ∧ (k = 10 ∨ k = 11)) ∨ a = 33) σ τ2 := by rw [← hτ2]; exact ((hf.u1 (Or.inl ⟨rfl, Or.inl rfl⟩)).u1 (Or.inr rfl)).u2 (Or.inl ⟨rfl, Or.inr rfl⟩)
        have n2 : LN τ2 (cntL S t d (pre (fun i => l.getD i 0) i) ++ [p]) := by
          rw [← hτ2]
          refine ⟨?_, LA.app hS.2.1 (fun j hj => ?_) ?_, fun q hq => ?_⟩
          · rw [xu21, xu11, if_neg (by omega), xu11, if_pos ⟨rfl, rfl⟩]
            simp only [List.length_append, List.length_cons, List.length_nil, Nat.zero_add]
          · rw [xu21, xu11, if_neg (by omega), xu11, if_neg (by omega)]
          · rw [xu21, xu11, if_pos ⟨rfl, by omega⟩]
          · rw [xu22, if_pos ⟨rfl, rfl⟩, bt_or, bt_shl p64 hq, List.mem_append, List.mem_singleton]
            have := hS.2.2 q hq
            rw [← this]
            exact Iff.rfl
        refine ih (τ2, i + 1) ⟨h, f2, ?_⟩ (by show l.length - (i + 1) < l.length - i; omega)
        show LN τ2 (cntL S t d (pre (fun i => l.getD i 0) (i + 1)))
        rw [epre, cntL_y z]; exact n2
      have harr : xm_arr τ (((xm_cb t + 1) : Nat) : Int) 1 64 := ⟨by omega, by rw [hf.2.2]; omega, by rw [Int.toNat_natCast]; exact (xm_cbl t ht).2⟩
      have hY1 : τ.1 (xm_cb t + 1) p = wYc S t p := by rw [hf.1 _ _ (by omega)]; exact hY p p64
      have yi := yc_iff hO.1 t p hd.2
      have j113 : (wBorn S p ≤ d ∧ (wDead S p < 0 ∨ d < wDead S p)) → (rl S t ≠ 0 ∨ wMale S p) → ∃ σ', f_X4_fill_j113 self τ (rl S t) d (((xm_cb t + 1) : Nat) : Int) (i : Int) (p : Int) = some (σ', 0) ∧ gx (fun a k => (a = 29 ∧ (k = 10 ∨ k = 11)) ∨ a = 33) σ σ' ∧ LN σ' (cntL S t d l) := by
        intro z1 z2
        unfold f_X4_fill_j113
        have ha2 : xm_arr τ (((xm_cb t + 1) : Nat) : Int) 1 64 ∧ 0 ≤ (p : Int) ∧ (p : Int) < 64 := ⟨harr, by omega, by omega⟩
        simp only [if_pos harr, if_pos (show (p : Int) < 64 by omega), if_pos ha2, Int.toNat_natCast, hY1]
        by_cases c1 : wYc S t p = -1
        · rw [if_pos c1]; exact yes ⟨z1, yi.mp (Or.inl c1), z2⟩
        · rw [if_neg c1]
          by_cases c2 : d < wYc S t p
          · rw [if_pos c2]; exact yes ⟨z1, yi.mp (Or.inr c2), z2⟩
          · rw [if_neg c2]; exact no (fun z => by have := yi.mpr z.2.1; omega)
      rw [if_pos (by omega), if_pos ⟨by omega, by omega⟩, Int.toNat_natCast, e30, xvl, c_isAlive hO hPτ, Option.bind_some]
      try dsimp only
      rw [xbi]
      by_cases a : isP S (p : Int) ∧ wBorn S p ≤ d ∧ (wDead S p < 0 ∨ d < wDead S p)
      · rw [if_pos a]
        by_cases r0 : rl S t = 0
        · rw [if_pos r0, c_isMale hO.1 hPτ hpp, Option.bind_some]
          try dsimp only
          rw [xbi]
          by_cases mm : wMale S p
          · rw [if_pos mm]; exact j113 a.2 (Or.inr mm)
          · rw [if_neg mm]; exact no (fun z => z.2.2.elim (fun y => y r0) mm)
        · rw [if_neg r0]; exact j113 a.2 (Or.inl r0)
      · rw [if_neg a]; exact no (fun z => a ⟨hpp, z.1⟩)
    · rw [if_neg (by omega)]
      have e : i = l.length := by omega
      rw [e, hE] at hS
      exact ⟨τ, rfl, hf, hS⟩
  · show (xm_u1 σ 29 10 0).1 29 10 = 0
    rw [xu11, if_pos ⟨rfl, rfl⟩]
  · have z : bt ((xm_u2 (xm_u1 σ 29 10 0) 29 11 0).2.1 29 11) q := z
    rw [xu22, if_pos ⟨rfl, rfl⟩] at z; exact absurd z (bt_0 q)
/-- what a fill stands on -/
def FI (σ : xm_Mem) (S : xS) (A : Nat → Nat) (n : Nat) : Prop := (PO σ S ∧ DA σ S A n ∧ KD σ S A n) ∧ CV σ S A n ∧ 110 ≤ σ.2.2
theorem FI.fr {σ' : xm_Mem} {Z : Nat → Prop} (h : FI σ S A n) (hf : fr Z σ σ') (hz : ∀ a, Z a → ¬ zP a ∧ ¬ (23 ≤ a ∧ a ≤ 30)) : FI σ' S A n := by
  obtain ⟨⟨h1, h2, h3⟩, h4, h5⟩ := h
  refine ⟨⟨h1.fr hf (fun a z => (hz a z).1), h2.fr hf (fun a z => by have := (hz a z).2; omega), h3.fr hf (fun a z => by have := (hz a z).2; omega)⟩, ?_, by rw [hf.2.2]; exact h5⟩
  unfold CV
  have o29 : ∀ k, σ'.1 29 k = σ.1 29 k := fun k => hf.1 29 k (fun z => by have := (hz _ z).2; omega)
  rw [o29 4, o29 5, o29 3]
  intro h0
  obtain ⟨q, q1, q3, q4⟩ := h4 h0
  exact ⟨q, q1, q3, q4.eq (fun i _ => hf.1 30 _ (fun z => by have := (hz _ z).2; omega))⟩
theorem c_fill (hO : OK S) (hA : AGE S A n) (hF : FI σ S A n) (ht : isT S (t : Int)) (hd : 0 ≤ d ∧ d ≤ 99999) (hY : YV σ S t) {root : Nat} (hroot : isP S (root : Int)) :
    ∃ σ', f_X4_fill σ (rl S t) (root : Int) d (((xm_cb t + 1) : Nat) : Int) = some (σ', 0) ∧ fr zL σ σ' ∧ FI σ' S A n ∧ LN σ' (line S A n t d root) := by
  obtain ⟨⟨hP, hD, hK⟩, hC, hn⟩ := hF
  have t8 := (isT_t hO ht).1
  have hrg := rl_rg hO ht
  have hcb : 36 ≤ xm_cb t ∧ xm_cb t + 1 ≤ 110 := by unfold xm_cb; omega
  have o := ord_ok hO hA (rule := rl S t) hroot
  -- the rest, once the order stands
  have rest : ∀ σ1, fr zL σ σ1 → σ1.1 29 4 = rl S t → σ1.1 29 5 = (root : Int) → σ1.1 29 3 = ((ord S A n (rl S t) root).length : Int) → LA σ1 30 0 (ord S A n (rl S t) root) → ∃ σ', f_X4_fill_j50 σ1 (rl S t) d (((xm_cb t + 1) : Nat) : Int) = some (σ', 0) ∧ fr zL σ σ' ∧ FI σ' S A n ∧ LN σ' (line S A n t d root) := by
    intro σ1 z1 e4 e5 e3 e30
    have hP1 := hP.fr z1 zLP
    have hY1 : YV σ1 S t := fun p hp => by rw [z1.1 _ _ (by unfold zL; omega)]; exact hY p hp
    obtain ⟨σ2, a1, a2, a3⟩ := c_fill2 hO hA hP1 t8 hd hY1 (by rw [z1.2.2]; exact hn) o e3 e30
    have z2 : fr zL σ1 σ2 := ⟨fun a k h => a2.1 a k (fun z => h (by unfold zL; omega)), fun a k h => a2.2.1 a k (fun z => h (by unfold zL; omega)), a2.2.2⟩
    refine ⟨σ2, a1, z1.tr z2, ⟨⟨hP1.fr z2 zLP, hD.fr (z1.tr z2) (fun a h => by unfold zL at h; omega), hK.fr (z1.tr z2) (fun a h => by unfold zL at h; omega)⟩, ?_, by rw [(z1.tr z2).2.2]; exact hn⟩, a3⟩
    intro _
    rw [a2.1 29 4 (by omega), a2.1 29 5 (by omega), a2.1 29 3 (by omega), e4]
    exact ⟨root, e5, e3, e30.eq (fun i _ => a2.1 30 _ (by omega))⟩
  have anew : ∃ σ', f_X4_fill_j16 σ (rl S t) (root : Int) d (((xm_cb t + 1) : Nat) : Int) = some (σ', 0) ∧ fr zL σ σ' ∧ FI σ' S A n ∧ LN σ' (line S A n t d root) := by
    unfold f_X4_fill_j16
    rw [xst, xst, xst]
    generalize hτ : xm_u1 (xm_u1 (xm_u1 σ 29 3 0) 29 4 (rl S t)) 29 5 (root : Int) = τ
    have z0 : fr zL σ τ := by rw [← hτ]; exact (((fr.rf _ _).u1 (by unfold zL; omega)).u1 (by unfold zL; omega)).u1 (by unfold zL; omega)
    have e3 : τ.1 29 3 = 0 := by rw [← hτ, xu11, if_neg (by omega), xu11, if_neg (by omega), xu11, if_pos ⟨rfl, rfl⟩]
    have e4 : τ.1 29 4 = rl S t := by rw [← hτ, xu11, if_neg (by omega), xu11, if_pos ⟨rfl, rfl⟩]
    have e5 : τ.1 29 5 = (root : Int) := by rw [← hτ, xu11, if_pos ⟨rfl, rfl⟩]
    have hPτ := hP.fr z0 zLP
    have hDτ := hD.fr z0 (fun a h => by unfold zL at h; omega)
    have hKτ := hK.fr z0 (fun a h => by unfold zL at h; omega)
    by_cases c : rl S t = 4
    · rw [if_pos c]
      obtain ⟨σ1, a1, a2, a3, a4⟩ := c_near hO hA hDτ hKτ hroot e3
      have z1 : fr zL τ σ1 := ⟨fun a k h => a2.1 a k (fun z => h (by unfold zBN at z; unfold zL; omega)), fun a k h => a2.2.1 a k (fun z => h (by unfold zBN at z; unfold zL; omega)), a2.2.2⟩
      rw [a1, Option.bind_some]
      refine rest σ1 (z0.tr z1) ?_ ?_ ?_ ?_
      · rw [a2.1 29 4 (by unfold zBN; omega)]; exact e4
      · rw [a2.1 29 5 (by unfold zBN; omega)]; exact e5
      · unfold ord; rw [if_pos c]; exact a3
      · unfold ord; rw [if_pos c]; exact a4
    · rw [if_neg c]
      obtain ⟨σ1, a1, a2, a3, a4⟩ := c_branches hO hA hPτ hKτ (rule := rl S t) (by omega) hroot e3
      have z1 : fr zL τ σ1 := ⟨fun a k h => a2.1 a k (fun z => h (by unfold zB at z; unfold zL; omega)), fun a k h => a2.2.1 a k (fun z => h (by unfold zB at z; unfold zL; omega)), a2.2.2⟩
      rw [a1, Option.bind_some]
      refine rest σ1 (z0.tr z1) ?_ ?_ ?_ ?_
      · rw [a2.1 29 4 (by unfold zB; omega)]; exact e4
      · rw [a2.1 29 5 (by unfold zB; omega)]; exact e5
      · unfold ord; rw [if_neg c]; exact a3
      · unfold ord; rw [if_neg c]; exact a4
  unfold f_X4_fill
  by_cases c1 : rl S t = σ.1 29 4
  · rw [if_pos c1]
    by_cases c2 : (root : Int) = σ.1 29 5
    · rw [if_pos c2]
      obtain ⟨q, q1, q3, q4⟩ := hC (by omega)
      have eq : q = root := by omega
      subst eq
      rw [← c1] at q3 q4
      exact rest σ (fr.rf _ _) c1.symm c2.symm q3 q4
    · rw [if_neg c2]; exact anew
  · rw [if_neg c1]; exact anew
end XF
