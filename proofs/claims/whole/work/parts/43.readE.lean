/-! ===== the reference reads a record ===== -/
theorem row_kind : rowOf 19 9 wKn (fun i => [0, 5, 9, 14, 19, 25, 31, 36, 41, 46].getD i 0) := by
  refine ⟨by decide, rfl, by decide +kernel, ?_⟩
  have tb : ∀ i, i < 9 → (0 ≤ wKn i ∧ wKn i < 19) ∧ (([0, 5, 9, 14, 19, 25, 31, 36, 41, 46].getD (i + 1) 0 : Nat) : Int) = ([0, 5, 9, 14, 19, 25, 31, 36, 41, 46].getD i 0 : Nat) + xm_slen (wKn i) + 1 ∧ (([0, 5, 9, 14, 19, 25, 31, 36, 41, 46].getD (i + 1) 0 : Nat) : Int) ≤ xm_slen 19 + 1 ∧ ((([0, 5, 9, 14, 19, 25, 31, 36, 41, 46].getD (i + 1) 0 : Nat) : Int) < xm_slen 19 + 1 → xm_chr 19 ((([0, 5, 9, 14, 19, 25, 31, 36, 41, 46].getD (i + 1) 0 : Nat) : Int) - 1) = 32) ∧ ∀ j : Nat, j < 6 → (j : Int) < xm_slen (wKn i) → xm_chr 19 ((([0, 5, 9, 14, 19, 25, 31, 36, 41, 46].getD i 0 + j : Nat)) : Int) = xm_chr (wKn i) (j : Nat) ∧ ¬ xm_chr 19 ((([0, 5, 9, 14, 19, 25, 31, 36, 41, 46].getD i 0 + j : Nat)) : Int) = 32 := by decide +kernel
  have tl : ∀ i, i < 9 → xm_slen (wKn i) ≤ 6 := by decide +kernel
  intro i hi
  obtain ⟨h1, h2, h3, h4, h5⟩ := tb i hi
  exact ⟨h1, h2, h3, h4, fun j hj => h5 j (by have := tl i hi; omega) hj⟩
theorem row_sex : rowOf 20 2 wSx (fun i => [0, 5, 12].getD i 0) := by
  refine ⟨by decide, rfl, by decide +kernel, ?_⟩
  have tb : ∀ i, i < 2 → (0 ≤ wSx i ∧ wSx i < 19) ∧ (([0, 5, 12].getD (i + 1) 0 : Nat) : Int) = ([0, 5, 12].getD i 0 : Nat) + xm_slen (wSx i) + 1 ∧ (([0, 5, 12].getD (i + 1) 0 : Nat) : Int) ≤ xm_slen 20 + 1 ∧ ((([0, 5, 12].getD (i + 1) 0 : Nat) : Int) < xm_slen 20 + 1 → xm_chr 20 ((([0, 5, 12].getD (i + 1) 0 : Nat) : Int) - 1) = 32) ∧ ∀ j : Nat, j < 6 → (j : Int) < xm_slen (wSx i) → xm_chr 20 ((([0, 5, 12].getD i 0 + j : Nat)) : Int) = xm_chr (wSx i) (j : Nat) ∧ ¬ xm_chr 20 ((([0, 5, 12].getD i 0 + j : Nat)) : Int) = 32 := by decide +kernel
  have tl : ∀ i, i < 2 → xm_slen (wSx i) ≤ 6 := by decide +kernel
  intro i hi
  obtain ⟨h1, h2, h3, h4, h5⟩ := tb i hi
  exact ⟨h1, h2, h3, h4, fun j hj => h5 j (by have := tl i hi; omega) hj⟩
theorem row_rule : rowOf 21 6 wRl (fun i => [0, 5, 11, 17, 22, 27, 32].getD i 0) := by
  refine ⟨by decide, rfl, by decide +kernel, ?_⟩
  have tb : ∀ i, i < 6 → (0 ≤ wRl i ∧ wRl i < 19) ∧ (([0, 5, 11, 17, 22, 27, 32].getD (i + 1) 0 : Nat) : Int) = ([0, 5, 11, 17, 22, 27, 32].getD i 0 : Nat) + xm_slen (wRl i) + 1 ∧ (([0, 5, 11, 17, 22, 27, 32].getD (i + 1) 0 : Nat) : Int) ≤ xm_slen 21 + 1 ∧ ((([0, 5, 11, 17, 22, 27, 32].getD (i + 1) 0 : Nat) : Int) < xm_slen 21 + 1 → xm_chr 21 ((([0, 5, 11, 17, 22, 27, 32].getD (i + 1) 0 : Nat) : Int) - 1) = 32) ∧ ∀ j : Nat, j < 6 → (j : Int) < xm_slen (wRl i) → xm_chr 21 ((([0, 5, 11, 17, 22, 27, 32].getD i 0 + j : Nat)) : Int) = xm_chr (wRl i) (j : Nat) ∧ ¬ xm_chr 21 ((([0, 5, 11, 17, 22, 27, 32].getD i 0 + j : Nat)) : Int) = 32 := by decide +kernel
  have tl : ∀ i, i < 6 → xm_slen (wRl i) ≤ 6 := by decide +kernel
  intro i hi
  obtain ⟨h1, h2, h3, h4, h5⟩ := tb i hi
  exact ⟨h1, h2, h3, h4, fun j hj => h5 j (by have := tl i hi; omega) hj⟩
/-- the six told fields -/
def FL (τ : xm_Mem) (a b c d e f : Int) : Prop := τ.1 84 44 = a ∧ τ.1 84 45 = b ∧ τ.1 84 46 = c ∧ τ.1 84 47 = d ∧ τ.1 84 48 = e ∧ τ.1 84 49 = f
theorem FL.frk {τ τ' : xm_Mem} {a b c d e f : Int} (h : FL τ a b c d e f) (g : frk qR τ τ') : FL τ' a b c d e f := by
  have o : ∀ k, 44 ≤ k → k ≤ 49 → τ'.1 84 k = τ.1 84 k := fun k h1 h2 => g.1 84 k (fun z => by have := z.2; unfold qR at this; omega)
  obtain ⟨h1, h2, h3, h4, h5, h6⟩ := h
  exact ⟨by rw [o 44 (by omega) (by omega)]; exact h1, by rw [o 45 (by omega) (by omega)]; exact h2, by rw [o 46 (by omega) (by omega)]; exact h3, by rw [o 47 (by omega) (by omega)]; exact h4, by rw [o 48 (by omega) (by omega)]; exact h5, by rw [o 49 (by omega) (by omega)]; exact h6⟩
def QS (σ τ : xm_Mem) (B : Nat → Int) (s p : Nat) (w a b c d e f : Int) : Prop := frk qA σ τ ∧ RM τ B s p w ∧ FL τ a b c d e f
section XR
variable {σ τ : xm_Mem} {B : Nat → Int} {s p : Nat} {w a b c d e f : Int}
theorem QS.num (h : QS σ τ B s p w a b c d e f) (hB : isB B s) (hM : TM σ B s) : ∃ τ' v, f_X11_number τ = some (τ', v) ∧ QS σ τ' B s (nP B s p) (nW B s p w) a b c d e f ∧ (nW B s p w = -9 → v = nV B s p) := by
  obtain ⟨h1, h2, h3⟩ := h
  obtain ⟨τ', v, g1, g2, g3, g4⟩ := m_number hB (hM.frk h1) h2
  exact ⟨τ', v, g1, ⟨h1.tr (g2.mono qRA), g3, h3.frk g2⟩, g4⟩
theorem QS.must {v : Int} (h : QS σ τ B s p w a b c d e f) (hB : isB B s) (hM : TM σ B s) (hv : 0 ≤ v ∧ v < 19) : ∃ τ', f_X11_must τ v = some (τ', 0) ∧ QS σ τ' B s (nP B s p) (dW B s p v w) a b c d e f := by
  obtain ⟨h1, h2, h3⟩ := h
  obtain ⟨τ', g1, g2, g3⟩ := m_must hB (hM.frk h1) h2 hv
  exact ⟨τ', g1, h1.tr (g2.mono qRA), g3, h3.frk g2⟩
theorem QS.par (h : QS σ τ B s p w a b c d e f) (hB : isB B s) (hM : TM σ B s) : ∃ τ' v, f_X11_parent τ = some (τ', v) ∧ QS σ τ' B s (nP B s p) (pW B s p w) a b c d e f ∧ (pW B s p w = -9 → v = pV B s p) := by
  obtain ⟨h1, h2, h3⟩ := h
  obtain ⟨τ', v, g1, g2, g3, g4⟩ := m_parent hB (hM.frk h1) h2
  exact ⟨τ', v, g1, ⟨h1.tr (g2.mono qRA), g3, h3.frk g2⟩, g4⟩
theorem QS.one {v : Int} {n : Nat} {W : Nat → Int} {O : Nat → Nat} (h : QS σ τ B s p w a b c d e f) (hr : rowOf v n W O) (hn : n < 50) (hB : isB B s) (hM : TM σ B s) : ∃ τ' x, f_X11_oneOf τ v = some (τ', x) ∧ QS σ τ' B s (nP B s p) (lW B s p W n w) a b c d e f ∧ (lW B s p W n w = -9 → x = lx B s p W n) ∧ (¬ lW B s p W n w = -9 → x = 0) := by
  obtain ⟨h1, h2, h3⟩ := h
  obtain ⟨τ', x, g1, g2, g3, g4, g5⟩ := m_oneOf hr hn hB (hM.frk h1) h2
  exact ⟨τ', x, g1, ⟨h1.tr (g2.mono qRA), g3, h3.frk g2⟩, g4, g5⟩
theorem QS.set (h : QS σ τ B s p w a b c d e f) {k : Nat} {v : Int} (hk : 44 ≤ k ∧ k ≤ 49) : QS σ (xm_u1 τ 84 k v) B s p w (if k = 44 then v else a) (if k = 45 then v else b) (if k = 46 then v else c) (if k = 47 then v else d) (if k = 48 then v else e) (if k = 49 then v else f) := by
  obtain ⟨h1, h2, h3, h4, h5, h6, h7, h8⟩ := h
  refine ⟨h1.u1 (by unfold qA; omega), h2.frk (Q := fun j => j = k) ((frk.rf _ _).u1 rfl) (fun j hj => by omega), ?_⟩
  unfold FL
  simp only [xu11, true_and]
  refine ⟨?_, ?_, ?_, ?_, ?_, ?_⟩ <;> (split <;> split <;> first | rfl | assumption | (exfalso; omega))
theorem QS.fin (h : QS σ τ B s p w a b c d e f) : ∃ τ', f_X11_read_j214 τ = some (τ', 0) ∧ frk qA σ τ' ∧ FL τ' a b c d e f ∧ ((eW B s p w = -9 ∧ τ'.1 84 50 = 1) ∨ (eW B s p w ≠ -9 ∧ τ'.1 84 50 = 0 ∧ τ'.1 84 41 = eW B s p w)) := by
  obtain ⟨h1, ⟨hp, h2⟩, h3⟩ := h
  unfold f_X11_read_j214
  rcases h2 with ⟨e1, e2, e3⟩ | ⟨e1, e2, e3⟩
  · rw [if_neg (by omega)]
    have hr := skp_rg (B := B) hp
    by_cases q : skp B s p < s
    · have n0 : ¬ τ.1 84 40 = 0 := by
        have k := e3.2.2.2 q
        by_cases l : isL B (skp B s p)
        · have := k.2.1 l; omega
        · by_cases o : nok B s p
          · have := (k.2.2.2 o).1; omega
          · have := k.2.2.1 l o; omega
      have ew : eW B s p w = skp B s p := by unfold eW fl; rw [if_pos q, if_pos e1]
      rw [if_neg n0, xst, ew]
      refine ⟨_, rfl, h1.u1 (by unfold qA; omega), h3.frk ((frk.rf _ _).u1 (Or.inr rfl)), Or.inr ⟨by omega, by simp [xu11], ?_⟩⟩
      rw [xu11, if_neg (by decide)]
      exact e3.1
    · have ew : eW B s p w = w := by unfold eW; rw [if_neg q]
      rw [if_pos (e3.2.2.1 (by omega)), ew]
      exact ⟨τ, rfl, h1, h3, Or.inl ⟨e1, e2⟩⟩
  · rw [if_pos e2, eW_no e1]
    exact ⟨τ, rfl, h1, h3, Or.inr ⟨e1, e2, e3⟩⟩
theorem m_read (hB : isB B s) (hM : TM σ B s) : ∃ τ', f_X11_read σ = some (τ', 0) ∧ frk qA σ τ' ∧
    ((rdW B s = -9 ∧ τ'.1 84 50 = 1 ∧ FL τ' (rdK B s) (rdD B s) (rd1 B s) (rd2 B s) (rd3 B s) (rd4 B s)) ∨ (rdW B s ≠ -9 ∧ τ'.1 84 50 = 0 ∧ τ'.1 84 41 = rdW B s)) := by
  unfold f_X11_read
  simp only [xst]
  have f0 : frk qA σ (xm_u1 (xm_u1 (xm_u1 (xm_u1 (xm_u1 (xm_u1 σ 84 39 0) 84 50 1) 84 46 (-1)) 84 47 (-1)) 84 48 (-1)) 84 49 0) := ((((((frk.rf _ _).u1 (by unfold qA; omega)).u1 (by unfold qA; omega)).u1 (by unfold qA; omega)).u1 (by unfold qA; omega)).u1 (by unfold qA; omega)).u1 (by unfold qA; omega)
  obtain ⟨τ1, n1, n2, n3⟩ := m_next (p := 0) hB (hM.frk f0) (Nat.zero_le _) (by simp [xu11])
  rw [n1]
  simp only [Option.bind_some]
  have o1 : ∀ k, 44 ≤ k → τ1.1 84 k = (xm_u1 (xm_u1 (xm_u1 (xm_u1 (xm_u1 (xm_u1 σ 84 39 0) 84 50 1) 84 46 (-1)) 84 47 (-1)) 84 48 (-1)) 84 49 0).1 84 k := fun k hk => n2.1 84 k (fun z => by have := z.2; unfold qN at this; omega)
  have q1 : QS σ τ1 B s 0 (-9) (τ1.1 84 44) (τ1.1 84 45) (-1) (-1) (-1) 0 := by
    refine ⟨f0.tr (n2.mono qNA), ⟨Nat.zero_le _, Or.inl ⟨rfl, ?_, n3⟩⟩, rfl, rfl, ?_, ?_, ?_, ?_⟩
    · rw [o1 50 (by omega)]; simp [xu11]
    · rw [o1 46 (by omega)]; simp [xu11]
    · rw [o1 47 (by omega)]; simp [xu11]
    · rw [o1 48 (by omega)]; simp [xu11]
    · rw [o1 49 (by omega)]; simp [xu11]
  obtain ⟨τ2, K, k1, k2, k3, k4⟩ := q1.one row_kind (by decide) hB hM
  rw [k1]
  simp only [Option.bind_some]
  have q2 := k2.set (k := 44) (v := K) (by omega)
  simp only [if_true, show ¬ ((44 : Nat) = 45) by decide, show ¬ ((44 : Nat) = 46) by decide, show ¬ ((44 : Nat) = 47) by decide, show ¬ ((44 : Nat) = 48) by decide, show ¬ ((44 : Nat) = 49) by decide, if_false] at q2
  obtain ⟨τ3, D, d1, d2, d3⟩ := q2.num hB hM
  rw [d1]
  simp only [Option.bind_some]
  have q3 := d2.set (k := 45) (v := D) (by omega)
  simp only [if_true, show ¬ ((45 : Nat) = 44) by decide, show ¬ ((45 : Nat) = 46) by decide, show ¬ ((45 : Nat) = 47) by decide, show ¬ ((45 : Nat) = 48) by decide, show ¬ ((45 : Nat) = 49) by decide, if_false] at q3
  have e44 : (xm_u1 τ3 84 45 D).1 84 44 = K := q3.2.2.1
  simp only [xvl, e44]
  -- what is behind kind and day
  have hl9 : lW B s 0 wKn 9 (-9) = -9 → lx B s 0 wKn 9 < 9 ∧ K = lx B s 0 wKn 9 ∧ K = rdK B s := fun z => ⟨(lW_9 z).1, k3 z, by rw [k3 z]; exact (lA_ok (lW_9 z).1).symm⟩
  have hl0 : ¬ lW B s 0 wKn 9 (-9) = -9 → K = 0 ∧ rdK B s = -1 := fun z => ⟨k4 z, by
    unfold rdK lA
    rw [if_neg]
    intro y
    unfold lW at z
    rw [if_pos y] at z
    exact z rfl⟩
  have hrw : rdW B s = tlW B s (rdK B s) (rdP B s) (nW B s (nP B s 0) (lW B s 0 wKn 9 (-9))) := rfl
  generalize hw0 : nW B s (nP B s 0) (lW B s 0 wKn 9 (-9)) = w0 at q3 d3 hrw
  have hw9 : w0 = -9 → lW B s 0 wKn 9 (-9) = -9 := fun z => (nW_9 (hw0.trans z)).2
  have hK : w0 = -9 → K = rdK B s := fun z => (hl9 (hw9 z)).2.2
  have hD : w0 = -9 → D = rdD B s := fun z => d3 z
  have hKr : 0 ≤ K ∧ K ≤ 8 := by
    by_cases z : lW B s 0 wKn 9 (-9) = -9
    · have := hl9 z; omega
    · have := hl0 z; omega
  have q3 : QS σ (xm_u1 τ3 84 45 D) B s (rdP B s) w0 K D (-1) (-1) (-1) 0 := q3
  generalize xm_u1 τ3 84 45 D = τ4 at q3
  -- the end, by what each branch tells
  have fin : ∀ {τ5 : xm_Mem} {p5 : Nat} {w5 c5 d5 e5 f5 : Int}, QS σ τ5 B s p5 w5 K D c5 d5 e5 f5 → (w0 = -9 → eW B s p5 w5 = rdW B s) → (w0 ≠ -9 → w5 = w0) → (rdW B s = -9 → w0 = -9 → c5 = rd1 B s ∧ d5 = rd2 B s ∧ e5 = rd3 B s ∧ f5 = rd4 B s) → ∃ τ', f_X11_read_j214 τ5 = some (τ', 0) ∧ frk qA σ τ' ∧
      ((rdW B s = -9 ∧ τ'.1 84 50 = 1 ∧ FL τ' (rdK B s) (rdD B s) (rd1 B s) (rd2 B s) (rd3 B s) (rd4 B s)) ∨ (rdW B s ≠ -9 ∧ τ'.1 84 50 = 0 ∧ τ'.1 84 41 = rdW B s)) := by
    intro τ5 p5 w5 c5 d5 e5 f5 h5 g1 g2 g3
    obtain ⟨τ', a1, a2, a3, a4⟩ := h5.fin
    have ee : eW B s p5 w5 = rdW B s := by
      by_cases z : w0 = -9
      · exact g1 z
      · rw [g2 z, eW_no z, hrw, tlW_no z]
    rw [ee] at a4
    refine ⟨τ', a1, a2, ?_⟩
    rcases a4 with ⟨b1, b2⟩ | b
    · have z0 : w0 = -9 := tlW_9 (hrw ▸ b1)
      obtain ⟨x1, x2, x3, x4⟩ := g3 b1 z0
      rw [hK z0, hD z0, x1, x2, x3, x4] at a3
      exact Or.inl ⟨b1, b2, a3⟩
    · exact Or.inr b
  have e0 : K = 0 ∨ K = 1 ∨ K = 2 ∨ K = 3 ∨ K = 4 ∨ K = 5 ∨ K = 6 ∨ K = 7 ∨ K = 8 := by omega
  have two : K = 1 ∨ K = 2 ∨ K = 5 ∨ K = 6 → ∃ τ', f_X11_read_j198 τ4 = some (τ', 0) ∧ frk qA σ τ' ∧
      ((rdW B s = -9 ∧ τ'.1 84 50 = 1 ∧ FL τ' (rdK B s) (rdD B s) (rd1 B s) (rd2 B s) (rd3 B s) (rd4 B s)) ∨ (rdW B s ≠ -9 ∧ τ'.1 84 50 = 0 ∧ τ'.1 84 41 = rdW B s)) := by
    intro hk
    unfold f_X11_read_j198
    obtain ⟨τ5, v, a1, a2, a3⟩ := q3.num hB hM
    rw [a1]
    simp only [Option.bind_some, xst]
    have a4 := a2.set (k := 46) (v := v) (by omega)
    obtain ⟨τ6, v2, b1, b2, b3⟩ := a4.num hB hM
    rw [b1]
    simp only [Option.bind_some]
    have b4 := b2.set (k := 47) (v := v2) (by omega)
    simp only [if_true, show ¬ ((46 : Nat) = 44) by decide, show ¬ ((46 : Nat) = 45) by decide, show ¬ ((46 : Nat) = 47) by decide, show ¬ ((46 : Nat) = 48) by decide, show ¬ ((46 : Nat) = 49) by decide, show ¬ ((47 : Nat) = 44) by decide, show ¬ ((47 : Nat) = 45) by decide, show ¬ ((47 : Nat) = 46) by decide, show ¬ ((47 : Nat) = 48) by decide, show ¬ ((47 : Nat) = 49) by decide, if_false] at b4
    refine fin b4 (fun z => ?_) (fun z => by rw [nW_no (by rw [nW_no z]; exact z), nW_no z]) (fun z z0 => ?_)
    · rw [hrw, ← hK z]
      unfold tlW
      rw [if_neg (by omega), if_pos (by omega)]
    · rw [hrw, ← hK z0] at z
      unfold tlW at z
      rw [if_neg (by omega), if_pos (by omega)] at z
      have z1 := eW_9 z
      have z2 := (nW_9 z1).2
      rw [a3 z2, b3 z1]
      unfold rd1 rd2 rd3 rd4
      rw [← hK z0]
      refine ⟨by rw [if_pos (by omega)], by rw [if_neg (by omega), if_pos (by omega)], by rw [if_neg (by omega)], by rw [if_neg (by omega), if_neg (by omega)]⟩
  have last : K = 7 ∨ K = 8 → ∃ τ', f_X11_read_j165 τ4 = some (τ', 0) ∧ frk qA σ τ' ∧
      ((rdW B s = -9 ∧ τ'.1 84 50 = 1 ∧ FL τ' (rdK B s) (rdD B s) (rd1 B s) (rd2 B s) (rd3 B s) (rd4 B s)) ∨ (rdW B s ≠ -9 ∧ τ'.1 84 50 = 0 ∧ τ'.1 84 41 = rdW B s)) := by
    intro hk
    unfold f_X11_read_j165
    obtain ⟨τ5, v, a1, a2, a3⟩ := q3.num hB hM
    rw [a1]
    simp only [Option.bind_some, xst]
    have a4 := a2.set (k := 47) (v := v) (by omega)
    simp only [if_true, show ¬ ((47 : Nat) = 44) by decide, show ¬ ((47 : Nat) = 45) by decide, show ¬ ((47 : Nat) = 46) by decide, show ¬ ((47 : Nat) = 48) by decide, show ¬ ((47 : Nat) = 49) by decide, if_false] at a4
    refine fin a4 (fun z => ?_) (fun z => by rw [nW_no z]) (fun z z0 => ?_)
    · rw [hrw, ← hK z]
      unfold tlW
      rw [if_neg (by omega), if_neg (by omega), if_neg (by omega)]
    · rw [hrw, ← hK z0] at z
      unfold tlW at z
      rw [if_neg (by omega), if_neg (by omega), if_neg (by omega)] at z
      rw [a3 (eW_9 z)]
      unfold rd1 rd2 rd3 rd4
      rw [← hK z0]
      refine ⟨by rw [if_neg (by omega)], by rw [if_neg (by omega), if_neg (by omega), if_pos (by omega)], by rw [if_neg (by omega)], by rw [if_neg (by omega), if_neg (by omega)]⟩
  rcases e0 with e | e | e | e | e | e | e | e | e
  · rw [if_pos e]
    obtain ⟨τ5, x, a1, a2, a3, _⟩ := q3.one row_sex (by decide) hB hM
    rw [a1]
    simp only [Option.bind_some]
    have a4 := a2.set (k := 49) (v := xm_w (1 - x)) (by omega)
    obtain ⟨τ6, b1, b2⟩ := a4.must (v := 11) hB hM (by decide)
    rw [b1]
    simp only [Option.bind_some]
    obtain ⟨τ7, v, c1, c2, c3⟩ := b2.par hB hM
    rw [c1]
    simp only [Option.bind_some]
    have c4 := c2.set (k := 47) (v := v) (by omega)
    obtain ⟨τ8, d1, d2⟩ := c4.must (v := 13) hB hM (by decide)
    rw [d1]
    simp only [Option.bind_some]
    obtain ⟨τ9, v2, e1, e2, e3⟩ := d2.par hB hM
    rw [e1]
    simp only [Option.bind_some]
    have e4 := e2.set (k := 48) (v := v2) (by omega)
    simp only [if_true, show ¬ ((49 : Nat) = 44) by decide, show ¬ ((49 : Nat) = 45) by decide, show ¬ ((49 : Nat) = 46) by decide, show ¬ ((49 : Nat) = 47) by decide, show ¬ ((49 : Nat) = 48) by decide, show ¬ ((47 : Nat) = 44) by decide, show ¬ ((47 : Nat) = 45) by decide, show ¬ ((47 : Nat) = 46) by decide, show ¬ ((47 : Nat) = 48) by decide, show ¬ ((47 : Nat) = 49) by decide, show ¬ ((48 : Nat) = 44) by decide, show ¬ ((48 : Nat) = 45) by decide, show ¬ ((48 : Nat) = 46) by decide, show ¬ ((48 : Nat) = 47) by decide, show ¬ ((48 : Nat) = 49) by decide, if_false] at e4
    refine fin e4 (fun z => ?_) (fun z => ?_) (fun z z0 => ?_)
    · rw [hrw, ← hK z]
      unfold tlW
      rw [if_pos e]
    · rw [lW_no z, dW_no z, pW_no z, dW_no z, pW_no z]
    · rw [hrw, ← hK z0] at z
      unfold tlW at z
      rw [if_pos e] at z
      have z1 := eW_9 z
      have z2 := pW_9 z1
      have z3 := dW_9 z2.2
      have z4 := pW_9 z3.2
      have z5 := dW_9 z4.2
      have z6 := lW_9 z5.2
      rw [c3 z3.2, e3 z1, a3 z5.2]
      unfold rd1 rd2 rd3 rd4
      rw [← hK z0]
      refine ⟨by rw [if_neg (by omega)], by rw [if_pos e], by rw [if_pos e], ?_⟩
      rw [if_pos e]
      have g := fsx_spec (fun i => wd B s (rdP B s) (wSx i)) 2
      have z7 := z6.1
      unfold lx at z7 ⊢
      have g2 := g.2.1 z7
      by_cases c9 : wd B s (rdP B s) 9
      · have e0 : fsx (fun i => wd B s (rdP B s) (wSx i)) 2 = 0 := fsx_eq (by omega) (fun r h => absurd h (Nat.not_lt_zero _)) (fun _ => c9)
        rw [e0, xb_pos c9]
        rfl
      · have e1 : fsx (fun i => wd B s (rdP B s) (wSx i)) 2 = 1 := by
          have : fsx (fun i => wd B s (rdP B s) (wSx i)) 2 = 0 ∨ fsx (fun i => wd B s (rdP B s) (wSx i)) 2 = 1 := by omega
          rcases this with h | h
          · rw [h] at g2; exact absurd g2 c9
          · exact h
        rw [e1, xb_neg c9]
        rfl
  · rw [if_neg (by omega), if_pos e]; exact two (by omega)
  · rw [if_neg (by omega), if_neg (by omega), if_pos e]; exact two (by omega)
  · rw [if_neg (by omega), if_neg (by omega), if_neg (by omega), if_pos e]
    obtain ⟨τ5, v, a1, a2, a3⟩ := q3.num hB hM
    rw [a1]
    simp only [Option.bind_some]
    have a4 := a2.set (k := 46) (v := v) (by omega)
    simp only [if_true, show ¬ ((46 : Nat) = 44) by decide, show ¬ ((46 : Nat) = 45) by decide, show ¬ ((46 : Nat) = 47) by decide, show ¬ ((46 : Nat) = 48) by decide, show ¬ ((46 : Nat) = 49) by decide, if_false] at a4
    refine fin a4 (fun z => ?_) (fun z => by rw [nW_no z]) (fun z z0 => ?_)
    · rw [hrw, ← hK z]
      unfold tlW
      rw [if_neg (by omega), if_neg (by omega), if_neg (by omega)]
    · rw [hrw, ← hK z0] at z
      unfold tlW at z
      rw [if_neg (by omega), if_neg (by omega), if_neg (by omega)] at z
      rw [a3 (eW_9 z)]
      unfold rd1 rd2 rd3 rd4
      rw [← hK z0]
      refine ⟨by rw [if_pos (by omega)], by rw [if_neg (by omega), if_neg (by omega), if_neg (by omega)], by rw [if_neg (by omega)], by rw [if_neg (by omega), if_neg (by omega)]⟩
  · rw [if_neg (by omega), if_neg (by omega), if_neg (by omega), if_neg (by omega), if_pos e]
    obtain ⟨τ5, v, a1, a2, a3⟩ := q3.num hB hM
    rw [a1]
    simp only [Option.bind_some]
    have a4 := a2.set (k := 46) (v := v) (by omega)
    obtain ⟨τ6, x, b1, b2, b3, _⟩ := a4.one row_rule (by decide) hB hM
    rw [b1]
    simp only [Option.bind_some]
    have b4 := b2.set (k := 49) (v := x) (by omega)
    simp only [if_true, show ¬ ((46 : Nat) = 44) by decide, show ¬ ((46 : Nat) = 45) by decide, show ¬ ((46 : Nat) = 47) by decide, show ¬ ((46 : Nat) = 48) by decide, show ¬ ((46 : Nat) = 49) by decide, show ¬ ((49 : Nat) = 44) by decide, show ¬ ((49 : Nat) = 45) by decide, show ¬ ((49 : Nat) = 46) by decide, show ¬ ((49 : Nat) = 47) by decide, show ¬ ((49 : Nat) = 48) by decide, if_false] at b4
    refine fin b4 (fun z => ?_) (fun z => by rw [nW_no z, lW_no z]) (fun z z0 => ?_)
    · rw [hrw, ← hK z]
      unfold tlW
      rw [if_neg (by omega), if_neg (by omega), if_pos e]
    · rw [hrw, ← hK z0] at z
      unfold tlW at z
      rw [if_neg (by omega), if_neg (by omega), if_pos e] at z
      have z1 := eW_9 z
      rw [a3 (lW_9 z1).2, b3 z1]
      unfold rd1 rd2 rd3 rd4
      rw [← hK z0]
      refine ⟨by rw [if_pos (by omega)], by rw [if_neg (by omega), if_neg (by omega), if_neg (by omega)], by rw [if_neg (by omega)], by rw [if_neg (by omega), if_pos e]⟩
  · rw [if_neg (by omega), if_neg (by omega), if_neg (by omega), if_neg (by omega), if_neg (by omega), if_pos e]; exact two (by omega)
  · rw [if_neg (by omega), if_neg (by omega), if_neg (by omega), if_neg (by omega), if_neg (by omega), if_neg (by omega), if_pos e]; exact two (by omega)
  · rw [if_neg (by omega), if_neg (by omega), if_neg (by omega), if_neg (by omega), if_neg (by omega), if_neg (by omega), if_neg (by omega), if_pos e]; exact last (by omega)
  · rw [if_neg (by omega), if_neg (by omega), if_neg (by omega), if_neg (by omega), if_neg (by omega), if_neg (by omega), if_neg (by omega), if_neg (by omega), if_pos e]; exact last (by omega)
end XR
