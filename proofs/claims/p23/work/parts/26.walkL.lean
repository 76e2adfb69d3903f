/-! THE CLAIM OUT OF ONE WALK OF THE LAW'S BODY. Your part is whole_start (and what it stands on); all else here is the same for every law, but numbers. -/
def R_law : String := "HeirRollLaw"
def lw_P (b : Addr) (xs : List Int32) (args : Array Value) (s : State) : Prop := args = #[.ref b] ∧ s.IntsAt b xs ∧ xs.length ≤ 260 ∧ (Jvm.Cond.and given_1 narrow_1).before args s = true
def lw_Q (_ : Array Value) (s : State) (o : Outcome) (t : State) : Prop := o = .returned (some (.int 1)) ∧ Framed s o t [] 600000 7302250
def lw_Z (below : List Frame) (a : Array Value) (s : State) : State → Prop := fun t => ∃ o, t.status = .running ∧ Ended t below o ∧ lw_Q a s o t
/-- the law's own end, with 1 on the stack, nothing written that was there before, its room as the claim has it -/
theorem lw_ret {p : Program} {l : Launch} {e : Env} {s : State} {m : MethodId} {below : List Frame} {meth : Method} {c : Code} {b : Nat} (hx : p.tables.exec = Jvm.exec) (hb : c.code = code) (hr : meth.sig.returnType = ret) (hlocks : meth.locks = false) {pc : Nat} {H : Heap} {ls : Array Slot} (hdg : decode code pc = .ok (.ireturn, 1)) : W p l e room_1 s m #[Value.ref b] below meth c H [] 600000 7302250 (lw_Z below #[Value.ref b] s) (F0 m pc ls [.int 1]) := by
  intro T hT X
  obtain ⟨fs, hret, hrun, hended, hW, hframe⟩ := X.leave (v := some (.int 1)) (hlocks := hlocks) (fun h => by rw [hr] at h; cases h)
  have hmeth' : T.vm.method? m = some meth := X.method'
  refine ⟨T.setFrames fs, ?_, .returned (some (.int 1)), hrun, hended, rfl, ⟨_, rfl⟩, hW, hframe⟩
  jvm_step X.here [X.here.top, hx, hb, hdg, hmeth', hr, ret, narrow_b1]
  (try refine ⟨rfl, ?_⟩); (try refine ⟨rfl, ?_⟩)
  first | (intro acts; rw [hret _ acts rfl rfl rfl]) | rw [hret _ _ rfl rfl rfl]
  exact Steps.refl _
/-- what holds at the law's entry: the machine, the code, the tables' words (any of lw_tbl by 'hts w (by decide +kernel)'), the script of L ints xs at the cell b, what the Statement gives of the start (any of its parts by flat_of_before) -/
def lw_At (p : Program) (s : State) (m : MethodId) (meth : Method) (c : Code) (b L : Nat) (xs : Nat → Int32) : Prop :=
  p.tables.exec = Jvm.exec ∧ c.code = code ∧ meth.sig.returnType = ret ∧ c.maxLocals = 17 ∧ s.vm.findClass R_law = some m.cls ∧ (∀ w ∈ lw_tbl, w.before #[Value.ref b] s = true) ∧ va_X b L xs s s.heap ∧ b < s.heap.size ∧ meth.locks = false ∧ (Jvm.Cond.and given_1 narrow_1).before #[Value.ref b] s = true
/-! ===== the law's body (its mirrors and walks written by program) ===== -/
/-- a walk whose room is counted by the cells that there are; k: whether the line is made -/
def xm_VL (X : xm_X) (k : Nat) (r : Option xm_Out) (σ : xm_Mem) (pc : Nat) (l : List (Nat × Value)) (st : List Value) : Prop := σ.2.2 ≤ 100000 → xm_V X (300 + k + σ.2.2) (30000 + 24 * k + 10 * σ.2.2) r σ pc l st
/-- what the law's walk knows: the script's cells, how it ends -/
def xm_LW (X : xm_X) (cl : Nat → Int) : Prop := (∀ k, cl k = xm_clv (xx_G X) k) ∧ xm_sN (xx_G X) ≤ 100000 ∧ ∃ b : Nat, xx_R X = room_1 ∧ xx_a X = #[Value.ref b] ∧ (xx_t X).sig.returnType = ret ∧ (∀ o, xx_Q X o = lw_Z (xx_b X) #[Value.ref b] (xx_s X)) ∧ ∀ q, xm_A X q → (xx_s X).heap.size ≤ q
theorem xm_LWin {X : xm_X} {cl : Nat → Int} (h : xm_LW X cl) (k : Nat) : xm_in (cl k) := by
  rw [h.1 k]
  unfold xm_clv
  split
  · exact xm_in_toInt _
  · exact xm_w_in _
section XLW
variable {X : xm_X} {own : String} {cc : ByteArray} {nL fr mc ms kc sc n : Nat} {r r1 r2 : Option xm_Out} {σ : xm_Mem} {pc : Nat} {l l' : List (Nat × Value)} {st : List Value}
theorem xg_inL (h : σ.2.2 ≤ 100000 → xm_V X (300 + n + σ.2.2) (30000 + 24 * n + 10 * σ.2.2) r σ pc l st) : xm_VL X n r σ pc l st := h
theorem xg_toL (h1 : kc ≤ 300 + n + σ.2.2) (h2 : sc ≤ 30000 + 24 * n + 10 * σ.2.2) (h3 : σ.2.2 ≤ 100000) (k : xm_VL X n r σ pc l st) : xm_V X kc sc r σ pc l st := xg_widen h1 h2 (k h3)
theorem xg_noneL : xm_VL X n none σ pc l st := fun _ => xg_none
theorem xg_sg {σ2 : xm_Mem} {st2 : List Value} (h1 : σ = σ2) (h2 : st = st2) (k : xm_V X kc sc r σ2 pc l st2) : xm_V X kc sc r σ pc l st := by
  subst h1; subst h2; exact k
theorem xg_lawret (hC : xm_C X RL cL_law nL fr mc ms) {b : Nat} (hR : xx_R X = room_1) (ha : xx_a X = #[Value.ref b]) (hr : (xx_t X).sig.returnType = ret) (hQ : ∀ o, xx_Q X o = lw_Z (xx_b X) #[Value.ref b] (xx_s X)) (hA : ∀ q, xm_A X q → (xx_s X).heap.size ≤ q) (h1 : kc ≤ 600000) (h2 : sc ≤ 7302250) (hd : decode cL_law pc = .ok (.ireturn, 1)) : xm_V X kc sc (some (σ, 1)) σ pc l [.int (xm_J 1)] := by
  intro o ho H locs ls hRR hS hL
  show W (xx_p X) (xx_la X) (xx_e X) (xx_R X) (xx_s X) (xx_m X) (xx_a X) (xx_b X) (xx_t X) (xx_c X) H locs kc sc (xx_Q X o) _
  rw [hQ o, hR, ha]
  refine va_forget (fun q hq => hA _ (hS.2.2 q hq)) ?_
  exact W.widen h1 h2 (lw_ret hC.1 hC.2.1 hr hC.2.2.2.2.2.2.1 hd)
theorem xg_lawret2 {cl : Nat → Int} (hC : xm_C X RL cL_law nL fr mc ms) (hL : xm_LW X cl) (h1 : kc ≤ 600000) (h2 : sc ≤ 7302250) (hd : decode cL_law pc = .ok (.ireturn, 1)) : xm_V X kc sc (some (σ, 1)) σ pc l [.int (xm_J 1)] := by
  obtain ⟨-, -, b, g1, g2, g3, g4, g5⟩ := hL
  exact xg_lawret hC g1 g2 g3 g4 g5 h1 h2 hd
theorem xm_JIX (hI : xx_I X = xm_I) : xm_JI (xx_I X) := by rw [hI]; exact xm_JI_I
theorem xm_h110 (hI : xx_I X = xm_I) : xx_I X σ → 110 ≤ σ.2.2 := by rw [hI]; exact fun h => h.1
theorem xm_h86 (hI : xx_I X = xm_I) : xx_I X σ → 1 ≤ 86 ∧ 86 ≤ σ.2.2 := fun h => by have := xm_h110 hI h; exact ⟨by decide, by omega⟩
theorem xm_kpL (hI : xx_I X = xm_I) : xx_I X σ → xx_I X (xm_mkL σ) := by
  rw [hI]
  refine fun h => ⟨h.1, fun a k b hw => ?_⟩
  show (if a = 110 then (0 : Int) else if a = 109 ∧ k = 0 then 1 else σ.1 a k) = _
  by_cases ha : a = 110
  · subst ha
    rw [xm_wire_none (by decide +kernel) k] at hw
    cases hw
  · rw [if_neg ha]
    by_cases hb : a = 109 ∧ k = 0
    · rw [hb.1, xm_wire_none (by decide +kernel) k] at hw
      cases hw
    · rw [if_neg hb]
      exact h.2 a k b hw
/-- a text born, a text of the others: what they need -/
def xm_gb (σ : xm_Mem) (d f m : Int) : Prop := xm_SB σ 89 34 0 ∧ (0 ≤ d ∧ d ≤ 99999) ∧ (-1 ≤ f ∧ f ≤ 99) ∧ (-1 ≤ m ∧ m ≤ 99)
def xm_gt (σ : xm_Mem) (d a q : Int) : Prop := xm_SB σ 89 34 0 ∧ (0 ≤ d ∧ d ≤ 99999) ∧ (0 ≤ a ∧ a ≤ 99) ∧ (-1 ≤ q ∧ q ≤ 99)
theorem ml_lowI {Γ : xm_Gm} {I : xm_Mem → Prop} {la : Launch} {x n : Int} (hx : xm_in x) (hn : 0 < n ∧ n ≤ 100000) : xm_M Γ I la yL_low cL_low 2 (some .int) 1 0 0 [.int (xm_J x), .int (xm_J n)] σ 1 (σ, xm_rem (xm_and x 2147483647) n) := by
  obtain ⟨m, rfl⟩ := Int.eq_ofNat_of_zero_le (a := n) (by omega)
  exact ml_low hx (by omega)
theorem ml_cellI {cl : Nat → Int} (hL : xm_LW X cl) {k : Int} (hk : 0 ≤ k ∧ k ≤ 100) : xm_M (xx_G X) (xx_I X) (xx_la X) yL_cell cL_cell 2 (some .int) 1 0 0 [.ref (xm_sb (xx_G X)), .int (xm_J k)] σ 1 (σ, cl k.toNat) := by
  obtain ⟨m, rfl⟩ := Int.eq_ofNat_of_zero_le hk.1
  rw [Int.toNat_natCast, hL.1 m]
  exact ml_cell (by omega) hL.2.1
theorem ml_bornI {Γ : xm_Gm} {I : xm_Mem → Prop} {la : Launch} {d s f m : Int} (hs : 0 ≤ s ∧ s ≤ 1) (hJ : xm_JI I) (h : xm_gb σ d f m) : xm_M Γ I la yL_born cL_born 5 (some (.object "java/lang/StringBuilder")) 7 0 0 [.ref (xm_ad Γ 84), .int (xm_J d), .int (xm_J s), .int (xm_J f), .int (xm_J m)] σ 7 (xm_aps σ 89 0 (xm_bP d.toNat s f m), 0) := by
  obtain ⟨h0, hd, hf, hm⟩ := h
  obtain ⟨e, rfl⟩ := Int.eq_ofNat_of_zero_le hd.1
  exact ml_born (by omega) hs hf hm hJ h0
theorem ml_textI {Γ : xm_Gm} {I : xm_Mem → Prop} {la : Launch} {i : Nat} {d a q : Int} (hi : i < 24) (hi5 : xm_ln.getD i 0 ≤ 5) (hJ : xm_JI I) (h : xm_gt σ d a q) : xm_M Γ I la yL_text cL_text 5 (some (.object "java/lang/StringBuilder")) 7 0 0 [.ref (xm_ad Γ 84), .ref (xm_adK Γ i), .int (xm_J d), .int (xm_J a), .int (xm_J q)] σ 7 (xm_aps σ 89 0 (xm_tP i d.toNat a.toNat q), 0) := by
  obtain ⟨h0, hd, ha, hq⟩ := h
  obtain ⟨e, rfl⟩ := Int.eq_ofNat_of_zero_le hd.1
  obtain ⟨b, rfl⟩ := Int.eq_ofNat_of_zero_le ha.1
  exact ml_text hi (by omega) hi5 (by omega) hq hJ h0
theorem xm_gc_2 (a : Nat) : ∀ (f : Nat) (σ : xm_Mem) (p r : Nat), (xm_gc a f σ p r).2 = σ.2 := by
  intro f
  induction f with
  | zero => intro σ p r; rfl
  | succ f ih =>
    intro σ p r
    rw [xm_gc]
    split
    · split <;> rfl
    · rw [ih]; rfl
theorem xm_ap_e (σ : xm_Mem) (v c : Nat) (p : Nat × Nat) : (xm_ap σ v c p).2 = σ.2 := by
  unfold xm_ap
  split
  · rfl
  · split
    · show (xm_gc _ _ _ _ _).2 = _
      exact xm_gc_2 _ _ _ _ _
    · rfl
theorem xm_ap_2 (σ : xm_Mem) (v c : Nat) (p : Nat × Nat) : (xm_ap σ v c p).2.2 = σ.2.2 := by rw [xm_ap_e]
theorem xm_aps_e (v : Nat) : ∀ (L : List (Nat × Nat)) (σ : xm_Mem) (c : Nat), (xm_aps σ v c L).2 = σ.2 := by
  intro L
  induction L with
  | nil => intro σ c; rfl
  | cons p t ih => intro σ c; rw [xm_aps, ih, xm_ap_e]
theorem xm_aps_2 (σ : xm_Mem) (v c : Nat) (L : List (Nat × Nat)) : (xm_aps σ v c L).2.2 = σ.2.2 := by rw [xm_aps_e]
end XLW
noncomputable def f_L_law_j386 (cl : Nat → Int) (K121 : xm_Mem → Int → Int → Option xm_Out) (σ : xm_Mem) (s0 : Int) (s1 : Int) (s2 : Int) (s3 : Int) (x6 : Int) (x7 : Int) : Option xm_Out := @ite _ (xm_gb σ s3 s1 s0) (Classical.propDecidable _) (xm_st (xm_aps σ 89 0 (xm_bP s3.toNat s2 s1 s0)) (fun σ81 => (f_L_tell σ81).bind (fun o83 => if o83.1.2.2 = σ81.2.2 + 1 ∧ o83.1.2.2 ≤ 100000 then (if o83.2 < 0 then (none) else (K121 o83.1 (xm_w (x6 + 1)) (xm_w (x7 + 1)))) else none))) none
noncomputable def f_L_law_j371 (cl : Nat → Int) (K121 : xm_Mem → Int → Int → Option xm_Out) (σ : xm_Mem) (s0 : Int) (s1 : Int) (s2 : Int) (x6 : Int) (x7 : Int) (x9 : Int) (x11 : Int) : Option xm_Out := if 0 ≤ x9 ∧ x9 < 24 then (if (σ.1 88 x9.toNat) = 0 then (f_L_law_j386 cl K121 σ x9 s0 s1 s2 x6 x7) else (f_L_law_j386 cl K121 σ x11 s0 s1 s2 x6 x7)) else none
noncomputable def f_L_law_j346 (cl : Nat → Int) (K121 : xm_Mem → Int → Int → Option xm_Out) (σ : xm_Mem) (s0 : Int) (s1 : Int) (x6 : Int) (x7 : Int) (x9 : Int) (x10 : Int) (x11 : Int) : Option xm_Out := if 0 ≤ s1 ∧ s1 < 24 then (xm_st (xm_u1 σ 88 s1.toNat s0) (fun σ68 => if 0 ≤ x6 ∧ x6 < 24 then (if 0 ≤ x9 ∧ x9 < 24 then (if (σ68.1 88 x9.toNat) = 0 then (f_L_law_j371 cl K121 σ68 x11 (σ68.1 88 x6.toNat) x10 x6 x7 x9 x11) else (f_L_law_j371 cl K121 σ68 x9 (σ68.1 88 x6.toNat) x10 x6 x7 x9 x11)) else none) else none)) else none
noncomputable def f_L_law_j323 (cl : Nat → Int) (K121 : xm_Mem → Int → Int → Option xm_Out) (σ : xm_Mem) (x6 : Int) (x7 : Int) (x8 : Int) (x9 : Int) (x10 : Int) (x11 : Int) : Option xm_Out := if 0 ≤ x6 ∧ x6 < 24 then (xm_st (xm_u1 σ 87 x6.toNat x10) (fun σ64 => if (xm_and x8 (1 : Int)) = 0 then (f_L_law_j346 cl K121 σ64 (1 : Int) x6 x6 x7 x9 x10 x11) else (f_L_law_j346 cl K121 σ64 (0 : Int) x6 x6 x7 x9 x10 x11))) else none
noncomputable def f_L_law_j299 (cl : Nat → Int) (K121 : xm_Mem → Int → Int → Option xm_Out) (σ : xm_Mem) (s0 : Int) (s1 : Int) (s2 : Int) (x6 : Int) (x7 : Int) (x8 : Int) (x9 : Int) (x10 : Int) (x11 : Int) : Option xm_Out := @ite _ (xm_gt σ s2 s1 s0) (Classical.propDecidable _) (xm_st (xm_aps σ 89 0 (xm_tP 1 s2.toNat s1.toNat s0)) (fun σ52 => (f_L_tell σ52).bind (fun o54 => if o54.1.2.2 = σ52.2.2 + 1 ∧ o54.1.2.2 ≤ 100000 then (if o54.2 < 0 then ((f_X10_bond o54.1).bind (fun o59 => if o59.1.2.2 = o54.1.2.2 then (if o59.2 = (7 : Int) then (f_L_law_j323 cl K121 o59.1 x6 x7 x8 x9 x10 x11) else (none)) else none)) else (f_L_law_j323 cl K121 o54.1 x6 x7 x8 x9 x10 x11)) else none))) none
noncomputable def f_L_law_j284 (cl : Nat → Int) (K121 : xm_Mem → Int → Int → Option xm_Out) (σ : xm_Mem) (s0 : Int) (s1 : Int) (x6 : Int) (x7 : Int) (x8 : Int) (x9 : Int) (x10 : Int) (x11 : Int) : Option xm_Out := if 0 ≤ x9 ∧ x9 < 24 then (if (σ.1 88 x9.toNat) = 0 then (f_L_law_j299 cl K121 σ x9 s0 s1 x6 x7 x8 x9 x10 x11) else (f_L_law_j299 cl K121 σ x11 s0 s1 x6 x7 x8 x9 x10 x11)) else none
noncomputable def f_L_law_j230 (cl : Nat → Int) (K121 : xm_Mem → Int → Int → Option xm_Out) (σ : xm_Mem) (s0 : Int) (s1 : Int) (x6 : Int) (x7 : Int) (x8 : Int) (x9 : Int) (x10 : Int) (x11 : Int) : Option xm_Out := if 0 ≤ s1 ∧ s1 < 24 then (xm_st (xm_u1 σ 88 s1.toNat s0) (fun σ29 => if 0 ≤ x11 ∧ x11 < 24 then (if 0 ≤ x11 ∧ x11 < 24 then (@ite _ (xm_gb σ29 (σ29.1 87 x11.toNat) (-1 : Int) (-1 : Int)) (Classical.propDecidable _) (xm_st (xm_aps σ29 89 0 (xm_bP (σ29.1 87 x11.toNat).toNat (σ29.1 88 x11.toNat) (-1 : Int) (-1 : Int))) (fun σ36 => (f_L_tell σ36).bind (fun o38 => if o38.1.2.2 = σ36.2.2 + 1 ∧ o38.1.2.2 ≤ 100000 then (if o38.2 < 0 then (none) else (if 0 ≤ x9 ∧ x9 < 24 then (if (o38.1.1 88 x9.toNat) = 0 then (f_L_law_j284 cl K121 o38.1 x11 (xm_w (x10 - (200 : Int))) (xm_w (x6 + 1)) x7 x8 x9 x10 x11) else (f_L_law_j284 cl K121 o38.1 x9 (xm_w (x10 - (200 : Int))) (xm_w (x6 + 1)) x7 x8 x9 x10 x11)) else none)) else none))) none) else none) else none)) else none
noncomputable def f_L_law_b121 (cl : Nat → Int) (K406 : xm_Mem → Int → Option xm_Out) (self : xm_Mem → Int → Int → Option xm_Out) (σ : xm_Mem) (x6 : Int) (x7 : Int) : Option xm_Out := if x7 < (10 : Int) then (if 0 ≤ x7 ∧ x7 ≤ 100 then (xm_vl (cl x7.toNat) (fun v4 => if 0 < x6 ∧ x6 ≤ 100000 then (xm_vl (xm_rem (xm_and (xm_shr v4 (4 : Int)) 2147483647) x6) (fun v7 => if 0 ≤ v7 ∧ v7 < 24 then (if 0 < (9000 : Int) ∧ (9000 : Int) ≤ 100000 then (xm_vl (xm_w ((xm_w ((σ.1 87 v7.toNat) + (4300 : Int))) + (xm_rem (xm_and (xm_shr v4 (12 : Int)) 2147483647) (9000 : Int)))) (fun v12 => if (90000 : Int) < v12 then (self σ x6 (xm_w (x7 + 1))) else ((f_X10_partner σ v7 (xm_w (v12 - (200 : Int)))).bind (fun o16 => if o16.1.2.2 = σ.2.2 then (if o16.2 < 0 then (if 0 ≤ v7 ∧ v7 < 24 then (if 0 ≤ x6 ∧ x6 < 24 then (xm_st (xm_u1 o16.1 87 x6.toNat (o16.1.1 87 v7.toNat)) (fun σ23 => if 0 ≤ v7 ∧ v7 < 24 then (if (σ23.1 88 v7.toNat) = 0 then (f_L_law_j230 cl self σ23 (1 : Int) x6 x6 x7 v4 v7 v12 x6) else (f_L_law_j230 cl self σ23 (0 : Int) x6 x6 x7 v4 v7 v12 x6)) else none)) else none) else none) else (f_L_law_j323 cl self o16.1 x6 x7 v4 v7 v12 o16.2)) else none)))) else none) else none)) else none)) else none) else (K406 σ x6)
noncomputable def f_L_law_l121 (cl : Nat → Int) (K406 : xm_Mem → Int → Option xm_Out) (n : Nat) : xm_Mem → Int → Int → Option xm_Out := xm_it (f_L_law_b121 cl K406) (fun _ _ _ => none) n
noncomputable def f_L_law_b462 (cl : Nat → Int) (K548 : xm_Mem → Int → Option xm_Out) (self : xm_Mem → Int → Int → Int → Option xm_Out) (σ : xm_Mem) (x6 : Int) (x7 : Int) (x8 : Int) : Option xm_Out := if x8 < (6 : Int) then (if 0 ≤ (xm_w ((12 : Int) + x8)) ∧ (xm_w ((12 : Int) + x8)) ≤ 100 then (xm_vl (cl (xm_w ((12 : Int) + x8)).toNat) (fun v113 => if 0 < x6 ∧ x6 ≤ 100000 then (xm_vl (xm_rem (xm_and (xm_shr v113 (3 : Int)) 2147483647) x6) (fun v116 => if 0 ≤ v116 ∧ v116 < 24 then (if 0 < (95000 : Int) ∧ (95000 : Int) ≤ 100000 then (@ite _ (xm_gt σ (xm_min (95000 : Int) (xm_w ((σ.1 87 v116.toNat) + (xm_rem (xm_and (xm_shr v113 (8 : Int)) 2147483647) (95000 : Int))))) v116 (-1 : Int)) (Classical.propDecidable _) (xm_st (xm_aps σ 89 0 (xm_tP 3 (xm_min (95000 : Int) (xm_w ((σ.1 87 v116.toNat) + (xm_rem (xm_and (xm_shr v113 (8 : Int)) 2147483647) (95000 : Int))))).toNat v116.toNat (-1 : Int))) (fun σ122 => (f_L_tell σ122).bind (fun o124 => if o124.1.2.2 = σ122.2.2 + 1 ∧ o124.1.2.2 ≤ 100000 then (if o124.2 < 0 then ((f_X10_status o124.1).bind (fun o129 => if o129.1.2.2 = o124.1.2.2 then (if o129.2 = (5 : Int) then (self o129.1 x6 x7 (xm_w (x8 + 1))) else (none)) else none)) else (self o124.1 x6 x7 (xm_w (x8 + 1)))) else none))) none) else none) else none)) else none)) else none) else (K548 σ x7)
noncomputable def f_L_law_l462 (cl : Nat → Int) (K548 : xm_Mem → Int → Option xm_Out) (n : Nat) : xm_Mem → Int → Int → Int → Option xm_Out := xm_it (f_L_law_b462 cl K548) (fun _ _ _ _ => none) n
noncomputable def f_L_law_b572 (cl : Nat → Int) (K634 : xm_Mem → Int → Int → Int → Option xm_Out) (self : xm_Mem → Int → Int → Int → Int → Option xm_Out) (σ : xm_Mem) (x7 : Int) (x8 : Int) (x10 : Int) (x11 : Int) : Option xm_Out := if x11 < 0 then (K634 σ x7 x8 x10) else (if x10 < (24 : Int) then ((f_X10_rank σ (0 : Int) x11 x8).bind (fun o145 => if o145.1.2.2 = σ.2.2 then (if o145.2 = x10 then ((f_X10_person o145.1 x11 (4 : Int)).bind (fun o150 => if o150.1.2.2 = o145.1.2.2 then (if o150.2 < 0 then (if o150.1.1 109 0 = 1 ∧ 0 ≤ x10 ∧ x10 < 24 then (xm_st (xm_u1 o150.1 110 x10.toNat x11) (fun σ155 => (f_X10_line σ155 (0 : Int) x8 (xm_w (x10 + 1))).bind (fun o157 => if o157.1.2.2 = σ155.2.2 then (self o157.1 x7 x8 (xm_w (x10 + 1)) o157.2) else none))) else none) else (none)) else none)) else (none)) else none)) else (K634 σ x7 x8 x10))
noncomputable def f_L_law_l572 (cl : Nat → Int) (K634 : xm_Mem → Int → Int → Int → Option xm_Out) (n : Nat) : xm_Mem → Int → Int → Int → Int → Option xm_Out := xm_it (f_L_law_b572 cl K634) (fun _ _ _ _ _ => none) n
noncomputable def f_L_law_b665 (cl : Nat → Int) (K688 : xm_Mem → Int → Int → Int → Int → Int → Int → Int → Int → Option xm_Out) (self : xm_Mem → Int → Int → Int → Int → Int → Int → Int → Int → Option xm_Out) (σ : xm_Mem) (x7 : Int) (x8 : Int) (x10 : Int) (x11 : Int) (x12 : Int) (x13 : Int) (x14 : Int) (x15 : Int) : Option xm_Out := if x15 < x10 then (if σ.1 109 0 = 1 ∧ 0 ≤ x15 ∧ x15 < 24 then (if (σ.1 110 x15.toNat) = x12 then (K688 σ x7 x8 x10 x11 x12 x13 x14 x15) else (self σ x7 x8 x10 x11 x12 x13 x14 (xm_w (x15 + 1)))) else none) else (K688 σ x7 x8 x10 x11 x12 x13 x14 x15)
noncomputable def f_L_law_l665 (cl : Nat → Int) (K688 : xm_Mem → Int → Int → Int → Int → Int → Int → Int → Int → Option xm_Out) (n : Nat) : xm_Mem → Int → Int → Int → Int → Int → Int → Int → Int → Option xm_Out := xm_it (f_L_law_b665 cl K688) (fun _ _ _ _ _ _ _ _ _ => none) n
noncomputable def f_L_law_b725 (cl : Nat → Int) (K750 : xm_Mem → Int → Int → Int → Int → Int → Int → Option xm_Out) (self : xm_Mem → Int → Int → Int → Int → Int → Int → Int → Option xm_Out) (σ : xm_Mem) (x7 : Int) (x8 : Int) (x10 : Int) (x11 : Int) (x13 : Int) (x14 : Int) (x16 : Int) : Option xm_Out := if x16 < x10 then (xm_vl (xm_w (x16 + (1 : Int))) (fun v188 => if σ.1 109 0 = 1 ∧ 0 ≤ v188 ∧ v188 < 24 then (if σ.1 109 0 = 1 ∧ 0 ≤ x16 ∧ x16 < 24 then (xm_st (xm_u1 σ 110 x16.toNat (σ.1 110 v188.toNat)) (fun σ192 => self σ192 x7 x8 x10 x11 x13 x14 (xm_w (x16 + 1)))) else none) else none)) else (K750 σ x7 x8 x10 x11 x13 x14)
noncomputable def f_L_law_l725 (cl : Nat → Int) (K750 : xm_Mem → Int → Int → Int → Int → Int → Int → Option xm_Out) (n : Nat) : xm_Mem → Int → Int → Int → Int → Int → Int → Int → Option xm_Out := xm_it (f_L_law_b725 cl K750) (fun _ _ _ _ _ _ _ _ => none) n
noncomputable def f_L_law_b816 (cl : Nat → Int) (K851 : xm_Mem → Int → Int → Int → Int → Int → Int → Int → Option xm_Out) (self : xm_Mem → Int → Int → Int → Int → Int → Int → Int → Int → Option xm_Out) (σ : xm_Mem) (x7 : Int) (x8 : Int) (x10 : Int) (x11 : Int) (x12 : Int) (x13 : Int) (x14 : Int) (x16 : Int) : Option xm_Out := if x16 < x10 then ((f_X10_line σ (0 : Int) (xm_w (x8 + x14)) x16).bind (fun o214 => if o214.1.2.2 = σ.2.2 then (if o214.1.1 109 0 = 1 ∧ 0 ≤ x16 ∧ x16 < 24 then (if o214.2 = (o214.1.1 110 x16.toNat) then (self o214.1 x7 x8 x10 x11 x12 x13 x14 (xm_w (x16 + 1))) else (none)) else none) else none)) else (K851 σ x7 x8 x10 x11 x12 x13 x14)
noncomputable def f_L_law_l816 (cl : Nat → Int) (K851 : xm_Mem → Int → Int → Int → Int → Int → Int → Int → Option xm_Out) (n : Nat) : xm_Mem → Int → Int → Int → Int → Int → Int → Int → Int → Option xm_Out := xm_it (f_L_law_b816 cl K851) (fun _ _ _ _ _ _ _ _ _ => none) n
noncomputable def f_L_law_j763 (cl : Nat → Int) (K657 : xm_Mem → Int → Int → Int → Int → Int → Int → Int → Option xm_Out) (σ : xm_Mem) (s0 : Int) (x7 : Int) (x8 : Int) (x10 : Int) (x11 : Int) (x13 : Int) (x14 : Int) : Option xm_Out := (f_X10_holder σ (0 : Int) (xm_w (x8 + x14))).bind (fun o197 => if o197.1.2.2 = σ.2.2 then (if o197.2 = s0 then ((f_X10_since o197.1 (0 : Int) (xm_w (x8 + x14))).bind (fun o202 => if o202.1.2.2 = o197.1.2.2 then (if o202.2 = (xm_w (x8 + x14)) then ((f_X10_tenures o202.1 (0 : Int)).bind (fun o207 => if o207.1.2.2 = o202.1.2.2 then (if o207.2 = (xm_w (x11 + x14)) then (f_L_law_l816 cl (fun σ_221 x7_221 x8_221 x10_221 x11_221 x12_221 x13_221 x14_221 => (f_X10_line σ_221 (0 : Int) (xm_w (x8_221 + x14_221)) x10_221).bind (fun o222 => if o222.1.2.2 = σ_221.2.2 then (if o222.2 = (-9 : Int) then (K657 o222.1 x7_221 x8_221 x10_221 x11_221 x12_221 x13_221 (xm_w (x14_221 + 1))) else (none)) else none)) xm_fuel o207.1 x7 x8 x10 x11 s0 x13 x14 (0 : Int)) else (none)) else none)) else (none)) else none)) else (none)) else none)
noncomputable def f_L_law_b657 (cl : Nat → Int) (K876 : xm_Mem → Int → Int → Int → Int → Option xm_Out) (self : xm_Mem → Int → Int → Int → Int → Int → Int → Int → Option xm_Out) (σ : xm_Mem) (x7 : Int) (x8 : Int) (x10 : Int) (x11 : Int) (x12 : Int) (x13 : Int) (x14 : Int) : Option xm_Out := if 0 < x10 then (f_L_law_l665 cl (fun σ_175 x7_175 x8_175 x10_175 x11_175 x12_175 x13_175 x14_175 x15_175 => if x15_175 = x10_175 then (none) else (@ite _ (xm_gt σ_175 (xm_w (x8_175 + x14_175)) x12_175 (-1 : Int)) (Classical.propDecidable _) (xm_st (xm_aps σ_175 89 0 (xm_tP 3 (xm_w (x8_175 + x14_175)).toNat x12_175.toNat (-1 : Int))) (fun σ179 => (f_L_tell σ179).bind (fun o181 => if o181.1.2.2 = σ179.2.2 + 1 ∧ o181.1.2.2 ≤ 100000 then (if o181.2 < 0 then (none) else (f_L_law_l725 cl (fun σ_194 x7_194 x8_194 x10_194 x11_194 x13_194 x14_194 => if x10_194 = 0 then (f_L_law_j763 cl self σ_194 (-1 : Int) x7_194 x8_194 x10_194 x11_194 x13_194 x14_194) else (if σ_194.1 109 0 = 1 ∧ 0 ≤ (0 : Int) ∧ (0 : Int) < 24 then (f_L_law_j763 cl self σ_194 (σ_194.1 110 (0 : Int).toNat) x7_194 x8_194 x10_194 x11_194 x13_194 x14_194) else none)) xm_fuel o181.1 x7_175 x8_175 (xm_w (x10_175 + (-1))) x11_175 x13_175 x14_175 x15_175)) else none))) none)) xm_fuel σ x7 x8 x10 x11 x12 x13 x14 (0 : Int)) else (K876 σ x7 x8 x12 x13)
noncomputable def f_L_law_l657 (cl : Nat → Int) (K876 : xm_Mem → Int → Int → Int → Int → Option xm_Out) (n : Nat) : xm_Mem → Int → Int → Int → Int → Int → Int → Int → Option xm_Out := xm_it (f_L_law_b657 cl K876) (fun _ _ _ _ _ _ _ _ => none) n
noncomputable def f_L_law (cl : Nat → Int) (σ : xm_Mem) : Option xm_Out := f_L_law_l121 cl (fun σ_88 x6_88 => if 0 ≤ (10 : Int) ∧ (10 : Int) ≤ 100 then (if 0 < (20000 : Int) ∧ (20000 : Int) ≤ 100000 then (xm_vl (xm_rem (xm_and (cl (10 : Int).toNat) 2147483647) (20000 : Int)) (fun v91 => @ite _ (xm_gt σ_88 v91 (0 : Int) (-1 : Int)) (Classical.propDecidable _) (xm_st (xm_aps σ_88 89 0 (xm_tP 4 v91.toNat (0 : Int).toNat (-1 : Int))) (fun σ94 => @ite _ (xm_SB σ94 89 34 (xm_tc σ94) ∧ (xm_tc σ94) + xm_pl (2, 32) ≤ 34) (Classical.propDecidable _) (xm_st (xm_ap σ94 89 (xm_tc σ94) (2, 32)) (fun σ97 => if 0 ≤ (11 : Int) ∧ (11 : Int) ≤ 100 then (if 0 < (5 : Int) ∧ (5 : Int) ≤ 100000 then (if (0 ≤ (xm_rem (xm_and (cl (11 : Int).toNat) 2147483647) (5 : Int)) ∧ (xm_rem (xm_and (cl (11 : Int).toNat) 2147483647) (5 : Int)) < 5) ∧ 1 ≤ σ97.1 86 (xm_rem (xm_and (cl (11 : Int).toNat) 2147483647) (5 : Int)).toNat ∧ (σ97.1 86 (xm_rem (xm_and (cl (11 : Int).toNat) 2147483647) (5 : Int)).toNat - 1).toNat < 24 then (@ite _ (xm_SB σ97 89 34 (xm_tc σ97) ∧ (xm_tc σ97) + xm_pl (0, (σ97.1 86 (xm_rem (xm_and (cl (11 : Int).toNat) 2147483647) (5 : Int)).toNat - 1).toNat) ≤ 34) (Classical.propDecidable _) (xm_st (xm_ap σ97 89 (xm_tc σ97) (0, (σ97.1 86 (xm_rem (xm_and (cl (11 : Int).toNat) 2147483647) (5 : Int)).toNat - 1).toNat)) (fun σ103 => (f_L_tell σ103).bind (fun o105 => if o105.1.2.2 = σ103.2.2 + 1 ∧ o105.1.2.2 ≤ 100000 then (if o105.2 < 0 then (none) else (f_L_law_l462 cl (fun σ_134 x7_134 => if σ_134.1 109 0 = 0 ∧ σ_134.1 109 1 = (σ_134.2.2 : Int) - 20 then (xm_st (xm_mkL σ_134) (fun σ136 => (f_X10_line σ136 (0 : Int) (99000 : Int) (0 : Int)).bind (fun o138 => if o138.1.2.2 = σ136.2.2 then (f_L_law_l572 cl (fun σ_160 x7_160 x8_160 x10_160 => (f_X10_tenures σ_160 (0 : Int)).bind (fun o161 => if o161.1.2.2 = σ_160.2.2 then ((f_X10_holder o161.1 (0 : Int) x8_160).bind (fun o164 => if o164.1.2.2 = o161.1.2.2 then (f_L_law_l657 cl (fun σ_229 x7_229 x8_229 x12_229 x13_229 => if x12_229 = (-1 : Int) then ((f_X10_holder σ_229 (0 : Int) (99999 : Int)).bind (fun o232 => if o232.1.2.2 = σ_229.2.2 then (if o232.2 = (-1 : Int) then ((f_X10_holder o232.1 (0 : Int) x8_229).bind (fun o237 => if o237.1.2.2 = o232.1.2.2 then (if o237.2 = x13_229 then ((f_X10_holder o237.1 (0 : Int) x7_229).bind (fun o242 => if o242.1.2.2 = o237.1.2.2 then (if o242.2 = (-4 : Int) then (none) else ((f_X10_tenure o242.1 (0 : Int) (0 : Int) (1 : Int)).bind (fun o247 => if o247.1.2.2 = o242.1.2.2 then (if o247.2 = x7_229 then (some (o247.1, 1)) else (none)) else none))) else none)) else (none)) else none)) else (none)) else none)) else (none)) xm_fuel o164.1 x7_160 x8_160 x10_160 o161.2 o164.2 o164.2 (1 : Int)) else none)) else none)) xm_fuel o138.1 x7_134 (99000 : Int) (0 : Int) o138.2) else none))) else none) xm_fuel o105.1 x6_88 v91 (0 : Int))) else none))) none) else none) else none) else none)) none)) none)) else none) else none) xm_fuel σ (2 : Int) (0 : Int)
theorem w_L_law_j386 {X : xm_X} {cl : Nat → Int} (hC : xm_C X RL cL_law 17 12 600000 7302250) (hI : xx_I X = xm_I) (hL : xm_LW X cl) {K121 : xm_Mem → Int → Int → Option xm_Out} (hK121 : ∀ (σ : xm_Mem) (x6 : Int) (x7 : Int), xm_in x6 → xm_in x7 → xm_VL X 0 (K121 σ x6 x7) σ 121 [(0, .ref (xm_sb (xx_G X))), (1, .ref (xm_ad (xx_G X) 1)), (2, .ref (xm_ad (xx_G X) 84)), (3, .ref (xm_ad (xx_G X) 86)), (4, .ref (xm_ad (xx_G X) 87)), (5, .ref (xm_ad (xx_G X) 88)), (6, .int (xm_J x6)), (7, .int (xm_J x7))] []) (σ : xm_Mem) (s0 : Int) (s1 : Int) (s2 : Int) (s3 : Int) (x6 : Int) (x7 : Int) (g0 : xm_in s0) (g1 : xm_in s1) (g2 : 0 ≤ s2 ∧ s2 ≤ 1) (g3 : xm_in s3) (h6 : xm_in x6) (h7 : xm_in x7) : xm_VL X 0 (f_L_law_j386 cl K121 σ s0 s1 s2 s3 x6 x7) σ 386 [(0, .ref (xm_sb (xx_G X))), (1, .ref (xm_ad (xx_G X) 1)), (2, .ref (xm_ad (xx_G X) 84)), (3, .ref (xm_ad (xx_G X) 86)), (4, .ref (xm_ad (xx_G X) 87)), (5, .ref (xm_ad (xx_G X) 88)), (6, .int (xm_J x6)), (7, .int (xm_J x7))] [.int (xm_J s0), .int (xm_J s1), .int (xm_J s2), .int (xm_J s3), .ref (xm_ad (xx_G X) 84), .ref (xm_ad (xx_G X) 1)] := by
  unfold f_L_law_j386
  refine xg_inL (fun hz => ?_)
  refine @xg_ite _ _ _ _ _ _ _ _ _ _ (Classical.propDecidable _) (fun k80 => ?_) (fun _ => xg_none)
  refine xg_callS1 hC (ml_bornI g2 (xm_JIX hI) k80) xl_M_L_81 xl_S_L_born (by decide) ⟨by omega, by omega⟩ dL_law_386 (rest := [.ref (xm_ad (xx_G X) 1)]) rfl rfl (Nat.le_of_ble_eq_true rfl) rfl rfl (st2 := fun o => [.ref (xm_ad (xx_G X) 84)] ++ [.ref (xm_ad (xx_G X) 1)]) (fun _ => rfl) (fun _ => ?_)
  refine xg_sg (σ2 := xm_aps σ 89 0 (xm_bP s3.toNat s2 s1 s0)) rfl (st2 := [.ref (xm_ad (xx_G X) 84), .ref (xm_ad (xx_G X) 1)]) rfl ?_
  refine xg_stE (n := (σ).2.2) (xm_aps_2 _ _ _ _) (fun σ81 z82 => ?_)
  refine xg_callS hC (w_L_tell hI σ81) xl_M_L_85 xl_S_L_tell (by decide) ⟨by omega, by omega⟩ dL_law_389 (rest := []) rfl rfl (Nat.le_of_ble_eq_true rfl) rfl rfl (st2 := fun o => .int (xm_J o.2) :: []) (fun _ => rfl) (fun o83 k84 => ?_)
  refine xg_guard (fun z85 => ?_)
  refine xg_if_ge hC k84 397 dL_law_392 rfl (fun c86 => ?_) (fun c87 => ?_)
  · refine xg_iconst hC dL_law_395 ?_
    exact xg_none
  refine xg_iinc hC (l' := [(6, .int (xm_J (xm_w (x6 + 1)))), (0, .ref (xm_sb (xx_G X))), (1, .ref (xm_ad (xx_G X) 1)), (2, .ref (xm_ad (xx_G X) 84)), (3, .ref (xm_ad (xx_G X) 86)), (4, .ref (xm_ad (xx_G X) 87)), (5, .ref (xm_ad (xx_G X) 88)), (7, .int (xm_J x7))]) dL_law_397 (by decide) 6 rfl rfl ?_
  refine xg_iinc hC (l' := [(7, .int (xm_J (xm_w (x7 + 1)))), (6, .int (xm_J (xm_w (x6 + 1)))), (0, .ref (xm_sb (xx_G X))), (1, .ref (xm_ad (xx_G X) 1)), (2, .ref (xm_ad (xx_G X) 84)), (3, .ref (xm_ad (xx_G X) 86)), (4, .ref (xm_ad (xx_G X) 87)), (5, .ref (xm_ad (xx_G X) 88))]) dL_law_400 (by decide) 7 rfl rfl ?_
  refine xg_goto hC 121 dL_law_403 rfl ?_
  exact xg_pick [2, 3, 4, 5, 6, 7, 1, 0] rfl (xg_toL (by omega) (by omega) (by omega) (hK121 o83.1 (xm_w (x6 + 1)) (xm_w (x7 + 1)) (xm_w_in _) (xm_w_in _)))
theorem w_L_law_j371 {X : xm_X} {cl : Nat → Int} (hC : xm_C X RL cL_law 17 12 600000 7302250) (hI : xx_I X = xm_I) (hL : xm_LW X cl) {K121 : xm_Mem → Int → Int → Option xm_Out} (hK121 : ∀ (σ : xm_Mem) (x6 : Int) (x7 : Int), xm_in x6 → xm_in x7 → xm_VL X 0 (K121 σ x6 x7) σ 121 [(0, .ref (xm_sb (xx_G X))), (1, .ref (xm_ad (xx_G X) 1)), (2, .ref (xm_ad (xx_G X) 84)), (3, .ref (xm_ad (xx_G X) 86)), (4, .ref (xm_ad (xx_G X) 87)), (5, .ref (xm_ad (xx_G X) 88)), (6, .int (xm_J x6)), (7, .int (xm_J x7))] []) (σ : xm_Mem) (s0 : Int) (s1 : Int) (s2 : Int) (x6 : Int) (x7 : Int) (x9 : Int) (x11 : Int) (g0 : xm_in s0) (g1 : 0 ≤ s1 ∧ s1 ≤ 1) (g2 : xm_in s2) (h6 : xm_in x6) (h7 : xm_in x7) (h9 : xm_in x9) (h11 : xm_in x11) : xm_VL X 0 (f_L_law_j371 cl K121 σ s0 s1 s2 x6 x7 x9 x11) σ 371 [(0, .ref (xm_sb (xx_G X))), (1, .ref (xm_ad (xx_G X) 1)), (2, .ref (xm_ad (xx_G X) 84)), (3, .ref (xm_ad (xx_G X) 86)), (4, .ref (xm_ad (xx_G X) 87)), (5, .ref (xm_ad (xx_G X) 88)), (6, .int (xm_J x6)), (7, .int (xm_J x7)), (9, .int (xm_J x9)), (11, .int (xm_J x11))] [.int (xm_J s0), .int (xm_J s1), .int (xm_J s2), .ref (xm_ad (xx_G X) 84), .ref (xm_ad (xx_G X) 1)] := by
  unfold f_L_law_j371
  refine xg_inL (fun hz => ?_)
  refine xg_aload hC dL_law_371 rfl ?_
  refine xg_iload hC dL_law_373 rfl ?_
  refine xg_zald hC (xm_hK hI rfl) rfl h9 dL_law_375 (fun b76 k77 => ?_)
  refine xg_if_eq hC (xm_in01 k77) 384 dL_law_376 rfl (fun c78 => ?_) (fun c79 => ?_)
  · refine xg_iload hC dL_law_384 rfl ?_
    exact xg_pick [0, 1, 2, 3, 4, 5, 6, 7] rfl (xg_toL (by omega) (by omega) (by omega) (w_L_law_j386 hC hI hL hK121 σ x9 s0 s1 s2 x6 x7 h9 g0 g1 g2 h6 h7))
  refine xg_iload hC dL_law_379 rfl ?_
  refine xg_goto hC 386 dL_law_381 rfl ?_
  exact xg_pick [0, 1, 2, 3, 4, 5, 6, 7] rfl (xg_toL (by omega) (by omega) (by omega) (w_L_law_j386 hC hI hL hK121 σ x11 s0 s1 s2 x6 x7 h11 g0 g1 g2 h6 h7))
theorem w_L_law_j346 {X : xm_X} {cl : Nat → Int} (hC : xm_C X RL cL_law 17 12 600000 7302250) (hI : xx_I X = xm_I) (hL : xm_LW X cl) {K121 : xm_Mem → Int → Int → Option xm_Out} (hK121 : ∀ (σ : xm_Mem) (x6 : Int) (x7 : Int), xm_in x6 → xm_in x7 → xm_VL X 0 (K121 σ x6 x7) σ 121 [(0, .ref (xm_sb (xx_G X))), (1, .ref (xm_ad (xx_G X) 1)), (2, .ref (xm_ad (xx_G X) 84)), (3, .ref (xm_ad (xx_G X) 86)), (4, .ref (xm_ad (xx_G X) 87)), (5, .ref (xm_ad (xx_G X) 88)), (6, .int (xm_J x6)), (7, .int (xm_J x7))] []) (σ : xm_Mem) (s0 : Int) (s1 : Int) (x6 : Int) (x7 : Int) (x9 : Int) (x10 : Int) (x11 : Int) (g0 : 0 ≤ s0 ∧ s0 ≤ 1) (g1 : xm_in s1) (h6 : xm_in x6) (h7 : xm_in x7) (h9 : xm_in x9) (h10 : xm_in x10) (h11 : xm_in x11) : xm_VL X 0 (f_L_law_j346 cl K121 σ s0 s1 x6 x7 x9 x10 x11) σ 346 [(0, .ref (xm_sb (xx_G X))), (1, .ref (xm_ad (xx_G X) 1)), (2, .ref (xm_ad (xx_G X) 84)), (3, .ref (xm_ad (xx_G X) 86)), (4, .ref (xm_ad (xx_G X) 87)), (5, .ref (xm_ad (xx_G X) 88)), (6, .int (xm_J x6)), (7, .int (xm_J x7)), (9, .int (xm_J x9)), (10, .int (xm_J x10)), (11, .int (xm_J x11))] [.int (xm_J s0), .int (xm_J s1), .ref (xm_ad (xx_G X) 88)] := by
  unfold f_L_law_j346
  refine xg_inL (fun hz => ?_)
  refine xg_zast hC (xm_hK hI rfl) rfl g1 g0 (xm_kpF hI rfl) dL_law_346 ?_
  refine xg_stE (n := (σ).2.2) rfl (fun σ68 z69 => ?_)
  refine xg_aload_n hC dL_law_347 rfl ?_
  refine xg_aload_n hC dL_law_348 rfl ?_
  refine xg_iload hC dL_law_349 rfl ?_
  refine xg_aload hC dL_law_351 rfl ?_
  refine xg_iload hC dL_law_353 rfl ?_
  refine xg_zald hC (xm_hK hI rfl) rfl h6 dL_law_355 (fun b70 k71 => ?_)
  refine xg_aload hC dL_law_356 rfl ?_
  refine xg_iload hC dL_law_358 rfl ?_
  refine xg_zald hC (xm_hK hI rfl) rfl h9 dL_law_360 (fun b72 k73 => ?_)
  refine xg_if_eq hC (xm_in01 k73) 369 dL_law_361 rfl (fun c74 => ?_) (fun c75 => ?_)
  · refine xg_iload hC dL_law_369 rfl ?_
    exact xg_pick [0, 1, 2, 3, 4, 5, 6, 7, 8, 10] rfl (xg_toL (by omega) (by omega) (by omega) (w_L_law_j371 hC hI hL hK121 σ68 x11 (σ68.1 88 x6.toNat) x10 x6 x7 x9 x11 h11 k71 h10 h6 h7 h9 h11))
  refine xg_iload hC dL_law_364 rfl ?_
  refine xg_goto hC 371 dL_law_366 rfl ?_
  exact xg_pick [0, 1, 2, 3, 4, 5, 6, 7, 8, 10] rfl (xg_toL (by omega) (by omega) (by omega) (w_L_law_j371 hC hI hL hK121 σ68 x9 (σ68.1 88 x6.toNat) x10 x6 x7 x9 x11 h9 k71 h10 h6 h7 h9 h11))
theorem w_L_law_j323 {X : xm_X} {cl : Nat → Int} (hC : xm_C X RL cL_law 17 12 600000 7302250) (hI : xx_I X = xm_I) (hL : xm_LW X cl) {K121 : xm_Mem → Int → Int → Option xm_Out} (hK121 : ∀ (σ : xm_Mem) (x6 : Int) (x7 : Int), xm_in x6 → xm_in x7 → xm_VL X 0 (K121 σ x6 x7) σ 121 [(0, .ref (xm_sb (xx_G X))), (1, .ref (xm_ad (xx_G X) 1)), (2, .ref (xm_ad (xx_G X) 84)), (3, .ref (xm_ad (xx_G X) 86)), (4, .ref (xm_ad (xx_G X) 87)), (5, .ref (xm_ad (xx_G X) 88)), (6, .int (xm_J x6)), (7, .int (xm_J x7))] []) (σ : xm_Mem) (x6 : Int) (x7 : Int) (x8 : Int) (x9 : Int) (x10 : Int) (x11 : Int) (h6 : xm_in x6) (h7 : xm_in x7) (h8 : xm_in x8) (h9 : xm_in x9) (h10 : xm_in x10) (h11 : xm_in x11) : xm_VL X 0 (f_L_law_j323 cl K121 σ x6 x7 x8 x9 x10 x11) σ 323 [(0, .ref (xm_sb (xx_G X))), (1, .ref (xm_ad (xx_G X) 1)), (2, .ref (xm_ad (xx_G X) 84)), (3, .ref (xm_ad (xx_G X) 86)), (4, .ref (xm_ad (xx_G X) 87)), (5, .ref (xm_ad (xx_G X) 88)), (6, .int (xm_J x6)), (7, .int (xm_J x7)), (8, .int (xm_J x8)), (9, .int (xm_J x9)), (10, .int (xm_J x10)), (11, .int (xm_J x11))] [] := by
  unfold f_L_law_j323
  refine xg_inL (fun hz => ?_)
  refine xg_aload hC dL_law_323 rfl ?_
  refine xg_iload hC dL_law_325 rfl ?_
  refine xg_iload hC dL_law_327 rfl ?_
  refine xg_iast hC (xm_hK hI rfl) rfl h6 h10 (xm_kpF hI rfl) dL_law_329 ?_
  refine xg_stE (n := (σ).2.2) rfl (fun σ64 z65 => ?_)
  refine xg_aload hC dL_law_330 rfl ?_
  refine xg_iload hC dL_law_332 rfl ?_
  refine xg_iload hC dL_law_334 rfl ?_
  refine xg_iconst hC dL_law_336 ?_
  refine xg_iand hC dL_law_337 ?_
  refine xg_if_ne hC (xm_and_in _ _) 345 dL_law_338 rfl (fun c66 => ?_) (fun c67 => ?_)
  · refine xg_iconst hC dL_law_341 ?_
    refine xg_goto hC 346 dL_law_342 rfl ?_
    exact xg_pick [0, 1, 2, 3, 4, 5, 6, 7, 9, 10, 11] rfl (xg_toL (by omega) (by omega) (by omega) (w_L_law_j346 hC hI hL hK121 σ64 (1 : Int) x6 x6 x7 x9 x10 x11 (by decide) h6 h6 h7 h9 h10 h11))
  refine xg_iconst hC dL_law_345 ?_
  exact xg_pick [0, 1, 2, 3, 4, 5, 6, 7, 9, 10, 11] rfl (xg_toL (by omega) (by omega) (by omega) (w_L_law_j346 hC hI hL hK121 σ64 (0 : Int) x6 x6 x7 x9 x10 x11 (by decide) h6 h6 h7 h9 h10 h11))
theorem w_L_law_j299 {X : xm_X} {cl : Nat → Int} (hC : xm_C X RL cL_law 17 12 600000 7302250) (hI : xx_I X = xm_I) (hL : xm_LW X cl) {K121 : xm_Mem → Int → Int → Option xm_Out} (hK121 : ∀ (σ : xm_Mem) (x6 : Int) (x7 : Int), xm_in x6 → xm_in x7 → xm_VL X 0 (K121 σ x6 x7) σ 121 [(0, .ref (xm_sb (xx_G X))), (1, .ref (xm_ad (xx_G X) 1)), (2, .ref (xm_ad (xx_G X) 84)), (3, .ref (xm_ad (xx_G X) 86)), (4, .ref (xm_ad (xx_G X) 87)), (5, .ref (xm_ad (xx_G X) 88)), (6, .int (xm_J x6)), (7, .int (xm_J x7))] []) (σ : xm_Mem) (s0 : Int) (s1 : Int) (s2 : Int) (x6 : Int) (x7 : Int) (x8 : Int) (x9 : Int) (x10 : Int) (x11 : Int) (g0 : xm_in s0) (g1 : xm_in s1) (g2 : xm_in s2) (h6 : xm_in x6) (h7 : xm_in x7) (h8 : xm_in x8) (h9 : xm_in x9) (h10 : xm_in x10) (h11 : xm_in x11) : xm_VL X 0 (f_L_law_j299 cl K121 σ s0 s1 s2 x6 x7 x8 x9 x10 x11) σ 299 [(0, .ref (xm_sb (xx_G X))), (1, .ref (xm_ad (xx_G X) 1)), (2, .ref (xm_ad (xx_G X) 84)), (3, .ref (xm_ad (xx_G X) 86)), (4, .ref (xm_ad (xx_G X) 87)), (5, .ref (xm_ad (xx_G X) 88)), (6, .int (xm_J x6)), (7, .int (xm_J x7)), (8, .int (xm_J x8)), (9, .int (xm_J x9)), (10, .int (xm_J x10)), (11, .int (xm_J x11))] [.int (xm_J s0), .int (xm_J s1), .int (xm_J s2), .ref (xm_adK (xx_G X) 1), .ref (xm_ad (xx_G X) 84), .ref (xm_ad (xx_G X) 1)] := by
  unfold f_L_law_j299
  refine xg_inL (fun hz => ?_)
  refine @xg_ite _ _ _ _ _ _ _ _ _ _ (Classical.propDecidable _) (fun k51 => ?_) (fun _ => xg_none)
  refine xg_callS1 hC (ml_textI (i := 1) (by decide) (by decide) (xm_JIX hI) k51) xl_M_L_91 xl_S_L_text (by decide) ⟨by omega, by omega⟩ dL_law_299 (rest := [.ref (xm_ad (xx_G X) 1)]) rfl rfl (Nat.le_of_ble_eq_true rfl) rfl rfl (st2 := fun o => [.ref (xm_ad (xx_G X) 84)] ++ [.ref (xm_ad (xx_G X) 1)]) (fun _ => rfl) (fun _ => ?_)
  refine xg_sg (σ2 := xm_aps σ 89 0 (xm_tP 1 s2.toNat s1.toNat s0)) rfl (st2 := [.ref (xm_ad (xx_G X) 84), .ref (xm_ad (xx_G X) 1)]) rfl ?_
  refine xg_stE (n := (σ).2.2) (xm_aps_2 _ _ _ _) (fun σ52 z53 => ?_)
  refine xg_callS hC (w_L_tell hI σ52) xl_M_L_85 xl_S_L_tell (by decide) ⟨by omega, by omega⟩ dL_law_302 (rest := []) rfl rfl (Nat.le_of_ble_eq_true rfl) rfl rfl (st2 := fun o => .int (xm_J o.2) :: []) (fun _ => rfl) (fun o54 k55 => ?_)
  refine xg_guard (fun z56 => ?_)
  refine xg_istore hC (l' := [(12, .int (xm_J o54.2)), (0, .ref (xm_sb (xx_G X))), (1, .ref (xm_ad (xx_G X) 1)), (2, .ref (xm_ad (xx_G X) 84)), (3, .ref (xm_ad (xx_G X) 86)), (4, .ref (xm_ad (xx_G X) 87)), (5, .ref (xm_ad (xx_G X) 88)), (6, .int (xm_J x6)), (7, .int (xm_J x7)), (8, .int (xm_J x8)), (9, .int (xm_J x9)), (10, .int (xm_J x10)), (11, .int (xm_J x11))]) dL_law_305 (by decide) rfl ?_
  refine xg_iload hC dL_law_307 rfl ?_
  refine xg_if_ge hC k55 323 dL_law_309 rfl (fun c57 => ?_) (fun c58 => ?_)
  · refine xg_aload_n hC dL_law_312 rfl ?_
    refine xg_callV hC (ci := 9) (w_X10_bond hI o54.1 ) xl_M_L_107 xl_V_X10_bond (xm_hK (a := 1) (kd := 0) (n := 9) hI rfl).2 ((xm_hK (a := 1) (kd := 0) (n := 9) hI rfl).1 _) (by decide) rfl (by decide) ⟨by omega, by omega⟩ dL_law_313 (rest := []) rfl rfl (Nat.le_of_ble_eq_true rfl) rfl rfl (st2 := fun o => .int (xm_J o.2) :: []) (fun _ => rfl) (fun o59 k60 => ?_)
    refine xg_guard (fun z61 => ?_)
    refine xg_bipush hC dL_law_316 (by decide) ?_
    refine xg_icmp_eq hC k60 (xm_inc _ rfl) 323 dL_law_318 rfl (fun c62 => ?_) (fun c63 => ?_)
    · exact xg_pick [1, 2, 3, 4, 5, 6, 7, 8, 9, 10, 11, 12] rfl (xg_toL (by omega) (by omega) (by omega) (w_L_law_j323 hC hI hL hK121 o59.1 x6 x7 x8 x9 x10 x11 h6 h7 h8 h9 h10 h11))
    refine xg_iconst hC dL_law_321 ?_
    exact xg_none
  exact xg_pick [1, 2, 3, 4, 5, 6, 7, 8, 9, 10, 11, 12] rfl (xg_toL (by omega) (by omega) (by omega) (w_L_law_j323 hC hI hL hK121 o54.1 x6 x7 x8 x9 x10 x11 h6 h7 h8 h9 h10 h11))
theorem w_L_law_j284 {X : xm_X} {cl : Nat → Int} (hC : xm_C X RL cL_law 17 12 600000 7302250) (hI : xx_I X = xm_I) (hL : xm_LW X cl) {K121 : xm_Mem → Int → Int → Option xm_Out} (hK121 : ∀ (σ : xm_Mem) (x6 : Int) (x7 : Int), xm_in x6 → xm_in x7 → xm_VL X 0 (K121 σ x6 x7) σ 121 [(0, .ref (xm_sb (xx_G X))), (1, .ref (xm_ad (xx_G X) 1)), (2, .ref (xm_ad (xx_G X) 84)), (3, .ref (xm_ad (xx_G X) 86)), (4, .ref (xm_ad (xx_G X) 87)), (5, .ref (xm_ad (xx_G X) 88)), (6, .int (xm_J x6)), (7, .int (xm_J x7))] []) (σ : xm_Mem) (s0 : Int) (s1 : Int) (x6 : Int) (x7 : Int) (x8 : Int) (x9 : Int) (x10 : Int) (x11 : Int) (g0 : xm_in s0) (g1 : xm_in s1) (h6 : xm_in x6) (h7 : xm_in x7) (h8 : xm_in x8) (h9 : xm_in x9) (h10 : xm_in x10) (h11 : xm_in x11) : xm_VL X 0 (f_L_law_j284 cl K121 σ s0 s1 x6 x7 x8 x9 x10 x11) σ 284 [(0, .ref (xm_sb (xx_G X))), (1, .ref (xm_ad (xx_G X) 1)), (2, .ref (xm_ad (xx_G X) 84)), (3, .ref (xm_ad (xx_G X) 86)), (4, .ref (xm_ad (xx_G X) 87)), (5, .ref (xm_ad (xx_G X) 88)), (6, .int (xm_J x6)), (7, .int (xm_J x7)), (8, .int (xm_J x8)), (9, .int (xm_J x9)), (10, .int (xm_J x10)), (11, .int (xm_J x11))] [.int (xm_J s0), .int (xm_J s1), .ref (xm_adK (xx_G X) 1), .ref (xm_ad (xx_G X) 84), .ref (xm_ad (xx_G X) 1)] := by
  unfold f_L_law_j284
  refine xg_inL (fun hz => ?_)
  refine xg_aload hC dL_law_284 rfl ?_
  refine xg_iload hC dL_law_286 rfl ?_
  refine xg_zald hC (xm_hK hI rfl) rfl h9 dL_law_288 (fun b47 k48 => ?_)
  refine xg_if_eq hC (xm_in01 k48) 297 dL_law_289 rfl (fun c49 => ?_) (fun c50 => ?_)
  · refine xg_iload hC dL_law_297 rfl ?_
    exact (xg_toL (by omega) (by omega) (by omega) (w_L_law_j299 hC hI hL hK121 σ x9 s0 s1 x6 x7 x8 x9 x10 x11 h9 g0 g1 h6 h7 h8 h9 h10 h11))
  refine xg_iload hC dL_law_292 rfl ?_
  refine xg_goto hC 299 dL_law_294 rfl ?_
  exact (xg_toL (by omega) (by omega) (by omega) (w_L_law_j299 hC hI hL hK121 σ x11 s0 s1 x6 x7 x8 x9 x10 x11 h11 g0 g1 h6 h7 h8 h9 h10 h11))
theorem w_L_law_j230 {X : xm_X} {cl : Nat → Int} (hC : xm_C X RL cL_law 17 12 600000 7302250) (hI : xx_I X = xm_I) (hL : xm_LW X cl) {K121 : xm_Mem → Int → Int → Option xm_Out} (hK121 : ∀ (σ : xm_Mem) (x6 : Int) (x7 : Int), xm_in x6 → xm_in x7 → xm_VL X 0 (K121 σ x6 x7) σ 121 [(0, .ref (xm_sb (xx_G X))), (1, .ref (xm_ad (xx_G X) 1)), (2, .ref (xm_ad (xx_G X) 84)), (3, .ref (xm_ad (xx_G X) 86)), (4, .ref (xm_ad (xx_G X) 87)), (5, .ref (xm_ad (xx_G X) 88)), (6, .int (xm_J x6)), (7, .int (xm_J x7))] []) (σ : xm_Mem) (s0 : Int) (s1 : Int) (x6 : Int) (x7 : Int) (x8 : Int) (x9 : Int) (x10 : Int) (x11 : Int) (g0 : 0 ≤ s0 ∧ s0 ≤ 1) (g1 : xm_in s1) (h6 : xm_in x6) (h7 : xm_in x7) (h8 : xm_in x8) (h9 : xm_in x9) (h10 : xm_in x10) (h11 : xm_in x11) : xm_VL X 0 (f_L_law_j230 cl K121 σ s0 s1 x6 x7 x8 x9 x10 x11) σ 230 [(0, .ref (xm_sb (xx_G X))), (1, .ref (xm_ad (xx_G X) 1)), (2, .ref (xm_ad (xx_G X) 84)), (3, .ref (xm_ad (xx_G X) 86)), (4, .ref (xm_ad (xx_G X) 87)), (5, .ref (xm_ad (xx_G X) 88)), (6, .int (xm_J x6)), (7, .int (xm_J x7)), (8, .int (xm_J x8)), (9, .int (xm_J x9)), (10, .int (xm_J x10)), (11, .int (xm_J x11))] [.int (xm_J s0), .int (xm_J s1), .ref (xm_ad (xx_G X) 88)] := by
  unfold f_L_law_j230
  refine xg_inL (fun hz => ?_)
  refine xg_zast hC (xm_hK hI rfl) rfl g1 g0 (xm_kpF hI rfl) dL_law_230 ?_
  refine xg_stE (n := (σ).2.2) rfl (fun σ29 z30 => ?_)
  refine xg_aload_n hC dL_law_231 rfl ?_
  refine xg_aload_n hC dL_law_232 rfl ?_
  refine xg_aload hC dL_law_233 rfl ?_
  refine xg_iload hC dL_law_235 rfl ?_
  refine xg_iald hC (xm_hK hI rfl) rfl h11 dL_law_237 (fun b31 k32 => ?_)
  refine xg_aload hC dL_law_238 rfl ?_
  refine xg_iload hC dL_law_240 rfl ?_
  refine xg_zald hC (xm_hK hI rfl) rfl h11 dL_law_242 (fun b33 k34 => ?_)
  refine xg_iconst hC dL_law_243 ?_
  refine xg_iconst hC dL_law_244 ?_
  refine @xg_ite _ _ _ _ _ _ _ _ _ _ (Classical.propDecidable _) (fun k35 => ?_) (fun _ => xg_none)
  refine xg_callS1 hC (ml_bornI k34 (xm_JIX hI) k35) xl_M_L_81 xl_S_L_born (by decide) ⟨by omega, by omega⟩ dL_law_245 (rest := [.ref (xm_ad (xx_G X) 1)]) rfl rfl (Nat.le_of_ble_eq_true rfl) rfl rfl (st2 := fun o => [.ref (xm_ad (xx_G X) 84)] ++ [.ref (xm_ad (xx_G X) 1)]) (fun _ => rfl) (fun _ => ?_)
  refine xg_sg (σ2 := xm_aps σ29 89 0 (xm_bP (σ29.1 87 x11.toNat).toNat (σ29.1 88 x11.toNat) (-1 : Int) (-1 : Int))) rfl (st2 := [.ref (xm_ad (xx_G X) 84), .ref (xm_ad (xx_G X) 1)]) rfl ?_
  refine xg_stE (n := (σ29).2.2) (xm_aps_2 _ _ _ _) (fun σ36 z37 => ?_)
  refine xg_callS hC (w_L_tell hI σ36) xl_M_L_85 xl_S_L_tell (by decide) ⟨by omega, by omega⟩ dL_law_248 (rest := []) rfl rfl (Nat.le_of_ble_eq_true rfl) rfl rfl (st2 := fun o => .int (xm_J o.2) :: []) (fun _ => rfl) (fun o38 k39 => ?_)
  refine xg_guard (fun z40 => ?_)
  refine xg_if_ge hC k39 256 dL_law_251 rfl (fun c41 => ?_) (fun c42 => ?_)
  · refine xg_iconst hC dL_law_254 ?_
    exact xg_none
  refine xg_iinc hC (l' := [(6, .int (xm_J (xm_w (x6 + 1)))), (0, .ref (xm_sb (xx_G X))), (1, .ref (xm_ad (xx_G X) 1)), (2, .ref (xm_ad (xx_G X) 84)), (3, .ref (xm_ad (xx_G X) 86)), (4, .ref (xm_ad (xx_G X) 87)), (5, .ref (xm_ad (xx_G X) 88)), (7, .int (xm_J x7)), (8, .int (xm_J x8)), (9, .int (xm_J x9)), (10, .int (xm_J x10)), (11, .int (xm_J x11))]) dL_law_256 (by decide) 6 rfl rfl ?_
  refine xg_aload_n hC dL_law_259 rfl ?_
  refine xg_aload_n hC dL_law_260 rfl ?_
  refine xg_ldcS hC (i := 89) (id := 1) (by decide) dL_law_261 ?_
  refine xg_iload hC dL_law_263 rfl ?_
  refine xg_sipush hC dL_law_265 (by decide) ?_
  refine xg_isub hC dL_law_268 ?_
  refine xg_aload hC dL_law_269 rfl ?_
  refine xg_iload hC dL_law_271 rfl ?_
  refine xg_zald hC (xm_hK hI rfl) rfl h9 dL_law_273 (fun b43 k44 => ?_)
  refine xg_if_eq hC (xm_in01 k44) 282 dL_law_274 rfl (fun c45 => ?_) (fun c46 => ?_)
  · refine xg_iload hC dL_law_282 rfl ?_
    exact xg_pick [1, 2, 3, 4, 5, 6, 0, 7, 8, 9, 10, 11] rfl (xg_toL (by omega) (by omega) (by omega) (w_L_law_j284 hC hI hL hK121 o38.1 x11 (xm_w (x10 - (200 : Int))) (xm_w (x6 + 1)) x7 x8 x9 x10 x11 h11 (xm_w_in _) (xm_w_in _) h7 h8 h9 h10 h11))
  refine xg_iload hC dL_law_277 rfl ?_
  refine xg_goto hC 284 dL_law_279 rfl ?_
  exact xg_pick [1, 2, 3, 4, 5, 6, 0, 7, 8, 9, 10, 11] rfl (xg_toL (by omega) (by omega) (by omega) (w_L_law_j284 hC hI hL hK121 o38.1 x9 (xm_w (x10 - (200 : Int))) (xm_w (x6 + 1)) x7 x8 x9 x10 x11 h9 (xm_w_in _) (xm_w_in _) h7 h8 h9 h10 h11))
theorem w_L_law_b121 {X : xm_X} {cl : Nat → Int} (hC : xm_C X RL cL_law 17 12 600000 7302250) (hI : xx_I X = xm_I) (hL : xm_LW X cl) {K406 : xm_Mem → Int → Option xm_Out} (hK406 : ∀ (σ : xm_Mem) (x6 : Int), xm_in x6 → xm_VL X 0 (K406 σ x6) σ 406 [(0, .ref (xm_sb (xx_G X))), (1, .ref (xm_ad (xx_G X) 1)), (2, .ref (xm_ad (xx_G X) 84)), (3, .ref (xm_ad (xx_G X) 86)), (4, .ref (xm_ad (xx_G X) 87)), (6, .int (xm_J x6))] []) {self : xm_Mem → Int → Int → Option xm_Out} (hself : ∀ (σ : xm_Mem) (x6 : Int) (x7 : Int), xm_in x6 → xm_in x7 → xm_VL X 0 (self σ x6 x7) σ 121 [(0, .ref (xm_sb (xx_G X))), (1, .ref (xm_ad (xx_G X) 1)), (2, .ref (xm_ad (xx_G X) 84)), (3, .ref (xm_ad (xx_G X) 86)), (4, .ref (xm_ad (xx_G X) 87)), (5, .ref (xm_ad (xx_G X) 88)), (6, .int (xm_J x6)), (7, .int (xm_J x7))] []) (σ : xm_Mem) (x6 : Int) (x7 : Int) (h6 : xm_in x6) (h7 : xm_in x7) : xm_VL X 0 (f_L_law_b121 cl K406 self σ x6 x7) σ 121 [(0, .ref (xm_sb (xx_G X))), (1, .ref (xm_ad (xx_G X) 1)), (2, .ref (xm_ad (xx_G X) 84)), (3, .ref (xm_ad (xx_G X) 86)), (4, .ref (xm_ad (xx_G X) 87)), (5, .ref (xm_ad (xx_G X) 88)), (6, .int (xm_J x6)), (7, .int (xm_J x7))] [] := by
  unfold f_L_law_b121
  refine xg_inL (fun hz => ?_)
  refine xg_iload hC dL_law_121 rfl ?_
  refine xg_bipush hC dL_law_123 (by decide) ?_
  refine xg_icmp_ge hC h7 (xm_inc _ rfl) 406 dL_law_125 rfl (fun c1 => ?_) (fun c2 => ?_)
  · refine xg_aload_n hC dL_law_128 rfl ?_
    refine xg_iload hC dL_law_129 rfl ?_
    refine xg_guard (fun k3 => ?_)
    refine xg_callS1 hC (ml_cellI hL k3) xl_M_L_95 xl_S_L_cell (by decide) ⟨by omega, by omega⟩ dL_law_131 (rest := []) rfl rfl (Nat.le_of_ble_eq_true rfl) rfl rfl (st2 := fun o => [.int (xm_J o.2)] ++ []) (fun _ => rfl) (fun _ => ?_)
    refine xg_sg (σ2 := σ) rfl (st2 := [.int (xm_J (cl x7.toNat))]) rfl ?_
    refine xg_vI (xm_LWin hL _) (fun v4 k5 => ?_)
    refine xg_istore hC (l' := [(8, .int (xm_J v4)), (0, .ref (xm_sb (xx_G X))), (1, .ref (xm_ad (xx_G X) 1)), (2, .ref (xm_ad (xx_G X) 84)), (3, .ref (xm_ad (xx_G X) 86)), (4, .ref (xm_ad (xx_G X) 87)), (5, .ref (xm_ad (xx_G X) 88)), (6, .int (xm_J x6)), (7, .int (xm_J x7))]) dL_law_134 (by decide) rfl ?_
    refine xg_iload hC dL_law_136 rfl ?_
    refine xg_iconst hC dL_law_138 ?_
    refine xg_ishr hC dL_law_139 ?_
    refine xg_iload hC dL_law_140 rfl ?_
    refine xg_guard (fun k6 => ?_)
    refine xg_callS1 hC (ml_lowI (xm_shr_in _ _) k6) xl_M_L_99 xl_S_L_low (by decide) ⟨by omega, by omega⟩ dL_law_142 (rest := []) rfl rfl (Nat.le_of_ble_eq_true rfl) rfl rfl (st2 := fun o => [.int (xm_J o.2)] ++ []) (fun _ => rfl) (fun _ => ?_)
    refine xg_sg (σ2 := σ) rfl (st2 := [.int (xm_J (xm_rem (xm_and (xm_shr v4 (4 : Int)) 2147483647) x6))]) rfl ?_
    refine xg_vI (xm_rem_in _ _) (fun v7 k8 => ?_)
    refine xg_istore hC (l' := [(9, .int (xm_J v7)), (8, .int (xm_J v4)), (0, .ref (xm_sb (xx_G X))), (1, .ref (xm_ad (xx_G X) 1)), (2, .ref (xm_ad (xx_G X) 84)), (3, .ref (xm_ad (xx_G X) 86)), (4, .ref (xm_ad (xx_G X) 87)), (5, .ref (xm_ad (xx_G X) 88)), (6, .int (xm_J x6)), (7, .int (xm_J x7))]) dL_law_145 (by decide) rfl ?_
    refine xg_aload hC dL_law_147 rfl ?_
    refine xg_iload hC dL_law_149 rfl ?_
    refine xg_iald hC (xm_hK hI rfl) rfl k8 dL_law_151 (fun b9 k10 => ?_)
    refine xg_sipush hC dL_law_152 (by decide) ?_
    refine xg_iadd hC dL_law_155 ?_
    refine xg_iload hC dL_law_156 rfl ?_
    refine xg_bipush hC dL_law_158 (by decide) ?_
    refine xg_ishr hC dL_law_160 ?_
    refine xg_sipush hC dL_law_161 (by decide) ?_
    refine xg_guard (fun k11 => ?_)
    refine xg_callS1 hC (ml_lowI (xm_shr_in _ _) k11) xl_M_L_99 xl_S_L_low (by decide) ⟨by omega, by omega⟩ dL_law_164 (rest := [.int (xm_J (xm_w ((σ.1 87 v7.toNat) + (4300 : Int))))]) rfl rfl (Nat.le_of_ble_eq_true rfl) rfl rfl (st2 := fun o => [.int (xm_J o.2)] ++ [.int (xm_J (xm_w ((σ.1 87 v7.toNat) + (4300 : Int))))]) (fun _ => rfl) (fun _ => ?_)
    refine xg_sg (σ2 := σ) rfl (st2 := [.int (xm_J (xm_rem (xm_and (xm_shr v4 (12 : Int)) 2147483647) (9000 : Int))), .int (xm_J (xm_w ((σ.1 87 v7.toNat) + (4300 : Int))))]) rfl ?_
    refine xg_iadd hC dL_law_167 ?_
    refine xg_vI (xm_w_in _) (fun v12 k13 => ?_)
    refine xg_istore hC (l' := [(10, .int (xm_J v12)), (9, .int (xm_J v7)), (8, .int (xm_J v4)), (0, .ref (xm_sb (xx_G X))), (1, .ref (xm_ad (xx_G X) 1)), (2, .ref (xm_ad (xx_G X) 84)), (3, .ref (xm_ad (xx_G X) 86)), (4, .ref (xm_ad (xx_G X) 87)), (5, .ref (xm_ad (xx_G X) 88)), (6, .int (xm_J x6)), (7, .int (xm_J x7))]) dL_law_168 (by decide) rfl ?_
    refine xg_iload hC dL_law_170 rfl ?_
    refine xg_ldc hC dL_law_172 xl_C_L_103 ?_
    refine xg_icmp_le hC k13 (xm_inc _ rfl) 180 dL_law_174 rfl (fun c14 => ?_) (fun c15 => ?_)
    · refine xg_goto hC 400 dL_law_177 rfl ?_
      refine xg_iinc hC (l' := [(7, .int (xm_J (xm_w (x7 + 1)))), (10, .int (xm_J v12)), (9, .int (xm_J v7)), (8, .int (xm_J v4)), (0, .ref (xm_sb (xx_G X))), (1, .ref (xm_ad (xx_G X) 1)), (2, .ref (xm_ad (xx_G X) 84)), (3, .ref (xm_ad (xx_G X) 86)), (4, .ref (xm_ad (xx_G X) 87)), (5, .ref (xm_ad (xx_G X) 88)), (6, .int (xm_J x6))]) dL_law_400 (by decide) 10 rfl rfl ?_
      refine xg_goto hC 121 dL_law_403 rfl ?_
      exact xg_pick [4, 5, 6, 7, 8, 9, 10, 0] rfl (xg_toL (by omega) (by omega) (by omega) (hself σ x6 (xm_w (x7 + 1)) h6 (xm_w_in _)))
    refine xg_aload_n hC dL_law_180 rfl ?_
    refine xg_iload hC dL_law_181 rfl ?_
    refine xg_iload hC dL_law_183 rfl ?_
    refine xg_sipush hC dL_law_185 (by decide) ?_
    refine xg_isub hC dL_law_188 ?_
    refine xg_callV hC (ci := 9) (w_X10_partner hI σ v7 (xm_w (v12 - (200 : Int))) k8 (xm_w_in _)) xl_M_L_104 xl_V_X10_partner (xm_hK (a := 1) (kd := 0) (n := 9) hI rfl).2 ((xm_hK (a := 1) (kd := 0) (n := 9) hI rfl).1 _) (by decide) rfl (by decide) ⟨by omega, by omega⟩ dL_law_189 (rest := []) rfl rfl (Nat.le_of_ble_eq_true rfl) rfl rfl (st2 := fun o => .int (xm_J o.2) :: []) (fun _ => rfl) (fun o16 k17 => ?_)
    refine xg_guard (fun z18 => ?_)
    refine xg_istore hC (l' := [(11, .int (xm_J o16.2)), (10, .int (xm_J v12)), (9, .int (xm_J v7)), (8, .int (xm_J v4)), (0, .ref (xm_sb (xx_G X))), (1, .ref (xm_ad (xx_G X) 1)), (2, .ref (xm_ad (xx_G X) 84)), (3, .ref (xm_ad (xx_G X) 86)), (4, .ref (xm_ad (xx_G X) 87)), (5, .ref (xm_ad (xx_G X) 88)), (6, .int (xm_J x6)), (7, .int (xm_J x7))]) dL_law_192 (by decide) rfl ?_
    refine xg_iload hC dL_law_194 rfl ?_
    refine xg_if_ge hC k17 323 dL_law_196 rfl (fun c19 => ?_) (fun c20 => ?_)
    · refine xg_iload hC dL_law_199 rfl ?_
      refine xg_istore hC (l' := [(11, .int (xm_J x6)), (10, .int (xm_J v12)), (9, .int (xm_J v7)), (8, .int (xm_J v4)), (0, .ref (xm_sb (xx_G X))), (1, .ref (xm_ad (xx_G X) 1)), (2, .ref (xm_ad (xx_G X) 84)), (3, .ref (xm_ad (xx_G X) 86)), (4, .ref (xm_ad (xx_G X) 87)), (5, .ref (xm_ad (xx_G X) 88)), (6, .int (xm_J x6)), (7, .int (xm_J x7))]) dL_law_201 (by decide) rfl ?_
      refine xg_aload hC dL_law_203 rfl ?_
      refine xg_iload hC dL_law_205 rfl ?_
      refine xg_aload hC dL_law_207 rfl ?_
      refine xg_iload hC dL_law_209 rfl ?_
      refine xg_iald hC (xm_hK hI rfl) rfl k8 dL_law_211 (fun b21 k22 => ?_)
      refine xg_iast hC (xm_hK hI rfl) rfl h6 k22 (xm_kpF hI rfl) dL_law_212 ?_
      refine xg_stE (n := (o16.1).2.2) rfl (fun σ23 z24 => ?_)
      refine xg_aload hC dL_law_213 rfl ?_
      refine xg_iload hC dL_law_215 rfl ?_
      refine xg_aload hC dL_law_217 rfl ?_
      refine xg_iload hC dL_law_219 rfl ?_
      refine xg_zald hC (xm_hK hI rfl) rfl k8 dL_law_221 (fun b25 k26 => ?_)
      refine xg_if_ne hC (xm_in01 k26) 229 dL_law_222 rfl (fun c27 => ?_) (fun c28 => ?_)
      · refine xg_iconst hC dL_law_225 ?_
        refine xg_goto hC 230 dL_law_226 rfl ?_
        exact xg_pick [4, 5, 6, 7, 8, 9, 10, 11, 3, 2, 1, 0] rfl (xg_toL (by omega) (by omega) (by omega) (w_L_law_j230 hC hI hL hself σ23 (1 : Int) x6 x6 x7 v4 v7 v12 x6 (by decide) h6 h6 h7 k5 k8 k13 h6))
      refine xg_iconst hC dL_law_229 ?_
      exact xg_pick [4, 5, 6, 7, 8, 9, 10, 11, 3, 2, 1, 0] rfl (xg_toL (by omega) (by omega) (by omega) (w_L_law_j230 hC hI hL hself σ23 (0 : Int) x6 x6 x7 v4 v7 v12 x6 (by decide) h6 h6 h7 k5 k8 k13 h6))
    exact xg_pick [4, 5, 6, 7, 8, 9, 10, 11, 3, 2, 1, 0] rfl (xg_toL (by omega) (by omega) (by omega) (w_L_law_j323 hC hI hL hself o16.1 x6 x7 v4 v7 v12 o16.2 h6 h7 k5 k8 k13 k17))
  exact xg_pick [0, 1, 2, 3, 4, 6] rfl (xg_toL (by omega) (by omega) (by omega) (hK406 σ x6 h6))
theorem w_L_law_l121 {X : xm_X} {cl : Nat → Int} (hC : xm_C X RL cL_law 17 12 600000 7302250) (hI : xx_I X = xm_I) (hL : xm_LW X cl) {K406 : xm_Mem → Int → Option xm_Out} (hK406 : ∀ (σ : xm_Mem) (x6 : Int), xm_in x6 → xm_VL X 0 (K406 σ x6) σ 406 [(0, .ref (xm_sb (xx_G X))), (1, .ref (xm_ad (xx_G X) 1)), (2, .ref (xm_ad (xx_G X) 84)), (3, .ref (xm_ad (xx_G X) 86)), (4, .ref (xm_ad (xx_G X) 87)), (6, .int (xm_J x6))] []) (n : Nat) : ∀ (σ : xm_Mem) (x6 : Int) (x7 : Int), xm_in x6 → xm_in x7 → xm_VL X 0 (f_L_law_l121 cl K406 n σ x6 x7) σ 121 [(0, .ref (xm_sb (xx_G X))), (1, .ref (xm_ad (xx_G X) 1)), (2, .ref (xm_ad (xx_G X) 84)), (3, .ref (xm_ad (xx_G X) 86)), (4, .ref (xm_ad (xx_G X) 87)), (5, .ref (xm_ad (xx_G X) 88)), (6, .int (xm_J x6)), (7, .int (xm_J x7))] [] := by
  induction n with
  | zero => intro σ x6 x7 h6 h7; exact xg_noneL
  | succ n ih => intro σ x6 x7 h6 h7; exact w_L_law_b121 hC hI hL hK406 ih σ x6 x7 h6 h7
theorem w_L_law_b462 {X : xm_X} {cl : Nat → Int} (hC : xm_C X RL cL_law 17 12 600000 7302250) (hI : xx_I X = xm_I) (hL : xm_LW X cl) {K548 : xm_Mem → Int → Option xm_Out} (hK548 : ∀ (σ : xm_Mem) (x7 : Int), xm_in x7 → xm_VL X 0 (K548 σ x7) σ 548 [(1, .ref (xm_ad (xx_G X) 1)), (2, .ref (xm_ad (xx_G X) 84)), (7, .int (xm_J x7))] []) {self : xm_Mem → Int → Int → Int → Option xm_Out} (hself : ∀ (σ : xm_Mem) (x6 : Int) (x7 : Int) (x8 : Int), xm_in x6 → xm_in x7 → xm_in x8 → xm_VL X 0 (self σ x6 x7 x8) σ 462 [(0, .ref (xm_sb (xx_G X))), (1, .ref (xm_ad (xx_G X) 1)), (2, .ref (xm_ad (xx_G X) 84)), (4, .ref (xm_ad (xx_G X) 87)), (6, .int (xm_J x6)), (7, .int (xm_J x7)), (8, .int (xm_J x8))] []) (σ : xm_Mem) (x6 : Int) (x7 : Int) (x8 : Int) (h6 : xm_in x6) (h7 : xm_in x7) (h8 : xm_in x8) : xm_VL X 0 (f_L_law_b462 cl K548 self σ x6 x7 x8) σ 462 [(0, .ref (xm_sb (xx_G X))), (1, .ref (xm_ad (xx_G X) 1)), (2, .ref (xm_ad (xx_G X) 84)), (4, .ref (xm_ad (xx_G X) 87)), (6, .int (xm_J x6)), (7, .int (xm_J x7)), (8, .int (xm_J x8))] [] := by
  unfold f_L_law_b462
  refine xg_inL (fun hz => ?_)
  refine xg_iload hC dL_law_462 rfl ?_
  refine xg_bipush hC dL_law_464 (by decide) ?_
  refine xg_icmp_ge hC h8 (xm_inc _ rfl) 548 dL_law_466 rfl (fun c110 => ?_) (fun c111 => ?_)
  · refine xg_aload_n hC dL_law_469 rfl ?_
    refine xg_bipush hC dL_law_470 (by decide) ?_
    refine xg_iload hC dL_law_472 rfl ?_
    refine xg_iadd hC dL_law_474 ?_
    refine xg_guard (fun k112 => ?_)
    refine xg_callS1 hC (ml_cellI hL k112) xl_M_L_95 xl_S_L_cell (by decide) ⟨by omega, by omega⟩ dL_law_475 (rest := []) rfl rfl (Nat.le_of_ble_eq_true rfl) rfl rfl (st2 := fun o => [.int (xm_J o.2)] ++ []) (fun _ => rfl) (fun _ => ?_)
    refine xg_sg (σ2 := σ) rfl (st2 := [.int (xm_J (cl (xm_w ((12 : Int) + x8)).toNat))]) rfl ?_
    refine xg_vI (xm_LWin hL _) (fun v113 k114 => ?_)
    refine xg_istore hC (l' := [(9, .int (xm_J v113)), (0, .ref (xm_sb (xx_G X))), (1, .ref (xm_ad (xx_G X) 1)), (2, .ref (xm_ad (xx_G X) 84)), (4, .ref (xm_ad (xx_G X) 87)), (6, .int (xm_J x6)), (7, .int (xm_J x7)), (8, .int (xm_J x8))]) dL_law_478 (by decide) rfl ?_
    refine xg_iload hC dL_law_480 rfl ?_
    refine xg_iconst hC dL_law_482 ?_
    refine xg_ishr hC dL_law_483 ?_
    refine xg_iload hC dL_law_484 rfl ?_
    refine xg_guard (fun k115 => ?_)
    refine xg_callS1 hC (ml_lowI (xm_shr_in _ _) k115) xl_M_L_99 xl_S_L_low (by decide) ⟨by omega, by omega⟩ dL_law_486 (rest := []) rfl rfl (Nat.le_of_ble_eq_true rfl) rfl rfl (st2 := fun o => [.int (xm_J o.2)] ++ []) (fun _ => rfl) (fun _ => ?_)
    refine xg_sg (σ2 := σ) rfl (st2 := [.int (xm_J (xm_rem (xm_and (xm_shr v113 (3 : Int)) 2147483647) x6))]) rfl ?_
    refine xg_vI (xm_rem_in _ _) (fun v116 k117 => ?_)
    refine xg_istore hC (l' := [(10, .int (xm_J v116)), (9, .int (xm_J v113)), (0, .ref (xm_sb (xx_G X))), (1, .ref (xm_ad (xx_G X) 1)), (2, .ref (xm_ad (xx_G X) 84)), (4, .ref (xm_ad (xx_G X) 87)), (6, .int (xm_J x6)), (7, .int (xm_J x7)), (8, .int (xm_J x8))]) dL_law_489 (by decide) rfl ?_
    refine xg_aload_n hC dL_law_491 rfl ?_
    refine xg_aload_n hC dL_law_492 rfl ?_
    refine xg_ldcS hC (i := 112) (id := 3) (by decide) dL_law_493 ?_
    refine xg_ldc hC dL_law_495 xl_C_L_114 ?_
    refine xg_aload hC dL_law_497 rfl ?_
    refine xg_iload hC dL_law_499 rfl ?_
    refine xg_iald hC (xm_hK hI rfl) rfl k117 dL_law_501 (fun b118 k119 => ?_)
    refine xg_iload hC dL_law_502 rfl ?_
    refine xg_bipush hC dL_law_504 (by decide) ?_
    refine xg_ishr hC dL_law_506 ?_
    refine xg_ldc hC dL_law_507 xl_C_L_114 ?_
    refine xg_guard (fun k120 => ?_)
    refine xg_callS1 hC (ml_lowI (xm_shr_in _ _) k120) xl_M_L_99 xl_S_L_low (by decide) ⟨by omega, by omega⟩ dL_law_509 (rest := [.int (xm_J (σ.1 87 v116.toNat)), .int (xm_J (95000 : Int)), .ref (xm_adK (xx_G X) 3), .ref (xm_ad (xx_G X) 84), .ref (xm_ad (xx_G X) 1)]) rfl rfl (Nat.le_of_ble_eq_true rfl) rfl rfl (st2 := fun o => [.int (xm_J o.2)] ++ [.int (xm_J (σ.1 87 v116.toNat)), .int (xm_J (95000 : Int)), .ref (xm_adK (xx_G X) 3), .ref (xm_ad (xx_G X) 84), .ref (xm_ad (xx_G X) 1)]) (fun _ => rfl) (fun _ => ?_)
    refine xg_sg (σ2 := σ) rfl (st2 := [.int (xm_J (xm_rem (xm_and (xm_shr v113 (8 : Int)) 2147483647) (95000 : Int))), .int (xm_J (σ.1 87 v116.toNat)), .int (xm_J (95000 : Int)), .ref (xm_adK (xx_G X) 3), .ref (xm_ad (xx_G X) 84), .ref (xm_ad (xx_G X) 1)]) rfl ?_
    refine xg_iadd hC dL_law_512 ?_
    refine xg_min hC (xm_inc _ rfl) (xm_w_in _) (by decide) xl_M_L_115 ⟨by omega, by omega⟩ (Nat.le_of_ble_eq_true rfl) dL_law_513 ?_
    refine xg_iload hC dL_law_516 rfl ?_
    refine xg_iconst hC dL_law_518 ?_
    refine @xg_ite _ _ _ _ _ _ _ _ _ _ (Classical.propDecidable _) (fun k121 => ?_) (fun _ => xg_none)
    refine xg_callS1 hC (ml_textI (i := 3) (by decide) (by decide) (xm_JIX hI) k121) xl_M_L_91 xl_S_L_text (by decide) ⟨by omega, by omega⟩ dL_law_519 (rest := [.ref (xm_ad (xx_G X) 1)]) rfl rfl (Nat.le_of_ble_eq_true rfl) rfl rfl (st2 := fun o => [.ref (xm_ad (xx_G X) 84)] ++ [.ref (xm_ad (xx_G X) 1)]) (fun _ => rfl) (fun _ => ?_)
    refine xg_sg (σ2 := xm_aps σ 89 0 (xm_tP 3 (xm_min (95000 : Int) (xm_w ((σ.1 87 v116.toNat) + (xm_rem (xm_and (xm_shr v113 (8 : Int)) 2147483647) (95000 : Int))))).toNat v116.toNat (-1 : Int))) rfl (st2 := [.ref (xm_ad (xx_G X) 84), .ref (xm_ad (xx_G X) 1)]) rfl ?_
    refine xg_stE (n := (σ).2.2) (xm_aps_2 _ _ _ _) (fun σ122 z123 => ?_)
    refine xg_callS hC (w_L_tell hI σ122) xl_M_L_85 xl_S_L_tell (by decide) ⟨by omega, by omega⟩ dL_law_522 (rest := []) rfl rfl (Nat.le_of_ble_eq_true rfl) rfl rfl (st2 := fun o => .int (xm_J o.2) :: []) (fun _ => rfl) (fun o124 k125 => ?_)
    refine xg_guard (fun z126 => ?_)
    refine xg_istore hC (l' := [(11, .int (xm_J o124.2)), (10, .int (xm_J v116)), (9, .int (xm_J v113)), (0, .ref (xm_sb (xx_G X))), (1, .ref (xm_ad (xx_G X) 1)), (2, .ref (xm_ad (xx_G X) 84)), (4, .ref (xm_ad (xx_G X) 87)), (6, .int (xm_J x6)), (7, .int (xm_J x7)), (8, .int (xm_J x8))]) dL_law_525 (by decide) rfl ?_
    refine xg_iload hC dL_law_527 rfl ?_
    refine xg_if_ge hC k125 542 dL_law_529 rfl (fun c127 => ?_) (fun c128 => ?_)
    · refine xg_aload_n hC dL_law_532 rfl ?_
      refine xg_callV hC (ci := 9) (w_X10_status hI o124.1 ) xl_M_L_120 xl_V_X10_status (xm_hK (a := 1) (kd := 0) (n := 9) hI rfl).2 ((xm_hK (a := 1) (kd := 0) (n := 9) hI rfl).1 _) (by decide) rfl (by decide) ⟨by omega, by omega⟩ dL_law_533 (rest := []) rfl rfl (Nat.le_of_ble_eq_true rfl) rfl rfl (st2 := fun o => .int (xm_J o.2) :: []) (fun _ => rfl) (fun o129 k130 => ?_)
      refine xg_guard (fun z131 => ?_)
      refine xg_iconst hC dL_law_536 ?_
      refine xg_icmp_eq hC k130 (xm_inc _ rfl) 542 dL_law_537 rfl (fun c132 => ?_) (fun c133 => ?_)
      · refine xg_iinc hC (l' := [(8, .int (xm_J (xm_w (x8 + 1)))), (11, .int (xm_J o124.2)), (10, .int (xm_J v116)), (9, .int (xm_J v113)), (0, .ref (xm_sb (xx_G X))), (1, .ref (xm_ad (xx_G X) 1)), (2, .ref (xm_ad (xx_G X) 84)), (4, .ref (xm_ad (xx_G X) 87)), (6, .int (xm_J x6)), (7, .int (xm_J x7))]) dL_law_542 (by decide) 9 rfl rfl ?_
        refine xg_goto hC 462 dL_law_545 rfl ?_
        exact xg_pick [4, 5, 6, 7, 8, 9, 0] rfl (xg_toL (by omega) (by omega) (by omega) (hself o129.1 x6 x7 (xm_w (x8 + 1)) h6 h7 (xm_w_in _)))
      refine xg_iconst hC dL_law_540 ?_
      exact xg_none
    refine xg_iinc hC (l' := [(8, .int (xm_J (xm_w (x8 + 1)))), (11, .int (xm_J o124.2)), (10, .int (xm_J v116)), (9, .int (xm_J v113)), (0, .ref (xm_sb (xx_G X))), (1, .ref (xm_ad (xx_G X) 1)), (2, .ref (xm_ad (xx_G X) 84)), (4, .ref (xm_ad (xx_G X) 87)), (6, .int (xm_J x6)), (7, .int (xm_J x7))]) dL_law_542 (by decide) 9 rfl rfl ?_
    refine xg_goto hC 462 dL_law_545 rfl ?_
    exact xg_pick [4, 5, 6, 7, 8, 9, 0] rfl (xg_toL (by omega) (by omega) (by omega) (hself o124.1 x6 x7 (xm_w (x8 + 1)) h6 h7 (xm_w_in _)))
  exact xg_pick [1, 2, 5] rfl (xg_toL (by omega) (by omega) (by omega) (hK548 σ x7 h7))
theorem w_L_law_l462 {X : xm_X} {cl : Nat → Int} (hC : xm_C X RL cL_law 17 12 600000 7302250) (hI : xx_I X = xm_I) (hL : xm_LW X cl) {K548 : xm_Mem → Int → Option xm_Out} (hK548 : ∀ (σ : xm_Mem) (x7 : Int), xm_in x7 → xm_VL X 0 (K548 σ x7) σ 548 [(1, .ref (xm_ad (xx_G X) 1)), (2, .ref (xm_ad (xx_G X) 84)), (7, .int (xm_J x7))] []) (n : Nat) : ∀ (σ : xm_Mem) (x6 : Int) (x7 : Int) (x8 : Int), xm_in x6 → xm_in x7 → xm_in x8 → xm_VL X 0 (f_L_law_l462 cl K548 n σ x6 x7 x8) σ 462 [(0, .ref (xm_sb (xx_G X))), (1, .ref (xm_ad (xx_G X) 1)), (2, .ref (xm_ad (xx_G X) 84)), (4, .ref (xm_ad (xx_G X) 87)), (6, .int (xm_J x6)), (7, .int (xm_J x7)), (8, .int (xm_J x8))] [] := by
  induction n with
  | zero => intro σ x6 x7 x8 h6 h7 h8; exact xg_noneL
  | succ n ih => intro σ x6 x7 x8 h6 h7 h8; exact w_L_law_b462 hC hI hL hK548 ih σ x6 x7 x8 h6 h7 h8
theorem w_L_law_b572 {X : xm_X} {cl : Nat → Int} (hC : xm_C X RL cL_law 17 12 600000 7302250) (hI : xx_I X = xm_I) (hL : xm_LW X cl) {K634 : xm_Mem → Int → Int → Int → Option xm_Out} (hK634 : ∀ (σ : xm_Mem) (x7 : Int) (x8 : Int) (x10 : Int), xm_in x7 → xm_in x8 → xm_in x10 → xm_VL X 1 (K634 σ x7 x8 x10) σ 634 [(1, .ref (xm_ad (xx_G X) 1)), (2, .ref (xm_ad (xx_G X) 84)), (7, .int (xm_J x7)), (8, .int (xm_J x8)), (9, .ref (xm_ad (xx_G X) 110)), (10, .int (xm_J x10))] []) {self : xm_Mem → Int → Int → Int → Int → Option xm_Out} (hself : ∀ (σ : xm_Mem) (x7 : Int) (x8 : Int) (x10 : Int) (x11 : Int), xm_in x7 → xm_in x8 → xm_in x10 → xm_in x11 → xm_VL X 1 (self σ x7 x8 x10 x11) σ 572 [(1, .ref (xm_ad (xx_G X) 1)), (2, .ref (xm_ad (xx_G X) 84)), (7, .int (xm_J x7)), (8, .int (xm_J x8)), (9, .ref (xm_ad (xx_G X) 110)), (10, .int (xm_J x10)), (11, .int (xm_J x11))] []) (σ : xm_Mem) (x7 : Int) (x8 : Int) (x10 : Int) (x11 : Int) (h7 : xm_in x7) (h8 : xm_in x8) (h10 : xm_in x10) (h11 : xm_in x11) : xm_VL X 1 (f_L_law_b572 cl K634 self σ x7 x8 x10 x11) σ 572 [(1, .ref (xm_ad (xx_G X) 1)), (2, .ref (xm_ad (xx_G X) 84)), (7, .int (xm_J x7)), (8, .int (xm_J x8)), (9, .ref (xm_ad (xx_G X) 110)), (10, .int (xm_J x10)), (11, .int (xm_J x11))] [] := by
  unfold f_L_law_b572
  refine xg_inL (fun hz => ?_)
  refine xg_iload hC dL_law_572 rfl ?_
  refine xg_if_lt hC h11 634 dL_law_574 rfl (fun c141 => ?_) (fun c142 => ?_)
  · exact xg_pick [0, 1, 2, 3, 4, 5] rfl (xg_toL (by omega) (by omega) (by omega) (hK634 σ x7 x8 x10 h7 h8 h10))
  refine xg_iload hC dL_law_577 rfl ?_
  refine xg_bipush hC dL_law_579 (by decide) ?_
  refine xg_icmp_ge hC h10 (xm_inc _ rfl) 634 dL_law_581 rfl (fun c143 => ?_) (fun c144 => ?_)
  · refine xg_aload_n hC dL_law_584 rfl ?_
    refine xg_iconst hC dL_law_585 ?_
    refine xg_iload hC dL_law_586 rfl ?_
    refine xg_iload hC dL_law_588 rfl ?_
    refine xg_callV hC (ci := 9) (w_X10_rank hI σ (0 : Int) x11 x8 (xm_inc _ rfl) h11 h8) xl_M_L_128 xl_V_X10_rank (xm_hK (a := 1) (kd := 0) (n := 9) hI rfl).2 ((xm_hK (a := 1) (kd := 0) (n := 9) hI rfl).1 _) (by decide) rfl (by decide) ⟨by omega, by omega⟩ dL_law_590 (rest := []) rfl rfl (Nat.le_of_ble_eq_true rfl) rfl rfl (st2 := fun o => .int (xm_J o.2) :: []) (fun _ => rfl) (fun o145 k146 => ?_)
    refine xg_guard (fun z147 => ?_)
    refine xg_iload hC dL_law_593 rfl ?_
    refine xg_icmp_ne hC k146 h10 608 dL_law_595 rfl (fun c148 => ?_) (fun c149 => ?_)
    · refine xg_aload_n hC dL_law_598 rfl ?_
      refine xg_iload hC dL_law_599 rfl ?_
      refine xg_iconst hC dL_law_601 ?_
      refine xg_callV hC (ci := 9) (w_X10_person hI o145.1 x11 (4 : Int) h11 (xm_inc _ rfl)) xl_M_L_131 xl_V_X10_person (xm_hK (a := 1) (kd := 0) (n := 9) hI rfl).2 ((xm_hK (a := 1) (kd := 0) (n := 9) hI rfl).1 _) (by decide) rfl (by decide) ⟨by omega, by omega⟩ dL_law_602 (rest := []) rfl rfl (Nat.le_of_ble_eq_true rfl) rfl rfl (st2 := fun o => .int (xm_J o.2) :: []) (fun _ => rfl) (fun o150 k151 => ?_)
      refine xg_guard (fun z152 => ?_)
      refine xg_if_lt hC k151 610 dL_law_605 rfl (fun c153 => ?_) (fun c154 => ?_)
      · refine xg_aload hC dL_law_610 rfl ?_
        refine xg_iload hC dL_law_612 rfl ?_
        refine xg_iload hC dL_law_614 rfl ?_
        refine xg_liast hC (xm_h110 hI) h10 h11 (xm_kpF hI rfl) dL_law_616 ?_
        refine xg_stE (n := (o150.1).2.2) rfl (fun σ155 z156 => ?_)
        refine xg_iinc hC (l' := [(10, .int (xm_J (xm_w (x10 + 1)))), (1, .ref (xm_ad (xx_G X) 1)), (2, .ref (xm_ad (xx_G X) 84)), (7, .int (xm_J x7)), (8, .int (xm_J x8)), (9, .ref (xm_ad (xx_G X) 110)), (11, .int (xm_J x11))]) dL_law_617 (by decide) 5 rfl rfl ?_
        refine xg_aload_n hC dL_law_620 rfl ?_
        refine xg_iconst hC dL_law_621 ?_
        refine xg_iload hC dL_law_622 rfl ?_
        refine xg_iload hC dL_law_624 rfl ?_
        refine xg_callV hC (ci := 9) (w_X10_line hI σ155 (0 : Int) x8 (xm_w (x10 + 1)) (xm_inc _ rfl) h8 (xm_w_in _)) xl_M_L_124 xl_V_X10_line (xm_hK (a := 1) (kd := 0) (n := 9) hI rfl).2 ((xm_hK (a := 1) (kd := 0) (n := 9) hI rfl).1 _) (by decide) rfl (by decide) ⟨by omega, by omega⟩ dL_law_626 (rest := []) rfl rfl (Nat.le_of_ble_eq_true rfl) rfl rfl (st2 := fun o => .int (xm_J o.2) :: []) (fun _ => rfl) (fun o157 k158 => ?_)
        refine xg_guard (fun z159 => ?_)
        refine xg_istore hC (l' := [(11, .int (xm_J o157.2)), (10, .int (xm_J (xm_w (x10 + 1)))), (1, .ref (xm_ad (xx_G X) 1)), (2, .ref (xm_ad (xx_G X) 84)), (7, .int (xm_J x7)), (8, .int (xm_J x8)), (9, .ref (xm_ad (xx_G X) 110))]) dL_law_629 (by decide) rfl ?_
        refine xg_goto hC 572 dL_law_631 rfl ?_
        exact xg_pick [2, 3, 4, 5, 6, 1, 0] rfl (xg_toL (by omega) (by omega) (by omega) (hself o157.1 x7 x8 (xm_w (x10 + 1)) o157.2 h7 h8 (xm_w_in _) k158))
      refine xg_iconst hC dL_law_608 ?_
      exact xg_none
    refine xg_iconst hC dL_law_608 ?_
    exact xg_none
  exact xg_pick [0, 1, 2, 3, 4, 5] rfl (xg_toL (by omega) (by omega) (by omega) (hK634 σ x7 x8 x10 h7 h8 h10))
theorem w_L_law_l572 {X : xm_X} {cl : Nat → Int} (hC : xm_C X RL cL_law 17 12 600000 7302250) (hI : xx_I X = xm_I) (hL : xm_LW X cl) {K634 : xm_Mem → Int → Int → Int → Option xm_Out} (hK634 : ∀ (σ : xm_Mem) (x7 : Int) (x8 : Int) (x10 : Int), xm_in x7 → xm_in x8 → xm_in x10 → xm_VL X 1 (K634 σ x7 x8 x10) σ 634 [(1, .ref (xm_ad (xx_G X) 1)), (2, .ref (xm_ad (xx_G X) 84)), (7, .int (xm_J x7)), (8, .int (xm_J x8)), (9, .ref (xm_ad (xx_G X) 110)), (10, .int (xm_J x10))] []) (n : Nat) : ∀ (σ : xm_Mem) (x7 : Int) (x8 : Int) (x10 : Int) (x11 : Int), xm_in x7 → xm_in x8 → xm_in x10 → xm_in x11 → xm_VL X 1 (f_L_law_l572 cl K634 n σ x7 x8 x10 x11) σ 572 [(1, .ref (xm_ad (xx_G X) 1)), (2, .ref (xm_ad (xx_G X) 84)), (7, .int (xm_J x7)), (8, .int (xm_J x8)), (9, .ref (xm_ad (xx_G X) 110)), (10, .int (xm_J x10)), (11, .int (xm_J x11))] [] := by
  induction n with
  | zero => intro σ x7 x8 x10 x11 h7 h8 h10 h11; exact xg_noneL
  | succ n ih => intro σ x7 x8 x10 x11 h7 h8 h10 h11; exact w_L_law_b572 hC hI hL hK634 ih σ x7 x8 x10 x11 h7 h8 h10 h11
theorem w_L_law_b665 {X : xm_X} {cl : Nat → Int} (hC : xm_C X RL cL_law 17 12 600000 7302250) (hI : xx_I X = xm_I) (hL : xm_LW X cl) {K688 : xm_Mem → Int → Int → Int → Int → Int → Int → Int → Int → Option xm_Out} (hK688 : ∀ (σ : xm_Mem) (x7 : Int) (x8 : Int) (x10 : Int) (x11 : Int) (x12 : Int) (x13 : Int) (x14 : Int) (x15 : Int), xm_in x7 → xm_in x8 → xm_in x10 → xm_in x11 → xm_in x12 → xm_in x13 → xm_in x14 → xm_in x15 → xm_VL X 1 (K688 σ x7 x8 x10 x11 x12 x13 x14 x15) σ 688 [(1, .ref (xm_ad (xx_G X) 1)), (2, .ref (xm_ad (xx_G X) 84)), (7, .int (xm_J x7)), (8, .int (xm_J x8)), (9, .ref (xm_ad (xx_G X) 110)), (10, .int (xm_J x10)), (11, .int (xm_J x11)), (12, .int (xm_J x12)), (13, .int (xm_J x13)), (14, .int (xm_J x14)), (15, .int (xm_J x15))] []) {self : xm_Mem → Int → Int → Int → Int → Int → Int → Int → Int → Option xm_Out} (hself : ∀ (σ : xm_Mem) (x7 : Int) (x8 : Int) (x10 : Int) (x11 : Int) (x12 : Int) (x13 : Int) (x14 : Int) (x15 : Int), xm_in x7 → xm_in x8 → xm_in x10 → xm_in x11 → xm_in x12 → xm_in x13 → xm_in x14 → xm_in x15 → xm_VL X 1 (self σ x7 x8 x10 x11 x12 x13 x14 x15) σ 665 [(1, .ref (xm_ad (xx_G X) 1)), (2, .ref (xm_ad (xx_G X) 84)), (7, .int (xm_J x7)), (8, .int (xm_J x8)), (9, .ref (xm_ad (xx_G X) 110)), (10, .int (xm_J x10)), (11, .int (xm_J x11)), (12, .int (xm_J x12)), (13, .int (xm_J x13)), (14, .int (xm_J x14)), (15, .int (xm_J x15))] []) (σ : xm_Mem) (x7 : Int) (x8 : Int) (x10 : Int) (x11 : Int) (x12 : Int) (x13 : Int) (x14 : Int) (x15 : Int) (h7 : xm_in x7) (h8 : xm_in x8) (h10 : xm_in x10) (h11 : xm_in x11) (h12 : xm_in x12) (h13 : xm_in x13) (h14 : xm_in x14) (h15 : xm_in x15) : xm_VL X 1 (f_L_law_b665 cl K688 self σ x7 x8 x10 x11 x12 x13 x14 x15) σ 665 [(1, .ref (xm_ad (xx_G X) 1)), (2, .ref (xm_ad (xx_G X) 84)), (7, .int (xm_J x7)), (8, .int (xm_J x8)), (9, .ref (xm_ad (xx_G X) 110)), (10, .int (xm_J x10)), (11, .int (xm_J x11)), (12, .int (xm_J x12)), (13, .int (xm_J x13)), (14, .int (xm_J x14)), (15, .int (xm_J x15))] [] := by
  unfold f_L_law_b665
  refine xg_inL (fun hz => ?_)
  refine xg_iload hC dL_law_665 rfl ?_
  refine xg_iload hC dL_law_667 rfl ?_
  refine xg_icmp_ge hC h15 h10 688 dL_law_669 rfl (fun c169 => ?_) (fun c170 => ?_)
  · refine xg_aload hC dL_law_672 rfl ?_
    refine xg_iload hC dL_law_674 rfl ?_
    refine xg_liald hC (xm_h110 hI) h15 dL_law_676 (fun b171 k172 => ?_)
    refine xg_iload hC dL_law_677 rfl ?_
    refine xg_icmp_eq hC k172 h12 688 dL_law_679 rfl (fun c173 => ?_) (fun c174 => ?_)
    · exact (xg_toL (by omega) (by omega) (by omega) (hK688 σ x7 x8 x10 x11 x12 x13 x14 x15 h7 h8 h10 h11 h12 h13 h14 h15))
    refine xg_iinc hC (l' := [(15, .int (xm_J (xm_w (x15 + 1)))), (1, .ref (xm_ad (xx_G X) 1)), (2, .ref (xm_ad (xx_G X) 84)), (7, .int (xm_J x7)), (8, .int (xm_J x8)), (9, .ref (xm_ad (xx_G X) 110)), (10, .int (xm_J x10)), (11, .int (xm_J x11)), (12, .int (xm_J x12)), (13, .int (xm_J x13)), (14, .int (xm_J x14))]) dL_law_682 (by decide) 10 rfl rfl ?_
    refine xg_goto hC 665 dL_law_685 rfl ?_
    exact xg_pick [1, 2, 3, 4, 5, 6, 7, 8, 9, 10, 0] rfl (xg_toL (by omega) (by omega) (by omega) (hself σ x7 x8 x10 x11 x12 x13 x14 (xm_w (x15 + 1)) h7 h8 h10 h11 h12 h13 h14 (xm_w_in _)))
  exact (xg_toL (by omega) (by omega) (by omega) (hK688 σ x7 x8 x10 x11 x12 x13 x14 x15 h7 h8 h10 h11 h12 h13 h14 h15))
theorem w_L_law_l665 {X : xm_X} {cl : Nat → Int} (hC : xm_C X RL cL_law 17 12 600000 7302250) (hI : xx_I X = xm_I) (hL : xm_LW X cl) {K688 : xm_Mem → Int → Int → Int → Int → Int → Int → Int → Int → Option xm_Out} (hK688 : ∀ (σ : xm_Mem) (x7 : Int) (x8 : Int) (x10 : Int) (x11 : Int) (x12 : Int) (x13 : Int) (x14 : Int) (x15 : Int), xm_in x7 → xm_in x8 → xm_in x10 → xm_in x11 → xm_in x12 → xm_in x13 → xm_in x14 → xm_in x15 → xm_VL X 1 (K688 σ x7 x8 x10 x11 x12 x13 x14 x15) σ 688 [(1, .ref (xm_ad (xx_G X) 1)), (2, .ref (xm_ad (xx_G X) 84)), (7, .int (xm_J x7)), (8, .int (xm_J x8)), (9, .ref (xm_ad (xx_G X) 110)), (10, .int (xm_J x10)), (11, .int (xm_J x11)), (12, .int (xm_J x12)), (13, .int (xm_J x13)), (14, .int (xm_J x14)), (15, .int (xm_J x15))] []) (n : Nat) : ∀ (σ : xm_Mem) (x7 : Int) (x8 : Int) (x10 : Int) (x11 : Int) (x12 : Int) (x13 : Int) (x14 : Int) (x15 : Int), xm_in x7 → xm_in x8 → xm_in x10 → xm_in x11 → xm_in x12 → xm_in x13 → xm_in x14 → xm_in x15 → xm_VL X 1 (f_L_law_l665 cl K688 n σ x7 x8 x10 x11 x12 x13 x14 x15) σ 665 [(1, .ref (xm_ad (xx_G X) 1)), (2, .ref (xm_ad (xx_G X) 84)), (7, .int (xm_J x7)), (8, .int (xm_J x8)), (9, .ref (xm_ad (xx_G X) 110)), (10, .int (xm_J x10)), (11, .int (xm_J x11)), (12, .int (xm_J x12)), (13, .int (xm_J x13)), (14, .int (xm_J x14)), (15, .int (xm_J x15))] [] := by
  induction n with
  | zero => intro σ x7 x8 x10 x11 x12 x13 x14 x15 h7 h8 h10 h11 h12 h13 h14 h15; exact xg_noneL
  | succ n ih => intro σ x7 x8 x10 x11 x12 x13 x14 x15 h7 h8 h10 h11 h12 h13 h14 h15; exact w_L_law_b665 hC hI hL hK688 ih σ x7 x8 x10 x11 x12 x13 x14 x15 h7 h8 h10 h11 h12 h13 h14 h15
theorem w_L_law_b725 {X : xm_X} {cl : Nat → Int} (hC : xm_C X RL cL_law 17 12 600000 7302250) (hI : xx_I X = xm_I) (hL : xm_LW X cl) {K750 : xm_Mem → Int → Int → Int → Int → Int → Int → Option xm_Out} (hK750 : ∀ (σ : xm_Mem) (x7 : Int) (x8 : Int) (x10 : Int) (x11 : Int) (x13 : Int) (x14 : Int), xm_in x7 → xm_in x8 → xm_in x10 → xm_in x11 → xm_in x13 → xm_in x14 → xm_VL X 1 (K750 σ x7 x8 x10 x11 x13 x14) σ 750 [(1, .ref (xm_ad (xx_G X) 1)), (2, .ref (xm_ad (xx_G X) 84)), (7, .int (xm_J x7)), (8, .int (xm_J x8)), (9, .ref (xm_ad (xx_G X) 110)), (10, .int (xm_J x10)), (11, .int (xm_J x11)), (13, .int (xm_J x13)), (14, .int (xm_J x14))] []) {self : xm_Mem → Int → Int → Int → Int → Int → Int → Int → Option xm_Out} (hself : ∀ (σ : xm_Mem) (x7 : Int) (x8 : Int) (x10 : Int) (x11 : Int) (x13 : Int) (x14 : Int) (x16 : Int), xm_in x7 → xm_in x8 → xm_in x10 → xm_in x11 → xm_in x13 → xm_in x14 → xm_in x16 → xm_VL X 1 (self σ x7 x8 x10 x11 x13 x14 x16) σ 725 [(1, .ref (xm_ad (xx_G X) 1)), (2, .ref (xm_ad (xx_G X) 84)), (7, .int (xm_J x7)), (8, .int (xm_J x8)), (9, .ref (xm_ad (xx_G X) 110)), (10, .int (xm_J x10)), (11, .int (xm_J x11)), (13, .int (xm_J x13)), (14, .int (xm_J x14)), (16, .int (xm_J x16))] []) (σ : xm_Mem) (x7 : Int) (x8 : Int) (x10 : Int) (x11 : Int) (x13 : Int) (x14 : Int) (x16 : Int) (h7 : xm_in x7) (h8 : xm_in x8) (h10 : xm_in x10) (h11 : xm_in x11) (h13 : xm_in x13) (h14 : xm_in x14) (h16 : xm_in x16) : xm_VL X 1 (f_L_law_b725 cl K750 self σ x7 x8 x10 x11 x13 x14 x16) σ 725 [(1, .ref (xm_ad (xx_G X) 1)), (2, .ref (xm_ad (xx_G X) 84)), (7, .int (xm_J x7)), (8, .int (xm_J x8)), (9, .ref (xm_ad (xx_G X) 110)), (10, .int (xm_J x10)), (11, .int (xm_J x11)), (13, .int (xm_J x13)), (14, .int (xm_J x14)), (16, .int (xm_J x16))] [] := by
  unfold f_L_law_b725
  refine xg_inL (fun hz => ?_)
  refine xg_iload hC dL_law_725 rfl ?_
  refine xg_iload hC dL_law_727 rfl ?_
  refine xg_icmp_ge hC h16 h10 750 dL_law_729 rfl (fun c186 => ?_) (fun c187 => ?_)
  · refine xg_aload hC dL_law_732 rfl ?_
    refine xg_iload hC dL_law_734 rfl ?_
    refine xg_aload hC dL_law_736 rfl ?_
    refine xg_iload hC dL_law_738 rfl ?_
    refine xg_iconst hC dL_law_740 ?_
    refine xg_iadd hC dL_law_741 ?_
    refine xg_vI (xm_w_in _) (fun v188 k189 => ?_)
    refine xg_liald hC (xm_h110 hI) k189 dL_law_742 (fun b190 k191 => ?_)
    refine xg_liast hC (xm_h110 hI) h16 k191 (xm_kpF hI rfl) dL_law_743 ?_
    refine xg_stE (n := (σ).2.2) rfl (fun σ192 z193 => ?_)
    refine xg_iinc hC (l' := [(16, .int (xm_J (xm_w (x16 + 1)))), (1, .ref (xm_ad (xx_G X) 1)), (2, .ref (xm_ad (xx_G X) 84)), (7, .int (xm_J x7)), (8, .int (xm_J x8)), (9, .ref (xm_ad (xx_G X) 110)), (10, .int (xm_J x10)), (11, .int (xm_J x11)), (13, .int (xm_J x13)), (14, .int (xm_J x14))]) dL_law_744 (by decide) 9 rfl rfl ?_
    refine xg_goto hC 725 dL_law_747 rfl ?_
    exact xg_pick [1, 2, 3, 4, 5, 6, 7, 8, 9, 0] rfl (xg_toL (by omega) (by omega) (by omega) (hself σ192 x7 x8 x10 x11 x13 x14 (xm_w (x16 + 1)) h7 h8 h10 h11 h13 h14 (xm_w_in _)))
  exact xg_pick [0, 1, 2, 3, 4, 5, 6, 7, 8] rfl (xg_toL (by omega) (by omega) (by omega) (hK750 σ x7 x8 x10 x11 x13 x14 h7 h8 h10 h11 h13 h14))
theorem w_L_law_l725 {X : xm_X} {cl : Nat → Int} (hC : xm_C X RL cL_law 17 12 600000 7302250) (hI : xx_I X = xm_I) (hL : xm_LW X cl) {K750 : xm_Mem → Int → Int → Int → Int → Int → Int → Option xm_Out} (hK750 : ∀ (σ : xm_Mem) (x7 : Int) (x8 : Int) (x10 : Int) (x11 : Int) (x13 : Int) (x14 : Int), xm_in x7 → xm_in x8 → xm_in x10 → xm_in x11 → xm_in x13 → xm_in x14 → xm_VL X 1 (K750 σ x7 x8 x10 x11 x13 x14) σ 750 [(1, .ref (xm_ad (xx_G X) 1)), (2, .ref (xm_ad (xx_G X) 84)), (7, .int (xm_J x7)), (8, .int (xm_J x8)), (9, .ref (xm_ad (xx_G X) 110)), (10, .int (xm_J x10)), (11, .int (xm_J x11)), (13, .int (xm_J x13)), (14, .int (xm_J x14))] []) (n : Nat) : ∀ (σ : xm_Mem) (x7 : Int) (x8 : Int) (x10 : Int) (x11 : Int) (x13 : Int) (x14 : Int) (x16 : Int), xm_in x7 → xm_in x8 → xm_in x10 → xm_in x11 → xm_in x13 → xm_in x14 → xm_in x16 → xm_VL X 1 (f_L_law_l725 cl K750 n σ x7 x8 x10 x11 x13 x14 x16) σ 725 [(1, .ref (xm_ad (xx_G X) 1)), (2, .ref (xm_ad (xx_G X) 84)), (7, .int (xm_J x7)), (8, .int (xm_J x8)), (9, .ref (xm_ad (xx_G X) 110)), (10, .int (xm_J x10)), (11, .int (xm_J x11)), (13, .int (xm_J x13)), (14, .int (xm_J x14)), (16, .int (xm_J x16))] [] := by
  induction n with
  | zero => intro σ x7 x8 x10 x11 x13 x14 x16 h7 h8 h10 h11 h13 h14 h16; exact xg_noneL
  | succ n ih => intro σ x7 x8 x10 x11 x13 x14 x16 h7 h8 h10 h11 h13 h14 h16; exact w_L_law_b725 hC hI hL hK750 ih σ x7 x8 x10 x11 x13 x14 x16 h7 h8 h10 h11 h13 h14 h16
theorem w_L_law_b816 {X : xm_X} {cl : Nat → Int} (hC : xm_C X RL cL_law 17 12 600000 7302250) (hI : xx_I X = xm_I) (hL : xm_LW X cl) {K851 : xm_Mem → Int → Int → Int → Int → Int → Int → Int → Option xm_Out} (hK851 : ∀ (σ : xm_Mem) (x7 : Int) (x8 : Int) (x10 : Int) (x11 : Int) (x12 : Int) (x13 : Int) (x14 : Int), xm_in x7 → xm_in x8 → xm_in x10 → xm_in x11 → xm_in x12 → xm_in x13 → xm_in x14 → xm_VL X 1 (K851 σ x7 x8 x10 x11 x12 x13 x14) σ 851 [(1, .ref (xm_ad (xx_G X) 1)), (2, .ref (xm_ad (xx_G X) 84)), (7, .int (xm_J x7)), (8, .int (xm_J x8)), (9, .ref (xm_ad (xx_G X) 110)), (10, .int (xm_J x10)), (11, .int (xm_J x11)), (12, .int (xm_J x12)), (13, .int (xm_J x13)), (14, .int (xm_J x14))] []) {self : xm_Mem → Int → Int → Int → Int → Int → Int → Int → Int → Option xm_Out} (hself : ∀ (σ : xm_Mem) (x7 : Int) (x8 : Int) (x10 : Int) (x11 : Int) (x12 : Int) (x13 : Int) (x14 : Int) (x16 : Int), xm_in x7 → xm_in x8 → xm_in x10 → xm_in x11 → xm_in x12 → xm_in x13 → xm_in x14 → xm_in x16 → xm_VL X 1 (self σ x7 x8 x10 x11 x12 x13 x14 x16) σ 816 [(1, .ref (xm_ad (xx_G X) 1)), (2, .ref (xm_ad (xx_G X) 84)), (7, .int (xm_J x7)), (8, .int (xm_J x8)), (9, .ref (xm_ad (xx_G X) 110)), (10, .int (xm_J x10)), (11, .int (xm_J x11)), (12, .int (xm_J x12)), (13, .int (xm_J x13)), (14, .int (xm_J x14)), (16, .int (xm_J x16))] []) (σ : xm_Mem) (x7 : Int) (x8 : Int) (x10 : Int) (x11 : Int) (x12 : Int) (x13 : Int) (x14 : Int) (x16 : Int) (h7 : xm_in x7) (h8 : xm_in x8) (h10 : xm_in x10) (h11 : xm_in x11) (h12 : xm_in x12) (h13 : xm_in x13) (h14 : xm_in x14) (h16 : xm_in x16) : xm_VL X 1 (f_L_law_b816 cl K851 self σ x7 x8 x10 x11 x12 x13 x14 x16) σ 816 [(1, .ref (xm_ad (xx_G X) 1)), (2, .ref (xm_ad (xx_G X) 84)), (7, .int (xm_J x7)), (8, .int (xm_J x8)), (9, .ref (xm_ad (xx_G X) 110)), (10, .int (xm_J x10)), (11, .int (xm_J x11)), (12, .int (xm_J x12)), (13, .int (xm_J x13)), (14, .int (xm_J x14)), (16, .int (xm_J x16))] [] := by
  unfold f_L_law_b816
  refine xg_inL (fun hz => ?_)
  refine xg_iload hC dL_law_816 rfl ?_
  refine xg_iload hC dL_law_818 rfl ?_
  refine xg_icmp_ge hC h16 h10 851 dL_law_820 rfl (fun c212 => ?_) (fun c213 => ?_)
  · refine xg_aload_n hC dL_law_823 rfl ?_
    refine xg_iconst hC dL_law_824 ?_
    refine xg_iload hC dL_law_825 rfl ?_
    refine xg_iload hC dL_law_827 rfl ?_
    refine xg_iadd hC dL_law_829 ?_
    refine xg_iload hC dL_law_830 rfl ?_
    refine xg_callV hC (ci := 9) (w_X10_line hI σ (0 : Int) (xm_w (x8 + x14)) x16 (xm_inc _ rfl) (xm_w_in _) h16) xl_M_L_124 xl_V_X10_line (xm_hK (a := 1) (kd := 0) (n := 9) hI rfl).2 ((xm_hK (a := 1) (kd := 0) (n := 9) hI rfl).1 _) (by decide) rfl (by decide) ⟨by omega, by omega⟩ dL_law_832 (rest := []) rfl rfl (Nat.le_of_ble_eq_true rfl) rfl rfl (st2 := fun o => .int (xm_J o.2) :: []) (fun _ => rfl) (fun o214 k215 => ?_)
    refine xg_guard (fun z216 => ?_)
    refine xg_aload hC dL_law_835 rfl ?_
    refine xg_iload hC dL_law_837 rfl ?_
    refine xg_liald hC (xm_h110 hI) h16 dL_law_839 (fun b217 k218 => ?_)
    refine xg_icmp_eq hC k215 k218 845 dL_law_840 rfl (fun c219 => ?_) (fun c220 => ?_)
    · refine xg_iinc hC (l' := [(16, .int (xm_J (xm_w (x16 + 1)))), (1, .ref (xm_ad (xx_G X) 1)), (2, .ref (xm_ad (xx_G X) 84)), (7, .int (xm_J x7)), (8, .int (xm_J x8)), (9, .ref (xm_ad (xx_G X) 110)), (10, .int (xm_J x10)), (11, .int (xm_J x11)), (12, .int (xm_J x12)), (13, .int (xm_J x13)), (14, .int (xm_J x14))]) dL_law_845 (by decide) 10 rfl rfl ?_
      refine xg_goto hC 816 dL_law_848 rfl ?_
      exact xg_pick [1, 2, 3, 4, 5, 6, 7, 8, 9, 10, 0] rfl (xg_toL (by omega) (by omega) (by omega) (hself o214.1 x7 x8 x10 x11 x12 x13 x14 (xm_w (x16 + 1)) h7 h8 h10 h11 h12 h13 h14 (xm_w_in _)))
    refine xg_iconst hC dL_law_843 ?_
    exact xg_none
  exact xg_pick [0, 1, 2, 3, 4, 5, 6, 7, 8, 9] rfl (xg_toL (by omega) (by omega) (by omega) (hK851 σ x7 x8 x10 x11 x12 x13 x14 h7 h8 h10 h11 h12 h13 h14))
theorem w_L_law_l816 {X : xm_X} {cl : Nat → Int} (hC : xm_C X RL cL_law 17 12 600000 7302250) (hI : xx_I X = xm_I) (hL : xm_LW X cl) {K851 : xm_Mem → Int → Int → Int → Int → Int → Int → Int → Option xm_Out} (hK851 : ∀ (σ : xm_Mem) (x7 : Int) (x8 : Int) (x10 : Int) (x11 : Int) (x12 : Int) (x13 : Int) (x14 : Int), xm_in x7 → xm_in x8 → xm_in x10 → xm_in x11 → xm_in x12 → xm_in x13 → xm_in x14 → xm_VL X 1 (K851 σ x7 x8 x10 x11 x12 x13 x14) σ 851 [(1, .ref (xm_ad (xx_G X) 1)), (2, .ref (xm_ad (xx_G X) 84)), (7, .int (xm_J x7)), (8, .int (xm_J x8)), (9, .ref (xm_ad (xx_G X) 110)), (10, .int (xm_J x10)), (11, .int (xm_J x11)), (12, .int (xm_J x12)), (13, .int (xm_J x13)), (14, .int (xm_J x14))] []) (n : Nat) : ∀ (σ : xm_Mem) (x7 : Int) (x8 : Int) (x10 : Int) (x11 : Int) (x12 : Int) (x13 : Int) (x14 : Int) (x16 : Int), xm_in x7 → xm_in x8 → xm_in x10 → xm_in x11 → xm_in x12 → xm_in x13 → xm_in x14 → xm_in x16 → xm_VL X 1 (f_L_law_l816 cl K851 n σ x7 x8 x10 x11 x12 x13 x14 x16) σ 816 [(1, .ref (xm_ad (xx_G X) 1)), (2, .ref (xm_ad (xx_G X) 84)), (7, .int (xm_J x7)), (8, .int (xm_J x8)), (9, .ref (xm_ad (xx_G X) 110)), (10, .int (xm_J x10)), (11, .int (xm_J x11)), (12, .int (xm_J x12)), (13, .int (xm_J x13)), (14, .int (xm_J x14)), (16, .int (xm_J x16))] [] := by
  induction n with
  | zero => intro σ x7 x8 x10 x11 x12 x13 x14 x16 h7 h8 h10 h11 h12 h13 h14 h16; exact xg_noneL
  | succ n ih => intro σ x7 x8 x10 x11 x12 x13 x14 x16 h7 h8 h10 h11 h12 h13 h14 h16; exact w_L_law_b816 hC hI hL hK851 ih σ x7 x8 x10 x11 x12 x13 x14 x16 h7 h8 h10 h11 h12 h13 h14 h16
theorem w_L_law_j763 {X : xm_X} {cl : Nat → Int} (hC : xm_C X RL cL_law 17 12 600000 7302250) (hI : xx_I X = xm_I) (hL : xm_LW X cl) {K657 : xm_Mem → Int → Int → Int → Int → Int → Int → Int → Option xm_Out} (hK657 : ∀ (σ : xm_Mem) (x7 : Int) (x8 : Int) (x10 : Int) (x11 : Int) (x12 : Int) (x13 : Int) (x14 : Int), xm_in x7 → xm_in x8 → xm_in x10 → xm_in x11 → xm_in x12 → xm_in x13 → xm_in x14 → xm_VL X 1 (K657 σ x7 x8 x10 x11 x12 x13 x14) σ 657 [(1, .ref (xm_ad (xx_G X) 1)), (2, .ref (xm_ad (xx_G X) 84)), (7, .int (xm_J x7)), (8, .int (xm_J x8)), (9, .ref (xm_ad (xx_G X) 110)), (10, .int (xm_J x10)), (11, .int (xm_J x11)), (12, .int (xm_J x12)), (13, .int (xm_J x13)), (14, .int (xm_J x14))] []) (σ : xm_Mem) (s0 : Int) (x7 : Int) (x8 : Int) (x10 : Int) (x11 : Int) (x13 : Int) (x14 : Int) (g0 : xm_in s0) (h7 : xm_in x7) (h8 : xm_in x8) (h10 : xm_in x10) (h11 : xm_in x11) (h13 : xm_in x13) (h14 : xm_in x14) : xm_VL X 1 (f_L_law_j763 cl K657 σ s0 x7 x8 x10 x11 x13 x14) σ 763 [(1, .ref (xm_ad (xx_G X) 1)), (2, .ref (xm_ad (xx_G X) 84)), (7, .int (xm_J x7)), (8, .int (xm_J x8)), (9, .ref (xm_ad (xx_G X) 110)), (10, .int (xm_J x10)), (11, .int (xm_J x11)), (13, .int (xm_J x13)), (14, .int (xm_J x14))] [.int (xm_J s0)] := by
  unfold f_L_law_j763
  refine xg_inL (fun hz => ?_)
  refine xg_istore hC (l' := [(12, .int (xm_J s0)), (1, .ref (xm_ad (xx_G X) 1)), (2, .ref (xm_ad (xx_G X) 84)), (7, .int (xm_J x7)), (8, .int (xm_J x8)), (9, .ref (xm_ad (xx_G X) 110)), (10, .int (xm_J x10)), (11, .int (xm_J x11)), (13, .int (xm_J x13)), (14, .int (xm_J x14))]) dL_law_763 (by decide) rfl ?_
  refine xg_aload_n hC dL_law_765 rfl ?_
  refine xg_iconst hC dL_law_766 ?_
  refine xg_iload hC dL_law_767 rfl ?_
  refine xg_iload hC dL_law_769 rfl ?_
  refine xg_iadd hC dL_law_771 ?_
  refine xg_callV hC (ci := 9) (w_X10_holder hI σ (0 : Int) (xm_w (x8 + x14)) (xm_inc _ rfl) (xm_w_in _)) xl_M_L_137 xl_V_X10_holder (xm_hK (a := 1) (kd := 0) (n := 9) hI rfl).2 ((xm_hK (a := 1) (kd := 0) (n := 9) hI rfl).1 _) (by decide) rfl (by decide) ⟨by omega, by omega⟩ dL_law_772 (rest := []) rfl rfl (Nat.le_of_ble_eq_true rfl) rfl rfl (st2 := fun o => .int (xm_J o.2) :: []) (fun _ => rfl) (fun o197 k198 => ?_)
  refine xg_guard (fun z199 => ?_)
  refine xg_iload hC dL_law_775 rfl ?_
  refine xg_icmp_ne hC k198 g0 811 dL_law_777 rfl (fun c200 => ?_) (fun c201 => ?_)
  · refine xg_aload_n hC dL_law_780 rfl ?_
    refine xg_iconst hC dL_law_781 ?_
    refine xg_iload hC dL_law_782 rfl ?_
    refine xg_iload hC dL_law_784 rfl ?_
    refine xg_iadd hC dL_law_786 ?_
    refine xg_callV hC (ci := 9) (w_X10_since hI o197.1 (0 : Int) (xm_w (x8 + x14)) (xm_inc _ rfl) (xm_w_in _)) xl_M_L_140 xl_V_X10_since (xm_hK (a := 1) (kd := 0) (n := 9) hI rfl).2 ((xm_hK (a := 1) (kd := 0) (n := 9) hI rfl).1 _) (by decide) rfl (by decide) ⟨by omega, by omega⟩ dL_law_787 (rest := []) rfl rfl (Nat.le_of_ble_eq_true rfl) rfl rfl (st2 := fun o => .int (xm_J o.2) :: []) (fun _ => rfl) (fun o202 k203 => ?_)
    refine xg_guard (fun z204 => ?_)
    refine xg_iload hC dL_law_790 rfl ?_
    refine xg_iload hC dL_law_792 rfl ?_
    refine xg_iadd hC dL_law_794 ?_
    refine xg_icmp_ne hC k203 (xm_w_in _) 811 dL_law_795 rfl (fun c205 => ?_) (fun c206 => ?_)
    · refine xg_aload_n hC dL_law_798 rfl ?_
      refine xg_iconst hC dL_law_799 ?_
      refine xg_callV hC (ci := 9) (w_X10_tenures hI o202.1 (0 : Int) (xm_inc _ rfl)) xl_M_L_134 xl_V_X10_tenures (xm_hK (a := 1) (kd := 0) (n := 9) hI rfl).2 ((xm_hK (a := 1) (kd := 0) (n := 9) hI rfl).1 _) (by decide) rfl (by decide) ⟨by omega, by omega⟩ dL_law_800 (rest := []) rfl rfl (Nat.le_of_ble_eq_true rfl) rfl rfl (st2 := fun o => .int (xm_J o.2) :: []) (fun _ => rfl) (fun o207 k208 => ?_)
      refine xg_guard (fun z209 => ?_)
      refine xg_iload hC dL_law_803 rfl ?_
      refine xg_iload hC dL_law_805 rfl ?_
      refine xg_iadd hC dL_law_807 ?_
      refine xg_icmp_eq hC k208 (xm_w_in _) 813 dL_law_808 rfl (fun c210 => ?_) (fun c211 => ?_)
      · refine xg_iconst hC dL_law_813 ?_
        refine xg_istore hC (l' := [(16, .int (xm_J (0 : Int))), (12, .int (xm_J s0)), (1, .ref (xm_ad (xx_G X) 1)), (2, .ref (xm_ad (xx_G X) 84)), (7, .int (xm_J x7)), (8, .int (xm_J x8)), (9, .ref (xm_ad (xx_G X) 110)), (10, .int (xm_J x10)), (11, .int (xm_J x11)), (13, .int (xm_J x13)), (14, .int (xm_J x14))]) dL_law_814 (by decide) rfl ?_
        refine xg_pick [2, 3, 4, 5, 6, 7, 8, 1, 9, 10, 0] rfl (xg_toL (by omega) (by omega) (by omega) (w_L_law_l816 hC hI hL ?_ _ o207.1 x7 x8 x10 x11 s0 x13 x14 (0 : Int) h7 h8 h10 h11 g0 h13 h14 (xm_inc _ rfl)))
        intro σ_221 x7_221 x8_221 x10_221 x11_221 x12_221 x13_221 x14_221 h7_221 h8_221 h10_221 h11_221 h12_221 h13_221 h14_221
        refine xg_inL (fun hz => ?_)
        refine xg_aload_n hC dL_law_851 rfl ?_
        refine xg_iconst hC dL_law_852 ?_
        refine xg_iload hC dL_law_853 rfl ?_
        refine xg_iload hC dL_law_855 rfl ?_
        refine xg_iadd hC dL_law_857 ?_
        refine xg_iload hC dL_law_858 rfl ?_
        refine xg_callV hC (ci := 9) (w_X10_line hI σ_221 (0 : Int) (xm_w (x8_221 + x14_221)) x10_221 (xm_inc _ rfl) (xm_w_in _) h10_221) xl_M_L_124 xl_V_X10_line (xm_hK (a := 1) (kd := 0) (n := 9) hI rfl).2 ((xm_hK (a := 1) (kd := 0) (n := 9) hI rfl).1 _) (by decide) rfl (by decide) ⟨by omega, by omega⟩ dL_law_860 (rest := []) rfl rfl (Nat.le_of_ble_eq_true rfl) rfl rfl (st2 := fun o => .int (xm_J o.2) :: []) (fun _ => rfl) (fun o222 k223 => ?_)
        refine xg_guard (fun z224 => ?_)
        refine xg_bipush hC dL_law_863 (by decide) ?_
        refine xg_icmp_eq hC k223 (xm_inc _ rfl) 870 dL_law_865 rfl (fun c225 => ?_) (fun c226 => ?_)
        · refine xg_iinc hC (l' := [(14, .int (xm_J (xm_w (x14_221 + 1)))), (1, .ref (xm_ad (xx_G X) 1)), (2, .ref (xm_ad (xx_G X) 84)), (7, .int (xm_J x7_221)), (8, .int (xm_J x8_221)), (9, .ref (xm_ad (xx_G X) 110)), (10, .int (xm_J x10_221)), (11, .int (xm_J x11_221)), (12, .int (xm_J x12_221)), (13, .int (xm_J x13_221))]) dL_law_870 (by decide) 9 rfl rfl ?_
          refine xg_goto hC 657 dL_law_873 rfl ?_
          exact xg_pick [1, 2, 3, 4, 5, 6, 7, 8, 9, 0] rfl (xg_toL (by omega) (by omega) (by omega) (hK657 o222.1 x7_221 x8_221 x10_221 x11_221 x12_221 x13_221 (xm_w (x14_221 + 1)) h7_221 h8_221 h10_221 h11_221 h12_221 h13_221 (xm_w_in _)))
        refine xg_iconst hC dL_law_868 ?_
        exact xg_none
      refine xg_iconst hC dL_law_811 ?_
      exact xg_none
    refine xg_iconst hC dL_law_811 ?_
    exact xg_none
  refine xg_iconst hC dL_law_811 ?_
  exact xg_none
theorem w_L_law_b657 {X : xm_X} {cl : Nat → Int} (hC : xm_C X RL cL_law 17 12 600000 7302250) (hI : xx_I X = xm_I) (hL : xm_LW X cl) {K876 : xm_Mem → Int → Int → Int → Int → Option xm_Out} (hK876 : ∀ (σ : xm_Mem) (x7 : Int) (x8 : Int) (x12 : Int) (x13 : Int), xm_in x7 → xm_in x8 → xm_in x12 → xm_in x13 → xm_VL X 1 (K876 σ x7 x8 x12 x13) σ 876 [(1, .ref (xm_ad (xx_G X) 1)), (7, .int (xm_J x7)), (8, .int (xm_J x8)), (12, .int (xm_J x12)), (13, .int (xm_J x13))] []) {self : xm_Mem → Int → Int → Int → Int → Int → Int → Int → Option xm_Out} (hself : ∀ (σ : xm_Mem) (x7 : Int) (x8 : Int) (x10 : Int) (x11 : Int) (x12 : Int) (x13 : Int) (x14 : Int), xm_in x7 → xm_in x8 → xm_in x10 → xm_in x11 → xm_in x12 → xm_in x13 → xm_in x14 → xm_VL X 1 (self σ x7 x8 x10 x11 x12 x13 x14) σ 657 [(1, .ref (xm_ad (xx_G X) 1)), (2, .ref (xm_ad (xx_G X) 84)), (7, .int (xm_J x7)), (8, .int (xm_J x8)), (9, .ref (xm_ad (xx_G X) 110)), (10, .int (xm_J x10)), (11, .int (xm_J x11)), (12, .int (xm_J x12)), (13, .int (xm_J x13)), (14, .int (xm_J x14))] []) (σ : xm_Mem) (x7 : Int) (x8 : Int) (x10 : Int) (x11 : Int) (x12 : Int) (x13 : Int) (x14 : Int) (h7 : xm_in x7) (h8 : xm_in x8) (h10 : xm_in x10) (h11 : xm_in x11) (h12 : xm_in x12) (h13 : xm_in x13) (h14 : xm_in x14) : xm_VL X 1 (f_L_law_b657 cl K876 self σ x7 x8 x10 x11 x12 x13 x14) σ 657 [(1, .ref (xm_ad (xx_G X) 1)), (2, .ref (xm_ad (xx_G X) 84)), (7, .int (xm_J x7)), (8, .int (xm_J x8)), (9, .ref (xm_ad (xx_G X) 110)), (10, .int (xm_J x10)), (11, .int (xm_J x11)), (12, .int (xm_J x12)), (13, .int (xm_J x13)), (14, .int (xm_J x14))] [] := by
  unfold f_L_law_b657
  refine xg_inL (fun hz => ?_)
  refine xg_iload hC dL_law_657 rfl ?_
  refine xg_if_le hC h10 876 dL_law_659 rfl (fun c167 => ?_) (fun c168 => ?_)
  · refine xg_iconst hC dL_law_662 ?_
    refine xg_istore hC (l' := [(15, .int (xm_J (0 : Int))), (1, .ref (xm_ad (xx_G X) 1)), (2, .ref (xm_ad (xx_G X) 84)), (7, .int (xm_J x7)), (8, .int (xm_J x8)), (9, .ref (xm_ad (xx_G X) 110)), (10, .int (xm_J x10)), (11, .int (xm_J x11)), (12, .int (xm_J x12)), (13, .int (xm_J x13)), (14, .int (xm_J x14))]) dL_law_663 (by decide) rfl ?_
    refine xg_pick [1, 2, 3, 4, 5, 6, 7, 8, 9, 10, 0] rfl (xg_toL (by omega) (by omega) (by omega) (w_L_law_l665 hC hI hL ?_ _ σ x7 x8 x10 x11 x12 x13 x14 (0 : Int) h7 h8 h10 h11 h12 h13 h14 (xm_inc _ rfl)))
    intro σ_175 x7_175 x8_175 x10_175 x11_175 x12_175 x13_175 x14_175 x15_175 h7_175 h8_175 h10_175 h11_175 h12_175 h13_175 h14_175 h15_175
    refine xg_inL (fun hz => ?_)
    refine xg_iload hC dL_law_688 rfl ?_
    refine xg_iload hC dL_law_690 rfl ?_
    refine xg_icmp_eq hC h15_175 h10_175 716 dL_law_692 rfl (fun c176 => ?_) (fun c177 => ?_)
    · refine xg_iconst hC dL_law_716 ?_
      exact xg_none
    refine xg_aload_n hC dL_law_695 rfl ?_
    refine xg_aload_n hC dL_law_696 rfl ?_
    refine xg_ldcS hC (i := 112) (id := 3) (by decide) dL_law_697 ?_
    refine xg_iload hC dL_law_699 rfl ?_
    refine xg_iload hC dL_law_701 rfl ?_
    refine xg_iadd hC dL_law_703 ?_
    refine xg_iload hC dL_law_704 rfl ?_
    refine xg_iconst hC dL_law_706 ?_
    refine @xg_ite _ _ _ _ _ _ _ _ _ _ (Classical.propDecidable _) (fun k178 => ?_) (fun _ => xg_none)
    refine xg_callS1 hC (ml_textI (i := 3) (by decide) (by decide) (xm_JIX hI) k178) xl_M_L_91 xl_S_L_text (by decide) ⟨by omega, by omega⟩ dL_law_707 (rest := [.ref (xm_ad (xx_G X) 1)]) rfl rfl (Nat.le_of_ble_eq_true rfl) rfl rfl (st2 := fun o => [.ref (xm_ad (xx_G X) 84)] ++ [.ref (xm_ad (xx_G X) 1)]) (fun _ => rfl) (fun _ => ?_)
    refine xg_sg (σ2 := xm_aps σ_175 89 0 (xm_tP 3 (xm_w (x8_175 + x14_175)).toNat x12_175.toNat (-1 : Int))) rfl (st2 := [.ref (xm_ad (xx_G X) 84), .ref (xm_ad (xx_G X) 1)]) rfl ?_
    refine xg_stE (n := (σ_175).2.2) (xm_aps_2 _ _ _ _) (fun σ179 z180 => ?_)
    refine xg_callS hC (w_L_tell hI σ179) xl_M_L_85 xl_S_L_tell (by decide) ⟨by omega, by omega⟩ dL_law_710 (rest := []) rfl rfl (Nat.le_of_ble_eq_true rfl) rfl rfl (st2 := fun o => .int (xm_J o.2) :: []) (fun _ => rfl) (fun o181 k182 => ?_)
    refine xg_guard (fun z183 => ?_)
    refine xg_if_ge hC k182 718 dL_law_713 rfl (fun c184 => ?_) (fun c185 => ?_)
    · refine xg_iconst hC dL_law_716 ?_
      exact xg_none
    refine xg_iinc hC (l' := [(10, .int (xm_J (xm_w (x10_175 + (-1))))), (1, .ref (xm_ad (xx_G X) 1)), (2, .ref (xm_ad (xx_G X) 84)), (7, .int (xm_J x7_175)), (8, .int (xm_J x8_175)), (9, .ref (xm_ad (xx_G X) 110)), (11, .int (xm_J x11_175)), (12, .int (xm_J x12_175)), (13, .int (xm_J x13_175)), (14, .int (xm_J x14_175)), (15, .int (xm_J x15_175))]) dL_law_718 (by decide) 5 rfl rfl ?_
    refine xg_iload hC dL_law_721 rfl ?_
    refine xg_istore hC (l' := [(16, .int (xm_J x15_175)), (10, .int (xm_J (xm_w (x10_175 + (-1))))), (1, .ref (xm_ad (xx_G X) 1)), (2, .ref (xm_ad (xx_G X) 84)), (7, .int (xm_J x7_175)), (8, .int (xm_J x8_175)), (9, .ref (xm_ad (xx_G X) 110)), (11, .int (xm_J x11_175)), (12, .int (xm_J x12_175)), (13, .int (xm_J x13_175)), (14, .int (xm_J x14_175)), (15, .int (xm_J x15_175))]) dL_law_723 (by decide) rfl ?_
    refine xg_pick [2, 3, 4, 5, 6, 1, 7, 9, 10, 0] rfl (xg_toL (by omega) (by omega) (by omega) (w_L_law_l725 hC hI hL ?_ _ o181.1 x7_175 x8_175 (xm_w (x10_175 + (-1))) x11_175 x13_175 x14_175 x15_175 h7_175 h8_175 (xm_w_in _) h11_175 h13_175 h14_175 h15_175))
    intro σ_194 x7_194 x8_194 x10_194 x11_194 x13_194 x14_194 h7_194 h8_194 h10_194 h11_194 h13_194 h14_194
    refine xg_inL (fun hz => ?_)
    refine xg_iload hC dL_law_750 rfl ?_
    refine xg_if_ne hC h10_194 759 dL_law_752 rfl (fun c195 => ?_) (fun c196 => ?_)
    · refine xg_iconst hC dL_law_755 ?_
      refine xg_goto hC 763 dL_law_756 rfl ?_
      exact (xg_toL (by omega) (by omega) (by omega) (w_L_law_j763 hC hI hL hself σ_194 (-1 : Int) x7_194 x8_194 x10_194 x11_194 x13_194 x14_194 (xm_inc _ rfl) h7_194 h8_194 h10_194 h11_194 h13_194 h14_194))
    refine xg_aload hC dL_law_759 rfl ?_
    refine xg_iconst hC dL_law_761 ?_
    refine xg_liald hC (xm_h110 hI) (xm_inc _ rfl) dL_law_762 (fun b227 k228 => ?_)
    exact (xg_toL (by omega) (by omega) (by omega) (w_L_law_j763 hC hI hL hself σ_194 (σ_194.1 110 (0 : Int).toNat) x7_194 x8_194 x10_194 x11_194 x13_194 x14_194 k228 h7_194 h8_194 h10_194 h11_194 h13_194 h14_194))
  exact xg_pick [0, 2, 3, 7, 8] rfl (xg_toL (by omega) (by omega) (by omega) (hK876 σ x7 x8 x12 x13 h7 h8 h12 h13))
theorem w_L_law_l657 {X : xm_X} {cl : Nat → Int} (hC : xm_C X RL cL_law 17 12 600000 7302250) (hI : xx_I X = xm_I) (hL : xm_LW X cl) {K876 : xm_Mem → Int → Int → Int → Int → Option xm_Out} (hK876 : ∀ (σ : xm_Mem) (x7 : Int) (x8 : Int) (x12 : Int) (x13 : Int), xm_in x7 → xm_in x8 → xm_in x12 → xm_in x13 → xm_VL X 1 (K876 σ x7 x8 x12 x13) σ 876 [(1, .ref (xm_ad (xx_G X) 1)), (7, .int (xm_J x7)), (8, .int (xm_J x8)), (12, .int (xm_J x12)), (13, .int (xm_J x13))] []) (n : Nat) : ∀ (σ : xm_Mem) (x7 : Int) (x8 : Int) (x10 : Int) (x11 : Int) (x12 : Int) (x13 : Int) (x14 : Int), xm_in x7 → xm_in x8 → xm_in x10 → xm_in x11 → xm_in x12 → xm_in x13 → xm_in x14 → xm_VL X 1 (f_L_law_l657 cl K876 n σ x7 x8 x10 x11 x12 x13 x14) σ 657 [(1, .ref (xm_ad (xx_G X) 1)), (2, .ref (xm_ad (xx_G X) 84)), (7, .int (xm_J x7)), (8, .int (xm_J x8)), (9, .ref (xm_ad (xx_G X) 110)), (10, .int (xm_J x10)), (11, .int (xm_J x11)), (12, .int (xm_J x12)), (13, .int (xm_J x13)), (14, .int (xm_J x14))] [] := by
  induction n with
  | zero => intro σ x7 x8 x10 x11 x12 x13 x14 h7 h8 h10 h11 h12 h13 h14; exact xg_noneL
  | succ n ih => intro σ x7 x8 x10 x11 x12 x13 x14 h7 h8 h10 h11 h12 h13 h14; exact w_L_law_b657 hC hI hL hK876 ih σ x7 x8 x10 x11 x12 x13 x14 h7 h8 h10 h11 h12 h13 h14
theorem w_L_law {X : xm_X} {cl : Nat → Int} (hC : xm_C X RL cL_law 17 12 600000 7302250) (hI : xx_I X = xm_I) (hL : xm_LW X cl) (σ : xm_Mem) : xm_VL X 0 (f_L_law cl σ) σ 115 [(0, .ref (xm_sb (xx_G X))), (1, .ref (xm_ad (xx_G X) 1)), (2, .ref (xm_ad (xx_G X) 84)), (3, .ref (xm_ad (xx_G X) 86)), (4, .ref (xm_ad (xx_G X) 87)), (5, .ref (xm_ad (xx_G X) 88))] [] := by
  unfold f_L_law
  refine xg_inL (fun hz => ?_)
  refine xg_iconst hC dL_law_115 ?_
  refine xg_istore hC (l' := [(6, .int (xm_J (2 : Int))), (0, .ref (xm_sb (xx_G X))), (1, .ref (xm_ad (xx_G X) 1)), (2, .ref (xm_ad (xx_G X) 84)), (3, .ref (xm_ad (xx_G X) 86)), (4, .ref (xm_ad (xx_G X) 87)), (5, .ref (xm_ad (xx_G X) 88))]) dL_law_116 (by decide) rfl ?_
  refine xg_iconst hC dL_law_118 ?_
  refine xg_istore hC (l' := [(7, .int (xm_J (0 : Int))), (6, .int (xm_J (2 : Int))), (0, .ref (xm_sb (xx_G X))), (1, .ref (xm_ad (xx_G X) 1)), (2, .ref (xm_ad (xx_G X) 84)), (3, .ref (xm_ad (xx_G X) 86)), (4, .ref (xm_ad (xx_G X) 87)), (5, .ref (xm_ad (xx_G X) 88))]) dL_law_119 (by decide) rfl ?_
  refine xg_pick [2, 3, 4, 5, 6, 7, 1, 0] rfl (xg_toL (by omega) (by omega) (by omega) (w_L_law_l121 hC hI hL ?_ _ σ (2 : Int) (0 : Int) (xm_inc _ rfl) (xm_inc _ rfl)))
  intro σ_88 x6_88 h6_88
  refine xg_inL (fun hz => ?_)
  refine xg_aload_n hC dL_law_406 rfl ?_
  refine xg_bipush hC dL_law_407 (by decide) ?_
  refine xg_guard (fun k89 => ?_)
  refine xg_callS1 hC (ml_cellI hL k89) xl_M_L_95 xl_S_L_cell (by decide) ⟨by omega, by omega⟩ dL_law_409 (rest := []) rfl rfl (Nat.le_of_ble_eq_true rfl) rfl rfl (st2 := fun o => [.int (xm_J o.2)] ++ []) (fun _ => rfl) (fun _ => ?_)
  refine xg_sg (σ2 := σ_88) rfl (st2 := [.int (xm_J (cl (10 : Int).toNat))]) rfl ?_
  refine xg_sipush hC dL_law_412 (by decide) ?_
  refine xg_guard (fun k90 => ?_)
  refine xg_callS1 hC (ml_lowI (xm_LWin hL _) k90) xl_M_L_99 xl_S_L_low (by decide) ⟨by omega, by omega⟩ dL_law_415 (rest := []) rfl rfl (Nat.le_of_ble_eq_true rfl) rfl rfl (st2 := fun o => [.int (xm_J o.2)] ++ []) (fun _ => rfl) (fun _ => ?_)
  refine xg_sg (σ2 := σ_88) rfl (st2 := [.int (xm_J (xm_rem (xm_and (cl (10 : Int).toNat) 2147483647) (20000 : Int)))]) rfl ?_
  refine xg_vI (xm_rem_in _ _) (fun v91 k92 => ?_)
  refine xg_istore hC (l' := [(7, .int (xm_J v91)), (0, .ref (xm_sb (xx_G X))), (1, .ref (xm_ad (xx_G X) 1)), (2, .ref (xm_ad (xx_G X) 84)), (3, .ref (xm_ad (xx_G X) 86)), (4, .ref (xm_ad (xx_G X) 87)), (6, .int (xm_J x6_88))]) dL_law_418 (by decide) rfl ?_
  refine xg_aload_n hC dL_law_420 rfl ?_
  refine xg_aload_n hC dL_law_421 rfl ?_
  refine xg_ldcS hC (i := 110) (id := 4) (by decide) dL_law_422 ?_
  refine xg_iload hC dL_law_424 rfl ?_
  refine xg_iconst hC dL_law_426 ?_
  refine xg_iconst hC dL_law_427 ?_
  refine @xg_ite _ _ _ _ _ _ _ _ _ _ (Classical.propDecidable _) (fun k93 => ?_) (fun _ => xg_none)
  refine xg_callS1 hC (ml_textI (i := 4) (by decide) (by decide) (xm_JIX hI) k93) xl_M_L_91 xl_S_L_text (by decide) ⟨by omega, by omega⟩ dL_law_428 (rest := [.ref (xm_ad (xx_G X) 1)]) rfl rfl (Nat.le_of_ble_eq_true rfl) rfl rfl (st2 := fun o => [.ref (xm_ad (xx_G X) 84)] ++ [.ref (xm_ad (xx_G X) 1)]) (fun _ => rfl) (fun _ => ?_)
  refine xg_sg (σ2 := xm_aps σ_88 89 0 (xm_tP 4 v91.toNat (0 : Int).toNat (-1 : Int))) rfl (st2 := [.ref (xm_ad (xx_G X) 84), .ref (xm_ad (xx_G X) 1)]) rfl ?_
  refine xg_stE (n := (σ_88).2.2) (xm_aps_2 _ _ _ _) (fun σ94 z95 => ?_)
  refine xg_bipush hC dL_law_431 (by decide) ?_
  refine @xg_ite _ _ _ _ _ _ _ _ _ _ (Classical.propDecidable _) (fun k96 => ?_) (fun _ => xg_none)
  refine xg_callV1 hC (ci := 10) (mb_ap2 (i := 32) (by decide) (xm_JIX hI) k96.1 k96.2) xl_M_L_64 xl_V_J4_append_cf468 rfl (xm_h84a rfl (xm_JIX hI)) (by decide) rfl (by decide) ⟨by omega, by omega⟩ dL_law_433 (rest := [.ref (xm_ad (xx_G X) 1)]) rfl rfl (Nat.le_of_ble_eq_true rfl) rfl rfl (st2 := fun o => [.ref (xm_ad (xx_G X) 84)] ++ [.ref (xm_ad (xx_G X) 1)]) (fun _ => rfl) (fun _ => ?_)
  refine xg_sg (σ2 := xm_ap σ94 89 (xm_tc σ94) (2, 32)) rfl (st2 := [.ref (xm_ad (xx_G X) 84), .ref (xm_ad (xx_G X) 1)]) rfl ?_
  refine xg_stE (n := (σ94).2.2) (xm_ap_2 _ _ _ _) (fun σ97 z98 => ?_)
  refine xg_aload_n hC dL_law_436 rfl ?_
  refine xg_aload_n hC dL_law_437 rfl ?_
  refine xg_bipush hC dL_law_438 (by decide) ?_
  refine xg_guard (fun k99 => ?_)
  refine xg_callS1 hC (ml_cellI hL k99) xl_M_L_95 xl_S_L_cell (by decide) ⟨by omega, by omega⟩ dL_law_440 (rest := [.ref (xm_ad (xx_G X) 86), .ref (xm_ad (xx_G X) 84), .ref (xm_ad (xx_G X) 1)]) rfl rfl (Nat.le_of_ble_eq_true rfl) rfl rfl (st2 := fun o => [.int (xm_J o.2)] ++ [.ref (xm_ad (xx_G X) 86), .ref (xm_ad (xx_G X) 84), .ref (xm_ad (xx_G X) 1)]) (fun _ => rfl) (fun _ => ?_)
  refine xg_sg (σ2 := σ97) rfl (st2 := [.int (xm_J (cl (11 : Int).toNat)), .ref (xm_ad (xx_G X) 86), .ref (xm_ad (xx_G X) 84), .ref (xm_ad (xx_G X) 1)]) rfl ?_
  refine xg_iconst hC dL_law_443 ?_
  refine xg_guard (fun k100 => ?_)
  refine xg_callS1 hC (ml_lowI (xm_LWin hL _) k100) xl_M_L_99 xl_S_L_low (by decide) ⟨by omega, by omega⟩ dL_law_444 (rest := [.ref (xm_ad (xx_G X) 86), .ref (xm_ad (xx_G X) 84), .ref (xm_ad (xx_G X) 1)]) rfl rfl (Nat.le_of_ble_eq_true rfl) rfl rfl (st2 := fun o => [.int (xm_J o.2)] ++ [.ref (xm_ad (xx_G X) 86), .ref (xm_ad (xx_G X) 84), .ref (xm_ad (xx_G X) 1)]) (fun _ => rfl) (fun _ => ?_)
  refine xg_sg (σ2 := σ97) rfl (st2 := [.int (xm_J (xm_rem (xm_and (cl (11 : Int).toNat) 2147483647) (5 : Int))), .ref (xm_ad (xx_G X) 86), .ref (xm_ad (xx_G X) 84), .ref (xm_ad (xx_G X) 1)]) rfl ?_
  refine xg_guard (fun k101 => ?_)
  refine xg_saldT hC (n := 5) (id := (σ97.1 86 (xm_rem (xm_and (cl (11 : Int).toNat) 2147483647) (5 : Int)).toNat - 1).toNat) xm_l86 (xm_h86 hI) (xm_rem_in _ _) k101.1 (by omega) dL_law_447 ?_
  refine @xg_ite _ _ _ _ _ _ _ _ _ _ (Classical.propDecidable _) (fun k102 => ?_) (fun _ => xg_none)
  refine xg_callV1 hC (ci := 10) (mb_ap0 (i := (σ97.1 86 (xm_rem (xm_and (cl (11 : Int).toNat) 2147483647) (5 : Int)).toNat - 1).toNat) k101.2.2 (xm_JIX hI) k102.1 k102.2) xl_M_L_47 xl_V_J4_append_15ec4 rfl (xm_h84a rfl (xm_JIX hI)) (by decide) rfl (by decide) ⟨by omega, by omega⟩ dL_law_448 (rest := [.ref (xm_ad (xx_G X) 1)]) rfl rfl (Nat.le_of_ble_eq_true rfl) rfl rfl (st2 := fun o => [.ref (xm_ad (xx_G X) 84)] ++ [.ref (xm_ad (xx_G X) 1)]) (fun _ => rfl) (fun _ => ?_)
  refine xg_sg (σ2 := xm_ap σ97 89 (xm_tc σ97) (0, (σ97.1 86 (xm_rem (xm_and (cl (11 : Int).toNat) 2147483647) (5 : Int)).toNat - 1).toNat)) rfl (st2 := [.ref (xm_ad (xx_G X) 84), .ref (xm_ad (xx_G X) 1)]) rfl ?_
  refine xg_stE (n := (σ97).2.2) (xm_ap_2 _ _ _ _) (fun σ103 z104 => ?_)
  refine xg_callS hC (w_L_tell hI σ103) xl_M_L_85 xl_S_L_tell (by decide) ⟨by omega, by omega⟩ dL_law_451 (rest := []) rfl rfl (Nat.le_of_ble_eq_true rfl) rfl rfl (st2 := fun o => .int (xm_J o.2) :: []) (fun _ => rfl) (fun o105 k106 => ?_)
  refine xg_guard (fun z107 => ?_)
  refine xg_if_ge hC k106 459 dL_law_454 rfl (fun c108 => ?_) (fun c109 => ?_)
  · refine xg_iconst hC dL_law_457 ?_
    exact xg_none
  refine xg_iconst hC dL_law_459 ?_
  refine xg_istore hC (l' := [(8, .int (xm_J (0 : Int))), (7, .int (xm_J v91)), (0, .ref (xm_sb (xx_G X))), (1, .ref (xm_ad (xx_G X) 1)), (2, .ref (xm_ad (xx_G X) 84)), (3, .ref (xm_ad (xx_G X) 86)), (4, .ref (xm_ad (xx_G X) 87)), (6, .int (xm_J x6_88))]) dL_law_460 (by decide) rfl ?_
  refine xg_pick [2, 3, 4, 6, 7, 1, 0] rfl (xg_toL (by omega) (by omega) (by omega) (w_L_law_l462 hC hI hL ?_ _ o105.1 x6_88 v91 (0 : Int) h6_88 k92 (xm_inc _ rfl)))
  intro σ_134 x7_134 h7_134
  refine xg_inL (fun hz => ?_)
  refine xg_ldc hC dL_law_548 xl_C_L_123 ?_
  refine xg_istore hC (l' := [(8, .int (xm_J (99000 : Int))), (1, .ref (xm_ad (xx_G X) 1)), (2, .ref (xm_ad (xx_G X) 84)), (7, .int (xm_J x7_134))]) dL_law_550 (by decide) rfl ?_
  refine xg_bipush hC dL_law_552 (by decide) ?_
  refine xg_guard (fun k135 => ?_)
  refine xg_top (w := 24) rfl ?_
  refine xg_facts (fun _ q9 => ?_)
  refine xg_newL hC rfl (xm_h110 hI q9) k135.1 k135.2 xl_A_int ⟨by omega, by omega⟩ (xm_kpL hI) dL_law_554 ?_
  refine xg_stE (n := (σ_134).2.2) rfl (fun σ136 z137 => ?_)
  refine xg_astore hC (l' := [(9, .ref (xm_ad (xx_G X) 110)), (8, .int (xm_J (99000 : Int))), (1, .ref (xm_ad (xx_G X) 1)), (2, .ref (xm_ad (xx_G X) 84)), (7, .int (xm_J x7_134))]) dL_law_556 (by decide) rfl ?_
  refine xg_iconst hC dL_law_558 ?_
  refine xg_istore hC (l' := [(10, .int (xm_J (0 : Int))), (9, .ref (xm_ad (xx_G X) 110)), (8, .int (xm_J (99000 : Int))), (1, .ref (xm_ad (xx_G X) 1)), (2, .ref (xm_ad (xx_G X) 84)), (7, .int (xm_J x7_134))]) dL_law_559 (by decide) rfl ?_
  refine xg_aload_n hC dL_law_561 rfl ?_
  refine xg_iconst hC dL_law_562 ?_
  refine xg_iload hC dL_law_563 rfl ?_
  refine xg_iload hC dL_law_565 rfl ?_
  refine xg_callV hC (ci := 9) (w_X10_line hI σ136 (0 : Int) (99000 : Int) (0 : Int) (xm_inc _ rfl) (xm_inc _ rfl) (xm_inc _ rfl)) xl_M_L_124 xl_V_X10_line (xm_hK (a := 1) (kd := 0) (n := 9) hI rfl).2 ((xm_hK (a := 1) (kd := 0) (n := 9) hI rfl).1 _) (by decide) rfl (by decide) ⟨by omega, by omega⟩ dL_law_567 (rest := []) rfl rfl (Nat.le_of_ble_eq_true rfl) rfl rfl (st2 := fun o => .int (xm_J o.2) :: []) (fun _ => rfl) (fun o138 k139 => ?_)
  refine xg_guard (fun z140 => ?_)
  refine xg_istore hC (l' := [(11, .int (xm_J o138.2)), (10, .int (xm_J (0 : Int))), (9, .ref (xm_ad (xx_G X) 110)), (8, .int (xm_J (99000 : Int))), (1, .ref (xm_ad (xx_G X) 1)), (2, .ref (xm_ad (xx_G X) 84)), (7, .int (xm_J x7_134))]) dL_law_570 (by decide) rfl ?_
  refine xg_pick [4, 5, 6, 3, 2, 1, 0] rfl (xg_toL (by omega) (by omega) (by omega) (w_L_law_l572 hC hI hL ?_ _ o138.1 x7_134 (99000 : Int) (0 : Int) o138.2 h7_134 (xm_inc _ rfl) (xm_inc _ rfl) k139))
  intro σ_160 x7_160 x8_160 x10_160 h7_160 h8_160 h10_160
  refine xg_inL (fun hz => ?_)
  refine xg_aload_n hC dL_law_634 rfl ?_
  refine xg_iconst hC dL_law_635 ?_
  refine xg_callV hC (ci := 9) (w_X10_tenures hI σ_160 (0 : Int) (xm_inc _ rfl)) xl_M_L_134 xl_V_X10_tenures (xm_hK (a := 1) (kd := 0) (n := 9) hI rfl).2 ((xm_hK (a := 1) (kd := 0) (n := 9) hI rfl).1 _) (by decide) rfl (by decide) ⟨by omega, by omega⟩ dL_law_636 (rest := []) rfl rfl (Nat.le_of_ble_eq_true rfl) rfl rfl (st2 := fun o => .int (xm_J o.2) :: []) (fun _ => rfl) (fun o161 k162 => ?_)
  refine xg_guard (fun z163 => ?_)
  refine xg_istore hC (l' := [(11, .int (xm_J o161.2)), (1, .ref (xm_ad (xx_G X) 1)), (2, .ref (xm_ad (xx_G X) 84)), (7, .int (xm_J x7_160)), (8, .int (xm_J x8_160)), (9, .ref (xm_ad (xx_G X) 110)), (10, .int (xm_J x10_160))]) dL_law_639 (by decide) rfl ?_
  refine xg_aload_n hC dL_law_641 rfl ?_
  refine xg_iconst hC dL_law_642 ?_
  refine xg_iload hC dL_law_643 rfl ?_
  refine xg_callV hC (ci := 9) (w_X10_holder hI o161.1 (0 : Int) x8_160 (xm_inc _ rfl) h8_160) xl_M_L_137 xl_V_X10_holder (xm_hK (a := 1) (kd := 0) (n := 9) hI rfl).2 ((xm_hK (a := 1) (kd := 0) (n := 9) hI rfl).1 _) (by decide) rfl (by decide) ⟨by omega, by omega⟩ dL_law_645 (rest := []) rfl rfl (Nat.le_of_ble_eq_true rfl) rfl rfl (st2 := fun o => .int (xm_J o.2) :: []) (fun _ => rfl) (fun o164 k165 => ?_)
  refine xg_guard (fun z166 => ?_)
  refine xg_istore hC (l' := [(12, .int (xm_J o164.2)), (11, .int (xm_J o161.2)), (1, .ref (xm_ad (xx_G X) 1)), (2, .ref (xm_ad (xx_G X) 84)), (7, .int (xm_J x7_160)), (8, .int (xm_J x8_160)), (9, .ref (xm_ad (xx_G X) 110)), (10, .int (xm_J x10_160))]) dL_law_648 (by decide) rfl ?_
  refine xg_iload hC dL_law_650 rfl ?_
  refine xg_istore hC (l' := [(13, .int (xm_J o164.2)), (12, .int (xm_J o164.2)), (11, .int (xm_J o161.2)), (1, .ref (xm_ad (xx_G X) 1)), (2, .ref (xm_ad (xx_G X) 84)), (7, .int (xm_J x7_160)), (8, .int (xm_J x8_160)), (9, .ref (xm_ad (xx_G X) 110)), (10, .int (xm_J x10_160))]) dL_law_652 (by decide) rfl ?_
  refine xg_iconst hC dL_law_654 ?_
  refine xg_istore hC (l' := [(14, .int (xm_J (1 : Int))), (13, .int (xm_J o164.2)), (12, .int (xm_J o164.2)), (11, .int (xm_J o161.2)), (1, .ref (xm_ad (xx_G X) 1)), (2, .ref (xm_ad (xx_G X) 84)), (7, .int (xm_J x7_160)), (8, .int (xm_J x8_160)), (9, .ref (xm_ad (xx_G X) 110)), (10, .int (xm_J x10_160))]) dL_law_655 (by decide) rfl ?_
  refine xg_pick [4, 5, 6, 7, 8, 9, 3, 2, 1, 0] rfl (xg_toL (by omega) (by omega) (by omega) (w_L_law_l657 hC hI hL ?_ _ o164.1 x7_160 x8_160 x10_160 o161.2 o164.2 o164.2 (1 : Int) h7_160 h8_160 h10_160 k162 k165 k165 (xm_inc _ rfl)))
  intro σ_229 x7_229 x8_229 x12_229 x13_229 h7_229 h8_229 h12_229 h13_229
  refine xg_inL (fun hz => ?_)
  refine xg_iload hC dL_law_876 rfl ?_
  refine xg_iconst hC dL_law_878 ?_
  refine xg_icmp_ne hC h12_229 (xm_inc _ rfl) 933 dL_law_879 rfl (fun c230 => ?_) (fun c231 => ?_)
  · refine xg_aload_n hC dL_law_882 rfl ?_
    refine xg_iconst hC dL_law_883 ?_
    refine xg_ldc hC dL_law_884 xl_C_L_143 ?_
    refine xg_callV hC (ci := 9) (w_X10_holder hI σ_229 (0 : Int) (99999 : Int) (xm_inc _ rfl) (xm_inc _ rfl)) xl_M_L_137 xl_V_X10_holder (xm_hK (a := 1) (kd := 0) (n := 9) hI rfl).2 ((xm_hK (a := 1) (kd := 0) (n := 9) hI rfl).1 _) (by decide) rfl (by decide) ⟨by omega, by omega⟩ dL_law_886 (rest := []) rfl rfl (Nat.le_of_ble_eq_true rfl) rfl rfl (st2 := fun o => .int (xm_J o.2) :: []) (fun _ => rfl) (fun o232 k233 => ?_)
    refine xg_guard (fun z234 => ?_)
    refine xg_iconst hC dL_law_889 ?_
    refine xg_icmp_ne hC k233 (xm_inc _ rfl) 933 dL_law_890 rfl (fun c235 => ?_) (fun c236 => ?_)
    · refine xg_aload_n hC dL_law_893 rfl ?_
      refine xg_iconst hC dL_law_894 ?_
      refine xg_iload hC dL_law_895 rfl ?_
      refine xg_callV hC (ci := 9) (w_X10_holder hI o232.1 (0 : Int) x8_229 (xm_inc _ rfl) h8_229) xl_M_L_137 xl_V_X10_holder (xm_hK (a := 1) (kd := 0) (n := 9) hI rfl).2 ((xm_hK (a := 1) (kd := 0) (n := 9) hI rfl).1 _) (by decide) rfl (by decide) ⟨by omega, by omega⟩ dL_law_897 (rest := []) rfl rfl (Nat.le_of_ble_eq_true rfl) rfl rfl (st2 := fun o => .int (xm_J o.2) :: []) (fun _ => rfl) (fun o237 k238 => ?_)
      refine xg_guard (fun z239 => ?_)
      refine xg_iload hC dL_law_900 rfl ?_
      refine xg_icmp_ne hC k238 h13_229 933 dL_law_902 rfl (fun c240 => ?_) (fun c241 => ?_)
      · refine xg_aload_n hC dL_law_905 rfl ?_
        refine xg_iconst hC dL_law_906 ?_
        refine xg_iload hC dL_law_907 rfl ?_
        refine xg_callV hC (ci := 9) (w_X10_holder hI o237.1 (0 : Int) x7_229 (xm_inc _ rfl) h7_229) xl_M_L_137 xl_V_X10_holder (xm_hK (a := 1) (kd := 0) (n := 9) hI rfl).2 ((xm_hK (a := 1) (kd := 0) (n := 9) hI rfl).1 _) (by decide) rfl (by decide) ⟨by omega, by omega⟩ dL_law_909 (rest := []) rfl rfl (Nat.le_of_ble_eq_true rfl) rfl rfl (st2 := fun o => .int (xm_J o.2) :: []) (fun _ => rfl) (fun o242 k243 => ?_)
        refine xg_guard (fun z244 => ?_)
        refine xg_bipush hC dL_law_912 (by decide) ?_
        refine xg_icmp_eq hC k243 (xm_inc _ rfl) 933 dL_law_914 rfl (fun c245 => ?_) (fun c246 => ?_)
        · refine xg_iconst hC dL_law_933 ?_
          exact xg_none
        refine xg_aload_n hC dL_law_917 rfl ?_
        refine xg_iconst hC dL_law_918 ?_
        refine xg_iconst hC dL_law_919 ?_
        refine xg_iconst hC dL_law_920 ?_
        refine xg_callV hC (ci := 9) (w_X10_tenure hI o242.1 (0 : Int) (0 : Int) (1 : Int) (xm_inc _ rfl) (xm_inc _ rfl) (xm_inc _ rfl)) xl_M_L_144 xl_V_X10_tenure (xm_hK (a := 1) (kd := 0) (n := 9) hI rfl).2 ((xm_hK (a := 1) (kd := 0) (n := 9) hI rfl).1 _) (by decide) rfl (by decide) ⟨by omega, by omega⟩ dL_law_921 (rest := []) rfl rfl (Nat.le_of_ble_eq_true rfl) rfl rfl (st2 := fun o => .int (xm_J o.2) :: []) (fun _ => rfl) (fun o247 k248 => ?_)
        refine xg_guard (fun z249 => ?_)
        refine xg_iload hC dL_law_924 rfl ?_
        refine xg_icmp_ne hC k248 h7_229 933 dL_law_926 rfl (fun c250 => ?_) (fun c251 => ?_)
        · refine xg_iconst hC dL_law_929 ?_
          refine xg_goto hC 934 dL_law_930 rfl ?_
          exact xg_lawret2 hC hL (by omega) (by omega) dL_law_934
        refine xg_iconst hC dL_law_933 ?_
        exact xg_none
      refine xg_iconst hC dL_law_933 ?_
      exact xg_none
    refine xg_iconst hC dL_law_933 ?_
    exact xg_none
  refine xg_iconst hC dL_law_933 ?_
  exact xg_none
