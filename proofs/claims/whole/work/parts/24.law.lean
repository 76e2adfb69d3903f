/-! ===== the law: its end, its script, its body ===== -/
/-! THE CLAIM OUT OF ONE WALK OF THE LAW'S BODY. Your part is whole_start (and what it stands on); all else here is the same for every law, but numbers. -/
def R_law : String := "HeirRollLaw"
def lw_P (b : Addr) (xs : List Int32) (args : Array Value) (s : State) : Prop := args = #[.ref b] ∧ s.IntsAt b xs ∧ xs.length ≤ 3072 ∧ (Jvm.Cond.and given_1 narrow_1).before args s = true
def lw_Q (_ : Array Value) (s : State) (o : Outcome) (t : State) : Prop := o = .returned (some (.int 1)) ∧ Framed s o t [] 600000 7302250
def lw_Z (below : List Frame) (a : Array Value) (s : State) : State → Prop := fun t => ∃ o, t.status = .running ∧ Ended t below o ∧ lw_Q a s o t
/-- the law's own end, with 1 on the stack, nothing written that was there before, its room as the claim has it -/
theorem lw_ret {p : Program} {l : Launch} {e : Env} {s : State} {m : MethodId} {below : List Frame} {meth : Method} {c : Code} {b : Nat} (hx : p.tables.exec = Jvm.exec) (hb : c.code = code) (hr : meth.sig.returnType = ret) (hlocks : meth.locks = false) {pc : Nat} {H : Heap} {ls : Array Slot} (hdg : decode code pc = .ok (.ireturn, 1)) : W p l e room_1 s m #[Value.ref b] below meth c H [] 600000 7302250 (lw_Z below #[Value.ref b] s) (F0 m pc ls [.int 1]) := by
  intro T hT X
  obtain ⟨fs, hret, hrun, hended, hW, hframe⟩ := X.leave (v := some (.int 1)) (hlocks := hlocks) (fun h => by rw [hr] at h; cases h)
  have hmeth' : T.vm.method? m = some meth := X.method'
  refine ⟨T.setFrames fs, ?_, .returned (some (.int 1)), hrun, hended, rfl, ⟨_, rfl⟩, hW, hframe⟩
  jvm_step X.here [X.here.top, hx, hb, hdg, hmeth', hr, ret, narrow_b1]
  (try refine ⟨rfl, ?_⟩); (try refine ⟨rfl, ?_⟩)
  first | (intro acts; rw [hret _ acts rfl rfl rfl]) | rw [hret _ _ rfl rfl rfl]
  exact Steps.refl _
/-- what holds at the law's entry: the machine, the code, the tables' words (any of lw_tbl by 'hts w (by decide +kernel)'), the script of L ints xs at the cell b, what the Statement gives of the start (any of its parts by flat_of_before) -/
def lw_At (p : Program) (s : State) (m : MethodId) (meth : Method) (c : Code) (b L : Nat) (xs : Nat → Int32) : Prop :=
  p.tables.exec = Jvm.exec ∧ c.code = code ∧ meth.sig.returnType = ret ∧ c.maxLocals = 4 ∧ s.vm.findClass R_law = some m.cls ∧ (∀ w ∈ lw_tbl, w.before #[Value.ref b] s = true) ∧ va_X b L xs s s.heap ∧ b < s.heap.size ∧ meth.locks = false ∧ (Jvm.Cond.and given_1 narrow_1).before #[Value.ref b] s = true
section XL
variable {X : xm_X} {own : String} {cc : ByteArray} {nL fr mc ms kc sc : Nat} {r r1 r2 : Option xm_Out} {σ : xm_Mem} {pc : Nat} {l l' : List (Nat × Value)} {st : List Value}
theorem xg_scr (hC : xm_C X own cc nL fr mc ms) {b N : Nat} {xs : Nat → Int32} (hX : va_X b N xs (xx_s X) (xx_s X).heap) (hb : b < (xx_s X).heap.size) (hbA : ¬ xm_A X b) {i : Int} (hi : xm_in i) (hd : decode cc pc = .ok (.iaload, 1)) (kk : 0 ≤ i ∧ i < (N : Int) → xm_V X kc sc r σ (pc + 1) l (.int (xm_J ((xs i.toNat).toInt)) :: st)) : xm_V X kc sc (if 0 ≤ i ∧ i < (N : Int) then r else none) σ pc l (.int (xm_J i) :: .ref b :: st) := by
  refine xg_guard (fun h o ho H locs ls hR hS hL => ?_)
  refine va_sld hC.1 hC.2.1 hX hb hbA hS (xm_vp hi h) hd ?_
  rw [xm_clamp hi]
  have K := kk h o ho H locs ls hR hS hL
  rw [xm_J_of] at K
  exact K
theorem xg_scl (hC : xm_C X own cc nL fr mc ms) {b N : Nat} {xs : Nat → Int32} (hX : va_X b N xs (xx_s X) (xx_s X).heap) (hb : b < (xx_s X).heap.size) (hbA : ¬ xm_A X b) (hd : decode cc pc = .ok (.arraylength, 1)) (kk : xm_V X kc sc r σ (pc + 1) l (.int (xm_J (N : Int)) :: st)) : xm_V X kc sc r σ pc l (.ref b :: st) :=
  fun o ho H locs ls hR hS hL => va_slen hC.1 hC.2.1 hX hb hbA hS hd (kk o ho H locs ls hR hS hL)
theorem xg_lawret (hC : xm_C X RL cL_law nL fr mc ms) {b : Nat} (hR : xx_R X = room_1) (ha : xx_a X = #[Value.ref b]) (hr : (xx_t X).sig.returnType = ret) (hQ : ∀ o, xx_Q X o = lw_Z (xx_b X) #[Value.ref b] (xx_s X)) (hA : ∀ q, xm_A X q → (xx_s X).heap.size ≤ q) (h1 : kc ≤ 600000) (h2 : sc ≤ 7302250) (hd : decode cL_law pc = .ok (.ireturn, 1)) : xm_V X kc sc (some (σ, 1)) σ pc l [.int (xm_J 1)] := by
  intro o ho H locs ls hRR hS hL
  show W (xx_p X) (xx_la X) (xx_e X) (xx_R X) (xx_s X) (xx_m X) (xx_a X) (xx_b X) (xx_t X) (xx_c X) H locs kc sc (xx_Q X o) _
  rw [hQ o, hR, ha]
  refine va_forget (fun q hq => hA _ (hS.2.2 q hq)) ?_
  exact W.widen h1 h2 (lw_ret hC.1 hC.2.1 hr hC.2.2.2.2.2.2.1 hd)
end XL
noncomputable def fl_0 (N : Nat) (xs : Nat → Int32) (self : xm_Mem → Int → Option xm_Out) (σ : xm_Mem) (x3 : Int) : Option xm_Out := if 0 ≤ (xm_w (x3 + (1 : Int))) ∧ (xm_w (x3 + (1 : Int))) < (N : Int) then (if 0 ≤ (xm_w (x3 + (2 : Int))) ∧ (xm_w (x3 + (2 : Int))) < (N : Int) then (if 0 ≤ (xm_w (x3 + (3 : Int))) ∧ (xm_w (x3 + (3 : Int))) < (N : Int) then (if 0 ≤ (xm_w (x3 + (4 : Int))) ∧ (xm_w (x3 + (4 : Int))) < (N : Int) then (if 0 ≤ (xm_w (x3 + (5 : Int))) ∧ (xm_w (x3 + (5 : Int))) < (N : Int) then ((f_X10_feed σ ((xs (xm_w (x3 + (1 : Int))).toNat).toInt) ((xs (xm_w (x3 + (2 : Int))).toNat).toInt) ((xs (xm_w (x3 + (3 : Int))).toNat).toInt) ((xs (xm_w (x3 + (4 : Int))).toNat).toInt) ((xs (xm_w (x3 + (5 : Int))).toNat).toInt)).bind (fun o6 => if 0 ≤ (xm_w (x3 + (1 : Int))) ∧ (xm_w (x3 + (1 : Int))) < (N : Int) then (if 0 ≤ (xm_w (x3 + (2 : Int))) ∧ (xm_w (x3 + (2 : Int))) < (N : Int) then (if 0 ≤ (xm_w (x3 + (3 : Int))) ∧ (xm_w (x3 + (3 : Int))) < (N : Int) then (if 0 ≤ (xm_w (x3 + (4 : Int))) ∧ (xm_w (x3 + (4 : Int))) < (N : Int) then (if 0 ≤ (xm_w (x3 + (5 : Int))) ∧ (xm_w (x3 + (5 : Int))) < (N : Int) then ((f_X11_feed o6.1 ((xs (xm_w (x3 + (1 : Int))).toNat).toInt) ((xs (xm_w (x3 + (2 : Int))).toNat).toInt) ((xs (xm_w (x3 + (3 : Int))).toNat).toInt) ((xs (xm_w (x3 + (4 : Int))).toNat).toInt) ((xs (xm_w (x3 + (5 : Int))).toNat).toInt)).bind (fun o13 => if o6.2 = o13.2 then (self o13.1 (xm_w (x3 + 6))) else none)) else none) else none) else none) else none) else none)) else none) else none) else none) else none) else none
noncomputable def fl_1 (N : Nat) (xs : Nat → Int32) (self : xm_Mem → Int → Option xm_Out) (σ : xm_Mem) (x3 : Int) : Option xm_Out := if 0 ≤ (xm_w (x3 + (1 : Int))) ∧ (xm_w (x3 + (1 : Int))) < (N : Int) then ((f_X10_end σ ((xs (xm_w (x3 + (1 : Int))).toNat).toInt)).bind (fun o16 => if 0 ≤ (xm_w (x3 + (1 : Int))) ∧ (xm_w (x3 + (1 : Int))) < (N : Int) then ((f_X11_end o16.1 ((xs (xm_w (x3 + (1 : Int))).toNat).toInt)).bind (fun o19 => if o16.2 = o19.2 then (self o19.1 (xm_w (x3 + 6))) else none)) else none)) else none
noncomputable def fl_2 (N : Nat) (xs : Nat → Int32) (self : xm_Mem → Int → Option xm_Out) (σ : xm_Mem) (x3 : Int) : Option xm_Out := (f_X10_record σ).bind (fun o21 => (f_X11_record o21.1).bind (fun o23 => if o21.2 = o23.2 then (self o23.1 (xm_w (x3 + 6))) else none))
noncomputable def fl_3 (N : Nat) (xs : Nat → Int32) (self : xm_Mem → Int → Option xm_Out) (σ : xm_Mem) (x3 : Int) : Option xm_Out := (f_X10_place σ).bind (fun o25 => (f_X11_place o25.1).bind (fun o27 => if o25.2 = o27.2 then (self o27.1 (xm_w (x3 + 6))) else none))
noncomputable def fl_4 (N : Nat) (xs : Nat → Int32) (self : xm_Mem → Int → Option xm_Out) (σ : xm_Mem) (x3 : Int) : Option xm_Out := (f_X10_bond σ).bind (fun o29 => (f_X11_bond o29.1).bind (fun o31 => if o29.2 = o31.2 then (self o31.1 (xm_w (x3 + 6))) else none))
noncomputable def fl_5 (N : Nat) (xs : Nat → Int32) (self : xm_Mem → Int → Option xm_Out) (σ : xm_Mem) (x3 : Int) : Option xm_Out := if 0 ≤ (xm_w (x3 + (1 : Int))) ∧ (xm_w (x3 + (1 : Int))) < (N : Int) then ((f_X10_strike σ ((xs (xm_w (x3 + (1 : Int))).toNat).toInt)).bind (fun o34 => if 0 ≤ (xm_w (x3 + (1 : Int))) ∧ (xm_w (x3 + (1 : Int))) < (N : Int) then ((f_X11_strike o34.1 ((xs (xm_w (x3 + (1 : Int))).toNat).toInt)).bind (fun o37 => if o34.2 = o37.2 then (self o37.1 (xm_w (x3 + 6))) else none)) else none)) else none
noncomputable def fl_6 (N : Nat) (xs : Nat → Int32) (self : xm_Mem → Int → Option xm_Out) (σ : xm_Mem) (x3 : Int) : Option xm_Out := if 0 ≤ (xm_w (x3 + (1 : Int))) ∧ (xm_w (x3 + (1 : Int))) < (N : Int) then ((f_X10_count σ ((xs (xm_w (x3 + (1 : Int))).toNat).toInt)).bind (fun o40 => if 0 ≤ (xm_w (x3 + (1 : Int))) ∧ (xm_w (x3 + (1 : Int))) < (N : Int) then ((f_X11_count o40.1 ((xs (xm_w (x3 + (1 : Int))).toNat).toInt)).bind (fun o43 => if o40.2 = o43.2 then (self o43.1 (xm_w (x3 + 6))) else none)) else none)) else none
noncomputable def fl_7 (N : Nat) (xs : Nat → Int32) (self : xm_Mem → Int → Option xm_Out) (σ : xm_Mem) (x3 : Int) : Option xm_Out := if 0 ≤ (xm_w (x3 + (1 : Int))) ∧ (xm_w (x3 + (1 : Int))) < (N : Int) then (if 0 ≤ (xm_w (x3 + (2 : Int))) ∧ (xm_w (x3 + (2 : Int))) < (N : Int) then ((f_X10_fact σ ((xs (xm_w (x3 + (1 : Int))).toNat).toInt) ((xs (xm_w (x3 + (2 : Int))).toNat).toInt)).bind (fun o47 => if 0 ≤ (xm_w (x3 + (1 : Int))) ∧ (xm_w (x3 + (1 : Int))) < (N : Int) then (if 0 ≤ (xm_w (x3 + (2 : Int))) ∧ (xm_w (x3 + (2 : Int))) < (N : Int) then ((f_X11_fact o47.1 ((xs (xm_w (x3 + (1 : Int))).toNat).toInt) ((xs (xm_w (x3 + (2 : Int))).toNat).toInt)).bind (fun o51 => if o47.2 = o51.2 then (self o51.1 (xm_w (x3 + 6))) else none)) else none) else none)) else none) else none
noncomputable def fl_8 (N : Nat) (xs : Nat → Int32) (self : xm_Mem → Int → Option xm_Out) (σ : xm_Mem) (x3 : Int) : Option xm_Out := if 0 ≤ (xm_w (x3 + (1 : Int))) ∧ (xm_w (x3 + (1 : Int))) < (N : Int) then (if 0 ≤ (xm_w (x3 + (2 : Int))) ∧ (xm_w (x3 + (2 : Int))) < (N : Int) then ((f_X10_person σ ((xs (xm_w (x3 + (1 : Int))).toNat).toInt) ((xs (xm_w (x3 + (2 : Int))).toNat).toInt)).bind (fun o55 => if 0 ≤ (xm_w (x3 + (1 : Int))) ∧ (xm_w (x3 + (1 : Int))) < (N : Int) then (if 0 ≤ (xm_w (x3 + (2 : Int))) ∧ (xm_w (x3 + (2 : Int))) < (N : Int) then ((f_X11_person o55.1 ((xs (xm_w (x3 + (1 : Int))).toNat).toInt) ((xs (xm_w (x3 + (2 : Int))).toNat).toInt)).bind (fun o59 => if o55.2 = o59.2 then (self o59.1 (xm_w (x3 + 6))) else none)) else none) else none)) else none) else none
noncomputable def fl_9 (N : Nat) (xs : Nat → Int32) (self : xm_Mem → Int → Option xm_Out) (σ : xm_Mem) (x3 : Int) : Option xm_Out := if 0 ≤ (xm_w (x3 + (1 : Int))) ∧ (xm_w (x3 + (1 : Int))) < (N : Int) then (if 0 ≤ (xm_w (x3 + (2 : Int))) ∧ (xm_w (x3 + (2 : Int))) < (N : Int) then ((f_X10_partner σ ((xs (xm_w (x3 + (1 : Int))).toNat).toInt) ((xs (xm_w (x3 + (2 : Int))).toNat).toInt)).bind (fun o63 => if 0 ≤ (xm_w (x3 + (1 : Int))) ∧ (xm_w (x3 + (1 : Int))) < (N : Int) then (if 0 ≤ (xm_w (x3 + (2 : Int))) ∧ (xm_w (x3 + (2 : Int))) < (N : Int) then ((f_X11_partner o63.1 ((xs (xm_w (x3 + (1 : Int))).toNat).toInt) ((xs (xm_w (x3 + (2 : Int))).toNat).toInt)).bind (fun o67 => if o63.2 = o67.2 then (self o67.1 (xm_w (x3 + 6))) else none)) else none) else none)) else none) else none
noncomputable def fl_10 (N : Nat) (xs : Nat → Int32) (self : xm_Mem → Int → Option xm_Out) (σ : xm_Mem) (x3 : Int) : Option xm_Out := if 0 ≤ (xm_w (x3 + (1 : Int))) ∧ (xm_w (x3 + (1 : Int))) < (N : Int) then (if 0 ≤ (xm_w (x3 + (2 : Int))) ∧ (xm_w (x3 + (2 : Int))) < (N : Int) then ((f_X10_kin σ ((xs (xm_w (x3 + (1 : Int))).toNat).toInt) ((xs (xm_w (x3 + (2 : Int))).toNat).toInt)).bind (fun o71 => if 0 ≤ (xm_w (x3 + (1 : Int))) ∧ (xm_w (x3 + (1 : Int))) < (N : Int) then (if 0 ≤ (xm_w (x3 + (2 : Int))) ∧ (xm_w (x3 + (2 : Int))) < (N : Int) then ((f_X11_kin o71.1 ((xs (xm_w (x3 + (1 : Int))).toNat).toInt) ((xs (xm_w (x3 + (2 : Int))).toNat).toInt)).bind (fun o75 => if o71.2 = o75.2 then (self o75.1 (xm_w (x3 + 6))) else none)) else none) else none)) else none) else none
noncomputable def fl_11 (N : Nat) (xs : Nat → Int32) (self : xm_Mem → Int → Option xm_Out) (σ : xm_Mem) (x3 : Int) : Option xm_Out := if 0 ≤ (xm_w (x3 + (1 : Int))) ∧ (xm_w (x3 + (1 : Int))) < (N : Int) then (if 0 ≤ (xm_w (x3 + (2 : Int))) ∧ (xm_w (x3 + (2 : Int))) < (N : Int) then ((f_X10_holder σ ((xs (xm_w (x3 + (1 : Int))).toNat).toInt) ((xs (xm_w (x3 + (2 : Int))).toNat).toInt)).bind (fun o79 => if 0 ≤ (xm_w (x3 + (1 : Int))) ∧ (xm_w (x3 + (1 : Int))) < (N : Int) then (if 0 ≤ (xm_w (x3 + (2 : Int))) ∧ (xm_w (x3 + (2 : Int))) < (N : Int) then ((f_X11_holder o79.1 ((xs (xm_w (x3 + (1 : Int))).toNat).toInt) ((xs (xm_w (x3 + (2 : Int))).toNat).toInt)).bind (fun o83 => if o79.2 = o83.2 then (self o83.1 (xm_w (x3 + 6))) else none)) else none) else none)) else none) else none
noncomputable def fl_12 (N : Nat) (xs : Nat → Int32) (self : xm_Mem → Int → Option xm_Out) (σ : xm_Mem) (x3 : Int) : Option xm_Out := if 0 ≤ (xm_w (x3 + (1 : Int))) ∧ (xm_w (x3 + (1 : Int))) < (N : Int) then (if 0 ≤ (xm_w (x3 + (2 : Int))) ∧ (xm_w (x3 + (2 : Int))) < (N : Int) then ((f_X10_since σ ((xs (xm_w (x3 + (1 : Int))).toNat).toInt) ((xs (xm_w (x3 + (2 : Int))).toNat).toInt)).bind (fun o87 => if 0 ≤ (xm_w (x3 + (1 : Int))) ∧ (xm_w (x3 + (1 : Int))) < (N : Int) then (if 0 ≤ (xm_w (x3 + (2 : Int))) ∧ (xm_w (x3 + (2 : Int))) < (N : Int) then ((f_X11_since o87.1 ((xs (xm_w (x3 + (1 : Int))).toNat).toInt) ((xs (xm_w (x3 + (2 : Int))).toNat).toInt)).bind (fun o91 => if o87.2 = o91.2 then (self o91.1 (xm_w (x3 + 6))) else none)) else none) else none)) else none) else none
noncomputable def fl_13 (N : Nat) (xs : Nat → Int32) (self : xm_Mem → Int → Option xm_Out) (σ : xm_Mem) (x3 : Int) : Option xm_Out := if 0 ≤ (xm_w (x3 + (1 : Int))) ∧ (xm_w (x3 + (1 : Int))) < (N : Int) then (if 0 ≤ (xm_w (x3 + (2 : Int))) ∧ (xm_w (x3 + (2 : Int))) < (N : Int) then (if 0 ≤ (xm_w (x3 + (3 : Int))) ∧ (xm_w (x3 + (3 : Int))) < (N : Int) then ((f_X10_line σ ((xs (xm_w (x3 + (1 : Int))).toNat).toInt) ((xs (xm_w (x3 + (2 : Int))).toNat).toInt) ((xs (xm_w (x3 + (3 : Int))).toNat).toInt)).bind (fun o96 => if 0 ≤ (xm_w (x3 + (1 : Int))) ∧ (xm_w (x3 + (1 : Int))) < (N : Int) then (if 0 ≤ (xm_w (x3 + (2 : Int))) ∧ (xm_w (x3 + (2 : Int))) < (N : Int) then (if 0 ≤ (xm_w (x3 + (3 : Int))) ∧ (xm_w (x3 + (3 : Int))) < (N : Int) then ((f_X11_line o96.1 ((xs (xm_w (x3 + (1 : Int))).toNat).toInt) ((xs (xm_w (x3 + (2 : Int))).toNat).toInt) ((xs (xm_w (x3 + (3 : Int))).toNat).toInt)).bind (fun o101 => if o96.2 = o101.2 then (self o101.1 (xm_w (x3 + 6))) else none)) else none) else none) else none)) else none) else none) else none
noncomputable def fl_14 (N : Nat) (xs : Nat → Int32) (self : xm_Mem → Int → Option xm_Out) (σ : xm_Mem) (x3 : Int) : Option xm_Out := if 0 ≤ (xm_w (x3 + (1 : Int))) ∧ (xm_w (x3 + (1 : Int))) < (N : Int) then (if 0 ≤ (xm_w (x3 + (2 : Int))) ∧ (xm_w (x3 + (2 : Int))) < (N : Int) then (if 0 ≤ (xm_w (x3 + (3 : Int))) ∧ (xm_w (x3 + (3 : Int))) < (N : Int) then ((f_X10_rank σ ((xs (xm_w (x3 + (1 : Int))).toNat).toInt) ((xs (xm_w (x3 + (2 : Int))).toNat).toInt) ((xs (xm_w (x3 + (3 : Int))).toNat).toInt)).bind (fun o106 => if 0 ≤ (xm_w (x3 + (1 : Int))) ∧ (xm_w (x3 + (1 : Int))) < (N : Int) then (if 0 ≤ (xm_w (x3 + (2 : Int))) ∧ (xm_w (x3 + (2 : Int))) < (N : Int) then (if 0 ≤ (xm_w (x3 + (3 : Int))) ∧ (xm_w (x3 + (3 : Int))) < (N : Int) then ((f_X11_rank o106.1 ((xs (xm_w (x3 + (1 : Int))).toNat).toInt) ((xs (xm_w (x3 + (2 : Int))).toNat).toInt) ((xs (xm_w (x3 + (3 : Int))).toNat).toInt)).bind (fun o111 => if o106.2 = o111.2 then (self o111.1 (xm_w (x3 + 6))) else none)) else none) else none) else none)) else none) else none) else none
noncomputable def fl_15 (N : Nat) (xs : Nat → Int32) (self : xm_Mem → Int → Option xm_Out) (σ : xm_Mem) (x3 : Int) : Option xm_Out := if 0 ≤ (xm_w (x3 + (1 : Int))) ∧ (xm_w (x3 + (1 : Int))) < (N : Int) then (if 0 ≤ (xm_w (x3 + (2 : Int))) ∧ (xm_w (x3 + (2 : Int))) < (N : Int) then (if 0 ≤ (xm_w (x3 + (3 : Int))) ∧ (xm_w (x3 + (3 : Int))) < (N : Int) then ((f_X10_coheir σ ((xs (xm_w (x3 + (1 : Int))).toNat).toInt) ((xs (xm_w (x3 + (2 : Int))).toNat).toInt) ((xs (xm_w (x3 + (3 : Int))).toNat).toInt)).bind (fun o116 => if 0 ≤ (xm_w (x3 + (1 : Int))) ∧ (xm_w (x3 + (1 : Int))) < (N : Int) then (if 0 ≤ (xm_w (x3 + (2 : Int))) ∧ (xm_w (x3 + (2 : Int))) < (N : Int) then (if 0 ≤ (xm_w (x3 + (3 : Int))) ∧ (xm_w (x3 + (3 : Int))) < (N : Int) then ((f_X11_coheir o116.1 ((xs (xm_w (x3 + (1 : Int))).toNat).toInt) ((xs (xm_w (x3 + (2 : Int))).toNat).toInt) ((xs (xm_w (x3 + (3 : Int))).toNat).toInt)).bind (fun o121 => if o116.2 = o121.2 then (self o121.1 (xm_w (x3 + 6))) else none)) else none) else none) else none)) else none) else none) else none
noncomputable def fl_16 (N : Nat) (xs : Nat → Int32) (self : xm_Mem → Int → Option xm_Out) (σ : xm_Mem) (x3 : Int) : Option xm_Out := if 0 ≤ (xm_w (x3 + (1 : Int))) ∧ (xm_w (x3 + (1 : Int))) < (N : Int) then ((f_X10_tenures σ ((xs (xm_w (x3 + (1 : Int))).toNat).toInt)).bind (fun o124 => if 0 ≤ (xm_w (x3 + (1 : Int))) ∧ (xm_w (x3 + (1 : Int))) < (N : Int) then ((f_X11_tenures o124.1 ((xs (xm_w (x3 + (1 : Int))).toNat).toInt)).bind (fun o127 => if o124.2 = o127.2 then (self o127.1 (xm_w (x3 + 6))) else none)) else none)) else none
noncomputable def fl_17 (N : Nat) (xs : Nat → Int32) (self : xm_Mem → Int → Option xm_Out) (σ : xm_Mem) (x3 : Int) : Option xm_Out := if 0 ≤ (xm_w (x3 + (1 : Int))) ∧ (xm_w (x3 + (1 : Int))) < (N : Int) then (if 0 ≤ (xm_w (x3 + (2 : Int))) ∧ (xm_w (x3 + (2 : Int))) < (N : Int) then (if 0 ≤ (xm_w (x3 + (3 : Int))) ∧ (xm_w (x3 + (3 : Int))) < (N : Int) then ((f_X10_tenure σ ((xs (xm_w (x3 + (1 : Int))).toNat).toInt) ((xs (xm_w (x3 + (2 : Int))).toNat).toInt) ((xs (xm_w (x3 + (3 : Int))).toNat).toInt)).bind (fun o132 => if 0 ≤ (xm_w (x3 + (1 : Int))) ∧ (xm_w (x3 + (1 : Int))) < (N : Int) then (if 0 ≤ (xm_w (x3 + (2 : Int))) ∧ (xm_w (x3 + (2 : Int))) < (N : Int) then (if 0 ≤ (xm_w (x3 + (3 : Int))) ∧ (xm_w (x3 + (3 : Int))) < (N : Int) then ((f_X11_tenure o132.1 ((xs (xm_w (x3 + (1 : Int))).toNat).toInt) ((xs (xm_w (x3 + (2 : Int))).toNat).toInt) ((xs (xm_w (x3 + (3 : Int))).toNat).toInt)).bind (fun o137 => if o132.2 = o137.2 then (self o137.1 (xm_w (x3 + 6))) else none)) else none) else none) else none)) else none) else none) else none
noncomputable def fl_18 (N : Nat) (xs : Nat → Int32) (self : xm_Mem → Int → Option xm_Out) (σ : xm_Mem) (x3 : Int) : Option xm_Out := if 0 ≤ (xm_w (x3 + (1 : Int))) ∧ (xm_w (x3 + (1 : Int))) < (N : Int) then (if 0 ≤ (xm_w (x3 + (2 : Int))) ∧ (xm_w (x3 + (2 : Int))) < (N : Int) then (if 0 ≤ (xm_w (x3 + (3 : Int))) ∧ (xm_w (x3 + (3 : Int))) < (N : Int) then ((f_X10_holds σ ((xs (xm_w (x3 + (1 : Int))).toNat).toInt) ((xs (xm_w (x3 + (2 : Int))).toNat).toInt) ((xs (xm_w (x3 + (3 : Int))).toNat).toInt)).bind (fun o142 => if 0 ≤ (xm_w (x3 + (1 : Int))) ∧ (xm_w (x3 + (1 : Int))) < (N : Int) then (if 0 ≤ (xm_w (x3 + (2 : Int))) ∧ (xm_w (x3 + (2 : Int))) < (N : Int) then (if 0 ≤ (xm_w (x3 + (3 : Int))) ∧ (xm_w (x3 + (3 : Int))) < (N : Int) then ((f_X11_holds o142.1 ((xs (xm_w (x3 + (1 : Int))).toNat).toInt) ((xs (xm_w (x3 + (2 : Int))).toNat).toInt) ((xs (xm_w (x3 + (3 : Int))).toNat).toInt)).bind (fun o147 => if o142.2 = o147.2 then (self o147.1 (xm_w (x3 + 6))) else none)) else none) else none) else none)) else none) else none) else none
noncomputable def fl_19 (N : Nat) (xs : Nat → Int32) (self : xm_Mem → Int → Option xm_Out) (σ : xm_Mem) (x3 : Int) : Option xm_Out := (f_X10_status σ).bind (fun o149 => (f_X11_status o149.1).bind (fun o151 => if o149.2 = o151.2 then (self o151.1 (xm_w (x3 + 6))) else none))
noncomputable def fl_sw (N : Nat) (xs : Nat → Int32) (self : xm_Mem → Int → Option xm_Out) (σ : xm_Mem) (x3 v : Int) : Option xm_Out := if v = 0 then (fl_0 N xs self σ x3) else (if v = 1 then (fl_1 N xs self σ x3) else (if v = 2 then (fl_2 N xs self σ x3) else (if v = 3 then (fl_3 N xs self σ x3) else (if v = 4 then (fl_4 N xs self σ x3) else (if v = 5 then (fl_5 N xs self σ x3) else (if v = 6 then (fl_6 N xs self σ x3) else (if v = 7 then (fl_7 N xs self σ x3) else (if v = 8 then (fl_8 N xs self σ x3) else (if v = 9 then (fl_9 N xs self σ x3) else (if v = 10 then (fl_10 N xs self σ x3) else (if v = 11 then (fl_11 N xs self σ x3) else (if v = 12 then (fl_12 N xs self σ x3) else (if v = 13 then (fl_13 N xs self σ x3) else (if v = 14 then (fl_14 N xs self σ x3) else (if v = 15 then (fl_15 N xs self σ x3) else (if v = 16 then (fl_16 N xs self σ x3) else (if v = 17 then (fl_17 N xs self σ x3) else (if v = 18 then (fl_18 N xs self σ x3) else (if v = 19 then (fl_19 N xs self σ x3) else (self σ (xm_w (x3 + 6))))))))))))))))))))))
noncomputable def fl_b (N : Nat) (xs : Nat → Int32) (self : xm_Mem → Int → Option xm_Out) (σ : xm_Mem) (x3 : Int) : Option xm_Out := if (xm_w ((N : Int) - (6 : Int))) < x3 then (some (σ, (1 : Int))) else (if 0 ≤ x3 ∧ x3 < (N : Int) then (xm_vl (xm_and ((xs x3.toNat).toInt) (31 : Int)) (fun v => fl_sw N xs self σ x3 v)) else none)
noncomputable def f_law (N : Nat) (xs : Nat → Int32) (n : Nat) : xm_Mem → Int → Option xm_Out := xm_it (fl_b N xs) (fun _ _ => none) n
theorem wl_0 {X : xm_X} {b N : Nat} {xs : Nat → Int32} (hC : xm_C X RL cL_law 4 2048 600000 7302250) (hI : xx_I X = xm_I) (hX : va_X b N xs (xx_s X) (xx_s X).heap) (hb : b < (xx_s X).heap.size) (hbA : ¬ xm_A X b) (kc sc : Nat) (hk : kc ≤ 2000 ∧ sc ≤ 30000) {self : xm_Mem → Int → Option xm_Out} (hself : ∀ (σ : xm_Mem) (x3 : Int) (kc1 sc1 : Nat), kc1 ≤ kc + 1 → sc1 ≤ sc + 10 → xm_in x3 → xm_V X kc1 sc1 (self σ x3) σ 18 [(0, .ref b), (1, .ref (xm_B (xx_G X) + 1)), (2, .ref (xm_B (xx_G X) + 84)), (3, .int (xm_J x3))] []) (σ : xm_Mem) (x3 : Int) (h3 : xm_in x3) : xm_V X kc sc (fl_0 N xs self σ x3) σ 128 [(0, .ref b), (1, .ref (xm_B (xx_G X) + 1)), (2, .ref (xm_B (xx_G X) + 84)), (3, .int (xm_J x3))] [] := by
  unfold fl_0
  refine xg_aload_n hC dL_law_128 rfl ?_
  refine xg_aload_n hC dL_law_129 rfl ?_
  refine xg_iload_n hC dL_law_130 rfl ?_
  refine xg_iconst hC dL_law_131 ?_
  refine xg_iadd hC dL_law_132 ?_
  refine xg_scr hC hX hb hbA (xm_w_in _) dL_law_133 (fun b1 => ?_)
  refine xg_aload_n hC dL_law_134 rfl ?_
  refine xg_iload_n hC dL_law_135 rfl ?_
  refine xg_iconst hC dL_law_136 ?_
  refine xg_iadd hC dL_law_137 ?_
  refine xg_scr hC hX hb hbA (xm_w_in _) dL_law_138 (fun b2 => ?_)
  refine xg_aload_n hC dL_law_139 rfl ?_
  refine xg_iload_n hC dL_law_140 rfl ?_
  refine xg_iconst hC dL_law_141 ?_
  refine xg_iadd hC dL_law_142 ?_
  refine xg_scr hC hX hb hbA (xm_w_in _) dL_law_143 (fun b3 => ?_)
  refine xg_aload_n hC dL_law_144 rfl ?_
  refine xg_iload_n hC dL_law_145 rfl ?_
  refine xg_iconst hC dL_law_146 ?_
  refine xg_iadd hC dL_law_147 ?_
  refine xg_scr hC hX hb hbA (xm_w_in _) dL_law_148 (fun b4 => ?_)
  refine xg_aload_n hC dL_law_149 rfl ?_
  refine xg_iload_n hC dL_law_150 rfl ?_
  refine xg_iconst hC dL_law_151 ?_
  refine xg_iadd hC dL_law_152 ?_
  refine xg_scr hC hX hb hbA (xm_w_in _) dL_law_153 (fun b5 => ?_)
  refine xg_callV hC (ci := 9) (w_X10_feed hI σ ((xs (xm_w (x3 + (1 : Int))).toNat).toInt) ((xs (xm_w (x3 + (2 : Int))).toNat).toInt) ((xs (xm_w (x3 + (3 : Int))).toNat).toInt) ((xs (xm_w (x3 + (4 : Int))).toNat).toInt) ((xs (xm_w (x3 + (5 : Int))).toNat).toInt) (xm_in_toInt _) (xm_in_toInt _) (xm_in_toInt _) (xm_in_toInt _) (xm_in_toInt _)) xl_M_L_13 xl_V_X10_feed ((xm_hK (a := 1) (kd := 0) (n := 9) hI rfl)).2 ((xm_hK (a := 1) (kd := 0) (n := 9) hI rfl).1 _) (by decide) rfl (by decide) ⟨by omega, by omega⟩ dL_law_154 (rest := []) rfl rfl (Nat.le_of_ble_eq_true rfl) rfl rfl (st2 := fun o => .int (xm_J o.2) :: []) (fun _ => rfl) (fun o6 k7 => ?_)
  refine xg_aload_n hC dL_law_157 rfl ?_
  refine xg_aload_n hC dL_law_158 rfl ?_
  refine xg_iload_n hC dL_law_159 rfl ?_
  refine xg_iconst hC dL_law_160 ?_
  refine xg_iadd hC dL_law_161 ?_
  refine xg_scr hC hX hb hbA (xm_w_in _) dL_law_162 (fun b8 => ?_)
  refine xg_aload_n hC dL_law_163 rfl ?_
  refine xg_iload_n hC dL_law_164 rfl ?_
  refine xg_iconst hC dL_law_165 ?_
  refine xg_iadd hC dL_law_166 ?_
  refine xg_scr hC hX hb hbA (xm_w_in _) dL_law_167 (fun b9 => ?_)
  refine xg_aload_n hC dL_law_168 rfl ?_
  refine xg_iload_n hC dL_law_169 rfl ?_
  refine xg_iconst hC dL_law_170 ?_
  refine xg_iadd hC dL_law_171 ?_
  refine xg_scr hC hX hb hbA (xm_w_in _) dL_law_172 (fun b10 => ?_)
  refine xg_aload_n hC dL_law_173 rfl ?_
  refine xg_iload_n hC dL_law_174 rfl ?_
  refine xg_iconst hC dL_law_175 ?_
  refine xg_iadd hC dL_law_176 ?_
  refine xg_scr hC hX hb hbA (xm_w_in _) dL_law_177 (fun b11 => ?_)
  refine xg_aload_n hC dL_law_178 rfl ?_
  refine xg_iload_n hC dL_law_179 rfl ?_
  refine xg_iconst hC dL_law_180 ?_
  refine xg_iadd hC dL_law_181 ?_
  refine xg_scr hC hX hb hbA (xm_w_in _) dL_law_182 (fun b12 => ?_)
  refine xg_callV hC (ci := 10) (w_X11_feed hI o6.1 ((xs (xm_w (x3 + (1 : Int))).toNat).toInt) ((xs (xm_w (x3 + (2 : Int))).toNat).toInt) ((xs (xm_w (x3 + (3 : Int))).toNat).toInt) ((xs (xm_w (x3 + (4 : Int))).toNat).toInt) ((xs (xm_w (x3 + (5 : Int))).toNat).toInt) (xm_in_toInt _) (xm_in_toInt _) (xm_in_toInt _) (xm_in_toInt _) (xm_in_toInt _)) xl_M_L_17 xl_V_X11_feed ((xm_hK (a := 84) (kd := 0) (n := 10) hI rfl)).2 ((xm_hK (a := 84) (kd := 0) (n := 10) hI rfl).1 _) (by decide) rfl (by decide) ⟨by omega, by omega⟩ dL_law_183 (rest := [.int (xm_J o6.2)]) rfl rfl (Nat.le_of_ble_eq_true rfl) rfl rfl (st2 := fun o => .int (xm_J o.2) :: [.int (xm_J o6.2)]) (fun _ => rfl) (fun o13 k14 => ?_)
  refine xg_icmp_eq hC k7 k14 748 dL_law_186 rfl (fun _ => ?_) (fun _ => xg_none)
  refine xg_iinc hC (l' := [(3, .int (xm_J (xm_w (x3 + 6)))), (0, .ref b), (1, .ref (xm_B (xx_G X) + 1)), (2, .ref (xm_B (xx_G X) + 84))]) dL_law_748 (by decide) 3 rfl rfl ?_
  refine xg_goto hC 18 dL_law_751 rfl ?_
  exact xg_pick [1, 2, 3, 0] rfl (hself o13.1 (xm_w (x3 + 6)) _ _ (by omega) (by omega) (xm_w_in _))
theorem wl_1 {X : xm_X} {b N : Nat} {xs : Nat → Int32} (hC : xm_C X RL cL_law 4 2048 600000 7302250) (hI : xx_I X = xm_I) (hX : va_X b N xs (xx_s X) (xx_s X).heap) (hb : b < (xx_s X).heap.size) (hbA : ¬ xm_A X b) (kc sc : Nat) (hk : kc ≤ 2000 ∧ sc ≤ 30000) {self : xm_Mem → Int → Option xm_Out} (hself : ∀ (σ : xm_Mem) (x3 : Int) (kc1 sc1 : Nat), kc1 ≤ kc + 1 → sc1 ≤ sc + 10 → xm_in x3 → xm_V X kc1 sc1 (self σ x3) σ 18 [(0, .ref b), (1, .ref (xm_B (xx_G X) + 1)), (2, .ref (xm_B (xx_G X) + 84)), (3, .int (xm_J x3))] []) (σ : xm_Mem) (x3 : Int) (h3 : xm_in x3) : xm_V X kc sc (fl_1 N xs self σ x3) σ 191 [(0, .ref b), (1, .ref (xm_B (xx_G X) + 1)), (2, .ref (xm_B (xx_G X) + 84)), (3, .int (xm_J x3))] [] := by
  unfold fl_1
  refine xg_aload_n hC dL_law_191 rfl ?_
  refine xg_aload_n hC dL_law_192 rfl ?_
  refine xg_iload_n hC dL_law_193 rfl ?_
  refine xg_iconst hC dL_law_194 ?_
  refine xg_iadd hC dL_law_195 ?_
  refine xg_scr hC hX hb hbA (xm_w_in _) dL_law_196 (fun b15 => ?_)
  refine xg_callV hC (ci := 9) (w_X10_end hI σ ((xs (xm_w (x3 + (1 : Int))).toNat).toInt) (xm_in_toInt _)) xl_M_L_18 xl_V_X10_end ((xm_hK (a := 1) (kd := 0) (n := 9) hI rfl)).2 ((xm_hK (a := 1) (kd := 0) (n := 9) hI rfl).1 _) (by decide) rfl (by decide) ⟨by omega, by omega⟩ dL_law_197 (rest := []) rfl rfl (Nat.le_of_ble_eq_true rfl) rfl rfl (st2 := fun o => .int (xm_J o.2) :: []) (fun _ => rfl) (fun o16 k17 => ?_)
  refine xg_aload_n hC dL_law_200 rfl ?_
  refine xg_aload_n hC dL_law_201 rfl ?_
  refine xg_iload_n hC dL_law_202 rfl ?_
  refine xg_iconst hC dL_law_203 ?_
  refine xg_iadd hC dL_law_204 ?_
  refine xg_scr hC hX hb hbA (xm_w_in _) dL_law_205 (fun b18 => ?_)
  refine xg_callV hC (ci := 10) (w_X11_end hI o16.1 ((xs (xm_w (x3 + (1 : Int))).toNat).toInt) (xm_in_toInt _)) xl_M_L_22 xl_V_X11_end ((xm_hK (a := 84) (kd := 0) (n := 10) hI rfl)).2 ((xm_hK (a := 84) (kd := 0) (n := 10) hI rfl).1 _) (by decide) rfl (by decide) ⟨by omega, by omega⟩ dL_law_206 (rest := [.int (xm_J o16.2)]) rfl rfl (Nat.le_of_ble_eq_true rfl) rfl rfl (st2 := fun o => .int (xm_J o.2) :: [.int (xm_J o16.2)]) (fun _ => rfl) (fun o19 k20 => ?_)
  refine xg_icmp_eq hC k17 k20 748 dL_law_209 rfl (fun _ => ?_) (fun _ => xg_none)
  refine xg_iinc hC (l' := [(3, .int (xm_J (xm_w (x3 + 6)))), (0, .ref b), (1, .ref (xm_B (xx_G X) + 1)), (2, .ref (xm_B (xx_G X) + 84))]) dL_law_748 (by decide) 3 rfl rfl ?_
  refine xg_goto hC 18 dL_law_751 rfl ?_
  exact xg_pick [1, 2, 3, 0] rfl (hself o19.1 (xm_w (x3 + 6)) _ _ (by omega) (by omega) (xm_w_in _))
theorem wl_2 {X : xm_X} {b N : Nat} {xs : Nat → Int32} (hC : xm_C X RL cL_law 4 2048 600000 7302250) (hI : xx_I X = xm_I) (hX : va_X b N xs (xx_s X) (xx_s X).heap) (hb : b < (xx_s X).heap.size) (hbA : ¬ xm_A X b) (kc sc : Nat) (hk : kc ≤ 2000 ∧ sc ≤ 30000) {self : xm_Mem → Int → Option xm_Out} (hself : ∀ (σ : xm_Mem) (x3 : Int) (kc1 sc1 : Nat), kc1 ≤ kc + 1 → sc1 ≤ sc + 10 → xm_in x3 → xm_V X kc1 sc1 (self σ x3) σ 18 [(0, .ref b), (1, .ref (xm_B (xx_G X) + 1)), (2, .ref (xm_B (xx_G X) + 84)), (3, .int (xm_J x3))] []) (σ : xm_Mem) (x3 : Int) (h3 : xm_in x3) : xm_V X kc sc (fl_2 N xs self σ x3) σ 214 [(0, .ref b), (1, .ref (xm_B (xx_G X) + 1)), (2, .ref (xm_B (xx_G X) + 84)), (3, .int (xm_J x3))] [] := by
  unfold fl_2
  refine xg_aload_n hC dL_law_214 rfl ?_
  refine xg_callV hC (ci := 9) (w_X10_record hI σ) xl_M_L_23 xl_V_X10_record ((xm_hK (a := 1) (kd := 0) (n := 9) hI rfl)).2 ((xm_hK (a := 1) (kd := 0) (n := 9) hI rfl).1 _) (by decide) rfl (by decide) ⟨by omega, by omega⟩ dL_law_215 (rest := []) rfl rfl (Nat.le_of_ble_eq_true rfl) rfl rfl (st2 := fun o => .int (xm_J o.2) :: []) (fun _ => rfl) (fun o21 k22 => ?_)
  refine xg_aload_n hC dL_law_218 rfl ?_
  refine xg_callV hC (ci := 10) (w_X11_record hI o21.1) xl_M_L_27 xl_V_X11_record ((xm_hK (a := 84) (kd := 0) (n := 10) hI rfl)).2 ((xm_hK (a := 84) (kd := 0) (n := 10) hI rfl).1 _) (by decide) rfl (by decide) ⟨by omega, by omega⟩ dL_law_219 (rest := [.int (xm_J o21.2)]) rfl rfl (Nat.le_of_ble_eq_true rfl) rfl rfl (st2 := fun o => .int (xm_J o.2) :: [.int (xm_J o21.2)]) (fun _ => rfl) (fun o23 k24 => ?_)
  refine xg_icmp_eq hC k22 k24 748 dL_law_222 rfl (fun _ => ?_) (fun _ => xg_none)
  refine xg_iinc hC (l' := [(3, .int (xm_J (xm_w (x3 + 6)))), (0, .ref b), (1, .ref (xm_B (xx_G X) + 1)), (2, .ref (xm_B (xx_G X) + 84))]) dL_law_748 (by decide) 3 rfl rfl ?_
  refine xg_goto hC 18 dL_law_751 rfl ?_
  exact xg_pick [1, 2, 3, 0] rfl (hself o23.1 (xm_w (x3 + 6)) _ _ (by omega) (by omega) (xm_w_in _))
theorem wl_3 {X : xm_X} {b N : Nat} {xs : Nat → Int32} (hC : xm_C X RL cL_law 4 2048 600000 7302250) (hI : xx_I X = xm_I) (hX : va_X b N xs (xx_s X) (xx_s X).heap) (hb : b < (xx_s X).heap.size) (hbA : ¬ xm_A X b) (kc sc : Nat) (hk : kc ≤ 2000 ∧ sc ≤ 30000) {self : xm_Mem → Int → Option xm_Out} (hself : ∀ (σ : xm_Mem) (x3 : Int) (kc1 sc1 : Nat), kc1 ≤ kc + 1 → sc1 ≤ sc + 10 → xm_in x3 → xm_V X kc1 sc1 (self σ x3) σ 18 [(0, .ref b), (1, .ref (xm_B (xx_G X) + 1)), (2, .ref (xm_B (xx_G X) + 84)), (3, .int (xm_J x3))] []) (σ : xm_Mem) (x3 : Int) (h3 : xm_in x3) : xm_V X kc sc (fl_3 N xs self σ x3) σ 227 [(0, .ref b), (1, .ref (xm_B (xx_G X) + 1)), (2, .ref (xm_B (xx_G X) + 84)), (3, .int (xm_J x3))] [] := by
  unfold fl_3
  refine xg_aload_n hC dL_law_227 rfl ?_
  refine xg_callV hC (ci := 9) (w_X10_place hI σ) xl_M_L_28 xl_V_X10_place ((xm_hK (a := 1) (kd := 0) (n := 9) hI rfl)).2 ((xm_hK (a := 1) (kd := 0) (n := 9) hI rfl).1 _) (by decide) rfl (by decide) ⟨by omega, by omega⟩ dL_law_228 (rest := []) rfl rfl (Nat.le_of_ble_eq_true rfl) rfl rfl (st2 := fun o => .int (xm_J o.2) :: []) (fun _ => rfl) (fun o25 k26 => ?_)
  refine xg_aload_n hC dL_law_231 rfl ?_
  refine xg_callV hC (ci := 10) (w_X11_place hI o25.1) xl_M_L_31 xl_V_X11_place ((xm_hK (a := 84) (kd := 0) (n := 10) hI rfl)).2 ((xm_hK (a := 84) (kd := 0) (n := 10) hI rfl).1 _) (by decide) rfl (by decide) ⟨by omega, by omega⟩ dL_law_232 (rest := [.int (xm_J o25.2)]) rfl rfl (Nat.le_of_ble_eq_true rfl) rfl rfl (st2 := fun o => .int (xm_J o.2) :: [.int (xm_J o25.2)]) (fun _ => rfl) (fun o27 k28 => ?_)
  refine xg_icmp_eq hC k26 k28 748 dL_law_235 rfl (fun _ => ?_) (fun _ => xg_none)
  refine xg_iinc hC (l' := [(3, .int (xm_J (xm_w (x3 + 6)))), (0, .ref b), (1, .ref (xm_B (xx_G X) + 1)), (2, .ref (xm_B (xx_G X) + 84))]) dL_law_748 (by decide) 3 rfl rfl ?_
  refine xg_goto hC 18 dL_law_751 rfl ?_
  exact xg_pick [1, 2, 3, 0] rfl (hself o27.1 (xm_w (x3 + 6)) _ _ (by omega) (by omega) (xm_w_in _))
theorem wl_4 {X : xm_X} {b N : Nat} {xs : Nat → Int32} (hC : xm_C X RL cL_law 4 2048 600000 7302250) (hI : xx_I X = xm_I) (hX : va_X b N xs (xx_s X) (xx_s X).heap) (hb : b < (xx_s X).heap.size) (hbA : ¬ xm_A X b) (kc sc : Nat) (hk : kc ≤ 2000 ∧ sc ≤ 30000) {self : xm_Mem → Int → Option xm_Out} (hself : ∀ (σ : xm_Mem) (x3 : Int) (kc1 sc1 : Nat), kc1 ≤ kc + 1 → sc1 ≤ sc + 10 → xm_in x3 → xm_V X kc1 sc1 (self σ x3) σ 18 [(0, .ref b), (1, .ref (xm_B (xx_G X) + 1)), (2, .ref (xm_B (xx_G X) + 84)), (3, .int (xm_J x3))] []) (σ : xm_Mem) (x3 : Int) (h3 : xm_in x3) : xm_V X kc sc (fl_4 N xs self σ x3) σ 240 [(0, .ref b), (1, .ref (xm_B (xx_G X) + 1)), (2, .ref (xm_B (xx_G X) + 84)), (3, .int (xm_J x3))] [] := by
  unfold fl_4
  refine xg_aload_n hC dL_law_240 rfl ?_
  refine xg_callV hC (ci := 9) (w_X10_bond hI σ) xl_M_L_32 xl_V_X10_bond ((xm_hK (a := 1) (kd := 0) (n := 9) hI rfl)).2 ((xm_hK (a := 1) (kd := 0) (n := 9) hI rfl).1 _) (by decide) rfl (by decide) ⟨by omega, by omega⟩ dL_law_241 (rest := []) rfl rfl (Nat.le_of_ble_eq_true rfl) rfl rfl (st2 := fun o => .int (xm_J o.2) :: []) (fun _ => rfl) (fun o29 k30 => ?_)
  refine xg_aload_n hC dL_law_244 rfl ?_
  refine xg_callV hC (ci := 10) (w_X11_bond hI o29.1) xl_M_L_35 xl_V_X11_bond ((xm_hK (a := 84) (kd := 0) (n := 10) hI rfl)).2 ((xm_hK (a := 84) (kd := 0) (n := 10) hI rfl).1 _) (by decide) rfl (by decide) ⟨by omega, by omega⟩ dL_law_245 (rest := [.int (xm_J o29.2)]) rfl rfl (Nat.le_of_ble_eq_true rfl) rfl rfl (st2 := fun o => .int (xm_J o.2) :: [.int (xm_J o29.2)]) (fun _ => rfl) (fun o31 k32 => ?_)
  refine xg_icmp_eq hC k30 k32 748 dL_law_248 rfl (fun _ => ?_) (fun _ => xg_none)
  refine xg_iinc hC (l' := [(3, .int (xm_J (xm_w (x3 + 6)))), (0, .ref b), (1, .ref (xm_B (xx_G X) + 1)), (2, .ref (xm_B (xx_G X) + 84))]) dL_law_748 (by decide) 3 rfl rfl ?_
  refine xg_goto hC 18 dL_law_751 rfl ?_
  exact xg_pick [1, 2, 3, 0] rfl (hself o31.1 (xm_w (x3 + 6)) _ _ (by omega) (by omega) (xm_w_in _))
theorem wl_5 {X : xm_X} {b N : Nat} {xs : Nat → Int32} (hC : xm_C X RL cL_law 4 2048 600000 7302250) (hI : xx_I X = xm_I) (hX : va_X b N xs (xx_s X) (xx_s X).heap) (hb : b < (xx_s X).heap.size) (hbA : ¬ xm_A X b) (kc sc : Nat) (hk : kc ≤ 2000 ∧ sc ≤ 30000) {self : xm_Mem → Int → Option xm_Out} (hself : ∀ (σ : xm_Mem) (x3 : Int) (kc1 sc1 : Nat), kc1 ≤ kc + 1 → sc1 ≤ sc + 10 → xm_in x3 → xm_V X kc1 sc1 (self σ x3) σ 18 [(0, .ref b), (1, .ref (xm_B (xx_G X) + 1)), (2, .ref (xm_B (xx_G X) + 84)), (3, .int (xm_J x3))] []) (σ : xm_Mem) (x3 : Int) (h3 : xm_in x3) : xm_V X kc sc (fl_5 N xs self σ x3) σ 253 [(0, .ref b), (1, .ref (xm_B (xx_G X) + 1)), (2, .ref (xm_B (xx_G X) + 84)), (3, .int (xm_J x3))] [] := by
  unfold fl_5
  refine xg_aload_n hC dL_law_253 rfl ?_
  refine xg_aload_n hC dL_law_254 rfl ?_
  refine xg_iload_n hC dL_law_255 rfl ?_
  refine xg_iconst hC dL_law_256 ?_
  refine xg_iadd hC dL_law_257 ?_
  refine xg_scr hC hX hb hbA (xm_w_in _) dL_law_258 (fun b33 => ?_)
  refine xg_callV hC (ci := 9) (w_X10_strike hI σ ((xs (xm_w (x3 + (1 : Int))).toNat).toInt) (xm_in_toInt _)) xl_M_L_36 xl_V_X10_strike ((xm_hK (a := 1) (kd := 0) (n := 9) hI rfl)).2 ((xm_hK (a := 1) (kd := 0) (n := 9) hI rfl).1 _) (by decide) rfl (by decide) ⟨by omega, by omega⟩ dL_law_259 (rest := []) rfl rfl (Nat.le_of_ble_eq_true rfl) rfl rfl (st2 := fun o => .int (xm_J o.2) :: []) (fun _ => rfl) (fun o34 k35 => ?_)
  refine xg_aload_n hC dL_law_262 rfl ?_
  refine xg_aload_n hC dL_law_263 rfl ?_
  refine xg_iload_n hC dL_law_264 rfl ?_
  refine xg_iconst hC dL_law_265 ?_
  refine xg_iadd hC dL_law_266 ?_
  refine xg_scr hC hX hb hbA (xm_w_in _) dL_law_267 (fun b36 => ?_)
  refine xg_callV hC (ci := 10) (w_X11_strike hI o34.1 ((xs (xm_w (x3 + (1 : Int))).toNat).toInt) (xm_in_toInt _)) xl_M_L_39 xl_V_X11_strike ((xm_hK (a := 84) (kd := 0) (n := 10) hI rfl)).2 ((xm_hK (a := 84) (kd := 0) (n := 10) hI rfl).1 _) (by decide) rfl (by decide) ⟨by omega, by omega⟩ dL_law_268 (rest := [.int (xm_J o34.2)]) rfl rfl (Nat.le_of_ble_eq_true rfl) rfl rfl (st2 := fun o => .int (xm_J o.2) :: [.int (xm_J o34.2)]) (fun _ => rfl) (fun o37 k38 => ?_)
  refine xg_icmp_eq hC k35 k38 748 dL_law_271 rfl (fun _ => ?_) (fun _ => xg_none)
  refine xg_iinc hC (l' := [(3, .int (xm_J (xm_w (x3 + 6)))), (0, .ref b), (1, .ref (xm_B (xx_G X) + 1)), (2, .ref (xm_B (xx_G X) + 84))]) dL_law_748 (by decide) 3 rfl rfl ?_
  refine xg_goto hC 18 dL_law_751 rfl ?_
  exact xg_pick [1, 2, 3, 0] rfl (hself o37.1 (xm_w (x3 + 6)) _ _ (by omega) (by omega) (xm_w_in _))
theorem wl_6 {X : xm_X} {b N : Nat} {xs : Nat → Int32} (hC : xm_C X RL cL_law 4 2048 600000 7302250) (hI : xx_I X = xm_I) (hX : va_X b N xs (xx_s X) (xx_s X).heap) (hb : b < (xx_s X).heap.size) (hbA : ¬ xm_A X b) (kc sc : Nat) (hk : kc ≤ 2000 ∧ sc ≤ 30000) {self : xm_Mem → Int → Option xm_Out} (hself : ∀ (σ : xm_Mem) (x3 : Int) (kc1 sc1 : Nat), kc1 ≤ kc + 1 → sc1 ≤ sc + 10 → xm_in x3 → xm_V X kc1 sc1 (self σ x3) σ 18 [(0, .ref b), (1, .ref (xm_B (xx_G X) + 1)), (2, .ref (xm_B (xx_G X) + 84)), (3, .int (xm_J x3))] []) (σ : xm_Mem) (x3 : Int) (h3 : xm_in x3) : xm_V X kc sc (fl_6 N xs self σ x3) σ 276 [(0, .ref b), (1, .ref (xm_B (xx_G X) + 1)), (2, .ref (xm_B (xx_G X) + 84)), (3, .int (xm_J x3))] [] := by
  unfold fl_6
  refine xg_aload_n hC dL_law_276 rfl ?_
  refine xg_aload_n hC dL_law_277 rfl ?_
  refine xg_iload_n hC dL_law_278 rfl ?_
  refine xg_iconst hC dL_law_279 ?_
  refine xg_iadd hC dL_law_280 ?_
  refine xg_scr hC hX hb hbA (xm_w_in _) dL_law_281 (fun b39 => ?_)
  refine xg_callV hC (ci := 9) (w_X10_count hI σ ((xs (xm_w (x3 + (1 : Int))).toNat).toInt) (xm_in_toInt _)) xl_M_L_40 xl_V_X10_count ((xm_hK (a := 1) (kd := 0) (n := 9) hI rfl)).2 ((xm_hK (a := 1) (kd := 0) (n := 9) hI rfl).1 _) (by decide) rfl (by decide) ⟨by omega, by omega⟩ dL_law_282 (rest := []) rfl rfl (Nat.le_of_ble_eq_true rfl) rfl rfl (st2 := fun o => .int (xm_J o.2) :: []) (fun _ => rfl) (fun o40 k41 => ?_)
  refine xg_aload_n hC dL_law_285 rfl ?_
  refine xg_aload_n hC dL_law_286 rfl ?_
  refine xg_iload_n hC dL_law_287 rfl ?_
  refine xg_iconst hC dL_law_288 ?_
  refine xg_iadd hC dL_law_289 ?_
  refine xg_scr hC hX hb hbA (xm_w_in _) dL_law_290 (fun b42 => ?_)
  refine xg_callV hC (ci := 10) (w_X11_count hI o40.1 ((xs (xm_w (x3 + (1 : Int))).toNat).toInt) (xm_in_toInt _)) xl_M_L_43 xl_V_X11_count ((xm_hK (a := 84) (kd := 0) (n := 10) hI rfl)).2 ((xm_hK (a := 84) (kd := 0) (n := 10) hI rfl).1 _) (by decide) rfl (by decide) ⟨by omega, by omega⟩ dL_law_291 (rest := [.int (xm_J o40.2)]) rfl rfl (Nat.le_of_ble_eq_true rfl) rfl rfl (st2 := fun o => .int (xm_J o.2) :: [.int (xm_J o40.2)]) (fun _ => rfl) (fun o43 k44 => ?_)
  refine xg_icmp_eq hC k41 k44 748 dL_law_294 rfl (fun _ => ?_) (fun _ => xg_none)
  refine xg_iinc hC (l' := [(3, .int (xm_J (xm_w (x3 + 6)))), (0, .ref b), (1, .ref (xm_B (xx_G X) + 1)), (2, .ref (xm_B (xx_G X) + 84))]) dL_law_748 (by decide) 3 rfl rfl ?_
  refine xg_goto hC 18 dL_law_751 rfl ?_
  exact xg_pick [1, 2, 3, 0] rfl (hself o43.1 (xm_w (x3 + 6)) _ _ (by omega) (by omega) (xm_w_in _))
theorem wl_7 {X : xm_X} {b N : Nat} {xs : Nat → Int32} (hC : xm_C X RL cL_law 4 2048 600000 7302250) (hI : xx_I X = xm_I) (hX : va_X b N xs (xx_s X) (xx_s X).heap) (hb : b < (xx_s X).heap.size) (hbA : ¬ xm_A X b) (kc sc : Nat) (hk : kc ≤ 2000 ∧ sc ≤ 30000) {self : xm_Mem → Int → Option xm_Out} (hself : ∀ (σ : xm_Mem) (x3 : Int) (kc1 sc1 : Nat), kc1 ≤ kc + 1 → sc1 ≤ sc + 10 → xm_in x3 → xm_V X kc1 sc1 (self σ x3) σ 18 [(0, .ref b), (1, .ref (xm_B (xx_G X) + 1)), (2, .ref (xm_B (xx_G X) + 84)), (3, .int (xm_J x3))] []) (σ : xm_Mem) (x3 : Int) (h3 : xm_in x3) : xm_V X kc sc (fl_7 N xs self σ x3) σ 299 [(0, .ref b), (1, .ref (xm_B (xx_G X) + 1)), (2, .ref (xm_B (xx_G X) + 84)), (3, .int (xm_J x3))] [] := by
  unfold fl_7
  refine xg_aload_n hC dL_law_299 rfl ?_
  refine xg_aload_n hC dL_law_300 rfl ?_
  refine xg_iload_n hC dL_law_301 rfl ?_
  refine xg_iconst hC dL_law_302 ?_
  refine xg_iadd hC dL_law_303 ?_
  refine xg_scr hC hX hb hbA (xm_w_in _) dL_law_304 (fun b45 => ?_)
  refine xg_aload_n hC dL_law_305 rfl ?_
  refine xg_iload_n hC dL_law_306 rfl ?_
  refine xg_iconst hC dL_law_307 ?_
  refine xg_iadd hC dL_law_308 ?_
  refine xg_scr hC hX hb hbA (xm_w_in _) dL_law_309 (fun b46 => ?_)
  refine xg_callV hC (ci := 9) (w_X10_fact hI σ ((xs (xm_w (x3 + (1 : Int))).toNat).toInt) ((xs (xm_w (x3 + (2 : Int))).toNat).toInt) (xm_in_toInt _) (xm_in_toInt _)) xl_M_L_44 xl_V_X10_fact ((xm_hK (a := 1) (kd := 0) (n := 9) hI rfl)).2 ((xm_hK (a := 1) (kd := 0) (n := 9) hI rfl).1 _) (by decide) rfl (by decide) ⟨by omega, by omega⟩ dL_law_310 (rest := []) rfl rfl (Nat.le_of_ble_eq_true rfl) rfl rfl (st2 := fun o => .int (xm_J o.2) :: []) (fun _ => rfl) (fun o47 k48 => ?_)
  refine xg_aload_n hC dL_law_313 rfl ?_
  refine xg_aload_n hC dL_law_314 rfl ?_
  refine xg_iload_n hC dL_law_315 rfl ?_
  refine xg_iconst hC dL_law_316 ?_
  refine xg_iadd hC dL_law_317 ?_
  refine xg_scr hC hX hb hbA (xm_w_in _) dL_law_318 (fun b49 => ?_)
  refine xg_aload_n hC dL_law_319 rfl ?_
  refine xg_iload_n hC dL_law_320 rfl ?_
  refine xg_iconst hC dL_law_321 ?_
  refine xg_iadd hC dL_law_322 ?_
  refine xg_scr hC hX hb hbA (xm_w_in _) dL_law_323 (fun b50 => ?_)
  refine xg_callV hC (ci := 10) (w_X11_fact hI o47.1 ((xs (xm_w (x3 + (1 : Int))).toNat).toInt) ((xs (xm_w (x3 + (2 : Int))).toNat).toInt) (xm_in_toInt _) (xm_in_toInt _)) xl_M_L_48 xl_V_X11_fact ((xm_hK (a := 84) (kd := 0) (n := 10) hI rfl)).2 ((xm_hK (a := 84) (kd := 0) (n := 10) hI rfl).1 _) (by decide) rfl (by decide) ⟨by omega, by omega⟩ dL_law_324 (rest := [.int (xm_J o47.2)]) rfl rfl (Nat.le_of_ble_eq_true rfl) rfl rfl (st2 := fun o => .int (xm_J o.2) :: [.int (xm_J o47.2)]) (fun _ => rfl) (fun o51 k52 => ?_)
  refine xg_icmp_eq hC k48 k52 748 dL_law_327 rfl (fun _ => ?_) (fun _ => xg_none)
  refine xg_iinc hC (l' := [(3, .int (xm_J (xm_w (x3 + 6)))), (0, .ref b), (1, .ref (xm_B (xx_G X) + 1)), (2, .ref (xm_B (xx_G X) + 84))]) dL_law_748 (by decide) 3 rfl rfl ?_
  refine xg_goto hC 18 dL_law_751 rfl ?_
  exact xg_pick [1, 2, 3, 0] rfl (hself o51.1 (xm_w (x3 + 6)) _ _ (by omega) (by omega) (xm_w_in _))
theorem wl_8 {X : xm_X} {b N : Nat} {xs : Nat → Int32} (hC : xm_C X RL cL_law 4 2048 600000 7302250) (hI : xx_I X = xm_I) (hX : va_X b N xs (xx_s X) (xx_s X).heap) (hb : b < (xx_s X).heap.size) (hbA : ¬ xm_A X b) (kc sc : Nat) (hk : kc ≤ 2000 ∧ sc ≤ 30000) {self : xm_Mem → Int → Option xm_Out} (hself : ∀ (σ : xm_Mem) (x3 : Int) (kc1 sc1 : Nat), kc1 ≤ kc + 1 → sc1 ≤ sc + 10 → xm_in x3 → xm_V X kc1 sc1 (self σ x3) σ 18 [(0, .ref b), (1, .ref (xm_B (xx_G X) + 1)), (2, .ref (xm_B (xx_G X) + 84)), (3, .int (xm_J x3))] []) (σ : xm_Mem) (x3 : Int) (h3 : xm_in x3) : xm_V X kc sc (fl_8 N xs self σ x3) σ 332 [(0, .ref b), (1, .ref (xm_B (xx_G X) + 1)), (2, .ref (xm_B (xx_G X) + 84)), (3, .int (xm_J x3))] [] := by
  unfold fl_8
  refine xg_aload_n hC dL_law_332 rfl ?_
  refine xg_aload_n hC dL_law_333 rfl ?_
  refine xg_iload_n hC dL_law_334 rfl ?_
  refine xg_iconst hC dL_law_335 ?_
  refine xg_iadd hC dL_law_336 ?_
  refine xg_scr hC hX hb hbA (xm_w_in _) dL_law_337 (fun b53 => ?_)
  refine xg_aload_n hC dL_law_338 rfl ?_
  refine xg_iload_n hC dL_law_339 rfl ?_
  refine xg_iconst hC dL_law_340 ?_
  refine xg_iadd hC dL_law_341 ?_
  refine xg_scr hC hX hb hbA (xm_w_in _) dL_law_342 (fun b54 => ?_)
  refine xg_callV hC (ci := 9) (w_X10_person hI σ ((xs (xm_w (x3 + (1 : Int))).toNat).toInt) ((xs (xm_w (x3 + (2 : Int))).toNat).toInt) (xm_in_toInt _) (xm_in_toInt _)) xl_M_L_49 xl_V_X10_person ((xm_hK (a := 1) (kd := 0) (n := 9) hI rfl)).2 ((xm_hK (a := 1) (kd := 0) (n := 9) hI rfl).1 _) (by decide) rfl (by decide) ⟨by omega, by omega⟩ dL_law_343 (rest := []) rfl rfl (Nat.le_of_ble_eq_true rfl) rfl rfl (st2 := fun o => .int (xm_J o.2) :: []) (fun _ => rfl) (fun o55 k56 => ?_)
  refine xg_aload_n hC dL_law_346 rfl ?_
  refine xg_aload_n hC dL_law_347 rfl ?_
  refine xg_iload_n hC dL_law_348 rfl ?_
  refine xg_iconst hC dL_law_349 ?_
  refine xg_iadd hC dL_law_350 ?_
  refine xg_scr hC hX hb hbA (xm_w_in _) dL_law_351 (fun b57 => ?_)
  refine xg_aload_n hC dL_law_352 rfl ?_
  refine xg_iload_n hC dL_law_353 rfl ?_
  refine xg_iconst hC dL_law_354 ?_
  refine xg_iadd hC dL_law_355 ?_
  refine xg_scr hC hX hb hbA (xm_w_in _) dL_law_356 (fun b58 => ?_)
  refine xg_callV hC (ci := 10) (w_X11_person hI o55.1 ((xs (xm_w (x3 + (1 : Int))).toNat).toInt) ((xs (xm_w (x3 + (2 : Int))).toNat).toInt) (xm_in_toInt _) (xm_in_toInt _)) xl_M_L_52 xl_V_X11_person ((xm_hK (a := 84) (kd := 0) (n := 10) hI rfl)).2 ((xm_hK (a := 84) (kd := 0) (n := 10) hI rfl).1 _) (by decide) rfl (by decide) ⟨by omega, by omega⟩ dL_law_357 (rest := [.int (xm_J o55.2)]) rfl rfl (Nat.le_of_ble_eq_true rfl) rfl rfl (st2 := fun o => .int (xm_J o.2) :: [.int (xm_J o55.2)]) (fun _ => rfl) (fun o59 k60 => ?_)
  refine xg_icmp_eq hC k56 k60 748 dL_law_360 rfl (fun _ => ?_) (fun _ => xg_none)
  refine xg_iinc hC (l' := [(3, .int (xm_J (xm_w (x3 + 6)))), (0, .ref b), (1, .ref (xm_B (xx_G X) + 1)), (2, .ref (xm_B (xx_G X) + 84))]) dL_law_748 (by decide) 3 rfl rfl ?_
  refine xg_goto hC 18 dL_law_751 rfl ?_
  exact xg_pick [1, 2, 3, 0] rfl (hself o59.1 (xm_w (x3 + 6)) _ _ (by omega) (by omega) (xm_w_in _))
theorem wl_9 {X : xm_X} {b N : Nat} {xs : Nat → Int32} (hC : xm_C X RL cL_law 4 2048 600000 7302250) (hI : xx_I X = xm_I) (hX : va_X b N xs (xx_s X) (xx_s X).heap) (hb : b < (xx_s X).heap.size) (hbA : ¬ xm_A X b) (kc sc : Nat) (hk : kc ≤ 2000 ∧ sc ≤ 30000) {self : xm_Mem → Int → Option xm_Out} (hself : ∀ (σ : xm_Mem) (x3 : Int) (kc1 sc1 : Nat), kc1 ≤ kc + 1 → sc1 ≤ sc + 10 → xm_in x3 → xm_V X kc1 sc1 (self σ x3) σ 18 [(0, .ref b), (1, .ref (xm_B (xx_G X) + 1)), (2, .ref (xm_B (xx_G X) + 84)), (3, .int (xm_J x3))] []) (σ : xm_Mem) (x3 : Int) (h3 : xm_in x3) : xm_V X kc sc (fl_9 N xs self σ x3) σ 365 [(0, .ref b), (1, .ref (xm_B (xx_G X) + 1)), (2, .ref (xm_B (xx_G X) + 84)), (3, .int (xm_J x3))] [] := by
  unfold fl_9
  refine xg_aload_n hC dL_law_365 rfl ?_
  refine xg_aload_n hC dL_law_366 rfl ?_
  refine xg_iload_n hC dL_law_367 rfl ?_
  refine xg_iconst hC dL_law_368 ?_
  refine xg_iadd hC dL_law_369 ?_
  refine xg_scr hC hX hb hbA (xm_w_in _) dL_law_370 (fun b61 => ?_)
  refine xg_aload_n hC dL_law_371 rfl ?_
  refine xg_iload_n hC dL_law_372 rfl ?_
  refine xg_iconst hC dL_law_373 ?_
  refine xg_iadd hC dL_law_374 ?_
  refine xg_scr hC hX hb hbA (xm_w_in _) dL_law_375 (fun b62 => ?_)
  refine xg_callV hC (ci := 9) (w_X10_partner hI σ ((xs (xm_w (x3 + (1 : Int))).toNat).toInt) ((xs (xm_w (x3 + (2 : Int))).toNat).toInt) (xm_in_toInt _) (xm_in_toInt _)) xl_M_L_53 xl_V_X10_partner ((xm_hK (a := 1) (kd := 0) (n := 9) hI rfl)).2 ((xm_hK (a := 1) (kd := 0) (n := 9) hI rfl).1 _) (by decide) rfl (by decide) ⟨by omega, by omega⟩ dL_law_376 (rest := []) rfl rfl (Nat.le_of_ble_eq_true rfl) rfl rfl (st2 := fun o => .int (xm_J o.2) :: []) (fun _ => rfl) (fun o63 k64 => ?_)
  refine xg_aload_n hC dL_law_379 rfl ?_
  refine xg_aload_n hC dL_law_380 rfl ?_
  refine xg_iload_n hC dL_law_381 rfl ?_
  refine xg_iconst hC dL_law_382 ?_
  refine xg_iadd hC dL_law_383 ?_
  refine xg_scr hC hX hb hbA (xm_w_in _) dL_law_384 (fun b65 => ?_)
  refine xg_aload_n hC dL_law_385 rfl ?_
  refine xg_iload_n hC dL_law_386 rfl ?_
  refine xg_iconst hC dL_law_387 ?_
  refine xg_iadd hC dL_law_388 ?_
  refine xg_scr hC hX hb hbA (xm_w_in _) dL_law_389 (fun b66 => ?_)
  refine xg_callV hC (ci := 10) (w_X11_partner hI o63.1 ((xs (xm_w (x3 + (1 : Int))).toNat).toInt) ((xs (xm_w (x3 + (2 : Int))).toNat).toInt) (xm_in_toInt _) (xm_in_toInt _)) xl_M_L_56 xl_V_X11_partner ((xm_hK (a := 84) (kd := 0) (n := 10) hI rfl)).2 ((xm_hK (a := 84) (kd := 0) (n := 10) hI rfl).1 _) (by decide) rfl (by decide) ⟨by omega, by omega⟩ dL_law_390 (rest := [.int (xm_J o63.2)]) rfl rfl (Nat.le_of_ble_eq_true rfl) rfl rfl (st2 := fun o => .int (xm_J o.2) :: [.int (xm_J o63.2)]) (fun _ => rfl) (fun o67 k68 => ?_)
  refine xg_icmp_eq hC k64 k68 748 dL_law_393 rfl (fun _ => ?_) (fun _ => xg_none)
  refine xg_iinc hC (l' := [(3, .int (xm_J (xm_w (x3 + 6)))), (0, .ref b), (1, .ref (xm_B (xx_G X) + 1)), (2, .ref (xm_B (xx_G X) + 84))]) dL_law_748 (by decide) 3 rfl rfl ?_
  refine xg_goto hC 18 dL_law_751 rfl ?_
  exact xg_pick [1, 2, 3, 0] rfl (hself o67.1 (xm_w (x3 + 6)) _ _ (by omega) (by omega) (xm_w_in _))
theorem wl_10 {X : xm_X} {b N : Nat} {xs : Nat → Int32} (hC : xm_C X RL cL_law 4 2048 600000 7302250) (hI : xx_I X = xm_I) (hX : va_X b N xs (xx_s X) (xx_s X).heap) (hb : b < (xx_s X).heap.size) (hbA : ¬ xm_A X b) (kc sc : Nat) (hk : kc ≤ 2000 ∧ sc ≤ 30000) {self : xm_Mem → Int → Option xm_Out} (hself : ∀ (σ : xm_Mem) (x3 : Int) (kc1 sc1 : Nat), kc1 ≤ kc + 1 → sc1 ≤ sc + 10 → xm_in x3 → xm_V X kc1 sc1 (self σ x3) σ 18 [(0, .ref b), (1, .ref (xm_B (xx_G X) + 1)), (2, .ref (xm_B (xx_G X) + 84)), (3, .int (xm_J x3))] []) (σ : xm_Mem) (x3 : Int) (h3 : xm_in x3) : xm_V X kc sc (fl_10 N xs self σ x3) σ 398 [(0, .ref b), (1, .ref (xm_B (xx_G X) + 1)), (2, .ref (xm_B (xx_G X) + 84)), (3, .int (xm_J x3))] [] := by
  unfold fl_10
  refine xg_aload_n hC dL_law_398 rfl ?_
  refine xg_aload_n hC dL_law_399 rfl ?_
  refine xg_iload_n hC dL_law_400 rfl ?_
  refine xg_iconst hC dL_law_401 ?_
  refine xg_iadd hC dL_law_402 ?_
  refine xg_scr hC hX hb hbA (xm_w_in _) dL_law_403 (fun b69 => ?_)
  refine xg_aload_n hC dL_law_404 rfl ?_
  refine xg_iload_n hC dL_law_405 rfl ?_
  refine xg_iconst hC dL_law_406 ?_
  refine xg_iadd hC dL_law_407 ?_
  refine xg_scr hC hX hb hbA (xm_w_in _) dL_law_408 (fun b70 => ?_)
  refine xg_callV hC (ci := 9) (w_X10_kin hI σ ((xs (xm_w (x3 + (1 : Int))).toNat).toInt) ((xs (xm_w (x3 + (2 : Int))).toNat).toInt) (xm_in_toInt _) (xm_in_toInt _)) xl_M_L_57 xl_V_X10_kin ((xm_hK (a := 1) (kd := 0) (n := 9) hI rfl)).2 ((xm_hK (a := 1) (kd := 0) (n := 9) hI rfl).1 _) (by decide) rfl (by decide) ⟨by omega, by omega⟩ dL_law_409 (rest := []) rfl rfl (Nat.le_of_ble_eq_true rfl) rfl rfl (st2 := fun o => .int (xm_J o.2) :: []) (fun _ => rfl) (fun o71 k72 => ?_)
  refine xg_aload_n hC dL_law_412 rfl ?_
  refine xg_aload_n hC dL_law_413 rfl ?_
  refine xg_iload_n hC dL_law_414 rfl ?_
  refine xg_iconst hC dL_law_415 ?_
  refine xg_iadd hC dL_law_416 ?_
  refine xg_scr hC hX hb hbA (xm_w_in _) dL_law_417 (fun b73 => ?_)
  refine xg_aload_n hC dL_law_418 rfl ?_
  refine xg_iload_n hC dL_law_419 rfl ?_
  refine xg_iconst hC dL_law_420 ?_
  refine xg_iadd hC dL_law_421 ?_
  refine xg_scr hC hX hb hbA (xm_w_in _) dL_law_422 (fun b74 => ?_)
  refine xg_callV hC (ci := 10) (w_X11_kin hI o71.1 ((xs (xm_w (x3 + (1 : Int))).toNat).toInt) ((xs (xm_w (x3 + (2 : Int))).toNat).toInt) (xm_in_toInt _) (xm_in_toInt _)) xl_M_L_60 xl_V_X11_kin ((xm_hK (a := 84) (kd := 0) (n := 10) hI rfl)).2 ((xm_hK (a := 84) (kd := 0) (n := 10) hI rfl).1 _) (by decide) rfl (by decide) ⟨by omega, by omega⟩ dL_law_423 (rest := [.int (xm_J o71.2)]) rfl rfl (Nat.le_of_ble_eq_true rfl) rfl rfl (st2 := fun o => .int (xm_J o.2) :: [.int (xm_J o71.2)]) (fun _ => rfl) (fun o75 k76 => ?_)
  refine xg_icmp_eq hC k72 k76 748 dL_law_426 rfl (fun _ => ?_) (fun _ => xg_none)
  refine xg_iinc hC (l' := [(3, .int (xm_J (xm_w (x3 + 6)))), (0, .ref b), (1, .ref (xm_B (xx_G X) + 1)), (2, .ref (xm_B (xx_G X) + 84))]) dL_law_748 (by decide) 3 rfl rfl ?_
  refine xg_goto hC 18 dL_law_751 rfl ?_
  exact xg_pick [1, 2, 3, 0] rfl (hself o75.1 (xm_w (x3 + 6)) _ _ (by omega) (by omega) (xm_w_in _))
theorem wl_11 {X : xm_X} {b N : Nat} {xs : Nat → Int32} (hC : xm_C X RL cL_law 4 2048 600000 7302250) (hI : xx_I X = xm_I) (hX : va_X b N xs (xx_s X) (xx_s X).heap) (hb : b < (xx_s X).heap.size) (hbA : ¬ xm_A X b) (kc sc : Nat) (hk : kc ≤ 2000 ∧ sc ≤ 30000) {self : xm_Mem → Int → Option xm_Out} (hself : ∀ (σ : xm_Mem) (x3 : Int) (kc1 sc1 : Nat), kc1 ≤ kc + 1 → sc1 ≤ sc + 10 → xm_in x3 → xm_V X kc1 sc1 (self σ x3) σ 18 [(0, .ref b), (1, .ref (xm_B (xx_G X) + 1)), (2, .ref (xm_B (xx_G X) + 84)), (3, .int (xm_J x3))] []) (σ : xm_Mem) (x3 : Int) (h3 : xm_in x3) : xm_V X kc sc (fl_11 N xs self σ x3) σ 431 [(0, .ref b), (1, .ref (xm_B (xx_G X) + 1)), (2, .ref (xm_B (xx_G X) + 84)), (3, .int (xm_J x3))] [] := by
  unfold fl_11
  refine xg_aload_n hC dL_law_431 rfl ?_
  refine xg_aload_n hC dL_law_432 rfl ?_
  refine xg_iload_n hC dL_law_433 rfl ?_
  refine xg_iconst hC dL_law_434 ?_
  refine xg_iadd hC dL_law_435 ?_
  refine xg_scr hC hX hb hbA (xm_w_in _) dL_law_436 (fun b77 => ?_)
  refine xg_aload_n hC dL_law_437 rfl ?_
  refine xg_iload_n hC dL_law_438 rfl ?_
  refine xg_iconst hC dL_law_439 ?_
  refine xg_iadd hC dL_law_440 ?_
  refine xg_scr hC hX hb hbA (xm_w_in _) dL_law_441 (fun b78 => ?_)
  refine xg_callV hC (ci := 9) (w_X10_holder hI σ ((xs (xm_w (x3 + (1 : Int))).toNat).toInt) ((xs (xm_w (x3 + (2 : Int))).toNat).toInt) (xm_in_toInt _) (xm_in_toInt _)) xl_M_L_61 xl_V_X10_holder ((xm_hK (a := 1) (kd := 0) (n := 9) hI rfl)).2 ((xm_hK (a := 1) (kd := 0) (n := 9) hI rfl).1 _) (by decide) rfl (by decide) ⟨by omega, by omega⟩ dL_law_442 (rest := []) rfl rfl (Nat.le_of_ble_eq_true rfl) rfl rfl (st2 := fun o => .int (xm_J o.2) :: []) (fun _ => rfl) (fun o79 k80 => ?_)
  refine xg_aload_n hC dL_law_445 rfl ?_
  refine xg_aload_n hC dL_law_446 rfl ?_
  refine xg_iload_n hC dL_law_447 rfl ?_
  refine xg_iconst hC dL_law_448 ?_
  refine xg_iadd hC dL_law_449 ?_
  refine xg_scr hC hX hb hbA (xm_w_in _) dL_law_450 (fun b81 => ?_)
  refine xg_aload_n hC dL_law_451 rfl ?_
  refine xg_iload_n hC dL_law_452 rfl ?_
  refine xg_iconst hC dL_law_453 ?_
  refine xg_iadd hC dL_law_454 ?_
  refine xg_scr hC hX hb hbA (xm_w_in _) dL_law_455 (fun b82 => ?_)
  refine xg_callV hC (ci := 10) (w_X11_holder hI o79.1 ((xs (xm_w (x3 + (1 : Int))).toNat).toInt) ((xs (xm_w (x3 + (2 : Int))).toNat).toInt) (xm_in_toInt _) (xm_in_toInt _)) xl_M_L_64 xl_V_X11_holder ((xm_hK (a := 84) (kd := 0) (n := 10) hI rfl)).2 ((xm_hK (a := 84) (kd := 0) (n := 10) hI rfl).1 _) (by decide) rfl (by decide) ⟨by omega, by omega⟩ dL_law_456 (rest := [.int (xm_J o79.2)]) rfl rfl (Nat.le_of_ble_eq_true rfl) rfl rfl (st2 := fun o => .int (xm_J o.2) :: [.int (xm_J o79.2)]) (fun _ => rfl) (fun o83 k84 => ?_)
  refine xg_icmp_eq hC k80 k84 748 dL_law_459 rfl (fun _ => ?_) (fun _ => xg_none)
  refine xg_iinc hC (l' := [(3, .int (xm_J (xm_w (x3 + 6)))), (0, .ref b), (1, .ref (xm_B (xx_G X) + 1)), (2, .ref (xm_B (xx_G X) + 84))]) dL_law_748 (by decide) 3 rfl rfl ?_
  refine xg_goto hC 18 dL_law_751 rfl ?_
  exact xg_pick [1, 2, 3, 0] rfl (hself o83.1 (xm_w (x3 + 6)) _ _ (by omega) (by omega) (xm_w_in _))
theorem wl_12 {X : xm_X} {b N : Nat} {xs : Nat → Int32} (hC : xm_C X RL cL_law 4 2048 600000 7302250) (hI : xx_I X = xm_I) (hX : va_X b N xs (xx_s X) (xx_s X).heap) (hb : b < (xx_s X).heap.size) (hbA : ¬ xm_A X b) (kc sc : Nat) (hk : kc ≤ 2000 ∧ sc ≤ 30000) {self : xm_Mem → Int → Option xm_Out} (hself : ∀ (σ : xm_Mem) (x3 : Int) (kc1 sc1 : Nat), kc1 ≤ kc + 1 → sc1 ≤ sc + 10 → xm_in x3 → xm_V X kc1 sc1 (self σ x3) σ 18 [(0, .ref b), (1, .ref (xm_B (xx_G X) + 1)), (2, .ref (xm_B (xx_G X) + 84)), (3, .int (xm_J x3))] []) (σ : xm_Mem) (x3 : Int) (h3 : xm_in x3) : xm_V X kc sc (fl_12 N xs self σ x3) σ 464 [(0, .ref b), (1, .ref (xm_B (xx_G X) + 1)), (2, .ref (xm_B (xx_G X) + 84)), (3, .int (xm_J x3))] [] := by
  unfold fl_12
  refine xg_aload_n hC dL_law_464 rfl ?_
  refine xg_aload_n hC dL_law_465 rfl ?_
  refine xg_iload_n hC dL_law_466 rfl ?_
  refine xg_iconst hC dL_law_467 ?_
  refine xg_iadd hC dL_law_468 ?_
  refine xg_scr hC hX hb hbA (xm_w_in _) dL_law_469 (fun b85 => ?_)
  refine xg_aload_n hC dL_law_470 rfl ?_
  refine xg_iload_n hC dL_law_471 rfl ?_
  refine xg_iconst hC dL_law_472 ?_
  refine xg_iadd hC dL_law_473 ?_
  refine xg_scr hC hX hb hbA (xm_w_in _) dL_law_474 (fun b86 => ?_)
  refine xg_callV hC (ci := 9) (w_X10_since hI σ ((xs (xm_w (x3 + (1 : Int))).toNat).toInt) ((xs (xm_w (x3 + (2 : Int))).toNat).toInt) (xm_in_toInt _) (xm_in_toInt _)) xl_M_L_65 xl_V_X10_since ((xm_hK (a := 1) (kd := 0) (n := 9) hI rfl)).2 ((xm_hK (a := 1) (kd := 0) (n := 9) hI rfl).1 _) (by decide) rfl (by decide) ⟨by omega, by omega⟩ dL_law_475 (rest := []) rfl rfl (Nat.le_of_ble_eq_true rfl) rfl rfl (st2 := fun o => .int (xm_J o.2) :: []) (fun _ => rfl) (fun o87 k88 => ?_)
  refine xg_aload_n hC dL_law_478 rfl ?_
  refine xg_aload_n hC dL_law_479 rfl ?_
  refine xg_iload_n hC dL_law_480 rfl ?_
  refine xg_iconst hC dL_law_481 ?_
  refine xg_iadd hC dL_law_482 ?_
  refine xg_scr hC hX hb hbA (xm_w_in _) dL_law_483 (fun b89 => ?_)
  refine xg_aload_n hC dL_law_484 rfl ?_
  refine xg_iload_n hC dL_law_485 rfl ?_
  refine xg_iconst hC dL_law_486 ?_
  refine xg_iadd hC dL_law_487 ?_
  refine xg_scr hC hX hb hbA (xm_w_in _) dL_law_488 (fun b90 => ?_)
  refine xg_callV hC (ci := 10) (w_X11_since hI o87.1 ((xs (xm_w (x3 + (1 : Int))).toNat).toInt) ((xs (xm_w (x3 + (2 : Int))).toNat).toInt) (xm_in_toInt _) (xm_in_toInt _)) xl_M_L_68 xl_V_X11_since ((xm_hK (a := 84) (kd := 0) (n := 10) hI rfl)).2 ((xm_hK (a := 84) (kd := 0) (n := 10) hI rfl).1 _) (by decide) rfl (by decide) ⟨by omega, by omega⟩ dL_law_489 (rest := [.int (xm_J o87.2)]) rfl rfl (Nat.le_of_ble_eq_true rfl) rfl rfl (st2 := fun o => .int (xm_J o.2) :: [.int (xm_J o87.2)]) (fun _ => rfl) (fun o91 k92 => ?_)
  refine xg_icmp_eq hC k88 k92 748 dL_law_492 rfl (fun _ => ?_) (fun _ => xg_none)
  refine xg_iinc hC (l' := [(3, .int (xm_J (xm_w (x3 + 6)))), (0, .ref b), (1, .ref (xm_B (xx_G X) + 1)), (2, .ref (xm_B (xx_G X) + 84))]) dL_law_748 (by decide) 3 rfl rfl ?_
  refine xg_goto hC 18 dL_law_751 rfl ?_
  exact xg_pick [1, 2, 3, 0] rfl (hself o91.1 (xm_w (x3 + 6)) _ _ (by omega) (by omega) (xm_w_in _))
theorem wl_13 {X : xm_X} {b N : Nat} {xs : Nat → Int32} (hC : xm_C X RL cL_law 4 2048 600000 7302250) (hI : xx_I X = xm_I) (hX : va_X b N xs (xx_s X) (xx_s X).heap) (hb : b < (xx_s X).heap.size) (hbA : ¬ xm_A X b) (kc sc : Nat) (hk : kc ≤ 2000 ∧ sc ≤ 30000) {self : xm_Mem → Int → Option xm_Out} (hself : ∀ (σ : xm_Mem) (x3 : Int) (kc1 sc1 : Nat), kc1 ≤ kc + 1 → sc1 ≤ sc + 10 → xm_in x3 → xm_V X kc1 sc1 (self σ x3) σ 18 [(0, .ref b), (1, .ref (xm_B (xx_G X) + 1)), (2, .ref (xm_B (xx_G X) + 84)), (3, .int (xm_J x3))] []) (σ : xm_Mem) (x3 : Int) (h3 : xm_in x3) : xm_V X kc sc (fl_13 N xs self σ x3) σ 497 [(0, .ref b), (1, .ref (xm_B (xx_G X) + 1)), (2, .ref (xm_B (xx_G X) + 84)), (3, .int (xm_J x3))] [] := by
  unfold fl_13
  refine xg_aload_n hC dL_law_497 rfl ?_
  refine xg_aload_n hC dL_law_498 rfl ?_
  refine xg_iload_n hC dL_law_499 rfl ?_
  refine xg_iconst hC dL_law_500 ?_
  refine xg_iadd hC dL_law_501 ?_
  refine xg_scr hC hX hb hbA (xm_w_in _) dL_law_502 (fun b93 => ?_)
  refine xg_aload_n hC dL_law_503 rfl ?_
  refine xg_iload_n hC dL_law_504 rfl ?_
  refine xg_iconst hC dL_law_505 ?_
  refine xg_iadd hC dL_law_506 ?_
  refine xg_scr hC hX hb hbA (xm_w_in _) dL_law_507 (fun b94 => ?_)
  refine xg_aload_n hC dL_law_508 rfl ?_
  refine xg_iload_n hC dL_law_509 rfl ?_
  refine xg_iconst hC dL_law_510 ?_
  refine xg_iadd hC dL_law_511 ?_
  refine xg_scr hC hX hb hbA (xm_w_in _) dL_law_512 (fun b95 => ?_)
  refine xg_callV hC (ci := 9) (w_X10_line hI σ ((xs (xm_w (x3 + (1 : Int))).toNat).toInt) ((xs (xm_w (x3 + (2 : Int))).toNat).toInt) ((xs (xm_w (x3 + (3 : Int))).toNat).toInt) (xm_in_toInt _) (xm_in_toInt _) (xm_in_toInt _)) xl_M_L_69 xl_V_X10_line ((xm_hK (a := 1) (kd := 0) (n := 9) hI rfl)).2 ((xm_hK (a := 1) (kd := 0) (n := 9) hI rfl).1 _) (by decide) rfl (by decide) ⟨by omega, by omega⟩ dL_law_513 (rest := []) rfl rfl (Nat.le_of_ble_eq_true rfl) rfl rfl (st2 := fun o => .int (xm_J o.2) :: []) (fun _ => rfl) (fun o96 k97 => ?_)
  refine xg_aload_n hC dL_law_516 rfl ?_
  refine xg_aload_n hC dL_law_517 rfl ?_
  refine xg_iload_n hC dL_law_518 rfl ?_
  refine xg_iconst hC dL_law_519 ?_
  refine xg_iadd hC dL_law_520 ?_
  refine xg_scr hC hX hb hbA (xm_w_in _) dL_law_521 (fun b98 => ?_)
  refine xg_aload_n hC dL_law_522 rfl ?_
  refine xg_iload_n hC dL_law_523 rfl ?_
  refine xg_iconst hC dL_law_524 ?_
  refine xg_iadd hC dL_law_525 ?_
  refine xg_scr hC hX hb hbA (xm_w_in _) dL_law_526 (fun b99 => ?_)
  refine xg_aload_n hC dL_law_527 rfl ?_
  refine xg_iload_n hC dL_law_528 rfl ?_
  refine xg_iconst hC dL_law_529 ?_
  refine xg_iadd hC dL_law_530 ?_
  refine xg_scr hC hX hb hbA (xm_w_in _) dL_law_531 (fun b100 => ?_)
  refine xg_callV hC (ci := 10) (w_X11_line hI o96.1 ((xs (xm_w (x3 + (1 : Int))).toNat).toInt) ((xs (xm_w (x3 + (2 : Int))).toNat).toInt) ((xs (xm_w (x3 + (3 : Int))).toNat).toInt) (xm_in_toInt _) (xm_in_toInt _) (xm_in_toInt _)) xl_M_L_73 xl_V_X11_line ((xm_hK (a := 84) (kd := 0) (n := 10) hI rfl)).2 ((xm_hK (a := 84) (kd := 0) (n := 10) hI rfl).1 _) (by decide) rfl (by decide) ⟨by omega, by omega⟩ dL_law_532 (rest := [.int (xm_J o96.2)]) rfl rfl (Nat.le_of_ble_eq_true rfl) rfl rfl (st2 := fun o => .int (xm_J o.2) :: [.int (xm_J o96.2)]) (fun _ => rfl) (fun o101 k102 => ?_)
  refine xg_icmp_eq hC k97 k102 748 dL_law_535 rfl (fun _ => ?_) (fun _ => xg_none)
  refine xg_iinc hC (l' := [(3, .int (xm_J (xm_w (x3 + 6)))), (0, .ref b), (1, .ref (xm_B (xx_G X) + 1)), (2, .ref (xm_B (xx_G X) + 84))]) dL_law_748 (by decide) 3 rfl rfl ?_
  refine xg_goto hC 18 dL_law_751 rfl ?_
  exact xg_pick [1, 2, 3, 0] rfl (hself o101.1 (xm_w (x3 + 6)) _ _ (by omega) (by omega) (xm_w_in _))
theorem wl_14 {X : xm_X} {b N : Nat} {xs : Nat → Int32} (hC : xm_C X RL cL_law 4 2048 600000 7302250) (hI : xx_I X = xm_I) (hX : va_X b N xs (xx_s X) (xx_s X).heap) (hb : b < (xx_s X).heap.size) (hbA : ¬ xm_A X b) (kc sc : Nat) (hk : kc ≤ 2000 ∧ sc ≤ 30000) {self : xm_Mem → Int → Option xm_Out} (hself : ∀ (σ : xm_Mem) (x3 : Int) (kc1 sc1 : Nat), kc1 ≤ kc + 1 → sc1 ≤ sc + 10 → xm_in x3 → xm_V X kc1 sc1 (self σ x3) σ 18 [(0, .ref b), (1, .ref (xm_B (xx_G X) + 1)), (2, .ref (xm_B (xx_G X) + 84)), (3, .int (xm_J x3))] []) (σ : xm_Mem) (x3 : Int) (h3 : xm_in x3) : xm_V X kc sc (fl_14 N xs self σ x3) σ 540 [(0, .ref b), (1, .ref (xm_B (xx_G X) + 1)), (2, .ref (xm_B (xx_G X) + 84)), (3, .int (xm_J x3))] [] := by
  unfold fl_14
  refine xg_aload_n hC dL_law_540 rfl ?_
  refine xg_aload_n hC dL_law_541 rfl ?_
  refine xg_iload_n hC dL_law_542 rfl ?_
  refine xg_iconst hC dL_law_543 ?_
  refine xg_iadd hC dL_law_544 ?_
  refine xg_scr hC hX hb hbA (xm_w_in _) dL_law_545 (fun b103 => ?_)
  refine xg_aload_n hC dL_law_546 rfl ?_
  refine xg_iload_n hC dL_law_547 rfl ?_
  refine xg_iconst hC dL_law_548 ?_
  refine xg_iadd hC dL_law_549 ?_
  refine xg_scr hC hX hb hbA (xm_w_in _) dL_law_550 (fun b104 => ?_)
  refine xg_aload_n hC dL_law_551 rfl ?_
  refine xg_iload_n hC dL_law_552 rfl ?_
  refine xg_iconst hC dL_law_553 ?_
  refine xg_iadd hC dL_law_554 ?_
  refine xg_scr hC hX hb hbA (xm_w_in _) dL_law_555 (fun b105 => ?_)
  refine xg_callV hC (ci := 9) (w_X10_rank hI σ ((xs (xm_w (x3 + (1 : Int))).toNat).toInt) ((xs (xm_w (x3 + (2 : Int))).toNat).toInt) ((xs (xm_w (x3 + (3 : Int))).toNat).toInt) (xm_in_toInt _) (xm_in_toInt _) (xm_in_toInt _)) xl_M_L_74 xl_V_X10_rank ((xm_hK (a := 1) (kd := 0) (n := 9) hI rfl)).2 ((xm_hK (a := 1) (kd := 0) (n := 9) hI rfl).1 _) (by decide) rfl (by decide) ⟨by omega, by omega⟩ dL_law_556 (rest := []) rfl rfl (Nat.le_of_ble_eq_true rfl) rfl rfl (st2 := fun o => .int (xm_J o.2) :: []) (fun _ => rfl) (fun o106 k107 => ?_)
  refine xg_aload_n hC dL_law_559 rfl ?_
  refine xg_aload_n hC dL_law_560 rfl ?_
  refine xg_iload_n hC dL_law_561 rfl ?_
  refine xg_iconst hC dL_law_562 ?_
  refine xg_iadd hC dL_law_563 ?_
  refine xg_scr hC hX hb hbA (xm_w_in _) dL_law_564 (fun b108 => ?_)
  refine xg_aload_n hC dL_law_565 rfl ?_
  refine xg_iload_n hC dL_law_566 rfl ?_
  refine xg_iconst hC dL_law_567 ?_
  refine xg_iadd hC dL_law_568 ?_
  refine xg_scr hC hX hb hbA (xm_w_in _) dL_law_569 (fun b109 => ?_)
  refine xg_aload_n hC dL_law_570 rfl ?_
  refine xg_iload_n hC dL_law_571 rfl ?_
  refine xg_iconst hC dL_law_572 ?_
  refine xg_iadd hC dL_law_573 ?_
  refine xg_scr hC hX hb hbA (xm_w_in _) dL_law_574 (fun b110 => ?_)
  refine xg_callV hC (ci := 10) (w_X11_rank hI o106.1 ((xs (xm_w (x3 + (1 : Int))).toNat).toInt) ((xs (xm_w (x3 + (2 : Int))).toNat).toInt) ((xs (xm_w (x3 + (3 : Int))).toNat).toInt) (xm_in_toInt _) (xm_in_toInt _) (xm_in_toInt _)) xl_M_L_77 xl_V_X11_rank ((xm_hK (a := 84) (kd := 0) (n := 10) hI rfl)).2 ((xm_hK (a := 84) (kd := 0) (n := 10) hI rfl).1 _) (by decide) rfl (by decide) ⟨by omega, by omega⟩ dL_law_575 (rest := [.int (xm_J o106.2)]) rfl rfl (Nat.le_of_ble_eq_true rfl) rfl rfl (st2 := fun o => .int (xm_J o.2) :: [.int (xm_J o106.2)]) (fun _ => rfl) (fun o111 k112 => ?_)
  refine xg_icmp_eq hC k107 k112 748 dL_law_578 rfl (fun _ => ?_) (fun _ => xg_none)
  refine xg_iinc hC (l' := [(3, .int (xm_J (xm_w (x3 + 6)))), (0, .ref b), (1, .ref (xm_B (xx_G X) + 1)), (2, .ref (xm_B (xx_G X) + 84))]) dL_law_748 (by decide) 3 rfl rfl ?_
  refine xg_goto hC 18 dL_law_751 rfl ?_
  exact xg_pick [1, 2, 3, 0] rfl (hself o111.1 (xm_w (x3 + 6)) _ _ (by omega) (by omega) (xm_w_in _))
theorem wl_15 {X : xm_X} {b N : Nat} {xs : Nat → Int32} (hC : xm_C X RL cL_law 4 2048 600000 7302250) (hI : xx_I X = xm_I) (hX : va_X b N xs (xx_s X) (xx_s X).heap) (hb : b < (xx_s X).heap.size) (hbA : ¬ xm_A X b) (kc sc : Nat) (hk : kc ≤ 2000 ∧ sc ≤ 30000) {self : xm_Mem → Int → Option xm_Out} (hself : ∀ (σ : xm_Mem) (x3 : Int) (kc1 sc1 : Nat), kc1 ≤ kc + 1 → sc1 ≤ sc + 10 → xm_in x3 → xm_V X kc1 sc1 (self σ x3) σ 18 [(0, .ref b), (1, .ref (xm_B (xx_G X) + 1)), (2, .ref (xm_B (xx_G X) + 84)), (3, .int (xm_J x3))] []) (σ : xm_Mem) (x3 : Int) (h3 : xm_in x3) : xm_V X kc sc (fl_15 N xs self σ x3) σ 583 [(0, .ref b), (1, .ref (xm_B (xx_G X) + 1)), (2, .ref (xm_B (xx_G X) + 84)), (3, .int (xm_J x3))] [] := by
  unfold fl_15
  refine xg_aload_n hC dL_law_583 rfl ?_
  refine xg_aload_n hC dL_law_584 rfl ?_
  refine xg_iload_n hC dL_law_585 rfl ?_
  refine xg_iconst hC dL_law_586 ?_
  refine xg_iadd hC dL_law_587 ?_
  refine xg_scr hC hX hb hbA (xm_w_in _) dL_law_588 (fun b113 => ?_)
  refine xg_aload_n hC dL_law_589 rfl ?_
  refine xg_iload_n hC dL_law_590 rfl ?_
  refine xg_iconst hC dL_law_591 ?_
  refine xg_iadd hC dL_law_592 ?_
  refine xg_scr hC hX hb hbA (xm_w_in _) dL_law_593 (fun b114 => ?_)
  refine xg_aload_n hC dL_law_594 rfl ?_
  refine xg_iload_n hC dL_law_595 rfl ?_
  refine xg_iconst hC dL_law_596 ?_
  refine xg_iadd hC dL_law_597 ?_
  refine xg_scr hC hX hb hbA (xm_w_in _) dL_law_598 (fun b115 => ?_)
  refine xg_callV hC (ci := 9) (w_X10_coheir hI σ ((xs (xm_w (x3 + (1 : Int))).toNat).toInt) ((xs (xm_w (x3 + (2 : Int))).toNat).toInt) ((xs (xm_w (x3 + (3 : Int))).toNat).toInt) (xm_in_toInt _) (xm_in_toInt _) (xm_in_toInt _)) xl_M_L_78 xl_V_X10_coheir ((xm_hK (a := 1) (kd := 0) (n := 9) hI rfl)).2 ((xm_hK (a := 1) (kd := 0) (n := 9) hI rfl).1 _) (by decide) rfl (by decide) ⟨by omega, by omega⟩ dL_law_599 (rest := []) rfl rfl (Nat.le_of_ble_eq_true rfl) rfl rfl (st2 := fun o => .int (xm_J o.2) :: []) (fun _ => rfl) (fun o116 k117 => ?_)
  refine xg_aload_n hC dL_law_602 rfl ?_
  refine xg_aload_n hC dL_law_603 rfl ?_
  refine xg_iload_n hC dL_law_604 rfl ?_
  refine xg_iconst hC dL_law_605 ?_
  refine xg_iadd hC dL_law_606 ?_
  refine xg_scr hC hX hb hbA (xm_w_in _) dL_law_607 (fun b118 => ?_)
  refine xg_aload_n hC dL_law_608 rfl ?_
  refine xg_iload_n hC dL_law_609 rfl ?_
  refine xg_iconst hC dL_law_610 ?_
  refine xg_iadd hC dL_law_611 ?_
  refine xg_scr hC hX hb hbA (xm_w_in _) dL_law_612 (fun b119 => ?_)
  refine xg_aload_n hC dL_law_613 rfl ?_
  refine xg_iload_n hC dL_law_614 rfl ?_
  refine xg_iconst hC dL_law_615 ?_
  refine xg_iadd hC dL_law_616 ?_
  refine xg_scr hC hX hb hbA (xm_w_in _) dL_law_617 (fun b120 => ?_)
  refine xg_callV hC (ci := 10) (w_X11_coheir hI o116.1 ((xs (xm_w (x3 + (1 : Int))).toNat).toInt) ((xs (xm_w (x3 + (2 : Int))).toNat).toInt) ((xs (xm_w (x3 + (3 : Int))).toNat).toInt) (xm_in_toInt _) (xm_in_toInt _) (xm_in_toInt _)) xl_M_L_81 xl_V_X11_coheir ((xm_hK (a := 84) (kd := 0) (n := 10) hI rfl)).2 ((xm_hK (a := 84) (kd := 0) (n := 10) hI rfl).1 _) (by decide) rfl (by decide) ⟨by omega, by omega⟩ dL_law_618 (rest := [.int (xm_J o116.2)]) rfl rfl (Nat.le_of_ble_eq_true rfl) rfl rfl (st2 := fun o => .int (xm_J o.2) :: [.int (xm_J o116.2)]) (fun _ => rfl) (fun o121 k122 => ?_)
  refine xg_icmp_eq hC k117 k122 748 dL_law_621 rfl (fun _ => ?_) (fun _ => xg_none)
  refine xg_iinc hC (l' := [(3, .int (xm_J (xm_w (x3 + 6)))), (0, .ref b), (1, .ref (xm_B (xx_G X) + 1)), (2, .ref (xm_B (xx_G X) + 84))]) dL_law_748 (by decide) 3 rfl rfl ?_
  refine xg_goto hC 18 dL_law_751 rfl ?_
  exact xg_pick [1, 2, 3, 0] rfl (hself o121.1 (xm_w (x3 + 6)) _ _ (by omega) (by omega) (xm_w_in _))
theorem wl_16 {X : xm_X} {b N : Nat} {xs : Nat → Int32} (hC : xm_C X RL cL_law 4 2048 600000 7302250) (hI : xx_I X = xm_I) (hX : va_X b N xs (xx_s X) (xx_s X).heap) (hb : b < (xx_s X).heap.size) (hbA : ¬ xm_A X b) (kc sc : Nat) (hk : kc ≤ 2000 ∧ sc ≤ 30000) {self : xm_Mem → Int → Option xm_Out} (hself : ∀ (σ : xm_Mem) (x3 : Int) (kc1 sc1 : Nat), kc1 ≤ kc + 1 → sc1 ≤ sc + 10 → xm_in x3 → xm_V X kc1 sc1 (self σ x3) σ 18 [(0, .ref b), (1, .ref (xm_B (xx_G X) + 1)), (2, .ref (xm_B (xx_G X) + 84)), (3, .int (xm_J x3))] []) (σ : xm_Mem) (x3 : Int) (h3 : xm_in x3) : xm_V X kc sc (fl_16 N xs self σ x3) σ 626 [(0, .ref b), (1, .ref (xm_B (xx_G X) + 1)), (2, .ref (xm_B (xx_G X) + 84)), (3, .int (xm_J x3))] [] := by
  unfold fl_16
  refine xg_aload_n hC dL_law_626 rfl ?_
  refine xg_aload_n hC dL_law_627 rfl ?_
  refine xg_iload_n hC dL_law_628 rfl ?_
  refine xg_iconst hC dL_law_629 ?_
  refine xg_iadd hC dL_law_630 ?_
  refine xg_scr hC hX hb hbA (xm_w_in _) dL_law_631 (fun b123 => ?_)
  refine xg_callV hC (ci := 9) (w_X10_tenures hI σ ((xs (xm_w (x3 + (1 : Int))).toNat).toInt) (xm_in_toInt _)) xl_M_L_82 xl_V_X10_tenures ((xm_hK (a := 1) (kd := 0) (n := 9) hI rfl)).2 ((xm_hK (a := 1) (kd := 0) (n := 9) hI rfl).1 _) (by decide) rfl (by decide) ⟨by omega, by omega⟩ dL_law_632 (rest := []) rfl rfl (Nat.le_of_ble_eq_true rfl) rfl rfl (st2 := fun o => .int (xm_J o.2) :: []) (fun _ => rfl) (fun o124 k125 => ?_)
  refine xg_aload_n hC dL_law_635 rfl ?_
  refine xg_aload_n hC dL_law_636 rfl ?_
  refine xg_iload_n hC dL_law_637 rfl ?_
  refine xg_iconst hC dL_law_638 ?_
  refine xg_iadd hC dL_law_639 ?_
  refine xg_scr hC hX hb hbA (xm_w_in _) dL_law_640 (fun b126 => ?_)
  refine xg_callV hC (ci := 10) (w_X11_tenures hI o124.1 ((xs (xm_w (x3 + (1 : Int))).toNat).toInt) (xm_in_toInt _)) xl_M_L_85 xl_V_X11_tenures ((xm_hK (a := 84) (kd := 0) (n := 10) hI rfl)).2 ((xm_hK (a := 84) (kd := 0) (n := 10) hI rfl).1 _) (by decide) rfl (by decide) ⟨by omega, by omega⟩ dL_law_641 (rest := [.int (xm_J o124.2)]) rfl rfl (Nat.le_of_ble_eq_true rfl) rfl rfl (st2 := fun o => .int (xm_J o.2) :: [.int (xm_J o124.2)]) (fun _ => rfl) (fun o127 k128 => ?_)
  refine xg_icmp_eq hC k125 k128 748 dL_law_644 rfl (fun _ => ?_) (fun _ => xg_none)
  refine xg_iinc hC (l' := [(3, .int (xm_J (xm_w (x3 + 6)))), (0, .ref b), (1, .ref (xm_B (xx_G X) + 1)), (2, .ref (xm_B (xx_G X) + 84))]) dL_law_748 (by decide) 3 rfl rfl ?_
  refine xg_goto hC 18 dL_law_751 rfl ?_
  exact xg_pick [1, 2, 3, 0] rfl (hself o127.1 (xm_w (x3 + 6)) _ _ (by omega) (by omega) (xm_w_in _))
theorem wl_17 {X : xm_X} {b N : Nat} {xs : Nat → Int32} (hC : xm_C X RL cL_law 4 2048 600000 7302250) (hI : xx_I X = xm_I) (hX : va_X b N xs (xx_s X) (xx_s X).heap) (hb : b < (xx_s X).heap.size) (hbA : ¬ xm_A X b) (kc sc : Nat) (hk : kc ≤ 2000 ∧ sc ≤ 30000) {self : xm_Mem → Int → Option xm_Out} (hself : ∀ (σ : xm_Mem) (x3 : Int) (kc1 sc1 : Nat), kc1 ≤ kc + 1 → sc1 ≤ sc + 10 → xm_in x3 → xm_V X kc1 sc1 (self σ x3) σ 18 [(0, .ref b), (1, .ref (xm_B (xx_G X) + 1)), (2, .ref (xm_B (xx_G X) + 84)), (3, .int (xm_J x3))] []) (σ : xm_Mem) (x3 : Int) (h3 : xm_in x3) : xm_V X kc sc (fl_17 N xs self σ x3) σ 649 [(0, .ref b), (1, .ref (xm_B (xx_G X) + 1)), (2, .ref (xm_B (xx_G X) + 84)), (3, .int (xm_J x3))] [] := by
  unfold fl_17
  refine xg_aload_n hC dL_law_649 rfl ?_
  refine xg_aload_n hC dL_law_650 rfl ?_
  refine xg_iload_n hC dL_law_651 rfl ?_
  refine xg_iconst hC dL_law_652 ?_
  refine xg_iadd hC dL_law_653 ?_
  refine xg_scr hC hX hb hbA (xm_w_in _) dL_law_654 (fun b129 => ?_)
  refine xg_aload_n hC dL_law_655 rfl ?_
  refine xg_iload_n hC dL_law_656 rfl ?_
  refine xg_iconst hC dL_law_657 ?_
  refine xg_iadd hC dL_law_658 ?_
  refine xg_scr hC hX hb hbA (xm_w_in _) dL_law_659 (fun b130 => ?_)
  refine xg_aload_n hC dL_law_660 rfl ?_
  refine xg_iload_n hC dL_law_661 rfl ?_
  refine xg_iconst hC dL_law_662 ?_
  refine xg_iadd hC dL_law_663 ?_
  refine xg_scr hC hX hb hbA (xm_w_in _) dL_law_664 (fun b131 => ?_)
  refine xg_callV hC (ci := 9) (w_X10_tenure hI σ ((xs (xm_w (x3 + (1 : Int))).toNat).toInt) ((xs (xm_w (x3 + (2 : Int))).toNat).toInt) ((xs (xm_w (x3 + (3 : Int))).toNat).toInt) (xm_in_toInt _) (xm_in_toInt _) (xm_in_toInt _)) xl_M_L_86 xl_V_X10_tenure ((xm_hK (a := 1) (kd := 0) (n := 9) hI rfl)).2 ((xm_hK (a := 1) (kd := 0) (n := 9) hI rfl).1 _) (by decide) rfl (by decide) ⟨by omega, by omega⟩ dL_law_665 (rest := []) rfl rfl (Nat.le_of_ble_eq_true rfl) rfl rfl (st2 := fun o => .int (xm_J o.2) :: []) (fun _ => rfl) (fun o132 k133 => ?_)
  refine xg_aload_n hC dL_law_668 rfl ?_
  refine xg_aload_n hC dL_law_669 rfl ?_
  refine xg_iload_n hC dL_law_670 rfl ?_
  refine xg_iconst hC dL_law_671 ?_
  refine xg_iadd hC dL_law_672 ?_
  refine xg_scr hC hX hb hbA (xm_w_in _) dL_law_673 (fun b134 => ?_)
  refine xg_aload_n hC dL_law_674 rfl ?_
  refine xg_iload_n hC dL_law_675 rfl ?_
  refine xg_iconst hC dL_law_676 ?_
  refine xg_iadd hC dL_law_677 ?_
  refine xg_scr hC hX hb hbA (xm_w_in _) dL_law_678 (fun b135 => ?_)
  refine xg_aload_n hC dL_law_679 rfl ?_
  refine xg_iload_n hC dL_law_680 rfl ?_
  refine xg_iconst hC dL_law_681 ?_
  refine xg_iadd hC dL_law_682 ?_
  refine xg_scr hC hX hb hbA (xm_w_in _) dL_law_683 (fun b136 => ?_)
  refine xg_callV hC (ci := 10) (w_X11_tenure hI o132.1 ((xs (xm_w (x3 + (1 : Int))).toNat).toInt) ((xs (xm_w (x3 + (2 : Int))).toNat).toInt) ((xs (xm_w (x3 + (3 : Int))).toNat).toInt) (xm_in_toInt _) (xm_in_toInt _) (xm_in_toInt _)) xl_M_L_89 xl_V_X11_tenure ((xm_hK (a := 84) (kd := 0) (n := 10) hI rfl)).2 ((xm_hK (a := 84) (kd := 0) (n := 10) hI rfl).1 _) (by decide) rfl (by decide) ⟨by omega, by omega⟩ dL_law_684 (rest := [.int (xm_J o132.2)]) rfl rfl (Nat.le_of_ble_eq_true rfl) rfl rfl (st2 := fun o => .int (xm_J o.2) :: [.int (xm_J o132.2)]) (fun _ => rfl) (fun o137 k138 => ?_)
  refine xg_icmp_eq hC k133 k138 748 dL_law_687 rfl (fun _ => ?_) (fun _ => xg_none)
  refine xg_iinc hC (l' := [(3, .int (xm_J (xm_w (x3 + 6)))), (0, .ref b), (1, .ref (xm_B (xx_G X) + 1)), (2, .ref (xm_B (xx_G X) + 84))]) dL_law_748 (by decide) 3 rfl rfl ?_
  refine xg_goto hC 18 dL_law_751 rfl ?_
  exact xg_pick [1, 2, 3, 0] rfl (hself o137.1 (xm_w (x3 + 6)) _ _ (by omega) (by omega) (xm_w_in _))
theorem wl_18 {X : xm_X} {b N : Nat} {xs : Nat → Int32} (hC : xm_C X RL cL_law 4 2048 600000 7302250) (hI : xx_I X = xm_I) (hX : va_X b N xs (xx_s X) (xx_s X).heap) (hb : b < (xx_s X).heap.size) (hbA : ¬ xm_A X b) (kc sc : Nat) (hk : kc ≤ 2000 ∧ sc ≤ 30000) {self : xm_Mem → Int → Option xm_Out} (hself : ∀ (σ : xm_Mem) (x3 : Int) (kc1 sc1 : Nat), kc1 ≤ kc + 1 → sc1 ≤ sc + 10 → xm_in x3 → xm_V X kc1 sc1 (self σ x3) σ 18 [(0, .ref b), (1, .ref (xm_B (xx_G X) + 1)), (2, .ref (xm_B (xx_G X) + 84)), (3, .int (xm_J x3))] []) (σ : xm_Mem) (x3 : Int) (h3 : xm_in x3) : xm_V X kc sc (fl_18 N xs self σ x3) σ 692 [(0, .ref b), (1, .ref (xm_B (xx_G X) + 1)), (2, .ref (xm_B (xx_G X) + 84)), (3, .int (xm_J x3))] [] := by
  unfold fl_18
  refine xg_aload_n hC dL_law_692 rfl ?_
  refine xg_aload_n hC dL_law_693 rfl ?_
  refine xg_iload_n hC dL_law_694 rfl ?_
  refine xg_iconst hC dL_law_695 ?_
  refine xg_iadd hC dL_law_696 ?_
  refine xg_scr hC hX hb hbA (xm_w_in _) dL_law_697 (fun b139 => ?_)
  refine xg_aload_n hC dL_law_698 rfl ?_
  refine xg_iload_n hC dL_law_699 rfl ?_
  refine xg_iconst hC dL_law_700 ?_
  refine xg_iadd hC dL_law_701 ?_
  refine xg_scr hC hX hb hbA (xm_w_in _) dL_law_702 (fun b140 => ?_)
  refine xg_aload_n hC dL_law_703 rfl ?_
  refine xg_iload_n hC dL_law_704 rfl ?_
  refine xg_iconst hC dL_law_705 ?_
  refine xg_iadd hC dL_law_706 ?_
  refine xg_scr hC hX hb hbA (xm_w_in _) dL_law_707 (fun b141 => ?_)
  refine xg_callV hC (ci := 9) (w_X10_holds hI σ ((xs (xm_w (x3 + (1 : Int))).toNat).toInt) ((xs (xm_w (x3 + (2 : Int))).toNat).toInt) ((xs (xm_w (x3 + (3 : Int))).toNat).toInt) (xm_in_toInt _) (xm_in_toInt _) (xm_in_toInt _)) xl_M_L_90 xl_V_X10_holds ((xm_hK (a := 1) (kd := 0) (n := 9) hI rfl)).2 ((xm_hK (a := 1) (kd := 0) (n := 9) hI rfl).1 _) (by decide) rfl (by decide) ⟨by omega, by omega⟩ dL_law_708 (rest := []) rfl rfl (Nat.le_of_ble_eq_true rfl) rfl rfl (st2 := fun o => .int (xm_J o.2) :: []) (fun _ => rfl) (fun o142 k143 => ?_)
  refine xg_aload_n hC dL_law_711 rfl ?_
  refine xg_aload_n hC dL_law_712 rfl ?_
  refine xg_iload_n hC dL_law_713 rfl ?_
  refine xg_iconst hC dL_law_714 ?_
  refine xg_iadd hC dL_law_715 ?_
  refine xg_scr hC hX hb hbA (xm_w_in _) dL_law_716 (fun b144 => ?_)
  refine xg_aload_n hC dL_law_717 rfl ?_
  refine xg_iload_n hC dL_law_718 rfl ?_
  refine xg_iconst hC dL_law_719 ?_
  refine xg_iadd hC dL_law_720 ?_
  refine xg_scr hC hX hb hbA (xm_w_in _) dL_law_721 (fun b145 => ?_)
  refine xg_aload_n hC dL_law_722 rfl ?_
  refine xg_iload_n hC dL_law_723 rfl ?_
  refine xg_iconst hC dL_law_724 ?_
  refine xg_iadd hC dL_law_725 ?_
  refine xg_scr hC hX hb hbA (xm_w_in _) dL_law_726 (fun b146 => ?_)
  refine xg_callV hC (ci := 10) (w_X11_holds hI o142.1 ((xs (xm_w (x3 + (1 : Int))).toNat).toInt) ((xs (xm_w (x3 + (2 : Int))).toNat).toInt) ((xs (xm_w (x3 + (3 : Int))).toNat).toInt) (xm_in_toInt _) (xm_in_toInt _) (xm_in_toInt _)) xl_M_L_93 xl_V_X11_holds ((xm_hK (a := 84) (kd := 0) (n := 10) hI rfl)).2 ((xm_hK (a := 84) (kd := 0) (n := 10) hI rfl).1 _) (by decide) rfl (by decide) ⟨by omega, by omega⟩ dL_law_727 (rest := [.int (xm_J o142.2)]) rfl rfl (Nat.le_of_ble_eq_true rfl) rfl rfl (st2 := fun o => .int (xm_J o.2) :: [.int (xm_J o142.2)]) (fun _ => rfl) (fun o147 k148 => ?_)
  refine xg_icmp_eq hC k143 k148 748 dL_law_730 rfl (fun _ => ?_) (fun _ => xg_none)
  refine xg_iinc hC (l' := [(3, .int (xm_J (xm_w (x3 + 6)))), (0, .ref b), (1, .ref (xm_B (xx_G X) + 1)), (2, .ref (xm_B (xx_G X) + 84))]) dL_law_748 (by decide) 3 rfl rfl ?_
  refine xg_goto hC 18 dL_law_751 rfl ?_
  exact xg_pick [1, 2, 3, 0] rfl (hself o147.1 (xm_w (x3 + 6)) _ _ (by omega) (by omega) (xm_w_in _))
theorem wl_19 {X : xm_X} {b N : Nat} {xs : Nat → Int32} (hC : xm_C X RL cL_law 4 2048 600000 7302250) (hI : xx_I X = xm_I) (hX : va_X b N xs (xx_s X) (xx_s X).heap) (hb : b < (xx_s X).heap.size) (hbA : ¬ xm_A X b) (kc sc : Nat) (hk : kc ≤ 2000 ∧ sc ≤ 30000) {self : xm_Mem → Int → Option xm_Out} (hself : ∀ (σ : xm_Mem) (x3 : Int) (kc1 sc1 : Nat), kc1 ≤ kc + 1 → sc1 ≤ sc + 10 → xm_in x3 → xm_V X kc1 sc1 (self σ x3) σ 18 [(0, .ref b), (1, .ref (xm_B (xx_G X) + 1)), (2, .ref (xm_B (xx_G X) + 84)), (3, .int (xm_J x3))] []) (σ : xm_Mem) (x3 : Int) (h3 : xm_in x3) : xm_V X kc sc (fl_19 N xs self σ x3) σ 735 [(0, .ref b), (1, .ref (xm_B (xx_G X) + 1)), (2, .ref (xm_B (xx_G X) + 84)), (3, .int (xm_J x3))] [] := by
  unfold fl_19
  refine xg_aload_n hC dL_law_735 rfl ?_
  refine xg_callV hC (ci := 9) (w_X10_status hI σ) xl_M_L_94 xl_V_X10_status ((xm_hK (a := 1) (kd := 0) (n := 9) hI rfl)).2 ((xm_hK (a := 1) (kd := 0) (n := 9) hI rfl).1 _) (by decide) rfl (by decide) ⟨by omega, by omega⟩ dL_law_736 (rest := []) rfl rfl (Nat.le_of_ble_eq_true rfl) rfl rfl (st2 := fun o => .int (xm_J o.2) :: []) (fun _ => rfl) (fun o149 k150 => ?_)
  refine xg_aload_n hC dL_law_739 rfl ?_
  refine xg_callV hC (ci := 10) (w_X11_status hI o149.1) xl_M_L_97 xl_V_X11_status ((xm_hK (a := 84) (kd := 0) (n := 10) hI rfl)).2 ((xm_hK (a := 84) (kd := 0) (n := 10) hI rfl).1 _) (by decide) rfl (by decide) ⟨by omega, by omega⟩ dL_law_740 (rest := [.int (xm_J o149.2)]) rfl rfl (Nat.le_of_ble_eq_true rfl) rfl rfl (st2 := fun o => .int (xm_J o.2) :: [.int (xm_J o149.2)]) (fun _ => rfl) (fun o151 k152 => ?_)
  refine xg_icmp_eq hC k150 k152 748 dL_law_743 rfl (fun _ => ?_) (fun _ => xg_none)
  refine xg_iinc hC (l' := [(3, .int (xm_J (xm_w (x3 + 6)))), (0, .ref b), (1, .ref (xm_B (xx_G X) + 1)), (2, .ref (xm_B (xx_G X) + 84))]) dL_law_748 (by decide) 3 rfl rfl ?_
  refine xg_goto hC 18 dL_law_751 rfl ?_
  exact xg_pick [1, 2, 3, 0] rfl (hself o151.1 (xm_w (x3 + 6)) _ _ (by omega) (by omega) (xm_w_in _))
theorem wl_sw {X : xm_X} {b N : Nat} {xs : Nat → Int32} (hC : xm_C X RL cL_law 4 2048 600000 7302250) (hI : xx_I X = xm_I) (hX : va_X b N xs (xx_s X) (xx_s X).heap) (hb : b < (xx_s X).heap.size) (hbA : ¬ xm_A X b) (kc sc : Nat) (hk : kc ≤ 2000 ∧ sc ≤ 30000) {self : xm_Mem → Int → Option xm_Out} (hself : ∀ (σ : xm_Mem) (x3 : Int) (kc1 sc1 : Nat), kc1 ≤ kc + 1 → sc1 ≤ sc + 10 → xm_in x3 → xm_V X kc1 sc1 (self σ x3) σ 18 [(0, .ref b), (1, .ref (xm_B (xx_G X) + 1)), (2, .ref (xm_B (xx_G X) + 84)), (3, .int (xm_J x3))] []) (σ : xm_Mem) (x3 v : Int) (h3 : xm_in x3) (kv : xm_in v) : xm_V X kc sc (fl_sw N xs self σ x3 v) σ 33 [(0, .ref b), (1, .ref (xm_B (xx_G X) + 1)), (2, .ref (xm_B (xx_G X) + 84)), (3, .int (xm_J x3))] [.int (xm_J v)] := by
  unfold fl_sw
  refine xg_ite (fun e0 => xg_tswIn hC 0 128 e0 dL_law_33 (xm_inc _ rfl) (by decide) (by decide) rfl rfl ?_) (fun n0 => ?_)
  · exact wl_0 hC hI hX hb hbA kc sc hk hself σ x3 h3
  refine xg_ite (fun e1 => xg_tswIn hC 1 191 e1 dL_law_33 (xm_inc _ rfl) (by decide) (by decide) rfl rfl ?_) (fun n1 => ?_)
  · exact wl_1 hC hI hX hb hbA kc sc hk hself σ x3 h3
  refine xg_ite (fun e2 => xg_tswIn hC 2 214 e2 dL_law_33 (xm_inc _ rfl) (by decide) (by decide) rfl rfl ?_) (fun n2 => ?_)
  · exact wl_2 hC hI hX hb hbA kc sc hk hself σ x3 h3
  refine xg_ite (fun e3 => xg_tswIn hC 3 227 e3 dL_law_33 (xm_inc _ rfl) (by decide) (by decide) rfl rfl ?_) (fun n3 => ?_)
  · exact wl_3 hC hI hX hb hbA kc sc hk hself σ x3 h3
  refine xg_ite (fun e4 => xg_tswIn hC 4 240 e4 dL_law_33 (xm_inc _ rfl) (by decide) (by decide) rfl rfl ?_) (fun n4 => ?_)
  · exact wl_4 hC hI hX hb hbA kc sc hk hself σ x3 h3
  refine xg_ite (fun e5 => xg_tswIn hC 5 253 e5 dL_law_33 (xm_inc _ rfl) (by decide) (by decide) rfl rfl ?_) (fun n5 => ?_)
  · exact wl_5 hC hI hX hb hbA kc sc hk hself σ x3 h3
  refine xg_ite (fun e6 => xg_tswIn hC 6 276 e6 dL_law_33 (xm_inc _ rfl) (by decide) (by decide) rfl rfl ?_) (fun n6 => ?_)
  · exact wl_6 hC hI hX hb hbA kc sc hk hself σ x3 h3
  refine xg_ite (fun e7 => xg_tswIn hC 7 299 e7 dL_law_33 (xm_inc _ rfl) (by decide) (by decide) rfl rfl ?_) (fun n7 => ?_)
  · exact wl_7 hC hI hX hb hbA kc sc hk hself σ x3 h3
  refine xg_ite (fun e8 => xg_tswIn hC 8 332 e8 dL_law_33 (xm_inc _ rfl) (by decide) (by decide) rfl rfl ?_) (fun n8 => ?_)
  · exact wl_8 hC hI hX hb hbA kc sc hk hself σ x3 h3
  refine xg_ite (fun e9 => xg_tswIn hC 9 365 e9 dL_law_33 (xm_inc _ rfl) (by decide) (by decide) rfl rfl ?_) (fun n9 => ?_)
  · exact wl_9 hC hI hX hb hbA kc sc hk hself σ x3 h3
  refine xg_ite (fun e10 => xg_tswIn hC 10 398 e10 dL_law_33 (xm_inc _ rfl) (by decide) (by decide) rfl rfl ?_) (fun n10 => ?_)
  · exact wl_10 hC hI hX hb hbA kc sc hk hself σ x3 h3
  refine xg_ite (fun e11 => xg_tswIn hC 11 431 e11 dL_law_33 (xm_inc _ rfl) (by decide) (by decide) rfl rfl ?_) (fun n11 => ?_)
  · exact wl_11 hC hI hX hb hbA kc sc hk hself σ x3 h3
  refine xg_ite (fun e12 => xg_tswIn hC 12 464 e12 dL_law_33 (xm_inc _ rfl) (by decide) (by decide) rfl rfl ?_) (fun n12 => ?_)
  · exact wl_12 hC hI hX hb hbA kc sc hk hself σ x3 h3
  refine xg_ite (fun e13 => xg_tswIn hC 13 497 e13 dL_law_33 (xm_inc _ rfl) (by decide) (by decide) rfl rfl ?_) (fun n13 => ?_)
  · exact wl_13 hC hI hX hb hbA kc sc hk hself σ x3 h3
  refine xg_ite (fun e14 => xg_tswIn hC 14 540 e14 dL_law_33 (xm_inc _ rfl) (by decide) (by decide) rfl rfl ?_) (fun n14 => ?_)
  · exact wl_14 hC hI hX hb hbA kc sc hk hself σ x3 h3
  refine xg_ite (fun e15 => xg_tswIn hC 15 583 e15 dL_law_33 (xm_inc _ rfl) (by decide) (by decide) rfl rfl ?_) (fun n15 => ?_)
  · exact wl_15 hC hI hX hb hbA kc sc hk hself σ x3 h3
  refine xg_ite (fun e16 => xg_tswIn hC 16 626 e16 dL_law_33 (xm_inc _ rfl) (by decide) (by decide) rfl rfl ?_) (fun n16 => ?_)
  · exact wl_16 hC hI hX hb hbA kc sc hk hself σ x3 h3
  refine xg_ite (fun e17 => xg_tswIn hC 17 649 e17 dL_law_33 (xm_inc _ rfl) (by decide) (by decide) rfl rfl ?_) (fun n17 => ?_)
  · exact wl_17 hC hI hX hb hbA kc sc hk hself σ x3 h3
  refine xg_ite (fun e18 => xg_tswIn hC 18 692 e18 dL_law_33 (xm_inc _ rfl) (by decide) (by decide) rfl rfl ?_) (fun n18 => ?_)
  · exact wl_18 hC hI hX hb hbA kc sc hk hself σ x3 h3
  refine xg_ite (fun e19 => xg_tswIn hC 19 735 e19 dL_law_33 (xm_inc _ rfl) (by decide) (by decide) rfl rfl ?_) (fun n19 => ?_)
  · exact wl_19 hC hI hX hb hbA kc sc hk hself σ x3 h3
  refine xg_tswOut hC 748 dL_law_33 kv (by omega) rfl ?_
  refine xg_iinc hC (l' := [(3, .int (xm_J (xm_w (x3 + 6)))), (0, .ref b), (1, .ref (xm_B (xx_G X) + 1)), (2, .ref (xm_B (xx_G X) + 84))]) dL_law_748 (by decide) 3 rfl rfl ?_
  refine xg_goto hC 18 dL_law_751 rfl ?_
  exact xg_pick [1, 2, 3, 0] rfl (hself σ (xm_w (x3 + 6)) _ _ (by omega) (by omega) (xm_w_in _))
theorem wl_b {X : xm_X} {b N : Nat} {xs : Nat → Int32} (hC : xm_C X RL cL_law 4 2048 600000 7302250) (hI : xx_I X = xm_I) (hX : va_X b N xs (xx_s X) (xx_s X).heap) (hb : b < (xx_s X).heap.size) (hbA : ¬ xm_A X b) (kc sc : Nat) (hk : kc ≤ 2000 ∧ sc ≤ 30000) {self : xm_Mem → Int → Option xm_Out} (hself : ∀ (σ : xm_Mem) (x3 : Int) (kc1 sc1 : Nat), kc1 ≤ kc + 1 → sc1 ≤ sc + 10 → xm_in x3 → xm_V X kc1 sc1 (self σ x3) σ 18 [(0, .ref b), (1, .ref (xm_B (xx_G X) + 1)), (2, .ref (xm_B (xx_G X) + 84)), (3, .int (xm_J x3))] []) (hR : xx_R X = room_1) (ha : xx_a X = #[Value.ref b]) (hr : (xx_t X).sig.returnType = ret) (hQ : ∀ o, xx_Q X o = lw_Z (xx_b X) #[Value.ref b] (xx_s X)) (hA : ∀ q, xm_A X q → (xx_s X).heap.size ≤ q) (σ : xm_Mem) (x3 : Int) (h3 : xm_in x3) : xm_V X kc sc (fl_b N xs self σ x3) σ 18 [(0, .ref b), (1, .ref (xm_B (xx_G X) + 1)), (2, .ref (xm_B (xx_G X) + 84)), (3, .int (xm_J x3))] [] := by
  unfold fl_b
  refine xg_iload_n hC dL_law_18 rfl ?_
  refine xg_aload_n hC dL_law_19 rfl ?_
  refine xg_scl hC hX hb hbA dL_law_20 ?_
  refine xg_bipush hC dL_law_21 (by decide) ?_
  refine xg_isub hC dL_law_23 ?_
  refine xg_icmp_gt hC h3 (xm_w_in _) 754 dL_law_24 rfl (fun _ => ?_) (fun _ => ?_)
  · refine xg_iconst hC dL_law_754 ?_
    exact xg_lawret hC hR ha hr hQ hA (by omega) (by omega) dL_law_755
  refine xg_aload_n hC dL_law_27 rfl ?_
  refine xg_iload_n hC dL_law_28 rfl ?_
  refine xg_scr hC hX hb hbA h3 dL_law_29 (fun _ => ?_)
  refine xg_bipush hC dL_law_30 (by decide) ?_
  refine xg_iand hC dL_law_32 ?_
  refine xg_vI (xm_and_in _ _) (fun v kv => ?_)
  exact wl_sw hC hI hX hb hbA kc sc hk hself σ x3 v h3 kv
theorem wl_loop {X : xm_X} {b N : Nat} {xs : Nat → Int32} (hC : xm_C X RL cL_law 4 2048 600000 7302250) (hI : xx_I X = xm_I) (hX : va_X b N xs (xx_s X) (xx_s X).heap) (hb : b < (xx_s X).heap.size) (hbA : ¬ xm_A X b) (hR : xx_R X = room_1) (ha : xx_a X = #[Value.ref b]) (hr : (xx_t X).sig.returnType = ret) (hQ : ∀ o, xx_Q X o = lw_Z (xx_b X) #[Value.ref b] (xx_s X)) (hA : ∀ q, xm_A X q → (xx_s X).heap.size ≤ q) (n : Nat) : ∀ (σ : xm_Mem) (x3 : Int) (kc sc : Nat), kc + n ≤ 2000 → sc + 10 * n ≤ 30000 → xm_in x3 → xm_V X kc sc (f_law N xs n σ x3) σ 18 [(0, .ref b), (1, .ref (xm_B (xx_G X) + 1)), (2, .ref (xm_B (xx_G X) + 84)), (3, .int (xm_J x3))] [] := by
  induction n with
  | zero => intro σ x3 kc sc _ _ _; exact xg_none
  | succ n ih =>
    intro σ x3 kc sc g1 g2 h3
    exact wl_b hC hI hX hb hbA kc sc ⟨by omega, by omega⟩ (self := f_law N xs n) (fun σ x3 kc1 sc1 q1 q2 q3 => ih σ x3 kc1 sc1 (by omega) (by omega) q3) hR ha hr hQ hA σ x3 h3
