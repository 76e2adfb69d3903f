/-! ===== the law from its entry, in the abstract machine ===== -/
def xm_z : xm_Mem := (fun _ _ => 0, fun _ _ => 0, 0)
/-- what both constructors leave -/
noncomputable def f_made : Option xm_Mem := (f_X10_init (xm_nw xm_z) 1).bind (fun o1 => if o1.1.2.2 = 83 then (f_X11_init (xm_nw o1.1) 84).map (fun o2 => o2.1) else none)
noncomputable def f_main (N : Nat) (xs : Nat → Int32) : Option xm_Out := (f_X10_init (xm_nw xm_z) 1).bind (fun o1 => if o1.1.2.2 = 83 then (f_X11_init (xm_nw o1.1) 84).bind (fun o2 => @ite _ (xm_I o2.1) (Classical.propDecidable _) (f_law N xs 1000 o2.1 0) none) else none)
theorem xg_sw {G : xm_Gm} {I : xm_Mem → Prop} {la : Launch} {p : Program} {e : Env} {R : Room} {s : State} {m : MethodId} {a : Array Value} {b : List Frame} {t : Method} {c : Code} {Q : xm_Out → State → Prop} {kc sc : Nat} {r : Option xm_Out} {σ : xm_Mem} {pc : Nat} {l : List (Nat × Value)} {st : List Value} (hi : xm_I σ) (k : xm_V (G, xm_I, la, p, e, R, s, m, a, b, t, c, Q) kc sc r σ pc l st) : xm_V (G, I, la, p, e, R, s, m, a, b, t, c, Q) kc sc r σ pc l st :=
  fun o ho H locs ls hR hS hL => k o ho H locs ls ⟨hR.1, hR.2.1, hR.2.2.1, hi, hR.2.2.2.2⟩ hS hL
theorem w_entry1 {X : xm_X} {b : Nat} (hC : xm_C X RL cL_law 4 2048 600000 7302250) (hI : xx_I X = xm_I0) {k : xm_Out → Option xm_Out} (h : ∀ o, xm_V X (0 + 1 + 82) (0 + xm_nf 9 + 9536) (k o) o.1 8 [(1, .ref (xm_B (xx_G X) + 1)), (0, .ref b)] []) : xm_V X 0 0 ((f_X10_init (xm_nw xm_z) 1).bind k) xm_z 0 [(0, .ref b)] [] := by
  generalize hr : (f_X10_init (xm_nw xm_z) 1).bind k = r
  have hg : (if xm_lay (xm_z.2.2 + 1) = (0, 9) then r else none) = r := if_pos (by decide +kernel)
  rw [← hg]
  refine xg_new hC (ci := 9) (by decide) xl_K_L_7 xl_T_9 xl_Z_9 ⟨Nat.le_of_ble_eq_true rfl, Nat.le_of_ble_eq_true rfl⟩ (xm_kp0 hI) dL_law_0 ?_
  refine xg_stk (st' := [xm_rf (xx_G X) 1]) rfl ?_
  refine xg_dup hC dL_law_3 xm_rf_cat ?_
  rw [← hr]
  refine xg_callI hC (v := 1) (w_X10_init hI (xm_nw xm_z) 1 ⟨by decide, xm_inc _ rfl⟩) (by decide) xl_M_L_9 xl_I_X10_init (by decide) ⟨Nat.le_of_ble_eq_true rfl, Nat.le_of_ble_eq_true rfl⟩ dL_law_4 (rest := [xm_rf (xx_G X) 1]) rfl rfl (by simp [xm_rf_cat]) rfl rfl (fun o1 _ => ?_)
  refine xg_stk (st' := [.ref (xm_B (xx_G X) + 1)]) rfl ?_
  refine xg_astore_n hC (l' := [(1, .ref (xm_B (xx_G X) + 1)), (0, .ref b)]) dL_law_7 (by decide) rfl ?_
  exact h o1
theorem w_entry2 {X : xm_X} {b kc sc : Nat} (hC : xm_C X RL cL_law 4 2048 600000 7302250) (hI : xx_I X = xm_I0) (hk : kc ≤ 1000 ∧ sc ≤ 20000) {σ : xm_Mem} (h83 : σ.2.2 = 83) {k : xm_Out → Option xm_Out} (h : ∀ o, xm_V X (kc + 1 + 26) (sc + xm_nf 10 + 9056) (k o) o.1 18 [(0, .ref b), (1, .ref (xm_B (xx_G X) + 1)), (2, .ref (xm_B (xx_G X) + 84)), (3, .int (xm_J 0))] []) : xm_V X kc sc ((f_X11_init (xm_nw σ) 84).bind k) σ 8 [(1, .ref (xm_B (xx_G X) + 1)), (0, .ref b)] [] := by
  generalize hr : (f_X11_init (xm_nw σ) 84).bind k = r
  have hg : (if xm_lay (σ.2.2 + 1) = (0, 10) then r else none) = r := if_pos (by rw [h83]; decide +kernel)
  have hn : xm_nf 10 = 53 := rfl
  rw [← hg]
  refine xg_new hC (ci := 10) (by decide) xl_K_L_10 xl_T_10 xl_Z_10 ⟨by omega, by omega⟩ (xm_kp0 hI) dL_law_8 ?_
  refine xg_stk (st' := [xm_rf (xx_G X) 84]) (by rw [h83]; rfl) ?_
  refine xg_dup hC dL_law_11 xm_rf_cat ?_
  rw [← hr]
  refine xg_callI hC (v := 84) (w_X11_init hI (xm_nw σ) 84 ⟨by decide, xm_inc _ rfl⟩) (by decide) xl_M_L_12 xl_I_X11_init (by decide) ⟨by omega, by omega⟩ dL_law_12 (rest := [xm_rf (xx_G X) 84]) rfl rfl (by simp [xm_rf_cat]) rfl rfl (fun o2 _ => ?_)
  refine xg_stk (st' := [.ref (xm_B (xx_G X) + 84)]) rfl ?_
  refine xg_astore_n hC (l' := [(2, .ref (xm_B (xx_G X) + 84)), (1, .ref (xm_B (xx_G X) + 1)), (0, .ref b)]) dL_law_15 (by decide) rfl ?_
  refine xg_iconst hC dL_law_16 ?_
  refine xg_istore_n hC (l' := [(3, .int (xm_J 0)), (2, .ref (xm_B (xx_G X) + 84)), (1, .ref (xm_B (xx_G X) + 1)), (0, .ref b)]) dL_law_17 (by decide) rfl ?_
  exact xg_pick [3, 2, 1, 0] rfl (h o2)
theorem w_main {p : Program} {e : Env} {s : State} {m : MethodId} {below : List Frame} {meth : Method} {c : Code} (l : Launch) {b L : Nat} {xs : Nat → Int32} (C0 : lw_At p s m meth c b L xs) {o : xm_Out} (ho : f_main L xs = some o) : W p l e room_1 s m #[Value.ref b] below meth c s.heap [] 0 0 (lw_Z below #[Value.ref b] s) (entryFrame m ([Value.ref b] : List Value).toArray 4) := by
  obtain ⟨hx, hb, hr, hml, hown, hts, hX, hbl, hlocks, hgv⟩ := C0
  obtain ⟨Γ, hB, hH0, hK⟩ := xs_all hts hgv hbl
  have hl := lv_entry ([.ref b]) (n := 4) (Nat.le_of_ble_eq_true rfl)
  rw [lg_entry_eq]
  generalize (lg_sl ([.ref b]) ++ List.replicate (4 - (lg_sl ([.ref b])).length) Slot.unset).toArray = ls at hl ⊢
  have hl : lv_has ls 4 [(0, .ref b)] := hl
  have hC : ∀ I : xm_Mem → Prop, xm_C (Γ, I, l, p, e, room_1, s, m, #[Value.ref b], below, meth, c, fun _ => lw_Z below #[Value.ref b] s) RL cL_law 4 2048 600000 7302250 := fun I =>
    ⟨hx, hb, hml, hown, fun w hw => hts w (xm_good hw).1, hK, hlocks, by show xm_B Γ < s.heap.size; omega, fun q _ => by show s.heap[q]? = (xm_H0 Γ)[q]?; rw [hH0], Nat.le_of_ble_eq_true rfl, Nat.le_of_ble_eq_true rfl, Nat.le_of_ble_eq_true rfl, Nat.le_of_ble_eq_true rfl⟩
  have hbA : ¬ xm_B Γ < b := by omega
  have key : xm_V (Γ, xm_I0, l, p, e, room_1, s, m, #[Value.ref b], below, meth, c, fun _ => lw_Z below #[Value.ref b] s) 0 0 (f_main L xs) xm_z 0 [(0, .ref b)] [] := by
    unfold f_main
    refine w_entry1 (hC _) rfl (fun o1 => ?_)
    refine xg_guard (fun h83 => ?_)
    refine w_entry2 (hC _) rfl ⟨Nat.le_of_ble_eq_true rfl, Nat.le_of_ble_eq_true rfl⟩ h83 (fun o2 => ?_)
    refine @xg_ite _ _ _ _ _ _ _ _ _ _ (Classical.propDecidable _) (fun hi => xg_sw hi ?_) (fun _ => xg_none)
    exact wl_loop (hC xm_I) rfl hX hbl hbA rfl rfl hr (fun _ => rfl) (fun q hq => by have : xm_B Γ < q := hq; show s.heap.size ≤ q; omega) 1000 o2.1 0 _ _ (Nat.le_of_ble_eq_true rfl) (Nat.le_of_ble_eq_true rfl) xm_in0
  have h0 : xm_R Γ xm_I0 xm_z s.heap := ⟨fun a h1 h2 => absurd (Nat.le_trans h1 h2) (by decide), by show s.heap.size = xm_B Γ + 1 + 0; omega, fun a k => ⟨xm_in0, fun _ => by show (0 : Int) ≤ 0 ∧ (0 : Int) ≤ 1; decide, fun _ => by show (0 : Int) ≤ 0; decide, fun _ => ⟨rfl, rfl⟩⟩, trivial, fun q _ => by rw [hH0]⟩
  exact key o ho s.heap [] ls h0 va_S.rf (by show lv_has ls c.maxLocals _; rw [hml]; exact hl)
