/-! ===== branches that are decided, calls whose end is known ===== -/
section XD
variable {X : xm_X} {own : String} {cc : ByteArray} {nL fr mc ms kc sc : Nat} {r : Option xm_Out} {σ : xm_Mem} {pc : Nat} {l l' : List (Nat × Value)} {st : List Value}
theorem xg_icmp_eqJ (hC : xm_C X own cc nL fr mc ms) {a b : Int} (ha : xm_in a) (hb : xm_in b) {off : Int} (tgt : Nat) (hd : decode cc pc = .ok (.if_icmp .eq off, 3)) (ht : (pc : Int) + off = (tgt : Int)) (h : a = b) (k : xm_V X kc sc r σ tgt l st) : xm_V X kc sc r σ pc l (.int (xm_J b) :: .int (xm_J a) :: st) := by
  have z := xg_icmp_eq (r1 := r) (r2 := none) (kc := kc) (sc := sc) (σ := σ) (l := l) (st := st) hC ha hb tgt hd ht (fun _ => k) (fun n => absurd h n)
  rwa [if_pos h] at z
theorem xg_icmp_eqN (hC : xm_C X own cc nL fr mc ms) {a b : Int} (ha : xm_in a) (hb : xm_in b) {off : Int} (tgt : Nat) (hd : decode cc pc = .ok (.if_icmp .eq off, 3)) (ht : (pc : Int) + off = (tgt : Int)) (h : ¬ a = b) (k : xm_V X kc sc r σ (pc + 3) l st) : xm_V X kc sc r σ pc l (.int (xm_J b) :: .int (xm_J a) :: st) := by
  have z := xg_icmp_eq (r1 := none) (r2 := r) (kc := kc) (sc := sc) (σ := σ) (l := l) (st := st) hC ha hb tgt hd ht (fun n => absurd n h) (fun _ => k)
  rwa [if_neg h] at z
theorem xg_if_eqJ (hC : xm_C X own cc nL fr mc ms) {a : Int} (ha : xm_in a) {off : Int} (tgt : Nat) (hd : decode cc pc = .ok (.ifCond .eq off, 3)) (ht : (pc : Int) + off = (tgt : Int)) (h : a = 0) (k : xm_V X kc sc r σ tgt l st) : xm_V X kc sc r σ pc l (.int (xm_J a) :: st) := by
  have z := xg_if_eq (r1 := r) (r2 := none) (kc := kc) (sc := sc) (σ := σ) (l := l) (st := st) hC ha tgt hd ht (fun _ => k) (fun n => absurd h n)
  rwa [if_pos h] at z
theorem xg_if_eqN (hC : xm_C X own cc nL fr mc ms) {a : Int} (ha : xm_in a) {off : Int} (tgt : Nat) (hd : decode cc pc = .ok (.ifCond .eq off, 3)) (ht : (pc : Int) + off = (tgt : Int)) (h : ¬ a = 0) (k : xm_V X kc sc r σ (pc + 3) l st) : xm_V X kc sc r σ pc l (.int (xm_J a) :: st) := by
  have z := xg_if_eq (r1 := none) (r2 := r) (kc := kc) (sc := sc) (σ := σ) (l := l) (st := st) hC ha tgt hd ht (fun n => absurd n h) (fun _ => k)
  rwa [if_neg h] at z
theorem xg_icmp_neJ (hC : xm_C X own cc nL fr mc ms) {a b : Int} (ha : xm_in a) (hb : xm_in b) {off : Int} (tgt : Nat) (hd : decode cc pc = .ok (.if_icmp .ne off, 3)) (ht : (pc : Int) + off = (tgt : Int)) (h : ¬ a = b) (k : xm_V X kc sc r σ tgt l st) : xm_V X kc sc r σ pc l (.int (xm_J b) :: .int (xm_J a) :: st) := by
  have z := xg_icmp_ne (r1 := none) (r2 := r) (kc := kc) (sc := sc) (σ := σ) (l := l) (st := st) hC ha hb tgt hd ht (fun n => absurd n h) (fun _ => k)
  rwa [if_neg h] at z
theorem xg_icmp_neN (hC : xm_C X own cc nL fr mc ms) {a b : Int} (ha : xm_in a) (hb : xm_in b) {off : Int} (tgt : Nat) (hd : decode cc pc = .ok (.if_icmp .ne off, 3)) (ht : (pc : Int) + off = (tgt : Int)) (h : a = b) (k : xm_V X kc sc r σ (pc + 3) l st) : xm_V X kc sc r σ pc l (.int (xm_J b) :: .int (xm_J a) :: st) := by
  have z := xg_icmp_ne (r1 := r) (r2 := none) (kc := kc) (sc := sc) (σ := σ) (l := l) (st := st) hC ha hb tgt hd ht (fun _ => k) (fun n => absurd h n)
  rwa [if_pos h] at z
theorem xg_if_neJ (hC : xm_C X own cc nL fr mc ms) {a : Int} (ha : xm_in a) {off : Int} (tgt : Nat) (hd : decode cc pc = .ok (.ifCond .ne off, 3)) (ht : (pc : Int) + off = (tgt : Int)) (h : ¬ a = 0) (k : xm_V X kc sc r σ tgt l st) : xm_V X kc sc r σ pc l (.int (xm_J a) :: st) := by
  have z := xg_if_ne (r1 := none) (r2 := r) (kc := kc) (sc := sc) (σ := σ) (l := l) (st := st) hC ha tgt hd ht (fun n => absurd n h) (fun _ => k)
  rwa [if_neg h] at z
theorem xg_if_neN (hC : xm_C X own cc nL fr mc ms) {a : Int} (ha : xm_in a) {off : Int} (tgt : Nat) (hd : decode cc pc = .ok (.ifCond .ne off, 3)) (ht : (pc : Int) + off = (tgt : Int)) (h : a = 0) (k : xm_V X kc sc r σ (pc + 3) l st) : xm_V X kc sc r σ pc l (.int (xm_J a) :: st) := by
  have z := xg_if_ne (r1 := r) (r2 := none) (kc := kc) (sc := sc) (σ := σ) (l := l) (st := st) hC ha tgt hd ht (fun _ => k) (fun n => absurd h n)
  rwa [if_pos h] at z
theorem xg_icmp_ltJ (hC : xm_C X own cc nL fr mc ms) {a b : Int} (ha : xm_in a) (hb : xm_in b) {off : Int} (tgt : Nat) (hd : decode cc pc = .ok (.if_icmp .lt off, 3)) (ht : (pc : Int) + off = (tgt : Int)) (h : a < b) (k : xm_V X kc sc r σ tgt l st) : xm_V X kc sc r σ pc l (.int (xm_J b) :: .int (xm_J a) :: st) := by
  have z := xg_icmp_lt (r1 := r) (r2 := none) (kc := kc) (sc := sc) (σ := σ) (l := l) (st := st) hC ha hb tgt hd ht (fun _ => k) (fun n => absurd h n)
  rwa [if_pos h] at z
theorem xg_icmp_ltN (hC : xm_C X own cc nL fr mc ms) {a b : Int} (ha : xm_in a) (hb : xm_in b) {off : Int} (tgt : Nat) (hd : decode cc pc = .ok (.if_icmp .lt off, 3)) (ht : (pc : Int) + off = (tgt : Int)) (h : ¬ a < b) (k : xm_V X kc sc r σ (pc + 3) l st) : xm_V X kc sc r σ pc l (.int (xm_J b) :: .int (xm_J a) :: st) := by
  have z := xg_icmp_lt (r1 := none) (r2 := r) (kc := kc) (sc := sc) (σ := σ) (l := l) (st := st) hC ha hb tgt hd ht (fun n => absurd n h) (fun _ => k)
  rwa [if_neg h] at z
theorem xg_if_ltJ (hC : xm_C X own cc nL fr mc ms) {a : Int} (ha : xm_in a) {off : Int} (tgt : Nat) (hd : decode cc pc = .ok (.ifCond .lt off, 3)) (ht : (pc : Int) + off = (tgt : Int)) (h : a < 0) (k : xm_V X kc sc r σ tgt l st) : xm_V X kc sc r σ pc l (.int (xm_J a) :: st) := by
  have z := xg_if_lt (r1 := r) (r2 := none) (kc := kc) (sc := sc) (σ := σ) (l := l) (st := st) hC ha tgt hd ht (fun _ => k) (fun n => absurd h n)
  rwa [if_pos h] at z
theorem xg_if_ltN (hC : xm_C X own cc nL fr mc ms) {a : Int} (ha : xm_in a) {off : Int} (tgt : Nat) (hd : decode cc pc = .ok (.ifCond .lt off, 3)) (ht : (pc : Int) + off = (tgt : Int)) (h : ¬ a < 0) (k : xm_V X kc sc r σ (pc + 3) l st) : xm_V X kc sc r σ pc l (.int (xm_J a) :: st) := by
  have z := xg_if_lt (r1 := none) (r2 := r) (kc := kc) (sc := sc) (σ := σ) (l := l) (st := st) hC ha tgt hd ht (fun n => absurd n h) (fun _ => k)
  rwa [if_neg h] at z
theorem xg_icmp_geJ (hC : xm_C X own cc nL fr mc ms) {a b : Int} (ha : xm_in a) (hb : xm_in b) {off : Int} (tgt : Nat) (hd : decode cc pc = .ok (.if_icmp .ge off, 3)) (ht : (pc : Int) + off = (tgt : Int)) (h : ¬ a < b) (k : xm_V X kc sc r σ tgt l st) : xm_V X kc sc r σ pc l (.int (xm_J b) :: .int (xm_J a) :: st) := by
  have z := xg_icmp_ge (r1 := none) (r2 := r) (kc := kc) (sc := sc) (σ := σ) (l := l) (st := st) hC ha hb tgt hd ht (fun n => absurd n h) (fun _ => k)
  rwa [if_neg h] at z
theorem xg_icmp_geN (hC : xm_C X own cc nL fr mc ms) {a b : Int} (ha : xm_in a) (hb : xm_in b) {off : Int} (tgt : Nat) (hd : decode cc pc = .ok (.if_icmp .ge off, 3)) (ht : (pc : Int) + off = (tgt : Int)) (h : a < b) (k : xm_V X kc sc r σ (pc + 3) l st) : xm_V X kc sc r σ pc l (.int (xm_J b) :: .int (xm_J a) :: st) := by
  have z := xg_icmp_ge (r1 := r) (r2 := none) (kc := kc) (sc := sc) (σ := σ) (l := l) (st := st) hC ha hb tgt hd ht (fun _ => k) (fun n => absurd h n)
  rwa [if_pos h] at z
theorem xg_if_geJ (hC : xm_C X own cc nL fr mc ms) {a : Int} (ha : xm_in a) {off : Int} (tgt : Nat) (hd : decode cc pc = .ok (.ifCond .ge off, 3)) (ht : (pc : Int) + off = (tgt : Int)) (h : ¬ a < 0) (k : xm_V X kc sc r σ tgt l st) : xm_V X kc sc r σ pc l (.int (xm_J a) :: st) := by
  have z := xg_if_ge (r1 := none) (r2 := r) (kc := kc) (sc := sc) (σ := σ) (l := l) (st := st) hC ha tgt hd ht (fun n => absurd n h) (fun _ => k)
  rwa [if_neg h] at z
theorem xg_if_geN (hC : xm_C X own cc nL fr mc ms) {a : Int} (ha : xm_in a) {off : Int} (tgt : Nat) (hd : decode cc pc = .ok (.ifCond .ge off, 3)) (ht : (pc : Int) + off = (tgt : Int)) (h : a < 0) (k : xm_V X kc sc r σ (pc + 3) l st) : xm_V X kc sc r σ pc l (.int (xm_J a) :: st) := by
  have z := xg_if_ge (r1 := r) (r2 := none) (kc := kc) (sc := sc) (σ := σ) (l := l) (st := st) hC ha tgt hd ht (fun _ => k) (fun n => absurd h n)
  rwa [if_pos h] at z
theorem xg_icmp_gtJ (hC : xm_C X own cc nL fr mc ms) {a b : Int} (ha : xm_in a) (hb : xm_in b) {off : Int} (tgt : Nat) (hd : decode cc pc = .ok (.if_icmp .gt off, 3)) (ht : (pc : Int) + off = (tgt : Int)) (h : b < a) (k : xm_V X kc sc r σ tgt l st) : xm_V X kc sc r σ pc l (.int (xm_J b) :: .int (xm_J a) :: st) := by
  have z := xg_icmp_gt (r1 := r) (r2 := none) (kc := kc) (sc := sc) (σ := σ) (l := l) (st := st) hC ha hb tgt hd ht (fun _ => k) (fun n => absurd h n)
  rwa [if_pos h] at z
theorem xg_icmp_gtN (hC : xm_C X own cc nL fr mc ms) {a b : Int} (ha : xm_in a) (hb : xm_in b) {off : Int} (tgt : Nat) (hd : decode cc pc = .ok (.if_icmp .gt off, 3)) (ht : (pc : Int) + off = (tgt : Int)) (h : ¬ b < a) (k : xm_V X kc sc r σ (pc + 3) l st) : xm_V X kc sc r σ pc l (.int (xm_J b) :: .int (xm_J a) :: st) := by
  have z := xg_icmp_gt (r1 := none) (r2 := r) (kc := kc) (sc := sc) (σ := σ) (l := l) (st := st) hC ha hb tgt hd ht (fun n => absurd n h) (fun _ => k)
  rwa [if_neg h] at z
theorem xg_if_gtJ (hC : xm_C X own cc nL fr mc ms) {a : Int} (ha : xm_in a) {off : Int} (tgt : Nat) (hd : decode cc pc = .ok (.ifCond .gt off, 3)) (ht : (pc : Int) + off = (tgt : Int)) (h : 0 < a) (k : xm_V X kc sc r σ tgt l st) : xm_V X kc sc r σ pc l (.int (xm_J a) :: st) := by
  have z := xg_if_gt (r1 := r) (r2 := none) (kc := kc) (sc := sc) (σ := σ) (l := l) (st := st) hC ha tgt hd ht (fun _ => k) (fun n => absurd h n)
  rwa [if_pos h] at z
theorem xg_if_gtN (hC : xm_C X own cc nL fr mc ms) {a : Int} (ha : xm_in a) {off : Int} (tgt : Nat) (hd : decode cc pc = .ok (.ifCond .gt off, 3)) (ht : (pc : Int) + off = (tgt : Int)) (h : ¬ 0 < a) (k : xm_V X kc sc r σ (pc + 3) l st) : xm_V X kc sc r σ pc l (.int (xm_J a) :: st) := by
  have z := xg_if_gt (r1 := none) (r2 := r) (kc := kc) (sc := sc) (σ := σ) (l := l) (st := st) hC ha tgt hd ht (fun n => absurd n h) (fun _ => k)
  rwa [if_neg h] at z
theorem xg_icmp_leJ (hC : xm_C X own cc nL fr mc ms) {a b : Int} (ha : xm_in a) (hb : xm_in b) {off : Int} (tgt : Nat) (hd : decode cc pc = .ok (.if_icmp .le off, 3)) (ht : (pc : Int) + off = (tgt : Int)) (h : ¬ b < a) (k : xm_V X kc sc r σ tgt l st) : xm_V X kc sc r σ pc l (.int (xm_J b) :: .int (xm_J a) :: st) := by
  have z := xg_icmp_le (r1 := none) (r2 := r) (kc := kc) (sc := sc) (σ := σ) (l := l) (st := st) hC ha hb tgt hd ht (fun n => absurd n h) (fun _ => k)
  rwa [if_neg h] at z
theorem xg_icmp_leN (hC : xm_C X own cc nL fr mc ms) {a b : Int} (ha : xm_in a) (hb : xm_in b) {off : Int} (tgt : Nat) (hd : decode cc pc = .ok (.if_icmp .le off, 3)) (ht : (pc : Int) + off = (tgt : Int)) (h : b < a) (k : xm_V X kc sc r σ (pc + 3) l st) : xm_V X kc sc r σ pc l (.int (xm_J b) :: .int (xm_J a) :: st) := by
  have z := xg_icmp_le (r1 := r) (r2 := none) (kc := kc) (sc := sc) (σ := σ) (l := l) (st := st) hC ha hb tgt hd ht (fun _ => k) (fun n => absurd h n)
  rwa [if_pos h] at z
theorem xg_if_leJ (hC : xm_C X own cc nL fr mc ms) {a : Int} (ha : xm_in a) {off : Int} (tgt : Nat) (hd : decode cc pc = .ok (.ifCond .le off, 3)) (ht : (pc : Int) + off = (tgt : Int)) (h : ¬ 0 < a) (k : xm_V X kc sc r σ tgt l st) : xm_V X kc sc r σ pc l (.int (xm_J a) :: st) := by
  have z := xg_if_le (r1 := none) (r2 := r) (kc := kc) (sc := sc) (σ := σ) (l := l) (st := st) hC ha tgt hd ht (fun n => absurd n h) (fun _ => k)
  rwa [if_neg h] at z
theorem xg_if_leN (hC : xm_C X own cc nL fr mc ms) {a : Int} (ha : xm_in a) {off : Int} (tgt : Nat) (hd : decode cc pc = .ok (.ifCond .le off, 3)) (ht : (pc : Int) + off = (tgt : Int)) (h : 0 < a) (k : xm_V X kc sc r σ (pc + 3) l st) : xm_V X kc sc r σ pc l (.int (xm_J a) :: st) := by
  have z := xg_if_le (r1 := r) (r2 := none) (kc := kc) (sc := sc) (σ := σ) (l := l) (st := st) hC ha tgt hd ht (fun _ => k) (fun n => absurd h n)
  rwa [if_pos h] at z
theorem xg_top {v w : Int} (h : v = w) (k : xm_V X kc sc r σ pc l (.int (xm_J w) :: st)) : xm_V X kc sc r σ pc l (.int (xm_J v) :: st) := by rw [h]; exact k
theorem xg_one {o0 : xm_Out} {pc' : Nat} {l2 : List (Nat × Value)} {st2 : xm_Out → List Value} {rk kc' sc' : Nat} {stk : List Value} (h : ∀ k : xm_Out → Option xm_Out, (∀ o, xm_f rk o.2 → xm_V X kc' sc' (k o) o.1 pc' l2 (st2 o)) → xm_V X kc sc ((some o0).bind k) σ pc l stk) (kk : xm_f rk o0.2 → xm_V X kc' sc' r o0.1 pc' l2 (st2 o0)) : xm_V X kc sc r σ pc l stk := by
  have z := h (fun o => @ite _ (o = o0) (Classical.propDecidable _) r none) (fun o hf => by
    by_cases e : o = o0
    · rw [if_pos e]
      subst e
      exact kk hf
    · rw [if_neg e]
      exact xg_none)
  rw [Option.bind_some, if_pos rfl] at z
  exact z
theorem xg_callV1 (hC : xm_C X own cc nL fr mc ms) {rk ci a idx maxL n fr' mc' ms' kc' sc' : Nat} {y : MethodName} {bytes : ByteArray} {ret : Option FieldType} {As : List Value} {o0 : xm_Out} {stk rest : List Value} {st2 : xm_Out → List Value} (hM : xm_M (xx_G X) (xx_I X) (xx_la X) y bytes maxL ret fr' mc' ms' (.ref (xm_ad (xx_G X) a) :: As) σ rk o0) (hL : xm_L own idx y bytes maxL ret n) (hV : Cond.instanceMethod y ∈ xm_tb ∧ Cond.selects y.cls y y ∈ xm_tb) (hl : xm_lay a = (0, ci)) (ha : xx_I X σ → 1 ≤ a ∧ a ≤ σ.2.2) (hci : ci < 11) (hcl : xm_cR ci = y.cls) (hfr : fr' + 1 ≤ fr) (hcap : kc + mc' ≤ mc ∧ sc + ms' ≤ ms) (hd : decode cc pc = .ok (.invokevirtual idx, 3)) (hstk : stk = As.reverse ++ .ref (xm_ad (xx_G X) a) :: rest) (hn : As.length = n) (hrest : (rest.map fun v => v.category).sum ≤ 8) (hkc : kc + mc' = kc') (hsc : sc + ms' = sc') (hst2 : ∀ o, (xm_o (xx_G X) rk o.2).toList ++ rest = st2 o) (kk : xm_f rk o0.2 → xm_V X kc' sc' r o0.1 (pc + 3) l (st2 o0)) : xm_V X kc sc r σ pc l stk :=
  xg_one (fun k hk => xg_callV hC (fun o h => by cases h; exact hM) hL hV hl ha hci hcl hfr hcap hd hstk hn hrest hkc hsc hst2 hk) kk
theorem xg_callS1 (hC : xm_C X own cc nL fr mc ms) {rk idx maxL n fr' mc' ms' kc' sc' : Nat} {y : MethodName} {bytes : ByteArray} {ret : Option FieldType} {As : List Value} {o0 : xm_Out} {stk rest : List Value} {st2 : xm_Out → List Value} (hM : xm_M (xx_G X) (xx_I X) (xx_la X) y bytes maxL ret fr' mc' ms' As σ rk o0) (hL : xm_L own idx y bytes maxL ret n) (hV : Cond.static y ∈ xm_tb) (hfr : fr' + 1 ≤ fr) (hcap : kc + mc' ≤ mc ∧ sc + ms' ≤ ms) (hd : decode cc pc = .ok (.invokestatic idx, 3)) (hstk : stk = As.reverse ++ rest) (hn : As.length = n) (hrest : (rest.map fun v => v.category).sum ≤ 8) (hkc : kc + mc' = kc') (hsc : sc + ms' = sc') (hst2 : ∀ o, (xm_o (xx_G X) rk o.2).toList ++ rest = st2 o) (kk : xm_f rk o0.2 → xm_V X kc' sc' r o0.1 (pc + 3) l (st2 o0)) : xm_V X kc sc r σ pc l stk :=
  xg_one (fun k hk => xg_callS hC (fun o h => by cases h; exact hM) hL hV hfr hcap hd hstk hn hrest hkc hsc hst2 hk) kk
theorem xg_callT1 (hC : xm_C X own cc nL fr mc ms) {rk i idx maxL n fr' mc' ms' kc' sc' : Nat} {y : MethodName} {bytes : ByteArray} {ret : Option FieldType} {As : List Value} {o0 : xm_Out} {stk rest : List Value} {st2 : xm_Out → List Value} (hM : xm_M (xx_G X) (xx_I X) (xx_la X) y bytes maxL ret fr' mc' ms' (.ref (xm_adK (xx_G X) i) :: As) σ rk o0) (hL : xm_L own idx y bytes maxL ret n) (hV : Cond.instanceMethod y ∈ xm_tb ∧ Cond.selects y.cls y y ∈ xm_tb) (hi : i < 24) (hcl : y.cls = "java/lang/String") (hfr : fr' + 1 ≤ fr) (hcap : kc + mc' ≤ mc ∧ sc + ms' ≤ ms) (hd : decode cc pc = .ok (.invokevirtual idx, 3)) (hstk : stk = As.reverse ++ .ref (xm_adK (xx_G X) i) :: rest) (hn : As.length = n) (hrest : (rest.map fun v => v.category).sum ≤ 8) (hkc : kc + mc' = kc') (hsc : sc + ms' = sc') (hst2 : ∀ o, (xm_o (xx_G X) rk o.2).toList ++ rest = st2 o) (kk : xm_f rk o0.2 → xm_V X kc' sc' r o0.1 (pc + 3) l (st2 o0)) : xm_V X kc sc r σ pc l stk :=
  xg_one (fun k hk => xg_callT hC (fun o h => by cases h; exact hM) hL hV hi hcl hfr hcap hd hstk hn hrest hkc hsc hst2 hk) kk
theorem xg_callI1 (hC : xm_C X own cc nL fr mc ms) {idx maxL n fr' mc' ms' kc' sc' : Nat} {y : MethodName} {bytes : ByteArray} {v : Int} {As : List Value} {o0 : xm_Out} {stk rest : List Value} (hM : xm_M (xx_G X) (xx_I X) (xx_la X) y bytes maxL none fr' mc' ms' (xm_rf (xx_G X) v :: As) σ 0 o0) (hv : 1 ≤ v) (hL : xm_L own idx y bytes maxL none n) (hV : Cond.instanceMethod y ∈ xm_tb ∧ y.name = "<init>") (hfr : fr' + 1 ≤ fr) (hcap : kc + mc' ≤ mc ∧ sc + ms' ≤ ms) (hd : decode cc pc = .ok (.invokespecial idx, 3)) (hstk : stk = As.reverse ++ xm_rf (xx_G X) v :: rest) (hn : As.length = n) (hrest : (rest.map fun v => v.category).sum ≤ 8) (hkc : kc + mc' = kc') (hsc : sc + ms' = sc') (kk : xm_V X kc' sc' r o0.1 (pc + 3) l rest) : xm_V X kc sc r σ pc l stk :=
  xg_one (rk := 0) (st2 := fun _ => rest) (fun k hk => xg_callI hC (fun o h => by cases h; exact hM) hv hL hV hfr hcap hd hstk hn hrest hkc hsc hk) (fun _ => kk)
theorem xg_callU1 (hC : xm_C X own cc nL fr mc ms) {rk a idx maxL n fr' mc' ms' kc' sc' : Nat} {y : MethodName} {bytes : ByteArray} {ret : Option FieldType} {As : List Value} {o0 : xm_Out} {stk rest : List Value} {st2 : xm_Out → List Value} (hM : xm_M (xx_G X) (xx_I X) (xx_la X) y bytes maxL ret fr' mc' ms' (.ref (xm_ad (xx_G X) a) :: As) σ rk o0) (hL : xm_L own idx y bytes maxL ret n) (hU : Cond.sameMethod y.cls y.cls y.name y.desc ∈ xm_tb) (hI : Cond.instanceMethod y ∈ xm_tb) (hW : Cond.selects RJ4 y y ∈ xm_tb) (hl : xm_lay a = (0, 10)) (ha : xx_I X σ → 1 ≤ a ∧ a ≤ σ.2.2) (hfr : fr' + 1 ≤ fr) (hcap : kc + mc' ≤ mc ∧ sc + ms' ≤ ms) (hd : decode cc pc = .ok (.invokevirtual idx, 3)) (hstk : stk = As.reverse ++ .ref (xm_ad (xx_G X) a) :: rest) (hn : As.length = n) (hrest : (rest.map fun v => v.category).sum ≤ 8) (hkc : kc + mc' = kc') (hsc : sc + ms' = sc') (hst2 : ∀ o, (xm_o (xx_G X) rk o.2).toList ++ rest = st2 o) (kk : xm_f rk o0.2 → xm_V X kc' sc' r o0.1 (pc + 3) l (st2 o0)) : xm_V X kc sc r σ pc l stk := by
  refine xg_one (fun k hk => xg_run (a := (Value.ref (xm_ad (xx_G X) a) :: As).toArray) (fun o ho H locs ls hR hS hLs => ?_) hkc hsc hst2 hk) kk
  cases ho
  obtain ⟨h1, h2, h3, h4, h5⟩ := hL
  have hts := hC.2.2.2.2.1
  have hcp := hC.2.2.2.2.2.2.2.2.2
  obtain ⟨g1, g2⟩ := ha hR.2.2.2.1
  have hrecv := va_recv hC.2.2.2.2.2.1.1 (hR.w1 g1 g2 (xm_k7 hl (by decide)) (xm_cell_o hl)) (xm_cl_at (ci := 10) (by decide)) (q0 := 0) rfl
  have hdec : va_Decl (xx_s X) ⟨y.cls, y.name, y.desc⟩ := va_Decl.of (hts _ hI) (hts _ h3)
  refine va_runU (x := y) (y := y) (As := As) (rest := rest) (C := RJ4) (owner := y.cls) (maxL := maxL) (ret := ret) ⟨hC.1, hC.2.1, hC.2.2.1, hC.2.2.2.1, hts⟩ hM ⟨⟨rfl, rfl, by show fr' + 1 ≤ _; omega, by show 8 + (maxL + 11) + 40 * fr' ≤ _; omega, pay_in hts (xm_goodW h3), List.mem_cons_self⟩, hts _ h3, hts _ h2, ⟨h5.1, h5.2.1⟩, fun sig hs => ?_, hts _ h1, hts _ hU, hdec, hts _ hW, hts _ hI⟩ ⟨xm_blind, hrecv, xm_pre hR hC.2.2.2.2.2.1⟩ rfl hn (by show ls.size = _; rw [hLs.1, hC.2.2.1]) hstk (by show 2 * 0 + _ ≤ 8; omega) hd ⟨by omega, by omega⟩
  have h6 := h5.2.2
  rw [hs] at h6
  exact (Option.some.inj h6).symm
theorem xg_callSU1 (hC : xm_C X own cc nL fr mc ms) {rk a idx maxL n fr' mc' ms' kc' sc' : Nat} {y : MethodName} {bytes : ByteArray} {ret : Option FieldType} {As : List Value} {o0 : xm_Out} {stk rest : List Value} {st2 : xm_Out → List Value} (hM : xm_M (xx_G X) (xx_I X) (xx_la X) y bytes maxL ret fr' mc' ms' (.ref (xm_ad (xx_G X) a) :: As) σ rk o0) (hL : xm_L own idx y bytes maxL ret n) (hU : Cond.sameMethod y.cls y.cls y.name y.desc ∈ xm_tb) (hI : Cond.instanceMethod y ∈ xm_tb) (hsup : Cond.superclass own y.cls ∈ xm_tb) (hni : y.name ≠ "<init>") (hl : xm_lay a = (0, 10)) (ha : xx_I X σ → 1 ≤ a ∧ a ≤ σ.2.2) (hfr : fr' + 1 ≤ fr) (hcap : kc + mc' ≤ mc ∧ sc + ms' ≤ ms) (hd : decode cc pc = .ok (.invokespecial idx, 3)) (hstk : stk = As.reverse ++ .ref (xm_ad (xx_G X) a) :: rest) (hn : As.length = n) (hrest : (rest.map fun v => v.category).sum ≤ 8) (hkc : kc + mc' = kc') (hsc : sc + ms' = sc') (hst2 : ∀ o, (xm_o (xx_G X) rk o.2).toList ++ rest = st2 o) (kk : xm_f rk o0.2 → xm_V X kc' sc' r o0.1 (pc + 3) l (st2 o0)) : xm_V X kc sc r σ pc l stk := by
  refine xg_one (fun k hk => xg_run (a := (Value.ref (xm_ad (xx_G X) a) :: As).toArray) (fun o ho H locs ls hR hS hLs => ?_) hkc hsc hst2 hk) kk
  cases ho
  obtain ⟨h1, h2, h3, h4, h5⟩ := hL
  have hts := hC.2.2.2.2.1
  have hcp := hC.2.2.2.2.2.2.2.2.2
  obtain ⟨g1, g2⟩ := ha hR.2.2.2.1
  have hat := (hC.2.2.2.2.2.1.1.1 10 _ (xm_cl_at (ci := 10) (by decide))).2
  have hrecv := va_recv hC.2.2.2.2.2.1.1 (hR.w1 g1 g2 (xm_k7 hl (by decide)) (xm_cell_o hl)) (xm_cl_at (ci := 10) (by decide)) (q0 := 0) rfl
  refine va_runSU (C := RJ4) (y := y) (As := As) (rest := rest) (maxL := maxL) (ret := ret) hat ⟨hC.1, hC.2.1, hC.2.2.1, hC.2.2.2.1, hts⟩ hM ⟨⟨rfl, rfl, by show fr' + 1 ≤ _; omega, by show 8 + (maxL + 11) + 40 * fr' ≤ _; omega, pay_in hts (xm_goodW h3), List.mem_cons_self⟩, hts _ h1, hts _ hU, hts _ hsup, hts _ hI, hts _ h2, hts _ h3, hni, fun sig hs => ?_⟩ ⟨xm_blind, hrecv, xm_pre hR hC.2.2.2.2.2.1⟩ rfl hn (by show ls.size = _; rw [hLs.1, hC.2.2.1]) hstk (by show 2 * 0 + _ ≤ 8; omega) hd ⟨by omega, by omega⟩
  have h6 := h5.2.2
  rw [hs] at h6
  exact (Option.some.inj h6).symm
end XD
