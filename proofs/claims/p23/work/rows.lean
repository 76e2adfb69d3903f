section
-- ===== PART A: goes FIRST, ahead of the names: the tables' words, and 'selects' of the private methods out of them =====
/-- a private method of a class that the tables say can be made, by its rows of tables_1 -/
def lw_okq (q : MethodName × Nat) : Prop := (q.1.cls ≠ "java/lang/invoke/MethodHandle" ∧ q.1.cls ≠ "java/lang/invoke/VarHandle") ∧ Cond.instantiable q.1.cls q.2 ∈ tables_1 ∧ Cond.privateMethod q.1 ∈ tables_1 ∧ Cond.instanceMethod q.1 ∈ tables_1
theorem lw_p0 : lw_okq (⟨"HeirRoll", "refuse", "(I)I"⟩, 11) := ⟨⟨by decide +kernel, by decide +kernel⟩, List.mem_of_getElem? (i := 24) (by decide +kernel), List.mem_of_getElem? (i := 329) (by decide +kernel), List.mem_of_getElem? (i := 330) (by decide +kernel)⟩
theorem lw_p1 : lw_okq (⟨"HeirRoll", "accept", "(I)I"⟩, 11) := ⟨⟨by decide +kernel, by decide +kernel⟩, List.mem_of_getElem? (i := 24) (by decide +kernel), List.mem_of_getElem? (i := 337) (by decide +kernel), List.mem_of_getElem? (i := 338) (by decide +kernel)⟩
theorem lw_p2 : lw_okq (⟨"HeirRoll$Unions", "isOpen", "(II)Z"⟩, 5) := ⟨⟨by decide +kernel, by decide +kernel⟩, List.mem_of_getElem? (i := 124) (by decide +kernel), List.mem_of_getElem? (i := 377) (by decide +kernel), List.mem_of_getElem? (i := 378) (by decide +kernel)⟩
theorem lw_p3 : lw_okq (⟨"HeirRoll", "courseOf", "(I)LHeirRoll$Course;"⟩, 11) := ⟨⟨by decide +kernel, by decide +kernel⟩, List.mem_of_getElem? (i := 24) (by decide +kernel), List.mem_of_getElem? (i := 393) (by decide +kernel), List.mem_of_getElem? (i := 394) (by decide +kernel)⟩
theorem lw_p4 : lw_okq (⟨"HeirRoll$Course", "noteYields", "()V"⟩, 17) := ⟨⟨by decide +kernel, by decide +kernel⟩, List.mem_of_getElem? (i := 225) (by decide +kernel), List.mem_of_getElem? (i := 406) (by decide +kernel), List.mem_of_getElem? (i := 407) (by decide +kernel)⟩
theorem lw_p5 : lw_okq (⟨"HeirRoll$Course", "passOn", "(I)V"⟩, 17) := ⟨⟨by decide +kernel, by decide +kernel⟩, List.mem_of_getElem? (i := 225) (by decide +kernel), List.mem_of_getElem? (i := 436) (by decide +kernel), List.mem_of_getElem? (i := 437) (by decide +kernel)⟩
theorem lw_p6 : lw_okq (⟨"HeirRoll$Lineup", "orderByBirths", "(I)V"⟩, 14) := ⟨⟨by decide +kernel, by decide +kernel⟩, List.mem_of_getElem? (i := 175) (by decide +kernel), List.mem_of_getElem? (i := 444) (by decide +kernel), List.mem_of_getElem? (i := 445) (by decide +kernel)⟩
theorem lw_p7 : lw_okq (⟨"HeirRoll$Lineup", "countBirthsOfKids", "(I)V"⟩, 14) := ⟨⟨by decide +kernel, by decide +kernel⟩, List.mem_of_getElem? (i := 175) (by decide +kernel), List.mem_of_getElem? (i := 449) (by decide +kernel), List.mem_of_getElem? (i := 450) (by decide +kernel)⟩
theorem lw_p8 : lw_okq (⟨"HeirRoll$Lineup", "orderByBranches", "(II)V"⟩, 14) := ⟨⟨by decide +kernel, by decide +kernel⟩, List.mem_of_getElem? (i := 175) (by decide +kernel), List.mem_of_getElem? (i := 469) (by decide +kernel), List.mem_of_getElem? (i := 470) (by decide +kernel)⟩
theorem lw_p9 : lw_okq (⟨"HeirRoll$Lineup", "pushKids", "(IIZ)V"⟩, 14) := ⟨⟨by decide +kernel, by decide +kernel⟩, List.mem_of_getElem? (i := 175) (by decide +kernel), List.mem_of_getElem? (i := 473) (by decide +kernel), List.mem_of_getElem? (i := 474) (by decide +kernel)⟩
theorem lw_p10 : lw_okq (⟨"HeirRoll$Lineup", "eldestSonWithLine", "(I)I"⟩, 14) := ⟨⟨by decide +kernel, by decide +kernel⟩, List.mem_of_getElem? (i := 175) (by decide +kernel), List.mem_of_getElem? (i := 495) (by decide +kernel), List.mem_of_getElem? (i := 496) (by decide +kernel)⟩
theorem lw_p11 : lw_okq (⟨"HeirRoll$Lineup", "soleDaughterWithLine", "(I)I"⟩, 14) := ⟨⟨by decide +kernel, by decide +kernel⟩, List.mem_of_getElem? (i := 175) (by decide +kernel), List.mem_of_getElem? (i := 503) (by decide +kernel), List.mem_of_getElem? (i := 504) (by decide +kernel)⟩
theorem lw_p12 : lw_okq (⟨"HeirRoll$Lineup", "firstOf", "(J)I"⟩, 14) := ⟨⟨by decide +kernel, by decide +kernel⟩, List.mem_of_getElem? (i := 175) (by decide +kernel), List.mem_of_getElem? (i := 508) (by decide +kernel), List.mem_of_getElem? (i := 509) (by decide +kernel)⟩
theorem lw_p13 : lw_okq (⟨"HeirRoll$Course", "mustPass", "(I)Z"⟩, 17) := ⟨⟨by decide +kernel, by decide +kernel⟩, List.mem_of_getElem? (i := 225) (by decide +kernel), List.mem_of_getElem? (i := 516) (by decide +kernel), List.mem_of_getElem? (i := 517) (by decide +kernel)⟩
theorem lw_p14 : lw_okq (⟨"HeirRoll$Course", "hasYielded", "(II)Z"⟩, 17) := ⟨⟨by decide +kernel, by decide +kernel⟩, List.mem_of_getElem? (i := 225) (by decide +kernel), List.mem_of_getElem? (i := 521) (by decide +kernel), List.mem_of_getElem? (i := 522) (by decide +kernel)⟩
theorem lw_p15 : lw_okq (⟨"HeirRoll$Course", "giveToChildBornLate", "(I)V"⟩, 17) := ⟨⟨by decide +kernel, by decide +kernel⟩, List.mem_of_getElem? (i := 225) (by decide +kernel), List.mem_of_getElem? (i := 525) (by decide +kernel), List.mem_of_getElem? (i := 526) (by decide +kernel)⟩
def lw_privs_1 : List (MethodName × Nat) := [(⟨"HeirRoll", "refuse", "(I)I"⟩, 11), (⟨"HeirRoll", "accept", "(I)I"⟩, 11), (⟨"HeirRoll$Unions", "isOpen", "(II)Z"⟩, 5), (⟨"HeirRoll", "courseOf", "(I)LHeirRoll$Course;"⟩, 11), (⟨"HeirRoll$Course", "noteYields", "()V"⟩, 17), (⟨"HeirRoll$Course", "passOn", "(I)V"⟩, 17), (⟨"HeirRoll$Lineup", "orderByBirths", "(I)V"⟩, 14), (⟨"HeirRoll$Lineup", "countBirthsOfKids", "(I)V"⟩, 14), (⟨"HeirRoll$Lineup", "orderByBranches", "(II)V"⟩, 14), (⟨"HeirRoll$Lineup", "pushKids", "(IIZ)V"⟩, 14), (⟨"HeirRoll$Lineup", "eldestSonWithLine", "(I)I"⟩, 14), (⟨"HeirRoll$Lineup", "soleDaughterWithLine", "(I)I"⟩, 14), (⟨"HeirRoll$Lineup", "firstOf", "(J)I"⟩, 14), (⟨"HeirRoll$Course", "mustPass", "(I)Z"⟩, 17), (⟨"HeirRoll$Course", "hasYielded", "(II)Z"⟩, 17), (⟨"HeirRoll$Course", "giveToChildBornLate", "(I)V"⟩, 17)]
theorem lw_r1 : ∀ q ∈ lw_privs_1, lw_okq q := List.forall_mem_cons.mpr ⟨lw_p0, List.forall_mem_cons.mpr ⟨lw_p1, List.forall_mem_cons.mpr ⟨lw_p2, List.forall_mem_cons.mpr ⟨lw_p3, List.forall_mem_cons.mpr ⟨lw_p4, List.forall_mem_cons.mpr ⟨lw_p5, List.forall_mem_cons.mpr ⟨lw_p6, List.forall_mem_cons.mpr ⟨lw_p7, List.forall_mem_cons.mpr ⟨lw_p8, List.forall_mem_cons.mpr ⟨lw_p9, List.forall_mem_cons.mpr ⟨lw_p10, List.forall_mem_cons.mpr ⟨lw_p11, List.forall_mem_cons.mpr ⟨lw_p12, List.forall_mem_cons.mpr ⟨lw_p13, List.forall_mem_cons.mpr ⟨lw_p14, List.forall_mem_cons.mpr ⟨lw_p15, fun _ h => absurd h List.not_mem_nil⟩⟩⟩⟩⟩⟩⟩⟩⟩⟩⟩⟩⟩⟩⟩⟩
theorem lw_p16 : lw_okq (⟨"HeirRoll$Course", "obeyCall", "(I)V"⟩, 17) := ⟨⟨by decide +kernel, by decide +kernel⟩, List.mem_of_getElem? (i := 225) (by decide +kernel), List.mem_of_getElem? (i := 537) (by decide +kernel), List.mem_of_getElem? (i := 538) (by decide +kernel)⟩
theorem lw_p17 : lw_okq (⟨"HeirRoll$Course", "note", "(I)V"⟩, 17) := ⟨⟨by decide +kernel, by decide +kernel⟩, List.mem_of_getElem? (i := 225) (by decide +kernel), List.mem_of_getElem? (i := 542) (by decide +kernel), List.mem_of_getElem? (i := 543) (by decide +kernel)⟩
theorem lw_p18 : lw_okq (⟨"HeirRoll$Course", "couldMove", "(LHeirRoll$Entry;)Z"⟩, 17) := ⟨⟨by decide +kernel, by decide +kernel⟩, List.mem_of_getElem? (i := 225) (by decide +kernel), List.mem_of_getElem? (i := 550) (by decide +kernel), List.mem_of_getElem? (i := 551) (by decide +kernel)⟩
theorem lw_p19 : lw_okq (⟨"HeirRoll$Course", "isStep", "(I)Z"⟩, 17) := ⟨⟨by decide +kernel, by decide +kernel⟩, List.mem_of_getElem? (i := 225) (by decide +kernel), List.mem_of_getElem? (i := 562) (by decide +kernel), List.mem_of_getElem? (i := 563) (by decide +kernel)⟩
theorem lw_p20 : lw_okq (⟨"HeirRoll$Reader", "takeKind", "()I"⟩, 4) := ⟨⟨by decide +kernel, by decide +kernel⟩, List.mem_of_getElem? (i := 46) (by decide +kernel), List.mem_of_getElem? (i := 835) (by decide +kernel), List.mem_of_getElem? (i := 836) (by decide +kernel)⟩
theorem lw_p21 : lw_okq (⟨"HeirRoll$Reader", "next", "()V"⟩, 4) := ⟨⟨by decide +kernel, by decide +kernel⟩, List.mem_of_getElem? (i := 46) (by decide +kernel), List.mem_of_getElem? (i := 839) (by decide +kernel), List.mem_of_getElem? (i := 840) (by decide +kernel)⟩
theorem lw_p22 : lw_okq (⟨"HeirRoll$Reader", "isWord", "(Ljava/lang/String;)Z"⟩, 4) := ⟨⟨by decide +kernel, by decide +kernel⟩, List.mem_of_getElem? (i := 46) (by decide +kernel), List.mem_of_getElem? (i := 866) (by decide +kernel), List.mem_of_getElem? (i := 867) (by decide +kernel)⟩
theorem lw_p23 : lw_okq (⟨"HeirRoll$Reader", "fail", "()V"⟩, 4) := ⟨⟨by decide +kernel, by decide +kernel⟩, List.mem_of_getElem? (i := 46) (by decide +kernel), List.mem_of_getElem? (i := 899) (by decide +kernel), List.mem_of_getElem? (i := 900) (by decide +kernel)⟩
theorem lw_p24 : lw_okq (⟨"HeirRoll$Reader", "takeNumber", "()I"⟩, 4) := ⟨⟨by decide +kernel, by decide +kernel⟩, List.mem_of_getElem? (i := 46) (by decide +kernel), List.mem_of_getElem? (i := 903) (by decide +kernel), List.mem_of_getElem? (i := 904) (by decide +kernel)⟩
theorem lw_p25 : lw_okq (⟨"HeirRoll$Reader", "numberAtHand", "()I"⟩, 4) := ⟨⟨by decide +kernel, by decide +kernel⟩, List.mem_of_getElem? (i := 46) (by decide +kernel), List.mem_of_getElem? (i := 907) (by decide +kernel), List.mem_of_getElem? (i := 908) (by decide +kernel)⟩
theorem lw_p26 : lw_okq (⟨"HeirRoll$Reader", "takeWhatIsOf", "(LHeirRoll$Entry;)V"⟩, 4) := ⟨⟨by decide +kernel, by decide +kernel⟩, List.mem_of_getElem? (i := 46) (by decide +kernel), List.mem_of_getElem? (i := 911) (by decide +kernel), List.mem_of_getElem? (i := 912) (by decide +kernel)⟩
theorem lw_p27 : lw_okq (⟨"HeirRoll$Reader", "takeBirth", "(LHeirRoll$Entry;)V"⟩, 4) := ⟨⟨by decide +kernel, by decide +kernel⟩, List.mem_of_getElem? (i := 46) (by decide +kernel), List.mem_of_getElem? (i := 915) (by decide +kernel), List.mem_of_getElem? (i := 916) (by decide +kernel)⟩
theorem lw_p28 : lw_okq (⟨"HeirRoll$Reader", "takeWord", "(Ljava/lang/String;)V"⟩, 4) := ⟨⟨by decide +kernel, by decide +kernel⟩, List.mem_of_getElem? (i := 46) (by decide +kernel), List.mem_of_getElem? (i := 922) (by decide +kernel), List.mem_of_getElem? (i := 923) (by decide +kernel)⟩
theorem lw_p29 : lw_okq (⟨"HeirRoll$Reader", "takeParent", "()I"⟩, 4) := ⟨⟨by decide +kernel, by decide +kernel⟩, List.mem_of_getElem? (i := 46) (by decide +kernel), List.mem_of_getElem? (i := 926) (by decide +kernel), List.mem_of_getElem? (i := 927) (by decide +kernel)⟩
theorem lw_p30 : lw_okq (⟨"HeirRoll$Reader", "takeRule", "()I"⟩, 4) := ⟨⟨by decide +kernel, by decide +kernel⟩, List.mem_of_getElem? (i := 46) (by decide +kernel), List.mem_of_getElem? (i := 932) (by decide +kernel), List.mem_of_getElem? (i := 933) (by decide +kernel)⟩
theorem lw_p31 : lw_okq (⟨"HeirRoll$Roll", "knowsPerson", "(I)Z"⟩, 6) := ⟨⟨by decide +kernel, by decide +kernel⟩, List.mem_of_getElem? (i := 65) (by decide +kernel), List.mem_of_getElem? (i := 948) (by decide +kernel), List.mem_of_getElem? (i := 949) (by decide +kernel)⟩
def lw_privs_2 : List (MethodName × Nat) := [(⟨"HeirRoll$Course", "obeyCall", "(I)V"⟩, 17), (⟨"HeirRoll$Course", "note", "(I)V"⟩, 17), (⟨"HeirRoll$Course", "couldMove", "(LHeirRoll$Entry;)Z"⟩, 17), (⟨"HeirRoll$Course", "isStep", "(I)Z"⟩, 17), (⟨"HeirRoll$Reader", "takeKind", "()I"⟩, 4), (⟨"HeirRoll$Reader", "next", "()V"⟩, 4), (⟨"HeirRoll$Reader", "isWord", "(Ljava/lang/String;)Z"⟩, 4), (⟨"HeirRoll$Reader", "fail", "()V"⟩, 4), (⟨"HeirRoll$Reader", "takeNumber", "()I"⟩, 4), (⟨"HeirRoll$Reader", "numberAtHand", "()I"⟩, 4), (⟨"HeirRoll$Reader", "takeWhatIsOf", "(LHeirRoll$Entry;)V"⟩, 4), (⟨"HeirRoll$Reader", "takeBirth", "(LHeirRoll$Entry;)V"⟩, 4), (⟨"HeirRoll$Reader", "takeWord", "(Ljava/lang/String;)V"⟩, 4), (⟨"HeirRoll$Reader", "takeParent", "()I"⟩, 4), (⟨"HeirRoll$Reader", "takeRule", "()I"⟩, 4), (⟨"HeirRoll$Roll", "knowsPerson", "(I)Z"⟩, 6)]
theorem lw_r2 : ∀ q ∈ lw_privs_2, lw_okq q := List.forall_mem_cons.mpr ⟨lw_p16, List.forall_mem_cons.mpr ⟨lw_p17, List.forall_mem_cons.mpr ⟨lw_p18, List.forall_mem_cons.mpr ⟨lw_p19, List.forall_mem_cons.mpr ⟨lw_p20, List.forall_mem_cons.mpr ⟨lw_p21, List.forall_mem_cons.mpr ⟨lw_p22, List.forall_mem_cons.mpr ⟨lw_p23, List.forall_mem_cons.mpr ⟨lw_p24, List.forall_mem_cons.mpr ⟨lw_p25, List.forall_mem_cons.mpr ⟨lw_p26, List.forall_mem_cons.mpr ⟨lw_p27, List.forall_mem_cons.mpr ⟨lw_p28, List.forall_mem_cons.mpr ⟨lw_p29, List.forall_mem_cons.mpr ⟨lw_p30, List.forall_mem_cons.mpr ⟨lw_p31, fun _ h => absurd h List.not_mem_nil⟩⟩⟩⟩⟩⟩⟩⟩⟩⟩⟩⟩⟩⟩⟩⟩
theorem lw_p32 : lw_okq (⟨"HeirRoll", "firstBrokenBond", "()I"⟩, 11) := ⟨⟨by decide +kernel, by decide +kernel⟩, List.mem_of_getElem? (i := 24) (by decide +kernel), List.mem_of_getElem? (i := 966) (by decide +kernel), List.mem_of_getElem? (i := 967) (by decide +kernel)⟩
theorem lw_p33 : lw_okq (⟨"HeirRoll$People", "takeBirth", "(LHeirRoll$Entry;I)V"⟩, 8) := ⟨⟨by decide +kernel, by decide +kernel⟩, List.mem_of_getElem? (i := 92) (by decide +kernel), List.mem_of_getElem? (i := 976) (by decide +kernel), List.mem_of_getElem? (i := 977) (by decide +kernel)⟩
theorem lw_p34 : lw_okq (⟨"HeirRoll", "settle", "()V"⟩, 11) := ⟨⟨by decide +kernel, by decide +kernel⟩, List.mem_of_getElem? (i := 24) (by decide +kernel), List.mem_of_getElem? (i := 1062) (by decide +kernel), List.mem_of_getElem? (i := 1063) (by decide +kernel)⟩
theorem lw_p35 : lw_okq (⟨"HeirRoll$Descent", "isBornLegit", "(ILHeirRoll$Unions;)Z"⟩, 7) := ⟨⟨by decide +kernel, by decide +kernel⟩, List.mem_of_getElem? (i := 146) (by decide +kernel), List.mem_of_getElem? (i := 1071) (by decide +kernel), List.mem_of_getElem? (i := 1072) (by decide +kernel)⟩
theorem lw_p36 : lw_okq (⟨"HeirRoll$Descent", "sortIn", "(I)V"⟩, 7) := ⟨⟨by decide +kernel, by decide +kernel⟩, List.mem_of_getElem? (i := 146) (by decide +kernel), List.mem_of_getElem? (i := 1083) (by decide +kernel), List.mem_of_getElem? (i := 1084) (by decide +kernel)⟩
theorem lw_p37 : lw_okq (⟨"HeirRoll$Descent", "listKids", "()V"⟩, 7) := ⟨⟨by decide +kernel, by decide +kernel⟩, List.mem_of_getElem? (i := 146) (by decide +kernel), List.mem_of_getElem? (i := 1092) (by decide +kernel), List.mem_of_getElem? (i := 1093) (by decide +kernel)⟩
theorem lw_p38 : lw_okq (⟨"HeirRoll$Descent", "gatherBodies", "()V"⟩, 7) := ⟨⟨by decide +kernel, by decide +kernel⟩, List.mem_of_getElem? (i := 146) (by decide +kernel), List.mem_of_getElem? (i := 1097) (by decide +kernel), List.mem_of_getElem? (i := 1098) (by decide +kernel)⟩
def lw_privs_3 : List (MethodName × Nat) := [(⟨"HeirRoll", "firstBrokenBond", "()I"⟩, 11), (⟨"HeirRoll$People", "takeBirth", "(LHeirRoll$Entry;I)V"⟩, 8), (⟨"HeirRoll", "settle", "()V"⟩, 11), (⟨"HeirRoll$Descent", "isBornLegit", "(ILHeirRoll$Unions;)Z"⟩, 7), (⟨"HeirRoll$Descent", "sortIn", "(I)V"⟩, 7), (⟨"HeirRoll$Descent", "listKids", "()V"⟩, 7), (⟨"HeirRoll$Descent", "gatherBodies", "()V"⟩, 7)]
theorem lw_r3 : ∀ q ∈ lw_privs_3, lw_okq q := List.forall_mem_cons.mpr ⟨lw_p32, List.forall_mem_cons.mpr ⟨lw_p33, List.forall_mem_cons.mpr ⟨lw_p34, List.forall_mem_cons.mpr ⟨lw_p35, List.forall_mem_cons.mpr ⟨lw_p36, List.forall_mem_cons.mpr ⟨lw_p37, List.forall_mem_cons.mpr ⟨lw_p38, fun _ h => absurd h List.not_mem_nil⟩⟩⟩⟩⟩⟩⟩
def lw_privs : List (MethodName × Nat) := lw_privs_1 ++ (lw_privs_2 ++ (lw_privs_3))
def lw_tbl : List Cond := k2_sels lw_privs ++ tables_1
theorem lw_privs_ok : ∀ q ∈ lw_privs, lw_okq q := by
  show ∀ q ∈ lw_privs_1 ++ (lw_privs_2 ++ (lw_privs_3)), lw_okq q
  exact List.forall_mem_append.mpr ⟨lw_r1, List.forall_mem_append.mpr ⟨lw_r2, lw_r3⟩⟩
end
section
def RX0 : String := "HeirRoll$Bonds"
def TX0 : u_T := fun k => match k with
  | _ => ("", "", "", false)
def tyX0 : Nat → FieldType := fun k => match k with
  | _ => .int
theorem nmX0 : ∀ a, a < 0 → ∀ b, b < 0 → a ≠ b → (TX0 a).2.1 ≠ (TX0 b).2.1 := by decide +kernel
theorem tyX0_ok : ∀ k, k < 0 → parseFieldDescriptor (TX0 k).2.2.1 = some (tyX0 k) := by decide +kernel
abbrev cX0_firstBroken : ByteArray := prog_2_method_2_code
def yX0_firstBroken : MethodName := ⟨RX0, "firstBroken", "(LHeirRoll$Roll;LHeirRoll$People;LHeirRoll$Unions;)I"⟩
abbrev cX0_breaks : ByteArray := prog_2_method_3_code
def yX0_breaks : MethodName := ⟨RX0, "breaks", "(ILHeirRoll$Entry;LHeirRoll$Roll;LHeirRoll$People;)Z"⟩
abbrev cX0_hasWrongSexes : ByteArray := prog_2_method_4_code
def yX0_hasWrongSexes : MethodName := ⟨RX0, "hasWrongSexes", "(LHeirRoll$Entry;LHeirRoll$People;)Z"⟩
abbrev cX0_couldAct : ByteArray := prog_2_method_5_code
def yX0_couldAct : MethodName := ⟨RX0, "couldAct", "(IIILHeirRoll$People;)Z"⟩
abbrev cX0_breaksATitle : ByteArray := prog_2_method_6_code
def yX0_breaksATitle : MethodName := ⟨RX0, "breaksATitle", "(LHeirRoll$Entry;LHeirRoll$Roll;LHeirRoll$People;)Z"⟩
def RX1 : String := "HeirRoll$Course"
def TX1 : u_T := fun k => match k with
  | 0 => ("HeirRoll$Course", "title", "I", true)
  | 1 => ("HeirRoll$Course", "roll", "LHeirRoll$Roll;", true)
  | 2 => ("HeirRoll$Course", "people", "LHeirRoll$People;", true)
  | 3 => ("HeirRoll$Course", "descent", "LHeirRoll$Descent;", true)
  | 4 => ("HeirRoll$Course", "lineup", "LHeirRoll$Lineup;", true)
  | 5 => ("HeirRoll$Course", "yieldedOn", "[I", true)
  | 6 => ("HeirRoll$Course", "days", "[I", true)
  | 7 => ("HeirRoll$Course", "states", "[I", true)
  | 8 => ("HeirRoll$Course", "roots", "[I", true)
  | 9 => ("HeirRoll$Course", "firstDays", "[I", true)
  | 10 => ("HeirRoll$Course", "size", "I", false)
  | 11 => ("HeirRoll$Course", "known", "Z", false)
  | 12 => ("HeirRoll$Course", "rule", "I", false)
  | 13 => ("HeirRoll$Course", "own", "I", false)
  | 14 => ("HeirRoll$Course", "root", "I", false)
  | 15 => ("HeirRoll$Course", "state", "I", false)
  | _ => ("HeirRoll$Course", "heldSince", "I", false)
def tyX1 : Nat → FieldType := fun k => match k with
  | 0 => .int
  | 1 => .object "HeirRoll$Roll"
  | 2 => .object "HeirRoll$People"
  | 3 => .object "HeirRoll$Descent"
  | 4 => .object "HeirRoll$Lineup"
  | 5 => .array .int
  | 6 => .array .int
  | 7 => .array .int
  | 8 => .array .int
  | 9 => .array .int
  | 10 => .int
  | 11 => .boolean
  | 12 => .int
  | 13 => .int
  | 14 => .int
  | 15 => .int
  | _ => .int
theorem nmX1 : ∀ a, a < 17 → ∀ b, b < 17 → a ≠ b → (TX1 a).2.1 ≠ (TX1 b).2.1 := by decide +kernel
theorem tyX1_ok : ∀ k, k < 17 → parseFieldDescriptor (TX1 k).2.2.1 = some (tyX1 k) := by decide +kernel
abbrev cX1_init : ByteArray := prog_3_method_1_code
def yX1_init : MethodName := ⟨RX1, "<init>", "(ILHeirRoll$Roll;LHeirRoll$People;LHeirRoll$Descent;LHeirRoll$Lineup;)V"⟩
abbrev cX1_forget : ByteArray := prog_3_method_2_code
def yX1_forget : MethodName := ⟨RX1, "forget", "()V"⟩
abbrev cX1_isKnown : ByteArray := prog_3_method_3_code
def yX1_isKnown : MethodName := ⟨RX1, "isKnown", "()Z"⟩
abbrev cX1_begin : ByteArray := prog_3_method_4_code
def yX1_begin : MethodName := ⟨RX1, "begin", "()I"⟩
abbrev cX1_noteYields : ByteArray := prog_3_method_5_code
def yX1_noteYields : MethodName := ⟨RX1, "noteYields", "()V"⟩
abbrev cX1_nextDay : ByteArray := prog_3_method_6_code
def yX1_nextDay : MethodName := ⟨RX1, "nextDay", "(I)I"⟩
abbrev cX1_couldMove : ByteArray := prog_3_method_7_code
def yX1_couldMove : MethodName := ⟨RX1, "couldMove", "(LHeirRoll$Entry;)Z"⟩
abbrev cX1_goThrough : ByteArray := prog_3_method_8_code
def yX1_goThrough : MethodName := ⟨RX1, "goThrough", "(I)V"⟩
abbrev cX1_note : ByteArray := prog_3_method_9_code
def yX1_note : MethodName := ⟨RX1, "note", "(I)V"⟩
abbrev cX1_mustPass : ByteArray := prog_3_method_10_code
def yX1_mustPass : MethodName := ⟨RX1, "mustPass", "(I)Z"⟩
abbrev cX1_hasYielded : ByteArray := prog_3_method_11_code
def yX1_hasYielded : MethodName := ⟨RX1, "hasYielded", "(II)Z"⟩
abbrev cX1_passOn : ByteArray := prog_3_method_12_code
def yX1_passOn : MethodName := ⟨RX1, "passOn", "(I)V"⟩
abbrev cX1_giveToChildBornLate : ByteArray := prog_3_method_13_code
def yX1_giveToChildBornLate : MethodName := ⟨RX1, "giveToChildBornLate", "(I)V"⟩
abbrev cX1_obeyCall : ByteArray := prog_3_method_14_code
def yX1_obeyCall : MethodName := ⟨RX1, "obeyCall", "(I)V"⟩
abbrev cX1_stepOn : ByteArray := prog_3_method_15_code
def yX1_stepOn : MethodName := ⟨RX1, "stepOn", "(I)I"⟩
abbrev cX1_isStep : ByteArray := prog_3_method_16_code
def yX1_isStep : MethodName := ⟨RX1, "isStep", "(I)Z"⟩
abbrev cX1_state : ByteArray := prog_3_method_17_code
def yX1_state : MethodName := ⟨RX1, "state", "(I)I"⟩
abbrev cX1_firstDay : ByteArray := prog_3_method_18_code
def yX1_firstDay : MethodName := ⟨RX1, "firstDay", "(I)I"⟩
abbrev cX1_countTenures : ByteArray := prog_3_method_19_code
def yX1_countTenures : MethodName := ⟨RX1, "countTenures", "()I"⟩
abbrev cX1_stepOfTenure : ByteArray := prog_3_method_20_code
def yX1_stepOfTenure : MethodName := ⟨RX1, "stepOfTenure", "(I)I"⟩
abbrev cX1_lineUpOn : ByteArray := prog_3_method_21_code
def yX1_lineUpOn : MethodName := ⟨RX1, "lineUpOn", "(I)V"⟩
def RX2 : String := "HeirRoll$Descent"
def TX2 : u_T := fun k => match k with
  | 0 => ("HeirRoll$Descent", "people", "LHeirRoll$People;", true)
  | 1 => ("HeirRoll$Descent", "legit", "[Z", true)
  | 2 => ("HeirRoll$Descent", "byAge", "[I", true)
  | 3 => ("HeirRoll$Descent", "size", "I", false)
  | 4 => ("HeirRoll$Descent", "kids", "[I", true)
  | 5 => ("HeirRoll$Descent", "kidsFrom", "[I", true)
  | _ => ("HeirRoll$Descent", "bodies", "[J", true)
def tyX2 : Nat → FieldType := fun k => match k with
  | 0 => .object "HeirRoll$People"
  | 1 => .array .boolean
  | 2 => .array .int
  | 3 => .int
  | 4 => .array .int
  | 5 => .array .int
  | _ => .array .long
theorem nmX2 : ∀ a, a < 7 → ∀ b, b < 7 → a ≠ b → (TX2 a).2.1 ≠ (TX2 b).2.1 := by decide +kernel
theorem tyX2_ok : ∀ k, k < 7 → parseFieldDescriptor (TX2 k).2.2.1 = some (tyX2 k) := by decide +kernel
abbrev cX2_init : ByteArray := prog_4_method_1_code
def yX2_init : MethodName := ⟨RX2, "<init>", "(LHeirRoll$People;)V"⟩
abbrev cX2_rebuild : ByteArray := prog_4_method_2_code
def yX2_rebuild : MethodName := ⟨RX2, "rebuild", "(LHeirRoll$Unions;)V"⟩
abbrev cX2_isBornLegit : ByteArray := prog_4_method_3_code
def yX2_isBornLegit : MethodName := ⟨RX2, "isBornLegit", "(ILHeirRoll$Unions;)Z"⟩
abbrev cX2_sortIn : ByteArray := prog_4_method_4_code
def yX2_sortIn : MethodName := ⟨RX2, "sortIn", "(I)V"⟩
abbrev cX2_listKids : ByteArray := prog_4_method_5_code
def yX2_listKids : MethodName := ⟨RX2, "listKids", "()V"⟩
abbrev cX2_gatherBodies : ByteArray := prog_4_method_6_code
def yX2_gatherBodies : MethodName := ⟨RX2, "gatherBodies", "()V"⟩
abbrev cX2_isLegit : ByteArray := prog_4_method_7_code
def yX2_isLegit : MethodName := ⟨RX2, "isLegit", "(I)Z"⟩
abbrev cX2_size : ByteArray := prog_4_method_8_code
def yX2_size : MethodName := ⟨RX2, "size", "()I"⟩
abbrev cX2_byAge : ByteArray := prog_4_method_9_code
def yX2_byAge : MethodName := ⟨RX2, "byAge", "(I)I"⟩
abbrev cX2_kidCount : ByteArray := prog_4_method_10_code
def yX2_kidCount : MethodName := ⟨RX2, "kidCount", "(I)I"⟩
abbrev cX2_kid : ByteArray := prog_4_method_11_code
def yX2_kid : MethodName := ⟨RX2, "kid", "(II)I"⟩
abbrev cX2_body : ByteArray := prog_4_method_12_code
def yX2_body : MethodName := ⟨RX2, "body", "(I)J"⟩
def RX3 : String := "HeirRoll$Entry"
def TX3 : u_T := fun k => match k with
  | 0 => ("HeirRoll$Entry", "kind", "I", false)
  | 1 => ("HeirRoll$Entry", "day", "I", false)
  | 2 => ("HeirRoll$Entry", "person", "I", false)
  | 3 => ("HeirRoll$Entry", "other", "I", false)
  | 4 => ("HeirRoll$Entry", "father", "I", false)
  | 5 => ("HeirRoll$Entry", "mother", "I", false)
  | 6 => ("HeirRoll$Entry", "title", "I", false)
  | 7 => ("HeirRoll$Entry", "rule", "I", false)
  | 8 => ("HeirRoll$Entry", "male", "Z", false)
  | _ => ("HeirRoll$Entry", "stands", "Z", false)
def tyX3 : Nat → FieldType := fun k => match k with
  | 0 => .int
  | 1 => .int
  | 2 => .int
  | 3 => .int
  | 4 => .int
  | 5 => .int
  | 6 => .int
  | 7 => .int
  | 8 => .boolean
  | _ => .boolean
theorem nmX3 : ∀ a, a < 10 → ∀ b, b < 10 → a ≠ b → (TX3 a).2.1 ≠ (TX3 b).2.1 := by decide +kernel
theorem tyX3_ok : ∀ k, k < 10 → parseFieldDescriptor (TX3 k).2.2.1 = some (tyX3 k) := by decide +kernel
abbrev cX3_init : ByteArray := prog_5_method_1_code
def yX3_init : MethodName := ⟨RX3, "<init>", "()V"⟩
abbrev cX3_isOfUnion : ByteArray := prog_5_method_2_code
def yX3_isOfUnion : MethodName := ⟨RX3, "isOfUnion", "()Z"⟩
abbrev cX3_isOfLoss : ByteArray := prog_5_method_3_code
def yX3_isOfLoss : MethodName := ⟨RX3, "isOfLoss", "()Z"⟩
abbrev cX3_opens : ByteArray := prog_5_method_4_code
def yX3_opens : MethodName := ⟨RX3, "opens", "()Z"⟩
abbrev cX3_turn : ByteArray := prog_5_method_5_code
def yX3_turn : MethodName := ⟨RX3, "turn", "()I"⟩
abbrev cX3_takesTurnsWith : ByteArray := prog_5_method_6_code
def yX3_takesTurnsWith : MethodName := ⟨RX3, "takesTurnsWith", "(LHeirRoll$Entry;)Z"⟩
def RX4 : String := "HeirRoll$Lineup"
def TX4 : u_T := fun k => match k with
  | 0 => ("HeirRoll$Lineup", "people", "LHeirRoll$People;", true)
  | 1 => ("HeirRoll$Lineup", "descent", "LHeirRoll$Descent;", true)
  | 2 => ("HeirRoll$Lineup", "body", "[I", true)
  | 3 => ("HeirRoll$Lineup", "bodySize", "I", false)
  | 4 => ("HeirRoll$Lineup", "bodyRule", "I", false)
  | 5 => ("HeirRoll$Lineup", "bodyRoot", "I", false)
  | 6 => ("HeirRoll$Lineup", "stack", "[I", true)
  | 7 => ("HeirRoll$Lineup", "top", "I", false)
  | 8 => ("HeirRoll$Lineup", "births", "[I", true)
  | 9 => ("HeirRoll$Lineup", "order", "[I", true)
  | 10 => ("HeirRoll$Lineup", "size", "I", false)
  | 11 => ("HeirRoll$Lineup", "members", "J", false)
  | 12 => ("HeirRoll$Lineup", "heirs", "[I", true)
  | _ => ("HeirRoll$Lineup", "heirCount", "I", false)
def tyX4 : Nat → FieldType := fun k => match k with
  | 0 => .object "HeirRoll$People"
  | 1 => .object "HeirRoll$Descent"
  | 2 => .array .int
  | 3 => .int
  | 4 => .int
  | 5 => .int
  | 6 => .array .int
  | 7 => .int
  | 8 => .array .int
  | 9 => .array .int
  | 10 => .int
  | 11 => .long
  | 12 => .array .int
  | _ => .int
theorem nmX4 : ∀ a, a < 14 → ∀ b, b < 14 → a ≠ b → (TX4 a).2.1 ≠ (TX4 b).2.1 := by decide +kernel
theorem tyX4_ok : ∀ k, k < 14 → parseFieldDescriptor (TX4 k).2.2.1 = some (tyX4 k) := by decide +kernel
abbrev cX4_init : ByteArray := prog_6_method_1_code
def yX4_init : MethodName := ⟨RX4, "<init>", "(LHeirRoll$People;LHeirRoll$Descent;)V"⟩
abbrev cX4_forget : ByteArray := prog_6_method_2_code
def yX4_forget : MethodName := ⟨RX4, "forget", "()V"⟩
abbrev cX4_fill : ByteArray := prog_6_method_3_code
def yX4_fill : MethodName := ⟨RX4, "fill", "(III[I)V"⟩
abbrev cX4_orderByBirths : ByteArray := prog_6_method_4_code
def yX4_orderByBirths : MethodName := ⟨RX4, "orderByBirths", "(I)V"⟩
abbrev cX4_countBirthsOfKids : ByteArray := prog_6_method_5_code
def yX4_countBirthsOfKids : MethodName := ⟨RX4, "countBirthsOfKids", "(I)V"⟩
abbrev cX4_orderByBranches : ByteArray := prog_6_method_6_code
def yX4_orderByBranches : MethodName := ⟨RX4, "orderByBranches", "(II)V"⟩
abbrev cX4_pushKids : ByteArray := prog_6_method_7_code
def yX4_pushKids : MethodName := ⟨RX4, "pushKids", "(IIZ)V"⟩
abbrev cX4_size : ByteArray := prog_6_method_8_code
def yX4_size : MethodName := ⟨RX4, "size", "()I"⟩
abbrev cX4_at : ByteArray := prog_6_method_9_code
def yX4_at : MethodName := ⟨RX4, "at", "(I)I"⟩
abbrev cX4_placeOf : ByteArray := prog_6_method_10_code
def yX4_placeOf : MethodName := ⟨RX4, "placeOf", "(I)I"⟩
abbrev cX4_has : ByteArray := prog_6_method_11_code
def yX4_has : MethodName := ⟨RX4, "has", "(I)Z"⟩
abbrev cX4_stateByWrit : ByteArray := prog_6_method_12_code
def yX4_stateByWrit : MethodName := ⟨RX4, "stateByWrit", "(I)I"⟩
abbrev cX4_eldestSonWithLine : ByteArray := prog_6_method_13_code
def yX4_eldestSonWithLine : MethodName := ⟨RX4, "eldestSonWithLine", "(I)I"⟩
abbrev cX4_soleDaughterWithLine : ByteArray := prog_6_method_14_code
def yX4_soleDaughterWithLine : MethodName := ⟨RX4, "soleDaughterWithLine", "(I)I"⟩
abbrev cX4_firstOf : ByteArray := prog_6_method_15_code
def yX4_firstOf : MethodName := ⟨RX4, "firstOf", "(J)I"⟩
def RX5 : String := "HeirRoll$People"
def TX5 : u_T := fun k => match k with
  | 0 => ("HeirRoll$People", "there", "[Z", true)
  | 1 => ("HeirRoll$People", "male", "[Z", true)
  | 2 => ("HeirRoll$People", "born", "[I", true)
  | 3 => ("HeirRoll$People", "dead", "[I", true)
  | 4 => ("HeirRoll$People", "fathers", "[I", true)
  | 5 => ("HeirRoll$People", "mothers", "[I", true)
  | 6 => ("HeirRoll$People", "birthsUp", "[I", true)
  | _ => ("HeirRoll$People", "otherBirthsUp", "[I", true)
def tyX5 : Nat → FieldType := fun k => match k with
  | 0 => .array .boolean
  | 1 => .array .boolean
  | 2 => .array .int
  | 3 => .array .int
  | 4 => .array .int
  | 5 => .array .int
  | 6 => .array .int
  | _ => .array .int
theorem nmX5 : ∀ a, a < 8 → ∀ b, b < 8 → a ≠ b → (TX5 a).2.1 ≠ (TX5 b).2.1 := by decide +kernel
theorem tyX5_ok : ∀ k, k < 8 → parseFieldDescriptor (TX5 k).2.2.1 = some (tyX5 k) := by decide +kernel
abbrev cX5_init : ByteArray := prog_7_method_1_code
def yX5_init : MethodName := ⟨RX5, "<init>", "()V"⟩
abbrev cX5_rebuild : ByteArray := prog_7_method_2_code
def yX5_rebuild : MethodName := ⟨RX5, "rebuild", "(LHeirRoll$Roll;)V"⟩
abbrev cX5_takeBirth : ByteArray := prog_7_method_3_code
def yX5_takeBirth : MethodName := ⟨RX5, "takeBirth", "(LHeirRoll$Entry;I)V"⟩
abbrev cX5_has : ByteArray := prog_7_method_4_code
def yX5_has : MethodName := ⟨RX5, "has", "(I)Z"⟩
abbrev cX5_isMale : ByteArray := prog_7_method_5_code
def yX5_isMale : MethodName := ⟨RX5, "isMale", "(I)Z"⟩
abbrev cX5_bornOn : ByteArray := prog_7_method_6_code
def yX5_bornOn : MethodName := ⟨RX5, "bornOn", "(I)I"⟩
abbrev cX5_deadOn : ByteArray := prog_7_method_7_code
def yX5_deadOn : MethodName := ⟨RX5, "deadOn", "(I)I"⟩
abbrev cX5_father : ByteArray := prog_7_method_8_code
def yX5_father : MethodName := ⟨RX5, "father", "(I)I"⟩
abbrev cX5_mother : ByteArray := prog_7_method_9_code
def yX5_mother : MethodName := ⟨RX5, "mother", "(I)I"⟩
abbrev cX5_isDeadAhead : ByteArray := prog_7_method_10_code
def yX5_isDeadAhead : MethodName := ⟨RX5, "isDeadAhead", "(II)Z"⟩
abbrev cX5_isAlive : ByteArray := prog_7_method_11_code
def yX5_isAlive : MethodName := ⟨RX5, "isAlive", "(II)Z"⟩
abbrev cX5_isGrown : ByteArray := prog_7_method_12_code
def yX5_isGrown : MethodName := ⟨RX5, "isGrown", "(II)Z"⟩
abbrev cX5_isElder : ByteArray := prog_7_method_13_code
def yX5_isElder : MethodName := ⟨RX5, "isElder", "(II)Z"⟩
def RX6 : String := "HeirRoll$Reader"
def TX6 : u_T := fun k => match k with
  | 0 => ("HeirRoll$Reader", "tape", "LHeirRoll$Tape;", true)
  | 1 => ("HeirRoll$Reader", "from", "I", false)
  | 2 => ("HeirRoll$Reader", "to", "I", false)
  | _ => ("HeirRoll$Reader", "wrongAt", "I", false)
def tyX6 : Nat → FieldType := fun k => match k with
  | 0 => .object "HeirRoll$Tape"
  | 1 => .int
  | 2 => .int
  | _ => .int
theorem nmX6 : ∀ a, a < 4 → ∀ b, b < 4 → a ≠ b → (TX6 a).2.1 ≠ (TX6 b).2.1 := by decide +kernel
theorem tyX6_ok : ∀ k, k < 4 → parseFieldDescriptor (TX6 k).2.2.1 = some (tyX6 k) := by decide +kernel
abbrev cX6_init : ByteArray := prog_8_method_1_code
def yX6_init : MethodName := ⟨RX6, "<init>", "(LHeirRoll$Tape;)V"⟩
abbrev cX6_readInto : ByteArray := prog_8_method_2_code
def yX6_readInto : MethodName := ⟨RX6, "readInto", "(LHeirRoll$Entry;)I"⟩
abbrev cX6_takeWhatIsOf : ByteArray := prog_8_method_3_code
def yX6_takeWhatIsOf : MethodName := ⟨RX6, "takeWhatIsOf", "(LHeirRoll$Entry;)V"⟩
abbrev cX6_takeBirth : ByteArray := prog_8_method_4_code
def yX6_takeBirth : MethodName := ⟨RX6, "takeBirth", "(LHeirRoll$Entry;)V"⟩
abbrev cX6_takeKind : ByteArray := prog_8_method_5_code
def yX6_takeKind : MethodName := ⟨RX6, "takeKind", "()I"⟩
abbrev cX6_takeRule : ByteArray := prog_8_method_6_code
def yX6_takeRule : MethodName := ⟨RX6, "takeRule", "()I"⟩
abbrev cX6_takeWord : ByteArray := prog_8_method_7_code
def yX6_takeWord : MethodName := ⟨RX6, "takeWord", "(Ljava/lang/String;)V"⟩
abbrev cX6_takeParent : ByteArray := prog_8_method_8_code
def yX6_takeParent : MethodName := ⟨RX6, "takeParent", "()I"⟩
abbrev cX6_takeNumber : ByteArray := prog_8_method_9_code
def yX6_takeNumber : MethodName := ⟨RX6, "takeNumber", "()I"⟩
abbrev cX6_numberAtHand : ByteArray := prog_8_method_10_code
def yX6_numberAtHand : MethodName := ⟨RX6, "numberAtHand", "()I"⟩
abbrev cX6_next : ByteArray := prog_8_method_11_code
def yX6_next : MethodName := ⟨RX6, "next", "()V"⟩
abbrev cX6_isWord : ByteArray := prog_8_method_12_code
def yX6_isWord : MethodName := ⟨RX6, "isWord", "(Ljava/lang/String;)Z"⟩
abbrev cX6_fail : ByteArray := prog_8_method_13_code
def yX6_fail : MethodName := ⟨RX6, "fail", "()V"⟩
abbrev cX6_isLetter : ByteArray := prog_8_method_14_code
def yX6_isLetter : MethodName := ⟨RX6, "isLetter", "(I)Z"⟩
abbrev cX6_isDigit : ByteArray := prog_8_method_15_code
def yX6_isDigit : MethodName := ⟨RX6, "isDigit", "(I)Z"⟩
abbrev cX6_kindWord : ByteArray := prog_8_method_16_code
def yX6_kindWord : MethodName := ⟨RX6, "kindWord", "(I)Ljava/lang/String;"⟩
abbrev cX6_ruleWord : ByteArray := prog_8_method_17_code
def yX6_ruleWord : MethodName := ⟨RX6, "ruleWord", "(I)Ljava/lang/String;"⟩
def RX7 : String := "HeirRoll$Roll"
def TX7 : u_T := fun k => match k with
  | 0 => ("HeirRoll$Roll", "entries", "[LHeirRoll$Entry;", true)
  | 1 => ("HeirRoll$Roll", "births", "[LHeirRoll$Entry;", true)
  | 2 => ("HeirRoll$Roll", "grants", "[LHeirRoll$Entry;", true)
  | 3 => ("HeirRoll$Roll", "size", "I", false)
  | 4 => ("HeirRoll$Roll", "persons", "I", false)
  | _ => ("HeirRoll$Roll", "titles", "I", false)
def tyX7 : Nat → FieldType := fun k => match k with
  | 0 => .array (.object "HeirRoll$Entry")
  | 1 => .array (.object "HeirRoll$Entry")
  | 2 => .array (.object "HeirRoll$Entry")
  | 3 => .int
  | 4 => .int
  | _ => .int
theorem nmX7 : ∀ a, a < 6 → ∀ b, b < 6 → a ≠ b → (TX7 a).2.1 ≠ (TX7 b).2.1 := by decide +kernel
theorem tyX7_ok : ∀ k, k < 6 → parseFieldDescriptor (TX7 k).2.2.1 = some (tyX7 k) := by decide +kernel
abbrev cX7_init : ByteArray := prog_9_method_1_code
def yX7_init : MethodName := ⟨RX7, "<init>", "()V"⟩
abbrev cX7_size : ByteArray := prog_9_method_2_code
def yX7_size : MethodName := ⟨RX7, "size", "()I"⟩
abbrev cX7_taken : ByteArray := prog_9_method_5_code
def yX7_taken : MethodName := ⟨RX7, "taken", "(I)LHeirRoll$Entry;"⟩
abbrev cX7_standing : ByteArray := prog_9_method_6_code
def yX7_standing : MethodName := ⟨RX7, "standing", "(I)LHeirRoll$Entry;"⟩
abbrev cX7_hasPerson : ByteArray := prog_9_method_8_code
def yX7_hasPerson : MethodName := ⟨RX7, "hasPerson", "(I)Z"⟩
abbrev cX7_hasTitle : ByteArray := prog_9_method_9_code
def yX7_hasTitle : MethodName := ⟨RX7, "hasTitle", "(I)Z"⟩
abbrev cX7_grantOf : ByteArray := prog_9_method_10_code
def yX7_grantOf : MethodName := ⟨RX7, "grantOf", "(I)LHeirRoll$Entry;"⟩
abbrev cX7_knowsAllNamedBy : ByteArray := prog_9_method_11_code
def yX7_knowsAllNamedBy : MethodName := ⟨RX7, "knowsAllNamedBy", "(LHeirRoll$Entry;)Z"⟩
abbrev cX7_knowsPerson : ByteArray := prog_9_method_12_code
def yX7_knowsPerson : MethodName := ⟨RX7, "knowsPerson", "(I)Z"⟩
abbrev cX7_hasRoomFor : ByteArray := prog_9_method_13_code
def yX7_hasRoomFor : MethodName := ⟨RX7, "hasRoomFor", "(LHeirRoll$Entry;)Z"⟩
abbrev cX7_add : ByteArray := prog_9_method_14_code
def yX7_add : MethodName := ⟨RX7, "add", "(LHeirRoll$Entry;)V"⟩
abbrev cX7_dropLatest : ByteArray := prog_9_method_15_code
def yX7_dropLatest : MethodName := ⟨RX7, "dropLatest", "()V"⟩
abbrev cX7_tellsAgain : ByteArray := prog_9_method_18_code
def yX7_tellsAgain : MethodName := ⟨RX7, "tellsAgain", "(LHeirRoll$Entry;)Z"⟩
abbrev cX7_isOutOfTurn : ByteArray := prog_9_method_19_code
def yX7_isOutOfTurn : MethodName := ⟨RX7, "isOutOfTurn", "(LHeirRoll$Entry;)Z"⟩
abbrev cX7_nextPart : ByteArray := prog_9_method_20_code
def yX7_nextPart : MethodName := ⟨RX7, "nextPart", "(LHeirRoll$Entry;)I"⟩
abbrev cX7_latestLossOrBack : ByteArray := prog_9_method_21_code
def yX7_latestLossOrBack : MethodName := ⟨RX7, "latestLossOrBack", "(II)LHeirRoll$Entry;"⟩
def RX8 : String := "HeirRoll$Tape"
def TX8 : u_T := fun k => match k with
  | 0 => ("HeirRoll$Tape", "bytes", "[I", true)
  | _ => ("HeirRoll$Tape", "size", "I", false)
def tyX8 : Nat → FieldType := fun k => match k with
  | 0 => .array .int
  | _ => .int
theorem nmX8 : ∀ a, a < 2 → ∀ b, b < 2 → a ≠ b → (TX8 a).2.1 ≠ (TX8 b).2.1 := by decide +kernel
theorem tyX8_ok : ∀ k, k < 2 → parseFieldDescriptor (TX8 k).2.2.1 = some (tyX8 k) := by decide +kernel
abbrev cX8_init : ByteArray := prog_10_method_1_code
def yX8_init : MethodName := ⟨RX8, "<init>", "()V"⟩
abbrev cX8_size : ByteArray := prog_10_method_2_code
def yX8_size : MethodName := ⟨RX8, "size", "()I"⟩
abbrev cX8_hasRoomFor : ByteArray := prog_10_method_3_code
def yX8_hasRoomFor : MethodName := ⟨RX8, "hasRoomFor", "(I)Z"⟩
abbrev cX8_add : ByteArray := prog_10_method_4_code
def yX8_add : MethodName := ⟨RX8, "add", "(I)V"⟩
abbrev cX8_keep : ByteArray := prog_10_method_5_code
def yX8_keep : MethodName := ⟨RX8, "keep", "(I)V"⟩
abbrev cX8_at : ByteArray := prog_10_method_6_code
def yX8_at : MethodName := ⟨RX8, "at", "(I)I"⟩
def RX9 : String := "HeirRoll$Unions"
def TX9 : u_T := fun k => match k with
  | 0 => ("HeirRoll$Unions", "men", "[I", true)
  | 1 => ("HeirRoll$Unions", "women", "[I", true)
  | 2 => ("HeirRoll$Unions", "firstDays", "[I", true)
  | 3 => ("HeirRoll$Unions", "lastDays", "[I", true)
  | _ => ("HeirRoll$Unions", "size", "I", false)
def tyX9 : Nat → FieldType := fun k => match k with
  | 0 => .array .int
  | 1 => .array .int
  | 2 => .array .int
  | 3 => .array .int
  | _ => .int
theorem nmX9 : ∀ a, a < 5 → ∀ b, b < 5 → a ≠ b → (TX9 a).2.1 ≠ (TX9 b).2.1 := by decide +kernel
theorem tyX9_ok : ∀ k, k < 5 → parseFieldDescriptor (TX9 k).2.2.1 = some (tyX9 k) := by decide +kernel
abbrev cX9_init : ByteArray := prog_11_method_1_code
def yX9_init : MethodName := ⟨RX9, "<init>", "()V"⟩
abbrev cX9_rebuild : ByteArray := prog_11_method_2_code
def yX9_rebuild : MethodName := ⟨RX9, "rebuild", "(LHeirRoll$Roll;LHeirRoll$People;)V"⟩
abbrev cX9_lastDay : ByteArray := prog_11_method_3_code
def yX9_lastDay : MethodName := ⟨RX9, "lastDay", "(LHeirRoll$Entry;LHeirRoll$Roll;LHeirRoll$People;)I"⟩
abbrev cX9_earlier : ByteArray := prog_11_method_4_code
def yX9_earlier : MethodName := ⟨RX9, "earlier", "(II)I"⟩
abbrev cX9_isOpen : ByteArray := prog_11_method_5_code
def yX9_isOpen : MethodName := ⟨RX9, "isOpen", "(II)Z"⟩
abbrev cX9_joined : ByteArray := prog_11_method_6_code
def yX9_joined : MethodName := ⟨RX9, "joined", "(III)Z"⟩
abbrev cX9_otherIn : ByteArray := prog_11_method_7_code
def yX9_otherIn : MethodName := ⟨RX9, "otherIn", "(II)I"⟩
abbrev cX9_putSomebodyInTwo : ByteArray := prog_11_method_8_code
def yX9_putSomebodyInTwo : MethodName := ⟨RX9, "putSomebodyInTwo", "()Z"⟩
def RX10 : String := "HeirRoll"
def TX10 : u_T := fun k => match k with
  | 0 => ("HeirRoll", "tape", "LHeirRoll$Tape;", true)
  | 1 => ("HeirRoll", "reader", "LHeirRoll$Reader;", true)
  | 2 => ("HeirRoll", "roll", "LHeirRoll$Roll;", true)
  | 3 => ("HeirRoll", "people", "LHeirRoll$People;", true)
  | 4 => ("HeirRoll", "unions", "LHeirRoll$Unions;", true)
  | 5 => ("HeirRoll", "descent", "LHeirRoll$Descent;", true)
  | 6 => ("HeirRoll", "lineup", "LHeirRoll$Lineup;", true)
  | 7 => ("HeirRoll", "courses", "[LHeirRoll$Course;", true)
  | 8 => ("HeirRoll", "lastStatus", "I", false)
  | 9 => ("HeirRoll", "lastWrongPlace", "I", false)
  | _ => ("HeirRoll", "lastBond", "I", false)
def tyX10 : Nat → FieldType := fun k => match k with
  | 0 => .object "HeirRoll$Tape"
  | 1 => .object "HeirRoll$Reader"
  | 2 => .object "HeirRoll$Roll"
  | 3 => .object "HeirRoll$People"
  | 4 => .object "HeirRoll$Unions"
  | 5 => .object "HeirRoll$Descent"
  | 6 => .object "HeirRoll$Lineup"
  | 7 => .array (.object "HeirRoll$Course")
  | 8 => .int
  | 9 => .int
  | _ => .int
theorem nmX10 : ∀ a, a < 11 → ∀ b, b < 11 → a ≠ b → (TX10 a).2.1 ≠ (TX10 b).2.1 := by decide +kernel
theorem tyX10_ok : ∀ k, k < 11 → parseFieldDescriptor (TX10 k).2.2.1 = some (tyX10 k) := by decide +kernel
abbrev cX10_init : ByteArray := prog_1_method_1_code
def yX10_init : MethodName := ⟨RX10, "<init>", "()V"⟩
abbrev cX10_feed : ByteArray := prog_1_method_2_code
def yX10_feed : MethodName := ⟨RX10, "feed", "(IIIII)I"⟩
abbrev cX10_end : ByteArray := prog_1_method_3_code
def yX10_end : MethodName := ⟨RX10, "end", "(I)I"⟩
abbrev cX10_record : ByteArray := prog_1_method_4_code
def yX10_record : MethodName := ⟨RX10, "record", "()I"⟩
abbrev cX10_bond : ByteArray := prog_1_method_6_code
def yX10_bond : MethodName := ⟨RX10, "bond", "()I"⟩
abbrev cX10_person : ByteArray := prog_1_method_10_code
def yX10_person : MethodName := ⟨RX10, "person", "(II)I"⟩
abbrev cX10_partner : ByteArray := prog_1_method_11_code
def yX10_partner : MethodName := ⟨RX10, "partner", "(II)I"⟩
abbrev cX10_holder : ByteArray := prog_1_method_13_code
def yX10_holder : MethodName := ⟨RX10, "holder", "(II)I"⟩
abbrev cX10_since : ByteArray := prog_1_method_14_code
def yX10_since : MethodName := ⟨RX10, "since", "(II)I"⟩
abbrev cX10_line : ByteArray := prog_1_method_15_code
def yX10_line : MethodName := ⟨RX10, "line", "(III)I"⟩
abbrev cX10_rank : ByteArray := prog_1_method_16_code
def yX10_rank : MethodName := ⟨RX10, "rank", "(III)I"⟩
abbrev cX10_tenures : ByteArray := prog_1_method_18_code
def yX10_tenures : MethodName := ⟨RX10, "tenures", "(I)I"⟩
abbrev cX10_tenure : ByteArray := prog_1_method_19_code
def yX10_tenure : MethodName := ⟨RX10, "tenure", "(III)I"⟩
abbrev cX10_status : ByteArray := prog_1_method_21_code
def yX10_status : MethodName := ⟨RX10, "status", "()I"⟩
abbrev cX10_accept : ByteArray := prog_1_method_22_code
def yX10_accept : MethodName := ⟨RX10, "accept", "(I)I"⟩
abbrev cX10_refuse : ByteArray := prog_1_method_23_code
def yX10_refuse : MethodName := ⟨RX10, "refuse", "(I)I"⟩
abbrev cX10_isDay : ByteArray := prog_1_method_24_code
def yX10_isDay : MethodName := ⟨RX10, "isDay", "(I)Z"⟩
abbrev cX10_isPersonNumber : ByteArray := prog_1_method_25_code
def yX10_isPersonNumber : MethodName := ⟨RX10, "isPersonNumber", "(I)Z"⟩
abbrev cX10_firstBrokenBond : ByteArray := prog_1_method_26_code
def yX10_firstBrokenBond : MethodName := ⟨RX10, "firstBrokenBond", "()I"⟩
abbrev cX10_settle : ByteArray := prog_1_method_27_code
def yX10_settle : MethodName := ⟨RX10, "settle", "()V"⟩
abbrev cX10_courseOf : ByteArray := prog_1_method_28_code
def yX10_courseOf : MethodName := ⟨RX10, "courseOf", "(I)LHeirRoll$Course;"⟩
def RX11 : String := "HeirRollModel"
def TX11 : u_T := fun k => match k with
  | _ => ("", "", "", false)
def tyX11 : Nat → FieldType := fun k => match k with
  | _ => .int
theorem nmX11 : ∀ a, a < 0 → ∀ b, b < 0 → a ≠ b → (TX11 a).2.1 ≠ (TX11 b).2.1 := by decide +kernel
theorem tyX11_ok : ∀ k, k < 0 → parseFieldDescriptor (TX11 k).2.2.1 = some (tyX11 k) := by decide +kernel
def RJ5 : String := "java/lang/AbstractStringBuilder"
def TJ5 : u_T := fun k => match k with
  | _ => ("", "", "", false)
def tyJ5 : Nat → FieldType := fun k => match k with
  | _ => .int
theorem nmJ5 : ∀ a, a < 0 → ∀ b, b < 0 → a ≠ b → (TJ5 a).2.1 ≠ (TJ5 b).2.1 := by decide +kernel
theorem tyJ5_ok : ∀ k, k < 0 → parseFieldDescriptor (TJ5 k).2.2.1 = some (tyJ5 k) := by decide +kernel
abbrev cJ5_init_d00df : ByteArray := prog_14_method_2_code
def yJ5_init_d00df : MethodName := ⟨RJ5, "<init>", "(I)V"⟩
abbrev cJ5_length_8abf5 : ByteArray := prog_14_method_6_code
def yJ5_length_8abf5 : MethodName := ⟨RJ5, "length", "()I"⟩
abbrev cJ5_ensureCapacityInternal_d00df : ByteArray := prog_14_method_9_code
def yJ5_ensureCapacityInternal_d00df : MethodName := ⟨RJ5, "ensureCapacityInternal", "(I)V"⟩
abbrev cJ5_newCapacity_0f7a4 : ByteArray := prog_14_method_10_code
def yJ5_newCapacity_0f7a4 : MethodName := ⟨RJ5, "newCapacity", "(I)I"⟩
abbrev cJ5_inflate_da8c8 : ByteArray := prog_14_method_11_code
def yJ5_inflate_da8c8 : MethodName := ⟨RJ5, "inflate", "()V"⟩
abbrev cJ5_setLength_d00df : ByteArray := prog_14_method_13_code
def yJ5_setLength_d00df : MethodName := ⟨RJ5, "setLength", "(I)V"⟩
abbrev cJ5_charAt_5068e : ByteArray := prog_14_method_14_code
def yJ5_charAt_5068e : MethodName := ⟨RJ5, "charAt", "(I)C"⟩
abbrev cJ5_append_cf1ce : ByteArray := prog_14_method_22_code
def yJ5_append_cf1ce : MethodName := ⟨RJ5, "append", "(Ljava/lang/String;)Ljava/lang/AbstractStringBuilder;"⟩
abbrev cJ5_appendNull_278bc : ByteArray := prog_14_method_26_code
def yJ5_appendNull_278bc : MethodName := ⟨RJ5, "appendNull", "()Ljava/lang/AbstractStringBuilder;"⟩
abbrev cJ5_append_3fe6f : ByteArray := prog_14_method_31_code
def yJ5_append_3fe6f : MethodName := ⟨RJ5, "append", "(C)Ljava/lang/AbstractStringBuilder;"⟩
abbrev cJ5_append_c97b9 : ByteArray := prog_14_method_32_code
def yJ5_append_c97b9 : MethodName := ⟨RJ5, "append", "(I)Ljava/lang/AbstractStringBuilder;"⟩
abbrev cJ5_isLatin1_aae02 : ByteArray := prog_14_method_68_code
def yJ5_isLatin1_aae02 : MethodName := ⟨RJ5, "isLatin1", "()Z"⟩
abbrev cJ5_inflateIfNeededFor_a7421 : ByteArray := prog_14_method_71_code
def yJ5_inflateIfNeededFor_a7421 : MethodName := ⟨RJ5, "inflateIfNeededFor", "(Ljava/lang/String;)V"⟩
abbrev cJ5_putStringAt_47b60 : ByteArray := prog_14_method_73_code
def yJ5_putStringAt_47b60 : MethodName := ⟨RJ5, "putStringAt", "(ILjava/lang/String;)V"⟩
def RJ6 : String := "java/lang/Integer"
def TJ6 : u_T := fun k => match k with
  | _ => ("", "", "", false)
def tyJ6 : Nat → FieldType := fun k => match k with
  | _ => .int
theorem nmJ6 : ∀ a, a < 0 → ∀ b, b < 0 → a ≠ b → (TJ6 a).2.1 ≠ (TJ6 b).2.1 := by decide +kernel
theorem tyJ6_ok : ∀ k, k < 0 → parseFieldDescriptor (TJ6 k).2.2.1 = some (tyJ6 k) := by decide +kernel
abbrev cJ6_getChars_ba4f3 : ByteArray := prog_16_method_12_code
def yJ6_getChars_ba4f3 : MethodName := ⟨RJ6, "getChars", "(II[B)I"⟩
abbrev cJ6_stringSize_0f7a4 : ByteArray := prog_16_method_13_code
def yJ6_stringSize_0f7a4 : MethodName := ⟨RJ6, "stringSize", "(I)I"⟩
def RJ9 : String := "java/lang/Math"
def TJ9 : u_T := fun k => match k with
  | _ => ("", "", "", false)
def tyJ9 : Nat → FieldType := fun k => match k with
  | _ => .int
theorem nmJ9 : ∀ a, a < 0 → ∀ b, b < 0 → a ≠ b → (TJ9 a).2.1 ≠ (TJ9 b).2.1 := by decide +kernel
theorem tyJ9_ok : ∀ k, k < 0 → parseFieldDescriptor (TJ9 k).2.2.1 = some (tyJ9 k) := by decide +kernel
abbrev cJ9_max_7cf53 : ByteArray := prog_17_method_65_code
def yJ9_max_7cf53 : MethodName := ⟨RJ9, "max", "(II)I"⟩
abbrev cJ9_min_7cf53 : ByteArray := prog_17_method_69_code
def yJ9_min_7cf53 : MethodName := ⟨RJ9, "min", "(II)I"⟩
def RJ0 : String := "java/lang/String"
def TJ0 : u_T := fun k => match k with
  | _ => ("", "", "", false)
def tyJ0 : Nat → FieldType := fun k => match k with
  | _ => .int
theorem nmJ0 : ∀ a, a < 0 → ∀ b, b < 0 → a ≠ b → (TJ0 a).2.1 ≠ (TJ0 b).2.1 := by decide +kernel
theorem tyJ0_ok : ∀ k, k < 0 → parseFieldDescriptor (TJ0 k).2.2.1 = some (tyJ0 k) := by decide +kernel
abbrev cJ0_length_8abf5 : ByteArray := prog_18_method_54_code
def yJ0_length_8abf5 : MethodName := ⟨RJ0, "length", "()I"⟩
abbrev cJ0_charAt_5068e : ByteArray := prog_18_method_56_code
def yJ0_charAt_5068e : MethodName := ⟨RJ0, "charAt", "(I)C"⟩
abbrev cJ0_getBytes_840e7 : ByteArray := prog_18_method_147_code
def yJ0_getBytes_840e7 : MethodName := ⟨RJ0, "getBytes", "([BIB)V"⟩
abbrev cJ0_coder_7d493 : ByteArray := prog_18_method_152_code
def yJ0_coder_7d493 : MethodName := ⟨RJ0, "coder", "()B"⟩
abbrev cJ0_isLatin1_aae02 : ByteArray := prog_18_method_154_code
def yJ0_isLatin1_aae02 : MethodName := ⟨RJ0, "isLatin1", "()Z"⟩
abbrev cJ0_checkIndex_df160 : ByteArray := prog_18_method_155_code
def yJ0_checkIndex_df160 : MethodName := ⟨RJ0, "checkIndex", "(II)V"⟩
abbrev cJ0_checkBoundsOffCount_cabcc : ByteArray := prog_18_method_157_code
def yJ0_checkBoundsOffCount_cabcc : MethodName := ⟨RJ0, "checkBoundsOffCount", "(III)I"⟩
abbrev cJ0_checkBoundsBeginEnd_23922 : ByteArray := prog_18_method_158_code
def yJ0_checkBoundsBeginEnd_23922 : MethodName := ⟨RJ0, "checkBoundsBeginEnd", "(III)V"⟩
def RJ4 : String := "java/lang/StringBuilder"
def TJ4 : u_T := fun k => match k with
  | 0 => ("java/lang/AbstractStringBuilder", "value", "[B", false)
  | 1 => ("java/lang/AbstractStringBuilder", "coder", "B", false)
  | 2 => ("java/lang/AbstractStringBuilder", "maybeLatin1", "Z", false)
  | _ => ("java/lang/AbstractStringBuilder", "count", "I", false)
def tyJ4 : Nat → FieldType := fun k => match k with
  | 0 => .array .byte
  | 1 => .byte
  | 2 => .boolean
  | _ => .int
theorem nmJ4 : ∀ a, a < 4 → ∀ b, b < 4 → a ≠ b → (TJ4 a).2.1 ≠ (TJ4 b).2.1 := by decide +kernel
theorem tyJ4_ok : ∀ k, k < 4 → parseFieldDescriptor (TJ4 k).2.2.1 = some (tyJ4 k) := by decide +kernel
abbrev cJ4_init_da8c8 : ByteArray := prog_19_method_1_code
def yJ4_init_da8c8 : MethodName := ⟨RJ4, "<init>", "()V"⟩
abbrev cJ4_append_15ec4 : ByteArray := prog_19_method_7_code
def yJ4_append_15ec4 : MethodName := ⟨RJ4, "append", "(Ljava/lang/String;)Ljava/lang/StringBuilder;"⟩
abbrev cJ4_append_cf468 : ByteArray := prog_19_method_14_code
def yJ4_append_cf468 : MethodName := ⟨RJ4, "append", "(C)Ljava/lang/StringBuilder;"⟩
abbrev cJ4_append_bf812 : ByteArray := prog_19_method_15_code
def yJ4_append_bf812 : MethodName := ⟨RJ4, "append", "(I)Ljava/lang/StringBuilder;"⟩
abbrev cJ4_charAt_5068e : ByteArray := prog_19_method_88_code
def yJ4_charAt_5068e : MethodName := ⟨RJ4, "charAt", "(I)C"⟩
abbrev cJ4_setLength_d00df : ByteArray := prog_19_method_89_code
def yJ4_setLength_d00df : MethodName := ⟨RJ4, "setLength", "(I)V"⟩
abbrev cJ4_length_8abf5 : ByteArray := prog_19_method_93_code
def yJ4_length_8abf5 : MethodName := ⟨RJ4, "length", "()I"⟩
def RJ1 : String := "java/lang/StringLatin1"
def TJ1 : u_T := fun k => match k with
  | _ => ("", "", "", false)
def tyJ1 : Nat → FieldType := fun k => match k with
  | _ => .int
theorem nmJ1 : ∀ a, a < 0 → ∀ b, b < 0 → a ≠ b → (TJ1 a).2.1 ≠ (TJ1 b).2.1 := by decide +kernel
theorem tyJ1_ok : ∀ k, k < 0 → parseFieldDescriptor (TJ1 k).2.2.1 = some (tyJ1 k) := by decide +kernel
abbrev cJ1_charAt_3b067 : ByteArray := prog_20_method_2_code
def yJ1_charAt_3b067 : MethodName := ⟨RJ1, "charAt", "([BI)C"⟩
abbrev cJ1_canEncode_fc78d : ByteArray := prog_20_method_3_code
def yJ1_canEncode_fc78d : MethodName := ⟨RJ1, "canEncode", "(C)Z"⟩
abbrev cJ1_fillNull_b72d1 : ByteArray := prog_20_method_48_code
def yJ1_fillNull_b72d1 : MethodName := ⟨RJ1, "fillNull", "([BII)V"⟩
abbrev cJ1_inflate_0e8fd : ByteArray := prog_20_method_50_code
def yJ1_inflate_0e8fd : MethodName := ⟨RJ1, "inflate", "([BI[BII)V"⟩
def RJ2 : String := "java/lang/StringUTF16"
def TJ2 : u_T := fun k => match k with
  | _ => ("", "", "", false)
def tyJ2 : Nat → FieldType := fun k => match k with
  | _ => .int
theorem nmJ2 : ∀ a, a < 0 → ∀ b, b < 0 → a ≠ b → (TJ2 a).2.1 ≠ (TJ2 b).2.1 := by decide +kernel
theorem tyJ2_ok : ∀ k, k < 0 → parseFieldDescriptor (TJ2 k).2.2.1 = some (tyJ2 k) := by decide +kernel
abbrev cJ2_newBytesFor_77867 : ByteArray := prog_21_method_2_code
def yJ2_newBytesFor_77867 : MethodName := ⟨RJ2, "newBytesFor", "(I)[B"⟩
abbrev cJ2_newBytesLength_0f7a4 : ByteArray := prog_21_method_3_code
def yJ2_newBytesLength_0f7a4 : MethodName := ⟨RJ2, "newBytesLength", "(I)I"⟩
abbrev cJ2_putChar_b72d1 : ByteArray := prog_21_method_4_code
def yJ2_putChar_b72d1 : MethodName := ⟨RJ2, "putChar", "([BII)V"⟩
abbrev cJ2_getChar_3b067 : ByteArray := prog_21_method_5_code
def yJ2_getChar_3b067 : MethodName := ⟨RJ2, "getChar", "([BI)C"⟩
abbrev cJ2_length_9d52b : ByteArray := prog_21_method_6_code
def yJ2_length_9d52b : MethodName := ⟨RJ2, "length", "([B)I"⟩
abbrev cJ2_fillNull_b72d1 : ByteArray := prog_21_method_70_code
def yJ2_fillNull_b72d1 : MethodName := ⟨RJ2, "fillNull", "([BII)V"⟩
abbrev cJ2_putCharSB_b72d1 : ByteArray := prog_21_method_71_code
def yJ2_putCharSB_b72d1 : MethodName := ⟨RJ2, "putCharSB", "([BII)V"⟩
abbrev cJ2_getChars_46870 : ByteArray := prog_21_method_77_code
def yJ2_getChars_46870 : MethodName := ⟨RJ2, "getChars", "(III[B)I"⟩
abbrev cJ2_putCharsAt_cd4e5 : ByteArray := prog_21_method_81_code
def yJ2_putCharsAt_cd4e5 : MethodName := ⟨RJ2, "putCharsAt", "([BICCCC)I"⟩
abbrev cJ2_charAt_3b067 : ByteArray := prog_21_method_83_code
def yJ2_charAt_3b067 : MethodName := ⟨RJ2, "charAt", "([BI)C"⟩
abbrev cJ2_inflate_0e8fd : ByteArray := prog_21_method_86_code
def yJ2_inflate_0e8fd : MethodName := ⟨RJ2, "inflate", "([BI[BII)V"⟩
abbrev cJ2_getChars_ba4f3 : ByteArray := prog_21_method_89_code
def yJ2_getChars_ba4f3 : MethodName := ⟨RJ2, "getChars", "(II[B)I"⟩
abbrev cJ2_checkIndex_2214a : ByteArray := prog_21_method_91_code
def yJ2_checkIndex_2214a : MethodName := ⟨RJ2, "checkIndex", "(I[B)V"⟩
abbrev cJ2_checkBoundsBeginEnd_d044e : ByteArray := prog_21_method_93_code
def yJ2_checkBoundsBeginEnd_d044e : MethodName := ⟨RJ2, "checkBoundsBeginEnd", "(II[B)V"⟩
abbrev cJ2_checkBoundsOffCount_d044e : ByteArray := prog_21_method_94_code
def yJ2_checkBoundsOffCount_d044e : MethodName := ⟨RJ2, "checkBoundsOffCount", "(II[B)V"⟩
def RJ10 : String := "java/lang/System"
def TJ10 : u_T := fun k => match k with
  | _ => ("", "", "", false)
def tyJ10 : Nat → FieldType := fun k => match k with
  | _ => .int
theorem nmJ10 : ∀ a, a < 0 → ∀ b, b < 0 → a ≠ b → (TJ10 a).2.1 ≠ (TJ10 b).2.1 := by decide +kernel
theorem tyJ10_ok : ∀ k, k < 0 → parseFieldDescriptor (TJ10 k).2.2.1 = some (tyJ10 k) := by decide +kernel
def RJ7 : String := "java/util/Arrays"
def TJ7 : u_T := fun k => match k with
  | _ => ("", "", "", false)
def tyJ7 : Nat → FieldType := fun k => match k with
  | _ => .int
theorem nmJ7 : ∀ a, a < 0 → ∀ b, b < 0 → a ≠ b → (TJ7 a).2.1 ≠ (TJ7 b).2.1 := by decide +kernel
theorem tyJ7_ok : ∀ k, k < 0 → parseFieldDescriptor (TJ7 k).2.2.1 = some (tyJ7 k) := by decide +kernel
abbrev cJ7_rangeCheck_23922 : ByteArray := prog_23_method_30_code
def yJ7_rangeCheck_23922 : MethodName := ⟨RJ7, "rangeCheck", "(III)V"⟩
abbrev cJ7_fill_eb02e : ByteArray := prog_23_method_110_code
def yJ7_fill_eb02e : MethodName := ⟨RJ7, "fill", "([BIIB)V"⟩
abbrev cJ7_copyOf_9075b : ByteArray := prog_23_method_121_code
def yJ7_copyOf_9075b : MethodName := ⟨RJ7, "copyOf", "([BI)[B"⟩
def RJ8 : String := "jdk/internal/util/ArraysSupport"
def TJ8 : u_T := fun k => match k with
  | _ => ("", "", "", false)
def tyJ8 : Nat → FieldType := fun k => match k with
  | _ => .int
theorem nmJ8 : ∀ a, a < 0 → ∀ b, b < 0 → a ≠ b → (TJ8 a).2.1 ≠ (TJ8 b).2.1 := by decide +kernel
theorem tyJ8_ok : ∀ k, k < 0 → parseFieldDescriptor (TJ8 k).2.2.1 = some (tyJ8 k) := by decide +kernel
abbrev cJ8_newLength_cabcc : ByteArray := prog_24_method_27_code
def yJ8_newLength_cabcc : MethodName := ⟨RJ8, "newLength", "(III)I"⟩
abbrev cJ8_hugeLength_7cf53 : ByteArray := prog_24_method_28_code
def yJ8_hugeLength_7cf53 : MethodName := ⟨RJ8, "hugeLength", "(II)I"⟩
def RJ3 : String := "jdk/internal/util/Preconditions"
def TJ3 : u_T := fun k => match k with
  | _ => ("", "", "", false)
def tyJ3 : Nat → FieldType := fun k => match k with
  | _ => .int
theorem nmJ3 : ∀ a, a < 0 → ∀ b, b < 0 → a ≠ b → (TJ3 a).2.1 ≠ (TJ3 b).2.1 := by decide +kernel
theorem tyJ3_ok : ∀ k, k < 0 → parseFieldDescriptor (TJ3 k).2.2.1 = some (tyJ3 k) := by decide +kernel
abbrev cJ3_checkIndex_8e157 : ByteArray := prog_25_method_11_code
def yJ3_checkIndex_8e157 : MethodName := ⟨RJ3, "checkIndex", "(IILjava/util/function/BiFunction;)I"⟩
abbrev cJ3_checkFromToIndex_8c36e : ByteArray := prog_25_method_12_code
def yJ3_checkFromToIndex_8c36e : MethodName := ⟨RJ3, "checkFromToIndex", "(IIILjava/util/function/BiFunction;)I"⟩
abbrev cJ3_checkFromIndexSize_8c36e : ByteArray := prog_25_method_13_code
def yJ3_checkFromIndexSize_8c36e : MethodName := ⟨RJ3, "checkFromIndexSize", "(IIILjava/util/function/BiFunction;)I"⟩
def RL : String := "HeirRollLaw"
abbrev cL_low : ByteArray := method_2_code
def yL_low : MethodName := ⟨RL, "low", "(II)I"⟩
abbrev cL_cell : ByteArray := method_3_code
def yL_cell : MethodName := ⟨RL, "cell", "([II)I"⟩
abbrev cL_at : ByteArray := method_4_code
def yL_at : MethodName := ⟨RL, "at", "(Ljava/lang/StringBuilder;I)I"⟩
abbrev cL_four : ByteArray := method_5_code
def yL_four : MethodName := ⟨RL, "four", "(Ljava/lang/StringBuilder;I)I"⟩
abbrev cL_tell : ByteArray := method_6_code
def yL_tell : MethodName := ⟨RL, "tell", "(LHeirRoll;Ljava/lang/StringBuilder;)I"⟩
abbrev cL_born : ByteArray := method_7_code
def yL_born : MethodName := ⟨RL, "born", "(Ljava/lang/StringBuilder;IZII)Ljava/lang/StringBuilder;"⟩
abbrev cL_text : ByteArray := method_8_code
def yL_text : MethodName := ⟨RL, "text", "(Ljava/lang/StringBuilder;Ljava/lang/String;III)Ljava/lang/StringBuilder;"⟩
abbrev cL_law : ByteArray := code
def yL_law : MethodName := ⟨RL, "law", "([I)Z"⟩
end
section
theorem dJ0_length_8abf5_0 : decode cJ0_length_8abf5 0 = .ok (.aload_n 0, 1) := by decide +kernel
theorem dJ0_length_8abf5_1 : decode cJ0_length_8abf5 1 = .ok (.getfield 9, 3) := by decide +kernel
theorem dJ0_length_8abf5_4 : decode cJ0_length_8abf5 4 = .ok (.arraylength, 1) := by decide +kernel
theorem dJ0_length_8abf5_5 : decode cJ0_length_8abf5 5 = .ok (.aload_n 0, 1) := by decide +kernel
theorem dJ0_length_8abf5_6 : decode cJ0_length_8abf5 6 = .ok (.invokevirtual 335, 3) := by decide +kernel
theorem dJ0_length_8abf5_9 : decode cJ0_length_8abf5 9 = .ok (.ishr, 1) := by decide +kernel
theorem dJ0_length_8abf5_10 : decode cJ0_length_8abf5 10 = .ok (.ireturn, 1) := by decide +kernel
theorem dJ0_charAt_5068e_0 : decode cJ0_charAt_5068e 0 = .ok (.aload_n 0, 1) := by decide +kernel
theorem dJ0_charAt_5068e_1 : decode cJ0_charAt_5068e 1 = .ok (.invokevirtual 492, 3) := by decide +kernel
theorem dJ0_charAt_5068e_4 : decode cJ0_charAt_5068e 4 = .ok (.ifCond .eq 12, 3) := by decide +kernel
theorem dJ0_charAt_5068e_7 : decode cJ0_charAt_5068e 7 = .ok (.aload_n 0, 1) := by decide +kernel
theorem dJ0_charAt_5068e_8 : decode cJ0_charAt_5068e 8 = .ok (.getfield 9, 3) := by decide +kernel
theorem dJ0_charAt_5068e_11 : decode cJ0_charAt_5068e 11 = .ok (.iload_n 1, 1) := by decide +kernel
theorem dJ0_charAt_5068e_12 : decode cJ0_charAt_5068e 12 = .ok (.invokestatic 495, 3) := by decide +kernel
theorem dJ0_charAt_5068e_15 : decode cJ0_charAt_5068e 15 = .ok (.ireturn, 1) := by decide +kernel
theorem dJ0_charAt_5068e_16 : decode cJ0_charAt_5068e 16 = .ok (.aload_n 0, 1) := by decide +kernel
theorem dJ0_charAt_5068e_17 : decode cJ0_charAt_5068e 17 = .ok (.getfield 9, 3) := by decide +kernel
theorem dJ0_charAt_5068e_20 : decode cJ0_charAt_5068e 20 = .ok (.iload_n 1, 1) := by decide +kernel
theorem dJ0_charAt_5068e_21 : decode cJ0_charAt_5068e 21 = .ok (.invokestatic 498, 3) := by decide +kernel
theorem dJ0_charAt_5068e_24 : decode cJ0_charAt_5068e 24 = .ok (.ireturn, 1) := by decide +kernel
theorem dJ0_getBytes_840e7_0 : decode cJ0_getBytes_840e7 0 = .ok (.aload_n 0, 1) := by decide +kernel
theorem dJ0_getBytes_840e7_1 : decode cJ0_getBytes_840e7 1 = .ok (.invokevirtual 335, 3) := by decide +kernel
theorem dJ0_getBytes_840e7_4 : decode cJ0_getBytes_840e7 4 = .ok (.iload_n 3, 1) := by decide +kernel
theorem dJ0_getBytes_840e7_5 : decode cJ0_getBytes_840e7 5 = .ok (.if_icmp .ne 23, 3) := by decide +kernel
theorem dJ0_getBytes_840e7_8 : decode cJ0_getBytes_840e7 8 = .ok (.aload_n 0, 1) := by decide +kernel
theorem dJ0_getBytes_840e7_9 : decode cJ0_getBytes_840e7 9 = .ok (.getfield 9, 3) := by decide +kernel
theorem dJ0_getBytes_840e7_12 : decode cJ0_getBytes_840e7 12 = .ok (.iconst 0, 1) := by decide +kernel
theorem dJ0_getBytes_840e7_13 : decode cJ0_getBytes_840e7 13 = .ok (.aload_n 1, 1) := by decide +kernel
theorem dJ0_getBytes_840e7_14 : decode cJ0_getBytes_840e7 14 = .ok (.iload_n 2, 1) := by decide +kernel
theorem dJ0_getBytes_840e7_15 : decode cJ0_getBytes_840e7 15 = .ok (.iload_n 3, 1) := by decide +kernel
theorem dJ0_getBytes_840e7_16 : decode cJ0_getBytes_840e7 16 = .ok (.ishl, 1) := by decide +kernel
theorem dJ0_getBytes_840e7_17 : decode cJ0_getBytes_840e7 17 = .ok (.aload_n 0, 1) := by decide +kernel
theorem dJ0_getBytes_840e7_18 : decode cJ0_getBytes_840e7 18 = .ok (.getfield 9, 3) := by decide +kernel
theorem dJ0_getBytes_840e7_21 : decode cJ0_getBytes_840e7 21 = .ok (.arraylength, 1) := by decide +kernel
theorem dJ0_getBytes_840e7_22 : decode cJ0_getBytes_840e7 22 = .ok (.invokestatic 212, 3) := by decide +kernel
theorem dJ0_getBytes_840e7_25 : decode cJ0_getBytes_840e7 25 = .ok (.goto 18, 3) := by decide +kernel
theorem dJ0_getBytes_840e7_28 : decode cJ0_getBytes_840e7 28 = .ok (.aload_n 0, 1) := by decide +kernel
theorem dJ0_getBytes_840e7_29 : decode cJ0_getBytes_840e7 29 = .ok (.getfield 9, 3) := by decide +kernel
theorem dJ0_getBytes_840e7_32 : decode cJ0_getBytes_840e7 32 = .ok (.iconst 0, 1) := by decide +kernel
theorem dJ0_getBytes_840e7_33 : decode cJ0_getBytes_840e7 33 = .ok (.aload_n 1, 1) := by decide +kernel
theorem dJ0_getBytes_840e7_34 : decode cJ0_getBytes_840e7 34 = .ok (.iload_n 2, 1) := by decide +kernel
theorem dJ0_getBytes_840e7_35 : decode cJ0_getBytes_840e7 35 = .ok (.aload_n 0, 1) := by decide +kernel
theorem dJ0_getBytes_840e7_36 : decode cJ0_getBytes_840e7 36 = .ok (.getfield 9, 3) := by decide +kernel
theorem dJ0_getBytes_840e7_39 : decode cJ0_getBytes_840e7 39 = .ok (.arraylength, 1) := by decide +kernel
theorem dJ0_getBytes_840e7_40 : decode cJ0_getBytes_840e7 40 = .ok (.invokestatic 106, 3) := by decide +kernel
theorem dJ0_getBytes_840e7_43 : decode cJ0_getBytes_840e7 43 = .ok (.return_, 1) := by decide +kernel
theorem dJ0_coder_7d493_0 : decode cJ0_coder_7d493 0 = .ok (.getstatic 38, 3) := by decide +kernel
theorem dJ0_coder_7d493_3 : decode cJ0_coder_7d493 3 = .ok (.ifCond .eq 10, 3) := by decide +kernel
theorem dJ0_coder_7d493_6 : decode cJ0_coder_7d493 6 = .ok (.aload_n 0, 1) := by decide +kernel
theorem dJ0_coder_7d493_7 : decode cJ0_coder_7d493 7 = .ok (.getfield 15, 3) := by decide +kernel
theorem dJ0_coder_7d493_10 : decode cJ0_coder_7d493 10 = .ok (.goto 4, 3) := by decide +kernel
theorem dJ0_coder_7d493_13 : decode cJ0_coder_7d493 13 = .ok (.iconst 1, 1) := by decide +kernel
theorem dJ0_coder_7d493_14 : decode cJ0_coder_7d493 14 = .ok (.ireturn, 1) := by decide +kernel
theorem dJ0_isLatin1_aae02_0 : decode cJ0_isLatin1_aae02 0 = .ok (.getstatic 38, 3) := by decide +kernel
theorem dJ0_isLatin1_aae02_3 : decode cJ0_isLatin1_aae02 3 = .ok (.ifCond .eq 14, 3) := by decide +kernel
theorem dJ0_isLatin1_aae02_6 : decode cJ0_isLatin1_aae02 6 = .ok (.aload_n 0, 1) := by decide +kernel
theorem dJ0_isLatin1_aae02_7 : decode cJ0_isLatin1_aae02 7 = .ok (.getfield 15, 3) := by decide +kernel
theorem dJ0_isLatin1_aae02_10 : decode cJ0_isLatin1_aae02 10 = .ok (.ifCond .ne 7, 3) := by decide +kernel
theorem dJ0_isLatin1_aae02_13 : decode cJ0_isLatin1_aae02 13 = .ok (.iconst 1, 1) := by decide +kernel
theorem dJ0_isLatin1_aae02_14 : decode cJ0_isLatin1_aae02 14 = .ok (.goto 4, 3) := by decide +kernel
theorem dJ0_isLatin1_aae02_17 : decode cJ0_isLatin1_aae02 17 = .ok (.iconst 0, 1) := by decide +kernel
theorem dJ0_isLatin1_aae02_18 : decode cJ0_isLatin1_aae02 18 = .ok (.ireturn, 1) := by decide +kernel
theorem dJ0_checkIndex_df160_0 : decode cJ0_checkIndex_df160 0 = .ok (.iload_n 0, 1) := by decide +kernel
theorem dJ0_checkIndex_df160_1 : decode cJ0_checkIndex_df160 1 = .ok (.iload_n 1, 1) := by decide +kernel
theorem dJ0_checkIndex_df160_2 : decode cJ0_checkIndex_df160 2 = .ok (.getstatic 1053, 3) := by decide +kernel
theorem dJ0_checkIndex_df160_5 : decode cJ0_checkIndex_df160 5 = .ok (.invokestatic 1059, 3) := by decide +kernel
theorem dJ0_checkIndex_df160_8 : decode cJ0_checkIndex_df160 8 = .ok (.pop, 1) := by decide +kernel
theorem dJ0_checkIndex_df160_9 : decode cJ0_checkIndex_df160 9 = .ok (.return_, 1) := by decide +kernel
theorem dJ0_checkBoundsOffCount_cabcc_0 : decode cJ0_checkBoundsOffCount_cabcc 0 = .ok (.iload_n 0, 1) := by decide +kernel
theorem dJ0_checkBoundsOffCount_cabcc_1 : decode cJ0_checkBoundsOffCount_cabcc 1 = .ok (.iload_n 1, 1) := by decide +kernel
theorem dJ0_checkBoundsOffCount_cabcc_2 : decode cJ0_checkBoundsOffCount_cabcc 2 = .ok (.iload_n 2, 1) := by decide +kernel
theorem dJ0_checkBoundsOffCount_cabcc_3 : decode cJ0_checkBoundsOffCount_cabcc 3 = .ok (.getstatic 1053, 3) := by decide +kernel
theorem dJ0_checkBoundsOffCount_cabcc_6 : decode cJ0_checkBoundsOffCount_cabcc 6 = .ok (.invokestatic 1065, 3) := by decide +kernel
theorem dJ0_checkBoundsOffCount_cabcc_9 : decode cJ0_checkBoundsOffCount_cabcc 9 = .ok (.ireturn, 1) := by decide +kernel
theorem dJ0_checkBoundsBeginEnd_23922_0 : decode cJ0_checkBoundsBeginEnd_23922 0 = .ok (.iload_n 0, 1) := by decide +kernel
theorem dJ0_checkBoundsBeginEnd_23922_1 : decode cJ0_checkBoundsBeginEnd_23922 1 = .ok (.iload_n 1, 1) := by decide +kernel
theorem dJ0_checkBoundsBeginEnd_23922_2 : decode cJ0_checkBoundsBeginEnd_23922 2 = .ok (.iload_n 2, 1) := by decide +kernel
theorem dJ0_checkBoundsBeginEnd_23922_3 : decode cJ0_checkBoundsBeginEnd_23922 3 = .ok (.getstatic 1053, 3) := by decide +kernel
theorem dJ0_checkBoundsBeginEnd_23922_6 : decode cJ0_checkBoundsBeginEnd_23922 6 = .ok (.invokestatic 1062, 3) := by decide +kernel
theorem dJ0_checkBoundsBeginEnd_23922_9 : decode cJ0_checkBoundsBeginEnd_23922 9 = .ok (.pop, 1) := by decide +kernel
theorem dJ0_checkBoundsBeginEnd_23922_10 : decode cJ0_checkBoundsBeginEnd_23922 10 = .ok (.return_, 1) := by decide +kernel
theorem dJ1_charAt_3b067_0 : decode cJ1_charAt_3b067 0 = .ok (.iload_n 1, 1) := by decide +kernel
theorem dJ1_charAt_3b067_1 : decode cJ1_charAt_3b067 1 = .ok (.aload_n 0, 1) := by decide +kernel
theorem dJ1_charAt_3b067_2 : decode cJ1_charAt_3b067 2 = .ok (.arraylength, 1) := by decide +kernel
theorem dJ1_charAt_3b067_3 : decode cJ1_charAt_3b067 3 = .ok (.invokestatic 9, 3) := by decide +kernel
theorem dJ1_charAt_3b067_6 : decode cJ1_charAt_3b067 6 = .ok (.aload_n 0, 1) := by decide +kernel
theorem dJ1_charAt_3b067_7 : decode cJ1_charAt_3b067 7 = .ok (.iload_n 1, 1) := by decide +kernel
theorem dJ1_charAt_3b067_8 : decode cJ1_charAt_3b067 8 = .ok (.baload, 1) := by decide +kernel
theorem dJ1_charAt_3b067_9 : decode cJ1_charAt_3b067 9 = .ok (.sipush 255, 3) := by decide +kernel
theorem dJ1_charAt_3b067_12 : decode cJ1_charAt_3b067 12 = .ok (.iand, 1) := by decide +kernel
theorem dJ1_charAt_3b067_13 : decode cJ1_charAt_3b067 13 = .ok (.i2c, 1) := by decide +kernel
theorem dJ1_charAt_3b067_14 : decode cJ1_charAt_3b067 14 = .ok (.ireturn, 1) := by decide +kernel
theorem dJ1_canEncode_fc78d_0 : decode cJ1_canEncode_fc78d 0 = .ok (.iload_n 0, 1) := by decide +kernel
theorem dJ1_canEncode_fc78d_1 : decode cJ1_canEncode_fc78d 1 = .ok (.sipush 255, 3) := by decide +kernel
theorem dJ1_canEncode_fc78d_4 : decode cJ1_canEncode_fc78d 4 = .ok (.if_icmp .gt 7, 3) := by decide +kernel
theorem dJ1_canEncode_fc78d_7 : decode cJ1_canEncode_fc78d 7 = .ok (.iconst 1, 1) := by decide +kernel
theorem dJ1_canEncode_fc78d_8 : decode cJ1_canEncode_fc78d 8 = .ok (.goto 4, 3) := by decide +kernel
theorem dJ1_canEncode_fc78d_11 : decode cJ1_canEncode_fc78d 11 = .ok (.iconst 0, 1) := by decide +kernel
theorem dJ1_canEncode_fc78d_12 : decode cJ1_canEncode_fc78d 12 = .ok (.ireturn, 1) := by decide +kernel
theorem dJ1_fillNull_b72d1_0 : decode cJ1_fillNull_b72d1 0 = .ok (.aload_n 0, 1) := by decide +kernel
theorem dJ1_fillNull_b72d1_1 : decode cJ1_fillNull_b72d1 1 = .ok (.iload_n 1, 1) := by decide +kernel
theorem dJ1_fillNull_b72d1_2 : decode cJ1_fillNull_b72d1 2 = .ok (.iload_n 2, 1) := by decide +kernel
theorem dJ1_fillNull_b72d1_3 : decode cJ1_fillNull_b72d1 3 = .ok (.iconst 0, 1) := by decide +kernel
theorem dJ1_fillNull_b72d1_4 : decode cJ1_fillNull_b72d1 4 = .ok (.invokestatic 236, 3) := by decide +kernel
theorem dJ1_fillNull_b72d1_7 : decode cJ1_fillNull_b72d1 7 = .ok (.return_, 1) := by decide +kernel
theorem dJ1_inflate_0e8fd_0 : decode cJ1_inflate_0e8fd 0 = .ok (.aload_n 0, 1) := by decide +kernel
theorem dJ1_inflate_0e8fd_1 : decode cJ1_inflate_0e8fd 1 = .ok (.iload_n 1, 1) := by decide +kernel
theorem dJ1_inflate_0e8fd_2 : decode cJ1_inflate_0e8fd 2 = .ok (.aload_n 2, 1) := by decide +kernel
theorem dJ1_inflate_0e8fd_3 : decode cJ1_inflate_0e8fd 3 = .ok (.iload_n 3, 1) := by decide +kernel
theorem dJ1_inflate_0e8fd_4 : decode cJ1_inflate_0e8fd 4 = .ok (.iload 4, 2) := by decide +kernel
theorem dJ1_inflate_0e8fd_6 : decode cJ1_inflate_0e8fd 6 = .ok (.invokestatic 240, 3) := by decide +kernel
theorem dJ1_inflate_0e8fd_9 : decode cJ1_inflate_0e8fd 9 = .ok (.return_, 1) := by decide +kernel
theorem dJ2_newBytesFor_77867_0 : decode cJ2_newBytesFor_77867 0 = .ok (.iload_n 0, 1) := by decide +kernel
theorem dJ2_newBytesFor_77867_1 : decode cJ2_newBytesFor_77867 1 = .ok (.invokestatic 11, 3) := by decide +kernel
theorem dJ2_newBytesFor_77867_4 : decode cJ2_newBytesFor_77867 4 = .ok (.newarray .byte, 2) := by decide +kernel
theorem dJ2_newBytesFor_77867_6 : decode cJ2_newBytesFor_77867 6 = .ok (.areturn, 1) := by decide +kernel
theorem dJ2_newBytesLength_0f7a4_0 : decode cJ2_newBytesLength_0f7a4 0 = .ok (.iload_n 0, 1) := by decide +kernel
theorem dJ2_newBytesLength_0f7a4_1 : decode cJ2_newBytesLength_0f7a4 1 = .ok (.ifCond .ge 11, 3) := by decide +kernel
theorem dJ2_newBytesLength_0f7a4_4 : decode cJ2_newBytesLength_0f7a4 4 = .ok (.new 17, 3) := by decide +kernel
theorem dJ2_newBytesLength_0f7a4_7 : decode cJ2_newBytesLength_0f7a4 7 = .ok (.dup, 1) := by decide +kernel
theorem dJ2_newBytesLength_0f7a4_8 : decode cJ2_newBytesLength_0f7a4 8 = .ok (.invokespecial 19, 3) := by decide +kernel
theorem dJ2_newBytesLength_0f7a4_11 : decode cJ2_newBytesLength_0f7a4 11 = .ok (.athrow, 1) := by decide +kernel
theorem dJ2_newBytesLength_0f7a4_12 : decode cJ2_newBytesLength_0f7a4 12 = .ok (.iload_n 0, 1) := by decide +kernel
theorem dJ2_newBytesLength_0f7a4_13 : decode cJ2_newBytesLength_0f7a4 13 = .ok (.ldc 20, 2) := by decide +kernel
theorem dJ2_newBytesLength_0f7a4_15 : decode cJ2_newBytesLength_0f7a4 15 = .ok (.if_icmp .lt 40, 3) := by decide +kernel
theorem dJ2_newBytesLength_0f7a4_18 : decode cJ2_newBytesLength_0f7a4 18 = .ok (.new 21, 3) := by decide +kernel
theorem dJ2_newBytesLength_0f7a4_21 : decode cJ2_newBytesLength_0f7a4 21 = .ok (.dup, 1) := by decide +kernel
theorem dJ2_newBytesLength_0f7a4_22 : decode cJ2_newBytesLength_0f7a4 22 = .ok (.new 23, 3) := by decide +kernel
theorem dJ2_newBytesLength_0f7a4_25 : decode cJ2_newBytesLength_0f7a4 25 = .ok (.dup, 1) := by decide +kernel
theorem dJ2_newBytesLength_0f7a4_26 : decode cJ2_newBytesLength_0f7a4 26 = .ok (.invokespecial 25, 3) := by decide +kernel
theorem dJ2_newBytesLength_0f7a4_29 : decode cJ2_newBytesLength_0f7a4 29 = .ok (.ldc 26, 2) := by decide +kernel
theorem dJ2_newBytesLength_0f7a4_31 : decode cJ2_newBytesLength_0f7a4 31 = .ok (.invokevirtual 28, 3) := by decide +kernel
theorem dJ2_newBytesLength_0f7a4_34 : decode cJ2_newBytesLength_0f7a4 34 = .ok (.iload_n 0, 1) := by decide +kernel
theorem dJ2_newBytesLength_0f7a4_35 : decode cJ2_newBytesLength_0f7a4 35 = .ok (.invokevirtual 32, 3) := by decide +kernel
theorem dJ2_newBytesLength_0f7a4_38 : decode cJ2_newBytesLength_0f7a4 38 = .ok (.ldc 35, 2) := by decide +kernel
theorem dJ2_newBytesLength_0f7a4_40 : decode cJ2_newBytesLength_0f7a4 40 = .ok (.invokevirtual 28, 3) := by decide +kernel
theorem dJ2_newBytesLength_0f7a4_43 : decode cJ2_newBytesLength_0f7a4 43 = .ok (.ldc 20, 2) := by decide +kernel
theorem dJ2_newBytesLength_0f7a4_45 : decode cJ2_newBytesLength_0f7a4 45 = .ok (.invokevirtual 32, 3) := by decide +kernel
theorem dJ2_newBytesLength_0f7a4_48 : decode cJ2_newBytesLength_0f7a4 48 = .ok (.invokevirtual 37, 3) := by decide +kernel
theorem dJ2_newBytesLength_0f7a4_51 : decode cJ2_newBytesLength_0f7a4 51 = .ok (.invokespecial 41, 3) := by decide +kernel
theorem dJ2_newBytesLength_0f7a4_54 : decode cJ2_newBytesLength_0f7a4 54 = .ok (.athrow, 1) := by decide +kernel
theorem dJ2_newBytesLength_0f7a4_55 : decode cJ2_newBytesLength_0f7a4 55 = .ok (.iload_n 0, 1) := by decide +kernel
theorem dJ2_newBytesLength_0f7a4_56 : decode cJ2_newBytesLength_0f7a4 56 = .ok (.iconst 1, 1) := by decide +kernel
theorem dJ2_newBytesLength_0f7a4_57 : decode cJ2_newBytesLength_0f7a4 57 = .ok (.ishl, 1) := by decide +kernel
theorem dJ2_newBytesLength_0f7a4_58 : decode cJ2_newBytesLength_0f7a4 58 = .ok (.ireturn, 1) := by decide +kernel
theorem dJ2_putChar_b72d1_0 : decode cJ2_putChar_b72d1 0 = .ok (.getstatic 44, 3) := by decide +kernel
theorem dJ2_putChar_b72d1_3 : decode cJ2_putChar_b72d1 3 = .ok (.ifCond .ne 25, 3) := by decide +kernel
theorem dJ2_putChar_b72d1_6 : decode cJ2_putChar_b72d1 6 = .ok (.iload_n 1, 1) := by decide +kernel
theorem dJ2_putChar_b72d1_7 : decode cJ2_putChar_b72d1 7 = .ok (.ifCond .lt 11, 3) := by decide +kernel
theorem dJ2_putChar_b72d1_10 : decode cJ2_putChar_b72d1 10 = .ok (.iload_n 1, 1) := by decide +kernel
theorem dJ2_putChar_b72d1_11 : decode cJ2_putChar_b72d1 11 = .ok (.aload_n 0, 1) := by decide +kernel
theorem dJ2_putChar_b72d1_12 : decode cJ2_putChar_b72d1 12 = .ok (.invokestatic 48, 3) := by decide +kernel
theorem dJ2_putChar_b72d1_15 : decode cJ2_putChar_b72d1 15 = .ok (.if_icmp .lt 13, 3) := by decide +kernel
theorem dJ2_putChar_b72d1_18 : decode cJ2_putChar_b72d1 18 = .ok (.new 52, 3) := by decide +kernel
theorem dJ2_putChar_b72d1_21 : decode cJ2_putChar_b72d1 21 = .ok (.dup, 1) := by decide +kernel
theorem dJ2_putChar_b72d1_22 : decode cJ2_putChar_b72d1 22 = .ok (.ldc 54, 2) := by decide +kernel
theorem dJ2_putChar_b72d1_24 : decode cJ2_putChar_b72d1 24 = .ok (.invokespecial 56, 3) := by decide +kernel
theorem dJ2_putChar_b72d1_27 : decode cJ2_putChar_b72d1 27 = .ok (.athrow, 1) := by decide +kernel
theorem dJ2_putChar_b72d1_28 : decode cJ2_putChar_b72d1 28 = .ok (.iload_n 1, 1) := by decide +kernel
theorem dJ2_putChar_b72d1_29 : decode cJ2_putChar_b72d1 29 = .ok (.iconst 1, 1) := by decide +kernel
theorem dJ2_putChar_b72d1_30 : decode cJ2_putChar_b72d1 30 = .ok (.ishl, 1) := by decide +kernel
theorem dJ2_putChar_b72d1_31 : decode cJ2_putChar_b72d1 31 = .ok (.istore_n 1, 1) := by decide +kernel
theorem dJ2_putChar_b72d1_32 : decode cJ2_putChar_b72d1 32 = .ok (.aload_n 0, 1) := by decide +kernel
theorem dJ2_putChar_b72d1_33 : decode cJ2_putChar_b72d1 33 = .ok (.iload_n 1, 1) := by decide +kernel
theorem dJ2_putChar_b72d1_34 : decode cJ2_putChar_b72d1 34 = .ok (.iinc 1 1, 3) := by decide +kernel
theorem dJ2_putChar_b72d1_37 : decode cJ2_putChar_b72d1 37 = .ok (.iload_n 2, 1) := by decide +kernel
theorem dJ2_putChar_b72d1_38 : decode cJ2_putChar_b72d1 38 = .ok (.getstatic 59, 3) := by decide +kernel
theorem dJ2_putChar_b72d1_41 : decode cJ2_putChar_b72d1 41 = .ok (.ishr, 1) := by decide +kernel
theorem dJ2_putChar_b72d1_42 : decode cJ2_putChar_b72d1 42 = .ok (.i2b, 1) := by decide +kernel
theorem dJ2_putChar_b72d1_43 : decode cJ2_putChar_b72d1 43 = .ok (.bastore, 1) := by decide +kernel
theorem dJ2_putChar_b72d1_44 : decode cJ2_putChar_b72d1 44 = .ok (.aload_n 0, 1) := by decide +kernel
theorem dJ2_putChar_b72d1_45 : decode cJ2_putChar_b72d1 45 = .ok (.iload_n 1, 1) := by decide +kernel
theorem dJ2_putChar_b72d1_46 : decode cJ2_putChar_b72d1 46 = .ok (.iload_n 2, 1) := by decide +kernel
theorem dJ2_putChar_b72d1_47 : decode cJ2_putChar_b72d1 47 = .ok (.getstatic 63, 3) := by decide +kernel
theorem dJ2_putChar_b72d1_50 : decode cJ2_putChar_b72d1 50 = .ok (.ishr, 1) := by decide +kernel
theorem dJ2_putChar_b72d1_51 : decode cJ2_putChar_b72d1 51 = .ok (.i2b, 1) := by decide +kernel
theorem dJ2_putChar_b72d1_52 : decode cJ2_putChar_b72d1 52 = .ok (.bastore, 1) := by decide +kernel
theorem dJ2_putChar_b72d1_53 : decode cJ2_putChar_b72d1 53 = .ok (.return_, 1) := by decide +kernel
theorem dJ2_getChar_3b067_0 : decode cJ2_getChar_3b067 0 = .ok (.getstatic 44, 3) := by decide +kernel
theorem dJ2_getChar_3b067_3 : decode cJ2_getChar_3b067 3 = .ok (.ifCond .ne 25, 3) := by decide +kernel
theorem dJ2_getChar_3b067_6 : decode cJ2_getChar_3b067 6 = .ok (.iload_n 1, 1) := by decide +kernel
theorem dJ2_getChar_3b067_7 : decode cJ2_getChar_3b067 7 = .ok (.ifCond .lt 11, 3) := by decide +kernel
theorem dJ2_getChar_3b067_10 : decode cJ2_getChar_3b067 10 = .ok (.iload_n 1, 1) := by decide +kernel
theorem dJ2_getChar_3b067_11 : decode cJ2_getChar_3b067 11 = .ok (.aload_n 0, 1) := by decide +kernel
theorem dJ2_getChar_3b067_12 : decode cJ2_getChar_3b067 12 = .ok (.invokestatic 48, 3) := by decide +kernel
theorem dJ2_getChar_3b067_15 : decode cJ2_getChar_3b067 15 = .ok (.if_icmp .lt 13, 3) := by decide +kernel
theorem dJ2_getChar_3b067_18 : decode cJ2_getChar_3b067 18 = .ok (.new 52, 3) := by decide +kernel
theorem dJ2_getChar_3b067_21 : decode cJ2_getChar_3b067 21 = .ok (.dup, 1) := by decide +kernel
theorem dJ2_getChar_3b067_22 : decode cJ2_getChar_3b067 22 = .ok (.ldc 54, 2) := by decide +kernel
theorem dJ2_getChar_3b067_24 : decode cJ2_getChar_3b067 24 = .ok (.invokespecial 56, 3) := by decide +kernel
theorem dJ2_getChar_3b067_27 : decode cJ2_getChar_3b067 27 = .ok (.athrow, 1) := by decide +kernel
theorem dJ2_getChar_3b067_28 : decode cJ2_getChar_3b067 28 = .ok (.iload_n 1, 1) := by decide +kernel
theorem dJ2_getChar_3b067_29 : decode cJ2_getChar_3b067 29 = .ok (.iconst 1, 1) := by decide +kernel
theorem dJ2_getChar_3b067_30 : decode cJ2_getChar_3b067 30 = .ok (.ishl, 1) := by decide +kernel
theorem dJ2_getChar_3b067_31 : decode cJ2_getChar_3b067 31 = .ok (.istore_n 1, 1) := by decide +kernel
theorem dJ2_getChar_3b067_32 : decode cJ2_getChar_3b067 32 = .ok (.aload_n 0, 1) := by decide +kernel
theorem dJ2_getChar_3b067_33 : decode cJ2_getChar_3b067 33 = .ok (.iload_n 1, 1) := by decide +kernel
theorem dJ2_getChar_3b067_34 : decode cJ2_getChar_3b067 34 = .ok (.iinc 1 1, 3) := by decide +kernel
theorem dJ2_getChar_3b067_37 : decode cJ2_getChar_3b067 37 = .ok (.baload, 1) := by decide +kernel
theorem dJ2_getChar_3b067_38 : decode cJ2_getChar_3b067 38 = .ok (.sipush 255, 3) := by decide +kernel
theorem dJ2_getChar_3b067_41 : decode cJ2_getChar_3b067 41 = .ok (.iand, 1) := by decide +kernel
theorem dJ2_getChar_3b067_42 : decode cJ2_getChar_3b067 42 = .ok (.getstatic 59, 3) := by decide +kernel
theorem dJ2_getChar_3b067_45 : decode cJ2_getChar_3b067 45 = .ok (.ishl, 1) := by decide +kernel
theorem dJ2_getChar_3b067_46 : decode cJ2_getChar_3b067 46 = .ok (.aload_n 0, 1) := by decide +kernel
theorem dJ2_getChar_3b067_47 : decode cJ2_getChar_3b067 47 = .ok (.iload_n 1, 1) := by decide +kernel
theorem dJ2_getChar_3b067_48 : decode cJ2_getChar_3b067 48 = .ok (.baload, 1) := by decide +kernel
theorem dJ2_getChar_3b067_49 : decode cJ2_getChar_3b067 49 = .ok (.sipush 255, 3) := by decide +kernel
theorem dJ2_getChar_3b067_52 : decode cJ2_getChar_3b067 52 = .ok (.iand, 1) := by decide +kernel
theorem dJ2_getChar_3b067_53 : decode cJ2_getChar_3b067 53 = .ok (.getstatic 63, 3) := by decide +kernel
theorem dJ2_getChar_3b067_56 : decode cJ2_getChar_3b067 56 = .ok (.ishl, 1) := by decide +kernel
theorem dJ2_getChar_3b067_57 : decode cJ2_getChar_3b067 57 = .ok (.ior, 1) := by decide +kernel
theorem dJ2_getChar_3b067_58 : decode cJ2_getChar_3b067 58 = .ok (.i2c, 1) := by decide +kernel
theorem dJ2_getChar_3b067_59 : decode cJ2_getChar_3b067 59 = .ok (.ireturn, 1) := by decide +kernel
theorem dJ2_length_9d52b_0 : decode cJ2_length_9d52b 0 = .ok (.aload_n 0, 1) := by decide +kernel
theorem dJ2_length_9d52b_1 : decode cJ2_length_9d52b 1 = .ok (.arraylength, 1) := by decide +kernel
theorem dJ2_length_9d52b_2 : decode cJ2_length_9d52b 2 = .ok (.iconst 1, 1) := by decide +kernel
theorem dJ2_length_9d52b_3 : decode cJ2_length_9d52b 3 = .ok (.ishr, 1) := by decide +kernel
theorem dJ2_length_9d52b_4 : decode cJ2_length_9d52b 4 = .ok (.ireturn, 1) := by decide +kernel
theorem dJ2_fillNull_b72d1_0 : decode cJ2_fillNull_b72d1 0 = .ok (.aload_n 0, 1) := by decide +kernel
theorem dJ2_fillNull_b72d1_1 : decode cJ2_fillNull_b72d1 1 = .ok (.iload_n 1, 1) := by decide +kernel
theorem dJ2_fillNull_b72d1_2 : decode cJ2_fillNull_b72d1 2 = .ok (.iconst 1, 1) := by decide +kernel
theorem dJ2_fillNull_b72d1_3 : decode cJ2_fillNull_b72d1 3 = .ok (.ishl, 1) := by decide +kernel
theorem dJ2_fillNull_b72d1_4 : decode cJ2_fillNull_b72d1 4 = .ok (.iload_n 2, 1) := by decide +kernel
theorem dJ2_fillNull_b72d1_5 : decode cJ2_fillNull_b72d1 5 = .ok (.iconst 1, 1) := by decide +kernel
theorem dJ2_fillNull_b72d1_6 : decode cJ2_fillNull_b72d1 6 = .ok (.ishl, 1) := by decide +kernel
theorem dJ2_fillNull_b72d1_7 : decode cJ2_fillNull_b72d1 7 = .ok (.iconst 0, 1) := by decide +kernel
theorem dJ2_fillNull_b72d1_8 : decode cJ2_fillNull_b72d1 8 = .ok (.invokestatic 380, 3) := by decide +kernel
theorem dJ2_fillNull_b72d1_11 : decode cJ2_fillNull_b72d1 11 = .ok (.return_, 1) := by decide +kernel
theorem dJ2_putCharSB_b72d1_0 : decode cJ2_putCharSB_b72d1 0 = .ok (.iload_n 1, 1) := by decide +kernel
theorem dJ2_putCharSB_b72d1_1 : decode cJ2_putCharSB_b72d1 1 = .ok (.aload_n 0, 1) := by decide +kernel
theorem dJ2_putCharSB_b72d1_2 : decode cJ2_putCharSB_b72d1 2 = .ok (.invokestatic 67, 3) := by decide +kernel
theorem dJ2_putCharSB_b72d1_5 : decode cJ2_putCharSB_b72d1 5 = .ok (.aload_n 0, 1) := by decide +kernel
theorem dJ2_putCharSB_b72d1_6 : decode cJ2_putCharSB_b72d1 6 = .ok (.iload_n 1, 1) := by decide +kernel
theorem dJ2_putCharSB_b72d1_7 : decode cJ2_putCharSB_b72d1 7 = .ok (.iload_n 2, 1) := by decide +kernel
theorem dJ2_putCharSB_b72d1_8 : decode cJ2_putCharSB_b72d1 8 = .ok (.invokestatic 111, 3) := by decide +kernel
theorem dJ2_putCharSB_b72d1_11 : decode cJ2_putCharSB_b72d1 11 = .ok (.return_, 1) := by decide +kernel
theorem dJ2_getChars_46870_0 : decode cJ2_getChars_46870 0 = .ok (.iload_n 1, 1) := by decide +kernel
theorem dJ2_getChars_46870_1 : decode cJ2_getChars_46870 1 = .ok (.iload_n 2, 1) := by decide +kernel
theorem dJ2_getChars_46870_2 : decode cJ2_getChars_46870 2 = .ok (.aload_n 3, 1) := by decide +kernel
theorem dJ2_getChars_46870_3 : decode cJ2_getChars_46870 3 = .ok (.invokestatic 96, 3) := by decide +kernel
theorem dJ2_getChars_46870_6 : decode cJ2_getChars_46870 6 = .ok (.iload_n 0, 1) := by decide +kernel
theorem dJ2_getChars_46870_7 : decode cJ2_getChars_46870 7 = .ok (.iload_n 2, 1) := by decide +kernel
theorem dJ2_getChars_46870_8 : decode cJ2_getChars_46870 8 = .ok (.aload_n 3, 1) := by decide +kernel
theorem dJ2_getChars_46870_9 : decode cJ2_getChars_46870 9 = .ok (.invokestatic 393, 3) := by decide +kernel
theorem dJ2_getChars_46870_12 : decode cJ2_getChars_46870 12 = .ok (.istore 4, 2) := by decide +kernel
theorem dJ2_getChars_46870_14 : decode cJ2_getChars_46870 14 = .ok (.getstatic 44, 3) := by decide +kernel
theorem dJ2_getChars_46870_17 : decode cJ2_getChars_46870 17 = .ok (.ifCond .ne 17, 3) := by decide +kernel
theorem dJ2_getChars_46870_20 : decode cJ2_getChars_46870 20 = .ok (.iload_n 1, 1) := by decide +kernel
theorem dJ2_getChars_46870_21 : decode cJ2_getChars_46870 21 = .ok (.iload 4, 2) := by decide +kernel
theorem dJ2_getChars_46870_23 : decode cJ2_getChars_46870 23 = .ok (.if_icmp .eq 11, 3) := by decide +kernel
theorem dJ2_getChars_46870_26 : decode cJ2_getChars_46870 26 = .ok (.new 52, 3) := by decide +kernel
theorem dJ2_getChars_46870_29 : decode cJ2_getChars_46870 29 = .ok (.dup, 1) := by decide +kernel
theorem dJ2_getChars_46870_30 : decode cJ2_getChars_46870 30 = .ok (.invokespecial 66, 3) := by decide +kernel
theorem dJ2_getChars_46870_33 : decode cJ2_getChars_46870 33 = .ok (.athrow, 1) := by decide +kernel
theorem dJ2_getChars_46870_34 : decode cJ2_getChars_46870 34 = .ok (.iload 4, 2) := by decide +kernel
theorem dJ2_getChars_46870_36 : decode cJ2_getChars_46870 36 = .ok (.ireturn, 1) := by decide +kernel
theorem dJ2_putCharsAt_cd4e5_0 : decode cJ2_putCharsAt_cd4e5 0 = .ok (.iload_n 1, 1) := by decide +kernel
theorem dJ2_putCharsAt_cd4e5_1 : decode cJ2_putCharsAt_cd4e5 1 = .ok (.iconst 4, 1) := by decide +kernel
theorem dJ2_putCharsAt_cd4e5_2 : decode cJ2_putCharsAt_cd4e5 2 = .ok (.iadd, 1) := by decide +kernel
theorem dJ2_putCharsAt_cd4e5_3 : decode cJ2_putCharsAt_cd4e5 3 = .ok (.istore 6, 2) := by decide +kernel
theorem dJ2_putCharsAt_cd4e5_5 : decode cJ2_putCharsAt_cd4e5 5 = .ok (.iload_n 1, 1) := by decide +kernel
theorem dJ2_putCharsAt_cd4e5_6 : decode cJ2_putCharsAt_cd4e5 6 = .ok (.iload 6, 2) := by decide +kernel
theorem dJ2_putCharsAt_cd4e5_8 : decode cJ2_putCharsAt_cd4e5 8 = .ok (.aload_n 0, 1) := by decide +kernel
theorem dJ2_putCharsAt_cd4e5_9 : decode cJ2_putCharsAt_cd4e5 9 = .ok (.invokestatic 96, 3) := by decide +kernel
theorem dJ2_putCharsAt_cd4e5_12 : decode cJ2_putCharsAt_cd4e5 12 = .ok (.aload_n 0, 1) := by decide +kernel
theorem dJ2_putCharsAt_cd4e5_13 : decode cJ2_putCharsAt_cd4e5 13 = .ok (.iload_n 1, 1) := by decide +kernel
theorem dJ2_putCharsAt_cd4e5_14 : decode cJ2_putCharsAt_cd4e5 14 = .ok (.iinc 1 1, 3) := by decide +kernel
theorem dJ2_putCharsAt_cd4e5_17 : decode cJ2_putCharsAt_cd4e5 17 = .ok (.iload_n 2, 1) := by decide +kernel
theorem dJ2_putCharsAt_cd4e5_18 : decode cJ2_putCharsAt_cd4e5 18 = .ok (.invokestatic 111, 3) := by decide +kernel
theorem dJ2_putCharsAt_cd4e5_21 : decode cJ2_putCharsAt_cd4e5 21 = .ok (.aload_n 0, 1) := by decide +kernel
theorem dJ2_putCharsAt_cd4e5_22 : decode cJ2_putCharsAt_cd4e5 22 = .ok (.iload_n 1, 1) := by decide +kernel
theorem dJ2_putCharsAt_cd4e5_23 : decode cJ2_putCharsAt_cd4e5 23 = .ok (.iinc 1 1, 3) := by decide +kernel
theorem dJ2_putCharsAt_cd4e5_26 : decode cJ2_putCharsAt_cd4e5 26 = .ok (.iload_n 3, 1) := by decide +kernel
theorem dJ2_putCharsAt_cd4e5_27 : decode cJ2_putCharsAt_cd4e5 27 = .ok (.invokestatic 111, 3) := by decide +kernel
theorem dJ2_putCharsAt_cd4e5_30 : decode cJ2_putCharsAt_cd4e5 30 = .ok (.aload_n 0, 1) := by decide +kernel
theorem dJ2_putCharsAt_cd4e5_31 : decode cJ2_putCharsAt_cd4e5 31 = .ok (.iload_n 1, 1) := by decide +kernel
theorem dJ2_putCharsAt_cd4e5_32 : decode cJ2_putCharsAt_cd4e5 32 = .ok (.iinc 1 1, 3) := by decide +kernel
theorem dJ2_putCharsAt_cd4e5_35 : decode cJ2_putCharsAt_cd4e5 35 = .ok (.iload 4, 2) := by decide +kernel
theorem dJ2_putCharsAt_cd4e5_37 : decode cJ2_putCharsAt_cd4e5 37 = .ok (.invokestatic 111, 3) := by decide +kernel
theorem dJ2_putCharsAt_cd4e5_40 : decode cJ2_putCharsAt_cd4e5 40 = .ok (.aload_n 0, 1) := by decide +kernel
theorem dJ2_putCharsAt_cd4e5_41 : decode cJ2_putCharsAt_cd4e5 41 = .ok (.iload_n 1, 1) := by decide +kernel
theorem dJ2_putCharsAt_cd4e5_42 : decode cJ2_putCharsAt_cd4e5 42 = .ok (.iinc 1 1, 3) := by decide +kernel
theorem dJ2_putCharsAt_cd4e5_45 : decode cJ2_putCharsAt_cd4e5 45 = .ok (.iload 5, 2) := by decide +kernel
theorem dJ2_putCharsAt_cd4e5_47 : decode cJ2_putCharsAt_cd4e5 47 = .ok (.invokestatic 111, 3) := by decide +kernel
theorem dJ2_putCharsAt_cd4e5_50 : decode cJ2_putCharsAt_cd4e5 50 = .ok (.getstatic 44, 3) := by decide +kernel
theorem dJ2_putCharsAt_cd4e5_53 : decode cJ2_putCharsAt_cd4e5 53 = .ok (.ifCond .ne 17, 3) := by decide +kernel
theorem dJ2_putCharsAt_cd4e5_56 : decode cJ2_putCharsAt_cd4e5 56 = .ok (.iload_n 1, 1) := by decide +kernel
theorem dJ2_putCharsAt_cd4e5_57 : decode cJ2_putCharsAt_cd4e5 57 = .ok (.iload 6, 2) := by decide +kernel
theorem dJ2_putCharsAt_cd4e5_59 : decode cJ2_putCharsAt_cd4e5 59 = .ok (.if_icmp .eq 11, 3) := by decide +kernel
theorem dJ2_putCharsAt_cd4e5_62 : decode cJ2_putCharsAt_cd4e5 62 = .ok (.new 52, 3) := by decide +kernel
theorem dJ2_putCharsAt_cd4e5_65 : decode cJ2_putCharsAt_cd4e5 65 = .ok (.dup, 1) := by decide +kernel
theorem dJ2_putCharsAt_cd4e5_66 : decode cJ2_putCharsAt_cd4e5 66 = .ok (.invokespecial 66, 3) := by decide +kernel
theorem dJ2_putCharsAt_cd4e5_69 : decode cJ2_putCharsAt_cd4e5 69 = .ok (.athrow, 1) := by decide +kernel
theorem dJ2_putCharsAt_cd4e5_70 : decode cJ2_putCharsAt_cd4e5 70 = .ok (.iload 6, 2) := by decide +kernel
theorem dJ2_putCharsAt_cd4e5_72 : decode cJ2_putCharsAt_cd4e5 72 = .ok (.ireturn, 1) := by decide +kernel
theorem dJ2_charAt_3b067_0 : decode cJ2_charAt_3b067 0 = .ok (.iload_n 1, 1) := by decide +kernel
theorem dJ2_charAt_3b067_1 : decode cJ2_charAt_3b067 1 = .ok (.aload_n 0, 1) := by decide +kernel
theorem dJ2_charAt_3b067_2 : decode cJ2_charAt_3b067 2 = .ok (.invokestatic 67, 3) := by decide +kernel
theorem dJ2_charAt_3b067_5 : decode cJ2_charAt_3b067 5 = .ok (.aload_n 0, 1) := by decide +kernel
theorem dJ2_charAt_3b067_6 : decode cJ2_charAt_3b067 6 = .ok (.iload_n 1, 1) := by decide +kernel
theorem dJ2_charAt_3b067_7 : decode cJ2_charAt_3b067 7 = .ok (.invokestatic 71, 3) := by decide +kernel
theorem dJ2_charAt_3b067_10 : decode cJ2_charAt_3b067 10 = .ok (.ireturn, 1) := by decide +kernel
theorem dJ2_inflate_0e8fd_0 : decode cJ2_inflate_0e8fd 0 = .ok (.iload_n 3, 1) := by decide +kernel
theorem dJ2_inflate_0e8fd_1 : decode cJ2_inflate_0e8fd 1 = .ok (.iload 4, 2) := by decide +kernel
theorem dJ2_inflate_0e8fd_3 : decode cJ2_inflate_0e8fd 3 = .ok (.aload_n 2, 1) := by decide +kernel
theorem dJ2_inflate_0e8fd_4 : decode cJ2_inflate_0e8fd 4 = .ok (.invokestatic 173, 3) := by decide +kernel
theorem dJ2_inflate_0e8fd_7 : decode cJ2_inflate_0e8fd 7 = .ok (.iconst 0, 1) := by decide +kernel
theorem dJ2_inflate_0e8fd_8 : decode cJ2_inflate_0e8fd 8 = .ok (.istore 5, 2) := by decide +kernel
theorem dJ2_inflate_0e8fd_10 : decode cJ2_inflate_0e8fd 10 = .ok (.iload 5, 2) := by decide +kernel
theorem dJ2_inflate_0e8fd_12 : decode cJ2_inflate_0e8fd 12 = .ok (.iload 4, 2) := by decide +kernel
theorem dJ2_inflate_0e8fd_14 : decode cJ2_inflate_0e8fd 14 = .ok (.if_icmp .ge 27, 3) := by decide +kernel
theorem dJ2_inflate_0e8fd_17 : decode cJ2_inflate_0e8fd 17 = .ok (.aload_n 2, 1) := by decide +kernel
theorem dJ2_inflate_0e8fd_18 : decode cJ2_inflate_0e8fd 18 = .ok (.iload_n 3, 1) := by decide +kernel
theorem dJ2_inflate_0e8fd_19 : decode cJ2_inflate_0e8fd 19 = .ok (.iinc 3 1, 3) := by decide +kernel
theorem dJ2_inflate_0e8fd_22 : decode cJ2_inflate_0e8fd 22 = .ok (.aload_n 0, 1) := by decide +kernel
theorem dJ2_inflate_0e8fd_23 : decode cJ2_inflate_0e8fd 23 = .ok (.iload_n 1, 1) := by decide +kernel
theorem dJ2_inflate_0e8fd_24 : decode cJ2_inflate_0e8fd 24 = .ok (.iinc 1 1, 3) := by decide +kernel
theorem dJ2_inflate_0e8fd_27 : decode cJ2_inflate_0e8fd 27 = .ok (.baload, 1) := by decide +kernel
theorem dJ2_inflate_0e8fd_28 : decode cJ2_inflate_0e8fd 28 = .ok (.sipush 255, 3) := by decide +kernel
theorem dJ2_inflate_0e8fd_31 : decode cJ2_inflate_0e8fd 31 = .ok (.iand, 1) := by decide +kernel
theorem dJ2_inflate_0e8fd_32 : decode cJ2_inflate_0e8fd 32 = .ok (.invokestatic 111, 3) := by decide +kernel
theorem dJ2_inflate_0e8fd_35 : decode cJ2_inflate_0e8fd 35 = .ok (.iinc 5 1, 3) := by decide +kernel
theorem dJ2_inflate_0e8fd_38 : decode cJ2_inflate_0e8fd 38 = .ok (.goto (-28), 3) := by decide +kernel
theorem dJ2_inflate_0e8fd_41 : decode cJ2_inflate_0e8fd 41 = .ok (.return_, 1) := by decide +kernel
theorem dJ2_getChars_ba4f3_0 : decode cJ2_getChars_ba4f3 0 = .ok (.iload_n 1, 1) := by decide +kernel
theorem dJ2_getChars_ba4f3_1 : decode cJ2_getChars_ba4f3 1 = .ok (.istore 5, 2) := by decide +kernel
theorem dJ2_getChars_ba4f3_3 : decode cJ2_getChars_ba4f3 3 = .ok (.iload_n 0, 1) := by decide +kernel
theorem dJ2_getChars_ba4f3_4 : decode cJ2_getChars_ba4f3 4 = .ok (.ifCond .ge 7, 3) := by decide +kernel
theorem dJ2_getChars_ba4f3_7 : decode cJ2_getChars_ba4f3 7 = .ok (.iconst 1, 1) := by decide +kernel
theorem dJ2_getChars_ba4f3_8 : decode cJ2_getChars_ba4f3 8 = .ok (.goto 4, 3) := by decide +kernel
theorem dJ2_getChars_ba4f3_11 : decode cJ2_getChars_ba4f3 11 = .ok (.iconst 0, 1) := by decide +kernel
theorem dJ2_getChars_ba4f3_12 : decode cJ2_getChars_ba4f3 12 = .ok (.istore 6, 2) := by decide +kernel
theorem dJ2_getChars_ba4f3_14 : decode cJ2_getChars_ba4f3 14 = .ok (.iload 6, 2) := by decide +kernel
theorem dJ2_getChars_ba4f3_16 : decode cJ2_getChars_ba4f3 16 = .ok (.ifCond .ne 6, 3) := by decide +kernel
theorem dJ2_getChars_ba4f3_19 : decode cJ2_getChars_ba4f3 19 = .ok (.iload_n 0, 1) := by decide +kernel
theorem dJ2_getChars_ba4f3_20 : decode cJ2_getChars_ba4f3 20 = .ok (.ineg, 1) := by decide +kernel
theorem dJ2_getChars_ba4f3_21 : decode cJ2_getChars_ba4f3 21 = .ok (.istore_n 0, 1) := by decide +kernel
theorem dJ2_getChars_ba4f3_22 : decode cJ2_getChars_ba4f3 22 = .ok (.iload_n 0, 1) := by decide +kernel
theorem dJ2_getChars_ba4f3_23 : decode cJ2_getChars_ba4f3 23 = .ok (.bipush (-100), 2) := by decide +kernel
theorem dJ2_getChars_ba4f3_25 : decode cJ2_getChars_ba4f3 25 = .ok (.if_icmp .gt 51, 3) := by decide +kernel
theorem dJ2_getChars_ba4f3_28 : decode cJ2_getChars_ba4f3 28 = .ok (.iload_n 0, 1) := by decide +kernel
theorem dJ2_getChars_ba4f3_29 : decode cJ2_getChars_ba4f3 29 = .ok (.bipush 100, 2) := by decide +kernel
theorem dJ2_getChars_ba4f3_31 : decode cJ2_getChars_ba4f3 31 = .ok (.idiv, 1) := by decide +kernel
theorem dJ2_getChars_ba4f3_32 : decode cJ2_getChars_ba4f3 32 = .ok (.istore_n 3, 1) := by decide +kernel
theorem dJ2_getChars_ba4f3_33 : decode cJ2_getChars_ba4f3 33 = .ok (.iload_n 3, 1) := by decide +kernel
theorem dJ2_getChars_ba4f3_34 : decode cJ2_getChars_ba4f3 34 = .ok (.bipush 100, 2) := by decide +kernel
theorem dJ2_getChars_ba4f3_36 : decode cJ2_getChars_ba4f3 36 = .ok (.imul, 1) := by decide +kernel
theorem dJ2_getChars_ba4f3_37 : decode cJ2_getChars_ba4f3 37 = .ok (.iload_n 0, 1) := by decide +kernel
theorem dJ2_getChars_ba4f3_38 : decode cJ2_getChars_ba4f3 38 = .ok (.isub, 1) := by decide +kernel
theorem dJ2_getChars_ba4f3_39 : decode cJ2_getChars_ba4f3 39 = .ok (.istore 4, 2) := by decide +kernel
theorem dJ2_getChars_ba4f3_41 : decode cJ2_getChars_ba4f3 41 = .ok (.iload_n 3, 1) := by decide +kernel
theorem dJ2_getChars_ba4f3_42 : decode cJ2_getChars_ba4f3 42 = .ok (.istore_n 0, 1) := by decide +kernel
theorem dJ2_getChars_ba4f3_43 : decode cJ2_getChars_ba4f3 43 = .ok (.aload_n 2, 1) := by decide +kernel
theorem dJ2_getChars_ba4f3_44 : decode cJ2_getChars_ba4f3 44 = .ok (.iinc 5 (-1), 3) := by decide +kernel
theorem dJ2_getChars_ba4f3_47 : decode cJ2_getChars_ba4f3 47 = .ok (.iload 5, 2) := by decide +kernel
theorem dJ2_getChars_ba4f3_49 : decode cJ2_getChars_ba4f3 49 = .ok (.getstatic 403, 3) := by decide +kernel
theorem dJ2_getChars_ba4f3_52 : decode cJ2_getChars_ba4f3 52 = .ok (.iload 4, 2) := by decide +kernel
theorem dJ2_getChars_ba4f3_54 : decode cJ2_getChars_ba4f3 54 = .ok (.baload, 1) := by decide +kernel
theorem dJ2_getChars_ba4f3_55 : decode cJ2_getChars_ba4f3 55 = .ok (.invokestatic 111, 3) := by decide +kernel
theorem dJ2_getChars_ba4f3_58 : decode cJ2_getChars_ba4f3 58 = .ok (.aload_n 2, 1) := by decide +kernel
theorem dJ2_getChars_ba4f3_59 : decode cJ2_getChars_ba4f3 59 = .ok (.iinc 5 (-1), 3) := by decide +kernel
theorem dJ2_getChars_ba4f3_62 : decode cJ2_getChars_ba4f3 62 = .ok (.iload 5, 2) := by decide +kernel
theorem dJ2_getChars_ba4f3_64 : decode cJ2_getChars_ba4f3 64 = .ok (.getstatic 407, 3) := by decide +kernel
theorem dJ2_getChars_ba4f3_67 : decode cJ2_getChars_ba4f3 67 = .ok (.iload 4, 2) := by decide +kernel
theorem dJ2_getChars_ba4f3_69 : decode cJ2_getChars_ba4f3 69 = .ok (.baload, 1) := by decide +kernel
theorem dJ2_getChars_ba4f3_70 : decode cJ2_getChars_ba4f3 70 = .ok (.invokestatic 111, 3) := by decide +kernel
theorem dJ2_getChars_ba4f3_73 : decode cJ2_getChars_ba4f3 73 = .ok (.goto (-51), 3) := by decide +kernel
theorem dJ2_getChars_ba4f3_76 : decode cJ2_getChars_ba4f3 76 = .ok (.aload_n 2, 1) := by decide +kernel
theorem dJ2_getChars_ba4f3_77 : decode cJ2_getChars_ba4f3 77 = .ok (.iinc 5 (-1), 3) := by decide +kernel
theorem dJ2_getChars_ba4f3_80 : decode cJ2_getChars_ba4f3 80 = .ok (.iload 5, 2) := by decide +kernel
theorem dJ2_getChars_ba4f3_82 : decode cJ2_getChars_ba4f3 82 = .ok (.getstatic 403, 3) := by decide +kernel
theorem dJ2_getChars_ba4f3_85 : decode cJ2_getChars_ba4f3 85 = .ok (.iload_n 0, 1) := by decide +kernel
theorem dJ2_getChars_ba4f3_86 : decode cJ2_getChars_ba4f3 86 = .ok (.ineg, 1) := by decide +kernel
theorem dJ2_getChars_ba4f3_87 : decode cJ2_getChars_ba4f3 87 = .ok (.baload, 1) := by decide +kernel
theorem dJ2_getChars_ba4f3_88 : decode cJ2_getChars_ba4f3 88 = .ok (.invokestatic 111, 3) := by decide +kernel
theorem dJ2_getChars_ba4f3_91 : decode cJ2_getChars_ba4f3 91 = .ok (.iload_n 0, 1) := by decide +kernel
theorem dJ2_getChars_ba4f3_92 : decode cJ2_getChars_ba4f3 92 = .ok (.bipush (-9), 2) := by decide +kernel
theorem dJ2_getChars_ba4f3_94 : decode cJ2_getChars_ba4f3 94 = .ok (.if_icmp .ge 18, 3) := by decide +kernel
theorem dJ2_getChars_ba4f3_97 : decode cJ2_getChars_ba4f3 97 = .ok (.aload_n 2, 1) := by decide +kernel
theorem dJ2_getChars_ba4f3_98 : decode cJ2_getChars_ba4f3 98 = .ok (.iinc 5 (-1), 3) := by decide +kernel
theorem dJ2_getChars_ba4f3_101 : decode cJ2_getChars_ba4f3 101 = .ok (.iload 5, 2) := by decide +kernel
theorem dJ2_getChars_ba4f3_103 : decode cJ2_getChars_ba4f3 103 = .ok (.getstatic 407, 3) := by decide +kernel
theorem dJ2_getChars_ba4f3_106 : decode cJ2_getChars_ba4f3 106 = .ok (.iload_n 0, 1) := by decide +kernel
theorem dJ2_getChars_ba4f3_107 : decode cJ2_getChars_ba4f3 107 = .ok (.ineg, 1) := by decide +kernel
theorem dJ2_getChars_ba4f3_108 : decode cJ2_getChars_ba4f3 108 = .ok (.baload, 1) := by decide +kernel
theorem dJ2_getChars_ba4f3_109 : decode cJ2_getChars_ba4f3 109 = .ok (.invokestatic 111, 3) := by decide +kernel
theorem dJ2_getChars_ba4f3_112 : decode cJ2_getChars_ba4f3 112 = .ok (.iload 6, 2) := by decide +kernel
theorem dJ2_getChars_ba4f3_114 : decode cJ2_getChars_ba4f3 114 = .ok (.ifCond .eq 14, 3) := by decide +kernel
theorem dJ2_getChars_ba4f3_117 : decode cJ2_getChars_ba4f3 117 = .ok (.aload_n 2, 1) := by decide +kernel
theorem dJ2_getChars_ba4f3_118 : decode cJ2_getChars_ba4f3 118 = .ok (.iinc 5 (-1), 3) := by decide +kernel
theorem dJ2_getChars_ba4f3_121 : decode cJ2_getChars_ba4f3 121 = .ok (.iload 5, 2) := by decide +kernel
theorem dJ2_getChars_ba4f3_123 : decode cJ2_getChars_ba4f3 123 = .ok (.bipush 45, 2) := by decide +kernel
theorem dJ2_getChars_ba4f3_125 : decode cJ2_getChars_ba4f3 125 = .ok (.invokestatic 111, 3) := by decide +kernel
theorem dJ2_getChars_ba4f3_128 : decode cJ2_getChars_ba4f3 128 = .ok (.iload 5, 2) := by decide +kernel
theorem dJ2_getChars_ba4f3_130 : decode cJ2_getChars_ba4f3 130 = .ok (.ireturn, 1) := by decide +kernel
theorem dJ2_checkIndex_2214a_0 : decode cJ2_checkIndex_2214a 0 = .ok (.iload_n 0, 1) := by decide +kernel
theorem dJ2_checkIndex_2214a_1 : decode cJ2_checkIndex_2214a 1 = .ok (.aload_n 1, 1) := by decide +kernel
theorem dJ2_checkIndex_2214a_2 : decode cJ2_checkIndex_2214a 2 = .ok (.invokestatic 48, 3) := by decide +kernel
theorem dJ2_checkIndex_2214a_5 : decode cJ2_checkIndex_2214a 5 = .ok (.invokestatic 414, 3) := by decide +kernel
theorem dJ2_checkIndex_2214a_8 : decode cJ2_checkIndex_2214a 8 = .ok (.return_, 1) := by decide +kernel
theorem dJ2_checkBoundsBeginEnd_d044e_0 : decode cJ2_checkBoundsBeginEnd_d044e 0 = .ok (.iload_n 0, 1) := by decide +kernel
theorem dJ2_checkBoundsBeginEnd_d044e_1 : decode cJ2_checkBoundsBeginEnd_d044e 1 = .ok (.iload_n 1, 1) := by decide +kernel
theorem dJ2_checkBoundsBeginEnd_d044e_2 : decode cJ2_checkBoundsBeginEnd_d044e 2 = .ok (.aload_n 2, 1) := by decide +kernel
theorem dJ2_checkBoundsBeginEnd_d044e_3 : decode cJ2_checkBoundsBeginEnd_d044e 3 = .ok (.invokestatic 48, 3) := by decide +kernel
theorem dJ2_checkBoundsBeginEnd_d044e_6 : decode cJ2_checkBoundsBeginEnd_d044e 6 = .ok (.invokestatic 241, 3) := by decide +kernel
theorem dJ2_checkBoundsBeginEnd_d044e_9 : decode cJ2_checkBoundsBeginEnd_d044e 9 = .ok (.return_, 1) := by decide +kernel
theorem dJ2_checkBoundsOffCount_d044e_0 : decode cJ2_checkBoundsOffCount_d044e 0 = .ok (.iload_n 0, 1) := by decide +kernel
theorem dJ2_checkBoundsOffCount_d044e_1 : decode cJ2_checkBoundsOffCount_d044e 1 = .ok (.iload_n 1, 1) := by decide +kernel
theorem dJ2_checkBoundsOffCount_d044e_2 : decode cJ2_checkBoundsOffCount_d044e 2 = .ok (.aload_n 2, 1) := by decide +kernel
theorem dJ2_checkBoundsOffCount_d044e_3 : decode cJ2_checkBoundsOffCount_d044e 3 = .ok (.invokestatic 48, 3) := by decide +kernel
theorem dJ2_checkBoundsOffCount_d044e_6 : decode cJ2_checkBoundsOffCount_d044e 6 = .ok (.invokestatic 419, 3) := by decide +kernel
theorem dJ2_checkBoundsOffCount_d044e_9 : decode cJ2_checkBoundsOffCount_d044e 9 = .ok (.pop, 1) := by decide +kernel
theorem dJ2_checkBoundsOffCount_d044e_10 : decode cJ2_checkBoundsOffCount_d044e 10 = .ok (.return_, 1) := by decide +kernel
theorem dJ3_checkIndex_8e157_0 : decode cJ3_checkIndex_8e157 0 = .ok (.iload_n 0, 1) := by decide +kernel
theorem dJ3_checkIndex_8e157_1 : decode cJ3_checkIndex_8e157 1 = .ok (.ifCond .lt 8, 3) := by decide +kernel
theorem dJ3_checkIndex_8e157_4 : decode cJ3_checkIndex_8e157 4 = .ok (.iload_n 0, 1) := by decide +kernel
theorem dJ3_checkIndex_8e157_5 : decode cJ3_checkIndex_8e157 5 = .ok (.iload_n 1, 1) := by decide +kernel
theorem dJ3_checkIndex_8e157_6 : decode cJ3_checkIndex_8e157 6 = .ok (.if_icmp .lt 10, 3) := by decide +kernel
theorem dJ3_checkIndex_8e157_9 : decode cJ3_checkIndex_8e157 9 = .ok (.aload_n 2, 1) := by decide +kernel
theorem dJ3_checkIndex_8e157_10 : decode cJ3_checkIndex_8e157 10 = .ok (.iload_n 0, 1) := by decide +kernel
theorem dJ3_checkIndex_8e157_11 : decode cJ3_checkIndex_8e157 11 = .ok (.iload_n 1, 1) := by decide +kernel
theorem dJ3_checkIndex_8e157_12 : decode cJ3_checkIndex_8e157 12 = .ok (.invokestatic 95, 3) := by decide +kernel
theorem dJ3_checkIndex_8e157_15 : decode cJ3_checkIndex_8e157 15 = .ok (.athrow, 1) := by decide +kernel
theorem dJ3_checkIndex_8e157_16 : decode cJ3_checkIndex_8e157 16 = .ok (.iload_n 0, 1) := by decide +kernel
theorem dJ3_checkIndex_8e157_17 : decode cJ3_checkIndex_8e157 17 = .ok (.ireturn, 1) := by decide +kernel
theorem dJ3_checkFromToIndex_8c36e_0 : decode cJ3_checkFromToIndex_8c36e 0 = .ok (.iload_n 0, 1) := by decide +kernel
theorem dJ3_checkFromToIndex_8c36e_1 : decode cJ3_checkFromToIndex_8c36e 1 = .ok (.ifCond .lt 13, 3) := by decide +kernel
theorem dJ3_checkFromToIndex_8c36e_4 : decode cJ3_checkFromToIndex_8c36e 4 = .ok (.iload_n 0, 1) := by decide +kernel
theorem dJ3_checkFromToIndex_8c36e_5 : decode cJ3_checkFromToIndex_8c36e 5 = .ok (.iload_n 1, 1) := by decide +kernel
theorem dJ3_checkFromToIndex_8c36e_6 : decode cJ3_checkFromToIndex_8c36e 6 = .ok (.if_icmp .gt 8, 3) := by decide +kernel
theorem dJ3_checkFromToIndex_8c36e_9 : decode cJ3_checkFromToIndex_8c36e 9 = .ok (.iload_n 1, 1) := by decide +kernel
theorem dJ3_checkFromToIndex_8c36e_10 : decode cJ3_checkFromToIndex_8c36e 10 = .ok (.iload_n 2, 1) := by decide +kernel
theorem dJ3_checkFromToIndex_8c36e_11 : decode cJ3_checkFromToIndex_8c36e 11 = .ok (.if_icmp .le 11, 3) := by decide +kernel
theorem dJ3_checkFromToIndex_8c36e_14 : decode cJ3_checkFromToIndex_8c36e 14 = .ok (.aload_n 3, 1) := by decide +kernel
theorem dJ3_checkFromToIndex_8c36e_15 : decode cJ3_checkFromToIndex_8c36e 15 = .ok (.iload_n 0, 1) := by decide +kernel
theorem dJ3_checkFromToIndex_8c36e_16 : decode cJ3_checkFromToIndex_8c36e 16 = .ok (.iload_n 1, 1) := by decide +kernel
theorem dJ3_checkFromToIndex_8c36e_17 : decode cJ3_checkFromToIndex_8c36e 17 = .ok (.iload_n 2, 1) := by decide +kernel
theorem dJ3_checkFromToIndex_8c36e_18 : decode cJ3_checkFromToIndex_8c36e 18 = .ok (.invokestatic 99, 3) := by decide +kernel
theorem dJ3_checkFromToIndex_8c36e_21 : decode cJ3_checkFromToIndex_8c36e 21 = .ok (.athrow, 1) := by decide +kernel
theorem dJ3_checkFromToIndex_8c36e_22 : decode cJ3_checkFromToIndex_8c36e 22 = .ok (.iload_n 0, 1) := by decide +kernel
theorem dJ3_checkFromToIndex_8c36e_23 : decode cJ3_checkFromToIndex_8c36e 23 = .ok (.ireturn, 1) := by decide +kernel
theorem dJ3_checkFromIndexSize_8c36e_0 : decode cJ3_checkFromIndexSize_8c36e 0 = .ok (.iload_n 2, 1) := by decide +kernel
theorem dJ3_checkFromIndexSize_8c36e_1 : decode cJ3_checkFromIndexSize_8c36e 1 = .ok (.iload_n 0, 1) := by decide +kernel
theorem dJ3_checkFromIndexSize_8c36e_2 : decode cJ3_checkFromIndexSize_8c36e 2 = .ok (.ior, 1) := by decide +kernel
theorem dJ3_checkFromIndexSize_8c36e_3 : decode cJ3_checkFromIndexSize_8c36e 3 = .ok (.iload_n 1, 1) := by decide +kernel
theorem dJ3_checkFromIndexSize_8c36e_4 : decode cJ3_checkFromIndexSize_8c36e 4 = .ok (.ior, 1) := by decide +kernel
theorem dJ3_checkFromIndexSize_8c36e_5 : decode cJ3_checkFromIndexSize_8c36e 5 = .ok (.ifCond .lt 10, 3) := by decide +kernel
theorem dJ3_checkFromIndexSize_8c36e_8 : decode cJ3_checkFromIndexSize_8c36e 8 = .ok (.iload_n 1, 1) := by decide +kernel
theorem dJ3_checkFromIndexSize_8c36e_9 : decode cJ3_checkFromIndexSize_8c36e 9 = .ok (.iload_n 2, 1) := by decide +kernel
theorem dJ3_checkFromIndexSize_8c36e_10 : decode cJ3_checkFromIndexSize_8c36e 10 = .ok (.iload_n 0, 1) := by decide +kernel
theorem dJ3_checkFromIndexSize_8c36e_11 : decode cJ3_checkFromIndexSize_8c36e 11 = .ok (.isub, 1) := by decide +kernel
theorem dJ3_checkFromIndexSize_8c36e_12 : decode cJ3_checkFromIndexSize_8c36e 12 = .ok (.if_icmp .le 11, 3) := by decide +kernel
theorem dJ3_checkFromIndexSize_8c36e_15 : decode cJ3_checkFromIndexSize_8c36e 15 = .ok (.aload_n 3, 1) := by decide +kernel
theorem dJ3_checkFromIndexSize_8c36e_16 : decode cJ3_checkFromIndexSize_8c36e 16 = .ok (.iload_n 0, 1) := by decide +kernel
theorem dJ3_checkFromIndexSize_8c36e_17 : decode cJ3_checkFromIndexSize_8c36e 17 = .ok (.iload_n 1, 1) := by decide +kernel
theorem dJ3_checkFromIndexSize_8c36e_18 : decode cJ3_checkFromIndexSize_8c36e 18 = .ok (.iload_n 2, 1) := by decide +kernel
theorem dJ3_checkFromIndexSize_8c36e_19 : decode cJ3_checkFromIndexSize_8c36e 19 = .ok (.invokestatic 103, 3) := by decide +kernel
theorem dJ3_checkFromIndexSize_8c36e_22 : decode cJ3_checkFromIndexSize_8c36e 22 = .ok (.athrow, 1) := by decide +kernel
theorem dJ3_checkFromIndexSize_8c36e_23 : decode cJ3_checkFromIndexSize_8c36e 23 = .ok (.iload_n 0, 1) := by decide +kernel
theorem dJ3_checkFromIndexSize_8c36e_24 : decode cJ3_checkFromIndexSize_8c36e 24 = .ok (.ireturn, 1) := by decide +kernel
theorem dJ4_init_da8c8_0 : decode cJ4_init_da8c8 0 = .ok (.aload_n 0, 1) := by decide +kernel
theorem dJ4_init_da8c8_1 : decode cJ4_init_da8c8 1 = .ok (.bipush 16, 2) := by decide +kernel
theorem dJ4_init_da8c8_3 : decode cJ4_init_da8c8 3 = .ok (.invokespecial 1, 3) := by decide +kernel
theorem dJ4_init_da8c8_6 : decode cJ4_init_da8c8 6 = .ok (.return_, 1) := by decide +kernel
theorem dJ4_append_15ec4_0 : decode cJ4_append_15ec4 0 = .ok (.aload_n 0, 1) := by decide +kernel
theorem dJ4_append_15ec4_1 : decode cJ4_append_15ec4 1 = .ok (.aload_n 1, 1) := by decide +kernel
theorem dJ4_append_15ec4_2 : decode cJ4_append_15ec4 2 = .ok (.invokespecial 29, 3) := by decide +kernel
theorem dJ4_append_15ec4_5 : decode cJ4_append_15ec4 5 = .ok (.pop, 1) := by decide +kernel
theorem dJ4_append_15ec4_6 : decode cJ4_append_15ec4 6 = .ok (.aload_n 0, 1) := by decide +kernel
theorem dJ4_append_15ec4_7 : decode cJ4_append_15ec4 7 = .ok (.areturn, 1) := by decide +kernel
theorem dJ4_append_cf468_0 : decode cJ4_append_cf468 0 = .ok (.aload_n 0, 1) := by decide +kernel
theorem dJ4_append_cf468_1 : decode cJ4_append_cf468 1 = .ok (.iload_n 1, 1) := by decide +kernel
theorem dJ4_append_cf468_2 : decode cJ4_append_cf468 2 = .ok (.invokespecial 50, 3) := by decide +kernel
theorem dJ4_append_cf468_5 : decode cJ4_append_cf468 5 = .ok (.pop, 1) := by decide +kernel
theorem dJ4_append_cf468_6 : decode cJ4_append_cf468 6 = .ok (.aload_n 0, 1) := by decide +kernel
theorem dJ4_append_cf468_7 : decode cJ4_append_cf468 7 = .ok (.areturn, 1) := by decide +kernel
theorem dJ4_append_bf812_0 : decode cJ4_append_bf812 0 = .ok (.aload_n 0, 1) := by decide +kernel
theorem dJ4_append_bf812_1 : decode cJ4_append_bf812 1 = .ok (.iload_n 1, 1) := by decide +kernel
theorem dJ4_append_bf812_2 : decode cJ4_append_bf812 2 = .ok (.invokespecial 53, 3) := by decide +kernel
theorem dJ4_append_bf812_5 : decode cJ4_append_bf812 5 = .ok (.pop, 1) := by decide +kernel
theorem dJ4_append_bf812_6 : decode cJ4_append_bf812 6 = .ok (.aload_n 0, 1) := by decide +kernel
theorem dJ4_append_bf812_7 : decode cJ4_append_bf812 7 = .ok (.areturn, 1) := by decide +kernel
theorem dJ4_charAt_5068e_0 : decode cJ4_charAt_5068e 0 = .ok (.aload_n 0, 1) := by decide +kernel
theorem dJ4_charAt_5068e_1 : decode cJ4_charAt_5068e 1 = .ok (.iload_n 1, 1) := by decide +kernel
theorem dJ4_charAt_5068e_2 : decode cJ4_charAt_5068e 2 = .ok (.invokespecial 329, 3) := by decide +kernel
theorem dJ4_charAt_5068e_5 : decode cJ4_charAt_5068e 5 = .ok (.ireturn, 1) := by decide +kernel
theorem dJ4_setLength_d00df_0 : decode cJ4_setLength_d00df 0 = .ok (.aload_n 0, 1) := by decide +kernel
theorem dJ4_setLength_d00df_1 : decode cJ4_setLength_d00df 1 = .ok (.iload_n 1, 1) := by decide +kernel
theorem dJ4_setLength_d00df_2 : decode cJ4_setLength_d00df 2 = .ok (.invokespecial 333, 3) := by decide +kernel
theorem dJ4_setLength_d00df_5 : decode cJ4_setLength_d00df 5 = .ok (.return_, 1) := by decide +kernel
theorem dJ4_length_8abf5_0 : decode cJ4_length_8abf5 0 = .ok (.aload_n 0, 1) := by decide +kernel
theorem dJ4_length_8abf5_1 : decode cJ4_length_8abf5 1 = .ok (.invokespecial 343, 3) := by decide +kernel
theorem dJ4_length_8abf5_4 : decode cJ4_length_8abf5 4 = .ok (.ireturn, 1) := by decide +kernel
theorem dJ5_init_d00df_0 : decode cJ5_init_d00df 0 = .ok (.aload_n 0, 1) := by decide +kernel
theorem dJ5_init_d00df_1 : decode cJ5_init_d00df 1 = .ok (.invokespecial 3, 3) := by decide +kernel
theorem dJ5_init_d00df_4 : decode cJ5_init_d00df 4 = .ok (.getstatic 18, 3) := by decide +kernel
theorem dJ5_init_d00df_7 : decode cJ5_init_d00df 7 = .ok (.ifCond .eq 18, 3) := by decide +kernel
theorem dJ5_init_d00df_10 : decode cJ5_init_d00df 10 = .ok (.aload_n 0, 1) := by decide +kernel
theorem dJ5_init_d00df_11 : decode cJ5_init_d00df 11 = .ok (.iload_n 1, 1) := by decide +kernel
theorem dJ5_init_d00df_12 : decode cJ5_init_d00df 12 = .ok (.newarray .byte, 2) := by decide +kernel
theorem dJ5_init_d00df_14 : decode cJ5_init_d00df 14 = .ok (.putfield 15, 3) := by decide +kernel
theorem dJ5_init_d00df_17 : decode cJ5_init_d00df 17 = .ok (.aload_n 0, 1) := by decide +kernel
theorem dJ5_init_d00df_18 : decode cJ5_init_d00df 18 = .ok (.iconst 0, 1) := by decide +kernel
theorem dJ5_init_d00df_19 : decode cJ5_init_d00df 19 = .ok (.putfield 22, 3) := by decide +kernel
theorem dJ5_init_d00df_22 : decode cJ5_init_d00df 22 = .ok (.goto 16, 3) := by decide +kernel
theorem dJ5_init_d00df_25 : decode cJ5_init_d00df 25 = .ok (.aload_n 0, 1) := by decide +kernel
theorem dJ5_init_d00df_26 : decode cJ5_init_d00df 26 = .ok (.iload_n 1, 1) := by decide +kernel
theorem dJ5_init_d00df_27 : decode cJ5_init_d00df 27 = .ok (.invokestatic 26, 3) := by decide +kernel
theorem dJ5_init_d00df_30 : decode cJ5_init_d00df 30 = .ok (.putfield 15, 3) := by decide +kernel
theorem dJ5_init_d00df_33 : decode cJ5_init_d00df 33 = .ok (.aload_n 0, 1) := by decide +kernel
theorem dJ5_init_d00df_34 : decode cJ5_init_d00df 34 = .ok (.iconst 1, 1) := by decide +kernel
theorem dJ5_init_d00df_35 : decode cJ5_init_d00df 35 = .ok (.putfield 22, 3) := by decide +kernel
theorem dJ5_init_d00df_38 : decode cJ5_init_d00df 38 = .ok (.return_, 1) := by decide +kernel
theorem dJ5_length_8abf5_0 : decode cJ5_length_8abf5 0 = .ok (.aload_n 0, 1) := by decide +kernel
theorem dJ5_length_8abf5_1 : decode cJ5_length_8abf5 1 = .ok (.getfield 79, 3) := by decide +kernel
theorem dJ5_length_8abf5_4 : decode cJ5_length_8abf5 4 = .ok (.ireturn, 1) := by decide +kernel
theorem dJ5_ensureCapacityInternal_d00df_0 : decode cJ5_ensureCapacityInternal_d00df 0 = .ok (.aload_n 0, 1) := by decide +kernel
theorem dJ5_ensureCapacityInternal_d00df_1 : decode cJ5_ensureCapacityInternal_d00df 1 = .ok (.getfield 15, 3) := by decide +kernel
theorem dJ5_ensureCapacityInternal_d00df_4 : decode cJ5_ensureCapacityInternal_d00df 4 = .ok (.arraylength, 1) := by decide +kernel
theorem dJ5_ensureCapacityInternal_d00df_5 : decode cJ5_ensureCapacityInternal_d00df 5 = .ok (.aload_n 0, 1) := by decide +kernel
theorem dJ5_ensureCapacityInternal_d00df_6 : decode cJ5_ensureCapacityInternal_d00df 6 = .ok (.getfield 22, 3) := by decide +kernel
theorem dJ5_ensureCapacityInternal_d00df_9 : decode cJ5_ensureCapacityInternal_d00df 9 = .ok (.ishr, 1) := by decide +kernel
theorem dJ5_ensureCapacityInternal_d00df_10 : decode cJ5_ensureCapacityInternal_d00df 10 = .ok (.istore_n 2, 1) := by decide +kernel
theorem dJ5_ensureCapacityInternal_d00df_11 : decode cJ5_ensureCapacityInternal_d00df 11 = .ok (.iload_n 1, 1) := by decide +kernel
theorem dJ5_ensureCapacityInternal_d00df_12 : decode cJ5_ensureCapacityInternal_d00df 12 = .ok (.iload_n 2, 1) := by decide +kernel
theorem dJ5_ensureCapacityInternal_d00df_13 : decode cJ5_ensureCapacityInternal_d00df 13 = .ok (.isub, 1) := by decide +kernel
theorem dJ5_ensureCapacityInternal_d00df_14 : decode cJ5_ensureCapacityInternal_d00df 14 = .ok (.ifCond .le 24, 3) := by decide +kernel
theorem dJ5_ensureCapacityInternal_d00df_17 : decode cJ5_ensureCapacityInternal_d00df 17 = .ok (.aload_n 0, 1) := by decide +kernel
theorem dJ5_ensureCapacityInternal_d00df_18 : decode cJ5_ensureCapacityInternal_d00df 18 = .ok (.aload_n 0, 1) := by decide +kernel
theorem dJ5_ensureCapacityInternal_d00df_19 : decode cJ5_ensureCapacityInternal_d00df 19 = .ok (.getfield 15, 3) := by decide +kernel
theorem dJ5_ensureCapacityInternal_d00df_22 : decode cJ5_ensureCapacityInternal_d00df 22 = .ok (.aload_n 0, 1) := by decide +kernel
theorem dJ5_ensureCapacityInternal_d00df_23 : decode cJ5_ensureCapacityInternal_d00df 23 = .ok (.iload_n 1, 1) := by decide +kernel
theorem dJ5_ensureCapacityInternal_d00df_24 : decode cJ5_ensureCapacityInternal_d00df 24 = .ok (.invokevirtual 104, 3) := by decide +kernel
theorem dJ5_ensureCapacityInternal_d00df_27 : decode cJ5_ensureCapacityInternal_d00df 27 = .ok (.aload_n 0, 1) := by decide +kernel
theorem dJ5_ensureCapacityInternal_d00df_28 : decode cJ5_ensureCapacityInternal_d00df 28 = .ok (.getfield 22, 3) := by decide +kernel
theorem dJ5_ensureCapacityInternal_d00df_31 : decode cJ5_ensureCapacityInternal_d00df 31 = .ok (.ishl, 1) := by decide +kernel
theorem dJ5_ensureCapacityInternal_d00df_32 : decode cJ5_ensureCapacityInternal_d00df 32 = .ok (.invokestatic 108, 3) := by decide +kernel
theorem dJ5_ensureCapacityInternal_d00df_35 : decode cJ5_ensureCapacityInternal_d00df 35 = .ok (.putfield 15, 3) := by decide +kernel
theorem dJ5_ensureCapacityInternal_d00df_38 : decode cJ5_ensureCapacityInternal_d00df 38 = .ok (.return_, 1) := by decide +kernel
theorem dJ5_newCapacity_0f7a4_0 : decode cJ5_newCapacity_0f7a4 0 = .ok (.aload_n 0, 1) := by decide +kernel
theorem dJ5_newCapacity_0f7a4_1 : decode cJ5_newCapacity_0f7a4 1 = .ok (.getfield 15, 3) := by decide +kernel
theorem dJ5_newCapacity_0f7a4_4 : decode cJ5_newCapacity_0f7a4 4 = .ok (.arraylength, 1) := by decide +kernel
theorem dJ5_newCapacity_0f7a4_5 : decode cJ5_newCapacity_0f7a4 5 = .ok (.istore_n 2, 1) := by decide +kernel
theorem dJ5_newCapacity_0f7a4_6 : decode cJ5_newCapacity_0f7a4 6 = .ok (.iload_n 1, 1) := by decide +kernel
theorem dJ5_newCapacity_0f7a4_7 : decode cJ5_newCapacity_0f7a4 7 = .ok (.aload_n 0, 1) := by decide +kernel
theorem dJ5_newCapacity_0f7a4_8 : decode cJ5_newCapacity_0f7a4 8 = .ok (.getfield 22, 3) := by decide +kernel
theorem dJ5_newCapacity_0f7a4_11 : decode cJ5_newCapacity_0f7a4 11 = .ok (.ishl, 1) := by decide +kernel
theorem dJ5_newCapacity_0f7a4_12 : decode cJ5_newCapacity_0f7a4 12 = .ok (.istore_n 3, 1) := by decide +kernel
theorem dJ5_newCapacity_0f7a4_13 : decode cJ5_newCapacity_0f7a4 13 = .ok (.iload_n 3, 1) := by decide +kernel
theorem dJ5_newCapacity_0f7a4_14 : decode cJ5_newCapacity_0f7a4 14 = .ok (.iload_n 2, 1) := by decide +kernel
theorem dJ5_newCapacity_0f7a4_15 : decode cJ5_newCapacity_0f7a4 15 = .ok (.isub, 1) := by decide +kernel
theorem dJ5_newCapacity_0f7a4_16 : decode cJ5_newCapacity_0f7a4 16 = .ok (.istore 4, 2) := by decide +kernel
theorem dJ5_newCapacity_0f7a4_18 : decode cJ5_newCapacity_0f7a4 18 = .ok (.iload_n 2, 1) := by decide +kernel
theorem dJ5_newCapacity_0f7a4_19 : decode cJ5_newCapacity_0f7a4 19 = .ok (.iload 4, 2) := by decide +kernel
theorem dJ5_newCapacity_0f7a4_21 : decode cJ5_newCapacity_0f7a4 21 = .ok (.iload_n 2, 1) := by decide +kernel
theorem dJ5_newCapacity_0f7a4_22 : decode cJ5_newCapacity_0f7a4 22 = .ok (.iconst 2, 1) := by decide +kernel
theorem dJ5_newCapacity_0f7a4_23 : decode cJ5_newCapacity_0f7a4 23 = .ok (.aload_n 0, 1) := by decide +kernel
theorem dJ5_newCapacity_0f7a4_24 : decode cJ5_newCapacity_0f7a4 24 = .ok (.getfield 22, 3) := by decide +kernel
theorem dJ5_newCapacity_0f7a4_27 : decode cJ5_newCapacity_0f7a4 27 = .ok (.ishl, 1) := by decide +kernel
theorem dJ5_newCapacity_0f7a4_28 : decode cJ5_newCapacity_0f7a4 28 = .ok (.iadd, 1) := by decide +kernel
theorem dJ5_newCapacity_0f7a4_29 : decode cJ5_newCapacity_0f7a4 29 = .ok (.invokestatic 114, 3) := by decide +kernel
theorem dJ5_newCapacity_0f7a4_32 : decode cJ5_newCapacity_0f7a4 32 = .ok (.istore 5, 2) := by decide +kernel
theorem dJ5_newCapacity_0f7a4_34 : decode cJ5_newCapacity_0f7a4 34 = .ok (.iload 5, 2) := by decide +kernel
theorem dJ5_newCapacity_0f7a4_36 : decode cJ5_newCapacity_0f7a4 36 = .ok (.ldc 39, 2) := by decide +kernel
theorem dJ5_newCapacity_0f7a4_38 : decode cJ5_newCapacity_0f7a4 38 = .ok (.if_icmp .ne 13, 3) := by decide +kernel
theorem dJ5_newCapacity_0f7a4_41 : decode cJ5_newCapacity_0f7a4 41 = .ok (.new 120, 3) := by decide +kernel
theorem dJ5_newCapacity_0f7a4_44 : decode cJ5_newCapacity_0f7a4 44 = .ok (.dup, 1) := by decide +kernel
theorem dJ5_newCapacity_0f7a4_45 : decode cJ5_newCapacity_0f7a4 45 = .ok (.ldc 122, 2) := by decide +kernel
theorem dJ5_newCapacity_0f7a4_47 : decode cJ5_newCapacity_0f7a4 47 = .ok (.invokespecial 124, 3) := by decide +kernel
theorem dJ5_newCapacity_0f7a4_50 : decode cJ5_newCapacity_0f7a4 50 = .ok (.athrow, 1) := by decide +kernel
theorem dJ5_newCapacity_0f7a4_51 : decode cJ5_newCapacity_0f7a4 51 = .ok (.iload 5, 2) := by decide +kernel
theorem dJ5_newCapacity_0f7a4_53 : decode cJ5_newCapacity_0f7a4 53 = .ok (.aload_n 0, 1) := by decide +kernel
theorem dJ5_newCapacity_0f7a4_54 : decode cJ5_newCapacity_0f7a4 54 = .ok (.getfield 22, 3) := by decide +kernel
theorem dJ5_newCapacity_0f7a4_57 : decode cJ5_newCapacity_0f7a4 57 = .ok (.ishr, 1) := by decide +kernel
theorem dJ5_newCapacity_0f7a4_58 : decode cJ5_newCapacity_0f7a4 58 = .ok (.ireturn, 1) := by decide +kernel
theorem dJ5_inflate_da8c8_0 : decode cJ5_inflate_da8c8 0 = .ok (.aload_n 0, 1) := by decide +kernel
theorem dJ5_inflate_da8c8_1 : decode cJ5_inflate_da8c8 1 = .ok (.invokevirtual 83, 3) := by decide +kernel
theorem dJ5_inflate_da8c8_4 : decode cJ5_inflate_da8c8 4 = .ok (.ifCond .ne 4, 3) := by decide +kernel
theorem dJ5_inflate_da8c8_7 : decode cJ5_inflate_da8c8 7 = .ok (.return_, 1) := by decide +kernel
theorem dJ5_inflate_da8c8_8 : decode cJ5_inflate_da8c8 8 = .ok (.aload_n 0, 1) := by decide +kernel
theorem dJ5_inflate_da8c8_9 : decode cJ5_inflate_da8c8 9 = .ok (.getfield 15, 3) := by decide +kernel
theorem dJ5_inflate_da8c8_12 : decode cJ5_inflate_da8c8 12 = .ok (.arraylength, 1) := by decide +kernel
theorem dJ5_inflate_da8c8_13 : decode cJ5_inflate_da8c8 13 = .ok (.invokestatic 26, 3) := by decide +kernel
theorem dJ5_inflate_da8c8_16 : decode cJ5_inflate_da8c8 16 = .ok (.astore_n 1, 1) := by decide +kernel
theorem dJ5_inflate_da8c8_17 : decode cJ5_inflate_da8c8 17 = .ok (.aload_n 0, 1) := by decide +kernel
theorem dJ5_inflate_da8c8_18 : decode cJ5_inflate_da8c8 18 = .ok (.getfield 15, 3) := by decide +kernel
theorem dJ5_inflate_da8c8_21 : decode cJ5_inflate_da8c8 21 = .ok (.iconst 0, 1) := by decide +kernel
theorem dJ5_inflate_da8c8_22 : decode cJ5_inflate_da8c8 22 = .ok (.aload_n 1, 1) := by decide +kernel
theorem dJ5_inflate_da8c8_23 : decode cJ5_inflate_da8c8 23 = .ok (.iconst 0, 1) := by decide +kernel
theorem dJ5_inflate_da8c8_24 : decode cJ5_inflate_da8c8 24 = .ok (.aload_n 0, 1) := by decide +kernel
theorem dJ5_inflate_da8c8_25 : decode cJ5_inflate_da8c8 25 = .ok (.getfield 79, 3) := by decide +kernel
theorem dJ5_inflate_da8c8_28 : decode cJ5_inflate_da8c8 28 = .ok (.invokestatic 125, 3) := by decide +kernel
theorem dJ5_inflate_da8c8_31 : decode cJ5_inflate_da8c8 31 = .ok (.aload_n 0, 1) := by decide +kernel
theorem dJ5_inflate_da8c8_32 : decode cJ5_inflate_da8c8 32 = .ok (.aload_n 1, 1) := by decide +kernel
theorem dJ5_inflate_da8c8_33 : decode cJ5_inflate_da8c8 33 = .ok (.putfield 15, 3) := by decide +kernel
theorem dJ5_inflate_da8c8_36 : decode cJ5_inflate_da8c8 36 = .ok (.aload_n 0, 1) := by decide +kernel
theorem dJ5_inflate_da8c8_37 : decode cJ5_inflate_da8c8 37 = .ok (.iconst 1, 1) := by decide +kernel
theorem dJ5_inflate_da8c8_38 : decode cJ5_inflate_da8c8 38 = .ok (.putfield 22, 3) := by decide +kernel
theorem dJ5_inflate_da8c8_41 : decode cJ5_inflate_da8c8 41 = .ok (.return_, 1) := by decide +kernel
theorem dJ5_setLength_d00df_0 : decode cJ5_setLength_d00df 0 = .ok (.iload_n 1, 1) := by decide +kernel
theorem dJ5_setLength_d00df_1 : decode cJ5_setLength_d00df 1 = .ok (.ifCond .ge 12, 3) := by decide +kernel
theorem dJ5_setLength_d00df_4 : decode cJ5_setLength_d00df 4 = .ok (.new 129, 3) := by decide +kernel
theorem dJ5_setLength_d00df_7 : decode cJ5_setLength_d00df 7 = .ok (.dup, 1) := by decide +kernel
theorem dJ5_setLength_d00df_8 : decode cJ5_setLength_d00df 8 = .ok (.iload_n 1, 1) := by decide +kernel
theorem dJ5_setLength_d00df_9 : decode cJ5_setLength_d00df 9 = .ok (.invokespecial 131, 3) := by decide +kernel
theorem dJ5_setLength_d00df_12 : decode cJ5_setLength_d00df 12 = .ok (.athrow, 1) := by decide +kernel
theorem dJ5_setLength_d00df_13 : decode cJ5_setLength_d00df 13 = .ok (.aload_n 0, 1) := by decide +kernel
theorem dJ5_setLength_d00df_14 : decode cJ5_setLength_d00df 14 = .ok (.iload_n 1, 1) := by decide +kernel
theorem dJ5_setLength_d00df_15 : decode cJ5_setLength_d00df 15 = .ok (.invokevirtual 100, 3) := by decide +kernel
theorem dJ5_setLength_d00df_18 : decode cJ5_setLength_d00df 18 = .ok (.aload_n 0, 1) := by decide +kernel
theorem dJ5_setLength_d00df_19 : decode cJ5_setLength_d00df 19 = .ok (.getfield 79, 3) := by decide +kernel
theorem dJ5_setLength_d00df_22 : decode cJ5_setLength_d00df 22 = .ok (.iload_n 1, 1) := by decide +kernel
theorem dJ5_setLength_d00df_23 : decode cJ5_setLength_d00df 23 = .ok (.if_icmp .ge 40, 3) := by decide +kernel
theorem dJ5_setLength_d00df_26 : decode cJ5_setLength_d00df 26 = .ok (.aload_n 0, 1) := by decide +kernel
theorem dJ5_setLength_d00df_27 : decode cJ5_setLength_d00df 27 = .ok (.invokevirtual 83, 3) := by decide +kernel
theorem dJ5_setLength_d00df_30 : decode cJ5_setLength_d00df 30 = .ok (.ifCond .eq 18, 3) := by decide +kernel
theorem dJ5_setLength_d00df_33 : decode cJ5_setLength_d00df 33 = .ok (.aload_n 0, 1) := by decide +kernel
theorem dJ5_setLength_d00df_34 : decode cJ5_setLength_d00df 34 = .ok (.getfield 15, 3) := by decide +kernel
theorem dJ5_setLength_d00df_37 : decode cJ5_setLength_d00df 37 = .ok (.aload_n 0, 1) := by decide +kernel
theorem dJ5_setLength_d00df_38 : decode cJ5_setLength_d00df 38 = .ok (.getfield 79, 3) := by decide +kernel
theorem dJ5_setLength_d00df_41 : decode cJ5_setLength_d00df 41 = .ok (.iload_n 1, 1) := by decide +kernel
theorem dJ5_setLength_d00df_42 : decode cJ5_setLength_d00df 42 = .ok (.invokestatic 133, 3) := by decide +kernel
theorem dJ5_setLength_d00df_45 : decode cJ5_setLength_d00df 45 = .ok (.goto 31, 3) := by decide +kernel
theorem dJ5_setLength_d00df_48 : decode cJ5_setLength_d00df 48 = .ok (.aload_n 0, 1) := by decide +kernel
theorem dJ5_setLength_d00df_49 : decode cJ5_setLength_d00df 49 = .ok (.getfield 15, 3) := by decide +kernel
theorem dJ5_setLength_d00df_52 : decode cJ5_setLength_d00df 52 = .ok (.aload_n 0, 1) := by decide +kernel
theorem dJ5_setLength_d00df_53 : decode cJ5_setLength_d00df 53 = .ok (.getfield 79, 3) := by decide +kernel
theorem dJ5_setLength_d00df_56 : decode cJ5_setLength_d00df 56 = .ok (.iload_n 1, 1) := by decide +kernel
theorem dJ5_setLength_d00df_57 : decode cJ5_setLength_d00df 57 = .ok (.invokestatic 137, 3) := by decide +kernel
theorem dJ5_setLength_d00df_60 : decode cJ5_setLength_d00df 60 = .ok (.goto 16, 3) := by decide +kernel
theorem dJ5_setLength_d00df_63 : decode cJ5_setLength_d00df 63 = .ok (.aload_n 0, 1) := by decide +kernel
theorem dJ5_setLength_d00df_64 : decode cJ5_setLength_d00df 64 = .ok (.getfield 79, 3) := by decide +kernel
theorem dJ5_setLength_d00df_67 : decode cJ5_setLength_d00df 67 = .ok (.iload_n 1, 1) := by decide +kernel
theorem dJ5_setLength_d00df_68 : decode cJ5_setLength_d00df 68 = .ok (.if_icmp .le 8, 3) := by decide +kernel
theorem dJ5_setLength_d00df_71 : decode cJ5_setLength_d00df 71 = .ok (.aload_n 0, 1) := by decide +kernel
theorem dJ5_setLength_d00df_72 : decode cJ5_setLength_d00df 72 = .ok (.iconst 1, 1) := by decide +kernel
theorem dJ5_setLength_d00df_73 : decode cJ5_setLength_d00df 73 = .ok (.putfield 73, 3) := by decide +kernel
theorem dJ5_setLength_d00df_76 : decode cJ5_setLength_d00df 76 = .ok (.aload_n 0, 1) := by decide +kernel
theorem dJ5_setLength_d00df_77 : decode cJ5_setLength_d00df 77 = .ok (.iload_n 1, 1) := by decide +kernel
theorem dJ5_setLength_d00df_78 : decode cJ5_setLength_d00df 78 = .ok (.putfield 79, 3) := by decide +kernel
theorem dJ5_setLength_d00df_81 : decode cJ5_setLength_d00df 81 = .ok (.return_, 1) := by decide +kernel
theorem dJ5_charAt_5068e_0 : decode cJ5_charAt_5068e 0 = .ok (.aload_n 0, 1) := by decide +kernel
theorem dJ5_charAt_5068e_1 : decode cJ5_charAt_5068e 1 = .ok (.getfield 22, 3) := by decide +kernel
theorem dJ5_charAt_5068e_4 : decode cJ5_charAt_5068e 4 = .ok (.istore_n 2, 1) := by decide +kernel
theorem dJ5_charAt_5068e_5 : decode cJ5_charAt_5068e 5 = .ok (.aload_n 0, 1) := by decide +kernel
theorem dJ5_charAt_5068e_6 : decode cJ5_charAt_5068e 6 = .ok (.getfield 15, 3) := by decide +kernel
theorem dJ5_charAt_5068e_9 : decode cJ5_charAt_5068e 9 = .ok (.astore_n 3, 1) := by decide +kernel
theorem dJ5_charAt_5068e_10 : decode cJ5_charAt_5068e 10 = .ok (.aload_n 0, 1) := by decide +kernel
theorem dJ5_charAt_5068e_11 : decode cJ5_charAt_5068e 11 = .ok (.getfield 79, 3) := by decide +kernel
theorem dJ5_charAt_5068e_14 : decode cJ5_charAt_5068e 14 = .ok (.aload_n 3, 1) := by decide +kernel
theorem dJ5_charAt_5068e_15 : decode cJ5_charAt_5068e 15 = .ok (.arraylength, 1) := by decide +kernel
theorem dJ5_charAt_5068e_16 : decode cJ5_charAt_5068e 16 = .ok (.iload_n 2, 1) := by decide +kernel
theorem dJ5_charAt_5068e_17 : decode cJ5_charAt_5068e 17 = .ok (.ishr, 1) := by decide +kernel
theorem dJ5_charAt_5068e_18 : decode cJ5_charAt_5068e 18 = .ok (.invokestatic 138, 3) := by decide +kernel
theorem dJ5_charAt_5068e_21 : decode cJ5_charAt_5068e 21 = .ok (.istore 4, 2) := by decide +kernel
theorem dJ5_charAt_5068e_23 : decode cJ5_charAt_5068e 23 = .ok (.iload_n 1, 1) := by decide +kernel
theorem dJ5_charAt_5068e_24 : decode cJ5_charAt_5068e 24 = .ok (.iload 4, 2) := by decide +kernel
theorem dJ5_charAt_5068e_26 : decode cJ5_charAt_5068e 26 = .ok (.invokestatic 144, 3) := by decide +kernel
theorem dJ5_charAt_5068e_29 : decode cJ5_charAt_5068e 29 = .ok (.iload_n 2, 1) := by decide +kernel
theorem dJ5_charAt_5068e_30 : decode cJ5_charAt_5068e 30 = .ok (.ifCond .ne 12, 3) := by decide +kernel
theorem dJ5_charAt_5068e_33 : decode cJ5_charAt_5068e 33 = .ok (.aload_n 3, 1) := by decide +kernel
theorem dJ5_charAt_5068e_34 : decode cJ5_charAt_5068e 34 = .ok (.iload_n 1, 1) := by decide +kernel
theorem dJ5_charAt_5068e_35 : decode cJ5_charAt_5068e 35 = .ok (.baload, 1) := by decide +kernel
theorem dJ5_charAt_5068e_36 : decode cJ5_charAt_5068e 36 = .ok (.sipush 255, 3) := by decide +kernel
theorem dJ5_charAt_5068e_39 : decode cJ5_charAt_5068e 39 = .ok (.iand, 1) := by decide +kernel
theorem dJ5_charAt_5068e_40 : decode cJ5_charAt_5068e 40 = .ok (.i2c, 1) := by decide +kernel
theorem dJ5_charAt_5068e_41 : decode cJ5_charAt_5068e 41 = .ok (.ireturn, 1) := by decide +kernel
theorem dJ5_charAt_5068e_42 : decode cJ5_charAt_5068e 42 = .ok (.aload_n 3, 1) := by decide +kernel
theorem dJ5_charAt_5068e_43 : decode cJ5_charAt_5068e 43 = .ok (.iload_n 1, 1) := by decide +kernel
theorem dJ5_charAt_5068e_44 : decode cJ5_charAt_5068e 44 = .ok (.invokestatic 148, 3) := by decide +kernel
theorem dJ5_charAt_5068e_47 : decode cJ5_charAt_5068e 47 = .ok (.ireturn, 1) := by decide +kernel
theorem dJ5_append_cf1ce_0 : decode cJ5_append_cf1ce 0 = .ok (.aload_n 1, 1) := by decide +kernel
theorem dJ5_append_cf1ce_1 : decode cJ5_append_cf1ce 1 = .ok (.ifnonnull 8, 3) := by decide +kernel
theorem dJ5_append_cf1ce_4 : decode cJ5_append_cf1ce 4 = .ok (.aload_n 0, 1) := by decide +kernel
theorem dJ5_append_cf1ce_5 : decode cJ5_append_cf1ce 5 = .ok (.invokevirtual 204, 3) := by decide +kernel
theorem dJ5_append_cf1ce_8 : decode cJ5_append_cf1ce 8 = .ok (.areturn, 1) := by decide +kernel
theorem dJ5_append_cf1ce_9 : decode cJ5_append_cf1ce 9 = .ok (.aload_n 1, 1) := by decide +kernel
theorem dJ5_append_cf1ce_10 : decode cJ5_append_cf1ce 10 = .ok (.invokevirtual 32, 3) := by decide +kernel
theorem dJ5_append_cf1ce_13 : decode cJ5_append_cf1ce 13 = .ok (.istore_n 2, 1) := by decide +kernel
theorem dJ5_append_cf1ce_14 : decode cJ5_append_cf1ce 14 = .ok (.aload_n 0, 1) := by decide +kernel
theorem dJ5_append_cf1ce_15 : decode cJ5_append_cf1ce 15 = .ok (.aload_n 0, 1) := by decide +kernel
theorem dJ5_append_cf1ce_16 : decode cJ5_append_cf1ce 16 = .ok (.getfield 79, 3) := by decide +kernel
theorem dJ5_append_cf1ce_19 : decode cJ5_append_cf1ce 19 = .ok (.iload_n 2, 1) := by decide +kernel
theorem dJ5_append_cf1ce_20 : decode cJ5_append_cf1ce 20 = .ok (.iadd, 1) := by decide +kernel
theorem dJ5_append_cf1ce_21 : decode cJ5_append_cf1ce 21 = .ok (.invokevirtual 100, 3) := by decide +kernel
theorem dJ5_append_cf1ce_24 : decode cJ5_append_cf1ce 24 = .ok (.aload_n 0, 1) := by decide +kernel
theorem dJ5_append_cf1ce_25 : decode cJ5_append_cf1ce 25 = .ok (.aload_n 0, 1) := by decide +kernel
theorem dJ5_append_cf1ce_26 : decode cJ5_append_cf1ce 26 = .ok (.getfield 79, 3) := by decide +kernel
theorem dJ5_append_cf1ce_29 : decode cJ5_append_cf1ce 29 = .ok (.aload_n 1, 1) := by decide +kernel
theorem dJ5_append_cf1ce_30 : decode cJ5_append_cf1ce 30 = .ok (.invokevirtual 208, 3) := by decide +kernel
theorem dJ5_append_cf1ce_33 : decode cJ5_append_cf1ce 33 = .ok (.aload_n 0, 1) := by decide +kernel
theorem dJ5_append_cf1ce_34 : decode cJ5_append_cf1ce 34 = .ok (.dup, 1) := by decide +kernel
theorem dJ5_append_cf1ce_35 : decode cJ5_append_cf1ce 35 = .ok (.getfield 79, 3) := by decide +kernel
theorem dJ5_append_cf1ce_38 : decode cJ5_append_cf1ce 38 = .ok (.iload_n 2, 1) := by decide +kernel
theorem dJ5_append_cf1ce_39 : decode cJ5_append_cf1ce 39 = .ok (.iadd, 1) := by decide +kernel
theorem dJ5_append_cf1ce_40 : decode cJ5_append_cf1ce 40 = .ok (.putfield 79, 3) := by decide +kernel
theorem dJ5_append_cf1ce_43 : decode cJ5_append_cf1ce 43 = .ok (.aload_n 0, 1) := by decide +kernel
theorem dJ5_append_cf1ce_44 : decode cJ5_append_cf1ce 44 = .ok (.areturn, 1) := by decide +kernel
theorem dJ5_appendNull_278bc_0 : decode cJ5_appendNull_278bc 0 = .ok (.aload_n 0, 1) := by decide +kernel
theorem dJ5_appendNull_278bc_1 : decode cJ5_appendNull_278bc 1 = .ok (.aload_n 0, 1) := by decide +kernel
theorem dJ5_appendNull_278bc_2 : decode cJ5_appendNull_278bc 2 = .ok (.getfield 79, 3) := by decide +kernel
theorem dJ5_appendNull_278bc_5 : decode cJ5_appendNull_278bc 5 = .ok (.iconst 4, 1) := by decide +kernel
theorem dJ5_appendNull_278bc_6 : decode cJ5_appendNull_278bc 6 = .ok (.iadd, 1) := by decide +kernel
theorem dJ5_appendNull_278bc_7 : decode cJ5_appendNull_278bc 7 = .ok (.invokevirtual 100, 3) := by decide +kernel
theorem dJ5_appendNull_278bc_10 : decode cJ5_appendNull_278bc 10 = .ok (.aload_n 0, 1) := by decide +kernel
theorem dJ5_appendNull_278bc_11 : decode cJ5_appendNull_278bc 11 = .ok (.getfield 79, 3) := by decide +kernel
theorem dJ5_appendNull_278bc_14 : decode cJ5_appendNull_278bc 14 = .ok (.istore_n 1, 1) := by decide +kernel
theorem dJ5_appendNull_278bc_15 : decode cJ5_appendNull_278bc 15 = .ok (.aload_n 0, 1) := by decide +kernel
theorem dJ5_appendNull_278bc_16 : decode cJ5_appendNull_278bc 16 = .ok (.getfield 15, 3) := by decide +kernel
theorem dJ5_appendNull_278bc_19 : decode cJ5_appendNull_278bc 19 = .ok (.astore_n 2, 1) := by decide +kernel
theorem dJ5_appendNull_278bc_20 : decode cJ5_appendNull_278bc 20 = .ok (.aload_n 0, 1) := by decide +kernel
theorem dJ5_appendNull_278bc_21 : decode cJ5_appendNull_278bc 21 = .ok (.invokevirtual 83, 3) := by decide +kernel
theorem dJ5_appendNull_278bc_24 : decode cJ5_appendNull_278bc 24 = .ok (.ifCond .eq 38, 3) := by decide +kernel
theorem dJ5_appendNull_278bc_27 : decode cJ5_appendNull_278bc 27 = .ok (.aload_n 2, 1) := by decide +kernel
theorem dJ5_appendNull_278bc_28 : decode cJ5_appendNull_278bc 28 = .ok (.iload_n 1, 1) := by decide +kernel
theorem dJ5_appendNull_278bc_29 : decode cJ5_appendNull_278bc 29 = .ok (.iinc 1 1, 3) := by decide +kernel
theorem dJ5_appendNull_278bc_32 : decode cJ5_appendNull_278bc 32 = .ok (.bipush 110, 2) := by decide +kernel
theorem dJ5_appendNull_278bc_34 : decode cJ5_appendNull_278bc 34 = .ok (.bastore, 1) := by decide +kernel
theorem dJ5_appendNull_278bc_35 : decode cJ5_appendNull_278bc 35 = .ok (.aload_n 2, 1) := by decide +kernel
theorem dJ5_appendNull_278bc_36 : decode cJ5_appendNull_278bc 36 = .ok (.iload_n 1, 1) := by decide +kernel
theorem dJ5_appendNull_278bc_37 : decode cJ5_appendNull_278bc 37 = .ok (.iinc 1 1, 3) := by decide +kernel
theorem dJ5_appendNull_278bc_40 : decode cJ5_appendNull_278bc 40 = .ok (.bipush 117, 2) := by decide +kernel
theorem dJ5_appendNull_278bc_42 : decode cJ5_appendNull_278bc 42 = .ok (.bastore, 1) := by decide +kernel
theorem dJ5_appendNull_278bc_43 : decode cJ5_appendNull_278bc 43 = .ok (.aload_n 2, 1) := by decide +kernel
theorem dJ5_appendNull_278bc_44 : decode cJ5_appendNull_278bc 44 = .ok (.iload_n 1, 1) := by decide +kernel
theorem dJ5_appendNull_278bc_45 : decode cJ5_appendNull_278bc 45 = .ok (.iinc 1 1, 3) := by decide +kernel
theorem dJ5_appendNull_278bc_48 : decode cJ5_appendNull_278bc 48 = .ok (.bipush 108, 2) := by decide +kernel
theorem dJ5_appendNull_278bc_50 : decode cJ5_appendNull_278bc 50 = .ok (.bastore, 1) := by decide +kernel
theorem dJ5_appendNull_278bc_51 : decode cJ5_appendNull_278bc 51 = .ok (.aload_n 2, 1) := by decide +kernel
theorem dJ5_appendNull_278bc_52 : decode cJ5_appendNull_278bc 52 = .ok (.iload_n 1, 1) := by decide +kernel
theorem dJ5_appendNull_278bc_53 : decode cJ5_appendNull_278bc 53 = .ok (.iinc 1 1, 3) := by decide +kernel
theorem dJ5_appendNull_278bc_56 : decode cJ5_appendNull_278bc 56 = .ok (.bipush 108, 2) := by decide +kernel
theorem dJ5_appendNull_278bc_58 : decode cJ5_appendNull_278bc 58 = .ok (.bastore, 1) := by decide +kernel
theorem dJ5_appendNull_278bc_59 : decode cJ5_appendNull_278bc 59 = .ok (.goto 17, 3) := by decide +kernel
theorem dJ5_appendNull_278bc_62 : decode cJ5_appendNull_278bc 62 = .ok (.aload_n 2, 1) := by decide +kernel
theorem dJ5_appendNull_278bc_63 : decode cJ5_appendNull_278bc 63 = .ok (.iload_n 1, 1) := by decide +kernel
theorem dJ5_appendNull_278bc_64 : decode cJ5_appendNull_278bc 64 = .ok (.bipush 110, 2) := by decide +kernel
theorem dJ5_appendNull_278bc_66 : decode cJ5_appendNull_278bc 66 = .ok (.bipush 117, 2) := by decide +kernel
theorem dJ5_appendNull_278bc_68 : decode cJ5_appendNull_278bc 68 = .ok (.bipush 108, 2) := by decide +kernel
theorem dJ5_appendNull_278bc_70 : decode cJ5_appendNull_278bc 70 = .ok (.bipush 108, 2) := by decide +kernel
theorem dJ5_appendNull_278bc_72 : decode cJ5_appendNull_278bc 72 = .ok (.invokestatic 226, 3) := by decide +kernel
theorem dJ5_appendNull_278bc_75 : decode cJ5_appendNull_278bc 75 = .ok (.istore_n 1, 1) := by decide +kernel
theorem dJ5_appendNull_278bc_76 : decode cJ5_appendNull_278bc 76 = .ok (.aload_n 0, 1) := by decide +kernel
theorem dJ5_appendNull_278bc_77 : decode cJ5_appendNull_278bc 77 = .ok (.iload_n 1, 1) := by decide +kernel
theorem dJ5_appendNull_278bc_78 : decode cJ5_appendNull_278bc 78 = .ok (.putfield 79, 3) := by decide +kernel
theorem dJ5_appendNull_278bc_81 : decode cJ5_appendNull_278bc 81 = .ok (.aload_n 0, 1) := by decide +kernel
theorem dJ5_appendNull_278bc_82 : decode cJ5_appendNull_278bc 82 = .ok (.areturn, 1) := by decide +kernel
theorem dJ5_append_3fe6f_0 : decode cJ5_append_3fe6f 0 = .ok (.aload_n 0, 1) := by decide +kernel
theorem dJ5_append_3fe6f_1 : decode cJ5_append_3fe6f 1 = .ok (.aload_n 0, 1) := by decide +kernel
theorem dJ5_append_3fe6f_2 : decode cJ5_append_3fe6f 2 = .ok (.getfield 79, 3) := by decide +kernel
theorem dJ5_append_3fe6f_5 : decode cJ5_append_3fe6f 5 = .ok (.iconst 1, 1) := by decide +kernel
theorem dJ5_append_3fe6f_6 : decode cJ5_append_3fe6f 6 = .ok (.iadd, 1) := by decide +kernel
theorem dJ5_append_3fe6f_7 : decode cJ5_append_3fe6f 7 = .ok (.invokevirtual 100, 3) := by decide +kernel
theorem dJ5_append_3fe6f_10 : decode cJ5_append_3fe6f 10 = .ok (.aload_n 0, 1) := by decide +kernel
theorem dJ5_append_3fe6f_11 : decode cJ5_append_3fe6f 11 = .ok (.invokevirtual 83, 3) := by decide +kernel
theorem dJ5_append_3fe6f_14 : decode cJ5_append_3fe6f 14 = .ok (.ifCond .eq 31, 3) := by decide +kernel
theorem dJ5_append_3fe6f_17 : decode cJ5_append_3fe6f 17 = .ok (.iload_n 1, 1) := by decide +kernel
theorem dJ5_append_3fe6f_18 : decode cJ5_append_3fe6f 18 = .ok (.invokestatic 191, 3) := by decide +kernel
theorem dJ5_append_3fe6f_21 : decode cJ5_append_3fe6f 21 = .ok (.ifCond .eq 24, 3) := by decide +kernel
theorem dJ5_append_3fe6f_24 : decode cJ5_append_3fe6f 24 = .ok (.aload_n 0, 1) := by decide +kernel
theorem dJ5_append_3fe6f_25 : decode cJ5_append_3fe6f 25 = .ok (.getfield 15, 3) := by decide +kernel
theorem dJ5_append_3fe6f_28 : decode cJ5_append_3fe6f 28 = .ok (.aload_n 0, 1) := by decide +kernel
theorem dJ5_append_3fe6f_29 : decode cJ5_append_3fe6f 29 = .ok (.dup, 1) := by decide +kernel
theorem dJ5_append_3fe6f_30 : decode cJ5_append_3fe6f 30 = .ok (.getfield 79, 3) := by decide +kernel
theorem dJ5_append_3fe6f_33 : decode cJ5_append_3fe6f 33 = .ok (.dup_x1, 1) := by decide +kernel
theorem dJ5_append_3fe6f_34 : decode cJ5_append_3fe6f 34 = .ok (.iconst 1, 1) := by decide +kernel
theorem dJ5_append_3fe6f_35 : decode cJ5_append_3fe6f 35 = .ok (.iadd, 1) := by decide +kernel
theorem dJ5_append_3fe6f_36 : decode cJ5_append_3fe6f 36 = .ok (.putfield 79, 3) := by decide +kernel
theorem dJ5_append_3fe6f_39 : decode cJ5_append_3fe6f 39 = .ok (.iload_n 1, 1) := by decide +kernel
theorem dJ5_append_3fe6f_40 : decode cJ5_append_3fe6f 40 = .ok (.i2b, 1) := by decide +kernel
theorem dJ5_append_3fe6f_41 : decode cJ5_append_3fe6f 41 = .ok (.bastore, 1) := by decide +kernel
theorem dJ5_append_3fe6f_42 : decode cJ5_append_3fe6f 42 = .ok (.goto 33, 3) := by decide +kernel
theorem dJ5_append_3fe6f_45 : decode cJ5_append_3fe6f 45 = .ok (.aload_n 0, 1) := by decide +kernel
theorem dJ5_append_3fe6f_46 : decode cJ5_append_3fe6f 46 = .ok (.invokevirtual 83, 3) := by decide +kernel
theorem dJ5_append_3fe6f_49 : decode cJ5_append_3fe6f 49 = .ok (.ifCond .eq 7, 3) := by decide +kernel
theorem dJ5_append_3fe6f_52 : decode cJ5_append_3fe6f 52 = .ok (.aload_n 0, 1) := by decide +kernel
theorem dJ5_append_3fe6f_53 : decode cJ5_append_3fe6f 53 = .ok (.invokevirtual 195, 3) := by decide +kernel
theorem dJ5_append_3fe6f_56 : decode cJ5_append_3fe6f 56 = .ok (.aload_n 0, 1) := by decide +kernel
theorem dJ5_append_3fe6f_57 : decode cJ5_append_3fe6f 57 = .ok (.getfield 15, 3) := by decide +kernel
theorem dJ5_append_3fe6f_60 : decode cJ5_append_3fe6f 60 = .ok (.aload_n 0, 1) := by decide +kernel
theorem dJ5_append_3fe6f_61 : decode cJ5_append_3fe6f 61 = .ok (.dup, 1) := by decide +kernel
theorem dJ5_append_3fe6f_62 : decode cJ5_append_3fe6f 62 = .ok (.getfield 79, 3) := by decide +kernel
theorem dJ5_append_3fe6f_65 : decode cJ5_append_3fe6f 65 = .ok (.dup_x1, 1) := by decide +kernel
theorem dJ5_append_3fe6f_66 : decode cJ5_append_3fe6f 66 = .ok (.iconst 1, 1) := by decide +kernel
theorem dJ5_append_3fe6f_67 : decode cJ5_append_3fe6f 67 = .ok (.iadd, 1) := by decide +kernel
theorem dJ5_append_3fe6f_68 : decode cJ5_append_3fe6f 68 = .ok (.putfield 79, 3) := by decide +kernel
theorem dJ5_append_3fe6f_71 : decode cJ5_append_3fe6f 71 = .ok (.iload_n 1, 1) := by decide +kernel
theorem dJ5_append_3fe6f_72 : decode cJ5_append_3fe6f 72 = .ok (.invokestatic 197, 3) := by decide +kernel
theorem dJ5_append_3fe6f_75 : decode cJ5_append_3fe6f 75 = .ok (.aload_n 0, 1) := by decide +kernel
theorem dJ5_append_3fe6f_76 : decode cJ5_append_3fe6f 76 = .ok (.areturn, 1) := by decide +kernel
theorem dJ5_append_c97b9_0 : decode cJ5_append_c97b9 0 = .ok (.aload_n 0, 1) := by decide +kernel
theorem dJ5_append_c97b9_1 : decode cJ5_append_c97b9 1 = .ok (.getfield 79, 3) := by decide +kernel
theorem dJ5_append_c97b9_4 : decode cJ5_append_c97b9 4 = .ok (.istore_n 2, 1) := by decide +kernel
theorem dJ5_append_c97b9_5 : decode cJ5_append_c97b9 5 = .ok (.iload_n 2, 1) := by decide +kernel
theorem dJ5_append_c97b9_6 : decode cJ5_append_c97b9 6 = .ok (.iload_n 1, 1) := by decide +kernel
theorem dJ5_append_c97b9_7 : decode cJ5_append_c97b9 7 = .ok (.invokestatic 245, 3) := by decide +kernel
theorem dJ5_append_c97b9_10 : decode cJ5_append_c97b9 10 = .ok (.iadd, 1) := by decide +kernel
theorem dJ5_append_c97b9_11 : decode cJ5_append_c97b9 11 = .ok (.istore_n 3, 1) := by decide +kernel
theorem dJ5_append_c97b9_12 : decode cJ5_append_c97b9 12 = .ok (.aload_n 0, 1) := by decide +kernel
theorem dJ5_append_c97b9_13 : decode cJ5_append_c97b9 13 = .ok (.iload_n 3, 1) := by decide +kernel
theorem dJ5_append_c97b9_14 : decode cJ5_append_c97b9 14 = .ok (.invokevirtual 100, 3) := by decide +kernel
theorem dJ5_append_c97b9_17 : decode cJ5_append_c97b9 17 = .ok (.aload_n 0, 1) := by decide +kernel
theorem dJ5_append_c97b9_18 : decode cJ5_append_c97b9 18 = .ok (.invokevirtual 83, 3) := by decide +kernel
theorem dJ5_append_c97b9_21 : decode cJ5_append_c97b9 21 = .ok (.ifCond .eq 16, 3) := by decide +kernel
theorem dJ5_append_c97b9_24 : decode cJ5_append_c97b9 24 = .ok (.iload_n 1, 1) := by decide +kernel
theorem dJ5_append_c97b9_25 : decode cJ5_append_c97b9 25 = .ok (.iload_n 3, 1) := by decide +kernel
theorem dJ5_append_c97b9_26 : decode cJ5_append_c97b9 26 = .ok (.aload_n 0, 1) := by decide +kernel
theorem dJ5_append_c97b9_27 : decode cJ5_append_c97b9 27 = .ok (.getfield 15, 3) := by decide +kernel
theorem dJ5_append_c97b9_30 : decode cJ5_append_c97b9 30 = .ok (.invokestatic 248, 3) := by decide +kernel
theorem dJ5_append_c97b9_33 : decode cJ5_append_c97b9 33 = .ok (.pop, 1) := by decide +kernel
theorem dJ5_append_c97b9_34 : decode cJ5_append_c97b9 34 = .ok (.goto 14, 3) := by decide +kernel
theorem dJ5_append_c97b9_37 : decode cJ5_append_c97b9 37 = .ok (.iload_n 1, 1) := by decide +kernel
theorem dJ5_append_c97b9_38 : decode cJ5_append_c97b9 38 = .ok (.iload_n 2, 1) := by decide +kernel
theorem dJ5_append_c97b9_39 : decode cJ5_append_c97b9 39 = .ok (.iload_n 3, 1) := by decide +kernel
theorem dJ5_append_c97b9_40 : decode cJ5_append_c97b9 40 = .ok (.aload_n 0, 1) := by decide +kernel
theorem dJ5_append_c97b9_41 : decode cJ5_append_c97b9 41 = .ok (.getfield 15, 3) := by decide +kernel
theorem dJ5_append_c97b9_44 : decode cJ5_append_c97b9 44 = .ok (.invokestatic 251, 3) := by decide +kernel
theorem dJ5_append_c97b9_47 : decode cJ5_append_c97b9 47 = .ok (.pop, 1) := by decide +kernel
theorem dJ5_append_c97b9_48 : decode cJ5_append_c97b9 48 = .ok (.aload_n 0, 1) := by decide +kernel
theorem dJ5_append_c97b9_49 : decode cJ5_append_c97b9 49 = .ok (.iload_n 3, 1) := by decide +kernel
theorem dJ5_append_c97b9_50 : decode cJ5_append_c97b9 50 = .ok (.putfield 79, 3) := by decide +kernel
theorem dJ5_append_c97b9_53 : decode cJ5_append_c97b9 53 = .ok (.aload_n 0, 1) := by decide +kernel
theorem dJ5_append_c97b9_54 : decode cJ5_append_c97b9 54 = .ok (.areturn, 1) := by decide +kernel
theorem dJ5_isLatin1_aae02_0 : decode cJ5_isLatin1_aae02 0 = .ok (.getstatic 18, 3) := by decide +kernel
theorem dJ5_isLatin1_aae02_3 : decode cJ5_isLatin1_aae02 3 = .ok (.ifCond .eq 14, 3) := by decide +kernel
theorem dJ5_isLatin1_aae02_6 : decode cJ5_isLatin1_aae02 6 = .ok (.aload_n 0, 1) := by decide +kernel
theorem dJ5_isLatin1_aae02_7 : decode cJ5_isLatin1_aae02 7 = .ok (.getfield 22, 3) := by decide +kernel
theorem dJ5_isLatin1_aae02_10 : decode cJ5_isLatin1_aae02 10 = .ok (.ifCond .ne 7, 3) := by decide +kernel
theorem dJ5_isLatin1_aae02_13 : decode cJ5_isLatin1_aae02 13 = .ok (.iconst 1, 1) := by decide +kernel
theorem dJ5_isLatin1_aae02_14 : decode cJ5_isLatin1_aae02 14 = .ok (.goto 4, 3) := by decide +kernel
theorem dJ5_isLatin1_aae02_17 : decode cJ5_isLatin1_aae02 17 = .ok (.iconst 0, 1) := by decide +kernel
theorem dJ5_isLatin1_aae02_18 : decode cJ5_isLatin1_aae02 18 = .ok (.ireturn, 1) := by decide +kernel
theorem dJ5_inflateIfNeededFor_a7421_0 : decode cJ5_inflateIfNeededFor_a7421 0 = .ok (.getstatic 18, 3) := by decide +kernel
theorem dJ5_inflateIfNeededFor_a7421_3 : decode cJ5_inflateIfNeededFor_a7421 3 = .ok (.ifCond .eq 18, 3) := by decide +kernel
theorem dJ5_inflateIfNeededFor_a7421_6 : decode cJ5_inflateIfNeededFor_a7421 6 = .ok (.aload_n 0, 1) := by decide +kernel
theorem dJ5_inflateIfNeededFor_a7421_7 : decode cJ5_inflateIfNeededFor_a7421 7 = .ok (.getfield 22, 3) := by decide +kernel
theorem dJ5_inflateIfNeededFor_a7421_10 : decode cJ5_inflateIfNeededFor_a7421 10 = .ok (.aload_n 1, 1) := by decide +kernel
theorem dJ5_inflateIfNeededFor_a7421_11 : decode cJ5_inflateIfNeededFor_a7421 11 = .ok (.invokevirtual 40, 3) := by decide +kernel
theorem dJ5_inflateIfNeededFor_a7421_14 : decode cJ5_inflateIfNeededFor_a7421 14 = .ok (.if_icmp .eq 7, 3) := by decide +kernel
theorem dJ5_inflateIfNeededFor_a7421_17 : decode cJ5_inflateIfNeededFor_a7421 17 = .ok (.aload_n 0, 1) := by decide +kernel
theorem dJ5_inflateIfNeededFor_a7421_18 : decode cJ5_inflateIfNeededFor_a7421 18 = .ok (.invokevirtual 195, 3) := by decide +kernel
theorem dJ5_inflateIfNeededFor_a7421_21 : decode cJ5_inflateIfNeededFor_a7421 21 = .ok (.return_, 1) := by decide +kernel
theorem dJ5_putStringAt_47b60_0 : decode cJ5_putStringAt_47b60 0 = .ok (.aload_n 0, 1) := by decide +kernel
theorem dJ5_putStringAt_47b60_1 : decode cJ5_putStringAt_47b60 1 = .ok (.aload_n 2, 1) := by decide +kernel
theorem dJ5_putStringAt_47b60_2 : decode cJ5_putStringAt_47b60 2 = .ok (.invokevirtual 397, 3) := by decide +kernel
theorem dJ5_putStringAt_47b60_5 : decode cJ5_putStringAt_47b60 5 = .ok (.aload_n 2, 1) := by decide +kernel
theorem dJ5_putStringAt_47b60_6 : decode cJ5_putStringAt_47b60 6 = .ok (.aload_n 0, 1) := by decide +kernel
theorem dJ5_putStringAt_47b60_7 : decode cJ5_putStringAt_47b60 7 = .ok (.getfield 15, 3) := by decide +kernel
theorem dJ5_putStringAt_47b60_10 : decode cJ5_putStringAt_47b60 10 = .ok (.iload_n 1, 1) := by decide +kernel
theorem dJ5_putStringAt_47b60_11 : decode cJ5_putStringAt_47b60 11 = .ok (.aload_n 0, 1) := by decide +kernel
theorem dJ5_putStringAt_47b60_12 : decode cJ5_putStringAt_47b60 12 = .ok (.getfield 22, 3) := by decide +kernel
theorem dJ5_putStringAt_47b60_15 : decode cJ5_putStringAt_47b60 15 = .ok (.invokevirtual 399, 3) := by decide +kernel
theorem dJ5_putStringAt_47b60_18 : decode cJ5_putStringAt_47b60 18 = .ok (.return_, 1) := by decide +kernel
theorem dJ6_getChars_ba4f3_0 : decode cJ6_getChars_ba4f3 0 = .ok (.iload_n 1, 1) := by decide +kernel
theorem dJ6_getChars_ba4f3_1 : decode cJ6_getChars_ba4f3 1 = .ok (.istore 5, 2) := by decide +kernel
theorem dJ6_getChars_ba4f3_3 : decode cJ6_getChars_ba4f3 3 = .ok (.iload_n 0, 1) := by decide +kernel
theorem dJ6_getChars_ba4f3_4 : decode cJ6_getChars_ba4f3 4 = .ok (.ifCond .ge 7, 3) := by decide +kernel
theorem dJ6_getChars_ba4f3_7 : decode cJ6_getChars_ba4f3 7 = .ok (.iconst 1, 1) := by decide +kernel
theorem dJ6_getChars_ba4f3_8 : decode cJ6_getChars_ba4f3 8 = .ok (.goto 4, 3) := by decide +kernel
theorem dJ6_getChars_ba4f3_11 : decode cJ6_getChars_ba4f3 11 = .ok (.iconst 0, 1) := by decide +kernel
theorem dJ6_getChars_ba4f3_12 : decode cJ6_getChars_ba4f3 12 = .ok (.istore 6, 2) := by decide +kernel
theorem dJ6_getChars_ba4f3_14 : decode cJ6_getChars_ba4f3 14 = .ok (.iload 6, 2) := by decide +kernel
theorem dJ6_getChars_ba4f3_16 : decode cJ6_getChars_ba4f3 16 = .ok (.ifCond .ne 6, 3) := by decide +kernel
theorem dJ6_getChars_ba4f3_19 : decode cJ6_getChars_ba4f3 19 = .ok (.iload_n 0, 1) := by decide +kernel
theorem dJ6_getChars_ba4f3_20 : decode cJ6_getChars_ba4f3 20 = .ok (.ineg, 1) := by decide +kernel
theorem dJ6_getChars_ba4f3_21 : decode cJ6_getChars_ba4f3 21 = .ok (.istore_n 0, 1) := by decide +kernel
theorem dJ6_getChars_ba4f3_22 : decode cJ6_getChars_ba4f3 22 = .ok (.iload_n 0, 1) := by decide +kernel
theorem dJ6_getChars_ba4f3_23 : decode cJ6_getChars_ba4f3 23 = .ok (.bipush (-100), 2) := by decide +kernel
theorem dJ6_getChars_ba4f3_25 : decode cJ6_getChars_ba4f3 25 = .ok (.if_icmp .gt 47, 3) := by decide +kernel
theorem dJ6_getChars_ba4f3_28 : decode cJ6_getChars_ba4f3 28 = .ok (.iload_n 0, 1) := by decide +kernel
theorem dJ6_getChars_ba4f3_29 : decode cJ6_getChars_ba4f3 29 = .ok (.bipush 100, 2) := by decide +kernel
theorem dJ6_getChars_ba4f3_31 : decode cJ6_getChars_ba4f3 31 = .ok (.idiv, 1) := by decide +kernel
theorem dJ6_getChars_ba4f3_32 : decode cJ6_getChars_ba4f3 32 = .ok (.istore_n 3, 1) := by decide +kernel
theorem dJ6_getChars_ba4f3_33 : decode cJ6_getChars_ba4f3 33 = .ok (.iload_n 3, 1) := by decide +kernel
theorem dJ6_getChars_ba4f3_34 : decode cJ6_getChars_ba4f3 34 = .ok (.bipush 100, 2) := by decide +kernel
theorem dJ6_getChars_ba4f3_36 : decode cJ6_getChars_ba4f3 36 = .ok (.imul, 1) := by decide +kernel
theorem dJ6_getChars_ba4f3_37 : decode cJ6_getChars_ba4f3 37 = .ok (.iload_n 0, 1) := by decide +kernel
theorem dJ6_getChars_ba4f3_38 : decode cJ6_getChars_ba4f3 38 = .ok (.isub, 1) := by decide +kernel
theorem dJ6_getChars_ba4f3_39 : decode cJ6_getChars_ba4f3 39 = .ok (.istore 4, 2) := by decide +kernel
theorem dJ6_getChars_ba4f3_41 : decode cJ6_getChars_ba4f3 41 = .ok (.iload_n 3, 1) := by decide +kernel
theorem dJ6_getChars_ba4f3_42 : decode cJ6_getChars_ba4f3 42 = .ok (.istore_n 0, 1) := by decide +kernel
theorem dJ6_getChars_ba4f3_43 : decode cJ6_getChars_ba4f3 43 = .ok (.aload_n 2, 1) := by decide +kernel
theorem dJ6_getChars_ba4f3_44 : decode cJ6_getChars_ba4f3 44 = .ok (.iinc 5 (-1), 3) := by decide +kernel
theorem dJ6_getChars_ba4f3_47 : decode cJ6_getChars_ba4f3 47 = .ok (.iload 5, 2) := by decide +kernel
theorem dJ6_getChars_ba4f3_49 : decode cJ6_getChars_ba4f3 49 = .ok (.getstatic 83, 3) := by decide +kernel
theorem dJ6_getChars_ba4f3_52 : decode cJ6_getChars_ba4f3 52 = .ok (.iload 4, 2) := by decide +kernel
theorem dJ6_getChars_ba4f3_54 : decode cJ6_getChars_ba4f3 54 = .ok (.baload, 1) := by decide +kernel
theorem dJ6_getChars_ba4f3_55 : decode cJ6_getChars_ba4f3 55 = .ok (.bastore, 1) := by decide +kernel
theorem dJ6_getChars_ba4f3_56 : decode cJ6_getChars_ba4f3 56 = .ok (.aload_n 2, 1) := by decide +kernel
theorem dJ6_getChars_ba4f3_57 : decode cJ6_getChars_ba4f3 57 = .ok (.iinc 5 (-1), 3) := by decide +kernel
theorem dJ6_getChars_ba4f3_60 : decode cJ6_getChars_ba4f3 60 = .ok (.iload 5, 2) := by decide +kernel
theorem dJ6_getChars_ba4f3_62 : decode cJ6_getChars_ba4f3 62 = .ok (.getstatic 87, 3) := by decide +kernel
theorem dJ6_getChars_ba4f3_65 : decode cJ6_getChars_ba4f3 65 = .ok (.iload 4, 2) := by decide +kernel
theorem dJ6_getChars_ba4f3_67 : decode cJ6_getChars_ba4f3 67 = .ok (.baload, 1) := by decide +kernel
theorem dJ6_getChars_ba4f3_68 : decode cJ6_getChars_ba4f3 68 = .ok (.bastore, 1) := by decide +kernel
theorem dJ6_getChars_ba4f3_69 : decode cJ6_getChars_ba4f3 69 = .ok (.goto (-47), 3) := by decide +kernel
theorem dJ6_getChars_ba4f3_72 : decode cJ6_getChars_ba4f3 72 = .ok (.aload_n 2, 1) := by decide +kernel
theorem dJ6_getChars_ba4f3_73 : decode cJ6_getChars_ba4f3 73 = .ok (.iinc 5 (-1), 3) := by decide +kernel
theorem dJ6_getChars_ba4f3_76 : decode cJ6_getChars_ba4f3 76 = .ok (.iload 5, 2) := by decide +kernel
theorem dJ6_getChars_ba4f3_78 : decode cJ6_getChars_ba4f3 78 = .ok (.getstatic 83, 3) := by decide +kernel
theorem dJ6_getChars_ba4f3_81 : decode cJ6_getChars_ba4f3 81 = .ok (.iload_n 0, 1) := by decide +kernel
theorem dJ6_getChars_ba4f3_82 : decode cJ6_getChars_ba4f3 82 = .ok (.ineg, 1) := by decide +kernel
theorem dJ6_getChars_ba4f3_83 : decode cJ6_getChars_ba4f3 83 = .ok (.baload, 1) := by decide +kernel
theorem dJ6_getChars_ba4f3_84 : decode cJ6_getChars_ba4f3 84 = .ok (.bastore, 1) := by decide +kernel
theorem dJ6_getChars_ba4f3_85 : decode cJ6_getChars_ba4f3 85 = .ok (.iload_n 0, 1) := by decide +kernel
theorem dJ6_getChars_ba4f3_86 : decode cJ6_getChars_ba4f3 86 = .ok (.bipush (-9), 2) := by decide +kernel
theorem dJ6_getChars_ba4f3_88 : decode cJ6_getChars_ba4f3 88 = .ok (.if_icmp .ge 16, 3) := by decide +kernel
theorem dJ6_getChars_ba4f3_91 : decode cJ6_getChars_ba4f3 91 = .ok (.aload_n 2, 1) := by decide +kernel
theorem dJ6_getChars_ba4f3_92 : decode cJ6_getChars_ba4f3 92 = .ok (.iinc 5 (-1), 3) := by decide +kernel
theorem dJ6_getChars_ba4f3_95 : decode cJ6_getChars_ba4f3 95 = .ok (.iload 5, 2) := by decide +kernel
theorem dJ6_getChars_ba4f3_97 : decode cJ6_getChars_ba4f3 97 = .ok (.getstatic 87, 3) := by decide +kernel
theorem dJ6_getChars_ba4f3_100 : decode cJ6_getChars_ba4f3 100 = .ok (.iload_n 0, 1) := by decide +kernel
theorem dJ6_getChars_ba4f3_101 : decode cJ6_getChars_ba4f3 101 = .ok (.ineg, 1) := by decide +kernel
theorem dJ6_getChars_ba4f3_102 : decode cJ6_getChars_ba4f3 102 = .ok (.baload, 1) := by decide +kernel
theorem dJ6_getChars_ba4f3_103 : decode cJ6_getChars_ba4f3 103 = .ok (.bastore, 1) := by decide +kernel
theorem dJ6_getChars_ba4f3_104 : decode cJ6_getChars_ba4f3 104 = .ok (.iload 6, 2) := by decide +kernel
theorem dJ6_getChars_ba4f3_106 : decode cJ6_getChars_ba4f3 106 = .ok (.ifCond .eq 12, 3) := by decide +kernel
theorem dJ6_getChars_ba4f3_109 : decode cJ6_getChars_ba4f3 109 = .ok (.aload_n 2, 1) := by decide +kernel
theorem dJ6_getChars_ba4f3_110 : decode cJ6_getChars_ba4f3 110 = .ok (.iinc 5 (-1), 3) := by decide +kernel
theorem dJ6_getChars_ba4f3_113 : decode cJ6_getChars_ba4f3 113 = .ok (.iload 5, 2) := by decide +kernel
theorem dJ6_getChars_ba4f3_115 : decode cJ6_getChars_ba4f3 115 = .ok (.bipush 45, 2) := by decide +kernel
theorem dJ6_getChars_ba4f3_117 : decode cJ6_getChars_ba4f3 117 = .ok (.bastore, 1) := by decide +kernel
theorem dJ6_getChars_ba4f3_118 : decode cJ6_getChars_ba4f3 118 = .ok (.iload 5, 2) := by decide +kernel
theorem dJ6_getChars_ba4f3_120 : decode cJ6_getChars_ba4f3 120 = .ok (.ireturn, 1) := by decide +kernel
theorem dJ6_stringSize_0f7a4_0 : decode cJ6_stringSize_0f7a4 0 = .ok (.iconst 1, 1) := by decide +kernel
theorem dJ6_stringSize_0f7a4_1 : decode cJ6_stringSize_0f7a4 1 = .ok (.istore_n 1, 1) := by decide +kernel
theorem dJ6_stringSize_0f7a4_2 : decode cJ6_stringSize_0f7a4 2 = .ok (.iload_n 0, 1) := by decide +kernel
theorem dJ6_stringSize_0f7a4_3 : decode cJ6_stringSize_0f7a4 3 = .ok (.ifCond .lt 8, 3) := by decide +kernel
theorem dJ6_stringSize_0f7a4_6 : decode cJ6_stringSize_0f7a4 6 = .ok (.iconst 0, 1) := by decide +kernel
theorem dJ6_stringSize_0f7a4_7 : decode cJ6_stringSize_0f7a4 7 = .ok (.istore_n 1, 1) := by decide +kernel
theorem dJ6_stringSize_0f7a4_8 : decode cJ6_stringSize_0f7a4 8 = .ok (.iload_n 0, 1) := by decide +kernel
theorem dJ6_stringSize_0f7a4_9 : decode cJ6_stringSize_0f7a4 9 = .ok (.ineg, 1) := by decide +kernel
theorem dJ6_stringSize_0f7a4_10 : decode cJ6_stringSize_0f7a4 10 = .ok (.istore_n 0, 1) := by decide +kernel
theorem dJ6_stringSize_0f7a4_11 : decode cJ6_stringSize_0f7a4 11 = .ok (.bipush (-10), 2) := by decide +kernel
theorem dJ6_stringSize_0f7a4_13 : decode cJ6_stringSize_0f7a4 13 = .ok (.istore_n 2, 1) := by decide +kernel
theorem dJ6_stringSize_0f7a4_14 : decode cJ6_stringSize_0f7a4 14 = .ok (.iconst 1, 1) := by decide +kernel
theorem dJ6_stringSize_0f7a4_15 : decode cJ6_stringSize_0f7a4 15 = .ok (.istore_n 3, 1) := by decide +kernel
theorem dJ6_stringSize_0f7a4_16 : decode cJ6_stringSize_0f7a4 16 = .ok (.iload_n 3, 1) := by decide +kernel
theorem dJ6_stringSize_0f7a4_17 : decode cJ6_stringSize_0f7a4 17 = .ok (.bipush 10, 2) := by decide +kernel
theorem dJ6_stringSize_0f7a4_19 : decode cJ6_stringSize_0f7a4 19 = .ok (.if_icmp .ge 23, 3) := by decide +kernel
theorem dJ6_stringSize_0f7a4_22 : decode cJ6_stringSize_0f7a4 22 = .ok (.iload_n 0, 1) := by decide +kernel
theorem dJ6_stringSize_0f7a4_23 : decode cJ6_stringSize_0f7a4 23 = .ok (.iload_n 2, 1) := by decide +kernel
theorem dJ6_stringSize_0f7a4_24 : decode cJ6_stringSize_0f7a4 24 = .ok (.if_icmp .le 7, 3) := by decide +kernel
theorem dJ6_stringSize_0f7a4_27 : decode cJ6_stringSize_0f7a4 27 = .ok (.iload_n 3, 1) := by decide +kernel
theorem dJ6_stringSize_0f7a4_28 : decode cJ6_stringSize_0f7a4 28 = .ok (.iload_n 1, 1) := by decide +kernel
theorem dJ6_stringSize_0f7a4_29 : decode cJ6_stringSize_0f7a4 29 = .ok (.iadd, 1) := by decide +kernel
theorem dJ6_stringSize_0f7a4_30 : decode cJ6_stringSize_0f7a4 30 = .ok (.ireturn, 1) := by decide +kernel
theorem dJ6_stringSize_0f7a4_31 : decode cJ6_stringSize_0f7a4 31 = .ok (.bipush 10, 2) := by decide +kernel
theorem dJ6_stringSize_0f7a4_33 : decode cJ6_stringSize_0f7a4 33 = .ok (.iload_n 2, 1) := by decide +kernel
theorem dJ6_stringSize_0f7a4_34 : decode cJ6_stringSize_0f7a4 34 = .ok (.imul, 1) := by decide +kernel
theorem dJ6_stringSize_0f7a4_35 : decode cJ6_stringSize_0f7a4 35 = .ok (.istore_n 2, 1) := by decide +kernel
theorem dJ6_stringSize_0f7a4_36 : decode cJ6_stringSize_0f7a4 36 = .ok (.iinc 3 1, 3) := by decide +kernel
theorem dJ6_stringSize_0f7a4_39 : decode cJ6_stringSize_0f7a4 39 = .ok (.goto (-23), 3) := by decide +kernel
theorem dJ6_stringSize_0f7a4_42 : decode cJ6_stringSize_0f7a4 42 = .ok (.bipush 10, 2) := by decide +kernel
theorem dJ6_stringSize_0f7a4_44 : decode cJ6_stringSize_0f7a4 44 = .ok (.iload_n 1, 1) := by decide +kernel
theorem dJ6_stringSize_0f7a4_45 : decode cJ6_stringSize_0f7a4 45 = .ok (.iadd, 1) := by decide +kernel
theorem dJ6_stringSize_0f7a4_46 : decode cJ6_stringSize_0f7a4 46 = .ok (.ireturn, 1) := by decide +kernel
theorem dJ7_rangeCheck_23922_0 : decode cJ7_rangeCheck_23922 0 = .ok (.iload_n 1, 1) := by decide +kernel
theorem dJ7_rangeCheck_23922_1 : decode cJ7_rangeCheck_23922 1 = .ok (.iload_n 2, 1) := by decide +kernel
theorem dJ7_rangeCheck_23922_2 : decode cJ7_rangeCheck_23922 2 = .ok (.if_icmp .le 44, 3) := by decide +kernel
theorem dJ7_rangeCheck_23922_5 : decode cJ7_rangeCheck_23922 5 = .ok (.new 43, 3) := by decide +kernel
theorem dJ7_rangeCheck_23922_8 : decode cJ7_rangeCheck_23922 8 = .ok (.dup, 1) := by decide +kernel
theorem dJ7_rangeCheck_23922_9 : decode cJ7_rangeCheck_23922 9 = .ok (.new 45, 3) := by decide +kernel
theorem dJ7_rangeCheck_23922_12 : decode cJ7_rangeCheck_23922 12 = .ok (.dup, 1) := by decide +kernel
theorem dJ7_rangeCheck_23922_13 : decode cJ7_rangeCheck_23922 13 = .ok (.invokespecial 47, 3) := by decide +kernel
theorem dJ7_rangeCheck_23922_16 : decode cJ7_rangeCheck_23922 16 = .ok (.ldc 48, 2) := by decide +kernel
theorem dJ7_rangeCheck_23922_18 : decode cJ7_rangeCheck_23922 18 = .ok (.invokevirtual 50, 3) := by decide +kernel
theorem dJ7_rangeCheck_23922_21 : decode cJ7_rangeCheck_23922 21 = .ok (.iload_n 1, 1) := by decide +kernel
theorem dJ7_rangeCheck_23922_22 : decode cJ7_rangeCheck_23922 22 = .ok (.invokevirtual 54, 3) := by decide +kernel
theorem dJ7_rangeCheck_23922_25 : decode cJ7_rangeCheck_23922 25 = .ok (.ldc 57, 2) := by decide +kernel
theorem dJ7_rangeCheck_23922_27 : decode cJ7_rangeCheck_23922 27 = .ok (.invokevirtual 50, 3) := by decide +kernel
theorem dJ7_rangeCheck_23922_30 : decode cJ7_rangeCheck_23922 30 = .ok (.iload_n 2, 1) := by decide +kernel
theorem dJ7_rangeCheck_23922_31 : decode cJ7_rangeCheck_23922 31 = .ok (.invokevirtual 54, 3) := by decide +kernel
theorem dJ7_rangeCheck_23922_34 : decode cJ7_rangeCheck_23922 34 = .ok (.ldc 59, 2) := by decide +kernel
theorem dJ7_rangeCheck_23922_36 : decode cJ7_rangeCheck_23922 36 = .ok (.invokevirtual 50, 3) := by decide +kernel
theorem dJ7_rangeCheck_23922_39 : decode cJ7_rangeCheck_23922 39 = .ok (.invokevirtual 61, 3) := by decide +kernel
theorem dJ7_rangeCheck_23922_42 : decode cJ7_rangeCheck_23922 42 = .ok (.invokespecial 65, 3) := by decide +kernel
theorem dJ7_rangeCheck_23922_45 : decode cJ7_rangeCheck_23922 45 = .ok (.athrow, 1) := by decide +kernel
theorem dJ7_rangeCheck_23922_46 : decode cJ7_rangeCheck_23922 46 = .ok (.iload_n 1, 1) := by decide +kernel
theorem dJ7_rangeCheck_23922_47 : decode cJ7_rangeCheck_23922 47 = .ok (.ifCond .ge 12, 3) := by decide +kernel
theorem dJ7_rangeCheck_23922_50 : decode cJ7_rangeCheck_23922 50 = .ok (.new 68, 3) := by decide +kernel
theorem dJ7_rangeCheck_23922_53 : decode cJ7_rangeCheck_23922 53 = .ok (.dup, 1) := by decide +kernel
theorem dJ7_rangeCheck_23922_54 : decode cJ7_rangeCheck_23922 54 = .ok (.iload_n 1, 1) := by decide +kernel
theorem dJ7_rangeCheck_23922_55 : decode cJ7_rangeCheck_23922 55 = .ok (.invokespecial 70, 3) := by decide +kernel
theorem dJ7_rangeCheck_23922_58 : decode cJ7_rangeCheck_23922 58 = .ok (.athrow, 1) := by decide +kernel
theorem dJ7_rangeCheck_23922_59 : decode cJ7_rangeCheck_23922 59 = .ok (.iload_n 2, 1) := by decide +kernel
theorem dJ7_rangeCheck_23922_60 : decode cJ7_rangeCheck_23922 60 = .ok (.iload_n 0, 1) := by decide +kernel
theorem dJ7_rangeCheck_23922_61 : decode cJ7_rangeCheck_23922 61 = .ok (.if_icmp .le 12, 3) := by decide +kernel
theorem dJ7_rangeCheck_23922_64 : decode cJ7_rangeCheck_23922 64 = .ok (.new 68, 3) := by decide +kernel
theorem dJ7_rangeCheck_23922_67 : decode cJ7_rangeCheck_23922 67 = .ok (.dup, 1) := by decide +kernel
theorem dJ7_rangeCheck_23922_68 : decode cJ7_rangeCheck_23922 68 = .ok (.iload_n 2, 1) := by decide +kernel
theorem dJ7_rangeCheck_23922_69 : decode cJ7_rangeCheck_23922 69 = .ok (.invokespecial 70, 3) := by decide +kernel
theorem dJ7_rangeCheck_23922_72 : decode cJ7_rangeCheck_23922 72 = .ok (.athrow, 1) := by decide +kernel
theorem dJ7_rangeCheck_23922_73 : decode cJ7_rangeCheck_23922 73 = .ok (.return_, 1) := by decide +kernel
theorem dJ7_fill_eb02e_0 : decode cJ7_fill_eb02e 0 = .ok (.aload_n 0, 1) := by decide +kernel
theorem dJ7_fill_eb02e_1 : decode cJ7_fill_eb02e 1 = .ok (.arraylength, 1) := by decide +kernel
theorem dJ7_fill_eb02e_2 : decode cJ7_fill_eb02e 2 = .ok (.iload_n 1, 1) := by decide +kernel
theorem dJ7_fill_eb02e_3 : decode cJ7_fill_eb02e 3 = .ok (.iload_n 2, 1) := by decide +kernel
theorem dJ7_fill_eb02e_4 : decode cJ7_fill_eb02e 4 = .ok (.invokestatic 13, 3) := by decide +kernel
theorem dJ7_fill_eb02e_7 : decode cJ7_fill_eb02e 7 = .ok (.iload_n 1, 1) := by decide +kernel
theorem dJ7_fill_eb02e_8 : decode cJ7_fill_eb02e 8 = .ok (.istore 4, 2) := by decide +kernel
theorem dJ7_fill_eb02e_10 : decode cJ7_fill_eb02e 10 = .ok (.iload 4, 2) := by decide +kernel
theorem dJ7_fill_eb02e_12 : decode cJ7_fill_eb02e 12 = .ok (.iload_n 2, 1) := by decide +kernel
theorem dJ7_fill_eb02e_13 : decode cJ7_fill_eb02e 13 = .ok (.if_icmp .ge 14, 3) := by decide +kernel
theorem dJ7_fill_eb02e_16 : decode cJ7_fill_eb02e 16 = .ok (.aload_n 0, 1) := by decide +kernel
theorem dJ7_fill_eb02e_17 : decode cJ7_fill_eb02e 17 = .ok (.iload 4, 2) := by decide +kernel
theorem dJ7_fill_eb02e_19 : decode cJ7_fill_eb02e 19 = .ok (.iload_n 3, 1) := by decide +kernel
theorem dJ7_fill_eb02e_20 : decode cJ7_fill_eb02e 20 = .ok (.bastore, 1) := by decide +kernel
theorem dJ7_fill_eb02e_21 : decode cJ7_fill_eb02e 21 = .ok (.iinc 4 1, 3) := by decide +kernel
theorem dJ7_fill_eb02e_24 : decode cJ7_fill_eb02e 24 = .ok (.goto (-14), 3) := by decide +kernel
theorem dJ7_fill_eb02e_27 : decode cJ7_fill_eb02e 27 = .ok (.return_, 1) := by decide +kernel
theorem dJ7_copyOf_9075b_0 : decode cJ7_copyOf_9075b 0 = .ok (.iload_n 1, 1) := by decide +kernel
theorem dJ7_copyOf_9075b_1 : decode cJ7_copyOf_9075b 1 = .ok (.aload_n 0, 1) := by decide +kernel
theorem dJ7_copyOf_9075b_2 : decode cJ7_copyOf_9075b 2 = .ok (.arraylength, 1) := by decide +kernel
theorem dJ7_copyOf_9075b_3 : decode cJ7_copyOf_9075b 3 = .ok (.if_icmp .ne 11, 3) := by decide +kernel
theorem dJ7_copyOf_9075b_6 : decode cJ7_copyOf_9075b 6 = .ok (.aload_n 0, 1) := by decide +kernel
theorem dJ7_copyOf_9075b_7 : decode cJ7_copyOf_9075b 7 = .ok (.invokevirtual 310, 3) := by decide +kernel
theorem dJ7_copyOf_9075b_10 : decode cJ7_copyOf_9075b 10 = .ok (.checkcast 311, 3) := by decide +kernel
theorem dJ7_copyOf_9075b_13 : decode cJ7_copyOf_9075b 13 = .ok (.areturn, 1) := by decide +kernel
theorem dJ7_copyOf_9075b_14 : decode cJ7_copyOf_9075b 14 = .ok (.iload_n 1, 1) := by decide +kernel
theorem dJ7_copyOf_9075b_15 : decode cJ7_copyOf_9075b 15 = .ok (.newarray .byte, 2) := by decide +kernel
theorem dJ7_copyOf_9075b_17 : decode cJ7_copyOf_9075b 17 = .ok (.astore_n 2, 1) := by decide +kernel
theorem dJ7_copyOf_9075b_18 : decode cJ7_copyOf_9075b 18 = .ok (.aload_n 0, 1) := by decide +kernel
theorem dJ7_copyOf_9075b_19 : decode cJ7_copyOf_9075b 19 = .ok (.iconst 0, 1) := by decide +kernel
theorem dJ7_copyOf_9075b_20 : decode cJ7_copyOf_9075b 20 = .ok (.aload_n 2, 1) := by decide +kernel
theorem dJ7_copyOf_9075b_21 : decode cJ7_copyOf_9075b 21 = .ok (.iconst 0, 1) := by decide +kernel
theorem dJ7_copyOf_9075b_22 : decode cJ7_copyOf_9075b 22 = .ok (.aload_n 0, 1) := by decide +kernel
theorem dJ7_copyOf_9075b_23 : decode cJ7_copyOf_9075b 23 = .ok (.arraylength, 1) := by decide +kernel
theorem dJ7_copyOf_9075b_24 : decode cJ7_copyOf_9075b 24 = .ok (.iload_n 1, 1) := by decide +kernel
theorem dJ7_copyOf_9075b_25 : decode cJ7_copyOf_9075b 25 = .ok (.invokestatic 304, 3) := by decide +kernel
theorem dJ7_copyOf_9075b_28 : decode cJ7_copyOf_9075b 28 = .ok (.invokestatic 150, 3) := by decide +kernel
theorem dJ7_copyOf_9075b_31 : decode cJ7_copyOf_9075b 31 = .ok (.aload_n 2, 1) := by decide +kernel
theorem dJ7_copyOf_9075b_32 : decode cJ7_copyOf_9075b 32 = .ok (.areturn, 1) := by decide +kernel
theorem dJ8_newLength_cabcc_0 : decode cJ8_newLength_cabcc 0 = .ok (.iload_n 0, 1) := by decide +kernel
theorem dJ8_newLength_cabcc_1 : decode cJ8_newLength_cabcc 1 = .ok (.iload_n 1, 1) := by decide +kernel
theorem dJ8_newLength_cabcc_2 : decode cJ8_newLength_cabcc 2 = .ok (.iload_n 2, 1) := by decide +kernel
theorem dJ8_newLength_cabcc_3 : decode cJ8_newLength_cabcc 3 = .ok (.invokestatic 194, 3) := by decide +kernel
theorem dJ8_newLength_cabcc_6 : decode cJ8_newLength_cabcc 6 = .ok (.iadd, 1) := by decide +kernel
theorem dJ8_newLength_cabcc_7 : decode cJ8_newLength_cabcc 7 = .ok (.istore_n 3, 1) := by decide +kernel
theorem dJ8_newLength_cabcc_8 : decode cJ8_newLength_cabcc 8 = .ok (.iconst 0, 1) := by decide +kernel
theorem dJ8_newLength_cabcc_9 : decode cJ8_newLength_cabcc 9 = .ok (.iload_n 3, 1) := by decide +kernel
theorem dJ8_newLength_cabcc_10 : decode cJ8_newLength_cabcc 10 = .ok (.if_icmp .ge 11, 3) := by decide +kernel
theorem dJ8_newLength_cabcc_13 : decode cJ8_newLength_cabcc 13 = .ok (.iload_n 3, 1) := by decide +kernel
theorem dJ8_newLength_cabcc_14 : decode cJ8_newLength_cabcc 14 = .ok (.ldc 200, 2) := by decide +kernel
theorem dJ8_newLength_cabcc_16 : decode cJ8_newLength_cabcc 16 = .ok (.if_icmp .gt 5, 3) := by decide +kernel
theorem dJ8_newLength_cabcc_19 : decode cJ8_newLength_cabcc 19 = .ok (.iload_n 3, 1) := by decide +kernel
theorem dJ8_newLength_cabcc_20 : decode cJ8_newLength_cabcc 20 = .ok (.ireturn, 1) := by decide +kernel
theorem dJ8_newLength_cabcc_21 : decode cJ8_newLength_cabcc 21 = .ok (.iload_n 0, 1) := by decide +kernel
theorem dJ8_newLength_cabcc_22 : decode cJ8_newLength_cabcc 22 = .ok (.iload_n 1, 1) := by decide +kernel
theorem dJ8_newLength_cabcc_23 : decode cJ8_newLength_cabcc 23 = .ok (.invokestatic 201, 3) := by decide +kernel
theorem dJ8_newLength_cabcc_26 : decode cJ8_newLength_cabcc 26 = .ok (.ireturn, 1) := by decide +kernel
theorem dJ8_hugeLength_7cf53_0 : decode cJ8_hugeLength_7cf53 0 = .ok (.iload_n 0, 1) := by decide +kernel
theorem dJ8_hugeLength_7cf53_1 : decode cJ8_hugeLength_7cf53 1 = .ok (.iload_n 1, 1) := by decide +kernel
theorem dJ8_hugeLength_7cf53_2 : decode cJ8_hugeLength_7cf53 2 = .ok (.iadd, 1) := by decide +kernel
theorem dJ8_hugeLength_7cf53_3 : decode cJ8_hugeLength_7cf53 3 = .ok (.istore_n 2, 1) := by decide +kernel
theorem dJ8_hugeLength_7cf53_4 : decode cJ8_hugeLength_7cf53 4 = .ok (.iload_n 2, 1) := by decide +kernel
theorem dJ8_hugeLength_7cf53_5 : decode cJ8_hugeLength_7cf53 5 = .ok (.ifCond .ge 44, 3) := by decide +kernel
theorem dJ8_hugeLength_7cf53_8 : decode cJ8_hugeLength_7cf53 8 = .ok (.new 204, 3) := by decide +kernel
theorem dJ8_hugeLength_7cf53_11 : decode cJ8_hugeLength_7cf53 11 = .ok (.dup, 1) := by decide +kernel
theorem dJ8_hugeLength_7cf53_12 : decode cJ8_hugeLength_7cf53 12 = .ok (.new 89, 3) := by decide +kernel
theorem dJ8_hugeLength_7cf53_15 : decode cJ8_hugeLength_7cf53 15 = .ok (.dup, 1) := by decide +kernel
theorem dJ8_hugeLength_7cf53_16 : decode cJ8_hugeLength_7cf53 16 = .ok (.invokespecial 91, 3) := by decide +kernel
theorem dJ8_hugeLength_7cf53_19 : decode cJ8_hugeLength_7cf53 19 = .ok (.ldc 206, 2) := by decide +kernel
theorem dJ8_hugeLength_7cf53_21 : decode cJ8_hugeLength_7cf53 21 = .ok (.invokevirtual 94, 3) := by decide +kernel
theorem dJ8_hugeLength_7cf53_24 : decode cJ8_hugeLength_7cf53 24 = .ok (.iload_n 0, 1) := by decide +kernel
theorem dJ8_hugeLength_7cf53_25 : decode cJ8_hugeLength_7cf53 25 = .ok (.invokevirtual 98, 3) := by decide +kernel
theorem dJ8_hugeLength_7cf53_28 : decode cJ8_hugeLength_7cf53 28 = .ok (.ldc 208, 2) := by decide +kernel
theorem dJ8_hugeLength_7cf53_30 : decode cJ8_hugeLength_7cf53 30 = .ok (.invokevirtual 94, 3) := by decide +kernel
theorem dJ8_hugeLength_7cf53_33 : decode cJ8_hugeLength_7cf53 33 = .ok (.iload_n 1, 1) := by decide +kernel
theorem dJ8_hugeLength_7cf53_34 : decode cJ8_hugeLength_7cf53 34 = .ok (.invokevirtual 98, 3) := by decide +kernel
theorem dJ8_hugeLength_7cf53_37 : decode cJ8_hugeLength_7cf53 37 = .ok (.ldc 210, 2) := by decide +kernel
theorem dJ8_hugeLength_7cf53_39 : decode cJ8_hugeLength_7cf53 39 = .ok (.invokevirtual 94, 3) := by decide +kernel
theorem dJ8_hugeLength_7cf53_42 : decode cJ8_hugeLength_7cf53 42 = .ok (.invokevirtual 101, 3) := by decide +kernel
theorem dJ8_hugeLength_7cf53_45 : decode cJ8_hugeLength_7cf53 45 = .ok (.invokespecial 212, 3) := by decide +kernel
theorem dJ8_hugeLength_7cf53_48 : decode cJ8_hugeLength_7cf53 48 = .ok (.athrow, 1) := by decide +kernel
theorem dJ8_hugeLength_7cf53_49 : decode cJ8_hugeLength_7cf53 49 = .ok (.iload_n 2, 1) := by decide +kernel
theorem dJ8_hugeLength_7cf53_50 : decode cJ8_hugeLength_7cf53 50 = .ok (.ldc 200, 2) := by decide +kernel
theorem dJ8_hugeLength_7cf53_52 : decode cJ8_hugeLength_7cf53 52 = .ok (.if_icmp .gt 6, 3) := by decide +kernel
theorem dJ8_hugeLength_7cf53_55 : decode cJ8_hugeLength_7cf53 55 = .ok (.ldc 200, 2) := by decide +kernel
theorem dJ8_hugeLength_7cf53_57 : decode cJ8_hugeLength_7cf53 57 = .ok (.ireturn, 1) := by decide +kernel
theorem dJ8_hugeLength_7cf53_58 : decode cJ8_hugeLength_7cf53 58 = .ok (.iload_n 2, 1) := by decide +kernel
theorem dJ8_hugeLength_7cf53_59 : decode cJ8_hugeLength_7cf53 59 = .ok (.ireturn, 1) := by decide +kernel
theorem dJ9_max_7cf53_0 : decode cJ9_max_7cf53 0 = .ok (.iload_n 0, 1) := by decide +kernel
theorem dJ9_max_7cf53_1 : decode cJ9_max_7cf53 1 = .ok (.iload_n 1, 1) := by decide +kernel
theorem dJ9_max_7cf53_2 : decode cJ9_max_7cf53 2 = .ok (.if_icmp .lt 7, 3) := by decide +kernel
theorem dJ9_max_7cf53_5 : decode cJ9_max_7cf53 5 = .ok (.iload_n 0, 1) := by decide +kernel
theorem dJ9_max_7cf53_6 : decode cJ9_max_7cf53 6 = .ok (.goto 4, 3) := by decide +kernel
theorem dJ9_max_7cf53_9 : decode cJ9_max_7cf53 9 = .ok (.iload_n 1, 1) := by decide +kernel
theorem dJ9_max_7cf53_10 : decode cJ9_max_7cf53 10 = .ok (.ireturn, 1) := by decide +kernel
theorem dJ9_min_7cf53_0 : decode cJ9_min_7cf53 0 = .ok (.iload_n 0, 1) := by decide +kernel
theorem dJ9_min_7cf53_1 : decode cJ9_min_7cf53 1 = .ok (.iload_n 1, 1) := by decide +kernel
theorem dJ9_min_7cf53_2 : decode cJ9_min_7cf53 2 = .ok (.if_icmp .gt 7, 3) := by decide +kernel
theorem dJ9_min_7cf53_5 : decode cJ9_min_7cf53 5 = .ok (.iload_n 0, 1) := by decide +kernel
theorem dJ9_min_7cf53_6 : decode cJ9_min_7cf53 6 = .ok (.goto 4, 3) := by decide +kernel
theorem dJ9_min_7cf53_9 : decode cJ9_min_7cf53 9 = .ok (.iload_n 1, 1) := by decide +kernel
theorem dJ9_min_7cf53_10 : decode cJ9_min_7cf53 10 = .ok (.ireturn, 1) := by decide +kernel
theorem dX0_firstBroken_0 : decode cX0_firstBroken 0 = .ok (.iconst 1, 1) := by decide +kernel
theorem dX0_firstBroken_1 : decode cX0_firstBroken 1 = .ok (.istore_n 3, 1) := by decide +kernel
theorem dX0_firstBroken_2 : decode cX0_firstBroken 2 = .ok (.iload_n 3, 1) := by decide +kernel
theorem dX0_firstBroken_3 : decode cX0_firstBroken 3 = .ok (.bipush 9, 2) := by decide +kernel
theorem dX0_firstBroken_5 : decode cX0_firstBroken 5 = .ok (.if_icmp .gt 68, 3) := by decide +kernel
theorem dX0_firstBroken_8 : decode cX0_firstBroken 8 = .ok (.iload_n 3, 1) := by decide +kernel
theorem dX0_firstBroken_9 : decode cX0_firstBroken 9 = .ok (.bipush 7, 2) := by decide +kernel
theorem dX0_firstBroken_11 : decode cX0_firstBroken 11 = .ok (.if_icmp .ne 12, 3) := by decide +kernel
theorem dX0_firstBroken_14 : decode cX0_firstBroken 14 = .ok (.aload_n 2, 1) := by decide +kernel
theorem dX0_firstBroken_15 : decode cX0_firstBroken 15 = .ok (.invokevirtual 9, 3) := by decide +kernel
theorem dX0_firstBroken_18 : decode cX0_firstBroken 18 = .ok (.ifCond .eq 5, 3) := by decide +kernel
theorem dX0_firstBroken_21 : decode cX0_firstBroken 21 = .ok (.iload_n 3, 1) := by decide +kernel
theorem dX0_firstBroken_22 : decode cX0_firstBroken 22 = .ok (.ireturn, 1) := by decide +kernel
theorem dX0_firstBroken_23 : decode cX0_firstBroken 23 = .ok (.iconst 0, 1) := by decide +kernel
theorem dX0_firstBroken_24 : decode cX0_firstBroken 24 = .ok (.istore 4, 2) := by decide +kernel
theorem dX0_firstBroken_26 : decode cX0_firstBroken 26 = .ok (.iload 4, 2) := by decide +kernel
theorem dX0_firstBroken_28 : decode cX0_firstBroken 28 = .ok (.aload_n 0, 1) := by decide +kernel
theorem dX0_firstBroken_29 : decode cX0_firstBroken 29 = .ok (.invokevirtual 15, 3) := by decide +kernel
theorem dX0_firstBroken_32 : decode cX0_firstBroken 32 = .ok (.if_icmp .ge 35, 3) := by decide +kernel
theorem dX0_firstBroken_35 : decode cX0_firstBroken 35 = .ok (.aload_n 0, 1) := by decide +kernel
theorem dX0_firstBroken_36 : decode cX0_firstBroken 36 = .ok (.iload 4, 2) := by decide +kernel
theorem dX0_firstBroken_38 : decode cX0_firstBroken 38 = .ok (.invokevirtual 21, 3) := by decide +kernel
theorem dX0_firstBroken_41 : decode cX0_firstBroken 41 = .ok (.astore 5, 2) := by decide +kernel
theorem dX0_firstBroken_43 : decode cX0_firstBroken 43 = .ok (.aload 5, 2) := by decide +kernel
theorem dX0_firstBroken_45 : decode cX0_firstBroken 45 = .ok (.ifnull 16, 3) := by decide +kernel
theorem dX0_firstBroken_48 : decode cX0_firstBroken 48 = .ok (.iload_n 3, 1) := by decide +kernel
theorem dX0_firstBroken_49 : decode cX0_firstBroken 49 = .ok (.aload 5, 2) := by decide +kernel
theorem dX0_firstBroken_51 : decode cX0_firstBroken 51 = .ok (.aload_n 0, 1) := by decide +kernel
theorem dX0_firstBroken_52 : decode cX0_firstBroken 52 = .ok (.aload_n 1, 1) := by decide +kernel
theorem dX0_firstBroken_53 : decode cX0_firstBroken 53 = .ok (.invokestatic 25, 3) := by decide +kernel
theorem dX0_firstBroken_56 : decode cX0_firstBroken 56 = .ok (.ifCond .eq 5, 3) := by decide +kernel
theorem dX0_firstBroken_59 : decode cX0_firstBroken 59 = .ok (.iload_n 3, 1) := by decide +kernel
theorem dX0_firstBroken_60 : decode cX0_firstBroken 60 = .ok (.ireturn, 1) := by decide +kernel
theorem dX0_firstBroken_61 : decode cX0_firstBroken 61 = .ok (.iinc 4 1, 3) := by decide +kernel
theorem dX0_firstBroken_64 : decode cX0_firstBroken 64 = .ok (.goto (-38), 3) := by decide +kernel
theorem dX0_firstBroken_67 : decode cX0_firstBroken 67 = .ok (.iinc 3 1, 3) := by decide +kernel
theorem dX0_firstBroken_70 : decode cX0_firstBroken 70 = .ok (.goto (-68), 3) := by decide +kernel
theorem dX0_firstBroken_73 : decode cX0_firstBroken 73 = .ok (.iconst 0, 1) := by decide +kernel
theorem dX0_firstBroken_74 : decode cX0_firstBroken 74 = .ok (.ireturn, 1) := by decide +kernel
theorem dX0_breaks_0 : decode cX0_breaks 0 = .ok (.iload_n 0, 1) := by decide +kernel
theorem dX0_breaks_1 : decode cX0_breaks 1 = .ok (.tableswitch 264 1 9 #[51, 57, 94, 131, 170, 215, 264, 236, 243], 51) := by decide +kernel
theorem dX0_breaks_52 : decode cX0_breaks 52 = .ok (.aload_n 1, 1) := by decide +kernel
theorem dX0_breaks_53 : decode cX0_breaks 53 = .ok (.aload_n 3, 1) := by decide +kernel
theorem dX0_breaks_54 : decode cX0_breaks 54 = .ok (.invokestatic 31, 3) := by decide +kernel
theorem dX0_breaks_57 : decode cX0_breaks 57 = .ok (.ireturn, 1) := by decide +kernel
theorem dX0_breaks_58 : decode cX0_breaks 58 = .ok (.aload_n 1, 1) := by decide +kernel
theorem dX0_breaks_59 : decode cX0_breaks 59 = .ok (.getfield 35, 3) := by decide +kernel
theorem dX0_breaks_62 : decode cX0_breaks 62 = .ok (.iconst 3, 1) := by decide +kernel
theorem dX0_breaks_63 : decode cX0_breaks 63 = .ok (.if_icmp .ne 30, 3) := by decide +kernel
theorem dX0_breaks_66 : decode cX0_breaks 66 = .ok (.aload_n 2, 1) := by decide +kernel
theorem dX0_breaks_67 : decode cX0_breaks 67 = .ok (.aload_n 1, 1) := by decide +kernel
theorem dX0_breaks_68 : decode cX0_breaks 68 = .ok (.invokevirtual 41, 3) := by decide +kernel
theorem dX0_breaks_71 : decode cX0_breaks 71 = .ok (.ifCond .ne 18, 3) := by decide +kernel
theorem dX0_breaks_74 : decode cX0_breaks 74 = .ok (.aload_n 1, 1) := by decide +kernel
theorem dX0_breaks_75 : decode cX0_breaks 75 = .ok (.getfield 45, 3) := by decide +kernel
theorem dX0_breaks_78 : decode cX0_breaks 78 = .ok (.aload_n 3, 1) := by decide +kernel
theorem dX0_breaks_79 : decode cX0_breaks 79 = .ok (.aload_n 1, 1) := by decide +kernel
theorem dX0_breaks_80 : decode cX0_breaks 80 = .ok (.getfield 48, 3) := by decide +kernel
theorem dX0_breaks_83 : decode cX0_breaks 83 = .ok (.invokevirtual 51, 3) := by decide +kernel
theorem dX0_breaks_86 : decode cX0_breaks 86 = .ok (.if_icmp .ge 7, 3) := by decide +kernel
theorem dX0_breaks_89 : decode cX0_breaks 89 = .ok (.iconst 1, 1) := by decide +kernel
theorem dX0_breaks_90 : decode cX0_breaks 90 = .ok (.goto 4, 3) := by decide +kernel
theorem dX0_breaks_93 : decode cX0_breaks 93 = .ok (.iconst 0, 1) := by decide +kernel
theorem dX0_breaks_94 : decode cX0_breaks 94 = .ok (.ireturn, 1) := by decide +kernel
theorem dX0_breaks_95 : decode cX0_breaks 95 = .ok (.aload_n 1, 1) := by decide +kernel
theorem dX0_breaks_96 : decode cX0_breaks 96 = .ok (.getfield 35, 3) := by decide +kernel
theorem dX0_breaks_99 : decode cX0_breaks 99 = .ok (.ifCond .ne 31, 3) := by decide +kernel
theorem dX0_breaks_102 : decode cX0_breaks 102 = .ok (.aload_n 1, 1) := by decide +kernel
theorem dX0_breaks_103 : decode cX0_breaks 103 = .ok (.getfield 57, 3) := by decide +kernel
theorem dX0_breaks_106 : decode cX0_breaks 106 = .ok (.iconst (-1), 1) := by decide +kernel
theorem dX0_breaks_107 : decode cX0_breaks 107 = .ok (.if_icmp .eq 23, 3) := by decide +kernel
theorem dX0_breaks_110 : decode cX0_breaks 110 = .ok (.aload_n 1, 1) := by decide +kernel
theorem dX0_breaks_111 : decode cX0_breaks 111 = .ok (.getfield 57, 3) := by decide +kernel
theorem dX0_breaks_114 : decode cX0_breaks 114 = .ok (.aload_n 1, 1) := by decide +kernel
theorem dX0_breaks_115 : decode cX0_breaks 115 = .ok (.getfield 45, 3) := by decide +kernel
theorem dX0_breaks_118 : decode cX0_breaks 118 = .ok (.iconst 0, 1) := by decide +kernel
theorem dX0_breaks_119 : decode cX0_breaks 119 = .ok (.aload_n 3, 1) := by decide +kernel
theorem dX0_breaks_120 : decode cX0_breaks 120 = .ok (.invokestatic 60, 3) := by decide +kernel
theorem dX0_breaks_123 : decode cX0_breaks 123 = .ok (.ifCond .ne 7, 3) := by decide +kernel
theorem dX0_breaks_126 : decode cX0_breaks 126 = .ok (.iconst 1, 1) := by decide +kernel
theorem dX0_breaks_127 : decode cX0_breaks 127 = .ok (.goto 4, 3) := by decide +kernel
theorem dX0_breaks_130 : decode cX0_breaks 130 = .ok (.iconst 0, 1) := by decide +kernel
theorem dX0_breaks_131 : decode cX0_breaks 131 = .ok (.ireturn, 1) := by decide +kernel
theorem dX0_breaks_132 : decode cX0_breaks 132 = .ok (.aload_n 1, 1) := by decide +kernel
theorem dX0_breaks_133 : decode cX0_breaks 133 = .ok (.getfield 35, 3) := by decide +kernel
theorem dX0_breaks_136 : decode cX0_breaks 136 = .ok (.ifCond .ne 33, 3) := by decide +kernel
theorem dX0_breaks_139 : decode cX0_breaks 139 = .ok (.aload_n 1, 1) := by decide +kernel
theorem dX0_breaks_140 : decode cX0_breaks 140 = .ok (.getfield 64, 3) := by decide +kernel
theorem dX0_breaks_143 : decode cX0_breaks 143 = .ok (.iconst (-1), 1) := by decide +kernel
theorem dX0_breaks_144 : decode cX0_breaks 144 = .ok (.if_icmp .eq 25, 3) := by decide +kernel
theorem dX0_breaks_147 : decode cX0_breaks 147 = .ok (.aload_n 1, 1) := by decide +kernel
theorem dX0_breaks_148 : decode cX0_breaks 148 = .ok (.getfield 64, 3) := by decide +kernel
theorem dX0_breaks_151 : decode cX0_breaks 151 = .ok (.aload_n 1, 1) := by decide +kernel
theorem dX0_breaks_152 : decode cX0_breaks 152 = .ok (.getfield 45, 3) := by decide +kernel
theorem dX0_breaks_155 : decode cX0_breaks 155 = .ok (.sipush 300, 3) := by decide +kernel
theorem dX0_breaks_158 : decode cX0_breaks 158 = .ok (.aload_n 3, 1) := by decide +kernel
theorem dX0_breaks_159 : decode cX0_breaks 159 = .ok (.invokestatic 60, 3) := by decide +kernel
theorem dX0_breaks_162 : decode cX0_breaks 162 = .ok (.ifCond .ne 7, 3) := by decide +kernel
theorem dX0_breaks_165 : decode cX0_breaks 165 = .ok (.iconst 1, 1) := by decide +kernel
theorem dX0_breaks_166 : decode cX0_breaks 166 = .ok (.goto 4, 3) := by decide +kernel
theorem dX0_breaks_169 : decode cX0_breaks 169 = .ok (.iconst 0, 1) := by decide +kernel
theorem dX0_breaks_170 : decode cX0_breaks 170 = .ok (.ireturn, 1) := by decide +kernel
theorem dX0_breaks_171 : decode cX0_breaks 171 = .ok (.aload_n 1, 1) := by decide +kernel
theorem dX0_breaks_172 : decode cX0_breaks 172 = .ok (.invokevirtual 67, 3) := by decide +kernel
theorem dX0_breaks_175 : decode cX0_breaks 175 = .ok (.ifCond .eq 39, 3) := by decide +kernel
theorem dX0_breaks_178 : decode cX0_breaks 178 = .ok (.aload_n 1, 1) := by decide +kernel
theorem dX0_breaks_179 : decode cX0_breaks 179 = .ok (.getfield 48, 3) := by decide +kernel
theorem dX0_breaks_182 : decode cX0_breaks 182 = .ok (.aload_n 1, 1) := by decide +kernel
theorem dX0_breaks_183 : decode cX0_breaks 183 = .ok (.getfield 45, 3) := by decide +kernel
theorem dX0_breaks_186 : decode cX0_breaks 186 = .ok (.iconst 0, 1) := by decide +kernel
theorem dX0_breaks_187 : decode cX0_breaks 187 = .ok (.aload_n 3, 1) := by decide +kernel
theorem dX0_breaks_188 : decode cX0_breaks 188 = .ok (.invokestatic 60, 3) := by decide +kernel
theorem dX0_breaks_191 : decode cX0_breaks 191 = .ok (.ifCond .eq 19, 3) := by decide +kernel
theorem dX0_breaks_194 : decode cX0_breaks 194 = .ok (.aload_n 1, 1) := by decide +kernel
theorem dX0_breaks_195 : decode cX0_breaks 195 = .ok (.getfield 70, 3) := by decide +kernel
theorem dX0_breaks_198 : decode cX0_breaks 198 = .ok (.aload_n 1, 1) := by decide +kernel
theorem dX0_breaks_199 : decode cX0_breaks 199 = .ok (.getfield 45, 3) := by decide +kernel
theorem dX0_breaks_202 : decode cX0_breaks 202 = .ok (.iconst 0, 1) := by decide +kernel
theorem dX0_breaks_203 : decode cX0_breaks 203 = .ok (.aload_n 3, 1) := by decide +kernel
theorem dX0_breaks_204 : decode cX0_breaks 204 = .ok (.invokestatic 60, 3) := by decide +kernel
theorem dX0_breaks_207 : decode cX0_breaks 207 = .ok (.ifCond .ne 7, 3) := by decide +kernel
theorem dX0_breaks_210 : decode cX0_breaks 210 = .ok (.iconst 1, 1) := by decide +kernel
theorem dX0_breaks_211 : decode cX0_breaks 211 = .ok (.goto 4, 3) := by decide +kernel
theorem dX0_breaks_214 : decode cX0_breaks 214 = .ok (.iconst 0, 1) := by decide +kernel
theorem dX0_breaks_215 : decode cX0_breaks 215 = .ok (.ireturn, 1) := by decide +kernel
theorem dX0_breaks_216 : decode cX0_breaks 216 = .ok (.aload_n 1, 1) := by decide +kernel
theorem dX0_breaks_217 : decode cX0_breaks 217 = .ok (.invokevirtual 67, 3) := by decide +kernel
theorem dX0_breaks_220 : decode cX0_breaks 220 = .ok (.ifCond .eq 15, 3) := by decide +kernel
theorem dX0_breaks_223 : decode cX0_breaks 223 = .ok (.aload_n 2, 1) := by decide +kernel
theorem dX0_breaks_224 : decode cX0_breaks 224 = .ok (.aload_n 1, 1) := by decide +kernel
theorem dX0_breaks_225 : decode cX0_breaks 225 = .ok (.invokevirtual 73, 3) := by decide +kernel
theorem dX0_breaks_228 : decode cX0_breaks 228 = .ok (.ifCond .eq 7, 3) := by decide +kernel
theorem dX0_breaks_231 : decode cX0_breaks 231 = .ok (.iconst 1, 1) := by decide +kernel
theorem dX0_breaks_232 : decode cX0_breaks 232 = .ok (.goto 4, 3) := by decide +kernel
theorem dX0_breaks_235 : decode cX0_breaks 235 = .ok (.iconst 0, 1) := by decide +kernel
theorem dX0_breaks_236 : decode cX0_breaks 236 = .ok (.ireturn, 1) := by decide +kernel
theorem dX0_breaks_237 : decode cX0_breaks 237 = .ok (.aload_n 1, 1) := by decide +kernel
theorem dX0_breaks_238 : decode cX0_breaks 238 = .ok (.aload_n 2, 1) := by decide +kernel
theorem dX0_breaks_239 : decode cX0_breaks 239 = .ok (.aload_n 3, 1) := by decide +kernel
theorem dX0_breaks_240 : decode cX0_breaks 240 = .ok (.invokestatic 76, 3) := by decide +kernel
theorem dX0_breaks_243 : decode cX0_breaks 243 = .ok (.ireturn, 1) := by decide +kernel
theorem dX0_breaks_244 : decode cX0_breaks 244 = .ok (.aload_n 1, 1) := by decide +kernel
theorem dX0_breaks_245 : decode cX0_breaks 245 = .ok (.invokevirtual 80, 3) := by decide +kernel
theorem dX0_breaks_248 : decode cX0_breaks 248 = .ok (.ifCond .eq 15, 3) := by decide +kernel
theorem dX0_breaks_251 : decode cX0_breaks 251 = .ok (.aload_n 2, 1) := by decide +kernel
theorem dX0_breaks_252 : decode cX0_breaks 252 = .ok (.aload_n 1, 1) := by decide +kernel
theorem dX0_breaks_253 : decode cX0_breaks 253 = .ok (.invokevirtual 73, 3) := by decide +kernel
theorem dX0_breaks_256 : decode cX0_breaks 256 = .ok (.ifCond .eq 7, 3) := by decide +kernel
theorem dX0_breaks_259 : decode cX0_breaks 259 = .ok (.iconst 1, 1) := by decide +kernel
theorem dX0_breaks_260 : decode cX0_breaks 260 = .ok (.goto 4, 3) := by decide +kernel
theorem dX0_breaks_263 : decode cX0_breaks 263 = .ok (.iconst 0, 1) := by decide +kernel
theorem dX0_breaks_264 : decode cX0_breaks 264 = .ok (.ireturn, 1) := by decide +kernel
theorem dX0_breaks_265 : decode cX0_breaks 265 = .ok (.iconst 0, 1) := by decide +kernel
theorem dX0_breaks_266 : decode cX0_breaks 266 = .ok (.ireturn, 1) := by decide +kernel
theorem dX0_hasWrongSexes_0 : decode cX0_hasWrongSexes 0 = .ok (.aload_n 0, 1) := by decide +kernel
theorem dX0_hasWrongSexes_1 : decode cX0_hasWrongSexes 1 = .ok (.getfield 35, 3) := by decide +kernel
theorem dX0_hasWrongSexes_4 : decode cX0_hasWrongSexes 4 = .ok (.ifCond .ne 47, 3) := by decide +kernel
theorem dX0_hasWrongSexes_7 : decode cX0_hasWrongSexes 7 = .ok (.aload_n 0, 1) := by decide +kernel
theorem dX0_hasWrongSexes_8 : decode cX0_hasWrongSexes 8 = .ok (.getfield 64, 3) := by decide +kernel
theorem dX0_hasWrongSexes_11 : decode cX0_hasWrongSexes 11 = .ok (.iconst (-1), 1) := by decide +kernel
theorem dX0_hasWrongSexes_12 : decode cX0_hasWrongSexes 12 = .ok (.if_icmp .eq 14, 3) := by decide +kernel
theorem dX0_hasWrongSexes_15 : decode cX0_hasWrongSexes 15 = .ok (.aload_n 1, 1) := by decide +kernel
theorem dX0_hasWrongSexes_16 : decode cX0_hasWrongSexes 16 = .ok (.aload_n 0, 1) := by decide +kernel
theorem dX0_hasWrongSexes_17 : decode cX0_hasWrongSexes 17 = .ok (.getfield 64, 3) := by decide +kernel
theorem dX0_hasWrongSexes_20 : decode cX0_hasWrongSexes 20 = .ok (.invokevirtual 83, 3) := by decide +kernel
theorem dX0_hasWrongSexes_23 : decode cX0_hasWrongSexes 23 = .ok (.ifCond .eq 22, 3) := by decide +kernel
theorem dX0_hasWrongSexes_26 : decode cX0_hasWrongSexes 26 = .ok (.aload_n 0, 1) := by decide +kernel
theorem dX0_hasWrongSexes_27 : decode cX0_hasWrongSexes 27 = .ok (.getfield 57, 3) := by decide +kernel
theorem dX0_hasWrongSexes_30 : decode cX0_hasWrongSexes 30 = .ok (.iconst (-1), 1) := by decide +kernel
theorem dX0_hasWrongSexes_31 : decode cX0_hasWrongSexes 31 = .ok (.if_icmp .eq 18, 3) := by decide +kernel
theorem dX0_hasWrongSexes_34 : decode cX0_hasWrongSexes 34 = .ok (.aload_n 1, 1) := by decide +kernel
theorem dX0_hasWrongSexes_35 : decode cX0_hasWrongSexes 35 = .ok (.aload_n 0, 1) := by decide +kernel
theorem dX0_hasWrongSexes_36 : decode cX0_hasWrongSexes 36 = .ok (.getfield 57, 3) := by decide +kernel
theorem dX0_hasWrongSexes_39 : decode cX0_hasWrongSexes 39 = .ok (.invokevirtual 83, 3) := by decide +kernel
theorem dX0_hasWrongSexes_42 : decode cX0_hasWrongSexes 42 = .ok (.ifCond .eq 7, 3) := by decide +kernel
theorem dX0_hasWrongSexes_45 : decode cX0_hasWrongSexes 45 = .ok (.iconst 1, 1) := by decide +kernel
theorem dX0_hasWrongSexes_46 : decode cX0_hasWrongSexes 46 = .ok (.goto 4, 3) := by decide +kernel
theorem dX0_hasWrongSexes_49 : decode cX0_hasWrongSexes 49 = .ok (.iconst 0, 1) := by decide +kernel
theorem dX0_hasWrongSexes_50 : decode cX0_hasWrongSexes 50 = .ok (.ireturn, 1) := by decide +kernel
theorem dX0_hasWrongSexes_51 : decode cX0_hasWrongSexes 51 = .ok (.aload_n 0, 1) := by decide +kernel
theorem dX0_hasWrongSexes_52 : decode cX0_hasWrongSexes 52 = .ok (.invokevirtual 67, 3) := by decide +kernel
theorem dX0_hasWrongSexes_55 : decode cX0_hasWrongSexes 55 = .ok (.ifCond .eq 29, 3) := by decide +kernel
theorem dX0_hasWrongSexes_58 : decode cX0_hasWrongSexes 58 = .ok (.aload_n 1, 1) := by decide +kernel
theorem dX0_hasWrongSexes_59 : decode cX0_hasWrongSexes 59 = .ok (.aload_n 0, 1) := by decide +kernel
theorem dX0_hasWrongSexes_60 : decode cX0_hasWrongSexes 60 = .ok (.getfield 48, 3) := by decide +kernel
theorem dX0_hasWrongSexes_63 : decode cX0_hasWrongSexes 63 = .ok (.invokevirtual 83, 3) := by decide +kernel
theorem dX0_hasWrongSexes_66 : decode cX0_hasWrongSexes 66 = .ok (.ifCond .eq 14, 3) := by decide +kernel
theorem dX0_hasWrongSexes_69 : decode cX0_hasWrongSexes 69 = .ok (.aload_n 1, 1) := by decide +kernel
theorem dX0_hasWrongSexes_70 : decode cX0_hasWrongSexes 70 = .ok (.aload_n 0, 1) := by decide +kernel
theorem dX0_hasWrongSexes_71 : decode cX0_hasWrongSexes 71 = .ok (.getfield 70, 3) := by decide +kernel
theorem dX0_hasWrongSexes_74 : decode cX0_hasWrongSexes 74 = .ok (.invokevirtual 83, 3) := by decide +kernel
theorem dX0_hasWrongSexes_77 : decode cX0_hasWrongSexes 77 = .ok (.ifCond .eq 7, 3) := by decide +kernel
theorem dX0_hasWrongSexes_80 : decode cX0_hasWrongSexes 80 = .ok (.iconst 1, 1) := by decide +kernel
theorem dX0_hasWrongSexes_81 : decode cX0_hasWrongSexes 81 = .ok (.goto 4, 3) := by decide +kernel
theorem dX0_hasWrongSexes_84 : decode cX0_hasWrongSexes 84 = .ok (.iconst 0, 1) := by decide +kernel
theorem dX0_hasWrongSexes_85 : decode cX0_hasWrongSexes 85 = .ok (.ireturn, 1) := by decide +kernel
theorem dX0_couldAct_0 : decode cX0_couldAct 0 = .ok (.aload_n 3, 1) := by decide +kernel
theorem dX0_couldAct_1 : decode cX0_couldAct 1 = .ok (.iload_n 0, 1) := by decide +kernel
theorem dX0_couldAct_2 : decode cX0_couldAct 2 = .ok (.iload_n 1, 1) := by decide +kernel
theorem dX0_couldAct_3 : decode cX0_couldAct 3 = .ok (.invokevirtual 87, 3) := by decide +kernel
theorem dX0_couldAct_6 : decode cX0_couldAct 6 = .ok (.ifCond .eq 18, 3) := by decide +kernel
theorem dX0_couldAct_9 : decode cX0_couldAct 9 = .ok (.aload_n 3, 1) := by decide +kernel
theorem dX0_couldAct_10 : decode cX0_couldAct 10 = .ok (.iload_n 0, 1) := by decide +kernel
theorem dX0_couldAct_11 : decode cX0_couldAct 11 = .ok (.iload_n 1, 1) := by decide +kernel
theorem dX0_couldAct_12 : decode cX0_couldAct 12 = .ok (.iload_n 2, 1) := by decide +kernel
theorem dX0_couldAct_13 : decode cX0_couldAct 13 = .ok (.isub, 1) := by decide +kernel
theorem dX0_couldAct_14 : decode cX0_couldAct 14 = .ok (.invokevirtual 91, 3) := by decide +kernel
theorem dX0_couldAct_17 : decode cX0_couldAct 17 = .ok (.ifCond .ne 7, 3) := by decide +kernel
theorem dX0_couldAct_20 : decode cX0_couldAct 20 = .ok (.iconst 1, 1) := by decide +kernel
theorem dX0_couldAct_21 : decode cX0_couldAct 21 = .ok (.goto 4, 3) := by decide +kernel
theorem dX0_couldAct_24 : decode cX0_couldAct 24 = .ok (.iconst 0, 1) := by decide +kernel
theorem dX0_couldAct_25 : decode cX0_couldAct 25 = .ok (.ireturn, 1) := by decide +kernel
theorem dX0_breaksATitle_0 : decode cX0_breaksATitle 0 = .ok (.aload_n 0, 1) := by decide +kernel
theorem dX0_breaksATitle_1 : decode cX0_breaksATitle 1 = .ok (.getfield 35, 3) := by decide +kernel
theorem dX0_breaksATitle_4 : decode cX0_breaksATitle 4 = .ok (.iconst 4, 1) := by decide +kernel
theorem dX0_breaksATitle_5 : decode cX0_breaksATitle 5 = .ok (.if_icmp .eq 20, 3) := by decide +kernel
theorem dX0_breaksATitle_8 : decode cX0_breaksATitle 8 = .ok (.aload_n 0, 1) := by decide +kernel
theorem dX0_breaksATitle_9 : decode cX0_breaksATitle 9 = .ok (.getfield 35, 3) := by decide +kernel
theorem dX0_breaksATitle_12 : decode cX0_breaksATitle 12 = .ok (.iconst 5, 1) := by decide +kernel
theorem dX0_breaksATitle_13 : decode cX0_breaksATitle 13 = .ok (.if_icmp .eq 12, 3) := by decide +kernel
theorem dX0_breaksATitle_16 : decode cX0_breaksATitle 16 = .ok (.aload_n 0, 1) := by decide +kernel
theorem dX0_breaksATitle_17 : decode cX0_breaksATitle 17 = .ok (.getfield 35, 3) := by decide +kernel
theorem dX0_breaksATitle_20 : decode cX0_breaksATitle 20 = .ok (.bipush 6, 2) := by decide +kernel
theorem dX0_breaksATitle_22 : decode cX0_breaksATitle 22 = .ok (.if_icmp .ne 35, 3) := by decide +kernel
theorem dX0_breaksATitle_25 : decode cX0_breaksATitle 25 = .ok (.aload_n 2, 1) := by decide +kernel
theorem dX0_breaksATitle_26 : decode cX0_breaksATitle 26 = .ok (.aload_n 0, 1) := by decide +kernel
theorem dX0_breaksATitle_27 : decode cX0_breaksATitle 27 = .ok (.getfield 48, 3) := by decide +kernel
theorem dX0_breaksATitle_30 : decode cX0_breaksATitle 30 = .ok (.invokevirtual 51, 3) := by decide +kernel
theorem dX0_breaksATitle_33 : decode cX0_breaksATitle 33 = .ok (.aload_n 0, 1) := by decide +kernel
theorem dX0_breaksATitle_34 : decode cX0_breaksATitle 34 = .ok (.getfield 45, 3) := by decide +kernel
theorem dX0_breaksATitle_37 : decode cX0_breaksATitle 37 = .ok (.if_icmp .gt 18, 3) := by decide +kernel
theorem dX0_breaksATitle_40 : decode cX0_breaksATitle 40 = .ok (.aload_n 2, 1) := by decide +kernel
theorem dX0_breaksATitle_41 : decode cX0_breaksATitle 41 = .ok (.aload_n 0, 1) := by decide +kernel
theorem dX0_breaksATitle_42 : decode cX0_breaksATitle 42 = .ok (.getfield 48, 3) := by decide +kernel
theorem dX0_breaksATitle_45 : decode cX0_breaksATitle 45 = .ok (.aload_n 0, 1) := by decide +kernel
theorem dX0_breaksATitle_46 : decode cX0_breaksATitle 46 = .ok (.getfield 45, 3) := by decide +kernel
theorem dX0_breaksATitle_49 : decode cX0_breaksATitle 49 = .ok (.invokevirtual 91, 3) := by decide +kernel
theorem dX0_breaksATitle_52 : decode cX0_breaksATitle 52 = .ok (.ifCond .eq 5, 3) := by decide +kernel
theorem dX0_breaksATitle_55 : decode cX0_breaksATitle 55 = .ok (.iconst 1, 1) := by decide +kernel
theorem dX0_breaksATitle_56 : decode cX0_breaksATitle 56 = .ok (.ireturn, 1) := by decide +kernel
theorem dX0_breaksATitle_57 : decode cX0_breaksATitle 57 = .ok (.aload_n 0, 1) := by decide +kernel
theorem dX0_breaksATitle_58 : decode cX0_breaksATitle 58 = .ok (.getfield 35, 3) := by decide +kernel
theorem dX0_breaksATitle_61 : decode cX0_breaksATitle 61 = .ok (.iconst 5, 1) := by decide +kernel
theorem dX0_breaksATitle_62 : decode cX0_breaksATitle 62 = .ok (.if_icmp .ne 13, 3) := by decide +kernel
theorem dX0_breaksATitle_65 : decode cX0_breaksATitle 65 = .ok (.aload_n 1, 1) := by decide +kernel
theorem dX0_breaksATitle_66 : decode cX0_breaksATitle 66 = .ok (.aload_n 0, 1) := by decide +kernel
theorem dX0_breaksATitle_67 : decode cX0_breaksATitle 67 = .ok (.invokevirtual 41, 3) := by decide +kernel
theorem dX0_breaksATitle_70 : decode cX0_breaksATitle 70 = .ok (.ifCond .eq 5, 3) := by decide +kernel
theorem dX0_breaksATitle_73 : decode cX0_breaksATitle 73 = .ok (.iconst 1, 1) := by decide +kernel
theorem dX0_breaksATitle_74 : decode cX0_breaksATitle 74 = .ok (.ireturn, 1) := by decide +kernel
theorem dX0_breaksATitle_75 : decode cX0_breaksATitle 75 = .ok (.aload_n 0, 1) := by decide +kernel
theorem dX0_breaksATitle_76 : decode cX0_breaksATitle 76 = .ok (.getfield 35, 3) := by decide +kernel
theorem dX0_breaksATitle_79 : decode cX0_breaksATitle 79 = .ok (.iconst 5, 1) := by decide +kernel
theorem dX0_breaksATitle_80 : decode cX0_breaksATitle 80 = .ok (.if_icmp .eq 21, 3) := by decide +kernel
theorem dX0_breaksATitle_83 : decode cX0_breaksATitle 83 = .ok (.aload_n 0, 1) := by decide +kernel
theorem dX0_breaksATitle_84 : decode cX0_breaksATitle 84 = .ok (.getfield 35, 3) := by decide +kernel
theorem dX0_breaksATitle_87 : decode cX0_breaksATitle 87 = .ok (.bipush 6, 2) := by decide +kernel
theorem dX0_breaksATitle_89 : decode cX0_breaksATitle 89 = .ok (.if_icmp .eq 12, 3) := by decide +kernel
theorem dX0_breaksATitle_92 : decode cX0_breaksATitle 92 = .ok (.aload_n 0, 1) := by decide +kernel
theorem dX0_breaksATitle_93 : decode cX0_breaksATitle 93 = .ok (.invokevirtual 80, 3) := by decide +kernel
theorem dX0_breaksATitle_96 : decode cX0_breaksATitle 96 = .ok (.ifCond .ne 5, 3) := by decide +kernel
theorem dX0_breaksATitle_99 : decode cX0_breaksATitle 99 = .ok (.iconst 0, 1) := by decide +kernel
theorem dX0_breaksATitle_100 : decode cX0_breaksATitle 100 = .ok (.ireturn, 1) := by decide +kernel
theorem dX0_breaksATitle_101 : decode cX0_breaksATitle 101 = .ok (.aload_n 1, 1) := by decide +kernel
theorem dX0_breaksATitle_102 : decode cX0_breaksATitle 102 = .ok (.aload_n 0, 1) := by decide +kernel
theorem dX0_breaksATitle_103 : decode cX0_breaksATitle 103 = .ok (.getfield 94, 3) := by decide +kernel
theorem dX0_breaksATitle_106 : decode cX0_breaksATitle 106 = .ok (.invokevirtual 97, 3) := by decide +kernel
theorem dX0_breaksATitle_109 : decode cX0_breaksATitle 109 = .ok (.astore_n 3, 1) := by decide +kernel
theorem dX0_breaksATitle_110 : decode cX0_breaksATitle 110 = .ok (.aload_n 3, 1) := by decide +kernel
theorem dX0_breaksATitle_111 : decode cX0_breaksATitle 111 = .ok (.ifnonnull 5, 3) := by decide +kernel
theorem dX0_breaksATitle_114 : decode cX0_breaksATitle 114 = .ok (.iconst 1, 1) := by decide +kernel
theorem dX0_breaksATitle_115 : decode cX0_breaksATitle 115 = .ok (.ireturn, 1) := by decide +kernel
theorem dX0_breaksATitle_116 : decode cX0_breaksATitle 116 = .ok (.aload_n 0, 1) := by decide +kernel
theorem dX0_breaksATitle_117 : decode cX0_breaksATitle 117 = .ok (.getfield 45, 3) := by decide +kernel
theorem dX0_breaksATitle_120 : decode cX0_breaksATitle 120 = .ok (.aload_n 3, 1) := by decide +kernel
theorem dX0_breaksATitle_121 : decode cX0_breaksATitle 121 = .ok (.getfield 45, 3) := by decide +kernel
theorem dX0_breaksATitle_124 : decode cX0_breaksATitle 124 = .ok (.if_icmp .lt 20, 3) := by decide +kernel
theorem dX0_breaksATitle_127 : decode cX0_breaksATitle 127 = .ok (.aload_n 0, 1) := by decide +kernel
theorem dX0_breaksATitle_128 : decode cX0_breaksATitle 128 = .ok (.getfield 35, 3) := by decide +kernel
theorem dX0_breaksATitle_131 : decode cX0_breaksATitle 131 = .ok (.bipush 6, 2) := by decide +kernel
theorem dX0_breaksATitle_133 : decode cX0_breaksATitle 133 = .ok (.if_icmp .ne 15, 3) := by decide +kernel
theorem dX0_breaksATitle_136 : decode cX0_breaksATitle 136 = .ok (.aload_n 3, 1) := by decide +kernel
theorem dX0_breaksATitle_137 : decode cX0_breaksATitle 137 = .ok (.getfield 100, 3) := by decide +kernel
theorem dX0_breaksATitle_140 : decode cX0_breaksATitle 140 = .ok (.iconst 5, 1) := by decide +kernel
theorem dX0_breaksATitle_141 : decode cX0_breaksATitle 141 = .ok (.if_icmp .eq 7, 3) := by decide +kernel
theorem dX0_breaksATitle_144 : decode cX0_breaksATitle 144 = .ok (.iconst 1, 1) := by decide +kernel
theorem dX0_breaksATitle_145 : decode cX0_breaksATitle 145 = .ok (.goto 4, 3) := by decide +kernel
theorem dX0_breaksATitle_148 : decode cX0_breaksATitle 148 = .ok (.iconst 0, 1) := by decide +kernel
theorem dX0_breaksATitle_149 : decode cX0_breaksATitle 149 = .ok (.ireturn, 1) := by decide +kernel
theorem dX1_init_0 : decode cX1_init 0 = .ok (.aload_n 0, 1) := by decide +kernel
theorem dX1_init_1 : decode cX1_init 1 = .ok (.invokespecial 3, 3) := by decide +kernel
theorem dX1_init_4 : decode cX1_init 4 = .ok (.aload_n 0, 1) := by decide +kernel
theorem dX1_init_5 : decode cX1_init 5 = .ok (.bipush 64, 2) := by decide +kernel
theorem dX1_init_7 : decode cX1_init 7 = .ok (.newarray .int, 2) := by decide +kernel
theorem dX1_init_9 : decode cX1_init 9 = .ok (.putfield 9, 3) := by decide +kernel
theorem dX1_init_12 : decode cX1_init 12 = .ok (.aload_n 0, 1) := by decide +kernel
theorem dX1_init_13 : decode cX1_init 13 = .ok (.sipush 200, 3) := by decide +kernel
theorem dX1_init_16 : decode cX1_init 16 = .ok (.newarray .int, 2) := by decide +kernel
theorem dX1_init_18 : decode cX1_init 18 = .ok (.putfield 15, 3) := by decide +kernel
theorem dX1_init_21 : decode cX1_init 21 = .ok (.aload_n 0, 1) := by decide +kernel
theorem dX1_init_22 : decode cX1_init 22 = .ok (.sipush 200, 3) := by decide +kernel
theorem dX1_init_25 : decode cX1_init 25 = .ok (.newarray .int, 2) := by decide +kernel
theorem dX1_init_27 : decode cX1_init 27 = .ok (.putfield 18, 3) := by decide +kernel
theorem dX1_init_30 : decode cX1_init 30 = .ok (.aload_n 0, 1) := by decide +kernel
theorem dX1_init_31 : decode cX1_init 31 = .ok (.sipush 200, 3) := by decide +kernel
theorem dX1_init_34 : decode cX1_init 34 = .ok (.newarray .int, 2) := by decide +kernel
theorem dX1_init_36 : decode cX1_init 36 = .ok (.putfield 21, 3) := by decide +kernel
theorem dX1_init_39 : decode cX1_init 39 = .ok (.aload_n 0, 1) := by decide +kernel
theorem dX1_init_40 : decode cX1_init 40 = .ok (.sipush 200, 3) := by decide +kernel
theorem dX1_init_43 : decode cX1_init 43 = .ok (.newarray .int, 2) := by decide +kernel
theorem dX1_init_45 : decode cX1_init 45 = .ok (.putfield 24, 3) := by decide +kernel
theorem dX1_init_48 : decode cX1_init 48 = .ok (.aload_n 0, 1) := by decide +kernel
theorem dX1_init_49 : decode cX1_init 49 = .ok (.iconst 0, 1) := by decide +kernel
theorem dX1_init_50 : decode cX1_init 50 = .ok (.putfield 27, 3) := by decide +kernel
theorem dX1_init_53 : decode cX1_init 53 = .ok (.aload_n 0, 1) := by decide +kernel
theorem dX1_init_54 : decode cX1_init 54 = .ok (.iconst 0, 1) := by decide +kernel
theorem dX1_init_55 : decode cX1_init 55 = .ok (.putfield 31, 3) := by decide +kernel
theorem dX1_init_58 : decode cX1_init 58 = .ok (.aload_n 0, 1) := by decide +kernel
theorem dX1_init_59 : decode cX1_init 59 = .ok (.iconst (-1), 1) := by decide +kernel
theorem dX1_init_60 : decode cX1_init 60 = .ok (.putfield 35, 3) := by decide +kernel
theorem dX1_init_63 : decode cX1_init 63 = .ok (.aload_n 0, 1) := by decide +kernel
theorem dX1_init_64 : decode cX1_init 64 = .ok (.iconst (-1), 1) := by decide +kernel
theorem dX1_init_65 : decode cX1_init 65 = .ok (.putfield 38, 3) := by decide +kernel
theorem dX1_init_68 : decode cX1_init 68 = .ok (.aload_n 0, 1) := by decide +kernel
theorem dX1_init_69 : decode cX1_init 69 = .ok (.iconst (-1), 1) := by decide +kernel
theorem dX1_init_70 : decode cX1_init 70 = .ok (.putfield 41, 3) := by decide +kernel
theorem dX1_init_73 : decode cX1_init 73 = .ok (.aload_n 0, 1) := by decide +kernel
theorem dX1_init_74 : decode cX1_init 74 = .ok (.iconst (-1), 1) := by decide +kernel
theorem dX1_init_75 : decode cX1_init 75 = .ok (.putfield 44, 3) := by decide +kernel
theorem dX1_init_78 : decode cX1_init 78 = .ok (.aload_n 0, 1) := by decide +kernel
theorem dX1_init_79 : decode cX1_init 79 = .ok (.iconst (-1), 1) := by decide +kernel
theorem dX1_init_80 : decode cX1_init 80 = .ok (.putfield 47, 3) := by decide +kernel
theorem dX1_init_83 : decode cX1_init 83 = .ok (.aload_n 0, 1) := by decide +kernel
theorem dX1_init_84 : decode cX1_init 84 = .ok (.iload_n 1, 1) := by decide +kernel
theorem dX1_init_85 : decode cX1_init 85 = .ok (.putfield 50, 3) := by decide +kernel
theorem dX1_init_88 : decode cX1_init 88 = .ok (.aload_n 0, 1) := by decide +kernel
theorem dX1_init_89 : decode cX1_init 89 = .ok (.aload_n 2, 1) := by decide +kernel
theorem dX1_init_90 : decode cX1_init 90 = .ok (.putfield 53, 3) := by decide +kernel
theorem dX1_init_93 : decode cX1_init 93 = .ok (.aload_n 0, 1) := by decide +kernel
theorem dX1_init_94 : decode cX1_init 94 = .ok (.aload_n 3, 1) := by decide +kernel
theorem dX1_init_95 : decode cX1_init 95 = .ok (.putfield 57, 3) := by decide +kernel
theorem dX1_init_98 : decode cX1_init 98 = .ok (.aload_n 0, 1) := by decide +kernel
theorem dX1_init_99 : decode cX1_init 99 = .ok (.aload 4, 2) := by decide +kernel
theorem dX1_init_101 : decode cX1_init 101 = .ok (.putfield 61, 3) := by decide +kernel
theorem dX1_init_104 : decode cX1_init 104 = .ok (.aload_n 0, 1) := by decide +kernel
theorem dX1_init_105 : decode cX1_init 105 = .ok (.aload 5, 2) := by decide +kernel
theorem dX1_init_107 : decode cX1_init 107 = .ok (.putfield 65, 3) := by decide +kernel
theorem dX1_init_110 : decode cX1_init 110 = .ok (.return_, 1) := by decide +kernel
theorem dX1_forget_0 : decode cX1_forget 0 = .ok (.aload_n 0, 1) := by decide +kernel
theorem dX1_forget_1 : decode cX1_forget 1 = .ok (.iconst 0, 1) := by decide +kernel
theorem dX1_forget_2 : decode cX1_forget 2 = .ok (.putfield 31, 3) := by decide +kernel
theorem dX1_forget_5 : decode cX1_forget 5 = .ok (.return_, 1) := by decide +kernel
theorem dX1_isKnown_0 : decode cX1_isKnown 0 = .ok (.aload_n 0, 1) := by decide +kernel
theorem dX1_isKnown_1 : decode cX1_isKnown 1 = .ok (.getfield 31, 3) := by decide +kernel
theorem dX1_isKnown_4 : decode cX1_isKnown 4 = .ok (.ireturn, 1) := by decide +kernel
theorem dX1_begin_0 : decode cX1_begin 0 = .ok (.aload_n 0, 1) := by decide +kernel
theorem dX1_begin_1 : decode cX1_begin 1 = .ok (.iconst 1, 1) := by decide +kernel
theorem dX1_begin_2 : decode cX1_begin 2 = .ok (.putfield 31, 3) := by decide +kernel
theorem dX1_begin_5 : decode cX1_begin 5 = .ok (.aload_n 0, 1) := by decide +kernel
theorem dX1_begin_6 : decode cX1_begin 6 = .ok (.iconst 0, 1) := by decide +kernel
theorem dX1_begin_7 : decode cX1_begin 7 = .ok (.putfield 27, 3) := by decide +kernel
theorem dX1_begin_10 : decode cX1_begin 10 = .ok (.aload_n 0, 1) := by decide +kernel
theorem dX1_begin_11 : decode cX1_begin 11 = .ok (.getfield 53, 3) := by decide +kernel
theorem dX1_begin_14 : decode cX1_begin 14 = .ok (.aload_n 0, 1) := by decide +kernel
theorem dX1_begin_15 : decode cX1_begin 15 = .ok (.getfield 50, 3) := by decide +kernel
theorem dX1_begin_18 : decode cX1_begin 18 = .ok (.invokevirtual 69, 3) := by decide +kernel
theorem dX1_begin_21 : decode cX1_begin 21 = .ok (.astore_n 1, 1) := by decide +kernel
theorem dX1_begin_22 : decode cX1_begin 22 = .ok (.aload_n 1, 1) := by decide +kernel
theorem dX1_begin_23 : decode cX1_begin 23 = .ok (.ifnonnull 5, 3) := by decide +kernel
theorem dX1_begin_26 : decode cX1_begin 26 = .ok (.iconst (-1), 1) := by decide +kernel
theorem dX1_begin_27 : decode cX1_begin 27 = .ok (.ireturn, 1) := by decide +kernel
theorem dX1_begin_28 : decode cX1_begin 28 = .ok (.aload_n 0, 1) := by decide +kernel
theorem dX1_begin_29 : decode cX1_begin 29 = .ok (.aload_n 1, 1) := by decide +kernel
theorem dX1_begin_30 : decode cX1_begin 30 = .ok (.getfield 75, 3) := by decide +kernel
theorem dX1_begin_33 : decode cX1_begin 33 = .ok (.putfield 35, 3) := by decide +kernel
theorem dX1_begin_36 : decode cX1_begin 36 = .ok (.aload_n 0, 1) := by decide +kernel
theorem dX1_begin_37 : decode cX1_begin 37 = .ok (.aload_n 1, 1) := by decide +kernel
theorem dX1_begin_38 : decode cX1_begin 38 = .ok (.getfield 78, 3) := by decide +kernel
theorem dX1_begin_41 : decode cX1_begin 41 = .ok (.putfield 38, 3) := by decide +kernel
theorem dX1_begin_44 : decode cX1_begin 44 = .ok (.aload_n 0, 1) := by decide +kernel
theorem dX1_begin_45 : decode cX1_begin 45 = .ok (.aload_n 0, 1) := by decide +kernel
theorem dX1_begin_46 : decode cX1_begin 46 = .ok (.getfield 38, 3) := by decide +kernel
theorem dX1_begin_49 : decode cX1_begin 49 = .ok (.putfield 41, 3) := by decide +kernel
theorem dX1_begin_52 : decode cX1_begin 52 = .ok (.aload_n 0, 1) := by decide +kernel
theorem dX1_begin_53 : decode cX1_begin 53 = .ok (.aload_n 0, 1) := by decide +kernel
theorem dX1_begin_54 : decode cX1_begin 54 = .ok (.getfield 38, 3) := by decide +kernel
theorem dX1_begin_57 : decode cX1_begin 57 = .ok (.putfield 44, 3) := by decide +kernel
theorem dX1_begin_60 : decode cX1_begin 60 = .ok (.aload_n 0, 1) := by decide +kernel
theorem dX1_begin_61 : decode cX1_begin 61 = .ok (.aload_n 1, 1) := by decide +kernel
theorem dX1_begin_62 : decode cX1_begin 62 = .ok (.getfield 81, 3) := by decide +kernel
theorem dX1_begin_65 : decode cX1_begin 65 = .ok (.putfield 47, 3) := by decide +kernel
theorem dX1_begin_68 : decode cX1_begin 68 = .ok (.aload_n 0, 1) := by decide +kernel
theorem dX1_begin_69 : decode cX1_begin 69 = .ok (.invokevirtual 84, 3) := by decide +kernel
theorem dX1_begin_72 : decode cX1_begin 72 = .ok (.aload_n 1, 1) := by decide +kernel
theorem dX1_begin_73 : decode cX1_begin 73 = .ok (.getfield 81, 3) := by decide +kernel
theorem dX1_begin_76 : decode cX1_begin 76 = .ok (.ireturn, 1) := by decide +kernel
theorem dX1_noteYields_0 : decode cX1_noteYields 0 = .ok (.iconst 0, 1) := by decide +kernel
theorem dX1_noteYields_1 : decode cX1_noteYields 1 = .ok (.istore_n 1, 1) := by decide +kernel
theorem dX1_noteYields_2 : decode cX1_noteYields 2 = .ok (.iload_n 1, 1) := by decide +kernel
theorem dX1_noteYields_3 : decode cX1_noteYields 3 = .ok (.bipush 64, 2) := by decide +kernel
theorem dX1_noteYields_5 : decode cX1_noteYields 5 = .ok (.if_icmp .ge 16, 3) := by decide +kernel
theorem dX1_noteYields_8 : decode cX1_noteYields 8 = .ok (.aload_n 0, 1) := by decide +kernel
theorem dX1_noteYields_9 : decode cX1_noteYields 9 = .ok (.getfield 9, 3) := by decide +kernel
theorem dX1_noteYields_12 : decode cX1_noteYields 12 = .ok (.iload_n 1, 1) := by decide +kernel
theorem dX1_noteYields_13 : decode cX1_noteYields 13 = .ok (.iconst (-1), 1) := by decide +kernel
theorem dX1_noteYields_14 : decode cX1_noteYields 14 = .ok (.iastore, 1) := by decide +kernel
theorem dX1_noteYields_15 : decode cX1_noteYields 15 = .ok (.iinc 1 1, 3) := by decide +kernel
theorem dX1_noteYields_18 : decode cX1_noteYields 18 = .ok (.goto (-16), 3) := by decide +kernel
theorem dX1_noteYields_21 : decode cX1_noteYields 21 = .ok (.iconst 0, 1) := by decide +kernel
theorem dX1_noteYields_22 : decode cX1_noteYields 22 = .ok (.istore_n 1, 1) := by decide +kernel
theorem dX1_noteYields_23 : decode cX1_noteYields 23 = .ok (.iload_n 1, 1) := by decide +kernel
theorem dX1_noteYields_24 : decode cX1_noteYields 24 = .ok (.aload_n 0, 1) := by decide +kernel
theorem dX1_noteYields_25 : decode cX1_noteYields 25 = .ok (.getfield 53, 3) := by decide +kernel
theorem dX1_noteYields_28 : decode cX1_noteYields 28 = .ok (.invokevirtual 87, 3) := by decide +kernel
theorem dX1_noteYields_31 : decode cX1_noteYields 31 = .ok (.if_icmp .ge 67, 3) := by decide +kernel
theorem dX1_noteYields_34 : decode cX1_noteYields 34 = .ok (.aload_n 0, 1) := by decide +kernel
theorem dX1_noteYields_35 : decode cX1_noteYields 35 = .ok (.getfield 53, 3) := by decide +kernel
theorem dX1_noteYields_38 : decode cX1_noteYields 38 = .ok (.iload_n 1, 1) := by decide +kernel
theorem dX1_noteYields_39 : decode cX1_noteYields 39 = .ok (.invokevirtual 90, 3) := by decide +kernel
theorem dX1_noteYields_42 : decode cX1_noteYields 42 = .ok (.astore_n 2, 1) := by decide +kernel
theorem dX1_noteYields_43 : decode cX1_noteYields 43 = .ok (.aload_n 2, 1) := by decide +kernel
theorem dX1_noteYields_44 : decode cX1_noteYields 44 = .ok (.ifnull 48, 3) := by decide +kernel
theorem dX1_noteYields_47 : decode cX1_noteYields 47 = .ok (.aload_n 2, 1) := by decide +kernel
theorem dX1_noteYields_48 : decode cX1_noteYields 48 = .ok (.getfield 93, 3) := by decide +kernel
theorem dX1_noteYields_51 : decode cX1_noteYields 51 = .ok (.iconst 5, 1) := by decide +kernel
theorem dX1_noteYields_52 : decode cX1_noteYields 52 = .ok (.if_icmp .ne 40, 3) := by decide +kernel
theorem dX1_noteYields_55 : decode cX1_noteYields 55 = .ok (.aload_n 2, 1) := by decide +kernel
theorem dX1_noteYields_56 : decode cX1_noteYields 56 = .ok (.getfield 96, 3) := by decide +kernel
theorem dX1_noteYields_59 : decode cX1_noteYields 59 = .ok (.aload_n 0, 1) := by decide +kernel
theorem dX1_noteYields_60 : decode cX1_noteYields 60 = .ok (.getfield 50, 3) := by decide +kernel
theorem dX1_noteYields_63 : decode cX1_noteYields 63 = .ok (.if_icmp .eq 6, 3) := by decide +kernel
theorem dX1_noteYields_66 : decode cX1_noteYields 66 = .ok (.goto 26, 3) := by decide +kernel
theorem dX1_noteYields_69 : decode cX1_noteYields 69 = .ok (.aload_n 2, 1) := by decide +kernel
theorem dX1_noteYields_70 : decode cX1_noteYields 70 = .ok (.getfield 78, 3) := by decide +kernel
theorem dX1_noteYields_73 : decode cX1_noteYields 73 = .ok (.invokestatic 97, 3) := by decide +kernel
theorem dX1_noteYields_76 : decode cX1_noteYields 76 = .ok (.ifCond .eq 16, 3) := by decide +kernel
theorem dX1_noteYields_79 : decode cX1_noteYields 79 = .ok (.aload_n 0, 1) := by decide +kernel
theorem dX1_noteYields_80 : decode cX1_noteYields 80 = .ok (.getfield 9, 3) := by decide +kernel
theorem dX1_noteYields_83 : decode cX1_noteYields 83 = .ok (.aload_n 2, 1) := by decide +kernel
theorem dX1_noteYields_84 : decode cX1_noteYields 84 = .ok (.getfield 78, 3) := by decide +kernel
theorem dX1_noteYields_87 : decode cX1_noteYields 87 = .ok (.aload_n 2, 1) := by decide +kernel
theorem dX1_noteYields_88 : decode cX1_noteYields 88 = .ok (.getfield 81, 3) := by decide +kernel
theorem dX1_noteYields_91 : decode cX1_noteYields 91 = .ok (.iastore, 1) := by decide +kernel
theorem dX1_noteYields_92 : decode cX1_noteYields 92 = .ok (.iinc 1 1, 3) := by decide +kernel
theorem dX1_noteYields_95 : decode cX1_noteYields 95 = .ok (.goto (-72), 3) := by decide +kernel
theorem dX1_noteYields_98 : decode cX1_noteYields 98 = .ok (.return_, 1) := by decide +kernel
theorem dX1_nextDay_0 : decode cX1_nextDay 0 = .ok (.iconst (-1), 1) := by decide +kernel
theorem dX1_nextDay_1 : decode cX1_nextDay 1 = .ok (.istore_n 2, 1) := by decide +kernel
theorem dX1_nextDay_2 : decode cX1_nextDay 2 = .ok (.iconst 0, 1) := by decide +kernel
theorem dX1_nextDay_3 : decode cX1_nextDay 3 = .ok (.istore_n 3, 1) := by decide +kernel
theorem dX1_nextDay_4 : decode cX1_nextDay 4 = .ok (.iload_n 3, 1) := by decide +kernel
theorem dX1_nextDay_5 : decode cX1_nextDay 5 = .ok (.aload_n 0, 1) := by decide +kernel
theorem dX1_nextDay_6 : decode cX1_nextDay 6 = .ok (.getfield 53, 3) := by decide +kernel
theorem dX1_nextDay_9 : decode cX1_nextDay 9 = .ok (.invokevirtual 87, 3) := by decide +kernel
theorem dX1_nextDay_12 : decode cX1_nextDay 12 = .ok (.if_icmp .ge 65, 3) := by decide +kernel
theorem dX1_nextDay_15 : decode cX1_nextDay 15 = .ok (.aload_n 0, 1) := by decide +kernel
theorem dX1_nextDay_16 : decode cX1_nextDay 16 = .ok (.getfield 53, 3) := by decide +kernel
theorem dX1_nextDay_19 : decode cX1_nextDay 19 = .ok (.iload_n 3, 1) := by decide +kernel
theorem dX1_nextDay_20 : decode cX1_nextDay 20 = .ok (.invokevirtual 90, 3) := by decide +kernel
theorem dX1_nextDay_23 : decode cX1_nextDay 23 = .ok (.astore 4, 2) := by decide +kernel
theorem dX1_nextDay_25 : decode cX1_nextDay 25 = .ok (.aload 4, 2) := by decide +kernel
theorem dX1_nextDay_27 : decode cX1_nextDay 27 = .ok (.ifnull 44, 3) := by decide +kernel
theorem dX1_nextDay_30 : decode cX1_nextDay 30 = .ok (.aload 4, 2) := by decide +kernel
theorem dX1_nextDay_32 : decode cX1_nextDay 32 = .ok (.getfield 81, 3) := by decide +kernel
theorem dX1_nextDay_35 : decode cX1_nextDay 35 = .ok (.iload_n 1, 1) := by decide +kernel
theorem dX1_nextDay_36 : decode cX1_nextDay 36 = .ok (.if_icmp .le 35, 3) := by decide +kernel
theorem dX1_nextDay_39 : decode cX1_nextDay 39 = .ok (.aload_n 0, 1) := by decide +kernel
theorem dX1_nextDay_40 : decode cX1_nextDay 40 = .ok (.aload 4, 2) := by decide +kernel
theorem dX1_nextDay_42 : decode cX1_nextDay 42 = .ok (.invokevirtual 101, 3) := by decide +kernel
theorem dX1_nextDay_45 : decode cX1_nextDay 45 = .ok (.ifCond .ne 6, 3) := by decide +kernel
theorem dX1_nextDay_48 : decode cX1_nextDay 48 = .ok (.goto 23, 3) := by decide +kernel
theorem dX1_nextDay_51 : decode cX1_nextDay 51 = .ok (.iload_n 2, 1) := by decide +kernel
theorem dX1_nextDay_52 : decode cX1_nextDay 52 = .ok (.iconst (-1), 1) := by decide +kernel
theorem dX1_nextDay_53 : decode cX1_nextDay 53 = .ok (.if_icmp .eq 12, 3) := by decide +kernel
theorem dX1_nextDay_56 : decode cX1_nextDay 56 = .ok (.aload 4, 2) := by decide +kernel
theorem dX1_nextDay_58 : decode cX1_nextDay 58 = .ok (.getfield 81, 3) := by decide +kernel
theorem dX1_nextDay_61 : decode cX1_nextDay 61 = .ok (.iload_n 2, 1) := by decide +kernel
theorem dX1_nextDay_62 : decode cX1_nextDay 62 = .ok (.if_icmp .ge 9, 3) := by decide +kernel
theorem dX1_nextDay_65 : decode cX1_nextDay 65 = .ok (.aload 4, 2) := by decide +kernel
theorem dX1_nextDay_67 : decode cX1_nextDay 67 = .ok (.getfield 81, 3) := by decide +kernel
theorem dX1_nextDay_70 : decode cX1_nextDay 70 = .ok (.istore_n 2, 1) := by decide +kernel
theorem dX1_nextDay_71 : decode cX1_nextDay 71 = .ok (.iinc 3 1, 3) := by decide +kernel
theorem dX1_nextDay_74 : decode cX1_nextDay 74 = .ok (.goto (-70), 3) := by decide +kernel
theorem dX1_nextDay_77 : decode cX1_nextDay 77 = .ok (.iload_n 2, 1) := by decide +kernel
theorem dX1_nextDay_78 : decode cX1_nextDay 78 = .ok (.ireturn, 1) := by decide +kernel
theorem dX1_couldMove_0 : decode cX1_couldMove 0 = .ok (.aload_n 1, 1) := by decide +kernel
theorem dX1_couldMove_1 : decode cX1_couldMove 1 = .ok (.getfield 93, 3) := by decide +kernel
theorem dX1_couldMove_4 : decode cX1_couldMove 4 = .ok (.ifCond .eq 22, 3) := by decide +kernel
theorem dX1_couldMove_7 : decode cX1_couldMove 7 = .ok (.aload_n 1, 1) := by decide +kernel
theorem dX1_couldMove_8 : decode cX1_couldMove 8 = .ok (.getfield 93, 3) := by decide +kernel
theorem dX1_couldMove_11 : decode cX1_couldMove 11 = .ok (.iconst 3, 1) := by decide +kernel
theorem dX1_couldMove_12 : decode cX1_couldMove 12 = .ok (.if_icmp .eq 14, 3) := by decide +kernel
theorem dX1_couldMove_15 : decode cX1_couldMove 15 = .ok (.aload_n 1, 1) := by decide +kernel
theorem dX1_couldMove_16 : decode cX1_couldMove 16 = .ok (.getfield 96, 3) := by decide +kernel
theorem dX1_couldMove_19 : decode cX1_couldMove 19 = .ok (.aload_n 0, 1) := by decide +kernel
theorem dX1_couldMove_20 : decode cX1_couldMove 20 = .ok (.getfield 50, 3) := by decide +kernel
theorem dX1_couldMove_23 : decode cX1_couldMove 23 = .ok (.if_icmp .ne 7, 3) := by decide +kernel
theorem dX1_couldMove_26 : decode cX1_couldMove 26 = .ok (.iconst 1, 1) := by decide +kernel
theorem dX1_couldMove_27 : decode cX1_couldMove 27 = .ok (.goto 4, 3) := by decide +kernel
theorem dX1_couldMove_30 : decode cX1_couldMove 30 = .ok (.iconst 0, 1) := by decide +kernel
theorem dX1_couldMove_31 : decode cX1_couldMove 31 = .ok (.ireturn, 1) := by decide +kernel
theorem dX1_goThrough_0 : decode cX1_goThrough 0 = .ok (.aload_n 0, 1) := by decide +kernel
theorem dX1_goThrough_1 : decode cX1_goThrough 1 = .ok (.getfield 44, 3) := by decide +kernel
theorem dX1_goThrough_4 : decode cX1_goThrough 4 = .ok (.istore_n 2, 1) := by decide +kernel
theorem dX1_goThrough_5 : decode cX1_goThrough 5 = .ok (.aload_n 0, 1) := by decide +kernel
theorem dX1_goThrough_6 : decode cX1_goThrough 6 = .ok (.getfield 53, 3) := by decide +kernel
theorem dX1_goThrough_9 : decode cX1_goThrough 9 = .ok (.aload_n 0, 1) := by decide +kernel
theorem dX1_goThrough_10 : decode cX1_goThrough 10 = .ok (.getfield 50, 3) := by decide +kernel
theorem dX1_goThrough_13 : decode cX1_goThrough 13 = .ok (.iload_n 1, 1) := by decide +kernel
theorem dX1_goThrough_14 : decode cX1_goThrough 14 = .ok (.invokevirtual 105, 3) := by decide +kernel
theorem dX1_goThrough_17 : decode cX1_goThrough 17 = .ok (.astore_n 3, 1) := by decide +kernel
theorem dX1_goThrough_18 : decode cX1_goThrough 18 = .ok (.aload_n 3, 1) := by decide +kernel
theorem dX1_goThrough_19 : decode cX1_goThrough 19 = .ok (.ifnull 21, 3) := by decide +kernel
theorem dX1_goThrough_22 : decode cX1_goThrough 22 = .ok (.aload_n 3, 1) := by decide +kernel
theorem dX1_goThrough_23 : decode cX1_goThrough 23 = .ok (.getfield 93, 3) := by decide +kernel
theorem dX1_goThrough_26 : decode cX1_goThrough 26 = .ok (.bipush 7, 2) := by decide +kernel
theorem dX1_goThrough_28 : decode cX1_goThrough 28 = .ok (.if_icmp .ne 12, 3) := by decide +kernel
theorem dX1_goThrough_31 : decode cX1_goThrough 31 = .ok (.aload_n 0, 1) := by decide +kernel
theorem dX1_goThrough_32 : decode cX1_goThrough 32 = .ok (.bipush (-3), 2) := by decide +kernel
theorem dX1_goThrough_34 : decode cX1_goThrough 34 = .ok (.putfield 44, 3) := by decide +kernel
theorem dX1_goThrough_37 : decode cX1_goThrough 37 = .ok (.goto 60, 3) := by decide +kernel
theorem dX1_goThrough_40 : decode cX1_goThrough 40 = .ok (.aload_n 3, 1) := by decide +kernel
theorem dX1_goThrough_41 : decode cX1_goThrough 41 = .ok (.ifnull 21, 3) := by decide +kernel
theorem dX1_goThrough_44 : decode cX1_goThrough 44 = .ok (.aload_n 3, 1) := by decide +kernel
theorem dX1_goThrough_45 : decode cX1_goThrough 45 = .ok (.getfield 81, 3) := by decide +kernel
theorem dX1_goThrough_48 : decode cX1_goThrough 48 = .ok (.iload_n 1, 1) := by decide +kernel
theorem dX1_goThrough_49 : decode cX1_goThrough 49 = .ok (.if_icmp .ne 13, 3) := by decide +kernel
theorem dX1_goThrough_52 : decode cX1_goThrough 52 = .ok (.aload_n 0, 1) := by decide +kernel
theorem dX1_goThrough_53 : decode cX1_goThrough 53 = .ok (.iload_n 1, 1) := by decide +kernel
theorem dX1_goThrough_54 : decode cX1_goThrough 54 = .ok (.invokevirtual 109, 3) := by decide +kernel
theorem dX1_goThrough_57 : decode cX1_goThrough 57 = .ok (.aload_n 0, 1) := by decide +kernel
theorem dX1_goThrough_58 : decode cX1_goThrough 58 = .ok (.iload_n 1, 1) := by decide +kernel
theorem dX1_goThrough_59 : decode cX1_goThrough 59 = .ok (.putfield 47, 3) := by decide +kernel
theorem dX1_goThrough_62 : decode cX1_goThrough 62 = .ok (.aload_n 0, 1) := by decide +kernel
theorem dX1_goThrough_63 : decode cX1_goThrough 63 = .ok (.iload_n 1, 1) := by decide +kernel
theorem dX1_goThrough_64 : decode cX1_goThrough 64 = .ok (.invokevirtual 113, 3) := by decide +kernel
theorem dX1_goThrough_67 : decode cX1_goThrough 67 = .ok (.ifCond .eq 11, 3) := by decide +kernel
theorem dX1_goThrough_70 : decode cX1_goThrough 70 = .ok (.aload_n 0, 1) := by decide +kernel
theorem dX1_goThrough_71 : decode cX1_goThrough 71 = .ok (.iload_n 1, 1) := by decide +kernel
theorem dX1_goThrough_72 : decode cX1_goThrough 72 = .ok (.invokevirtual 109, 3) := by decide +kernel
theorem dX1_goThrough_75 : decode cX1_goThrough 75 = .ok (.goto 8, 3) := by decide +kernel
theorem dX1_goThrough_78 : decode cX1_goThrough 78 = .ok (.aload_n 0, 1) := by decide +kernel
theorem dX1_goThrough_79 : decode cX1_goThrough 79 = .ok (.iload_n 1, 1) := by decide +kernel
theorem dX1_goThrough_80 : decode cX1_goThrough 80 = .ok (.invokevirtual 116, 3) := by decide +kernel
theorem dX1_goThrough_83 : decode cX1_goThrough 83 = .ok (.aload_n 0, 1) := by decide +kernel
theorem dX1_goThrough_84 : decode cX1_goThrough 84 = .ok (.getfield 44, 3) := by decide +kernel
theorem dX1_goThrough_87 : decode cX1_goThrough 87 = .ok (.bipush (-2), 2) := by decide +kernel
theorem dX1_goThrough_89 : decode cX1_goThrough 89 = .ok (.if_icmp .ne 8, 3) := by decide +kernel
theorem dX1_goThrough_92 : decode cX1_goThrough 92 = .ok (.aload_n 0, 1) := by decide +kernel
theorem dX1_goThrough_93 : decode cX1_goThrough 93 = .ok (.iload_n 1, 1) := by decide +kernel
theorem dX1_goThrough_94 : decode cX1_goThrough 94 = .ok (.invokevirtual 119, 3) := by decide +kernel
theorem dX1_goThrough_97 : decode cX1_goThrough 97 = .ok (.aload_n 0, 1) := by decide +kernel
theorem dX1_goThrough_98 : decode cX1_goThrough 98 = .ok (.getfield 44, 3) := by decide +kernel
theorem dX1_goThrough_101 : decode cX1_goThrough 101 = .ok (.iload_n 2, 1) := by decide +kernel
theorem dX1_goThrough_102 : decode cX1_goThrough 102 = .ok (.if_icmp .eq 8, 3) := by decide +kernel
theorem dX1_goThrough_105 : decode cX1_goThrough 105 = .ok (.aload_n 0, 1) := by decide +kernel
theorem dX1_goThrough_106 : decode cX1_goThrough 106 = .ok (.iload_n 1, 1) := by decide +kernel
theorem dX1_goThrough_107 : decode cX1_goThrough 107 = .ok (.putfield 47, 3) := by decide +kernel
theorem dX1_goThrough_110 : decode cX1_goThrough 110 = .ok (.aload_n 0, 1) := by decide +kernel
theorem dX1_goThrough_111 : decode cX1_goThrough 111 = .ok (.iload_n 1, 1) := by decide +kernel
theorem dX1_goThrough_112 : decode cX1_goThrough 112 = .ok (.invokevirtual 122, 3) := by decide +kernel
theorem dX1_goThrough_115 : decode cX1_goThrough 115 = .ok (.return_, 1) := by decide +kernel
theorem dX1_note_0 : decode cX1_note 0 = .ok (.aload_n 0, 1) := by decide +kernel
theorem dX1_note_1 : decode cX1_note 1 = .ok (.getfield 27, 3) := by decide +kernel
theorem dX1_note_4 : decode cX1_note 4 = .ok (.sipush 200, 3) := by decide +kernel
theorem dX1_note_7 : decode cX1_note 7 = .ok (.if_icmp .lt 4, 3) := by decide +kernel
theorem dX1_note_10 : decode cX1_note 10 = .ok (.return_, 1) := by decide +kernel
theorem dX1_note_11 : decode cX1_note 11 = .ok (.aload_n 0, 1) := by decide +kernel
theorem dX1_note_12 : decode cX1_note 12 = .ok (.getfield 15, 3) := by decide +kernel
theorem dX1_note_15 : decode cX1_note 15 = .ok (.aload_n 0, 1) := by decide +kernel
theorem dX1_note_16 : decode cX1_note 16 = .ok (.getfield 27, 3) := by decide +kernel
theorem dX1_note_19 : decode cX1_note 19 = .ok (.iload_n 1, 1) := by decide +kernel
theorem dX1_note_20 : decode cX1_note 20 = .ok (.iastore, 1) := by decide +kernel
theorem dX1_note_21 : decode cX1_note 21 = .ok (.aload_n 0, 1) := by decide +kernel
theorem dX1_note_22 : decode cX1_note 22 = .ok (.getfield 18, 3) := by decide +kernel
theorem dX1_note_25 : decode cX1_note 25 = .ok (.aload_n 0, 1) := by decide +kernel
theorem dX1_note_26 : decode cX1_note 26 = .ok (.getfield 27, 3) := by decide +kernel
theorem dX1_note_29 : decode cX1_note 29 = .ok (.aload_n 0, 1) := by decide +kernel
theorem dX1_note_30 : decode cX1_note 30 = .ok (.getfield 44, 3) := by decide +kernel
theorem dX1_note_33 : decode cX1_note 33 = .ok (.iastore, 1) := by decide +kernel
theorem dX1_note_34 : decode cX1_note 34 = .ok (.aload_n 0, 1) := by decide +kernel
theorem dX1_note_35 : decode cX1_note 35 = .ok (.getfield 21, 3) := by decide +kernel
theorem dX1_note_38 : decode cX1_note 38 = .ok (.aload_n 0, 1) := by decide +kernel
theorem dX1_note_39 : decode cX1_note 39 = .ok (.getfield 27, 3) := by decide +kernel
theorem dX1_note_42 : decode cX1_note 42 = .ok (.aload_n 0, 1) := by decide +kernel
theorem dX1_note_43 : decode cX1_note 43 = .ok (.getfield 41, 3) := by decide +kernel
theorem dX1_note_46 : decode cX1_note 46 = .ok (.iastore, 1) := by decide +kernel
theorem dX1_note_47 : decode cX1_note 47 = .ok (.aload_n 0, 1) := by decide +kernel
theorem dX1_note_48 : decode cX1_note 48 = .ok (.getfield 24, 3) := by decide +kernel
theorem dX1_note_51 : decode cX1_note 51 = .ok (.aload_n 0, 1) := by decide +kernel
theorem dX1_note_52 : decode cX1_note 52 = .ok (.getfield 27, 3) := by decide +kernel
theorem dX1_note_55 : decode cX1_note 55 = .ok (.aload_n 0, 1) := by decide +kernel
theorem dX1_note_56 : decode cX1_note 56 = .ok (.getfield 47, 3) := by decide +kernel
theorem dX1_note_59 : decode cX1_note 59 = .ok (.iastore, 1) := by decide +kernel
theorem dX1_note_60 : decode cX1_note 60 = .ok (.aload_n 0, 1) := by decide +kernel
theorem dX1_note_61 : decode cX1_note 61 = .ok (.dup, 1) := by decide +kernel
theorem dX1_note_62 : decode cX1_note 62 = .ok (.getfield 27, 3) := by decide +kernel
theorem dX1_note_65 : decode cX1_note 65 = .ok (.iconst 1, 1) := by decide +kernel
theorem dX1_note_66 : decode cX1_note 66 = .ok (.iadd, 1) := by decide +kernel
theorem dX1_note_67 : decode cX1_note 67 = .ok (.putfield 27, 3) := by decide +kernel
theorem dX1_note_70 : decode cX1_note 70 = .ok (.return_, 1) := by decide +kernel
theorem dX1_mustPass_0 : decode cX1_mustPass 0 = .ok (.aload_n 0, 1) := by decide +kernel
theorem dX1_mustPass_1 : decode cX1_mustPass 1 = .ok (.getfield 44, 3) := by decide +kernel
theorem dX1_mustPass_4 : decode cX1_mustPass 4 = .ok (.ifCond .lt 30, 3) := by decide +kernel
theorem dX1_mustPass_7 : decode cX1_mustPass 7 = .ok (.aload_n 0, 1) := by decide +kernel
theorem dX1_mustPass_8 : decode cX1_mustPass 8 = .ok (.getfield 57, 3) := by decide +kernel
theorem dX1_mustPass_11 : decode cX1_mustPass 11 = .ok (.aload_n 0, 1) := by decide +kernel
theorem dX1_mustPass_12 : decode cX1_mustPass 12 = .ok (.getfield 44, 3) := by decide +kernel
theorem dX1_mustPass_15 : decode cX1_mustPass 15 = .ok (.iload_n 1, 1) := by decide +kernel
theorem dX1_mustPass_16 : decode cX1_mustPass 16 = .ok (.invokevirtual 125, 3) := by decide +kernel
theorem dX1_mustPass_19 : decode cX1_mustPass 19 = .ok (.ifCond .eq 15, 3) := by decide +kernel
theorem dX1_mustPass_22 : decode cX1_mustPass 22 = .ok (.aload_n 0, 1) := by decide +kernel
theorem dX1_mustPass_23 : decode cX1_mustPass 23 = .ok (.aload_n 0, 1) := by decide +kernel
theorem dX1_mustPass_24 : decode cX1_mustPass 24 = .ok (.getfield 44, 3) := by decide +kernel
theorem dX1_mustPass_27 : decode cX1_mustPass 27 = .ok (.iload_n 1, 1) := by decide +kernel
theorem dX1_mustPass_28 : decode cX1_mustPass 28 = .ok (.invokevirtual 131, 3) := by decide +kernel
theorem dX1_mustPass_31 : decode cX1_mustPass 31 = .ok (.ifCond .eq 7, 3) := by decide +kernel
theorem dX1_mustPass_34 : decode cX1_mustPass 34 = .ok (.iconst 1, 1) := by decide +kernel
theorem dX1_mustPass_35 : decode cX1_mustPass 35 = .ok (.goto 4, 3) := by decide +kernel
theorem dX1_mustPass_38 : decode cX1_mustPass 38 = .ok (.iconst 0, 1) := by decide +kernel
theorem dX1_mustPass_39 : decode cX1_mustPass 39 = .ok (.ireturn, 1) := by decide +kernel
theorem dX1_hasYielded_0 : decode cX1_hasYielded 0 = .ok (.iload_n 1, 1) := by decide +kernel
theorem dX1_hasYielded_1 : decode cX1_hasYielded 1 = .ok (.invokestatic 97, 3) := by decide +kernel
theorem dX1_hasYielded_4 : decode cX1_hasYielded 4 = .ok (.ifCond .eq 27, 3) := by decide +kernel
theorem dX1_hasYielded_7 : decode cX1_hasYielded 7 = .ok (.aload_n 0, 1) := by decide +kernel
theorem dX1_hasYielded_8 : decode cX1_hasYielded 8 = .ok (.getfield 9, 3) := by decide +kernel
theorem dX1_hasYielded_11 : decode cX1_hasYielded 11 = .ok (.iload_n 1, 1) := by decide +kernel
theorem dX1_hasYielded_12 : decode cX1_hasYielded 12 = .ok (.iaload, 1) := by decide +kernel
theorem dX1_hasYielded_13 : decode cX1_hasYielded 13 = .ok (.iconst (-1), 1) := by decide +kernel
theorem dX1_hasYielded_14 : decode cX1_hasYielded 14 = .ok (.if_icmp .eq 17, 3) := by decide +kernel
theorem dX1_hasYielded_17 : decode cX1_hasYielded 17 = .ok (.aload_n 0, 1) := by decide +kernel
theorem dX1_hasYielded_18 : decode cX1_hasYielded 18 = .ok (.getfield 9, 3) := by decide +kernel
theorem dX1_hasYielded_21 : decode cX1_hasYielded 21 = .ok (.iload_n 1, 1) := by decide +kernel
theorem dX1_hasYielded_22 : decode cX1_hasYielded 22 = .ok (.iaload, 1) := by decide +kernel
theorem dX1_hasYielded_23 : decode cX1_hasYielded 23 = .ok (.iload_n 2, 1) := by decide +kernel
theorem dX1_hasYielded_24 : decode cX1_hasYielded 24 = .ok (.if_icmp .gt 7, 3) := by decide +kernel
theorem dX1_hasYielded_27 : decode cX1_hasYielded 27 = .ok (.iconst 1, 1) := by decide +kernel
theorem dX1_hasYielded_28 : decode cX1_hasYielded 28 = .ok (.goto 4, 3) := by decide +kernel
theorem dX1_hasYielded_31 : decode cX1_hasYielded 31 = .ok (.iconst 0, 1) := by decide +kernel
theorem dX1_hasYielded_32 : decode cX1_hasYielded 32 = .ok (.ireturn, 1) := by decide +kernel
theorem dX1_passOn_0 : decode cX1_passOn 0 = .ok (.aload_n 0, 1) := by decide +kernel
theorem dX1_passOn_1 : decode cX1_passOn 1 = .ok (.getfield 65, 3) := by decide +kernel
theorem dX1_passOn_4 : decode cX1_passOn 4 = .ok (.aload_n 0, 1) := by decide +kernel
theorem dX1_passOn_5 : decode cX1_passOn 5 = .ok (.getfield 35, 3) := by decide +kernel
theorem dX1_passOn_8 : decode cX1_passOn 8 = .ok (.aload_n 0, 1) := by decide +kernel
theorem dX1_passOn_9 : decode cX1_passOn 9 = .ok (.getfield 41, 3) := by decide +kernel
theorem dX1_passOn_12 : decode cX1_passOn 12 = .ok (.iload_n 1, 1) := by decide +kernel
theorem dX1_passOn_13 : decode cX1_passOn 13 = .ok (.aload_n 0, 1) := by decide +kernel
theorem dX1_passOn_14 : decode cX1_passOn 14 = .ok (.getfield 9, 3) := by decide +kernel
theorem dX1_passOn_17 : decode cX1_passOn 17 = .ok (.invokevirtual 134, 3) := by decide +kernel
theorem dX1_passOn_20 : decode cX1_passOn 20 = .ok (.aload_n 0, 1) := by decide +kernel
theorem dX1_passOn_21 : decode cX1_passOn 21 = .ok (.getfield 65, 3) := by decide +kernel
theorem dX1_passOn_24 : decode cX1_passOn 24 = .ok (.invokevirtual 140, 3) := by decide +kernel
theorem dX1_passOn_27 : decode cX1_passOn 27 = .ok (.ifCond .ne 42, 3) := by decide +kernel
theorem dX1_passOn_30 : decode cX1_passOn 30 = .ok (.aload_n 0, 1) := by decide +kernel
theorem dX1_passOn_31 : decode cX1_passOn 31 = .ok (.getfield 41, 3) := by decide +kernel
theorem dX1_passOn_34 : decode cX1_passOn 34 = .ok (.aload_n 0, 1) := by decide +kernel
theorem dX1_passOn_35 : decode cX1_passOn 35 = .ok (.getfield 38, 3) := by decide +kernel
theorem dX1_passOn_38 : decode cX1_passOn 38 = .ok (.if_icmp .eq 31, 3) := by decide +kernel
theorem dX1_passOn_41 : decode cX1_passOn 41 = .ok (.aload_n 0, 1) := by decide +kernel
theorem dX1_passOn_42 : decode cX1_passOn 42 = .ok (.aload_n 0, 1) := by decide +kernel
theorem dX1_passOn_43 : decode cX1_passOn 43 = .ok (.getfield 38, 3) := by decide +kernel
theorem dX1_passOn_46 : decode cX1_passOn 46 = .ok (.putfield 41, 3) := by decide +kernel
theorem dX1_passOn_49 : decode cX1_passOn 49 = .ok (.aload_n 0, 1) := by decide +kernel
theorem dX1_passOn_50 : decode cX1_passOn 50 = .ok (.getfield 65, 3) := by decide +kernel
theorem dX1_passOn_53 : decode cX1_passOn 53 = .ok (.aload_n 0, 1) := by decide +kernel
theorem dX1_passOn_54 : decode cX1_passOn 54 = .ok (.getfield 35, 3) := by decide +kernel
theorem dX1_passOn_57 : decode cX1_passOn 57 = .ok (.aload_n 0, 1) := by decide +kernel
theorem dX1_passOn_58 : decode cX1_passOn 58 = .ok (.getfield 41, 3) := by decide +kernel
theorem dX1_passOn_61 : decode cX1_passOn 61 = .ok (.iload_n 1, 1) := by decide +kernel
theorem dX1_passOn_62 : decode cX1_passOn 62 = .ok (.aload_n 0, 1) := by decide +kernel
theorem dX1_passOn_63 : decode cX1_passOn 63 = .ok (.getfield 9, 3) := by decide +kernel
theorem dX1_passOn_66 : decode cX1_passOn 66 = .ok (.invokevirtual 134, 3) := by decide +kernel
theorem dX1_passOn_69 : decode cX1_passOn 69 = .ok (.aload_n 0, 1) := by decide +kernel
theorem dX1_passOn_70 : decode cX1_passOn 70 = .ok (.getfield 65, 3) := by decide +kernel
theorem dX1_passOn_73 : decode cX1_passOn 73 = .ok (.invokevirtual 140, 3) := by decide +kernel
theorem dX1_passOn_76 : decode cX1_passOn 76 = .ok (.ifCond .ne 11, 3) := by decide +kernel
theorem dX1_passOn_79 : decode cX1_passOn 79 = .ok (.aload_n 0, 1) := by decide +kernel
theorem dX1_passOn_80 : decode cX1_passOn 80 = .ok (.iconst (-1), 1) := by decide +kernel
theorem dX1_passOn_81 : decode cX1_passOn 81 = .ok (.putfield 44, 3) := by decide +kernel
theorem dX1_passOn_84 : decode cX1_passOn 84 = .ok (.goto 37, 3) := by decide +kernel
theorem dX1_passOn_87 : decode cX1_passOn 87 = .ok (.aload_n 0, 1) := by decide +kernel
theorem dX1_passOn_88 : decode cX1_passOn 88 = .ok (.aload_n 0, 1) := by decide +kernel
theorem dX1_passOn_89 : decode cX1_passOn 89 = .ok (.getfield 35, 3) := by decide +kernel
theorem dX1_passOn_92 : decode cX1_passOn 92 = .ok (.iconst 5, 1) := by decide +kernel
theorem dX1_passOn_93 : decode cX1_passOn 93 = .ok (.if_icmp .ne 17, 3) := by decide +kernel
theorem dX1_passOn_96 : decode cX1_passOn 96 = .ok (.aload_n 0, 1) := by decide +kernel
theorem dX1_passOn_97 : decode cX1_passOn 97 = .ok (.getfield 65, 3) := by decide +kernel
theorem dX1_passOn_100 : decode cX1_passOn 100 = .ok (.aload_n 0, 1) := by decide +kernel
theorem dX1_passOn_101 : decode cX1_passOn 101 = .ok (.getfield 41, 3) := by decide +kernel
theorem dX1_passOn_104 : decode cX1_passOn 104 = .ok (.invokevirtual 141, 3) := by decide +kernel
theorem dX1_passOn_107 : decode cX1_passOn 107 = .ok (.goto 11, 3) := by decide +kernel
theorem dX1_passOn_110 : decode cX1_passOn 110 = .ok (.aload_n 0, 1) := by decide +kernel
theorem dX1_passOn_111 : decode cX1_passOn 111 = .ok (.getfield 65, 3) := by decide +kernel
theorem dX1_passOn_114 : decode cX1_passOn 114 = .ok (.iconst 0, 1) := by decide +kernel
theorem dX1_passOn_115 : decode cX1_passOn 115 = .ok (.invokevirtual 145, 3) := by decide +kernel
theorem dX1_passOn_118 : decode cX1_passOn 118 = .ok (.putfield 44, 3) := by decide +kernel
theorem dX1_passOn_121 : decode cX1_passOn 121 = .ok (.return_, 1) := by decide +kernel
theorem dX1_giveToChildBornLate_0 : decode cX1_giveToChildBornLate 0 = .ok (.aload_n 0, 1) := by decide +kernel
theorem dX1_giveToChildBornLate_1 : decode cX1_giveToChildBornLate 1 = .ok (.getfield 65, 3) := by decide +kernel
theorem dX1_giveToChildBornLate_4 : decode cX1_giveToChildBornLate 4 = .ok (.aload_n 0, 1) := by decide +kernel
theorem dX1_giveToChildBornLate_5 : decode cX1_giveToChildBornLate 5 = .ok (.getfield 35, 3) := by decide +kernel
theorem dX1_giveToChildBornLate_8 : decode cX1_giveToChildBornLate 8 = .ok (.aload_n 0, 1) := by decide +kernel
theorem dX1_giveToChildBornLate_9 : decode cX1_giveToChildBornLate 9 = .ok (.getfield 41, 3) := by decide +kernel
theorem dX1_giveToChildBornLate_12 : decode cX1_giveToChildBornLate 12 = .ok (.iload_n 1, 1) := by decide +kernel
theorem dX1_giveToChildBornLate_13 : decode cX1_giveToChildBornLate 13 = .ok (.aload_n 0, 1) := by decide +kernel
theorem dX1_giveToChildBornLate_14 : decode cX1_giveToChildBornLate 14 = .ok (.getfield 9, 3) := by decide +kernel
theorem dX1_giveToChildBornLate_17 : decode cX1_giveToChildBornLate 17 = .ok (.invokevirtual 134, 3) := by decide +kernel
theorem dX1_giveToChildBornLate_20 : decode cX1_giveToChildBornLate 20 = .ok (.aload_n 0, 1) := by decide +kernel
theorem dX1_giveToChildBornLate_21 : decode cX1_giveToChildBornLate 21 = .ok (.getfield 65, 3) := by decide +kernel
theorem dX1_giveToChildBornLate_24 : decode cX1_giveToChildBornLate 24 = .ok (.aload_n 0, 1) := by decide +kernel
theorem dX1_giveToChildBornLate_25 : decode cX1_giveToChildBornLate 25 = .ok (.getfield 44, 3) := by decide +kernel
theorem dX1_giveToChildBornLate_28 : decode cX1_giveToChildBornLate 28 = .ok (.invokevirtual 148, 3) := by decide +kernel
theorem dX1_giveToChildBornLate_31 : decode cX1_giveToChildBornLate 31 = .ok (.istore_n 2, 1) := by decide +kernel
theorem dX1_giveToChildBornLate_32 : decode cX1_giveToChildBornLate 32 = .ok (.iconst 0, 1) := by decide +kernel
theorem dX1_giveToChildBornLate_33 : decode cX1_giveToChildBornLate 33 = .ok (.istore_n 3, 1) := by decide +kernel
theorem dX1_giveToChildBornLate_34 : decode cX1_giveToChildBornLate 34 = .ok (.iload_n 3, 1) := by decide +kernel
theorem dX1_giveToChildBornLate_35 : decode cX1_giveToChildBornLate 35 = .ok (.iload_n 2, 1) := by decide +kernel
theorem dX1_giveToChildBornLate_36 : decode cX1_giveToChildBornLate 36 = .ok (.if_icmp .ge 93, 3) := by decide +kernel
theorem dX1_giveToChildBornLate_39 : decode cX1_giveToChildBornLate 39 = .ok (.aload_n 0, 1) := by decide +kernel
theorem dX1_giveToChildBornLate_40 : decode cX1_giveToChildBornLate 40 = .ok (.getfield 65, 3) := by decide +kernel
theorem dX1_giveToChildBornLate_43 : decode cX1_giveToChildBornLate 43 = .ok (.iload_n 3, 1) := by decide +kernel
theorem dX1_giveToChildBornLate_44 : decode cX1_giveToChildBornLate 44 = .ok (.invokevirtual 145, 3) := by decide +kernel
theorem dX1_giveToChildBornLate_47 : decode cX1_giveToChildBornLate 47 = .ok (.istore 4, 2) := by decide +kernel
theorem dX1_giveToChildBornLate_49 : decode cX1_giveToChildBornLate 49 = .ok (.aload_n 0, 1) := by decide +kernel
theorem dX1_giveToChildBornLate_50 : decode cX1_giveToChildBornLate 50 = .ok (.getfield 57, 3) := by decide +kernel
theorem dX1_giveToChildBornLate_53 : decode cX1_giveToChildBornLate 53 = .ok (.iload 4, 2) := by decide +kernel
theorem dX1_giveToChildBornLate_55 : decode cX1_giveToChildBornLate 55 = .ok (.invokevirtual 151, 3) := by decide +kernel
theorem dX1_giveToChildBornLate_58 : decode cX1_giveToChildBornLate 58 = .ok (.iload_n 1, 1) := by decide +kernel
theorem dX1_giveToChildBornLate_59 : decode cX1_giveToChildBornLate 59 = .ok (.if_icmp .ne 64, 3) := by decide +kernel
theorem dX1_giveToChildBornLate_62 : decode cX1_giveToChildBornLate 62 = .ok (.aload_n 0, 1) := by decide +kernel
theorem dX1_giveToChildBornLate_63 : decode cX1_giveToChildBornLate 63 = .ok (.getfield 61, 3) := by decide +kernel
theorem dX1_giveToChildBornLate_66 : decode cX1_giveToChildBornLate 66 = .ok (.iload 4, 2) := by decide +kernel
theorem dX1_giveToChildBornLate_68 : decode cX1_giveToChildBornLate 68 = .ok (.invokevirtual 154, 3) := by decide +kernel
theorem dX1_giveToChildBornLate_71 : decode cX1_giveToChildBornLate 71 = .ok (.ifCond .ne 6, 3) := by decide +kernel
theorem dX1_giveToChildBornLate_74 : decode cX1_giveToChildBornLate 74 = .ok (.goto 49, 3) := by decide +kernel
theorem dX1_giveToChildBornLate_77 : decode cX1_giveToChildBornLate 77 = .ok (.aload_n 0, 1) := by decide +kernel
theorem dX1_giveToChildBornLate_78 : decode cX1_giveToChildBornLate 78 = .ok (.getfield 57, 3) := by decide +kernel
theorem dX1_giveToChildBornLate_81 : decode cX1_giveToChildBornLate 81 = .ok (.aload_n 0, 1) := by decide +kernel
theorem dX1_giveToChildBornLate_82 : decode cX1_giveToChildBornLate 82 = .ok (.getfield 57, 3) := by decide +kernel
theorem dX1_giveToChildBornLate_85 : decode cX1_giveToChildBornLate 85 = .ok (.iload 4, 2) := by decide +kernel
theorem dX1_giveToChildBornLate_87 : decode cX1_giveToChildBornLate 87 = .ok (.invokevirtual 159, 3) := by decide +kernel
theorem dX1_giveToChildBornLate_90 : decode cX1_giveToChildBornLate 90 = .ok (.invokevirtual 162, 3) := by decide +kernel
theorem dX1_giveToChildBornLate_93 : decode cX1_giveToChildBornLate 93 = .ok (.istore 5, 2) := by decide +kernel
theorem dX1_giveToChildBornLate_95 : decode cX1_giveToChildBornLate 95 = .ok (.iload 5, 2) := by decide +kernel
theorem dX1_giveToChildBornLate_97 : decode cX1_giveToChildBornLate 97 = .ok (.iconst (-1), 1) := by decide +kernel
theorem dX1_giveToChildBornLate_98 : decode cX1_giveToChildBornLate 98 = .ok (.if_icmp .eq 25, 3) := by decide +kernel
theorem dX1_giveToChildBornLate_101 : decode cX1_giveToChildBornLate 101 = .ok (.iload 5, 2) := by decide +kernel
theorem dX1_giveToChildBornLate_103 : decode cX1_giveToChildBornLate 103 = .ok (.iload_n 1, 1) := by decide +kernel
theorem dX1_giveToChildBornLate_104 : decode cX1_giveToChildBornLate 104 = .ok (.if_icmp .ge 19, 3) := by decide +kernel
theorem dX1_giveToChildBornLate_107 : decode cX1_giveToChildBornLate 107 = .ok (.aload_n 0, 1) := by decide +kernel
theorem dX1_giveToChildBornLate_108 : decode cX1_giveToChildBornLate 108 = .ok (.getfield 47, 3) := by decide +kernel
theorem dX1_giveToChildBornLate_111 : decode cX1_giveToChildBornLate 111 = .ok (.iload 5, 2) := by decide +kernel
theorem dX1_giveToChildBornLate_113 : decode cX1_giveToChildBornLate 113 = .ok (.if_icmp .lt 10, 3) := by decide +kernel
theorem dX1_giveToChildBornLate_116 : decode cX1_giveToChildBornLate 116 = .ok (.aload_n 0, 1) := by decide +kernel
theorem dX1_giveToChildBornLate_117 : decode cX1_giveToChildBornLate 117 = .ok (.iload 4, 2) := by decide +kernel
theorem dX1_giveToChildBornLate_119 : decode cX1_giveToChildBornLate 119 = .ok (.putfield 44, 3) := by decide +kernel
theorem dX1_giveToChildBornLate_122 : decode cX1_giveToChildBornLate 122 = .ok (.return_, 1) := by decide +kernel
theorem dX1_giveToChildBornLate_123 : decode cX1_giveToChildBornLate 123 = .ok (.iinc 3 1, 3) := by decide +kernel
theorem dX1_giveToChildBornLate_126 : decode cX1_giveToChildBornLate 126 = .ok (.goto (-92), 3) := by decide +kernel
theorem dX1_giveToChildBornLate_129 : decode cX1_giveToChildBornLate 129 = .ok (.return_, 1) := by decide +kernel
theorem dX1_obeyCall_0 : decode cX1_obeyCall 0 = .ok (.iconst 0, 1) := by decide +kernel
theorem dX1_obeyCall_1 : decode cX1_obeyCall 1 = .ok (.istore_n 2, 1) := by decide +kernel
theorem dX1_obeyCall_2 : decode cX1_obeyCall 2 = .ok (.iload_n 2, 1) := by decide +kernel
theorem dX1_obeyCall_3 : decode cX1_obeyCall 3 = .ok (.aload_n 0, 1) := by decide +kernel
theorem dX1_obeyCall_4 : decode cX1_obeyCall 4 = .ok (.getfield 53, 3) := by decide +kernel
theorem dX1_obeyCall_7 : decode cX1_obeyCall 7 = .ok (.invokevirtual 87, 3) := by decide +kernel
theorem dX1_obeyCall_10 : decode cX1_obeyCall 10 = .ok (.if_icmp .ge 87, 3) := by decide +kernel
theorem dX1_obeyCall_13 : decode cX1_obeyCall 13 = .ok (.aload_n 0, 1) := by decide +kernel
theorem dX1_obeyCall_14 : decode cX1_obeyCall 14 = .ok (.getfield 53, 3) := by decide +kernel
theorem dX1_obeyCall_17 : decode cX1_obeyCall 17 = .ok (.iload_n 2, 1) := by decide +kernel
theorem dX1_obeyCall_18 : decode cX1_obeyCall 18 = .ok (.invokevirtual 90, 3) := by decide +kernel
theorem dX1_obeyCall_21 : decode cX1_obeyCall 21 = .ok (.astore_n 3, 1) := by decide +kernel
theorem dX1_obeyCall_22 : decode cX1_obeyCall 22 = .ok (.aload_n 3, 1) := by decide +kernel
theorem dX1_obeyCall_23 : decode cX1_obeyCall 23 = .ok (.ifnull 68, 3) := by decide +kernel
theorem dX1_obeyCall_26 : decode cX1_obeyCall 26 = .ok (.aload_n 3, 1) := by decide +kernel
theorem dX1_obeyCall_27 : decode cX1_obeyCall 27 = .ok (.getfield 93, 3) := by decide +kernel
theorem dX1_obeyCall_30 : decode cX1_obeyCall 30 = .ok (.bipush 6, 2) := by decide +kernel
theorem dX1_obeyCall_32 : decode cX1_obeyCall 32 = .ok (.if_icmp .ne 59, 3) := by decide +kernel
theorem dX1_obeyCall_35 : decode cX1_obeyCall 35 = .ok (.aload_n 3, 1) := by decide +kernel
theorem dX1_obeyCall_36 : decode cX1_obeyCall 36 = .ok (.getfield 96, 3) := by decide +kernel
theorem dX1_obeyCall_39 : decode cX1_obeyCall 39 = .ok (.aload_n 0, 1) := by decide +kernel
theorem dX1_obeyCall_40 : decode cX1_obeyCall 40 = .ok (.getfield 50, 3) := by decide +kernel
theorem dX1_obeyCall_43 : decode cX1_obeyCall 43 = .ok (.if_icmp .ne 48, 3) := by decide +kernel
theorem dX1_obeyCall_46 : decode cX1_obeyCall 46 = .ok (.aload_n 3, 1) := by decide +kernel
theorem dX1_obeyCall_47 : decode cX1_obeyCall 47 = .ok (.getfield 81, 3) := by decide +kernel
theorem dX1_obeyCall_50 : decode cX1_obeyCall 50 = .ok (.iload_n 1, 1) := by decide +kernel
theorem dX1_obeyCall_51 : decode cX1_obeyCall 51 = .ok (.if_icmp .eq 6, 3) := by decide +kernel
theorem dX1_obeyCall_54 : decode cX1_obeyCall 54 = .ok (.goto 37, 3) := by decide +kernel
theorem dX1_obeyCall_57 : decode cX1_obeyCall 57 = .ok (.aload_n 0, 1) := by decide +kernel
theorem dX1_obeyCall_58 : decode cX1_obeyCall 58 = .ok (.getfield 65, 3) := by decide +kernel
theorem dX1_obeyCall_61 : decode cX1_obeyCall 61 = .ok (.aload_n 3, 1) := by decide +kernel
theorem dX1_obeyCall_62 : decode cX1_obeyCall 62 = .ok (.getfield 78, 3) := by decide +kernel
theorem dX1_obeyCall_65 : decode cX1_obeyCall 65 = .ok (.invokevirtual 165, 3) := by decide +kernel
theorem dX1_obeyCall_68 : decode cX1_obeyCall 68 = .ok (.ifCond .ne 6, 3) := by decide +kernel
theorem dX1_obeyCall_71 : decode cX1_obeyCall 71 = .ok (.goto 20, 3) := by decide +kernel
theorem dX1_obeyCall_74 : decode cX1_obeyCall 74 = .ok (.aload_n 0, 1) := by decide +kernel
theorem dX1_obeyCall_75 : decode cX1_obeyCall 75 = .ok (.aload_n 3, 1) := by decide +kernel
theorem dX1_obeyCall_76 : decode cX1_obeyCall 76 = .ok (.getfield 78, 3) := by decide +kernel
theorem dX1_obeyCall_79 : decode cX1_obeyCall 79 = .ok (.putfield 44, 3) := by decide +kernel
theorem dX1_obeyCall_82 : decode cX1_obeyCall 82 = .ok (.aload_n 0, 1) := by decide +kernel
theorem dX1_obeyCall_83 : decode cX1_obeyCall 83 = .ok (.aload_n 3, 1) := by decide +kernel
theorem dX1_obeyCall_84 : decode cX1_obeyCall 84 = .ok (.getfield 78, 3) := by decide +kernel
theorem dX1_obeyCall_87 : decode cX1_obeyCall 87 = .ok (.putfield 41, 3) := by decide +kernel
theorem dX1_obeyCall_90 : decode cX1_obeyCall 90 = .ok (.return_, 1) := by decide +kernel
theorem dX1_obeyCall_91 : decode cX1_obeyCall 91 = .ok (.iinc 2 1, 3) := by decide +kernel
theorem dX1_obeyCall_94 : decode cX1_obeyCall 94 = .ok (.goto (-92), 3) := by decide +kernel
theorem dX1_obeyCall_97 : decode cX1_obeyCall 97 = .ok (.return_, 1) := by decide +kernel
theorem dX1_stepOn_0 : decode cX1_stepOn 0 = .ok (.iconst (-1), 1) := by decide +kernel
theorem dX1_stepOn_1 : decode cX1_stepOn 1 = .ok (.istore_n 2, 1) := by decide +kernel
theorem dX1_stepOn_2 : decode cX1_stepOn 2 = .ok (.iconst 0, 1) := by decide +kernel
theorem dX1_stepOn_3 : decode cX1_stepOn 3 = .ok (.istore_n 3, 1) := by decide +kernel
theorem dX1_stepOn_4 : decode cX1_stepOn 4 = .ok (.iload_n 3, 1) := by decide +kernel
theorem dX1_stepOn_5 : decode cX1_stepOn 5 = .ok (.aload_n 0, 1) := by decide +kernel
theorem dX1_stepOn_6 : decode cX1_stepOn 6 = .ok (.getfield 27, 3) := by decide +kernel
theorem dX1_stepOn_9 : decode cX1_stepOn 9 = .ok (.if_icmp .ge 21, 3) := by decide +kernel
theorem dX1_stepOn_12 : decode cX1_stepOn 12 = .ok (.aload_n 0, 1) := by decide +kernel
theorem dX1_stepOn_13 : decode cX1_stepOn 13 = .ok (.getfield 15, 3) := by decide +kernel
theorem dX1_stepOn_16 : decode cX1_stepOn 16 = .ok (.iload_n 3, 1) := by decide +kernel
theorem dX1_stepOn_17 : decode cX1_stepOn 17 = .ok (.iaload, 1) := by decide +kernel
theorem dX1_stepOn_18 : decode cX1_stepOn 18 = .ok (.iload_n 1, 1) := by decide +kernel
theorem dX1_stepOn_19 : decode cX1_stepOn 19 = .ok (.if_icmp .gt 5, 3) := by decide +kernel
theorem dX1_stepOn_22 : decode cX1_stepOn 22 = .ok (.iload_n 3, 1) := by decide +kernel
theorem dX1_stepOn_23 : decode cX1_stepOn 23 = .ok (.istore_n 2, 1) := by decide +kernel
theorem dX1_stepOn_24 : decode cX1_stepOn 24 = .ok (.iinc 3 1, 3) := by decide +kernel
theorem dX1_stepOn_27 : decode cX1_stepOn 27 = .ok (.goto (-23), 3) := by decide +kernel
theorem dX1_stepOn_30 : decode cX1_stepOn 30 = .ok (.iload_n 2, 1) := by decide +kernel
theorem dX1_stepOn_31 : decode cX1_stepOn 31 = .ok (.ireturn, 1) := by decide +kernel
theorem dX1_isStep_0 : decode cX1_isStep 0 = .ok (.iload_n 1, 1) := by decide +kernel
theorem dX1_isStep_1 : decode cX1_isStep 1 = .ok (.ifCond .lt 15, 3) := by decide +kernel
theorem dX1_isStep_4 : decode cX1_isStep 4 = .ok (.iload_n 1, 1) := by decide +kernel
theorem dX1_isStep_5 : decode cX1_isStep 5 = .ok (.aload_n 0, 1) := by decide +kernel
theorem dX1_isStep_6 : decode cX1_isStep 6 = .ok (.getfield 27, 3) := by decide +kernel
theorem dX1_isStep_9 : decode cX1_isStep 9 = .ok (.if_icmp .ge 7, 3) := by decide +kernel
theorem dX1_isStep_12 : decode cX1_isStep 12 = .ok (.iconst 1, 1) := by decide +kernel
theorem dX1_isStep_13 : decode cX1_isStep 13 = .ok (.goto 4, 3) := by decide +kernel
theorem dX1_isStep_16 : decode cX1_isStep 16 = .ok (.iconst 0, 1) := by decide +kernel
theorem dX1_isStep_17 : decode cX1_isStep 17 = .ok (.ireturn, 1) := by decide +kernel
theorem dX1_state_0 : decode cX1_state 0 = .ok (.aload_n 0, 1) := by decide +kernel
theorem dX1_state_1 : decode cX1_state 1 = .ok (.iload_n 1, 1) := by decide +kernel
theorem dX1_state_2 : decode cX1_state 2 = .ok (.invokevirtual 168, 3) := by decide +kernel
theorem dX1_state_5 : decode cX1_state 5 = .ok (.ifCond .eq 12, 3) := by decide +kernel
theorem dX1_state_8 : decode cX1_state 8 = .ok (.aload_n 0, 1) := by decide +kernel
theorem dX1_state_9 : decode cX1_state 9 = .ok (.getfield 18, 3) := by decide +kernel
theorem dX1_state_12 : decode cX1_state 12 = .ok (.iload_n 1, 1) := by decide +kernel
theorem dX1_state_13 : decode cX1_state 13 = .ok (.iaload, 1) := by decide +kernel
theorem dX1_state_14 : decode cX1_state 14 = .ok (.goto 5, 3) := by decide +kernel
theorem dX1_state_17 : decode cX1_state 17 = .ok (.bipush (-4), 2) := by decide +kernel
theorem dX1_state_19 : decode cX1_state 19 = .ok (.ireturn, 1) := by decide +kernel
theorem dX1_firstDay_0 : decode cX1_firstDay 0 = .ok (.aload_n 0, 1) := by decide +kernel
theorem dX1_firstDay_1 : decode cX1_firstDay 1 = .ok (.iload_n 1, 1) := by decide +kernel
theorem dX1_firstDay_2 : decode cX1_firstDay 2 = .ok (.invokevirtual 168, 3) := by decide +kernel
theorem dX1_firstDay_5 : decode cX1_firstDay 5 = .ok (.ifCond .eq 12, 3) := by decide +kernel
theorem dX1_firstDay_8 : decode cX1_firstDay 8 = .ok (.aload_n 0, 1) := by decide +kernel
theorem dX1_firstDay_9 : decode cX1_firstDay 9 = .ok (.getfield 24, 3) := by decide +kernel
theorem dX1_firstDay_12 : decode cX1_firstDay 12 = .ok (.iload_n 1, 1) := by decide +kernel
theorem dX1_firstDay_13 : decode cX1_firstDay 13 = .ok (.iaload, 1) := by decide +kernel
theorem dX1_firstDay_14 : decode cX1_firstDay 14 = .ok (.goto 4, 3) := by decide +kernel
theorem dX1_firstDay_17 : decode cX1_firstDay 17 = .ok (.iconst (-1), 1) := by decide +kernel
theorem dX1_firstDay_18 : decode cX1_firstDay 18 = .ok (.ireturn, 1) := by decide +kernel
theorem dX1_countTenures_0 : decode cX1_countTenures 0 = .ok (.iconst 0, 1) := by decide +kernel
theorem dX1_countTenures_1 : decode cX1_countTenures 1 = .ok (.istore_n 1, 1) := by decide +kernel
theorem dX1_countTenures_2 : decode cX1_countTenures 2 = .ok (.iconst 0, 1) := by decide +kernel
theorem dX1_countTenures_3 : decode cX1_countTenures 3 = .ok (.istore_n 2, 1) := by decide +kernel
theorem dX1_countTenures_4 : decode cX1_countTenures 4 = .ok (.iload_n 2, 1) := by decide +kernel
theorem dX1_countTenures_5 : decode cX1_countTenures 5 = .ok (.aload_n 0, 1) := by decide +kernel
theorem dX1_countTenures_6 : decode cX1_countTenures 6 = .ok (.getfield 27, 3) := by decide +kernel
theorem dX1_countTenures_9 : decode cX1_countTenures 9 = .ok (.if_icmp .ge 27, 3) := by decide +kernel
theorem dX1_countTenures_12 : decode cX1_countTenures 12 = .ok (.aload_n 0, 1) := by decide +kernel
theorem dX1_countTenures_13 : decode cX1_countTenures 13 = .ok (.getfield 24, 3) := by decide +kernel
theorem dX1_countTenures_16 : decode cX1_countTenures 16 = .ok (.iload_n 2, 1) := by decide +kernel
theorem dX1_countTenures_17 : decode cX1_countTenures 17 = .ok (.iaload, 1) := by decide +kernel
theorem dX1_countTenures_18 : decode cX1_countTenures 18 = .ok (.aload_n 0, 1) := by decide +kernel
theorem dX1_countTenures_19 : decode cX1_countTenures 19 = .ok (.getfield 15, 3) := by decide +kernel
theorem dX1_countTenures_22 : decode cX1_countTenures 22 = .ok (.iload_n 2, 1) := by decide +kernel
theorem dX1_countTenures_23 : decode cX1_countTenures 23 = .ok (.iaload, 1) := by decide +kernel
theorem dX1_countTenures_24 : decode cX1_countTenures 24 = .ok (.if_icmp .ne 6, 3) := by decide +kernel
theorem dX1_countTenures_27 : decode cX1_countTenures 27 = .ok (.iinc 1 1, 3) := by decide +kernel
theorem dX1_countTenures_30 : decode cX1_countTenures 30 = .ok (.iinc 2 1, 3) := by decide +kernel
theorem dX1_countTenures_33 : decode cX1_countTenures 33 = .ok (.goto (-29), 3) := by decide +kernel
theorem dX1_countTenures_36 : decode cX1_countTenures 36 = .ok (.iload_n 1, 1) := by decide +kernel
theorem dX1_countTenures_37 : decode cX1_countTenures 37 = .ok (.ireturn, 1) := by decide +kernel
theorem dX1_stepOfTenure_0 : decode cX1_stepOfTenure 0 = .ok (.iconst 0, 1) := by decide +kernel
theorem dX1_stepOfTenure_1 : decode cX1_stepOfTenure 1 = .ok (.istore_n 2, 1) := by decide +kernel
theorem dX1_stepOfTenure_2 : decode cX1_stepOfTenure 2 = .ok (.iconst 0, 1) := by decide +kernel
theorem dX1_stepOfTenure_3 : decode cX1_stepOfTenure 3 = .ok (.istore_n 3, 1) := by decide +kernel
theorem dX1_stepOfTenure_4 : decode cX1_stepOfTenure 4 = .ok (.iload_n 3, 1) := by decide +kernel
theorem dX1_stepOfTenure_5 : decode cX1_stepOfTenure 5 = .ok (.aload_n 0, 1) := by decide +kernel
theorem dX1_stepOfTenure_6 : decode cX1_stepOfTenure 6 = .ok (.getfield 27, 3) := by decide +kernel
theorem dX1_stepOfTenure_9 : decode cX1_stepOfTenure 9 = .ok (.if_icmp .ge 37, 3) := by decide +kernel
theorem dX1_stepOfTenure_12 : decode cX1_stepOfTenure 12 = .ok (.aload_n 0, 1) := by decide +kernel
theorem dX1_stepOfTenure_13 : decode cX1_stepOfTenure 13 = .ok (.getfield 24, 3) := by decide +kernel
theorem dX1_stepOfTenure_16 : decode cX1_stepOfTenure 16 = .ok (.iload_n 3, 1) := by decide +kernel
theorem dX1_stepOfTenure_17 : decode cX1_stepOfTenure 17 = .ok (.iaload, 1) := by decide +kernel
theorem dX1_stepOfTenure_18 : decode cX1_stepOfTenure 18 = .ok (.aload_n 0, 1) := by decide +kernel
theorem dX1_stepOfTenure_19 : decode cX1_stepOfTenure 19 = .ok (.getfield 15, 3) := by decide +kernel
theorem dX1_stepOfTenure_22 : decode cX1_stepOfTenure 22 = .ok (.iload_n 3, 1) := by decide +kernel
theorem dX1_stepOfTenure_23 : decode cX1_stepOfTenure 23 = .ok (.iaload, 1) := by decide +kernel
theorem dX1_stepOfTenure_24 : decode cX1_stepOfTenure 24 = .ok (.if_icmp .eq 6, 3) := by decide +kernel
theorem dX1_stepOfTenure_27 : decode cX1_stepOfTenure 27 = .ok (.goto 13, 3) := by decide +kernel
theorem dX1_stepOfTenure_30 : decode cX1_stepOfTenure 30 = .ok (.iload_n 2, 1) := by decide +kernel
theorem dX1_stepOfTenure_31 : decode cX1_stepOfTenure 31 = .ok (.iload_n 1, 1) := by decide +kernel
theorem dX1_stepOfTenure_32 : decode cX1_stepOfTenure 32 = .ok (.if_icmp .ne 5, 3) := by decide +kernel
theorem dX1_stepOfTenure_35 : decode cX1_stepOfTenure 35 = .ok (.iload_n 3, 1) := by decide +kernel
theorem dX1_stepOfTenure_36 : decode cX1_stepOfTenure 36 = .ok (.ireturn, 1) := by decide +kernel
theorem dX1_stepOfTenure_37 : decode cX1_stepOfTenure 37 = .ok (.iinc 2 1, 3) := by decide +kernel
theorem dX1_stepOfTenure_40 : decode cX1_stepOfTenure 40 = .ok (.iinc 3 1, 3) := by decide +kernel
theorem dX1_stepOfTenure_43 : decode cX1_stepOfTenure 43 = .ok (.goto (-39), 3) := by decide +kernel
theorem dX1_stepOfTenure_46 : decode cX1_stepOfTenure 46 = .ok (.iconst (-1), 1) := by decide +kernel
theorem dX1_stepOfTenure_47 : decode cX1_stepOfTenure 47 = .ok (.ireturn, 1) := by decide +kernel
theorem dX1_lineUpOn_0 : decode cX1_lineUpOn 0 = .ok (.aload_n 0, 1) := by decide +kernel
theorem dX1_lineUpOn_1 : decode cX1_lineUpOn 1 = .ok (.iload_n 1, 1) := by decide +kernel
theorem dX1_lineUpOn_2 : decode cX1_lineUpOn 2 = .ok (.invokevirtual 171, 3) := by decide +kernel
theorem dX1_lineUpOn_5 : decode cX1_lineUpOn 5 = .ok (.istore_n 2, 1) := by decide +kernel
theorem dX1_lineUpOn_6 : decode cX1_lineUpOn 6 = .ok (.aload_n 0, 1) := by decide +kernel
theorem dX1_lineUpOn_7 : decode cX1_lineUpOn 7 = .ok (.getfield 65, 3) := by decide +kernel
theorem dX1_lineUpOn_10 : decode cX1_lineUpOn 10 = .ok (.aload_n 0, 1) := by decide +kernel
theorem dX1_lineUpOn_11 : decode cX1_lineUpOn 11 = .ok (.getfield 35, 3) := by decide +kernel
theorem dX1_lineUpOn_14 : decode cX1_lineUpOn 14 = .ok (.aload_n 0, 1) := by decide +kernel
theorem dX1_lineUpOn_15 : decode cX1_lineUpOn 15 = .ok (.iload_n 2, 1) := by decide +kernel
theorem dX1_lineUpOn_16 : decode cX1_lineUpOn 16 = .ok (.invokevirtual 168, 3) := by decide +kernel
theorem dX1_lineUpOn_19 : decode cX1_lineUpOn 19 = .ok (.ifCond .eq 12, 3) := by decide +kernel
theorem dX1_lineUpOn_22 : decode cX1_lineUpOn 22 = .ok (.aload_n 0, 1) := by decide +kernel
theorem dX1_lineUpOn_23 : decode cX1_lineUpOn 23 = .ok (.getfield 21, 3) := by decide +kernel
theorem dX1_lineUpOn_26 : decode cX1_lineUpOn 26 = .ok (.iload_n 2, 1) := by decide +kernel
theorem dX1_lineUpOn_27 : decode cX1_lineUpOn 27 = .ok (.iaload, 1) := by decide +kernel
theorem dX1_lineUpOn_28 : decode cX1_lineUpOn 28 = .ok (.goto 7, 3) := by decide +kernel
theorem dX1_lineUpOn_31 : decode cX1_lineUpOn 31 = .ok (.aload_n 0, 1) := by decide +kernel
theorem dX1_lineUpOn_32 : decode cX1_lineUpOn 32 = .ok (.getfield 38, 3) := by decide +kernel
theorem dX1_lineUpOn_35 : decode cX1_lineUpOn 35 = .ok (.iload_n 1, 1) := by decide +kernel
theorem dX1_lineUpOn_36 : decode cX1_lineUpOn 36 = .ok (.aload_n 0, 1) := by decide +kernel
theorem dX1_lineUpOn_37 : decode cX1_lineUpOn 37 = .ok (.getfield 9, 3) := by decide +kernel
theorem dX1_lineUpOn_40 : decode cX1_lineUpOn 40 = .ok (.invokevirtual 134, 3) := by decide +kernel
theorem dX1_lineUpOn_43 : decode cX1_lineUpOn 43 = .ok (.return_, 1) := by decide +kernel
theorem dX2_init_0 : decode cX2_init 0 = .ok (.aload_n 0, 1) := by decide +kernel
theorem dX2_init_1 : decode cX2_init 1 = .ok (.invokespecial 3, 3) := by decide +kernel
theorem dX2_init_4 : decode cX2_init 4 = .ok (.aload_n 0, 1) := by decide +kernel
theorem dX2_init_5 : decode cX2_init 5 = .ok (.bipush 64, 2) := by decide +kernel
theorem dX2_init_7 : decode cX2_init 7 = .ok (.newarray .boolean, 2) := by decide +kernel
theorem dX2_init_9 : decode cX2_init 9 = .ok (.putfield 9, 3) := by decide +kernel
theorem dX2_init_12 : decode cX2_init 12 = .ok (.aload_n 0, 1) := by decide +kernel
theorem dX2_init_13 : decode cX2_init 13 = .ok (.bipush 64, 2) := by decide +kernel
theorem dX2_init_15 : decode cX2_init 15 = .ok (.newarray .int, 2) := by decide +kernel
theorem dX2_init_17 : decode cX2_init 17 = .ok (.putfield 15, 3) := by decide +kernel
theorem dX2_init_20 : decode cX2_init 20 = .ok (.aload_n 0, 1) := by decide +kernel
theorem dX2_init_21 : decode cX2_init 21 = .ok (.iconst 0, 1) := by decide +kernel
theorem dX2_init_22 : decode cX2_init 22 = .ok (.putfield 19, 3) := by decide +kernel
theorem dX2_init_25 : decode cX2_init 25 = .ok (.aload_n 0, 1) := by decide +kernel
theorem dX2_init_26 : decode cX2_init 26 = .ok (.sipush 128, 3) := by decide +kernel
theorem dX2_init_29 : decode cX2_init 29 = .ok (.newarray .int, 2) := by decide +kernel
theorem dX2_init_31 : decode cX2_init 31 = .ok (.putfield 23, 3) := by decide +kernel
theorem dX2_init_34 : decode cX2_init 34 = .ok (.aload_n 0, 1) := by decide +kernel
theorem dX2_init_35 : decode cX2_init 35 = .ok (.bipush 65, 2) := by decide +kernel
theorem dX2_init_37 : decode cX2_init 37 = .ok (.newarray .int, 2) := by decide +kernel
theorem dX2_init_39 : decode cX2_init 39 = .ok (.putfield 26, 3) := by decide +kernel
theorem dX2_init_42 : decode cX2_init 42 = .ok (.aload_n 0, 1) := by decide +kernel
theorem dX2_init_43 : decode cX2_init 43 = .ok (.bipush 64, 2) := by decide +kernel
theorem dX2_init_45 : decode cX2_init 45 = .ok (.newarray .long, 2) := by decide +kernel
theorem dX2_init_47 : decode cX2_init 47 = .ok (.putfield 29, 3) := by decide +kernel
theorem dX2_init_50 : decode cX2_init 50 = .ok (.aload_n 0, 1) := by decide +kernel
theorem dX2_init_51 : decode cX2_init 51 = .ok (.aload_n 1, 1) := by decide +kernel
theorem dX2_init_52 : decode cX2_init 52 = .ok (.putfield 33, 3) := by decide +kernel
theorem dX2_init_55 : decode cX2_init 55 = .ok (.return_, 1) := by decide +kernel
theorem dX2_rebuild_0 : decode cX2_rebuild 0 = .ok (.aload_n 0, 1) := by decide +kernel
theorem dX2_rebuild_1 : decode cX2_rebuild 1 = .ok (.iconst 0, 1) := by decide +kernel
theorem dX2_rebuild_2 : decode cX2_rebuild 2 = .ok (.putfield 19, 3) := by decide +kernel
theorem dX2_rebuild_5 : decode cX2_rebuild 5 = .ok (.iconst 0, 1) := by decide +kernel
theorem dX2_rebuild_6 : decode cX2_rebuild 6 = .ok (.istore_n 2, 1) := by decide +kernel
theorem dX2_rebuild_7 : decode cX2_rebuild 7 = .ok (.iload_n 2, 1) := by decide +kernel
theorem dX2_rebuild_8 : decode cX2_rebuild 8 = .ok (.bipush 64, 2) := by decide +kernel
theorem dX2_rebuild_10 : decode cX2_rebuild 10 = .ok (.if_icmp .ge 56, 3) := by decide +kernel
theorem dX2_rebuild_13 : decode cX2_rebuild 13 = .ok (.aload_n 0, 1) := by decide +kernel
theorem dX2_rebuild_14 : decode cX2_rebuild 14 = .ok (.getfield 9, 3) := by decide +kernel
theorem dX2_rebuild_17 : decode cX2_rebuild 17 = .ok (.iload_n 2, 1) := by decide +kernel
theorem dX2_rebuild_18 : decode cX2_rebuild 18 = .ok (.aload_n 0, 1) := by decide +kernel
theorem dX2_rebuild_19 : decode cX2_rebuild 19 = .ok (.getfield 33, 3) := by decide +kernel
theorem dX2_rebuild_22 : decode cX2_rebuild 22 = .ok (.iload_n 2, 1) := by decide +kernel
theorem dX2_rebuild_23 : decode cX2_rebuild 23 = .ok (.invokevirtual 37, 3) := by decide +kernel
theorem dX2_rebuild_26 : decode cX2_rebuild 26 = .ok (.ifCond .eq 16, 3) := by decide +kernel
theorem dX2_rebuild_29 : decode cX2_rebuild 29 = .ok (.aload_n 0, 1) := by decide +kernel
theorem dX2_rebuild_30 : decode cX2_rebuild 30 = .ok (.iload_n 2, 1) := by decide +kernel
theorem dX2_rebuild_31 : decode cX2_rebuild 31 = .ok (.aload_n 1, 1) := by decide +kernel
theorem dX2_rebuild_32 : decode cX2_rebuild 32 = .ok (.invokevirtual 43, 3) := by decide +kernel
theorem dX2_rebuild_35 : decode cX2_rebuild 35 = .ok (.ifCond .eq 7, 3) := by decide +kernel
theorem dX2_rebuild_38 : decode cX2_rebuild 38 = .ok (.iconst 1, 1) := by decide +kernel
theorem dX2_rebuild_39 : decode cX2_rebuild 39 = .ok (.goto 4, 3) := by decide +kernel
theorem dX2_rebuild_42 : decode cX2_rebuild 42 = .ok (.iconst 0, 1) := by decide +kernel
theorem dX2_rebuild_43 : decode cX2_rebuild 43 = .ok (.bastore, 1) := by decide +kernel
theorem dX2_rebuild_44 : decode cX2_rebuild 44 = .ok (.aload_n 0, 1) := by decide +kernel
theorem dX2_rebuild_45 : decode cX2_rebuild 45 = .ok (.getfield 33, 3) := by decide +kernel
theorem dX2_rebuild_48 : decode cX2_rebuild 48 = .ok (.iload_n 2, 1) := by decide +kernel
theorem dX2_rebuild_49 : decode cX2_rebuild 49 = .ok (.invokevirtual 37, 3) := by decide +kernel
theorem dX2_rebuild_52 : decode cX2_rebuild 52 = .ok (.ifCond .eq 8, 3) := by decide +kernel
theorem dX2_rebuild_55 : decode cX2_rebuild 55 = .ok (.aload_n 0, 1) := by decide +kernel
theorem dX2_rebuild_56 : decode cX2_rebuild 56 = .ok (.iload_n 2, 1) := by decide +kernel
theorem dX2_rebuild_57 : decode cX2_rebuild 57 = .ok (.invokevirtual 47, 3) := by decide +kernel
theorem dX2_rebuild_60 : decode cX2_rebuild 60 = .ok (.iinc 2 1, 3) := by decide +kernel
theorem dX2_rebuild_63 : decode cX2_rebuild 63 = .ok (.goto (-56), 3) := by decide +kernel
theorem dX2_rebuild_66 : decode cX2_rebuild 66 = .ok (.aload_n 0, 1) := by decide +kernel
theorem dX2_rebuild_67 : decode cX2_rebuild 67 = .ok (.invokevirtual 51, 3) := by decide +kernel
theorem dX2_rebuild_70 : decode cX2_rebuild 70 = .ok (.aload_n 0, 1) := by decide +kernel
theorem dX2_rebuild_71 : decode cX2_rebuild 71 = .ok (.invokevirtual 54, 3) := by decide +kernel
theorem dX2_rebuild_74 : decode cX2_rebuild 74 = .ok (.return_, 1) := by decide +kernel
theorem dX2_isBornLegit_0 : decode cX2_isBornLegit 0 = .ok (.aload_n 0, 1) := by decide +kernel
theorem dX2_isBornLegit_1 : decode cX2_isBornLegit 1 = .ok (.getfield 33, 3) := by decide +kernel
theorem dX2_isBornLegit_4 : decode cX2_isBornLegit 4 = .ok (.iload_n 1, 1) := by decide +kernel
theorem dX2_isBornLegit_5 : decode cX2_isBornLegit 5 = .ok (.invokevirtual 57, 3) := by decide +kernel
theorem dX2_isBornLegit_8 : decode cX2_isBornLegit 8 = .ok (.istore_n 3, 1) := by decide +kernel
theorem dX2_isBornLegit_9 : decode cX2_isBornLegit 9 = .ok (.aload_n 0, 1) := by decide +kernel
theorem dX2_isBornLegit_10 : decode cX2_isBornLegit 10 = .ok (.getfield 33, 3) := by decide +kernel
theorem dX2_isBornLegit_13 : decode cX2_isBornLegit 13 = .ok (.iload_n 1, 1) := by decide +kernel
theorem dX2_isBornLegit_14 : decode cX2_isBornLegit 14 = .ok (.invokevirtual 61, 3) := by decide +kernel
theorem dX2_isBornLegit_17 : decode cX2_isBornLegit 17 = .ok (.istore 4, 2) := by decide +kernel
theorem dX2_isBornLegit_19 : decode cX2_isBornLegit 19 = .ok (.iload_n 3, 1) := by decide +kernel
theorem dX2_isBornLegit_20 : decode cX2_isBornLegit 20 = .ok (.iconst (-1), 1) := by decide +kernel
theorem dX2_isBornLegit_21 : decode cX2_isBornLegit 21 = .ok (.if_icmp .eq 9, 3) := by decide +kernel
theorem dX2_isBornLegit_24 : decode cX2_isBornLegit 24 = .ok (.iload 4, 2) := by decide +kernel
theorem dX2_isBornLegit_26 : decode cX2_isBornLegit 26 = .ok (.iconst (-1), 1) := by decide +kernel
theorem dX2_isBornLegit_27 : decode cX2_isBornLegit 27 = .ok (.if_icmp .ne 5, 3) := by decide +kernel
theorem dX2_isBornLegit_30 : decode cX2_isBornLegit 30 = .ok (.iconst 0, 1) := by decide +kernel
theorem dX2_isBornLegit_31 : decode cX2_isBornLegit 31 = .ok (.ireturn, 1) := by decide +kernel
theorem dX2_isBornLegit_32 : decode cX2_isBornLegit 32 = .ok (.aload_n 0, 1) := by decide +kernel
theorem dX2_isBornLegit_33 : decode cX2_isBornLegit 33 = .ok (.getfield 33, 3) := by decide +kernel
theorem dX2_isBornLegit_36 : decode cX2_isBornLegit 36 = .ok (.iload_n 1, 1) := by decide +kernel
theorem dX2_isBornLegit_37 : decode cX2_isBornLegit 37 = .ok (.invokevirtual 64, 3) := by decide +kernel
theorem dX2_isBornLegit_40 : decode cX2_isBornLegit 40 = .ok (.istore 5, 2) := by decide +kernel
theorem dX2_isBornLegit_42 : decode cX2_isBornLegit 42 = .ok (.aload_n 2, 1) := by decide +kernel
theorem dX2_isBornLegit_43 : decode cX2_isBornLegit 43 = .ok (.iload_n 3, 1) := by decide +kernel
theorem dX2_isBornLegit_44 : decode cX2_isBornLegit 44 = .ok (.iload 4, 2) := by decide +kernel
theorem dX2_isBornLegit_46 : decode cX2_isBornLegit 46 = .ok (.iload 5, 2) := by decide +kernel
theorem dX2_isBornLegit_48 : decode cX2_isBornLegit 48 = .ok (.invokevirtual 67, 3) := by decide +kernel
theorem dX2_isBornLegit_51 : decode cX2_isBornLegit 51 = .ok (.ifCond .eq 5, 3) := by decide +kernel
theorem dX2_isBornLegit_54 : decode cX2_isBornLegit 54 = .ok (.iconst 1, 1) := by decide +kernel
theorem dX2_isBornLegit_55 : decode cX2_isBornLegit 55 = .ok (.ireturn, 1) := by decide +kernel
theorem dX2_isBornLegit_56 : decode cX2_isBornLegit 56 = .ok (.aload_n 0, 1) := by decide +kernel
theorem dX2_isBornLegit_57 : decode cX2_isBornLegit 57 = .ok (.getfield 33, 3) := by decide +kernel
theorem dX2_isBornLegit_60 : decode cX2_isBornLegit 60 = .ok (.iload_n 3, 1) := by decide +kernel
theorem dX2_isBornLegit_61 : decode cX2_isBornLegit 61 = .ok (.invokevirtual 73, 3) := by decide +kernel
theorem dX2_isBornLegit_64 : decode cX2_isBornLegit 64 = .ok (.istore 6, 2) := by decide +kernel
theorem dX2_isBornLegit_66 : decode cX2_isBornLegit 66 = .ok (.iload 6, 2) := by decide +kernel
theorem dX2_isBornLegit_68 : decode cX2_isBornLegit 68 = .ok (.iconst (-1), 1) := by decide +kernel
theorem dX2_isBornLegit_69 : decode cX2_isBornLegit 69 = .ok (.if_icmp .eq 37, 3) := by decide +kernel
theorem dX2_isBornLegit_72 : decode cX2_isBornLegit 72 = .ok (.iload 6, 2) := by decide +kernel
theorem dX2_isBornLegit_74 : decode cX2_isBornLegit 74 = .ok (.iload 5, 2) := by decide +kernel
theorem dX2_isBornLegit_76 : decode cX2_isBornLegit 76 = .ok (.sipush 300, 3) := by decide +kernel
theorem dX2_isBornLegit_79 : decode cX2_isBornLegit 79 = .ok (.isub, 1) := by decide +kernel
theorem dX2_isBornLegit_80 : decode cX2_isBornLegit 80 = .ok (.if_icmp .lt 26, 3) := by decide +kernel
theorem dX2_isBornLegit_83 : decode cX2_isBornLegit 83 = .ok (.iload 6, 2) := by decide +kernel
theorem dX2_isBornLegit_85 : decode cX2_isBornLegit 85 = .ok (.iload 5, 2) := by decide +kernel
theorem dX2_isBornLegit_87 : decode cX2_isBornLegit 87 = .ok (.if_icmp .gt 19, 3) := by decide +kernel
theorem dX2_isBornLegit_90 : decode cX2_isBornLegit 90 = .ok (.aload_n 2, 1) := by decide +kernel
theorem dX2_isBornLegit_91 : decode cX2_isBornLegit 91 = .ok (.iload_n 3, 1) := by decide +kernel
theorem dX2_isBornLegit_92 : decode cX2_isBornLegit 92 = .ok (.iload 4, 2) := by decide +kernel
theorem dX2_isBornLegit_94 : decode cX2_isBornLegit 94 = .ok (.iload 6, 2) := by decide +kernel
theorem dX2_isBornLegit_96 : decode cX2_isBornLegit 96 = .ok (.invokevirtual 67, 3) := by decide +kernel
theorem dX2_isBornLegit_99 : decode cX2_isBornLegit 99 = .ok (.ifCond .eq 7, 3) := by decide +kernel
theorem dX2_isBornLegit_102 : decode cX2_isBornLegit 102 = .ok (.iconst 1, 1) := by decide +kernel
theorem dX2_isBornLegit_103 : decode cX2_isBornLegit 103 = .ok (.goto 4, 3) := by decide +kernel
theorem dX2_isBornLegit_106 : decode cX2_isBornLegit 106 = .ok (.iconst 0, 1) := by decide +kernel
theorem dX2_isBornLegit_107 : decode cX2_isBornLegit 107 = .ok (.ireturn, 1) := by decide +kernel
theorem dX2_sortIn_0 : decode cX2_sortIn 0 = .ok (.aload_n 0, 1) := by decide +kernel
theorem dX2_sortIn_1 : decode cX2_sortIn 1 = .ok (.getfield 19, 3) := by decide +kernel
theorem dX2_sortIn_4 : decode cX2_sortIn 4 = .ok (.bipush 64, 2) := by decide +kernel
theorem dX2_sortIn_6 : decode cX2_sortIn 6 = .ok (.if_icmp .lt 4, 3) := by decide +kernel
theorem dX2_sortIn_9 : decode cX2_sortIn 9 = .ok (.return_, 1) := by decide +kernel
theorem dX2_sortIn_10 : decode cX2_sortIn 10 = .ok (.aload_n 0, 1) := by decide +kernel
theorem dX2_sortIn_11 : decode cX2_sortIn 11 = .ok (.getfield 19, 3) := by decide +kernel
theorem dX2_sortIn_14 : decode cX2_sortIn 14 = .ok (.istore_n 2, 1) := by decide +kernel
theorem dX2_sortIn_15 : decode cX2_sortIn 15 = .ok (.iload_n 2, 1) := by decide +kernel
theorem dX2_sortIn_16 : decode cX2_sortIn 16 = .ok (.ifCond .le 42, 3) := by decide +kernel
theorem dX2_sortIn_19 : decode cX2_sortIn 19 = .ok (.aload_n 0, 1) := by decide +kernel
theorem dX2_sortIn_20 : decode cX2_sortIn 20 = .ok (.getfield 33, 3) := by decide +kernel
theorem dX2_sortIn_23 : decode cX2_sortIn 23 = .ok (.iload_n 1, 1) := by decide +kernel
theorem dX2_sortIn_24 : decode cX2_sortIn 24 = .ok (.aload_n 0, 1) := by decide +kernel
theorem dX2_sortIn_25 : decode cX2_sortIn 25 = .ok (.getfield 15, 3) := by decide +kernel
theorem dX2_sortIn_28 : decode cX2_sortIn 28 = .ok (.iload_n 2, 1) := by decide +kernel
theorem dX2_sortIn_29 : decode cX2_sortIn 29 = .ok (.iconst 1, 1) := by decide +kernel
theorem dX2_sortIn_30 : decode cX2_sortIn 30 = .ok (.isub, 1) := by decide +kernel
theorem dX2_sortIn_31 : decode cX2_sortIn 31 = .ok (.iaload, 1) := by decide +kernel
theorem dX2_sortIn_32 : decode cX2_sortIn 32 = .ok (.invokevirtual 76, 3) := by decide +kernel
theorem dX2_sortIn_35 : decode cX2_sortIn 35 = .ok (.ifCond .eq 23, 3) := by decide +kernel
theorem dX2_sortIn_38 : decode cX2_sortIn 38 = .ok (.aload_n 0, 1) := by decide +kernel
theorem dX2_sortIn_39 : decode cX2_sortIn 39 = .ok (.getfield 15, 3) := by decide +kernel
theorem dX2_sortIn_42 : decode cX2_sortIn 42 = .ok (.iload_n 2, 1) := by decide +kernel
theorem dX2_sortIn_43 : decode cX2_sortIn 43 = .ok (.aload_n 0, 1) := by decide +kernel
theorem dX2_sortIn_44 : decode cX2_sortIn 44 = .ok (.getfield 15, 3) := by decide +kernel
theorem dX2_sortIn_47 : decode cX2_sortIn 47 = .ok (.iload_n 2, 1) := by decide +kernel
theorem dX2_sortIn_48 : decode cX2_sortIn 48 = .ok (.iconst 1, 1) := by decide +kernel
theorem dX2_sortIn_49 : decode cX2_sortIn 49 = .ok (.isub, 1) := by decide +kernel
theorem dX2_sortIn_50 : decode cX2_sortIn 50 = .ok (.iaload, 1) := by decide +kernel
theorem dX2_sortIn_51 : decode cX2_sortIn 51 = .ok (.iastore, 1) := by decide +kernel
theorem dX2_sortIn_52 : decode cX2_sortIn 52 = .ok (.iinc 2 (-1), 3) := by decide +kernel
theorem dX2_sortIn_55 : decode cX2_sortIn 55 = .ok (.goto (-40), 3) := by decide +kernel
theorem dX2_sortIn_58 : decode cX2_sortIn 58 = .ok (.aload_n 0, 1) := by decide +kernel
theorem dX2_sortIn_59 : decode cX2_sortIn 59 = .ok (.getfield 15, 3) := by decide +kernel
theorem dX2_sortIn_62 : decode cX2_sortIn 62 = .ok (.iload_n 2, 1) := by decide +kernel
theorem dX2_sortIn_63 : decode cX2_sortIn 63 = .ok (.iload_n 1, 1) := by decide +kernel
theorem dX2_sortIn_64 : decode cX2_sortIn 64 = .ok (.iastore, 1) := by decide +kernel
theorem dX2_sortIn_65 : decode cX2_sortIn 65 = .ok (.aload_n 0, 1) := by decide +kernel
theorem dX2_sortIn_66 : decode cX2_sortIn 66 = .ok (.dup, 1) := by decide +kernel
theorem dX2_sortIn_67 : decode cX2_sortIn 67 = .ok (.getfield 19, 3) := by decide +kernel
theorem dX2_sortIn_70 : decode cX2_sortIn 70 = .ok (.iconst 1, 1) := by decide +kernel
theorem dX2_sortIn_71 : decode cX2_sortIn 71 = .ok (.iadd, 1) := by decide +kernel
theorem dX2_sortIn_72 : decode cX2_sortIn 72 = .ok (.putfield 19, 3) := by decide +kernel
theorem dX2_sortIn_75 : decode cX2_sortIn 75 = .ok (.return_, 1) := by decide +kernel
theorem dX2_listKids_0 : decode cX2_listKids 0 = .ok (.iconst 0, 1) := by decide +kernel
theorem dX2_listKids_1 : decode cX2_listKids 1 = .ok (.istore_n 1, 1) := by decide +kernel
theorem dX2_listKids_2 : decode cX2_listKids 2 = .ok (.iconst 0, 1) := by decide +kernel
theorem dX2_listKids_3 : decode cX2_listKids 3 = .ok (.istore_n 2, 1) := by decide +kernel
theorem dX2_listKids_4 : decode cX2_listKids 4 = .ok (.iload_n 2, 1) := by decide +kernel
theorem dX2_listKids_5 : decode cX2_listKids 5 = .ok (.bipush 64, 2) := by decide +kernel
theorem dX2_listKids_7 : decode cX2_listKids 7 = .ok (.if_icmp .ge 107, 3) := by decide +kernel
theorem dX2_listKids_10 : decode cX2_listKids 10 = .ok (.aload_n 0, 1) := by decide +kernel
theorem dX2_listKids_11 : decode cX2_listKids 11 = .ok (.getfield 26, 3) := by decide +kernel
theorem dX2_listKids_14 : decode cX2_listKids 14 = .ok (.iload_n 2, 1) := by decide +kernel
theorem dX2_listKids_15 : decode cX2_listKids 15 = .ok (.iload_n 1, 1) := by decide +kernel
theorem dX2_listKids_16 : decode cX2_listKids 16 = .ok (.iastore, 1) := by decide +kernel
theorem dX2_listKids_17 : decode cX2_listKids 17 = .ok (.iconst 0, 1) := by decide +kernel
theorem dX2_listKids_18 : decode cX2_listKids 18 = .ok (.istore_n 3, 1) := by decide +kernel
theorem dX2_listKids_19 : decode cX2_listKids 19 = .ok (.iload_n 3, 1) := by decide +kernel
theorem dX2_listKids_20 : decode cX2_listKids 20 = .ok (.aload_n 0, 1) := by decide +kernel
theorem dX2_listKids_21 : decode cX2_listKids 21 = .ok (.getfield 19, 3) := by decide +kernel
theorem dX2_listKids_24 : decode cX2_listKids 24 = .ok (.if_icmp .ge 84, 3) := by decide +kernel
theorem dX2_listKids_27 : decode cX2_listKids 27 = .ok (.aload_n 0, 1) := by decide +kernel
theorem dX2_listKids_28 : decode cX2_listKids 28 = .ok (.getfield 15, 3) := by decide +kernel
theorem dX2_listKids_31 : decode cX2_listKids 31 = .ok (.iload_n 3, 1) := by decide +kernel
theorem dX2_listKids_32 : decode cX2_listKids 32 = .ok (.iaload, 1) := by decide +kernel
theorem dX2_listKids_33 : decode cX2_listKids 33 = .ok (.istore 4, 2) := by decide +kernel
theorem dX2_listKids_35 : decode cX2_listKids 35 = .ok (.aload_n 0, 1) := by decide +kernel
theorem dX2_listKids_36 : decode cX2_listKids 36 = .ok (.getfield 33, 3) := by decide +kernel
theorem dX2_listKids_39 : decode cX2_listKids 39 = .ok (.iload 4, 2) := by decide +kernel
theorem dX2_listKids_41 : decode cX2_listKids 41 = .ok (.invokevirtual 57, 3) := by decide +kernel
theorem dX2_listKids_44 : decode cX2_listKids 44 = .ok (.iload_n 2, 1) := by decide +kernel
theorem dX2_listKids_45 : decode cX2_listKids 45 = .ok (.if_icmp .eq 16, 3) := by decide +kernel
theorem dX2_listKids_48 : decode cX2_listKids 48 = .ok (.aload_n 0, 1) := by decide +kernel
theorem dX2_listKids_49 : decode cX2_listKids 49 = .ok (.getfield 33, 3) := by decide +kernel
theorem dX2_listKids_52 : decode cX2_listKids 52 = .ok (.iload 4, 2) := by decide +kernel
theorem dX2_listKids_54 : decode cX2_listKids 54 = .ok (.invokevirtual 61, 3) := by decide +kernel
theorem dX2_listKids_57 : decode cX2_listKids 57 = .ok (.iload_n 2, 1) := by decide +kernel
theorem dX2_listKids_58 : decode cX2_listKids 58 = .ok (.if_icmp .ne 7, 3) := by decide +kernel
theorem dX2_listKids_61 : decode cX2_listKids 61 = .ok (.iconst 1, 1) := by decide +kernel
theorem dX2_listKids_62 : decode cX2_listKids 62 = .ok (.goto 4, 3) := by decide +kernel
theorem dX2_listKids_65 : decode cX2_listKids 65 = .ok (.iconst 0, 1) := by decide +kernel
theorem dX2_listKids_66 : decode cX2_listKids 66 = .ok (.istore 5, 2) := by decide +kernel
theorem dX2_listKids_68 : decode cX2_listKids 68 = .ok (.aload_n 0, 1) := by decide +kernel
theorem dX2_listKids_69 : decode cX2_listKids 69 = .ok (.iload 4, 2) := by decide +kernel
theorem dX2_listKids_71 : decode cX2_listKids 71 = .ok (.invokevirtual 80, 3) := by decide +kernel
theorem dX2_listKids_74 : decode cX2_listKids 74 = .ok (.ifCond .eq 28, 3) := by decide +kernel
theorem dX2_listKids_77 : decode cX2_listKids 77 = .ok (.iload 5, 2) := by decide +kernel
theorem dX2_listKids_79 : decode cX2_listKids 79 = .ok (.ifCond .eq 23, 3) := by decide +kernel
theorem dX2_listKids_82 : decode cX2_listKids 82 = .ok (.iload_n 1, 1) := by decide +kernel
theorem dX2_listKids_83 : decode cX2_listKids 83 = .ok (.aload_n 0, 1) := by decide +kernel
theorem dX2_listKids_84 : decode cX2_listKids 84 = .ok (.getfield 23, 3) := by decide +kernel
theorem dX2_listKids_87 : decode cX2_listKids 87 = .ok (.arraylength, 1) := by decide +kernel
theorem dX2_listKids_88 : decode cX2_listKids 88 = .ok (.if_icmp .ge 14, 3) := by decide +kernel
theorem dX2_listKids_91 : decode cX2_listKids 91 = .ok (.aload_n 0, 1) := by decide +kernel
theorem dX2_listKids_92 : decode cX2_listKids 92 = .ok (.getfield 23, 3) := by decide +kernel
theorem dX2_listKids_95 : decode cX2_listKids 95 = .ok (.iload_n 1, 1) := by decide +kernel
theorem dX2_listKids_96 : decode cX2_listKids 96 = .ok (.iinc 1 1, 3) := by decide +kernel
theorem dX2_listKids_99 : decode cX2_listKids 99 = .ok (.iload 4, 2) := by decide +kernel
theorem dX2_listKids_101 : decode cX2_listKids 101 = .ok (.iastore, 1) := by decide +kernel
theorem dX2_listKids_102 : decode cX2_listKids 102 = .ok (.iinc 3 1, 3) := by decide +kernel
theorem dX2_listKids_105 : decode cX2_listKids 105 = .ok (.goto (-86), 3) := by decide +kernel
theorem dX2_listKids_108 : decode cX2_listKids 108 = .ok (.iinc 2 1, 3) := by decide +kernel
theorem dX2_listKids_111 : decode cX2_listKids 111 = .ok (.goto (-107), 3) := by decide +kernel
theorem dX2_listKids_114 : decode cX2_listKids 114 = .ok (.aload_n 0, 1) := by decide +kernel
theorem dX2_listKids_115 : decode cX2_listKids 115 = .ok (.getfield 26, 3) := by decide +kernel
theorem dX2_listKids_118 : decode cX2_listKids 118 = .ok (.bipush 64, 2) := by decide +kernel
theorem dX2_listKids_120 : decode cX2_listKids 120 = .ok (.iload_n 1, 1) := by decide +kernel
theorem dX2_listKids_121 : decode cX2_listKids 121 = .ok (.iastore, 1) := by decide +kernel
theorem dX2_listKids_122 : decode cX2_listKids 122 = .ok (.return_, 1) := by decide +kernel
theorem dX2_gatherBodies_0 : decode cX2_gatherBodies 0 = .ok (.bipush 63, 2) := by decide +kernel
theorem dX2_gatherBodies_2 : decode cX2_gatherBodies 2 = .ok (.istore_n 1, 1) := by decide +kernel
theorem dX2_gatherBodies_3 : decode cX2_gatherBodies 3 = .ok (.iload_n 1, 1) := by decide +kernel
theorem dX2_gatherBodies_4 : decode cX2_gatherBodies 4 = .ok (.ifCond .lt 53, 3) := by decide +kernel
theorem dX2_gatherBodies_7 : decode cX2_gatherBodies 7 = .ok (.lconst 1, 1) := by decide +kernel
theorem dX2_gatherBodies_8 : decode cX2_gatherBodies 8 = .ok (.iload_n 1, 1) := by decide +kernel
theorem dX2_gatherBodies_9 : decode cX2_gatherBodies 9 = .ok (.lshl, 1) := by decide +kernel
theorem dX2_gatherBodies_10 : decode cX2_gatherBodies 10 = .ok (.lstore_n 2, 1) := by decide +kernel
theorem dX2_gatherBodies_11 : decode cX2_gatherBodies 11 = .ok (.iconst 0, 1) := by decide +kernel
theorem dX2_gatherBodies_12 : decode cX2_gatherBodies 12 = .ok (.istore 4, 2) := by decide +kernel
theorem dX2_gatherBodies_14 : decode cX2_gatherBodies 14 = .ok (.iload 4, 2) := by decide +kernel
theorem dX2_gatherBodies_16 : decode cX2_gatherBodies 16 = .ok (.aload_n 0, 1) := by decide +kernel
theorem dX2_gatherBodies_17 : decode cX2_gatherBodies 17 = .ok (.iload_n 1, 1) := by decide +kernel
theorem dX2_gatherBodies_18 : decode cX2_gatherBodies 18 = .ok (.invokevirtual 83, 3) := by decide +kernel
theorem dX2_gatherBodies_21 : decode cX2_gatherBodies 21 = .ok (.if_icmp .ge 23, 3) := by decide +kernel
theorem dX2_gatherBodies_24 : decode cX2_gatherBodies 24 = .ok (.lload_n 2, 1) := by decide +kernel
theorem dX2_gatherBodies_25 : decode cX2_gatherBodies 25 = .ok (.aload_n 0, 1) := by decide +kernel
theorem dX2_gatherBodies_26 : decode cX2_gatherBodies 26 = .ok (.aload_n 0, 1) := by decide +kernel
theorem dX2_gatherBodies_27 : decode cX2_gatherBodies 27 = .ok (.iload_n 1, 1) := by decide +kernel
theorem dX2_gatherBodies_28 : decode cX2_gatherBodies 28 = .ok (.iload 4, 2) := by decide +kernel
theorem dX2_gatherBodies_30 : decode cX2_gatherBodies 30 = .ok (.invokevirtual 86, 3) := by decide +kernel
theorem dX2_gatherBodies_33 : decode cX2_gatherBodies 33 = .ok (.invokevirtual 90, 3) := by decide +kernel
theorem dX2_gatherBodies_36 : decode cX2_gatherBodies 36 = .ok (.lor, 1) := by decide +kernel
theorem dX2_gatherBodies_37 : decode cX2_gatherBodies 37 = .ok (.lstore_n 2, 1) := by decide +kernel
theorem dX2_gatherBodies_38 : decode cX2_gatherBodies 38 = .ok (.iinc 4 1, 3) := by decide +kernel
theorem dX2_gatherBodies_41 : decode cX2_gatherBodies 41 = .ok (.goto (-27), 3) := by decide +kernel
theorem dX2_gatherBodies_44 : decode cX2_gatherBodies 44 = .ok (.aload_n 0, 1) := by decide +kernel
theorem dX2_gatherBodies_45 : decode cX2_gatherBodies 45 = .ok (.getfield 29, 3) := by decide +kernel
theorem dX2_gatherBodies_48 : decode cX2_gatherBodies 48 = .ok (.iload_n 1, 1) := by decide +kernel
theorem dX2_gatherBodies_49 : decode cX2_gatherBodies 49 = .ok (.lload_n 2, 1) := by decide +kernel
theorem dX2_gatherBodies_50 : decode cX2_gatherBodies 50 = .ok (.lastore, 1) := by decide +kernel
theorem dX2_gatherBodies_51 : decode cX2_gatherBodies 51 = .ok (.iinc 1 (-1), 3) := by decide +kernel
theorem dX2_gatherBodies_54 : decode cX2_gatherBodies 54 = .ok (.goto (-51), 3) := by decide +kernel
theorem dX2_gatherBodies_57 : decode cX2_gatherBodies 57 = .ok (.return_, 1) := by decide +kernel
theorem dX2_isLegit_0 : decode cX2_isLegit 0 = .ok (.iload_n 1, 1) := by decide +kernel
theorem dX2_isLegit_1 : decode cX2_isLegit 1 = .ok (.invokestatic 94, 3) := by decide +kernel
theorem dX2_isLegit_4 : decode cX2_isLegit 4 = .ok (.ifCond .eq 16, 3) := by decide +kernel
theorem dX2_isLegit_7 : decode cX2_isLegit 7 = .ok (.aload_n 0, 1) := by decide +kernel
theorem dX2_isLegit_8 : decode cX2_isLegit 8 = .ok (.getfield 9, 3) := by decide +kernel
theorem dX2_isLegit_11 : decode cX2_isLegit 11 = .ok (.iload_n 1, 1) := by decide +kernel
theorem dX2_isLegit_12 : decode cX2_isLegit 12 = .ok (.baload, 1) := by decide +kernel
theorem dX2_isLegit_13 : decode cX2_isLegit 13 = .ok (.ifCond .eq 7, 3) := by decide +kernel
theorem dX2_isLegit_16 : decode cX2_isLegit 16 = .ok (.iconst 1, 1) := by decide +kernel
theorem dX2_isLegit_17 : decode cX2_isLegit 17 = .ok (.goto 4, 3) := by decide +kernel
theorem dX2_isLegit_20 : decode cX2_isLegit 20 = .ok (.iconst 0, 1) := by decide +kernel
theorem dX2_isLegit_21 : decode cX2_isLegit 21 = .ok (.ireturn, 1) := by decide +kernel
theorem dX2_size_0 : decode cX2_size 0 = .ok (.aload_n 0, 1) := by decide +kernel
theorem dX2_size_1 : decode cX2_size 1 = .ok (.getfield 19, 3) := by decide +kernel
theorem dX2_size_4 : decode cX2_size 4 = .ok (.ireturn, 1) := by decide +kernel
theorem dX2_byAge_0 : decode cX2_byAge 0 = .ok (.iload_n 1, 1) := by decide +kernel
theorem dX2_byAge_1 : decode cX2_byAge 1 = .ok (.ifCond .lt 20, 3) := by decide +kernel
theorem dX2_byAge_4 : decode cX2_byAge 4 = .ok (.iload_n 1, 1) := by decide +kernel
theorem dX2_byAge_5 : decode cX2_byAge 5 = .ok (.aload_n 0, 1) := by decide +kernel
theorem dX2_byAge_6 : decode cX2_byAge 6 = .ok (.getfield 19, 3) := by decide +kernel
theorem dX2_byAge_9 : decode cX2_byAge 9 = .ok (.if_icmp .ge 12, 3) := by decide +kernel
theorem dX2_byAge_12 : decode cX2_byAge 12 = .ok (.aload_n 0, 1) := by decide +kernel
theorem dX2_byAge_13 : decode cX2_byAge 13 = .ok (.getfield 15, 3) := by decide +kernel
theorem dX2_byAge_16 : decode cX2_byAge 16 = .ok (.iload_n 1, 1) := by decide +kernel
theorem dX2_byAge_17 : decode cX2_byAge 17 = .ok (.iaload, 1) := by decide +kernel
theorem dX2_byAge_18 : decode cX2_byAge 18 = .ok (.goto 4, 3) := by decide +kernel
theorem dX2_byAge_21 : decode cX2_byAge 21 = .ok (.iconst (-1), 1) := by decide +kernel
theorem dX2_byAge_22 : decode cX2_byAge 22 = .ok (.ireturn, 1) := by decide +kernel
theorem dX2_kidCount_0 : decode cX2_kidCount 0 = .ok (.iload_n 1, 1) := by decide +kernel
theorem dX2_kidCount_1 : decode cX2_kidCount 1 = .ok (.ifCond .lt 27, 3) := by decide +kernel
theorem dX2_kidCount_4 : decode cX2_kidCount 4 = .ok (.iload_n 1, 1) := by decide +kernel
theorem dX2_kidCount_5 : decode cX2_kidCount 5 = .ok (.bipush 64, 2) := by decide +kernel
theorem dX2_kidCount_7 : decode cX2_kidCount 7 = .ok (.if_icmp .ge 21, 3) := by decide +kernel
theorem dX2_kidCount_10 : decode cX2_kidCount 10 = .ok (.aload_n 0, 1) := by decide +kernel
theorem dX2_kidCount_11 : decode cX2_kidCount 11 = .ok (.getfield 26, 3) := by decide +kernel
theorem dX2_kidCount_14 : decode cX2_kidCount 14 = .ok (.iload_n 1, 1) := by decide +kernel
theorem dX2_kidCount_15 : decode cX2_kidCount 15 = .ok (.iconst 1, 1) := by decide +kernel
theorem dX2_kidCount_16 : decode cX2_kidCount 16 = .ok (.iadd, 1) := by decide +kernel
theorem dX2_kidCount_17 : decode cX2_kidCount 17 = .ok (.iaload, 1) := by decide +kernel
theorem dX2_kidCount_18 : decode cX2_kidCount 18 = .ok (.aload_n 0, 1) := by decide +kernel
theorem dX2_kidCount_19 : decode cX2_kidCount 19 = .ok (.getfield 26, 3) := by decide +kernel
theorem dX2_kidCount_22 : decode cX2_kidCount 22 = .ok (.iload_n 1, 1) := by decide +kernel
theorem dX2_kidCount_23 : decode cX2_kidCount 23 = .ok (.iaload, 1) := by decide +kernel
theorem dX2_kidCount_24 : decode cX2_kidCount 24 = .ok (.isub, 1) := by decide +kernel
theorem dX2_kidCount_25 : decode cX2_kidCount 25 = .ok (.goto 4, 3) := by decide +kernel
theorem dX2_kidCount_28 : decode cX2_kidCount 28 = .ok (.iconst 0, 1) := by decide +kernel
theorem dX2_kidCount_29 : decode cX2_kidCount 29 = .ok (.ireturn, 1) := by decide +kernel
theorem dX2_kid_0 : decode cX2_kid 0 = .ok (.iload_n 1, 1) := by decide +kernel
theorem dX2_kid_1 : decode cX2_kid 1 = .ok (.ifCond .lt 13, 3) := by decide +kernel
theorem dX2_kid_4 : decode cX2_kid 4 = .ok (.iload_n 1, 1) := by decide +kernel
theorem dX2_kid_5 : decode cX2_kid 5 = .ok (.bipush 64, 2) := by decide +kernel
theorem dX2_kid_7 : decode cX2_kid 7 = .ok (.if_icmp .ge 7, 3) := by decide +kernel
theorem dX2_kid_10 : decode cX2_kid 10 = .ok (.iload_n 2, 1) := by decide +kernel
theorem dX2_kid_11 : decode cX2_kid 11 = .ok (.ifCond .ge 5, 3) := by decide +kernel
theorem dX2_kid_14 : decode cX2_kid 14 = .ok (.iconst (-1), 1) := by decide +kernel
theorem dX2_kid_15 : decode cX2_kid 15 = .ok (.ireturn, 1) := by decide +kernel
theorem dX2_kid_16 : decode cX2_kid 16 = .ok (.aload_n 0, 1) := by decide +kernel
theorem dX2_kid_17 : decode cX2_kid 17 = .ok (.getfield 26, 3) := by decide +kernel
theorem dX2_kid_20 : decode cX2_kid 20 = .ok (.iload_n 1, 1) := by decide +kernel
theorem dX2_kid_21 : decode cX2_kid 21 = .ok (.iaload, 1) := by decide +kernel
theorem dX2_kid_22 : decode cX2_kid 22 = .ok (.iload_n 2, 1) := by decide +kernel
theorem dX2_kid_23 : decode cX2_kid 23 = .ok (.iadd, 1) := by decide +kernel
theorem dX2_kid_24 : decode cX2_kid 24 = .ok (.istore_n 3, 1) := by decide +kernel
theorem dX2_kid_25 : decode cX2_kid 25 = .ok (.iload_n 3, 1) := by decide +kernel
theorem dX2_kid_26 : decode cX2_kid 26 = .ok (.aload_n 0, 1) := by decide +kernel
theorem dX2_kid_27 : decode cX2_kid 27 = .ok (.getfield 26, 3) := by decide +kernel
theorem dX2_kid_30 : decode cX2_kid 30 = .ok (.iload_n 1, 1) := by decide +kernel
theorem dX2_kid_31 : decode cX2_kid 31 = .ok (.iconst 1, 1) := by decide +kernel
theorem dX2_kid_32 : decode cX2_kid 32 = .ok (.iadd, 1) := by decide +kernel
theorem dX2_kid_33 : decode cX2_kid 33 = .ok (.iaload, 1) := by decide +kernel
theorem dX2_kid_34 : decode cX2_kid 34 = .ok (.if_icmp .ge 12, 3) := by decide +kernel
theorem dX2_kid_37 : decode cX2_kid 37 = .ok (.aload_n 0, 1) := by decide +kernel
theorem dX2_kid_38 : decode cX2_kid 38 = .ok (.getfield 23, 3) := by decide +kernel
theorem dX2_kid_41 : decode cX2_kid 41 = .ok (.iload_n 3, 1) := by decide +kernel
theorem dX2_kid_42 : decode cX2_kid 42 = .ok (.iaload, 1) := by decide +kernel
theorem dX2_kid_43 : decode cX2_kid 43 = .ok (.goto 4, 3) := by decide +kernel
theorem dX2_kid_46 : decode cX2_kid 46 = .ok (.iconst (-1), 1) := by decide +kernel
theorem dX2_kid_47 : decode cX2_kid 47 = .ok (.ireturn, 1) := by decide +kernel
theorem dX2_body_0 : decode cX2_body 0 = .ok (.iload_n 1, 1) := by decide +kernel
theorem dX2_body_1 : decode cX2_body 1 = .ok (.invokestatic 94, 3) := by decide +kernel
theorem dX2_body_4 : decode cX2_body 4 = .ok (.ifCond .eq 12, 3) := by decide +kernel
theorem dX2_body_7 : decode cX2_body 7 = .ok (.aload_n 0, 1) := by decide +kernel
theorem dX2_body_8 : decode cX2_body 8 = .ok (.getfield 29, 3) := by decide +kernel
theorem dX2_body_11 : decode cX2_body 11 = .ok (.iload_n 1, 1) := by decide +kernel
theorem dX2_body_12 : decode cX2_body 12 = .ok (.laload, 1) := by decide +kernel
theorem dX2_body_13 : decode cX2_body 13 = .ok (.goto 4, 3) := by decide +kernel
theorem dX2_body_16 : decode cX2_body 16 = .ok (.lconst 0, 1) := by decide +kernel
theorem dX2_body_17 : decode cX2_body 17 = .ok (.lreturn, 1) := by decide +kernel
theorem dX3_init_0 : decode cX3_init 0 = .ok (.aload_n 0, 1) := by decide +kernel
theorem dX3_init_1 : decode cX3_init 1 = .ok (.invokespecial 3, 3) := by decide +kernel
theorem dX3_init_4 : decode cX3_init 4 = .ok (.aload_n 0, 1) := by decide +kernel
theorem dX3_init_5 : decode cX3_init 5 = .ok (.iconst (-1), 1) := by decide +kernel
theorem dX3_init_6 : decode cX3_init 6 = .ok (.putfield 9, 3) := by decide +kernel
theorem dX3_init_9 : decode cX3_init 9 = .ok (.aload_n 0, 1) := by decide +kernel
theorem dX3_init_10 : decode cX3_init 10 = .ok (.iconst (-1), 1) := by decide +kernel
theorem dX3_init_11 : decode cX3_init 11 = .ok (.putfield 15, 3) := by decide +kernel
theorem dX3_init_14 : decode cX3_init 14 = .ok (.aload_n 0, 1) := by decide +kernel
theorem dX3_init_15 : decode cX3_init 15 = .ok (.iconst (-1), 1) := by decide +kernel
theorem dX3_init_16 : decode cX3_init 16 = .ok (.putfield 18, 3) := by decide +kernel
theorem dX3_init_19 : decode cX3_init 19 = .ok (.aload_n 0, 1) := by decide +kernel
theorem dX3_init_20 : decode cX3_init 20 = .ok (.iconst (-1), 1) := by decide +kernel
theorem dX3_init_21 : decode cX3_init 21 = .ok (.putfield 21, 3) := by decide +kernel
theorem dX3_init_24 : decode cX3_init 24 = .ok (.aload_n 0, 1) := by decide +kernel
theorem dX3_init_25 : decode cX3_init 25 = .ok (.iconst (-1), 1) := by decide +kernel
theorem dX3_init_26 : decode cX3_init 26 = .ok (.putfield 24, 3) := by decide +kernel
theorem dX3_init_29 : decode cX3_init 29 = .ok (.aload_n 0, 1) := by decide +kernel
theorem dX3_init_30 : decode cX3_init 30 = .ok (.iconst (-1), 1) := by decide +kernel
theorem dX3_init_31 : decode cX3_init 31 = .ok (.putfield 27, 3) := by decide +kernel
theorem dX3_init_34 : decode cX3_init 34 = .ok (.aload_n 0, 1) := by decide +kernel
theorem dX3_init_35 : decode cX3_init 35 = .ok (.iconst (-1), 1) := by decide +kernel
theorem dX3_init_36 : decode cX3_init 36 = .ok (.putfield 30, 3) := by decide +kernel
theorem dX3_init_39 : decode cX3_init 39 = .ok (.aload_n 0, 1) := by decide +kernel
theorem dX3_init_40 : decode cX3_init 40 = .ok (.iconst (-1), 1) := by decide +kernel
theorem dX3_init_41 : decode cX3_init 41 = .ok (.putfield 33, 3) := by decide +kernel
theorem dX3_init_44 : decode cX3_init 44 = .ok (.aload_n 0, 1) := by decide +kernel
theorem dX3_init_45 : decode cX3_init 45 = .ok (.iconst 0, 1) := by decide +kernel
theorem dX3_init_46 : decode cX3_init 46 = .ok (.putfield 36, 3) := by decide +kernel
theorem dX3_init_49 : decode cX3_init 49 = .ok (.aload_n 0, 1) := by decide +kernel
theorem dX3_init_50 : decode cX3_init 50 = .ok (.iconst 1, 1) := by decide +kernel
theorem dX3_init_51 : decode cX3_init 51 = .ok (.putfield 40, 3) := by decide +kernel
theorem dX3_init_54 : decode cX3_init 54 = .ok (.return_, 1) := by decide +kernel
theorem dX3_isOfUnion_0 : decode cX3_isOfUnion 0 = .ok (.aload_n 0, 1) := by decide +kernel
theorem dX3_isOfUnion_1 : decode cX3_isOfUnion 1 = .ok (.getfield 9, 3) := by decide +kernel
theorem dX3_isOfUnion_4 : decode cX3_isOfUnion 4 = .ok (.iconst 1, 1) := by decide +kernel
theorem dX3_isOfUnion_5 : decode cX3_isOfUnion 5 = .ok (.if_icmp .eq 11, 3) := by decide +kernel
theorem dX3_isOfUnion_8 : decode cX3_isOfUnion 8 = .ok (.aload_n 0, 1) := by decide +kernel
theorem dX3_isOfUnion_9 : decode cX3_isOfUnion 9 = .ok (.getfield 9, 3) := by decide +kernel
theorem dX3_isOfUnion_12 : decode cX3_isOfUnion 12 = .ok (.iconst 2, 1) := by decide +kernel
theorem dX3_isOfUnion_13 : decode cX3_isOfUnion 13 = .ok (.if_icmp .ne 7, 3) := by decide +kernel
theorem dX3_isOfUnion_16 : decode cX3_isOfUnion 16 = .ok (.iconst 1, 1) := by decide +kernel
theorem dX3_isOfUnion_17 : decode cX3_isOfUnion 17 = .ok (.goto 4, 3) := by decide +kernel
theorem dX3_isOfUnion_20 : decode cX3_isOfUnion 20 = .ok (.iconst 0, 1) := by decide +kernel
theorem dX3_isOfUnion_21 : decode cX3_isOfUnion 21 = .ok (.ireturn, 1) := by decide +kernel
theorem dX3_isOfLoss_0 : decode cX3_isOfLoss 0 = .ok (.aload_n 0, 1) := by decide +kernel
theorem dX3_isOfLoss_1 : decode cX3_isOfLoss 1 = .ok (.getfield 9, 3) := by decide +kernel
theorem dX3_isOfLoss_4 : decode cX3_isOfLoss 4 = .ok (.bipush 7, 2) := by decide +kernel
theorem dX3_isOfLoss_6 : decode cX3_isOfLoss 6 = .ok (.if_icmp .eq 12, 3) := by decide +kernel
theorem dX3_isOfLoss_9 : decode cX3_isOfLoss 9 = .ok (.aload_n 0, 1) := by decide +kernel
theorem dX3_isOfLoss_10 : decode cX3_isOfLoss 10 = .ok (.getfield 9, 3) := by decide +kernel
theorem dX3_isOfLoss_13 : decode cX3_isOfLoss 13 = .ok (.bipush 8, 2) := by decide +kernel
theorem dX3_isOfLoss_15 : decode cX3_isOfLoss 15 = .ok (.if_icmp .ne 7, 3) := by decide +kernel
theorem dX3_isOfLoss_18 : decode cX3_isOfLoss 18 = .ok (.iconst 1, 1) := by decide +kernel
theorem dX3_isOfLoss_19 : decode cX3_isOfLoss 19 = .ok (.goto 4, 3) := by decide +kernel
theorem dX3_isOfLoss_22 : decode cX3_isOfLoss 22 = .ok (.iconst 0, 1) := by decide +kernel
theorem dX3_isOfLoss_23 : decode cX3_isOfLoss 23 = .ok (.ireturn, 1) := by decide +kernel
theorem dX3_opens_0 : decode cX3_opens 0 = .ok (.aload_n 0, 1) := by decide +kernel
theorem dX3_opens_1 : decode cX3_opens 1 = .ok (.getfield 9, 3) := by decide +kernel
theorem dX3_opens_4 : decode cX3_opens 4 = .ok (.iconst 1, 1) := by decide +kernel
theorem dX3_opens_5 : decode cX3_opens 5 = .ok (.if_icmp .eq 12, 3) := by decide +kernel
theorem dX3_opens_8 : decode cX3_opens 8 = .ok (.aload_n 0, 1) := by decide +kernel
theorem dX3_opens_9 : decode cX3_opens 9 = .ok (.getfield 9, 3) := by decide +kernel
theorem dX3_opens_12 : decode cX3_opens 12 = .ok (.bipush 7, 2) := by decide +kernel
theorem dX3_opens_14 : decode cX3_opens 14 = .ok (.if_icmp .ne 7, 3) := by decide +kernel
theorem dX3_opens_17 : decode cX3_opens 17 = .ok (.iconst 1, 1) := by decide +kernel
theorem dX3_opens_18 : decode cX3_opens 18 = .ok (.goto 4, 3) := by decide +kernel
theorem dX3_opens_21 : decode cX3_opens 21 = .ok (.iconst 0, 1) := by decide +kernel
theorem dX3_opens_22 : decode cX3_opens 22 = .ok (.ireturn, 1) := by decide +kernel
theorem dX3_turn_0 : decode cX3_turn 0 = .ok (.iconst 2, 1) := by decide +kernel
theorem dX3_turn_1 : decode cX3_turn 1 = .ok (.aload_n 0, 1) := by decide +kernel
theorem dX3_turn_2 : decode cX3_turn 2 = .ok (.getfield 15, 3) := by decide +kernel
theorem dX3_turn_5 : decode cX3_turn 5 = .ok (.imul, 1) := by decide +kernel
theorem dX3_turn_6 : decode cX3_turn 6 = .ok (.aload_n 0, 1) := by decide +kernel
theorem dX3_turn_7 : decode cX3_turn 7 = .ok (.getfield 9, 3) := by decide +kernel
theorem dX3_turn_10 : decode cX3_turn 10 = .ok (.iconst 1, 1) := by decide +kernel
theorem dX3_turn_11 : decode cX3_turn 11 = .ok (.if_icmp .ne 7, 3) := by decide +kernel
theorem dX3_turn_14 : decode cX3_turn 14 = .ok (.iconst 1, 1) := by decide +kernel
theorem dX3_turn_15 : decode cX3_turn 15 = .ok (.goto 4, 3) := by decide +kernel
theorem dX3_turn_18 : decode cX3_turn 18 = .ok (.iconst 0, 1) := by decide +kernel
theorem dX3_turn_19 : decode cX3_turn 19 = .ok (.iadd, 1) := by decide +kernel
theorem dX3_turn_20 : decode cX3_turn 20 = .ok (.ireturn, 1) := by decide +kernel
theorem dX3_takesTurnsWith_0 : decode cX3_takesTurnsWith 0 = .ok (.aload_n 0, 1) := by decide +kernel
theorem dX3_takesTurnsWith_1 : decode cX3_takesTurnsWith 1 = .ok (.invokevirtual 43, 3) := by decide +kernel
theorem dX3_takesTurnsWith_4 : decode cX3_takesTurnsWith 4 = .ok (.ifCond .eq 38, 3) := by decide +kernel
theorem dX3_takesTurnsWith_7 : decode cX3_takesTurnsWith 7 = .ok (.aload_n 1, 1) := by decide +kernel
theorem dX3_takesTurnsWith_8 : decode cX3_takesTurnsWith 8 = .ok (.invokevirtual 43, 3) := by decide +kernel
theorem dX3_takesTurnsWith_11 : decode cX3_takesTurnsWith 11 = .ok (.ifCond .eq 29, 3) := by decide +kernel
theorem dX3_takesTurnsWith_14 : decode cX3_takesTurnsWith 14 = .ok (.aload_n 1, 1) := by decide +kernel
theorem dX3_takesTurnsWith_15 : decode cX3_takesTurnsWith 15 = .ok (.getfield 18, 3) := by decide +kernel
theorem dX3_takesTurnsWith_18 : decode cX3_takesTurnsWith 18 = .ok (.aload_n 0, 1) := by decide +kernel
theorem dX3_takesTurnsWith_19 : decode cX3_takesTurnsWith 19 = .ok (.getfield 18, 3) := by decide +kernel
theorem dX3_takesTurnsWith_22 : decode cX3_takesTurnsWith 22 = .ok (.if_icmp .ne 18, 3) := by decide +kernel
theorem dX3_takesTurnsWith_25 : decode cX3_takesTurnsWith 25 = .ok (.aload_n 1, 1) := by decide +kernel
theorem dX3_takesTurnsWith_26 : decode cX3_takesTurnsWith 26 = .ok (.getfield 21, 3) := by decide +kernel
theorem dX3_takesTurnsWith_29 : decode cX3_takesTurnsWith 29 = .ok (.aload_n 0, 1) := by decide +kernel
theorem dX3_takesTurnsWith_30 : decode cX3_takesTurnsWith 30 = .ok (.getfield 21, 3) := by decide +kernel
theorem dX3_takesTurnsWith_33 : decode cX3_takesTurnsWith 33 = .ok (.if_icmp .ne 7, 3) := by decide +kernel
theorem dX3_takesTurnsWith_36 : decode cX3_takesTurnsWith 36 = .ok (.iconst 1, 1) := by decide +kernel
theorem dX3_takesTurnsWith_37 : decode cX3_takesTurnsWith 37 = .ok (.goto 4, 3) := by decide +kernel
theorem dX3_takesTurnsWith_40 : decode cX3_takesTurnsWith 40 = .ok (.iconst 0, 1) := by decide +kernel
theorem dX3_takesTurnsWith_41 : decode cX3_takesTurnsWith 41 = .ok (.ireturn, 1) := by decide +kernel
theorem dX3_takesTurnsWith_42 : decode cX3_takesTurnsWith 42 = .ok (.aload_n 0, 1) := by decide +kernel
theorem dX3_takesTurnsWith_43 : decode cX3_takesTurnsWith 43 = .ok (.invokevirtual 47, 3) := by decide +kernel
theorem dX3_takesTurnsWith_46 : decode cX3_takesTurnsWith 46 = .ok (.ifCond .eq 25, 3) := by decide +kernel
theorem dX3_takesTurnsWith_49 : decode cX3_takesTurnsWith 49 = .ok (.aload_n 1, 1) := by decide +kernel
theorem dX3_takesTurnsWith_50 : decode cX3_takesTurnsWith 50 = .ok (.invokevirtual 47, 3) := by decide +kernel
theorem dX3_takesTurnsWith_53 : decode cX3_takesTurnsWith 53 = .ok (.ifCond .eq 18, 3) := by decide +kernel
theorem dX3_takesTurnsWith_56 : decode cX3_takesTurnsWith 56 = .ok (.aload_n 1, 1) := by decide +kernel
theorem dX3_takesTurnsWith_57 : decode cX3_takesTurnsWith 57 = .ok (.getfield 30, 3) := by decide +kernel
theorem dX3_takesTurnsWith_60 : decode cX3_takesTurnsWith 60 = .ok (.aload_n 0, 1) := by decide +kernel
theorem dX3_takesTurnsWith_61 : decode cX3_takesTurnsWith 61 = .ok (.getfield 30, 3) := by decide +kernel
theorem dX3_takesTurnsWith_64 : decode cX3_takesTurnsWith 64 = .ok (.if_icmp .ne 7, 3) := by decide +kernel
theorem dX3_takesTurnsWith_67 : decode cX3_takesTurnsWith 67 = .ok (.iconst 1, 1) := by decide +kernel
theorem dX3_takesTurnsWith_68 : decode cX3_takesTurnsWith 68 = .ok (.goto 4, 3) := by decide +kernel
theorem dX3_takesTurnsWith_71 : decode cX3_takesTurnsWith 71 = .ok (.iconst 0, 1) := by decide +kernel
theorem dX3_takesTurnsWith_72 : decode cX3_takesTurnsWith 72 = .ok (.ireturn, 1) := by decide +kernel
theorem dX4_init_0 : decode cX4_init 0 = .ok (.aload_n 0, 1) := by decide +kernel
theorem dX4_init_1 : decode cX4_init 1 = .ok (.invokespecial 3, 3) := by decide +kernel
theorem dX4_init_4 : decode cX4_init 4 = .ok (.aload_n 0, 1) := by decide +kernel
theorem dX4_init_5 : decode cX4_init 5 = .ok (.bipush 64, 2) := by decide +kernel
theorem dX4_init_7 : decode cX4_init 7 = .ok (.newarray .int, 2) := by decide +kernel
theorem dX4_init_9 : decode cX4_init 9 = .ok (.putfield 9, 3) := by decide +kernel
theorem dX4_init_12 : decode cX4_init 12 = .ok (.aload_n 0, 1) := by decide +kernel
theorem dX4_init_13 : decode cX4_init 13 = .ok (.iconst 0, 1) := by decide +kernel
theorem dX4_init_14 : decode cX4_init 14 = .ok (.putfield 15, 3) := by decide +kernel
theorem dX4_init_17 : decode cX4_init 17 = .ok (.aload_n 0, 1) := by decide +kernel
theorem dX4_init_18 : decode cX4_init 18 = .ok (.iconst (-1), 1) := by decide +kernel
theorem dX4_init_19 : decode cX4_init 19 = .ok (.putfield 19, 3) := by decide +kernel
theorem dX4_init_22 : decode cX4_init 22 = .ok (.aload_n 0, 1) := by decide +kernel
theorem dX4_init_23 : decode cX4_init 23 = .ok (.iconst (-1), 1) := by decide +kernel
theorem dX4_init_24 : decode cX4_init 24 = .ok (.putfield 22, 3) := by decide +kernel
theorem dX4_init_27 : decode cX4_init 27 = .ok (.aload_n 0, 1) := by decide +kernel
theorem dX4_init_28 : decode cX4_init 28 = .ok (.sipush 129, 3) := by decide +kernel
theorem dX4_init_31 : decode cX4_init 31 = .ok (.newarray .int, 2) := by decide +kernel
theorem dX4_init_33 : decode cX4_init 33 = .ok (.putfield 25, 3) := by decide +kernel
theorem dX4_init_36 : decode cX4_init 36 = .ok (.aload_n 0, 1) := by decide +kernel
theorem dX4_init_37 : decode cX4_init 37 = .ok (.iconst 0, 1) := by decide +kernel
theorem dX4_init_38 : decode cX4_init 38 = .ok (.putfield 28, 3) := by decide +kernel
theorem dX4_init_41 : decode cX4_init 41 = .ok (.aload_n 0, 1) := by decide +kernel
theorem dX4_init_42 : decode cX4_init 42 = .ok (.bipush 64, 2) := by decide +kernel
theorem dX4_init_44 : decode cX4_init 44 = .ok (.newarray .int, 2) := by decide +kernel
theorem dX4_init_46 : decode cX4_init 46 = .ok (.putfield 31, 3) := by decide +kernel
theorem dX4_init_49 : decode cX4_init 49 = .ok (.aload_n 0, 1) := by decide +kernel
theorem dX4_init_50 : decode cX4_init 50 = .ok (.bipush 64, 2) := by decide +kernel
theorem dX4_init_52 : decode cX4_init 52 = .ok (.newarray .int, 2) := by decide +kernel
theorem dX4_init_54 : decode cX4_init 54 = .ok (.putfield 34, 3) := by decide +kernel
theorem dX4_init_57 : decode cX4_init 57 = .ok (.aload_n 0, 1) := by decide +kernel
theorem dX4_init_58 : decode cX4_init 58 = .ok (.iconst 0, 1) := by decide +kernel
theorem dX4_init_59 : decode cX4_init 59 = .ok (.putfield 37, 3) := by decide +kernel
theorem dX4_init_62 : decode cX4_init 62 = .ok (.aload_n 0, 1) := by decide +kernel
theorem dX4_init_63 : decode cX4_init 63 = .ok (.lconst 0, 1) := by decide +kernel
theorem dX4_init_64 : decode cX4_init 64 = .ok (.putfield 40, 3) := by decide +kernel
theorem dX4_init_67 : decode cX4_init 67 = .ok (.aload_n 0, 1) := by decide +kernel
theorem dX4_init_68 : decode cX4_init 68 = .ok (.bipush 64, 2) := by decide +kernel
theorem dX4_init_70 : decode cX4_init 70 = .ok (.newarray .int, 2) := by decide +kernel
theorem dX4_init_72 : decode cX4_init 72 = .ok (.putfield 44, 3) := by decide +kernel
theorem dX4_init_75 : decode cX4_init 75 = .ok (.aload_n 0, 1) := by decide +kernel
theorem dX4_init_76 : decode cX4_init 76 = .ok (.iconst 0, 1) := by decide +kernel
theorem dX4_init_77 : decode cX4_init 77 = .ok (.putfield 47, 3) := by decide +kernel
theorem dX4_init_80 : decode cX4_init 80 = .ok (.aload_n 0, 1) := by decide +kernel
theorem dX4_init_81 : decode cX4_init 81 = .ok (.aload_n 1, 1) := by decide +kernel
theorem dX4_init_82 : decode cX4_init 82 = .ok (.putfield 50, 3) := by decide +kernel
theorem dX4_init_85 : decode cX4_init 85 = .ok (.aload_n 0, 1) := by decide +kernel
theorem dX4_init_86 : decode cX4_init 86 = .ok (.aload_n 2, 1) := by decide +kernel
theorem dX4_init_87 : decode cX4_init 87 = .ok (.putfield 54, 3) := by decide +kernel
theorem dX4_init_90 : decode cX4_init 90 = .ok (.return_, 1) := by decide +kernel
theorem dX4_forget_0 : decode cX4_forget 0 = .ok (.aload_n 0, 1) := by decide +kernel
theorem dX4_forget_1 : decode cX4_forget 1 = .ok (.iconst (-1), 1) := by decide +kernel
theorem dX4_forget_2 : decode cX4_forget 2 = .ok (.putfield 19, 3) := by decide +kernel
theorem dX4_forget_5 : decode cX4_forget 5 = .ok (.aload_n 0, 1) := by decide +kernel
theorem dX4_forget_6 : decode cX4_forget 6 = .ok (.iconst (-1), 1) := by decide +kernel
theorem dX4_forget_7 : decode cX4_forget 7 = .ok (.putfield 22, 3) := by decide +kernel
theorem dX4_forget_10 : decode cX4_forget 10 = .ok (.return_, 1) := by decide +kernel
theorem dX4_fill_0 : decode cX4_fill 0 = .ok (.iload_n 1, 1) := by decide +kernel
theorem dX4_fill_1 : decode cX4_fill 1 = .ok (.aload_n 0, 1) := by decide +kernel
theorem dX4_fill_2 : decode cX4_fill 2 = .ok (.getfield 19, 3) := by decide +kernel
theorem dX4_fill_5 : decode cX4_fill 5 = .ok (.if_icmp .ne 11, 3) := by decide +kernel
theorem dX4_fill_8 : decode cX4_fill 8 = .ok (.iload_n 2, 1) := by decide +kernel
theorem dX4_fill_9 : decode cX4_fill 9 = .ok (.aload_n 0, 1) := by decide +kernel
theorem dX4_fill_10 : decode cX4_fill 10 = .ok (.getfield 22, 3) := by decide +kernel
theorem dX4_fill_13 : decode cX4_fill 13 = .ok (.if_icmp .eq 37, 3) := by decide +kernel
theorem dX4_fill_16 : decode cX4_fill 16 = .ok (.aload_n 0, 1) := by decide +kernel
theorem dX4_fill_17 : decode cX4_fill 17 = .ok (.iconst 0, 1) := by decide +kernel
theorem dX4_fill_18 : decode cX4_fill 18 = .ok (.putfield 15, 3) := by decide +kernel
theorem dX4_fill_21 : decode cX4_fill 21 = .ok (.aload_n 0, 1) := by decide +kernel
theorem dX4_fill_22 : decode cX4_fill 22 = .ok (.iload_n 1, 1) := by decide +kernel
theorem dX4_fill_23 : decode cX4_fill 23 = .ok (.putfield 19, 3) := by decide +kernel
theorem dX4_fill_26 : decode cX4_fill 26 = .ok (.aload_n 0, 1) := by decide +kernel
theorem dX4_fill_27 : decode cX4_fill 27 = .ok (.iload_n 2, 1) := by decide +kernel
theorem dX4_fill_28 : decode cX4_fill 28 = .ok (.putfield 22, 3) := by decide +kernel
theorem dX4_fill_31 : decode cX4_fill 31 = .ok (.iload_n 1, 1) := by decide +kernel
theorem dX4_fill_32 : decode cX4_fill 32 = .ok (.iconst 4, 1) := by decide +kernel
theorem dX4_fill_33 : decode cX4_fill 33 = .ok (.if_icmp .ne 11, 3) := by decide +kernel
theorem dX4_fill_36 : decode cX4_fill 36 = .ok (.aload_n 0, 1) := by decide +kernel
theorem dX4_fill_37 : decode cX4_fill 37 = .ok (.iload_n 2, 1) := by decide +kernel
theorem dX4_fill_38 : decode cX4_fill 38 = .ok (.invokevirtual 58, 3) := by decide +kernel
theorem dX4_fill_41 : decode cX4_fill 41 = .ok (.goto 9, 3) := by decide +kernel
theorem dX4_fill_44 : decode cX4_fill 44 = .ok (.aload_n 0, 1) := by decide +kernel
theorem dX4_fill_45 : decode cX4_fill 45 = .ok (.iload_n 1, 1) := by decide +kernel
theorem dX4_fill_46 : decode cX4_fill 46 = .ok (.iload_n 2, 1) := by decide +kernel
theorem dX4_fill_47 : decode cX4_fill 47 = .ok (.invokevirtual 62, 3) := by decide +kernel
theorem dX4_fill_50 : decode cX4_fill 50 = .ok (.aload_n 0, 1) := by decide +kernel
theorem dX4_fill_51 : decode cX4_fill 51 = .ok (.iconst 0, 1) := by decide +kernel
theorem dX4_fill_52 : decode cX4_fill 52 = .ok (.putfield 37, 3) := by decide +kernel
theorem dX4_fill_55 : decode cX4_fill 55 = .ok (.aload_n 0, 1) := by decide +kernel
theorem dX4_fill_56 : decode cX4_fill 56 = .ok (.lconst 0, 1) := by decide +kernel
theorem dX4_fill_57 : decode cX4_fill 57 = .ok (.putfield 40, 3) := by decide +kernel
theorem dX4_fill_60 : decode cX4_fill 60 = .ok (.iconst 0, 1) := by decide +kernel
theorem dX4_fill_61 : decode cX4_fill 61 = .ok (.istore 5, 2) := by decide +kernel
theorem dX4_fill_63 : decode cX4_fill 63 = .ok (.iload 5, 2) := by decide +kernel
theorem dX4_fill_65 : decode cX4_fill 65 = .ok (.aload_n 0, 1) := by decide +kernel
theorem dX4_fill_66 : decode cX4_fill 66 = .ok (.getfield 15, 3) := by decide +kernel
theorem dX4_fill_69 : decode cX4_fill 69 = .ok (.if_icmp .ge 110, 3) := by decide +kernel
theorem dX4_fill_72 : decode cX4_fill 72 = .ok (.aload_n 0, 1) := by decide +kernel
theorem dX4_fill_73 : decode cX4_fill 73 = .ok (.getfield 9, 3) := by decide +kernel
theorem dX4_fill_76 : decode cX4_fill 76 = .ok (.iload 5, 2) := by decide +kernel
theorem dX4_fill_78 : decode cX4_fill 78 = .ok (.iaload, 1) := by decide +kernel
theorem dX4_fill_79 : decode cX4_fill 79 = .ok (.istore 6, 2) := by decide +kernel
theorem dX4_fill_81 : decode cX4_fill 81 = .ok (.aload_n 0, 1) := by decide +kernel
theorem dX4_fill_82 : decode cX4_fill 82 = .ok (.getfield 50, 3) := by decide +kernel
theorem dX4_fill_85 : decode cX4_fill 85 = .ok (.iload 6, 2) := by decide +kernel
theorem dX4_fill_87 : decode cX4_fill 87 = .ok (.iload_n 3, 1) := by decide +kernel
theorem dX4_fill_88 : decode cX4_fill 88 = .ok (.invokevirtual 66, 3) := by decide +kernel
theorem dX4_fill_91 : decode cX4_fill 91 = .ok (.ifCond .eq 82, 3) := by decide +kernel
theorem dX4_fill_94 : decode cX4_fill 94 = .ok (.iload_n 1, 1) := by decide +kernel
theorem dX4_fill_95 : decode cX4_fill 95 = .ok (.ifCond .ne 18, 3) := by decide +kernel
theorem dX4_fill_98 : decode cX4_fill 98 = .ok (.aload_n 0, 1) := by decide +kernel
theorem dX4_fill_99 : decode cX4_fill 99 = .ok (.getfield 50, 3) := by decide +kernel
theorem dX4_fill_102 : decode cX4_fill 102 = .ok (.iload 6, 2) := by decide +kernel
theorem dX4_fill_104 : decode cX4_fill 104 = .ok (.invokevirtual 72, 3) := by decide +kernel
theorem dX4_fill_107 : decode cX4_fill 107 = .ok (.ifCond .ne 6, 3) := by decide +kernel
theorem dX4_fill_110 : decode cX4_fill 110 = .ok (.goto 63, 3) := by decide +kernel
theorem dX4_fill_113 : decode cX4_fill 113 = .ok (.iload 6, 2) := by decide +kernel
theorem dX4_fill_115 : decode cX4_fill 115 = .ok (.aload 4, 2) := by decide +kernel
theorem dX4_fill_117 : decode cX4_fill 117 = .ok (.arraylength, 1) := by decide +kernel
theorem dX4_fill_118 : decode cX4_fill 118 = .ok (.if_icmp .ge 55, 3) := by decide +kernel
theorem dX4_fill_121 : decode cX4_fill 121 = .ok (.aload 4, 2) := by decide +kernel
theorem dX4_fill_123 : decode cX4_fill 123 = .ok (.iload 6, 2) := by decide +kernel
theorem dX4_fill_125 : decode cX4_fill 125 = .ok (.iaload, 1) := by decide +kernel
theorem dX4_fill_126 : decode cX4_fill 126 = .ok (.iconst (-1), 1) := by decide +kernel
theorem dX4_fill_127 : decode cX4_fill 127 = .ok (.if_icmp .eq 15, 3) := by decide +kernel
theorem dX4_fill_130 : decode cX4_fill 130 = .ok (.aload 4, 2) := by decide +kernel
theorem dX4_fill_132 : decode cX4_fill 132 = .ok (.iload 6, 2) := by decide +kernel
theorem dX4_fill_134 : decode cX4_fill 134 = .ok (.iaload, 1) := by decide +kernel
theorem dX4_fill_135 : decode cX4_fill 135 = .ok (.iload_n 3, 1) := by decide +kernel
theorem dX4_fill_136 : decode cX4_fill 136 = .ok (.if_icmp .gt 6, 3) := by decide +kernel
theorem dX4_fill_139 : decode cX4_fill 139 = .ok (.goto 34, 3) := by decide +kernel
theorem dX4_fill_142 : decode cX4_fill 142 = .ok (.aload_n 0, 1) := by decide +kernel
theorem dX4_fill_143 : decode cX4_fill 143 = .ok (.getfield 34, 3) := by decide +kernel
theorem dX4_fill_146 : decode cX4_fill 146 = .ok (.aload_n 0, 1) := by decide +kernel
theorem dX4_fill_147 : decode cX4_fill 147 = .ok (.dup, 1) := by decide +kernel
theorem dX4_fill_148 : decode cX4_fill 148 = .ok (.getfield 37, 3) := by decide +kernel
theorem dX4_fill_151 : decode cX4_fill 151 = .ok (.dup_x1, 1) := by decide +kernel
theorem dX4_fill_152 : decode cX4_fill 152 = .ok (.iconst 1, 1) := by decide +kernel
theorem dX4_fill_153 : decode cX4_fill 153 = .ok (.iadd, 1) := by decide +kernel
theorem dX4_fill_154 : decode cX4_fill 154 = .ok (.putfield 37, 3) := by decide +kernel
theorem dX4_fill_157 : decode cX4_fill 157 = .ok (.iload 6, 2) := by decide +kernel
theorem dX4_fill_159 : decode cX4_fill 159 = .ok (.iastore, 1) := by decide +kernel
theorem dX4_fill_160 : decode cX4_fill 160 = .ok (.aload_n 0, 1) := by decide +kernel
theorem dX4_fill_161 : decode cX4_fill 161 = .ok (.dup, 1) := by decide +kernel
theorem dX4_fill_162 : decode cX4_fill 162 = .ok (.getfield 40, 3) := by decide +kernel
theorem dX4_fill_165 : decode cX4_fill 165 = .ok (.lconst 1, 1) := by decide +kernel
theorem dX4_fill_166 : decode cX4_fill 166 = .ok (.iload 6, 2) := by decide +kernel
theorem dX4_fill_168 : decode cX4_fill 168 = .ok (.lshl, 1) := by decide +kernel
theorem dX4_fill_169 : decode cX4_fill 169 = .ok (.lor, 1) := by decide +kernel
theorem dX4_fill_170 : decode cX4_fill 170 = .ok (.putfield 40, 3) := by decide +kernel
theorem dX4_fill_173 : decode cX4_fill 173 = .ok (.iinc 5 1, 3) := by decide +kernel
theorem dX4_fill_176 : decode cX4_fill 176 = .ok (.goto (-113), 3) := by decide +kernel
theorem dX4_fill_179 : decode cX4_fill 179 = .ok (.return_, 1) := by decide +kernel
theorem dX4_orderByBirths_0 : decode cX4_orderByBirths 0 = .ok (.iload_n 1, 1) := by decide +kernel
theorem dX4_orderByBirths_1 : decode cX4_orderByBirths 1 = .ok (.invokestatic 76, 3) := by decide +kernel
theorem dX4_orderByBirths_4 : decode cX4_orderByBirths 4 = .ok (.ifCond .ne 4, 3) := by decide +kernel
theorem dX4_orderByBirths_7 : decode cX4_orderByBirths 7 = .ok (.return_, 1) := by decide +kernel
theorem dX4_orderByBirths_8 : decode cX4_orderByBirths 8 = .ok (.iconst 0, 1) := by decide +kernel
theorem dX4_orderByBirths_9 : decode cX4_orderByBirths 9 = .ok (.istore_n 2, 1) := by decide +kernel
theorem dX4_orderByBirths_10 : decode cX4_orderByBirths 10 = .ok (.iload_n 2, 1) := by decide +kernel
theorem dX4_orderByBirths_11 : decode cX4_orderByBirths 11 = .ok (.bipush 64, 2) := by decide +kernel
theorem dX4_orderByBirths_13 : decode cX4_orderByBirths 13 = .ok (.if_icmp .ge 25, 3) := by decide +kernel
theorem dX4_orderByBirths_16 : decode cX4_orderByBirths 16 = .ok (.aload_n 0, 1) := by decide +kernel
theorem dX4_orderByBirths_17 : decode cX4_orderByBirths 17 = .ok (.getfield 31, 3) := by decide +kernel
theorem dX4_orderByBirths_20 : decode cX4_orderByBirths 20 = .ok (.iload_n 2, 1) := by decide +kernel
theorem dX4_orderByBirths_21 : decode cX4_orderByBirths 21 = .ok (.iload_n 2, 1) := by decide +kernel
theorem dX4_orderByBirths_22 : decode cX4_orderByBirths 22 = .ok (.iload_n 1, 1) := by decide +kernel
theorem dX4_orderByBirths_23 : decode cX4_orderByBirths 23 = .ok (.if_icmp .ne 7, 3) := by decide +kernel
theorem dX4_orderByBirths_26 : decode cX4_orderByBirths 26 = .ok (.iconst 0, 1) := by decide +kernel
theorem dX4_orderByBirths_27 : decode cX4_orderByBirths 27 = .ok (.goto 4, 3) := by decide +kernel
theorem dX4_orderByBirths_30 : decode cX4_orderByBirths 30 = .ok (.iconst (-1), 1) := by decide +kernel
theorem dX4_orderByBirths_31 : decode cX4_orderByBirths 31 = .ok (.iastore, 1) := by decide +kernel
theorem dX4_orderByBirths_32 : decode cX4_orderByBirths 32 = .ok (.iinc 2 1, 3) := by decide +kernel
theorem dX4_orderByBirths_35 : decode cX4_orderByBirths 35 = .ok (.goto (-25), 3) := by decide +kernel
theorem dX4_orderByBirths_38 : decode cX4_orderByBirths 38 = .ok (.iload_n 1, 1) := by decide +kernel
theorem dX4_orderByBirths_39 : decode cX4_orderByBirths 39 = .ok (.istore_n 2, 1) := by decide +kernel
theorem dX4_orderByBirths_40 : decode cX4_orderByBirths 40 = .ok (.iload_n 2, 1) := by decide +kernel
theorem dX4_orderByBirths_41 : decode cX4_orderByBirths 41 = .ok (.bipush 64, 2) := by decide +kernel
theorem dX4_orderByBirths_43 : decode cX4_orderByBirths 43 = .ok (.if_icmp .ge 24, 3) := by decide +kernel
theorem dX4_orderByBirths_46 : decode cX4_orderByBirths 46 = .ok (.aload_n 0, 1) := by decide +kernel
theorem dX4_orderByBirths_47 : decode cX4_orderByBirths 47 = .ok (.getfield 31, 3) := by decide +kernel
theorem dX4_orderByBirths_50 : decode cX4_orderByBirths 50 = .ok (.iload_n 2, 1) := by decide +kernel
theorem dX4_orderByBirths_51 : decode cX4_orderByBirths 51 = .ok (.iaload, 1) := by decide +kernel
theorem dX4_orderByBirths_52 : decode cX4_orderByBirths 52 = .ok (.iconst (-1), 1) := by decide +kernel
theorem dX4_orderByBirths_53 : decode cX4_orderByBirths 53 = .ok (.if_icmp .eq 8, 3) := by decide +kernel
theorem dX4_orderByBirths_56 : decode cX4_orderByBirths 56 = .ok (.aload_n 0, 1) := by decide +kernel
theorem dX4_orderByBirths_57 : decode cX4_orderByBirths 57 = .ok (.iload_n 2, 1) := by decide +kernel
theorem dX4_orderByBirths_58 : decode cX4_orderByBirths 58 = .ok (.invokevirtual 79, 3) := by decide +kernel
theorem dX4_orderByBirths_61 : decode cX4_orderByBirths 61 = .ok (.iinc 2 1, 3) := by decide +kernel
theorem dX4_orderByBirths_64 : decode cX4_orderByBirths 64 = .ok (.goto (-24), 3) := by decide +kernel
theorem dX4_orderByBirths_67 : decode cX4_orderByBirths 67 = .ok (.iconst 0, 1) := by decide +kernel
theorem dX4_orderByBirths_68 : decode cX4_orderByBirths 68 = .ok (.istore_n 2, 1) := by decide +kernel
theorem dX4_orderByBirths_69 : decode cX4_orderByBirths 69 = .ok (.iload_n 2, 1) := by decide +kernel
theorem dX4_orderByBirths_70 : decode cX4_orderByBirths 70 = .ok (.bipush 64, 2) := by decide +kernel
theorem dX4_orderByBirths_72 : decode cX4_orderByBirths 72 = .ok (.if_icmp .ge 82, 3) := by decide +kernel
theorem dX4_orderByBirths_75 : decode cX4_orderByBirths 75 = .ok (.iconst 0, 1) := by decide +kernel
theorem dX4_orderByBirths_76 : decode cX4_orderByBirths 76 = .ok (.istore_n 3, 1) := by decide +kernel
theorem dX4_orderByBirths_77 : decode cX4_orderByBirths 77 = .ok (.iload_n 3, 1) := by decide +kernel
theorem dX4_orderByBirths_78 : decode cX4_orderByBirths 78 = .ok (.aload_n 0, 1) := by decide +kernel
theorem dX4_orderByBirths_79 : decode cX4_orderByBirths 79 = .ok (.getfield 54, 3) := by decide +kernel
theorem dX4_orderByBirths_82 : decode cX4_orderByBirths 82 = .ok (.invokevirtual 82, 3) := by decide +kernel
theorem dX4_orderByBirths_85 : decode cX4_orderByBirths 85 = .ok (.if_icmp .ge 63, 3) := by decide +kernel
theorem dX4_orderByBirths_88 : decode cX4_orderByBirths 88 = .ok (.aload_n 0, 1) := by decide +kernel
theorem dX4_orderByBirths_89 : decode cX4_orderByBirths 89 = .ok (.getfield 54, 3) := by decide +kernel
theorem dX4_orderByBirths_92 : decode cX4_orderByBirths 92 = .ok (.iload_n 3, 1) := by decide +kernel
theorem dX4_orderByBirths_93 : decode cX4_orderByBirths 93 = .ok (.invokevirtual 87, 3) := by decide +kernel
theorem dX4_orderByBirths_96 : decode cX4_orderByBirths 96 = .ok (.istore 4, 2) := by decide +kernel
theorem dX4_orderByBirths_98 : decode cX4_orderByBirths 98 = .ok (.iload 4, 2) := by decide +kernel
theorem dX4_orderByBirths_100 : decode cX4_orderByBirths 100 = .ok (.iconst (-1), 1) := by decide +kernel
theorem dX4_orderByBirths_101 : decode cX4_orderByBirths 101 = .ok (.if_icmp .eq 41, 3) := by decide +kernel
theorem dX4_orderByBirths_104 : decode cX4_orderByBirths 104 = .ok (.aload_n 0, 1) := by decide +kernel
theorem dX4_orderByBirths_105 : decode cX4_orderByBirths 105 = .ok (.getfield 31, 3) := by decide +kernel
theorem dX4_orderByBirths_108 : decode cX4_orderByBirths 108 = .ok (.iload 4, 2) := by decide +kernel
theorem dX4_orderByBirths_110 : decode cX4_orderByBirths 110 = .ok (.iaload, 1) := by decide +kernel
theorem dX4_orderByBirths_111 : decode cX4_orderByBirths 111 = .ok (.iload_n 2, 1) := by decide +kernel
theorem dX4_orderByBirths_112 : decode cX4_orderByBirths 112 = .ok (.if_icmp .ne 30, 3) := by decide +kernel
theorem dX4_orderByBirths_115 : decode cX4_orderByBirths 115 = .ok (.aload_n 0, 1) := by decide +kernel
theorem dX4_orderByBirths_116 : decode cX4_orderByBirths 116 = .ok (.getfield 15, 3) := by decide +kernel
theorem dX4_orderByBirths_119 : decode cX4_orderByBirths 119 = .ok (.bipush 64, 2) := by decide +kernel
theorem dX4_orderByBirths_121 : decode cX4_orderByBirths 121 = .ok (.if_icmp .ge 21, 3) := by decide +kernel
theorem dX4_orderByBirths_124 : decode cX4_orderByBirths 124 = .ok (.aload_n 0, 1) := by decide +kernel
theorem dX4_orderByBirths_125 : decode cX4_orderByBirths 125 = .ok (.getfield 9, 3) := by decide +kernel
theorem dX4_orderByBirths_128 : decode cX4_orderByBirths 128 = .ok (.aload_n 0, 1) := by decide +kernel
theorem dX4_orderByBirths_129 : decode cX4_orderByBirths 129 = .ok (.dup, 1) := by decide +kernel
theorem dX4_orderByBirths_130 : decode cX4_orderByBirths 130 = .ok (.getfield 15, 3) := by decide +kernel
theorem dX4_orderByBirths_133 : decode cX4_orderByBirths 133 = .ok (.dup_x1, 1) := by decide +kernel
theorem dX4_orderByBirths_134 : decode cX4_orderByBirths 134 = .ok (.iconst 1, 1) := by decide +kernel
theorem dX4_orderByBirths_135 : decode cX4_orderByBirths 135 = .ok (.iadd, 1) := by decide +kernel
theorem dX4_orderByBirths_136 : decode cX4_orderByBirths 136 = .ok (.putfield 15, 3) := by decide +kernel
theorem dX4_orderByBirths_139 : decode cX4_orderByBirths 139 = .ok (.iload 4, 2) := by decide +kernel
theorem dX4_orderByBirths_141 : decode cX4_orderByBirths 141 = .ok (.iastore, 1) := by decide +kernel
theorem dX4_orderByBirths_142 : decode cX4_orderByBirths 142 = .ok (.iinc 3 1, 3) := by decide +kernel
theorem dX4_orderByBirths_145 : decode cX4_orderByBirths 145 = .ok (.goto (-68), 3) := by decide +kernel
theorem dX4_orderByBirths_148 : decode cX4_orderByBirths 148 = .ok (.iinc 2 1, 3) := by decide +kernel
theorem dX4_orderByBirths_151 : decode cX4_orderByBirths 151 = .ok (.goto (-82), 3) := by decide +kernel
theorem dX4_orderByBirths_154 : decode cX4_orderByBirths 154 = .ok (.return_, 1) := by decide +kernel
theorem dX4_countBirthsOfKids_0 : decode cX4_countBirthsOfKids 0 = .ok (.iconst 0, 1) := by decide +kernel
theorem dX4_countBirthsOfKids_1 : decode cX4_countBirthsOfKids 1 = .ok (.istore_n 2, 1) := by decide +kernel
theorem dX4_countBirthsOfKids_2 : decode cX4_countBirthsOfKids 2 = .ok (.iload_n 2, 1) := by decide +kernel
theorem dX4_countBirthsOfKids_3 : decode cX4_countBirthsOfKids 3 = .ok (.aload_n 0, 1) := by decide +kernel
theorem dX4_countBirthsOfKids_4 : decode cX4_countBirthsOfKids 4 = .ok (.getfield 54, 3) := by decide +kernel
theorem dX4_countBirthsOfKids_7 : decode cX4_countBirthsOfKids 7 = .ok (.iload_n 1, 1) := by decide +kernel
theorem dX4_countBirthsOfKids_8 : decode cX4_countBirthsOfKids 8 = .ok (.invokevirtual 91, 3) := by decide +kernel
theorem dX4_countBirthsOfKids_11 : decode cX4_countBirthsOfKids 11 = .ok (.if_icmp .ge 68, 3) := by decide +kernel
theorem dX4_countBirthsOfKids_14 : decode cX4_countBirthsOfKids 14 = .ok (.aload_n 0, 1) := by decide +kernel
theorem dX4_countBirthsOfKids_15 : decode cX4_countBirthsOfKids 15 = .ok (.getfield 54, 3) := by decide +kernel
theorem dX4_countBirthsOfKids_18 : decode cX4_countBirthsOfKids 18 = .ok (.iload_n 1, 1) := by decide +kernel
theorem dX4_countBirthsOfKids_19 : decode cX4_countBirthsOfKids 19 = .ok (.iload_n 2, 1) := by decide +kernel
theorem dX4_countBirthsOfKids_20 : decode cX4_countBirthsOfKids 20 = .ok (.invokevirtual 94, 3) := by decide +kernel
theorem dX4_countBirthsOfKids_23 : decode cX4_countBirthsOfKids 23 = .ok (.istore_n 3, 1) := by decide +kernel
theorem dX4_countBirthsOfKids_24 : decode cX4_countBirthsOfKids 24 = .ok (.iload_n 3, 1) := by decide +kernel
theorem dX4_countBirthsOfKids_25 : decode cX4_countBirthsOfKids 25 = .ok (.iconst (-1), 1) := by decide +kernel
theorem dX4_countBirthsOfKids_26 : decode cX4_countBirthsOfKids 26 = .ok (.if_icmp .ne 6, 3) := by decide +kernel
theorem dX4_countBirthsOfKids_29 : decode cX4_countBirthsOfKids 29 = .ok (.goto 44, 3) := by decide +kernel
theorem dX4_countBirthsOfKids_32 : decode cX4_countBirthsOfKids 32 = .ok (.aload_n 0, 1) := by decide +kernel
theorem dX4_countBirthsOfKids_33 : decode cX4_countBirthsOfKids 33 = .ok (.getfield 31, 3) := by decide +kernel
theorem dX4_countBirthsOfKids_36 : decode cX4_countBirthsOfKids 36 = .ok (.iload_n 3, 1) := by decide +kernel
theorem dX4_countBirthsOfKids_37 : decode cX4_countBirthsOfKids 37 = .ok (.iaload, 1) := by decide +kernel
theorem dX4_countBirthsOfKids_38 : decode cX4_countBirthsOfKids 38 = .ok (.iconst (-1), 1) := by decide +kernel
theorem dX4_countBirthsOfKids_39 : decode cX4_countBirthsOfKids 39 = .ok (.if_icmp .eq 20, 3) := by decide +kernel
theorem dX4_countBirthsOfKids_42 : decode cX4_countBirthsOfKids 42 = .ok (.aload_n 0, 1) := by decide +kernel
theorem dX4_countBirthsOfKids_43 : decode cX4_countBirthsOfKids 43 = .ok (.getfield 31, 3) := by decide +kernel
theorem dX4_countBirthsOfKids_46 : decode cX4_countBirthsOfKids 46 = .ok (.iload_n 3, 1) := by decide +kernel
theorem dX4_countBirthsOfKids_47 : decode cX4_countBirthsOfKids 47 = .ok (.iaload, 1) := by decide +kernel
theorem dX4_countBirthsOfKids_48 : decode cX4_countBirthsOfKids 48 = .ok (.aload_n 0, 1) := by decide +kernel
theorem dX4_countBirthsOfKids_49 : decode cX4_countBirthsOfKids 49 = .ok (.getfield 31, 3) := by decide +kernel
theorem dX4_countBirthsOfKids_52 : decode cX4_countBirthsOfKids 52 = .ok (.iload_n 1, 1) := by decide +kernel
theorem dX4_countBirthsOfKids_53 : decode cX4_countBirthsOfKids 53 = .ok (.iaload, 1) := by decide +kernel
theorem dX4_countBirthsOfKids_54 : decode cX4_countBirthsOfKids 54 = .ok (.iconst 1, 1) := by decide +kernel
theorem dX4_countBirthsOfKids_55 : decode cX4_countBirthsOfKids 55 = .ok (.iadd, 1) := by decide +kernel
theorem dX4_countBirthsOfKids_56 : decode cX4_countBirthsOfKids 56 = .ok (.if_icmp .le 17, 3) := by decide +kernel
theorem dX4_countBirthsOfKids_59 : decode cX4_countBirthsOfKids 59 = .ok (.aload_n 0, 1) := by decide +kernel
theorem dX4_countBirthsOfKids_60 : decode cX4_countBirthsOfKids 60 = .ok (.getfield 31, 3) := by decide +kernel
theorem dX4_countBirthsOfKids_63 : decode cX4_countBirthsOfKids 63 = .ok (.iload_n 3, 1) := by decide +kernel
theorem dX4_countBirthsOfKids_64 : decode cX4_countBirthsOfKids 64 = .ok (.aload_n 0, 1) := by decide +kernel
theorem dX4_countBirthsOfKids_65 : decode cX4_countBirthsOfKids 65 = .ok (.getfield 31, 3) := by decide +kernel
theorem dX4_countBirthsOfKids_68 : decode cX4_countBirthsOfKids 68 = .ok (.iload_n 1, 1) := by decide +kernel
theorem dX4_countBirthsOfKids_69 : decode cX4_countBirthsOfKids 69 = .ok (.iaload, 1) := by decide +kernel
theorem dX4_countBirthsOfKids_70 : decode cX4_countBirthsOfKids 70 = .ok (.iconst 1, 1) := by decide +kernel
theorem dX4_countBirthsOfKids_71 : decode cX4_countBirthsOfKids 71 = .ok (.iadd, 1) := by decide +kernel
theorem dX4_countBirthsOfKids_72 : decode cX4_countBirthsOfKids 72 = .ok (.iastore, 1) := by decide +kernel
theorem dX4_countBirthsOfKids_73 : decode cX4_countBirthsOfKids 73 = .ok (.iinc 2 1, 3) := by decide +kernel
theorem dX4_countBirthsOfKids_76 : decode cX4_countBirthsOfKids 76 = .ok (.goto (-74), 3) := by decide +kernel
theorem dX4_countBirthsOfKids_79 : decode cX4_countBirthsOfKids 79 = .ok (.return_, 1) := by decide +kernel
theorem dX4_orderByBranches_0 : decode cX4_orderByBranches 0 = .ok (.iload_n 2, 1) := by decide +kernel
theorem dX4_orderByBranches_1 : decode cX4_orderByBranches 1 = .ok (.invokestatic 76, 3) := by decide +kernel
theorem dX4_orderByBranches_4 : decode cX4_orderByBranches 4 = .ok (.ifCond .ne 4, 3) := by decide +kernel
theorem dX4_orderByBranches_7 : decode cX4_orderByBranches 7 = .ok (.return_, 1) := by decide +kernel
theorem dX4_orderByBranches_8 : decode cX4_orderByBranches 8 = .ok (.lconst 0, 1) := by decide +kernel
theorem dX4_orderByBranches_9 : decode cX4_orderByBranches 9 = .ok (.lstore_n 3, 1) := by decide +kernel
theorem dX4_orderByBranches_10 : decode cX4_orderByBranches 10 = .ok (.aload_n 0, 1) := by decide +kernel
theorem dX4_orderByBranches_11 : decode cX4_orderByBranches 11 = .ok (.getfield 25, 3) := by decide +kernel
theorem dX4_orderByBranches_14 : decode cX4_orderByBranches 14 = .ok (.iconst 0, 1) := by decide +kernel
theorem dX4_orderByBranches_15 : decode cX4_orderByBranches 15 = .ok (.iload_n 2, 1) := by decide +kernel
theorem dX4_orderByBranches_16 : decode cX4_orderByBranches 16 = .ok (.iastore, 1) := by decide +kernel
theorem dX4_orderByBranches_17 : decode cX4_orderByBranches 17 = .ok (.aload_n 0, 1) := by decide +kernel
theorem dX4_orderByBranches_18 : decode cX4_orderByBranches 18 = .ok (.iconst 1, 1) := by decide +kernel
theorem dX4_orderByBranches_19 : decode cX4_orderByBranches 19 = .ok (.putfield 28, 3) := by decide +kernel
theorem dX4_orderByBranches_22 : decode cX4_orderByBranches 22 = .ok (.iconst 0, 1) := by decide +kernel
theorem dX4_orderByBranches_23 : decode cX4_orderByBranches 23 = .ok (.istore 5, 2) := by decide +kernel
theorem dX4_orderByBranches_25 : decode cX4_orderByBranches 25 = .ok (.iload 5, 2) := by decide +kernel
theorem dX4_orderByBranches_27 : decode cX4_orderByBranches 27 = .ok (.aload_n 0, 1) := by decide +kernel
theorem dX4_orderByBranches_28 : decode cX4_orderByBranches 28 = .ok (.getfield 25, 3) := by decide +kernel
theorem dX4_orderByBranches_31 : decode cX4_orderByBranches 31 = .ok (.arraylength, 1) := by decide +kernel
theorem dX4_orderByBranches_32 : decode cX4_orderByBranches 32 = .ok (.if_icmp .ge 151, 3) := by decide +kernel
theorem dX4_orderByBranches_35 : decode cX4_orderByBranches 35 = .ok (.aload_n 0, 1) := by decide +kernel
theorem dX4_orderByBranches_36 : decode cX4_orderByBranches 36 = .ok (.getfield 28, 3) := by decide +kernel
theorem dX4_orderByBranches_39 : decode cX4_orderByBranches 39 = .ok (.ifCond .le 144, 3) := by decide +kernel
theorem dX4_orderByBranches_42 : decode cX4_orderByBranches 42 = .ok (.aload_n 0, 1) := by decide +kernel
theorem dX4_orderByBranches_43 : decode cX4_orderByBranches 43 = .ok (.dup, 1) := by decide +kernel
theorem dX4_orderByBranches_44 : decode cX4_orderByBranches 44 = .ok (.getfield 28, 3) := by decide +kernel
theorem dX4_orderByBranches_47 : decode cX4_orderByBranches 47 = .ok (.iconst 1, 1) := by decide +kernel
theorem dX4_orderByBranches_48 : decode cX4_orderByBranches 48 = .ok (.isub, 1) := by decide +kernel
theorem dX4_orderByBranches_49 : decode cX4_orderByBranches 49 = .ok (.putfield 28, 3) := by decide +kernel
theorem dX4_orderByBranches_52 : decode cX4_orderByBranches 52 = .ok (.aload_n 0, 1) := by decide +kernel
theorem dX4_orderByBranches_53 : decode cX4_orderByBranches 53 = .ok (.getfield 25, 3) := by decide +kernel
theorem dX4_orderByBranches_56 : decode cX4_orderByBranches 56 = .ok (.aload_n 0, 1) := by decide +kernel
theorem dX4_orderByBranches_57 : decode cX4_orderByBranches 57 = .ok (.getfield 28, 3) := by decide +kernel
theorem dX4_orderByBranches_60 : decode cX4_orderByBranches 60 = .ok (.iaload, 1) := by decide +kernel
theorem dX4_orderByBranches_61 : decode cX4_orderByBranches 61 = .ok (.istore 6, 2) := by decide +kernel
theorem dX4_orderByBranches_63 : decode cX4_orderByBranches 63 = .ok (.lload_n 3, 1) := by decide +kernel
theorem dX4_orderByBranches_64 : decode cX4_orderByBranches 64 = .ok (.lconst 1, 1) := by decide +kernel
theorem dX4_orderByBranches_65 : decode cX4_orderByBranches 65 = .ok (.iload 6, 2) := by decide +kernel
theorem dX4_orderByBranches_67 : decode cX4_orderByBranches 67 = .ok (.lshl, 1) := by decide +kernel
theorem dX4_orderByBranches_68 : decode cX4_orderByBranches 68 = .ok (.land, 1) := by decide +kernel
theorem dX4_orderByBranches_69 : decode cX4_orderByBranches 69 = .ok (.lconst 0, 1) := by decide +kernel
theorem dX4_orderByBranches_70 : decode cX4_orderByBranches 70 = .ok (.lcmp, 1) := by decide +kernel
theorem dX4_orderByBranches_71 : decode cX4_orderByBranches 71 = .ok (.ifCond .ne 106, 3) := by decide +kernel
theorem dX4_orderByBranches_74 : decode cX4_orderByBranches 74 = .ok (.aload_n 0, 1) := by decide +kernel
theorem dX4_orderByBranches_75 : decode cX4_orderByBranches 75 = .ok (.getfield 15, 3) := by decide +kernel
theorem dX4_orderByBranches_78 : decode cX4_orderByBranches 78 = .ok (.bipush 64, 2) := by decide +kernel
theorem dX4_orderByBranches_80 : decode cX4_orderByBranches 80 = .ok (.if_icmp .lt 6, 3) := by decide +kernel
theorem dX4_orderByBranches_83 : decode cX4_orderByBranches 83 = .ok (.goto 94, 3) := by decide +kernel
theorem dX4_orderByBranches_86 : decode cX4_orderByBranches 86 = .ok (.lload_n 3, 1) := by decide +kernel
theorem dX4_orderByBranches_87 : decode cX4_orderByBranches 87 = .ok (.lconst 1, 1) := by decide +kernel
theorem dX4_orderByBranches_88 : decode cX4_orderByBranches 88 = .ok (.iload 6, 2) := by decide +kernel
theorem dX4_orderByBranches_90 : decode cX4_orderByBranches 90 = .ok (.lshl, 1) := by decide +kernel
theorem dX4_orderByBranches_91 : decode cX4_orderByBranches 91 = .ok (.lor, 1) := by decide +kernel
theorem dX4_orderByBranches_92 : decode cX4_orderByBranches 92 = .ok (.lstore_n 3, 1) := by decide +kernel
theorem dX4_orderByBranches_93 : decode cX4_orderByBranches 93 = .ok (.aload_n 0, 1) := by decide +kernel
theorem dX4_orderByBranches_94 : decode cX4_orderByBranches 94 = .ok (.getfield 9, 3) := by decide +kernel
theorem dX4_orderByBranches_97 : decode cX4_orderByBranches 97 = .ok (.aload_n 0, 1) := by decide +kernel
theorem dX4_orderByBranches_98 : decode cX4_orderByBranches 98 = .ok (.dup, 1) := by decide +kernel
theorem dX4_orderByBranches_99 : decode cX4_orderByBranches 99 = .ok (.getfield 15, 3) := by decide +kernel
theorem dX4_orderByBranches_102 : decode cX4_orderByBranches 102 = .ok (.dup_x1, 1) := by decide +kernel
theorem dX4_orderByBranches_103 : decode cX4_orderByBranches 103 = .ok (.iconst 1, 1) := by decide +kernel
theorem dX4_orderByBranches_104 : decode cX4_orderByBranches 104 = .ok (.iadd, 1) := by decide +kernel
theorem dX4_orderByBranches_105 : decode cX4_orderByBranches 105 = .ok (.putfield 15, 3) := by decide +kernel
theorem dX4_orderByBranches_108 : decode cX4_orderByBranches 108 = .ok (.iload 6, 2) := by decide +kernel
theorem dX4_orderByBranches_110 : decode cX4_orderByBranches 110 = .ok (.iastore, 1) := by decide +kernel
theorem dX4_orderByBranches_111 : decode cX4_orderByBranches 111 = .ok (.iload_n 1, 1) := by decide +kernel
theorem dX4_orderByBranches_112 : decode cX4_orderByBranches 112 = .ok (.iconst 3, 1) := by decide +kernel
theorem dX4_orderByBranches_113 : decode cX4_orderByBranches 113 = .ok (.if_icmp .eq 8, 3) := by decide +kernel
theorem dX4_orderByBranches_116 : decode cX4_orderByBranches 116 = .ok (.iload_n 1, 1) := by decide +kernel
theorem dX4_orderByBranches_117 : decode cX4_orderByBranches 117 = .ok (.iconst 2, 1) := by decide +kernel
theorem dX4_orderByBranches_118 : decode cX4_orderByBranches 118 = .ok (.if_icmp .ne 23, 3) := by decide +kernel
theorem dX4_orderByBranches_121 : decode cX4_orderByBranches 121 = .ok (.aload_n 0, 1) := by decide +kernel
theorem dX4_orderByBranches_122 : decode cX4_orderByBranches 122 = .ok (.iload 6, 2) := by decide +kernel
theorem dX4_orderByBranches_124 : decode cX4_orderByBranches 124 = .ok (.iconst 2, 1) := by decide +kernel
theorem dX4_orderByBranches_125 : decode cX4_orderByBranches 125 = .ok (.iload_n 1, 1) := by decide +kernel
theorem dX4_orderByBranches_126 : decode cX4_orderByBranches 126 = .ok (.iconst 3, 1) := by decide +kernel
theorem dX4_orderByBranches_127 : decode cX4_orderByBranches 127 = .ok (.if_icmp .ne 7, 3) := by decide +kernel
theorem dX4_orderByBranches_130 : decode cX4_orderByBranches 130 = .ok (.iconst 1, 1) := by decide +kernel
theorem dX4_orderByBranches_131 : decode cX4_orderByBranches 131 = .ok (.goto 4, 3) := by decide +kernel
theorem dX4_orderByBranches_134 : decode cX4_orderByBranches 134 = .ok (.iconst 0, 1) := by decide +kernel
theorem dX4_orderByBranches_135 : decode cX4_orderByBranches 135 = .ok (.invokevirtual 98, 3) := by decide +kernel
theorem dX4_orderByBranches_138 : decode cX4_orderByBranches 138 = .ok (.goto 39, 3) := by decide +kernel
theorem dX4_orderByBranches_141 : decode cX4_orderByBranches 141 = .ok (.iload_n 1, 1) := by decide +kernel
theorem dX4_orderByBranches_142 : decode cX4_orderByBranches 142 = .ok (.ifCond .eq 11, 3) := by decide +kernel
theorem dX4_orderByBranches_145 : decode cX4_orderByBranches 145 = .ok (.aload_n 0, 1) := by decide +kernel
theorem dX4_orderByBranches_146 : decode cX4_orderByBranches 146 = .ok (.iload 6, 2) := by decide +kernel
theorem dX4_orderByBranches_148 : decode cX4_orderByBranches 148 = .ok (.iconst 0, 1) := by decide +kernel
theorem dX4_orderByBranches_149 : decode cX4_orderByBranches 149 = .ok (.iconst 0, 1) := by decide +kernel
theorem dX4_orderByBranches_150 : decode cX4_orderByBranches 150 = .ok (.invokevirtual 98, 3) := by decide +kernel
theorem dX4_orderByBranches_153 : decode cX4_orderByBranches 153 = .ok (.iload_n 1, 1) := by decide +kernel
theorem dX4_orderByBranches_154 : decode cX4_orderByBranches 154 = .ok (.ifCond .ne 15, 3) := by decide +kernel
theorem dX4_orderByBranches_157 : decode cX4_orderByBranches 157 = .ok (.aload_n 0, 1) := by decide +kernel
theorem dX4_orderByBranches_158 : decode cX4_orderByBranches 158 = .ok (.getfield 50, 3) := by decide +kernel
theorem dX4_orderByBranches_161 : decode cX4_orderByBranches 161 = .ok (.iload 6, 2) := by decide +kernel
theorem dX4_orderByBranches_163 : decode cX4_orderByBranches 163 = .ok (.invokevirtual 72, 3) := by decide +kernel
theorem dX4_orderByBranches_166 : decode cX4_orderByBranches 166 = .ok (.ifCond .eq 11, 3) := by decide +kernel
theorem dX4_orderByBranches_169 : decode cX4_orderByBranches 169 = .ok (.aload_n 0, 1) := by decide +kernel
theorem dX4_orderByBranches_170 : decode cX4_orderByBranches 170 = .ok (.iload 6, 2) := by decide +kernel
theorem dX4_orderByBranches_172 : decode cX4_orderByBranches 172 = .ok (.iconst 1, 1) := by decide +kernel
theorem dX4_orderByBranches_173 : decode cX4_orderByBranches 173 = .ok (.iconst 0, 1) := by decide +kernel
theorem dX4_orderByBranches_174 : decode cX4_orderByBranches 174 = .ok (.invokevirtual 98, 3) := by decide +kernel
theorem dX4_orderByBranches_177 : decode cX4_orderByBranches 177 = .ok (.iinc 5 1, 3) := by decide +kernel
theorem dX4_orderByBranches_180 : decode cX4_orderByBranches 180 = .ok (.goto (-155), 3) := by decide +kernel
theorem dX4_orderByBranches_183 : decode cX4_orderByBranches 183 = .ok (.return_, 1) := by decide +kernel
theorem dX4_pushKids_0 : decode cX4_pushKids 0 = .ok (.aload_n 0, 1) := by decide +kernel
theorem dX4_pushKids_1 : decode cX4_pushKids 1 = .ok (.getfield 54, 3) := by decide +kernel
theorem dX4_pushKids_4 : decode cX4_pushKids 4 = .ok (.iload_n 1, 1) := by decide +kernel
theorem dX4_pushKids_5 : decode cX4_pushKids 5 = .ok (.invokevirtual 91, 3) := by decide +kernel
theorem dX4_pushKids_8 : decode cX4_pushKids 8 = .ok (.istore 4, 2) := by decide +kernel
theorem dX4_pushKids_10 : decode cX4_pushKids 10 = .ok (.iconst 0, 1) := by decide +kernel
theorem dX4_pushKids_11 : decode cX4_pushKids 11 = .ok (.istore 5, 2) := by decide +kernel
theorem dX4_pushKids_13 : decode cX4_pushKids 13 = .ok (.iload 5, 2) := by decide +kernel
theorem dX4_pushKids_15 : decode cX4_pushKids 15 = .ok (.iload 4, 2) := by decide +kernel
theorem dX4_pushKids_17 : decode cX4_pushKids 17 = .ok (.if_icmp .ge 101, 3) := by decide +kernel
theorem dX4_pushKids_20 : decode cX4_pushKids 20 = .ok (.aload_n 0, 1) := by decide +kernel
theorem dX4_pushKids_21 : decode cX4_pushKids 21 = .ok (.getfield 54, 3) := by decide +kernel
theorem dX4_pushKids_24 : decode cX4_pushKids 24 = .ok (.iload_n 1, 1) := by decide +kernel
theorem dX4_pushKids_25 : decode cX4_pushKids 25 = .ok (.iload_n 3, 1) := by decide +kernel
theorem dX4_pushKids_26 : decode cX4_pushKids 26 = .ok (.ifCond .eq 8, 3) := by decide +kernel
theorem dX4_pushKids_29 : decode cX4_pushKids 29 = .ok (.iload 5, 2) := by decide +kernel
theorem dX4_pushKids_31 : decode cX4_pushKids 31 = .ok (.goto 10, 3) := by decide +kernel
theorem dX4_pushKids_34 : decode cX4_pushKids 34 = .ok (.iload 4, 2) := by decide +kernel
theorem dX4_pushKids_36 : decode cX4_pushKids 36 = .ok (.iconst 1, 1) := by decide +kernel
theorem dX4_pushKids_37 : decode cX4_pushKids 37 = .ok (.isub, 1) := by decide +kernel
theorem dX4_pushKids_38 : decode cX4_pushKids 38 = .ok (.iload 5, 2) := by decide +kernel
theorem dX4_pushKids_40 : decode cX4_pushKids 40 = .ok (.isub, 1) := by decide +kernel
theorem dX4_pushKids_41 : decode cX4_pushKids 41 = .ok (.invokevirtual 94, 3) := by decide +kernel
theorem dX4_pushKids_44 : decode cX4_pushKids 44 = .ok (.istore 6, 2) := by decide +kernel
theorem dX4_pushKids_46 : decode cX4_pushKids 46 = .ok (.iload_n 2, 1) := by decide +kernel
theorem dX4_pushKids_47 : decode cX4_pushKids 47 = .ok (.iconst 2, 1) := by decide +kernel
theorem dX4_pushKids_48 : decode cX4_pushKids 48 = .ok (.if_icmp .eq 28, 3) := by decide +kernel
theorem dX4_pushKids_51 : decode cX4_pushKids 51 = .ok (.aload_n 0, 1) := by decide +kernel
theorem dX4_pushKids_52 : decode cX4_pushKids 52 = .ok (.getfield 50, 3) := by decide +kernel
theorem dX4_pushKids_55 : decode cX4_pushKids 55 = .ok (.iload 6, 2) := by decide +kernel
theorem dX4_pushKids_57 : decode cX4_pushKids 57 = .ok (.invokevirtual 72, 3) := by decide +kernel
theorem dX4_pushKids_60 : decode cX4_pushKids 60 = .ok (.iload_n 2, 1) := by decide +kernel
theorem dX4_pushKids_61 : decode cX4_pushKids 61 = .ok (.iconst 1, 1) := by decide +kernel
theorem dX4_pushKids_62 : decode cX4_pushKids 62 = .ok (.if_icmp .ne 7, 3) := by decide +kernel
theorem dX4_pushKids_65 : decode cX4_pushKids 65 = .ok (.iconst 1, 1) := by decide +kernel
theorem dX4_pushKids_66 : decode cX4_pushKids 66 = .ok (.goto 4, 3) := by decide +kernel
theorem dX4_pushKids_69 : decode cX4_pushKids 69 = .ok (.iconst 0, 1) := by decide +kernel
theorem dX4_pushKids_70 : decode cX4_pushKids 70 = .ok (.if_icmp .eq 6, 3) := by decide +kernel
theorem dX4_pushKids_73 : decode cX4_pushKids 73 = .ok (.goto 39, 3) := by decide +kernel
theorem dX4_pushKids_76 : decode cX4_pushKids 76 = .ok (.iload 6, 2) := by decide +kernel
theorem dX4_pushKids_78 : decode cX4_pushKids 78 = .ok (.iconst (-1), 1) := by decide +kernel
theorem dX4_pushKids_79 : decode cX4_pushKids 79 = .ok (.if_icmp .eq 33, 3) := by decide +kernel
theorem dX4_pushKids_82 : decode cX4_pushKids 82 = .ok (.aload_n 0, 1) := by decide +kernel
theorem dX4_pushKids_83 : decode cX4_pushKids 83 = .ok (.getfield 28, 3) := by decide +kernel
theorem dX4_pushKids_86 : decode cX4_pushKids 86 = .ok (.aload_n 0, 1) := by decide +kernel
theorem dX4_pushKids_87 : decode cX4_pushKids 87 = .ok (.getfield 25, 3) := by decide +kernel
theorem dX4_pushKids_90 : decode cX4_pushKids 90 = .ok (.arraylength, 1) := by decide +kernel
theorem dX4_pushKids_91 : decode cX4_pushKids 91 = .ok (.if_icmp .ge 21, 3) := by decide +kernel
theorem dX4_pushKids_94 : decode cX4_pushKids 94 = .ok (.aload_n 0, 1) := by decide +kernel
theorem dX4_pushKids_95 : decode cX4_pushKids 95 = .ok (.getfield 25, 3) := by decide +kernel
theorem dX4_pushKids_98 : decode cX4_pushKids 98 = .ok (.aload_n 0, 1) := by decide +kernel
theorem dX4_pushKids_99 : decode cX4_pushKids 99 = .ok (.dup, 1) := by decide +kernel
theorem dX4_pushKids_100 : decode cX4_pushKids 100 = .ok (.getfield 28, 3) := by decide +kernel
theorem dX4_pushKids_103 : decode cX4_pushKids 103 = .ok (.dup_x1, 1) := by decide +kernel
theorem dX4_pushKids_104 : decode cX4_pushKids 104 = .ok (.iconst 1, 1) := by decide +kernel
theorem dX4_pushKids_105 : decode cX4_pushKids 105 = .ok (.iadd, 1) := by decide +kernel
theorem dX4_pushKids_106 : decode cX4_pushKids 106 = .ok (.putfield 28, 3) := by decide +kernel
theorem dX4_pushKids_109 : decode cX4_pushKids 109 = .ok (.iload 6, 2) := by decide +kernel
theorem dX4_pushKids_111 : decode cX4_pushKids 111 = .ok (.iastore, 1) := by decide +kernel
theorem dX4_pushKids_112 : decode cX4_pushKids 112 = .ok (.iinc 5 1, 3) := by decide +kernel
theorem dX4_pushKids_115 : decode cX4_pushKids 115 = .ok (.goto (-102), 3) := by decide +kernel
theorem dX4_pushKids_118 : decode cX4_pushKids 118 = .ok (.return_, 1) := by decide +kernel
theorem dX4_size_0 : decode cX4_size 0 = .ok (.aload_n 0, 1) := by decide +kernel
theorem dX4_size_1 : decode cX4_size 1 = .ok (.getfield 37, 3) := by decide +kernel
theorem dX4_size_4 : decode cX4_size 4 = .ok (.ireturn, 1) := by decide +kernel
theorem dX4_at_0 : decode cX4_at 0 = .ok (.iload_n 1, 1) := by decide +kernel
theorem dX4_at_1 : decode cX4_at 1 = .ok (.ifCond .lt 20, 3) := by decide +kernel
theorem dX4_at_4 : decode cX4_at 4 = .ok (.iload_n 1, 1) := by decide +kernel
theorem dX4_at_5 : decode cX4_at 5 = .ok (.aload_n 0, 1) := by decide +kernel
theorem dX4_at_6 : decode cX4_at 6 = .ok (.getfield 37, 3) := by decide +kernel
theorem dX4_at_9 : decode cX4_at 9 = .ok (.if_icmp .ge 12, 3) := by decide +kernel
theorem dX4_at_12 : decode cX4_at 12 = .ok (.aload_n 0, 1) := by decide +kernel
theorem dX4_at_13 : decode cX4_at 13 = .ok (.getfield 34, 3) := by decide +kernel
theorem dX4_at_16 : decode cX4_at 16 = .ok (.iload_n 1, 1) := by decide +kernel
theorem dX4_at_17 : decode cX4_at 17 = .ok (.iaload, 1) := by decide +kernel
theorem dX4_at_18 : decode cX4_at 18 = .ok (.goto 4, 3) := by decide +kernel
theorem dX4_at_21 : decode cX4_at 21 = .ok (.iconst (-1), 1) := by decide +kernel
theorem dX4_at_22 : decode cX4_at 22 = .ok (.ireturn, 1) := by decide +kernel
theorem dX4_placeOf_0 : decode cX4_placeOf 0 = .ok (.iconst 0, 1) := by decide +kernel
theorem dX4_placeOf_1 : decode cX4_placeOf 1 = .ok (.istore_n 2, 1) := by decide +kernel
theorem dX4_placeOf_2 : decode cX4_placeOf 2 = .ok (.iload_n 2, 1) := by decide +kernel
theorem dX4_placeOf_3 : decode cX4_placeOf 3 = .ok (.aload_n 0, 1) := by decide +kernel
theorem dX4_placeOf_4 : decode cX4_placeOf 4 = .ok (.getfield 37, 3) := by decide +kernel
theorem dX4_placeOf_7 : decode cX4_placeOf 7 = .ok (.if_icmp .ge 21, 3) := by decide +kernel
theorem dX4_placeOf_10 : decode cX4_placeOf 10 = .ok (.aload_n 0, 1) := by decide +kernel
theorem dX4_placeOf_11 : decode cX4_placeOf 11 = .ok (.getfield 34, 3) := by decide +kernel
theorem dX4_placeOf_14 : decode cX4_placeOf 14 = .ok (.iload_n 2, 1) := by decide +kernel
theorem dX4_placeOf_15 : decode cX4_placeOf 15 = .ok (.iaload, 1) := by decide +kernel
theorem dX4_placeOf_16 : decode cX4_placeOf 16 = .ok (.iload_n 1, 1) := by decide +kernel
theorem dX4_placeOf_17 : decode cX4_placeOf 17 = .ok (.if_icmp .ne 5, 3) := by decide +kernel
theorem dX4_placeOf_20 : decode cX4_placeOf 20 = .ok (.iload_n 2, 1) := by decide +kernel
theorem dX4_placeOf_21 : decode cX4_placeOf 21 = .ok (.ireturn, 1) := by decide +kernel
theorem dX4_placeOf_22 : decode cX4_placeOf 22 = .ok (.iinc 2 1, 3) := by decide +kernel
theorem dX4_placeOf_25 : decode cX4_placeOf 25 = .ok (.goto (-23), 3) := by decide +kernel
theorem dX4_placeOf_28 : decode cX4_placeOf 28 = .ok (.iconst (-1), 1) := by decide +kernel
theorem dX4_placeOf_29 : decode cX4_placeOf 29 = .ok (.ireturn, 1) := by decide +kernel
theorem dX4_has_0 : decode cX4_has 0 = .ok (.iload_n 1, 1) := by decide +kernel
theorem dX4_has_1 : decode cX4_has 1 = .ok (.invokestatic 76, 3) := by decide +kernel
theorem dX4_has_4 : decode cX4_has 4 = .ok (.ifCond .eq 20, 3) := by decide +kernel
theorem dX4_has_7 : decode cX4_has 7 = .ok (.aload_n 0, 1) := by decide +kernel
theorem dX4_has_8 : decode cX4_has 8 = .ok (.getfield 40, 3) := by decide +kernel
theorem dX4_has_11 : decode cX4_has 11 = .ok (.lconst 1, 1) := by decide +kernel
theorem dX4_has_12 : decode cX4_has 12 = .ok (.iload_n 1, 1) := by decide +kernel
theorem dX4_has_13 : decode cX4_has 13 = .ok (.lshl, 1) := by decide +kernel
theorem dX4_has_14 : decode cX4_has 14 = .ok (.land, 1) := by decide +kernel
theorem dX4_has_15 : decode cX4_has 15 = .ok (.lconst 0, 1) := by decide +kernel
theorem dX4_has_16 : decode cX4_has 16 = .ok (.lcmp, 1) := by decide +kernel
theorem dX4_has_17 : decode cX4_has 17 = .ok (.ifCond .eq 7, 3) := by decide +kernel
theorem dX4_has_20 : decode cX4_has 20 = .ok (.iconst 1, 1) := by decide +kernel
theorem dX4_has_21 : decode cX4_has 21 = .ok (.goto 4, 3) := by decide +kernel
theorem dX4_has_24 : decode cX4_has 24 = .ok (.iconst 0, 1) := by decide +kernel
theorem dX4_has_25 : decode cX4_has 25 = .ok (.ireturn, 1) := by decide +kernel
theorem dX4_stateByWrit_0 : decode cX4_stateByWrit 0 = .ok (.aload_n 0, 1) := by decide +kernel
theorem dX4_stateByWrit_1 : decode cX4_stateByWrit 1 = .ok (.iconst 0, 1) := by decide +kernel
theorem dX4_stateByWrit_2 : decode cX4_stateByWrit 2 = .ok (.putfield 47, 3) := by decide +kernel
theorem dX4_stateByWrit_5 : decode cX4_stateByWrit 5 = .ok (.aload_n 0, 1) := by decide +kernel
theorem dX4_stateByWrit_6 : decode cX4_stateByWrit 6 = .ok (.getfield 37, 3) := by decide +kernel
theorem dX4_stateByWrit_9 : decode cX4_stateByWrit 9 = .ok (.ifCond .ne 5, 3) := by decide +kernel
theorem dX4_stateByWrit_12 : decode cX4_stateByWrit 12 = .ok (.iconst (-1), 1) := by decide +kernel
theorem dX4_stateByWrit_13 : decode cX4_stateByWrit 13 = .ok (.ireturn, 1) := by decide +kernel
theorem dX4_stateByWrit_14 : decode cX4_stateByWrit 14 = .ok (.iload_n 1, 1) := by decide +kernel
theorem dX4_stateByWrit_15 : decode cX4_stateByWrit 15 = .ok (.istore_n 2, 1) := by decide +kernel
theorem dX4_stateByWrit_16 : decode cX4_stateByWrit 16 = .ok (.iconst 0, 1) := by decide +kernel
theorem dX4_stateByWrit_17 : decode cX4_stateByWrit 17 = .ok (.istore_n 3, 1) := by decide +kernel
theorem dX4_stateByWrit_18 : decode cX4_stateByWrit 18 = .ok (.iload_n 3, 1) := by decide +kernel
theorem dX4_stateByWrit_19 : decode cX4_stateByWrit 19 = .ok (.bipush 64, 2) := by decide +kernel
theorem dX4_stateByWrit_21 : decode cX4_stateByWrit 21 = .ok (.if_icmp .ge 46, 3) := by decide +kernel
theorem dX4_stateByWrit_24 : decode cX4_stateByWrit 24 = .ok (.iload_n 2, 1) := by decide +kernel
theorem dX4_stateByWrit_25 : decode cX4_stateByWrit 25 = .ok (.iconst (-1), 1) := by decide +kernel
theorem dX4_stateByWrit_26 : decode cX4_stateByWrit 26 = .ok (.if_icmp .eq 41, 3) := by decide +kernel
theorem dX4_stateByWrit_29 : decode cX4_stateByWrit 29 = .ok (.aload_n 0, 1) := by decide +kernel
theorem dX4_stateByWrit_30 : decode cX4_stateByWrit 30 = .ok (.iload_n 2, 1) := by decide +kernel
theorem dX4_stateByWrit_31 : decode cX4_stateByWrit 31 = .ok (.invokevirtual 102, 3) := by decide +kernel
theorem dX4_stateByWrit_34 : decode cX4_stateByWrit 34 = .ok (.ifCond .ne 33, 3) := by decide +kernel
theorem dX4_stateByWrit_37 : decode cX4_stateByWrit 37 = .ok (.aload_n 0, 1) := by decide +kernel
theorem dX4_stateByWrit_38 : decode cX4_stateByWrit 38 = .ok (.iload_n 2, 1) := by decide +kernel
theorem dX4_stateByWrit_39 : decode cX4_stateByWrit 39 = .ok (.invokevirtual 105, 3) := by decide +kernel
theorem dX4_stateByWrit_42 : decode cX4_stateByWrit 42 = .ok (.istore 4, 2) := by decide +kernel
theorem dX4_stateByWrit_44 : decode cX4_stateByWrit 44 = .ok (.iload 4, 2) := by decide +kernel
theorem dX4_stateByWrit_46 : decode cX4_stateByWrit 46 = .ok (.iconst (-1), 1) := by decide +kernel
theorem dX4_stateByWrit_47 : decode cX4_stateByWrit 47 = .ok (.if_icmp .eq 8, 3) := by decide +kernel
theorem dX4_stateByWrit_50 : decode cX4_stateByWrit 50 = .ok (.iload 4, 2) := by decide +kernel
theorem dX4_stateByWrit_52 : decode cX4_stateByWrit 52 = .ok (.goto 8, 3) := by decide +kernel
theorem dX4_stateByWrit_55 : decode cX4_stateByWrit 55 = .ok (.aload_n 0, 1) := by decide +kernel
theorem dX4_stateByWrit_56 : decode cX4_stateByWrit 56 = .ok (.iload_n 2, 1) := by decide +kernel
theorem dX4_stateByWrit_57 : decode cX4_stateByWrit 57 = .ok (.invokevirtual 108, 3) := by decide +kernel
theorem dX4_stateByWrit_60 : decode cX4_stateByWrit 60 = .ok (.istore_n 2, 1) := by decide +kernel
theorem dX4_stateByWrit_61 : decode cX4_stateByWrit 61 = .ok (.iinc 3 1, 3) := by decide +kernel
theorem dX4_stateByWrit_64 : decode cX4_stateByWrit 64 = .ok (.goto (-46), 3) := by decide +kernel
theorem dX4_stateByWrit_67 : decode cX4_stateByWrit 67 = .ok (.aload_n 0, 1) := by decide +kernel
theorem dX4_stateByWrit_68 : decode cX4_stateByWrit 68 = .ok (.getfield 47, 3) := by decide +kernel
theorem dX4_stateByWrit_71 : decode cX4_stateByWrit 71 = .ok (.iconst 1, 1) := by decide +kernel
theorem dX4_stateByWrit_72 : decode cX4_stateByWrit 72 = .ok (.if_icmp .le 8, 3) := by decide +kernel
theorem dX4_stateByWrit_75 : decode cX4_stateByWrit 75 = .ok (.bipush (-2), 2) := by decide +kernel
theorem dX4_stateByWrit_77 : decode cX4_stateByWrit 77 = .ok (.goto 4, 3) := by decide +kernel
theorem dX4_stateByWrit_80 : decode cX4_stateByWrit 80 = .ok (.iload_n 2, 1) := by decide +kernel
theorem dX4_stateByWrit_81 : decode cX4_stateByWrit 81 = .ok (.ireturn, 1) := by decide +kernel
theorem dX4_eldestSonWithLine_0 : decode cX4_eldestSonWithLine 0 = .ok (.iconst 0, 1) := by decide +kernel
theorem dX4_eldestSonWithLine_1 : decode cX4_eldestSonWithLine 1 = .ok (.istore_n 2, 1) := by decide +kernel
theorem dX4_eldestSonWithLine_2 : decode cX4_eldestSonWithLine 2 = .ok (.iload_n 2, 1) := by decide +kernel
theorem dX4_eldestSonWithLine_3 : decode cX4_eldestSonWithLine 3 = .ok (.aload_n 0, 1) := by decide +kernel
theorem dX4_eldestSonWithLine_4 : decode cX4_eldestSonWithLine 4 = .ok (.getfield 54, 3) := by decide +kernel
theorem dX4_eldestSonWithLine_7 : decode cX4_eldestSonWithLine 7 = .ok (.iload_n 1, 1) := by decide +kernel
theorem dX4_eldestSonWithLine_8 : decode cX4_eldestSonWithLine 8 = .ok (.invokevirtual 91, 3) := by decide +kernel
theorem dX4_eldestSonWithLine_11 : decode cX4_eldestSonWithLine 11 = .ok (.if_icmp .ge 50, 3) := by decide +kernel
theorem dX4_eldestSonWithLine_14 : decode cX4_eldestSonWithLine 14 = .ok (.aload_n 0, 1) := by decide +kernel
theorem dX4_eldestSonWithLine_15 : decode cX4_eldestSonWithLine 15 = .ok (.getfield 54, 3) := by decide +kernel
theorem dX4_eldestSonWithLine_18 : decode cX4_eldestSonWithLine 18 = .ok (.iload_n 1, 1) := by decide +kernel
theorem dX4_eldestSonWithLine_19 : decode cX4_eldestSonWithLine 19 = .ok (.iload_n 2, 1) := by decide +kernel
theorem dX4_eldestSonWithLine_20 : decode cX4_eldestSonWithLine 20 = .ok (.invokevirtual 94, 3) := by decide +kernel
theorem dX4_eldestSonWithLine_23 : decode cX4_eldestSonWithLine 23 = .ok (.istore_n 3, 1) := by decide +kernel
theorem dX4_eldestSonWithLine_24 : decode cX4_eldestSonWithLine 24 = .ok (.aload_n 0, 1) := by decide +kernel
theorem dX4_eldestSonWithLine_25 : decode cX4_eldestSonWithLine 25 = .ok (.getfield 50, 3) := by decide +kernel
theorem dX4_eldestSonWithLine_28 : decode cX4_eldestSonWithLine 28 = .ok (.iload_n 3, 1) := by decide +kernel
theorem dX4_eldestSonWithLine_29 : decode cX4_eldestSonWithLine 29 = .ok (.invokevirtual 72, 3) := by decide +kernel
theorem dX4_eldestSonWithLine_32 : decode cX4_eldestSonWithLine 32 = .ok (.ifCond .eq 23, 3) := by decide +kernel
theorem dX4_eldestSonWithLine_35 : decode cX4_eldestSonWithLine 35 = .ok (.aload_n 0, 1) := by decide +kernel
theorem dX4_eldestSonWithLine_36 : decode cX4_eldestSonWithLine 36 = .ok (.getfield 54, 3) := by decide +kernel
theorem dX4_eldestSonWithLine_39 : decode cX4_eldestSonWithLine 39 = .ok (.iload_n 3, 1) := by decide +kernel
theorem dX4_eldestSonWithLine_40 : decode cX4_eldestSonWithLine 40 = .ok (.invokevirtual 111, 3) := by decide +kernel
theorem dX4_eldestSonWithLine_43 : decode cX4_eldestSonWithLine 43 = .ok (.aload_n 0, 1) := by decide +kernel
theorem dX4_eldestSonWithLine_44 : decode cX4_eldestSonWithLine 44 = .ok (.getfield 40, 3) := by decide +kernel
theorem dX4_eldestSonWithLine_47 : decode cX4_eldestSonWithLine 47 = .ok (.land, 1) := by decide +kernel
theorem dX4_eldestSonWithLine_48 : decode cX4_eldestSonWithLine 48 = .ok (.lconst 0, 1) := by decide +kernel
theorem dX4_eldestSonWithLine_49 : decode cX4_eldestSonWithLine 49 = .ok (.lcmp, 1) := by decide +kernel
theorem dX4_eldestSonWithLine_50 : decode cX4_eldestSonWithLine 50 = .ok (.ifCond .eq 5, 3) := by decide +kernel
theorem dX4_eldestSonWithLine_53 : decode cX4_eldestSonWithLine 53 = .ok (.iload_n 3, 1) := by decide +kernel
theorem dX4_eldestSonWithLine_54 : decode cX4_eldestSonWithLine 54 = .ok (.ireturn, 1) := by decide +kernel
theorem dX4_eldestSonWithLine_55 : decode cX4_eldestSonWithLine 55 = .ok (.iinc 2 1, 3) := by decide +kernel
theorem dX4_eldestSonWithLine_58 : decode cX4_eldestSonWithLine 58 = .ok (.goto (-56), 3) := by decide +kernel
theorem dX4_eldestSonWithLine_61 : decode cX4_eldestSonWithLine 61 = .ok (.iconst (-1), 1) := by decide +kernel
theorem dX4_eldestSonWithLine_62 : decode cX4_eldestSonWithLine 62 = .ok (.ireturn, 1) := by decide +kernel
theorem dX4_soleDaughterWithLine_0 : decode cX4_soleDaughterWithLine 0 = .ok (.lconst 0, 1) := by decide +kernel
theorem dX4_soleDaughterWithLine_1 : decode cX4_soleDaughterWithLine 1 = .ok (.lstore_n 2, 1) := by decide +kernel
theorem dX4_soleDaughterWithLine_2 : decode cX4_soleDaughterWithLine 2 = .ok (.iconst (-1), 1) := by decide +kernel
theorem dX4_soleDaughterWithLine_3 : decode cX4_soleDaughterWithLine 3 = .ok (.istore 4, 2) := by decide +kernel
theorem dX4_soleDaughterWithLine_5 : decode cX4_soleDaughterWithLine 5 = .ok (.aload_n 0, 1) := by decide +kernel
theorem dX4_soleDaughterWithLine_6 : decode cX4_soleDaughterWithLine 6 = .ok (.iconst 0, 1) := by decide +kernel
theorem dX4_soleDaughterWithLine_7 : decode cX4_soleDaughterWithLine 7 = .ok (.putfield 47, 3) := by decide +kernel
theorem dX4_soleDaughterWithLine_10 : decode cX4_soleDaughterWithLine 10 = .ok (.iconst 0, 1) := by decide +kernel
theorem dX4_soleDaughterWithLine_11 : decode cX4_soleDaughterWithLine 11 = .ok (.istore 5, 2) := by decide +kernel
theorem dX4_soleDaughterWithLine_13 : decode cX4_soleDaughterWithLine 13 = .ok (.iload 5, 2) := by decide +kernel
theorem dX4_soleDaughterWithLine_15 : decode cX4_soleDaughterWithLine 15 = .ok (.aload_n 0, 1) := by decide +kernel
theorem dX4_soleDaughterWithLine_16 : decode cX4_soleDaughterWithLine 16 = .ok (.getfield 54, 3) := by decide +kernel
theorem dX4_soleDaughterWithLine_19 : decode cX4_soleDaughterWithLine 19 = .ok (.iload_n 1, 1) := by decide +kernel
theorem dX4_soleDaughterWithLine_20 : decode cX4_soleDaughterWithLine 20 = .ok (.invokevirtual 91, 3) := by decide +kernel
theorem dX4_soleDaughterWithLine_23 : decode cX4_soleDaughterWithLine 23 = .ok (.if_icmp .ge 112, 3) := by decide +kernel
theorem dX4_soleDaughterWithLine_26 : decode cX4_soleDaughterWithLine 26 = .ok (.aload_n 0, 1) := by decide +kernel
theorem dX4_soleDaughterWithLine_27 : decode cX4_soleDaughterWithLine 27 = .ok (.getfield 54, 3) := by decide +kernel
theorem dX4_soleDaughterWithLine_30 : decode cX4_soleDaughterWithLine 30 = .ok (.iload_n 1, 1) := by decide +kernel
theorem dX4_soleDaughterWithLine_31 : decode cX4_soleDaughterWithLine 31 = .ok (.iload 5, 2) := by decide +kernel
theorem dX4_soleDaughterWithLine_33 : decode cX4_soleDaughterWithLine 33 = .ok (.invokevirtual 94, 3) := by decide +kernel
theorem dX4_soleDaughterWithLine_36 : decode cX4_soleDaughterWithLine 36 = .ok (.istore 6, 2) := by decide +kernel
theorem dX4_soleDaughterWithLine_38 : decode cX4_soleDaughterWithLine 38 = .ok (.aload_n 0, 1) := by decide +kernel
theorem dX4_soleDaughterWithLine_39 : decode cX4_soleDaughterWithLine 39 = .ok (.getfield 54, 3) := by decide +kernel
theorem dX4_soleDaughterWithLine_42 : decode cX4_soleDaughterWithLine 42 = .ok (.iload 6, 2) := by decide +kernel
theorem dX4_soleDaughterWithLine_44 : decode cX4_soleDaughterWithLine 44 = .ok (.invokevirtual 111, 3) := by decide +kernel
theorem dX4_soleDaughterWithLine_47 : decode cX4_soleDaughterWithLine 47 = .ok (.aload_n 0, 1) := by decide +kernel
theorem dX4_soleDaughterWithLine_48 : decode cX4_soleDaughterWithLine 48 = .ok (.getfield 40, 3) := by decide +kernel
theorem dX4_soleDaughterWithLine_51 : decode cX4_soleDaughterWithLine 51 = .ok (.land, 1) := by decide +kernel
theorem dX4_soleDaughterWithLine_52 : decode cX4_soleDaughterWithLine 52 = .ok (.lload_n 2, 1) := by decide +kernel
theorem dX4_soleDaughterWithLine_53 : decode cX4_soleDaughterWithLine 53 = .ok (.ldc2_w 114, 3) := by decide +kernel
theorem dX4_soleDaughterWithLine_56 : decode cX4_soleDaughterWithLine 56 = .ok (.lxor, 1) := by decide +kernel
theorem dX4_soleDaughterWithLine_57 : decode cX4_soleDaughterWithLine 57 = .ok (.land, 1) := by decide +kernel
theorem dX4_soleDaughterWithLine_58 : decode cX4_soleDaughterWithLine 58 = .ok (.lstore 7, 2) := by decide +kernel
theorem dX4_soleDaughterWithLine_60 : decode cX4_soleDaughterWithLine 60 = .ok (.aload_n 0, 1) := by decide +kernel
theorem dX4_soleDaughterWithLine_61 : decode cX4_soleDaughterWithLine 61 = .ok (.getfield 50, 3) := by decide +kernel
theorem dX4_soleDaughterWithLine_64 : decode cX4_soleDaughterWithLine 64 = .ok (.iload 6, 2) := by decide +kernel
theorem dX4_soleDaughterWithLine_66 : decode cX4_soleDaughterWithLine 66 = .ok (.invokevirtual 72, 3) := by decide +kernel
theorem dX4_soleDaughterWithLine_69 : decode cX4_soleDaughterWithLine 69 = .ok (.ifCond .ne 60, 3) := by decide +kernel
theorem dX4_soleDaughterWithLine_72 : decode cX4_soleDaughterWithLine 72 = .ok (.lload 7, 2) := by decide +kernel
theorem dX4_soleDaughterWithLine_74 : decode cX4_soleDaughterWithLine 74 = .ok (.lconst 0, 1) := by decide +kernel
theorem dX4_soleDaughterWithLine_75 : decode cX4_soleDaughterWithLine 75 = .ok (.lcmp, 1) := by decide +kernel
theorem dX4_soleDaughterWithLine_76 : decode cX4_soleDaughterWithLine 76 = .ok (.ifCond .eq 53, 3) := by decide +kernel
theorem dX4_soleDaughterWithLine_79 : decode cX4_soleDaughterWithLine 79 = .ok (.aload_n 0, 1) := by decide +kernel
theorem dX4_soleDaughterWithLine_80 : decode cX4_soleDaughterWithLine 80 = .ok (.getfield 47, 3) := by decide +kernel
theorem dX4_soleDaughterWithLine_83 : decode cX4_soleDaughterWithLine 83 = .ok (.bipush 64, 2) := by decide +kernel
theorem dX4_soleDaughterWithLine_85 : decode cX4_soleDaughterWithLine 85 = .ok (.if_icmp .lt 6, 3) := by decide +kernel
theorem dX4_soleDaughterWithLine_88 : decode cX4_soleDaughterWithLine 88 = .ok (.goto 41, 3) := by decide +kernel
theorem dX4_soleDaughterWithLine_91 : decode cX4_soleDaughterWithLine 91 = .ok (.aload_n 0, 1) := by decide +kernel
theorem dX4_soleDaughterWithLine_92 : decode cX4_soleDaughterWithLine 92 = .ok (.getfield 44, 3) := by decide +kernel
theorem dX4_soleDaughterWithLine_95 : decode cX4_soleDaughterWithLine 95 = .ok (.aload_n 0, 1) := by decide +kernel
theorem dX4_soleDaughterWithLine_96 : decode cX4_soleDaughterWithLine 96 = .ok (.dup, 1) := by decide +kernel
theorem dX4_soleDaughterWithLine_97 : decode cX4_soleDaughterWithLine 97 = .ok (.getfield 47, 3) := by decide +kernel
theorem dX4_soleDaughterWithLine_100 : decode cX4_soleDaughterWithLine 100 = .ok (.dup_x1, 1) := by decide +kernel
theorem dX4_soleDaughterWithLine_101 : decode cX4_soleDaughterWithLine 101 = .ok (.iconst 1, 1) := by decide +kernel
theorem dX4_soleDaughterWithLine_102 : decode cX4_soleDaughterWithLine 102 = .ok (.iadd, 1) := by decide +kernel
theorem dX4_soleDaughterWithLine_103 : decode cX4_soleDaughterWithLine 103 = .ok (.putfield 47, 3) := by decide +kernel
theorem dX4_soleDaughterWithLine_106 : decode cX4_soleDaughterWithLine 106 = .ok (.aload_n 0, 1) := by decide +kernel
theorem dX4_soleDaughterWithLine_107 : decode cX4_soleDaughterWithLine 107 = .ok (.lload 7, 2) := by decide +kernel
theorem dX4_soleDaughterWithLine_109 : decode cX4_soleDaughterWithLine 109 = .ok (.invokevirtual 116, 3) := by decide +kernel
theorem dX4_soleDaughterWithLine_112 : decode cX4_soleDaughterWithLine 112 = .ok (.iastore, 1) := by decide +kernel
theorem dX4_soleDaughterWithLine_113 : decode cX4_soleDaughterWithLine 113 = .ok (.lload_n 2, 1) := by decide +kernel
theorem dX4_soleDaughterWithLine_114 : decode cX4_soleDaughterWithLine 114 = .ok (.aload_n 0, 1) := by decide +kernel
theorem dX4_soleDaughterWithLine_115 : decode cX4_soleDaughterWithLine 115 = .ok (.getfield 54, 3) := by decide +kernel
theorem dX4_soleDaughterWithLine_118 : decode cX4_soleDaughterWithLine 118 = .ok (.iload 6, 2) := by decide +kernel
theorem dX4_soleDaughterWithLine_120 : decode cX4_soleDaughterWithLine 120 = .ok (.invokevirtual 111, 3) := by decide +kernel
theorem dX4_soleDaughterWithLine_123 : decode cX4_soleDaughterWithLine 123 = .ok (.lor, 1) := by decide +kernel
theorem dX4_soleDaughterWithLine_124 : decode cX4_soleDaughterWithLine 124 = .ok (.lstore_n 2, 1) := by decide +kernel
theorem dX4_soleDaughterWithLine_125 : decode cX4_soleDaughterWithLine 125 = .ok (.iload 6, 2) := by decide +kernel
theorem dX4_soleDaughterWithLine_127 : decode cX4_soleDaughterWithLine 127 = .ok (.istore 4, 2) := by decide +kernel
theorem dX4_soleDaughterWithLine_129 : decode cX4_soleDaughterWithLine 129 = .ok (.iinc 5 1, 3) := by decide +kernel
theorem dX4_soleDaughterWithLine_132 : decode cX4_soleDaughterWithLine 132 = .ok (.goto (-119), 3) := by decide +kernel
theorem dX4_soleDaughterWithLine_135 : decode cX4_soleDaughterWithLine 135 = .ok (.aload_n 0, 1) := by decide +kernel
theorem dX4_soleDaughterWithLine_136 : decode cX4_soleDaughterWithLine 136 = .ok (.getfield 47, 3) := by decide +kernel
theorem dX4_soleDaughterWithLine_139 : decode cX4_soleDaughterWithLine 139 = .ok (.iconst 1, 1) := by decide +kernel
theorem dX4_soleDaughterWithLine_140 : decode cX4_soleDaughterWithLine 140 = .ok (.if_icmp .le 5, 3) := by decide +kernel
theorem dX4_soleDaughterWithLine_143 : decode cX4_soleDaughterWithLine 143 = .ok (.iconst (-1), 1) := by decide +kernel
theorem dX4_soleDaughterWithLine_144 : decode cX4_soleDaughterWithLine 144 = .ok (.ireturn, 1) := by decide +kernel
theorem dX4_soleDaughterWithLine_145 : decode cX4_soleDaughterWithLine 145 = .ok (.aload_n 0, 1) := by decide +kernel
theorem dX4_soleDaughterWithLine_146 : decode cX4_soleDaughterWithLine 146 = .ok (.iconst 0, 1) := by decide +kernel
theorem dX4_soleDaughterWithLine_147 : decode cX4_soleDaughterWithLine 147 = .ok (.putfield 47, 3) := by decide +kernel
theorem dX4_soleDaughterWithLine_150 : decode cX4_soleDaughterWithLine 150 = .ok (.iload 4, 2) := by decide +kernel
theorem dX4_soleDaughterWithLine_152 : decode cX4_soleDaughterWithLine 152 = .ok (.ireturn, 1) := by decide +kernel
theorem dX4_firstOf_0 : decode cX4_firstOf 0 = .ok (.iconst 0, 1) := by decide +kernel
theorem dX4_firstOf_1 : decode cX4_firstOf 1 = .ok (.istore_n 3, 1) := by decide +kernel
theorem dX4_firstOf_2 : decode cX4_firstOf 2 = .ok (.iload_n 3, 1) := by decide +kernel
theorem dX4_firstOf_3 : decode cX4_firstOf 3 = .ok (.aload_n 0, 1) := by decide +kernel
theorem dX4_firstOf_4 : decode cX4_firstOf 4 = .ok (.getfield 37, 3) := by decide +kernel
theorem dX4_firstOf_7 : decode cX4_firstOf 7 = .ok (.if_icmp .ge 31, 3) := by decide +kernel
theorem dX4_firstOf_10 : decode cX4_firstOf 10 = .ok (.lload_n 1, 1) := by decide +kernel
theorem dX4_firstOf_11 : decode cX4_firstOf 11 = .ok (.lconst 1, 1) := by decide +kernel
theorem dX4_firstOf_12 : decode cX4_firstOf 12 = .ok (.aload_n 0, 1) := by decide +kernel
theorem dX4_firstOf_13 : decode cX4_firstOf 13 = .ok (.getfield 34, 3) := by decide +kernel
theorem dX4_firstOf_16 : decode cX4_firstOf 16 = .ok (.iload_n 3, 1) := by decide +kernel
theorem dX4_firstOf_17 : decode cX4_firstOf 17 = .ok (.iaload, 1) := by decide +kernel
theorem dX4_firstOf_18 : decode cX4_firstOf 18 = .ok (.lshl, 1) := by decide +kernel
theorem dX4_firstOf_19 : decode cX4_firstOf 19 = .ok (.land, 1) := by decide +kernel
theorem dX4_firstOf_20 : decode cX4_firstOf 20 = .ok (.lconst 0, 1) := by decide +kernel
theorem dX4_firstOf_21 : decode cX4_firstOf 21 = .ok (.lcmp, 1) := by decide +kernel
theorem dX4_firstOf_22 : decode cX4_firstOf 22 = .ok (.ifCond .eq 10, 3) := by decide +kernel
theorem dX4_firstOf_25 : decode cX4_firstOf 25 = .ok (.aload_n 0, 1) := by decide +kernel
theorem dX4_firstOf_26 : decode cX4_firstOf 26 = .ok (.getfield 34, 3) := by decide +kernel
theorem dX4_firstOf_29 : decode cX4_firstOf 29 = .ok (.iload_n 3, 1) := by decide +kernel
theorem dX4_firstOf_30 : decode cX4_firstOf 30 = .ok (.iaload, 1) := by decide +kernel
theorem dX4_firstOf_31 : decode cX4_firstOf 31 = .ok (.ireturn, 1) := by decide +kernel
theorem dX4_firstOf_32 : decode cX4_firstOf 32 = .ok (.iinc 3 1, 3) := by decide +kernel
theorem dX4_firstOf_35 : decode cX4_firstOf 35 = .ok (.goto (-33), 3) := by decide +kernel
theorem dX4_firstOf_38 : decode cX4_firstOf 38 = .ok (.iconst (-1), 1) := by decide +kernel
theorem dX4_firstOf_39 : decode cX4_firstOf 39 = .ok (.ireturn, 1) := by decide +kernel
theorem dX5_init_0 : decode cX5_init 0 = .ok (.aload_n 0, 1) := by decide +kernel
theorem dX5_init_1 : decode cX5_init 1 = .ok (.invokespecial 3, 3) := by decide +kernel
theorem dX5_init_4 : decode cX5_init 4 = .ok (.aload_n 0, 1) := by decide +kernel
theorem dX5_init_5 : decode cX5_init 5 = .ok (.bipush 64, 2) := by decide +kernel
theorem dX5_init_7 : decode cX5_init 7 = .ok (.newarray .boolean, 2) := by decide +kernel
theorem dX5_init_9 : decode cX5_init 9 = .ok (.putfield 9, 3) := by decide +kernel
theorem dX5_init_12 : decode cX5_init 12 = .ok (.aload_n 0, 1) := by decide +kernel
theorem dX5_init_13 : decode cX5_init 13 = .ok (.bipush 64, 2) := by decide +kernel
theorem dX5_init_15 : decode cX5_init 15 = .ok (.newarray .boolean, 2) := by decide +kernel
theorem dX5_init_17 : decode cX5_init 17 = .ok (.putfield 15, 3) := by decide +kernel
theorem dX5_init_20 : decode cX5_init 20 = .ok (.aload_n 0, 1) := by decide +kernel
theorem dX5_init_21 : decode cX5_init 21 = .ok (.bipush 64, 2) := by decide +kernel
theorem dX5_init_23 : decode cX5_init 23 = .ok (.newarray .int, 2) := by decide +kernel
theorem dX5_init_25 : decode cX5_init 25 = .ok (.putfield 18, 3) := by decide +kernel
theorem dX5_init_28 : decode cX5_init 28 = .ok (.aload_n 0, 1) := by decide +kernel
theorem dX5_init_29 : decode cX5_init 29 = .ok (.bipush 64, 2) := by decide +kernel
theorem dX5_init_31 : decode cX5_init 31 = .ok (.newarray .int, 2) := by decide +kernel
theorem dX5_init_33 : decode cX5_init 33 = .ok (.putfield 22, 3) := by decide +kernel
theorem dX5_init_36 : decode cX5_init 36 = .ok (.aload_n 0, 1) := by decide +kernel
theorem dX5_init_37 : decode cX5_init 37 = .ok (.bipush 64, 2) := by decide +kernel
theorem dX5_init_39 : decode cX5_init 39 = .ok (.newarray .int, 2) := by decide +kernel
theorem dX5_init_41 : decode cX5_init 41 = .ok (.putfield 25, 3) := by decide +kernel
theorem dX5_init_44 : decode cX5_init 44 = .ok (.aload_n 0, 1) := by decide +kernel
theorem dX5_init_45 : decode cX5_init 45 = .ok (.bipush 64, 2) := by decide +kernel
theorem dX5_init_47 : decode cX5_init 47 = .ok (.newarray .int, 2) := by decide +kernel
theorem dX5_init_49 : decode cX5_init 49 = .ok (.putfield 28, 3) := by decide +kernel
theorem dX5_init_52 : decode cX5_init 52 = .ok (.aload_n 0, 1) := by decide +kernel
theorem dX5_init_53 : decode cX5_init 53 = .ok (.bipush 64, 2) := by decide +kernel
theorem dX5_init_55 : decode cX5_init 55 = .ok (.newarray .int, 2) := by decide +kernel
theorem dX5_init_57 : decode cX5_init 57 = .ok (.putfield 31, 3) := by decide +kernel
theorem dX5_init_60 : decode cX5_init 60 = .ok (.aload_n 0, 1) := by decide +kernel
theorem dX5_init_61 : decode cX5_init 61 = .ok (.bipush 64, 2) := by decide +kernel
theorem dX5_init_63 : decode cX5_init 63 = .ok (.newarray .int, 2) := by decide +kernel
theorem dX5_init_65 : decode cX5_init 65 = .ok (.putfield 34, 3) := by decide +kernel
theorem dX5_init_68 : decode cX5_init 68 = .ok (.return_, 1) := by decide +kernel
theorem dX5_rebuild_0 : decode cX5_rebuild 0 = .ok (.iconst 0, 1) := by decide +kernel
theorem dX5_rebuild_1 : decode cX5_rebuild 1 = .ok (.istore_n 2, 1) := by decide +kernel
theorem dX5_rebuild_2 : decode cX5_rebuild 2 = .ok (.iload_n 2, 1) := by decide +kernel
theorem dX5_rebuild_3 : decode cX5_rebuild 3 = .ok (.bipush 64, 2) := by decide +kernel
theorem dX5_rebuild_5 : decode cX5_rebuild 5 = .ok (.if_icmp .ge 51, 3) := by decide +kernel
theorem dX5_rebuild_8 : decode cX5_rebuild 8 = .ok (.aload_n 0, 1) := by decide +kernel
theorem dX5_rebuild_9 : decode cX5_rebuild 9 = .ok (.getfield 9, 3) := by decide +kernel
theorem dX5_rebuild_12 : decode cX5_rebuild 12 = .ok (.iload_n 2, 1) := by decide +kernel
theorem dX5_rebuild_13 : decode cX5_rebuild 13 = .ok (.iconst 0, 1) := by decide +kernel
theorem dX5_rebuild_14 : decode cX5_rebuild 14 = .ok (.bastore, 1) := by decide +kernel
theorem dX5_rebuild_15 : decode cX5_rebuild 15 = .ok (.aload_n 0, 1) := by decide +kernel
theorem dX5_rebuild_16 : decode cX5_rebuild 16 = .ok (.getfield 15, 3) := by decide +kernel
theorem dX5_rebuild_19 : decode cX5_rebuild 19 = .ok (.iload_n 2, 1) := by decide +kernel
theorem dX5_rebuild_20 : decode cX5_rebuild 20 = .ok (.iconst 0, 1) := by decide +kernel
theorem dX5_rebuild_21 : decode cX5_rebuild 21 = .ok (.bastore, 1) := by decide +kernel
theorem dX5_rebuild_22 : decode cX5_rebuild 22 = .ok (.aload_n 0, 1) := by decide +kernel
theorem dX5_rebuild_23 : decode cX5_rebuild 23 = .ok (.getfield 18, 3) := by decide +kernel
theorem dX5_rebuild_26 : decode cX5_rebuild 26 = .ok (.iload_n 2, 1) := by decide +kernel
theorem dX5_rebuild_27 : decode cX5_rebuild 27 = .ok (.iconst (-1), 1) := by decide +kernel
theorem dX5_rebuild_28 : decode cX5_rebuild 28 = .ok (.iastore, 1) := by decide +kernel
theorem dX5_rebuild_29 : decode cX5_rebuild 29 = .ok (.aload_n 0, 1) := by decide +kernel
theorem dX5_rebuild_30 : decode cX5_rebuild 30 = .ok (.getfield 22, 3) := by decide +kernel
theorem dX5_rebuild_33 : decode cX5_rebuild 33 = .ok (.iload_n 2, 1) := by decide +kernel
theorem dX5_rebuild_34 : decode cX5_rebuild 34 = .ok (.iconst (-1), 1) := by decide +kernel
theorem dX5_rebuild_35 : decode cX5_rebuild 35 = .ok (.iastore, 1) := by decide +kernel
theorem dX5_rebuild_36 : decode cX5_rebuild 36 = .ok (.aload_n 0, 1) := by decide +kernel
theorem dX5_rebuild_37 : decode cX5_rebuild 37 = .ok (.getfield 25, 3) := by decide +kernel
theorem dX5_rebuild_40 : decode cX5_rebuild 40 = .ok (.iload_n 2, 1) := by decide +kernel
theorem dX5_rebuild_41 : decode cX5_rebuild 41 = .ok (.iconst (-1), 1) := by decide +kernel
theorem dX5_rebuild_42 : decode cX5_rebuild 42 = .ok (.iastore, 1) := by decide +kernel
theorem dX5_rebuild_43 : decode cX5_rebuild 43 = .ok (.aload_n 0, 1) := by decide +kernel
theorem dX5_rebuild_44 : decode cX5_rebuild 44 = .ok (.getfield 28, 3) := by decide +kernel
theorem dX5_rebuild_47 : decode cX5_rebuild 47 = .ok (.iload_n 2, 1) := by decide +kernel
theorem dX5_rebuild_48 : decode cX5_rebuild 48 = .ok (.iconst (-1), 1) := by decide +kernel
theorem dX5_rebuild_49 : decode cX5_rebuild 49 = .ok (.iastore, 1) := by decide +kernel
theorem dX5_rebuild_50 : decode cX5_rebuild 50 = .ok (.iinc 2 1, 3) := by decide +kernel
theorem dX5_rebuild_53 : decode cX5_rebuild 53 = .ok (.goto (-51), 3) := by decide +kernel
theorem dX5_rebuild_56 : decode cX5_rebuild 56 = .ok (.iconst 0, 1) := by decide +kernel
theorem dX5_rebuild_57 : decode cX5_rebuild 57 = .ok (.istore_n 2, 1) := by decide +kernel
theorem dX5_rebuild_58 : decode cX5_rebuild 58 = .ok (.iload_n 2, 1) := by decide +kernel
theorem dX5_rebuild_59 : decode cX5_rebuild 59 = .ok (.aload_n 1, 1) := by decide +kernel
theorem dX5_rebuild_60 : decode cX5_rebuild 60 = .ok (.invokevirtual 37, 3) := by decide +kernel
theorem dX5_rebuild_63 : decode cX5_rebuild 63 = .ok (.if_icmp .ge 69, 3) := by decide +kernel
theorem dX5_rebuild_66 : decode cX5_rebuild 66 = .ok (.aload_n 1, 1) := by decide +kernel
theorem dX5_rebuild_67 : decode cX5_rebuild 67 = .ok (.iload_n 2, 1) := by decide +kernel
theorem dX5_rebuild_68 : decode cX5_rebuild 68 = .ok (.invokevirtual 43, 3) := by decide +kernel
theorem dX5_rebuild_71 : decode cX5_rebuild 71 = .ok (.astore_n 3, 1) := by decide +kernel
theorem dX5_rebuild_72 : decode cX5_rebuild 72 = .ok (.aload_n 3, 1) := by decide +kernel
theorem dX5_rebuild_73 : decode cX5_rebuild 73 = .ok (.ifnull 53, 3) := by decide +kernel
theorem dX5_rebuild_76 : decode cX5_rebuild 76 = .ok (.aload_n 3, 1) := by decide +kernel
theorem dX5_rebuild_77 : decode cX5_rebuild 77 = .ok (.getfield 47, 3) := by decide +kernel
theorem dX5_rebuild_80 : decode cX5_rebuild 80 = .ok (.invokestatic 53, 3) := by decide +kernel
theorem dX5_rebuild_83 : decode cX5_rebuild 83 = .ok (.ifCond .ne 6, 3) := by decide +kernel
theorem dX5_rebuild_86 : decode cX5_rebuild 86 = .ok (.goto 40, 3) := by decide +kernel
theorem dX5_rebuild_89 : decode cX5_rebuild 89 = .ok (.aload_n 3, 1) := by decide +kernel
theorem dX5_rebuild_90 : decode cX5_rebuild 90 = .ok (.getfield 57, 3) := by decide +kernel
theorem dX5_rebuild_93 : decode cX5_rebuild 93 = .ok (.ifCond .ne 12, 3) := by decide +kernel
theorem dX5_rebuild_96 : decode cX5_rebuild 96 = .ok (.aload_n 0, 1) := by decide +kernel
theorem dX5_rebuild_97 : decode cX5_rebuild 97 = .ok (.aload_n 3, 1) := by decide +kernel
theorem dX5_rebuild_98 : decode cX5_rebuild 98 = .ok (.aload_n 3, 1) := by decide +kernel
theorem dX5_rebuild_99 : decode cX5_rebuild 99 = .ok (.getfield 47, 3) := by decide +kernel
theorem dX5_rebuild_102 : decode cX5_rebuild 102 = .ok (.invokevirtual 60, 3) := by decide +kernel
theorem dX5_rebuild_105 : decode cX5_rebuild 105 = .ok (.aload_n 3, 1) := by decide +kernel
theorem dX5_rebuild_106 : decode cX5_rebuild 106 = .ok (.getfield 57, 3) := by decide +kernel
theorem dX5_rebuild_109 : decode cX5_rebuild 109 = .ok (.iconst 3, 1) := by decide +kernel
theorem dX5_rebuild_110 : decode cX5_rebuild 110 = .ok (.if_icmp .ne 16, 3) := by decide +kernel
theorem dX5_rebuild_113 : decode cX5_rebuild 113 = .ok (.aload_n 0, 1) := by decide +kernel
theorem dX5_rebuild_114 : decode cX5_rebuild 114 = .ok (.getfield 22, 3) := by decide +kernel
theorem dX5_rebuild_117 : decode cX5_rebuild 117 = .ok (.aload_n 3, 1) := by decide +kernel
theorem dX5_rebuild_118 : decode cX5_rebuild 118 = .ok (.getfield 47, 3) := by decide +kernel
theorem dX5_rebuild_121 : decode cX5_rebuild 121 = .ok (.aload_n 3, 1) := by decide +kernel
theorem dX5_rebuild_122 : decode cX5_rebuild 122 = .ok (.getfield 64, 3) := by decide +kernel
theorem dX5_rebuild_125 : decode cX5_rebuild 125 = .ok (.iastore, 1) := by decide +kernel
theorem dX5_rebuild_126 : decode cX5_rebuild 126 = .ok (.iinc 2 1, 3) := by decide +kernel
theorem dX5_rebuild_129 : decode cX5_rebuild 129 = .ok (.goto (-71), 3) := by decide +kernel
theorem dX5_rebuild_132 : decode cX5_rebuild 132 = .ok (.return_, 1) := by decide +kernel
theorem dX5_takeBirth_0 : decode cX5_takeBirth 0 = .ok (.aload_n 0, 1) := by decide +kernel
theorem dX5_takeBirth_1 : decode cX5_takeBirth 1 = .ok (.getfield 9, 3) := by decide +kernel
theorem dX5_takeBirth_4 : decode cX5_takeBirth 4 = .ok (.iload_n 2, 1) := by decide +kernel
theorem dX5_takeBirth_5 : decode cX5_takeBirth 5 = .ok (.iconst 1, 1) := by decide +kernel
theorem dX5_takeBirth_6 : decode cX5_takeBirth 6 = .ok (.bastore, 1) := by decide +kernel
theorem dX5_takeBirth_7 : decode cX5_takeBirth 7 = .ok (.aload_n 0, 1) := by decide +kernel
theorem dX5_takeBirth_8 : decode cX5_takeBirth 8 = .ok (.getfield 15, 3) := by decide +kernel
theorem dX5_takeBirth_11 : decode cX5_takeBirth 11 = .ok (.iload_n 2, 1) := by decide +kernel
theorem dX5_takeBirth_12 : decode cX5_takeBirth 12 = .ok (.aload_n 1, 1) := by decide +kernel
theorem dX5_takeBirth_13 : decode cX5_takeBirth 13 = .ok (.getfield 67, 3) := by decide +kernel
theorem dX5_takeBirth_16 : decode cX5_takeBirth 16 = .ok (.bastore, 1) := by decide +kernel
theorem dX5_takeBirth_17 : decode cX5_takeBirth 17 = .ok (.aload_n 0, 1) := by decide +kernel
theorem dX5_takeBirth_18 : decode cX5_takeBirth 18 = .ok (.getfield 18, 3) := by decide +kernel
theorem dX5_takeBirth_21 : decode cX5_takeBirth 21 = .ok (.iload_n 2, 1) := by decide +kernel
theorem dX5_takeBirth_22 : decode cX5_takeBirth 22 = .ok (.aload_n 1, 1) := by decide +kernel
theorem dX5_takeBirth_23 : decode cX5_takeBirth 23 = .ok (.getfield 64, 3) := by decide +kernel
theorem dX5_takeBirth_26 : decode cX5_takeBirth 26 = .ok (.iastore, 1) := by decide +kernel
theorem dX5_takeBirth_27 : decode cX5_takeBirth 27 = .ok (.aload_n 0, 1) := by decide +kernel
theorem dX5_takeBirth_28 : decode cX5_takeBirth 28 = .ok (.getfield 25, 3) := by decide +kernel
theorem dX5_takeBirth_31 : decode cX5_takeBirth 31 = .ok (.iload_n 2, 1) := by decide +kernel
theorem dX5_takeBirth_32 : decode cX5_takeBirth 32 = .ok (.aload_n 1, 1) := by decide +kernel
theorem dX5_takeBirth_33 : decode cX5_takeBirth 33 = .ok (.getfield 70, 3) := by decide +kernel
theorem dX5_takeBirth_36 : decode cX5_takeBirth 36 = .ok (.iastore, 1) := by decide +kernel
theorem dX5_takeBirth_37 : decode cX5_takeBirth 37 = .ok (.aload_n 0, 1) := by decide +kernel
theorem dX5_takeBirth_38 : decode cX5_takeBirth 38 = .ok (.getfield 28, 3) := by decide +kernel
theorem dX5_takeBirth_41 : decode cX5_takeBirth 41 = .ok (.iload_n 2, 1) := by decide +kernel
theorem dX5_takeBirth_42 : decode cX5_takeBirth 42 = .ok (.aload_n 1, 1) := by decide +kernel
theorem dX5_takeBirth_43 : decode cX5_takeBirth 43 = .ok (.getfield 73, 3) := by decide +kernel
theorem dX5_takeBirth_46 : decode cX5_takeBirth 46 = .ok (.iastore, 1) := by decide +kernel
theorem dX5_takeBirth_47 : decode cX5_takeBirth 47 = .ok (.return_, 1) := by decide +kernel
theorem dX5_has_0 : decode cX5_has 0 = .ok (.iload_n 1, 1) := by decide +kernel
theorem dX5_has_1 : decode cX5_has 1 = .ok (.ifCond .lt 22, 3) := by decide +kernel
theorem dX5_has_4 : decode cX5_has 4 = .ok (.iload_n 1, 1) := by decide +kernel
theorem dX5_has_5 : decode cX5_has 5 = .ok (.bipush 64, 2) := by decide +kernel
theorem dX5_has_7 : decode cX5_has 7 = .ok (.if_icmp .ge 16, 3) := by decide +kernel
theorem dX5_has_10 : decode cX5_has 10 = .ok (.aload_n 0, 1) := by decide +kernel
theorem dX5_has_11 : decode cX5_has 11 = .ok (.getfield 9, 3) := by decide +kernel
theorem dX5_has_14 : decode cX5_has 14 = .ok (.iload_n 1, 1) := by decide +kernel
theorem dX5_has_15 : decode cX5_has 15 = .ok (.baload, 1) := by decide +kernel
theorem dX5_has_16 : decode cX5_has 16 = .ok (.ifCond .eq 7, 3) := by decide +kernel
theorem dX5_has_19 : decode cX5_has 19 = .ok (.iconst 1, 1) := by decide +kernel
theorem dX5_has_20 : decode cX5_has 20 = .ok (.goto 4, 3) := by decide +kernel
theorem dX5_has_23 : decode cX5_has 23 = .ok (.iconst 0, 1) := by decide +kernel
theorem dX5_has_24 : decode cX5_has 24 = .ok (.ireturn, 1) := by decide +kernel
theorem dX5_isMale_0 : decode cX5_isMale 0 = .ok (.iload_n 1, 1) := by decide +kernel
theorem dX5_isMale_1 : decode cX5_isMale 1 = .ok (.ifCond .lt 22, 3) := by decide +kernel
theorem dX5_isMale_4 : decode cX5_isMale 4 = .ok (.iload_n 1, 1) := by decide +kernel
theorem dX5_isMale_5 : decode cX5_isMale 5 = .ok (.bipush 64, 2) := by decide +kernel
theorem dX5_isMale_7 : decode cX5_isMale 7 = .ok (.if_icmp .ge 16, 3) := by decide +kernel
theorem dX5_isMale_10 : decode cX5_isMale 10 = .ok (.aload_n 0, 1) := by decide +kernel
theorem dX5_isMale_11 : decode cX5_isMale 11 = .ok (.getfield 15, 3) := by decide +kernel
theorem dX5_isMale_14 : decode cX5_isMale 14 = .ok (.iload_n 1, 1) := by decide +kernel
theorem dX5_isMale_15 : decode cX5_isMale 15 = .ok (.baload, 1) := by decide +kernel
theorem dX5_isMale_16 : decode cX5_isMale 16 = .ok (.ifCond .eq 7, 3) := by decide +kernel
theorem dX5_isMale_19 : decode cX5_isMale 19 = .ok (.iconst 1, 1) := by decide +kernel
theorem dX5_isMale_20 : decode cX5_isMale 20 = .ok (.goto 4, 3) := by decide +kernel
theorem dX5_isMale_23 : decode cX5_isMale 23 = .ok (.iconst 0, 1) := by decide +kernel
theorem dX5_isMale_24 : decode cX5_isMale 24 = .ok (.ireturn, 1) := by decide +kernel
theorem dX5_bornOn_0 : decode cX5_bornOn 0 = .ok (.iload_n 1, 1) := by decide +kernel
theorem dX5_bornOn_1 : decode cX5_bornOn 1 = .ok (.invokestatic 53, 3) := by decide +kernel
theorem dX5_bornOn_4 : decode cX5_bornOn 4 = .ok (.ifCond .eq 12, 3) := by decide +kernel
theorem dX5_bornOn_7 : decode cX5_bornOn 7 = .ok (.aload_n 0, 1) := by decide +kernel
theorem dX5_bornOn_8 : decode cX5_bornOn 8 = .ok (.getfield 18, 3) := by decide +kernel
theorem dX5_bornOn_11 : decode cX5_bornOn 11 = .ok (.iload_n 1, 1) := by decide +kernel
theorem dX5_bornOn_12 : decode cX5_bornOn 12 = .ok (.iaload, 1) := by decide +kernel
theorem dX5_bornOn_13 : decode cX5_bornOn 13 = .ok (.goto 4, 3) := by decide +kernel
theorem dX5_bornOn_16 : decode cX5_bornOn 16 = .ok (.iconst (-1), 1) := by decide +kernel
theorem dX5_bornOn_17 : decode cX5_bornOn 17 = .ok (.ireturn, 1) := by decide +kernel
theorem dX5_deadOn_0 : decode cX5_deadOn 0 = .ok (.iload_n 1, 1) := by decide +kernel
theorem dX5_deadOn_1 : decode cX5_deadOn 1 = .ok (.invokestatic 53, 3) := by decide +kernel
theorem dX5_deadOn_4 : decode cX5_deadOn 4 = .ok (.ifCond .eq 12, 3) := by decide +kernel
theorem dX5_deadOn_7 : decode cX5_deadOn 7 = .ok (.aload_n 0, 1) := by decide +kernel
theorem dX5_deadOn_8 : decode cX5_deadOn 8 = .ok (.getfield 22, 3) := by decide +kernel
theorem dX5_deadOn_11 : decode cX5_deadOn 11 = .ok (.iload_n 1, 1) := by decide +kernel
theorem dX5_deadOn_12 : decode cX5_deadOn 12 = .ok (.iaload, 1) := by decide +kernel
theorem dX5_deadOn_13 : decode cX5_deadOn 13 = .ok (.goto 4, 3) := by decide +kernel
theorem dX5_deadOn_16 : decode cX5_deadOn 16 = .ok (.iconst (-1), 1) := by decide +kernel
theorem dX5_deadOn_17 : decode cX5_deadOn 17 = .ok (.ireturn, 1) := by decide +kernel
theorem dX5_father_0 : decode cX5_father 0 = .ok (.iload_n 1, 1) := by decide +kernel
theorem dX5_father_1 : decode cX5_father 1 = .ok (.invokestatic 53, 3) := by decide +kernel
theorem dX5_father_4 : decode cX5_father 4 = .ok (.ifCond .eq 12, 3) := by decide +kernel
theorem dX5_father_7 : decode cX5_father 7 = .ok (.aload_n 0, 1) := by decide +kernel
theorem dX5_father_8 : decode cX5_father 8 = .ok (.getfield 25, 3) := by decide +kernel
theorem dX5_father_11 : decode cX5_father 11 = .ok (.iload_n 1, 1) := by decide +kernel
theorem dX5_father_12 : decode cX5_father 12 = .ok (.iaload, 1) := by decide +kernel
theorem dX5_father_13 : decode cX5_father 13 = .ok (.goto 4, 3) := by decide +kernel
theorem dX5_father_16 : decode cX5_father 16 = .ok (.iconst (-1), 1) := by decide +kernel
theorem dX5_father_17 : decode cX5_father 17 = .ok (.ireturn, 1) := by decide +kernel
theorem dX5_mother_0 : decode cX5_mother 0 = .ok (.iload_n 1, 1) := by decide +kernel
theorem dX5_mother_1 : decode cX5_mother 1 = .ok (.invokestatic 53, 3) := by decide +kernel
theorem dX5_mother_4 : decode cX5_mother 4 = .ok (.ifCond .eq 12, 3) := by decide +kernel
theorem dX5_mother_7 : decode cX5_mother 7 = .ok (.aload_n 0, 1) := by decide +kernel
theorem dX5_mother_8 : decode cX5_mother 8 = .ok (.getfield 28, 3) := by decide +kernel
theorem dX5_mother_11 : decode cX5_mother 11 = .ok (.iload_n 1, 1) := by decide +kernel
theorem dX5_mother_12 : decode cX5_mother 12 = .ok (.iaload, 1) := by decide +kernel
theorem dX5_mother_13 : decode cX5_mother 13 = .ok (.goto 4, 3) := by decide +kernel
theorem dX5_mother_16 : decode cX5_mother 16 = .ok (.iconst (-1), 1) := by decide +kernel
theorem dX5_mother_17 : decode cX5_mother 17 = .ok (.ireturn, 1) := by decide +kernel
theorem dX5_isDeadAhead_0 : decode cX5_isDeadAhead 0 = .ok (.aload_n 0, 1) := by decide +kernel
theorem dX5_isDeadAhead_1 : decode cX5_isDeadAhead 1 = .ok (.iload_n 1, 1) := by decide +kernel
theorem dX5_isDeadAhead_2 : decode cX5_isDeadAhead 2 = .ok (.invokevirtual 76, 3) := by decide +kernel
theorem dX5_isDeadAhead_5 : decode cX5_isDeadAhead 5 = .ok (.istore_n 3, 1) := by decide +kernel
theorem dX5_isDeadAhead_6 : decode cX5_isDeadAhead 6 = .ok (.iload_n 3, 1) := by decide +kernel
theorem dX5_isDeadAhead_7 : decode cX5_isDeadAhead 7 = .ok (.iconst (-1), 1) := by decide +kernel
theorem dX5_isDeadAhead_8 : decode cX5_isDeadAhead 8 = .ok (.if_icmp .eq 12, 3) := by decide +kernel
theorem dX5_isDeadAhead_11 : decode cX5_isDeadAhead 11 = .ok (.iload_n 3, 1) := by decide +kernel
theorem dX5_isDeadAhead_12 : decode cX5_isDeadAhead 12 = .ok (.iload_n 2, 1) := by decide +kernel
theorem dX5_isDeadAhead_13 : decode cX5_isDeadAhead 13 = .ok (.if_icmp .ge 7, 3) := by decide +kernel
theorem dX5_isDeadAhead_16 : decode cX5_isDeadAhead 16 = .ok (.iconst 1, 1) := by decide +kernel
theorem dX5_isDeadAhead_17 : decode cX5_isDeadAhead 17 = .ok (.goto 4, 3) := by decide +kernel
theorem dX5_isDeadAhead_20 : decode cX5_isDeadAhead 20 = .ok (.iconst 0, 1) := by decide +kernel
theorem dX5_isDeadAhead_21 : decode cX5_isDeadAhead 21 = .ok (.ireturn, 1) := by decide +kernel
theorem dX5_isAlive_0 : decode cX5_isAlive 0 = .ok (.aload_n 0, 1) := by decide +kernel
theorem dX5_isAlive_1 : decode cX5_isAlive 1 = .ok (.iload_n 1, 1) := by decide +kernel
theorem dX5_isAlive_2 : decode cX5_isAlive 2 = .ok (.invokevirtual 80, 3) := by decide +kernel
theorem dX5_isAlive_5 : decode cX5_isAlive 5 = .ok (.ifCond .eq 37, 3) := by decide +kernel
theorem dX5_isAlive_8 : decode cX5_isAlive 8 = .ok (.aload_n 0, 1) := by decide +kernel
theorem dX5_isAlive_9 : decode cX5_isAlive 9 = .ok (.getfield 18, 3) := by decide +kernel
theorem dX5_isAlive_12 : decode cX5_isAlive 12 = .ok (.iload_n 1, 1) := by decide +kernel
theorem dX5_isAlive_13 : decode cX5_isAlive 13 = .ok (.iaload, 1) := by decide +kernel
theorem dX5_isAlive_14 : decode cX5_isAlive 14 = .ok (.iload_n 2, 1) := by decide +kernel
theorem dX5_isAlive_15 : decode cX5_isAlive 15 = .ok (.if_icmp .gt 27, 3) := by decide +kernel
theorem dX5_isAlive_18 : decode cX5_isAlive 18 = .ok (.aload_n 0, 1) := by decide +kernel
theorem dX5_isAlive_19 : decode cX5_isAlive 19 = .ok (.getfield 22, 3) := by decide +kernel
theorem dX5_isAlive_22 : decode cX5_isAlive 22 = .ok (.iload_n 1, 1) := by decide +kernel
theorem dX5_isAlive_23 : decode cX5_isAlive 23 = .ok (.iaload, 1) := by decide +kernel
theorem dX5_isAlive_24 : decode cX5_isAlive 24 = .ok (.iconst (-1), 1) := by decide +kernel
theorem dX5_isAlive_25 : decode cX5_isAlive 25 = .ok (.if_icmp .eq 13, 3) := by decide +kernel
theorem dX5_isAlive_28 : decode cX5_isAlive 28 = .ok (.aload_n 0, 1) := by decide +kernel
theorem dX5_isAlive_29 : decode cX5_isAlive 29 = .ok (.getfield 22, 3) := by decide +kernel
theorem dX5_isAlive_32 : decode cX5_isAlive 32 = .ok (.iload_n 1, 1) := by decide +kernel
theorem dX5_isAlive_33 : decode cX5_isAlive 33 = .ok (.iaload, 1) := by decide +kernel
theorem dX5_isAlive_34 : decode cX5_isAlive 34 = .ok (.iload_n 2, 1) := by decide +kernel
theorem dX5_isAlive_35 : decode cX5_isAlive 35 = .ok (.if_icmp .le 7, 3) := by decide +kernel
theorem dX5_isAlive_38 : decode cX5_isAlive 38 = .ok (.iconst 1, 1) := by decide +kernel
theorem dX5_isAlive_39 : decode cX5_isAlive 39 = .ok (.goto 4, 3) := by decide +kernel
theorem dX5_isAlive_42 : decode cX5_isAlive 42 = .ok (.iconst 0, 1) := by decide +kernel
theorem dX5_isAlive_43 : decode cX5_isAlive 43 = .ok (.ireturn, 1) := by decide +kernel
theorem dX5_isGrown_0 : decode cX5_isGrown 0 = .ok (.aload_n 0, 1) := by decide +kernel
theorem dX5_isGrown_1 : decode cX5_isGrown 1 = .ok (.iload_n 1, 1) := by decide +kernel
theorem dX5_isGrown_2 : decode cX5_isGrown 2 = .ok (.invokevirtual 80, 3) := by decide +kernel
theorem dX5_isGrown_5 : decode cX5_isGrown 5 = .ok (.ifCond .eq 21, 3) := by decide +kernel
theorem dX5_isGrown_8 : decode cX5_isGrown 8 = .ok (.aload_n 0, 1) := by decide +kernel
theorem dX5_isGrown_9 : decode cX5_isGrown 9 = .ok (.getfield 18, 3) := by decide +kernel
theorem dX5_isGrown_12 : decode cX5_isGrown 12 = .ok (.iload_n 1, 1) := by decide +kernel
theorem dX5_isGrown_13 : decode cX5_isGrown 13 = .ok (.iaload, 1) := by decide +kernel
theorem dX5_isGrown_14 : decode cX5_isGrown 14 = .ok (.iload_n 2, 1) := by decide +kernel
theorem dX5_isGrown_15 : decode cX5_isGrown 15 = .ok (.sipush 4000, 3) := by decide +kernel
theorem dX5_isGrown_18 : decode cX5_isGrown 18 = .ok (.isub, 1) := by decide +kernel
theorem dX5_isGrown_19 : decode cX5_isGrown 19 = .ok (.if_icmp .gt 7, 3) := by decide +kernel
theorem dX5_isGrown_22 : decode cX5_isGrown 22 = .ok (.iconst 1, 1) := by decide +kernel
theorem dX5_isGrown_23 : decode cX5_isGrown 23 = .ok (.goto 4, 3) := by decide +kernel
theorem dX5_isGrown_26 : decode cX5_isGrown 26 = .ok (.iconst 0, 1) := by decide +kernel
theorem dX5_isGrown_27 : decode cX5_isGrown 27 = .ok (.ireturn, 1) := by decide +kernel
theorem dX5_isElder_0 : decode cX5_isElder 0 = .ok (.aload_n 0, 1) := by decide +kernel
theorem dX5_isElder_1 : decode cX5_isElder 1 = .ok (.iload_n 1, 1) := by decide +kernel
theorem dX5_isElder_2 : decode cX5_isElder 2 = .ok (.invokevirtual 83, 3) := by decide +kernel
theorem dX5_isElder_5 : decode cX5_isElder 5 = .ok (.aload_n 0, 1) := by decide +kernel
theorem dX5_isElder_6 : decode cX5_isElder 6 = .ok (.iload_n 2, 1) := by decide +kernel
theorem dX5_isElder_7 : decode cX5_isElder 7 = .ok (.invokevirtual 83, 3) := by decide +kernel
theorem dX5_isElder_10 : decode cX5_isElder 10 = .ok (.if_icmp .eq 24, 3) := by decide +kernel
theorem dX5_isElder_13 : decode cX5_isElder 13 = .ok (.aload_n 0, 1) := by decide +kernel
theorem dX5_isElder_14 : decode cX5_isElder 14 = .ok (.iload_n 1, 1) := by decide +kernel
theorem dX5_isElder_15 : decode cX5_isElder 15 = .ok (.invokevirtual 83, 3) := by decide +kernel
theorem dX5_isElder_18 : decode cX5_isElder 18 = .ok (.aload_n 0, 1) := by decide +kernel
theorem dX5_isElder_19 : decode cX5_isElder 19 = .ok (.iload_n 2, 1) := by decide +kernel
theorem dX5_isElder_20 : decode cX5_isElder 20 = .ok (.invokevirtual 83, 3) := by decide +kernel
theorem dX5_isElder_23 : decode cX5_isElder 23 = .ok (.if_icmp .ge 7, 3) := by decide +kernel
theorem dX5_isElder_26 : decode cX5_isElder 26 = .ok (.iconst 1, 1) := by decide +kernel
theorem dX5_isElder_27 : decode cX5_isElder 27 = .ok (.goto 17, 3) := by decide +kernel
theorem dX5_isElder_30 : decode cX5_isElder 30 = .ok (.iconst 0, 1) := by decide +kernel
theorem dX5_isElder_31 : decode cX5_isElder 31 = .ok (.goto 13, 3) := by decide +kernel
theorem dX5_isElder_34 : decode cX5_isElder 34 = .ok (.iload_n 1, 1) := by decide +kernel
theorem dX5_isElder_35 : decode cX5_isElder 35 = .ok (.iload_n 2, 1) := by decide +kernel
theorem dX5_isElder_36 : decode cX5_isElder 36 = .ok (.if_icmp .ge 7, 3) := by decide +kernel
theorem dX5_isElder_39 : decode cX5_isElder 39 = .ok (.iconst 1, 1) := by decide +kernel
theorem dX5_isElder_40 : decode cX5_isElder 40 = .ok (.goto 4, 3) := by decide +kernel
theorem dX5_isElder_43 : decode cX5_isElder 43 = .ok (.iconst 0, 1) := by decide +kernel
theorem dX5_isElder_44 : decode cX5_isElder 44 = .ok (.ireturn, 1) := by decide +kernel
theorem dX6_init_0 : decode cX6_init 0 = .ok (.aload_n 0, 1) := by decide +kernel
theorem dX6_init_1 : decode cX6_init 1 = .ok (.invokespecial 3, 3) := by decide +kernel
theorem dX6_init_4 : decode cX6_init 4 = .ok (.aload_n 0, 1) := by decide +kernel
theorem dX6_init_5 : decode cX6_init 5 = .ok (.iconst 0, 1) := by decide +kernel
theorem dX6_init_6 : decode cX6_init 6 = .ok (.putfield 9, 3) := by decide +kernel
theorem dX6_init_9 : decode cX6_init 9 = .ok (.aload_n 0, 1) := by decide +kernel
theorem dX6_init_10 : decode cX6_init 10 = .ok (.iconst 0, 1) := by decide +kernel
theorem dX6_init_11 : decode cX6_init 11 = .ok (.putfield 15, 3) := by decide +kernel
theorem dX6_init_14 : decode cX6_init 14 = .ok (.aload_n 0, 1) := by decide +kernel
theorem dX6_init_15 : decode cX6_init 15 = .ok (.bipush (-9), 2) := by decide +kernel
theorem dX6_init_17 : decode cX6_init 17 = .ok (.putfield 18, 3) := by decide +kernel
theorem dX6_init_20 : decode cX6_init 20 = .ok (.aload_n 0, 1) := by decide +kernel
theorem dX6_init_21 : decode cX6_init 21 = .ok (.aload_n 1, 1) := by decide +kernel
theorem dX6_init_22 : decode cX6_init 22 = .ok (.putfield 21, 3) := by decide +kernel
theorem dX6_init_25 : decode cX6_init 25 = .ok (.return_, 1) := by decide +kernel
theorem dX6_readInto_0 : decode cX6_readInto 0 = .ok (.aload_n 0, 1) := by decide +kernel
theorem dX6_readInto_1 : decode cX6_readInto 1 = .ok (.iconst 0, 1) := by decide +kernel
theorem dX6_readInto_2 : decode cX6_readInto 2 = .ok (.putfield 9, 3) := by decide +kernel
theorem dX6_readInto_5 : decode cX6_readInto 5 = .ok (.aload_n 0, 1) := by decide +kernel
theorem dX6_readInto_6 : decode cX6_readInto 6 = .ok (.iconst 0, 1) := by decide +kernel
theorem dX6_readInto_7 : decode cX6_readInto 7 = .ok (.putfield 15, 3) := by decide +kernel
theorem dX6_readInto_10 : decode cX6_readInto 10 = .ok (.aload_n 0, 1) := by decide +kernel
theorem dX6_readInto_11 : decode cX6_readInto 11 = .ok (.bipush (-9), 2) := by decide +kernel
theorem dX6_readInto_13 : decode cX6_readInto 13 = .ok (.putfield 18, 3) := by decide +kernel
theorem dX6_readInto_16 : decode cX6_readInto 16 = .ok (.aload_n 1, 1) := by decide +kernel
theorem dX6_readInto_17 : decode cX6_readInto 17 = .ok (.aload_n 0, 1) := by decide +kernel
theorem dX6_readInto_18 : decode cX6_readInto 18 = .ok (.invokevirtual 25, 3) := by decide +kernel
theorem dX6_readInto_21 : decode cX6_readInto 21 = .ok (.putfield 29, 3) := by decide +kernel
theorem dX6_readInto_24 : decode cX6_readInto 24 = .ok (.aload_n 1, 1) := by decide +kernel
theorem dX6_readInto_25 : decode cX6_readInto 25 = .ok (.aload_n 0, 1) := by decide +kernel
theorem dX6_readInto_26 : decode cX6_readInto 26 = .ok (.invokevirtual 34, 3) := by decide +kernel
theorem dX6_readInto_29 : decode cX6_readInto 29 = .ok (.putfield 37, 3) := by decide +kernel
theorem dX6_readInto_32 : decode cX6_readInto 32 = .ok (.aload_n 0, 1) := by decide +kernel
theorem dX6_readInto_33 : decode cX6_readInto 33 = .ok (.aload_n 1, 1) := by decide +kernel
theorem dX6_readInto_34 : decode cX6_readInto 34 = .ok (.invokevirtual 40, 3) := by decide +kernel
theorem dX6_readInto_37 : decode cX6_readInto 37 = .ok (.aload_n 0, 1) := by decide +kernel
theorem dX6_readInto_38 : decode cX6_readInto 38 = .ok (.invokevirtual 44, 3) := by decide +kernel
theorem dX6_readInto_41 : decode cX6_readInto 41 = .ok (.aload_n 0, 1) := by decide +kernel
theorem dX6_readInto_42 : decode cX6_readInto 42 = .ok (.getfield 9, 3) := by decide +kernel
theorem dX6_readInto_45 : decode cX6_readInto 45 = .ok (.aload_n 0, 1) := by decide +kernel
theorem dX6_readInto_46 : decode cX6_readInto 46 = .ok (.getfield 21, 3) := by decide +kernel
theorem dX6_readInto_49 : decode cX6_readInto 49 = .ok (.invokevirtual 47, 3) := by decide +kernel
theorem dX6_readInto_52 : decode cX6_readInto 52 = .ok (.if_icmp .ge 7, 3) := by decide +kernel
theorem dX6_readInto_55 : decode cX6_readInto 55 = .ok (.aload_n 0, 1) := by decide +kernel
theorem dX6_readInto_56 : decode cX6_readInto 56 = .ok (.invokevirtual 52, 3) := by decide +kernel
theorem dX6_readInto_59 : decode cX6_readInto 59 = .ok (.aload_n 0, 1) := by decide +kernel
theorem dX6_readInto_60 : decode cX6_readInto 60 = .ok (.getfield 18, 3) := by decide +kernel
theorem dX6_readInto_63 : decode cX6_readInto 63 = .ok (.ireturn, 1) := by decide +kernel
theorem dX6_takeWhatIsOf_0 : decode cX6_takeWhatIsOf 0 = .ok (.aload_n 1, 1) := by decide +kernel
theorem dX6_takeWhatIsOf_1 : decode cX6_takeWhatIsOf 1 = .ok (.getfield 29, 3) := by decide +kernel
theorem dX6_takeWhatIsOf_4 : decode cX6_takeWhatIsOf 4 = .ok (.tableswitch 120 0 6 #[44, 52, 52, 71, 82, 101, 101], 44) := by decide +kernel
theorem dX6_takeWhatIsOf_48 : decode cX6_takeWhatIsOf 48 = .ok (.aload_n 0, 1) := by decide +kernel
theorem dX6_takeWhatIsOf_49 : decode cX6_takeWhatIsOf 49 = .ok (.aload_n 1, 1) := by decide +kernel
theorem dX6_takeWhatIsOf_50 : decode cX6_takeWhatIsOf 50 = .ok (.invokevirtual 55, 3) := by decide +kernel
theorem dX6_takeWhatIsOf_53 : decode cX6_takeWhatIsOf 53 = .ok (.goto 79, 3) := by decide +kernel
theorem dX6_takeWhatIsOf_56 : decode cX6_takeWhatIsOf 56 = .ok (.aload_n 1, 1) := by decide +kernel
theorem dX6_takeWhatIsOf_57 : decode cX6_takeWhatIsOf 57 = .ok (.aload_n 0, 1) := by decide +kernel
theorem dX6_takeWhatIsOf_58 : decode cX6_takeWhatIsOf 58 = .ok (.invokevirtual 34, 3) := by decide +kernel
theorem dX6_takeWhatIsOf_61 : decode cX6_takeWhatIsOf 61 = .ok (.putfield 58, 3) := by decide +kernel
theorem dX6_takeWhatIsOf_64 : decode cX6_takeWhatIsOf 64 = .ok (.aload_n 1, 1) := by decide +kernel
theorem dX6_takeWhatIsOf_65 : decode cX6_takeWhatIsOf 65 = .ok (.aload_n 0, 1) := by decide +kernel
theorem dX6_takeWhatIsOf_66 : decode cX6_takeWhatIsOf 66 = .ok (.invokevirtual 34, 3) := by decide +kernel
theorem dX6_takeWhatIsOf_69 : decode cX6_takeWhatIsOf 69 = .ok (.putfield 61, 3) := by decide +kernel
theorem dX6_takeWhatIsOf_72 : decode cX6_takeWhatIsOf 72 = .ok (.goto 60, 3) := by decide +kernel
theorem dX6_takeWhatIsOf_75 : decode cX6_takeWhatIsOf 75 = .ok (.aload_n 1, 1) := by decide +kernel
theorem dX6_takeWhatIsOf_76 : decode cX6_takeWhatIsOf 76 = .ok (.aload_n 0, 1) := by decide +kernel
theorem dX6_takeWhatIsOf_77 : decode cX6_takeWhatIsOf 77 = .ok (.invokevirtual 34, 3) := by decide +kernel
theorem dX6_takeWhatIsOf_80 : decode cX6_takeWhatIsOf 80 = .ok (.putfield 58, 3) := by decide +kernel
theorem dX6_takeWhatIsOf_83 : decode cX6_takeWhatIsOf 83 = .ok (.goto 49, 3) := by decide +kernel
theorem dX6_takeWhatIsOf_86 : decode cX6_takeWhatIsOf 86 = .ok (.aload_n 1, 1) := by decide +kernel
theorem dX6_takeWhatIsOf_87 : decode cX6_takeWhatIsOf 87 = .ok (.aload_n 0, 1) := by decide +kernel
theorem dX6_takeWhatIsOf_88 : decode cX6_takeWhatIsOf 88 = .ok (.invokevirtual 34, 3) := by decide +kernel
theorem dX6_takeWhatIsOf_91 : decode cX6_takeWhatIsOf 91 = .ok (.putfield 58, 3) := by decide +kernel
theorem dX6_takeWhatIsOf_94 : decode cX6_takeWhatIsOf 94 = .ok (.aload_n 1, 1) := by decide +kernel
theorem dX6_takeWhatIsOf_95 : decode cX6_takeWhatIsOf 95 = .ok (.aload_n 0, 1) := by decide +kernel
theorem dX6_takeWhatIsOf_96 : decode cX6_takeWhatIsOf 96 = .ok (.invokevirtual 64, 3) := by decide +kernel
theorem dX6_takeWhatIsOf_99 : decode cX6_takeWhatIsOf 99 = .ok (.putfield 67, 3) := by decide +kernel
theorem dX6_takeWhatIsOf_102 : decode cX6_takeWhatIsOf 102 = .ok (.goto 30, 3) := by decide +kernel
theorem dX6_takeWhatIsOf_105 : decode cX6_takeWhatIsOf 105 = .ok (.aload_n 1, 1) := by decide +kernel
theorem dX6_takeWhatIsOf_106 : decode cX6_takeWhatIsOf 106 = .ok (.aload_n 0, 1) := by decide +kernel
theorem dX6_takeWhatIsOf_107 : decode cX6_takeWhatIsOf 107 = .ok (.invokevirtual 34, 3) := by decide +kernel
theorem dX6_takeWhatIsOf_110 : decode cX6_takeWhatIsOf 110 = .ok (.putfield 58, 3) := by decide +kernel
theorem dX6_takeWhatIsOf_113 : decode cX6_takeWhatIsOf 113 = .ok (.aload_n 1, 1) := by decide +kernel
theorem dX6_takeWhatIsOf_114 : decode cX6_takeWhatIsOf 114 = .ok (.aload_n 0, 1) := by decide +kernel
theorem dX6_takeWhatIsOf_115 : decode cX6_takeWhatIsOf 115 = .ok (.invokevirtual 34, 3) := by decide +kernel
theorem dX6_takeWhatIsOf_118 : decode cX6_takeWhatIsOf 118 = .ok (.putfield 70, 3) := by decide +kernel
theorem dX6_takeWhatIsOf_121 : decode cX6_takeWhatIsOf 121 = .ok (.goto 11, 3) := by decide +kernel
theorem dX6_takeWhatIsOf_124 : decode cX6_takeWhatIsOf 124 = .ok (.aload_n 1, 1) := by decide +kernel
theorem dX6_takeWhatIsOf_125 : decode cX6_takeWhatIsOf 125 = .ok (.aload_n 0, 1) := by decide +kernel
theorem dX6_takeWhatIsOf_126 : decode cX6_takeWhatIsOf 126 = .ok (.invokevirtual 34, 3) := by decide +kernel
theorem dX6_takeWhatIsOf_129 : decode cX6_takeWhatIsOf 129 = .ok (.putfield 70, 3) := by decide +kernel
theorem dX6_takeWhatIsOf_132 : decode cX6_takeWhatIsOf 132 = .ok (.return_, 1) := by decide +kernel
theorem dX6_takeBirth_0 : decode cX6_takeBirth 0 = .ok (.aload_n 0, 1) := by decide +kernel
theorem dX6_takeBirth_1 : decode cX6_takeBirth 1 = .ok (.invokevirtual 44, 3) := by decide +kernel
theorem dX6_takeBirth_4 : decode cX6_takeBirth 4 = .ok (.aload_n 1, 1) := by decide +kernel
theorem dX6_takeBirth_5 : decode cX6_takeBirth 5 = .ok (.aload_n 0, 1) := by decide +kernel
theorem dX6_takeBirth_6 : decode cX6_takeBirth 6 = .ok (.ldc 73, 2) := by decide +kernel
theorem dX6_takeBirth_8 : decode cX6_takeBirth 8 = .ok (.invokevirtual 75, 3) := by decide +kernel
theorem dX6_takeBirth_11 : decode cX6_takeBirth 11 = .ok (.putfield 79, 3) := by decide +kernel
theorem dX6_takeBirth_14 : decode cX6_takeBirth 14 = .ok (.aload_n 1, 1) := by decide +kernel
theorem dX6_takeBirth_15 : decode cX6_takeBirth 15 = .ok (.getfield 79, 3) := by decide +kernel
theorem dX6_takeBirth_18 : decode cX6_takeBirth 18 = .ok (.ifCond .ne 16, 3) := by decide +kernel
theorem dX6_takeBirth_21 : decode cX6_takeBirth 21 = .ok (.aload_n 0, 1) := by decide +kernel
theorem dX6_takeBirth_22 : decode cX6_takeBirth 22 = .ok (.ldc 82, 2) := by decide +kernel
theorem dX6_takeBirth_24 : decode cX6_takeBirth 24 = .ok (.invokevirtual 75, 3) := by decide +kernel
theorem dX6_takeBirth_27 : decode cX6_takeBirth 27 = .ok (.ifCond .ne 7, 3) := by decide +kernel
theorem dX6_takeBirth_30 : decode cX6_takeBirth 30 = .ok (.aload_n 0, 1) := by decide +kernel
theorem dX6_takeBirth_31 : decode cX6_takeBirth 31 = .ok (.invokevirtual 52, 3) := by decide +kernel
theorem dX6_takeBirth_34 : decode cX6_takeBirth 34 = .ok (.aload_n 0, 1) := by decide +kernel
theorem dX6_takeBirth_35 : decode cX6_takeBirth 35 = .ok (.ldc 84, 2) := by decide +kernel
theorem dX6_takeBirth_37 : decode cX6_takeBirth 37 = .ok (.invokevirtual 86, 3) := by decide +kernel
theorem dX6_takeBirth_40 : decode cX6_takeBirth 40 = .ok (.aload_n 1, 1) := by decide +kernel
theorem dX6_takeBirth_41 : decode cX6_takeBirth 41 = .ok (.aload_n 0, 1) := by decide +kernel
theorem dX6_takeBirth_42 : decode cX6_takeBirth 42 = .ok (.invokevirtual 90, 3) := by decide +kernel
theorem dX6_takeBirth_45 : decode cX6_takeBirth 45 = .ok (.putfield 93, 3) := by decide +kernel
theorem dX6_takeBirth_48 : decode cX6_takeBirth 48 = .ok (.aload_n 0, 1) := by decide +kernel
theorem dX6_takeBirth_49 : decode cX6_takeBirth 49 = .ok (.ldc 96, 2) := by decide +kernel
theorem dX6_takeBirth_51 : decode cX6_takeBirth 51 = .ok (.invokevirtual 86, 3) := by decide +kernel
theorem dX6_takeBirth_54 : decode cX6_takeBirth 54 = .ok (.aload_n 1, 1) := by decide +kernel
theorem dX6_takeBirth_55 : decode cX6_takeBirth 55 = .ok (.aload_n 0, 1) := by decide +kernel
theorem dX6_takeBirth_56 : decode cX6_takeBirth 56 = .ok (.invokevirtual 90, 3) := by decide +kernel
theorem dX6_takeBirth_59 : decode cX6_takeBirth 59 = .ok (.putfield 98, 3) := by decide +kernel
theorem dX6_takeBirth_62 : decode cX6_takeBirth 62 = .ok (.return_, 1) := by decide +kernel
theorem dX6_takeKind_0 : decode cX6_takeKind 0 = .ok (.aload_n 0, 1) := by decide +kernel
theorem dX6_takeKind_1 : decode cX6_takeKind 1 = .ok (.invokevirtual 44, 3) := by decide +kernel
theorem dX6_takeKind_4 : decode cX6_takeKind 4 = .ok (.iconst 0, 1) := by decide +kernel
theorem dX6_takeKind_5 : decode cX6_takeKind 5 = .ok (.istore_n 1, 1) := by decide +kernel
theorem dX6_takeKind_6 : decode cX6_takeKind 6 = .ok (.iload_n 1, 1) := by decide +kernel
theorem dX6_takeKind_7 : decode cX6_takeKind 7 = .ok (.bipush 9, 2) := by decide +kernel
theorem dX6_takeKind_9 : decode cX6_takeKind 9 = .ok (.if_icmp .ge 22, 3) := by decide +kernel
theorem dX6_takeKind_12 : decode cX6_takeKind 12 = .ok (.aload_n 0, 1) := by decide +kernel
theorem dX6_takeKind_13 : decode cX6_takeKind 13 = .ok (.iload_n 1, 1) := by decide +kernel
theorem dX6_takeKind_14 : decode cX6_takeKind 14 = .ok (.invokestatic 101, 3) := by decide +kernel
theorem dX6_takeKind_17 : decode cX6_takeKind 17 = .ok (.invokevirtual 75, 3) := by decide +kernel
theorem dX6_takeKind_20 : decode cX6_takeKind 20 = .ok (.ifCond .eq 5, 3) := by decide +kernel
theorem dX6_takeKind_23 : decode cX6_takeKind 23 = .ok (.iload_n 1, 1) := by decide +kernel
theorem dX6_takeKind_24 : decode cX6_takeKind 24 = .ok (.ireturn, 1) := by decide +kernel
theorem dX6_takeKind_25 : decode cX6_takeKind 25 = .ok (.iinc 1 1, 3) := by decide +kernel
theorem dX6_takeKind_28 : decode cX6_takeKind 28 = .ok (.goto (-22), 3) := by decide +kernel
theorem dX6_takeKind_31 : decode cX6_takeKind 31 = .ok (.aload_n 0, 1) := by decide +kernel
theorem dX6_takeKind_32 : decode cX6_takeKind 32 = .ok (.invokevirtual 52, 3) := by decide +kernel
theorem dX6_takeKind_35 : decode cX6_takeKind 35 = .ok (.iconst (-1), 1) := by decide +kernel
theorem dX6_takeKind_36 : decode cX6_takeKind 36 = .ok (.ireturn, 1) := by decide +kernel
theorem dX6_takeRule_0 : decode cX6_takeRule 0 = .ok (.aload_n 0, 1) := by decide +kernel
theorem dX6_takeRule_1 : decode cX6_takeRule 1 = .ok (.invokevirtual 44, 3) := by decide +kernel
theorem dX6_takeRule_4 : decode cX6_takeRule 4 = .ok (.iconst 0, 1) := by decide +kernel
theorem dX6_takeRule_5 : decode cX6_takeRule 5 = .ok (.istore_n 1, 1) := by decide +kernel
theorem dX6_takeRule_6 : decode cX6_takeRule 6 = .ok (.iload_n 1, 1) := by decide +kernel
theorem dX6_takeRule_7 : decode cX6_takeRule 7 = .ok (.bipush 6, 2) := by decide +kernel
theorem dX6_takeRule_9 : decode cX6_takeRule 9 = .ok (.if_icmp .ge 22, 3) := by decide +kernel
theorem dX6_takeRule_12 : decode cX6_takeRule 12 = .ok (.aload_n 0, 1) := by decide +kernel
theorem dX6_takeRule_13 : decode cX6_takeRule 13 = .ok (.iload_n 1, 1) := by decide +kernel
theorem dX6_takeRule_14 : decode cX6_takeRule 14 = .ok (.invokestatic 105, 3) := by decide +kernel
theorem dX6_takeRule_17 : decode cX6_takeRule 17 = .ok (.invokevirtual 75, 3) := by decide +kernel
theorem dX6_takeRule_20 : decode cX6_takeRule 20 = .ok (.ifCond .eq 5, 3) := by decide +kernel
theorem dX6_takeRule_23 : decode cX6_takeRule 23 = .ok (.iload_n 1, 1) := by decide +kernel
theorem dX6_takeRule_24 : decode cX6_takeRule 24 = .ok (.ireturn, 1) := by decide +kernel
theorem dX6_takeRule_25 : decode cX6_takeRule 25 = .ok (.iinc 1 1, 3) := by decide +kernel
theorem dX6_takeRule_28 : decode cX6_takeRule 28 = .ok (.goto (-22), 3) := by decide +kernel
theorem dX6_takeRule_31 : decode cX6_takeRule 31 = .ok (.aload_n 0, 1) := by decide +kernel
theorem dX6_takeRule_32 : decode cX6_takeRule 32 = .ok (.invokevirtual 52, 3) := by decide +kernel
theorem dX6_takeRule_35 : decode cX6_takeRule 35 = .ok (.iconst (-1), 1) := by decide +kernel
theorem dX6_takeRule_36 : decode cX6_takeRule 36 = .ok (.ireturn, 1) := by decide +kernel
theorem dX6_takeWord_0 : decode cX6_takeWord 0 = .ok (.aload_n 0, 1) := by decide +kernel
theorem dX6_takeWord_1 : decode cX6_takeWord 1 = .ok (.invokevirtual 44, 3) := by decide +kernel
theorem dX6_takeWord_4 : decode cX6_takeWord 4 = .ok (.aload_n 0, 1) := by decide +kernel
theorem dX6_takeWord_5 : decode cX6_takeWord 5 = .ok (.aload_n 1, 1) := by decide +kernel
theorem dX6_takeWord_6 : decode cX6_takeWord 6 = .ok (.invokevirtual 75, 3) := by decide +kernel
theorem dX6_takeWord_9 : decode cX6_takeWord 9 = .ok (.ifCond .ne 7, 3) := by decide +kernel
theorem dX6_takeWord_12 : decode cX6_takeWord 12 = .ok (.aload_n 0, 1) := by decide +kernel
theorem dX6_takeWord_13 : decode cX6_takeWord 13 = .ok (.invokevirtual 52, 3) := by decide +kernel
theorem dX6_takeWord_16 : decode cX6_takeWord 16 = .ok (.return_, 1) := by decide +kernel
theorem dX6_takeParent_0 : decode cX6_takeParent 0 = .ok (.aload_n 0, 1) := by decide +kernel
theorem dX6_takeParent_1 : decode cX6_takeParent 1 = .ok (.invokevirtual 44, 3) := by decide +kernel
theorem dX6_takeParent_4 : decode cX6_takeParent 4 = .ok (.aload_n 0, 1) := by decide +kernel
theorem dX6_takeParent_5 : decode cX6_takeParent 5 = .ok (.ldc 108, 2) := by decide +kernel
theorem dX6_takeParent_7 : decode cX6_takeParent 7 = .ok (.invokevirtual 75, 3) := by decide +kernel
theorem dX6_takeParent_10 : decode cX6_takeParent 10 = .ok (.ifCond .eq 7, 3) := by decide +kernel
theorem dX6_takeParent_13 : decode cX6_takeParent 13 = .ok (.iconst (-1), 1) := by decide +kernel
theorem dX6_takeParent_14 : decode cX6_takeParent 14 = .ok (.goto 7, 3) := by decide +kernel
theorem dX6_takeParent_17 : decode cX6_takeParent 17 = .ok (.aload_n 0, 1) := by decide +kernel
theorem dX6_takeParent_18 : decode cX6_takeParent 18 = .ok (.invokevirtual 110, 3) := by decide +kernel
theorem dX6_takeParent_21 : decode cX6_takeParent 21 = .ok (.ireturn, 1) := by decide +kernel
theorem dX6_takeNumber_0 : decode cX6_takeNumber 0 = .ok (.aload_n 0, 1) := by decide +kernel
theorem dX6_takeNumber_1 : decode cX6_takeNumber 1 = .ok (.invokevirtual 44, 3) := by decide +kernel
theorem dX6_takeNumber_4 : decode cX6_takeNumber 4 = .ok (.aload_n 0, 1) := by decide +kernel
theorem dX6_takeNumber_5 : decode cX6_takeNumber 5 = .ok (.invokevirtual 110, 3) := by decide +kernel
theorem dX6_takeNumber_8 : decode cX6_takeNumber 8 = .ok (.ireturn, 1) := by decide +kernel
theorem dX6_numberAtHand_0 : decode cX6_numberAtHand 0 = .ok (.aload_n 0, 1) := by decide +kernel
theorem dX6_numberAtHand_1 : decode cX6_numberAtHand 1 = .ok (.getfield 15, 3) := by decide +kernel
theorem dX6_numberAtHand_4 : decode cX6_numberAtHand 4 = .ok (.aload_n 0, 1) := by decide +kernel
theorem dX6_numberAtHand_5 : decode cX6_numberAtHand 5 = .ok (.getfield 9, 3) := by decide +kernel
theorem dX6_numberAtHand_8 : decode cX6_numberAtHand 8 = .ok (.isub, 1) := by decide +kernel
theorem dX6_numberAtHand_9 : decode cX6_numberAtHand 9 = .ok (.istore_n 1, 1) := by decide +kernel
theorem dX6_numberAtHand_10 : decode cX6_numberAtHand 10 = .ok (.aload_n 0, 1) := by decide +kernel
theorem dX6_numberAtHand_11 : decode cX6_numberAtHand 11 = .ok (.getfield 21, 3) := by decide +kernel
theorem dX6_numberAtHand_14 : decode cX6_numberAtHand 14 = .ok (.aload_n 0, 1) := by decide +kernel
theorem dX6_numberAtHand_15 : decode cX6_numberAtHand 15 = .ok (.getfield 9, 3) := by decide +kernel
theorem dX6_numberAtHand_18 : decode cX6_numberAtHand 18 = .ok (.invokevirtual 113, 3) := by decide +kernel
theorem dX6_numberAtHand_21 : decode cX6_numberAtHand 21 = .ok (.invokestatic 117, 3) := by decide +kernel
theorem dX6_numberAtHand_24 : decode cX6_numberAtHand 24 = .ok (.ifCond .eq 8, 3) := by decide +kernel
theorem dX6_numberAtHand_27 : decode cX6_numberAtHand 27 = .ok (.iload_n 1, 1) := by decide +kernel
theorem dX6_numberAtHand_28 : decode cX6_numberAtHand 28 = .ok (.iconst 5, 1) := by decide +kernel
theorem dX6_numberAtHand_29 : decode cX6_numberAtHand 29 = .ok (.if_icmp .le 9, 3) := by decide +kernel
theorem dX6_numberAtHand_32 : decode cX6_numberAtHand 32 = .ok (.aload_n 0, 1) := by decide +kernel
theorem dX6_numberAtHand_33 : decode cX6_numberAtHand 33 = .ok (.invokevirtual 52, 3) := by decide +kernel
theorem dX6_numberAtHand_36 : decode cX6_numberAtHand 36 = .ok (.iconst (-1), 1) := by decide +kernel
theorem dX6_numberAtHand_37 : decode cX6_numberAtHand 37 = .ok (.ireturn, 1) := by decide +kernel
theorem dX6_numberAtHand_38 : decode cX6_numberAtHand 38 = .ok (.iconst 0, 1) := by decide +kernel
theorem dX6_numberAtHand_39 : decode cX6_numberAtHand 39 = .ok (.istore_n 2, 1) := by decide +kernel
theorem dX6_numberAtHand_40 : decode cX6_numberAtHand 40 = .ok (.aload_n 0, 1) := by decide +kernel
theorem dX6_numberAtHand_41 : decode cX6_numberAtHand 41 = .ok (.getfield 9, 3) := by decide +kernel
theorem dX6_numberAtHand_44 : decode cX6_numberAtHand 44 = .ok (.istore_n 3, 1) := by decide +kernel
theorem dX6_numberAtHand_45 : decode cX6_numberAtHand 45 = .ok (.iload_n 3, 1) := by decide +kernel
theorem dX6_numberAtHand_46 : decode cX6_numberAtHand 46 = .ok (.aload_n 0, 1) := by decide +kernel
theorem dX6_numberAtHand_47 : decode cX6_numberAtHand 47 = .ok (.getfield 15, 3) := by decide +kernel
theorem dX6_numberAtHand_50 : decode cX6_numberAtHand 50 = .ok (.if_icmp .ge 26, 3) := by decide +kernel
theorem dX6_numberAtHand_53 : decode cX6_numberAtHand 53 = .ok (.bipush 10, 2) := by decide +kernel
theorem dX6_numberAtHand_55 : decode cX6_numberAtHand 55 = .ok (.iload_n 2, 1) := by decide +kernel
theorem dX6_numberAtHand_56 : decode cX6_numberAtHand 56 = .ok (.imul, 1) := by decide +kernel
theorem dX6_numberAtHand_57 : decode cX6_numberAtHand 57 = .ok (.aload_n 0, 1) := by decide +kernel
theorem dX6_numberAtHand_58 : decode cX6_numberAtHand 58 = .ok (.getfield 21, 3) := by decide +kernel
theorem dX6_numberAtHand_61 : decode cX6_numberAtHand 61 = .ok (.iload_n 3, 1) := by decide +kernel
theorem dX6_numberAtHand_62 : decode cX6_numberAtHand 62 = .ok (.invokevirtual 113, 3) := by decide +kernel
theorem dX6_numberAtHand_65 : decode cX6_numberAtHand 65 = .ok (.iadd, 1) := by decide +kernel
theorem dX6_numberAtHand_66 : decode cX6_numberAtHand 66 = .ok (.bipush 48, 2) := by decide +kernel
theorem dX6_numberAtHand_68 : decode cX6_numberAtHand 68 = .ok (.isub, 1) := by decide +kernel
theorem dX6_numberAtHand_69 : decode cX6_numberAtHand 69 = .ok (.istore_n 2, 1) := by decide +kernel
theorem dX6_numberAtHand_70 : decode cX6_numberAtHand 70 = .ok (.iinc 3 1, 3) := by decide +kernel
theorem dX6_numberAtHand_73 : decode cX6_numberAtHand 73 = .ok (.goto (-28), 3) := by decide +kernel
theorem dX6_numberAtHand_76 : decode cX6_numberAtHand 76 = .ok (.iload_n 2, 1) := by decide +kernel
theorem dX6_numberAtHand_77 : decode cX6_numberAtHand 77 = .ok (.ireturn, 1) := by decide +kernel
theorem dX6_next_0 : decode cX6_next 0 = .ok (.aload_n 0, 1) := by decide +kernel
theorem dX6_next_1 : decode cX6_next 1 = .ok (.aload_n 0, 1) := by decide +kernel
theorem dX6_next_2 : decode cX6_next 2 = .ok (.getfield 15, 3) := by decide +kernel
theorem dX6_next_5 : decode cX6_next 5 = .ok (.putfield 9, 3) := by decide +kernel
theorem dX6_next_8 : decode cX6_next 8 = .ok (.aload_n 0, 1) := by decide +kernel
theorem dX6_next_9 : decode cX6_next 9 = .ok (.getfield 9, 3) := by decide +kernel
theorem dX6_next_12 : decode cX6_next 12 = .ok (.aload_n 0, 1) := by decide +kernel
theorem dX6_next_13 : decode cX6_next 13 = .ok (.getfield 21, 3) := by decide +kernel
theorem dX6_next_16 : decode cX6_next 16 = .ok (.invokevirtual 47, 3) := by decide +kernel
theorem dX6_next_19 : decode cX6_next 19 = .ok (.if_icmp .ge 32, 3) := by decide +kernel
theorem dX6_next_22 : decode cX6_next 22 = .ok (.aload_n 0, 1) := by decide +kernel
theorem dX6_next_23 : decode cX6_next 23 = .ok (.getfield 21, 3) := by decide +kernel
theorem dX6_next_26 : decode cX6_next 26 = .ok (.aload_n 0, 1) := by decide +kernel
theorem dX6_next_27 : decode cX6_next 27 = .ok (.getfield 9, 3) := by decide +kernel
theorem dX6_next_30 : decode cX6_next 30 = .ok (.invokevirtual 113, 3) := by decide +kernel
theorem dX6_next_33 : decode cX6_next 33 = .ok (.bipush 32, 2) := by decide +kernel
theorem dX6_next_35 : decode cX6_next 35 = .ok (.if_icmp .ne 16, 3) := by decide +kernel
theorem dX6_next_38 : decode cX6_next 38 = .ok (.aload_n 0, 1) := by decide +kernel
theorem dX6_next_39 : decode cX6_next 39 = .ok (.dup, 1) := by decide +kernel
theorem dX6_next_40 : decode cX6_next 40 = .ok (.getfield 9, 3) := by decide +kernel
theorem dX6_next_43 : decode cX6_next 43 = .ok (.iconst 1, 1) := by decide +kernel
theorem dX6_next_44 : decode cX6_next 44 = .ok (.iadd, 1) := by decide +kernel
theorem dX6_next_45 : decode cX6_next 45 = .ok (.putfield 9, 3) := by decide +kernel
theorem dX6_next_48 : decode cX6_next 48 = .ok (.goto (-40), 3) := by decide +kernel
theorem dX6_next_51 : decode cX6_next 51 = .ok (.aload_n 0, 1) := by decide +kernel
theorem dX6_next_52 : decode cX6_next 52 = .ok (.aload_n 0, 1) := by decide +kernel
theorem dX6_next_53 : decode cX6_next 53 = .ok (.getfield 9, 3) := by decide +kernel
theorem dX6_next_56 : decode cX6_next 56 = .ok (.putfield 15, 3) := by decide +kernel
theorem dX6_next_59 : decode cX6_next 59 = .ok (.aload_n 0, 1) := by decide +kernel
theorem dX6_next_60 : decode cX6_next 60 = .ok (.getfield 21, 3) := by decide +kernel
theorem dX6_next_63 : decode cX6_next 63 = .ok (.aload_n 0, 1) := by decide +kernel
theorem dX6_next_64 : decode cX6_next 64 = .ok (.getfield 9, 3) := by decide +kernel
theorem dX6_next_67 : decode cX6_next 67 = .ok (.invokevirtual 113, 3) := by decide +kernel
theorem dX6_next_70 : decode cX6_next 70 = .ok (.invokestatic 121, 3) := by decide +kernel
theorem dX6_next_73 : decode cX6_next 73 = .ok (.ifCond .eq 47, 3) := by decide +kernel
theorem dX6_next_76 : decode cX6_next 76 = .ok (.aload_n 0, 1) := by decide +kernel
theorem dX6_next_77 : decode cX6_next 77 = .ok (.getfield 15, 3) := by decide +kernel
theorem dX6_next_80 : decode cX6_next 80 = .ok (.aload_n 0, 1) := by decide +kernel
theorem dX6_next_81 : decode cX6_next 81 = .ok (.getfield 21, 3) := by decide +kernel
theorem dX6_next_84 : decode cX6_next 84 = .ok (.invokevirtual 47, 3) := by decide +kernel
theorem dX6_next_87 : decode cX6_next 87 = .ok (.if_icmp .ge 77, 3) := by decide +kernel
theorem dX6_next_90 : decode cX6_next 90 = .ok (.aload_n 0, 1) := by decide +kernel
theorem dX6_next_91 : decode cX6_next 91 = .ok (.getfield 21, 3) := by decide +kernel
theorem dX6_next_94 : decode cX6_next 94 = .ok (.aload_n 0, 1) := by decide +kernel
theorem dX6_next_95 : decode cX6_next 95 = .ok (.getfield 15, 3) := by decide +kernel
theorem dX6_next_98 : decode cX6_next 98 = .ok (.invokevirtual 113, 3) := by decide +kernel
theorem dX6_next_101 : decode cX6_next 101 = .ok (.invokestatic 121, 3) := by decide +kernel
theorem dX6_next_104 : decode cX6_next 104 = .ok (.ifCond .eq 60, 3) := by decide +kernel
theorem dX6_next_107 : decode cX6_next 107 = .ok (.aload_n 0, 1) := by decide +kernel
theorem dX6_next_108 : decode cX6_next 108 = .ok (.dup, 1) := by decide +kernel
theorem dX6_next_109 : decode cX6_next 109 = .ok (.getfield 15, 3) := by decide +kernel
theorem dX6_next_112 : decode cX6_next 112 = .ok (.iconst 1, 1) := by decide +kernel
theorem dX6_next_113 : decode cX6_next 113 = .ok (.iadd, 1) := by decide +kernel
theorem dX6_next_114 : decode cX6_next 114 = .ok (.putfield 15, 3) := by decide +kernel
theorem dX6_next_117 : decode cX6_next 117 = .ok (.goto (-41), 3) := by decide +kernel
theorem dX6_next_120 : decode cX6_next 120 = .ok (.aload_n 0, 1) := by decide +kernel
theorem dX6_next_121 : decode cX6_next 121 = .ok (.getfield 15, 3) := by decide +kernel
theorem dX6_next_124 : decode cX6_next 124 = .ok (.aload_n 0, 1) := by decide +kernel
theorem dX6_next_125 : decode cX6_next 125 = .ok (.getfield 21, 3) := by decide +kernel
theorem dX6_next_128 : decode cX6_next 128 = .ok (.invokevirtual 47, 3) := by decide +kernel
theorem dX6_next_131 : decode cX6_next 131 = .ok (.if_icmp .ge 33, 3) := by decide +kernel
theorem dX6_next_134 : decode cX6_next 134 = .ok (.aload_n 0, 1) := by decide +kernel
theorem dX6_next_135 : decode cX6_next 135 = .ok (.getfield 21, 3) := by decide +kernel
theorem dX6_next_138 : decode cX6_next 138 = .ok (.aload_n 0, 1) := by decide +kernel
theorem dX6_next_139 : decode cX6_next 139 = .ok (.getfield 15, 3) := by decide +kernel
theorem dX6_next_142 : decode cX6_next 142 = .ok (.invokevirtual 113, 3) := by decide +kernel
theorem dX6_next_145 : decode cX6_next 145 = .ok (.invokestatic 117, 3) := by decide +kernel
theorem dX6_next_148 : decode cX6_next 148 = .ok (.ifCond .eq 16, 3) := by decide +kernel
theorem dX6_next_151 : decode cX6_next 151 = .ok (.aload_n 0, 1) := by decide +kernel
theorem dX6_next_152 : decode cX6_next 152 = .ok (.dup, 1) := by decide +kernel
theorem dX6_next_153 : decode cX6_next 153 = .ok (.getfield 15, 3) := by decide +kernel
theorem dX6_next_156 : decode cX6_next 156 = .ok (.iconst 1, 1) := by decide +kernel
theorem dX6_next_157 : decode cX6_next 157 = .ok (.iadd, 1) := by decide +kernel
theorem dX6_next_158 : decode cX6_next 158 = .ok (.putfield 15, 3) := by decide +kernel
theorem dX6_next_161 : decode cX6_next 161 = .ok (.goto (-41), 3) := by decide +kernel
theorem dX6_next_164 : decode cX6_next 164 = .ok (.return_, 1) := by decide +kernel
theorem dX6_isWord_0 : decode cX6_isWord 0 = .ok (.aload_n 0, 1) := by decide +kernel
theorem dX6_isWord_1 : decode cX6_isWord 1 = .ok (.getfield 15, 3) := by decide +kernel
theorem dX6_isWord_4 : decode cX6_isWord 4 = .ok (.aload_n 0, 1) := by decide +kernel
theorem dX6_isWord_5 : decode cX6_isWord 5 = .ok (.getfield 9, 3) := by decide +kernel
theorem dX6_isWord_8 : decode cX6_isWord 8 = .ok (.isub, 1) := by decide +kernel
theorem dX6_isWord_9 : decode cX6_isWord 9 = .ok (.aload_n 1, 1) := by decide +kernel
theorem dX6_isWord_10 : decode cX6_isWord 10 = .ok (.invokevirtual 124, 3) := by decide +kernel
theorem dX6_isWord_13 : decode cX6_isWord 13 = .ok (.if_icmp .eq 5, 3) := by decide +kernel
theorem dX6_isWord_16 : decode cX6_isWord 16 = .ok (.iconst 0, 1) := by decide +kernel
theorem dX6_isWord_17 : decode cX6_isWord 17 = .ok (.ireturn, 1) := by decide +kernel
theorem dX6_isWord_18 : decode cX6_isWord 18 = .ok (.iconst 0, 1) := by decide +kernel
theorem dX6_isWord_19 : decode cX6_isWord 19 = .ok (.istore_n 2, 1) := by decide +kernel
theorem dX6_isWord_20 : decode cX6_isWord 20 = .ok (.iload_n 2, 1) := by decide +kernel
theorem dX6_isWord_21 : decode cX6_isWord 21 = .ok (.aload_n 1, 1) := by decide +kernel
theorem dX6_isWord_22 : decode cX6_isWord 22 = .ok (.invokevirtual 124, 3) := by decide +kernel
theorem dX6_isWord_25 : decode cX6_isWord 25 = .ok (.if_icmp .ge 32, 3) := by decide +kernel
theorem dX6_isWord_28 : decode cX6_isWord 28 = .ok (.aload_n 0, 1) := by decide +kernel
theorem dX6_isWord_29 : decode cX6_isWord 29 = .ok (.getfield 21, 3) := by decide +kernel
theorem dX6_isWord_32 : decode cX6_isWord 32 = .ok (.aload_n 0, 1) := by decide +kernel
theorem dX6_isWord_33 : decode cX6_isWord 33 = .ok (.getfield 9, 3) := by decide +kernel
theorem dX6_isWord_36 : decode cX6_isWord 36 = .ok (.iload_n 2, 1) := by decide +kernel
theorem dX6_isWord_37 : decode cX6_isWord 37 = .ok (.iadd, 1) := by decide +kernel
theorem dX6_isWord_38 : decode cX6_isWord 38 = .ok (.invokevirtual 113, 3) := by decide +kernel
theorem dX6_isWord_41 : decode cX6_isWord 41 = .ok (.aload_n 1, 1) := by decide +kernel
theorem dX6_isWord_42 : decode cX6_isWord 42 = .ok (.iload_n 2, 1) := by decide +kernel
theorem dX6_isWord_43 : decode cX6_isWord 43 = .ok (.invokevirtual 129, 3) := by decide +kernel
theorem dX6_isWord_46 : decode cX6_isWord 46 = .ok (.if_icmp .eq 5, 3) := by decide +kernel
theorem dX6_isWord_49 : decode cX6_isWord 49 = .ok (.iconst 0, 1) := by decide +kernel
theorem dX6_isWord_50 : decode cX6_isWord 50 = .ok (.ireturn, 1) := by decide +kernel
theorem dX6_isWord_51 : decode cX6_isWord 51 = .ok (.iinc 2 1, 3) := by decide +kernel
theorem dX6_isWord_54 : decode cX6_isWord 54 = .ok (.goto (-34), 3) := by decide +kernel
theorem dX6_isWord_57 : decode cX6_isWord 57 = .ok (.iconst 1, 1) := by decide +kernel
theorem dX6_isWord_58 : decode cX6_isWord 58 = .ok (.ireturn, 1) := by decide +kernel
theorem dX6_fail_0 : decode cX6_fail 0 = .ok (.aload_n 0, 1) := by decide +kernel
theorem dX6_fail_1 : decode cX6_fail 1 = .ok (.getfield 18, 3) := by decide +kernel
theorem dX6_fail_4 : decode cX6_fail 4 = .ok (.bipush (-9), 2) := by decide +kernel
theorem dX6_fail_6 : decode cX6_fail 6 = .ok (.if_icmp .ne 11, 3) := by decide +kernel
theorem dX6_fail_9 : decode cX6_fail 9 = .ok (.aload_n 0, 1) := by decide +kernel
theorem dX6_fail_10 : decode cX6_fail 10 = .ok (.aload_n 0, 1) := by decide +kernel
theorem dX6_fail_11 : decode cX6_fail 11 = .ok (.getfield 9, 3) := by decide +kernel
theorem dX6_fail_14 : decode cX6_fail 14 = .ok (.putfield 18, 3) := by decide +kernel
theorem dX6_fail_17 : decode cX6_fail 17 = .ok (.return_, 1) := by decide +kernel
theorem dX6_isLetter_0 : decode cX6_isLetter 0 = .ok (.iload_n 0, 1) := by decide +kernel
theorem dX6_isLetter_1 : decode cX6_isLetter 1 = .ok (.bipush 97, 2) := by decide +kernel
theorem dX6_isLetter_3 : decode cX6_isLetter 3 = .ok (.if_icmp .lt 13, 3) := by decide +kernel
theorem dX6_isLetter_6 : decode cX6_isLetter 6 = .ok (.iload_n 0, 1) := by decide +kernel
theorem dX6_isLetter_7 : decode cX6_isLetter 7 = .ok (.bipush 122, 2) := by decide +kernel
theorem dX6_isLetter_9 : decode cX6_isLetter 9 = .ok (.if_icmp .gt 7, 3) := by decide +kernel
theorem dX6_isLetter_12 : decode cX6_isLetter 12 = .ok (.iconst 1, 1) := by decide +kernel
theorem dX6_isLetter_13 : decode cX6_isLetter 13 = .ok (.goto 4, 3) := by decide +kernel
theorem dX6_isLetter_16 : decode cX6_isLetter 16 = .ok (.iconst 0, 1) := by decide +kernel
theorem dX6_isLetter_17 : decode cX6_isLetter 17 = .ok (.ireturn, 1) := by decide +kernel
theorem dX6_isDigit_0 : decode cX6_isDigit 0 = .ok (.iload_n 0, 1) := by decide +kernel
theorem dX6_isDigit_1 : decode cX6_isDigit 1 = .ok (.bipush 48, 2) := by decide +kernel
theorem dX6_isDigit_3 : decode cX6_isDigit 3 = .ok (.if_icmp .lt 13, 3) := by decide +kernel
theorem dX6_isDigit_6 : decode cX6_isDigit 6 = .ok (.iload_n 0, 1) := by decide +kernel
theorem dX6_isDigit_7 : decode cX6_isDigit 7 = .ok (.bipush 57, 2) := by decide +kernel
theorem dX6_isDigit_9 : decode cX6_isDigit 9 = .ok (.if_icmp .gt 7, 3) := by decide +kernel
theorem dX6_isDigit_12 : decode cX6_isDigit 12 = .ok (.iconst 1, 1) := by decide +kernel
theorem dX6_isDigit_13 : decode cX6_isDigit 13 = .ok (.goto 4, 3) := by decide +kernel
theorem dX6_isDigit_16 : decode cX6_isDigit 16 = .ok (.iconst 0, 1) := by decide +kernel
theorem dX6_isDigit_17 : decode cX6_isDigit 17 = .ok (.ireturn, 1) := by decide +kernel
theorem dX6_kindWord_0 : decode cX6_kindWord 0 = .ok (.iload_n 0, 1) := by decide +kernel
theorem dX6_kindWord_1 : decode cX6_kindWord 1 = .ok (.tableswitch 71 0 7 #[47, 50, 53, 56, 59, 62, 65, 68], 47) := by decide +kernel
theorem dX6_kindWord_48 : decode cX6_kindWord 48 = .ok (.ldc 133, 2) := by decide +kernel
theorem dX6_kindWord_50 : decode cX6_kindWord 50 = .ok (.areturn, 1) := by decide +kernel
theorem dX6_kindWord_51 : decode cX6_kindWord 51 = .ok (.ldc 135, 2) := by decide +kernel
theorem dX6_kindWord_53 : decode cX6_kindWord 53 = .ok (.areturn, 1) := by decide +kernel
theorem dX6_kindWord_54 : decode cX6_kindWord 54 = .ok (.ldc 137, 2) := by decide +kernel
theorem dX6_kindWord_56 : decode cX6_kindWord 56 = .ok (.areturn, 1) := by decide +kernel
theorem dX6_kindWord_57 : decode cX6_kindWord 57 = .ok (.ldc 139, 2) := by decide +kernel
theorem dX6_kindWord_59 : decode cX6_kindWord 59 = .ok (.areturn, 1) := by decide +kernel
theorem dX6_kindWord_60 : decode cX6_kindWord 60 = .ok (.ldc 141, 2) := by decide +kernel
theorem dX6_kindWord_62 : decode cX6_kindWord 62 = .ok (.areturn, 1) := by decide +kernel
theorem dX6_kindWord_63 : decode cX6_kindWord 63 = .ok (.ldc 142, 2) := by decide +kernel
theorem dX6_kindWord_65 : decode cX6_kindWord 65 = .ok (.areturn, 1) := by decide +kernel
theorem dX6_kindWord_66 : decode cX6_kindWord 66 = .ok (.ldc 144, 2) := by decide +kernel
theorem dX6_kindWord_68 : decode cX6_kindWord 68 = .ok (.areturn, 1) := by decide +kernel
theorem dX6_kindWord_69 : decode cX6_kindWord 69 = .ok (.ldc 146, 2) := by decide +kernel
theorem dX6_kindWord_71 : decode cX6_kindWord 71 = .ok (.areturn, 1) := by decide +kernel
theorem dX6_kindWord_72 : decode cX6_kindWord 72 = .ok (.ldc 148, 2) := by decide +kernel
theorem dX6_kindWord_74 : decode cX6_kindWord 74 = .ok (.areturn, 1) := by decide +kernel
theorem dX6_ruleWord_0 : decode cX6_ruleWord 0 = .ok (.iload_n 0, 1) := by decide +kernel
theorem dX6_ruleWord_1 : decode cX6_ruleWord 1 = .ok (.tableswitch 50 0 4 #[35, 38, 41, 44, 47], 35) := by decide +kernel
theorem dX6_ruleWord_36 : decode cX6_ruleWord 36 = .ok (.ldc 73, 2) := by decide +kernel
theorem dX6_ruleWord_38 : decode cX6_ruleWord 38 = .ok (.areturn, 1) := by decide +kernel
theorem dX6_ruleWord_39 : decode cX6_ruleWord 39 = .ok (.ldc 150, 2) := by decide +kernel
theorem dX6_ruleWord_41 : decode cX6_ruleWord 41 = .ok (.areturn, 1) := by decide +kernel
theorem dX6_ruleWord_42 : decode cX6_ruleWord 42 = .ok (.ldc 152, 2) := by decide +kernel
theorem dX6_ruleWord_44 : decode cX6_ruleWord 44 = .ok (.areturn, 1) := by decide +kernel
theorem dX6_ruleWord_45 : decode cX6_ruleWord 45 = .ok (.ldc 154, 2) := by decide +kernel
theorem dX6_ruleWord_47 : decode cX6_ruleWord 47 = .ok (.areturn, 1) := by decide +kernel
theorem dX6_ruleWord_48 : decode cX6_ruleWord 48 = .ok (.ldc 156, 2) := by decide +kernel
theorem dX6_ruleWord_50 : decode cX6_ruleWord 50 = .ok (.areturn, 1) := by decide +kernel
theorem dX6_ruleWord_51 : decode cX6_ruleWord 51 = .ok (.ldc 158, 2) := by decide +kernel
theorem dX6_ruleWord_53 : decode cX6_ruleWord 53 = .ok (.areturn, 1) := by decide +kernel
theorem dX7_init_0 : decode cX7_init 0 = .ok (.aload_n 0, 1) := by decide +kernel
theorem dX7_init_1 : decode cX7_init 1 = .ok (.invokespecial 3, 3) := by decide +kernel
theorem dX7_init_4 : decode cX7_init 4 = .ok (.aload_n 0, 1) := by decide +kernel
theorem dX7_init_5 : decode cX7_init 5 = .ok (.sipush 200, 3) := by decide +kernel
theorem dX7_init_8 : decode cX7_init 8 = .ok (.anewarray 9, 3) := by decide +kernel
theorem dX7_init_11 : decode cX7_init 11 = .ok (.putfield 11, 3) := by decide +kernel
theorem dX7_init_14 : decode cX7_init 14 = .ok (.aload_n 0, 1) := by decide +kernel
theorem dX7_init_15 : decode cX7_init 15 = .ok (.bipush 64, 2) := by decide +kernel
theorem dX7_init_17 : decode cX7_init 17 = .ok (.anewarray 9, 3) := by decide +kernel
theorem dX7_init_20 : decode cX7_init 20 = .ok (.putfield 17, 3) := by decide +kernel
theorem dX7_init_23 : decode cX7_init 23 = .ok (.aload_n 0, 1) := by decide +kernel
theorem dX7_init_24 : decode cX7_init 24 = .ok (.bipush 8, 2) := by decide +kernel
theorem dX7_init_26 : decode cX7_init 26 = .ok (.anewarray 9, 3) := by decide +kernel
theorem dX7_init_29 : decode cX7_init 29 = .ok (.putfield 20, 3) := by decide +kernel
theorem dX7_init_32 : decode cX7_init 32 = .ok (.aload_n 0, 1) := by decide +kernel
theorem dX7_init_33 : decode cX7_init 33 = .ok (.iconst 0, 1) := by decide +kernel
theorem dX7_init_34 : decode cX7_init 34 = .ok (.putfield 23, 3) := by decide +kernel
theorem dX7_init_37 : decode cX7_init 37 = .ok (.aload_n 0, 1) := by decide +kernel
theorem dX7_init_38 : decode cX7_init 38 = .ok (.iconst 0, 1) := by decide +kernel
theorem dX7_init_39 : decode cX7_init 39 = .ok (.putfield 27, 3) := by decide +kernel
theorem dX7_init_42 : decode cX7_init 42 = .ok (.aload_n 0, 1) := by decide +kernel
theorem dX7_init_43 : decode cX7_init 43 = .ok (.iconst 0, 1) := by decide +kernel
theorem dX7_init_44 : decode cX7_init 44 = .ok (.putfield 30, 3) := by decide +kernel
theorem dX7_init_47 : decode cX7_init 47 = .ok (.return_, 1) := by decide +kernel
theorem dX7_size_0 : decode cX7_size 0 = .ok (.aload_n 0, 1) := by decide +kernel
theorem dX7_size_1 : decode cX7_size 1 = .ok (.getfield 23, 3) := by decide +kernel
theorem dX7_size_4 : decode cX7_size 4 = .ok (.ireturn, 1) := by decide +kernel
theorem dX7_taken_0 : decode cX7_taken 0 = .ok (.iload_n 1, 1) := by decide +kernel
theorem dX7_taken_1 : decode cX7_taken 1 = .ok (.ifCond .lt 20, 3) := by decide +kernel
theorem dX7_taken_4 : decode cX7_taken 4 = .ok (.iload_n 1, 1) := by decide +kernel
theorem dX7_taken_5 : decode cX7_taken 5 = .ok (.aload_n 0, 1) := by decide +kernel
theorem dX7_taken_6 : decode cX7_taken 6 = .ok (.getfield 23, 3) := by decide +kernel
theorem dX7_taken_9 : decode cX7_taken 9 = .ok (.if_icmp .ge 12, 3) := by decide +kernel
theorem dX7_taken_12 : decode cX7_taken 12 = .ok (.aload_n 0, 1) := by decide +kernel
theorem dX7_taken_13 : decode cX7_taken 13 = .ok (.getfield 11, 3) := by decide +kernel
theorem dX7_taken_16 : decode cX7_taken 16 = .ok (.iload_n 1, 1) := by decide +kernel
theorem dX7_taken_17 : decode cX7_taken 17 = .ok (.aaload, 1) := by decide +kernel
theorem dX7_taken_18 : decode cX7_taken 18 = .ok (.goto 4, 3) := by decide +kernel
theorem dX7_taken_21 : decode cX7_taken 21 = .ok (.aconst_null, 1) := by decide +kernel
theorem dX7_taken_22 : decode cX7_taken 22 = .ok (.areturn, 1) := by decide +kernel
theorem dX7_standing_0 : decode cX7_standing 0 = .ok (.aload_n 0, 1) := by decide +kernel
theorem dX7_standing_1 : decode cX7_standing 1 = .ok (.iload_n 1, 1) := by decide +kernel
theorem dX7_standing_2 : decode cX7_standing 2 = .ok (.invokevirtual 33, 3) := by decide +kernel
theorem dX7_standing_5 : decode cX7_standing 5 = .ok (.astore_n 2, 1) := by decide +kernel
theorem dX7_standing_6 : decode cX7_standing 6 = .ok (.aload_n 2, 1) := by decide +kernel
theorem dX7_standing_7 : decode cX7_standing 7 = .ok (.ifnull 14, 3) := by decide +kernel
theorem dX7_standing_10 : decode cX7_standing 10 = .ok (.aload_n 2, 1) := by decide +kernel
theorem dX7_standing_11 : decode cX7_standing 11 = .ok (.getfield 37, 3) := by decide +kernel
theorem dX7_standing_14 : decode cX7_standing 14 = .ok (.ifCond .eq 7, 3) := by decide +kernel
theorem dX7_standing_17 : decode cX7_standing 17 = .ok (.aload_n 2, 1) := by decide +kernel
theorem dX7_standing_18 : decode cX7_standing 18 = .ok (.goto 4, 3) := by decide +kernel
theorem dX7_standing_21 : decode cX7_standing 21 = .ok (.aconst_null, 1) := by decide +kernel
theorem dX7_standing_22 : decode cX7_standing 22 = .ok (.areturn, 1) := by decide +kernel
theorem dX7_hasPerson_0 : decode cX7_hasPerson 0 = .ok (.iload_n 1, 1) := by decide +kernel
theorem dX7_hasPerson_1 : decode cX7_hasPerson 1 = .ok (.ifCond .lt 36, 3) := by decide +kernel
theorem dX7_hasPerson_4 : decode cX7_hasPerson 4 = .ok (.iload_n 1, 1) := by decide +kernel
theorem dX7_hasPerson_5 : decode cX7_hasPerson 5 = .ok (.aload_n 0, 1) := by decide +kernel
theorem dX7_hasPerson_6 : decode cX7_hasPerson 6 = .ok (.getfield 27, 3) := by decide +kernel
theorem dX7_hasPerson_9 : decode cX7_hasPerson 9 = .ok (.if_icmp .ge 28, 3) := by decide +kernel
theorem dX7_hasPerson_12 : decode cX7_hasPerson 12 = .ok (.aload_n 0, 1) := by decide +kernel
theorem dX7_hasPerson_13 : decode cX7_hasPerson 13 = .ok (.getfield 17, 3) := by decide +kernel
theorem dX7_hasPerson_16 : decode cX7_hasPerson 16 = .ok (.iload_n 1, 1) := by decide +kernel
theorem dX7_hasPerson_17 : decode cX7_hasPerson 17 = .ok (.aaload, 1) := by decide +kernel
theorem dX7_hasPerson_18 : decode cX7_hasPerson 18 = .ok (.ifnull 19, 3) := by decide +kernel
theorem dX7_hasPerson_21 : decode cX7_hasPerson 21 = .ok (.aload_n 0, 1) := by decide +kernel
theorem dX7_hasPerson_22 : decode cX7_hasPerson 22 = .ok (.getfield 17, 3) := by decide +kernel
theorem dX7_hasPerson_25 : decode cX7_hasPerson 25 = .ok (.iload_n 1, 1) := by decide +kernel
theorem dX7_hasPerson_26 : decode cX7_hasPerson 26 = .ok (.aaload, 1) := by decide +kernel
theorem dX7_hasPerson_27 : decode cX7_hasPerson 27 = .ok (.getfield 37, 3) := by decide +kernel
theorem dX7_hasPerson_30 : decode cX7_hasPerson 30 = .ok (.ifCond .eq 7, 3) := by decide +kernel
theorem dX7_hasPerson_33 : decode cX7_hasPerson 33 = .ok (.iconst 1, 1) := by decide +kernel
theorem dX7_hasPerson_34 : decode cX7_hasPerson 34 = .ok (.goto 4, 3) := by decide +kernel
theorem dX7_hasPerson_37 : decode cX7_hasPerson 37 = .ok (.iconst 0, 1) := by decide +kernel
theorem dX7_hasPerson_38 : decode cX7_hasPerson 38 = .ok (.ireturn, 1) := by decide +kernel
theorem dX7_hasTitle_0 : decode cX7_hasTitle 0 = .ok (.aload_n 0, 1) := by decide +kernel
theorem dX7_hasTitle_1 : decode cX7_hasTitle 1 = .ok (.iload_n 1, 1) := by decide +kernel
theorem dX7_hasTitle_2 : decode cX7_hasTitle 2 = .ok (.invokevirtual 44, 3) := by decide +kernel
theorem dX7_hasTitle_5 : decode cX7_hasTitle 5 = .ok (.ifnull 7, 3) := by decide +kernel
theorem dX7_hasTitle_8 : decode cX7_hasTitle 8 = .ok (.iconst 1, 1) := by decide +kernel
theorem dX7_hasTitle_9 : decode cX7_hasTitle 9 = .ok (.goto 4, 3) := by decide +kernel
theorem dX7_hasTitle_12 : decode cX7_hasTitle 12 = .ok (.iconst 0, 1) := by decide +kernel
theorem dX7_hasTitle_13 : decode cX7_hasTitle 13 = .ok (.ireturn, 1) := by decide +kernel
theorem dX7_grantOf_0 : decode cX7_grantOf 0 = .ok (.iload_n 1, 1) := by decide +kernel
theorem dX7_grantOf_1 : decode cX7_grantOf 1 = .ok (.ifCond .lt 11, 3) := by decide +kernel
theorem dX7_grantOf_4 : decode cX7_grantOf 4 = .ok (.iload_n 1, 1) := by decide +kernel
theorem dX7_grantOf_5 : decode cX7_grantOf 5 = .ok (.aload_n 0, 1) := by decide +kernel
theorem dX7_grantOf_6 : decode cX7_grantOf 6 = .ok (.getfield 30, 3) := by decide +kernel
theorem dX7_grantOf_9 : decode cX7_grantOf 9 = .ok (.if_icmp .lt 5, 3) := by decide +kernel
theorem dX7_grantOf_12 : decode cX7_grantOf 12 = .ok (.aconst_null, 1) := by decide +kernel
theorem dX7_grantOf_13 : decode cX7_grantOf 13 = .ok (.areturn, 1) := by decide +kernel
theorem dX7_grantOf_14 : decode cX7_grantOf 14 = .ok (.aload_n 0, 1) := by decide +kernel
theorem dX7_grantOf_15 : decode cX7_grantOf 15 = .ok (.getfield 20, 3) := by decide +kernel
theorem dX7_grantOf_18 : decode cX7_grantOf 18 = .ok (.iload_n 1, 1) := by decide +kernel
theorem dX7_grantOf_19 : decode cX7_grantOf 19 = .ok (.aaload, 1) := by decide +kernel
theorem dX7_grantOf_20 : decode cX7_grantOf 20 = .ok (.astore_n 2, 1) := by decide +kernel
theorem dX7_grantOf_21 : decode cX7_grantOf 21 = .ok (.aload_n 2, 1) := by decide +kernel
theorem dX7_grantOf_22 : decode cX7_grantOf 22 = .ok (.ifnull 14, 3) := by decide +kernel
theorem dX7_grantOf_25 : decode cX7_grantOf 25 = .ok (.aload_n 2, 1) := by decide +kernel
theorem dX7_grantOf_26 : decode cX7_grantOf 26 = .ok (.getfield 37, 3) := by decide +kernel
theorem dX7_grantOf_29 : decode cX7_grantOf 29 = .ok (.ifCond .eq 7, 3) := by decide +kernel
theorem dX7_grantOf_32 : decode cX7_grantOf 32 = .ok (.aload_n 2, 1) := by decide +kernel
theorem dX7_grantOf_33 : decode cX7_grantOf 33 = .ok (.goto 4, 3) := by decide +kernel
theorem dX7_grantOf_36 : decode cX7_grantOf 36 = .ok (.aconst_null, 1) := by decide +kernel
theorem dX7_grantOf_37 : decode cX7_grantOf 37 = .ok (.areturn, 1) := by decide +kernel
theorem dX7_knowsAllNamedBy_0 : decode cX7_knowsAllNamedBy 0 = .ok (.aload_n 0, 1) := by decide +kernel
theorem dX7_knowsAllNamedBy_1 : decode cX7_knowsAllNamedBy 1 = .ok (.aload_n 1, 1) := by decide +kernel
theorem dX7_knowsAllNamedBy_2 : decode cX7_knowsAllNamedBy 2 = .ok (.getfield 47, 3) := by decide +kernel
theorem dX7_knowsAllNamedBy_5 : decode cX7_knowsAllNamedBy 5 = .ok (.invokevirtual 50, 3) := by decide +kernel
theorem dX7_knowsAllNamedBy_8 : decode cX7_knowsAllNamedBy 8 = .ok (.ifCond .eq 59, 3) := by decide +kernel
theorem dX7_knowsAllNamedBy_11 : decode cX7_knowsAllNamedBy 11 = .ok (.aload_n 0, 1) := by decide +kernel
theorem dX7_knowsAllNamedBy_12 : decode cX7_knowsAllNamedBy 12 = .ok (.aload_n 1, 1) := by decide +kernel
theorem dX7_knowsAllNamedBy_13 : decode cX7_knowsAllNamedBy 13 = .ok (.getfield 54, 3) := by decide +kernel
theorem dX7_knowsAllNamedBy_16 : decode cX7_knowsAllNamedBy 16 = .ok (.invokevirtual 50, 3) := by decide +kernel
theorem dX7_knowsAllNamedBy_19 : decode cX7_knowsAllNamedBy 19 = .ok (.ifCond .eq 48, 3) := by decide +kernel
theorem dX7_knowsAllNamedBy_22 : decode cX7_knowsAllNamedBy 22 = .ok (.aload_n 0, 1) := by decide +kernel
theorem dX7_knowsAllNamedBy_23 : decode cX7_knowsAllNamedBy 23 = .ok (.aload_n 1, 1) := by decide +kernel
theorem dX7_knowsAllNamedBy_24 : decode cX7_knowsAllNamedBy 24 = .ok (.getfield 57, 3) := by decide +kernel
theorem dX7_knowsAllNamedBy_27 : decode cX7_knowsAllNamedBy 27 = .ok (.invokevirtual 50, 3) := by decide +kernel
theorem dX7_knowsAllNamedBy_30 : decode cX7_knowsAllNamedBy 30 = .ok (.ifCond .eq 37, 3) := by decide +kernel
theorem dX7_knowsAllNamedBy_33 : decode cX7_knowsAllNamedBy 33 = .ok (.aload_n 0, 1) := by decide +kernel
theorem dX7_knowsAllNamedBy_34 : decode cX7_knowsAllNamedBy 34 = .ok (.aload_n 1, 1) := by decide +kernel
theorem dX7_knowsAllNamedBy_35 : decode cX7_knowsAllNamedBy 35 = .ok (.getfield 60, 3) := by decide +kernel
theorem dX7_knowsAllNamedBy_38 : decode cX7_knowsAllNamedBy 38 = .ok (.invokevirtual 50, 3) := by decide +kernel
theorem dX7_knowsAllNamedBy_41 : decode cX7_knowsAllNamedBy 41 = .ok (.ifCond .eq 26, 3) := by decide +kernel
theorem dX7_knowsAllNamedBy_44 : decode cX7_knowsAllNamedBy 44 = .ok (.aload_n 1, 1) := by decide +kernel
theorem dX7_knowsAllNamedBy_45 : decode cX7_knowsAllNamedBy 45 = .ok (.getfield 63, 3) := by decide +kernel
theorem dX7_knowsAllNamedBy_48 : decode cX7_knowsAllNamedBy 48 = .ok (.iconst (-1), 1) := by decide +kernel
theorem dX7_knowsAllNamedBy_49 : decode cX7_knowsAllNamedBy 49 = .ok (.if_icmp .eq 14, 3) := by decide +kernel
theorem dX7_knowsAllNamedBy_52 : decode cX7_knowsAllNamedBy 52 = .ok (.aload_n 0, 1) := by decide +kernel
theorem dX7_knowsAllNamedBy_53 : decode cX7_knowsAllNamedBy 53 = .ok (.aload_n 1, 1) := by decide +kernel
theorem dX7_knowsAllNamedBy_54 : decode cX7_knowsAllNamedBy 54 = .ok (.getfield 63, 3) := by decide +kernel
theorem dX7_knowsAllNamedBy_57 : decode cX7_knowsAllNamedBy 57 = .ok (.invokevirtual 66, 3) := by decide +kernel
theorem dX7_knowsAllNamedBy_60 : decode cX7_knowsAllNamedBy 60 = .ok (.ifCond .eq 7, 3) := by decide +kernel
theorem dX7_knowsAllNamedBy_63 : decode cX7_knowsAllNamedBy 63 = .ok (.iconst 1, 1) := by decide +kernel
theorem dX7_knowsAllNamedBy_64 : decode cX7_knowsAllNamedBy 64 = .ok (.goto 4, 3) := by decide +kernel
theorem dX7_knowsAllNamedBy_67 : decode cX7_knowsAllNamedBy 67 = .ok (.iconst 0, 1) := by decide +kernel
theorem dX7_knowsAllNamedBy_68 : decode cX7_knowsAllNamedBy 68 = .ok (.ireturn, 1) := by decide +kernel
theorem dX7_knowsPerson_0 : decode cX7_knowsPerson 0 = .ok (.iload_n 1, 1) := by decide +kernel
theorem dX7_knowsPerson_1 : decode cX7_knowsPerson 1 = .ok (.iconst (-1), 1) := by decide +kernel
theorem dX7_knowsPerson_2 : decode cX7_knowsPerson 2 = .ok (.if_icmp .eq 11, 3) := by decide +kernel
theorem dX7_knowsPerson_5 : decode cX7_knowsPerson 5 = .ok (.aload_n 0, 1) := by decide +kernel
theorem dX7_knowsPerson_6 : decode cX7_knowsPerson 6 = .ok (.iload_n 1, 1) := by decide +kernel
theorem dX7_knowsPerson_7 : decode cX7_knowsPerson 7 = .ok (.invokevirtual 69, 3) := by decide +kernel
theorem dX7_knowsPerson_10 : decode cX7_knowsPerson 10 = .ok (.ifCond .eq 7, 3) := by decide +kernel
theorem dX7_knowsPerson_13 : decode cX7_knowsPerson 13 = .ok (.iconst 1, 1) := by decide +kernel
theorem dX7_knowsPerson_14 : decode cX7_knowsPerson 14 = .ok (.goto 4, 3) := by decide +kernel
theorem dX7_knowsPerson_17 : decode cX7_knowsPerson 17 = .ok (.iconst 0, 1) := by decide +kernel
theorem dX7_knowsPerson_18 : decode cX7_knowsPerson 18 = .ok (.ireturn, 1) := by decide +kernel
theorem dX7_hasRoomFor_0 : decode cX7_hasRoomFor 0 = .ok (.aload_n 0, 1) := by decide +kernel
theorem dX7_hasRoomFor_1 : decode cX7_hasRoomFor 1 = .ok (.getfield 23, 3) := by decide +kernel
theorem dX7_hasRoomFor_4 : decode cX7_hasRoomFor 4 = .ok (.sipush 200, 3) := by decide +kernel
theorem dX7_hasRoomFor_7 : decode cX7_hasRoomFor 7 = .ok (.if_icmp .lt 5, 3) := by decide +kernel
theorem dX7_hasRoomFor_10 : decode cX7_hasRoomFor 10 = .ok (.iconst 0, 1) := by decide +kernel
theorem dX7_hasRoomFor_11 : decode cX7_hasRoomFor 11 = .ok (.ireturn, 1) := by decide +kernel
theorem dX7_hasRoomFor_12 : decode cX7_hasRoomFor 12 = .ok (.aload_n 1, 1) := by decide +kernel
theorem dX7_hasRoomFor_13 : decode cX7_hasRoomFor 13 = .ok (.getfield 72, 3) := by decide +kernel
theorem dX7_hasRoomFor_16 : decode cX7_hasRoomFor 16 = .ok (.ifCond .ne 18, 3) := by decide +kernel
theorem dX7_hasRoomFor_19 : decode cX7_hasRoomFor 19 = .ok (.aload_n 0, 1) := by decide +kernel
theorem dX7_hasRoomFor_20 : decode cX7_hasRoomFor 20 = .ok (.getfield 27, 3) := by decide +kernel
theorem dX7_hasRoomFor_23 : decode cX7_hasRoomFor 23 = .ok (.bipush 64, 2) := by decide +kernel
theorem dX7_hasRoomFor_25 : decode cX7_hasRoomFor 25 = .ok (.if_icmp .ge 7, 3) := by decide +kernel
theorem dX7_hasRoomFor_28 : decode cX7_hasRoomFor 28 = .ok (.iconst 1, 1) := by decide +kernel
theorem dX7_hasRoomFor_29 : decode cX7_hasRoomFor 29 = .ok (.goto 4, 3) := by decide +kernel
theorem dX7_hasRoomFor_32 : decode cX7_hasRoomFor 32 = .ok (.iconst 0, 1) := by decide +kernel
theorem dX7_hasRoomFor_33 : decode cX7_hasRoomFor 33 = .ok (.ireturn, 1) := by decide +kernel
theorem dX7_hasRoomFor_34 : decode cX7_hasRoomFor 34 = .ok (.aload_n 1, 1) := by decide +kernel
theorem dX7_hasRoomFor_35 : decode cX7_hasRoomFor 35 = .ok (.getfield 72, 3) := by decide +kernel
theorem dX7_hasRoomFor_38 : decode cX7_hasRoomFor 38 = .ok (.iconst 4, 1) := by decide +kernel
theorem dX7_hasRoomFor_39 : decode cX7_hasRoomFor 39 = .ok (.if_icmp .ne 12, 3) := by decide +kernel
theorem dX7_hasRoomFor_42 : decode cX7_hasRoomFor 42 = .ok (.aload_n 0, 1) := by decide +kernel
theorem dX7_hasRoomFor_43 : decode cX7_hasRoomFor 43 = .ok (.getfield 30, 3) := by decide +kernel
theorem dX7_hasRoomFor_46 : decode cX7_hasRoomFor 46 = .ok (.bipush 8, 2) := by decide +kernel
theorem dX7_hasRoomFor_48 : decode cX7_hasRoomFor 48 = .ok (.if_icmp .ge 7, 3) := by decide +kernel
theorem dX7_hasRoomFor_51 : decode cX7_hasRoomFor 51 = .ok (.iconst 1, 1) := by decide +kernel
theorem dX7_hasRoomFor_52 : decode cX7_hasRoomFor 52 = .ok (.goto 4, 3) := by decide +kernel
theorem dX7_hasRoomFor_55 : decode cX7_hasRoomFor 55 = .ok (.iconst 0, 1) := by decide +kernel
theorem dX7_hasRoomFor_56 : decode cX7_hasRoomFor 56 = .ok (.ireturn, 1) := by decide +kernel
theorem dX7_add_0 : decode cX7_add 0 = .ok (.aload_n 0, 1) := by decide +kernel
theorem dX7_add_1 : decode cX7_add 1 = .ok (.aload_n 1, 1) := by decide +kernel
theorem dX7_add_2 : decode cX7_add 2 = .ok (.invokevirtual 75, 3) := by decide +kernel
theorem dX7_add_5 : decode cX7_add 5 = .ok (.ifCond .ne 4, 3) := by decide +kernel
theorem dX7_add_8 : decode cX7_add 8 = .ok (.return_, 1) := by decide +kernel
theorem dX7_add_9 : decode cX7_add 9 = .ok (.aload_n 1, 1) := by decide +kernel
theorem dX7_add_10 : decode cX7_add 10 = .ok (.getfield 72, 3) := by decide +kernel
theorem dX7_add_13 : decode cX7_add 13 = .ok (.ifCond .ne 28, 3) := by decide +kernel
theorem dX7_add_16 : decode cX7_add 16 = .ok (.aload_n 1, 1) := by decide +kernel
theorem dX7_add_17 : decode cX7_add 17 = .ok (.aload_n 0, 1) := by decide +kernel
theorem dX7_add_18 : decode cX7_add 18 = .ok (.getfield 27, 3) := by decide +kernel
theorem dX7_add_21 : decode cX7_add 21 = .ok (.putfield 57, 3) := by decide +kernel
theorem dX7_add_24 : decode cX7_add 24 = .ok (.aload_n 0, 1) := by decide +kernel
theorem dX7_add_25 : decode cX7_add 25 = .ok (.getfield 17, 3) := by decide +kernel
theorem dX7_add_28 : decode cX7_add 28 = .ok (.aload_n 0, 1) := by decide +kernel
theorem dX7_add_29 : decode cX7_add 29 = .ok (.dup, 1) := by decide +kernel
theorem dX7_add_30 : decode cX7_add 30 = .ok (.getfield 27, 3) := by decide +kernel
theorem dX7_add_33 : decode cX7_add 33 = .ok (.dup_x1, 1) := by decide +kernel
theorem dX7_add_34 : decode cX7_add 34 = .ok (.iconst 1, 1) := by decide +kernel
theorem dX7_add_35 : decode cX7_add 35 = .ok (.iadd, 1) := by decide +kernel
theorem dX7_add_36 : decode cX7_add 36 = .ok (.putfield 27, 3) := by decide +kernel
theorem dX7_add_39 : decode cX7_add 39 = .ok (.aload_n 1, 1) := by decide +kernel
theorem dX7_add_40 : decode cX7_add 40 = .ok (.aastore, 1) := by decide +kernel
theorem dX7_add_41 : decode cX7_add 41 = .ok (.aload_n 1, 1) := by decide +kernel
theorem dX7_add_42 : decode cX7_add 42 = .ok (.getfield 72, 3) := by decide +kernel
theorem dX7_add_45 : decode cX7_add 45 = .ok (.iconst 4, 1) := by decide +kernel
theorem dX7_add_46 : decode cX7_add 46 = .ok (.if_icmp .ne 28, 3) := by decide +kernel
theorem dX7_add_49 : decode cX7_add 49 = .ok (.aload_n 1, 1) := by decide +kernel
theorem dX7_add_50 : decode cX7_add 50 = .ok (.aload_n 0, 1) := by decide +kernel
theorem dX7_add_51 : decode cX7_add 51 = .ok (.getfield 30, 3) := by decide +kernel
theorem dX7_add_54 : decode cX7_add 54 = .ok (.putfield 63, 3) := by decide +kernel
theorem dX7_add_57 : decode cX7_add 57 = .ok (.aload_n 0, 1) := by decide +kernel
theorem dX7_add_58 : decode cX7_add 58 = .ok (.getfield 20, 3) := by decide +kernel
theorem dX7_add_61 : decode cX7_add 61 = .ok (.aload_n 0, 1) := by decide +kernel
theorem dX7_add_62 : decode cX7_add 62 = .ok (.dup, 1) := by decide +kernel
theorem dX7_add_63 : decode cX7_add 63 = .ok (.getfield 30, 3) := by decide +kernel
theorem dX7_add_66 : decode cX7_add 66 = .ok (.dup_x1, 1) := by decide +kernel
theorem dX7_add_67 : decode cX7_add 67 = .ok (.iconst 1, 1) := by decide +kernel
theorem dX7_add_68 : decode cX7_add 68 = .ok (.iadd, 1) := by decide +kernel
theorem dX7_add_69 : decode cX7_add 69 = .ok (.putfield 30, 3) := by decide +kernel
theorem dX7_add_72 : decode cX7_add 72 = .ok (.aload_n 1, 1) := by decide +kernel
theorem dX7_add_73 : decode cX7_add 73 = .ok (.aastore, 1) := by decide +kernel
theorem dX7_add_74 : decode cX7_add 74 = .ok (.aload_n 0, 1) := by decide +kernel
theorem dX7_add_75 : decode cX7_add 75 = .ok (.getfield 11, 3) := by decide +kernel
theorem dX7_add_78 : decode cX7_add 78 = .ok (.aload_n 0, 1) := by decide +kernel
theorem dX7_add_79 : decode cX7_add 79 = .ok (.dup, 1) := by decide +kernel
theorem dX7_add_80 : decode cX7_add 80 = .ok (.getfield 23, 3) := by decide +kernel
theorem dX7_add_83 : decode cX7_add 83 = .ok (.dup_x1, 1) := by decide +kernel
theorem dX7_add_84 : decode cX7_add 84 = .ok (.iconst 1, 1) := by decide +kernel
theorem dX7_add_85 : decode cX7_add 85 = .ok (.iadd, 1) := by decide +kernel
theorem dX7_add_86 : decode cX7_add 86 = .ok (.putfield 23, 3) := by decide +kernel
theorem dX7_add_89 : decode cX7_add 89 = .ok (.aload_n 1, 1) := by decide +kernel
theorem dX7_add_90 : decode cX7_add 90 = .ok (.aastore, 1) := by decide +kernel
theorem dX7_add_91 : decode cX7_add 91 = .ok (.return_, 1) := by decide +kernel
theorem dX7_dropLatest_0 : decode cX7_dropLatest 0 = .ok (.aload_n 0, 1) := by decide +kernel
theorem dX7_dropLatest_1 : decode cX7_dropLatest 1 = .ok (.aload_n 0, 1) := by decide +kernel
theorem dX7_dropLatest_2 : decode cX7_dropLatest 2 = .ok (.getfield 23, 3) := by decide +kernel
theorem dX7_dropLatest_5 : decode cX7_dropLatest 5 = .ok (.iconst 1, 1) := by decide +kernel
theorem dX7_dropLatest_6 : decode cX7_dropLatest 6 = .ok (.isub, 1) := by decide +kernel
theorem dX7_dropLatest_7 : decode cX7_dropLatest 7 = .ok (.invokevirtual 33, 3) := by decide +kernel
theorem dX7_dropLatest_10 : decode cX7_dropLatest 10 = .ok (.astore_n 1, 1) := by decide +kernel
theorem dX7_dropLatest_11 : decode cX7_dropLatest 11 = .ok (.aload_n 1, 1) := by decide +kernel
theorem dX7_dropLatest_12 : decode cX7_dropLatest 12 = .ok (.ifnonnull 4, 3) := by decide +kernel
theorem dX7_dropLatest_15 : decode cX7_dropLatest 15 = .ok (.return_, 1) := by decide +kernel
theorem dX7_dropLatest_16 : decode cX7_dropLatest 16 = .ok (.aload_n 0, 1) := by decide +kernel
theorem dX7_dropLatest_17 : decode cX7_dropLatest 17 = .ok (.dup, 1) := by decide +kernel
theorem dX7_dropLatest_18 : decode cX7_dropLatest 18 = .ok (.getfield 23, 3) := by decide +kernel
theorem dX7_dropLatest_21 : decode cX7_dropLatest 21 = .ok (.iconst 1, 1) := by decide +kernel
theorem dX7_dropLatest_22 : decode cX7_dropLatest 22 = .ok (.isub, 1) := by decide +kernel
theorem dX7_dropLatest_23 : decode cX7_dropLatest 23 = .ok (.putfield 23, 3) := by decide +kernel
theorem dX7_dropLatest_26 : decode cX7_dropLatest 26 = .ok (.aload_n 0, 1) := by decide +kernel
theorem dX7_dropLatest_27 : decode cX7_dropLatest 27 = .ok (.getfield 11, 3) := by decide +kernel
theorem dX7_dropLatest_30 : decode cX7_dropLatest 30 = .ok (.aload_n 0, 1) := by decide +kernel
theorem dX7_dropLatest_31 : decode cX7_dropLatest 31 = .ok (.getfield 23, 3) := by decide +kernel
theorem dX7_dropLatest_34 : decode cX7_dropLatest 34 = .ok (.aconst_null, 1) := by decide +kernel
theorem dX7_dropLatest_35 : decode cX7_dropLatest 35 = .ok (.aastore, 1) := by decide +kernel
theorem dX7_dropLatest_36 : decode cX7_dropLatest 36 = .ok (.aload_n 1, 1) := by decide +kernel
theorem dX7_dropLatest_37 : decode cX7_dropLatest 37 = .ok (.getfield 72, 3) := by decide +kernel
theorem dX7_dropLatest_40 : decode cX7_dropLatest 40 = .ok (.ifCond .ne 27, 3) := by decide +kernel
theorem dX7_dropLatest_43 : decode cX7_dropLatest 43 = .ok (.aload_n 0, 1) := by decide +kernel
theorem dX7_dropLatest_44 : decode cX7_dropLatest 44 = .ok (.getfield 27, 3) := by decide +kernel
theorem dX7_dropLatest_47 : decode cX7_dropLatest 47 = .ok (.ifCond .le 20, 3) := by decide +kernel
theorem dX7_dropLatest_50 : decode cX7_dropLatest 50 = .ok (.aload_n 0, 1) := by decide +kernel
theorem dX7_dropLatest_51 : decode cX7_dropLatest 51 = .ok (.getfield 17, 3) := by decide +kernel
theorem dX7_dropLatest_54 : decode cX7_dropLatest 54 = .ok (.aload_n 0, 1) := by decide +kernel
theorem dX7_dropLatest_55 : decode cX7_dropLatest 55 = .ok (.dup, 1) := by decide +kernel
theorem dX7_dropLatest_56 : decode cX7_dropLatest 56 = .ok (.getfield 27, 3) := by decide +kernel
theorem dX7_dropLatest_59 : decode cX7_dropLatest 59 = .ok (.iconst 1, 1) := by decide +kernel
theorem dX7_dropLatest_60 : decode cX7_dropLatest 60 = .ok (.isub, 1) := by decide +kernel
theorem dX7_dropLatest_61 : decode cX7_dropLatest 61 = .ok (.dup_x1, 1) := by decide +kernel
theorem dX7_dropLatest_62 : decode cX7_dropLatest 62 = .ok (.putfield 27, 3) := by decide +kernel
theorem dX7_dropLatest_65 : decode cX7_dropLatest 65 = .ok (.aconst_null, 1) := by decide +kernel
theorem dX7_dropLatest_66 : decode cX7_dropLatest 66 = .ok (.aastore, 1) := by decide +kernel
theorem dX7_dropLatest_67 : decode cX7_dropLatest 67 = .ok (.aload_n 1, 1) := by decide +kernel
theorem dX7_dropLatest_68 : decode cX7_dropLatest 68 = .ok (.getfield 72, 3) := by decide +kernel
theorem dX7_dropLatest_71 : decode cX7_dropLatest 71 = .ok (.iconst 4, 1) := by decide +kernel
theorem dX7_dropLatest_72 : decode cX7_dropLatest 72 = .ok (.if_icmp .ne 27, 3) := by decide +kernel
theorem dX7_dropLatest_75 : decode cX7_dropLatest 75 = .ok (.aload_n 0, 1) := by decide +kernel
theorem dX7_dropLatest_76 : decode cX7_dropLatest 76 = .ok (.getfield 30, 3) := by decide +kernel
theorem dX7_dropLatest_79 : decode cX7_dropLatest 79 = .ok (.ifCond .le 20, 3) := by decide +kernel
theorem dX7_dropLatest_82 : decode cX7_dropLatest 82 = .ok (.aload_n 0, 1) := by decide +kernel
theorem dX7_dropLatest_83 : decode cX7_dropLatest 83 = .ok (.getfield 20, 3) := by decide +kernel
theorem dX7_dropLatest_86 : decode cX7_dropLatest 86 = .ok (.aload_n 0, 1) := by decide +kernel
theorem dX7_dropLatest_87 : decode cX7_dropLatest 87 = .ok (.dup, 1) := by decide +kernel
theorem dX7_dropLatest_88 : decode cX7_dropLatest 88 = .ok (.getfield 30, 3) := by decide +kernel
theorem dX7_dropLatest_91 : decode cX7_dropLatest 91 = .ok (.iconst 1, 1) := by decide +kernel
theorem dX7_dropLatest_92 : decode cX7_dropLatest 92 = .ok (.isub, 1) := by decide +kernel
theorem dX7_dropLatest_93 : decode cX7_dropLatest 93 = .ok (.dup_x1, 1) := by decide +kernel
theorem dX7_dropLatest_94 : decode cX7_dropLatest 94 = .ok (.putfield 30, 3) := by decide +kernel
theorem dX7_dropLatest_97 : decode cX7_dropLatest 97 = .ok (.aconst_null, 1) := by decide +kernel
theorem dX7_dropLatest_98 : decode cX7_dropLatest 98 = .ok (.aastore, 1) := by decide +kernel
theorem dX7_dropLatest_99 : decode cX7_dropLatest 99 = .ok (.return_, 1) := by decide +kernel
theorem dX7_tellsAgain_0 : decode cX7_tellsAgain 0 = .ok (.iconst 0, 1) := by decide +kernel
theorem dX7_tellsAgain_1 : decode cX7_tellsAgain 1 = .ok (.istore_n 2, 1) := by decide +kernel
theorem dX7_tellsAgain_2 : decode cX7_tellsAgain 2 = .ok (.iload_n 2, 1) := by decide +kernel
theorem dX7_tellsAgain_3 : decode cX7_tellsAgain 3 = .ok (.aload_n 0, 1) := by decide +kernel
theorem dX7_tellsAgain_4 : decode cX7_tellsAgain 4 = .ok (.getfield 23, 3) := by decide +kernel
theorem dX7_tellsAgain_7 : decode cX7_tellsAgain 7 = .ok (.if_icmp .ge 62, 3) := by decide +kernel
theorem dX7_tellsAgain_10 : decode cX7_tellsAgain 10 = .ok (.aload_n 0, 1) := by decide +kernel
theorem dX7_tellsAgain_11 : decode cX7_tellsAgain 11 = .ok (.iload_n 2, 1) := by decide +kernel
theorem dX7_tellsAgain_12 : decode cX7_tellsAgain 12 = .ok (.invokevirtual 41, 3) := by decide +kernel
theorem dX7_tellsAgain_15 : decode cX7_tellsAgain 15 = .ok (.astore_n 3, 1) := by decide +kernel
theorem dX7_tellsAgain_16 : decode cX7_tellsAgain 16 = .ok (.aload_n 3, 1) := by decide +kernel
theorem dX7_tellsAgain_17 : decode cX7_tellsAgain 17 = .ok (.ifnull 46, 3) := by decide +kernel
theorem dX7_tellsAgain_20 : decode cX7_tellsAgain 20 = .ok (.aload_n 3, 1) := by decide +kernel
theorem dX7_tellsAgain_21 : decode cX7_tellsAgain 21 = .ok (.aload_n 1, 1) := by decide +kernel
theorem dX7_tellsAgain_22 : decode cX7_tellsAgain 22 = .ok (.if_acmp .ne 6, 3) := by decide +kernel
theorem dX7_tellsAgain_25 : decode cX7_tellsAgain 25 = .ok (.goto 38, 3) := by decide +kernel
theorem dX7_tellsAgain_28 : decode cX7_tellsAgain 28 = .ok (.aload_n 3, 1) := by decide +kernel
theorem dX7_tellsAgain_29 : decode cX7_tellsAgain 29 = .ok (.getfield 72, 3) := by decide +kernel
theorem dX7_tellsAgain_32 : decode cX7_tellsAgain 32 = .ok (.aload_n 1, 1) := by decide +kernel
theorem dX7_tellsAgain_33 : decode cX7_tellsAgain 33 = .ok (.getfield 72, 3) := by decide +kernel
theorem dX7_tellsAgain_36 : decode cX7_tellsAgain 36 = .ok (.if_icmp .ne 27, 3) := by decide +kernel
theorem dX7_tellsAgain_39 : decode cX7_tellsAgain 39 = .ok (.aload_n 3, 1) := by decide +kernel
theorem dX7_tellsAgain_40 : decode cX7_tellsAgain 40 = .ok (.getfield 57, 3) := by decide +kernel
theorem dX7_tellsAgain_43 : decode cX7_tellsAgain 43 = .ok (.aload_n 1, 1) := by decide +kernel
theorem dX7_tellsAgain_44 : decode cX7_tellsAgain 44 = .ok (.getfield 57, 3) := by decide +kernel
theorem dX7_tellsAgain_47 : decode cX7_tellsAgain 47 = .ok (.if_icmp .ne 16, 3) := by decide +kernel
theorem dX7_tellsAgain_50 : decode cX7_tellsAgain 50 = .ok (.aload_n 3, 1) := by decide +kernel
theorem dX7_tellsAgain_51 : decode cX7_tellsAgain 51 = .ok (.getfield 63, 3) := by decide +kernel
theorem dX7_tellsAgain_54 : decode cX7_tellsAgain 54 = .ok (.aload_n 1, 1) := by decide +kernel
theorem dX7_tellsAgain_55 : decode cX7_tellsAgain 55 = .ok (.getfield 63, 3) := by decide +kernel
theorem dX7_tellsAgain_58 : decode cX7_tellsAgain 58 = .ok (.if_icmp .ne 5, 3) := by decide +kernel
theorem dX7_tellsAgain_61 : decode cX7_tellsAgain 61 = .ok (.iconst 1, 1) := by decide +kernel
theorem dX7_tellsAgain_62 : decode cX7_tellsAgain 62 = .ok (.ireturn, 1) := by decide +kernel
theorem dX7_tellsAgain_63 : decode cX7_tellsAgain 63 = .ok (.iinc 2 1, 3) := by decide +kernel
theorem dX7_tellsAgain_66 : decode cX7_tellsAgain 66 = .ok (.goto (-64), 3) := by decide +kernel
theorem dX7_tellsAgain_69 : decode cX7_tellsAgain 69 = .ok (.iconst 0, 1) := by decide +kernel
theorem dX7_tellsAgain_70 : decode cX7_tellsAgain 70 = .ok (.ireturn, 1) := by decide +kernel
theorem dX7_isOutOfTurn_0 : decode cX7_isOutOfTurn 0 = .ok (.aconst_null, 1) := by decide +kernel
theorem dX7_isOutOfTurn_1 : decode cX7_isOutOfTurn 1 = .ok (.astore_n 2, 1) := by decide +kernel
theorem dX7_isOutOfTurn_2 : decode cX7_isOutOfTurn 2 = .ok (.iconst 0, 1) := by decide +kernel
theorem dX7_isOutOfTurn_3 : decode cX7_isOutOfTurn 3 = .ok (.istore_n 3, 1) := by decide +kernel
theorem dX7_isOutOfTurn_4 : decode cX7_isOutOfTurn 4 = .ok (.iload_n 3, 1) := by decide +kernel
theorem dX7_isOutOfTurn_5 : decode cX7_isOutOfTurn 5 = .ok (.aload_n 0, 1) := by decide +kernel
theorem dX7_isOutOfTurn_6 : decode cX7_isOutOfTurn 6 = .ok (.getfield 23, 3) := by decide +kernel
theorem dX7_isOutOfTurn_9 : decode cX7_isOutOfTurn 9 = .ok (.if_icmp .ge 84, 3) := by decide +kernel
theorem dX7_isOutOfTurn_12 : decode cX7_isOutOfTurn 12 = .ok (.aload_n 0, 1) := by decide +kernel
theorem dX7_isOutOfTurn_13 : decode cX7_isOutOfTurn 13 = .ok (.iload_n 3, 1) := by decide +kernel
theorem dX7_isOutOfTurn_14 : decode cX7_isOutOfTurn 14 = .ok (.invokevirtual 41, 3) := by decide +kernel
theorem dX7_isOutOfTurn_17 : decode cX7_isOutOfTurn 17 = .ok (.astore 4, 2) := by decide +kernel
theorem dX7_isOutOfTurn_19 : decode cX7_isOutOfTurn 19 = .ok (.aload 4, 2) := by decide +kernel
theorem dX7_isOutOfTurn_21 : decode cX7_isOutOfTurn 21 = .ok (.ifnull 66, 3) := by decide +kernel
theorem dX7_isOutOfTurn_24 : decode cX7_isOutOfTurn 24 = .ok (.aload 4, 2) := by decide +kernel
theorem dX7_isOutOfTurn_26 : decode cX7_isOutOfTurn 26 = .ok (.aload_n 1, 1) := by decide +kernel
theorem dX7_isOutOfTurn_27 : decode cX7_isOutOfTurn 27 = .ok (.if_acmp .eq 60, 3) := by decide +kernel
theorem dX7_isOutOfTurn_30 : decode cX7_isOutOfTurn 30 = .ok (.aload_n 1, 1) := by decide +kernel
theorem dX7_isOutOfTurn_31 : decode cX7_isOutOfTurn 31 = .ok (.aload 4, 2) := by decide +kernel
theorem dX7_isOutOfTurn_33 : decode cX7_isOutOfTurn 33 = .ok (.invokevirtual 83, 3) := by decide +kernel
theorem dX7_isOutOfTurn_36 : decode cX7_isOutOfTurn 36 = .ok (.ifCond .ne 6, 3) := by decide +kernel
theorem dX7_isOutOfTurn_39 : decode cX7_isOutOfTurn 39 = .ok (.goto 48, 3) := by decide +kernel
theorem dX7_isOutOfTurn_42 : decode cX7_isOutOfTurn 42 = .ok (.aload 4, 2) := by decide +kernel
theorem dX7_isOutOfTurn_44 : decode cX7_isOutOfTurn 44 = .ok (.invokevirtual 86, 3) := by decide +kernel
theorem dX7_isOutOfTurn_47 : decode cX7_isOutOfTurn 47 = .ok (.aload_n 1, 1) := by decide +kernel
theorem dX7_isOutOfTurn_48 : decode cX7_isOutOfTurn 48 = .ok (.invokevirtual 86, 3) := by decide +kernel
theorem dX7_isOutOfTurn_51 : decode cX7_isOutOfTurn 51 = .ok (.if_icmp .ne 5, 3) := by decide +kernel
theorem dX7_isOutOfTurn_54 : decode cX7_isOutOfTurn 54 = .ok (.iconst 1, 1) := by decide +kernel
theorem dX7_isOutOfTurn_55 : decode cX7_isOutOfTurn 55 = .ok (.ireturn, 1) := by decide +kernel
theorem dX7_isOutOfTurn_56 : decode cX7_isOutOfTurn 56 = .ok (.aload 4, 2) := by decide +kernel
theorem dX7_isOutOfTurn_58 : decode cX7_isOutOfTurn 58 = .ok (.invokevirtual 86, 3) := by decide +kernel
theorem dX7_isOutOfTurn_61 : decode cX7_isOutOfTurn 61 = .ok (.aload_n 1, 1) := by decide +kernel
theorem dX7_isOutOfTurn_62 : decode cX7_isOutOfTurn 62 = .ok (.invokevirtual 86, 3) := by decide +kernel
theorem dX7_isOutOfTurn_65 : decode cX7_isOutOfTurn 65 = .ok (.if_icmp .ge 22, 3) := by decide +kernel
theorem dX7_isOutOfTurn_68 : decode cX7_isOutOfTurn 68 = .ok (.aload_n 2, 1) := by decide +kernel
theorem dX7_isOutOfTurn_69 : decode cX7_isOutOfTurn 69 = .ok (.ifnull 15, 3) := by decide +kernel
theorem dX7_isOutOfTurn_72 : decode cX7_isOutOfTurn 72 = .ok (.aload 4, 2) := by decide +kernel
theorem dX7_isOutOfTurn_74 : decode cX7_isOutOfTurn 74 = .ok (.invokevirtual 86, 3) := by decide +kernel
theorem dX7_isOutOfTurn_77 : decode cX7_isOutOfTurn 77 = .ok (.aload_n 2, 1) := by decide +kernel
theorem dX7_isOutOfTurn_78 : decode cX7_isOutOfTurn 78 = .ok (.invokevirtual 86, 3) := by decide +kernel
theorem dX7_isOutOfTurn_81 : decode cX7_isOutOfTurn 81 = .ok (.if_icmp .le 6, 3) := by decide +kernel
theorem dX7_isOutOfTurn_84 : decode cX7_isOutOfTurn 84 = .ok (.aload 4, 2) := by decide +kernel
theorem dX7_isOutOfTurn_86 : decode cX7_isOutOfTurn 86 = .ok (.astore_n 2, 1) := by decide +kernel
theorem dX7_isOutOfTurn_87 : decode cX7_isOutOfTurn 87 = .ok (.iinc 3 1, 3) := by decide +kernel
theorem dX7_isOutOfTurn_90 : decode cX7_isOutOfTurn 90 = .ok (.goto (-86), 3) := by decide +kernel
theorem dX7_isOutOfTurn_93 : decode cX7_isOutOfTurn 93 = .ok (.aload_n 2, 1) := by decide +kernel
theorem dX7_isOutOfTurn_94 : decode cX7_isOutOfTurn 94 = .ok (.ifnull 14, 3) := by decide +kernel
theorem dX7_isOutOfTurn_97 : decode cX7_isOutOfTurn 97 = .ok (.aload_n 2, 1) := by decide +kernel
theorem dX7_isOutOfTurn_98 : decode cX7_isOutOfTurn 98 = .ok (.invokevirtual 90, 3) := by decide +kernel
theorem dX7_isOutOfTurn_101 : decode cX7_isOutOfTurn 101 = .ok (.ifCond .eq 7, 3) := by decide +kernel
theorem dX7_isOutOfTurn_104 : decode cX7_isOutOfTurn 104 = .ok (.iconst 1, 1) := by decide +kernel
theorem dX7_isOutOfTurn_105 : decode cX7_isOutOfTurn 105 = .ok (.goto 4, 3) := by decide +kernel
theorem dX7_isOutOfTurn_108 : decode cX7_isOutOfTurn 108 = .ok (.iconst 0, 1) := by decide +kernel
theorem dX7_isOutOfTurn_109 : decode cX7_isOutOfTurn 109 = .ok (.istore_n 3, 1) := by decide +kernel
theorem dX7_isOutOfTurn_110 : decode cX7_isOutOfTurn 110 = .ok (.iload_n 3, 1) := by decide +kernel
theorem dX7_isOutOfTurn_111 : decode cX7_isOutOfTurn 111 = .ok (.aload_n 1, 1) := by decide +kernel
theorem dX7_isOutOfTurn_112 : decode cX7_isOutOfTurn 112 = .ok (.invokevirtual 90, 3) := by decide +kernel
theorem dX7_isOutOfTurn_115 : decode cX7_isOutOfTurn 115 = .ok (.if_icmp .ne 7, 3) := by decide +kernel
theorem dX7_isOutOfTurn_118 : decode cX7_isOutOfTurn 118 = .ok (.iconst 1, 1) := by decide +kernel
theorem dX7_isOutOfTurn_119 : decode cX7_isOutOfTurn 119 = .ok (.goto 4, 3) := by decide +kernel
theorem dX7_isOutOfTurn_122 : decode cX7_isOutOfTurn 122 = .ok (.iconst 0, 1) := by decide +kernel
theorem dX7_isOutOfTurn_123 : decode cX7_isOutOfTurn 123 = .ok (.ireturn, 1) := by decide +kernel
theorem dX7_nextPart_0 : decode cX7_nextPart 0 = .ok (.iconst (-1), 1) := by decide +kernel
theorem dX7_nextPart_1 : decode cX7_nextPart 1 = .ok (.istore_n 2, 1) := by decide +kernel
theorem dX7_nextPart_2 : decode cX7_nextPart 2 = .ok (.iconst 0, 1) := by decide +kernel
theorem dX7_nextPart_3 : decode cX7_nextPart 3 = .ok (.istore_n 3, 1) := by decide +kernel
theorem dX7_nextPart_4 : decode cX7_nextPart 4 = .ok (.iload_n 3, 1) := by decide +kernel
theorem dX7_nextPart_5 : decode cX7_nextPart 5 = .ok (.aload_n 0, 1) := by decide +kernel
theorem dX7_nextPart_6 : decode cX7_nextPart 6 = .ok (.getfield 23, 3) := by decide +kernel
theorem dX7_nextPart_9 : decode cX7_nextPart 9 = .ok (.if_icmp .ge 74, 3) := by decide +kernel
theorem dX7_nextPart_12 : decode cX7_nextPart 12 = .ok (.aload_n 0, 1) := by decide +kernel
theorem dX7_nextPart_13 : decode cX7_nextPart 13 = .ok (.iload_n 3, 1) := by decide +kernel
theorem dX7_nextPart_14 : decode cX7_nextPart 14 = .ok (.invokevirtual 41, 3) := by decide +kernel
theorem dX7_nextPart_17 : decode cX7_nextPart 17 = .ok (.astore 4, 2) := by decide +kernel
theorem dX7_nextPart_19 : decode cX7_nextPart 19 = .ok (.aload 4, 2) := by decide +kernel
theorem dX7_nextPart_21 : decode cX7_nextPart 21 = .ok (.ifnull 56, 3) := by decide +kernel
theorem dX7_nextPart_24 : decode cX7_nextPart 24 = .ok (.aload 4, 2) := by decide +kernel
theorem dX7_nextPart_26 : decode cX7_nextPart 26 = .ok (.getfield 72, 3) := by decide +kernel
theorem dX7_nextPart_29 : decode cX7_nextPart 29 = .ok (.iconst 2, 1) := by decide +kernel
theorem dX7_nextPart_30 : decode cX7_nextPart 30 = .ok (.if_icmp .ne 47, 3) := by decide +kernel
theorem dX7_nextPart_33 : decode cX7_nextPart 33 = .ok (.aload_n 1, 1) := by decide +kernel
theorem dX7_nextPart_34 : decode cX7_nextPart 34 = .ok (.aload 4, 2) := by decide +kernel
theorem dX7_nextPart_36 : decode cX7_nextPart 36 = .ok (.invokevirtual 83, 3) := by decide +kernel
theorem dX7_nextPart_39 : decode cX7_nextPart 39 = .ok (.ifCond .ne 6, 3) := by decide +kernel
theorem dX7_nextPart_42 : decode cX7_nextPart 42 = .ok (.goto 35, 3) := by decide +kernel
theorem dX7_nextPart_45 : decode cX7_nextPart 45 = .ok (.aload 4, 2) := by decide +kernel
theorem dX7_nextPart_47 : decode cX7_nextPart 47 = .ok (.getfield 94, 3) := by decide +kernel
theorem dX7_nextPart_50 : decode cX7_nextPart 50 = .ok (.aload_n 1, 1) := by decide +kernel
theorem dX7_nextPart_51 : decode cX7_nextPart 51 = .ok (.getfield 94, 3) := by decide +kernel
theorem dX7_nextPart_54 : decode cX7_nextPart 54 = .ok (.if_icmp .le 23, 3) := by decide +kernel
theorem dX7_nextPart_57 : decode cX7_nextPart 57 = .ok (.iload_n 2, 1) := by decide +kernel
theorem dX7_nextPart_58 : decode cX7_nextPart 58 = .ok (.iconst (-1), 1) := by decide +kernel
theorem dX7_nextPart_59 : decode cX7_nextPart 59 = .ok (.if_icmp .eq 12, 3) := by decide +kernel
theorem dX7_nextPart_62 : decode cX7_nextPart 62 = .ok (.aload 4, 2) := by decide +kernel
theorem dX7_nextPart_64 : decode cX7_nextPart 64 = .ok (.getfield 94, 3) := by decide +kernel
theorem dX7_nextPart_67 : decode cX7_nextPart 67 = .ok (.iload_n 2, 1) := by decide +kernel
theorem dX7_nextPart_68 : decode cX7_nextPart 68 = .ok (.if_icmp .ge 9, 3) := by decide +kernel
theorem dX7_nextPart_71 : decode cX7_nextPart 71 = .ok (.aload 4, 2) := by decide +kernel
theorem dX7_nextPart_73 : decode cX7_nextPart 73 = .ok (.getfield 94, 3) := by decide +kernel
theorem dX7_nextPart_76 : decode cX7_nextPart 76 = .ok (.istore_n 2, 1) := by decide +kernel
theorem dX7_nextPart_77 : decode cX7_nextPart 77 = .ok (.iinc 3 1, 3) := by decide +kernel
theorem dX7_nextPart_80 : decode cX7_nextPart 80 = .ok (.goto (-76), 3) := by decide +kernel
theorem dX7_nextPart_83 : decode cX7_nextPart 83 = .ok (.iload_n 2, 1) := by decide +kernel
theorem dX7_nextPart_84 : decode cX7_nextPart 84 = .ok (.ireturn, 1) := by decide +kernel
theorem dX7_latestLossOrBack_0 : decode cX7_latestLossOrBack 0 = .ok (.aconst_null, 1) := by decide +kernel
theorem dX7_latestLossOrBack_1 : decode cX7_latestLossOrBack 1 = .ok (.astore_n 3, 1) := by decide +kernel
theorem dX7_latestLossOrBack_2 : decode cX7_latestLossOrBack 2 = .ok (.iconst 0, 1) := by decide +kernel
theorem dX7_latestLossOrBack_3 : decode cX7_latestLossOrBack 3 = .ok (.istore 4, 2) := by decide +kernel
theorem dX7_latestLossOrBack_5 : decode cX7_latestLossOrBack 5 = .ok (.iload 4, 2) := by decide +kernel
theorem dX7_latestLossOrBack_7 : decode cX7_latestLossOrBack 7 = .ok (.aload_n 0, 1) := by decide +kernel
theorem dX7_latestLossOrBack_8 : decode cX7_latestLossOrBack 8 = .ok (.getfield 23, 3) := by decide +kernel
theorem dX7_latestLossOrBack_11 : decode cX7_latestLossOrBack 11 = .ok (.if_icmp .ge 70, 3) := by decide +kernel
theorem dX7_latestLossOrBack_14 : decode cX7_latestLossOrBack 14 = .ok (.aload_n 0, 1) := by decide +kernel
theorem dX7_latestLossOrBack_15 : decode cX7_latestLossOrBack 15 = .ok (.iload 4, 2) := by decide +kernel
theorem dX7_latestLossOrBack_17 : decode cX7_latestLossOrBack 17 = .ok (.invokevirtual 41, 3) := by decide +kernel
theorem dX7_latestLossOrBack_20 : decode cX7_latestLossOrBack 20 = .ok (.astore 5, 2) := by decide +kernel
theorem dX7_latestLossOrBack_22 : decode cX7_latestLossOrBack 22 = .ok (.aload 5, 2) := by decide +kernel
theorem dX7_latestLossOrBack_24 : decode cX7_latestLossOrBack 24 = .ok (.ifnull 51, 3) := by decide +kernel
theorem dX7_latestLossOrBack_27 : decode cX7_latestLossOrBack 27 = .ok (.aload 5, 2) := by decide +kernel
theorem dX7_latestLossOrBack_29 : decode cX7_latestLossOrBack 29 = .ok (.invokevirtual 97, 3) := by decide +kernel
theorem dX7_latestLossOrBack_32 : decode cX7_latestLossOrBack 32 = .ok (.ifCond .eq 43, 3) := by decide +kernel
theorem dX7_latestLossOrBack_35 : decode cX7_latestLossOrBack 35 = .ok (.aload 5, 2) := by decide +kernel
theorem dX7_latestLossOrBack_37 : decode cX7_latestLossOrBack 37 = .ok (.getfield 63, 3) := by decide +kernel
theorem dX7_latestLossOrBack_40 : decode cX7_latestLossOrBack 40 = .ok (.iload_n 1, 1) := by decide +kernel
theorem dX7_latestLossOrBack_41 : decode cX7_latestLossOrBack 41 = .ok (.if_icmp .ne 34, 3) := by decide +kernel
theorem dX7_latestLossOrBack_44 : decode cX7_latestLossOrBack 44 = .ok (.aload 5, 2) := by decide +kernel
theorem dX7_latestLossOrBack_46 : decode cX7_latestLossOrBack 46 = .ok (.getfield 94, 3) := by decide +kernel
theorem dX7_latestLossOrBack_49 : decode cX7_latestLossOrBack 49 = .ok (.iload_n 2, 1) := by decide +kernel
theorem dX7_latestLossOrBack_50 : decode cX7_latestLossOrBack 50 = .ok (.if_icmp .le 6, 3) := by decide +kernel
theorem dX7_latestLossOrBack_53 : decode cX7_latestLossOrBack 53 = .ok (.goto 22, 3) := by decide +kernel
theorem dX7_latestLossOrBack_56 : decode cX7_latestLossOrBack 56 = .ok (.aload_n 3, 1) := by decide +kernel
theorem dX7_latestLossOrBack_57 : decode cX7_latestLossOrBack 57 = .ok (.ifnull 15, 3) := by decide +kernel
theorem dX7_latestLossOrBack_60 : decode cX7_latestLossOrBack 60 = .ok (.aload 5, 2) := by decide +kernel
theorem dX7_latestLossOrBack_62 : decode cX7_latestLossOrBack 62 = .ok (.getfield 94, 3) := by decide +kernel
theorem dX7_latestLossOrBack_65 : decode cX7_latestLossOrBack 65 = .ok (.aload_n 3, 1) := by decide +kernel
theorem dX7_latestLossOrBack_66 : decode cX7_latestLossOrBack 66 = .ok (.getfield 94, 3) := by decide +kernel
theorem dX7_latestLossOrBack_69 : decode cX7_latestLossOrBack 69 = .ok (.if_icmp .le 6, 3) := by decide +kernel
theorem dX7_latestLossOrBack_72 : decode cX7_latestLossOrBack 72 = .ok (.aload 5, 2) := by decide +kernel
theorem dX7_latestLossOrBack_74 : decode cX7_latestLossOrBack 74 = .ok (.astore_n 3, 1) := by decide +kernel
theorem dX7_latestLossOrBack_75 : decode cX7_latestLossOrBack 75 = .ok (.iinc 4 1, 3) := by decide +kernel
theorem dX7_latestLossOrBack_78 : decode cX7_latestLossOrBack 78 = .ok (.goto (-73), 3) := by decide +kernel
theorem dX7_latestLossOrBack_81 : decode cX7_latestLossOrBack 81 = .ok (.aload_n 3, 1) := by decide +kernel
theorem dX7_latestLossOrBack_82 : decode cX7_latestLossOrBack 82 = .ok (.areturn, 1) := by decide +kernel
theorem dX8_init_0 : decode cX8_init 0 = .ok (.aload_n 0, 1) := by decide +kernel
theorem dX8_init_1 : decode cX8_init 1 = .ok (.invokespecial 3, 3) := by decide +kernel
theorem dX8_init_4 : decode cX8_init 4 = .ok (.aload_n 0, 1) := by decide +kernel
theorem dX8_init_5 : decode cX8_init 5 = .ok (.bipush 80, 2) := by decide +kernel
theorem dX8_init_7 : decode cX8_init 7 = .ok (.newarray .int, 2) := by decide +kernel
theorem dX8_init_9 : decode cX8_init 9 = .ok (.putfield 9, 3) := by decide +kernel
theorem dX8_init_12 : decode cX8_init 12 = .ok (.aload_n 0, 1) := by decide +kernel
theorem dX8_init_13 : decode cX8_init 13 = .ok (.iconst 0, 1) := by decide +kernel
theorem dX8_init_14 : decode cX8_init 14 = .ok (.putfield 15, 3) := by decide +kernel
theorem dX8_init_17 : decode cX8_init 17 = .ok (.return_, 1) := by decide +kernel
theorem dX8_size_0 : decode cX8_size 0 = .ok (.aload_n 0, 1) := by decide +kernel
theorem dX8_size_1 : decode cX8_size 1 = .ok (.getfield 15, 3) := by decide +kernel
theorem dX8_size_4 : decode cX8_size 4 = .ok (.ireturn, 1) := by decide +kernel
theorem dX8_hasRoomFor_0 : decode cX8_hasRoomFor 0 = .ok (.aload_n 0, 1) := by decide +kernel
theorem dX8_hasRoomFor_1 : decode cX8_hasRoomFor 1 = .ok (.getfield 15, 3) := by decide +kernel
theorem dX8_hasRoomFor_4 : decode cX8_hasRoomFor 4 = .ok (.iload_n 1, 1) := by decide +kernel
theorem dX8_hasRoomFor_5 : decode cX8_hasRoomFor 5 = .ok (.iadd, 1) := by decide +kernel
theorem dX8_hasRoomFor_6 : decode cX8_hasRoomFor 6 = .ok (.bipush 80, 2) := by decide +kernel
theorem dX8_hasRoomFor_8 : decode cX8_hasRoomFor 8 = .ok (.if_icmp .gt 7, 3) := by decide +kernel
theorem dX8_hasRoomFor_11 : decode cX8_hasRoomFor 11 = .ok (.iconst 1, 1) := by decide +kernel
theorem dX8_hasRoomFor_12 : decode cX8_hasRoomFor 12 = .ok (.goto 4, 3) := by decide +kernel
theorem dX8_hasRoomFor_15 : decode cX8_hasRoomFor 15 = .ok (.iconst 0, 1) := by decide +kernel
theorem dX8_hasRoomFor_16 : decode cX8_hasRoomFor 16 = .ok (.ireturn, 1) := by decide +kernel
theorem dX8_add_0 : decode cX8_add 0 = .ok (.bipush 24, 2) := by decide +kernel
theorem dX8_add_2 : decode cX8_add 2 = .ok (.istore_n 2, 1) := by decide +kernel
theorem dX8_add_3 : decode cX8_add 3 = .ok (.iload_n 2, 1) := by decide +kernel
theorem dX8_add_4 : decode cX8_add 4 = .ok (.ifCond .lt 41, 3) := by decide +kernel
theorem dX8_add_7 : decode cX8_add 7 = .ok (.aload_n 0, 1) := by decide +kernel
theorem dX8_add_8 : decode cX8_add 8 = .ok (.getfield 15, 3) := by decide +kernel
theorem dX8_add_11 : decode cX8_add 11 = .ok (.bipush 80, 2) := by decide +kernel
theorem dX8_add_13 : decode cX8_add 13 = .ok (.if_icmp .ge 26, 3) := by decide +kernel
theorem dX8_add_16 : decode cX8_add 16 = .ok (.aload_n 0, 1) := by decide +kernel
theorem dX8_add_17 : decode cX8_add 17 = .ok (.getfield 9, 3) := by decide +kernel
theorem dX8_add_20 : decode cX8_add 20 = .ok (.aload_n 0, 1) := by decide +kernel
theorem dX8_add_21 : decode cX8_add 21 = .ok (.dup, 1) := by decide +kernel
theorem dX8_add_22 : decode cX8_add 22 = .ok (.getfield 15, 3) := by decide +kernel
theorem dX8_add_25 : decode cX8_add 25 = .ok (.dup_x1, 1) := by decide +kernel
theorem dX8_add_26 : decode cX8_add 26 = .ok (.iconst 1, 1) := by decide +kernel
theorem dX8_add_27 : decode cX8_add 27 = .ok (.iadd, 1) := by decide +kernel
theorem dX8_add_28 : decode cX8_add 28 = .ok (.putfield 15, 3) := by decide +kernel
theorem dX8_add_31 : decode cX8_add 31 = .ok (.iload_n 1, 1) := by decide +kernel
theorem dX8_add_32 : decode cX8_add 32 = .ok (.iload_n 2, 1) := by decide +kernel
theorem dX8_add_33 : decode cX8_add 33 = .ok (.ishr, 1) := by decide +kernel
theorem dX8_add_34 : decode cX8_add 34 = .ok (.sipush 255, 3) := by decide +kernel
theorem dX8_add_37 : decode cX8_add 37 = .ok (.iand, 1) := by decide +kernel
theorem dX8_add_38 : decode cX8_add 38 = .ok (.iastore, 1) := by decide +kernel
theorem dX8_add_39 : decode cX8_add 39 = .ok (.iinc 2 (-8), 3) := by decide +kernel
theorem dX8_add_42 : decode cX8_add 42 = .ok (.goto (-39), 3) := by decide +kernel
theorem dX8_add_45 : decode cX8_add 45 = .ok (.return_, 1) := by decide +kernel
theorem dX8_keep_0 : decode cX8_keep 0 = .ok (.iload_n 1, 1) := by decide +kernel
theorem dX8_keep_1 : decode cX8_keep 1 = .ok (.ifCond .lt 16, 3) := by decide +kernel
theorem dX8_keep_4 : decode cX8_keep 4 = .ok (.iload_n 1, 1) := by decide +kernel
theorem dX8_keep_5 : decode cX8_keep 5 = .ok (.aload_n 0, 1) := by decide +kernel
theorem dX8_keep_6 : decode cX8_keep 6 = .ok (.getfield 15, 3) := by decide +kernel
theorem dX8_keep_9 : decode cX8_keep 9 = .ok (.if_icmp .gt 8, 3) := by decide +kernel
theorem dX8_keep_12 : decode cX8_keep 12 = .ok (.aload_n 0, 1) := by decide +kernel
theorem dX8_keep_13 : decode cX8_keep 13 = .ok (.iload_n 1, 1) := by decide +kernel
theorem dX8_keep_14 : decode cX8_keep 14 = .ok (.putfield 15, 3) := by decide +kernel
theorem dX8_keep_17 : decode cX8_keep 17 = .ok (.return_, 1) := by decide +kernel
theorem dX8_at_0 : decode cX8_at 0 = .ok (.iload_n 1, 1) := by decide +kernel
theorem dX8_at_1 : decode cX8_at 1 = .ok (.ifCond .lt 20, 3) := by decide +kernel
theorem dX8_at_4 : decode cX8_at 4 = .ok (.iload_n 1, 1) := by decide +kernel
theorem dX8_at_5 : decode cX8_at 5 = .ok (.aload_n 0, 1) := by decide +kernel
theorem dX8_at_6 : decode cX8_at 6 = .ok (.getfield 15, 3) := by decide +kernel
theorem dX8_at_9 : decode cX8_at 9 = .ok (.if_icmp .ge 12, 3) := by decide +kernel
theorem dX8_at_12 : decode cX8_at 12 = .ok (.aload_n 0, 1) := by decide +kernel
theorem dX8_at_13 : decode cX8_at 13 = .ok (.getfield 9, 3) := by decide +kernel
theorem dX8_at_16 : decode cX8_at 16 = .ok (.iload_n 1, 1) := by decide +kernel
theorem dX8_at_17 : decode cX8_at 17 = .ok (.iaload, 1) := by decide +kernel
theorem dX8_at_18 : decode cX8_at 18 = .ok (.goto 4, 3) := by decide +kernel
theorem dX8_at_21 : decode cX8_at 21 = .ok (.iconst (-1), 1) := by decide +kernel
theorem dX8_at_22 : decode cX8_at 22 = .ok (.ireturn, 1) := by decide +kernel
theorem dX9_init_0 : decode cX9_init 0 = .ok (.aload_n 0, 1) := by decide +kernel
theorem dX9_init_1 : decode cX9_init 1 = .ok (.invokespecial 3, 3) := by decide +kernel
theorem dX9_init_4 : decode cX9_init 4 = .ok (.aload_n 0, 1) := by decide +kernel
theorem dX9_init_5 : decode cX9_init 5 = .ok (.sipush 200, 3) := by decide +kernel
theorem dX9_init_8 : decode cX9_init 8 = .ok (.newarray .int, 2) := by decide +kernel
theorem dX9_init_10 : decode cX9_init 10 = .ok (.putfield 9, 3) := by decide +kernel
theorem dX9_init_13 : decode cX9_init 13 = .ok (.aload_n 0, 1) := by decide +kernel
theorem dX9_init_14 : decode cX9_init 14 = .ok (.sipush 200, 3) := by decide +kernel
theorem dX9_init_17 : decode cX9_init 17 = .ok (.newarray .int, 2) := by decide +kernel
theorem dX9_init_19 : decode cX9_init 19 = .ok (.putfield 15, 3) := by decide +kernel
theorem dX9_init_22 : decode cX9_init 22 = .ok (.aload_n 0, 1) := by decide +kernel
theorem dX9_init_23 : decode cX9_init 23 = .ok (.sipush 200, 3) := by decide +kernel
theorem dX9_init_26 : decode cX9_init 26 = .ok (.newarray .int, 2) := by decide +kernel
theorem dX9_init_28 : decode cX9_init 28 = .ok (.putfield 18, 3) := by decide +kernel
theorem dX9_init_31 : decode cX9_init 31 = .ok (.aload_n 0, 1) := by decide +kernel
theorem dX9_init_32 : decode cX9_init 32 = .ok (.sipush 200, 3) := by decide +kernel
theorem dX9_init_35 : decode cX9_init 35 = .ok (.newarray .int, 2) := by decide +kernel
theorem dX9_init_37 : decode cX9_init 37 = .ok (.putfield 21, 3) := by decide +kernel
theorem dX9_init_40 : decode cX9_init 40 = .ok (.aload_n 0, 1) := by decide +kernel
theorem dX9_init_41 : decode cX9_init 41 = .ok (.iconst 0, 1) := by decide +kernel
theorem dX9_init_42 : decode cX9_init 42 = .ok (.putfield 24, 3) := by decide +kernel
theorem dX9_init_45 : decode cX9_init 45 = .ok (.return_, 1) := by decide +kernel
theorem dX9_rebuild_0 : decode cX9_rebuild 0 = .ok (.aload_n 0, 1) := by decide +kernel
theorem dX9_rebuild_1 : decode cX9_rebuild 1 = .ok (.iconst 0, 1) := by decide +kernel
theorem dX9_rebuild_2 : decode cX9_rebuild 2 = .ok (.putfield 24, 3) := by decide +kernel
theorem dX9_rebuild_5 : decode cX9_rebuild 5 = .ok (.iconst 0, 1) := by decide +kernel
theorem dX9_rebuild_6 : decode cX9_rebuild 6 = .ok (.istore_n 3, 1) := by decide +kernel
theorem dX9_rebuild_7 : decode cX9_rebuild 7 = .ok (.iload_n 3, 1) := by decide +kernel
theorem dX9_rebuild_8 : decode cX9_rebuild 8 = .ok (.aload_n 1, 1) := by decide +kernel
theorem dX9_rebuild_9 : decode cX9_rebuild 9 = .ok (.invokevirtual 28, 3) := by decide +kernel
theorem dX9_rebuild_12 : decode cX9_rebuild 12 = .ok (.if_icmp .ge 111, 3) := by decide +kernel
theorem dX9_rebuild_15 : decode cX9_rebuild 15 = .ok (.aload_n 1, 1) := by decide +kernel
theorem dX9_rebuild_16 : decode cX9_rebuild 16 = .ok (.iload_n 3, 1) := by decide +kernel
theorem dX9_rebuild_17 : decode cX9_rebuild 17 = .ok (.invokevirtual 33, 3) := by decide +kernel
theorem dX9_rebuild_20 : decode cX9_rebuild 20 = .ok (.astore 4, 2) := by decide +kernel
theorem dX9_rebuild_22 : decode cX9_rebuild 22 = .ok (.aload 4, 2) := by decide +kernel
theorem dX9_rebuild_24 : decode cX9_rebuild 24 = .ok (.ifnull 93, 3) := by decide +kernel
theorem dX9_rebuild_27 : decode cX9_rebuild 27 = .ok (.aload 4, 2) := by decide +kernel
theorem dX9_rebuild_29 : decode cX9_rebuild 29 = .ok (.getfield 37, 3) := by decide +kernel
theorem dX9_rebuild_32 : decode cX9_rebuild 32 = .ok (.iconst 1, 1) := by decide +kernel
theorem dX9_rebuild_33 : decode cX9_rebuild 33 = .ok (.if_icmp .ne 84, 3) := by decide +kernel
theorem dX9_rebuild_36 : decode cX9_rebuild 36 = .ok (.aload_n 0, 1) := by decide +kernel
theorem dX9_rebuild_37 : decode cX9_rebuild 37 = .ok (.getfield 24, 3) := by decide +kernel
theorem dX9_rebuild_40 : decode cX9_rebuild 40 = .ok (.sipush 200, 3) := by decide +kernel
theorem dX9_rebuild_43 : decode cX9_rebuild 43 = .ok (.if_icmp .lt 6, 3) := by decide +kernel
theorem dX9_rebuild_46 : decode cX9_rebuild 46 = .ok (.goto 71, 3) := by decide +kernel
theorem dX9_rebuild_49 : decode cX9_rebuild 49 = .ok (.aload_n 0, 1) := by decide +kernel
theorem dX9_rebuild_50 : decode cX9_rebuild 50 = .ok (.getfield 9, 3) := by decide +kernel
theorem dX9_rebuild_53 : decode cX9_rebuild 53 = .ok (.aload_n 0, 1) := by decide +kernel
theorem dX9_rebuild_54 : decode cX9_rebuild 54 = .ok (.getfield 24, 3) := by decide +kernel
theorem dX9_rebuild_57 : decode cX9_rebuild 57 = .ok (.aload 4, 2) := by decide +kernel
theorem dX9_rebuild_59 : decode cX9_rebuild 59 = .ok (.getfield 42, 3) := by decide +kernel
theorem dX9_rebuild_62 : decode cX9_rebuild 62 = .ok (.iastore, 1) := by decide +kernel
theorem dX9_rebuild_63 : decode cX9_rebuild 63 = .ok (.aload_n 0, 1) := by decide +kernel
theorem dX9_rebuild_64 : decode cX9_rebuild 64 = .ok (.getfield 15, 3) := by decide +kernel
theorem dX9_rebuild_67 : decode cX9_rebuild 67 = .ok (.aload_n 0, 1) := by decide +kernel
theorem dX9_rebuild_68 : decode cX9_rebuild 68 = .ok (.getfield 24, 3) := by decide +kernel
theorem dX9_rebuild_71 : decode cX9_rebuild 71 = .ok (.aload 4, 2) := by decide +kernel
theorem dX9_rebuild_73 : decode cX9_rebuild 73 = .ok (.getfield 45, 3) := by decide +kernel
theorem dX9_rebuild_76 : decode cX9_rebuild 76 = .ok (.iastore, 1) := by decide +kernel
theorem dX9_rebuild_77 : decode cX9_rebuild 77 = .ok (.aload_n 0, 1) := by decide +kernel
theorem dX9_rebuild_78 : decode cX9_rebuild 78 = .ok (.getfield 18, 3) := by decide +kernel
theorem dX9_rebuild_81 : decode cX9_rebuild 81 = .ok (.aload_n 0, 1) := by decide +kernel
theorem dX9_rebuild_82 : decode cX9_rebuild 82 = .ok (.getfield 24, 3) := by decide +kernel
theorem dX9_rebuild_85 : decode cX9_rebuild 85 = .ok (.aload 4, 2) := by decide +kernel
theorem dX9_rebuild_87 : decode cX9_rebuild 87 = .ok (.getfield 48, 3) := by decide +kernel
theorem dX9_rebuild_90 : decode cX9_rebuild 90 = .ok (.iastore, 1) := by decide +kernel
theorem dX9_rebuild_91 : decode cX9_rebuild 91 = .ok (.aload_n 0, 1) := by decide +kernel
theorem dX9_rebuild_92 : decode cX9_rebuild 92 = .ok (.getfield 21, 3) := by decide +kernel
theorem dX9_rebuild_95 : decode cX9_rebuild 95 = .ok (.aload_n 0, 1) := by decide +kernel
theorem dX9_rebuild_96 : decode cX9_rebuild 96 = .ok (.getfield 24, 3) := by decide +kernel
theorem dX9_rebuild_99 : decode cX9_rebuild 99 = .ok (.aload 4, 2) := by decide +kernel
theorem dX9_rebuild_101 : decode cX9_rebuild 101 = .ok (.aload_n 1, 1) := by decide +kernel
theorem dX9_rebuild_102 : decode cX9_rebuild 102 = .ok (.aload_n 2, 1) := by decide +kernel
theorem dX9_rebuild_103 : decode cX9_rebuild 103 = .ok (.invokestatic 51, 3) := by decide +kernel
theorem dX9_rebuild_106 : decode cX9_rebuild 106 = .ok (.iastore, 1) := by decide +kernel
theorem dX9_rebuild_107 : decode cX9_rebuild 107 = .ok (.aload_n 0, 1) := by decide +kernel
theorem dX9_rebuild_108 : decode cX9_rebuild 108 = .ok (.dup, 1) := by decide +kernel
theorem dX9_rebuild_109 : decode cX9_rebuild 109 = .ok (.getfield 24, 3) := by decide +kernel
theorem dX9_rebuild_112 : decode cX9_rebuild 112 = .ok (.iconst 1, 1) := by decide +kernel
theorem dX9_rebuild_113 : decode cX9_rebuild 113 = .ok (.iadd, 1) := by decide +kernel
theorem dX9_rebuild_114 : decode cX9_rebuild 114 = .ok (.putfield 24, 3) := by decide +kernel
theorem dX9_rebuild_117 : decode cX9_rebuild 117 = .ok (.iinc 3 1, 3) := by decide +kernel
theorem dX9_rebuild_120 : decode cX9_rebuild 120 = .ok (.goto (-113), 3) := by decide +kernel
theorem dX9_rebuild_123 : decode cX9_rebuild 123 = .ok (.return_, 1) := by decide +kernel
theorem dX9_lastDay_0 : decode cX9_lastDay 0 = .ok (.ldc 55, 2) := by decide +kernel
theorem dX9_lastDay_2 : decode cX9_lastDay 2 = .ok (.istore_n 3, 1) := by decide +kernel
theorem dX9_lastDay_3 : decode cX9_lastDay 3 = .ok (.aload_n 1, 1) := by decide +kernel
theorem dX9_lastDay_4 : decode cX9_lastDay 4 = .ok (.aload_n 0, 1) := by decide +kernel
theorem dX9_lastDay_5 : decode cX9_lastDay 5 = .ok (.invokevirtual 56, 3) := by decide +kernel
theorem dX9_lastDay_8 : decode cX9_lastDay 8 = .ok (.istore 4, 2) := by decide +kernel
theorem dX9_lastDay_10 : decode cX9_lastDay 10 = .ok (.iload 4, 2) := by decide +kernel
theorem dX9_lastDay_12 : decode cX9_lastDay 12 = .ok (.iconst (-1), 1) := by decide +kernel
theorem dX9_lastDay_13 : decode cX9_lastDay 13 = .ok (.if_icmp .eq 8, 3) := by decide +kernel
theorem dX9_lastDay_16 : decode cX9_lastDay 16 = .ok (.iload 4, 2) := by decide +kernel
theorem dX9_lastDay_18 : decode cX9_lastDay 18 = .ok (.iconst 1, 1) := by decide +kernel
theorem dX9_lastDay_19 : decode cX9_lastDay 19 = .ok (.isub, 1) := by decide +kernel
theorem dX9_lastDay_20 : decode cX9_lastDay 20 = .ok (.istore_n 3, 1) := by decide +kernel
theorem dX9_lastDay_21 : decode cX9_lastDay 21 = .ok (.iload_n 3, 1) := by decide +kernel
theorem dX9_lastDay_22 : decode cX9_lastDay 22 = .ok (.aload_n 2, 1) := by decide +kernel
theorem dX9_lastDay_23 : decode cX9_lastDay 23 = .ok (.aload_n 0, 1) := by decide +kernel
theorem dX9_lastDay_24 : decode cX9_lastDay 24 = .ok (.getfield 42, 3) := by decide +kernel
theorem dX9_lastDay_27 : decode cX9_lastDay 27 = .ok (.invokevirtual 60, 3) := by decide +kernel
theorem dX9_lastDay_30 : decode cX9_lastDay 30 = .ok (.invokestatic 66, 3) := by decide +kernel
theorem dX9_lastDay_33 : decode cX9_lastDay 33 = .ok (.istore_n 3, 1) := by decide +kernel
theorem dX9_lastDay_34 : decode cX9_lastDay 34 = .ok (.iload_n 3, 1) := by decide +kernel
theorem dX9_lastDay_35 : decode cX9_lastDay 35 = .ok (.aload_n 2, 1) := by decide +kernel
theorem dX9_lastDay_36 : decode cX9_lastDay 36 = .ok (.aload_n 0, 1) := by decide +kernel
theorem dX9_lastDay_37 : decode cX9_lastDay 37 = .ok (.getfield 45, 3) := by decide +kernel
theorem dX9_lastDay_40 : decode cX9_lastDay 40 = .ok (.invokevirtual 60, 3) := by decide +kernel
theorem dX9_lastDay_43 : decode cX9_lastDay 43 = .ok (.invokestatic 66, 3) := by decide +kernel
theorem dX9_lastDay_46 : decode cX9_lastDay 46 = .ok (.ireturn, 1) := by decide +kernel
theorem dX9_earlier_0 : decode cX9_earlier 0 = .ok (.iload_n 1, 1) := by decide +kernel
theorem dX9_earlier_1 : decode cX9_earlier 1 = .ok (.iconst (-1), 1) := by decide +kernel
theorem dX9_earlier_2 : decode cX9_earlier 2 = .ok (.if_icmp .eq 12, 3) := by decide +kernel
theorem dX9_earlier_5 : decode cX9_earlier 5 = .ok (.iload_n 1, 1) := by decide +kernel
theorem dX9_earlier_6 : decode cX9_earlier 6 = .ok (.iload_n 0, 1) := by decide +kernel
theorem dX9_earlier_7 : decode cX9_earlier 7 = .ok (.if_icmp .ge 7, 3) := by decide +kernel
theorem dX9_earlier_10 : decode cX9_earlier 10 = .ok (.iload_n 1, 1) := by decide +kernel
theorem dX9_earlier_11 : decode cX9_earlier 11 = .ok (.goto 4, 3) := by decide +kernel
theorem dX9_earlier_14 : decode cX9_earlier 14 = .ok (.iload_n 0, 1) := by decide +kernel
theorem dX9_earlier_15 : decode cX9_earlier 15 = .ok (.ireturn, 1) := by decide +kernel
theorem dX9_isOpen_0 : decode cX9_isOpen 0 = .ok (.aload_n 0, 1) := by decide +kernel
theorem dX9_isOpen_1 : decode cX9_isOpen 1 = .ok (.getfield 18, 3) := by decide +kernel
theorem dX9_isOpen_4 : decode cX9_isOpen 4 = .ok (.iload_n 1, 1) := by decide +kernel
theorem dX9_isOpen_5 : decode cX9_isOpen 5 = .ok (.iaload, 1) := by decide +kernel
theorem dX9_isOpen_6 : decode cX9_isOpen 6 = .ok (.iload_n 2, 1) := by decide +kernel
theorem dX9_isOpen_7 : decode cX9_isOpen 7 = .ok (.if_icmp .gt 17, 3) := by decide +kernel
theorem dX9_isOpen_10 : decode cX9_isOpen 10 = .ok (.iload_n 2, 1) := by decide +kernel
theorem dX9_isOpen_11 : decode cX9_isOpen 11 = .ok (.aload_n 0, 1) := by decide +kernel
theorem dX9_isOpen_12 : decode cX9_isOpen 12 = .ok (.getfield 21, 3) := by decide +kernel
theorem dX9_isOpen_15 : decode cX9_isOpen 15 = .ok (.iload_n 1, 1) := by decide +kernel
theorem dX9_isOpen_16 : decode cX9_isOpen 16 = .ok (.iaload, 1) := by decide +kernel
theorem dX9_isOpen_17 : decode cX9_isOpen 17 = .ok (.if_icmp .gt 7, 3) := by decide +kernel
theorem dX9_isOpen_20 : decode cX9_isOpen 20 = .ok (.iconst 1, 1) := by decide +kernel
theorem dX9_isOpen_21 : decode cX9_isOpen 21 = .ok (.goto 4, 3) := by decide +kernel
theorem dX9_isOpen_24 : decode cX9_isOpen 24 = .ok (.iconst 0, 1) := by decide +kernel
theorem dX9_isOpen_25 : decode cX9_isOpen 25 = .ok (.ireturn, 1) := by decide +kernel
theorem dX9_joined_0 : decode cX9_joined 0 = .ok (.iconst 0, 1) := by decide +kernel
theorem dX9_joined_1 : decode cX9_joined 1 = .ok (.istore 4, 2) := by decide +kernel
theorem dX9_joined_3 : decode cX9_joined 3 = .ok (.iload 4, 2) := by decide +kernel
theorem dX9_joined_5 : decode cX9_joined 5 = .ok (.aload_n 0, 1) := by decide +kernel
theorem dX9_joined_6 : decode cX9_joined 6 = .ok (.getfield 24, 3) := by decide +kernel
theorem dX9_joined_9 : decode cX9_joined 9 = .ok (.if_icmp .ge 43, 3) := by decide +kernel
theorem dX9_joined_12 : decode cX9_joined 12 = .ok (.aload_n 0, 1) := by decide +kernel
theorem dX9_joined_13 : decode cX9_joined 13 = .ok (.getfield 9, 3) := by decide +kernel
theorem dX9_joined_16 : decode cX9_joined 16 = .ok (.iload 4, 2) := by decide +kernel
theorem dX9_joined_18 : decode cX9_joined 18 = .ok (.iaload, 1) := by decide +kernel
theorem dX9_joined_19 : decode cX9_joined 19 = .ok (.iload_n 1, 1) := by decide +kernel
theorem dX9_joined_20 : decode cX9_joined 20 = .ok (.if_icmp .ne 26, 3) := by decide +kernel
theorem dX9_joined_23 : decode cX9_joined 23 = .ok (.aload_n 0, 1) := by decide +kernel
theorem dX9_joined_24 : decode cX9_joined 24 = .ok (.getfield 15, 3) := by decide +kernel
theorem dX9_joined_27 : decode cX9_joined 27 = .ok (.iload 4, 2) := by decide +kernel
theorem dX9_joined_29 : decode cX9_joined 29 = .ok (.iaload, 1) := by decide +kernel
theorem dX9_joined_30 : decode cX9_joined 30 = .ok (.iload_n 2, 1) := by decide +kernel
theorem dX9_joined_31 : decode cX9_joined 31 = .ok (.if_icmp .ne 15, 3) := by decide +kernel
theorem dX9_joined_34 : decode cX9_joined 34 = .ok (.aload_n 0, 1) := by decide +kernel
theorem dX9_joined_35 : decode cX9_joined 35 = .ok (.iload 4, 2) := by decide +kernel
theorem dX9_joined_37 : decode cX9_joined 37 = .ok (.iload_n 3, 1) := by decide +kernel
theorem dX9_joined_38 : decode cX9_joined 38 = .ok (.invokevirtual 70, 3) := by decide +kernel
theorem dX9_joined_41 : decode cX9_joined 41 = .ok (.ifCond .eq 5, 3) := by decide +kernel
theorem dX9_joined_44 : decode cX9_joined 44 = .ok (.iconst 1, 1) := by decide +kernel
theorem dX9_joined_45 : decode cX9_joined 45 = .ok (.ireturn, 1) := by decide +kernel
theorem dX9_joined_46 : decode cX9_joined 46 = .ok (.iinc 4 1, 3) := by decide +kernel
theorem dX9_joined_49 : decode cX9_joined 49 = .ok (.goto (-46), 3) := by decide +kernel
theorem dX9_joined_52 : decode cX9_joined 52 = .ok (.iconst 0, 1) := by decide +kernel
theorem dX9_joined_53 : decode cX9_joined 53 = .ok (.ireturn, 1) := by decide +kernel
theorem dX9_otherIn_0 : decode cX9_otherIn 0 = .ok (.iconst 0, 1) := by decide +kernel
theorem dX9_otherIn_1 : decode cX9_otherIn 1 = .ok (.istore_n 3, 1) := by decide +kernel
theorem dX9_otherIn_2 : decode cX9_otherIn 2 = .ok (.iload_n 3, 1) := by decide +kernel
theorem dX9_otherIn_3 : decode cX9_otherIn 3 = .ok (.aload_n 0, 1) := by decide +kernel
theorem dX9_otherIn_4 : decode cX9_otherIn 4 = .ok (.getfield 24, 3) := by decide +kernel
theorem dX9_otherIn_7 : decode cX9_otherIn 7 = .ok (.if_icmp .ge 55, 3) := by decide +kernel
theorem dX9_otherIn_10 : decode cX9_otherIn 10 = .ok (.aload_n 0, 1) := by decide +kernel
theorem dX9_otherIn_11 : decode cX9_otherIn 11 = .ok (.iload_n 3, 1) := by decide +kernel
theorem dX9_otherIn_12 : decode cX9_otherIn 12 = .ok (.iload_n 2, 1) := by decide +kernel
theorem dX9_otherIn_13 : decode cX9_otherIn 13 = .ok (.invokevirtual 70, 3) := by decide +kernel
theorem dX9_otherIn_16 : decode cX9_otherIn 16 = .ok (.ifCond .ne 6, 3) := by decide +kernel
theorem dX9_otherIn_19 : decode cX9_otherIn 19 = .ok (.goto 37, 3) := by decide +kernel
theorem dX9_otherIn_22 : decode cX9_otherIn 22 = .ok (.aload_n 0, 1) := by decide +kernel
theorem dX9_otherIn_23 : decode cX9_otherIn 23 = .ok (.getfield 9, 3) := by decide +kernel
theorem dX9_otherIn_26 : decode cX9_otherIn 26 = .ok (.iload_n 3, 1) := by decide +kernel
theorem dX9_otherIn_27 : decode cX9_otherIn 27 = .ok (.iaload, 1) := by decide +kernel
theorem dX9_otherIn_28 : decode cX9_otherIn 28 = .ok (.iload_n 1, 1) := by decide +kernel
theorem dX9_otherIn_29 : decode cX9_otherIn 29 = .ok (.if_icmp .ne 10, 3) := by decide +kernel
theorem dX9_otherIn_32 : decode cX9_otherIn 32 = .ok (.aload_n 0, 1) := by decide +kernel
theorem dX9_otherIn_33 : decode cX9_otherIn 33 = .ok (.getfield 15, 3) := by decide +kernel
theorem dX9_otherIn_36 : decode cX9_otherIn 36 = .ok (.iload_n 3, 1) := by decide +kernel
theorem dX9_otherIn_37 : decode cX9_otherIn 37 = .ok (.iaload, 1) := by decide +kernel
theorem dX9_otherIn_38 : decode cX9_otherIn 38 = .ok (.ireturn, 1) := by decide +kernel
theorem dX9_otherIn_39 : decode cX9_otherIn 39 = .ok (.aload_n 0, 1) := by decide +kernel
theorem dX9_otherIn_40 : decode cX9_otherIn 40 = .ok (.getfield 15, 3) := by decide +kernel
theorem dX9_otherIn_43 : decode cX9_otherIn 43 = .ok (.iload_n 3, 1) := by decide +kernel
theorem dX9_otherIn_44 : decode cX9_otherIn 44 = .ok (.iaload, 1) := by decide +kernel
theorem dX9_otherIn_45 : decode cX9_otherIn 45 = .ok (.iload_n 1, 1) := by decide +kernel
theorem dX9_otherIn_46 : decode cX9_otherIn 46 = .ok (.if_icmp .ne 10, 3) := by decide +kernel
theorem dX9_otherIn_49 : decode cX9_otherIn 49 = .ok (.aload_n 0, 1) := by decide +kernel
theorem dX9_otherIn_50 : decode cX9_otherIn 50 = .ok (.getfield 9, 3) := by decide +kernel
theorem dX9_otherIn_53 : decode cX9_otherIn 53 = .ok (.iload_n 3, 1) := by decide +kernel
theorem dX9_otherIn_54 : decode cX9_otherIn 54 = .ok (.iaload, 1) := by decide +kernel
theorem dX9_otherIn_55 : decode cX9_otherIn 55 = .ok (.ireturn, 1) := by decide +kernel
theorem dX9_otherIn_56 : decode cX9_otherIn 56 = .ok (.iinc 3 1, 3) := by decide +kernel
theorem dX9_otherIn_59 : decode cX9_otherIn 59 = .ok (.goto (-57), 3) := by decide +kernel
theorem dX9_otherIn_62 : decode cX9_otherIn 62 = .ok (.iconst (-1), 1) := by decide +kernel
theorem dX9_otherIn_63 : decode cX9_otherIn 63 = .ok (.ireturn, 1) := by decide +kernel
theorem dX9_putSomebodyInTwo_0 : decode cX9_putSomebodyInTwo 0 = .ok (.iconst 0, 1) := by decide +kernel
theorem dX9_putSomebodyInTwo_1 : decode cX9_putSomebodyInTwo 1 = .ok (.istore_n 1, 1) := by decide +kernel
theorem dX9_putSomebodyInTwo_2 : decode cX9_putSomebodyInTwo 2 = .ok (.iload_n 1, 1) := by decide +kernel
theorem dX9_putSomebodyInTwo_3 : decode cX9_putSomebodyInTwo 3 = .ok (.aload_n 0, 1) := by decide +kernel
theorem dX9_putSomebodyInTwo_4 : decode cX9_putSomebodyInTwo 4 = .ok (.getfield 24, 3) := by decide +kernel
theorem dX9_putSomebodyInTwo_7 : decode cX9_putSomebodyInTwo 7 = .ok (.if_icmp .ge 94, 3) := by decide +kernel
theorem dX9_putSomebodyInTwo_10 : decode cX9_putSomebodyInTwo 10 = .ok (.iconst 0, 1) := by decide +kernel
theorem dX9_putSomebodyInTwo_11 : decode cX9_putSomebodyInTwo 11 = .ok (.istore_n 2, 1) := by decide +kernel
theorem dX9_putSomebodyInTwo_12 : decode cX9_putSomebodyInTwo 12 = .ok (.iload_n 2, 1) := by decide +kernel
theorem dX9_putSomebodyInTwo_13 : decode cX9_putSomebodyInTwo 13 = .ok (.iload_n 1, 1) := by decide +kernel
theorem dX9_putSomebodyInTwo_14 : decode cX9_putSomebodyInTwo 14 = .ok (.if_icmp .ge 81, 3) := by decide +kernel
theorem dX9_putSomebodyInTwo_17 : decode cX9_putSomebodyInTwo 17 = .ok (.aload_n 0, 1) := by decide +kernel
theorem dX9_putSomebodyInTwo_18 : decode cX9_putSomebodyInTwo 18 = .ok (.getfield 9, 3) := by decide +kernel
theorem dX9_putSomebodyInTwo_21 : decode cX9_putSomebodyInTwo 21 = .ok (.iload_n 1, 1) := by decide +kernel
theorem dX9_putSomebodyInTwo_22 : decode cX9_putSomebodyInTwo 22 = .ok (.iaload, 1) := by decide +kernel
theorem dX9_putSomebodyInTwo_23 : decode cX9_putSomebodyInTwo 23 = .ok (.aload_n 0, 1) := by decide +kernel
theorem dX9_putSomebodyInTwo_24 : decode cX9_putSomebodyInTwo 24 = .ok (.getfield 9, 3) := by decide +kernel
theorem dX9_putSomebodyInTwo_27 : decode cX9_putSomebodyInTwo 27 = .ok (.iload_n 2, 1) := by decide +kernel
theorem dX9_putSomebodyInTwo_28 : decode cX9_putSomebodyInTwo 28 = .ok (.iaload, 1) := by decide +kernel
theorem dX9_putSomebodyInTwo_29 : decode cX9_putSomebodyInTwo 29 = .ok (.if_icmp .eq 18, 3) := by decide +kernel
theorem dX9_putSomebodyInTwo_32 : decode cX9_putSomebodyInTwo 32 = .ok (.aload_n 0, 1) := by decide +kernel
theorem dX9_putSomebodyInTwo_33 : decode cX9_putSomebodyInTwo 33 = .ok (.getfield 15, 3) := by decide +kernel
theorem dX9_putSomebodyInTwo_36 : decode cX9_putSomebodyInTwo 36 = .ok (.iload_n 1, 1) := by decide +kernel
theorem dX9_putSomebodyInTwo_37 : decode cX9_putSomebodyInTwo 37 = .ok (.iaload, 1) := by decide +kernel
theorem dX9_putSomebodyInTwo_38 : decode cX9_putSomebodyInTwo 38 = .ok (.aload_n 0, 1) := by decide +kernel
theorem dX9_putSomebodyInTwo_39 : decode cX9_putSomebodyInTwo 39 = .ok (.getfield 15, 3) := by decide +kernel
theorem dX9_putSomebodyInTwo_42 : decode cX9_putSomebodyInTwo 42 = .ok (.iload_n 2, 1) := by decide +kernel
theorem dX9_putSomebodyInTwo_43 : decode cX9_putSomebodyInTwo 43 = .ok (.iaload, 1) := by decide +kernel
theorem dX9_putSomebodyInTwo_44 : decode cX9_putSomebodyInTwo 44 = .ok (.if_icmp .ne 7, 3) := by decide +kernel
theorem dX9_putSomebodyInTwo_47 : decode cX9_putSomebodyInTwo 47 = .ok (.iconst 1, 1) := by decide +kernel
theorem dX9_putSomebodyInTwo_48 : decode cX9_putSomebodyInTwo 48 = .ok (.goto 4, 3) := by decide +kernel
theorem dX9_putSomebodyInTwo_51 : decode cX9_putSomebodyInTwo 51 = .ok (.iconst 0, 1) := by decide +kernel
theorem dX9_putSomebodyInTwo_52 : decode cX9_putSomebodyInTwo 52 = .ok (.istore_n 3, 1) := by decide +kernel
theorem dX9_putSomebodyInTwo_53 : decode cX9_putSomebodyInTwo 53 = .ok (.iload_n 3, 1) := by decide +kernel
theorem dX9_putSomebodyInTwo_54 : decode cX9_putSomebodyInTwo 54 = .ok (.ifCond .eq 35, 3) := by decide +kernel
theorem dX9_putSomebodyInTwo_57 : decode cX9_putSomebodyInTwo 57 = .ok (.aload_n 0, 1) := by decide +kernel
theorem dX9_putSomebodyInTwo_58 : decode cX9_putSomebodyInTwo 58 = .ok (.getfield 18, 3) := by decide +kernel
theorem dX9_putSomebodyInTwo_61 : decode cX9_putSomebodyInTwo 61 = .ok (.iload_n 1, 1) := by decide +kernel
theorem dX9_putSomebodyInTwo_62 : decode cX9_putSomebodyInTwo 62 = .ok (.iaload, 1) := by decide +kernel
theorem dX9_putSomebodyInTwo_63 : decode cX9_putSomebodyInTwo 63 = .ok (.aload_n 0, 1) := by decide +kernel
theorem dX9_putSomebodyInTwo_64 : decode cX9_putSomebodyInTwo 64 = .ok (.getfield 21, 3) := by decide +kernel
theorem dX9_putSomebodyInTwo_67 : decode cX9_putSomebodyInTwo 67 = .ok (.iload_n 2, 1) := by decide +kernel
theorem dX9_putSomebodyInTwo_68 : decode cX9_putSomebodyInTwo 68 = .ok (.iaload, 1) := by decide +kernel
theorem dX9_putSomebodyInTwo_69 : decode cX9_putSomebodyInTwo 69 = .ok (.if_icmp .gt 20, 3) := by decide +kernel
theorem dX9_putSomebodyInTwo_72 : decode cX9_putSomebodyInTwo 72 = .ok (.aload_n 0, 1) := by decide +kernel
theorem dX9_putSomebodyInTwo_73 : decode cX9_putSomebodyInTwo 73 = .ok (.getfield 18, 3) := by decide +kernel
theorem dX9_putSomebodyInTwo_76 : decode cX9_putSomebodyInTwo 76 = .ok (.iload_n 2, 1) := by decide +kernel
theorem dX9_putSomebodyInTwo_77 : decode cX9_putSomebodyInTwo 77 = .ok (.iaload, 1) := by decide +kernel
theorem dX9_putSomebodyInTwo_78 : decode cX9_putSomebodyInTwo 78 = .ok (.aload_n 0, 1) := by decide +kernel
theorem dX9_putSomebodyInTwo_79 : decode cX9_putSomebodyInTwo 79 = .ok (.getfield 21, 3) := by decide +kernel
theorem dX9_putSomebodyInTwo_82 : decode cX9_putSomebodyInTwo 82 = .ok (.iload_n 1, 1) := by decide +kernel
theorem dX9_putSomebodyInTwo_83 : decode cX9_putSomebodyInTwo 83 = .ok (.iaload, 1) := by decide +kernel
theorem dX9_putSomebodyInTwo_84 : decode cX9_putSomebodyInTwo 84 = .ok (.if_icmp .gt 5, 3) := by decide +kernel
theorem dX9_putSomebodyInTwo_87 : decode cX9_putSomebodyInTwo 87 = .ok (.iconst 1, 1) := by decide +kernel
theorem dX9_putSomebodyInTwo_88 : decode cX9_putSomebodyInTwo 88 = .ok (.ireturn, 1) := by decide +kernel
theorem dX9_putSomebodyInTwo_89 : decode cX9_putSomebodyInTwo 89 = .ok (.iinc 2 1, 3) := by decide +kernel
theorem dX9_putSomebodyInTwo_92 : decode cX9_putSomebodyInTwo 92 = .ok (.goto (-80), 3) := by decide +kernel
theorem dX9_putSomebodyInTwo_95 : decode cX9_putSomebodyInTwo 95 = .ok (.iinc 1 1, 3) := by decide +kernel
theorem dX9_putSomebodyInTwo_98 : decode cX9_putSomebodyInTwo 98 = .ok (.goto (-96), 3) := by decide +kernel
theorem dX9_putSomebodyInTwo_101 : decode cX9_putSomebodyInTwo 101 = .ok (.iconst 0, 1) := by decide +kernel
theorem dX9_putSomebodyInTwo_102 : decode cX9_putSomebodyInTwo 102 = .ok (.ireturn, 1) := by decide +kernel
theorem dX10_init_0 : decode cX10_init 0 = .ok (.aload_n 0, 1) := by decide +kernel
theorem dX10_init_1 : decode cX10_init 1 = .ok (.invokespecial 1, 3) := by decide +kernel
theorem dX10_init_4 : decode cX10_init 4 = .ok (.aload_n 0, 1) := by decide +kernel
theorem dX10_init_5 : decode cX10_init 5 = .ok (.new 7, 3) := by decide +kernel
theorem dX10_init_8 : decode cX10_init 8 = .ok (.dup, 1) := by decide +kernel
theorem dX10_init_9 : decode cX10_init 9 = .ok (.invokespecial 9, 3) := by decide +kernel
theorem dX10_init_12 : decode cX10_init 12 = .ok (.putfield 10, 3) := by decide +kernel
theorem dX10_init_15 : decode cX10_init 15 = .ok (.aload_n 0, 1) := by decide +kernel
theorem dX10_init_16 : decode cX10_init 16 = .ok (.new 16, 3) := by decide +kernel
theorem dX10_init_19 : decode cX10_init 19 = .ok (.dup, 1) := by decide +kernel
theorem dX10_init_20 : decode cX10_init 20 = .ok (.aload_n 0, 1) := by decide +kernel
theorem dX10_init_21 : decode cX10_init 21 = .ok (.getfield 10, 3) := by decide +kernel
theorem dX10_init_24 : decode cX10_init 24 = .ok (.invokespecial 18, 3) := by decide +kernel
theorem dX10_init_27 : decode cX10_init 27 = .ok (.putfield 21, 3) := by decide +kernel
theorem dX10_init_30 : decode cX10_init 30 = .ok (.aload_n 0, 1) := by decide +kernel
theorem dX10_init_31 : decode cX10_init 31 = .ok (.new 25, 3) := by decide +kernel
theorem dX10_init_34 : decode cX10_init 34 = .ok (.dup, 1) := by decide +kernel
theorem dX10_init_35 : decode cX10_init 35 = .ok (.invokespecial 27, 3) := by decide +kernel
theorem dX10_init_38 : decode cX10_init 38 = .ok (.putfield 28, 3) := by decide +kernel
theorem dX10_init_41 : decode cX10_init 41 = .ok (.aload_n 0, 1) := by decide +kernel
theorem dX10_init_42 : decode cX10_init 42 = .ok (.new 32, 3) := by decide +kernel
theorem dX10_init_45 : decode cX10_init 45 = .ok (.dup, 1) := by decide +kernel
theorem dX10_init_46 : decode cX10_init 46 = .ok (.invokespecial 34, 3) := by decide +kernel
theorem dX10_init_49 : decode cX10_init 49 = .ok (.putfield 35, 3) := by decide +kernel
theorem dX10_init_52 : decode cX10_init 52 = .ok (.aload_n 0, 1) := by decide +kernel
theorem dX10_init_53 : decode cX10_init 53 = .ok (.new 39, 3) := by decide +kernel
theorem dX10_init_56 : decode cX10_init 56 = .ok (.dup, 1) := by decide +kernel
theorem dX10_init_57 : decode cX10_init 57 = .ok (.invokespecial 41, 3) := by decide +kernel
theorem dX10_init_60 : decode cX10_init 60 = .ok (.putfield 42, 3) := by decide +kernel
theorem dX10_init_63 : decode cX10_init 63 = .ok (.aload_n 0, 1) := by decide +kernel
theorem dX10_init_64 : decode cX10_init 64 = .ok (.new 46, 3) := by decide +kernel
theorem dX10_init_67 : decode cX10_init 67 = .ok (.dup, 1) := by decide +kernel
theorem dX10_init_68 : decode cX10_init 68 = .ok (.aload_n 0, 1) := by decide +kernel
theorem dX10_init_69 : decode cX10_init 69 = .ok (.getfield 35, 3) := by decide +kernel
theorem dX10_init_72 : decode cX10_init 72 = .ok (.invokespecial 48, 3) := by decide +kernel
theorem dX10_init_75 : decode cX10_init 75 = .ok (.putfield 51, 3) := by decide +kernel
theorem dX10_init_78 : decode cX10_init 78 = .ok (.aload_n 0, 1) := by decide +kernel
theorem dX10_init_79 : decode cX10_init 79 = .ok (.new 55, 3) := by decide +kernel
theorem dX10_init_82 : decode cX10_init 82 = .ok (.dup, 1) := by decide +kernel
theorem dX10_init_83 : decode cX10_init 83 = .ok (.aload_n 0, 1) := by decide +kernel
theorem dX10_init_84 : decode cX10_init 84 = .ok (.getfield 35, 3) := by decide +kernel
theorem dX10_init_87 : decode cX10_init 87 = .ok (.aload_n 0, 1) := by decide +kernel
theorem dX10_init_88 : decode cX10_init 88 = .ok (.getfield 51, 3) := by decide +kernel
theorem dX10_init_91 : decode cX10_init 91 = .ok (.invokespecial 57, 3) := by decide +kernel
theorem dX10_init_94 : decode cX10_init 94 = .ok (.putfield 60, 3) := by decide +kernel
theorem dX10_init_97 : decode cX10_init 97 = .ok (.aload_n 0, 1) := by decide +kernel
theorem dX10_init_98 : decode cX10_init 98 = .ok (.bipush 8, 2) := by decide +kernel
theorem dX10_init_100 : decode cX10_init 100 = .ok (.anewarray 64, 3) := by decide +kernel
theorem dX10_init_103 : decode cX10_init 103 = .ok (.putfield 66, 3) := by decide +kernel
theorem dX10_init_106 : decode cX10_init 106 = .ok (.aload_n 0, 1) := by decide +kernel
theorem dX10_init_107 : decode cX10_init 107 = .ok (.iconst 0, 1) := by decide +kernel
theorem dX10_init_108 : decode cX10_init 108 = .ok (.putfield 70, 3) := by decide +kernel
theorem dX10_init_111 : decode cX10_init 111 = .ok (.aload_n 0, 1) := by decide +kernel
theorem dX10_init_112 : decode cX10_init 112 = .ok (.bipush (-9), 2) := by decide +kernel
theorem dX10_init_114 : decode cX10_init 114 = .ok (.putfield 74, 3) := by decide +kernel
theorem dX10_init_117 : decode cX10_init 117 = .ok (.aload_n 0, 1) := by decide +kernel
theorem dX10_init_118 : decode cX10_init 118 = .ok (.iconst 0, 1) := by decide +kernel
theorem dX10_init_119 : decode cX10_init 119 = .ok (.putfield 77, 3) := by decide +kernel
theorem dX10_init_122 : decode cX10_init 122 = .ok (.iconst 0, 1) := by decide +kernel
theorem dX10_init_123 : decode cX10_init 123 = .ok (.istore_n 1, 1) := by decide +kernel
theorem dX10_init_124 : decode cX10_init 124 = .ok (.iload_n 1, 1) := by decide +kernel
theorem dX10_init_125 : decode cX10_init 125 = .ok (.bipush 8, 2) := by decide +kernel
theorem dX10_init_127 : decode cX10_init 127 = .ok (.if_icmp .ge 39, 3) := by decide +kernel
theorem dX10_init_130 : decode cX10_init 130 = .ok (.aload_n 0, 1) := by decide +kernel
theorem dX10_init_131 : decode cX10_init 131 = .ok (.getfield 66, 3) := by decide +kernel
theorem dX10_init_134 : decode cX10_init 134 = .ok (.iload_n 1, 1) := by decide +kernel
theorem dX10_init_135 : decode cX10_init 135 = .ok (.new 64, 3) := by decide +kernel
theorem dX10_init_138 : decode cX10_init 138 = .ok (.dup, 1) := by decide +kernel
theorem dX10_init_139 : decode cX10_init 139 = .ok (.iload_n 1, 1) := by decide +kernel
theorem dX10_init_140 : decode cX10_init 140 = .ok (.aload_n 0, 1) := by decide +kernel
theorem dX10_init_141 : decode cX10_init 141 = .ok (.getfield 28, 3) := by decide +kernel
theorem dX10_init_144 : decode cX10_init 144 = .ok (.aload_n 0, 1) := by decide +kernel
theorem dX10_init_145 : decode cX10_init 145 = .ok (.getfield 35, 3) := by decide +kernel
theorem dX10_init_148 : decode cX10_init 148 = .ok (.aload_n 0, 1) := by decide +kernel
theorem dX10_init_149 : decode cX10_init 149 = .ok (.getfield 51, 3) := by decide +kernel
theorem dX10_init_152 : decode cX10_init 152 = .ok (.aload_n 0, 1) := by decide +kernel
theorem dX10_init_153 : decode cX10_init 153 = .ok (.getfield 60, 3) := by decide +kernel
theorem dX10_init_156 : decode cX10_init 156 = .ok (.invokespecial 80, 3) := by decide +kernel
theorem dX10_init_159 : decode cX10_init 159 = .ok (.aastore, 1) := by decide +kernel
theorem dX10_init_160 : decode cX10_init 160 = .ok (.iinc 1 1, 3) := by decide +kernel
theorem dX10_init_163 : decode cX10_init 163 = .ok (.goto (-39), 3) := by decide +kernel
theorem dX10_init_166 : decode cX10_init 166 = .ok (.return_, 1) := by decide +kernel
theorem dX10_feed_0 : decode cX10_feed 0 = .ok (.aload_n 0, 1) := by decide +kernel
theorem dX10_feed_1 : decode cX10_feed 1 = .ok (.getfield 10, 3) := by decide +kernel
theorem dX10_feed_4 : decode cX10_feed 4 = .ok (.bipush 20, 2) := by decide +kernel
theorem dX10_feed_6 : decode cX10_feed 6 = .ok (.invokevirtual 83, 3) := by decide +kernel
theorem dX10_feed_9 : decode cX10_feed 9 = .ok (.ifCond .ne 10, 3) := by decide +kernel
theorem dX10_feed_12 : decode cX10_feed 12 = .ok (.aload_n 0, 1) := by decide +kernel
theorem dX10_feed_13 : decode cX10_feed 13 = .ok (.bipush 9, 2) := by decide +kernel
theorem dX10_feed_15 : decode cX10_feed 15 = .ok (.invokevirtual 87, 3) := by decide +kernel
theorem dX10_feed_18 : decode cX10_feed 18 = .ok (.ireturn, 1) := by decide +kernel
theorem dX10_feed_19 : decode cX10_feed 19 = .ok (.aload_n 0, 1) := by decide +kernel
theorem dX10_feed_20 : decode cX10_feed 20 = .ok (.getfield 10, 3) := by decide +kernel
theorem dX10_feed_23 : decode cX10_feed 23 = .ok (.iload_n 1, 1) := by decide +kernel
theorem dX10_feed_24 : decode cX10_feed 24 = .ok (.invokevirtual 91, 3) := by decide +kernel
theorem dX10_feed_27 : decode cX10_feed 27 = .ok (.aload_n 0, 1) := by decide +kernel
theorem dX10_feed_28 : decode cX10_feed 28 = .ok (.getfield 10, 3) := by decide +kernel
theorem dX10_feed_31 : decode cX10_feed 31 = .ok (.iload_n 2, 1) := by decide +kernel
theorem dX10_feed_32 : decode cX10_feed 32 = .ok (.invokevirtual 91, 3) := by decide +kernel
theorem dX10_feed_35 : decode cX10_feed 35 = .ok (.aload_n 0, 1) := by decide +kernel
theorem dX10_feed_36 : decode cX10_feed 36 = .ok (.getfield 10, 3) := by decide +kernel
theorem dX10_feed_39 : decode cX10_feed 39 = .ok (.iload_n 3, 1) := by decide +kernel
theorem dX10_feed_40 : decode cX10_feed 40 = .ok (.invokevirtual 91, 3) := by decide +kernel
theorem dX10_feed_43 : decode cX10_feed 43 = .ok (.aload_n 0, 1) := by decide +kernel
theorem dX10_feed_44 : decode cX10_feed 44 = .ok (.getfield 10, 3) := by decide +kernel
theorem dX10_feed_47 : decode cX10_feed 47 = .ok (.iload 4, 2) := by decide +kernel
theorem dX10_feed_49 : decode cX10_feed 49 = .ok (.invokevirtual 91, 3) := by decide +kernel
theorem dX10_feed_52 : decode cX10_feed 52 = .ok (.aload_n 0, 1) := by decide +kernel
theorem dX10_feed_53 : decode cX10_feed 53 = .ok (.getfield 10, 3) := by decide +kernel
theorem dX10_feed_56 : decode cX10_feed 56 = .ok (.iload 5, 2) := by decide +kernel
theorem dX10_feed_58 : decode cX10_feed 58 = .ok (.invokevirtual 91, 3) := by decide +kernel
theorem dX10_feed_61 : decode cX10_feed 61 = .ok (.aload_n 0, 1) := by decide +kernel
theorem dX10_feed_62 : decode cX10_feed 62 = .ok (.aload_n 0, 1) := by decide +kernel
theorem dX10_feed_63 : decode cX10_feed 63 = .ok (.getfield 10, 3) := by decide +kernel
theorem dX10_feed_66 : decode cX10_feed 66 = .ok (.invokevirtual 95, 3) := by decide +kernel
theorem dX10_feed_69 : decode cX10_feed 69 = .ok (.invokevirtual 99, 3) := by decide +kernel
theorem dX10_feed_72 : decode cX10_feed 72 = .ok (.ireturn, 1) := by decide +kernel
theorem dX10_end_0 : decode cX10_end 0 = .ok (.iload_n 1, 1) := by decide +kernel
theorem dX10_end_1 : decode cX10_end 1 = .ok (.ifCond .lt 14, 3) := by decide +kernel
theorem dX10_end_4 : decode cX10_end 4 = .ok (.iload_n 1, 1) := by decide +kernel
theorem dX10_end_5 : decode cX10_end 5 = .ok (.aload_n 0, 1) := by decide +kernel
theorem dX10_end_6 : decode cX10_end 6 = .ok (.getfield 10, 3) := by decide +kernel
theorem dX10_end_9 : decode cX10_end 9 = .ok (.invokevirtual 95, 3) := by decide +kernel
theorem dX10_end_12 : decode cX10_end 12 = .ok (.if_icmp .le 9, 3) := by decide +kernel
theorem dX10_end_15 : decode cX10_end 15 = .ok (.aload_n 0, 1) := by decide +kernel
theorem dX10_end_16 : decode cX10_end 16 = .ok (.iconst 3, 1) := by decide +kernel
theorem dX10_end_17 : decode cX10_end 17 = .ok (.invokevirtual 87, 3) := by decide +kernel
theorem dX10_end_20 : decode cX10_end 20 = .ok (.ireturn, 1) := by decide +kernel
theorem dX10_end_21 : decode cX10_end 21 = .ok (.aload_n 0, 1) := by decide +kernel
theorem dX10_end_22 : decode cX10_end 22 = .ok (.getfield 10, 3) := by decide +kernel
theorem dX10_end_25 : decode cX10_end 25 = .ok (.iload_n 1, 1) := by decide +kernel
theorem dX10_end_26 : decode cX10_end 26 = .ok (.invokevirtual 102, 3) := by decide +kernel
theorem dX10_end_29 : decode cX10_end 29 = .ok (.aload_n 0, 1) := by decide +kernel
theorem dX10_end_30 : decode cX10_end 30 = .ok (.iload_n 1, 1) := by decide +kernel
theorem dX10_end_31 : decode cX10_end 31 = .ok (.invokevirtual 99, 3) := by decide +kernel
theorem dX10_end_34 : decode cX10_end 34 = .ok (.ireturn, 1) := by decide +kernel
theorem dX10_record_0 : decode cX10_record 0 = .ok (.new 105, 3) := by decide +kernel
theorem dX10_record_3 : decode cX10_record 3 = .ok (.dup, 1) := by decide +kernel
theorem dX10_record_4 : decode cX10_record 4 = .ok (.invokespecial 107, 3) := by decide +kernel
theorem dX10_record_7 : decode cX10_record 7 = .ok (.astore_n 1, 1) := by decide +kernel
theorem dX10_record_8 : decode cX10_record 8 = .ok (.aload_n 0, 1) := by decide +kernel
theorem dX10_record_9 : decode cX10_record 9 = .ok (.iconst 0, 1) := by decide +kernel
theorem dX10_record_10 : decode cX10_record 10 = .ok (.putfield 77, 3) := by decide +kernel
theorem dX10_record_13 : decode cX10_record 13 = .ok (.aload_n 0, 1) := by decide +kernel
theorem dX10_record_14 : decode cX10_record 14 = .ok (.aload_n 0, 1) := by decide +kernel
theorem dX10_record_15 : decode cX10_record 15 = .ok (.getfield 21, 3) := by decide +kernel
theorem dX10_record_18 : decode cX10_record 18 = .ok (.aload_n 1, 1) := by decide +kernel
theorem dX10_record_19 : decode cX10_record 19 = .ok (.invokevirtual 108, 3) := by decide +kernel
theorem dX10_record_22 : decode cX10_record 22 = .ok (.putfield 74, 3) := by decide +kernel
theorem dX10_record_25 : decode cX10_record 25 = .ok (.aload_n 0, 1) := by decide +kernel
theorem dX10_record_26 : decode cX10_record 26 = .ok (.getfield 10, 3) := by decide +kernel
theorem dX10_record_29 : decode cX10_record 29 = .ok (.iconst 0, 1) := by decide +kernel
theorem dX10_record_30 : decode cX10_record 30 = .ok (.invokevirtual 102, 3) := by decide +kernel
theorem dX10_record_33 : decode cX10_record 33 = .ok (.aload_n 0, 1) := by decide +kernel
theorem dX10_record_34 : decode cX10_record 34 = .ok (.getfield 74, 3) := by decide +kernel
theorem dX10_record_37 : decode cX10_record 37 = .ok (.bipush (-9), 2) := by decide +kernel
theorem dX10_record_39 : decode cX10_record 39 = .ok (.if_icmp .eq 9, 3) := by decide +kernel
theorem dX10_record_42 : decode cX10_record 42 = .ok (.aload_n 0, 1) := by decide +kernel
theorem dX10_record_43 : decode cX10_record 43 = .ok (.iconst 2, 1) := by decide +kernel
theorem dX10_record_44 : decode cX10_record 44 = .ok (.invokevirtual 87, 3) := by decide +kernel
theorem dX10_record_47 : decode cX10_record 47 = .ok (.ireturn, 1) := by decide +kernel
theorem dX10_record_48 : decode cX10_record 48 = .ok (.aload_n 0, 1) := by decide +kernel
theorem dX10_record_49 : decode cX10_record 49 = .ok (.getfield 28, 3) := by decide +kernel
theorem dX10_record_52 : decode cX10_record 52 = .ok (.aload_n 1, 1) := by decide +kernel
theorem dX10_record_53 : decode cX10_record 53 = .ok (.invokevirtual 112, 3) := by decide +kernel
theorem dX10_record_56 : decode cX10_record 56 = .ok (.ifCond .ne 9, 3) := by decide +kernel
theorem dX10_record_59 : decode cX10_record 59 = .ok (.aload_n 0, 1) := by decide +kernel
theorem dX10_record_60 : decode cX10_record 60 = .ok (.iconst 1, 1) := by decide +kernel
theorem dX10_record_61 : decode cX10_record 61 = .ok (.invokevirtual 87, 3) := by decide +kernel
theorem dX10_record_64 : decode cX10_record 64 = .ok (.ireturn, 1) := by decide +kernel
theorem dX10_record_65 : decode cX10_record 65 = .ok (.aload_n 0, 1) := by decide +kernel
theorem dX10_record_66 : decode cX10_record 66 = .ok (.getfield 28, 3) := by decide +kernel
theorem dX10_record_69 : decode cX10_record 69 = .ok (.aload_n 1, 1) := by decide +kernel
theorem dX10_record_70 : decode cX10_record 70 = .ok (.invokevirtual 116, 3) := by decide +kernel
theorem dX10_record_73 : decode cX10_record 73 = .ok (.ifCond .ne 10, 3) := by decide +kernel
theorem dX10_record_76 : decode cX10_record 76 = .ok (.aload_n 0, 1) := by decide +kernel
theorem dX10_record_77 : decode cX10_record 77 = .ok (.bipush 9, 2) := by decide +kernel
theorem dX10_record_79 : decode cX10_record 79 = .ok (.invokevirtual 87, 3) := by decide +kernel
theorem dX10_record_82 : decode cX10_record 82 = .ok (.ireturn, 1) := by decide +kernel
theorem dX10_record_83 : decode cX10_record 83 = .ok (.aload_n 0, 1) := by decide +kernel
theorem dX10_record_84 : decode cX10_record 84 = .ok (.getfield 28, 3) := by decide +kernel
theorem dX10_record_87 : decode cX10_record 87 = .ok (.aload_n 1, 1) := by decide +kernel
theorem dX10_record_88 : decode cX10_record 88 = .ok (.invokevirtual 118, 3) := by decide +kernel
theorem dX10_record_91 : decode cX10_record 91 = .ok (.aload_n 0, 1) := by decide +kernel
theorem dX10_record_92 : decode cX10_record 92 = .ok (.aload_n 0, 1) := by decide +kernel
theorem dX10_record_93 : decode cX10_record 93 = .ok (.invokevirtual 121, 3) := by decide +kernel
theorem dX10_record_96 : decode cX10_record 96 = .ok (.putfield 77, 3) := by decide +kernel
theorem dX10_record_99 : decode cX10_record 99 = .ok (.aload_n 0, 1) := by decide +kernel
theorem dX10_record_100 : decode cX10_record 100 = .ok (.getfield 77, 3) := by decide +kernel
theorem dX10_record_103 : decode cX10_record 103 = .ok (.ifCond .eq 10, 3) := by decide +kernel
theorem dX10_record_106 : decode cX10_record 106 = .ok (.aload_n 0, 1) := by decide +kernel
theorem dX10_record_107 : decode cX10_record 107 = .ok (.getfield 28, 3) := by decide +kernel
theorem dX10_record_110 : decode cX10_record 110 = .ok (.invokevirtual 124, 3) := by decide +kernel
theorem dX10_record_113 : decode cX10_record 113 = .ok (.aload_n 0, 1) := by decide +kernel
theorem dX10_record_114 : decode cX10_record 114 = .ok (.invokevirtual 127, 3) := by decide +kernel
theorem dX10_record_117 : decode cX10_record 117 = .ok (.aload_n 0, 1) := by decide +kernel
theorem dX10_record_118 : decode cX10_record 118 = .ok (.getfield 77, 3) := by decide +kernel
theorem dX10_record_121 : decode cX10_record 121 = .ok (.ifCond .eq 11, 3) := by decide +kernel
theorem dX10_record_124 : decode cX10_record 124 = .ok (.aload_n 0, 1) := by decide +kernel
theorem dX10_record_125 : decode cX10_record 125 = .ok (.iconst 5, 1) := by decide +kernel
theorem dX10_record_126 : decode cX10_record 126 = .ok (.invokevirtual 87, 3) := by decide +kernel
theorem dX10_record_129 : decode cX10_record 129 = .ok (.goto 16, 3) := by decide +kernel
theorem dX10_record_132 : decode cX10_record 132 = .ok (.aload_n 0, 1) := by decide +kernel
theorem dX10_record_133 : decode cX10_record 133 = .ok (.aload_n 0, 1) := by decide +kernel
theorem dX10_record_134 : decode cX10_record 134 = .ok (.getfield 28, 3) := by decide +kernel
theorem dX10_record_137 : decode cX10_record 137 = .ok (.invokevirtual 130, 3) := by decide +kernel
theorem dX10_record_140 : decode cX10_record 140 = .ok (.iconst 1, 1) := by decide +kernel
theorem dX10_record_141 : decode cX10_record 141 = .ok (.isub, 1) := by decide +kernel
theorem dX10_record_142 : decode cX10_record 142 = .ok (.invokevirtual 99, 3) := by decide +kernel
theorem dX10_record_145 : decode cX10_record 145 = .ok (.ireturn, 1) := by decide +kernel
theorem dX10_bond_0 : decode cX10_bond 0 = .ok (.aload_n 0, 1) := by decide +kernel
theorem dX10_bond_1 : decode cX10_bond 1 = .ok (.getfield 77, 3) := by decide +kernel
theorem dX10_bond_4 : decode cX10_bond 4 = .ok (.ireturn, 1) := by decide +kernel
theorem dX10_person_0 : decode cX10_person 0 = .ok (.aload_n 0, 1) := by decide +kernel
theorem dX10_person_1 : decode cX10_person 1 = .ok (.getfield 35, 3) := by decide +kernel
theorem dX10_person_4 : decode cX10_person 4 = .ok (.iload_n 1, 1) := by decide +kernel
theorem dX10_person_5 : decode cX10_person 5 = .ok (.invokevirtual 170, 3) := by decide +kernel
theorem dX10_person_8 : decode cX10_person 8 = .ok (.ifCond .ne 9, 3) := by decide +kernel
theorem dX10_person_11 : decode cX10_person 11 = .ok (.aload_n 0, 1) := by decide +kernel
theorem dX10_person_12 : decode cX10_person 12 = .ok (.iconst 1, 1) := by decide +kernel
theorem dX10_person_13 : decode cX10_person 13 = .ok (.invokevirtual 87, 3) := by decide +kernel
theorem dX10_person_16 : decode cX10_person 16 = .ok (.ireturn, 1) := by decide +kernel
theorem dX10_person_17 : decode cX10_person 17 = .ok (.iload_n 2, 1) := by decide +kernel
theorem dX10_person_18 : decode cX10_person 18 = .ok (.tableswitch 132 0 5 #[38, 59, 72, 85, 98, 111], 38) := by decide +kernel
theorem dX10_person_56 : decode cX10_person 56 = .ok (.aload_n 0, 1) := by decide +kernel
theorem dX10_person_57 : decode cX10_person 57 = .ok (.aload_n 0, 1) := by decide +kernel
theorem dX10_person_58 : decode cX10_person 58 = .ok (.getfield 35, 3) := by decide +kernel
theorem dX10_person_61 : decode cX10_person 61 = .ok (.iload_n 1, 1) := by decide +kernel
theorem dX10_person_62 : decode cX10_person 62 = .ok (.invokevirtual 173, 3) := by decide +kernel
theorem dX10_person_65 : decode cX10_person 65 = .ok (.ifCond .eq 7, 3) := by decide +kernel
theorem dX10_person_68 : decode cX10_person 68 = .ok (.iconst 1, 1) := by decide +kernel
theorem dX10_person_69 : decode cX10_person 69 = .ok (.goto 4, 3) := by decide +kernel
theorem dX10_person_72 : decode cX10_person 72 = .ok (.iconst 0, 1) := by decide +kernel
theorem dX10_person_73 : decode cX10_person 73 = .ok (.invokevirtual 99, 3) := by decide +kernel
theorem dX10_person_76 : decode cX10_person 76 = .ok (.ireturn, 1) := by decide +kernel
theorem dX10_person_77 : decode cX10_person 77 = .ok (.aload_n 0, 1) := by decide +kernel
theorem dX10_person_78 : decode cX10_person 78 = .ok (.aload_n 0, 1) := by decide +kernel
theorem dX10_person_79 : decode cX10_person 79 = .ok (.getfield 35, 3) := by decide +kernel
theorem dX10_person_82 : decode cX10_person 82 = .ok (.iload_n 1, 1) := by decide +kernel
theorem dX10_person_83 : decode cX10_person 83 = .ok (.invokevirtual 176, 3) := by decide +kernel
theorem dX10_person_86 : decode cX10_person 86 = .ok (.invokevirtual 99, 3) := by decide +kernel
theorem dX10_person_89 : decode cX10_person 89 = .ok (.ireturn, 1) := by decide +kernel
theorem dX10_person_90 : decode cX10_person 90 = .ok (.aload_n 0, 1) := by decide +kernel
theorem dX10_person_91 : decode cX10_person 91 = .ok (.aload_n 0, 1) := by decide +kernel
theorem dX10_person_92 : decode cX10_person 92 = .ok (.getfield 35, 3) := by decide +kernel
theorem dX10_person_95 : decode cX10_person 95 = .ok (.iload_n 1, 1) := by decide +kernel
theorem dX10_person_96 : decode cX10_person 96 = .ok (.invokevirtual 179, 3) := by decide +kernel
theorem dX10_person_99 : decode cX10_person 99 = .ok (.invokevirtual 99, 3) := by decide +kernel
theorem dX10_person_102 : decode cX10_person 102 = .ok (.ireturn, 1) := by decide +kernel
theorem dX10_person_103 : decode cX10_person 103 = .ok (.aload_n 0, 1) := by decide +kernel
theorem dX10_person_104 : decode cX10_person 104 = .ok (.aload_n 0, 1) := by decide +kernel
theorem dX10_person_105 : decode cX10_person 105 = .ok (.getfield 35, 3) := by decide +kernel
theorem dX10_person_108 : decode cX10_person 108 = .ok (.iload_n 1, 1) := by decide +kernel
theorem dX10_person_109 : decode cX10_person 109 = .ok (.invokevirtual 182, 3) := by decide +kernel
theorem dX10_person_112 : decode cX10_person 112 = .ok (.invokevirtual 99, 3) := by decide +kernel
theorem dX10_person_115 : decode cX10_person 115 = .ok (.ireturn, 1) := by decide +kernel
theorem dX10_person_116 : decode cX10_person 116 = .ok (.aload_n 0, 1) := by decide +kernel
theorem dX10_person_117 : decode cX10_person 117 = .ok (.aload_n 0, 1) := by decide +kernel
theorem dX10_person_118 : decode cX10_person 118 = .ok (.getfield 35, 3) := by decide +kernel
theorem dX10_person_121 : decode cX10_person 121 = .ok (.iload_n 1, 1) := by decide +kernel
theorem dX10_person_122 : decode cX10_person 122 = .ok (.invokevirtual 185, 3) := by decide +kernel
theorem dX10_person_125 : decode cX10_person 125 = .ok (.invokevirtual 99, 3) := by decide +kernel
theorem dX10_person_128 : decode cX10_person 128 = .ok (.ireturn, 1) := by decide +kernel
theorem dX10_person_129 : decode cX10_person 129 = .ok (.aload_n 0, 1) := by decide +kernel
theorem dX10_person_130 : decode cX10_person 130 = .ok (.aload_n 0, 1) := by decide +kernel
theorem dX10_person_131 : decode cX10_person 131 = .ok (.getfield 51, 3) := by decide +kernel
theorem dX10_person_134 : decode cX10_person 134 = .ok (.iload_n 1, 1) := by decide +kernel
theorem dX10_person_135 : decode cX10_person 135 = .ok (.invokevirtual 188, 3) := by decide +kernel
theorem dX10_person_138 : decode cX10_person 138 = .ok (.ifCond .eq 7, 3) := by decide +kernel
theorem dX10_person_141 : decode cX10_person 141 = .ok (.iconst 1, 1) := by decide +kernel
theorem dX10_person_142 : decode cX10_person 142 = .ok (.goto 4, 3) := by decide +kernel
theorem dX10_person_145 : decode cX10_person 145 = .ok (.iconst 0, 1) := by decide +kernel
theorem dX10_person_146 : decode cX10_person 146 = .ok (.invokevirtual 99, 3) := by decide +kernel
theorem dX10_person_149 : decode cX10_person 149 = .ok (.ireturn, 1) := by decide +kernel
theorem dX10_person_150 : decode cX10_person 150 = .ok (.aload_n 0, 1) := by decide +kernel
theorem dX10_person_151 : decode cX10_person 151 = .ok (.iconst 3, 1) := by decide +kernel
theorem dX10_person_152 : decode cX10_person 152 = .ok (.invokevirtual 87, 3) := by decide +kernel
theorem dX10_person_155 : decode cX10_person 155 = .ok (.ireturn, 1) := by decide +kernel
theorem dX10_partner_0 : decode cX10_partner 0 = .ok (.aload_n 0, 1) := by decide +kernel
theorem dX10_partner_1 : decode cX10_partner 1 = .ok (.getfield 35, 3) := by decide +kernel
theorem dX10_partner_4 : decode cX10_partner 4 = .ok (.iload_n 1, 1) := by decide +kernel
theorem dX10_partner_5 : decode cX10_partner 5 = .ok (.invokevirtual 170, 3) := by decide +kernel
theorem dX10_partner_8 : decode cX10_partner 8 = .ok (.ifCond .ne 9, 3) := by decide +kernel
theorem dX10_partner_11 : decode cX10_partner 11 = .ok (.aload_n 0, 1) := by decide +kernel
theorem dX10_partner_12 : decode cX10_partner 12 = .ok (.iconst 1, 1) := by decide +kernel
theorem dX10_partner_13 : decode cX10_partner 13 = .ok (.invokevirtual 87, 3) := by decide +kernel
theorem dX10_partner_16 : decode cX10_partner 16 = .ok (.ireturn, 1) := by decide +kernel
theorem dX10_partner_17 : decode cX10_partner 17 = .ok (.iload_n 2, 1) := by decide +kernel
theorem dX10_partner_18 : decode cX10_partner 18 = .ok (.invokestatic 191, 3) := by decide +kernel
theorem dX10_partner_21 : decode cX10_partner 21 = .ok (.ifCond .ne 9, 3) := by decide +kernel
theorem dX10_partner_24 : decode cX10_partner 24 = .ok (.aload_n 0, 1) := by decide +kernel
theorem dX10_partner_25 : decode cX10_partner 25 = .ok (.iconst 3, 1) := by decide +kernel
theorem dX10_partner_26 : decode cX10_partner 26 = .ok (.invokevirtual 87, 3) := by decide +kernel
theorem dX10_partner_29 : decode cX10_partner 29 = .ok (.ireturn, 1) := by decide +kernel
theorem dX10_partner_30 : decode cX10_partner 30 = .ok (.aload_n 0, 1) := by decide +kernel
theorem dX10_partner_31 : decode cX10_partner 31 = .ok (.aload_n 0, 1) := by decide +kernel
theorem dX10_partner_32 : decode cX10_partner 32 = .ok (.getfield 42, 3) := by decide +kernel
theorem dX10_partner_35 : decode cX10_partner 35 = .ok (.iload_n 1, 1) := by decide +kernel
theorem dX10_partner_36 : decode cX10_partner 36 = .ok (.iload_n 2, 1) := by decide +kernel
theorem dX10_partner_37 : decode cX10_partner 37 = .ok (.invokevirtual 194, 3) := by decide +kernel
theorem dX10_partner_40 : decode cX10_partner 40 = .ok (.invokevirtual 99, 3) := by decide +kernel
theorem dX10_partner_43 : decode cX10_partner 43 = .ok (.ireturn, 1) := by decide +kernel
theorem dX10_holder_0 : decode cX10_holder 0 = .ok (.aload_n 0, 1) := by decide +kernel
theorem dX10_holder_1 : decode cX10_holder 1 = .ok (.getfield 28, 3) := by decide +kernel
theorem dX10_holder_4 : decode cX10_holder 4 = .ok (.iload_n 1, 1) := by decide +kernel
theorem dX10_holder_5 : decode cX10_holder 5 = .ok (.invokevirtual 201, 3) := by decide +kernel
theorem dX10_holder_8 : decode cX10_holder 8 = .ok (.ifCond .ne 9, 3) := by decide +kernel
theorem dX10_holder_11 : decode cX10_holder 11 = .ok (.aload_n 0, 1) := by decide +kernel
theorem dX10_holder_12 : decode cX10_holder 12 = .ok (.iconst 1, 1) := by decide +kernel
theorem dX10_holder_13 : decode cX10_holder 13 = .ok (.invokevirtual 87, 3) := by decide +kernel
theorem dX10_holder_16 : decode cX10_holder 16 = .ok (.ireturn, 1) := by decide +kernel
theorem dX10_holder_17 : decode cX10_holder 17 = .ok (.iload_n 2, 1) := by decide +kernel
theorem dX10_holder_18 : decode cX10_holder 18 = .ok (.invokestatic 191, 3) := by decide +kernel
theorem dX10_holder_21 : decode cX10_holder 21 = .ok (.ifCond .ne 9, 3) := by decide +kernel
theorem dX10_holder_24 : decode cX10_holder 24 = .ok (.aload_n 0, 1) := by decide +kernel
theorem dX10_holder_25 : decode cX10_holder 25 = .ok (.iconst 3, 1) := by decide +kernel
theorem dX10_holder_26 : decode cX10_holder 26 = .ok (.invokevirtual 87, 3) := by decide +kernel
theorem dX10_holder_29 : decode cX10_holder 29 = .ok (.ireturn, 1) := by decide +kernel
theorem dX10_holder_30 : decode cX10_holder 30 = .ok (.aload_n 0, 1) := by decide +kernel
theorem dX10_holder_31 : decode cX10_holder 31 = .ok (.iload_n 1, 1) := by decide +kernel
theorem dX10_holder_32 : decode cX10_holder 32 = .ok (.invokevirtual 204, 3) := by decide +kernel
theorem dX10_holder_35 : decode cX10_holder 35 = .ok (.astore_n 3, 1) := by decide +kernel
theorem dX10_holder_36 : decode cX10_holder 36 = .ok (.aload_n 0, 1) := by decide +kernel
theorem dX10_holder_37 : decode cX10_holder 37 = .ok (.aload_n 3, 1) := by decide +kernel
theorem dX10_holder_38 : decode cX10_holder 38 = .ok (.aload_n 3, 1) := by decide +kernel
theorem dX10_holder_39 : decode cX10_holder 39 = .ok (.iload_n 2, 1) := by decide +kernel
theorem dX10_holder_40 : decode cX10_holder 40 = .ok (.invokevirtual 208, 3) := by decide +kernel
theorem dX10_holder_43 : decode cX10_holder 43 = .ok (.invokevirtual 211, 3) := by decide +kernel
theorem dX10_holder_46 : decode cX10_holder 46 = .ok (.invokevirtual 99, 3) := by decide +kernel
theorem dX10_holder_49 : decode cX10_holder 49 = .ok (.ireturn, 1) := by decide +kernel
theorem dX10_since_0 : decode cX10_since 0 = .ok (.aload_n 0, 1) := by decide +kernel
theorem dX10_since_1 : decode cX10_since 1 = .ok (.getfield 28, 3) := by decide +kernel
theorem dX10_since_4 : decode cX10_since 4 = .ok (.iload_n 1, 1) := by decide +kernel
theorem dX10_since_5 : decode cX10_since 5 = .ok (.invokevirtual 201, 3) := by decide +kernel
theorem dX10_since_8 : decode cX10_since 8 = .ok (.ifCond .ne 9, 3) := by decide +kernel
theorem dX10_since_11 : decode cX10_since 11 = .ok (.aload_n 0, 1) := by decide +kernel
theorem dX10_since_12 : decode cX10_since 12 = .ok (.iconst 1, 1) := by decide +kernel
theorem dX10_since_13 : decode cX10_since 13 = .ok (.invokevirtual 87, 3) := by decide +kernel
theorem dX10_since_16 : decode cX10_since 16 = .ok (.ireturn, 1) := by decide +kernel
theorem dX10_since_17 : decode cX10_since 17 = .ok (.iload_n 2, 1) := by decide +kernel
theorem dX10_since_18 : decode cX10_since 18 = .ok (.invokestatic 191, 3) := by decide +kernel
theorem dX10_since_21 : decode cX10_since 21 = .ok (.ifCond .ne 9, 3) := by decide +kernel
theorem dX10_since_24 : decode cX10_since 24 = .ok (.aload_n 0, 1) := by decide +kernel
theorem dX10_since_25 : decode cX10_since 25 = .ok (.iconst 3, 1) := by decide +kernel
theorem dX10_since_26 : decode cX10_since 26 = .ok (.invokevirtual 87, 3) := by decide +kernel
theorem dX10_since_29 : decode cX10_since 29 = .ok (.ireturn, 1) := by decide +kernel
theorem dX10_since_30 : decode cX10_since 30 = .ok (.aload_n 0, 1) := by decide +kernel
theorem dX10_since_31 : decode cX10_since 31 = .ok (.iload_n 1, 1) := by decide +kernel
theorem dX10_since_32 : decode cX10_since 32 = .ok (.invokevirtual 204, 3) := by decide +kernel
theorem dX10_since_35 : decode cX10_since 35 = .ok (.astore_n 3, 1) := by decide +kernel
theorem dX10_since_36 : decode cX10_since 36 = .ok (.aload_n 0, 1) := by decide +kernel
theorem dX10_since_37 : decode cX10_since 37 = .ok (.aload_n 3, 1) := by decide +kernel
theorem dX10_since_38 : decode cX10_since 38 = .ok (.aload_n 3, 1) := by decide +kernel
theorem dX10_since_39 : decode cX10_since 39 = .ok (.iload_n 2, 1) := by decide +kernel
theorem dX10_since_40 : decode cX10_since 40 = .ok (.invokevirtual 208, 3) := by decide +kernel
theorem dX10_since_43 : decode cX10_since 43 = .ok (.invokevirtual 214, 3) := by decide +kernel
theorem dX10_since_46 : decode cX10_since 46 = .ok (.invokevirtual 99, 3) := by decide +kernel
theorem dX10_since_49 : decode cX10_since 49 = .ok (.ireturn, 1) := by decide +kernel
theorem dX10_line_0 : decode cX10_line 0 = .ok (.aload_n 0, 1) := by decide +kernel
theorem dX10_line_1 : decode cX10_line 1 = .ok (.getfield 28, 3) := by decide +kernel
theorem dX10_line_4 : decode cX10_line 4 = .ok (.iload_n 1, 1) := by decide +kernel
theorem dX10_line_5 : decode cX10_line 5 = .ok (.invokevirtual 201, 3) := by decide +kernel
theorem dX10_line_8 : decode cX10_line 8 = .ok (.ifCond .ne 9, 3) := by decide +kernel
theorem dX10_line_11 : decode cX10_line 11 = .ok (.aload_n 0, 1) := by decide +kernel
theorem dX10_line_12 : decode cX10_line 12 = .ok (.iconst 1, 1) := by decide +kernel
theorem dX10_line_13 : decode cX10_line 13 = .ok (.invokevirtual 87, 3) := by decide +kernel
theorem dX10_line_16 : decode cX10_line 16 = .ok (.ireturn, 1) := by decide +kernel
theorem dX10_line_17 : decode cX10_line 17 = .ok (.iload_n 2, 1) := by decide +kernel
theorem dX10_line_18 : decode cX10_line 18 = .ok (.invokestatic 191, 3) := by decide +kernel
theorem dX10_line_21 : decode cX10_line 21 = .ok (.ifCond .ne 9, 3) := by decide +kernel
theorem dX10_line_24 : decode cX10_line 24 = .ok (.aload_n 0, 1) := by decide +kernel
theorem dX10_line_25 : decode cX10_line 25 = .ok (.iconst 3, 1) := by decide +kernel
theorem dX10_line_26 : decode cX10_line 26 = .ok (.invokevirtual 87, 3) := by decide +kernel
theorem dX10_line_29 : decode cX10_line 29 = .ok (.ireturn, 1) := by decide +kernel
theorem dX10_line_30 : decode cX10_line 30 = .ok (.aload_n 0, 1) := by decide +kernel
theorem dX10_line_31 : decode cX10_line 31 = .ok (.iload_n 1, 1) := by decide +kernel
theorem dX10_line_32 : decode cX10_line 32 = .ok (.invokevirtual 204, 3) := by decide +kernel
theorem dX10_line_35 : decode cX10_line 35 = .ok (.iload_n 2, 1) := by decide +kernel
theorem dX10_line_36 : decode cX10_line 36 = .ok (.invokevirtual 217, 3) := by decide +kernel
theorem dX10_line_39 : decode cX10_line 39 = .ok (.iload_n 3, 1) := by decide +kernel
theorem dX10_line_40 : decode cX10_line 40 = .ok (.ifCond .lt 14, 3) := by decide +kernel
theorem dX10_line_43 : decode cX10_line 43 = .ok (.iload_n 3, 1) := by decide +kernel
theorem dX10_line_44 : decode cX10_line 44 = .ok (.aload_n 0, 1) := by decide +kernel
theorem dX10_line_45 : decode cX10_line 45 = .ok (.getfield 60, 3) := by decide +kernel
theorem dX10_line_48 : decode cX10_line 48 = .ok (.invokevirtual 220, 3) := by decide +kernel
theorem dX10_line_51 : decode cX10_line 51 = .ok (.if_icmp .lt 9, 3) := by decide +kernel
theorem dX10_line_54 : decode cX10_line 54 = .ok (.aload_n 0, 1) := by decide +kernel
theorem dX10_line_55 : decode cX10_line 55 = .ok (.iconst 1, 1) := by decide +kernel
theorem dX10_line_56 : decode cX10_line 56 = .ok (.invokevirtual 87, 3) := by decide +kernel
theorem dX10_line_59 : decode cX10_line 59 = .ok (.ireturn, 1) := by decide +kernel
theorem dX10_line_60 : decode cX10_line 60 = .ok (.aload_n 0, 1) := by decide +kernel
theorem dX10_line_61 : decode cX10_line 61 = .ok (.aload_n 0, 1) := by decide +kernel
theorem dX10_line_62 : decode cX10_line 62 = .ok (.getfield 60, 3) := by decide +kernel
theorem dX10_line_65 : decode cX10_line 65 = .ok (.iload_n 3, 1) := by decide +kernel
theorem dX10_line_66 : decode cX10_line 66 = .ok (.invokevirtual 221, 3) := by decide +kernel
theorem dX10_line_69 : decode cX10_line 69 = .ok (.invokevirtual 99, 3) := by decide +kernel
theorem dX10_line_72 : decode cX10_line 72 = .ok (.ireturn, 1) := by decide +kernel
theorem dX10_rank_0 : decode cX10_rank 0 = .ok (.aload_n 0, 1) := by decide +kernel
theorem dX10_rank_1 : decode cX10_rank 1 = .ok (.getfield 28, 3) := by decide +kernel
theorem dX10_rank_4 : decode cX10_rank 4 = .ok (.iload_n 1, 1) := by decide +kernel
theorem dX10_rank_5 : decode cX10_rank 5 = .ok (.invokevirtual 201, 3) := by decide +kernel
theorem dX10_rank_8 : decode cX10_rank 8 = .ok (.ifCond .eq 14, 3) := by decide +kernel
theorem dX10_rank_11 : decode cX10_rank 11 = .ok (.aload_n 0, 1) := by decide +kernel
theorem dX10_rank_12 : decode cX10_rank 12 = .ok (.getfield 35, 3) := by decide +kernel
theorem dX10_rank_15 : decode cX10_rank 15 = .ok (.iload_n 2, 1) := by decide +kernel
theorem dX10_rank_16 : decode cX10_rank 16 = .ok (.invokevirtual 170, 3) := by decide +kernel
theorem dX10_rank_19 : decode cX10_rank 19 = .ok (.ifCond .ne 9, 3) := by decide +kernel
theorem dX10_rank_22 : decode cX10_rank 22 = .ok (.aload_n 0, 1) := by decide +kernel
theorem dX10_rank_23 : decode cX10_rank 23 = .ok (.iconst 1, 1) := by decide +kernel
theorem dX10_rank_24 : decode cX10_rank 24 = .ok (.invokevirtual 87, 3) := by decide +kernel
theorem dX10_rank_27 : decode cX10_rank 27 = .ok (.ireturn, 1) := by decide +kernel
theorem dX10_rank_28 : decode cX10_rank 28 = .ok (.iload_n 3, 1) := by decide +kernel
theorem dX10_rank_29 : decode cX10_rank 29 = .ok (.invokestatic 191, 3) := by decide +kernel
theorem dX10_rank_32 : decode cX10_rank 32 = .ok (.ifCond .ne 9, 3) := by decide +kernel
theorem dX10_rank_35 : decode cX10_rank 35 = .ok (.aload_n 0, 1) := by decide +kernel
theorem dX10_rank_36 : decode cX10_rank 36 = .ok (.iconst 3, 1) := by decide +kernel
theorem dX10_rank_37 : decode cX10_rank 37 = .ok (.invokevirtual 87, 3) := by decide +kernel
theorem dX10_rank_40 : decode cX10_rank 40 = .ok (.ireturn, 1) := by decide +kernel
theorem dX10_rank_41 : decode cX10_rank 41 = .ok (.aload_n 0, 1) := by decide +kernel
theorem dX10_rank_42 : decode cX10_rank 42 = .ok (.iload_n 1, 1) := by decide +kernel
theorem dX10_rank_43 : decode cX10_rank 43 = .ok (.invokevirtual 204, 3) := by decide +kernel
theorem dX10_rank_46 : decode cX10_rank 46 = .ok (.iload_n 3, 1) := by decide +kernel
theorem dX10_rank_47 : decode cX10_rank 47 = .ok (.invokevirtual 217, 3) := by decide +kernel
theorem dX10_rank_50 : decode cX10_rank 50 = .ok (.aload_n 0, 1) := by decide +kernel
theorem dX10_rank_51 : decode cX10_rank 51 = .ok (.aload_n 0, 1) := by decide +kernel
theorem dX10_rank_52 : decode cX10_rank 52 = .ok (.getfield 60, 3) := by decide +kernel
theorem dX10_rank_55 : decode cX10_rank 55 = .ok (.iload_n 2, 1) := by decide +kernel
theorem dX10_rank_56 : decode cX10_rank 56 = .ok (.invokevirtual 224, 3) := by decide +kernel
theorem dX10_rank_59 : decode cX10_rank 59 = .ok (.invokevirtual 99, 3) := by decide +kernel
theorem dX10_rank_62 : decode cX10_rank 62 = .ok (.ireturn, 1) := by decide +kernel
theorem dX10_tenures_0 : decode cX10_tenures 0 = .ok (.aload_n 0, 1) := by decide +kernel
theorem dX10_tenures_1 : decode cX10_tenures 1 = .ok (.getfield 28, 3) := by decide +kernel
theorem dX10_tenures_4 : decode cX10_tenures 4 = .ok (.iload_n 1, 1) := by decide +kernel
theorem dX10_tenures_5 : decode cX10_tenures 5 = .ok (.invokevirtual 201, 3) := by decide +kernel
theorem dX10_tenures_8 : decode cX10_tenures 8 = .ok (.ifCond .ne 9, 3) := by decide +kernel
theorem dX10_tenures_11 : decode cX10_tenures 11 = .ok (.aload_n 0, 1) := by decide +kernel
theorem dX10_tenures_12 : decode cX10_tenures 12 = .ok (.iconst 1, 1) := by decide +kernel
theorem dX10_tenures_13 : decode cX10_tenures 13 = .ok (.invokevirtual 87, 3) := by decide +kernel
theorem dX10_tenures_16 : decode cX10_tenures 16 = .ok (.ireturn, 1) := by decide +kernel
theorem dX10_tenures_17 : decode cX10_tenures 17 = .ok (.aload_n 0, 1) := by decide +kernel
theorem dX10_tenures_18 : decode cX10_tenures 18 = .ok (.aload_n 0, 1) := by decide +kernel
theorem dX10_tenures_19 : decode cX10_tenures 19 = .ok (.iload_n 1, 1) := by decide +kernel
theorem dX10_tenures_20 : decode cX10_tenures 20 = .ok (.invokevirtual 204, 3) := by decide +kernel
theorem dX10_tenures_23 : decode cX10_tenures 23 = .ok (.invokevirtual 233, 3) := by decide +kernel
theorem dX10_tenures_26 : decode cX10_tenures 26 = .ok (.invokevirtual 99, 3) := by decide +kernel
theorem dX10_tenures_29 : decode cX10_tenures 29 = .ok (.ireturn, 1) := by decide +kernel
theorem dX10_tenure_0 : decode cX10_tenure 0 = .ok (.aload_n 0, 1) := by decide +kernel
theorem dX10_tenure_1 : decode cX10_tenure 1 = .ok (.getfield 28, 3) := by decide +kernel
theorem dX10_tenure_4 : decode cX10_tenure 4 = .ok (.iload_n 1, 1) := by decide +kernel
theorem dX10_tenure_5 : decode cX10_tenure 5 = .ok (.invokevirtual 201, 3) := by decide +kernel
theorem dX10_tenure_8 : decode cX10_tenure 8 = .ok (.ifCond .ne 9, 3) := by decide +kernel
theorem dX10_tenure_11 : decode cX10_tenure 11 = .ok (.aload_n 0, 1) := by decide +kernel
theorem dX10_tenure_12 : decode cX10_tenure 12 = .ok (.iconst 1, 1) := by decide +kernel
theorem dX10_tenure_13 : decode cX10_tenure 13 = .ok (.invokevirtual 87, 3) := by decide +kernel
theorem dX10_tenure_16 : decode cX10_tenure 16 = .ok (.ireturn, 1) := by decide +kernel
theorem dX10_tenure_17 : decode cX10_tenure 17 = .ok (.aload_n 0, 1) := by decide +kernel
theorem dX10_tenure_18 : decode cX10_tenure 18 = .ok (.iload_n 1, 1) := by decide +kernel
theorem dX10_tenure_19 : decode cX10_tenure 19 = .ok (.invokevirtual 204, 3) := by decide +kernel
theorem dX10_tenure_22 : decode cX10_tenure 22 = .ok (.astore 4, 2) := by decide +kernel
theorem dX10_tenure_24 : decode cX10_tenure 24 = .ok (.aload 4, 2) := by decide +kernel
theorem dX10_tenure_26 : decode cX10_tenure 26 = .ok (.iload_n 2, 1) := by decide +kernel
theorem dX10_tenure_27 : decode cX10_tenure 27 = .ok (.invokevirtual 236, 3) := by decide +kernel
theorem dX10_tenure_30 : decode cX10_tenure 30 = .ok (.istore 5, 2) := by decide +kernel
theorem dX10_tenure_32 : decode cX10_tenure 32 = .ok (.iload 5, 2) := by decide +kernel
theorem dX10_tenure_34 : decode cX10_tenure 34 = .ok (.iconst (-1), 1) := by decide +kernel
theorem dX10_tenure_35 : decode cX10_tenure 35 = .ok (.if_icmp .ne 9, 3) := by decide +kernel
theorem dX10_tenure_38 : decode cX10_tenure 38 = .ok (.aload_n 0, 1) := by decide +kernel
theorem dX10_tenure_39 : decode cX10_tenure 39 = .ok (.iconst 1, 1) := by decide +kernel
theorem dX10_tenure_40 : decode cX10_tenure 40 = .ok (.invokevirtual 87, 3) := by decide +kernel
theorem dX10_tenure_43 : decode cX10_tenure 43 = .ok (.ireturn, 1) := by decide +kernel
theorem dX10_tenure_44 : decode cX10_tenure 44 = .ok (.iload_n 3, 1) := by decide +kernel
theorem dX10_tenure_45 : decode cX10_tenure 45 = .ok (.ifCond .ne 15, 3) := by decide +kernel
theorem dX10_tenure_48 : decode cX10_tenure 48 = .ok (.aload_n 0, 1) := by decide +kernel
theorem dX10_tenure_49 : decode cX10_tenure 49 = .ok (.aload 4, 2) := by decide +kernel
theorem dX10_tenure_51 : decode cX10_tenure 51 = .ok (.iload 5, 2) := by decide +kernel
theorem dX10_tenure_53 : decode cX10_tenure 53 = .ok (.invokevirtual 211, 3) := by decide +kernel
theorem dX10_tenure_56 : decode cX10_tenure 56 = .ok (.invokevirtual 99, 3) := by decide +kernel
theorem dX10_tenure_59 : decode cX10_tenure 59 = .ok (.ireturn, 1) := by decide +kernel
theorem dX10_tenure_60 : decode cX10_tenure 60 = .ok (.iload_n 3, 1) := by decide +kernel
theorem dX10_tenure_61 : decode cX10_tenure 61 = .ok (.iconst 1, 1) := by decide +kernel
theorem dX10_tenure_62 : decode cX10_tenure 62 = .ok (.if_icmp .ne 15, 3) := by decide +kernel
theorem dX10_tenure_65 : decode cX10_tenure 65 = .ok (.aload_n 0, 1) := by decide +kernel
theorem dX10_tenure_66 : decode cX10_tenure 66 = .ok (.aload 4, 2) := by decide +kernel
theorem dX10_tenure_68 : decode cX10_tenure 68 = .ok (.iload 5, 2) := by decide +kernel
theorem dX10_tenure_70 : decode cX10_tenure 70 = .ok (.invokevirtual 214, 3) := by decide +kernel
theorem dX10_tenure_73 : decode cX10_tenure 73 = .ok (.invokevirtual 99, 3) := by decide +kernel
theorem dX10_tenure_76 : decode cX10_tenure 76 = .ok (.ireturn, 1) := by decide +kernel
theorem dX10_tenure_77 : decode cX10_tenure 77 = .ok (.aload_n 0, 1) := by decide +kernel
theorem dX10_tenure_78 : decode cX10_tenure 78 = .ok (.iconst 3, 1) := by decide +kernel
theorem dX10_tenure_79 : decode cX10_tenure 79 = .ok (.invokevirtual 87, 3) := by decide +kernel
theorem dX10_tenure_82 : decode cX10_tenure 82 = .ok (.ireturn, 1) := by decide +kernel
theorem dX10_status_0 : decode cX10_status 0 = .ok (.aload_n 0, 1) := by decide +kernel
theorem dX10_status_1 : decode cX10_status 1 = .ok (.getfield 70, 3) := by decide +kernel
theorem dX10_status_4 : decode cX10_status 4 = .ok (.ireturn, 1) := by decide +kernel
theorem dX10_accept_0 : decode cX10_accept 0 = .ok (.aload_n 0, 1) := by decide +kernel
theorem dX10_accept_1 : decode cX10_accept 1 = .ok (.iconst 0, 1) := by decide +kernel
theorem dX10_accept_2 : decode cX10_accept 2 = .ok (.putfield 70, 3) := by decide +kernel
theorem dX10_accept_5 : decode cX10_accept 5 = .ok (.iload_n 1, 1) := by decide +kernel
theorem dX10_accept_6 : decode cX10_accept 6 = .ok (.ireturn, 1) := by decide +kernel
theorem dX10_refuse_0 : decode cX10_refuse 0 = .ok (.aload_n 0, 1) := by decide +kernel
theorem dX10_refuse_1 : decode cX10_refuse 1 = .ok (.iload_n 1, 1) := by decide +kernel
theorem dX10_refuse_2 : decode cX10_refuse 2 = .ok (.putfield 70, 3) := by decide +kernel
theorem dX10_refuse_5 : decode cX10_refuse 5 = .ok (.bipush (-9), 2) := by decide +kernel
theorem dX10_refuse_7 : decode cX10_refuse 7 = .ok (.ireturn, 1) := by decide +kernel
theorem dX10_isDay_0 : decode cX10_isDay 0 = .ok (.iload_n 0, 1) := by decide +kernel
theorem dX10_isDay_1 : decode cX10_isDay 1 = .ok (.ifCond .lt 13, 3) := by decide +kernel
theorem dX10_isDay_4 : decode cX10_isDay 4 = .ok (.iload_n 0, 1) := by decide +kernel
theorem dX10_isDay_5 : decode cX10_isDay 5 = .ok (.ldc 239, 2) := by decide +kernel
theorem dX10_isDay_7 : decode cX10_isDay 7 = .ok (.if_icmp .gt 7, 3) := by decide +kernel
theorem dX10_isDay_10 : decode cX10_isDay 10 = .ok (.iconst 1, 1) := by decide +kernel
theorem dX10_isDay_11 : decode cX10_isDay 11 = .ok (.goto 4, 3) := by decide +kernel
theorem dX10_isDay_14 : decode cX10_isDay 14 = .ok (.iconst 0, 1) := by decide +kernel
theorem dX10_isDay_15 : decode cX10_isDay 15 = .ok (.ireturn, 1) := by decide +kernel
theorem dX10_isPersonNumber_0 : decode cX10_isPersonNumber 0 = .ok (.iload_n 0, 1) := by decide +kernel
theorem dX10_isPersonNumber_1 : decode cX10_isPersonNumber 1 = .ok (.ifCond .lt 13, 3) := by decide +kernel
theorem dX10_isPersonNumber_4 : decode cX10_isPersonNumber 4 = .ok (.iload_n 0, 1) := by decide +kernel
theorem dX10_isPersonNumber_5 : decode cX10_isPersonNumber 5 = .ok (.bipush 64, 2) := by decide +kernel
theorem dX10_isPersonNumber_7 : decode cX10_isPersonNumber 7 = .ok (.if_icmp .ge 7, 3) := by decide +kernel
theorem dX10_isPersonNumber_10 : decode cX10_isPersonNumber 10 = .ok (.iconst 1, 1) := by decide +kernel
theorem dX10_isPersonNumber_11 : decode cX10_isPersonNumber 11 = .ok (.goto 4, 3) := by decide +kernel
theorem dX10_isPersonNumber_14 : decode cX10_isPersonNumber 14 = .ok (.iconst 0, 1) := by decide +kernel
theorem dX10_isPersonNumber_15 : decode cX10_isPersonNumber 15 = .ok (.ireturn, 1) := by decide +kernel
theorem dX10_firstBrokenBond_0 : decode cX10_firstBrokenBond 0 = .ok (.aload_n 0, 1) := by decide +kernel
theorem dX10_firstBrokenBond_1 : decode cX10_firstBrokenBond 1 = .ok (.getfield 35, 3) := by decide +kernel
theorem dX10_firstBrokenBond_4 : decode cX10_firstBrokenBond 4 = .ok (.aload_n 0, 1) := by decide +kernel
theorem dX10_firstBrokenBond_5 : decode cX10_firstBrokenBond 5 = .ok (.getfield 28, 3) := by decide +kernel
theorem dX10_firstBrokenBond_8 : decode cX10_firstBrokenBond 8 = .ok (.invokevirtual 240, 3) := by decide +kernel
theorem dX10_firstBrokenBond_11 : decode cX10_firstBrokenBond 11 = .ok (.aload_n 0, 1) := by decide +kernel
theorem dX10_firstBrokenBond_12 : decode cX10_firstBrokenBond 12 = .ok (.getfield 42, 3) := by decide +kernel
theorem dX10_firstBrokenBond_15 : decode cX10_firstBrokenBond 15 = .ok (.aload_n 0, 1) := by decide +kernel
theorem dX10_firstBrokenBond_16 : decode cX10_firstBrokenBond 16 = .ok (.getfield 28, 3) := by decide +kernel
theorem dX10_firstBrokenBond_19 : decode cX10_firstBrokenBond 19 = .ok (.aload_n 0, 1) := by decide +kernel
theorem dX10_firstBrokenBond_20 : decode cX10_firstBrokenBond 20 = .ok (.getfield 35, 3) := by decide +kernel
theorem dX10_firstBrokenBond_23 : decode cX10_firstBrokenBond 23 = .ok (.invokevirtual 244, 3) := by decide +kernel
theorem dX10_firstBrokenBond_26 : decode cX10_firstBrokenBond 26 = .ok (.aload_n 0, 1) := by decide +kernel
theorem dX10_firstBrokenBond_27 : decode cX10_firstBrokenBond 27 = .ok (.getfield 28, 3) := by decide +kernel
theorem dX10_firstBrokenBond_30 : decode cX10_firstBrokenBond 30 = .ok (.aload_n 0, 1) := by decide +kernel
theorem dX10_firstBrokenBond_31 : decode cX10_firstBrokenBond 31 = .ok (.getfield 35, 3) := by decide +kernel
theorem dX10_firstBrokenBond_34 : decode cX10_firstBrokenBond 34 = .ok (.aload_n 0, 1) := by decide +kernel
theorem dX10_firstBrokenBond_35 : decode cX10_firstBrokenBond 35 = .ok (.getfield 42, 3) := by decide +kernel
theorem dX10_firstBrokenBond_38 : decode cX10_firstBrokenBond 38 = .ok (.invokestatic 247, 3) := by decide +kernel
theorem dX10_firstBrokenBond_41 : decode cX10_firstBrokenBond 41 = .ok (.ireturn, 1) := by decide +kernel
theorem dX10_settle_0 : decode cX10_settle 0 = .ok (.aload_n 0, 1) := by decide +kernel
theorem dX10_settle_1 : decode cX10_settle 1 = .ok (.getfield 35, 3) := by decide +kernel
theorem dX10_settle_4 : decode cX10_settle 4 = .ok (.aload_n 0, 1) := by decide +kernel
theorem dX10_settle_5 : decode cX10_settle 5 = .ok (.getfield 28, 3) := by decide +kernel
theorem dX10_settle_8 : decode cX10_settle 8 = .ok (.invokevirtual 240, 3) := by decide +kernel
theorem dX10_settle_11 : decode cX10_settle 11 = .ok (.aload_n 0, 1) := by decide +kernel
theorem dX10_settle_12 : decode cX10_settle 12 = .ok (.getfield 42, 3) := by decide +kernel
theorem dX10_settle_15 : decode cX10_settle 15 = .ok (.aload_n 0, 1) := by decide +kernel
theorem dX10_settle_16 : decode cX10_settle 16 = .ok (.getfield 28, 3) := by decide +kernel
theorem dX10_settle_19 : decode cX10_settle 19 = .ok (.aload_n 0, 1) := by decide +kernel
theorem dX10_settle_20 : decode cX10_settle 20 = .ok (.getfield 35, 3) := by decide +kernel
theorem dX10_settle_23 : decode cX10_settle 23 = .ok (.invokevirtual 244, 3) := by decide +kernel
theorem dX10_settle_26 : decode cX10_settle 26 = .ok (.aload_n 0, 1) := by decide +kernel
theorem dX10_settle_27 : decode cX10_settle 27 = .ok (.getfield 51, 3) := by decide +kernel
theorem dX10_settle_30 : decode cX10_settle 30 = .ok (.aload_n 0, 1) := by decide +kernel
theorem dX10_settle_31 : decode cX10_settle 31 = .ok (.getfield 42, 3) := by decide +kernel
theorem dX10_settle_34 : decode cX10_settle 34 = .ok (.invokevirtual 253, 3) := by decide +kernel
theorem dX10_settle_37 : decode cX10_settle 37 = .ok (.aload_n 0, 1) := by decide +kernel
theorem dX10_settle_38 : decode cX10_settle 38 = .ok (.getfield 60, 3) := by decide +kernel
theorem dX10_settle_41 : decode cX10_settle 41 = .ok (.invokevirtual 256, 3) := by decide +kernel
theorem dX10_settle_44 : decode cX10_settle 44 = .ok (.iconst 0, 1) := by decide +kernel
theorem dX10_settle_45 : decode cX10_settle 45 = .ok (.istore_n 1, 1) := by decide +kernel
theorem dX10_settle_46 : decode cX10_settle 46 = .ok (.iload_n 1, 1) := by decide +kernel
theorem dX10_settle_47 : decode cX10_settle 47 = .ok (.bipush 8, 2) := by decide +kernel
theorem dX10_settle_49 : decode cX10_settle 49 = .ok (.if_icmp .ge 18, 3) := by decide +kernel
theorem dX10_settle_52 : decode cX10_settle 52 = .ok (.aload_n 0, 1) := by decide +kernel
theorem dX10_settle_53 : decode cX10_settle 53 = .ok (.getfield 66, 3) := by decide +kernel
theorem dX10_settle_56 : decode cX10_settle 56 = .ok (.iload_n 1, 1) := by decide +kernel
theorem dX10_settle_57 : decode cX10_settle 57 = .ok (.aaload, 1) := by decide +kernel
theorem dX10_settle_58 : decode cX10_settle 58 = .ok (.invokevirtual 259, 3) := by decide +kernel
theorem dX10_settle_61 : decode cX10_settle 61 = .ok (.iinc 1 1, 3) := by decide +kernel
theorem dX10_settle_64 : decode cX10_settle 64 = .ok (.goto (-18), 3) := by decide +kernel
theorem dX10_settle_67 : decode cX10_settle 67 = .ok (.return_, 1) := by decide +kernel
theorem dX10_courseOf_0 : decode cX10_courseOf 0 = .ok (.aload_n 0, 1) := by decide +kernel
theorem dX10_courseOf_1 : decode cX10_courseOf 1 = .ok (.getfield 66, 3) := by decide +kernel
theorem dX10_courseOf_4 : decode cX10_courseOf 4 = .ok (.iload_n 1, 1) := by decide +kernel
theorem dX10_courseOf_5 : decode cX10_courseOf 5 = .ok (.aaload, 1) := by decide +kernel
theorem dX10_courseOf_6 : decode cX10_courseOf 6 = .ok (.astore_n 2, 1) := by decide +kernel
theorem dX10_courseOf_7 : decode cX10_courseOf 7 = .ok (.aload_n 2, 1) := by decide +kernel
theorem dX10_courseOf_8 : decode cX10_courseOf 8 = .ok (.invokevirtual 260, 3) := by decide +kernel
theorem dX10_courseOf_11 : decode cX10_courseOf 11 = .ok (.ifCond .eq 5, 3) := by decide +kernel
theorem dX10_courseOf_14 : decode cX10_courseOf 14 = .ok (.aload_n 2, 1) := by decide +kernel
theorem dX10_courseOf_15 : decode cX10_courseOf 15 = .ok (.areturn, 1) := by decide +kernel
theorem dX10_courseOf_16 : decode cX10_courseOf 16 = .ok (.aload_n 2, 1) := by decide +kernel
theorem dX10_courseOf_17 : decode cX10_courseOf 17 = .ok (.invokevirtual 263, 3) := by decide +kernel
theorem dX10_courseOf_20 : decode cX10_courseOf 20 = .ok (.istore_n 3, 1) := by decide +kernel
theorem dX10_courseOf_21 : decode cX10_courseOf 21 = .ok (.iconst 0, 1) := by decide +kernel
theorem dX10_courseOf_22 : decode cX10_courseOf 22 = .ok (.istore 4, 2) := by decide +kernel
theorem dX10_courseOf_24 : decode cX10_courseOf 24 = .ok (.iload 4, 2) := by decide +kernel
theorem dX10_courseOf_26 : decode cX10_courseOf 26 = .ok (.sipush 200, 3) := by decide +kernel
theorem dX10_courseOf_29 : decode cX10_courseOf 29 = .ok (.if_icmp .ge 25, 3) := by decide +kernel
theorem dX10_courseOf_32 : decode cX10_courseOf 32 = .ok (.iload_n 3, 1) := by decide +kernel
theorem dX10_courseOf_33 : decode cX10_courseOf 33 = .ok (.iconst (-1), 1) := by decide +kernel
theorem dX10_courseOf_34 : decode cX10_courseOf 34 = .ok (.if_icmp .eq 20, 3) := by decide +kernel
theorem dX10_courseOf_37 : decode cX10_courseOf 37 = .ok (.aload_n 2, 1) := by decide +kernel
theorem dX10_courseOf_38 : decode cX10_courseOf 38 = .ok (.iload_n 3, 1) := by decide +kernel
theorem dX10_courseOf_39 : decode cX10_courseOf 39 = .ok (.invokevirtual 266, 3) := by decide +kernel
theorem dX10_courseOf_42 : decode cX10_courseOf 42 = .ok (.aload_n 2, 1) := by decide +kernel
theorem dX10_courseOf_43 : decode cX10_courseOf 43 = .ok (.iload_n 3, 1) := by decide +kernel
theorem dX10_courseOf_44 : decode cX10_courseOf 44 = .ok (.invokevirtual 269, 3) := by decide +kernel
theorem dX10_courseOf_47 : decode cX10_courseOf 47 = .ok (.istore_n 3, 1) := by decide +kernel
theorem dX10_courseOf_48 : decode cX10_courseOf 48 = .ok (.iinc 4 1, 3) := by decide +kernel
theorem dX10_courseOf_51 : decode cX10_courseOf 51 = .ok (.goto (-27), 3) := by decide +kernel
theorem dX10_courseOf_54 : decode cX10_courseOf 54 = .ok (.aload_n 2, 1) := by decide +kernel
theorem dX10_courseOf_55 : decode cX10_courseOf 55 = .ok (.areturn, 1) := by decide +kernel
end
section
theorem dL_low_0 : decode cL_low 0 = .ok (.iload_n 0, 1) := by decide +kernel
theorem dL_low_1 : decode cL_low 1 = .ok (.ldc 7, 2) := by decide +kernel
theorem dL_low_3 : decode cL_low 3 = .ok (.iand, 1) := by decide +kernel
theorem dL_low_4 : decode cL_low 4 = .ok (.iload_n 1, 1) := by decide +kernel
theorem dL_low_5 : decode cL_low 5 = .ok (.irem, 1) := by decide +kernel
theorem dL_low_6 : decode cL_low 6 = .ok (.ireturn, 1) := by decide +kernel
theorem dL_cell_0 : decode cL_cell 0 = .ok (.iload_n 1, 1) := by decide +kernel
theorem dL_cell_1 : decode cL_cell 1 = .ok (.aload_n 0, 1) := by decide +kernel
theorem dL_cell_2 : decode cL_cell 2 = .ok (.arraylength, 1) := by decide +kernel
theorem dL_cell_3 : decode cL_cell 3 = .ok (.if_icmp .ge 9, 3) := by decide +kernel
theorem dL_cell_6 : decode cL_cell 6 = .ok (.aload_n 0, 1) := by decide +kernel
theorem dL_cell_7 : decode cL_cell 7 = .ok (.iload_n 1, 1) := by decide +kernel
theorem dL_cell_8 : decode cL_cell 8 = .ok (.iaload, 1) := by decide +kernel
theorem dL_cell_9 : decode cL_cell 9 = .ok (.goto 9, 3) := by decide +kernel
theorem dL_cell_12 : decode cL_cell 12 = .ok (.ldc 8, 2) := by decide +kernel
theorem dL_cell_14 : decode cL_cell 14 = .ok (.iload_n 1, 1) := by decide +kernel
theorem dL_cell_15 : decode cL_cell 15 = .ok (.iconst 3, 1) := by decide +kernel
theorem dL_cell_16 : decode cL_cell 16 = .ok (.iadd, 1) := by decide +kernel
theorem dL_cell_17 : decode cL_cell 17 = .ok (.imul, 1) := by decide +kernel
theorem dL_cell_18 : decode cL_cell 18 = .ok (.ireturn, 1) := by decide +kernel
theorem dL_at_0 : decode cL_at 0 = .ok (.iload_n 1, 1) := by decide +kernel
theorem dL_at_1 : decode cL_at 1 = .ok (.aload_n 0, 1) := by decide +kernel
theorem dL_at_2 : decode cL_at 2 = .ok (.invokevirtual 9, 3) := by decide +kernel
theorem dL_at_5 : decode cL_at 5 = .ok (.if_icmp .ge 11, 3) := by decide +kernel
theorem dL_at_8 : decode cL_at 8 = .ok (.aload_n 0, 1) := by decide +kernel
theorem dL_at_9 : decode cL_at 9 = .ok (.iload_n 1, 1) := by decide +kernel
theorem dL_at_10 : decode cL_at 10 = .ok (.invokevirtual 15, 3) := by decide +kernel
theorem dL_at_13 : decode cL_at 13 = .ok (.goto 4, 3) := by decide +kernel
theorem dL_at_16 : decode cL_at 16 = .ok (.iconst 0, 1) := by decide +kernel
theorem dL_at_17 : decode cL_at 17 = .ok (.ireturn, 1) := by decide +kernel
theorem dL_four_0 : decode cL_four 0 = .ok (.aload_n 0, 1) := by decide +kernel
theorem dL_four_1 : decode cL_four 1 = .ok (.iload_n 1, 1) := by decide +kernel
theorem dL_four_2 : decode cL_four 2 = .ok (.invokestatic 19, 3) := by decide +kernel
theorem dL_four_5 : decode cL_four 5 = .ok (.bipush 24, 2) := by decide +kernel
theorem dL_four_7 : decode cL_four 7 = .ok (.ishl, 1) := by decide +kernel
theorem dL_four_8 : decode cL_four 8 = .ok (.aload_n 0, 1) := by decide +kernel
theorem dL_four_9 : decode cL_four 9 = .ok (.iload_n 1, 1) := by decide +kernel
theorem dL_four_10 : decode cL_four 10 = .ok (.iconst 1, 1) := by decide +kernel
theorem dL_four_11 : decode cL_four 11 = .ok (.iadd, 1) := by decide +kernel
theorem dL_four_12 : decode cL_four 12 = .ok (.invokestatic 19, 3) := by decide +kernel
theorem dL_four_15 : decode cL_four 15 = .ok (.bipush 16, 2) := by decide +kernel
theorem dL_four_17 : decode cL_four 17 = .ok (.ishl, 1) := by decide +kernel
theorem dL_four_18 : decode cL_four 18 = .ok (.ior, 1) := by decide +kernel
theorem dL_four_19 : decode cL_four 19 = .ok (.aload_n 0, 1) := by decide +kernel
theorem dL_four_20 : decode cL_four 20 = .ok (.iload_n 1, 1) := by decide +kernel
theorem dL_four_21 : decode cL_four 21 = .ok (.iconst 2, 1) := by decide +kernel
theorem dL_four_22 : decode cL_four 22 = .ok (.iadd, 1) := by decide +kernel
theorem dL_four_23 : decode cL_four 23 = .ok (.invokestatic 19, 3) := by decide +kernel
theorem dL_four_26 : decode cL_four 26 = .ok (.bipush 8, 2) := by decide +kernel
theorem dL_four_28 : decode cL_four 28 = .ok (.ishl, 1) := by decide +kernel
theorem dL_four_29 : decode cL_four 29 = .ok (.ior, 1) := by decide +kernel
theorem dL_four_30 : decode cL_four 30 = .ok (.aload_n 0, 1) := by decide +kernel
theorem dL_four_31 : decode cL_four 31 = .ok (.iload_n 1, 1) := by decide +kernel
theorem dL_four_32 : decode cL_four 32 = .ok (.iconst 3, 1) := by decide +kernel
theorem dL_four_33 : decode cL_four 33 = .ok (.iadd, 1) := by decide +kernel
theorem dL_four_34 : decode cL_four 34 = .ok (.invokestatic 19, 3) := by decide +kernel
theorem dL_four_37 : decode cL_four 37 = .ok (.ior, 1) := by decide +kernel
theorem dL_four_38 : decode cL_four 38 = .ok (.ireturn, 1) := by decide +kernel
theorem dL_tell_0 : decode cL_tell 0 = .ok (.iconst 0, 1) := by decide +kernel
theorem dL_tell_1 : decode cL_tell 1 = .ok (.istore_n 2, 1) := by decide +kernel
theorem dL_tell_2 : decode cL_tell 2 = .ok (.iload_n 2, 1) := by decide +kernel
theorem dL_tell_3 : decode cL_tell 3 = .ok (.aload_n 1, 1) := by decide +kernel
theorem dL_tell_4 : decode cL_tell 4 = .ok (.invokevirtual 9, 3) := by decide +kernel
theorem dL_tell_7 : decode cL_tell 7 = .ok (.if_icmp .ge 50, 3) := by decide +kernel
theorem dL_tell_10 : decode cL_tell 10 = .ok (.aload_n 0, 1) := by decide +kernel
theorem dL_tell_11 : decode cL_tell 11 = .ok (.aload_n 1, 1) := by decide +kernel
theorem dL_tell_12 : decode cL_tell 12 = .ok (.iload_n 2, 1) := by decide +kernel
theorem dL_tell_13 : decode cL_tell 13 = .ok (.invokestatic 25, 3) := by decide +kernel
theorem dL_tell_16 : decode cL_tell 16 = .ok (.aload_n 1, 1) := by decide +kernel
theorem dL_tell_17 : decode cL_tell 17 = .ok (.iload_n 2, 1) := by decide +kernel
theorem dL_tell_18 : decode cL_tell 18 = .ok (.iconst 4, 1) := by decide +kernel
theorem dL_tell_19 : decode cL_tell 19 = .ok (.iadd, 1) := by decide +kernel
theorem dL_tell_20 : decode cL_tell 20 = .ok (.invokestatic 25, 3) := by decide +kernel
theorem dL_tell_23 : decode cL_tell 23 = .ok (.aload_n 1, 1) := by decide +kernel
theorem dL_tell_24 : decode cL_tell 24 = .ok (.iload_n 2, 1) := by decide +kernel
theorem dL_tell_25 : decode cL_tell 25 = .ok (.bipush 8, 2) := by decide +kernel
theorem dL_tell_27 : decode cL_tell 27 = .ok (.iadd, 1) := by decide +kernel
theorem dL_tell_28 : decode cL_tell 28 = .ok (.invokestatic 25, 3) := by decide +kernel
theorem dL_tell_31 : decode cL_tell 31 = .ok (.aload_n 1, 1) := by decide +kernel
theorem dL_tell_32 : decode cL_tell 32 = .ok (.iload_n 2, 1) := by decide +kernel
theorem dL_tell_33 : decode cL_tell 33 = .ok (.bipush 12, 2) := by decide +kernel
theorem dL_tell_35 : decode cL_tell 35 = .ok (.iadd, 1) := by decide +kernel
theorem dL_tell_36 : decode cL_tell 36 = .ok (.invokestatic 25, 3) := by decide +kernel
theorem dL_tell_39 : decode cL_tell 39 = .ok (.aload_n 1, 1) := by decide +kernel
theorem dL_tell_40 : decode cL_tell 40 = .ok (.iload_n 2, 1) := by decide +kernel
theorem dL_tell_41 : decode cL_tell 41 = .ok (.bipush 16, 2) := by decide +kernel
theorem dL_tell_43 : decode cL_tell 43 = .ok (.iadd, 1) := by decide +kernel
theorem dL_tell_44 : decode cL_tell 44 = .ok (.invokestatic 25, 3) := by decide +kernel
theorem dL_tell_47 : decode cL_tell 47 = .ok (.invokevirtual 28, 3) := by decide +kernel
theorem dL_tell_50 : decode cL_tell 50 = .ok (.pop, 1) := by decide +kernel
theorem dL_tell_51 : decode cL_tell 51 = .ok (.iinc 2 20, 3) := by decide +kernel
theorem dL_tell_54 : decode cL_tell 54 = .ok (.goto (-52), 3) := by decide +kernel
theorem dL_tell_57 : decode cL_tell 57 = .ok (.aload_n 0, 1) := by decide +kernel
theorem dL_tell_58 : decode cL_tell 58 = .ok (.aload_n 1, 1) := by decide +kernel
theorem dL_tell_59 : decode cL_tell 59 = .ok (.invokevirtual 9, 3) := by decide +kernel
theorem dL_tell_62 : decode cL_tell 62 = .ok (.invokevirtual 34, 3) := by decide +kernel
theorem dL_tell_65 : decode cL_tell 65 = .ok (.istore_n 2, 1) := by decide +kernel
theorem dL_tell_66 : decode cL_tell 66 = .ok (.aload_n 1, 1) := by decide +kernel
theorem dL_tell_67 : decode cL_tell 67 = .ok (.iconst 0, 1) := by decide +kernel
theorem dL_tell_68 : decode cL_tell 68 = .ok (.invokevirtual 38, 3) := by decide +kernel
theorem dL_tell_71 : decode cL_tell 71 = .ok (.iload_n 2, 1) := by decide +kernel
theorem dL_tell_72 : decode cL_tell 72 = .ok (.ifCond .ge 7, 3) := by decide +kernel
theorem dL_tell_75 : decode cL_tell 75 = .ok (.iload_n 2, 1) := by decide +kernel
theorem dL_tell_76 : decode cL_tell 76 = .ok (.goto 7, 3) := by decide +kernel
theorem dL_tell_79 : decode cL_tell 79 = .ok (.aload_n 0, 1) := by decide +kernel
theorem dL_tell_80 : decode cL_tell 80 = .ok (.invokevirtual 42, 3) := by decide +kernel
theorem dL_tell_83 : decode cL_tell 83 = .ok (.ireturn, 1) := by decide +kernel
theorem dL_born_0 : decode cL_born 0 = .ok (.aload_n 0, 1) := by decide +kernel
theorem dL_born_1 : decode cL_born 1 = .ok (.ldc 45, 2) := by decide +kernel
theorem dL_born_3 : decode cL_born 3 = .ok (.invokevirtual 47, 3) := by decide +kernel
theorem dL_born_6 : decode cL_born 6 = .ok (.iload_n 1, 1) := by decide +kernel
theorem dL_born_7 : decode cL_born 7 = .ok (.invokevirtual 51, 3) := by decide +kernel
theorem dL_born_10 : decode cL_born 10 = .ok (.iload_n 2, 1) := by decide +kernel
theorem dL_born_11 : decode cL_born 11 = .ok (.ifCond .eq 8, 3) := by decide +kernel
theorem dL_born_14 : decode cL_born 14 = .ok (.ldc 54, 2) := by decide +kernel
theorem dL_born_16 : decode cL_born 16 = .ok (.goto 5, 3) := by decide +kernel
theorem dL_born_19 : decode cL_born 19 = .ok (.ldc 56, 2) := by decide +kernel
theorem dL_born_21 : decode cL_born 21 = .ok (.invokevirtual 47, 3) := by decide +kernel
theorem dL_born_24 : decode cL_born 24 = .ok (.pop, 1) := by decide +kernel
theorem dL_born_25 : decode cL_born 25 = .ok (.iload_n 3, 1) := by decide +kernel
theorem dL_born_26 : decode cL_born 26 = .ok (.ifCond .ge 13, 3) := by decide +kernel
theorem dL_born_29 : decode cL_born 29 = .ok (.aload_n 0, 1) := by decide +kernel
theorem dL_born_30 : decode cL_born 30 = .ok (.ldc 58, 2) := by decide +kernel
theorem dL_born_32 : decode cL_born 32 = .ok (.invokevirtual 47, 3) := by decide +kernel
theorem dL_born_35 : decode cL_born 35 = .ok (.pop, 1) := by decide +kernel
theorem dL_born_36 : decode cL_born 36 = .ok (.goto 14, 3) := by decide +kernel
theorem dL_born_39 : decode cL_born 39 = .ok (.aload_n 0, 1) := by decide +kernel
theorem dL_born_40 : decode cL_born 40 = .ok (.iload_n 3, 1) := by decide +kernel
theorem dL_born_41 : decode cL_born 41 = .ok (.invokevirtual 51, 3) := by decide +kernel
theorem dL_born_44 : decode cL_born 44 = .ok (.ldc 60, 2) := by decide +kernel
theorem dL_born_46 : decode cL_born 46 = .ok (.invokevirtual 47, 3) := by decide +kernel
theorem dL_born_49 : decode cL_born 49 = .ok (.pop, 1) := by decide +kernel
theorem dL_born_50 : decode cL_born 50 = .ok (.iload 4, 2) := by decide +kernel
theorem dL_born_52 : decode cL_born 52 = .ok (.ifCond .ge 12, 3) := by decide +kernel
theorem dL_born_55 : decode cL_born 55 = .ok (.aload_n 0, 1) := by decide +kernel
theorem dL_born_56 : decode cL_born 56 = .ok (.ldc 62, 2) := by decide +kernel
theorem dL_born_58 : decode cL_born 58 = .ok (.invokevirtual 47, 3) := by decide +kernel
theorem dL_born_61 : decode cL_born 61 = .ok (.goto 9, 3) := by decide +kernel
theorem dL_born_64 : decode cL_born 64 = .ok (.aload_n 0, 1) := by decide +kernel
theorem dL_born_65 : decode cL_born 65 = .ok (.iload 4, 2) := by decide +kernel
theorem dL_born_67 : decode cL_born 67 = .ok (.invokevirtual 51, 3) := by decide +kernel
theorem dL_born_70 : decode cL_born 70 = .ok (.areturn, 1) := by decide +kernel
theorem dL_text_0 : decode cL_text 0 = .ok (.aload_n 0, 1) := by decide +kernel
theorem dL_text_1 : decode cL_text 1 = .ok (.aload_n 1, 1) := by decide +kernel
theorem dL_text_2 : decode cL_text 2 = .ok (.invokevirtual 47, 3) := by decide +kernel
theorem dL_text_5 : decode cL_text 5 = .ok (.bipush 32, 2) := by decide +kernel
theorem dL_text_7 : decode cL_text 7 = .ok (.invokevirtual 64, 3) := by decide +kernel
theorem dL_text_10 : decode cL_text 10 = .ok (.iload_n 2, 1) := by decide +kernel
theorem dL_text_11 : decode cL_text 11 = .ok (.invokevirtual 51, 3) := by decide +kernel
theorem dL_text_14 : decode cL_text 14 = .ok (.bipush 32, 2) := by decide +kernel
theorem dL_text_16 : decode cL_text 16 = .ok (.invokevirtual 64, 3) := by decide +kernel
theorem dL_text_19 : decode cL_text 19 = .ok (.iload_n 3, 1) := by decide +kernel
theorem dL_text_20 : decode cL_text 20 = .ok (.invokevirtual 51, 3) := by decide +kernel
theorem dL_text_23 : decode cL_text 23 = .ok (.pop, 1) := by decide +kernel
theorem dL_text_24 : decode cL_text 24 = .ok (.iload 4, 2) := by decide +kernel
theorem dL_text_26 : decode cL_text 26 = .ok (.ifCond .ge 7, 3) := by decide +kernel
theorem dL_text_29 : decode cL_text 29 = .ok (.aload_n 0, 1) := by decide +kernel
theorem dL_text_30 : decode cL_text 30 = .ok (.goto 14, 3) := by decide +kernel
theorem dL_text_33 : decode cL_text 33 = .ok (.aload_n 0, 1) := by decide +kernel
theorem dL_text_34 : decode cL_text 34 = .ok (.bipush 32, 2) := by decide +kernel
theorem dL_text_36 : decode cL_text 36 = .ok (.invokevirtual 64, 3) := by decide +kernel
theorem dL_text_39 : decode cL_text 39 = .ok (.iload 4, 2) := by decide +kernel
theorem dL_text_41 : decode cL_text 41 = .ok (.invokevirtual 51, 3) := by decide +kernel
theorem dL_text_44 : decode cL_text 44 = .ok (.areturn, 1) := by decide +kernel
theorem dL_law_0 : decode cL_law 0 = .ok (.new 29, 3) := by decide +kernel
theorem dL_law_3 : decode cL_law 3 = .ok (.dup, 1) := by decide +kernel
theorem dL_law_4 : decode cL_law 4 = .ok (.invokespecial 67, 3) := by decide +kernel
theorem dL_law_7 : decode cL_law 7 = .ok (.astore_n 1, 1) := by decide +kernel
theorem dL_law_8 : decode cL_law 8 = .ok (.new 10, 3) := by decide +kernel
theorem dL_law_11 : decode cL_law 11 = .ok (.dup, 1) := by decide +kernel
theorem dL_law_12 : decode cL_law 12 = .ok (.invokespecial 68, 3) := by decide +kernel
theorem dL_law_15 : decode cL_law 15 = .ok (.astore_n 2, 1) := by decide +kernel
theorem dL_law_16 : decode cL_law 16 = .ok (.iconst 5, 1) := by decide +kernel
theorem dL_law_17 : decode cL_law 17 = .ok (.anewarray 69, 3) := by decide +kernel
theorem dL_law_20 : decode cL_law 20 = .ok (.dup, 1) := by decide +kernel
theorem dL_law_21 : decode cL_law 21 = .ok (.iconst 0, 1) := by decide +kernel
theorem dL_law_22 : decode cL_law 22 = .ok (.ldc 71, 2) := by decide +kernel
theorem dL_law_24 : decode cL_law 24 = .ok (.aastore, 1) := by decide +kernel
theorem dL_law_25 : decode cL_law 25 = .ok (.dup, 1) := by decide +kernel
theorem dL_law_26 : decode cL_law 26 = .ok (.iconst 1, 1) := by decide +kernel
theorem dL_law_27 : decode cL_law 27 = .ok (.ldc 73, 2) := by decide +kernel
theorem dL_law_29 : decode cL_law 29 = .ok (.aastore, 1) := by decide +kernel
theorem dL_law_30 : decode cL_law 30 = .ok (.dup, 1) := by decide +kernel
theorem dL_law_31 : decode cL_law 31 = .ok (.iconst 2, 1) := by decide +kernel
theorem dL_law_32 : decode cL_law 32 = .ok (.ldc 75, 2) := by decide +kernel
theorem dL_law_34 : decode cL_law 34 = .ok (.aastore, 1) := by decide +kernel
theorem dL_law_35 : decode cL_law 35 = .ok (.dup, 1) := by decide +kernel
theorem dL_law_36 : decode cL_law 36 = .ok (.iconst 3, 1) := by decide +kernel
theorem dL_law_37 : decode cL_law 37 = .ok (.ldc 77, 2) := by decide +kernel
theorem dL_law_39 : decode cL_law 39 = .ok (.aastore, 1) := by decide +kernel
theorem dL_law_40 : decode cL_law 40 = .ok (.dup, 1) := by decide +kernel
theorem dL_law_41 : decode cL_law 41 = .ok (.iconst 4, 1) := by decide +kernel
theorem dL_law_42 : decode cL_law 42 = .ok (.ldc 79, 2) := by decide +kernel
theorem dL_law_44 : decode cL_law 44 = .ok (.aastore, 1) := by decide +kernel
theorem dL_law_45 : decode cL_law 45 = .ok (.astore_n 3, 1) := by decide +kernel
theorem dL_law_46 : decode cL_law 46 = .ok (.bipush 24, 2) := by decide +kernel
theorem dL_law_48 : decode cL_law 48 = .ok (.newarray .int, 2) := by decide +kernel
theorem dL_law_50 : decode cL_law 50 = .ok (.astore 4, 2) := by decide +kernel
theorem dL_law_52 : decode cL_law 52 = .ok (.bipush 24, 2) := by decide +kernel
theorem dL_law_54 : decode cL_law 54 = .ok (.newarray .boolean, 2) := by decide +kernel
theorem dL_law_56 : decode cL_law 56 = .ok (.astore 5, 2) := by decide +kernel
theorem dL_law_58 : decode cL_law 58 = .ok (.aload 5, 2) := by decide +kernel
theorem dL_law_60 : decode cL_law 60 = .ok (.iconst 0, 1) := by decide +kernel
theorem dL_law_61 : decode cL_law 61 = .ok (.iconst 1, 1) := by decide +kernel
theorem dL_law_62 : decode cL_law 62 = .ok (.bastore, 1) := by decide +kernel
theorem dL_law_63 : decode cL_law 63 = .ok (.aload_n 1, 1) := by decide +kernel
theorem dL_law_64 : decode cL_law 64 = .ok (.aload_n 2, 1) := by decide +kernel
theorem dL_law_65 : decode cL_law 65 = .ok (.iconst 0, 1) := by decide +kernel
theorem dL_law_66 : decode cL_law 66 = .ok (.iconst 1, 1) := by decide +kernel
theorem dL_law_67 : decode cL_law 67 = .ok (.iconst (-1), 1) := by decide +kernel
theorem dL_law_68 : decode cL_law 68 = .ok (.iconst (-1), 1) := by decide +kernel
theorem dL_law_69 : decode cL_law 69 = .ok (.invokestatic 81, 3) := by decide +kernel
theorem dL_law_72 : decode cL_law 72 = .ok (.invokestatic 85, 3) := by decide +kernel
theorem dL_law_75 : decode cL_law 75 = .ok (.ifCond .ne 38, 3) := by decide +kernel
theorem dL_law_78 : decode cL_law 78 = .ok (.aload_n 1, 1) := by decide +kernel
theorem dL_law_79 : decode cL_law 79 = .ok (.aload_n 2, 1) := by decide +kernel
theorem dL_law_80 : decode cL_law 80 = .ok (.iconst 0, 1) := by decide +kernel
theorem dL_law_81 : decode cL_law 81 = .ok (.iconst 0, 1) := by decide +kernel
theorem dL_law_82 : decode cL_law 82 = .ok (.iconst (-1), 1) := by decide +kernel
theorem dL_law_83 : decode cL_law 83 = .ok (.iconst (-1), 1) := by decide +kernel
theorem dL_law_84 : decode cL_law 84 = .ok (.invokestatic 81, 3) := by decide +kernel
theorem dL_law_87 : decode cL_law 87 = .ok (.invokestatic 85, 3) := by decide +kernel
theorem dL_law_90 : decode cL_law 90 = .ok (.iconst 1, 1) := by decide +kernel
theorem dL_law_91 : decode cL_law 91 = .ok (.if_icmp .ne 22, 3) := by decide +kernel
theorem dL_law_94 : decode cL_law 94 = .ok (.aload_n 1, 1) := by decide +kernel
theorem dL_law_95 : decode cL_law 95 = .ok (.aload_n 2, 1) := by decide +kernel
theorem dL_law_96 : decode cL_law 96 = .ok (.ldc 89, 2) := by decide +kernel
theorem dL_law_98 : decode cL_law 98 = .ok (.sipush 4000, 3) := by decide +kernel
theorem dL_law_101 : decode cL_law 101 = .ok (.iconst 0, 1) := by decide +kernel
theorem dL_law_102 : decode cL_law 102 = .ok (.iconst 1, 1) := by decide +kernel
theorem dL_law_103 : decode cL_law 103 = .ok (.invokestatic 91, 3) := by decide +kernel
theorem dL_law_106 : decode cL_law 106 = .ok (.invokestatic 85, 3) := by decide +kernel
theorem dL_law_109 : decode cL_law 109 = .ok (.iconst 2, 1) := by decide +kernel
theorem dL_law_110 : decode cL_law 110 = .ok (.if_icmp .eq 5, 3) := by decide +kernel
theorem dL_law_113 : decode cL_law 113 = .ok (.iconst 0, 1) := by decide +kernel
theorem dL_law_114 : decode cL_law 114 = .ok (.ireturn, 1) := by decide +kernel
theorem dL_law_115 : decode cL_law 115 = .ok (.iconst 2, 1) := by decide +kernel
theorem dL_law_116 : decode cL_law 116 = .ok (.istore 6, 2) := by decide +kernel
theorem dL_law_118 : decode cL_law 118 = .ok (.iconst 0, 1) := by decide +kernel
theorem dL_law_119 : decode cL_law 119 = .ok (.istore 7, 2) := by decide +kernel
theorem dL_law_121 : decode cL_law 121 = .ok (.iload 7, 2) := by decide +kernel
theorem dL_law_123 : decode cL_law 123 = .ok (.bipush 10, 2) := by decide +kernel
theorem dL_law_125 : decode cL_law 125 = .ok (.if_icmp .ge 281, 3) := by decide +kernel
theorem dL_law_128 : decode cL_law 128 = .ok (.aload_n 0, 1) := by decide +kernel
theorem dL_law_129 : decode cL_law 129 = .ok (.iload 7, 2) := by decide +kernel
theorem dL_law_131 : decode cL_law 131 = .ok (.invokestatic 95, 3) := by decide +kernel
theorem dL_law_134 : decode cL_law 134 = .ok (.istore 8, 2) := by decide +kernel
theorem dL_law_136 : decode cL_law 136 = .ok (.iload 8, 2) := by decide +kernel
theorem dL_law_138 : decode cL_law 138 = .ok (.iconst 4, 1) := by decide +kernel
theorem dL_law_139 : decode cL_law 139 = .ok (.ishr, 1) := by decide +kernel
theorem dL_law_140 : decode cL_law 140 = .ok (.iload 6, 2) := by decide +kernel
theorem dL_law_142 : decode cL_law 142 = .ok (.invokestatic 99, 3) := by decide +kernel
theorem dL_law_145 : decode cL_law 145 = .ok (.istore 9, 2) := by decide +kernel
theorem dL_law_147 : decode cL_law 147 = .ok (.aload 4, 2) := by decide +kernel
theorem dL_law_149 : decode cL_law 149 = .ok (.iload 9, 2) := by decide +kernel
theorem dL_law_151 : decode cL_law 151 = .ok (.iaload, 1) := by decide +kernel
theorem dL_law_152 : decode cL_law 152 = .ok (.sipush 4300, 3) := by decide +kernel
theorem dL_law_155 : decode cL_law 155 = .ok (.iadd, 1) := by decide +kernel
theorem dL_law_156 : decode cL_law 156 = .ok (.iload 8, 2) := by decide +kernel
theorem dL_law_158 : decode cL_law 158 = .ok (.bipush 12, 2) := by decide +kernel
theorem dL_law_160 : decode cL_law 160 = .ok (.ishr, 1) := by decide +kernel
theorem dL_law_161 : decode cL_law 161 = .ok (.sipush 9000, 3) := by decide +kernel
theorem dL_law_164 : decode cL_law 164 = .ok (.invokestatic 99, 3) := by decide +kernel
theorem dL_law_167 : decode cL_law 167 = .ok (.iadd, 1) := by decide +kernel
theorem dL_law_168 : decode cL_law 168 = .ok (.istore 10, 2) := by decide +kernel
theorem dL_law_170 : decode cL_law 170 = .ok (.iload 10, 2) := by decide +kernel
theorem dL_law_172 : decode cL_law 172 = .ok (.ldc 103, 2) := by decide +kernel
theorem dL_law_174 : decode cL_law 174 = .ok (.if_icmp .le 6, 3) := by decide +kernel
theorem dL_law_177 : decode cL_law 177 = .ok (.goto 223, 3) := by decide +kernel
theorem dL_law_180 : decode cL_law 180 = .ok (.aload_n 1, 1) := by decide +kernel
theorem dL_law_181 : decode cL_law 181 = .ok (.iload 9, 2) := by decide +kernel
theorem dL_law_183 : decode cL_law 183 = .ok (.iload 10, 2) := by decide +kernel
theorem dL_law_185 : decode cL_law 185 = .ok (.sipush 200, 3) := by decide +kernel
theorem dL_law_188 : decode cL_law 188 = .ok (.isub, 1) := by decide +kernel
theorem dL_law_189 : decode cL_law 189 = .ok (.invokevirtual 104, 3) := by decide +kernel
theorem dL_law_192 : decode cL_law 192 = .ok (.istore 11, 2) := by decide +kernel
theorem dL_law_194 : decode cL_law 194 = .ok (.iload 11, 2) := by decide +kernel
theorem dL_law_196 : decode cL_law 196 = .ok (.ifCond .ge 127, 3) := by decide +kernel
theorem dL_law_199 : decode cL_law 199 = .ok (.iload 6, 2) := by decide +kernel
theorem dL_law_201 : decode cL_law 201 = .ok (.istore 11, 2) := by decide +kernel
theorem dL_law_203 : decode cL_law 203 = .ok (.aload 4, 2) := by decide +kernel
theorem dL_law_205 : decode cL_law 205 = .ok (.iload 11, 2) := by decide +kernel
theorem dL_law_207 : decode cL_law 207 = .ok (.aload 4, 2) := by decide +kernel
theorem dL_law_209 : decode cL_law 209 = .ok (.iload 9, 2) := by decide +kernel
theorem dL_law_211 : decode cL_law 211 = .ok (.iaload, 1) := by decide +kernel
theorem dL_law_212 : decode cL_law 212 = .ok (.iastore, 1) := by decide +kernel
theorem dL_law_213 : decode cL_law 213 = .ok (.aload 5, 2) := by decide +kernel
theorem dL_law_215 : decode cL_law 215 = .ok (.iload 11, 2) := by decide +kernel
theorem dL_law_217 : decode cL_law 217 = .ok (.aload 5, 2) := by decide +kernel
theorem dL_law_219 : decode cL_law 219 = .ok (.iload 9, 2) := by decide +kernel
theorem dL_law_221 : decode cL_law 221 = .ok (.baload, 1) := by decide +kernel
theorem dL_law_222 : decode cL_law 222 = .ok (.ifCond .ne 7, 3) := by decide +kernel
theorem dL_law_225 : decode cL_law 225 = .ok (.iconst 1, 1) := by decide +kernel
theorem dL_law_226 : decode cL_law 226 = .ok (.goto 4, 3) := by decide +kernel
theorem dL_law_229 : decode cL_law 229 = .ok (.iconst 0, 1) := by decide +kernel
theorem dL_law_230 : decode cL_law 230 = .ok (.bastore, 1) := by decide +kernel
theorem dL_law_231 : decode cL_law 231 = .ok (.aload_n 1, 1) := by decide +kernel
theorem dL_law_232 : decode cL_law 232 = .ok (.aload_n 2, 1) := by decide +kernel
theorem dL_law_233 : decode cL_law 233 = .ok (.aload 4, 2) := by decide +kernel
theorem dL_law_235 : decode cL_law 235 = .ok (.iload 11, 2) := by decide +kernel
theorem dL_law_237 : decode cL_law 237 = .ok (.iaload, 1) := by decide +kernel
theorem dL_law_238 : decode cL_law 238 = .ok (.aload 5, 2) := by decide +kernel
theorem dL_law_240 : decode cL_law 240 = .ok (.iload 11, 2) := by decide +kernel
theorem dL_law_242 : decode cL_law 242 = .ok (.baload, 1) := by decide +kernel
theorem dL_law_243 : decode cL_law 243 = .ok (.iconst (-1), 1) := by decide +kernel
theorem dL_law_244 : decode cL_law 244 = .ok (.iconst (-1), 1) := by decide +kernel
theorem dL_law_245 : decode cL_law 245 = .ok (.invokestatic 81, 3) := by decide +kernel
theorem dL_law_248 : decode cL_law 248 = .ok (.invokestatic 85, 3) := by decide +kernel
theorem dL_law_251 : decode cL_law 251 = .ok (.ifCond .ge 5, 3) := by decide +kernel
theorem dL_law_254 : decode cL_law 254 = .ok (.iconst 0, 1) := by decide +kernel
theorem dL_law_255 : decode cL_law 255 = .ok (.ireturn, 1) := by decide +kernel
theorem dL_law_256 : decode cL_law 256 = .ok (.iinc 6 1, 3) := by decide +kernel
theorem dL_law_259 : decode cL_law 259 = .ok (.aload_n 1, 1) := by decide +kernel
theorem dL_law_260 : decode cL_law 260 = .ok (.aload_n 2, 1) := by decide +kernel
theorem dL_law_261 : decode cL_law 261 = .ok (.ldc 89, 2) := by decide +kernel
theorem dL_law_263 : decode cL_law 263 = .ok (.iload 10, 2) := by decide +kernel
theorem dL_law_265 : decode cL_law 265 = .ok (.sipush 200, 3) := by decide +kernel
theorem dL_law_268 : decode cL_law 268 = .ok (.isub, 1) := by decide +kernel
theorem dL_law_269 : decode cL_law 269 = .ok (.aload 5, 2) := by decide +kernel
theorem dL_law_271 : decode cL_law 271 = .ok (.iload 9, 2) := by decide +kernel
theorem dL_law_273 : decode cL_law 273 = .ok (.baload, 1) := by decide +kernel
theorem dL_law_274 : decode cL_law 274 = .ok (.ifCond .eq 8, 3) := by decide +kernel
theorem dL_law_277 : decode cL_law 277 = .ok (.iload 9, 2) := by decide +kernel
theorem dL_law_279 : decode cL_law 279 = .ok (.goto 5, 3) := by decide +kernel
theorem dL_law_282 : decode cL_law 282 = .ok (.iload 11, 2) := by decide +kernel
theorem dL_law_284 : decode cL_law 284 = .ok (.aload 5, 2) := by decide +kernel
theorem dL_law_286 : decode cL_law 286 = .ok (.iload 9, 2) := by decide +kernel
theorem dL_law_288 : decode cL_law 288 = .ok (.baload, 1) := by decide +kernel
theorem dL_law_289 : decode cL_law 289 = .ok (.ifCond .eq 8, 3) := by decide +kernel
theorem dL_law_292 : decode cL_law 292 = .ok (.iload 11, 2) := by decide +kernel
theorem dL_law_294 : decode cL_law 294 = .ok (.goto 5, 3) := by decide +kernel
theorem dL_law_297 : decode cL_law 297 = .ok (.iload 9, 2) := by decide +kernel
theorem dL_law_299 : decode cL_law 299 = .ok (.invokestatic 91, 3) := by decide +kernel
theorem dL_law_302 : decode cL_law 302 = .ok (.invokestatic 85, 3) := by decide +kernel
theorem dL_law_305 : decode cL_law 305 = .ok (.istore 12, 2) := by decide +kernel
theorem dL_law_307 : decode cL_law 307 = .ok (.iload 12, 2) := by decide +kernel
theorem dL_law_309 : decode cL_law 309 = .ok (.ifCond .ge 14, 3) := by decide +kernel
theorem dL_law_312 : decode cL_law 312 = .ok (.aload_n 1, 1) := by decide +kernel
theorem dL_law_313 : decode cL_law 313 = .ok (.invokevirtual 107, 3) := by decide +kernel
theorem dL_law_316 : decode cL_law 316 = .ok (.bipush 7, 2) := by decide +kernel
theorem dL_law_318 : decode cL_law 318 = .ok (.if_icmp .eq 5, 3) := by decide +kernel
theorem dL_law_321 : decode cL_law 321 = .ok (.iconst 0, 1) := by decide +kernel
theorem dL_law_322 : decode cL_law 322 = .ok (.ireturn, 1) := by decide +kernel
theorem dL_law_323 : decode cL_law 323 = .ok (.aload 4, 2) := by decide +kernel
theorem dL_law_325 : decode cL_law 325 = .ok (.iload 6, 2) := by decide +kernel
theorem dL_law_327 : decode cL_law 327 = .ok (.iload 10, 2) := by decide +kernel
theorem dL_law_329 : decode cL_law 329 = .ok (.iastore, 1) := by decide +kernel
theorem dL_law_330 : decode cL_law 330 = .ok (.aload 5, 2) := by decide +kernel
theorem dL_law_332 : decode cL_law 332 = .ok (.iload 6, 2) := by decide +kernel
theorem dL_law_334 : decode cL_law 334 = .ok (.iload 8, 2) := by decide +kernel
theorem dL_law_336 : decode cL_law 336 = .ok (.iconst 1, 1) := by decide +kernel
theorem dL_law_337 : decode cL_law 337 = .ok (.iand, 1) := by decide +kernel
theorem dL_law_338 : decode cL_law 338 = .ok (.ifCond .ne 7, 3) := by decide +kernel
theorem dL_law_341 : decode cL_law 341 = .ok (.iconst 1, 1) := by decide +kernel
theorem dL_law_342 : decode cL_law 342 = .ok (.goto 4, 3) := by decide +kernel
theorem dL_law_345 : decode cL_law 345 = .ok (.iconst 0, 1) := by decide +kernel
theorem dL_law_346 : decode cL_law 346 = .ok (.bastore, 1) := by decide +kernel
theorem dL_law_347 : decode cL_law 347 = .ok (.aload_n 1, 1) := by decide +kernel
theorem dL_law_348 : decode cL_law 348 = .ok (.aload_n 2, 1) := by decide +kernel
theorem dL_law_349 : decode cL_law 349 = .ok (.iload 10, 2) := by decide +kernel
theorem dL_law_351 : decode cL_law 351 = .ok (.aload 5, 2) := by decide +kernel
theorem dL_law_353 : decode cL_law 353 = .ok (.iload 6, 2) := by decide +kernel
theorem dL_law_355 : decode cL_law 355 = .ok (.baload, 1) := by decide +kernel
theorem dL_law_356 : decode cL_law 356 = .ok (.aload 5, 2) := by decide +kernel
theorem dL_law_358 : decode cL_law 358 = .ok (.iload 9, 2) := by decide +kernel
theorem dL_law_360 : decode cL_law 360 = .ok (.baload, 1) := by decide +kernel
theorem dL_law_361 : decode cL_law 361 = .ok (.ifCond .eq 8, 3) := by decide +kernel
theorem dL_law_364 : decode cL_law 364 = .ok (.iload 9, 2) := by decide +kernel
theorem dL_law_366 : decode cL_law 366 = .ok (.goto 5, 3) := by decide +kernel
theorem dL_law_369 : decode cL_law 369 = .ok (.iload 11, 2) := by decide +kernel
theorem dL_law_371 : decode cL_law 371 = .ok (.aload 5, 2) := by decide +kernel
theorem dL_law_373 : decode cL_law 373 = .ok (.iload 9, 2) := by decide +kernel
theorem dL_law_375 : decode cL_law 375 = .ok (.baload, 1) := by decide +kernel
theorem dL_law_376 : decode cL_law 376 = .ok (.ifCond .eq 8, 3) := by decide +kernel
theorem dL_law_379 : decode cL_law 379 = .ok (.iload 11, 2) := by decide +kernel
theorem dL_law_381 : decode cL_law 381 = .ok (.goto 5, 3) := by decide +kernel
theorem dL_law_384 : decode cL_law 384 = .ok (.iload 9, 2) := by decide +kernel
theorem dL_law_386 : decode cL_law 386 = .ok (.invokestatic 81, 3) := by decide +kernel
theorem dL_law_389 : decode cL_law 389 = .ok (.invokestatic 85, 3) := by decide +kernel
theorem dL_law_392 : decode cL_law 392 = .ok (.ifCond .ge 5, 3) := by decide +kernel
theorem dL_law_395 : decode cL_law 395 = .ok (.iconst 0, 1) := by decide +kernel
theorem dL_law_396 : decode cL_law 396 = .ok (.ireturn, 1) := by decide +kernel
theorem dL_law_397 : decode cL_law 397 = .ok (.iinc 6 1, 3) := by decide +kernel
theorem dL_law_400 : decode cL_law 400 = .ok (.iinc 7 1, 3) := by decide +kernel
theorem dL_law_403 : decode cL_law 403 = .ok (.goto (-282), 3) := by decide +kernel
theorem dL_law_406 : decode cL_law 406 = .ok (.aload_n 0, 1) := by decide +kernel
theorem dL_law_407 : decode cL_law 407 = .ok (.bipush 10, 2) := by decide +kernel
theorem dL_law_409 : decode cL_law 409 = .ok (.invokestatic 95, 3) := by decide +kernel
theorem dL_law_412 : decode cL_law 412 = .ok (.sipush 20000, 3) := by decide +kernel
theorem dL_law_415 : decode cL_law 415 = .ok (.invokestatic 99, 3) := by decide +kernel
theorem dL_law_418 : decode cL_law 418 = .ok (.istore 7, 2) := by decide +kernel
theorem dL_law_420 : decode cL_law 420 = .ok (.aload_n 1, 1) := by decide +kernel
theorem dL_law_421 : decode cL_law 421 = .ok (.aload_n 2, 1) := by decide +kernel
theorem dL_law_422 : decode cL_law 422 = .ok (.ldc 110, 2) := by decide +kernel
theorem dL_law_424 : decode cL_law 424 = .ok (.iload 7, 2) := by decide +kernel
theorem dL_law_426 : decode cL_law 426 = .ok (.iconst 0, 1) := by decide +kernel
theorem dL_law_427 : decode cL_law 427 = .ok (.iconst (-1), 1) := by decide +kernel
theorem dL_law_428 : decode cL_law 428 = .ok (.invokestatic 91, 3) := by decide +kernel
theorem dL_law_431 : decode cL_law 431 = .ok (.bipush 32, 2) := by decide +kernel
theorem dL_law_433 : decode cL_law 433 = .ok (.invokevirtual 64, 3) := by decide +kernel
theorem dL_law_436 : decode cL_law 436 = .ok (.aload_n 3, 1) := by decide +kernel
theorem dL_law_437 : decode cL_law 437 = .ok (.aload_n 0, 1) := by decide +kernel
theorem dL_law_438 : decode cL_law 438 = .ok (.bipush 11, 2) := by decide +kernel
theorem dL_law_440 : decode cL_law 440 = .ok (.invokestatic 95, 3) := by decide +kernel
theorem dL_law_443 : decode cL_law 443 = .ok (.iconst 5, 1) := by decide +kernel
theorem dL_law_444 : decode cL_law 444 = .ok (.invokestatic 99, 3) := by decide +kernel
theorem dL_law_447 : decode cL_law 447 = .ok (.aaload, 1) := by decide +kernel
theorem dL_law_448 : decode cL_law 448 = .ok (.invokevirtual 47, 3) := by decide +kernel
theorem dL_law_451 : decode cL_law 451 = .ok (.invokestatic 85, 3) := by decide +kernel
theorem dL_law_454 : decode cL_law 454 = .ok (.ifCond .ge 5, 3) := by decide +kernel
theorem dL_law_457 : decode cL_law 457 = .ok (.iconst 0, 1) := by decide +kernel
theorem dL_law_458 : decode cL_law 458 = .ok (.ireturn, 1) := by decide +kernel
theorem dL_law_459 : decode cL_law 459 = .ok (.iconst 0, 1) := by decide +kernel
theorem dL_law_460 : decode cL_law 460 = .ok (.istore 8, 2) := by decide +kernel
theorem dL_law_462 : decode cL_law 462 = .ok (.iload 8, 2) := by decide +kernel
theorem dL_law_464 : decode cL_law 464 = .ok (.bipush 6, 2) := by decide +kernel
theorem dL_law_466 : decode cL_law 466 = .ok (.if_icmp .ge 82, 3) := by decide +kernel
theorem dL_law_469 : decode cL_law 469 = .ok (.aload_n 0, 1) := by decide +kernel
theorem dL_law_470 : decode cL_law 470 = .ok (.bipush 12, 2) := by decide +kernel
theorem dL_law_472 : decode cL_law 472 = .ok (.iload 8, 2) := by decide +kernel
theorem dL_law_474 : decode cL_law 474 = .ok (.iadd, 1) := by decide +kernel
theorem dL_law_475 : decode cL_law 475 = .ok (.invokestatic 95, 3) := by decide +kernel
theorem dL_law_478 : decode cL_law 478 = .ok (.istore 9, 2) := by decide +kernel
theorem dL_law_480 : decode cL_law 480 = .ok (.iload 9, 2) := by decide +kernel
theorem dL_law_482 : decode cL_law 482 = .ok (.iconst 3, 1) := by decide +kernel
theorem dL_law_483 : decode cL_law 483 = .ok (.ishr, 1) := by decide +kernel
theorem dL_law_484 : decode cL_law 484 = .ok (.iload 6, 2) := by decide +kernel
theorem dL_law_486 : decode cL_law 486 = .ok (.invokestatic 99, 3) := by decide +kernel
theorem dL_law_489 : decode cL_law 489 = .ok (.istore 10, 2) := by decide +kernel
theorem dL_law_491 : decode cL_law 491 = .ok (.aload_n 1, 1) := by decide +kernel
theorem dL_law_492 : decode cL_law 492 = .ok (.aload_n 2, 1) := by decide +kernel
theorem dL_law_493 : decode cL_law 493 = .ok (.ldc 112, 2) := by decide +kernel
theorem dL_law_495 : decode cL_law 495 = .ok (.ldc 114, 2) := by decide +kernel
theorem dL_law_497 : decode cL_law 497 = .ok (.aload 4, 2) := by decide +kernel
theorem dL_law_499 : decode cL_law 499 = .ok (.iload 10, 2) := by decide +kernel
theorem dL_law_501 : decode cL_law 501 = .ok (.iaload, 1) := by decide +kernel
theorem dL_law_502 : decode cL_law 502 = .ok (.iload 9, 2) := by decide +kernel
theorem dL_law_504 : decode cL_law 504 = .ok (.bipush 8, 2) := by decide +kernel
theorem dL_law_506 : decode cL_law 506 = .ok (.ishr, 1) := by decide +kernel
theorem dL_law_507 : decode cL_law 507 = .ok (.ldc 114, 2) := by decide +kernel
theorem dL_law_509 : decode cL_law 509 = .ok (.invokestatic 99, 3) := by decide +kernel
theorem dL_law_512 : decode cL_law 512 = .ok (.iadd, 1) := by decide +kernel
theorem dL_law_513 : decode cL_law 513 = .ok (.invokestatic 115, 3) := by decide +kernel
theorem dL_law_516 : decode cL_law 516 = .ok (.iload 10, 2) := by decide +kernel
theorem dL_law_518 : decode cL_law 518 = .ok (.iconst (-1), 1) := by decide +kernel
theorem dL_law_519 : decode cL_law 519 = .ok (.invokestatic 91, 3) := by decide +kernel
theorem dL_law_522 : decode cL_law 522 = .ok (.invokestatic 85, 3) := by decide +kernel
theorem dL_law_525 : decode cL_law 525 = .ok (.istore 11, 2) := by decide +kernel
theorem dL_law_527 : decode cL_law 527 = .ok (.iload 11, 2) := by decide +kernel
theorem dL_law_529 : decode cL_law 529 = .ok (.ifCond .ge 13, 3) := by decide +kernel
theorem dL_law_532 : decode cL_law 532 = .ok (.aload_n 1, 1) := by decide +kernel
theorem dL_law_533 : decode cL_law 533 = .ok (.invokevirtual 120, 3) := by decide +kernel
theorem dL_law_536 : decode cL_law 536 = .ok (.iconst 5, 1) := by decide +kernel
theorem dL_law_537 : decode cL_law 537 = .ok (.if_icmp .eq 5, 3) := by decide +kernel
theorem dL_law_540 : decode cL_law 540 = .ok (.iconst 0, 1) := by decide +kernel
theorem dL_law_541 : decode cL_law 541 = .ok (.ireturn, 1) := by decide +kernel
theorem dL_law_542 : decode cL_law 542 = .ok (.iinc 8 1, 3) := by decide +kernel
theorem dL_law_545 : decode cL_law 545 = .ok (.goto (-83), 3) := by decide +kernel
theorem dL_law_548 : decode cL_law 548 = .ok (.ldc 123, 2) := by decide +kernel
theorem dL_law_550 : decode cL_law 550 = .ok (.istore 8, 2) := by decide +kernel
theorem dL_law_552 : decode cL_law 552 = .ok (.bipush 24, 2) := by decide +kernel
theorem dL_law_554 : decode cL_law 554 = .ok (.newarray .int, 2) := by decide +kernel
theorem dL_law_556 : decode cL_law 556 = .ok (.astore 9, 2) := by decide +kernel
theorem dL_law_558 : decode cL_law 558 = .ok (.iconst 0, 1) := by decide +kernel
theorem dL_law_559 : decode cL_law 559 = .ok (.istore 10, 2) := by decide +kernel
theorem dL_law_561 : decode cL_law 561 = .ok (.aload_n 1, 1) := by decide +kernel
theorem dL_law_562 : decode cL_law 562 = .ok (.iconst 0, 1) := by decide +kernel
theorem dL_law_563 : decode cL_law 563 = .ok (.iload 8, 2) := by decide +kernel
theorem dL_law_565 : decode cL_law 565 = .ok (.iload 10, 2) := by decide +kernel
theorem dL_law_567 : decode cL_law 567 = .ok (.invokevirtual 124, 3) := by decide +kernel
theorem dL_law_570 : decode cL_law 570 = .ok (.istore 11, 2) := by decide +kernel
theorem dL_law_572 : decode cL_law 572 = .ok (.iload 11, 2) := by decide +kernel
theorem dL_law_574 : decode cL_law 574 = .ok (.ifCond .lt 60, 3) := by decide +kernel
theorem dL_law_577 : decode cL_law 577 = .ok (.iload 10, 2) := by decide +kernel
theorem dL_law_579 : decode cL_law 579 = .ok (.bipush 24, 2) := by decide +kernel
theorem dL_law_581 : decode cL_law 581 = .ok (.if_icmp .ge 53, 3) := by decide +kernel
theorem dL_law_584 : decode cL_law 584 = .ok (.aload_n 1, 1) := by decide +kernel
theorem dL_law_585 : decode cL_law 585 = .ok (.iconst 0, 1) := by decide +kernel
theorem dL_law_586 : decode cL_law 586 = .ok (.iload 11, 2) := by decide +kernel
theorem dL_law_588 : decode cL_law 588 = .ok (.iload 8, 2) := by decide +kernel
theorem dL_law_590 : decode cL_law 590 = .ok (.invokevirtual 128, 3) := by decide +kernel
theorem dL_law_593 : decode cL_law 593 = .ok (.iload 10, 2) := by decide +kernel
theorem dL_law_595 : decode cL_law 595 = .ok (.if_icmp .ne 13, 3) := by decide +kernel
theorem dL_law_598 : decode cL_law 598 = .ok (.aload_n 1, 1) := by decide +kernel
theorem dL_law_599 : decode cL_law 599 = .ok (.iload 11, 2) := by decide +kernel
theorem dL_law_601 : decode cL_law 601 = .ok (.iconst 4, 1) := by decide +kernel
theorem dL_law_602 : decode cL_law 602 = .ok (.invokevirtual 131, 3) := by decide +kernel
theorem dL_law_605 : decode cL_law 605 = .ok (.ifCond .lt 5, 3) := by decide +kernel
theorem dL_law_608 : decode cL_law 608 = .ok (.iconst 0, 1) := by decide +kernel
theorem dL_law_609 : decode cL_law 609 = .ok (.ireturn, 1) := by decide +kernel
theorem dL_law_610 : decode cL_law 610 = .ok (.aload 9, 2) := by decide +kernel
theorem dL_law_612 : decode cL_law 612 = .ok (.iload 10, 2) := by decide +kernel
theorem dL_law_614 : decode cL_law 614 = .ok (.iload 11, 2) := by decide +kernel
theorem dL_law_616 : decode cL_law 616 = .ok (.iastore, 1) := by decide +kernel
theorem dL_law_617 : decode cL_law 617 = .ok (.iinc 10 1, 3) := by decide +kernel
theorem dL_law_620 : decode cL_law 620 = .ok (.aload_n 1, 1) := by decide +kernel
theorem dL_law_621 : decode cL_law 621 = .ok (.iconst 0, 1) := by decide +kernel
theorem dL_law_622 : decode cL_law 622 = .ok (.iload 8, 2) := by decide +kernel
theorem dL_law_624 : decode cL_law 624 = .ok (.iload 10, 2) := by decide +kernel
theorem dL_law_626 : decode cL_law 626 = .ok (.invokevirtual 124, 3) := by decide +kernel
theorem dL_law_629 : decode cL_law 629 = .ok (.istore 11, 2) := by decide +kernel
theorem dL_law_631 : decode cL_law 631 = .ok (.goto (-59), 3) := by decide +kernel
theorem dL_law_634 : decode cL_law 634 = .ok (.aload_n 1, 1) := by decide +kernel
theorem dL_law_635 : decode cL_law 635 = .ok (.iconst 0, 1) := by decide +kernel
theorem dL_law_636 : decode cL_law 636 = .ok (.invokevirtual 134, 3) := by decide +kernel
theorem dL_law_639 : decode cL_law 639 = .ok (.istore 11, 2) := by decide +kernel
theorem dL_law_641 : decode cL_law 641 = .ok (.aload_n 1, 1) := by decide +kernel
theorem dL_law_642 : decode cL_law 642 = .ok (.iconst 0, 1) := by decide +kernel
theorem dL_law_643 : decode cL_law 643 = .ok (.iload 8, 2) := by decide +kernel
theorem dL_law_645 : decode cL_law 645 = .ok (.invokevirtual 137, 3) := by decide +kernel
theorem dL_law_648 : decode cL_law 648 = .ok (.istore 12, 2) := by decide +kernel
theorem dL_law_650 : decode cL_law 650 = .ok (.iload 12, 2) := by decide +kernel
theorem dL_law_652 : decode cL_law 652 = .ok (.istore 13, 2) := by decide +kernel
theorem dL_law_654 : decode cL_law 654 = .ok (.iconst 1, 1) := by decide +kernel
theorem dL_law_655 : decode cL_law 655 = .ok (.istore 14, 2) := by decide +kernel
theorem dL_law_657 : decode cL_law 657 = .ok (.iload 10, 2) := by decide +kernel
theorem dL_law_659 : decode cL_law 659 = .ok (.ifCond .le 217, 3) := by decide +kernel
theorem dL_law_662 : decode cL_law 662 = .ok (.iconst 0, 1) := by decide +kernel
theorem dL_law_663 : decode cL_law 663 = .ok (.istore 15, 2) := by decide +kernel
theorem dL_law_665 : decode cL_law 665 = .ok (.iload 15, 2) := by decide +kernel
theorem dL_law_667 : decode cL_law 667 = .ok (.iload 10, 2) := by decide +kernel
theorem dL_law_669 : decode cL_law 669 = .ok (.if_icmp .ge 19, 3) := by decide +kernel
theorem dL_law_672 : decode cL_law 672 = .ok (.aload 9, 2) := by decide +kernel
theorem dL_law_674 : decode cL_law 674 = .ok (.iload 15, 2) := by decide +kernel
theorem dL_law_676 : decode cL_law 676 = .ok (.iaload, 1) := by decide +kernel
theorem dL_law_677 : decode cL_law 677 = .ok (.iload 12, 2) := by decide +kernel
theorem dL_law_679 : decode cL_law 679 = .ok (.if_icmp .eq 9, 3) := by decide +kernel
theorem dL_law_682 : decode cL_law 682 = .ok (.iinc 15 1, 3) := by decide +kernel
theorem dL_law_685 : decode cL_law 685 = .ok (.goto (-20), 3) := by decide +kernel
theorem dL_law_688 : decode cL_law 688 = .ok (.iload 15, 2) := by decide +kernel
theorem dL_law_690 : decode cL_law 690 = .ok (.iload 10, 2) := by decide +kernel
theorem dL_law_692 : decode cL_law 692 = .ok (.if_icmp .eq 24, 3) := by decide +kernel
theorem dL_law_695 : decode cL_law 695 = .ok (.aload_n 1, 1) := by decide +kernel
theorem dL_law_696 : decode cL_law 696 = .ok (.aload_n 2, 1) := by decide +kernel
theorem dL_law_697 : decode cL_law 697 = .ok (.ldc 112, 2) := by decide +kernel
theorem dL_law_699 : decode cL_law 699 = .ok (.iload 8, 2) := by decide +kernel
theorem dL_law_701 : decode cL_law 701 = .ok (.iload 14, 2) := by decide +kernel
theorem dL_law_703 : decode cL_law 703 = .ok (.iadd, 1) := by decide +kernel
theorem dL_law_704 : decode cL_law 704 = .ok (.iload 12, 2) := by decide +kernel
theorem dL_law_706 : decode cL_law 706 = .ok (.iconst (-1), 1) := by decide +kernel
theorem dL_law_707 : decode cL_law 707 = .ok (.invokestatic 91, 3) := by decide +kernel
theorem dL_law_710 : decode cL_law 710 = .ok (.invokestatic 85, 3) := by decide +kernel
theorem dL_law_713 : decode cL_law 713 = .ok (.ifCond .ge 5, 3) := by decide +kernel
theorem dL_law_716 : decode cL_law 716 = .ok (.iconst 0, 1) := by decide +kernel
theorem dL_law_717 : decode cL_law 717 = .ok (.ireturn, 1) := by decide +kernel
theorem dL_law_718 : decode cL_law 718 = .ok (.iinc 10 (-1), 3) := by decide +kernel
theorem dL_law_721 : decode cL_law 721 = .ok (.iload 15, 2) := by decide +kernel
theorem dL_law_723 : decode cL_law 723 = .ok (.istore 16, 2) := by decide +kernel
theorem dL_law_725 : decode cL_law 725 = .ok (.iload 16, 2) := by decide +kernel
theorem dL_law_727 : decode cL_law 727 = .ok (.iload 10, 2) := by decide +kernel
theorem dL_law_729 : decode cL_law 729 = .ok (.if_icmp .ge 21, 3) := by decide +kernel
theorem dL_law_732 : decode cL_law 732 = .ok (.aload 9, 2) := by decide +kernel
theorem dL_law_734 : decode cL_law 734 = .ok (.iload 16, 2) := by decide +kernel
theorem dL_law_736 : decode cL_law 736 = .ok (.aload 9, 2) := by decide +kernel
theorem dL_law_738 : decode cL_law 738 = .ok (.iload 16, 2) := by decide +kernel
theorem dL_law_740 : decode cL_law 740 = .ok (.iconst 1, 1) := by decide +kernel
theorem dL_law_741 : decode cL_law 741 = .ok (.iadd, 1) := by decide +kernel
theorem dL_law_742 : decode cL_law 742 = .ok (.iaload, 1) := by decide +kernel
theorem dL_law_743 : decode cL_law 743 = .ok (.iastore, 1) := by decide +kernel
theorem dL_law_744 : decode cL_law 744 = .ok (.iinc 16 1, 3) := by decide +kernel
theorem dL_law_747 : decode cL_law 747 = .ok (.goto (-22), 3) := by decide +kernel
theorem dL_law_750 : decode cL_law 750 = .ok (.iload 10, 2) := by decide +kernel
theorem dL_law_752 : decode cL_law 752 = .ok (.ifCond .ne 7, 3) := by decide +kernel
theorem dL_law_755 : decode cL_law 755 = .ok (.iconst (-1), 1) := by decide +kernel
theorem dL_law_756 : decode cL_law 756 = .ok (.goto 7, 3) := by decide +kernel
theorem dL_law_759 : decode cL_law 759 = .ok (.aload 9, 2) := by decide +kernel
theorem dL_law_761 : decode cL_law 761 = .ok (.iconst 0, 1) := by decide +kernel
theorem dL_law_762 : decode cL_law 762 = .ok (.iaload, 1) := by decide +kernel
theorem dL_law_763 : decode cL_law 763 = .ok (.istore 12, 2) := by decide +kernel
theorem dL_law_765 : decode cL_law 765 = .ok (.aload_n 1, 1) := by decide +kernel
theorem dL_law_766 : decode cL_law 766 = .ok (.iconst 0, 1) := by decide +kernel
theorem dL_law_767 : decode cL_law 767 = .ok (.iload 8, 2) := by decide +kernel
theorem dL_law_769 : decode cL_law 769 = .ok (.iload 14, 2) := by decide +kernel
theorem dL_law_771 : decode cL_law 771 = .ok (.iadd, 1) := by decide +kernel
theorem dL_law_772 : decode cL_law 772 = .ok (.invokevirtual 137, 3) := by decide +kernel
theorem dL_law_775 : decode cL_law 775 = .ok (.iload 12, 2) := by decide +kernel
theorem dL_law_777 : decode cL_law 777 = .ok (.if_icmp .ne 34, 3) := by decide +kernel
theorem dL_law_780 : decode cL_law 780 = .ok (.aload_n 1, 1) := by decide +kernel
theorem dL_law_781 : decode cL_law 781 = .ok (.iconst 0, 1) := by decide +kernel
theorem dL_law_782 : decode cL_law 782 = .ok (.iload 8, 2) := by decide +kernel
theorem dL_law_784 : decode cL_law 784 = .ok (.iload 14, 2) := by decide +kernel
theorem dL_law_786 : decode cL_law 786 = .ok (.iadd, 1) := by decide +kernel
theorem dL_law_787 : decode cL_law 787 = .ok (.invokevirtual 140, 3) := by decide +kernel
theorem dL_law_790 : decode cL_law 790 = .ok (.iload 8, 2) := by decide +kernel
theorem dL_law_792 : decode cL_law 792 = .ok (.iload 14, 2) := by decide +kernel
theorem dL_law_794 : decode cL_law 794 = .ok (.iadd, 1) := by decide +kernel
theorem dL_law_795 : decode cL_law 795 = .ok (.if_icmp .ne 16, 3) := by decide +kernel
theorem dL_law_798 : decode cL_law 798 = .ok (.aload_n 1, 1) := by decide +kernel
theorem dL_law_799 : decode cL_law 799 = .ok (.iconst 0, 1) := by decide +kernel
theorem dL_law_800 : decode cL_law 800 = .ok (.invokevirtual 134, 3) := by decide +kernel
theorem dL_law_803 : decode cL_law 803 = .ok (.iload 11, 2) := by decide +kernel
theorem dL_law_805 : decode cL_law 805 = .ok (.iload 14, 2) := by decide +kernel
theorem dL_law_807 : decode cL_law 807 = .ok (.iadd, 1) := by decide +kernel
theorem dL_law_808 : decode cL_law 808 = .ok (.if_icmp .eq 5, 3) := by decide +kernel
theorem dL_law_811 : decode cL_law 811 = .ok (.iconst 0, 1) := by decide +kernel
theorem dL_law_812 : decode cL_law 812 = .ok (.ireturn, 1) := by decide +kernel
theorem dL_law_813 : decode cL_law 813 = .ok (.iconst 0, 1) := by decide +kernel
theorem dL_law_814 : decode cL_law 814 = .ok (.istore 16, 2) := by decide +kernel
theorem dL_law_816 : decode cL_law 816 = .ok (.iload 16, 2) := by decide +kernel
theorem dL_law_818 : decode cL_law 818 = .ok (.iload 10, 2) := by decide +kernel
theorem dL_law_820 : decode cL_law 820 = .ok (.if_icmp .ge 31, 3) := by decide +kernel
theorem dL_law_823 : decode cL_law 823 = .ok (.aload_n 1, 1) := by decide +kernel
theorem dL_law_824 : decode cL_law 824 = .ok (.iconst 0, 1) := by decide +kernel
theorem dL_law_825 : decode cL_law 825 = .ok (.iload 8, 2) := by decide +kernel
theorem dL_law_827 : decode cL_law 827 = .ok (.iload 14, 2) := by decide +kernel
theorem dL_law_829 : decode cL_law 829 = .ok (.iadd, 1) := by decide +kernel
theorem dL_law_830 : decode cL_law 830 = .ok (.iload 16, 2) := by decide +kernel
theorem dL_law_832 : decode cL_law 832 = .ok (.invokevirtual 124, 3) := by decide +kernel
theorem dL_law_835 : decode cL_law 835 = .ok (.aload 9, 2) := by decide +kernel
theorem dL_law_837 : decode cL_law 837 = .ok (.iload 16, 2) := by decide +kernel
theorem dL_law_839 : decode cL_law 839 = .ok (.iaload, 1) := by decide +kernel
theorem dL_law_840 : decode cL_law 840 = .ok (.if_icmp .eq 5, 3) := by decide +kernel
theorem dL_law_843 : decode cL_law 843 = .ok (.iconst 0, 1) := by decide +kernel
theorem dL_law_844 : decode cL_law 844 = .ok (.ireturn, 1) := by decide +kernel
theorem dL_law_845 : decode cL_law 845 = .ok (.iinc 16 1, 3) := by decide +kernel
theorem dL_law_848 : decode cL_law 848 = .ok (.goto (-32), 3) := by decide +kernel
theorem dL_law_851 : decode cL_law 851 = .ok (.aload_n 1, 1) := by decide +kernel
theorem dL_law_852 : decode cL_law 852 = .ok (.iconst 0, 1) := by decide +kernel
theorem dL_law_853 : decode cL_law 853 = .ok (.iload 8, 2) := by decide +kernel
theorem dL_law_855 : decode cL_law 855 = .ok (.iload 14, 2) := by decide +kernel
theorem dL_law_857 : decode cL_law 857 = .ok (.iadd, 1) := by decide +kernel
theorem dL_law_858 : decode cL_law 858 = .ok (.iload 10, 2) := by decide +kernel
theorem dL_law_860 : decode cL_law 860 = .ok (.invokevirtual 124, 3) := by decide +kernel
theorem dL_law_863 : decode cL_law 863 = .ok (.bipush (-9), 2) := by decide +kernel
theorem dL_law_865 : decode cL_law 865 = .ok (.if_icmp .eq 5, 3) := by decide +kernel
theorem dL_law_868 : decode cL_law 868 = .ok (.iconst 0, 1) := by decide +kernel
theorem dL_law_869 : decode cL_law 869 = .ok (.ireturn, 1) := by decide +kernel
theorem dL_law_870 : decode cL_law 870 = .ok (.iinc 14 1, 3) := by decide +kernel
theorem dL_law_873 : decode cL_law 873 = .ok (.goto (-216), 3) := by decide +kernel
theorem dL_law_876 : decode cL_law 876 = .ok (.iload 12, 2) := by decide +kernel
theorem dL_law_878 : decode cL_law 878 = .ok (.iconst (-1), 1) := by decide +kernel
theorem dL_law_879 : decode cL_law 879 = .ok (.if_icmp .ne 54, 3) := by decide +kernel
theorem dL_law_882 : decode cL_law 882 = .ok (.aload_n 1, 1) := by decide +kernel
theorem dL_law_883 : decode cL_law 883 = .ok (.iconst 0, 1) := by decide +kernel
theorem dL_law_884 : decode cL_law 884 = .ok (.ldc 143, 2) := by decide +kernel
theorem dL_law_886 : decode cL_law 886 = .ok (.invokevirtual 137, 3) := by decide +kernel
theorem dL_law_889 : decode cL_law 889 = .ok (.iconst (-1), 1) := by decide +kernel
theorem dL_law_890 : decode cL_law 890 = .ok (.if_icmp .ne 43, 3) := by decide +kernel
theorem dL_law_893 : decode cL_law 893 = .ok (.aload_n 1, 1) := by decide +kernel
theorem dL_law_894 : decode cL_law 894 = .ok (.iconst 0, 1) := by decide +kernel
theorem dL_law_895 : decode cL_law 895 = .ok (.iload 8, 2) := by decide +kernel
theorem dL_law_897 : decode cL_law 897 = .ok (.invokevirtual 137, 3) := by decide +kernel
theorem dL_law_900 : decode cL_law 900 = .ok (.iload 13, 2) := by decide +kernel
theorem dL_law_902 : decode cL_law 902 = .ok (.if_icmp .ne 31, 3) := by decide +kernel
theorem dL_law_905 : decode cL_law 905 = .ok (.aload_n 1, 1) := by decide +kernel
theorem dL_law_906 : decode cL_law 906 = .ok (.iconst 0, 1) := by decide +kernel
theorem dL_law_907 : decode cL_law 907 = .ok (.iload 7, 2) := by decide +kernel
theorem dL_law_909 : decode cL_law 909 = .ok (.invokevirtual 137, 3) := by decide +kernel
theorem dL_law_912 : decode cL_law 912 = .ok (.bipush (-4), 2) := by decide +kernel
theorem dL_law_914 : decode cL_law 914 = .ok (.if_icmp .eq 19, 3) := by decide +kernel
theorem dL_law_917 : decode cL_law 917 = .ok (.aload_n 1, 1) := by decide +kernel
theorem dL_law_918 : decode cL_law 918 = .ok (.iconst 0, 1) := by decide +kernel
theorem dL_law_919 : decode cL_law 919 = .ok (.iconst 0, 1) := by decide +kernel
theorem dL_law_920 : decode cL_law 920 = .ok (.iconst 1, 1) := by decide +kernel
theorem dL_law_921 : decode cL_law 921 = .ok (.invokevirtual 144, 3) := by decide +kernel
theorem dL_law_924 : decode cL_law 924 = .ok (.iload 7, 2) := by decide +kernel
theorem dL_law_926 : decode cL_law 926 = .ok (.if_icmp .ne 7, 3) := by decide +kernel
theorem dL_law_929 : decode cL_law 929 = .ok (.iconst 1, 1) := by decide +kernel
theorem dL_law_930 : decode cL_law 930 = .ok (.goto 4, 3) := by decide +kernel
theorem dL_law_933 : decode cL_law 933 = .ok (.iconst 0, 1) := by decide +kernel
theorem dL_law_934 : decode cL_law 934 = .ok (.ireturn, 1) := by decide +kernel
end
section
/-! ===== the abstract memory: its layout, its tables (written by program from names and constructors) ===== -/
/-- the builder's own private methods, called on it -/
def xm_pV : List (MethodName × Nat × Nat × Nat) := [(yJ5_ensureCapacityInternal_d00df, 735, 736, 1308), (yJ5_newCapacity_0f7a4, 739, 740, 1309), (yJ5_putStringAt_47b60, 1183, 1184, 1312), (yJ5_inflateIfNeededFor_a7421, 1187, 1188, 1313)]
def xm_pS : List Cond := xm_pV.map (fun q => Cond.selects RJ4 q.1 q.1)
theorem xm_pV_ok : ∀ n, n < 4 → (xm_pV[n]?.map (fun q => decide (lw_tbl[q.2.1]? = some (Cond.privateMethod q.1)) && decide (lw_tbl[q.2.2.1]? = some (Cond.instanceMethod q.1)) && decide (lw_tbl[q.2.2.2]? = some (Cond.sameMethod q.1.cls q.1.cls q.1.name q.1.desc)) && decide (q.1.cls = RJ5))) = some true := by decide +kernel
theorem xm_pI : lw_tbl[1271]? = some (Cond.instantiable RJ4 4) := by decide +kernel
def xm_tb : List Cond := (xm_pS ++ lw_tbl).filter goodWord
theorem xm_mem {w : Cond} (i : Nat) (h : lw_tbl[i]? = some w) (hg : goodWord w = true) : w ∈ xm_tb := List.mem_filter.mpr ⟨List.mem_append_right _ (List.mem_of_getElem? h), hg⟩
theorem xm_memS (i : Nat) {w : Cond} (h : xm_pS[i]? = some w) (hg : goodWord w = true) : w ∈ xm_tb := List.mem_filter.mpr ⟨List.mem_append_left _ (List.mem_of_getElem? h), hg⟩
theorem xm_good {w : Cond} (h : w ∈ xm_tb) : (w ∈ xm_pS ∨ w ∈ lw_tbl) ∧ goodWord w = true := ⟨List.mem_append.mp (List.mem_filter.mp h).1, (List.mem_filter.mp h).2⟩
theorem xm_selP {y : MethodName} {s : State} {args : Array Value} (hins : (Cond.instantiable RJ4 4).before args s = true) (hpriv : (Cond.privateMethod y).before args s = true) (hinst : (Cond.instanceMethod y).before args s = true) (hsame : (Cond.sameMethod y.cls y.cls y.name y.desc).before args s = true) : (Cond.selects RJ4 y y).before args s = true := by
  obtain ⟨c, k, hc, hk, -⟩ := Cond.instantiable_spec hins
  obtain ⟨mk, methM, hnamed, hmethM, -, -⟩ := Cond.instanceMethod_spec hinst
  obtain ⟨cn, ck, r1, hcn, hck, hni, hf, hn1⟩ := Cond.sameMethod_found hsame
  have hr : r1 = mk := Option.some.inj (hn1.symm.trans hnamed)
  subst hr
  have hcls : r1.cls = cn := Option.some.inj ((findClass_of_methodNamed hnamed).symm.trans hcn)
  have hsel : selectMethod {} s.vm c r1 = .method r1 := selectMethod_private hmethM (Cond.privateMethod_at hpriv r1 methM hnamed hmethM)
  simp only [Cond.before, Cond.holds, Cond.value, hc, hf, hnamed, hsel, hcls, hck]
  simp
  exact hni
theorem xm_allw {s : State} {args : Array Value} (hts : ∀ w ∈ lw_tbl, w.before args s = true) : ∀ w ∈ xm_tb, w.before args s = true := by
  intro w hw
  rcases (xm_good hw).1 with h | h
  · obtain ⟨q, hq, rfl⟩ := List.mem_map.mp h
    obtain ⟨n, hn⟩ := List.getElem?_of_mem hq
    have hn4 : n < 4 := (List.getElem?_eq_some_iff.mp hn).1
    have g := xm_pV_ok n hn4
    rw [hn] at g
    simp only [Option.map_some, Option.some.injEq, Bool.and_eq_true, decide_eq_true_eq] at g
    have hI : (Cond.instantiable RJ4 4).before args s = true := hts _ (List.mem_of_getElem? xm_pI)
    exact xm_selP hI (hts _ (List.mem_of_getElem? g.1.1.1)) (hts _ (List.mem_of_getElem? g.1.1.2)) (hts _ (List.mem_of_getElem? g.1.2))
  · exact hts _ h
def xm_cR : Nat → String
  | 0 => RX1
  | 1 => RX2
  | 2 => RX3
  | 3 => RX4
  | 4 => RX5
  | 5 => RX6
  | 6 => RX7
  | 7 => RX8
  | 8 => RX9
  | 9 => RX10
  | _ => RJ4
def xm_cT : Nat → u_T
  | 0 => TX1
  | 1 => TX2
  | 2 => TX3
  | 3 => TX4
  | 4 => TX5
  | 5 => TX6
  | 6 => TX7
  | 7 => TX8
  | 8 => TX9
  | 9 => TX10
  | _ => TJ4
def xm_nf : Nat → Nat
  | 0 => 17
  | 1 => 7
  | 2 => 10
  | 3 => 14
  | 4 => 8
  | 5 => 4
  | 6 => 6
  | 7 => 2
  | 8 => 5
  | 9 => 11
  | _ => 4
def xm_cty : Nat → Nat → FieldType
  | 0 => tyX1
  | 1 => tyX2
  | 2 => tyX3
  | 3 => tyX4
  | 4 => tyX5
  | 5 => tyX6
  | 6 => tyX7
  | 7 => tyX8
  | 8 => tyX9
  | 9 => tyX10
  | _ => tyJ4
def xm_ft (ci k : Nat) : Nat := match xm_cty ci k with
  | .int => 0
  | .boolean => 3
  | .long => 2
  | .byte => 4
  | _ => 1
def xm_cl : List vw_C := (List.range 11).map (fun i => (xm_cR i, xm_cT i, xm_nf i))
theorem xm_cl_at {ci : Nat} (h : ci < 11) : xm_cl[ci]? = some (xm_cR ci, xm_cT ci, xm_nf ci) := by
  simp [xm_cl, h]
def xm_ix0 : List Nat := [286, 288, 290, 292, 294, 296, 298, 300, 302, 304, 306, 308, 310, 312, 314, 316, 318]
theorem xm_ok0 : ∀ k, k < 17 → lw_tbl[xm_ix0.getD k 0]? = some (u_lay RX1 TX1 k) ∧ goodWord (u_lay RX1 TX1 k) = true := by decide +kernel
def xm_ix1 : List Nat := [197, 199, 201, 203, 205, 207, 209]
theorem xm_ok1 : ∀ k, k < 7 → lw_tbl[xm_ix1.getD k 0]? = some (u_lay RX2 TX2 k) ∧ goodWord (u_lay RX2 TX2 k) = true := by decide +kernel
def xm_ix2 : List Nat := [847, 849, 851, 853, 855, 857, 859, 861, 863, 865]
theorem xm_ok2 : ∀ k, k < 10 → lw_tbl[xm_ix2.getD k 0]? = some (u_lay RX3 TX3 k) ∧ goodWord (u_lay RX3 TX3 k) = true := by decide +kernel
def xm_ix3 : List Nat := [233, 235, 237, 239, 241, 243, 245, 247, 249, 251, 253, 255, 257, 259]
theorem xm_ok3 : ∀ k, k < 14 → lw_tbl[xm_ix3.getD k 0]? = some (u_lay RX4 TX4 k) ∧ goodWord (u_lay RX4 TX4 k) = true := by decide +kernel
def xm_ix4 : List Nat := [144, 146, 148, 150, 152, 154, 156, 158]
theorem xm_ok4 : ∀ k, k < 8 → lw_tbl[xm_ix4.getD k 0]? = some (u_lay RX5 TX5 k) ∧ goodWord (u_lay RX5 TX5 k) = true := by decide +kernel
def xm_ix5 : List Nat := [94, 96, 98, 100]
theorem xm_ok5 : ∀ k, k < 4 → lw_tbl[xm_ix5.getD k 0]? = some (u_lay RX6 TX6 k) ∧ goodWord (u_lay RX6 TX6 k) = true := by decide +kernel
def xm_ix6 : List Nat := [117, 119, 121, 123, 125, 127]
theorem xm_ok6 : ∀ k, k < 6 → lw_tbl[xm_ix6.getD k 0]? = some (u_lay RX7 TX7 k) ∧ goodWord (u_lay RX7 TX7 k) = true := by decide +kernel
def xm_ix7 : List Nat := [78, 80]
theorem xm_ok7 : ∀ k, k < 2 → lw_tbl[xm_ix7.getD k 0]? = some (u_lay RX8 TX8 k) ∧ goodWord (u_lay RX8 TX8 k) = true := by decide +kernel
def xm_ix8 : List Nat := [173, 175, 177, 179, 181]
theorem xm_ok8 : ∀ k, k < 5 → lw_tbl[xm_ix8.getD k 0]? = some (u_lay RX9 TX9 k) ∧ goodWord (u_lay RX9 TX9 k) = true := by decide +kernel
def xm_ix9 : List Nat := [332, 334, 336, 338, 340, 342, 344, 346, 348, 350, 352]
theorem xm_ok9 : ∀ k, k < 11 → lw_tbl[xm_ix9.getD k 0]? = some (u_lay RX10 TX10 k) ∧ goodWord (u_lay RX10 TX10 k) = true := by decide +kernel
def xm_ix10 : List Nat := [1283, 1285, 1287, 1289]
theorem xm_ok10 : ∀ k, k < 4 → lw_tbl[xm_ix10.getD k 0]? = some (u_lay RJ4 TJ4 k) ∧ goodWord (u_lay RJ4 TJ4 k) = true := by decide +kernel
theorem xm_hin {ci : Nat} (h : ci < 11) : ∀ w ∈ u_ws (xm_cR ci) (xm_cT ci) (xm_nf ci), w ∈ xm_tb := by
  intro w hw
  obtain ⟨k, hk, rfl⟩ := List.mem_map.mp hw
  have hk := List.mem_range.mp hk
  match ci, h with
  | 0, _ => exact xm_mem _ (xm_ok0 k hk).1 (xm_ok0 k hk).2
  | 1, _ => exact xm_mem _ (xm_ok1 k hk).1 (xm_ok1 k hk).2
  | 2, _ => exact xm_mem _ (xm_ok2 k hk).1 (xm_ok2 k hk).2
  | 3, _ => exact xm_mem _ (xm_ok3 k hk).1 (xm_ok3 k hk).2
  | 4, _ => exact xm_mem _ (xm_ok4 k hk).1 (xm_ok4 k hk).2
  | 5, _ => exact xm_mem _ (xm_ok5 k hk).1 (xm_ok5 k hk).2
  | 6, _ => exact xm_mem _ (xm_ok6 k hk).1 (xm_ok6 k hk).2
  | 7, _ => exact xm_mem _ (xm_ok7 k hk).1 (xm_ok7 k hk).2
  | 8, _ => exact xm_mem _ (xm_ok8 k hk).1 (xm_ok8 k hk).2
  | 9, _ => exact xm_mem _ (xm_ok9 k hk).1 (xm_ok9 k hk).2
  | 10, _ => exact xm_mem _ (xm_ok10 k hk).1 (xm_ok10 k hk).2
theorem xm_hty {ci : Nat} (h : ci < 11) : ∀ k, k < xm_nf ci → parseFieldDescriptor (xm_cT ci k).2.2.1 = some (xm_cty ci k) := by
  match ci, h with
  | 0, _ => exact tyX1_ok
  | 1, _ => exact tyX2_ok
  | 2, _ => exact tyX3_ok
  | 3, _ => exact tyX4_ok
  | 4, _ => exact tyX5_ok
  | 5, _ => exact tyX6_ok
  | 6, _ => exact tyX7_ok
  | 7, _ => exact tyX8_ok
  | 8, _ => exact tyX9_ok
  | 9, _ => exact tyX10_ok
  | 10, _ => exact tyJ4_ok
theorem xm_hnm {ci : Nat} (h : ci < 11) : ∀ a, a < xm_nf ci → ∀ b, b < xm_nf ci → a ≠ b → (xm_cT ci a).2.1 ≠ (xm_cT ci b).2.1 := by
  match ci, h with
  | 0, _ => exact nmX1
  | 1, _ => exact nmX2
  | 2, _ => exact nmX3
  | 3, _ => exact nmX4
  | 4, _ => exact nmX5
  | 5, _ => exact nmX6
  | 6, _ => exact nmX7
  | 7, _ => exact nmX8
  | 8, _ => exact nmX9
  | 9, _ => exact nmX10
  | 10, _ => exact nmJ4
def xm_layL : List (Nat × Nat) := [(9, 0), (0, 9), (0, 7), (1, 80), (0, 5), (0, 6), (4, 200), (4, 64), (4, 8), (0, 4), (2, 64), (2, 64), (1, 64), (1, 64), (1, 64), (1, 64), (1, 64), (1, 64), (0, 8), (1, 200), (1, 200), (1, 200), (1, 200), (0, 1), (2, 64), (1, 64), (1, 128), (1, 65), (3, 64), (0, 3), (1, 64), (1, 129), (1, 64), (1, 64), (1, 64), (5, 8), (0, 0), (1, 64), (1, 200), (1, 200), (1, 200), (1, 200), (0, 0), (1, 64), (1, 200), (1, 200), (1, 200), (1, 200), (0, 0), (1, 64), (1, 200), (1, 200), (1, 200), (1, 200), (0, 0), (1, 64), (1, 200), (1, 200), (1, 200), (1, 200), (0, 0), (1, 64), (1, 200), (1, 200), (1, 200), (1, 200), (0, 0), (1, 64), (1, 200), (1, 200), (1, 200), (1, 200), (0, 0), (1, 64), (1, 200), (1, 200), (1, 200), (1, 200), (0, 0), (1, 64), (1, 200), (1, 200), (1, 200), (1, 200), (0, 10), (6, 16), (7, 5), (1, 24), (2, 24), (6, 34), (9, 0), (9, 0), (9, 0), (9, 0), (9, 0), (9, 0), (9, 0), (9, 0), (9, 0), (9, 0), (9, 0), (9, 0), (9, 0), (9, 0), (9, 0), (9, 0), (9, 0), (9, 0), (9, 0), (9, 0), (8, 24)]
def xm_lay (a : Nat) : Nat × Nat := xm_layL.getD a (0, 2)
def xm_wireL : List (Nat × Nat × Nat) := [(1, 0, 2), (1, 1, 4), (1, 2, 5), (1, 3, 9), (1, 4, 18), (1, 5, 23), (1, 6, 29), (1, 7, 35), (2, 0, 3), (4, 0, 2), (5, 0, 6), (5, 1, 7), (5, 2, 8), (9, 0, 10), (9, 1, 11), (9, 2, 12), (9, 3, 13), (9, 4, 14), (9, 5, 15), (9, 6, 16), (9, 7, 17), (18, 0, 19), (18, 1, 20), (18, 2, 21), (18, 3, 22), (23, 0, 9), (23, 1, 24), (23, 2, 25), (23, 4, 26), (23, 5, 27), (23, 6, 28), (29, 0, 9), (29, 1, 23), (29, 2, 30), (29, 6, 31), (29, 8, 32), (29, 9, 33), (29, 12, 34)]
/-- where the Course t stands -/
def xm_cb (t : Nat) : Nat := 36 + 6 * t
/-- the final places: what they hold -/
def xm_wire (a k : Nat) : Option Nat :=
  if a = 35 then (if k < 8 then some (36 + 6 * k) else none)
  else if 36 ≤ a ∧ a < 84 ∧ (a - 36) % 6 = 0 then [(a - 36) / 6, 5, 9, 23, 29, a + 1, a + 2, a + 3, a + 4, a + 5][k]?
  else (xm_wireL.find? (fun q => q.1 == a && q.2.1 == k)).map (fun q => q.2.2)
end
section
/-! ===== an abstract machine over the kit's rows: the whole room as one memory ===== -/
abbrev xm_Mem : Type := (Nat → Nat → Int) × (Nat → Nat → Int64) × Nat
abbrev xm_Out : Type := xm_Mem × Int
/-- base, array classes, the kit's slots, the heap below, the texts' cells, their bytes' cells; where the line is made; the script: its cell, length, ints; the digits' two tables -/
abbrev xm_Gm : Type := Nat × (Nat → ClassId) × va_G × Heap × (Nat → Nat) × (Nat → Nat) × Nat × (Nat × Nat × (Nat → Int32)) × (Nat × Nat)
def xm_B (Γ : xm_Gm) : Nat := Γ.1
def xm_cA (Γ : xm_Gm) : Nat → ClassId := Γ.2.1
def xm_D (Γ : xm_Gm) : va_G := Γ.2.2.1
def xm_H0 (Γ : xm_Gm) : Heap := Γ.2.2.2.1
def xm_adK (Γ : xm_Gm) : Nat → Nat := Γ.2.2.2.2.1
def xm_adV (Γ : xm_Gm) : Nat → Nat := Γ.2.2.2.2.2.1
/-- where the line is made, counted from the base -/
def xm_el (Γ : xm_Gm) : Nat := 90 + Γ.2.2.2.2.2.2.1 % 100000
def xm_sb (Γ : xm_Gm) : Nat := Γ.2.2.2.2.2.2.2.1.1
def xm_sN (Γ : xm_Gm) : Nat := Γ.2.2.2.2.2.2.2.1.2.1
def xm_sx (Γ : xm_Gm) : Nat → Int32 := Γ.2.2.2.2.2.2.2.1.2.2
def xm_t1 (Γ : xm_Gm) : Nat := Γ.2.2.2.2.2.2.2.2.1
def xm_t2 (Γ : xm_Gm) : Nat := Γ.2.2.2.2.2.2.2.2.2
/-- the address of a place: the entries go round the line, which is made between them -/
def xm_of (l a : Nat) : Nat := if a ≤ 89 then a else if a < 110 then 2000000 + a else if a = 110 then l else if 1000000 ≤ a then 3000000 + a else if a - 21 < l then a - 21 else a - 20
def xm_ad (Γ : xm_Gm) (a : Nat) : Nat := xm_B Γ + xm_of (xm_el Γ) a
theorem xm_el_rg (Γ : xm_Gm) : 90 ≤ xm_el Γ ∧ xm_el Γ < 100090 := by unfold xm_el; omega
theorem xm_of_inj {l a b : Nat} (hl : 90 ≤ l ∧ l < 100090) (h : xm_of l a = xm_of l b) : a = b := by
  unfold xm_of at h
  (repeat' split at h) <;> omega
theorem xm_of_pos {l a : Nat} (hl : 90 ≤ l) (h : 1 ≤ a) : 1 ≤ xm_of l a := by
  unfold xm_of
  (repeat' split) <;> omega
theorem xm_ad_inj {Γ : xm_Gm} {a b : Nat} (h : xm_ad Γ a = xm_ad Γ b) : a = b := xm_of_inj (xm_el_rg Γ) (by unfold xm_ad at h; omega)
theorem xm_ad_gt {Γ : xm_Gm} {a : Nat} (h : 1 ≤ a) : xm_B Γ < xm_ad Γ a := by
  have := xm_of_pos (xm_el_rg Γ).1 h
  unfold xm_ad
  omega
theorem xm_ad_lo {Γ : xm_Gm} {a : Nat} (h : a ≤ 89) : xm_ad Γ a = xm_B Γ + a := by unfold xm_ad xm_of; rw [if_pos h]
-- ints
def xm_in (x : Int) : Prop := -2147483648 ≤ x ∧ x ≤ 2147483647
def xm_J (x : Int) : Int32 := Int32.ofInt x
def xm_w (x : Int) : Int := (Int32.ofInt x).toInt
theorem xm_in_toInt (x : Int32) : xm_in x.toInt := ⟨by have := Int32.le_toInt x; simpa using this, by have := Int32.toInt_lt x; simp at this; omega⟩
theorem xm_w_in (x : Int) : xm_in (xm_w x) := xm_in_toInt _
theorem xm_J_w (x : Int) : xm_J (xm_w x) = xm_J x := Int32.ofInt_toInt _
theorem xm_J_toInt {x : Int} (h : xm_in x) : (xm_J x).toInt = x := by
  obtain ⟨h1, h2⟩ := h
  exact Int32.toInt_ofInt_of_le (by simpa using h1) (by simp; omega)
theorem xm_w_id {x : Int} (h : xm_in x) : xm_w x = x := xm_J_toInt h
theorem xm_J_of (x : Int32) : xm_J x.toInt = x := by simp [xm_J]
theorem xm_J_add (a b : Int) : xm_J a + xm_J b = xm_J (xm_w (a + b)) := by rw [xm_J_w]; simp [xm_J, Int32.ofInt_add]
theorem xm_J_sub (a b : Int) : xm_J a - xm_J b = xm_J (xm_w (a - b)) := by rw [xm_J_w]; simp [xm_J, Int32.ofInt_sub]
theorem xm_J_mul (a b : Int) : xm_J a * xm_J b = xm_J (xm_w (a * b)) := by rw [xm_J_w]; simp [xm_J, Int32.ofInt_mul]
theorem xm_J_lt {a b : Int} (ha : xm_in a) (hb : xm_in b) : xm_J a < xm_J b ↔ a < b := by
  rw [Int32.lt_iff_toInt_lt, xm_J_toInt ha, xm_J_toInt hb]
theorem xm_J_le {a b : Int} (ha : xm_in a) (hb : xm_in b) : xm_J a ≤ xm_J b ↔ a ≤ b := by
  rw [Int32.le_iff_toInt_le, xm_J_toInt ha, xm_J_toInt hb]
theorem xm_J_eq {a b : Int} (ha : xm_in a) (hb : xm_in b) : xm_J a = xm_J b ↔ a = b := by
  rw [← Int32.toInt_inj, xm_J_toInt ha, xm_J_toInt hb]
theorem xm_in0 : xm_in 0 := ⟨by decide, by decide⟩
theorem xm_inc (n : Int) (h : (decide (-2147483648 ≤ n) && decide (n ≤ 2147483647)) = true) : xm_in n := by
  simp at h; exact h
theorem xm_J0 : xm_J 0 = 0 := rfl
theorem xm_in01 {x : Int} (h : 0 ≤ x ∧ x ≤ 1) : xm_in x := ⟨by omega, by omega⟩
theorem xm_clamp {i : Int} (h : xm_in i) : (xm_J i).toNatClampNeg = i.toNat := by
  show (xm_J i).toInt.toNat = _
  rw [xm_J_toInt h]
theorem xm_vp {i : Int} {n : Nat} (h : xm_in i) (h1 : 0 ≤ i ∧ i < (n : Int)) : vp_in (xm_J i) n := by
  rw [vp_in_iff, xm_J_toInt h]; exact h1
-- references
def xm_on (Γ : xm_Gm) (v : Int) : Option Nat := if v = 0 then none else some (xm_ad Γ v.toNat)
def xm_rf (Γ : xm_Gm) (v : Int) : Value := va_rf (xm_on Γ v)
theorem xm_rf_pos {Γ : xm_Gm} {v : Int} (h : 1 ≤ v) : xm_rf Γ v = .ref (xm_ad Γ v.toNat) := by
  unfold xm_rf xm_on
  rw [if_neg (by omega)]
  rfl
theorem xm_rf_0 {Γ : xm_Gm} : xm_rf Γ 0 = .null := rfl
theorem xm_on_inj {Γ : xm_Gm} {a b : Int} (ha : 0 ≤ a) (hb : 0 ≤ b) : xm_on Γ a = xm_on Γ b ↔ a = b := by
  unfold xm_on
  by_cases h1 : a = 0 <;> by_cases h2 : b = 0 <;> simp [h1, h2]
  · omega
  · constructor
    · intro z
      have := xm_ad_inj z
      omega
    · rintro rfl; rfl
def xm_val (Γ : xm_Gm) (t : Nat) (v : Int) (w : Int64) : Value := match t with
  | 1 => xm_rf Γ v
  | 2 => .long w
  | _ => .int (xm_J v)
/-- a text in the memory: its number and one -/
def xm_sn (Γ : xm_Gm) (v : Int) : Option Nat := if v = 0 then none else some (xm_adK Γ (v.toNat - 1))
def xm_cell (Γ : xm_Gm) (σ : xm_Mem) (a : Nat) : va_E := match (xm_lay a).1 with
  | 0 => .inr ((xm_lay a).2, (List.range (xm_nf (xm_lay a).2)).map (fun k => xm_val Γ (xm_ft (xm_lay a).2 k) (σ.1 a k) (σ.2.1 a k)))
  | 1 => .inl (xm_cA Γ 1, (xm_lay a).2, .inl (fun i => xm_J (σ.1 a i)))
  | 2 => .inl (xm_cA Γ 2, (xm_lay a).2, .inl (fun i => xm_J (σ.1 a i)))
  | 3 => .inl (xm_cA Γ 3, (xm_lay a).2, .inr (.inl (fun i => σ.2.1 a i)))
  | 6 => .inl (xm_cA Γ 6, (xm_lay a).2, .inl (fun i => xm_J (σ.1 a i)))
  | 7 => .inl (xm_cA Γ 7, (xm_lay a).2, .inr (.inr (.inr (.inr (fun i => xm_sn Γ (σ.1 a i))))))
  | 8 => .inl (xm_cA Γ 1, (xm_lay a).2, .inl (fun i => xm_J (σ.1 a i)))
  | k => .inl (xm_cA Γ k, (xm_lay a).2, .inr (.inr (.inr (.inr (fun i => xm_on Γ (σ.1 a i))))))
/-- the kind of a place: 0 int, 1 reference, 2 long, 3 boolean, 4 a byte of 0 .. 127 -/
def xm_tk (a k : Nat) : Nat := match (xm_lay a).1 with
  | 0 => xm_ft (xm_lay a).2 k
  | 1 => 0
  | 2 => 3
  | 3 => 2
  | 6 => 4
  | 8 => 0
  | _ => 1
def xm_T (σ : xm_Mem) : Prop := ∀ a k, xm_in (σ.1 a k) ∧ (xm_tk a k = 3 → 0 ≤ σ.1 a k ∧ σ.1 a k ≤ 1) ∧ (xm_tk a k = 1 → 0 ≤ σ.1 a k) ∧ (σ.2.2 < a → σ.1 a k = 0 ∧ σ.2.1 a k = 0) ∧ (xm_tk a k = 4 → 0 ≤ σ.1 a k ∧ σ.1 a k ≤ 127)
/-- a place that has its cell (110 once the line is made: 109 tells) -/
def xm_lv (σ : xm_Mem) (a : Nat) : Prop := (xm_lay a).1 ≤ 7 ∨ ((xm_lay a).1 = 8 ∧ σ.1 109 0 = 1)
/-- what 109 tells: whether the line is made, and where it is -/
def xm_gh (Γ : xm_Gm) (σ : xm_Mem) : Prop := σ.2.2 ≤ 89 ∨ (110 ≤ σ.2.2 ∧ σ.2.2 < 1000000 ∧ σ.1 109 1 = (xm_el Γ : Int) ∧ ((σ.1 109 0 = 0 ∧ σ.2.2 - 21 < xm_el Γ) ∨ (σ.1 109 0 = 1 ∧ xm_el Γ ≤ σ.2.2 - 20)))
/-- how many cells there are -/
def xm_top (σ : xm_Mem) : Nat := if σ.2.2 ≤ 89 then σ.2.2 else σ.2.2 - 21 + (σ.1 109 0).toNat
/-- there is a place for one more -/
abbrev xm_nxt (σ : xm_Mem) : Prop := σ.2.2 < 89 ∨ (110 ≤ σ.2.2 ∧ σ.2.2 < 999999 ∧ (σ.1 109 0 = 1 ∨ (σ.2.2 : Int) - 20 < σ.1 109 1))
def xm_R (Γ : xm_Gm) (I : xm_Mem → Prop) (σ : xm_Mem) (H : Heap) : Prop :=
  (∀ a, 1 ≤ a → a ≤ σ.2.2 → xm_lv σ a → va_at (xm_D Γ) xm_cl (xm_ad Γ a, xm_cell Γ σ a) H) ∧ H.size = xm_B Γ + 1 + xm_top σ ∧ xm_T σ ∧ I σ ∧ (∀ q, q ≤ xm_B Γ → H[q]? = (xm_H0 Γ)[q]?) ∧ xm_gh Γ σ
def xm_I (σ : xm_Mem) : Prop := 110 ≤ σ.2.2 ∧ ∀ a k b, xm_wire a k = some b → σ.1 a k = (b : Int)
def xm_tys (Γ : xm_Gm) : List (ClassId × FieldType) := [(xm_cA Γ 1, .int), (xm_cA Γ 2, .boolean), (xm_cA Γ 3, .long), (xm_cA Γ 4, .object RX3), (xm_cA Γ 5, .object RX1), (xm_cA Γ 6, .byte), (xm_cA Γ 7, .object "java/lang/String")]
-- texts: the distinct ones by their places
def xm_tx : List String := ["born", "wed", "part", "dead", "title", "yield", "call", "lost", "back", "male", "female", "of", "none", "and", "mixed", "equal", "last", "near", "writ", "born ", " male of ", " female of ", "none and ", " and "]
def xm_by : List (List Int32) := xm_tx.map (fun s => s.toList.map (fun c => Int32.ofNat c.toNat))
def xm_ln : List Nat := xm_tx.map (fun s => s.length)
/-- the class and entry of each use, and which text it is -/
def xm_use : List (String × Nat × Nat) := [(RX6, 133, 0), (RX6, 135, 1), (RX6, 137, 2), (RX6, 139, 3), (RX6, 141, 4), (RX6, 142, 5), (RX6, 144, 6), (RX6, 146, 7), (RX6, 148, 8), (RX6, 73, 9), (RX6, 82, 10), (RX6, 84, 11), (RX6, 108, 12), (RX6, 96, 13), (RX6, 150, 14), (RX6, 152, 15), (RX6, 154, 16), (RX6, 156, 17), (RX6, 158, 18), (RL, 45, 19), (RL, 54, 20), (RL, 56, 21), (RL, 58, 22), (RL, 60, 23), (RL, 62, 12), (RL, 71, 9), (RL, 73, 14), (RL, 75, 15), (RL, 77, 16), (RL, 79, 17), (RL, 89, 1), (RL, 110, 4), (RL, 112, 3)]
def xm_nst : List (String × Nat × MethodName × String) := [(RX10, 9, yX8_init, RX10), (RX10, 27, yX7_init, RX10), (RX10, 34, yX5_init, RX10), (RX10, 41, yX9_init, RX10), (RX5, 53, yX10_isPersonNumber, RX10), (RX2, 94, yX10_isPersonNumber, RX10), (RX1, 97, yX10_isPersonNumber, RX10), (RX4, 76, yX10_isPersonNumber, RX10), (RX10, 107, yX3_init, RX10)]
/-- the digits' tables, and the script: they stand below -/
def xm_K2 (Γ : xm_Gm) (U : State) : Prop := va_Z "java/lang/Integer" "DigitOnes" "[B" (.ref (xm_t1 Γ)) (fun q => xm_B Γ < q) U (xm_H0 Γ) ∧ va_Z "java/lang/Integer" "DigitTens" "[B" (.ref (xm_t2 Γ)) (fun q => xm_B Γ < q) U (xm_H0 Γ) ∧
  va_T .byte (xm_t1 Γ) 100 (fun j => .int (xm_J (48 + ((j % 10 : Nat) : Int)))) (fun q => xm_B Γ < q) U (xm_H0 Γ) ∧ va_T .byte (xm_t2 Γ) 100 (fun j => .int (xm_J (48 + ((j / 10 : Nat) : Int)))) (fun q => xm_B Γ < q) U (xm_H0 Γ) ∧ va_AO "java/lang/String" U ∧
  va_X (xm_sb Γ) (xm_sN Γ) (xm_sx Γ) U (xm_H0 Γ) ∧ xm_sb Γ < (xm_H0 Γ).size ∧ xm_sb Γ ≤ xm_B Γ
/-- what the tables say beside their words -/
def xm_K (Γ : xm_Gm) (U : State) : Prop := va_K (xm_D Γ) xm_cl (xm_tys Γ) U ∧ vk_S 24 xm_ln xm_by (xm_adK Γ) (xm_adV Γ) (fun q => xm_B Γ < q) U (xm_H0 Γ) ∧
  (∀ q ∈ xm_use, vk_R q.1 q.2.1 (xm_tx.getD q.2.2 "") (xm_adK Γ q.2.2) U) ∧ (∀ q ∈ xm_nst, va_Nw (.methodLinkNest q.1 q.2.1 q.2.2.1 q.2.2.2) U) ∧ va_AO RX3 U ∧ va_AO RX1 U ∧
  va_Z "java/lang/String" "COMPACT_STRINGS" "Z" (.int 1) (fun q => xm_B Γ < q) U (xm_H0 Γ) ∧ va_Zq "jdk/internal/util/Preconditions" "SIOOBE_FORMATTER" "Ljava/util/function/BiFunction;" (fun q => xm_B Γ < q) U (xm_H0 Γ) ∧ xm_K2 Γ U
-- the context of a walk
abbrev xm_X : Type := xm_Gm × (xm_Mem → Prop) × Launch × Program × Env × Room × State × MethodId × Array Value × List Frame × Method × Code × (xm_Out → State → Prop)
def xx_G (X : xm_X) : xm_Gm := X.1
def xx_I (X : xm_X) : xm_Mem → Prop := X.2.1
def xx_la (X : xm_X) : Launch := X.2.2.1
def xx_p (X : xm_X) : Program := X.2.2.2.1
def xx_e (X : xm_X) : Env := X.2.2.2.2.1
def xx_R (X : xm_X) : Room := X.2.2.2.2.2.1
def xx_s (X : xm_X) : State := X.2.2.2.2.2.2.1
def xx_m (X : xm_X) : MethodId := X.2.2.2.2.2.2.2.1
def xx_a (X : xm_X) : Array Value := X.2.2.2.2.2.2.2.2.1
def xx_b (X : xm_X) : List Frame := X.2.2.2.2.2.2.2.2.2.1
def xx_t (X : xm_X) : Method := X.2.2.2.2.2.2.2.2.2.2.1
def xx_c (X : xm_X) : Code := X.2.2.2.2.2.2.2.2.2.2.2.1
def xx_Q (X : xm_X) : xm_Out → State → Prop := X.2.2.2.2.2.2.2.2.2.2.2.2
abbrev xm_W (X : xm_X) (H : Heap) (locs : List Loc) (kc sc : Nat) (o : xm_Out) (g : JFrame) : Prop := W (xx_p X) (xx_la X) (xx_e X) (xx_R X) (xx_s X) (xx_m X) (xx_a X) (xx_b X) (xx_t X) (xx_c X) H locs kc sc (xx_Q X o) g
abbrev xm_A (X : xm_X) : Nat → Prop := fun q => xm_B (xx_G X) < q
/-- THE JUDGEMENT: if r tells an end, the machine comes to it from here -/
def xm_V (X : xm_X) (kc sc : Nat) (r : Option xm_Out) (σ : xm_Mem) (pc : Nat) (l : List (Nat × Value)) (st : List Value) : Prop :=
  ∀ o, r = some o → ∀ (H : Heap) (locs : List Loc) (ls : Array Slot), xm_R (xx_G X) (xx_I X) σ H → va_S (xm_A X) (xx_s X).heap H locs → lv_has ls (xx_c X).maxLocals l → xm_W X H locs kc sc o (F0 (xx_m X) pc ls st)
/-- what holds all along a method's walk -/
def xm_C (X : xm_X) (own : String) (cc : ByteArray) (nL fr mc ms : Nat) : Prop :=
  (xx_p X).tables.exec = Jvm.exec ∧ (xx_c X).code = cc ∧ (xx_c X).maxLocals = nL ∧ (xx_s X).vm.findClass own = some (xx_m X).cls ∧ (∀ w ∈ xm_tb, w.before (xx_a X) (xx_s X) = true) ∧ xm_K (xx_G X) (xx_s X) ∧ (xx_t X).locks = false ∧ xm_B (xx_G X) < (xx_s X).heap.size ∧ (∀ q, q ≤ xm_B (xx_G X) → (xx_s X).heap[q]? = (xm_H0 (xx_G X))[q]?) ∧
  fr ≤ (xx_R X).frames ∧ 40 * fr ≤ (xx_R X).locals ∧ mc ≤ (xx_R X).cells ∧ ms ≤ (xx_R X).slots
-- answers
def xm_o (Γ : xm_Gm) (rk : Nat) (v : Int) : Option Value := match rk with
  | 0 => none
  | 1 => some (.int (xm_J v))
  | 2 => some (.int (xm_J v))
  | 3 => some (xm_rf Γ v)
  | 4 => some (.ref (xm_ad Γ (xm_cb v.toNat)))
  | 5 => some (.ref (xm_adK Γ v.toNat))
  | 7 => some (.ref (xm_ad Γ 84))
  | _ => some (.long (Int64.ofInt v))
def xm_f (rk : Nat) (v : Int) : Prop := match rk with
  | 1 => xm_in v
  | 2 => 0 ≤ v ∧ v ≤ 1
  | 3 => 0 ≤ v
  | 4 => 0 ≤ v ∧ v < 8
  | 5 => 0 ≤ v ∧ v < 24
  | _ => True
def xm_Qc (Γ : xm_Gm) (I : xm_Mem → Prop) (rk : Nat) (o : xm_Out) : Array Value → State → Outcome → State → Prop := fun _ st oc t =>
  (oc = .returned (xm_o Γ rk o.2) ∧ xm_R Γ I o.1 t.heap ∧ xm_f rk o.2) ∧ va_F (fun q => xm_B Γ < q) st t
def xm_rm (fr mc ms : Nat) : Room := { frames := fr, cells := mc, slots := ms, locals := 40 * fr }
/-- a method's contract at one start and one end -/
def xm_M (Γ : xm_Gm) (I : xm_Mem → Prop) (la : Launch) (y : MethodName) (cc : ByteArray) (maxL : Nat) (ret : Option FieldType) (fr mc ms : Nat) (av : List Value) (σ : xm_Mem) (rk : Nat) (o : xm_Out) : Prop :=
  Met la y (.code y cc maxL ret :: xm_tb) (xm_rm fr mc ms) (va_Pc av (fun U => xm_R Γ I σ U.heap ∧ xm_K Γ U)) (xm_Qc Γ I rk o) mc ms (fun q => xm_B Γ < q)
/-- what a return needs -/
def xm_Rt (X : xm_X) (rk : Nat) (ret : Option FieldType) (mc ms : Nat) : Prop := (xx_t X).sig.returnType = ret ∧ ∀ o t, MQ (xx_b X) (xm_Qc (xx_G X) (xx_I X) rk o) (xx_a X) (xx_s X) mc ms (xm_A X) t → xx_Q X o t
-- the tables' words move
theorem xm_K2.moved {Γ : xm_Gm} {u U : State} (ha : u.vm.Alike U.vm) (h : xm_K2 Γ u) : xm_K2 Γ U := by
  obtain ⟨h1, h2, h3, h4, h5, h6, h7⟩ := h
  exact ⟨va_Z.moved ha h1, va_Z.moved ha h2, va_T.moved ha h3, va_T.moved ha h4, va_AO.moved ha h5, va_X.moved ha h6, h7⟩
theorem xm_K.same {Γ : xm_Gm} {u U : State} (hv : U.vm = u.vm) (h : xm_K Γ u) : xm_K Γ U := by
  obtain ⟨h1, h2, h3, h4, h5, h6, h7, h8, h9⟩ := h
  have ha : u.vm.Alike U.vm := by rw [hv]; exact Vm.Alike.refl _
  refine ⟨va_K.moved ha h1, vk_S.moved ha h2, fun q hq => vk_R.same hv (h3 q hq), fun q hq => va_Nw.same rfl hv.symm (h4 q hq), va_AO.moved ha h5, va_AO.moved ha h6, va_Z.moved ha h7, ?_, h9.moved ha⟩
  rcases h8 with h | ⟨t, h⟩
  · exact Or.inl (va_Z.moved ha h)
  · exact Or.inr ⟨t, va_Z.moved ha h⟩
theorem xm_K.warm {Γ : xm_Gm} {s U : State} (hW : s.WarmedH U.vm) (h : xm_K Γ s) : xm_K Γ U := by
  obtain ⟨h1, h2, h3, h4, h5, h6, h7, h8, h9⟩ := h
  have ha := hW.alike
  refine ⟨va_K.moved ha h1, vk_S.moved ha h2, fun q hq => vk_R.warm hW (h3 q hq), fun q hq => va_Nw.warmM hW (h4 q hq), va_AO.moved ha h5, va_AO.moved ha h6, va_Z.moved ha h7, ?_, h9.moved ha⟩
  rcases h8 with h | ⟨t, h⟩
  · exact Or.inl (va_Z.moved ha h)
  · exact Or.inr ⟨t, va_Z.moved ha h⟩
end
section
/-! ===== rows of the abstract machine: instructions that touch no cell ===== -/
section XG
variable {X : xm_X} {own : String} {cc : ByteArray} {nL fr mc ms kc sc : Nat} {r r1 r2 : Option xm_Out} {σ : xm_Mem} {pc : Nat} {l l' : List (Nat × Value)} {st : List Value}
theorem xg_none : xm_V X kc sc none σ pc l st := fun o ho => by cases ho
theorem xg_ite {c : Prop} [Decidable c] (k1 : c → xm_V X kc sc r1 σ pc l st) (k2 : ¬ c → xm_V X kc sc r2 σ pc l st) : xm_V X kc sc (if c then r1 else r2) σ pc l st := by
  by_cases h : c
  · rw [if_pos h]; exact k1 h
  · rw [if_neg h]; exact k2 h
theorem xg_guard {c : Prop} [Decidable c] (k1 : c → xm_V X kc sc r1 σ pc l st) : xm_V X kc sc (if c then r1 else none) σ pc l st := xg_ite k1 (fun _ => xg_none)
theorem xg_pick (ks : List Nat) (h : lv_pick l ks = l') (k : xm_V X kc sc r σ pc l' st) : xm_V X kc sc r σ pc l st := fun o ho H locs ls hR hS hL => k o ho H locs ls hR hS (lv_sub hL ks h)
theorem xg_stk {st' : List Value} (h : st = st') (k : xm_V X kc sc r σ pc l st') : xm_V X kc sc r σ pc l st := by subst h; exact k
def xm_get (l : List (Nat × Value)) (i : Nat) : Option Value := l.lookup i
theorem xm_get_at {ls : Array Slot} {n i : Nat} {l : List (Nat × Value)} {v : Value} (h : lv_has ls n l) (hg : xm_get l i = some v) : ls[i]? = some (.val v) := by
  refine h.2.2 (i, v) ?_
  clear h
  unfold xm_get at hg
  induction l with
  | nil => cases hg
  | cons q t ih =>
    obtain ⟨a, b⟩ := q
    by_cases e : i = a
    · subst e
      simp [List.lookup] at hg
      subst hg
      exact List.mem_cons_self
    · have e2 : (i == a) = false := by simp [e]
      simp only [List.lookup, e2] at hg
      exact List.mem_cons_of_mem _ (ih hg)
theorem xg_iconst (hC : xm_C X own cc nL fr mc ms) {n : Int} (hd : decode cc pc = .ok (.iconst n, 1)) (k : xm_V X kc sc r σ (pc + 1) l (.int (xm_J n) :: st)) : xm_V X kc sc r σ pc l st := fun o ho H locs ls hR hS hL => lv_iconst hC.1 hC.2.1 hd rfl (k o ho H locs ls hR hS hL)
theorem xg_bipush (hC : xm_C X own cc nL fr mc ms) {n : Int} (hd : decode cc pc = .ok (.bipush n, 2)) (hv : (Int8.ofInt n).toInt32 = xm_J n) (k : xm_V X kc sc r σ (pc + 2) l (.int (xm_J n) :: st)) : xm_V X kc sc r σ pc l st := fun o ho H locs ls hR hS hL => lv_bipush hC.1 hC.2.1 hd hv (k o ho H locs ls hR hS hL)
theorem xg_sipush (hC : xm_C X own cc nL fr mc ms) {n : Int} (hd : decode cc pc = .ok (.sipush n, 3)) (hv : (Int16.ofInt n).toInt32 = xm_J n) (k : xm_V X kc sc r σ (pc + 3) l (.int (xm_J n) :: st)) : xm_V X kc sc r σ pc l st := fun o ho H locs ls hR hS hL => lv_sipush hC.1 hC.2.1 hd hv (k o ho H locs ls hR hS hL)
theorem xg_ldc (hC : xm_C X own cc nL fr mc ms) {n : Int} {i : Nat} (hd : decode cc pc = .ok (.ldc i, 2)) (hm : Cond.constant own i (xm_J n) ∈ xm_tb) (k : xm_V X kc sc r σ (pc + 2) l (.int (xm_J n) :: st)) : xm_V X kc sc r σ pc l st := fun o ho H locs ls hR hS hL => lv_ldc hC.1 hC.2.1 hC.2.2.2.1 (hC.2.2.2.2.1 _ hm) hd (k o ho H locs ls hR hS hL)
theorem xg_ldcw (hC : xm_C X own cc nL fr mc ms) {n : Int} {i : Nat} (hd : decode cc pc = .ok (.ldc_w i, 3)) (hm : Cond.constant own i (xm_J n) ∈ xm_tb) (k : xm_V X kc sc r σ (pc + 3) l (.int (xm_J n) :: st)) : xm_V X kc sc r σ pc l st := fun o ho H locs ls hR hS hL => lv_ldcw hC.1 hC.2.1 hC.2.2.2.1 (hC.2.2.2.2.1 _ hm) hd (k o ho H locs ls hR hS hL)
theorem xg_ldc2 (hC : xm_C X own cc nL fr mc ms) {n : Int64} {i : Nat} (hd : decode cc pc = .ok (.ldc2_w i, 3)) (hm : Cond.constantLong own i n ∈ xm_tb) (k : xm_V X kc sc r σ (pc + 3) l (.long n :: st)) : xm_V X kc sc r σ pc l st := fun o ho H locs ls hR hS hL => lv_ldc2 hC.1 hC.2.1 hC.2.2.2.1 (hC.2.2.2.2.1 _ hm) hd (k o ho H locs ls hR hS hL)
theorem xg_lconst (hC : xm_C X own cc nL fr mc ms) {n : Fin 2} {v : Int64} (hd : decode cc pc = .ok (.lconst n, 1)) (hv : Int64.ofNat (n : Nat) = v) (k : xm_V X kc sc r σ (pc + 1) l (.long v :: st)) : xm_V X kc sc r σ pc l st := fun o ho H locs ls hR hS hL => lv_lconst hC.1 hC.2.1 hd hv (k o ho H locs ls hR hS hL)
theorem xg_null (hC : xm_C X own cc nL fr mc ms)  (hd : decode cc pc = .ok (.aconst_null, 1)) (k : xm_V X kc sc r σ (pc + 1) l (xm_rf (xx_G X) 0 :: st)) : xm_V X kc sc r σ pc l st := fun o ho H locs ls hR hS hL => lv_null hC.1 hC.2.1 hd (k o ho H locs ls hR hS hL)
theorem xg_iload (hC : xm_C X own cc nL fr mc ms) {i : Nat} {x : Int32} (hd : decode cc pc = .ok (.iload i, 2)) (hl : xm_get l i = some (.int x)) (k : xm_V X kc sc r σ (pc + 2) l (.int x :: st)) : xm_V X kc sc r σ pc l st := fun o ho H locs ls hR hS hL => lv_iload hC.1 hC.2.1 hd (xm_get_at hL hl) (k o ho H locs ls hR hS hL)
theorem xg_iload_n (hC : xm_C X own cc nL fr mc ms) {n : Fin 4} {x : Int32} (hd : decode cc pc = .ok (.iload_n n, 1)) (hl : xm_get l (n : Nat) = some (.int x)) (k : xm_V X kc sc r σ (pc + 1) l (.int x :: st)) : xm_V X kc sc r σ pc l st := fun o ho H locs ls hR hS hL => lv_iload_n hC.1 hC.2.1 hd rfl (xm_get_at hL hl) (k o ho H locs ls hR hS hL)
theorem xg_aload (hC : xm_C X own cc nL fr mc ms) {i : Nat} {x : Nat} (hd : decode cc pc = .ok (.aload i, 2)) (hl : xm_get l i = some (.ref x)) (k : xm_V X kc sc r σ (pc + 2) l (.ref x :: st)) : xm_V X kc sc r σ pc l st := fun o ho H locs ls hR hS hL => lv_aload hC.1 hC.2.1 hd (xm_get_at hL hl) (k o ho H locs ls hR hS hL)
theorem xg_aload_n (hC : xm_C X own cc nL fr mc ms) {n : Fin 4} {x : Nat} (hd : decode cc pc = .ok (.aload_n n, 1)) (hl : xm_get l (n : Nat) = some (.ref x)) (k : xm_V X kc sc r σ (pc + 1) l (.ref x :: st)) : xm_V X kc sc r σ pc l st := fun o ho H locs ls hR hS hL => lv_aload_n hC.1 hC.2.1 hd rfl (xm_get_at hL hl) (k o ho H locs ls hR hS hL)
theorem xg_lload (hC : xm_C X own cc nL fr mc ms) {i : Nat} {x : Int64} (hd : decode cc pc = .ok (.lload i, 2)) (hl : xm_get l i = some (.long x)) (k : xm_V X kc sc r σ (pc + 2) l (.long x :: st)) : xm_V X kc sc r σ pc l st := fun o ho H locs ls hR hS hL => lv_lload hC.1 hC.2.1 hd (xm_get_at hL hl) (k o ho H locs ls hR hS hL)
theorem xg_lload_n (hC : xm_C X own cc nL fr mc ms) {n : Fin 4} {x : Int64} (hd : decode cc pc = .ok (.lload_n n, 1)) (hl : xm_get l (n : Nat) = some (.long x)) (k : xm_V X kc sc r σ (pc + 1) l (.long x :: st)) : xm_V X kc sc r σ pc l st := fun o ho H locs ls hR hS hL => lv_lload_n hC.1 hC.2.1 hd rfl (xm_get_at hL hl) (k o ho H locs ls hR hS hL)
theorem xg_rload (hC : xm_C X own cc nL fr mc ms) {i : Nat} {v : Int} (hd : decode cc pc = .ok (.aload i, 2)) (hl : xm_get l i = some (xm_rf (xx_G X) v)) (k : xm_V X kc sc r σ (pc + 2) l (xm_rf (xx_G X) v :: st)) : xm_V X kc sc r σ pc l st := by
  intro o ho H locs ls hR hS hL
  have hk := k o ho H locs ls hR hS hL
  have hz := xm_get_at hL hl
  unfold xm_rf at hk hz
  cases hon : xm_on (xx_G X) v with
  | none =>
    rw [hon] at hk hz
    exact lv_aloadN hC.1 hC.2.1 hd hz hk
  | some a =>
    rw [hon] at hk hz
    exact lv_aload hC.1 hC.2.1 hd hz hk
theorem xg_rload_n (hC : xm_C X own cc nL fr mc ms) {n : Fin 4} {v : Int} (hd : decode cc pc = .ok (.aload_n n, 1)) (hl : xm_get l (n : Nat) = some (xm_rf (xx_G X) v)) (k : xm_V X kc sc r σ (pc + 1) l (xm_rf (xx_G X) v :: st)) : xm_V X kc sc r σ pc l st := by
  intro o ho H locs ls hR hS hL
  have hk := k o ho H locs ls hR hS hL
  have hz := xm_get_at hL hl
  unfold xm_rf at hk hz
  cases hon : xm_on (xx_G X) v with
  | none =>
    rw [hon] at hk hz
    exact lv_aload_nN hC.1 hC.2.1 hd rfl hz hk
  | some a =>
    rw [hon] at hk hz
    exact lv_aload_n hC.1 hC.2.1 hd rfl hz hk
theorem xg_istore (hC : xm_C X own cc nL fr mc ms) {i : Nat} {x : Int32} (hd : decode cc pc = .ok (.istore i, 2)) (hn : i < nL) (hl : (i, Value.int x) :: l.filter (fun q => !(q.1 == i) && !(q.1 + 1 == i && q.2.category == 2)) = l') (k : xm_V X kc sc r σ (pc + 2) l' st) : xm_V X kc sc r σ pc l (.int x :: st) := fun o ho H locs ls hR hS hL => lv_istore hC.1 hC.2.1 hd hL (by rw [hC.2.2.1]; exact hn) hl (fun ls' hL' => k o ho H locs ls' hR hS hL')
theorem xg_istore_n (hC : xm_C X own cc nL fr mc ms) {n : Fin 4} {x : Int32} (hd : decode cc pc = .ok (.istore_n n, 1)) (hn : (n : Nat) < nL) (hl : ((n : Nat), Value.int x) :: l.filter (fun q => !(q.1 == (n : Nat)) && !(q.1 + 1 == (n : Nat) && q.2.category == 2)) = l') (k : xm_V X kc sc r σ (pc + 1) l' st) : xm_V X kc sc r σ pc l (.int x :: st) := fun o ho H locs ls hR hS hL => lv_istore_n hC.1 hC.2.1 hd rfl hL (by rw [hC.2.2.1]; exact hn) hl (fun ls' hL' => k o ho H locs ls' hR hS hL')
theorem xg_astore (hC : xm_C X own cc nL fr mc ms) {i : Nat} {x : Nat} (hd : decode cc pc = .ok (.astore i, 2)) (hn : i < nL) (hl : (i, Value.ref x) :: l.filter (fun q => !(q.1 == i) && !(q.1 + 1 == i && q.2.category == 2)) = l') (k : xm_V X kc sc r σ (pc + 2) l' st) : xm_V X kc sc r σ pc l (.ref x :: st) := fun o ho H locs ls hR hS hL => lv_astore hC.1 hC.2.1 hd hL (by rw [hC.2.2.1]; exact hn) hl (fun ls' hL' => k o ho H locs ls' hR hS hL')
theorem xg_astore_n (hC : xm_C X own cc nL fr mc ms) {n : Fin 4} {x : Nat} (hd : decode cc pc = .ok (.astore_n n, 1)) (hn : (n : Nat) < nL) (hl : ((n : Nat), Value.ref x) :: l.filter (fun q => !(q.1 == (n : Nat)) && !(q.1 + 1 == (n : Nat) && q.2.category == 2)) = l') (k : xm_V X kc sc r σ (pc + 1) l' st) : xm_V X kc sc r σ pc l (.ref x :: st) := fun o ho H locs ls hR hS hL => lv_astore_n hC.1 hC.2.1 hd rfl hL (by rw [hC.2.2.1]; exact hn) hl (fun ls' hL' => k o ho H locs ls' hR hS hL')
theorem xg_lstore (hC : xm_C X own cc nL fr mc ms) {i : Nat} {x : Int64} (hd : decode cc pc = .ok (.lstore i, 2)) (hn : i + 1 < nL) (hl : (i, Value.long x) :: l.filter (fun q => !(q.1 == i) && (!(q.1 == i + 1) && !(q.1 + 1 == i && q.2.category == 2))) = l') (k : xm_V X kc sc r σ (pc + 2) l' st) : xm_V X kc sc r σ pc l (.long x :: st) := fun o ho H locs ls hR hS hL => lv_lstore hC.1 hC.2.1 hd hL (by rw [hC.2.2.1]; exact hn) hl (fun ls' hL' => k o ho H locs ls' hR hS hL')
theorem xg_lstore_n (hC : xm_C X own cc nL fr mc ms) {n : Fin 4} {x : Int64} (hd : decode cc pc = .ok (.lstore_n n, 1)) (hn : (n : Nat) + 1 < nL) (hl : ((n : Nat), Value.long x) :: l.filter (fun q => !(q.1 == (n : Nat)) && (!(q.1 == (n : Nat) + 1) && !(q.1 + 1 == (n : Nat) && q.2.category == 2))) = l') (k : xm_V X kc sc r σ (pc + 1) l' st) : xm_V X kc sc r σ pc l (.long x :: st) := fun o ho H locs ls hR hS hL => lv_lstore_n hC.1 hC.2.1 hd rfl hL (by rw [hC.2.2.1]; exact hn) hl (fun ls' hL' => k o ho H locs ls' hR hS hL')
theorem xg_rstore (hC : xm_C X own cc nL fr mc ms) {i : Nat} {v : Int} (hd : decode cc pc = .ok (.astore i, 2)) (hn : i < nL) (hl : (i, xm_rf (xx_G X) v) :: l.filter (fun q => !(q.1 == i) && !(q.1 + 1 == i && q.2.category == 2)) = l') (k : xm_V X kc sc r σ (pc + 2) l' st) : xm_V X kc sc r σ pc l (xm_rf (xx_G X) v :: st) := by
  intro o ho H locs ls hR hS hL
  unfold xm_rf at hl ⊢
  cases hon : xm_on (xx_G X) v with
  | none =>
    rw [hon] at hl
    exact lv_astoreN hC.1 hC.2.1 hd hL (by rw [hC.2.2.1]; exact hn) hl (fun ls' hL' => k o ho H locs ls' hR hS hL')
  | some a =>
    rw [hon] at hl
    exact lv_astore hC.1 hC.2.1 hd hL (by rw [hC.2.2.1]; exact hn) hl (fun ls' hL' => k o ho H locs ls' hR hS hL')
theorem xg_rstore_n (hC : xm_C X own cc nL fr mc ms) {n : Fin 4} {v : Int} (hd : decode cc pc = .ok (.astore_n n, 1)) (hn : (n : Nat) < nL) (hl : ((n : Nat), xm_rf (xx_G X) v) :: l.filter (fun q => !(q.1 == (n : Nat)) && !(q.1 + 1 == (n : Nat) && q.2.category == 2)) = l') (k : xm_V X kc sc r σ (pc + 1) l' st) : xm_V X kc sc r σ pc l (xm_rf (xx_G X) v :: st) := by
  intro o ho H locs ls hR hS hL
  unfold xm_rf at hl ⊢
  cases hon : xm_on (xx_G X) v with
  | none =>
    rw [hon] at hl
    exact lv_astore_nN hC.1 hC.2.1 hd rfl hL (by rw [hC.2.2.1]; exact hn) hl (fun ls' hL' => k o ho H locs ls' hR hS hL')
  | some a =>
    rw [hon] at hl
    exact lv_astore_n hC.1 hC.2.1 hd rfl hL (by rw [hC.2.2.1]; exact hn) hl (fun ls' hL' => k o ho H locs ls' hR hS hL')
theorem xg_iinc (hC : xm_C X own cc nL fr mc ms) {i : Nat} {n : Int} {x : Int} (hd : decode cc pc = .ok (.iinc i n, 3)) (hi : i < nL) (j : Nat) (hj : l[j]? = some (i, Value.int (xm_J x))) (hl : (i, Value.int (xm_J (xm_w (x + n)))) :: l.filter (fun q => !(q.1 == i) && !(q.1 + 1 == i && q.2.category == 2)) = l') (k : xm_V X kc sc r σ (pc + 3) l' st) : xm_V X kc sc r σ pc l st := by
  intro o ho H locs ls hR hS hL
  exact lv_iinc hC.1 hC.2.1 hd hL hj (xm_J_add x n) (by rw [hC.2.2.1]; exact hi) hl (fun ls' hL' => k o ho H locs ls' hR hS hL')
theorem xg_dup (hC : xm_C X own cc nL fr mc ms) {va : Value} (hd : decode cc pc = .ok (.dup, 1)) (hv : va.category = 1) (k : xm_V X kc sc r σ (pc + 1) l (va :: va :: st)) : xm_V X kc sc r σ pc l (va :: st) := fun o ho H locs ls hR hS hL => lv_dup hC.1 hC.2.1 hd hv (k o ho H locs ls hR hS hL)
theorem xg_dup_x1 (hC : xm_C X own cc nL fr mc ms) {va vb : Value} (hd : decode cc pc = .ok (.dup_x1, 1)) (hv : va.category = 1) (hv2 : vb.category = 1) (k : xm_V X kc sc r σ (pc + 1) l (va :: vb :: va :: st)) : xm_V X kc sc r σ pc l (va :: vb :: st) := fun o ho H locs ls hR hS hL => lv_dup_x1 hC.1 hC.2.1 hd hv hv2 (k o ho H locs ls hR hS hL)
theorem xg_dup2 (hC : xm_C X own cc nL fr mc ms) {va vb : Value} (hd : decode cc pc = .ok (.dup2, 1)) (hv : va.category = 1) (hv2 : vb.category = 1) (k : xm_V X kc sc r σ (pc + 1) l (va :: vb :: va :: vb :: st)) : xm_V X kc sc r σ pc l (va :: vb :: st) := fun o ho H locs ls hR hS hL => lv_dup2_11 hC.1 hC.2.1 hd hv hv2 (k o ho H locs ls hR hS hL)
theorem xg_pop (hC : xm_C X own cc nL fr mc ms) {va : Value} (hd : decode cc pc = .ok (.pop, 1)) (hv : va.category = 1) (k : xm_V X kc sc r σ (pc + 1) l st) : xm_V X kc sc r σ pc l (va :: st) := fun o ho H locs ls hR hS hL => lv_pop hC.1 hC.2.1 hd hv (k o ho H locs ls hR hS hL)
theorem xm_rf_cat {Γ : xm_Gm} {v : Int} : (xm_rf Γ v).category = 1 := by
  unfold xm_rf
  cases xm_on Γ v <;> rfl
theorem xg_iadd (hC : xm_C X own cc nL fr mc ms) {a b : Int} (hd : decode cc pc = .ok (.iadd, 1)) (k : xm_V X kc sc r σ (pc + 1) l (.int (xm_J (xm_w (a + b))) :: st)) : xm_V X kc sc r σ pc l (.int (xm_J b) :: .int (xm_J a) :: st) := fun o ho H locs ls hR hS hL => lv_iadd hC.1 hC.2.1 hd (by rw [xm_J_add]; exact k o ho H locs ls hR hS hL)
theorem xg_isub (hC : xm_C X own cc nL fr mc ms) {a b : Int} (hd : decode cc pc = .ok (.isub, 1)) (k : xm_V X kc sc r σ (pc + 1) l (.int (xm_J (xm_w (a - b))) :: st)) : xm_V X kc sc r σ pc l (.int (xm_J b) :: .int (xm_J a) :: st) := fun o ho H locs ls hR hS hL => lv_isub hC.1 hC.2.1 hd (by rw [xm_J_sub]; exact k o ho H locs ls hR hS hL)
theorem xg_imul (hC : xm_C X own cc nL fr mc ms) {a b : Int} (hd : decode cc pc = .ok (.imul, 1)) (k : xm_V X kc sc r σ (pc + 1) l (.int (xm_J (xm_w (a * b))) :: st)) : xm_V X kc sc r σ pc l (.int (xm_J b) :: .int (xm_J a) :: st) := fun o ho H locs ls hR hS hL => lv_imul hC.1 hC.2.1 hd (by rw [xm_J_mul]; exact k o ho H locs ls hR hS hL)
/-- ints, bit by bit -/
def xm_and (a b : Int) : Int := (xm_J a &&& xm_J b).toInt
def xm_shr (a b : Int) : Int := (xm_J a >>> (xm_J b &&& 31)).toInt
def xm_rem (a b : Int) : Int := (xm_J a - xm_J a / xm_J b * xm_J b).toInt
def xm_shl (x : Int64) (n : Int) : Int64 := x <<< ((xm_J n).toInt64 &&& 63)
def xm_lc (x y : Int64) : Int := (lg_cmp x y).toInt
theorem xm_and_in (a b : Int) : xm_in (xm_and a b) := xm_in_toInt _
theorem xm_shr_in (a b : Int) : xm_in (xm_shr a b) := xm_in_toInt _
theorem xm_rem_in (a b : Int) : xm_in (xm_rem a b) := xm_in_toInt _
theorem xm_lc_in (a b : Int64) : xm_in (xm_lc a b) := xm_in_toInt _
theorem xg_iand (hC : xm_C X own cc nL fr mc ms) {a b : Int} (hd : decode cc pc = .ok (.iand, 1)) (k : xm_V X kc sc r σ (pc + 1) l (.int (xm_J (xm_and a b)) :: st)) : xm_V X kc sc r σ pc l (.int (xm_J b) :: .int (xm_J a) :: st) := fun o ho H locs ls hR hS hL => lv_iand hC.1 hC.2.1 hd (by have hz := k o ho H locs ls hR hS hL; rwa [xm_and, xm_J_of] at hz)
theorem xg_ishr (hC : xm_C X own cc nL fr mc ms) {a b : Int} (hd : decode cc pc = .ok (.ishr, 1)) (k : xm_V X kc sc r σ (pc + 1) l (.int (xm_J (xm_shr a b)) :: st)) : xm_V X kc sc r σ pc l (.int (xm_J b) :: .int (xm_J a) :: st) := fun o ho H locs ls hR hS hL => lv_ishr hC.1 hC.2.1 hd (by have hz := k o ho H locs ls hR hS hL; rwa [xm_shr, xm_J_of] at hz)
def xm_or (a b : Int) : Int := (xm_J a ||| xm_J b).toInt
def xm_shli (a b : Int) : Int := (xm_J a <<< (xm_J b &&& 31)).toInt
def xm_neg (a : Int) : Int := (- xm_J a).toInt
def xm_div (a b : Int) : Int := (xm_J a / xm_J b).toInt
theorem xm_or_in (a b : Int) : xm_in (xm_or a b) := xm_in_toInt _
theorem xm_shli_in (a b : Int) : xm_in (xm_shli a b) := xm_in_toInt _
theorem xm_neg_in (a : Int) : xm_in (xm_neg a) := xm_in_toInt _
theorem xm_div_in (a b : Int) : xm_in (xm_div a b) := xm_in_toInt _
theorem xg_ior (hC : xm_C X own cc nL fr mc ms) {a b : Int} (hd : decode cc pc = .ok (.ior, 1)) (k : xm_V X kc sc r σ (pc + 1) l (.int (xm_J (xm_or a b)) :: st)) : xm_V X kc sc r σ pc l (.int (xm_J b) :: .int (xm_J a) :: st) := fun o ho H locs ls hR hS hL => lv_ior hC.1 hC.2.1 hd (by have hz := k o ho H locs ls hR hS hL; rwa [xm_or, xm_J_of] at hz)
theorem xg_ishl (hC : xm_C X own cc nL fr mc ms) {a b : Int} (hd : decode cc pc = .ok (.ishl, 1)) (k : xm_V X kc sc r σ (pc + 1) l (.int (xm_J (xm_shli a b)) :: st)) : xm_V X kc sc r σ pc l (.int (xm_J b) :: .int (xm_J a) :: st) := fun o ho H locs ls hR hS hL => lv_ishl hC.1 hC.2.1 hd (by have hz := k o ho H locs ls hR hS hL; rwa [xm_shli, xm_J_of] at hz)
theorem xg_ineg (hC : xm_C X own cc nL fr mc ms) {a : Int} (hd : decode cc pc = .ok (.ineg, 1)) (k : xm_V X kc sc r σ (pc + 1) l (.int (xm_J (xm_neg a)) :: st)) : xm_V X kc sc r σ pc l (.int (xm_J a) :: st) := fun o ho H locs ls hR hS hL => lv_ineg hC.1 hC.2.1 hd (by have hz := k o ho H locs ls hR hS hL; rwa [xm_neg, xm_J_of] at hz)
theorem xg_idiv (hC : xm_C X own cc nL fr mc ms) {a b : Int} (hd : decode cc pc = .ok (.idiv, 1)) (hne : ¬ xm_J b = 0) (k : xm_V X kc sc r σ (pc + 1) l (.int (xm_J (xm_div a b)) :: st)) : xm_V X kc sc r σ pc l (.int (xm_J b) :: .int (xm_J a) :: st) := fun o ho H locs ls hR hS hL => lv_idiv hC.1 hC.2.1 hd hne (by have hz := k o ho H locs ls hR hS hL; rwa [xm_div, xm_J_of] at hz)
theorem xg_irem (hC : xm_C X own cc nL fr mc ms) {a b : Int} (hd : decode cc pc = .ok (.irem, 1)) (hne : ¬ xm_J b = 0) (k : xm_V X kc sc r σ (pc + 1) l (.int (xm_J (xm_rem a b)) :: st)) : xm_V X kc sc r σ pc l (.int (xm_J b) :: .int (xm_J a) :: st) := fun o ho H locs ls hR hS hL => lv_irem hC.1 hC.2.1 hd hne (by have hz := k o ho H locs ls hR hS hL; rwa [xm_rem, xm_J_of] at hz)
theorem xg_land (hC : xm_C X own cc nL fr mc ms) {a b : Int64} (hd : decode cc pc = .ok (.land, 1)) (k : xm_V X kc sc r σ (pc + 1) l (.long (a &&& b) :: st)) : xm_V X kc sc r σ pc l (.long b :: .long a :: st) := fun o ho H locs ls hR hS hL => lv_land hC.1 hC.2.1 hd (k o ho H locs ls hR hS hL)
theorem xg_lor (hC : xm_C X own cc nL fr mc ms) {a b : Int64} (hd : decode cc pc = .ok (.lor, 1)) (k : xm_V X kc sc r σ (pc + 1) l (.long (a ||| b) :: st)) : xm_V X kc sc r σ pc l (.long b :: .long a :: st) := fun o ho H locs ls hR hS hL => lv_lor hC.1 hC.2.1 hd (k o ho H locs ls hR hS hL)
theorem xg_lxor (hC : xm_C X own cc nL fr mc ms) {a b : Int64} (hd : decode cc pc = .ok (.lxor, 1)) (k : xm_V X kc sc r σ (pc + 1) l (.long (a ^^^ b) :: st)) : xm_V X kc sc r σ pc l (.long b :: .long a :: st) := fun o ho H locs ls hR hS hL => lv_lxor hC.1 hC.2.1 hd (k o ho H locs ls hR hS hL)
theorem xg_lshl (hC : xm_C X own cc nL fr mc ms) {a : Int64} {b : Int} (hd : decode cc pc = .ok (.lshl, 1)) (k : xm_V X kc sc r σ (pc + 1) l (.long (xm_shl a b) :: st)) : xm_V X kc sc r σ pc l (.int (xm_J b) :: .long a :: st) := fun o ho H locs ls hR hS hL => lv_lshl hC.1 hC.2.1 hd rfl (k o ho H locs ls hR hS hL)
theorem xg_lcmp (hC : xm_C X own cc nL fr mc ms) {a b : Int64} (hd : decode cc pc = .ok (.lcmp, 1)) (k : xm_V X kc sc r σ (pc + 1) l (.int (xm_J (xm_lc a b)) :: st)) : xm_V X kc sc r σ pc l (.long b :: .long a :: st) := fun o ho H locs ls hR hS hL => W.lcmp hC.1 hC.2.1 hd (by have hz := k o ho H locs ls hR hS hL; rwa [xm_lc, xm_J_of] at hz)
theorem xg_goto (hC : xm_C X own cc nL fr mc ms) {off : Int} (tgt : Nat) (hd : decode cc pc = .ok (.goto off, 3)) (ht : (pc : Int) + off = (tgt : Int)) (k : xm_V X kc sc r σ tgt l st) : xm_V X kc sc r σ pc l st := fun o ho H locs ls hR hS hL => lv_goto hC.1 hC.2.1 hd ht (k o ho H locs ls hR hS hL)
theorem xg_icmp_eq (hC : xm_C X own cc nL fr mc ms) {a b : Int} (ha : xm_in a) (hb : xm_in b) {off : Int} (tgt : Nat) (hd : decode cc pc = .ok (.if_icmp .eq off, 3)) (ht : (pc : Int) + off = (tgt : Int)) (k1 : a = b → xm_V X kc sc r1 σ (tgt) l st) (k2 : ¬ a = b → xm_V X kc sc r2 σ (pc + 3) l st) : xm_V X kc sc (if a = b then r1 else r2) σ pc l (.int (xm_J b) :: .int (xm_J a) :: st) := by
  intro o ho H locs ls hR hS hL
  have he := xm_J_eq ha hb
  refine lv_icmp_eq hC.1 hC.2.1 hd ht (fun q => ?_) (fun q => ?_)
  · have q2 := he.mp q
    rw [if_pos q2] at ho
    exact k1 q2 o ho H locs ls hR hS hL
  · have q2 : ¬ (a = b) := fun z => q (he.mpr z)
    rw [if_neg q2] at ho
    exact k2 q2 o ho H locs ls hR hS hL
theorem xg_if_eq (hC : xm_C X own cc nL fr mc ms) {a : Int} (ha : xm_in a) {off : Int} (tgt : Nat) (hd : decode cc pc = .ok (.ifCond .eq off, 3)) (ht : (pc : Int) + off = (tgt : Int)) (k1 : a = 0 → xm_V X kc sc r1 σ (tgt) l st) (k2 : ¬ a = 0 → xm_V X kc sc r2 σ (pc + 3) l st) : xm_V X kc sc (if a = 0 then r1 else r2) σ pc l (.int (xm_J a) :: st) := by
  intro o ho H locs ls hR hS hL
  have hb := xm_in0; have he := xm_J_eq ha hb
  rw [xm_J0] at he
  refine lv_if_eq hC.1 hC.2.1 hd ht (fun q => ?_) (fun q => ?_)
  · have q2 := he.mp q
    rw [if_pos q2] at ho
    exact k1 q2 o ho H locs ls hR hS hL
  · have q2 : ¬ (a = 0) := fun z => q (he.mpr z)
    rw [if_neg q2] at ho
    exact k2 q2 o ho H locs ls hR hS hL
theorem xg_icmp_ne (hC : xm_C X own cc nL fr mc ms) {a b : Int} (ha : xm_in a) (hb : xm_in b) {off : Int} (tgt : Nat) (hd : decode cc pc = .ok (.if_icmp .ne off, 3)) (ht : (pc : Int) + off = (tgt : Int)) (k1 : a = b → xm_V X kc sc r1 σ (pc + 3) l st) (k2 : ¬ a = b → xm_V X kc sc r2 σ (tgt) l st) : xm_V X kc sc (if a = b then r1 else r2) σ pc l (.int (xm_J b) :: .int (xm_J a) :: st) := by
  intro o ho H locs ls hR hS hL
  have he := xm_J_eq ha hb
  refine lv_icmp_ne hC.1 hC.2.1 hd ht (fun q => ?_) (fun q => ?_)
  · have q2 : ¬ (a = b) := fun z => q (he.mpr z)
    rw [if_neg q2] at ho
    exact k2 q2 o ho H locs ls hR hS hL
  · have q2 := he.mp q
    rw [if_pos q2] at ho
    exact k1 q2 o ho H locs ls hR hS hL
theorem xg_if_ne (hC : xm_C X own cc nL fr mc ms) {a : Int} (ha : xm_in a) {off : Int} (tgt : Nat) (hd : decode cc pc = .ok (.ifCond .ne off, 3)) (ht : (pc : Int) + off = (tgt : Int)) (k1 : a = 0 → xm_V X kc sc r1 σ (pc + 3) l st) (k2 : ¬ a = 0 → xm_V X kc sc r2 σ (tgt) l st) : xm_V X kc sc (if a = 0 then r1 else r2) σ pc l (.int (xm_J a) :: st) := by
  intro o ho H locs ls hR hS hL
  have hb := xm_in0; have he := xm_J_eq ha hb
  rw [xm_J0] at he
  refine lv_if_ne hC.1 hC.2.1 hd ht (fun q => ?_) (fun q => ?_)
  · have q2 : ¬ (a = 0) := fun z => q (he.mpr z)
    rw [if_neg q2] at ho
    exact k2 q2 o ho H locs ls hR hS hL
  · have q2 := he.mp q
    rw [if_pos q2] at ho
    exact k1 q2 o ho H locs ls hR hS hL
theorem xg_icmp_lt (hC : xm_C X own cc nL fr mc ms) {a b : Int} (ha : xm_in a) (hb : xm_in b) {off : Int} (tgt : Nat) (hd : decode cc pc = .ok (.if_icmp .lt off, 3)) (ht : (pc : Int) + off = (tgt : Int)) (k1 : a < b → xm_V X kc sc r1 σ (tgt) l st) (k2 : ¬ a < b → xm_V X kc sc r2 σ (pc + 3) l st) : xm_V X kc sc (if a < b then r1 else r2) σ pc l (.int (xm_J b) :: .int (xm_J a) :: st) := by
  intro o ho H locs ls hR hS hL
  have he := xm_J_lt ha hb
  refine lv_icmp_lt hC.1 hC.2.1 hd ht (fun q => ?_) (fun q => ?_)
  · have q2 := he.mp q
    rw [if_pos q2] at ho
    exact k1 q2 o ho H locs ls hR hS hL
  · have q2 : ¬ (a < b) := fun z => q (he.mpr z)
    rw [if_neg q2] at ho
    exact k2 q2 o ho H locs ls hR hS hL
theorem xg_if_lt (hC : xm_C X own cc nL fr mc ms) {a : Int} (ha : xm_in a) {off : Int} (tgt : Nat) (hd : decode cc pc = .ok (.ifCond .lt off, 3)) (ht : (pc : Int) + off = (tgt : Int)) (k1 : a < 0 → xm_V X kc sc r1 σ (tgt) l st) (k2 : ¬ a < 0 → xm_V X kc sc r2 σ (pc + 3) l st) : xm_V X kc sc (if a < 0 then r1 else r2) σ pc l (.int (xm_J a) :: st) := by
  intro o ho H locs ls hR hS hL
  have hb := xm_in0; have he := xm_J_lt ha hb
  rw [xm_J0] at he
  refine lv_if_lt hC.1 hC.2.1 hd ht (fun q => ?_) (fun q => ?_)
  · have q2 := he.mp q
    rw [if_pos q2] at ho
    exact k1 q2 o ho H locs ls hR hS hL
  · have q2 : ¬ (a < 0) := fun z => q (he.mpr z)
    rw [if_neg q2] at ho
    exact k2 q2 o ho H locs ls hR hS hL
theorem xg_icmp_ge (hC : xm_C X own cc nL fr mc ms) {a b : Int} (ha : xm_in a) (hb : xm_in b) {off : Int} (tgt : Nat) (hd : decode cc pc = .ok (.if_icmp .ge off, 3)) (ht : (pc : Int) + off = (tgt : Int)) (k1 : a < b → xm_V X kc sc r1 σ (pc + 3) l st) (k2 : ¬ a < b → xm_V X kc sc r2 σ (tgt) l st) : xm_V X kc sc (if a < b then r1 else r2) σ pc l (.int (xm_J b) :: .int (xm_J a) :: st) := by
  intro o ho H locs ls hR hS hL
  have he := xm_J_lt ha hb
  refine lv_icmp_ge hC.1 hC.2.1 hd ht (fun q => ?_) (fun q => ?_)
  · have q2 : ¬ (a < b) := fun z => absurd (he.mpr z) (Int32.not_lt.mpr q)
    rw [if_neg q2] at ho
    exact k2 q2 o ho H locs ls hR hS hL
  · have q2 : a < b := he.mp (Int32.not_le.mp q)
    rw [if_pos q2] at ho
    exact k1 q2 o ho H locs ls hR hS hL
theorem xg_if_ge (hC : xm_C X own cc nL fr mc ms) {a : Int} (ha : xm_in a) {off : Int} (tgt : Nat) (hd : decode cc pc = .ok (.ifCond .ge off, 3)) (ht : (pc : Int) + off = (tgt : Int)) (k1 : a < 0 → xm_V X kc sc r1 σ (pc + 3) l st) (k2 : ¬ a < 0 → xm_V X kc sc r2 σ (tgt) l st) : xm_V X kc sc (if a < 0 then r1 else r2) σ pc l (.int (xm_J a) :: st) := by
  intro o ho H locs ls hR hS hL
  have hb := xm_in0; have he := xm_J_lt ha hb
  rw [xm_J0] at he
  refine lv_if_ge hC.1 hC.2.1 hd ht (fun q => ?_) (fun q => ?_)
  · have q2 : ¬ (a < 0) := fun z => absurd (he.mpr z) (Int32.not_lt.mpr q)
    rw [if_neg q2] at ho
    exact k2 q2 o ho H locs ls hR hS hL
  · have q2 : a < 0 := he.mp (Int32.not_le.mp q)
    rw [if_pos q2] at ho
    exact k1 q2 o ho H locs ls hR hS hL
theorem xg_icmp_gt (hC : xm_C X own cc nL fr mc ms) {a b : Int} (ha : xm_in a) (hb : xm_in b) {off : Int} (tgt : Nat) (hd : decode cc pc = .ok (.if_icmp .gt off, 3)) (ht : (pc : Int) + off = (tgt : Int)) (k1 : b < a → xm_V X kc sc r1 σ (tgt) l st) (k2 : ¬ b < a → xm_V X kc sc r2 σ (pc + 3) l st) : xm_V X kc sc (if b < a then r1 else r2) σ pc l (.int (xm_J b) :: .int (xm_J a) :: st) := by
  intro o ho H locs ls hR hS hL
  have he := xm_J_lt hb ha
  refine lv_icmp_gt hC.1 hC.2.1 hd ht (fun q => ?_) (fun q => ?_)
  · have q2 := he.mp q
    rw [if_pos q2] at ho
    exact k1 q2 o ho H locs ls hR hS hL
  · have q2 : ¬ (b < a) := fun z => q (he.mpr z)
    rw [if_neg q2] at ho
    exact k2 q2 o ho H locs ls hR hS hL
theorem xg_if_gt (hC : xm_C X own cc nL fr mc ms) {a : Int} (ha : xm_in a) {off : Int} (tgt : Nat) (hd : decode cc pc = .ok (.ifCond .gt off, 3)) (ht : (pc : Int) + off = (tgt : Int)) (k1 : 0 < a → xm_V X kc sc r1 σ (tgt) l st) (k2 : ¬ 0 < a → xm_V X kc sc r2 σ (pc + 3) l st) : xm_V X kc sc (if 0 < a then r1 else r2) σ pc l (.int (xm_J a) :: st) := by
  intro o ho H locs ls hR hS hL
  have hb := xm_in0; have he := xm_J_lt hb ha
  rw [xm_J0] at he
  refine lv_if_gt hC.1 hC.2.1 hd ht (fun q => ?_) (fun q => ?_)
  · have q2 := he.mp q
    rw [if_pos q2] at ho
    exact k1 q2 o ho H locs ls hR hS hL
  · have q2 : ¬ (0 < a) := fun z => q (he.mpr z)
    rw [if_neg q2] at ho
    exact k2 q2 o ho H locs ls hR hS hL
theorem xg_icmp_le (hC : xm_C X own cc nL fr mc ms) {a b : Int} (ha : xm_in a) (hb : xm_in b) {off : Int} (tgt : Nat) (hd : decode cc pc = .ok (.if_icmp .le off, 3)) (ht : (pc : Int) + off = (tgt : Int)) (k1 : b < a → xm_V X kc sc r1 σ (pc + 3) l st) (k2 : ¬ b < a → xm_V X kc sc r2 σ (tgt) l st) : xm_V X kc sc (if b < a then r1 else r2) σ pc l (.int (xm_J b) :: .int (xm_J a) :: st) := by
  intro o ho H locs ls hR hS hL
  have he := xm_J_lt hb ha
  refine lv_icmp_le hC.1 hC.2.1 hd ht (fun q => ?_) (fun q => ?_)
  · have q2 : ¬ (b < a) := fun z => absurd (he.mpr z) (Int32.not_lt.mpr q)
    rw [if_neg q2] at ho
    exact k2 q2 o ho H locs ls hR hS hL
  · have q2 : b < a := he.mp (Int32.not_le.mp q)
    rw [if_pos q2] at ho
    exact k1 q2 o ho H locs ls hR hS hL
theorem xg_if_le (hC : xm_C X own cc nL fr mc ms) {a : Int} (ha : xm_in a) {off : Int} (tgt : Nat) (hd : decode cc pc = .ok (.ifCond .le off, 3)) (ht : (pc : Int) + off = (tgt : Int)) (k1 : 0 < a → xm_V X kc sc r1 σ (pc + 3) l st) (k2 : ¬ 0 < a → xm_V X kc sc r2 σ (tgt) l st) : xm_V X kc sc (if 0 < a then r1 else r2) σ pc l (.int (xm_J a) :: st) := by
  intro o ho H locs ls hR hS hL
  have hb := xm_in0; have he := xm_J_lt hb ha
  rw [xm_J0] at he
  refine lv_if_le hC.1 hC.2.1 hd ht (fun q => ?_) (fun q => ?_)
  · have q2 : ¬ (0 < a) := fun z => absurd (he.mpr z) (Int32.not_lt.mpr q)
    rw [if_neg q2] at ho
    exact k2 q2 o ho H locs ls hR hS hL
  · have q2 : 0 < a := he.mp (Int32.not_le.mp q)
    rw [if_pos q2] at ho
    exact k1 q2 o ho H locs ls hR hS hL
theorem xg_ifnull (hC : xm_C X own cc nL fr mc ms) {v : Int} {off : Int} (tgt : Nat) (hd : decode cc pc = .ok (.ifnull off, 3)) (ht : (pc : Int) + off = (tgt : Int)) (k1 : v = 0 → xm_V X kc sc r1 σ (tgt) l st) (k2 : ¬ v = 0 → xm_V X kc sc r2 σ (pc + 3) l st) : xm_V X kc sc (if v = 0 then r1 else r2) σ pc l (xm_rf (xx_G X) v :: st) := by
  intro o ho H locs ls hR hS hL
  by_cases h : v = 0
  · rw [if_pos h] at ho
    subst h
    exact lv_ifnullN hC.1 hC.2.1 hd ht (k1 rfl o ho H locs ls hR hS hL)
  · rw [if_neg h] at ho
    have e : xm_rf (xx_G X) v = .ref (xm_ad (xx_G X) v.toNat) := by unfold xm_rf xm_on; rw [if_neg h]; rfl
    rw [e]
    exact lv_ifnull hC.1 hC.2.1 hd (k2 h o ho H locs ls hR hS hL)
theorem xg_ifnonnull (hC : xm_C X own cc nL fr mc ms) {v : Int} {off : Int} (tgt : Nat) (hd : decode cc pc = .ok (.ifnonnull off, 3)) (ht : (pc : Int) + off = (tgt : Int)) (k1 : v = 0 → xm_V X kc sc r1 σ (pc + 3) l st) (k2 : ¬ v = 0 → xm_V X kc sc r2 σ (tgt) l st) : xm_V X kc sc (if v = 0 then r1 else r2) σ pc l (xm_rf (xx_G X) v :: st) := by
  intro o ho H locs ls hR hS hL
  by_cases h : v = 0
  · rw [if_pos h] at ho
    subst h
    exact lv_ifnonnullN hC.1 hC.2.1 hd (k1 rfl o ho H locs ls hR hS hL)
  · rw [if_neg h] at ho
    have e : xm_rf (xx_G X) v = .ref (xm_ad (xx_G X) v.toNat) := by unfold xm_rf xm_on; rw [if_neg h]; rfl
    rw [e]
    exact lv_ifnonnull hC.1 hC.2.1 hd ht (k2 h o ho H locs ls hR hS hL)
theorem xg_acmp_eq (hC : xm_C X own cc nL fr mc ms) {a b : Int} (ha : 0 ≤ a) (hb : 0 ≤ b) {off : Int} (tgt : Nat) (hd : decode cc pc = .ok (.if_acmp .eq off, 3)) (ht : (pc : Int) + off = (tgt : Int)) (k1 : a = b → xm_V X kc sc r1 σ (tgt) l st) (k2 : ¬ a = b → xm_V X kc sc r2 σ (pc + 3) l st) : xm_V X kc sc (if a = b then r1 else r2) σ pc l (xm_rf (xx_G X) b :: xm_rf (xx_G X) a :: st) := by
  intro o ho H locs ls hR hS hL
  have he := xm_on_inj (Γ := xx_G X) ha hb
  unfold xm_rf
  refine lv_acmp_eq hC.1 hC.2.1 hd ht (fun q => ?_) (fun q => ?_)
  · have q2 := he.mp q
    rw [if_pos q2] at ho
    exact k1 q2 o ho H locs ls hR hS hL
  · have q2 : ¬ (a = b) := fun z => q (he.mpr z)
    rw [if_neg q2] at ho
    exact k2 q2 o ho H locs ls hR hS hL
theorem xg_acmp_ne (hC : xm_C X own cc nL fr mc ms) {a b : Int} (ha : 0 ≤ a) (hb : 0 ≤ b) {off : Int} (tgt : Nat) (hd : decode cc pc = .ok (.if_acmp .ne off, 3)) (ht : (pc : Int) + off = (tgt : Int)) (k1 : a = b → xm_V X kc sc r1 σ (pc + 3) l st) (k2 : ¬ a = b → xm_V X kc sc r2 σ (tgt) l st) : xm_V X kc sc (if a = b then r1 else r2) σ pc l (xm_rf (xx_G X) b :: xm_rf (xx_G X) a :: st) := by
  intro o ho H locs ls hR hS hL
  have he := xm_on_inj (Γ := xx_G X) ha hb
  unfold xm_rf
  refine lv_acmp_ne hC.1 hC.2.1 hd ht (fun q => ?_) (fun q => ?_)
  · have q2 : ¬ (a = b) := fun z => q (he.mpr z)
    rw [if_neg q2] at ho
    exact k2 q2 o ho H locs ls hR hS hL
  · have q2 := he.mp q
    rw [if_pos q2] at ho
    exact k1 q2 o ho H locs ls hR hS hL
theorem xg_tswIn (hC : xm_C X own cc nL fr mc ms) {dflt lo hi : Int} {offs : Array Int} {len : Nat} {x : Int} (j : Int) {off : Int} (tgt : Nat) (hj : x = j) (hd : decode cc pc = .ok (.tableswitch dflt lo hi offs, len)) (hin : xm_in j) (h1 : ¬ j < lo) (h2 : ¬ hi < j) (ho2 : offs[(j - lo).toNat]? = some off) (ht : (pc : Int) + off = (tgt : Int)) (k : xm_V X kc sc r σ tgt l st) : xm_V X kc sc r σ pc l (.int (xm_J x) :: st) := by
  subst hj
  intro o ho H locs ls hR hS hL
  exact lv_tableIn hC.1 hC.2.1 hd (by rw [xm_J_toInt hin]; exact h1) (by rw [xm_J_toInt hin]; exact h2) (by rw [xm_J_toInt hin]; exact ho2) ht (k o ho H locs ls hR hS hL)
theorem xg_tswOut (hC : xm_C X own cc nL fr mc ms) {dflt lo hi : Int} {offs : Array Int} {len : Nat} {x : Int} (tgt : Nat) (hd : decode cc pc = .ok (.tableswitch dflt lo hi offs, len)) (hin : xm_in x) (h : x < lo ∨ hi < x) (ht : (pc : Int) + dflt = (tgt : Int)) (k : xm_V X kc sc r σ tgt l st) : xm_V X kc sc r σ pc l (.int (xm_J x) :: st) := by
  intro o ho H locs ls hR hS hL
  exact lv_tableOut hC.1 hC.2.1 hd (by rw [xm_J_toInt hin]; exact h) ht (k o ho H locs ls hR hS hL)
end XG
end
section
/-! ===== rows of the abstract machine: cells ===== -/
def xm_u1 (σ : xm_Mem) (a k : Nat) (v : Int) : xm_Mem := (fun a' k' => if a' = a ∧ k' = k then v else σ.1 a' k', σ.2)
def xm_u2 (σ : xm_Mem) (a k : Nat) (w : Int64) : xm_Mem := (σ.1, fun a' k' => if a' = a ∧ k' = k then w else σ.2.1 a' k', σ.2.2)
/-- one cell more -/
def xm_nw (σ : xm_Mem) : xm_Mem := (σ.1, σ.2.1, σ.2.2 + 1)
theorem xm_u1_at (σ : xm_Mem) (a k : Nat) (v : Int) : (xm_u1 σ a k v).1 a k = v := by simp [xm_u1]
theorem xm_u1_ne (σ : xm_Mem) {a k a' k' : Nat} (v : Int) (h : ¬ (a' = a ∧ k' = k)) : (xm_u1 σ a k v).1 a' k' = σ.1 a' k' := by simp [xm_u1, h]
theorem xm_u2_at (σ : xm_Mem) (a k : Nat) (v : Int64) : (xm_u2 σ a k v).2.1 a k = v := by simp [xm_u2]
theorem xm_u2_ne (σ : xm_Mem) {a k a' k' : Nat} (v : Int64) (h : ¬ (a' = a ∧ k' = k)) : (xm_u2 σ a k v).2.1 a' k' = σ.2.1 a' k' := by simp [xm_u2, h]
/-- a symbolic reference names an object of the class, or an array of the kind and length -/
abbrev xm_obj (σ : xm_Mem) (v : Int) (ci : Nat) : Prop := 1 ≤ v ∧ v ≤ σ.2.2 ∧ xm_lay v.toNat = (0, ci)
abbrev xm_arr (σ : xm_Mem) (v : Int) (kd n : Nat) : Prop := 1 ≤ v ∧ v ≤ σ.2.2 ∧ xm_lay v.toNat = (kd, n)
/-- the same for a place that is known -/
abbrev xm_has (I : xm_Mem → Prop) (a kd n : Nat) : Prop := (∀ σ, I σ → 1 ≤ a ∧ a ≤ σ.2.2) ∧ xm_lay a = (kd, n)
def xm_F (own : String) (idx ci k : Nat) : Prop := ci < 11 ∧ k < xm_nf ci ∧ Cond.fieldLink own idx (xm_cT ci k).1 (xm_cT ci k).2.1 (xm_cT ci k).2.2.1 ∈ xm_tb
theorem xm_cell_o {Γ : xm_Gm} {σ : xm_Mem} {a ci : Nat} (h : xm_lay a = (0, ci)) : xm_cell Γ σ a = .inr (ci, (List.range (xm_nf ci)).map (fun k => xm_val Γ (xm_ft ci k) (σ.1 a k) (σ.2.1 a k))) := by
  simp only [xm_cell, h]
theorem xm_cell_1 {Γ : xm_Gm} {σ : xm_Mem} {a n : Nat} (h : xm_lay a = (1, n)) : xm_cell Γ σ a = .inl (xm_cA Γ 1, n, .inl (fun i => xm_J (σ.1 a i))) := by
  simp only [xm_cell, h]
theorem xm_cell_2 {Γ : xm_Gm} {σ : xm_Mem} {a n : Nat} (h : xm_lay a = (2, n)) : xm_cell Γ σ a = .inl (xm_cA Γ 2, n, .inl (fun i => xm_J (σ.1 a i))) := by
  simp only [xm_cell, h]
theorem xm_cell_3 {Γ : xm_Gm} {σ : xm_Mem} {a n : Nat} (h : xm_lay a = (3, n)) : xm_cell Γ σ a = .inl (xm_cA Γ 3, n, .inr (.inl (fun i => σ.2.1 a i))) := by
  simp only [xm_cell, h]
theorem xm_cell_4 {Γ : xm_Gm} {σ : xm_Mem} {a n : Nat} (h : xm_lay a = (4, n)) : xm_cell Γ σ a = .inl (xm_cA Γ 4, n, .inr (.inr (.inr (.inr (fun i => xm_on Γ (σ.1 a i)))))) := by
  simp only [xm_cell, h]
theorem xm_cell_5 {Γ : xm_Gm} {σ : xm_Mem} {a n : Nat} (h : xm_lay a = (5, n)) : xm_cell Γ σ a = .inl (xm_cA Γ 5, n, .inr (.inr (.inr (.inr (fun i => xm_on Γ (σ.1 a i)))))) := by
  simp only [xm_cell, h]
theorem xm_cell_6 {Γ : xm_Gm} {σ : xm_Mem} {a n : Nat} (h : xm_lay a = (6, n)) : xm_cell Γ σ a = .inl (xm_cA Γ 6, n, .inl (fun i => xm_J (σ.1 a i))) := by
  simp only [xm_cell, h]
theorem xm_cell_7 {Γ : xm_Gm} {σ : xm_Mem} {a n : Nat} (h : xm_lay a = (7, n)) : xm_cell Γ σ a = .inl (xm_cA Γ 7, n, .inr (.inr (.inr (.inr (fun i => xm_sn Γ (σ.1 a i)))))) := by
  simp only [xm_cell, h]
theorem xm_cell_8 {Γ : xm_Gm} {σ : xm_Mem} {a n : Nat} (h : xm_lay a = (8, n)) : xm_cell Γ σ a = .inl (xm_cA Γ 1, n, .inl (fun i => xm_J (σ.1 a i))) := by
  simp only [xm_cell, h]
theorem xm_k7 {a k n : Nat} (h : xm_lay a = (k, n)) (hk : k ≤ 7) : (xm_lay a).1 ≤ 7 := by rw [h]; exact hk
theorem xm_109 {a : Nat} (h : (xm_lay a).1 ≤ 7) : a ≠ 109 := fun z => by
  rw [z] at h
  exact absurd h (by decide)
theorem xm_R.w1 {Γ : xm_Gm} {I : xm_Mem → Prop} {σ : xm_Mem} {H : Heap} (h : xm_R Γ I σ H) {a : Nat} (h1 : 1 ≤ a) (h2 : a ≤ σ.2.2) (hk : (xm_lay a).1 ≤ 7) {e : va_E} (he : xm_cell Γ σ a = e) : va_P (xm_D Γ) xm_cl [(xm_ad Γ a, e)] H := by
  intro k q hq
  cases k with
  | zero => cases hq; rw [← he]; exact h.1 a h1 h2 (Or.inl hk)
  | succ k => simp at hq
/-- a cell has changed: the memory follows -/
theorem xm_R.put {Γ : xm_Gm} {I : xm_Mem → Prop} {σ σ' : xm_Mem} {H H1 : Heap} {a : Nat} (h : xm_R Γ I σ H) (h1 : 1 ≤ a) (hn : σ'.2.2 = σ.2.2) (hg : ∀ k, σ'.1 109 k = σ.1 109 k) (hT : xm_T σ') (hI : I σ')
    (ho : ∀ b, b ≠ a → xm_cell Γ σ' b = xm_cell Γ σ b) (he : va_at (xm_D Γ) xm_cl (xm_ad Γ a, xm_cell Γ σ' a) H1) (z : H1.size = H.size) (oq : ∀ q : Nat, q ≠ xm_ad Γ a → H1[q]? = H[q]?) : xm_R Γ I σ' H1 := by
  have hgt := xm_ad_gt (Γ := Γ) h1
  refine ⟨fun b g1 g2 g3 => ?_, by rw [z, h.2.1]; unfold xm_top; rw [hn, hg], hT, hI, fun q hq => by rw [oq q (by omega)]; exact h.2.2.2.2.1 q hq, ?_⟩
  · by_cases e : b = a
    · subst e; exact he
    · rw [ho b e]
      exact (h.1 b g1 (by rw [← hn]; exact g2) (by unfold xm_lv at g3 ⊢; rw [← hg]; exact g3)).kept (oq _ (fun z => e (xm_ad_inj z)))
  · have := h.2.2.2.2.2
    unfold xm_gh at this ⊢
    rw [hn, hg, hg]
    exact this
theorem xm_cell_u1 {Γ : xm_Gm} {σ : xm_Mem} {a k b : Nat} {v : Int} (h : b ≠ a) : xm_cell Γ (xm_u1 σ a k v) b = xm_cell Γ σ b := by
  have e : ∀ i, (xm_u1 σ a k v).1 b i = σ.1 b i := fun i => xm_u1_ne σ v (fun z => h z.1)
  unfold xm_cell
  simp only [e]
  rfl
theorem xm_cell_u2 {Γ : xm_Gm} {σ : xm_Mem} {a k b : Nat} {v : Int64} (h : b ≠ a) : xm_cell Γ (xm_u2 σ a k v) b = xm_cell Γ σ b := by
  have e : ∀ i, (xm_u2 σ a k v).2.1 b i = σ.2.1 b i := fun i => xm_u2_ne σ v (fun z => h z.1)
  unfold xm_cell
  simp only [e]
  rfl
theorem xm_T.u1 {σ : xm_Mem} (h : xm_T σ) {a k : Nat} {v : Int} (ha : a ≤ σ.2.2) (hv : xm_in v) (hz : xm_tk a k = 3 → 0 ≤ v ∧ v ≤ 1) (hr : xm_tk a k = 1 → 0 ≤ v) (hb : xm_tk a k = 4 → 0 ≤ v ∧ v ≤ 127) : xm_T (xm_u1 σ a k v) := by
  intro b i
  by_cases e : b = a ∧ i = k
  · obtain ⟨rfl, rfl⟩ := e
    rw [xm_u1_at]
    exact ⟨hv, hz, hr, fun z => absurd ha (Nat.not_le.mpr z), hb⟩
  · rw [xm_u1_ne σ v e]
    exact h b i
theorem xm_T.u2 {σ : xm_Mem} (h : xm_T σ) {a k : Nat} {v : Int64} (ha : a ≤ σ.2.2) : xm_T (xm_u2 σ a k v) := by
  intro b i
  refine ⟨(h b i).1, (h b i).2.1, (h b i).2.2.1, fun z => ⟨((h b i).2.2.2.1 z).1, ?_⟩, (h b i).2.2.2.2⟩
  rw [xm_u2_ne σ v (fun q => absurd z (by rw [q.1]; exact Nat.not_lt.mpr ha))]
  exact ((h b i).2.2.2.1 z).2
theorem xm_u1_109 {σ : xm_Mem} {a k : Nat} {v : Int} (h : (xm_lay a).1 ≤ 7) : ∀ j, (xm_u1 σ a k v).1 109 j = σ.1 109 j := fun j => xm_u1_ne σ v (fun z => xm_109 h z.1.symm)
theorem xm_I.u1 {σ : xm_Mem} {a k : Nat} {v : Int} (h : xm_I σ) (hw : xm_wire a k = none) : xm_I (xm_u1 σ a k v) := by
  refine ⟨h.1, fun b i c hc => ?_⟩
  rw [xm_u1_ne σ v (fun z => by rw [z.1, z.2, hw] at hc; cases hc)]
  exact h.2 b i c hc
theorem xm_I.u2 {σ : xm_Mem} {a k : Nat} {v : Int64} (h : xm_I σ) : xm_I (xm_u2 σ a k v) := ⟨h.1, h.2⟩
theorem xm_I.nw {σ : xm_Mem} (h : xm_I σ) : xm_I (xm_nw σ) := ⟨Nat.le_succ_of_le h.1, h.2⟩
theorem xm_hasK {a kd n : Nat} (h : (decide (1 ≤ a) && decide (a ≤ 110) && decide (xm_lay a = (kd, n))) = true) : xm_has xm_I a kd n := by
  simp at h
  exact ⟨fun σ hI => ⟨h.1.1, Nat.le_trans h.1.2 hI.1⟩, h.2⟩
theorem xm_len_map {Γ : xm_Gm} {σ : xm_Mem} {a ci k : Nat} : ((List.range (xm_nf ci)).map (fun k => xm_val Γ (xm_ft ci k) (σ.1 a k) (σ.2.1 a k))).length = xm_nf ci := by simp
theorem xm_map_set1 {Γ : xm_Gm} {σ : xm_Mem} {a ci k : Nat} {v : Int} (hk : k < xm_nf ci) (ht : xm_ft ci k ≠ 2) : ((List.range (xm_nf ci)).map (fun k => xm_val Γ (xm_ft ci k) (σ.1 a k) (σ.2.1 a k))).set k (xm_val Γ (xm_ft ci k) v 0) = (List.range (xm_nf ci)).map (fun j => xm_val Γ (xm_ft ci j) ((xm_u1 σ a k v).1 a j) ((xm_u1 σ a k v).2.1 a j)) := by
  have hval : ∀ x y z, xm_val Γ (xm_ft ci k) x y = xm_val Γ (xm_ft ci k) x z := by
    intro x y z
    unfold xm_val
    split
    · rfl
    · exact absurd (by assumption) ht
    · rfl
  apply List.ext_getElem
  · simp
  · intro i h1 h2
    simp only [List.getElem_set, List.getElem_map, List.getElem_range]
    by_cases e : k = i
    · subst e
      rw [if_pos rfl, xm_u1_at]
      exact hval _ _ _
    · rw [if_neg e, xm_u1_ne σ v (fun z => e z.2.symm)]
      rfl
theorem xm_map_set2 {Γ : xm_Gm} {σ : xm_Mem} {a ci k : Nat} {v : Int64} (hk : k < xm_nf ci) (ht : xm_ft ci k = 2) : ((List.range (xm_nf ci)).map (fun k => xm_val Γ (xm_ft ci k) (σ.1 a k) (σ.2.1 a k))).set k (.long v) = (List.range (xm_nf ci)).map (fun j => xm_val Γ (xm_ft ci j) ((xm_u2 σ a k v).1 a j) ((xm_u2 σ a k v).2.1 a j)) := by
  apply List.ext_getElem
  · simp
  · intro i h1 h2
    simp only [List.getElem_set, List.getElem_map, List.getElem_range]
    by_cases e : k = i
    · subst e
      rw [if_pos rfl, xm_u2_at, ht]
      rfl
    · rw [if_neg e, xm_u2_ne σ v (fun z => e z.2.symm)]
      rfl
section XH
variable {X : xm_X} {own : String} {cc : ByteArray} {nL fr mc ms kc sc : Nat} {r r1 r2 : Option xm_Out} {σ : xm_Mem} {pc : Nat} {l l' : List (Nat × Value)} {st : List Value}
theorem xg_facts (k : xm_T σ → xx_I X σ → xm_V X kc sc r σ pc l st) : xm_V X kc sc r σ pc l st := fun o ho H locs ls hR hS hL => k hR.2.2.1 hR.2.2.2.1 o ho H locs ls hR hS hL
/-- getfield, at an object that is there -/
theorem xg_get0 (hC : xm_C X own cc nL fr mc ms) {a ci k idx : Nat} (hl : xm_lay a = (0, ci)) (ha : xx_I X σ → 1 ≤ a ∧ a ≤ σ.2.2) (hF : xm_F own idx ci k) (hd : decode cc pc = .ok (.getfield idx, 3)) (kk : xm_V X kc sc r σ (pc + 3) l (xm_val (xx_G X) (xm_ft ci k) (σ.1 a k) (σ.2.1 a k) :: st)) : xm_V X kc sc r σ pc l (.ref (xm_ad (xx_G X) a) :: st) := by
  intro o ho H locs ls hR hS hL
  obtain ⟨hci, hk, hlink⟩ := hF
  obtain ⟨h1, h2⟩ := ha hR.2.2.2.1
  exact va_get (C := xm_cR ci) (T := xm_cT ci) (N := xm_nf ci) (ci := ci) (Ts := xm_tb) hC.1 hC.2.1 hC.2.2.2.2.1 (xm_hin hci) hC.2.2.2.1 hC.2.2.2.2.2.1.1 (hR.w1 h1 h2 (xm_k7 hl (by decide)) (xm_cell_o hl)) 0 rfl (xm_cl_at hci) k hk (hC.2.2.2.2.1 _ hlink) (fun _ h => h) (by simp [hk]) hd (kk o ho H locs ls hR hS hL)
theorem xg_getI (hC : xm_C X own cc nL fr mc ms) {a ci k idx : Nat} (hl : xm_has (xx_I X) a 0 ci) (ht : xm_ft ci k = 0) (hF : xm_F own idx ci k) (hd : decode cc pc = .ok (.getfield idx, 3)) (kk : xm_in (σ.1 a k) → xm_V X kc sc r σ (pc + 3) l (.int (xm_J (σ.1 a k)) :: st)) : xm_V X kc sc r σ pc l (.ref (xm_ad (xx_G X) a) :: st) := by
  refine xg_facts (fun hT hI => xg_get0 hC hl.2 (hl.1 σ) hF hd ?_)
  rw [ht]
  exact kk (hT a k).1
theorem xm_tk_o {a ci k : Nat} (hl : xm_lay a = (0, ci)) : xm_tk a k = xm_ft ci k := by simp only [xm_tk, hl]
theorem xg_getZ (hC : xm_C X own cc nL fr mc ms) {a ci k idx : Nat} (hl : xm_has (xx_I X) a 0 ci) (ht : xm_ft ci k = 3) (hF : xm_F own idx ci k) (hd : decode cc pc = .ok (.getfield idx, 3)) (kk : 0 ≤ σ.1 a k ∧ σ.1 a k ≤ 1 → xm_V X kc sc r σ (pc + 3) l (.int (xm_J (σ.1 a k)) :: st)) : xm_V X kc sc r σ pc l (.ref (xm_ad (xx_G X) a) :: st) := by
  refine xg_facts (fun hT hI => xg_get0 hC hl.2 (hl.1 σ) hF hd ?_)
  rw [ht]
  exact kk ((hT a k).2.1 (by rw [xm_tk_o hl.2]; exact ht))
theorem xg_getL (hC : xm_C X own cc nL fr mc ms) {a ci k idx : Nat} (hl : xm_has (xx_I X) a 0 ci) (ht : xm_ft ci k = 2) (hF : xm_F own idx ci k) (hd : decode cc pc = .ok (.getfield idx, 3)) (kk : xm_V X kc sc r σ (pc + 3) l (.long (σ.2.1 a k) :: st)) : xm_V X kc sc r σ pc l (.ref (xm_ad (xx_G X) a) :: st) := by
  refine xg_facts (fun hT hI => xg_get0 hC hl.2 (hl.1 σ) hF hd ?_)
  rw [ht]
  exact kk
theorem xg_getB (hC : xm_C X own cc nL fr mc ms) {a ci k idx : Nat} (hl : xm_has (xx_I X) a 0 ci) (ht : xm_ft ci k = 4) (hF : xm_F own idx ci k) (hd : decode cc pc = .ok (.getfield idx, 3)) (kk : 0 ≤ σ.1 a k ∧ σ.1 a k ≤ 127 → xm_V X kc sc r σ (pc + 3) l (.int (xm_J (σ.1 a k)) :: st)) : xm_V X kc sc r σ pc l (.ref (xm_ad (xx_G X) a) :: st) := by
  refine xg_facts (fun hT hI => xg_get0 hC hl.2 (hl.1 σ) hF hd ?_)
  rw [ht]
  exact kk ((hT a k).2.2.2.2 (by rw [xm_tk_o hl.2]; exact ht))
/-- a reference in a known object -/
theorem xg_getR (hC : xm_C X own cc nL fr mc ms) {a ci k idx : Nat} (hl : xm_has (xx_I X) a 0 ci) (ht : xm_ft ci k = 1) (hF : xm_F own idx ci k) (hd : decode cc pc = .ok (.getfield idx, 3)) (kk : 0 ≤ σ.1 a k → xm_V X kc sc r σ (pc + 3) l (xm_rf (xx_G X) (σ.1 a k) :: st)) : xm_V X kc sc r σ pc l (.ref (xm_ad (xx_G X) a) :: st) := by
  refine xg_facts (fun hT hI => xg_get0 hC hl.2 (hl.1 σ) hF hd ?_)
  rw [ht]
  exact kk ((hT a k).2.2.1 (by rw [xm_tk_o hl.2]; exact ht))
/-- a final reference: where it leads -/
theorem xg_getW (hC : xm_C X own cc nL fr mc ms) {a ci k idx b : Nat} (hl : xm_has (xx_I X) a 0 ci) (ht : xm_ft ci k = 1) (hw : xx_I X σ → σ.1 a k = (b : Int)) (hb : 1 ≤ b) (hF : xm_F own idx ci k) (hd : decode cc pc = .ok (.getfield idx, 3)) (kk : xm_V X kc sc r σ (pc + 3) l (.ref (xm_ad (xx_G X) b) :: st)) : xm_V X kc sc r σ pc l (.ref (xm_ad (xx_G X) a) :: st) := by
  refine xg_facts (fun hT hI => xg_get0 hC hl.2 (hl.1 σ) hF hd ?_)
  rw [ht, hw hI]
  have e : xm_val (xx_G X) 1 (b : Int) (σ.2.1 a k) = .ref (xm_ad (xx_G X) b) := by
    show xm_rf _ _ = _
    rw [xm_rf_pos (by omega), Int.toNat_natCast]
  rw [e]
  exact kk
/-- a final int: what it is -/
theorem xg_getC (hC : xm_C X own cc nL fr mc ms) {a ci k idx b : Nat} (hl : xm_has (xx_I X) a 0 ci) (ht : xm_ft ci k = 0) (hw : xx_I X σ → σ.1 a k = (b : Int)) (hF : xm_F own idx ci k) (hd : decode cc pc = .ok (.getfield idx, 3)) (kk : xm_in (b : Int) → xm_V X kc sc r σ (pc + 3) l (.int (xm_J (b : Int)) :: st)) : xm_V X kc sc r σ pc l (.ref (xm_ad (xx_G X) a) :: st) := by
  refine xg_facts (fun hT hI => xg_get0 hC hl.2 (hl.1 σ) hF hd ?_)
  have h := kk (by rw [← hw hI]; exact (hT a k).1)
  rw [ht, hw hI]
  exact h
-- by a symbolic reference
theorem xg_sget0 (hC : xm_C X own cc nL fr mc ms) {ci k idx : Nat} {v : Int} (hF : xm_F own idx ci k) (hd : decode cc pc = .ok (.getfield idx, 3)) (kk : xm_obj σ v ci → xm_V X kc sc r σ (pc + 3) l (xm_val (xx_G X) (xm_ft ci k) (σ.1 v.toNat k) (σ.2.1 v.toNat k) :: st)) : xm_V X kc sc (if xm_obj σ v ci then r else none) σ pc l (xm_rf (xx_G X) v :: st) := by
  refine xg_guard (fun h => ?_)
  rw [xm_rf_pos h.1]
  exact xg_get0 hC h.2.2 (fun _ => ⟨by omega, by omega⟩) hF hd (kk h)
theorem xg_sgetI (hC : xm_C X own cc nL fr mc ms) {ci k idx : Nat} {v : Int} (ht : xm_ft ci k = 0) (hF : xm_F own idx ci k) (hd : decode cc pc = .ok (.getfield idx, 3)) (kk : xm_in (σ.1 v.toNat k) → xm_V X kc sc r σ (pc + 3) l (.int (xm_J (σ.1 v.toNat k)) :: st)) : xm_V X kc sc (if xm_obj σ v ci then r else none) σ pc l (xm_rf (xx_G X) v :: st) := by
  refine xg_facts (fun hT _ => xg_sget0 hC hF hd (fun h => ?_))
  rw [ht]
  exact kk (hT _ _).1
theorem xg_sgetZ (hC : xm_C X own cc nL fr mc ms) {ci k idx : Nat} {v : Int} (ht : xm_ft ci k = 3) (hF : xm_F own idx ci k) (hd : decode cc pc = .ok (.getfield idx, 3)) (kk : 0 ≤ σ.1 v.toNat k ∧ σ.1 v.toNat k ≤ 1 → xm_V X kc sc r σ (pc + 3) l (.int (xm_J (σ.1 v.toNat k)) :: st)) : xm_V X kc sc (if xm_obj σ v ci then r else none) σ pc l (xm_rf (xx_G X) v :: st) := by
  refine xg_facts (fun hT _ => xg_sget0 hC hF hd (fun h => ?_))
  rw [ht]
  exact kk ((hT _ _).2.1 (by rw [xm_tk_o h.2.2]; exact ht))
theorem xg_sgetR (hC : xm_C X own cc nL fr mc ms) {ci k idx : Nat} {v : Int} (ht : xm_ft ci k = 1) (hF : xm_F own idx ci k) (hd : decode cc pc = .ok (.getfield idx, 3)) (kk : 0 ≤ σ.1 v.toNat k → xm_V X kc sc r σ (pc + 3) l (xm_rf (xx_G X) (σ.1 v.toNat k) :: st)) : xm_V X kc sc (if xm_obj σ v ci then r else none) σ pc l (xm_rf (xx_G X) v :: st) := by
  refine xg_facts (fun hT _ => xg_sget0 hC hF hd (fun h => ?_))
  rw [ht]
  exact kk ((hT _ _).2.2.1 (by rw [xm_tk_o h.2.2]; exact ht))
/-- putfield, any place; the memory behind it is given -/
theorem xg_put0 (hC : xm_C X own cc nL fr mc ms) {a ci k idx : Nat} {v : Value} {σ' : xm_Mem} (hl : xm_lay a = (0, ci)) (ha : xx_I X σ → 1 ≤ a ∧ a ≤ σ.2.2) (hfin : (xm_cT ci k).2.2.2 = false ∨ ((xx_t X).name = "<init>" ∧ (xm_cT ci k).1 = own)) (hn : narrow (xm_cty ci k) v = v) (hfit : fits (xm_cty ci k) v = true)
    (hn2 : σ'.2.2 = σ.2.2) (hg2 : ∀ k, σ'.1 109 k = σ.1 109 k) (hT' : xm_T σ → xx_I X σ → xm_T σ') (hI' : xx_I X σ → xx_I X σ') (ho2 : ∀ b, b ≠ a → xm_cell (xx_G X) σ' b = xm_cell (xx_G X) σ b) (hset : ((List.range (xm_nf ci)).map (fun k => xm_val (xx_G X) (xm_ft ci k) (σ.1 a k) (σ.2.1 a k))).set k v = (List.range (xm_nf ci)).map (fun j => xm_val (xx_G X) (xm_ft ci j) (σ'.1 a j) (σ'.2.1 a j)))
    (hF : xm_F own idx ci k) (hd : decode cc pc = .ok (.putfield idx, 3)) (kk : xm_V X kc sc r σ' (pc + 3) l st) : xm_V X kc sc r σ pc l (v :: .ref (xm_ad (xx_G X) a) :: st) := by
  intro o ho H locs ls hR hS hL
  obtain ⟨hci, hk, hlink⟩ := hF
  obtain ⟨h1, h2⟩ := ha hR.2.2.2.1
  have hts := hC.2.2.2.2.1
  have hin := xm_hin hci
  have hK := hC.2.2.2.2.2.1.1
  have hc := xm_cl_at hci
  have hown := hC.2.2.2.1
  have hap := va_apart (own := own) (D := xm_D (xx_G X)) hts hin (xm_cty ci) (xm_hty hci) (xm_hnm hci) hK hc
  have hP := hR.1 a h1 h2 (Or.inl (xm_k7 hl (by decide)))
  rw [xm_cell_o hl] at hP
  obtain ⟨r0, h3, cell, q1, q2, q3, q4⟩ := hP
  have hr : r0 = (xm_cR ci, xm_cT ci, xm_nf ci) := Option.some.inj (h3.symm.trans hc)
  subst hr
  obtain ⟨hS0, hfc, kC, hkC, hkind⟩ := hK.1 ci _ hc
  obtain ⟨cf, kf, fi, f, hi, hsl⟩ := hS0 k hk
  have hst := (u_facts hfc hkC (u_lays hts hin hk) hi).1
  have hlen : k < ((List.range (xm_nf ci)).map (fun k => xm_val (xx_G X) (xm_ft ci k) (σ.1 a k) (σ.2.1 a k))).length := by simp [hk]
  have tail : ∀ (H' : Heap) (L : List Loc), H'[xm_ad (xx_G X) a]? = some (cell.setSlot f.slot v) → H'.size = H.size → (∀ q, q ≠ xm_ad (xx_G X) a → H'[q]? = H[q]?) → va_S (xm_A X) (xx_s X).heap H' L → xm_W X H' L kc sc o (F0 (xx_m X) (pc + 3) ls st) := by
    intro H' L e1 e2 e3 e4
    refine kk o ho H' L ls (hR.put h1 hn2 hg2 (hT' hR.2.2.1 hR.2.2.2.1) (hI' hR.2.2.2.1) ho2 ?_ e2 e3) e4 hL
    rw [xm_cell_o hl, ← hset]
    rw [hsl] at e1
    exact ⟨_, hc, t_OB.to (V := updV (vp_V _) k v) ⟨_, e1, q2, q3, t_set q4 hap hk v⟩ (fun j _ => vp_updV_set hlen v j)⟩
  have hd2 := xm_hty hci k hk
  have hA : xm_A X (xm_ad (xx_G X) a) := xm_ad_gt h1
  rcases hfin with hfin | ⟨hin2, hdecl⟩
  · have hlay := hts _ (hin _ (u_in_lay hk))
    unfold u_lay at hlay
    by_cases hff : (xm_cT ci k).2.2.2 = true
    · rw [hfin] at hff; cases hff
    rw [if_neg hff] at hlay
    have h6 := u_store hfc hkC hkind hlay hi hd2 hn hfit
    refine W.putK hC.1 hC.2.1 (f := f) ⟨hown, hts _ hlink, ⟨_, _, _, hi⟩, hst⟩ (by rw [q2]; exact h6) q1 q3 (by rw [hsl]; exact k2_hasslot (q4 k hk)) rfl rfl hd fun H' e1 e2 e3 => ?_
    exact tail H' _ e1 e2 e3 (hS.put e2 e3 hA)
  · by_cases hff : (xm_cT ci k).2.2.2 = true
    · have hlay := hts _ (hin _ (u_in_lay hk))
      unfold u_lay at hlay
      rw [if_pos hff] at hlay
      have hcf : (xx_m X).cls = cf := by
        obtain ⟨_, _, c', _, _, _, -, -, hf', -, -, -, hown2, -⟩ := Cond.laysFinal_spec hlay
        have e1 : c' = cf := by have := hi.symm.trans hf'; simp at this; exact this.1.symm
        rw [hdecl] at hown2
        rw [← e1]; exact Option.some.inj (hown.symm.trans hown2)
      have h6 := u_fits hfc hkC hkind (Or.inr hlay) hi hd2 hn hfit
      refine W.putFinK hC.1 hC.2.1 hown (hts _ hlink) hi hst hcf hin2 (by rw [q2]; exact h6) q1 q3 (by rw [hsl]; exact k2_hasslot (q4 k hk)) rfl rfl hd fun H' e1 e2 e3 => ?_
      exact tail H' _ e1 e2 e3 (hS.put e2 e3 hA)
    · have hlay := hts _ (hin _ (u_in_lay hk))
      unfold u_lay at hlay
      rw [if_neg hff] at hlay
      have h6 := u_store hfc hkC hkind hlay hi hd2 hn hfit
      refine W.putK hC.1 hC.2.1 (f := f) ⟨hown, hts _ hlink, ⟨_, _, _, hi⟩, hst⟩ (by rw [q2]; exact h6) q1 q3 (by rw [hsl]; exact k2_hasslot (q4 k hk)) rfl rfl hd fun H' e1 e2 e3 => ?_
      exact tail H' _ e1 e2 e3 (hS.put e2 e3 hA)
end XH
end
section
/-! ===== rows of the abstract machine: stores, arrays ===== -/
theorem xm_cty0 {ci k : Nat} (h : xm_ft ci k = 0) : xm_cty ci k = .int := by
  unfold xm_ft at h; split at h <;> simp_all
theorem xm_cty3 {ci k : Nat} (h : xm_ft ci k = 3) : xm_cty ci k = .boolean := by
  unfold xm_ft at h; split at h <;> simp_all
theorem xm_cty2 {ci k : Nat} (h : xm_ft ci k = 2) : xm_cty ci k = .long := by
  unfold xm_ft at h; split at h <;> simp_all
theorem xm_zn {v : Int} (h : 0 ≤ v ∧ v ≤ 1) : narrow .boolean (.int (xm_J v)) = .int (xm_J v) ∧ fits .boolean (.int (xm_J v)) = true := by
  have : v = 0 ∨ v = 1 := by omega
  rcases this with rfl | rfl <;> exact ⟨rfl, by decide⟩
def xm_isR (ty : FieldType) : Bool := match ty with | .object _ => true | .array _ => true | _ => false
theorem xm_rn {Γ : xm_Gm} {ty : FieldType} {v : Int} (h : xm_isR ty = true) : narrow ty (xm_rf Γ v) = xm_rf Γ v ∧ fits ty (xm_rf Γ v) = true := by
  unfold xm_rf
  cases xm_on Γ v <;> cases ty <;> first | (simp [xm_isR] at h; done) | exact ⟨rfl, rfl⟩
section XJ
variable {X : xm_X} {own : String} {cc : ByteArray} {nL fr mc ms kc sc : Nat} {r r1 r2 : Option xm_Out} {σ : xm_Mem} {pc : Nat} {l l' : List (Nat × Value)} {st : List Value}
/-- a store keeps what is known of the memory -/
abbrev xm_kp (X : xm_X) (σ : xm_Mem) (a k : Nat) (v : Int) : Prop := xx_I X σ → xx_I X (xm_u1 σ a k v)
theorem xg_putI0 (hC : xm_C X own cc nL fr mc ms) {a ci k idx : Nat} {v : Int} (hl : xm_lay a = (0, ci)) (ha : xx_I X σ → 1 ≤ a ∧ a ≤ σ.2.2) (ht : xm_ft ci k = 0) (hfin : (xm_cT ci k).2.2.2 = false ∨ ((xx_t X).name = "<init>" ∧ (xm_cT ci k).1 = own)) (hv : xm_in v) (hI : xm_kp X σ a k v) (hF : xm_F own idx ci k) (hd : decode cc pc = .ok (.putfield idx, 3)) (kk : xm_V X kc sc r (xm_u1 σ a k v) (pc + 3) l st) : xm_V X kc sc r σ pc l (.int (xm_J v) :: .ref (xm_ad (xx_G X) a) :: st) := by
  have h := xm_map_set1 (Γ := xx_G X) (σ := σ) (a := a) (v := v) hF.2.1 (by rw [ht]; decide)
  rw [ht] at h
  refine xg_put0 (σ' := xm_u1 σ a k v) hC hl ha hfin (by rw [xm_cty0 ht]; rfl) (by rw [xm_cty0 ht]; rfl) rfl (xm_u1_109 (xm_k7 hl (by decide))) (fun hT hI2 => hT.u1 (ha hI2).2 hv ?_ ?_ ?_) hI (fun b hb => xm_cell_u1 hb) h hF hd kk
  · rw [xm_tk_o hl, ht]; exact fun q => by cases q
  · rw [xm_tk_o hl, ht]; exact fun q => by cases q
  · rw [xm_tk_o hl, ht]; exact fun q => by cases q
theorem xg_putI (hC : xm_C X own cc nL fr mc ms) {a ci k idx : Nat} {v : Int} (hl : xm_has (xx_I X) a 0 ci) (ht : xm_ft ci k = 0) (hfin : (xm_cT ci k).2.2.2 = false) (hv : xm_in v) (hI : xm_kp X σ a k v) (hF : xm_F own idx ci k) (hd : decode cc pc = .ok (.putfield idx, 3)) (kk : xm_V X kc sc r (xm_u1 σ a k v) (pc + 3) l st) : xm_V X kc sc r σ pc l (.int (xm_J v) :: .ref (xm_ad (xx_G X) a) :: st) :=
  xg_putI0 hC hl.2 (hl.1 σ) ht (Or.inl hfin) hv hI hF hd kk
theorem xg_putZ0 (hC : xm_C X own cc nL fr mc ms) {a ci k idx : Nat} {v : Int} (hl : xm_lay a = (0, ci)) (ha : xx_I X σ → 1 ≤ a ∧ a ≤ σ.2.2) (ht : xm_ft ci k = 3) (hfin : (xm_cT ci k).2.2.2 = false ∨ ((xx_t X).name = "<init>" ∧ (xm_cT ci k).1 = own)) (hv : 0 ≤ v ∧ v ≤ 1) (hI : xm_kp X σ a k v) (hF : xm_F own idx ci k) (hd : decode cc pc = .ok (.putfield idx, 3)) (kk : xm_V X kc sc r (xm_u1 σ a k v) (pc + 3) l st) : xm_V X kc sc r σ pc l (.int (xm_J v) :: .ref (xm_ad (xx_G X) a) :: st) := by
  have h := xm_map_set1 (Γ := xx_G X) (σ := σ) (a := a) (v := v) hF.2.1 (by rw [ht]; decide)
  rw [ht] at h
  refine xg_put0 (σ' := xm_u1 σ a k v) hC hl ha hfin (by rw [xm_cty3 ht]; exact (xm_zn hv).1) (by rw [xm_cty3 ht]; exact (xm_zn hv).2) rfl (xm_u1_109 (xm_k7 hl (by decide))) (fun hT hI2 => hT.u1 (ha hI2).2 (xm_in01 hv) (fun _ => hv) ?_ ?_) hI (fun b hb => xm_cell_u1 hb) h hF hd kk
  · rw [xm_tk_o hl, ht]; exact fun q => by cases q
  · rw [xm_tk_o hl, ht]; exact fun q => by cases q
theorem xg_putZ (hC : xm_C X own cc nL fr mc ms) {a ci k idx : Nat} {v : Int} (hl : xm_has (xx_I X) a 0 ci) (ht : xm_ft ci k = 3) (hfin : (xm_cT ci k).2.2.2 = false) (hv : 0 ≤ v ∧ v ≤ 1) (hI : xm_kp X σ a k v) (hF : xm_F own idx ci k) (hd : decode cc pc = .ok (.putfield idx, 3)) (kk : xm_V X kc sc r (xm_u1 σ a k v) (pc + 3) l st) : xm_V X kc sc r σ pc l (.int (xm_J v) :: .ref (xm_ad (xx_G X) a) :: st) :=
  xg_putZ0 hC hl.2 (hl.1 σ) ht (Or.inl hfin) hv hI hF hd kk
theorem xg_putR0 (hC : xm_C X own cc nL fr mc ms) {a ci k idx : Nat} {v : Int} (hl : xm_lay a = (0, ci)) (ha : xx_I X σ → 1 ≤ a ∧ a ≤ σ.2.2) (ht : xm_ft ci k = 1) (hty : xm_isR (xm_cty ci k) = true) (hfin : (xm_cT ci k).2.2.2 = false ∨ ((xx_t X).name = "<init>" ∧ (xm_cT ci k).1 = own)) (hv : xm_in v) (hv0 : 0 ≤ v) (hI : xm_kp X σ a k v) (hF : xm_F own idx ci k) (hd : decode cc pc = .ok (.putfield idx, 3)) (kk : xm_V X kc sc r (xm_u1 σ a k v) (pc + 3) l st) : xm_V X kc sc r σ pc l (xm_rf (xx_G X) v :: .ref (xm_ad (xx_G X) a) :: st) := by
  have h := xm_map_set1 (Γ := xx_G X) (σ := σ) (a := a) (v := v) hF.2.1 (by rw [ht]; decide)
  rw [ht] at h
  refine xg_put0 (σ' := xm_u1 σ a k v) hC hl ha hfin (xm_rn hty).1 (xm_rn hty).2 rfl (xm_u1_109 (xm_k7 hl (by decide))) (fun hT hI2 => hT.u1 (ha hI2).2 hv ?_ (fun _ => hv0) ?_) hI (fun b hb => xm_cell_u1 hb) h hF hd kk
  · rw [xm_tk_o hl, ht]; exact fun q => by cases q
  · rw [xm_tk_o hl, ht]; exact fun q => by cases q
theorem xg_putL0 (hC : xm_C X own cc nL fr mc ms) {a ci k idx : Nat} {v : Int64} (hl : xm_lay a = (0, ci)) (ha : xx_I X σ → 1 ≤ a ∧ a ≤ σ.2.2) (ht : xm_ft ci k = 2) (hfin : (xm_cT ci k).2.2.2 = false ∨ ((xx_t X).name = "<init>" ∧ (xm_cT ci k).1 = own)) (hI : xx_I X σ → xx_I X (xm_u2 σ a k v)) (hF : xm_F own idx ci k) (hd : decode cc pc = .ok (.putfield idx, 3)) (kk : xm_V X kc sc r (xm_u2 σ a k v) (pc + 3) l st) : xm_V X kc sc r σ pc l (.long v :: .ref (xm_ad (xx_G X) a) :: st) :=
  xg_put0 (σ' := xm_u2 σ a k v) hC hl ha hfin (by rw [xm_cty2 ht]; rfl) (by rw [xm_cty2 ht]; rfl) rfl (fun _ => rfl) (fun hT hI2 => hT.u2 (ha hI2).2) hI (fun b hb => xm_cell_u2 hb) (xm_map_set2 hF.2.1 ht) hF hd kk
theorem xg_putL (hC : xm_C X own cc nL fr mc ms) {a ci k idx : Nat} {v : Int64} (hl : xm_has (xx_I X) a 0 ci) (ht : xm_ft ci k = 2) (hfin : (xm_cT ci k).2.2.2 = false) (hI : xx_I X σ → xx_I X (xm_u2 σ a k v)) (hF : xm_F own idx ci k) (hd : decode cc pc = .ok (.putfield idx, 3)) (kk : xm_V X kc sc r (xm_u2 σ a k v) (pc + 3) l st) : xm_V X kc sc r σ pc l (.long v :: .ref (xm_ad (xx_G X) a) :: st) :=
  xg_putL0 hC hl.2 (hl.1 σ) ht (Or.inl hfin) hI hF hd kk
-- by a symbolic reference (constructors; an entry's own fields)
theorem xg_sputI (hC : xm_C X own cc nL fr mc ms) {ci k idx : Nat} {q v : Int} (ht : xm_ft ci k = 0) (hfin : (xm_cT ci k).2.2.2 = false ∨ ((xx_t X).name = "<init>" ∧ (xm_cT ci k).1 = own)) (hv : xm_in v) (hI : xm_obj σ q ci → xm_kp X σ q.toNat k v) (hF : xm_F own idx ci k) (hd : decode cc pc = .ok (.putfield idx, 3)) (kk : xm_V X kc sc r (xm_u1 σ q.toNat k v) (pc + 3) l st) : xm_V X kc sc (if xm_obj σ q ci then r else none) σ pc l (.int (xm_J v) :: xm_rf (xx_G X) q :: st) := by
  refine xg_guard (fun h => ?_)
  rw [xm_rf_pos h.1]
  exact xg_putI0 hC h.2.2 (fun _ => ⟨by omega, by omega⟩) ht hfin hv (hI h) hF hd kk
theorem xg_sputZ (hC : xm_C X own cc nL fr mc ms) {ci k idx : Nat} {q v : Int} (ht : xm_ft ci k = 3) (hfin : (xm_cT ci k).2.2.2 = false ∨ ((xx_t X).name = "<init>" ∧ (xm_cT ci k).1 = own)) (hv : 0 ≤ v ∧ v ≤ 1) (hI : xm_obj σ q ci → xm_kp X σ q.toNat k v) (hF : xm_F own idx ci k) (hd : decode cc pc = .ok (.putfield idx, 3)) (kk : xm_V X kc sc r (xm_u1 σ q.toNat k v) (pc + 3) l st) : xm_V X kc sc (if xm_obj σ q ci then r else none) σ pc l (.int (xm_J v) :: xm_rf (xx_G X) q :: st) := by
  refine xg_guard (fun h => ?_)
  rw [xm_rf_pos h.1]
  exact xg_putZ0 hC h.2.2 (fun _ => ⟨by omega, by omega⟩) ht hfin hv (hI h) hF hd kk
theorem xg_sputR (hC : xm_C X own cc nL fr mc ms) {ci k idx : Nat} {q v : Int} (ht : xm_ft ci k = 1) (hty : xm_isR (xm_cty ci k) = true) (hfin : (xm_cT ci k).2.2.2 = false ∨ ((xx_t X).name = "<init>" ∧ (xm_cT ci k).1 = own)) (hv : xm_in v) (hv0 : 0 ≤ v) (hI : xm_obj σ q ci → xm_kp X σ q.toNat k v) (hF : xm_F own idx ci k) (hd : decode cc pc = .ok (.putfield idx, 3)) (kk : xm_V X kc sc r (xm_u1 σ q.toNat k v) (pc + 3) l st) : xm_V X kc sc (if xm_obj σ q ci then r else none) σ pc l (xm_rf (xx_G X) v :: xm_rf (xx_G X) q :: st) := by
  refine xg_guard (fun h => ?_)
  rw [xm_rf_pos (v := q) h.1]
  exact xg_putR0 hC h.2.2 (fun _ => ⟨by omega, by omega⟩) ht hty hfin hv hv0 (hI h) hF hd kk
theorem xg_sputL (hC : xm_C X own cc nL fr mc ms) {ci k idx : Nat} {q : Int} {v : Int64} (ht : xm_ft ci k = 2) (hfin : (xm_cT ci k).2.2.2 = false ∨ ((xx_t X).name = "<init>" ∧ (xm_cT ci k).1 = own)) (hI : xm_obj σ q ci → xx_I X σ → xx_I X (xm_u2 σ q.toNat k v)) (hF : xm_F own idx ci k) (hd : decode cc pc = .ok (.putfield idx, 3)) (kk : xm_V X kc sc r (xm_u2 σ q.toNat k v) (pc + 3) l st) : xm_V X kc sc (if xm_obj σ q ci then r else none) σ pc l (.long v :: xm_rf (xx_G X) q :: st) := by
  refine xg_guard (fun h => ?_)
  rw [xm_rf_pos h.1]
  exact xg_putL0 hC h.2.2 (fun _ => ⟨by omega, by omega⟩) ht hfin (hI h) hF hd kk
-- arrays: reads
theorem xg_iald (hC : xm_C X own cc nL fr mc ms) {a n : Nat} {i N : Int} (hl : xm_has (xx_I X) a 1 n) (hN : (n : Int) = N) (hi : xm_in i) (hd : decode cc pc = .ok (.iaload, 1)) (kk : 0 ≤ i ∧ i < N → xm_in (σ.1 a i.toNat) → xm_V X kc sc r σ (pc + 1) l (.int (xm_J (σ.1 a i.toNat)) :: st)) : xm_V X kc sc (if 0 ≤ i ∧ i < N then r else none) σ pc l (.int (xm_J i) :: .ref (xm_ad (xx_G X) a) :: st) := by
  subst hN
  refine xg_guard (fun h => xg_facts (fun hT hI o ho H locs ls hR hS hL => ?_))
  obtain ⟨h1, h2⟩ := hl.1 σ hI
  refine va_iald hC.1 hC.2.1 hC.2.2.2.2.2.1.1 (hR.w1 h1 h2 (xm_k7 hl.2 (by decide)) (xm_cell_1 hl.2)) 0 0 rfl rfl (xm_vp hi h) hd ?_
  show xm_W X H locs kc sc o (F0 (xx_m X) (pc + 1) ls (.int (xm_J (σ.1 a (xm_J i).toNatClampNeg)) :: st))
  rw [xm_clamp hi]
  exact kk h (hT _ _).1 o ho H locs ls hR hS hL
theorem xg_zald (hC : xm_C X own cc nL fr mc ms) {a n : Nat} {i N : Int} (hl : xm_has (xx_I X) a 2 n) (hN : (n : Int) = N) (hi : xm_in i) (hd : decode cc pc = .ok (.baload, 1)) (kk : 0 ≤ i ∧ i < N → 0 ≤ σ.1 a i.toNat ∧ σ.1 a i.toNat ≤ 1 → xm_V X kc sc r σ (pc + 1) l (.int (xm_J (σ.1 a i.toNat)) :: st)) : xm_V X kc sc (if 0 ≤ i ∧ i < N then r else none) σ pc l (.int (xm_J i) :: .ref (xm_ad (xx_G X) a) :: st) := by
  subst hN
  refine xg_guard (fun h => xg_facts (fun hT hI o ho H locs ls hR hS hL => ?_))
  obtain ⟨h1, h2⟩ := hl.1 σ hI
  refine va_zald hC.1 hC.2.1 hC.2.2.2.2.2.1.1 (hR.w1 h1 h2 (xm_k7 hl.2 (by decide)) (xm_cell_2 hl.2)) 0 1 rfl rfl (xm_vp hi h) hd ?_
  show xm_W X H locs kc sc o (F0 (xx_m X) (pc + 1) ls (.int (xm_J (σ.1 a (xm_J i).toNatClampNeg)) :: st))
  rw [xm_clamp hi]
  exact kk h ((hT _ _).2.1 (by simp only [xm_tk, hl.2])) o ho H locs ls hR hS hL
theorem xg_lald (hC : xm_C X own cc nL fr mc ms) {a n : Nat} {i N : Int} (hl : xm_has (xx_I X) a 3 n) (hN : (n : Int) = N) (hi : xm_in i) (hd : decode cc pc = .ok (.laload, 1)) (kk : 0 ≤ i ∧ i < N → xm_V X kc sc r σ (pc + 1) l (.long (σ.2.1 a i.toNat) :: st)) : xm_V X kc sc (if 0 ≤ i ∧ i < N then r else none) σ pc l (.int (xm_J i) :: .ref (xm_ad (xx_G X) a) :: st) := by
  subst hN
  refine xg_guard (fun h => xg_facts (fun hT hI o ho H locs ls hR hS hL => ?_))
  obtain ⟨h1, h2⟩ := hl.1 σ hI
  refine va_lald hC.1 hC.2.1 hC.2.2.2.2.2.1.1 (hR.w1 h1 h2 (xm_k7 hl.2 (by decide)) (xm_cell_3 hl.2)) 0 2 rfl rfl (xm_vp hi h) hd ?_
  show xm_W X H locs kc sc o (F0 (xx_m X) (pc + 1) ls (.long (σ.2.1 a (xm_J i).toNatClampNeg) :: st))
  rw [xm_clamp hi]
  exact kk h o ho H locs ls hR hS hL
theorem xg_qald (hC : xm_C X own cc nL fr mc ms) {a n : Nat} {i N : Int} (hl : xm_has (xx_I X) a 4 n) (hN : (n : Int) = N) (hi : xm_in i) (hd : decode cc pc = .ok (.aaload, 1)) (kk : 0 ≤ i ∧ i < N → 0 ≤ σ.1 a i.toNat → xm_V X kc sc r σ (pc + 1) l (xm_rf (xx_G X) (σ.1 a i.toNat) :: st)) : xm_V X kc sc (if 0 ≤ i ∧ i < N then r else none) σ pc l (.int (xm_J i) :: .ref (xm_ad (xx_G X) a) :: st) := by
  subst hN
  refine xg_guard (fun h => xg_facts (fun hT hI o ho H locs ls hR hS hL => ?_))
  obtain ⟨h1, h2⟩ := hl.1 σ hI
  refine va_aldq hC.1 hC.2.1 hC.2.2.2.2.2.1.1 (hR.w1 h1 h2 (xm_k7 hl.2 (by decide)) (xm_cell_4 hl.2)) 0 3 rfl rfl (xm_vp hi h) hd ?_
  show xm_W X H locs kc sc o (F0 (xx_m X) (pc + 1) ls (xm_rf (xx_G X) (σ.1 a (xm_J i).toNatClampNeg) :: st))
  rw [xm_clamp hi]
  exact kk h ((hT _ _).2.2.1 (by simp only [xm_tk, hl.2])) o ho H locs ls hR hS hL
/-- courses[i] -/
theorem xg_cald (hC : xm_C X own cc nL fr mc ms) {a : Nat} {i : Int} (hl : xm_has (xx_I X) a 5 8) (hw : xx_I X σ → ∀ j, j < 8 → σ.1 a j = (xm_cb j : Int)) (hi : xm_in i) (hd : decode cc pc = .ok (.aaload, 1)) (kk : 0 ≤ i ∧ i < 8 → xm_V X kc sc r σ (pc + 1) l (.ref (xm_ad (xx_G X) (xm_cb i.toNat)) :: st)) : xm_V X kc sc (if 0 ≤ i ∧ i < 8 then r else none) σ pc l (.int (xm_J i) :: .ref (xm_ad (xx_G X) a) :: st) := by
  refine xg_guard (fun h => xg_facts (fun hT hI o ho H locs ls hR hS hL => ?_))
  obtain ⟨h1, h2⟩ := hl.1 σ hI
  refine va_aldq hC.1 hC.2.1 hC.2.2.2.2.2.1.1 (hR.w1 h1 h2 (xm_k7 hl.2 (by decide)) (xm_cell_5 hl.2)) 0 4 rfl rfl (xm_vp hi h) hd ?_
  show xm_W X H locs kc sc o (F0 (xx_m X) (pc + 1) ls (xm_rf (xx_G X) (σ.1 a (xm_J i).toNatClampNeg) :: st))
  rw [xm_clamp hi, hw hI _ (by omega), xm_rf_pos (by unfold xm_cb; omega)]
  exact kk h o ho H locs ls hR hS hL
theorem xg_alen (hC : xm_C X own cc nL fr mc ms) {a n kd : Nat} {N : Int} (hl : xm_has (xx_I X) a kd n) (hkd : kd = 1 ∨ kd = 2 ∨ kd = 3) (hN : (n : Int) = N) (hd : decode cc pc = .ok (.arraylength, 1)) (kk : xm_V X kc sc r σ (pc + 1) l (.int (xm_J N) :: st)) : xm_V X kc sc r σ pc l (.ref (xm_ad (xx_G X) a) :: st) := by
  subst hN
  refine xg_facts (fun hT hI o ho H locs ls hR hS hL => ?_)
  obtain ⟨h1, h2⟩ := hl.1 σ hI
  have hv : Int32.ofNat n = xm_J (n : Int) := rfl
  have K := kk o ho H locs ls hR hS hL
  rcases hkd with rfl | rfl | rfl
  · exact va_alen hC.1 hC.2.1 hC.2.2.2.2.2.1.1 (hR.w1 h1 h2 (xm_k7 hl.2 (by decide)) (xm_cell_1 hl.2)) 0 0 rfl rfl hv hd K
  · exact va_alen hC.1 hC.2.1 hC.2.2.2.2.2.1.1 (hR.w1 h1 h2 (xm_k7 hl.2 (by decide)) (xm_cell_2 hl.2)) 0 1 rfl rfl hv hd K
  · exact va_alen hC.1 hC.2.1 hC.2.2.2.2.2.1.1 (hR.w1 h1 h2 (xm_k7 hl.2 (by decide)) (xm_cell_3 hl.2)) 0 2 rfl rfl hv hd K
/-- an array by a symbolic reference -/
theorem xm_hasS {X : xm_X} {σ : xm_Mem} {v : Int} {kd n : Nat} (h : xm_arr σ v kd n) : (xx_I X σ → 1 ≤ v.toNat ∧ v.toNat ≤ σ.2.2) ∧ xm_lay v.toNat = (kd, n) := ⟨fun _ => ⟨by omega, by omega⟩, h.2.2⟩
theorem xg_siald (hC : xm_C X own cc nL fr mc ms) {n : Nat} {i v N : Int} (hN : (n : Int) = N) (hi : xm_in i) (hd : decode cc pc = .ok (.iaload, 1)) (kk : 0 ≤ i ∧ i < N → xm_in (σ.1 v.toNat i.toNat) → xm_V X kc sc r σ (pc + 1) l (.int (xm_J (σ.1 v.toNat i.toNat)) :: st)) : xm_V X kc sc (if xm_arr σ v 1 n ∧ 0 ≤ i ∧ i < N then r else none) σ pc l (.int (xm_J i) :: xm_rf (xx_G X) v :: st) := by
  subst hN
  refine xg_guard (fun hh => xg_facts (fun hT hI o ho H locs ls hR hS hL => ?_))
  obtain ⟨ha, h⟩ := hh
  have hz := xm_hasS (X := X) ha
  obtain ⟨h1, h2⟩ := hz.1 hI
  rw [xm_rf_pos ha.1]
  refine va_iald hC.1 hC.2.1 hC.2.2.2.2.2.1.1 (hR.w1 h1 h2 (xm_k7 hz.2 (by decide)) (xm_cell_1 hz.2)) 0 0 rfl rfl (xm_vp hi h) hd ?_
  show xm_W X H locs kc sc o (F0 (xx_m X) (pc + 1) ls (.int (xm_J (σ.1 v.toNat (xm_J i).toNatClampNeg)) :: st))
  rw [xm_clamp hi]
  exact kk h (hT _ _).1 o ho H locs ls hR hS hL
theorem xg_salen (hC : xm_C X own cc nL fr mc ms) {n : Nat} {v N : Int} (hN : (n : Int) = N) (hd : decode cc pc = .ok (.arraylength, 1)) (kk : xm_V X kc sc r σ (pc + 1) l (.int (xm_J N) :: st)) : xm_V X kc sc (if xm_arr σ v 1 n then r else none) σ pc l (xm_rf (xx_G X) v :: st) := by
  subst hN
  refine xg_guard (fun ha => xg_facts (fun hT hI o ho H locs ls hR hS hL => ?_))
  have hz := xm_hasS (X := X) ha
  obtain ⟨h1, h2⟩ := hz.1 hI
  rw [xm_rf_pos ha.1]
  exact va_alen hC.1 hC.2.1 hC.2.2.2.2.2.1.1 (hR.w1 h1 h2 (xm_k7 hz.2 (by decide)) (xm_cell_1 hz.2)) 0 0 rfl rfl (rfl : Int32.ofNat n = xm_J (n : Int)) hd (kk o ho H locs ls hR hS hL)
-- arrays: writes
theorem xg_iast0 (hC : xm_C X own cc nL fr mc ms) {a n : Nat} {i v : Int} (hl : xm_lay a = (1, n)) (ha : xx_I X σ → 1 ≤ a ∧ a ≤ σ.2.2) (hi : xm_in i) (h : 0 ≤ i ∧ i < (n : Int)) (hv : xm_in v) (hI : xm_kp X σ a i.toNat v) (hd : decode cc pc = .ok (.iastore, 1)) (kk : xm_V X kc sc r (xm_u1 σ a i.toNat v) (pc + 1) l st) : xm_V X kc sc r σ pc l (.int (xm_J v) :: .int (xm_J i) :: .ref (xm_ad (xx_G X) a) :: st) := by
  refine xg_facts (fun hT hI2 o ho H locs ls hR hS hL => ?_)
  obtain ⟨h1, h2⟩ := ha hI2
  have hP := hR.1 a h1 h2 (Or.inl (xm_k7 hl (by decide)))
  rw [xm_cell_1 hl] at hP
  have hin := xm_vp hi h
  have hA : xm_A X (xm_ad (xx_G X) a) := xm_ad_gt h1
  refine W.iast hC.1 hC.2.1 hP ((hC.2.2.2.2.2.1.1.2 0 _ rfl).1 n (fun j => .int (xm_J (σ.1 a j)))) (fun q => by cases q) (by show ¬ (xm_J i < 0 ∨ (arrV _ _ _).slots.size ≤ _); rw [arrV_size]; exact hin) rfl rfl hd fun H1 e z oq => ?_
  refine kk o ho H1 _ ls (hR.put h1 rfl (xm_u1_109 (xm_k7 hl (by decide))) (hT.u1 h2 hv (fun q => by simp only [xm_tk, hl] at q; cases q) (fun q => by simp only [xm_tk, hl] at q; cases q) (fun q => by simp only [xm_tk, hl] at q; cases q)) (hI hI2) (fun b hb => xm_cell_u1 hb) ?_ z oq) (hS.put z oq hA) hL
  rw [xm_cell_1 hl]
  show H1[_]? = some (vp_cell _ _)
  rw [e]
  rw [vp_cell_i]
  show some ((arrV (xm_cA (xx_G X) 1) n (fun j => .int (xm_J (σ.1 a j)))).setSlot _ _) = _
  rw [arrV_store]
  refine congrArg some (show arrV _ n _ = arrV _ n (fun j => Value.int (xm_J ((xm_u1 σ a i.toNat v).1 a j))) from congrArg (arrV _ n) (funext fun q => ?_))
  rw [xm_clamp hi]
  by_cases hq : q = i.toNat
  · subst hq
    simp only [updV, if_true, xm_u1_at]
  · simp only [updV, if_neg hq]
    rw [xm_u1_ne σ v (fun z => hq z.2)]
theorem xg_iast (hC : xm_C X own cc nL fr mc ms) {a n : Nat} {i v N : Int} (hl : xm_has (xx_I X) a 1 n) (hN : (n : Int) = N) (hi : xm_in i) (hv : xm_in v) (hI : xm_kp X σ a i.toNat v) (hd : decode cc pc = .ok (.iastore, 1)) (kk : xm_V X kc sc r (xm_u1 σ a i.toNat v) (pc + 1) l st) : xm_V X kc sc (if 0 ≤ i ∧ i < N then r else none) σ pc l (.int (xm_J v) :: .int (xm_J i) :: .ref (xm_ad (xx_G X) a) :: st) := by
  subst hN
  exact xg_guard (fun h => xg_iast0 hC hl.2 (hl.1 σ) hi h hv hI hd kk)
theorem xg_siast (hC : xm_C X own cc nL fr mc ms) {n : Nat} {i q v N : Int} (hN : (n : Int) = N) (hi : xm_in i) (hv : xm_in v) (hI : xm_arr σ q 1 n → xm_kp X σ q.toNat i.toNat v) (hd : decode cc pc = .ok (.iastore, 1)) (kk : xm_V X kc sc r (xm_u1 σ q.toNat i.toNat v) (pc + 1) l st) : xm_V X kc sc (if xm_arr σ q 1 n ∧ 0 ≤ i ∧ i < N then r else none) σ pc l (.int (xm_J v) :: .int (xm_J i) :: xm_rf (xx_G X) q :: st) := by
  subst hN
  refine xg_guard (fun h => ?_)
  rw [xm_rf_pos h.1.1]
  exact xg_iast0 hC (xm_hasS (X := X) h.1).2 (xm_hasS (X := X) h.1).1 hi h.2 hv (hI h.1) hd kk
theorem xg_zast (hC : xm_C X own cc nL fr mc ms) {a n : Nat} {i v N : Int} (hl : xm_has (xx_I X) a 2 n) (hN : (n : Int) = N) (hi : xm_in i) (hv : 0 ≤ v ∧ v ≤ 1) (hI : xm_kp X σ a i.toNat v) (hd : decode cc pc = .ok (.bastore, 1)) (kk : xm_V X kc sc r (xm_u1 σ a i.toNat v) (pc + 1) l st) : xm_V X kc sc (if 0 ≤ i ∧ i < N then r else none) σ pc l (.int (xm_J v) :: .int (xm_J i) :: .ref (xm_ad (xx_G X) a) :: st) := by
  subst hN
  refine xg_guard (fun h => xg_facts (fun hT hI2 o ho H locs ls hR hS hL => ?_))
  obtain ⟨h1, h2⟩ := hl.1 σ hI2
  have hP := hR.1 a h1 h2 (Or.inl (xm_k7 hl.2 (by decide)))
  rw [xm_cell_2 hl.2] at hP
  have hin := xm_vp hi h
  have hA : xm_A X (xm_ad (xx_G X) a) := xm_ad_gt h1
  refine W.zast hC.1 hC.2.1 hP ((hC.2.2.2.2.2.1.1.2 1 _ rfl).1 n (fun j => .int (xm_J (σ.1 a j)))) (fun q => by cases q) (by show ¬ (xm_J i < 0 ∨ (arrV _ _ _).slots.size ≤ _); rw [arrV_size]; exact hin) rfl rfl hd fun H1 e z oq => ?_
  refine kk o ho H1 _ ls (hR.put h1 rfl (xm_u1_109 (xm_k7 hl.2 (by decide))) (hT.u1 h2 (xm_in01 hv) (fun _ => hv) (fun q => by simp only [xm_tk, hl.2] at q; cases q) (fun q => by simp only [xm_tk, hl.2] at q; cases q)) (hI hI2) (fun b hb => xm_cell_u1 hb) ?_ z oq) (hS.put z oq hA) hL
  rw [xm_cell_2 hl.2]
  show H1[_]? = some (vp_cell _ _)
  rw [e]
  rw [vp_cell_i]
  show some ((arrV (xm_cA (xx_G X) 2) n (fun j => .int (xm_J (σ.1 a j)))).setSlot _ _) = _
  rw [arrV_store]
  refine congrArg some (show arrV _ n _ = arrV _ n (fun j => Value.int (xm_J ((xm_u1 σ a i.toNat v).1 a j))) from congrArg (arrV _ n) (funext fun q => ?_))
  rw [xm_clamp hi]
  by_cases hq : q = i.toNat
  · subst hq
    simp only [updV, if_true, xm_u1_at]
    first | exact (xm_zn hv).1 | (have : v = 0 ∨ v = 1 := by omega
                                  rcases this with rfl | rfl <;> rfl)
  · simp only [updV, if_neg hq]
    rw [xm_u1_ne σ v (fun z => hq z.2)]
theorem xg_last (hC : xm_C X own cc nL fr mc ms) {a n : Nat} {i N : Int} {v : Int64} (hl : xm_has (xx_I X) a 3 n) (hN : (n : Int) = N) (hi : xm_in i) (hI : xx_I X σ → xx_I X (xm_u2 σ a i.toNat v)) (hd : decode cc pc = .ok (.lastore, 1)) (kk : xm_V X kc sc r (xm_u2 σ a i.toNat v) (pc + 1) l st) : xm_V X kc sc (if 0 ≤ i ∧ i < N then r else none) σ pc l (.long v :: .int (xm_J i) :: .ref (xm_ad (xx_G X) a) :: st) := by
  subst hN
  refine xg_guard (fun h => xg_facts (fun hT hI2 o ho H locs ls hR hS hL => ?_))
  obtain ⟨h1, h2⟩ := hl.1 σ hI2
  have hP := hR.1 a h1 h2 (Or.inl (xm_k7 hl.2 (by decide)))
  rw [xm_cell_3 hl.2] at hP
  have hin := xm_vp hi h
  have hA : xm_A X (xm_ad (xx_G X) a) := xm_ad_gt h1
  refine W.last hC.1 hC.2.1 hP ((hC.2.2.2.2.2.1.1.2 2 _ rfl).1 n (fun j => .long (σ.2.1 a j))) (fun q => by cases q) (by show ¬ (xm_J i < 0 ∨ (arrV _ _ _).slots.size ≤ _); rw [arrV_size]; exact hin) rfl rfl hd fun H1 e z oq => ?_
  refine kk o ho H1 _ ls (hR.put h1 rfl (fun _ => rfl) (hT.u2 h2) (hI hI2) (fun b hb => xm_cell_u2 hb) ?_ z oq) (hS.put z oq hA) hL
  rw [xm_cell_3 hl.2]
  show H1[_]? = some (vp_cell _ _)
  rw [e]
  rw [vp_cell_l]
  show some ((arrV (xm_cA (xx_G X) 3) n (fun j => .long (σ.2.1 a j))).setSlot _ _) = _
  rw [arrV_store]
  refine congrArg some (show arrV _ n _ = arrV _ n (fun j => Value.long ((xm_u2 σ a i.toNat v).2.1 a j)) from congrArg (arrV _ n) (funext fun q => ?_))
  rw [xm_clamp hi]
  by_cases hq : q = i.toNat
  · subst hq
    simp only [updV, if_true, xm_u2_at]
  · simp only [updV, if_neg hq]
    rw [xm_u2_ne σ v (fun z => hq z.2)]
end XJ
end
section
/-! ===== rows of the abstract machine: reference stores, new cells, calls, returns, a method's start ===== -/
theorem xm_cell_q {Γ : xm_Gm} {σ : xm_Mem} {a n kd : Nat} (hkd : kd = 4 ∨ kd = 5) (h : xm_lay a = (kd, n)) : xm_cell Γ σ a = .inl (xm_cA Γ kd, n, .inr (.inr (.inr (.inr (fun i => xm_on Γ (σ.1 a i)))))) := by
  rcases hkd with rfl | rfl
  · exact xm_cell_4 h
  · exact xm_cell_5 h
/-- what an array of references holds: the kind of the array, the class -/
def xm_kc (kd ci : Nat) : Prop := (kd = 4 ∧ ci = 2) ∨ (kd = 5 ∧ ci = 0)
theorem xm_kc_ty {Γ : xm_Gm} {kd ci : Nat} (h : xm_kc kd ci) : (xm_tys Γ)[kd - 1]? = some (xm_cA Γ kd, .object (xm_cR ci)) ∧ (kd = 4 ∨ kd = 5) ∧ ci < 11 := by
  rcases h with ⟨rfl, rfl⟩ | ⟨rfl, rfl⟩
  · exact ⟨rfl, Or.inl rfl, by decide⟩
  · exact ⟨rfl, Or.inr rfl, by decide⟩
def xm_tyk (ty : FieldType) : Bool := match ty with | .int => true | .boolean => true | .long => true | .byte => true | .object _ => true | .array _ => true | _ => false
theorem xm_tyk_all : ∀ ci, ci < 11 → ∀ k, k < xm_nf ci → xm_tyk (xm_cty ci k) = true := by decide +kernel
theorem xm_dflt {Γ : xm_Gm} {ci k : Nat} (hci : ci < 11) (hk : k < xm_nf ci) : defaultValue (xm_cty ci k) = xm_val Γ (xm_ft ci k) 0 0 := by
  have h := xm_tyk_all ci hci k hk
  unfold xm_ft
  generalize xm_cty ci k = ty at h ⊢
  cases ty <;> first | rfl | (simp [xm_tyk] at h; done)
theorem xm_T.nw {σ : xm_Mem} (h : xm_T σ) : xm_T (xm_nw σ) := fun a k => ⟨(h a k).1, (h a k).2.1, (h a k).2.2.1, fun z => (h a k).2.2.2.1 (Nat.lt_of_succ_lt z), (h a k).2.2.2.2⟩
/-- one cell more: where it comes to be, and what is then there -/
theorem xm_nx {Γ : xm_Gm} {I : xm_Mem → Prop} {σ : xm_Mem} {H : Heap} (h : xm_R Γ I σ H) (hn : xm_nxt σ) : H.size = xm_ad Γ (σ.2.2 + 1) ∧ xm_top (xm_nw σ) = xm_top σ + 1 ∧ xm_gh Γ (xm_nw σ) := by
  have h1 := h.2.1
  have h2 := h.2.2.2.2.2
  have he := xm_el_rg Γ
  have e22 : (xm_nw σ).2.2 = σ.2.2 + 1 := rfl
  have e1 : (xm_nw σ).1 = σ.1 := rfl
  unfold xm_nxt at hn
  unfold xm_gh at h2 ⊢
  unfold xm_top at h1 ⊢
  unfold xm_ad xm_of
  rw [e22, e1]
  rcases hn with hn | ⟨n1, n2, n3⟩
  · rw [if_pos (by omega)] at h1
    rw [if_pos (by omega), if_pos (by omega), if_pos (by omega)]
    exact ⟨by omega, by omega, Or.inl (by omega)⟩
  · rcases h2 with h2 | ⟨g1, g2, g3, g4⟩
    · omega
    · rw [if_neg (by omega)] at h1
      rw [if_neg (show ¬ (σ.2.2 + 1 ≤ 89) by omega), if_neg (show ¬ (σ.2.2 + 1 < 110) by omega), if_neg (show ¬ (σ.2.2 + 1 = 110) by omega), if_neg (show ¬ (1000000 ≤ σ.2.2 + 1) by omega), if_neg (show ¬ (σ.2.2 + 1 ≤ 89) by omega), if_neg (show ¬ (σ.2.2 ≤ 89) by omega)]
      rcases g4 with ⟨f0, f1⟩ | ⟨f0, f1⟩
      · rw [f0] at h1
        have n4 : (σ.2.2 : Int) - 20 < σ.1 109 1 := by
          rcases n3 with z | z
          · rw [f0] at z; cases z
          · exact z
        rw [g3] at n4
        have n5 : σ.2.2 + 1 - 21 < xm_el Γ := by omega
        rw [if_pos n5, f0]
        exact ⟨by simp at h1; omega, by simp; omega, Or.inr ⟨by omega, by omega, g3, Or.inl ⟨rfl, by omega⟩⟩⟩
      · rw [f0] at h1
        rw [if_neg (show ¬ (σ.2.2 + 1 - 21 < xm_el Γ) by omega), f0]
        exact ⟨by simp at h1; omega, by simp; omega, Or.inr ⟨by omega, by omega, g3, Or.inr ⟨rfl, by omega⟩⟩⟩
theorem xm_R.nw {Γ : xm_Gm} {I : xm_Mem → Prop} {σ : xm_Mem} {H H1 : Heap} (h : xm_R Γ I σ H) (hn : xm_nxt σ) (hI : I (xm_nw σ)) (he : va_at (xm_D Γ) xm_cl (xm_ad Γ (σ.2.2 + 1), xm_cell Γ σ (σ.2.2 + 1)) H1) (z : H1.size = H.size + 1) (oq : ∀ q : Nat, q < H.size → H1[q]? = H[q]?) : xm_R Γ I (xm_nw σ) H1 := by
  have hs := h.2.1
  obtain ⟨x1, x2, x3⟩ := xm_nx h hn
  have hgt := xm_ad_gt (Γ := Γ) (a := σ.2.2 + 1) (by omega)
  refine ⟨fun b g1 g2 g3 => ?_, by rw [z, hs, x2]; omega, h.2.2.1.nw, hI, fun q hq => by rw [oq q (by omega)]; exact h.2.2.2.2.1 q hq, x3⟩
  by_cases e : b = σ.2.2 + 1
  · subst e; exact he
  · have g4 : b ≤ σ.2.2 := by have : b ≤ σ.2.2 + 1 := g2; omega
    have hat := h.1 b g1 g4 g3
    exact hat.kept (oq _ (va_at.lt hat))
section XK
variable {X : xm_X} {own : String} {cc : ByteArray} {nL fr mc ms kc sc : Nat} {r r1 r2 : Option xm_Out} {σ : xm_Mem} {pc : Nat} {l l' : List (Nat × Value)} {st : List Value}
theorem xg_qast0 (hC : xm_C X own cc nL fr mc ms) {a n kd ci : Nat} {i v : Int} (hkc : xm_kc kd ci) (hl : xm_lay a = (kd, n)) (ha : xx_I X σ → 1 ≤ a ∧ a ≤ σ.2.2) (hi : xm_in i) (h : 0 ≤ i ∧ i < (n : Int)) (hv : v = 0 ∨ xm_obj σ v ci) (hI : xm_kp X σ a i.toNat v) (hvin : xm_in v) (hd : decode cc pc = .ok (.aastore, 1)) (kk : xm_V X kc sc r (xm_u1 σ a i.toNat v) (pc + 1) l st) : xm_V X kc sc r σ pc l (xm_rf (xx_G X) v :: .int (xm_J i) :: .ref (xm_ad (xx_G X) a) :: st) := by
  refine xg_facts (fun hT hI2 o ho H locs ls hR hS hL => ?_)
  obtain ⟨h1, h2⟩ := ha hI2
  obtain ⟨hty, hkd, hci⟩ := xm_kc_ty (Γ := xx_G X) hkc
  have h7 : (xm_lay a).1 ≤ 7 := xm_k7 hl (by rcases hkd with rfl | rfl <;> decide)
  have hP := hR.1 a h1 h2 (Or.inl h7)
  rw [xm_cell_q hkd hl] at hP
  have hin := xm_vp hi h
  have hA : xm_A X (xm_ad (xx_G X) a) := xm_ad_gt h1
  have hK := hC.2.2.2.2.2.1.1
  have hv0 : 0 ≤ v := by rcases hv with rfl | hv <;> omega
  have hTu : xm_T (xm_u1 σ a i.toNat v) := hT.u1 h2 hvin (fun q => by rcases hkd with rfl | rfl <;> (simp only [xm_tk, hl] at q; cases q)) (fun _ => hv0) (fun q => by rcases hkd with rfl | rfl <;> (simp only [xm_tk, hl] at q; cases q))
  have tail : ∀ H1 : Heap, H1[xm_ad (xx_G X) a]? = some ((vp_cell (xm_cA (xx_G X) kd) (n, .inr (.inr (.inr (.inr (fun i => xm_on (xx_G X) (σ.1 a i))))))).setSlot (xm_J i).toNatClampNeg (xm_rf (xx_G X) v)) → H1.size = H.size → (∀ q, q ≠ xm_ad (xx_G X) a → H1[q]? = H[q]?) → xm_W X H1 (locs ++ [⟨xm_ad (xx_G X) a, (xm_J i).toNatClampNeg⟩]) kc sc o (F0 (xx_m X) (pc + 1) ls st) := by
    intro H1 e z oq
    refine kk o ho H1 _ ls (hR.put h1 rfl (xm_u1_109 h7) hTu (hI hI2) (fun b hb => xm_cell_u1 hb) ?_ z oq) (hS.put z oq hA) hL
    rw [xm_cell_q hkd hl]
    show H1[_]? = some (vp_cell _ _)
    rw [e]
    show some ((arrV (xm_cA (xx_G X) kd) n (fun j => va_rf (xm_on (xx_G X) (σ.1 a j)))).setSlot _ _) = _
    rw [arrV_store]
    refine congrArg some (show arrV _ n _ = arrV _ n (fun j => va_rf (xm_on (xx_G X) ((xm_u1 σ a i.toNat v).1 a j))) from congrArg (arrV _ n) (funext fun q => ?_))
    rw [xm_clamp hi]
    by_cases hq : q = i.toNat
    · subst hq
      simp only [updV, if_true, xm_u1_at]
      rfl
    · simp only [updV, if_neg hq]
      rw [xm_u1_ne σ v (fun z => hq z.2)]
  have hin2 : ¬ (xm_J i < 0 ∨ (vp_cell (xm_cA (xx_G X) kd) (n, .inr (.inr (.inr (.inr (fun i => xm_on (xx_G X) (σ.1 a i))))))).slots.size ≤ (xm_J i).toNatClampNeg) := by
    show ¬ (xm_J i < 0 ∨ (arrV _ _ _).slots.size ≤ _); rw [arrV_size]; exact hin
  rcases hv with rfl | hv
  · rw [xm_rf_0]
    exact va_WaastN (C := xm_cR ci) hC.1 hC.2.1 hP ((hK.2 _ _ hty).1 n (fun j => va_rf (xm_on (xx_G X) (σ.1 a j)))) (fun h => by cases h) hin2 rfl rfl hd (fun H1 e z oq => tail H1 e z oq)
  · have hv2 : 1 ≤ v.toNat ∧ v.toNat ≤ σ.2.2 := ⟨by omega, by omega⟩
    have hPv := hR.1 v.toNat hv2.1 hv2.2 (Or.inl (xm_k7 hv.2.2 (by decide)))
    rw [xm_cell_o hv.2.2] at hPv
    obtain ⟨r', hr', cellV, g1, g2, g3, -⟩ := hPv
    have hr2 : r' = _ := Option.some.inj (hr'.symm.trans (xm_cl_at hci))
    subst hr2
    have hcls := (hK.1 ci _ (xm_cl_at hci)).2
    obtain ⟨kA, comp, k1, k2, k3, -⟩ := (hK.2 _ _ hty).2
    have hcomp : comp = (xm_D (xx_G X)).1 ci := Option.some.inj (k3.symm.trans hcls.1)
    subst hcomp
    obtain ⟨kC, hkC, -⟩ := hcls.2
    have htl : ∀ H1 : Heap, _ → _ → _ → _ := tail
    rw [xm_rf_pos hv.1] at htl ⊢
    exact W.aast hC.1 hC.2.1 hP (fun q h => by cases h) (fun h => by cases h) k1 k2 rfl hkC ⟨fun z => hin2 (Or.inl z), Nat.not_le.mp (fun z => hin2 (Or.inr z))⟩ g1 (fun q h => by rw [g3] at h; cases h) (by rw [g2]; exact hkC) (by rw [g2]; exact va_assign hcls) rfl rfl hd (fun H1 e z oq => htl H1 e z oq)
theorem xg_qast (hC : xm_C X own cc nL fr mc ms) {a n : Nat} {i v N : Int} (hl : xm_has (xx_I X) a 4 n) (hN : (n : Int) = N) (hi : xm_in i) (hvin : xm_in v) (hI : xm_kp X σ a i.toNat v) (hd : decode cc pc = .ok (.aastore, 1)) (kk : xm_V X kc sc r (xm_u1 σ a i.toNat v) (pc + 1) l st) : xm_V X kc sc (if (0 ≤ i ∧ i < N) ∧ (v = 0 ∨ xm_obj σ v 2) then r else none) σ pc l (xm_rf (xx_G X) v :: .int (xm_J i) :: .ref (xm_ad (xx_G X) a) :: st) := by
  subst hN
  exact xg_guard (fun h => xg_qast0 hC (Or.inl ⟨rfl, rfl⟩) hl.2 (hl.1 σ) hi h.1 h.2 hI hvin hd kk)
theorem xg_scast (hC : xm_C X own cc nL fr mc ms) {i q v : Int} (hi : xm_in i) (hvin : xm_in v) (hI : xm_arr σ q 5 8 → xm_kp X σ q.toNat i.toNat v) (hd : decode cc pc = .ok (.aastore, 1)) (kk : xm_V X kc sc r (xm_u1 σ q.toNat i.toNat v) (pc + 1) l st) : xm_V X kc sc (if xm_arr σ q 5 8 ∧ (0 ≤ i ∧ i < 8) ∧ xm_obj σ v 0 then r else none) σ pc l (xm_rf (xx_G X) v :: .int (xm_J i) :: xm_rf (xx_G X) q :: st) := by
  refine xg_guard (fun h => ?_)
  rw [xm_rf_pos (v := q) h.1.1]
  exact xg_qast0 (n := 8) hC (Or.inr ⟨rfl, rfl⟩) h.1.2.2 (xm_hasS (X := X) h.1).1 hi h.2.1 (Or.inr h.2.2) (hI h.1) hvin hd kk
/-- new -/
theorem xg_new (hC : xm_C X own cc nL fr mc ms) {ci idx : Nat} (hci : ci < 11) (h1 : Cond.classLink own idx (xm_cR ci) ∈ xm_tb) (h2 : Cond.instantiable (xm_cR ci) (xm_nf ci) ∈ xm_tb) (h3 : Cond.initialized (xm_cR ci) ∈ xm_tb) (hcap : kc + 1 ≤ mc ∧ sc + xm_nf ci ≤ ms) (hI : xx_I X σ → xx_I X (xm_nw σ)) (hd : decode cc pc = .ok (.new idx, 3)) (kk : xm_V X (kc + 1) (sc + xm_nf ci) r (xm_nw σ) (pc + 3) l (xm_rf (xx_G X) ((σ.2.2 : Int) + 1) :: st)) : xm_V X kc sc (if xm_lay (σ.2.2 + 1) = (0, ci) ∧ xm_nxt σ then r else none) σ pc l st := by
  refine xg_guard (fun hg o ho H locs ls hR hS hL => ?_)
  obtain ⟨hlay, hnx⟩ := hg
  have hts := hC.2.2.2.2.1
  have hKn := hC.2.2.2.2.2.1.1.1 ci _ (xm_cl_at hci)
  have hcp := hC.2.2.2.2.2.2.2.2.2.2.2
  have hsz : H.size = xm_ad (xx_G X) (σ.2.2 + 1) := (xm_nx hR hnx).1
  have hz := hR.2.2.1
  refine W.newcK hC.1 hC.2.1 hC.2.2.2.1 (hts _ h1) (hts _ h2) (hts _ h3) rfl hd (Nat.le_trans hcap.1 hcp.1) (Nat.le_trans hcap.2 hcp.2) hKn.2.1 hsz fun H1 kC hkC e1 z1 o1 => ?_
  have key := kk o ho H1 locs ls (hR.nw hnx (hI hR.2.2.2.1) ?_ (by rw [z1, hsz]) (fun q hq => o1 q (by rw [← hsz]; exact hq))) ⟨Nat.le_trans hS.1 (by rw [hsz, z1]; omega), fun x g1 g2 => (o1 x (by rw [← hsz]; exact Nat.lt_of_lt_of_le g1 hS.1)).trans (hS.2.1 x g1 g2), hS.2.2⟩ hL
  · rw [xm_rf_pos (by omega)] at key
    have e : ((σ.2.2 : Int) + 1).toNat = σ.2.2 + 1 := by omega
    rw [e] at key
    exact key
  · rw [xm_cell_o hlay]
    refine ⟨_, xm_cl_at hci, (u_born (xm_cty ci) hts (xm_hin hci) hKn hkC e1 (xm_hty hci)).to (fun k hk => ?_)⟩
    rw [xm_dflt (Γ := xx_G X) hci hk]
    have g := (hz (σ.2.2 + 1) k).2.2.2.1 (Nat.lt_succ_self _)
    simp [vp_V, hk, g.1, g.2]
/-- newarray -/
theorem xg_newa (hC : xm_C X own cc nL fr mc ms) {atype : ArrayType} {kd N : Nat} {n : Int} (hkd : (kd = 1 ∧ newarray.typeOf atype = .int) ∨ (kd = 2 ∧ newarray.typeOf atype = .boolean) ∨ (kd = 3 ∧ newarray.typeOf atype = .long)) (hn : (N : Int) = n) (hN : N ≤ 100000) (h1 : Cond.arrayClass (newarray.typeOf atype) ∈ xm_tb) (hcap : kc + 1 ≤ mc ∧ sc + N ≤ ms) (hI : xx_I X σ → xx_I X (xm_nw σ)) (hd : decode cc pc = .ok (.newarray atype, 2)) (kk : xm_V X (kc + 1) (sc + N) r (xm_nw σ) (pc + 2) l (xm_rf (xx_G X) ((σ.2.2 : Int) + 1) :: st)) : xm_V X kc sc (if xm_lay (σ.2.2 + 1) = (kd, N) ∧ xm_nxt σ then r else none) σ pc l (.int (xm_J n) :: st) := by
  refine xg_guard (fun hg o ho H locs ls hR hS hL => ?_)
  obtain ⟨hlay, hnx⟩ := hg
  have hts := hC.2.2.2.2.1
  have hK := hC.2.2.2.2.2.1.1
  have hcp := hC.2.2.2.2.2.2.2.2.2.2.2
  have hsz : H.size = xm_ad (xx_G X) (σ.2.2 + 1) := (xm_nx hR hnx).1
  have hz := hR.2.2.1
  subst hn
  have hin : xm_in (N : Int) := ⟨by omega, by omega⟩
  have hpos : ¬ xm_J (N : Int) < 0 := by
    rw [← xm_J0, xm_J_lt hin xm_in0]; omega
  have hcl : (xm_J (N : Int)).toNatClampNeg = N := by rw [xm_clamp hin]; omega
  have hbytes : N * componentBytes (newarray.typeOf atype) ≤ 536870912 := by
    rcases hkd with ⟨-, e⟩ | ⟨-, e⟩ | ⟨-, e⟩ <;> rw [e]
    · rw [show componentBytes FieldType.int = 4 from rfl]
      omega
    · rw [show componentBytes FieldType.boolean = 1 from rfl]
      omega
    · rw [show componentBytes FieldType.long = 8 from rfl]
      omega
  refine va_newaK hC.1 hC.2.1 (hts _ h1) rfl hd rfl hpos hcl hbytes (Nat.le_trans hcap.1 hcp.1) (Nat.le_trans hcap.2 hcp.2) hsz fun H1 cA e1 z1 o1 hAr hNm => ?_
  have key := kk o ho H1 locs ls (hR.nw hnx (hI hR.2.2.2.1) ?_ (by rw [z1, hsz]) (fun q hq => o1 q (by rw [← hsz]; exact hq))) ⟨Nat.le_trans hS.1 (by rw [hsz, z1]; omega), fun x g1 g2 => (o1 x (by rw [← hsz]; exact Nat.lt_of_lt_of_le g1 hS.1)).trans (hS.2.1 x g1 g2), hS.2.2⟩ hL
  · rw [xm_rf_pos (by omega)] at key
    have e : ((σ.2.2 : Int) + 1).toNat = σ.2.2 + 1 := by omega
    rw [e] at key
    exact key
  · have g : ∀ k, σ.1 (σ.2.2 + 1) k = 0 ∧ σ.2.1 (σ.2.2 + 1) k = 0 := fun k => (hz (σ.2.2 + 1) k).2.2.2.1 (Nat.lt_succ_self _)
    rcases hkd with ⟨rfl, e⟩ | ⟨rfl, e⟩ | ⟨rfl, e⟩
    · rw [xm_cell_1 hlay]
      have hc : cA = xm_cA (xx_G X) 1 := by
        have := (hK.2 0 _ rfl).2
        rw [e] at hNm
        exact Option.some.inj (hNm.symm.trans this)
      subst hc
      show H1[xm_ad (xx_G X) (σ.2.2 + 1)]? = some (vp_cell _ _)
      rw [e1, e]
      simp only [g]
      rfl
    · rw [xm_cell_2 hlay]
      have hc : cA = xm_cA (xx_G X) 2 := by
        have := (hK.2 1 _ rfl).2
        rw [e] at hNm
        exact Option.some.inj (hNm.symm.trans this)
      subst hc
      show H1[xm_ad (xx_G X) (σ.2.2 + 1)]? = some (vp_cell _ _)
      rw [e1, e]
      simp only [g]
      rfl
    · rw [xm_cell_3 hlay]
      have hc : cA = xm_cA (xx_G X) 3 := by
        have := (hK.2 2 _ rfl).2
        rw [e] at hNm
        exact Option.some.inj (hNm.symm.trans this)
      subst hc
      show H1[xm_ad (xx_G X) (σ.2.2 + 1)]? = some (vp_cell _ _)
      rw [e1, e]
      simp only [g]
      rfl
/-- anewarray -/
theorem xg_newq (hC : xm_C X own cc nL fr mc ms) {idx kd ci N : Nat} {n : Int} (hkc : xm_kc kd ci) (hn : (N : Int) = n) (hN : N ≤ 100000) (h1 : Cond.classLink own idx (xm_cR ci) ∈ xm_tb) (hcap : kc + 1 ≤ mc ∧ sc + N ≤ ms) (hI : xx_I X σ → xx_I X (xm_nw σ)) (hd : decode cc pc = .ok (.anewarray idx, 3)) (kk : xm_V X (kc + 1) (sc + N) r (xm_nw σ) (pc + 3) l (xm_rf (xx_G X) ((σ.2.2 : Int) + 1) :: st)) : xm_V X kc sc (if xm_lay (σ.2.2 + 1) = (kd, N) ∧ xm_nxt σ then r else none) σ pc l (.int (xm_J n) :: st) := by
  refine xg_guard (fun hg o ho H locs ls hR hS hL => ?_)
  obtain ⟨hlay, hnx⟩ := hg
  obtain ⟨hty, hkd, hci⟩ := xm_kc_ty (Γ := xx_G X) hkc
  have hts := hC.2.2.2.2.1
  have hK := hC.2.2.2.2.2.1.1
  have hcp := hC.2.2.2.2.2.2.2.2.2.2.2
  have hsz : H.size = xm_ad (xx_G X) (σ.2.2 + 1) := (xm_nx hR hnx).1
  have hz := hR.2.2.1
  subst hn
  have hin : xm_in (N : Int) := ⟨by omega, by omega⟩
  have hpos : ¬ xm_J (N : Int) < 0 := by
    rw [← xm_J0, xm_J_lt hin xm_in0]; omega
  have hcl : (xm_J (N : Int)).toNatClampNeg = N := by rw [xm_clamp hin]; omega
  have hover : va_AO (xm_cR ci) (xx_s X) := by
    rcases hkc with ⟨-, rfl⟩ | ⟨-, rfl⟩
    · exact hC.2.2.2.2.2.1.2.2.2.2.1
    · exact hC.2.2.2.2.2.1.2.2.2.2.2.1
  refine W.anew hC.1 hC.2.1 hC.2.2.2.1 (hts _ h1) (va_AO.use hover) rfl hd rfl hpos (by rw [hcl]; omega) (Nat.le_trans hcap.1 hcp.1) (by rw [hcl]; exact Nat.le_trans hcap.2 hcp.2) fun cA kA comp f1 f2 f3 f4 => ?_
  rw [hcl]
  generalize hH1 : H.push ({ cls := cA, slots := Array.replicate N .null, vm := .none } : Cell) = H1
  have z1 : H1.size = H.size + 1 := by rw [← hH1, Array.size_push]
  have e1 : H1[H.size]? = some (arrV cA N (fun _ => .null)) := by rw [← hH1, Array.getElem?_push_size, ← arrV_new]
  have o1 : ∀ q, q < H.size → H1[q]? = H[q]? := by
    intro q hq
    rw [← hH1, Array.getElem?_push, if_neg (Nat.ne_of_lt hq)]
  have key := kk o ho H1 locs ls (hR.nw hnx (hI hR.2.2.2.1) ?_ z1 o1) ⟨Nat.le_trans hS.1 (by omega), fun x g1 g2 => (o1 x (Nat.lt_of_lt_of_le g1 hS.1)).trans (hS.2.1 x g1 g2), hS.2.2⟩ hL
  · rw [xm_rf_pos (by omega)] at key
    have e : ((σ.2.2 : Int) + 1).toNat = σ.2.2 + 1 := by omega
    rw [e, ← hsz] at key
    exact key
  · have g : ∀ k, σ.1 (σ.2.2 + 1) k = 0 := fun k => ((hz (σ.2.2 + 1) k).2.2.2.1 (Nat.lt_succ_self _)).1
    rw [xm_cell_q hkd hlay]
    have hc : cA = xm_cA (xx_G X) kd := by
      obtain ⟨_, _, _, _, _, k4⟩ := (hK.2 _ _ hty).2
      exact Option.some.inj (f1.symm.trans k4)
    subst hc
    show H1[xm_ad (xx_G X) (σ.2.2 + 1)]? = some (vp_cell _ _)
    rw [← hsz, e1]
    simp only [g]
    rfl
/-- Object's constructor -/
theorem xg_oinit (hC : xm_C X own cc nL fr mc ms) {idx : Nat} {v : Int} (hv : 1 ≤ v) (h1 : Cond.methodLink own idx objectInit ∈ xm_tb) (h2 : Cond.instanceMethod objectInit ∈ xm_tb) (h3 : Cond.code objectInit ⟨#[0xb1]⟩ 1 none ∈ xm_tb) (hfr : 1 ≤ fr) (hd : decode cc pc = .ok (.invokespecial idx, 3)) (kk : xm_V X kc sc r σ (pc + 3) l []) : xm_V X kc sc r σ pc l [xm_rf (xx_G X) v] := by
  intro o ho H locs ls hR hS hL
  have hts := hC.2.2.2.2.1
  have hcp := hC.2.2.2.2.2.2.2.2.2
  rw [xm_rf_pos hv]
  exact W.objInit hC.1 hC.2.1 hC.2.2.2.1 (hts _ h1) (hts _ h2) (hts _ h3) rfl (by show ls.size = _; rw [hL.1]) rfl hd (by omega) (by show 2 * 0 + _ + 12 ≤ _; simp; omega) (kk o ho H locs ls hR hS hL)
-- calls
theorem xm_blind {Γ : xm_Gm} {I : xm_Mem → Prop} {av : List Value} : FrameBlind (va_Pc av (fun U => xm_R Γ I σ U.heap ∧ xm_K Γ U)) := by
  intro a U g mk q
  exact ⟨q.1, q.2.1, xm_K.same rfl q.2.2⟩
theorem xm_goodW {y : MethodName} {bytes : ByteArray} {maxL : Nat} {ret : Option FieldType} (h : Cond.code y bytes maxL ret ∈ xm_tb) : GoodIn xm_tb (Cond.code y bytes maxL ret :: xm_tb) := by
  intro w hw
  have hm : w ∈ xm_tb := by
    rcases List.mem_cons.mp hw with e | e
    · rw [e]; exact h
    · exact e
  exact ⟨hm, good_of_word (xm_good hm).2⟩
/-- what a call's link says -/
def xm_L (own : String) (idx : Nat) (y : MethodName) (bytes : ByteArray) (maxL : Nat) (ret : Option FieldType) (n : Nat) : Prop :=
  Cond.methodLink own idx y ∈ xm_tb ∧ Cond.initialized y.cls ∈ xm_tb ∧ Cond.code y bytes maxL ret ∈ xm_tb ∧ maxL ≤ 21 ∧ (y.cls ≠ "java/lang/invoke/MethodHandle" ∧ y.cls ≠ "java/lang/invoke/VarHandle" ∧ (parseMethodDescriptor y.desc).map (fun d => d.parameters.length) = some n)
def xm_LN (own : String) (idx : Nat) (y : MethodName) (host : String) (bytes : ByteArray) (maxL : Nat) (ret : Option FieldType) (n : Nat) : Prop :=
  (own, idx, y, host) ∈ xm_nst ∧ Cond.initialized y.cls ∈ xm_tb ∧ Cond.code y bytes maxL ret ∈ xm_tb ∧ maxL ≤ 21 ∧ (y.cls ≠ "java/lang/invoke/MethodHandle" ∧ y.cls ≠ "java/lang/invoke/VarHandle" ∧ (parseMethodDescriptor y.desc).map (fun d => d.parameters.length) = some n)
theorem xm_cb_of (hC : xm_C X own cc nL fr mc ms) {idx : Nat} {y : MethodName} {bytes : ByteArray} {maxL : Nat} {ret : Option FieldType} {n fr' mc' ms' : Nat} (hL : xm_L own idx y bytes maxL ret n) (hfr : fr' + 1 ≤ fr) : CallB (xx_R X) (xx_s X) (xx_a X) own idx y bytes maxL ret (Cond.code y bytes maxL ret :: xm_tb) (xm_rm fr' mc' ms') mc' ms' n := by
  obtain ⟨h1, h2, h3, h4, h5⟩ := hL
  have hts := hC.2.2.2.2.1
  have hcp := hC.2.2.2.2.2.2.2.2.2
  exact callB_of n hts (xm_goodW h3) rfl rfl rfl (hts _ h2) (hts _ h1) h5 ⟨by show fr' + 1 ≤ _; omega, by show 8 + (maxL + 11) + 40 * fr' ≤ _; omega⟩
theorem xm_cn_of (hC : xm_C X own cc nL fr mc ms) {idx : Nat} {y : MethodName} {host : String} {bytes : ByteArray} {maxL : Nat} {ret : Option FieldType} {n fr' mc' ms' : Nat} (hL : xm_LN own idx y host bytes maxL ret n) (hfr : fr' + 1 ≤ fr) : va_CN (xx_R X) (xx_s X) (xx_a X) own idx y host bytes maxL ret (Cond.code y bytes maxL ret :: xm_tb) (xm_rm fr' mc' ms') mc' ms' n := by
  obtain ⟨h1, h2, h3, h4, h5⟩ := hL
  have hts := hC.2.2.2.2.1
  have hcp := hC.2.2.2.2.2.2.2.2.2
  exact va_cnB n hts (xm_goodW h3) rfl rfl rfl (hC.2.2.2.2.2.1.2.2.2.1 _ h1) (hts _ h2) h5 ⟨by show fr' + 1 ≤ _; omega, by show 8 + (maxL + 11) + 40 * fr' ≤ _; omega⟩
/-- behind any call -/
theorem xg_run {rk mc' ms' kc' sc' : Nat} {r0 : Option xm_Out} {k : xm_Out → Option xm_Out} {stk rest : List Value} {st2 : xm_Out → List Value} {a : Array Value}
    (hrun : ∀ o, r0 = some o → ∀ (H : Heap) (locs : List Loc) (ls : Array Slot), xm_R (xx_G X) (xx_I X) σ H → va_S (xm_A X) (xx_s X).heap H locs → lv_has ls (xx_c X).maxLocals l → va_Run (xx_p X) (xx_la X) (xx_e X) (xx_R X) (xx_s X) (xx_m X) (xx_a X) (xx_b X) (xx_t X) (xx_c X) H locs kc sc mc' ms' (F0 (xx_m X) pc ls stk) rest (xm_Qc (xx_G X) (xx_I X) rk o a) (xm_A X))
    (hkc : kc + mc' = kc') (hsc : sc + ms' = sc') (hst2 : ∀ o, (xm_o (xx_G X) rk o.2).toList ++ rest = st2 o) (kk : ∀ o, xm_f rk o.2 → xm_V X kc' sc' (k o) o.1 (pc + 3) l (st2 o)) : xm_V X kc sc (r0.bind k) σ pc l stk := by
  subst hkc
  subst hsc
  intro o' ho' H locs ls hR hS hL
  obtain ⟨o, g1, g2⟩ := Option.bind_eq_some_iff.mp ho'
  intro T hT Xs
  obtain ⟨v, st₀, t, T', L, h0, X', hL', e1, e2, ⟨⟨hv, hR1, hf⟩, hz, hk⟩, hst⟩ := hrun o g1 H locs ls hR hS hL T hT Xs
  cases hv
  rw [h0] at hz hk
  have K := kk o hf o' g2 T'.heap (locs ++ L) ls (by rw [e1]; exact hR1)
    ⟨Nat.le_trans hS.1 (by rw [e1]; exact hz), fun q h1 h2 => by rw [e1, hk q (Nat.lt_of_lt_of_le h1 hS.1) h2]; exact hS.2.1 q h1 h2, fun q hq => by
      rcases List.mem_append.mp hq with h | h
      · exact hS.2.2 q h
      · exact hL' q h⟩ hL
  rw [← hst2 o] at K
  obtain ⟨t2, a1, b1⟩ := K T' rfl X'
  exact ⟨t2, hst t2 a1, b1⟩
theorem xm_pre {Γ : xm_Gm} {I : xm_Mem → Prop} {s : State} {H : Heap} {av : List Value} (hR : xm_R Γ I σ H) (hK : xm_K Γ s) : ∀ U : State, U.heap = H → s.WarmedH U.vm → va_Pc av (fun U => xm_R Γ I σ U.heap ∧ xm_K Γ U) av.toArray U :=
  fun U hU hW => ⟨rfl, by rw [hU]; exact hR, xm_K.warm hW hK⟩
/-- invokevirtual -/
theorem xg_callV (hC : xm_C X own cc nL fr mc ms) {rk ci a idx maxL n fr' mc' ms' kc' sc' : Nat} {y : MethodName} {bytes : ByteArray} {ret : Option FieldType} {As : List Value} {r0 : Option xm_Out} {k : xm_Out → Option xm_Out} {stk rest : List Value} {st2 : xm_Out → List Value}
    (hM : ∀ o, r0 = some o → xm_M (xx_G X) (xx_I X) (xx_la X) y bytes maxL ret fr' mc' ms' (.ref (xm_ad (xx_G X) a) :: As) σ rk o) (hL : xm_L own idx y bytes maxL ret n) (hV : Cond.instanceMethod y ∈ xm_tb ∧ Cond.selects y.cls y y ∈ xm_tb)
    (hl : xm_lay a = (0, ci)) (ha : xx_I X σ → 1 ≤ a ∧ a ≤ σ.2.2) (hci : ci < 11) (hcl : xm_cR ci = y.cls) (hfr : fr' + 1 ≤ fr) (hcap : kc + mc' ≤ mc ∧ sc + ms' ≤ ms) (hd : decode cc pc = .ok (.invokevirtual idx, 3)) (hstk : stk = As.reverse ++ .ref (xm_ad (xx_G X) a) :: rest) (hn : As.length = n) (hrest : (rest.map fun v => v.category).sum ≤ 8)
    (hkc : kc + mc' = kc') (hsc : sc + ms' = sc') (hst2 : ∀ o, (xm_o (xx_G X) rk o.2).toList ++ rest = st2 o) (kk : ∀ o, xm_f rk o.2 → xm_V X kc' sc' (k o) o.1 (pc + 3) l (st2 o)) : xm_V X kc sc (r0.bind k) σ pc l stk := by
  refine xg_run (a := (Value.ref (xm_ad (xx_G X) a) :: As).toArray) (fun o ho H locs ls hR hS hLs => ?_) hkc hsc hst2 kk
  have hts := hC.2.2.2.2.1
  have hcp := hC.2.2.2.2.2.2.2.2.2.2.2
  obtain ⟨g1, g2⟩ := ha hR.2.2.2.1
  have hrecv := va_recv hC.2.2.2.2.2.1.1 (hR.w1 g1 g2 (xm_k7 hl (by decide)) (xm_cell_o hl)) (xm_cl_at hci) (q0 := 0) rfl
  refine va_runV (As := As) (rest := rest) (C := y.cls) (maxL := maxL) (ret := ret) ⟨hC.1, hC.2.1, hC.2.2.1, hC.2.2.2.1, hts⟩ (hM o ho) ⟨xm_cb_of hC hL hfr, hts _ hV.1, hts _ hV.2⟩ ⟨xm_blind, by rw [← hcl]; exact hrecv, xm_pre hR hC.2.2.2.2.2.1⟩ rfl hn (by show ls.size = _; rw [hLs.1, hC.2.2.1]) hstk (by show 2 * 0 + _ ≤ 8; omega) hd ⟨by omega, by omega⟩
/-- invokestatic -/
theorem xg_callS (hC : xm_C X own cc nL fr mc ms) {rk idx maxL n fr' mc' ms' kc' sc' : Nat} {y : MethodName} {bytes : ByteArray} {ret : Option FieldType} {As : List Value} {r0 : Option xm_Out} {k : xm_Out → Option xm_Out} {stk rest : List Value} {st2 : xm_Out → List Value}
    (hM : ∀ o, r0 = some o → xm_M (xx_G X) (xx_I X) (xx_la X) y bytes maxL ret fr' mc' ms' As σ rk o) (hL : xm_L own idx y bytes maxL ret n) (hV : Cond.static y ∈ xm_tb)
    (hfr : fr' + 1 ≤ fr) (hcap : kc + mc' ≤ mc ∧ sc + ms' ≤ ms) (hd : decode cc pc = .ok (.invokestatic idx, 3)) (hstk : stk = As.reverse ++ rest) (hn : As.length = n) (hrest : (rest.map fun v => v.category).sum ≤ 8)
    (hkc : kc + mc' = kc') (hsc : sc + ms' = sc') (hst2 : ∀ o, (xm_o (xx_G X) rk o.2).toList ++ rest = st2 o) (kk : ∀ o, xm_f rk o.2 → xm_V X kc' sc' (k o) o.1 (pc + 3) l (st2 o)) : xm_V X kc sc (r0.bind k) σ pc l stk := by
  refine xg_run (a := As.toArray) (fun o ho H locs ls hR hS hLs => ?_) hkc hsc hst2 kk
  have hts := hC.2.2.2.2.1
  have hcp := hC.2.2.2.2.2.2.2.2.2.2.2
  refine va_runS (As := As) (rest := rest) (maxL := maxL) (ret := ret) ⟨hC.1, hC.2.1, hC.2.2.1, hC.2.2.2.1, hts⟩ (hM o ho) ⟨xm_cb_of hC hL hfr, hts _ hV⟩ ⟨xm_blind, xm_pre hR hC.2.2.2.2.2.1⟩ rfl hn (by show ls.size = _; rw [hLs.1, hC.2.2.1]) hstk (by show 2 * 0 + _ ≤ 8; omega) hd ⟨by omega, by omega⟩
theorem xg_callSN (hC : xm_C X own cc nL fr mc ms) {rk idx maxL n fr' mc' ms' kc' sc' : Nat} {y : MethodName} {host : String} {bytes : ByteArray} {ret : Option FieldType} {As : List Value} {r0 : Option xm_Out} {k : xm_Out → Option xm_Out} {stk rest : List Value} {st2 : xm_Out → List Value}
    (hM : ∀ o, r0 = some o → xm_M (xx_G X) (xx_I X) (xx_la X) y bytes maxL ret fr' mc' ms' As σ rk o) (hL : xm_LN own idx y host bytes maxL ret n) (hV : Cond.static y ∈ xm_tb)
    (hfr : fr' + 1 ≤ fr) (hcap : kc + mc' ≤ mc ∧ sc + ms' ≤ ms) (hd : decode cc pc = .ok (.invokestatic idx, 3)) (hstk : stk = As.reverse ++ rest) (hn : As.length = n) (hrest : (rest.map fun v => v.category).sum ≤ 8)
    (hkc : kc + mc' = kc') (hsc : sc + ms' = sc') (hst2 : ∀ o, (xm_o (xx_G X) rk o.2).toList ++ rest = st2 o) (kk : ∀ o, xm_f rk o.2 → xm_V X kc' sc' (k o) o.1 (pc + 3) l (st2 o)) : xm_V X kc sc (r0.bind k) σ pc l stk := by
  refine xg_run (a := As.toArray) (fun o ho H locs ls hR hS hLs => ?_) hkc hsc hst2 kk
  have hts := hC.2.2.2.2.1
  have hcp := hC.2.2.2.2.2.2.2.2.2.2.2
  refine va_runSN (As := As) (rest := rest) (maxL := maxL) (ret := ret) ⟨hC.1, hC.2.1, hC.2.2.1, hC.2.2.2.1, hts⟩ (hM o ho) ⟨xm_cn_of hC hL hfr, hts _ hV, trivial⟩ ⟨xm_blind, xm_pre hR hC.2.2.2.2.2.1⟩ rfl hn (by show ls.size = _; rw [hLs.1, hC.2.2.1]) hstk (by show 2 * 0 + _ ≤ 8; omega) hd ⟨by omega, by omega⟩
/-- constructors -/
theorem xg_callI (hC : xm_C X own cc nL fr mc ms) {idx maxL n fr' mc' ms' kc' sc' : Nat} {y : MethodName} {bytes : ByteArray} {v : Int} {As : List Value} {r0 : Option xm_Out} {k : xm_Out → Option xm_Out} {stk rest : List Value}
    (hM : ∀ o, r0 = some o → xm_M (xx_G X) (xx_I X) (xx_la X) y bytes maxL none fr' mc' ms' (xm_rf (xx_G X) v :: As) σ 0 o) (hv : 1 ≤ v) (hL : xm_L own idx y bytes maxL none n) (hV : Cond.instanceMethod y ∈ xm_tb ∧ y.name = "<init>")
    (hfr : fr' + 1 ≤ fr) (hcap : kc + mc' ≤ mc ∧ sc + ms' ≤ ms) (hd : decode cc pc = .ok (.invokespecial idx, 3)) (hstk : stk = As.reverse ++ xm_rf (xx_G X) v :: rest) (hn : As.length = n) (hrest : (rest.map fun v => v.category).sum ≤ 8)
    (hkc : kc + mc' = kc') (hsc : sc + ms' = sc') (kk : ∀ o, xm_f 0 o.2 → xm_V X kc' sc' (k o) o.1 (pc + 3) l rest) : xm_V X kc sc (r0.bind k) σ pc l stk := by
  refine xg_run (rk := 0) (a := (Value.ref (xm_ad (xx_G X) v.toNat) :: As).toArray) (fun o ho H locs ls hR hS hLs => ?_) hkc hsc (fun _ => rfl) kk
  have hts := hC.2.2.2.2.1
  have hcp := hC.2.2.2.2.2.2.2.2.2.2.2
  have hm := hM o ho
  rw [xm_rf_pos hv] at hm hstk
  refine va_runI (As := As) (rest := rest) (maxL := maxL) ⟨hC.1, hC.2.1, hC.2.2.1, hC.2.2.2.1, hts⟩ hm ⟨xm_cb_of hC hL hfr, hV.2, hts _ hV.1⟩ ⟨xm_blind, xm_pre hR hC.2.2.2.2.2.1⟩ rfl hn (by show ls.size = _; rw [hLs.1, hC.2.2.1]) hstk (by show 2 * 0 + _ ≤ 8; omega) hd ⟨by omega, by omega⟩
theorem xg_callIN (hC : xm_C X own cc nL fr mc ms) {idx maxL n fr' mc' ms' kc' sc' : Nat} {y : MethodName} {host : String} {bytes : ByteArray} {v : Int} {As : List Value} {r0 : Option xm_Out} {k : xm_Out → Option xm_Out} {stk rest : List Value}
    (hM : ∀ o, r0 = some o → xm_M (xx_G X) (xx_I X) (xx_la X) y bytes maxL none fr' mc' ms' (xm_rf (xx_G X) v :: As) σ 0 o) (hv : 1 ≤ v) (hL : xm_LN own idx y host bytes maxL none n) (hV : Cond.instanceMethod y ∈ xm_tb ∧ y.name = "<init>")
    (hfr : fr' + 1 ≤ fr) (hcap : kc + mc' ≤ mc ∧ sc + ms' ≤ ms) (hd : decode cc pc = .ok (.invokespecial idx, 3)) (hstk : stk = As.reverse ++ xm_rf (xx_G X) v :: rest) (hn : As.length = n) (hrest : (rest.map fun v => v.category).sum ≤ 8)
    (hkc : kc + mc' = kc') (hsc : sc + ms' = sc') (kk : ∀ o, xm_f 0 o.2 → xm_V X kc' sc' (k o) o.1 (pc + 3) l rest) : xm_V X kc sc (r0.bind k) σ pc l stk := by
  refine xg_run (rk := 0) (a := (Value.ref (xm_ad (xx_G X) v.toNat) :: As).toArray) (fun o ho H locs ls hR hS hLs => ?_) hkc hsc (fun _ => rfl) kk
  have hts := hC.2.2.2.2.1
  have hcp := hC.2.2.2.2.2.2.2.2.2.2.2
  have hm := hM o ho
  rw [xm_rf_pos hv] at hm hstk
  refine va_runIN (As := As) (rest := rest) (maxL := maxL) ⟨hC.1, hC.2.1, hC.2.2.1, hC.2.2.2.1, hts⟩ hm ⟨xm_cn_of hC hL hfr, hV.2, hts _ hV.1⟩ ⟨xm_blind, xm_pre hR hC.2.2.2.2.2.1⟩ rfl hn (by show ls.size = _; rw [hLs.1, hC.2.2.1]) hstk (by show 2 * 0 + _ ≤ 8; omega) hd ⟨by omega, by omega⟩
/-- a call of an object by a symbolic reference -/
theorem xg_callVs (hC : xm_C X own cc nL fr mc ms) {rk ci idx maxL n fr' mc' ms' kc' sc' : Nat} {v : Int} {y : MethodName} {bytes : ByteArray} {ret : Option FieldType} {As : List Value} {r0 : Option xm_Out} {k : xm_Out → Option xm_Out} {stk rest : List Value} {st2 : xm_Out → List Value}
    (hM : ∀ o, r0 = some o → xm_M (xx_G X) (xx_I X) (xx_la X) y bytes maxL ret fr' mc' ms' (xm_rf (xx_G X) v :: As) σ rk o) (hL : xm_L own idx y bytes maxL ret n) (hV : Cond.instanceMethod y ∈ xm_tb ∧ Cond.selects y.cls y y ∈ xm_tb)
    (hci : ci < 11) (hcl : xm_cR ci = y.cls) (hfr : fr' + 1 ≤ fr) (hcap : kc + mc' ≤ mc ∧ sc + ms' ≤ ms) (hd : decode cc pc = .ok (.invokevirtual idx, 3)) (hstk : stk = As.reverse ++ xm_rf (xx_G X) v :: rest) (hn : As.length = n) (hrest : (rest.map fun v => v.category).sum ≤ 8)
    (hkc : kc + mc' = kc') (hsc : sc + ms' = sc') (hst2 : ∀ o, (xm_o (xx_G X) rk o.2).toList ++ rest = st2 o) (kk : ∀ o, xm_f rk o.2 → xm_V X kc' sc' (k o) o.1 (pc + 3) l (st2 o)) : xm_V X kc sc (if xm_obj σ v ci then r0.bind k else none) σ pc l stk := by
  refine xg_guard (fun h => ?_)
  rw [xm_rf_pos h.1] at hM hstk
  exact xg_callV hC hM hL hV h.2.2 (fun _ => ⟨by omega, by omega⟩) hci hcl hfr hcap hd hstk hn hrest hkc hsc hst2 kk
-- returns
theorem xm_fr {Γ : xm_Gm} {I : xm_Mem → Prop} {rk : Nat} {v : Int} {H : Heap} {s t : State} {locs : List Loc} (hR : xm_R Γ I σ H) (hf : xm_f rk v) (hS : va_S (fun q => xm_B Γ < q) s.heap H locs) (ht : t.heap = H) {a : Array Value} {oc : Outcome} (ho : oc = .returned (xm_o Γ rk v)) : xm_Qc Γ I rk (σ, v) a s oc t :=
  ⟨⟨ho, by rw [ht]; exact hR, hf⟩, hS.F ht⟩
theorem xg_iret (hC : xm_C X own cc nL fr mc ms) (hQ : xm_Rt X 1 (some .int) kc sc) {v : Int} (hv : xm_in v) (hd : decode cc pc = .ok (.ireturn, 1)) : xm_V X kc sc (some (σ, v)) σ pc l [.int (xm_J v)] := by
  intro o ho H locs ls hR hS hL T hT Xs
  cases ho
  have hlocks := hC.2.2.2.2.2.2.1
  obtain ⟨t, a, b⟩ := W.iret (hlocks := hlocks) (Qc := xm_Qc (xx_G X) (xx_I X) 1 (σ, v)) (free := xm_A X) hC.1 hC.2.1 hQ.1 (fun t ht _ => xm_fr (rk := 1) (v := v) hR hv hS ht rfl) hS.2.2 hd T hT Xs
  exact ⟨t, a, hQ.2 _ _ b⟩
theorem xg_zret (hC : xm_C X own cc nL fr mc ms) (hQ : xm_Rt X 2 (some .boolean) kc sc) {v : Int} (hv : 0 ≤ v ∧ v ≤ 1) (hd : decode cc pc = .ok (.ireturn, 1)) : xm_V X kc sc (some (σ, v)) σ pc l [.int (xm_J v)] := by
  intro o ho H locs ls hR hS hL T hT Xs
  cases ho
  have hlocks := hC.2.2.2.2.2.2.1
  obtain ⟨t, a, b⟩ := W.zret (hlocks := hlocks) (ty := .boolean) (Qc := xm_Qc (xx_G X) (xx_I X) 2 (σ, v)) (free := xm_A X) hC.1 hC.2.1 hQ.1 (xm_zn hv).1 (fun t ht _ => xm_fr (rk := 2) (v := v) hR hv hS ht rfl) hS.2.2 hd T hT Xs
  exact ⟨t, a, hQ.2 _ _ b⟩
theorem xg_vret (hC : xm_C X own cc nL fr mc ms) (hQ : xm_Rt X 0 none kc sc) (hd : decode cc pc = .ok (.return_, 1)) : xm_V X kc sc (some (σ, 0)) σ pc l [] := by
  intro o ho H locs ls hR hS hL T hT Xs
  cases ho
  have hlocks := hC.2.2.2.2.2.2.1
  obtain ⟨t, a, b⟩ := W.vret (hlocks := hlocks) (Qc := xm_Qc (xx_G X) (xx_I X) 0 (σ, 0)) (free := xm_A X) hC.1 hC.2.1 hQ.1 (fun t ht _ => xm_fr (rk := 0) (v := 0) hR trivial hS ht rfl) hS.2.2 hd T hT Xs
  exact ⟨t, a, hQ.2 _ _ b⟩
theorem xm_rf_or {Γ : xm_Gm} {v : Int} : xm_rf Γ v = .null ∨ ∃ a, xm_rf Γ v = .ref a := va_rf_or _
theorem xg_rret (hC : xm_C X own cc nL fr mc ms) {C : String} (hQ : xm_Rt X 3 (some (.object C)) kc sc) {v : Int} (hv : 0 ≤ v) (hd : decode cc pc = .ok (.areturn, 1)) : xm_V X kc sc (some (σ, v)) σ pc l [xm_rf (xx_G X) v] := by
  intro o ho H locs ls hR hS hL T hT Xs
  cases ho
  have hlocks := hC.2.2.2.2.2.2.1
  obtain ⟨t, a, b⟩ := W.aret (hlocks := hlocks) (Qc := xm_Qc (xx_G X) (xx_I X) 3 (σ, v)) (free := xm_A X) hC.1 hC.2.1 hQ.1 (Or.inl ⟨C, rfl⟩) xm_rf_or (fun t ht _ => xm_fr (rk := 3) (v := v) hR hv hS ht rfl) hS.2.2 hd T hT Xs
  exact ⟨t, a, hQ.2 _ _ b⟩
theorem xg_cret (hC : xm_C X own cc nL fr mc ms) {C : String} (hQ : xm_Rt X 4 (some (.object C)) kc sc) {v : Int} (hv : 0 ≤ v ∧ v < 8) (hd : decode cc pc = .ok (.areturn, 1)) : xm_V X kc sc (some (σ, v)) σ pc l [.ref (xm_ad (xx_G X) (xm_cb v.toNat))] := by
  intro o ho H locs ls hR hS hL T hT Xs
  cases ho
  have hlocks := hC.2.2.2.2.2.2.1
  obtain ⟨t, a, b⟩ := W.aret (hlocks := hlocks) (Qc := xm_Qc (xx_G X) (xx_I X) 4 (σ, v)) (free := xm_A X) hC.1 hC.2.1 hQ.1 (Or.inl ⟨C, rfl⟩) (Or.inr ⟨_, rfl⟩) (fun t ht _ => xm_fr (rk := 4) (v := v) hR hv hS ht rfl) hS.2.2 hd T hT Xs
  exact ⟨t, a, hQ.2 _ _ b⟩
theorem xg_sret (hC : xm_C X own cc nL fr mc ms) {C : String} (hQ : xm_Rt X 5 (some (.object C)) kc sc) {v : Int} (hv : 0 ≤ v ∧ v < 24) (hd : decode cc pc = .ok (.areturn, 1)) : xm_V X kc sc (some (σ, v)) σ pc l [.ref (xm_adK (xx_G X) v.toNat)] := by
  intro o ho H locs ls hR hS hL T hT Xs
  cases ho
  have hlocks := hC.2.2.2.2.2.2.1
  obtain ⟨t, a, b⟩ := W.aret (hlocks := hlocks) (Qc := xm_Qc (xx_G X) (xx_I X) 5 (σ, v)) (free := xm_A X) hC.1 hC.2.1 hQ.1 (Or.inl ⟨C, rfl⟩) (Or.inr ⟨_, rfl⟩) (fun t ht _ => xm_fr (rk := 5) (v := v) hR hv hS ht rfl) hS.2.2 hd T hT Xs
  exact ⟨t, a, hQ.2 _ _ b⟩
theorem xg_lret (hC : xm_C X own cc nL fr mc ms) (hQ : xm_Rt X 6 (some .long) kc sc) {v : Int64} (hd : decode cc pc = .ok (.lreturn, 1)) : xm_V X kc sc (some (σ, v.toInt)) σ pc l [.long v] := by
  intro o ho H locs ls hR hS hL T hT Xs
  cases ho
  have hlocks := hC.2.2.2.2.2.2.1
  obtain ⟨t, a, b⟩ := W.lret (hlocks := hlocks) (v := v) (Qc := xm_Qc (xx_G X) (xx_I X) 6 (σ, v.toInt)) (free := xm_A X) hC.1 hC.2.1 hQ.1 (fun t ht _ => xm_fr (rk := 6) (v := v.toInt) hR trivial hS ht (by show _ = Outcome.returned (some (.long (Int64.ofInt v.toInt))); rw [Int64.ofInt_toInt])) hS.2.2 hd T hT Xs
  exact ⟨t, a, hQ.2 _ _ b⟩
/-- behind a making: the room as the contract has it -/
theorem xg_widen {kc2 sc2 : Nat} (h1 : kc ≤ kc2) (h2 : sc ≤ sc2) (k : xm_V X kc2 sc2 r σ pc l st) : xm_V X kc sc r σ pc l st := fun o ho H locs ls hR hS hL => W.widen h1 h2 (k o ho H locs ls hR hS hL)
end XK
/-- A METHOD'S START -/
theorem xg_enter {Γ : xm_Gm} {I : xm_Mem → Prop} {la : Launch} {y : MethodName} {cc : ByteArray} {maxL : Nat} {ret : Option FieldType} {fr mc ms rk : Nat} {av : List Value} {σ : xm_Mem} {r : Option xm_Out} (hy : plainName y.cls = true) (hlen : (lg_sl av).length ≤ maxL)
    (body : ∀ X : xm_X, xx_G X = Γ → xx_I X = I → xx_la X = la → xm_C X y.cls cc maxL fr mc ms → xm_Rt X rk ret mc ms → (xx_t X).name = y.name → xm_V X 0 0 r σ 0 (lv_args 0 av) []) : ∀ o, r = some o → xm_M Γ I la y cc maxL ret fr mc ms av σ rk o := by
  intro o ho
  refine Met.ofW (cc := cc) (maxL := maxL) (ret := ret) hy rfl ?_
  intro p e s m args below meth c s₁ B hml hv
  obtain ⟨rfl, hR, hK⟩ := hv
  have hts := atoms_spec (ws := Cond.code y cc maxL ret :: xm_tb) B.pre
  have hown : s.vm.findClass y.cls = some m.cls := findClass_of_methodNamed B.named
  have hname : meth.name = y.name := (name_of_methodNamed B.named B.method).1
  have hl := lv_entry av (n := maxL) hlen
  rw [lg_entry_eq]
  have key := body (Γ, I, la, p, e, xm_rm fr mc ms, s, m, av.toArray, below, meth, c, fun o' => MQ below (xm_Qc Γ I rk o') av.toArray s mc ms (fun q => xm_B Γ < q)) rfl rfl rfl
    ⟨B.exec, B.bytes, hml, hown, fun w hw => hts w (List.mem_cons_of_mem _ hw), hK, B.notSynchronized, by show xm_B Γ < s.heap.size; rw [hR.2.1]; omega, hR.2.2.2.2.1, Nat.le_refl _, Nat.le_refl _, Nat.le_refl _, Nat.le_refl _⟩ ⟨B.returns, fun o' t h => h⟩ hname
  exact key o ho s.heap [] _ hR va_S.rf (by show lv_has _ c.maxLocals _; rw [hml]; exact hl)
end
section
/-! ===== the links of the tables, by their places (written by program) ===== -/
theorem xl_Z_9 : Cond.initialized (xm_cR 9) ∈ xm_tb := xm_mem 40 (by decide +kernel) rfl
theorem xl_Z_7 : Cond.initialized (xm_cR 7) ∈ xm_tb := xm_mem 41 (by decide +kernel) rfl
theorem xl_Z_5 : Cond.initialized (xm_cR 5) ∈ xm_tb := xm_mem 42 (by decide +kernel) rfl
theorem xl_Z_6 : Cond.initialized (xm_cR 6) ∈ xm_tb := xm_mem 43 (by decide +kernel) rfl
theorem xl_Z_4 : Cond.initialized (xm_cR 4) ∈ xm_tb := xm_mem 44 (by decide +kernel) rfl
theorem xl_Z_8 : Cond.initialized (xm_cR 8) ∈ xm_tb := xm_mem 45 (by decide +kernel) rfl
theorem xl_Z_1 : Cond.initialized (xm_cR 1) ∈ xm_tb := xm_mem 46 (by decide +kernel) rfl
theorem xl_Z_3 : Cond.initialized (xm_cR 3) ∈ xm_tb := xm_mem 47 (by decide +kernel) rfl
theorem xl_Z_0 : Cond.initialized (xm_cR 0) ∈ xm_tb := xm_mem 48 (by decide +kernel) rfl
theorem xl_Z_10 : Cond.initialized (xm_cR 10) ∈ xm_tb := xm_mem 50 (by decide +kernel) rfl
theorem xl_Z_2 : Cond.initialized (xm_cR 2) ∈ xm_tb := xm_mem 60 (by decide +kernel) rfl
theorem xl_K_L_29 : Cond.classLink RL 29 (xm_cR 9) ∈ xm_tb := xm_mem 62 (by decide +kernel) rfl
theorem xl_T_9 : Cond.instantiable (xm_cR 9) (xm_nf 9) ∈ xm_tb := xm_mem 63 (by decide +kernel) rfl
theorem xl_M_L_67 : xm_L RL 67 yX10_init cX10_init 2 none 0 := ⟨xm_mem 64 (by decide +kernel) rfl, xm_mem 40 (by decide +kernel) rfl, xm_mem 66 (by decide +kernel) rfl, by decide, by decide +kernel⟩
theorem xl_I_X10_init : Cond.instanceMethod yX10_init ∈ xm_tb ∧ yX10_init.name = "<init>" := ⟨xm_mem 65 (by decide +kernel) rfl, rfl⟩
theorem xl_O_X10_1 : Cond.methodLink RX10 1 objectInit ∈ xm_tb := xm_mem 67 (by decide +kernel) rfl
theorem xl_OI : Cond.instanceMethod objectInit ∈ xm_tb := xm_mem 68 (by decide +kernel) rfl
theorem xl_OC : Cond.code objectInit ⟨#[0xb1]⟩ 1 none ∈ xm_tb := xm_mem 69 (by decide +kernel) rfl
theorem xl_K_X10_7 : Cond.classLink RX10 7 (xm_cR 7) ∈ xm_tb := xm_mem 70 (by decide +kernel) rfl
theorem xl_T_7 : Cond.instantiable (xm_cR 7) (xm_nf 7) ∈ xm_tb := xm_mem 71 (by decide +kernel) rfl
theorem xl_N_X10_9 : xm_LN RX10 9 yX8_init RX10 cX8_init 1 none 0 := ⟨by simp [xm_nst], xm_mem 41 (by decide +kernel) rfl, xm_mem 74 (by decide +kernel) rfl, by decide, by decide +kernel⟩
theorem xl_I_X8_init : Cond.instanceMethod yX8_init ∈ xm_tb ∧ yX8_init.name = "<init>" := ⟨xm_mem 73 (by decide +kernel) rfl, rfl⟩
theorem xl_O_X8_3 : Cond.methodLink RX8 3 objectInit ∈ xm_tb := xm_mem 75 (by decide +kernel) rfl
theorem xl_F_X8_9 : xm_F RX8 9 7 0 := ⟨by decide, by decide, xm_mem 76 (by decide +kernel) rfl⟩
theorem xl_F_X8_15 : xm_F RX8 15 7 1 := ⟨by decide, by decide, xm_mem 77 (by decide +kernel) rfl⟩
theorem xl_A_int : Cond.arrayClass .int ∈ xm_tb := xm_mem 83 (by decide +kernel) rfl
theorem xl_K_X10_16 : Cond.classLink RX10 16 (xm_cR 5) ∈ xm_tb := xm_mem 84 (by decide +kernel) rfl
theorem xl_T_5 : Cond.instantiable (xm_cR 5) (xm_nf 5) ∈ xm_tb := xm_mem 85 (by decide +kernel) rfl
theorem xl_M_X10_18 : xm_L RX10 18 yX6_init cX6_init 2 none 1 := ⟨xm_mem 86 (by decide +kernel) rfl, xm_mem 42 (by decide +kernel) rfl, xm_mem 88 (by decide +kernel) rfl, by decide, by decide +kernel⟩
theorem xl_I_X6_init : Cond.instanceMethod yX6_init ∈ xm_tb ∧ yX6_init.name = "<init>" := ⟨xm_mem 87 (by decide +kernel) rfl, rfl⟩
theorem xl_O_X6_3 : Cond.methodLink RX6 3 objectInit ∈ xm_tb := xm_mem 89 (by decide +kernel) rfl
theorem xl_F_X6_21 : xm_F RX6 21 5 0 := ⟨by decide, by decide, xm_mem 90 (by decide +kernel) rfl⟩
theorem xl_F_X6_9 : xm_F RX6 9 5 1 := ⟨by decide, by decide, xm_mem 91 (by decide +kernel) rfl⟩
theorem xl_F_X6_15 : xm_F RX6 15 5 2 := ⟨by decide, by decide, xm_mem 92 (by decide +kernel) rfl⟩
theorem xl_F_X6_18 : xm_F RX6 18 5 3 := ⟨by decide, by decide, xm_mem 93 (by decide +kernel) rfl⟩
theorem xl_K_X10_25 : Cond.classLink RX10 25 (xm_cR 6) ∈ xm_tb := xm_mem 103 (by decide +kernel) rfl
theorem xl_T_6 : Cond.instantiable (xm_cR 6) (xm_nf 6) ∈ xm_tb := xm_mem 104 (by decide +kernel) rfl
theorem xl_N_X10_27 : xm_LN RX10 27 yX7_init RX10 cX7_init 1 none 0 := ⟨by simp [xm_nst], xm_mem 43 (by decide +kernel) rfl, xm_mem 107 (by decide +kernel) rfl, by decide, by decide +kernel⟩
theorem xl_I_X7_init : Cond.instanceMethod yX7_init ∈ xm_tb ∧ yX7_init.name = "<init>" := ⟨xm_mem 106 (by decide +kernel) rfl, rfl⟩
theorem xl_O_X7_3 : Cond.methodLink RX7 3 objectInit ∈ xm_tb := xm_mem 108 (by decide +kernel) rfl
theorem xl_K_X7_9 : Cond.classLink RX7 9 (xm_cR 2) ∈ xm_tb := xm_mem 109 (by decide +kernel) rfl
theorem xl_F_X7_11 : xm_F RX7 11 6 0 := ⟨by decide, by decide, xm_mem 111 (by decide +kernel) rfl⟩
theorem xl_F_X7_17 : xm_F RX7 17 6 1 := ⟨by decide, by decide, xm_mem 112 (by decide +kernel) rfl⟩
theorem xl_F_X7_20 : xm_F RX7 20 6 2 := ⟨by decide, by decide, xm_mem 113 (by decide +kernel) rfl⟩
theorem xl_F_X7_23 : xm_F RX7 23 6 3 := ⟨by decide, by decide, xm_mem 114 (by decide +kernel) rfl⟩
theorem xl_F_X7_27 : xm_F RX7 27 6 4 := ⟨by decide, by decide, xm_mem 115 (by decide +kernel) rfl⟩
theorem xl_F_X7_30 : xm_F RX7 30 6 5 := ⟨by decide, by decide, xm_mem 116 (by decide +kernel) rfl⟩
theorem xl_K_X10_32 : Cond.classLink RX10 32 (xm_cR 4) ∈ xm_tb := xm_mem 130 (by decide +kernel) rfl
theorem xl_T_4 : Cond.instantiable (xm_cR 4) (xm_nf 4) ∈ xm_tb := xm_mem 131 (by decide +kernel) rfl
theorem xl_N_X10_34 : xm_LN RX10 34 yX5_init RX10 cX5_init 1 none 0 := ⟨by simp [xm_nst], xm_mem 44 (by decide +kernel) rfl, xm_mem 134 (by decide +kernel) rfl, by decide, by decide +kernel⟩
theorem xl_I_X5_init : Cond.instanceMethod yX5_init ∈ xm_tb ∧ yX5_init.name = "<init>" := ⟨xm_mem 133 (by decide +kernel) rfl, rfl⟩
theorem xl_O_X5_3 : Cond.methodLink RX5 3 objectInit ∈ xm_tb := xm_mem 135 (by decide +kernel) rfl
theorem xl_F_X5_9 : xm_F RX5 9 4 0 := ⟨by decide, by decide, xm_mem 136 (by decide +kernel) rfl⟩
theorem xl_F_X5_15 : xm_F RX5 15 4 1 := ⟨by decide, by decide, xm_mem 137 (by decide +kernel) rfl⟩
theorem xl_F_X5_18 : xm_F RX5 18 4 2 := ⟨by decide, by decide, xm_mem 138 (by decide +kernel) rfl⟩
theorem xl_F_X5_22 : xm_F RX5 22 4 3 := ⟨by decide, by decide, xm_mem 139 (by decide +kernel) rfl⟩
theorem xl_F_X5_25 : xm_F RX5 25 4 4 := ⟨by decide, by decide, xm_mem 140 (by decide +kernel) rfl⟩
theorem xl_F_X5_28 : xm_F RX5 28 4 5 := ⟨by decide, by decide, xm_mem 141 (by decide +kernel) rfl⟩
theorem xl_F_X5_31 : xm_F RX5 31 4 6 := ⟨by decide, by decide, xm_mem 142 (by decide +kernel) rfl⟩
theorem xl_F_X5_34 : xm_F RX5 34 4 7 := ⟨by decide, by decide, xm_mem 143 (by decide +kernel) rfl⟩
theorem xl_A_boolean : Cond.arrayClass .boolean ∈ xm_tb := xm_mem 161 (by decide +kernel) rfl
theorem xl_K_X10_39 : Cond.classLink RX10 39 (xm_cR 8) ∈ xm_tb := xm_mem 162 (by decide +kernel) rfl
theorem xl_T_8 : Cond.instantiable (xm_cR 8) (xm_nf 8) ∈ xm_tb := xm_mem 163 (by decide +kernel) rfl
theorem xl_N_X10_41 : xm_LN RX10 41 yX9_init RX10 cX9_init 1 none 0 := ⟨by simp [xm_nst], xm_mem 45 (by decide +kernel) rfl, xm_mem 166 (by decide +kernel) rfl, by decide, by decide +kernel⟩
theorem xl_I_X9_init : Cond.instanceMethod yX9_init ∈ xm_tb ∧ yX9_init.name = "<init>" := ⟨xm_mem 165 (by decide +kernel) rfl, rfl⟩
theorem xl_O_X9_3 : Cond.methodLink RX9 3 objectInit ∈ xm_tb := xm_mem 167 (by decide +kernel) rfl
theorem xl_F_X9_9 : xm_F RX9 9 8 0 := ⟨by decide, by decide, xm_mem 168 (by decide +kernel) rfl⟩
theorem xl_F_X9_15 : xm_F RX9 15 8 1 := ⟨by decide, by decide, xm_mem 169 (by decide +kernel) rfl⟩
theorem xl_F_X9_18 : xm_F RX9 18 8 2 := ⟨by decide, by decide, xm_mem 170 (by decide +kernel) rfl⟩
theorem xl_F_X9_21 : xm_F RX9 21 8 3 := ⟨by decide, by decide, xm_mem 171 (by decide +kernel) rfl⟩
theorem xl_F_X9_24 : xm_F RX9 24 8 4 := ⟨by decide, by decide, xm_mem 172 (by decide +kernel) rfl⟩
theorem xl_K_X10_46 : Cond.classLink RX10 46 (xm_cR 1) ∈ xm_tb := xm_mem 184 (by decide +kernel) rfl
theorem xl_T_1 : Cond.instantiable (xm_cR 1) (xm_nf 1) ∈ xm_tb := xm_mem 185 (by decide +kernel) rfl
theorem xl_M_X10_48 : xm_L RX10 48 yX2_init cX2_init 2 none 1 := ⟨xm_mem 186 (by decide +kernel) rfl, xm_mem 46 (by decide +kernel) rfl, xm_mem 188 (by decide +kernel) rfl, by decide, by decide +kernel⟩
theorem xl_I_X2_init : Cond.instanceMethod yX2_init ∈ xm_tb ∧ yX2_init.name = "<init>" := ⟨xm_mem 187 (by decide +kernel) rfl, rfl⟩
theorem xl_O_X2_3 : Cond.methodLink RX2 3 objectInit ∈ xm_tb := xm_mem 189 (by decide +kernel) rfl
theorem xl_F_X2_33 : xm_F RX2 33 1 0 := ⟨by decide, by decide, xm_mem 190 (by decide +kernel) rfl⟩
theorem xl_F_X2_9 : xm_F RX2 9 1 1 := ⟨by decide, by decide, xm_mem 191 (by decide +kernel) rfl⟩
theorem xl_F_X2_15 : xm_F RX2 15 1 2 := ⟨by decide, by decide, xm_mem 192 (by decide +kernel) rfl⟩
theorem xl_F_X2_19 : xm_F RX2 19 1 3 := ⟨by decide, by decide, xm_mem 193 (by decide +kernel) rfl⟩
theorem xl_F_X2_23 : xm_F RX2 23 1 4 := ⟨by decide, by decide, xm_mem 194 (by decide +kernel) rfl⟩
theorem xl_F_X2_26 : xm_F RX2 26 1 5 := ⟨by decide, by decide, xm_mem 195 (by decide +kernel) rfl⟩
theorem xl_F_X2_29 : xm_F RX2 29 1 6 := ⟨by decide, by decide, xm_mem 196 (by decide +kernel) rfl⟩
theorem xl_A_long : Cond.arrayClass .long ∈ xm_tb := xm_mem 212 (by decide +kernel) rfl
theorem xl_K_X10_55 : Cond.classLink RX10 55 (xm_cR 3) ∈ xm_tb := xm_mem 213 (by decide +kernel) rfl
theorem xl_T_3 : Cond.instantiable (xm_cR 3) (xm_nf 3) ∈ xm_tb := xm_mem 214 (by decide +kernel) rfl
theorem xl_M_X10_57 : xm_L RX10 57 yX4_init cX4_init 3 none 2 := ⟨xm_mem 215 (by decide +kernel) rfl, xm_mem 47 (by decide +kernel) rfl, xm_mem 217 (by decide +kernel) rfl, by decide, by decide +kernel⟩
theorem xl_I_X4_init : Cond.instanceMethod yX4_init ∈ xm_tb ∧ yX4_init.name = "<init>" := ⟨xm_mem 216 (by decide +kernel) rfl, rfl⟩
theorem xl_O_X4_3 : Cond.methodLink RX4 3 objectInit ∈ xm_tb := xm_mem 218 (by decide +kernel) rfl
theorem xl_F_X4_50 : xm_F RX4 50 3 0 := ⟨by decide, by decide, xm_mem 219 (by decide +kernel) rfl⟩
theorem xl_F_X4_54 : xm_F RX4 54 3 1 := ⟨by decide, by decide, xm_mem 220 (by decide +kernel) rfl⟩
theorem xl_F_X4_9 : xm_F RX4 9 3 2 := ⟨by decide, by decide, xm_mem 221 (by decide +kernel) rfl⟩
theorem xl_F_X4_15 : xm_F RX4 15 3 3 := ⟨by decide, by decide, xm_mem 222 (by decide +kernel) rfl⟩
theorem xl_F_X4_19 : xm_F RX4 19 3 4 := ⟨by decide, by decide, xm_mem 223 (by decide +kernel) rfl⟩
theorem xl_F_X4_22 : xm_F RX4 22 3 5 := ⟨by decide, by decide, xm_mem 224 (by decide +kernel) rfl⟩
theorem xl_F_X4_25 : xm_F RX4 25 3 6 := ⟨by decide, by decide, xm_mem 225 (by decide +kernel) rfl⟩
theorem xl_F_X4_28 : xm_F RX4 28 3 7 := ⟨by decide, by decide, xm_mem 226 (by decide +kernel) rfl⟩
theorem xl_F_X4_31 : xm_F RX4 31 3 8 := ⟨by decide, by decide, xm_mem 227 (by decide +kernel) rfl⟩
theorem xl_F_X4_34 : xm_F RX4 34 3 9 := ⟨by decide, by decide, xm_mem 228 (by decide +kernel) rfl⟩
theorem xl_F_X4_37 : xm_F RX4 37 3 10 := ⟨by decide, by decide, xm_mem 229 (by decide +kernel) rfl⟩
theorem xl_F_X4_40 : xm_F RX4 40 3 11 := ⟨by decide, by decide, xm_mem 230 (by decide +kernel) rfl⟩
theorem xl_F_X4_44 : xm_F RX4 44 3 12 := ⟨by decide, by decide, xm_mem 231 (by decide +kernel) rfl⟩
theorem xl_F_X4_47 : xm_F RX4 47 3 13 := ⟨by decide, by decide, xm_mem 232 (by decide +kernel) rfl⟩
theorem xl_K_X10_64 : Cond.classLink RX10 64 (xm_cR 0) ∈ xm_tb := xm_mem 262 (by decide +kernel) rfl
theorem xl_T_0 : Cond.instantiable (xm_cR 0) (xm_nf 0) ∈ xm_tb := xm_mem 264 (by decide +kernel) rfl
theorem xl_M_X10_80 : xm_L RX10 80 yX1_init cX1_init 6 none 5 := ⟨xm_mem 265 (by decide +kernel) rfl, xm_mem 48 (by decide +kernel) rfl, xm_mem 267 (by decide +kernel) rfl, by decide, by decide +kernel⟩
theorem xl_I_X1_init : Cond.instanceMethod yX1_init ∈ xm_tb ∧ yX1_init.name = "<init>" := ⟨xm_mem 266 (by decide +kernel) rfl, rfl⟩
theorem xl_O_X1_3 : Cond.methodLink RX1 3 objectInit ∈ xm_tb := xm_mem 268 (by decide +kernel) rfl
theorem xl_F_X1_50 : xm_F RX1 50 0 0 := ⟨by decide, by decide, xm_mem 269 (by decide +kernel) rfl⟩
theorem xl_F_X1_53 : xm_F RX1 53 0 1 := ⟨by decide, by decide, xm_mem 270 (by decide +kernel) rfl⟩
theorem xl_F_X1_57 : xm_F RX1 57 0 2 := ⟨by decide, by decide, xm_mem 271 (by decide +kernel) rfl⟩
theorem xl_F_X1_61 : xm_F RX1 61 0 3 := ⟨by decide, by decide, xm_mem 272 (by decide +kernel) rfl⟩
theorem xl_F_X1_65 : xm_F RX1 65 0 4 := ⟨by decide, by decide, xm_mem 273 (by decide +kernel) rfl⟩
theorem xl_F_X1_9 : xm_F RX1 9 0 5 := ⟨by decide, by decide, xm_mem 274 (by decide +kernel) rfl⟩
theorem xl_F_X1_15 : xm_F RX1 15 0 6 := ⟨by decide, by decide, xm_mem 275 (by decide +kernel) rfl⟩
theorem xl_F_X1_18 : xm_F RX1 18 0 7 := ⟨by decide, by decide, xm_mem 276 (by decide +kernel) rfl⟩
theorem xl_F_X1_21 : xm_F RX1 21 0 8 := ⟨by decide, by decide, xm_mem 277 (by decide +kernel) rfl⟩
theorem xl_F_X1_24 : xm_F RX1 24 0 9 := ⟨by decide, by decide, xm_mem 278 (by decide +kernel) rfl⟩
theorem xl_F_X1_27 : xm_F RX1 27 0 10 := ⟨by decide, by decide, xm_mem 279 (by decide +kernel) rfl⟩
theorem xl_F_X1_31 : xm_F RX1 31 0 11 := ⟨by decide, by decide, xm_mem 280 (by decide +kernel) rfl⟩
theorem xl_F_X1_35 : xm_F RX1 35 0 12 := ⟨by decide, by decide, xm_mem 281 (by decide +kernel) rfl⟩
theorem xl_F_X1_38 : xm_F RX1 38 0 13 := ⟨by decide, by decide, xm_mem 282 (by decide +kernel) rfl⟩
theorem xl_F_X1_41 : xm_F RX1 41 0 14 := ⟨by decide, by decide, xm_mem 283 (by decide +kernel) rfl⟩
theorem xl_F_X1_44 : xm_F RX1 44 0 15 := ⟨by decide, by decide, xm_mem 284 (by decide +kernel) rfl⟩
theorem xl_F_X1_47 : xm_F RX1 47 0 16 := ⟨by decide, by decide, xm_mem 285 (by decide +kernel) rfl⟩
theorem xl_F_X10_10 : xm_F RX10 10 9 0 := ⟨by decide, by decide, xm_mem 321 (by decide +kernel) rfl⟩
theorem xl_F_X10_21 : xm_F RX10 21 9 1 := ⟨by decide, by decide, xm_mem 322 (by decide +kernel) rfl⟩
theorem xl_F_X10_28 : xm_F RX10 28 9 2 := ⟨by decide, by decide, xm_mem 323 (by decide +kernel) rfl⟩
theorem xl_F_X10_35 : xm_F RX10 35 9 3 := ⟨by decide, by decide, xm_mem 324 (by decide +kernel) rfl⟩
theorem xl_F_X10_42 : xm_F RX10 42 9 4 := ⟨by decide, by decide, xm_mem 325 (by decide +kernel) rfl⟩
theorem xl_F_X10_51 : xm_F RX10 51 9 5 := ⟨by decide, by decide, xm_mem 326 (by decide +kernel) rfl⟩
theorem xl_F_X10_60 : xm_F RX10 60 9 6 := ⟨by decide, by decide, xm_mem 327 (by decide +kernel) rfl⟩
theorem xl_F_X10_66 : xm_F RX10 66 9 7 := ⟨by decide, by decide, xm_mem 328 (by decide +kernel) rfl⟩
theorem xl_F_X10_70 : xm_F RX10 70 9 8 := ⟨by decide, by decide, xm_mem 329 (by decide +kernel) rfl⟩
theorem xl_F_X10_74 : xm_F RX10 74 9 9 := ⟨by decide, by decide, xm_mem 330 (by decide +kernel) rfl⟩
theorem xl_F_X10_77 : xm_F RX10 77 9 10 := ⟨by decide, by decide, xm_mem 331 (by decide +kernel) rfl⟩
theorem xl_M_L_107 : xm_L RL 107 yX10_bond cX10_bond 1 (some .int) 0 := ⟨xm_mem 355 (by decide +kernel) rfl, xm_mem 40 (by decide +kernel) rfl, xm_mem 358 (by decide +kernel) rfl, by decide, by decide +kernel⟩
theorem xl_V_X10_bond : Cond.instanceMethod yX10_bond ∈ xm_tb ∧ Cond.selects yX10_bond.cls yX10_bond yX10_bond ∈ xm_tb := ⟨xm_mem 356 (by decide +kernel) rfl, xm_mem 357 (by decide +kernel) rfl⟩
theorem xl_M_L_131 : xm_L RL 131 yX10_person cX10_person 3 (some .int) 2 := ⟨xm_mem 359 (by decide +kernel) rfl, xm_mem 40 (by decide +kernel) rfl, xm_mem 362 (by decide +kernel) rfl, by decide, by decide +kernel⟩
theorem xl_V_X10_person : Cond.instanceMethod yX10_person ∈ xm_tb ∧ Cond.selects yX10_person.cls yX10_person yX10_person ∈ xm_tb := ⟨xm_mem 360 (by decide +kernel) rfl, xm_mem 361 (by decide +kernel) rfl⟩
theorem xl_M_X10_170 : xm_L RX10 170 yX5_has cX5_has 2 (some .boolean) 1 := ⟨xm_mem 363 (by decide +kernel) rfl, xm_mem 44 (by decide +kernel) rfl, xm_mem 366 (by decide +kernel) rfl, by decide, by decide +kernel⟩
theorem xl_V_X5_has : Cond.instanceMethod yX5_has ∈ xm_tb ∧ Cond.selects yX5_has.cls yX5_has yX5_has ∈ xm_tb := ⟨xm_mem 364 (by decide +kernel) rfl, xm_mem 365 (by decide +kernel) rfl⟩
theorem xl_M_X10_87 : xm_L RX10 87 yX10_refuse cX10_refuse 2 (some .int) 1 := ⟨xm_mem 367 (by decide +kernel) rfl, xm_mem 40 (by decide +kernel) rfl, xm_mem 370 (by decide +kernel) rfl, by decide, by decide +kernel⟩
theorem xl_V_X10_refuse : Cond.instanceMethod yX10_refuse ∈ xm_tb ∧ Cond.selects yX10_refuse.cls yX10_refuse yX10_refuse ∈ xm_tb := ⟨xm_mem 369 (by decide +kernel) rfl, xm_mem 0 (by decide +kernel) rfl⟩
theorem xl_M_X10_173 : xm_L RX10 173 yX5_isMale cX5_isMale 2 (some .boolean) 1 := ⟨xm_mem 371 (by decide +kernel) rfl, xm_mem 44 (by decide +kernel) rfl, xm_mem 374 (by decide +kernel) rfl, by decide, by decide +kernel⟩
theorem xl_V_X5_isMale : Cond.instanceMethod yX5_isMale ∈ xm_tb ∧ Cond.selects yX5_isMale.cls yX5_isMale yX5_isMale ∈ xm_tb := ⟨xm_mem 372 (by decide +kernel) rfl, xm_mem 373 (by decide +kernel) rfl⟩
theorem xl_M_X10_99 : xm_L RX10 99 yX10_accept cX10_accept 2 (some .int) 1 := ⟨xm_mem 375 (by decide +kernel) rfl, xm_mem 40 (by decide +kernel) rfl, xm_mem 378 (by decide +kernel) rfl, by decide, by decide +kernel⟩
theorem xl_V_X10_accept : Cond.instanceMethod yX10_accept ∈ xm_tb ∧ Cond.selects yX10_accept.cls yX10_accept yX10_accept ∈ xm_tb := ⟨xm_mem 377 (by decide +kernel) rfl, xm_mem 1 (by decide +kernel) rfl⟩
theorem xl_M_X10_176 : xm_L RX10 176 yX5_bornOn cX5_bornOn 2 (some .int) 1 := ⟨xm_mem 379 (by decide +kernel) rfl, xm_mem 44 (by decide +kernel) rfl, xm_mem 382 (by decide +kernel) rfl, by decide, by decide +kernel⟩
theorem xl_V_X5_bornOn : Cond.instanceMethod yX5_bornOn ∈ xm_tb ∧ Cond.selects yX5_bornOn.cls yX5_bornOn yX5_bornOn ∈ xm_tb := ⟨xm_mem 380 (by decide +kernel) rfl, xm_mem 381 (by decide +kernel) rfl⟩
theorem xl_N_X5_53 : xm_LN RX5 53 yX10_isPersonNumber RX10 cX10_isPersonNumber 1 (some .boolean) 1 := ⟨by simp [xm_nst], xm_mem 40 (by decide +kernel) rfl, xm_mem 385 (by decide +kernel) rfl, by decide, by decide +kernel⟩
theorem xl_S_X10_isPersonNumber : Cond.static yX10_isPersonNumber ∈ xm_tb := xm_mem 384 (by decide +kernel) rfl
theorem xl_M_X10_179 : xm_L RX10 179 yX5_father cX5_father 2 (some .int) 1 := ⟨xm_mem 386 (by decide +kernel) rfl, xm_mem 44 (by decide +kernel) rfl, xm_mem 389 (by decide +kernel) rfl, by decide, by decide +kernel⟩
theorem xl_V_X5_father : Cond.instanceMethod yX5_father ∈ xm_tb ∧ Cond.selects yX5_father.cls yX5_father yX5_father ∈ xm_tb := ⟨xm_mem 387 (by decide +kernel) rfl, xm_mem 388 (by decide +kernel) rfl⟩
theorem xl_M_X10_182 : xm_L RX10 182 yX5_mother cX5_mother 2 (some .int) 1 := ⟨xm_mem 390 (by decide +kernel) rfl, xm_mem 44 (by decide +kernel) rfl, xm_mem 393 (by decide +kernel) rfl, by decide, by decide +kernel⟩
theorem xl_V_X5_mother : Cond.instanceMethod yX5_mother ∈ xm_tb ∧ Cond.selects yX5_mother.cls yX5_mother yX5_mother ∈ xm_tb := ⟨xm_mem 391 (by decide +kernel) rfl, xm_mem 392 (by decide +kernel) rfl⟩
theorem xl_M_X10_185 : xm_L RX10 185 yX5_deadOn cX5_deadOn 2 (some .int) 1 := ⟨xm_mem 394 (by decide +kernel) rfl, xm_mem 44 (by decide +kernel) rfl, xm_mem 397 (by decide +kernel) rfl, by decide, by decide +kernel⟩
theorem xl_V_X5_deadOn : Cond.instanceMethod yX5_deadOn ∈ xm_tb ∧ Cond.selects yX5_deadOn.cls yX5_deadOn yX5_deadOn ∈ xm_tb := ⟨xm_mem 395 (by decide +kernel) rfl, xm_mem 396 (by decide +kernel) rfl⟩
theorem xl_M_X10_188 : xm_L RX10 188 yX2_isLegit cX2_isLegit 2 (some .boolean) 1 := ⟨xm_mem 398 (by decide +kernel) rfl, xm_mem 46 (by decide +kernel) rfl, xm_mem 401 (by decide +kernel) rfl, by decide, by decide +kernel⟩
theorem xl_V_X2_isLegit : Cond.instanceMethod yX2_isLegit ∈ xm_tb ∧ Cond.selects yX2_isLegit.cls yX2_isLegit yX2_isLegit ∈ xm_tb := ⟨xm_mem 399 (by decide +kernel) rfl, xm_mem 400 (by decide +kernel) rfl⟩
theorem xl_N_X2_94 : xm_LN RX2 94 yX10_isPersonNumber RX10 cX10_isPersonNumber 1 (some .boolean) 1 := ⟨by simp [xm_nst], xm_mem 40 (by decide +kernel) rfl, xm_mem 385 (by decide +kernel) rfl, by decide, by decide +kernel⟩
theorem xl_M_L_104 : xm_L RL 104 yX10_partner cX10_partner 3 (some .int) 2 := ⟨xm_mem 403 (by decide +kernel) rfl, xm_mem 40 (by decide +kernel) rfl, xm_mem 406 (by decide +kernel) rfl, by decide, by decide +kernel⟩
theorem xl_V_X10_partner : Cond.instanceMethod yX10_partner ∈ xm_tb ∧ Cond.selects yX10_partner.cls yX10_partner yX10_partner ∈ xm_tb := ⟨xm_mem 404 (by decide +kernel) rfl, xm_mem 405 (by decide +kernel) rfl⟩
theorem xl_M_X10_191 : xm_L RX10 191 yX10_isDay cX10_isDay 1 (some .boolean) 1 := ⟨xm_mem 407 (by decide +kernel) rfl, xm_mem 40 (by decide +kernel) rfl, xm_mem 409 (by decide +kernel) rfl, by decide, by decide +kernel⟩
theorem xl_S_X10_isDay : Cond.static yX10_isDay ∈ xm_tb := xm_mem 408 (by decide +kernel) rfl
theorem xl_C_X10_239 : Cond.constant RX10 239 (xm_J 99999) ∈ xm_tb := xm_mem 410 (by decide +kernel) rfl
theorem xl_M_X10_194 : xm_L RX10 194 yX9_otherIn cX9_otherIn 4 (some .int) 2 := ⟨xm_mem 411 (by decide +kernel) rfl, xm_mem 45 (by decide +kernel) rfl, xm_mem 414 (by decide +kernel) rfl, by decide, by decide +kernel⟩
theorem xl_V_X9_otherIn : Cond.instanceMethod yX9_otherIn ∈ xm_tb ∧ Cond.selects yX9_otherIn.cls yX9_otherIn yX9_otherIn ∈ xm_tb := ⟨xm_mem 412 (by decide +kernel) rfl, xm_mem 413 (by decide +kernel) rfl⟩
theorem xl_M_X9_70 : xm_L RX9 70 yX9_isOpen cX9_isOpen 3 (some .boolean) 2 := ⟨xm_mem 415 (by decide +kernel) rfl, xm_mem 45 (by decide +kernel) rfl, xm_mem 418 (by decide +kernel) rfl, by decide, by decide +kernel⟩
theorem xl_V_X9_isOpen : Cond.instanceMethod yX9_isOpen ∈ xm_tb ∧ Cond.selects yX9_isOpen.cls yX9_isOpen yX9_isOpen ∈ xm_tb := ⟨xm_mem 417 (by decide +kernel) rfl, xm_mem 2 (by decide +kernel) rfl⟩
theorem xl_M_L_137 : xm_L RL 137 yX10_holder cX10_holder 4 (some .int) 2 := ⟨xm_mem 419 (by decide +kernel) rfl, xm_mem 40 (by decide +kernel) rfl, xm_mem 422 (by decide +kernel) rfl, by decide, by decide +kernel⟩
theorem xl_V_X10_holder : Cond.instanceMethod yX10_holder ∈ xm_tb ∧ Cond.selects yX10_holder.cls yX10_holder yX10_holder ∈ xm_tb := ⟨xm_mem 420 (by decide +kernel) rfl, xm_mem 421 (by decide +kernel) rfl⟩
theorem xl_M_X10_201 : xm_L RX10 201 yX7_hasTitle cX7_hasTitle 2 (some .boolean) 1 := ⟨xm_mem 423 (by decide +kernel) rfl, xm_mem 43 (by decide +kernel) rfl, xm_mem 426 (by decide +kernel) rfl, by decide, by decide +kernel⟩
theorem xl_V_X7_hasTitle : Cond.instanceMethod yX7_hasTitle ∈ xm_tb ∧ Cond.selects yX7_hasTitle.cls yX7_hasTitle yX7_hasTitle ∈ xm_tb := ⟨xm_mem 424 (by decide +kernel) rfl, xm_mem 425 (by decide +kernel) rfl⟩
theorem xl_M_X7_44 : xm_L RX7 44 yX7_grantOf cX7_grantOf 3 (some (.object "HeirRoll$Entry")) 1 := ⟨xm_mem 427 (by decide +kernel) rfl, xm_mem 43 (by decide +kernel) rfl, xm_mem 430 (by decide +kernel) rfl, by decide, by decide +kernel⟩
theorem xl_V_X7_grantOf : Cond.instanceMethod yX7_grantOf ∈ xm_tb ∧ Cond.selects yX7_grantOf.cls yX7_grantOf yX7_grantOf ∈ xm_tb := ⟨xm_mem 428 (by decide +kernel) rfl, xm_mem 429 (by decide +kernel) rfl⟩
theorem xl_M_X10_204 : xm_L RX10 204 yX10_courseOf cX10_courseOf 5 (some (.object "HeirRoll$Course")) 1 := ⟨xm_mem 431 (by decide +kernel) rfl, xm_mem 40 (by decide +kernel) rfl, xm_mem 434 (by decide +kernel) rfl, by decide, by decide +kernel⟩
theorem xl_V_X10_courseOf : Cond.instanceMethod yX10_courseOf ∈ xm_tb ∧ Cond.selects yX10_courseOf.cls yX10_courseOf yX10_courseOf ∈ xm_tb := ⟨xm_mem 433 (by decide +kernel) rfl, xm_mem 3 (by decide +kernel) rfl⟩
theorem xl_M_X10_260 : xm_L RX10 260 yX1_isKnown cX1_isKnown 1 (some .boolean) 0 := ⟨xm_mem 435 (by decide +kernel) rfl, xm_mem 48 (by decide +kernel) rfl, xm_mem 438 (by decide +kernel) rfl, by decide, by decide +kernel⟩
theorem xl_V_X1_isKnown : Cond.instanceMethod yX1_isKnown ∈ xm_tb ∧ Cond.selects yX1_isKnown.cls yX1_isKnown yX1_isKnown ∈ xm_tb := ⟨xm_mem 436 (by decide +kernel) rfl, xm_mem 437 (by decide +kernel) rfl⟩
theorem xl_M_X10_263 : xm_L RX10 263 yX1_begin cX1_begin 2 (some .int) 0 := ⟨xm_mem 439 (by decide +kernel) rfl, xm_mem 48 (by decide +kernel) rfl, xm_mem 442 (by decide +kernel) rfl, by decide, by decide +kernel⟩
theorem xl_V_X1_begin : Cond.instanceMethod yX1_begin ∈ xm_tb ∧ Cond.selects yX1_begin.cls yX1_begin yX1_begin ∈ xm_tb := ⟨xm_mem 440 (by decide +kernel) rfl, xm_mem 441 (by decide +kernel) rfl⟩
theorem xl_M_X1_69 : xm_L RX1 69 yX7_grantOf cX7_grantOf 3 (some (.object "HeirRoll$Entry")) 1 := ⟨xm_mem 443 (by decide +kernel) rfl, xm_mem 43 (by decide +kernel) rfl, xm_mem 430 (by decide +kernel) rfl, by decide, by decide +kernel⟩
theorem xl_M_X1_84 : xm_L RX1 84 yX1_noteYields cX1_noteYields 3 none 0 := ⟨xm_mem 444 (by decide +kernel) rfl, xm_mem 48 (by decide +kernel) rfl, xm_mem 447 (by decide +kernel) rfl, by decide, by decide +kernel⟩
theorem xl_V_X1_noteYields : Cond.instanceMethod yX1_noteYields ∈ xm_tb ∧ Cond.selects yX1_noteYields.cls yX1_noteYields yX1_noteYields ∈ xm_tb := ⟨xm_mem 446 (by decide +kernel) rfl, xm_mem 4 (by decide +kernel) rfl⟩
theorem xl_M_X1_87 : xm_L RX1 87 yX7_size cX7_size 1 (some .int) 0 := ⟨xm_mem 448 (by decide +kernel) rfl, xm_mem 43 (by decide +kernel) rfl, xm_mem 451 (by decide +kernel) rfl, by decide, by decide +kernel⟩
theorem xl_V_X7_size : Cond.instanceMethod yX7_size ∈ xm_tb ∧ Cond.selects yX7_size.cls yX7_size yX7_size ∈ xm_tb := ⟨xm_mem 449 (by decide +kernel) rfl, xm_mem 450 (by decide +kernel) rfl⟩
theorem xl_M_X1_90 : xm_L RX1 90 yX7_standing cX7_standing 3 (some (.object "HeirRoll$Entry")) 1 := ⟨xm_mem 452 (by decide +kernel) rfl, xm_mem 43 (by decide +kernel) rfl, xm_mem 455 (by decide +kernel) rfl, by decide, by decide +kernel⟩
theorem xl_V_X7_standing : Cond.instanceMethod yX7_standing ∈ xm_tb ∧ Cond.selects yX7_standing.cls yX7_standing yX7_standing ∈ xm_tb := ⟨xm_mem 453 (by decide +kernel) rfl, xm_mem 454 (by decide +kernel) rfl⟩
theorem xl_M_X7_33 : xm_L RX7 33 yX7_taken cX7_taken 2 (some (.object "HeirRoll$Entry")) 1 := ⟨xm_mem 456 (by decide +kernel) rfl, xm_mem 43 (by decide +kernel) rfl, xm_mem 459 (by decide +kernel) rfl, by decide, by decide +kernel⟩
theorem xl_V_X7_taken : Cond.instanceMethod yX7_taken ∈ xm_tb ∧ Cond.selects yX7_taken.cls yX7_taken yX7_taken ∈ xm_tb := ⟨xm_mem 457 (by decide +kernel) rfl, xm_mem 458 (by decide +kernel) rfl⟩
theorem xl_N_X1_97 : xm_LN RX1 97 yX10_isPersonNumber RX10 cX10_isPersonNumber 1 (some .boolean) 1 := ⟨by simp [xm_nst], xm_mem 40 (by decide +kernel) rfl, xm_mem 385 (by decide +kernel) rfl, by decide, by decide +kernel⟩
theorem xl_M_X10_266 : xm_L RX10 266 yX1_goThrough cX1_goThrough 4 none 1 := ⟨xm_mem 461 (by decide +kernel) rfl, xm_mem 48 (by decide +kernel) rfl, xm_mem 464 (by decide +kernel) rfl, by decide, by decide +kernel⟩
theorem xl_V_X1_goThrough : Cond.instanceMethod yX1_goThrough ∈ xm_tb ∧ Cond.selects yX1_goThrough.cls yX1_goThrough yX1_goThrough ∈ xm_tb := ⟨xm_mem 462 (by decide +kernel) rfl, xm_mem 463 (by decide +kernel) rfl⟩
theorem xl_M_X1_105 : xm_L RX1 105 yX7_latestLossOrBack cX7_latestLossOrBack 6 (some (.object "HeirRoll$Entry")) 2 := ⟨xm_mem 465 (by decide +kernel) rfl, xm_mem 43 (by decide +kernel) rfl, xm_mem 468 (by decide +kernel) rfl, by decide, by decide +kernel⟩
theorem xl_V_X7_latestLossOrBack : Cond.instanceMethod yX7_latestLossOrBack ∈ xm_tb ∧ Cond.selects yX7_latestLossOrBack.cls yX7_latestLossOrBack yX7_latestLossOrBack ∈ xm_tb := ⟨xm_mem 466 (by decide +kernel) rfl, xm_mem 467 (by decide +kernel) rfl⟩
theorem xl_M_X7_41 : xm_L RX7 41 yX7_standing cX7_standing 3 (some (.object "HeirRoll$Entry")) 1 := ⟨xm_mem 469 (by decide +kernel) rfl, xm_mem 43 (by decide +kernel) rfl, xm_mem 455 (by decide +kernel) rfl, by decide, by decide +kernel⟩
theorem xl_M_X7_97 : xm_L RX7 97 yX3_isOfLoss cX3_isOfLoss 1 (some .boolean) 0 := ⟨xm_mem 470 (by decide +kernel) rfl, xm_mem 60 (by decide +kernel) rfl, xm_mem 473 (by decide +kernel) rfl, by decide, by decide +kernel⟩
theorem xl_V_X3_isOfLoss : Cond.instanceMethod yX3_isOfLoss ∈ xm_tb ∧ Cond.selects yX3_isOfLoss.cls yX3_isOfLoss yX3_isOfLoss ∈ xm_tb := ⟨xm_mem 471 (by decide +kernel) rfl, xm_mem 472 (by decide +kernel) rfl⟩
theorem xl_M_X1_109 : xm_L RX1 109 yX1_passOn cX1_passOn 2 none 1 := ⟨xm_mem 474 (by decide +kernel) rfl, xm_mem 48 (by decide +kernel) rfl, xm_mem 477 (by decide +kernel) rfl, by decide, by decide +kernel⟩
theorem xl_V_X1_passOn : Cond.instanceMethod yX1_passOn ∈ xm_tb ∧ Cond.selects yX1_passOn.cls yX1_passOn yX1_passOn ∈ xm_tb := ⟨xm_mem 476 (by decide +kernel) rfl, xm_mem 5 (by decide +kernel) rfl⟩
theorem xl_M_X1_134 : xm_L RX1 134 yX4_fill cX4_fill 7 none 4 := ⟨xm_mem 478 (by decide +kernel) rfl, xm_mem 47 (by decide +kernel) rfl, xm_mem 481 (by decide +kernel) rfl, by decide, by decide +kernel⟩
theorem xl_V_X4_fill : Cond.instanceMethod yX4_fill ∈ xm_tb ∧ Cond.selects yX4_fill.cls yX4_fill yX4_fill ∈ xm_tb := ⟨xm_mem 479 (by decide +kernel) rfl, xm_mem 480 (by decide +kernel) rfl⟩
theorem xl_M_X4_58 : xm_L RX4 58 yX4_orderByBirths cX4_orderByBirths 5 none 1 := ⟨xm_mem 482 (by decide +kernel) rfl, xm_mem 47 (by decide +kernel) rfl, xm_mem 485 (by decide +kernel) rfl, by decide, by decide +kernel⟩
theorem xl_V_X4_orderByBirths : Cond.instanceMethod yX4_orderByBirths ∈ xm_tb ∧ Cond.selects yX4_orderByBirths.cls yX4_orderByBirths yX4_orderByBirths ∈ xm_tb := ⟨xm_mem 484 (by decide +kernel) rfl, xm_mem 6 (by decide +kernel) rfl⟩
theorem xl_N_X4_76 : xm_LN RX4 76 yX10_isPersonNumber RX10 cX10_isPersonNumber 1 (some .boolean) 1 := ⟨by simp [xm_nst], xm_mem 40 (by decide +kernel) rfl, xm_mem 385 (by decide +kernel) rfl, by decide, by decide +kernel⟩
theorem xl_M_X4_79 : xm_L RX4 79 yX4_countBirthsOfKids cX4_countBirthsOfKids 4 none 1 := ⟨xm_mem 487 (by decide +kernel) rfl, xm_mem 47 (by decide +kernel) rfl, xm_mem 490 (by decide +kernel) rfl, by decide, by decide +kernel⟩
theorem xl_V_X4_countBirthsOfKids : Cond.instanceMethod yX4_countBirthsOfKids ∈ xm_tb ∧ Cond.selects yX4_countBirthsOfKids.cls yX4_countBirthsOfKids yX4_countBirthsOfKids ∈ xm_tb := ⟨xm_mem 489 (by decide +kernel) rfl, xm_mem 7 (by decide +kernel) rfl⟩
theorem xl_M_X4_91 : xm_L RX4 91 yX2_kidCount cX2_kidCount 2 (some .int) 1 := ⟨xm_mem 491 (by decide +kernel) rfl, xm_mem 46 (by decide +kernel) rfl, xm_mem 494 (by decide +kernel) rfl, by decide, by decide +kernel⟩
theorem xl_V_X2_kidCount : Cond.instanceMethod yX2_kidCount ∈ xm_tb ∧ Cond.selects yX2_kidCount.cls yX2_kidCount yX2_kidCount ∈ xm_tb := ⟨xm_mem 492 (by decide +kernel) rfl, xm_mem 493 (by decide +kernel) rfl⟩
theorem xl_M_X4_94 : xm_L RX4 94 yX2_kid cX2_kid 4 (some .int) 2 := ⟨xm_mem 495 (by decide +kernel) rfl, xm_mem 46 (by decide +kernel) rfl, xm_mem 498 (by decide +kernel) rfl, by decide, by decide +kernel⟩
theorem xl_V_X2_kid : Cond.instanceMethod yX2_kid ∈ xm_tb ∧ Cond.selects yX2_kid.cls yX2_kid yX2_kid ∈ xm_tb := ⟨xm_mem 496 (by decide +kernel) rfl, xm_mem 497 (by decide +kernel) rfl⟩
theorem xl_M_X4_82 : xm_L RX4 82 yX2_size cX2_size 1 (some .int) 0 := ⟨xm_mem 499 (by decide +kernel) rfl, xm_mem 46 (by decide +kernel) rfl, xm_mem 502 (by decide +kernel) rfl, by decide, by decide +kernel⟩
theorem xl_V_X2_size : Cond.instanceMethod yX2_size ∈ xm_tb ∧ Cond.selects yX2_size.cls yX2_size yX2_size ∈ xm_tb := ⟨xm_mem 500 (by decide +kernel) rfl, xm_mem 501 (by decide +kernel) rfl⟩
theorem xl_M_X4_87 : xm_L RX4 87 yX2_byAge cX2_byAge 2 (some .int) 1 := ⟨xm_mem 503 (by decide +kernel) rfl, xm_mem 46 (by decide +kernel) rfl, xm_mem 506 (by decide +kernel) rfl, by decide, by decide +kernel⟩
theorem xl_V_X2_byAge : Cond.instanceMethod yX2_byAge ∈ xm_tb ∧ Cond.selects yX2_byAge.cls yX2_byAge yX2_byAge ∈ xm_tb := ⟨xm_mem 504 (by decide +kernel) rfl, xm_mem 505 (by decide +kernel) rfl⟩
theorem xl_M_X4_62 : xm_L RX4 62 yX4_orderByBranches cX4_orderByBranches 7 none 2 := ⟨xm_mem 507 (by decide +kernel) rfl, xm_mem 47 (by decide +kernel) rfl, xm_mem 510 (by decide +kernel) rfl, by decide, by decide +kernel⟩
theorem xl_V_X4_orderByBranches : Cond.instanceMethod yX4_orderByBranches ∈ xm_tb ∧ Cond.selects yX4_orderByBranches.cls yX4_orderByBranches yX4_orderByBranches ∈ xm_tb := ⟨xm_mem 509 (by decide +kernel) rfl, xm_mem 8 (by decide +kernel) rfl⟩
theorem xl_M_X4_98 : xm_L RX4 98 yX4_pushKids cX4_pushKids 7 none 3 := ⟨xm_mem 511 (by decide +kernel) rfl, xm_mem 47 (by decide +kernel) rfl, xm_mem 514 (by decide +kernel) rfl, by decide, by decide +kernel⟩
theorem xl_V_X4_pushKids : Cond.instanceMethod yX4_pushKids ∈ xm_tb ∧ Cond.selects yX4_pushKids.cls yX4_pushKids yX4_pushKids ∈ xm_tb := ⟨xm_mem 513 (by decide +kernel) rfl, xm_mem 9 (by decide +kernel) rfl⟩
theorem xl_M_X4_72 : xm_L RX4 72 yX5_isMale cX5_isMale 2 (some .boolean) 1 := ⟨xm_mem 515 (by decide +kernel) rfl, xm_mem 44 (by decide +kernel) rfl, xm_mem 374 (by decide +kernel) rfl, by decide, by decide +kernel⟩
theorem xl_M_X4_66 : xm_L RX4 66 yX5_isAlive cX5_isAlive 3 (some .boolean) 2 := ⟨xm_mem 516 (by decide +kernel) rfl, xm_mem 44 (by decide +kernel) rfl, xm_mem 519 (by decide +kernel) rfl, by decide, by decide +kernel⟩
theorem xl_V_X5_isAlive : Cond.instanceMethod yX5_isAlive ∈ xm_tb ∧ Cond.selects yX5_isAlive.cls yX5_isAlive yX5_isAlive ∈ xm_tb := ⟨xm_mem 517 (by decide +kernel) rfl, xm_mem 518 (by decide +kernel) rfl⟩
theorem xl_M_X5_80 : xm_L RX5 80 yX5_has cX5_has 2 (some .boolean) 1 := ⟨xm_mem 520 (by decide +kernel) rfl, xm_mem 44 (by decide +kernel) rfl, xm_mem 366 (by decide +kernel) rfl, by decide, by decide +kernel⟩
theorem xl_M_X1_140 : xm_L RX1 140 yX4_size cX4_size 1 (some .int) 0 := ⟨xm_mem 521 (by decide +kernel) rfl, xm_mem 47 (by decide +kernel) rfl, xm_mem 524 (by decide +kernel) rfl, by decide, by decide +kernel⟩
theorem xl_V_X4_size : Cond.instanceMethod yX4_size ∈ xm_tb ∧ Cond.selects yX4_size.cls yX4_size yX4_size ∈ xm_tb := ⟨xm_mem 522 (by decide +kernel) rfl, xm_mem 523 (by decide +kernel) rfl⟩
theorem xl_M_X1_141 : xm_L RX1 141 yX4_stateByWrit cX4_stateByWrit 5 (some .int) 1 := ⟨xm_mem 525 (by decide +kernel) rfl, xm_mem 47 (by decide +kernel) rfl, xm_mem 528 (by decide +kernel) rfl, by decide, by decide +kernel⟩
theorem xl_V_X4_stateByWrit : Cond.instanceMethod yX4_stateByWrit ∈ xm_tb ∧ Cond.selects yX4_stateByWrit.cls yX4_stateByWrit yX4_stateByWrit ∈ xm_tb := ⟨xm_mem 526 (by decide +kernel) rfl, xm_mem 527 (by decide +kernel) rfl⟩
theorem xl_M_X4_102 : xm_L RX4 102 yX4_has cX4_has 2 (some .boolean) 1 := ⟨xm_mem 529 (by decide +kernel) rfl, xm_mem 47 (by decide +kernel) rfl, xm_mem 532 (by decide +kernel) rfl, by decide, by decide +kernel⟩
theorem xl_V_X4_has : Cond.instanceMethod yX4_has ∈ xm_tb ∧ Cond.selects yX4_has.cls yX4_has yX4_has ∈ xm_tb := ⟨xm_mem 530 (by decide +kernel) rfl, xm_mem 531 (by decide +kernel) rfl⟩
theorem xl_M_X4_105 : xm_L RX4 105 yX4_eldestSonWithLine cX4_eldestSonWithLine 4 (some .int) 1 := ⟨xm_mem 533 (by decide +kernel) rfl, xm_mem 47 (by decide +kernel) rfl, xm_mem 536 (by decide +kernel) rfl, by decide, by decide +kernel⟩
theorem xl_V_X4_eldestSonWithLine : Cond.instanceMethod yX4_eldestSonWithLine ∈ xm_tb ∧ Cond.selects yX4_eldestSonWithLine.cls yX4_eldestSonWithLine yX4_eldestSonWithLine ∈ xm_tb := ⟨xm_mem 535 (by decide +kernel) rfl, xm_mem 10 (by decide +kernel) rfl⟩
theorem xl_M_X4_111 : xm_L RX4 111 yX2_body cX2_body 2 (some .long) 1 := ⟨xm_mem 537 (by decide +kernel) rfl, xm_mem 46 (by decide +kernel) rfl, xm_mem 540 (by decide +kernel) rfl, by decide, by decide +kernel⟩
theorem xl_V_X2_body : Cond.instanceMethod yX2_body ∈ xm_tb ∧ Cond.selects yX2_body.cls yX2_body yX2_body ∈ xm_tb := ⟨xm_mem 538 (by decide +kernel) rfl, xm_mem 539 (by decide +kernel) rfl⟩
theorem xl_M_X4_108 : xm_L RX4 108 yX4_soleDaughterWithLine cX4_soleDaughterWithLine 9 (some .int) 1 := ⟨xm_mem 541 (by decide +kernel) rfl, xm_mem 47 (by decide +kernel) rfl, xm_mem 544 (by decide +kernel) rfl, by decide, by decide +kernel⟩
theorem xl_V_X4_soleDaughterWithLine : Cond.instanceMethod yX4_soleDaughterWithLine ∈ xm_tb ∧ Cond.selects yX4_soleDaughterWithLine.cls yX4_soleDaughterWithLine yX4_soleDaughterWithLine ∈ xm_tb := ⟨xm_mem 543 (by decide +kernel) rfl, xm_mem 11 (by decide +kernel) rfl⟩
theorem xl_C_X4_114 : Cond.constantLong RX4 114 (-1) ∈ xm_tb := xm_mem 545 (by decide +kernel) rfl
theorem xl_M_X4_116 : xm_L RX4 116 yX4_firstOf cX4_firstOf 4 (some .int) 1 := ⟨xm_mem 546 (by decide +kernel) rfl, xm_mem 47 (by decide +kernel) rfl, xm_mem 549 (by decide +kernel) rfl, by decide, by decide +kernel⟩
theorem xl_V_X4_firstOf : Cond.instanceMethod yX4_firstOf ∈ xm_tb ∧ Cond.selects yX4_firstOf.cls yX4_firstOf yX4_firstOf ∈ xm_tb := ⟨xm_mem 548 (by decide +kernel) rfl, xm_mem 12 (by decide +kernel) rfl⟩
theorem xl_M_X1_145 : xm_L RX1 145 yX4_at cX4_at 2 (some .int) 1 := ⟨xm_mem 550 (by decide +kernel) rfl, xm_mem 47 (by decide +kernel) rfl, xm_mem 553 (by decide +kernel) rfl, by decide, by decide +kernel⟩
theorem xl_V_X4_at : Cond.instanceMethod yX4_at ∈ xm_tb ∧ Cond.selects yX4_at.cls yX4_at yX4_at ∈ xm_tb := ⟨xm_mem 551 (by decide +kernel) rfl, xm_mem 552 (by decide +kernel) rfl⟩
theorem xl_M_X1_113 : xm_L RX1 113 yX1_mustPass cX1_mustPass 2 (some .boolean) 1 := ⟨xm_mem 554 (by decide +kernel) rfl, xm_mem 48 (by decide +kernel) rfl, xm_mem 557 (by decide +kernel) rfl, by decide, by decide +kernel⟩
theorem xl_V_X1_mustPass : Cond.instanceMethod yX1_mustPass ∈ xm_tb ∧ Cond.selects yX1_mustPass.cls yX1_mustPass yX1_mustPass ∈ xm_tb := ⟨xm_mem 556 (by decide +kernel) rfl, xm_mem 13 (by decide +kernel) rfl⟩
theorem xl_M_X1_125 : xm_L RX1 125 yX5_isAlive cX5_isAlive 3 (some .boolean) 2 := ⟨xm_mem 558 (by decide +kernel) rfl, xm_mem 44 (by decide +kernel) rfl, xm_mem 519 (by decide +kernel) rfl, by decide, by decide +kernel⟩
theorem xl_M_X1_131 : xm_L RX1 131 yX1_hasYielded cX1_hasYielded 3 (some .boolean) 2 := ⟨xm_mem 559 (by decide +kernel) rfl, xm_mem 48 (by decide +kernel) rfl, xm_mem 562 (by decide +kernel) rfl, by decide, by decide +kernel⟩
theorem xl_V_X1_hasYielded : Cond.instanceMethod yX1_hasYielded ∈ xm_tb ∧ Cond.selects yX1_hasYielded.cls yX1_hasYielded yX1_hasYielded ∈ xm_tb := ⟨xm_mem 561 (by decide +kernel) rfl, xm_mem 14 (by decide +kernel) rfl⟩
theorem xl_M_X1_116 : xm_L RX1 116 yX1_giveToChildBornLate cX1_giveToChildBornLate 6 none 1 := ⟨xm_mem 563 (by decide +kernel) rfl, xm_mem 48 (by decide +kernel) rfl, xm_mem 566 (by decide +kernel) rfl, by decide, by decide +kernel⟩
theorem xl_V_X1_giveToChildBornLate : Cond.instanceMethod yX1_giveToChildBornLate ∈ xm_tb ∧ Cond.selects yX1_giveToChildBornLate.cls yX1_giveToChildBornLate yX1_giveToChildBornLate ∈ xm_tb := ⟨xm_mem 565 (by decide +kernel) rfl, xm_mem 15 (by decide +kernel) rfl⟩
theorem xl_M_X1_148 : xm_L RX1 148 yX4_placeOf cX4_placeOf 3 (some .int) 1 := ⟨xm_mem 567 (by decide +kernel) rfl, xm_mem 47 (by decide +kernel) rfl, xm_mem 570 (by decide +kernel) rfl, by decide, by decide +kernel⟩
theorem xl_V_X4_placeOf : Cond.instanceMethod yX4_placeOf ∈ xm_tb ∧ Cond.selects yX4_placeOf.cls yX4_placeOf yX4_placeOf ∈ xm_tb := ⟨xm_mem 568 (by decide +kernel) rfl, xm_mem 569 (by decide +kernel) rfl⟩
theorem xl_M_X1_151 : xm_L RX1 151 yX5_bornOn cX5_bornOn 2 (some .int) 1 := ⟨xm_mem 571 (by decide +kernel) rfl, xm_mem 44 (by decide +kernel) rfl, xm_mem 382 (by decide +kernel) rfl, by decide, by decide +kernel⟩
theorem xl_M_X1_154 : xm_L RX1 154 yX2_isLegit cX2_isLegit 2 (some .boolean) 1 := ⟨xm_mem 572 (by decide +kernel) rfl, xm_mem 46 (by decide +kernel) rfl, xm_mem 401 (by decide +kernel) rfl, by decide, by decide +kernel⟩
theorem xl_M_X1_159 : xm_L RX1 159 yX5_father cX5_father 2 (some .int) 1 := ⟨xm_mem 573 (by decide +kernel) rfl, xm_mem 44 (by decide +kernel) rfl, xm_mem 389 (by decide +kernel) rfl, by decide, by decide +kernel⟩
theorem xl_M_X1_162 : xm_L RX1 162 yX5_deadOn cX5_deadOn 2 (some .int) 1 := ⟨xm_mem 574 (by decide +kernel) rfl, xm_mem 44 (by decide +kernel) rfl, xm_mem 397 (by decide +kernel) rfl, by decide, by decide +kernel⟩
theorem xl_M_X1_119 : xm_L RX1 119 yX1_obeyCall cX1_obeyCall 4 none 1 := ⟨xm_mem 575 (by decide +kernel) rfl, xm_mem 48 (by decide +kernel) rfl, xm_mem 578 (by decide +kernel) rfl, by decide, by decide +kernel⟩
theorem xl_V_X1_obeyCall : Cond.instanceMethod yX1_obeyCall ∈ xm_tb ∧ Cond.selects yX1_obeyCall.cls yX1_obeyCall yX1_obeyCall ∈ xm_tb := ⟨xm_mem 577 (by decide +kernel) rfl, xm_mem 16 (by decide +kernel) rfl⟩
theorem xl_M_X1_165 : xm_L RX1 165 yX4_has cX4_has 2 (some .boolean) 1 := ⟨xm_mem 579 (by decide +kernel) rfl, xm_mem 47 (by decide +kernel) rfl, xm_mem 532 (by decide +kernel) rfl, by decide, by decide +kernel⟩
theorem xl_M_X1_122 : xm_L RX1 122 yX1_note cX1_note 2 none 1 := ⟨xm_mem 580 (by decide +kernel) rfl, xm_mem 48 (by decide +kernel) rfl, xm_mem 583 (by decide +kernel) rfl, by decide, by decide +kernel⟩
theorem xl_V_X1_note : Cond.instanceMethod yX1_note ∈ xm_tb ∧ Cond.selects yX1_note.cls yX1_note yX1_note ∈ xm_tb := ⟨xm_mem 582 (by decide +kernel) rfl, xm_mem 17 (by decide +kernel) rfl⟩
theorem xl_M_X10_269 : xm_L RX10 269 yX1_nextDay cX1_nextDay 5 (some .int) 1 := ⟨xm_mem 584 (by decide +kernel) rfl, xm_mem 48 (by decide +kernel) rfl, xm_mem 587 (by decide +kernel) rfl, by decide, by decide +kernel⟩
theorem xl_V_X1_nextDay : Cond.instanceMethod yX1_nextDay ∈ xm_tb ∧ Cond.selects yX1_nextDay.cls yX1_nextDay yX1_nextDay ∈ xm_tb := ⟨xm_mem 585 (by decide +kernel) rfl, xm_mem 586 (by decide +kernel) rfl⟩
theorem xl_M_X1_101 : xm_L RX1 101 yX1_couldMove cX1_couldMove 2 (some .boolean) 1 := ⟨xm_mem 588 (by decide +kernel) rfl, xm_mem 48 (by decide +kernel) rfl, xm_mem 591 (by decide +kernel) rfl, by decide, by decide +kernel⟩
theorem xl_V_X1_couldMove : Cond.instanceMethod yX1_couldMove ∈ xm_tb ∧ Cond.selects yX1_couldMove.cls yX1_couldMove yX1_couldMove ∈ xm_tb := ⟨xm_mem 590 (by decide +kernel) rfl, xm_mem 18 (by decide +kernel) rfl⟩
theorem xl_M_X10_208 : xm_L RX10 208 yX1_stepOn cX1_stepOn 4 (some .int) 1 := ⟨xm_mem 592 (by decide +kernel) rfl, xm_mem 48 (by decide +kernel) rfl, xm_mem 595 (by decide +kernel) rfl, by decide, by decide +kernel⟩
theorem xl_V_X1_stepOn : Cond.instanceMethod yX1_stepOn ∈ xm_tb ∧ Cond.selects yX1_stepOn.cls yX1_stepOn yX1_stepOn ∈ xm_tb := ⟨xm_mem 593 (by decide +kernel) rfl, xm_mem 594 (by decide +kernel) rfl⟩
theorem xl_M_X10_211 : xm_L RX10 211 yX1_state cX1_state 2 (some .int) 1 := ⟨xm_mem 596 (by decide +kernel) rfl, xm_mem 48 (by decide +kernel) rfl, xm_mem 599 (by decide +kernel) rfl, by decide, by decide +kernel⟩
theorem xl_V_X1_state : Cond.instanceMethod yX1_state ∈ xm_tb ∧ Cond.selects yX1_state.cls yX1_state yX1_state ∈ xm_tb := ⟨xm_mem 597 (by decide +kernel) rfl, xm_mem 598 (by decide +kernel) rfl⟩
theorem xl_M_X1_168 : xm_L RX1 168 yX1_isStep cX1_isStep 2 (some .boolean) 1 := ⟨xm_mem 600 (by decide +kernel) rfl, xm_mem 48 (by decide +kernel) rfl, xm_mem 603 (by decide +kernel) rfl, by decide, by decide +kernel⟩
theorem xl_V_X1_isStep : Cond.instanceMethod yX1_isStep ∈ xm_tb ∧ Cond.selects yX1_isStep.cls yX1_isStep yX1_isStep ∈ xm_tb := ⟨xm_mem 602 (by decide +kernel) rfl, xm_mem 19 (by decide +kernel) rfl⟩
theorem xl_M_L_140 : xm_L RL 140 yX10_since cX10_since 4 (some .int) 2 := ⟨xm_mem 604 (by decide +kernel) rfl, xm_mem 40 (by decide +kernel) rfl, xm_mem 607 (by decide +kernel) rfl, by decide, by decide +kernel⟩
theorem xl_V_X10_since : Cond.instanceMethod yX10_since ∈ xm_tb ∧ Cond.selects yX10_since.cls yX10_since yX10_since ∈ xm_tb := ⟨xm_mem 605 (by decide +kernel) rfl, xm_mem 606 (by decide +kernel) rfl⟩
theorem xl_M_X10_214 : xm_L RX10 214 yX1_firstDay cX1_firstDay 2 (some .int) 1 := ⟨xm_mem 608 (by decide +kernel) rfl, xm_mem 48 (by decide +kernel) rfl, xm_mem 611 (by decide +kernel) rfl, by decide, by decide +kernel⟩
theorem xl_V_X1_firstDay : Cond.instanceMethod yX1_firstDay ∈ xm_tb ∧ Cond.selects yX1_firstDay.cls yX1_firstDay yX1_firstDay ∈ xm_tb := ⟨xm_mem 609 (by decide +kernel) rfl, xm_mem 610 (by decide +kernel) rfl⟩
theorem xl_M_L_124 : xm_L RL 124 yX10_line cX10_line 4 (some .int) 3 := ⟨xm_mem 612 (by decide +kernel) rfl, xm_mem 40 (by decide +kernel) rfl, xm_mem 615 (by decide +kernel) rfl, by decide, by decide +kernel⟩
theorem xl_V_X10_line : Cond.instanceMethod yX10_line ∈ xm_tb ∧ Cond.selects yX10_line.cls yX10_line yX10_line ∈ xm_tb := ⟨xm_mem 613 (by decide +kernel) rfl, xm_mem 614 (by decide +kernel) rfl⟩
theorem xl_M_X10_217 : xm_L RX10 217 yX1_lineUpOn cX1_lineUpOn 3 none 1 := ⟨xm_mem 616 (by decide +kernel) rfl, xm_mem 48 (by decide +kernel) rfl, xm_mem 619 (by decide +kernel) rfl, by decide, by decide +kernel⟩
theorem xl_V_X1_lineUpOn : Cond.instanceMethod yX1_lineUpOn ∈ xm_tb ∧ Cond.selects yX1_lineUpOn.cls yX1_lineUpOn yX1_lineUpOn ∈ xm_tb := ⟨xm_mem 617 (by decide +kernel) rfl, xm_mem 618 (by decide +kernel) rfl⟩
theorem xl_M_X1_171 : xm_L RX1 171 yX1_stepOn cX1_stepOn 4 (some .int) 1 := ⟨xm_mem 620 (by decide +kernel) rfl, xm_mem 48 (by decide +kernel) rfl, xm_mem 595 (by decide +kernel) rfl, by decide, by decide +kernel⟩
theorem xl_M_X10_220 : xm_L RX10 220 yX4_size cX4_size 1 (some .int) 0 := ⟨xm_mem 621 (by decide +kernel) rfl, xm_mem 47 (by decide +kernel) rfl, xm_mem 524 (by decide +kernel) rfl, by decide, by decide +kernel⟩
theorem xl_M_X10_221 : xm_L RX10 221 yX4_at cX4_at 2 (some .int) 1 := ⟨xm_mem 622 (by decide +kernel) rfl, xm_mem 47 (by decide +kernel) rfl, xm_mem 553 (by decide +kernel) rfl, by decide, by decide +kernel⟩
theorem xl_M_L_128 : xm_L RL 128 yX10_rank cX10_rank 4 (some .int) 3 := ⟨xm_mem 623 (by decide +kernel) rfl, xm_mem 40 (by decide +kernel) rfl, xm_mem 626 (by decide +kernel) rfl, by decide, by decide +kernel⟩
theorem xl_V_X10_rank : Cond.instanceMethod yX10_rank ∈ xm_tb ∧ Cond.selects yX10_rank.cls yX10_rank yX10_rank ∈ xm_tb := ⟨xm_mem 624 (by decide +kernel) rfl, xm_mem 625 (by decide +kernel) rfl⟩
theorem xl_M_X10_224 : xm_L RX10 224 yX4_placeOf cX4_placeOf 3 (some .int) 1 := ⟨xm_mem 627 (by decide +kernel) rfl, xm_mem 47 (by decide +kernel) rfl, xm_mem 570 (by decide +kernel) rfl, by decide, by decide +kernel⟩
theorem xl_M_L_134 : xm_L RL 134 yX10_tenures cX10_tenures 2 (some .int) 1 := ⟨xm_mem 628 (by decide +kernel) rfl, xm_mem 40 (by decide +kernel) rfl, xm_mem 631 (by decide +kernel) rfl, by decide, by decide +kernel⟩
theorem xl_V_X10_tenures : Cond.instanceMethod yX10_tenures ∈ xm_tb ∧ Cond.selects yX10_tenures.cls yX10_tenures yX10_tenures ∈ xm_tb := ⟨xm_mem 629 (by decide +kernel) rfl, xm_mem 630 (by decide +kernel) rfl⟩
theorem xl_M_X10_233 : xm_L RX10 233 yX1_countTenures cX1_countTenures 3 (some .int) 0 := ⟨xm_mem 632 (by decide +kernel) rfl, xm_mem 48 (by decide +kernel) rfl, xm_mem 635 (by decide +kernel) rfl, by decide, by decide +kernel⟩
theorem xl_V_X1_countTenures : Cond.instanceMethod yX1_countTenures ∈ xm_tb ∧ Cond.selects yX1_countTenures.cls yX1_countTenures yX1_countTenures ∈ xm_tb := ⟨xm_mem 633 (by decide +kernel) rfl, xm_mem 634 (by decide +kernel) rfl⟩
theorem xl_M_L_144 : xm_L RL 144 yX10_tenure cX10_tenure 6 (some .int) 3 := ⟨xm_mem 636 (by decide +kernel) rfl, xm_mem 40 (by decide +kernel) rfl, xm_mem 639 (by decide +kernel) rfl, by decide, by decide +kernel⟩
theorem xl_V_X10_tenure : Cond.instanceMethod yX10_tenure ∈ xm_tb ∧ Cond.selects yX10_tenure.cls yX10_tenure yX10_tenure ∈ xm_tb := ⟨xm_mem 637 (by decide +kernel) rfl, xm_mem 638 (by decide +kernel) rfl⟩
theorem xl_M_X10_236 : xm_L RX10 236 yX1_stepOfTenure cX1_stepOfTenure 4 (some .int) 1 := ⟨xm_mem 640 (by decide +kernel) rfl, xm_mem 48 (by decide +kernel) rfl, xm_mem 643 (by decide +kernel) rfl, by decide, by decide +kernel⟩
theorem xl_V_X1_stepOfTenure : Cond.instanceMethod yX1_stepOfTenure ∈ xm_tb ∧ Cond.selects yX1_stepOfTenure.cls yX1_stepOfTenure yX1_stepOfTenure ∈ xm_tb := ⟨xm_mem 641 (by decide +kernel) rfl, xm_mem 642 (by decide +kernel) rfl⟩
theorem xl_M_L_120 : xm_L RL 120 yX10_status cX10_status 1 (some .int) 0 := ⟨xm_mem 644 (by decide +kernel) rfl, xm_mem 40 (by decide +kernel) rfl, xm_mem 647 (by decide +kernel) rfl, by decide, by decide +kernel⟩
theorem xl_V_X10_status : Cond.instanceMethod yX10_status ∈ xm_tb ∧ Cond.selects yX10_status.cls yX10_status yX10_status ∈ xm_tb := ⟨xm_mem 645 (by decide +kernel) rfl, xm_mem 646 (by decide +kernel) rfl⟩
theorem xl_M_L_99 : xm_L RL 99 yL_low cL_low 2 (some .int) 2 := ⟨xm_mem 648 (by decide +kernel) rfl, xm_mem 39 (by decide +kernel) rfl, xm_mem 650 (by decide +kernel) rfl, by decide, by decide +kernel⟩
theorem xl_S_L_low : Cond.static yL_low ∈ xm_tb := xm_mem 649 (by decide +kernel) rfl
theorem xl_C_L_7 : Cond.constant RL 7 (xm_J 2147483647) ∈ xm_tb := xm_mem 651 (by decide +kernel) rfl
theorem xl_M_L_95 : xm_L RL 95 yL_cell cL_cell 2 (some .int) 2 := ⟨xm_mem 652 (by decide +kernel) rfl, xm_mem 39 (by decide +kernel) rfl, xm_mem 654 (by decide +kernel) rfl, by decide, by decide +kernel⟩
theorem xl_S_L_cell : Cond.static yL_cell ∈ xm_tb := xm_mem 653 (by decide +kernel) rfl
theorem xl_C_L_8 : Cond.constant RL 8 (xm_J 790386105) ∈ xm_tb := xm_mem 655 (by decide +kernel) rfl
theorem xl_M_L_85 : xm_L RL 85 yL_tell cL_tell 3 (some .int) 2 := ⟨xm_mem 656 (by decide +kernel) rfl, xm_mem 39 (by decide +kernel) rfl, xm_mem 658 (by decide +kernel) rfl, by decide, by decide +kernel⟩
theorem xl_S_L_tell : Cond.static yL_tell ∈ xm_tb := xm_mem 657 (by decide +kernel) rfl
theorem xl_M_L_9 : xm_L RL 9 yJ4_length_8abf5 cJ4_length_8abf5 1 (some .int) 0 := ⟨xm_mem 659 (by decide +kernel) rfl, xm_mem 50 (by decide +kernel) rfl, xm_mem 662 (by decide +kernel) rfl, by decide, by decide +kernel⟩
theorem xl_V_J4_length_8abf5 : Cond.instanceMethod yJ4_length_8abf5 ∈ xm_tb ∧ Cond.selects yJ4_length_8abf5.cls yJ4_length_8abf5 yJ4_length_8abf5 ∈ xm_tb := ⟨xm_mem 660 (by decide +kernel) rfl, xm_mem 661 (by decide +kernel) rfl⟩
theorem xl_M_J4_343 : xm_L RJ4 343 yJ5_length_8abf5 cJ5_length_8abf5 1 (some .int) 0 := ⟨xm_mem 663 (by decide +kernel) rfl, xm_mem 49 (by decide +kernel) rfl, xm_mem 666 (by decide +kernel) rfl, by decide, by decide +kernel⟩
theorem xl_SU : Cond.superclass RJ4 RJ5 ∈ xm_tb := xm_mem 664 (by decide +kernel) rfl
theorem xl_I_J5_length_8abf5 : Cond.instanceMethod yJ5_length_8abf5 ∈ xm_tb := xm_mem 665 (by decide +kernel) rfl
theorem xl_M_L_25 : xm_L RL 25 yL_four cL_four 2 (some .int) 2 := ⟨xm_mem 667 (by decide +kernel) rfl, xm_mem 39 (by decide +kernel) rfl, xm_mem 669 (by decide +kernel) rfl, by decide, by decide +kernel⟩
theorem xl_S_L_four : Cond.static yL_four ∈ xm_tb := xm_mem 668 (by decide +kernel) rfl
theorem xl_M_L_19 : xm_L RL 19 yL_at cL_at 2 (some .int) 2 := ⟨xm_mem 670 (by decide +kernel) rfl, xm_mem 39 (by decide +kernel) rfl, xm_mem 672 (by decide +kernel) rfl, by decide, by decide +kernel⟩
theorem xl_S_L_at : Cond.static yL_at ∈ xm_tb := xm_mem 671 (by decide +kernel) rfl
theorem xl_M_L_15 : xm_L RL 15 yJ4_charAt_5068e cJ4_charAt_5068e 2 (some .char) 1 := ⟨xm_mem 673 (by decide +kernel) rfl, xm_mem 50 (by decide +kernel) rfl, xm_mem 676 (by decide +kernel) rfl, by decide, by decide +kernel⟩
theorem xl_V_J4_charAt_5068e : Cond.instanceMethod yJ4_charAt_5068e ∈ xm_tb ∧ Cond.selects yJ4_charAt_5068e.cls yJ4_charAt_5068e yJ4_charAt_5068e ∈ xm_tb := ⟨xm_mem 674 (by decide +kernel) rfl, xm_mem 675 (by decide +kernel) rfl⟩
theorem xl_M_J4_329 : xm_L RJ4 329 yJ5_charAt_5068e cJ5_charAt_5068e 5 (some .char) 1 := ⟨xm_mem 677 (by decide +kernel) rfl, xm_mem 49 (by decide +kernel) rfl, xm_mem 679 (by decide +kernel) rfl, by decide, by decide +kernel⟩
theorem xl_I_J5_charAt_5068e : Cond.instanceMethod yJ5_charAt_5068e ∈ xm_tb := xm_mem 678 (by decide +kernel) rfl
theorem xl_M_J5_138 : xm_L RJ5 138 yJ9_min_7cf53 cJ9_min_7cf53 2 (some .int) 2 := ⟨xm_mem 680 (by decide +kernel) rfl, xm_mem 54 (by decide +kernel) rfl, xm_mem 682 (by decide +kernel) rfl, by decide, by decide +kernel⟩
theorem xl_S_J9_min_7cf53 : Cond.static yJ9_min_7cf53 ∈ xm_tb := xm_mem 681 (by decide +kernel) rfl
theorem xl_M_J5_144 : xm_L RJ5 144 yJ0_checkIndex_df160 cJ0_checkIndex_df160 2 none 2 := ⟨xm_mem 683 (by decide +kernel) rfl, xm_mem 51 (by decide +kernel) rfl, xm_mem 685 (by decide +kernel) rfl, by decide, by decide +kernel⟩
theorem xl_S_J0_checkIndex_df160 : Cond.static yJ0_checkIndex_df160 ∈ xm_tb := xm_mem 684 (by decide +kernel) rfl
theorem xl_M_J0_1059 : xm_L RJ0 1059 yJ3_checkIndex_8e157 cJ3_checkIndex_8e157 3 (some .int) 3 := ⟨xm_mem 688 (by decide +kernel) rfl, xm_mem 57 (by decide +kernel) rfl, xm_mem 690 (by decide +kernel) rfl, by decide, by decide +kernel⟩
theorem xl_S_J3_checkIndex_8e157 : Cond.static yJ3_checkIndex_8e157 ∈ xm_tb := xm_mem 689 (by decide +kernel) rfl
theorem xl_M_J5_148 : xm_L RJ5 148 yJ2_getChar_3b067 cJ2_getChar_3b067 2 (some .char) 2 := ⟨xm_mem 691 (by decide +kernel) rfl, xm_mem 52 (by decide +kernel) rfl, xm_mem 693 (by decide +kernel) rfl, by decide, by decide +kernel⟩
theorem xl_S_J2_getChar_3b067 : Cond.static yJ2_getChar_3b067 ∈ xm_tb := xm_mem 692 (by decide +kernel) rfl
theorem xl_M_J2_48 : xm_L RJ2 48 yJ2_length_9d52b cJ2_length_9d52b 1 (some .int) 1 := ⟨xm_mem 696 (by decide +kernel) rfl, xm_mem 52 (by decide +kernel) rfl, xm_mem 698 (by decide +kernel) rfl, by decide, by decide +kernel⟩
theorem xl_S_J2_length_9d52b : Cond.static yJ2_length_9d52b ∈ xm_tb := xm_mem 697 (by decide +kernel) rfl
theorem xl_M_L_28 : xm_L RL 28 yX10_feed cX10_feed 6 (some .int) 5 := ⟨xm_mem 703 (by decide +kernel) rfl, xm_mem 40 (by decide +kernel) rfl, xm_mem 706 (by decide +kernel) rfl, by decide, by decide +kernel⟩
theorem xl_V_X10_feed : Cond.instanceMethod yX10_feed ∈ xm_tb ∧ Cond.selects yX10_feed.cls yX10_feed yX10_feed ∈ xm_tb := ⟨xm_mem 704 (by decide +kernel) rfl, xm_mem 705 (by decide +kernel) rfl⟩
theorem xl_M_X10_83 : xm_L RX10 83 yX8_hasRoomFor cX8_hasRoomFor 2 (some .boolean) 1 := ⟨xm_mem 707 (by decide +kernel) rfl, xm_mem 41 (by decide +kernel) rfl, xm_mem 710 (by decide +kernel) rfl, by decide, by decide +kernel⟩
theorem xl_V_X8_hasRoomFor : Cond.instanceMethod yX8_hasRoomFor ∈ xm_tb ∧ Cond.selects yX8_hasRoomFor.cls yX8_hasRoomFor yX8_hasRoomFor ∈ xm_tb := ⟨xm_mem 708 (by decide +kernel) rfl, xm_mem 709 (by decide +kernel) rfl⟩
theorem xl_M_X10_91 : xm_L RX10 91 yX8_add cX8_add 3 none 1 := ⟨xm_mem 711 (by decide +kernel) rfl, xm_mem 41 (by decide +kernel) rfl, xm_mem 714 (by decide +kernel) rfl, by decide, by decide +kernel⟩
theorem xl_V_X8_add : Cond.instanceMethod yX8_add ∈ xm_tb ∧ Cond.selects yX8_add.cls yX8_add yX8_add ∈ xm_tb := ⟨xm_mem 712 (by decide +kernel) rfl, xm_mem 713 (by decide +kernel) rfl⟩
theorem xl_M_X10_95 : xm_L RX10 95 yX8_size cX8_size 1 (some .int) 0 := ⟨xm_mem 715 (by decide +kernel) rfl, xm_mem 41 (by decide +kernel) rfl, xm_mem 718 (by decide +kernel) rfl, by decide, by decide +kernel⟩
theorem xl_V_X8_size : Cond.instanceMethod yX8_size ∈ xm_tb ∧ Cond.selects yX8_size.cls yX8_size yX8_size ∈ xm_tb := ⟨xm_mem 716 (by decide +kernel) rfl, xm_mem 717 (by decide +kernel) rfl⟩
theorem xl_M_L_34 : xm_L RL 34 yX10_end cX10_end 2 (some .int) 1 := ⟨xm_mem 719 (by decide +kernel) rfl, xm_mem 40 (by decide +kernel) rfl, xm_mem 722 (by decide +kernel) rfl, by decide, by decide +kernel⟩
theorem xl_V_X10_end : Cond.instanceMethod yX10_end ∈ xm_tb ∧ Cond.selects yX10_end.cls yX10_end yX10_end ∈ xm_tb := ⟨xm_mem 720 (by decide +kernel) rfl, xm_mem 721 (by decide +kernel) rfl⟩
theorem xl_M_X10_102 : xm_L RX10 102 yX8_keep cX8_keep 2 none 1 := ⟨xm_mem 723 (by decide +kernel) rfl, xm_mem 41 (by decide +kernel) rfl, xm_mem 726 (by decide +kernel) rfl, by decide, by decide +kernel⟩
theorem xl_V_X8_keep : Cond.instanceMethod yX8_keep ∈ xm_tb ∧ Cond.selects yX8_keep.cls yX8_keep yX8_keep ∈ xm_tb := ⟨xm_mem 724 (by decide +kernel) rfl, xm_mem 725 (by decide +kernel) rfl⟩
theorem xl_M_L_38 : xm_L RL 38 yJ4_setLength_d00df cJ4_setLength_d00df 2 none 1 := ⟨xm_mem 727 (by decide +kernel) rfl, xm_mem 50 (by decide +kernel) rfl, xm_mem 730 (by decide +kernel) rfl, by decide, by decide +kernel⟩
theorem xl_V_J4_setLength_d00df : Cond.instanceMethod yJ4_setLength_d00df ∈ xm_tb ∧ Cond.selects yJ4_setLength_d00df.cls yJ4_setLength_d00df yJ4_setLength_d00df ∈ xm_tb := ⟨xm_mem 728 (by decide +kernel) rfl, xm_mem 729 (by decide +kernel) rfl⟩
theorem xl_M_J4_333 : xm_L RJ4 333 yJ5_setLength_d00df cJ5_setLength_d00df 2 none 1 := ⟨xm_mem 731 (by decide +kernel) rfl, xm_mem 49 (by decide +kernel) rfl, xm_mem 733 (by decide +kernel) rfl, by decide, by decide +kernel⟩
theorem xl_I_J5_setLength_d00df : Cond.instanceMethod yJ5_setLength_d00df ∈ xm_tb := xm_mem 732 (by decide +kernel) rfl
theorem xl_M_J5_100 : xm_L RJ5 100 yJ5_ensureCapacityInternal_d00df cJ5_ensureCapacityInternal_d00df 3 none 1 := ⟨xm_mem 734 (by decide +kernel) rfl, xm_mem 49 (by decide +kernel) rfl, xm_mem 737 (by decide +kernel) rfl, by decide, by decide +kernel⟩
theorem xl_I_J5_ensureCapacityInternal_d00df : Cond.instanceMethod yJ5_ensureCapacityInternal_d00df ∈ xm_tb := xm_mem 736 (by decide +kernel) rfl
theorem xl_M_J5_104 : xm_L RJ5 104 yJ5_newCapacity_0f7a4 cJ5_newCapacity_0f7a4 6 (some .int) 1 := ⟨xm_mem 738 (by decide +kernel) rfl, xm_mem 49 (by decide +kernel) rfl, xm_mem 741 (by decide +kernel) rfl, by decide, by decide +kernel⟩
theorem xl_I_J5_newCapacity_0f7a4 : Cond.instanceMethod yJ5_newCapacity_0f7a4 ∈ xm_tb := xm_mem 740 (by decide +kernel) rfl
theorem xl_M_J5_114 : xm_L RJ5 114 yJ8_newLength_cabcc cJ8_newLength_cabcc 4 (some .int) 3 := ⟨xm_mem 742 (by decide +kernel) rfl, xm_mem 53 (by decide +kernel) rfl, xm_mem 744 (by decide +kernel) rfl, by decide, by decide +kernel⟩
theorem xl_S_J8_newLength_cabcc : Cond.static yJ8_newLength_cabcc ∈ xm_tb := xm_mem 743 (by decide +kernel) rfl
theorem xl_M_J8_194 : xm_L RJ8 194 yJ9_max_7cf53 cJ9_max_7cf53 2 (some .int) 2 := ⟨xm_mem 745 (by decide +kernel) rfl, xm_mem 54 (by decide +kernel) rfl, xm_mem 747 (by decide +kernel) rfl, by decide, by decide +kernel⟩
theorem xl_S_J9_max_7cf53 : Cond.static yJ9_max_7cf53 ∈ xm_tb := xm_mem 746 (by decide +kernel) rfl
theorem xl_C_J8_200 : Cond.constant RJ8 200 (xm_J 2147483639) ∈ xm_tb := xm_mem 748 (by decide +kernel) rfl
theorem xl_M_J8_201 : xm_L RJ8 201 yJ8_hugeLength_7cf53 cJ8_hugeLength_7cf53 3 (some .int) 2 := ⟨xm_mem 749 (by decide +kernel) rfl, xm_mem 53 (by decide +kernel) rfl, xm_mem 751 (by decide +kernel) rfl, by decide, by decide +kernel⟩
theorem xl_S_J8_hugeLength_7cf53 : Cond.static yJ8_hugeLength_7cf53 ∈ xm_tb := xm_mem 750 (by decide +kernel) rfl
theorem xl_C_J5_39 : Cond.constant RJ5 39 (xm_J 2147483647) ∈ xm_tb := xm_mem 752 (by decide +kernel) rfl
theorem xl_M_J5_108 : xm_L RJ5 108 yJ7_copyOf_9075b cJ7_copyOf_9075b 3 (some (.array .byte)) 2 := ⟨xm_mem 753 (by decide +kernel) rfl, xm_mem 55 (by decide +kernel) rfl, xm_mem 755 (by decide +kernel) rfl, by decide, by decide +kernel⟩
theorem xl_S_J7_copyOf_9075b : Cond.static yJ7_copyOf_9075b ∈ xm_tb := xm_mem 754 (by decide +kernel) rfl
theorem xl_M_J7_304 : xm_L RJ7 304 yJ9_min_7cf53 cJ9_min_7cf53 2 (some .int) 2 := ⟨xm_mem 763 (by decide +kernel) rfl, xm_mem 54 (by decide +kernel) rfl, xm_mem 682 (by decide +kernel) rfl, by decide, by decide +kernel⟩
theorem xl_M_J5_83 : xm_L RJ5 83 yJ5_isLatin1_aae02 cJ5_isLatin1_aae02 1 (some .boolean) 0 := ⟨xm_mem 767 (by decide +kernel) rfl, xm_mem 49 (by decide +kernel) rfl, xm_mem 771 (by decide +kernel) rfl, by decide, by decide +kernel⟩
theorem xl_I_J5_isLatin1_aae02 : Cond.instanceMethod yJ5_isLatin1_aae02 ∈ xm_tb := xm_mem 768 (by decide +kernel) rfl
theorem xl_W_J5_isLatin1_aae02 : Cond.selects RJ4 yJ5_isLatin1_aae02 yJ5_isLatin1_aae02 ∈ xm_tb := xm_mem 770 (by decide +kernel) rfl
theorem xl_U_J5_isLatin1_aae02 : Cond.sameMethod yJ5_isLatin1_aae02.cls yJ5_isLatin1_aae02.cls yJ5_isLatin1_aae02.name yJ5_isLatin1_aae02.desc ∈ xm_tb := xm_mem 769 (by decide +kernel) rfl
theorem xl_M_J5_133 : xm_L RJ5 133 yJ1_fillNull_b72d1 cJ1_fillNull_b72d1 3 none 3 := ⟨xm_mem 774 (by decide +kernel) rfl, xm_mem 58 (by decide +kernel) rfl, xm_mem 776 (by decide +kernel) rfl, by decide, by decide +kernel⟩
theorem xl_S_J1_fillNull_b72d1 : Cond.static yJ1_fillNull_b72d1 ∈ xm_tb := xm_mem 775 (by decide +kernel) rfl
theorem xl_M_J1_236 : xm_L RJ1 236 yJ7_fill_eb02e cJ7_fill_eb02e 5 none 4 := ⟨xm_mem 777 (by decide +kernel) rfl, xm_mem 55 (by decide +kernel) rfl, xm_mem 779 (by decide +kernel) rfl, by decide, by decide +kernel⟩
theorem xl_S_J7_fill_eb02e : Cond.static yJ7_fill_eb02e ∈ xm_tb := xm_mem 778 (by decide +kernel) rfl
theorem xl_M_J7_13 : xm_L RJ7 13 yJ7_rangeCheck_23922 cJ7_rangeCheck_23922 3 none 3 := ⟨xm_mem 780 (by decide +kernel) rfl, xm_mem 55 (by decide +kernel) rfl, xm_mem 782 (by decide +kernel) rfl, by decide, by decide +kernel⟩
theorem xl_S_J7_rangeCheck_23922 : Cond.static yJ7_rangeCheck_23922 ∈ xm_tb := xm_mem 781 (by decide +kernel) rfl
theorem xl_M_J5_137 : xm_L RJ5 137 yJ2_fillNull_b72d1 cJ2_fillNull_b72d1 3 none 3 := ⟨xm_mem 783 (by decide +kernel) rfl, xm_mem 52 (by decide +kernel) rfl, xm_mem 785 (by decide +kernel) rfl, by decide, by decide +kernel⟩
theorem xl_S_J2_fillNull_b72d1 : Cond.static yJ2_fillNull_b72d1 ∈ xm_tb := xm_mem 784 (by decide +kernel) rfl
theorem xl_M_J2_380 : xm_L RJ2 380 yJ7_fill_eb02e cJ7_fill_eb02e 5 none 4 := ⟨xm_mem 786 (by decide +kernel) rfl, xm_mem 55 (by decide +kernel) rfl, xm_mem 779 (by decide +kernel) rfl, by decide, by decide +kernel⟩
theorem xl_M_L_42 : xm_L RL 42 yX10_record cX10_record 2 (some .int) 0 := ⟨xm_mem 787 (by decide +kernel) rfl, xm_mem 40 (by decide +kernel) rfl, xm_mem 790 (by decide +kernel) rfl, by decide, by decide +kernel⟩
theorem xl_V_X10_record : Cond.instanceMethod yX10_record ∈ xm_tb ∧ Cond.selects yX10_record.cls yX10_record yX10_record ∈ xm_tb := ⟨xm_mem 788 (by decide +kernel) rfl, xm_mem 789 (by decide +kernel) rfl⟩
theorem xl_K_X10_105 : Cond.classLink RX10 105 (xm_cR 2) ∈ xm_tb := xm_mem 791 (by decide +kernel) rfl
theorem xl_T_2 : Cond.instantiable (xm_cR 2) (xm_nf 2) ∈ xm_tb := xm_mem 792 (by decide +kernel) rfl
theorem xl_N_X10_107 : xm_LN RX10 107 yX3_init RX10 cX3_init 1 none 0 := ⟨by simp [xm_nst], xm_mem 60 (by decide +kernel) rfl, xm_mem 795 (by decide +kernel) rfl, by decide, by decide +kernel⟩
theorem xl_I_X3_init : Cond.instanceMethod yX3_init ∈ xm_tb ∧ yX3_init.name = "<init>" := ⟨xm_mem 794 (by decide +kernel) rfl, rfl⟩
theorem xl_O_X3_3 : Cond.methodLink RX3 3 objectInit ∈ xm_tb := xm_mem 796 (by decide +kernel) rfl
theorem xl_F_X3_9 : xm_F RX3 9 2 0 := ⟨by decide, by decide, xm_mem 797 (by decide +kernel) rfl⟩
theorem xl_F_X6_29 : xm_F RX6 29 2 0 := ⟨by decide, by decide, xm_mem 798 (by decide +kernel) rfl⟩
theorem xl_F_X9_37 : xm_F RX9 37 2 0 := ⟨by decide, by decide, xm_mem 799 (by decide +kernel) rfl⟩
theorem xl_F_X5_57 : xm_F RX5 57 2 0 := ⟨by decide, by decide, xm_mem 800 (by decide +kernel) rfl⟩
theorem xl_F_X0_35 : xm_F RX0 35 2 0 := ⟨by decide, by decide, xm_mem 801 (by decide +kernel) rfl⟩
theorem xl_F_X1_93 : xm_F RX1 93 2 0 := ⟨by decide, by decide, xm_mem 802 (by decide +kernel) rfl⟩
theorem xl_F_X7_72 : xm_F RX7 72 2 0 := ⟨by decide, by decide, xm_mem 803 (by decide +kernel) rfl⟩
theorem xl_F_X3_15 : xm_F RX3 15 2 1 := ⟨by decide, by decide, xm_mem 804 (by decide +kernel) rfl⟩
theorem xl_F_X6_37 : xm_F RX6 37 2 1 := ⟨by decide, by decide, xm_mem 805 (by decide +kernel) rfl⟩
theorem xl_F_X9_48 : xm_F RX9 48 2 1 := ⟨by decide, by decide, xm_mem 806 (by decide +kernel) rfl⟩
theorem xl_F_X5_64 : xm_F RX5 64 2 1 := ⟨by decide, by decide, xm_mem 807 (by decide +kernel) rfl⟩
theorem xl_F_X0_45 : xm_F RX0 45 2 1 := ⟨by decide, by decide, xm_mem 808 (by decide +kernel) rfl⟩
theorem xl_F_X1_81 : xm_F RX1 81 2 1 := ⟨by decide, by decide, xm_mem 809 (by decide +kernel) rfl⟩
theorem xl_F_X7_94 : xm_F RX7 94 2 1 := ⟨by decide, by decide, xm_mem 810 (by decide +kernel) rfl⟩
theorem xl_F_X3_18 : xm_F RX3 18 2 2 := ⟨by decide, by decide, xm_mem 811 (by decide +kernel) rfl⟩
theorem xl_F_X9_42 : xm_F RX9 42 2 2 := ⟨by decide, by decide, xm_mem 812 (by decide +kernel) rfl⟩
theorem xl_F_X5_47 : xm_F RX5 47 2 2 := ⟨by decide, by decide, xm_mem 813 (by decide +kernel) rfl⟩
theorem xl_F_X6_58 : xm_F RX6 58 2 2 := ⟨by decide, by decide, xm_mem 814 (by decide +kernel) rfl⟩
theorem xl_F_X0_48 : xm_F RX0 48 2 2 := ⟨by decide, by decide, xm_mem 815 (by decide +kernel) rfl⟩
theorem xl_F_X1_78 : xm_F RX1 78 2 2 := ⟨by decide, by decide, xm_mem 816 (by decide +kernel) rfl⟩
theorem xl_F_X7_57 : xm_F RX7 57 2 2 := ⟨by decide, by decide, xm_mem 817 (by decide +kernel) rfl⟩
theorem xl_F_X3_21 : xm_F RX3 21 2 3 := ⟨by decide, by decide, xm_mem 818 (by decide +kernel) rfl⟩
theorem xl_F_X9_45 : xm_F RX9 45 2 3 := ⟨by decide, by decide, xm_mem 819 (by decide +kernel) rfl⟩
theorem xl_F_X6_61 : xm_F RX6 61 2 3 := ⟨by decide, by decide, xm_mem 820 (by decide +kernel) rfl⟩
theorem xl_F_X0_70 : xm_F RX0 70 2 3 := ⟨by decide, by decide, xm_mem 821 (by decide +kernel) rfl⟩
theorem xl_F_X7_60 : xm_F RX7 60 2 3 := ⟨by decide, by decide, xm_mem 822 (by decide +kernel) rfl⟩
theorem xl_F_X3_24 : xm_F RX3 24 2 4 := ⟨by decide, by decide, xm_mem 823 (by decide +kernel) rfl⟩
theorem xl_F_X5_70 : xm_F RX5 70 2 4 := ⟨by decide, by decide, xm_mem 824 (by decide +kernel) rfl⟩
theorem xl_F_X0_64 : xm_F RX0 64 2 4 := ⟨by decide, by decide, xm_mem 825 (by decide +kernel) rfl⟩
theorem xl_F_X6_93 : xm_F RX6 93 2 4 := ⟨by decide, by decide, xm_mem 826 (by decide +kernel) rfl⟩
theorem xl_F_X7_47 : xm_F RX7 47 2 4 := ⟨by decide, by decide, xm_mem 827 (by decide +kernel) rfl⟩
theorem xl_F_X3_27 : xm_F RX3 27 2 5 := ⟨by decide, by decide, xm_mem 828 (by decide +kernel) rfl⟩
theorem xl_F_X5_73 : xm_F RX5 73 2 5 := ⟨by decide, by decide, xm_mem 829 (by decide +kernel) rfl⟩
theorem xl_F_X0_57 : xm_F RX0 57 2 5 := ⟨by decide, by decide, xm_mem 830 (by decide +kernel) rfl⟩
theorem xl_F_X6_98 : xm_F RX6 98 2 5 := ⟨by decide, by decide, xm_mem 831 (by decide +kernel) rfl⟩
theorem xl_F_X7_54 : xm_F RX7 54 2 5 := ⟨by decide, by decide, xm_mem 832 (by decide +kernel) rfl⟩
theorem xl_F_X3_30 : xm_F RX3 30 2 6 := ⟨by decide, by decide, xm_mem 833 (by decide +kernel) rfl⟩
theorem xl_F_X6_70 : xm_F RX6 70 2 6 := ⟨by decide, by decide, xm_mem 834 (by decide +kernel) rfl⟩
theorem xl_F_X1_96 : xm_F RX1 96 2 6 := ⟨by decide, by decide, xm_mem 835 (by decide +kernel) rfl⟩
theorem xl_F_X0_94 : xm_F RX0 94 2 6 := ⟨by decide, by decide, xm_mem 836 (by decide +kernel) rfl⟩
theorem xl_F_X7_63 : xm_F RX7 63 2 6 := ⟨by decide, by decide, xm_mem 837 (by decide +kernel) rfl⟩
theorem xl_F_X3_33 : xm_F RX3 33 2 7 := ⟨by decide, by decide, xm_mem 838 (by decide +kernel) rfl⟩
theorem xl_F_X6_67 : xm_F RX6 67 2 7 := ⟨by decide, by decide, xm_mem 839 (by decide +kernel) rfl⟩
theorem xl_F_X1_75 : xm_F RX1 75 2 7 := ⟨by decide, by decide, xm_mem 840 (by decide +kernel) rfl⟩
theorem xl_F_X0_100 : xm_F RX0 100 2 7 := ⟨by decide, by decide, xm_mem 841 (by decide +kernel) rfl⟩
theorem xl_F_X3_36 : xm_F RX3 36 2 8 := ⟨by decide, by decide, xm_mem 842 (by decide +kernel) rfl⟩
theorem xl_F_X5_67 : xm_F RX5 67 2 8 := ⟨by decide, by decide, xm_mem 843 (by decide +kernel) rfl⟩
theorem xl_F_X6_79 : xm_F RX6 79 2 8 := ⟨by decide, by decide, xm_mem 844 (by decide +kernel) rfl⟩
theorem xl_F_X3_40 : xm_F RX3 40 2 9 := ⟨by decide, by decide, xm_mem 845 (by decide +kernel) rfl⟩
theorem xl_F_X7_37 : xm_F RX7 37 2 9 := ⟨by decide, by decide, xm_mem 846 (by decide +kernel) rfl⟩
theorem xl_A_byte : Cond.arrayClass .byte ∈ xm_tb := xm_mem 868 (by decide +kernel) rfl
theorem xl_M_X10_108 : xm_L RX10 108 yX6_readInto cX6_readInto 2 (some .int) 1 := ⟨xm_mem 869 (by decide +kernel) rfl, xm_mem 42 (by decide +kernel) rfl, xm_mem 872 (by decide +kernel) rfl, by decide, by decide +kernel⟩
theorem xl_V_X6_readInto : Cond.instanceMethod yX6_readInto ∈ xm_tb ∧ Cond.selects yX6_readInto.cls yX6_readInto yX6_readInto ∈ xm_tb := ⟨xm_mem 870 (by decide +kernel) rfl, xm_mem 871 (by decide +kernel) rfl⟩
theorem xl_M_X6_25 : xm_L RX6 25 yX6_takeKind cX6_takeKind 2 (some .int) 0 := ⟨xm_mem 873 (by decide +kernel) rfl, xm_mem 42 (by decide +kernel) rfl, xm_mem 876 (by decide +kernel) rfl, by decide, by decide +kernel⟩
theorem xl_V_X6_takeKind : Cond.instanceMethod yX6_takeKind ∈ xm_tb ∧ Cond.selects yX6_takeKind.cls yX6_takeKind yX6_takeKind ∈ xm_tb := ⟨xm_mem 875 (by decide +kernel) rfl, xm_mem 20 (by decide +kernel) rfl⟩
theorem xl_M_X6_44 : xm_L RX6 44 yX6_next cX6_next 1 none 0 := ⟨xm_mem 877 (by decide +kernel) rfl, xm_mem 42 (by decide +kernel) rfl, xm_mem 880 (by decide +kernel) rfl, by decide, by decide +kernel⟩
theorem xl_V_X6_next : Cond.instanceMethod yX6_next ∈ xm_tb ∧ Cond.selects yX6_next.cls yX6_next yX6_next ∈ xm_tb := ⟨xm_mem 879 (by decide +kernel) rfl, xm_mem 21 (by decide +kernel) rfl⟩
theorem xl_M_X6_47 : xm_L RX6 47 yX8_size cX8_size 1 (some .int) 0 := ⟨xm_mem 881 (by decide +kernel) rfl, xm_mem 41 (by decide +kernel) rfl, xm_mem 718 (by decide +kernel) rfl, by decide, by decide +kernel⟩
theorem xl_M_X6_113 : xm_L RX6 113 yX8_at cX8_at 2 (some .int) 1 := ⟨xm_mem 882 (by decide +kernel) rfl, xm_mem 41 (by decide +kernel) rfl, xm_mem 885 (by decide +kernel) rfl, by decide, by decide +kernel⟩
theorem xl_V_X8_at : Cond.instanceMethod yX8_at ∈ xm_tb ∧ Cond.selects yX8_at.cls yX8_at yX8_at ∈ xm_tb := ⟨xm_mem 883 (by decide +kernel) rfl, xm_mem 884 (by decide +kernel) rfl⟩
theorem xl_M_X6_121 : xm_L RX6 121 yX6_isLetter cX6_isLetter 1 (some .boolean) 1 := ⟨xm_mem 886 (by decide +kernel) rfl, xm_mem 42 (by decide +kernel) rfl, xm_mem 888 (by decide +kernel) rfl, by decide, by decide +kernel⟩
theorem xl_S_X6_isLetter : Cond.static yX6_isLetter ∈ xm_tb := xm_mem 887 (by decide +kernel) rfl
theorem xl_M_X6_117 : xm_L RX6 117 yX6_isDigit cX6_isDigit 1 (some .boolean) 1 := ⟨xm_mem 889 (by decide +kernel) rfl, xm_mem 42 (by decide +kernel) rfl, xm_mem 891 (by decide +kernel) rfl, by decide, by decide +kernel⟩
theorem xl_S_X6_isDigit : Cond.static yX6_isDigit ∈ xm_tb := xm_mem 890 (by decide +kernel) rfl
theorem xl_M_X6_101 : xm_L RX6 101 yX6_kindWord cX6_kindWord 1 (some (.object "java/lang/String")) 1 := ⟨xm_mem 892 (by decide +kernel) rfl, xm_mem 42 (by decide +kernel) rfl, xm_mem 894 (by decide +kernel) rfl, by decide, by decide +kernel⟩
theorem xl_S_X6_kindWord : Cond.static yX6_kindWord ∈ xm_tb := xm_mem 893 (by decide +kernel) rfl
theorem xl_M_X6_75 : xm_L RX6 75 yX6_isWord cX6_isWord 3 (some .boolean) 1 := ⟨xm_mem 904 (by decide +kernel) rfl, xm_mem 42 (by decide +kernel) rfl, xm_mem 907 (by decide +kernel) rfl, by decide, by decide +kernel⟩
theorem xl_V_X6_isWord : Cond.instanceMethod yX6_isWord ∈ xm_tb ∧ Cond.selects yX6_isWord.cls yX6_isWord yX6_isWord ∈ xm_tb := ⟨xm_mem 906 (by decide +kernel) rfl, xm_mem 22 (by decide +kernel) rfl⟩
theorem xl_M_X6_124 : xm_L RX6 124 yJ0_length_8abf5 cJ0_length_8abf5 1 (some .int) 0 := ⟨xm_mem 908 (by decide +kernel) rfl, xm_mem 51 (by decide +kernel) rfl, xm_mem 911 (by decide +kernel) rfl, by decide, by decide +kernel⟩
theorem xl_V_J0_length_8abf5 : Cond.instanceMethod yJ0_length_8abf5 ∈ xm_tb ∧ Cond.selects yJ0_length_8abf5.cls yJ0_length_8abf5 yJ0_length_8abf5 ∈ xm_tb := ⟨xm_mem 909 (by decide +kernel) rfl, xm_mem 910 (by decide +kernel) rfl⟩
theorem xl_M_J0_335 : xm_L RJ0 335 yJ0_coder_7d493 cJ0_coder_7d493 1 (some .byte) 0 := ⟨xm_mem 912 (by decide +kernel) rfl, xm_mem 51 (by decide +kernel) rfl, xm_mem 915 (by decide +kernel) rfl, by decide, by decide +kernel⟩
theorem xl_V_J0_coder_7d493 : Cond.instanceMethod yJ0_coder_7d493 ∈ xm_tb ∧ Cond.selects yJ0_coder_7d493.cls yJ0_coder_7d493 yJ0_coder_7d493 ∈ xm_tb := ⟨xm_mem 913 (by decide +kernel) rfl, xm_mem 914 (by decide +kernel) rfl⟩
theorem xl_M_X6_129 : xm_L RX6 129 yJ0_charAt_5068e cJ0_charAt_5068e 2 (some .char) 1 := ⟨xm_mem 917 (by decide +kernel) rfl, xm_mem 51 (by decide +kernel) rfl, xm_mem 920 (by decide +kernel) rfl, by decide, by decide +kernel⟩
theorem xl_V_J0_charAt_5068e : Cond.instanceMethod yJ0_charAt_5068e ∈ xm_tb ∧ Cond.selects yJ0_charAt_5068e.cls yJ0_charAt_5068e yJ0_charAt_5068e ∈ xm_tb := ⟨xm_mem 918 (by decide +kernel) rfl, xm_mem 919 (by decide +kernel) rfl⟩
theorem xl_M_J0_492 : xm_L RJ0 492 yJ0_isLatin1_aae02 cJ0_isLatin1_aae02 1 (some .boolean) 0 := ⟨xm_mem 921 (by decide +kernel) rfl, xm_mem 51 (by decide +kernel) rfl, xm_mem 924 (by decide +kernel) rfl, by decide, by decide +kernel⟩
theorem xl_V_J0_isLatin1_aae02 : Cond.instanceMethod yJ0_isLatin1_aae02 ∈ xm_tb ∧ Cond.selects yJ0_isLatin1_aae02.cls yJ0_isLatin1_aae02 yJ0_isLatin1_aae02 ∈ xm_tb := ⟨xm_mem 922 (by decide +kernel) rfl, xm_mem 923 (by decide +kernel) rfl⟩
theorem xl_M_J0_495 : xm_L RJ0 495 yJ1_charAt_3b067 cJ1_charAt_3b067 2 (some .char) 2 := ⟨xm_mem 925 (by decide +kernel) rfl, xm_mem 58 (by decide +kernel) rfl, xm_mem 927 (by decide +kernel) rfl, by decide, by decide +kernel⟩
theorem xl_S_J1_charAt_3b067 : Cond.static yJ1_charAt_3b067 ∈ xm_tb := xm_mem 926 (by decide +kernel) rfl
theorem xl_M_J1_9 : xm_L RJ1 9 yJ0_checkIndex_df160 cJ0_checkIndex_df160 2 none 2 := ⟨xm_mem 928 (by decide +kernel) rfl, xm_mem 51 (by decide +kernel) rfl, xm_mem 685 (by decide +kernel) rfl, by decide, by decide +kernel⟩
theorem xl_M_J0_498 : xm_L RJ0 498 yJ2_charAt_3b067 cJ2_charAt_3b067 2 (some .char) 2 := ⟨xm_mem 929 (by decide +kernel) rfl, xm_mem 52 (by decide +kernel) rfl, xm_mem 931 (by decide +kernel) rfl, by decide, by decide +kernel⟩
theorem xl_S_J2_charAt_3b067 : Cond.static yJ2_charAt_3b067 ∈ xm_tb := xm_mem 930 (by decide +kernel) rfl
theorem xl_M_J2_67 : xm_L RJ2 67 yJ2_checkIndex_2214a cJ2_checkIndex_2214a 2 none 2 := ⟨xm_mem 932 (by decide +kernel) rfl, xm_mem 52 (by decide +kernel) rfl, xm_mem 934 (by decide +kernel) rfl, by decide, by decide +kernel⟩
theorem xl_S_J2_checkIndex_2214a : Cond.static yJ2_checkIndex_2214a ∈ xm_tb := xm_mem 933 (by decide +kernel) rfl
theorem xl_M_J2_414 : xm_L RJ2 414 yJ0_checkIndex_df160 cJ0_checkIndex_df160 2 none 2 := ⟨xm_mem 935 (by decide +kernel) rfl, xm_mem 51 (by decide +kernel) rfl, xm_mem 685 (by decide +kernel) rfl, by decide, by decide +kernel⟩
theorem xl_M_J2_71 : xm_L RJ2 71 yJ2_getChar_3b067 cJ2_getChar_3b067 2 (some .char) 2 := ⟨xm_mem 936 (by decide +kernel) rfl, xm_mem 52 (by decide +kernel) rfl, xm_mem 693 (by decide +kernel) rfl, by decide, by decide +kernel⟩
theorem xl_M_X6_52 : xm_L RX6 52 yX6_fail cX6_fail 1 none 0 := ⟨xm_mem 937 (by decide +kernel) rfl, xm_mem 42 (by decide +kernel) rfl, xm_mem 940 (by decide +kernel) rfl, by decide, by decide +kernel⟩
theorem xl_V_X6_fail : Cond.instanceMethod yX6_fail ∈ xm_tb ∧ Cond.selects yX6_fail.cls yX6_fail yX6_fail ∈ xm_tb := ⟨xm_mem 939 (by decide +kernel) rfl, xm_mem 23 (by decide +kernel) rfl⟩
theorem xl_M_X6_34 : xm_L RX6 34 yX6_takeNumber cX6_takeNumber 1 (some .int) 0 := ⟨xm_mem 941 (by decide +kernel) rfl, xm_mem 42 (by decide +kernel) rfl, xm_mem 944 (by decide +kernel) rfl, by decide, by decide +kernel⟩
theorem xl_V_X6_takeNumber : Cond.instanceMethod yX6_takeNumber ∈ xm_tb ∧ Cond.selects yX6_takeNumber.cls yX6_takeNumber yX6_takeNumber ∈ xm_tb := ⟨xm_mem 943 (by decide +kernel) rfl, xm_mem 24 (by decide +kernel) rfl⟩
theorem xl_M_X6_110 : xm_L RX6 110 yX6_numberAtHand cX6_numberAtHand 4 (some .int) 0 := ⟨xm_mem 945 (by decide +kernel) rfl, xm_mem 42 (by decide +kernel) rfl, xm_mem 948 (by decide +kernel) rfl, by decide, by decide +kernel⟩
theorem xl_V_X6_numberAtHand : Cond.instanceMethod yX6_numberAtHand ∈ xm_tb ∧ Cond.selects yX6_numberAtHand.cls yX6_numberAtHand yX6_numberAtHand ∈ xm_tb := ⟨xm_mem 947 (by decide +kernel) rfl, xm_mem 25 (by decide +kernel) rfl⟩
theorem xl_M_X6_40 : xm_L RX6 40 yX6_takeWhatIsOf cX6_takeWhatIsOf 2 none 1 := ⟨xm_mem 949 (by decide +kernel) rfl, xm_mem 42 (by decide +kernel) rfl, xm_mem 952 (by decide +kernel) rfl, by decide, by decide +kernel⟩
theorem xl_V_X6_takeWhatIsOf : Cond.instanceMethod yX6_takeWhatIsOf ∈ xm_tb ∧ Cond.selects yX6_takeWhatIsOf.cls yX6_takeWhatIsOf yX6_takeWhatIsOf ∈ xm_tb := ⟨xm_mem 951 (by decide +kernel) rfl, xm_mem 26 (by decide +kernel) rfl⟩
theorem xl_M_X6_55 : xm_L RX6 55 yX6_takeBirth cX6_takeBirth 2 none 1 := ⟨xm_mem 953 (by decide +kernel) rfl, xm_mem 42 (by decide +kernel) rfl, xm_mem 956 (by decide +kernel) rfl, by decide, by decide +kernel⟩
theorem xl_V_X6_takeBirth : Cond.instanceMethod yX6_takeBirth ∈ xm_tb ∧ Cond.selects yX6_takeBirth.cls yX6_takeBirth yX6_takeBirth ∈ xm_tb := ⟨xm_mem 955 (by decide +kernel) rfl, xm_mem 27 (by decide +kernel) rfl⟩
theorem xl_M_X6_86 : xm_L RX6 86 yX6_takeWord cX6_takeWord 2 none 1 := ⟨xm_mem 960 (by decide +kernel) rfl, xm_mem 42 (by decide +kernel) rfl, xm_mem 963 (by decide +kernel) rfl, by decide, by decide +kernel⟩
theorem xl_V_X6_takeWord : Cond.instanceMethod yX6_takeWord ∈ xm_tb ∧ Cond.selects yX6_takeWord.cls yX6_takeWord yX6_takeWord ∈ xm_tb := ⟨xm_mem 962 (by decide +kernel) rfl, xm_mem 28 (by decide +kernel) rfl⟩
theorem xl_M_X6_90 : xm_L RX6 90 yX6_takeParent cX6_takeParent 1 (some .int) 0 := ⟨xm_mem 964 (by decide +kernel) rfl, xm_mem 42 (by decide +kernel) rfl, xm_mem 967 (by decide +kernel) rfl, by decide, by decide +kernel⟩
theorem xl_V_X6_takeParent : Cond.instanceMethod yX6_takeParent ∈ xm_tb ∧ Cond.selects yX6_takeParent.cls yX6_takeParent yX6_takeParent ∈ xm_tb := ⟨xm_mem 966 (by decide +kernel) rfl, xm_mem 29 (by decide +kernel) rfl⟩
theorem xl_M_X6_64 : xm_L RX6 64 yX6_takeRule cX6_takeRule 2 (some .int) 0 := ⟨xm_mem 970 (by decide +kernel) rfl, xm_mem 42 (by decide +kernel) rfl, xm_mem 973 (by decide +kernel) rfl, by decide, by decide +kernel⟩
theorem xl_V_X6_takeRule : Cond.instanceMethod yX6_takeRule ∈ xm_tb ∧ Cond.selects yX6_takeRule.cls yX6_takeRule yX6_takeRule ∈ xm_tb := ⟨xm_mem 972 (by decide +kernel) rfl, xm_mem 30 (by decide +kernel) rfl⟩
theorem xl_M_X6_105 : xm_L RX6 105 yX6_ruleWord cX6_ruleWord 1 (some (.object "java/lang/String")) 1 := ⟨xm_mem 974 (by decide +kernel) rfl, xm_mem 42 (by decide +kernel) rfl, xm_mem 976 (by decide +kernel) rfl, by decide, by decide +kernel⟩
theorem xl_S_X6_ruleWord : Cond.static yX6_ruleWord ∈ xm_tb := xm_mem 975 (by decide +kernel) rfl
theorem xl_M_X10_112 : xm_L RX10 112 yX7_knowsAllNamedBy cX7_knowsAllNamedBy 2 (some .boolean) 1 := ⟨xm_mem 982 (by decide +kernel) rfl, xm_mem 43 (by decide +kernel) rfl, xm_mem 985 (by decide +kernel) rfl, by decide, by decide +kernel⟩
theorem xl_V_X7_knowsAllNamedBy : Cond.instanceMethod yX7_knowsAllNamedBy ∈ xm_tb ∧ Cond.selects yX7_knowsAllNamedBy.cls yX7_knowsAllNamedBy yX7_knowsAllNamedBy ∈ xm_tb := ⟨xm_mem 983 (by decide +kernel) rfl, xm_mem 984 (by decide +kernel) rfl⟩
theorem xl_M_X7_50 : xm_L RX7 50 yX7_knowsPerson cX7_knowsPerson 2 (some .boolean) 1 := ⟨xm_mem 986 (by decide +kernel) rfl, xm_mem 43 (by decide +kernel) rfl, xm_mem 989 (by decide +kernel) rfl, by decide, by decide +kernel⟩
theorem xl_V_X7_knowsPerson : Cond.instanceMethod yX7_knowsPerson ∈ xm_tb ∧ Cond.selects yX7_knowsPerson.cls yX7_knowsPerson yX7_knowsPerson ∈ xm_tb := ⟨xm_mem 988 (by decide +kernel) rfl, xm_mem 31 (by decide +kernel) rfl⟩
theorem xl_M_X7_69 : xm_L RX7 69 yX7_hasPerson cX7_hasPerson 2 (some .boolean) 1 := ⟨xm_mem 990 (by decide +kernel) rfl, xm_mem 43 (by decide +kernel) rfl, xm_mem 993 (by decide +kernel) rfl, by decide, by decide +kernel⟩
theorem xl_V_X7_hasPerson : Cond.instanceMethod yX7_hasPerson ∈ xm_tb ∧ Cond.selects yX7_hasPerson.cls yX7_hasPerson yX7_hasPerson ∈ xm_tb := ⟨xm_mem 991 (by decide +kernel) rfl, xm_mem 992 (by decide +kernel) rfl⟩
theorem xl_M_X7_66 : xm_L RX7 66 yX7_hasTitle cX7_hasTitle 2 (some .boolean) 1 := ⟨xm_mem 994 (by decide +kernel) rfl, xm_mem 43 (by decide +kernel) rfl, xm_mem 426 (by decide +kernel) rfl, by decide, by decide +kernel⟩
theorem xl_M_X10_116 : xm_L RX10 116 yX7_hasRoomFor cX7_hasRoomFor 2 (some .boolean) 1 := ⟨xm_mem 995 (by decide +kernel) rfl, xm_mem 43 (by decide +kernel) rfl, xm_mem 998 (by decide +kernel) rfl, by decide, by decide +kernel⟩
theorem xl_V_X7_hasRoomFor : Cond.instanceMethod yX7_hasRoomFor ∈ xm_tb ∧ Cond.selects yX7_hasRoomFor.cls yX7_hasRoomFor yX7_hasRoomFor ∈ xm_tb := ⟨xm_mem 996 (by decide +kernel) rfl, xm_mem 997 (by decide +kernel) rfl⟩
theorem xl_M_X10_118 : xm_L RX10 118 yX7_add cX7_add 2 none 1 := ⟨xm_mem 999 (by decide +kernel) rfl, xm_mem 43 (by decide +kernel) rfl, xm_mem 1002 (by decide +kernel) rfl, by decide, by decide +kernel⟩
theorem xl_V_X7_add : Cond.instanceMethod yX7_add ∈ xm_tb ∧ Cond.selects yX7_add.cls yX7_add yX7_add ∈ xm_tb := ⟨xm_mem 1000 (by decide +kernel) rfl, xm_mem 1001 (by decide +kernel) rfl⟩
theorem xl_M_X7_75 : xm_L RX7 75 yX7_hasRoomFor cX7_hasRoomFor 2 (some .boolean) 1 := ⟨xm_mem 1003 (by decide +kernel) rfl, xm_mem 43 (by decide +kernel) rfl, xm_mem 998 (by decide +kernel) rfl, by decide, by decide +kernel⟩
theorem xl_M_X10_121 : xm_L RX10 121 yX10_firstBrokenBond cX10_firstBrokenBond 1 (some .int) 0 := ⟨xm_mem 1004 (by decide +kernel) rfl, xm_mem 40 (by decide +kernel) rfl, xm_mem 1007 (by decide +kernel) rfl, by decide, by decide +kernel⟩
theorem xl_V_X10_firstBrokenBond : Cond.instanceMethod yX10_firstBrokenBond ∈ xm_tb ∧ Cond.selects yX10_firstBrokenBond.cls yX10_firstBrokenBond yX10_firstBrokenBond ∈ xm_tb := ⟨xm_mem 1006 (by decide +kernel) rfl, xm_mem 32 (by decide +kernel) rfl⟩
theorem xl_M_X10_240 : xm_L RX10 240 yX5_rebuild cX5_rebuild 4 none 1 := ⟨xm_mem 1008 (by decide +kernel) rfl, xm_mem 44 (by decide +kernel) rfl, xm_mem 1011 (by decide +kernel) rfl, by decide, by decide +kernel⟩
theorem xl_V_X5_rebuild : Cond.instanceMethod yX5_rebuild ∈ xm_tb ∧ Cond.selects yX5_rebuild.cls yX5_rebuild yX5_rebuild ∈ xm_tb := ⟨xm_mem 1009 (by decide +kernel) rfl, xm_mem 1010 (by decide +kernel) rfl⟩
theorem xl_M_X5_37 : xm_L RX5 37 yX7_size cX7_size 1 (some .int) 0 := ⟨xm_mem 1012 (by decide +kernel) rfl, xm_mem 43 (by decide +kernel) rfl, xm_mem 451 (by decide +kernel) rfl, by decide, by decide +kernel⟩
theorem xl_M_X5_43 : xm_L RX5 43 yX7_standing cX7_standing 3 (some (.object "HeirRoll$Entry")) 1 := ⟨xm_mem 1013 (by decide +kernel) rfl, xm_mem 43 (by decide +kernel) rfl, xm_mem 455 (by decide +kernel) rfl, by decide, by decide +kernel⟩
theorem xl_M_X5_60 : xm_L RX5 60 yX5_takeBirth cX5_takeBirth 3 none 2 := ⟨xm_mem 1014 (by decide +kernel) rfl, xm_mem 44 (by decide +kernel) rfl, xm_mem 1017 (by decide +kernel) rfl, by decide, by decide +kernel⟩
theorem xl_V_X5_takeBirth : Cond.instanceMethod yX5_takeBirth ∈ xm_tb ∧ Cond.selects yX5_takeBirth.cls yX5_takeBirth yX5_takeBirth ∈ xm_tb := ⟨xm_mem 1016 (by decide +kernel) rfl, xm_mem 33 (by decide +kernel) rfl⟩
theorem xl_M_X10_244 : xm_L RX10 244 yX9_rebuild cX9_rebuild 5 none 2 := ⟨xm_mem 1018 (by decide +kernel) rfl, xm_mem 45 (by decide +kernel) rfl, xm_mem 1021 (by decide +kernel) rfl, by decide, by decide +kernel⟩
theorem xl_V_X9_rebuild : Cond.instanceMethod yX9_rebuild ∈ xm_tb ∧ Cond.selects yX9_rebuild.cls yX9_rebuild yX9_rebuild ∈ xm_tb := ⟨xm_mem 1019 (by decide +kernel) rfl, xm_mem 1020 (by decide +kernel) rfl⟩
theorem xl_M_X9_28 : xm_L RX9 28 yX7_size cX7_size 1 (some .int) 0 := ⟨xm_mem 1022 (by decide +kernel) rfl, xm_mem 43 (by decide +kernel) rfl, xm_mem 451 (by decide +kernel) rfl, by decide, by decide +kernel⟩
theorem xl_M_X9_33 : xm_L RX9 33 yX7_standing cX7_standing 3 (some (.object "HeirRoll$Entry")) 1 := ⟨xm_mem 1023 (by decide +kernel) rfl, xm_mem 43 (by decide +kernel) rfl, xm_mem 455 (by decide +kernel) rfl, by decide, by decide +kernel⟩
theorem xl_M_X9_51 : xm_L RX9 51 yX9_lastDay cX9_lastDay 5 (some .int) 3 := ⟨xm_mem 1024 (by decide +kernel) rfl, xm_mem 45 (by decide +kernel) rfl, xm_mem 1026 (by decide +kernel) rfl, by decide, by decide +kernel⟩
theorem xl_S_X9_lastDay : Cond.static yX9_lastDay ∈ xm_tb := xm_mem 1025 (by decide +kernel) rfl
theorem xl_C_X9_55 : Cond.constant RX9 55 (xm_J 99999) ∈ xm_tb := xm_mem 1027 (by decide +kernel) rfl
theorem xl_M_X9_56 : xm_L RX9 56 yX7_nextPart cX7_nextPart 5 (some .int) 1 := ⟨xm_mem 1028 (by decide +kernel) rfl, xm_mem 43 (by decide +kernel) rfl, xm_mem 1031 (by decide +kernel) rfl, by decide, by decide +kernel⟩
theorem xl_V_X7_nextPart : Cond.instanceMethod yX7_nextPart ∈ xm_tb ∧ Cond.selects yX7_nextPart.cls yX7_nextPart yX7_nextPart ∈ xm_tb := ⟨xm_mem 1029 (by decide +kernel) rfl, xm_mem 1030 (by decide +kernel) rfl⟩
theorem xl_M_X7_83 : xm_L RX7 83 yX3_takesTurnsWith cX3_takesTurnsWith 2 (some .boolean) 1 := ⟨xm_mem 1032 (by decide +kernel) rfl, xm_mem 60 (by decide +kernel) rfl, xm_mem 1035 (by decide +kernel) rfl, by decide, by decide +kernel⟩
theorem xl_V_X3_takesTurnsWith : Cond.instanceMethod yX3_takesTurnsWith ∈ xm_tb ∧ Cond.selects yX3_takesTurnsWith.cls yX3_takesTurnsWith yX3_takesTurnsWith ∈ xm_tb := ⟨xm_mem 1033 (by decide +kernel) rfl, xm_mem 1034 (by decide +kernel) rfl⟩
theorem xl_M_X3_43 : xm_L RX3 43 yX3_isOfUnion cX3_isOfUnion 1 (some .boolean) 0 := ⟨xm_mem 1036 (by decide +kernel) rfl, xm_mem 60 (by decide +kernel) rfl, xm_mem 1039 (by decide +kernel) rfl, by decide, by decide +kernel⟩
theorem xl_V_X3_isOfUnion : Cond.instanceMethod yX3_isOfUnion ∈ xm_tb ∧ Cond.selects yX3_isOfUnion.cls yX3_isOfUnion yX3_isOfUnion ∈ xm_tb := ⟨xm_mem 1037 (by decide +kernel) rfl, xm_mem 1038 (by decide +kernel) rfl⟩
theorem xl_M_X3_47 : xm_L RX3 47 yX3_isOfLoss cX3_isOfLoss 1 (some .boolean) 0 := ⟨xm_mem 1040 (by decide +kernel) rfl, xm_mem 60 (by decide +kernel) rfl, xm_mem 473 (by decide +kernel) rfl, by decide, by decide +kernel⟩
theorem xl_M_X9_60 : xm_L RX9 60 yX5_deadOn cX5_deadOn 2 (some .int) 1 := ⟨xm_mem 1041 (by decide +kernel) rfl, xm_mem 44 (by decide +kernel) rfl, xm_mem 397 (by decide +kernel) rfl, by decide, by decide +kernel⟩
theorem xl_M_X9_66 : xm_L RX9 66 yX9_earlier cX9_earlier 2 (some .int) 2 := ⟨xm_mem 1042 (by decide +kernel) rfl, xm_mem 45 (by decide +kernel) rfl, xm_mem 1044 (by decide +kernel) rfl, by decide, by decide +kernel⟩
theorem xl_S_X9_earlier : Cond.static yX9_earlier ∈ xm_tb := xm_mem 1043 (by decide +kernel) rfl
theorem xl_M_X10_247 : xm_L RX10 247 yX0_firstBroken cX0_firstBroken 6 (some .int) 3 := ⟨xm_mem 1045 (by decide +kernel) rfl, xm_mem 61 (by decide +kernel) rfl, xm_mem 1047 (by decide +kernel) rfl, by decide, by decide +kernel⟩
theorem xl_S_X0_firstBroken : Cond.static yX0_firstBroken ∈ xm_tb := xm_mem 1046 (by decide +kernel) rfl
theorem xl_M_X0_9 : xm_L RX0 9 yX9_putSomebodyInTwo cX9_putSomebodyInTwo 4 (some .boolean) 0 := ⟨xm_mem 1048 (by decide +kernel) rfl, xm_mem 45 (by decide +kernel) rfl, xm_mem 1051 (by decide +kernel) rfl, by decide, by decide +kernel⟩
theorem xl_V_X9_putSomebodyInTwo : Cond.instanceMethod yX9_putSomebodyInTwo ∈ xm_tb ∧ Cond.selects yX9_putSomebodyInTwo.cls yX9_putSomebodyInTwo yX9_putSomebodyInTwo ∈ xm_tb := ⟨xm_mem 1049 (by decide +kernel) rfl, xm_mem 1050 (by decide +kernel) rfl⟩
theorem xl_M_X0_15 : xm_L RX0 15 yX7_size cX7_size 1 (some .int) 0 := ⟨xm_mem 1052 (by decide +kernel) rfl, xm_mem 43 (by decide +kernel) rfl, xm_mem 451 (by decide +kernel) rfl, by decide, by decide +kernel⟩
theorem xl_M_X0_21 : xm_L RX0 21 yX7_standing cX7_standing 3 (some (.object "HeirRoll$Entry")) 1 := ⟨xm_mem 1053 (by decide +kernel) rfl, xm_mem 43 (by decide +kernel) rfl, xm_mem 455 (by decide +kernel) rfl, by decide, by decide +kernel⟩
theorem xl_M_X0_25 : xm_L RX0 25 yX0_breaks cX0_breaks 4 (some .boolean) 4 := ⟨xm_mem 1054 (by decide +kernel) rfl, xm_mem 61 (by decide +kernel) rfl, xm_mem 1056 (by decide +kernel) rfl, by decide, by decide +kernel⟩
theorem xl_S_X0_breaks : Cond.static yX0_breaks ∈ xm_tb := xm_mem 1055 (by decide +kernel) rfl
theorem xl_M_X0_31 : xm_L RX0 31 yX0_hasWrongSexes cX0_hasWrongSexes 2 (some .boolean) 2 := ⟨xm_mem 1057 (by decide +kernel) rfl, xm_mem 61 (by decide +kernel) rfl, xm_mem 1059 (by decide +kernel) rfl, by decide, by decide +kernel⟩
theorem xl_S_X0_hasWrongSexes : Cond.static yX0_hasWrongSexes ∈ xm_tb := xm_mem 1058 (by decide +kernel) rfl
theorem xl_M_X0_83 : xm_L RX0 83 yX5_isMale cX5_isMale 2 (some .boolean) 1 := ⟨xm_mem 1060 (by decide +kernel) rfl, xm_mem 44 (by decide +kernel) rfl, xm_mem 374 (by decide +kernel) rfl, by decide, by decide +kernel⟩
theorem xl_M_X0_67 : xm_L RX0 67 yX3_isOfUnion cX3_isOfUnion 1 (some .boolean) 0 := ⟨xm_mem 1061 (by decide +kernel) rfl, xm_mem 60 (by decide +kernel) rfl, xm_mem 1039 (by decide +kernel) rfl, by decide, by decide +kernel⟩
theorem xl_M_X0_41 : xm_L RX0 41 yX7_tellsAgain cX7_tellsAgain 4 (some .boolean) 1 := ⟨xm_mem 1062 (by decide +kernel) rfl, xm_mem 43 (by decide +kernel) rfl, xm_mem 1065 (by decide +kernel) rfl, by decide, by decide +kernel⟩
theorem xl_V_X7_tellsAgain : Cond.instanceMethod yX7_tellsAgain ∈ xm_tb ∧ Cond.selects yX7_tellsAgain.cls yX7_tellsAgain yX7_tellsAgain ∈ xm_tb := ⟨xm_mem 1063 (by decide +kernel) rfl, xm_mem 1064 (by decide +kernel) rfl⟩
theorem xl_M_X0_51 : xm_L RX0 51 yX5_bornOn cX5_bornOn 2 (some .int) 1 := ⟨xm_mem 1066 (by decide +kernel) rfl, xm_mem 44 (by decide +kernel) rfl, xm_mem 382 (by decide +kernel) rfl, by decide, by decide +kernel⟩
theorem xl_M_X0_60 : xm_L RX0 60 yX0_couldAct cX0_couldAct 4 (some .boolean) 4 := ⟨xm_mem 1067 (by decide +kernel) rfl, xm_mem 61 (by decide +kernel) rfl, xm_mem 1069 (by decide +kernel) rfl, by decide, by decide +kernel⟩
theorem xl_S_X0_couldAct : Cond.static yX0_couldAct ∈ xm_tb := xm_mem 1068 (by decide +kernel) rfl
theorem xl_M_X0_87 : xm_L RX0 87 yX5_isGrown cX5_isGrown 3 (some .boolean) 2 := ⟨xm_mem 1070 (by decide +kernel) rfl, xm_mem 44 (by decide +kernel) rfl, xm_mem 1073 (by decide +kernel) rfl, by decide, by decide +kernel⟩
theorem xl_V_X5_isGrown : Cond.instanceMethod yX5_isGrown ∈ xm_tb ∧ Cond.selects yX5_isGrown.cls yX5_isGrown yX5_isGrown ∈ xm_tb := ⟨xm_mem 1071 (by decide +kernel) rfl, xm_mem 1072 (by decide +kernel) rfl⟩
theorem xl_M_X0_91 : xm_L RX0 91 yX5_isDeadAhead cX5_isDeadAhead 4 (some .boolean) 2 := ⟨xm_mem 1074 (by decide +kernel) rfl, xm_mem 44 (by decide +kernel) rfl, xm_mem 1077 (by decide +kernel) rfl, by decide, by decide +kernel⟩
theorem xl_V_X5_isDeadAhead : Cond.instanceMethod yX5_isDeadAhead ∈ xm_tb ∧ Cond.selects yX5_isDeadAhead.cls yX5_isDeadAhead yX5_isDeadAhead ∈ xm_tb := ⟨xm_mem 1075 (by decide +kernel) rfl, xm_mem 1076 (by decide +kernel) rfl⟩
theorem xl_M_X5_76 : xm_L RX5 76 yX5_deadOn cX5_deadOn 2 (some .int) 1 := ⟨xm_mem 1078 (by decide +kernel) rfl, xm_mem 44 (by decide +kernel) rfl, xm_mem 397 (by decide +kernel) rfl, by decide, by decide +kernel⟩
theorem xl_M_X0_73 : xm_L RX0 73 yX7_isOutOfTurn cX7_isOutOfTurn 5 (some .boolean) 1 := ⟨xm_mem 1079 (by decide +kernel) rfl, xm_mem 43 (by decide +kernel) rfl, xm_mem 1082 (by decide +kernel) rfl, by decide, by decide +kernel⟩
theorem xl_V_X7_isOutOfTurn : Cond.instanceMethod yX7_isOutOfTurn ∈ xm_tb ∧ Cond.selects yX7_isOutOfTurn.cls yX7_isOutOfTurn yX7_isOutOfTurn ∈ xm_tb := ⟨xm_mem 1080 (by decide +kernel) rfl, xm_mem 1081 (by decide +kernel) rfl⟩
theorem xl_M_X7_86 : xm_L RX7 86 yX3_turn cX3_turn 1 (some .int) 0 := ⟨xm_mem 1083 (by decide +kernel) rfl, xm_mem 60 (by decide +kernel) rfl, xm_mem 1086 (by decide +kernel) rfl, by decide, by decide +kernel⟩
theorem xl_V_X3_turn : Cond.instanceMethod yX3_turn ∈ xm_tb ∧ Cond.selects yX3_turn.cls yX3_turn yX3_turn ∈ xm_tb := ⟨xm_mem 1084 (by decide +kernel) rfl, xm_mem 1085 (by decide +kernel) rfl⟩
theorem xl_M_X7_90 : xm_L RX7 90 yX3_opens cX3_opens 1 (some .boolean) 0 := ⟨xm_mem 1087 (by decide +kernel) rfl, xm_mem 60 (by decide +kernel) rfl, xm_mem 1090 (by decide +kernel) rfl, by decide, by decide +kernel⟩
theorem xl_V_X3_opens : Cond.instanceMethod yX3_opens ∈ xm_tb ∧ Cond.selects yX3_opens.cls yX3_opens yX3_opens ∈ xm_tb := ⟨xm_mem 1088 (by decide +kernel) rfl, xm_mem 1089 (by decide +kernel) rfl⟩
theorem xl_M_X0_76 : xm_L RX0 76 yX0_breaksATitle cX0_breaksATitle 4 (some .boolean) 3 := ⟨xm_mem 1091 (by decide +kernel) rfl, xm_mem 61 (by decide +kernel) rfl, xm_mem 1093 (by decide +kernel) rfl, by decide, by decide +kernel⟩
theorem xl_S_X0_breaksATitle : Cond.static yX0_breaksATitle ∈ xm_tb := xm_mem 1092 (by decide +kernel) rfl
theorem xl_M_X0_80 : xm_L RX0 80 yX3_isOfLoss cX3_isOfLoss 1 (some .boolean) 0 := ⟨xm_mem 1094 (by decide +kernel) rfl, xm_mem 60 (by decide +kernel) rfl, xm_mem 473 (by decide +kernel) rfl, by decide, by decide +kernel⟩
theorem xl_M_X0_97 : xm_L RX0 97 yX7_grantOf cX7_grantOf 3 (some (.object "HeirRoll$Entry")) 1 := ⟨xm_mem 1095 (by decide +kernel) rfl, xm_mem 43 (by decide +kernel) rfl, xm_mem 430 (by decide +kernel) rfl, by decide, by decide +kernel⟩
theorem xl_M_X10_124 : xm_L RX10 124 yX7_dropLatest cX7_dropLatest 2 none 0 := ⟨xm_mem 1096 (by decide +kernel) rfl, xm_mem 43 (by decide +kernel) rfl, xm_mem 1099 (by decide +kernel) rfl, by decide, by decide +kernel⟩
theorem xl_V_X7_dropLatest : Cond.instanceMethod yX7_dropLatest ∈ xm_tb ∧ Cond.selects yX7_dropLatest.cls yX7_dropLatest yX7_dropLatest ∈ xm_tb := ⟨xm_mem 1097 (by decide +kernel) rfl, xm_mem 1098 (by decide +kernel) rfl⟩
theorem xl_M_X10_127 : xm_L RX10 127 yX10_settle cX10_settle 2 none 0 := ⟨xm_mem 1100 (by decide +kernel) rfl, xm_mem 40 (by decide +kernel) rfl, xm_mem 1103 (by decide +kernel) rfl, by decide, by decide +kernel⟩
theorem xl_V_X10_settle : Cond.instanceMethod yX10_settle ∈ xm_tb ∧ Cond.selects yX10_settle.cls yX10_settle yX10_settle ∈ xm_tb := ⟨xm_mem 1102 (by decide +kernel) rfl, xm_mem 34 (by decide +kernel) rfl⟩
theorem xl_M_X10_253 : xm_L RX10 253 yX2_rebuild cX2_rebuild 3 none 1 := ⟨xm_mem 1104 (by decide +kernel) rfl, xm_mem 46 (by decide +kernel) rfl, xm_mem 1107 (by decide +kernel) rfl, by decide, by decide +kernel⟩
theorem xl_V_X2_rebuild : Cond.instanceMethod yX2_rebuild ∈ xm_tb ∧ Cond.selects yX2_rebuild.cls yX2_rebuild yX2_rebuild ∈ xm_tb := ⟨xm_mem 1105 (by decide +kernel) rfl, xm_mem 1106 (by decide +kernel) rfl⟩
theorem xl_M_X2_37 : xm_L RX2 37 yX5_has cX5_has 2 (some .boolean) 1 := ⟨xm_mem 1108 (by decide +kernel) rfl, xm_mem 44 (by decide +kernel) rfl, xm_mem 366 (by decide +kernel) rfl, by decide, by decide +kernel⟩
theorem xl_M_X2_43 : xm_L RX2 43 yX2_isBornLegit cX2_isBornLegit 7 (some .boolean) 2 := ⟨xm_mem 1109 (by decide +kernel) rfl, xm_mem 46 (by decide +kernel) rfl, xm_mem 1112 (by decide +kernel) rfl, by decide, by decide +kernel⟩
theorem xl_V_X2_isBornLegit : Cond.instanceMethod yX2_isBornLegit ∈ xm_tb ∧ Cond.selects yX2_isBornLegit.cls yX2_isBornLegit yX2_isBornLegit ∈ xm_tb := ⟨xm_mem 1111 (by decide +kernel) rfl, xm_mem 35 (by decide +kernel) rfl⟩
theorem xl_M_X2_57 : xm_L RX2 57 yX5_father cX5_father 2 (some .int) 1 := ⟨xm_mem 1113 (by decide +kernel) rfl, xm_mem 44 (by decide +kernel) rfl, xm_mem 389 (by decide +kernel) rfl, by decide, by decide +kernel⟩
theorem xl_M_X2_61 : xm_L RX2 61 yX5_mother cX5_mother 2 (some .int) 1 := ⟨xm_mem 1114 (by decide +kernel) rfl, xm_mem 44 (by decide +kernel) rfl, xm_mem 393 (by decide +kernel) rfl, by decide, by decide +kernel⟩
theorem xl_M_X2_64 : xm_L RX2 64 yX5_bornOn cX5_bornOn 2 (some .int) 1 := ⟨xm_mem 1115 (by decide +kernel) rfl, xm_mem 44 (by decide +kernel) rfl, xm_mem 382 (by decide +kernel) rfl, by decide, by decide +kernel⟩
theorem xl_M_X2_67 : xm_L RX2 67 yX9_joined cX9_joined 5 (some .boolean) 3 := ⟨xm_mem 1116 (by decide +kernel) rfl, xm_mem 45 (by decide +kernel) rfl, xm_mem 1119 (by decide +kernel) rfl, by decide, by decide +kernel⟩
theorem xl_V_X9_joined : Cond.instanceMethod yX9_joined ∈ xm_tb ∧ Cond.selects yX9_joined.cls yX9_joined yX9_joined ∈ xm_tb := ⟨xm_mem 1117 (by decide +kernel) rfl, xm_mem 1118 (by decide +kernel) rfl⟩
theorem xl_M_X2_73 : xm_L RX2 73 yX5_deadOn cX5_deadOn 2 (some .int) 1 := ⟨xm_mem 1120 (by decide +kernel) rfl, xm_mem 44 (by decide +kernel) rfl, xm_mem 397 (by decide +kernel) rfl, by decide, by decide +kernel⟩
theorem xl_M_X2_47 : xm_L RX2 47 yX2_sortIn cX2_sortIn 3 none 1 := ⟨xm_mem 1121 (by decide +kernel) rfl, xm_mem 46 (by decide +kernel) rfl, xm_mem 1124 (by decide +kernel) rfl, by decide, by decide +kernel⟩
theorem xl_V_X2_sortIn : Cond.instanceMethod yX2_sortIn ∈ xm_tb ∧ Cond.selects yX2_sortIn.cls yX2_sortIn yX2_sortIn ∈ xm_tb := ⟨xm_mem 1123 (by decide +kernel) rfl, xm_mem 36 (by decide +kernel) rfl⟩
theorem xl_M_X2_76 : xm_L RX2 76 yX5_isElder cX5_isElder 3 (some .boolean) 2 := ⟨xm_mem 1125 (by decide +kernel) rfl, xm_mem 44 (by decide +kernel) rfl, xm_mem 1128 (by decide +kernel) rfl, by decide, by decide +kernel⟩
theorem xl_V_X5_isElder : Cond.instanceMethod yX5_isElder ∈ xm_tb ∧ Cond.selects yX5_isElder.cls yX5_isElder yX5_isElder ∈ xm_tb := ⟨xm_mem 1126 (by decide +kernel) rfl, xm_mem 1127 (by decide +kernel) rfl⟩
theorem xl_M_X5_83 : xm_L RX5 83 yX5_bornOn cX5_bornOn 2 (some .int) 1 := ⟨xm_mem 1129 (by decide +kernel) rfl, xm_mem 44 (by decide +kernel) rfl, xm_mem 382 (by decide +kernel) rfl, by decide, by decide +kernel⟩
theorem xl_M_X2_51 : xm_L RX2 51 yX2_listKids cX2_listKids 6 none 0 := ⟨xm_mem 1130 (by decide +kernel) rfl, xm_mem 46 (by decide +kernel) rfl, xm_mem 1133 (by decide +kernel) rfl, by decide, by decide +kernel⟩
theorem xl_V_X2_listKids : Cond.instanceMethod yX2_listKids ∈ xm_tb ∧ Cond.selects yX2_listKids.cls yX2_listKids yX2_listKids ∈ xm_tb := ⟨xm_mem 1132 (by decide +kernel) rfl, xm_mem 37 (by decide +kernel) rfl⟩
theorem xl_M_X2_80 : xm_L RX2 80 yX2_isLegit cX2_isLegit 2 (some .boolean) 1 := ⟨xm_mem 1134 (by decide +kernel) rfl, xm_mem 46 (by decide +kernel) rfl, xm_mem 401 (by decide +kernel) rfl, by decide, by decide +kernel⟩
theorem xl_M_X2_54 : xm_L RX2 54 yX2_gatherBodies cX2_gatherBodies 5 none 0 := ⟨xm_mem 1135 (by decide +kernel) rfl, xm_mem 46 (by decide +kernel) rfl, xm_mem 1138 (by decide +kernel) rfl, by decide, by decide +kernel⟩
theorem xl_V_X2_gatherBodies : Cond.instanceMethod yX2_gatherBodies ∈ xm_tb ∧ Cond.selects yX2_gatherBodies.cls yX2_gatherBodies yX2_gatherBodies ∈ xm_tb := ⟨xm_mem 1137 (by decide +kernel) rfl, xm_mem 38 (by decide +kernel) rfl⟩
theorem xl_M_X2_83 : xm_L RX2 83 yX2_kidCount cX2_kidCount 2 (some .int) 1 := ⟨xm_mem 1139 (by decide +kernel) rfl, xm_mem 46 (by decide +kernel) rfl, xm_mem 494 (by decide +kernel) rfl, by decide, by decide +kernel⟩
theorem xl_M_X2_86 : xm_L RX2 86 yX2_kid cX2_kid 4 (some .int) 2 := ⟨xm_mem 1140 (by decide +kernel) rfl, xm_mem 46 (by decide +kernel) rfl, xm_mem 498 (by decide +kernel) rfl, by decide, by decide +kernel⟩
theorem xl_M_X2_90 : xm_L RX2 90 yX2_body cX2_body 2 (some .long) 1 := ⟨xm_mem 1141 (by decide +kernel) rfl, xm_mem 46 (by decide +kernel) rfl, xm_mem 540 (by decide +kernel) rfl, by decide, by decide +kernel⟩
theorem xl_M_X10_256 : xm_L RX10 256 yX4_forget cX4_forget 1 none 0 := ⟨xm_mem 1142 (by decide +kernel) rfl, xm_mem 47 (by decide +kernel) rfl, xm_mem 1145 (by decide +kernel) rfl, by decide, by decide +kernel⟩
theorem xl_V_X4_forget : Cond.instanceMethod yX4_forget ∈ xm_tb ∧ Cond.selects yX4_forget.cls yX4_forget yX4_forget ∈ xm_tb := ⟨xm_mem 1143 (by decide +kernel) rfl, xm_mem 1144 (by decide +kernel) rfl⟩
theorem xl_M_X10_259 : xm_L RX10 259 yX1_forget cX1_forget 1 none 0 := ⟨xm_mem 1146 (by decide +kernel) rfl, xm_mem 48 (by decide +kernel) rfl, xm_mem 1149 (by decide +kernel) rfl, by decide, by decide +kernel⟩
theorem xl_V_X1_forget : Cond.instanceMethod yX1_forget ∈ xm_tb ∧ Cond.selects yX1_forget.cls yX1_forget yX1_forget ∈ xm_tb := ⟨xm_mem 1147 (by decide +kernel) rfl, xm_mem 1148 (by decide +kernel) rfl⟩
theorem xl_M_X10_130 : xm_L RX10 130 yX7_size cX7_size 1 (some .int) 0 := ⟨xm_mem 1150 (by decide +kernel) rfl, xm_mem 43 (by decide +kernel) rfl, xm_mem 451 (by decide +kernel) rfl, by decide, by decide +kernel⟩
theorem xl_M_L_81 : xm_L RL 81 yL_born cL_born 5 (some (.object "java/lang/StringBuilder")) 5 := ⟨xm_mem 1151 (by decide +kernel) rfl, xm_mem 39 (by decide +kernel) rfl, xm_mem 1153 (by decide +kernel) rfl, by decide, by decide +kernel⟩
theorem xl_S_L_born : Cond.static yL_born ∈ xm_tb := xm_mem 1152 (by decide +kernel) rfl
theorem xl_M_L_47 : xm_L RL 47 yJ4_append_15ec4 cJ4_append_15ec4 2 (some (.object "java/lang/StringBuilder")) 1 := ⟨xm_mem 1155 (by decide +kernel) rfl, xm_mem 50 (by decide +kernel) rfl, xm_mem 1158 (by decide +kernel) rfl, by decide, by decide +kernel⟩
theorem xl_V_J4_append_15ec4 : Cond.instanceMethod yJ4_append_15ec4 ∈ xm_tb ∧ Cond.selects yJ4_append_15ec4.cls yJ4_append_15ec4 yJ4_append_15ec4 ∈ xm_tb := ⟨xm_mem 1156 (by decide +kernel) rfl, xm_mem 1157 (by decide +kernel) rfl⟩
theorem xl_M_J4_29 : xm_L RJ4 29 yJ5_append_cf1ce cJ5_append_cf1ce 3 (some (.object "java/lang/AbstractStringBuilder")) 1 := ⟨xm_mem 1159 (by decide +kernel) rfl, xm_mem 49 (by decide +kernel) rfl, xm_mem 1161 (by decide +kernel) rfl, by decide, by decide +kernel⟩
theorem xl_I_J5_append_cf1ce : Cond.instanceMethod yJ5_append_cf1ce ∈ xm_tb := xm_mem 1160 (by decide +kernel) rfl
theorem xl_M_J5_204 : xm_L RJ5 204 yJ5_appendNull_278bc cJ5_appendNull_278bc 3 (some (.object "java/lang/AbstractStringBuilder")) 0 := ⟨xm_mem 1162 (by decide +kernel) rfl, xm_mem 49 (by decide +kernel) rfl, xm_mem 1165 (by decide +kernel) rfl, by decide, by decide +kernel⟩
theorem xl_I_J5_appendNull_278bc : Cond.instanceMethod yJ5_appendNull_278bc ∈ xm_tb := xm_mem 1164 (by decide +kernel) rfl
theorem xl_M_J5_226 : xm_L RJ5 226 yJ2_putCharsAt_cd4e5 cJ2_putCharsAt_cd4e5 7 (some .int) 6 := ⟨xm_mem 1166 (by decide +kernel) rfl, xm_mem 52 (by decide +kernel) rfl, xm_mem 1168 (by decide +kernel) rfl, by decide, by decide +kernel⟩
theorem xl_S_J2_putCharsAt_cd4e5 : Cond.static yJ2_putCharsAt_cd4e5 ∈ xm_tb := xm_mem 1167 (by decide +kernel) rfl
theorem xl_M_J2_96 : xm_L RJ2 96 yJ2_checkBoundsBeginEnd_d044e cJ2_checkBoundsBeginEnd_d044e 3 none 3 := ⟨xm_mem 1169 (by decide +kernel) rfl, xm_mem 52 (by decide +kernel) rfl, xm_mem 1171 (by decide +kernel) rfl, by decide, by decide +kernel⟩
theorem xl_S_J2_checkBoundsBeginEnd_d044e : Cond.static yJ2_checkBoundsBeginEnd_d044e ∈ xm_tb := xm_mem 1170 (by decide +kernel) rfl
theorem xl_M_J2_241 : xm_L RJ2 241 yJ0_checkBoundsBeginEnd_23922 cJ0_checkBoundsBeginEnd_23922 3 none 3 := ⟨xm_mem 1172 (by decide +kernel) rfl, xm_mem 51 (by decide +kernel) rfl, xm_mem 1174 (by decide +kernel) rfl, by decide, by decide +kernel⟩
theorem xl_S_J0_checkBoundsBeginEnd_23922 : Cond.static yJ0_checkBoundsBeginEnd_23922 ∈ xm_tb := xm_mem 1173 (by decide +kernel) rfl
theorem xl_M_J0_1062 : xm_L RJ0 1062 yJ3_checkFromToIndex_8c36e cJ3_checkFromToIndex_8c36e 4 (some .int) 4 := ⟨xm_mem 1175 (by decide +kernel) rfl, xm_mem 57 (by decide +kernel) rfl, xm_mem 1177 (by decide +kernel) rfl, by decide, by decide +kernel⟩
theorem xl_S_J3_checkFromToIndex_8c36e : Cond.static yJ3_checkFromToIndex_8c36e ∈ xm_tb := xm_mem 1176 (by decide +kernel) rfl
theorem xl_M_J2_111 : xm_L RJ2 111 yJ2_putChar_b72d1 cJ2_putChar_b72d1 3 none 3 := ⟨xm_mem 1178 (by decide +kernel) rfl, xm_mem 52 (by decide +kernel) rfl, xm_mem 1180 (by decide +kernel) rfl, by decide, by decide +kernel⟩
theorem xl_S_J2_putChar_b72d1 : Cond.static yJ2_putChar_b72d1 ∈ xm_tb := xm_mem 1179 (by decide +kernel) rfl
theorem xl_M_J5_32 : xm_L RJ5 32 yJ0_length_8abf5 cJ0_length_8abf5 1 (some .int) 0 := ⟨xm_mem 1181 (by decide +kernel) rfl, xm_mem 51 (by decide +kernel) rfl, xm_mem 911 (by decide +kernel) rfl, by decide, by decide +kernel⟩
theorem xl_M_J5_208 : xm_L RJ5 208 yJ5_putStringAt_47b60 cJ5_putStringAt_47b60 3 none 2 := ⟨xm_mem 1182 (by decide +kernel) rfl, xm_mem 49 (by decide +kernel) rfl, xm_mem 1185 (by decide +kernel) rfl, by decide, by decide +kernel⟩
theorem xl_I_J5_putStringAt_47b60 : Cond.instanceMethod yJ5_putStringAt_47b60 ∈ xm_tb := xm_mem 1184 (by decide +kernel) rfl
theorem xl_M_J5_397 : xm_L RJ5 397 yJ5_inflateIfNeededFor_a7421 cJ5_inflateIfNeededFor_a7421 2 none 1 := ⟨xm_mem 1186 (by decide +kernel) rfl, xm_mem 49 (by decide +kernel) rfl, xm_mem 1189 (by decide +kernel) rfl, by decide, by decide +kernel⟩
theorem xl_I_J5_inflateIfNeededFor_a7421 : Cond.instanceMethod yJ5_inflateIfNeededFor_a7421 ∈ xm_tb := xm_mem 1188 (by decide +kernel) rfl
theorem xl_M_J5_40 : xm_L RJ5 40 yJ0_coder_7d493 cJ0_coder_7d493 1 (some .byte) 0 := ⟨xm_mem 1190 (by decide +kernel) rfl, xm_mem 51 (by decide +kernel) rfl, xm_mem 915 (by decide +kernel) rfl, by decide, by decide +kernel⟩
theorem xl_M_J5_195 : xm_L RJ5 195 yJ5_inflate_da8c8 cJ5_inflate_da8c8 2 none 0 := ⟨xm_mem 1191 (by decide +kernel) rfl, xm_mem 49 (by decide +kernel) rfl, xm_mem 1194 (by decide +kernel) rfl, by decide, by decide +kernel⟩
theorem xl_I_J5_inflate_da8c8 : Cond.instanceMethod yJ5_inflate_da8c8 ∈ xm_tb := xm_mem 1193 (by decide +kernel) rfl
theorem xl_M_J5_26 : xm_L RJ5 26 yJ2_newBytesFor_77867 cJ2_newBytesFor_77867 1 (some (.array .byte)) 1 := ⟨xm_mem 1195 (by decide +kernel) rfl, xm_mem 52 (by decide +kernel) rfl, xm_mem 1197 (by decide +kernel) rfl, by decide, by decide +kernel⟩
theorem xl_S_J2_newBytesFor_77867 : Cond.static yJ2_newBytesFor_77867 ∈ xm_tb := xm_mem 1196 (by decide +kernel) rfl
theorem xl_M_J2_11 : xm_L RJ2 11 yJ2_newBytesLength_0f7a4 cJ2_newBytesLength_0f7a4 1 (some .int) 1 := ⟨xm_mem 1198 (by decide +kernel) rfl, xm_mem 52 (by decide +kernel) rfl, xm_mem 1200 (by decide +kernel) rfl, by decide, by decide +kernel⟩
theorem xl_S_J2_newBytesLength_0f7a4 : Cond.static yJ2_newBytesLength_0f7a4 ∈ xm_tb := xm_mem 1199 (by decide +kernel) rfl
theorem xl_C_J2_20 : Cond.constant RJ2 20 (xm_J 1073741823) ∈ xm_tb := xm_mem 1201 (by decide +kernel) rfl
theorem xl_M_J5_125 : xm_L RJ5 125 yJ1_inflate_0e8fd cJ1_inflate_0e8fd 5 none 5 := ⟨xm_mem 1202 (by decide +kernel) rfl, xm_mem 58 (by decide +kernel) rfl, xm_mem 1204 (by decide +kernel) rfl, by decide, by decide +kernel⟩
theorem xl_S_J1_inflate_0e8fd : Cond.static yJ1_inflate_0e8fd ∈ xm_tb := xm_mem 1203 (by decide +kernel) rfl
theorem xl_M_J1_240 : xm_L RJ1 240 yJ2_inflate_0e8fd cJ2_inflate_0e8fd 6 none 5 := ⟨xm_mem 1205 (by decide +kernel) rfl, xm_mem 52 (by decide +kernel) rfl, xm_mem 1207 (by decide +kernel) rfl, by decide, by decide +kernel⟩
theorem xl_S_J2_inflate_0e8fd : Cond.static yJ2_inflate_0e8fd ∈ xm_tb := xm_mem 1206 (by decide +kernel) rfl
theorem xl_M_J2_173 : xm_L RJ2 173 yJ2_checkBoundsOffCount_d044e cJ2_checkBoundsOffCount_d044e 3 none 3 := ⟨xm_mem 1208 (by decide +kernel) rfl, xm_mem 52 (by decide +kernel) rfl, xm_mem 1210 (by decide +kernel) rfl, by decide, by decide +kernel⟩
theorem xl_S_J2_checkBoundsOffCount_d044e : Cond.static yJ2_checkBoundsOffCount_d044e ∈ xm_tb := xm_mem 1209 (by decide +kernel) rfl
theorem xl_M_J2_419 : xm_L RJ2 419 yJ0_checkBoundsOffCount_cabcc cJ0_checkBoundsOffCount_cabcc 3 (some .int) 3 := ⟨xm_mem 1211 (by decide +kernel) rfl, xm_mem 51 (by decide +kernel) rfl, xm_mem 1213 (by decide +kernel) rfl, by decide, by decide +kernel⟩
theorem xl_S_J0_checkBoundsOffCount_cabcc : Cond.static yJ0_checkBoundsOffCount_cabcc ∈ xm_tb := xm_mem 1212 (by decide +kernel) rfl
theorem xl_M_J0_1065 : xm_L RJ0 1065 yJ3_checkFromIndexSize_8c36e cJ3_checkFromIndexSize_8c36e 4 (some .int) 4 := ⟨xm_mem 1214 (by decide +kernel) rfl, xm_mem 57 (by decide +kernel) rfl, xm_mem 1216 (by decide +kernel) rfl, by decide, by decide +kernel⟩
theorem xl_S_J3_checkFromIndexSize_8c36e : Cond.static yJ3_checkFromIndexSize_8c36e ∈ xm_tb := xm_mem 1215 (by decide +kernel) rfl
theorem xl_M_J5_399 : xm_L RJ5 399 yJ0_getBytes_840e7 cJ0_getBytes_840e7 4 none 3 := ⟨xm_mem 1217 (by decide +kernel) rfl, xm_mem 51 (by decide +kernel) rfl, xm_mem 1220 (by decide +kernel) rfl, by decide, by decide +kernel⟩
theorem xl_V_J0_getBytes_840e7 : Cond.instanceMethod yJ0_getBytes_840e7 ∈ xm_tb ∧ Cond.selects yJ0_getBytes_840e7.cls yJ0_getBytes_840e7 yJ0_getBytes_840e7 ∈ xm_tb := ⟨xm_mem 1218 (by decide +kernel) rfl, xm_mem 1219 (by decide +kernel) rfl⟩
theorem xl_M_J0_106 : xm_L RJ0 106 yJ1_inflate_0e8fd cJ1_inflate_0e8fd 5 none 5 := ⟨xm_mem 1222 (by decide +kernel) rfl, xm_mem 58 (by decide +kernel) rfl, xm_mem 1204 (by decide +kernel) rfl, by decide, by decide +kernel⟩
theorem xl_M_L_51 : xm_L RL 51 yJ4_append_bf812 cJ4_append_bf812 2 (some (.object "java/lang/StringBuilder")) 1 := ⟨xm_mem 1223 (by decide +kernel) rfl, xm_mem 50 (by decide +kernel) rfl, xm_mem 1226 (by decide +kernel) rfl, by decide, by decide +kernel⟩
theorem xl_V_J4_append_bf812 : Cond.instanceMethod yJ4_append_bf812 ∈ xm_tb ∧ Cond.selects yJ4_append_bf812.cls yJ4_append_bf812 yJ4_append_bf812 ∈ xm_tb := ⟨xm_mem 1224 (by decide +kernel) rfl, xm_mem 1225 (by decide +kernel) rfl⟩
theorem xl_M_J4_53 : xm_L RJ4 53 yJ5_append_c97b9 cJ5_append_c97b9 4 (some (.object "java/lang/AbstractStringBuilder")) 1 := ⟨xm_mem 1227 (by decide +kernel) rfl, xm_mem 49 (by decide +kernel) rfl, xm_mem 1229 (by decide +kernel) rfl, by decide, by decide +kernel⟩
theorem xl_I_J5_append_c97b9 : Cond.instanceMethod yJ5_append_c97b9 ∈ xm_tb := xm_mem 1228 (by decide +kernel) rfl
theorem xl_M_J5_245 : xm_L RJ5 245 yJ6_stringSize_0f7a4 cJ6_stringSize_0f7a4 4 (some .int) 1 := ⟨xm_mem 1230 (by decide +kernel) rfl, xm_mem 59 (by decide +kernel) rfl, xm_mem 1232 (by decide +kernel) rfl, by decide, by decide +kernel⟩
theorem xl_S_J6_stringSize_0f7a4 : Cond.static yJ6_stringSize_0f7a4 ∈ xm_tb := xm_mem 1231 (by decide +kernel) rfl
theorem xl_M_J5_248 : xm_L RJ5 248 yJ6_getChars_ba4f3 cJ6_getChars_ba4f3 7 (some .int) 3 := ⟨xm_mem 1233 (by decide +kernel) rfl, xm_mem 59 (by decide +kernel) rfl, xm_mem 1235 (by decide +kernel) rfl, by decide, by decide +kernel⟩
theorem xl_S_J6_getChars_ba4f3 : Cond.static yJ6_getChars_ba4f3 ∈ xm_tb := xm_mem 1234 (by decide +kernel) rfl
theorem xl_M_J5_251 : xm_L RJ5 251 yJ2_getChars_46870 cJ2_getChars_46870 5 (some .int) 4 := ⟨xm_mem 1240 (by decide +kernel) rfl, xm_mem 52 (by decide +kernel) rfl, xm_mem 1242 (by decide +kernel) rfl, by decide, by decide +kernel⟩
theorem xl_S_J2_getChars_46870 : Cond.static yJ2_getChars_46870 ∈ xm_tb := xm_mem 1241 (by decide +kernel) rfl
theorem xl_M_J2_393 : xm_L RJ2 393 yJ2_getChars_ba4f3 cJ2_getChars_ba4f3 7 (some .int) 3 := ⟨xm_mem 1243 (by decide +kernel) rfl, xm_mem 52 (by decide +kernel) rfl, xm_mem 1245 (by decide +kernel) rfl, by decide, by decide +kernel⟩
theorem xl_S_J2_getChars_ba4f3 : Cond.static yJ2_getChars_ba4f3 ∈ xm_tb := xm_mem 1244 (by decide +kernel) rfl
theorem xl_M_L_91 : xm_L RL 91 yL_text cL_text 5 (some (.object "java/lang/StringBuilder")) 5 := ⟨xm_mem 1253 (by decide +kernel) rfl, xm_mem 39 (by decide +kernel) rfl, xm_mem 1255 (by decide +kernel) rfl, by decide, by decide +kernel⟩
theorem xl_S_L_text : Cond.static yL_text ∈ xm_tb := xm_mem 1254 (by decide +kernel) rfl
theorem xl_M_L_64 : xm_L RL 64 yJ4_append_cf468 cJ4_append_cf468 2 (some (.object "java/lang/StringBuilder")) 1 := ⟨xm_mem 1256 (by decide +kernel) rfl, xm_mem 50 (by decide +kernel) rfl, xm_mem 1259 (by decide +kernel) rfl, by decide, by decide +kernel⟩
theorem xl_V_J4_append_cf468 : Cond.instanceMethod yJ4_append_cf468 ∈ xm_tb ∧ Cond.selects yJ4_append_cf468.cls yJ4_append_cf468 yJ4_append_cf468 ∈ xm_tb := ⟨xm_mem 1257 (by decide +kernel) rfl, xm_mem 1258 (by decide +kernel) rfl⟩
theorem xl_M_J4_50 : xm_L RJ4 50 yJ5_append_3fe6f cJ5_append_3fe6f 2 (some (.object "java/lang/AbstractStringBuilder")) 1 := ⟨xm_mem 1260 (by decide +kernel) rfl, xm_mem 49 (by decide +kernel) rfl, xm_mem 1262 (by decide +kernel) rfl, by decide, by decide +kernel⟩
theorem xl_I_J5_append_3fe6f : Cond.instanceMethod yJ5_append_3fe6f ∈ xm_tb := xm_mem 1261 (by decide +kernel) rfl
theorem xl_M_J5_191 : xm_L RJ5 191 yJ1_canEncode_fc78d cJ1_canEncode_fc78d 1 (some .boolean) 1 := ⟨xm_mem 1263 (by decide +kernel) rfl, xm_mem 58 (by decide +kernel) rfl, xm_mem 1265 (by decide +kernel) rfl, by decide, by decide +kernel⟩
theorem xl_S_J1_canEncode_fc78d : Cond.static yJ1_canEncode_fc78d ∈ xm_tb := xm_mem 1264 (by decide +kernel) rfl
theorem xl_M_J5_197 : xm_L RJ5 197 yJ2_putCharSB_b72d1 cJ2_putCharSB_b72d1 3 none 3 := ⟨xm_mem 1266 (by decide +kernel) rfl, xm_mem 52 (by decide +kernel) rfl, xm_mem 1268 (by decide +kernel) rfl, by decide, by decide +kernel⟩
theorem xl_S_J2_putCharSB_b72d1 : Cond.static yJ2_putCharSB_b72d1 ∈ xm_tb := xm_mem 1267 (by decide +kernel) rfl
theorem xl_M_L_115 : xm_L RL 115 yJ9_min_7cf53 cJ9_min_7cf53 2 (some .int) 2 := ⟨xm_mem 1269 (by decide +kernel) rfl, xm_mem 54 (by decide +kernel) rfl, xm_mem 682 (by decide +kernel) rfl, by decide, by decide +kernel⟩
theorem xl_K_L_10 : Cond.classLink RL 10 (xm_cR 10) ∈ xm_tb := xm_mem 1270 (by decide +kernel) rfl
theorem xl_T_10 : Cond.instantiable (xm_cR 10) (xm_nf 10) ∈ xm_tb := xm_mem 1271 (by decide +kernel) rfl
theorem xl_M_L_68 : xm_L RL 68 yJ4_init_da8c8 cJ4_init_da8c8 1 none 0 := ⟨xm_mem 1272 (by decide +kernel) rfl, xm_mem 50 (by decide +kernel) rfl, xm_mem 1274 (by decide +kernel) rfl, by decide, by decide +kernel⟩
theorem xl_I_J4_init_da8c8 : Cond.instanceMethod yJ4_init_da8c8 ∈ xm_tb ∧ yJ4_init_da8c8.name = "<init>" := ⟨xm_mem 1273 (by decide +kernel) rfl, rfl⟩
theorem xl_M_J4_1 : xm_L RJ4 1 yJ5_init_d00df cJ5_init_d00df 2 none 1 := ⟨xm_mem 1275 (by decide +kernel) rfl, xm_mem 49 (by decide +kernel) rfl, xm_mem 1277 (by decide +kernel) rfl, by decide, by decide +kernel⟩
theorem xl_I_J5_init_d00df : Cond.instanceMethod yJ5_init_d00df ∈ xm_tb ∧ yJ5_init_d00df.name = "<init>" := ⟨xm_mem 1276 (by decide +kernel) rfl, rfl⟩
theorem xl_O_J5_3 : Cond.methodLink RJ5 3 objectInit ∈ xm_tb := xm_mem 1278 (by decide +kernel) rfl
theorem xl_F_J5_15 : xm_F RJ5 15 10 0 := ⟨by decide, by decide, xm_mem 1279 (by decide +kernel) rfl⟩
theorem xl_F_J5_22 : xm_F RJ5 22 10 1 := ⟨by decide, by decide, xm_mem 1280 (by decide +kernel) rfl⟩
theorem xl_F_J5_73 : xm_F RJ5 73 10 2 := ⟨by decide, by decide, xm_mem 1281 (by decide +kernel) rfl⟩
theorem xl_F_J5_79 : xm_F RJ5 79 10 3 := ⟨by decide, by decide, xm_mem 1282 (by decide +kernel) rfl⟩
theorem xl_C_L_103 : Cond.constant RL 103 (xm_J 90000) ∈ xm_tb := xm_mem 1299 (by decide +kernel) rfl
theorem xl_C_L_114 : Cond.constant RL 114 (xm_J 95000) ∈ xm_tb := xm_mem 1302 (by decide +kernel) rfl
theorem xl_C_L_123 : Cond.constant RL 123 (xm_J 99000) ∈ xm_tb := xm_mem 1303 (by decide +kernel) rfl
theorem xl_C_L_143 : Cond.constant RL 143 (xm_J 99999) ∈ xm_tb := xm_mem 1304 (by decide +kernel) rfl
theorem xl_U_J5_length_8abf5 : Cond.sameMethod yJ5_length_8abf5.cls yJ5_length_8abf5.cls yJ5_length_8abf5.name yJ5_length_8abf5.desc ∈ xm_tb := xm_mem 1305 (by decide +kernel) rfl
theorem xl_U_J5_charAt_5068e : Cond.sameMethod yJ5_charAt_5068e.cls yJ5_charAt_5068e.cls yJ5_charAt_5068e.name yJ5_charAt_5068e.desc ∈ xm_tb := xm_mem 1306 (by decide +kernel) rfl
theorem xl_U_J5_setLength_d00df : Cond.sameMethod yJ5_setLength_d00df.cls yJ5_setLength_d00df.cls yJ5_setLength_d00df.name yJ5_setLength_d00df.desc ∈ xm_tb := xm_mem 1307 (by decide +kernel) rfl
theorem xl_U_J5_ensureCapacityInternal_d00df : Cond.sameMethod yJ5_ensureCapacityInternal_d00df.cls yJ5_ensureCapacityInternal_d00df.cls yJ5_ensureCapacityInternal_d00df.name yJ5_ensureCapacityInternal_d00df.desc ∈ xm_tb := xm_mem 1308 (by decide +kernel) rfl
theorem xl_U_J5_newCapacity_0f7a4 : Cond.sameMethod yJ5_newCapacity_0f7a4.cls yJ5_newCapacity_0f7a4.cls yJ5_newCapacity_0f7a4.name yJ5_newCapacity_0f7a4.desc ∈ xm_tb := xm_mem 1309 (by decide +kernel) rfl
theorem xl_U_J5_append_cf1ce : Cond.sameMethod yJ5_append_cf1ce.cls yJ5_append_cf1ce.cls yJ5_append_cf1ce.name yJ5_append_cf1ce.desc ∈ xm_tb := xm_mem 1310 (by decide +kernel) rfl
theorem xl_U_J5_appendNull_278bc : Cond.sameMethod yJ5_appendNull_278bc.cls yJ5_appendNull_278bc.cls yJ5_appendNull_278bc.name yJ5_appendNull_278bc.desc ∈ xm_tb := xm_mem 1311 (by decide +kernel) rfl
theorem xl_U_J5_putStringAt_47b60 : Cond.sameMethod yJ5_putStringAt_47b60.cls yJ5_putStringAt_47b60.cls yJ5_putStringAt_47b60.name yJ5_putStringAt_47b60.desc ∈ xm_tb := xm_mem 1312 (by decide +kernel) rfl
theorem xl_U_J5_inflateIfNeededFor_a7421 : Cond.sameMethod yJ5_inflateIfNeededFor_a7421.cls yJ5_inflateIfNeededFor_a7421.cls yJ5_inflateIfNeededFor_a7421.name yJ5_inflateIfNeededFor_a7421.desc ∈ xm_tb := xm_mem 1313 (by decide +kernel) rfl
theorem xl_U_J5_inflate_da8c8 : Cond.sameMethod yJ5_inflate_da8c8.cls yJ5_inflate_da8c8.cls yJ5_inflate_da8c8.name yJ5_inflate_da8c8.desc ∈ xm_tb := xm_mem 1314 (by decide +kernel) rfl
theorem xl_U_J5_append_c97b9 : Cond.sameMethod yJ5_append_c97b9.cls yJ5_append_c97b9.cls yJ5_append_c97b9.name yJ5_append_c97b9.desc ∈ xm_tb := xm_mem 1315 (by decide +kernel) rfl
theorem xl_U_J5_append_3fe6f : Cond.sameMethod yJ5_append_3fe6f.cls yJ5_append_3fe6f.cls yJ5_append_3fe6f.name yJ5_append_3fe6f.desc ∈ xm_tb := xm_mem 1316 (by decide +kernel) rfl
theorem xl_W_J5_ensureCapacityInternal_d00df : Cond.selects RJ4 yJ5_ensureCapacityInternal_d00df yJ5_ensureCapacityInternal_d00df ∈ xm_tb := xm_memS 0 rfl rfl
theorem xl_W_J5_newCapacity_0f7a4 : Cond.selects RJ4 yJ5_newCapacity_0f7a4 yJ5_newCapacity_0f7a4 ∈ xm_tb := xm_memS 1 rfl rfl
theorem xl_W_J5_putStringAt_47b60 : Cond.selects RJ4 yJ5_putStringAt_47b60 yJ5_putStringAt_47b60 ∈ xm_tb := xm_memS 2 rfl rfl
theorem xl_W_J5_inflateIfNeededFor_a7421 : Cond.selects RJ4 yJ5_inflateIfNeededFor_a7421 yJ5_inflateIfNeededFor_a7421 ∈ xm_tb := xm_memS 3 rfl rfl
end
section
/-! ===== rows for texts; the JDK's own methods ===== -/
def xm_slen (v : Int) : Int := (xm_ln.getD v.toNat 0 : Nat)
def xm_chs : List (List Int) := xm_tx.map (fun s => s.toList.map (fun c => (c.toNat : Int)))
def xm_chr (v k : Int) : Int := (xm_chs.getD v.toNat []).getD k.toNat 0
theorem xm_chr_ok : ∀ i, i < 24 → ∀ k, k < xm_ln.getD i 0 → ((((xm_by.getD i []).getD k 0 &&& 255).toUInt32 % 65536).toInt32) = xm_J ((xm_chs.getD i []).getD k 0) ∧ 0 ≤ (xm_chs.getD i []).getD k 0 ∧ (xm_chs.getD i []).getD k 0 ≤ 127 := by decide +kernel
theorem xm_ln_ok : ∀ i, i < 24 → xm_ln.getD i 0 < 100 := by decide +kernel
theorem xm_shr0 : ∀ n, n < 100 → xm_shr (n : Nat) 0 = n := by decide +kernel
theorem xm_cn {v : Int} (h : 0 ≤ v ∧ v ≤ 127) : narrow .char (.int (xm_J v)) = .int (xm_J v) := by
  obtain ⟨n, rfl⟩ : ∃ n : Nat, v = n := ⟨v.toNat, by omega⟩
  have : ∀ n, n < 128 → narrow .char (.int (xm_J (n : Nat))) = .int (xm_J (n : Nat)) := by decide +kernel
  exact this n (by omega)
def fj_length (σ : xm_Mem) (v : Int) : Option xm_Out := if 0 ≤ v ∧ v < 24 then some (σ, xm_slen v) else none
def fj_charAt (σ : xm_Mem) (v k : Int) : Option xm_Out := if (0 ≤ v ∧ v < 24) ∧ 0 ≤ k ∧ k < xm_slen v then some (σ, xm_chr v k) else none
section XS
variable {X : xm_X} {own : String} {cc : ByteArray} {nL fr mc ms kc sc : Nat} {r r1 r2 : Option xm_Out} {σ : xm_Mem} {pc : Nat} {l l' : List (Nat × Value)} {st : List Value}
theorem xm_S0 (hC : xm_C X own cc nL fr mc ms) : vk_S 24 xm_ln xm_by (xm_adK (xx_G X)) (xm_adV (xx_G X)) (xm_A X) (xx_s X) (xx_s X).heap :=
  vk_S.kept hC.2.2.2.2.2.1.2.1 (fun a _ hn => hC.2.2.2.2.2.2.2.2.1 a (Nat.not_lt.mp hn))
theorem xg_ldcS (hC : xm_C X own cc nL fr mc ms) {i id : Nat} (hu : (own, i, id) ∈ xm_use) (hd : decode cc pc = .ok (.ldc i, 2)) (k : xm_V X kc sc r σ (pc + 2) l (.ref (xm_adK (xx_G X) id) :: st)) : xm_V X kc sc r σ pc l st :=
  fun o ho H locs ls hR hS hL => va_ldcS hC.1 hC.2.1 hC.2.2.2.1 (hC.2.2.2.2.2.1.2.2.1 _ hu) hd (k o ho H locs ls hR hS hL)
theorem xg_ldcSW (hC : xm_C X own cc nL fr mc ms) {i id : Nat} (hu : (own, i, id) ∈ xm_use) (hd : decode cc pc = .ok (.ldc_w i, 3)) (k : xm_V X kc sc r σ (pc + 3) l (.ref (xm_adK (xx_G X) id) :: st)) : xm_V X kc sc r σ pc l st := by
  intro o ho H locs ls hR hS hL T hT Xs
  obtain ⟨t, a1, b1⟩ := k o ho H locs ls hR hS hL T hT Xs
  have hZ := hC.2.2.2.2.2.1.2.2.1 _ hu
  exact ⟨t, Jvm.Stand.ldcStringW Xs hC.1 hC.2.2.2.1 hZ.1 hZ.2 (g := F0 (xx_m X) pc ls st) rfl (by rw [hC.2.1]; exact hd) t a1, b1⟩
theorem xg_sval (hC : xm_C X RJ0 cc nL fr mc ms) {i : Nat} (hi : i < 24) (hd : decode cc pc = .ok (.getfield 9, 3)) (kk : xm_V X kc sc r σ (pc + 3) l (.ref (xm_adV (xx_G X) i) :: st)) : xm_V X kc sc r σ pc l (.ref (xm_adK (xx_G X) i) :: st) :=
  fun o ho H locs ls hR hS hL => vk_getf (o := "java/lang/String") (n := "value") (d := "[B") (ref := "java/lang/String") hC.1 hC.2.1 ((xm_S0 hC).1 i hi).2.2.1 hS hC.2.2.2.1 (hC.2.2.2.2.1 _ (xm_mem 1317 (by decide +kernel) rfl)) (fun _ h => h) hd (kk o ho H locs ls hR hS hL)
theorem xg_scod (hC : xm_C X RJ0 cc nL fr mc ms) {i : Nat} (hi : i < 24) (hd : decode cc pc = .ok (.getfield 15, 3)) (kk : xm_V X kc sc r σ (pc + 3) l (.int (xm_J 0) :: st)) : xm_V X kc sc r σ pc l (.ref (xm_adK (xx_G X) i) :: st) :=
  fun o ho H locs ls hR hS hL => vk_getf (o := "java/lang/String") (n := "coder") (d := "B") (ref := "java/lang/String") hC.1 hC.2.1 ((xm_S0 hC).1 i hi).2.1 hS hC.2.2.2.1 (hC.2.2.2.2.1 _ (xm_mem 1318 (by decide +kernel) rfl)) (fun _ h => h) hd (kk o ho H locs ls hR hS hL)
theorem xg_slen (hC : xm_C X own cc nL fr mc ms) {i : Nat} (hi : i < 24) (hd : decode cc pc = .ok (.arraylength, 1)) (kk : xm_V X kc sc r σ (pc + 1) l (.int (xm_J (xm_ln.getD i 0 : Nat)) :: st)) : xm_V X kc sc r σ pc l (.ref (xm_adV (xx_G X) i) :: st) :=
  fun o ho H locs ls hR hS hL => va_tlen hC.1 hC.2.1 ((xm_S0 hC).1 i hi).2.2.2 hS rfl hd (kk o ho H locs ls hR hS hL)
theorem xg_sbyte (hC : xm_C X own cc nL fr mc ms) {i : Nat} {k : Int} (hi : i < 24) (hk : xm_in k) (h : 0 ≤ k ∧ k < (xm_ln.getD i 0 : Nat)) (hd : decode cc pc = .ok (.baload, 1)) (kk : xm_V X kc sc r σ (pc + 1) l (.int ((xm_by.getD i []).getD k.toNat 0) :: st)) : xm_V X kc sc r σ pc l (.int (xm_J k) :: .ref (xm_adV (xx_G X) i) :: st) :=
  fun o ho H locs ls hR hS hL => va_tb hC.1 hC.2.1 ((xm_S0 hC).1 i hi).2.2.2 hS (xm_vp hk h) (by rw [xm_clamp hk]) hd (kk o ho H locs ls hR hS hL)
theorem xg_gcs (hC : xm_C X RJ0 cc nL fr mc ms) (hd : decode cc pc = .ok (.getstatic 38, 3)) (kk : xm_V X kc sc r σ (pc + 3) l (.int (xm_J 1) :: st)) : xm_V X kc sc r σ pc l st :=
  fun o ho H locs ls hR hS hL => va_gets (C := "java/lang/String") (n := "COMPACT_STRINGS") (d := "Z") (ref := "java/lang/String") hC.1 hC.2.1 (va_Z.kept hC.2.2.2.2.2.1.2.2.2.2.2.2.1 (fun a _ hn => hC.2.2.2.2.2.2.2.2.1 a (Nat.not_lt.mp hn))) hS hC.2.2.2.1 (hC.2.2.2.2.1 _ (xm_mem 916 (by decide +kernel) rfl)) (fun _ h => h) hd (kk o ho H locs ls hR hS hL)
theorem xg_gform (hC : xm_C X RJ0 cc nL fr mc ms) (hd : decode cc pc = .ok (.getstatic 1053, 3)) (kk : ∀ v : Value, (v = .null ∨ ∃ t, v = .ref t) → xm_V X kc sc r σ (pc + 3) l (v :: st)) : xm_V X kc sc r σ pc l st := by
  intro o ho H locs ls hR hS hL
  have hk := fun (a : Nat) (_ : a < (xm_H0 (xx_G X)).size) (hn : ¬ xm_A X a) => hC.2.2.2.2.2.2.2.2.1 a (Nat.not_lt.mp hn)
  have hl := hC.2.2.2.2.1 _ (xm_mem 686 (w := Cond.fieldLink RJ0 1053 "jdk/internal/util/Preconditions" "SIOOBE_FORMATTER" "Ljava/util/function/BiFunction;") (by decide +kernel) rfl)
  rcases hC.2.2.2.2.2.1.2.2.2.2.2.2.2.1 with h | ⟨t, h⟩
  · exact va_gets (C := "jdk/internal/util/Preconditions") hC.1 hC.2.1 (va_Z.kept h hk) hS hC.2.2.2.1 hl (fun _ h => h) hd (kk .null (Or.inl rfl) o ho H locs ls hR hS hL)
  · exact va_gets (C := "jdk/internal/util/Preconditions") hC.1 hC.2.1 (va_Z.kept h hk) hS hC.2.2.2.1 hl (fun _ h => h) hd (kk (.ref t) (Or.inr ⟨t, rfl⟩) o ho H locs ls hR hS hL)
/-- a return of byte or char -/
theorem xg_nret (hC : xm_C X own cc nL fr mc ms) {ty : FieldType} (hQ : xm_Rt X 1 (some ty) kc sc) {v : Int} (hv : xm_in v) (hn : narrow ty (.int (xm_J v)) = .int (xm_J v)) (hd : decode cc pc = .ok (.ireturn, 1)) : xm_V X kc sc (some (σ, v)) σ pc l [.int (xm_J v)] := by
  intro o ho H locs ls hR hS hL T hT Xs
  cases ho
  have hlocks := hC.2.2.2.2.2.2.1
  obtain ⟨t, a, b⟩ := W.zret (hlocks := hlocks) (ty := ty) (Qc := xm_Qc (xx_G X) (xx_I X) 1 (σ, v)) (free := xm_A X) hC.1 hC.2.1 hQ.1 hn (fun t ht _ => xm_fr (rk := 1) (v := v) hR hv hS ht rfl) hS.2.2 hd T hT Xs
  exact ⟨t, a, hQ.2 _ _ b⟩
/-- a call of a text's method -/
theorem xg_callT (hC : xm_C X own cc nL fr mc ms) {rk i idx maxL n fr' mc' ms' kc' sc' : Nat} {y : MethodName} {bytes : ByteArray} {ret : Option FieldType} {As : List Value} {r0 : Option xm_Out} {k : xm_Out → Option xm_Out} {stk rest : List Value} {st2 : xm_Out → List Value}
    (hM : ∀ o, r0 = some o → xm_M (xx_G X) (xx_I X) (xx_la X) y bytes maxL ret fr' mc' ms' (.ref (xm_adK (xx_G X) i) :: As) σ rk o) (hL : xm_L own idx y bytes maxL ret n) (hV : Cond.instanceMethod y ∈ xm_tb ∧ Cond.selects y.cls y y ∈ xm_tb)
    (hi : i < 24) (hcl : y.cls = "java/lang/String") (hfr : fr' + 1 ≤ fr) (hcap : kc + mc' ≤ mc ∧ sc + ms' ≤ ms) (hd : decode cc pc = .ok (.invokevirtual idx, 3)) (hstk : stk = As.reverse ++ .ref (xm_adK (xx_G X) i) :: rest) (hn : As.length = n) (hrest : (rest.map fun v => v.category).sum ≤ 8)
    (hkc : kc + mc' = kc') (hsc : sc + ms' = sc') (hst2 : ∀ o, (xm_o (xx_G X) rk o.2).toList ++ rest = st2 o) (kk : ∀ o, xm_f rk o.2 → xm_V X kc' sc' (k o) o.1 (pc + 3) l (st2 o)) : xm_V X kc sc (r0.bind k) σ pc l stk := by
  refine xg_run (a := (Value.ref (xm_adK (xx_G X) i) :: As).toArray) (fun o ho H locs ls hR hS hLs => ?_) hkc hsc hst2 kk
  have hts := hC.2.2.2.2.1
  have hcp := hC.2.2.2.2.2.2.2.2.2.2.2
  have hrecv := vk_recv (xm_S0 hC) hi hS
  refine va_runV (As := As) (rest := rest) (C := y.cls) (maxL := maxL) (ret := ret) ⟨hC.1, hC.2.1, hC.2.2.1, hC.2.2.2.1, hts⟩ (hM o ho) ⟨xm_cb_of hC hL hfr, hts _ hV.1, hts _ hV.2⟩ ⟨xm_blind, by rw [hcl]; exact hrecv, xm_pre hR hC.2.2.2.2.2.1⟩ rfl hn (by show ls.size = _; rw [hLs.1, hC.2.2.1]) hstk (by show 2 * 0 + _ ≤ 8; omega) hd ⟨by omega, by omega⟩
theorem xm_lmin : yJ9_min_7cf53 = Lib.Math.min.name ∧ cJ9_min_7cf53 = Lib.Math.min.code := by decide +kernel
theorem xm_lmax : yJ9_max_7cf53 = Lib.Math.max.name ∧ cJ9_max_7cf53 = Lib.Math.max.code := by decide +kernel
def xm_min (a b : Int) : Int := if b < a then b else a
def xm_max (a b : Int) : Int := if a < b then b else a
theorem xm_min_in {a b : Int} (ha : xm_in a) (hb : xm_in b) : xm_in (xm_min a b) := by unfold xm_min; split <;> assumption
theorem xm_max_in {a b : Int} (ha : xm_in a) (hb : xm_in b) : xm_in (xm_max a b) := by unfold xm_max; split <;> assumption
theorem xg_min (hC : xm_C X own cc nL fr mc ms) {idx : Nat} {a b : Int} (ha : xm_in a) (hb : xm_in b) (hfr : 1 ≤ fr) (hL : xm_L own idx yJ9_min_7cf53 cJ9_min_7cf53 2 (some .int) 2) (hcap : kc ≤ mc ∧ sc ≤ ms) (hrest : (st.map fun v => v.category).sum ≤ 8) (hd : decode cc pc = .ok (.invokestatic idx, 3)) (kk : xm_V X kc sc r σ (pc + 3) l (.int (xm_J (xm_min a b)) :: st)) : xm_V X kc sc r σ pc l (.int (xm_J b) :: .int (xm_J a) :: st) := by
  intro o ho H locs ls hR hS hLs
  have hts := hC.2.2.2.2.1
  have hcp := hC.2.2.2.2.2.2.2.2.2
  obtain ⟨l1, l2, l3, -⟩ := hL
  have l4 := xl_S_J9_min_7cf53
  rw [xm_lmin.1] at l1 l3 l4
  rw [xm_lmin.2] at l3
  refine va_mmin hC.1 hC.2.1 (by rw [hLs.1]) hC.2.2.2.1 (hts _ l1) (hts _ l4) (hts _ l2) (hts _ l3) (by omega) (by omega) (by omega) (by omega) hd ?_
  have K := kk o ho H locs ls hR hS hLs
  have e := xm_J_lt hb ha
  unfold xm_min at K
  by_cases h : b < a
  · rw [if_pos h] at K
    rw [if_pos (e.mpr h)]
    exact K
  · rw [if_neg h] at K
    rw [if_neg (fun z => h (e.mp z))]
    exact K
theorem xg_max (hC : xm_C X own cc nL fr mc ms) {idx : Nat} {a b : Int} (ha : xm_in a) (hb : xm_in b) (hfr : 1 ≤ fr) (hL : xm_L own idx yJ9_max_7cf53 cJ9_max_7cf53 2 (some .int) 2) (hcap : kc ≤ mc ∧ sc ≤ ms) (hrest : (st.map fun v => v.category).sum ≤ 8) (hd : decode cc pc = .ok (.invokestatic idx, 3)) (kk : xm_V X kc sc r σ (pc + 3) l (.int (xm_J (xm_max a b)) :: st)) : xm_V X kc sc r σ pc l (.int (xm_J b) :: .int (xm_J a) :: st) := by
  intro o ho H locs ls hR hS hLs
  have hts := hC.2.2.2.2.1
  have hcp := hC.2.2.2.2.2.2.2.2.2
  obtain ⟨l1, l2, l3, -⟩ := hL
  have l4 := xl_S_J9_max_7cf53
  rw [xm_lmax.1] at l1 l3 l4
  rw [xm_lmax.2] at l3
  refine va_mmax hC.1 hC.2.1 (by rw [hLs.1]) hC.2.2.2.1 (hts _ l1) (hts _ l4) (hts _ l2) (hts _ l3) (by omega) (by omega) (by omega) (by omega) hd ?_
  have K := kk o ho H locs ls hR hS hLs
  have e := xm_J_lt ha hb
  unfold xm_max at K
  by_cases h : a < b
  · rw [if_pos h] at K
    rw [if_pos (e.mpr h)]
    exact K
  · rw [if_neg h] at K
    rw [if_neg (fun z => h (e.mp z))]
    exact K
end XS
section XT
variable {Γ : xm_Gm} {I : xm_Mem → Prop} {la : Launch} {σ : xm_Mem} {i : Nat}
theorem mj_coder (hi : i < 24) : ∀ o, some (σ, (0 : Int)) = some o → xm_M Γ I la yJ0_coder_7d493 cJ0_coder_7d493 1 (some .byte) 1 0 0 [.ref (xm_adK Γ i)] σ 1 o :=
  xg_enter (by decide) (by simp [lg_sl, Value.category]) (fun X hG hI hla hC hQ hname => by
    subst hG
    refine xg_gcs hC dJ0_coder_7d493_0 ?_
    suffices h : xm_V X 0 0 (if (1 : Int) = 0 then none else some (σ, (0 : Int))) σ 3 (lv_args 0 [.ref (xm_adK (xx_G X) i)]) [.int (xm_J 1)] by simpa using h
    refine xg_if_eq hC (xm_inc 1 rfl) 13 dJ0_coder_7d493_3 (by decide) (fun h => absurd h (by decide)) (fun _ => ?_)
    refine xg_aload_n hC dJ0_coder_7d493_6 rfl ?_
    refine xg_scod hC hi dJ0_coder_7d493_7 ?_
    refine xg_goto hC 14 dJ0_coder_7d493_10 (by decide) ?_
    exact xg_nret hC hQ xm_in0 (by decide +kernel) dJ0_coder_7d493_14)
theorem mj_isLatin1 (hi : i < 24) : ∀ o, some (σ, (1 : Int)) = some o → xm_M Γ I la yJ0_isLatin1_aae02 cJ0_isLatin1_aae02 1 (some .boolean) 1 0 0 [.ref (xm_adK Γ i)] σ 2 o :=
  xg_enter (by decide) (by simp [lg_sl, Value.category]) (fun X hG hI hla hC hQ hname => by
    subst hG
    refine xg_gcs hC dJ0_isLatin1_aae02_0 ?_
    suffices h : xm_V X 0 0 (if (1 : Int) = 0 then none else (if (0 : Int) = 0 then some (σ, (1 : Int)) else none)) σ 3 (lv_args 0 [.ref (xm_adK (xx_G X) i)]) [.int (xm_J 1)] by simpa using h
    refine xg_if_eq hC (xm_inc 1 rfl) 17 dJ0_isLatin1_aae02_3 (by decide) (fun h => absurd h (by decide)) (fun _ => ?_)
    refine xg_aload_n hC dJ0_isLatin1_aae02_6 rfl ?_
    refine xg_scod hC hi dJ0_isLatin1_aae02_7 ?_
    refine xg_if_ne hC xm_in0 17 dJ0_isLatin1_aae02_10 (by decide) (fun _ => ?_) (fun h => absurd rfl h)
    refine xg_iconst hC dJ0_isLatin1_aae02_13 ?_
    refine xg_goto hC 18 dJ0_isLatin1_aae02_14 (by decide) ?_
    exact xg_zret hC hQ (by decide) dJ0_isLatin1_aae02_18)
theorem mj_length {v : Int} : ∀ o, fj_length σ v = some o → xm_M Γ I la yJ0_length_8abf5 cJ0_length_8abf5 1 (some .int) 2 0 0 [.ref (xm_adK Γ v.toNat)] σ 1 o :=
  xg_enter (by decide) (by simp [lg_sl, Value.category]) (fun X hG hI hla hC hQ hname => by
    subst hG
    refine xg_guard (fun hv => ?_)
    have hi : v.toNat < 24 := by omega
    have hl := xm_ln_ok _ hi
    refine xg_aload_n hC dJ0_length_8abf5_0 rfl ?_
    refine xg_sval hC hi dJ0_length_8abf5_1 ?_
    refine xg_slen hC hi dJ0_length_8abf5_4 ?_
    refine xg_aload_n hC dJ0_length_8abf5_5 rfl ?_
    have h := xg_callT (X := X) (l := lv_args 0 [.ref (xm_adK (xx_G X) v.toNat)]) (kc := 0) (sc := 0) (k := fun o => some (o.1, xm_shr (xm_ln.getD v.toNat 0 : Nat) o.2)) hC (mj_coder (σ := σ) hi) xl_M_J0_335 xl_V_J0_coder_7d493 hi rfl (by decide) ⟨by decide, by decide⟩ dJ0_length_8abf5_6 (rest := [.int (xm_J (xm_ln.getD v.toNat 0 : Nat))]) rfl rfl (Nat.le_of_ble_eq_true rfl) rfl rfl (st2 := fun o => [.int (xm_J o.2), .int (xm_J (xm_ln.getD v.toNat 0 : Nat))]) (fun _ => rfl) (fun o _ => by
      refine xg_ishr hC dJ0_length_8abf5_9 ?_
      exact xg_iret hC hQ (xm_shr_in _ _) dJ0_length_8abf5_10)
    have e : (some (σ, (0 : Int))).bind (fun o => some (o.1, xm_shr (xm_ln.getD v.toNat 0 : Nat) o.2)) = some (σ, xm_slen v) := by
      show some (σ, xm_shr (xm_ln.getD v.toNat 0 : Nat) 0) = _
      rw [xm_shr0 _ hl]; rfl
    rw [e] at h
    exact h)
theorem mj_check {k n : Int} (hk : xm_in k) (hn : xm_in n) {v : Value} (hv : v = .null ∨ ∃ t, v = .ref t) : ∀ o, (if k < 0 then none else if k < n then some (σ, k) else none) = some o → xm_M Γ I la yJ3_checkIndex_8e157 cJ3_checkIndex_8e157 3 (some .int) 1 0 0 [.int (xm_J k), .int (xm_J n), v] σ 1 o :=
  xg_enter (by decide) (by rcases hv with rfl | ⟨t, rfl⟩ <;> simp [lg_sl, Value.category]) (fun X hG hI hla hC hQ hname => by
    subst hG
    refine xg_iload_n hC dJ3_checkIndex_8e157_0 rfl ?_
    refine xg_if_lt hC hk 9 dJ3_checkIndex_8e157_1 (by decide) (fun _ => xg_none) (fun _ => ?_)
    refine xg_iload_n hC dJ3_checkIndex_8e157_4 rfl ?_
    refine xg_iload_n hC dJ3_checkIndex_8e157_5 rfl ?_
    refine xg_icmp_lt hC hk hn 16 dJ3_checkIndex_8e157_6 (by decide) (fun _ => ?_) (fun _ => xg_none)
    refine xg_iload_n hC dJ3_checkIndex_8e157_16 rfl ?_
    exact xg_iret hC hQ hk dJ3_checkIndex_8e157_17)
theorem mj_checkIndex {k n : Int} (hk : xm_in k) (hn : xm_in n) : ∀ o, ((if k < 0 then none else if k < n then some (σ, k) else none).bind (fun o => some (o.1, 0))) = some o → xm_M Γ I la yJ0_checkIndex_df160 cJ0_checkIndex_df160 2 none 2 0 0 [.int (xm_J k), .int (xm_J n)] σ 0 o :=
  xg_enter (by decide) (by simp [lg_sl, Value.category]) (fun X hG hI hla hC hQ hname => by
    subst hG
    refine xg_iload_n hC dJ0_checkIndex_df160_0 rfl ?_
    refine xg_iload_n hC dJ0_checkIndex_df160_1 rfl ?_
    refine xg_gform hC dJ0_checkIndex_df160_2 (fun v hv => ?_)
    refine xg_callS hC (mj_check hk hn hv) xl_M_J0_1059 xl_S_J3_checkIndex_8e157 (by decide) ⟨by decide, by decide⟩ dJ0_checkIndex_df160_5 (rest := []) rfl rfl (Nat.le_of_ble_eq_true rfl) rfl rfl (st2 := fun o => [.int (xm_J o.2)]) (fun _ => rfl) (fun o _ => ?_)
    refine xg_pop hC dJ0_checkIndex_df160_8 rfl ?_
    exact xg_vret hC hQ dJ0_checkIndex_df160_9)
theorem mj_lchar {k : Int} (hk : xm_in k) (hi : i < 24) : ∀ o, (if 0 ≤ k ∧ k < (xm_ln.getD i 0 : Nat) then some (σ, xm_chr i k) else none) = some o → xm_M Γ I la yJ1_charAt_3b067 cJ1_charAt_3b067 2 (some .char) 3 0 0 [.ref (xm_adV Γ i), .int (xm_J k)] σ 1 o :=
  xg_enter (by decide) (by simp [lg_sl, Value.category]) (fun X hG hI hla hC hQ hname => by
    subst hG
    have hl := xm_ln_ok _ hi
    refine xg_guard (fun h => ?_)
    have hkn : k.toNat < xm_ln.getD i 0 := by omega
    obtain ⟨hc1, hc2, hc3⟩ := xm_chr_ok i hi _ hkn
    refine xg_iload_n hC dJ1_charAt_3b067_0 rfl ?_
    refine xg_aload_n hC dJ1_charAt_3b067_1 rfl ?_
    refine xg_slen hC hi dJ1_charAt_3b067_2 ?_
    have hz : some (σ, xm_chr i k) = ((if k < 0 then none else if k < (xm_ln.getD i 0 : Nat) then some (σ, k) else none).bind (fun o => some (o.1, (0 : Int)))).bind (fun o => some (o.1, xm_chr i k)) := by
      rw [if_neg (by omega), if_pos h.2]; rfl
    rw [hz]
    refine xg_callS hC (mj_checkIndex hk ⟨by omega, by omega⟩) xl_M_J1_9 xl_S_J0_checkIndex_df160 (by decide) ⟨by decide, by decide⟩ dJ1_charAt_3b067_3 (rest := []) rfl rfl (Nat.le_of_ble_eq_true rfl) rfl rfl (st2 := fun o => []) (fun _ => rfl) (fun o _ => ?_)
    refine xg_aload_n hC dJ1_charAt_3b067_6 rfl ?_
    refine xg_iload_n hC dJ1_charAt_3b067_7 rfl ?_
    refine xg_sbyte hC hi hk h dJ1_charAt_3b067_8 ?_
    refine xg_sipush hC dJ1_charAt_3b067_9 (by decide) ?_
    have key : xm_V X 0 0 (some (o.1, xm_chr i k)) o.1 14 (lv_args 0 [.ref (xm_adV (xx_G X) i), .int (xm_J k)]) [.int (xm_J (xm_chr i k))] :=
      xg_nret hC hQ ⟨by show _ ≤ (xm_chs.getD i []).getD k.toNat 0; omega, by show (xm_chs.getD i []).getD k.toNat 0 ≤ _; omega⟩ (xm_cn ⟨hc2, hc3⟩) dJ1_charAt_3b067_14
    exact fun o1 ho H locs ls hR hS hL => lv_iand hC.1 hC.2.1 dJ1_charAt_3b067_12 (lv_i2c hC.1 hC.2.1 dJ1_charAt_3b067_13 hc1 (key o1 ho H locs ls hR hS hL)))
theorem mj_charAt {v k : Int} (hk : xm_in k) : ∀ o, fj_charAt σ v k = some o → xm_M Γ I la yJ0_charAt_5068e cJ0_charAt_5068e 2 (some .char) 4 0 0 [.ref (xm_adK Γ v.toNat), .int (xm_J k)] σ 1 o :=
  xg_enter (by decide) (by simp [lg_sl, Value.category]) (fun X hG hI hla hC hQ hname => by
    subst hG
    refine xg_guard (fun h => ?_)
    have hi : v.toNat < 24 := by omega
    have hl := xm_ln_ok _ hi
    have hkn : k.toNat < xm_ln.getD v.toNat 0 := by have := h.2.2; unfold xm_slen at this; omega
    obtain ⟨hc1, hc2, hc3⟩ := xm_chr_ok _ hi _ hkn
    refine xg_aload_n hC dJ0_charAt_5068e_0 rfl ?_
    have hz : some (σ, xm_chr v k) = (some (σ, (1 : Int))).bind (fun o => if o.2 = 0 then none else ((if 0 ≤ k ∧ k < (xm_ln.getD v.toNat 0 : Nat) then some (o.1, xm_chr v.toNat k) else none).bind (fun o => if 0 ≤ o.2 ∧ o.2 ≤ 127 then some (o.1, o.2) else none))) := by
      have h2 : 0 ≤ k ∧ k < (xm_ln.getD v.toNat 0 : Nat) := h.2
      have h3 : 0 ≤ xm_chr v.toNat k ∧ xm_chr v.toNat k ≤ 127 := ⟨hc2, hc3⟩
      simp only [Option.bind_some, if_pos h2, if_pos h3]
      rfl
    rw [hz]
    refine xg_callT hC (mj_isLatin1 (σ := σ) hi) xl_M_J0_492 xl_V_J0_isLatin1_aae02 hi rfl (by decide) ⟨by decide, by decide⟩ dJ0_charAt_5068e_1 (rest := []) rfl rfl (Nat.le_of_ble_eq_true rfl) rfl rfl (st2 := fun o => [.int (xm_J o.2)]) (fun _ => rfl) (fun o hf => ?_)
    refine xg_if_eq hC (xm_in01 hf) 16 dJ0_charAt_5068e_4 (by decide) (fun _ => xg_none) (fun _ => ?_)
    refine xg_aload_n hC dJ0_charAt_5068e_7 rfl ?_
    refine xg_sval hC hi dJ0_charAt_5068e_8 ?_
    refine xg_iload_n hC dJ0_charAt_5068e_11 rfl ?_
    refine xg_callS hC (mj_lchar hk hi) xl_M_J0_495 xl_S_J1_charAt_3b067 (by decide) ⟨by decide, by decide⟩ dJ0_charAt_5068e_12 (rest := []) rfl rfl (Nat.le_of_ble_eq_true rfl) rfl rfl (st2 := fun o => [.int (xm_J o.2)]) (fun _ => rfl) (fun o1 hf1 => ?_)
    refine xg_guard (fun h4 => ?_)
    exact xg_nret hC hQ ⟨by omega, by omega⟩ (xm_cn h4) dJ0_charAt_5068e_15)
end XT
end
section
/-! ===== names in a walk; places; loops by fuel ===== -/
def xm_it {α : Type} (b : α → α) (z : α) : Nat → α
  | 0 => z
  | n + 1 => b (xm_it b z n)
def xm_fuel : Nat := 100000
def xm_dep : Nat := 66
def xm_st (σ : xm_Mem) (k : xm_Mem → Option xm_Out) : Option xm_Out := k σ
def xm_vl (v : Int) (k : Int → Option xm_Out) : Option xm_Out := k v
def xm_vj (v : Int64) (k : Int64 → Option xm_Out) : Option xm_Out := k v
def xm_vr (v : Int) (k : Int → Option xm_Out) : Option xm_Out := if v ≤ 2147483647 then k v else none
def xm_fr0 (a : Nat) : Bool := decide (a ≠ 35) && decide (¬ (36 ≤ a ∧ a < 84 ∧ (a - 36) % 6 = 0)) && decide (a ∉ [1, 2, 4, 5, 9, 18, 23, 29])
theorem xm_wire_heads : ∀ q ∈ xm_wireL, q.1 ∈ [1, 2, 4, 5, 9, 18, 23, 29] := by decide +kernel
theorem xm_wire_none {a : Nat} (h : xm_fr0 a = true) (k : Nat) : xm_wire a k = none := by
  simp only [xm_fr0, Bool.and_eq_true, decide_eq_true_eq] at h
  unfold xm_wire
  rw [if_neg h.1.1, if_neg h.1.2]
  have e : xm_wireL.find? (fun q => q.1 == a && q.2.1 == k) = none := by
    rw [List.find?_eq_none]
    intro q hq hz
    simp at hz
    exact h.2 (hz.1 ▸ xm_wire_heads q hq)
  rw [e]
  rfl
theorem xm_free1 : ∀ a, a < 111 → (xm_lay a).1 = 1 → xm_fr0 a = true := by decide +kernel
theorem xm_lay_hi {a : Nat} (h : 111 ≤ a) : xm_lay a = (0, 2) := by
  unfold xm_lay
  rw [List.getD_eq_getElem?_getD, List.getElem?_eq_none (by show 111 ≤ a; exact h)]
  rfl
theorem xm_lay_lo : ∀ a, a < 111 → xm_lay a ≠ (0, 2) := by decide +kernel
theorem xm_free_hi {a : Nat} (h : 111 ≤ a) : xm_fr0 a = true := by
  simp only [xm_fr0, Bool.and_eq_true, decide_eq_true_eq]
  refine ⟨⟨by omega, by omega⟩, ?_⟩
  simp
  omega
theorem xm_cbl (t : Nat) (h : t < 8) : xm_lay (xm_cb t) = (0, 0) ∧ xm_lay (xm_cb t + 1) = (1, 64) := by
  have : ∀ t, t < 8 → xm_lay (xm_cb t) = (0, 0) ∧ xm_lay (xm_cb t + 1) = (1, 64) := by decide +kernel
  exact this t h
theorem xm_cbl2 : ∀ t, t < 8 → ∀ j, j < 6 → 2 ≤ j → xm_lay (xm_cb t + j) = (1, 200) := by decide +kernel
theorem xm_cbw : ∀ t, t < 8 → xm_wire (xm_cb t) 0 = some t ∧ xm_wire (xm_cb t) 1 = some 5 ∧ xm_wire (xm_cb t) 2 = some 9 ∧ xm_wire (xm_cb t) 3 = some 23 ∧ xm_wire (xm_cb t) 4 = some 29 ∧ xm_wire (xm_cb t) 5 = some (xm_cb t + 1) ∧ xm_wire (xm_cb t) 6 = some (xm_cb t + 2) ∧ xm_wire (xm_cb t) 7 = some (xm_cb t + 3) ∧ xm_wire (xm_cb t) 8 = some (xm_cb t + 4) ∧ xm_wire (xm_cb t) 9 = some (xm_cb t + 5) := by decide +kernel
theorem xm_cbn : ∀ t, t < 8 → ∀ k, k < 17 → 10 ≤ k → xm_wire (xm_cb t) k = none := by decide +kernel
theorem xm_crw : ∀ j, j < 8 → xm_wire 35 j = some (xm_cb j) := by decide +kernel
theorem xm_c8 {v : Int} (h : 0 ≤ v ∧ v < 8) : v.toNat < 8 := by omega
theorem xm_s22 {v : Int} (h : 0 ≤ v ∧ v < 24) : v.toNat < 24 := by omega
theorem xm_rfN {Γ : xm_Gm} {a : Nat} (h : 1 ≤ a) : (Value.ref (xm_ad Γ a)) = xm_rf Γ ((a : Nat) : Int) := by
  rw [xm_rf_pos (by omega)]
  rfl
theorem xm_cati {x : Int32} : (Value.int x).category = 1 := rfl
theorem xm_catr {x : Nat} : (Value.ref x).category = 1 := rfl
theorem xm_catl {x : Int64} : (Value.long x).category = 2 := rfl
section XN
variable {X : xm_X} {own : String} {cc : ByteArray} {nL fr mc ms kc sc : Nat} {r r1 r2 : Option xm_Out} {σ : xm_Mem} {pc : Nat} {l l' : List (Nat × Value)} {st : List Value}
theorem xg_st {k : xm_Mem → Option xm_Out} (h : ∀ s, xm_V X kc sc (k s) s pc l st) : xm_V X kc sc (xm_st σ k) σ pc l st := h σ
theorem xg_vI {v : Int} {k : Int → Option xm_Out} (hv : xm_in v) (h : ∀ x, xm_in x → xm_V X kc sc (k x) σ pc l (.int (xm_J x) :: st)) : xm_V X kc sc (xm_vl v k) σ pc l (.int (xm_J v) :: st) := h v hv
theorem xg_vZ {v : Int} {k : Int → Option xm_Out} (hv : 0 ≤ v ∧ v ≤ 1) (h : ∀ x, 0 ≤ x ∧ x ≤ 1 → xm_V X kc sc (k x) σ pc l (.int (xm_J x) :: st)) : xm_V X kc sc (xm_vl v k) σ pc l (.int (xm_J v) :: st) := h v hv
theorem xg_vJ {v : Int64} {k : Int64 → Option xm_Out} (h : ∀ x, xm_V X kc sc (k x) σ pc l (.long x :: st)) : xm_V X kc sc (xm_vj v k) σ pc l (.long v :: st) := h v
theorem xg_vR {v : Int} {k : Int → Option xm_Out} (hv : 0 ≤ v) (h : ∀ x, 0 ≤ x ∧ xm_in x → xm_V X kc sc (k x) σ pc l (xm_rf (xx_G X) x :: st)) : xm_V X kc sc (xm_vr v k) σ pc l (xm_rf (xx_G X) v :: st) := by
  unfold xm_vr
  exact xg_guard (fun q => h v ⟨hv, by unfold xm_in; omega⟩)
theorem xm_hK {a kd n : Nat} (hI : xx_I X = xm_I) (h : (decide (1 ≤ a) && decide (a ≤ 110) && decide (xm_lay a = (kd, n))) = true) : xm_has (xx_I X) a kd n := by
  rw [hI]; exact xm_hasK h
theorem xm_hA {a kd n : Nat} (hI : xx_I X = xm_I) (h1 : 1 ≤ a) (h2 : a ≤ 110) (h : xm_lay a = (kd, n)) : xm_has (xx_I X) a kd n := by
  rw [hI]; exact ⟨fun σ hi => ⟨h1, Nat.le_trans h2 hi.1⟩, h⟩
theorem xm_hC {t : Nat} (hI : xx_I X = xm_I) (ht : t < 8) : xm_has (xx_I X) (xm_cb t) 0 0 := xm_hA hI (by unfold xm_cb; omega) (by unfold xm_cb; omega) (xm_cbl t ht).1
theorem xm_hCa {t j : Nat} (hI : xx_I X = xm_I) (ht : t < 8) (hj : j = 1) : xm_has (xx_I X) (xm_cb t + j) 1 64 := by
  subst hj; exact xm_hA hI (by unfold xm_cb; omega) (by unfold xm_cb; omega) (xm_cbl t ht).2
theorem xm_hCb {t j : Nat} (hI : xx_I X = xm_I) (ht : t < 8) (h1 : 2 ≤ j) (h2 : j < 6) : xm_has (xx_I X) (xm_cb t + j) 1 200 := xm_hA hI (by unfold xm_cb; omega) (by unfold xm_cb; omega) (xm_cbl2 t ht j h2 h1)
theorem xm_kpW {a k : Nat} {v : Int} (hI : xx_I X = xm_I) (h : xm_wire a k = none) : xm_kp X σ a k v := by
  unfold xm_kp; rw [hI]; exact fun hi => hi.u1 h
theorem xm_kpF {a k : Nat} {v : Int} (hI : xx_I X = xm_I) (h : xm_fr0 a = true) : xm_kp X σ a k v := xm_kpW hI (xm_wire_none h k)
theorem xm_kpK {a k : Nat} {v : Int} (hI : xx_I X = xm_I) (h : xm_wire a k = none) : xm_kp X σ a k v := xm_kpW hI h
theorem xm_kpC {t j k : Nat} {v : Int} (hI : xx_I X = xm_I) (ht : t < 8) (h1 : 1 ≤ j) (h2 : j < 6) : xm_kp X σ (xm_cb t + j) k v := by
  have : ∀ t, t < 8 → ∀ j, j < 6 → 1 ≤ j → xm_fr0 (xm_cb t + j) = true := by decide +kernel
  exact xm_kpF hI (this t ht j h2 h1)
theorem xm_kpT {t k : Nat} {v : Int} (hI : xx_I X = xm_I) (ht : t < 8) (hk : k < 17 ∧ 10 ≤ k) : xm_kp X σ (xm_cb t) k v := xm_kpW hI (xm_cbn t ht k hk.1 hk.2)
theorem xm_kpA {a k n : Nat} {v : Int} (hI : xx_I X = xm_I) (h : xm_lay a = (1, n)) : xm_kp X σ a k v := by
  refine xm_kpF hI ?_
  by_cases q : a < 111
  · exact xm_free1 a q (by rw [h])
  · exact xm_free_hi (by omega)
theorem xm_kpO {a k : Nat} {v : Int} (hI : xx_I X = xm_I) (h : xm_lay a = (0, 2)) : xm_kp X σ a k v := by
  refine xm_kpF hI ?_
  by_cases q : a < 111
  · exact absurd h (xm_lay_lo a q)
  · exact xm_free_hi (by omega)
theorem xm_kp2 {a k : Nat} {v : Int64} (hI : xx_I X = xm_I) : xx_I X σ → xx_I X (xm_u2 σ a k v) := by
  rw [hI]; exact fun hi => hi.u2
theorem xm_kpN (hI : xx_I X = xm_I) : xx_I X σ → xx_I X (xm_nw σ) := by
  rw [hI]; exact fun hi => hi.nw
theorem xm_wK {a k b : Nat} (hI : xx_I X = xm_I) (h : xm_wire a k = some b) : xx_I X σ → σ.1 a k = (b : Int) := by
  rw [hI]; exact fun hi => hi.2 a k b h
theorem xm_w0 {t : Nat} (hI : xx_I X = xm_I) (ht : t < 8) : xx_I X σ → σ.1 (xm_cb t) 0 = (t : Int) := xm_wK hI (xm_cbw t ht).1
theorem xm_w1 {t : Nat} (hI : xx_I X = xm_I) (ht : t < 8) : xx_I X σ → σ.1 (xm_cb t) 1 = ((5 : Nat) : Int) := xm_wK hI (xm_cbw t ht).2.1
theorem xm_w2 {t : Nat} (hI : xx_I X = xm_I) (ht : t < 8) : xx_I X σ → σ.1 (xm_cb t) 2 = ((9 : Nat) : Int) := xm_wK hI (xm_cbw t ht).2.2.1
theorem xm_w3 {t : Nat} (hI : xx_I X = xm_I) (ht : t < 8) : xx_I X σ → σ.1 (xm_cb t) 3 = ((23 : Nat) : Int) := xm_wK hI (xm_cbw t ht).2.2.2.1
theorem xm_w4 {t : Nat} (hI : xx_I X = xm_I) (ht : t < 8) : xx_I X σ → σ.1 (xm_cb t) 4 = ((29 : Nat) : Int) := xm_wK hI (xm_cbw t ht).2.2.2.2.1
theorem xm_w5 {t : Nat} (hI : xx_I X = xm_I) (ht : t < 8) : xx_I X σ → σ.1 (xm_cb t) 5 = ((xm_cb t + 1 : Nat) : Int) := xm_wK hI (xm_cbw t ht).2.2.2.2.2.1
theorem xm_w6 {t : Nat} (hI : xx_I X = xm_I) (ht : t < 8) : xx_I X σ → σ.1 (xm_cb t) 6 = ((xm_cb t + 2 : Nat) : Int) := xm_wK hI (xm_cbw t ht).2.2.2.2.2.2.1
theorem xm_w7 {t : Nat} (hI : xx_I X = xm_I) (ht : t < 8) : xx_I X σ → σ.1 (xm_cb t) 7 = ((xm_cb t + 3 : Nat) : Int) := xm_wK hI (xm_cbw t ht).2.2.2.2.2.2.2.1
theorem xm_w8 {t : Nat} (hI : xx_I X = xm_I) (ht : t < 8) : xx_I X σ → σ.1 (xm_cb t) 8 = ((xm_cb t + 4 : Nat) : Int) := xm_wK hI (xm_cbw t ht).2.2.2.2.2.2.2.2.1
theorem xm_w9 {t : Nat} (hI : xx_I X = xm_I) (ht : t < 8) : xx_I X σ → σ.1 (xm_cb t) 9 = ((xm_cb t + 5 : Nat) : Int) := xm_wK hI (xm_cbw t ht).2.2.2.2.2.2.2.2.2
theorem xm_cw (hI : xx_I X = xm_I) : xx_I X σ → ∀ j, j < 8 → σ.1 35 j = (xm_cb j : Int) := fun hi j hj => xm_wK hI (xm_crw j hj) hi
end XN
end
