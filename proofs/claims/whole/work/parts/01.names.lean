-- ===== PART A: goes FIRST, ahead of the names: the tables' words, and 'selects' of the private methods out of them =====
/-- a private method of a class that the tables say can be made, by its rows of tables_1 -/
def lw_okq (q : MethodName × Nat) : Prop := (q.1.cls ≠ "java/lang/invoke/MethodHandle" ∧ q.1.cls ≠ "java/lang/invoke/VarHandle") ∧ Cond.instantiable q.1.cls q.2 ∈ tables_1 ∧ Cond.privateMethod q.1 ∈ tables_1 ∧ Cond.instanceMethod q.1 ∈ tables_1
theorem lw_p0 : lw_okq (⟨"GateChain", "isLock", "(I)Z"⟩, 8) := ⟨⟨by decide +kernel, by decide +kernel⟩, List.mem_of_getElem? (i := 13) (by decide +kernel), List.mem_of_getElem? (i := 288) (by decide +kernel), List.mem_of_getElem? (i := 289) (by decide +kernel)⟩
theorem lw_p1 : lw_okq (⟨"GateChain", "isPerson", "(I)Z"⟩, 8) := ⟨⟨by decide +kernel, by decide +kernel⟩, List.mem_of_getElem? (i := 13) (by decide +kernel), List.mem_of_getElem? (i := 319) (by decide +kernel), List.mem_of_getElem? (i := 320) (by decide +kernel)⟩
theorem lw_p2 : lw_okq (⟨"GateChain", "roundsOf", "(I)I"⟩, 8) := ⟨⟨by decide +kernel, by decide +kernel⟩, List.mem_of_getElem? (i := 13) (by decide +kernel), List.mem_of_getElem? (i := 344) (by decide +kernel), List.mem_of_getElem? (i := 345) (by decide +kernel)⟩
theorem lw_p3 : lw_okq (⟨"GateChain", "friendsOfAny", "(I)I"⟩, 8) := ⟨⟨by decide +kernel, by decide +kernel⟩, List.mem_of_getElem? (i := 13) (by decide +kernel), List.mem_of_getElem? (i := 348) (by decide +kernel), List.mem_of_getElem? (i := 349) (by decide +kernel)⟩
theorem lw_p4 : lw_okq (⟨"GateChain", "worstLock", "()I"⟩, 8) := ⟨⟨by decide +kernel, by decide +kernel⟩, List.mem_of_getElem? (i := 13) (by decide +kernel), List.mem_of_getElem? (i := 453) (by decide +kernel), List.mem_of_getElem? (i := 454) (by decide +kernel)⟩
theorem lw_p5 : lw_okq (⟨"GateChain", "greatestRounds", "()I"⟩, 8) := ⟨⟨by decide +kernel, by decide +kernel⟩, List.mem_of_getElem? (i := 13) (by decide +kernel), List.mem_of_getElem? (i := 464) (by decide +kernel), List.mem_of_getElem? (i := 465) (by decide +kernel)⟩
theorem lw_p6 : lw_okq (⟨"GateChain", "fewestWhoKnowMore", "(I)I"⟩, 8) := ⟨⟨by decide +kernel, by decide +kernel⟩, List.mem_of_getElem? (i := 13) (by decide +kernel), List.mem_of_getElem? (i := 479) (by decide +kernel), List.mem_of_getElem? (i := 480) (by decide +kernel)⟩
theorem lw_p7 : lw_okq (⟨"GateChain", "markOfLock", "(I)I"⟩, 8) := ⟨⟨by decide +kernel, by decide +kernel⟩, List.mem_of_getElem? (i := 13) (by decide +kernel), List.mem_of_getElem? (i := 539) (by decide +kernel), List.mem_of_getElem? (i := 540) (by decide +kernel)⟩
theorem lw_p8 : lw_okq (⟨"GateChain", "markOfBrass", "(I)I"⟩, 8) := ⟨⟨by decide +kernel, by decide +kernel⟩, List.mem_of_getElem? (i := 13) (by decide +kernel), List.mem_of_getElem? (i := 543) (by decide +kernel), List.mem_of_getElem? (i := 544) (by decide +kernel)⟩
theorem lw_p9 : lw_okq (⟨"GateChain", "markOfRusty", "(I)I"⟩, 8) := ⟨⟨by decide +kernel, by decide +kernel⟩, List.mem_of_getElem? (i := 13) (by decide +kernel), List.mem_of_getElem? (i := 548) (by decide +kernel), List.mem_of_getElem? (i := 549) (by decide +kernel)⟩
theorem lw_p10 : lw_okq (⟨"GateChain", "markOfDouble", "(I)I"⟩, 8) := ⟨⟨by decide +kernel, by decide +kernel⟩, List.mem_of_getElem? (i := 13) (by decide +kernel), List.mem_of_getElem? (i := 553) (by decide +kernel), List.mem_of_getElem? (i := 554) (by decide +kernel)⟩
theorem lw_p11 : lw_okq (⟨"GateChain", "markOfSeized", "(I)I"⟩, 8) := ⟨⟨by decide +kernel, by decide +kernel⟩, List.mem_of_getElem? (i := 13) (by decide +kernel), List.mem_of_getElem? (i := 558) (by decide +kernel), List.mem_of_getElem? (i := 559) (by decide +kernel)⟩
theorem lw_p12 : lw_okq (⟨"GateChain", "markOfPainted", "(I)I"⟩, 8) := ⟨⟨by decide +kernel, by decide +kernel⟩, List.mem_of_getElem? (i := 13) (by decide +kernel), List.mem_of_getElem? (i := 563) (by decide +kernel), List.mem_of_getElem? (i := 564) (by decide +kernel)⟩
theorem lw_p13 : lw_okq (⟨"GateChainModel", "next", "()V"⟩, 26) := ⟨⟨by decide +kernel, by decide +kernel⟩, List.mem_of_getElem? (i := 591) (by decide +kernel), List.mem_of_getElem? (i := 692) (by decide +kernel), List.mem_of_getElem? (i := 693) (by decide +kernel)⟩
theorem lw_p14 : lw_okq (⟨"GateChainModel", "item", "(Z)Z"⟩, 26) := ⟨⟨by decide +kernel, by decide +kernel⟩, List.mem_of_getElem? (i := 591) (by decide +kernel), List.mem_of_getElem? (i := 706) (by decide +kernel), List.mem_of_getElem? (i := 707) (by decide +kernel)⟩
theorem lw_p15 : lw_okq (⟨"GateChainModel", "isNumber", "(I)Z"⟩, 26) := ⟨⟨by decide +kernel, by decide +kernel⟩, List.mem_of_getElem? (i := 591) (by decide +kernel), List.mem_of_getElem? (i := 710) (by decide +kernel), List.mem_of_getElem? (i := 711) (by decide +kernel)⟩
def lw_privs_1 : List (MethodName × Nat) := [(⟨"GateChain", "isLock", "(I)Z"⟩, 8), (⟨"GateChain", "isPerson", "(I)Z"⟩, 8), (⟨"GateChain", "roundsOf", "(I)I"⟩, 8), (⟨"GateChain", "friendsOfAny", "(I)I"⟩, 8), (⟨"GateChain", "worstLock", "()I"⟩, 8), (⟨"GateChain", "greatestRounds", "()I"⟩, 8), (⟨"GateChain", "fewestWhoKnowMore", "(I)I"⟩, 8), (⟨"GateChain", "markOfLock", "(I)I"⟩, 8), (⟨"GateChain", "markOfBrass", "(I)I"⟩, 8), (⟨"GateChain", "markOfRusty", "(I)I"⟩, 8), (⟨"GateChain", "markOfDouble", "(I)I"⟩, 8), (⟨"GateChain", "markOfSeized", "(I)I"⟩, 8), (⟨"GateChain", "markOfPainted", "(I)I"⟩, 8), (⟨"GateChainModel", "next", "()V"⟩, 26), (⟨"GateChainModel", "item", "(Z)Z"⟩, 26), (⟨"GateChainModel", "isNumber", "(I)Z"⟩, 26)]
theorem lw_r1 : ∀ q ∈ lw_privs_1, lw_okq q := List.forall_mem_cons.mpr ⟨lw_p0, List.forall_mem_cons.mpr ⟨lw_p1, List.forall_mem_cons.mpr ⟨lw_p2, List.forall_mem_cons.mpr ⟨lw_p3, List.forall_mem_cons.mpr ⟨lw_p4, List.forall_mem_cons.mpr ⟨lw_p5, List.forall_mem_cons.mpr ⟨lw_p6, List.forall_mem_cons.mpr ⟨lw_p7, List.forall_mem_cons.mpr ⟨lw_p8, List.forall_mem_cons.mpr ⟨lw_p9, List.forall_mem_cons.mpr ⟨lw_p10, List.forall_mem_cons.mpr ⟨lw_p11, List.forall_mem_cons.mpr ⟨lw_p12, List.forall_mem_cons.mpr ⟨lw_p13, List.forall_mem_cons.mpr ⟨lw_p14, List.forall_mem_cons.mpr ⟨lw_p15, fun _ h => absurd h List.not_mem_nil⟩⟩⟩⟩⟩⟩⟩⟩⟩⟩⟩⟩⟩⟩⟩⟩
theorem lw_p16 : lw_okq (⟨"GateChainModel", "isEnd", "()Z"⟩, 26) := ⟨⟨by decide +kernel, by decide +kernel⟩, List.mem_of_getElem? (i := 591) (by decide +kernel), List.mem_of_getElem? (i := 714) (by decide +kernel), List.mem_of_getElem? (i := 715) (by decide +kernel)⟩
theorem lw_p17 : lw_okq (⟨"GateChainModel", "isLock", "(I)Z"⟩, 26) := ⟨⟨by decide +kernel, by decide +kernel⟩, List.mem_of_getElem? (i := 591) (by decide +kernel), List.mem_of_getElem? (i := 722) (by decide +kernel), List.mem_of_getElem? (i := 723) (by decide +kernel)⟩
theorem lw_p18 : lw_okq (⟨"GateChainModel", "knowers", "(I)I"⟩, 26) := ⟨⟨by decide +kernel, by decide +kernel⟩, List.mem_of_getElem? (i := 591) (by decide +kernel), List.mem_of_getElem? (i := 726) (by decide +kernel), List.mem_of_getElem? (i := 727) (by decide +kernel)⟩
theorem lw_p19 : lw_okq (⟨"GateChainModel", "isRing", "(I)Z"⟩, 26) := ⟨⟨by decide +kernel, by decide +kernel⟩, List.mem_of_getElem? (i := 591) (by decide +kernel), List.mem_of_getElem? (i := 733) (by decide +kernel), List.mem_of_getElem? (i := 734) (by decide +kernel)⟩
theorem lw_p20 : lw_okq (⟨"GateChainModel", "placeOf", "(I)I"⟩, 26) := ⟨⟨by decide +kernel, by decide +kernel⟩, List.mem_of_getElem? (i := 591) (by decide +kernel), List.mem_of_getElem? (i := 737) (by decide +kernel), List.mem_of_getElem? (i := 738) (by decide +kernel)⟩
theorem lw_p21 : lw_okq (⟨"GateChainModel", "isOne", "(I)Z"⟩, 26) := ⟨⟨by decide +kernel, by decide +kernel⟩, List.mem_of_getElem? (i := 591) (by decide +kernel), List.mem_of_getElem? (i := 751) (by decide +kernel), List.mem_of_getElem? (i := 752) (by decide +kernel)⟩
theorem lw_p22 : lw_okq (⟨"GateChainModel", "ring", "()I"⟩, 26) := ⟨⟨by decide +kernel, by decide +kernel⟩, List.mem_of_getElem? (i := 591) (by decide +kernel), List.mem_of_getElem? (i := 755) (by decide +kernel), List.mem_of_getElem? (i := 756) (by decide +kernel)⟩
theorem lw_p23 : lw_okq (⟨"GateChainModel", "getsIn", "(I)I"⟩, 26) := ⟨⟨by decide +kernel, by decide +kernel⟩, List.mem_of_getElem? (i := 591) (by decide +kernel), List.mem_of_getElem? (i := 759) (by decide +kernel), List.mem_of_getElem? (i := 760) (by decide +kernel)⟩
theorem lw_p24 : lw_okq (⟨"GateChainModel", "roundsOf", "(I)I"⟩, 26) := ⟨⟨by decide +kernel, by decide +kernel⟩, List.mem_of_getElem? (i := 591) (by decide +kernel), List.mem_of_getElem? (i := 763) (by decide +kernel), List.mem_of_getElem? (i := 764) (by decide +kernel)⟩
theorem lw_p25 : lw_okq (⟨"GateChainModel", "note", "()V"⟩, 26) := ⟨⟨by decide +kernel, by decide +kernel⟩, List.mem_of_getElem? (i := 591) (by decide +kernel), List.mem_of_getElem? (i := 771) (by decide +kernel), List.mem_of_getElem? (i := 772) (by decide +kernel)⟩
theorem lw_p26 : lw_okq (⟨"GateChainModel", "canShut", "(I)Z"⟩, 26) := ⟨⟨by decide +kernel, by decide +kernel⟩, List.mem_of_getElem? (i := 591) (by decide +kernel), List.mem_of_getElem? (i := 780) (by decide +kernel), List.mem_of_getElem? (i := 781) (by decide +kernel)⟩
theorem lw_p27 : lw_okq (⟨"GateChainModel", "besideBy", "(I)I"⟩, 26) := ⟨⟨by decide +kernel, by decide +kernel⟩, List.mem_of_getElem? (i := 591) (by decide +kernel), List.mem_of_getElem? (i := 784) (by decide +kernel), List.mem_of_getElem? (i := 785) (by decide +kernel)⟩
theorem lw_p28 : lw_okq (⟨"GateChainModel", "worst", "()I"⟩, 26) := ⟨⟨by decide +kernel, by decide +kernel⟩, List.mem_of_getElem? (i := 591) (by decide +kernel), List.mem_of_getElem? (i := 818) (by decide +kernel), List.mem_of_getElem? (i := 819) (by decide +kernel)⟩
theorem lw_p29 : lw_okq (⟨"GateChainModel", "leftBy", "(I)I"⟩, 26) := ⟨⟨by decide +kernel, by decide +kernel⟩, List.mem_of_getElem? (i := 591) (by decide +kernel), List.mem_of_getElem? (i := 822) (by decide +kernel), List.mem_of_getElem? (i := 823) (by decide +kernel)⟩
theorem lw_p30 : lw_okq (⟨"GateChainModel", "greatestRounds", "()I"⟩, 26) := ⟨⟨by decide +kernel, by decide +kernel⟩, List.mem_of_getElem? (i := 591) (by decide +kernel), List.mem_of_getElem? (i := 826) (by decide +kernel), List.mem_of_getElem? (i := 827) (by decide +kernel)⟩
theorem lw_p31 : lw_okq (⟨"GateChainModel", "fits", "(I)Z"⟩, 26) := ⟨⟨by decide +kernel, by decide +kernel⟩, List.mem_of_getElem? (i := 591) (by decide +kernel), List.mem_of_getElem? (i := 862) (by decide +kernel), List.mem_of_getElem? (i := 863) (by decide +kernel)⟩
def lw_privs_2 : List (MethodName × Nat) := [(⟨"GateChainModel", "isEnd", "()Z"⟩, 26), (⟨"GateChainModel", "isLock", "(I)Z"⟩, 26), (⟨"GateChainModel", "knowers", "(I)I"⟩, 26), (⟨"GateChainModel", "isRing", "(I)Z"⟩, 26), (⟨"GateChainModel", "placeOf", "(I)I"⟩, 26), (⟨"GateChainModel", "isOne", "(I)Z"⟩, 26), (⟨"GateChainModel", "ring", "()I"⟩, 26), (⟨"GateChainModel", "getsIn", "(I)I"⟩, 26), (⟨"GateChainModel", "roundsOf", "(I)I"⟩, 26), (⟨"GateChainModel", "note", "()V"⟩, 26), (⟨"GateChainModel", "canShut", "(I)Z"⟩, 26), (⟨"GateChainModel", "besideBy", "(I)I"⟩, 26), (⟨"GateChainModel", "worst", "()I"⟩, 26), (⟨"GateChainModel", "leftBy", "(I)I"⟩, 26), (⟨"GateChainModel", "greatestRounds", "()I"⟩, 26), (⟨"GateChainModel", "fits", "(I)Z"⟩, 26)]
theorem lw_r2 : ∀ q ∈ lw_privs_2, lw_okq q := List.forall_mem_cons.mpr ⟨lw_p16, List.forall_mem_cons.mpr ⟨lw_p17, List.forall_mem_cons.mpr ⟨lw_p18, List.forall_mem_cons.mpr ⟨lw_p19, List.forall_mem_cons.mpr ⟨lw_p20, List.forall_mem_cons.mpr ⟨lw_p21, List.forall_mem_cons.mpr ⟨lw_p22, List.forall_mem_cons.mpr ⟨lw_p23, List.forall_mem_cons.mpr ⟨lw_p24, List.forall_mem_cons.mpr ⟨lw_p25, List.forall_mem_cons.mpr ⟨lw_p26, List.forall_mem_cons.mpr ⟨lw_p27, List.forall_mem_cons.mpr ⟨lw_p28, List.forall_mem_cons.mpr ⟨lw_p29, List.forall_mem_cons.mpr ⟨lw_p30, List.forall_mem_cons.mpr ⟨lw_p31, fun _ h => absurd h List.not_mem_nil⟩⟩⟩⟩⟩⟩⟩⟩⟩⟩⟩⟩⟩⟩⟩⟩
theorem lw_p32 : lw_okq (⟨"GateChainModel", "asLock", "(I)I"⟩, 26) := ⟨⟨by decide +kernel, by decide +kernel⟩, List.mem_of_getElem? (i := 591) (by decide +kernel), List.mem_of_getElem? (i := 875) (by decide +kernel), List.mem_of_getElem? (i := 876) (by decide +kernel)⟩
theorem lw_p33 : lw_okq (⟨"GateChainModel", "asBrass", "(I)I"⟩, 26) := ⟨⟨by decide +kernel, by decide +kernel⟩, List.mem_of_getElem? (i := 591) (by decide +kernel), List.mem_of_getElem? (i := 879) (by decide +kernel), List.mem_of_getElem? (i := 880) (by decide +kernel)⟩
theorem lw_p34 : lw_okq (⟨"GateChainModel", "asRusty", "(I)I"⟩, 26) := ⟨⟨by decide +kernel, by decide +kernel⟩, List.mem_of_getElem? (i := 591) (by decide +kernel), List.mem_of_getElem? (i := 883) (by decide +kernel), List.mem_of_getElem? (i := 884) (by decide +kernel)⟩
theorem lw_p35 : lw_okq (⟨"GateChainModel", "asDouble", "(I)I"⟩, 26) := ⟨⟨by decide +kernel, by decide +kernel⟩, List.mem_of_getElem? (i := 591) (by decide +kernel), List.mem_of_getElem? (i := 888) (by decide +kernel), List.mem_of_getElem? (i := 889) (by decide +kernel)⟩
theorem lw_p36 : lw_okq (⟨"GateChainModel", "asSeized", "(I)I"⟩, 26) := ⟨⟨by decide +kernel, by decide +kernel⟩, List.mem_of_getElem? (i := 591) (by decide +kernel), List.mem_of_getElem? (i := 893) (by decide +kernel), List.mem_of_getElem? (i := 894) (by decide +kernel)⟩
theorem lw_p37 : lw_okq (⟨"GateChainModel", "asPainted", "(I)I"⟩, 26) := ⟨⟨by decide +kernel, by decide +kernel⟩, List.mem_of_getElem? (i := 591) (by decide +kernel), List.mem_of_getElem? (i := 898) (by decide +kernel), List.mem_of_getElem? (i := 899) (by decide +kernel)⟩
def lw_privs_3 : List (MethodName × Nat) := [(⟨"GateChainModel", "asLock", "(I)I"⟩, 26), (⟨"GateChainModel", "asBrass", "(I)I"⟩, 26), (⟨"GateChainModel", "asRusty", "(I)I"⟩, 26), (⟨"GateChainModel", "asDouble", "(I)I"⟩, 26), (⟨"GateChainModel", "asSeized", "(I)I"⟩, 26), (⟨"GateChainModel", "asPainted", "(I)I"⟩, 26)]
theorem lw_r3 : ∀ q ∈ lw_privs_3, lw_okq q := List.forall_mem_cons.mpr ⟨lw_p32, List.forall_mem_cons.mpr ⟨lw_p33, List.forall_mem_cons.mpr ⟨lw_p34, List.forall_mem_cons.mpr ⟨lw_p35, List.forall_mem_cons.mpr ⟨lw_p36, List.forall_mem_cons.mpr ⟨lw_p37, fun _ h => absurd h List.not_mem_nil⟩⟩⟩⟩⟩⟩
def lw_privs : List (MethodName × Nat) := lw_privs_1 ++ (lw_privs_2 ++ (lw_privs_3))
def lw_tbl : List Cond := k2_sels lw_privs ++ tables_1
theorem lw_privs_ok : ∀ q ∈ lw_privs, lw_okq q := by
  show ∀ q ∈ lw_privs_1 ++ (lw_privs_2 ++ (lw_privs_3)), lw_okq q
  exact List.forall_mem_append.mpr ⟨lw_r1, List.forall_mem_append.mpr ⟨lw_r2, lw_r3⟩⟩
def RX0 : String := "GateChain$Now"
def TX0 : u_T := fun k => match k with
  | 0 => ("GateChain$Now", "scene", "LGateChain$Scene;", true)
  | 1 => ("GateChain$Now", "earlier", "[LGateChain$Scene;", true)
  | _ => ("GateChain$Now", "undoable", "I", false)
def tyX0 : Nat → FieldType := fun k => match k with
  | 0 => .object "GateChain$Scene"
  | 1 => .array (.object "GateChain$Scene")
  | _ => .int
abbrev wsX00 : List Cond := u_ws RX0 TX0 3
theorem nmX0 : ∀ a, a < 3 → ∀ b, b < 3 → a ≠ b → (TX0 a).2.1 ≠ (TX0 b).2.1 := by decide +kernel
theorem tyX0_ok : ∀ k, k < 3 → parseFieldDescriptor (TX0 k).2.2.1 = some (tyX0 k) := by decide +kernel
abbrev cX0_init : ByteArray := prog_2_method_1_code
def yX0_init : MethodName := ⟨RX0, "<init>", "()V"⟩
abbrev cX0_begin : ByteArray := prog_2_method_2_code
def yX0_begin : MethodName := ⟨RX0, "begin", "(LGateChain$Plan;)V"⟩
abbrev cX0_copyFrom : ByteArray := prog_2_method_3_code
def yX0_copyFrom : MethodName := ⟨RX0, "copyFrom", "(LGateChain$Now;)V"⟩
abbrev cX0_remember : ByteArray := prog_2_method_4_code
def yX0_remember : MethodName := ⟨RX0, "remember", "()V"⟩
abbrev cX0_loseOldest : ByteArray := prog_2_method_5_code
def yX0_loseOldest : MethodName := ⟨RX0, "loseOldest", "()V"⟩
abbrev cX0_takeBack : ByteArray := prog_2_method_6_code
def yX0_takeBack : MethodName := ⟨RX0, "takeBack", "()V"⟩
def RX1 : String := "GateChain$Plan"
def TX1 : u_T := fun k => match k with
  | 0 => ("GateChain$Plan", "code", "[I", true)
  | 1 => ("GateChain$Plan", "knowers", "[I", true)
  | 2 => ("GateChain$Plan", "friends", "[I", true)
  | 3 => ("GateChain$Plan", "persons", "I", false)
  | _ => ("GateChain$Plan", "locks", "I", false)
def tyX1 : Nat → FieldType := fun k => match k with
  | 0 => .array .int
  | 1 => .array .int
  | 2 => .array .int
  | 3 => .int
  | _ => .int
abbrev wsX10 : List Cond := u_ws RX1 TX1 5
theorem nmX1 : ∀ a, a < 5 → ∀ b, b < 5 → a ≠ b → (TX1 a).2.1 ≠ (TX1 b).2.1 := by decide +kernel
theorem tyX1_ok : ∀ k, k < 5 → parseFieldDescriptor (TX1 k).2.2.1 = some (tyX1 k) := by decide +kernel
abbrev cX1_init : ByteArray := prog_3_method_1_code
def yX1_init : MethodName := ⟨RX1, "<init>", "()V"⟩
abbrev cX1_reset : ByteArray := prog_3_method_2_code
def yX1_reset : MethodName := ⟨RX1, "reset", "()V"⟩
abbrev cX1_addLock : ByteArray := prog_3_method_3_code
def yX1_addLock : MethodName := ⟨RX1, "addLock", "(I)V"⟩
abbrev cX1_befriend : ByteArray := prog_3_method_4_code
def yX1_befriend : MethodName := ⟨RX1, "befriend", "(II)V"⟩
def RX2 : String := "GateChain$Rumour"
def TX2 : u_T := fun k => match k with
  | 0 => ("GateChain$Rumour", "possible", "[I", true)
  | 1 => ("GateChain$Rumour", "possibleCount", "I", false)
  | 2 => ("GateChain$Rumour", "heard", "I", false)
  | 3 => ("GateChain$Rumour", "withHundred", "[I", true)
  | 4 => ("GateChain$Rumour", "withTen", "[I", true)
  | 5 => ("GateChain$Rumour", "withOne", "[I", true)
  | 6 => ("GateChain$Rumour", "withHundredTen", "[I", true)
  | 7 => ("GateChain$Rumour", "withHundredOne", "[I", true)
  | _ => ("GateChain$Rumour", "withTenOne", "[I", true)
def tyX2 : Nat → FieldType := fun k => match k with
  | 0 => .array .int
  | 1 => .int
  | 2 => .int
  | 3 => .array .int
  | 4 => .array .int
  | 5 => .array .int
  | 6 => .array .int
  | 7 => .array .int
  | _ => .array .int
abbrev wsX20 : List Cond := u_ws RX2 TX2 9
theorem nmX2 : ∀ a, a < 9 → ∀ b, b < 9 → a ≠ b → (TX2 a).2.1 ≠ (TX2 b).2.1 := by decide +kernel
theorem tyX2_ok : ∀ k, k < 9 → parseFieldDescriptor (TX2 k).2.2.1 = some (tyX2 k) := by decide +kernel
abbrev cX2_init : ByteArray := prog_4_method_1_code
def yX2_init : MethodName := ⟨RX2, "<init>", "()V"⟩
abbrev cX2_forgetAll : ByteArray := prog_4_method_2_code
def yX2_forgetAll : MethodName := ⟨RX2, "forgetAll", "()V"⟩
abbrev cX2_add : ByteArray := prog_4_method_3_code
def yX2_add : MethodName := ⟨RX2, "add", "(II)V"⟩
abbrev cX2_bestQuestion : ByteArray := prog_4_method_4_code
def yX2_bestQuestion : MethodName := ⟨RX2, "bestQuestion", "()I"⟩
abbrev cX2_countFigures : ByteArray := prog_4_method_5_code
def yX2_countFigures : MethodName := ⟨RX2, "countFigures", "()V"⟩
abbrev cX2_greatestPart : ByteArray := prog_4_method_6_code
def yX2_greatestPart : MethodName := ⟨RX2, "greatestPart", "(II)I"⟩
def RX3 : String := "GateChain$Scene"
def TX3 : u_T := fun k => match k with
  | 0 => ("GateChain$Scene", "code", "[I", true)
  | 1 => ("GateChain$Scene", "shown", "[I", true)
  | 2 => ("GateChain$Scene", "knowers", "[I", true)
  | 3 => ("GateChain$Scene", "behind", "[I", true)
  | _ => ("GateChain$Scene", "openAt", "I", false)
def tyX3 : Nat → FieldType := fun k => match k with
  | 0 => .array .int
  | 1 => .array .int
  | 2 => .array .int
  | 3 => .array .int
  | _ => .int
abbrev wsX30 : List Cond := u_ws RX3 TX3 5
theorem nmX3 : ∀ a, a < 5 → ∀ b, b < 5 → a ≠ b → (TX3 a).2.1 ≠ (TX3 b).2.1 := by decide +kernel
theorem tyX3_ok : ∀ k, k < 5 → parseFieldDescriptor (TX3 k).2.2.1 = some (tyX3 k) := by decide +kernel
abbrev cX3_init : ByteArray := prog_5_method_1_code
def yX3_init : MethodName := ⟨RX3, "<init>", "()V"⟩
abbrev cX3_begin : ByteArray := prog_5_method_2_code
def yX3_begin : MethodName := ⟨RX3, "begin", "(LGateChain$Plan;)V"⟩
abbrev cX3_copyFrom : ByteArray := prog_5_method_3_code
def yX3_copyFrom : MethodName := ⟨RX3, "copyFrom", "(LGateChain$Scene;)V"⟩
abbrev cX3_isOpen : ByteArray := prog_5_method_4_code
def yX3_isOpen : MethodName := ⟨RX3, "isOpen", "()Z"⟩
abbrev cX3_behindOf : ByteArray := prog_5_method_5_code
def yX3_behindOf : MethodName := ⟨RX3, "behindOf", "(I)I"⟩
abbrev cX3_inRing : ByteArray := prog_5_method_6_code
def yX3_inRing : MethodName := ⟨RX3, "inRing", "(I)Z"⟩
abbrev cX3_ringBits : ByteArray := prog_5_method_7_code
def yX3_ringBits : MethodName := ⟨RX3, "ringBits", "()I"⟩
abbrev cX3_ringSize : ByteArray := prog_5_method_8_code
def yX3_ringSize : MethodName := ⟨RX3, "ringSize", "()I"⟩
abbrev cX3_knows : ByteArray := prog_5_method_9_code
def yX3_knows : MethodName := ⟨RX3, "knows", "(II)Z"⟩
abbrev cX3_knowerCount : ByteArray := prog_5_method_10_code
def yX3_knowerCount : MethodName := ⟨RX3, "knowerCount", "(I)I"⟩
abbrev cX3_stepsOf : ByteArray := prog_5_method_11_code
def yX3_stepsOf : MethodName := ⟨RX3, "stepsOf", "(I)I"⟩
abbrev cX3_knownBy : ByteArray := prog_5_method_12_code
def yX3_knownBy : MethodName := ⟨RX3, "knownBy", "(I)I"⟩
abbrev cX3_whoKnowsAny : ByteArray := prog_5_method_13_code
def yX3_whoKnowsAny : MethodName := ⟨RX3, "whoKnowsAny", "(I)I"⟩
abbrev cX3_whoGetsIn : ByteArray := prog_5_method_14_code
def yX3_whoGetsIn : MethodName := ⟨RX3, "whoGetsIn", "()I"⟩
abbrev cX3_canShutOn : ByteArray := prog_5_method_15_code
def yX3_canShutOn : MethodName := ⟨RX3, "canShutOn", "(I)Z"⟩
abbrev cX3_between : ByteArray := prog_5_method_16_code
def yX3_between : MethodName := ⟨RX3, "between", "(I)I"⟩
abbrev cX3_leftBy : ByteArray := prog_5_method_17_code
def yX3_leftBy : MethodName := ⟨RX3, "leftBy", "(I)I"⟩
abbrev cX3_shutOn : ByteArray := prog_5_method_18_code
def yX3_shutOn : MethodName := ⟨RX3, "shutOn", "(II)I"⟩
abbrev cX3_hangIn : ByteArray := prog_5_method_19_code
def yX3_hangIn : MethodName := ⟨RX3, "hangIn", "(I)V"⟩
abbrev cX3_giveCode : ByteArray := prog_5_method_20_code
def yX3_giveCode : MethodName := ⟨RX3, "giveCode", "(II)I"⟩
def RX4 : String := "GateChain$Text"
def TX4 : u_T := fun k => match k with
  | 0 => ("GateChain$Text", "bytes", "[I", true)
  | 1 => ("GateChain$Text", "length", "I", false)
  | 2 => ("GateChain$Text", "at", "I", false)
  | 3 => ("GateChain$Text", "token", "I", false)
  | 4 => ("GateChain$Text", "place", "I", false)
  | _ => ("GateChain$Text", "value", "I", false)
def tyX4 : Nat → FieldType := fun k => match k with
  | 0 => .array .int
  | 1 => .int
  | 2 => .int
  | 3 => .int
  | 4 => .int
  | _ => .int
abbrev wsX40 : List Cond := u_ws RX4 TX4 6
theorem nmX4 : ∀ a, a < 6 → ∀ b, b < 6 → a ≠ b → (TX4 a).2.1 ≠ (TX4 b).2.1 := by decide +kernel
theorem tyX4_ok : ∀ k, k < 6 → parseFieldDescriptor (TX4 k).2.2.1 = some (tyX4 k) := by decide +kernel
abbrev cX4_init : ByteArray := prog_6_method_1_code
def yX4_init : MethodName := ⟨RX4, "<init>", "()V"⟩
abbrev cX4_append : ByteArray := prog_6_method_2_code
def yX4_append : MethodName := ⟨RX4, "append", "(I)I"⟩
abbrev cX4_empty : ByteArray := prog_6_method_3_code
def yX4_empty : MethodName := ⟨RX4, "empty", "()I"⟩
abbrev cX4_tellAll : ByteArray := prog_6_method_4_code
def yX4_tellAll : MethodName := ⟨RX4, "tellAll", "(LGateChain$Plan;)I"⟩
abbrev cX4_readItem : ByteArray := prog_6_method_5_code
def yX4_readItem : MethodName := ⟨RX4, "readItem", "(LGateChain$Plan;I)Z"⟩
abbrev cX4_readPersons : ByteArray := prog_6_method_6_code
def yX4_readPersons : MethodName := ⟨RX4, "readPersons", "(LGateChain$Plan;)Z"⟩
abbrev cX4_readLock : ByteArray := prog_6_method_7_code
def yX4_readLock : MethodName := ⟨RX4, "readLock", "(LGateChain$Plan;)Z"⟩
abbrev cX4_readKnows : ByteArray := prog_6_method_8_code
def yX4_readKnows : MethodName := ⟨RX4, "readKnows", "(LGateChain$Plan;)Z"⟩
abbrev cX4_readFriends : ByteArray := prog_6_method_9_code
def yX4_readFriends : MethodName := ⟨RX4, "readFriends", "(LGateChain$Plan;)Z"⟩
abbrev cX4_readNumber : ByteArray := prog_6_method_10_code
def yX4_readNumber : MethodName := ⟨RX4, "readNumber", "(II)Z"⟩
abbrev cX4_readEnd : ByteArray := prog_6_method_11_code
def yX4_readEnd : MethodName := ⟨RX4, "readEnd", "()Z"⟩
abbrev cX4_advance : ByteArray := prog_6_method_12_code
def yX4_advance : MethodName := ⟨RX4, "advance", "()V"⟩
abbrev cX4_takeLetters : ByteArray := prog_6_method_13_code
def yX4_takeLetters : MethodName := ⟨RX4, "takeLetters", "()V"⟩
abbrev cX4_takeNumber : ByteArray := prog_6_method_14_code
def yX4_takeNumber : MethodName := ⟨RX4, "takeNumber", "()V"⟩
def RX5 : String := "GateChain"
def TX5 : u_T := fun k => match k with
  | 0 => ("GateChain", "text", "LGateChain$Text;", true)
  | 1 => ("GateChain", "present", "LGateChain$Now;", true)
  | 2 => ("GateChain", "images", "[LGateChain$Now;", true)
  | 3 => ("GateChain", "imageKept", "[Z", true)
  | 4 => ("GateChain", "rumour", "LGateChain$Rumour;", true)
  | 5 => ("GateChain", "plan", "LGateChain$Plan;", false)
  | 6 => ("GateChain", "draft", "LGateChain$Plan;", false)
  | _ => ("GateChain", "traced", "J", false)
def tyX5 : Nat → FieldType := fun k => match k with
  | 0 => .object "GateChain$Text"
  | 1 => .object "GateChain$Now"
  | 2 => .array (.object "GateChain$Now")
  | 3 => .array .boolean
  | 4 => .object "GateChain$Rumour"
  | 5 => .object "GateChain$Plan"
  | 6 => .object "GateChain$Plan"
  | _ => .long
abbrev wsX50 : List Cond := u_ws RX5 TX5 8
theorem nmX5 : ∀ a, a < 8 → ∀ b, b < 8 → a ≠ b → (TX5 a).2.1 ≠ (TX5 b).2.1 := by decide +kernel
theorem tyX5_ok : ∀ k, k < 8 → parseFieldDescriptor (TX5 k).2.2.1 = some (tyX5 k) := by decide +kernel
abbrev cX5_init : ByteArray := prog_1_method_1_code
def yX5_init : MethodName := ⟨RX5, "<init>", "()V"⟩
abbrev cX5_type : ByteArray := prog_1_method_2_code
def yX5_type : MethodName := ⟨RX5, "type", "(I)I"⟩
abbrev cX5_clear : ByteArray := prog_1_method_3_code
def yX5_clear : MethodName := ⟨RX5, "clear", "()I"⟩
abbrev cX5_gate : ByteArray := prog_1_method_4_code
def yX5_gate : MethodName := ⟨RX5, "gate", "()I"⟩
abbrev cX5_lock : ByteArray := prog_1_method_5_code
def yX5_lock : MethodName := ⟨RX5, "lock", "(II)I"⟩
abbrev cX5_person : ByteArray := prog_1_method_6_code
def yX5_person : MethodName := ⟨RX5, "person", "(II)I"⟩
abbrev cX5_opens : ByteArray := prog_1_method_7_code
def yX5_opens : MethodName := ⟨RX5, "opens", "(II)I"⟩
abbrev cX5_shuts : ByteArray := prog_1_method_8_code
def yX5_shuts : MethodName := ⟨RX5, "shuts", "(II)I"⟩
abbrev cX5_hangs : ByteArray := prog_1_method_9_code
def yX5_hangs : MethodName := ⟨RX5, "hangs", "(II)I"⟩
abbrev cX5_tells : ByteArray := prog_1_method_10_code
def yX5_tells : MethodName := ⟨RX5, "tells", "(III)I"⟩
abbrev cX5_changes : ByteArray := prog_1_method_11_code
def yX5_changes : MethodName := ⟨RX5, "changes", "(II)I"⟩
abbrev cX5_tries : ByteArray := prog_1_method_12_code
def yX5_tries : MethodName := ⟨RX5, "tries", "(II)I"⟩
abbrev cX5_undo : ByteArray := prog_1_method_13_code
def yX5_undo : MethodName := ⟨RX5, "undo", "()I"⟩
abbrev cX5_now : ByteArray := prog_1_method_14_code
def yX5_now : MethodName := ⟨RX5, "now", "(I)I"⟩
abbrev cX5_left : ByteArray := prog_1_method_15_code
def yX5_left : MethodName := ⟨RX5, "left", "(I)I"⟩
abbrev cX5_jam : ByteArray := prog_1_method_16_code
def yX5_jam : MethodName := ⟨RX5, "jam", "(I)I"⟩
abbrev cX5_near : ByteArray := prog_1_method_17_code
def yX5_near : MethodName := ⟨RX5, "near", "(II)I"⟩
abbrev cX5_odds : ByteArray := prog_1_method_18_code
def yX5_odds : MethodName := ⟨RX5, "odds", "(II)I"⟩
abbrev cX5_hears : ByteArray := prog_1_method_19_code
def yX5_hears : MethodName := ⟨RX5, "hears", "(II)I"⟩
abbrev cX5_forget : ByteArray := prog_1_method_20_code
def yX5_forget : MethodName := ⟨RX5, "forget", "()I"⟩
abbrev cX5_codes : ByteArray := prog_1_method_21_code
def yX5_codes : MethodName := ⟨RX5, "codes", "(I)I"⟩
abbrev cX5_ask : ByteArray := prog_1_method_22_code
def yX5_ask : MethodName := ⟨RX5, "ask", "()I"⟩
abbrev cX5_mark : ByteArray := prog_1_method_23_code
def yX5_mark : MethodName := ⟨RX5, "mark", "(II)I"⟩
abbrev cX5_keep : ByteArray := prog_1_method_24_code
def yX5_keep : MethodName := ⟨RX5, "keep", "(I)I"⟩
abbrev cX5_back : ByteArray := prog_1_method_25_code
def yX5_back : MethodName := ⟨RX5, "back", "(I)I"⟩
abbrev cX5_count : ByteArray := prog_1_method_26_code
def yX5_count : MethodName := ⟨RX5, "count", "(I)I"⟩
abbrev cX5_trace : ByteArray := prog_1_method_27_code
def yX5_trace : MethodName := ⟨RX5, "trace", "()J"⟩
abbrev cX5_isPerson : ByteArray := prog_1_method_28_code
def yX5_isPerson : MethodName := ⟨RX5, "isPerson", "(I)Z"⟩
abbrev cX5_isLock : ByteArray := prog_1_method_29_code
def yX5_isLock : MethodName := ⟨RX5, "isLock", "(I)Z"⟩
abbrev cX5_isNumber : ByteArray := prog_1_method_30_code
def yX5_isNumber : MethodName := ⟨RX5, "isNumber", "(I)Z"⟩
abbrev cX5_isImage : ByteArray := prog_1_method_31_code
def yX5_isImage : MethodName := ⟨RX5, "isImage", "(I)Z"⟩
abbrev cX5_hasBit : ByteArray := prog_1_method_32_code
def yX5_hasBit : MethodName := ⟨RX5, "hasBit", "(II)Z"⟩
abbrev cX5_roundsOf : ByteArray := prog_1_method_33_code
def yX5_roundsOf : MethodName := ⟨RX5, "roundsOf", "(I)I"⟩
abbrev cX5_friendsOfAny : ByteArray := prog_1_method_34_code
def yX5_friendsOfAny : MethodName := ⟨RX5, "friendsOfAny", "(I)I"⟩
abbrev cX5_greatestRounds : ByteArray := prog_1_method_35_code
def yX5_greatestRounds : MethodName := ⟨RX5, "greatestRounds", "()I"⟩
abbrev cX5_worstLock : ByteArray := prog_1_method_36_code
def yX5_worstLock : MethodName := ⟨RX5, "worstLock", "()I"⟩
abbrev cX5_fewestWhoKnowMore : ByteArray := prog_1_method_37_code
def yX5_fewestWhoKnowMore : MethodName := ⟨RX5, "fewestWhoKnowMore", "(I)I"⟩
abbrev cX5_rightWheels : ByteArray := prog_1_method_38_code
def yX5_rightWheels : MethodName := ⟨RX5, "rightWheels", "(II)I"⟩
abbrev cX5_stepsBetween : ByteArray := prog_1_method_39_code
def yX5_stepsBetween : MethodName := ⟨RX5, "stepsBetween", "(II)I"⟩
abbrev cX5_turns : ByteArray := prog_1_method_40_code
def yX5_turns : MethodName := ⟨RX5, "turns", "(II)I"⟩
abbrev cX5_numbersWithin : ByteArray := prog_1_method_41_code
def yX5_numbersWithin : MethodName := ⟨RX5, "numbersWithin", "(I)I"⟩
abbrev cX5_greatestDivisor : ByteArray := prog_1_method_42_code
def yX5_greatestDivisor : MethodName := ⟨RX5, "greatestDivisor", "(II)I"⟩
abbrev cX5_markOfLock : ByteArray := prog_1_method_43_code
def yX5_markOfLock : MethodName := ⟨RX5, "markOfLock", "(I)I"⟩
abbrev cX5_markOfBrass : ByteArray := prog_1_method_44_code
def yX5_markOfBrass : MethodName := ⟨RX5, "markOfBrass", "(I)I"⟩
abbrev cX5_markOfRusty : ByteArray := prog_1_method_45_code
def yX5_markOfRusty : MethodName := ⟨RX5, "markOfRusty", "(I)I"⟩
abbrev cX5_markOfDouble : ByteArray := prog_1_method_46_code
def yX5_markOfDouble : MethodName := ⟨RX5, "markOfDouble", "(I)I"⟩
abbrev cX5_markOfSeized : ByteArray := prog_1_method_47_code
def yX5_markOfSeized : MethodName := ⟨RX5, "markOfSeized", "(I)I"⟩
abbrev cX5_markOfPainted : ByteArray := prog_1_method_48_code
def yX5_markOfPainted : MethodName := ⟨RX5, "markOfPainted", "(I)I"⟩
def RX6 : String := "GateChainModel"
def TX6 : u_T := fun k => match k with
  | 0 => ("GateChainModel", "persons", "I", false)
  | 1 => ("GateChainModel", "locks", "I", false)
  | 2 => ("GateChainModel", "friends", "[I", true)
  | 3 => ("GateChainModel", "readPersons", "I", false)
  | 4 => ("GateChainModel", "readLocks", "I", false)
  | 5 => ("GateChainModel", "readFriends", "[I", true)
  | 6 => ("GateChainModel", "readRow", "[I", true)
  | 7 => ("GateChainModel", "now", "[I", true)
  | 8 => ("GateChainModel", "before", "[I", true)
  | 9 => ("GateChainModel", "undoMany", "I", false)
  | 10 => ("GateChainModel", "imaged", "I", false)
  | 11 => ("GateChainModel", "imageRow", "[I", true)
  | 12 => ("GateChainModel", "imageMany", "[I", true)
  | 13 => ("GateChainModel", "imageBefore", "[I", true)
  | 14 => ("GateChainModel", "length", "I", false)
  | 15 => ("GateChainModel", "text", "[I", true)
  | 16 => ("GateChainModel", "heardMany", "I", false)
  | 17 => ("GateChainModel", "heardBy", "[I", true)
  | 18 => ("GateChainModel", "heardRight", "[I", true)
  | 19 => ("GateChainModel", "trace", "J", false)
  | 20 => ("GateChainModel", "spot", "I", false)
  | 21 => ("GateChainModel", "begins", "I", false)
  | 22 => ("GateChainModel", "token", "I", false)
  | 23 => ("GateChainModel", "value", "I", false)
  | 24 => ("GateChainModel", "fitting", "[I", true)
  | _ => ("GateChainModel", "parts", "[I", true)
def tyX6 : Nat → FieldType := fun k => match k with
  | 0 => .int
  | 1 => .int
  | 2 => .array .int
  | 3 => .int
  | 4 => .int
  | 5 => .array .int
  | 6 => .array .int
  | 7 => .array .int
  | 8 => .array .int
  | 9 => .int
  | 10 => .int
  | 11 => .array .int
  | 12 => .array .int
  | 13 => .array .int
  | 14 => .int
  | 15 => .array .int
  | 16 => .int
  | 17 => .array .int
  | 18 => .array .int
  | 19 => .long
  | 20 => .int
  | 21 => .int
  | 22 => .int
  | 23 => .int
  | 24 => .array .int
  | _ => .array .int
abbrev wsX60 : List Cond := u_ws RX6 TX6 26
theorem nmX6 : ∀ a, a < 26 → ∀ b, b < 26 → a ≠ b → (TX6 a).2.1 ≠ (TX6 b).2.1 := by decide +kernel
theorem tyX6_ok : ∀ k, k < 26 → parseFieldDescriptor (TX6 k).2.2.1 = some (tyX6 k) := by decide +kernel
abbrev cX6_init : ByteArray := prog_8_method_1_code
def yX6_init : MethodName := ⟨RX6, "<init>", "()V"⟩
abbrev cX6_in : ByteArray := prog_8_method_2_code
def yX6_in : MethodName := ⟨RX6, "in", "(JJJ)Z"⟩
abbrev cX6_has : ByteArray := prog_8_method_3_code
def yX6_has : MethodName := ⟨RX6, "has", "(II)Z"⟩
abbrev cX6_ones : ByteArray := prog_8_method_4_code
def yX6_ones : MethodName := ⟨RX6, "ones", "(I)I"⟩
abbrev cX6_type : ByteArray := prog_8_method_5_code
def yX6_type : MethodName := ⟨RX6, "type", "(I)I"⟩
abbrev cX6_clear : ByteArray := prog_8_method_6_code
def yX6_clear : MethodName := ⟨RX6, "clear", "()I"⟩
abbrev cX6_isFigure : ByteArray := prog_8_method_7_code
def yX6_isFigure : MethodName := ⟨RX6, "isFigure", "(I)Z"⟩
abbrev cX6_isLetter : ByteArray := prog_8_method_8_code
def yX6_isLetter : MethodName := ⟨RX6, "isLetter", "(I)Z"⟩
abbrev cX6_next : ByteArray := prog_8_method_9_code
def yX6_next : MethodName := ⟨RX6, "next", "()V"⟩
abbrev cX6_isNumber : ByteArray := prog_8_method_10_code
def yX6_isNumber : MethodName := ⟨RX6, "isNumber", "(I)Z"⟩
abbrev cX6_isEnd : ByteArray := prog_8_method_11_code
def yX6_isEnd : MethodName := ⟨RX6, "isEnd", "()Z"⟩
abbrev cX6_item : ByteArray := prog_8_method_12_code
def yX6_item : MethodName := ⟨RX6, "item", "(Z)Z"⟩
abbrev cX6_gate : ByteArray := prog_8_method_13_code
def yX6_gate : MethodName := ⟨RX6, "gate", "()I"⟩
abbrev cX6_isLock : ByteArray := prog_8_method_14_code
def yX6_isLock : MethodName := ⟨RX6, "isLock", "(I)Z"⟩
abbrev cX6_isOne : ByteArray := prog_8_method_15_code
def yX6_isOne : MethodName := ⟨RX6, "isOne", "(I)Z"⟩
abbrev cX6_placeOf : ByteArray := prog_8_method_16_code
def yX6_placeOf : MethodName := ⟨RX6, "placeOf", "(I)I"⟩
abbrev cX6_isRing : ByteArray := prog_8_method_17_code
def yX6_isRing : MethodName := ⟨RX6, "isRing", "(I)Z"⟩
abbrev cX6_ring : ByteArray := prog_8_method_18_code
def yX6_ring : MethodName := ⟨RX6, "ring", "()I"⟩
abbrev cX6_knowers : ByteArray := prog_8_method_19_code
def yX6_knowers : MethodName := ⟨RX6, "knowers", "(I)I"⟩
abbrev cX6_getsIn : ByteArray := prog_8_method_20_code
def yX6_getsIn : MethodName := ⟨RX6, "getsIn", "(I)I"⟩
abbrev cX6_canShut : ByteArray := prog_8_method_21_code
def yX6_canShut : MethodName := ⟨RX6, "canShut", "(I)Z"⟩
abbrev cX6_besideBy : ByteArray := prog_8_method_22_code
def yX6_besideBy : MethodName := ⟨RX6, "besideBy", "(I)I"⟩
abbrev cX6_leftBy : ByteArray := prog_8_method_23_code
def yX6_leftBy : MethodName := ⟨RX6, "leftBy", "(I)I"⟩
abbrev cX6_figure : ByteArray := prog_8_method_24_code
def yX6_figure : MethodName := ⟨RX6, "figure", "(II)I"⟩
abbrev cX6_stepsOf : ByteArray := prog_8_method_25_code
def yX6_stepsOf : MethodName := ⟨RX6, "stepsOf", "(II)I"⟩
abbrev cX6_rightOf : ByteArray := prog_8_method_26_code
def yX6_rightOf : MethodName := ⟨RX6, "rightOf", "(II)I"⟩
abbrev cX6_lock : ByteArray := prog_8_method_27_code
def yX6_lock : MethodName := ⟨RX6, "lock", "(II)I"⟩
abbrev cX6_roundsOf : ByteArray := prog_8_method_28_code
def yX6_roundsOf : MethodName := ⟨RX6, "roundsOf", "(I)I"⟩
abbrev cX6_person : ByteArray := prog_8_method_29_code
def yX6_person : MethodName := ⟨RX6, "person", "(II)I"⟩
abbrev cX6_note : ByteArray := prog_8_method_30_code
def yX6_note : MethodName := ⟨RX6, "note", "()V"⟩
abbrev cX6_opens : ByteArray := prog_8_method_31_code
def yX6_opens : MethodName := ⟨RX6, "opens", "(II)I"⟩
abbrev cX6_shuts : ByteArray := prog_8_method_32_code
def yX6_shuts : MethodName := ⟨RX6, "shuts", "(II)I"⟩
abbrev cX6_hangs : ByteArray := prog_8_method_33_code
def yX6_hangs : MethodName := ⟨RX6, "hangs", "(II)I"⟩
abbrev cX6_tells : ByteArray := prog_8_method_34_code
def yX6_tells : MethodName := ⟨RX6, "tells", "(III)I"⟩
abbrev cX6_changes : ByteArray := prog_8_method_35_code
def yX6_changes : MethodName := ⟨RX6, "changes", "(II)I"⟩
abbrev cX6_tries : ByteArray := prog_8_method_36_code
def yX6_tries : MethodName := ⟨RX6, "tries", "(II)I"⟩
abbrev cX6_undo : ByteArray := prog_8_method_37_code
def yX6_undo : MethodName := ⟨RX6, "undo", "()I"⟩
abbrev cX6_worst : ByteArray := prog_8_method_38_code
def yX6_worst : MethodName := ⟨RX6, "worst", "()I"⟩
abbrev cX6_greatestRounds : ByteArray := prog_8_method_39_code
def yX6_greatestRounds : MethodName := ⟨RX6, "greatestRounds", "()I"⟩
abbrev cX6_now : ByteArray := prog_8_method_40_code
def yX6_now : MethodName := ⟨RX6, "now", "(I)I"⟩
abbrev cX6_left : ByteArray := prog_8_method_41_code
def yX6_left : MethodName := ⟨RX6, "left", "(I)I"⟩
abbrev cX6_jam : ByteArray := prog_8_method_42_code
def yX6_jam : MethodName := ⟨RX6, "jam", "(I)I"⟩
abbrev cX6_near : ByteArray := prog_8_method_43_code
def yX6_near : MethodName := ⟨RX6, "near", "(II)I"⟩
abbrev cX6_odds : ByteArray := prog_8_method_44_code
def yX6_odds : MethodName := ⟨RX6, "odds", "(II)I"⟩
abbrev cX6_hears : ByteArray := prog_8_method_45_code
def yX6_hears : MethodName := ⟨RX6, "hears", "(II)I"⟩
abbrev cX6_forget : ByteArray := prog_8_method_46_code
def yX6_forget : MethodName := ⟨RX6, "forget", "()I"⟩
abbrev cX6_fits : ByteArray := prog_8_method_47_code
def yX6_fits : MethodName := ⟨RX6, "fits", "(I)Z"⟩
abbrev cX6_codes : ByteArray := prog_8_method_48_code
def yX6_codes : MethodName := ⟨RX6, "codes", "(I)I"⟩
abbrev cX6_ask : ByteArray := prog_8_method_49_code
def yX6_ask : MethodName := ⟨RX6, "ask", "()I"⟩
abbrev cX6_asLock : ByteArray := prog_8_method_50_code
def yX6_asLock : MethodName := ⟨RX6, "asLock", "(I)I"⟩
abbrev cX6_asBrass : ByteArray := prog_8_method_51_code
def yX6_asBrass : MethodName := ⟨RX6, "asBrass", "(I)I"⟩
abbrev cX6_asRusty : ByteArray := prog_8_method_52_code
def yX6_asRusty : MethodName := ⟨RX6, "asRusty", "(I)I"⟩
abbrev cX6_asDouble : ByteArray := prog_8_method_53_code
def yX6_asDouble : MethodName := ⟨RX6, "asDouble", "(I)I"⟩
abbrev cX6_asSeized : ByteArray := prog_8_method_54_code
def yX6_asSeized : MethodName := ⟨RX6, "asSeized", "(I)I"⟩
abbrev cX6_asPainted : ByteArray := prog_8_method_55_code
def yX6_asPainted : MethodName := ⟨RX6, "asPainted", "(I)I"⟩
abbrev cX6_mark : ByteArray := prog_8_method_56_code
def yX6_mark : MethodName := ⟨RX6, "mark", "(II)I"⟩
abbrev cX6_keep : ByteArray := prog_8_method_57_code
def yX6_keep : MethodName := ⟨RX6, "keep", "(I)I"⟩
abbrev cX6_back : ByteArray := prog_8_method_58_code
def yX6_back : MethodName := ⟨RX6, "back", "(I)I"⟩
abbrev cX6_count : ByteArray := prog_8_method_59_code
def yX6_count : MethodName := ⟨RX6, "count", "(I)I"⟩
abbrev cX6_trace : ByteArray := prog_8_method_60_code
def yX6_trace : MethodName := ⟨RX6, "trace", "()J"⟩
def RJ6 : String := "java/lang/Integer"
def TJ6 : u_T := fun k => match k with
  | _ => ("", "", "", false)
def tyJ6 : Nat → FieldType := fun k => match k with
  | _ => .int
abbrev wsJ60 : List Cond := u_ws RJ6 TJ6 0
theorem nmJ6 : ∀ a, a < 0 → ∀ b, b < 0 → a ≠ b → (TJ6 a).2.1 ≠ (TJ6 b).2.1 := by decide +kernel
theorem tyJ6_ok : ∀ k, k < 0 → parseFieldDescriptor (TJ6 k).2.2.1 = some (tyJ6 k) := by decide +kernel
abbrev cJ6_bitCount_0f7a4 : ByteArray := prog_9_method_49_code
def yJ6_bitCount_0f7a4 : MethodName := ⟨RJ6, "bitCount", "(I)I"⟩
def RJ9 : String := "java/lang/Math"
def TJ9 : u_T := fun k => match k with
  | _ => ("", "", "", false)
def tyJ9 : Nat → FieldType := fun k => match k with
  | _ => .int
abbrev wsJ90 : List Cond := u_ws RJ9 TJ9 0
theorem nmJ9 : ∀ a, a < 0 → ∀ b, b < 0 → a ≠ b → (TJ9 a).2.1 ≠ (TJ9 b).2.1 := by decide +kernel
theorem tyJ9_ok : ∀ k, k < 0 → parseFieldDescriptor (TJ9 k).2.2.1 = some (tyJ9 k) := by decide +kernel
abbrev cJ9_abs_0f7a4 : ByteArray := prog_10_method_59_code
def yJ9_abs_0f7a4 : MethodName := ⟨RJ9, "abs", "(I)I"⟩
abbrev cJ9_max_7cf53 : ByteArray := prog_10_method_65_code
def yJ9_max_7cf53 : MethodName := ⟨RJ9, "max", "(II)I"⟩
abbrev cJ9_min_7cf53 : ByteArray := prog_10_method_69_code
def yJ9_min_7cf53 : MethodName := ⟨RJ9, "min", "(II)I"⟩
def RJ10 : String := "java/lang/System"
def TJ10 : u_T := fun k => match k with
  | _ => ("", "", "", false)
def tyJ10 : Nat → FieldType := fun k => match k with
  | _ => .int
abbrev wsJ100 : List Cond := u_ws RJ10 TJ10 0
theorem nmJ10 : ∀ a, a < 0 → ∀ b, b < 0 → a ≠ b → (TJ10 a).2.1 ≠ (TJ10 b).2.1 := by decide +kernel
theorem tyJ10_ok : ∀ k, k < 0 → parseFieldDescriptor (TJ10 k).2.2.1 = some (tyJ10 k) := by decide +kernel
def RJ7 : String := "java/util/Arrays"
def TJ7 : u_T := fun k => match k with
  | _ => ("", "", "", false)
def tyJ7 : Nat → FieldType := fun k => match k with
  | _ => .int
abbrev wsJ70 : List Cond := u_ws RJ7 TJ7 0
theorem nmJ7 : ∀ a, a < 0 → ∀ b, b < 0 → a ≠ b → (TJ7 a).2.1 ≠ (TJ7 b).2.1 := by decide +kernel
theorem tyJ7_ok : ∀ k, k < 0 → parseFieldDescriptor (TJ7 k).2.2.1 = some (tyJ7 k) := by decide +kernel
abbrev cJ7_fill_53178 : ByteArray := prog_12_method_103_code
def yJ7_fill_53178 : MethodName := ⟨RJ7, "fill", "([II)V"⟩
def RL : String := "GateChainLaw"
abbrev cL_law : ByteArray := code
def yL_law : MethodName := ⟨RL, "law", "([I)Z"⟩
def tb : List Cond := lw_tbl.filter goodWord
theorem tb_in {w : Cond} (h : w ∈ lw_tbl) (g : goodWord w = true) : w ∈ tb := List.mem_filter.mpr ⟨h, g⟩
theorem tb_good {w : Cond} (h : w ∈ tb) : (w.onTables && w.keeps) = true ∨ ∃ ty, w = .arrayClass ty := good_of_word (List.mem_filter.mp h).2
theorem tb_ht {args : Array Value} {s : State} (h : ∀ w ∈ lw_tbl, w.before args s = true) : ∀ w ∈ tb, w.before args s = true := fun w hw => h w (List.mem_filter.mp hw).1
theorem ws_X5_isLock : (Cond.selects RX5 yX5_isLock yX5_isLock) ∈ tb := tb_in (List.mem_of_getElem? (i := 0) (by decide +kernel)) (by decide +kernel)
theorem ws_X5_isPerson : (Cond.selects RX5 yX5_isPerson yX5_isPerson) ∈ tb := tb_in (List.mem_of_getElem? (i := 1) (by decide +kernel)) (by decide +kernel)
theorem ws_X5_roundsOf : (Cond.selects RX5 yX5_roundsOf yX5_roundsOf) ∈ tb := tb_in (List.mem_of_getElem? (i := 2) (by decide +kernel)) (by decide +kernel)
theorem ws_X5_friendsOfAny : (Cond.selects RX5 yX5_friendsOfAny yX5_friendsOfAny) ∈ tb := tb_in (List.mem_of_getElem? (i := 3) (by decide +kernel)) (by decide +kernel)
theorem ws_X5_worstLock : (Cond.selects RX5 yX5_worstLock yX5_worstLock) ∈ tb := tb_in (List.mem_of_getElem? (i := 4) (by decide +kernel)) (by decide +kernel)
theorem ws_X5_greatestRounds : (Cond.selects RX5 yX5_greatestRounds yX5_greatestRounds) ∈ tb := tb_in (List.mem_of_getElem? (i := 5) (by decide +kernel)) (by decide +kernel)
theorem ws_X5_fewestWhoKnowMore : (Cond.selects RX5 yX5_fewestWhoKnowMore yX5_fewestWhoKnowMore) ∈ tb := tb_in (List.mem_of_getElem? (i := 6) (by decide +kernel)) (by decide +kernel)
theorem ws_X5_markOfLock : (Cond.selects RX5 yX5_markOfLock yX5_markOfLock) ∈ tb := tb_in (List.mem_of_getElem? (i := 7) (by decide +kernel)) (by decide +kernel)
theorem ws_X5_markOfBrass : (Cond.selects RX5 yX5_markOfBrass yX5_markOfBrass) ∈ tb := tb_in (List.mem_of_getElem? (i := 8) (by decide +kernel)) (by decide +kernel)
theorem ws_X5_markOfRusty : (Cond.selects RX5 yX5_markOfRusty yX5_markOfRusty) ∈ tb := tb_in (List.mem_of_getElem? (i := 9) (by decide +kernel)) (by decide +kernel)
theorem ws_X5_markOfDouble : (Cond.selects RX5 yX5_markOfDouble yX5_markOfDouble) ∈ tb := tb_in (List.mem_of_getElem? (i := 10) (by decide +kernel)) (by decide +kernel)
theorem ws_X5_markOfSeized : (Cond.selects RX5 yX5_markOfSeized yX5_markOfSeized) ∈ tb := tb_in (List.mem_of_getElem? (i := 11) (by decide +kernel)) (by decide +kernel)
theorem ws_X5_markOfPainted : (Cond.selects RX5 yX5_markOfPainted yX5_markOfPainted) ∈ tb := tb_in (List.mem_of_getElem? (i := 12) (by decide +kernel)) (by decide +kernel)
theorem ws_X6_next : (Cond.selects RX6 yX6_next yX6_next) ∈ tb := tb_in (List.mem_of_getElem? (i := 13) (by decide +kernel)) (by decide +kernel)
theorem ws_X6_item : (Cond.selects RX6 yX6_item yX6_item) ∈ tb := tb_in (List.mem_of_getElem? (i := 14) (by decide +kernel)) (by decide +kernel)
theorem ws_X6_isNumber : (Cond.selects RX6 yX6_isNumber yX6_isNumber) ∈ tb := tb_in (List.mem_of_getElem? (i := 15) (by decide +kernel)) (by decide +kernel)
theorem ws_X6_isEnd : (Cond.selects RX6 yX6_isEnd yX6_isEnd) ∈ tb := tb_in (List.mem_of_getElem? (i := 16) (by decide +kernel)) (by decide +kernel)
theorem ws_X6_isLock : (Cond.selects RX6 yX6_isLock yX6_isLock) ∈ tb := tb_in (List.mem_of_getElem? (i := 17) (by decide +kernel)) (by decide +kernel)
theorem ws_X6_knowers : (Cond.selects RX6 yX6_knowers yX6_knowers) ∈ tb := tb_in (List.mem_of_getElem? (i := 18) (by decide +kernel)) (by decide +kernel)
theorem ws_X6_isRing : (Cond.selects RX6 yX6_isRing yX6_isRing) ∈ tb := tb_in (List.mem_of_getElem? (i := 19) (by decide +kernel)) (by decide +kernel)
theorem ws_X6_placeOf : (Cond.selects RX6 yX6_placeOf yX6_placeOf) ∈ tb := tb_in (List.mem_of_getElem? (i := 20) (by decide +kernel)) (by decide +kernel)
theorem ws_X6_isOne : (Cond.selects RX6 yX6_isOne yX6_isOne) ∈ tb := tb_in (List.mem_of_getElem? (i := 21) (by decide +kernel)) (by decide +kernel)
theorem ws_X6_ring : (Cond.selects RX6 yX6_ring yX6_ring) ∈ tb := tb_in (List.mem_of_getElem? (i := 22) (by decide +kernel)) (by decide +kernel)
theorem ws_X6_getsIn : (Cond.selects RX6 yX6_getsIn yX6_getsIn) ∈ tb := tb_in (List.mem_of_getElem? (i := 23) (by decide +kernel)) (by decide +kernel)
theorem ws_X6_roundsOf : (Cond.selects RX6 yX6_roundsOf yX6_roundsOf) ∈ tb := tb_in (List.mem_of_getElem? (i := 24) (by decide +kernel)) (by decide +kernel)
theorem ws_X6_note : (Cond.selects RX6 yX6_note yX6_note) ∈ tb := tb_in (List.mem_of_getElem? (i := 25) (by decide +kernel)) (by decide +kernel)
theorem ws_X6_canShut : (Cond.selects RX6 yX6_canShut yX6_canShut) ∈ tb := tb_in (List.mem_of_getElem? (i := 26) (by decide +kernel)) (by decide +kernel)
theorem ws_X6_besideBy : (Cond.selects RX6 yX6_besideBy yX6_besideBy) ∈ tb := tb_in (List.mem_of_getElem? (i := 27) (by decide +kernel)) (by decide +kernel)
theorem ws_X6_worst : (Cond.selects RX6 yX6_worst yX6_worst) ∈ tb := tb_in (List.mem_of_getElem? (i := 28) (by decide +kernel)) (by decide +kernel)
theorem ws_X6_leftBy : (Cond.selects RX6 yX6_leftBy yX6_leftBy) ∈ tb := tb_in (List.mem_of_getElem? (i := 29) (by decide +kernel)) (by decide +kernel)
theorem ws_X6_greatestRounds : (Cond.selects RX6 yX6_greatestRounds yX6_greatestRounds) ∈ tb := tb_in (List.mem_of_getElem? (i := 30) (by decide +kernel)) (by decide +kernel)
theorem ws_X6_fits : (Cond.selects RX6 yX6_fits yX6_fits) ∈ tb := tb_in (List.mem_of_getElem? (i := 31) (by decide +kernel)) (by decide +kernel)
theorem ws_X6_asLock : (Cond.selects RX6 yX6_asLock yX6_asLock) ∈ tb := tb_in (List.mem_of_getElem? (i := 32) (by decide +kernel)) (by decide +kernel)
theorem ws_X6_asBrass : (Cond.selects RX6 yX6_asBrass yX6_asBrass) ∈ tb := tb_in (List.mem_of_getElem? (i := 33) (by decide +kernel)) (by decide +kernel)
theorem ws_X6_asRusty : (Cond.selects RX6 yX6_asRusty yX6_asRusty) ∈ tb := tb_in (List.mem_of_getElem? (i := 34) (by decide +kernel)) (by decide +kernel)
theorem ws_X6_asDouble : (Cond.selects RX6 yX6_asDouble yX6_asDouble) ∈ tb := tb_in (List.mem_of_getElem? (i := 35) (by decide +kernel)) (by decide +kernel)
theorem ws_X6_asSeized : (Cond.selects RX6 yX6_asSeized yX6_asSeized) ∈ tb := tb_in (List.mem_of_getElem? (i := 36) (by decide +kernel)) (by decide +kernel)
theorem ws_X6_asPainted : (Cond.selects RX6 yX6_asPainted yX6_asPainted) ∈ tb := tb_in (List.mem_of_getElem? (i := 37) (by decide +kernel)) (by decide +kernel)
theorem wn_L : (Cond.initialized RL) ∈ tb := tb_in (List.mem_of_getElem? (i := 38) (by decide +kernel)) (by decide +kernel)
theorem wn_X5 : (Cond.initialized RX5) ∈ tb := tb_in (List.mem_of_getElem? (i := 39) (by decide +kernel)) (by decide +kernel)
theorem wn_X4 : (Cond.initialized RX4) ∈ tb := tb_in (List.mem_of_getElem? (i := 40) (by decide +kernel)) (by decide +kernel)
theorem wn_X0 : (Cond.initialized RX0) ∈ tb := tb_in (List.mem_of_getElem? (i := 41) (by decide +kernel)) (by decide +kernel)
theorem wn_X3 : (Cond.initialized RX3) ∈ tb := tb_in (List.mem_of_getElem? (i := 42) (by decide +kernel)) (by decide +kernel)
theorem wn_J7 : (Cond.initialized RJ7) ∈ tb := tb_in (List.mem_of_getElem? (i := 43) (by decide +kernel)) (by decide +kernel)
theorem wn_X2 : (Cond.initialized RX2) ∈ tb := tb_in (List.mem_of_getElem? (i := 44) (by decide +kernel)) (by decide +kernel)
theorem wn_X1 : (Cond.initialized RX1) ∈ tb := tb_in (List.mem_of_getElem? (i := 45) (by decide +kernel)) (by decide +kernel)
theorem wn_X6 : (Cond.initialized RX6) ∈ tb := tb_in (List.mem_of_getElem? (i := 46) (by decide +kernel)) (by decide +kernel)
theorem wn_J9 : (Cond.initialized RJ9) ∈ tb := tb_in (List.mem_of_getElem? (i := 47) (by decide +kernel)) (by decide +kernel)
theorem wn_J10 : (Cond.initialized RJ10) ∈ tb := tb_in (List.mem_of_getElem? (i := 48) (by decide +kernel)) (by decide +kernel)
theorem wn_J6 : (Cond.initialized RJ6) ∈ tb := tb_in (List.mem_of_getElem? (i := 49) (by decide +kernel)) (by decide +kernel)
theorem wk_L_7 : (Cond.classLink RL 7 RX5) ∈ tb := tb_in (List.mem_of_getElem? (i := 50) (by decide +kernel)) (by decide +kernel)
theorem wq_X5 : (Cond.instantiable RX5 8) ∈ tb := tb_in (List.mem_of_getElem? (i := 51) (by decide +kernel)) (by decide +kernel)
theorem wk_L_9 : (Cond.methodLink RL 9 yX5_init) ∈ tb := tb_in (List.mem_of_getElem? (i := 52) (by decide +kernel)) (by decide +kernel)
theorem wi_X5_init : (Cond.instanceMethod yX5_init) ∈ tb := tb_in (List.mem_of_getElem? (i := 53) (by decide +kernel)) (by decide +kernel)
theorem wc_X5_init : (Cond.code yX5_init cX5_init 2 none) ∈ tb := tb_in (List.mem_of_getElem? (i := 54) (by decide +kernel)) (by decide +kernel)
theorem wk_X5_1 : (Cond.methodLink RX5 1 objectInit) ∈ tb := tb_in (List.mem_of_getElem? (i := 55) (by decide +kernel)) (by decide +kernel)
theorem wi_obj : (Cond.instanceMethod objectInit) ∈ tb := tb_in (List.mem_of_getElem? (i := 56) (by decide +kernel)) (by decide +kernel)
theorem wk_X5_7 : (Cond.classLink RX5 7 RX4) ∈ tb := tb_in (List.mem_of_getElem? (i := 58) (by decide +kernel)) (by decide +kernel)
theorem wq_X4 : (Cond.instantiable RX4 6) ∈ tb := tb_in (List.mem_of_getElem? (i := 59) (by decide +kernel)) (by decide +kernel)
theorem wi_X4_init : (Cond.instanceMethod yX4_init) ∈ tb := tb_in (List.mem_of_getElem? (i := 61) (by decide +kernel)) (by decide +kernel)
theorem wc_X4_init : (Cond.code yX4_init cX4_init 1 none) ∈ tb := tb_in (List.mem_of_getElem? (i := 62) (by decide +kernel)) (by decide +kernel)
theorem wk_X4_3 : (Cond.methodLink RX4 3 objectInit) ∈ tb := tb_in (List.mem_of_getElem? (i := 63) (by decide +kernel)) (by decide +kernel)
theorem wk_X4_9 : (Cond.fieldLink RX4 9 "GateChain$Text" "bytes" "[I") ∈ tb := tb_in (List.mem_of_getElem? (i := 64) (by decide +kernel)) (by decide +kernel)
theorem wk_X4_15 : (Cond.fieldLink RX4 15 "GateChain$Text" "length" "I") ∈ tb := tb_in (List.mem_of_getElem? (i := 65) (by decide +kernel)) (by decide +kernel)
theorem wk_X5_239 : (Cond.fieldLink RX5 239 "GateChain$Text" "length" "I") ∈ tb := tb_in (List.mem_of_getElem? (i := 66) (by decide +kernel)) (by decide +kernel)
theorem wk_X4_19 : (Cond.fieldLink RX4 19 "GateChain$Text" "at" "I") ∈ tb := tb_in (List.mem_of_getElem? (i := 67) (by decide +kernel)) (by decide +kernel)
theorem wk_X4_22 : (Cond.fieldLink RX4 22 "GateChain$Text" "token" "I") ∈ tb := tb_in (List.mem_of_getElem? (i := 68) (by decide +kernel)) (by decide +kernel)
theorem wk_X4_25 : (Cond.fieldLink RX4 25 "GateChain$Text" "place" "I") ∈ tb := tb_in (List.mem_of_getElem? (i := 69) (by decide +kernel)) (by decide +kernel)
theorem wk_X4_28 : (Cond.fieldLink RX4 28 "GateChain$Text" "value" "I") ∈ tb := tb_in (List.mem_of_getElem? (i := 70) (by decide +kernel)) (by decide +kernel)
theorem wa_int : (Cond.arrayClass .int) ∈ tb := tb_in (List.mem_of_getElem? (i := 84) (by decide +kernel)) (by decide +kernel)
theorem wk_X5_16 : (Cond.classLink RX5 16 RX0) ∈ tb := tb_in (List.mem_of_getElem? (i := 85) (by decide +kernel)) (by decide +kernel)
theorem wq_X0 : (Cond.instantiable RX0 3) ∈ tb := tb_in (List.mem_of_getElem? (i := 86) (by decide +kernel)) (by decide +kernel)
theorem wk_X5_18 : (Cond.methodLink RX5 18 yX0_init) ∈ tb := tb_in (List.mem_of_getElem? (i := 87) (by decide +kernel)) (by decide +kernel)
theorem wi_X0_init : (Cond.instanceMethod yX0_init) ∈ tb := tb_in (List.mem_of_getElem? (i := 88) (by decide +kernel)) (by decide +kernel)
theorem wc_X0_init : (Cond.code yX0_init cX0_init 2 none) ∈ tb := tb_in (List.mem_of_getElem? (i := 89) (by decide +kernel)) (by decide +kernel)
theorem wk_X0_3 : (Cond.methodLink RX0 3 objectInit) ∈ tb := tb_in (List.mem_of_getElem? (i := 90) (by decide +kernel)) (by decide +kernel)
theorem wk_X0_9 : (Cond.classLink RX0 9 RX3) ∈ tb := tb_in (List.mem_of_getElem? (i := 91) (by decide +kernel)) (by decide +kernel)
theorem wq_X3 : (Cond.instantiable RX3 5) ∈ tb := tb_in (List.mem_of_getElem? (i := 92) (by decide +kernel)) (by decide +kernel)
theorem wk_X0_11 : (Cond.methodLink RX0 11 yX3_init) ∈ tb := tb_in (List.mem_of_getElem? (i := 93) (by decide +kernel)) (by decide +kernel)
theorem wi_X3_init : (Cond.instanceMethod yX3_init) ∈ tb := tb_in (List.mem_of_getElem? (i := 94) (by decide +kernel)) (by decide +kernel)
theorem wc_X3_init : (Cond.code yX3_init cX3_init 1 none) ∈ tb := tb_in (List.mem_of_getElem? (i := 95) (by decide +kernel)) (by decide +kernel)
theorem wk_X3_3 : (Cond.methodLink RX3 3 objectInit) ∈ tb := tb_in (List.mem_of_getElem? (i := 96) (by decide +kernel)) (by decide +kernel)
theorem wk_X3_28 : (Cond.methodLink RX3 28 yJ7_fill_53178) ∈ tb := tb_in (List.mem_of_getElem? (i := 97) (by decide +kernel)) (by decide +kernel)
theorem wt_J7_fill_53178 : (Cond.static yJ7_fill_53178) ∈ tb := tb_in (List.mem_of_getElem? (i := 98) (by decide +kernel)) (by decide +kernel)
theorem wc_J7_fill_53178 : (Cond.code yJ7_fill_53178 cJ7_fill_53178 4 none) ∈ tb := tb_in (List.mem_of_getElem? (i := 99) (by decide +kernel)) (by decide +kernel)
theorem wk_X3_9 : (Cond.fieldLink RX3 9 "GateChain$Scene" "code" "[I") ∈ tb := tb_in (List.mem_of_getElem? (i := 100) (by decide +kernel)) (by decide +kernel)
theorem wk_X5_79 : (Cond.fieldLink RX5 79 "GateChain$Scene" "code" "[I") ∈ tb := tb_in (List.mem_of_getElem? (i := 101) (by decide +kernel)) (by decide +kernel)
theorem wk_X3_15 : (Cond.fieldLink RX3 15 "GateChain$Scene" "shown" "[I") ∈ tb := tb_in (List.mem_of_getElem? (i := 102) (by decide +kernel)) (by decide +kernel)
theorem wk_X5_85 : (Cond.fieldLink RX5 85 "GateChain$Scene" "shown" "[I") ∈ tb := tb_in (List.mem_of_getElem? (i := 103) (by decide +kernel)) (by decide +kernel)
theorem wk_X3_18 : (Cond.fieldLink RX3 18 "GateChain$Scene" "knowers" "[I") ∈ tb := tb_in (List.mem_of_getElem? (i := 104) (by decide +kernel)) (by decide +kernel)
theorem wk_X5_88 : (Cond.fieldLink RX5 88 "GateChain$Scene" "knowers" "[I") ∈ tb := tb_in (List.mem_of_getElem? (i := 105) (by decide +kernel)) (by decide +kernel)
theorem wk_X3_21 : (Cond.fieldLink RX3 21 "GateChain$Scene" "behind" "[I") ∈ tb := tb_in (List.mem_of_getElem? (i := 106) (by decide +kernel)) (by decide +kernel)
theorem wk_X3_24 : (Cond.fieldLink RX3 24 "GateChain$Scene" "openAt" "I") ∈ tb := tb_in (List.mem_of_getElem? (i := 107) (by decide +kernel)) (by decide +kernel)
theorem wk_X5_129 : (Cond.fieldLink RX5 129 "GateChain$Scene" "openAt" "I") ∈ tb := tb_in (List.mem_of_getElem? (i := 108) (by decide +kernel)) (by decide +kernel)
theorem wk_X0_12 : (Cond.fieldLink RX0 12 "GateChain$Now" "scene" "LGateChain$Scene;") ∈ tb := tb_in (List.mem_of_getElem? (i := 121) (by decide +kernel)) (by decide +kernel)
theorem wk_X5_75 : (Cond.fieldLink RX5 75 "GateChain$Now" "scene" "LGateChain$Scene;") ∈ tb := tb_in (List.mem_of_getElem? (i := 122) (by decide +kernel)) (by decide +kernel)
theorem wk_X0_18 : (Cond.fieldLink RX0 18 "GateChain$Now" "earlier" "[LGateChain$Scene;") ∈ tb := tb_in (List.mem_of_getElem? (i := 123) (by decide +kernel)) (by decide +kernel)
theorem wk_X0_22 : (Cond.fieldLink RX0 22 "GateChain$Now" "undoable" "I") ∈ tb := tb_in (List.mem_of_getElem? (i := 124) (by decide +kernel)) (by decide +kernel)
theorem wk_X5_159 : (Cond.fieldLink RX5 159 "GateChain$Now" "undoable" "I") ∈ tb := tb_in (List.mem_of_getElem? (i := 125) (by decide +kernel)) (by decide +kernel)
theorem wk_X5_31 : (Cond.classLink RX5 31 RX2) ∈ tb := tb_in (List.mem_of_getElem? (i := 134) (by decide +kernel)) (by decide +kernel)
theorem wq_X2 : (Cond.instantiable RX2 9) ∈ tb := tb_in (List.mem_of_getElem? (i := 135) (by decide +kernel)) (by decide +kernel)
theorem wk_X5_33 : (Cond.methodLink RX5 33 yX2_init) ∈ tb := tb_in (List.mem_of_getElem? (i := 136) (by decide +kernel)) (by decide +kernel)
theorem wi_X2_init : (Cond.instanceMethod yX2_init) ∈ tb := tb_in (List.mem_of_getElem? (i := 137) (by decide +kernel)) (by decide +kernel)
theorem wc_X2_init : (Cond.code yX2_init cX2_init 1 none) ∈ tb := tb_in (List.mem_of_getElem? (i := 138) (by decide +kernel)) (by decide +kernel)
theorem wk_X2_3 : (Cond.methodLink RX2 3 objectInit) ∈ tb := tb_in (List.mem_of_getElem? (i := 139) (by decide +kernel)) (by decide +kernel)
theorem wk_X2_40 : (Cond.methodLink RX2 40 yX2_forgetAll) ∈ tb := tb_in (List.mem_of_getElem? (i := 140) (by decide +kernel)) (by decide +kernel)
theorem wi_X2_forgetAll : (Cond.instanceMethod yX2_forgetAll) ∈ tb := tb_in (List.mem_of_getElem? (i := 141) (by decide +kernel)) (by decide +kernel)
theorem ws_X2_forgetAll : (Cond.selects RX2 yX2_forgetAll yX2_forgetAll) ∈ tb := tb_in (List.mem_of_getElem? (i := 142) (by decide +kernel)) (by decide +kernel)
theorem wc_X2_forgetAll : (Cond.code yX2_forgetAll cX2_forgetAll 2 none) ∈ tb := tb_in (List.mem_of_getElem? (i := 143) (by decide +kernel)) (by decide +kernel)
theorem wk_X2_9 : (Cond.fieldLink RX2 9 "GateChain$Rumour" "possible" "[I") ∈ tb := tb_in (List.mem_of_getElem? (i := 144) (by decide +kernel)) (by decide +kernel)
theorem wk_X5_201 : (Cond.fieldLink RX5 201 "GateChain$Rumour" "possible" "[I") ∈ tb := tb_in (List.mem_of_getElem? (i := 145) (by decide +kernel)) (by decide +kernel)
theorem wk_X2_15 : (Cond.fieldLink RX2 15 "GateChain$Rumour" "possibleCount" "I") ∈ tb := tb_in (List.mem_of_getElem? (i := 146) (by decide +kernel)) (by decide +kernel)
theorem wk_X5_198 : (Cond.fieldLink RX5 198 "GateChain$Rumour" "possibleCount" "I") ∈ tb := tb_in (List.mem_of_getElem? (i := 147) (by decide +kernel)) (by decide +kernel)
theorem wk_X2_19 : (Cond.fieldLink RX2 19 "GateChain$Rumour" "heard" "I") ∈ tb := tb_in (List.mem_of_getElem? (i := 148) (by decide +kernel)) (by decide +kernel)
theorem wk_X5_191 : (Cond.fieldLink RX5 191 "GateChain$Rumour" "heard" "I") ∈ tb := tb_in (List.mem_of_getElem? (i := 149) (by decide +kernel)) (by decide +kernel)
theorem wk_X2_22 : (Cond.fieldLink RX2 22 "GateChain$Rumour" "withHundred" "[I") ∈ tb := tb_in (List.mem_of_getElem? (i := 150) (by decide +kernel)) (by decide +kernel)
theorem wk_X2_25 : (Cond.fieldLink RX2 25 "GateChain$Rumour" "withTen" "[I") ∈ tb := tb_in (List.mem_of_getElem? (i := 151) (by decide +kernel)) (by decide +kernel)
theorem wk_X2_28 : (Cond.fieldLink RX2 28 "GateChain$Rumour" "withOne" "[I") ∈ tb := tb_in (List.mem_of_getElem? (i := 152) (by decide +kernel)) (by decide +kernel)
theorem wk_X2_31 : (Cond.fieldLink RX2 31 "GateChain$Rumour" "withHundredTen" "[I") ∈ tb := tb_in (List.mem_of_getElem? (i := 153) (by decide +kernel)) (by decide +kernel)
theorem wk_X2_34 : (Cond.fieldLink RX2 34 "GateChain$Rumour" "withHundredOne" "[I") ∈ tb := tb_in (List.mem_of_getElem? (i := 154) (by decide +kernel)) (by decide +kernel)
theorem wk_X2_37 : (Cond.fieldLink RX2 37 "GateChain$Rumour" "withTenOne" "[I") ∈ tb := tb_in (List.mem_of_getElem? (i := 155) (by decide +kernel)) (by decide +kernel)
theorem wa_boolean : (Cond.arrayClass .boolean) ∈ tb := tb_in (List.mem_of_getElem? (i := 175) (by decide +kernel)) (by decide +kernel)
theorem wk_X5_38 : (Cond.classLink RX5 38 RX1) ∈ tb := tb_in (List.mem_of_getElem? (i := 176) (by decide +kernel)) (by decide +kernel)
theorem wq_X1 : (Cond.instantiable RX1 5) ∈ tb := tb_in (List.mem_of_getElem? (i := 177) (by decide +kernel)) (by decide +kernel)
theorem wi_X1_init : (Cond.instanceMethod yX1_init) ∈ tb := tb_in (List.mem_of_getElem? (i := 179) (by decide +kernel)) (by decide +kernel)
theorem wc_X1_init : (Cond.code yX1_init cX1_init 1 none) ∈ tb := tb_in (List.mem_of_getElem? (i := 180) (by decide +kernel)) (by decide +kernel)
theorem wk_X1_3 : (Cond.methodLink RX1 3 objectInit) ∈ tb := tb_in (List.mem_of_getElem? (i := 181) (by decide +kernel)) (by decide +kernel)
theorem wk_X1_9 : (Cond.fieldLink RX1 9 "GateChain$Plan" "code" "[I") ∈ tb := tb_in (List.mem_of_getElem? (i := 182) (by decide +kernel)) (by decide +kernel)
theorem wk_X3_34 : (Cond.fieldLink RX3 34 "GateChain$Plan" "code" "[I") ∈ tb := tb_in (List.mem_of_getElem? (i := 183) (by decide +kernel)) (by decide +kernel)
theorem wk_X1_15 : (Cond.fieldLink RX1 15 "GateChain$Plan" "knowers" "[I") ∈ tb := tb_in (List.mem_of_getElem? (i := 184) (by decide +kernel)) (by decide +kernel)
theorem wk_X3_37 : (Cond.fieldLink RX3 37 "GateChain$Plan" "knowers" "[I") ∈ tb := tb_in (List.mem_of_getElem? (i := 185) (by decide +kernel)) (by decide +kernel)
theorem wk_X4_74 : (Cond.fieldLink RX4 74 "GateChain$Plan" "knowers" "[I") ∈ tb := tb_in (List.mem_of_getElem? (i := 186) (by decide +kernel)) (by decide +kernel)
theorem wk_X1_18 : (Cond.fieldLink RX1 18 "GateChain$Plan" "friends" "[I") ∈ tb := tb_in (List.mem_of_getElem? (i := 187) (by decide +kernel)) (by decide +kernel)
theorem wk_X5_106 : (Cond.fieldLink RX5 106 "GateChain$Plan" "friends" "[I") ∈ tb := tb_in (List.mem_of_getElem? (i := 188) (by decide +kernel)) (by decide +kernel)
theorem wk_X1_21 : (Cond.fieldLink RX1 21 "GateChain$Plan" "persons" "I") ∈ tb := tb_in (List.mem_of_getElem? (i := 189) (by decide +kernel)) (by decide +kernel)
theorem wk_X4_63 : (Cond.fieldLink RX4 63 "GateChain$Plan" "persons" "I") ∈ tb := tb_in (List.mem_of_getElem? (i := 190) (by decide +kernel)) (by decide +kernel)
theorem wk_X5_233 : (Cond.fieldLink RX5 233 "GateChain$Plan" "persons" "I") ∈ tb := tb_in (List.mem_of_getElem? (i := 191) (by decide +kernel)) (by decide +kernel)
theorem wk_X1_25 : (Cond.fieldLink RX1 25 "GateChain$Plan" "locks" "I") ∈ tb := tb_in (List.mem_of_getElem? (i := 192) (by decide +kernel)) (by decide +kernel)
theorem wk_X3_38 : (Cond.fieldLink RX3 38 "GateChain$Plan" "locks" "I") ∈ tb := tb_in (List.mem_of_getElem? (i := 193) (by decide +kernel)) (by decide +kernel)
theorem wk_X4_47 : (Cond.fieldLink RX4 47 "GateChain$Plan" "locks" "I") ∈ tb := tb_in (List.mem_of_getElem? (i := 194) (by decide +kernel)) (by decide +kernel)
theorem wk_X5_236 : (Cond.fieldLink RX5 236 "GateChain$Plan" "locks" "I") ∈ tb := tb_in (List.mem_of_getElem? (i := 195) (by decide +kernel)) (by decide +kernel)
theorem wk_X5_10 : (Cond.fieldLink RX5 10 "GateChain" "text" "LGateChain$Text;") ∈ tb := tb_in (List.mem_of_getElem? (i := 207) (by decide +kernel)) (by decide +kernel)
theorem wk_X5_19 : (Cond.fieldLink RX5 19 "GateChain" "present" "LGateChain$Now;") ∈ tb := tb_in (List.mem_of_getElem? (i := 208) (by decide +kernel)) (by decide +kernel)
theorem wk_X5_23 : (Cond.fieldLink RX5 23 "GateChain" "images" "[LGateChain$Now;") ∈ tb := tb_in (List.mem_of_getElem? (i := 209) (by decide +kernel)) (by decide +kernel)
theorem wk_X5_27 : (Cond.fieldLink RX5 27 "GateChain" "imageKept" "[Z") ∈ tb := tb_in (List.mem_of_getElem? (i := 210) (by decide +kernel)) (by decide +kernel)
theorem wk_X5_34 : (Cond.fieldLink RX5 34 "GateChain" "rumour" "LGateChain$Rumour;") ∈ tb := tb_in (List.mem_of_getElem? (i := 211) (by decide +kernel)) (by decide +kernel)
theorem wk_X5_41 : (Cond.fieldLink RX5 41 "GateChain" "plan" "LGateChain$Plan;") ∈ tb := tb_in (List.mem_of_getElem? (i := 212) (by decide +kernel)) (by decide +kernel)
theorem wk_X5_45 : (Cond.fieldLink RX5 45 "GateChain" "draft" "LGateChain$Plan;") ∈ tb := tb_in (List.mem_of_getElem? (i := 213) (by decide +kernel)) (by decide +kernel)
theorem wk_X5_48 : (Cond.fieldLink RX5 48 "GateChain" "traced" "J") ∈ tb := tb_in (List.mem_of_getElem? (i := 214) (by decide +kernel)) (by decide +kernel)
theorem wk_L_13 : (Cond.methodLink RL 13 yX5_type) ∈ tb := tb_in (List.mem_of_getElem? (i := 232) (by decide +kernel)) (by decide +kernel)
theorem wi_X5_type : (Cond.instanceMethod yX5_type) ∈ tb := tb_in (List.mem_of_getElem? (i := 233) (by decide +kernel)) (by decide +kernel)
theorem ws_X5_type : (Cond.selects RX5 yX5_type yX5_type) ∈ tb := tb_in (List.mem_of_getElem? (i := 234) (by decide +kernel)) (by decide +kernel)
theorem wc_X5_type : (Cond.code yX5_type cX5_type 2 (some .int)) ∈ tb := tb_in (List.mem_of_getElem? (i := 235) (by decide +kernel)) (by decide +kernel)
theorem wk_X5_52 : (Cond.methodLink RX5 52 yX4_append) ∈ tb := tb_in (List.mem_of_getElem? (i := 236) (by decide +kernel)) (by decide +kernel)
theorem wi_X4_append : (Cond.instanceMethod yX4_append) ∈ tb := tb_in (List.mem_of_getElem? (i := 237) (by decide +kernel)) (by decide +kernel)
theorem ws_X4_append : (Cond.selects RX4 yX4_append yX4_append) ∈ tb := tb_in (List.mem_of_getElem? (i := 238) (by decide +kernel)) (by decide +kernel)
theorem wc_X4_append : (Cond.code yX4_append cX4_append 2 (some .int)) ∈ tb := tb_in (List.mem_of_getElem? (i := 239) (by decide +kernel)) (by decide +kernel)
theorem wk_L_18 : (Cond.methodLink RL 18 yX5_clear) ∈ tb := tb_in (List.mem_of_getElem? (i := 240) (by decide +kernel)) (by decide +kernel)
theorem wi_X5_clear : (Cond.instanceMethod yX5_clear) ∈ tb := tb_in (List.mem_of_getElem? (i := 241) (by decide +kernel)) (by decide +kernel)
theorem ws_X5_clear : (Cond.selects RX5 yX5_clear yX5_clear) ∈ tb := tb_in (List.mem_of_getElem? (i := 242) (by decide +kernel)) (by decide +kernel)
theorem wc_X5_clear : (Cond.code yX5_clear cX5_clear 1 (some .int)) ∈ tb := tb_in (List.mem_of_getElem? (i := 243) (by decide +kernel)) (by decide +kernel)
theorem wk_X5_56 : (Cond.methodLink RX5 56 yX4_empty) ∈ tb := tb_in (List.mem_of_getElem? (i := 244) (by decide +kernel)) (by decide +kernel)
theorem wi_X4_empty : (Cond.instanceMethod yX4_empty) ∈ tb := tb_in (List.mem_of_getElem? (i := 245) (by decide +kernel)) (by decide +kernel)
theorem ws_X4_empty : (Cond.selects RX4 yX4_empty yX4_empty) ∈ tb := tb_in (List.mem_of_getElem? (i := 246) (by decide +kernel)) (by decide +kernel)
theorem wc_X4_empty : (Cond.code yX4_empty cX4_empty 2 (some .int)) ∈ tb := tb_in (List.mem_of_getElem? (i := 247) (by decide +kernel)) (by decide +kernel)
theorem wk_L_23 : (Cond.methodLink RL 23 yX5_gate) ∈ tb := tb_in (List.mem_of_getElem? (i := 248) (by decide +kernel)) (by decide +kernel)
theorem wi_X5_gate : (Cond.instanceMethod yX5_gate) ∈ tb := tb_in (List.mem_of_getElem? (i := 249) (by decide +kernel)) (by decide +kernel)
theorem ws_X5_gate : (Cond.selects RX5 yX5_gate yX5_gate) ∈ tb := tb_in (List.mem_of_getElem? (i := 250) (by decide +kernel)) (by decide +kernel)
theorem wc_X5_gate : (Cond.code yX5_gate cX5_gate 4 (some .int)) ∈ tb := tb_in (List.mem_of_getElem? (i := 251) (by decide +kernel)) (by decide +kernel)
theorem wk_X5_60 : (Cond.methodLink RX5 60 yX4_tellAll) ∈ tb := tb_in (List.mem_of_getElem? (i := 252) (by decide +kernel)) (by decide +kernel)
theorem wi_X4_tellAll : (Cond.instanceMethod yX4_tellAll) ∈ tb := tb_in (List.mem_of_getElem? (i := 253) (by decide +kernel)) (by decide +kernel)
theorem ws_X4_tellAll : (Cond.selects RX4 yX4_tellAll yX4_tellAll) ∈ tb := tb_in (List.mem_of_getElem? (i := 254) (by decide +kernel)) (by decide +kernel)
theorem wc_X4_tellAll : (Cond.code yX4_tellAll cX4_tellAll 3 (some .int)) ∈ tb := tb_in (List.mem_of_getElem? (i := 255) (by decide +kernel)) (by decide +kernel)
theorem wk_X4_31 : (Cond.methodLink RX4 31 yX1_reset) ∈ tb := tb_in (List.mem_of_getElem? (i := 256) (by decide +kernel)) (by decide +kernel)
theorem wi_X1_reset : (Cond.instanceMethod yX1_reset) ∈ tb := tb_in (List.mem_of_getElem? (i := 257) (by decide +kernel)) (by decide +kernel)
theorem ws_X1_reset : (Cond.selects RX1 yX1_reset yX1_reset) ∈ tb := tb_in (List.mem_of_getElem? (i := 258) (by decide +kernel)) (by decide +kernel)
theorem wc_X1_reset : (Cond.code yX1_reset cX1_reset 1 none) ∈ tb := tb_in (List.mem_of_getElem? (i := 259) (by decide +kernel)) (by decide +kernel)
theorem wk_X1_28 : (Cond.methodLink RX1 28 yJ7_fill_53178) ∈ tb := tb_in (List.mem_of_getElem? (i := 260) (by decide +kernel)) (by decide +kernel)
theorem wk_X4_36 : (Cond.methodLink RX4 36 yX4_advance) ∈ tb := tb_in (List.mem_of_getElem? (i := 261) (by decide +kernel)) (by decide +kernel)
theorem wi_X4_advance : (Cond.instanceMethod yX4_advance) ∈ tb := tb_in (List.mem_of_getElem? (i := 262) (by decide +kernel)) (by decide +kernel)
theorem ws_X4_advance : (Cond.selects RX4 yX4_advance yX4_advance) ∈ tb := tb_in (List.mem_of_getElem? (i := 263) (by decide +kernel)) (by decide +kernel)
theorem wc_X4_advance : (Cond.code yX4_advance cX4_advance 1 none) ∈ tb := tb_in (List.mem_of_getElem? (i := 264) (by decide +kernel)) (by decide +kernel)
theorem wk_X4_81 : (Cond.methodLink RX4 81 yX4_takeLetters) ∈ tb := tb_in (List.mem_of_getElem? (i := 265) (by decide +kernel)) (by decide +kernel)
theorem wi_X4_takeLetters : (Cond.instanceMethod yX4_takeLetters) ∈ tb := tb_in (List.mem_of_getElem? (i := 266) (by decide +kernel)) (by decide +kernel)
theorem ws_X4_takeLetters : (Cond.selects RX4 yX4_takeLetters yX4_takeLetters) ∈ tb := tb_in (List.mem_of_getElem? (i := 267) (by decide +kernel)) (by decide +kernel)
theorem wc_X4_takeLetters : (Cond.code yX4_takeLetters cX4_takeLetters 2 none) ∈ tb := tb_in (List.mem_of_getElem? (i := 268) (by decide +kernel)) (by decide +kernel)
theorem wk_X4_84 : (Cond.methodLink RX4 84 yX4_takeNumber) ∈ tb := tb_in (List.mem_of_getElem? (i := 269) (by decide +kernel)) (by decide +kernel)
theorem wi_X4_takeNumber : (Cond.instanceMethod yX4_takeNumber) ∈ tb := tb_in (List.mem_of_getElem? (i := 270) (by decide +kernel)) (by decide +kernel)
theorem ws_X4_takeNumber : (Cond.selects RX4 yX4_takeNumber yX4_takeNumber) ∈ tb := tb_in (List.mem_of_getElem? (i := 271) (by decide +kernel)) (by decide +kernel)
theorem wc_X4_takeNumber : (Cond.code yX4_takeNumber cX4_takeNumber 3 none) ∈ tb := tb_in (List.mem_of_getElem? (i := 272) (by decide +kernel)) (by decide +kernel)
theorem wk_X4_87 : (Cond.methodLink RX4 87 Lib.Math.min.name) ∈ tb := tb_in (List.mem_of_getElem? (i := 273) (by decide +kernel)) (by decide +kernel)
theorem wt_J9_min_7cf53 : (Cond.static Lib.Math.min.name) ∈ tb := tb_in (List.mem_of_getElem? (i := 274) (by decide +kernel)) (by decide +kernel)
theorem wc_J9_min_7cf53 : (Cond.code Lib.Math.min.name Lib.Math.min.code 2 (some .int)) ∈ tb := tb_in (List.mem_of_getElem? (i := 275) (by decide +kernel)) (by decide +kernel)
theorem wk_X4_39 : (Cond.methodLink RX4 39 yX4_readItem) ∈ tb := tb_in (List.mem_of_getElem? (i := 276) (by decide +kernel)) (by decide +kernel)
theorem wi_X4_readItem : (Cond.instanceMethod yX4_readItem) ∈ tb := tb_in (List.mem_of_getElem? (i := 277) (by decide +kernel)) (by decide +kernel)
theorem ws_X4_readItem : (Cond.selects RX4 yX4_readItem yX4_readItem) ∈ tb := tb_in (List.mem_of_getElem? (i := 278) (by decide +kernel)) (by decide +kernel)
theorem wc_X4_readItem : (Cond.code yX4_readItem cX4_readItem 3 (some .boolean)) ∈ tb := tb_in (List.mem_of_getElem? (i := 279) (by decide +kernel)) (by decide +kernel)
theorem wk_X4_43 : (Cond.methodLink RX4 43 yX4_readPersons) ∈ tb := tb_in (List.mem_of_getElem? (i := 280) (by decide +kernel)) (by decide +kernel)
theorem wi_X4_readPersons : (Cond.instanceMethod yX4_readPersons) ∈ tb := tb_in (List.mem_of_getElem? (i := 281) (by decide +kernel)) (by decide +kernel)
theorem ws_X4_readPersons : (Cond.selects RX4 yX4_readPersons yX4_readPersons) ∈ tb := tb_in (List.mem_of_getElem? (i := 282) (by decide +kernel)) (by decide +kernel)
theorem wc_X4_readPersons : (Cond.code yX4_readPersons cX4_readPersons 2 (some .boolean)) ∈ tb := tb_in (List.mem_of_getElem? (i := 283) (by decide +kernel)) (by decide +kernel)
theorem wk_X4_59 : (Cond.methodLink RX4 59 yX4_readNumber) ∈ tb := tb_in (List.mem_of_getElem? (i := 284) (by decide +kernel)) (by decide +kernel)
theorem wi_X4_readNumber : (Cond.instanceMethod yX4_readNumber) ∈ tb := tb_in (List.mem_of_getElem? (i := 285) (by decide +kernel)) (by decide +kernel)
theorem ws_X4_readNumber : (Cond.selects RX4 yX4_readNumber yX4_readNumber) ∈ tb := tb_in (List.mem_of_getElem? (i := 286) (by decide +kernel)) (by decide +kernel)
theorem wc_X4_readNumber : (Cond.code yX4_readNumber cX4_readNumber 3 (some .boolean)) ∈ tb := tb_in (List.mem_of_getElem? (i := 287) (by decide +kernel)) (by decide +kernel)
theorem wk_X4_66 : (Cond.methodLink RX4 66 yX4_readEnd) ∈ tb := tb_in (List.mem_of_getElem? (i := 288) (by decide +kernel)) (by decide +kernel)
theorem wi_X4_readEnd : (Cond.instanceMethod yX4_readEnd) ∈ tb := tb_in (List.mem_of_getElem? (i := 289) (by decide +kernel)) (by decide +kernel)
theorem ws_X4_readEnd : (Cond.selects RX4 yX4_readEnd yX4_readEnd) ∈ tb := tb_in (List.mem_of_getElem? (i := 290) (by decide +kernel)) (by decide +kernel)
theorem wc_X4_readEnd : (Cond.code yX4_readEnd cX4_readEnd 1 (some .boolean)) ∈ tb := tb_in (List.mem_of_getElem? (i := 291) (by decide +kernel)) (by decide +kernel)
theorem wk_X4_50 : (Cond.methodLink RX4 50 yX4_readLock) ∈ tb := tb_in (List.mem_of_getElem? (i := 292) (by decide +kernel)) (by decide +kernel)
theorem wi_X4_readLock : (Cond.instanceMethod yX4_readLock) ∈ tb := tb_in (List.mem_of_getElem? (i := 293) (by decide +kernel)) (by decide +kernel)
theorem ws_X4_readLock : (Cond.selects RX4 yX4_readLock yX4_readLock) ∈ tb := tb_in (List.mem_of_getElem? (i := 294) (by decide +kernel)) (by decide +kernel)
theorem wc_X4_readLock : (Cond.code yX4_readLock cX4_readLock 2 (some .boolean)) ∈ tb := tb_in (List.mem_of_getElem? (i := 295) (by decide +kernel)) (by decide +kernel)
theorem wk_X4_70 : (Cond.methodLink RX4 70 yX1_addLock) ∈ tb := tb_in (List.mem_of_getElem? (i := 296) (by decide +kernel)) (by decide +kernel)
theorem wi_X1_addLock : (Cond.instanceMethod yX1_addLock) ∈ tb := tb_in (List.mem_of_getElem? (i := 297) (by decide +kernel)) (by decide +kernel)
theorem ws_X1_addLock : (Cond.selects RX1 yX1_addLock yX1_addLock) ∈ tb := tb_in (List.mem_of_getElem? (i := 298) (by decide +kernel)) (by decide +kernel)
theorem wc_X1_addLock : (Cond.code yX1_addLock cX1_addLock 2 none) ∈ tb := tb_in (List.mem_of_getElem? (i := 299) (by decide +kernel)) (by decide +kernel)
theorem wk_X4_53 : (Cond.methodLink RX4 53 yX4_readKnows) ∈ tb := tb_in (List.mem_of_getElem? (i := 300) (by decide +kernel)) (by decide +kernel)
theorem wi_X4_readKnows : (Cond.instanceMethod yX4_readKnows) ∈ tb := tb_in (List.mem_of_getElem? (i := 301) (by decide +kernel)) (by decide +kernel)
theorem ws_X4_readKnows : (Cond.selects RX4 yX4_readKnows yX4_readKnows) ∈ tb := tb_in (List.mem_of_getElem? (i := 302) (by decide +kernel)) (by decide +kernel)
theorem wc_X4_readKnows : (Cond.code yX4_readKnows cX4_readKnows 3 (some .boolean)) ∈ tb := tb_in (List.mem_of_getElem? (i := 303) (by decide +kernel)) (by decide +kernel)
theorem wk_X4_56 : (Cond.methodLink RX4 56 yX4_readFriends) ∈ tb := tb_in (List.mem_of_getElem? (i := 304) (by decide +kernel)) (by decide +kernel)
theorem wi_X4_readFriends : (Cond.instanceMethod yX4_readFriends) ∈ tb := tb_in (List.mem_of_getElem? (i := 305) (by decide +kernel)) (by decide +kernel)
theorem ws_X4_readFriends : (Cond.selects RX4 yX4_readFriends yX4_readFriends) ∈ tb := tb_in (List.mem_of_getElem? (i := 306) (by decide +kernel)) (by decide +kernel)
theorem wc_X4_readFriends : (Cond.code yX4_readFriends cX4_readFriends 3 (some .boolean)) ∈ tb := tb_in (List.mem_of_getElem? (i := 307) (by decide +kernel)) (by decide +kernel)
theorem wk_X4_77 : (Cond.methodLink RX4 77 yX1_befriend) ∈ tb := tb_in (List.mem_of_getElem? (i := 308) (by decide +kernel)) (by decide +kernel)
theorem wi_X1_befriend : (Cond.instanceMethod yX1_befriend) ∈ tb := tb_in (List.mem_of_getElem? (i := 309) (by decide +kernel)) (by decide +kernel)
theorem ws_X1_befriend : (Cond.selects RX1 yX1_befriend yX1_befriend) ∈ tb := tb_in (List.mem_of_getElem? (i := 310) (by decide +kernel)) (by decide +kernel)
theorem wc_X1_befriend : (Cond.code yX1_befriend cX1_befriend 3 none) ∈ tb := tb_in (List.mem_of_getElem? (i := 311) (by decide +kernel)) (by decide +kernel)
theorem wk_X5_64 : (Cond.methodLink RX5 64 yX0_begin) ∈ tb := tb_in (List.mem_of_getElem? (i := 312) (by decide +kernel)) (by decide +kernel)
theorem wi_X0_begin : (Cond.instanceMethod yX0_begin) ∈ tb := tb_in (List.mem_of_getElem? (i := 313) (by decide +kernel)) (by decide +kernel)
theorem ws_X0_begin : (Cond.selects RX0 yX0_begin yX0_begin) ∈ tb := tb_in (List.mem_of_getElem? (i := 314) (by decide +kernel)) (by decide +kernel)
theorem wc_X0_begin : (Cond.code yX0_begin cX0_begin 2 none) ∈ tb := tb_in (List.mem_of_getElem? (i := 315) (by decide +kernel)) (by decide +kernel)
theorem wk_X0_26 : (Cond.methodLink RX0 26 yX3_begin) ∈ tb := tb_in (List.mem_of_getElem? (i := 316) (by decide +kernel)) (by decide +kernel)
theorem wi_X3_begin : (Cond.instanceMethod yX3_begin) ∈ tb := tb_in (List.mem_of_getElem? (i := 317) (by decide +kernel)) (by decide +kernel)
theorem ws_X3_begin : (Cond.selects RX3 yX3_begin yX3_begin) ∈ tb := tb_in (List.mem_of_getElem? (i := 318) (by decide +kernel)) (by decide +kernel)
theorem wc_X3_begin : (Cond.code yX3_begin cX3_begin 3 none) ∈ tb := tb_in (List.mem_of_getElem? (i := 319) (by decide +kernel)) (by decide +kernel)
theorem wk_X5_68 : (Cond.methodLink RX5 68 yX2_forgetAll) ∈ tb := tb_in (List.mem_of_getElem? (i := 320) (by decide +kernel)) (by decide +kernel)
theorem wk_L_27 : (Cond.methodLink RL 27 yX5_lock) ∈ tb := tb_in (List.mem_of_getElem? (i := 321) (by decide +kernel)) (by decide +kernel)
theorem wi_X5_lock : (Cond.instanceMethod yX5_lock) ∈ tb := tb_in (List.mem_of_getElem? (i := 322) (by decide +kernel)) (by decide +kernel)
theorem ws_X5_lock : (Cond.selects RX5 yX5_lock yX5_lock) ∈ tb := tb_in (List.mem_of_getElem? (i := 323) (by decide +kernel)) (by decide +kernel)
theorem wc_X5_lock : (Cond.code yX5_lock cX5_lock 4 (some .int)) ∈ tb := tb_in (List.mem_of_getElem? (i := 324) (by decide +kernel)) (by decide +kernel)
theorem wk_X5_71 : (Cond.methodLink RX5 71 yX5_isLock) ∈ tb := tb_in (List.mem_of_getElem? (i := 325) (by decide +kernel)) (by decide +kernel)
theorem wi_X5_isLock : (Cond.instanceMethod yX5_isLock) ∈ tb := tb_in (List.mem_of_getElem? (i := 327) (by decide +kernel)) (by decide +kernel)
theorem wc_X5_isLock : (Cond.code yX5_isLock cX5_isLock 2 (some .boolean)) ∈ tb := tb_in (List.mem_of_getElem? (i := 328) (by decide +kernel)) (by decide +kernel)
theorem wk_X5_91 : (Cond.methodLink RX5 91 yX3_inRing) ∈ tb := tb_in (List.mem_of_getElem? (i := 329) (by decide +kernel)) (by decide +kernel)
theorem wi_X3_inRing : (Cond.instanceMethod yX3_inRing) ∈ tb := tb_in (List.mem_of_getElem? (i := 330) (by decide +kernel)) (by decide +kernel)
theorem ws_X3_inRing : (Cond.selects RX3 yX3_inRing yX3_inRing) ∈ tb := tb_in (List.mem_of_getElem? (i := 331) (by decide +kernel)) (by decide +kernel)
theorem wc_X3_inRing : (Cond.code yX3_inRing cX3_inRing 2 (some .boolean)) ∈ tb := tb_in (List.mem_of_getElem? (i := 332) (by decide +kernel)) (by decide +kernel)
theorem wk_X3_47 : (Cond.methodLink RX3 47 yX3_behindOf) ∈ tb := tb_in (List.mem_of_getElem? (i := 333) (by decide +kernel)) (by decide +kernel)
theorem wi_X3_behindOf : (Cond.instanceMethod yX3_behindOf) ∈ tb := tb_in (List.mem_of_getElem? (i := 334) (by decide +kernel)) (by decide +kernel)
theorem ws_X3_behindOf : (Cond.selects RX3 yX3_behindOf yX3_behindOf) ∈ tb := tb_in (List.mem_of_getElem? (i := 335) (by decide +kernel)) (by decide +kernel)
theorem wc_X3_behindOf : (Cond.code yX3_behindOf cX3_behindOf 2 (some .int)) ∈ tb := tb_in (List.mem_of_getElem? (i := 336) (by decide +kernel)) (by decide +kernel)
theorem wk_X5_94 : (Cond.methodLink RX5 94 yX3_behindOf) ∈ tb := tb_in (List.mem_of_getElem? (i := 337) (by decide +kernel)) (by decide +kernel)
theorem wk_X5_97 : (Cond.methodLink RX5 97 yX3_stepsOf) ∈ tb := tb_in (List.mem_of_getElem? (i := 338) (by decide +kernel)) (by decide +kernel)
theorem wi_X3_stepsOf : (Cond.instanceMethod yX3_stepsOf) ∈ tb := tb_in (List.mem_of_getElem? (i := 339) (by decide +kernel)) (by decide +kernel)
theorem ws_X3_stepsOf : (Cond.selects RX3 yX3_stepsOf yX3_stepsOf) ∈ tb := tb_in (List.mem_of_getElem? (i := 340) (by decide +kernel)) (by decide +kernel)
theorem wc_X3_stepsOf : (Cond.code yX3_stepsOf cX3_stepsOf 2 (some .int)) ∈ tb := tb_in (List.mem_of_getElem? (i := 341) (by decide +kernel)) (by decide +kernel)
theorem wt_X5_stepsBetween : (Cond.static yX5_stepsBetween) ∈ tb := tb_in (List.mem_of_getElem? (i := 343) (by decide +kernel)) (by decide +kernel)
theorem wc_X5_stepsBetween : (Cond.code yX5_stepsBetween cX5_stepsBetween 2 (some .int)) ∈ tb := tb_in (List.mem_of_getElem? (i := 344) (by decide +kernel)) (by decide +kernel)
theorem wk_X5_250 : (Cond.methodLink RX5 250 yX5_turns) ∈ tb := tb_in (List.mem_of_getElem? (i := 345) (by decide +kernel)) (by decide +kernel)
theorem wt_X5_turns : (Cond.static yX5_turns) ∈ tb := tb_in (List.mem_of_getElem? (i := 346) (by decide +kernel)) (by decide +kernel)
theorem wc_X5_turns : (Cond.code yX5_turns cX5_turns 3 (some .int)) ∈ tb := tb_in (List.mem_of_getElem? (i := 347) (by decide +kernel)) (by decide +kernel)
theorem wk_X5_253 : (Cond.methodLink RX5 253 Lib.Math.abs.name) ∈ tb := tb_in (List.mem_of_getElem? (i := 348) (by decide +kernel)) (by decide +kernel)
theorem wt_J9_abs_0f7a4 : (Cond.static Lib.Math.abs.name) ∈ tb := tb_in (List.mem_of_getElem? (i := 349) (by decide +kernel)) (by decide +kernel)
theorem wc_J9_abs_0f7a4 : (Cond.code Lib.Math.abs.name Lib.Math.abs.code 1 (some .int)) ∈ tb := tb_in (List.mem_of_getElem? (i := 350) (by decide +kernel)) (by decide +kernel)
theorem wk_X5_256 : (Cond.methodLink RX5 256 Lib.Math.min.name) ∈ tb := tb_in (List.mem_of_getElem? (i := 351) (by decide +kernel)) (by decide +kernel)
theorem wk_L_32 : (Cond.methodLink RL 32 yX5_person) ∈ tb := tb_in (List.mem_of_getElem? (i := 352) (by decide +kernel)) (by decide +kernel)
theorem wi_X5_person : (Cond.instanceMethod yX5_person) ∈ tb := tb_in (List.mem_of_getElem? (i := 353) (by decide +kernel)) (by decide +kernel)
theorem ws_X5_person : (Cond.selects RX5 yX5_person yX5_person) ∈ tb := tb_in (List.mem_of_getElem? (i := 354) (by decide +kernel)) (by decide +kernel)
theorem wc_X5_person : (Cond.code yX5_person cX5_person 3 (some .int)) ∈ tb := tb_in (List.mem_of_getElem? (i := 355) (by decide +kernel)) (by decide +kernel)
theorem wk_X5_100 : (Cond.methodLink RX5 100 yX5_isPerson) ∈ tb := tb_in (List.mem_of_getElem? (i := 356) (by decide +kernel)) (by decide +kernel)
theorem wi_X5_isPerson : (Cond.instanceMethod yX5_isPerson) ∈ tb := tb_in (List.mem_of_getElem? (i := 358) (by decide +kernel)) (by decide +kernel)
theorem wc_X5_isPerson : (Cond.code yX5_isPerson cX5_isPerson 2 (some .boolean)) ∈ tb := tb_in (List.mem_of_getElem? (i := 359) (by decide +kernel)) (by decide +kernel)
theorem wk_X5_103 : (Cond.methodLink RX5 103 yX3_knownBy) ∈ tb := tb_in (List.mem_of_getElem? (i := 360) (by decide +kernel)) (by decide +kernel)
theorem wi_X3_knownBy : (Cond.instanceMethod yX3_knownBy) ∈ tb := tb_in (List.mem_of_getElem? (i := 361) (by decide +kernel)) (by decide +kernel)
theorem ws_X3_knownBy : (Cond.selects RX3 yX3_knownBy yX3_knownBy) ∈ tb := tb_in (List.mem_of_getElem? (i := 362) (by decide +kernel)) (by decide +kernel)
theorem wc_X3_knownBy : (Cond.code yX3_knownBy cX3_knownBy 4 (some .int)) ∈ tb := tb_in (List.mem_of_getElem? (i := 363) (by decide +kernel)) (by decide +kernel)
theorem wk_X5_109 : (Cond.methodLink RX5 109 yX3_whoGetsIn) ∈ tb := tb_in (List.mem_of_getElem? (i := 364) (by decide +kernel)) (by decide +kernel)
theorem wi_X3_whoGetsIn : (Cond.instanceMethod yX3_whoGetsIn) ∈ tb := tb_in (List.mem_of_getElem? (i := 365) (by decide +kernel)) (by decide +kernel)
theorem ws_X3_whoGetsIn : (Cond.selects RX3 yX3_whoGetsIn yX3_whoGetsIn) ∈ tb := tb_in (List.mem_of_getElem? (i := 366) (by decide +kernel)) (by decide +kernel)
theorem wc_X3_whoGetsIn : (Cond.code yX3_whoGetsIn cX3_whoGetsIn 1 (some .int)) ∈ tb := tb_in (List.mem_of_getElem? (i := 367) (by decide +kernel)) (by decide +kernel)
theorem wk_X3_55 : (Cond.methodLink RX3 55 yX3_ringBits) ∈ tb := tb_in (List.mem_of_getElem? (i := 368) (by decide +kernel)) (by decide +kernel)
theorem wi_X3_ringBits : (Cond.instanceMethod yX3_ringBits) ∈ tb := tb_in (List.mem_of_getElem? (i := 369) (by decide +kernel)) (by decide +kernel)
theorem ws_X3_ringBits : (Cond.selects RX3 yX3_ringBits yX3_ringBits) ∈ tb := tb_in (List.mem_of_getElem? (i := 370) (by decide +kernel)) (by decide +kernel)
theorem wc_X3_ringBits : (Cond.code yX3_ringBits cX3_ringBits 3 (some .int)) ∈ tb := tb_in (List.mem_of_getElem? (i := 371) (by decide +kernel)) (by decide +kernel)
theorem wk_X3_51 : (Cond.methodLink RX3 51 yX3_inRing) ∈ tb := tb_in (List.mem_of_getElem? (i := 372) (by decide +kernel)) (by decide +kernel)
theorem wk_X3_72 : (Cond.methodLink RX3 72 yX3_whoKnowsAny) ∈ tb := tb_in (List.mem_of_getElem? (i := 373) (by decide +kernel)) (by decide +kernel)
theorem wi_X3_whoKnowsAny : (Cond.instanceMethod yX3_whoKnowsAny) ∈ tb := tb_in (List.mem_of_getElem? (i := 374) (by decide +kernel)) (by decide +kernel)
theorem ws_X3_whoKnowsAny : (Cond.selects RX3 yX3_whoKnowsAny yX3_whoKnowsAny) ∈ tb := tb_in (List.mem_of_getElem? (i := 375) (by decide +kernel)) (by decide +kernel)
theorem wc_X3_whoKnowsAny : (Cond.code yX3_whoKnowsAny cX3_whoKnowsAny 4 (some .int)) ∈ tb := tb_in (List.mem_of_getElem? (i := 376) (by decide +kernel)) (by decide +kernel)
theorem wt_X5_hasBit : (Cond.static yX5_hasBit) ∈ tb := tb_in (List.mem_of_getElem? (i := 378) (by decide +kernel)) (by decide +kernel)
theorem wc_X5_hasBit : (Cond.code yX5_hasBit cX5_hasBit 2 (some .boolean)) ∈ tb := tb_in (List.mem_of_getElem? (i := 379) (by decide +kernel)) (by decide +kernel)
theorem wk_X5_112 : (Cond.methodLink RX5 112 yX5_hasBit) ∈ tb := tb_in (List.mem_of_getElem? (i := 380) (by decide +kernel)) (by decide +kernel)
theorem wk_X5_116 : (Cond.methodLink RX5 116 yX5_roundsOf) ∈ tb := tb_in (List.mem_of_getElem? (i := 381) (by decide +kernel)) (by decide +kernel)
theorem wi_X5_roundsOf : (Cond.instanceMethod yX5_roundsOf) ∈ tb := tb_in (List.mem_of_getElem? (i := 383) (by decide +kernel)) (by decide +kernel)
theorem wc_X5_roundsOf : (Cond.code yX5_roundsOf cX5_roundsOf 4 (some .int)) ∈ tb := tb_in (List.mem_of_getElem? (i := 384) (by decide +kernel)) (by decide +kernel)
theorem wk_X5_242 : (Cond.methodLink RX5 242 yX5_friendsOfAny) ∈ tb := tb_in (List.mem_of_getElem? (i := 385) (by decide +kernel)) (by decide +kernel)
theorem wi_X5_friendsOfAny : (Cond.instanceMethod yX5_friendsOfAny) ∈ tb := tb_in (List.mem_of_getElem? (i := 387) (by decide +kernel)) (by decide +kernel)
theorem wc_X5_friendsOfAny : (Cond.code yX5_friendsOfAny cX5_friendsOfAny 4 (some .int)) ∈ tb := tb_in (List.mem_of_getElem? (i := 388) (by decide +kernel)) (by decide +kernel)
theorem wk_L_36 : (Cond.methodLink RL 36 yX5_opens) ∈ tb := tb_in (List.mem_of_getElem? (i := 389) (by decide +kernel)) (by decide +kernel)
theorem wi_X5_opens : (Cond.instanceMethod yX5_opens) ∈ tb := tb_in (List.mem_of_getElem? (i := 390) (by decide +kernel)) (by decide +kernel)
theorem ws_X5_opens : (Cond.selects RX5 yX5_opens yX5_opens) ∈ tb := tb_in (List.mem_of_getElem? (i := 391) (by decide +kernel)) (by decide +kernel)
theorem wc_X5_opens : (Cond.code yX5_opens cX5_opens 4 (some .int)) ∈ tb := tb_in (List.mem_of_getElem? (i := 392) (by decide +kernel)) (by decide +kernel)
theorem wk_X5_119 : (Cond.methodLink RX5 119 yX3_isOpen) ∈ tb := tb_in (List.mem_of_getElem? (i := 393) (by decide +kernel)) (by decide +kernel)
theorem wi_X3_isOpen : (Cond.instanceMethod yX3_isOpen) ∈ tb := tb_in (List.mem_of_getElem? (i := 394) (by decide +kernel)) (by decide +kernel)
theorem ws_X3_isOpen : (Cond.selects RX3 yX3_isOpen yX3_isOpen) ∈ tb := tb_in (List.mem_of_getElem? (i := 395) (by decide +kernel)) (by decide +kernel)
theorem wc_X3_isOpen : (Cond.code yX3_isOpen cX3_isOpen 1 (some .boolean)) ∈ tb := tb_in (List.mem_of_getElem? (i := 396) (by decide +kernel)) (by decide +kernel)
theorem wk_X5_123 : (Cond.methodLink RX5 123 yX3_knows) ∈ tb := tb_in (List.mem_of_getElem? (i := 397) (by decide +kernel)) (by decide +kernel)
theorem wi_X3_knows : (Cond.instanceMethod yX3_knows) ∈ tb := tb_in (List.mem_of_getElem? (i := 398) (by decide +kernel)) (by decide +kernel)
theorem ws_X3_knows : (Cond.selects RX3 yX3_knows yX3_knows) ∈ tb := tb_in (List.mem_of_getElem? (i := 399) (by decide +kernel)) (by decide +kernel)
theorem wc_X3_knows : (Cond.code yX3_knows cX3_knows 3 (some .boolean)) ∈ tb := tb_in (List.mem_of_getElem? (i := 400) (by decide +kernel)) (by decide +kernel)
theorem wk_X5_126 : (Cond.methodLink RX5 126 yX0_remember) ∈ tb := tb_in (List.mem_of_getElem? (i := 401) (by decide +kernel)) (by decide +kernel)
theorem wi_X0_remember : (Cond.instanceMethod yX0_remember) ∈ tb := tb_in (List.mem_of_getElem? (i := 402) (by decide +kernel)) (by decide +kernel)
theorem ws_X0_remember : (Cond.selects RX0 yX0_remember yX0_remember) ∈ tb := tb_in (List.mem_of_getElem? (i := 403) (by decide +kernel)) (by decide +kernel)
theorem wc_X0_remember : (Cond.code yX0_remember cX0_remember 1 none) ∈ tb := tb_in (List.mem_of_getElem? (i := 404) (by decide +kernel)) (by decide +kernel)
theorem wk_X0_34 : (Cond.methodLink RX0 34 yX0_loseOldest) ∈ tb := tb_in (List.mem_of_getElem? (i := 405) (by decide +kernel)) (by decide +kernel)
theorem wi_X0_loseOldest : (Cond.instanceMethod yX0_loseOldest) ∈ tb := tb_in (List.mem_of_getElem? (i := 406) (by decide +kernel)) (by decide +kernel)
theorem ws_X0_loseOldest : (Cond.selects RX0 yX0_loseOldest yX0_loseOldest) ∈ tb := tb_in (List.mem_of_getElem? (i := 407) (by decide +kernel)) (by decide +kernel)
theorem wc_X0_loseOldest : (Cond.code yX0_loseOldest cX0_loseOldest 3 none) ∈ tb := tb_in (List.mem_of_getElem? (i := 408) (by decide +kernel)) (by decide +kernel)
theorem wk_X0_30 : (Cond.methodLink RX0 30 yX3_copyFrom) ∈ tb := tb_in (List.mem_of_getElem? (i := 409) (by decide +kernel)) (by decide +kernel)
theorem wi_X3_copyFrom : (Cond.instanceMethod yX3_copyFrom) ∈ tb := tb_in (List.mem_of_getElem? (i := 410) (by decide +kernel)) (by decide +kernel)
theorem ws_X3_copyFrom : (Cond.selects RX3 yX3_copyFrom yX3_copyFrom) ∈ tb := tb_in (List.mem_of_getElem? (i := 411) (by decide +kernel)) (by decide +kernel)
theorem wc_X3_copyFrom : (Cond.code yX3_copyFrom cX3_copyFrom 2 none) ∈ tb := tb_in (List.mem_of_getElem? (i := 412) (by decide +kernel)) (by decide +kernel)
theorem wk_X3_41 : (Cond.methodLink RX3 41 arraycopyName) ∈ tb := tb_in (List.mem_of_getElem? (i := 413) (by decide +kernel)) (by decide +kernel)
theorem wt_sys : (Cond.static arraycopyName) ∈ tb := tb_in (List.mem_of_getElem? (i := 414) (by decide +kernel)) (by decide +kernel)
theorem wv_sys : (Cond.native arraycopyName) ∈ tb := tb_in (List.mem_of_getElem? (i := 415) (by decide +kernel)) (by decide +kernel)
theorem wk_X5_133 : (Cond.methodLink RX5 133 yX3_ringSize) ∈ tb := tb_in (List.mem_of_getElem? (i := 416) (by decide +kernel)) (by decide +kernel)
theorem wi_X3_ringSize : (Cond.instanceMethod yX3_ringSize) ∈ tb := tb_in (List.mem_of_getElem? (i := 417) (by decide +kernel)) (by decide +kernel)
theorem ws_X3_ringSize : (Cond.selects RX3 yX3_ringSize yX3_ringSize) ∈ tb := tb_in (List.mem_of_getElem? (i := 418) (by decide +kernel)) (by decide +kernel)
theorem wc_X3_ringSize : (Cond.code yX3_ringSize cX3_ringSize 1 (some .int)) ∈ tb := tb_in (List.mem_of_getElem? (i := 419) (by decide +kernel)) (by decide +kernel)
theorem wk_X3_59 : (Cond.methodLink RX3 59 yJ6_bitCount_0f7a4) ∈ tb := tb_in (List.mem_of_getElem? (i := 420) (by decide +kernel)) (by decide +kernel)
theorem wt_J6_bitCount_0f7a4 : (Cond.static yJ6_bitCount_0f7a4) ∈ tb := tb_in (List.mem_of_getElem? (i := 421) (by decide +kernel)) (by decide +kernel)
theorem wc_J6_bitCount_0f7a4 : (Cond.code yJ6_bitCount_0f7a4 cJ6_bitCount_0f7a4 1 (some .int)) ∈ tb := tb_in (List.mem_of_getElem? (i := 422) (by decide +kernel)) (by decide +kernel)
theorem wk_J6_265 : (Cond.constant RJ6 265 (1431655765)) ∈ tb := tb_in (List.mem_of_getElem? (i := 423) (by decide +kernel)) (by decide +kernel)
theorem wk_J6_266 : (Cond.constant RJ6 266 (858993459)) ∈ tb := tb_in (List.mem_of_getElem? (i := 424) (by decide +kernel)) (by decide +kernel)
theorem wk_J6_267 : (Cond.constant RJ6 267 (252645135)) ∈ tb := tb_in (List.mem_of_getElem? (i := 425) (by decide +kernel)) (by decide +kernel)
theorem wk_L_40 : (Cond.methodLink RL 40 yX5_shuts) ∈ tb := tb_in (List.mem_of_getElem? (i := 426) (by decide +kernel)) (by decide +kernel)
theorem wi_X5_shuts : (Cond.instanceMethod yX5_shuts) ∈ tb := tb_in (List.mem_of_getElem? (i := 427) (by decide +kernel)) (by decide +kernel)
theorem ws_X5_shuts : (Cond.selects RX5 yX5_shuts yX5_shuts) ∈ tb := tb_in (List.mem_of_getElem? (i := 428) (by decide +kernel)) (by decide +kernel)
theorem wc_X5_shuts : (Cond.code yX5_shuts cX5_shuts 3 (some .int)) ∈ tb := tb_in (List.mem_of_getElem? (i := 429) (by decide +kernel)) (by decide +kernel)
theorem wk_X5_136 : (Cond.methodLink RX5 136 yX5_isNumber) ∈ tb := tb_in (List.mem_of_getElem? (i := 430) (by decide +kernel)) (by decide +kernel)
theorem wt_X5_isNumber : (Cond.static yX5_isNumber) ∈ tb := tb_in (List.mem_of_getElem? (i := 431) (by decide +kernel)) (by decide +kernel)
theorem wc_X5_isNumber : (Cond.code yX5_isNumber cX5_isNumber 1 (some .boolean)) ∈ tb := tb_in (List.mem_of_getElem? (i := 432) (by decide +kernel)) (by decide +kernel)
theorem wk_X5_139 : (Cond.methodLink RX5 139 yX3_canShutOn) ∈ tb := tb_in (List.mem_of_getElem? (i := 433) (by decide +kernel)) (by decide +kernel)
theorem wi_X3_canShutOn : (Cond.instanceMethod yX3_canShutOn) ∈ tb := tb_in (List.mem_of_getElem? (i := 434) (by decide +kernel)) (by decide +kernel)
theorem ws_X3_canShutOn : (Cond.selects RX3 yX3_canShutOn yX3_canShutOn) ∈ tb := tb_in (List.mem_of_getElem? (i := 435) (by decide +kernel)) (by decide +kernel)
theorem wc_X3_canShutOn : (Cond.code yX3_canShutOn cX3_canShutOn 3 (some .boolean)) ∈ tb := tb_in (List.mem_of_getElem? (i := 436) (by decide +kernel)) (by decide +kernel)
theorem wk_X3_75 : (Cond.methodLink RX3 75 yX3_isOpen) ∈ tb := tb_in (List.mem_of_getElem? (i := 437) (by decide +kernel)) (by decide +kernel)
theorem wk_X5_142 : (Cond.methodLink RX5 142 yX3_shutOn) ∈ tb := tb_in (List.mem_of_getElem? (i := 438) (by decide +kernel)) (by decide +kernel)
theorem wi_X3_shutOn : (Cond.instanceMethod yX3_shutOn) ∈ tb := tb_in (List.mem_of_getElem? (i := 439) (by decide +kernel)) (by decide +kernel)
theorem ws_X3_shutOn : (Cond.selects RX3 yX3_shutOn yX3_shutOn) ∈ tb := tb_in (List.mem_of_getElem? (i := 440) (by decide +kernel)) (by decide +kernel)
theorem wc_X3_shutOn : (Cond.code yX3_shutOn cX3_shutOn 5 (some .int)) ∈ tb := tb_in (List.mem_of_getElem? (i := 441) (by decide +kernel)) (by decide +kernel)
theorem wk_X3_85 : (Cond.methodLink RX3 85 yX3_between) ∈ tb := tb_in (List.mem_of_getElem? (i := 442) (by decide +kernel)) (by decide +kernel)
theorem wi_X3_between : (Cond.instanceMethod yX3_between) ∈ tb := tb_in (List.mem_of_getElem? (i := 443) (by decide +kernel)) (by decide +kernel)
theorem ws_X3_between : (Cond.selects RX3 yX3_between yX3_between) ∈ tb := tb_in (List.mem_of_getElem? (i := 444) (by decide +kernel)) (by decide +kernel)
theorem wc_X3_between : (Cond.code yX3_between cX3_between 5 (some .int)) ∈ tb := tb_in (List.mem_of_getElem? (i := 445) (by decide +kernel)) (by decide +kernel)
theorem wk_L_44 : (Cond.methodLink RL 44 yX5_hangs) ∈ tb := tb_in (List.mem_of_getElem? (i := 446) (by decide +kernel)) (by decide +kernel)
theorem wi_X5_hangs : (Cond.instanceMethod yX5_hangs) ∈ tb := tb_in (List.mem_of_getElem? (i := 447) (by decide +kernel)) (by decide +kernel)
theorem ws_X5_hangs : (Cond.selects RX5 yX5_hangs yX5_hangs) ∈ tb := tb_in (List.mem_of_getElem? (i := 448) (by decide +kernel)) (by decide +kernel)
theorem wc_X5_hangs : (Cond.code yX5_hangs cX5_hangs 4 (some .int)) ∈ tb := tb_in (List.mem_of_getElem? (i := 449) (by decide +kernel)) (by decide +kernel)
theorem wk_X5_146 : (Cond.methodLink RX5 146 yX3_hangIn) ∈ tb := tb_in (List.mem_of_getElem? (i := 450) (by decide +kernel)) (by decide +kernel)
theorem wi_X3_hangIn : (Cond.instanceMethod yX3_hangIn) ∈ tb := tb_in (List.mem_of_getElem? (i := 451) (by decide +kernel)) (by decide +kernel)
theorem ws_X3_hangIn : (Cond.selects RX3 yX3_hangIn yX3_hangIn) ∈ tb := tb_in (List.mem_of_getElem? (i := 452) (by decide +kernel)) (by decide +kernel)
theorem wc_X3_hangIn : (Cond.code yX3_hangIn cX3_hangIn 2 none) ∈ tb := tb_in (List.mem_of_getElem? (i := 453) (by decide +kernel)) (by decide +kernel)
theorem wk_L_48 : (Cond.methodLink RL 48 yX5_tells) ∈ tb := tb_in (List.mem_of_getElem? (i := 454) (by decide +kernel)) (by decide +kernel)
theorem wi_X5_tells : (Cond.instanceMethod yX5_tells) ∈ tb := tb_in (List.mem_of_getElem? (i := 455) (by decide +kernel)) (by decide +kernel)
theorem ws_X5_tells : (Cond.selects RX5 yX5_tells yX5_tells) ∈ tb := tb_in (List.mem_of_getElem? (i := 456) (by decide +kernel)) (by decide +kernel)
theorem wc_X5_tells : (Cond.code yX5_tells cX5_tells 5 (some .int)) ∈ tb := tb_in (List.mem_of_getElem? (i := 457) (by decide +kernel)) (by decide +kernel)
theorem wk_X5_150 : (Cond.methodLink RX5 150 yX3_knowerCount) ∈ tb := tb_in (List.mem_of_getElem? (i := 458) (by decide +kernel)) (by decide +kernel)
theorem wi_X3_knowerCount : (Cond.instanceMethod yX3_knowerCount) ∈ tb := tb_in (List.mem_of_getElem? (i := 459) (by decide +kernel)) (by decide +kernel)
theorem ws_X3_knowerCount : (Cond.selects RX3 yX3_knowerCount yX3_knowerCount) ∈ tb := tb_in (List.mem_of_getElem? (i := 460) (by decide +kernel)) (by decide +kernel)
theorem wc_X3_knowerCount : (Cond.code yX3_knowerCount cX3_knowerCount 2 (some .int)) ∈ tb := tb_in (List.mem_of_getElem? (i := 461) (by decide +kernel)) (by decide +kernel)
theorem wk_L_53 : (Cond.methodLink RL 53 yX5_changes) ∈ tb := tb_in (List.mem_of_getElem? (i := 462) (by decide +kernel)) (by decide +kernel)
theorem wi_X5_changes : (Cond.instanceMethod yX5_changes) ∈ tb := tb_in (List.mem_of_getElem? (i := 463) (by decide +kernel)) (by decide +kernel)
theorem ws_X5_changes : (Cond.selects RX5 yX5_changes yX5_changes) ∈ tb := tb_in (List.mem_of_getElem? (i := 464) (by decide +kernel)) (by decide +kernel)
theorem wc_X5_changes : (Cond.code yX5_changes cX5_changes 4 (some .int)) ∈ tb := tb_in (List.mem_of_getElem? (i := 465) (by decide +kernel)) (by decide +kernel)
theorem wk_X5_153 : (Cond.methodLink RX5 153 yX3_giveCode) ∈ tb := tb_in (List.mem_of_getElem? (i := 466) (by decide +kernel)) (by decide +kernel)
theorem wi_X3_giveCode : (Cond.instanceMethod yX3_giveCode) ∈ tb := tb_in (List.mem_of_getElem? (i := 467) (by decide +kernel)) (by decide +kernel)
theorem ws_X3_giveCode : (Cond.selects RX3 yX3_giveCode yX3_giveCode) ∈ tb := tb_in (List.mem_of_getElem? (i := 468) (by decide +kernel)) (by decide +kernel)
theorem wc_X3_giveCode : (Cond.code yX3_giveCode cX3_giveCode 4 (some .int)) ∈ tb := tb_in (List.mem_of_getElem? (i := 469) (by decide +kernel)) (by decide +kernel)
theorem wk_L_57 : (Cond.methodLink RL 57 yX5_tries) ∈ tb := tb_in (List.mem_of_getElem? (i := 470) (by decide +kernel)) (by decide +kernel)
theorem wi_X5_tries : (Cond.instanceMethod yX5_tries) ∈ tb := tb_in (List.mem_of_getElem? (i := 471) (by decide +kernel)) (by decide +kernel)
theorem ws_X5_tries : (Cond.selects RX5 yX5_tries yX5_tries) ∈ tb := tb_in (List.mem_of_getElem? (i := 472) (by decide +kernel)) (by decide +kernel)
theorem wc_X5_tries : (Cond.code yX5_tries cX5_tries 5 (some .int)) ∈ tb := tb_in (List.mem_of_getElem? (i := 473) (by decide +kernel)) (by decide +kernel)
theorem wk_X5_156 : (Cond.methodLink RX5 156 yX5_rightWheels) ∈ tb := tb_in (List.mem_of_getElem? (i := 474) (by decide +kernel)) (by decide +kernel)
theorem wt_X5_rightWheels : (Cond.static yX5_rightWheels) ∈ tb := tb_in (List.mem_of_getElem? (i := 475) (by decide +kernel)) (by decide +kernel)
theorem wc_X5_rightWheels : (Cond.code yX5_rightWheels cX5_rightWheels 3 (some .int)) ∈ tb := tb_in (List.mem_of_getElem? (i := 476) (by decide +kernel)) (by decide +kernel)
theorem wk_L_61 : (Cond.methodLink RL 61 yX5_undo) ∈ tb := tb_in (List.mem_of_getElem? (i := 477) (by decide +kernel)) (by decide +kernel)
theorem wi_X5_undo : (Cond.instanceMethod yX5_undo) ∈ tb := tb_in (List.mem_of_getElem? (i := 478) (by decide +kernel)) (by decide +kernel)
theorem ws_X5_undo : (Cond.selects RX5 yX5_undo yX5_undo) ∈ tb := tb_in (List.mem_of_getElem? (i := 479) (by decide +kernel)) (by decide +kernel)
theorem wc_X5_undo : (Cond.code yX5_undo cX5_undo 1 (some .int)) ∈ tb := tb_in (List.mem_of_getElem? (i := 480) (by decide +kernel)) (by decide +kernel)
theorem wk_X5_162 : (Cond.methodLink RX5 162 yX0_takeBack) ∈ tb := tb_in (List.mem_of_getElem? (i := 481) (by decide +kernel)) (by decide +kernel)
theorem wi_X0_takeBack : (Cond.instanceMethod yX0_takeBack) ∈ tb := tb_in (List.mem_of_getElem? (i := 482) (by decide +kernel)) (by decide +kernel)
theorem ws_X0_takeBack : (Cond.selects RX0 yX0_takeBack yX0_takeBack) ∈ tb := tb_in (List.mem_of_getElem? (i := 483) (by decide +kernel)) (by decide +kernel)
theorem wc_X0_takeBack : (Cond.code yX0_takeBack cX0_takeBack 1 none) ∈ tb := tb_in (List.mem_of_getElem? (i := 484) (by decide +kernel)) (by decide +kernel)
theorem wk_L_65 : (Cond.methodLink RL 65 yX5_now) ∈ tb := tb_in (List.mem_of_getElem? (i := 485) (by decide +kernel)) (by decide +kernel)
theorem wi_X5_now : (Cond.instanceMethod yX5_now) ∈ tb := tb_in (List.mem_of_getElem? (i := 486) (by decide +kernel)) (by decide +kernel)
theorem ws_X5_now : (Cond.selects RX5 yX5_now yX5_now) ∈ tb := tb_in (List.mem_of_getElem? (i := 487) (by decide +kernel)) (by decide +kernel)
theorem wc_X5_now : (Cond.code yX5_now cX5_now 2 (some .int)) ∈ tb := tb_in (List.mem_of_getElem? (i := 488) (by decide +kernel)) (by decide +kernel)
theorem wk_X5_165 : (Cond.methodLink RX5 165 yX3_ringBits) ∈ tb := tb_in (List.mem_of_getElem? (i := 489) (by decide +kernel)) (by decide +kernel)
theorem wk_X5_168 : (Cond.methodLink RX5 168 yX5_worstLock) ∈ tb := tb_in (List.mem_of_getElem? (i := 490) (by decide +kernel)) (by decide +kernel)
theorem wi_X5_worstLock : (Cond.instanceMethod yX5_worstLock) ∈ tb := tb_in (List.mem_of_getElem? (i := 492) (by decide +kernel)) (by decide +kernel)
theorem wc_X5_worstLock : (Cond.code yX5_worstLock cX5_worstLock 5 (some .int)) ∈ tb := tb_in (List.mem_of_getElem? (i := 493) (by decide +kernel)) (by decide +kernel)
theorem wk_X5_174 : (Cond.methodLink RX5 174 yX3_leftBy) ∈ tb := tb_in (List.mem_of_getElem? (i := 494) (by decide +kernel)) (by decide +kernel)
theorem wi_X3_leftBy : (Cond.instanceMethod yX3_leftBy) ∈ tb := tb_in (List.mem_of_getElem? (i := 495) (by decide +kernel)) (by decide +kernel)
theorem ws_X3_leftBy : (Cond.selects RX3 yX3_leftBy yX3_leftBy) ∈ tb := tb_in (List.mem_of_getElem? (i := 496) (by decide +kernel)) (by decide +kernel)
theorem wc_X3_leftBy : (Cond.code yX3_leftBy cX3_leftBy 2 (some .int)) ∈ tb := tb_in (List.mem_of_getElem? (i := 497) (by decide +kernel)) (by decide +kernel)
theorem wk_X3_79 : (Cond.methodLink RX3 79 yX3_canShutOn) ∈ tb := tb_in (List.mem_of_getElem? (i := 498) (by decide +kernel)) (by decide +kernel)
theorem wk_X3_82 : (Cond.methodLink RX3 82 yX3_whoGetsIn) ∈ tb := tb_in (List.mem_of_getElem? (i := 499) (by decide +kernel)) (by decide +kernel)
theorem wk_X5_183 : (Cond.methodLink RX5 183 yJ6_bitCount_0f7a4) ∈ tb := tb_in (List.mem_of_getElem? (i := 500) (by decide +kernel)) (by decide +kernel)
theorem wk_X5_171 : (Cond.methodLink RX5 171 yX5_greatestRounds) ∈ tb := tb_in (List.mem_of_getElem? (i := 501) (by decide +kernel)) (by decide +kernel)
theorem wi_X5_greatestRounds : (Cond.instanceMethod yX5_greatestRounds) ∈ tb := tb_in (List.mem_of_getElem? (i := 503) (by decide +kernel)) (by decide +kernel)
theorem wc_X5_greatestRounds : (Cond.code yX5_greatestRounds cX5_greatestRounds 4 (some .int)) ∈ tb := tb_in (List.mem_of_getElem? (i := 504) (by decide +kernel)) (by decide +kernel)
theorem wk_X5_245 : (Cond.methodLink RX5 245 Lib.Math.max.name) ∈ tb := tb_in (List.mem_of_getElem? (i := 505) (by decide +kernel)) (by decide +kernel)
theorem wt_J9_max_7cf53 : (Cond.static Lib.Math.max.name) ∈ tb := tb_in (List.mem_of_getElem? (i := 506) (by decide +kernel)) (by decide +kernel)
theorem wc_J9_max_7cf53 : (Cond.code Lib.Math.max.name Lib.Math.max.code 2 (some .int)) ∈ tb := tb_in (List.mem_of_getElem? (i := 507) (by decide +kernel)) (by decide +kernel)
theorem wk_L_69 : (Cond.methodLink RL 69 yX5_left) ∈ tb := tb_in (List.mem_of_getElem? (i := 508) (by decide +kernel)) (by decide +kernel)
theorem wi_X5_left : (Cond.instanceMethod yX5_left) ∈ tb := tb_in (List.mem_of_getElem? (i := 509) (by decide +kernel)) (by decide +kernel)
theorem ws_X5_left : (Cond.selects RX5 yX5_left yX5_left) ∈ tb := tb_in (List.mem_of_getElem? (i := 510) (by decide +kernel)) (by decide +kernel)
theorem wc_X5_left : (Cond.code yX5_left cX5_left 2 (some .int)) ∈ tb := tb_in (List.mem_of_getElem? (i := 511) (by decide +kernel)) (by decide +kernel)
theorem wk_L_73 : (Cond.methodLink RL 73 yX5_jam) ∈ tb := tb_in (List.mem_of_getElem? (i := 512) (by decide +kernel)) (by decide +kernel)
theorem wi_X5_jam : (Cond.instanceMethod yX5_jam) ∈ tb := tb_in (List.mem_of_getElem? (i := 513) (by decide +kernel)) (by decide +kernel)
theorem ws_X5_jam : (Cond.selects RX5 yX5_jam yX5_jam) ∈ tb := tb_in (List.mem_of_getElem? (i := 514) (by decide +kernel)) (by decide +kernel)
theorem wc_X5_jam : (Cond.code yX5_jam cX5_jam 2 (some .int)) ∈ tb := tb_in (List.mem_of_getElem? (i := 515) (by decide +kernel)) (by decide +kernel)
theorem wk_X5_177 : (Cond.methodLink RX5 177 yX5_fewestWhoKnowMore) ∈ tb := tb_in (List.mem_of_getElem? (i := 516) (by decide +kernel)) (by decide +kernel)
theorem wi_X5_fewestWhoKnowMore : (Cond.instanceMethod yX5_fewestWhoKnowMore) ∈ tb := tb_in (List.mem_of_getElem? (i := 518) (by decide +kernel)) (by decide +kernel)
theorem wc_X5_fewestWhoKnowMore : (Cond.code yX5_fewestWhoKnowMore cX5_fewestWhoKnowMore 7 (some .int)) ∈ tb := tb_in (List.mem_of_getElem? (i := 519) (by decide +kernel)) (by decide +kernel)
theorem wk_L_77 : (Cond.methodLink RL 77 yX5_near) ∈ tb := tb_in (List.mem_of_getElem? (i := 520) (by decide +kernel)) (by decide +kernel)
theorem wi_X5_near : (Cond.instanceMethod yX5_near) ∈ tb := tb_in (List.mem_of_getElem? (i := 521) (by decide +kernel)) (by decide +kernel)
theorem ws_X5_near : (Cond.selects RX5 yX5_near yX5_near) ∈ tb := tb_in (List.mem_of_getElem? (i := 522) (by decide +kernel)) (by decide +kernel)
theorem wc_X5_near : (Cond.code yX5_near cX5_near 3 (some .int)) ∈ tb := tb_in (List.mem_of_getElem? (i := 523) (by decide +kernel)) (by decide +kernel)
theorem wk_X5_180 : (Cond.methodLink RX5 180 yX5_numbersWithin) ∈ tb := tb_in (List.mem_of_getElem? (i := 524) (by decide +kernel)) (by decide +kernel)
theorem wt_X5_numbersWithin : (Cond.static yX5_numbersWithin) ∈ tb := tb_in (List.mem_of_getElem? (i := 525) (by decide +kernel)) (by decide +kernel)
theorem wc_X5_numbersWithin : (Cond.code yX5_numbersWithin cX5_numbersWithin 5 (some .int)) ∈ tb := tb_in (List.mem_of_getElem? (i := 526) (by decide +kernel)) (by decide +kernel)
theorem wk_X5_259 : (Cond.fieldLink RX5 259 "GateChain" "FIGURES_AT" "[I") ∈ tb := tb_in (List.mem_of_getElem? (i := 527) (by decide +kernel)) (by decide +kernel)
theorem wz_figures : (Cond.laysStatic RX5 "FIGURES_AT" "[I") ∈ lw_tbl := List.mem_of_getElem? (i := 528) (by decide +kernel)
theorem wk_L_81 : (Cond.methodLink RL 81 yX5_odds) ∈ tb := tb_in (List.mem_of_getElem? (i := 529) (by decide +kernel)) (by decide +kernel)
theorem wi_X5_odds : (Cond.instanceMethod yX5_odds) ∈ tb := tb_in (List.mem_of_getElem? (i := 530) (by decide +kernel)) (by decide +kernel)
theorem ws_X5_odds : (Cond.selects RX5 yX5_odds yX5_odds) ∈ tb := tb_in (List.mem_of_getElem? (i := 531) (by decide +kernel)) (by decide +kernel)
theorem wc_X5_odds : (Cond.code yX5_odds cX5_odds 8 (some .int)) ∈ tb := tb_in (List.mem_of_getElem? (i := 532) (by decide +kernel)) (by decide +kernel)
theorem wk_X5_188 : (Cond.methodLink RX5 188 yX5_greatestDivisor) ∈ tb := tb_in (List.mem_of_getElem? (i := 533) (by decide +kernel)) (by decide +kernel)
theorem wt_X5_greatestDivisor : (Cond.static yX5_greatestDivisor) ∈ tb := tb_in (List.mem_of_getElem? (i := 534) (by decide +kernel)) (by decide +kernel)
theorem wc_X5_greatestDivisor : (Cond.code yX5_greatestDivisor cX5_greatestDivisor 6 (some .int)) ∈ tb := tb_in (List.mem_of_getElem? (i := 535) (by decide +kernel)) (by decide +kernel)
theorem wk_L_85 : (Cond.methodLink RL 85 yX5_hears) ∈ tb := tb_in (List.mem_of_getElem? (i := 536) (by decide +kernel)) (by decide +kernel)
theorem wi_X5_hears : (Cond.instanceMethod yX5_hears) ∈ tb := tb_in (List.mem_of_getElem? (i := 537) (by decide +kernel)) (by decide +kernel)
theorem ws_X5_hears : (Cond.selects RX5 yX5_hears yX5_hears) ∈ tb := tb_in (List.mem_of_getElem? (i := 538) (by decide +kernel)) (by decide +kernel)
theorem wc_X5_hears : (Cond.code yX5_hears cX5_hears 3 (some .int)) ∈ tb := tb_in (List.mem_of_getElem? (i := 539) (by decide +kernel)) (by decide +kernel)
theorem wk_X5_194 : (Cond.methodLink RX5 194 yX2_add) ∈ tb := tb_in (List.mem_of_getElem? (i := 540) (by decide +kernel)) (by decide +kernel)
theorem wi_X2_add : (Cond.instanceMethod yX2_add) ∈ tb := tb_in (List.mem_of_getElem? (i := 541) (by decide +kernel)) (by decide +kernel)
theorem ws_X2_add : (Cond.selects RX2 yX2_add yX2_add) ∈ tb := tb_in (List.mem_of_getElem? (i := 542) (by decide +kernel)) (by decide +kernel)
theorem wc_X2_add : (Cond.code yX2_add cX2_add 5 none) ∈ tb := tb_in (List.mem_of_getElem? (i := 543) (by decide +kernel)) (by decide +kernel)
theorem wk_L_89 : (Cond.methodLink RL 89 yX5_forget) ∈ tb := tb_in (List.mem_of_getElem? (i := 545) (by decide +kernel)) (by decide +kernel)
theorem wi_X5_forget : (Cond.instanceMethod yX5_forget) ∈ tb := tb_in (List.mem_of_getElem? (i := 546) (by decide +kernel)) (by decide +kernel)
theorem ws_X5_forget : (Cond.selects RX5 yX5_forget yX5_forget) ∈ tb := tb_in (List.mem_of_getElem? (i := 547) (by decide +kernel)) (by decide +kernel)
theorem wc_X5_forget : (Cond.code yX5_forget cX5_forget 2 (some .int)) ∈ tb := tb_in (List.mem_of_getElem? (i := 548) (by decide +kernel)) (by decide +kernel)
theorem wk_L_93 : (Cond.methodLink RL 93 yX5_codes) ∈ tb := tb_in (List.mem_of_getElem? (i := 549) (by decide +kernel)) (by decide +kernel)
theorem wi_X5_codes : (Cond.instanceMethod yX5_codes) ∈ tb := tb_in (List.mem_of_getElem? (i := 550) (by decide +kernel)) (by decide +kernel)
theorem ws_X5_codes : (Cond.selects RX5 yX5_codes yX5_codes) ∈ tb := tb_in (List.mem_of_getElem? (i := 551) (by decide +kernel)) (by decide +kernel)
theorem wc_X5_codes : (Cond.code yX5_codes cX5_codes 2 (some .int)) ∈ tb := tb_in (List.mem_of_getElem? (i := 552) (by decide +kernel)) (by decide +kernel)
theorem wk_L_97 : (Cond.methodLink RL 97 yX5_ask) ∈ tb := tb_in (List.mem_of_getElem? (i := 553) (by decide +kernel)) (by decide +kernel)
theorem wi_X5_ask : (Cond.instanceMethod yX5_ask) ∈ tb := tb_in (List.mem_of_getElem? (i := 554) (by decide +kernel)) (by decide +kernel)
theorem ws_X5_ask : (Cond.selects RX5 yX5_ask yX5_ask) ∈ tb := tb_in (List.mem_of_getElem? (i := 555) (by decide +kernel)) (by decide +kernel)
theorem wc_X5_ask : (Cond.code yX5_ask cX5_ask 1 (some .int)) ∈ tb := tb_in (List.mem_of_getElem? (i := 556) (by decide +kernel)) (by decide +kernel)
theorem wk_X5_204 : (Cond.methodLink RX5 204 yX2_bestQuestion) ∈ tb := tb_in (List.mem_of_getElem? (i := 557) (by decide +kernel)) (by decide +kernel)
theorem wi_X2_bestQuestion : (Cond.instanceMethod yX2_bestQuestion) ∈ tb := tb_in (List.mem_of_getElem? (i := 558) (by decide +kernel)) (by decide +kernel)
theorem ws_X2_bestQuestion : (Cond.selects RX2 yX2_bestQuestion yX2_bestQuestion) ∈ tb := tb_in (List.mem_of_getElem? (i := 559) (by decide +kernel)) (by decide +kernel)
theorem wc_X2_bestQuestion : (Cond.code yX2_bestQuestion cX2_bestQuestion 7 (some .int)) ∈ tb := tb_in (List.mem_of_getElem? (i := 560) (by decide +kernel)) (by decide +kernel)
theorem wk_X2_47 : (Cond.methodLink RX2 47 yX2_countFigures) ∈ tb := tb_in (List.mem_of_getElem? (i := 561) (by decide +kernel)) (by decide +kernel)
theorem wi_X2_countFigures : (Cond.instanceMethod yX2_countFigures) ∈ tb := tb_in (List.mem_of_getElem? (i := 562) (by decide +kernel)) (by decide +kernel)
theorem ws_X2_countFigures : (Cond.selects RX2 yX2_countFigures yX2_countFigures) ∈ tb := tb_in (List.mem_of_getElem? (i := 563) (by decide +kernel)) (by decide +kernel)
theorem wc_X2_countFigures : (Cond.code yX2_countFigures cX2_countFigures 5 none) ∈ tb := tb_in (List.mem_of_getElem? (i := 564) (by decide +kernel)) (by decide +kernel)
theorem wk_X2_53 : (Cond.methodLink RX2 53 yJ7_fill_53178) ∈ tb := tb_in (List.mem_of_getElem? (i := 565) (by decide +kernel)) (by decide +kernel)
theorem wk_X2_50 : (Cond.methodLink RX2 50 yX2_greatestPart) ∈ tb := tb_in (List.mem_of_getElem? (i := 566) (by decide +kernel)) (by decide +kernel)
theorem wi_X2_greatestPart : (Cond.instanceMethod yX2_greatestPart) ∈ tb := tb_in (List.mem_of_getElem? (i := 567) (by decide +kernel)) (by decide +kernel)
theorem ws_X2_greatestPart : (Cond.selects RX2 yX2_greatestPart yX2_greatestPart) ∈ tb := tb_in (List.mem_of_getElem? (i := 568) (by decide +kernel)) (by decide +kernel)
theorem wc_X2_greatestPart : (Cond.code yX2_greatestPart cX2_greatestPart 11 (some .int)) ∈ tb := tb_in (List.mem_of_getElem? (i := 569) (by decide +kernel)) (by decide +kernel)
theorem wk_X2_59 : (Cond.methodLink RX2 59 Lib.Math.max.name) ∈ tb := tb_in (List.mem_of_getElem? (i := 570) (by decide +kernel)) (by decide +kernel)
theorem wk_L_101 : (Cond.methodLink RL 101 yX5_mark) ∈ tb := tb_in (List.mem_of_getElem? (i := 571) (by decide +kernel)) (by decide +kernel)
theorem wi_X5_mark : (Cond.instanceMethod yX5_mark) ∈ tb := tb_in (List.mem_of_getElem? (i := 572) (by decide +kernel)) (by decide +kernel)
theorem ws_X5_mark : (Cond.selects RX5 yX5_mark yX5_mark) ∈ tb := tb_in (List.mem_of_getElem? (i := 573) (by decide +kernel)) (by decide +kernel)
theorem wc_X5_mark : (Cond.code yX5_mark cX5_mark 3 (some .int)) ∈ tb := tb_in (List.mem_of_getElem? (i := 574) (by decide +kernel)) (by decide +kernel)
theorem wk_X5_207 : (Cond.constant RX5 207 (-1000000)) ∈ tb := tb_in (List.mem_of_getElem? (i := 575) (by decide +kernel)) (by decide +kernel)
theorem wk_X5_208 : (Cond.methodLink RX5 208 yX5_markOfLock) ∈ tb := tb_in (List.mem_of_getElem? (i := 576) (by decide +kernel)) (by decide +kernel)
theorem wi_X5_markOfLock : (Cond.instanceMethod yX5_markOfLock) ∈ tb := tb_in (List.mem_of_getElem? (i := 578) (by decide +kernel)) (by decide +kernel)
theorem wc_X5_markOfLock : (Cond.code yX5_markOfLock cX5_markOfLock 2 (some .int)) ∈ tb := tb_in (List.mem_of_getElem? (i := 579) (by decide +kernel)) (by decide +kernel)
theorem wk_X5_211 : (Cond.methodLink RX5 211 yX5_markOfBrass) ∈ tb := tb_in (List.mem_of_getElem? (i := 580) (by decide +kernel)) (by decide +kernel)
theorem wi_X5_markOfBrass : (Cond.instanceMethod yX5_markOfBrass) ∈ tb := tb_in (List.mem_of_getElem? (i := 582) (by decide +kernel)) (by decide +kernel)
theorem wc_X5_markOfBrass : (Cond.code yX5_markOfBrass cX5_markOfBrass 2 (some .int)) ∈ tb := tb_in (List.mem_of_getElem? (i := 583) (by decide +kernel)) (by decide +kernel)
theorem wk_X5_262 : (Cond.constantLong RX5 262 (10)) ∈ tb := tb_in (List.mem_of_getElem? (i := 584) (by decide +kernel)) (by decide +kernel)
theorem wk_X5_214 : (Cond.methodLink RX5 214 yX5_markOfRusty) ∈ tb := tb_in (List.mem_of_getElem? (i := 585) (by decide +kernel)) (by decide +kernel)
theorem wi_X5_markOfRusty : (Cond.instanceMethod yX5_markOfRusty) ∈ tb := tb_in (List.mem_of_getElem? (i := 587) (by decide +kernel)) (by decide +kernel)
theorem wc_X5_markOfRusty : (Cond.code yX5_markOfRusty cX5_markOfRusty 2 (some .int)) ∈ tb := tb_in (List.mem_of_getElem? (i := 588) (by decide +kernel)) (by decide +kernel)
theorem wk_X5_264 : (Cond.constantLong RX5 264 (100)) ∈ tb := tb_in (List.mem_of_getElem? (i := 589) (by decide +kernel)) (by decide +kernel)
theorem wk_X5_217 : (Cond.methodLink RX5 217 yX5_markOfDouble) ∈ tb := tb_in (List.mem_of_getElem? (i := 590) (by decide +kernel)) (by decide +kernel)
theorem wi_X5_markOfDouble : (Cond.instanceMethod yX5_markOfDouble) ∈ tb := tb_in (List.mem_of_getElem? (i := 592) (by decide +kernel)) (by decide +kernel)
theorem wc_X5_markOfDouble : (Cond.code yX5_markOfDouble cX5_markOfDouble 2 (some .int)) ∈ tb := tb_in (List.mem_of_getElem? (i := 593) (by decide +kernel)) (by decide +kernel)
theorem wk_X5_266 : (Cond.constantLong RX5 266 (1000)) ∈ tb := tb_in (List.mem_of_getElem? (i := 594) (by decide +kernel)) (by decide +kernel)
theorem wk_X5_220 : (Cond.methodLink RX5 220 yX5_markOfSeized) ∈ tb := tb_in (List.mem_of_getElem? (i := 595) (by decide +kernel)) (by decide +kernel)
theorem wi_X5_markOfSeized : (Cond.instanceMethod yX5_markOfSeized) ∈ tb := tb_in (List.mem_of_getElem? (i := 597) (by decide +kernel)) (by decide +kernel)
theorem wc_X5_markOfSeized : (Cond.code yX5_markOfSeized cX5_markOfSeized 2 (some .int)) ∈ tb := tb_in (List.mem_of_getElem? (i := 598) (by decide +kernel)) (by decide +kernel)
theorem wk_X5_268 : (Cond.constantLong RX5 268 (10000)) ∈ tb := tb_in (List.mem_of_getElem? (i := 599) (by decide +kernel)) (by decide +kernel)
theorem wk_X5_223 : (Cond.methodLink RX5 223 yX5_markOfPainted) ∈ tb := tb_in (List.mem_of_getElem? (i := 600) (by decide +kernel)) (by decide +kernel)
theorem wi_X5_markOfPainted : (Cond.instanceMethod yX5_markOfPainted) ∈ tb := tb_in (List.mem_of_getElem? (i := 602) (by decide +kernel)) (by decide +kernel)
theorem wc_X5_markOfPainted : (Cond.code yX5_markOfPainted cX5_markOfPainted 2 (some .int)) ∈ tb := tb_in (List.mem_of_getElem? (i := 603) (by decide +kernel)) (by decide +kernel)
theorem wk_X5_270 : (Cond.constantLong RX5 270 (100000)) ∈ tb := tb_in (List.mem_of_getElem? (i := 604) (by decide +kernel)) (by decide +kernel)
theorem wk_L_105 : (Cond.methodLink RL 105 yX5_keep) ∈ tb := tb_in (List.mem_of_getElem? (i := 605) (by decide +kernel)) (by decide +kernel)
theorem wi_X5_keep : (Cond.instanceMethod yX5_keep) ∈ tb := tb_in (List.mem_of_getElem? (i := 606) (by decide +kernel)) (by decide +kernel)
theorem ws_X5_keep : (Cond.selects RX5 yX5_keep yX5_keep) ∈ tb := tb_in (List.mem_of_getElem? (i := 607) (by decide +kernel)) (by decide +kernel)
theorem wc_X5_keep : (Cond.code yX5_keep cX5_keep 2 (some .int)) ∈ tb := tb_in (List.mem_of_getElem? (i := 608) (by decide +kernel)) (by decide +kernel)
theorem wk_X5_226 : (Cond.methodLink RX5 226 yX5_isImage) ∈ tb := tb_in (List.mem_of_getElem? (i := 609) (by decide +kernel)) (by decide +kernel)
theorem wt_X5_isImage : (Cond.static yX5_isImage) ∈ tb := tb_in (List.mem_of_getElem? (i := 610) (by decide +kernel)) (by decide +kernel)
theorem wc_X5_isImage : (Cond.code yX5_isImage cX5_isImage 1 (some .boolean)) ∈ tb := tb_in (List.mem_of_getElem? (i := 611) (by decide +kernel)) (by decide +kernel)
theorem wk_X5_229 : (Cond.methodLink RX5 229 yX0_copyFrom) ∈ tb := tb_in (List.mem_of_getElem? (i := 612) (by decide +kernel)) (by decide +kernel)
theorem wi_X0_copyFrom : (Cond.instanceMethod yX0_copyFrom) ∈ tb := tb_in (List.mem_of_getElem? (i := 613) (by decide +kernel)) (by decide +kernel)
theorem ws_X0_copyFrom : (Cond.selects RX0 yX0_copyFrom yX0_copyFrom) ∈ tb := tb_in (List.mem_of_getElem? (i := 614) (by decide +kernel)) (by decide +kernel)
theorem wc_X0_copyFrom : (Cond.code yX0_copyFrom cX0_copyFrom 3 none) ∈ tb := tb_in (List.mem_of_getElem? (i := 615) (by decide +kernel)) (by decide +kernel)
theorem wk_L_109 : (Cond.methodLink RL 109 yX5_back) ∈ tb := tb_in (List.mem_of_getElem? (i := 616) (by decide +kernel)) (by decide +kernel)
theorem wi_X5_back : (Cond.instanceMethod yX5_back) ∈ tb := tb_in (List.mem_of_getElem? (i := 617) (by decide +kernel)) (by decide +kernel)
theorem ws_X5_back : (Cond.selects RX5 yX5_back yX5_back) ∈ tb := tb_in (List.mem_of_getElem? (i := 618) (by decide +kernel)) (by decide +kernel)
theorem wc_X5_back : (Cond.code yX5_back cX5_back 2 (some .int)) ∈ tb := tb_in (List.mem_of_getElem? (i := 619) (by decide +kernel)) (by decide +kernel)
theorem wk_L_113 : (Cond.methodLink RL 113 yX5_count) ∈ tb := tb_in (List.mem_of_getElem? (i := 620) (by decide +kernel)) (by decide +kernel)
theorem wi_X5_count : (Cond.instanceMethod yX5_count) ∈ tb := tb_in (List.mem_of_getElem? (i := 621) (by decide +kernel)) (by decide +kernel)
theorem ws_X5_count : (Cond.selects RX5 yX5_count yX5_count) ∈ tb := tb_in (List.mem_of_getElem? (i := 622) (by decide +kernel)) (by decide +kernel)
theorem wc_X5_count : (Cond.code yX5_count cX5_count 2 (some .int)) ∈ tb := tb_in (List.mem_of_getElem? (i := 623) (by decide +kernel)) (by decide +kernel)
theorem wk_L_117 : (Cond.methodLink RL 117 yX5_trace) ∈ tb := tb_in (List.mem_of_getElem? (i := 624) (by decide +kernel)) (by decide +kernel)
theorem wi_X5_trace : (Cond.instanceMethod yX5_trace) ∈ tb := tb_in (List.mem_of_getElem? (i := 625) (by decide +kernel)) (by decide +kernel)
theorem ws_X5_trace : (Cond.selects RX5 yX5_trace yX5_trace) ∈ tb := tb_in (List.mem_of_getElem? (i := 626) (by decide +kernel)) (by decide +kernel)
theorem wc_X5_trace : (Cond.code yX5_trace cX5_trace 1 (some .long)) ∈ tb := tb_in (List.mem_of_getElem? (i := 627) (by decide +kernel)) (by decide +kernel)
theorem wk_L_10 : (Cond.classLink RL 10 RX6) ∈ tb := tb_in (List.mem_of_getElem? (i := 628) (by decide +kernel)) (by decide +kernel)
theorem wq_X6 : (Cond.instantiable RX6 26) ∈ tb := tb_in (List.mem_of_getElem? (i := 629) (by decide +kernel)) (by decide +kernel)
theorem wk_L_12 : (Cond.methodLink RL 12 yX6_init) ∈ tb := tb_in (List.mem_of_getElem? (i := 630) (by decide +kernel)) (by decide +kernel)
theorem wi_X6_init : (Cond.instanceMethod yX6_init) ∈ tb := tb_in (List.mem_of_getElem? (i := 631) (by decide +kernel)) (by decide +kernel)
theorem wc_X6_init : (Cond.code yX6_init cX6_init 1 none) ∈ tb := tb_in (List.mem_of_getElem? (i := 632) (by decide +kernel)) (by decide +kernel)
theorem wk_X6_1 : (Cond.methodLink RX6 1 objectInit) ∈ tb := tb_in (List.mem_of_getElem? (i := 633) (by decide +kernel)) (by decide +kernel)
theorem wk_X6_7 : (Cond.fieldLink RX6 7 "GateChainModel" "persons" "I") ∈ tb := tb_in (List.mem_of_getElem? (i := 634) (by decide +kernel)) (by decide +kernel)
theorem wk_X6_109 : (Cond.fieldLink RX6 109 "GateChainModel" "locks" "I") ∈ tb := tb_in (List.mem_of_getElem? (i := 635) (by decide +kernel)) (by decide +kernel)
theorem wk_X6_13 : (Cond.fieldLink RX6 13 "GateChainModel" "friends" "[I") ∈ tb := tb_in (List.mem_of_getElem? (i := 636) (by decide +kernel)) (by decide +kernel)
theorem wk_X6_95 : (Cond.fieldLink RX6 95 "GateChainModel" "readPersons" "I") ∈ tb := tb_in (List.mem_of_getElem? (i := 637) (by decide +kernel)) (by decide +kernel)
theorem wk_X6_102 : (Cond.fieldLink RX6 102 "GateChainModel" "readLocks" "I") ∈ tb := tb_in (List.mem_of_getElem? (i := 638) (by decide +kernel)) (by decide +kernel)
theorem wk_X6_17 : (Cond.fieldLink RX6 17 "GateChainModel" "readFriends" "[I") ∈ tb := tb_in (List.mem_of_getElem? (i := 639) (by decide +kernel)) (by decide +kernel)
theorem wk_X6_20 : (Cond.fieldLink RX6 20 "GateChainModel" "readRow" "[I") ∈ tb := tb_in (List.mem_of_getElem? (i := 640) (by decide +kernel)) (by decide +kernel)
theorem wk_X6_23 : (Cond.fieldLink RX6 23 "GateChainModel" "now" "[I") ∈ tb := tb_in (List.mem_of_getElem? (i := 641) (by decide +kernel)) (by decide +kernel)
theorem wk_X6_26 : (Cond.fieldLink RX6 26 "GateChainModel" "before" "[I") ∈ tb := tb_in (List.mem_of_getElem? (i := 642) (by decide +kernel)) (by decide +kernel)
theorem wk_X6_112 : (Cond.fieldLink RX6 112 "GateChainModel" "undoMany" "I") ∈ tb := tb_in (List.mem_of_getElem? (i := 643) (by decide +kernel)) (by decide +kernel)
theorem wk_X6_115 : (Cond.fieldLink RX6 115 "GateChainModel" "imaged" "I") ∈ tb := tb_in (List.mem_of_getElem? (i := 644) (by decide +kernel)) (by decide +kernel)
theorem wk_X6_29 : (Cond.fieldLink RX6 29 "GateChainModel" "imageRow" "[I") ∈ tb := tb_in (List.mem_of_getElem? (i := 645) (by decide +kernel)) (by decide +kernel)
theorem wk_X6_32 : (Cond.fieldLink RX6 32 "GateChainModel" "imageMany" "[I") ∈ tb := tb_in (List.mem_of_getElem? (i := 646) (by decide +kernel)) (by decide +kernel)
theorem wk_X6_35 : (Cond.fieldLink RX6 35 "GateChainModel" "imageBefore" "[I") ∈ tb := tb_in (List.mem_of_getElem? (i := 647) (by decide +kernel)) (by decide +kernel)
theorem wk_X6_59 : (Cond.fieldLink RX6 59 "GateChainModel" "length" "I") ∈ tb := tb_in (List.mem_of_getElem? (i := 648) (by decide +kernel)) (by decide +kernel)
theorem wk_X6_38 : (Cond.fieldLink RX6 38 "GateChainModel" "text" "[I") ∈ tb := tb_in (List.mem_of_getElem? (i := 649) (by decide +kernel)) (by decide +kernel)
theorem wk_X6_118 : (Cond.fieldLink RX6 118 "GateChainModel" "heardMany" "I") ∈ tb := tb_in (List.mem_of_getElem? (i := 650) (by decide +kernel)) (by decide +kernel)
theorem wk_X6_41 : (Cond.fieldLink RX6 41 "GateChainModel" "heardBy" "[I") ∈ tb := tb_in (List.mem_of_getElem? (i := 651) (by decide +kernel)) (by decide +kernel)
theorem wk_X6_44 : (Cond.fieldLink RX6 44 "GateChainModel" "heardRight" "[I") ∈ tb := tb_in (List.mem_of_getElem? (i := 652) (by decide +kernel)) (by decide +kernel)
theorem wk_X6_195 : (Cond.fieldLink RX6 195 "GateChainModel" "trace" "J") ∈ tb := tb_in (List.mem_of_getElem? (i := 653) (by decide +kernel)) (by decide +kernel)
theorem wk_X6_70 : (Cond.fieldLink RX6 70 "GateChainModel" "spot" "I") ∈ tb := tb_in (List.mem_of_getElem? (i := 654) (by decide +kernel)) (by decide +kernel)
theorem wk_X6_73 : (Cond.fieldLink RX6 73 "GateChainModel" "begins" "I") ∈ tb := tb_in (List.mem_of_getElem? (i := 655) (by decide +kernel)) (by decide +kernel)
theorem wk_X6_76 : (Cond.fieldLink RX6 76 "GateChainModel" "token" "I") ∈ tb := tb_in (List.mem_of_getElem? (i := 656) (by decide +kernel)) (by decide +kernel)
theorem wk_X6_79 : (Cond.fieldLink RX6 79 "GateChainModel" "value" "I") ∈ tb := tb_in (List.mem_of_getElem? (i := 657) (by decide +kernel)) (by decide +kernel)
theorem wk_X6_47 : (Cond.fieldLink RX6 47 "GateChainModel" "fitting" "[I") ∈ tb := tb_in (List.mem_of_getElem? (i := 658) (by decide +kernel)) (by decide +kernel)
theorem wk_X6_50 : (Cond.fieldLink RX6 50 "GateChainModel" "parts" "[I") ∈ tb := tb_in (List.mem_of_getElem? (i := 659) (by decide +kernel)) (by decide +kernel)
theorem wk_L_17 : (Cond.methodLink RL 17 yX6_type) ∈ tb := tb_in (List.mem_of_getElem? (i := 713) (by decide +kernel)) (by decide +kernel)
theorem wi_X6_type : (Cond.instanceMethod yX6_type) ∈ tb := tb_in (List.mem_of_getElem? (i := 714) (by decide +kernel)) (by decide +kernel)
theorem ws_X6_type : (Cond.selects RX6 yX6_type yX6_type) ∈ tb := tb_in (List.mem_of_getElem? (i := 715) (by decide +kernel)) (by decide +kernel)
theorem wc_X6_type : (Cond.code yX6_type cX6_type 2 (some .int)) ∈ tb := tb_in (List.mem_of_getElem? (i := 716) (by decide +kernel)) (by decide +kernel)
theorem wk_X6_53 : (Cond.constantLong RX6 53 (255)) ∈ tb := tb_in (List.mem_of_getElem? (i := 717) (by decide +kernel)) (by decide +kernel)
theorem wk_X6_55 : (Cond.methodLink RX6 55 yX6_in) ∈ tb := tb_in (List.mem_of_getElem? (i := 718) (by decide +kernel)) (by decide +kernel)
theorem wt_X6_in : (Cond.static yX6_in) ∈ tb := tb_in (List.mem_of_getElem? (i := 719) (by decide +kernel)) (by decide +kernel)
theorem wc_X6_in : (Cond.code yX6_in cX6_in 6 (some .boolean)) ∈ tb := tb_in (List.mem_of_getElem? (i := 720) (by decide +kernel)) (by decide +kernel)
theorem wk_L_22 : (Cond.methodLink RL 22 yX6_clear) ∈ tb := tb_in (List.mem_of_getElem? (i := 721) (by decide +kernel)) (by decide +kernel)
theorem wi_X6_clear : (Cond.instanceMethod yX6_clear) ∈ tb := tb_in (List.mem_of_getElem? (i := 722) (by decide +kernel)) (by decide +kernel)
theorem ws_X6_clear : (Cond.selects RX6 yX6_clear yX6_clear) ∈ tb := tb_in (List.mem_of_getElem? (i := 723) (by decide +kernel)) (by decide +kernel)
theorem wc_X6_clear : (Cond.code yX6_clear cX6_clear 2 (some .int)) ∈ tb := tb_in (List.mem_of_getElem? (i := 724) (by decide +kernel)) (by decide +kernel)
theorem wk_L_26 : (Cond.methodLink RL 26 yX6_gate) ∈ tb := tb_in (List.mem_of_getElem? (i := 725) (by decide +kernel)) (by decide +kernel)
theorem wi_X6_gate : (Cond.instanceMethod yX6_gate) ∈ tb := tb_in (List.mem_of_getElem? (i := 726) (by decide +kernel)) (by decide +kernel)
theorem ws_X6_gate : (Cond.selects RX6 yX6_gate yX6_gate) ∈ tb := tb_in (List.mem_of_getElem? (i := 727) (by decide +kernel)) (by decide +kernel)
theorem wc_X6_gate : (Cond.code yX6_gate cX6_gate 3 (some .int)) ∈ tb := tb_in (List.mem_of_getElem? (i := 728) (by decide +kernel)) (by decide +kernel)
theorem wk_X6_89 : (Cond.methodLink RX6 89 yX6_next) ∈ tb := tb_in (List.mem_of_getElem? (i := 729) (by decide +kernel)) (by decide +kernel)
theorem wi_X6_next : (Cond.instanceMethod yX6_next) ∈ tb := tb_in (List.mem_of_getElem? (i := 731) (by decide +kernel)) (by decide +kernel)
theorem wc_X6_next : (Cond.code yX6_next cX6_next 2 none) ∈ tb := tb_in (List.mem_of_getElem? (i := 732) (by decide +kernel)) (by decide +kernel)
theorem wk_X6_82 : (Cond.methodLink RX6 82 yX6_isLetter) ∈ tb := tb_in (List.mem_of_getElem? (i := 733) (by decide +kernel)) (by decide +kernel)
theorem wt_X6_isLetter : (Cond.static yX6_isLetter) ∈ tb := tb_in (List.mem_of_getElem? (i := 734) (by decide +kernel)) (by decide +kernel)
theorem wc_X6_isLetter : (Cond.code yX6_isLetter cX6_isLetter 1 (some .boolean)) ∈ tb := tb_in (List.mem_of_getElem? (i := 735) (by decide +kernel)) (by decide +kernel)
theorem wk_X6_66 : (Cond.constantLong RX6 66 (97)) ∈ tb := tb_in (List.mem_of_getElem? (i := 736) (by decide +kernel)) (by decide +kernel)
theorem wk_X6_68 : (Cond.constantLong RX6 68 (122)) ∈ tb := tb_in (List.mem_of_getElem? (i := 737) (by decide +kernel)) (by decide +kernel)
theorem wk_X6_86 : (Cond.methodLink RX6 86 yX6_isFigure) ∈ tb := tb_in (List.mem_of_getElem? (i := 738) (by decide +kernel)) (by decide +kernel)
theorem wt_X6_isFigure : (Cond.static yX6_isFigure) ∈ tb := tb_in (List.mem_of_getElem? (i := 739) (by decide +kernel)) (by decide +kernel)
theorem wc_X6_isFigure : (Cond.code yX6_isFigure cX6_isFigure 1 (some .boolean)) ∈ tb := tb_in (List.mem_of_getElem? (i := 740) (by decide +kernel)) (by decide +kernel)
theorem wk_X6_62 : (Cond.constantLong RX6 62 (48)) ∈ tb := tb_in (List.mem_of_getElem? (i := 741) (by decide +kernel)) (by decide +kernel)
theorem wk_X6_64 : (Cond.constantLong RX6 64 (57)) ∈ tb := tb_in (List.mem_of_getElem? (i := 742) (by decide +kernel)) (by decide +kernel)
theorem wk_X6_105 : (Cond.methodLink RX6 105 yX6_item) ∈ tb := tb_in (List.mem_of_getElem? (i := 743) (by decide +kernel)) (by decide +kernel)
theorem wi_X6_item : (Cond.instanceMethod yX6_item) ∈ tb := tb_in (List.mem_of_getElem? (i := 745) (by decide +kernel)) (by decide +kernel)
theorem wc_X6_item : (Cond.code yX6_item cX6_item 4 (some .boolean)) ∈ tb := tb_in (List.mem_of_getElem? (i := 746) (by decide +kernel)) (by decide +kernel)
theorem wk_X6_92 : (Cond.methodLink RX6 92 yX6_isNumber) ∈ tb := tb_in (List.mem_of_getElem? (i := 747) (by decide +kernel)) (by decide +kernel)
theorem wi_X6_isNumber : (Cond.instanceMethod yX6_isNumber) ∈ tb := tb_in (List.mem_of_getElem? (i := 749) (by decide +kernel)) (by decide +kernel)
theorem wc_X6_isNumber : (Cond.code yX6_isNumber cX6_isNumber 2 (some .boolean)) ∈ tb := tb_in (List.mem_of_getElem? (i := 750) (by decide +kernel)) (by decide +kernel)
theorem wk_X6_98 : (Cond.methodLink RX6 98 yX6_isEnd) ∈ tb := tb_in (List.mem_of_getElem? (i := 751) (by decide +kernel)) (by decide +kernel)
theorem wi_X6_isEnd : (Cond.instanceMethod yX6_isEnd) ∈ tb := tb_in (List.mem_of_getElem? (i := 753) (by decide +kernel)) (by decide +kernel)
theorem wc_X6_isEnd : (Cond.code yX6_isEnd cX6_isEnd 1 (some .boolean)) ∈ tb := tb_in (List.mem_of_getElem? (i := 754) (by decide +kernel)) (by decide +kernel)
theorem wk_L_31 : (Cond.methodLink RL 31 yX6_lock) ∈ tb := tb_in (List.mem_of_getElem? (i := 755) (by decide +kernel)) (by decide +kernel)
theorem wi_X6_lock : (Cond.instanceMethod yX6_lock) ∈ tb := tb_in (List.mem_of_getElem? (i := 756) (by decide +kernel)) (by decide +kernel)
theorem ws_X6_lock : (Cond.selects RX6 yX6_lock yX6_lock) ∈ tb := tb_in (List.mem_of_getElem? (i := 757) (by decide +kernel)) (by decide +kernel)
theorem wc_X6_lock : (Cond.code yX6_lock cX6_lock 3 (some .int)) ∈ tb := tb_in (List.mem_of_getElem? (i := 758) (by decide +kernel)) (by decide +kernel)
theorem wk_X6_149 : (Cond.methodLink RX6 149 yX6_isLock) ∈ tb := tb_in (List.mem_of_getElem? (i := 759) (by decide +kernel)) (by decide +kernel)
theorem wi_X6_isLock : (Cond.instanceMethod yX6_isLock) ∈ tb := tb_in (List.mem_of_getElem? (i := 761) (by decide +kernel)) (by decide +kernel)
theorem wc_X6_isLock : (Cond.code yX6_isLock cX6_isLock 2 (some .boolean)) ∈ tb := tb_in (List.mem_of_getElem? (i := 762) (by decide +kernel)) (by decide +kernel)
theorem wk_X6_152 : (Cond.methodLink RX6 152 yX6_knowers) ∈ tb := tb_in (List.mem_of_getElem? (i := 763) (by decide +kernel)) (by decide +kernel)
theorem wi_X6_knowers : (Cond.instanceMethod yX6_knowers) ∈ tb := tb_in (List.mem_of_getElem? (i := 765) (by decide +kernel)) (by decide +kernel)
theorem wc_X6_knowers : (Cond.code yX6_knowers cX6_knowers 4 (some .int)) ∈ tb := tb_in (List.mem_of_getElem? (i := 766) (by decide +kernel)) (by decide +kernel)
theorem wk_X6_125 : (Cond.methodLink RX6 125 yX6_has) ∈ tb := tb_in (List.mem_of_getElem? (i := 767) (by decide +kernel)) (by decide +kernel)
theorem wt_X6_has : (Cond.static yX6_has) ∈ tb := tb_in (List.mem_of_getElem? (i := 768) (by decide +kernel)) (by decide +kernel)
theorem wc_X6_has : (Cond.code yX6_has cX6_has 2 (some .boolean)) ∈ tb := tb_in (List.mem_of_getElem? (i := 769) (by decide +kernel)) (by decide +kernel)
theorem wk_X6_129 : (Cond.methodLink RX6 129 yX6_isRing) ∈ tb := tb_in (List.mem_of_getElem? (i := 770) (by decide +kernel)) (by decide +kernel)
theorem wi_X6_isRing : (Cond.instanceMethod yX6_isRing) ∈ tb := tb_in (List.mem_of_getElem? (i := 772) (by decide +kernel)) (by decide +kernel)
theorem wc_X6_isRing : (Cond.code yX6_isRing cX6_isRing 2 (some .boolean)) ∈ tb := tb_in (List.mem_of_getElem? (i := 773) (by decide +kernel)) (by decide +kernel)
theorem wk_X6_121 : (Cond.methodLink RX6 121 yX6_placeOf) ∈ tb := tb_in (List.mem_of_getElem? (i := 774) (by decide +kernel)) (by decide +kernel)
theorem wi_X6_placeOf : (Cond.instanceMethod yX6_placeOf) ∈ tb := tb_in (List.mem_of_getElem? (i := 776) (by decide +kernel)) (by decide +kernel)
theorem wc_X6_placeOf : (Cond.code yX6_placeOf cX6_placeOf 4 (some .int)) ∈ tb := tb_in (List.mem_of_getElem? (i := 777) (by decide +kernel)) (by decide +kernel)
theorem wk_X6_155 : (Cond.methodLink RX6 155 yX6_stepsOf) ∈ tb := tb_in (List.mem_of_getElem? (i := 778) (by decide +kernel)) (by decide +kernel)
theorem wt_X6_stepsOf : (Cond.static yX6_stepsOf) ∈ tb := tb_in (List.mem_of_getElem? (i := 779) (by decide +kernel)) (by decide +kernel)
theorem wc_X6_stepsOf : (Cond.code yX6_stepsOf cX6_stepsOf 5 (some .int)) ∈ tb := tb_in (List.mem_of_getElem? (i := 780) (by decide +kernel)) (by decide +kernel)
theorem wk_X6_145 : (Cond.methodLink RX6 145 yX6_figure) ∈ tb := tb_in (List.mem_of_getElem? (i := 781) (by decide +kernel)) (by decide +kernel)
theorem wt_X6_figure : (Cond.static yX6_figure) ∈ tb := tb_in (List.mem_of_getElem? (i := 782) (by decide +kernel)) (by decide +kernel)
theorem wc_X6_figure : (Cond.code yX6_figure cX6_figure 2 (some .int)) ∈ tb := tb_in (List.mem_of_getElem? (i := 783) (by decide +kernel)) (by decide +kernel)
theorem wk_L_35 : (Cond.methodLink RL 35 yX6_person) ∈ tb := tb_in (List.mem_of_getElem? (i := 784) (by decide +kernel)) (by decide +kernel)
theorem wi_X6_person : (Cond.instanceMethod yX6_person) ∈ tb := tb_in (List.mem_of_getElem? (i := 785) (by decide +kernel)) (by decide +kernel)
theorem ws_X6_person : (Cond.selects RX6 yX6_person yX6_person) ∈ tb := tb_in (List.mem_of_getElem? (i := 786) (by decide +kernel)) (by decide +kernel)
theorem wc_X6_person : (Cond.code yX6_person cX6_person 3 (some .int)) ∈ tb := tb_in (List.mem_of_getElem? (i := 787) (by decide +kernel)) (by decide +kernel)
theorem wk_X6_158 : (Cond.methodLink RX6 158 yX6_isOne) ∈ tb := tb_in (List.mem_of_getElem? (i := 788) (by decide +kernel)) (by decide +kernel)
theorem wi_X6_isOne : (Cond.instanceMethod yX6_isOne) ∈ tb := tb_in (List.mem_of_getElem? (i := 790) (by decide +kernel)) (by decide +kernel)
theorem wc_X6_isOne : (Cond.code yX6_isOne cX6_isOne 2 (some .boolean)) ∈ tb := tb_in (List.mem_of_getElem? (i := 791) (by decide +kernel)) (by decide +kernel)
theorem wk_X6_135 : (Cond.methodLink RX6 135 yX6_ring) ∈ tb := tb_in (List.mem_of_getElem? (i := 792) (by decide +kernel)) (by decide +kernel)
theorem wi_X6_ring : (Cond.instanceMethod yX6_ring) ∈ tb := tb_in (List.mem_of_getElem? (i := 794) (by decide +kernel)) (by decide +kernel)
theorem wc_X6_ring : (Cond.code yX6_ring cX6_ring 3 (some .int)) ∈ tb := tb_in (List.mem_of_getElem? (i := 795) (by decide +kernel)) (by decide +kernel)
theorem wk_X6_139 : (Cond.methodLink RX6 139 yX6_getsIn) ∈ tb := tb_in (List.mem_of_getElem? (i := 796) (by decide +kernel)) (by decide +kernel)
theorem wi_X6_getsIn : (Cond.instanceMethod yX6_getsIn) ∈ tb := tb_in (List.mem_of_getElem? (i := 798) (by decide +kernel)) (by decide +kernel)
theorem wc_X6_getsIn : (Cond.code yX6_getsIn cX6_getsIn 4 (some .int)) ∈ tb := tb_in (List.mem_of_getElem? (i := 799) (by decide +kernel)) (by decide +kernel)
theorem wk_X6_161 : (Cond.methodLink RX6 161 yX6_roundsOf) ∈ tb := tb_in (List.mem_of_getElem? (i := 800) (by decide +kernel)) (by decide +kernel)
theorem wi_X6_roundsOf : (Cond.instanceMethod yX6_roundsOf) ∈ tb := tb_in (List.mem_of_getElem? (i := 802) (by decide +kernel)) (by decide +kernel)
theorem wc_X6_roundsOf : (Cond.code yX6_roundsOf cX6_roundsOf 6 (some .int)) ∈ tb := tb_in (List.mem_of_getElem? (i := 803) (by decide +kernel)) (by decide +kernel)
theorem wk_L_39 : (Cond.methodLink RL 39 yX6_opens) ∈ tb := tb_in (List.mem_of_getElem? (i := 804) (by decide +kernel)) (by decide +kernel)
theorem wi_X6_opens : (Cond.instanceMethod yX6_opens) ∈ tb := tb_in (List.mem_of_getElem? (i := 805) (by decide +kernel)) (by decide +kernel)
theorem ws_X6_opens : (Cond.selects RX6 yX6_opens yX6_opens) ∈ tb := tb_in (List.mem_of_getElem? (i := 806) (by decide +kernel)) (by decide +kernel)
theorem wc_X6_opens : (Cond.code yX6_opens cX6_opens 3 (some .int)) ∈ tb := tb_in (List.mem_of_getElem? (i := 807) (by decide +kernel)) (by decide +kernel)
theorem wk_X6_164 : (Cond.methodLink RX6 164 yX6_note) ∈ tb := tb_in (List.mem_of_getElem? (i := 808) (by decide +kernel)) (by decide +kernel)
theorem wi_X6_note : (Cond.instanceMethod yX6_note) ∈ tb := tb_in (List.mem_of_getElem? (i := 810) (by decide +kernel)) (by decide +kernel)
theorem wc_X6_note : (Cond.code yX6_note cX6_note 2 none) ∈ tb := tb_in (List.mem_of_getElem? (i := 811) (by decide +kernel)) (by decide +kernel)
theorem wk_L_43 : (Cond.methodLink RL 43 yX6_shuts) ∈ tb := tb_in (List.mem_of_getElem? (i := 812) (by decide +kernel)) (by decide +kernel)
theorem wi_X6_shuts : (Cond.instanceMethod yX6_shuts) ∈ tb := tb_in (List.mem_of_getElem? (i := 813) (by decide +kernel)) (by decide +kernel)
theorem ws_X6_shuts : (Cond.selects RX6 yX6_shuts yX6_shuts) ∈ tb := tb_in (List.mem_of_getElem? (i := 814) (by decide +kernel)) (by decide +kernel)
theorem wc_X6_shuts : (Cond.code yX6_shuts cX6_shuts 7 (some .int)) ∈ tb := tb_in (List.mem_of_getElem? (i := 815) (by decide +kernel)) (by decide +kernel)
theorem wk_X6_167 : (Cond.constantLong RX6 167 (999)) ∈ tb := tb_in (List.mem_of_getElem? (i := 816) (by decide +kernel)) (by decide +kernel)
theorem wk_X6_132 : (Cond.methodLink RX6 132 yX6_canShut) ∈ tb := tb_in (List.mem_of_getElem? (i := 817) (by decide +kernel)) (by decide +kernel)
theorem wi_X6_canShut : (Cond.instanceMethod yX6_canShut) ∈ tb := tb_in (List.mem_of_getElem? (i := 819) (by decide +kernel)) (by decide +kernel)
theorem wc_X6_canShut : (Cond.code yX6_canShut cX6_canShut 2 (some .boolean)) ∈ tb := tb_in (List.mem_of_getElem? (i := 820) (by decide +kernel)) (by decide +kernel)
theorem wk_X6_142 : (Cond.methodLink RX6 142 yX6_besideBy) ∈ tb := tb_in (List.mem_of_getElem? (i := 821) (by decide +kernel)) (by decide +kernel)
theorem wi_X6_besideBy : (Cond.instanceMethod yX6_besideBy) ∈ tb := tb_in (List.mem_of_getElem? (i := 823) (by decide +kernel)) (by decide +kernel)
theorem wc_X6_besideBy : (Cond.code yX6_besideBy cX6_besideBy 6 (some .int)) ∈ tb := tb_in (List.mem_of_getElem? (i := 824) (by decide +kernel)) (by decide +kernel)
theorem wk_X6_169 : (Cond.methodLink RX6 169 yX6_ones) ∈ tb := tb_in (List.mem_of_getElem? (i := 825) (by decide +kernel)) (by decide +kernel)
theorem wt_X6_ones : (Cond.static yX6_ones) ∈ tb := tb_in (List.mem_of_getElem? (i := 826) (by decide +kernel)) (by decide +kernel)
theorem wc_X6_ones : (Cond.code yX6_ones cX6_ones 3 (some .int)) ∈ tb := tb_in (List.mem_of_getElem? (i := 827) (by decide +kernel)) (by decide +kernel)
theorem wk_L_47 : (Cond.methodLink RL 47 yX6_hangs) ∈ tb := tb_in (List.mem_of_getElem? (i := 828) (by decide +kernel)) (by decide +kernel)
theorem wi_X6_hangs : (Cond.instanceMethod yX6_hangs) ∈ tb := tb_in (List.mem_of_getElem? (i := 829) (by decide +kernel)) (by decide +kernel)
theorem ws_X6_hangs : (Cond.selects RX6 yX6_hangs yX6_hangs) ∈ tb := tb_in (List.mem_of_getElem? (i := 830) (by decide +kernel)) (by decide +kernel)
theorem wc_X6_hangs : (Cond.code yX6_hangs cX6_hangs 5 (some .int)) ∈ tb := tb_in (List.mem_of_getElem? (i := 831) (by decide +kernel)) (by decide +kernel)
theorem wk_L_52 : (Cond.methodLink RL 52 yX6_tells) ∈ tb := tb_in (List.mem_of_getElem? (i := 832) (by decide +kernel)) (by decide +kernel)
theorem wi_X6_tells : (Cond.instanceMethod yX6_tells) ∈ tb := tb_in (List.mem_of_getElem? (i := 833) (by decide +kernel)) (by decide +kernel)
theorem ws_X6_tells : (Cond.selects RX6 yX6_tells yX6_tells) ∈ tb := tb_in (List.mem_of_getElem? (i := 834) (by decide +kernel)) (by decide +kernel)
theorem wc_X6_tells : (Cond.code yX6_tells cX6_tells 4 (some .int)) ∈ tb := tb_in (List.mem_of_getElem? (i := 835) (by decide +kernel)) (by decide +kernel)
theorem wk_L_56 : (Cond.methodLink RL 56 yX6_changes) ∈ tb := tb_in (List.mem_of_getElem? (i := 836) (by decide +kernel)) (by decide +kernel)
theorem wi_X6_changes : (Cond.instanceMethod yX6_changes) ∈ tb := tb_in (List.mem_of_getElem? (i := 837) (by decide +kernel)) (by decide +kernel)
theorem ws_X6_changes : (Cond.selects RX6 yX6_changes yX6_changes) ∈ tb := tb_in (List.mem_of_getElem? (i := 838) (by decide +kernel)) (by decide +kernel)
theorem wc_X6_changes : (Cond.code yX6_changes cX6_changes 6 (some .int)) ∈ tb := tb_in (List.mem_of_getElem? (i := 839) (by decide +kernel)) (by decide +kernel)
theorem wk_L_60 : (Cond.methodLink RL 60 yX6_tries) ∈ tb := tb_in (List.mem_of_getElem? (i := 840) (by decide +kernel)) (by decide +kernel)
theorem wi_X6_tries : (Cond.instanceMethod yX6_tries) ∈ tb := tb_in (List.mem_of_getElem? (i := 841) (by decide +kernel)) (by decide +kernel)
theorem ws_X6_tries : (Cond.selects RX6 yX6_tries yX6_tries) ∈ tb := tb_in (List.mem_of_getElem? (i := 842) (by decide +kernel)) (by decide +kernel)
theorem wc_X6_tries : (Cond.code yX6_tries cX6_tries 4 (some .int)) ∈ tb := tb_in (List.mem_of_getElem? (i := 843) (by decide +kernel)) (by decide +kernel)
theorem wk_X6_172 : (Cond.methodLink RX6 172 yX6_rightOf) ∈ tb := tb_in (List.mem_of_getElem? (i := 844) (by decide +kernel)) (by decide +kernel)
theorem wt_X6_rightOf : (Cond.static yX6_rightOf) ∈ tb := tb_in (List.mem_of_getElem? (i := 845) (by decide +kernel)) (by decide +kernel)
theorem wc_X6_rightOf : (Cond.code yX6_rightOf cX6_rightOf 4 (some .int)) ∈ tb := tb_in (List.mem_of_getElem? (i := 846) (by decide +kernel)) (by decide +kernel)
theorem wk_L_64 : (Cond.methodLink RL 64 yX6_undo) ∈ tb := tb_in (List.mem_of_getElem? (i := 847) (by decide +kernel)) (by decide +kernel)
theorem wi_X6_undo : (Cond.instanceMethod yX6_undo) ∈ tb := tb_in (List.mem_of_getElem? (i := 848) (by decide +kernel)) (by decide +kernel)
theorem ws_X6_undo : (Cond.selects RX6 yX6_undo yX6_undo) ∈ tb := tb_in (List.mem_of_getElem? (i := 849) (by decide +kernel)) (by decide +kernel)
theorem wc_X6_undo : (Cond.code yX6_undo cX6_undo 2 (some .int)) ∈ tb := tb_in (List.mem_of_getElem? (i := 850) (by decide +kernel)) (by decide +kernel)
theorem wk_L_68 : (Cond.methodLink RL 68 yX6_now) ∈ tb := tb_in (List.mem_of_getElem? (i := 851) (by decide +kernel)) (by decide +kernel)
theorem wi_X6_now : (Cond.instanceMethod yX6_now) ∈ tb := tb_in (List.mem_of_getElem? (i := 852) (by decide +kernel)) (by decide +kernel)
theorem ws_X6_now : (Cond.selects RX6 yX6_now yX6_now) ∈ tb := tb_in (List.mem_of_getElem? (i := 853) (by decide +kernel)) (by decide +kernel)
theorem wc_X6_now : (Cond.code yX6_now cX6_now 2 (some .int)) ∈ tb := tb_in (List.mem_of_getElem? (i := 854) (by decide +kernel)) (by decide +kernel)
theorem wk_X6_178 : (Cond.methodLink RX6 178 yX6_worst) ∈ tb := tb_in (List.mem_of_getElem? (i := 855) (by decide +kernel)) (by decide +kernel)
theorem wi_X6_worst : (Cond.instanceMethod yX6_worst) ∈ tb := tb_in (List.mem_of_getElem? (i := 857) (by decide +kernel)) (by decide +kernel)
theorem wc_X6_worst : (Cond.code yX6_worst cX6_worst 5 (some .int)) ∈ tb := tb_in (List.mem_of_getElem? (i := 858) (by decide +kernel)) (by decide +kernel)
theorem wk_X6_175 : (Cond.methodLink RX6 175 yX6_leftBy) ∈ tb := tb_in (List.mem_of_getElem? (i := 859) (by decide +kernel)) (by decide +kernel)
theorem wi_X6_leftBy : (Cond.instanceMethod yX6_leftBy) ∈ tb := tb_in (List.mem_of_getElem? (i := 861) (by decide +kernel)) (by decide +kernel)
theorem wc_X6_leftBy : (Cond.code yX6_leftBy cX6_leftBy 2 (some .int)) ∈ tb := tb_in (List.mem_of_getElem? (i := 862) (by decide +kernel)) (by decide +kernel)
theorem wk_X6_181 : (Cond.methodLink RX6 181 yX6_greatestRounds) ∈ tb := tb_in (List.mem_of_getElem? (i := 863) (by decide +kernel)) (by decide +kernel)
theorem wi_X6_greatestRounds : (Cond.instanceMethod yX6_greatestRounds) ∈ tb := tb_in (List.mem_of_getElem? (i := 865) (by decide +kernel)) (by decide +kernel)
theorem wc_X6_greatestRounds : (Cond.code yX6_greatestRounds cX6_greatestRounds 4 (some .int)) ∈ tb := tb_in (List.mem_of_getElem? (i := 866) (by decide +kernel)) (by decide +kernel)
theorem wk_L_72 : (Cond.methodLink RL 72 yX6_left) ∈ tb := tb_in (List.mem_of_getElem? (i := 867) (by decide +kernel)) (by decide +kernel)
theorem wi_X6_left : (Cond.instanceMethod yX6_left) ∈ tb := tb_in (List.mem_of_getElem? (i := 868) (by decide +kernel)) (by decide +kernel)
theorem ws_X6_left : (Cond.selects RX6 yX6_left yX6_left) ∈ tb := tb_in (List.mem_of_getElem? (i := 869) (by decide +kernel)) (by decide +kernel)
theorem wc_X6_left : (Cond.code yX6_left cX6_left 2 (some .int)) ∈ tb := tb_in (List.mem_of_getElem? (i := 870) (by decide +kernel)) (by decide +kernel)
theorem wk_L_76 : (Cond.methodLink RL 76 yX6_jam) ∈ tb := tb_in (List.mem_of_getElem? (i := 871) (by decide +kernel)) (by decide +kernel)
theorem wi_X6_jam : (Cond.instanceMethod yX6_jam) ∈ tb := tb_in (List.mem_of_getElem? (i := 872) (by decide +kernel)) (by decide +kernel)
theorem ws_X6_jam : (Cond.selects RX6 yX6_jam yX6_jam) ∈ tb := tb_in (List.mem_of_getElem? (i := 873) (by decide +kernel)) (by decide +kernel)
theorem wc_X6_jam : (Cond.code yX6_jam cX6_jam 6 (some .int)) ∈ tb := tb_in (List.mem_of_getElem? (i := 874) (by decide +kernel)) (by decide +kernel)
theorem wk_X6_184 : (Cond.constantLong RX6 184 (7)) ∈ tb := tb_in (List.mem_of_getElem? (i := 875) (by decide +kernel)) (by decide +kernel)
theorem wk_L_80 : (Cond.methodLink RL 80 yX6_near) ∈ tb := tb_in (List.mem_of_getElem? (i := 876) (by decide +kernel)) (by decide +kernel)
theorem wi_X6_near : (Cond.instanceMethod yX6_near) ∈ tb := tb_in (List.mem_of_getElem? (i := 877) (by decide +kernel)) (by decide +kernel)
theorem ws_X6_near : (Cond.selects RX6 yX6_near yX6_near) ∈ tb := tb_in (List.mem_of_getElem? (i := 878) (by decide +kernel)) (by decide +kernel)
theorem wc_X6_near : (Cond.code yX6_near cX6_near 5 (some .int)) ∈ tb := tb_in (List.mem_of_getElem? (i := 879) (by decide +kernel)) (by decide +kernel)
theorem wk_X6_186 : (Cond.constantLong RX6 186 (15)) ∈ tb := tb_in (List.mem_of_getElem? (i := 880) (by decide +kernel)) (by decide +kernel)
theorem wk_L_84 : (Cond.methodLink RL 84 yX6_odds) ∈ tb := tb_in (List.mem_of_getElem? (i := 881) (by decide +kernel)) (by decide +kernel)
theorem wi_X6_odds : (Cond.instanceMethod yX6_odds) ∈ tb := tb_in (List.mem_of_getElem? (i := 882) (by decide +kernel)) (by decide +kernel)
theorem ws_X6_odds : (Cond.selects RX6 yX6_odds yX6_odds) ∈ tb := tb_in (List.mem_of_getElem? (i := 883) (by decide +kernel)) (by decide +kernel)
theorem wc_X6_odds : (Cond.code yX6_odds cX6_odds 9 (some .int)) ∈ tb := tb_in (List.mem_of_getElem? (i := 884) (by decide +kernel)) (by decide +kernel)
theorem wk_X6_188 : (Cond.constantLong RX6 188 (10)) ∈ tb := tb_in (List.mem_of_getElem? (i := 885) (by decide +kernel)) (by decide +kernel)
theorem wk_L_88 : (Cond.methodLink RL 88 yX6_hears) ∈ tb := tb_in (List.mem_of_getElem? (i := 886) (by decide +kernel)) (by decide +kernel)
theorem wi_X6_hears : (Cond.instanceMethod yX6_hears) ∈ tb := tb_in (List.mem_of_getElem? (i := 887) (by decide +kernel)) (by decide +kernel)
theorem ws_X6_hears : (Cond.selects RX6 yX6_hears yX6_hears) ∈ tb := tb_in (List.mem_of_getElem? (i := 888) (by decide +kernel)) (by decide +kernel)
theorem wc_X6_hears : (Cond.code yX6_hears cX6_hears 3 (some .int)) ∈ tb := tb_in (List.mem_of_getElem? (i := 889) (by decide +kernel)) (by decide +kernel)
theorem wk_X6_190 : (Cond.constantLong RX6 190 (3)) ∈ tb := tb_in (List.mem_of_getElem? (i := 890) (by decide +kernel)) (by decide +kernel)
theorem wk_L_92 : (Cond.methodLink RL 92 yX6_forget) ∈ tb := tb_in (List.mem_of_getElem? (i := 891) (by decide +kernel)) (by decide +kernel)
theorem wi_X6_forget : (Cond.instanceMethod yX6_forget) ∈ tb := tb_in (List.mem_of_getElem? (i := 892) (by decide +kernel)) (by decide +kernel)
theorem ws_X6_forget : (Cond.selects RX6 yX6_forget yX6_forget) ∈ tb := tb_in (List.mem_of_getElem? (i := 893) (by decide +kernel)) (by decide +kernel)
theorem wc_X6_forget : (Cond.code yX6_forget cX6_forget 2 (some .int)) ∈ tb := tb_in (List.mem_of_getElem? (i := 894) (by decide +kernel)) (by decide +kernel)
theorem wk_L_96 : (Cond.methodLink RL 96 yX6_codes) ∈ tb := tb_in (List.mem_of_getElem? (i := 895) (by decide +kernel)) (by decide +kernel)
theorem wi_X6_codes : (Cond.instanceMethod yX6_codes) ∈ tb := tb_in (List.mem_of_getElem? (i := 896) (by decide +kernel)) (by decide +kernel)
theorem ws_X6_codes : (Cond.selects RX6 yX6_codes yX6_codes) ∈ tb := tb_in (List.mem_of_getElem? (i := 897) (by decide +kernel)) (by decide +kernel)
theorem wc_X6_codes : (Cond.code yX6_codes cX6_codes 6 (some .int)) ∈ tb := tb_in (List.mem_of_getElem? (i := 898) (by decide +kernel)) (by decide +kernel)
theorem wk_X6_192 : (Cond.methodLink RX6 192 yX6_fits) ∈ tb := tb_in (List.mem_of_getElem? (i := 899) (by decide +kernel)) (by decide +kernel)
theorem wi_X6_fits : (Cond.instanceMethod yX6_fits) ∈ tb := tb_in (List.mem_of_getElem? (i := 901) (by decide +kernel)) (by decide +kernel)
theorem wc_X6_fits : (Cond.code yX6_fits cX6_fits 4 (some .boolean)) ∈ tb := tb_in (List.mem_of_getElem? (i := 902) (by decide +kernel)) (by decide +kernel)
theorem wk_L_100 : (Cond.methodLink RL 100 yX6_ask) ∈ tb := tb_in (List.mem_of_getElem? (i := 903) (by decide +kernel)) (by decide +kernel)
theorem wi_X6_ask : (Cond.instanceMethod yX6_ask) ∈ tb := tb_in (List.mem_of_getElem? (i := 904) (by decide +kernel)) (by decide +kernel)
theorem ws_X6_ask : (Cond.selects RX6 yX6_ask yX6_ask) ∈ tb := tb_in (List.mem_of_getElem? (i := 905) (by decide +kernel)) (by decide +kernel)
theorem wc_X6_ask : (Cond.code yX6_ask cX6_ask 8 (some .int)) ∈ tb := tb_in (List.mem_of_getElem? (i := 906) (by decide +kernel)) (by decide +kernel)
theorem wk_L_104 : (Cond.methodLink RL 104 yX6_mark) ∈ tb := tb_in (List.mem_of_getElem? (i := 907) (by decide +kernel)) (by decide +kernel)
theorem wi_X6_mark : (Cond.instanceMethod yX6_mark) ∈ tb := tb_in (List.mem_of_getElem? (i := 908) (by decide +kernel)) (by decide +kernel)
theorem ws_X6_mark : (Cond.selects RX6 yX6_mark yX6_mark) ∈ tb := tb_in (List.mem_of_getElem? (i := 909) (by decide +kernel)) (by decide +kernel)
theorem wc_X6_mark : (Cond.code yX6_mark cX6_mark 3 (some .int)) ∈ tb := tb_in (List.mem_of_getElem? (i := 910) (by decide +kernel)) (by decide +kernel)
theorem wk_X6_216 : (Cond.constant RX6 216 (-1000000)) ∈ tb := tb_in (List.mem_of_getElem? (i := 911) (by decide +kernel)) (by decide +kernel)
theorem wk_X6_199 : (Cond.methodLink RX6 199 yX6_asLock) ∈ tb := tb_in (List.mem_of_getElem? (i := 912) (by decide +kernel)) (by decide +kernel)
theorem wi_X6_asLock : (Cond.instanceMethod yX6_asLock) ∈ tb := tb_in (List.mem_of_getElem? (i := 914) (by decide +kernel)) (by decide +kernel)
theorem wc_X6_asLock : (Cond.code yX6_asLock cX6_asLock 2 (some .int)) ∈ tb := tb_in (List.mem_of_getElem? (i := 915) (by decide +kernel)) (by decide +kernel)
theorem wk_X6_206 : (Cond.methodLink RX6 206 yX6_asBrass) ∈ tb := tb_in (List.mem_of_getElem? (i := 916) (by decide +kernel)) (by decide +kernel)
theorem wi_X6_asBrass : (Cond.instanceMethod yX6_asBrass) ∈ tb := tb_in (List.mem_of_getElem? (i := 918) (by decide +kernel)) (by decide +kernel)
theorem wc_X6_asBrass : (Cond.code yX6_asBrass cX6_asBrass 2 (some .int)) ∈ tb := tb_in (List.mem_of_getElem? (i := 919) (by decide +kernel)) (by decide +kernel)
theorem wk_X6_211 : (Cond.methodLink RX6 211 yX6_asRusty) ∈ tb := tb_in (List.mem_of_getElem? (i := 920) (by decide +kernel)) (by decide +kernel)
theorem wi_X6_asRusty : (Cond.instanceMethod yX6_asRusty) ∈ tb := tb_in (List.mem_of_getElem? (i := 922) (by decide +kernel)) (by decide +kernel)
theorem wc_X6_asRusty : (Cond.code yX6_asRusty cX6_asRusty 2 (some .int)) ∈ tb := tb_in (List.mem_of_getElem? (i := 923) (by decide +kernel)) (by decide +kernel)
theorem wk_X6_202 : (Cond.constantLong RX6 202 (100)) ∈ tb := tb_in (List.mem_of_getElem? (i := 924) (by decide +kernel)) (by decide +kernel)
theorem wk_X6_217 : (Cond.methodLink RX6 217 yX6_asDouble) ∈ tb := tb_in (List.mem_of_getElem? (i := 925) (by decide +kernel)) (by decide +kernel)
theorem wi_X6_asDouble : (Cond.instanceMethod yX6_asDouble) ∈ tb := tb_in (List.mem_of_getElem? (i := 927) (by decide +kernel)) (by decide +kernel)
theorem wc_X6_asDouble : (Cond.code yX6_asDouble cX6_asDouble 2 (some .int)) ∈ tb := tb_in (List.mem_of_getElem? (i := 928) (by decide +kernel)) (by decide +kernel)
theorem wk_X6_204 : (Cond.constantLong RX6 204 (1000)) ∈ tb := tb_in (List.mem_of_getElem? (i := 929) (by decide +kernel)) (by decide +kernel)
theorem wk_X6_220 : (Cond.methodLink RX6 220 yX6_asSeized) ∈ tb := tb_in (List.mem_of_getElem? (i := 930) (by decide +kernel)) (by decide +kernel)
theorem wi_X6_asSeized : (Cond.instanceMethod yX6_asSeized) ∈ tb := tb_in (List.mem_of_getElem? (i := 932) (by decide +kernel)) (by decide +kernel)
theorem wc_X6_asSeized : (Cond.code yX6_asSeized cX6_asSeized 2 (some .int)) ∈ tb := tb_in (List.mem_of_getElem? (i := 933) (by decide +kernel)) (by decide +kernel)
theorem wk_X6_209 : (Cond.constantLong RX6 209 (10000)) ∈ tb := tb_in (List.mem_of_getElem? (i := 934) (by decide +kernel)) (by decide +kernel)
theorem wk_X6_223 : (Cond.methodLink RX6 223 yX6_asPainted) ∈ tb := tb_in (List.mem_of_getElem? (i := 935) (by decide +kernel)) (by decide +kernel)
theorem wi_X6_asPainted : (Cond.instanceMethod yX6_asPainted) ∈ tb := tb_in (List.mem_of_getElem? (i := 937) (by decide +kernel)) (by decide +kernel)
theorem wc_X6_asPainted : (Cond.code yX6_asPainted cX6_asPainted 2 (some .int)) ∈ tb := tb_in (List.mem_of_getElem? (i := 938) (by decide +kernel)) (by decide +kernel)
theorem wk_X6_214 : (Cond.constantLong RX6 214 (100000)) ∈ tb := tb_in (List.mem_of_getElem? (i := 939) (by decide +kernel)) (by decide +kernel)
theorem wk_L_108 : (Cond.methodLink RL 108 yX6_keep) ∈ tb := tb_in (List.mem_of_getElem? (i := 940) (by decide +kernel)) (by decide +kernel)
theorem wi_X6_keep : (Cond.instanceMethod yX6_keep) ∈ tb := tb_in (List.mem_of_getElem? (i := 941) (by decide +kernel)) (by decide +kernel)
theorem ws_X6_keep : (Cond.selects RX6 yX6_keep yX6_keep) ∈ tb := tb_in (List.mem_of_getElem? (i := 942) (by decide +kernel)) (by decide +kernel)
theorem wc_X6_keep : (Cond.code yX6_keep cX6_keep 3 (some .int)) ∈ tb := tb_in (List.mem_of_getElem? (i := 943) (by decide +kernel)) (by decide +kernel)
theorem wk_L_112 : (Cond.methodLink RL 112 yX6_back) ∈ tb := tb_in (List.mem_of_getElem? (i := 944) (by decide +kernel)) (by decide +kernel)
theorem wi_X6_back : (Cond.instanceMethod yX6_back) ∈ tb := tb_in (List.mem_of_getElem? (i := 945) (by decide +kernel)) (by decide +kernel)
theorem ws_X6_back : (Cond.selects RX6 yX6_back yX6_back) ∈ tb := tb_in (List.mem_of_getElem? (i := 946) (by decide +kernel)) (by decide +kernel)
theorem wc_X6_back : (Cond.code yX6_back cX6_back 3 (some .int)) ∈ tb := tb_in (List.mem_of_getElem? (i := 947) (by decide +kernel)) (by decide +kernel)
theorem wk_L_116 : (Cond.methodLink RL 116 yX6_count) ∈ tb := tb_in (List.mem_of_getElem? (i := 948) (by decide +kernel)) (by decide +kernel)
theorem wi_X6_count : (Cond.instanceMethod yX6_count) ∈ tb := tb_in (List.mem_of_getElem? (i := 949) (by decide +kernel)) (by decide +kernel)
theorem ws_X6_count : (Cond.selects RX6 yX6_count yX6_count) ∈ tb := tb_in (List.mem_of_getElem? (i := 950) (by decide +kernel)) (by decide +kernel)
theorem wc_X6_count : (Cond.code yX6_count cX6_count 2 (some .int)) ∈ tb := tb_in (List.mem_of_getElem? (i := 951) (by decide +kernel)) (by decide +kernel)
theorem wk_L_121 : (Cond.methodLink RL 121 yX6_trace) ∈ tb := tb_in (List.mem_of_getElem? (i := 952) (by decide +kernel)) (by decide +kernel)
theorem wi_X6_trace : (Cond.instanceMethod yX6_trace) ∈ tb := tb_in (List.mem_of_getElem? (i := 953) (by decide +kernel)) (by decide +kernel)
theorem ws_X6_trace : (Cond.selects RX6 yX6_trace yX6_trace) ∈ tb := tb_in (List.mem_of_getElem? (i := 954) (by decide +kernel)) (by decide +kernel)
theorem wc_X6_trace : (Cond.code yX6_trace cX6_trace 1 (some .long)) ∈ tb := tb_in (List.mem_of_getElem? (i := 955) (by decide +kernel)) (by decide +kernel)
theorem wc_obj : (Cond.code objectInit ⟨#[0xb1]⟩ 1 none) ∈ tb := tb_in (List.mem_of_getElem? (i := 57) (by decide +kernel)) (by decide +kernel)
theorem wu_X0 : ∀ w ∈ u_ws RX0 TX0 3, w ∈ tb := by
  have h : ∀ k, k < 3 → u_lay RX0 TX0 k ∈ tb := fun k hk => match k, hk with
    | 0, _ => tb_in (List.mem_of_getElem? (i := 126) (by decide +kernel)) (by decide +kernel)
    | 1, _ => tb_in (List.mem_of_getElem? (i := 128) (by decide +kernel)) (by decide +kernel)
    | 2, _ => tb_in (List.mem_of_getElem? (i := 130) (by decide +kernel)) (by decide +kernel)
    | k + 3, hk => absurd hk (by omega)
  intro w hw
  obtain ⟨k, hk, rfl⟩ := List.mem_map.mp hw
  exact h k (List.mem_range.mp hk)
theorem wu_X1 : ∀ w ∈ u_ws RX1 TX1 5, w ∈ tb := by
  have h : ∀ k, k < 5 → u_lay RX1 TX1 k ∈ tb := fun k hk => match k, hk with
    | 0, _ => tb_in (List.mem_of_getElem? (i := 196) (by decide +kernel)) (by decide +kernel)
    | 1, _ => tb_in (List.mem_of_getElem? (i := 198) (by decide +kernel)) (by decide +kernel)
    | 2, _ => tb_in (List.mem_of_getElem? (i := 200) (by decide +kernel)) (by decide +kernel)
    | 3, _ => tb_in (List.mem_of_getElem? (i := 202) (by decide +kernel)) (by decide +kernel)
    | 4, _ => tb_in (List.mem_of_getElem? (i := 204) (by decide +kernel)) (by decide +kernel)
    | k + 5, hk => absurd hk (by omega)
  intro w hw
  obtain ⟨k, hk, rfl⟩ := List.mem_map.mp hw
  exact h k (List.mem_range.mp hk)
theorem wu_X2 : ∀ w ∈ u_ws RX2 TX2 9, w ∈ tb := by
  have h : ∀ k, k < 9 → u_lay RX2 TX2 k ∈ tb := fun k hk => match k, hk with
    | 0, _ => tb_in (List.mem_of_getElem? (i := 156) (by decide +kernel)) (by decide +kernel)
    | 1, _ => tb_in (List.mem_of_getElem? (i := 158) (by decide +kernel)) (by decide +kernel)
    | 2, _ => tb_in (List.mem_of_getElem? (i := 160) (by decide +kernel)) (by decide +kernel)
    | 3, _ => tb_in (List.mem_of_getElem? (i := 162) (by decide +kernel)) (by decide +kernel)
    | 4, _ => tb_in (List.mem_of_getElem? (i := 164) (by decide +kernel)) (by decide +kernel)
    | 5, _ => tb_in (List.mem_of_getElem? (i := 166) (by decide +kernel)) (by decide +kernel)
    | 6, _ => tb_in (List.mem_of_getElem? (i := 168) (by decide +kernel)) (by decide +kernel)
    | 7, _ => tb_in (List.mem_of_getElem? (i := 170) (by decide +kernel)) (by decide +kernel)
    | 8, _ => tb_in (List.mem_of_getElem? (i := 172) (by decide +kernel)) (by decide +kernel)
    | k + 9, hk => absurd hk (by omega)
  intro w hw
  obtain ⟨k, hk, rfl⟩ := List.mem_map.mp hw
  exact h k (List.mem_range.mp hk)
theorem wu_X3 : ∀ w ∈ u_ws RX3 TX3 5, w ∈ tb := by
  have h : ∀ k, k < 5 → u_lay RX3 TX3 k ∈ tb := fun k hk => match k, hk with
    | 0, _ => tb_in (List.mem_of_getElem? (i := 109) (by decide +kernel)) (by decide +kernel)
    | 1, _ => tb_in (List.mem_of_getElem? (i := 111) (by decide +kernel)) (by decide +kernel)
    | 2, _ => tb_in (List.mem_of_getElem? (i := 113) (by decide +kernel)) (by decide +kernel)
    | 3, _ => tb_in (List.mem_of_getElem? (i := 115) (by decide +kernel)) (by decide +kernel)
    | 4, _ => tb_in (List.mem_of_getElem? (i := 117) (by decide +kernel)) (by decide +kernel)
    | k + 5, hk => absurd hk (by omega)
  intro w hw
  obtain ⟨k, hk, rfl⟩ := List.mem_map.mp hw
  exact h k (List.mem_range.mp hk)
theorem wu_X4 : ∀ w ∈ u_ws RX4 TX4 6, w ∈ tb := by
  have h : ∀ k, k < 6 → u_lay RX4 TX4 k ∈ tb := fun k hk => match k, hk with
    | 0, _ => tb_in (List.mem_of_getElem? (i := 71) (by decide +kernel)) (by decide +kernel)
    | 1, _ => tb_in (List.mem_of_getElem? (i := 73) (by decide +kernel)) (by decide +kernel)
    | 2, _ => tb_in (List.mem_of_getElem? (i := 75) (by decide +kernel)) (by decide +kernel)
    | 3, _ => tb_in (List.mem_of_getElem? (i := 77) (by decide +kernel)) (by decide +kernel)
    | 4, _ => tb_in (List.mem_of_getElem? (i := 79) (by decide +kernel)) (by decide +kernel)
    | 5, _ => tb_in (List.mem_of_getElem? (i := 81) (by decide +kernel)) (by decide +kernel)
    | k + 6, hk => absurd hk (by omega)
  intro w hw
  obtain ⟨k, hk, rfl⟩ := List.mem_map.mp hw
  exact h k (List.mem_range.mp hk)
theorem wu_X5 : ∀ w ∈ u_ws RX5 TX5 8, w ∈ tb := by
  have h : ∀ k, k < 8 → u_lay RX5 TX5 k ∈ tb := fun k hk => match k, hk with
    | 0, _ => tb_in (List.mem_of_getElem? (i := 215) (by decide +kernel)) (by decide +kernel)
    | 1, _ => tb_in (List.mem_of_getElem? (i := 217) (by decide +kernel)) (by decide +kernel)
    | 2, _ => tb_in (List.mem_of_getElem? (i := 219) (by decide +kernel)) (by decide +kernel)
    | 3, _ => tb_in (List.mem_of_getElem? (i := 221) (by decide +kernel)) (by decide +kernel)
    | 4, _ => tb_in (List.mem_of_getElem? (i := 223) (by decide +kernel)) (by decide +kernel)
    | 5, _ => tb_in (List.mem_of_getElem? (i := 225) (by decide +kernel)) (by decide +kernel)
    | 6, _ => tb_in (List.mem_of_getElem? (i := 227) (by decide +kernel)) (by decide +kernel)
    | 7, _ => tb_in (List.mem_of_getElem? (i := 229) (by decide +kernel)) (by decide +kernel)
    | k + 8, hk => absurd hk (by omega)
  intro w hw
  obtain ⟨k, hk, rfl⟩ := List.mem_map.mp hw
  exact h k (List.mem_range.mp hk)
theorem wu_X6 : ∀ w ∈ u_ws RX6 TX6 26, w ∈ tb := by
  have h : ∀ k, k < 26 → u_lay RX6 TX6 k ∈ tb := fun k hk => match k, hk with
    | 0, _ => tb_in (List.mem_of_getElem? (i := 660) (by decide +kernel)) (by decide +kernel)
    | 1, _ => tb_in (List.mem_of_getElem? (i := 662) (by decide +kernel)) (by decide +kernel)
    | 2, _ => tb_in (List.mem_of_getElem? (i := 664) (by decide +kernel)) (by decide +kernel)
    | 3, _ => tb_in (List.mem_of_getElem? (i := 666) (by decide +kernel)) (by decide +kernel)
    | 4, _ => tb_in (List.mem_of_getElem? (i := 668) (by decide +kernel)) (by decide +kernel)
    | 5, _ => tb_in (List.mem_of_getElem? (i := 670) (by decide +kernel)) (by decide +kernel)
    | 6, _ => tb_in (List.mem_of_getElem? (i := 672) (by decide +kernel)) (by decide +kernel)
    | 7, _ => tb_in (List.mem_of_getElem? (i := 674) (by decide +kernel)) (by decide +kernel)
    | 8, _ => tb_in (List.mem_of_getElem? (i := 676) (by decide +kernel)) (by decide +kernel)
    | 9, _ => tb_in (List.mem_of_getElem? (i := 678) (by decide +kernel)) (by decide +kernel)
    | 10, _ => tb_in (List.mem_of_getElem? (i := 680) (by decide +kernel)) (by decide +kernel)
    | 11, _ => tb_in (List.mem_of_getElem? (i := 682) (by decide +kernel)) (by decide +kernel)
    | 12, _ => tb_in (List.mem_of_getElem? (i := 684) (by decide +kernel)) (by decide +kernel)
    | 13, _ => tb_in (List.mem_of_getElem? (i := 686) (by decide +kernel)) (by decide +kernel)
    | 14, _ => tb_in (List.mem_of_getElem? (i := 688) (by decide +kernel)) (by decide +kernel)
    | 15, _ => tb_in (List.mem_of_getElem? (i := 690) (by decide +kernel)) (by decide +kernel)
    | 16, _ => tb_in (List.mem_of_getElem? (i := 692) (by decide +kernel)) (by decide +kernel)
    | 17, _ => tb_in (List.mem_of_getElem? (i := 694) (by decide +kernel)) (by decide +kernel)
    | 18, _ => tb_in (List.mem_of_getElem? (i := 696) (by decide +kernel)) (by decide +kernel)
    | 19, _ => tb_in (List.mem_of_getElem? (i := 698) (by decide +kernel)) (by decide +kernel)
    | 20, _ => tb_in (List.mem_of_getElem? (i := 700) (by decide +kernel)) (by decide +kernel)
    | 21, _ => tb_in (List.mem_of_getElem? (i := 702) (by decide +kernel)) (by decide +kernel)
    | 22, _ => tb_in (List.mem_of_getElem? (i := 704) (by decide +kernel)) (by decide +kernel)
    | 23, _ => tb_in (List.mem_of_getElem? (i := 706) (by decide +kernel)) (by decide +kernel)
    | 24, _ => tb_in (List.mem_of_getElem? (i := 708) (by decide +kernel)) (by decide +kernel)
    | 25, _ => tb_in (List.mem_of_getElem? (i := 710) (by decide +kernel)) (by decide +kernel)
    | k + 26, hk => absurd hk (by omega)
  intro w hw
  obtain ⟨k, hk, rfl⟩ := List.mem_map.mp hw
  exact h k (List.mem_range.mp hk)
theorem yd_X0_init : yX0_init.cls ≠ "java/lang/invoke/MethodHandle" ∧ yX0_init.cls ≠ "java/lang/invoke/VarHandle" ∧ (parseMethodDescriptor yX0_init.desc).map (fun d => d.parameters.length) = some 0 := by decide +kernel
theorem yd_X0_begin : yX0_begin.cls ≠ "java/lang/invoke/MethodHandle" ∧ yX0_begin.cls ≠ "java/lang/invoke/VarHandle" ∧ (parseMethodDescriptor yX0_begin.desc).map (fun d => d.parameters.length) = some 1 := by decide +kernel
theorem yd_X0_copyFrom : yX0_copyFrom.cls ≠ "java/lang/invoke/MethodHandle" ∧ yX0_copyFrom.cls ≠ "java/lang/invoke/VarHandle" ∧ (parseMethodDescriptor yX0_copyFrom.desc).map (fun d => d.parameters.length) = some 1 := by decide +kernel
theorem yd_X0_remember : yX0_remember.cls ≠ "java/lang/invoke/MethodHandle" ∧ yX0_remember.cls ≠ "java/lang/invoke/VarHandle" ∧ (parseMethodDescriptor yX0_remember.desc).map (fun d => d.parameters.length) = some 0 := by decide +kernel
theorem yd_X0_loseOldest : yX0_loseOldest.cls ≠ "java/lang/invoke/MethodHandle" ∧ yX0_loseOldest.cls ≠ "java/lang/invoke/VarHandle" ∧ (parseMethodDescriptor yX0_loseOldest.desc).map (fun d => d.parameters.length) = some 0 := by decide +kernel
theorem yd_X0_takeBack : yX0_takeBack.cls ≠ "java/lang/invoke/MethodHandle" ∧ yX0_takeBack.cls ≠ "java/lang/invoke/VarHandle" ∧ (parseMethodDescriptor yX0_takeBack.desc).map (fun d => d.parameters.length) = some 0 := by decide +kernel
theorem yd_X1_init : yX1_init.cls ≠ "java/lang/invoke/MethodHandle" ∧ yX1_init.cls ≠ "java/lang/invoke/VarHandle" ∧ (parseMethodDescriptor yX1_init.desc).map (fun d => d.parameters.length) = some 0 := by decide +kernel
theorem yd_X1_reset : yX1_reset.cls ≠ "java/lang/invoke/MethodHandle" ∧ yX1_reset.cls ≠ "java/lang/invoke/VarHandle" ∧ (parseMethodDescriptor yX1_reset.desc).map (fun d => d.parameters.length) = some 0 := by decide +kernel
theorem yd_X1_addLock : yX1_addLock.cls ≠ "java/lang/invoke/MethodHandle" ∧ yX1_addLock.cls ≠ "java/lang/invoke/VarHandle" ∧ (parseMethodDescriptor yX1_addLock.desc).map (fun d => d.parameters.length) = some 1 := by decide +kernel
theorem yd_X1_befriend : yX1_befriend.cls ≠ "java/lang/invoke/MethodHandle" ∧ yX1_befriend.cls ≠ "java/lang/invoke/VarHandle" ∧ (parseMethodDescriptor yX1_befriend.desc).map (fun d => d.parameters.length) = some 2 := by decide +kernel
theorem yd_X2_init : yX2_init.cls ≠ "java/lang/invoke/MethodHandle" ∧ yX2_init.cls ≠ "java/lang/invoke/VarHandle" ∧ (parseMethodDescriptor yX2_init.desc).map (fun d => d.parameters.length) = some 0 := by decide +kernel
theorem yd_X2_forgetAll : yX2_forgetAll.cls ≠ "java/lang/invoke/MethodHandle" ∧ yX2_forgetAll.cls ≠ "java/lang/invoke/VarHandle" ∧ (parseMethodDescriptor yX2_forgetAll.desc).map (fun d => d.parameters.length) = some 0 := by decide +kernel
theorem yd_X2_add : yX2_add.cls ≠ "java/lang/invoke/MethodHandle" ∧ yX2_add.cls ≠ "java/lang/invoke/VarHandle" ∧ (parseMethodDescriptor yX2_add.desc).map (fun d => d.parameters.length) = some 2 := by decide +kernel
theorem yd_X2_bestQuestion : yX2_bestQuestion.cls ≠ "java/lang/invoke/MethodHandle" ∧ yX2_bestQuestion.cls ≠ "java/lang/invoke/VarHandle" ∧ (parseMethodDescriptor yX2_bestQuestion.desc).map (fun d => d.parameters.length) = some 0 := by decide +kernel
theorem yd_X2_countFigures : yX2_countFigures.cls ≠ "java/lang/invoke/MethodHandle" ∧ yX2_countFigures.cls ≠ "java/lang/invoke/VarHandle" ∧ (parseMethodDescriptor yX2_countFigures.desc).map (fun d => d.parameters.length) = some 0 := by decide +kernel
theorem yd_X2_greatestPart : yX2_greatestPart.cls ≠ "java/lang/invoke/MethodHandle" ∧ yX2_greatestPart.cls ≠ "java/lang/invoke/VarHandle" ∧ (parseMethodDescriptor yX2_greatestPart.desc).map (fun d => d.parameters.length) = some 2 := by decide +kernel
theorem yd_X3_init : yX3_init.cls ≠ "java/lang/invoke/MethodHandle" ∧ yX3_init.cls ≠ "java/lang/invoke/VarHandle" ∧ (parseMethodDescriptor yX3_init.desc).map (fun d => d.parameters.length) = some 0 := by decide +kernel
theorem yd_X3_begin : yX3_begin.cls ≠ "java/lang/invoke/MethodHandle" ∧ yX3_begin.cls ≠ "java/lang/invoke/VarHandle" ∧ (parseMethodDescriptor yX3_begin.desc).map (fun d => d.parameters.length) = some 1 := by decide +kernel
theorem yd_X3_copyFrom : yX3_copyFrom.cls ≠ "java/lang/invoke/MethodHandle" ∧ yX3_copyFrom.cls ≠ "java/lang/invoke/VarHandle" ∧ (parseMethodDescriptor yX3_copyFrom.desc).map (fun d => d.parameters.length) = some 1 := by decide +kernel
theorem yd_X3_isOpen : yX3_isOpen.cls ≠ "java/lang/invoke/MethodHandle" ∧ yX3_isOpen.cls ≠ "java/lang/invoke/VarHandle" ∧ (parseMethodDescriptor yX3_isOpen.desc).map (fun d => d.parameters.length) = some 0 := by decide +kernel
theorem yd_X3_behindOf : yX3_behindOf.cls ≠ "java/lang/invoke/MethodHandle" ∧ yX3_behindOf.cls ≠ "java/lang/invoke/VarHandle" ∧ (parseMethodDescriptor yX3_behindOf.desc).map (fun d => d.parameters.length) = some 1 := by decide +kernel
theorem yd_X3_inRing : yX3_inRing.cls ≠ "java/lang/invoke/MethodHandle" ∧ yX3_inRing.cls ≠ "java/lang/invoke/VarHandle" ∧ (parseMethodDescriptor yX3_inRing.desc).map (fun d => d.parameters.length) = some 1 := by decide +kernel
theorem yd_X3_ringBits : yX3_ringBits.cls ≠ "java/lang/invoke/MethodHandle" ∧ yX3_ringBits.cls ≠ "java/lang/invoke/VarHandle" ∧ (parseMethodDescriptor yX3_ringBits.desc).map (fun d => d.parameters.length) = some 0 := by decide +kernel
theorem yd_X3_ringSize : yX3_ringSize.cls ≠ "java/lang/invoke/MethodHandle" ∧ yX3_ringSize.cls ≠ "java/lang/invoke/VarHandle" ∧ (parseMethodDescriptor yX3_ringSize.desc).map (fun d => d.parameters.length) = some 0 := by decide +kernel
theorem yd_X3_knows : yX3_knows.cls ≠ "java/lang/invoke/MethodHandle" ∧ yX3_knows.cls ≠ "java/lang/invoke/VarHandle" ∧ (parseMethodDescriptor yX3_knows.desc).map (fun d => d.parameters.length) = some 2 := by decide +kernel
theorem yd_X3_knowerCount : yX3_knowerCount.cls ≠ "java/lang/invoke/MethodHandle" ∧ yX3_knowerCount.cls ≠ "java/lang/invoke/VarHandle" ∧ (parseMethodDescriptor yX3_knowerCount.desc).map (fun d => d.parameters.length) = some 1 := by decide +kernel
theorem yd_X3_stepsOf : yX3_stepsOf.cls ≠ "java/lang/invoke/MethodHandle" ∧ yX3_stepsOf.cls ≠ "java/lang/invoke/VarHandle" ∧ (parseMethodDescriptor yX3_stepsOf.desc).map (fun d => d.parameters.length) = some 1 := by decide +kernel
theorem yd_X3_knownBy : yX3_knownBy.cls ≠ "java/lang/invoke/MethodHandle" ∧ yX3_knownBy.cls ≠ "java/lang/invoke/VarHandle" ∧ (parseMethodDescriptor yX3_knownBy.desc).map (fun d => d.parameters.length) = some 1 := by decide +kernel
theorem yd_X3_whoKnowsAny : yX3_whoKnowsAny.cls ≠ "java/lang/invoke/MethodHandle" ∧ yX3_whoKnowsAny.cls ≠ "java/lang/invoke/VarHandle" ∧ (parseMethodDescriptor yX3_whoKnowsAny.desc).map (fun d => d.parameters.length) = some 1 := by decide +kernel
theorem yd_X3_whoGetsIn : yX3_whoGetsIn.cls ≠ "java/lang/invoke/MethodHandle" ∧ yX3_whoGetsIn.cls ≠ "java/lang/invoke/VarHandle" ∧ (parseMethodDescriptor yX3_whoGetsIn.desc).map (fun d => d.parameters.length) = some 0 := by decide +kernel
theorem yd_X3_canShutOn : yX3_canShutOn.cls ≠ "java/lang/invoke/MethodHandle" ∧ yX3_canShutOn.cls ≠ "java/lang/invoke/VarHandle" ∧ (parseMethodDescriptor yX3_canShutOn.desc).map (fun d => d.parameters.length) = some 1 := by decide +kernel
theorem yd_X3_between : yX3_between.cls ≠ "java/lang/invoke/MethodHandle" ∧ yX3_between.cls ≠ "java/lang/invoke/VarHandle" ∧ (parseMethodDescriptor yX3_between.desc).map (fun d => d.parameters.length) = some 1 := by decide +kernel
theorem yd_X3_leftBy : yX3_leftBy.cls ≠ "java/lang/invoke/MethodHandle" ∧ yX3_leftBy.cls ≠ "java/lang/invoke/VarHandle" ∧ (parseMethodDescriptor yX3_leftBy.desc).map (fun d => d.parameters.length) = some 1 := by decide +kernel
theorem yd_X3_shutOn : yX3_shutOn.cls ≠ "java/lang/invoke/MethodHandle" ∧ yX3_shutOn.cls ≠ "java/lang/invoke/VarHandle" ∧ (parseMethodDescriptor yX3_shutOn.desc).map (fun d => d.parameters.length) = some 2 := by decide +kernel
theorem yd_X3_hangIn : yX3_hangIn.cls ≠ "java/lang/invoke/MethodHandle" ∧ yX3_hangIn.cls ≠ "java/lang/invoke/VarHandle" ∧ (parseMethodDescriptor yX3_hangIn.desc).map (fun d => d.parameters.length) = some 1 := by decide +kernel
theorem yd_X3_giveCode : yX3_giveCode.cls ≠ "java/lang/invoke/MethodHandle" ∧ yX3_giveCode.cls ≠ "java/lang/invoke/VarHandle" ∧ (parseMethodDescriptor yX3_giveCode.desc).map (fun d => d.parameters.length) = some 2 := by decide +kernel
theorem yd_X4_init : yX4_init.cls ≠ "java/lang/invoke/MethodHandle" ∧ yX4_init.cls ≠ "java/lang/invoke/VarHandle" ∧ (parseMethodDescriptor yX4_init.desc).map (fun d => d.parameters.length) = some 0 := by decide +kernel
theorem yd_X4_append : yX4_append.cls ≠ "java/lang/invoke/MethodHandle" ∧ yX4_append.cls ≠ "java/lang/invoke/VarHandle" ∧ (parseMethodDescriptor yX4_append.desc).map (fun d => d.parameters.length) = some 1 := by decide +kernel
theorem yd_X4_empty : yX4_empty.cls ≠ "java/lang/invoke/MethodHandle" ∧ yX4_empty.cls ≠ "java/lang/invoke/VarHandle" ∧ (parseMethodDescriptor yX4_empty.desc).map (fun d => d.parameters.length) = some 0 := by decide +kernel
theorem yd_X4_tellAll : yX4_tellAll.cls ≠ "java/lang/invoke/MethodHandle" ∧ yX4_tellAll.cls ≠ "java/lang/invoke/VarHandle" ∧ (parseMethodDescriptor yX4_tellAll.desc).map (fun d => d.parameters.length) = some 1 := by decide +kernel
theorem yd_X4_readItem : yX4_readItem.cls ≠ "java/lang/invoke/MethodHandle" ∧ yX4_readItem.cls ≠ "java/lang/invoke/VarHandle" ∧ (parseMethodDescriptor yX4_readItem.desc).map (fun d => d.parameters.length) = some 2 := by decide +kernel
theorem yd_X4_readPersons : yX4_readPersons.cls ≠ "java/lang/invoke/MethodHandle" ∧ yX4_readPersons.cls ≠ "java/lang/invoke/VarHandle" ∧ (parseMethodDescriptor yX4_readPersons.desc).map (fun d => d.parameters.length) = some 1 := by decide +kernel
theorem yd_X4_readLock : yX4_readLock.cls ≠ "java/lang/invoke/MethodHandle" ∧ yX4_readLock.cls ≠ "java/lang/invoke/VarHandle" ∧ (parseMethodDescriptor yX4_readLock.desc).map (fun d => d.parameters.length) = some 1 := by decide +kernel
theorem yd_X4_readKnows : yX4_readKnows.cls ≠ "java/lang/invoke/MethodHandle" ∧ yX4_readKnows.cls ≠ "java/lang/invoke/VarHandle" ∧ (parseMethodDescriptor yX4_readKnows.desc).map (fun d => d.parameters.length) = some 1 := by decide +kernel
theorem yd_X4_readFriends : yX4_readFriends.cls ≠ "java/lang/invoke/MethodHandle" ∧ yX4_readFriends.cls ≠ "java/lang/invoke/VarHandle" ∧ (parseMethodDescriptor yX4_readFriends.desc).map (fun d => d.parameters.length) = some 1 := by decide +kernel
theorem yd_X4_readNumber : yX4_readNumber.cls ≠ "java/lang/invoke/MethodHandle" ∧ yX4_readNumber.cls ≠ "java/lang/invoke/VarHandle" ∧ (parseMethodDescriptor yX4_readNumber.desc).map (fun d => d.parameters.length) = some 2 := by decide +kernel
theorem yd_X4_readEnd : yX4_readEnd.cls ≠ "java/lang/invoke/MethodHandle" ∧ yX4_readEnd.cls ≠ "java/lang/invoke/VarHandle" ∧ (parseMethodDescriptor yX4_readEnd.desc).map (fun d => d.parameters.length) = some 0 := by decide +kernel
theorem yd_X4_advance : yX4_advance.cls ≠ "java/lang/invoke/MethodHandle" ∧ yX4_advance.cls ≠ "java/lang/invoke/VarHandle" ∧ (parseMethodDescriptor yX4_advance.desc).map (fun d => d.parameters.length) = some 0 := by decide +kernel
theorem yd_X4_takeLetters : yX4_takeLetters.cls ≠ "java/lang/invoke/MethodHandle" ∧ yX4_takeLetters.cls ≠ "java/lang/invoke/VarHandle" ∧ (parseMethodDescriptor yX4_takeLetters.desc).map (fun d => d.parameters.length) = some 0 := by decide +kernel
theorem yd_X4_takeNumber : yX4_takeNumber.cls ≠ "java/lang/invoke/MethodHandle" ∧ yX4_takeNumber.cls ≠ "java/lang/invoke/VarHandle" ∧ (parseMethodDescriptor yX4_takeNumber.desc).map (fun d => d.parameters.length) = some 0 := by decide +kernel
theorem yd_X5_init : yX5_init.cls ≠ "java/lang/invoke/MethodHandle" ∧ yX5_init.cls ≠ "java/lang/invoke/VarHandle" ∧ (parseMethodDescriptor yX5_init.desc).map (fun d => d.parameters.length) = some 0 := by decide +kernel
theorem yd_X5_type : yX5_type.cls ≠ "java/lang/invoke/MethodHandle" ∧ yX5_type.cls ≠ "java/lang/invoke/VarHandle" ∧ (parseMethodDescriptor yX5_type.desc).map (fun d => d.parameters.length) = some 1 := by decide +kernel
theorem yd_X5_clear : yX5_clear.cls ≠ "java/lang/invoke/MethodHandle" ∧ yX5_clear.cls ≠ "java/lang/invoke/VarHandle" ∧ (parseMethodDescriptor yX5_clear.desc).map (fun d => d.parameters.length) = some 0 := by decide +kernel
theorem yd_X5_gate : yX5_gate.cls ≠ "java/lang/invoke/MethodHandle" ∧ yX5_gate.cls ≠ "java/lang/invoke/VarHandle" ∧ (parseMethodDescriptor yX5_gate.desc).map (fun d => d.parameters.length) = some 0 := by decide +kernel
theorem yd_X5_lock : yX5_lock.cls ≠ "java/lang/invoke/MethodHandle" ∧ yX5_lock.cls ≠ "java/lang/invoke/VarHandle" ∧ (parseMethodDescriptor yX5_lock.desc).map (fun d => d.parameters.length) = some 2 := by decide +kernel
theorem yd_X5_person : yX5_person.cls ≠ "java/lang/invoke/MethodHandle" ∧ yX5_person.cls ≠ "java/lang/invoke/VarHandle" ∧ (parseMethodDescriptor yX5_person.desc).map (fun d => d.parameters.length) = some 2 := by decide +kernel
theorem yd_X5_opens : yX5_opens.cls ≠ "java/lang/invoke/MethodHandle" ∧ yX5_opens.cls ≠ "java/lang/invoke/VarHandle" ∧ (parseMethodDescriptor yX5_opens.desc).map (fun d => d.parameters.length) = some 2 := by decide +kernel
theorem yd_X5_shuts : yX5_shuts.cls ≠ "java/lang/invoke/MethodHandle" ∧ yX5_shuts.cls ≠ "java/lang/invoke/VarHandle" ∧ (parseMethodDescriptor yX5_shuts.desc).map (fun d => d.parameters.length) = some 2 := by decide +kernel
theorem yd_X5_hangs : yX5_hangs.cls ≠ "java/lang/invoke/MethodHandle" ∧ yX5_hangs.cls ≠ "java/lang/invoke/VarHandle" ∧ (parseMethodDescriptor yX5_hangs.desc).map (fun d => d.parameters.length) = some 2 := by decide +kernel
theorem yd_X5_tells : yX5_tells.cls ≠ "java/lang/invoke/MethodHandle" ∧ yX5_tells.cls ≠ "java/lang/invoke/VarHandle" ∧ (parseMethodDescriptor yX5_tells.desc).map (fun d => d.parameters.length) = some 3 := by decide +kernel
theorem yd_X5_changes : yX5_changes.cls ≠ "java/lang/invoke/MethodHandle" ∧ yX5_changes.cls ≠ "java/lang/invoke/VarHandle" ∧ (parseMethodDescriptor yX5_changes.desc).map (fun d => d.parameters.length) = some 2 := by decide +kernel
theorem yd_X5_tries : yX5_tries.cls ≠ "java/lang/invoke/MethodHandle" ∧ yX5_tries.cls ≠ "java/lang/invoke/VarHandle" ∧ (parseMethodDescriptor yX5_tries.desc).map (fun d => d.parameters.length) = some 2 := by decide +kernel
theorem yd_X5_undo : yX5_undo.cls ≠ "java/lang/invoke/MethodHandle" ∧ yX5_undo.cls ≠ "java/lang/invoke/VarHandle" ∧ (parseMethodDescriptor yX5_undo.desc).map (fun d => d.parameters.length) = some 0 := by decide +kernel
theorem yd_X5_now : yX5_now.cls ≠ "java/lang/invoke/MethodHandle" ∧ yX5_now.cls ≠ "java/lang/invoke/VarHandle" ∧ (parseMethodDescriptor yX5_now.desc).map (fun d => d.parameters.length) = some 1 := by decide +kernel
theorem yd_X5_left : yX5_left.cls ≠ "java/lang/invoke/MethodHandle" ∧ yX5_left.cls ≠ "java/lang/invoke/VarHandle" ∧ (parseMethodDescriptor yX5_left.desc).map (fun d => d.parameters.length) = some 1 := by decide +kernel
theorem yd_X5_jam : yX5_jam.cls ≠ "java/lang/invoke/MethodHandle" ∧ yX5_jam.cls ≠ "java/lang/invoke/VarHandle" ∧ (parseMethodDescriptor yX5_jam.desc).map (fun d => d.parameters.length) = some 1 := by decide +kernel
theorem yd_X5_near : yX5_near.cls ≠ "java/lang/invoke/MethodHandle" ∧ yX5_near.cls ≠ "java/lang/invoke/VarHandle" ∧ (parseMethodDescriptor yX5_near.desc).map (fun d => d.parameters.length) = some 2 := by decide +kernel
theorem yd_X5_odds : yX5_odds.cls ≠ "java/lang/invoke/MethodHandle" ∧ yX5_odds.cls ≠ "java/lang/invoke/VarHandle" ∧ (parseMethodDescriptor yX5_odds.desc).map (fun d => d.parameters.length) = some 2 := by decide +kernel
theorem yd_X5_hears : yX5_hears.cls ≠ "java/lang/invoke/MethodHandle" ∧ yX5_hears.cls ≠ "java/lang/invoke/VarHandle" ∧ (parseMethodDescriptor yX5_hears.desc).map (fun d => d.parameters.length) = some 2 := by decide +kernel
theorem yd_X5_forget : yX5_forget.cls ≠ "java/lang/invoke/MethodHandle" ∧ yX5_forget.cls ≠ "java/lang/invoke/VarHandle" ∧ (parseMethodDescriptor yX5_forget.desc).map (fun d => d.parameters.length) = some 0 := by decide +kernel
theorem yd_X5_codes : yX5_codes.cls ≠ "java/lang/invoke/MethodHandle" ∧ yX5_codes.cls ≠ "java/lang/invoke/VarHandle" ∧ (parseMethodDescriptor yX5_codes.desc).map (fun d => d.parameters.length) = some 1 := by decide +kernel
theorem yd_X5_ask : yX5_ask.cls ≠ "java/lang/invoke/MethodHandle" ∧ yX5_ask.cls ≠ "java/lang/invoke/VarHandle" ∧ (parseMethodDescriptor yX5_ask.desc).map (fun d => d.parameters.length) = some 0 := by decide +kernel
theorem yd_X5_mark : yX5_mark.cls ≠ "java/lang/invoke/MethodHandle" ∧ yX5_mark.cls ≠ "java/lang/invoke/VarHandle" ∧ (parseMethodDescriptor yX5_mark.desc).map (fun d => d.parameters.length) = some 2 := by decide +kernel
theorem yd_X5_keep : yX5_keep.cls ≠ "java/lang/invoke/MethodHandle" ∧ yX5_keep.cls ≠ "java/lang/invoke/VarHandle" ∧ (parseMethodDescriptor yX5_keep.desc).map (fun d => d.parameters.length) = some 1 := by decide +kernel
theorem yd_X5_back : yX5_back.cls ≠ "java/lang/invoke/MethodHandle" ∧ yX5_back.cls ≠ "java/lang/invoke/VarHandle" ∧ (parseMethodDescriptor yX5_back.desc).map (fun d => d.parameters.length) = some 1 := by decide +kernel
theorem yd_X5_count : yX5_count.cls ≠ "java/lang/invoke/MethodHandle" ∧ yX5_count.cls ≠ "java/lang/invoke/VarHandle" ∧ (parseMethodDescriptor yX5_count.desc).map (fun d => d.parameters.length) = some 1 := by decide +kernel
theorem yd_X5_trace : yX5_trace.cls ≠ "java/lang/invoke/MethodHandle" ∧ yX5_trace.cls ≠ "java/lang/invoke/VarHandle" ∧ (parseMethodDescriptor yX5_trace.desc).map (fun d => d.parameters.length) = some 0 := by decide +kernel
theorem yd_X5_isPerson : yX5_isPerson.cls ≠ "java/lang/invoke/MethodHandle" ∧ yX5_isPerson.cls ≠ "java/lang/invoke/VarHandle" ∧ (parseMethodDescriptor yX5_isPerson.desc).map (fun d => d.parameters.length) = some 1 := by decide +kernel
theorem yd_X5_isLock : yX5_isLock.cls ≠ "java/lang/invoke/MethodHandle" ∧ yX5_isLock.cls ≠ "java/lang/invoke/VarHandle" ∧ (parseMethodDescriptor yX5_isLock.desc).map (fun d => d.parameters.length) = some 1 := by decide +kernel
theorem yd_X5_isNumber : yX5_isNumber.cls ≠ "java/lang/invoke/MethodHandle" ∧ yX5_isNumber.cls ≠ "java/lang/invoke/VarHandle" ∧ (parseMethodDescriptor yX5_isNumber.desc).map (fun d => d.parameters.length) = some 1 := by decide +kernel
theorem yd_X5_isImage : yX5_isImage.cls ≠ "java/lang/invoke/MethodHandle" ∧ yX5_isImage.cls ≠ "java/lang/invoke/VarHandle" ∧ (parseMethodDescriptor yX5_isImage.desc).map (fun d => d.parameters.length) = some 1 := by decide +kernel
theorem yd_X5_hasBit : yX5_hasBit.cls ≠ "java/lang/invoke/MethodHandle" ∧ yX5_hasBit.cls ≠ "java/lang/invoke/VarHandle" ∧ (parseMethodDescriptor yX5_hasBit.desc).map (fun d => d.parameters.length) = some 2 := by decide +kernel
theorem yd_X5_roundsOf : yX5_roundsOf.cls ≠ "java/lang/invoke/MethodHandle" ∧ yX5_roundsOf.cls ≠ "java/lang/invoke/VarHandle" ∧ (parseMethodDescriptor yX5_roundsOf.desc).map (fun d => d.parameters.length) = some 1 := by decide +kernel
theorem yd_X5_friendsOfAny : yX5_friendsOfAny.cls ≠ "java/lang/invoke/MethodHandle" ∧ yX5_friendsOfAny.cls ≠ "java/lang/invoke/VarHandle" ∧ (parseMethodDescriptor yX5_friendsOfAny.desc).map (fun d => d.parameters.length) = some 1 := by decide +kernel
theorem yd_X5_greatestRounds : yX5_greatestRounds.cls ≠ "java/lang/invoke/MethodHandle" ∧ yX5_greatestRounds.cls ≠ "java/lang/invoke/VarHandle" ∧ (parseMethodDescriptor yX5_greatestRounds.desc).map (fun d => d.parameters.length) = some 0 := by decide +kernel
theorem yd_X5_worstLock : yX5_worstLock.cls ≠ "java/lang/invoke/MethodHandle" ∧ yX5_worstLock.cls ≠ "java/lang/invoke/VarHandle" ∧ (parseMethodDescriptor yX5_worstLock.desc).map (fun d => d.parameters.length) = some 0 := by decide +kernel
theorem yd_X5_fewestWhoKnowMore : yX5_fewestWhoKnowMore.cls ≠ "java/lang/invoke/MethodHandle" ∧ yX5_fewestWhoKnowMore.cls ≠ "java/lang/invoke/VarHandle" ∧ (parseMethodDescriptor yX5_fewestWhoKnowMore.desc).map (fun d => d.parameters.length) = some 1 := by decide +kernel
theorem yd_X5_rightWheels : yX5_rightWheels.cls ≠ "java/lang/invoke/MethodHandle" ∧ yX5_rightWheels.cls ≠ "java/lang/invoke/VarHandle" ∧ (parseMethodDescriptor yX5_rightWheels.desc).map (fun d => d.parameters.length) = some 2 := by decide +kernel
theorem yd_X5_stepsBetween : yX5_stepsBetween.cls ≠ "java/lang/invoke/MethodHandle" ∧ yX5_stepsBetween.cls ≠ "java/lang/invoke/VarHandle" ∧ (parseMethodDescriptor yX5_stepsBetween.desc).map (fun d => d.parameters.length) = some 2 := by decide +kernel
theorem yd_X5_turns : yX5_turns.cls ≠ "java/lang/invoke/MethodHandle" ∧ yX5_turns.cls ≠ "java/lang/invoke/VarHandle" ∧ (parseMethodDescriptor yX5_turns.desc).map (fun d => d.parameters.length) = some 2 := by decide +kernel
theorem yd_X5_numbersWithin : yX5_numbersWithin.cls ≠ "java/lang/invoke/MethodHandle" ∧ yX5_numbersWithin.cls ≠ "java/lang/invoke/VarHandle" ∧ (parseMethodDescriptor yX5_numbersWithin.desc).map (fun d => d.parameters.length) = some 1 := by decide +kernel
theorem yd_X5_greatestDivisor : yX5_greatestDivisor.cls ≠ "java/lang/invoke/MethodHandle" ∧ yX5_greatestDivisor.cls ≠ "java/lang/invoke/VarHandle" ∧ (parseMethodDescriptor yX5_greatestDivisor.desc).map (fun d => d.parameters.length) = some 2 := by decide +kernel
theorem yd_X5_markOfLock : yX5_markOfLock.cls ≠ "java/lang/invoke/MethodHandle" ∧ yX5_markOfLock.cls ≠ "java/lang/invoke/VarHandle" ∧ (parseMethodDescriptor yX5_markOfLock.desc).map (fun d => d.parameters.length) = some 1 := by decide +kernel
theorem yd_X5_markOfBrass : yX5_markOfBrass.cls ≠ "java/lang/invoke/MethodHandle" ∧ yX5_markOfBrass.cls ≠ "java/lang/invoke/VarHandle" ∧ (parseMethodDescriptor yX5_markOfBrass.desc).map (fun d => d.parameters.length) = some 1 := by decide +kernel
theorem yd_X5_markOfRusty : yX5_markOfRusty.cls ≠ "java/lang/invoke/MethodHandle" ∧ yX5_markOfRusty.cls ≠ "java/lang/invoke/VarHandle" ∧ (parseMethodDescriptor yX5_markOfRusty.desc).map (fun d => d.parameters.length) = some 1 := by decide +kernel
theorem yd_X5_markOfDouble : yX5_markOfDouble.cls ≠ "java/lang/invoke/MethodHandle" ∧ yX5_markOfDouble.cls ≠ "java/lang/invoke/VarHandle" ∧ (parseMethodDescriptor yX5_markOfDouble.desc).map (fun d => d.parameters.length) = some 1 := by decide +kernel
theorem yd_X5_markOfSeized : yX5_markOfSeized.cls ≠ "java/lang/invoke/MethodHandle" ∧ yX5_markOfSeized.cls ≠ "java/lang/invoke/VarHandle" ∧ (parseMethodDescriptor yX5_markOfSeized.desc).map (fun d => d.parameters.length) = some 1 := by decide +kernel
theorem yd_X5_markOfPainted : yX5_markOfPainted.cls ≠ "java/lang/invoke/MethodHandle" ∧ yX5_markOfPainted.cls ≠ "java/lang/invoke/VarHandle" ∧ (parseMethodDescriptor yX5_markOfPainted.desc).map (fun d => d.parameters.length) = some 1 := by decide +kernel
theorem yd_X6_init : yX6_init.cls ≠ "java/lang/invoke/MethodHandle" ∧ yX6_init.cls ≠ "java/lang/invoke/VarHandle" ∧ (parseMethodDescriptor yX6_init.desc).map (fun d => d.parameters.length) = some 0 := by decide +kernel
theorem yd_X6_in : yX6_in.cls ≠ "java/lang/invoke/MethodHandle" ∧ yX6_in.cls ≠ "java/lang/invoke/VarHandle" ∧ (parseMethodDescriptor yX6_in.desc).map (fun d => d.parameters.length) = some 3 := by decide +kernel
theorem yd_X6_has : yX6_has.cls ≠ "java/lang/invoke/MethodHandle" ∧ yX6_has.cls ≠ "java/lang/invoke/VarHandle" ∧ (parseMethodDescriptor yX6_has.desc).map (fun d => d.parameters.length) = some 2 := by decide +kernel
theorem yd_X6_ones : yX6_ones.cls ≠ "java/lang/invoke/MethodHandle" ∧ yX6_ones.cls ≠ "java/lang/invoke/VarHandle" ∧ (parseMethodDescriptor yX6_ones.desc).map (fun d => d.parameters.length) = some 1 := by decide +kernel
theorem yd_X6_type : yX6_type.cls ≠ "java/lang/invoke/MethodHandle" ∧ yX6_type.cls ≠ "java/lang/invoke/VarHandle" ∧ (parseMethodDescriptor yX6_type.desc).map (fun d => d.parameters.length) = some 1 := by decide +kernel
theorem yd_X6_clear : yX6_clear.cls ≠ "java/lang/invoke/MethodHandle" ∧ yX6_clear.cls ≠ "java/lang/invoke/VarHandle" ∧ (parseMethodDescriptor yX6_clear.desc).map (fun d => d.parameters.length) = some 0 := by decide +kernel
theorem yd_X6_isFigure : yX6_isFigure.cls ≠ "java/lang/invoke/MethodHandle" ∧ yX6_isFigure.cls ≠ "java/lang/invoke/VarHandle" ∧ (parseMethodDescriptor yX6_isFigure.desc).map (fun d => d.parameters.length) = some 1 := by decide +kernel
theorem yd_X6_isLetter : yX6_isLetter.cls ≠ "java/lang/invoke/MethodHandle" ∧ yX6_isLetter.cls ≠ "java/lang/invoke/VarHandle" ∧ (parseMethodDescriptor yX6_isLetter.desc).map (fun d => d.parameters.length) = some 1 := by decide +kernel
theorem yd_X6_next : yX6_next.cls ≠ "java/lang/invoke/MethodHandle" ∧ yX6_next.cls ≠ "java/lang/invoke/VarHandle" ∧ (parseMethodDescriptor yX6_next.desc).map (fun d => d.parameters.length) = some 0 := by decide +kernel
theorem yd_X6_isNumber : yX6_isNumber.cls ≠ "java/lang/invoke/MethodHandle" ∧ yX6_isNumber.cls ≠ "java/lang/invoke/VarHandle" ∧ (parseMethodDescriptor yX6_isNumber.desc).map (fun d => d.parameters.length) = some 1 := by decide +kernel
theorem yd_X6_isEnd : yX6_isEnd.cls ≠ "java/lang/invoke/MethodHandle" ∧ yX6_isEnd.cls ≠ "java/lang/invoke/VarHandle" ∧ (parseMethodDescriptor yX6_isEnd.desc).map (fun d => d.parameters.length) = some 0 := by decide +kernel
theorem yd_X6_item : yX6_item.cls ≠ "java/lang/invoke/MethodHandle" ∧ yX6_item.cls ≠ "java/lang/invoke/VarHandle" ∧ (parseMethodDescriptor yX6_item.desc).map (fun d => d.parameters.length) = some 1 := by decide +kernel
theorem yd_X6_gate : yX6_gate.cls ≠ "java/lang/invoke/MethodHandle" ∧ yX6_gate.cls ≠ "java/lang/invoke/VarHandle" ∧ (parseMethodDescriptor yX6_gate.desc).map (fun d => d.parameters.length) = some 0 := by decide +kernel
theorem yd_X6_isLock : yX6_isLock.cls ≠ "java/lang/invoke/MethodHandle" ∧ yX6_isLock.cls ≠ "java/lang/invoke/VarHandle" ∧ (parseMethodDescriptor yX6_isLock.desc).map (fun d => d.parameters.length) = some 1 := by decide +kernel
theorem yd_X6_isOne : yX6_isOne.cls ≠ "java/lang/invoke/MethodHandle" ∧ yX6_isOne.cls ≠ "java/lang/invoke/VarHandle" ∧ (parseMethodDescriptor yX6_isOne.desc).map (fun d => d.parameters.length) = some 1 := by decide +kernel
theorem yd_X6_placeOf : yX6_placeOf.cls ≠ "java/lang/invoke/MethodHandle" ∧ yX6_placeOf.cls ≠ "java/lang/invoke/VarHandle" ∧ (parseMethodDescriptor yX6_placeOf.desc).map (fun d => d.parameters.length) = some 1 := by decide +kernel
theorem yd_X6_isRing : yX6_isRing.cls ≠ "java/lang/invoke/MethodHandle" ∧ yX6_isRing.cls ≠ "java/lang/invoke/VarHandle" ∧ (parseMethodDescriptor yX6_isRing.desc).map (fun d => d.parameters.length) = some 1 := by decide +kernel
theorem yd_X6_ring : yX6_ring.cls ≠ "java/lang/invoke/MethodHandle" ∧ yX6_ring.cls ≠ "java/lang/invoke/VarHandle" ∧ (parseMethodDescriptor yX6_ring.desc).map (fun d => d.parameters.length) = some 0 := by decide +kernel
theorem yd_X6_knowers : yX6_knowers.cls ≠ "java/lang/invoke/MethodHandle" ∧ yX6_knowers.cls ≠ "java/lang/invoke/VarHandle" ∧ (parseMethodDescriptor yX6_knowers.desc).map (fun d => d.parameters.length) = some 1 := by decide +kernel
theorem yd_X6_getsIn : yX6_getsIn.cls ≠ "java/lang/invoke/MethodHandle" ∧ yX6_getsIn.cls ≠ "java/lang/invoke/VarHandle" ∧ (parseMethodDescriptor yX6_getsIn.desc).map (fun d => d.parameters.length) = some 1 := by decide +kernel
theorem yd_X6_canShut : yX6_canShut.cls ≠ "java/lang/invoke/MethodHandle" ∧ yX6_canShut.cls ≠ "java/lang/invoke/VarHandle" ∧ (parseMethodDescriptor yX6_canShut.desc).map (fun d => d.parameters.length) = some 1 := by decide +kernel
theorem yd_X6_besideBy : yX6_besideBy.cls ≠ "java/lang/invoke/MethodHandle" ∧ yX6_besideBy.cls ≠ "java/lang/invoke/VarHandle" ∧ (parseMethodDescriptor yX6_besideBy.desc).map (fun d => d.parameters.length) = some 1 := by decide +kernel
theorem yd_X6_leftBy : yX6_leftBy.cls ≠ "java/lang/invoke/MethodHandle" ∧ yX6_leftBy.cls ≠ "java/lang/invoke/VarHandle" ∧ (parseMethodDescriptor yX6_leftBy.desc).map (fun d => d.parameters.length) = some 1 := by decide +kernel
theorem yd_X6_figure : yX6_figure.cls ≠ "java/lang/invoke/MethodHandle" ∧ yX6_figure.cls ≠ "java/lang/invoke/VarHandle" ∧ (parseMethodDescriptor yX6_figure.desc).map (fun d => d.parameters.length) = some 2 := by decide +kernel
theorem yd_X6_stepsOf : yX6_stepsOf.cls ≠ "java/lang/invoke/MethodHandle" ∧ yX6_stepsOf.cls ≠ "java/lang/invoke/VarHandle" ∧ (parseMethodDescriptor yX6_stepsOf.desc).map (fun d => d.parameters.length) = some 2 := by decide +kernel
theorem yd_X6_rightOf : yX6_rightOf.cls ≠ "java/lang/invoke/MethodHandle" ∧ yX6_rightOf.cls ≠ "java/lang/invoke/VarHandle" ∧ (parseMethodDescriptor yX6_rightOf.desc).map (fun d => d.parameters.length) = some 2 := by decide +kernel
theorem yd_X6_lock : yX6_lock.cls ≠ "java/lang/invoke/MethodHandle" ∧ yX6_lock.cls ≠ "java/lang/invoke/VarHandle" ∧ (parseMethodDescriptor yX6_lock.desc).map (fun d => d.parameters.length) = some 2 := by decide +kernel
theorem yd_X6_roundsOf : yX6_roundsOf.cls ≠ "java/lang/invoke/MethodHandle" ∧ yX6_roundsOf.cls ≠ "java/lang/invoke/VarHandle" ∧ (parseMethodDescriptor yX6_roundsOf.desc).map (fun d => d.parameters.length) = some 1 := by decide +kernel
theorem yd_X6_person : yX6_person.cls ≠ "java/lang/invoke/MethodHandle" ∧ yX6_person.cls ≠ "java/lang/invoke/VarHandle" ∧ (parseMethodDescriptor yX6_person.desc).map (fun d => d.parameters.length) = some 2 := by decide +kernel
theorem yd_X6_note : yX6_note.cls ≠ "java/lang/invoke/MethodHandle" ∧ yX6_note.cls ≠ "java/lang/invoke/VarHandle" ∧ (parseMethodDescriptor yX6_note.desc).map (fun d => d.parameters.length) = some 0 := by decide +kernel
theorem yd_X6_opens : yX6_opens.cls ≠ "java/lang/invoke/MethodHandle" ∧ yX6_opens.cls ≠ "java/lang/invoke/VarHandle" ∧ (parseMethodDescriptor yX6_opens.desc).map (fun d => d.parameters.length) = some 2 := by decide +kernel
theorem yd_X6_shuts : yX6_shuts.cls ≠ "java/lang/invoke/MethodHandle" ∧ yX6_shuts.cls ≠ "java/lang/invoke/VarHandle" ∧ (parseMethodDescriptor yX6_shuts.desc).map (fun d => d.parameters.length) = some 2 := by decide +kernel
theorem yd_X6_hangs : yX6_hangs.cls ≠ "java/lang/invoke/MethodHandle" ∧ yX6_hangs.cls ≠ "java/lang/invoke/VarHandle" ∧ (parseMethodDescriptor yX6_hangs.desc).map (fun d => d.parameters.length) = some 2 := by decide +kernel
theorem yd_X6_tells : yX6_tells.cls ≠ "java/lang/invoke/MethodHandle" ∧ yX6_tells.cls ≠ "java/lang/invoke/VarHandle" ∧ (parseMethodDescriptor yX6_tells.desc).map (fun d => d.parameters.length) = some 3 := by decide +kernel
theorem yd_X6_changes : yX6_changes.cls ≠ "java/lang/invoke/MethodHandle" ∧ yX6_changes.cls ≠ "java/lang/invoke/VarHandle" ∧ (parseMethodDescriptor yX6_changes.desc).map (fun d => d.parameters.length) = some 2 := by decide +kernel
theorem yd_X6_tries : yX6_tries.cls ≠ "java/lang/invoke/MethodHandle" ∧ yX6_tries.cls ≠ "java/lang/invoke/VarHandle" ∧ (parseMethodDescriptor yX6_tries.desc).map (fun d => d.parameters.length) = some 2 := by decide +kernel
theorem yd_X6_undo : yX6_undo.cls ≠ "java/lang/invoke/MethodHandle" ∧ yX6_undo.cls ≠ "java/lang/invoke/VarHandle" ∧ (parseMethodDescriptor yX6_undo.desc).map (fun d => d.parameters.length) = some 0 := by decide +kernel
theorem yd_X6_worst : yX6_worst.cls ≠ "java/lang/invoke/MethodHandle" ∧ yX6_worst.cls ≠ "java/lang/invoke/VarHandle" ∧ (parseMethodDescriptor yX6_worst.desc).map (fun d => d.parameters.length) = some 0 := by decide +kernel
theorem yd_X6_greatestRounds : yX6_greatestRounds.cls ≠ "java/lang/invoke/MethodHandle" ∧ yX6_greatestRounds.cls ≠ "java/lang/invoke/VarHandle" ∧ (parseMethodDescriptor yX6_greatestRounds.desc).map (fun d => d.parameters.length) = some 0 := by decide +kernel
theorem yd_X6_now : yX6_now.cls ≠ "java/lang/invoke/MethodHandle" ∧ yX6_now.cls ≠ "java/lang/invoke/VarHandle" ∧ (parseMethodDescriptor yX6_now.desc).map (fun d => d.parameters.length) = some 1 := by decide +kernel
theorem yd_X6_left : yX6_left.cls ≠ "java/lang/invoke/MethodHandle" ∧ yX6_left.cls ≠ "java/lang/invoke/VarHandle" ∧ (parseMethodDescriptor yX6_left.desc).map (fun d => d.parameters.length) = some 1 := by decide +kernel
theorem yd_X6_jam : yX6_jam.cls ≠ "java/lang/invoke/MethodHandle" ∧ yX6_jam.cls ≠ "java/lang/invoke/VarHandle" ∧ (parseMethodDescriptor yX6_jam.desc).map (fun d => d.parameters.length) = some 1 := by decide +kernel
theorem yd_X6_near : yX6_near.cls ≠ "java/lang/invoke/MethodHandle" ∧ yX6_near.cls ≠ "java/lang/invoke/VarHandle" ∧ (parseMethodDescriptor yX6_near.desc).map (fun d => d.parameters.length) = some 2 := by decide +kernel
theorem yd_X6_odds : yX6_odds.cls ≠ "java/lang/invoke/MethodHandle" ∧ yX6_odds.cls ≠ "java/lang/invoke/VarHandle" ∧ (parseMethodDescriptor yX6_odds.desc).map (fun d => d.parameters.length) = some 2 := by decide +kernel
theorem yd_X6_hears : yX6_hears.cls ≠ "java/lang/invoke/MethodHandle" ∧ yX6_hears.cls ≠ "java/lang/invoke/VarHandle" ∧ (parseMethodDescriptor yX6_hears.desc).map (fun d => d.parameters.length) = some 2 := by decide +kernel
theorem yd_X6_forget : yX6_forget.cls ≠ "java/lang/invoke/MethodHandle" ∧ yX6_forget.cls ≠ "java/lang/invoke/VarHandle" ∧ (parseMethodDescriptor yX6_forget.desc).map (fun d => d.parameters.length) = some 0 := by decide +kernel
theorem yd_X6_fits : yX6_fits.cls ≠ "java/lang/invoke/MethodHandle" ∧ yX6_fits.cls ≠ "java/lang/invoke/VarHandle" ∧ (parseMethodDescriptor yX6_fits.desc).map (fun d => d.parameters.length) = some 1 := by decide +kernel
theorem yd_X6_codes : yX6_codes.cls ≠ "java/lang/invoke/MethodHandle" ∧ yX6_codes.cls ≠ "java/lang/invoke/VarHandle" ∧ (parseMethodDescriptor yX6_codes.desc).map (fun d => d.parameters.length) = some 1 := by decide +kernel
theorem yd_X6_ask : yX6_ask.cls ≠ "java/lang/invoke/MethodHandle" ∧ yX6_ask.cls ≠ "java/lang/invoke/VarHandle" ∧ (parseMethodDescriptor yX6_ask.desc).map (fun d => d.parameters.length) = some 0 := by decide +kernel
theorem yd_X6_asLock : yX6_asLock.cls ≠ "java/lang/invoke/MethodHandle" ∧ yX6_asLock.cls ≠ "java/lang/invoke/VarHandle" ∧ (parseMethodDescriptor yX6_asLock.desc).map (fun d => d.parameters.length) = some 1 := by decide +kernel
theorem yd_X6_asBrass : yX6_asBrass.cls ≠ "java/lang/invoke/MethodHandle" ∧ yX6_asBrass.cls ≠ "java/lang/invoke/VarHandle" ∧ (parseMethodDescriptor yX6_asBrass.desc).map (fun d => d.parameters.length) = some 1 := by decide +kernel
theorem yd_X6_asRusty : yX6_asRusty.cls ≠ "java/lang/invoke/MethodHandle" ∧ yX6_asRusty.cls ≠ "java/lang/invoke/VarHandle" ∧ (parseMethodDescriptor yX6_asRusty.desc).map (fun d => d.parameters.length) = some 1 := by decide +kernel
theorem yd_X6_asDouble : yX6_asDouble.cls ≠ "java/lang/invoke/MethodHandle" ∧ yX6_asDouble.cls ≠ "java/lang/invoke/VarHandle" ∧ (parseMethodDescriptor yX6_asDouble.desc).map (fun d => d.parameters.length) = some 1 := by decide +kernel
theorem yd_X6_asSeized : yX6_asSeized.cls ≠ "java/lang/invoke/MethodHandle" ∧ yX6_asSeized.cls ≠ "java/lang/invoke/VarHandle" ∧ (parseMethodDescriptor yX6_asSeized.desc).map (fun d => d.parameters.length) = some 1 := by decide +kernel
theorem yd_X6_asPainted : yX6_asPainted.cls ≠ "java/lang/invoke/MethodHandle" ∧ yX6_asPainted.cls ≠ "java/lang/invoke/VarHandle" ∧ (parseMethodDescriptor yX6_asPainted.desc).map (fun d => d.parameters.length) = some 1 := by decide +kernel
theorem yd_X6_mark : yX6_mark.cls ≠ "java/lang/invoke/MethodHandle" ∧ yX6_mark.cls ≠ "java/lang/invoke/VarHandle" ∧ (parseMethodDescriptor yX6_mark.desc).map (fun d => d.parameters.length) = some 2 := by decide +kernel
theorem yd_X6_keep : yX6_keep.cls ≠ "java/lang/invoke/MethodHandle" ∧ yX6_keep.cls ≠ "java/lang/invoke/VarHandle" ∧ (parseMethodDescriptor yX6_keep.desc).map (fun d => d.parameters.length) = some 1 := by decide +kernel
theorem yd_X6_back : yX6_back.cls ≠ "java/lang/invoke/MethodHandle" ∧ yX6_back.cls ≠ "java/lang/invoke/VarHandle" ∧ (parseMethodDescriptor yX6_back.desc).map (fun d => d.parameters.length) = some 1 := by decide +kernel
theorem yd_X6_count : yX6_count.cls ≠ "java/lang/invoke/MethodHandle" ∧ yX6_count.cls ≠ "java/lang/invoke/VarHandle" ∧ (parseMethodDescriptor yX6_count.desc).map (fun d => d.parameters.length) = some 1 := by decide +kernel
theorem yd_X6_trace : yX6_trace.cls ≠ "java/lang/invoke/MethodHandle" ∧ yX6_trace.cls ≠ "java/lang/invoke/VarHandle" ∧ (parseMethodDescriptor yX6_trace.desc).map (fun d => d.parameters.length) = some 0 := by decide +kernel
theorem yd_J6_bitCount_0f7a4 : yJ6_bitCount_0f7a4.cls ≠ "java/lang/invoke/MethodHandle" ∧ yJ6_bitCount_0f7a4.cls ≠ "java/lang/invoke/VarHandle" ∧ (parseMethodDescriptor yJ6_bitCount_0f7a4.desc).map (fun d => d.parameters.length) = some 1 := by decide +kernel
theorem yd_J7_fill_53178 : yJ7_fill_53178.cls ≠ "java/lang/invoke/MethodHandle" ∧ yJ7_fill_53178.cls ≠ "java/lang/invoke/VarHandle" ∧ (parseMethodDescriptor yJ7_fill_53178.desc).map (fun d => d.parameters.length) = some 2 := by decide +kernel
abbrev wx_X5_9_w : Cond := .methodLinkNest RX5 9 yX4_init "GateChain"
theorem wx_X5_9 : wx_X5_9_w ∈ lw_tbl := List.mem_of_getElem? (i := 60) (by decide +kernel)
abbrev wx_X5_40_w : Cond := .methodLinkNest RX5 40 yX1_init "GateChain"
theorem wx_X5_40 : wx_X5_40_w ∈ lw_tbl := List.mem_of_getElem? (i := 178) (by decide +kernel)
abbrev wx_X3_68_w : Cond := .methodLinkNest RX3 68 yX5_stepsBetween "GateChain"
theorem wx_X3_68 : wx_X3_68_w ∈ lw_tbl := List.mem_of_getElem? (i := 342) (by decide +kernel)
abbrev wx_X3_64_w : Cond := .methodLinkNest RX3 64 yX5_hasBit "GateChain"
theorem wx_X3_64 : wx_X3_64_w ∈ lw_tbl := List.mem_of_getElem? (i := 377) (by decide +kernel)
abbrev wx_X2_43_w : Cond := .methodLinkNest RX2 43 yX5_rightWheels "GateChain"
theorem wx_X2_43 : wx_X2_43_w ∈ lw_tbl := List.mem_of_getElem? (i := 544) (by decide +kernel)
theorem wo_X3 : Cond.arrayOver (.object RX3) ∈ lw_tbl := List.mem_of_getElem? (i := 120) (by decide +kernel)
theorem wo_X0 : Cond.arrayOver (.object RX0) ∈ lw_tbl := List.mem_of_getElem? (i := 133) (by decide +kernel)
