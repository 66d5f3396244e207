section
-- ===== PART A: goes FIRST, ahead of the names: the tables' words, and 'selects' of the private methods out of them =====
/-- a private method of a class that the tables say can be made, by its rows of tables_1 -/
def lw_okq (q : MethodName × Nat) : Prop := (q.1.cls ≠ "java/lang/invoke/MethodHandle" ∧ q.1.cls ≠ "java/lang/invoke/VarHandle") ∧ Cond.instantiable q.1.cls q.2 ∈ tables_1 ∧ Cond.privateMethod q.1 ∈ tables_1 ∧ Cond.instanceMethod q.1 ∈ tables_1
theorem lw_p0 : lw_okq (⟨"NearLiars$Net", "around", "(III)I"⟩, 8) := ⟨⟨by decide +kernel, by decide +kernel⟩, List.mem_of_getElem? (i := 21) (by decide +kernel), List.mem_of_getElem? (i := 34) (by decide +kernel), List.mem_of_getElem? (i := 35) (by decide +kernel)⟩
theorem lw_p1 : lw_okq (⟨"NearLiars$Run", "dealSlots", "(LNearLiars$Net;)V"⟩, 7) := ⟨⟨by decide +kernel, by decide +kernel⟩, List.mem_of_getElem? (i := 82) (by decide +kernel), List.mem_of_getElem? (i := 197) (by decide +kernel), List.mem_of_getElem? (i := 198) (by decide +kernel)⟩
theorem lw_p2 : lw_okq (⟨"NearLiars$Run", "slotsNear", "(LNearLiars$Net;I)I"⟩, 7) := ⟨⟨by decide +kernel, by decide +kernel⟩, List.mem_of_getElem? (i := 82) (by decide +kernel), List.mem_of_getElem? (i := 201) (by decide +kernel), List.mem_of_getElem? (i := 202) (by decide +kernel)⟩
theorem lw_p3 : lw_okq (⟨"NearLiars", "layAnew", "(III)I"⟩, 5) := ⟨⟨by decide +kernel, by decide +kernel⟩, List.mem_of_getElem? (i := 13) (by decide +kernel), List.mem_of_getElem? (i := 240) (by decide +kernel), List.mem_of_getElem? (i := 241) (by decide +kernel)⟩
theorem lw_p4 : lw_okq (⟨"NearLiars$Run", "speak", "(LNearLiars$Net;I)I"⟩, 7) := ⟨⟨by decide +kernel, by decide +kernel⟩, List.mem_of_getElem? (i := 82) (by decide +kernel), List.mem_of_getElem? (i := 305) (by decide +kernel), List.mem_of_getElem? (i := 306) (by decide +kernel)⟩
theorem lw_p5 : lw_okq (⟨"NearLiars$Run", "hear", "(LNearLiars$Net;III)I"⟩, 7) := ⟨⟨by decide +kernel, by decide +kernel⟩, List.mem_of_getElem? (i := 82) (by decide +kernel), List.mem_of_getElem? (i := 310) (by decide +kernel), List.mem_of_getElem? (i := 311) (by decide +kernel)⟩
theorem lw_p6 : lw_okq (⟨"NearLiars$Net", "withJoining", "(III)I"⟩, 8) := ⟨⟨by decide +kernel, by decide +kernel⟩, List.mem_of_getElem? (i := 21) (by decide +kernel), List.mem_of_getElem? (i := 386) (by decide +kernel), List.mem_of_getElem? (i := 387) (by decide +kernel)⟩
theorem lw_p7 : lw_okq (⟨"NearLiars$Survey", "weigh", "(II)V"⟩, 4) := ⟨⟨by decide +kernel, by decide +kernel⟩, List.mem_of_getElem? (i := 116) (by decide +kernel), List.mem_of_getElem? (i := 412) (by decide +kernel), List.mem_of_getElem? (i := 413) (by decide +kernel)⟩
theorem lw_p8 : lw_okq (⟨"NearLiars$Claims", "isInHand", "(I)Z"⟩, 9) := ⟨⟨by decide +kernel, by decide +kernel⟩, List.mem_of_getElem? (i := 154) (by decide +kernel), List.mem_of_getElem? (i := 465) (by decide +kernel), List.mem_of_getElem? (i := 466) (by decide +kernel)⟩
theorem lw_p9 : lw_okq (⟨"NearLiars$Claims", "forgetOldest", "()V"⟩, 9) := ⟨⟨by decide +kernel, by decide +kernel⟩, List.mem_of_getElem? (i := 154) (by decide +kernel), List.mem_of_getElem? (i := 473) (by decide +kernel), List.mem_of_getElem? (i := 474) (by decide +kernel)⟩
theorem lw_p10 : lw_okq (⟨"NearLiars$Claims", "gatherInner", "(II)I"⟩, 9) := ⟨⟨by decide +kernel, by decide +kernel⟩, List.mem_of_getElem? (i := 154) (by decide +kernel), List.mem_of_getElem? (i := 499) (by decide +kernel), List.mem_of_getElem? (i := 500) (by decide +kernel)⟩
theorem lw_p11 : lw_okq (⟨"NearLiars$Claims", "areApart", "(II)Z"⟩, 9) := ⟨⟨by decide +kernel, by decide +kernel⟩, List.mem_of_getElem? (i := 154) (by decide +kernel), List.mem_of_getElem? (i := 505) (by decide +kernel), List.mem_of_getElem? (i := 506) (by decide +kernel)⟩
theorem lw_p12 : lw_okq (⟨"NearLiarsModel", "begins", "()V"⟩, 26) := ⟨⟨by decide +kernel, by decide +kernel⟩, List.mem_of_getElem? (i := 527) (by decide +kernel), List.mem_of_getElem? (i := 533) (by decide +kernel), List.mem_of_getElem? (i := 534) (by decide +kernel)⟩
theorem lw_p13 : lw_okq (⟨"NearLiarsModel", "dealsSlots", "()V"⟩, 26) := ⟨⟨by decide +kernel, by decide +kernel⟩, List.mem_of_getElem? (i := 527) (by decide +kernel), List.mem_of_getElem? (i := 537) (by decide +kernel), List.mem_of_getElem? (i := 538) (by decide +kernel)⟩
theorem lw_p14 : lw_okq (⟨"NearLiarsModel", "isFreeSlot", "(II)Z"⟩, 26) := ⟨⟨by decide +kernel, by decide +kernel⟩, List.mem_of_getElem? (i := 527) (by decide +kernel), List.mem_of_getElem? (i := 541) (by decide +kernel), List.mem_of_getElem? (i := 542) (by decide +kernel)⟩
theorem lw_p15 : lw_okq (⟨"NearLiarsModel", "isApart", "(II)Z"⟩, 26) := ⟨⟨by decide +kernel, by decide +kernel⟩, List.mem_of_getElem? (i := 527) (by decide +kernel), List.mem_of_getElem? (i := 545) (by decide +kernel), List.mem_of_getElem? (i := 546) (by decide +kernel)⟩
def lw_privs_1 : List (MethodName × Nat) := [(⟨"NearLiars$Net", "around", "(III)I"⟩, 8), (⟨"NearLiars$Run", "dealSlots", "(LNearLiars$Net;)V"⟩, 7), (⟨"NearLiars$Run", "slotsNear", "(LNearLiars$Net;I)I"⟩, 7), (⟨"NearLiars", "layAnew", "(III)I"⟩, 5), (⟨"NearLiars$Run", "speak", "(LNearLiars$Net;I)I"⟩, 7), (⟨"NearLiars$Run", "hear", "(LNearLiars$Net;III)I"⟩, 7), (⟨"NearLiars$Net", "withJoining", "(III)I"⟩, 8), (⟨"NearLiars$Survey", "weigh", "(II)V"⟩, 4), (⟨"NearLiars$Claims", "isInHand", "(I)Z"⟩, 9), (⟨"NearLiars$Claims", "forgetOldest", "()V"⟩, 9), (⟨"NearLiars$Claims", "gatherInner", "(II)I"⟩, 9), (⟨"NearLiars$Claims", "areApart", "(II)Z"⟩, 9), (⟨"NearLiarsModel", "begins", "()V"⟩, 26), (⟨"NearLiarsModel", "dealsSlots", "()V"⟩, 26), (⟨"NearLiarsModel", "isFreeSlot", "(II)Z"⟩, 26), (⟨"NearLiarsModel", "isApart", "(II)Z"⟩, 26)]
theorem lw_r1 : ∀ q ∈ lw_privs_1, lw_okq q := List.forall_mem_cons.mpr ⟨lw_p0, List.forall_mem_cons.mpr ⟨lw_p1, List.forall_mem_cons.mpr ⟨lw_p2, List.forall_mem_cons.mpr ⟨lw_p3, List.forall_mem_cons.mpr ⟨lw_p4, List.forall_mem_cons.mpr ⟨lw_p5, List.forall_mem_cons.mpr ⟨lw_p6, List.forall_mem_cons.mpr ⟨lw_p7, List.forall_mem_cons.mpr ⟨lw_p8, List.forall_mem_cons.mpr ⟨lw_p9, List.forall_mem_cons.mpr ⟨lw_p10, List.forall_mem_cons.mpr ⟨lw_p11, List.forall_mem_cons.mpr ⟨lw_p12, List.forall_mem_cons.mpr ⟨lw_p13, List.forall_mem_cons.mpr ⟨lw_p14, List.forall_mem_cons.mpr ⟨lw_p15, fun _ h => absurd h List.not_mem_nil⟩⟩⟩⟩⟩⟩⟩⟩⟩⟩⟩⟩⟩⟩⟩⟩
theorem lw_p16 : lw_okq (⟨"NearLiarsModel", "lays", "(III)V"⟩, 26) := ⟨⟨by decide +kernel, by decide +kernel⟩, List.mem_of_getElem? (i := 527) (by decide +kernel), List.mem_of_getElem? (i := 639) (by decide +kernel), List.mem_of_getElem? (i := 640) (by decide +kernel)⟩
theorem lw_p17 : lw_okq (⟨"NearLiarsModel", "forgets", "()V"⟩, 26) := ⟨⟨by decide +kernel, by decide +kernel⟩, List.mem_of_getElem? (i := 527) (by decide +kernel), List.mem_of_getElem? (i := 643) (by decide +kernel), List.mem_of_getElem? (i := 644) (by decide +kernel)⟩
theorem lw_p18 : lw_okq (⟨"NearLiarsModel", "isNode", "(I)Z"⟩, 26) := ⟨⟨by decide +kernel, by decide +kernel⟩, List.mem_of_getElem? (i := 527) (by decide +kernel), List.mem_of_getElem? (i := 655) (by decide +kernel), List.mem_of_getElem? (i := 656) (by decide +kernel)⟩
theorem lw_p19 : lw_okq (⟨"NearLiarsModel", "tick", "()I"⟩, 26) := ⟨⟨by decide +kernel, by decide +kernel⟩, List.mem_of_getElem? (i := 527) (by decide +kernel), List.mem_of_getElem? (i := 683) (by decide +kernel), List.mem_of_getElem? (i := 684) (by decide +kernel)⟩
theorem lw_p20 : lw_okq (⟨"NearLiarsModel", "says", "(I)I"⟩, 26) := ⟨⟨by decide +kernel, by decide +kernel⟩, List.mem_of_getElem? (i := 527) (by decide +kernel), List.mem_of_getElem? (i := 687) (by decide +kernel), List.mem_of_getElem? (i := 688) (by decide +kernel)⟩
theorem lw_p21 : lw_okq (⟨"NearLiarsModel", "isHonest", "(I)Z"⟩, 26) := ⟨⟨by decide +kernel, by decide +kernel⟩, List.mem_of_getElem? (i := 527) (by decide +kernel), List.mem_of_getElem? (i := 691) (by decide +kernel), List.mem_of_getElem? (i := 692) (by decide +kernel)⟩
theorem lw_p22 : lw_okq (⟨"NearLiarsModel", "speaks", "(II)I"⟩, 26) := ⟨⟨by decide +kernel, by decide +kernel⟩, List.mem_of_getElem? (i := 527) (by decide +kernel), List.mem_of_getElem? (i := 695) (by decide +kernel), List.mem_of_getElem? (i := 696) (by decide +kernel)⟩
theorem lw_p23 : lw_okq (⟨"NearLiarsModel", "heardBy", "(I)I"⟩, 26) := ⟨⟨by decide +kernel, by decide +kernel⟩, List.mem_of_getElem? (i := 527) (by decide +kernel), List.mem_of_getElem? (i := 706) (by decide +kernel), List.mem_of_getElem? (i := 707) (by decide +kernel)⟩
theorem lw_p24 : lw_okq (⟨"NearLiarsModel", "lastIn", "(II)I"⟩, 26) := ⟨⟨by decide +kernel, by decide +kernel⟩, List.mem_of_getElem? (i := 527) (by decide +kernel), List.mem_of_getElem? (i := 714) (by decide +kernel), List.mem_of_getElem? (i := 715) (by decide +kernel)⟩
theorem lw_p25 : lw_okq (⟨"NearLiarsModel", "manyHonest", "(III)I"⟩, 26) := ⟨⟨by decide +kernel, by decide +kernel⟩, List.mem_of_getElem? (i := 527) (by decide +kernel), List.mem_of_getElem? (i := 718) (by decide +kernel), List.mem_of_getElem? (i := 719) (by decide +kernel)⟩
theorem lw_p26 : lw_okq (⟨"NearLiarsModel", "isSet", "(I)Z"⟩, 26) := ⟨⟨by decide +kernel, by decide +kernel⟩, List.mem_of_getElem? (i := 527) (by decide +kernel), List.mem_of_getElem? (i := 726) (by decide +kernel), List.mem_of_getElem? (i := 727) (by decide +kernel)⟩
theorem lw_p27 : lw_okq (⟨"NearLiarsModel", "crowdedBy", "(II)I"⟩, 26) := ⟨⟨by decide +kernel, by decide +kernel⟩, List.mem_of_getElem? (i := 527) (by decide +kernel), List.mem_of_getElem? (i := 730) (by decide +kernel), List.mem_of_getElem? (i := 731) (by decide +kernel)⟩
theorem lw_p28 : lw_okq (⟨"NearLiarsModel", "cutBy", "(II)I"⟩, 26) := ⟨⟨by decide +kernel, by decide +kernel⟩, List.mem_of_getElem? (i := 527) (by decide +kernel), List.mem_of_getElem? (i := 734) (by decide +kernel), List.mem_of_getElem? (i := 735) (by decide +kernel)⟩
theorem lw_p29 : lw_okq (⟨"NearLiarsModel", "reachedBy", "(II)I"⟩, 26) := ⟨⟨by decide +kernel, by decide +kernel⟩, List.mem_of_getElem? (i := 527) (by decide +kernel), List.mem_of_getElem? (i := 738) (by decide +kernel), List.mem_of_getElem? (i := 739) (by decide +kernel)⟩
theorem lw_p30 : lw_okq (⟨"NearLiarsModel", "triesSets", "(I)V"⟩, 26) := ⟨⟨by decide +kernel, by decide +kernel⟩, List.mem_of_getElem? (i := 527) (by decide +kernel), List.mem_of_getElem? (i := 754) (by decide +kernel), List.mem_of_getElem? (i := 755) (by decide +kernel)⟩
theorem lw_p31 : lw_okq (⟨"NearLiarsModel", "isOnWay", "(I)Z"⟩, 26) := ⟨⟨by decide +kernel, by decide +kernel⟩, List.mem_of_getElem? (i := 527) (by decide +kernel), List.mem_of_getElem? (i := 774) (by decide +kernel), List.mem_of_getElem? (i := 775) (by decide +kernel)⟩
def lw_privs_2 : List (MethodName × Nat) := [(⟨"NearLiarsModel", "lays", "(III)V"⟩, 26), (⟨"NearLiarsModel", "forgets", "()V"⟩, 26), (⟨"NearLiarsModel", "isNode", "(I)Z"⟩, 26), (⟨"NearLiarsModel", "tick", "()I"⟩, 26), (⟨"NearLiarsModel", "says", "(I)I"⟩, 26), (⟨"NearLiarsModel", "isHonest", "(I)Z"⟩, 26), (⟨"NearLiarsModel", "speaks", "(II)I"⟩, 26), (⟨"NearLiarsModel", "heardBy", "(I)I"⟩, 26), (⟨"NearLiarsModel", "lastIn", "(II)I"⟩, 26), (⟨"NearLiarsModel", "manyHonest", "(III)I"⟩, 26), (⟨"NearLiarsModel", "isSet", "(I)Z"⟩, 26), (⟨"NearLiarsModel", "crowdedBy", "(II)I"⟩, 26), (⟨"NearLiarsModel", "cutBy", "(II)I"⟩, 26), (⟨"NearLiarsModel", "reachedBy", "(II)I"⟩, 26), (⟨"NearLiarsModel", "triesSets", "(I)V"⟩, 26), (⟨"NearLiarsModel", "isOnWay", "(I)Z"⟩, 26)]
theorem lw_r2 : ∀ q ∈ lw_privs_2, lw_okq q := List.forall_mem_cons.mpr ⟨lw_p16, List.forall_mem_cons.mpr ⟨lw_p17, List.forall_mem_cons.mpr ⟨lw_p18, List.forall_mem_cons.mpr ⟨lw_p19, List.forall_mem_cons.mpr ⟨lw_p20, List.forall_mem_cons.mpr ⟨lw_p21, List.forall_mem_cons.mpr ⟨lw_p22, List.forall_mem_cons.mpr ⟨lw_p23, List.forall_mem_cons.mpr ⟨lw_p24, List.forall_mem_cons.mpr ⟨lw_p25, List.forall_mem_cons.mpr ⟨lw_p26, List.forall_mem_cons.mpr ⟨lw_p27, List.forall_mem_cons.mpr ⟨lw_p28, List.forall_mem_cons.mpr ⟨lw_p29, List.forall_mem_cons.mpr ⟨lw_p30, List.forall_mem_cons.mpr ⟨lw_p31, fun _ h => absurd h List.not_mem_nil⟩⟩⟩⟩⟩⟩⟩⟩⟩⟩⟩⟩⟩⟩⟩⟩
theorem lw_p32 : lw_okq (⟨"NearLiarsModel", "isClaimed", "(I)Z"⟩, 26) := ⟨⟨by decide +kernel, by decide +kernel⟩, List.mem_of_getElem? (i := 527) (by decide +kernel), List.mem_of_getElem? (i := 782) (by decide +kernel), List.mem_of_getElem? (i := 783) (by decide +kernel)⟩
theorem lw_p33 : lw_okq (⟨"NearLiarsModel", "oldestGoes", "()V"⟩, 26) := ⟨⟨by decide +kernel, by decide +kernel⟩, List.mem_of_getElem? (i := 527) (by decide +kernel), List.mem_of_getElem? (i := 786) (by decide +kernel), List.mem_of_getElem? (i := 787) (by decide +kernel)⟩
theorem lw_p34 : lw_okq (⟨"NearLiarsModel", "setOf", "(I)I"⟩, 26) := ⟨⟨by decide +kernel, by decide +kernel⟩, List.mem_of_getElem? (i := 527) (by decide +kernel), List.mem_of_getElem? (i := 798) (by decide +kernel), List.mem_of_getElem? (i := 799) (by decide +kernel)⟩
theorem lw_p35 : lw_okq (⟨"NearLiarsModel", "proofOf", "(II)I"⟩, 26) := ⟨⟨by decide +kernel, by decide +kernel⟩, List.mem_of_getElem? (i := 527) (by decide +kernel), List.mem_of_getElem? (i := 806) (by decide +kernel), List.mem_of_getElem? (i := 807) (by decide +kernel)⟩
theorem lw_p36 : lw_okq (⟨"NearLiarsModel", "proves", "(III)I"⟩, 26) := ⟨⟨by decide +kernel, by decide +kernel⟩, List.mem_of_getElem? (i := 527) (by decide +kernel), List.mem_of_getElem? (i := 810) (by decide +kernel), List.mem_of_getElem? (i := 811) (by decide +kernel)⟩
theorem lw_p37 : lw_okq (⟨"NearLiarsModel", "twos", "()I"⟩, 26) := ⟨⟨by decide +kernel, by decide +kernel⟩, List.mem_of_getElem? (i := 527) (by decide +kernel), List.mem_of_getElem? (i := 822) (by decide +kernel), List.mem_of_getElem? (i := 823) (by decide +kernel)⟩
def lw_privs_3 : List (MethodName × Nat) := [(⟨"NearLiarsModel", "isClaimed", "(I)Z"⟩, 26), (⟨"NearLiarsModel", "oldestGoes", "()V"⟩, 26), (⟨"NearLiarsModel", "setOf", "(I)I"⟩, 26), (⟨"NearLiarsModel", "proofOf", "(II)I"⟩, 26), (⟨"NearLiarsModel", "proves", "(III)I"⟩, 26), (⟨"NearLiarsModel", "twos", "()I"⟩, 26)]
theorem lw_r3 : ∀ q ∈ lw_privs_3, lw_okq q := List.forall_mem_cons.mpr ⟨lw_p32, List.forall_mem_cons.mpr ⟨lw_p33, List.forall_mem_cons.mpr ⟨lw_p34, List.forall_mem_cons.mpr ⟨lw_p35, List.forall_mem_cons.mpr ⟨lw_p36, List.forall_mem_cons.mpr ⟨lw_p37, fun _ h => absurd h List.not_mem_nil⟩⟩⟩⟩⟩⟩
def lw_privs : List (MethodName × Nat) := lw_privs_1 ++ (lw_privs_2 ++ (lw_privs_3))
def lw_tbl : List Cond := k2_sels lw_privs ++ tables_1
theorem lw_privs_ok : ∀ q ∈ lw_privs, lw_okq q := by
  show ∀ q ∈ lw_privs_1 ++ (lw_privs_2 ++ (lw_privs_3)), lw_okq q
  exact List.forall_mem_append.mpr ⟨lw_r1, List.forall_mem_append.mpr ⟨lw_r2, lw_r3⟩⟩
end
section
def RX0 : String := "NearLiars$Claims"
def TX0 : u_T := fun k => match k with
  | 0 => ("NearLiars$Claims", "hand", "[I", true)
  | 1 => ("NearLiars$Claims", "ways", "[I", true)
  | 2 => ("NearLiars$Claims", "lengths", "[I", true)
  | 3 => ("NearLiars$Claims", "sets", "[I", true)
  | 4 => ("NearLiars$Claims", "values", "[I", true)
  | 5 => ("NearLiars$Claims", "inner", "[I", true)
  | 6 => ("NearLiars$Claims", "handSet", "I", false)
  | 7 => ("NearLiars$Claims", "steps", "I", false)
  | _ => ("NearLiars$Claims", "count", "I", false)
def tyX0 : Nat → FieldType := fun k => match k with
  | 0 => .array .int
  | 1 => .array .int
  | 2 => .array .int
  | 3 => .array .int
  | 4 => .array .int
  | 5 => .array .int
  | 6 => .int
  | 7 => .int
  | _ => .int
theorem nmX0 : ∀ a, a < 9 → ∀ b, b < 9 → a ≠ b → (TX0 a).2.1 ≠ (TX0 b).2.1 := by decide +kernel
theorem tyX0_ok : ∀ k, k < 9 → parseFieldDescriptor (TX0 k).2.2.1 = some (tyX0 k) := by decide +kernel
abbrev cX0_init : ByteArray := prog_2_method_1_code
def yX0_init : MethodName := ⟨RX0, "<init>", "()V"⟩
abbrev cX0_forget : ByteArray := prog_2_method_2_code
def yX0_forget : MethodName := ⟨RX0, "forget", "()V"⟩
abbrev cX0_letGo : ByteArray := prog_2_method_3_code
def yX0_letGo : MethodName := ⟨RX0, "letGo", "()V"⟩
abbrev cX0_canStep : ByteArray := prog_2_method_4_code
def yX0_canStep : MethodName := ⟨RX0, "canStep", "(LNearLiars$Net;I)Z"⟩
abbrev cX0_step : ByteArray := prog_2_method_5_code
def yX0_step : MethodName := ⟨RX0, "step", "(I)I"⟩
abbrev cX0_isTold : ByteArray := prog_2_method_6_code
def yX0_isTold : MethodName := ⟨RX0, "isTold", "(I)Z"⟩
abbrev cX0_isInHand : ByteArray := prog_2_method_7_code
def yX0_isInHand : MethodName := ⟨RX0, "isInHand", "(I)Z"⟩
abbrev cX0_keep : ByteArray := prog_2_method_8_code
def yX0_keep : MethodName := ⟨RX0, "keep", "(I)I"⟩
abbrev cX0_forgetOldest : ByteArray := prog_2_method_9_code
def yX0_forgetOldest : MethodName := ⟨RX0, "forgetOldest", "()V"⟩
abbrev cX0_placeOf : ByteArray := prog_2_method_10_code
def yX0_placeOf : MethodName := ⟨RX0, "placeOf", "(II)I"⟩
abbrev cX0_mostApart : ByteArray := prog_2_method_11_code
def yX0_mostApart : MethodName := ⟨RX0, "mostApart", "(II)I"⟩
abbrev cX0_gatherInner : ByteArray := prog_2_method_12_code
def yX0_gatherInner : MethodName := ⟨RX0, "gatherInner", "(II)I"⟩
abbrev cX0_areApart : ByteArray := prog_2_method_13_code
def yX0_areApart : MethodName := ⟨RX0, "areApart", "(II)Z"⟩
abbrev cX0_soleGreatest : ByteArray := prog_2_method_14_code
def yX0_soleGreatest : MethodName := ⟨RX0, "soleGreatest", "(II)I"⟩
def RX1 : String := "NearLiars$Names"
def TX1 : u_T := fun k => match k with
  | 0 => ("NearLiars$Names", "cuts", "[I", true)
  | _ => ("NearLiars$Names", "count", "I", false)
def tyX1 : Nat → FieldType := fun k => match k with
  | 0 => .array .int
  | _ => .int
theorem nmX1 : ∀ a, a < 2 → ∀ b, b < 2 → a ≠ b → (TX1 a).2.1 ≠ (TX1 b).2.1 := by decide +kernel
theorem tyX1_ok : ∀ k, k < 2 → parseFieldDescriptor (TX1 k).2.2.1 = some (tyX1 k) := by decide +kernel
abbrev cX1_init : ByteArray := prog_3_method_1_code
def yX1_init : MethodName := ⟨RX1, "<init>", "()V"⟩
abbrev cX1_forget : ByteArray := prog_3_method_2_code
def yX1_forget : MethodName := ⟨RX1, "forget", "()V"⟩
abbrev cX1_place : ByteArray := prog_3_method_3_code
def yX1_place : MethodName := ⟨RX1, "place", "(I)I"⟩
def RX2 : String := "NearLiars$Net"
def TX2 : u_T := fun k => match k with
  | 0 => ("NearLiars$Net", "links", "[I", true)
  | 1 => ("NearLiars$Net", "lies", "[I", true)
  | 2 => ("NearLiars$Net", "count", "I", false)
  | 3 => ("NearLiars$Net", "width", "I", false)
  | 4 => ("NearLiars$Net", "bands", "I", false)
  | 5 => ("NearLiars$Net", "dealer", "I", false)
  | 6 => ("NearLiars$Net", "value", "I", false)
  | _ => ("NearLiars$Net", "need", "I", false)
def tyX2 : Nat → FieldType := fun k => match k with
  | 0 => .array .int
  | 1 => .array .int
  | 2 => .int
  | 3 => .int
  | 4 => .int
  | 5 => .int
  | 6 => .int
  | _ => .int
theorem nmX2 : ∀ a, a < 8 → ∀ b, b < 8 → a ≠ b → (TX2 a).2.1 ≠ (TX2 b).2.1 := by decide +kernel
theorem tyX2_ok : ∀ k, k < 8 → parseFieldDescriptor (TX2 k).2.2.1 = some (tyX2 k) := by decide +kernel
abbrev cX2_init : ByteArray := prog_4_method_1_code
def yX2_init : MethodName := ⟨RX2, "<init>", "()V"⟩
abbrev cX2_lay : ByteArray := prog_4_method_2_code
def yX2_lay : MethodName := ⟨RX2, "lay", "(III)V"⟩
abbrev cX2_around : ByteArray := prog_4_method_3_code
def yX2_around : MethodName := ⟨RX2, "around", "(III)I"⟩
abbrev cX2_has : ByteArray := prog_4_method_4_code
def yX2_has : MethodName := ⟨RX2, "has", "(I)Z"⟩
abbrev cX2_areLinked : ByteArray := prog_4_method_5_code
def yX2_areLinked : MethodName := ⟨RX2, "areLinked", "(II)Z"⟩
abbrev cX2_link : ByteArray := prog_4_method_6_code
def yX2_link : MethodName := ⟨RX2, "link", "(IIZ)V"⟩
abbrev cX2_pairs : ByteArray := prog_4_method_7_code
def yX2_pairs : MethodName := ⟨RX2, "pairs", "()I"⟩
abbrev cX2_all : ByteArray := prog_4_method_8_code
def yX2_all : MethodName := ⟨RX2, "all", "()I"⟩
abbrev cX2_row : ByteArray := prog_4_method_9_code
def yX2_row : MethodName := ⟨RX2, "row", "(I)I"⟩
abbrev cX2_liars : ByteArray := prog_4_method_10_code
def yX2_liars : MethodName := ⟨RX2, "liars", "()I"⟩
abbrev cX2_isSet : ByteArray := prog_4_method_11_code
def yX2_isSet : MethodName := ⟨RX2, "isSet", "(I)Z"⟩
abbrev cX2_leastCrowded : ByteArray := prog_4_method_12_code
def yX2_leastCrowded : MethodName := ⟨RX2, "leastCrowded", "(II)I"⟩
abbrev cX2_isThin : ByteArray := prog_4_method_13_code
def yX2_isThin : MethodName := ⟨RX2, "isThin", "(II)Z"⟩
abbrev cX2_spread : ByteArray := prog_4_method_14_code
def yX2_spread : MethodName := ⟨RX2, "spread", "(II)I"⟩
abbrev cX2_withJoining : ByteArray := prog_4_method_15_code
def yX2_withJoining : MethodName := ⟨RX2, "withJoining", "(III)I"⟩
abbrev cX2_cut : ByteArray := prog_4_method_16_code
def yX2_cut : MethodName := ⟨RX2, "cut", "(II)I"⟩
abbrev cX2_greatestBorne : ByteArray := prog_4_method_17_code
def yX2_greatestBorne : MethodName := ⟨RX2, "greatestBorne", "()I"⟩
def RX3 : String := "NearLiars$Run"
def TX3 : u_T := fun k => match k with
  | 0 => ("NearLiars$Run", "slots", "[I", true)
  | 1 => ("NearLiars$Run", "taken", "[I", true)
  | 2 => ("NearLiars$Run", "since", "[I", true)
  | 3 => ("NearLiars$Run", "heard", "[I", true)
  | 4 => ("NearLiars$Run", "round", "I", false)
  | 5 => ("NearLiars$Run", "over", "I", false)
  | _ => ("NearLiars$Run", "spoken", "I", false)
def tyX3 : Nat → FieldType := fun k => match k with
  | 0 => .array .int
  | 1 => .array .int
  | 2 => .array .int
  | 3 => .array .int
  | 4 => .int
  | 5 => .int
  | _ => .int
theorem nmX3 : ∀ a, a < 7 → ∀ b, b < 7 → a ≠ b → (TX3 a).2.1 ≠ (TX3 b).2.1 := by decide +kernel
theorem tyX3_ok : ∀ k, k < 7 → parseFieldDescriptor (TX3 k).2.2.1 = some (tyX3 k) := by decide +kernel
abbrev cX3_init : ByteArray := prog_5_method_1_code
def yX3_init : MethodName := ⟨RX3, "<init>", "()V"⟩
abbrev cX3_restart : ByteArray := prog_5_method_2_code
def yX3_restart : MethodName := ⟨RX3, "restart", "(LNearLiars$Net;)V"⟩
abbrev cX3_dealSlots : ByteArray := prog_5_method_3_code
def yX3_dealSlots : MethodName := ⟨RX3, "dealSlots", "(LNearLiars$Net;)V"⟩
abbrev cX3_slotsNear : ByteArray := prog_5_method_4_code
def yX3_slotsNear : MethodName := ⟨RX3, "slotsNear", "(LNearLiars$Net;I)I"⟩
abbrev cX3_leastFree : ByteArray := prog_5_method_5_code
def yX3_leastFree : MethodName := ⟨RX3, "leastFree", "(I)I"⟩
abbrev cX3_pass : ByteArray := prog_5_method_6_code
def yX3_pass : MethodName := ⟨RX3, "pass", "(LNearLiars$Net;)I"⟩
abbrev cX3_speak : ByteArray := prog_5_method_7_code
def yX3_speak : MethodName := ⟨RX3, "speak", "(LNearLiars$Net;I)I"⟩
abbrev cX3_hear : ByteArray := prog_5_method_8_code
def yX3_hear : MethodName := ⟨RX3, "hear", "(LNearLiars$Net;III)I"⟩
abbrev cX3_heardOf : ByteArray := prog_5_method_9_code
def yX3_heardOf : MethodName := ⟨RX3, "heardOf", "(II)I"⟩
abbrev cX3_heardInAll : ByteArray := prog_5_method_10_code
def yX3_heardInAll : MethodName := ⟨RX3, "heardInAll", "(I)I"⟩
abbrev cX3_right : ByteArray := prog_5_method_11_code
def yX3_right : MethodName := ⟨RX3, "right", "(LNearLiars$Net;I)I"⟩
abbrev cX3_misled : ByteArray := prog_5_method_12_code
def yX3_misled : MethodName := ⟨RX3, "misled", "(LNearLiars$Net;I)I"⟩
abbrev cX3_lastTake : ByteArray := prog_5_method_13_code
def yX3_lastTake : MethodName := ⟨RX3, "lastTake", "(LNearLiars$Net;I)I"⟩
def RX4 : String := "NearLiars$Survey"
def TX4 : u_T := fun k => match k with
  | 0 => ("NearLiars$Survey", "worstSet", "I", false)
  | 1 => ("NearLiars$Survey", "worstCut", "I", false)
  | 2 => ("NearLiars$Survey", "thin", "I", false)
  | _ => ("NearLiars$Survey", "stopping", "I", false)
def tyX4 : Nat → FieldType := fun k => match k with
  | 0 => .int
  | 1 => .int
  | 2 => .int
  | _ => .int
theorem nmX4 : ∀ a, a < 4 → ∀ b, b < 4 → a ≠ b → (TX4 a).2.1 ≠ (TX4 b).2.1 := by decide +kernel
theorem tyX4_ok : ∀ k, k < 4 → parseFieldDescriptor (TX4 k).2.2.1 = some (tyX4 k) := by decide +kernel
abbrev cX4_init : ByteArray := prog_6_method_1_code
def yX4_init : MethodName := ⟨RX4, "<init>", "()V"⟩
abbrev cX4_take : ByteArray := prog_6_method_2_code
def yX4_take : MethodName := ⟨RX4, "take", "(LNearLiars$Net;)V"⟩
abbrev cX4_weigh : ByteArray := prog_6_method_3_code
def yX4_weigh : MethodName := ⟨RX4, "weigh", "(II)V"⟩
def RX5 : String := "NearLiars"
def TX5 : u_T := fun k => match k with
  | 0 => ("NearLiars", "net", "LNearLiars$Net;", true)
  | 1 => ("NearLiars", "run", "LNearLiars$Run;", true)
  | 2 => ("NearLiars", "survey", "LNearLiars$Survey;", true)
  | 3 => ("NearLiars", "names", "LNearLiars$Names;", true)
  | _ => ("NearLiars", "claims", "LNearLiars$Claims;", true)
def tyX5 : Nat → FieldType := fun k => match k with
  | 0 => .object "NearLiars$Net"
  | 1 => .object "NearLiars$Run"
  | 2 => .object "NearLiars$Survey"
  | 3 => .object "NearLiars$Names"
  | _ => .object "NearLiars$Claims"
theorem nmX5 : ∀ a, a < 5 → ∀ b, b < 5 → a ≠ b → (TX5 a).2.1 ≠ (TX5 b).2.1 := by decide +kernel
theorem tyX5_ok : ∀ k, k < 5 → parseFieldDescriptor (TX5 k).2.2.1 = some (tyX5 k) := by decide +kernel
abbrev cX5_init : ByteArray := prog_1_method_1_code
def yX5_init : MethodName := ⟨RX5, "<init>", "()V"⟩
abbrev cX5_net : ByteArray := prog_1_method_2_code
def yX5_net : MethodName := ⟨RX5, "net", "(I)I"⟩
abbrev cX5_grid : ByteArray := prog_1_method_3_code
def yX5_grid : MethodName := ⟨RX5, "grid", "(III)I"⟩
abbrev cX5_edge : ByteArray := prog_1_method_4_code
def yX5_edge : MethodName := ⟨RX5, "edge", "(III)I"⟩
abbrev cX5_neighbours : ByteArray := prog_1_method_5_code
def yX5_neighbours : MethodName := ⟨RX5, "neighbours", "(I)I"⟩
abbrev cX5_dealer : ByteArray := prog_1_method_6_code
def yX5_dealer : MethodName := ⟨RX5, "dealer", "(II)I"⟩
abbrev cX5_need : ByteArray := prog_1_method_7_code
def yX5_need : MethodName := ⟨RX5, "need", "(I)I"⟩
abbrev cX5_lie : ByteArray := prog_1_method_8_code
def yX5_lie : MethodName := ⟨RX5, "lie", "(II)I"⟩
abbrev cX5_begin : ByteArray := prog_1_method_9_code
def yX5_begin : MethodName := ⟨RX5, "begin", "()I"⟩
abbrev cX5_ticks : ByteArray := prog_1_method_10_code
def yX5_ticks : MethodName := ⟨RX5, "ticks", "(I)I"⟩
abbrev cX5_node : ByteArray := prog_1_method_11_code
def yX5_node : MethodName := ⟨RX5, "node", "(II)I"⟩
abbrev cX5_band : ByteArray := prog_1_method_12_code
def yX5_band : MethodName := ⟨RX5, "band", "(II)I"⟩
abbrev cX5_sort : ByteArray := prog_1_method_13_code
def yX5_sort : MethodName := ⟨RX5, "sort", "(I)I"⟩
abbrev cX5_crowded : ByteArray := prog_1_method_14_code
def yX5_crowded : MethodName := ⟨RX5, "crowded", "(I)I"⟩
abbrev cX5_reached : ByteArray := prog_1_method_15_code
def yX5_reached : MethodName := ⟨RX5, "reached", "(I)I"⟩
abbrev cX5_worst : ByteArray := prog_1_method_16_code
def yX5_worst : MethodName := ⟨RX5, "worst", "(I)I"⟩
abbrev cX5_bears : ByteArray := prog_1_method_17_code
def yX5_bears : MethodName := ⟨RX5, "bears", "()I"⟩
abbrev cX5_name : ByteArray := prog_1_method_18_code
def yX5_name : MethodName := ⟨RX5, "name", "(I)I"⟩
abbrev cX5_named : ByteArray := prog_1_method_19_code
def yX5_named : MethodName := ⟨RX5, "named", "(I)I"⟩
abbrev cX5_walk : ByteArray := prog_1_method_20_code
def yX5_walk : MethodName := ⟨RX5, "walk", "(I)I"⟩
abbrev cX5_tell : ByteArray := prog_1_method_21_code
def yX5_tell : MethodName := ⟨RX5, "tell", "(I)I"⟩
abbrev cX5_drop : ByteArray := prog_1_method_22_code
def yX5_drop : MethodName := ⟨RX5, "drop", "()I"⟩
abbrev cX5_claim : ByteArray := prog_1_method_23_code
def yX5_claim : MethodName := ⟨RX5, "claim", "(II)I"⟩
abbrev cX5_proof : ByteArray := prog_1_method_24_code
def yX5_proof : MethodName := ⟨RX5, "proof", "(II)I"⟩
abbrev cX5_believes : ByteArray := prog_1_method_25_code
def yX5_believes : MethodName := ⟨RX5, "believes", "(I)I"⟩
abbrev cX5_many : ByteArray := prog_1_method_26_code
def yX5_many : MethodName := ⟨RX5, "many", "(I)I"⟩
abbrev cX5_layAnew : ByteArray := prog_1_method_27_code
def yX5_layAnew : MethodName := ⟨RX5, "layAnew", "(III)I"⟩
abbrev cX5_isValue : ByteArray := prog_1_method_28_code
def yX5_isValue : MethodName := ⟨RX5, "isValue", "(I)Z"⟩
abbrev cX5_isIn : ByteArray := prog_1_method_29_code
def yX5_isIn : MethodName := ⟨RX5, "isIn", "(II)Z"⟩
def RX6 : String := "NearLiarsModel"
def TX6 : u_T := fun k => match k with
  | 0 => ("NearLiarsModel", "nodes", "I", false)
  | 1 => ("NearLiarsModel", "columns", "I", false)
  | 2 => ("NearLiarsModel", "rows", "I", false)
  | 3 => ("NearLiarsModel", "near", "[I", true)
  | 4 => ("NearLiarsModel", "dealer", "I", false)
  | 5 => ("NearLiarsModel", "value", "I", false)
  | 6 => ("NearLiarsModel", "need", "I", false)
  | 7 => ("NearLiarsModel", "lieOf", "[I", true)
  | 8 => ("NearLiarsModel", "slotOf", "[I", true)
  | 9 => ("NearLiarsModel", "round", "I", false)
  | 10 => ("NearLiarsModel", "over", "I", false)
  | 11 => ("NearLiarsModel", "tookWhat", "[I", true)
  | 12 => ("NearLiarsModel", "tookWhen", "[I", true)
  | 13 => ("NearLiarsModel", "hasSpoken", "[Z", true)
  | 14 => ("NearLiarsModel", "heard", "[I", true)
  | 15 => ("NearLiarsModel", "worstSet", "I", false)
  | 16 => ("NearLiarsModel", "thin", "I", false)
  | 17 => ("NearLiarsModel", "stopping", "I", false)
  | 18 => ("NearLiarsModel", "cuts", "I", false)
  | 19 => ("NearLiarsModel", "cutOf", "[I", true)
  | 20 => ("NearLiarsModel", "wayLong", "I", false)
  | 21 => ("NearLiarsModel", "way", "[I", true)
  | 22 => ("NearLiarsModel", "claims", "I", false)
  | 23 => ("NearLiarsModel", "claimValue", "[I", true)
  | 24 => ("NearLiarsModel", "claimLong", "[I", true)
  | _ => ("NearLiarsModel", "claimWay", "[I", true)
def tyX6 : Nat → FieldType := fun k => match k with
  | 0 => .int
  | 1 => .int
  | 2 => .int
  | 3 => .array .int
  | 4 => .int
  | 5 => .int
  | 6 => .int
  | 7 => .array .int
  | 8 => .array .int
  | 9 => .int
  | 10 => .int
  | 11 => .array .int
  | 12 => .array .int
  | 13 => .array .boolean
  | 14 => .array .int
  | 15 => .int
  | 16 => .int
  | 17 => .int
  | 18 => .int
  | 19 => .array .int
  | 20 => .int
  | 21 => .array .int
  | 22 => .int
  | 23 => .array .int
  | 24 => .array .int
  | _ => .array .int
theorem nmX6 : ∀ a, a < 26 → ∀ b, b < 26 → a ≠ b → (TX6 a).2.1 ≠ (TX6 b).2.1 := by decide +kernel
theorem tyX6_ok : ∀ k, k < 26 → parseFieldDescriptor (TX6 k).2.2.1 = some (tyX6 k) := by decide +kernel
abbrev cX6_init : ByteArray := prog_8_method_1_code
def yX6_init : MethodName := ⟨RX6, "<init>", "()V"⟩
abbrev cX6_within : ByteArray := prog_8_method_2_code
def yX6_within : MethodName := ⟨RX6, "within", "(III)Z"⟩
abbrev cX6_has : ByteArray := prog_8_method_3_code
def yX6_has : MethodName := ⟨RX6, "has", "(II)Z"⟩
abbrev cX6_size : ByteArray := prog_8_method_4_code
def yX6_size : MethodName := ⟨RX6, "size", "(I)I"⟩
abbrev cX6_isNode : ByteArray := prog_8_method_5_code
def yX6_isNode : MethodName := ⟨RX6, "isNode", "(I)Z"⟩
abbrev cX6_lays : ByteArray := prog_8_method_6_code
def yX6_lays : MethodName := ⟨RX6, "lays", "(III)V"⟩
abbrev cX6_forgets : ByteArray := prog_8_method_7_code
def yX6_forgets : MethodName := ⟨RX6, "forgets", "()V"⟩
abbrev cX6_net : ByteArray := prog_8_method_8_code
def yX6_net : MethodName := ⟨RX6, "net", "(I)I"⟩
abbrev cX6_grid : ByteArray := prog_8_method_9_code
def yX6_grid : MethodName := ⟨RX6, "grid", "(III)I"⟩
abbrev cX6_edge : ByteArray := prog_8_method_10_code
def yX6_edge : MethodName := ⟨RX6, "edge", "(III)I"⟩
abbrev cX6_neighbours : ByteArray := prog_8_method_11_code
def yX6_neighbours : MethodName := ⟨RX6, "neighbours", "(I)I"⟩
abbrev cX6_dealer : ByteArray := prog_8_method_12_code
def yX6_dealer : MethodName := ⟨RX6, "dealer", "(II)I"⟩
abbrev cX6_need : ByteArray := prog_8_method_13_code
def yX6_need : MethodName := ⟨RX6, "need", "(I)I"⟩
abbrev cX6_lie : ByteArray := prog_8_method_14_code
def yX6_lie : MethodName := ⟨RX6, "lie", "(II)I"⟩
abbrev cX6_isApart : ByteArray := prog_8_method_15_code
def yX6_isApart : MethodName := ⟨RX6, "isApart", "(II)Z"⟩
abbrev cX6_isFreeSlot : ByteArray := prog_8_method_16_code
def yX6_isFreeSlot : MethodName := ⟨RX6, "isFreeSlot", "(II)Z"⟩
abbrev cX6_dealsSlots : ByteArray := prog_8_method_17_code
def yX6_dealsSlots : MethodName := ⟨RX6, "dealsSlots", "()V"⟩
abbrev cX6_begins : ByteArray := prog_8_method_18_code
def yX6_begins : MethodName := ⟨RX6, "begins", "()V"⟩
abbrev cX6_begin : ByteArray := prog_8_method_19_code
def yX6_begin : MethodName := ⟨RX6, "begin", "()I"⟩
abbrev cX6_isHonest : ByteArray := prog_8_method_20_code
def yX6_isHonest : MethodName := ⟨RX6, "isHonest", "(I)Z"⟩
abbrev cX6_says : ByteArray := prog_8_method_21_code
def yX6_says : MethodName := ⟨RX6, "says", "(I)I"⟩
abbrev cX6_speaks : ByteArray := prog_8_method_22_code
def yX6_speaks : MethodName := ⟨RX6, "speaks", "(II)I"⟩
abbrev cX6_tick : ByteArray := prog_8_method_23_code
def yX6_tick : MethodName := ⟨RX6, "tick", "()I"⟩
abbrev cX6_ticks : ByteArray := prog_8_method_24_code
def yX6_ticks : MethodName := ⟨RX6, "ticks", "(I)I"⟩
abbrev cX6_heardBy : ByteArray := prog_8_method_25_code
def yX6_heardBy : MethodName := ⟨RX6, "heardBy", "(I)I"⟩
abbrev cX6_node : ByteArray := prog_8_method_26_code
def yX6_node : MethodName := ⟨RX6, "node", "(II)I"⟩
abbrev cX6_manyHonest : ByteArray := prog_8_method_27_code
def yX6_manyHonest : MethodName := ⟨RX6, "manyHonest", "(III)I"⟩
abbrev cX6_lastIn : ByteArray := prog_8_method_28_code
def yX6_lastIn : MethodName := ⟨RX6, "lastIn", "(II)I"⟩
abbrev cX6_band : ByteArray := prog_8_method_29_code
def yX6_band : MethodName := ⟨RX6, "band", "(II)I"⟩
abbrev cX6_isSet : ByteArray := prog_8_method_30_code
def yX6_isSet : MethodName := ⟨RX6, "isSet", "(I)Z"⟩
abbrev cX6_crowdedBy : ByteArray := prog_8_method_31_code
def yX6_crowdedBy : MethodName := ⟨RX6, "crowdedBy", "(II)I"⟩
abbrev cX6_reachedBy : ByteArray := prog_8_method_32_code
def yX6_reachedBy : MethodName := ⟨RX6, "reachedBy", "(II)I"⟩
abbrev cX6_cutBy : ByteArray := prog_8_method_33_code
def yX6_cutBy : MethodName := ⟨RX6, "cutBy", "(II)I"⟩
abbrev cX6_sort : ByteArray := prog_8_method_34_code
def yX6_sort : MethodName := ⟨RX6, "sort", "(I)I"⟩
abbrev cX6_crowded : ByteArray := prog_8_method_35_code
def yX6_crowded : MethodName := ⟨RX6, "crowded", "(I)I"⟩
abbrev cX6_reached : ByteArray := prog_8_method_36_code
def yX6_reached : MethodName := ⟨RX6, "reached", "(I)I"⟩
abbrev cX6_triesSets : ByteArray := prog_8_method_37_code
def yX6_triesSets : MethodName := ⟨RX6, "triesSets", "(I)V"⟩
abbrev cX6_worst : ByteArray := prog_8_method_38_code
def yX6_worst : MethodName := ⟨RX6, "worst", "(I)I"⟩
abbrev cX6_bears : ByteArray := prog_8_method_39_code
def yX6_bears : MethodName := ⟨RX6, "bears", "()I"⟩
abbrev cX6_name : ByteArray := prog_8_method_40_code
def yX6_name : MethodName := ⟨RX6, "name", "(I)I"⟩
abbrev cX6_named : ByteArray := prog_8_method_41_code
def yX6_named : MethodName := ⟨RX6, "named", "(I)I"⟩
abbrev cX6_isOnWay : ByteArray := prog_8_method_42_code
def yX6_isOnWay : MethodName := ⟨RX6, "isOnWay", "(I)Z"⟩
abbrev cX6_walk : ByteArray := prog_8_method_43_code
def yX6_walk : MethodName := ⟨RX6, "walk", "(I)I"⟩
abbrev cX6_isClaimed : ByteArray := prog_8_method_44_code
def yX6_isClaimed : MethodName := ⟨RX6, "isClaimed", "(I)Z"⟩
abbrev cX6_oldestGoes : ByteArray := prog_8_method_45_code
def yX6_oldestGoes : MethodName := ⟨RX6, "oldestGoes", "()V"⟩
abbrev cX6_tell : ByteArray := prog_8_method_46_code
def yX6_tell : MethodName := ⟨RX6, "tell", "(I)I"⟩
abbrev cX6_drop : ByteArray := prog_8_method_47_code
def yX6_drop : MethodName := ⟨RX6, "drop", "()I"⟩
abbrev cX6_setOf : ByteArray := prog_8_method_48_code
def yX6_setOf : MethodName := ⟨RX6, "setOf", "(I)I"⟩
abbrev cX6_claim : ByteArray := prog_8_method_49_code
def yX6_claim : MethodName := ⟨RX6, "claim", "(II)I"⟩
abbrev cX6_proves : ByteArray := prog_8_method_50_code
def yX6_proves : MethodName := ⟨RX6, "proves", "(III)I"⟩
abbrev cX6_proofOf : ByteArray := prog_8_method_51_code
def yX6_proofOf : MethodName := ⟨RX6, "proofOf", "(II)I"⟩
abbrev cX6_proof : ByteArray := prog_8_method_52_code
def yX6_proof : MethodName := ⟨RX6, "proof", "(II)I"⟩
abbrev cX6_believes : ByteArray := prog_8_method_53_code
def yX6_believes : MethodName := ⟨RX6, "believes", "(I)I"⟩
abbrev cX6_twos : ByteArray := prog_8_method_54_code
def yX6_twos : MethodName := ⟨RX6, "twos", "()I"⟩
abbrev cX6_many : ByteArray := prog_8_method_55_code
def yX6_many : MethodName := ⟨RX6, "many", "(I)I"⟩
def RJ6 : String := "java/lang/Integer"
abbrev cJ6_bitCount_0f7a4 : ByteArray := prog_9_method_49_code
def yJ6_bitCount_0f7a4 : MethodName := ⟨RJ6, "bitCount", "(I)I"⟩
def RJ9 : String := "java/lang/Math"
abbrev cJ9_abs_0f7a4 : ByteArray := prog_10_method_59_code
def yJ9_abs_0f7a4 : MethodName := ⟨RJ9, "abs", "(I)I"⟩
abbrev cJ9_max_7cf53 : ByteArray := prog_10_method_65_code
def yJ9_max_7cf53 : MethodName := ⟨RJ9, "max", "(II)I"⟩
def RJ10 : String := "java/lang/System"
def RJ7 : String := "java/util/Arrays"
abbrev cJ7_fill_53178 : ByteArray := prog_12_method_103_code
def yJ7_fill_53178 : MethodName := ⟨RJ7, "fill", "([II)V"⟩
abbrev vwCl : List vw_C := [(RX0, TX0, 9), (RX1, TX1, 2), (RX2, TX2, 8), (RX3, TX3, 7), (RX4, TX4, 4), (RX5, TX5, 5), (RX6, TX6, 26)]
end
section
/-! ===== 03: the deep machine: abstract values, cells, states; its steps; what they mean ===== -/
abbrev dp_V : Type := Int32 ⊕ Option Nat
abbrev dp_Cl : Type := (Bool × Nat × (Nat → Int32)) ⊕ (Nat × List dp_V)
abbrev dp_H : Type := List dp_Cl
abbrev dp_In : Type := Instr × Nat × Nat × Nat × Nat × Int32
abbrev dp_M : Type := String × MethodName × ByteArray × Nat × Option FieldType × List (Option dp_In)
abbrev dp_S : Type := Nat × List (Option dp_V) × List dp_V × dp_H
def dp_cv (b : Nat) (v : dp_V) : Value := match v with
  | .inl x => .int x
  | .inr none => .null
  | .inr (some k) => .ref (b + k)
theorem dp_cat (b : Nat) (v : dp_V) : (dp_cv b v).category = 1 := by
  rcases v with x | _ | k <;> rfl
def dp_ce (cI cZ : ClassId) (b : Nat) (q : dp_Cl) : va_E := match q with
  | .inl (z, n, f) => .inl (if z = true then cZ else cI, n, .inl f)
  | .inr (ci, fs) => .inr (ci, fs.map (dp_cv b))
def dp_ws (cI cZ : ClassId) (b : Nat) (h : dp_H) : va_W := h.mapIdx (fun k q => (b + k, dp_ce cI cZ b q))
section DW
variable {cI cZ : ClassId} {b : Nat} {h : dp_H}
theorem dp_ws_at {k : Nat} {q : dp_Cl} (hk : h[k]? = some q) : (dp_ws cI cZ b h)[k]? = some (b + k, dp_ce cI cZ b q) := by
  simp [dp_ws, hk]
theorem dp_ws_inv {k : Nat} {x : Nat × va_E} (hk : (dp_ws cI cZ b h)[k]? = some x) : ∃ q, h[k]? = some q ∧ x = (b + k, dp_ce cI cZ b q) := by
  cases hq : h[k]? with
  | none => simp [dp_ws, hq] at hk
  | some q =>
    rw [dp_ws_at hq] at hk
    exact ⟨q, rfl, (Option.some.inj hk).symm⟩
theorem dp_ws_set (k : Nat) (q : dp_Cl) : (dp_ws cI cZ b h).set k (b + k, dp_ce cI cZ b q) = dp_ws cI cZ b (h.set k q) := by
  unfold dp_ws
  rw [List.mapIdx_set]
theorem dp_ws_push (q : dp_Cl) : dp_ws cI cZ b h ++ [(b + h.length, dp_ce cI cZ b q)] = dp_ws cI cZ b (h ++ [q]) := by
  unfold dp_ws
  rw [List.mapIdx_concat]
theorem dp_D1 {A : Nat → Prop} (hA : ∀ k, k < h.length → A (b + k)) : va_D A (dp_ws cI cZ b h) := by
  refine ⟨fun i j x y hi hj hxy => ?_, fun k x hk => ?_⟩
  · obtain ⟨q, -, rfl⟩ := dp_ws_inv hi
    obtain ⟨q', -, rfl⟩ := dp_ws_inv hj
    have : b + i = b + j := hxy
    omega
  · obtain ⟨q, hq, rfl⟩ := dp_ws_inv hk
    exact hA k (List.getElem?_eq_some_iff.mp hq).1
theorem dp_D0 {sz : Nat} : va_D (va_A (dp_ws cI cZ b h) sz) (dp_ws cI cZ b h) := dp_D1 (fun k hk => Or.inl ⟨k, _, dp_ws_at (List.getElem?_eq_getElem hk)⟩)
end DW
/-- the listed locals -/
def dp_lv (b : Nat) (L : List (Option dp_V)) : List (Nat × Value) := L.zipIdx.filterMap (fun q => q.1.map (fun v => (q.2, dp_cv b v)))
theorem dp_lv_mem {b : Nat} {L : List (Option dp_V)} {q : Nat × Value} : q ∈ dp_lv b L ↔ ∃ i v, L[i]? = some (some v) ∧ q = (i, dp_cv b v) := by
  unfold dp_lv
  rw [List.mem_filterMap]
  constructor
  · rintro ⟨⟨o, i⟩, h1, h2⟩
    have h3 := List.mem_zipIdx_iff_getElem?.mp h1
    cases o with
    | none => cases h2
    | some v => exact ⟨i, v, h3, (Option.some.inj h2).symm⟩
  · rintro ⟨i, v, h1, rfl⟩
    exact ⟨(some v, i), List.mem_zipIdx_iff_getElem?.mpr h1, rfl⟩
def dp_L (b : Nat) (ls : Array Slot) (nL : Nat) (L : List (Option dp_V)) : Prop := lv_has ls nL (dp_lv b L) ∧ L.length = nL
theorem dp_L.at {b nL : Nat} {ls : Array Slot} {L : List (Option dp_V)} (h : dp_L b ls nL L) {i : Nat} {v : dp_V} (hi : L[i]? = some (some v)) : ls[i]? = some (.val (dp_cv b v)) := h.1.2.2 (i, dp_cv b v) (dp_lv_mem.mpr ⟨i, v, hi, rfl⟩)
theorem dp_L.set {b nL : Nat} {ls ls' : Array Slot} {L : List (Option dp_V)} (h : dp_L b ls nL L) {i : Nat} {v : dp_V} (h' : lv_has ls' nL ((i, dp_cv b v) :: (dp_lv b L).filter (fun q => !(q.1 == i) && !(q.1 + 1 == i && q.2.category == 2)))) : dp_L b ls' nL (L.set i (some v)) := by
  refine ⟨⟨h'.1, h'.2.1, fun q hq => ?_⟩, by rw [List.length_set]; exact h.2⟩
  obtain ⟨j, w, hj, rfl⟩ := dp_lv_mem.mp hq
  by_cases e : j = i
  · subst e
    have hl : j < L.length := by
      have := (List.getElem?_eq_some_iff.mp hj).1
      rwa [List.length_set] at this
    rw [List.getElem?_set_self hl] at hj
    cases hj
    exact h'.2.2 _ List.mem_cons_self
  · rw [List.getElem?_set_ne (Ne.symm e)] at hj
    refine h'.2.2 _ (List.mem_cons_of_mem _ (List.mem_filter.mpr ⟨dp_lv_mem.mpr ⟨j, w, hj, rfl⟩, ?_⟩))
    have e1 : (j == i) = false := by simpa using e
    simp [e1, dp_cat]
/-! steps -/
def dp_push (n : Nat) (v : dp_V) : dp_S → Option dp_S
  | (pc, L, st, h) => some (pc + n, L, v :: st, h)
def dp_bin (f : Int32 → Int32 → Int32) : dp_S → Option dp_S
  | (pc, L, .inl y :: .inl x :: st, h) => some (pc + 1, L, .inl (f x y) :: st, h)
  | _ => none
def dp_neg : dp_S → Option dp_S
  | (pc, L, .inl x :: st, h) => some (pc + 1, L, .inl (-x) :: st, h)
  | _ => none
def dp_ild (n k : Nat) : dp_S → Option dp_S
  | (pc, L, st, h) => match L[k]? with
    | some (some (.inl x)) => some (pc + n, L, .inl x :: st, h)
    | _ => none
def dp_ald (n k : Nat) : dp_S → Option dp_S
  | (pc, L, st, h) => match L[k]? with
    | some (some (.inr (some q))) => some (pc + n, L, .inr (some q) :: st, h)
    | _ => none
def dp_ist (n k : Nat) : dp_S → Option dp_S
  | (pc, L, .inl x :: st, h) => match L[k]? with
    | some _ => some (pc + n, L.set k (some (.inl x)), st, h)
    | none => none
  | _ => none
def dp_inc (k : Nat) (v : Int32) : dp_S → Option dp_S
  | (pc, L, st, h) => match L[k]? with
    | some (some (.inl x)) => some (pc + 3, L.set k (some (.inl (x + v))), st, h)
    | _ => none
def dp_dup : dp_S → Option dp_S
  | (pc, L, v :: st, h) => some (pc + 1, L, v :: v :: st, h)
  | _ => none
def dp_dup2 : dp_S → Option dp_S
  | (pc, L, v :: w :: st, h) => some (pc + 1, L, v :: w :: v :: w :: st, h)
  | _ => none
def dp_jmp (a : Nat) : dp_S → Option dp_S
  | (_, L, st, h) => some (a, L, st, h)
def dp_gf (ci k : Nat) : dp_S → Option dp_S
  | (pc, L, .inr (some q) :: st, h) => match h[q]? with
    | some (.inr (c, fs)) => if c = ci then (match fs[k]? with
      | some v => some (pc + 3, L, v :: st, h)
      | none => none) else none
    | _ => none
  | _ => none
def dp_pf (ci k : Nat) : dp_S → Option dp_S
  | (pc, L, .inl x :: .inr (some q) :: st, h) => match h[q]? with
    | some (.inr (c, fs)) => if c = ci then (match fs[k]? with
      | some _ => some (pc + 3, L, st, h.set q (.inr (c, fs.set k (.inl x))))
      | none => none) else none
    | _ => none
  | _ => none
/-- a final field of references, in a constructor -/
def dp_pr (ci k : Nat) : dp_S → Option dp_S
  | (pc, L, .inr (some x) :: .inr (some q) :: st, h) => match h[q]? with
    | some (.inr (c, fs)) => if c = ci then (match fs[k]? with
      | some _ => some (pc + 3, L, st, h.set q (.inr (c, fs.set k (.inr (some x)))))
      | none => none) else none
    | _ => none
  | _ => none
def dp_op (i : Instr) (a b f : Nat) (v : Int32) (S : dp_S) : Option dp_S := match i with
  | .iload k => dp_ild 2 k S
  | .iload_n k => dp_ild 1 k.val S
  | .aload_n k => dp_ald 1 k.val S
  | .iconst _ => dp_push 1 (.inl v) S
  | .bipush _ => dp_push 2 (.inl v) S
  | .ldc_w _ => dp_push 3 (.inl v) S
  | .istore k => dp_ist 2 k S
  | .istore_n k => dp_ist 1 k.val S
  | .iinc k _ => dp_inc k v S
  | .iadd => dp_bin (fun x y => x + y) S
  | .isub => dp_bin (fun x y => x - y) S
  | .imul => dp_bin (fun x y => x * y) S
  | .iand => dp_bin (fun x y => x &&& y) S
  | .ior => dp_bin (fun x y => x ||| y) S
  | .ixor => dp_bin (fun x y => x ^^^ y) S
  | .ishl => dp_bin (fun x y => x <<< (y &&& 31)) S
  | .ishr => dp_bin (fun x y => x >>> (y &&& 31)) S
  | .iushr => dp_bin (fun x y => (x.toUInt32 >>> (y.toUInt32 &&& Int32.toUInt32 31)).toInt32) S
  | .ineg => dp_neg S
  | .dup => dp_dup S
  | .dup2 => dp_dup2 S
  | .goto _ => dp_jmp a S
  | .getfield _ => dp_gf a b S
  | .putfield _ => if f = 4 then dp_pr a b S else dp_pf a b S
  | _ => none
def dp_st (M : dp_M) (S : dp_S) : Option dp_S := match M.2.2.2.2.2[S.1]? with
  | some (some (i, _, a, b, f, v)) => dp_op i a b f v S
  | _ => none
def dp_sts (M : dp_M) : Nat → dp_S → Option dp_S
  | 0, S => some S
  | n + 1, S => match dp_st M S with
    | some S' => dp_sts M n S'
    | none => none
/-! the words -/
def dp_isN : Cond → Bool
  | .fieldLinkNest .. => true
  | .methodLinkNest .. => true
  | _ => false
def dp_g : List Cond := lw_tbl.filter goodWord
def dp_nw : List Cond := lw_tbl.filter dp_isN
theorem dp_in {w : Cond} (h : w ∈ lw_tbl) (hg : goodWord w = true) : w ∈ dp_g := List.mem_filter.mpr ⟨h, hg⟩
theorem dp_at {w : Cond} (i : Nat) (h : lw_tbl[i]? = some w) (hg : goodWord w = true) : w ∈ dp_g := dp_in (List.mem_of_getElem? h) hg
theorem dp_nat {w : Cond} (i : Nat) (h : lw_tbl[i]? = some w) (hg : dp_isN w = true) : w ∈ dp_nw := List.mem_filter.mpr ⟨List.mem_of_getElem? h, hg⟩
theorem dp_nw_warm {w : Cond} (hw : w ∈ dp_nw) {s U : State} (hW : s.WarmedH U.vm) (h : va_Nw w s) : va_Nw w U := by
  have hi := (List.mem_filter.mp hw).2
  cases w <;> first | exact va_Nw.warmF hW h | exact va_Nw.warmM hW h | cases hi
theorem dp_nw_use {w : Cond} (hw : w ∈ dp_nw) {s : State} {args : Array Value} (h : va_Nw w s) : w.before args s = true := by
  have hi := (List.mem_filter.mp hw).2
  cases w <;> first | exact va_Nw.use rfl h | cases hi
theorem dp_nw_same {w : Cond} (hw : w ∈ dp_nw) {u U : State} (e : u.vm = U.vm) (h : va_Nw w u) : va_Nw w U := by
  have hi := (List.mem_filter.mp hw).2
  cases w <;> first | exact va_Nw.same rfl e h | cases hi
def dp_CF (q : vw_C) : Prop := (∀ w ∈ u_ws q.1 q.2.1 q.2.2, w ∈ dp_g) ∧ (∃ ty0 : Nat → FieldType, ∀ k, k < q.2.2 → parseFieldDescriptor (q.2.1 k).2.2.1 = some (ty0 k)) ∧ (∀ a, a < q.2.2 → ∀ b, b < q.2.2 → a ≠ b → (q.2.1 a).2.1 ≠ (q.2.1 b).2.1)
/-- a field's link: entry, class, field, flag (0 get, 1 get of a nest mate's, 2 put, 3 put of a nest mate's, 4 put of a final one) -/
def dp_FL (own : String) (x : Nat × Nat × Nat × Nat) : Prop := ∃ q : vw_C, vwCl[x.2.1]? = some q ∧ x.2.2.1 < q.2.2 ∧ dp_CF q ∧ match x.2.2.2 with
  | 0 => Cond.fieldLink own x.1 (q.2.1 x.2.2.1).1 (q.2.1 x.2.2.1).2.1 (q.2.1 x.2.2.1).2.2.1 ∈ dp_g
  | 1 => ∃ host, Cond.fieldLinkNest own x.1 (q.2.1 x.2.2.1).1 (q.2.1 x.2.2.1).2.1 (q.2.1 x.2.2.1).2.2.1 host ∈ dp_nw
  | 2 => Cond.fieldLink own x.1 (q.2.1 x.2.2.1).1 (q.2.1 x.2.2.1).2.1 (q.2.1 x.2.2.1).2.2.1 ∈ dp_g ∧ (q.2.1 x.2.2.1).2.2.2 = false ∧ parseFieldDescriptor (q.2.1 x.2.2.1).2.2.1 = some .int
  | 3 => (∃ host, Cond.fieldLinkNest own x.1 (q.2.1 x.2.2.1).1 (q.2.1 x.2.2.1).2.1 (q.2.1 x.2.2.1).2.2.1 host ∈ dp_nw) ∧ (q.2.1 x.2.2.1).2.2.2 = false ∧ parseFieldDescriptor (q.2.1 x.2.2.1).2.2.1 = some .int
  | _ => Cond.fieldLink own x.1 (q.2.1 x.2.2.1).1 (q.2.1 x.2.2.1).2.1 (q.2.1 x.2.2.1).2.2.1 ∈ dp_g ∧ (q.2.1 x.2.2.1).2.2.2 = true ∧ (q.2.1 x.2.2.1).1 = own ∧ ∃ ty, parseFieldDescriptor (q.2.1 x.2.2.1).2.2.1 = some ty ∧ ∀ a, narrow ty (.ref a) = .ref a ∧ fits ty (.ref a) = true
/-- one entry of a method's table, tested by program -/
def dp_ck1 (fl : List (Nat × Nat × Nat × Nat)) (cs : List (Nat × Int32)) (pc : Nat) (x : dp_In) : Bool := match x with
  | (i, _, a, b, f, v) => match i with
    | .iconst n => Int32.ofInt n == v
    | .bipush n => (Int8.ofInt n).toInt32 == v
    | .ldc_w n => cs.contains (n, v)
    | .iinc _ n => Int32.ofInt n == v
    | .goto o => (pc : Int) + o == (a : Int)
    | .if_icmp _ o => (pc : Int) + o == (a : Int)
    | .ifCond _ o => (pc : Int) + o == (a : Int)
    | .getfield n => decide (f < 2) && fl.contains (n, a, b, f)
    | .putfield n => decide (2 ≤ f) && decide (f ≤ 4) && fl.contains (n, a, b, f)
    | _ => true
def dp_len : Instr → Nat
  | .iload _ => 2
  | .istore _ => 2
  | .bipush _ => 2
  | .newarray _ => 2
  | .iinc _ _ => 3
  | .goto _ => 3
  | .if_icmp _ _ => 3
  | .ifCond _ _ => 3
  | .getfield _ => 3
  | .putfield _ => 3
  | .invokevirtual _ => 3
  | .invokestatic _ => 3
  | .invokespecial _ => 3
  | .ldc_w _ => 3
  | .new _ => 3
  | .tableswitch _ _ _ _ => 0
  | _ => 1
def dp_ck (fl : List (Nat × Nat × Nat × Nat)) (cs : List (Nat × Int32)) (code : ByteArray) : Nat → List (Option dp_In) → Bool
  | _, [] => true
  | pc, none :: r => dp_ck fl cs code (pc + 1) r
  | pc, some x :: r => decide (decode code pc = .ok (x.1, x.2.1)) && (dp_ck1 fl cs pc x && (dp_len x.1 == 0 || x.2.1 == dp_len x.1)) && dp_ck fl cs code (pc + 1) r
theorem dp_ck_at {fl : List (Nat × Nat × Nat × Nat)} {cs : List (Nat × Int32)} {code : ByteArray} : ∀ (t : List (Option dp_In)) (p0 : Nat), dp_ck fl cs code p0 t = true → ∀ (k : Nat) (x : dp_In), t[k]? = some (some x) → decode code (p0 + k) = .ok (x.1, x.2.1) ∧ dp_ck1 fl cs (p0 + k) x = true ∧ (dp_len x.1 = 0 ∨ x.2.1 = dp_len x.1)
  | [], _, _, k, x, hx => by simp at hx
  | none :: r, p0, h, k, x, hx => by
    cases k with
    | zero => simp at hx
    | succ k =>
      rw [List.getElem?_cons_succ] at hx
      have := dp_ck_at r (p0 + 1) h k x hx
      rwa [show p0 + 1 + k = p0 + (k + 1) by omega] at this
  | some y :: r, p0, h, k, x, hx => by
    simp only [dp_ck, Bool.and_eq_true, decide_eq_true_eq, Bool.or_eq_true, beq_iff_eq] at h
    cases k with
    | zero =>
      rw [List.getElem?_cons_zero] at hx
      cases hx
      exact h.1
    | succ k =>
      rw [List.getElem?_cons_succ] at hx
      have := dp_ck_at r (p0 + 1) h.2 k x hx
      rwa [show p0 + 1 + k = p0 + (k + 1) by omega] at this
/-- a method that is well told -/
def dp_ok (M : dp_M) : Prop := (∃ fl cs, dp_ck fl cs M.2.2.1 0 M.2.2.2.2.2 = true ∧ (∀ x ∈ fl, dp_FL M.1 x ∧ (x.2.2.2 = 4 → M.2.1.name = "<init>")) ∧ ∀ x ∈ cs, Cond.constant M.1 x.1 x.2 ∈ dp_g) ∧ M.2.1.cls = M.1 ∧ Cond.code M.2.1 M.2.2.1 M.2.2.2.1 M.2.2.2.2.1 ∈ dp_g ∧ plainName M.1 = true ∧ M.1 ≠ "java/lang/invoke/MethodHandle" ∧ M.1 ≠ "java/lang/invoke/VarHandle" ∧ M.2.2.2.1 ≤ 21
/-- what stays the same through a method's walk -/
def dp_E (M : dp_M) (p : Program) (s : State) (m : MethodId) (args : Array Value) (meth : Method) (c : Code) (D : va_G) (cI cZ : ClassId) : Prop :=
  p.tables.exec = Jvm.exec ∧ c.code = M.2.2.1 ∧ c.maxLocals = M.2.2.2.1 ∧ meth.sig.returnType = M.2.2.2.2.1 ∧ meth.locks = false ∧ meth.name = M.2.1.name ∧ s.vm.findClass M.1 = some m.cls ∧ (∀ w ∈ dp_g, w.before args s = true) ∧ (∀ w ∈ dp_nw, va_Nw w s) ∧ va_K D vwCl [(cI, .int), (cZ, .boolean)] s
def dp_G (p : Program) (l : Launch) (e : Env) (R : Room) (s : State) (m : MethodId) (args : Array Value) (below : List Frame) (meth : Method) (c : Code) (D : va_G) (cI cZ : ClassId) (b : Nat) (A : Nat → Prop) (nL : Nat) (Q : State → Prop) (k n : Nat) (S : dp_S) : Prop :=
  ∀ (H : Heap) (locs : List Loc) (ls : Array Slot), va_P D vwCl (dp_ws cI cZ b S.2.2.2) H → va_D A (dp_ws cI cZ b S.2.2.2) → va_S A s.heap H locs → dp_L b ls nL S.2.1 →
    W p l e R s m args below meth c H locs k n Q (F0 m S.1 ls (S.2.2.1.map (dp_cv b)))
end
section
/-! ===== 04: a step of the deep machine is a step of the machine ===== -/
theorem dp_bin_inv {f : Int32 → Int32 → Int32} {pc : Nat} {L : List (Option dp_V)} {st : List dp_V} {h : dp_H} {S' : dp_S} (hh : dp_bin f (pc, L, st, h) = some S') : ∃ x y r, st = .inl y :: .inl x :: r ∧ S' = (pc + 1, L, .inl (f x y) :: r, h) := by
  unfold dp_bin at hh
  split at hh
  · rename_i e
    cases e
    exact ⟨_, _, _, rfl, (Option.some.inj hh).symm⟩
  · cases hh
theorem dp_ild_inv {n k pc : Nat} {L : List (Option dp_V)} {st : List dp_V} {h : dp_H} {S' : dp_S} (hh : dp_ild n k (pc, L, st, h) = some S') : ∃ x, L[k]? = some (some (.inl x)) ∧ S' = (pc + n, L, .inl x :: st, h) := by
  unfold dp_ild at hh
  dsimp only at hh
  split at hh
  · rename_i x e
    exact ⟨x, e, (Option.some.inj hh).symm⟩
  · cases hh
theorem dp_ald_inv {n k pc : Nat} {L : List (Option dp_V)} {st : List dp_V} {h : dp_H} {S' : dp_S} (hh : dp_ald n k (pc, L, st, h) = some S') : ∃ q, L[k]? = some (some (.inr (some q))) ∧ S' = (pc + n, L, .inr (some q) :: st, h) := by
  unfold dp_ald at hh
  dsimp only at hh
  split at hh
  · rename_i x e
    exact ⟨x, e, (Option.some.inj hh).symm⟩
  · cases hh
theorem dp_ist_inv {n k pc : Nat} {L : List (Option dp_V)} {st : List dp_V} {h : dp_H} {S' : dp_S} (hh : dp_ist n k (pc, L, st, h) = some S') : ∃ x r, st = .inl x :: r ∧ k < L.length ∧ S' = (pc + n, L.set k (some (.inl x)), r, h) := by
  unfold dp_ist at hh
  split at hh
  · rename_i e
    cases e
    split at hh
    · rename_i y e
      exact ⟨_, _, rfl, (List.getElem?_eq_some_iff.mp e).1, (Option.some.inj hh).symm⟩
    · cases hh
  · cases hh
theorem dp_inc_inv {k pc : Nat} {v : Int32} {L : List (Option dp_V)} {st : List dp_V} {h : dp_H} {S' : dp_S} (hh : dp_inc k v (pc, L, st, h) = some S') : ∃ x, L[k]? = some (some (.inl x)) ∧ S' = (pc + 3, L.set k (some (.inl (x + v))), st, h) := by
  unfold dp_inc at hh
  dsimp only at hh
  split at hh
  · rename_i x e
    exact ⟨x, e, (Option.some.inj hh).symm⟩
  · cases hh
theorem dp_gf_inv {ci k pc : Nat} {L : List (Option dp_V)} {st : List dp_V} {h : dp_H} {S' : dp_S} (hh : dp_gf ci k (pc, L, st, h) = some S') : ∃ q r fs v, st = .inr (some q) :: r ∧ h[q]? = some (.inr (ci, fs)) ∧ fs[k]? = some v ∧ S' = (pc + 3, L, v :: r, h) := by
  unfold dp_gf at hh
  split at hh
  · rename_i e
    cases e
    split at hh
    · rename_i e1
      split at hh
      · rename_i e2
        subst e2
        split at hh
        · rename_i v e3
          exact ⟨_, _, _, v, rfl, e1, e3, (Option.some.inj hh).symm⟩
        · cases hh
      · cases hh
    · cases hh
  · cases hh
theorem dp_pf_inv {ci k pc : Nat} {L : List (Option dp_V)} {st : List dp_V} {h : dp_H} {S' : dp_S} (hh : dp_pf ci k (pc, L, st, h) = some S') : ∃ x q r fs, st = .inl x :: .inr (some q) :: r ∧ h[q]? = some (.inr (ci, fs)) ∧ k < fs.length ∧ S' = (pc + 3, L, r, h.set q (.inr (ci, fs.set k (.inl x)))) := by
  unfold dp_pf at hh
  split at hh
  · rename_i e
    cases e
    split at hh
    · rename_i e1
      split at hh
      · rename_i e2
        subst e2
        split at hh
        · rename_i v e3
          exact ⟨_, _, _, _, rfl, e1, (List.getElem?_eq_some_iff.mp e3).1, (Option.some.inj hh).symm⟩
        · cases hh
      · cases hh
    · cases hh
  · cases hh
theorem dp_pr_inv {ci k pc : Nat} {L : List (Option dp_V)} {st : List dp_V} {h : dp_H} {S' : dp_S} (hh : dp_pr ci k (pc, L, st, h) = some S') : ∃ x q r fs, st = .inr (some x) :: .inr (some q) :: r ∧ h[q]? = some (.inr (ci, fs)) ∧ k < fs.length ∧ S' = (pc + 3, L, r, h.set q (.inr (ci, fs.set k (.inr (some x))))) := by
  unfold dp_pr at hh
  split at hh
  · rename_i e
    cases e
    split at hh
    · rename_i e1
      split at hh
      · rename_i e2
        subst e2
        split at hh
        · rename_i v e3
          exact ⟨_, _, _, _, rfl, e1, (List.getElem?_eq_some_iff.mp e3).1, (Option.some.inj hh).symm⟩
        · cases hh
      · cases hh
    · cases hh
  · cases hh
section DG
variable {M : dp_M} {p : Program} {l : Launch} {e : Env} {R : Room} {s : State} {m : MethodId} {args : Array Value} {below : List Frame} {meth : Method} {c : Code} {D : va_G} {cI cZ : ClassId} {b : Nat} {A : Nat → Prop} {Q : State → Prop} {k n : Nat}
theorem dp_gf_G (E : dp_E M p s m args meth c D cI cZ) {x : Nat × Nat × Nat × Nat} (hF : dp_FL M.1 x) (hf : x.2.2.2 < 2) {pc : Nat} (hd : decode M.2.2.1 pc = .ok (.getfield x.1, 3)) {L : List (Option dp_V)} {st : List dp_V} {h : dp_H} {S' : dp_S} (hh : dp_gf x.2.1 x.2.2.1 (pc, L, st, h) = some S')
    (kk : dp_G p l e R s m args below meth c D cI cZ b A M.2.2.2.1 Q k n S') : dp_G p l e R s m args below meth c D cI cZ b A M.2.2.2.1 Q k n (pc, L, st, h) := by
  obtain ⟨hx, hb, -, -, -, -, hown, hts, hnw, hK⟩ := E
  obtain ⟨⟨C, T, N⟩, hc, hk, ⟨hin, -, -⟩, hl⟩ := hF
  obtain ⟨q, r, fs, v, rfl, e1, e2, rfl⟩ := dp_gf_inv hh
  obtain ⟨idx, ci, kf, f⟩ := x
  dsimp only at hc hk hf hl hd e1 e2 kk hin
  intro H locs ls h2 h3 h4 h5
  have he : (dp_ws cI cZ b h)[q]? = some (b + q, .inr (ci, fs.map (dp_cv b))) := dp_ws_at e1
  have hv : (fs.map (dp_cv b))[kf]? = some (dp_cv b v) := by rw [List.getElem?_map, e2]; rfl
  match f, hf, hl with
  | 0, _, hl => exact va_get (C := C) (T := T) (N := N) hx hb hts hin hown hK h2 q he hc kf hk (hts _ hl) (fun _ z => z) hv hd (kk H locs ls h2 h3 h4 h5)
  | 1, _, hl =>
    obtain ⟨host, hl⟩ := hl
    exact va_getN (C := C) (T := T) (N := N) hx hb hts hin hown hK h2 q he hc kf hk (dp_nw_use hl (hnw _ hl)) (fun _ z => z) hv hd (kk H locs ls h2 h3 h4 h5)
theorem dp_pf_G (E : dp_E M p s m args meth c D cI cZ) {x : Nat × Nat × Nat × Nat} (hF : dp_FL M.1 x) (hf : 2 ≤ x.2.2.2) (hf2 : x.2.2.2 < 4) {pc : Nat} (hd : decode M.2.2.1 pc = .ok (.putfield x.1, 3)) {L : List (Option dp_V)} {st : List dp_V} {h : dp_H} {S' : dp_S} (hh : dp_pf x.2.1 x.2.2.1 (pc, L, st, h) = some S')
    (kk : dp_G p l e R s m args below meth c D cI cZ b A M.2.2.2.1 Q k n S') : dp_G p l e R s m args below meth c D cI cZ b A M.2.2.2.1 Q k n (pc, L, st, h) := by
  obtain ⟨hx, hb, -, -, -, -, hown, hts, hnw, hK⟩ := E
  obtain ⟨⟨C, T, N⟩, hc, hk, ⟨hin, ⟨ty0, hty⟩, hnm⟩, hl⟩ := hF
  obtain ⟨y, q, r, fs, rfl, e1, e2, rfl⟩ := dp_pf_inv hh
  obtain ⟨idx, ci, kf, f⟩ := x
  dsimp only at hc hk hf hf2 hl hd e1 e2 kk hin hty hnm
  intro H locs ls h2 h3 h4 h5
  have he : (dp_ws cI cZ b h)[q]? = some (b + q, .inr (ci, fs.map (dp_cv b))) := dp_ws_at e1
  have hlen : kf < (fs.map (dp_cv b)).length := by rw [List.length_map]; exact e2
  have hw : (dp_ws cI cZ b h).set q (b + q, .inr (ci, (fs.map (dp_cv b)).set kf (.int y))) = dp_ws cI cZ b (h.set q (.inr (ci, fs.set kf (.inl y)))) := by
    rw [← dp_ws_set]
    simp only [dp_ce, List.map_set, dp_cv]
  have k2 : ∀ (H1 : Heap) (locs1 : List Loc), va_P D vwCl ((dp_ws cI cZ b h).set q (b + q, .inr (ci, (fs.map (dp_cv b)).set kf (.int y)))) H1 → va_D A ((dp_ws cI cZ b h).set q (b + q, .inr (ci, (fs.map (dp_cv b)).set kf (.int y)))) → va_S A s.heap H1 locs1 → W p l e R s m args below meth c H1 locs1 k n Q (F0 m (pc + 3) ls (r.map (dp_cv b))) := by
    intro H1 locs1 g1 g2 g3
    rw [hw] at g1 g2
    exact kk H1 locs1 ls g1 g2 g3 h5
  match f, hf, hf2, hl with
  | 2, _, _, hl =>
    obtain ⟨hl, hfin, hd1⟩ := hl
    exact va_put (C := C) (T := T) (N := N) hx hb hts hin ty0 hty hnm hown hK h2 h3 h4 q he hc kf hk (hts _ hl) (fun _ z => z) hfin hd1 (v := .int y) rfl rfl hlen hd k2
  | 3, _, _, hl =>
    obtain ⟨⟨host, hl⟩, hfin, hd1⟩ := hl
    exact va_putN (C := C) (T := T) (N := N) hx hb hts hin ty0 hty hnm hown hK h2 h3 h4 q he hc kf hk (dp_nw_use hl (hnw _ hl)) (fun _ z => z) hfin hd1 (v := .int y) rfl rfl hlen hd k2
theorem dp_pr_G (E : dp_E M p s m args meth c D cI cZ) (hin2 : M.2.1.name = "<init>") {idx ci kf : Nat} (hF : dp_FL M.1 (idx, ci, kf, 4)) {pc : Nat} (hd : decode M.2.2.1 pc = .ok (.putfield idx, 3)) {L : List (Option dp_V)} {st : List dp_V} {h : dp_H} {S' : dp_S} (hh : dp_pr ci kf (pc, L, st, h) = some S')
    (kk : dp_G p l e R s m args below meth c D cI cZ b A M.2.2.2.1 Q k n S') : dp_G p l e R s m args below meth c D cI cZ b A M.2.2.2.1 Q k n (pc, L, st, h) := by
  obtain ⟨hx, hb, -, -, -, hnam, hown, hts, hnw, hK⟩ := E
  obtain ⟨⟨C, T, N⟩, hc, hk, ⟨hin, ⟨ty0, hty⟩, hnm⟩, hl⟩ := hF
  obtain ⟨y, q, r, fs, rfl, e1, e2, rfl⟩ := dp_pr_inv hh
  dsimp only at hc hk hl hin hty hnm
  intro H locs ls h2 h3 h4 h5
  have he : (dp_ws cI cZ b h)[q]? = some (b + q, .inr (ci, fs.map (dp_cv b))) := dp_ws_at e1
  have hlen : kf < (fs.map (dp_cv b)).length := by rw [List.length_map]; exact e2
  have hw : (dp_ws cI cZ b h).set q (b + q, .inr (ci, (fs.map (dp_cv b)).set kf (.ref (b + y)))) = dp_ws cI cZ b (h.set q (.inr (ci, fs.set kf (.inr (some y))))) := by
    rw [← dp_ws_set]
    simp only [dp_ce, List.map_set, dp_cv]
  obtain ⟨hl, hfin, hdecl, ty, hd1, hrf⟩ := hl
  refine va_putF (C := C) (T := T) (N := N) hx hb hts hin ty0 hty hnm hown hK h2 h3 h4 q he hc kf hk (hts _ hl) (fun _ z => z) hfin (hnam.trans hin2) hdecl hd1 (v := .ref (b + y)) (hrf _).1 (hrf _).2 hlen hd ?_
  intro H1 locs1 g1 g2 g3
  rw [hw] at g1 g2
  exact kk H1 locs1 ls g1 g2 g3 h5
end DG
/-- the table's entries of one method, with what the program tested of them -/
def dp_X (M : dp_M) (pc : Nat) (x : dp_In) : Prop := decode M.2.2.1 pc = .ok (x.1, x.2.1) ∧ (dp_len x.1 = 0 ∨ x.2.1 = dp_len x.1) ∧ ∃ fl cs, dp_ck1 fl cs pc x = true ∧ (∀ x ∈ fl, dp_FL M.1 x ∧ (x.2.2.2 = 4 → M.2.1.name = "<init>")) ∧ ∀ x ∈ cs, Cond.constant M.1 x.1 x.2 ∈ dp_g
theorem dp_X_of {M : dp_M} (hM : dp_ok M) {pc : Nat} {x : dp_In} (h : M.2.2.2.2.2[pc]? = some (some x)) : dp_X M pc x := by
  obtain ⟨⟨fl, cs, hck, hfl, hcs⟩, -⟩ := hM
  have h1 := dp_ck_at _ 0 hck pc x h
  rw [Nat.zero_add] at h1
  exact ⟨h1.1, h1.2.2, fl, cs, h1.2.1, hfl, hcs⟩
theorem dp_lenE {i : Instr} {n k : Nat} (h : dp_len i = 0 ∨ n = dp_len i) (hk : dp_len i = k + 1) : n = k + 1 := by omega
section DS
variable {M : dp_M} {p : Program} {l : Launch} {e : Env} {R : Room} {s : State} {m : MethodId} {args : Array Value} {below : List Frame} {meth : Method} {c : Code} {D : va_G} {cI cZ : ClassId} {b : Nat} {A : Nat → Prop} {Q : State → Prop} {k n : Nat}
set_option maxHeartbeats 4000000 in
theorem dp_st_G (hM : dp_ok M) (E : dp_E M p s m args meth c D cI cZ) {S S' : dp_S} (h : dp_st M S = some S')
    (kk : dp_G p l e R s m args below meth c D cI cZ b A M.2.2.2.1 Q k n S') : dp_G p l e R s m args below meth c D cI cZ b A M.2.2.2.1 Q k n S := by
  obtain ⟨pc, L, st, hp⟩ := S
  unfold dp_st at h
  dsimp only at h
  split at h
  · rename_i i len a b' f v he
    obtain ⟨hd, hlen, fl, cs, hck, hfl, hcs⟩ := dp_X_of hM he
    dsimp only at hd hlen
    have E0 := E
    obtain ⟨hx, hb, hml, -, -, hnam, hown, hts, hnw, hK⟩ := E0
    unfold dp_op at h
    split at h
    · obtain rfl := dp_lenE hlen rfl
      obtain ⟨x, e1, rfl⟩ := dp_ild_inv h
      intro H locs ls h2 h3 h4 h5
      exact lv_iload hx hb hd (h5.at e1) (kk H locs ls h2 h3 h4 h5)
    · obtain rfl := dp_lenE hlen rfl
      obtain ⟨x, e1, rfl⟩ := dp_ild_inv h
      intro H locs ls h2 h3 h4 h5
      exact lv_iload_n hx hb hd rfl (h5.at e1) (kk H locs ls h2 h3 h4 h5)
    · obtain rfl := dp_lenE hlen rfl
      obtain ⟨x, e1, rfl⟩ := dp_ald_inv h
      intro H locs ls h2 h3 h4 h5
      exact lv_aload_n hx hb hd rfl (h5.at e1) (kk H locs ls h2 h3 h4 h5)
    · obtain rfl := dp_lenE hlen rfl
      rename_i nn
      have hv : Int32.ofInt nn = v := by simpa [dp_ck1] using hck
      cases h
      intro H locs ls h2 h3 h4 h5
      exact lv_iconst hx hb hd hv (kk H locs ls h2 h3 h4 h5)
    · obtain rfl := dp_lenE hlen rfl
      rename_i nn
      have hv : (Int8.ofInt nn).toInt32 = v := by simpa [dp_ck1] using hck
      cases h
      intro H locs ls h2 h3 h4 h5
      exact lv_bipush hx hb hd hv (kk H locs ls h2 h3 h4 h5)
    · obtain rfl := dp_lenE hlen rfl
      rename_i nn
      have hv : (nn, v) ∈ cs := by simpa [dp_ck1] using hck
      cases h
      intro H locs ls h2 h3 h4 h5
      exact lv_ldcw hx hb hown (hts _ (hcs _ hv)) hd (kk H locs ls h2 h3 h4 h5)
    · obtain rfl := dp_lenE hlen rfl
      obtain ⟨x, r, rfl, e1, rfl⟩ := dp_ist_inv h
      intro H locs ls h2 h3 h4 h5
      exact lv_istore hx hb hd h5.1 (by rw [← h5.2]; exact e1) rfl (fun ls' h' => kk H locs ls' h2 h3 h4 (h5.set (v := .inl x) h'))
    · obtain rfl := dp_lenE hlen rfl
      obtain ⟨x, r, rfl, e1, rfl⟩ := dp_ist_inv h
      intro H locs ls h2 h3 h4 h5
      exact lv_istore_n hx hb hd rfl h5.1 (by rw [← h5.2]; exact e1) rfl (fun ls' h' => kk H locs ls' h2 h3 h4 (h5.set (v := .inl x) h'))
    · obtain rfl := dp_lenE hlen rfl
      rename_i kx nn
      have hv : Int32.ofInt nn = v := by simpa [dp_ck1] using hck
      obtain ⟨x, e1, rfl⟩ := dp_inc_inv h
      intro H locs ls h2 h3 h4 h5
      obtain ⟨q, hq⟩ := List.getElem?_of_mem (dp_lv_mem.mpr ⟨kx, _, e1, rfl⟩ : (kx, dp_cv b (.inl x)) ∈ dp_lv b L)
      exact lv_iinc (v := x + v) hx hb hd h5.1 hq (by rw [hv]) (by rw [← h5.2]; exact (List.getElem?_eq_some_iff.mp e1).1) rfl (fun ls' h' => kk H locs ls' h2 h3 h4 (h5.set (v := .inl (x + v)) h'))
    · obtain rfl := dp_lenE hlen rfl
      obtain ⟨x, y, r, rfl, rfl⟩ := dp_bin_inv h
      exact fun H locs ls h2 h3 h4 h5 => lv_iadd hx hb hd (kk H locs ls h2 h3 h4 h5)
    · obtain rfl := dp_lenE hlen rfl
      obtain ⟨x, y, r, rfl, rfl⟩ := dp_bin_inv h
      exact fun H locs ls h2 h3 h4 h5 => lv_isub hx hb hd (kk H locs ls h2 h3 h4 h5)
    · obtain rfl := dp_lenE hlen rfl
      obtain ⟨x, y, r, rfl, rfl⟩ := dp_bin_inv h
      exact fun H locs ls h2 h3 h4 h5 => lv_imul hx hb hd (kk H locs ls h2 h3 h4 h5)
    · obtain rfl := dp_lenE hlen rfl
      obtain ⟨x, y, r, rfl, rfl⟩ := dp_bin_inv h
      exact fun H locs ls h2 h3 h4 h5 => lv_iand hx hb hd (kk H locs ls h2 h3 h4 h5)
    · obtain rfl := dp_lenE hlen rfl
      obtain ⟨x, y, r, rfl, rfl⟩ := dp_bin_inv h
      exact fun H locs ls h2 h3 h4 h5 => lv_ior hx hb hd (kk H locs ls h2 h3 h4 h5)
    · obtain rfl := dp_lenE hlen rfl
      obtain ⟨x, y, r, rfl, rfl⟩ := dp_bin_inv h
      exact fun H locs ls h2 h3 h4 h5 => lv_ixor hx hb hd (kk H locs ls h2 h3 h4 h5)
    · obtain rfl := dp_lenE hlen rfl
      obtain ⟨x, y, r, rfl, rfl⟩ := dp_bin_inv h
      exact fun H locs ls h2 h3 h4 h5 => lv_ishl hx hb hd (kk H locs ls h2 h3 h4 h5)
    · obtain rfl := dp_lenE hlen rfl
      obtain ⟨x, y, r, rfl, rfl⟩ := dp_bin_inv h
      exact fun H locs ls h2 h3 h4 h5 => lv_ishr hx hb hd (kk H locs ls h2 h3 h4 h5)
    · obtain rfl := dp_lenE hlen rfl
      obtain ⟨x, y, r, rfl, rfl⟩ := dp_bin_inv h
      exact fun H locs ls h2 h3 h4 h5 => lv_iushr hx hb hd rfl (kk H locs ls h2 h3 h4 h5)
    · obtain rfl := dp_lenE hlen rfl
      unfold dp_neg at h
      split at h
      · rename_i e0
        cases e0
        cases h
        exact fun H locs ls h2 h3 h4 h5 => lv_ineg hx hb hd (kk H locs ls h2 h3 h4 h5)
      · cases h
    · obtain rfl := dp_lenE hlen rfl
      unfold dp_dup at h
      split at h
      · rename_i e0
        cases e0
        cases h
        exact fun H locs ls h2 h3 h4 h5 => lv_dup hx hb hd (dp_cat _ _) (kk H locs ls h2 h3 h4 h5)
      · cases h
    · obtain rfl := dp_lenE hlen rfl
      unfold dp_dup2 at h
      split at h
      · rename_i e0
        cases e0
        cases h
        exact fun H locs ls h2 h3 h4 h5 => lv_dup2_11 hx hb hd (dp_cat _ _) (dp_cat _ _) (kk H locs ls h2 h3 h4 h5)
      · cases h
    · obtain rfl := dp_lenE hlen rfl
      rename_i nn
      have ht : (pc : Int) + nn = (a : Int) := by simpa [dp_ck1] using hck
      cases h
      exact fun H locs ls h2 h3 h4 h5 => lv_goto hx hb hd ht (kk H locs ls h2 h3 h4 h5)
    · obtain rfl := dp_lenE hlen rfl
      rename_i nn
      have hv : f < 2 ∧ (nn, a, b', f) ∈ fl := by simpa [dp_ck1] using hck
      exact dp_gf_G (x := (nn, a, b', f)) E (hfl _ hv.2).1 hv.1 hd h kk
    · obtain rfl := dp_lenE hlen rfl
      rename_i nn
      have hv : (2 ≤ f ∧ f ≤ 4) ∧ (nn, a, b', f) ∈ fl := by simpa [dp_ck1] using hck
      split at h
      · rename_i e4
        subst e4
        exact dp_pr_G E ((hfl _ hv.2).2 rfl) (hfl _ hv.2).1 hd h kk
      · rename_i e4
        exact dp_pf_G (x := (nn, a, b', f)) E (hfl _ hv.2).1 hv.1.1 (by show f < 4; omega) hd h kk
    · cases h
  · cases h
theorem dp_sts_G (hM : dp_ok M) (E : dp_E M p s m args meth c D cI cZ) : ∀ (j : Nat) {S S' : dp_S} (_ : dp_sts M j S = some S')
    (_ : dp_G p l e R s m args below meth c D cI cZ b A M.2.2.2.1 Q k n S'), dp_G p l e R s m args below meth c D cI cZ b A M.2.2.2.1 Q k n S
  | 0, S, S', h, kk => by cases h; exact kk
  | j + 1, S, S', h, kk => by
    unfold dp_sts at h
    split at h
    · rename_i S1 e1
      exact dp_st_G hM E e1 (dp_sts_G hM E j h kk)
    · cases h
end DS
end
section
/-! ===== 05: contracts of the deep machine, and its rules ===== -/
def dp_room (d mc ms : Nat) : Room := { frames := d, cells := mc, slots := ms, locals := 40 * d }
def dp_Q (D : va_G) (cI cZ : ClassId) (b : Nat) (h : dp_H) (sz : Nat) (post : Option dp_V → dp_H → Prop) : Array Value → State → Outcome → State → Prop := fun _ st o t =>
  (∃ (r : Option dp_V) (h' : dp_H), o = .returned (r.map (dp_cv b)) ∧ post r h' ∧ va_P D vwCl (dp_ws cI cZ b h') t.heap ∧ va_D (va_A (dp_ws cI cZ b h) sz) (dp_ws cI cZ b h')) ∧ va_F (va_A (dp_ws cI cZ b h) sz) st t
def dp_w (M : dp_M) : List Cond := .code M.2.1 M.2.2.1 M.2.2.2.1 M.2.2.2.2.1 :: dp_g
def dp_Pc (D : va_G) (cI cZ : ClassId) (b sz : Nat) (al : Bool) (as : List dp_V) (h : dp_H) : Array Value → State → Prop := va_Pc (as.map (dp_cv b)) (fun U => U.heap.size = sz ∧ (al = true → sz = b + h.length) ∧ va_P D vwCl (dp_ws cI cZ b h) U.heap ∧ va_K D vwCl [(cI, .int), (cZ, .boolean)] U ∧ ∀ w ∈ dp_nw, va_Nw w U)
def dp_C (d : Nat) (M : dp_M) (al : Bool) (as : List dp_V) (h : dp_H) (mc ms : Nat) (post : Option dp_V → dp_H → Prop) : Prop :=
  ∀ (l : Launch) (D : va_G) (cI cZ : ClassId) (b sz : Nat), Met l M.2.1 (dp_w M) (dp_room d mc ms) (dp_Pc D cI cZ b sz al as h) (dp_Q D cI cZ b h sz post) mc ms (va_A (dp_ws cI cZ b h) sz)
def dp_W (d : Nat) (M : dp_M) (al : Bool) (h0 : dp_H) (mc ms : Nat) (post : Option dp_V → dp_H → Prop) (k n : Nat) (S : dp_S) : Prop :=
  ∀ (p : Program) (l : Launch) (e : Env) (s : State) (m : MethodId) (args : Array Value) (below : List Frame) (meth : Method) (c : Code) (D : va_G) (cI cZ : ClassId) (b : Nat), dp_E M p s m args meth c D cI cZ → (al = true → s.heap.size = b + h0.length) →
    dp_G p l e (dp_room d mc ms) s m args below meth c D cI cZ b (va_A (dp_ws cI cZ b h0) s.heap.size) M.2.2.2.1 (MQ below (dp_Q D cI cZ b h0 s.heap.size post) args s mc ms (va_A (dp_ws cI cZ b h0) s.heap.size)) k n S
theorem dp_blind {D : va_G} {cI cZ : ClassId} {b sz : Nat} {al : Bool} {as : List dp_V} {h : dp_H} : FrameBlind (dp_Pc D cI cZ b sz al as h) := by
  intro a U g mk q
  obtain ⟨q0, q1, q2, q3, q4, q5⟩ := q
  exact ⟨q0, q1, q2, q3, va_K.moved (u := U) (U := U.calling g mk a) (Vm.Alike.refl U.vm) q4, fun w hw => dp_nw_same (u := U) (U := U.calling g mk a) hw rfl (q5 w hw)⟩
theorem dp_args_mem {b : Nat} : ∀ (as : List dp_V) (i0 i : Nat) (v : dp_V), as[i]? = some v → (i0 + i, dp_cv b v) ∈ lv_args i0 (as.map (dp_cv b))
  | [], _, i, v, h => by simp at h
  | a :: as, i0, 0, v, h => by
    cases h
    exact List.mem_cons_self
  | a :: as, i0, i + 1, v, h => by
    rw [List.getElem?_cons_succ] at h
    have := dp_args_mem (b := b) as (i0 + 1) i v h
    rw [show i0 + (i + 1) = i0 + 1 + i by omega]
    show _ ∈ (i0, dp_cv b a) :: lv_args (if (dp_cv b a).category = 2 then i0 + 2 else i0 + 1) (as.map (dp_cv b))
    rw [dp_cat, if_neg (by decide)]
    exact List.mem_cons_of_mem _ this
theorem dp_sl_len {b : Nat} : ∀ (as : List dp_V), (lg_sl (as.map (dp_cv b))).length = as.length
  | [] => rfl
  | a :: as => by
    show (lg_sl (dp_cv b a :: as.map (dp_cv b))).length = _
    have := dp_sl_len (b := b) as
    unfold lg_sl at this ⊢
    rw [List.flatMap_cons, dp_cat, if_neg (by decide), List.length_append, this]
    simp [Nat.add_comm]
/-- a method's contract out of the walk of its body -/
theorem dp_C_of {d : Nat} {M : dp_M} (hM : dp_ok M) {al : Bool} {as : List dp_V} {h : dp_H} {mc ms : Nat} {post : Option dp_V → dp_H → Prop} (L : List (Option dp_V)) (hL : L = as.map some ++ List.replicate (M.2.2.2.1 - as.length) none) (hn : as.length ≤ M.2.2.2.1)
    (kk : dp_W d M al h mc ms post 0 0 (0, L, [], h)) : dp_C d M al as h mc ms post := by
  subst hL
  intro l D cI cZ b sz
  have hM0 := hM
  obtain ⟨-, hcls, -, hpl, -⟩ := hM0
  refine Met.ofW (cc := M.2.2.1) (maxL := M.2.2.2.1) (ret := M.2.2.2.2.1) (by rw [hcls]; exact hpl) rfl ?_
  intro p e s m args below meth c s₁ B hml hv
  obtain ⟨rfl, rfl, hal, hP, hK, hnw⟩ := hv
  have hts := atoms_spec (ws := dp_w M) B.pre
  have hown : s.vm.findClass M.1 = some m.cls := hcls ▸ findClass_of_methodNamed B.named
  have E : dp_E M p s m ((as.map (dp_cv b)).toArray) meth c D cI cZ := ⟨B.exec, B.bytes, hml, B.returns, B.notSynchronized, (name_of_methodNamed B.named B.method).1, hown, fun w hw => hts w (List.mem_cons_of_mem _ hw), hnw, hK⟩
  have hl := lv_entry (as.map (dp_cv b)) (n := M.2.2.2.1) (by rw [dp_sl_len]; exact hn)
  rw [lg_entry_eq]
  generalize (lg_sl (as.map (dp_cv b)) ++ List.replicate (M.2.2.2.1 - (lg_sl (as.map (dp_cv b))).length) Slot.unset).toArray = ls at hl ⊢
  refine kk p l e s m _ below meth c D cI cZ b E hal s.heap [] ls hP dp_D0 va_S.rf ⟨⟨hl.1, hl.2.1, fun q hq => ?_⟩, by simp; omega⟩
  obtain ⟨i, v, hi, rfl⟩ := dp_lv_mem.mp hq
  have hi2 : as[i]? = some v := by
    by_cases z : i < as.length
    · rw [List.getElem?_append_left (by simpa using z), List.getElem?_map] at hi
      cases h3 : as[i]? with
      | none => rw [h3] at hi; cases hi
      | some w => rw [h3] at hi; cases hi; rfl
    · rw [List.getElem?_append_right (by simpa using z)] at hi
      rw [List.getElem?_replicate] at hi
      split at hi
      · cases hi
      · cases hi
  have := dp_args_mem (b := b) as 0 i v hi2
  rw [Nat.zero_add] at this
  exact hl.2.2 _ this
section DR
variable {d : Nat} {M : dp_M} {al : Bool} {h0 : dp_H} {mc ms : Nat} {post : Option dp_V → dp_H → Prop} {k n : Nat} {pc : Nat} {L : List (Option dp_V)} {st : List dp_V} {h : dp_H}
theorem dp_blk (hM : dp_ok M) (j : Nat) {S S' : dp_S} (hh : dp_sts M j S = some S') (kk : dp_W d M al h0 mc ms post k n S') : dp_W d M al h0 mc ms post k n S := by
  intro p l e s m args below meth c D cI cZ b E ha
  exact dp_sts_G hM E j hh (kk p l e s m args below meth c D cI cZ b E ha)
def dp_cmp (op : ClassFile.Cond) (x y : Int32) : Prop := match op with
  | .eq => x = y
  | .ne => ¬ x = y
  | .lt => x < y
  | .ge => y ≤ x
  | .gt => y < x
  | .le => x ≤ y
def dp_ncmp (op : ClassFile.Cond) (x y : Int32) : Prop := match op with
  | .eq => ¬ x = y
  | .ne => x = y
  | .lt => ¬ x < y
  | .ge => ¬ y ≤ x
  | .gt => ¬ y < x
  | .le => ¬ x ≤ y
theorem dp_if (hM : dp_ok M) {op : ClassFile.Cond} {off : Int} {len a b' f : Nat} {v x y : Int32} (ht : M.2.2.2.2.2[pc]? = some (some (.if_icmp op off, len, a, b', f, v)))
    (kt : dp_cmp op x y → dp_W d M al h0 mc ms post k n (a, L, st, h)) (kf : dp_ncmp op x y → dp_W d M al h0 mc ms post k n (pc + 3, L, st, h)) : dp_W d M al h0 mc ms post k n (pc, L, .inl y :: .inl x :: st, h) := by
  obtain ⟨hd, hlen, fl, cs, hck, -, -⟩ := dp_X_of hM ht
  dsimp only at hd hlen
  obtain rfl := dp_lenE hlen rfl
  have hz : (pc : Int) + off = (a : Int) := by simpa [dp_ck1] using hck
  intro p l e s m args below meth c D cI cZ b E ha H locs ls h2 h3 h4 h5
  have hx := E.1
  have hb := E.2.1
  cases op
  · exact lv_icmp_eq hx hb hd hz (fun c1 => kt c1 p l e s m args below meth c D cI cZ b E ha H locs ls h2 h3 h4 h5) (fun c1 => kf c1 p l e s m args below meth c D cI cZ b E ha H locs ls h2 h3 h4 h5)
  · exact lv_icmp_ne hx hb hd hz (fun c1 => kt c1 p l e s m args below meth c D cI cZ b E ha H locs ls h2 h3 h4 h5) (fun c1 => kf c1 p l e s m args below meth c D cI cZ b E ha H locs ls h2 h3 h4 h5)
  · exact lv_icmp_lt hx hb hd hz (fun c1 => kt c1 p l e s m args below meth c D cI cZ b E ha H locs ls h2 h3 h4 h5) (fun c1 => kf c1 p l e s m args below meth c D cI cZ b E ha H locs ls h2 h3 h4 h5)
  · exact lv_icmp_ge hx hb hd hz (fun c1 => kt c1 p l e s m args below meth c D cI cZ b E ha H locs ls h2 h3 h4 h5) (fun c1 => kf c1 p l e s m args below meth c D cI cZ b E ha H locs ls h2 h3 h4 h5)
  · exact lv_icmp_gt hx hb hd hz (fun c1 => kt c1 p l e s m args below meth c D cI cZ b E ha H locs ls h2 h3 h4 h5) (fun c1 => kf c1 p l e s m args below meth c D cI cZ b E ha H locs ls h2 h3 h4 h5)
  · exact lv_icmp_le hx hb hd hz (fun c1 => kt c1 p l e s m args below meth c D cI cZ b E ha H locs ls h2 h3 h4 h5) (fun c1 => kf c1 p l e s m args below meth c D cI cZ b E ha H locs ls h2 h3 h4 h5)
theorem dp_if0 (hM : dp_ok M) {op : ClassFile.Cond} {off : Int} {len a b' f : Nat} {v x : Int32} (ht : M.2.2.2.2.2[pc]? = some (some (.ifCond op off, len, a, b', f, v)))
    (kt : dp_cmp op x 0 → dp_W d M al h0 mc ms post k n (a, L, st, h)) (kf : dp_ncmp op x 0 → dp_W d M al h0 mc ms post k n (pc + 3, L, st, h)) : dp_W d M al h0 mc ms post k n (pc, L, .inl x :: st, h) := by
  obtain ⟨hd, hlen, fl, cs, hck, -, -⟩ := dp_X_of hM ht
  dsimp only at hd hlen
  obtain rfl := dp_lenE hlen rfl
  have hz : (pc : Int) + off = (a : Int) := by simpa [dp_ck1] using hck
  intro p l e s m args below meth c D cI cZ b E ha H locs ls h2 h3 h4 h5
  have hx := E.1
  have hb := E.2.1
  cases op
  · exact lv_if_eq hx hb hd hz (fun c1 => kt c1 p l e s m args below meth c D cI cZ b E ha H locs ls h2 h3 h4 h5) (fun c1 => kf c1 p l e s m args below meth c D cI cZ b E ha H locs ls h2 h3 h4 h5)
  · exact lv_if_ne hx hb hd hz (fun c1 => kt c1 p l e s m args below meth c D cI cZ b E ha H locs ls h2 h3 h4 h5) (fun c1 => kf c1 p l e s m args below meth c D cI cZ b E ha H locs ls h2 h3 h4 h5)
  · exact lv_if_lt hx hb hd hz (fun c1 => kt c1 p l e s m args below meth c D cI cZ b E ha H locs ls h2 h3 h4 h5) (fun c1 => kf c1 p l e s m args below meth c D cI cZ b E ha H locs ls h2 h3 h4 h5)
  · exact lv_if_ge hx hb hd hz (fun c1 => kt c1 p l e s m args below meth c D cI cZ b E ha H locs ls h2 h3 h4 h5) (fun c1 => kf c1 p l e s m args below meth c D cI cZ b E ha H locs ls h2 h3 h4 h5)
  · exact lv_if_gt hx hb hd hz (fun c1 => kt c1 p l e s m args below meth c D cI cZ b E ha H locs ls h2 h3 h4 h5) (fun c1 => kf c1 p l e s m args below meth c D cI cZ b E ha H locs ls h2 h3 h4 h5)
  · exact lv_if_le hx hb hd hz (fun c1 => kt c1 p l e s m args below meth c D cI cZ b E ha H locs ls h2 h3 h4 h5) (fun c1 => kf c1 p l e s m args below meth c D cI cZ b E ha H locs ls h2 h3 h4 h5)
theorem dp_swI (hM : dp_ok M) {dflt lo hi : Int} {offs : Array Int} {len a b' f : Nat} {v x : Int32} (ht : M.2.2.2.2.2[pc]? = some (some (.tableswitch dflt lo hi offs, len, a, b', f, v))) {off : Int} {tgt : Nat}
    (hj : ¬ x.toInt < lo ∧ ¬ hi < x.toInt ∧ offs[(x.toInt - lo).toNat]? = some off ∧ (pc : Int) + off = (tgt : Int)) (kk : dp_W d M al h0 mc ms post k n (tgt, L, st, h)) : dp_W d M al h0 mc ms post k n (pc, L, .inl x :: st, h) := by
  have hd := (dp_X_of hM ht).1
  intro p l e s m args below meth c D cI cZ b E ha H locs ls h2 h3 h4 h5
  exact lv_tableIn E.1 E.2.1 hd hj.1 hj.2.1 hj.2.2.1 hj.2.2.2 (kk p l e s m args below meth c D cI cZ b E ha H locs ls h2 h3 h4 h5)
theorem dp_swO (hM : dp_ok M) {dflt lo hi : Int} {offs : Array Int} {len a b' f : Nat} {v x : Int32} (ht : M.2.2.2.2.2[pc]? = some (some (.tableswitch dflt lo hi offs, len, a, b', f, v))) {tgt : Nat}
    (hj : x.toInt < lo ∨ hi < x.toInt) (hz : (pc : Int) + dflt = (tgt : Int)) (kk : dp_W d M al h0 mc ms post k n (tgt, L, st, h)) : dp_W d M al h0 mc ms post k n (pc, L, .inl x :: st, h) := by
  have hd := (dp_X_of hM ht).1
  intro p l e s m args below meth c D cI cZ b E ha H locs ls h2 h3 h4 h5
  exact lv_tableOut E.1 E.2.1 hd hj hz (kk p l e s m args below meth c D cI cZ b E ha H locs ls h2 h3 h4 h5)
theorem dp_out {x : Int32} (N : Nat) (hN : N < 2 ^ 31) (hx : ∀ j, j ≤ N → ¬ x = nI j) : x.toInt < 0 ∨ (N : Int) < x.toInt := by
  rcases Int.lt_or_le x.toInt 0 with q | q
  · exact Or.inl q
  · rcases Int.lt_or_le (N : Int) x.toInt with z | z
    · exact Or.inr z
    · refine absurd ?_ (hx x.toInt.toNat (by omega))
      rw [Int32.toInt_inj.symm, nI_toInt (by omega)]
      omega
theorem dp_idiv (hM : dp_ok M) {len a b' f : Nat} {v x y : Int32} (ht : M.2.2.2.2.2[pc]? = some (some (.idiv, len, a, b', f, v))) (hy : ¬ y = 0)
    (kk : dp_W d M al h0 mc ms post k n (pc + 1, L, .inl (x / y) :: st, h)) : dp_W d M al h0 mc ms post k n (pc, L, .inl y :: .inl x :: st, h) := by
  obtain ⟨hd, hlen, -⟩ := dp_X_of hM ht
  dsimp only at hd hlen
  obtain rfl := dp_lenE hlen rfl
  intro p l e s m args below meth c D cI cZ b E ha H locs ls h2 h3 h4 h5
  exact lv_idiv E.1 E.2.1 hd hy (kk p l e s m args below meth c D cI cZ b E ha H locs ls h2 h3 h4 h5)
theorem dp_irem (hM : dp_ok M) {len a b' f : Nat} {v x y : Int32} (ht : M.2.2.2.2.2[pc]? = some (some (.irem, len, a, b', f, v))) (hy : ¬ y = 0)
    (kk : dp_W d M al h0 mc ms post k n (pc + 1, L, .inl (x - x / y * y) :: st, h)) : dp_W d M al h0 mc ms post k n (pc, L, .inl y :: .inl x :: st, h) := by
  obtain ⟨hd, hlen, -⟩ := dp_X_of hM ht
  dsimp only at hd hlen
  obtain rfl := dp_lenE hlen rfl
  intro p l e s m args below meth c D cI cZ b E ha H locs ls h2 h3 h4 h5
  exact lv_irem E.1 E.2.1 hd hy (kk p l e s m args below meth c D cI cZ b E ha H locs ls h2 h3 h4 h5)
theorem dp_ial (hM : dp_ok M) {len a b' f q N : Nat} {v i : Int32} {g : Nat → Int32} (ht : M.2.2.2.2.2[pc]? = some (some (.iaload, len, a, b', f, v))) (hq : h[q]? = some (.inl (false, N, g))) (hi : vp_in i N)
    (kk : dp_W d M al h0 mc ms post k n (pc + 1, L, .inl (g i.toNatClampNeg) :: st, h)) : dp_W d M al h0 mc ms post k n (pc, L, .inl i :: .inr (some q) :: st, h) := by
  obtain ⟨hd, hlen, -⟩ := dp_X_of hM ht
  dsimp only at hd hlen
  obtain rfl := dp_lenE hlen rfl
  intro p l e s m args below meth c D cI cZ b E ha H locs ls h2 h3 h4 h5
  have he : (dp_ws cI cZ b h)[q]? = some (b + q, .inl (cI, N, .inl g)) := dp_ws_at hq
  exact va_iald E.1 E.2.1 E.2.2.2.2.2.2.2.2.2 h2 q 0 he rfl hi hd (kk p l e s m args below meth c D cI cZ b E ha H locs ls h2 h3 h4 h5)
theorem dp_bal (hM : dp_ok M) {len a b' f q N : Nat} {v i : Int32} {g : Nat → Int32} (ht : M.2.2.2.2.2[pc]? = some (some (.baload, len, a, b', f, v))) (hq : h[q]? = some (.inl (true, N, g))) (hi : vp_in i N)
    (kk : dp_W d M al h0 mc ms post k n (pc + 1, L, .inl (g i.toNatClampNeg) :: st, h)) : dp_W d M al h0 mc ms post k n (pc, L, .inl i :: .inr (some q) :: st, h) := by
  obtain ⟨hd, hlen, -⟩ := dp_X_of hM ht
  dsimp only at hd hlen
  obtain rfl := dp_lenE hlen rfl
  intro p l e s m args below meth c D cI cZ b E ha H locs ls h2 h3 h4 h5
  have he : (dp_ws cI cZ b h)[q]? = some (b + q, .inl (cZ, N, .inl g)) := dp_ws_at hq
  exact va_zald E.1 E.2.1 E.2.2.2.2.2.2.2.2.2 h2 q 1 he rfl hi hd (kk p l e s m args below meth c D cI cZ b E ha H locs ls h2 h3 h4 h5)
theorem dp_ias (hM : dp_ok M) {len a b' f q N : Nat} {v i x : Int32} {g : Nat → Int32} (ht : M.2.2.2.2.2[pc]? = some (some (.iastore, len, a, b', f, v))) (hq : h[q]? = some (.inl (false, N, g))) (hi : vp_in i N)
    (kk : dp_W d M al h0 mc ms post k n (pc + 1, L, st, h.set q (.inl (false, N, upd g i.toNatClampNeg x)))) : dp_W d M al h0 mc ms post k n (pc, L, .inl x :: .inl i :: .inr (some q) :: st, h) := by
  obtain ⟨hd, hlen, -⟩ := dp_X_of hM ht
  dsimp only at hd hlen
  obtain rfl := dp_lenE hlen rfl
  intro p l e s m args below meth c D cI cZ b E ha H locs ls h2 h3 h4 h5
  have he : (dp_ws cI cZ b h)[q]? = some (b + q, .inl (cI, N, .inl g)) := dp_ws_at hq
  have hw : (dp_ws cI cZ b h).set q (b + q, .inl (cI, N, .inl (upd g i.toNatClampNeg x))) = dp_ws cI cZ b (h.set q (.inl (false, N, upd g i.toNatClampNeg x))) := dp_ws_set q (.inl (false, N, upd g i.toNatClampNeg x))
  refine va_iast E.1 E.2.1 E.2.2.2.2.2.2.2.2.2 h2 h3 h4 q 0 he rfl hi hd (fun H1 locs1 g1 g2 g3 => ?_)
  rw [hw] at g1 g2
  exact kk p l e s m args below meth c D cI cZ b E ha H1 locs1 ls g1 g2 g3 h5
theorem dp_bas (hM : dp_ok M) {len a b' f q N : Nat} {v i x : Int32} {g : Nat → Int32} (ht : M.2.2.2.2.2[pc]? = some (some (.bastore, len, a, b', f, v))) (hq : h[q]? = some (.inl (true, N, g))) (hi : vp_in i N)
    (kk : dp_W d M al h0 mc ms post k n (pc + 1, L, st, h.set q (.inl (true, N, upd g i.toNatClampNeg (x &&& 1))))) : dp_W d M al h0 mc ms post k n (pc, L, .inl x :: .inl i :: .inr (some q) :: st, h) := by
  obtain ⟨hd, hlen, -⟩ := dp_X_of hM ht
  dsimp only at hd hlen
  obtain rfl := dp_lenE hlen rfl
  intro p l e s m args below meth c D cI cZ b E ha H locs ls h2 h3 h4 h5
  have he : (dp_ws cI cZ b h)[q]? = some (b + q, .inl (cZ, N, .inl g)) := dp_ws_at hq
  have hw : (dp_ws cI cZ b h).set q (b + q, .inl (cZ, N, .inl (upd g i.toNatClampNeg (vp_nar .boolean x)))) = dp_ws cI cZ b (h.set q (.inl (true, N, upd g i.toNatClampNeg (x &&& 1)))) := dp_ws_set q (.inl (true, N, upd g i.toNatClampNeg (x &&& 1)))
  refine va_zast E.1 E.2.1 E.2.2.2.2.2.2.2.2.2 h2 h3 h4 q 1 he rfl hi hd (fun H1 locs1 g1 g2 g3 => ?_)
  rw [hw] at g1 g2
  exact kk p l e s m args below meth c D cI cZ b E ha H1 locs1 ls g1 g2 g3 h5
theorem dp_aln (hM : dp_ok M) {len a b' f q N : Nat} {v : Int32} {g : Nat → Int32} (ht : M.2.2.2.2.2[pc]? = some (some (.arraylength, len, a, b', f, v))) (hq : h[q]? = some (.inl (false, N, g)))
    (kk : dp_W d M al h0 mc ms post k n (pc + 1, L, .inl (Int32.ofNat N) :: st, h)) : dp_W d M al h0 mc ms post k n (pc, L, .inr (some q) :: st, h) := by
  obtain ⟨hd, hlen, -⟩ := dp_X_of hM ht
  dsimp only at hd hlen
  obtain rfl := dp_lenE hlen rfl
  intro p l e s m args below meth c D cI cZ b E ha H locs ls h2 h3 h4 h5
  have he : (dp_ws cI cZ b h)[q]? = some (b + q, .inl (cI, N, .inl g)) := dp_ws_at hq
  exact va_alen E.1 E.2.1 E.2.2.2.2.2.2.2.2.2 h2 q 0 he rfl rfl hd (kk p l e s m args below meth c D cI cZ b E ha H locs ls h2 h3 h4 h5)
theorem dp_iret (hM : dp_ok M) {len a b' f : Nat} {v x : Int32} (ht : M.2.2.2.2.2[pc]? = some (some (.ireturn, len, a, b', f, v))) (hr : M.2.2.2.2.1 = some .int) (hp : post (some (.inl x)) h) : dp_W d M al h0 mc ms post mc ms (pc, L, [.inl x], h) := by
  obtain ⟨hd, hlen, -⟩ := dp_X_of hM ht
  dsimp only at hd hlen
  obtain rfl := dp_lenE hlen rfl
  intro p l e s m args below meth c D cI cZ b E ha H locs ls h2 h3 h4 h5
  obtain ⟨hx, hb, -, hrt, hlk, -⟩ := E
  exact W.iret hx hb (hrt.trans hr) (fun t ht hW => ⟨⟨some (.inl x), h, rfl, hp, by rw [ht]; exact h2, h3⟩, h4.F ht⟩) h4.2.2 hd hlk
theorem dp_zret (hM : dp_ok M) {len a b' f : Nat} {v x : Int32} (ht : M.2.2.2.2.2[pc]? = some (some (.ireturn, len, a, b', f, v))) (hr : M.2.2.2.2.1 = some .boolean) (hz : x &&& 1 = x) (hp : post (some (.inl x)) h) : dp_W d M al h0 mc ms post mc ms (pc, L, [.inl x], h) := by
  obtain ⟨hd, hlen, -⟩ := dp_X_of hM ht
  dsimp only at hd hlen
  obtain rfl := dp_lenE hlen rfl
  intro p l e s m args below meth c D cI cZ b E ha H locs ls h2 h3 h4 h5
  obtain ⟨hx, hb, -, hrt, hlk, -⟩ := E
  exact W.zret hx hb (hrt.trans hr) (by show Value.int (x &&& 1) = _; rw [hz]) (fun t ht hW => ⟨⟨some (.inl x), h, rfl, hp, by rw [ht]; exact h2, h3⟩, h4.F ht⟩) h4.2.2 hd hlk
theorem dp_vret (hM : dp_ok M) {len a b' f : Nat} {v : Int32} (ht : M.2.2.2.2.2[pc]? = some (some (.return_, len, a, b', f, v))) (hr : M.2.2.2.2.1 = none) (hp : post none h) : dp_W d M al h0 mc ms post mc ms (pc, L, [], h) := by
  obtain ⟨hd, hlen, -⟩ := dp_X_of hM ht
  dsimp only at hd hlen
  obtain rfl := dp_lenE hlen rfl
  intro p l e s m args below meth c D cI cZ b E ha H locs ls h2 h3 h4 h5
  obtain ⟨hx, hb, -, hrt, hlk, -⟩ := E
  exact W.vret hx hb (hrt.trans hr) (fun t ht hW => ⟨⟨none, h, rfl, hp, by rw [ht]; exact h2, h3⟩, h4.F ht⟩) h4.2.2 hd hlk
end DR
end
section
/-! ===== 06: calls, and the making of cells ===== -/
/-- the links of a call: by a class's own or public name (V, S, I), by a nest mate's (VN, SN, IN) -/
def dp_Lv (own : String) (idx : Nat) (y : MethodName) : Prop := Cond.methodLink own idx y ∈ dp_g ∧ Cond.instanceMethod y ∈ dp_g ∧ Cond.selects y.cls y y ∈ dp_g ∧ Cond.initialized y.cls ∈ dp_g
def dp_Lvn (own : String) (idx : Nat) (y : MethodName) : Prop := (∃ host, Cond.methodLinkNest own idx y host ∈ dp_nw) ∧ Cond.instanceMethod y ∈ dp_g ∧ Cond.selects y.cls y y ∈ dp_g ∧ Cond.initialized y.cls ∈ dp_g
def dp_Ls (own : String) (idx : Nat) (y : MethodName) : Prop := Cond.methodLink own idx y ∈ dp_g ∧ Cond.static y ∈ dp_g ∧ Cond.initialized y.cls ∈ dp_g
def dp_Lsn (own : String) (idx : Nat) (y : MethodName) : Prop := (∃ host, Cond.methodLinkNest own idx y host ∈ dp_nw) ∧ Cond.static y ∈ dp_g ∧ Cond.initialized y.cls ∈ dp_g
def dp_Li (own : String) (idx : Nat) (y : MethodName) : Prop := Cond.methodLink own idx y ∈ dp_g ∧ Cond.instanceMethod y ∈ dp_g ∧ Cond.initialized y.cls ∈ dp_g ∧ y.name = "<init>"
def dp_Lin (own : String) (idx : Nat) (y : MethodName) : Prop := (∃ host, Cond.methodLinkNest own idx y host ∈ dp_nw) ∧ Cond.instanceMethod y ∈ dp_g ∧ Cond.initialized y.cls ∈ dp_g ∧ y.name = "<init>"
/-- how many parameters -/
def dp_np (y : MethodName) (n : Nat) : Prop := (parseMethodDescriptor y.desc).map (fun d => d.parameters.length) = some n
theorem dp_good {M : dp_M} (hM : dp_ok M) : GoodIn dp_g (dp_w M) := by
  intro w hw
  have hg : w ∈ dp_g := (List.mem_cons.mp hw).elim (fun e => e ▸ hM.2.2.1) id
  exact ⟨hg, good_of_word (List.mem_filter.mp hg).2⟩
theorem dp_catsum {b : Nat} : ∀ (r : List dp_V), ((r.map (dp_cv b)).map fun v => v.category).sum = r.length
  | [] => rfl
  | v :: r => by
    have := dp_catsum (b := b) r
    simp only [List.map_cons, List.sum_cons, List.length_cons, dp_cat, this]
    omega
section DQ
variable {M N : dp_M} {p : Program} {l : Launch} {e : Env} {R : Room} {s : State} {m : MethodId} {args : Array Value} {below : List Frame} {meth : Method} {c : Code} {D : va_G} {cI cZ : ClassId} {b : Nat} {A : Nat → Prop} {Q : State → Prop} {k n mc ms : Nat} {H : Heap} {locs : List Loc} {h : dp_H} {ls : Array Slot}
theorem dp_size {g : JFrame} (hP : va_P D vwCl (dp_ws cI cZ b h) H) (h0 : 0 < h.length) (hlen : s.heap.size + k = b + h.length) (kk : H.size = b + h.length → W p l e R s m args below meth c H locs k n Q g) : W p l e R s m args below meth c H locs k n Q g := by
  intro T hT X
  refine kk ?_ T hT X
  have h1 : T.heap.size ≤ s.heap.size + k := X.same.2.2.1
  rw [hT] at h1
  have h2 : h[h.length - 1]? = some h[h.length - 1] := List.getElem?_eq_getElem (by omega)
  have h3 : b + (h.length - 1) < H.size := (hP _ _ (dp_ws_at h2)).lt
  omega
/-- behind a call -/
theorem dp_after {post : Option dp_V → dp_H → Prop} {pc : Nat} {st0 : List Value} {r : List dp_V} {a : Array Value} {nL : Nat} {L : List (Option dp_V)}
    (hr : va_Run p l e R s m args below meth c H locs k n mc ms (F0 m pc ls st0) (r.map (dp_cv b)) (dp_Q D cI cZ b h H.size post a) (va_A (dp_ws cI cZ b h) H.size))
    (hA : ∀ q : Nat, s.heap.size ≤ q → A q) (h3 : va_D A (dp_ws cI cZ b h)) (h4 : va_S A s.heap H locs) (h5 : dp_L b ls nL L)
    (kk : ∀ (rv : Option dp_V) (h' : dp_H), post rv h' → dp_G p l e R s m args below meth c D cI cZ b A nL Q (k + mc) (n + ms) (pc + 3, L, rv.toList ++ r, h')) : W p l e R s m args below meth c H locs k n Q (F0 m pc ls st0) := by
  have hF : ∀ q, va_A (dp_ws cI cZ b h) H.size q → A q := by
    intro q hq
    rcases hq with ⟨j, x, hj⟩ | hq
    · exact h3.2 j (q, x) hj
    · exact hA q (Nat.le_trans h4.1 hq)
  intro T hT X
  obtain ⟨v, st₀, t, T', L1, g0, X', hL, e1, e2, ⟨⟨rv, h', hv, hp, hP', hD'⟩, hz, hk⟩, st⟩ := hr T hT X
  have hv' : v = rv.map (dp_cv b) := by cases hv; rfl
  subst hv'
  rw [g0] at hz hk
  have hD2 : va_D A (dp_ws cI cZ b h') := hD'.weaken (fun _ q _ z => hF q.1 z)
  have hS2 : va_S A s.heap T'.heap (locs ++ L1) := by
    refine ⟨Nat.le_trans h4.1 (by rw [e1]; exact hz), fun q z1 z2 => ?_, fun q hq => ?_⟩
    · rw [e1, hk q (Nat.lt_of_lt_of_le z1 h4.1) (fun z => z2 (hF q z))]
      exact h4.2.1 q z1 z2
    · rcases List.mem_append.mp hq with z | z
      · exact h4.2.2 q z
      · exact hF _ (hL q z)
  have hst : (rv.map (dp_cv b)).toList ++ r.map (dp_cv b) = (rv.toList ++ r).map (dp_cv b) := by cases rv <;> simp
  obtain ⟨t2, a1, b1⟩ := kk rv h' hp T'.heap (locs ++ L1) ls (by rw [e1]; exact hP') hD2 hS2 h5 T' rfl X'
  refine ⟨t2, st t2 ?_, b1⟩
  rw [hst]
  exact a1
end DQ
section DC
variable {d d' : Nat} {M N : dp_M} {al al' : Bool} {h0 : dp_H} {mc ms mc' ms' : Nat} {post post' : Option dp_V → dp_H → Prop} {k n : Nat} {pc : Nat} {L : List (Option dp_V)} {st : List dp_V} {h : dp_H} {as r : List dp_V} {q idx : Nat}
theorem dp_rm (hd : d' + 1 ≤ d) (hN : dp_ok N) : (dp_room d' mc' ms').frames + 1 ≤ (dp_room d mc ms).frames ∧ 8 + (N.2.2.2.1 + 11) + (dp_room d' mc' ms').locals ≤ (dp_room d mc ms).locals := by
  have := hN.2.2.2.2.2.2
  refine ⟨hd, ?_⟩
  show 8 + (N.2.2.2.1 + 11) + 40 * d' ≤ 40 * d
  omega
theorem dp_fit (hk : k + mc' ≤ mc) (hn : n + ms' ≤ ms) : k + mc' ≤ (dp_room d mc ms).cells ∧ n + ms' ≤ (dp_room d mc ms).slots := ⟨hk, hn⟩
theorem dp_hd (hN : dp_ok N) {j : Nat} (hp : dp_np N.2.1 j) : N.2.1.cls ≠ "java/lang/invoke/MethodHandle" ∧ N.2.1.cls ≠ "java/lang/invoke/VarHandle" ∧ (parseMethodDescriptor N.2.1.desc).map (fun d => d.parameters.length) = some j := by
  obtain ⟨-, hc, -, -, h1, h2, -⟩ := hN
  rw [hc]
  exact ⟨h1, h2, hp⟩
theorem dp_callV (hM : dp_ok M) (hN : dp_ok N) {len a b' f : Nat} {v : Int32} (ht : M.2.2.2.2.2[pc]? = some (some (.invokevirtual idx, len, a, b', f, v))) (hlk : dp_Lv M.1 idx N.2.1) (hnp : dp_np N.2.1 as.length) (hC : dp_C d' N al' (.inr (some q) :: as) h mc' ms' post')
    {ci : Nat} {fs : List dp_V} {C : vw_C} (hq : h[q]? = some (.inr (ci, fs))) (hc : vwCl[ci]? = some C) (hc2 : C.1 = N.1) (hst : st = as.reverse ++ .inr (some q) :: r) (hr : r.length ≤ 8) (hd : d' + 1 ≤ d) (hk : k + mc' ≤ mc) (hn : n + ms' ≤ ms) (hal : al' = true → al = true ∧ h.length = h0.length + k)
    (kk : ∀ (rv : Option dp_V) (h' : dp_H), post' rv h' → dp_W d M al h0 mc ms post (k + mc') (n + ms') (pc + 3, L, rv.toList ++ r, h')) : dp_W d M al h0 mc ms post k n (pc, L, st, h) := by
  obtain ⟨hdc, hlen, -⟩ := dp_X_of hM ht
  dsimp only at hdc hlen
  obtain rfl := dp_lenE hlen rfl
  intro p l e s m args below meth c D cI cZ b E ha H locs ls h2 h3 h4 h5
  have E0 := E
  obtain ⟨hx, hb, hml, -, -, -, hown, hts, hnw, hK⟩ := E0
  have hlt : q < h.length := (List.getElem?_eq_some_iff.mp hq).1
  have main : (al' = true → H.size = b + h.length) → W p l e (dp_room d mc ms) s m args below meth c H locs k n (MQ below (dp_Q D cI cZ b h0 s.heap.size post) args s mc ms (va_A (dp_ws cI cZ b h0) s.heap.size)) (F0 m pc ls (st.map (dp_cv b))) := by
    intro hsz
    refine dp_after (nL := M.2.2.2.1) (L := L) (va_runV (As := as.map (dp_cv b)) (b := b + q) (C := N.1) ⟨hx, hb, hml, hown, hts⟩ (hC l D cI cZ b H.size) ⟨callB_of as.length hts (dp_good hN) rfl rfl rfl (hts _ hlk.2.2.2) (hts _ hlk.1) (dp_hd hN hnp) (dp_rm hd hN), hts _ hlk.2.1, hN.2.1 ▸ hts _ hlk.2.2.1⟩
      ⟨dp_blind, hc2 ▸ va_recv hK h2 hc (dp_ws_at hq), fun U hU hW => ⟨rfl, by rw [hU], (fun z => hsz z), by rw [hU]; exact h2, va_K.moved hW.alike hK, fun w hw => dp_nw_warm hw hW (hnw w hw)⟩⟩
      rfl (by rw [List.length_map]) h5.1.1 (by rw [hst]; simp [dp_cv]) (lv_room (by rw [dp_catsum]; exact hr)) hdc (dp_fit hk hn)) (fun q z => Or.inr z) h3 h4 h5
      (fun rv h' hp => kk rv h' hp p l e s m args below meth c D cI cZ b E ha)
  cases al' with
  | false => exact main (fun z => by cases z)
  | true =>
    obtain ⟨z1, z2⟩ := hal rfl
    have z3 := ha z1
    exact dp_size (h := h) h2 (by omega) (by omega) (fun z => main (fun _ => z))
theorem dp_callVN (hM : dp_ok M) (hN : dp_ok N) {len a b' f : Nat} {v : Int32} (ht : M.2.2.2.2.2[pc]? = some (some (.invokevirtual idx, len, a, b', f, v))) (hlk : dp_Lvn M.1 idx N.2.1) (hnp : dp_np N.2.1 as.length) (hC : dp_C d' N false (.inr (some q) :: as) h mc' ms' post')
    {ci : Nat} {fs : List dp_V} {C : vw_C} (hq : h[q]? = some (.inr (ci, fs))) (hc : vwCl[ci]? = some C) (hc2 : C.1 = N.1) (hst : st = as.reverse ++ .inr (some q) :: r) (hr : r.length ≤ 8) (hd : d' + 1 ≤ d) (hk : k + mc' ≤ mc) (hn : n + ms' ≤ ms)
    (kk : ∀ (rv : Option dp_V) (h' : dp_H), post' rv h' → dp_W d M al h0 mc ms post (k + mc') (n + ms') (pc + 3, L, rv.toList ++ r, h')) : dp_W d M al h0 mc ms post k n (pc, L, st, h) := by
  obtain ⟨hdc, hlen, -⟩ := dp_X_of hM ht
  dsimp only at hdc hlen
  obtain rfl := dp_lenE hlen rfl
  intro p l e s m args below meth c D cI cZ b E ha H locs ls h2 h3 h4 h5
  have E0 := E
  obtain ⟨hx, hb, hml, -, -, -, hown, hts, hnw, hK⟩ := E0
  obtain ⟨⟨host, hl1⟩, hl2, hl3, hl4⟩ := hlk
  exact dp_after (nL := M.2.2.2.1) (L := L) (va_runVN (As := as.map (dp_cv b)) (b := b + q) (C := N.1) ⟨hx, hb, hml, hown, hts⟩ (hC l D cI cZ b H.size) ⟨va_cnB as.length hts (dp_good hN) rfl rfl rfl (hnw _ hl1) (hts _ hl4) (dp_hd hN hnp) (dp_rm hd hN), hts _ hl2, hN.2.1 ▸ hts _ hl3⟩
      ⟨dp_blind, hc2 ▸ va_recv hK h2 hc (dp_ws_at hq), fun U hU hW => ⟨rfl, by rw [hU], (fun z => by cases z), by rw [hU]; exact h2, va_K.moved hW.alike hK, fun w hw => dp_nw_warm hw hW (hnw w hw)⟩⟩
      rfl (by rw [List.length_map]) h5.1.1 (by rw [hst]; simp [dp_cv]) (lv_room (by rw [dp_catsum]; exact hr)) hdc (dp_fit hk hn)) (fun q z => Or.inr z) h3 h4 h5
      (fun rv h' hp => kk rv h' hp p l e s m args below meth c D cI cZ b E ha)
theorem dp_callS (hM : dp_ok M) (hN : dp_ok N) {len a b' f : Nat} {v : Int32} (ht : M.2.2.2.2.2[pc]? = some (some (.invokestatic idx, len, a, b', f, v))) (hlk : dp_Ls M.1 idx N.2.1) (hnp : dp_np N.2.1 as.length) (hC : dp_C d' N false as h mc' ms' post')
    (hst : st = as.reverse ++ r) (hr : r.length ≤ 8) (hd : d' + 1 ≤ d) (hk : k + mc' ≤ mc) (hn : n + ms' ≤ ms)
    (kk : ∀ (rv : Option dp_V) (h' : dp_H), post' rv h' → dp_W d M al h0 mc ms post (k + mc') (n + ms') (pc + 3, L, rv.toList ++ r, h')) : dp_W d M al h0 mc ms post k n (pc, L, st, h) := by
  obtain ⟨hdc, hlen, -⟩ := dp_X_of hM ht
  dsimp only at hdc hlen
  obtain rfl := dp_lenE hlen rfl
  intro p l e s m args below meth c D cI cZ b E ha H locs ls h2 h3 h4 h5
  have E0 := E
  obtain ⟨hx, hb, hml, -, -, -, hown, hts, hnw, hK⟩ := E0
  exact dp_after (nL := M.2.2.2.1) (L := L) (va_runS (As := as.map (dp_cv b)) ⟨hx, hb, hml, hown, hts⟩ (hC l D cI cZ b H.size) ⟨callB_of as.length hts (dp_good hN) rfl rfl rfl (hts _ hlk.2.2) (hts _ hlk.1) (dp_hd hN hnp) (dp_rm hd hN), hts _ hlk.2.1⟩
      ⟨dp_blind, fun U hU hW => ⟨rfl, by rw [hU], (fun z => by cases z), by rw [hU]; exact h2, va_K.moved hW.alike hK, fun w hw => dp_nw_warm hw hW (hnw w hw)⟩⟩
      rfl (by rw [List.length_map]) h5.1.1 (by rw [hst]; simp [dp_cv]) (lv_room (by rw [dp_catsum]; exact hr)) hdc (dp_fit hk hn)) (fun q z => Or.inr z) h3 h4 h5
      (fun rv h' hp => kk rv h' hp p l e s m args below meth c D cI cZ b E ha)
theorem dp_callSN (hM : dp_ok M) (hN : dp_ok N) {len a b' f : Nat} {v : Int32} (ht : M.2.2.2.2.2[pc]? = some (some (.invokestatic idx, len, a, b', f, v))) (hlk : dp_Lsn M.1 idx N.2.1) (hnp : dp_np N.2.1 as.length) (hC : dp_C d' N false as h mc' ms' post')
    (hst : st = as.reverse ++ r) (hr : r.length ≤ 8) (hd : d' + 1 ≤ d) (hk : k + mc' ≤ mc) (hn : n + ms' ≤ ms)
    (kk : ∀ (rv : Option dp_V) (h' : dp_H), post' rv h' → dp_W d M al h0 mc ms post (k + mc') (n + ms') (pc + 3, L, rv.toList ++ r, h')) : dp_W d M al h0 mc ms post k n (pc, L, st, h) := by
  obtain ⟨hdc, hlen, -⟩ := dp_X_of hM ht
  dsimp only at hdc hlen
  obtain rfl := dp_lenE hlen rfl
  intro p l e s m args below meth c D cI cZ b E ha H locs ls h2 h3 h4 h5
  have E0 := E
  obtain ⟨hx, hb, hml, -, -, -, hown, hts, hnw, hK⟩ := E0
  obtain ⟨⟨host, hl1⟩, hl2, hl4⟩ := hlk
  exact dp_after (nL := M.2.2.2.1) (L := L) (va_runSN (As := as.map (dp_cv b)) ⟨hx, hb, hml, hown, hts⟩ (hC l D cI cZ b H.size) ⟨va_cnB as.length hts (dp_good hN) rfl rfl rfl (hnw _ hl1) (hts _ hl4) (dp_hd hN hnp) (dp_rm hd hN), hts _ hl2, trivial⟩
      ⟨dp_blind, fun U hU hW => ⟨rfl, by rw [hU], (fun z => by cases z), by rw [hU]; exact h2, va_K.moved hW.alike hK, fun w hw => dp_nw_warm hw hW (hnw w hw)⟩⟩
      rfl (by rw [List.length_map]) h5.1.1 (by rw [hst]; simp [dp_cv]) (lv_room (by rw [dp_catsum]; exact hr)) hdc (dp_fit hk hn)) (fun q z => Or.inr z) h3 h4 h5
      (fun rv h' hp => kk rv h' hp p l e s m args below meth c D cI cZ b E ha)
theorem dp_callI (hM : dp_ok M) (hN : dp_ok N) (hNr : N.2.2.2.2.1 = none) {len a b' f : Nat} {v : Int32} (ht : M.2.2.2.2.2[pc]? = some (some (.invokespecial idx, len, a, b', f, v))) (hlk : dp_Li M.1 idx N.2.1) (hnp : dp_np N.2.1 as.length) (hC : dp_C d' N true (.inr (some q) :: as) h mc' ms' post')
    (hq : q < h.length) (hst : st = as.reverse ++ .inr (some q) :: r) (hr : r.length ≤ 8) (hd : d' + 1 ≤ d) (hk : k + mc' ≤ mc) (hn : n + ms' ≤ ms) (hal : al = true ∧ h.length = h0.length + k)
    (kk : ∀ (rv : Option dp_V) (h' : dp_H), post' rv h' → dp_W d M al h0 mc ms post (k + mc') (n + ms') (pc + 3, L, rv.toList ++ r, h')) : dp_W d M al h0 mc ms post k n (pc, L, st, h) := by
  obtain ⟨hdc, hlen, -⟩ := dp_X_of hM ht
  dsimp only at hdc hlen
  obtain rfl := dp_lenE hlen rfl
  intro p l e s m args below meth c D cI cZ b E ha H locs ls h2 h3 h4 h5
  have E0 := E
  obtain ⟨hx, hb, hml, -, -, -, hown, hts, hnw, hK⟩ := E0
  have z3 := ha hal.1
  have z2 := hal.2
  refine dp_size (h := h) h2 (by omega) (by omega) (fun hsz => ?_)
  exact dp_after (nL := M.2.2.2.1) (L := L) (va_runI (As := as.map (dp_cv b)) (b := b + q) ⟨hx, hb, hml, hown, hts⟩ (hC l D cI cZ b H.size) ⟨hNr ▸ callB_of as.length hts (dp_good hN) rfl rfl rfl (hts _ hlk.2.2.1) (hts _ hlk.1) (dp_hd hN hnp) (dp_rm hd hN), hlk.2.2.2, hts _ hlk.2.1⟩
      ⟨dp_blind, fun U hU hW => ⟨rfl, by rw [hU], (fun z => hsz), by rw [hU]; exact h2, va_K.moved hW.alike hK, fun w hw => dp_nw_warm hw hW (hnw w hw)⟩⟩
      rfl (by rw [List.length_map]) h5.1.1 (by rw [hst]; simp [dp_cv]) (lv_room (by rw [dp_catsum]; exact hr)) hdc (dp_fit hk hn)) (fun q z => Or.inr z) h3 h4 h5
      (fun rv h' hp => kk rv h' hp p l e s m args below meth c D cI cZ b E ha)
theorem dp_callIN (hM : dp_ok M) (hN : dp_ok N) (hNr : N.2.2.2.2.1 = none) {len a b' f : Nat} {v : Int32} (ht : M.2.2.2.2.2[pc]? = some (some (.invokespecial idx, len, a, b', f, v))) (hlk : dp_Lin M.1 idx N.2.1) (hnp : dp_np N.2.1 as.length) (hC : dp_C d' N true (.inr (some q) :: as) h mc' ms' post')
    (hq : q < h.length) (hst : st = as.reverse ++ .inr (some q) :: r) (hr : r.length ≤ 8) (hd : d' + 1 ≤ d) (hk : k + mc' ≤ mc) (hn : n + ms' ≤ ms) (hal : al = true ∧ h.length = h0.length + k)
    (kk : ∀ (rv : Option dp_V) (h' : dp_H), post' rv h' → dp_W d M al h0 mc ms post (k + mc') (n + ms') (pc + 3, L, rv.toList ++ r, h')) : dp_W d M al h0 mc ms post k n (pc, L, st, h) := by
  obtain ⟨hdc, hlen, -⟩ := dp_X_of hM ht
  dsimp only at hdc hlen
  obtain rfl := dp_lenE hlen rfl
  intro p l e s m args below meth c D cI cZ b E ha H locs ls h2 h3 h4 h5
  have E0 := E
  obtain ⟨hx, hb, hml, -, -, -, hown, hts, hnw, hK⟩ := E0
  obtain ⟨⟨host, hl1⟩, hl2, hl4, hl5⟩ := hlk
  have z3 := ha hal.1
  have z2 := hal.2
  refine dp_size (h := h) h2 (by omega) (by omega) (fun hsz => ?_)
  exact dp_after (nL := M.2.2.2.1) (L := L) (va_runIN (As := as.map (dp_cv b)) (b := b + q) ⟨hx, hb, hml, hown, hts⟩ (hC l D cI cZ b H.size) ⟨hNr ▸ va_cnB as.length hts (dp_good hN) rfl rfl rfl (hnw _ hl1) (hts _ hl4) (dp_hd hN hnp) (dp_rm hd hN), hl5, hts _ hl2⟩
      ⟨dp_blind, fun U hU hW => ⟨rfl, by rw [hU], (fun z => hsz), by rw [hU]; exact h2, va_K.moved hW.alike hK, fun w hw => dp_nw_warm hw hW (hnw w hw)⟩⟩
      rfl (by rw [List.length_map]) h5.1.1 (by rw [hst]; simp [dp_cv]) (lv_room (by rw [dp_catsum]; exact hr)) hdc (dp_fit hk hn)) (fun q z => Or.inr z) h3 h4 h5
      (fun rv h' hp => kk rv h' hp p l e s m args below meth c D cI cZ b E ha)
theorem dp_oinit (hM : dp_ok M) {len a b' f : Nat} {v : Int32} (ht : M.2.2.2.2.2[pc]? = some (some (.invokespecial idx, len, a, b', f, v))) (h1 : Cond.methodLink M.1 idx Lib.objectInit ∈ dp_g) (h2 : Cond.instanceMethod Lib.objectInit ∈ dp_g) (h3 : Cond.code Lib.objectInit ⟨#[0xb1]⟩ 1 none ∈ dp_g) (hd : 1 ≤ d) (hr : r.length ≤ 8)
    (kk : dp_W d M al h0 mc ms post k n (pc + 3, L, r, h)) : dp_W d M al h0 mc ms post k n (pc, L, .inr (some q) :: r, h) := by
  obtain ⟨hdc, hlen, -⟩ := dp_X_of hM ht
  dsimp only at hdc hlen
  obtain rfl := dp_lenE hlen rfl
  intro p l e s m args below meth c D cI cZ b E ha H locs ls g2 g3 g4 g5
  have E0 := E
  obtain ⟨hx, hb, hml, -, -, -, hown, hts, hnw, hK⟩ := E0
  exact W.objInit (rest := r.map (dp_cv b)) (a := b + q) hx hb hown (hts _ h1) (hts _ h2) (hts _ h3) rfl (by rw [hml]; exact g5.1.1) rfl hdc hd (by
    show 2 * 0 + _ + 12 ≤ 40 * d
    rw [dp_catsum]
    omega) (kk p l e s m args below meth c D cI cZ b E ha H locs ls g2 g3 g4 g5)
/-- the address of what was just made -/
theorem dp_born {p : Program} {l : Launch} {e : Env} {R : Room} {s : State} {m : MethodId} {args : Array Value} {below : List Frame} {meth : Method} {c : Code} {D : va_G} {cI cZ : ClassId} {b : Nat} {Q : State → Prop} {H1 : Heap} {locs : List Loc} {g : JFrame} {qn : Nat} {x : va_E} {k1 n1 : Nat}
    (hP : va_P D vwCl (dp_ws cI cZ b h ++ [(qn, x)]) H1) (hD : va_D (va_A (dp_ws cI cZ b h0) s.heap.size) (dp_ws cI cZ b h ++ [(qn, x)])) (hz : s.heap.size = b + h0.length) (hlen : h.length = h0.length + k) (hk1 : k1 = k + 1)
    (kk : qn = b + h.length → W p l e R s m args below meth c H1 locs k1 n1 Q g) : W p l e R s m args below meth c H1 locs k1 n1 Q g := by
  intro T hT X
  refine kk ?_ T hT X
  have u1 : T.heap.size ≤ s.heap.size + k1 := X.same.2.2.1
  rw [hT] at u1
  have hwl : (dp_ws cI cZ b h).length = h.length := by simp [dp_ws]
  have ul : (dp_ws cI cZ b h ++ [(qn, x)])[h.length]? = some (qn, x) := by
    rw [List.getElem?_append_right (by omega), hwl, Nat.sub_self]
    rfl
  have u2 : qn < H1.size := (hP _ _ ul).lt
  have u3 : ∀ i, i < h.length → qn ≠ b + i := by
    intro i hi hq
    have v1 : (dp_ws cI cZ b h ++ [(qn, x)])[i]? = some (b + i, dp_ce cI cZ b h[i]) := by
      rw [List.getElem?_append_left (by omega)]
      exact dp_ws_at (List.getElem?_eq_getElem hi)
    have := hD.1 _ _ _ _ ul v1 hq
    omega
  have u4 : s.heap.size ≤ qn := by
    rcases hD.2 _ _ ul with ⟨j, y, hj⟩ | z
    · obtain ⟨w, hw, e1⟩ := dp_ws_inv hj
      have e2 : qn = b + j := congrArg Prod.fst e1
      have := (List.getElem?_eq_some_iff.mp hw).1
      exact absurd e2 (u3 j (by omega))
    · exact z
  rcases Nat.lt_or_ge qn (b + h.length) with z | z
  · exact absurd (show qn = b + (qn - b) by omega) (u3 (qn - b) (by omega))
  · omega
theorem dp_new (hM : dp_ok M) {len a b' f : Nat} {v : Int32} (ht : M.2.2.2.2.2[pc]? = some (some (.new idx, len, a, b', f, v))) {ci : Nat} {C : vw_C} (hc : vwCl[ci]? = some C) (hCF : dp_CF C) (h1 : Cond.classLink M.1 idx C.1 ∈ dp_g) (h2 : Cond.instantiable C.1 C.2.2 ∈ dp_g) (h3 : Cond.initialized C.1 ∈ dp_g)
    (fs : List dp_V) (ty : Nat → FieldType) (hty : ∀ k, k < C.2.2 → parseFieldDescriptor (C.2.1 k).2.2.1 = some (ty k)) (hfs : ∀ b j, j < C.2.2 → defaultValue (ty j) = vp_V (fs.map (dp_cv b)) j) (hk : k + 1 ≤ mc) (hn : n + C.2.2 ≤ ms) (hal : al = true ∧ h.length = h0.length + k)
    (kk : dp_W d M al h0 mc ms post (k + 1) (n + C.2.2) (pc + 3, L, .inr (some h.length) :: st, h ++ [.inr (ci, fs)])) : dp_W d M al h0 mc ms post k n (pc, L, st, h) := by
  obtain ⟨hdc, hlen, -⟩ := dp_X_of hM ht
  dsimp only at hdc hlen
  obtain rfl := dp_lenE hlen rfl
  intro p l e s m args below meth c D cI cZ b E ha H locs ls g2 g3 g4 g5
  have E0 := E
  obtain ⟨hx, hb, hml, -, -, -, hown, hts, hnw, hK⟩ := E0
  obtain ⟨C0, T0, N0⟩ := C
  refine va_new (fs := fs.map (dp_cv b)) (ci := ci) hx hb hts hCF.1 ty hty hown (hts _ h1) (hts _ h2) (hts _ h3) hK g2 g3 g4 (fun q z => Or.inr z) hc (hfs b) hk hn hdc (fun qn H1 u1 u2 u3 => ?_)
  refine dp_born (h := h) (k := k) u1 u2 (ha hal.1) hal.2 rfl (fun hq => ?_)
  subst hq
  have hw : dp_ws cI cZ b h ++ [(b + h.length, .inr (ci, fs.map (dp_cv b)))] = dp_ws cI cZ b (h ++ [.inr (ci, fs)]) := dp_ws_push (.inr (ci, fs))
  have u1' : va_P D vwCl (dp_ws cI cZ b h ++ [(b + h.length, .inr (ci, fs.map (dp_cv b)))]) H1 := u1
  have u2' : va_D _ (dp_ws cI cZ b h ++ [(b + h.length, .inr (ci, fs.map (dp_cv b)))]) := u2
  rw [hw] at u1' u2'
  exact kk p l e s m args below meth c D cI cZ b E ha H1 locs ls u1' u2' u3 g5
theorem dp_newa (hM : dp_ok M) {z : Bool} {at1 : ArrayType} {len a b' f : Nat} {v x : Int32} {N1 : Nat} (ht : M.2.2.2.2.2[pc]? = some (some (.newarray at1, len, a, b', f, v))) (hat : newarray.typeOf at1 = if z = true then .boolean else .int) (h1 : Cond.arrayClass (newarray.typeOf at1) ∈ dp_g) (hx0 : ¬ x < 0) (hx1 : x.toNatClampNeg = N1) (hb1 : N1 ≤ 1000) (hk : k + 1 ≤ mc) (hn : n + N1 ≤ ms) (hal : al = true ∧ h.length = h0.length + k)
    (kk : dp_W d M al h0 mc ms post (k + 1) (n + N1) (pc + 2, L, .inr (some h.length) :: st, h ++ [.inl (z, N1, fun _ => 0)])) : dp_W d M al h0 mc ms post k n (pc, L, .inl x :: st, h) := by
  obtain ⟨hdc, hlen, -⟩ := dp_X_of hM ht
  dsimp only at hdc hlen
  obtain rfl := dp_lenE hlen rfl
  intro p l e s m args below meth c D cI cZ b E ha H locs ls g2 g3 g4 g5
  have E0 := E
  obtain ⟨hx, hb, hml, -, -, -, hown, hts, hnw, hK⟩ := E0
  cases z with
  | false =>
    rw [if_neg (by decide)] at hat
    refine va_newa (atype := at1) (ty := .int) (a0 := (N1, .inl (fun _ => 0))) hx hb (hts _ h1) hat hK g2 g3 g4 (fun q z => Or.inr z) (fun cA => rfl) hx0 hx1 (by show N1 * 4 ≤ _; omega) hk hn hdc (fun qn cA H1 uK u1 u2 u3 => ?_)
    refine dp_born (h := h) (k := k) u1 u2 (ha hal.1) hal.2 rfl (fun hq => ?_)
    subst hq
    have c1 : s.vm.findClass ("[" ++ FieldType.int.toString) = some cA := (uK.2 2 _ rfl).2
    have c2 : s.vm.findClass ("[" ++ FieldType.int.toString) = some cI := (uK.2 0 _ rfl).2
    have hcA : cA = cI := Option.some.inj (c1.symm.trans c2)
    subst hcA
    have hw : dp_ws cA cZ b h ++ [(b + h.length, .inl (cA, N1, .inl (fun _ => 0)))] = dp_ws cA cZ b (h ++ [.inl (false, N1, fun _ => 0)]) := dp_ws_push (.inl (false, N1, fun _ => 0))
    have u1' : va_P D vwCl (dp_ws cA cZ b h ++ [(b + h.length, .inl (cA, N1, .inl (fun _ => 0)))]) H1 := u1
    have u2' : va_D _ (dp_ws cA cZ b h ++ [(b + h.length, .inl (cA, N1, .inl (fun _ => 0)))]) := u2
    rw [hw] at u1' u2'
    exact kk p l e s m args below meth c D cA cZ b E ha H1 locs ls u1' u2' u3 g5
  | true =>
    rw [if_pos rfl] at hat
    refine va_newa (atype := at1) (ty := .boolean) (a0 := (N1, .inl (fun _ => 0))) hx hb (hts _ h1) hat hK g2 g3 g4 (fun q z => Or.inr z) (fun cA => rfl) hx0 hx1 (by show N1 * 1 ≤ _; omega) hk hn hdc (fun qn cA H1 uK u1 u2 u3 => ?_)
    refine dp_born (h := h) (k := k) u1 u2 (ha hal.1) hal.2 rfl (fun hq => ?_)
    subst hq
    have c1 : s.vm.findClass ("[" ++ FieldType.boolean.toString) = some cA := (uK.2 2 _ rfl).2
    have c2 : s.vm.findClass ("[" ++ FieldType.boolean.toString) = some cZ := (uK.2 1 _ rfl).2
    have hcA : cA = cZ := Option.some.inj (c1.symm.trans c2)
    subst hcA
    have hw : dp_ws cI cA b h ++ [(b + h.length, .inl (cA, N1, .inl (fun _ => 0)))] = dp_ws cI cA b (h ++ [.inl (true, N1, fun _ => 0)]) := dp_ws_push (.inl (true, N1, fun _ => 0))
    have u1' : va_P D vwCl (dp_ws cI cA b h ++ [(b + h.length, .inl (cA, N1, .inl (fun _ => 0)))]) H1 := u1
    have u2' : va_D _ (dp_ws cI cA b h ++ [(b + h.length, .inl (cA, N1, .inl (fun _ => 0)))]) := u2
    rw [hw] at u1' u2'
    exact kk p l e s m args below meth c D cI cA b E ha H1 locs ls u1' u2' u3 g5
theorem dp_acopy (hM : dp_ok M) {len a b' f : Nat} {v : Int32} (ht : M.2.2.2.2.2[pc]? = some (some (.invokestatic idx, len, a, b', f, v))) (h1 : Cond.methodLink M.1 idx arraycopyName ∈ dp_g) (h2 : Cond.native arraycopyName ∈ dp_g) (h3 : Cond.static arraycopyName ∈ dp_g) (h4 : Cond.initialized "java/lang/System" ∈ dp_g)
    {q0 q1 n0 n1 : Nat} {g0 g1 : Nat → Int32} (hq0 : h[q0]? = some (.inl (false, n0, g0))) (hq1 : h[q1]? = some (.inl (false, n1, g1))) {sp dp nn : Int32} (hc : (¬ sp < 0 ∧ ¬ dp < 0 ∧ ¬ nn < 0) ∧ sp.toNatClampNeg + nn.toNatClampNeg ≤ n0 ∧ dp.toNatClampNeg + nn.toNatClampNeg ≤ n1) (hd : 1 ≤ d) (hr : r.length ≤ 8)
    (kk : dp_W d M al h0 mc ms post k n (pc + 3, L, r, h.set q1 (.inl (false, n1, va_cpy g0 g1 sp.toNatClampNeg dp.toNatClampNeg nn.toNatClampNeg)))) : dp_W d M al h0 mc ms post k n (pc, L, .inl nn :: .inl dp :: .inr (some q1) :: .inl sp :: .inr (some q0) :: r, h) := by
  obtain ⟨hdc, hlen, -⟩ := dp_X_of hM ht
  dsimp only at hdc hlen
  obtain rfl := dp_lenE hlen rfl
  intro p l e s m args below meth c D cI cZ b E ha H locs ls u2 u3 u4 u5
  have E0 := E
  obtain ⟨hx, hb, hml, -, -, -, hown, hts, hnw, hK⟩ := E0
  have e0 : (dp_ws cI cZ b h)[q0]? = some (b + q0, .inl (cI, n0, .inl g0)) := dp_ws_at hq0
  have e1 : (dp_ws cI cZ b h)[q1]? = some (b + q1, .inl (cI, n1, .inl g1)) := dp_ws_at hq1
  have hw : (dp_ws cI cZ b h).set q1 (b + q1, .inl (cI, n1, .inl (va_cpy g0 g1 sp.toNatClampNeg dp.toNatClampNeg nn.toNatClampNeg))) = dp_ws cI cZ b (h.set q1 (.inl (false, n1, va_cpy g0 g1 sp.toNatClampNeg dp.toNatClampNeg nn.toNatClampNeg))) := dp_ws_set q1 (.inl (false, n1, _))
  refine va_copyi (ty := .int) (rest := r.map (dp_cv b)) hx hb (by rw [hml]; exact u5.1.1.symm) hown (hts _ h1) (hts _ h2) (hts _ h3) (hts _ h4) hK u2 u3 u4 q0 q1 0 0 e0 e1 rfl rfl rfl hc.1.1 hc.1.2.1 hc.1.2.2 hc.2.1 hc.2.2 (fun _ _ => rfl) hd (by
    rw [dp_catsum]
    show r.length + (7 + 11) ≤ 40 * d
    omega) hdc (fun H1 locs1 w1 w2 w3 => ?_)
  rw [hw] at w1 w2
  exact kk p l e s m args below meth c D cI cZ b E ha H1 locs1 ls w1 w2 w3 u5
end DC
end
