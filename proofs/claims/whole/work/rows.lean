section
-- ===== PART A: goes FIRST, ahead of the names: the tables' words, and 'selects' of the private methods out of them =====
/-- a private method of a class that the tables say can be made, by its rows of tables_1 -/
def lw_okq (q : MethodName × Nat) : Prop := (q.1.cls ≠ "java/lang/invoke/MethodHandle" ∧ q.1.cls ≠ "java/lang/invoke/VarHandle") ∧ Cond.instantiable q.1.cls q.2 ∈ tables_1 ∧ Cond.privateMethod q.1 ∈ tables_1 ∧ Cond.instanceMethod q.1 ∈ tables_1
theorem lw_p0 : lw_okq (⟨"NearLiars$Net", "around", "(III)I"⟩, 8) := ⟨⟨by decide +kernel, by decide +kernel⟩, List.mem_of_getElem? (i := 21) (by decide +kernel), List.mem_of_getElem? (i := 34) (by decide +kernel), List.mem_of_getElem? (i := 35) (by decide +kernel)⟩
theorem lw_p1 : lw_okq (⟨"NearLiars$Run", "dealSlots", "(LNearLiars$Net;)V"⟩, 7) := ⟨⟨by decide +kernel, by decide +kernel⟩, List.mem_of_getElem? (i := 82) (by decide +kernel), List.mem_of_getElem? (i := 197) (by decide +kernel), List.mem_of_getElem? (i := 198) (by decide +kernel)⟩
theorem lw_p2 : lw_okq (⟨"NearLiars$Run", "slotsNear", "(LNearLiars$Net;I)I"⟩, 7) := ⟨⟨by decide +kernel, by decide +kernel⟩, List.mem_of_getElem? (i := 82) (by decide +kernel), List.mem_of_getElem? (i := 201) (by decide +kernel), List.mem_of_getElem? (i := 202) (by decide +kernel)⟩
theorem lw_p3 : lw_okq (⟨"NearLiars", "layAnew", "(III)I"⟩, 5) := ⟨⟨by decide +kernel, by decide +kernel⟩, List.mem_of_getElem? (i := 13) (by decide +kernel), List.mem_of_getElem? (i := 240) (by decide +kernel), List.mem_of_getElem? (i := 241) (by decide +kernel)⟩
theorem lw_p4 : lw_okq (⟨"NearLiars$Run", "speak", "(LNearLiars$Net;I)I"⟩, 7) := ⟨⟨by decide +kernel, by decide +kernel⟩, List.mem_of_getElem? (i := 82) (by decide +kernel), List.mem_of_getElem? (i := 305) (by decide +kernel), List.mem_of_getElem? (i := 306) (by decide +kernel)⟩
theorem lw_p5 : lw_okq (⟨"NearLiars$Run", "hear", "(LNearLiars$Net;III)I"⟩, 7) := ⟨⟨by decide +kernel, by decide +kernel⟩, List.mem_of_getElem? (i := 82) (by decide +kernel), List.mem_of_getElem? (i := 310) (by decide +kernel), List.mem_of_getElem? (i := 311) (by decide +kernel)⟩
theorem lw_p6 : lw_okq (⟨"NearLiars$Net", "withJoining", "(III)I"⟩, 8) := ⟨⟨by decide +kernel, by decide +kernel⟩, List.mem_of_getElem? (i := 21) (by decide +kernel), List.mem_of_getElem? (i := 386) (by decide +kernel), List.mem_of_getElem? (i := 387) (by decide +kernel)⟩
theorem lw_p7 : lw_okq (⟨"NearLiars$Survey", "weigh", "(II)V"⟩, 4) := ⟨⟨by decide +kernel, by decide +kernel⟩, List.mem_of_getElem? (i := 116) (by decide +kernel), List.mem_of_getElem? (i := 412) (by decide +kernel), List.mem_of_getElem? (i := 413) (by decide +kernel)⟩
theorem lw_p8 : lw_okq (⟨"NearLiars$Claims", "isInHand", "(I)Z"⟩, 9) := ⟨⟨by decide +kernel, by decide +kernel⟩, List.mem_of_getElem? (i := 154) (by decide +kernel), List.mem_of_getElem? (i := 465) (by decide +kernel), List.mem_of_getElem? (i := 466) (by decide +kernel)⟩
theorem lw_p9 : lw_okq (⟨"NearLiars$Claims", "forgetOldest", "()V"⟩, 9) := ⟨⟨by decide +kernel, by decide +kernel⟩, List.mem_of_getElem? (i := 154) (by decide +kernel), List.mem_of_getElem? (i := 473) (by decide +kernel), List.mem_of_getElem? (i := 474) (by decide +kernel)⟩
theorem lw_p10 : lw_okq (⟨"NearLiars$Claims", "gatherInner", "(II)I"⟩, 9) := ⟨⟨by decide +kernel, by decide +kernel⟩, List.mem_of_getElem? (i := 154) (by decide +kernel), List.mem_of_getElem? (i := 499) (by decide +kernel), List.mem_of_getElem? (i := 500) (by decide +kernel)⟩
theorem lw_p11 : lw_okq (⟨"NearLiars$Claims", "areApart", "(II)Z"⟩, 9) := ⟨⟨by decide +kernel, by decide +kernel⟩, List.mem_of_getElem? (i := 154) (by decide +kernel), List.mem_of_getElem? (i := 505) (by decide +kernel), List.mem_of_getElem? (i := 506) (by decide +kernel)⟩
theorem lw_p12 : lw_okq (⟨"NearLiarsModel", "begins", "()V"⟩, 26) := ⟨⟨by decide +kernel, by decide +kernel⟩, List.mem_of_getElem? (i := 527) (by decide +kernel), List.mem_of_getElem? (i := 533) (by decide +kernel), List.mem_of_getElem? (i := 534) (by decide +kernel)⟩
theorem lw_p13 : lw_okq (⟨"NearLiarsModel", "dealsSlots", "()V"⟩, 26) := ⟨⟨by decide +kernel, by decide +kernel⟩, List.mem_of_getElem? (i := 527) (by decide +kernel), List.mem_of_getElem? (i := 537) (by decide +kernel), List.mem_of_getElem? (i := 538) (by decide +kernel)⟩
theorem lw_p14 : lw_okq (⟨"NearLiarsModel", "isFreeSlot", "(II)Z"⟩, 26) := ⟨⟨by decide +kernel, by decide +kernel⟩, List.mem_of_getElem? (i := 527) (by decide +kernel), List.mem_of_getElem? (i := 541) (by decide +kernel), List.mem_of_getElem? (i := 542) (by decide +kernel)⟩
theorem lw_p15 : lw_okq (⟨"NearLiarsModel", "isApart", "(II)Z"⟩, 26) := ⟨⟨by decide +kernel, by decide +kernel⟩, List.mem_of_getElem? (i := 527) (by decide +kernel), List.mem_of_getElem? (i := 545) (by decide +kernel), List.mem_of_getElem? (i := 546) (by decide +kernel)⟩
def lw_privs_1 : List (MethodName × Nat) := [(⟨"NearLiars$Net", "around", "(III)I"⟩, 8), (⟨"NearLiars$Run", "dealSlots", "(LNearLiars$Net;)V"⟩, 7), (⟨"NearLiars$Run", "slotsNear", "(LNearLiars$Net;I)I"⟩, 7), (⟨"NearLiars", "layAnew", "(III)I"⟩, 5), (⟨"NearLiars$Run", "speak", "(LNearLiars$Net;I)I"⟩, 7), (⟨"NearLiars$Run", "hear", "(LNearLiars$Net;III)I"⟩, 7), (⟨"NearLiars$Net", "withJoining", "(III)I"⟩, 8), (⟨"NearLiars$Survey", "weigh", "(II)V"⟩, 4), (⟨"NearLiars$Claims", "isInHand", "(I)Z"⟩, 9), (⟨"NearLiars$Claims", "forgetOldest", "()V"⟩, 9), (⟨"NearLiars$Claims", "gatherInner", "(II)I"⟩, 9), (⟨"NearLiars$Claims", "areApart", "(II)Z"⟩, 9), (⟨"NearLiarsModel", "begins", "()V"⟩, 26), (⟨"NearLiarsModel", "dealsSlots", "()V"⟩, 26), (⟨"NearLiarsModel", "isFreeSlot", "(II)Z"⟩, 26), (⟨"NearLiarsModel", "isApart", "(II)Z"⟩, 26)]
theorem lw_r1 : ∀ q ∈ lw_privs_1, lw_okq q := List.forall_mem_cons.mpr ⟨lw_p0, List.forall_mem_cons.mpr ⟨lw_p1, List.forall_mem_cons.mpr ⟨lw_p2, List.forall_mem_cons.mpr ⟨lw_p3, List.forall_mem_cons.mpr ⟨lw_p4, List.forall_mem_cons.mpr ⟨lw_p5, List.forall_mem_cons.mpr ⟨lw_p6, List.forall_mem_cons.mpr ⟨lw_p7, List.forall_mem_cons.mpr ⟨lw_p8, List.forall_mem_cons.mpr ⟨lw_p9, List.forall_mem_cons.mpr ⟨lw_p10, List.forall_mem_cons.mpr ⟨lw_p11, List.forall_mem_cons.mpr ⟨lw_p12, List.forall_mem_cons.mpr ⟨lw_p13, List.forall_mem_cons.mpr ⟨lw_p14, List.forall_mem_cons.mpr ⟨lw_p15, fun _ h => absurd h List.not_mem_nil⟩⟩⟩⟩⟩⟩⟩⟩⟩⟩⟩⟩⟩⟩⟩⟩
theorem lw_p16 : lw_okq (⟨"NearLiarsModel", "lays", "(III)V"⟩, 26) := ⟨⟨by decide +kernel, by decide +kernel⟩, List.mem_of_getElem? (i := 527) (by decide +kernel), List.mem_of_getElem? (i := 639) (by decide +kernel), List.mem_of_getElem? (i := 640) (by decide +kernel)⟩
theorem lw_p17 : lw_okq (⟨"NearLiarsModel", "forgets", "()V"⟩, 26) := ⟨⟨by decide +kernel, by decide +kernel⟩, List.mem_of_getElem? (i := 527) (by decide +kernel), List.mem_of_getElem? (i := 643) (by decide +kernel), List.mem_of_getElem? (i := 644) (by decide +kernel)⟩
theorem lw_p18 : lw_okq (⟨"NearLiarsModel", "isNode", "(I)Z"⟩, 26) := ⟨⟨by decide +kernel, by decide +kernel⟩, List.mem_of_getElem? (i := 527) (by decide +kernel), List.mem_of_getElem? (i := 655) (by decide +kernel), List.mem_of_getElem? (i := 656) (by decide +kernel)⟩
theorem lw_p19 : lw_okq (⟨"NearLiarsModel", "tick", "()I"⟩, 26) := ⟨⟨by decide +kernel, by decide +kernel⟩, List.mem_of_getElem? (i := 527) (by decide +kernel), List.mem_of_getElem? (i := 683) (by decide +kernel), List.mem_of_getElem? (i := 684) (by decide +kernel)⟩
theorem lw_p20 : lw_okq (⟨"NearLiarsModel", "says", "(I)I"⟩, 26) := ⟨⟨by decide +kernel, by decide +kernel⟩, List.mem_of_getElem? (i := 527) (by decide +kernel), List.mem_of_getElem? (i := 687) (by decide +kernel), List.mem_of_getElem? (i := 688) (by decide +kernel)⟩
theorem lw_p21 : lw_okq (⟨"NearLiarsModel", "isHonest", "(I)Z"⟩, 26) := ⟨⟨by decide +kernel, by decide +kernel⟩, List.mem_of_getElem? (i := 527) (by decide +kernel), List.mem_of_getElem? (i := 691) (by decide +kernel), List.mem_of_getElem? (i := 692) (by decide +kernel)⟩
theorem lw_p22 : lw_okq (⟨"NearLiarsModel", "speaks", "(II)I"⟩, 26) := ⟨⟨by decide +kernel, by decide +kernel⟩, List.mem_of_getElem? (i := 527) (by decide +kernel), List.mem_of_getElem? (i := 695) (by decide +kernel), List.mem_of_getElem? (i := 696) (by decide +kernel)⟩
theorem lw_p23 : lw_okq (⟨"NearLiarsModel", "heardBy", "(I)I"⟩, 26) := ⟨⟨by decide +kernel, by decide +kernel⟩, List.mem_of_getElem? (i := 527) (by decide +kernel), List.mem_of_getElem? (i := 706) (by decide +kernel), List.mem_of_getElem? (i := 707) (by decide +kernel)⟩
theorem lw_p24 : lw_okq (⟨"NearLiarsModel", "lastIn", "(II)I"⟩, 26) := ⟨⟨by decide +kernel, by decide +kernel⟩, List.mem_of_getElem? (i := 527) (by decide +kernel), List.mem_of_getElem? (i := 714) (by decide +kernel), List.mem_of_getElem? (i := 715) (by decide +kernel)⟩
theorem lw_p25 : lw_okq (⟨"NearLiarsModel", "manyHonest", "(III)I"⟩, 26) := ⟨⟨by decide +kernel, by decide +kernel⟩, List.mem_of_getElem? (i := 527) (by decide +kernel), List.mem_of_getElem? (i := 718) (by decide +kernel), List.mem_of_getElem? (i := 719) (by decide +kernel)⟩
theorem lw_p26 : lw_okq (⟨"NearLiarsModel", "isSet", "(I)Z"⟩, 26) := ⟨⟨by decide +kernel, by decide +kernel⟩, List.mem_of_getElem? (i := 527) (by decide +kernel), List.mem_of_getElem? (i := 726) (by decide +kernel), List.mem_of_getElem? (i := 727) (by decide +kernel)⟩
theorem lw_p27 : lw_okq (⟨"NearLiarsModel", "crowdedBy", "(II)I"⟩, 26) := ⟨⟨by decide +kernel, by decide +kernel⟩, List.mem_of_getElem? (i := 527) (by decide +kernel), List.mem_of_getElem? (i := 730) (by decide +kernel), List.mem_of_getElem? (i := 731) (by decide +kernel)⟩
theorem lw_p28 : lw_okq (⟨"NearLiarsModel", "cutBy", "(II)I"⟩, 26) := ⟨⟨by decide +kernel, by decide +kernel⟩, List.mem_of_getElem? (i := 527) (by decide +kernel), List.mem_of_getElem? (i := 734) (by decide +kernel), List.mem_of_getElem? (i := 735) (by decide +kernel)⟩
theorem lw_p29 : lw_okq (⟨"NearLiarsModel", "reachedBy", "(II)I"⟩, 26) := ⟨⟨by decide +kernel, by decide +kernel⟩, List.mem_of_getElem? (i := 527) (by decide +kernel), List.mem_of_getElem? (i := 738) (by decide +kernel), List.mem_of_getElem? (i := 739) (by decide +kernel)⟩
theorem lw_p30 : lw_okq (⟨"NearLiarsModel", "triesSets", "(I)V"⟩, 26) := ⟨⟨by decide +kernel, by decide +kernel⟩, List.mem_of_getElem? (i := 527) (by decide +kernel), List.mem_of_getElem? (i := 754) (by decide +kernel), List.mem_of_getElem? (i := 755) (by decide +kernel)⟩
theorem lw_p31 : lw_okq (⟨"NearLiarsModel", "isOnWay", "(I)Z"⟩, 26) := ⟨⟨by decide +kernel, by decide +kernel⟩, List.mem_of_getElem? (i := 527) (by decide +kernel), List.mem_of_getElem? (i := 774) (by decide +kernel), List.mem_of_getElem? (i := 775) (by decide +kernel)⟩
def lw_privs_2 : List (MethodName × Nat) := [(⟨"NearLiarsModel", "lays", "(III)V"⟩, 26), (⟨"NearLiarsModel", "forgets", "()V"⟩, 26), (⟨"NearLiarsModel", "isNode", "(I)Z"⟩, 26), (⟨"NearLiarsModel", "tick", "()I"⟩, 26), (⟨"NearLiarsModel", "says", "(I)I"⟩, 26), (⟨"NearLiarsModel", "isHonest", "(I)Z"⟩, 26), (⟨"NearLiarsModel", "speaks", "(II)I"⟩, 26), (⟨"NearLiarsModel", "heardBy", "(I)I"⟩, 26), (⟨"NearLiarsModel", "lastIn", "(II)I"⟩, 26), (⟨"NearLiarsModel", "manyHonest", "(III)I"⟩, 26), (⟨"NearLiarsModel", "isSet", "(I)Z"⟩, 26), (⟨"NearLiarsModel", "crowdedBy", "(II)I"⟩, 26), (⟨"NearLiarsModel", "cutBy", "(II)I"⟩, 26), (⟨"NearLiarsModel", "reachedBy", "(II)I"⟩, 26), (⟨"NearLiarsModel", "triesSets", "(I)V"⟩, 26), (⟨"NearLiarsModel", "isOnWay", "(I)Z"⟩, 26)]
theorem lw_r2 : ∀ q ∈ lw_privs_2, lw_okq q := List.forall_mem_cons.mpr ⟨lw_p16, List.forall_mem_cons.mpr ⟨lw_p17, List.forall_mem_cons.mpr ⟨lw_p18, List.forall_mem_cons.mpr ⟨lw_p19, List.forall_mem_cons.mpr ⟨lw_p20, List.forall_mem_cons.mpr ⟨lw_p21, List.forall_mem_cons.mpr ⟨lw_p22, List.forall_mem_cons.mpr ⟨lw_p23, List.forall_mem_cons.mpr ⟨lw_p24, List.forall_mem_cons.mpr ⟨lw_p25, List.forall_mem_cons.mpr ⟨lw_p26, List.forall_mem_cons.mpr ⟨lw_p27, List.forall_mem_cons.mpr ⟨lw_p28, List.forall_mem_cons.mpr ⟨lw_p29, List.forall_mem_cons.mpr ⟨lw_p30, List.forall_mem_cons.mpr ⟨lw_p31, fun _ h => absurd h List.not_mem_nil⟩⟩⟩⟩⟩⟩⟩⟩⟩⟩⟩⟩⟩⟩⟩⟩
theorem lw_p32 : lw_okq (⟨"NearLiarsModel", "isClaimed", "(I)Z"⟩, 26) := ⟨⟨by decide +kernel, by decide +kernel⟩, List.mem_of_getElem? (i := 527) (by decide +kernel), List.mem_of_getElem? (i := 782) (by decide +kernel), List.mem_of_getElem? (i := 783) (by decide +kernel)⟩
theorem lw_p33 : lw_okq (⟨"NearLiarsModel", "oldestGoes", "()V"⟩, 26) := ⟨⟨by decide +kernel, by decide +kernel⟩, List.mem_of_getElem? (i := 527) (by decide +kernel), List.mem_of_getElem? (i := 786) (by decide +kernel), List.mem_of_getElem? (i := 787) (by decide +kernel)⟩
theorem lw_p34 : lw_okq (⟨"NearLiarsModel", "setOf", "(I)I"⟩, 26) := ⟨⟨by decide +kernel, by decide +kernel⟩, List.mem_of_getElem? (i := 527) (by decide +kernel), List.mem_of_getElem? (i := 798) (by decide +kernel), List.mem_of_getElem? (i := 799) (by decide +kernel)⟩
theorem lw_p35 : lw_okq (⟨"NearLiarsModel", "proofOf", "(II)I"⟩, 26) := ⟨⟨by decide +kernel, by decide +kernel⟩, List.mem_of_getElem? (i := 527) (by decide +kernel), List.mem_of_getElem? (i := 806) (by decide +kernel), List.mem_of_getElem? (i := 807) (by decide +kernel)⟩
theorem lw_p36 : lw_okq (⟨"NearLiarsModel", "proves", "(III)I"⟩, 26) := ⟨⟨by decide +kernel, by decide +kernel⟩, List.mem_of_getElem? (i := 527) (by decide +kernel), List.mem_of_getElem? (i := 810) (by decide +kernel), List.mem_of_getElem? (i := 811) (by decide +kernel)⟩
theorem lw_p37 : lw_okq (⟨"NearLiarsModel", "twos", "()I"⟩, 26) := ⟨⟨by decide +kernel, by decide +kernel⟩, List.mem_of_getElem? (i := 527) (by decide +kernel), List.mem_of_getElem? (i := 822) (by decide +kernel), List.mem_of_getElem? (i := 823) (by decide +kernel)⟩
def lw_privs_3 : List (MethodName × Nat) := [(⟨"NearLiarsModel", "isClaimed", "(I)Z"⟩, 26), (⟨"NearLiarsModel", "oldestGoes", "()V"⟩, 26), (⟨"NearLiarsModel", "setOf", "(I)I"⟩, 26), (⟨"NearLiarsModel", "proofOf", "(II)I"⟩, 26), (⟨"NearLiarsModel", "proves", "(III)I"⟩, 26), (⟨"NearLiarsModel", "twos", "()I"⟩, 26)]
theorem lw_r3 : ∀ q ∈ lw_privs_3, lw_okq q := List.forall_mem_cons.mpr ⟨lw_p32, List.forall_mem_cons.mpr ⟨lw_p33, List.forall_mem_cons.mpr ⟨lw_p34, List.forall_mem_cons.mpr ⟨lw_p35, List.forall_mem_cons.mpr ⟨lw_p36, List.forall_mem_cons.mpr ⟨lw_p37, fun _ h => absurd h List.not_mem_nil⟩⟩⟩⟩⟩⟩
def lw_privs : List (MethodName × Nat) := lw_privs_1 ++ (lw_privs_2 ++ (lw_privs_3))
def lw_tbl : List Cond := k2_sels lw_privs ++ tables_1
theorem lw_privs_ok : ∀ q ∈ lw_privs, lw_okq q := by
  show ∀ q ∈ lw_privs_1 ++ (lw_privs_2 ++ (lw_privs_3)), lw_okq q
  exact List.forall_mem_append.mpr ⟨lw_r1, List.forall_mem_append.mpr ⟨lw_r2, lw_r3⟩⟩
end
section
def RX0 : String := "NearLiars$Claims"
def TX0 : u_T := fun k => match k with
  | 0 => ("NearLiars$Claims", "hand", "[I", true)
  | 1 => ("NearLiars$Claims", "ways", "[I", true)
  | 2 => ("NearLiars$Claims", "lengths", "[I", true)
  | 3 => ("NearLiars$Claims", "sets", "[I", true)
  | 4 => ("NearLiars$Claims", "values", "[I", true)
  | 5 => ("NearLiars$Claims", "inner", "[I", true)
  | 6 => ("NearLiars$Claims", "handSet", "I", false)
  | 7 => ("NearLiars$Claims", "steps", "I", false)
  | _ => ("NearLiars$Claims", "count", "I", false)
def tyX0 : Nat → FieldType := fun k => match k with
  | 0 => .array .int
  | 1 => .array .int
  | 2 => .array .int
  | 3 => .array .int
  | 4 => .array .int
  | 5 => .array .int
  | 6 => .int
  | 7 => .int
  | _ => .int
theorem nmX0 : ∀ a, a < 9 → ∀ b, b < 9 → a ≠ b → (TX0 a).2.1 ≠ (TX0 b).2.1 := by decide +kernel
theorem tyX0_ok : ∀ k, k < 9 → parseFieldDescriptor (TX0 k).2.2.1 = some (tyX0 k) := by decide +kernel
abbrev cX0_init : ByteArray := prog_2_method_1_code
def yX0_init : MethodName := ⟨RX0, "<init>", "()V"⟩
abbrev cX0_forget : ByteArray := prog_2_method_2_code
def yX0_forget : MethodName := ⟨RX0, "forget", "()V"⟩
abbrev cX0_letGo : ByteArray := prog_2_method_3_code
def yX0_letGo : MethodName := ⟨RX0, "letGo", "()V"⟩
abbrev cX0_canStep : ByteArray := prog_2_method_4_code
def yX0_canStep : MethodName := ⟨RX0, "canStep", "(LNearLiars$Net;I)Z"⟩
abbrev cX0_step : ByteArray := prog_2_method_5_code
def yX0_step : MethodName := ⟨RX0, "step", "(I)I"⟩
abbrev cX0_isTold : ByteArray := prog_2_method_6_code
def yX0_isTold : MethodName := ⟨RX0, "isTold", "(I)Z"⟩
abbrev cX0_isInHand : ByteArray := prog_2_method_7_code
def yX0_isInHand : MethodName := ⟨RX0, "isInHand", "(I)Z"⟩
abbrev cX0_keep : ByteArray := prog_2_method_8_code
def yX0_keep : MethodName := ⟨RX0, "keep", "(I)I"⟩
abbrev cX0_forgetOldest : ByteArray := prog_2_method_9_code
def yX0_forgetOldest : MethodName := ⟨RX0, "forgetOldest", "()V"⟩
abbrev cX0_placeOf : ByteArray := prog_2_method_10_code
def yX0_placeOf : MethodName := ⟨RX0, "placeOf", "(II)I"⟩
abbrev cX0_mostApart : ByteArray := prog_2_method_11_code
def yX0_mostApart : MethodName := ⟨RX0, "mostApart", "(II)I"⟩
abbrev cX0_gatherInner : ByteArray := prog_2_method_12_code
def yX0_gatherInner : MethodName := ⟨RX0, "gatherInner", "(II)I"⟩
abbrev cX0_areApart : ByteArray := prog_2_method_13_code
def yX0_areApart : MethodName := ⟨RX0, "areApart", "(II)Z"⟩
abbrev cX0_soleGreatest : ByteArray := prog_2_method_14_code
def yX0_soleGreatest : MethodName := ⟨RX0, "soleGreatest", "(II)I"⟩
def RX1 : String := "NearLiars$Names"
def TX1 : u_T := fun k => match k with
  | 0 => ("NearLiars$Names", "cuts", "[I", true)
  | _ => ("NearLiars$Names", "count", "I", false)
def tyX1 : Nat → FieldType := fun k => match k with
  | 0 => .array .int
  | _ => .int
theorem nmX1 : ∀ a, a < 2 → ∀ b, b < 2 → a ≠ b → (TX1 a).2.1 ≠ (TX1 b).2.1 := by decide +kernel
theorem tyX1_ok : ∀ k, k < 2 → parseFieldDescriptor (TX1 k).2.2.1 = some (tyX1 k) := by decide +kernel
abbrev cX1_init : ByteArray := prog_3_method_1_code
def yX1_init : MethodName := ⟨RX1, "<init>", "()V"⟩
abbrev cX1_forget : ByteArray := prog_3_method_2_code
def yX1_forget : MethodName := ⟨RX1, "forget", "()V"⟩
abbrev cX1_place : ByteArray := prog_3_method_3_code
def yX1_place : MethodName := ⟨RX1, "place", "(I)I"⟩
def RX2 : String := "NearLiars$Net"
def TX2 : u_T := fun k => match k with
  | 0 => ("NearLiars$Net", "links", "[I", true)
  | 1 => ("NearLiars$Net", "lies", "[I", true)
  | 2 => ("NearLiars$Net", "count", "I", false)
  | 3 => ("NearLiars$Net", "width", "I", false)
  | 4 => ("NearLiars$Net", "bands", "I", false)
  | 5 => ("NearLiars$Net", "dealer", "I", false)
  | 6 => ("NearLiars$Net", "value", "I", false)
  | _ => ("NearLiars$Net", "need", "I", false)
def tyX2 : Nat → FieldType := fun k => match k with
  | 0 => .array .int
  | 1 => .array .int
  | 2 => .int
  | 3 => .int
  | 4 => .int
  | 5 => .int
  | 6 => .int
  | _ => .int
theorem nmX2 : ∀ a, a < 8 → ∀ b, b < 8 → a ≠ b → (TX2 a).2.1 ≠ (TX2 b).2.1 := by decide +kernel
theorem tyX2_ok : ∀ k, k < 8 → parseFieldDescriptor (TX2 k).2.2.1 = some (tyX2 k) := by decide +kernel
abbrev cX2_init : ByteArray := prog_4_method_1_code
def yX2_init : MethodName := ⟨RX2, "<init>", "()V"⟩
abbrev cX2_lay : ByteArray := prog_4_method_2_code
def yX2_lay : MethodName := ⟨RX2, "lay", "(III)V"⟩
abbrev cX2_around : ByteArray := prog_4_method_3_code
def yX2_around : MethodName := ⟨RX2, "around", "(III)I"⟩
abbrev cX2_has : ByteArray := prog_4_method_4_code
def yX2_has : MethodName := ⟨RX2, "has", "(I)Z"⟩
abbrev cX2_areLinked : ByteArray := prog_4_method_5_code
def yX2_areLinked : MethodName := ⟨RX2, "areLinked", "(II)Z"⟩
abbrev cX2_link : ByteArray := prog_4_method_6_code
def yX2_link : MethodName := ⟨RX2, "link", "(IIZ)V"⟩
abbrev cX2_pairs : ByteArray := prog_4_method_7_code
def yX2_pairs : MethodName := ⟨RX2, "pairs", "()I"⟩
abbrev cX2_all : ByteArray := prog_4_method_8_code
def yX2_all : MethodName := ⟨RX2, "all", "()I"⟩
abbrev cX2_row : ByteArray := prog_4_method_9_code
def yX2_row : MethodName := ⟨RX2, "row", "(I)I"⟩
abbrev cX2_liars : ByteArray := prog_4_method_10_code
def yX2_liars : MethodName := ⟨RX2, "liars", "()I"⟩
abbrev cX2_isSet : ByteArray := prog_4_method_11_code
def yX2_isSet : MethodName := ⟨RX2, "isSet", "(I)Z"⟩
abbrev cX2_leastCrowded : ByteArray := prog_4_method_12_code
def yX2_leastCrowded : MethodName := ⟨RX2, "leastCrowded", "(II)I"⟩
abbrev cX2_isThin : ByteArray := prog_4_method_13_code
def yX2_isThin : MethodName := ⟨RX2, "isThin", "(II)Z"⟩
abbrev cX2_spread : ByteArray := prog_4_method_14_code
def yX2_spread : MethodName := ⟨RX2, "spread", "(II)I"⟩
abbrev cX2_withJoining : ByteArray := prog_4_method_15_code
def yX2_withJoining : MethodName := ⟨RX2, "withJoining", "(III)I"⟩
abbrev cX2_cut : ByteArray := prog_4_method_16_code
def yX2_cut : MethodName := ⟨RX2, "cut", "(II)I"⟩
abbrev cX2_greatestBorne : ByteArray := prog_4_method_17_code
def yX2_greatestBorne : MethodName := ⟨RX2, "greatestBorne", "()I"⟩
def RX3 : String := "NearLiars$Run"
def TX3 : u_T := fun k => match k with
  | 0 => ("NearLiars$Run", "slots", "[I", true)
  | 1 => ("NearLiars$Run", "taken", "[I", true)
  | 2 => ("NearLiars$Run", "since", "[I", true)
  | 3 => ("NearLiars$Run", "heard", "[I", true)
  | 4 => ("NearLiars$Run", "round", "I", false)
  | 5 => ("NearLiars$Run", "over", "I", false)
  | _ => ("NearLiars$Run", "spoken", "I", false)
def tyX3 : Nat → FieldType := fun k => match k with
  | 0 => .array .int
  | 1 => .array .int
  | 2 => .array .int
  | 3 => .array .int
  | 4 => .int
  | 5 => .int
  | _ => .int
theorem nmX3 : ∀ a, a < 7 → ∀ b, b < 7 → a ≠ b → (TX3 a).2.1 ≠ (TX3 b).2.1 := by decide +kernel
theorem tyX3_ok : ∀ k, k < 7 → parseFieldDescriptor (TX3 k).2.2.1 = some (tyX3 k) := by decide +kernel
abbrev cX3_init : ByteArray := prog_5_method_1_code
def yX3_init : MethodName := ⟨RX3, "<init>", "()V"⟩
abbrev cX3_restart : ByteArray := prog_5_method_2_code
def yX3_restart : MethodName := ⟨RX3, "restart", "(LNearLiars$Net;)V"⟩
abbrev cX3_dealSlots : ByteArray := prog_5_method_3_code
def yX3_dealSlots : MethodName := ⟨RX3, "dealSlots", "(LNearLiars$Net;)V"⟩
abbrev cX3_slotsNear : ByteArray := prog_5_method_4_code
def yX3_slotsNear : MethodName := ⟨RX3, "slotsNear", "(LNearLiars$Net;I)I"⟩
abbrev cX3_leastFree : ByteArray := prog_5_method_5_code
def yX3_leastFree : MethodName := ⟨RX3, "leastFree", "(I)I"⟩
abbrev cX3_pass : ByteArray := prog_5_method_6_code
def yX3_pass : MethodName := ⟨RX3, "pass", "(LNearLiars$Net;)I"⟩
abbrev cX3_speak : ByteArray := prog_5_method_7_code
def yX3_speak : MethodName := ⟨RX3, "speak", "(LNearLiars$Net;I)I"⟩
abbrev cX3_hear : ByteArray := prog_5_method_8_code
def yX3_hear : MethodName := ⟨RX3, "hear", "(LNearLiars$Net;III)I"⟩
abbrev cX3_heardOf : ByteArray := prog_5_method_9_code
def yX3_heardOf : MethodName := ⟨RX3, "heardOf", "(II)I"⟩
abbrev cX3_heardInAll : ByteArray := prog_5_method_10_code
def yX3_heardInAll : MethodName := ⟨RX3, "heardInAll", "(I)I"⟩
abbrev cX3_right : ByteArray := prog_5_method_11_code
def yX3_right : MethodName := ⟨RX3, "right", "(LNearLiars$Net;I)I"⟩
abbrev cX3_misled : ByteArray := prog_5_method_12_code
def yX3_misled : MethodName := ⟨RX3, "misled", "(LNearLiars$Net;I)I"⟩
abbrev cX3_lastTake : ByteArray := prog_5_method_13_code
def yX3_lastTake : MethodName := ⟨RX3, "lastTake", "(LNearLiars$Net;I)I"⟩
def RX4 : String := "NearLiars$Survey"
def TX4 : u_T := fun k => match k with
  | 0 => ("NearLiars$Survey", "worstSet", "I", false)
  | 1 => ("NearLiars$Survey", "worstCut", "I", false)
  | 2 => ("NearLiars$Survey", "thin", "I", false)
  | _ => ("NearLiars$Survey", "stopping", "I", false)
def tyX4 : Nat → FieldType := fun k => match k with
  | 0 => .int
  | 1 => .int
  | 2 => .int
  | _ => .int
theorem nmX4 : ∀ a, a < 4 → ∀ b, b < 4 → a ≠ b → (TX4 a).2.1 ≠ (TX4 b).2.1 := by decide +kernel
theorem tyX4_ok : ∀ k, k < 4 → parseFieldDescriptor (TX4 k).2.2.1 = some (tyX4 k) := by decide +kernel
abbrev cX4_init : ByteArray := prog_6_method_1_code
def yX4_init : MethodName := ⟨RX4, "<init>", "()V"⟩
abbrev cX4_take : ByteArray := prog_6_method_2_code
def yX4_take : MethodName := ⟨RX4, "take", "(LNearLiars$Net;)V"⟩
abbrev cX4_weigh : ByteArray := prog_6_method_3_code
def yX4_weigh : MethodName := ⟨RX4, "weigh", "(II)V"⟩
def RX5 : String := "NearLiars"
def TX5 : u_T := fun k => match k with
  | 0 => ("NearLiars", "net", "LNearLiars$Net;", true)
  | 1 => ("NearLiars", "run", "LNearLiars$Run;", true)
  | 2 => ("NearLiars", "survey", "LNearLiars$Survey;", true)
  | 3 => ("NearLiars", "names", "LNearLiars$Names;", true)
  | _ => ("NearLiars", "claims", "LNearLiars$Claims;", true)
def tyX5 : Nat → FieldType := fun k => match k with
  | 0 => .object "NearLiars$Net"
  | 1 => .object "NearLiars$Run"
  | 2 => .object "NearLiars$Survey"
  | 3 => .object "NearLiars$Names"
  | _ => .object "NearLiars$Claims"
theorem nmX5 : ∀ a, a < 5 → ∀ b, b < 5 → a ≠ b → (TX5 a).2.1 ≠ (TX5 b).2.1 := by decide +kernel
theorem tyX5_ok : ∀ k, k < 5 → parseFieldDescriptor (TX5 k).2.2.1 = some (tyX5 k) := by decide +kernel
abbrev cX5_init : ByteArray := prog_1_method_1_code
def yX5_init : MethodName := ⟨RX5, "<init>", "()V"⟩
abbrev cX5_net : ByteArray := prog_1_method_2_code
def yX5_net : MethodName := ⟨RX5, "net", "(I)I"⟩
abbrev cX5_grid : ByteArray := prog_1_method_3_code
def yX5_grid : MethodName := ⟨RX5, "grid", "(III)I"⟩
abbrev cX5_edge : ByteArray := prog_1_method_4_code
def yX5_edge : MethodName := ⟨RX5, "edge", "(III)I"⟩
abbrev cX5_neighbours : ByteArray := prog_1_method_5_code
def yX5_neighbours : MethodName := ⟨RX5, "neighbours", "(I)I"⟩
abbrev cX5_dealer : ByteArray := prog_1_method_6_code
def yX5_dealer : MethodName := ⟨RX5, "dealer", "(II)I"⟩
abbrev cX5_need : ByteArray := prog_1_method_7_code
def yX5_need : MethodName := ⟨RX5, "need", "(I)I"⟩
abbrev cX5_lie : ByteArray := prog_1_method_8_code
def yX5_lie : MethodName := ⟨RX5, "lie", "(II)I"⟩
abbrev cX5_begin : ByteArray := prog_1_method_9_code
def yX5_begin : MethodName := ⟨RX5, "begin", "()I"⟩
abbrev cX5_ticks : ByteArray := prog_1_method_10_code
def yX5_ticks : MethodName := ⟨RX5, "ticks", "(I)I"⟩
abbrev cX5_node : ByteArray := prog_1_method_11_code
def yX5_node : MethodName := ⟨RX5, "node", "(II)I"⟩
abbrev cX5_band : ByteArray := prog_1_method_12_code
def yX5_band : MethodName := ⟨RX5, "band", "(II)I"⟩
abbrev cX5_sort : ByteArray := prog_1_method_13_code
def yX5_sort : MethodName := ⟨RX5, "sort", "(I)I"⟩
abbrev cX5_crowded : ByteArray := prog_1_method_14_code
def yX5_crowded : MethodName := ⟨RX5, "crowded", "(I)I"⟩
abbrev cX5_reached : ByteArray := prog_1_method_15_code
def yX5_reached : MethodName := ⟨RX5, "reached", "(I)I"⟩
abbrev cX5_worst : ByteArray := prog_1_method_16_code
def yX5_worst : MethodName := ⟨RX5, "worst", "(I)I"⟩
abbrev cX5_bears : ByteArray := prog_1_method_17_code
def yX5_bears : MethodName := ⟨RX5, "bears", "()I"⟩
abbrev cX5_name : ByteArray := prog_1_method_18_code
def yX5_name : MethodName := ⟨RX5, "name", "(I)I"⟩
abbrev cX5_named : ByteArray := prog_1_method_19_code
def yX5_named : MethodName := ⟨RX5, "named", "(I)I"⟩
abbrev cX5_walk : ByteArray := prog_1_method_20_code
def yX5_walk : MethodName := ⟨RX5, "walk", "(I)I"⟩
abbrev cX5_tell : ByteArray := prog_1_method_21_code
def yX5_tell : MethodName := ⟨RX5, "tell", "(I)I"⟩
abbrev cX5_drop : ByteArray := prog_1_method_22_code
def yX5_drop : MethodName := ⟨RX5, "drop", "()I"⟩
abbrev cX5_claim : ByteArray := prog_1_method_23_code
def yX5_claim : MethodName := ⟨RX5, "claim", "(II)I"⟩
abbrev cX5_proof : ByteArray := prog_1_method_24_code
def yX5_proof : MethodName := ⟨RX5, "proof", "(II)I"⟩
abbrev cX5_believes : ByteArray := prog_1_method_25_code
def yX5_believes : MethodName := ⟨RX5, "believes", "(I)I"⟩
abbrev cX5_many : ByteArray := prog_1_method_26_code
def yX5_many : MethodName := ⟨RX5, "many", "(I)I"⟩
abbrev cX5_layAnew : ByteArray := prog_1_method_27_code
def yX5_layAnew : MethodName := ⟨RX5, "layAnew", "(III)I"⟩
abbrev cX5_isValue : ByteArray := prog_1_method_28_code
def yX5_isValue : MethodName := ⟨RX5, "isValue", "(I)Z"⟩
abbrev cX5_isIn : ByteArray := prog_1_method_29_code
def yX5_isIn : MethodName := ⟨RX5, "isIn", "(II)Z"⟩
def RX6 : String := "NearLiarsModel"
def TX6 : u_T := fun k => match k with
  | 0 => ("NearLiarsModel", "nodes", "I", false)
  | 1 => ("NearLiarsModel", "columns", "I", false)
  | 2 => ("NearLiarsModel", "rows", "I", false)
  | 3 => ("NearLiarsModel", "near", "[I", true)
  | 4 => ("NearLiarsModel", "dealer", "I", false)
  | 5 => ("NearLiarsModel", "value", "I", false)
  | 6 => ("NearLiarsModel", "need", "I", false)
  | 7 => ("NearLiarsModel", "lieOf", "[I", true)
  | 8 => ("NearLiarsModel", "slotOf", "[I", true)
  | 9 => ("NearLiarsModel", "round", "I", false)
  | 10 => ("NearLiarsModel", "over", "I", false)
  | 11 => ("NearLiarsModel", "tookWhat", "[I", true)
  | 12 => ("NearLiarsModel", "tookWhen", "[I", true)
  | 13 => ("NearLiarsModel", "hasSpoken", "[Z", true)
  | 14 => ("NearLiarsModel", "heard", "[I", true)
  | 15 => ("NearLiarsModel", "worstSet", "I", false)
  | 16 => ("NearLiarsModel", "thin", "I", false)
  | 17 => ("NearLiarsModel", "stopping", "I", false)
  | 18 => ("NearLiarsModel", "cuts", "I", false)
  | 19 => ("NearLiarsModel", "cutOf", "[I", true)
  | 20 => ("NearLiarsModel", "wayLong", "I", false)
  | 21 => ("NearLiarsModel", "way", "[I", true)
  | 22 => ("NearLiarsModel", "claims", "I", false)
  | 23 => ("NearLiarsModel", "claimValue", "[I", true)
  | 24 => ("NearLiarsModel", "claimLong", "[I", true)
  | _ => ("NearLiarsModel", "claimWay", "[I", true)
def tyX6 : Nat → FieldType := fun k => match k with
  | 0 => .int
  | 1 => .int
  | 2 => .int
  | 3 => .array .int
  | 4 => .int
  | 5 => .int
  | 6 => .int
  | 7 => .array .int
  | 8 => .array .int
  | 9 => .int
  | 10 => .int
  | 11 => .array .int
  | 12 => .array .int
  | 13 => .array .boolean
  | 14 => .array .int
  | 15 => .int
  | 16 => .int
  | 17 => .int
  | 18 => .int
  | 19 => .array .int
  | 20 => .int
  | 21 => .array .int
  | 22 => .int
  | 23 => .array .int
  | 24 => .array .int
  | _ => .array .int
theorem nmX6 : ∀ a, a < 26 → ∀ b, b < 26 → a ≠ b → (TX6 a).2.1 ≠ (TX6 b).2.1 := by decide +kernel
theorem tyX6_ok : ∀ k, k < 26 → parseFieldDescriptor (TX6 k).2.2.1 = some (tyX6 k) := by decide +kernel
abbrev cX6_init : ByteArray := prog_8_method_1_code
def yX6_init : MethodName := ⟨RX6, "<init>", "()V"⟩
abbrev cX6_within : ByteArray := prog_8_method_2_code
def yX6_within : MethodName := ⟨RX6, "within", "(III)Z"⟩
abbrev cX6_has : ByteArray := prog_8_method_3_code
def yX6_has : MethodName := ⟨RX6, "has", "(II)Z"⟩
abbrev cX6_size : ByteArray := prog_8_method_4_code
def yX6_size : MethodName := ⟨RX6, "size", "(I)I"⟩
abbrev cX6_isNode : ByteArray := prog_8_method_5_code
def yX6_isNode : MethodName := ⟨RX6, "isNode", "(I)Z"⟩
abbrev cX6_lays : ByteArray := prog_8_method_6_code
def yX6_lays : MethodName := ⟨RX6, "lays", "(III)V"⟩
abbrev cX6_forgets : ByteArray := prog_8_method_7_code
def yX6_forgets : MethodName := ⟨RX6, "forgets", "()V"⟩
abbrev cX6_net : ByteArray := prog_8_method_8_code
def yX6_net : MethodName := ⟨RX6, "net", "(I)I"⟩
abbrev cX6_grid : ByteArray := prog_8_method_9_code
def yX6_grid : MethodName := ⟨RX6, "grid", "(III)I"⟩
abbrev cX6_edge : ByteArray := prog_8_method_10_code
def yX6_edge : MethodName := ⟨RX6, "edge", "(III)I"⟩
abbrev cX6_neighbours : ByteArray := prog_8_method_11_code
def yX6_neighbours : MethodName := ⟨RX6, "neighbours", "(I)I"⟩
abbrev cX6_dealer : ByteArray := prog_8_method_12_code
def yX6_dealer : MethodName := ⟨RX6, "dealer", "(II)I"⟩
abbrev cX6_need : ByteArray := prog_8_method_13_code
def yX6_need : MethodName := ⟨RX6, "need", "(I)I"⟩
abbrev cX6_lie : ByteArray := prog_8_method_14_code
def yX6_lie : MethodName := ⟨RX6, "lie", "(II)I"⟩
abbrev cX6_isApart : ByteArray := prog_8_method_15_code
def yX6_isApart : MethodName := ⟨RX6, "isApart", "(II)Z"⟩
abbrev cX6_isFreeSlot : ByteArray := prog_8_method_16_code
def yX6_isFreeSlot : MethodName := ⟨RX6, "isFreeSlot", "(II)Z"⟩
abbrev cX6_dealsSlots : ByteArray := prog_8_method_17_code
def yX6_dealsSlots : MethodName := ⟨RX6, "dealsSlots", "()V"⟩
abbrev cX6_begins : ByteArray := prog_8_method_18_code
def yX6_begins : MethodName := ⟨RX6, "begins", "()V"⟩
abbrev cX6_begin : ByteArray := prog_8_method_19_code
def yX6_begin : MethodName := ⟨RX6, "begin", "()I"⟩
abbrev cX6_isHonest : ByteArray := prog_8_method_20_code
def yX6_isHonest : MethodName := ⟨RX6, "isHonest", "(I)Z"⟩
abbrev cX6_says : ByteArray := prog_8_method_21_code
def yX6_says : MethodName := ⟨RX6, "says", "(I)I"⟩
abbrev cX6_speaks : ByteArray := prog_8_method_22_code
def yX6_speaks : MethodName := ⟨RX6, "speaks", "(II)I"⟩
abbrev cX6_tick : ByteArray := prog_8_method_23_code
def yX6_tick : MethodName := ⟨RX6, "tick", "()I"⟩
abbrev cX6_ticks : ByteArray := prog_8_method_24_code
def yX6_ticks : MethodName := ⟨RX6, "ticks", "(I)I"⟩
abbrev cX6_heardBy : ByteArray := prog_8_method_25_code
def yX6_heardBy : MethodName := ⟨RX6, "heardBy", "(I)I"⟩
abbrev cX6_node : ByteArray := prog_8_method_26_code
def yX6_node : MethodName := ⟨RX6, "node", "(II)I"⟩
abbrev cX6_manyHonest : ByteArray := prog_8_method_27_code
def yX6_manyHonest : MethodName := ⟨RX6, "manyHonest", "(III)I"⟩
abbrev cX6_lastIn : ByteArray := prog_8_method_28_code
def yX6_lastIn : MethodName := ⟨RX6, "lastIn", "(II)I"⟩
abbrev cX6_band : ByteArray := prog_8_method_29_code
def yX6_band : MethodName := ⟨RX6, "band", "(II)I"⟩
abbrev cX6_isSet : ByteArray := prog_8_method_30_code
def yX6_isSet : MethodName := ⟨RX6, "isSet", "(I)Z"⟩
abbrev cX6_crowdedBy : ByteArray := prog_8_method_31_code
def yX6_crowdedBy : MethodName := ⟨RX6, "crowdedBy", "(II)I"⟩
abbrev cX6_reachedBy : ByteArray := prog_8_method_32_code
def yX6_reachedBy : MethodName := ⟨RX6, "reachedBy", "(II)I"⟩
abbrev cX6_cutBy : ByteArray := prog_8_method_33_code
def yX6_cutBy : MethodName := ⟨RX6, "cutBy", "(II)I"⟩
abbrev cX6_sort : ByteArray := prog_8_method_34_code
def yX6_sort : MethodName := ⟨RX6, "sort", "(I)I"⟩
abbrev cX6_crowded : ByteArray := prog_8_method_35_code
def yX6_crowded : MethodName := ⟨RX6, "crowded", "(I)I"⟩
abbrev cX6_reached : ByteArray := prog_8_method_36_code
def yX6_reached : MethodName := ⟨RX6, "reached", "(I)I"⟩
abbrev cX6_triesSets : ByteArray := prog_8_method_37_code
def yX6_triesSets : MethodName := ⟨RX6, "triesSets", "(I)V"⟩
abbrev cX6_worst : ByteArray := prog_8_method_38_code
def yX6_worst : MethodName := ⟨RX6, "worst", "(I)I"⟩
abbrev cX6_bears : ByteArray := prog_8_method_39_code
def yX6_bears : MethodName := ⟨RX6, "bears", "()I"⟩
abbrev cX6_name : ByteArray := prog_8_method_40_code
def yX6_name : MethodName := ⟨RX6, "name", "(I)I"⟩
abbrev cX6_named : ByteArray := prog_8_method_41_code
def yX6_named : MethodName := ⟨RX6, "named", "(I)I"⟩
abbrev cX6_isOnWay : ByteArray := prog_8_method_42_code
def yX6_isOnWay : MethodName := ⟨RX6, "isOnWay", "(I)Z"⟩
abbrev cX6_walk : ByteArray := prog_8_method_43_code
def yX6_walk : MethodName := ⟨RX6, "walk", "(I)I"⟩
abbrev cX6_isClaimed : ByteArray := prog_8_method_44_code
def yX6_isClaimed : MethodName := ⟨RX6, "isClaimed", "(I)Z"⟩
abbrev cX6_oldestGoes : ByteArray := prog_8_method_45_code
def yX6_oldestGoes : MethodName := ⟨RX6, "oldestGoes", "()V"⟩
abbrev cX6_tell : ByteArray := prog_8_method_46_code
def yX6_tell : MethodName := ⟨RX6, "tell", "(I)I"⟩
abbrev cX6_drop : ByteArray := prog_8_method_47_code
def yX6_drop : MethodName := ⟨RX6, "drop", "()I"⟩
abbrev cX6_setOf : ByteArray := prog_8_method_48_code
def yX6_setOf : MethodName := ⟨RX6, "setOf", "(I)I"⟩
abbrev cX6_claim : ByteArray := prog_8_method_49_code
def yX6_claim : MethodName := ⟨RX6, "claim", "(II)I"⟩
abbrev cX6_proves : ByteArray := prog_8_method_50_code
def yX6_proves : MethodName := ⟨RX6, "proves", "(III)I"⟩
abbrev cX6_proofOf : ByteArray := prog_8_method_51_code
def yX6_proofOf : MethodName := ⟨RX6, "proofOf", "(II)I"⟩
abbrev cX6_proof : ByteArray := prog_8_method_52_code
def yX6_proof : MethodName := ⟨RX6, "proof", "(II)I"⟩
abbrev cX6_believes : ByteArray := prog_8_method_53_code
def yX6_believes : MethodName := ⟨RX6, "believes", "(I)I"⟩
abbrev cX6_twos : ByteArray := prog_8_method_54_code
def yX6_twos : MethodName := ⟨RX6, "twos", "()I"⟩
abbrev cX6_many : ByteArray := prog_8_method_55_code
def yX6_many : MethodName := ⟨RX6, "many", "(I)I"⟩
def RJ6 : String := "java/lang/Integer"
abbrev cJ6_bitCount_0f7a4 : ByteArray := prog_9_method_49_code
def yJ6_bitCount_0f7a4 : MethodName := ⟨RJ6, "bitCount", "(I)I"⟩
def RJ9 : String := "java/lang/Math"
abbrev cJ9_abs_0f7a4 : ByteArray := prog_10_method_59_code
def yJ9_abs_0f7a4 : MethodName := ⟨RJ9, "abs", "(I)I"⟩
abbrev cJ9_max_7cf53 : ByteArray := prog_10_method_65_code
def yJ9_max_7cf53 : MethodName := ⟨RJ9, "max", "(II)I"⟩
def RJ10 : String := "java/lang/System"
def RJ7 : String := "java/util/Arrays"
abbrev cJ7_fill_53178 : ByteArray := prog_12_method_103_code
def yJ7_fill_53178 : MethodName := ⟨RJ7, "fill", "([II)V"⟩
abbrev vwCl : List vw_C := [(RX0, TX0, 9), (RX1, TX1, 2), (RX2, TX2, 8), (RX3, TX3, 7), (RX4, TX4, 4), (RX5, TX5, 5), (RX6, TX6, 26)]
end
section
/-! ===== 03: the deep machine: abstract values, cells, states; its steps; what they mean ===== -/
abbrev dp_V : Type := Int32 ⊕ Option Nat
abbrev dp_Cl : Type := (Bool × Nat × (Nat → Int32)) ⊕ (Nat × List dp_V)
abbrev dp_H : Type := List dp_Cl
abbrev dp_In : Type := Instr × Nat × Nat × Nat × Nat × Int32
abbrev dp_M : Type := String × MethodName × ByteArray × Nat × Option FieldType × List (Option dp_In)
abbrev dp_S : Type := Nat × List (Option dp_V) × List dp_V × dp_H
def dp_cv (b : Nat) (v : dp_V) : Value := match v with
  | .inl x => .int x
  | .inr none => .null
  | .inr (some k) => .ref (b + k)
theorem dp_cat (b : Nat) (v : dp_V) : (dp_cv b v).category = 1 := by
  rcases v with x | _ | k <;> rfl
def dp_ce (cI cZ : ClassId) (b : Nat) (q : dp_Cl) : va_E := match q with
  | .inl (z, n, f) => .inl (if z = true then cZ else cI, n, .inl f)
  | .inr (ci, fs) => .inr (ci, fs.map (dp_cv b))
def dp_ws (cI cZ : ClassId) (b : Nat) (h : dp_H) : va_W := h.mapIdx (fun k q => (b + k, dp_ce cI cZ b q))
section DW
variable {cI cZ : ClassId} {b : Nat} {h : dp_H}
theorem dp_ws_at {k : Nat} {q : dp_Cl} (hk : h[k]? = some q) : (dp_ws cI cZ b h)[k]? = some (b + k, dp_ce cI cZ b q) := by
  simp [dp_ws, hk]
theorem dp_ws_inv {k : Nat} {x : Nat × va_E} (hk : (dp_ws cI cZ b h)[k]? = some x) : ∃ q, h[k]? = some q ∧ x = (b + k, dp_ce cI cZ b q) := by
  cases hq : h[k]? with
  | none => simp [dp_ws, hq] at hk
  | some q =>
    rw [dp_ws_at hq] at hk
    exact ⟨q, rfl, (Option.some.inj hk).symm⟩
theorem dp_ws_set (k : Nat) (q : dp_Cl) : (dp_ws cI cZ b h).set k (b + k, dp_ce cI cZ b q) = dp_ws cI cZ b (h.set k q) := by
  unfold dp_ws
  rw [List.mapIdx_set]
theorem dp_ws_push (q : dp_Cl) : dp_ws cI cZ b h ++ [(b + h.length, dp_ce cI cZ b q)] = dp_ws cI cZ b (h ++ [q]) := by
  unfold dp_ws
  rw [List.mapIdx_concat]
theorem dp_D1 {A : Nat → Prop} (hA : ∀ k, k < h.length → A (b + k)) : va_D A (dp_ws cI cZ b h) := by
  refine ⟨fun i j x y hi hj hxy => ?_, fun k x hk => ?_⟩
  · obtain ⟨q, -, rfl⟩ := dp_ws_inv hi
    obtain ⟨q', -, rfl⟩ := dp_ws_inv hj
    have : b + i = b + j := hxy
    omega
  · obtain ⟨q, hq, rfl⟩ := dp_ws_inv hk
    exact hA k (List.getElem?_eq_some_iff.mp hq).1
theorem dp_D0 {sz : Nat} : va_D (va_A (dp_ws cI cZ b h) sz) (dp_ws cI cZ b h) := dp_D1 (fun k hk => Or.inl ⟨k, _, dp_ws_at (List.getElem?_eq_getElem hk)⟩)
end DW
/-- the listed locals -/
def dp_lv (b : Nat) (L : List (Option dp_V)) : List (Nat × Value) := L.zipIdx.filterMap (fun q => q.1.map (fun v => (q.2, dp_cv b v)))
theorem dp_lv_mem {b : Nat} {L : List (Option dp_V)} {q : Nat × Value} : q ∈ dp_lv b L ↔ ∃ i v, L[i]? = some (some v) ∧ q = (i, dp_cv b v) := by
  unfold dp_lv
  rw [List.mem_filterMap]
  constructor
  · rintro ⟨⟨o, i⟩, h1, h2⟩
    have h3 := List.mem_zipIdx_iff_getElem?.mp h1
    cases o with
    | none => cases h2
    | some v => exact ⟨i, v, h3, (Option.some.inj h2).symm⟩
  · rintro ⟨i, v, h1, rfl⟩
    exact ⟨(some v, i), List.mem_zipIdx_iff_getElem?.mpr h1, rfl⟩
def dp_L (b : Nat) (ls : Array Slot) (nL : Nat) (L : List (Option dp_V)) : Prop := lv_has ls nL (dp_lv b L) ∧ L.length = nL
theorem dp_L.at {b nL : Nat} {ls : Array Slot} {L : List (Option dp_V)} (h : dp_L b ls nL L) {i : Nat} {v : dp_V} (hi : L[i]? = some (some v)) : ls[i]? = some (.val (dp_cv b v)) := h.1.2.2 (i, dp_cv b v) (dp_lv_mem.mpr ⟨i, v, hi, rfl⟩)
theorem dp_L.set {b nL : Nat} {ls ls' : Array Slot} {L : List (Option dp_V)} (h : dp_L b ls nL L) {i : Nat} {v : dp_V} (h' : lv_has ls' nL ((i, dp_cv b v) :: (dp_lv b L).filter (fun q => !(q.1 == i) && !(q.1 + 1 == i && q.2.category == 2)))) : dp_L b ls' nL (L.set i (some v)) := by
  refine ⟨⟨h'.1, h'.2.1, fun q hq => ?_⟩, by rw [List.length_set]; exact h.2⟩
  obtain ⟨j, w, hj, rfl⟩ := dp_lv_mem.mp hq
  by_cases e : j = i
  · subst e
    have hl : j < L.length := by
      have := (List.getElem?_eq_some_iff.mp hj).1
      rwa [List.length_set] at this
    rw [List.getElem?_set_self hl] at hj
    cases hj
    exact h'.2.2 _ List.mem_cons_self
  · rw [List.getElem?_set_ne (Ne.symm e)] at hj
    refine h'.2.2 _ (List.mem_cons_of_mem _ (List.mem_filter.mpr ⟨dp_lv_mem.mpr ⟨j, w, hj, rfl⟩, ?_⟩))
    have e1 : (j == i) = false := by simpa using e
    simp [e1, dp_cat]
/-! steps -/
def dp_push (n : Nat) (v : dp_V) : dp_S → Option dp_S
  | (pc, L, st, h) => some (pc + n, L, v :: st, h)
def dp_bin (f : Int32 → Int32 → Int32) : dp_S → Option dp_S
  | (pc, L, .inl y :: .inl x :: st, h) => some (pc + 1, L, .inl (f x y) :: st, h)
  | _ => none
def dp_neg : dp_S → Option dp_S
  | (pc, L, .inl x :: st, h) => some (pc + 1, L, .inl (-x) :: st, h)
  | _ => none
def dp_ild (n k : Nat) : dp_S → Option dp_S
  | (pc, L, st, h) => match L[k]? with
    | some (some (.inl x)) => some (pc + n, L, .inl x :: st, h)
    | _ => none
def dp_ald (n k : Nat) : dp_S → Option dp_S
  | (pc, L, st, h) => match L[k]? with
    | some (some (.inr (some q))) => some (pc + n, L, .inr (some q) :: st, h)
    | _ => none
def dp_ist (n k : Nat) : dp_S → Option dp_S
  | (pc, L, .inl x :: st, h) => match L[k]? with
    | some _ => some (pc + n, L.set k (some (.inl x)), st, h)
    | none => none
  | _ => none
def dp_inc (k : Nat) (v : Int32) : dp_S → Option dp_S
  | (pc, L, st, h) => match L[k]? with
    | some (some (.inl x)) => some (pc + 3, L.set k (some (.inl (x + v))), st, h)
    | _ => none
def dp_dup : dp_S → Option dp_S
  | (pc, L, v :: st, h) => some (pc + 1, L, v :: v :: st, h)
  | _ => none
def dp_dup2 : dp_S → Option dp_S
  | (pc, L, v :: w :: st, h) => some (pc + 1, L, v :: w :: v :: w :: st, h)
  | _ => none
def dp_jmp (a : Nat) : dp_S → Option dp_S
  | (_, L, st, h) => some (a, L, st, h)
def dp_gf (ci k : Nat) : dp_S → Option dp_S
  | (pc, L, .inr (some q) :: st, h) => match h[q]? with
    | some (.inr (c, fs)) => if c = ci then (match fs[k]? with
      | some v => some (pc + 3, L, v :: st, h)
      | none => none) else none
    | _ => none
  | _ => none
def dp_pf (ci k : Nat) : dp_S → Option dp_S
  | (pc, L, .inl x :: .inr (some q) :: st, h) => match h[q]? with
    | some (.inr (c, fs)) => if c = ci then (match fs[k]? with
      | some _ => some (pc + 3, L, st, h.set q (.inr (c, fs.set k (.inl x))))
      | none => none) else none
    | _ => none
  | _ => none
/-- a final field of references, in a constructor -/
def dp_pr (ci k : Nat) : dp_S → Option dp_S
  | (pc, L, .inr (some x) :: .inr (some q) :: st, h) => match h[q]? with
    | some (.inr (c, fs)) => if c = ci then (match fs[k]? with
      | some _ => some (pc + 3, L, st, h.set q (.inr (c, fs.set k (.inr (some x)))))
      | none => none) else none
    | _ => none
  | _ => none
def dp_op (i : Instr) (a b f : Nat) (v : Int32) (S : dp_S) : Option dp_S := match i with
  | .iload k => dp_ild 2 k S
  | .iload_n k => dp_ild 1 k.val S
  | .aload_n k => dp_ald 1 k.val S
  | .iconst _ => dp_push 1 (.inl v) S
  | .bipush _ => dp_push 2 (.inl v) S
  | .ldc_w _ => dp_push 3 (.inl v) S
  | .istore k => dp_ist 2 k S
  | .istore_n k => dp_ist 1 k.val S
  | .iinc k _ => dp_inc k v S
  | .iadd => dp_bin (fun x y => x + y) S
  | .isub => dp_bin (fun x y => x - y) S
  | .imul => dp_bin (fun x y => x * y) S
  | .iand => dp_bin (fun x y => x &&& y) S
  | .ior => dp_bin (fun x y => x ||| y) S
  | .ixor => dp_bin (fun x y => x ^^^ y) S
  | .ishl => dp_bin (fun x y => x <<< (y &&& 31)) S
  | .ishr => dp_bin (fun x y => x >>> (y &&& 31)) S
  | .iushr => dp_bin (fun x y => (x.toUInt32 >>> (y.toUInt32 &&& Int32.toUInt32 31)).toInt32) S
  | .ineg => dp_neg S
  | .dup => dp_dup S
  | .dup2 => dp_dup2 S
  | .goto _ => dp_jmp a S
  | .getfield _ => dp_gf a b S
  | .putfield _ => if f = 4 then dp_pr a b S else dp_pf a b S
  | _ => none
def dp_st (M : dp_M) (S : dp_S) : Option dp_S := match M.2.2.2.2.2[S.1]? with
  | some (some (i, _, a, b, f, v)) => dp_op i a b f v S
  | _ => none
def dp_sts (M : dp_M) : Nat → dp_S → Option dp_S
  | 0, S => some S
  | n + 1, S => match dp_st M S with
    | some S' => dp_sts M n S'
    | none => none
/-! the words -/
def dp_isN : Cond → Bool
  | .fieldLinkNest .. => true
  | .methodLinkNest .. => true
  | _ => false
def dp_g : List Cond := lw_tbl.filter goodWord
def dp_nw : List Cond := lw_tbl.filter dp_isN
theorem dp_in {w : Cond} (h : w ∈ lw_tbl) (hg : goodWord w = true) : w ∈ dp_g := List.mem_filter.mpr ⟨h, hg⟩
theorem dp_at {w : Cond} (i : Nat) (h : lw_tbl[i]? = some w) (hg : goodWord w = true) : w ∈ dp_g := dp_in (List.mem_of_getElem? h) hg
theorem dp_nat {w : Cond} (i : Nat) (h : lw_tbl[i]? = some w) (hg : dp_isN w = true) : w ∈ dp_nw := List.mem_filter.mpr ⟨List.mem_of_getElem? h, hg⟩
theorem dp_nw_warm {w : Cond} (hw : w ∈ dp_nw) {s U : State} (hW : s.WarmedH U.vm) (h : va_Nw w s) : va_Nw w U := by
  have hi := (List.mem_filter.mp hw).2
  cases w <;> first | exact va_Nw.warmF hW h | exact va_Nw.warmM hW h | cases hi
theorem dp_nw_use {w : Cond} (hw : w ∈ dp_nw) {s : State} {args : Array Value} (h : va_Nw w s) : w.before args s = true := by
  have hi := (List.mem_filter.mp hw).2
  cases w <;> first | exact va_Nw.use rfl h | cases hi
theorem dp_nw_same {w : Cond} (hw : w ∈ dp_nw) {u U : State} (e : u.vm = U.vm) (h : va_Nw w u) : va_Nw w U := by
  have hi := (List.mem_filter.mp hw).2
  cases w <;> first | exact va_Nw.same rfl e h | cases hi
def dp_CF (q : vw_C) : Prop := (∀ w ∈ u_ws q.1 q.2.1 q.2.2, w ∈ dp_g) ∧ (∃ ty0 : Nat → FieldType, ∀ k, k < q.2.2 → parseFieldDescriptor (q.2.1 k).2.2.1 = some (ty0 k)) ∧ (∀ a, a < q.2.2 → ∀ b, b < q.2.2 → a ≠ b → (q.2.1 a).2.1 ≠ (q.2.1 b).2.1)
/-- a field's link: entry, class, field, flag (0 get, 1 get of a nest mate's, 2 put, 3 put of a nest mate's, 4 put of a final one) -/
def dp_FL (own : String) (x : Nat × Nat × Nat × Nat) : Prop := ∃ q : vw_C, vwCl[x.2.1]? = some q ∧ x.2.2.1 < q.2.2 ∧ dp_CF q ∧ match x.2.2.2 with
  | 0 => Cond.fieldLink own x.1 (q.2.1 x.2.2.1).1 (q.2.1 x.2.2.1).2.1 (q.2.1 x.2.2.1).2.2.1 ∈ dp_g
  | 1 => ∃ host, Cond.fieldLinkNest own x.1 (q.2.1 x.2.2.1).1 (q.2.1 x.2.2.1).2.1 (q.2.1 x.2.2.1).2.2.1 host ∈ dp_nw
  | 2 => Cond.fieldLink own x.1 (q.2.1 x.2.2.1).1 (q.2.1 x.2.2.1).2.1 (q.2.1 x.2.2.1).2.2.1 ∈ dp_g ∧ (q.2.1 x.2.2.1).2.2.2 = false ∧ parseFieldDescriptor (q.2.1 x.2.2.1).2.2.1 = some .int
  | 3 => (∃ host, Cond.fieldLinkNest own x.1 (q.2.1 x.2.2.1).1 (q.2.1 x.2.2.1).2.1 (q.2.1 x.2.2.1).2.2.1 host ∈ dp_nw) ∧ (q.2.1 x.2.2.1).2.2.2 = false ∧ parseFieldDescriptor (q.2.1 x.2.2.1).2.2.1 = some .int
  | _ => Cond.fieldLink own x.1 (q.2.1 x.2.2.1).1 (q.2.1 x.2.2.1).2.1 (q.2.1 x.2.2.1).2.2.1 ∈ dp_g ∧ (q.2.1 x.2.2.1).2.2.2 = true ∧ (q.2.1 x.2.2.1).1 = own ∧ ∃ ty, parseFieldDescriptor (q.2.1 x.2.2.1).2.2.1 = some ty ∧ ∀ a, narrow ty (.ref a) = .ref a ∧ fits ty (.ref a) = true
/-- one entry of a method's table, tested by program -/
def dp_ck1 (fl : List (Nat × Nat × Nat × Nat)) (cs : List (Nat × Int32)) (pc : Nat) (x : dp_In) : Bool := match x with
  | (i, _, a, b, f, v) => match i with
    | .iconst n => Int32.ofInt n == v
    | .bipush n => (Int8.ofInt n).toInt32 == v
    | .ldc_w n => cs.contains (n, v)
    | .iinc _ n => Int32.ofInt n == v
    | .goto o => (pc : Int) + o == (a : Int)
    | .if_icmp _ o => (pc : Int) + o == (a : Int)
    | .ifCond _ o => (pc : Int) + o == (a : Int)
    | .getfield n => decide (f < 2) && fl.contains (n, a, b, f)
    | .putfield n => decide (2 ≤ f) && decide (f ≤ 4) && fl.contains (n, a, b, f)
    | _ => true
def dp_len : Instr → Nat
  | .iload _ => 2
  | .istore _ => 2
  | .bipush _ => 2
  | .newarray _ => 2
  | .iinc _ _ => 3
  | .goto _ => 3
  | .if_icmp _ _ => 3
  | .ifCond _ _ => 3
  | .getfield _ => 3
  | .putfield _ => 3
  | .invokevirtual _ => 3
  | .invokestatic _ => 3
  | .invokespecial _ => 3
  | .ldc_w _ => 3
  | .new _ => 3
  | .tableswitch _ _ _ _ => 0
  | _ => 1
def dp_ck (fl : List (Nat × Nat × Nat × Nat)) (cs : List (Nat × Int32)) (code : ByteArray) : Nat → List (Option dp_In) → Bool
  | _, [] => true
  | pc, none :: r => dp_ck fl cs code (pc + 1) r
  | pc, some x :: r => decide (decode code pc = .ok (x.1, x.2.1)) && (dp_ck1 fl cs pc x && (dp_len x.1 == 0 || x.2.1 == dp_len x.1)) && dp_ck fl cs code (pc + 1) r
theorem dp_ck_at {fl : List (Nat × Nat × Nat × Nat)} {cs : List (Nat × Int32)} {code : ByteArray} : ∀ (t : List (Option dp_In)) (p0 : Nat), dp_ck fl cs code p0 t = true → ∀ (k : Nat) (x : dp_In), t[k]? = some (some x) → decode code (p0 + k) = .ok (x.1, x.2.1) ∧ dp_ck1 fl cs (p0 + k) x = true ∧ (dp_len x.1 = 0 ∨ x.2.1 = dp_len x.1)
  | [], _, _, k, x, hx => by simp at hx
  | none :: r, p0, h, k, x, hx => by
    cases k with
    | zero => simp at hx
    | succ k =>
      rw [List.getElem?_cons_succ] at hx
      have := dp_ck_at r (p0 + 1) h k x hx
      rwa [show p0 + 1 + k = p0 + (k + 1) by omega] at this
  | some y :: r, p0, h, k, x, hx => by
    simp only [dp_ck, Bool.and_eq_true, decide_eq_true_eq, Bool.or_eq_true, beq_iff_eq] at h
    cases k with
    | zero =>
      rw [List.getElem?_cons_zero] at hx
      cases hx
      exact h.1
    | succ k =>
      rw [List.getElem?_cons_succ] at hx
      have := dp_ck_at r (p0 + 1) h.2 k x hx
      rwa [show p0 + 1 + k = p0 + (k + 1) by omega] at this
/-- a method that is well told -/
def dp_ok (M : dp_M) : Prop := (∃ fl cs, dp_ck fl cs M.2.2.1 0 M.2.2.2.2.2 = true ∧ (∀ x ∈ fl, dp_FL M.1 x ∧ (x.2.2.2 = 4 → M.2.1.name = "<init>")) ∧ ∀ x ∈ cs, Cond.constant M.1 x.1 x.2 ∈ dp_g) ∧ M.2.1.cls = M.1 ∧ Cond.code M.2.1 M.2.2.1 M.2.2.2.1 M.2.2.2.2.1 ∈ dp_g ∧ plainName M.1 = true ∧ M.1 ≠ "java/lang/invoke/MethodHandle" ∧ M.1 ≠ "java/lang/invoke/VarHandle" ∧ M.2.2.2.1 ≤ 21
/-- what stays the same through a method's walk -/
def dp_E (M : dp_M) (p : Program) (s : State) (m : MethodId) (args : Array Value) (meth : Method) (c : Code) (D : va_G) (cI cZ : ClassId) : Prop :=
  p.tables.exec = Jvm.exec ∧ c.code = M.2.2.1 ∧ c.maxLocals = M.2.2.2.1 ∧ meth.sig.returnType = M.2.2.2.2.1 ∧ meth.locks = false ∧ meth.name = M.2.1.name ∧ s.vm.findClass M.1 = some m.cls ∧ (∀ w ∈ dp_g, w.before args s = true) ∧ (∀ w ∈ dp_nw, va_Nw w s) ∧ va_K D vwCl [(cI, .int), (cZ, .boolean)] s
def dp_G (p : Program) (l : Launch) (e : Env) (R : Room) (s : State) (m : MethodId) (args : Array Value) (below : List Frame) (meth : Method) (c : Code) (D : va_G) (cI cZ : ClassId) (b : Nat) (A : Nat → Prop) (nL : Nat) (Q : State → Prop) (k n : Nat) (S : dp_S) : Prop :=
  ∀ (H : Heap) (locs : List Loc) (ls : Array Slot), va_P D vwCl (dp_ws cI cZ b S.2.2.2) H → va_D A (dp_ws cI cZ b S.2.2.2) → va_S A s.heap H locs → dp_L b ls nL S.2.1 →
    W p l e R s m args below meth c H locs k n Q (F0 m S.1 ls (S.2.2.1.map (dp_cv b)))
end
section
/-! ===== 04: a step of the deep machine is a step of the machine ===== -/
theorem dp_bin_inv {f : Int32 → Int32 → Int32} {pc : Nat} {L : List (Option dp_V)} {st : List dp_V} {h : dp_H} {S' : dp_S} (hh : dp_bin f (pc, L, st, h) = some S') : ∃ x y r, st = .inl y :: .inl x :: r ∧ S' = (pc + 1, L, .inl (f x y) :: r, h) := by
  unfold dp_bin at hh
  split at hh
  · rename_i e
    cases e
    exact ⟨_, _, _, rfl, (Option.some.inj hh).symm⟩
  · cases hh
theorem dp_ild_inv {n k pc : Nat} {L : List (Option dp_V)} {st : List dp_V} {h : dp_H} {S' : dp_S} (hh : dp_ild n k (pc, L, st, h) = some S') : ∃ x, L[k]? = some (some (.inl x)) ∧ S' = (pc + n, L, .inl x :: st, h) := by
  unfold dp_ild at hh
  dsimp only at hh
  split at hh
  · rename_i x e
    exact ⟨x, e, (Option.some.inj hh).symm⟩
  · cases hh
theorem dp_ald_inv {n k pc : Nat} {L : List (Option dp_V)} {st : List dp_V} {h : dp_H} {S' : dp_S} (hh : dp_ald n k (pc, L, st, h) = some S') : ∃ q, L[k]? = some (some (.inr (some q))) ∧ S' = (pc + n, L, .inr (some q) :: st, h) := by
  unfold dp_ald at hh
  dsimp only at hh
  split at hh
  · rename_i x e
    exact ⟨x, e, (Option.some.inj hh).symm⟩
  · cases hh
theorem dp_ist_inv {n k pc : Nat} {L : List (Option dp_V)} {st : List dp_V} {h : dp_H} {S' : dp_S} (hh : dp_ist n k (pc, L, st, h) = some S') : ∃ x r, st = .inl x :: r ∧ k < L.length ∧ S' = (pc + n, L.set k (some (.inl x)), r, h) := by
  unfold dp_ist at hh
  split at hh
  · rename_i e
    cases e
    split at hh
    · rename_i y e
      exact ⟨_, _, rfl, (List.getElem?_eq_some_iff.mp e).1, (Option.some.inj hh).symm⟩
    · cases hh
  · cases hh
theorem dp_inc_inv {k pc : Nat} {v : Int32} {L : List (Option dp_V)} {st : List dp_V} {h : dp_H} {S' : dp_S} (hh : dp_inc k v (pc, L, st, h) = some S') : ∃ x, L[k]? = some (some (.inl x)) ∧ S' = (pc + 3, L.set k (some (.inl (x + v))), st, h) := by
  unfold dp_inc at hh
  dsimp only at hh
  split at hh
  · rename_i x e
    exact ⟨x, e, (Option.some.inj hh).symm⟩
  · cases hh
theorem dp_gf_inv {ci k pc : Nat} {L : List (Option dp_V)} {st : List dp_V} {h : dp_H} {S' : dp_S} (hh : dp_gf ci k (pc, L, st, h) = some S') : ∃ q r fs v, st = .inr (some q) :: r ∧ h[q]? = some (.inr (ci, fs)) ∧ fs[k]? = some v ∧ S' = (pc + 3, L, v :: r, h) := by
  unfold dp_gf at hh
  split at hh
  · rename_i e
    cases e
    split at hh
    · rename_i e1
      split at hh
      · rename_i e2
        subst e2
        split at hh
        · rename_i v e3
          exact ⟨_, _, _, v, rfl, e1, e3, (Option.some.inj hh).symm⟩
        · cases hh
      · cases hh
    · cases hh
  · cases hh
theorem dp_pf_inv {ci k pc : Nat} {L : List (Option dp_V)} {st : List dp_V} {h : dp_H} {S' : dp_S} (hh : dp_pf ci k (pc, L, st, h) = some S') : ∃ x q r fs, st = .inl x :: .inr (some q) :: r ∧ h[q]? = some (.inr (ci, fs)) ∧ k < fs.length ∧ S' = (pc + 3, L, r, h.set q (.inr (ci, fs.set k (.inl x)))) := by
  unfold dp_pf at hh
  split at hh
  · rename_i e
    cases e
    split at hh
    · rename_i e1
      split at hh
      · rename_i e2
        subst e2
        split at hh
        · rename_i v e3
          exact ⟨_, _, _, _, rfl, e1, (List.getElem?_eq_some_iff.mp e3).1, (Option.some.inj hh).symm⟩
        · cases hh
      · cases hh
    · cases hh
  · cases hh
theorem dp_pr_inv {ci k pc : Nat} {L : List (Option dp_V)} {st : List dp_V} {h : dp_H} {S' : dp_S} (hh : dp_pr ci k (pc, L, st, h) = some S') : ∃ x q r fs, st = .inr (some x) :: .inr (some q) :: r ∧ h[q]? = some (.inr (ci, fs)) ∧ k < fs.length ∧ S' = (pc + 3, L, r, h.set q (.inr (ci, fs.set k (.inr (some x))))) := by
  unfold dp_pr at hh
  split at hh
  · rename_i e
    cases e
    split at hh
    · rename_i e1
      split at hh
      · rename_i e2
        subst e2
        split at hh
        · rename_i v e3
          exact ⟨_, _, _, _, rfl, e1, (List.getElem?_eq_some_iff.mp e3).1, (Option.some.inj hh).symm⟩
        · cases hh
      · cases hh
    · cases hh
  · cases hh
section DG
variable {M : dp_M} {p : Program} {l : Launch} {e : Env} {R : Room} {s : State} {m : MethodId} {args : Array Value} {below : List Frame} {meth : Method} {c : Code} {D : va_G} {cI cZ : ClassId} {b : Nat} {A : Nat → Prop} {Q : State → Prop} {k n : Nat}
theorem dp_gf_G (E : dp_E M p s m args meth c D cI cZ) {x : Nat × Nat × Nat × Nat} (hF : dp_FL M.1 x) (hf : x.2.2.2 < 2) {pc : Nat} (hd : decode M.2.2.1 pc = .ok (.getfield x.1, 3)) {L : List (Option dp_V)} {st : List dp_V} {h : dp_H} {S' : dp_S} (hh : dp_gf x.2.1 x.2.2.1 (pc, L, st, h) = some S')
    (kk : dp_G p l e R s m args below meth c D cI cZ b A M.2.2.2.1 Q k n S') : dp_G p l e R s m args below meth c D cI cZ b A M.2.2.2.1 Q k n (pc, L, st, h) := by
  obtain ⟨hx, hb, -, -, -, -, hown, hts, hnw, hK⟩ := E
  obtain ⟨⟨C, T, N⟩, hc, hk, ⟨hin, -, -⟩, hl⟩ := hF
  obtain ⟨q, r, fs, v, rfl, e1, e2, rfl⟩ := dp_gf_inv hh
  obtain ⟨idx, ci, kf, f⟩ := x
  dsimp only at hc hk hf hl hd e1 e2 kk hin
  intro H locs ls h2 h3 h4 h5
  have he : (dp_ws cI cZ b h)[q]? = some (b + q, .inr (ci, fs.map (dp_cv b))) := dp_ws_at e1
  have hv : (fs.map (dp_cv b))[kf]? = some (dp_cv b v) := by rw [List.getElem?_map, e2]; rfl
  match f, hf, hl with
  | 0, _, hl => exact va_get (C := C) (T := T) (N := N) hx hb hts hin hown hK h2 q he hc kf hk (hts _ hl) (fun _ z => z) hv hd (kk H locs ls h2 h3 h4 h5)
  | 1, _, hl =>
    obtain ⟨host, hl⟩ := hl
    exact va_getN (C := C) (T := T) (N := N) hx hb hts hin hown hK h2 q he hc kf hk (dp_nw_use hl (hnw _ hl)) (fun _ z => z) hv hd (kk H locs ls h2 h3 h4 h5)
theorem dp_pf_G (E : dp_E M p s m args meth c D cI cZ) {x : Nat × Nat × Nat × Nat} (hF : dp_FL M.1 x) (hf : 2 ≤ x.2.2.2) (hf2 : x.2.2.2 < 4) {pc : Nat} (hd : decode M.2.2.1 pc = .ok (.putfield x.1, 3)) {L : List (Option dp_V)} {st : List dp_V} {h : dp_H} {S' : dp_S} (hh : dp_pf x.2.1 x.2.2.1 (pc, L, st, h) = some S')
    (kk : dp_G p l e R s m args below meth c D cI cZ b A M.2.2.2.1 Q k n S') : dp_G p l e R s m args below meth c D cI cZ b A M.2.2.2.1 Q k n (pc, L, st, h) := by
  obtain ⟨hx, hb, -, -, -, -, hown, hts, hnw, hK⟩ := E
  obtain ⟨⟨C, T, N⟩, hc, hk, ⟨hin, ⟨ty0, hty⟩, hnm⟩, hl⟩ := hF
  obtain ⟨y, q, r, fs, rfl, e1, e2, rfl⟩ := dp_pf_inv hh
  obtain ⟨idx, ci, kf, f⟩ := x
  dsimp only at hc hk hf hf2 hl hd e1 e2 kk hin hty hnm
  intro H locs ls h2 h3 h4 h5
  have he : (dp_ws cI cZ b h)[q]? = some (b + q, .inr (ci, fs.map (dp_cv b))) := dp_ws_at e1
  have hlen : kf < (fs.map (dp_cv b)).length := by rw [List.length_map]; exact e2
  have hw : (dp_ws cI cZ b h).set q (b + q, .inr (ci, (fs.map (dp_cv b)).set kf (.int y))) = dp_ws cI cZ b (h.set q (.inr (ci, fs.set kf (.inl y)))) := by
    rw [← dp_ws_set]
    simp only [dp_ce, List.map_set, dp_cv]
  have k2 : ∀ (H1 : Heap) (locs1 : List Loc), va_P D vwCl ((dp_ws cI cZ b h).set q (b + q, .inr (ci, (fs.map (dp_cv b)).set kf (.int y)))) H1 → va_D A ((dp_ws cI cZ b h).set q (b + q, .inr (ci, (fs.map (dp_cv b)).set kf (.int y)))) → va_S A s.heap H1 locs1 → W p l e R s m args below meth c H1 locs1 k n Q (F0 m (pc + 3) ls (r.map (dp_cv b))) := by
    intro H1 locs1 g1 g2 g3
    rw [hw] at g1 g2
    exact kk H1 locs1 ls g1 g2 g3 h5
  match f, hf, hf2, hl with
  | 2, _, _, hl =>
    obtain ⟨hl, hfin, hd1⟩ := hl
    exact va_put (C := C) (T := T) (N := N) hx hb hts hin ty0 hty hnm hown hK h2 h3 h4 q he hc kf hk (hts _ hl) (fun _ z => z) hfin hd1 (v := .int y) rfl rfl hlen hd k2
  | 3, _, _, hl =>
    obtain ⟨⟨host, hl⟩, hfin, hd1⟩ := hl
    exact va_putN (C := C) (T := T) (N := N) hx hb hts hin ty0 hty hnm hown hK h2 h3 h4 q he hc kf hk (dp_nw_use hl (hnw _ hl)) (fun _ z => z) hfin hd1 (v := .int y) rfl rfl hlen hd k2
theorem dp_pr_G (E : dp_E M p s m args meth c D cI cZ) (hin2 : M.2.1.name = "<init>") {idx ci kf : Nat} (hF : dp_FL M.1 (idx, ci, kf, 4)) {pc : Nat} (hd : decode M.2.2.1 pc = .ok (.putfield idx, 3)) {L : List (Option dp_V)} {st : List dp_V} {h : dp_H} {S' : dp_S} (hh : dp_pr ci kf (pc, L, st, h) = some S')
    (kk : dp_G p l e R s m args below meth c D cI cZ b A M.2.2.2.1 Q k n S') : dp_G p l e R s m args below meth c D cI cZ b A M.2.2.2.1 Q k n (pc, L, st, h) := by
  obtain ⟨hx, hb, -, -, -, hnam, hown, hts, hnw, hK⟩ := E
  obtain ⟨⟨C, T, N⟩, hc, hk, ⟨hin, ⟨ty0, hty⟩, hnm⟩, hl⟩ := hF
  obtain ⟨y, q, r, fs, rfl, e1, e2, rfl⟩ := dp_pr_inv hh
  dsimp only at hc hk hl hin hty hnm
  intro H locs ls h2 h3 h4 h5
  have he : (dp_ws cI cZ b h)[q]? = some (b + q, .inr (ci, fs.map (dp_cv b))) := dp_ws_at e1
  have hlen : kf < (fs.map (dp_cv b)).length := by rw [List.length_map]; exact e2
  have hw : (dp_ws cI cZ b h).set q (b + q, .inr (ci, (fs.map (dp_cv b)).set kf (.ref (b + y)))) = dp_ws cI cZ b (h.set q (.inr (ci, fs.set kf (.inr (some y))))) := by
    rw [← dp_ws_set]
    simp only [dp_ce, List.map_set, dp_cv]
  obtain ⟨hl, hfin, hdecl, ty, hd1, hrf⟩ := hl
  refine va_putF (C := C) (T := T) (N := N) hx hb hts hin ty0 hty hnm hown hK h2 h3 h4 q he hc kf hk (hts _ hl) (fun _ z => z) hfin (hnam.trans hin2) hdecl hd1 (v := .ref (b + y)) (hrf _).1 (hrf _).2 hlen hd ?_
  intro H1 locs1 g1 g2 g3
  rw [hw] at g1 g2
  exact kk H1 locs1 ls g1 g2 g3 h5
end DG
/-- the table's entries of one method, with what the program tested of them -/
def dp_X (M : dp_M) (pc : Nat) (x : dp_In) : Prop := decode M.2.2.1 pc = .ok (x.1, x.2.1) ∧ (dp_len x.1 = 0 ∨ x.2.1 = dp_len x.1) ∧ ∃ fl cs, dp_ck1 fl cs pc x = true ∧ (∀ x ∈ fl, dp_FL M.1 x ∧ (x.2.2.2 = 4 → M.2.1.name = "<init>")) ∧ ∀ x ∈ cs, Cond.constant M.1 x.1 x.2 ∈ dp_g
theorem dp_X_of {M : dp_M} (hM : dp_ok M) {pc : Nat} {x : dp_In} (h : M.2.2.2.2.2[pc]? = some (some x)) : dp_X M pc x := by
  obtain ⟨⟨fl, cs, hck, hfl, hcs⟩, -⟩ := hM
  have h1 := dp_ck_at _ 0 hck pc x h
  rw [Nat.zero_add] at h1
  exact ⟨h1.1, h1.2.2, fl, cs, h1.2.1, hfl, hcs⟩
theorem dp_lenE {i : Instr} {n k : Nat} (h : dp_len i = 0 ∨ n = dp_len i) (hk : dp_len i = k + 1) : n = k + 1 := by omega
section DS
variable {M : dp_M} {p : Program} {l : Launch} {e : Env} {R : Room} {s : State} {m : MethodId} {args : Array Value} {below : List Frame} {meth : Method} {c : Code} {D : va_G} {cI cZ : ClassId} {b : Nat} {A : Nat → Prop} {Q : State → Prop} {k n : Nat}
set_option maxHeartbeats 4000000 in
theorem dp_st_G (hM : dp_ok M) (E : dp_E M p s m args meth c D cI cZ) {S S' : dp_S} (h : dp_st M S = some S')
    (kk : dp_G p l e R s m args below meth c D cI cZ b A M.2.2.2.1 Q k n S') : dp_G p l e R s m args below meth c D cI cZ b A M.2.2.2.1 Q k n S := by
  obtain ⟨pc, L, st, hp⟩ := S
  unfold dp_st at h
  dsimp only at h
  split at h
  · rename_i i len a b' f v he
    obtain ⟨hd, hlen, fl, cs, hck, hfl, hcs⟩ := dp_X_of hM he
    dsimp only at hd hlen
    have E0 := E
    obtain ⟨hx, hb, hml, -, -, hnam, hown, hts, hnw, hK⟩ := E0
    unfold dp_op at h
    split at h
    · obtain rfl := dp_lenE hlen rfl
      obtain ⟨x, e1, rfl⟩ := dp_ild_inv h
      intro H locs ls h2 h3 h4 h5
      exact lv_iload hx hb hd (h5.at e1) (kk H locs ls h2 h3 h4 h5)
    · obtain rfl := dp_lenE hlen rfl
      obtain ⟨x, e1, rfl⟩ := dp_ild_inv h
      intro H locs ls h2 h3 h4 h5
      exact lv_iload_n hx hb hd rfl (h5.at e1) (kk H locs ls h2 h3 h4 h5)
    · obtain rfl := dp_lenE hlen rfl
      obtain ⟨x, e1, rfl⟩ := dp_ald_inv h
      intro H locs ls h2 h3 h4 h5
      exact lv_aload_n hx hb hd rfl (h5.at e1) (kk H locs ls h2 h3 h4 h5)
    · obtain rfl := dp_lenE hlen rfl
      rename_i nn
      have hv : Int32.ofInt nn = v := by simpa [dp_ck1] using hck
      cases h
      intro H locs ls h2 h3 h4 h5
      exact lv_iconst hx hb hd hv (kk H locs ls h2 h3 h4 h5)
    · obtain rfl := dp_lenE hlen rfl
      rename_i nn
      have hv : (Int8.ofInt nn).toInt32 = v := by simpa [dp_ck1] using hck
      cases h
      intro H locs ls h2 h3 h4 h5
      exact lv_bipush hx hb hd hv (kk H locs ls h2 h3 h4 h5)
    · obtain rfl := dp_lenE hlen rfl
      rename_i nn
      have hv : (nn, v) ∈ cs := by simpa [dp_ck1] using hck
      cases h
      intro H locs ls h2 h3 h4 h5
      exact lv_ldcw hx hb hown (hts _ (hcs _ hv)) hd (kk H locs ls h2 h3 h4 h5)
    · obtain rfl := dp_lenE hlen rfl
      obtain ⟨x, r, rfl, e1, rfl⟩ := dp_ist_inv h
      intro H locs ls h2 h3 h4 h5
      exact lv_istore hx hb hd h5.1 (by rw [← h5.2]; exact e1) rfl (fun ls' h' => kk H locs ls' h2 h3 h4 (h5.set (v := .inl x) h'))
    · obtain rfl := dp_lenE hlen rfl
      obtain ⟨x, r, rfl, e1, rfl⟩ := dp_ist_inv h
      intro H locs ls h2 h3 h4 h5
      exact lv_istore_n hx hb hd rfl h5.1 (by rw [← h5.2]; exact e1) rfl (fun ls' h' => kk H locs ls' h2 h3 h4 (h5.set (v := .inl x) h'))
    · obtain rfl := dp_lenE hlen rfl
      rename_i kx nn
      have hv : Int32.ofInt nn = v := by simpa [dp_ck1] using hck
      obtain ⟨x, e1, rfl⟩ := dp_inc_inv h
      intro H locs ls h2 h3 h4 h5
      obtain ⟨q, hq⟩ := List.getElem?_of_mem (dp_lv_mem.mpr ⟨kx, _, e1, rfl⟩ : (kx, dp_cv b (.inl x)) ∈ dp_lv b L)
      exact lv_iinc (v := x + v) hx hb hd h5.1 hq (by rw [hv]) (by rw [← h5.2]; exact (List.getElem?_eq_some_iff.mp e1).1) rfl (fun ls' h' => kk H locs ls' h2 h3 h4 (h5.set (v := .inl (x + v)) h'))
    · obtain rfl := dp_lenE hlen rfl
      obtain ⟨x, y, r, rfl, rfl⟩ := dp_bin_inv h
      exact fun H locs ls h2 h3 h4 h5 => lv_iadd hx hb hd (kk H locs ls h2 h3 h4 h5)
    · obtain rfl := dp_lenE hlen rfl
      obtain ⟨x, y, r, rfl, rfl⟩ := dp_bin_inv h
      exact fun H locs ls h2 h3 h4 h5 => lv_isub hx hb hd (kk H locs ls h2 h3 h4 h5)
    · obtain rfl := dp_lenE hlen rfl
      obtain ⟨x, y, r, rfl, rfl⟩ := dp_bin_inv h
      exact fun H locs ls h2 h3 h4 h5 => lv_imul hx hb hd (kk H locs ls h2 h3 h4 h5)
    · obtain rfl := dp_lenE hlen rfl
      obtain ⟨x, y, r, rfl, rfl⟩ := dp_bin_inv h
      exact fun H locs ls h2 h3 h4 h5 => lv_iand hx hb hd (kk H locs ls h2 h3 h4 h5)
    · obtain rfl := dp_lenE hlen rfl
      obtain ⟨x, y, r, rfl, rfl⟩ := dp_bin_inv h
      exact fun H locs ls h2 h3 h4 h5 => lv_ior hx hb hd (kk H locs ls h2 h3 h4 h5)
    · obtain rfl := dp_lenE hlen rfl
      obtain ⟨x, y, r, rfl, rfl⟩ := dp_bin_inv h
      exact fun H locs ls h2 h3 h4 h5 => lv_ixor hx hb hd (kk H locs ls h2 h3 h4 h5)
    · obtain rfl := dp_lenE hlen rfl
      obtain ⟨x, y, r, rfl, rfl⟩ := dp_bin_inv h
      exact fun H locs ls h2 h3 h4 h5 => lv_ishl hx hb hd (kk H locs ls h2 h3 h4 h5)
    · obtain rfl := dp_lenE hlen rfl
      obtain ⟨x, y, r, rfl, rfl⟩ := dp_bin_inv h
      exact fun H locs ls h2 h3 h4 h5 => lv_ishr hx hb hd (kk H locs ls h2 h3 h4 h5)
    · obtain rfl := dp_lenE hlen rfl
      obtain ⟨x, y, r, rfl, rfl⟩ := dp_bin_inv h
      exact fun H locs ls h2 h3 h4 h5 => lv_iushr hx hb hd rfl (kk H locs ls h2 h3 h4 h5)
    · obtain rfl := dp_lenE hlen rfl
      unfold dp_neg at h
      split at h
      · rename_i e0
        cases e0
        cases h
        exact fun H locs ls h2 h3 h4 h5 => lv_ineg hx hb hd (kk H locs ls h2 h3 h4 h5)
      · cases h
    · obtain rfl := dp_lenE hlen rfl
      unfold dp_dup at h
      split at h
      · rename_i e0
        cases e0
        cases h
        exact fun H locs ls h2 h3 h4 h5 => lv_dup hx hb hd (dp_cat _ _) (kk H locs ls h2 h3 h4 h5)
      · cases h
    · obtain rfl := dp_lenE hlen rfl
      unfold dp_dup2 at h
      split at h
      · rename_i e0
        cases e0
        cases h
        exact fun H locs ls h2 h3 h4 h5 => lv_dup2_11 hx hb hd (dp_cat _ _) (dp_cat _ _) (kk H locs ls h2 h3 h4 h5)
      · cases h
    · obtain rfl := dp_lenE hlen rfl
      rename_i nn
      have ht : (pc : Int) + nn = (a : Int) := by simpa [dp_ck1] using hck
      cases h
      exact fun H locs ls h2 h3 h4 h5 => lv_goto hx hb hd ht (kk H locs ls h2 h3 h4 h5)
    · obtain rfl := dp_lenE hlen rfl
      rename_i nn
      have hv : f < 2 ∧ (nn, a, b', f) ∈ fl := by simpa [dp_ck1] using hck
      exact dp_gf_G (x := (nn, a, b', f)) E (hfl _ hv.2).1 hv.1 hd h kk
    · obtain rfl := dp_lenE hlen rfl
      rename_i nn
      have hv : (2 ≤ f ∧ f ≤ 4) ∧ (nn, a, b', f) ∈ fl := by simpa [dp_ck1] using hck
      split at h
      · rename_i e4
        subst e4
        exact dp_pr_G E ((hfl _ hv.2).2 rfl) (hfl _ hv.2).1 hd h kk
      · rename_i e4
        exact dp_pf_G (x := (nn, a, b', f)) E (hfl _ hv.2).1 hv.1.1 (by show f < 4; omega) hd h kk
    · cases h
  · cases h
theorem dp_sts_G (hM : dp_ok M) (E : dp_E M p s m args meth c D cI cZ) : ∀ (j : Nat) {S S' : dp_S} (_ : dp_sts M j S = some S')
    (_ : dp_G p l e R s m args below meth c D cI cZ b A M.2.2.2.1 Q k n S'), dp_G p l e R s m args below meth c D cI cZ b A M.2.2.2.1 Q k n S
  | 0, S, S', h, kk => by cases h; exact kk
  | j + 1, S, S', h, kk => by
    unfold dp_sts at h
    split at h
    · rename_i S1 e1
      exact dp_st_G hM E e1 (dp_sts_G hM E j h kk)
    · cases h
end DS
end
section
/-! ===== 05: contracts of the deep machine, and its rules ===== -/
def dp_room (d mc ms : Nat) : Room := { frames := d, cells := mc, slots := ms, locals := 40 * d }
def dp_Q (D : va_G) (cI cZ : ClassId) (b : Nat) (h : dp_H) (sz : Nat) (post : Option dp_V → dp_H → Prop) : Array Value → State → Outcome → State → Prop := fun _ st o t =>
  (∃ (r : Option dp_V) (h' : dp_H), o = .returned (r.map (dp_cv b)) ∧ post r h' ∧ va_P D vwCl (dp_ws cI cZ b h') t.heap ∧ va_D (va_A (dp_ws cI cZ b h) sz) (dp_ws cI cZ b h')) ∧ va_F (va_A (dp_ws cI cZ b h) sz) st t
def dp_w (M : dp_M) : List Cond := .code M.2.1 M.2.2.1 M.2.2.2.1 M.2.2.2.2.1 :: dp_g
def dp_Pc (D : va_G) (cI cZ : ClassId) (b sz : Nat) (al : Bool) (as : List dp_V) (h : dp_H) : Array Value → State → Prop := va_Pc (as.map (dp_cv b)) (fun U => U.heap.size = sz ∧ (al = true → sz = b + h.length) ∧ va_P D vwCl (dp_ws cI cZ b h) U.heap ∧ va_K D vwCl [(cI, .int), (cZ, .boolean)] U ∧ ∀ w ∈ dp_nw, va_Nw w U)
def dp_C (d : Nat) (M : dp_M) (al : Bool) (as : List dp_V) (h : dp_H) (mc ms : Nat) (post : Option dp_V → dp_H → Prop) : Prop :=
  ∀ (l : Launch) (D : va_G) (cI cZ : ClassId) (b sz : Nat), Met l M.2.1 (dp_w M) (dp_room d mc ms) (dp_Pc D cI cZ b sz al as h) (dp_Q D cI cZ b h sz post) mc ms (va_A (dp_ws cI cZ b h) sz)
def dp_W (d : Nat) (M : dp_M) (al : Bool) (h0 : dp_H) (mc ms : Nat) (post : Option dp_V → dp_H → Prop) (k n : Nat) (S : dp_S) : Prop :=
  ∀ (p : Program) (l : Launch) (e : Env) (s : State) (m : MethodId) (args : Array Value) (below : List Frame) (meth : Method) (c : Code) (D : va_G) (cI cZ : ClassId) (b : Nat), dp_E M p s m args meth c D cI cZ → (al = true → s.heap.size = b + h0.length) →
    dp_G p l e (dp_room d mc ms) s m args below meth c D cI cZ b (va_A (dp_ws cI cZ b h0) s.heap.size) M.2.2.2.1 (MQ below (dp_Q D cI cZ b h0 s.heap.size post) args s mc ms (va_A (dp_ws cI cZ b h0) s.heap.size)) k n S
theorem dp_blind {D : va_G} {cI cZ : ClassId} {b sz : Nat} {al : Bool} {as : List dp_V} {h : dp_H} : FrameBlind (dp_Pc D cI cZ b sz al as h) := by
  intro a U g mk q
  obtain ⟨q0, q1, q2, q3, q4, q5⟩ := q
  exact ⟨q0, q1, q2, q3, va_K.moved (u := U) (U := U.calling g mk a) (Vm.Alike.refl U.vm) q4, fun w hw => dp_nw_same (u := U) (U := U.calling g mk a) hw rfl (q5 w hw)⟩
theorem dp_args_mem {b : Nat} : ∀ (as : List dp_V) (i0 i : Nat) (v : dp_V), as[i]? = some v → (i0 + i, dp_cv b v) ∈ lv_args i0 (as.map (dp_cv b))
  | [], _, i, v, h => by simp at h
  | a :: as, i0, 0, v, h => by
    cases h
    exact List.mem_cons_self
  | a :: as, i0, i + 1, v, h => by
    rw [List.getElem?_cons_succ] at h
    have := dp_args_mem (b := b) as (i0 + 1) i v h
    rw [show i0 + (i + 1) = i0 + 1 + i by omega]
    show _ ∈ (i0, dp_cv b a) :: lv_args (if (dp_cv b a).category = 2 then i0 + 2 else i0 + 1) (as.map (dp_cv b))
    rw [dp_cat, if_neg (by decide)]
    exact List.mem_cons_of_mem _ this
theorem dp_sl_len {b : Nat} : ∀ (as : List dp_V), (lg_sl (as.map (dp_cv b))).length = as.length
  | [] => rfl
  | a :: as => by
    show (lg_sl (dp_cv b a :: as.map (dp_cv b))).length = _
    have := dp_sl_len (b := b) as
    unfold lg_sl at this ⊢
    rw [List.flatMap_cons, dp_cat, if_neg (by decide), List.length_append, this]
    simp [Nat.add_comm]
/-- a method's contract out of the walk of its body -/
theorem dp_C_of {d : Nat} {M : dp_M} (hM : dp_ok M) {al : Bool} {as : List dp_V} {h : dp_H} {mc ms : Nat} {post : Option dp_V → dp_H → Prop} (L : List (Option dp_V)) (hL : L = as.map some ++ List.replicate (M.2.2.2.1 - as.length) none) (hn : as.length ≤ M.2.2.2.1)
    (kk : dp_W d M al h mc ms post 0 0 (0, L, [], h)) : dp_C d M al as h mc ms post := by
  subst hL
  intro l D cI cZ b sz
  have hM0 := hM
  obtain ⟨-, hcls, -, hpl, -⟩ := hM0
  refine Met.ofW (cc := M.2.2.1) (maxL := M.2.2.2.1) (ret := M.2.2.2.2.1) (by rw [hcls]; exact hpl) rfl ?_
  intro p e s m args below meth c s₁ B hml hv
  obtain ⟨rfl, rfl, hal, hP, hK, hnw⟩ := hv
  have hts := atoms_spec (ws := dp_w M) B.pre
  have hown : s.vm.findClass M.1 = some m.cls := hcls ▸ findClass_of_methodNamed B.named
  have E : dp_E M p s m ((as.map (dp_cv b)).toArray) meth c D cI cZ := ⟨B.exec, B.bytes, hml, B.returns, B.notSynchronized, (name_of_methodNamed B.named B.method).1, hown, fun w hw => hts w (List.mem_cons_of_mem _ hw), hnw, hK⟩
  have hl := lv_entry (as.map (dp_cv b)) (n := M.2.2.2.1) (by rw [dp_sl_len]; exact hn)
  rw [lg_entry_eq]
  generalize (lg_sl (as.map (dp_cv b)) ++ List.replicate (M.2.2.2.1 - (lg_sl (as.map (dp_cv b))).length) Slot.unset).toArray = ls at hl ⊢
  refine kk p l e s m _ below meth c D cI cZ b E hal s.heap [] ls hP dp_D0 va_S.rf ⟨⟨hl.1, hl.2.1, fun q hq => ?_⟩, by simp; omega⟩
  obtain ⟨i, v, hi, rfl⟩ := dp_lv_mem.mp hq
  have hi2 : as[i]? = some v := by
    by_cases z : i < as.length
    · rw [List.getElem?_append_left (by simpa using z), List.getElem?_map] at hi
      cases h3 : as[i]? with
      | none => rw [h3] at hi; cases hi
      | some w => rw [h3] at hi; cases hi; rfl
    · rw [List.getElem?_append_right (by simpa using z)] at hi
      rw [List.getElem?_replicate] at hi
      split at hi
      · cases hi
      · cases hi
  have := dp_args_mem (b := b) as 0 i v hi2
  rw [Nat.zero_add] at this
  exact hl.2.2 _ this
section DR
variable {d : Nat} {M : dp_M} {al : Bool} {h0 : dp_H} {mc ms : Nat} {post : Option dp_V → dp_H → Prop} {k n : Nat} {pc : Nat} {L : List (Option dp_V)} {st : List dp_V} {h : dp_H}
theorem dp_blk (hM : dp_ok M) (j : Nat) {S S' : dp_S} (hh : dp_sts M j S = some S') (kk : dp_W d M al h0 mc ms post k n S') : dp_W d M al h0 mc ms post k n S := by
  intro p l e s m args below meth c D cI cZ b E ha
  exact dp_sts_G hM E j hh (kk p l e s m args below meth c D cI cZ b E ha)
def dp_cmp (op : ClassFile.Cond) (x y : Int32) : Prop := match op with
  | .eq => x = y
  | .ne => ¬ x = y
  | .lt => x < y
  | .ge => y ≤ x
  | .gt => y < x
  | .le => x ≤ y
def dp_ncmp (op : ClassFile.Cond) (x y : Int32) : Prop := match op with
  | .eq => ¬ x = y
  | .ne => x = y
  | .lt => ¬ x < y
  | .ge => ¬ y ≤ x
  | .gt => ¬ y < x
  | .le => ¬ x ≤ y
theorem dp_if (hM : dp_ok M) {op : ClassFile.Cond} {off : Int} {len a b' f : Nat} {v x y : Int32} (ht : M.2.2.2.2.2[pc]? = some (some (.if_icmp op off, len, a, b', f, v)))
    (kt : dp_cmp op x y → dp_W d M al h0 mc ms post k n (a, L, st, h)) (kf : dp_ncmp op x y → dp_W d M al h0 mc ms post k n (pc + 3, L, st, h)) : dp_W d M al h0 mc ms post k n (pc, L, .inl y :: .inl x :: st, h) := by
  obtain ⟨hd, hlen, fl, cs, hck, -, -⟩ := dp_X_of hM ht
  dsimp only at hd hlen
  obtain rfl := dp_lenE hlen rfl
  have hz : (pc : Int) + off = (a : Int) := by simpa [dp_ck1] using hck
  intro p l e s m args below meth c D cI cZ b E ha H locs ls h2 h3 h4 h5
  have hx := E.1
  have hb := E.2.1
  cases op
  · exact lv_icmp_eq hx hb hd hz (fun c1 => kt c1 p l e s m args below meth c D cI cZ b E ha H locs ls h2 h3 h4 h5) (fun c1 => kf c1 p l e s m args below meth c D cI cZ b E ha H locs ls h2 h3 h4 h5)
  · exact lv_icmp_ne hx hb hd hz (fun c1 => kt c1 p l e s m args below meth c D cI cZ b E ha H locs ls h2 h3 h4 h5) (fun c1 => kf c1 p l e s m args below meth c D cI cZ b E ha H locs ls h2 h3 h4 h5)
  · exact lv_icmp_lt hx hb hd hz (fun c1 => kt c1 p l e s m args below meth c D cI cZ b E ha H locs ls h2 h3 h4 h5) (fun c1 => kf c1 p l e s m args below meth c D cI cZ b E ha H locs ls h2 h3 h4 h5)
  · exact lv_icmp_ge hx hb hd hz (fun c1 => kt c1 p l e s m args below meth c D cI cZ b E ha H locs ls h2 h3 h4 h5) (fun c1 => kf c1 p l e s m args below meth c D cI cZ b E ha H locs ls h2 h3 h4 h5)
  · exact lv_icmp_gt hx hb hd hz (fun c1 => kt c1 p l e s m args below meth c D cI cZ b E ha H locs ls h2 h3 h4 h5) (fun c1 => kf c1 p l e s m args below meth c D cI cZ b E ha H locs ls h2 h3 h4 h5)
  · exact lv_icmp_le hx hb hd hz (fun c1 => kt c1 p l e s m args below meth c D cI cZ b E ha H locs ls h2 h3 h4 h5) (fun c1 => kf c1 p l e s m args below meth c D cI cZ b E ha H locs ls h2 h3 h4 h5)
theorem dp_if0 (hM : dp_ok M) {op : ClassFile.Cond} {off : Int} {len a b' f : Nat} {v x : Int32} (ht : M.2.2.2.2.2[pc]? = some (some (.ifCond op off, len, a, b', f, v)))
    (kt : dp_cmp op x 0 → dp_W d M al h0 mc ms post k n (a, L, st, h)) (kf : dp_ncmp op x 0 → dp_W d M al h0 mc ms post k n (pc + 3, L, st, h)) : dp_W d M al h0 mc ms post k n (pc, L, .inl x :: st, h) := by
  obtain ⟨hd, hlen, fl, cs, hck, -, -⟩ := dp_X_of hM ht
  dsimp only at hd hlen
  obtain rfl := dp_lenE hlen rfl
  have hz : (pc : Int) + off = (a : Int) := by simpa [dp_ck1] using hck
  intro p l e s m args below meth c D cI cZ b E ha H locs ls h2 h3 h4 h5
  have hx := E.1
  have hb := E.2.1
  cases op
  · exact lv_if_eq hx hb hd hz (fun c1 => kt c1 p l e s m args below meth c D cI cZ b E ha H locs ls h2 h3 h4 h5) (fun c1 => kf c1 p l e s m args below meth c D cI cZ b E ha H locs ls h2 h3 h4 h5)
  · exact lv_if_ne hx hb hd hz (fun c1 => kt c1 p l e s m args below meth c D cI cZ b E ha H locs ls h2 h3 h4 h5) (fun c1 => kf c1 p l e s m args below meth c D cI cZ b E ha H locs ls h2 h3 h4 h5)
  · exact lv_if_lt hx hb hd hz (fun c1 => kt c1 p l e s m args below meth c D cI cZ b E ha H locs ls h2 h3 h4 h5) (fun c1 => kf c1 p l e s m args below meth c D cI cZ b E ha H locs ls h2 h3 h4 h5)
  · exact lv_if_ge hx hb hd hz (fun c1 => kt c1 p l e s m args below meth c D cI cZ b E ha H locs ls h2 h3 h4 h5) (fun c1 => kf c1 p l e s m args below meth c D cI cZ b E ha H locs ls h2 h3 h4 h5)
  · exact lv_if_gt hx hb hd hz (fun c1 => kt c1 p l e s m args below meth c D cI cZ b E ha H locs ls h2 h3 h4 h5) (fun c1 => kf c1 p l e s m args below meth c D cI cZ b E ha H locs ls h2 h3 h4 h5)
  · exact lv_if_le hx hb hd hz (fun c1 => kt c1 p l e s m args below meth c D cI cZ b E ha H locs ls h2 h3 h4 h5) (fun c1 => kf c1 p l e s m args below meth c D cI cZ b E ha H locs ls h2 h3 h4 h5)
theorem dp_swI (hM : dp_ok M) {dflt lo hi : Int} {offs : Array Int} {len a b' f : Nat} {v x : Int32} (ht : M.2.2.2.2.2[pc]? = some (some (.tableswitch dflt lo hi offs, len, a, b', f, v))) {off : Int} {tgt : Nat}
    (hj : ¬ x.toInt < lo ∧ ¬ hi < x.toInt ∧ offs[(x.toInt - lo).toNat]? = some off ∧ (pc : Int) + off = (tgt : Int)) (kk : dp_W d M al h0 mc ms post k n (tgt, L, st, h)) : dp_W d M al h0 mc ms post k n (pc, L, .inl x :: st, h) := by
  have hd := (dp_X_of hM ht).1
  intro p l e s m args below meth c D cI cZ b E ha H locs ls h2 h3 h4 h5
  exact lv_tableIn E.1 E.2.1 hd hj.1 hj.2.1 hj.2.2.1 hj.2.2.2 (kk p l e s m args below meth c D cI cZ b E ha H locs ls h2 h3 h4 h5)
theorem dp_swO (hM : dp_ok M) {dflt lo hi : Int} {offs : Array Int} {len a b' f : Nat} {v x : Int32} (ht : M.2.2.2.2.2[pc]? = some (some (.tableswitch dflt lo hi offs, len, a, b', f, v))) {tgt : Nat}
    (hj : x.toInt < lo ∨ hi < x.toInt) (hz : (pc : Int) + dflt = (tgt : Int)) (kk : dp_W d M al h0 mc ms post k n (tgt, L, st, h)) : dp_W d M al h0 mc ms post k n (pc, L, .inl x :: st, h) := by
  have hd := (dp_X_of hM ht).1
  intro p l e s m args below meth c D cI cZ b E ha H locs ls h2 h3 h4 h5
  exact lv_tableOut E.1 E.2.1 hd hj hz (kk p l e s m args below meth c D cI cZ b E ha H locs ls h2 h3 h4 h5)
theorem dp_out {x : Int32} (N : Nat) (hN : N < 2 ^ 31) (hx : ∀ j, j ≤ N → ¬ x = nI j) : x.toInt < 0 ∨ (N : Int) < x.toInt := by
  rcases Int.lt_or_le x.toInt 0 with q | q
  · exact Or.inl q
  · rcases Int.lt_or_le (N : Int) x.toInt with z | z
    · exact Or.inr z
    · refine absurd ?_ (hx x.toInt.toNat (by omega))
      rw [Int32.toInt_inj.symm, nI_toInt (by omega)]
      omega
theorem dp_idiv (hM : dp_ok M) {len a b' f : Nat} {v x y : Int32} (ht : M.2.2.2.2.2[pc]? = some (some (.idiv, len, a, b', f, v))) (hy : ¬ y = 0)
    (kk : dp_W d M al h0 mc ms post k n (pc + 1, L, .inl (x / y) :: st, h)) : dp_W d M al h0 mc ms post k n (pc, L, .inl y :: .inl x :: st, h) := by
  obtain ⟨hd, hlen, -⟩ := dp_X_of hM ht
  dsimp only at hd hlen
  obtain rfl := dp_lenE hlen rfl
  intro p l e s m args below meth c D cI cZ b E ha H locs ls h2 h3 h4 h5
  exact lv_idiv E.1 E.2.1 hd hy (kk p l e s m args below meth c D cI cZ b E ha H locs ls h2 h3 h4 h5)
theorem dp_irem (hM : dp_ok M) {len a b' f : Nat} {v x y : Int32} (ht : M.2.2.2.2.2[pc]? = some (some (.irem, len, a, b', f, v))) (hy : ¬ y = 0)
    (kk : dp_W d M al h0 mc ms post k n (pc + 1, L, .inl (x - x / y * y) :: st, h)) : dp_W d M al h0 mc ms post k n (pc, L, .inl y :: .inl x :: st, h) := by
  obtain ⟨hd, hlen, -⟩ := dp_X_of hM ht
  dsimp only at hd hlen
  obtain rfl := dp_lenE hlen rfl
  intro p l e s m args below meth c D cI cZ b E ha H locs ls h2 h3 h4 h5
  exact lv_irem E.1 E.2.1 hd hy (kk p l e s m args below meth c D cI cZ b E ha H locs ls h2 h3 h4 h5)
theorem dp_ial (hM : dp_ok M) {len a b' f q N : Nat} {v i : Int32} {g : Nat → Int32} (ht : M.2.2.2.2.2[pc]? = some (some (.iaload, len, a, b', f, v))) (hq : h[q]? = some (.inl (false, N, g))) (hi : vp_in i N)
    (kk : dp_W d M al h0 mc ms post k n (pc + 1, L, .inl (g i.toNatClampNeg) :: st, h)) : dp_W d M al h0 mc ms post k n (pc, L, .inl i :: .inr (some q) :: st, h) := by
  obtain ⟨hd, hlen, -⟩ := dp_X_of hM ht
  dsimp only at hd hlen
  obtain rfl := dp_lenE hlen rfl
  intro p l e s m args below meth c D cI cZ b E ha H locs ls h2 h3 h4 h5
  have he : (dp_ws cI cZ b h)[q]? = some (b + q, .inl (cI, N, .inl g)) := dp_ws_at hq
  exact va_iald E.1 E.2.1 E.2.2.2.2.2.2.2.2.2 h2 q 0 he rfl hi hd (kk p l e s m args below meth c D cI cZ b E ha H locs ls h2 h3 h4 h5)
theorem dp_bal (hM : dp_ok M) {len a b' f q N : Nat} {v i : Int32} {g : Nat → Int32} (ht : M.2.2.2.2.2[pc]? = some (some (.baload, len, a, b', f, v))) (hq : h[q]? = some (.inl (true, N, g))) (hi : vp_in i N)
    (kk : dp_W d M al h0 mc ms post k n (pc + 1, L, .inl (g i.toNatClampNeg) :: st, h)) : dp_W d M al h0 mc ms post k n (pc, L, .inl i :: .inr (some q) :: st, h) := by
  obtain ⟨hd, hlen, -⟩ := dp_X_of hM ht
  dsimp only at hd hlen
  obtain rfl := dp_lenE hlen rfl
  intro p l e s m args below meth c D cI cZ b E ha H locs ls h2 h3 h4 h5
  have he : (dp_ws cI cZ b h)[q]? = some (b + q, .inl (cZ, N, .inl g)) := dp_ws_at hq
  exact va_zald E.1 E.2.1 E.2.2.2.2.2.2.2.2.2 h2 q 1 he rfl hi hd (kk p l e s m args below meth c D cI cZ b E ha H locs ls h2 h3 h4 h5)
theorem dp_ias (hM : dp_ok M) {len a b' f q N : Nat} {v i x : Int32} {g : Nat → Int32} (ht : M.2.2.2.2.2[pc]? = some (some (.iastore, len, a, b', f, v))) (hq : h[q]? = some (.inl (false, N, g))) (hi : vp_in i N)
    (kk : dp_W d M al h0 mc ms post k n (pc + 1, L, st, h.set q (.inl (false, N, upd g i.toNatClampNeg x)))) : dp_W d M al h0 mc ms post k n (pc, L, .inl x :: .inl i :: .inr (some q) :: st, h) := by
  obtain ⟨hd, hlen, -⟩ := dp_X_of hM ht
  dsimp only at hd hlen
  obtain rfl := dp_lenE hlen rfl
  intro p l e s m args below meth c D cI cZ b E ha H locs ls h2 h3 h4 h5
  have he : (dp_ws cI cZ b h)[q]? = some (b + q, .inl (cI, N, .inl g)) := dp_ws_at hq
  have hw : (dp_ws cI cZ b h).set q (b + q, .inl (cI, N, .inl (upd g i.toNatClampNeg x))) = dp_ws cI cZ b (h.set q (.inl (false, N, upd g i.toNatClampNeg x))) := dp_ws_set q (.inl (false, N, upd g i.toNatClampNeg x))
  refine va_iast E.1 E.2.1 E.2.2.2.2.2.2.2.2.2 h2 h3 h4 q 0 he rfl hi hd (fun H1 locs1 g1 g2 g3 => ?_)
  rw [hw] at g1 g2
  exact kk p l e s m args below meth c D cI cZ b E ha H1 locs1 ls g1 g2 g3 h5
theorem dp_bas (hM : dp_ok M) {len a b' f q N : Nat} {v i x : Int32} {g : Nat → Int32} (ht : M.2.2.2.2.2[pc]? = some (some (.bastore, len, a, b', f, v))) (hq : h[q]? = some (.inl (true, N, g))) (hi : vp_in i N)
    (kk : dp_W d M al h0 mc ms post k n (pc + 1, L, st, h.set q (.inl (true, N, upd g i.toNatClampNeg (x &&& 1))))) : dp_W d M al h0 mc ms post k n (pc, L, .inl x :: .inl i :: .inr (some q) :: st, h) := by
  obtain ⟨hd, hlen, -⟩ := dp_X_of hM ht
  dsimp only at hd hlen
  obtain rfl := dp_lenE hlen rfl
  intro p l e s m args below meth c D cI cZ b E ha H locs ls h2 h3 h4 h5
  have he : (dp_ws cI cZ b h)[q]? = some (b + q, .inl (cZ, N, .inl g)) := dp_ws_at hq
  have hw : (dp_ws cI cZ b h).set q (b + q, .inl (cZ, N, .inl (upd g i.toNatClampNeg (vp_nar .boolean x)))) = dp_ws cI cZ b (h.set q (.inl (true, N, upd g i.toNatClampNeg (x &&& 1)))) := dp_ws_set q (.inl (true, N, upd g i.toNatClampNeg (x &&& 1)))
  refine va_zast E.1 E.2.1 E.2.2.2.2.2.2.2.2.2 h2 h3 h4 q 1 he rfl hi hd (fun H1 locs1 g1 g2 g3 => ?_)
  rw [hw] at g1 g2
  exact kk p l e s m args below meth c D cI cZ b E ha H1 locs1 ls g1 g2 g3 h5
theorem dp_aln (hM : dp_ok M) {len a b' f q N : Nat} {v : Int32} {g : Nat → Int32} (ht : M.2.2.2.2.2[pc]? = some (some (.arraylength, len, a, b', f, v))) (hq : h[q]? = some (.inl (false, N, g)))
    (kk : dp_W d M al h0 mc ms post k n (pc + 1, L, .inl (Int32.ofNat N) :: st, h)) : dp_W d M al h0 mc ms post k n (pc, L, .inr (some q) :: st, h) := by
  obtain ⟨hd, hlen, -⟩ := dp_X_of hM ht
  dsimp only at hd hlen
  obtain rfl := dp_lenE hlen rfl
  intro p l e s m args below meth c D cI cZ b E ha H locs ls h2 h3 h4 h5
  have he : (dp_ws cI cZ b h)[q]? = some (b + q, .inl (cI, N, .inl g)) := dp_ws_at hq
  exact va_alen E.1 E.2.1 E.2.2.2.2.2.2.2.2.2 h2 q 0 he rfl rfl hd (kk p l e s m args below meth c D cI cZ b E ha H locs ls h2 h3 h4 h5)
theorem dp_iret (hM : dp_ok M) {len a b' f : Nat} {v x : Int32} (ht : M.2.2.2.2.2[pc]? = some (some (.ireturn, len, a, b', f, v))) (hr : M.2.2.2.2.1 = some .int) (hp : post (some (.inl x)) h) : dp_W d M al h0 mc ms post mc ms (pc, L, [.inl x], h) := by
  obtain ⟨hd, hlen, -⟩ := dp_X_of hM ht
  dsimp only at hd hlen
  obtain rfl := dp_lenE hlen rfl
  intro p l e s m args below meth c D cI cZ b E ha H locs ls h2 h3 h4 h5
  obtain ⟨hx, hb, -, hrt, hlk, -⟩ := E
  exact W.iret hx hb (hrt.trans hr) (fun t ht hW => ⟨⟨some (.inl x), h, rfl, hp, by rw [ht]; exact h2, h3⟩, h4.F ht⟩) h4.2.2 hd hlk
theorem dp_zret (hM : dp_ok M) {len a b' f : Nat} {v x : Int32} (ht : M.2.2.2.2.2[pc]? = some (some (.ireturn, len, a, b', f, v))) (hr : M.2.2.2.2.1 = some .boolean) (hz : x &&& 1 = x) (hp : post (some (.inl x)) h) : dp_W d M al h0 mc ms post mc ms (pc, L, [.inl x], h) := by
  obtain ⟨hd, hlen, -⟩ := dp_X_of hM ht
  dsimp only at hd hlen
  obtain rfl := dp_lenE hlen rfl
  intro p l e s m args below meth c D cI cZ b E ha H locs ls h2 h3 h4 h5
  obtain ⟨hx, hb, -, hrt, hlk, -⟩ := E
  exact W.zret hx hb (hrt.trans hr) (by show Value.int (x &&& 1) = _; rw [hz]) (fun t ht hW => ⟨⟨some (.inl x), h, rfl, hp, by rw [ht]; exact h2, h3⟩, h4.F ht⟩) h4.2.2 hd hlk
theorem dp_vret (hM : dp_ok M) {len a b' f : Nat} {v : Int32} (ht : M.2.2.2.2.2[pc]? = some (some (.return_, len, a, b', f, v))) (hr : M.2.2.2.2.1 = none) (hp : post none h) : dp_W d M al h0 mc ms post mc ms (pc, L, [], h) := by
  obtain ⟨hd, hlen, -⟩ := dp_X_of hM ht
  dsimp only at hd hlen
  obtain rfl := dp_lenE hlen rfl
  intro p l e s m args below meth c D cI cZ b E ha H locs ls h2 h3 h4 h5
  obtain ⟨hx, hb, -, hrt, hlk, -⟩ := E
  exact W.vret hx hb (hrt.trans hr) (fun t ht hW => ⟨⟨none, h, rfl, hp, by rw [ht]; exact h2, h3⟩, h4.F ht⟩) h4.2.2 hd hlk
end DR
end
section
/-! ===== 06: calls, and the making of cells ===== -/
/-- the links of a call: by a class's own or public name (V, S, I), by a nest mate's (VN, SN, IN) -/
def dp_Lv (own : String) (idx : Nat) (y : MethodName) : Prop := Cond.methodLink own idx y ∈ dp_g ∧ Cond.instanceMethod y ∈ dp_g ∧ Cond.selects y.cls y y ∈ dp_g ∧ Cond.initialized y.cls ∈ dp_g
def dp_Lvn (own : String) (idx : Nat) (y : MethodName) : Prop := (∃ host, Cond.methodLinkNest own idx y host ∈ dp_nw) ∧ Cond.instanceMethod y ∈ dp_g ∧ Cond.selects y.cls y y ∈ dp_g ∧ Cond.initialized y.cls ∈ dp_g
def dp_Ls (own : String) (idx : Nat) (y : MethodName) : Prop := Cond.methodLink own idx y ∈ dp_g ∧ Cond.static y ∈ dp_g ∧ Cond.initialized y.cls ∈ dp_g
def dp_Lsn (own : String) (idx : Nat) (y : MethodName) : Prop := (∃ host, Cond.methodLinkNest own idx y host ∈ dp_nw) ∧ Cond.static y ∈ dp_g ∧ Cond.initialized y.cls ∈ dp_g
def dp_Li (own : String) (idx : Nat) (y : MethodName) : Prop := Cond.methodLink own idx y ∈ dp_g ∧ Cond.instanceMethod y ∈ dp_g ∧ Cond.initialized y.cls ∈ dp_g ∧ y.name = "<init>"
def dp_Lin (own : String) (idx : Nat) (y : MethodName) : Prop := (∃ host, Cond.methodLinkNest own idx y host ∈ dp_nw) ∧ Cond.instanceMethod y ∈ dp_g ∧ Cond.initialized y.cls ∈ dp_g ∧ y.name = "<init>"
/-- how many parameters -/
def dp_np (y : MethodName) (n : Nat) : Prop := (parseMethodDescriptor y.desc).map (fun d => d.parameters.length) = some n
theorem dp_good {M : dp_M} (hM : dp_ok M) : GoodIn dp_g (dp_w M) := by
  intro w hw
  have hg : w ∈ dp_g := (List.mem_cons.mp hw).elim (fun e => e ▸ hM.2.2.1) id
  exact ⟨hg, good_of_word (List.mem_filter.mp hg).2⟩
theorem dp_catsum {b : Nat} : ∀ (r : List dp_V), ((r.map (dp_cv b)).map fun v => v.category).sum = r.length
  | [] => rfl
  | v :: r => by
    have := dp_catsum (b := b) r
    simp only [List.map_cons, List.sum_cons, List.length_cons, dp_cat, this]
    omega
section DQ
variable {M N : dp_M} {p : Program} {l : Launch} {e : Env} {R : Room} {s : State} {m : MethodId} {args : Array Value} {below : List Frame} {meth : Method} {c : Code} {D : va_G} {cI cZ : ClassId} {b : Nat} {A : Nat → Prop} {Q : State → Prop} {k n mc ms : Nat} {H : Heap} {locs : List Loc} {h : dp_H} {ls : Array Slot}
theorem dp_size {g : JFrame} (hP : va_P D vwCl (dp_ws cI cZ b h) H) (h0 : 0 < h.length) (hlen : s.heap.size + k = b + h.length) (kk : H.size = b + h.length → W p l e R s m args below meth c H locs k n Q g) : W p l e R s m args below meth c H locs k n Q g := by
  intro T hT X
  refine kk ?_ T hT X
  have h1 : T.heap.size ≤ s.heap.size + k := X.same.2.2.1
  rw [hT] at h1
  have h2 : h[h.length - 1]? = some h[h.length - 1] := List.getElem?_eq_getElem (by omega)
  have h3 : b + (h.length - 1) < H.size := (hP _ _ (dp_ws_at h2)).lt
  omega
/-- behind a call -/
theorem dp_after {post : Option dp_V → dp_H → Prop} {pc : Nat} {st0 : List Value} {r : List dp_V} {a : Array Value} {nL : Nat} {L : List (Option dp_V)}
    (hr : va_Run p l e R s m args below meth c H locs k n mc ms (F0 m pc ls st0) (r.map (dp_cv b)) (dp_Q D cI cZ b h H.size post a) (va_A (dp_ws cI cZ b h) H.size))
    (hA : ∀ q : Nat, s.heap.size ≤ q → A q) (h3 : va_D A (dp_ws cI cZ b h)) (h4 : va_S A s.heap H locs) (h5 : dp_L b ls nL L)
    (kk : ∀ (rv : Option dp_V) (h' : dp_H), post rv h' → dp_G p l e R s m args below meth c D cI cZ b A nL Q (k + mc) (n + ms) (pc + 3, L, rv.toList ++ r, h')) : W p l e R s m args below meth c H locs k n Q (F0 m pc ls st0) := by
  have hF : ∀ q, va_A (dp_ws cI cZ b h) H.size q → A q := by
    intro q hq
    rcases hq with ⟨j, x, hj⟩ | hq
    · exact h3.2 j (q, x) hj
    · exact hA q (Nat.le_trans h4.1 hq)
  intro T hT X
  obtain ⟨v, st₀, t, T', L1, g0, X', hL, e1, e2, ⟨⟨rv, h', hv, hp, hP', hD'⟩, hz, hk⟩, st⟩ := hr T hT X
  have hv' : v = rv.map (dp_cv b) := by cases hv; rfl
  subst hv'
  rw [g0] at hz hk
  have hD2 : va_D A (dp_ws cI cZ b h') := hD'.weaken (fun _ q _ z => hF q.1 z)
  have hS2 : va_S A s.heap T'.heap (locs ++ L1) := by
    refine ⟨Nat.le_trans h4.1 (by rw [e1]; exact hz), fun q z1 z2 => ?_, fun q hq => ?_⟩
    · rw [e1, hk q (Nat.lt_of_lt_of_le z1 h4.1) (fun z => z2 (hF q z))]
      exact h4.2.1 q z1 z2
    · rcases List.mem_append.mp hq with z | z
      · exact h4.2.2 q z
      · exact hF _ (hL q z)
  have hst : (rv.map (dp_cv b)).toList ++ r.map (dp_cv b) = (rv.toList ++ r).map (dp_cv b) := by cases rv <;> simp
  obtain ⟨t2, a1, b1⟩ := kk rv h' hp T'.heap (locs ++ L1) ls (by rw [e1]; exact hP') hD2 hS2 h5 T' rfl X'
  refine ⟨t2, st t2 ?_, b1⟩
  rw [hst]
  exact a1
end DQ
section DC
variable {d d' : Nat} {M N : dp_M} {al al' : Bool} {h0 : dp_H} {mc ms mc' ms' : Nat} {post post' : Option dp_V → dp_H → Prop} {k n : Nat} {pc : Nat} {L : List (Option dp_V)} {st : List dp_V} {h : dp_H} {as r : List dp_V} {q idx : Nat}
theorem dp_rm (hd : d' + 1 ≤ d) (hN : dp_ok N) : (dp_room d' mc' ms').frames + 1 ≤ (dp_room d mc ms).frames ∧ 8 + (N.2.2.2.1 + 11) + (dp_room d' mc' ms').locals ≤ (dp_room d mc ms).locals := by
  have := hN.2.2.2.2.2.2
  refine ⟨hd, ?_⟩
  show 8 + (N.2.2.2.1 + 11) + 40 * d' ≤ 40 * d
  omega
theorem dp_fit (hk : k + mc' ≤ mc) (hn : n + ms' ≤ ms) : k + mc' ≤ (dp_room d mc ms).cells ∧ n + ms' ≤ (dp_room d mc ms).slots := ⟨hk, hn⟩
theorem dp_hd (hN : dp_ok N) {j : Nat} (hp : dp_np N.2.1 j) : N.2.1.cls ≠ "java/lang/invoke/MethodHandle" ∧ N.2.1.cls ≠ "java/lang/invoke/VarHandle" ∧ (parseMethodDescriptor N.2.1.desc).map (fun d => d.parameters.length) = some j := by
  obtain ⟨-, hc, -, -, h1, h2, -⟩ := hN
  rw [hc]
  exact ⟨h1, h2, hp⟩
theorem dp_callV (hM : dp_ok M) (hN : dp_ok N) {len a b' f : Nat} {v : Int32} (ht : M.2.2.2.2.2[pc]? = some (some (.invokevirtual idx, len, a, b', f, v))) (hlk : dp_Lv M.1 idx N.2.1) (hnp : dp_np N.2.1 as.length) (hC : dp_C d' N al' (.inr (some q) :: as) h mc' ms' post')
    {ci : Nat} {fs : List dp_V} {C : vw_C} (hq : h[q]? = some (.inr (ci, fs))) (hc : vwCl[ci]? = some C) (hc2 : C.1 = N.1) (hst : st = as.reverse ++ .inr (some q) :: r) (hr : r.length ≤ 8) (hd : d' + 1 ≤ d) (hk : k + mc' ≤ mc) (hn : n + ms' ≤ ms) (hal : al' = true → al = true ∧ h.length = h0.length + k)
    (kk : ∀ (rv : Option dp_V) (h' : dp_H), post' rv h' → dp_W d M al h0 mc ms post (k + mc') (n + ms') (pc + 3, L, rv.toList ++ r, h')) : dp_W d M al h0 mc ms post k n (pc, L, st, h) := by
  obtain ⟨hdc, hlen, -⟩ := dp_X_of hM ht
  dsimp only at hdc hlen
  obtain rfl := dp_lenE hlen rfl
  intro p l e s m args below meth c D cI cZ b E ha H locs ls h2 h3 h4 h5
  have E0 := E
  obtain ⟨hx, hb, hml, -, -, -, hown, hts, hnw, hK⟩ := E0
  have hlt : q < h.length := (List.getElem?_eq_some_iff.mp hq).1
  have main : (al' = true → H.size = b + h.length) → W p l e (dp_room d mc ms) s m args below meth c H locs k n (MQ below (dp_Q D cI cZ b h0 s.heap.size post) args s mc ms (va_A (dp_ws cI cZ b h0) s.heap.size)) (F0 m pc ls (st.map (dp_cv b))) := by
    intro hsz
    refine dp_after (nL := M.2.2.2.1) (L := L) (va_runV (As := as.map (dp_cv b)) (b := b + q) (C := N.1) ⟨hx, hb, hml, hown, hts⟩ (hC l D cI cZ b H.size) ⟨callB_of as.length hts (dp_good hN) rfl rfl rfl (hts _ hlk.2.2.2) (hts _ hlk.1) (dp_hd hN hnp) (dp_rm hd hN), hts _ hlk.2.1, hN.2.1 ▸ hts _ hlk.2.2.1⟩
      ⟨dp_blind, hc2 ▸ va_recv hK h2 hc (dp_ws_at hq), fun U hU hW => ⟨rfl, by rw [hU], (fun z => hsz z), by rw [hU]; exact h2, va_K.moved hW.alike hK, fun w hw => dp_nw_warm hw hW (hnw w hw)⟩⟩
      rfl (by rw [List.length_map]) h5.1.1 (by rw [hst]; simp [dp_cv]) (lv_room (by rw [dp_catsum]; exact hr)) hdc (dp_fit hk hn)) (fun q z => Or.inr z) h3 h4 h5
      (fun rv h' hp => kk rv h' hp p l e s m args below meth c D cI cZ b E ha)
  cases al' with
  | false => exact main (fun z => by cases z)
  | true =>
    obtain ⟨z1, z2⟩ := hal rfl
    have z3 := ha z1
    exact dp_size (h := h) h2 (by omega) (by omega) (fun z => main (fun _ => z))
theorem dp_callVN (hM : dp_ok M) (hN : dp_ok N) {len a b' f : Nat} {v : Int32} (ht : M.2.2.2.2.2[pc]? = some (some (.invokevirtual idx, len, a, b', f, v))) (hlk : dp_Lvn M.1 idx N.2.1) (hnp : dp_np N.2.1 as.length) (hC : dp_C d' N false (.inr (some q) :: as) h mc' ms' post')
    {ci : Nat} {fs : List dp_V} {C : vw_C} (hq : h[q]? = some (.inr (ci, fs))) (hc : vwCl[ci]? = some C) (hc2 : C.1 = N.1) (hst : st = as.reverse ++ .inr (some q) :: r) (hr : r.length ≤ 8) (hd : d' + 1 ≤ d) (hk : k + mc' ≤ mc) (hn : n + ms' ≤ ms)
    (kk : ∀ (rv : Option dp_V) (h' : dp_H), post' rv h' → dp_W d M al h0 mc ms post (k + mc') (n + ms') (pc + 3, L, rv.toList ++ r, h')) : dp_W d M al h0 mc ms post k n (pc, L, st, h) := by
  obtain ⟨hdc, hlen, -⟩ := dp_X_of hM ht
  dsimp only at hdc hlen
  obtain rfl := dp_lenE hlen rfl
  intro p l e s m args below meth c D cI cZ b E ha H locs ls h2 h3 h4 h5
  have E0 := E
  obtain ⟨hx, hb, hml, -, -, -, hown, hts, hnw, hK⟩ := E0
  obtain ⟨⟨host, hl1⟩, hl2, hl3, hl4⟩ := hlk
  exact dp_after (nL := M.2.2.2.1) (L := L) (va_runVN (As := as.map (dp_cv b)) (b := b + q) (C := N.1) ⟨hx, hb, hml, hown, hts⟩ (hC l D cI cZ b H.size) ⟨va_cnB as.length hts (dp_good hN) rfl rfl rfl (hnw _ hl1) (hts _ hl4) (dp_hd hN hnp) (dp_rm hd hN), hts _ hl2, hN.2.1 ▸ hts _ hl3⟩
      ⟨dp_blind, hc2 ▸ va_recv hK h2 hc (dp_ws_at hq), fun U hU hW => ⟨rfl, by rw [hU], (fun z => by cases z), by rw [hU]; exact h2, va_K.moved hW.alike hK, fun w hw => dp_nw_warm hw hW (hnw w hw)⟩⟩
      rfl (by rw [List.length_map]) h5.1.1 (by rw [hst]; simp [dp_cv]) (lv_room (by rw [dp_catsum]; exact hr)) hdc (dp_fit hk hn)) (fun q z => Or.inr z) h3 h4 h5
      (fun rv h' hp => kk rv h' hp p l e s m args below meth c D cI cZ b E ha)
theorem dp_callS (hM : dp_ok M) (hN : dp_ok N) {len a b' f : Nat} {v : Int32} (ht : M.2.2.2.2.2[pc]? = some (some (.invokestatic idx, len, a, b', f, v))) (hlk : dp_Ls M.1 idx N.2.1) (hnp : dp_np N.2.1 as.length) (hC : dp_C d' N false as h mc' ms' post')
    (hst : st = as.reverse ++ r) (hr : r.length ≤ 8) (hd : d' + 1 ≤ d) (hk : k + mc' ≤ mc) (hn : n + ms' ≤ ms)
    (kk : ∀ (rv : Option dp_V) (h' : dp_H), post' rv h' → dp_W d M al h0 mc ms post (k + mc') (n + ms') (pc + 3, L, rv.toList ++ r, h')) : dp_W d M al h0 mc ms post k n (pc, L, st, h) := by
  obtain ⟨hdc, hlen, -⟩ := dp_X_of hM ht
  dsimp only at hdc hlen
  obtain rfl := dp_lenE hlen rfl
  intro p l e s m args below meth c D cI cZ b E ha H locs ls h2 h3 h4 h5
  have E0 := E
  obtain ⟨hx, hb, hml, -, -, -, hown, hts, hnw, hK⟩ := E0
  exact dp_after (nL := M.2.2.2.1) (L := L) (va_runS (As := as.map (dp_cv b)) ⟨hx, hb, hml, hown, hts⟩ (hC l D cI cZ b H.size) ⟨callB_of as.length hts (dp_good hN) rfl rfl rfl (hts _ hlk.2.2) (hts _ hlk.1) (dp_hd hN hnp) (dp_rm hd hN), hts _ hlk.2.1⟩
      ⟨dp_blind, fun U hU hW => ⟨rfl, by rw [hU], (fun z => by cases z), by rw [hU]; exact h2, va_K.moved hW.alike hK, fun w hw => dp_nw_warm hw hW (hnw w hw)⟩⟩
      rfl (by rw [List.length_map]) h5.1.1 (by rw [hst]; simp [dp_cv]) (lv_room (by rw [dp_catsum]; exact hr)) hdc (dp_fit hk hn)) (fun q z => Or.inr z) h3 h4 h5
      (fun rv h' hp => kk rv h' hp p l e s m args below meth c D cI cZ b E ha)
theorem dp_callSN (hM : dp_ok M) (hN : dp_ok N) {len a b' f : Nat} {v : Int32} (ht : M.2.2.2.2.2[pc]? = some (some (.invokestatic idx, len, a, b', f, v))) (hlk : dp_Lsn M.1 idx N.2.1) (hnp : dp_np N.2.1 as.length) (hC : dp_C d' N false as h mc' ms' post')
    (hst : st = as.reverse ++ r) (hr : r.length ≤ 8) (hd : d' + 1 ≤ d) (hk : k + mc' ≤ mc) (hn : n + ms' ≤ ms)
    (kk : ∀ (rv : Option dp_V) (h' : dp_H), post' rv h' → dp_W d M al h0 mc ms post (k + mc') (n + ms') (pc + 3, L, rv.toList ++ r, h')) : dp_W d M al h0 mc ms post k n (pc, L, st, h) := by
  obtain ⟨hdc, hlen, -⟩ := dp_X_of hM ht
  dsimp only at hdc hlen
  obtain rfl := dp_lenE hlen rfl
  intro p l e s m args below meth c D cI cZ b E ha H locs ls h2 h3 h4 h5
  have E0 := E
  obtain ⟨hx, hb, hml, -, -, -, hown, hts, hnw, hK⟩ := E0
  obtain ⟨⟨host, hl1⟩, hl2, hl4⟩ := hlk
  exact dp_after (nL := M.2.2.2.1) (L := L) (va_runSN (As := as.map (dp_cv b)) ⟨hx, hb, hml, hown, hts⟩ (hC l D cI cZ b H.size) ⟨va_cnB as.length hts (dp_good hN) rfl rfl rfl (hnw _ hl1) (hts _ hl4) (dp_hd hN hnp) (dp_rm hd hN), hts _ hl2, trivial⟩
      ⟨dp_blind, fun U hU hW => ⟨rfl, by rw [hU], (fun z => by cases z), by rw [hU]; exact h2, va_K.moved hW.alike hK, fun w hw => dp_nw_warm hw hW (hnw w hw)⟩⟩
      rfl (by rw [List.length_map]) h5.1.1 (by rw [hst]; simp [dp_cv]) (lv_room (by rw [dp_catsum]; exact hr)) hdc (dp_fit hk hn)) (fun q z => Or.inr z) h3 h4 h5
      (fun rv h' hp => kk rv h' hp p l e s m args below meth c D cI cZ b E ha)
theorem dp_callI (hM : dp_ok M) (hN : dp_ok N) (hNr : N.2.2.2.2.1 = none) {len a b' f : Nat} {v : Int32} (ht : M.2.2.2.2.2[pc]? = some (some (.invokespecial idx, len, a, b', f, v))) (hlk : dp_Li M.1 idx N.2.1) (hnp : dp_np N.2.1 as.length) (hC : dp_C d' N true (.inr (some q) :: as) h mc' ms' post')
    (hq : q < h.length) (hst : st = as.reverse ++ .inr (some q) :: r) (hr : r.length ≤ 8) (hd : d' + 1 ≤ d) (hk : k + mc' ≤ mc) (hn : n + ms' ≤ ms) (hal : al = true ∧ h.length = h0.length + k)
    (kk : ∀ (rv : Option dp_V) (h' : dp_H), post' rv h' → dp_W d M al h0 mc ms post (k + mc') (n + ms') (pc + 3, L, rv.toList ++ r, h')) : dp_W d M al h0 mc ms post k n (pc, L, st, h) := by
  obtain ⟨hdc, hlen, -⟩ := dp_X_of hM ht
  dsimp only at hdc hlen
  obtain rfl := dp_lenE hlen rfl
  intro p l e s m args below meth c D cI cZ b E ha H locs ls h2 h3 h4 h5
  have E0 := E
  obtain ⟨hx, hb, hml, -, -, -, hown, hts, hnw, hK⟩ := E0
  have z3 := ha hal.1
  have z2 := hal.2
  refine dp_size (h := h) h2 (by omega) (by omega) (fun hsz => ?_)
  exact dp_after (nL := M.2.2.2.1) (L := L) (va_runI (As := as.map (dp_cv b)) (b := b + q) ⟨hx, hb, hml, hown, hts⟩ (hC l D cI cZ b H.size) ⟨hNr ▸ callB_of as.length hts (dp_good hN) rfl rfl rfl (hts _ hlk.2.2.1) (hts _ hlk.1) (dp_hd hN hnp) (dp_rm hd hN), hlk.2.2.2, hts _ hlk.2.1⟩
      ⟨dp_blind, fun U hU hW => ⟨rfl, by rw [hU], (fun z => hsz), by rw [hU]; exact h2, va_K.moved hW.alike hK, fun w hw => dp_nw_warm hw hW (hnw w hw)⟩⟩
      rfl (by rw [List.length_map]) h5.1.1 (by rw [hst]; simp [dp_cv]) (lv_room (by rw [dp_catsum]; exact hr)) hdc (dp_fit hk hn)) (fun q z => Or.inr z) h3 h4 h5
      (fun rv h' hp => kk rv h' hp p l e s m args below meth c D cI cZ b E ha)
theorem dp_callIN (hM : dp_ok M) (hN : dp_ok N) (hNr : N.2.2.2.2.1 = none) {len a b' f : Nat} {v : Int32} (ht : M.2.2.2.2.2[pc]? = some (some (.invokespecial idx, len, a, b', f, v))) (hlk : dp_Lin M.1 idx N.2.1) (hnp : dp_np N.2.1 as.length) (hC : dp_C d' N true (.inr (some q) :: as) h mc' ms' post')
    (hq : q < h.length) (hst : st = as.reverse ++ .inr (some q) :: r) (hr : r.length ≤ 8) (hd : d' + 1 ≤ d) (hk : k + mc' ≤ mc) (hn : n + ms' ≤ ms) (hal : al = true ∧ h.length = h0.length + k)
    (kk : ∀ (rv : Option dp_V) (h' : dp_H), post' rv h' → dp_W d M al h0 mc ms post (k + mc') (n + ms') (pc + 3, L, rv.toList ++ r, h')) : dp_W d M al h0 mc ms post k n (pc, L, st, h) := by
  obtain ⟨hdc, hlen, -⟩ := dp_X_of hM ht
  dsimp only at hdc hlen
  obtain rfl := dp_lenE hlen rfl
  intro p l e s m args below meth c D cI cZ b E ha H locs ls h2 h3 h4 h5
  have E0 := E
  obtain ⟨hx, hb, hml, -, -, -, hown, hts, hnw, hK⟩ := E0
  obtain ⟨⟨host, hl1⟩, hl2, hl4, hl5⟩ := hlk
  have z3 := ha hal.1
  have z2 := hal.2
  refine dp_size (h := h) h2 (by omega) (by omega) (fun hsz => ?_)
  exact dp_after (nL := M.2.2.2.1) (L := L) (va_runIN (As := as.map (dp_cv b)) (b := b + q) ⟨hx, hb, hml, hown, hts⟩ (hC l D cI cZ b H.size) ⟨hNr ▸ va_cnB as.length hts (dp_good hN) rfl rfl rfl (hnw _ hl1) (hts _ hl4) (dp_hd hN hnp) (dp_rm hd hN), hl5, hts _ hl2⟩
      ⟨dp_blind, fun U hU hW => ⟨rfl, by rw [hU], (fun z => hsz), by rw [hU]; exact h2, va_K.moved hW.alike hK, fun w hw => dp_nw_warm hw hW (hnw w hw)⟩⟩
      rfl (by rw [List.length_map]) h5.1.1 (by rw [hst]; simp [dp_cv]) (lv_room (by rw [dp_catsum]; exact hr)) hdc (dp_fit hk hn)) (fun q z => Or.inr z) h3 h4 h5
      (fun rv h' hp => kk rv h' hp p l e s m args below meth c D cI cZ b E ha)
theorem dp_oinit (hM : dp_ok M) {len a b' f : Nat} {v : Int32} (ht : M.2.2.2.2.2[pc]? = some (some (.invokespecial idx, len, a, b', f, v))) (h1 : Cond.methodLink M.1 idx Lib.objectInit ∈ dp_g) (h2 : Cond.instanceMethod Lib.objectInit ∈ dp_g) (h3 : Cond.code Lib.objectInit ⟨#[0xb1]⟩ 1 none ∈ dp_g) (hd : 1 ≤ d) (hr : r.length ≤ 8)
    (kk : dp_W d M al h0 mc ms post k n (pc + 3, L, r, h)) : dp_W d M al h0 mc ms post k n (pc, L, .inr (some q) :: r, h) := by
  obtain ⟨hdc, hlen, -⟩ := dp_X_of hM ht
  dsimp only at hdc hlen
  obtain rfl := dp_lenE hlen rfl
  intro p l e s m args below meth c D cI cZ b E ha H locs ls g2 g3 g4 g5
  have E0 := E
  obtain ⟨hx, hb, hml, -, -, -, hown, hts, hnw, hK⟩ := E0
  exact W.objInit (rest := r.map (dp_cv b)) (a := b + q) hx hb hown (hts _ h1) (hts _ h2) (hts _ h3) rfl (by rw [hml]; exact g5.1.1) rfl hdc hd (by
    show 2 * 0 + _ + 12 ≤ 40 * d
    rw [dp_catsum]
    omega) (kk p l e s m args below meth c D cI cZ b E ha H locs ls g2 g3 g4 g5)
/-- the address of what was just made -/
theorem dp_born {p : Program} {l : Launch} {e : Env} {R : Room} {s : State} {m : MethodId} {args : Array Value} {below : List Frame} {meth : Method} {c : Code} {D : va_G} {cI cZ : ClassId} {b : Nat} {Q : State → Prop} {H1 : Heap} {locs : List Loc} {g : JFrame} {qn : Nat} {x : va_E} {k1 n1 : Nat}
    (hP : va_P D vwCl (dp_ws cI cZ b h ++ [(qn, x)]) H1) (hD : va_D (va_A (dp_ws cI cZ b h0) s.heap.size) (dp_ws cI cZ b h ++ [(qn, x)])) (hz : s.heap.size = b + h0.length) (hlen : h.length = h0.length + k) (hk1 : k1 = k + 1)
    (kk : qn = b + h.length → W p l e R s m args below meth c H1 locs k1 n1 Q g) : W p l e R s m args below meth c H1 locs k1 n1 Q g := by
  intro T hT X
  refine kk ?_ T hT X
  have u1 : T.heap.size ≤ s.heap.size + k1 := X.same.2.2.1
  rw [hT] at u1
  have hwl : (dp_ws cI cZ b h).length = h.length := by simp [dp_ws]
  have ul : (dp_ws cI cZ b h ++ [(qn, x)])[h.length]? = some (qn, x) := by
    rw [List.getElem?_append_right (by omega), hwl, Nat.sub_self]
    rfl
  have u2 : qn < H1.size := (hP _ _ ul).lt
  have u3 : ∀ i, i < h.length → qn ≠ b + i := by
    intro i hi hq
    have v1 : (dp_ws cI cZ b h ++ [(qn, x)])[i]? = some (b + i, dp_ce cI cZ b h[i]) := by
      rw [List.getElem?_append_left (by omega)]
      exact dp_ws_at (List.getElem?_eq_getElem hi)
    have := hD.1 _ _ _ _ ul v1 hq
    omega
  have u4 : s.heap.size ≤ qn := by
    rcases hD.2 _ _ ul with ⟨j, y, hj⟩ | z
    · obtain ⟨w, hw, e1⟩ := dp_ws_inv hj
      have e2 : qn = b + j := congrArg Prod.fst e1
      have := (List.getElem?_eq_some_iff.mp hw).1
      exact absurd e2 (u3 j (by omega))
    · exact z
  rcases Nat.lt_or_ge qn (b + h.length) with z | z
  · exact absurd (show qn = b + (qn - b) by omega) (u3 (qn - b) (by omega))
  · omega
theorem dp_new (hM : dp_ok M) {len a b' f : Nat} {v : Int32} (ht : M.2.2.2.2.2[pc]? = some (some (.new idx, len, a, b', f, v))) {ci : Nat} {C : vw_C} (hc : vwCl[ci]? = some C) (hCF : dp_CF C) (h1 : Cond.classLink M.1 idx C.1 ∈ dp_g) (h2 : Cond.instantiable C.1 C.2.2 ∈ dp_g) (h3 : Cond.initialized C.1 ∈ dp_g)
    (fs : List dp_V) (ty : Nat → FieldType) (hty : ∀ k, k < C.2.2 → parseFieldDescriptor (C.2.1 k).2.2.1 = some (ty k)) (hfs : ∀ b j, j < C.2.2 → defaultValue (ty j) = vp_V (fs.map (dp_cv b)) j) (hk : k + 1 ≤ mc) (hn : n + C.2.2 ≤ ms) (hal : al = true ∧ h.length = h0.length + k)
    (kk : dp_W d M al h0 mc ms post (k + 1) (n + C.2.2) (pc + 3, L, .inr (some h.length) :: st, h ++ [.inr (ci, fs)])) : dp_W d M al h0 mc ms post k n (pc, L, st, h) := by
  obtain ⟨hdc, hlen, -⟩ := dp_X_of hM ht
  dsimp only at hdc hlen
  obtain rfl := dp_lenE hlen rfl
  intro p l e s m args below meth c D cI cZ b E ha H locs ls g2 g3 g4 g5
  have E0 := E
  obtain ⟨hx, hb, hml, -, -, -, hown, hts, hnw, hK⟩ := E0
  obtain ⟨C0, T0, N0⟩ := C
  refine va_new (fs := fs.map (dp_cv b)) (ci := ci) hx hb hts hCF.1 ty hty hown (hts _ h1) (hts _ h2) (hts _ h3) hK g2 g3 g4 (fun q z => Or.inr z) hc (hfs b) hk hn hdc (fun qn H1 u1 u2 u3 => ?_)
  refine dp_born (h := h) (k := k) u1 u2 (ha hal.1) hal.2 rfl (fun hq => ?_)
  subst hq
  have hw : dp_ws cI cZ b h ++ [(b + h.length, .inr (ci, fs.map (dp_cv b)))] = dp_ws cI cZ b (h ++ [.inr (ci, fs)]) := dp_ws_push (.inr (ci, fs))
  have u1' : va_P D vwCl (dp_ws cI cZ b h ++ [(b + h.length, .inr (ci, fs.map (dp_cv b)))]) H1 := u1
  have u2' : va_D _ (dp_ws cI cZ b h ++ [(b + h.length, .inr (ci, fs.map (dp_cv b)))]) := u2
  rw [hw] at u1' u2'
  exact kk p l e s m args below meth c D cI cZ b E ha H1 locs ls u1' u2' u3 g5
theorem dp_newa (hM : dp_ok M) {z : Bool} {at1 : ArrayType} {len a b' f : Nat} {v x : Int32} {N1 : Nat} (ht : M.2.2.2.2.2[pc]? = some (some (.newarray at1, len, a, b', f, v))) (hat : newarray.typeOf at1 = if z = true then .boolean else .int) (h1 : Cond.arrayClass (newarray.typeOf at1) ∈ dp_g) (hx0 : ¬ x < 0) (hx1 : x.toNatClampNeg = N1) (hb1 : N1 ≤ 1000) (hk : k + 1 ≤ mc) (hn : n + N1 ≤ ms) (hal : al = true ∧ h.length = h0.length + k)
    (kk : dp_W d M al h0 mc ms post (k + 1) (n + N1) (pc + 2, L, .inr (some h.length) :: st, h ++ [.inl (z, N1, fun _ => 0)])) : dp_W d M al h0 mc ms post k n (pc, L, .inl x :: st, h) := by
  obtain ⟨hdc, hlen, -⟩ := dp_X_of hM ht
  dsimp only at hdc hlen
  obtain rfl := dp_lenE hlen rfl
  intro p l e s m args below meth c D cI cZ b E ha H locs ls g2 g3 g4 g5
  have E0 := E
  obtain ⟨hx, hb, hml, -, -, -, hown, hts, hnw, hK⟩ := E0
  cases z with
  | false =>
    rw [if_neg (by decide)] at hat
    refine va_newa (atype := at1) (ty := .int) (a0 := (N1, .inl (fun _ => 0))) hx hb (hts _ h1) hat hK g2 g3 g4 (fun q z => Or.inr z) (fun cA => rfl) hx0 hx1 (by show N1 * 4 ≤ _; omega) hk hn hdc (fun qn cA H1 uK u1 u2 u3 => ?_)
    refine dp_born (h := h) (k := k) u1 u2 (ha hal.1) hal.2 rfl (fun hq => ?_)
    subst hq
    have c1 : s.vm.findClass ("[" ++ FieldType.int.toString) = some cA := (uK.2 2 _ rfl).2
    have c2 : s.vm.findClass ("[" ++ FieldType.int.toString) = some cI := (uK.2 0 _ rfl).2
    have hcA : cA = cI := Option.some.inj (c1.symm.trans c2)
    subst hcA
    have hw : dp_ws cA cZ b h ++ [(b + h.length, .inl (cA, N1, .inl (fun _ => 0)))] = dp_ws cA cZ b (h ++ [.inl (false, N1, fun _ => 0)]) := dp_ws_push (.inl (false, N1, fun _ => 0))
    have u1' : va_P D vwCl (dp_ws cA cZ b h ++ [(b + h.length, .inl (cA, N1, .inl (fun _ => 0)))]) H1 := u1
    have u2' : va_D _ (dp_ws cA cZ b h ++ [(b + h.length, .inl (cA, N1, .inl (fun _ => 0)))]) := u2
    rw [hw] at u1' u2'
    exact kk p l e s m args below meth c D cA cZ b E ha H1 locs ls u1' u2' u3 g5
  | true =>
    rw [if_pos rfl] at hat
    refine va_newa (atype := at1) (ty := .boolean) (a0 := (N1, .inl (fun _ => 0))) hx hb (hts _ h1) hat hK g2 g3 g4 (fun q z => Or.inr z) (fun cA => rfl) hx0 hx1 (by show N1 * 1 ≤ _; omega) hk hn hdc (fun qn cA H1 uK u1 u2 u3 => ?_)
    refine dp_born (h := h) (k := k) u1 u2 (ha hal.1) hal.2 rfl (fun hq => ?_)
    subst hq
    have c1 : s.vm.findClass ("[" ++ FieldType.boolean.toString) = some cA := (uK.2 2 _ rfl).2
    have c2 : s.vm.findClass ("[" ++ FieldType.boolean.toString) = some cZ := (uK.2 1 _ rfl).2
    have hcA : cA = cZ := Option.some.inj (c1.symm.trans c2)
    subst hcA
    have hw : dp_ws cI cA b h ++ [(b + h.length, .inl (cA, N1, .inl (fun _ => 0)))] = dp_ws cI cA b (h ++ [.inl (true, N1, fun _ => 0)]) := dp_ws_push (.inl (true, N1, fun _ => 0))
    have u1' : va_P D vwCl (dp_ws cI cA b h ++ [(b + h.length, .inl (cA, N1, .inl (fun _ => 0)))]) H1 := u1
    have u2' : va_D _ (dp_ws cI cA b h ++ [(b + h.length, .inl (cA, N1, .inl (fun _ => 0)))]) := u2
    rw [hw] at u1' u2'
    exact kk p l e s m args below meth c D cI cA b E ha H1 locs ls u1' u2' u3 g5
theorem dp_acopy (hM : dp_ok M) {len a b' f : Nat} {v : Int32} (ht : M.2.2.2.2.2[pc]? = some (some (.invokestatic idx, len, a, b', f, v))) (h1 : Cond.methodLink M.1 idx arraycopyName ∈ dp_g) (h2 : Cond.native arraycopyName ∈ dp_g) (h3 : Cond.static arraycopyName ∈ dp_g) (h4 : Cond.initialized "java/lang/System" ∈ dp_g)
    {q0 q1 n0 n1 : Nat} {g0 g1 : Nat → Int32} (hq0 : h[q0]? = some (.inl (false, n0, g0))) (hq1 : h[q1]? = some (.inl (false, n1, g1))) {sp dp nn : Int32} (hc : (¬ sp < 0 ∧ ¬ dp < 0 ∧ ¬ nn < 0) ∧ sp.toNatClampNeg + nn.toNatClampNeg ≤ n0 ∧ dp.toNatClampNeg + nn.toNatClampNeg ≤ n1) (hd : 1 ≤ d) (hr : r.length ≤ 8)
    (kk : dp_W d M al h0 mc ms post k n (pc + 3, L, r, h.set q1 (.inl (false, n1, va_cpy g0 g1 sp.toNatClampNeg dp.toNatClampNeg nn.toNatClampNeg)))) : dp_W d M al h0 mc ms post k n (pc, L, .inl nn :: .inl dp :: .inr (some q1) :: .inl sp :: .inr (some q0) :: r, h) := by
  obtain ⟨hdc, hlen, -⟩ := dp_X_of hM ht
  dsimp only at hdc hlen
  obtain rfl := dp_lenE hlen rfl
  intro p l e s m args below meth c D cI cZ b E ha H locs ls u2 u3 u4 u5
  have E0 := E
  obtain ⟨hx, hb, hml, -, -, -, hown, hts, hnw, hK⟩ := E0
  have e0 : (dp_ws cI cZ b h)[q0]? = some (b + q0, .inl (cI, n0, .inl g0)) := dp_ws_at hq0
  have e1 : (dp_ws cI cZ b h)[q1]? = some (b + q1, .inl (cI, n1, .inl g1)) := dp_ws_at hq1
  have hw : (dp_ws cI cZ b h).set q1 (b + q1, .inl (cI, n1, .inl (va_cpy g0 g1 sp.toNatClampNeg dp.toNatClampNeg nn.toNatClampNeg))) = dp_ws cI cZ b (h.set q1 (.inl (false, n1, va_cpy g0 g1 sp.toNatClampNeg dp.toNatClampNeg nn.toNatClampNeg))) := dp_ws_set q1 (.inl (false, n1, _))
  refine va_copyi (ty := .int) (rest := r.map (dp_cv b)) hx hb (by rw [hml]; exact u5.1.1.symm) hown (hts _ h1) (hts _ h2) (hts _ h3) (hts _ h4) hK u2 u3 u4 q0 q1 0 0 e0 e1 rfl rfl rfl hc.1.1 hc.1.2.1 hc.1.2.2 hc.2.1 hc.2.2 (fun _ _ => rfl) hd (by
    rw [dp_catsum]
    show r.length + (7 + 11) ≤ 40 * d
    omega) hdc (fun H1 locs1 w1 w2 w3 => ?_)
  rw [hw] at w1 w2
  exact kk p l e s m args below meth c D cI cZ b E ha H1 locs1 ls w1 w2 w3 u5
end DC
end
section
/-! ===== 07: the words by their places (printed by program) ===== -/
theorem dq_0 : Cond.selects "NearLiars$Net" ⟨"NearLiars$Net", "around", "(III)I"⟩ ⟨"NearLiars$Net", "around", "(III)I"⟩ ∈ dp_g := dp_at 0 (by decide +kernel) rfl
theorem dq_1 : Cond.selects "NearLiars$Run" ⟨"NearLiars$Run", "dealSlots", "(LNearLiars$Net;)V"⟩ ⟨"NearLiars$Run", "dealSlots", "(LNearLiars$Net;)V"⟩ ∈ dp_g := dp_at 1 (by decide +kernel) rfl
theorem dq_2 : Cond.selects "NearLiars$Run" ⟨"NearLiars$Run", "slotsNear", "(LNearLiars$Net;I)I"⟩ ⟨"NearLiars$Run", "slotsNear", "(LNearLiars$Net;I)I"⟩ ∈ dp_g := dp_at 2 (by decide +kernel) rfl
theorem dq_3 : Cond.selects "NearLiars" ⟨"NearLiars", "layAnew", "(III)I"⟩ ⟨"NearLiars", "layAnew", "(III)I"⟩ ∈ dp_g := dp_at 3 (by decide +kernel) rfl
theorem dq_4 : Cond.selects "NearLiars$Run" ⟨"NearLiars$Run", "speak", "(LNearLiars$Net;I)I"⟩ ⟨"NearLiars$Run", "speak", "(LNearLiars$Net;I)I"⟩ ∈ dp_g := dp_at 4 (by decide +kernel) rfl
theorem dq_5 : Cond.selects "NearLiars$Run" ⟨"NearLiars$Run", "hear", "(LNearLiars$Net;III)I"⟩ ⟨"NearLiars$Run", "hear", "(LNearLiars$Net;III)I"⟩ ∈ dp_g := dp_at 5 (by decide +kernel) rfl
theorem dq_6 : Cond.selects "NearLiars$Net" ⟨"NearLiars$Net", "withJoining", "(III)I"⟩ ⟨"NearLiars$Net", "withJoining", "(III)I"⟩ ∈ dp_g := dp_at 6 (by decide +kernel) rfl
theorem dq_7 : Cond.selects "NearLiars$Survey" ⟨"NearLiars$Survey", "weigh", "(II)V"⟩ ⟨"NearLiars$Survey", "weigh", "(II)V"⟩ ∈ dp_g := dp_at 7 (by decide +kernel) rfl
theorem dq_8 : Cond.selects "NearLiars$Claims" ⟨"NearLiars$Claims", "isInHand", "(I)Z"⟩ ⟨"NearLiars$Claims", "isInHand", "(I)Z"⟩ ∈ dp_g := dp_at 8 (by decide +kernel) rfl
theorem dq_9 : Cond.selects "NearLiars$Claims" ⟨"NearLiars$Claims", "forgetOldest", "()V"⟩ ⟨"NearLiars$Claims", "forgetOldest", "()V"⟩ ∈ dp_g := dp_at 9 (by decide +kernel) rfl
theorem dq_10 : Cond.selects "NearLiars$Claims" ⟨"NearLiars$Claims", "gatherInner", "(II)I"⟩ ⟨"NearLiars$Claims", "gatherInner", "(II)I"⟩ ∈ dp_g := dp_at 10 (by decide +kernel) rfl
theorem dq_11 : Cond.selects "NearLiars$Claims" ⟨"NearLiars$Claims", "areApart", "(II)Z"⟩ ⟨"NearLiars$Claims", "areApart", "(II)Z"⟩ ∈ dp_g := dp_at 11 (by decide +kernel) rfl
theorem dq_12 : Cond.selects "NearLiarsModel" ⟨"NearLiarsModel", "begins", "()V"⟩ ⟨"NearLiarsModel", "begins", "()V"⟩ ∈ dp_g := dp_at 12 (by decide +kernel) rfl
theorem dq_13 : Cond.selects "NearLiarsModel" ⟨"NearLiarsModel", "dealsSlots", "()V"⟩ ⟨"NearLiarsModel", "dealsSlots", "()V"⟩ ∈ dp_g := dp_at 13 (by decide +kernel) rfl
theorem dq_14 : Cond.selects "NearLiarsModel" ⟨"NearLiarsModel", "isFreeSlot", "(II)Z"⟩ ⟨"NearLiarsModel", "isFreeSlot", "(II)Z"⟩ ∈ dp_g := dp_at 14 (by decide +kernel) rfl
theorem dq_15 : Cond.selects "NearLiarsModel" ⟨"NearLiarsModel", "isApart", "(II)Z"⟩ ⟨"NearLiarsModel", "isApart", "(II)Z"⟩ ∈ dp_g := dp_at 15 (by decide +kernel) rfl
theorem dq_16 : Cond.selects "NearLiarsModel" ⟨"NearLiarsModel", "lays", "(III)V"⟩ ⟨"NearLiarsModel", "lays", "(III)V"⟩ ∈ dp_g := dp_at 16 (by decide +kernel) rfl
theorem dq_17 : Cond.selects "NearLiarsModel" ⟨"NearLiarsModel", "forgets", "()V"⟩ ⟨"NearLiarsModel", "forgets", "()V"⟩ ∈ dp_g := dp_at 17 (by decide +kernel) rfl
theorem dq_18 : Cond.selects "NearLiarsModel" ⟨"NearLiarsModel", "isNode", "(I)Z"⟩ ⟨"NearLiarsModel", "isNode", "(I)Z"⟩ ∈ dp_g := dp_at 18 (by decide +kernel) rfl
theorem dq_19 : Cond.selects "NearLiarsModel" ⟨"NearLiarsModel", "tick", "()I"⟩ ⟨"NearLiarsModel", "tick", "()I"⟩ ∈ dp_g := dp_at 19 (by decide +kernel) rfl
theorem dq_20 : Cond.selects "NearLiarsModel" ⟨"NearLiarsModel", "says", "(I)I"⟩ ⟨"NearLiarsModel", "says", "(I)I"⟩ ∈ dp_g := dp_at 20 (by decide +kernel) rfl
theorem dq_21 : Cond.selects "NearLiarsModel" ⟨"NearLiarsModel", "isHonest", "(I)Z"⟩ ⟨"NearLiarsModel", "isHonest", "(I)Z"⟩ ∈ dp_g := dp_at 21 (by decide +kernel) rfl
theorem dq_22 : Cond.selects "NearLiarsModel" ⟨"NearLiarsModel", "speaks", "(II)I"⟩ ⟨"NearLiarsModel", "speaks", "(II)I"⟩ ∈ dp_g := dp_at 22 (by decide +kernel) rfl
theorem dq_23 : Cond.selects "NearLiarsModel" ⟨"NearLiarsModel", "heardBy", "(I)I"⟩ ⟨"NearLiarsModel", "heardBy", "(I)I"⟩ ∈ dp_g := dp_at 23 (by decide +kernel) rfl
theorem dq_24 : Cond.selects "NearLiarsModel" ⟨"NearLiarsModel", "lastIn", "(II)I"⟩ ⟨"NearLiarsModel", "lastIn", "(II)I"⟩ ∈ dp_g := dp_at 24 (by decide +kernel) rfl
theorem dq_25 : Cond.selects "NearLiarsModel" ⟨"NearLiarsModel", "manyHonest", "(III)I"⟩ ⟨"NearLiarsModel", "manyHonest", "(III)I"⟩ ∈ dp_g := dp_at 25 (by decide +kernel) rfl
theorem dq_26 : Cond.selects "NearLiarsModel" ⟨"NearLiarsModel", "isSet", "(I)Z"⟩ ⟨"NearLiarsModel", "isSet", "(I)Z"⟩ ∈ dp_g := dp_at 26 (by decide +kernel) rfl
theorem dq_27 : Cond.selects "NearLiarsModel" ⟨"NearLiarsModel", "crowdedBy", "(II)I"⟩ ⟨"NearLiarsModel", "crowdedBy", "(II)I"⟩ ∈ dp_g := dp_at 27 (by decide +kernel) rfl
theorem dq_28 : Cond.selects "NearLiarsModel" ⟨"NearLiarsModel", "cutBy", "(II)I"⟩ ⟨"NearLiarsModel", "cutBy", "(II)I"⟩ ∈ dp_g := dp_at 28 (by decide +kernel) rfl
theorem dq_29 : Cond.selects "NearLiarsModel" ⟨"NearLiarsModel", "reachedBy", "(II)I"⟩ ⟨"NearLiarsModel", "reachedBy", "(II)I"⟩ ∈ dp_g := dp_at 29 (by decide +kernel) rfl
theorem dq_30 : Cond.selects "NearLiarsModel" ⟨"NearLiarsModel", "triesSets", "(I)V"⟩ ⟨"NearLiarsModel", "triesSets", "(I)V"⟩ ∈ dp_g := dp_at 30 (by decide +kernel) rfl
theorem dq_31 : Cond.selects "NearLiarsModel" ⟨"NearLiarsModel", "isOnWay", "(I)Z"⟩ ⟨"NearLiarsModel", "isOnWay", "(I)Z"⟩ ∈ dp_g := dp_at 31 (by decide +kernel) rfl
theorem dq_32 : Cond.selects "NearLiarsModel" ⟨"NearLiarsModel", "isClaimed", "(I)Z"⟩ ⟨"NearLiarsModel", "isClaimed", "(I)Z"⟩ ∈ dp_g := dp_at 32 (by decide +kernel) rfl
theorem dq_33 : Cond.selects "NearLiarsModel" ⟨"NearLiarsModel", "oldestGoes", "()V"⟩ ⟨"NearLiarsModel", "oldestGoes", "()V"⟩ ∈ dp_g := dp_at 33 (by decide +kernel) rfl
theorem dq_34 : Cond.selects "NearLiarsModel" ⟨"NearLiarsModel", "setOf", "(I)I"⟩ ⟨"NearLiarsModel", "setOf", "(I)I"⟩ ∈ dp_g := dp_at 34 (by decide +kernel) rfl
theorem dq_35 : Cond.selects "NearLiarsModel" ⟨"NearLiarsModel", "proofOf", "(II)I"⟩ ⟨"NearLiarsModel", "proofOf", "(II)I"⟩ ∈ dp_g := dp_at 35 (by decide +kernel) rfl
theorem dq_36 : Cond.selects "NearLiarsModel" ⟨"NearLiarsModel", "proves", "(III)I"⟩ ⟨"NearLiarsModel", "proves", "(III)I"⟩ ∈ dp_g := dp_at 36 (by decide +kernel) rfl
theorem dq_37 : Cond.selects "NearLiarsModel" ⟨"NearLiarsModel", "twos", "()I"⟩ ⟨"NearLiarsModel", "twos", "()I"⟩ ∈ dp_g := dp_at 37 (by decide +kernel) rfl
theorem dq_38 : Cond.initialized "NearLiarsLaw" ∈ dp_g := dp_at 38 (by decide +kernel) rfl
theorem dq_39 : Cond.initialized "NearLiars" ∈ dp_g := dp_at 39 (by decide +kernel) rfl
theorem dq_40 : Cond.initialized "NearLiars$Net" ∈ dp_g := dp_at 40 (by decide +kernel) rfl
theorem dq_41 : Cond.initialized "java/util/Arrays" ∈ dp_g := dp_at 41 (by decide +kernel) rfl
theorem dq_42 : Cond.initialized "java/lang/Math" ∈ dp_g := dp_at 42 (by decide +kernel) rfl
theorem dq_43 : Cond.initialized "NearLiars$Run" ∈ dp_g := dp_at 43 (by decide +kernel) rfl
theorem dq_44 : Cond.initialized "NearLiars$Survey" ∈ dp_g := dp_at 44 (by decide +kernel) rfl
theorem dq_45 : Cond.initialized "NearLiars$Names" ∈ dp_g := dp_at 45 (by decide +kernel) rfl
theorem dq_46 : Cond.initialized "NearLiars$Claims" ∈ dp_g := dp_at 46 (by decide +kernel) rfl
theorem dq_47 : Cond.initialized "NearLiarsModel" ∈ dp_g := dp_at 47 (by decide +kernel) rfl
theorem dq_48 : Cond.initialized "java/lang/Integer" ∈ dp_g := dp_at 48 (by decide +kernel) rfl
theorem dq_49 : Cond.initialized "java/lang/System" ∈ dp_g := dp_at 49 (by decide +kernel) rfl
theorem dq_50 : Cond.classLink "NearLiarsLaw" (7 : Nat) "NearLiars" ∈ dp_g := dp_at 50 (by decide +kernel) rfl
theorem dq_51 : Cond.instantiable "NearLiars" (5 : Nat) ∈ dp_g := dp_at 51 (by decide +kernel) rfl
theorem dq_52 : Cond.methodLink "NearLiarsLaw" (9 : Nat) ({ cls := "NearLiars", name := "<init>", desc := "()V" } : Jvm.MethodName) ∈ dp_g := dp_at 52 (by decide +kernel) rfl
theorem dq_53 : Cond.instanceMethod ({ cls := "NearLiars", name := "<init>", desc := "()V" } : Jvm.MethodName) ∈ dp_g := dp_at 53 (by decide +kernel) rfl
set_option maxRecDepth 20000 in
theorem dq_54 : Cond.code ({ cls := "NearLiars", name := "<init>", desc := "()V" } : Jvm.MethodName) prog_1_method_1_code (1 : Nat) (Option.none : Option Jvm.ClassFile.FieldType) ∈ dp_g := dp_at 54 rfl rfl
theorem dq_55 : Cond.methodLink "NearLiars" (1 : Nat) ({ cls := "java/lang/Object", name := "<init>", desc := "()V" } : Jvm.MethodName) ∈ dp_g := dp_at 55 (by decide +kernel) rfl
theorem dq_56 : Cond.instanceMethod ({ cls := "java/lang/Object", name := "<init>", desc := "()V" } : Jvm.MethodName) ∈ dp_g := dp_at 56 (by decide +kernel) rfl
set_option maxRecDepth 20000 in
theorem dq_57 : Cond.code ({ cls := "java/lang/Object", name := "<init>", desc := "()V" } : Jvm.MethodName) object_method_1_code (1 : Nat) (Option.none : Option Jvm.ClassFile.FieldType) ∈ dp_g := dp_at 57 rfl rfl
theorem dq_58 : Cond.classLink "NearLiars" (7 : Nat) "NearLiars$Net" ∈ dp_g := dp_at 58 (by decide +kernel) rfl
theorem dq_59 : Cond.instantiable "NearLiars$Net" (8 : Nat) ∈ dp_g := dp_at 59 (by decide +kernel) rfl
theorem dq_60 : Cond.methodLink "NearLiars" (9 : Nat) ({ cls := "NearLiars$Net", name := "<init>", desc := "()V" } : Jvm.MethodName) ∈ dp_g := dp_at 60 (by decide +kernel) rfl
theorem dq_61 : Cond.instanceMethod ({ cls := "NearLiars$Net", name := "<init>", desc := "()V" } : Jvm.MethodName) ∈ dp_g := dp_at 61 (by decide +kernel) rfl
set_option maxRecDepth 20000 in
theorem dq_62 : Cond.code ({ cls := "NearLiars$Net", name := "<init>", desc := "()V" } : Jvm.MethodName) prog_4_method_1_code (1 : Nat) (Option.none : Option Jvm.ClassFile.FieldType) ∈ dp_g := dp_at 62 rfl rfl
theorem dq_63 : Cond.methodLink "NearLiars$Net" (3 : Nat) ({ cls := "java/lang/Object", name := "<init>", desc := "()V" } : Jvm.MethodName) ∈ dp_g := dp_at 63 (by decide +kernel) rfl
theorem dq_64 : Cond.methodLink "NearLiars$Net" (25 : Nat) ({ cls := "NearLiars$Net", name := "lay", desc := "(III)V" } : Jvm.MethodName) ∈ dp_g := dp_at 64 (by decide +kernel) rfl
theorem dq_65 : Cond.instanceMethod ({ cls := "NearLiars$Net", name := "lay", desc := "(III)V" } : Jvm.MethodName) ∈ dp_g := dp_at 65 (by decide +kernel) rfl
theorem dq_66 : Cond.selects "NearLiars$Net" ({ cls := "NearLiars$Net", name := "lay", desc := "(III)V" } : Jvm.MethodName) ({ cls := "NearLiars$Net", name := "lay", desc := "(III)V" } : Jvm.MethodName) ∈ dp_g := dp_at 66 (by decide +kernel) rfl
set_option maxRecDepth 20000 in
theorem dq_67 : Cond.code ({ cls := "NearLiars$Net", name := "lay", desc := "(III)V" } : Jvm.MethodName) prog_4_method_2_code (6 : Nat) (Option.none : Option Jvm.ClassFile.FieldType) ∈ dp_g := dp_at 67 rfl rfl
theorem dq_68 : Cond.methodLink "NearLiars$Net" (41 : Nat) ({ cls := "java/util/Arrays", name := "fill", desc := "([II)V" } : Jvm.MethodName) ∈ dp_g := dp_at 68 (by decide +kernel) rfl
theorem dq_69 : Cond.static ({ cls := "java/util/Arrays", name := "fill", desc := "([II)V" } : Jvm.MethodName) ∈ dp_g := dp_at 69 (by decide +kernel) rfl
set_option maxRecDepth 20000 in
theorem dq_70 : Cond.code ({ cls := "java/util/Arrays", name := "fill", desc := "([II)V" } : Jvm.MethodName) prog_12_method_103_code (4 : Nat) (Option.none : Option Jvm.ClassFile.FieldType) ∈ dp_g := dp_at 70 rfl rfl
theorem dq_71 : Cond.methodLink "NearLiars$Net" (47 : Nat) ({ cls := "NearLiars$Net", name := "around", desc := "(III)I" } : Jvm.MethodName) ∈ dp_g := dp_at 71 (by decide +kernel) rfl
theorem dq_73 : Cond.instanceMethod ({ cls := "NearLiars$Net", name := "around", desc := "(III)I" } : Jvm.MethodName) ∈ dp_g := dp_at 73 (by decide +kernel) rfl
set_option maxRecDepth 20000 in
theorem dq_74 : Cond.code ({ cls := "NearLiars$Net", name := "around", desc := "(III)I" } : Jvm.MethodName) prog_4_method_3_code (7 : Nat) (Option.some Jvm.ClassFile.FieldType.int) ∈ dp_g := dp_at 74 rfl rfl
theorem dq_75 : Cond.methodLink "NearLiars$Net" (51 : Nat) ({ cls := "java/lang/Math", name := "abs", desc := "(I)I" } : Jvm.MethodName) ∈ dp_g := dp_at 75 (by decide +kernel) rfl
theorem dq_76 : Cond.static ({ cls := "java/lang/Math", name := "abs", desc := "(I)I" } : Jvm.MethodName) ∈ dp_g := dp_at 76 (by decide +kernel) rfl
set_option maxRecDepth 20000 in
theorem dq_77 : Cond.code ({ cls := "java/lang/Math", name := "abs", desc := "(I)I" } : Jvm.MethodName) prog_10_method_59_code (1 : Nat) (Option.some Jvm.ClassFile.FieldType.int) ∈ dp_g := dp_at 77 rfl rfl
theorem dq_78 : Cond.fieldLink "NearLiars$Net" (9 : Nat) "NearLiars$Net" "links" "[I" ∈ dp_g := dp_at 78 (by decide +kernel) rfl
theorem dq_79 : Cond.fieldLinkNest "NearLiars$Run" (73 : Nat) "NearLiars$Net" "links" "[I" "NearLiars" ∈ dp_nw := dp_nat 79 (by decide +kernel) rfl
theorem dq_80 : Cond.fieldLinkNest "NearLiars" (67 : Nat) "NearLiars$Net" "links" "[I" "NearLiars" ∈ dp_nw := dp_nat 80 (by decide +kernel) rfl
theorem dq_81 : Cond.fieldLink "NearLiars$Net" (15 : Nat) "NearLiars$Net" "lies" "[I" ∈ dp_g := dp_at 81 (by decide +kernel) rfl
theorem dq_82 : Cond.fieldLinkNest "NearLiars" (81 : Nat) "NearLiars$Net" "lies" "[I" "NearLiars" ∈ dp_nw := dp_nat 82 (by decide +kernel) rfl
theorem dq_83 : Cond.fieldLinkNest "NearLiars$Run" (82 : Nat) "NearLiars$Net" "lies" "[I" "NearLiars" ∈ dp_nw := dp_nat 83 (by decide +kernel) rfl
theorem dq_84 : Cond.fieldLink "NearLiars$Net" (35 : Nat) "NearLiars$Net" "count" "I" ∈ dp_g := dp_at 84 (by decide +kernel) rfl
theorem dq_85 : Cond.fieldLinkNest "NearLiars$Run" (52 : Nat) "NearLiars$Net" "count" "I" "NearLiars" ∈ dp_nw := dp_nat 85 (by decide +kernel) rfl
theorem dq_86 : Cond.fieldLinkNest "NearLiars" (222 : Nat) "NearLiars$Net" "count" "I" "NearLiars" ∈ dp_nw := dp_nat 86 (by decide +kernel) rfl
theorem dq_87 : Cond.fieldLink "NearLiars$Net" (29 : Nat) "NearLiars$Net" "width" "I" ∈ dp_g := dp_at 87 (by decide +kernel) rfl
theorem dq_88 : Cond.fieldLink "NearLiars$Net" (32 : Nat) "NearLiars$Net" "bands" "I" ∈ dp_g := dp_at 88 (by decide +kernel) rfl
theorem dq_89 : Cond.fieldLinkNest "NearLiars" (114 : Nat) "NearLiars$Net" "bands" "I" "NearLiars" ∈ dp_nw := dp_nat 89 (by decide +kernel) rfl
theorem dq_90 : Cond.fieldLink "NearLiars$Net" (38 : Nat) "NearLiars$Net" "dealer" "I" ∈ dp_g := dp_at 90 (by decide +kernel) rfl
theorem dq_91 : Cond.fieldLinkNest "NearLiars$Run" (44 : Nat) "NearLiars$Net" "dealer" "I" "NearLiars" ∈ dp_nw := dp_nat 91 (by decide +kernel) rfl
theorem dq_92 : Cond.fieldLinkNest "NearLiars$Claims" (43 : Nat) "NearLiars$Net" "dealer" "I" "NearLiars" ∈ dp_nw := dp_nat 92 (by decide +kernel) rfl
theorem dq_93 : Cond.fieldLinkNest "NearLiars" (74 : Nat) "NearLiars$Net" "dealer" "I" "NearLiars" ∈ dp_nw := dp_nat 93 (by decide +kernel) rfl
theorem dq_94 : Cond.fieldLink "NearLiars$Net" (18 : Nat) "NearLiars$Net" "value" "I" ∈ dp_g := dp_at 94 (by decide +kernel) rfl
theorem dq_95 : Cond.fieldLinkNest "NearLiars$Run" (49 : Nat) "NearLiars$Net" "value" "I" "NearLiars" ∈ dp_nw := dp_nat 95 (by decide +kernel) rfl
theorem dq_96 : Cond.fieldLinkNest "NearLiars" (78 : Nat) "NearLiars$Net" "value" "I" "NearLiars" ∈ dp_nw := dp_nat 96 (by decide +kernel) rfl
theorem dq_97 : Cond.fieldLink "NearLiars$Net" (22 : Nat) "NearLiars$Net" "need" "I" ∈ dp_g := dp_at 97 (by decide +kernel) rfl
theorem dq_98 : Cond.fieldLinkNest "NearLiars$Survey" (32 : Nat) "NearLiars$Net" "need" "I" "NearLiars" ∈ dp_nw := dp_nat 98 (by decide +kernel) rfl
theorem dq_99 : Cond.fieldLinkNest "NearLiars" (84 : Nat) "NearLiars$Net" "need" "I" "NearLiars" ∈ dp_nw := dp_nat 99 (by decide +kernel) rfl
theorem dq_100 : Cond.fieldLinkNest "NearLiars$Run" (96 : Nat) "NearLiars$Net" "need" "I" "NearLiars" ∈ dp_nw := dp_nat 100 (by decide +kernel) rfl
theorem dq_118 : Cond.arrayClass Jvm.ClassFile.FieldType.int ∈ dp_g := dp_at 118 (by decide +kernel) rfl
theorem dq_119 : Cond.classLink "NearLiars" (16 : Nat) "NearLiars$Run" ∈ dp_g := dp_at 119 (by decide +kernel) rfl
theorem dq_120 : Cond.instantiable "NearLiars$Run" (7 : Nat) ∈ dp_g := dp_at 120 (by decide +kernel) rfl
theorem dq_121 : Cond.methodLink "NearLiars" (18 : Nat) ({ cls := "NearLiars$Run", name := "<init>", desc := "()V" } : Jvm.MethodName) ∈ dp_g := dp_at 121 (by decide +kernel) rfl
theorem dq_122 : Cond.instanceMethod ({ cls := "NearLiars$Run", name := "<init>", desc := "()V" } : Jvm.MethodName) ∈ dp_g := dp_at 122 (by decide +kernel) rfl
set_option maxRecDepth 20000 in
theorem dq_123 : Cond.code ({ cls := "NearLiars$Run", name := "<init>", desc := "()V" } : Jvm.MethodName) prog_5_method_1_code (1 : Nat) (Option.none : Option Jvm.ClassFile.FieldType) ∈ dp_g := dp_at 123 rfl rfl
theorem dq_124 : Cond.methodLink "NearLiars$Run" (3 : Nat) ({ cls := "java/lang/Object", name := "<init>", desc := "()V" } : Jvm.MethodName) ∈ dp_g := dp_at 124 (by decide +kernel) rfl
theorem dq_125 : Cond.fieldLink "NearLiars$Run" (9 : Nat) "NearLiars$Run" "slots" "[I" ∈ dp_g := dp_at 125 (by decide +kernel) rfl
theorem dq_126 : Cond.fieldLinkNest "NearLiars" (98 : Nat) "NearLiars$Run" "slots" "[I" "NearLiars" ∈ dp_nw := dp_nat 126 (by decide +kernel) rfl
theorem dq_127 : Cond.fieldLink "NearLiars$Run" (15 : Nat) "NearLiars$Run" "taken" "[I" ∈ dp_g := dp_at 127 (by decide +kernel) rfl
theorem dq_128 : Cond.fieldLinkNest "NearLiars" (101 : Nat) "NearLiars$Run" "taken" "[I" "NearLiars" ∈ dp_nw := dp_nat 128 (by decide +kernel) rfl
theorem dq_129 : Cond.fieldLink "NearLiars$Run" (18 : Nat) "NearLiars$Run" "since" "[I" ∈ dp_g := dp_at 129 (by decide +kernel) rfl
theorem dq_130 : Cond.fieldLinkNest "NearLiars" (104 : Nat) "NearLiars$Run" "since" "[I" "NearLiars" ∈ dp_nw := dp_nat 130 (by decide +kernel) rfl
theorem dq_131 : Cond.fieldLink "NearLiars$Run" (21 : Nat) "NearLiars$Run" "heard" "[I" ∈ dp_g := dp_at 131 (by decide +kernel) rfl
theorem dq_132 : Cond.fieldLink "NearLiars$Run" (24 : Nat) "NearLiars$Run" "round" "I" ∈ dp_g := dp_at 132 (by decide +kernel) rfl
theorem dq_133 : Cond.fieldLinkNest "NearLiars" (226 : Nat) "NearLiars$Run" "round" "I" "NearLiars" ∈ dp_nw := dp_nat 133 (by decide +kernel) rfl
theorem dq_134 : Cond.fieldLink "NearLiars$Run" (28 : Nat) "NearLiars$Run" "over" "I" ∈ dp_g := dp_at 134 (by decide +kernel) rfl
theorem dq_135 : Cond.fieldLinkNest "NearLiars" (87 : Nat) "NearLiars$Run" "over" "I" "NearLiars" ∈ dp_nw := dp_nat 135 (by decide +kernel) rfl
theorem dq_136 : Cond.fieldLink "NearLiars$Run" (31 : Nat) "NearLiars$Run" "spoken" "I" ∈ dp_g := dp_at 136 (by decide +kernel) rfl
theorem dq_137 : Cond.fieldLinkNest "NearLiars" (111 : Nat) "NearLiars$Run" "spoken" "I" "NearLiars" ∈ dp_nw := dp_nat 137 (by decide +kernel) rfl
theorem dq_153 : Cond.classLink "NearLiars" (23 : Nat) "NearLiars$Survey" ∈ dp_g := dp_at 153 (by decide +kernel) rfl
theorem dq_154 : Cond.instantiable "NearLiars$Survey" (4 : Nat) ∈ dp_g := dp_at 154 (by decide +kernel) rfl
theorem dq_155 : Cond.methodLinkNest "NearLiars" (25 : Nat) ({ cls := "NearLiars$Survey", name := "<init>", desc := "()V" } : Jvm.MethodName) "NearLiars" ∈ dp_nw := dp_nat 155 (by decide +kernel) rfl
theorem dq_156 : Cond.instanceMethod ({ cls := "NearLiars$Survey", name := "<init>", desc := "()V" } : Jvm.MethodName) ∈ dp_g := dp_at 156 (by decide +kernel) rfl
set_option maxRecDepth 20000 in
theorem dq_157 : Cond.code ({ cls := "NearLiars$Survey", name := "<init>", desc := "()V" } : Jvm.MethodName) prog_6_method_1_code (1 : Nat) (Option.none : Option Jvm.ClassFile.FieldType) ∈ dp_g := dp_at 157 rfl rfl
theorem dq_158 : Cond.methodLink "NearLiars$Survey" (1 : Nat) ({ cls := "java/lang/Object", name := "<init>", desc := "()V" } : Jvm.MethodName) ∈ dp_g := dp_at 158 (by decide +kernel) rfl
theorem dq_159 : Cond.fieldLink "NearLiars$Survey" (7 : Nat) "NearLiars$Survey" "worstSet" "I" ∈ dp_g := dp_at 159 (by decide +kernel) rfl
theorem dq_160 : Cond.fieldLinkNest "NearLiars" (157 : Nat) "NearLiars$Survey" "worstSet" "I" "NearLiars" ∈ dp_nw := dp_nat 160 (by decide +kernel) rfl
theorem dq_161 : Cond.fieldLink "NearLiars$Survey" (13 : Nat) "NearLiars$Survey" "worstCut" "I" ∈ dp_g := dp_at 161 (by decide +kernel) rfl
theorem dq_162 : Cond.fieldLinkNest "NearLiars" (160 : Nat) "NearLiars$Survey" "worstCut" "I" "NearLiars" ∈ dp_nw := dp_nat 162 (by decide +kernel) rfl
theorem dq_163 : Cond.fieldLink "NearLiars$Survey" (16 : Nat) "NearLiars$Survey" "thin" "I" ∈ dp_g := dp_at 163 (by decide +kernel) rfl
theorem dq_164 : Cond.fieldLinkNest "NearLiars" (163 : Nat) "NearLiars$Survey" "thin" "I" "NearLiars" ∈ dp_nw := dp_nat 164 (by decide +kernel) rfl
theorem dq_165 : Cond.fieldLink "NearLiars$Survey" (19 : Nat) "NearLiars$Survey" "stopping" "I" ∈ dp_g := dp_at 165 (by decide +kernel) rfl
theorem dq_166 : Cond.fieldLinkNest "NearLiars" (166 : Nat) "NearLiars$Survey" "stopping" "I" "NearLiars" ∈ dp_nw := dp_nat 166 (by decide +kernel) rfl
theorem dq_176 : Cond.classLink "NearLiars" (30 : Nat) "NearLiars$Names" ∈ dp_g := dp_at 176 (by decide +kernel) rfl
theorem dq_177 : Cond.instantiable "NearLiars$Names" (2 : Nat) ∈ dp_g := dp_at 177 (by decide +kernel) rfl
theorem dq_178 : Cond.methodLinkNest "NearLiars" (32 : Nat) ({ cls := "NearLiars$Names", name := "<init>", desc := "()V" } : Jvm.MethodName) "NearLiars" ∈ dp_nw := dp_nat 178 (by decide +kernel) rfl
theorem dq_179 : Cond.instanceMethod ({ cls := "NearLiars$Names", name := "<init>", desc := "()V" } : Jvm.MethodName) ∈ dp_g := dp_at 179 (by decide +kernel) rfl
set_option maxRecDepth 20000 in
theorem dq_180 : Cond.code ({ cls := "NearLiars$Names", name := "<init>", desc := "()V" } : Jvm.MethodName) prog_3_method_1_code (1 : Nat) (Option.none : Option Jvm.ClassFile.FieldType) ∈ dp_g := dp_at 180 rfl rfl
theorem dq_181 : Cond.methodLink "NearLiars$Names" (3 : Nat) ({ cls := "java/lang/Object", name := "<init>", desc := "()V" } : Jvm.MethodName) ∈ dp_g := dp_at 181 (by decide +kernel) rfl
theorem dq_182 : Cond.fieldLink "NearLiars$Names" (9 : Nat) "NearLiars$Names" "cuts" "[I" ∈ dp_g := dp_at 182 (by decide +kernel) rfl
theorem dq_183 : Cond.fieldLinkNest "NearLiars" (178 : Nat) "NearLiars$Names" "cuts" "[I" "NearLiars" ∈ dp_nw := dp_nat 183 (by decide +kernel) rfl
theorem dq_184 : Cond.fieldLink "NearLiars$Names" (15 : Nat) "NearLiars$Names" "count" "I" ∈ dp_g := dp_at 184 (by decide +kernel) rfl
theorem dq_185 : Cond.fieldLinkNest "NearLiars" (175 : Nat) "NearLiars$Names" "count" "I" "NearLiars" ∈ dp_nw := dp_nat 185 (by decide +kernel) rfl
theorem dq_191 : Cond.classLink "NearLiars" (37 : Nat) "NearLiars$Claims" ∈ dp_g := dp_at 191 (by decide +kernel) rfl
theorem dq_192 : Cond.instantiable "NearLiars$Claims" (9 : Nat) ∈ dp_g := dp_at 192 (by decide +kernel) rfl
theorem dq_193 : Cond.methodLinkNest "NearLiars" (39 : Nat) ({ cls := "NearLiars$Claims", name := "<init>", desc := "()V" } : Jvm.MethodName) "NearLiars" ∈ dp_nw := dp_nat 193 (by decide +kernel) rfl
theorem dq_194 : Cond.instanceMethod ({ cls := "NearLiars$Claims", name := "<init>", desc := "()V" } : Jvm.MethodName) ∈ dp_g := dp_at 194 (by decide +kernel) rfl
set_option maxRecDepth 20000 in
theorem dq_195 : Cond.code ({ cls := "NearLiars$Claims", name := "<init>", desc := "()V" } : Jvm.MethodName) prog_2_method_1_code (1 : Nat) (Option.none : Option Jvm.ClassFile.FieldType) ∈ dp_g := dp_at 195 rfl rfl
theorem dq_196 : Cond.methodLink "NearLiars$Claims" (3 : Nat) ({ cls := "java/lang/Object", name := "<init>", desc := "()V" } : Jvm.MethodName) ∈ dp_g := dp_at 196 (by decide +kernel) rfl
theorem dq_197 : Cond.fieldLink "NearLiars$Claims" (9 : Nat) "NearLiars$Claims" "hand" "[I" ∈ dp_g := dp_at 197 (by decide +kernel) rfl
theorem dq_198 : Cond.fieldLink "NearLiars$Claims" (15 : Nat) "NearLiars$Claims" "ways" "[I" ∈ dp_g := dp_at 198 (by decide +kernel) rfl
theorem dq_199 : Cond.fieldLink "NearLiars$Claims" (18 : Nat) "NearLiars$Claims" "lengths" "[I" ∈ dp_g := dp_at 199 (by decide +kernel) rfl
theorem dq_200 : Cond.fieldLinkNest "NearLiars" (207 : Nat) "NearLiars$Claims" "lengths" "[I" "NearLiars" ∈ dp_nw := dp_nat 200 (by decide +kernel) rfl
theorem dq_201 : Cond.fieldLink "NearLiars$Claims" (21 : Nat) "NearLiars$Claims" "sets" "[I" ∈ dp_g := dp_at 201 (by decide +kernel) rfl
theorem dq_202 : Cond.fieldLinkNest "NearLiars" (210 : Nat) "NearLiars$Claims" "sets" "[I" "NearLiars" ∈ dp_nw := dp_nat 202 (by decide +kernel) rfl
theorem dq_203 : Cond.fieldLink "NearLiars$Claims" (24 : Nat) "NearLiars$Claims" "values" "[I" ∈ dp_g := dp_at 203 (by decide +kernel) rfl
theorem dq_204 : Cond.fieldLinkNest "NearLiars" (204 : Nat) "NearLiars$Claims" "values" "[I" "NearLiars" ∈ dp_nw := dp_nat 204 (by decide +kernel) rfl
theorem dq_205 : Cond.fieldLink "NearLiars$Claims" (27 : Nat) "NearLiars$Claims" "inner" "[I" ∈ dp_g := dp_at 205 (by decide +kernel) rfl
theorem dq_206 : Cond.fieldLink "NearLiars$Claims" (40 : Nat) "NearLiars$Claims" "handSet" "I" ∈ dp_g := dp_at 206 (by decide +kernel) rfl
theorem dq_207 : Cond.fieldLink "NearLiars$Claims" (37 : Nat) "NearLiars$Claims" "steps" "I" ∈ dp_g := dp_at 207 (by decide +kernel) rfl
theorem dq_208 : Cond.fieldLinkNest "NearLiars" (188 : Nat) "NearLiars$Claims" "steps" "I" "NearLiars" ∈ dp_nw := dp_nat 208 (by decide +kernel) rfl
theorem dq_209 : Cond.fieldLink "NearLiars$Claims" (33 : Nat) "NearLiars$Claims" "count" "I" ∈ dp_g := dp_at 209 (by decide +kernel) rfl
theorem dq_210 : Cond.fieldLinkNest "NearLiars" (200 : Nat) "NearLiars$Claims" "count" "I" "NearLiars" ∈ dp_nw := dp_nat 210 (by decide +kernel) rfl
theorem dq_230 : Cond.methodLink "NearLiars" (44 : Nat) ({ cls := "NearLiars$Run", name := "restart", desc := "(LNearLiars$Net;)V" } : Jvm.MethodName) ∈ dp_g := dp_at 230 (by decide +kernel) rfl
theorem dq_231 : Cond.instanceMethod ({ cls := "NearLiars$Run", name := "restart", desc := "(LNearLiars$Net;)V" } : Jvm.MethodName) ∈ dp_g := dp_at 231 (by decide +kernel) rfl
theorem dq_232 : Cond.selects "NearLiars$Run" ({ cls := "NearLiars$Run", name := "restart", desc := "(LNearLiars$Net;)V" } : Jvm.MethodName) ({ cls := "NearLiars$Run", name := "restart", desc := "(LNearLiars$Net;)V" } : Jvm.MethodName) ∈ dp_g := dp_at 232 (by decide +kernel) rfl
set_option maxRecDepth 20000 in
theorem dq_233 : Cond.code ({ cls := "NearLiars$Run", name := "restart", desc := "(LNearLiars$Net;)V" } : Jvm.MethodName) prog_5_method_2_code (2 : Nat) (Option.none : Option Jvm.ClassFile.FieldType) ∈ dp_g := dp_at 233 rfl rfl
theorem dq_234 : Cond.methodLink "NearLiars$Run" (34 : Nat) ({ cls := "NearLiars$Run", name := "dealSlots", desc := "(LNearLiars$Net;)V" } : Jvm.MethodName) ∈ dp_g := dp_at 234 (by decide +kernel) rfl
theorem dq_236 : Cond.instanceMethod ({ cls := "NearLiars$Run", name := "dealSlots", desc := "(LNearLiars$Net;)V" } : Jvm.MethodName) ∈ dp_g := dp_at 236 (by decide +kernel) rfl
set_option maxRecDepth 20000 in
theorem dq_237 : Cond.code ({ cls := "NearLiars$Run", name := "dealSlots", desc := "(LNearLiars$Net;)V" } : Jvm.MethodName) prog_5_method_3_code (3 : Nat) (Option.none : Option Jvm.ClassFile.FieldType) ∈ dp_g := dp_at 237 rfl rfl
theorem dq_238 : Cond.methodLink "NearLiars$Run" (55 : Nat) ({ cls := "NearLiars$Run", name := "slotsNear", desc := "(LNearLiars$Net;I)I" } : Jvm.MethodName) ∈ dp_g := dp_at 238 (by decide +kernel) rfl
theorem dq_240 : Cond.instanceMethod ({ cls := "NearLiars$Run", name := "slotsNear", desc := "(LNearLiars$Net;I)I" } : Jvm.MethodName) ∈ dp_g := dp_at 240 (by decide +kernel) rfl
set_option maxRecDepth 20000 in
theorem dq_241 : Cond.code ({ cls := "NearLiars$Run", name := "slotsNear", desc := "(LNearLiars$Net;I)I" } : Jvm.MethodName) prog_5_method_4_code (5 : Nat) (Option.some Jvm.ClassFile.FieldType.int) ∈ dp_g := dp_at 241 rfl rfl
theorem dq_242 : Cond.methodLink "NearLiars$Run" (69 : Nat) ({ cls := "NearLiars$Net", name := "areLinked", desc := "(II)Z" } : Jvm.MethodName) ∈ dp_g := dp_at 242 (by decide +kernel) rfl
theorem dq_243 : Cond.instanceMethod ({ cls := "NearLiars$Net", name := "areLinked", desc := "(II)Z" } : Jvm.MethodName) ∈ dp_g := dp_at 243 (by decide +kernel) rfl
theorem dq_244 : Cond.selects "NearLiars$Net" ({ cls := "NearLiars$Net", name := "areLinked", desc := "(II)Z" } : Jvm.MethodName) ({ cls := "NearLiars$Net", name := "areLinked", desc := "(II)Z" } : Jvm.MethodName) ∈ dp_g := dp_at 244 (by decide +kernel) rfl
set_option maxRecDepth 20000 in
theorem dq_245 : Cond.code ({ cls := "NearLiars$Net", name := "areLinked", desc := "(II)Z" } : Jvm.MethodName) prog_4_method_5_code (3 : Nat) (Option.some Jvm.ClassFile.FieldType.boolean) ∈ dp_g := dp_at 245 rfl rfl
theorem dq_246 : Cond.methodLinkNest "NearLiars$Net" (57 : Nat) ({ cls := "NearLiars", name := "isIn", desc := "(II)Z" } : Jvm.MethodName) "NearLiars" ∈ dp_nw := dp_nat 246 (by decide +kernel) rfl
theorem dq_247 : Cond.static ({ cls := "NearLiars", name := "isIn", desc := "(II)Z" } : Jvm.MethodName) ∈ dp_g := dp_at 247 (by decide +kernel) rfl
set_option maxRecDepth 20000 in
theorem dq_248 : Cond.code ({ cls := "NearLiars", name := "isIn", desc := "(II)Z" } : Jvm.MethodName) prog_1_method_29_code (2 : Nat) (Option.some Jvm.ClassFile.FieldType.boolean) ∈ dp_g := dp_at 248 rfl rfl
theorem dq_249 : Cond.methodLink "NearLiars$Run" (59 : Nat) ({ cls := "NearLiars$Run", name := "leastFree", desc := "(I)I" } : Jvm.MethodName) ∈ dp_g := dp_at 249 (by decide +kernel) rfl
theorem dq_250 : Cond.static ({ cls := "NearLiars$Run", name := "leastFree", desc := "(I)I" } : Jvm.MethodName) ∈ dp_g := dp_at 250 (by decide +kernel) rfl
set_option maxRecDepth 20000 in
theorem dq_251 : Cond.code ({ cls := "NearLiars$Run", name := "leastFree", desc := "(I)I" } : Jvm.MethodName) prog_5_method_5_code (2 : Nat) (Option.some Jvm.ClassFile.FieldType.int) ∈ dp_g := dp_at 251 rfl rfl
theorem dq_252 : Cond.methodLinkNest "NearLiars$Run" (76 : Nat) ({ cls := "NearLiars", name := "isIn", desc := "(II)Z" } : Jvm.MethodName) "NearLiars" ∈ dp_nw := dp_nat 252 (by decide +kernel) rfl
theorem dq_253 : Cond.methodLink "NearLiars$Run" (63 : Nat) ({ cls := "java/lang/Math", name := "max", desc := "(II)I" } : Jvm.MethodName) ∈ dp_g := dp_at 253 (by decide +kernel) rfl
theorem dq_254 : Cond.static ({ cls := "java/lang/Math", name := "max", desc := "(II)I" } : Jvm.MethodName) ∈ dp_g := dp_at 254 (by decide +kernel) rfl
set_option maxRecDepth 20000 in
theorem dq_255 : Cond.code ({ cls := "java/lang/Math", name := "max", desc := "(II)I" } : Jvm.MethodName) prog_10_method_65_code (2 : Nat) (Option.some Jvm.ClassFile.FieldType.int) ∈ dp_g := dp_at 255 rfl rfl
theorem dq_256 : Cond.methodLink "NearLiars$Run" (38 : Nat) ({ cls := "java/util/Arrays", name := "fill", desc := "([II)V" } : Jvm.MethodName) ∈ dp_g := dp_at 256 (by decide +kernel) rfl
theorem dq_257 : Cond.fieldLink "NearLiars" (10 : Nat) "NearLiars" "net" "LNearLiars$Net;" ∈ dp_g := dp_at 257 (by decide +kernel) rfl
theorem dq_258 : Cond.fieldLink "NearLiars" (19 : Nat) "NearLiars" "run" "LNearLiars$Run;" ∈ dp_g := dp_at 258 (by decide +kernel) rfl
theorem dq_259 : Cond.fieldLink "NearLiars" (26 : Nat) "NearLiars" "survey" "LNearLiars$Survey;" ∈ dp_g := dp_at 259 (by decide +kernel) rfl
theorem dq_260 : Cond.fieldLink "NearLiars" (33 : Nat) "NearLiars" "names" "LNearLiars$Names;" ∈ dp_g := dp_at 260 (by decide +kernel) rfl
theorem dq_261 : Cond.fieldLink "NearLiars" (40 : Nat) "NearLiars" "claims" "LNearLiars$Claims;" ∈ dp_g := dp_at 261 (by decide +kernel) rfl
theorem dq_273 : Cond.methodLink "NearLiarsLaw" (13 : Nat) ({ cls := "NearLiars", name := "net", desc := "(I)I" } : Jvm.MethodName) ∈ dp_g := dp_at 273 (by decide +kernel) rfl
theorem dq_274 : Cond.instanceMethod ({ cls := "NearLiars", name := "net", desc := "(I)I" } : Jvm.MethodName) ∈ dp_g := dp_at 274 (by decide +kernel) rfl
theorem dq_275 : Cond.selects "NearLiars" ({ cls := "NearLiars", name := "net", desc := "(I)I" } : Jvm.MethodName) ({ cls := "NearLiars", name := "net", desc := "(I)I" } : Jvm.MethodName) ∈ dp_g := dp_at 275 (by decide +kernel) rfl
set_option maxRecDepth 20000 in
theorem dq_276 : Cond.code ({ cls := "NearLiars", name := "net", desc := "(I)I" } : Jvm.MethodName) prog_1_method_2_code (2 : Nat) (Option.some Jvm.ClassFile.FieldType.int) ∈ dp_g := dp_at 276 rfl rfl
theorem dq_277 : Cond.methodLink "NearLiars" (48 : Nat) ({ cls := "NearLiars", name := "layAnew", desc := "(III)I" } : Jvm.MethodName) ∈ dp_g := dp_at 277 (by decide +kernel) rfl
theorem dq_279 : Cond.instanceMethod ({ cls := "NearLiars", name := "layAnew", desc := "(III)I" } : Jvm.MethodName) ∈ dp_g := dp_at 279 (by decide +kernel) rfl
set_option maxRecDepth 20000 in
theorem dq_280 : Cond.code ({ cls := "NearLiars", name := "layAnew", desc := "(III)I" } : Jvm.MethodName) prog_1_method_27_code (4 : Nat) (Option.some Jvm.ClassFile.FieldType.int) ∈ dp_g := dp_at 280 rfl rfl
theorem dq_281 : Cond.methodLink "NearLiars" (229 : Nat) ({ cls := "NearLiars$Net", name := "lay", desc := "(III)V" } : Jvm.MethodName) ∈ dp_g := dp_at 281 (by decide +kernel) rfl
theorem dq_282 : Cond.methodLink "NearLiars" (233 : Nat) ({ cls := "NearLiars$Names", name := "forget", desc := "()V" } : Jvm.MethodName) ∈ dp_g := dp_at 282 (by decide +kernel) rfl
theorem dq_283 : Cond.instanceMethod ({ cls := "NearLiars$Names", name := "forget", desc := "()V" } : Jvm.MethodName) ∈ dp_g := dp_at 283 (by decide +kernel) rfl
theorem dq_284 : Cond.selects "NearLiars$Names" ({ cls := "NearLiars$Names", name := "forget", desc := "()V" } : Jvm.MethodName) ({ cls := "NearLiars$Names", name := "forget", desc := "()V" } : Jvm.MethodName) ∈ dp_g := dp_at 284 (by decide +kernel) rfl
set_option maxRecDepth 20000 in
theorem dq_285 : Cond.code ({ cls := "NearLiars$Names", name := "forget", desc := "()V" } : Jvm.MethodName) prog_3_method_2_code (1 : Nat) (Option.none : Option Jvm.ClassFile.FieldType) ∈ dp_g := dp_at 285 rfl rfl
theorem dq_286 : Cond.methodLink "NearLiars" (64 : Nat) ({ cls := "NearLiars$Claims", name := "forget", desc := "()V" } : Jvm.MethodName) ∈ dp_g := dp_at 286 (by decide +kernel) rfl
theorem dq_287 : Cond.instanceMethod ({ cls := "NearLiars$Claims", name := "forget", desc := "()V" } : Jvm.MethodName) ∈ dp_g := dp_at 287 (by decide +kernel) rfl
theorem dq_288 : Cond.selects "NearLiars$Claims" ({ cls := "NearLiars$Claims", name := "forget", desc := "()V" } : Jvm.MethodName) ({ cls := "NearLiars$Claims", name := "forget", desc := "()V" } : Jvm.MethodName) ∈ dp_g := dp_at 288 (by decide +kernel) rfl
set_option maxRecDepth 20000 in
theorem dq_289 : Cond.code ({ cls := "NearLiars$Claims", name := "forget", desc := "()V" } : Jvm.MethodName) prog_2_method_2_code (1 : Nat) (Option.none : Option Jvm.ClassFile.FieldType) ∈ dp_g := dp_at 289 rfl rfl
theorem dq_290 : Cond.methodLink "NearLiars$Claims" (30 : Nat) ({ cls := "NearLiars$Claims", name := "letGo", desc := "()V" } : Jvm.MethodName) ∈ dp_g := dp_at 290 (by decide +kernel) rfl
theorem dq_291 : Cond.instanceMethod ({ cls := "NearLiars$Claims", name := "letGo", desc := "()V" } : Jvm.MethodName) ∈ dp_g := dp_at 291 (by decide +kernel) rfl
theorem dq_292 : Cond.selects "NearLiars$Claims" ({ cls := "NearLiars$Claims", name := "letGo", desc := "()V" } : Jvm.MethodName) ({ cls := "NearLiars$Claims", name := "letGo", desc := "()V" } : Jvm.MethodName) ∈ dp_g := dp_at 292 (by decide +kernel) rfl
set_option maxRecDepth 20000 in
theorem dq_293 : Cond.code ({ cls := "NearLiars$Claims", name := "letGo", desc := "()V" } : Jvm.MethodName) prog_2_method_3_code (1 : Nat) (Option.none : Option Jvm.ClassFile.FieldType) ∈ dp_g := dp_at 293 rfl rfl
theorem dq_294 : Cond.methodLink "NearLiarsLaw" (18 : Nat) ({ cls := "NearLiars", name := "grid", desc := "(III)I" } : Jvm.MethodName) ∈ dp_g := dp_at 294 (by decide +kernel) rfl
theorem dq_295 : Cond.instanceMethod ({ cls := "NearLiars", name := "grid", desc := "(III)I" } : Jvm.MethodName) ∈ dp_g := dp_at 295 (by decide +kernel) rfl
theorem dq_296 : Cond.selects "NearLiars" ({ cls := "NearLiars", name := "grid", desc := "(III)I" } : Jvm.MethodName) ({ cls := "NearLiars", name := "grid", desc := "(III)I" } : Jvm.MethodName) ∈ dp_g := dp_at 296 (by decide +kernel) rfl
set_option maxRecDepth 20000 in
theorem dq_297 : Cond.code ({ cls := "NearLiars", name := "grid", desc := "(III)I" } : Jvm.MethodName) prog_1_method_3_code (4 : Nat) (Option.some Jvm.ClassFile.FieldType.int) ∈ dp_g := dp_at 297 rfl rfl
theorem dq_298 : Cond.methodLink "NearLiarsLaw" (23 : Nat) ({ cls := "NearLiars", name := "edge", desc := "(III)I" } : Jvm.MethodName) ∈ dp_g := dp_at 298 (by decide +kernel) rfl
theorem dq_299 : Cond.instanceMethod ({ cls := "NearLiars", name := "edge", desc := "(III)I" } : Jvm.MethodName) ∈ dp_g := dp_at 299 (by decide +kernel) rfl
theorem dq_300 : Cond.selects "NearLiars" ({ cls := "NearLiars", name := "edge", desc := "(III)I" } : Jvm.MethodName) ({ cls := "NearLiars", name := "edge", desc := "(III)I" } : Jvm.MethodName) ∈ dp_g := dp_at 300 (by decide +kernel) rfl
set_option maxRecDepth 20000 in
theorem dq_301 : Cond.code ({ cls := "NearLiars", name := "edge", desc := "(III)I" } : Jvm.MethodName) prog_1_method_4_code (5 : Nat) (Option.some Jvm.ClassFile.FieldType.int) ∈ dp_g := dp_at 301 rfl rfl
theorem dq_302 : Cond.methodLink "NearLiars" (52 : Nat) ({ cls := "NearLiars$Net", name := "has", desc := "(I)Z" } : Jvm.MethodName) ∈ dp_g := dp_at 302 (by decide +kernel) rfl
theorem dq_303 : Cond.instanceMethod ({ cls := "NearLiars$Net", name := "has", desc := "(I)Z" } : Jvm.MethodName) ∈ dp_g := dp_at 303 (by decide +kernel) rfl
theorem dq_304 : Cond.selects "NearLiars$Net" ({ cls := "NearLiars$Net", name := "has", desc := "(I)Z" } : Jvm.MethodName) ({ cls := "NearLiars$Net", name := "has", desc := "(I)Z" } : Jvm.MethodName) ∈ dp_g := dp_at 304 (by decide +kernel) rfl
set_option maxRecDepth 20000 in
theorem dq_305 : Cond.code ({ cls := "NearLiars$Net", name := "has", desc := "(I)Z" } : Jvm.MethodName) prog_4_method_4_code (2 : Nat) (Option.some Jvm.ClassFile.FieldType.boolean) ∈ dp_g := dp_at 305 rfl rfl
theorem dq_306 : Cond.methodLink "NearLiars" (56 : Nat) ({ cls := "NearLiars$Net", name := "areLinked", desc := "(II)Z" } : Jvm.MethodName) ∈ dp_g := dp_at 306 (by decide +kernel) rfl
theorem dq_307 : Cond.methodLink "NearLiars" (60 : Nat) ({ cls := "NearLiars$Net", name := "link", desc := "(IIZ)V" } : Jvm.MethodName) ∈ dp_g := dp_at 307 (by decide +kernel) rfl
theorem dq_308 : Cond.instanceMethod ({ cls := "NearLiars$Net", name := "link", desc := "(IIZ)V" } : Jvm.MethodName) ∈ dp_g := dp_at 308 (by decide +kernel) rfl
theorem dq_309 : Cond.selects "NearLiars$Net" ({ cls := "NearLiars$Net", name := "link", desc := "(IIZ)V" } : Jvm.MethodName) ({ cls := "NearLiars$Net", name := "link", desc := "(IIZ)V" } : Jvm.MethodName) ∈ dp_g := dp_at 309 (by decide +kernel) rfl
set_option maxRecDepth 20000 in
theorem dq_310 : Cond.code ({ cls := "NearLiars$Net", name := "link", desc := "(IIZ)V" } : Jvm.MethodName) prog_4_method_6_code (4 : Nat) (Option.none : Option Jvm.ClassFile.FieldType) ∈ dp_g := dp_at 310 rfl rfl
theorem dq_311 : Cond.methodLink "NearLiarsLaw" (27 : Nat) ({ cls := "NearLiars", name := "neighbours", desc := "(I)I" } : Jvm.MethodName) ∈ dp_g := dp_at 311 (by decide +kernel) rfl
theorem dq_312 : Cond.instanceMethod ({ cls := "NearLiars", name := "neighbours", desc := "(I)I" } : Jvm.MethodName) ∈ dp_g := dp_at 312 (by decide +kernel) rfl
theorem dq_313 : Cond.selects "NearLiars" ({ cls := "NearLiars", name := "neighbours", desc := "(I)I" } : Jvm.MethodName) ({ cls := "NearLiars", name := "neighbours", desc := "(I)I" } : Jvm.MethodName) ∈ dp_g := dp_at 313 (by decide +kernel) rfl
set_option maxRecDepth 20000 in
theorem dq_314 : Cond.code ({ cls := "NearLiars", name := "neighbours", desc := "(I)I" } : Jvm.MethodName) prog_1_method_5_code (2 : Nat) (Option.some Jvm.ClassFile.FieldType.int) ∈ dp_g := dp_at 314 rfl rfl
theorem dq_315 : Cond.methodLink "NearLiarsLaw" (31 : Nat) ({ cls := "NearLiars", name := "dealer", desc := "(II)I" } : Jvm.MethodName) ∈ dp_g := dp_at 315 (by decide +kernel) rfl
theorem dq_316 : Cond.instanceMethod ({ cls := "NearLiars", name := "dealer", desc := "(II)I" } : Jvm.MethodName) ∈ dp_g := dp_at 316 (by decide +kernel) rfl
theorem dq_317 : Cond.selects "NearLiars" ({ cls := "NearLiars", name := "dealer", desc := "(II)I" } : Jvm.MethodName) ({ cls := "NearLiars", name := "dealer", desc := "(II)I" } : Jvm.MethodName) ∈ dp_g := dp_at 317 (by decide +kernel) rfl
set_option maxRecDepth 20000 in
theorem dq_318 : Cond.code ({ cls := "NearLiars", name := "dealer", desc := "(II)I" } : Jvm.MethodName) prog_1_method_6_code (4 : Nat) (Option.some Jvm.ClassFile.FieldType.int) ∈ dp_g := dp_at 318 rfl rfl
theorem dq_319 : Cond.methodLink "NearLiars" (71 : Nat) ({ cls := "NearLiars", name := "isValue", desc := "(I)Z" } : Jvm.MethodName) ∈ dp_g := dp_at 319 (by decide +kernel) rfl
theorem dq_320 : Cond.static ({ cls := "NearLiars", name := "isValue", desc := "(I)Z" } : Jvm.MethodName) ∈ dp_g := dp_at 320 (by decide +kernel) rfl
set_option maxRecDepth 20000 in
theorem dq_321 : Cond.code ({ cls := "NearLiars", name := "isValue", desc := "(I)Z" } : Jvm.MethodName) prog_1_method_28_code (1 : Nat) (Option.some Jvm.ClassFile.FieldType.boolean) ∈ dp_g := dp_at 321 rfl rfl
theorem dq_322 : Cond.methodLink "NearLiarsLaw" (36 : Nat) ({ cls := "NearLiars", name := "need", desc := "(I)I" } : Jvm.MethodName) ∈ dp_g := dp_at 322 (by decide +kernel) rfl
theorem dq_323 : Cond.instanceMethod ({ cls := "NearLiars", name := "need", desc := "(I)I" } : Jvm.MethodName) ∈ dp_g := dp_at 323 (by decide +kernel) rfl
theorem dq_324 : Cond.selects "NearLiars" ({ cls := "NearLiars", name := "need", desc := "(I)I" } : Jvm.MethodName) ({ cls := "NearLiars", name := "need", desc := "(I)I" } : Jvm.MethodName) ∈ dp_g := dp_at 324 (by decide +kernel) rfl
set_option maxRecDepth 20000 in
theorem dq_325 : Cond.code ({ cls := "NearLiars", name := "need", desc := "(I)I" } : Jvm.MethodName) prog_1_method_7_code (3 : Nat) (Option.some Jvm.ClassFile.FieldType.int) ∈ dp_g := dp_at 325 rfl rfl
theorem dq_326 : Cond.methodLink "NearLiarsLaw" (40 : Nat) ({ cls := "NearLiars", name := "lie", desc := "(II)I" } : Jvm.MethodName) ∈ dp_g := dp_at 326 (by decide +kernel) rfl
theorem dq_327 : Cond.instanceMethod ({ cls := "NearLiars", name := "lie", desc := "(II)I" } : Jvm.MethodName) ∈ dp_g := dp_at 327 (by decide +kernel) rfl
theorem dq_328 : Cond.selects "NearLiars" ({ cls := "NearLiars", name := "lie", desc := "(II)I" } : Jvm.MethodName) ({ cls := "NearLiars", name := "lie", desc := "(II)I" } : Jvm.MethodName) ∈ dp_g := dp_at 328 (by decide +kernel) rfl
set_option maxRecDepth 20000 in
theorem dq_329 : Cond.code ({ cls := "NearLiars", name := "lie", desc := "(II)I" } : Jvm.MethodName) prog_1_method_8_code (4 : Nat) (Option.some Jvm.ClassFile.FieldType.int) ∈ dp_g := dp_at 329 rfl rfl
theorem dq_330 : Cond.methodLink "NearLiarsLaw" (44 : Nat) ({ cls := "NearLiars", name := "begin", desc := "()I" } : Jvm.MethodName) ∈ dp_g := dp_at 330 (by decide +kernel) rfl
theorem dq_331 : Cond.instanceMethod ({ cls := "NearLiars", name := "begin", desc := "()I" } : Jvm.MethodName) ∈ dp_g := dp_at 331 (by decide +kernel) rfl
theorem dq_332 : Cond.selects "NearLiars" ({ cls := "NearLiars", name := "begin", desc := "()I" } : Jvm.MethodName) ({ cls := "NearLiars", name := "begin", desc := "()I" } : Jvm.MethodName) ∈ dp_g := dp_at 332 (by decide +kernel) rfl
set_option maxRecDepth 20000 in
theorem dq_333 : Cond.code ({ cls := "NearLiars", name := "begin", desc := "()I" } : Jvm.MethodName) prog_1_method_9_code (2 : Nat) (Option.some Jvm.ClassFile.FieldType.int) ∈ dp_g := dp_at 333 rfl rfl
theorem dq_334 : Cond.methodLink "NearLiarsLaw" (49 : Nat) ({ cls := "NearLiars", name := "ticks", desc := "(I)I" } : Jvm.MethodName) ∈ dp_g := dp_at 334 (by decide +kernel) rfl
theorem dq_335 : Cond.instanceMethod ({ cls := "NearLiars", name := "ticks", desc := "(I)I" } : Jvm.MethodName) ∈ dp_g := dp_at 335 (by decide +kernel) rfl
theorem dq_336 : Cond.selects "NearLiars" ({ cls := "NearLiars", name := "ticks", desc := "(I)I" } : Jvm.MethodName) ({ cls := "NearLiars", name := "ticks", desc := "(I)I" } : Jvm.MethodName) ∈ dp_g := dp_at 336 (by decide +kernel) rfl
set_option maxRecDepth 20000 in
theorem dq_337 : Cond.code ({ cls := "NearLiars", name := "ticks", desc := "(I)I" } : Jvm.MethodName) prog_1_method_10_code (4 : Nat) (Option.some Jvm.ClassFile.FieldType.int) ∈ dp_g := dp_at 337 rfl rfl
theorem dq_338 : Cond.methodLink "NearLiars" (90 : Nat) ({ cls := "NearLiars$Run", name := "pass", desc := "(LNearLiars$Net;)I" } : Jvm.MethodName) ∈ dp_g := dp_at 338 (by decide +kernel) rfl
theorem dq_339 : Cond.instanceMethod ({ cls := "NearLiars$Run", name := "pass", desc := "(LNearLiars$Net;)I" } : Jvm.MethodName) ∈ dp_g := dp_at 339 (by decide +kernel) rfl
theorem dq_340 : Cond.selects "NearLiars$Run" ({ cls := "NearLiars$Run", name := "pass", desc := "(LNearLiars$Net;)I" } : Jvm.MethodName) ({ cls := "NearLiars$Run", name := "pass", desc := "(LNearLiars$Net;)I" } : Jvm.MethodName) ∈ dp_g := dp_at 340 (by decide +kernel) rfl
set_option maxRecDepth 20000 in
theorem dq_341 : Cond.code ({ cls := "NearLiars$Run", name := "pass", desc := "(LNearLiars$Net;)I" } : Jvm.MethodName) prog_5_method_6_code (5 : Nat) (Option.some Jvm.ClassFile.FieldType.int) ∈ dp_g := dp_at 341 rfl rfl
theorem dq_342 : Cond.methodLink "NearLiars$Run" (79 : Nat) ({ cls := "NearLiars$Run", name := "speak", desc := "(LNearLiars$Net;I)I" } : Jvm.MethodName) ∈ dp_g := dp_at 342 (by decide +kernel) rfl
theorem dq_344 : Cond.instanceMethod ({ cls := "NearLiars$Run", name := "speak", desc := "(LNearLiars$Net;I)I" } : Jvm.MethodName) ∈ dp_g := dp_at 344 (by decide +kernel) rfl
set_option maxRecDepth 20000 in
theorem dq_345 : Cond.code ({ cls := "NearLiars$Run", name := "speak", desc := "(LNearLiars$Net;I)I" } : Jvm.MethodName) prog_5_method_7_code (6 : Nat) (Option.some Jvm.ClassFile.FieldType.int) ∈ dp_g := dp_at 345 rfl rfl
theorem dq_346 : Cond.methodLinkNest "NearLiars$Run" (85 : Nat) ({ cls := "NearLiars", name := "isValue", desc := "(I)Z" } : Jvm.MethodName) "NearLiars" ∈ dp_nw := dp_nat 346 (by decide +kernel) rfl
theorem dq_347 : Cond.methodLink "NearLiars$Run" (89 : Nat) ({ cls := "NearLiars$Run", name := "hear", desc := "(LNearLiars$Net;III)I" } : Jvm.MethodName) ∈ dp_g := dp_at 347 (by decide +kernel) rfl
theorem dq_349 : Cond.instanceMethod ({ cls := "NearLiars$Run", name := "hear", desc := "(LNearLiars$Net;III)I" } : Jvm.MethodName) ∈ dp_g := dp_at 349 (by decide +kernel) rfl
set_option maxRecDepth 20000 in
theorem dq_350 : Cond.code ({ cls := "NearLiars$Run", name := "hear", desc := "(LNearLiars$Net;III)I" } : Jvm.MethodName) prog_5_method_8_code (5 : Nat) (Option.some Jvm.ClassFile.FieldType.int) ∈ dp_g := dp_at 350 rfl rfl
theorem dq_351 : Cond.methodLink "NearLiars$Run" (93 : Nat) ({ cls := "NearLiars$Run", name := "heardOf", desc := "(II)I" } : Jvm.MethodName) ∈ dp_g := dp_at 351 (by decide +kernel) rfl
theorem dq_352 : Cond.instanceMethod ({ cls := "NearLiars$Run", name := "heardOf", desc := "(II)I" } : Jvm.MethodName) ∈ dp_g := dp_at 352 (by decide +kernel) rfl
theorem dq_353 : Cond.selects "NearLiars$Run" ({ cls := "NearLiars$Run", name := "heardOf", desc := "(II)I" } : Jvm.MethodName) ({ cls := "NearLiars$Run", name := "heardOf", desc := "(II)I" } : Jvm.MethodName) ∈ dp_g := dp_at 353 (by decide +kernel) rfl
set_option maxRecDepth 20000 in
theorem dq_354 : Cond.code ({ cls := "NearLiars$Run", name := "heardOf", desc := "(II)I" } : Jvm.MethodName) prog_5_method_9_code (3 : Nat) (Option.some Jvm.ClassFile.FieldType.int) ∈ dp_g := dp_at 354 rfl rfl
theorem dq_355 : Cond.methodLink "NearLiarsLaw" (53 : Nat) ({ cls := "NearLiars", name := "node", desc := "(II)I" } : Jvm.MethodName) ∈ dp_g := dp_at 355 (by decide +kernel) rfl
theorem dq_356 : Cond.instanceMethod ({ cls := "NearLiars", name := "node", desc := "(II)I" } : Jvm.MethodName) ∈ dp_g := dp_at 356 (by decide +kernel) rfl
theorem dq_357 : Cond.selects "NearLiars" ({ cls := "NearLiars", name := "node", desc := "(II)I" } : Jvm.MethodName) ({ cls := "NearLiars", name := "node", desc := "(II)I" } : Jvm.MethodName) ∈ dp_g := dp_at 357 (by decide +kernel) rfl
set_option maxRecDepth 20000 in
theorem dq_358 : Cond.code ({ cls := "NearLiars", name := "node", desc := "(II)I" } : Jvm.MethodName) prog_1_method_11_code (3 : Nat) (Option.some Jvm.ClassFile.FieldType.int) ∈ dp_g := dp_at 358 rfl rfl
theorem dq_359 : Cond.methodLink "NearLiars" (94 : Nat) ({ cls := "NearLiars$Run", name := "heardOf", desc := "(II)I" } : Jvm.MethodName) ∈ dp_g := dp_at 359 (by decide +kernel) rfl
theorem dq_360 : Cond.methodLink "NearLiars" (107 : Nat) ({ cls := "NearLiars$Run", name := "heardInAll", desc := "(I)I" } : Jvm.MethodName) ∈ dp_g := dp_at 360 (by decide +kernel) rfl
theorem dq_361 : Cond.instanceMethod ({ cls := "NearLiars$Run", name := "heardInAll", desc := "(I)I" } : Jvm.MethodName) ∈ dp_g := dp_at 361 (by decide +kernel) rfl
theorem dq_362 : Cond.selects "NearLiars$Run" ({ cls := "NearLiars$Run", name := "heardInAll", desc := "(I)I" } : Jvm.MethodName) ({ cls := "NearLiars$Run", name := "heardInAll", desc := "(I)I" } : Jvm.MethodName) ∈ dp_g := dp_at 362 (by decide +kernel) rfl
set_option maxRecDepth 20000 in
theorem dq_363 : Cond.code ({ cls := "NearLiars$Run", name := "heardInAll", desc := "(I)I" } : Jvm.MethodName) prog_5_method_10_code (4 : Nat) (Option.some Jvm.ClassFile.FieldType.int) ∈ dp_g := dp_at 363 rfl rfl
theorem dq_364 : Cond.methodLink "NearLiarsLaw" (57 : Nat) ({ cls := "NearLiars", name := "band", desc := "(II)I" } : Jvm.MethodName) ∈ dp_g := dp_at 364 (by decide +kernel) rfl
theorem dq_365 : Cond.instanceMethod ({ cls := "NearLiars", name := "band", desc := "(II)I" } : Jvm.MethodName) ∈ dp_g := dp_at 365 (by decide +kernel) rfl
theorem dq_366 : Cond.selects "NearLiars" ({ cls := "NearLiars", name := "band", desc := "(II)I" } : Jvm.MethodName) ({ cls := "NearLiars", name := "band", desc := "(II)I" } : Jvm.MethodName) ∈ dp_g := dp_at 366 (by decide +kernel) rfl
set_option maxRecDepth 20000 in
theorem dq_367 : Cond.code ({ cls := "NearLiars", name := "band", desc := "(II)I" } : Jvm.MethodName) prog_1_method_12_code (4 : Nat) (Option.some Jvm.ClassFile.FieldType.int) ∈ dp_g := dp_at 367 rfl rfl
theorem dq_368 : Cond.methodLink "NearLiars" (117 : Nat) ({ cls := "NearLiars$Net", name := "row", desc := "(I)I" } : Jvm.MethodName) ∈ dp_g := dp_at 368 (by decide +kernel) rfl
theorem dq_369 : Cond.instanceMethod ({ cls := "NearLiars$Net", name := "row", desc := "(I)I" } : Jvm.MethodName) ∈ dp_g := dp_at 369 (by decide +kernel) rfl
theorem dq_370 : Cond.selects "NearLiars$Net" ({ cls := "NearLiars$Net", name := "row", desc := "(I)I" } : Jvm.MethodName) ({ cls := "NearLiars$Net", name := "row", desc := "(I)I" } : Jvm.MethodName) ∈ dp_g := dp_at 370 (by decide +kernel) rfl
set_option maxRecDepth 20000 in
theorem dq_371 : Cond.code ({ cls := "NearLiars$Net", name := "row", desc := "(I)I" } : Jvm.MethodName) prog_4_method_9_code (2 : Nat) (Option.some Jvm.ClassFile.FieldType.int) ∈ dp_g := dp_at 371 rfl rfl
theorem dq_372 : Cond.methodLink "NearLiars" (120 : Nat) ({ cls := "NearLiars$Net", name := "liars", desc := "()I" } : Jvm.MethodName) ∈ dp_g := dp_at 372 (by decide +kernel) rfl
theorem dq_373 : Cond.instanceMethod ({ cls := "NearLiars$Net", name := "liars", desc := "()I" } : Jvm.MethodName) ∈ dp_g := dp_at 373 (by decide +kernel) rfl
theorem dq_374 : Cond.selects "NearLiars$Net" ({ cls := "NearLiars$Net", name := "liars", desc := "()I" } : Jvm.MethodName) ({ cls := "NearLiars$Net", name := "liars", desc := "()I" } : Jvm.MethodName) ∈ dp_g := dp_at 374 (by decide +kernel) rfl
set_option maxRecDepth 20000 in
theorem dq_375 : Cond.code ({ cls := "NearLiars$Net", name := "liars", desc := "()I" } : Jvm.MethodName) prog_4_method_10_code (3 : Nat) (Option.some Jvm.ClassFile.FieldType.int) ∈ dp_g := dp_at 375 rfl rfl
theorem dq_376 : Cond.methodLink "NearLiars" (124 : Nat) ({ cls := "java/lang/Integer", name := "bitCount", desc := "(I)I" } : Jvm.MethodName) ∈ dp_g := dp_at 376 (by decide +kernel) rfl
theorem dq_377 : Cond.static ({ cls := "java/lang/Integer", name := "bitCount", desc := "(I)I" } : Jvm.MethodName) ∈ dp_g := dp_at 377 (by decide +kernel) rfl
set_option maxRecDepth 20000 in
theorem dq_378 : Cond.code ({ cls := "java/lang/Integer", name := "bitCount", desc := "(I)I" } : Jvm.MethodName) prog_9_method_49_code (1 : Nat) (Option.some Jvm.ClassFile.FieldType.int) ∈ dp_g := dp_at 378 rfl rfl
theorem dq_379 : Cond.constant "java/lang/Integer" (265 : Nat) (1431655765 : Int32) ∈ dp_g := dp_at 379 (by decide +kernel) rfl
theorem dq_380 : Cond.constant "java/lang/Integer" (266 : Nat) (858993459 : Int32) ∈ dp_g := dp_at 380 (by decide +kernel) rfl
theorem dq_381 : Cond.constant "java/lang/Integer" (267 : Nat) (252645135 : Int32) ∈ dp_g := dp_at 381 (by decide +kernel) rfl
theorem dq_382 : Cond.methodLink "NearLiars" (129 : Nat) ({ cls := "NearLiars$Run", name := "right", desc := "(LNearLiars$Net;I)I" } : Jvm.MethodName) ∈ dp_g := dp_at 382 (by decide +kernel) rfl
theorem dq_383 : Cond.instanceMethod ({ cls := "NearLiars$Run", name := "right", desc := "(LNearLiars$Net;I)I" } : Jvm.MethodName) ∈ dp_g := dp_at 383 (by decide +kernel) rfl
theorem dq_384 : Cond.selects "NearLiars$Run" ({ cls := "NearLiars$Run", name := "right", desc := "(LNearLiars$Net;I)I" } : Jvm.MethodName) ({ cls := "NearLiars$Run", name := "right", desc := "(LNearLiars$Net;I)I" } : Jvm.MethodName) ∈ dp_g := dp_at 384 (by decide +kernel) rfl
set_option maxRecDepth 20000 in
theorem dq_385 : Cond.code ({ cls := "NearLiars$Run", name := "right", desc := "(LNearLiars$Net;I)I" } : Jvm.MethodName) prog_5_method_11_code (5 : Nat) (Option.some Jvm.ClassFile.FieldType.int) ∈ dp_g := dp_at 385 rfl rfl
theorem dq_386 : Cond.methodLink "NearLiars" (133 : Nat) ({ cls := "NearLiars$Run", name := "misled", desc := "(LNearLiars$Net;I)I" } : Jvm.MethodName) ∈ dp_g := dp_at 386 (by decide +kernel) rfl
theorem dq_387 : Cond.instanceMethod ({ cls := "NearLiars$Run", name := "misled", desc := "(LNearLiars$Net;I)I" } : Jvm.MethodName) ∈ dp_g := dp_at 387 (by decide +kernel) rfl
theorem dq_388 : Cond.selects "NearLiars$Run" ({ cls := "NearLiars$Run", name := "misled", desc := "(LNearLiars$Net;I)I" } : Jvm.MethodName) ({ cls := "NearLiars$Run", name := "misled", desc := "(LNearLiars$Net;I)I" } : Jvm.MethodName) ∈ dp_g := dp_at 388 (by decide +kernel) rfl
set_option maxRecDepth 20000 in
theorem dq_389 : Cond.code ({ cls := "NearLiars$Run", name := "misled", desc := "(LNearLiars$Net;I)I" } : Jvm.MethodName) prog_5_method_12_code (5 : Nat) (Option.some Jvm.ClassFile.FieldType.int) ∈ dp_g := dp_at 389 rfl rfl
theorem dq_390 : Cond.methodLink "NearLiars" (136 : Nat) ({ cls := "NearLiars$Run", name := "lastTake", desc := "(LNearLiars$Net;I)I" } : Jvm.MethodName) ∈ dp_g := dp_at 390 (by decide +kernel) rfl
theorem dq_391 : Cond.instanceMethod ({ cls := "NearLiars$Run", name := "lastTake", desc := "(LNearLiars$Net;I)I" } : Jvm.MethodName) ∈ dp_g := dp_at 391 (by decide +kernel) rfl
theorem dq_392 : Cond.selects "NearLiars$Run" ({ cls := "NearLiars$Run", name := "lastTake", desc := "(LNearLiars$Net;I)I" } : Jvm.MethodName) ({ cls := "NearLiars$Run", name := "lastTake", desc := "(LNearLiars$Net;I)I" } : Jvm.MethodName) ∈ dp_g := dp_at 392 (by decide +kernel) rfl
set_option maxRecDepth 20000 in
theorem dq_393 : Cond.code ({ cls := "NearLiars$Run", name := "lastTake", desc := "(LNearLiars$Net;I)I" } : Jvm.MethodName) prog_5_method_13_code (5 : Nat) (Option.some Jvm.ClassFile.FieldType.int) ∈ dp_g := dp_at 393 rfl rfl
theorem dq_394 : Cond.methodLink "NearLiarsLaw" (61 : Nat) ({ cls := "NearLiars", name := "sort", desc := "(I)I" } : Jvm.MethodName) ∈ dp_g := dp_at 394 (by decide +kernel) rfl
theorem dq_395 : Cond.instanceMethod ({ cls := "NearLiars", name := "sort", desc := "(I)I" } : Jvm.MethodName) ∈ dp_g := dp_at 395 (by decide +kernel) rfl
theorem dq_396 : Cond.selects "NearLiars" ({ cls := "NearLiars", name := "sort", desc := "(I)I" } : Jvm.MethodName) ({ cls := "NearLiars", name := "sort", desc := "(I)I" } : Jvm.MethodName) ∈ dp_g := dp_at 396 (by decide +kernel) rfl
set_option maxRecDepth 20000 in
theorem dq_397 : Cond.code ({ cls := "NearLiars", name := "sort", desc := "(I)I" } : Jvm.MethodName) prog_1_method_13_code (2 : Nat) (Option.some Jvm.ClassFile.FieldType.int) ∈ dp_g := dp_at 397 rfl rfl
theorem dq_398 : Cond.methodLink "NearLiars" (139 : Nat) ({ cls := "NearLiars$Net", name := "isSet", desc := "(I)Z" } : Jvm.MethodName) ∈ dp_g := dp_at 398 (by decide +kernel) rfl
theorem dq_399 : Cond.instanceMethod ({ cls := "NearLiars$Net", name := "isSet", desc := "(I)Z" } : Jvm.MethodName) ∈ dp_g := dp_at 399 (by decide +kernel) rfl
theorem dq_400 : Cond.selects "NearLiars$Net" ({ cls := "NearLiars$Net", name := "isSet", desc := "(I)Z" } : Jvm.MethodName) ({ cls := "NearLiars$Net", name := "isSet", desc := "(I)Z" } : Jvm.MethodName) ∈ dp_g := dp_at 400 (by decide +kernel) rfl
set_option maxRecDepth 20000 in
theorem dq_401 : Cond.code ({ cls := "NearLiars$Net", name := "isSet", desc := "(I)Z" } : Jvm.MethodName) prog_4_method_11_code (2 : Nat) (Option.some Jvm.ClassFile.FieldType.boolean) ∈ dp_g := dp_at 401 rfl rfl
theorem dq_402 : Cond.methodLink "NearLiars$Net" (66 : Nat) ({ cls := "NearLiars$Net", name := "all", desc := "()I" } : Jvm.MethodName) ∈ dp_g := dp_at 402 (by decide +kernel) rfl
theorem dq_403 : Cond.instanceMethod ({ cls := "NearLiars$Net", name := "all", desc := "()I" } : Jvm.MethodName) ∈ dp_g := dp_at 403 (by decide +kernel) rfl
theorem dq_404 : Cond.selects "NearLiars$Net" ({ cls := "NearLiars$Net", name := "all", desc := "()I" } : Jvm.MethodName) ({ cls := "NearLiars$Net", name := "all", desc := "()I" } : Jvm.MethodName) ∈ dp_g := dp_at 404 (by decide +kernel) rfl
set_option maxRecDepth 20000 in
theorem dq_405 : Cond.code ({ cls := "NearLiars$Net", name := "all", desc := "()I" } : Jvm.MethodName) prog_4_method_8_code (1 : Nat) (Option.some Jvm.ClassFile.FieldType.int) ∈ dp_g := dp_at 405 rfl rfl
theorem dq_406 : Cond.methodLink "NearLiars" (142 : Nat) ({ cls := "NearLiars$Net", name := "isThin", desc := "(II)Z" } : Jvm.MethodName) ∈ dp_g := dp_at 406 (by decide +kernel) rfl
theorem dq_407 : Cond.instanceMethod ({ cls := "NearLiars$Net", name := "isThin", desc := "(II)Z" } : Jvm.MethodName) ∈ dp_g := dp_at 407 (by decide +kernel) rfl
theorem dq_408 : Cond.selects "NearLiars$Net" ({ cls := "NearLiars$Net", name := "isThin", desc := "(II)Z" } : Jvm.MethodName) ({ cls := "NearLiars$Net", name := "isThin", desc := "(II)Z" } : Jvm.MethodName) ∈ dp_g := dp_at 408 (by decide +kernel) rfl
set_option maxRecDepth 20000 in
theorem dq_409 : Cond.code ({ cls := "NearLiars$Net", name := "isThin", desc := "(II)Z" } : Jvm.MethodName) prog_4_method_13_code (3 : Nat) (Option.some Jvm.ClassFile.FieldType.boolean) ∈ dp_g := dp_at 409 rfl rfl
theorem dq_410 : Cond.methodLink "NearLiars$Net" (70 : Nat) ({ cls := "NearLiars$Net", name := "leastCrowded", desc := "(II)I" } : Jvm.MethodName) ∈ dp_g := dp_at 410 (by decide +kernel) rfl
theorem dq_411 : Cond.instanceMethod ({ cls := "NearLiars$Net", name := "leastCrowded", desc := "(II)I" } : Jvm.MethodName) ∈ dp_g := dp_at 411 (by decide +kernel) rfl
theorem dq_412 : Cond.selects "NearLiars$Net" ({ cls := "NearLiars$Net", name := "leastCrowded", desc := "(II)I" } : Jvm.MethodName) ({ cls := "NearLiars$Net", name := "leastCrowded", desc := "(II)I" } : Jvm.MethodName) ∈ dp_g := dp_at 412 (by decide +kernel) rfl
set_option maxRecDepth 20000 in
theorem dq_413 : Cond.code ({ cls := "NearLiars$Net", name := "leastCrowded", desc := "(II)I" } : Jvm.MethodName) prog_4_method_12_code (4 : Nat) (Option.some Jvm.ClassFile.FieldType.int) ∈ dp_g := dp_at 413 rfl rfl
theorem dq_414 : Cond.methodLink "NearLiars$Net" (61 : Nat) ({ cls := "java/lang/Integer", name := "bitCount", desc := "(I)I" } : Jvm.MethodName) ∈ dp_g := dp_at 414 (by decide +kernel) rfl
theorem dq_415 : Cond.methodLink "NearLiars" (145 : Nat) ({ cls := "NearLiars$Net", name := "cut", desc := "(II)I" } : Jvm.MethodName) ∈ dp_g := dp_at 415 (by decide +kernel) rfl
theorem dq_416 : Cond.instanceMethod ({ cls := "NearLiars$Net", name := "cut", desc := "(II)I" } : Jvm.MethodName) ∈ dp_g := dp_at 416 (by decide +kernel) rfl
theorem dq_417 : Cond.selects "NearLiars$Net" ({ cls := "NearLiars$Net", name := "cut", desc := "(II)I" } : Jvm.MethodName) ({ cls := "NearLiars$Net", name := "cut", desc := "(II)I" } : Jvm.MethodName) ∈ dp_g := dp_at 417 (by decide +kernel) rfl
set_option maxRecDepth 20000 in
theorem dq_418 : Cond.code ({ cls := "NearLiars$Net", name := "cut", desc := "(II)I" } : Jvm.MethodName) prog_4_method_16_code (3 : Nat) (Option.some Jvm.ClassFile.FieldType.int) ∈ dp_g := dp_at 418 rfl rfl
theorem dq_419 : Cond.methodLink "NearLiars$Net" (77 : Nat) ({ cls := "NearLiars$Net", name := "spread", desc := "(II)I" } : Jvm.MethodName) ∈ dp_g := dp_at 419 (by decide +kernel) rfl
theorem dq_420 : Cond.instanceMethod ({ cls := "NearLiars$Net", name := "spread", desc := "(II)I" } : Jvm.MethodName) ∈ dp_g := dp_at 420 (by decide +kernel) rfl
theorem dq_421 : Cond.selects "NearLiars$Net" ({ cls := "NearLiars$Net", name := "spread", desc := "(II)I" } : Jvm.MethodName) ({ cls := "NearLiars$Net", name := "spread", desc := "(II)I" } : Jvm.MethodName) ∈ dp_g := dp_at 421 (by decide +kernel) rfl
set_option maxRecDepth 20000 in
theorem dq_422 : Cond.code ({ cls := "NearLiars$Net", name := "spread", desc := "(II)I" } : Jvm.MethodName) prog_4_method_14_code (6 : Nat) (Option.some Jvm.ClassFile.FieldType.int) ∈ dp_g := dp_at 422 rfl rfl
theorem dq_423 : Cond.methodLink "NearLiars$Net" (74 : Nat) ({ cls := "NearLiars$Net", name := "withJoining", desc := "(III)I" } : Jvm.MethodName) ∈ dp_g := dp_at 423 (by decide +kernel) rfl
theorem dq_425 : Cond.instanceMethod ({ cls := "NearLiars$Net", name := "withJoining", desc := "(III)I" } : Jvm.MethodName) ∈ dp_g := dp_at 425 (by decide +kernel) rfl
set_option maxRecDepth 20000 in
theorem dq_426 : Cond.code ({ cls := "NearLiars$Net", name := "withJoining", desc := "(III)I" } : Jvm.MethodName) prog_4_method_15_code (6 : Nat) (Option.some Jvm.ClassFile.FieldType.int) ∈ dp_g := dp_at 426 rfl rfl
theorem dq_427 : Cond.methodLink "NearLiarsLaw" (65 : Nat) ({ cls := "NearLiars", name := "crowded", desc := "(I)I" } : Jvm.MethodName) ∈ dp_g := dp_at 427 (by decide +kernel) rfl
theorem dq_428 : Cond.instanceMethod ({ cls := "NearLiars", name := "crowded", desc := "(I)I" } : Jvm.MethodName) ∈ dp_g := dp_at 428 (by decide +kernel) rfl
theorem dq_429 : Cond.selects "NearLiars" ({ cls := "NearLiars", name := "crowded", desc := "(I)I" } : Jvm.MethodName) ({ cls := "NearLiars", name := "crowded", desc := "(I)I" } : Jvm.MethodName) ∈ dp_g := dp_at 429 (by decide +kernel) rfl
set_option maxRecDepth 20000 in
theorem dq_430 : Cond.code ({ cls := "NearLiars", name := "crowded", desc := "(I)I" } : Jvm.MethodName) prog_1_method_14_code (2 : Nat) (Option.some Jvm.ClassFile.FieldType.int) ∈ dp_g := dp_at 430 rfl rfl
theorem dq_431 : Cond.methodLink "NearLiars" (148 : Nat) ({ cls := "NearLiars$Net", name := "leastCrowded", desc := "(II)I" } : Jvm.MethodName) ∈ dp_g := dp_at 431 (by decide +kernel) rfl
theorem dq_432 : Cond.methodLink "NearLiarsLaw" (69 : Nat) ({ cls := "NearLiars", name := "reached", desc := "(I)I" } : Jvm.MethodName) ∈ dp_g := dp_at 432 (by decide +kernel) rfl
theorem dq_433 : Cond.instanceMethod ({ cls := "NearLiars", name := "reached", desc := "(I)I" } : Jvm.MethodName) ∈ dp_g := dp_at 433 (by decide +kernel) rfl
theorem dq_434 : Cond.selects "NearLiars" ({ cls := "NearLiars", name := "reached", desc := "(I)I" } : Jvm.MethodName) ({ cls := "NearLiars", name := "reached", desc := "(I)I" } : Jvm.MethodName) ∈ dp_g := dp_at 434 (by decide +kernel) rfl
set_option maxRecDepth 20000 in
theorem dq_435 : Cond.code ({ cls := "NearLiars", name := "reached", desc := "(I)I" } : Jvm.MethodName) prog_1_method_15_code (2 : Nat) (Option.some Jvm.ClassFile.FieldType.int) ∈ dp_g := dp_at 435 rfl rfl
theorem dq_436 : Cond.methodLink "NearLiars" (151 : Nat) ({ cls := "NearLiars$Net", name := "spread", desc := "(II)I" } : Jvm.MethodName) ∈ dp_g := dp_at 436 (by decide +kernel) rfl
theorem dq_437 : Cond.methodLink "NearLiarsLaw" (73 : Nat) ({ cls := "NearLiars", name := "worst", desc := "(I)I" } : Jvm.MethodName) ∈ dp_g := dp_at 437 (by decide +kernel) rfl
theorem dq_438 : Cond.instanceMethod ({ cls := "NearLiars", name := "worst", desc := "(I)I" } : Jvm.MethodName) ∈ dp_g := dp_at 438 (by decide +kernel) rfl
theorem dq_439 : Cond.selects "NearLiars" ({ cls := "NearLiars", name := "worst", desc := "(I)I" } : Jvm.MethodName) ({ cls := "NearLiars", name := "worst", desc := "(I)I" } : Jvm.MethodName) ∈ dp_g := dp_at 439 (by decide +kernel) rfl
set_option maxRecDepth 20000 in
theorem dq_440 : Cond.code ({ cls := "NearLiars", name := "worst", desc := "(I)I" } : Jvm.MethodName) prog_1_method_16_code (2 : Nat) (Option.some Jvm.ClassFile.FieldType.int) ∈ dp_g := dp_at 440 rfl rfl
theorem dq_441 : Cond.methodLink "NearLiars" (154 : Nat) ({ cls := "NearLiars$Survey", name := "take", desc := "(LNearLiars$Net;)V" } : Jvm.MethodName) ∈ dp_g := dp_at 441 (by decide +kernel) rfl
theorem dq_442 : Cond.instanceMethod ({ cls := "NearLiars$Survey", name := "take", desc := "(LNearLiars$Net;)V" } : Jvm.MethodName) ∈ dp_g := dp_at 442 (by decide +kernel) rfl
theorem dq_443 : Cond.selects "NearLiars$Survey" ({ cls := "NearLiars$Survey", name := "take", desc := "(LNearLiars$Net;)V" } : Jvm.MethodName) ({ cls := "NearLiars$Survey", name := "take", desc := "(LNearLiars$Net;)V" } : Jvm.MethodName) ∈ dp_g := dp_at 443 (by decide +kernel) rfl
set_option maxRecDepth 20000 in
theorem dq_444 : Cond.code ({ cls := "NearLiars$Survey", name := "take", desc := "(LNearLiars$Net;)V" } : Jvm.MethodName) prog_6_method_2_code (3 : Nat) (Option.none : Option Jvm.ClassFile.FieldType) ∈ dp_g := dp_at 444 rfl rfl
theorem dq_445 : Cond.methodLink "NearLiars$Survey" (22 : Nat) ({ cls := "NearLiars$Net", name := "all", desc := "()I" } : Jvm.MethodName) ∈ dp_g := dp_at 445 (by decide +kernel) rfl
theorem dq_446 : Cond.methodLink "NearLiars$Survey" (28 : Nat) ({ cls := "NearLiars$Net", name := "isSet", desc := "(I)Z" } : Jvm.MethodName) ∈ dp_g := dp_at 446 (by decide +kernel) rfl
theorem dq_447 : Cond.methodLink "NearLiars$Survey" (35 : Nat) ({ cls := "NearLiars$Net", name := "isThin", desc := "(II)Z" } : Jvm.MethodName) ∈ dp_g := dp_at 447 (by decide +kernel) rfl
theorem dq_448 : Cond.methodLink "NearLiars$Survey" (39 : Nat) ({ cls := "NearLiars$Net", name := "cut", desc := "(II)I" } : Jvm.MethodName) ∈ dp_g := dp_at 448 (by decide +kernel) rfl
theorem dq_449 : Cond.methodLink "NearLiars$Survey" (43 : Nat) ({ cls := "NearLiars$Survey", name := "weigh", desc := "(II)V" } : Jvm.MethodName) ∈ dp_g := dp_at 449 (by decide +kernel) rfl
theorem dq_451 : Cond.instanceMethod ({ cls := "NearLiars$Survey", name := "weigh", desc := "(II)V" } : Jvm.MethodName) ∈ dp_g := dp_at 451 (by decide +kernel) rfl
set_option maxRecDepth 20000 in
theorem dq_452 : Cond.code ({ cls := "NearLiars$Survey", name := "weigh", desc := "(II)V" } : Jvm.MethodName) prog_6_method_3_code (5 : Nat) (Option.none : Option Jvm.ClassFile.FieldType) ∈ dp_g := dp_at 452 rfl rfl
theorem dq_453 : Cond.methodLink "NearLiars$Survey" (47 : Nat) ({ cls := "java/lang/Integer", name := "bitCount", desc := "(I)I" } : Jvm.MethodName) ∈ dp_g := dp_at 453 (by decide +kernel) rfl
theorem dq_454 : Cond.methodLink "NearLiarsLaw" (77 : Nat) ({ cls := "NearLiars", name := "bears", desc := "()I" } : Jvm.MethodName) ∈ dp_g := dp_at 454 (by decide +kernel) rfl
theorem dq_455 : Cond.instanceMethod ({ cls := "NearLiars", name := "bears", desc := "()I" } : Jvm.MethodName) ∈ dp_g := dp_at 455 (by decide +kernel) rfl
theorem dq_456 : Cond.selects "NearLiars" ({ cls := "NearLiars", name := "bears", desc := "()I" } : Jvm.MethodName) ({ cls := "NearLiars", name := "bears", desc := "()I" } : Jvm.MethodName) ∈ dp_g := dp_at 456 (by decide +kernel) rfl
set_option maxRecDepth 20000 in
theorem dq_457 : Cond.code ({ cls := "NearLiars", name := "bears", desc := "()I" } : Jvm.MethodName) prog_1_method_17_code (1 : Nat) (Option.some Jvm.ClassFile.FieldType.int) ∈ dp_g := dp_at 457 rfl rfl
theorem dq_458 : Cond.methodLink "NearLiars" (169 : Nat) ({ cls := "NearLiars$Net", name := "greatestBorne", desc := "()I" } : Jvm.MethodName) ∈ dp_g := dp_at 458 (by decide +kernel) rfl
theorem dq_459 : Cond.instanceMethod ({ cls := "NearLiars$Net", name := "greatestBorne", desc := "()I" } : Jvm.MethodName) ∈ dp_g := dp_at 459 (by decide +kernel) rfl
theorem dq_460 : Cond.selects "NearLiars$Net" ({ cls := "NearLiars$Net", name := "greatestBorne", desc := "()I" } : Jvm.MethodName) ({ cls := "NearLiars$Net", name := "greatestBorne", desc := "()I" } : Jvm.MethodName) ∈ dp_g := dp_at 460 (by decide +kernel) rfl
set_option maxRecDepth 20000 in
theorem dq_461 : Cond.code ({ cls := "NearLiars$Net", name := "greatestBorne", desc := "()I" } : Jvm.MethodName) prog_4_method_17_code (3 : Nat) (Option.some Jvm.ClassFile.FieldType.int) ∈ dp_g := dp_at 461 rfl rfl
theorem dq_462 : Cond.methodLink "NearLiars$Net" (80 : Nat) ({ cls := "NearLiars$Net", name := "isSet", desc := "(I)Z" } : Jvm.MethodName) ∈ dp_g := dp_at 462 (by decide +kernel) rfl
theorem dq_463 : Cond.methodLink "NearLiars$Net" (84 : Nat) ({ cls := "NearLiars$Net", name := "isThin", desc := "(II)Z" } : Jvm.MethodName) ∈ dp_g := dp_at 463 (by decide +kernel) rfl
theorem dq_464 : Cond.methodLink "NearLiars$Net" (87 : Nat) ({ cls := "NearLiars$Net", name := "cut", desc := "(II)I" } : Jvm.MethodName) ∈ dp_g := dp_at 464 (by decide +kernel) rfl
theorem dq_465 : Cond.methodLink "NearLiarsLaw" (81 : Nat) ({ cls := "NearLiars", name := "name", desc := "(I)I" } : Jvm.MethodName) ∈ dp_g := dp_at 465 (by decide +kernel) rfl
theorem dq_466 : Cond.instanceMethod ({ cls := "NearLiars", name := "name", desc := "(I)I" } : Jvm.MethodName) ∈ dp_g := dp_at 466 (by decide +kernel) rfl
theorem dq_467 : Cond.selects "NearLiars" ({ cls := "NearLiars", name := "name", desc := "(I)I" } : Jvm.MethodName) ({ cls := "NearLiars", name := "name", desc := "(I)I" } : Jvm.MethodName) ∈ dp_g := dp_at 467 (by decide +kernel) rfl
set_option maxRecDepth 20000 in
theorem dq_468 : Cond.code ({ cls := "NearLiars", name := "name", desc := "(I)I" } : Jvm.MethodName) prog_1_method_18_code (3 : Nat) (Option.some Jvm.ClassFile.FieldType.int) ∈ dp_g := dp_at 468 rfl rfl
theorem dq_469 : Cond.methodLink "NearLiars" (172 : Nat) ({ cls := "NearLiars$Names", name := "place", desc := "(I)I" } : Jvm.MethodName) ∈ dp_g := dp_at 469 (by decide +kernel) rfl
theorem dq_470 : Cond.instanceMethod ({ cls := "NearLiars$Names", name := "place", desc := "(I)I" } : Jvm.MethodName) ∈ dp_g := dp_at 470 (by decide +kernel) rfl
theorem dq_471 : Cond.selects "NearLiars$Names" ({ cls := "NearLiars$Names", name := "place", desc := "(I)I" } : Jvm.MethodName) ({ cls := "NearLiars$Names", name := "place", desc := "(I)I" } : Jvm.MethodName) ∈ dp_g := dp_at 471 (by decide +kernel) rfl
set_option maxRecDepth 20000 in
theorem dq_472 : Cond.code ({ cls := "NearLiars$Names", name := "place", desc := "(I)I" } : Jvm.MethodName) prog_3_method_3_code (3 : Nat) (Option.some Jvm.ClassFile.FieldType.int) ∈ dp_g := dp_at 472 rfl rfl
theorem dq_473 : Cond.methodLink "NearLiars$Names" (19 : Nat) ({ cls := "java/lang/System", name := "arraycopy", desc := "(Ljava/lang/Object;ILjava/lang/Object;II)V" } : Jvm.MethodName) ∈ dp_g := dp_at 473 (by decide +kernel) rfl
theorem dq_474 : Cond.static ({ cls := "java/lang/System", name := "arraycopy", desc := "(Ljava/lang/Object;ILjava/lang/Object;II)V" } : Jvm.MethodName) ∈ dp_g := dp_at 474 (by decide +kernel) rfl
theorem dq_475 : Cond.native ({ cls := "java/lang/System", name := "arraycopy", desc := "(Ljava/lang/Object;ILjava/lang/Object;II)V" } : Jvm.MethodName) ∈ dp_g := dp_at 475 (by decide +kernel) rfl
theorem dq_476 : Cond.methodLink "NearLiarsLaw" (85 : Nat) ({ cls := "NearLiars", name := "named", desc := "(I)I" } : Jvm.MethodName) ∈ dp_g := dp_at 476 (by decide +kernel) rfl
theorem dq_477 : Cond.instanceMethod ({ cls := "NearLiars", name := "named", desc := "(I)I" } : Jvm.MethodName) ∈ dp_g := dp_at 477 (by decide +kernel) rfl
theorem dq_478 : Cond.selects "NearLiars" ({ cls := "NearLiars", name := "named", desc := "(I)I" } : Jvm.MethodName) ({ cls := "NearLiars", name := "named", desc := "(I)I" } : Jvm.MethodName) ∈ dp_g := dp_at 478 (by decide +kernel) rfl
set_option maxRecDepth 20000 in
theorem dq_479 : Cond.code ({ cls := "NearLiars", name := "named", desc := "(I)I" } : Jvm.MethodName) prog_1_method_19_code (2 : Nat) (Option.some Jvm.ClassFile.FieldType.int) ∈ dp_g := dp_at 479 rfl rfl
theorem dq_480 : Cond.methodLink "NearLiarsLaw" (89 : Nat) ({ cls := "NearLiars", name := "walk", desc := "(I)I" } : Jvm.MethodName) ∈ dp_g := dp_at 480 (by decide +kernel) rfl
theorem dq_481 : Cond.instanceMethod ({ cls := "NearLiars", name := "walk", desc := "(I)I" } : Jvm.MethodName) ∈ dp_g := dp_at 481 (by decide +kernel) rfl
theorem dq_482 : Cond.selects "NearLiars" ({ cls := "NearLiars", name := "walk", desc := "(I)I" } : Jvm.MethodName) ({ cls := "NearLiars", name := "walk", desc := "(I)I" } : Jvm.MethodName) ∈ dp_g := dp_at 482 (by decide +kernel) rfl
set_option maxRecDepth 20000 in
theorem dq_483 : Cond.code ({ cls := "NearLiars", name := "walk", desc := "(I)I" } : Jvm.MethodName) prog_1_method_20_code (2 : Nat) (Option.some Jvm.ClassFile.FieldType.int) ∈ dp_g := dp_at 483 rfl rfl
theorem dq_484 : Cond.methodLink "NearLiars" (181 : Nat) ({ cls := "NearLiars$Claims", name := "canStep", desc := "(LNearLiars$Net;I)Z" } : Jvm.MethodName) ∈ dp_g := dp_at 484 (by decide +kernel) rfl
theorem dq_485 : Cond.instanceMethod ({ cls := "NearLiars$Claims", name := "canStep", desc := "(LNearLiars$Net;I)Z" } : Jvm.MethodName) ∈ dp_g := dp_at 485 (by decide +kernel) rfl
theorem dq_486 : Cond.selects "NearLiars$Claims" ({ cls := "NearLiars$Claims", name := "canStep", desc := "(LNearLiars$Net;I)Z" } : Jvm.MethodName) ({ cls := "NearLiars$Claims", name := "canStep", desc := "(LNearLiars$Net;I)Z" } : Jvm.MethodName) ∈ dp_g := dp_at 486 (by decide +kernel) rfl
set_option maxRecDepth 20000 in
theorem dq_487 : Cond.code ({ cls := "NearLiars$Claims", name := "canStep", desc := "(LNearLiars$Net;I)Z" } : Jvm.MethodName) prog_2_method_4_code (3 : Nat) (Option.some Jvm.ClassFile.FieldType.boolean) ∈ dp_g := dp_at 487 rfl rfl
theorem dq_488 : Cond.methodLink "NearLiars$Claims" (48 : Nat) ({ cls := "NearLiars$Net", name := "areLinked", desc := "(II)Z" } : Jvm.MethodName) ∈ dp_g := dp_at 488 (by decide +kernel) rfl
theorem dq_489 : Cond.methodLinkNest "NearLiars$Claims" (52 : Nat) ({ cls := "NearLiars", name := "isIn", desc := "(II)Z" } : Jvm.MethodName) "NearLiars" ∈ dp_nw := dp_nat 489 (by decide +kernel) rfl
theorem dq_490 : Cond.methodLink "NearLiars" (185 : Nat) ({ cls := "NearLiars$Claims", name := "step", desc := "(I)I" } : Jvm.MethodName) ∈ dp_g := dp_at 490 (by decide +kernel) rfl
theorem dq_491 : Cond.instanceMethod ({ cls := "NearLiars$Claims", name := "step", desc := "(I)I" } : Jvm.MethodName) ∈ dp_g := dp_at 491 (by decide +kernel) rfl
theorem dq_492 : Cond.selects "NearLiars$Claims" ({ cls := "NearLiars$Claims", name := "step", desc := "(I)I" } : Jvm.MethodName) ({ cls := "NearLiars$Claims", name := "step", desc := "(I)I" } : Jvm.MethodName) ∈ dp_g := dp_at 492 (by decide +kernel) rfl
set_option maxRecDepth 20000 in
theorem dq_493 : Cond.code ({ cls := "NearLiars$Claims", name := "step", desc := "(I)I" } : Jvm.MethodName) prog_2_method_5_code (2 : Nat) (Option.some Jvm.ClassFile.FieldType.int) ∈ dp_g := dp_at 493 rfl rfl
theorem dq_494 : Cond.methodLink "NearLiarsLaw" (93 : Nat) ({ cls := "NearLiars", name := "tell", desc := "(I)I" } : Jvm.MethodName) ∈ dp_g := dp_at 494 (by decide +kernel) rfl
theorem dq_495 : Cond.instanceMethod ({ cls := "NearLiars", name := "tell", desc := "(I)I" } : Jvm.MethodName) ∈ dp_g := dp_at 495 (by decide +kernel) rfl
theorem dq_496 : Cond.selects "NearLiars" ({ cls := "NearLiars", name := "tell", desc := "(I)I" } : Jvm.MethodName) ({ cls := "NearLiars", name := "tell", desc := "(I)I" } : Jvm.MethodName) ∈ dp_g := dp_at 496 (by decide +kernel) rfl
set_option maxRecDepth 20000 in
theorem dq_497 : Cond.code ({ cls := "NearLiars", name := "tell", desc := "(I)I" } : Jvm.MethodName) prog_1_method_21_code (2 : Nat) (Option.some Jvm.ClassFile.FieldType.int) ∈ dp_g := dp_at 497 rfl rfl
theorem dq_498 : Cond.methodLink "NearLiars" (191 : Nat) ({ cls := "NearLiars$Claims", name := "isTold", desc := "(I)Z" } : Jvm.MethodName) ∈ dp_g := dp_at 498 (by decide +kernel) rfl
theorem dq_499 : Cond.instanceMethod ({ cls := "NearLiars$Claims", name := "isTold", desc := "(I)Z" } : Jvm.MethodName) ∈ dp_g := dp_at 499 (by decide +kernel) rfl
theorem dq_500 : Cond.selects "NearLiars$Claims" ({ cls := "NearLiars$Claims", name := "isTold", desc := "(I)Z" } : Jvm.MethodName) ({ cls := "NearLiars$Claims", name := "isTold", desc := "(I)Z" } : Jvm.MethodName) ∈ dp_g := dp_at 500 (by decide +kernel) rfl
set_option maxRecDepth 20000 in
theorem dq_501 : Cond.code ({ cls := "NearLiars$Claims", name := "isTold", desc := "(I)Z" } : Jvm.MethodName) prog_2_method_6_code (3 : Nat) (Option.some Jvm.ClassFile.FieldType.boolean) ∈ dp_g := dp_at 501 rfl rfl
theorem dq_502 : Cond.methodLink "NearLiars$Claims" (55 : Nat) ({ cls := "NearLiars$Claims", name := "isInHand", desc := "(I)Z" } : Jvm.MethodName) ∈ dp_g := dp_at 502 (by decide +kernel) rfl
theorem dq_504 : Cond.instanceMethod ({ cls := "NearLiars$Claims", name := "isInHand", desc := "(I)Z" } : Jvm.MethodName) ∈ dp_g := dp_at 504 (by decide +kernel) rfl
set_option maxRecDepth 20000 in
theorem dq_505 : Cond.code ({ cls := "NearLiars$Claims", name := "isInHand", desc := "(I)Z" } : Jvm.MethodName) prog_2_method_7_code (3 : Nat) (Option.some Jvm.ClassFile.FieldType.boolean) ∈ dp_g := dp_at 505 rfl rfl
theorem dq_506 : Cond.methodLink "NearLiars" (194 : Nat) ({ cls := "NearLiars$Claims", name := "keep", desc := "(I)I" } : Jvm.MethodName) ∈ dp_g := dp_at 506 (by decide +kernel) rfl
theorem dq_507 : Cond.instanceMethod ({ cls := "NearLiars$Claims", name := "keep", desc := "(I)I" } : Jvm.MethodName) ∈ dp_g := dp_at 507 (by decide +kernel) rfl
theorem dq_508 : Cond.selects "NearLiars$Claims" ({ cls := "NearLiars$Claims", name := "keep", desc := "(I)I" } : Jvm.MethodName) ({ cls := "NearLiars$Claims", name := "keep", desc := "(I)I" } : Jvm.MethodName) ∈ dp_g := dp_at 508 (by decide +kernel) rfl
set_option maxRecDepth 20000 in
theorem dq_509 : Cond.code ({ cls := "NearLiars$Claims", name := "keep", desc := "(I)I" } : Jvm.MethodName) prog_2_method_8_code (2 : Nat) (Option.some Jvm.ClassFile.FieldType.int) ∈ dp_g := dp_at 509 rfl rfl
theorem dq_510 : Cond.methodLink "NearLiars$Claims" (59 : Nat) ({ cls := "NearLiars$Claims", name := "forgetOldest", desc := "()V" } : Jvm.MethodName) ∈ dp_g := dp_at 510 (by decide +kernel) rfl
theorem dq_512 : Cond.instanceMethod ({ cls := "NearLiars$Claims", name := "forgetOldest", desc := "()V" } : Jvm.MethodName) ∈ dp_g := dp_at 512 (by decide +kernel) rfl
set_option maxRecDepth 20000 in
theorem dq_513 : Cond.code ({ cls := "NearLiars$Claims", name := "forgetOldest", desc := "()V" } : Jvm.MethodName) prog_2_method_9_code (1 : Nat) (Option.none : Option Jvm.ClassFile.FieldType) ∈ dp_g := dp_at 513 rfl rfl
theorem dq_514 : Cond.methodLink "NearLiars$Claims" (62 : Nat) ({ cls := "java/lang/System", name := "arraycopy", desc := "(Ljava/lang/Object;ILjava/lang/Object;II)V" } : Jvm.MethodName) ∈ dp_g := dp_at 514 (by decide +kernel) rfl
theorem dq_515 : Cond.methodLink "NearLiarsLaw" (97 : Nat) ({ cls := "NearLiars", name := "drop", desc := "()I" } : Jvm.MethodName) ∈ dp_g := dp_at 515 (by decide +kernel) rfl
theorem dq_516 : Cond.instanceMethod ({ cls := "NearLiars", name := "drop", desc := "()I" } : Jvm.MethodName) ∈ dp_g := dp_at 516 (by decide +kernel) rfl
theorem dq_517 : Cond.selects "NearLiars" ({ cls := "NearLiars", name := "drop", desc := "()I" } : Jvm.MethodName) ({ cls := "NearLiars", name := "drop", desc := "()I" } : Jvm.MethodName) ∈ dp_g := dp_at 517 (by decide +kernel) rfl
set_option maxRecDepth 20000 in
theorem dq_518 : Cond.code ({ cls := "NearLiars", name := "drop", desc := "()I" } : Jvm.MethodName) prog_1_method_22_code (2 : Nat) (Option.some Jvm.ClassFile.FieldType.int) ∈ dp_g := dp_at 518 rfl rfl
theorem dq_519 : Cond.methodLink "NearLiars" (197 : Nat) ({ cls := "NearLiars$Claims", name := "letGo", desc := "()V" } : Jvm.MethodName) ∈ dp_g := dp_at 519 (by decide +kernel) rfl
theorem dq_520 : Cond.methodLink "NearLiarsLaw" (101 : Nat) ({ cls := "NearLiars", name := "claim", desc := "(II)I" } : Jvm.MethodName) ∈ dp_g := dp_at 520 (by decide +kernel) rfl
theorem dq_521 : Cond.instanceMethod ({ cls := "NearLiars", name := "claim", desc := "(II)I" } : Jvm.MethodName) ∈ dp_g := dp_at 521 (by decide +kernel) rfl
theorem dq_522 : Cond.selects "NearLiars" ({ cls := "NearLiars", name := "claim", desc := "(II)I" } : Jvm.MethodName) ({ cls := "NearLiars", name := "claim", desc := "(II)I" } : Jvm.MethodName) ∈ dp_g := dp_at 522 (by decide +kernel) rfl
set_option maxRecDepth 20000 in
theorem dq_523 : Cond.code ({ cls := "NearLiars", name := "claim", desc := "(II)I" } : Jvm.MethodName) prog_1_method_23_code (3 : Nat) (Option.some Jvm.ClassFile.FieldType.int) ∈ dp_g := dp_at 523 rfl rfl
theorem dq_524 : Cond.methodLink "NearLiars" (201 : Nat) ({ cls := "NearLiars$Claims", name := "placeOf", desc := "(II)I" } : Jvm.MethodName) ∈ dp_g := dp_at 524 (by decide +kernel) rfl
theorem dq_525 : Cond.instanceMethod ({ cls := "NearLiars$Claims", name := "placeOf", desc := "(II)I" } : Jvm.MethodName) ∈ dp_g := dp_at 525 (by decide +kernel) rfl
theorem dq_526 : Cond.selects "NearLiars$Claims" ({ cls := "NearLiars$Claims", name := "placeOf", desc := "(II)I" } : Jvm.MethodName) ({ cls := "NearLiars$Claims", name := "placeOf", desc := "(II)I" } : Jvm.MethodName) ∈ dp_g := dp_at 526 (by decide +kernel) rfl
set_option maxRecDepth 20000 in
theorem dq_527 : Cond.code ({ cls := "NearLiars$Claims", name := "placeOf", desc := "(II)I" } : Jvm.MethodName) prog_2_method_10_code (3 : Nat) (Option.some Jvm.ClassFile.FieldType.int) ∈ dp_g := dp_at 527 rfl rfl
theorem dq_528 : Cond.methodLink "NearLiarsLaw" (105 : Nat) ({ cls := "NearLiars", name := "proof", desc := "(II)I" } : Jvm.MethodName) ∈ dp_g := dp_at 528 (by decide +kernel) rfl
theorem dq_529 : Cond.instanceMethod ({ cls := "NearLiars", name := "proof", desc := "(II)I" } : Jvm.MethodName) ∈ dp_g := dp_at 529 (by decide +kernel) rfl
theorem dq_530 : Cond.selects "NearLiars" ({ cls := "NearLiars", name := "proof", desc := "(II)I" } : Jvm.MethodName) ({ cls := "NearLiars", name := "proof", desc := "(II)I" } : Jvm.MethodName) ∈ dp_g := dp_at 530 (by decide +kernel) rfl
set_option maxRecDepth 20000 in
theorem dq_531 : Cond.code ({ cls := "NearLiars", name := "proof", desc := "(II)I" } : Jvm.MethodName) prog_1_method_24_code (3 : Nat) (Option.some Jvm.ClassFile.FieldType.int) ∈ dp_g := dp_at 531 rfl rfl
theorem dq_532 : Cond.methodLink "NearLiars" (213 : Nat) ({ cls := "NearLiars$Claims", name := "mostApart", desc := "(II)I" } : Jvm.MethodName) ∈ dp_g := dp_at 532 (by decide +kernel) rfl
theorem dq_533 : Cond.instanceMethod ({ cls := "NearLiars$Claims", name := "mostApart", desc := "(II)I" } : Jvm.MethodName) ∈ dp_g := dp_at 533 (by decide +kernel) rfl
theorem dq_534 : Cond.selects "NearLiars$Claims" ({ cls := "NearLiars$Claims", name := "mostApart", desc := "(II)I" } : Jvm.MethodName) ({ cls := "NearLiars$Claims", name := "mostApart", desc := "(II)I" } : Jvm.MethodName) ∈ dp_g := dp_at 534 (by decide +kernel) rfl
set_option maxRecDepth 20000 in
theorem dq_535 : Cond.code ({ cls := "NearLiars$Claims", name := "mostApart", desc := "(II)I" } : Jvm.MethodName) prog_2_method_11_code (7 : Nat) (Option.some Jvm.ClassFile.FieldType.int) ∈ dp_g := dp_at 535 rfl rfl
theorem dq_536 : Cond.methodLink "NearLiars$Claims" (68 : Nat) ({ cls := "NearLiars$Claims", name := "gatherInner", desc := "(II)I" } : Jvm.MethodName) ∈ dp_g := dp_at 536 (by decide +kernel) rfl
theorem dq_538 : Cond.instanceMethod ({ cls := "NearLiars$Claims", name := "gatherInner", desc := "(II)I" } : Jvm.MethodName) ∈ dp_g := dp_at 538 (by decide +kernel) rfl
set_option maxRecDepth 20000 in
theorem dq_539 : Cond.code ({ cls := "NearLiars$Claims", name := "gatherInner", desc := "(II)I" } : Jvm.MethodName) prog_2_method_12_code (5 : Nat) (Option.some Jvm.ClassFile.FieldType.int) ∈ dp_g := dp_at 539 rfl rfl
theorem dq_540 : Cond.methodLink "NearLiars$Claims" (81 : Nat) ({ cls := "NearLiars$Claims", name := "placeOf", desc := "(II)I" } : Jvm.MethodName) ∈ dp_g := dp_at 540 (by decide +kernel) rfl
theorem dq_541 : Cond.methodLink "NearLiars$Claims" (72 : Nat) ({ cls := "java/lang/Integer", name := "bitCount", desc := "(I)I" } : Jvm.MethodName) ∈ dp_g := dp_at 541 (by decide +kernel) rfl
theorem dq_542 : Cond.methodLink "NearLiars$Claims" (78 : Nat) ({ cls := "NearLiars$Claims", name := "areApart", desc := "(II)Z" } : Jvm.MethodName) ∈ dp_g := dp_at 542 (by decide +kernel) rfl
theorem dq_544 : Cond.instanceMethod ({ cls := "NearLiars$Claims", name := "areApart", desc := "(II)Z" } : Jvm.MethodName) ∈ dp_g := dp_at 544 (by decide +kernel) rfl
set_option maxRecDepth 20000 in
theorem dq_545 : Cond.code ({ cls := "NearLiars$Claims", name := "areApart", desc := "(II)Z" } : Jvm.MethodName) prog_2_method_13_code (5 : Nat) (Option.some Jvm.ClassFile.FieldType.boolean) ∈ dp_g := dp_at 545 rfl rfl
theorem dq_546 : Cond.methodLink "NearLiarsLaw" (109 : Nat) ({ cls := "NearLiars", name := "believes", desc := "(I)I" } : Jvm.MethodName) ∈ dp_g := dp_at 546 (by decide +kernel) rfl
theorem dq_547 : Cond.instanceMethod ({ cls := "NearLiars", name := "believes", desc := "(I)I" } : Jvm.MethodName) ∈ dp_g := dp_at 547 (by decide +kernel) rfl
theorem dq_548 : Cond.selects "NearLiars" ({ cls := "NearLiars", name := "believes", desc := "(I)I" } : Jvm.MethodName) ({ cls := "NearLiars", name := "believes", desc := "(I)I" } : Jvm.MethodName) ∈ dp_g := dp_at 548 (by decide +kernel) rfl
set_option maxRecDepth 20000 in
theorem dq_549 : Cond.code ({ cls := "NearLiars", name := "believes", desc := "(I)I" } : Jvm.MethodName) prog_1_method_25_code (2 : Nat) (Option.some Jvm.ClassFile.FieldType.int) ∈ dp_g := dp_at 549 rfl rfl
theorem dq_550 : Cond.methodLink "NearLiars" (216 : Nat) ({ cls := "NearLiars$Claims", name := "soleGreatest", desc := "(II)I" } : Jvm.MethodName) ∈ dp_g := dp_at 550 (by decide +kernel) rfl
theorem dq_551 : Cond.instanceMethod ({ cls := "NearLiars$Claims", name := "soleGreatest", desc := "(II)I" } : Jvm.MethodName) ∈ dp_g := dp_at 551 (by decide +kernel) rfl
theorem dq_552 : Cond.selects "NearLiars$Claims" ({ cls := "NearLiars$Claims", name := "soleGreatest", desc := "(II)I" } : Jvm.MethodName) ({ cls := "NearLiars$Claims", name := "soleGreatest", desc := "(II)I" } : Jvm.MethodName) ∈ dp_g := dp_at 552 (by decide +kernel) rfl
set_option maxRecDepth 20000 in
theorem dq_553 : Cond.code ({ cls := "NearLiars$Claims", name := "soleGreatest", desc := "(II)I" } : Jvm.MethodName) prog_2_method_14_code (7 : Nat) (Option.some Jvm.ClassFile.FieldType.int) ∈ dp_g := dp_at 553 rfl rfl
theorem dq_554 : Cond.methodLink "NearLiars$Claims" (84 : Nat) ({ cls := "NearLiars$Claims", name := "mostApart", desc := "(II)I" } : Jvm.MethodName) ∈ dp_g := dp_at 554 (by decide +kernel) rfl
theorem dq_555 : Cond.methodLink "NearLiarsLaw" (113 : Nat) ({ cls := "NearLiars", name := "many", desc := "(I)I" } : Jvm.MethodName) ∈ dp_g := dp_at 555 (by decide +kernel) rfl
theorem dq_556 : Cond.instanceMethod ({ cls := "NearLiars", name := "many", desc := "(I)I" } : Jvm.MethodName) ∈ dp_g := dp_at 556 (by decide +kernel) rfl
theorem dq_557 : Cond.selects "NearLiars" ({ cls := "NearLiars", name := "many", desc := "(I)I" } : Jvm.MethodName) ({ cls := "NearLiars", name := "many", desc := "(I)I" } : Jvm.MethodName) ∈ dp_g := dp_at 557 (by decide +kernel) rfl
set_option maxRecDepth 20000 in
theorem dq_558 : Cond.code ({ cls := "NearLiars", name := "many", desc := "(I)I" } : Jvm.MethodName) prog_1_method_26_code (3 : Nat) (Option.some Jvm.ClassFile.FieldType.int) ∈ dp_g := dp_at 558 rfl rfl
theorem dq_559 : Cond.methodLink "NearLiars" (219 : Nat) ({ cls := "NearLiars$Net", name := "all", desc := "()I" } : Jvm.MethodName) ∈ dp_g := dp_at 559 (by decide +kernel) rfl
theorem dq_560 : Cond.methodLink "NearLiars" (223 : Nat) ({ cls := "NearLiars$Net", name := "pairs", desc := "()I" } : Jvm.MethodName) ∈ dp_g := dp_at 560 (by decide +kernel) rfl
theorem dq_561 : Cond.instanceMethod ({ cls := "NearLiars$Net", name := "pairs", desc := "()I" } : Jvm.MethodName) ∈ dp_g := dp_at 561 (by decide +kernel) rfl
theorem dq_562 : Cond.selects "NearLiars$Net" ({ cls := "NearLiars$Net", name := "pairs", desc := "()I" } : Jvm.MethodName) ({ cls := "NearLiars$Net", name := "pairs", desc := "()I" } : Jvm.MethodName) ∈ dp_g := dp_at 562 (by decide +kernel) rfl
set_option maxRecDepth 20000 in
theorem dq_563 : Cond.code ({ cls := "NearLiars$Net", name := "pairs", desc := "()I" } : Jvm.MethodName) prog_4_method_7_code (3 : Nat) (Option.some Jvm.ClassFile.FieldType.int) ∈ dp_g := dp_at 563 rfl rfl
theorem dq_564 : Cond.classLink "NearLiarsLaw" (10 : Nat) "NearLiarsModel" ∈ dp_g := dp_at 564 (by decide +kernel) rfl
theorem dq_565 : Cond.instantiable "NearLiarsModel" (26 : Nat) ∈ dp_g := dp_at 565 (by decide +kernel) rfl
theorem dq_566 : Cond.methodLink "NearLiarsLaw" (12 : Nat) ({ cls := "NearLiarsModel", name := "<init>", desc := "()V" } : Jvm.MethodName) ∈ dp_g := dp_at 566 (by decide +kernel) rfl
theorem dq_567 : Cond.instanceMethod ({ cls := "NearLiarsModel", name := "<init>", desc := "()V" } : Jvm.MethodName) ∈ dp_g := dp_at 567 (by decide +kernel) rfl
set_option maxRecDepth 20000 in
theorem dq_568 : Cond.code ({ cls := "NearLiarsModel", name := "<init>", desc := "()V" } : Jvm.MethodName) prog_8_method_1_code (2 : Nat) (Option.none : Option Jvm.ClassFile.FieldType) ∈ dp_g := dp_at 568 rfl rfl
theorem dq_569 : Cond.methodLink "NearLiarsModel" (1 : Nat) ({ cls := "java/lang/Object", name := "<init>", desc := "()V" } : Jvm.MethodName) ∈ dp_g := dp_at 569 (by decide +kernel) rfl
theorem dq_570 : Cond.methodLink "NearLiarsModel" (60 : Nat) ({ cls := "NearLiarsModel", name := "begins", desc := "()V" } : Jvm.MethodName) ∈ dp_g := dp_at 570 (by decide +kernel) rfl
theorem dq_572 : Cond.instanceMethod ({ cls := "NearLiarsModel", name := "begins", desc := "()V" } : Jvm.MethodName) ∈ dp_g := dp_at 572 (by decide +kernel) rfl
set_option maxRecDepth 20000 in
theorem dq_573 : Cond.code ({ cls := "NearLiarsModel", name := "begins", desc := "()V" } : Jvm.MethodName) prog_8_method_18_code (2 : Nat) (Option.none : Option Jvm.ClassFile.FieldType) ∈ dp_g := dp_at 573 rfl rfl
theorem dq_574 : Cond.methodLink "NearLiarsModel" (106 : Nat) ({ cls := "NearLiarsModel", name := "dealsSlots", desc := "()V" } : Jvm.MethodName) ∈ dp_g := dp_at 574 (by decide +kernel) rfl
theorem dq_576 : Cond.instanceMethod ({ cls := "NearLiarsModel", name := "dealsSlots", desc := "()V" } : Jvm.MethodName) ∈ dp_g := dp_at 576 (by decide +kernel) rfl
set_option maxRecDepth 20000 in
theorem dq_577 : Cond.code ({ cls := "NearLiarsModel", name := "dealsSlots", desc := "()V" } : Jvm.MethodName) prog_8_method_17_code (3 : Nat) (Option.none : Option Jvm.ClassFile.FieldType) ∈ dp_g := dp_at 577 rfl rfl
theorem dq_578 : Cond.methodLink "NearLiarsModel" (103 : Nat) ({ cls := "NearLiarsModel", name := "isFreeSlot", desc := "(II)Z" } : Jvm.MethodName) ∈ dp_g := dp_at 578 (by decide +kernel) rfl
theorem dq_580 : Cond.instanceMethod ({ cls := "NearLiarsModel", name := "isFreeSlot", desc := "(II)Z" } : Jvm.MethodName) ∈ dp_g := dp_at 580 (by decide +kernel) rfl
set_option maxRecDepth 20000 in
theorem dq_581 : Cond.code ({ cls := "NearLiarsModel", name := "isFreeSlot", desc := "(II)Z" } : Jvm.MethodName) prog_8_method_16_code (4 : Nat) (Option.some Jvm.ClassFile.FieldType.boolean) ∈ dp_g := dp_at 581 rfl rfl
theorem dq_582 : Cond.methodLink "NearLiarsModel" (97 : Nat) ({ cls := "NearLiarsModel", name := "isApart", desc := "(II)Z" } : Jvm.MethodName) ∈ dp_g := dp_at 582 (by decide +kernel) rfl
theorem dq_584 : Cond.instanceMethod ({ cls := "NearLiarsModel", name := "isApart", desc := "(II)Z" } : Jvm.MethodName) ∈ dp_g := dp_at 584 (by decide +kernel) rfl
set_option maxRecDepth 20000 in
theorem dq_585 : Cond.code ({ cls := "NearLiarsModel", name := "isApart", desc := "(II)Z" } : Jvm.MethodName) prog_8_method_15_code (3 : Nat) (Option.some Jvm.ClassFile.FieldType.boolean) ∈ dp_g := dp_at 585 rfl rfl
theorem dq_586 : Cond.methodLink "NearLiarsModel" (93 : Nat) ({ cls := "NearLiarsModel", name := "has", desc := "(II)Z" } : Jvm.MethodName) ∈ dp_g := dp_at 586 (by decide +kernel) rfl
theorem dq_587 : Cond.static ({ cls := "NearLiarsModel", name := "has", desc := "(II)Z" } : Jvm.MethodName) ∈ dp_g := dp_at 587 (by decide +kernel) rfl
set_option maxRecDepth 20000 in
theorem dq_588 : Cond.code ({ cls := "NearLiarsModel", name := "has", desc := "(II)Z" } : Jvm.MethodName) prog_8_method_3_code (2 : Nat) (Option.some Jvm.ClassFile.FieldType.boolean) ∈ dp_g := dp_at 588 rfl rfl
theorem dq_589 : Cond.fieldLink "NearLiarsModel" (7 : Nat) "NearLiarsModel" "nodes" "I" ∈ dp_g := dp_at 589 (by decide +kernel) rfl
theorem dq_590 : Cond.fieldLink "NearLiarsModel" (13 : Nat) "NearLiarsModel" "columns" "I" ∈ dp_g := dp_at 590 (by decide +kernel) rfl
theorem dq_591 : Cond.fieldLink "NearLiarsModel" (16 : Nat) "NearLiarsModel" "rows" "I" ∈ dp_g := dp_at 591 (by decide +kernel) rfl
theorem dq_592 : Cond.fieldLink "NearLiarsModel" (19 : Nat) "NearLiarsModel" "near" "[I" ∈ dp_g := dp_at 592 (by decide +kernel) rfl
theorem dq_593 : Cond.fieldLink "NearLiarsModel" (67 : Nat) "NearLiarsModel" "dealer" "I" ∈ dp_g := dp_at 593 (by decide +kernel) rfl
theorem dq_594 : Cond.fieldLink "NearLiarsModel" (90 : Nat) "NearLiarsModel" "value" "I" ∈ dp_g := dp_at 594 (by decide +kernel) rfl
theorem dq_595 : Cond.fieldLink "NearLiarsModel" (23 : Nat) "NearLiarsModel" "need" "I" ∈ dp_g := dp_at 595 (by decide +kernel) rfl
theorem dq_596 : Cond.fieldLink "NearLiarsModel" (26 : Nat) "NearLiarsModel" "lieOf" "[I" ∈ dp_g := dp_at 596 (by decide +kernel) rfl
theorem dq_597 : Cond.fieldLink "NearLiarsModel" (29 : Nat) "NearLiarsModel" "slotOf" "[I" ∈ dp_g := dp_at 597 (by decide +kernel) rfl
theorem dq_598 : Cond.fieldLink "NearLiarsModel" (100 : Nat) "NearLiarsModel" "round" "I" ∈ dp_g := dp_at 598 (by decide +kernel) rfl
theorem dq_599 : Cond.fieldLink "NearLiarsModel" (109 : Nat) "NearLiarsModel" "over" "I" ∈ dp_g := dp_at 599 (by decide +kernel) rfl
theorem dq_600 : Cond.fieldLink "NearLiarsModel" (32 : Nat) "NearLiarsModel" "tookWhat" "[I" ∈ dp_g := dp_at 600 (by decide +kernel) rfl
theorem dq_601 : Cond.fieldLink "NearLiarsModel" (35 : Nat) "NearLiarsModel" "tookWhen" "[I" ∈ dp_g := dp_at 601 (by decide +kernel) rfl
theorem dq_602 : Cond.fieldLink "NearLiarsModel" (38 : Nat) "NearLiarsModel" "hasSpoken" "[Z" ∈ dp_g := dp_at 602 (by decide +kernel) rfl
theorem dq_603 : Cond.fieldLink "NearLiarsModel" (42 : Nat) "NearLiarsModel" "heard" "[I" ∈ dp_g := dp_at 603 (by decide +kernel) rfl
theorem dq_604 : Cond.fieldLink "NearLiarsModel" (152 : Nat) "NearLiarsModel" "worstSet" "I" ∈ dp_g := dp_at 604 (by decide +kernel) rfl
theorem dq_605 : Cond.fieldLink "NearLiarsModel" (155 : Nat) "NearLiarsModel" "thin" "I" ∈ dp_g := dp_at 605 (by decide +kernel) rfl
theorem dq_606 : Cond.fieldLink "NearLiarsModel" (158 : Nat) "NearLiarsModel" "stopping" "I" ∈ dp_g := dp_at 606 (by decide +kernel) rfl
theorem dq_607 : Cond.fieldLink "NearLiarsModel" (70 : Nat) "NearLiarsModel" "cuts" "I" ∈ dp_g := dp_at 607 (by decide +kernel) rfl
theorem dq_608 : Cond.fieldLink "NearLiarsModel" (45 : Nat) "NearLiarsModel" "cutOf" "[I" ∈ dp_g := dp_at 608 (by decide +kernel) rfl
theorem dq_609 : Cond.fieldLink "NearLiarsModel" (76 : Nat) "NearLiarsModel" "wayLong" "I" ∈ dp_g := dp_at 609 (by decide +kernel) rfl
theorem dq_610 : Cond.fieldLink "NearLiarsModel" (48 : Nat) "NearLiarsModel" "way" "[I" ∈ dp_g := dp_at 610 (by decide +kernel) rfl
theorem dq_611 : Cond.fieldLink "NearLiarsModel" (79 : Nat) "NearLiarsModel" "claims" "I" ∈ dp_g := dp_at 611 (by decide +kernel) rfl
theorem dq_612 : Cond.fieldLink "NearLiarsModel" (51 : Nat) "NearLiarsModel" "claimValue" "[I" ∈ dp_g := dp_at 612 (by decide +kernel) rfl
theorem dq_613 : Cond.fieldLink "NearLiarsModel" (54 : Nat) "NearLiarsModel" "claimLong" "[I" ∈ dp_g := dp_at 613 (by decide +kernel) rfl
theorem dq_614 : Cond.fieldLink "NearLiarsModel" (57 : Nat) "NearLiarsModel" "claimWay" "[I" ∈ dp_g := dp_at 614 (by decide +kernel) rfl
theorem dq_668 : Cond.arrayClass Jvm.ClassFile.FieldType.boolean ∈ dp_g := dp_at 668 (by decide +kernel) rfl
theorem dq_669 : Cond.methodLink "NearLiarsLaw" (17 : Nat) ({ cls := "NearLiarsModel", name := "net", desc := "(I)I" } : Jvm.MethodName) ∈ dp_g := dp_at 669 (by decide +kernel) rfl
theorem dq_670 : Cond.instanceMethod ({ cls := "NearLiarsModel", name := "net", desc := "(I)I" } : Jvm.MethodName) ∈ dp_g := dp_at 670 (by decide +kernel) rfl
theorem dq_671 : Cond.selects "NearLiarsModel" ({ cls := "NearLiarsModel", name := "net", desc := "(I)I" } : Jvm.MethodName) ({ cls := "NearLiarsModel", name := "net", desc := "(I)I" } : Jvm.MethodName) ∈ dp_g := dp_at 671 (by decide +kernel) rfl
set_option maxRecDepth 20000 in
theorem dq_672 : Cond.code ({ cls := "NearLiarsModel", name := "net", desc := "(I)I" } : Jvm.MethodName) prog_8_method_8_code (2 : Nat) (Option.some Jvm.ClassFile.FieldType.int) ∈ dp_g := dp_at 672 rfl rfl
theorem dq_673 : Cond.methodLink "NearLiarsModel" (63 : Nat) ({ cls := "NearLiarsModel", name := "within", desc := "(III)Z" } : Jvm.MethodName) ∈ dp_g := dp_at 673 (by decide +kernel) rfl
theorem dq_674 : Cond.static ({ cls := "NearLiarsModel", name := "within", desc := "(III)Z" } : Jvm.MethodName) ∈ dp_g := dp_at 674 (by decide +kernel) rfl
set_option maxRecDepth 20000 in
theorem dq_675 : Cond.code ({ cls := "NearLiarsModel", name := "within", desc := "(III)Z" } : Jvm.MethodName) prog_8_method_2_code (3 : Nat) (Option.some Jvm.ClassFile.FieldType.boolean) ∈ dp_g := dp_at 675 rfl rfl
theorem dq_676 : Cond.methodLink "NearLiarsModel" (82 : Nat) ({ cls := "NearLiarsModel", name := "lays", desc := "(III)V" } : Jvm.MethodName) ∈ dp_g := dp_at 676 (by decide +kernel) rfl
theorem dq_678 : Cond.instanceMethod ({ cls := "NearLiarsModel", name := "lays", desc := "(III)V" } : Jvm.MethodName) ∈ dp_g := dp_at 678 (by decide +kernel) rfl
set_option maxRecDepth 20000 in
theorem dq_679 : Cond.code ({ cls := "NearLiarsModel", name := "lays", desc := "(III)V" } : Jvm.MethodName) prog_8_method_6_code (5 : Nat) (Option.none : Option Jvm.ClassFile.FieldType) ∈ dp_g := dp_at 679 rfl rfl
theorem dq_680 : Cond.methodLink "NearLiarsModel" (73 : Nat) ({ cls := "NearLiarsModel", name := "forgets", desc := "()V" } : Jvm.MethodName) ∈ dp_g := dp_at 680 (by decide +kernel) rfl
theorem dq_682 : Cond.instanceMethod ({ cls := "NearLiarsModel", name := "forgets", desc := "()V" } : Jvm.MethodName) ∈ dp_g := dp_at 682 (by decide +kernel) rfl
set_option maxRecDepth 20000 in
theorem dq_683 : Cond.code ({ cls := "NearLiarsModel", name := "forgets", desc := "()V" } : Jvm.MethodName) prog_8_method_7_code (1 : Nat) (Option.none : Option Jvm.ClassFile.FieldType) ∈ dp_g := dp_at 683 rfl rfl
theorem dq_684 : Cond.methodLink "NearLiarsLaw" (22 : Nat) ({ cls := "NearLiarsModel", name := "grid", desc := "(III)I" } : Jvm.MethodName) ∈ dp_g := dp_at 684 (by decide +kernel) rfl
theorem dq_685 : Cond.instanceMethod ({ cls := "NearLiarsModel", name := "grid", desc := "(III)I" } : Jvm.MethodName) ∈ dp_g := dp_at 685 (by decide +kernel) rfl
theorem dq_686 : Cond.selects "NearLiarsModel" ({ cls := "NearLiarsModel", name := "grid", desc := "(III)I" } : Jvm.MethodName) ({ cls := "NearLiarsModel", name := "grid", desc := "(III)I" } : Jvm.MethodName) ∈ dp_g := dp_at 686 (by decide +kernel) rfl
set_option maxRecDepth 20000 in
theorem dq_687 : Cond.code ({ cls := "NearLiarsModel", name := "grid", desc := "(III)I" } : Jvm.MethodName) prog_8_method_9_code (8 : Nat) (Option.some Jvm.ClassFile.FieldType.int) ∈ dp_g := dp_at 687 rfl rfl
theorem dq_688 : Cond.methodLink "NearLiarsLaw" (26 : Nat) ({ cls := "NearLiarsModel", name := "edge", desc := "(III)I" } : Jvm.MethodName) ∈ dp_g := dp_at 688 (by decide +kernel) rfl
theorem dq_689 : Cond.instanceMethod ({ cls := "NearLiarsModel", name := "edge", desc := "(III)I" } : Jvm.MethodName) ∈ dp_g := dp_at 689 (by decide +kernel) rfl
theorem dq_690 : Cond.selects "NearLiarsModel" ({ cls := "NearLiarsModel", name := "edge", desc := "(III)I" } : Jvm.MethodName) ({ cls := "NearLiarsModel", name := "edge", desc := "(III)I" } : Jvm.MethodName) ∈ dp_g := dp_at 690 (by decide +kernel) rfl
set_option maxRecDepth 20000 in
theorem dq_691 : Cond.code ({ cls := "NearLiarsModel", name := "edge", desc := "(III)I" } : Jvm.MethodName) prog_8_method_10_code (5 : Nat) (Option.some Jvm.ClassFile.FieldType.int) ∈ dp_g := dp_at 691 rfl rfl
theorem dq_692 : Cond.methodLink "NearLiarsModel" (86 : Nat) ({ cls := "NearLiarsModel", name := "isNode", desc := "(I)Z" } : Jvm.MethodName) ∈ dp_g := dp_at 692 (by decide +kernel) rfl
theorem dq_694 : Cond.instanceMethod ({ cls := "NearLiarsModel", name := "isNode", desc := "(I)Z" } : Jvm.MethodName) ∈ dp_g := dp_at 694 (by decide +kernel) rfl
set_option maxRecDepth 20000 in
theorem dq_695 : Cond.code ({ cls := "NearLiarsModel", name := "isNode", desc := "(I)Z" } : Jvm.MethodName) prog_8_method_5_code (2 : Nat) (Option.some Jvm.ClassFile.FieldType.boolean) ∈ dp_g := dp_at 695 rfl rfl
theorem dq_696 : Cond.methodLink "NearLiarsLaw" (30 : Nat) ({ cls := "NearLiarsModel", name := "neighbours", desc := "(I)I" } : Jvm.MethodName) ∈ dp_g := dp_at 696 (by decide +kernel) rfl
theorem dq_697 : Cond.instanceMethod ({ cls := "NearLiarsModel", name := "neighbours", desc := "(I)I" } : Jvm.MethodName) ∈ dp_g := dp_at 697 (by decide +kernel) rfl
theorem dq_698 : Cond.selects "NearLiarsModel" ({ cls := "NearLiarsModel", name := "neighbours", desc := "(I)I" } : Jvm.MethodName) ({ cls := "NearLiarsModel", name := "neighbours", desc := "(I)I" } : Jvm.MethodName) ∈ dp_g := dp_at 698 (by decide +kernel) rfl
set_option maxRecDepth 20000 in
theorem dq_699 : Cond.code ({ cls := "NearLiarsModel", name := "neighbours", desc := "(I)I" } : Jvm.MethodName) prog_8_method_11_code (2 : Nat) (Option.some Jvm.ClassFile.FieldType.int) ∈ dp_g := dp_at 699 rfl rfl
theorem dq_700 : Cond.methodLink "NearLiarsLaw" (35 : Nat) ({ cls := "NearLiarsModel", name := "dealer", desc := "(II)I" } : Jvm.MethodName) ∈ dp_g := dp_at 700 (by decide +kernel) rfl
theorem dq_701 : Cond.instanceMethod ({ cls := "NearLiarsModel", name := "dealer", desc := "(II)I" } : Jvm.MethodName) ∈ dp_g := dp_at 701 (by decide +kernel) rfl
theorem dq_702 : Cond.selects "NearLiarsModel" ({ cls := "NearLiarsModel", name := "dealer", desc := "(II)I" } : Jvm.MethodName) ({ cls := "NearLiarsModel", name := "dealer", desc := "(II)I" } : Jvm.MethodName) ∈ dp_g := dp_at 702 (by decide +kernel) rfl
set_option maxRecDepth 20000 in
theorem dq_703 : Cond.code ({ cls := "NearLiarsModel", name := "dealer", desc := "(II)I" } : Jvm.MethodName) prog_8_method_12_code (4 : Nat) (Option.some Jvm.ClassFile.FieldType.int) ∈ dp_g := dp_at 703 rfl rfl
theorem dq_704 : Cond.methodLink "NearLiarsLaw" (39 : Nat) ({ cls := "NearLiarsModel", name := "need", desc := "(I)I" } : Jvm.MethodName) ∈ dp_g := dp_at 704 (by decide +kernel) rfl
theorem dq_705 : Cond.instanceMethod ({ cls := "NearLiarsModel", name := "need", desc := "(I)I" } : Jvm.MethodName) ∈ dp_g := dp_at 705 (by decide +kernel) rfl
theorem dq_706 : Cond.selects "NearLiarsModel" ({ cls := "NearLiarsModel", name := "need", desc := "(I)I" } : Jvm.MethodName) ({ cls := "NearLiarsModel", name := "need", desc := "(I)I" } : Jvm.MethodName) ∈ dp_g := dp_at 706 (by decide +kernel) rfl
set_option maxRecDepth 20000 in
theorem dq_707 : Cond.code ({ cls := "NearLiarsModel", name := "need", desc := "(I)I" } : Jvm.MethodName) prog_8_method_13_code (3 : Nat) (Option.some Jvm.ClassFile.FieldType.int) ∈ dp_g := dp_at 707 rfl rfl
theorem dq_708 : Cond.methodLink "NearLiarsLaw" (43 : Nat) ({ cls := "NearLiarsModel", name := "lie", desc := "(II)I" } : Jvm.MethodName) ∈ dp_g := dp_at 708 (by decide +kernel) rfl
theorem dq_709 : Cond.instanceMethod ({ cls := "NearLiarsModel", name := "lie", desc := "(II)I" } : Jvm.MethodName) ∈ dp_g := dp_at 709 (by decide +kernel) rfl
theorem dq_710 : Cond.selects "NearLiarsModel" ({ cls := "NearLiarsModel", name := "lie", desc := "(II)I" } : Jvm.MethodName) ({ cls := "NearLiarsModel", name := "lie", desc := "(II)I" } : Jvm.MethodName) ∈ dp_g := dp_at 710 (by decide +kernel) rfl
set_option maxRecDepth 20000 in
theorem dq_711 : Cond.code ({ cls := "NearLiarsModel", name := "lie", desc := "(II)I" } : Jvm.MethodName) prog_8_method_14_code (4 : Nat) (Option.some Jvm.ClassFile.FieldType.int) ∈ dp_g := dp_at 711 rfl rfl
theorem dq_712 : Cond.methodLink "NearLiarsLaw" (48 : Nat) ({ cls := "NearLiarsModel", name := "begin", desc := "()I" } : Jvm.MethodName) ∈ dp_g := dp_at 712 (by decide +kernel) rfl
theorem dq_713 : Cond.instanceMethod ({ cls := "NearLiarsModel", name := "begin", desc := "()I" } : Jvm.MethodName) ∈ dp_g := dp_at 713 (by decide +kernel) rfl
theorem dq_714 : Cond.selects "NearLiarsModel" ({ cls := "NearLiarsModel", name := "begin", desc := "()I" } : Jvm.MethodName) ({ cls := "NearLiarsModel", name := "begin", desc := "()I" } : Jvm.MethodName) ∈ dp_g := dp_at 714 (by decide +kernel) rfl
set_option maxRecDepth 20000 in
theorem dq_715 : Cond.code ({ cls := "NearLiarsModel", name := "begin", desc := "()I" } : Jvm.MethodName) prog_8_method_19_code (2 : Nat) (Option.some Jvm.ClassFile.FieldType.int) ∈ dp_g := dp_at 715 rfl rfl
theorem dq_716 : Cond.methodLink "NearLiarsLaw" (52 : Nat) ({ cls := "NearLiarsModel", name := "ticks", desc := "(I)I" } : Jvm.MethodName) ∈ dp_g := dp_at 716 (by decide +kernel) rfl
theorem dq_717 : Cond.instanceMethod ({ cls := "NearLiarsModel", name := "ticks", desc := "(I)I" } : Jvm.MethodName) ∈ dp_g := dp_at 717 (by decide +kernel) rfl
theorem dq_718 : Cond.selects "NearLiarsModel" ({ cls := "NearLiarsModel", name := "ticks", desc := "(I)I" } : Jvm.MethodName) ({ cls := "NearLiarsModel", name := "ticks", desc := "(I)I" } : Jvm.MethodName) ∈ dp_g := dp_at 718 (by decide +kernel) rfl
set_option maxRecDepth 20000 in
theorem dq_719 : Cond.code ({ cls := "NearLiarsModel", name := "ticks", desc := "(I)I" } : Jvm.MethodName) prog_8_method_24_code (4 : Nat) (Option.some Jvm.ClassFile.FieldType.int) ∈ dp_g := dp_at 719 rfl rfl
theorem dq_720 : Cond.methodLink "NearLiarsModel" (126 : Nat) ({ cls := "NearLiarsModel", name := "tick", desc := "()I" } : Jvm.MethodName) ∈ dp_g := dp_at 720 (by decide +kernel) rfl
theorem dq_722 : Cond.instanceMethod ({ cls := "NearLiarsModel", name := "tick", desc := "()I" } : Jvm.MethodName) ∈ dp_g := dp_at 722 (by decide +kernel) rfl
set_option maxRecDepth 20000 in
theorem dq_723 : Cond.code ({ cls := "NearLiarsModel", name := "tick", desc := "()I" } : Jvm.MethodName) prog_8_method_23_code (4 : Nat) (Option.some Jvm.ClassFile.FieldType.int) ∈ dp_g := dp_at 723 rfl rfl
theorem dq_724 : Cond.methodLink "NearLiarsModel" (119 : Nat) ({ cls := "NearLiarsModel", name := "says", desc := "(I)I" } : Jvm.MethodName) ∈ dp_g := dp_at 724 (by decide +kernel) rfl
theorem dq_726 : Cond.instanceMethod ({ cls := "NearLiarsModel", name := "says", desc := "(I)I" } : Jvm.MethodName) ∈ dp_g := dp_at 726 (by decide +kernel) rfl
set_option maxRecDepth 20000 in
theorem dq_727 : Cond.code ({ cls := "NearLiarsModel", name := "says", desc := "(I)I" } : Jvm.MethodName) prog_8_method_21_code (2 : Nat) (Option.some Jvm.ClassFile.FieldType.int) ∈ dp_g := dp_at 727 rfl rfl
theorem dq_728 : Cond.methodLink "NearLiarsModel" (112 : Nat) ({ cls := "NearLiarsModel", name := "isHonest", desc := "(I)Z" } : Jvm.MethodName) ∈ dp_g := dp_at 728 (by decide +kernel) rfl
theorem dq_730 : Cond.instanceMethod ({ cls := "NearLiarsModel", name := "isHonest", desc := "(I)Z" } : Jvm.MethodName) ∈ dp_g := dp_at 730 (by decide +kernel) rfl
set_option maxRecDepth 20000 in
theorem dq_731 : Cond.code ({ cls := "NearLiarsModel", name := "isHonest", desc := "(I)Z" } : Jvm.MethodName) prog_8_method_20_code (2 : Nat) (Option.some Jvm.ClassFile.FieldType.boolean) ∈ dp_g := dp_at 731 rfl rfl
theorem dq_732 : Cond.methodLink "NearLiarsModel" (122 : Nat) ({ cls := "NearLiarsModel", name := "speaks", desc := "(II)I" } : Jvm.MethodName) ∈ dp_g := dp_at 732 (by decide +kernel) rfl
theorem dq_734 : Cond.instanceMethod ({ cls := "NearLiarsModel", name := "speaks", desc := "(II)I" } : Jvm.MethodName) ∈ dp_g := dp_at 734 (by decide +kernel) rfl
set_option maxRecDepth 20000 in
theorem dq_735 : Cond.code ({ cls := "NearLiarsModel", name := "speaks", desc := "(II)I" } : Jvm.MethodName) prog_8_method_22_code (6 : Nat) (Option.some Jvm.ClassFile.FieldType.int) ∈ dp_g := dp_at 735 rfl rfl
theorem dq_736 : Cond.methodLink "NearLiarsModel" (115 : Nat) ({ cls := "NearLiarsModel", name := "size", desc := "(I)I" } : Jvm.MethodName) ∈ dp_g := dp_at 736 (by decide +kernel) rfl
theorem dq_737 : Cond.static ({ cls := "NearLiarsModel", name := "size", desc := "(I)I" } : Jvm.MethodName) ∈ dp_g := dp_at 737 (by decide +kernel) rfl
set_option maxRecDepth 20000 in
theorem dq_738 : Cond.code ({ cls := "NearLiarsModel", name := "size", desc := "(I)I" } : Jvm.MethodName) prog_8_method_4_code (3 : Nat) (Option.some Jvm.ClassFile.FieldType.int) ∈ dp_g := dp_at 738 rfl rfl
theorem dq_739 : Cond.methodLink "NearLiarsLaw" (56 : Nat) ({ cls := "NearLiarsModel", name := "node", desc := "(II)I" } : Jvm.MethodName) ∈ dp_g := dp_at 739 (by decide +kernel) rfl
theorem dq_740 : Cond.instanceMethod ({ cls := "NearLiarsModel", name := "node", desc := "(II)I" } : Jvm.MethodName) ∈ dp_g := dp_at 740 (by decide +kernel) rfl
theorem dq_741 : Cond.selects "NearLiarsModel" ({ cls := "NearLiarsModel", name := "node", desc := "(II)I" } : Jvm.MethodName) ({ cls := "NearLiarsModel", name := "node", desc := "(II)I" } : Jvm.MethodName) ∈ dp_g := dp_at 741 (by decide +kernel) rfl
set_option maxRecDepth 20000 in
theorem dq_742 : Cond.code ({ cls := "NearLiarsModel", name := "node", desc := "(II)I" } : Jvm.MethodName) prog_8_method_26_code (3 : Nat) (Option.some Jvm.ClassFile.FieldType.int) ∈ dp_g := dp_at 742 rfl rfl
theorem dq_743 : Cond.methodLink "NearLiarsModel" (130 : Nat) ({ cls := "NearLiarsModel", name := "heardBy", desc := "(I)I" } : Jvm.MethodName) ∈ dp_g := dp_at 743 (by decide +kernel) rfl
theorem dq_745 : Cond.instanceMethod ({ cls := "NearLiarsModel", name := "heardBy", desc := "(I)I" } : Jvm.MethodName) ∈ dp_g := dp_at 745 (by decide +kernel) rfl
set_option maxRecDepth 20000 in
theorem dq_746 : Cond.code ({ cls := "NearLiarsModel", name := "heardBy", desc := "(I)I" } : Jvm.MethodName) prog_8_method_25_code (4 : Nat) (Option.some Jvm.ClassFile.FieldType.int) ∈ dp_g := dp_at 746 rfl rfl
theorem dq_747 : Cond.methodLink "NearLiarsLaw" (60 : Nat) ({ cls := "NearLiarsModel", name := "band", desc := "(II)I" } : Jvm.MethodName) ∈ dp_g := dp_at 747 (by decide +kernel) rfl
theorem dq_748 : Cond.instanceMethod ({ cls := "NearLiarsModel", name := "band", desc := "(II)I" } : Jvm.MethodName) ∈ dp_g := dp_at 748 (by decide +kernel) rfl
theorem dq_749 : Cond.selects "NearLiarsModel" ({ cls := "NearLiarsModel", name := "band", desc := "(II)I" } : Jvm.MethodName) ({ cls := "NearLiarsModel", name := "band", desc := "(II)I" } : Jvm.MethodName) ∈ dp_g := dp_at 749 (by decide +kernel) rfl
set_option maxRecDepth 20000 in
theorem dq_750 : Cond.code ({ cls := "NearLiarsModel", name := "band", desc := "(II)I" } : Jvm.MethodName) prog_8_method_29_code (4 : Nat) (Option.some Jvm.ClassFile.FieldType.int) ∈ dp_g := dp_at 750 rfl rfl
theorem dq_751 : Cond.methodLink "NearLiarsModel" (133 : Nat) ({ cls := "NearLiarsModel", name := "lastIn", desc := "(II)I" } : Jvm.MethodName) ∈ dp_g := dp_at 751 (by decide +kernel) rfl
theorem dq_753 : Cond.instanceMethod ({ cls := "NearLiarsModel", name := "lastIn", desc := "(II)I" } : Jvm.MethodName) ∈ dp_g := dp_at 753 (by decide +kernel) rfl
set_option maxRecDepth 20000 in
theorem dq_754 : Cond.code ({ cls := "NearLiarsModel", name := "lastIn", desc := "(II)I" } : Jvm.MethodName) prog_8_method_28_code (5 : Nat) (Option.some Jvm.ClassFile.FieldType.int) ∈ dp_g := dp_at 754 rfl rfl
theorem dq_755 : Cond.methodLink "NearLiarsModel" (136 : Nat) ({ cls := "NearLiarsModel", name := "manyHonest", desc := "(III)I" } : Jvm.MethodName) ∈ dp_g := dp_at 755 (by decide +kernel) rfl
theorem dq_757 : Cond.instanceMethod ({ cls := "NearLiarsModel", name := "manyHonest", desc := "(III)I" } : Jvm.MethodName) ∈ dp_g := dp_at 757 (by decide +kernel) rfl
set_option maxRecDepth 20000 in
theorem dq_758 : Cond.code ({ cls := "NearLiarsModel", name := "manyHonest", desc := "(III)I" } : Jvm.MethodName) prog_8_method_27_code (8 : Nat) (Option.some Jvm.ClassFile.FieldType.int) ∈ dp_g := dp_at 758 rfl rfl
theorem dq_759 : Cond.methodLink "NearLiarsLaw" (64 : Nat) ({ cls := "NearLiarsModel", name := "sort", desc := "(I)I" } : Jvm.MethodName) ∈ dp_g := dp_at 759 (by decide +kernel) rfl
theorem dq_760 : Cond.instanceMethod ({ cls := "NearLiarsModel", name := "sort", desc := "(I)I" } : Jvm.MethodName) ∈ dp_g := dp_at 760 (by decide +kernel) rfl
theorem dq_761 : Cond.selects "NearLiarsModel" ({ cls := "NearLiarsModel", name := "sort", desc := "(I)I" } : Jvm.MethodName) ({ cls := "NearLiarsModel", name := "sort", desc := "(I)I" } : Jvm.MethodName) ∈ dp_g := dp_at 761 (by decide +kernel) rfl
set_option maxRecDepth 20000 in
theorem dq_762 : Cond.code ({ cls := "NearLiarsModel", name := "sort", desc := "(I)I" } : Jvm.MethodName) prog_8_method_34_code (2 : Nat) (Option.some Jvm.ClassFile.FieldType.int) ∈ dp_g := dp_at 762 rfl rfl
theorem dq_763 : Cond.methodLink "NearLiarsModel" (143 : Nat) ({ cls := "NearLiarsModel", name := "isSet", desc := "(I)Z" } : Jvm.MethodName) ∈ dp_g := dp_at 763 (by decide +kernel) rfl
theorem dq_765 : Cond.instanceMethod ({ cls := "NearLiarsModel", name := "isSet", desc := "(I)Z" } : Jvm.MethodName) ∈ dp_g := dp_at 765 (by decide +kernel) rfl
set_option maxRecDepth 20000 in
theorem dq_766 : Cond.code ({ cls := "NearLiarsModel", name := "isSet", desc := "(I)Z" } : Jvm.MethodName) prog_8_method_30_code (2 : Nat) (Option.some Jvm.ClassFile.FieldType.boolean) ∈ dp_g := dp_at 766 rfl rfl
theorem dq_767 : Cond.methodLink "NearLiarsModel" (146 : Nat) ({ cls := "NearLiarsModel", name := "crowdedBy", desc := "(II)I" } : Jvm.MethodName) ∈ dp_g := dp_at 767 (by decide +kernel) rfl
theorem dq_769 : Cond.instanceMethod ({ cls := "NearLiarsModel", name := "crowdedBy", desc := "(II)I" } : Jvm.MethodName) ∈ dp_g := dp_at 769 (by decide +kernel) rfl
set_option maxRecDepth 20000 in
theorem dq_770 : Cond.code ({ cls := "NearLiarsModel", name := "crowdedBy", desc := "(II)I" } : Jvm.MethodName) prog_8_method_31_code (4 : Nat) (Option.some Jvm.ClassFile.FieldType.int) ∈ dp_g := dp_at 770 rfl rfl
theorem dq_771 : Cond.methodLink "NearLiarsModel" (149 : Nat) ({ cls := "NearLiarsModel", name := "cutBy", desc := "(II)I" } : Jvm.MethodName) ∈ dp_g := dp_at 771 (by decide +kernel) rfl
theorem dq_773 : Cond.instanceMethod ({ cls := "NearLiarsModel", name := "cutBy", desc := "(II)I" } : Jvm.MethodName) ∈ dp_g := dp_at 773 (by decide +kernel) rfl
set_option maxRecDepth 20000 in
theorem dq_774 : Cond.code ({ cls := "NearLiarsModel", name := "cutBy", desc := "(II)I" } : Jvm.MethodName) prog_8_method_33_code (3 : Nat) (Option.some Jvm.ClassFile.FieldType.int) ∈ dp_g := dp_at 774 rfl rfl
theorem dq_775 : Cond.methodLink "NearLiarsModel" (140 : Nat) ({ cls := "NearLiarsModel", name := "reachedBy", desc := "(II)I" } : Jvm.MethodName) ∈ dp_g := dp_at 775 (by decide +kernel) rfl
theorem dq_777 : Cond.instanceMethod ({ cls := "NearLiarsModel", name := "reachedBy", desc := "(II)I" } : Jvm.MethodName) ∈ dp_g := dp_at 777 (by decide +kernel) rfl
set_option maxRecDepth 20000 in
theorem dq_778 : Cond.code ({ cls := "NearLiarsModel", name := "reachedBy", desc := "(II)I" } : Jvm.MethodName) prog_8_method_32_code (6 : Nat) (Option.some Jvm.ClassFile.FieldType.int) ∈ dp_g := dp_at 778 rfl rfl
theorem dq_779 : Cond.methodLink "NearLiarsLaw" (68 : Nat) ({ cls := "NearLiarsModel", name := "crowded", desc := "(I)I" } : Jvm.MethodName) ∈ dp_g := dp_at 779 (by decide +kernel) rfl
theorem dq_780 : Cond.instanceMethod ({ cls := "NearLiarsModel", name := "crowded", desc := "(I)I" } : Jvm.MethodName) ∈ dp_g := dp_at 780 (by decide +kernel) rfl
theorem dq_781 : Cond.selects "NearLiarsModel" ({ cls := "NearLiarsModel", name := "crowded", desc := "(I)I" } : Jvm.MethodName) ({ cls := "NearLiarsModel", name := "crowded", desc := "(I)I" } : Jvm.MethodName) ∈ dp_g := dp_at 781 (by decide +kernel) rfl
set_option maxRecDepth 20000 in
theorem dq_782 : Cond.code ({ cls := "NearLiarsModel", name := "crowded", desc := "(I)I" } : Jvm.MethodName) prog_8_method_35_code (2 : Nat) (Option.some Jvm.ClassFile.FieldType.int) ∈ dp_g := dp_at 782 rfl rfl
theorem dq_783 : Cond.methodLink "NearLiarsLaw" (72 : Nat) ({ cls := "NearLiarsModel", name := "reached", desc := "(I)I" } : Jvm.MethodName) ∈ dp_g := dp_at 783 (by decide +kernel) rfl
theorem dq_784 : Cond.instanceMethod ({ cls := "NearLiarsModel", name := "reached", desc := "(I)I" } : Jvm.MethodName) ∈ dp_g := dp_at 784 (by decide +kernel) rfl
theorem dq_785 : Cond.selects "NearLiarsModel" ({ cls := "NearLiarsModel", name := "reached", desc := "(I)I" } : Jvm.MethodName) ({ cls := "NearLiarsModel", name := "reached", desc := "(I)I" } : Jvm.MethodName) ∈ dp_g := dp_at 785 (by decide +kernel) rfl
set_option maxRecDepth 20000 in
theorem dq_786 : Cond.code ({ cls := "NearLiarsModel", name := "reached", desc := "(I)I" } : Jvm.MethodName) prog_8_method_36_code (2 : Nat) (Option.some Jvm.ClassFile.FieldType.int) ∈ dp_g := dp_at 786 rfl rfl
theorem dq_787 : Cond.methodLink "NearLiarsLaw" (76 : Nat) ({ cls := "NearLiarsModel", name := "worst", desc := "(I)I" } : Jvm.MethodName) ∈ dp_g := dp_at 787 (by decide +kernel) rfl
theorem dq_788 : Cond.instanceMethod ({ cls := "NearLiarsModel", name := "worst", desc := "(I)I" } : Jvm.MethodName) ∈ dp_g := dp_at 788 (by decide +kernel) rfl
theorem dq_789 : Cond.selects "NearLiarsModel" ({ cls := "NearLiarsModel", name := "worst", desc := "(I)I" } : Jvm.MethodName) ({ cls := "NearLiarsModel", name := "worst", desc := "(I)I" } : Jvm.MethodName) ∈ dp_g := dp_at 789 (by decide +kernel) rfl
set_option maxRecDepth 20000 in
theorem dq_790 : Cond.code ({ cls := "NearLiarsModel", name := "worst", desc := "(I)I" } : Jvm.MethodName) prog_8_method_38_code (2 : Nat) (Option.some Jvm.ClassFile.FieldType.int) ∈ dp_g := dp_at 790 rfl rfl
theorem dq_791 : Cond.methodLink "NearLiarsModel" (161 : Nat) ({ cls := "NearLiarsModel", name := "triesSets", desc := "(I)V" } : Jvm.MethodName) ∈ dp_g := dp_at 791 (by decide +kernel) rfl
theorem dq_793 : Cond.instanceMethod ({ cls := "NearLiarsModel", name := "triesSets", desc := "(I)V" } : Jvm.MethodName) ∈ dp_g := dp_at 793 (by decide +kernel) rfl
set_option maxRecDepth 20000 in
theorem dq_794 : Cond.code ({ cls := "NearLiarsModel", name := "triesSets", desc := "(I)V" } : Jvm.MethodName) prog_8_method_37_code (4 : Nat) (Option.none : Option Jvm.ClassFile.FieldType) ∈ dp_g := dp_at 794 rfl rfl
theorem dq_795 : Cond.methodLink "NearLiarsLaw" (80 : Nat) ({ cls := "NearLiarsModel", name := "bears", desc := "()I" } : Jvm.MethodName) ∈ dp_g := dp_at 795 (by decide +kernel) rfl
theorem dq_796 : Cond.instanceMethod ({ cls := "NearLiarsModel", name := "bears", desc := "()I" } : Jvm.MethodName) ∈ dp_g := dp_at 796 (by decide +kernel) rfl
theorem dq_797 : Cond.selects "NearLiarsModel" ({ cls := "NearLiarsModel", name := "bears", desc := "()I" } : Jvm.MethodName) ({ cls := "NearLiarsModel", name := "bears", desc := "()I" } : Jvm.MethodName) ∈ dp_g := dp_at 797 (by decide +kernel) rfl
set_option maxRecDepth 20000 in
theorem dq_798 : Cond.code ({ cls := "NearLiarsModel", name := "bears", desc := "()I" } : Jvm.MethodName) prog_8_method_39_code (3 : Nat) (Option.some Jvm.ClassFile.FieldType.int) ∈ dp_g := dp_at 798 rfl rfl
theorem dq_799 : Cond.methodLink "NearLiarsLaw" (84 : Nat) ({ cls := "NearLiarsModel", name := "name", desc := "(I)I" } : Jvm.MethodName) ∈ dp_g := dp_at 799 (by decide +kernel) rfl
theorem dq_800 : Cond.instanceMethod ({ cls := "NearLiarsModel", name := "name", desc := "(I)I" } : Jvm.MethodName) ∈ dp_g := dp_at 800 (by decide +kernel) rfl
theorem dq_801 : Cond.selects "NearLiarsModel" ({ cls := "NearLiarsModel", name := "name", desc := "(I)I" } : Jvm.MethodName) ({ cls := "NearLiarsModel", name := "name", desc := "(I)I" } : Jvm.MethodName) ∈ dp_g := dp_at 801 (by decide +kernel) rfl
set_option maxRecDepth 20000 in
theorem dq_802 : Cond.code ({ cls := "NearLiarsModel", name := "name", desc := "(I)I" } : Jvm.MethodName) prog_8_method_40_code (4 : Nat) (Option.some Jvm.ClassFile.FieldType.int) ∈ dp_g := dp_at 802 rfl rfl
theorem dq_803 : Cond.methodLink "NearLiarsLaw" (88 : Nat) ({ cls := "NearLiarsModel", name := "named", desc := "(I)I" } : Jvm.MethodName) ∈ dp_g := dp_at 803 (by decide +kernel) rfl
theorem dq_804 : Cond.instanceMethod ({ cls := "NearLiarsModel", name := "named", desc := "(I)I" } : Jvm.MethodName) ∈ dp_g := dp_at 804 (by decide +kernel) rfl
theorem dq_805 : Cond.selects "NearLiarsModel" ({ cls := "NearLiarsModel", name := "named", desc := "(I)I" } : Jvm.MethodName) ({ cls := "NearLiarsModel", name := "named", desc := "(I)I" } : Jvm.MethodName) ∈ dp_g := dp_at 805 (by decide +kernel) rfl
set_option maxRecDepth 20000 in
theorem dq_806 : Cond.code ({ cls := "NearLiarsModel", name := "named", desc := "(I)I" } : Jvm.MethodName) prog_8_method_41_code (2 : Nat) (Option.some Jvm.ClassFile.FieldType.int) ∈ dp_g := dp_at 806 rfl rfl
theorem dq_807 : Cond.methodLink "NearLiarsLaw" (92 : Nat) ({ cls := "NearLiarsModel", name := "walk", desc := "(I)I" } : Jvm.MethodName) ∈ dp_g := dp_at 807 (by decide +kernel) rfl
theorem dq_808 : Cond.instanceMethod ({ cls := "NearLiarsModel", name := "walk", desc := "(I)I" } : Jvm.MethodName) ∈ dp_g := dp_at 808 (by decide +kernel) rfl
theorem dq_809 : Cond.selects "NearLiarsModel" ({ cls := "NearLiarsModel", name := "walk", desc := "(I)I" } : Jvm.MethodName) ({ cls := "NearLiarsModel", name := "walk", desc := "(I)I" } : Jvm.MethodName) ∈ dp_g := dp_at 809 (by decide +kernel) rfl
set_option maxRecDepth 20000 in
theorem dq_810 : Cond.code ({ cls := "NearLiarsModel", name := "walk", desc := "(I)I" } : Jvm.MethodName) prog_8_method_43_code (3 : Nat) (Option.some Jvm.ClassFile.FieldType.int) ∈ dp_g := dp_at 810 rfl rfl
theorem dq_811 : Cond.methodLink "NearLiarsModel" (165 : Nat) ({ cls := "NearLiarsModel", name := "isOnWay", desc := "(I)Z" } : Jvm.MethodName) ∈ dp_g := dp_at 811 (by decide +kernel) rfl
theorem dq_813 : Cond.instanceMethod ({ cls := "NearLiarsModel", name := "isOnWay", desc := "(I)Z" } : Jvm.MethodName) ∈ dp_g := dp_at 813 (by decide +kernel) rfl
set_option maxRecDepth 20000 in
theorem dq_814 : Cond.code ({ cls := "NearLiarsModel", name := "isOnWay", desc := "(I)Z" } : Jvm.MethodName) prog_8_method_42_code (3 : Nat) (Option.some Jvm.ClassFile.FieldType.boolean) ∈ dp_g := dp_at 814 rfl rfl
theorem dq_815 : Cond.methodLink "NearLiarsLaw" (96 : Nat) ({ cls := "NearLiarsModel", name := "tell", desc := "(I)I" } : Jvm.MethodName) ∈ dp_g := dp_at 815 (by decide +kernel) rfl
theorem dq_816 : Cond.instanceMethod ({ cls := "NearLiarsModel", name := "tell", desc := "(I)I" } : Jvm.MethodName) ∈ dp_g := dp_at 816 (by decide +kernel) rfl
theorem dq_817 : Cond.selects "NearLiarsModel" ({ cls := "NearLiarsModel", name := "tell", desc := "(I)I" } : Jvm.MethodName) ({ cls := "NearLiarsModel", name := "tell", desc := "(I)I" } : Jvm.MethodName) ∈ dp_g := dp_at 817 (by decide +kernel) rfl
set_option maxRecDepth 20000 in
theorem dq_818 : Cond.code ({ cls := "NearLiarsModel", name := "tell", desc := "(I)I" } : Jvm.MethodName) prog_8_method_46_code (3 : Nat) (Option.some Jvm.ClassFile.FieldType.int) ∈ dp_g := dp_at 818 rfl rfl
theorem dq_819 : Cond.methodLink "NearLiarsModel" (168 : Nat) ({ cls := "NearLiarsModel", name := "isClaimed", desc := "(I)Z" } : Jvm.MethodName) ∈ dp_g := dp_at 819 (by decide +kernel) rfl
theorem dq_821 : Cond.instanceMethod ({ cls := "NearLiarsModel", name := "isClaimed", desc := "(I)Z" } : Jvm.MethodName) ∈ dp_g := dp_at 821 (by decide +kernel) rfl
set_option maxRecDepth 20000 in
theorem dq_822 : Cond.code ({ cls := "NearLiarsModel", name := "isClaimed", desc := "(I)Z" } : Jvm.MethodName) prog_8_method_44_code (5 : Nat) (Option.some Jvm.ClassFile.FieldType.boolean) ∈ dp_g := dp_at 822 rfl rfl
theorem dq_823 : Cond.methodLink "NearLiarsModel" (171 : Nat) ({ cls := "NearLiarsModel", name := "oldestGoes", desc := "()V" } : Jvm.MethodName) ∈ dp_g := dp_at 823 (by decide +kernel) rfl
theorem dq_825 : Cond.instanceMethod ({ cls := "NearLiarsModel", name := "oldestGoes", desc := "()V" } : Jvm.MethodName) ∈ dp_g := dp_at 825 (by decide +kernel) rfl
set_option maxRecDepth 20000 in
theorem dq_826 : Cond.code ({ cls := "NearLiarsModel", name := "oldestGoes", desc := "()V" } : Jvm.MethodName) prog_8_method_45_code (2 : Nat) (Option.none : Option Jvm.ClassFile.FieldType) ∈ dp_g := dp_at 826 rfl rfl
theorem dq_827 : Cond.methodLink "NearLiarsLaw" (100 : Nat) ({ cls := "NearLiarsModel", name := "drop", desc := "()I" } : Jvm.MethodName) ∈ dp_g := dp_at 827 (by decide +kernel) rfl
theorem dq_828 : Cond.instanceMethod ({ cls := "NearLiarsModel", name := "drop", desc := "()I" } : Jvm.MethodName) ∈ dp_g := dp_at 828 (by decide +kernel) rfl
theorem dq_829 : Cond.selects "NearLiarsModel" ({ cls := "NearLiarsModel", name := "drop", desc := "()I" } : Jvm.MethodName) ({ cls := "NearLiarsModel", name := "drop", desc := "()I" } : Jvm.MethodName) ∈ dp_g := dp_at 829 (by decide +kernel) rfl
set_option maxRecDepth 20000 in
theorem dq_830 : Cond.code ({ cls := "NearLiarsModel", name := "drop", desc := "()I" } : Jvm.MethodName) prog_8_method_47_code (2 : Nat) (Option.some Jvm.ClassFile.FieldType.int) ∈ dp_g := dp_at 830 rfl rfl
theorem dq_831 : Cond.methodLink "NearLiarsLaw" (104 : Nat) ({ cls := "NearLiarsModel", name := "claim", desc := "(II)I" } : Jvm.MethodName) ∈ dp_g := dp_at 831 (by decide +kernel) rfl
theorem dq_832 : Cond.instanceMethod ({ cls := "NearLiarsModel", name := "claim", desc := "(II)I" } : Jvm.MethodName) ∈ dp_g := dp_at 832 (by decide +kernel) rfl
theorem dq_833 : Cond.selects "NearLiarsModel" ({ cls := "NearLiarsModel", name := "claim", desc := "(II)I" } : Jvm.MethodName) ({ cls := "NearLiarsModel", name := "claim", desc := "(II)I" } : Jvm.MethodName) ∈ dp_g := dp_at 833 (by decide +kernel) rfl
set_option maxRecDepth 20000 in
theorem dq_834 : Cond.code ({ cls := "NearLiarsModel", name := "claim", desc := "(II)I" } : Jvm.MethodName) prog_8_method_49_code (3 : Nat) (Option.some Jvm.ClassFile.FieldType.int) ∈ dp_g := dp_at 834 rfl rfl
theorem dq_835 : Cond.methodLink "NearLiarsModel" (174 : Nat) ({ cls := "NearLiarsModel", name := "setOf", desc := "(I)I" } : Jvm.MethodName) ∈ dp_g := dp_at 835 (by decide +kernel) rfl
theorem dq_837 : Cond.instanceMethod ({ cls := "NearLiarsModel", name := "setOf", desc := "(I)I" } : Jvm.MethodName) ∈ dp_g := dp_at 837 (by decide +kernel) rfl
set_option maxRecDepth 20000 in
theorem dq_838 : Cond.code ({ cls := "NearLiarsModel", name := "setOf", desc := "(I)I" } : Jvm.MethodName) prog_8_method_48_code (4 : Nat) (Option.some Jvm.ClassFile.FieldType.int) ∈ dp_g := dp_at 838 rfl rfl
theorem dq_839 : Cond.methodLink "NearLiarsLaw" (108 : Nat) ({ cls := "NearLiarsModel", name := "proof", desc := "(II)I" } : Jvm.MethodName) ∈ dp_g := dp_at 839 (by decide +kernel) rfl
theorem dq_840 : Cond.instanceMethod ({ cls := "NearLiarsModel", name := "proof", desc := "(II)I" } : Jvm.MethodName) ∈ dp_g := dp_at 840 (by decide +kernel) rfl
theorem dq_841 : Cond.selects "NearLiarsModel" ({ cls := "NearLiarsModel", name := "proof", desc := "(II)I" } : Jvm.MethodName) ({ cls := "NearLiarsModel", name := "proof", desc := "(II)I" } : Jvm.MethodName) ∈ dp_g := dp_at 841 (by decide +kernel) rfl
set_option maxRecDepth 20000 in
theorem dq_842 : Cond.code ({ cls := "NearLiarsModel", name := "proof", desc := "(II)I" } : Jvm.MethodName) prog_8_method_52_code (3 : Nat) (Option.some Jvm.ClassFile.FieldType.int) ∈ dp_g := dp_at 842 rfl rfl
theorem dq_843 : Cond.methodLink "NearLiarsModel" (180 : Nat) ({ cls := "NearLiarsModel", name := "proofOf", desc := "(II)I" } : Jvm.MethodName) ∈ dp_g := dp_at 843 (by decide +kernel) rfl
theorem dq_845 : Cond.instanceMethod ({ cls := "NearLiarsModel", name := "proofOf", desc := "(II)I" } : Jvm.MethodName) ∈ dp_g := dp_at 845 (by decide +kernel) rfl
set_option maxRecDepth 20000 in
theorem dq_846 : Cond.code ({ cls := "NearLiarsModel", name := "proofOf", desc := "(II)I" } : Jvm.MethodName) prog_8_method_51_code (6 : Nat) (Option.some Jvm.ClassFile.FieldType.int) ∈ dp_g := dp_at 846 rfl rfl
theorem dq_847 : Cond.methodLink "NearLiarsModel" (177 : Nat) ({ cls := "NearLiarsModel", name := "proves", desc := "(III)I" } : Jvm.MethodName) ∈ dp_g := dp_at 847 (by decide +kernel) rfl
theorem dq_849 : Cond.instanceMethod ({ cls := "NearLiarsModel", name := "proves", desc := "(III)I" } : Jvm.MethodName) ∈ dp_g := dp_at 849 (by decide +kernel) rfl
set_option maxRecDepth 20000 in
theorem dq_850 : Cond.code ({ cls := "NearLiarsModel", name := "proves", desc := "(III)I" } : Jvm.MethodName) prog_8_method_50_code (9 : Nat) (Option.some Jvm.ClassFile.FieldType.int) ∈ dp_g := dp_at 850 rfl rfl
theorem dq_851 : Cond.methodLink "NearLiarsLaw" (112 : Nat) ({ cls := "NearLiarsModel", name := "believes", desc := "(I)I" } : Jvm.MethodName) ∈ dp_g := dp_at 851 (by decide +kernel) rfl
theorem dq_852 : Cond.instanceMethod ({ cls := "NearLiarsModel", name := "believes", desc := "(I)I" } : Jvm.MethodName) ∈ dp_g := dp_at 852 (by decide +kernel) rfl
theorem dq_853 : Cond.selects "NearLiarsModel" ({ cls := "NearLiarsModel", name := "believes", desc := "(I)I" } : Jvm.MethodName) ({ cls := "NearLiarsModel", name := "believes", desc := "(I)I" } : Jvm.MethodName) ∈ dp_g := dp_at 853 (by decide +kernel) rfl
set_option maxRecDepth 20000 in
theorem dq_854 : Cond.code ({ cls := "NearLiarsModel", name := "believes", desc := "(I)I" } : Jvm.MethodName) prog_8_method_53_code (6 : Nat) (Option.some Jvm.ClassFile.FieldType.int) ∈ dp_g := dp_at 854 rfl rfl
theorem dq_855 : Cond.methodLink "NearLiarsLaw" (116 : Nat) ({ cls := "NearLiarsModel", name := "many", desc := "(I)I" } : Jvm.MethodName) ∈ dp_g := dp_at 855 (by decide +kernel) rfl
theorem dq_856 : Cond.instanceMethod ({ cls := "NearLiarsModel", name := "many", desc := "(I)I" } : Jvm.MethodName) ∈ dp_g := dp_at 856 (by decide +kernel) rfl
theorem dq_857 : Cond.selects "NearLiarsModel" ({ cls := "NearLiarsModel", name := "many", desc := "(I)I" } : Jvm.MethodName) ({ cls := "NearLiarsModel", name := "many", desc := "(I)I" } : Jvm.MethodName) ∈ dp_g := dp_at 857 (by decide +kernel) rfl
set_option maxRecDepth 20000 in
theorem dq_858 : Cond.code ({ cls := "NearLiarsModel", name := "many", desc := "(I)I" } : Jvm.MethodName) prog_8_method_55_code (2 : Nat) (Option.some Jvm.ClassFile.FieldType.int) ∈ dp_g := dp_at 858 rfl rfl
theorem dq_859 : Cond.methodLink "NearLiarsModel" (183 : Nat) ({ cls := "NearLiarsModel", name := "twos", desc := "()I" } : Jvm.MethodName) ∈ dp_g := dp_at 859 (by decide +kernel) rfl
theorem dq_861 : Cond.instanceMethod ({ cls := "NearLiarsModel", name := "twos", desc := "()I" } : Jvm.MethodName) ∈ dp_g := dp_at 861 (by decide +kernel) rfl
set_option maxRecDepth 20000 in
theorem dq_862 : Cond.code ({ cls := "NearLiarsModel", name := "twos", desc := "()I" } : Jvm.MethodName) prog_8_method_54_code (3 : Nat) (Option.some Jvm.ClassFile.FieldType.int) ∈ dp_g := dp_at 862 rfl rfl
end
section
/-! ===== 08: classes, field links, method tables, call links (printed by program) ===== -/
theorem cfi_0 : GoodIn lw_tbl (u_ws RX0 TX0 9) := goodIn_p _ [] rfl (by decide +kernel)
theorem cf_0 : dp_CF (RX0, TX0, 9) := ⟨fun w hw => dp_in (cfi_0 w hw).1 (List.all_eq_true.mp (show (u_ws RX0 TX0 9).all goodWord = true by decide +kernel) w hw), ⟨tyX0, tyX0_ok⟩, nmX0⟩
theorem cfi_1 : GoodIn lw_tbl (u_ws RX1 TX1 2) := goodIn_p _ [] rfl (by decide +kernel)
theorem cf_1 : dp_CF (RX1, TX1, 2) := ⟨fun w hw => dp_in (cfi_1 w hw).1 (List.all_eq_true.mp (show (u_ws RX1 TX1 2).all goodWord = true by decide +kernel) w hw), ⟨tyX1, tyX1_ok⟩, nmX1⟩
theorem cfi_2 : GoodIn lw_tbl (u_ws RX2 TX2 8) := goodIn_p _ [] rfl (by decide +kernel)
theorem cf_2 : dp_CF (RX2, TX2, 8) := ⟨fun w hw => dp_in (cfi_2 w hw).1 (List.all_eq_true.mp (show (u_ws RX2 TX2 8).all goodWord = true by decide +kernel) w hw), ⟨tyX2, tyX2_ok⟩, nmX2⟩
theorem cfi_3 : GoodIn lw_tbl (u_ws RX3 TX3 7) := goodIn_p _ [] rfl (by decide +kernel)
theorem cf_3 : dp_CF (RX3, TX3, 7) := ⟨fun w hw => dp_in (cfi_3 w hw).1 (List.all_eq_true.mp (show (u_ws RX3 TX3 7).all goodWord = true by decide +kernel) w hw), ⟨tyX3, tyX3_ok⟩, nmX3⟩
theorem cfi_4 : GoodIn lw_tbl (u_ws RX4 TX4 4) := goodIn_p _ [] rfl (by decide +kernel)
theorem cf_4 : dp_CF (RX4, TX4, 4) := ⟨fun w hw => dp_in (cfi_4 w hw).1 (List.all_eq_true.mp (show (u_ws RX4 TX4 4).all goodWord = true by decide +kernel) w hw), ⟨tyX4, tyX4_ok⟩, nmX4⟩
theorem cfi_5 : GoodIn lw_tbl (u_ws RX5 TX5 5) := goodIn_p _ [] rfl (by decide +kernel)
theorem cf_5 : dp_CF (RX5, TX5, 5) := ⟨fun w hw => dp_in (cfi_5 w hw).1 (List.all_eq_true.mp (show (u_ws RX5 TX5 5).all goodWord = true by decide +kernel) w hw), ⟨tyX5, tyX5_ok⟩, nmX5⟩
theorem cfi_6 : GoodIn lw_tbl (u_ws RX6 TX6 26) := goodIn_p _ [] rfl (by decide +kernel)
theorem cf_6 : dp_CF (RX6, TX6, 26) := ⟨fun w hw => dp_in (cfi_6 w hw).1 (List.all_eq_true.mp (show (u_ws RX6 TX6 26).all goodWord = true by decide +kernel) w hw), ⟨tyX6, tyX6_ok⟩, nmX6⟩
def fl_0 : List (Nat × Nat × Nat × Nat) := [(43, 2, 5, 1), (43, 2, 5, 3), (9, 0, 0, 0), (15, 0, 1, 0), (18, 0, 2, 0), (21, 0, 3, 0), (24, 0, 4, 0), (27, 0, 5, 0), (40, 0, 6, 0), (40, 0, 6, 2), (37, 0, 7, 0), (37, 0, 7, 2), (33, 0, 8, 0), (33, 0, 8, 2)]
theorem fl_0_ok : ∀ x ∈ fl_0, dp_FL RX0 x ∧ x.2.2.2 ≠ 4 := List.forall_mem_cons.mpr ⟨⟨⟨_, rfl, Nat.le_of_ble_eq_true rfl, cf_2, ⟨_, dq_92⟩⟩, by decide⟩, List.forall_mem_cons.mpr ⟨⟨⟨_, rfl, Nat.le_of_ble_eq_true rfl, cf_2, ⟨_, dq_92⟩, rfl, by decide +kernel⟩, by decide⟩, List.forall_mem_cons.mpr ⟨⟨⟨_, rfl, Nat.le_of_ble_eq_true rfl, cf_0, dq_197⟩, by decide⟩, List.forall_mem_cons.mpr ⟨⟨⟨_, rfl, Nat.le_of_ble_eq_true rfl, cf_0, dq_198⟩, by decide⟩, List.forall_mem_cons.mpr ⟨⟨⟨_, rfl, Nat.le_of_ble_eq_true rfl, cf_0, dq_199⟩, by decide⟩, List.forall_mem_cons.mpr ⟨⟨⟨_, rfl, Nat.le_of_ble_eq_true rfl, cf_0, dq_201⟩, by decide⟩, List.forall_mem_cons.mpr ⟨⟨⟨_, rfl, Nat.le_of_ble_eq_true rfl, cf_0, dq_203⟩, by decide⟩, List.forall_mem_cons.mpr ⟨⟨⟨_, rfl, Nat.le_of_ble_eq_true rfl, cf_0, dq_205⟩, by decide⟩, List.forall_mem_cons.mpr ⟨⟨⟨_, rfl, Nat.le_of_ble_eq_true rfl, cf_0, dq_206⟩, by decide⟩, List.forall_mem_cons.mpr ⟨⟨⟨_, rfl, Nat.le_of_ble_eq_true rfl, cf_0, dq_206, rfl, by decide +kernel⟩, by decide⟩, List.forall_mem_cons.mpr ⟨⟨⟨_, rfl, Nat.le_of_ble_eq_true rfl, cf_0, dq_207⟩, by decide⟩, List.forall_mem_cons.mpr ⟨⟨⟨_, rfl, Nat.le_of_ble_eq_true rfl, cf_0, dq_207, rfl, by decide +kernel⟩, by decide⟩, List.forall_mem_cons.mpr ⟨⟨⟨_, rfl, Nat.le_of_ble_eq_true rfl, cf_0, dq_209⟩, by decide⟩, List.forall_mem_cons.mpr ⟨⟨⟨_, rfl, Nat.le_of_ble_eq_true rfl, cf_0, dq_209, rfl, by decide +kernel⟩, by decide⟩, (fun _ h => absurd h List.not_mem_nil)⟩⟩⟩⟩⟩⟩⟩⟩⟩⟩⟩⟩⟩⟩
def ff_0 : List (Nat × Nat × Nat × Nat) := [(9, 0, 0, 4), (15, 0, 1, 4), (18, 0, 2, 4), (21, 0, 3, 4), (24, 0, 4, 4), (27, 0, 5, 4)]
theorem ff_0_ok : ∀ x ∈ ff_0, dp_FL RX0 x := List.forall_mem_cons.mpr ⟨⟨_, rfl, Nat.le_of_ble_eq_true rfl, cf_0, dq_197, rfl, rfl, _, (by decide +kernel : parseFieldDescriptor _ = some (tyX0 0)), fun _ => ⟨rfl, rfl⟩⟩, List.forall_mem_cons.mpr ⟨⟨_, rfl, Nat.le_of_ble_eq_true rfl, cf_0, dq_198, rfl, rfl, _, (by decide +kernel : parseFieldDescriptor _ = some (tyX0 1)), fun _ => ⟨rfl, rfl⟩⟩, List.forall_mem_cons.mpr ⟨⟨_, rfl, Nat.le_of_ble_eq_true rfl, cf_0, dq_199, rfl, rfl, _, (by decide +kernel : parseFieldDescriptor _ = some (tyX0 2)), fun _ => ⟨rfl, rfl⟩⟩, List.forall_mem_cons.mpr ⟨⟨_, rfl, Nat.le_of_ble_eq_true rfl, cf_0, dq_201, rfl, rfl, _, (by decide +kernel : parseFieldDescriptor _ = some (tyX0 3)), fun _ => ⟨rfl, rfl⟩⟩, List.forall_mem_cons.mpr ⟨⟨_, rfl, Nat.le_of_ble_eq_true rfl, cf_0, dq_203, rfl, rfl, _, (by decide +kernel : parseFieldDescriptor _ = some (tyX0 4)), fun _ => ⟨rfl, rfl⟩⟩, List.forall_mem_cons.mpr ⟨⟨_, rfl, Nat.le_of_ble_eq_true rfl, cf_0, dq_205, rfl, rfl, _, (by decide +kernel : parseFieldDescriptor _ = some (tyX0 5)), fun _ => ⟨rfl, rfl⟩⟩, (fun _ h => absurd h List.not_mem_nil)⟩⟩⟩⟩⟩⟩
def fl_1 : List (Nat × Nat × Nat × Nat) := [(9, 1, 0, 0), (15, 1, 1, 0), (15, 1, 1, 2)]
theorem fl_1_ok : ∀ x ∈ fl_1, dp_FL RX1 x ∧ x.2.2.2 ≠ 4 := List.forall_mem_cons.mpr ⟨⟨⟨_, rfl, Nat.le_of_ble_eq_true rfl, cf_1, dq_182⟩, by decide⟩, List.forall_mem_cons.mpr ⟨⟨⟨_, rfl, Nat.le_of_ble_eq_true rfl, cf_1, dq_184⟩, by decide⟩, List.forall_mem_cons.mpr ⟨⟨⟨_, rfl, Nat.le_of_ble_eq_true rfl, cf_1, dq_184, rfl, by decide +kernel⟩, by decide⟩, (fun _ h => absurd h List.not_mem_nil)⟩⟩⟩
def ff_1 : List (Nat × Nat × Nat × Nat) := [(9, 1, 0, 4)]
theorem ff_1_ok : ∀ x ∈ ff_1, dp_FL RX1 x := List.forall_mem_cons.mpr ⟨⟨_, rfl, Nat.le_of_ble_eq_true rfl, cf_1, dq_182, rfl, rfl, _, (by decide +kernel : parseFieldDescriptor _ = some (tyX1 0)), fun _ => ⟨rfl, rfl⟩⟩, (fun _ h => absurd h List.not_mem_nil)⟩
def fl_2 : List (Nat × Nat × Nat × Nat) := [(9, 2, 0, 0), (15, 2, 1, 0), (35, 2, 2, 0), (35, 2, 2, 2), (29, 2, 3, 0), (29, 2, 3, 2), (32, 2, 4, 0), (32, 2, 4, 2), (38, 2, 5, 0), (38, 2, 5, 2), (18, 2, 6, 0), (18, 2, 6, 2), (22, 2, 7, 0), (22, 2, 7, 2)]
theorem fl_2_ok : ∀ x ∈ fl_2, dp_FL RX2 x ∧ x.2.2.2 ≠ 4 := List.forall_mem_cons.mpr ⟨⟨⟨_, rfl, Nat.le_of_ble_eq_true rfl, cf_2, dq_78⟩, by decide⟩, List.forall_mem_cons.mpr ⟨⟨⟨_, rfl, Nat.le_of_ble_eq_true rfl, cf_2, dq_81⟩, by decide⟩, List.forall_mem_cons.mpr ⟨⟨⟨_, rfl, Nat.le_of_ble_eq_true rfl, cf_2, dq_84⟩, by decide⟩, List.forall_mem_cons.mpr ⟨⟨⟨_, rfl, Nat.le_of_ble_eq_true rfl, cf_2, dq_84, rfl, by decide +kernel⟩, by decide⟩, List.forall_mem_cons.mpr ⟨⟨⟨_, rfl, Nat.le_of_ble_eq_true rfl, cf_2, dq_87⟩, by decide⟩, List.forall_mem_cons.mpr ⟨⟨⟨_, rfl, Nat.le_of_ble_eq_true rfl, cf_2, dq_87, rfl, by decide +kernel⟩, by decide⟩, List.forall_mem_cons.mpr ⟨⟨⟨_, rfl, Nat.le_of_ble_eq_true rfl, cf_2, dq_88⟩, by decide⟩, List.forall_mem_cons.mpr ⟨⟨⟨_, rfl, Nat.le_of_ble_eq_true rfl, cf_2, dq_88, rfl, by decide +kernel⟩, by decide⟩, List.forall_mem_cons.mpr ⟨⟨⟨_, rfl, Nat.le_of_ble_eq_true rfl, cf_2, dq_90⟩, by decide⟩, List.forall_mem_cons.mpr ⟨⟨⟨_, rfl, Nat.le_of_ble_eq_true rfl, cf_2, dq_90, rfl, by decide +kernel⟩, by decide⟩, List.forall_mem_cons.mpr ⟨⟨⟨_, rfl, Nat.le_of_ble_eq_true rfl, cf_2, dq_94⟩, by decide⟩, List.forall_mem_cons.mpr ⟨⟨⟨_, rfl, Nat.le_of_ble_eq_true rfl, cf_2, dq_94, rfl, by decide +kernel⟩, by decide⟩, List.forall_mem_cons.mpr ⟨⟨⟨_, rfl, Nat.le_of_ble_eq_true rfl, cf_2, dq_97⟩, by decide⟩, List.forall_mem_cons.mpr ⟨⟨⟨_, rfl, Nat.le_of_ble_eq_true rfl, cf_2, dq_97, rfl, by decide +kernel⟩, by decide⟩, (fun _ h => absurd h List.not_mem_nil)⟩⟩⟩⟩⟩⟩⟩⟩⟩⟩⟩⟩⟩⟩
def ff_2 : List (Nat × Nat × Nat × Nat) := [(9, 2, 0, 4), (15, 2, 1, 4)]
theorem ff_2_ok : ∀ x ∈ ff_2, dp_FL RX2 x := List.forall_mem_cons.mpr ⟨⟨_, rfl, Nat.le_of_ble_eq_true rfl, cf_2, dq_78, rfl, rfl, _, (by decide +kernel : parseFieldDescriptor _ = some (tyX2 0)), fun _ => ⟨rfl, rfl⟩⟩, List.forall_mem_cons.mpr ⟨⟨_, rfl, Nat.le_of_ble_eq_true rfl, cf_2, dq_81, rfl, rfl, _, (by decide +kernel : parseFieldDescriptor _ = some (tyX2 1)), fun _ => ⟨rfl, rfl⟩⟩, (fun _ h => absurd h List.not_mem_nil)⟩⟩
def fl_3 : List (Nat × Nat × Nat × Nat) := [(73, 2, 0, 1), (82, 2, 1, 1), (52, 2, 2, 1), (52, 2, 2, 3), (44, 2, 5, 1), (44, 2, 5, 3), (49, 2, 6, 1), (49, 2, 6, 3), (96, 2, 7, 1), (96, 2, 7, 3), (9, 3, 0, 0), (15, 3, 1, 0), (18, 3, 2, 0), (21, 3, 3, 0), (24, 3, 4, 0), (24, 3, 4, 2), (28, 3, 5, 0), (28, 3, 5, 2), (31, 3, 6, 0), (31, 3, 6, 2)]
theorem fl_3_ok : ∀ x ∈ fl_3, dp_FL RX3 x ∧ x.2.2.2 ≠ 4 := List.forall_mem_cons.mpr ⟨⟨⟨_, rfl, Nat.le_of_ble_eq_true rfl, cf_2, ⟨_, dq_79⟩⟩, by decide⟩, List.forall_mem_cons.mpr ⟨⟨⟨_, rfl, Nat.le_of_ble_eq_true rfl, cf_2, ⟨_, dq_83⟩⟩, by decide⟩, List.forall_mem_cons.mpr ⟨⟨⟨_, rfl, Nat.le_of_ble_eq_true rfl, cf_2, ⟨_, dq_85⟩⟩, by decide⟩, List.forall_mem_cons.mpr ⟨⟨⟨_, rfl, Nat.le_of_ble_eq_true rfl, cf_2, ⟨_, dq_85⟩, rfl, by decide +kernel⟩, by decide⟩, List.forall_mem_cons.mpr ⟨⟨⟨_, rfl, Nat.le_of_ble_eq_true rfl, cf_2, ⟨_, dq_91⟩⟩, by decide⟩, List.forall_mem_cons.mpr ⟨⟨⟨_, rfl, Nat.le_of_ble_eq_true rfl, cf_2, ⟨_, dq_91⟩, rfl, by decide +kernel⟩, by decide⟩, List.forall_mem_cons.mpr ⟨⟨⟨_, rfl, Nat.le_of_ble_eq_true rfl, cf_2, ⟨_, dq_95⟩⟩, by decide⟩, List.forall_mem_cons.mpr ⟨⟨⟨_, rfl, Nat.le_of_ble_eq_true rfl, cf_2, ⟨_, dq_95⟩, rfl, by decide +kernel⟩, by decide⟩, List.forall_mem_cons.mpr ⟨⟨⟨_, rfl, Nat.le_of_ble_eq_true rfl, cf_2, ⟨_, dq_100⟩⟩, by decide⟩, List.forall_mem_cons.mpr ⟨⟨⟨_, rfl, Nat.le_of_ble_eq_true rfl, cf_2, ⟨_, dq_100⟩, rfl, by decide +kernel⟩, by decide⟩, List.forall_mem_cons.mpr ⟨⟨⟨_, rfl, Nat.le_of_ble_eq_true rfl, cf_3, dq_125⟩, by decide⟩, List.forall_mem_cons.mpr ⟨⟨⟨_, rfl, Nat.le_of_ble_eq_true rfl, cf_3, dq_127⟩, by decide⟩, List.forall_mem_cons.mpr ⟨⟨⟨_, rfl, Nat.le_of_ble_eq_true rfl, cf_3, dq_129⟩, by decide⟩, List.forall_mem_cons.mpr ⟨⟨⟨_, rfl, Nat.le_of_ble_eq_true rfl, cf_3, dq_131⟩, by decide⟩, List.forall_mem_cons.mpr ⟨⟨⟨_, rfl, Nat.le_of_ble_eq_true rfl, cf_3, dq_132⟩, by decide⟩, List.forall_mem_cons.mpr ⟨⟨⟨_, rfl, Nat.le_of_ble_eq_true rfl, cf_3, dq_132, rfl, by decide +kernel⟩, by decide⟩, List.forall_mem_cons.mpr ⟨⟨⟨_, rfl, Nat.le_of_ble_eq_true rfl, cf_3, dq_134⟩, by decide⟩, List.forall_mem_cons.mpr ⟨⟨⟨_, rfl, Nat.le_of_ble_eq_true rfl, cf_3, dq_134, rfl, by decide +kernel⟩, by decide⟩, List.forall_mem_cons.mpr ⟨⟨⟨_, rfl, Nat.le_of_ble_eq_true rfl, cf_3, dq_136⟩, by decide⟩, List.forall_mem_cons.mpr ⟨⟨⟨_, rfl, Nat.le_of_ble_eq_true rfl, cf_3, dq_136, rfl, by decide +kernel⟩, by decide⟩, (fun _ h => absurd h List.not_mem_nil)⟩⟩⟩⟩⟩⟩⟩⟩⟩⟩⟩⟩⟩⟩⟩⟩⟩⟩⟩⟩
def ff_3 : List (Nat × Nat × Nat × Nat) := [(9, 3, 0, 4), (15, 3, 1, 4), (18, 3, 2, 4), (21, 3, 3, 4)]
theorem ff_3_ok : ∀ x ∈ ff_3, dp_FL RX3 x := List.forall_mem_cons.mpr ⟨⟨_, rfl, Nat.le_of_ble_eq_true rfl, cf_3, dq_125, rfl, rfl, _, (by decide +kernel : parseFieldDescriptor _ = some (tyX3 0)), fun _ => ⟨rfl, rfl⟩⟩, List.forall_mem_cons.mpr ⟨⟨_, rfl, Nat.le_of_ble_eq_true rfl, cf_3, dq_127, rfl, rfl, _, (by decide +kernel : parseFieldDescriptor _ = some (tyX3 1)), fun _ => ⟨rfl, rfl⟩⟩, List.forall_mem_cons.mpr ⟨⟨_, rfl, Nat.le_of_ble_eq_true rfl, cf_3, dq_129, rfl, rfl, _, (by decide +kernel : parseFieldDescriptor _ = some (tyX3 2)), fun _ => ⟨rfl, rfl⟩⟩, List.forall_mem_cons.mpr ⟨⟨_, rfl, Nat.le_of_ble_eq_true rfl, cf_3, dq_131, rfl, rfl, _, (by decide +kernel : parseFieldDescriptor _ = some (tyX3 3)), fun _ => ⟨rfl, rfl⟩⟩, (fun _ h => absurd h List.not_mem_nil)⟩⟩⟩⟩
def fl_4 : List (Nat × Nat × Nat × Nat) := [(32, 2, 7, 1), (32, 2, 7, 3), (7, 4, 0, 0), (7, 4, 0, 2), (13, 4, 1, 0), (13, 4, 1, 2), (16, 4, 2, 0), (16, 4, 2, 2), (19, 4, 3, 0), (19, 4, 3, 2)]
theorem fl_4_ok : ∀ x ∈ fl_4, dp_FL RX4 x ∧ x.2.2.2 ≠ 4 := List.forall_mem_cons.mpr ⟨⟨⟨_, rfl, Nat.le_of_ble_eq_true rfl, cf_2, ⟨_, dq_98⟩⟩, by decide⟩, List.forall_mem_cons.mpr ⟨⟨⟨_, rfl, Nat.le_of_ble_eq_true rfl, cf_2, ⟨_, dq_98⟩, rfl, by decide +kernel⟩, by decide⟩, List.forall_mem_cons.mpr ⟨⟨⟨_, rfl, Nat.le_of_ble_eq_true rfl, cf_4, dq_159⟩, by decide⟩, List.forall_mem_cons.mpr ⟨⟨⟨_, rfl, Nat.le_of_ble_eq_true rfl, cf_4, dq_159, rfl, by decide +kernel⟩, by decide⟩, List.forall_mem_cons.mpr ⟨⟨⟨_, rfl, Nat.le_of_ble_eq_true rfl, cf_4, dq_161⟩, by decide⟩, List.forall_mem_cons.mpr ⟨⟨⟨_, rfl, Nat.le_of_ble_eq_true rfl, cf_4, dq_161, rfl, by decide +kernel⟩, by decide⟩, List.forall_mem_cons.mpr ⟨⟨⟨_, rfl, Nat.le_of_ble_eq_true rfl, cf_4, dq_163⟩, by decide⟩, List.forall_mem_cons.mpr ⟨⟨⟨_, rfl, Nat.le_of_ble_eq_true rfl, cf_4, dq_163, rfl, by decide +kernel⟩, by decide⟩, List.forall_mem_cons.mpr ⟨⟨⟨_, rfl, Nat.le_of_ble_eq_true rfl, cf_4, dq_165⟩, by decide⟩, List.forall_mem_cons.mpr ⟨⟨⟨_, rfl, Nat.le_of_ble_eq_true rfl, cf_4, dq_165, rfl, by decide +kernel⟩, by decide⟩, (fun _ h => absurd h List.not_mem_nil)⟩⟩⟩⟩⟩⟩⟩⟩⟩⟩
def ff_4 : List (Nat × Nat × Nat × Nat) := []
theorem ff_4_ok : ∀ x ∈ ff_4, dp_FL RX4 x := (fun _ h => absurd h List.not_mem_nil)
def fl_5 : List (Nat × Nat × Nat × Nat) := [(67, 2, 0, 1), (81, 2, 1, 1), (222, 2, 2, 1), (222, 2, 2, 3), (114, 2, 4, 1), (114, 2, 4, 3), (74, 2, 5, 1), (74, 2, 5, 3), (78, 2, 6, 1), (78, 2, 6, 3), (84, 2, 7, 1), (84, 2, 7, 3), (98, 3, 0, 1), (101, 3, 1, 1), (104, 3, 2, 1), (226, 3, 4, 1), (226, 3, 4, 3), (87, 3, 5, 1), (87, 3, 5, 3), (111, 3, 6, 1), (111, 3, 6, 3), (157, 4, 0, 1), (157, 4, 0, 3), (160, 4, 1, 1), (160, 4, 1, 3), (163, 4, 2, 1), (163, 4, 2, 3), (166, 4, 3, 1), (166, 4, 3, 3), (178, 1, 0, 1), (175, 1, 1, 1), (175, 1, 1, 3), (207, 0, 2, 1), (210, 0, 3, 1), (204, 0, 4, 1), (188, 0, 7, 1), (188, 0, 7, 3), (200, 0, 8, 1), (200, 0, 8, 3), (10, 5, 0, 0), (19, 5, 1, 0), (26, 5, 2, 0), (33, 5, 3, 0), (40, 5, 4, 0)]
theorem fl_5_ok : ∀ x ∈ fl_5, dp_FL RX5 x ∧ x.2.2.2 ≠ 4 := List.forall_mem_cons.mpr ⟨⟨⟨_, rfl, Nat.le_of_ble_eq_true rfl, cf_2, ⟨_, dq_80⟩⟩, by decide⟩, List.forall_mem_cons.mpr ⟨⟨⟨_, rfl, Nat.le_of_ble_eq_true rfl, cf_2, ⟨_, dq_82⟩⟩, by decide⟩, List.forall_mem_cons.mpr ⟨⟨⟨_, rfl, Nat.le_of_ble_eq_true rfl, cf_2, ⟨_, dq_86⟩⟩, by decide⟩, List.forall_mem_cons.mpr ⟨⟨⟨_, rfl, Nat.le_of_ble_eq_true rfl, cf_2, ⟨_, dq_86⟩, rfl, by decide +kernel⟩, by decide⟩, List.forall_mem_cons.mpr ⟨⟨⟨_, rfl, Nat.le_of_ble_eq_true rfl, cf_2, ⟨_, dq_89⟩⟩, by decide⟩, List.forall_mem_cons.mpr ⟨⟨⟨_, rfl, Nat.le_of_ble_eq_true rfl, cf_2, ⟨_, dq_89⟩, rfl, by decide +kernel⟩, by decide⟩, List.forall_mem_cons.mpr ⟨⟨⟨_, rfl, Nat.le_of_ble_eq_true rfl, cf_2, ⟨_, dq_93⟩⟩, by decide⟩, List.forall_mem_cons.mpr ⟨⟨⟨_, rfl, Nat.le_of_ble_eq_true rfl, cf_2, ⟨_, dq_93⟩, rfl, by decide +kernel⟩, by decide⟩, List.forall_mem_cons.mpr ⟨⟨⟨_, rfl, Nat.le_of_ble_eq_true rfl, cf_2, ⟨_, dq_96⟩⟩, by decide⟩, List.forall_mem_cons.mpr ⟨⟨⟨_, rfl, Nat.le_of_ble_eq_true rfl, cf_2, ⟨_, dq_96⟩, rfl, by decide +kernel⟩, by decide⟩, List.forall_mem_cons.mpr ⟨⟨⟨_, rfl, Nat.le_of_ble_eq_true rfl, cf_2, ⟨_, dq_99⟩⟩, by decide⟩, List.forall_mem_cons.mpr ⟨⟨⟨_, rfl, Nat.le_of_ble_eq_true rfl, cf_2, ⟨_, dq_99⟩, rfl, by decide +kernel⟩, by decide⟩, List.forall_mem_cons.mpr ⟨⟨⟨_, rfl, Nat.le_of_ble_eq_true rfl, cf_3, ⟨_, dq_126⟩⟩, by decide⟩, List.forall_mem_cons.mpr ⟨⟨⟨_, rfl, Nat.le_of_ble_eq_true rfl, cf_3, ⟨_, dq_128⟩⟩, by decide⟩, List.forall_mem_cons.mpr ⟨⟨⟨_, rfl, Nat.le_of_ble_eq_true rfl, cf_3, ⟨_, dq_130⟩⟩, by decide⟩, List.forall_mem_cons.mpr ⟨⟨⟨_, rfl, Nat.le_of_ble_eq_true rfl, cf_3, ⟨_, dq_133⟩⟩, by decide⟩, List.forall_mem_cons.mpr ⟨⟨⟨_, rfl, Nat.le_of_ble_eq_true rfl, cf_3, ⟨_, dq_133⟩, rfl, by decide +kernel⟩, by decide⟩, List.forall_mem_cons.mpr ⟨⟨⟨_, rfl, Nat.le_of_ble_eq_true rfl, cf_3, ⟨_, dq_135⟩⟩, by decide⟩, List.forall_mem_cons.mpr ⟨⟨⟨_, rfl, Nat.le_of_ble_eq_true rfl, cf_3, ⟨_, dq_135⟩, rfl, by decide +kernel⟩, by decide⟩, List.forall_mem_cons.mpr ⟨⟨⟨_, rfl, Nat.le_of_ble_eq_true rfl, cf_3, ⟨_, dq_137⟩⟩, by decide⟩, List.forall_mem_cons.mpr ⟨⟨⟨_, rfl, Nat.le_of_ble_eq_true rfl, cf_3, ⟨_, dq_137⟩, rfl, by decide +kernel⟩, by decide⟩, List.forall_mem_cons.mpr ⟨⟨⟨_, rfl, Nat.le_of_ble_eq_true rfl, cf_4, ⟨_, dq_160⟩⟩, by decide⟩, List.forall_mem_cons.mpr ⟨⟨⟨_, rfl, Nat.le_of_ble_eq_true rfl, cf_4, ⟨_, dq_160⟩, rfl, by decide +kernel⟩, by decide⟩, List.forall_mem_cons.mpr ⟨⟨⟨_, rfl, Nat.le_of_ble_eq_true rfl, cf_4, ⟨_, dq_162⟩⟩, by decide⟩, List.forall_mem_cons.mpr ⟨⟨⟨_, rfl, Nat.le_of_ble_eq_true rfl, cf_4, ⟨_, dq_162⟩, rfl, by decide +kernel⟩, by decide⟩, List.forall_mem_cons.mpr ⟨⟨⟨_, rfl, Nat.le_of_ble_eq_true rfl, cf_4, ⟨_, dq_164⟩⟩, by decide⟩, List.forall_mem_cons.mpr ⟨⟨⟨_, rfl, Nat.le_of_ble_eq_true rfl, cf_4, ⟨_, dq_164⟩, rfl, by decide +kernel⟩, by decide⟩, List.forall_mem_cons.mpr ⟨⟨⟨_, rfl, Nat.le_of_ble_eq_true rfl, cf_4, ⟨_, dq_166⟩⟩, by decide⟩, List.forall_mem_cons.mpr ⟨⟨⟨_, rfl, Nat.le_of_ble_eq_true rfl, cf_4, ⟨_, dq_166⟩, rfl, by decide +kernel⟩, by decide⟩, List.forall_mem_cons.mpr ⟨⟨⟨_, rfl, Nat.le_of_ble_eq_true rfl, cf_1, ⟨_, dq_183⟩⟩, by decide⟩, List.forall_mem_cons.mpr ⟨⟨⟨_, rfl, Nat.le_of_ble_eq_true rfl, cf_1, ⟨_, dq_185⟩⟩, by decide⟩, List.forall_mem_cons.mpr ⟨⟨⟨_, rfl, Nat.le_of_ble_eq_true rfl, cf_1, ⟨_, dq_185⟩, rfl, by decide +kernel⟩, by decide⟩, List.forall_mem_cons.mpr ⟨⟨⟨_, rfl, Nat.le_of_ble_eq_true rfl, cf_0, ⟨_, dq_200⟩⟩, by decide⟩, List.forall_mem_cons.mpr ⟨⟨⟨_, rfl, Nat.le_of_ble_eq_true rfl, cf_0, ⟨_, dq_202⟩⟩, by decide⟩, List.forall_mem_cons.mpr ⟨⟨⟨_, rfl, Nat.le_of_ble_eq_true rfl, cf_0, ⟨_, dq_204⟩⟩, by decide⟩, List.forall_mem_cons.mpr ⟨⟨⟨_, rfl, Nat.le_of_ble_eq_true rfl, cf_0, ⟨_, dq_208⟩⟩, by decide⟩, List.forall_mem_cons.mpr ⟨⟨⟨_, rfl, Nat.le_of_ble_eq_true rfl, cf_0, ⟨_, dq_208⟩, rfl, by decide +kernel⟩, by decide⟩, List.forall_mem_cons.mpr ⟨⟨⟨_, rfl, Nat.le_of_ble_eq_true rfl, cf_0, ⟨_, dq_210⟩⟩, by decide⟩, List.forall_mem_cons.mpr ⟨⟨⟨_, rfl, Nat.le_of_ble_eq_true rfl, cf_0, ⟨_, dq_210⟩, rfl, by decide +kernel⟩, by decide⟩, List.forall_mem_cons.mpr ⟨⟨⟨_, rfl, Nat.le_of_ble_eq_true rfl, cf_5, dq_257⟩, by decide⟩, List.forall_mem_cons.mpr ⟨⟨⟨_, rfl, Nat.le_of_ble_eq_true rfl, cf_5, dq_258⟩, by decide⟩, List.forall_mem_cons.mpr ⟨⟨⟨_, rfl, Nat.le_of_ble_eq_true rfl, cf_5, dq_259⟩, by decide⟩, List.forall_mem_cons.mpr ⟨⟨⟨_, rfl, Nat.le_of_ble_eq_true rfl, cf_5, dq_260⟩, by decide⟩, List.forall_mem_cons.mpr ⟨⟨⟨_, rfl, Nat.le_of_ble_eq_true rfl, cf_5, dq_261⟩, by decide⟩, (fun _ h => absurd h List.not_mem_nil)⟩⟩⟩⟩⟩⟩⟩⟩⟩⟩⟩⟩⟩⟩⟩⟩⟩⟩⟩⟩⟩⟩⟩⟩⟩⟩⟩⟩⟩⟩⟩⟩⟩⟩⟩⟩⟩⟩⟩⟩⟩⟩⟩⟩
def ff_5 : List (Nat × Nat × Nat × Nat) := [(10, 5, 0, 4), (19, 5, 1, 4), (26, 5, 2, 4), (33, 5, 3, 4), (40, 5, 4, 4)]
theorem ff_5_ok : ∀ x ∈ ff_5, dp_FL RX5 x := List.forall_mem_cons.mpr ⟨⟨_, rfl, Nat.le_of_ble_eq_true rfl, cf_5, dq_257, rfl, rfl, _, (by decide +kernel : parseFieldDescriptor _ = some (tyX5 0)), fun _ => ⟨rfl, rfl⟩⟩, List.forall_mem_cons.mpr ⟨⟨_, rfl, Nat.le_of_ble_eq_true rfl, cf_5, dq_258, rfl, rfl, _, (by decide +kernel : parseFieldDescriptor _ = some (tyX5 1)), fun _ => ⟨rfl, rfl⟩⟩, List.forall_mem_cons.mpr ⟨⟨_, rfl, Nat.le_of_ble_eq_true rfl, cf_5, dq_259, rfl, rfl, _, (by decide +kernel : parseFieldDescriptor _ = some (tyX5 2)), fun _ => ⟨rfl, rfl⟩⟩, List.forall_mem_cons.mpr ⟨⟨_, rfl, Nat.le_of_ble_eq_true rfl, cf_5, dq_260, rfl, rfl, _, (by decide +kernel : parseFieldDescriptor _ = some (tyX5 3)), fun _ => ⟨rfl, rfl⟩⟩, List.forall_mem_cons.mpr ⟨⟨_, rfl, Nat.le_of_ble_eq_true rfl, cf_5, dq_261, rfl, rfl, _, (by decide +kernel : parseFieldDescriptor _ = some (tyX5 4)), fun _ => ⟨rfl, rfl⟩⟩, (fun _ h => absurd h List.not_mem_nil)⟩⟩⟩⟩⟩
def fl_6 : List (Nat × Nat × Nat × Nat) := [(7, 6, 0, 0), (7, 6, 0, 2), (13, 6, 1, 0), (13, 6, 1, 2), (16, 6, 2, 0), (16, 6, 2, 2), (19, 6, 3, 0), (67, 6, 4, 0), (67, 6, 4, 2), (90, 6, 5, 0), (90, 6, 5, 2), (23, 6, 6, 0), (23, 6, 6, 2), (26, 6, 7, 0), (29, 6, 8, 0), (100, 6, 9, 0), (100, 6, 9, 2), (109, 6, 10, 0), (109, 6, 10, 2), (32, 6, 11, 0), (35, 6, 12, 0), (38, 6, 13, 0), (42, 6, 14, 0), (152, 6, 15, 0), (152, 6, 15, 2), (155, 6, 16, 0), (155, 6, 16, 2), (158, 6, 17, 0), (158, 6, 17, 2), (70, 6, 18, 0), (70, 6, 18, 2), (45, 6, 19, 0), (76, 6, 20, 0), (76, 6, 20, 2), (48, 6, 21, 0), (79, 6, 22, 0), (79, 6, 22, 2), (51, 6, 23, 0), (54, 6, 24, 0), (57, 6, 25, 0)]
theorem fl_6_ok : ∀ x ∈ fl_6, dp_FL RX6 x ∧ x.2.2.2 ≠ 4 := List.forall_mem_cons.mpr ⟨⟨⟨_, rfl, Nat.le_of_ble_eq_true rfl, cf_6, dq_589⟩, by decide⟩, List.forall_mem_cons.mpr ⟨⟨⟨_, rfl, Nat.le_of_ble_eq_true rfl, cf_6, dq_589, rfl, by decide +kernel⟩, by decide⟩, List.forall_mem_cons.mpr ⟨⟨⟨_, rfl, Nat.le_of_ble_eq_true rfl, cf_6, dq_590⟩, by decide⟩, List.forall_mem_cons.mpr ⟨⟨⟨_, rfl, Nat.le_of_ble_eq_true rfl, cf_6, dq_590, rfl, by decide +kernel⟩, by decide⟩, List.forall_mem_cons.mpr ⟨⟨⟨_, rfl, Nat.le_of_ble_eq_true rfl, cf_6, dq_591⟩, by decide⟩, List.forall_mem_cons.mpr ⟨⟨⟨_, rfl, Nat.le_of_ble_eq_true rfl, cf_6, dq_591, rfl, by decide +kernel⟩, by decide⟩, List.forall_mem_cons.mpr ⟨⟨⟨_, rfl, Nat.le_of_ble_eq_true rfl, cf_6, dq_592⟩, by decide⟩, List.forall_mem_cons.mpr ⟨⟨⟨_, rfl, Nat.le_of_ble_eq_true rfl, cf_6, dq_593⟩, by decide⟩, List.forall_mem_cons.mpr ⟨⟨⟨_, rfl, Nat.le_of_ble_eq_true rfl, cf_6, dq_593, rfl, by decide +kernel⟩, by decide⟩, List.forall_mem_cons.mpr ⟨⟨⟨_, rfl, Nat.le_of_ble_eq_true rfl, cf_6, dq_594⟩, by decide⟩, List.forall_mem_cons.mpr ⟨⟨⟨_, rfl, Nat.le_of_ble_eq_true rfl, cf_6, dq_594, rfl, by decide +kernel⟩, by decide⟩, List.forall_mem_cons.mpr ⟨⟨⟨_, rfl, Nat.le_of_ble_eq_true rfl, cf_6, dq_595⟩, by decide⟩, List.forall_mem_cons.mpr ⟨⟨⟨_, rfl, Nat.le_of_ble_eq_true rfl, cf_6, dq_595, rfl, by decide +kernel⟩, by decide⟩, List.forall_mem_cons.mpr ⟨⟨⟨_, rfl, Nat.le_of_ble_eq_true rfl, cf_6, dq_596⟩, by decide⟩, List.forall_mem_cons.mpr ⟨⟨⟨_, rfl, Nat.le_of_ble_eq_true rfl, cf_6, dq_597⟩, by decide⟩, List.forall_mem_cons.mpr ⟨⟨⟨_, rfl, Nat.le_of_ble_eq_true rfl, cf_6, dq_598⟩, by decide⟩, List.forall_mem_cons.mpr ⟨⟨⟨_, rfl, Nat.le_of_ble_eq_true rfl, cf_6, dq_598, rfl, by decide +kernel⟩, by decide⟩, List.forall_mem_cons.mpr ⟨⟨⟨_, rfl, Nat.le_of_ble_eq_true rfl, cf_6, dq_599⟩, by decide⟩, List.forall_mem_cons.mpr ⟨⟨⟨_, rfl, Nat.le_of_ble_eq_true rfl, cf_6, dq_599, rfl, by decide +kernel⟩, by decide⟩, List.forall_mem_cons.mpr ⟨⟨⟨_, rfl, Nat.le_of_ble_eq_true rfl, cf_6, dq_600⟩, by decide⟩, List.forall_mem_cons.mpr ⟨⟨⟨_, rfl, Nat.le_of_ble_eq_true rfl, cf_6, dq_601⟩, by decide⟩, List.forall_mem_cons.mpr ⟨⟨⟨_, rfl, Nat.le_of_ble_eq_true rfl, cf_6, dq_602⟩, by decide⟩, List.forall_mem_cons.mpr ⟨⟨⟨_, rfl, Nat.le_of_ble_eq_true rfl, cf_6, dq_603⟩, by decide⟩, List.forall_mem_cons.mpr ⟨⟨⟨_, rfl, Nat.le_of_ble_eq_true rfl, cf_6, dq_604⟩, by decide⟩, List.forall_mem_cons.mpr ⟨⟨⟨_, rfl, Nat.le_of_ble_eq_true rfl, cf_6, dq_604, rfl, by decide +kernel⟩, by decide⟩, List.forall_mem_cons.mpr ⟨⟨⟨_, rfl, Nat.le_of_ble_eq_true rfl, cf_6, dq_605⟩, by decide⟩, List.forall_mem_cons.mpr ⟨⟨⟨_, rfl, Nat.le_of_ble_eq_true rfl, cf_6, dq_605, rfl, by decide +kernel⟩, by decide⟩, List.forall_mem_cons.mpr ⟨⟨⟨_, rfl, Nat.le_of_ble_eq_true rfl, cf_6, dq_606⟩, by decide⟩, List.forall_mem_cons.mpr ⟨⟨⟨_, rfl, Nat.le_of_ble_eq_true rfl, cf_6, dq_606, rfl, by decide +kernel⟩, by decide⟩, List.forall_mem_cons.mpr ⟨⟨⟨_, rfl, Nat.le_of_ble_eq_true rfl, cf_6, dq_607⟩, by decide⟩, List.forall_mem_cons.mpr ⟨⟨⟨_, rfl, Nat.le_of_ble_eq_true rfl, cf_6, dq_607, rfl, by decide +kernel⟩, by decide⟩, List.forall_mem_cons.mpr ⟨⟨⟨_, rfl, Nat.le_of_ble_eq_true rfl, cf_6, dq_608⟩, by decide⟩, List.forall_mem_cons.mpr ⟨⟨⟨_, rfl, Nat.le_of_ble_eq_true rfl, cf_6, dq_609⟩, by decide⟩, List.forall_mem_cons.mpr ⟨⟨⟨_, rfl, Nat.le_of_ble_eq_true rfl, cf_6, dq_609, rfl, by decide +kernel⟩, by decide⟩, List.forall_mem_cons.mpr ⟨⟨⟨_, rfl, Nat.le_of_ble_eq_true rfl, cf_6, dq_610⟩, by decide⟩, List.forall_mem_cons.mpr ⟨⟨⟨_, rfl, Nat.le_of_ble_eq_true rfl, cf_6, dq_611⟩, by decide⟩, List.forall_mem_cons.mpr ⟨⟨⟨_, rfl, Nat.le_of_ble_eq_true rfl, cf_6, dq_611, rfl, by decide +kernel⟩, by decide⟩, List.forall_mem_cons.mpr ⟨⟨⟨_, rfl, Nat.le_of_ble_eq_true rfl, cf_6, dq_612⟩, by decide⟩, List.forall_mem_cons.mpr ⟨⟨⟨_, rfl, Nat.le_of_ble_eq_true rfl, cf_6, dq_613⟩, by decide⟩, List.forall_mem_cons.mpr ⟨⟨⟨_, rfl, Nat.le_of_ble_eq_true rfl, cf_6, dq_614⟩, by decide⟩, (fun _ h => absurd h List.not_mem_nil)⟩⟩⟩⟩⟩⟩⟩⟩⟩⟩⟩⟩⟩⟩⟩⟩⟩⟩⟩⟩⟩⟩⟩⟩⟩⟩⟩⟩⟩⟩⟩⟩⟩⟩⟩⟩⟩⟩⟩⟩
def ff_6 : List (Nat × Nat × Nat × Nat) := [(19, 6, 3, 4), (26, 6, 7, 4), (29, 6, 8, 4), (32, 6, 11, 4), (35, 6, 12, 4), (38, 6, 13, 4), (42, 6, 14, 4), (45, 6, 19, 4), (48, 6, 21, 4), (51, 6, 23, 4), (54, 6, 24, 4), (57, 6, 25, 4)]
theorem ff_6_ok : ∀ x ∈ ff_6, dp_FL RX6 x := List.forall_mem_cons.mpr ⟨⟨_, rfl, Nat.le_of_ble_eq_true rfl, cf_6, dq_592, rfl, rfl, _, (by decide +kernel : parseFieldDescriptor _ = some (tyX6 3)), fun _ => ⟨rfl, rfl⟩⟩, List.forall_mem_cons.mpr ⟨⟨_, rfl, Nat.le_of_ble_eq_true rfl, cf_6, dq_596, rfl, rfl, _, (by decide +kernel : parseFieldDescriptor _ = some (tyX6 7)), fun _ => ⟨rfl, rfl⟩⟩, List.forall_mem_cons.mpr ⟨⟨_, rfl, Nat.le_of_ble_eq_true rfl, cf_6, dq_597, rfl, rfl, _, (by decide +kernel : parseFieldDescriptor _ = some (tyX6 8)), fun _ => ⟨rfl, rfl⟩⟩, List.forall_mem_cons.mpr ⟨⟨_, rfl, Nat.le_of_ble_eq_true rfl, cf_6, dq_600, rfl, rfl, _, (by decide +kernel : parseFieldDescriptor _ = some (tyX6 11)), fun _ => ⟨rfl, rfl⟩⟩, List.forall_mem_cons.mpr ⟨⟨_, rfl, Nat.le_of_ble_eq_true rfl, cf_6, dq_601, rfl, rfl, _, (by decide +kernel : parseFieldDescriptor _ = some (tyX6 12)), fun _ => ⟨rfl, rfl⟩⟩, List.forall_mem_cons.mpr ⟨⟨_, rfl, Nat.le_of_ble_eq_true rfl, cf_6, dq_602, rfl, rfl, _, (by decide +kernel : parseFieldDescriptor _ = some (tyX6 13)), fun _ => ⟨rfl, rfl⟩⟩, List.forall_mem_cons.mpr ⟨⟨_, rfl, Nat.le_of_ble_eq_true rfl, cf_6, dq_603, rfl, rfl, _, (by decide +kernel : parseFieldDescriptor _ = some (tyX6 14)), fun _ => ⟨rfl, rfl⟩⟩, List.forall_mem_cons.mpr ⟨⟨_, rfl, Nat.le_of_ble_eq_true rfl, cf_6, dq_608, rfl, rfl, _, (by decide +kernel : parseFieldDescriptor _ = some (tyX6 19)), fun _ => ⟨rfl, rfl⟩⟩, List.forall_mem_cons.mpr ⟨⟨_, rfl, Nat.le_of_ble_eq_true rfl, cf_6, dq_610, rfl, rfl, _, (by decide +kernel : parseFieldDescriptor _ = some (tyX6 21)), fun _ => ⟨rfl, rfl⟩⟩, List.forall_mem_cons.mpr ⟨⟨_, rfl, Nat.le_of_ble_eq_true rfl, cf_6, dq_612, rfl, rfl, _, (by decide +kernel : parseFieldDescriptor _ = some (tyX6 23)), fun _ => ⟨rfl, rfl⟩⟩, List.forall_mem_cons.mpr ⟨⟨_, rfl, Nat.le_of_ble_eq_true rfl, cf_6, dq_613, rfl, rfl, _, (by decide +kernel : parseFieldDescriptor _ = some (tyX6 24)), fun _ => ⟨rfl, rfl⟩⟩, List.forall_mem_cons.mpr ⟨⟨_, rfl, Nat.le_of_ble_eq_true rfl, cf_6, dq_614, rfl, rfl, _, (by decide +kernel : parseFieldDescriptor _ = some (tyX6 25)), fun _ => ⟨rfl, rfl⟩⟩, (fun _ h => absurd h List.not_mem_nil)⟩⟩⟩⟩⟩⟩⟩⟩⟩⟩⟩⟩
end
section
/-! ===== 09: method tables (printed by program) ===== -/
-- ## methods
set_option maxRecDepth 20000 in
def tX0_init : List (Option dp_In) := [some (.aload_n 0, 1, 0, 0, 0, 0), some (.invokespecial 3, 3, 0, 0, 0, 0), none, none, some (.aload_n 0, 1, 0, 0, 0, 0), some (.bipush 12, 2, 0, 0, 0, 12), none, some (.newarray .int, 2, 0, 0, 0, 0), none, some (.putfield 9, 3, 0, 0, 4, 0), none, none, some (.aload_n 0, 1, 0, 0, 0, 0), some (.bipush 96, 2, 0, 0, 0, 96), none, some (.newarray .int, 2, 0, 0, 0, 0), none, some (.putfield 15, 3, 0, 1, 4, 0), none, none, some (.aload_n 0, 1, 0, 0, 0, 0), some (.bipush 8, 2, 0, 0, 0, 8), none, some (.newarray .int, 2, 0, 0, 0, 0), none, some (.putfield 18, 3, 0, 2, 4, 0), none, none, some (.aload_n 0, 1, 0, 0, 0, 0), some (.bipush 8, 2, 0, 0, 0, 8), none, some (.newarray .int, 2, 0, 0, 0, 0), none, some (.putfield 21, 3, 0, 3, 4, 0), none, none, some (.aload_n 0, 1, 0, 0, 0, 0), some (.bipush 8, 2, 0, 0, 0, 8), none, some (.newarray .int, 2, 0, 0, 0, 0), none, some (.putfield 24, 3, 0, 4, 4, 0), none, none, some (.aload_n 0, 1, 0, 0, 0, 0), some (.bipush 8, 2, 0, 0, 0, 8), none, some (.newarray .int, 2, 0, 0, 0, 0), none, some (.putfield 27, 3, 0, 5, 4, 0), none, none, some (.return_, 1, 0, 0, 0, 0)]
def mX0_init : dp_M := (RX0, yX0_init, cX0_init, 1, none, tX0_init)
set_option maxRecDepth 20000 in
theorem okX0_init : dp_ok mX0_init := ⟨⟨fl_0 ++ ff_0, [], by decide +kernel, fun y h => ⟨(List.mem_append.mp h).elim (fun h => (fl_0_ok y h).1) (ff_0_ok y), fun _ => rfl⟩, fun _ h => absurd h List.not_mem_nil⟩, rfl, dq_195, by decide +kernel, by decide +kernel, by decide +kernel, Nat.le_of_ble_eq_true rfl⟩
theorem npX0_init : dp_np yX0_init 0 := by unfold dp_np; decide +kernel
set_option maxRecDepth 20000 in
def tX0_forget : List (Option dp_In) := [some (.aload_n 0, 1, 0, 0, 0, 0), some (.invokevirtual 30, 3, 0, 0, 0, 0), none, none, some (.aload_n 0, 1, 0, 0, 0, 0), some (.iconst 0, 1, 0, 0, 0, 0), some (.putfield 33, 3, 0, 8, 2, 0), none, none, some (.return_, 1, 0, 0, 0, 0)]
def mX0_forget : dp_M := (RX0, yX0_forget, cX0_forget, 1, none, tX0_forget)
set_option maxRecDepth 20000 in
theorem okX0_forget : dp_ok mX0_forget := ⟨⟨fl_0, [], by decide +kernel, fun y h => ⟨(fl_0_ok y h).1, fun z => absurd z (fl_0_ok y h).2⟩, fun _ h => absurd h List.not_mem_nil⟩, rfl, dq_289, by decide +kernel, by decide +kernel, by decide +kernel, Nat.le_of_ble_eq_true rfl⟩
theorem npX0_forget : dp_np yX0_forget 0 := by unfold dp_np; decide +kernel
set_option maxRecDepth 20000 in
def tX0_letGo : List (Option dp_In) := [some (.aload_n 0, 1, 0, 0, 0, 0), some (.iconst 0, 1, 0, 0, 0, 0), some (.putfield 37, 3, 0, 7, 2, 0), none, none, some (.aload_n 0, 1, 0, 0, 0, 0), some (.iconst 0, 1, 0, 0, 0, 0), some (.putfield 40, 3, 0, 6, 2, 0), none, none, some (.return_, 1, 0, 0, 0, 0)]
def mX0_letGo : dp_M := (RX0, yX0_letGo, cX0_letGo, 1, none, tX0_letGo)
set_option maxRecDepth 20000 in
theorem okX0_letGo : dp_ok mX0_letGo := ⟨⟨fl_0, [], by decide +kernel, fun y h => ⟨(fl_0_ok y h).1, fun z => absurd z (fl_0_ok y h).2⟩, fun _ h => absurd h List.not_mem_nil⟩, rfl, dq_293, by decide +kernel, by decide +kernel, by decide +kernel, Nat.le_of_ble_eq_true rfl⟩
theorem npX0_letGo : dp_np yX0_letGo 0 := by unfold dp_np; decide +kernel
set_option maxRecDepth 20000 in
def tX0_canStep : List (Option dp_In) := [some (.aload_n 0, 1, 0, 0, 0, 0), some (.getfield 37, 3, 0, 7, 0, 0), none, none, some (.ifCond .ne 17, 3, 21, 0, 0, 0), none, none, some (.iload_n 2, 1, 0, 0, 0, 0), some (.aload_n 1, 1, 0, 0, 0, 0), some (.getfield 43, 3, 2, 5, 1, 0), none, none, some (.if_icmp .ne 7, 3, 19, 0, 0, 0), none, none, some (.iconst 1, 1, 0, 0, 0, 1), some (.goto 4, 3, 20, 0, 0, 0), none, none, some (.iconst 0, 1, 0, 0, 0, 0), some (.ireturn, 1, 0, 0, 0, 0), some (.aload_n 0, 1, 0, 0, 0, 0), some (.getfield 37, 3, 0, 7, 0, 0), none, none, some (.bipush 12, 2, 0, 0, 0, 12), none, some (.if_icmp .ge 37, 3, 64, 0, 0, 0), none, none, some (.aload_n 1, 1, 0, 0, 0, 0), some (.aload_n 0, 1, 0, 0, 0, 0), some (.getfield 9, 3, 0, 0, 0, 0), none, none, some (.aload_n 0, 1, 0, 0, 0, 0), some (.getfield 37, 3, 0, 7, 0, 0), none, none, some (.iconst 1, 1, 0, 0, 0, 1), some (.isub, 1, 0, 0, 0, 0), some (.iaload, 1, 0, 0, 0, 0), some (.iload_n 2, 1, 0, 0, 0, 0), some (.invokevirtual 48, 3, 0, 0, 0, 0), none, none, some (.ifCond .eq 18, 3, 64, 0, 0, 0), none, none, some (.iload_n 2, 1, 0, 0, 0, 0), some (.aload_n 0, 1, 0, 0, 0, 0), some (.getfield 40, 3, 0, 6, 0, 0), none, none, some (.invokestatic 52, 3, 0, 0, 0, 0), none, none, some (.ifCond .ne 7, 3, 64, 0, 0, 0), none, none, some (.iconst 1, 1, 0, 0, 0, 1), some (.goto 4, 3, 65, 0, 0, 0), none, none, some (.iconst 0, 1, 0, 0, 0, 0), some (.ireturn, 1, 0, 0, 0, 0)]
def mX0_canStep : dp_M := (RX0, yX0_canStep, cX0_canStep, 3, some .boolean, tX0_canStep)
set_option maxRecDepth 20000 in
theorem okX0_canStep : dp_ok mX0_canStep := ⟨⟨fl_0, [], by decide +kernel, fun y h => ⟨(fl_0_ok y h).1, fun z => absurd z (fl_0_ok y h).2⟩, fun _ h => absurd h List.not_mem_nil⟩, rfl, dq_487, by decide +kernel, by decide +kernel, by decide +kernel, Nat.le_of_ble_eq_true rfl⟩
theorem npX0_canStep : dp_np yX0_canStep 2 := by unfold dp_np; decide +kernel
set_option maxRecDepth 20000 in
def tX0_step : List (Option dp_In) := [some (.aload_n 0, 1, 0, 0, 0, 0), some (.getfield 9, 3, 0, 0, 0, 0), none, none, some (.aload_n 0, 1, 0, 0, 0, 0), some (.getfield 37, 3, 0, 7, 0, 0), none, none, some (.iload_n 1, 1, 0, 0, 0, 0), some (.iastore, 1, 0, 0, 0, 0), some (.aload_n 0, 1, 0, 0, 0, 0), some (.dup, 1, 0, 0, 0, 0), some (.getfield 40, 3, 0, 6, 0, 0), none, none, some (.iconst 1, 1, 0, 0, 0, 1), some (.iload_n 1, 1, 0, 0, 0, 0), some (.ishl, 1, 0, 0, 0, 0), some (.ior, 1, 0, 0, 0, 0), some (.putfield 40, 3, 0, 6, 2, 0), none, none, some (.aload_n 0, 1, 0, 0, 0, 0), some (.dup, 1, 0, 0, 0, 0), some (.getfield 37, 3, 0, 7, 0, 0), none, none, some (.iconst 1, 1, 0, 0, 0, 1), some (.iadd, 1, 0, 0, 0, 0), some (.putfield 37, 3, 0, 7, 2, 0), none, none, some (.aload_n 0, 1, 0, 0, 0, 0), some (.getfield 37, 3, 0, 7, 0, 0), none, none, some (.ireturn, 1, 0, 0, 0, 0)]
def mX0_step : dp_M := (RX0, yX0_step, cX0_step, 2, some .int, tX0_step)
set_option maxRecDepth 20000 in
theorem okX0_step : dp_ok mX0_step := ⟨⟨fl_0, [], by decide +kernel, fun y h => ⟨(fl_0_ok y h).1, fun z => absurd z (fl_0_ok y h).2⟩, fun _ h => absurd h List.not_mem_nil⟩, rfl, dq_493, by decide +kernel, by decide +kernel, by decide +kernel, Nat.le_of_ble_eq_true rfl⟩
theorem npX0_step : dp_np yX0_step 1 := by unfold dp_np; decide +kernel
set_option maxRecDepth 20000 in
def tX0_isTold : List (Option dp_In) := [some (.iconst 0, 1, 0, 0, 0, 0), some (.istore_n 2, 1, 0, 0, 0, 0), some (.iload_n 2, 1, 0, 0, 0, 0), some (.aload_n 0, 1, 0, 0, 0, 0), some (.getfield 33, 3, 0, 8, 0, 0), none, none, some (.if_icmp .ge 29, 3, 36, 0, 0, 0), none, none, some (.aload_n 0, 1, 0, 0, 0, 0), some (.getfield 24, 3, 0, 4, 0, 0), none, none, some (.iload_n 2, 1, 0, 0, 0, 0), some (.iaload, 1, 0, 0, 0, 0), some (.iload_n 1, 1, 0, 0, 0, 0), some (.if_icmp .ne 13, 3, 30, 0, 0, 0), none, none, some (.aload_n 0, 1, 0, 0, 0, 0), some (.iload_n 2, 1, 0, 0, 0, 0), some (.invokevirtual 55, 3, 0, 0, 0, 0), none, none, some (.ifCond .eq 5, 3, 30, 0, 0, 0), none, none, some (.iconst 1, 1, 0, 0, 0, 1), some (.ireturn, 1, 0, 0, 0, 0), some (.iinc 2 1, 3, 0, 0, 0, 1), none, none, some (.goto (-31), 3, 2, 0, 0, 0), none, none, some (.iconst 0, 1, 0, 0, 0, 0), some (.ireturn, 1, 0, 0, 0, 0)]
def mX0_isTold : dp_M := (RX0, yX0_isTold, cX0_isTold, 3, some .boolean, tX0_isTold)
set_option maxRecDepth 20000 in
theorem okX0_isTold : dp_ok mX0_isTold := ⟨⟨fl_0, [], by decide +kernel, fun y h => ⟨(fl_0_ok y h).1, fun z => absurd z (fl_0_ok y h).2⟩, fun _ h => absurd h List.not_mem_nil⟩, rfl, dq_501, by decide +kernel, by decide +kernel, by decide +kernel, Nat.le_of_ble_eq_true rfl⟩
theorem npX0_isTold : dp_np yX0_isTold 1 := by unfold dp_np; decide +kernel
set_option maxRecDepth 20000 in
def tX0_isInHand : List (Option dp_In) := [some (.aload_n 0, 1, 0, 0, 0, 0), some (.getfield 18, 3, 0, 2, 0, 0), none, none, some (.iload_n 1, 1, 0, 0, 0, 0), some (.iaload, 1, 0, 0, 0, 0), some (.aload_n 0, 1, 0, 0, 0, 0), some (.getfield 37, 3, 0, 7, 0, 0), none, none, some (.if_icmp .eq 5, 3, 15, 0, 0, 0), none, none, some (.iconst 0, 1, 0, 0, 0, 0), some (.ireturn, 1, 0, 0, 0, 0), some (.iconst 0, 1, 0, 0, 0, 0), some (.istore_n 2, 1, 0, 0, 0, 0), some (.iload_n 2, 1, 0, 0, 0, 0), some (.aload_n 0, 1, 0, 0, 0, 0), some (.getfield 37, 3, 0, 7, 0, 0), none, none, some (.if_icmp .ge 31, 3, 53, 0, 0, 0), none, none, some (.aload_n 0, 1, 0, 0, 0, 0), some (.getfield 15, 3, 0, 1, 0, 0), none, none, some (.iload_n 1, 1, 0, 0, 0, 0), some (.bipush 12, 2, 0, 0, 0, 12), none, some (.imul, 1, 0, 0, 0, 0), some (.iload_n 2, 1, 0, 0, 0, 0), some (.iadd, 1, 0, 0, 0, 0), some (.iaload, 1, 0, 0, 0, 0), some (.aload_n 0, 1, 0, 0, 0, 0), some (.getfield 9, 3, 0, 0, 0, 0), none, none, some (.iload_n 2, 1, 0, 0, 0, 0), some (.iaload, 1, 0, 0, 0, 0), some (.if_icmp .eq 5, 3, 47, 0, 0, 0), none, none, some (.iconst 0, 1, 0, 0, 0, 0), some (.ireturn, 1, 0, 0, 0, 0), some (.iinc 2 1, 3, 0, 0, 0, 1), none, none, some (.goto (-33), 3, 17, 0, 0, 0), none, none, some (.iconst 1, 1, 0, 0, 0, 1), some (.ireturn, 1, 0, 0, 0, 0)]
def mX0_isInHand : dp_M := (RX0, yX0_isInHand, cX0_isInHand, 3, some .boolean, tX0_isInHand)
set_option maxRecDepth 20000 in
theorem okX0_isInHand : dp_ok mX0_isInHand := ⟨⟨fl_0, [], by decide +kernel, fun y h => ⟨(fl_0_ok y h).1, fun z => absurd z (fl_0_ok y h).2⟩, fun _ h => absurd h List.not_mem_nil⟩, rfl, dq_505, by decide +kernel, by decide +kernel, by decide +kernel, Nat.le_of_ble_eq_true rfl⟩
theorem npX0_isInHand : dp_np yX0_isInHand 1 := by unfold dp_np; decide +kernel
set_option maxRecDepth 20000 in
def tX0_keep : List (Option dp_In) := [some (.aload_n 0, 1, 0, 0, 0, 0), some (.getfield 33, 3, 0, 8, 0, 0), none, none, some (.bipush 8, 2, 0, 0, 0, 8), none, some (.if_icmp .lt 7, 3, 13, 0, 0, 0), none, none, some (.aload_n 0, 1, 0, 0, 0, 0), some (.invokevirtual 59, 3, 0, 0, 0, 0), none, none, some (.aload_n 0, 1, 0, 0, 0, 0), some (.getfield 9, 3, 0, 0, 0, 0), none, none, some (.iconst 0, 1, 0, 0, 0, 0), some (.aload_n 0, 1, 0, 0, 0, 0), some (.getfield 15, 3, 0, 1, 0, 0), none, none, some (.aload_n 0, 1, 0, 0, 0, 0), some (.getfield 33, 3, 0, 8, 0, 0), none, none, some (.bipush 12, 2, 0, 0, 0, 12), none, some (.imul, 1, 0, 0, 0, 0), some (.bipush 12, 2, 0, 0, 0, 12), none, some (.invokestatic 62, 3, 0, 0, 0, 0), none, none, some (.aload_n 0, 1, 0, 0, 0, 0), some (.getfield 18, 3, 0, 2, 0, 0), none, none, some (.aload_n 0, 1, 0, 0, 0, 0), some (.getfield 33, 3, 0, 8, 0, 0), none, none, some (.aload_n 0, 1, 0, 0, 0, 0), some (.getfield 37, 3, 0, 7, 0, 0), none, none, some (.iastore, 1, 0, 0, 0, 0), some (.aload_n 0, 1, 0, 0, 0, 0), some (.getfield 21, 3, 0, 3, 0, 0), none, none, some (.aload_n 0, 1, 0, 0, 0, 0), some (.getfield 33, 3, 0, 8, 0, 0), none, none, some (.aload_n 0, 1, 0, 0, 0, 0), some (.getfield 40, 3, 0, 6, 0, 0), none, none, some (.iastore, 1, 0, 0, 0, 0), some (.aload_n 0, 1, 0, 0, 0, 0), some (.getfield 24, 3, 0, 4, 0, 0), none, none, some (.aload_n 0, 1, 0, 0, 0, 0), some (.getfield 33, 3, 0, 8, 0, 0), none, none, some (.iload_n 1, 1, 0, 0, 0, 0), some (.iastore, 1, 0, 0, 0, 0), some (.aload_n 0, 1, 0, 0, 0, 0), some (.dup, 1, 0, 0, 0, 0), some (.getfield 33, 3, 0, 8, 0, 0), none, none, some (.iconst 1, 1, 0, 0, 0, 1), some (.iadd, 1, 0, 0, 0, 0), some (.putfield 33, 3, 0, 8, 2, 0), none, none, some (.aload_n 0, 1, 0, 0, 0, 0), some (.invokevirtual 30, 3, 0, 0, 0, 0), none, none, some (.aload_n 0, 1, 0, 0, 0, 0), some (.getfield 33, 3, 0, 8, 0, 0), none, none, some (.ireturn, 1, 0, 0, 0, 0)]
def mX0_keep : dp_M := (RX0, yX0_keep, cX0_keep, 2, some .int, tX0_keep)
set_option maxRecDepth 20000 in
theorem okX0_keep : dp_ok mX0_keep := ⟨⟨fl_0, [], by decide +kernel, fun y h => ⟨(fl_0_ok y h).1, fun z => absurd z (fl_0_ok y h).2⟩, fun _ h => absurd h List.not_mem_nil⟩, rfl, dq_509, by decide +kernel, by decide +kernel, by decide +kernel, Nat.le_of_ble_eq_true rfl⟩
theorem npX0_keep : dp_np yX0_keep 1 := by unfold dp_np; decide +kernel
set_option maxRecDepth 20000 in
def tX0_forgetOldest : List (Option dp_In) := [some (.aload_n 0, 1, 0, 0, 0, 0), some (.bipush 7, 2, 0, 0, 0, 7), none, some (.putfield 33, 3, 0, 8, 2, 0), none, none, some (.aload_n 0, 1, 0, 0, 0, 0), some (.getfield 15, 3, 0, 1, 0, 0), none, none, some (.bipush 12, 2, 0, 0, 0, 12), none, some (.aload_n 0, 1, 0, 0, 0, 0), some (.getfield 15, 3, 0, 1, 0, 0), none, none, some (.iconst 0, 1, 0, 0, 0, 0), some (.aload_n 0, 1, 0, 0, 0, 0), some (.getfield 33, 3, 0, 8, 0, 0), none, none, some (.bipush 12, 2, 0, 0, 0, 12), none, some (.imul, 1, 0, 0, 0, 0), some (.invokestatic 62, 3, 0, 0, 0, 0), none, none, some (.aload_n 0, 1, 0, 0, 0, 0), some (.getfield 18, 3, 0, 2, 0, 0), none, none, some (.iconst 1, 1, 0, 0, 0, 1), some (.aload_n 0, 1, 0, 0, 0, 0), some (.getfield 18, 3, 0, 2, 0, 0), none, none, some (.iconst 0, 1, 0, 0, 0, 0), some (.aload_n 0, 1, 0, 0, 0, 0), some (.getfield 33, 3, 0, 8, 0, 0), none, none, some (.invokestatic 62, 3, 0, 0, 0, 0), none, none, some (.aload_n 0, 1, 0, 0, 0, 0), some (.getfield 21, 3, 0, 3, 0, 0), none, none, some (.iconst 1, 1, 0, 0, 0, 1), some (.aload_n 0, 1, 0, 0, 0, 0), some (.getfield 21, 3, 0, 3, 0, 0), none, none, some (.iconst 0, 1, 0, 0, 0, 0), some (.aload_n 0, 1, 0, 0, 0, 0), some (.getfield 33, 3, 0, 8, 0, 0), none, none, some (.invokestatic 62, 3, 0, 0, 0, 0), none, none, some (.aload_n 0, 1, 0, 0, 0, 0), some (.getfield 24, 3, 0, 4, 0, 0), none, none, some (.iconst 1, 1, 0, 0, 0, 1), some (.aload_n 0, 1, 0, 0, 0, 0), some (.getfield 24, 3, 0, 4, 0, 0), none, none, some (.iconst 0, 1, 0, 0, 0, 0), some (.aload_n 0, 1, 0, 0, 0, 0), some (.getfield 33, 3, 0, 8, 0, 0), none, none, some (.invokestatic 62, 3, 0, 0, 0, 0), none, none, some (.return_, 1, 0, 0, 0, 0)]
def mX0_forgetOldest : dp_M := (RX0, yX0_forgetOldest, cX0_forgetOldest, 1, none, tX0_forgetOldest)
set_option maxRecDepth 20000 in
theorem okX0_forgetOldest : dp_ok mX0_forgetOldest := ⟨⟨fl_0, [], by decide +kernel, fun y h => ⟨(fl_0_ok y h).1, fun z => absurd z (fl_0_ok y h).2⟩, fun _ h => absurd h List.not_mem_nil⟩, rfl, dq_513, by decide +kernel, by decide +kernel, by decide +kernel, Nat.le_of_ble_eq_true rfl⟩
theorem npX0_forgetOldest : dp_np yX0_forgetOldest 0 := by unfold dp_np; decide +kernel
set_option maxRecDepth 20000 in
def tX0_placeOf : List (Option dp_In) := [some (.iload_n 2, 1, 0, 0, 0, 0), some (.ifCond .lt 27, 3, 28, 0, 0, 0), none, none, some (.iload_n 2, 1, 0, 0, 0, 0), some (.aload_n 0, 1, 0, 0, 0, 0), some (.getfield 18, 3, 0, 2, 0, 0), none, none, some (.iload_n 1, 1, 0, 0, 0, 0), some (.iaload, 1, 0, 0, 0, 0), some (.if_icmp .ge 17, 3, 28, 0, 0, 0), none, none, some (.aload_n 0, 1, 0, 0, 0, 0), some (.getfield 15, 3, 0, 1, 0, 0), none, none, some (.iload_n 1, 1, 0, 0, 0, 0), some (.bipush 12, 2, 0, 0, 0, 12), none, some (.imul, 1, 0, 0, 0, 0), some (.iload_n 2, 1, 0, 0, 0, 0), some (.iadd, 1, 0, 0, 0, 0), some (.iaload, 1, 0, 0, 0, 0), some (.goto 5, 3, 30, 0, 0, 0), none, none, some (.bipush (-9), 2, 0, 0, 0, (-9)), none, some (.ireturn, 1, 0, 0, 0, 0)]
def mX0_placeOf : dp_M := (RX0, yX0_placeOf, cX0_placeOf, 3, some .int, tX0_placeOf)
set_option maxRecDepth 20000 in
theorem okX0_placeOf : dp_ok mX0_placeOf := ⟨⟨fl_0, [], by decide +kernel, fun y h => ⟨(fl_0_ok y h).1, fun z => absurd z (fl_0_ok y h).2⟩, fun _ h => absurd h List.not_mem_nil⟩, rfl, dq_527, by decide +kernel, by decide +kernel, by decide +kernel, Nat.le_of_ble_eq_true rfl⟩
theorem npX0_placeOf : dp_np yX0_placeOf 2 := by unfold dp_np; decide +kernel
set_option maxRecDepth 20000 in
def tX0_mostApart : List (Option dp_In) := [some (.aload_n 0, 1, 0, 0, 0, 0), some (.iload_n 1, 1, 0, 0, 0, 0), some (.iload_n 2, 1, 0, 0, 0, 0), some (.invokevirtual 68, 3, 0, 0, 0, 0), none, none, some (.istore_n 3, 1, 0, 0, 0, 0), some (.iconst 0, 1, 0, 0, 0, 0), some (.istore 4, 2, 0, 0, 0, 0), none, some (.iconst 0, 1, 0, 0, 0, 0), some (.istore 5, 2, 0, 0, 0, 0), none, some (.iload 5, 2, 0, 0, 0, 0), none, some (.iconst 1, 1, 0, 0, 0, 1), some (.iload_n 3, 1, 0, 0, 0, 0), some (.ishl, 1, 0, 0, 0, 0), some (.if_icmp .ge 37, 3, 55, 0, 0, 0), none, none, some (.iload 5, 2, 0, 0, 0, 0), none, some (.invokestatic 72, 3, 0, 0, 0, 0), none, none, some (.istore 6, 2, 0, 0, 0, 0), none, some (.iload 6, 2, 0, 0, 0, 0), none, some (.iload 4, 2, 0, 0, 0, 0), none, some (.if_icmp .le 17, 3, 49, 0, 0, 0), none, none, some (.aload_n 0, 1, 0, 0, 0, 0), some (.iload 5, 2, 0, 0, 0, 0), none, some (.iload_n 3, 1, 0, 0, 0, 0), some (.invokevirtual 78, 3, 0, 0, 0, 0), none, none, some (.ifCond .eq 7, 3, 49, 0, 0, 0), none, none, some (.iload 6, 2, 0, 0, 0, 0), none, some (.istore 4, 2, 0, 0, 0, 0), none, some (.iinc 5 1, 3, 0, 0, 0, 1), none, none, some (.goto (-39), 3, 13, 0, 0, 0), none, none, some (.iload 4, 2, 0, 0, 0, 0), none, some (.ireturn, 1, 0, 0, 0, 0)]
def mX0_mostApart : dp_M := (RX0, yX0_mostApart, cX0_mostApart, 7, some .int, tX0_mostApart)
set_option maxRecDepth 20000 in
theorem okX0_mostApart : dp_ok mX0_mostApart := ⟨⟨fl_0, [], by decide +kernel, fun y h => ⟨(fl_0_ok y h).1, fun z => absurd z (fl_0_ok y h).2⟩, fun _ h => absurd h List.not_mem_nil⟩, rfl, dq_535, by decide +kernel, by decide +kernel, by decide +kernel, Nat.le_of_ble_eq_true rfl⟩
theorem npX0_mostApart : dp_np yX0_mostApart 2 := by unfold dp_np; decide +kernel
set_option maxRecDepth 20000 in
def tX0_gatherInner : List (Option dp_In) := [some (.iconst 0, 1, 0, 0, 0, 0), some (.istore_n 3, 1, 0, 0, 0, 0), some (.iconst 0, 1, 0, 0, 0, 0), some (.istore 4, 2, 0, 0, 0, 0), none, some (.iload 4, 2, 0, 0, 0, 0), none, some (.aload_n 0, 1, 0, 0, 0, 0), some (.getfield 33, 3, 0, 8, 0, 0), none, none, some (.if_icmp .ge 71, 3, 82, 0, 0, 0), none, none, some (.aload_n 0, 1, 0, 0, 0, 0), some (.getfield 24, 3, 0, 4, 0, 0), none, none, some (.iload 4, 2, 0, 0, 0, 0), none, some (.iaload, 1, 0, 0, 0, 0), some (.iload_n 2, 1, 0, 0, 0, 0), some (.if_icmp .ne 54, 3, 76, 0, 0, 0), none, none, some (.aload_n 0, 1, 0, 0, 0, 0), some (.iload 4, 2, 0, 0, 0, 0), none, some (.aload_n 0, 1, 0, 0, 0, 0), some (.getfield 18, 3, 0, 2, 0, 0), none, none, some (.iload 4, 2, 0, 0, 0, 0), none, some (.iaload, 1, 0, 0, 0, 0), some (.iconst 1, 1, 0, 0, 0, 1), some (.isub, 1, 0, 0, 0, 0), some (.invokevirtual 81, 3, 0, 0, 0, 0), none, none, some (.iload_n 1, 1, 0, 0, 0, 0), some (.if_icmp .ne 35, 3, 76, 0, 0, 0), none, none, some (.aload_n 0, 1, 0, 0, 0, 0), some (.getfield 27, 3, 0, 5, 0, 0), none, none, some (.iload_n 3, 1, 0, 0, 0, 0), some (.aload_n 0, 1, 0, 0, 0, 0), some (.getfield 21, 3, 0, 3, 0, 0), none, none, some (.iload 4, 2, 0, 0, 0, 0), none, some (.iaload, 1, 0, 0, 0, 0), some (.iconst 1, 1, 0, 0, 0, 1), some (.iload_n 1, 1, 0, 0, 0, 0), some (.ishl, 1, 0, 0, 0, 0), some (.iconst 1, 1, 0, 0, 0, 1), some (.aload_n 0, 1, 0, 0, 0, 0), some (.iload 4, 2, 0, 0, 0, 0), none, some (.iconst 0, 1, 0, 0, 0, 0), some (.invokevirtual 81, 3, 0, 0, 0, 0), none, none, some (.ishl, 1, 0, 0, 0, 0), some (.ior, 1, 0, 0, 0, 0), some (.iconst (-1), 1, 0, 0, 0, (-1)), some (.ixor, 1, 0, 0, 0, 0), some (.iand, 1, 0, 0, 0, 0), some (.iastore, 1, 0, 0, 0, 0), some (.iinc 3 1, 3, 0, 0, 0, 1), none, none, some (.iinc 4 1, 3, 0, 0, 0, 1), none, none, some (.goto (-74), 3, 5, 0, 0, 0), none, none, some (.iload_n 3, 1, 0, 0, 0, 0), some (.ireturn, 1, 0, 0, 0, 0)]
def mX0_gatherInner : dp_M := (RX0, yX0_gatherInner, cX0_gatherInner, 5, some .int, tX0_gatherInner)
set_option maxRecDepth 20000 in
theorem okX0_gatherInner : dp_ok mX0_gatherInner := ⟨⟨fl_0, [], by decide +kernel, fun y h => ⟨(fl_0_ok y h).1, fun z => absurd z (fl_0_ok y h).2⟩, fun _ h => absurd h List.not_mem_nil⟩, rfl, dq_539, by decide +kernel, by decide +kernel, by decide +kernel, Nat.le_of_ble_eq_true rfl⟩
theorem npX0_gatherInner : dp_np yX0_gatherInner 2 := by unfold dp_np; decide +kernel
set_option maxRecDepth 20000 in
def tX0_areApart : List (Option dp_In) := [some (.iconst 0, 1, 0, 0, 0, 0), some (.istore_n 3, 1, 0, 0, 0, 0), some (.iconst 0, 1, 0, 0, 0, 0), some (.istore 4, 2, 0, 0, 0, 0), none, some (.iload 4, 2, 0, 0, 0, 0), none, some (.iload_n 2, 1, 0, 0, 0, 0), some (.if_icmp .ge 42, 3, 50, 0, 0, 0), none, none, some (.iload 4, 2, 0, 0, 0, 0), none, some (.iload_n 1, 1, 0, 0, 0, 0), some (.invokestatic 52, 3, 0, 0, 0, 0), none, none, some (.ifCond .eq 27, 3, 44, 0, 0, 0), none, none, some (.iload_n 3, 1, 0, 0, 0, 0), some (.aload_n 0, 1, 0, 0, 0, 0), some (.getfield 27, 3, 0, 5, 0, 0), none, none, some (.iload 4, 2, 0, 0, 0, 0), none, some (.iaload, 1, 0, 0, 0, 0), some (.iand, 1, 0, 0, 0, 0), some (.ifCond .eq 5, 3, 34, 0, 0, 0), none, none, some (.iconst 0, 1, 0, 0, 0, 0), some (.ireturn, 1, 0, 0, 0, 0), some (.iload_n 3, 1, 0, 0, 0, 0), some (.aload_n 0, 1, 0, 0, 0, 0), some (.getfield 27, 3, 0, 5, 0, 0), none, none, some (.iload 4, 2, 0, 0, 0, 0), none, some (.iaload, 1, 0, 0, 0, 0), some (.ior, 1, 0, 0, 0, 0), some (.istore_n 3, 1, 0, 0, 0, 0), some (.iinc 4 1, 3, 0, 0, 0, 1), none, none, some (.goto (-42), 3, 5, 0, 0, 0), none, none, some (.iconst 1, 1, 0, 0, 0, 1), some (.ireturn, 1, 0, 0, 0, 0)]
def mX0_areApart : dp_M := (RX0, yX0_areApart, cX0_areApart, 5, some .boolean, tX0_areApart)
set_option maxRecDepth 20000 in
theorem okX0_areApart : dp_ok mX0_areApart := ⟨⟨fl_0, [], by decide +kernel, fun y h => ⟨(fl_0_ok y h).1, fun z => absurd z (fl_0_ok y h).2⟩, fun _ h => absurd h List.not_mem_nil⟩, rfl, dq_545, by decide +kernel, by decide +kernel, by decide +kernel, Nat.le_of_ble_eq_true rfl⟩
theorem npX0_areApart : dp_np yX0_areApart 2 := by unfold dp_np; decide +kernel
set_option maxRecDepth 20000 in
def tX0_soleGreatest : List (Option dp_In) := [some (.iconst 0, 1, 0, 0, 0, 0), some (.istore_n 3, 1, 0, 0, 0, 0), some (.bipush (-9), 2, 0, 0, 0, (-9)), none, some (.istore 4, 2, 0, 0, 0, 0), none, some (.iconst 0, 1, 0, 0, 0, 0), some (.istore 5, 2, 0, 0, 0, 0), none, some (.iload 5, 2, 0, 0, 0, 0), none, some (.iconst 4, 1, 0, 0, 0, 4), some (.if_icmp .ge 44, 3, 56, 0, 0, 0), none, none, some (.aload_n 0, 1, 0, 0, 0, 0), some (.iload_n 1, 1, 0, 0, 0, 0), some (.iload 5, 2, 0, 0, 0, 0), none, some (.invokevirtual 84, 3, 0, 0, 0, 0), none, none, some (.istore 6, 2, 0, 0, 0, 0), none, some (.iload 6, 2, 0, 0, 0, 0), none, some (.iload_n 3, 1, 0, 0, 0, 0), some (.if_icmp .ne 10, 3, 37, 0, 0, 0), none, none, some (.bipush (-9), 2, 0, 0, 0, (-9)), none, some (.istore 4, 2, 0, 0, 0, 0), none, some (.goto 16, 3, 50, 0, 0, 0), none, none, some (.iload 6, 2, 0, 0, 0, 0), none, some (.iload_n 3, 1, 0, 0, 0, 0), some (.if_icmp .le 10, 3, 50, 0, 0, 0), none, none, some (.iload 6, 2, 0, 0, 0, 0), none, some (.istore_n 3, 1, 0, 0, 0, 0), some (.iload 5, 2, 0, 0, 0, 0), none, some (.istore 4, 2, 0, 0, 0, 0), none, some (.iinc 5 1, 3, 0, 0, 0, 1), none, none, some (.goto (-44), 3, 9, 0, 0, 0), none, none, some (.iload_n 3, 1, 0, 0, 0, 0), some (.iload_n 2, 1, 0, 0, 0, 0), some (.if_icmp .lt 8, 3, 66, 0, 0, 0), none, none, some (.iload 4, 2, 0, 0, 0, 0), none, some (.goto 5, 3, 68, 0, 0, 0), none, none, some (.bipush (-9), 2, 0, 0, 0, (-9)), none, some (.ireturn, 1, 0, 0, 0, 0)]
def mX0_soleGreatest : dp_M := (RX0, yX0_soleGreatest, cX0_soleGreatest, 7, some .int, tX0_soleGreatest)
set_option maxRecDepth 20000 in
theorem okX0_soleGreatest : dp_ok mX0_soleGreatest := ⟨⟨fl_0, [], by decide +kernel, fun y h => ⟨(fl_0_ok y h).1, fun z => absurd z (fl_0_ok y h).2⟩, fun _ h => absurd h List.not_mem_nil⟩, rfl, dq_553, by decide +kernel, by decide +kernel, by decide +kernel, Nat.le_of_ble_eq_true rfl⟩
theorem npX0_soleGreatest : dp_np yX0_soleGreatest 2 := by unfold dp_np; decide +kernel
set_option maxRecDepth 20000 in
def tX1_init : List (Option dp_In) := [some (.aload_n 0, 1, 0, 0, 0, 0), some (.invokespecial 3, 3, 0, 0, 0, 0), none, none, some (.aload_n 0, 1, 0, 0, 0, 0), some (.bipush 6, 2, 0, 0, 0, 6), none, some (.newarray .int, 2, 0, 0, 0, 0), none, some (.putfield 9, 3, 1, 0, 4, 0), none, none, some (.return_, 1, 0, 0, 0, 0)]
def mX1_init : dp_M := (RX1, yX1_init, cX1_init, 1, none, tX1_init)
set_option maxRecDepth 20000 in
theorem okX1_init : dp_ok mX1_init := ⟨⟨fl_1 ++ ff_1, [], by decide +kernel, fun y h => ⟨(List.mem_append.mp h).elim (fun h => (fl_1_ok y h).1) (ff_1_ok y), fun _ => rfl⟩, fun _ h => absurd h List.not_mem_nil⟩, rfl, dq_180, by decide +kernel, by decide +kernel, by decide +kernel, Nat.le_of_ble_eq_true rfl⟩
theorem npX1_init : dp_np yX1_init 0 := by unfold dp_np; decide +kernel
set_option maxRecDepth 20000 in
def tX1_forget : List (Option dp_In) := [some (.aload_n 0, 1, 0, 0, 0, 0), some (.iconst 0, 1, 0, 0, 0, 0), some (.putfield 15, 3, 1, 1, 2, 0), none, none, some (.return_, 1, 0, 0, 0, 0)]
def mX1_forget : dp_M := (RX1, yX1_forget, cX1_forget, 1, none, tX1_forget)
set_option maxRecDepth 20000 in
theorem okX1_forget : dp_ok mX1_forget := ⟨⟨fl_1, [], by decide +kernel, fun y h => ⟨(fl_1_ok y h).1, fun z => absurd z (fl_1_ok y h).2⟩, fun _ h => absurd h List.not_mem_nil⟩, rfl, dq_285, by decide +kernel, by decide +kernel, by decide +kernel, Nat.le_of_ble_eq_true rfl⟩
theorem npX1_forget : dp_np yX1_forget 0 := by unfold dp_np; decide +kernel
set_option maxRecDepth 20000 in
def tX1_place : List (Option dp_In) := [some (.iconst 0, 1, 0, 0, 0, 0), some (.istore_n 2, 1, 0, 0, 0, 0), some (.iload_n 2, 1, 0, 0, 0, 0), some (.aload_n 0, 1, 0, 0, 0, 0), some (.getfield 15, 3, 1, 1, 0, 0), none, none, some (.if_icmp .ge 21, 3, 28, 0, 0, 0), none, none, some (.aload_n 0, 1, 0, 0, 0, 0), some (.getfield 9, 3, 1, 0, 0, 0), none, none, some (.iload_n 2, 1, 0, 0, 0, 0), some (.iaload, 1, 0, 0, 0, 0), some (.iload_n 1, 1, 0, 0, 0, 0), some (.if_icmp .ne 5, 3, 22, 0, 0, 0), none, none, some (.iload_n 2, 1, 0, 0, 0, 0), some (.ireturn, 1, 0, 0, 0, 0), some (.iinc 2 1, 3, 0, 0, 0, 1), none, none, some (.goto (-23), 3, 2, 0, 0, 0), none, none, some (.aload_n 0, 1, 0, 0, 0, 0), some (.getfield 15, 3, 1, 1, 0, 0), none, none, some (.bipush 6, 2, 0, 0, 0, 6), none, some (.if_icmp .lt 22, 3, 56, 0, 0, 0), none, none, some (.aload_n 0, 1, 0, 0, 0, 0), some (.getfield 9, 3, 1, 0, 0, 0), none, none, some (.iconst 1, 1, 0, 0, 0, 1), some (.aload_n 0, 1, 0, 0, 0, 0), some (.getfield 9, 3, 1, 0, 0, 0), none, none, some (.iconst 0, 1, 0, 0, 0, 0), some (.iconst 5, 1, 0, 0, 0, 5), some (.invokestatic 19, 3, 0, 0, 0, 0), none, none, some (.aload_n 0, 1, 0, 0, 0, 0), some (.iconst 5, 1, 0, 0, 0, 5), some (.putfield 15, 3, 1, 1, 2, 0), none, none, some (.aload_n 0, 1, 0, 0, 0, 0), some (.getfield 9, 3, 1, 0, 0, 0), none, none, some (.aload_n 0, 1, 0, 0, 0, 0), some (.getfield 15, 3, 1, 1, 0, 0), none, none, some (.iload_n 1, 1, 0, 0, 0, 0), some (.iastore, 1, 0, 0, 0, 0), some (.aload_n 0, 1, 0, 0, 0, 0), some (.dup, 1, 0, 0, 0, 0), some (.getfield 15, 3, 1, 1, 0, 0), none, none, some (.iconst 1, 1, 0, 0, 0, 1), some (.iadd, 1, 0, 0, 0, 0), some (.putfield 15, 3, 1, 1, 2, 0), none, none, some (.aload_n 0, 1, 0, 0, 0, 0), some (.getfield 15, 3, 1, 1, 0, 0), none, none, some (.iconst 1, 1, 0, 0, 0, 1), some (.isub, 1, 0, 0, 0, 0), some (.ireturn, 1, 0, 0, 0, 0)]
def mX1_place : dp_M := (RX1, yX1_place, cX1_place, 3, some .int, tX1_place)
set_option maxRecDepth 20000 in
theorem okX1_place : dp_ok mX1_place := ⟨⟨fl_1, [], by decide +kernel, fun y h => ⟨(fl_1_ok y h).1, fun z => absurd z (fl_1_ok y h).2⟩, fun _ h => absurd h List.not_mem_nil⟩, rfl, dq_472, by decide +kernel, by decide +kernel, by decide +kernel, Nat.le_of_ble_eq_true rfl⟩
theorem npX1_place : dp_np yX1_place 1 := by unfold dp_np; decide +kernel
set_option maxRecDepth 20000 in
def tX2_init : List (Option dp_In) := [some (.aload_n 0, 1, 0, 0, 0, 0), some (.invokespecial 3, 3, 0, 0, 0, 0), none, none, some (.aload_n 0, 1, 0, 0, 0, 0), some (.bipush 12, 2, 0, 0, 0, 12), none, some (.newarray .int, 2, 0, 0, 0, 0), none, some (.putfield 9, 3, 2, 0, 4, 0), none, none, some (.aload_n 0, 1, 0, 0, 0, 0), some (.bipush 12, 2, 0, 0, 0, 12), none, some (.newarray .int, 2, 0, 0, 0, 0), none, some (.putfield 15, 3, 2, 1, 4, 0), none, none, some (.aload_n 0, 1, 0, 0, 0, 0), some (.iconst 0, 1, 0, 0, 0, 0), some (.putfield 18, 3, 2, 6, 2, 0), none, none, some (.aload_n 0, 1, 0, 0, 0, 0), some (.iconst 1, 1, 0, 0, 0, 1), some (.putfield 22, 3, 2, 7, 2, 0), none, none, some (.aload_n 0, 1, 0, 0, 0, 0), some (.iconst 2, 1, 0, 0, 0, 2), some (.iconst 1, 1, 0, 0, 0, 1), some (.iconst 0, 1, 0, 0, 0, 0), some (.invokevirtual 25, 3, 0, 0, 0, 0), none, none, some (.return_, 1, 0, 0, 0, 0)]
def mX2_init : dp_M := (RX2, yX2_init, cX2_init, 1, none, tX2_init)
set_option maxRecDepth 20000 in
theorem okX2_init : dp_ok mX2_init := ⟨⟨fl_2 ++ ff_2, [], by decide +kernel, fun y h => ⟨(List.mem_append.mp h).elim (fun h => (fl_2_ok y h).1) (ff_2_ok y), fun _ => rfl⟩, fun _ h => absurd h List.not_mem_nil⟩, rfl, dq_62, by decide +kernel, by decide +kernel, by decide +kernel, Nat.le_of_ble_eq_true rfl⟩
theorem npX2_init : dp_np yX2_init 0 := by unfold dp_np; decide +kernel
set_option maxRecDepth 20000 in
def tX2_lay : List (Option dp_In) := [some (.aload_n 0, 1, 0, 0, 0, 0), some (.iload_n 1, 1, 0, 0, 0, 0), some (.putfield 29, 3, 2, 3, 2, 0), none, none, some (.aload_n 0, 1, 0, 0, 0, 0), some (.iload_n 2, 1, 0, 0, 0, 0), some (.putfield 32, 3, 2, 4, 2, 0), none, none, some (.aload_n 0, 1, 0, 0, 0, 0), some (.iload_n 1, 1, 0, 0, 0, 0), some (.iload_n 2, 1, 0, 0, 0, 0), some (.imul, 1, 0, 0, 0, 0), some (.putfield 35, 3, 2, 2, 2, 0), none, none, some (.aload_n 0, 1, 0, 0, 0, 0), some (.iconst 0, 1, 0, 0, 0, 0), some (.putfield 38, 3, 2, 5, 2, 0), none, none, some (.aload_n 0, 1, 0, 0, 0, 0), some (.getfield 15, 3, 2, 1, 0, 0), none, none, some (.bipush (-9), 2, 0, 0, 0, (-9)), none, some (.invokestatic 41, 3, 0, 0, 0, 0), none, none, some (.aload_n 0, 1, 0, 0, 0, 0), some (.getfield 9, 3, 2, 0, 0, 0), none, none, some (.iconst 0, 1, 0, 0, 0, 0), some (.invokestatic 41, 3, 0, 0, 0, 0), none, none, some (.iconst 0, 1, 0, 0, 0, 0), some (.istore 4, 2, 0, 0, 0, 0), none, some (.iload 4, 2, 0, 0, 0, 0), none, some (.iload_n 2, 1, 0, 0, 0, 0), some (.if_icmp .ge 45, 3, 90, 0, 0, 0), none, none, some (.iconst 0, 1, 0, 0, 0, 0), some (.istore 5, 2, 0, 0, 0, 0), none, some (.iload 5, 2, 0, 0, 0, 0), none, some (.iload_n 1, 1, 0, 0, 0, 0), some (.if_icmp .ge 30, 3, 84, 0, 0, 0), none, none, some (.aload_n 0, 1, 0, 0, 0, 0), some (.getfield 9, 3, 2, 0, 0, 0), none, none, some (.iload_n 1, 1, 0, 0, 0, 0), some (.iload 4, 2, 0, 0, 0, 0), none, some (.imul, 1, 0, 0, 0, 0), some (.iload 5, 2, 0, 0, 0, 0), none, some (.iadd, 1, 0, 0, 0, 0), some (.aload_n 0, 1, 0, 0, 0, 0), some (.iload 5, 2, 0, 0, 0, 0), none, some (.iload 4, 2, 0, 0, 0, 0), none, some (.iload_n 3, 1, 0, 0, 0, 0), some (.invokevirtual 47, 3, 0, 0, 0, 0), none, none, some (.iastore, 1, 0, 0, 0, 0), some (.iinc 5 1, 3, 0, 0, 0, 1), none, none, some (.goto (-30), 3, 51, 0, 0, 0), none, none, some (.iinc 4 1, 3, 0, 0, 0, 1), none, none, some (.goto (-45), 3, 42, 0, 0, 0), none, none, some (.return_, 1, 0, 0, 0, 0)]
def mX2_lay : dp_M := (RX2, yX2_lay, cX2_lay, 6, none, tX2_lay)
set_option maxRecDepth 20000 in
theorem okX2_lay : dp_ok mX2_lay := ⟨⟨fl_2, [], by decide +kernel, fun y h => ⟨(fl_2_ok y h).1, fun z => absurd z (fl_2_ok y h).2⟩, fun _ h => absurd h List.not_mem_nil⟩, rfl, dq_67, by decide +kernel, by decide +kernel, by decide +kernel, Nat.le_of_ble_eq_true rfl⟩
theorem npX2_lay : dp_np yX2_lay 3 := by unfold dp_np; decide +kernel
set_option maxRecDepth 20000 in
def tX2_around : List (Option dp_In) := [some (.iconst 0, 1, 0, 0, 0, 0), some (.istore 4, 2, 0, 0, 0, 0), none, some (.iconst 0, 1, 0, 0, 0, 0), some (.istore 5, 2, 0, 0, 0, 0), none, some (.iload 5, 2, 0, 0, 0, 0), none, some (.aload_n 0, 1, 0, 0, 0, 0), some (.getfield 32, 3, 2, 4, 0, 0), none, none, some (.if_icmp .ge 66, 3, 78, 0, 0, 0), none, none, some (.iconst 0, 1, 0, 0, 0, 0), some (.istore 6, 2, 0, 0, 0, 0), none, some (.iload 6, 2, 0, 0, 0, 0), none, some (.aload_n 0, 1, 0, 0, 0, 0), some (.getfield 29, 3, 2, 3, 0, 0), none, none, some (.if_icmp .ge 48, 3, 72, 0, 0, 0), none, none, some (.iload 5, 2, 0, 0, 0, 0), none, some (.iload_n 2, 1, 0, 0, 0, 0), some (.isub, 1, 0, 0, 0, 0), some (.invokestatic 51, 3, 0, 0, 0, 0), none, none, some (.iload_n 3, 1, 0, 0, 0, 0), some (.if_icmp .gt 31, 3, 66, 0, 0, 0), none, none, some (.iload 6, 2, 0, 0, 0, 0), none, some (.iload_n 1, 1, 0, 0, 0, 0), some (.isub, 1, 0, 0, 0, 0), some (.invokestatic 51, 3, 0, 0, 0, 0), none, none, some (.iload_n 3, 1, 0, 0, 0, 0), some (.if_icmp .gt 20, 3, 66, 0, 0, 0), none, none, some (.iload 4, 2, 0, 0, 0, 0), none, some (.iconst 1, 1, 0, 0, 0, 1), some (.aload_n 0, 1, 0, 0, 0, 0), some (.getfield 29, 3, 2, 3, 0, 0), none, none, some (.iload 5, 2, 0, 0, 0, 0), none, some (.imul, 1, 0, 0, 0, 0), some (.iload 6, 2, 0, 0, 0, 0), none, some (.iadd, 1, 0, 0, 0, 0), some (.ishl, 1, 0, 0, 0, 0), some (.ior, 1, 0, 0, 0, 0), some (.istore 4, 2, 0, 0, 0, 0), none, some (.iinc 6 1, 3, 0, 0, 0, 1), none, none, some (.goto (-51), 3, 18, 0, 0, 0), none, none, some (.iinc 5 1, 3, 0, 0, 0, 1), none, none, some (.goto (-69), 3, 6, 0, 0, 0), none, none, some (.iload 4, 2, 0, 0, 0, 0), none, some (.iconst 1, 1, 0, 0, 0, 1), some (.aload_n 0, 1, 0, 0, 0, 0), some (.getfield 29, 3, 2, 3, 0, 0), none, none, some (.iload_n 2, 1, 0, 0, 0, 0), some (.imul, 1, 0, 0, 0, 0), some (.iload_n 1, 1, 0, 0, 0, 0), some (.iadd, 1, 0, 0, 0, 0), some (.ishl, 1, 0, 0, 0, 0), some (.iconst (-1), 1, 0, 0, 0, (-1)), some (.ixor, 1, 0, 0, 0, 0), some (.iand, 1, 0, 0, 0, 0), some (.ireturn, 1, 0, 0, 0, 0)]
def mX2_around : dp_M := (RX2, yX2_around, cX2_around, 7, some .int, tX2_around)
set_option maxRecDepth 20000 in
theorem okX2_around : dp_ok mX2_around := ⟨⟨fl_2, [], by decide +kernel, fun y h => ⟨(fl_2_ok y h).1, fun z => absurd z (fl_2_ok y h).2⟩, fun _ h => absurd h List.not_mem_nil⟩, rfl, dq_74, by decide +kernel, by decide +kernel, by decide +kernel, Nat.le_of_ble_eq_true rfl⟩
theorem npX2_around : dp_np yX2_around 3 := by unfold dp_np; decide +kernel
set_option maxRecDepth 20000 in
def tX2_has : List (Option dp_In) := [some (.iload_n 1, 1, 0, 0, 0, 0), some (.ifCond .lt 15, 3, 16, 0, 0, 0), none, none, some (.iload_n 1, 1, 0, 0, 0, 0), some (.aload_n 0, 1, 0, 0, 0, 0), some (.getfield 35, 3, 2, 2, 0, 0), none, none, some (.if_icmp .ge 7, 3, 16, 0, 0, 0), none, none, some (.iconst 1, 1, 0, 0, 0, 1), some (.goto 4, 3, 17, 0, 0, 0), none, none, some (.iconst 0, 1, 0, 0, 0, 0), some (.ireturn, 1, 0, 0, 0, 0)]
def mX2_has : dp_M := (RX2, yX2_has, cX2_has, 2, some .boolean, tX2_has)
set_option maxRecDepth 20000 in
theorem okX2_has : dp_ok mX2_has := ⟨⟨fl_2, [], by decide +kernel, fun y h => ⟨(fl_2_ok y h).1, fun z => absurd z (fl_2_ok y h).2⟩, fun _ h => absurd h List.not_mem_nil⟩, rfl, dq_305, by decide +kernel, by decide +kernel, by decide +kernel, Nat.le_of_ble_eq_true rfl⟩
theorem npX2_has : dp_np yX2_has 1 := by unfold dp_np; decide +kernel
set_option maxRecDepth 20000 in
def tX2_areLinked : List (Option dp_In) := [some (.iload_n 2, 1, 0, 0, 0, 0), some (.aload_n 0, 1, 0, 0, 0, 0), some (.getfield 9, 3, 2, 0, 0, 0), none, none, some (.iload_n 1, 1, 0, 0, 0, 0), some (.iaload, 1, 0, 0, 0, 0), some (.invokestatic 57, 3, 0, 0, 0, 0), none, none, some (.ireturn, 1, 0, 0, 0, 0)]
def mX2_areLinked : dp_M := (RX2, yX2_areLinked, cX2_areLinked, 3, some .boolean, tX2_areLinked)
set_option maxRecDepth 20000 in
theorem okX2_areLinked : dp_ok mX2_areLinked := ⟨⟨fl_2, [], by decide +kernel, fun y h => ⟨(fl_2_ok y h).1, fun z => absurd z (fl_2_ok y h).2⟩, fun _ h => absurd h List.not_mem_nil⟩, rfl, dq_245, by decide +kernel, by decide +kernel, by decide +kernel, Nat.le_of_ble_eq_true rfl⟩
theorem npX2_areLinked : dp_np yX2_areLinked 2 := by unfold dp_np; decide +kernel
set_option maxRecDepth 20000 in
def tX2_link : List (Option dp_In) := [some (.aload_n 0, 1, 0, 0, 0, 0), some (.getfield 9, 3, 2, 0, 0, 0), none, none, some (.iload_n 1, 1, 0, 0, 0, 0), some (.iload_n 3, 1, 0, 0, 0, 0), some (.ifCond .eq 16, 3, 22, 0, 0, 0), none, none, some (.aload_n 0, 1, 0, 0, 0, 0), some (.getfield 9, 3, 2, 0, 0, 0), none, none, some (.iload_n 1, 1, 0, 0, 0, 0), some (.iaload, 1, 0, 0, 0, 0), some (.iconst 1, 1, 0, 0, 0, 1), some (.iload_n 2, 1, 0, 0, 0, 0), some (.ishl, 1, 0, 0, 0, 0), some (.ior, 1, 0, 0, 0, 0), some (.goto 15, 3, 34, 0, 0, 0), none, none, some (.aload_n 0, 1, 0, 0, 0, 0), some (.getfield 9, 3, 2, 0, 0, 0), none, none, some (.iload_n 1, 1, 0, 0, 0, 0), some (.iaload, 1, 0, 0, 0, 0), some (.iconst 1, 1, 0, 0, 0, 1), some (.iload_n 2, 1, 0, 0, 0, 0), some (.ishl, 1, 0, 0, 0, 0), some (.iconst (-1), 1, 0, 0, 0, (-1)), some (.ixor, 1, 0, 0, 0, 0), some (.iand, 1, 0, 0, 0, 0), some (.iastore, 1, 0, 0, 0, 0), some (.aload_n 0, 1, 0, 0, 0, 0), some (.getfield 9, 3, 2, 0, 0, 0), none, none, some (.iload_n 2, 1, 0, 0, 0, 0), some (.iload_n 3, 1, 0, 0, 0, 0), some (.ifCond .eq 16, 3, 57, 0, 0, 0), none, none, some (.aload_n 0, 1, 0, 0, 0, 0), some (.getfield 9, 3, 2, 0, 0, 0), none, none, some (.iload_n 2, 1, 0, 0, 0, 0), some (.iaload, 1, 0, 0, 0, 0), some (.iconst 1, 1, 0, 0, 0, 1), some (.iload_n 1, 1, 0, 0, 0, 0), some (.ishl, 1, 0, 0, 0, 0), some (.ior, 1, 0, 0, 0, 0), some (.goto 15, 3, 69, 0, 0, 0), none, none, some (.aload_n 0, 1, 0, 0, 0, 0), some (.getfield 9, 3, 2, 0, 0, 0), none, none, some (.iload_n 2, 1, 0, 0, 0, 0), some (.iaload, 1, 0, 0, 0, 0), some (.iconst 1, 1, 0, 0, 0, 1), some (.iload_n 1, 1, 0, 0, 0, 0), some (.ishl, 1, 0, 0, 0, 0), some (.iconst (-1), 1, 0, 0, 0, (-1)), some (.ixor, 1, 0, 0, 0, 0), some (.iand, 1, 0, 0, 0, 0), some (.iastore, 1, 0, 0, 0, 0), some (.return_, 1, 0, 0, 0, 0)]
def mX2_link : dp_M := (RX2, yX2_link, cX2_link, 4, none, tX2_link)
set_option maxRecDepth 20000 in
theorem okX2_link : dp_ok mX2_link := ⟨⟨fl_2, [], by decide +kernel, fun y h => ⟨(fl_2_ok y h).1, fun z => absurd z (fl_2_ok y h).2⟩, fun _ h => absurd h List.not_mem_nil⟩, rfl, dq_310, by decide +kernel, by decide +kernel, by decide +kernel, Nat.le_of_ble_eq_true rfl⟩
theorem npX2_link : dp_np yX2_link 3 := by unfold dp_np; decide +kernel
set_option maxRecDepth 20000 in
def tX2_pairs : List (Option dp_In) := [some (.iconst 0, 1, 0, 0, 0, 0), some (.istore_n 1, 1, 0, 0, 0, 0), some (.iconst 0, 1, 0, 0, 0, 0), some (.istore_n 2, 1, 0, 0, 0, 0), some (.iload_n 2, 1, 0, 0, 0, 0), some (.aload_n 0, 1, 0, 0, 0, 0), some (.getfield 35, 3, 2, 2, 0, 0), none, none, some (.if_icmp .ge 21, 3, 30, 0, 0, 0), none, none, some (.iload_n 1, 1, 0, 0, 0, 0), some (.aload_n 0, 1, 0, 0, 0, 0), some (.getfield 9, 3, 2, 0, 0, 0), none, none, some (.iload_n 2, 1, 0, 0, 0, 0), some (.iaload, 1, 0, 0, 0, 0), some (.invokestatic 61, 3, 0, 0, 0, 0), none, none, some (.iadd, 1, 0, 0, 0, 0), some (.istore_n 1, 1, 0, 0, 0, 0), some (.iinc 2 1, 3, 0, 0, 0, 1), none, none, some (.goto (-23), 3, 4, 0, 0, 0), none, none, some (.iload_n 1, 1, 0, 0, 0, 0), some (.iconst 2, 1, 0, 0, 0, 2), some (.idiv, 1, 0, 0, 0, 0), some (.ireturn, 1, 0, 0, 0, 0)]
def mX2_pairs : dp_M := (RX2, yX2_pairs, cX2_pairs, 3, some .int, tX2_pairs)
set_option maxRecDepth 20000 in
theorem okX2_pairs : dp_ok mX2_pairs := ⟨⟨fl_2, [], by decide +kernel, fun y h => ⟨(fl_2_ok y h).1, fun z => absurd z (fl_2_ok y h).2⟩, fun _ h => absurd h List.not_mem_nil⟩, rfl, dq_563, by decide +kernel, by decide +kernel, by decide +kernel, Nat.le_of_ble_eq_true rfl⟩
theorem npX2_pairs : dp_np yX2_pairs 0 := by unfold dp_np; decide +kernel
set_option maxRecDepth 20000 in
def tX2_all : List (Option dp_In) := [some (.iconst 1, 1, 0, 0, 0, 1), some (.aload_n 0, 1, 0, 0, 0, 0), some (.getfield 35, 3, 2, 2, 0, 0), none, none, some (.ishl, 1, 0, 0, 0, 0), some (.iconst 1, 1, 0, 0, 0, 1), some (.isub, 1, 0, 0, 0, 0), some (.ireturn, 1, 0, 0, 0, 0)]
def mX2_all : dp_M := (RX2, yX2_all, cX2_all, 1, some .int, tX2_all)
set_option maxRecDepth 20000 in
theorem okX2_all : dp_ok mX2_all := ⟨⟨fl_2, [], by decide +kernel, fun y h => ⟨(fl_2_ok y h).1, fun z => absurd z (fl_2_ok y h).2⟩, fun _ h => absurd h List.not_mem_nil⟩, rfl, dq_405, by decide +kernel, by decide +kernel, by decide +kernel, Nat.le_of_ble_eq_true rfl⟩
theorem npX2_all : dp_np yX2_all 0 := by unfold dp_np; decide +kernel
set_option maxRecDepth 20000 in
def tX2_row : List (Option dp_In) := [some (.iconst 1, 1, 0, 0, 0, 1), some (.aload_n 0, 1, 0, 0, 0, 0), some (.getfield 29, 3, 2, 3, 0, 0), none, none, some (.ishl, 1, 0, 0, 0, 0), some (.iconst 1, 1, 0, 0, 0, 1), some (.isub, 1, 0, 0, 0, 0), some (.aload_n 0, 1, 0, 0, 0, 0), some (.getfield 29, 3, 2, 3, 0, 0), none, none, some (.iload_n 1, 1, 0, 0, 0, 0), some (.imul, 1, 0, 0, 0, 0), some (.ishl, 1, 0, 0, 0, 0), some (.ireturn, 1, 0, 0, 0, 0)]
def mX2_row : dp_M := (RX2, yX2_row, cX2_row, 2, some .int, tX2_row)
set_option maxRecDepth 20000 in
theorem okX2_row : dp_ok mX2_row := ⟨⟨fl_2, [], by decide +kernel, fun y h => ⟨(fl_2_ok y h).1, fun z => absurd z (fl_2_ok y h).2⟩, fun _ h => absurd h List.not_mem_nil⟩, rfl, dq_371, by decide +kernel, by decide +kernel, by decide +kernel, Nat.le_of_ble_eq_true rfl⟩
theorem npX2_row : dp_np yX2_row 1 := by unfold dp_np; decide +kernel
set_option maxRecDepth 20000 in
def tX2_liars : List (Option dp_In) := [some (.iconst 0, 1, 0, 0, 0, 0), some (.istore_n 1, 1, 0, 0, 0, 0), some (.iconst 0, 1, 0, 0, 0, 0), some (.istore_n 2, 1, 0, 0, 0, 0), some (.iload_n 2, 1, 0, 0, 0, 0), some (.aload_n 0, 1, 0, 0, 0, 0), some (.getfield 35, 3, 2, 2, 0, 0), none, none, some (.if_icmp .ge 26, 3, 35, 0, 0, 0), none, none, some (.aload_n 0, 1, 0, 0, 0, 0), some (.getfield 15, 3, 2, 1, 0, 0), none, none, some (.iload_n 2, 1, 0, 0, 0, 0), some (.iaload, 1, 0, 0, 0, 0), some (.bipush (-9), 2, 0, 0, 0, (-9)), none, some (.if_icmp .eq 9, 3, 29, 0, 0, 0), none, none, some (.iload_n 1, 1, 0, 0, 0, 0), some (.iconst 1, 1, 0, 0, 0, 1), some (.iload_n 2, 1, 0, 0, 0, 0), some (.ishl, 1, 0, 0, 0, 0), some (.ior, 1, 0, 0, 0, 0), some (.istore_n 1, 1, 0, 0, 0, 0), some (.iinc 2 1, 3, 0, 0, 0, 1), none, none, some (.goto (-28), 3, 4, 0, 0, 0), none, none, some (.iload_n 1, 1, 0, 0, 0, 0), some (.ireturn, 1, 0, 0, 0, 0)]
def mX2_liars : dp_M := (RX2, yX2_liars, cX2_liars, 3, some .int, tX2_liars)
set_option maxRecDepth 20000 in
theorem okX2_liars : dp_ok mX2_liars := ⟨⟨fl_2, [], by decide +kernel, fun y h => ⟨(fl_2_ok y h).1, fun z => absurd z (fl_2_ok y h).2⟩, fun _ h => absurd h List.not_mem_nil⟩, rfl, dq_375, by decide +kernel, by decide +kernel, by decide +kernel, Nat.le_of_ble_eq_true rfl⟩
theorem npX2_liars : dp_np yX2_liars 0 := by unfold dp_np; decide +kernel
set_option maxRecDepth 20000 in
def tX2_isSet : List (Option dp_In) := [some (.iload_n 1, 1, 0, 0, 0, 0), some (.aload_n 0, 1, 0, 0, 0, 0), some (.invokevirtual 66, 3, 0, 0, 0, 0), none, none, some (.iconst (-1), 1, 0, 0, 0, (-1)), some (.ixor, 1, 0, 0, 0, 0), some (.iand, 1, 0, 0, 0, 0), some (.ifCond .ne 18, 3, 26, 0, 0, 0), none, none, some (.aload_n 0, 1, 0, 0, 0, 0), some (.getfield 38, 3, 2, 5, 0, 0), none, none, some (.iload_n 1, 1, 0, 0, 0, 0), some (.invokestatic 57, 3, 0, 0, 0, 0), none, none, some (.ifCond .ne 7, 3, 26, 0, 0, 0), none, none, some (.iconst 1, 1, 0, 0, 0, 1), some (.goto 4, 3, 27, 0, 0, 0), none, none, some (.iconst 0, 1, 0, 0, 0, 0), some (.ireturn, 1, 0, 0, 0, 0)]
def mX2_isSet : dp_M := (RX2, yX2_isSet, cX2_isSet, 2, some .boolean, tX2_isSet)
set_option maxRecDepth 20000 in
theorem okX2_isSet : dp_ok mX2_isSet := ⟨⟨fl_2, [], by decide +kernel, fun y h => ⟨(fl_2_ok y h).1, fun z => absurd z (fl_2_ok y h).2⟩, fun _ h => absurd h List.not_mem_nil⟩, rfl, dq_401, by decide +kernel, by decide +kernel, by decide +kernel, Nat.le_of_ble_eq_true rfl⟩
theorem npX2_isSet : dp_np yX2_isSet 1 := by unfold dp_np; decide +kernel
set_option maxRecDepth 20000 in
def tX2_leastCrowded : List (Option dp_In) := [some (.iconst 0, 1, 0, 0, 0, 0), some (.istore_n 3, 1, 0, 0, 0, 0), some (.iload_n 3, 1, 0, 0, 0, 0), some (.aload_n 0, 1, 0, 0, 0, 0), some (.getfield 35, 3, 2, 2, 0, 0), none, none, some (.if_icmp .ge 34, 3, 41, 0, 0, 0), none, none, some (.iload_n 3, 1, 0, 0, 0, 0), some (.iload_n 1, 1, 0, 0, 0, 0), some (.invokestatic 57, 3, 0, 0, 0, 0), none, none, some (.ifCond .ne 20, 3, 35, 0, 0, 0), none, none, some (.aload_n 0, 1, 0, 0, 0, 0), some (.getfield 9, 3, 2, 0, 0, 0), none, none, some (.iload_n 3, 1, 0, 0, 0, 0), some (.iaload, 1, 0, 0, 0, 0), some (.iload_n 1, 1, 0, 0, 0, 0), some (.iand, 1, 0, 0, 0, 0), some (.invokestatic 61, 3, 0, 0, 0, 0), none, none, some (.iload_n 2, 1, 0, 0, 0, 0), some (.if_icmp .lt 5, 3, 35, 0, 0, 0), none, none, some (.iload_n 3, 1, 0, 0, 0, 0), some (.ireturn, 1, 0, 0, 0, 0), some (.iinc 3 1, 3, 0, 0, 0, 1), none, none, some (.goto (-36), 3, 2, 0, 0, 0), none, none, some (.bipush (-9), 2, 0, 0, 0, (-9)), none, some (.ireturn, 1, 0, 0, 0, 0)]
def mX2_leastCrowded : dp_M := (RX2, yX2_leastCrowded, cX2_leastCrowded, 4, some .int, tX2_leastCrowded)
set_option maxRecDepth 20000 in
theorem okX2_leastCrowded : dp_ok mX2_leastCrowded := ⟨⟨fl_2, [], by decide +kernel, fun y h => ⟨(fl_2_ok y h).1, fun z => absurd z (fl_2_ok y h).2⟩, fun _ h => absurd h List.not_mem_nil⟩, rfl, dq_413, by decide +kernel, by decide +kernel, by decide +kernel, Nat.le_of_ble_eq_true rfl⟩
theorem npX2_leastCrowded : dp_np yX2_leastCrowded 2 := by unfold dp_np; decide +kernel
set_option maxRecDepth 20000 in
def tX2_isThin : List (Option dp_In) := [some (.aload_n 0, 1, 0, 0, 0, 0), some (.iload_n 1, 1, 0, 0, 0, 0), some (.iload_n 2, 1, 0, 0, 0, 0), some (.invokevirtual 70, 3, 0, 0, 0, 0), none, none, some (.bipush (-9), 2, 0, 0, 0, (-9)), none, some (.if_icmp .ne 7, 3, 15, 0, 0, 0), none, none, some (.iconst 1, 1, 0, 0, 0, 1), some (.goto 4, 3, 16, 0, 0, 0), none, none, some (.iconst 0, 1, 0, 0, 0, 0), some (.ireturn, 1, 0, 0, 0, 0)]
def mX2_isThin : dp_M := (RX2, yX2_isThin, cX2_isThin, 3, some .boolean, tX2_isThin)
set_option maxRecDepth 20000 in
theorem okX2_isThin : dp_ok mX2_isThin := ⟨⟨fl_2, [], by decide +kernel, fun y h => ⟨(fl_2_ok y h).1, fun z => absurd z (fl_2_ok y h).2⟩, fun _ h => absurd h List.not_mem_nil⟩, rfl, dq_409, by decide +kernel, by decide +kernel, by decide +kernel, Nat.le_of_ble_eq_true rfl⟩
theorem npX2_isThin : dp_np yX2_isThin 2 := by unfold dp_np; decide +kernel
set_option maxRecDepth 20000 in
def tX2_spread : List (Option dp_In) := [some (.iconst 1, 1, 0, 0, 0, 1), some (.aload_n 0, 1, 0, 0, 0, 0), some (.getfield 38, 3, 2, 5, 0, 0), none, none, some (.ishl, 1, 0, 0, 0, 0), some (.aload_n 0, 1, 0, 0, 0, 0), some (.getfield 9, 3, 2, 0, 0, 0), none, none, some (.aload_n 0, 1, 0, 0, 0, 0), some (.getfield 38, 3, 2, 5, 0, 0), none, none, some (.iaload, 1, 0, 0, 0, 0), some (.ior, 1, 0, 0, 0, 0), some (.iload_n 1, 1, 0, 0, 0, 0), some (.iconst (-1), 1, 0, 0, 0, (-1)), some (.ixor, 1, 0, 0, 0, 0), some (.iand, 1, 0, 0, 0, 0), some (.istore_n 3, 1, 0, 0, 0, 0), some (.iconst 0, 1, 0, 0, 0, 0), some (.istore 4, 2, 0, 0, 0, 0), none, some (.iload 4, 2, 0, 0, 0, 0), none, some (.bipush 12, 2, 0, 0, 0, 12), none, some (.if_icmp .ge 30, 3, 58, 0, 0, 0), none, none, some (.aload_n 0, 1, 0, 0, 0, 0), some (.iload_n 3, 1, 0, 0, 0, 0), some (.iload_n 1, 1, 0, 0, 0, 0), some (.iload_n 2, 1, 0, 0, 0, 0), some (.invokevirtual 74, 3, 0, 0, 0, 0), none, none, some (.istore 5, 2, 0, 0, 0, 0), none, some (.iload 5, 2, 0, 0, 0, 0), none, some (.iload_n 3, 1, 0, 0, 0, 0), some (.if_icmp .ne 6, 3, 49, 0, 0, 0), none, none, some (.goto 12, 3, 58, 0, 0, 0), none, none, some (.iload 5, 2, 0, 0, 0, 0), none, some (.istore_n 3, 1, 0, 0, 0, 0), some (.iinc 4 1, 3, 0, 0, 0, 1), none, none, some (.goto (-31), 3, 24, 0, 0, 0), none, none, some (.iload_n 3, 1, 0, 0, 0, 0), some (.ireturn, 1, 0, 0, 0, 0)]
def mX2_spread : dp_M := (RX2, yX2_spread, cX2_spread, 6, some .int, tX2_spread)
set_option maxRecDepth 20000 in
theorem okX2_spread : dp_ok mX2_spread := ⟨⟨fl_2, [], by decide +kernel, fun y h => ⟨(fl_2_ok y h).1, fun z => absurd z (fl_2_ok y h).2⟩, fun _ h => absurd h List.not_mem_nil⟩, rfl, dq_422, by decide +kernel, by decide +kernel, by decide +kernel, Nat.le_of_ble_eq_true rfl⟩
theorem npX2_spread : dp_np yX2_spread 2 := by unfold dp_np; decide +kernel
set_option maxRecDepth 20000 in
def tX2_withJoining : List (Option dp_In) := [some (.iload_n 1, 1, 0, 0, 0, 0), some (.istore 4, 2, 0, 0, 0, 0), none, some (.iconst 0, 1, 0, 0, 0, 0), some (.istore 5, 2, 0, 0, 0, 0), none, some (.iload 5, 2, 0, 0, 0, 0), none, some (.aload_n 0, 1, 0, 0, 0, 0), some (.getfield 35, 3, 2, 2, 0, 0), none, none, some (.if_icmp .ge 47, 3, 59, 0, 0, 0), none, none, some (.iload 5, 2, 0, 0, 0, 0), none, some (.iload_n 2, 1, 0, 0, 0, 0), some (.iload 4, 2, 0, 0, 0, 0), none, some (.ior, 1, 0, 0, 0, 0), some (.invokestatic 57, 3, 0, 0, 0, 0), none, none, some (.ifCond .ne 29, 3, 53, 0, 0, 0), none, none, some (.aload_n 0, 1, 0, 0, 0, 0), some (.getfield 9, 3, 2, 0, 0, 0), none, none, some (.iload 5, 2, 0, 0, 0, 0), none, some (.iaload, 1, 0, 0, 0, 0), some (.iload 4, 2, 0, 0, 0, 0), none, some (.iand, 1, 0, 0, 0, 0), some (.invokestatic 61, 3, 0, 0, 0, 0), none, none, some (.iload_n 3, 1, 0, 0, 0, 0), some (.if_icmp .lt 12, 3, 53, 0, 0, 0), none, none, some (.iload 4, 2, 0, 0, 0, 0), none, some (.iconst 1, 1, 0, 0, 0, 1), some (.iload 5, 2, 0, 0, 0, 0), none, some (.ishl, 1, 0, 0, 0, 0), some (.ior, 1, 0, 0, 0, 0), some (.istore 4, 2, 0, 0, 0, 0), none, some (.iinc 5 1, 3, 0, 0, 0, 1), none, none, some (.goto (-50), 3, 6, 0, 0, 0), none, none, some (.iload 4, 2, 0, 0, 0, 0), none, some (.ireturn, 1, 0, 0, 0, 0)]
def mX2_withJoining : dp_M := (RX2, yX2_withJoining, cX2_withJoining, 6, some .int, tX2_withJoining)
set_option maxRecDepth 20000 in
theorem okX2_withJoining : dp_ok mX2_withJoining := ⟨⟨fl_2, [], by decide +kernel, fun y h => ⟨(fl_2_ok y h).1, fun z => absurd z (fl_2_ok y h).2⟩, fun _ h => absurd h List.not_mem_nil⟩, rfl, dq_426, by decide +kernel, by decide +kernel, by decide +kernel, Nat.le_of_ble_eq_true rfl⟩
theorem npX2_withJoining : dp_np yX2_withJoining 3 := by unfold dp_np; decide +kernel
set_option maxRecDepth 20000 in
def tX2_cut : List (Option dp_In) := [some (.aload_n 0, 1, 0, 0, 0, 0), some (.invokevirtual 66, 3, 0, 0, 0, 0), none, none, some (.iload_n 1, 1, 0, 0, 0, 0), some (.iconst (-1), 1, 0, 0, 0, (-1)), some (.ixor, 1, 0, 0, 0, 0), some (.iand, 1, 0, 0, 0, 0), some (.aload_n 0, 1, 0, 0, 0, 0), some (.iload_n 1, 1, 0, 0, 0, 0), some (.iload_n 2, 1, 0, 0, 0, 0), some (.invokevirtual 77, 3, 0, 0, 0, 0), none, none, some (.iconst (-1), 1, 0, 0, 0, (-1)), some (.ixor, 1, 0, 0, 0, 0), some (.iand, 1, 0, 0, 0, 0), some (.ireturn, 1, 0, 0, 0, 0)]
def mX2_cut : dp_M := (RX2, yX2_cut, cX2_cut, 3, some .int, tX2_cut)
set_option maxRecDepth 20000 in
theorem okX2_cut : dp_ok mX2_cut := ⟨⟨fl_2, [], by decide +kernel, fun y h => ⟨(fl_2_ok y h).1, fun z => absurd z (fl_2_ok y h).2⟩, fun _ h => absurd h List.not_mem_nil⟩, rfl, dq_418, by decide +kernel, by decide +kernel, by decide +kernel, Nat.le_of_ble_eq_true rfl⟩
theorem npX2_cut : dp_np yX2_cut 2 := by unfold dp_np; decide +kernel
set_option maxRecDepth 20000 in
def tX2_greatestBorne : List (Option dp_In) := [some (.bipush 6, 2, 0, 0, 0, 6), none, some (.istore_n 1, 1, 0, 0, 0, 0), some (.iconst 0, 1, 0, 0, 0, 0), some (.istore_n 2, 1, 0, 0, 0, 0), some (.iload_n 2, 1, 0, 0, 0, 0), some (.aload_n 0, 1, 0, 0, 0, 0), some (.invokevirtual 66, 3, 0, 0, 0, 0), none, none, some (.if_icmp .gt 45, 3, 55, 0, 0, 0), none, none, some (.iload_n 1, 1, 0, 0, 0, 0), some (.ifCond .le 35, 3, 49, 0, 0, 0), none, none, some (.aload_n 0, 1, 0, 0, 0, 0), some (.iload_n 2, 1, 0, 0, 0, 0), some (.invokevirtual 80, 3, 0, 0, 0, 0), none, none, some (.ifCond .eq 27, 3, 49, 0, 0, 0), none, none, some (.aload_n 0, 1, 0, 0, 0, 0), some (.iload_n 2, 1, 0, 0, 0, 0), some (.iload_n 1, 1, 0, 0, 0, 0), some (.invokevirtual 84, 3, 0, 0, 0, 0), none, none, some (.ifCond .eq 18, 3, 49, 0, 0, 0), none, none, some (.aload_n 0, 1, 0, 0, 0, 0), some (.iload_n 2, 1, 0, 0, 0, 0), some (.iload_n 1, 1, 0, 0, 0, 0), some (.invokevirtual 87, 3, 0, 0, 0, 0), none, none, some (.ifCond .eq 9, 3, 49, 0, 0, 0), none, none, some (.iinc 1 (-1), 3, 0, 0, 0, (-1)), none, none, some (.goto (-33), 3, 13, 0, 0, 0), none, none, some (.iinc 2 1, 3, 0, 0, 0, 1), none, none, some (.goto (-47), 3, 5, 0, 0, 0), none, none, some (.iload_n 1, 1, 0, 0, 0, 0), some (.ifCond .le 7, 3, 63, 0, 0, 0), none, none, some (.iload_n 1, 1, 0, 0, 0, 0), some (.goto 5, 3, 65, 0, 0, 0), none, none, some (.bipush (-9), 2, 0, 0, 0, (-9)), none, some (.ireturn, 1, 0, 0, 0, 0)]
def mX2_greatestBorne : dp_M := (RX2, yX2_greatestBorne, cX2_greatestBorne, 3, some .int, tX2_greatestBorne)
set_option maxRecDepth 20000 in
theorem okX2_greatestBorne : dp_ok mX2_greatestBorne := ⟨⟨fl_2, [], by decide +kernel, fun y h => ⟨(fl_2_ok y h).1, fun z => absurd z (fl_2_ok y h).2⟩, fun _ h => absurd h List.not_mem_nil⟩, rfl, dq_461, by decide +kernel, by decide +kernel, by decide +kernel, Nat.le_of_ble_eq_true rfl⟩
theorem npX2_greatestBorne : dp_np yX2_greatestBorne 0 := by unfold dp_np; decide +kernel
set_option maxRecDepth 20000 in
def tX3_init : List (Option dp_In) := [some (.aload_n 0, 1, 0, 0, 0, 0), some (.invokespecial 3, 3, 0, 0, 0, 0), none, none, some (.aload_n 0, 1, 0, 0, 0, 0), some (.bipush 12, 2, 0, 0, 0, 12), none, some (.newarray .int, 2, 0, 0, 0, 0), none, some (.putfield 9, 3, 3, 0, 4, 0), none, none, some (.aload_n 0, 1, 0, 0, 0, 0), some (.bipush 12, 2, 0, 0, 0, 12), none, some (.newarray .int, 2, 0, 0, 0, 0), none, some (.putfield 15, 3, 3, 1, 4, 0), none, none, some (.aload_n 0, 1, 0, 0, 0, 0), some (.bipush 12, 2, 0, 0, 0, 12), none, some (.newarray .int, 2, 0, 0, 0, 0), none, some (.putfield 18, 3, 3, 2, 4, 0), none, none, some (.aload_n 0, 1, 0, 0, 0, 0), some (.bipush 48, 2, 0, 0, 0, 48), none, some (.newarray .int, 2, 0, 0, 0, 0), none, some (.putfield 21, 3, 3, 3, 4, 0), none, none, some (.aload_n 0, 1, 0, 0, 0, 0), some (.iconst 1, 1, 0, 0, 0, 1), some (.putfield 24, 3, 3, 4, 2, 0), none, none, some (.aload_n 0, 1, 0, 0, 0, 0), some (.iconst 0, 1, 0, 0, 0, 0), some (.putfield 28, 3, 3, 5, 2, 0), none, none, some (.aload_n 0, 1, 0, 0, 0, 0), some (.iconst 0, 1, 0, 0, 0, 0), some (.putfield 31, 3, 3, 6, 2, 0), none, none, some (.return_, 1, 0, 0, 0, 0)]
def mX3_init : dp_M := (RX3, yX3_init, cX3_init, 1, none, tX3_init)
set_option maxRecDepth 20000 in
theorem okX3_init : dp_ok mX3_init := ⟨⟨fl_3 ++ ff_3, [], by decide +kernel, fun y h => ⟨(List.mem_append.mp h).elim (fun h => (fl_3_ok y h).1) (ff_3_ok y), fun _ => rfl⟩, fun _ h => absurd h List.not_mem_nil⟩, rfl, dq_123, by decide +kernel, by decide +kernel, by decide +kernel, Nat.le_of_ble_eq_true rfl⟩
theorem npX3_init : dp_np yX3_init 0 := by unfold dp_np; decide +kernel
set_option maxRecDepth 20000 in
def tX3_restart : List (Option dp_In) := [some (.aload_n 0, 1, 0, 0, 0, 0), some (.aload_n 1, 1, 0, 0, 0, 0), some (.invokevirtual 34, 3, 0, 0, 0, 0), none, none, some (.aload_n 0, 1, 0, 0, 0, 0), some (.iconst 0, 1, 0, 0, 0, 0), some (.putfield 28, 3, 3, 5, 2, 0), none, none, some (.aload_n 0, 1, 0, 0, 0, 0), some (.iconst 0, 1, 0, 0, 0, 0), some (.putfield 31, 3, 3, 6, 2, 0), none, none, some (.aload_n 0, 1, 0, 0, 0, 0), some (.getfield 15, 3, 3, 1, 0, 0), none, none, some (.bipush (-9), 2, 0, 0, 0, (-9)), none, some (.invokestatic 38, 3, 0, 0, 0, 0), none, none, some (.aload_n 0, 1, 0, 0, 0, 0), some (.getfield 18, 3, 3, 2, 0, 0), none, none, some (.bipush (-9), 2, 0, 0, 0, (-9)), none, some (.invokestatic 38, 3, 0, 0, 0, 0), none, none, some (.aload_n 0, 1, 0, 0, 0, 0), some (.getfield 21, 3, 3, 3, 0, 0), none, none, some (.iconst 0, 1, 0, 0, 0, 0), some (.invokestatic 38, 3, 0, 0, 0, 0), none, none, some (.aload_n 0, 1, 0, 0, 0, 0), some (.getfield 15, 3, 3, 1, 0, 0), none, none, some (.aload_n 1, 1, 0, 0, 0, 0), some (.getfield 44, 3, 2, 5, 1, 0), none, none, some (.aload_n 1, 1, 0, 0, 0, 0), some (.getfield 49, 3, 2, 6, 1, 0), none, none, some (.iastore, 1, 0, 0, 0, 0), some (.aload_n 0, 1, 0, 0, 0, 0), some (.getfield 18, 3, 3, 2, 0, 0), none, none, some (.aload_n 1, 1, 0, 0, 0, 0), some (.getfield 44, 3, 2, 5, 1, 0), none, none, some (.iconst 0, 1, 0, 0, 0, 0), some (.iastore, 1, 0, 0, 0, 0), some (.return_, 1, 0, 0, 0, 0)]
def mX3_restart : dp_M := (RX3, yX3_restart, cX3_restart, 2, none, tX3_restart)
set_option maxRecDepth 20000 in
theorem okX3_restart : dp_ok mX3_restart := ⟨⟨fl_3, [], by decide +kernel, fun y h => ⟨(fl_3_ok y h).1, fun z => absurd z (fl_3_ok y h).2⟩, fun _ h => absurd h List.not_mem_nil⟩, rfl, dq_233, by decide +kernel, by decide +kernel, by decide +kernel, Nat.le_of_ble_eq_true rfl⟩
theorem npX3_restart : dp_np yX3_restart 1 := by unfold dp_np; decide +kernel
set_option maxRecDepth 20000 in
def tX3_dealSlots : List (Option dp_In) := [some (.aload_n 0, 1, 0, 0, 0, 0), some (.iconst 1, 1, 0, 0, 0, 1), some (.putfield 24, 3, 3, 4, 2, 0), none, none, some (.iconst 0, 1, 0, 0, 0, 0), some (.istore_n 2, 1, 0, 0, 0, 0), some (.iload_n 2, 1, 0, 0, 0, 0), some (.aload_n 1, 1, 0, 0, 0, 0), some (.getfield 52, 3, 2, 2, 1, 0), none, none, some (.if_icmp .ge 43, 3, 55, 0, 0, 0), none, none, some (.aload_n 0, 1, 0, 0, 0, 0), some (.getfield 9, 3, 3, 0, 0, 0), none, none, some (.iload_n 2, 1, 0, 0, 0, 0), some (.aload_n 0, 1, 0, 0, 0, 0), some (.aload_n 1, 1, 0, 0, 0, 0), some (.iload_n 2, 1, 0, 0, 0, 0), some (.invokevirtual 55, 3, 0, 0, 0, 0), none, none, some (.invokestatic 59, 3, 0, 0, 0, 0), none, none, some (.iastore, 1, 0, 0, 0, 0), some (.aload_n 0, 1, 0, 0, 0, 0), some (.aload_n 0, 1, 0, 0, 0, 0), some (.getfield 24, 3, 3, 4, 0, 0), none, none, some (.aload_n 0, 1, 0, 0, 0, 0), some (.getfield 9, 3, 3, 0, 0, 0), none, none, some (.iload_n 2, 1, 0, 0, 0, 0), some (.iaload, 1, 0, 0, 0, 0), some (.iconst 1, 1, 0, 0, 0, 1), some (.iadd, 1, 0, 0, 0, 0), some (.invokestatic 63, 3, 0, 0, 0, 0), none, none, some (.putfield 24, 3, 3, 4, 2, 0), none, none, some (.iinc 2 1, 3, 0, 0, 0, 1), none, none, some (.goto (-45), 3, 7, 0, 0, 0), none, none, some (.return_, 1, 0, 0, 0, 0)]
def mX3_dealSlots : dp_M := (RX3, yX3_dealSlots, cX3_dealSlots, 3, none, tX3_dealSlots)
set_option maxRecDepth 20000 in
theorem okX3_dealSlots : dp_ok mX3_dealSlots := ⟨⟨fl_3, [], by decide +kernel, fun y h => ⟨(fl_3_ok y h).1, fun z => absurd z (fl_3_ok y h).2⟩, fun _ h => absurd h List.not_mem_nil⟩, rfl, dq_237, by decide +kernel, by decide +kernel, by decide +kernel, Nat.le_of_ble_eq_true rfl⟩
theorem npX3_dealSlots : dp_np yX3_dealSlots 1 := by unfold dp_np; decide +kernel
set_option maxRecDepth 20000 in
def tX3_slotsNear : List (Option dp_In) := [some (.iconst 0, 1, 0, 0, 0, 0), some (.istore_n 3, 1, 0, 0, 0, 0), some (.iconst 0, 1, 0, 0, 0, 0), some (.istore 4, 2, 0, 0, 0, 0), none, some (.iload 4, 2, 0, 0, 0, 0), none, some (.iload_n 2, 1, 0, 0, 0, 0), some (.if_icmp .ge 48, 3, 56, 0, 0, 0), none, none, some (.aload_n 1, 1, 0, 0, 0, 0), some (.iload 4, 2, 0, 0, 0, 0), none, some (.iload_n 2, 1, 0, 0, 0, 0), some (.invokevirtual 69, 3, 0, 0, 0, 0), none, none, some (.ifCond .ne 20, 3, 38, 0, 0, 0), none, none, some (.aload_n 1, 1, 0, 0, 0, 0), some (.getfield 73, 3, 2, 0, 1, 0), none, none, some (.iload 4, 2, 0, 0, 0, 0), none, some (.iaload, 1, 0, 0, 0, 0), some (.aload_n 1, 1, 0, 0, 0, 0), some (.getfield 73, 3, 2, 0, 1, 0), none, none, some (.iload_n 2, 1, 0, 0, 0, 0), some (.iaload, 1, 0, 0, 0, 0), some (.iand, 1, 0, 0, 0, 0), some (.ifCond .eq 15, 3, 50, 0, 0, 0), none, none, some (.iload_n 3, 1, 0, 0, 0, 0), some (.iconst 1, 1, 0, 0, 0, 1), some (.aload_n 0, 1, 0, 0, 0, 0), some (.getfield 9, 3, 3, 0, 0, 0), none, none, some (.iload 4, 2, 0, 0, 0, 0), none, some (.iaload, 1, 0, 0, 0, 0), some (.ishl, 1, 0, 0, 0, 0), some (.ior, 1, 0, 0, 0, 0), some (.istore_n 3, 1, 0, 0, 0, 0), some (.iinc 4 1, 3, 0, 0, 0, 1), none, none, some (.goto (-48), 3, 5, 0, 0, 0), none, none, some (.iload_n 3, 1, 0, 0, 0, 0), some (.ireturn, 1, 0, 0, 0, 0)]
def mX3_slotsNear : dp_M := (RX3, yX3_slotsNear, cX3_slotsNear, 5, some .int, tX3_slotsNear)
set_option maxRecDepth 20000 in
theorem okX3_slotsNear : dp_ok mX3_slotsNear := ⟨⟨fl_3, [], by decide +kernel, fun y h => ⟨(fl_3_ok y h).1, fun z => absurd z (fl_3_ok y h).2⟩, fun _ h => absurd h List.not_mem_nil⟩, rfl, dq_241, by decide +kernel, by decide +kernel, by decide +kernel, Nat.le_of_ble_eq_true rfl⟩
theorem npX3_slotsNear : dp_np yX3_slotsNear 2 := by unfold dp_np; decide +kernel
set_option maxRecDepth 20000 in
def tX3_leastFree : List (Option dp_In) := [some (.iconst 0, 1, 0, 0, 0, 0), some (.istore_n 1, 1, 0, 0, 0, 0), some (.iload_n 1, 1, 0, 0, 0, 0), some (.bipush 12, 2, 0, 0, 0, 12), none, some (.if_icmp .ge 17, 3, 22, 0, 0, 0), none, none, some (.iload_n 1, 1, 0, 0, 0, 0), some (.iload_n 0, 1, 0, 0, 0, 0), some (.invokestatic 76, 3, 0, 0, 0, 0), none, none, some (.ifCond .eq 9, 3, 22, 0, 0, 0), none, none, some (.iinc 1 1, 3, 0, 0, 0, 1), none, none, some (.goto (-17), 3, 2, 0, 0, 0), none, none, some (.iload_n 1, 1, 0, 0, 0, 0), some (.ireturn, 1, 0, 0, 0, 0)]
def mX3_leastFree : dp_M := (RX3, yX3_leastFree, cX3_leastFree, 2, some .int, tX3_leastFree)
set_option maxRecDepth 20000 in
theorem okX3_leastFree : dp_ok mX3_leastFree := ⟨⟨fl_3, [], by decide +kernel, fun y h => ⟨(fl_3_ok y h).1, fun z => absurd z (fl_3_ok y h).2⟩, fun _ h => absurd h List.not_mem_nil⟩, rfl, dq_251, by decide +kernel, by decide +kernel, by decide +kernel, Nat.le_of_ble_eq_true rfl⟩
theorem npX3_leastFree : dp_np yX3_leastFree 1 := by unfold dp_np; decide +kernel
set_option maxRecDepth 20000 in
def tX3_pass : List (Option dp_In) := [some (.aload_n 0, 1, 0, 0, 0, 0), some (.getfield 24, 3, 3, 4, 0, 0), none, none, some (.ifCond .le 15, 3, 19, 0, 0, 0), none, none, some (.aload_n 0, 1, 0, 0, 0, 0), some (.getfield 28, 3, 3, 5, 0, 0), none, none, some (.aload_n 0, 1, 0, 0, 0, 0), some (.getfield 24, 3, 3, 4, 0, 0), none, none, some (.irem, 1, 0, 0, 0, 0), some (.goto 4, 3, 20, 0, 0, 0), none, none, some (.iconst 0, 1, 0, 0, 0, 0), some (.istore_n 2, 1, 0, 0, 0, 0), some (.aload_n 0, 1, 0, 0, 0, 0), some (.dup, 1, 0, 0, 0, 0), some (.getfield 28, 3, 3, 5, 0, 0), none, none, some (.iconst 1, 1, 0, 0, 0, 1), some (.iadd, 1, 0, 0, 0, 0), some (.putfield 28, 3, 3, 5, 2, 0), none, none, some (.iconst 0, 1, 0, 0, 0, 0), some (.istore_n 3, 1, 0, 0, 0, 0), some (.iconst 0, 1, 0, 0, 0, 0), some (.istore 4, 2, 0, 0, 0, 0), none, some (.iload 4, 2, 0, 0, 0, 0), none, some (.aload_n 1, 1, 0, 0, 0, 0), some (.getfield 52, 3, 2, 2, 1, 0), none, none, some (.if_icmp .ge 42, 3, 84, 0, 0, 0), none, none, some (.aload_n 0, 1, 0, 0, 0, 0), some (.getfield 9, 3, 3, 0, 0, 0), none, none, some (.iload 4, 2, 0, 0, 0, 0), none, some (.iaload, 1, 0, 0, 0, 0), some (.iload_n 2, 1, 0, 0, 0, 0), some (.if_icmp .ne 25, 3, 78, 0, 0, 0), none, none, some (.iload 4, 2, 0, 0, 0, 0), none, some (.aload_n 0, 1, 0, 0, 0, 0), some (.getfield 31, 3, 3, 6, 0, 0), none, none, some (.invokestatic 76, 3, 0, 0, 0, 0), none, none, some (.ifCond .ne 13, 3, 78, 0, 0, 0), none, none, some (.iload_n 3, 1, 0, 0, 0, 0), some (.aload_n 0, 1, 0, 0, 0, 0), some (.aload_n 1, 1, 0, 0, 0, 0), some (.iload 4, 2, 0, 0, 0, 0), none, some (.invokevirtual 79, 3, 0, 0, 0, 0), none, none, some (.iadd, 1, 0, 0, 0, 0), some (.istore_n 3, 1, 0, 0, 0, 0), some (.iinc 4 1, 3, 0, 0, 0, 1), none, none, some (.goto (-45), 3, 36, 0, 0, 0), none, none, some (.iload_n 3, 1, 0, 0, 0, 0), some (.ireturn, 1, 0, 0, 0, 0)]
def mX3_pass : dp_M := (RX3, yX3_pass, cX3_pass, 5, some .int, tX3_pass)
set_option maxRecDepth 20000 in
theorem okX3_pass : dp_ok mX3_pass := ⟨⟨fl_3, [], by decide +kernel, fun y h => ⟨(fl_3_ok y h).1, fun z => absurd z (fl_3_ok y h).2⟩, fun _ h => absurd h List.not_mem_nil⟩, rfl, dq_341, by decide +kernel, by decide +kernel, by decide +kernel, Nat.le_of_ble_eq_true rfl⟩
theorem npX3_pass : dp_np yX3_pass 1 := by unfold dp_np; decide +kernel
set_option maxRecDepth 20000 in
def tX3_speak : List (Option dp_In) := [some (.aload_n 1, 1, 0, 0, 0, 0), some (.getfield 82, 3, 2, 1, 1, 0), none, none, some (.iload_n 2, 1, 0, 0, 0, 0), some (.iaload, 1, 0, 0, 0, 0), some (.bipush (-9), 2, 0, 0, 0, (-9)), none, some (.if_icmp .ne 12, 3, 20, 0, 0, 0), none, none, some (.aload_n 0, 1, 0, 0, 0, 0), some (.getfield 15, 3, 3, 1, 0, 0), none, none, some (.iload_n 2, 1, 0, 0, 0, 0), some (.iaload, 1, 0, 0, 0, 0), some (.goto 9, 3, 26, 0, 0, 0), none, none, some (.aload_n 1, 1, 0, 0, 0, 0), some (.getfield 82, 3, 2, 1, 1, 0), none, none, some (.iload_n 2, 1, 0, 0, 0, 0), some (.iaload, 1, 0, 0, 0, 0), some (.istore_n 3, 1, 0, 0, 0, 0), some (.iload_n 3, 1, 0, 0, 0, 0), some (.invokestatic 85, 3, 0, 0, 0, 0), none, none, some (.ifCond .ne 5, 3, 36, 0, 0, 0), none, none, some (.iconst 0, 1, 0, 0, 0, 0), some (.ireturn, 1, 0, 0, 0, 0), some (.aload_n 0, 1, 0, 0, 0, 0), some (.dup, 1, 0, 0, 0, 0), some (.getfield 31, 3, 3, 6, 0, 0), none, none, some (.iconst 1, 1, 0, 0, 0, 1), some (.iload_n 2, 1, 0, 0, 0, 0), some (.ishl, 1, 0, 0, 0, 0), some (.ior, 1, 0, 0, 0, 0), some (.putfield 31, 3, 3, 6, 2, 0), none, none, some (.iconst 0, 1, 0, 0, 0, 0), some (.istore 4, 2, 0, 0, 0, 0), none, some (.iconst 0, 1, 0, 0, 0, 0), some (.istore 5, 2, 0, 0, 0, 0), none, some (.iload 5, 2, 0, 0, 0, 0), none, some (.aload_n 1, 1, 0, 0, 0, 0), some (.getfield 52, 3, 2, 2, 1, 0), none, none, some (.if_icmp .ge 33, 3, 93, 0, 0, 0), none, none, some (.aload_n 1, 1, 0, 0, 0, 0), some (.iload_n 2, 1, 0, 0, 0, 0), some (.iload 5, 2, 0, 0, 0, 0), none, some (.invokevirtual 69, 3, 0, 0, 0, 0), none, none, some (.ifCond .eq 17, 3, 87, 0, 0, 0), none, none, some (.iload 4, 2, 0, 0, 0, 0), none, some (.aload_n 0, 1, 0, 0, 0, 0), some (.aload_n 1, 1, 0, 0, 0, 0), some (.iload 5, 2, 0, 0, 0, 0), none, some (.iload_n 2, 1, 0, 0, 0, 0), some (.iload_n 3, 1, 0, 0, 0, 0), some (.invokevirtual 89, 3, 0, 0, 0, 0), none, none, some (.iadd, 1, 0, 0, 0, 0), some (.istore 4, 2, 0, 0, 0, 0), none, some (.iinc 5 1, 3, 0, 0, 0, 1), none, none, some (.goto (-36), 3, 54, 0, 0, 0), none, none, some (.iload 4, 2, 0, 0, 0, 0), none, some (.ireturn, 1, 0, 0, 0, 0)]
def mX3_speak : dp_M := (RX3, yX3_speak, cX3_speak, 6, some .int, tX3_speak)
set_option maxRecDepth 20000 in
theorem okX3_speak : dp_ok mX3_speak := ⟨⟨fl_3, [], by decide +kernel, fun y h => ⟨(fl_3_ok y h).1, fun z => absurd z (fl_3_ok y h).2⟩, fun _ h => absurd h List.not_mem_nil⟩, rfl, dq_345, by decide +kernel, by decide +kernel, by decide +kernel, Nat.le_of_ble_eq_true rfl⟩
theorem npX3_speak : dp_np yX3_speak 2 := by unfold dp_np; decide +kernel
set_option maxRecDepth 20000 in
def tX3_hear : List (Option dp_In) := [some (.aload_n 0, 1, 0, 0, 0, 0), some (.getfield 21, 3, 3, 3, 0, 0), none, none, some (.iload_n 2, 1, 0, 0, 0, 0), some (.iconst 4, 1, 0, 0, 0, 4), some (.imul, 1, 0, 0, 0, 0), some (.iload 4, 2, 0, 0, 0, 0), none, some (.iadd, 1, 0, 0, 0, 0), some (.dup2, 1, 0, 0, 0, 0), some (.iaload, 1, 0, 0, 0, 0), some (.iconst 1, 1, 0, 0, 0, 1), some (.iadd, 1, 0, 0, 0, 0), some (.iastore, 1, 0, 0, 0, 0), some (.aload_n 1, 1, 0, 0, 0, 0), some (.getfield 82, 3, 2, 1, 1, 0), none, none, some (.iload_n 2, 1, 0, 0, 0, 0), some (.iaload, 1, 0, 0, 0, 0), some (.bipush (-9), 2, 0, 0, 0, (-9)), none, some (.if_icmp .ne 14, 3, 37, 0, 0, 0), none, none, some (.aload_n 0, 1, 0, 0, 0, 0), some (.getfield 15, 3, 3, 1, 0, 0), none, none, some (.iload_n 2, 1, 0, 0, 0, 0), some (.iaload, 1, 0, 0, 0, 0), some (.bipush (-9), 2, 0, 0, 0, (-9)), none, some (.if_icmp .eq 5, 3, 39, 0, 0, 0), none, none, some (.iconst 0, 1, 0, 0, 0, 0), some (.ireturn, 1, 0, 0, 0, 0), some (.iload_n 3, 1, 0, 0, 0, 0), some (.aload_n 1, 1, 0, 0, 0, 0), some (.getfield 44, 3, 2, 5, 1, 0), none, none, some (.if_icmp .eq 19, 3, 63, 0, 0, 0), none, none, some (.aload_n 0, 1, 0, 0, 0, 0), some (.iload_n 2, 1, 0, 0, 0, 0), some (.iload 4, 2, 0, 0, 0, 0), none, some (.invokevirtual 93, 3, 0, 0, 0, 0), none, none, some (.aload_n 1, 1, 0, 0, 0, 0), some (.getfield 96, 3, 2, 7, 1, 0), none, none, some (.if_icmp .ge 5, 3, 63, 0, 0, 0), none, none, some (.iconst 0, 1, 0, 0, 0, 0), some (.ireturn, 1, 0, 0, 0, 0), some (.aload_n 0, 1, 0, 0, 0, 0), some (.getfield 15, 3, 3, 1, 0, 0), none, none, some (.iload_n 2, 1, 0, 0, 0, 0), some (.iload 4, 2, 0, 0, 0, 0), none, some (.iastore, 1, 0, 0, 0, 0), some (.aload_n 0, 1, 0, 0, 0, 0), some (.getfield 18, 3, 3, 2, 0, 0), none, none, some (.iload_n 2, 1, 0, 0, 0, 0), some (.aload_n 0, 1, 0, 0, 0, 0), some (.getfield 28, 3, 3, 5, 0, 0), none, none, some (.iastore, 1, 0, 0, 0, 0), some (.iconst 1, 1, 0, 0, 0, 1), some (.ireturn, 1, 0, 0, 0, 0)]
def mX3_hear : dp_M := (RX3, yX3_hear, cX3_hear, 5, some .int, tX3_hear)
set_option maxRecDepth 20000 in
theorem okX3_hear : dp_ok mX3_hear := ⟨⟨fl_3, [], by decide +kernel, fun y h => ⟨(fl_3_ok y h).1, fun z => absurd z (fl_3_ok y h).2⟩, fun _ h => absurd h List.not_mem_nil⟩, rfl, dq_350, by decide +kernel, by decide +kernel, by decide +kernel, Nat.le_of_ble_eq_true rfl⟩
theorem npX3_hear : dp_np yX3_hear 4 := by unfold dp_np; decide +kernel
set_option maxRecDepth 20000 in
def tX3_heardOf : List (Option dp_In) := [some (.aload_n 0, 1, 0, 0, 0, 0), some (.getfield 21, 3, 3, 3, 0, 0), none, none, some (.iload_n 1, 1, 0, 0, 0, 0), some (.iconst 4, 1, 0, 0, 0, 4), some (.imul, 1, 0, 0, 0, 0), some (.iload_n 2, 1, 0, 0, 0, 0), some (.iadd, 1, 0, 0, 0, 0), some (.iaload, 1, 0, 0, 0, 0), some (.ireturn, 1, 0, 0, 0, 0)]
def mX3_heardOf : dp_M := (RX3, yX3_heardOf, cX3_heardOf, 3, some .int, tX3_heardOf)
set_option maxRecDepth 20000 in
theorem okX3_heardOf : dp_ok mX3_heardOf := ⟨⟨fl_3, [], by decide +kernel, fun y h => ⟨(fl_3_ok y h).1, fun z => absurd z (fl_3_ok y h).2⟩, fun _ h => absurd h List.not_mem_nil⟩, rfl, dq_354, by decide +kernel, by decide +kernel, by decide +kernel, Nat.le_of_ble_eq_true rfl⟩
theorem npX3_heardOf : dp_np yX3_heardOf 2 := by unfold dp_np; decide +kernel
set_option maxRecDepth 20000 in
def tX3_heardInAll : List (Option dp_In) := [some (.iconst 0, 1, 0, 0, 0, 0), some (.istore_n 2, 1, 0, 0, 0, 0), some (.iconst 0, 1, 0, 0, 0, 0), some (.istore_n 3, 1, 0, 0, 0, 0), some (.iload_n 3, 1, 0, 0, 0, 0), some (.iconst 4, 1, 0, 0, 0, 4), some (.if_icmp .ge 18, 3, 24, 0, 0, 0), none, none, some (.iload_n 2, 1, 0, 0, 0, 0), some (.aload_n 0, 1, 0, 0, 0, 0), some (.iload_n 1, 1, 0, 0, 0, 0), some (.iload_n 3, 1, 0, 0, 0, 0), some (.invokevirtual 93, 3, 0, 0, 0, 0), none, none, some (.iadd, 1, 0, 0, 0, 0), some (.istore_n 2, 1, 0, 0, 0, 0), some (.iinc 3 1, 3, 0, 0, 0, 1), none, none, some (.goto (-17), 3, 4, 0, 0, 0), none, none, some (.iload_n 2, 1, 0, 0, 0, 0), some (.ireturn, 1, 0, 0, 0, 0)]
def mX3_heardInAll : dp_M := (RX3, yX3_heardInAll, cX3_heardInAll, 4, some .int, tX3_heardInAll)
set_option maxRecDepth 20000 in
theorem okX3_heardInAll : dp_ok mX3_heardInAll := ⟨⟨fl_3, [], by decide +kernel, fun y h => ⟨(fl_3_ok y h).1, fun z => absurd z (fl_3_ok y h).2⟩, fun _ h => absurd h List.not_mem_nil⟩, rfl, dq_363, by decide +kernel, by decide +kernel, by decide +kernel, Nat.le_of_ble_eq_true rfl⟩
theorem npX3_heardInAll : dp_np yX3_heardInAll 1 := by unfold dp_np; decide +kernel
set_option maxRecDepth 20000 in
def tX3_right : List (Option dp_In) := [some (.iconst 0, 1, 0, 0, 0, 0), some (.istore_n 3, 1, 0, 0, 0, 0), some (.iconst 0, 1, 0, 0, 0, 0), some (.istore 4, 2, 0, 0, 0, 0), none, some (.iload 4, 2, 0, 0, 0, 0), none, some (.aload_n 1, 1, 0, 0, 0, 0), some (.getfield 52, 3, 2, 2, 1, 0), none, none, some (.if_icmp .ge 35, 3, 46, 0, 0, 0), none, none, some (.iload 4, 2, 0, 0, 0, 0), none, some (.iload_n 2, 1, 0, 0, 0, 0), some (.invokestatic 76, 3, 0, 0, 0, 0), none, none, some (.ifCond .eq 20, 3, 40, 0, 0, 0), none, none, some (.aload_n 0, 1, 0, 0, 0, 0), some (.getfield 15, 3, 3, 1, 0, 0), none, none, some (.iload 4, 2, 0, 0, 0, 0), none, some (.iaload, 1, 0, 0, 0, 0), some (.aload_n 1, 1, 0, 0, 0, 0), some (.getfield 49, 3, 2, 6, 1, 0), none, none, some (.if_icmp .ne 6, 3, 40, 0, 0, 0), none, none, some (.iinc 3 1, 3, 0, 0, 0, 1), none, none, some (.iinc 4 1, 3, 0, 0, 0, 1), none, none, some (.goto (-38), 3, 5, 0, 0, 0), none, none, some (.iload_n 3, 1, 0, 0, 0, 0), some (.ireturn, 1, 0, 0, 0, 0)]
def mX3_right : dp_M := (RX3, yX3_right, cX3_right, 5, some .int, tX3_right)
set_option maxRecDepth 20000 in
theorem okX3_right : dp_ok mX3_right := ⟨⟨fl_3, [], by decide +kernel, fun y h => ⟨(fl_3_ok y h).1, fun z => absurd z (fl_3_ok y h).2⟩, fun _ h => absurd h List.not_mem_nil⟩, rfl, dq_385, by decide +kernel, by decide +kernel, by decide +kernel, Nat.le_of_ble_eq_true rfl⟩
theorem npX3_right : dp_np yX3_right 2 := by unfold dp_np; decide +kernel
set_option maxRecDepth 20000 in
def tX3_misled : List (Option dp_In) := [some (.iconst 0, 1, 0, 0, 0, 0), some (.istore_n 3, 1, 0, 0, 0, 0), some (.iconst 0, 1, 0, 0, 0, 0), some (.istore 4, 2, 0, 0, 0, 0), none, some (.iload 4, 2, 0, 0, 0, 0), none, some (.aload_n 1, 1, 0, 0, 0, 0), some (.getfield 52, 3, 2, 2, 1, 0), none, none, some (.if_icmp .ge 47, 3, 58, 0, 0, 0), none, none, some (.iload 4, 2, 0, 0, 0, 0), none, some (.iload_n 2, 1, 0, 0, 0, 0), some (.invokestatic 76, 3, 0, 0, 0, 0), none, none, some (.ifCond .eq 32, 3, 52, 0, 0, 0), none, none, some (.aload_n 0, 1, 0, 0, 0, 0), some (.getfield 15, 3, 3, 1, 0, 0), none, none, some (.iload 4, 2, 0, 0, 0, 0), none, some (.iaload, 1, 0, 0, 0, 0), some (.bipush (-9), 2, 0, 0, 0, (-9)), none, some (.if_icmp .eq 20, 3, 52, 0, 0, 0), none, none, some (.aload_n 0, 1, 0, 0, 0, 0), some (.getfield 15, 3, 3, 1, 0, 0), none, none, some (.iload 4, 2, 0, 0, 0, 0), none, some (.iaload, 1, 0, 0, 0, 0), some (.aload_n 1, 1, 0, 0, 0, 0), some (.getfield 49, 3, 2, 6, 1, 0), none, none, some (.if_icmp .eq 6, 3, 52, 0, 0, 0), none, none, some (.iinc 3 1, 3, 0, 0, 0, 1), none, none, some (.iinc 4 1, 3, 0, 0, 0, 1), none, none, some (.goto (-50), 3, 5, 0, 0, 0), none, none, some (.iload_n 3, 1, 0, 0, 0, 0), some (.ireturn, 1, 0, 0, 0, 0)]
def mX3_misled : dp_M := (RX3, yX3_misled, cX3_misled, 5, some .int, tX3_misled)
set_option maxRecDepth 20000 in
theorem okX3_misled : dp_ok mX3_misled := ⟨⟨fl_3, [], by decide +kernel, fun y h => ⟨(fl_3_ok y h).1, fun z => absurd z (fl_3_ok y h).2⟩, fun _ h => absurd h List.not_mem_nil⟩, rfl, dq_389, by decide +kernel, by decide +kernel, by decide +kernel, Nat.le_of_ble_eq_true rfl⟩
theorem npX3_misled : dp_np yX3_misled 2 := by unfold dp_np; decide +kernel
set_option maxRecDepth 20000 in
def tX3_lastTake : List (Option dp_In) := [some (.bipush (-9), 2, 0, 0, 0, (-9)), none, some (.istore_n 3, 1, 0, 0, 0, 0), some (.iconst 0, 1, 0, 0, 0, 0), some (.istore 4, 2, 0, 0, 0, 0), none, some (.iload 4, 2, 0, 0, 0, 0), none, some (.aload_n 1, 1, 0, 0, 0, 0), some (.getfield 52, 3, 2, 2, 1, 0), none, none, some (.if_icmp .ge 45, 3, 57, 0, 0, 0), none, none, some (.iload 4, 2, 0, 0, 0, 0), none, some (.iload_n 2, 1, 0, 0, 0, 0), some (.invokestatic 76, 3, 0, 0, 0, 0), none, none, some (.ifCond .eq 30, 3, 51, 0, 0, 0), none, none, some (.aload_n 0, 1, 0, 0, 0, 0), some (.getfield 15, 3, 3, 1, 0, 0), none, none, some (.iload 4, 2, 0, 0, 0, 0), none, some (.iaload, 1, 0, 0, 0, 0), some (.bipush (-9), 2, 0, 0, 0, (-9)), none, some (.if_icmp .ne 6, 3, 39, 0, 0, 0), none, none, some (.bipush (-9), 2, 0, 0, 0, (-9)), none, some (.ireturn, 1, 0, 0, 0, 0), some (.iload_n 3, 1, 0, 0, 0, 0), some (.aload_n 0, 1, 0, 0, 0, 0), some (.getfield 18, 3, 3, 2, 0, 0), none, none, some (.iload 4, 2, 0, 0, 0, 0), none, some (.iaload, 1, 0, 0, 0, 0), some (.invokestatic 63, 3, 0, 0, 0, 0), none, none, some (.istore_n 3, 1, 0, 0, 0, 0), some (.iinc 4 1, 3, 0, 0, 0, 1), none, none, some (.goto (-48), 3, 6, 0, 0, 0), none, none, some (.iload_n 3, 1, 0, 0, 0, 0), some (.ireturn, 1, 0, 0, 0, 0)]
def mX3_lastTake : dp_M := (RX3, yX3_lastTake, cX3_lastTake, 5, some .int, tX3_lastTake)
set_option maxRecDepth 20000 in
theorem okX3_lastTake : dp_ok mX3_lastTake := ⟨⟨fl_3, [], by decide +kernel, fun y h => ⟨(fl_3_ok y h).1, fun z => absurd z (fl_3_ok y h).2⟩, fun _ h => absurd h List.not_mem_nil⟩, rfl, dq_393, by decide +kernel, by decide +kernel, by decide +kernel, Nat.le_of_ble_eq_true rfl⟩
theorem npX3_lastTake : dp_np yX3_lastTake 2 := by unfold dp_np; decide +kernel
set_option maxRecDepth 20000 in
def tX4_init : List (Option dp_In) := [some (.aload_n 0, 1, 0, 0, 0, 0), some (.invokespecial 1, 3, 0, 0, 0, 0), none, none, some (.return_, 1, 0, 0, 0, 0)]
def mX4_init : dp_M := (RX4, yX4_init, cX4_init, 1, none, tX4_init)
set_option maxRecDepth 20000 in
theorem okX4_init : dp_ok mX4_init := ⟨⟨fl_4 ++ ff_4, [], by decide +kernel, fun y h => ⟨(List.mem_append.mp h).elim (fun h => (fl_4_ok y h).1) (ff_4_ok y), fun _ => rfl⟩, fun _ h => absurd h List.not_mem_nil⟩, rfl, dq_157, by decide +kernel, by decide +kernel, by decide +kernel, Nat.le_of_ble_eq_true rfl⟩
theorem npX4_init : dp_np yX4_init 0 := by unfold dp_np; decide +kernel
set_option maxRecDepth 20000 in
def tX4_take : List (Option dp_In) := [some (.aload_n 0, 1, 0, 0, 0, 0), some (.iconst 0, 1, 0, 0, 0, 0), some (.putfield 7, 3, 4, 0, 2, 0), none, none, some (.aload_n 0, 1, 0, 0, 0, 0), some (.iconst 0, 1, 0, 0, 0, 0), some (.putfield 13, 3, 4, 1, 2, 0), none, none, some (.aload_n 0, 1, 0, 0, 0, 0), some (.iconst 0, 1, 0, 0, 0, 0), some (.putfield 16, 3, 4, 2, 2, 0), none, none, some (.aload_n 0, 1, 0, 0, 0, 0), some (.iconst 0, 1, 0, 0, 0, 0), some (.putfield 19, 3, 4, 3, 2, 0), none, none, some (.iconst 0, 1, 0, 0, 0, 0), some (.istore_n 2, 1, 0, 0, 0, 0), some (.iload_n 2, 1, 0, 0, 0, 0), some (.aload_n 1, 1, 0, 0, 0, 0), some (.invokevirtual 22, 3, 0, 0, 0, 0), none, none, some (.if_icmp .gt 43, 3, 70, 0, 0, 0), none, none, some (.aload_n 1, 1, 0, 0, 0, 0), some (.iload_n 2, 1, 0, 0, 0, 0), some (.invokevirtual 28, 3, 0, 0, 0, 0), none, none, some (.ifCond .eq 29, 3, 64, 0, 0, 0), none, none, some (.aload_n 1, 1, 0, 0, 0, 0), some (.iload_n 2, 1, 0, 0, 0, 0), some (.aload_n 1, 1, 0, 0, 0, 0), some (.getfield 32, 3, 2, 7, 1, 0), none, none, some (.invokevirtual 35, 3, 0, 0, 0, 0), none, none, some (.ifCond .eq 17, 3, 64, 0, 0, 0), none, none, some (.aload_n 0, 1, 0, 0, 0, 0), some (.iload_n 2, 1, 0, 0, 0, 0), some (.aload_n 1, 1, 0, 0, 0, 0), some (.iload_n 2, 1, 0, 0, 0, 0), some (.aload_n 1, 1, 0, 0, 0, 0), some (.getfield 32, 3, 2, 7, 1, 0), none, none, some (.invokevirtual 39, 3, 0, 0, 0, 0), none, none, some (.invokevirtual 43, 3, 0, 0, 0, 0), none, none, some (.iinc 2 1, 3, 0, 0, 0, 1), none, none, some (.goto (-45), 3, 22, 0, 0, 0), none, none, some (.return_, 1, 0, 0, 0, 0)]
def mX4_take : dp_M := (RX4, yX4_take, cX4_take, 3, none, tX4_take)
set_option maxRecDepth 20000 in
theorem okX4_take : dp_ok mX4_take := ⟨⟨fl_4, [], by decide +kernel, fun y h => ⟨(fl_4_ok y h).1, fun z => absurd z (fl_4_ok y h).2⟩, fun _ h => absurd h List.not_mem_nil⟩, rfl, dq_444, by decide +kernel, by decide +kernel, by decide +kernel, Nat.le_of_ble_eq_true rfl⟩
theorem npX4_take : dp_np yX4_take 1 := by unfold dp_np; decide +kernel
set_option maxRecDepth 20000 in
def tX4_weigh : List (Option dp_In) := [some (.aload_n 0, 1, 0, 0, 0, 0), some (.dup, 1, 0, 0, 0, 0), some (.getfield 16, 3, 4, 2, 0, 0), none, none, some (.iconst 1, 1, 0, 0, 0, 1), some (.iadd, 1, 0, 0, 0, 0), some (.putfield 16, 3, 4, 2, 2, 0), none, none, some (.iload_n 2, 1, 0, 0, 0, 0), some (.ifCond .eq 13, 3, 24, 0, 0, 0), none, none, some (.aload_n 0, 1, 0, 0, 0, 0), some (.dup, 1, 0, 0, 0, 0), some (.getfield 19, 3, 4, 3, 0, 0), none, none, some (.iconst 1, 1, 0, 0, 0, 1), some (.iadd, 1, 0, 0, 0, 0), some (.putfield 19, 3, 4, 3, 2, 0), none, none, some (.iload_n 2, 1, 0, 0, 0, 0), some (.invokestatic 47, 3, 0, 0, 0, 0), none, none, some (.aload_n 0, 1, 0, 0, 0, 0), some (.getfield 13, 3, 4, 1, 0, 0), none, none, some (.invokestatic 47, 3, 0, 0, 0, 0), none, none, some (.isub, 1, 0, 0, 0, 0), some (.istore_n 3, 1, 0, 0, 0, 0), some (.aload_n 0, 1, 0, 0, 0, 0), some (.getfield 7, 3, 4, 0, 0, 0), none, none, some (.invokestatic 47, 3, 0, 0, 0, 0), none, none, some (.iload_n 1, 1, 0, 0, 0, 0), some (.invokestatic 47, 3, 0, 0, 0, 0), none, none, some (.isub, 1, 0, 0, 0, 0), some (.istore 4, 2, 0, 0, 0, 0), none, some (.iload_n 3, 1, 0, 0, 0, 0), some (.ifCond .gt 12, 3, 64, 0, 0, 0), none, none, some (.iload_n 3, 1, 0, 0, 0, 0), some (.ifCond .ne 18, 3, 74, 0, 0, 0), none, none, some (.iload 4, 2, 0, 0, 0, 0), none, some (.ifCond .le 13, 3, 74, 0, 0, 0), none, none, some (.aload_n 0, 1, 0, 0, 0, 0), some (.iload_n 1, 1, 0, 0, 0, 0), some (.putfield 7, 3, 4, 0, 2, 0), none, none, some (.aload_n 0, 1, 0, 0, 0, 0), some (.iload_n 2, 1, 0, 0, 0, 0), some (.putfield 13, 3, 4, 1, 2, 0), none, none, some (.return_, 1, 0, 0, 0, 0)]
def mX4_weigh : dp_M := (RX4, yX4_weigh, cX4_weigh, 5, none, tX4_weigh)
set_option maxRecDepth 20000 in
theorem okX4_weigh : dp_ok mX4_weigh := ⟨⟨fl_4, [], by decide +kernel, fun y h => ⟨(fl_4_ok y h).1, fun z => absurd z (fl_4_ok y h).2⟩, fun _ h => absurd h List.not_mem_nil⟩, rfl, dq_452, by decide +kernel, by decide +kernel, by decide +kernel, Nat.le_of_ble_eq_true rfl⟩
theorem npX4_weigh : dp_np yX4_weigh 2 := by unfold dp_np; decide +kernel
set_option maxRecDepth 20000 in
def tX5_init : List (Option dp_In) := [some (.aload_n 0, 1, 0, 0, 0, 0), some (.invokespecial 1, 3, 0, 0, 0, 0), none, none, some (.aload_n 0, 1, 0, 0, 0, 0), some (.new 7, 3, 0, 0, 0, 0), none, none, some (.dup, 1, 0, 0, 0, 0), some (.invokespecial 9, 3, 0, 0, 0, 0), none, none, some (.putfield 10, 3, 5, 0, 4, 0), none, none, some (.aload_n 0, 1, 0, 0, 0, 0), some (.new 16, 3, 0, 0, 0, 0), none, none, some (.dup, 1, 0, 0, 0, 0), some (.invokespecial 18, 3, 0, 0, 0, 0), none, none, some (.putfield 19, 3, 5, 1, 4, 0), none, none, some (.aload_n 0, 1, 0, 0, 0, 0), some (.new 23, 3, 0, 0, 0, 0), none, none, some (.dup, 1, 0, 0, 0, 0), some (.invokespecial 25, 3, 0, 0, 0, 0), none, none, some (.putfield 26, 3, 5, 2, 4, 0), none, none, some (.aload_n 0, 1, 0, 0, 0, 0), some (.new 30, 3, 0, 0, 0, 0), none, none, some (.dup, 1, 0, 0, 0, 0), some (.invokespecial 32, 3, 0, 0, 0, 0), none, none, some (.putfield 33, 3, 5, 3, 4, 0), none, none, some (.aload_n 0, 1, 0, 0, 0, 0), some (.new 37, 3, 0, 0, 0, 0), none, none, some (.dup, 1, 0, 0, 0, 0), some (.invokespecial 39, 3, 0, 0, 0, 0), none, none, some (.putfield 40, 3, 5, 4, 4, 0), none, none, some (.aload_n 0, 1, 0, 0, 0, 0), some (.getfield 19, 3, 5, 1, 0, 0), none, none, some (.aload_n 0, 1, 0, 0, 0, 0), some (.getfield 10, 3, 5, 0, 0, 0), none, none, some (.invokevirtual 44, 3, 0, 0, 0, 0), none, none, some (.return_, 1, 0, 0, 0, 0)]
def mX5_init : dp_M := (RX5, yX5_init, cX5_init, 1, none, tX5_init)
set_option maxRecDepth 20000 in
theorem okX5_init : dp_ok mX5_init := ⟨⟨fl_5 ++ ff_5, [], by decide +kernel, fun y h => ⟨(List.mem_append.mp h).elim (fun h => (fl_5_ok y h).1) (ff_5_ok y), fun _ => rfl⟩, fun _ h => absurd h List.not_mem_nil⟩, rfl, dq_54, by decide +kernel, by decide +kernel, by decide +kernel, Nat.le_of_ble_eq_true rfl⟩
theorem npX5_init : dp_np yX5_init 0 := by unfold dp_np; decide +kernel
set_option maxRecDepth 20000 in
def tX5_net : List (Option dp_In) := [some (.iload_n 1, 1, 0, 0, 0, 0), some (.iconst 2, 1, 0, 0, 0, 2), some (.if_icmp .lt 9, 3, 11, 0, 0, 0), none, none, some (.iload_n 1, 1, 0, 0, 0, 0), some (.bipush 12, 2, 0, 0, 0, 12), none, some (.if_icmp .le 6, 3, 14, 0, 0, 0), none, none, some (.bipush (-2), 2, 0, 0, 0, (-2)), none, some (.ireturn, 1, 0, 0, 0, 0), some (.aload_n 0, 1, 0, 0, 0, 0), some (.iload_n 1, 1, 0, 0, 0, 0), some (.iconst 1, 1, 0, 0, 0, 1), some (.iconst 0, 1, 0, 0, 0, 0), some (.invokevirtual 48, 3, 0, 0, 0, 0), none, none, some (.ireturn, 1, 0, 0, 0, 0)]
def mX5_net : dp_M := (RX5, yX5_net, cX5_net, 2, some .int, tX5_net)
set_option maxRecDepth 20000 in
theorem okX5_net : dp_ok mX5_net := ⟨⟨fl_5, [], by decide +kernel, fun y h => ⟨(fl_5_ok y h).1, fun z => absurd z (fl_5_ok y h).2⟩, fun _ h => absurd h List.not_mem_nil⟩, rfl, dq_276, by decide +kernel, by decide +kernel, by decide +kernel, Nat.le_of_ble_eq_true rfl⟩
theorem npX5_net : dp_np yX5_net 1 := by unfold dp_np; decide +kernel
set_option maxRecDepth 20000 in
def tX5_grid : List (Option dp_In) := [some (.iload_n 1, 1, 0, 0, 0, 0), some (.iconst 1, 1, 0, 0, 0, 1), some (.if_icmp .lt 20, 3, 22, 0, 0, 0), none, none, some (.iload_n 1, 1, 0, 0, 0, 0), some (.bipush 12, 2, 0, 0, 0, 12), none, some (.if_icmp .gt 14, 3, 22, 0, 0, 0), none, none, some (.iload_n 2, 1, 0, 0, 0, 0), some (.iconst 1, 1, 0, 0, 0, 1), some (.if_icmp .lt 9, 3, 22, 0, 0, 0), none, none, some (.iload_n 2, 1, 0, 0, 0, 0), some (.bipush 12, 2, 0, 0, 0, 12), none, some (.if_icmp .le 6, 3, 25, 0, 0, 0), none, none, some (.bipush (-2), 2, 0, 0, 0, (-2)), none, some (.ireturn, 1, 0, 0, 0, 0), some (.iload_n 1, 1, 0, 0, 0, 0), some (.iload_n 2, 1, 0, 0, 0, 0), some (.imul, 1, 0, 0, 0, 0), some (.iconst 2, 1, 0, 0, 0, 2), some (.if_icmp .lt 21, 3, 50, 0, 0, 0), none, none, some (.iload_n 1, 1, 0, 0, 0, 0), some (.iload_n 2, 1, 0, 0, 0, 0), some (.imul, 1, 0, 0, 0, 0), some (.bipush 12, 2, 0, 0, 0, 12), none, some (.if_icmp .gt 13, 3, 50, 0, 0, 0), none, none, some (.iload_n 3, 1, 0, 0, 0, 0), some (.iconst 1, 1, 0, 0, 0, 1), some (.if_icmp .lt 8, 3, 50, 0, 0, 0), none, none, some (.iload_n 3, 1, 0, 0, 0, 0), some (.iconst 3, 1, 0, 0, 0, 3), some (.if_icmp .le 6, 3, 53, 0, 0, 0), none, none, some (.bipush (-2), 2, 0, 0, 0, (-2)), none, some (.ireturn, 1, 0, 0, 0, 0), some (.aload_n 0, 1, 0, 0, 0, 0), some (.iload_n 1, 1, 0, 0, 0, 0), some (.iload_n 2, 1, 0, 0, 0, 0), some (.iload_n 3, 1, 0, 0, 0, 0), some (.invokevirtual 48, 3, 0, 0, 0, 0), none, none, some (.ireturn, 1, 0, 0, 0, 0)]
def mX5_grid : dp_M := (RX5, yX5_grid, cX5_grid, 4, some .int, tX5_grid)
set_option maxRecDepth 20000 in
theorem okX5_grid : dp_ok mX5_grid := ⟨⟨fl_5, [], by decide +kernel, fun y h => ⟨(fl_5_ok y h).1, fun z => absurd z (fl_5_ok y h).2⟩, fun _ h => absurd h List.not_mem_nil⟩, rfl, dq_297, by decide +kernel, by decide +kernel, by decide +kernel, Nat.le_of_ble_eq_true rfl⟩
theorem npX5_grid : dp_np yX5_grid 3 := by unfold dp_np; decide +kernel
set_option maxRecDepth 20000 in
def tX5_edge : List (Option dp_In) := [some (.aload_n 0, 1, 0, 0, 0, 0), some (.getfield 10, 3, 5, 0, 0, 0), none, none, some (.iload_n 1, 1, 0, 0, 0, 0), some (.invokevirtual 52, 3, 0, 0, 0, 0), none, none, some (.ifCond .eq 14, 3, 22, 0, 0, 0), none, none, some (.aload_n 0, 1, 0, 0, 0, 0), some (.getfield 10, 3, 5, 0, 0, 0), none, none, some (.iload_n 2, 1, 0, 0, 0, 0), some (.invokevirtual 52, 3, 0, 0, 0, 0), none, none, some (.ifCond .ne 5, 3, 24, 0, 0, 0), none, none, some (.iconst (-1), 1, 0, 0, 0, (-1)), some (.ireturn, 1, 0, 0, 0, 0), some (.iload_n 3, 1, 0, 0, 0, 0), some (.ifCond .lt 8, 3, 33, 0, 0, 0), none, none, some (.iload_n 3, 1, 0, 0, 0, 0), some (.iconst 1, 1, 0, 0, 0, 1), some (.if_icmp .le 6, 3, 36, 0, 0, 0), none, none, some (.bipush (-2), 2, 0, 0, 0, (-2)), none, some (.ireturn, 1, 0, 0, 0, 0), some (.iload_n 1, 1, 0, 0, 0, 0), some (.iload_n 2, 1, 0, 0, 0, 0), some (.if_icmp .ne 6, 3, 44, 0, 0, 0), none, none, some (.bipush (-3), 2, 0, 0, 0, (-3)), none, some (.ireturn, 1, 0, 0, 0, 0), some (.aload_n 0, 1, 0, 0, 0, 0), some (.getfield 10, 3, 5, 0, 0, 0), none, none, some (.iload_n 1, 1, 0, 0, 0, 0), some (.iload_n 2, 1, 0, 0, 0, 0), some (.invokevirtual 56, 3, 0, 0, 0, 0), none, none, some (.ifCond .eq 7, 3, 60, 0, 0, 0), none, none, some (.iconst 1, 1, 0, 0, 0, 1), some (.goto 4, 3, 61, 0, 0, 0), none, none, some (.iconst 0, 1, 0, 0, 0, 0), some (.istore 4, 2, 0, 0, 0, 0), none, some (.aload_n 0, 1, 0, 0, 0, 0), some (.getfield 10, 3, 5, 0, 0, 0), none, none, some (.iload_n 1, 1, 0, 0, 0, 0), some (.iload_n 2, 1, 0, 0, 0, 0), some (.iload_n 3, 1, 0, 0, 0, 0), some (.iconst 1, 1, 0, 0, 0, 1), some (.if_icmp .ne 7, 3, 78, 0, 0, 0), none, none, some (.iconst 1, 1, 0, 0, 0, 1), some (.goto 4, 3, 79, 0, 0, 0), none, none, some (.iconst 0, 1, 0, 0, 0, 0), some (.invokevirtual 60, 3, 0, 0, 0, 0), none, none, some (.aload_n 0, 1, 0, 0, 0, 0), some (.getfield 40, 3, 5, 4, 0, 0), none, none, some (.invokevirtual 64, 3, 0, 0, 0, 0), none, none, some (.aload_n 0, 1, 0, 0, 0, 0), some (.getfield 19, 3, 5, 1, 0, 0), none, none, some (.aload_n 0, 1, 0, 0, 0, 0), some (.getfield 10, 3, 5, 0, 0, 0), none, none, some (.invokevirtual 44, 3, 0, 0, 0, 0), none, none, some (.iload 4, 2, 0, 0, 0, 0), none, some (.ireturn, 1, 0, 0, 0, 0)]
def mX5_edge : dp_M := (RX5, yX5_edge, cX5_edge, 5, some .int, tX5_edge)
set_option maxRecDepth 20000 in
theorem okX5_edge : dp_ok mX5_edge := ⟨⟨fl_5, [], by decide +kernel, fun y h => ⟨(fl_5_ok y h).1, fun z => absurd z (fl_5_ok y h).2⟩, fun _ h => absurd h List.not_mem_nil⟩, rfl, dq_301, by decide +kernel, by decide +kernel, by decide +kernel, Nat.le_of_ble_eq_true rfl⟩
theorem npX5_edge : dp_np yX5_edge 3 := by unfold dp_np; decide +kernel
set_option maxRecDepth 20000 in
def tX5_neighbours : List (Option dp_In) := [some (.aload_n 0, 1, 0, 0, 0, 0), some (.getfield 10, 3, 5, 0, 0, 0), none, none, some (.iload_n 1, 1, 0, 0, 0, 0), some (.invokevirtual 52, 3, 0, 0, 0, 0), none, none, some (.ifCond .eq 15, 3, 23, 0, 0, 0), none, none, some (.aload_n 0, 1, 0, 0, 0, 0), some (.getfield 10, 3, 5, 0, 0, 0), none, none, some (.getfield 67, 3, 2, 0, 1, 0), none, none, some (.iload_n 1, 1, 0, 0, 0, 0), some (.iaload, 1, 0, 0, 0, 0), some (.goto 4, 3, 24, 0, 0, 0), none, none, some (.iconst (-1), 1, 0, 0, 0, (-1)), some (.ireturn, 1, 0, 0, 0, 0)]
def mX5_neighbours : dp_M := (RX5, yX5_neighbours, cX5_neighbours, 2, some .int, tX5_neighbours)
set_option maxRecDepth 20000 in
theorem okX5_neighbours : dp_ok mX5_neighbours := ⟨⟨fl_5, [], by decide +kernel, fun y h => ⟨(fl_5_ok y h).1, fun z => absurd z (fl_5_ok y h).2⟩, fun _ h => absurd h List.not_mem_nil⟩, rfl, dq_314, by decide +kernel, by decide +kernel, by decide +kernel, Nat.le_of_ble_eq_true rfl⟩
theorem npX5_neighbours : dp_np yX5_neighbours 1 := by unfold dp_np; decide +kernel
set_option maxRecDepth 20000 in
def tX5_dealer : List (Option dp_In) := [some (.aload_n 0, 1, 0, 0, 0, 0), some (.getfield 10, 3, 5, 0, 0, 0), none, none, some (.iload_n 1, 1, 0, 0, 0, 0), some (.invokevirtual 52, 3, 0, 0, 0, 0), none, none, some (.ifCond .ne 5, 3, 13, 0, 0, 0), none, none, some (.iconst (-1), 1, 0, 0, 0, (-1)), some (.ireturn, 1, 0, 0, 0, 0), some (.iload_n 2, 1, 0, 0, 0, 0), some (.invokestatic 71, 3, 0, 0, 0, 0), none, none, some (.ifCond .ne 6, 3, 23, 0, 0, 0), none, none, some (.bipush (-2), 2, 0, 0, 0, (-2)), none, some (.ireturn, 1, 0, 0, 0, 0), some (.aload_n 0, 1, 0, 0, 0, 0), some (.getfield 10, 3, 5, 0, 0, 0), none, none, some (.getfield 74, 3, 2, 5, 1, 0), none, none, some (.istore_n 3, 1, 0, 0, 0, 0), some (.aload_n 0, 1, 0, 0, 0, 0), some (.getfield 10, 3, 5, 0, 0, 0), none, none, some (.iload_n 1, 1, 0, 0, 0, 0), some (.putfield 74, 3, 2, 5, 3, 0), none, none, some (.aload_n 0, 1, 0, 0, 0, 0), some (.getfield 10, 3, 5, 0, 0, 0), none, none, some (.iload_n 2, 1, 0, 0, 0, 0), some (.putfield 78, 3, 2, 6, 3, 0), none, none, some (.aload_n 0, 1, 0, 0, 0, 0), some (.getfield 10, 3, 5, 0, 0, 0), none, none, some (.getfield 81, 3, 2, 1, 1, 0), none, none, some (.iload_n 1, 1, 0, 0, 0, 0), some (.bipush (-9), 2, 0, 0, 0, (-9)), none, some (.iastore, 1, 0, 0, 0, 0), some (.aload_n 0, 1, 0, 0, 0, 0), some (.getfield 40, 3, 5, 4, 0, 0), none, none, some (.invokevirtual 64, 3, 0, 0, 0, 0), none, none, some (.aload_n 0, 1, 0, 0, 0, 0), some (.getfield 19, 3, 5, 1, 0, 0), none, none, some (.aload_n 0, 1, 0, 0, 0, 0), some (.getfield 10, 3, 5, 0, 0, 0), none, none, some (.invokevirtual 44, 3, 0, 0, 0, 0), none, none, some (.iload_n 3, 1, 0, 0, 0, 0), some (.ireturn, 1, 0, 0, 0, 0)]
def mX5_dealer : dp_M := (RX5, yX5_dealer, cX5_dealer, 4, some .int, tX5_dealer)
set_option maxRecDepth 20000 in
theorem okX5_dealer : dp_ok mX5_dealer := ⟨⟨fl_5, [], by decide +kernel, fun y h => ⟨(fl_5_ok y h).1, fun z => absurd z (fl_5_ok y h).2⟩, fun _ h => absurd h List.not_mem_nil⟩, rfl, dq_318, by decide +kernel, by decide +kernel, by decide +kernel, Nat.le_of_ble_eq_true rfl⟩
theorem npX5_dealer : dp_np yX5_dealer 2 := by unfold dp_np; decide +kernel
set_option maxRecDepth 20000 in
def tX5_need : List (Option dp_In) := [some (.iload_n 1, 1, 0, 0, 0, 0), some (.iconst 1, 1, 0, 0, 0, 1), some (.if_icmp .lt 9, 3, 11, 0, 0, 0), none, none, some (.iload_n 1, 1, 0, 0, 0, 0), some (.bipush 6, 2, 0, 0, 0, 6), none, some (.if_icmp .le 6, 3, 14, 0, 0, 0), none, none, some (.bipush (-2), 2, 0, 0, 0, (-2)), none, some (.ireturn, 1, 0, 0, 0, 0), some (.aload_n 0, 1, 0, 0, 0, 0), some (.getfield 10, 3, 5, 0, 0, 0), none, none, some (.getfield 84, 3, 2, 7, 1, 0), none, none, some (.istore_n 2, 1, 0, 0, 0, 0), some (.aload_n 0, 1, 0, 0, 0, 0), some (.getfield 10, 3, 5, 0, 0, 0), none, none, some (.iload_n 1, 1, 0, 0, 0, 0), some (.putfield 84, 3, 2, 7, 3, 0), none, none, some (.aload_n 0, 1, 0, 0, 0, 0), some (.getfield 19, 3, 5, 1, 0, 0), none, none, some (.aload_n 0, 1, 0, 0, 0, 0), some (.getfield 10, 3, 5, 0, 0, 0), none, none, some (.invokevirtual 44, 3, 0, 0, 0, 0), none, none, some (.iload_n 2, 1, 0, 0, 0, 0), some (.ireturn, 1, 0, 0, 0, 0)]
def mX5_need : dp_M := (RX5, yX5_need, cX5_need, 3, some .int, tX5_need)
set_option maxRecDepth 20000 in
theorem okX5_need : dp_ok mX5_need := ⟨⟨fl_5, [], by decide +kernel, fun y h => ⟨(fl_5_ok y h).1, fun z => absurd z (fl_5_ok y h).2⟩, fun _ h => absurd h List.not_mem_nil⟩, rfl, dq_325, by decide +kernel, by decide +kernel, by decide +kernel, Nat.le_of_ble_eq_true rfl⟩
theorem npX5_need : dp_np yX5_need 1 := by unfold dp_np; decide +kernel
set_option maxRecDepth 20000 in
def tX5_lie : List (Option dp_In) := [some (.aload_n 0, 1, 0, 0, 0, 0), some (.getfield 10, 3, 5, 0, 0, 0), none, none, some (.iload_n 1, 1, 0, 0, 0, 0), some (.invokevirtual 52, 3, 0, 0, 0, 0), none, none, some (.ifCond .ne 5, 3, 13, 0, 0, 0), none, none, some (.iconst (-1), 1, 0, 0, 0, (-1)), some (.ireturn, 1, 0, 0, 0, 0), some (.iload_n 2, 1, 0, 0, 0, 0), some (.invokestatic 71, 3, 0, 0, 0, 0), none, none, some (.ifCond .ne 17, 3, 34, 0, 0, 0), none, none, some (.iload_n 2, 1, 0, 0, 0, 0), some (.iconst 4, 1, 0, 0, 0, 4), some (.if_icmp .eq 12, 3, 34, 0, 0, 0), none, none, some (.iload_n 2, 1, 0, 0, 0, 0), some (.bipush (-9), 2, 0, 0, 0, (-9)), none, some (.if_icmp .eq 6, 3, 34, 0, 0, 0), none, none, some (.bipush (-2), 2, 0, 0, 0, (-2)), none, some (.ireturn, 1, 0, 0, 0, 0), some (.iload_n 1, 1, 0, 0, 0, 0), some (.aload_n 0, 1, 0, 0, 0, 0), some (.getfield 10, 3, 5, 0, 0, 0), none, none, some (.getfield 74, 3, 2, 5, 1, 0), none, none, some (.if_icmp .ne 6, 3, 48, 0, 0, 0), none, none, some (.bipush (-3), 2, 0, 0, 0, (-3)), none, some (.ireturn, 1, 0, 0, 0, 0), some (.aload_n 0, 1, 0, 0, 0, 0), some (.getfield 10, 3, 5, 0, 0, 0), none, none, some (.getfield 81, 3, 2, 1, 1, 0), none, none, some (.iload_n 1, 1, 0, 0, 0, 0), some (.iaload, 1, 0, 0, 0, 0), some (.istore_n 3, 1, 0, 0, 0, 0), some (.aload_n 0, 1, 0, 0, 0, 0), some (.getfield 10, 3, 5, 0, 0, 0), none, none, some (.getfield 81, 3, 2, 1, 1, 0), none, none, some (.iload_n 1, 1, 0, 0, 0, 0), some (.iload_n 2, 1, 0, 0, 0, 0), some (.iastore, 1, 0, 0, 0, 0), some (.aload_n 0, 1, 0, 0, 0, 0), some (.getfield 19, 3, 5, 1, 0, 0), none, none, some (.aload_n 0, 1, 0, 0, 0, 0), some (.getfield 10, 3, 5, 0, 0, 0), none, none, some (.invokevirtual 44, 3, 0, 0, 0, 0), none, none, some (.iload_n 3, 1, 0, 0, 0, 0), some (.ireturn, 1, 0, 0, 0, 0)]
def mX5_lie : dp_M := (RX5, yX5_lie, cX5_lie, 4, some .int, tX5_lie)
set_option maxRecDepth 20000 in
theorem okX5_lie : dp_ok mX5_lie := ⟨⟨fl_5, [], by decide +kernel, fun y h => ⟨(fl_5_ok y h).1, fun z => absurd z (fl_5_ok y h).2⟩, fun _ h => absurd h List.not_mem_nil⟩, rfl, dq_329, by decide +kernel, by decide +kernel, by decide +kernel, Nat.le_of_ble_eq_true rfl⟩
theorem npX5_lie : dp_np yX5_lie 2 := by unfold dp_np; decide +kernel
set_option maxRecDepth 20000 in
def tX5_begin : List (Option dp_In) := [some (.aload_n 0, 1, 0, 0, 0, 0), some (.getfield 19, 3, 5, 1, 0, 0), none, none, some (.getfield 87, 3, 3, 5, 1, 0), none, none, some (.istore_n 1, 1, 0, 0, 0, 0), some (.aload_n 0, 1, 0, 0, 0, 0), some (.getfield 19, 3, 5, 1, 0, 0), none, none, some (.aload_n 0, 1, 0, 0, 0, 0), some (.getfield 10, 3, 5, 0, 0, 0), none, none, some (.invokevirtual 44, 3, 0, 0, 0, 0), none, none, some (.iload_n 1, 1, 0, 0, 0, 0), some (.ireturn, 1, 0, 0, 0, 0)]
def mX5_begin : dp_M := (RX5, yX5_begin, cX5_begin, 2, some .int, tX5_begin)
set_option maxRecDepth 20000 in
theorem okX5_begin : dp_ok mX5_begin := ⟨⟨fl_5, [], by decide +kernel, fun y h => ⟨(fl_5_ok y h).1, fun z => absurd z (fl_5_ok y h).2⟩, fun _ h => absurd h List.not_mem_nil⟩, rfl, dq_333, by decide +kernel, by decide +kernel, by decide +kernel, Nat.le_of_ble_eq_true rfl⟩
theorem npX5_begin : dp_np yX5_begin 0 := by unfold dp_np; decide +kernel
set_option maxRecDepth 20000 in
def tX5_ticks : List (Option dp_In) := [some (.iload_n 1, 1, 0, 0, 0, 0), some (.ifCond .lt 9, 3, 10, 0, 0, 0), none, none, some (.iload_n 1, 1, 0, 0, 0, 0), some (.bipush 100, 2, 0, 0, 0, 100), none, some (.if_icmp .le 6, 3, 13, 0, 0, 0), none, none, some (.bipush (-2), 2, 0, 0, 0, (-2)), none, some (.ireturn, 1, 0, 0, 0, 0), some (.iconst 0, 1, 0, 0, 0, 0), some (.istore_n 2, 1, 0, 0, 0, 0), some (.iconst 0, 1, 0, 0, 0, 0), some (.istore_n 3, 1, 0, 0, 0, 0), some (.iload_n 3, 1, 0, 0, 0, 0), some (.iload_n 1, 1, 0, 0, 0, 0), some (.if_icmp .ge 23, 3, 42, 0, 0, 0), none, none, some (.iload_n 2, 1, 0, 0, 0, 0), some (.aload_n 0, 1, 0, 0, 0, 0), some (.getfield 19, 3, 5, 1, 0, 0), none, none, some (.aload_n 0, 1, 0, 0, 0, 0), some (.getfield 10, 3, 5, 0, 0, 0), none, none, some (.invokevirtual 90, 3, 0, 0, 0, 0), none, none, some (.iadd, 1, 0, 0, 0, 0), some (.istore_n 2, 1, 0, 0, 0, 0), some (.iinc 3 1, 3, 0, 0, 0, 1), none, none, some (.goto (-22), 3, 17, 0, 0, 0), none, none, some (.iload_n 2, 1, 0, 0, 0, 0), some (.ireturn, 1, 0, 0, 0, 0)]
def mX5_ticks : dp_M := (RX5, yX5_ticks, cX5_ticks, 4, some .int, tX5_ticks)
set_option maxRecDepth 20000 in
theorem okX5_ticks : dp_ok mX5_ticks := ⟨⟨fl_5, [], by decide +kernel, fun y h => ⟨(fl_5_ok y h).1, fun z => absurd z (fl_5_ok y h).2⟩, fun _ h => absurd h List.not_mem_nil⟩, rfl, dq_337, by decide +kernel, by decide +kernel, by decide +kernel, Nat.le_of_ble_eq_true rfl⟩
theorem npX5_ticks : dp_np yX5_ticks 1 := by unfold dp_np; decide +kernel
set_option maxRecDepth 20000 in
def tX5_node : List (Option dp_In) := [some (.aload_n 0, 1, 0, 0, 0, 0), some (.getfield 10, 3, 5, 0, 0, 0), none, none, some (.iload_n 1, 1, 0, 0, 0, 0), some (.invokevirtual 52, 3, 0, 0, 0, 0), none, none, some (.ifCond .ne 5, 3, 13, 0, 0, 0), none, none, some (.iconst (-1), 1, 0, 0, 0, (-1)), some (.ireturn, 1, 0, 0, 0, 0), some (.iload_n 2, 1, 0, 0, 0, 0), some (.bipush 10, 2, 0, 0, 0, 10), none, some (.if_icmp .lt 22, 3, 38, 0, 0, 0), none, none, some (.iload_n 2, 1, 0, 0, 0, 0), some (.bipush 14, 2, 0, 0, 0, 14), none, some (.if_icmp .ge 16, 3, 38, 0, 0, 0), none, none, some (.aload_n 0, 1, 0, 0, 0, 0), some (.getfield 19, 3, 5, 1, 0, 0), none, none, some (.iload_n 1, 1, 0, 0, 0, 0), some (.iload_n 2, 1, 0, 0, 0, 0), some (.bipush 10, 2, 0, 0, 0, 10), none, some (.isub, 1, 0, 0, 0, 0), some (.invokevirtual 94, 3, 0, 0, 0, 0), none, none, some (.ireturn, 1, 0, 0, 0, 0), some (.iload_n 2, 1, 0, 0, 0, 0), some (.tableswitch 84 0 4 #[33, 43, 53, 63, 72], 33, 0, 0, 0, 0), none, none, none, none, none, none, none, none, none, none, none, none, none, none, none, none, none, none, none, none, none, none, none, none, none, none, none, none, none, none, none, none, some (.aload_n 0, 1, 0, 0, 0, 0), some (.getfield 19, 3, 5, 1, 0, 0), none, none, some (.getfield 98, 3, 3, 0, 1, 0), none, none, some (.iload_n 1, 1, 0, 0, 0, 0), some (.iaload, 1, 0, 0, 0, 0), some (.ireturn, 1, 0, 0, 0, 0), some (.aload_n 0, 1, 0, 0, 0, 0), some (.getfield 19, 3, 5, 1, 0, 0), none, none, some (.getfield 101, 3, 3, 1, 1, 0), none, none, some (.iload_n 1, 1, 0, 0, 0, 0), some (.iaload, 1, 0, 0, 0, 0), some (.ireturn, 1, 0, 0, 0, 0), some (.aload_n 0, 1, 0, 0, 0, 0), some (.getfield 19, 3, 5, 1, 0, 0), none, none, some (.getfield 104, 3, 3, 2, 1, 0), none, none, some (.iload_n 1, 1, 0, 0, 0, 0), some (.iaload, 1, 0, 0, 0, 0), some (.ireturn, 1, 0, 0, 0, 0), some (.aload_n 0, 1, 0, 0, 0, 0), some (.getfield 19, 3, 5, 1, 0, 0), none, none, some (.iload_n 1, 1, 0, 0, 0, 0), some (.invokevirtual 107, 3, 0, 0, 0, 0), none, none, some (.ireturn, 1, 0, 0, 0, 0), some (.aload_n 0, 1, 0, 0, 0, 0), some (.getfield 19, 3, 5, 1, 0, 0), none, none, some (.getfield 111, 3, 3, 6, 1, 0), none, none, some (.iload_n 1, 1, 0, 0, 0, 0), some (.ishr, 1, 0, 0, 0, 0), some (.iconst 1, 1, 0, 0, 0, 1), some (.iand, 1, 0, 0, 0, 0), some (.ireturn, 1, 0, 0, 0, 0), some (.bipush (-2), 2, 0, 0, 0, (-2)), none, some (.ireturn, 1, 0, 0, 0, 0)]
def mX5_node : dp_M := (RX5, yX5_node, cX5_node, 3, some .int, tX5_node)
set_option maxRecDepth 20000 in
theorem okX5_node : dp_ok mX5_node := ⟨⟨fl_5, [], by decide +kernel, fun y h => ⟨(fl_5_ok y h).1, fun z => absurd z (fl_5_ok y h).2⟩, fun _ h => absurd h List.not_mem_nil⟩, rfl, dq_358, by decide +kernel, by decide +kernel, by decide +kernel, Nat.le_of_ble_eq_true rfl⟩
theorem npX5_node : dp_np yX5_node 2 := by unfold dp_np; decide +kernel
set_option maxRecDepth 20000 in
def tX5_band : List (Option dp_In) := [some (.iload_n 1, 1, 0, 0, 0, 0), some (.ifCond .lt 14, 3, 15, 0, 0, 0), none, none, some (.iload_n 1, 1, 0, 0, 0, 0), some (.aload_n 0, 1, 0, 0, 0, 0), some (.getfield 10, 3, 5, 0, 0, 0), none, none, some (.getfield 114, 3, 2, 4, 1, 0), none, none, some (.if_icmp .lt 6, 3, 18, 0, 0, 0), none, none, some (.bipush (-2), 2, 0, 0, 0, (-2)), none, some (.ireturn, 1, 0, 0, 0, 0), some (.aload_n 0, 1, 0, 0, 0, 0), some (.getfield 10, 3, 5, 0, 0, 0), none, none, some (.iload_n 1, 1, 0, 0, 0, 0), some (.invokevirtual 117, 3, 0, 0, 0, 0), none, none, some (.aload_n 0, 1, 0, 0, 0, 0), some (.getfield 10, 3, 5, 0, 0, 0), none, none, some (.invokevirtual 120, 3, 0, 0, 0, 0), none, none, some (.iconst (-1), 1, 0, 0, 0, (-1)), some (.ixor, 1, 0, 0, 0, 0), some (.iand, 1, 0, 0, 0, 0), some (.istore_n 3, 1, 0, 0, 0, 0), some (.iload_n 2, 1, 0, 0, 0, 0), some (.tableswitch 74 0 3 #[30, 35, 48, 61], 30, 0, 0, 0, 0), none, none, none, none, none, none, none, none, none, none, none, none, none, none, none, none, none, none, none, none, none, none, none, none, none, none, none, none, none, some (.iload_n 3, 1, 0, 0, 0, 0), some (.invokestatic 124, 3, 0, 0, 0, 0), none, none, some (.ireturn, 1, 0, 0, 0, 0), some (.aload_n 0, 1, 0, 0, 0, 0), some (.getfield 19, 3, 5, 1, 0, 0), none, none, some (.aload_n 0, 1, 0, 0, 0, 0), some (.getfield 10, 3, 5, 0, 0, 0), none, none, some (.iload_n 3, 1, 0, 0, 0, 0), some (.invokevirtual 129, 3, 0, 0, 0, 0), none, none, some (.ireturn, 1, 0, 0, 0, 0), some (.aload_n 0, 1, 0, 0, 0, 0), some (.getfield 19, 3, 5, 1, 0, 0), none, none, some (.aload_n 0, 1, 0, 0, 0, 0), some (.getfield 10, 3, 5, 0, 0, 0), none, none, some (.iload_n 3, 1, 0, 0, 0, 0), some (.invokevirtual 133, 3, 0, 0, 0, 0), none, none, some (.ireturn, 1, 0, 0, 0, 0), some (.aload_n 0, 1, 0, 0, 0, 0), some (.getfield 19, 3, 5, 1, 0, 0), none, none, some (.aload_n 0, 1, 0, 0, 0, 0), some (.getfield 10, 3, 5, 0, 0, 0), none, none, some (.iload_n 3, 1, 0, 0, 0, 0), some (.invokevirtual 136, 3, 0, 0, 0, 0), none, none, some (.ireturn, 1, 0, 0, 0, 0), some (.bipush (-2), 2, 0, 0, 0, (-2)), none, some (.ireturn, 1, 0, 0, 0, 0)]
def mX5_band : dp_M := (RX5, yX5_band, cX5_band, 4, some .int, tX5_band)
set_option maxRecDepth 20000 in
theorem okX5_band : dp_ok mX5_band := ⟨⟨fl_5, [], by decide +kernel, fun y h => ⟨(fl_5_ok y h).1, fun z => absurd z (fl_5_ok y h).2⟩, fun _ h => absurd h List.not_mem_nil⟩, rfl, dq_367, by decide +kernel, by decide +kernel, by decide +kernel, Nat.le_of_ble_eq_true rfl⟩
theorem npX5_band : dp_np yX5_band 2 := by unfold dp_np; decide +kernel
set_option maxRecDepth 20000 in
def tX5_sort : List (Option dp_In) := [some (.aload_n 0, 1, 0, 0, 0, 0), some (.getfield 10, 3, 5, 0, 0, 0), none, none, some (.iload_n 1, 1, 0, 0, 0, 0), some (.invokevirtual 139, 3, 0, 0, 0, 0), none, none, some (.ifCond .ne 6, 3, 14, 0, 0, 0), none, none, some (.bipush (-2), 2, 0, 0, 0, (-2)), none, some (.ireturn, 1, 0, 0, 0, 0), some (.aload_n 0, 1, 0, 0, 0, 0), some (.getfield 10, 3, 5, 0, 0, 0), none, none, some (.iload_n 1, 1, 0, 0, 0, 0), some (.aload_n 0, 1, 0, 0, 0, 0), some (.getfield 10, 3, 5, 0, 0, 0), none, none, some (.getfield 84, 3, 2, 7, 1, 0), none, none, some (.invokevirtual 142, 3, 0, 0, 0, 0), none, none, some (.ifCond .ne 5, 3, 34, 0, 0, 0), none, none, some (.iconst 0, 1, 0, 0, 0, 0), some (.ireturn, 1, 0, 0, 0, 0), some (.aload_n 0, 1, 0, 0, 0, 0), some (.getfield 10, 3, 5, 0, 0, 0), none, none, some (.iload_n 1, 1, 0, 0, 0, 0), some (.aload_n 0, 1, 0, 0, 0, 0), some (.getfield 10, 3, 5, 0, 0, 0), none, none, some (.getfield 84, 3, 2, 7, 1, 0), none, none, some (.invokevirtual 145, 3, 0, 0, 0, 0), none, none, some (.ifCond .eq 7, 3, 56, 0, 0, 0), none, none, some (.iconst 1, 1, 0, 0, 0, 1), some (.goto 4, 3, 57, 0, 0, 0), none, none, some (.iconst 2, 1, 0, 0, 0, 2), some (.ireturn, 1, 0, 0, 0, 0)]
def mX5_sort : dp_M := (RX5, yX5_sort, cX5_sort, 2, some .int, tX5_sort)
set_option maxRecDepth 20000 in
theorem okX5_sort : dp_ok mX5_sort := ⟨⟨fl_5, [], by decide +kernel, fun y h => ⟨(fl_5_ok y h).1, fun z => absurd z (fl_5_ok y h).2⟩, fun _ h => absurd h List.not_mem_nil⟩, rfl, dq_397, by decide +kernel, by decide +kernel, by decide +kernel, Nat.le_of_ble_eq_true rfl⟩
theorem npX5_sort : dp_np yX5_sort 1 := by unfold dp_np; decide +kernel
set_option maxRecDepth 20000 in
def tX5_crowded : List (Option dp_In) := [some (.aload_n 0, 1, 0, 0, 0, 0), some (.getfield 10, 3, 5, 0, 0, 0), none, none, some (.iload_n 1, 1, 0, 0, 0, 0), some (.invokevirtual 139, 3, 0, 0, 0, 0), none, none, some (.ifCond .eq 21, 3, 29, 0, 0, 0), none, none, some (.aload_n 0, 1, 0, 0, 0, 0), some (.getfield 10, 3, 5, 0, 0, 0), none, none, some (.iload_n 1, 1, 0, 0, 0, 0), some (.aload_n 0, 1, 0, 0, 0, 0), some (.getfield 10, 3, 5, 0, 0, 0), none, none, some (.getfield 84, 3, 2, 7, 1, 0), none, none, some (.invokevirtual 148, 3, 0, 0, 0, 0), none, none, some (.goto 5, 3, 31, 0, 0, 0), none, none, some (.bipush (-2), 2, 0, 0, 0, (-2)), none, some (.ireturn, 1, 0, 0, 0, 0)]
def mX5_crowded : dp_M := (RX5, yX5_crowded, cX5_crowded, 2, some .int, tX5_crowded)
set_option maxRecDepth 20000 in
theorem okX5_crowded : dp_ok mX5_crowded := ⟨⟨fl_5, [], by decide +kernel, fun y h => ⟨(fl_5_ok y h).1, fun z => absurd z (fl_5_ok y h).2⟩, fun _ h => absurd h List.not_mem_nil⟩, rfl, dq_430, by decide +kernel, by decide +kernel, by decide +kernel, Nat.le_of_ble_eq_true rfl⟩
theorem npX5_crowded : dp_np yX5_crowded 1 := by unfold dp_np; decide +kernel
set_option maxRecDepth 20000 in
def tX5_reached : List (Option dp_In) := [some (.aload_n 0, 1, 0, 0, 0, 0), some (.getfield 10, 3, 5, 0, 0, 0), none, none, some (.iload_n 1, 1, 0, 0, 0, 0), some (.invokevirtual 139, 3, 0, 0, 0, 0), none, none, some (.ifCond .eq 21, 3, 29, 0, 0, 0), none, none, some (.aload_n 0, 1, 0, 0, 0, 0), some (.getfield 10, 3, 5, 0, 0, 0), none, none, some (.iload_n 1, 1, 0, 0, 0, 0), some (.aload_n 0, 1, 0, 0, 0, 0), some (.getfield 10, 3, 5, 0, 0, 0), none, none, some (.getfield 84, 3, 2, 7, 1, 0), none, none, some (.invokevirtual 151, 3, 0, 0, 0, 0), none, none, some (.goto 5, 3, 31, 0, 0, 0), none, none, some (.bipush (-2), 2, 0, 0, 0, (-2)), none, some (.ireturn, 1, 0, 0, 0, 0)]
def mX5_reached : dp_M := (RX5, yX5_reached, cX5_reached, 2, some .int, tX5_reached)
set_option maxRecDepth 20000 in
theorem okX5_reached : dp_ok mX5_reached := ⟨⟨fl_5, [], by decide +kernel, fun y h => ⟨(fl_5_ok y h).1, fun z => absurd z (fl_5_ok y h).2⟩, fun _ h => absurd h List.not_mem_nil⟩, rfl, dq_435, by decide +kernel, by decide +kernel, by decide +kernel, Nat.le_of_ble_eq_true rfl⟩
theorem npX5_reached : dp_np yX5_reached 1 := by unfold dp_np; decide +kernel
set_option maxRecDepth 20000 in
def tX5_worst : List (Option dp_In) := [some (.iload_n 1, 1, 0, 0, 0, 0), some (.ifCond .lt 8, 3, 9, 0, 0, 0), none, none, some (.iload_n 1, 1, 0, 0, 0, 0), some (.iconst 3, 1, 0, 0, 0, 3), some (.if_icmp .le 6, 3, 12, 0, 0, 0), none, none, some (.bipush (-2), 2, 0, 0, 0, (-2)), none, some (.ireturn, 1, 0, 0, 0, 0), some (.aload_n 0, 1, 0, 0, 0, 0), some (.getfield 26, 3, 5, 2, 0, 0), none, none, some (.aload_n 0, 1, 0, 0, 0, 0), some (.getfield 10, 3, 5, 0, 0, 0), none, none, some (.invokevirtual 154, 3, 0, 0, 0, 0), none, none, some (.iload_n 1, 1, 0, 0, 0, 0), some (.tableswitch 52 0 2 #[28, 36, 44], 28, 0, 0, 0, 0), none, none, none, none, none, none, none, none, none, none, none, none, none, none, none, none, none, none, none, none, none, none, none, none, none, none, none, some (.aload_n 0, 1, 0, 0, 0, 0), some (.getfield 26, 3, 5, 2, 0, 0), none, none, some (.getfield 157, 3, 4, 0, 1, 0), none, none, some (.ireturn, 1, 0, 0, 0, 0), some (.aload_n 0, 1, 0, 0, 0, 0), some (.getfield 26, 3, 5, 2, 0, 0), none, none, some (.getfield 160, 3, 4, 1, 1, 0), none, none, some (.ireturn, 1, 0, 0, 0, 0), some (.aload_n 0, 1, 0, 0, 0, 0), some (.getfield 26, 3, 5, 2, 0, 0), none, none, some (.getfield 163, 3, 4, 2, 1, 0), none, none, some (.ireturn, 1, 0, 0, 0, 0), some (.aload_n 0, 1, 0, 0, 0, 0), some (.getfield 26, 3, 5, 2, 0, 0), none, none, some (.getfield 166, 3, 4, 3, 1, 0), none, none, some (.ireturn, 1, 0, 0, 0, 0)]
def mX5_worst : dp_M := (RX5, yX5_worst, cX5_worst, 2, some .int, tX5_worst)
set_option maxRecDepth 20000 in
theorem okX5_worst : dp_ok mX5_worst := ⟨⟨fl_5, [], by decide +kernel, fun y h => ⟨(fl_5_ok y h).1, fun z => absurd z (fl_5_ok y h).2⟩, fun _ h => absurd h List.not_mem_nil⟩, rfl, dq_440, by decide +kernel, by decide +kernel, by decide +kernel, Nat.le_of_ble_eq_true rfl⟩
theorem npX5_worst : dp_np yX5_worst 1 := by unfold dp_np; decide +kernel
set_option maxRecDepth 20000 in
def tX5_bears : List (Option dp_In) := [some (.aload_n 0, 1, 0, 0, 0, 0), some (.getfield 10, 3, 5, 0, 0, 0), none, none, some (.invokevirtual 169, 3, 0, 0, 0, 0), none, none, some (.ireturn, 1, 0, 0, 0, 0)]
def mX5_bears : dp_M := (RX5, yX5_bears, cX5_bears, 1, some .int, tX5_bears)
set_option maxRecDepth 20000 in
theorem okX5_bears : dp_ok mX5_bears := ⟨⟨fl_5, [], by decide +kernel, fun y h => ⟨(fl_5_ok y h).1, fun z => absurd z (fl_5_ok y h).2⟩, fun _ h => absurd h List.not_mem_nil⟩, rfl, dq_457, by decide +kernel, by decide +kernel, by decide +kernel, Nat.le_of_ble_eq_true rfl⟩
theorem npX5_bears : dp_np yX5_bears 0 := by unfold dp_np; decide +kernel
set_option maxRecDepth 20000 in
def tX5_name : List (Option dp_In) := [some (.aload_n 0, 1, 0, 0, 0, 0), some (.getfield 10, 3, 5, 0, 0, 0), none, none, some (.iload_n 1, 1, 0, 0, 0, 0), some (.invokevirtual 139, 3, 0, 0, 0, 0), none, none, some (.ifCond .ne 6, 3, 14, 0, 0, 0), none, none, some (.bipush (-2), 2, 0, 0, 0, (-2)), none, some (.ireturn, 1, 0, 0, 0, 0), some (.aload_n 0, 1, 0, 0, 0, 0), some (.getfield 10, 3, 5, 0, 0, 0), none, none, some (.iload_n 1, 1, 0, 0, 0, 0), some (.aload_n 0, 1, 0, 0, 0, 0), some (.getfield 10, 3, 5, 0, 0, 0), none, none, some (.getfield 84, 3, 2, 7, 1, 0), none, none, some (.invokevirtual 145, 3, 0, 0, 0, 0), none, none, some (.istore_n 2, 1, 0, 0, 0, 0), some (.iload_n 2, 1, 0, 0, 0, 0), some (.ifCond .ne 8, 3, 39, 0, 0, 0), none, none, some (.bipush (-3), 2, 0, 0, 0, (-3)), none, some (.goto 11, 3, 47, 0, 0, 0), none, none, some (.aload_n 0, 1, 0, 0, 0, 0), some (.getfield 33, 3, 5, 3, 0, 0), none, none, some (.iload_n 2, 1, 0, 0, 0, 0), some (.invokevirtual 172, 3, 0, 0, 0, 0), none, none, some (.ireturn, 1, 0, 0, 0, 0)]
def mX5_name : dp_M := (RX5, yX5_name, cX5_name, 3, some .int, tX5_name)
set_option maxRecDepth 20000 in
theorem okX5_name : dp_ok mX5_name := ⟨⟨fl_5, [], by decide +kernel, fun y h => ⟨(fl_5_ok y h).1, fun z => absurd z (fl_5_ok y h).2⟩, fun _ h => absurd h List.not_mem_nil⟩, rfl, dq_468, by decide +kernel, by decide +kernel, by decide +kernel, Nat.le_of_ble_eq_true rfl⟩
theorem npX5_name : dp_np yX5_name 1 := by unfold dp_np; decide +kernel
end
section
/-! ===== 10: method tables (printed by program) ===== -/
set_option maxRecDepth 20000 in
def tX5_named : List (Option dp_In) := [some (.iload_n 1, 1, 0, 0, 0, 0), some (.ifCond .lt 26, 3, 27, 0, 0, 0), none, none, some (.iload_n 1, 1, 0, 0, 0, 0), some (.aload_n 0, 1, 0, 0, 0, 0), some (.getfield 33, 3, 5, 3, 0, 0), none, none, some (.getfield 175, 3, 1, 1, 1, 0), none, none, some (.if_icmp .ge 15, 3, 27, 0, 0, 0), none, none, some (.aload_n 0, 1, 0, 0, 0, 0), some (.getfield 33, 3, 5, 3, 0, 0), none, none, some (.getfield 178, 3, 1, 0, 1, 0), none, none, some (.iload_n 1, 1, 0, 0, 0, 0), some (.iaload, 1, 0, 0, 0, 0), some (.goto 5, 3, 29, 0, 0, 0), none, none, some (.bipush (-2), 2, 0, 0, 0, (-2)), none, some (.ireturn, 1, 0, 0, 0, 0)]
def mX5_named : dp_M := (RX5, yX5_named, cX5_named, 2, some .int, tX5_named)
set_option maxRecDepth 20000 in
theorem okX5_named : dp_ok mX5_named := ⟨⟨fl_5, [], by decide +kernel, fun y h => ⟨(fl_5_ok y h).1, fun z => absurd z (fl_5_ok y h).2⟩, fun _ h => absurd h List.not_mem_nil⟩, rfl, dq_479, by decide +kernel, by decide +kernel, by decide +kernel, Nat.le_of_ble_eq_true rfl⟩
theorem npX5_named : dp_np yX5_named 1 := by unfold dp_np; decide +kernel
set_option maxRecDepth 20000 in
def tX5_walk : List (Option dp_In) := [some (.aload_n 0, 1, 0, 0, 0, 0), some (.getfield 10, 3, 5, 0, 0, 0), none, none, some (.iload_n 1, 1, 0, 0, 0, 0), some (.invokevirtual 52, 3, 0, 0, 0, 0), none, none, some (.ifCond .ne 5, 3, 13, 0, 0, 0), none, none, some (.iconst (-1), 1, 0, 0, 0, (-1)), some (.ireturn, 1, 0, 0, 0, 0), some (.aload_n 0, 1, 0, 0, 0, 0), some (.getfield 40, 3, 5, 4, 0, 0), none, none, some (.aload_n 0, 1, 0, 0, 0, 0), some (.getfield 10, 3, 5, 0, 0, 0), none, none, some (.iload_n 1, 1, 0, 0, 0, 0), some (.invokevirtual 181, 3, 0, 0, 0, 0), none, none, some (.ifCond .eq 14, 3, 39, 0, 0, 0), none, none, some (.aload_n 0, 1, 0, 0, 0, 0), some (.getfield 40, 3, 5, 4, 0, 0), none, none, some (.iload_n 1, 1, 0, 0, 0, 0), some (.invokevirtual 185, 3, 0, 0, 0, 0), none, none, some (.goto 5, 3, 41, 0, 0, 0), none, none, some (.bipush (-3), 2, 0, 0, 0, (-3)), none, some (.ireturn, 1, 0, 0, 0, 0)]
def mX5_walk : dp_M := (RX5, yX5_walk, cX5_walk, 2, some .int, tX5_walk)
set_option maxRecDepth 20000 in
theorem okX5_walk : dp_ok mX5_walk := ⟨⟨fl_5, [], by decide +kernel, fun y h => ⟨(fl_5_ok y h).1, fun z => absurd z (fl_5_ok y h).2⟩, fun _ h => absurd h List.not_mem_nil⟩, rfl, dq_483, by decide +kernel, by decide +kernel, by decide +kernel, Nat.le_of_ble_eq_true rfl⟩
theorem npX5_walk : dp_np yX5_walk 1 := by unfold dp_np; decide +kernel
set_option maxRecDepth 20000 in
def tX5_tell : List (Option dp_In) := [some (.iload_n 1, 1, 0, 0, 0, 0), some (.invokestatic 71, 3, 0, 0, 0, 0), none, none, some (.ifCond .ne 6, 3, 10, 0, 0, 0), none, none, some (.bipush (-2), 2, 0, 0, 0, (-2)), none, some (.ireturn, 1, 0, 0, 0, 0), some (.aload_n 0, 1, 0, 0, 0, 0), some (.getfield 40, 3, 5, 4, 0, 0), none, none, some (.getfield 188, 3, 0, 7, 1, 0), none, none, some (.iconst 2, 1, 0, 0, 0, 2), some (.if_icmp .lt 14, 3, 32, 0, 0, 0), none, none, some (.aload_n 0, 1, 0, 0, 0, 0), some (.getfield 40, 3, 5, 4, 0, 0), none, none, some (.iload_n 1, 1, 0, 0, 0, 0), some (.invokevirtual 191, 3, 0, 0, 0, 0), none, none, some (.ifCond .eq 6, 3, 35, 0, 0, 0), none, none, some (.bipush (-3), 2, 0, 0, 0, (-3)), none, some (.ireturn, 1, 0, 0, 0, 0), some (.aload_n 0, 1, 0, 0, 0, 0), some (.getfield 40, 3, 5, 4, 0, 0), none, none, some (.iload_n 1, 1, 0, 0, 0, 0), some (.invokevirtual 194, 3, 0, 0, 0, 0), none, none, some (.ireturn, 1, 0, 0, 0, 0)]
def mX5_tell : dp_M := (RX5, yX5_tell, cX5_tell, 2, some .int, tX5_tell)
set_option maxRecDepth 20000 in
theorem okX5_tell : dp_ok mX5_tell := ⟨⟨fl_5, [], by decide +kernel, fun y h => ⟨(fl_5_ok y h).1, fun z => absurd z (fl_5_ok y h).2⟩, fun _ h => absurd h List.not_mem_nil⟩, rfl, dq_497, by decide +kernel, by decide +kernel, by decide +kernel, Nat.le_of_ble_eq_true rfl⟩
theorem npX5_tell : dp_np yX5_tell 1 := by unfold dp_np; decide +kernel
set_option maxRecDepth 20000 in
def tX5_drop : List (Option dp_In) := [some (.aload_n 0, 1, 0, 0, 0, 0), some (.getfield 40, 3, 5, 4, 0, 0), none, none, some (.getfield 188, 3, 0, 7, 1, 0), none, none, some (.istore_n 1, 1, 0, 0, 0, 0), some (.aload_n 0, 1, 0, 0, 0, 0), some (.getfield 40, 3, 5, 4, 0, 0), none, none, some (.invokevirtual 197, 3, 0, 0, 0, 0), none, none, some (.iload_n 1, 1, 0, 0, 0, 0), some (.ireturn, 1, 0, 0, 0, 0)]
def mX5_drop : dp_M := (RX5, yX5_drop, cX5_drop, 2, some .int, tX5_drop)
set_option maxRecDepth 20000 in
theorem okX5_drop : dp_ok mX5_drop := ⟨⟨fl_5, [], by decide +kernel, fun y h => ⟨(fl_5_ok y h).1, fun z => absurd z (fl_5_ok y h).2⟩, fun _ h => absurd h List.not_mem_nil⟩, rfl, dq_518, by decide +kernel, by decide +kernel, by decide +kernel, Nat.le_of_ble_eq_true rfl⟩
theorem npX5_drop : dp_np yX5_drop 0 := by unfold dp_np; decide +kernel
set_option maxRecDepth 20000 in
def tX5_claim : List (Option dp_In) := [some (.iload_n 1, 1, 0, 0, 0, 0), some (.ifCond .lt 14, 3, 15, 0, 0, 0), none, none, some (.iload_n 1, 1, 0, 0, 0, 0), some (.aload_n 0, 1, 0, 0, 0, 0), some (.getfield 40, 3, 5, 4, 0, 0), none, none, some (.getfield 200, 3, 0, 8, 1, 0), none, none, some (.if_icmp .lt 6, 3, 18, 0, 0, 0), none, none, some (.bipush (-2), 2, 0, 0, 0, (-2)), none, some (.ireturn, 1, 0, 0, 0, 0), some (.iload_n 2, 1, 0, 0, 0, 0), some (.bipush 10, 2, 0, 0, 0, 10), none, some (.if_icmp .lt 22, 3, 43, 0, 0, 0), none, none, some (.iload_n 2, 1, 0, 0, 0, 0), some (.bipush 22, 2, 0, 0, 0, 22), none, some (.if_icmp .ge 16, 3, 43, 0, 0, 0), none, none, some (.aload_n 0, 1, 0, 0, 0, 0), some (.getfield 40, 3, 5, 4, 0, 0), none, none, some (.iload_n 1, 1, 0, 0, 0, 0), some (.iload_n 2, 1, 0, 0, 0, 0), some (.bipush 10, 2, 0, 0, 0, 10), none, some (.isub, 1, 0, 0, 0, 0), some (.invokevirtual 201, 3, 0, 0, 0, 0), none, none, some (.ireturn, 1, 0, 0, 0, 0), some (.iload_n 2, 1, 0, 0, 0, 0), some (.tableswitch 58 0 2 #[28, 38, 48], 28, 0, 0, 0, 0), none, none, none, none, none, none, none, none, none, none, none, none, none, none, none, none, none, none, none, none, none, none, none, none, none, none, none, some (.aload_n 0, 1, 0, 0, 0, 0), some (.getfield 40, 3, 5, 4, 0, 0), none, none, some (.getfield 204, 3, 0, 4, 1, 0), none, none, some (.iload_n 1, 1, 0, 0, 0, 0), some (.iaload, 1, 0, 0, 0, 0), some (.ireturn, 1, 0, 0, 0, 0), some (.aload_n 0, 1, 0, 0, 0, 0), some (.getfield 40, 3, 5, 4, 0, 0), none, none, some (.getfield 207, 3, 0, 2, 1, 0), none, none, some (.iload_n 1, 1, 0, 0, 0, 0), some (.iaload, 1, 0, 0, 0, 0), some (.ireturn, 1, 0, 0, 0, 0), some (.aload_n 0, 1, 0, 0, 0, 0), some (.getfield 40, 3, 5, 4, 0, 0), none, none, some (.getfield 210, 3, 0, 3, 1, 0), none, none, some (.iload_n 1, 1, 0, 0, 0, 0), some (.iaload, 1, 0, 0, 0, 0), some (.ireturn, 1, 0, 0, 0, 0), some (.bipush (-2), 2, 0, 0, 0, (-2)), none, some (.ireturn, 1, 0, 0, 0, 0)]
def mX5_claim : dp_M := (RX5, yX5_claim, cX5_claim, 3, some .int, tX5_claim)
set_option maxRecDepth 20000 in
theorem okX5_claim : dp_ok mX5_claim := ⟨⟨fl_5, [], by decide +kernel, fun y h => ⟨(fl_5_ok y h).1, fun z => absurd z (fl_5_ok y h).2⟩, fun _ h => absurd h List.not_mem_nil⟩, rfl, dq_523, by decide +kernel, by decide +kernel, by decide +kernel, Nat.le_of_ble_eq_true rfl⟩
theorem npX5_claim : dp_np yX5_claim 2 := by unfold dp_np; decide +kernel
set_option maxRecDepth 20000 in
def tX5_proof : List (Option dp_In) := [some (.aload_n 0, 1, 0, 0, 0, 0), some (.getfield 10, 3, 5, 0, 0, 0), none, none, some (.iload_n 1, 1, 0, 0, 0, 0), some (.invokevirtual 52, 3, 0, 0, 0, 0), none, none, some (.ifCond .ne 5, 3, 13, 0, 0, 0), none, none, some (.iconst (-1), 1, 0, 0, 0, (-1)), some (.ireturn, 1, 0, 0, 0, 0), some (.iload_n 2, 1, 0, 0, 0, 0), some (.invokestatic 71, 3, 0, 0, 0, 0), none, none, some (.ifCond .eq 15, 3, 32, 0, 0, 0), none, none, some (.aload_n 0, 1, 0, 0, 0, 0), some (.getfield 40, 3, 5, 4, 0, 0), none, none, some (.iload_n 1, 1, 0, 0, 0, 0), some (.iload_n 2, 1, 0, 0, 0, 0), some (.invokevirtual 213, 3, 0, 0, 0, 0), none, none, some (.goto 5, 3, 34, 0, 0, 0), none, none, some (.bipush (-2), 2, 0, 0, 0, (-2)), none, some (.ireturn, 1, 0, 0, 0, 0)]
def mX5_proof : dp_M := (RX5, yX5_proof, cX5_proof, 3, some .int, tX5_proof)
set_option maxRecDepth 20000 in
theorem okX5_proof : dp_ok mX5_proof := ⟨⟨fl_5, [], by decide +kernel, fun y h => ⟨(fl_5_ok y h).1, fun z => absurd z (fl_5_ok y h).2⟩, fun _ h => absurd h List.not_mem_nil⟩, rfl, dq_531, by decide +kernel, by decide +kernel, by decide +kernel, Nat.le_of_ble_eq_true rfl⟩
theorem npX5_proof : dp_np yX5_proof 2 := by unfold dp_np; decide +kernel
set_option maxRecDepth 20000 in
def tX5_believes : List (Option dp_In) := [some (.aload_n 0, 1, 0, 0, 0, 0), some (.getfield 10, 3, 5, 0, 0, 0), none, none, some (.iload_n 1, 1, 0, 0, 0, 0), some (.invokevirtual 52, 3, 0, 0, 0, 0), none, none, some (.ifCond .eq 21, 3, 29, 0, 0, 0), none, none, some (.aload_n 0, 1, 0, 0, 0, 0), some (.getfield 40, 3, 5, 4, 0, 0), none, none, some (.iload_n 1, 1, 0, 0, 0, 0), some (.aload_n 0, 1, 0, 0, 0, 0), some (.getfield 10, 3, 5, 0, 0, 0), none, none, some (.getfield 84, 3, 2, 7, 1, 0), none, none, some (.invokevirtual 216, 3, 0, 0, 0, 0), none, none, some (.goto 4, 3, 30, 0, 0, 0), none, none, some (.iconst (-1), 1, 0, 0, 0, (-1)), some (.ireturn, 1, 0, 0, 0, 0)]
def mX5_believes : dp_M := (RX5, yX5_believes, cX5_believes, 2, some .int, tX5_believes)
set_option maxRecDepth 20000 in
theorem okX5_believes : dp_ok mX5_believes := ⟨⟨fl_5, [], by decide +kernel, fun y h => ⟨(fl_5_ok y h).1, fun z => absurd z (fl_5_ok y h).2⟩, fun _ h => absurd h List.not_mem_nil⟩, rfl, dq_549, by decide +kernel, by decide +kernel, by decide +kernel, Nat.le_of_ble_eq_true rfl⟩
theorem npX5_believes : dp_np yX5_believes 1 := by unfold dp_np; decide +kernel
set_option maxRecDepth 20000 in
def tX5_many : List (Option dp_In) := [some (.aload_n 0, 1, 0, 0, 0, 0), some (.getfield 10, 3, 5, 0, 0, 0), none, none, some (.invokevirtual 219, 3, 0, 0, 0, 0), none, none, some (.aload_n 0, 1, 0, 0, 0, 0), some (.getfield 10, 3, 5, 0, 0, 0), none, none, some (.invokevirtual 120, 3, 0, 0, 0, 0), none, none, some (.iconst (-1), 1, 0, 0, 0, (-1)), some (.ixor, 1, 0, 0, 0, 0), some (.iand, 1, 0, 0, 0, 0), some (.istore_n 2, 1, 0, 0, 0, 0), some (.iload_n 1, 1, 0, 0, 0, 0), some (.tableswitch 158 0 10 #[57, 65, 73, 84, 92, 100, 113, 126, 134, 142, 150], 57, 0, 0, 0, 0), none, none, none, none, none, none, none, none, none, none, none, none, none, none, none, none, none, none, none, none, none, none, none, none, none, none, none, none, none, none, none, none, none, none, none, none, none, none, none, none, none, none, none, none, none, none, none, none, none, none, none, none, none, none, none, none, some (.aload_n 0, 1, 0, 0, 0, 0), some (.getfield 10, 3, 5, 0, 0, 0), none, none, some (.getfield 222, 3, 2, 2, 1, 0), none, none, some (.ireturn, 1, 0, 0, 0, 0), some (.aload_n 0, 1, 0, 0, 0, 0), some (.getfield 10, 3, 5, 0, 0, 0), none, none, some (.invokevirtual 223, 3, 0, 0, 0, 0), none, none, some (.ireturn, 1, 0, 0, 0, 0), some (.aload_n 0, 1, 0, 0, 0, 0), some (.getfield 10, 3, 5, 0, 0, 0), none, none, some (.invokevirtual 120, 3, 0, 0, 0, 0), none, none, some (.invokestatic 124, 3, 0, 0, 0, 0), none, none, some (.ireturn, 1, 0, 0, 0, 0), some (.aload_n 0, 1, 0, 0, 0, 0), some (.getfield 19, 3, 5, 1, 0, 0), none, none, some (.getfield 226, 3, 3, 4, 1, 0), none, none, some (.ireturn, 1, 0, 0, 0, 0), some (.aload_n 0, 1, 0, 0, 0, 0), some (.getfield 19, 3, 5, 1, 0, 0), none, none, some (.getfield 87, 3, 3, 5, 1, 0), none, none, some (.ireturn, 1, 0, 0, 0, 0), some (.aload_n 0, 1, 0, 0, 0, 0), some (.getfield 19, 3, 5, 1, 0, 0), none, none, some (.aload_n 0, 1, 0, 0, 0, 0), some (.getfield 10, 3, 5, 0, 0, 0), none, none, some (.iload_n 2, 1, 0, 0, 0, 0), some (.invokevirtual 129, 3, 0, 0, 0, 0), none, none, some (.ireturn, 1, 0, 0, 0, 0), some (.aload_n 0, 1, 0, 0, 0, 0), some (.getfield 19, 3, 5, 1, 0, 0), none, none, some (.aload_n 0, 1, 0, 0, 0, 0), some (.getfield 10, 3, 5, 0, 0, 0), none, none, some (.iload_n 2, 1, 0, 0, 0, 0), some (.invokevirtual 133, 3, 0, 0, 0, 0), none, none, some (.ireturn, 1, 0, 0, 0, 0), some (.aload_n 0, 1, 0, 0, 0, 0), some (.getfield 33, 3, 5, 3, 0, 0), none, none, some (.getfield 175, 3, 1, 1, 1, 0), none, none, some (.ireturn, 1, 0, 0, 0, 0), some (.aload_n 0, 1, 0, 0, 0, 0), some (.getfield 40, 3, 5, 4, 0, 0), none, none, some (.getfield 200, 3, 0, 8, 1, 0), none, none, some (.ireturn, 1, 0, 0, 0, 0), some (.aload_n 0, 1, 0, 0, 0, 0), some (.getfield 40, 3, 5, 4, 0, 0), none, none, some (.getfield 188, 3, 0, 7, 1, 0), none, none, some (.ireturn, 1, 0, 0, 0, 0), some (.aload_n 0, 1, 0, 0, 0, 0), some (.getfield 10, 3, 5, 0, 0, 0), none, none, some (.getfield 114, 3, 2, 4, 1, 0), none, none, some (.ireturn, 1, 0, 0, 0, 0), some (.bipush (-2), 2, 0, 0, 0, (-2)), none, some (.ireturn, 1, 0, 0, 0, 0)]
def mX5_many : dp_M := (RX5, yX5_many, cX5_many, 3, some .int, tX5_many)
set_option maxRecDepth 20000 in
theorem okX5_many : dp_ok mX5_many := ⟨⟨fl_5, [], by decide +kernel, fun y h => ⟨(fl_5_ok y h).1, fun z => absurd z (fl_5_ok y h).2⟩, fun _ h => absurd h List.not_mem_nil⟩, rfl, dq_558, by decide +kernel, by decide +kernel, by decide +kernel, Nat.le_of_ble_eq_true rfl⟩
theorem npX5_many : dp_np yX5_many 1 := by unfold dp_np; decide +kernel
set_option maxRecDepth 20000 in
def tX5_layAnew : List (Option dp_In) := [some (.aload_n 0, 1, 0, 0, 0, 0), some (.getfield 10, 3, 5, 0, 0, 0), none, none, some (.iload_n 1, 1, 0, 0, 0, 0), some (.iload_n 2, 1, 0, 0, 0, 0), some (.iload_n 3, 1, 0, 0, 0, 0), some (.invokevirtual 229, 3, 0, 0, 0, 0), none, none, some (.aload_n 0, 1, 0, 0, 0, 0), some (.getfield 33, 3, 5, 3, 0, 0), none, none, some (.invokevirtual 233, 3, 0, 0, 0, 0), none, none, some (.aload_n 0, 1, 0, 0, 0, 0), some (.getfield 40, 3, 5, 4, 0, 0), none, none, some (.invokevirtual 64, 3, 0, 0, 0, 0), none, none, some (.aload_n 0, 1, 0, 0, 0, 0), some (.getfield 19, 3, 5, 1, 0, 0), none, none, some (.aload_n 0, 1, 0, 0, 0, 0), some (.getfield 10, 3, 5, 0, 0, 0), none, none, some (.invokevirtual 44, 3, 0, 0, 0, 0), none, none, some (.aload_n 0, 1, 0, 0, 0, 0), some (.getfield 10, 3, 5, 0, 0, 0), none, none, some (.getfield 222, 3, 2, 2, 1, 0), none, none, some (.ireturn, 1, 0, 0, 0, 0)]
def mX5_layAnew : dp_M := (RX5, yX5_layAnew, cX5_layAnew, 4, some .int, tX5_layAnew)
set_option maxRecDepth 20000 in
theorem okX5_layAnew : dp_ok mX5_layAnew := ⟨⟨fl_5, [], by decide +kernel, fun y h => ⟨(fl_5_ok y h).1, fun z => absurd z (fl_5_ok y h).2⟩, fun _ h => absurd h List.not_mem_nil⟩, rfl, dq_280, by decide +kernel, by decide +kernel, by decide +kernel, Nat.le_of_ble_eq_true rfl⟩
theorem npX5_layAnew : dp_np yX5_layAnew 3 := by unfold dp_np; decide +kernel
set_option maxRecDepth 20000 in
def tX5_isValue : List (Option dp_In) := [some (.iload_n 0, 1, 0, 0, 0, 0), some (.ifCond .lt 12, 3, 13, 0, 0, 0), none, none, some (.iload_n 0, 1, 0, 0, 0, 0), some (.iconst 4, 1, 0, 0, 0, 4), some (.if_icmp .ge 7, 3, 13, 0, 0, 0), none, none, some (.iconst 1, 1, 0, 0, 0, 1), some (.goto 4, 3, 14, 0, 0, 0), none, none, some (.iconst 0, 1, 0, 0, 0, 0), some (.ireturn, 1, 0, 0, 0, 0)]
def mX5_isValue : dp_M := (RX5, yX5_isValue, cX5_isValue, 1, some .boolean, tX5_isValue)
set_option maxRecDepth 20000 in
theorem okX5_isValue : dp_ok mX5_isValue := ⟨⟨fl_5, [], by decide +kernel, fun y h => ⟨(fl_5_ok y h).1, fun z => absurd z (fl_5_ok y h).2⟩, fun _ h => absurd h List.not_mem_nil⟩, rfl, dq_321, by decide +kernel, by decide +kernel, by decide +kernel, Nat.le_of_ble_eq_true rfl⟩
theorem npX5_isValue : dp_np yX5_isValue 1 := by unfold dp_np; decide +kernel
set_option maxRecDepth 20000 in
def tX5_isIn : List (Option dp_In) := [some (.iload_n 1, 1, 0, 0, 0, 0), some (.iload_n 0, 1, 0, 0, 0, 0), some (.ishr, 1, 0, 0, 0, 0), some (.iconst 1, 1, 0, 0, 0, 1), some (.iand, 1, 0, 0, 0, 0), some (.iconst 1, 1, 0, 0, 0, 1), some (.if_icmp .ne 7, 3, 13, 0, 0, 0), none, none, some (.iconst 1, 1, 0, 0, 0, 1), some (.goto 4, 3, 14, 0, 0, 0), none, none, some (.iconst 0, 1, 0, 0, 0, 0), some (.ireturn, 1, 0, 0, 0, 0)]
def mX5_isIn : dp_M := (RX5, yX5_isIn, cX5_isIn, 2, some .boolean, tX5_isIn)
set_option maxRecDepth 20000 in
theorem okX5_isIn : dp_ok mX5_isIn := ⟨⟨fl_5, [], by decide +kernel, fun y h => ⟨(fl_5_ok y h).1, fun z => absurd z (fl_5_ok y h).2⟩, fun _ h => absurd h List.not_mem_nil⟩, rfl, dq_248, by decide +kernel, by decide +kernel, by decide +kernel, Nat.le_of_ble_eq_true rfl⟩
theorem npX5_isIn : dp_np yX5_isIn 2 := by unfold dp_np; decide +kernel
set_option maxRecDepth 20000 in
def tX6_init : List (Option dp_In) := [some (.aload_n 0, 1, 0, 0, 0, 0), some (.invokespecial 1, 3, 0, 0, 0, 0), none, none, some (.aload_n 0, 1, 0, 0, 0, 0), some (.iconst 2, 1, 0, 0, 0, 2), some (.putfield 7, 3, 6, 0, 2, 0), none, none, some (.aload_n 0, 1, 0, 0, 0, 0), some (.iconst 2, 1, 0, 0, 0, 2), some (.putfield 13, 3, 6, 1, 2, 0), none, none, some (.aload_n 0, 1, 0, 0, 0, 0), some (.iconst 1, 1, 0, 0, 0, 1), some (.putfield 16, 3, 6, 2, 2, 0), none, none, some (.aload_n 0, 1, 0, 0, 0, 0), some (.bipush 12, 2, 0, 0, 0, 12), none, some (.newarray .int, 2, 0, 0, 0, 0), none, some (.putfield 19, 3, 6, 3, 4, 0), none, none, some (.aload_n 0, 1, 0, 0, 0, 0), some (.iconst 1, 1, 0, 0, 0, 1), some (.putfield 23, 3, 6, 6, 2, 0), none, none, some (.aload_n 0, 1, 0, 0, 0, 0), some (.bipush 12, 2, 0, 0, 0, 12), none, some (.newarray .int, 2, 0, 0, 0, 0), none, some (.putfield 26, 3, 6, 7, 4, 0), none, none, some (.aload_n 0, 1, 0, 0, 0, 0), some (.bipush 12, 2, 0, 0, 0, 12), none, some (.newarray .int, 2, 0, 0, 0, 0), none, some (.putfield 29, 3, 6, 8, 4, 0), none, none, some (.aload_n 0, 1, 0, 0, 0, 0), some (.bipush 12, 2, 0, 0, 0, 12), none, some (.newarray .int, 2, 0, 0, 0, 0), none, some (.putfield 32, 3, 6, 11, 4, 0), none, none, some (.aload_n 0, 1, 0, 0, 0, 0), some (.bipush 12, 2, 0, 0, 0, 12), none, some (.newarray .int, 2, 0, 0, 0, 0), none, some (.putfield 35, 3, 6, 12, 4, 0), none, none, some (.aload_n 0, 1, 0, 0, 0, 0), some (.bipush 12, 2, 0, 0, 0, 12), none, some (.newarray .boolean, 2, 0, 0, 0, 0), none, some (.putfield 38, 3, 6, 13, 4, 0), none, none, some (.aload_n 0, 1, 0, 0, 0, 0), some (.bipush 48, 2, 0, 0, 0, 48), none, some (.newarray .int, 2, 0, 0, 0, 0), none, some (.putfield 42, 3, 6, 14, 4, 0), none, none, some (.aload_n 0, 1, 0, 0, 0, 0), some (.bipush 6, 2, 0, 0, 0, 6), none, some (.newarray .int, 2, 0, 0, 0, 0), none, some (.putfield 45, 3, 6, 19, 4, 0), none, none, some (.aload_n 0, 1, 0, 0, 0, 0), some (.bipush 12, 2, 0, 0, 0, 12), none, some (.newarray .int, 2, 0, 0, 0, 0), none, some (.putfield 48, 3, 6, 21, 4, 0), none, none, some (.aload_n 0, 1, 0, 0, 0, 0), some (.bipush 8, 2, 0, 0, 0, 8), none, some (.newarray .int, 2, 0, 0, 0, 0), none, some (.putfield 51, 3, 6, 23, 4, 0), none, none, some (.aload_n 0, 1, 0, 0, 0, 0), some (.bipush 8, 2, 0, 0, 0, 8), none, some (.newarray .int, 2, 0, 0, 0, 0), none, some (.putfield 54, 3, 6, 24, 4, 0), none, none, some (.aload_n 0, 1, 0, 0, 0, 0), some (.bipush 96, 2, 0, 0, 0, 96), none, some (.newarray .int, 2, 0, 0, 0, 0), none, some (.putfield 57, 3, 6, 25, 4, 0), none, none, some (.iconst 0, 1, 0, 0, 0, 0), some (.istore_n 1, 1, 0, 0, 0, 0), some (.iload_n 1, 1, 0, 0, 0, 0), some (.bipush 12, 2, 0, 0, 0, 12), none, some (.if_icmp .ge 17, 3, 142, 0, 0, 0), none, none, some (.aload_n 0, 1, 0, 0, 0, 0), some (.getfield 26, 3, 6, 7, 0, 0), none, none, some (.iload_n 1, 1, 0, 0, 0, 0), some (.bipush (-9), 2, 0, 0, 0, (-9)), none, some (.iastore, 1, 0, 0, 0, 0), some (.iinc 1 1, 3, 0, 0, 0, 1), none, none, some (.goto (-17), 3, 122, 0, 0, 0), none, none, some (.aload_n 0, 1, 0, 0, 0, 0), some (.invokevirtual 60, 3, 0, 0, 0, 0), none, none, some (.return_, 1, 0, 0, 0, 0)]
def mX6_init : dp_M := (RX6, yX6_init, cX6_init, 2, none, tX6_init)
set_option maxRecDepth 20000 in
theorem okX6_init : dp_ok mX6_init := ⟨⟨fl_6 ++ ff_6, [], by decide +kernel, fun y h => ⟨(List.mem_append.mp h).elim (fun h => (fl_6_ok y h).1) (ff_6_ok y), fun _ => rfl⟩, fun _ h => absurd h List.not_mem_nil⟩, rfl, dq_568, by decide +kernel, by decide +kernel, by decide +kernel, Nat.le_of_ble_eq_true rfl⟩
theorem npX6_init : dp_np yX6_init 0 := by unfold dp_np; decide +kernel
set_option maxRecDepth 20000 in
def tX6_within : List (Option dp_In) := [some (.iload_n 0, 1, 0, 0, 0, 0), some (.iload_n 1, 1, 0, 0, 0, 0), some (.if_icmp .lt 12, 3, 14, 0, 0, 0), none, none, some (.iload_n 0, 1, 0, 0, 0, 0), some (.iload_n 2, 1, 0, 0, 0, 0), some (.if_icmp .gt 7, 3, 14, 0, 0, 0), none, none, some (.iconst 1, 1, 0, 0, 0, 1), some (.goto 4, 3, 15, 0, 0, 0), none, none, some (.iconst 0, 1, 0, 0, 0, 0), some (.ireturn, 1, 0, 0, 0, 0)]
def mX6_within : dp_M := (RX6, yX6_within, cX6_within, 3, some .boolean, tX6_within)
set_option maxRecDepth 20000 in
theorem okX6_within : dp_ok mX6_within := ⟨⟨fl_6, [], by decide +kernel, fun y h => ⟨(fl_6_ok y h).1, fun z => absurd z (fl_6_ok y h).2⟩, fun _ h => absurd h List.not_mem_nil⟩, rfl, dq_675, by decide +kernel, by decide +kernel, by decide +kernel, Nat.le_of_ble_eq_true rfl⟩
theorem npX6_within : dp_np yX6_within 3 := by unfold dp_np; decide +kernel
set_option maxRecDepth 20000 in
def tX6_has : List (Option dp_In) := [some (.iload_n 0, 1, 0, 0, 0, 0), some (.iload_n 1, 1, 0, 0, 0, 0), some (.ishr, 1, 0, 0, 0, 0), some (.iconst 1, 1, 0, 0, 0, 1), some (.iand, 1, 0, 0, 0, 0), some (.iconst 1, 1, 0, 0, 0, 1), some (.if_icmp .ne 7, 3, 13, 0, 0, 0), none, none, some (.iconst 1, 1, 0, 0, 0, 1), some (.goto 4, 3, 14, 0, 0, 0), none, none, some (.iconst 0, 1, 0, 0, 0, 0), some (.ireturn, 1, 0, 0, 0, 0)]
def mX6_has : dp_M := (RX6, yX6_has, cX6_has, 2, some .boolean, tX6_has)
set_option maxRecDepth 20000 in
theorem okX6_has : dp_ok mX6_has := ⟨⟨fl_6, [], by decide +kernel, fun y h => ⟨(fl_6_ok y h).1, fun z => absurd z (fl_6_ok y h).2⟩, fun _ h => absurd h List.not_mem_nil⟩, rfl, dq_588, by decide +kernel, by decide +kernel, by decide +kernel, Nat.le_of_ble_eq_true rfl⟩
theorem npX6_has : dp_np yX6_has 2 := by unfold dp_np; decide +kernel
set_option maxRecDepth 20000 in
def tX6_size : List (Option dp_In) := [some (.iconst 0, 1, 0, 0, 0, 0), some (.istore_n 1, 1, 0, 0, 0, 0), some (.iconst 0, 1, 0, 0, 0, 0), some (.istore_n 2, 1, 0, 0, 0, 0), some (.iload_n 2, 1, 0, 0, 0, 0), some (.bipush 12, 2, 0, 0, 0, 12), none, some (.if_icmp .ge 17, 3, 24, 0, 0, 0), none, none, some (.iload_n 1, 1, 0, 0, 0, 0), some (.iload_n 0, 1, 0, 0, 0, 0), some (.iload_n 2, 1, 0, 0, 0, 0), some (.ishr, 1, 0, 0, 0, 0), some (.iconst 1, 1, 0, 0, 0, 1), some (.iand, 1, 0, 0, 0, 0), some (.iadd, 1, 0, 0, 0, 0), some (.istore_n 1, 1, 0, 0, 0, 0), some (.iinc 2 1, 3, 0, 0, 0, 1), none, none, some (.goto (-17), 3, 4, 0, 0, 0), none, none, some (.iload_n 1, 1, 0, 0, 0, 0), some (.ireturn, 1, 0, 0, 0, 0)]
def mX6_size : dp_M := (RX6, yX6_size, cX6_size, 3, some .int, tX6_size)
set_option maxRecDepth 20000 in
theorem okX6_size : dp_ok mX6_size := ⟨⟨fl_6, [], by decide +kernel, fun y h => ⟨(fl_6_ok y h).1, fun z => absurd z (fl_6_ok y h).2⟩, fun _ h => absurd h List.not_mem_nil⟩, rfl, dq_738, by decide +kernel, by decide +kernel, by decide +kernel, Nat.le_of_ble_eq_true rfl⟩
theorem npX6_size : dp_np yX6_size 1 := by unfold dp_np; decide +kernel
set_option maxRecDepth 20000 in
def tX6_isNode : List (Option dp_In) := [some (.iload_n 1, 1, 0, 0, 0, 0), some (.iconst 0, 1, 0, 0, 0, 0), some (.aload_n 0, 1, 0, 0, 0, 0), some (.getfield 7, 3, 6, 0, 0, 0), none, none, some (.iconst 1, 1, 0, 0, 0, 1), some (.isub, 1, 0, 0, 0, 0), some (.invokestatic 63, 3, 0, 0, 0, 0), none, none, some (.ireturn, 1, 0, 0, 0, 0)]
def mX6_isNode : dp_M := (RX6, yX6_isNode, cX6_isNode, 2, some .boolean, tX6_isNode)
set_option maxRecDepth 20000 in
theorem okX6_isNode : dp_ok mX6_isNode := ⟨⟨fl_6, [], by decide +kernel, fun y h => ⟨(fl_6_ok y h).1, fun z => absurd z (fl_6_ok y h).2⟩, fun _ h => absurd h List.not_mem_nil⟩, rfl, dq_695, by decide +kernel, by decide +kernel, by decide +kernel, Nat.le_of_ble_eq_true rfl⟩
theorem npX6_isNode : dp_np yX6_isNode 1 := by unfold dp_np; decide +kernel
set_option maxRecDepth 20000 in
def tX6_lays : List (Option dp_In) := [some (.aload_n 0, 1, 0, 0, 0, 0), some (.iload_n 1, 1, 0, 0, 0, 0), some (.putfield 7, 3, 6, 0, 2, 0), none, none, some (.aload_n 0, 1, 0, 0, 0, 0), some (.iload_n 2, 1, 0, 0, 0, 0), some (.putfield 13, 3, 6, 1, 2, 0), none, none, some (.aload_n 0, 1, 0, 0, 0, 0), some (.iload_n 3, 1, 0, 0, 0, 0), some (.putfield 16, 3, 6, 2, 2, 0), none, none, some (.aload_n 0, 1, 0, 0, 0, 0), some (.iconst 0, 1, 0, 0, 0, 0), some (.putfield 67, 3, 6, 4, 2, 0), none, none, some (.aload_n 0, 1, 0, 0, 0, 0), some (.iconst 0, 1, 0, 0, 0, 0), some (.putfield 70, 3, 6, 18, 2, 0), none, none, some (.iconst 0, 1, 0, 0, 0, 0), some (.istore 4, 2, 0, 0, 0, 0), none, some (.iload 4, 2, 0, 0, 0, 0), none, some (.bipush 12, 2, 0, 0, 0, 12), none, some (.if_icmp .ge 26, 3, 58, 0, 0, 0), none, none, some (.aload_n 0, 1, 0, 0, 0, 0), some (.getfield 19, 3, 6, 3, 0, 0), none, none, some (.iload 4, 2, 0, 0, 0, 0), none, some (.iconst 0, 1, 0, 0, 0, 0), some (.iastore, 1, 0, 0, 0, 0), some (.aload_n 0, 1, 0, 0, 0, 0), some (.getfield 26, 3, 6, 7, 0, 0), none, none, some (.iload 4, 2, 0, 0, 0, 0), none, some (.bipush (-9), 2, 0, 0, 0, (-9)), none, some (.iastore, 1, 0, 0, 0, 0), some (.iinc 4 1, 3, 0, 0, 0, 1), none, none, some (.goto (-27), 3, 28, 0, 0, 0), none, none, some (.aload_n 0, 1, 0, 0, 0, 0), some (.invokevirtual 73, 3, 0, 0, 0, 0), none, none, some (.return_, 1, 0, 0, 0, 0)]
def mX6_lays : dp_M := (RX6, yX6_lays, cX6_lays, 5, none, tX6_lays)
set_option maxRecDepth 20000 in
theorem okX6_lays : dp_ok mX6_lays := ⟨⟨fl_6, [], by decide +kernel, fun y h => ⟨(fl_6_ok y h).1, fun z => absurd z (fl_6_ok y h).2⟩, fun _ h => absurd h List.not_mem_nil⟩, rfl, dq_679, by decide +kernel, by decide +kernel, by decide +kernel, Nat.le_of_ble_eq_true rfl⟩
theorem npX6_lays : dp_np yX6_lays 3 := by unfold dp_np; decide +kernel
set_option maxRecDepth 20000 in
def tX6_forgets : List (Option dp_In) := [some (.aload_n 0, 1, 0, 0, 0, 0), some (.iconst 0, 1, 0, 0, 0, 0), some (.putfield 76, 3, 6, 20, 2, 0), none, none, some (.aload_n 0, 1, 0, 0, 0, 0), some (.iconst 0, 1, 0, 0, 0, 0), some (.putfield 79, 3, 6, 22, 2, 0), none, none, some (.aload_n 0, 1, 0, 0, 0, 0), some (.invokevirtual 60, 3, 0, 0, 0, 0), none, none, some (.return_, 1, 0, 0, 0, 0)]
def mX6_forgets : dp_M := (RX6, yX6_forgets, cX6_forgets, 1, none, tX6_forgets)
set_option maxRecDepth 20000 in
theorem okX6_forgets : dp_ok mX6_forgets := ⟨⟨fl_6, [], by decide +kernel, fun y h => ⟨(fl_6_ok y h).1, fun z => absurd z (fl_6_ok y h).2⟩, fun _ h => absurd h List.not_mem_nil⟩, rfl, dq_683, by decide +kernel, by decide +kernel, by decide +kernel, Nat.le_of_ble_eq_true rfl⟩
theorem npX6_forgets : dp_np yX6_forgets 0 := by unfold dp_np; decide +kernel
set_option maxRecDepth 20000 in
def tX6_net : List (Option dp_In) := [some (.iload_n 1, 1, 0, 0, 0, 0), some (.iconst 2, 1, 0, 0, 0, 2), some (.bipush 12, 2, 0, 0, 0, 12), none, some (.invokestatic 63, 3, 0, 0, 0, 0), none, none, some (.ifCond .ne 6, 3, 13, 0, 0, 0), none, none, some (.bipush (-2), 2, 0, 0, 0, (-2)), none, some (.ireturn, 1, 0, 0, 0, 0), some (.aload_n 0, 1, 0, 0, 0, 0), some (.iload_n 1, 1, 0, 0, 0, 0), some (.iload_n 1, 1, 0, 0, 0, 0), some (.iconst 1, 1, 0, 0, 0, 1), some (.invokevirtual 82, 3, 0, 0, 0, 0), none, none, some (.aload_n 0, 1, 0, 0, 0, 0), some (.getfield 7, 3, 6, 0, 0, 0), none, none, some (.ireturn, 1, 0, 0, 0, 0)]
def mX6_net : dp_M := (RX6, yX6_net, cX6_net, 2, some .int, tX6_net)
set_option maxRecDepth 20000 in
theorem okX6_net : dp_ok mX6_net := ⟨⟨fl_6, [], by decide +kernel, fun y h => ⟨(fl_6_ok y h).1, fun z => absurd z (fl_6_ok y h).2⟩, fun _ h => absurd h List.not_mem_nil⟩, rfl, dq_672, by decide +kernel, by decide +kernel, by decide +kernel, Nat.le_of_ble_eq_true rfl⟩
theorem npX6_net : dp_np yX6_net 1 := by unfold dp_np; decide +kernel
set_option maxRecDepth 20000 in
def tX6_grid : List (Option dp_In) := [some (.iload_n 1, 1, 0, 0, 0, 0), some (.iconst 1, 1, 0, 0, 0, 1), some (.bipush 12, 2, 0, 0, 0, 12), none, some (.invokestatic 63, 3, 0, 0, 0, 0), none, none, some (.ifCond .eq 34, 3, 41, 0, 0, 0), none, none, some (.iload_n 2, 1, 0, 0, 0, 0), some (.iconst 1, 1, 0, 0, 0, 1), some (.bipush 12, 2, 0, 0, 0, 12), none, some (.invokestatic 63, 3, 0, 0, 0, 0), none, none, some (.ifCond .eq 24, 3, 41, 0, 0, 0), none, none, some (.iload_n 1, 1, 0, 0, 0, 0), some (.iload_n 2, 1, 0, 0, 0, 0), some (.imul, 1, 0, 0, 0, 0), some (.iconst 2, 1, 0, 0, 0, 2), some (.bipush 12, 2, 0, 0, 0, 12), none, some (.invokestatic 63, 3, 0, 0, 0, 0), none, none, some (.ifCond .eq 12, 3, 41, 0, 0, 0), none, none, some (.iload_n 3, 1, 0, 0, 0, 0), some (.iconst 1, 1, 0, 0, 0, 1), some (.iconst 3, 1, 0, 0, 0, 3), some (.invokestatic 63, 3, 0, 0, 0, 0), none, none, some (.ifCond .ne 6, 3, 44, 0, 0, 0), none, none, some (.bipush (-2), 2, 0, 0, 0, (-2)), none, some (.ireturn, 1, 0, 0, 0, 0), some (.aload_n 0, 1, 0, 0, 0, 0), some (.iload_n 1, 1, 0, 0, 0, 0), some (.iload_n 2, 1, 0, 0, 0, 0), some (.imul, 1, 0, 0, 0, 0), some (.iload_n 1, 1, 0, 0, 0, 0), some (.iload_n 2, 1, 0, 0, 0, 0), some (.invokevirtual 82, 3, 0, 0, 0, 0), none, none, some (.iconst 0, 1, 0, 0, 0, 0), some (.istore 4, 2, 0, 0, 0, 0), none, some (.iload 4, 2, 0, 0, 0, 0), none, some (.aload_n 0, 1, 0, 0, 0, 0), some (.getfield 7, 3, 6, 0, 0, 0), none, none, some (.if_icmp .ge 96, 3, 158, 0, 0, 0), none, none, some (.iconst 0, 1, 0, 0, 0, 0), some (.istore 5, 2, 0, 0, 0, 0), none, some (.iload 5, 2, 0, 0, 0, 0), none, some (.aload_n 0, 1, 0, 0, 0, 0), some (.getfield 7, 3, 6, 0, 0, 0), none, none, some (.if_icmp .ge 78, 3, 152, 0, 0, 0), none, none, some (.iload 4, 2, 0, 0, 0, 0), none, some (.iload_n 1, 1, 0, 0, 0, 0), some (.irem, 1, 0, 0, 0, 0), some (.iload 5, 2, 0, 0, 0, 0), none, some (.iload_n 1, 1, 0, 0, 0, 0), some (.irem, 1, 0, 0, 0, 0), some (.isub, 1, 0, 0, 0, 0), some (.istore 6, 2, 0, 0, 0, 0), none, some (.iload 4, 2, 0, 0, 0, 0), none, some (.iload_n 1, 1, 0, 0, 0, 0), some (.idiv, 1, 0, 0, 0, 0), some (.iload 5, 2, 0, 0, 0, 0), none, some (.iload_n 1, 1, 0, 0, 0, 0), some (.idiv, 1, 0, 0, 0, 0), some (.isub, 1, 0, 0, 0, 0), some (.istore 7, 2, 0, 0, 0, 0), none, some (.aload_n 0, 1, 0, 0, 0, 0), some (.getfield 19, 3, 6, 3, 0, 0), none, none, some (.iload 4, 2, 0, 0, 0, 0), none, some (.dup2, 1, 0, 0, 0, 0), some (.iaload, 1, 0, 0, 0, 0), some (.iload 4, 2, 0, 0, 0, 0), none, some (.iload 5, 2, 0, 0, 0, 0), none, some (.if_icmp .eq 32, 3, 143, 0, 0, 0), none, none, some (.iload 6, 2, 0, 0, 0, 0), none, some (.iload_n 3, 1, 0, 0, 0, 0), some (.ineg, 1, 0, 0, 0, 0), some (.iload_n 3, 1, 0, 0, 0, 0), some (.invokestatic 63, 3, 0, 0, 0, 0), none, none, some (.ifCond .eq 21, 3, 143, 0, 0, 0), none, none, some (.iload 7, 2, 0, 0, 0, 0), none, some (.iload_n 3, 1, 0, 0, 0, 0), some (.ineg, 1, 0, 0, 0, 0), some (.iload_n 3, 1, 0, 0, 0, 0), some (.invokestatic 63, 3, 0, 0, 0, 0), none, none, some (.ifCond .eq 10, 3, 143, 0, 0, 0), none, none, some (.iconst 1, 1, 0, 0, 0, 1), some (.iload 5, 2, 0, 0, 0, 0), none, some (.ishl, 1, 0, 0, 0, 0), some (.goto 4, 3, 144, 0, 0, 0), none, none, some (.iconst 0, 1, 0, 0, 0, 0), some (.ior, 1, 0, 0, 0, 0), some (.iastore, 1, 0, 0, 0, 0), some (.iinc 5 1, 3, 0, 0, 0, 1), none, none, some (.goto (-81), 3, 68, 0, 0, 0), none, none, some (.iinc 4 1, 3, 0, 0, 0, 1), none, none, some (.goto (-99), 3, 56, 0, 0, 0), none, none, some (.aload_n 0, 1, 0, 0, 0, 0), some (.invokevirtual 60, 3, 0, 0, 0, 0), none, none, some (.aload_n 0, 1, 0, 0, 0, 0), some (.getfield 7, 3, 6, 0, 0, 0), none, none, some (.ireturn, 1, 0, 0, 0, 0)]
def mX6_grid : dp_M := (RX6, yX6_grid, cX6_grid, 8, some .int, tX6_grid)
set_option maxRecDepth 20000 in
theorem okX6_grid : dp_ok mX6_grid := ⟨⟨fl_6, [], by decide +kernel, fun y h => ⟨(fl_6_ok y h).1, fun z => absurd z (fl_6_ok y h).2⟩, fun _ h => absurd h List.not_mem_nil⟩, rfl, dq_687, by decide +kernel, by decide +kernel, by decide +kernel, Nat.le_of_ble_eq_true rfl⟩
theorem npX6_grid : dp_np yX6_grid 3 := by unfold dp_np; decide +kernel
set_option maxRecDepth 20000 in
def tX6_edge : List (Option dp_In) := [some (.aload_n 0, 1, 0, 0, 0, 0), some (.iload_n 1, 1, 0, 0, 0, 0), some (.invokevirtual 86, 3, 0, 0, 0, 0), none, none, some (.ifCond .eq 11, 3, 16, 0, 0, 0), none, none, some (.aload_n 0, 1, 0, 0, 0, 0), some (.iload_n 2, 1, 0, 0, 0, 0), some (.invokevirtual 86, 3, 0, 0, 0, 0), none, none, some (.ifCond .ne 5, 3, 18, 0, 0, 0), none, none, some (.iconst (-1), 1, 0, 0, 0, (-1)), some (.ireturn, 1, 0, 0, 0, 0), some (.iload_n 3, 1, 0, 0, 0, 0), some (.iconst 0, 1, 0, 0, 0, 0), some (.iconst 1, 1, 0, 0, 0, 1), some (.invokestatic 63, 3, 0, 0, 0, 0), none, none, some (.ifCond .ne 6, 3, 30, 0, 0, 0), none, none, some (.bipush (-2), 2, 0, 0, 0, (-2)), none, some (.ireturn, 1, 0, 0, 0, 0), some (.iload_n 1, 1, 0, 0, 0, 0), some (.iload_n 2, 1, 0, 0, 0, 0), some (.if_icmp .ne 6, 3, 38, 0, 0, 0), none, none, some (.bipush (-3), 2, 0, 0, 0, (-3)), none, some (.ireturn, 1, 0, 0, 0, 0), some (.aload_n 0, 1, 0, 0, 0, 0), some (.getfield 19, 3, 6, 3, 0, 0), none, none, some (.iload_n 1, 1, 0, 0, 0, 0), some (.iaload, 1, 0, 0, 0, 0), some (.iload_n 2, 1, 0, 0, 0, 0), some (.ishr, 1, 0, 0, 0, 0), some (.iconst 1, 1, 0, 0, 0, 1), some (.iand, 1, 0, 0, 0, 0), some (.istore 4, 2, 0, 0, 0, 0), none, some (.aload_n 0, 1, 0, 0, 0, 0), some (.getfield 19, 3, 6, 3, 0, 0), none, none, some (.iload_n 1, 1, 0, 0, 0, 0), some (.aload_n 0, 1, 0, 0, 0, 0), some (.getfield 19, 3, 6, 3, 0, 0), none, none, some (.iload_n 1, 1, 0, 0, 0, 0), some (.iaload, 1, 0, 0, 0, 0), some (.iconst 1, 1, 0, 0, 0, 1), some (.iload_n 2, 1, 0, 0, 0, 0), some (.ishl, 1, 0, 0, 0, 0), some (.iconst (-1), 1, 0, 0, 0, (-1)), some (.ixor, 1, 0, 0, 0, 0), some (.iand, 1, 0, 0, 0, 0), some (.iload_n 3, 1, 0, 0, 0, 0), some (.iload_n 2, 1, 0, 0, 0, 0), some (.ishl, 1, 0, 0, 0, 0), some (.ior, 1, 0, 0, 0, 0), some (.iastore, 1, 0, 0, 0, 0), some (.aload_n 0, 1, 0, 0, 0, 0), some (.getfield 19, 3, 6, 3, 0, 0), none, none, some (.iload_n 2, 1, 0, 0, 0, 0), some (.aload_n 0, 1, 0, 0, 0, 0), some (.getfield 19, 3, 6, 3, 0, 0), none, none, some (.iload_n 2, 1, 0, 0, 0, 0), some (.iaload, 1, 0, 0, 0, 0), some (.iconst 1, 1, 0, 0, 0, 1), some (.iload_n 1, 1, 0, 0, 0, 0), some (.ishl, 1, 0, 0, 0, 0), some (.iconst (-1), 1, 0, 0, 0, (-1)), some (.ixor, 1, 0, 0, 0, 0), some (.iand, 1, 0, 0, 0, 0), some (.iload_n 3, 1, 0, 0, 0, 0), some (.iload_n 1, 1, 0, 0, 0, 0), some (.ishl, 1, 0, 0, 0, 0), some (.ior, 1, 0, 0, 0, 0), some (.iastore, 1, 0, 0, 0, 0), some (.aload_n 0, 1, 0, 0, 0, 0), some (.invokevirtual 73, 3, 0, 0, 0, 0), none, none, some (.iload 4, 2, 0, 0, 0, 0), none, some (.ireturn, 1, 0, 0, 0, 0)]
def mX6_edge : dp_M := (RX6, yX6_edge, cX6_edge, 5, some .int, tX6_edge)
set_option maxRecDepth 20000 in
theorem okX6_edge : dp_ok mX6_edge := ⟨⟨fl_6, [], by decide +kernel, fun y h => ⟨(fl_6_ok y h).1, fun z => absurd z (fl_6_ok y h).2⟩, fun _ h => absurd h List.not_mem_nil⟩, rfl, dq_691, by decide +kernel, by decide +kernel, by decide +kernel, Nat.le_of_ble_eq_true rfl⟩
theorem npX6_edge : dp_np yX6_edge 3 := by unfold dp_np; decide +kernel
set_option maxRecDepth 20000 in
def tX6_neighbours : List (Option dp_In) := [some (.aload_n 0, 1, 0, 0, 0, 0), some (.iload_n 1, 1, 0, 0, 0, 0), some (.invokevirtual 86, 3, 0, 0, 0, 0), none, none, some (.ifCond .eq 12, 3, 17, 0, 0, 0), none, none, some (.aload_n 0, 1, 0, 0, 0, 0), some (.getfield 19, 3, 6, 3, 0, 0), none, none, some (.iload_n 1, 1, 0, 0, 0, 0), some (.iaload, 1, 0, 0, 0, 0), some (.goto 4, 3, 18, 0, 0, 0), none, none, some (.iconst (-1), 1, 0, 0, 0, (-1)), some (.ireturn, 1, 0, 0, 0, 0)]
def mX6_neighbours : dp_M := (RX6, yX6_neighbours, cX6_neighbours, 2, some .int, tX6_neighbours)
set_option maxRecDepth 20000 in
theorem okX6_neighbours : dp_ok mX6_neighbours := ⟨⟨fl_6, [], by decide +kernel, fun y h => ⟨(fl_6_ok y h).1, fun z => absurd z (fl_6_ok y h).2⟩, fun _ h => absurd h List.not_mem_nil⟩, rfl, dq_699, by decide +kernel, by decide +kernel, by decide +kernel, Nat.le_of_ble_eq_true rfl⟩
theorem npX6_neighbours : dp_np yX6_neighbours 1 := by unfold dp_np; decide +kernel
set_option maxRecDepth 20000 in
def tX6_dealer : List (Option dp_In) := [some (.aload_n 0, 1, 0, 0, 0, 0), some (.iload_n 1, 1, 0, 0, 0, 0), some (.invokevirtual 86, 3, 0, 0, 0, 0), none, none, some (.ifCond .ne 5, 3, 10, 0, 0, 0), none, none, some (.iconst (-1), 1, 0, 0, 0, (-1)), some (.ireturn, 1, 0, 0, 0, 0), some (.iload_n 2, 1, 0, 0, 0, 0), some (.iconst 0, 1, 0, 0, 0, 0), some (.iconst 3, 1, 0, 0, 0, 3), some (.invokestatic 63, 3, 0, 0, 0, 0), none, none, some (.ifCond .ne 6, 3, 22, 0, 0, 0), none, none, some (.bipush (-2), 2, 0, 0, 0, (-2)), none, some (.ireturn, 1, 0, 0, 0, 0), some (.aload_n 0, 1, 0, 0, 0, 0), some (.getfield 67, 3, 6, 4, 0, 0), none, none, some (.istore_n 3, 1, 0, 0, 0, 0), some (.aload_n 0, 1, 0, 0, 0, 0), some (.iload_n 1, 1, 0, 0, 0, 0), some (.putfield 67, 3, 6, 4, 2, 0), none, none, some (.aload_n 0, 1, 0, 0, 0, 0), some (.iload_n 2, 1, 0, 0, 0, 0), some (.putfield 90, 3, 6, 5, 2, 0), none, none, some (.aload_n 0, 1, 0, 0, 0, 0), some (.getfield 26, 3, 6, 7, 0, 0), none, none, some (.iload_n 1, 1, 0, 0, 0, 0), some (.bipush (-9), 2, 0, 0, 0, (-9)), none, some (.iastore, 1, 0, 0, 0, 0), some (.aload_n 0, 1, 0, 0, 0, 0), some (.invokevirtual 73, 3, 0, 0, 0, 0), none, none, some (.iload_n 3, 1, 0, 0, 0, 0), some (.ireturn, 1, 0, 0, 0, 0)]
def mX6_dealer : dp_M := (RX6, yX6_dealer, cX6_dealer, 4, some .int, tX6_dealer)
set_option maxRecDepth 20000 in
theorem okX6_dealer : dp_ok mX6_dealer := ⟨⟨fl_6, [], by decide +kernel, fun y h => ⟨(fl_6_ok y h).1, fun z => absurd z (fl_6_ok y h).2⟩, fun _ h => absurd h List.not_mem_nil⟩, rfl, dq_703, by decide +kernel, by decide +kernel, by decide +kernel, Nat.le_of_ble_eq_true rfl⟩
theorem npX6_dealer : dp_np yX6_dealer 2 := by unfold dp_np; decide +kernel
set_option maxRecDepth 20000 in
def tX6_need : List (Option dp_In) := [some (.iload_n 1, 1, 0, 0, 0, 0), some (.iconst 1, 1, 0, 0, 0, 1), some (.bipush 6, 2, 0, 0, 0, 6), none, some (.invokestatic 63, 3, 0, 0, 0, 0), none, none, some (.ifCond .ne 6, 3, 13, 0, 0, 0), none, none, some (.bipush (-2), 2, 0, 0, 0, (-2)), none, some (.ireturn, 1, 0, 0, 0, 0), some (.aload_n 0, 1, 0, 0, 0, 0), some (.getfield 23, 3, 6, 6, 0, 0), none, none, some (.istore_n 2, 1, 0, 0, 0, 0), some (.aload_n 0, 1, 0, 0, 0, 0), some (.iload_n 1, 1, 0, 0, 0, 0), some (.putfield 23, 3, 6, 6, 2, 0), none, none, some (.aload_n 0, 1, 0, 0, 0, 0), some (.invokevirtual 60, 3, 0, 0, 0, 0), none, none, some (.iload_n 2, 1, 0, 0, 0, 0), some (.ireturn, 1, 0, 0, 0, 0)]
def mX6_need : dp_M := (RX6, yX6_need, cX6_need, 3, some .int, tX6_need)
set_option maxRecDepth 20000 in
theorem okX6_need : dp_ok mX6_need := ⟨⟨fl_6, [], by decide +kernel, fun y h => ⟨(fl_6_ok y h).1, fun z => absurd z (fl_6_ok y h).2⟩, fun _ h => absurd h List.not_mem_nil⟩, rfl, dq_707, by decide +kernel, by decide +kernel, by decide +kernel, Nat.le_of_ble_eq_true rfl⟩
theorem npX6_need : dp_np yX6_need 1 := by unfold dp_np; decide +kernel
set_option maxRecDepth 20000 in
def tX6_lie : List (Option dp_In) := [some (.aload_n 0, 1, 0, 0, 0, 0), some (.iload_n 1, 1, 0, 0, 0, 0), some (.invokevirtual 86, 3, 0, 0, 0, 0), none, none, some (.ifCond .ne 5, 3, 10, 0, 0, 0), none, none, some (.iconst (-1), 1, 0, 0, 0, (-1)), some (.ireturn, 1, 0, 0, 0, 0), some (.iload_n 2, 1, 0, 0, 0, 0), some (.bipush (-9), 2, 0, 0, 0, (-9)), none, some (.if_icmp .eq 15, 3, 28, 0, 0, 0), none, none, some (.iload_n 2, 1, 0, 0, 0, 0), some (.iconst 0, 1, 0, 0, 0, 0), some (.iconst 4, 1, 0, 0, 0, 4), some (.invokestatic 63, 3, 0, 0, 0, 0), none, none, some (.ifCond .ne 6, 3, 28, 0, 0, 0), none, none, some (.bipush (-2), 2, 0, 0, 0, (-2)), none, some (.ireturn, 1, 0, 0, 0, 0), some (.iload_n 1, 1, 0, 0, 0, 0), some (.aload_n 0, 1, 0, 0, 0, 0), some (.getfield 67, 3, 6, 4, 0, 0), none, none, some (.if_icmp .ne 6, 3, 39, 0, 0, 0), none, none, some (.bipush (-3), 2, 0, 0, 0, (-3)), none, some (.ireturn, 1, 0, 0, 0, 0), some (.aload_n 0, 1, 0, 0, 0, 0), some (.getfield 26, 3, 6, 7, 0, 0), none, none, some (.iload_n 1, 1, 0, 0, 0, 0), some (.iaload, 1, 0, 0, 0, 0), some (.istore_n 3, 1, 0, 0, 0, 0), some (.aload_n 0, 1, 0, 0, 0, 0), some (.getfield 26, 3, 6, 7, 0, 0), none, none, some (.iload_n 1, 1, 0, 0, 0, 0), some (.iload_n 2, 1, 0, 0, 0, 0), some (.iastore, 1, 0, 0, 0, 0), some (.aload_n 0, 1, 0, 0, 0, 0), some (.invokevirtual 60, 3, 0, 0, 0, 0), none, none, some (.iload_n 3, 1, 0, 0, 0, 0), some (.ireturn, 1, 0, 0, 0, 0)]
def mX6_lie : dp_M := (RX6, yX6_lie, cX6_lie, 4, some .int, tX6_lie)
set_option maxRecDepth 20000 in
theorem okX6_lie : dp_ok mX6_lie := ⟨⟨fl_6, [], by decide +kernel, fun y h => ⟨(fl_6_ok y h).1, fun z => absurd z (fl_6_ok y h).2⟩, fun _ h => absurd h List.not_mem_nil⟩, rfl, dq_711, by decide +kernel, by decide +kernel, by decide +kernel, Nat.le_of_ble_eq_true rfl⟩
theorem npX6_lie : dp_np yX6_lie 2 := by unfold dp_np; decide +kernel
set_option maxRecDepth 20000 in
def tX6_isApart : List (Option dp_In) := [some (.aload_n 0, 1, 0, 0, 0, 0), some (.getfield 19, 3, 6, 3, 0, 0), none, none, some (.iload_n 1, 1, 0, 0, 0, 0), some (.iaload, 1, 0, 0, 0, 0), some (.iload_n 2, 1, 0, 0, 0, 0), some (.invokestatic 93, 3, 0, 0, 0, 0), none, none, some (.ifCond .ne 23, 3, 33, 0, 0, 0), none, none, some (.aload_n 0, 1, 0, 0, 0, 0), some (.getfield 19, 3, 6, 3, 0, 0), none, none, some (.iload_n 1, 1, 0, 0, 0, 0), some (.iaload, 1, 0, 0, 0, 0), some (.aload_n 0, 1, 0, 0, 0, 0), some (.getfield 19, 3, 6, 3, 0, 0), none, none, some (.iload_n 2, 1, 0, 0, 0, 0), some (.iaload, 1, 0, 0, 0, 0), some (.iand, 1, 0, 0, 0, 0), some (.ifCond .ne 7, 3, 33, 0, 0, 0), none, none, some (.iconst 1, 1, 0, 0, 0, 1), some (.goto 4, 3, 34, 0, 0, 0), none, none, some (.iconst 0, 1, 0, 0, 0, 0), some (.ireturn, 1, 0, 0, 0, 0)]
def mX6_isApart : dp_M := (RX6, yX6_isApart, cX6_isApart, 3, some .boolean, tX6_isApart)
set_option maxRecDepth 20000 in
theorem okX6_isApart : dp_ok mX6_isApart := ⟨⟨fl_6, [], by decide +kernel, fun y h => ⟨(fl_6_ok y h).1, fun z => absurd z (fl_6_ok y h).2⟩, fun _ h => absurd h List.not_mem_nil⟩, rfl, dq_585, by decide +kernel, by decide +kernel, by decide +kernel, Nat.le_of_ble_eq_true rfl⟩
theorem npX6_isApart : dp_np yX6_isApart 2 := by unfold dp_np; decide +kernel
set_option maxRecDepth 20000 in
def tX6_isFreeSlot : List (Option dp_In) := [some (.iconst 0, 1, 0, 0, 0, 0), some (.istore_n 3, 1, 0, 0, 0, 0), some (.iload_n 3, 1, 0, 0, 0, 0), some (.iload_n 1, 1, 0, 0, 0, 0), some (.if_icmp .ge 30, 3, 34, 0, 0, 0), none, none, some (.aload_n 0, 1, 0, 0, 0, 0), some (.getfield 29, 3, 6, 8, 0, 0), none, none, some (.iload_n 3, 1, 0, 0, 0, 0), some (.iaload, 1, 0, 0, 0, 0), some (.iload_n 2, 1, 0, 0, 0, 0), some (.if_icmp .ne 14, 3, 28, 0, 0, 0), none, none, some (.aload_n 0, 1, 0, 0, 0, 0), some (.iload_n 3, 1, 0, 0, 0, 0), some (.iload_n 1, 1, 0, 0, 0, 0), some (.invokevirtual 97, 3, 0, 0, 0, 0), none, none, some (.ifCond .ne 5, 3, 28, 0, 0, 0), none, none, some (.iconst 0, 1, 0, 0, 0, 0), some (.ireturn, 1, 0, 0, 0, 0), some (.iinc 3 1, 3, 0, 0, 0, 1), none, none, some (.goto (-29), 3, 2, 0, 0, 0), none, none, some (.iconst 1, 1, 0, 0, 0, 1), some (.ireturn, 1, 0, 0, 0, 0)]
def mX6_isFreeSlot : dp_M := (RX6, yX6_isFreeSlot, cX6_isFreeSlot, 4, some .boolean, tX6_isFreeSlot)
set_option maxRecDepth 20000 in
theorem okX6_isFreeSlot : dp_ok mX6_isFreeSlot := ⟨⟨fl_6, [], by decide +kernel, fun y h => ⟨(fl_6_ok y h).1, fun z => absurd z (fl_6_ok y h).2⟩, fun _ h => absurd h List.not_mem_nil⟩, rfl, dq_581, by decide +kernel, by decide +kernel, by decide +kernel, Nat.le_of_ble_eq_true rfl⟩
theorem npX6_isFreeSlot : dp_np yX6_isFreeSlot 2 := by unfold dp_np; decide +kernel
set_option maxRecDepth 20000 in
def tX6_dealsSlots : List (Option dp_In) := [some (.aload_n 0, 1, 0, 0, 0, 0), some (.iconst 0, 1, 0, 0, 0, 0), some (.putfield 100, 3, 6, 9, 2, 0), none, none, some (.iconst 0, 1, 0, 0, 0, 0), some (.istore_n 1, 1, 0, 0, 0, 0), some (.iload_n 1, 1, 0, 0, 0, 0), some (.aload_n 0, 1, 0, 0, 0, 0), some (.getfield 7, 3, 6, 0, 0, 0), none, none, some (.if_icmp .ge 57, 3, 69, 0, 0, 0), none, none, some (.iconst 0, 1, 0, 0, 0, 0), some (.istore_n 2, 1, 0, 0, 0, 0), some (.aload_n 0, 1, 0, 0, 0, 0), some (.iload_n 1, 1, 0, 0, 0, 0), some (.iload_n 2, 1, 0, 0, 0, 0), some (.invokevirtual 103, 3, 0, 0, 0, 0), none, none, some (.ifCond .ne 9, 3, 32, 0, 0, 0), none, none, some (.iinc 2 1, 3, 0, 0, 0, 1), none, none, some (.goto (-12), 3, 17, 0, 0, 0), none, none, some (.aload_n 0, 1, 0, 0, 0, 0), some (.getfield 29, 3, 6, 8, 0, 0), none, none, some (.iload_n 1, 1, 0, 0, 0, 0), some (.iload_n 2, 1, 0, 0, 0, 0), some (.iastore, 1, 0, 0, 0, 0), some (.aload_n 0, 1, 0, 0, 0, 0), some (.iload_n 2, 1, 0, 0, 0, 0), some (.iconst 1, 1, 0, 0, 0, 1), some (.iadd, 1, 0, 0, 0, 0), some (.aload_n 0, 1, 0, 0, 0, 0), some (.getfield 100, 3, 6, 9, 0, 0), none, none, some (.if_icmp .le 9, 3, 56, 0, 0, 0), none, none, some (.iload_n 2, 1, 0, 0, 0, 0), some (.iconst 1, 1, 0, 0, 0, 1), some (.iadd, 1, 0, 0, 0, 0), some (.goto 7, 3, 60, 0, 0, 0), none, none, some (.aload_n 0, 1, 0, 0, 0, 0), some (.getfield 100, 3, 6, 9, 0, 0), none, none, some (.putfield 100, 3, 6, 9, 2, 0), none, none, some (.iinc 1 1, 3, 0, 0, 0, 1), none, none, some (.goto (-59), 3, 7, 0, 0, 0), none, none, some (.return_, 1, 0, 0, 0, 0)]
def mX6_dealsSlots : dp_M := (RX6, yX6_dealsSlots, cX6_dealsSlots, 3, none, tX6_dealsSlots)
set_option maxRecDepth 20000 in
theorem okX6_dealsSlots : dp_ok mX6_dealsSlots := ⟨⟨fl_6, [], by decide +kernel, fun y h => ⟨(fl_6_ok y h).1, fun z => absurd z (fl_6_ok y h).2⟩, fun _ h => absurd h List.not_mem_nil⟩, rfl, dq_577, by decide +kernel, by decide +kernel, by decide +kernel, Nat.le_of_ble_eq_true rfl⟩
theorem npX6_dealsSlots : dp_np yX6_dealsSlots 0 := by unfold dp_np; decide +kernel
set_option maxRecDepth 20000 in
def tX6_begins : List (Option dp_In) := [some (.aload_n 0, 1, 0, 0, 0, 0), some (.invokevirtual 106, 3, 0, 0, 0, 0), none, none, some (.aload_n 0, 1, 0, 0, 0, 0), some (.iconst 0, 1, 0, 0, 0, 0), some (.putfield 109, 3, 6, 10, 2, 0), none, none, some (.iconst 0, 1, 0, 0, 0, 0), some (.istore_n 1, 1, 0, 0, 0, 0), some (.iload_n 1, 1, 0, 0, 0, 0), some (.bipush 12, 2, 0, 0, 0, 12), none, some (.if_icmp .ge 32, 3, 46, 0, 0, 0), none, none, some (.aload_n 0, 1, 0, 0, 0, 0), some (.getfield 32, 3, 6, 11, 0, 0), none, none, some (.iload_n 1, 1, 0, 0, 0, 0), some (.bipush (-9), 2, 0, 0, 0, (-9)), none, some (.iastore, 1, 0, 0, 0, 0), some (.aload_n 0, 1, 0, 0, 0, 0), some (.getfield 35, 3, 6, 12, 0, 0), none, none, some (.iload_n 1, 1, 0, 0, 0, 0), some (.bipush (-9), 2, 0, 0, 0, (-9)), none, some (.iastore, 1, 0, 0, 0, 0), some (.aload_n 0, 1, 0, 0, 0, 0), some (.getfield 38, 3, 6, 13, 0, 0), none, none, some (.iload_n 1, 1, 0, 0, 0, 0), some (.iconst 0, 1, 0, 0, 0, 0), some (.bastore, 1, 0, 0, 0, 0), some (.iinc 1 1, 3, 0, 0, 0, 1), none, none, some (.goto (-32), 3, 11, 0, 0, 0), none, none, some (.iconst 0, 1, 0, 0, 0, 0), some (.istore_n 1, 1, 0, 0, 0, 0), some (.iload_n 1, 1, 0, 0, 0, 0), some (.aload_n 0, 1, 0, 0, 0, 0), some (.getfield 42, 3, 6, 14, 0, 0), none, none, some (.arraylength, 1, 0, 0, 0, 0), some (.if_icmp .ge 16, 3, 70, 0, 0, 0), none, none, some (.aload_n 0, 1, 0, 0, 0, 0), some (.getfield 42, 3, 6, 14, 0, 0), none, none, some (.iload_n 1, 1, 0, 0, 0, 0), some (.iconst 0, 1, 0, 0, 0, 0), some (.iastore, 1, 0, 0, 0, 0), some (.iinc 1 1, 3, 0, 0, 0, 1), none, none, some (.goto (-19), 3, 48, 0, 0, 0), none, none, some (.aload_n 0, 1, 0, 0, 0, 0), some (.getfield 32, 3, 6, 11, 0, 0), none, none, some (.aload_n 0, 1, 0, 0, 0, 0), some (.getfield 67, 3, 6, 4, 0, 0), none, none, some (.aload_n 0, 1, 0, 0, 0, 0), some (.getfield 90, 3, 6, 5, 0, 0), none, none, some (.iastore, 1, 0, 0, 0, 0), some (.aload_n 0, 1, 0, 0, 0, 0), some (.getfield 35, 3, 6, 12, 0, 0), none, none, some (.aload_n 0, 1, 0, 0, 0, 0), some (.getfield 67, 3, 6, 4, 0, 0), none, none, some (.iconst 0, 1, 0, 0, 0, 0), some (.iastore, 1, 0, 0, 0, 0), some (.return_, 1, 0, 0, 0, 0)]
def mX6_begins : dp_M := (RX6, yX6_begins, cX6_begins, 2, none, tX6_begins)
set_option maxRecDepth 20000 in
theorem okX6_begins : dp_ok mX6_begins := ⟨⟨fl_6, [], by decide +kernel, fun y h => ⟨(fl_6_ok y h).1, fun z => absurd z (fl_6_ok y h).2⟩, fun _ h => absurd h List.not_mem_nil⟩, rfl, dq_573, by decide +kernel, by decide +kernel, by decide +kernel, Nat.le_of_ble_eq_true rfl⟩
theorem npX6_begins : dp_np yX6_begins 0 := by unfold dp_np; decide +kernel
set_option maxRecDepth 20000 in
def tX6_begin : List (Option dp_In) := [some (.aload_n 0, 1, 0, 0, 0, 0), some (.getfield 109, 3, 6, 10, 0, 0), none, none, some (.istore_n 1, 1, 0, 0, 0, 0), some (.aload_n 0, 1, 0, 0, 0, 0), some (.invokevirtual 60, 3, 0, 0, 0, 0), none, none, some (.iload_n 1, 1, 0, 0, 0, 0), some (.ireturn, 1, 0, 0, 0, 0)]
def mX6_begin : dp_M := (RX6, yX6_begin, cX6_begin, 2, some .int, tX6_begin)
set_option maxRecDepth 20000 in
theorem okX6_begin : dp_ok mX6_begin := ⟨⟨fl_6, [], by decide +kernel, fun y h => ⟨(fl_6_ok y h).1, fun z => absurd z (fl_6_ok y h).2⟩, fun _ h => absurd h List.not_mem_nil⟩, rfl, dq_715, by decide +kernel, by decide +kernel, by decide +kernel, Nat.le_of_ble_eq_true rfl⟩
theorem npX6_begin : dp_np yX6_begin 0 := by unfold dp_np; decide +kernel
set_option maxRecDepth 20000 in
def tX6_isHonest : List (Option dp_In) := [some (.aload_n 0, 1, 0, 0, 0, 0), some (.getfield 26, 3, 6, 7, 0, 0), none, none, some (.iload_n 1, 1, 0, 0, 0, 0), some (.iaload, 1, 0, 0, 0, 0), some (.bipush (-9), 2, 0, 0, 0, (-9)), none, some (.if_icmp .ne 7, 3, 15, 0, 0, 0), none, none, some (.iconst 1, 1, 0, 0, 0, 1), some (.goto 4, 3, 16, 0, 0, 0), none, none, some (.iconst 0, 1, 0, 0, 0, 0), some (.ireturn, 1, 0, 0, 0, 0)]
def mX6_isHonest : dp_M := (RX6, yX6_isHonest, cX6_isHonest, 2, some .boolean, tX6_isHonest)
set_option maxRecDepth 20000 in
theorem okX6_isHonest : dp_ok mX6_isHonest := ⟨⟨fl_6, [], by decide +kernel, fun y h => ⟨(fl_6_ok y h).1, fun z => absurd z (fl_6_ok y h).2⟩, fun _ h => absurd h List.not_mem_nil⟩, rfl, dq_731, by decide +kernel, by decide +kernel, by decide +kernel, Nat.le_of_ble_eq_true rfl⟩
theorem npX6_isHonest : dp_np yX6_isHonest 1 := by unfold dp_np; decide +kernel
set_option maxRecDepth 20000 in
def tX6_says : List (Option dp_In) := [some (.aload_n 0, 1, 0, 0, 0, 0), some (.getfield 38, 3, 6, 13, 0, 0), none, none, some (.iload_n 1, 1, 0, 0, 0, 0), some (.baload, 1, 0, 0, 0, 0), some (.ifCond .eq 6, 3, 12, 0, 0, 0), none, none, some (.bipush (-9), 2, 0, 0, 0, (-9)), none, some (.ireturn, 1, 0, 0, 0, 0), some (.aload_n 0, 1, 0, 0, 0, 0), some (.iload_n 1, 1, 0, 0, 0, 0), some (.invokevirtual 112, 3, 0, 0, 0, 0), none, none, some (.ifCond .eq 12, 3, 29, 0, 0, 0), none, none, some (.aload_n 0, 1, 0, 0, 0, 0), some (.getfield 32, 3, 6, 11, 0, 0), none, none, some (.iload_n 1, 1, 0, 0, 0, 0), some (.iaload, 1, 0, 0, 0, 0), some (.goto 24, 3, 50, 0, 0, 0), none, none, some (.aload_n 0, 1, 0, 0, 0, 0), some (.getfield 26, 3, 6, 7, 0, 0), none, none, some (.iload_n 1, 1, 0, 0, 0, 0), some (.iaload, 1, 0, 0, 0, 0), some (.iconst 4, 1, 0, 0, 0, 4), some (.if_icmp .ne 8, 3, 44, 0, 0, 0), none, none, some (.bipush (-9), 2, 0, 0, 0, (-9)), none, some (.goto 9, 3, 50, 0, 0, 0), none, none, some (.aload_n 0, 1, 0, 0, 0, 0), some (.getfield 26, 3, 6, 7, 0, 0), none, none, some (.iload_n 1, 1, 0, 0, 0, 0), some (.iaload, 1, 0, 0, 0, 0), some (.ireturn, 1, 0, 0, 0, 0)]
def mX6_says : dp_M := (RX6, yX6_says, cX6_says, 2, some .int, tX6_says)
set_option maxRecDepth 20000 in
theorem okX6_says : dp_ok mX6_says := ⟨⟨fl_6, [], by decide +kernel, fun y h => ⟨(fl_6_ok y h).1, fun z => absurd z (fl_6_ok y h).2⟩, fun _ h => absurd h List.not_mem_nil⟩, rfl, dq_727, by decide +kernel, by decide +kernel, by decide +kernel, Nat.le_of_ble_eq_true rfl⟩
theorem npX6_says : dp_np yX6_says 1 := by unfold dp_np; decide +kernel
set_option maxRecDepth 20000 in
def tX6_speaks : List (Option dp_In) := [some (.iconst 0, 1, 0, 0, 0, 0), some (.istore_n 3, 1, 0, 0, 0, 0), some (.aload_n 0, 1, 0, 0, 0, 0), some (.getfield 38, 3, 6, 13, 0, 0), none, none, some (.iload_n 1, 1, 0, 0, 0, 0), some (.iconst 1, 1, 0, 0, 0, 1), some (.bastore, 1, 0, 0, 0, 0), some (.iconst 0, 1, 0, 0, 0, 0), some (.istore 4, 2, 0, 0, 0, 0), none, some (.iload 4, 2, 0, 0, 0, 0), none, some (.aload_n 0, 1, 0, 0, 0, 0), some (.getfield 7, 3, 6, 0, 0, 0), none, none, some (.if_icmp .ge 124, 3, 142, 0, 0, 0), none, none, some (.aload_n 0, 1, 0, 0, 0, 0), some (.getfield 19, 3, 6, 3, 0, 0), none, none, some (.iload_n 1, 1, 0, 0, 0, 0), some (.iaload, 1, 0, 0, 0, 0), some (.iload 4, 2, 0, 0, 0, 0), none, some (.invokestatic 93, 3, 0, 0, 0, 0), none, none, some (.ifCond .eq 104, 3, 136, 0, 0, 0), none, none, some (.aload_n 0, 1, 0, 0, 0, 0), some (.getfield 42, 3, 6, 14, 0, 0), none, none, some (.iconst 4, 1, 0, 0, 0, 4), some (.iload 4, 2, 0, 0, 0, 0), none, some (.imul, 1, 0, 0, 0, 0), some (.iload_n 2, 1, 0, 0, 0, 0), some (.iadd, 1, 0, 0, 0, 0), some (.dup2, 1, 0, 0, 0, 0), some (.iaload, 1, 0, 0, 0, 0), some (.iconst 1, 1, 0, 0, 0, 1), some (.iload_n 1, 1, 0, 0, 0, 0), some (.ishl, 1, 0, 0, 0, 0), some (.ior, 1, 0, 0, 0, 0), some (.iastore, 1, 0, 0, 0, 0), some (.iload_n 1, 1, 0, 0, 0, 0), some (.aload_n 0, 1, 0, 0, 0, 0), some (.getfield 67, 3, 6, 4, 0, 0), none, none, some (.if_icmp .eq 24, 3, 81, 0, 0, 0), none, none, some (.aload_n 0, 1, 0, 0, 0, 0), some (.getfield 42, 3, 6, 14, 0, 0), none, none, some (.iconst 4, 1, 0, 0, 0, 4), some (.iload 4, 2, 0, 0, 0, 0), none, some (.imul, 1, 0, 0, 0, 0), some (.iload_n 2, 1, 0, 0, 0, 0), some (.iadd, 1, 0, 0, 0, 0), some (.iaload, 1, 0, 0, 0, 0), some (.invokestatic 115, 3, 0, 0, 0, 0), none, none, some (.aload_n 0, 1, 0, 0, 0, 0), some (.getfield 23, 3, 6, 6, 0, 0), none, none, some (.if_icmp .lt 7, 3, 85, 0, 0, 0), none, none, some (.iconst 1, 1, 0, 0, 0, 1), some (.goto 4, 3, 86, 0, 0, 0), none, none, some (.iconst 0, 1, 0, 0, 0, 0), some (.istore 5, 2, 0, 0, 0, 0), none, some (.aload_n 0, 1, 0, 0, 0, 0), some (.iload 4, 2, 0, 0, 0, 0), none, some (.invokevirtual 112, 3, 0, 0, 0, 0), none, none, some (.ifCond .eq 42, 3, 136, 0, 0, 0), none, none, some (.aload_n 0, 1, 0, 0, 0, 0), some (.getfield 32, 3, 6, 11, 0, 0), none, none, some (.iload 4, 2, 0, 0, 0, 0), none, some (.iaload, 1, 0, 0, 0, 0), some (.bipush (-9), 2, 0, 0, 0, (-9)), none, some (.if_icmp .ne 30, 3, 136, 0, 0, 0), none, none, some (.iload 5, 2, 0, 0, 0, 0), none, some (.ifCond .eq 25, 3, 136, 0, 0, 0), none, none, some (.aload_n 0, 1, 0, 0, 0, 0), some (.getfield 32, 3, 6, 11, 0, 0), none, none, some (.iload 4, 2, 0, 0, 0, 0), none, some (.iload_n 2, 1, 0, 0, 0, 0), some (.iastore, 1, 0, 0, 0, 0), some (.aload_n 0, 1, 0, 0, 0, 0), some (.getfield 35, 3, 6, 12, 0, 0), none, none, some (.iload 4, 2, 0, 0, 0, 0), none, some (.aload_n 0, 1, 0, 0, 0, 0), some (.getfield 109, 3, 6, 10, 0, 0), none, none, some (.iastore, 1, 0, 0, 0, 0), some (.iinc 3 1, 3, 0, 0, 0, 1), none, none, some (.iinc 4 1, 3, 0, 0, 0, 1), none, none, some (.goto (-127), 3, 12, 0, 0, 0), none, none, some (.iload_n 3, 1, 0, 0, 0, 0), some (.ireturn, 1, 0, 0, 0, 0)]
def mX6_speaks : dp_M := (RX6, yX6_speaks, cX6_speaks, 6, some .int, tX6_speaks)
set_option maxRecDepth 20000 in
theorem okX6_speaks : dp_ok mX6_speaks := ⟨⟨fl_6, [], by decide +kernel, fun y h => ⟨(fl_6_ok y h).1, fun z => absurd z (fl_6_ok y h).2⟩, fun _ h => absurd h List.not_mem_nil⟩, rfl, dq_735, by decide +kernel, by decide +kernel, by decide +kernel, Nat.le_of_ble_eq_true rfl⟩
theorem npX6_speaks : dp_np yX6_speaks 2 := by unfold dp_np; decide +kernel
set_option maxRecDepth 20000 in
def tX6_tick : List (Option dp_In) := [some (.aload_n 0, 1, 0, 0, 0, 0), some (.getfield 109, 3, 6, 10, 0, 0), none, none, some (.aload_n 0, 1, 0, 0, 0, 0), some (.getfield 100, 3, 6, 9, 0, 0), none, none, some (.irem, 1, 0, 0, 0, 0), some (.istore_n 1, 1, 0, 0, 0, 0), some (.iconst 0, 1, 0, 0, 0, 0), some (.istore_n 2, 1, 0, 0, 0, 0), some (.aload_n 0, 1, 0, 0, 0, 0), some (.dup, 1, 0, 0, 0, 0), some (.getfield 109, 3, 6, 10, 0, 0), none, none, some (.iconst 1, 1, 0, 0, 0, 1), some (.iadd, 1, 0, 0, 0, 0), some (.putfield 109, 3, 6, 10, 2, 0), none, none, some (.iconst 0, 1, 0, 0, 0, 0), some (.istore_n 3, 1, 0, 0, 0, 0), some (.iload_n 3, 1, 0, 0, 0, 0), some (.aload_n 0, 1, 0, 0, 0, 0), some (.getfield 7, 3, 6, 0, 0, 0), none, none, some (.if_icmp .ge 42, 3, 71, 0, 0, 0), none, none, some (.aload_n 0, 1, 0, 0, 0, 0), some (.getfield 29, 3, 6, 8, 0, 0), none, none, some (.iload_n 3, 1, 0, 0, 0, 0), some (.iaload, 1, 0, 0, 0, 0), some (.iload_n 1, 1, 0, 0, 0, 0), some (.if_icmp .ne 26, 3, 65, 0, 0, 0), none, none, some (.aload_n 0, 1, 0, 0, 0, 0), some (.iload_n 3, 1, 0, 0, 0, 0), some (.invokevirtual 119, 3, 0, 0, 0, 0), none, none, some (.bipush (-9), 2, 0, 0, 0, (-9)), none, some (.if_icmp .eq 16, 3, 65, 0, 0, 0), none, none, some (.iload_n 2, 1, 0, 0, 0, 0), some (.aload_n 0, 1, 0, 0, 0, 0), some (.iload_n 3, 1, 0, 0, 0, 0), some (.aload_n 0, 1, 0, 0, 0, 0), some (.iload_n 3, 1, 0, 0, 0, 0), some (.invokevirtual 119, 3, 0, 0, 0, 0), none, none, some (.invokevirtual 122, 3, 0, 0, 0, 0), none, none, some (.iadd, 1, 0, 0, 0, 0), some (.istore_n 2, 1, 0, 0, 0, 0), some (.iinc 3 1, 3, 0, 0, 0, 1), none, none, some (.goto (-44), 3, 24, 0, 0, 0), none, none, some (.iload_n 2, 1, 0, 0, 0, 0), some (.ireturn, 1, 0, 0, 0, 0)]
def mX6_tick : dp_M := (RX6, yX6_tick, cX6_tick, 4, some .int, tX6_tick)
set_option maxRecDepth 20000 in
theorem okX6_tick : dp_ok mX6_tick := ⟨⟨fl_6, [], by decide +kernel, fun y h => ⟨(fl_6_ok y h).1, fun z => absurd z (fl_6_ok y h).2⟩, fun _ h => absurd h List.not_mem_nil⟩, rfl, dq_723, by decide +kernel, by decide +kernel, by decide +kernel, Nat.le_of_ble_eq_true rfl⟩
theorem npX6_tick : dp_np yX6_tick 0 := by unfold dp_np; decide +kernel
set_option maxRecDepth 20000 in
def tX6_ticks : List (Option dp_In) := [some (.iload_n 1, 1, 0, 0, 0, 0), some (.iconst 0, 1, 0, 0, 0, 0), some (.bipush 100, 2, 0, 0, 0, 100), none, some (.invokestatic 63, 3, 0, 0, 0, 0), none, none, some (.ifCond .ne 6, 3, 13, 0, 0, 0), none, none, some (.bipush (-2), 2, 0, 0, 0, (-2)), none, some (.ireturn, 1, 0, 0, 0, 0), some (.iconst 0, 1, 0, 0, 0, 0), some (.istore_n 2, 1, 0, 0, 0, 0), some (.iconst 0, 1, 0, 0, 0, 0), some (.istore_n 3, 1, 0, 0, 0, 0), some (.iload_n 3, 1, 0, 0, 0, 0), some (.iload_n 1, 1, 0, 0, 0, 0), some (.if_icmp .ge 16, 3, 35, 0, 0, 0), none, none, some (.iload_n 2, 1, 0, 0, 0, 0), some (.aload_n 0, 1, 0, 0, 0, 0), some (.invokevirtual 126, 3, 0, 0, 0, 0), none, none, some (.iadd, 1, 0, 0, 0, 0), some (.istore_n 2, 1, 0, 0, 0, 0), some (.iinc 3 1, 3, 0, 0, 0, 1), none, none, some (.goto (-15), 3, 17, 0, 0, 0), none, none, some (.iload_n 2, 1, 0, 0, 0, 0), some (.ireturn, 1, 0, 0, 0, 0)]
def mX6_ticks : dp_M := (RX6, yX6_ticks, cX6_ticks, 4, some .int, tX6_ticks)
set_option maxRecDepth 20000 in
theorem okX6_ticks : dp_ok mX6_ticks := ⟨⟨fl_6, [], by decide +kernel, fun y h => ⟨(fl_6_ok y h).1, fun z => absurd z (fl_6_ok y h).2⟩, fun _ h => absurd h List.not_mem_nil⟩, rfl, dq_719, by decide +kernel, by decide +kernel, by decide +kernel, Nat.le_of_ble_eq_true rfl⟩
theorem npX6_ticks : dp_np yX6_ticks 1 := by unfold dp_np; decide +kernel
set_option maxRecDepth 20000 in
def tX6_heardBy : List (Option dp_In) := [some (.iconst 0, 1, 0, 0, 0, 0), some (.istore_n 2, 1, 0, 0, 0, 0), some (.iconst 0, 1, 0, 0, 0, 0), some (.istore_n 3, 1, 0, 0, 0, 0), some (.iload_n 3, 1, 0, 0, 0, 0), some (.iconst 4, 1, 0, 0, 0, 4), some (.if_icmp .ge 25, 3, 31, 0, 0, 0), none, none, some (.iload_n 2, 1, 0, 0, 0, 0), some (.aload_n 0, 1, 0, 0, 0, 0), some (.getfield 42, 3, 6, 14, 0, 0), none, none, some (.iconst 4, 1, 0, 0, 0, 4), some (.iload_n 1, 1, 0, 0, 0, 0), some (.imul, 1, 0, 0, 0, 0), some (.iload_n 3, 1, 0, 0, 0, 0), some (.iadd, 1, 0, 0, 0, 0), some (.iaload, 1, 0, 0, 0, 0), some (.invokestatic 115, 3, 0, 0, 0, 0), none, none, some (.iadd, 1, 0, 0, 0, 0), some (.istore_n 2, 1, 0, 0, 0, 0), some (.iinc 3 1, 3, 0, 0, 0, 1), none, none, some (.goto (-24), 3, 4, 0, 0, 0), none, none, some (.iload_n 2, 1, 0, 0, 0, 0), some (.ireturn, 1, 0, 0, 0, 0)]
def mX6_heardBy : dp_M := (RX6, yX6_heardBy, cX6_heardBy, 4, some .int, tX6_heardBy)
set_option maxRecDepth 20000 in
theorem okX6_heardBy : dp_ok mX6_heardBy := ⟨⟨fl_6, [], by decide +kernel, fun y h => ⟨(fl_6_ok y h).1, fun z => absurd z (fl_6_ok y h).2⟩, fun _ h => absurd h List.not_mem_nil⟩, rfl, dq_746, by decide +kernel, by decide +kernel, by decide +kernel, Nat.le_of_ble_eq_true rfl⟩
theorem npX6_heardBy : dp_np yX6_heardBy 1 := by unfold dp_np; decide +kernel
set_option maxRecDepth 20000 in
def tX6_node : List (Option dp_In) := [some (.aload_n 0, 1, 0, 0, 0, 0), some (.iload_n 1, 1, 0, 0, 0, 0), some (.invokevirtual 86, 3, 0, 0, 0, 0), none, none, some (.ifCond .ne 5, 3, 10, 0, 0, 0), none, none, some (.iconst (-1), 1, 0, 0, 0, (-1)), some (.ireturn, 1, 0, 0, 0, 0), some (.iload_n 2, 1, 0, 0, 0, 0), some (.bipush 10, 2, 0, 0, 0, 10), none, some (.bipush 13, 2, 0, 0, 0, 13), none, some (.invokestatic 63, 3, 0, 0, 0, 0), none, none, some (.ifCond .eq 20, 3, 38, 0, 0, 0), none, none, some (.aload_n 0, 1, 0, 0, 0, 0), some (.getfield 42, 3, 6, 14, 0, 0), none, none, some (.iconst 4, 1, 0, 0, 0, 4), some (.iload_n 1, 1, 0, 0, 0, 0), some (.imul, 1, 0, 0, 0, 0), some (.iload_n 2, 1, 0, 0, 0, 0), some (.iadd, 1, 0, 0, 0, 0), some (.bipush 10, 2, 0, 0, 0, 10), none, some (.isub, 1, 0, 0, 0, 0), some (.iaload, 1, 0, 0, 0, 0), some (.invokestatic 115, 3, 0, 0, 0, 0), none, none, some (.ireturn, 1, 0, 0, 0, 0), some (.iload_n 2, 1, 0, 0, 0, 0), some (.tableswitch 75 0 4 #[33, 40, 47, 54, 60], 33, 0, 0, 0, 0), none, none, none, none, none, none, none, none, none, none, none, none, none, none, none, none, none, none, none, none, none, none, none, none, none, none, none, none, none, none, none, none, some (.aload_n 0, 1, 0, 0, 0, 0), some (.getfield 29, 3, 6, 8, 0, 0), none, none, some (.iload_n 1, 1, 0, 0, 0, 0), some (.iaload, 1, 0, 0, 0, 0), some (.ireturn, 1, 0, 0, 0, 0), some (.aload_n 0, 1, 0, 0, 0, 0), some (.getfield 32, 3, 6, 11, 0, 0), none, none, some (.iload_n 1, 1, 0, 0, 0, 0), some (.iaload, 1, 0, 0, 0, 0), some (.ireturn, 1, 0, 0, 0, 0), some (.aload_n 0, 1, 0, 0, 0, 0), some (.getfield 35, 3, 6, 12, 0, 0), none, none, some (.iload_n 1, 1, 0, 0, 0, 0), some (.iaload, 1, 0, 0, 0, 0), some (.ireturn, 1, 0, 0, 0, 0), some (.aload_n 0, 1, 0, 0, 0, 0), some (.iload_n 1, 1, 0, 0, 0, 0), some (.invokevirtual 130, 3, 0, 0, 0, 0), none, none, some (.ireturn, 1, 0, 0, 0, 0), some (.aload_n 0, 1, 0, 0, 0, 0), some (.getfield 38, 3, 6, 13, 0, 0), none, none, some (.iload_n 1, 1, 0, 0, 0, 0), some (.baload, 1, 0, 0, 0, 0), some (.ifCond .eq 7, 3, 112, 0, 0, 0), none, none, some (.iconst 1, 1, 0, 0, 0, 1), some (.goto 4, 3, 113, 0, 0, 0), none, none, some (.iconst 0, 1, 0, 0, 0, 0), some (.ireturn, 1, 0, 0, 0, 0), some (.bipush (-2), 2, 0, 0, 0, (-2)), none, some (.ireturn, 1, 0, 0, 0, 0)]
def mX6_node : dp_M := (RX6, yX6_node, cX6_node, 3, some .int, tX6_node)
set_option maxRecDepth 20000 in
theorem okX6_node : dp_ok mX6_node := ⟨⟨fl_6, [], by decide +kernel, fun y h => ⟨(fl_6_ok y h).1, fun z => absurd z (fl_6_ok y h).2⟩, fun _ h => absurd h List.not_mem_nil⟩, rfl, dq_742, by decide +kernel, by decide +kernel, by decide +kernel, Nat.le_of_ble_eq_true rfl⟩
theorem npX6_node : dp_np yX6_node 2 := by unfold dp_np; decide +kernel
set_option maxRecDepth 20000 in
def tX6_manyHonest : List (Option dp_In) := [some (.iconst 0, 1, 0, 0, 0, 0), some (.istore 4, 2, 0, 0, 0, 0), none, some (.iload_n 1, 1, 0, 0, 0, 0), some (.istore 5, 2, 0, 0, 0, 0), none, some (.iload 5, 2, 0, 0, 0, 0), none, some (.iload_n 2, 1, 0, 0, 0, 0), some (.if_icmp .ge 100, 3, 109, 0, 0, 0), none, none, some (.aload_n 0, 1, 0, 0, 0, 0), some (.getfield 32, 3, 6, 11, 0, 0), none, none, some (.iload 5, 2, 0, 0, 0, 0), none, some (.iaload, 1, 0, 0, 0, 0), some (.bipush (-9), 2, 0, 0, 0, (-9)), none, some (.if_icmp .eq 7, 3, 28, 0, 0, 0), none, none, some (.iconst 1, 1, 0, 0, 0, 1), some (.goto 4, 3, 29, 0, 0, 0), none, none, some (.iconst 0, 1, 0, 0, 0, 0), some (.istore 6, 2, 0, 0, 0, 0), none, some (.iload_n 3, 1, 0, 0, 0, 0), some (.ifCond .eq 40, 3, 72, 0, 0, 0), none, none, some (.iload 6, 2, 0, 0, 0, 0), none, some (.ifCond .eq 39, 3, 76, 0, 0, 0), none, none, some (.iload_n 3, 1, 0, 0, 0, 0), some (.iconst 1, 1, 0, 0, 0, 1), some (.if_icmp .ne 7, 3, 49, 0, 0, 0), none, none, some (.iconst 1, 1, 0, 0, 0, 1), some (.goto 4, 3, 50, 0, 0, 0), none, none, some (.iconst 0, 1, 0, 0, 0, 0), some (.aload_n 0, 1, 0, 0, 0, 0), some (.getfield 32, 3, 6, 11, 0, 0), none, none, some (.iload 5, 2, 0, 0, 0, 0), none, some (.iaload, 1, 0, 0, 0, 0), some (.aload_n 0, 1, 0, 0, 0, 0), some (.getfield 90, 3, 6, 5, 0, 0), none, none, some (.if_icmp .ne 7, 3, 68, 0, 0, 0), none, none, some (.iconst 1, 1, 0, 0, 0, 1), some (.goto 4, 3, 69, 0, 0, 0), none, none, some (.iconst 0, 1, 0, 0, 0, 0), some (.if_icmp .ne 7, 3, 76, 0, 0, 0), none, none, some (.iconst 1, 1, 0, 0, 0, 1), some (.goto 4, 3, 77, 0, 0, 0), none, none, some (.iconst 0, 1, 0, 0, 0, 0), some (.istore 7, 2, 0, 0, 0, 0), none, some (.iload 4, 2, 0, 0, 0, 0), none, some (.aload_n 0, 1, 0, 0, 0, 0), some (.iload 5, 2, 0, 0, 0, 0), none, some (.invokevirtual 112, 3, 0, 0, 0, 0), none, none, some (.ifCond .eq 12, 3, 99, 0, 0, 0), none, none, some (.iload 7, 2, 0, 0, 0, 0), none, some (.ifCond .eq 7, 3, 99, 0, 0, 0), none, none, some (.iconst 1, 1, 0, 0, 0, 1), some (.goto 4, 3, 100, 0, 0, 0), none, none, some (.iconst 0, 1, 0, 0, 0, 0), some (.iadd, 1, 0, 0, 0, 0), some (.istore 4, 2, 0, 0, 0, 0), none, some (.iinc 5 1, 3, 0, 0, 0, 1), none, none, some (.goto (-100), 3, 6, 0, 0, 0), none, none, some (.iload 4, 2, 0, 0, 0, 0), none, some (.ireturn, 1, 0, 0, 0, 0)]
def mX6_manyHonest : dp_M := (RX6, yX6_manyHonest, cX6_manyHonest, 8, some .int, tX6_manyHonest)
set_option maxRecDepth 20000 in
theorem okX6_manyHonest : dp_ok mX6_manyHonest := ⟨⟨fl_6, [], by decide +kernel, fun y h => ⟨(fl_6_ok y h).1, fun z => absurd z (fl_6_ok y h).2⟩, fun _ h => absurd h List.not_mem_nil⟩, rfl, dq_758, by decide +kernel, by decide +kernel, by decide +kernel, Nat.le_of_ble_eq_true rfl⟩
theorem npX6_manyHonest : dp_np yX6_manyHonest 3 := by unfold dp_np; decide +kernel
set_option maxRecDepth 20000 in
def tX6_lastIn : List (Option dp_In) := [some (.bipush (-9), 2, 0, 0, 0, (-9)), none, some (.istore_n 3, 1, 0, 0, 0, 0), some (.iload_n 1, 1, 0, 0, 0, 0), some (.istore 4, 2, 0, 0, 0, 0), none, some (.iload 4, 2, 0, 0, 0, 0), none, some (.iload_n 2, 1, 0, 0, 0, 0), some (.if_icmp .ge 65, 3, 74, 0, 0, 0), none, none, some (.aload_n 0, 1, 0, 0, 0, 0), some (.iload 4, 2, 0, 0, 0, 0), none, some (.invokevirtual 112, 3, 0, 0, 0, 0), none, none, some (.ifCond .eq 18, 3, 36, 0, 0, 0), none, none, some (.aload_n 0, 1, 0, 0, 0, 0), some (.getfield 32, 3, 6, 11, 0, 0), none, none, some (.iload 4, 2, 0, 0, 0, 0), none, some (.iaload, 1, 0, 0, 0, 0), some (.bipush (-9), 2, 0, 0, 0, (-9)), none, some (.if_icmp .ne 6, 3, 36, 0, 0, 0), none, none, some (.bipush (-9), 2, 0, 0, 0, (-9)), none, some (.ireturn, 1, 0, 0, 0, 0), some (.aload_n 0, 1, 0, 0, 0, 0), some (.iload 4, 2, 0, 0, 0, 0), none, some (.invokevirtual 112, 3, 0, 0, 0, 0), none, none, some (.ifCond .eq 24, 3, 66, 0, 0, 0), none, none, some (.aload_n 0, 1, 0, 0, 0, 0), some (.getfield 35, 3, 6, 12, 0, 0), none, none, some (.iload 4, 2, 0, 0, 0, 0), none, some (.iaload, 1, 0, 0, 0, 0), some (.iload_n 3, 1, 0, 0, 0, 0), some (.if_icmp .le 13, 3, 66, 0, 0, 0), none, none, some (.aload_n 0, 1, 0, 0, 0, 0), some (.getfield 35, 3, 6, 12, 0, 0), none, none, some (.iload 4, 2, 0, 0, 0, 0), none, some (.iaload, 1, 0, 0, 0, 0), some (.goto 4, 3, 67, 0, 0, 0), none, none, some (.iload_n 3, 1, 0, 0, 0, 0), some (.istore_n 3, 1, 0, 0, 0, 0), some (.iinc 4 1, 3, 0, 0, 0, 1), none, none, some (.goto (-65), 3, 6, 0, 0, 0), none, none, some (.iload_n 3, 1, 0, 0, 0, 0), some (.ireturn, 1, 0, 0, 0, 0)]
def mX6_lastIn : dp_M := (RX6, yX6_lastIn, cX6_lastIn, 5, some .int, tX6_lastIn)
set_option maxRecDepth 20000 in
theorem okX6_lastIn : dp_ok mX6_lastIn := ⟨⟨fl_6, [], by decide +kernel, fun y h => ⟨(fl_6_ok y h).1, fun z => absurd z (fl_6_ok y h).2⟩, fun _ h => absurd h List.not_mem_nil⟩, rfl, dq_754, by decide +kernel, by decide +kernel, by decide +kernel, Nat.le_of_ble_eq_true rfl⟩
theorem npX6_lastIn : dp_np yX6_lastIn 2 := by unfold dp_np; decide +kernel
set_option maxRecDepth 20000 in
def tX6_band : List (Option dp_In) := [some (.iload_n 1, 1, 0, 0, 0, 0), some (.iconst 0, 1, 0, 0, 0, 0), some (.aload_n 0, 1, 0, 0, 0, 0), some (.getfield 16, 3, 6, 2, 0, 0), none, none, some (.iconst 1, 1, 0, 0, 0, 1), some (.isub, 1, 0, 0, 0, 0), some (.invokestatic 63, 3, 0, 0, 0, 0), none, none, some (.ifCond .eq 12, 3, 23, 0, 0, 0), none, none, some (.iload_n 2, 1, 0, 0, 0, 0), some (.iconst 0, 1, 0, 0, 0, 0), some (.iconst 3, 1, 0, 0, 0, 3), some (.invokestatic 63, 3, 0, 0, 0, 0), none, none, some (.ifCond .ne 6, 3, 26, 0, 0, 0), none, none, some (.bipush (-2), 2, 0, 0, 0, (-2)), none, some (.ireturn, 1, 0, 0, 0, 0), some (.aload_n 0, 1, 0, 0, 0, 0), some (.getfield 13, 3, 6, 1, 0, 0), none, none, some (.iload_n 1, 1, 0, 0, 0, 0), some (.imul, 1, 0, 0, 0, 0), some (.istore_n 3, 1, 0, 0, 0, 0), some (.iload_n 2, 1, 0, 0, 0, 0), some (.iconst 3, 1, 0, 0, 0, 3), some (.if_icmp .ne 17, 3, 52, 0, 0, 0), none, none, some (.aload_n 0, 1, 0, 0, 0, 0), some (.iload_n 3, 1, 0, 0, 0, 0), some (.iload_n 3, 1, 0, 0, 0, 0), some (.aload_n 0, 1, 0, 0, 0, 0), some (.getfield 13, 3, 6, 1, 0, 0), none, none, some (.iadd, 1, 0, 0, 0, 0), some (.invokevirtual 133, 3, 0, 0, 0, 0), none, none, some (.goto 15, 3, 64, 0, 0, 0), none, none, some (.aload_n 0, 1, 0, 0, 0, 0), some (.iload_n 3, 1, 0, 0, 0, 0), some (.iload_n 3, 1, 0, 0, 0, 0), some (.aload_n 0, 1, 0, 0, 0, 0), some (.getfield 13, 3, 6, 1, 0, 0), none, none, some (.iadd, 1, 0, 0, 0, 0), some (.iload_n 2, 1, 0, 0, 0, 0), some (.invokevirtual 136, 3, 0, 0, 0, 0), none, none, some (.ireturn, 1, 0, 0, 0, 0)]
def mX6_band : dp_M := (RX6, yX6_band, cX6_band, 4, some .int, tX6_band)
set_option maxRecDepth 20000 in
theorem okX6_band : dp_ok mX6_band := ⟨⟨fl_6, [], by decide +kernel, fun y h => ⟨(fl_6_ok y h).1, fun z => absurd z (fl_6_ok y h).2⟩, fun _ h => absurd h List.not_mem_nil⟩, rfl, dq_750, by decide +kernel, by decide +kernel, by decide +kernel, Nat.le_of_ble_eq_true rfl⟩
theorem npX6_band : dp_np yX6_band 2 := by unfold dp_np; decide +kernel
set_option maxRecDepth 20000 in
def tX6_isSet : List (Option dp_In) := [some (.iload_n 1, 1, 0, 0, 0, 0), some (.ifCond .lt 28, 3, 29, 0, 0, 0), none, none, some (.iload_n 1, 1, 0, 0, 0, 0), some (.iconst 1, 1, 0, 0, 0, 1), some (.aload_n 0, 1, 0, 0, 0, 0), some (.getfield 7, 3, 6, 0, 0, 0), none, none, some (.ishl, 1, 0, 0, 0, 0), some (.if_icmp .ge 18, 3, 29, 0, 0, 0), none, none, some (.iload_n 1, 1, 0, 0, 0, 0), some (.aload_n 0, 1, 0, 0, 0, 0), some (.getfield 67, 3, 6, 4, 0, 0), none, none, some (.invokestatic 93, 3, 0, 0, 0, 0), none, none, some (.ifCond .ne 7, 3, 29, 0, 0, 0), none, none, some (.iconst 1, 1, 0, 0, 0, 1), some (.goto 4, 3, 30, 0, 0, 0), none, none, some (.iconst 0, 1, 0, 0, 0, 0), some (.ireturn, 1, 0, 0, 0, 0)]
def mX6_isSet : dp_M := (RX6, yX6_isSet, cX6_isSet, 2, some .boolean, tX6_isSet)
set_option maxRecDepth 20000 in
theorem okX6_isSet : dp_ok mX6_isSet := ⟨⟨fl_6, [], by decide +kernel, fun y h => ⟨(fl_6_ok y h).1, fun z => absurd z (fl_6_ok y h).2⟩, fun _ h => absurd h List.not_mem_nil⟩, rfl, dq_766, by decide +kernel, by decide +kernel, by decide +kernel, Nat.le_of_ble_eq_true rfl⟩
theorem npX6_isSet : dp_np yX6_isSet 1 := by unfold dp_np; decide +kernel
set_option maxRecDepth 20000 in
def tX6_crowdedBy : List (Option dp_In) := [some (.iconst 0, 1, 0, 0, 0, 0), some (.istore_n 3, 1, 0, 0, 0, 0), some (.iload_n 3, 1, 0, 0, 0, 0), some (.aload_n 0, 1, 0, 0, 0, 0), some (.getfield 7, 3, 6, 0, 0, 0), none, none, some (.if_icmp .ge 34, 3, 41, 0, 0, 0), none, none, some (.iload_n 1, 1, 0, 0, 0, 0), some (.iload_n 3, 1, 0, 0, 0, 0), some (.invokestatic 93, 3, 0, 0, 0, 0), none, none, some (.ifCond .ne 20, 3, 35, 0, 0, 0), none, none, some (.aload_n 0, 1, 0, 0, 0, 0), some (.getfield 19, 3, 6, 3, 0, 0), none, none, some (.iload_n 3, 1, 0, 0, 0, 0), some (.iaload, 1, 0, 0, 0, 0), some (.iload_n 1, 1, 0, 0, 0, 0), some (.iand, 1, 0, 0, 0, 0), some (.invokestatic 115, 3, 0, 0, 0, 0), none, none, some (.iload_n 2, 1, 0, 0, 0, 0), some (.if_icmp .lt 5, 3, 35, 0, 0, 0), none, none, some (.iload_n 3, 1, 0, 0, 0, 0), some (.ireturn, 1, 0, 0, 0, 0), some (.iinc 3 1, 3, 0, 0, 0, 1), none, none, some (.goto (-36), 3, 2, 0, 0, 0), none, none, some (.bipush (-9), 2, 0, 0, 0, (-9)), none, some (.ireturn, 1, 0, 0, 0, 0)]
def mX6_crowdedBy : dp_M := (RX6, yX6_crowdedBy, cX6_crowdedBy, 4, some .int, tX6_crowdedBy)
set_option maxRecDepth 20000 in
theorem okX6_crowdedBy : dp_ok mX6_crowdedBy := ⟨⟨fl_6, [], by decide +kernel, fun y h => ⟨(fl_6_ok y h).1, fun z => absurd z (fl_6_ok y h).2⟩, fun _ h => absurd h List.not_mem_nil⟩, rfl, dq_770, by decide +kernel, by decide +kernel, by decide +kernel, Nat.le_of_ble_eq_true rfl⟩
theorem npX6_crowdedBy : dp_np yX6_crowdedBy 2 := by unfold dp_np; decide +kernel
set_option maxRecDepth 20000 in
def tX6_reachedBy : List (Option dp_In) := [some (.iconst 1, 1, 0, 0, 0, 1), some (.aload_n 0, 1, 0, 0, 0, 0), some (.getfield 67, 3, 6, 4, 0, 0), none, none, some (.ishl, 1, 0, 0, 0, 0), some (.aload_n 0, 1, 0, 0, 0, 0), some (.getfield 19, 3, 6, 3, 0, 0), none, none, some (.aload_n 0, 1, 0, 0, 0, 0), some (.getfield 67, 3, 6, 4, 0, 0), none, none, some (.iaload, 1, 0, 0, 0, 0), some (.ior, 1, 0, 0, 0, 0), some (.iload_n 1, 1, 0, 0, 0, 0), some (.iconst (-1), 1, 0, 0, 0, (-1)), some (.ixor, 1, 0, 0, 0, 0), some (.iand, 1, 0, 0, 0, 0), some (.istore_n 3, 1, 0, 0, 0, 0), some (.iconst 1, 1, 0, 0, 0, 1), some (.istore 4, 2, 0, 0, 0, 0), none, some (.iload 4, 2, 0, 0, 0, 0), none, some (.ifCond .eq 71, 3, 97, 0, 0, 0), none, none, some (.iconst 0, 1, 0, 0, 0, 0), some (.istore 4, 2, 0, 0, 0, 0), none, some (.iconst 0, 1, 0, 0, 0, 0), some (.istore 5, 2, 0, 0, 0, 0), none, some (.iload 5, 2, 0, 0, 0, 0), none, some (.aload_n 0, 1, 0, 0, 0, 0), some (.getfield 7, 3, 6, 0, 0, 0), none, none, some (.if_icmp .ge 53, 3, 94, 0, 0, 0), none, none, some (.iload_n 1, 1, 0, 0, 0, 0), some (.iload 5, 2, 0, 0, 0, 0), none, some (.invokestatic 93, 3, 0, 0, 0, 0), none, none, some (.ifCond .ne 38, 3, 88, 0, 0, 0), none, none, some (.iload_n 3, 1, 0, 0, 0, 0), some (.iload 5, 2, 0, 0, 0, 0), none, some (.invokestatic 93, 3, 0, 0, 0, 0), none, none, some (.ifCond .ne 29, 3, 88, 0, 0, 0), none, none, some (.aload_n 0, 1, 0, 0, 0, 0), some (.getfield 19, 3, 6, 3, 0, 0), none, none, some (.iload 5, 2, 0, 0, 0, 0), none, some (.iaload, 1, 0, 0, 0, 0), some (.iload_n 3, 1, 0, 0, 0, 0), some (.iand, 1, 0, 0, 0, 0), some (.invokestatic 115, 3, 0, 0, 0, 0), none, none, some (.iload_n 2, 1, 0, 0, 0, 0), some (.if_icmp .lt 13, 3, 88, 0, 0, 0), none, none, some (.iload_n 3, 1, 0, 0, 0, 0), some (.iconst 1, 1, 0, 0, 0, 1), some (.iload 5, 2, 0, 0, 0, 0), none, some (.ishl, 1, 0, 0, 0, 0), some (.ior, 1, 0, 0, 0, 0), some (.istore_n 3, 1, 0, 0, 0, 0), some (.iconst 1, 1, 0, 0, 0, 1), some (.istore 4, 2, 0, 0, 0, 0), none, some (.iinc 5 1, 3, 0, 0, 0, 1), none, none, some (.goto (-56), 3, 35, 0, 0, 0), none, none, some (.goto (-70), 3, 24, 0, 0, 0), none, none, some (.iload_n 3, 1, 0, 0, 0, 0), some (.ireturn, 1, 0, 0, 0, 0)]
def mX6_reachedBy : dp_M := (RX6, yX6_reachedBy, cX6_reachedBy, 6, some .int, tX6_reachedBy)
set_option maxRecDepth 20000 in
theorem okX6_reachedBy : dp_ok mX6_reachedBy := ⟨⟨fl_6, [], by decide +kernel, fun y h => ⟨(fl_6_ok y h).1, fun z => absurd z (fl_6_ok y h).2⟩, fun _ h => absurd h List.not_mem_nil⟩, rfl, dq_778, by decide +kernel, by decide +kernel, by decide +kernel, Nat.le_of_ble_eq_true rfl⟩
theorem npX6_reachedBy : dp_np yX6_reachedBy 2 := by unfold dp_np; decide +kernel
set_option maxRecDepth 20000 in
def tX6_cutBy : List (Option dp_In) := [some (.iconst 1, 1, 0, 0, 0, 1), some (.aload_n 0, 1, 0, 0, 0, 0), some (.getfield 7, 3, 6, 0, 0, 0), none, none, some (.ishl, 1, 0, 0, 0, 0), some (.iconst 1, 1, 0, 0, 0, 1), some (.isub, 1, 0, 0, 0, 0), some (.iload_n 1, 1, 0, 0, 0, 0), some (.iconst (-1), 1, 0, 0, 0, (-1)), some (.ixor, 1, 0, 0, 0, 0), some (.iand, 1, 0, 0, 0, 0), some (.aload_n 0, 1, 0, 0, 0, 0), some (.iload_n 1, 1, 0, 0, 0, 0), some (.iload_n 2, 1, 0, 0, 0, 0), some (.invokevirtual 140, 3, 0, 0, 0, 0), none, none, some (.iconst (-1), 1, 0, 0, 0, (-1)), some (.ixor, 1, 0, 0, 0, 0), some (.iand, 1, 0, 0, 0, 0), some (.ireturn, 1, 0, 0, 0, 0)]
def mX6_cutBy : dp_M := (RX6, yX6_cutBy, cX6_cutBy, 3, some .int, tX6_cutBy)
set_option maxRecDepth 20000 in
theorem okX6_cutBy : dp_ok mX6_cutBy := ⟨⟨fl_6, [], by decide +kernel, fun y h => ⟨(fl_6_ok y h).1, fun z => absurd z (fl_6_ok y h).2⟩, fun _ h => absurd h List.not_mem_nil⟩, rfl, dq_774, by decide +kernel, by decide +kernel, by decide +kernel, Nat.le_of_ble_eq_true rfl⟩
theorem npX6_cutBy : dp_np yX6_cutBy 2 := by unfold dp_np; decide +kernel
set_option maxRecDepth 20000 in
def tX6_sort : List (Option dp_In) := [some (.aload_n 0, 1, 0, 0, 0, 0), some (.iload_n 1, 1, 0, 0, 0, 0), some (.invokevirtual 143, 3, 0, 0, 0, 0), none, none, some (.ifCond .ne 6, 3, 11, 0, 0, 0), none, none, some (.bipush (-2), 2, 0, 0, 0, (-2)), none, some (.ireturn, 1, 0, 0, 0, 0), some (.aload_n 0, 1, 0, 0, 0, 0), some (.iload_n 1, 1, 0, 0, 0, 0), some (.aload_n 0, 1, 0, 0, 0, 0), some (.getfield 23, 3, 6, 6, 0, 0), none, none, some (.invokevirtual 146, 3, 0, 0, 0, 0), none, none, some (.bipush (-9), 2, 0, 0, 0, (-9)), none, some (.if_icmp .eq 5, 3, 27, 0, 0, 0), none, none, some (.iconst 0, 1, 0, 0, 0, 0), some (.ireturn, 1, 0, 0, 0, 0), some (.aload_n 0, 1, 0, 0, 0, 0), some (.iload_n 1, 1, 0, 0, 0, 0), some (.aload_n 0, 1, 0, 0, 0, 0), some (.getfield 23, 3, 6, 6, 0, 0), none, none, some (.invokevirtual 149, 3, 0, 0, 0, 0), none, none, some (.ifCond .eq 7, 3, 43, 0, 0, 0), none, none, some (.iconst 1, 1, 0, 0, 0, 1), some (.goto 4, 3, 44, 0, 0, 0), none, none, some (.iconst 2, 1, 0, 0, 0, 2), some (.ireturn, 1, 0, 0, 0, 0)]
def mX6_sort : dp_M := (RX6, yX6_sort, cX6_sort, 2, some .int, tX6_sort)
set_option maxRecDepth 20000 in
theorem okX6_sort : dp_ok mX6_sort := ⟨⟨fl_6, [], by decide +kernel, fun y h => ⟨(fl_6_ok y h).1, fun z => absurd z (fl_6_ok y h).2⟩, fun _ h => absurd h List.not_mem_nil⟩, rfl, dq_762, by decide +kernel, by decide +kernel, by decide +kernel, Nat.le_of_ble_eq_true rfl⟩
theorem npX6_sort : dp_np yX6_sort 1 := by unfold dp_np; decide +kernel
set_option maxRecDepth 20000 in
def tX6_crowded : List (Option dp_In) := [some (.aload_n 0, 1, 0, 0, 0, 0), some (.iload_n 1, 1, 0, 0, 0, 0), some (.invokevirtual 143, 3, 0, 0, 0, 0), none, none, some (.ifCond .eq 15, 3, 20, 0, 0, 0), none, none, some (.aload_n 0, 1, 0, 0, 0, 0), some (.iload_n 1, 1, 0, 0, 0, 0), some (.aload_n 0, 1, 0, 0, 0, 0), some (.getfield 23, 3, 6, 6, 0, 0), none, none, some (.invokevirtual 146, 3, 0, 0, 0, 0), none, none, some (.goto 5, 3, 22, 0, 0, 0), none, none, some (.bipush (-2), 2, 0, 0, 0, (-2)), none, some (.ireturn, 1, 0, 0, 0, 0)]
def mX6_crowded : dp_M := (RX6, yX6_crowded, cX6_crowded, 2, some .int, tX6_crowded)
set_option maxRecDepth 20000 in
theorem okX6_crowded : dp_ok mX6_crowded := ⟨⟨fl_6, [], by decide +kernel, fun y h => ⟨(fl_6_ok y h).1, fun z => absurd z (fl_6_ok y h).2⟩, fun _ h => absurd h List.not_mem_nil⟩, rfl, dq_782, by decide +kernel, by decide +kernel, by decide +kernel, Nat.le_of_ble_eq_true rfl⟩
theorem npX6_crowded : dp_np yX6_crowded 1 := by unfold dp_np; decide +kernel
set_option maxRecDepth 20000 in
def tX6_reached : List (Option dp_In) := [some (.aload_n 0, 1, 0, 0, 0, 0), some (.iload_n 1, 1, 0, 0, 0, 0), some (.invokevirtual 143, 3, 0, 0, 0, 0), none, none, some (.ifCond .eq 15, 3, 20, 0, 0, 0), none, none, some (.aload_n 0, 1, 0, 0, 0, 0), some (.iload_n 1, 1, 0, 0, 0, 0), some (.aload_n 0, 1, 0, 0, 0, 0), some (.getfield 23, 3, 6, 6, 0, 0), none, none, some (.invokevirtual 140, 3, 0, 0, 0, 0), none, none, some (.goto 5, 3, 22, 0, 0, 0), none, none, some (.bipush (-2), 2, 0, 0, 0, (-2)), none, some (.ireturn, 1, 0, 0, 0, 0)]
def mX6_reached : dp_M := (RX6, yX6_reached, cX6_reached, 2, some .int, tX6_reached)
set_option maxRecDepth 20000 in
theorem okX6_reached : dp_ok mX6_reached := ⟨⟨fl_6, [], by decide +kernel, fun y h => ⟨(fl_6_ok y h).1, fun z => absurd z (fl_6_ok y h).2⟩, fun _ h => absurd h List.not_mem_nil⟩, rfl, dq_786, by decide +kernel, by decide +kernel, by decide +kernel, Nat.le_of_ble_eq_true rfl⟩
theorem npX6_reached : dp_np yX6_reached 1 := by unfold dp_np; decide +kernel
set_option maxRecDepth 20000 in
def tX6_triesSets : List (Option dp_In) := [some (.aload_n 0, 1, 0, 0, 0, 0), some (.iconst 0, 1, 0, 0, 0, 0), some (.putfield 152, 3, 6, 15, 2, 0), none, none, some (.aload_n 0, 1, 0, 0, 0, 0), some (.iconst 0, 1, 0, 0, 0, 0), some (.putfield 155, 3, 6, 16, 2, 0), none, none, some (.aload_n 0, 1, 0, 0, 0, 0), some (.iconst 0, 1, 0, 0, 0, 0), some (.putfield 158, 3, 6, 17, 2, 0), none, none, some (.iconst 0, 1, 0, 0, 0, 0), some (.istore_n 2, 1, 0, 0, 0, 0), some (.iload_n 2, 1, 0, 0, 0, 0), some (.iconst 1, 1, 0, 0, 0, 1), some (.aload_n 0, 1, 0, 0, 0, 0), some (.getfield 7, 3, 6, 0, 0, 0), none, none, some (.ishl, 1, 0, 0, 0, 0), some (.if_icmp .ge 121, 3, 145, 0, 0, 0), none, none, some (.iload_n 2, 1, 0, 0, 0, 0), some (.aload_n 0, 1, 0, 0, 0, 0), some (.getfield 67, 3, 6, 4, 0, 0), none, none, some (.invokestatic 93, 3, 0, 0, 0, 0), none, none, some (.ifCond .ne 104, 3, 139, 0, 0, 0), none, none, some (.aload_n 0, 1, 0, 0, 0, 0), some (.iload_n 2, 1, 0, 0, 0, 0), some (.iload_n 1, 1, 0, 0, 0, 0), some (.invokevirtual 146, 3, 0, 0, 0, 0), none, none, some (.bipush (-9), 2, 0, 0, 0, (-9)), none, some (.if_icmp .ne 93, 3, 139, 0, 0, 0), none, none, some (.aload_n 0, 1, 0, 0, 0, 0), some (.dup, 1, 0, 0, 0, 0), some (.getfield 155, 3, 6, 16, 0, 0), none, none, some (.iconst 1, 1, 0, 0, 0, 1), some (.iadd, 1, 0, 0, 0, 0), some (.putfield 155, 3, 6, 16, 2, 0), none, none, some (.aload_n 0, 1, 0, 0, 0, 0), some (.dup, 1, 0, 0, 0, 0), some (.getfield 158, 3, 6, 17, 0, 0), none, none, some (.aload_n 0, 1, 0, 0, 0, 0), some (.iload_n 2, 1, 0, 0, 0, 0), some (.iload_n 1, 1, 0, 0, 0, 0), some (.invokevirtual 149, 3, 0, 0, 0, 0), none, none, some (.ifCond .eq 7, 3, 77, 0, 0, 0), none, none, some (.iconst 1, 1, 0, 0, 0, 1), some (.goto 4, 3, 78, 0, 0, 0), none, none, some (.iconst 0, 1, 0, 0, 0, 0), some (.iadd, 1, 0, 0, 0, 0), some (.putfield 158, 3, 6, 17, 2, 0), none, none, some (.aload_n 0, 1, 0, 0, 0, 0), some (.iload_n 2, 1, 0, 0, 0, 0), some (.iload_n 1, 1, 0, 0, 0, 0), some (.invokevirtual 149, 3, 0, 0, 0, 0), none, none, some (.invokestatic 115, 3, 0, 0, 0, 0), none, none, some (.aload_n 0, 1, 0, 0, 0, 0), some (.aload_n 0, 1, 0, 0, 0, 0), some (.getfield 152, 3, 6, 15, 0, 0), none, none, some (.iload_n 1, 1, 0, 0, 0, 0), some (.invokevirtual 149, 3, 0, 0, 0, 0), none, none, some (.invokestatic 115, 3, 0, 0, 0, 0), none, none, some (.isub, 1, 0, 0, 0, 0), some (.istore_n 3, 1, 0, 0, 0, 0), some (.aload_n 0, 1, 0, 0, 0, 0), some (.iload_n 3, 1, 0, 0, 0, 0), some (.ifCond .gt 21, 3, 128, 0, 0, 0), none, none, some (.iload_n 3, 1, 0, 0, 0, 0), some (.ifCond .ne 21, 3, 132, 0, 0, 0), none, none, some (.iload_n 2, 1, 0, 0, 0, 0), some (.invokestatic 115, 3, 0, 0, 0, 0), none, none, some (.aload_n 0, 1, 0, 0, 0, 0), some (.getfield 152, 3, 6, 15, 0, 0), none, none, some (.invokestatic 115, 3, 0, 0, 0, 0), none, none, some (.if_icmp .ge 7, 3, 132, 0, 0, 0), none, none, some (.iload_n 2, 1, 0, 0, 0, 0), some (.goto 7, 3, 136, 0, 0, 0), none, none, some (.aload_n 0, 1, 0, 0, 0, 0), some (.getfield 152, 3, 6, 15, 0, 0), none, none, some (.putfield 152, 3, 6, 15, 2, 0), none, none, some (.iinc 2 1, 3, 0, 0, 0, 1), none, none, some (.goto (-125), 3, 17, 0, 0, 0), none, none, some (.return_, 1, 0, 0, 0, 0)]
def mX6_triesSets : dp_M := (RX6, yX6_triesSets, cX6_triesSets, 4, none, tX6_triesSets)
set_option maxRecDepth 20000 in
theorem okX6_triesSets : dp_ok mX6_triesSets := ⟨⟨fl_6, [], by decide +kernel, fun y h => ⟨(fl_6_ok y h).1, fun z => absurd z (fl_6_ok y h).2⟩, fun _ h => absurd h List.not_mem_nil⟩, rfl, dq_794, by decide +kernel, by decide +kernel, by decide +kernel, Nat.le_of_ble_eq_true rfl⟩
theorem npX6_triesSets : dp_np yX6_triesSets 1 := by unfold dp_np; decide +kernel
set_option maxRecDepth 20000 in
def tX6_worst : List (Option dp_In) := [some (.iload_n 1, 1, 0, 0, 0, 0), some (.iconst 0, 1, 0, 0, 0, 0), some (.iconst 3, 1, 0, 0, 0, 3), some (.invokestatic 63, 3, 0, 0, 0, 0), none, none, some (.ifCond .ne 6, 3, 12, 0, 0, 0), none, none, some (.bipush (-2), 2, 0, 0, 0, (-2)), none, some (.ireturn, 1, 0, 0, 0, 0), some (.aload_n 0, 1, 0, 0, 0, 0), some (.aload_n 0, 1, 0, 0, 0, 0), some (.getfield 23, 3, 6, 6, 0, 0), none, none, some (.invokevirtual 161, 3, 0, 0, 0, 0), none, none, some (.iload_n 1, 1, 0, 0, 0, 0), some (.tableswitch 50 0 2 #[27, 32, 45], 27, 0, 0, 0, 0), none, none, none, none, none, none, none, none, none, none, none, none, none, none, none, none, none, none, none, none, none, none, none, none, none, none, some (.aload_n 0, 1, 0, 0, 0, 0), some (.getfield 152, 3, 6, 15, 0, 0), none, none, some (.ireturn, 1, 0, 0, 0, 0), some (.aload_n 0, 1, 0, 0, 0, 0), some (.aload_n 0, 1, 0, 0, 0, 0), some (.getfield 152, 3, 6, 15, 0, 0), none, none, some (.aload_n 0, 1, 0, 0, 0, 0), some (.getfield 23, 3, 6, 6, 0, 0), none, none, some (.invokevirtual 149, 3, 0, 0, 0, 0), none, none, some (.ireturn, 1, 0, 0, 0, 0), some (.aload_n 0, 1, 0, 0, 0, 0), some (.getfield 155, 3, 6, 16, 0, 0), none, none, some (.ireturn, 1, 0, 0, 0, 0), some (.aload_n 0, 1, 0, 0, 0, 0), some (.getfield 158, 3, 6, 17, 0, 0), none, none, some (.ireturn, 1, 0, 0, 0, 0)]
def mX6_worst : dp_M := (RX6, yX6_worst, cX6_worst, 2, some .int, tX6_worst)
set_option maxRecDepth 20000 in
theorem okX6_worst : dp_ok mX6_worst := ⟨⟨fl_6, [], by decide +kernel, fun y h => ⟨(fl_6_ok y h).1, fun z => absurd z (fl_6_ok y h).2⟩, fun _ h => absurd h List.not_mem_nil⟩, rfl, dq_790, by decide +kernel, by decide +kernel, by decide +kernel, Nat.le_of_ble_eq_true rfl⟩
theorem npX6_worst : dp_np yX6_worst 1 := by unfold dp_np; decide +kernel
set_option maxRecDepth 20000 in
def tX6_bears : List (Option dp_In) := [some (.bipush (-9), 2, 0, 0, 0, (-9)), none, some (.istore_n 1, 1, 0, 0, 0, 0), some (.iconst 1, 1, 0, 0, 0, 1), some (.istore_n 2, 1, 0, 0, 0, 0), some (.iload_n 2, 1, 0, 0, 0, 0), some (.bipush 6, 2, 0, 0, 0, 6), none, some (.if_icmp .gt 27, 3, 35, 0, 0, 0), none, none, some (.aload_n 0, 1, 0, 0, 0, 0), some (.iload_n 2, 1, 0, 0, 0, 0), some (.invokevirtual 161, 3, 0, 0, 0, 0), none, none, some (.aload_n 0, 1, 0, 0, 0, 0), some (.getfield 158, 3, 6, 17, 0, 0), none, none, some (.ifCond .ne 7, 3, 27, 0, 0, 0), none, none, some (.iload_n 2, 1, 0, 0, 0, 0), some (.goto 4, 3, 28, 0, 0, 0), none, none, some (.iload_n 1, 1, 0, 0, 0, 0), some (.istore_n 1, 1, 0, 0, 0, 0), some (.iinc 2 1, 3, 0, 0, 0, 1), none, none, some (.goto (-27), 3, 5, 0, 0, 0), none, none, some (.iload_n 1, 1, 0, 0, 0, 0), some (.ireturn, 1, 0, 0, 0, 0)]
def mX6_bears : dp_M := (RX6, yX6_bears, cX6_bears, 3, some .int, tX6_bears)
set_option maxRecDepth 20000 in
theorem okX6_bears : dp_ok mX6_bears := ⟨⟨fl_6, [], by decide +kernel, fun y h => ⟨(fl_6_ok y h).1, fun z => absurd z (fl_6_ok y h).2⟩, fun _ h => absurd h List.not_mem_nil⟩, rfl, dq_798, by decide +kernel, by decide +kernel, by decide +kernel, Nat.le_of_ble_eq_true rfl⟩
theorem npX6_bears : dp_np yX6_bears 0 := by unfold dp_np; decide +kernel
set_option maxRecDepth 20000 in
def tX6_name : List (Option dp_In) := [some (.aload_n 0, 1, 0, 0, 0, 0), some (.iload_n 1, 1, 0, 0, 0, 0), some (.invokevirtual 143, 3, 0, 0, 0, 0), none, none, some (.ifCond .ne 6, 3, 11, 0, 0, 0), none, none, some (.bipush (-2), 2, 0, 0, 0, (-2)), none, some (.ireturn, 1, 0, 0, 0, 0), some (.aload_n 0, 1, 0, 0, 0, 0), some (.iload_n 1, 1, 0, 0, 0, 0), some (.aload_n 0, 1, 0, 0, 0, 0), some (.getfield 23, 3, 6, 6, 0, 0), none, none, some (.invokevirtual 149, 3, 0, 0, 0, 0), none, none, some (.istore_n 2, 1, 0, 0, 0, 0), some (.iload_n 2, 1, 0, 0, 0, 0), some (.ifCond .ne 6, 3, 28, 0, 0, 0), none, none, some (.bipush (-3), 2, 0, 0, 0, (-3)), none, some (.ireturn, 1, 0, 0, 0, 0), some (.iconst 0, 1, 0, 0, 0, 0), some (.istore_n 3, 1, 0, 0, 0, 0), some (.iload_n 3, 1, 0, 0, 0, 0), some (.aload_n 0, 1, 0, 0, 0, 0), some (.getfield 70, 3, 6, 18, 0, 0), none, none, some (.if_icmp .ge 21, 3, 56, 0, 0, 0), none, none, some (.aload_n 0, 1, 0, 0, 0, 0), some (.getfield 45, 3, 6, 19, 0, 0), none, none, some (.iload_n 3, 1, 0, 0, 0, 0), some (.iaload, 1, 0, 0, 0, 0), some (.iload_n 2, 1, 0, 0, 0, 0), some (.if_icmp .ne 5, 3, 50, 0, 0, 0), none, none, some (.iload_n 3, 1, 0, 0, 0, 0), some (.ireturn, 1, 0, 0, 0, 0), some (.iinc 3 1, 3, 0, 0, 0, 1), none, none, some (.goto (-23), 3, 30, 0, 0, 0), none, none, some (.aload_n 0, 1, 0, 0, 0, 0), some (.getfield 70, 3, 6, 18, 0, 0), none, none, some (.bipush 6, 2, 0, 0, 0, 6), none, some (.if_icmp .ne 41, 3, 103, 0, 0, 0), none, none, some (.iconst 1, 1, 0, 0, 0, 1), some (.istore_n 3, 1, 0, 0, 0, 0), some (.iload_n 3, 1, 0, 0, 0, 0), some (.bipush 6, 2, 0, 0, 0, 6), none, some (.if_icmp .ge 23, 3, 93, 0, 0, 0), none, none, some (.aload_n 0, 1, 0, 0, 0, 0), some (.getfield 45, 3, 6, 19, 0, 0), none, none, some (.iload_n 3, 1, 0, 0, 0, 0), some (.iconst 1, 1, 0, 0, 0, 1), some (.isub, 1, 0, 0, 0, 0), some (.aload_n 0, 1, 0, 0, 0, 0), some (.getfield 45, 3, 6, 19, 0, 0), none, none, some (.iload_n 3, 1, 0, 0, 0, 0), some (.iaload, 1, 0, 0, 0, 0), some (.iastore, 1, 0, 0, 0, 0), some (.iinc 3 1, 3, 0, 0, 0, 1), none, none, some (.goto (-23), 3, 67, 0, 0, 0), none, none, some (.aload_n 0, 1, 0, 0, 0, 0), some (.dup, 1, 0, 0, 0, 0), some (.getfield 70, 3, 6, 18, 0, 0), none, none, some (.iconst 1, 1, 0, 0, 0, 1), some (.isub, 1, 0, 0, 0, 0), some (.putfield 70, 3, 6, 18, 2, 0), none, none, some (.aload_n 0, 1, 0, 0, 0, 0), some (.getfield 45, 3, 6, 19, 0, 0), none, none, some (.aload_n 0, 1, 0, 0, 0, 0), some (.getfield 70, 3, 6, 18, 0, 0), none, none, some (.iload_n 2, 1, 0, 0, 0, 0), some (.iastore, 1, 0, 0, 0, 0), some (.aload_n 0, 1, 0, 0, 0, 0), some (.dup, 1, 0, 0, 0, 0), some (.getfield 70, 3, 6, 18, 0, 0), none, none, some (.iconst 1, 1, 0, 0, 0, 1), some (.iadd, 1, 0, 0, 0, 0), some (.putfield 70, 3, 6, 18, 2, 0), none, none, some (.aload_n 0, 1, 0, 0, 0, 0), some (.getfield 70, 3, 6, 18, 0, 0), none, none, some (.iconst 1, 1, 0, 0, 0, 1), some (.isub, 1, 0, 0, 0, 0), some (.ireturn, 1, 0, 0, 0, 0)]
def mX6_name : dp_M := (RX6, yX6_name, cX6_name, 4, some .int, tX6_name)
set_option maxRecDepth 20000 in
theorem okX6_name : dp_ok mX6_name := ⟨⟨fl_6, [], by decide +kernel, fun y h => ⟨(fl_6_ok y h).1, fun z => absurd z (fl_6_ok y h).2⟩, fun _ h => absurd h List.not_mem_nil⟩, rfl, dq_802, by decide +kernel, by decide +kernel, by decide +kernel, Nat.le_of_ble_eq_true rfl⟩
theorem npX6_name : dp_np yX6_name 1 := by unfold dp_np; decide +kernel
set_option maxRecDepth 20000 in
def tX6_named : List (Option dp_In) := [some (.iload_n 1, 1, 0, 0, 0, 0), some (.iconst 0, 1, 0, 0, 0, 0), some (.aload_n 0, 1, 0, 0, 0, 0), some (.getfield 70, 3, 6, 18, 0, 0), none, none, some (.iconst 1, 1, 0, 0, 0, 1), some (.isub, 1, 0, 0, 0, 0), some (.invokestatic 63, 3, 0, 0, 0, 0), none, none, some (.ifCond .eq 12, 3, 23, 0, 0, 0), none, none, some (.aload_n 0, 1, 0, 0, 0, 0), some (.getfield 45, 3, 6, 19, 0, 0), none, none, some (.iload_n 1, 1, 0, 0, 0, 0), some (.iaload, 1, 0, 0, 0, 0), some (.goto 5, 3, 25, 0, 0, 0), none, none, some (.bipush (-2), 2, 0, 0, 0, (-2)), none, some (.ireturn, 1, 0, 0, 0, 0)]
def mX6_named : dp_M := (RX6, yX6_named, cX6_named, 2, some .int, tX6_named)
set_option maxRecDepth 20000 in
theorem okX6_named : dp_ok mX6_named := ⟨⟨fl_6, [], by decide +kernel, fun y h => ⟨(fl_6_ok y h).1, fun z => absurd z (fl_6_ok y h).2⟩, fun _ h => absurd h List.not_mem_nil⟩, rfl, dq_806, by decide +kernel, by decide +kernel, by decide +kernel, Nat.le_of_ble_eq_true rfl⟩
theorem npX6_named : dp_np yX6_named 1 := by unfold dp_np; decide +kernel
set_option maxRecDepth 20000 in
def tX6_isOnWay : List (Option dp_In) := [some (.iconst 0, 1, 0, 0, 0, 0), some (.istore_n 2, 1, 0, 0, 0, 0), some (.iload_n 2, 1, 0, 0, 0, 0), some (.aload_n 0, 1, 0, 0, 0, 0), some (.getfield 76, 3, 6, 20, 0, 0), none, none, some (.if_icmp .ge 21, 3, 28, 0, 0, 0), none, none, some (.aload_n 0, 1, 0, 0, 0, 0), some (.getfield 48, 3, 6, 21, 0, 0), none, none, some (.iload_n 2, 1, 0, 0, 0, 0), some (.iaload, 1, 0, 0, 0, 0), some (.iload_n 1, 1, 0, 0, 0, 0), some (.if_icmp .ne 5, 3, 22, 0, 0, 0), none, none, some (.iconst 1, 1, 0, 0, 0, 1), some (.ireturn, 1, 0, 0, 0, 0), some (.iinc 2 1, 3, 0, 0, 0, 1), none, none, some (.goto (-23), 3, 2, 0, 0, 0), none, none, some (.iconst 0, 1, 0, 0, 0, 0), some (.ireturn, 1, 0, 0, 0, 0)]
def mX6_isOnWay : dp_M := (RX6, yX6_isOnWay, cX6_isOnWay, 3, some .boolean, tX6_isOnWay)
set_option maxRecDepth 20000 in
theorem okX6_isOnWay : dp_ok mX6_isOnWay := ⟨⟨fl_6, [], by decide +kernel, fun y h => ⟨(fl_6_ok y h).1, fun z => absurd z (fl_6_ok y h).2⟩, fun _ h => absurd h List.not_mem_nil⟩, rfl, dq_814, by decide +kernel, by decide +kernel, by decide +kernel, Nat.le_of_ble_eq_true rfl⟩
theorem npX6_isOnWay : dp_np yX6_isOnWay 1 := by unfold dp_np; decide +kernel
set_option maxRecDepth 20000 in
def tX6_walk : List (Option dp_In) := [some (.aload_n 0, 1, 0, 0, 0, 0), some (.iload_n 1, 1, 0, 0, 0, 0), some (.invokevirtual 86, 3, 0, 0, 0, 0), none, none, some (.ifCond .ne 5, 3, 10, 0, 0, 0), none, none, some (.iconst (-1), 1, 0, 0, 0, (-1)), some (.ireturn, 1, 0, 0, 0, 0), some (.aload_n 0, 1, 0, 0, 0, 0), some (.getfield 76, 3, 6, 20, 0, 0), none, none, some (.ifCond .ne 19, 3, 33, 0, 0, 0), none, none, some (.iload_n 1, 1, 0, 0, 0, 0), some (.aload_n 0, 1, 0, 0, 0, 0), some (.getfield 67, 3, 6, 4, 0, 0), none, none, some (.if_icmp .ne 7, 3, 29, 0, 0, 0), none, none, some (.iconst 1, 1, 0, 0, 0, 1), some (.goto 43, 3, 69, 0, 0, 0), none, none, some (.iconst 0, 1, 0, 0, 0, 0), some (.goto 39, 3, 69, 0, 0, 0), none, none, some (.aload_n 0, 1, 0, 0, 0, 0), some (.getfield 19, 3, 6, 3, 0, 0), none, none, some (.aload_n 0, 1, 0, 0, 0, 0), some (.getfield 48, 3, 6, 21, 0, 0), none, none, some (.aload_n 0, 1, 0, 0, 0, 0), some (.getfield 76, 3, 6, 20, 0, 0), none, none, some (.iconst 1, 1, 0, 0, 0, 1), some (.isub, 1, 0, 0, 0, 0), some (.iaload, 1, 0, 0, 0, 0), some (.iaload, 1, 0, 0, 0, 0), some (.iload_n 1, 1, 0, 0, 0, 0), some (.invokestatic 93, 3, 0, 0, 0, 0), none, none, some (.ifCond .eq 15, 3, 68, 0, 0, 0), none, none, some (.aload_n 0, 1, 0, 0, 0, 0), some (.iload_n 1, 1, 0, 0, 0, 0), some (.invokevirtual 165, 3, 0, 0, 0, 0), none, none, some (.ifCond .ne 7, 3, 68, 0, 0, 0), none, none, some (.iconst 1, 1, 0, 0, 0, 1), some (.goto 4, 3, 69, 0, 0, 0), none, none, some (.iconst 0, 1, 0, 0, 0, 0), some (.istore_n 2, 1, 0, 0, 0, 0), some (.iload_n 2, 1, 0, 0, 0, 0), some (.ifCond .ne 6, 3, 77, 0, 0, 0), none, none, some (.bipush (-3), 2, 0, 0, 0, (-3)), none, some (.ireturn, 1, 0, 0, 0, 0), some (.aload_n 0, 1, 0, 0, 0, 0), some (.getfield 48, 3, 6, 21, 0, 0), none, none, some (.aload_n 0, 1, 0, 0, 0, 0), some (.getfield 76, 3, 6, 20, 0, 0), none, none, some (.iload_n 1, 1, 0, 0, 0, 0), some (.iastore, 1, 0, 0, 0, 0), some (.aload_n 0, 1, 0, 0, 0, 0), some (.dup, 1, 0, 0, 0, 0), some (.getfield 76, 3, 6, 20, 0, 0), none, none, some (.iconst 1, 1, 0, 0, 0, 1), some (.iadd, 1, 0, 0, 0, 0), some (.putfield 76, 3, 6, 20, 2, 0), none, none, some (.aload_n 0, 1, 0, 0, 0, 0), some (.getfield 76, 3, 6, 20, 0, 0), none, none, some (.ireturn, 1, 0, 0, 0, 0)]
def mX6_walk : dp_M := (RX6, yX6_walk, cX6_walk, 3, some .int, tX6_walk)
set_option maxRecDepth 20000 in
theorem okX6_walk : dp_ok mX6_walk := ⟨⟨fl_6, [], by decide +kernel, fun y h => ⟨(fl_6_ok y h).1, fun z => absurd z (fl_6_ok y h).2⟩, fun _ h => absurd h List.not_mem_nil⟩, rfl, dq_810, by decide +kernel, by decide +kernel, by decide +kernel, Nat.le_of_ble_eq_true rfl⟩
theorem npX6_walk : dp_np yX6_walk 1 := by unfold dp_np; decide +kernel
set_option maxRecDepth 20000 in
def tX6_isClaimed : List (Option dp_In) := [some (.iconst 0, 1, 0, 0, 0, 0), some (.istore_n 2, 1, 0, 0, 0, 0), some (.iload_n 2, 1, 0, 0, 0, 0), some (.aload_n 0, 1, 0, 0, 0, 0), some (.getfield 79, 3, 6, 22, 0, 0), none, none, some (.if_icmp .ge 94, 3, 101, 0, 0, 0), none, none, some (.aload_n 0, 1, 0, 0, 0, 0), some (.getfield 51, 3, 6, 23, 0, 0), none, none, some (.iload_n 2, 1, 0, 0, 0, 0), some (.iaload, 1, 0, 0, 0, 0), some (.iload_n 1, 1, 0, 0, 0, 0), some (.if_icmp .ne 20, 3, 37, 0, 0, 0), none, none, some (.aload_n 0, 1, 0, 0, 0, 0), some (.getfield 54, 3, 6, 24, 0, 0), none, none, some (.iload_n 2, 1, 0, 0, 0, 0), some (.iaload, 1, 0, 0, 0, 0), some (.aload_n 0, 1, 0, 0, 0, 0), some (.getfield 76, 3, 6, 20, 0, 0), none, none, some (.if_icmp .ne 7, 3, 37, 0, 0, 0), none, none, some (.iconst 1, 1, 0, 0, 0, 1), some (.goto 4, 3, 38, 0, 0, 0), none, none, some (.iconst 0, 1, 0, 0, 0, 0), some (.istore_n 3, 1, 0, 0, 0, 0), some (.iconst 0, 1, 0, 0, 0, 0), some (.istore 4, 2, 0, 0, 0, 0), none, some (.iload 4, 2, 0, 0, 0, 0), none, some (.aload_n 0, 1, 0, 0, 0, 0), some (.getfield 76, 3, 6, 20, 0, 0), none, none, some (.if_icmp .ge 41, 3, 89, 0, 0, 0), none, none, some (.iload_n 3, 1, 0, 0, 0, 0), some (.ifCond .eq 37, 3, 89, 0, 0, 0), none, none, some (.aload_n 0, 1, 0, 0, 0, 0), some (.getfield 57, 3, 6, 25, 0, 0), none, none, some (.bipush 12, 2, 0, 0, 0, 12), none, some (.iload_n 2, 1, 0, 0, 0, 0), some (.imul, 1, 0, 0, 0, 0), some (.iload 4, 2, 0, 0, 0, 0), none, some (.iadd, 1, 0, 0, 0, 0), some (.iaload, 1, 0, 0, 0, 0), some (.aload_n 0, 1, 0, 0, 0, 0), some (.getfield 48, 3, 6, 21, 0, 0), none, none, some (.iload 4, 2, 0, 0, 0, 0), none, some (.iaload, 1, 0, 0, 0, 0), some (.if_icmp .ne 7, 3, 81, 0, 0, 0), none, none, some (.iconst 1, 1, 0, 0, 0, 1), some (.goto 4, 3, 82, 0, 0, 0), none, none, some (.iconst 0, 1, 0, 0, 0, 0), some (.istore_n 3, 1, 0, 0, 0, 0), some (.iinc 4 1, 3, 0, 0, 0, 1), none, none, some (.goto (-44), 3, 42, 0, 0, 0), none, none, some (.iload_n 3, 1, 0, 0, 0, 0), some (.ifCond .eq 5, 3, 95, 0, 0, 0), none, none, some (.iconst 1, 1, 0, 0, 0, 1), some (.ireturn, 1, 0, 0, 0, 0), some (.iinc 2 1, 3, 0, 0, 0, 1), none, none, some (.goto (-96), 3, 2, 0, 0, 0), none, none, some (.iconst 0, 1, 0, 0, 0, 0), some (.ireturn, 1, 0, 0, 0, 0)]
def mX6_isClaimed : dp_M := (RX6, yX6_isClaimed, cX6_isClaimed, 5, some .boolean, tX6_isClaimed)
set_option maxRecDepth 20000 in
theorem okX6_isClaimed : dp_ok mX6_isClaimed := ⟨⟨fl_6, [], by decide +kernel, fun y h => ⟨(fl_6_ok y h).1, fun z => absurd z (fl_6_ok y h).2⟩, fun _ h => absurd h List.not_mem_nil⟩, rfl, dq_822, by decide +kernel, by decide +kernel, by decide +kernel, Nat.le_of_ble_eq_true rfl⟩
theorem npX6_isClaimed : dp_np yX6_isClaimed 1 := by unfold dp_np; decide +kernel
set_option maxRecDepth 20000 in
def tX6_oldestGoes : List (Option dp_In) := [some (.iconst 1, 1, 0, 0, 0, 1), some (.istore_n 1, 1, 0, 0, 0, 0), some (.iload_n 1, 1, 0, 0, 0, 0), some (.bipush 8, 2, 0, 0, 0, 8), none, some (.if_icmp .ge 37, 3, 42, 0, 0, 0), none, none, some (.aload_n 0, 1, 0, 0, 0, 0), some (.getfield 51, 3, 6, 23, 0, 0), none, none, some (.iload_n 1, 1, 0, 0, 0, 0), some (.iconst 1, 1, 0, 0, 0, 1), some (.isub, 1, 0, 0, 0, 0), some (.aload_n 0, 1, 0, 0, 0, 0), some (.getfield 51, 3, 6, 23, 0, 0), none, none, some (.iload_n 1, 1, 0, 0, 0, 0), some (.iaload, 1, 0, 0, 0, 0), some (.iastore, 1, 0, 0, 0, 0), some (.aload_n 0, 1, 0, 0, 0, 0), some (.getfield 54, 3, 6, 24, 0, 0), none, none, some (.iload_n 1, 1, 0, 0, 0, 0), some (.iconst 1, 1, 0, 0, 0, 1), some (.isub, 1, 0, 0, 0, 0), some (.aload_n 0, 1, 0, 0, 0, 0), some (.getfield 54, 3, 6, 24, 0, 0), none, none, some (.iload_n 1, 1, 0, 0, 0, 0), some (.iaload, 1, 0, 0, 0, 0), some (.iastore, 1, 0, 0, 0, 0), some (.iinc 1 1, 3, 0, 0, 0, 1), none, none, some (.goto (-37), 3, 2, 0, 0, 0), none, none, some (.bipush 12, 2, 0, 0, 0, 12), none, some (.istore_n 1, 1, 0, 0, 0, 0), some (.iload_n 1, 1, 0, 0, 0, 0), some (.aload_n 0, 1, 0, 0, 0, 0), some (.getfield 57, 3, 6, 25, 0, 0), none, none, some (.arraylength, 1, 0, 0, 0, 0), some (.if_icmp .ge 24, 3, 75, 0, 0, 0), none, none, some (.aload_n 0, 1, 0, 0, 0, 0), some (.getfield 57, 3, 6, 25, 0, 0), none, none, some (.iload_n 1, 1, 0, 0, 0, 0), some (.bipush 12, 2, 0, 0, 0, 12), none, some (.isub, 1, 0, 0, 0, 0), some (.aload_n 0, 1, 0, 0, 0, 0), some (.getfield 57, 3, 6, 25, 0, 0), none, none, some (.iload_n 1, 1, 0, 0, 0, 0), some (.iaload, 1, 0, 0, 0, 0), some (.iastore, 1, 0, 0, 0, 0), some (.iinc 1 1, 3, 0, 0, 0, 1), none, none, some (.goto (-27), 3, 45, 0, 0, 0), none, none, some (.aload_n 0, 1, 0, 0, 0, 0), some (.dup, 1, 0, 0, 0, 0), some (.getfield 79, 3, 6, 22, 0, 0), none, none, some (.iconst 1, 1, 0, 0, 0, 1), some (.isub, 1, 0, 0, 0, 0), some (.putfield 79, 3, 6, 22, 2, 0), none, none, some (.return_, 1, 0, 0, 0, 0)]
def mX6_oldestGoes : dp_M := (RX6, yX6_oldestGoes, cX6_oldestGoes, 2, none, tX6_oldestGoes)
set_option maxRecDepth 20000 in
theorem okX6_oldestGoes : dp_ok mX6_oldestGoes := ⟨⟨fl_6, [], by decide +kernel, fun y h => ⟨(fl_6_ok y h).1, fun z => absurd z (fl_6_ok y h).2⟩, fun _ h => absurd h List.not_mem_nil⟩, rfl, dq_826, by decide +kernel, by decide +kernel, by decide +kernel, Nat.le_of_ble_eq_true rfl⟩
theorem npX6_oldestGoes : dp_np yX6_oldestGoes 0 := by unfold dp_np; decide +kernel
set_option maxRecDepth 20000 in
def tX6_tell : List (Option dp_In) := [some (.iload_n 1, 1, 0, 0, 0, 0), some (.iconst 0, 1, 0, 0, 0, 0), some (.iconst 3, 1, 0, 0, 0, 3), some (.invokestatic 63, 3, 0, 0, 0, 0), none, none, some (.ifCond .ne 6, 3, 12, 0, 0, 0), none, none, some (.bipush (-2), 2, 0, 0, 0, (-2)), none, some (.ireturn, 1, 0, 0, 0, 0), some (.aload_n 0, 1, 0, 0, 0, 0), some (.getfield 76, 3, 6, 20, 0, 0), none, none, some (.iconst 2, 1, 0, 0, 0, 2), some (.if_icmp .lt 11, 3, 28, 0, 0, 0), none, none, some (.aload_n 0, 1, 0, 0, 0, 0), some (.iload_n 1, 1, 0, 0, 0, 0), some (.invokevirtual 168, 3, 0, 0, 0, 0), none, none, some (.ifCond .eq 6, 3, 31, 0, 0, 0), none, none, some (.bipush (-3), 2, 0, 0, 0, (-3)), none, some (.ireturn, 1, 0, 0, 0, 0), some (.aload_n 0, 1, 0, 0, 0, 0), some (.getfield 79, 3, 6, 22, 0, 0), none, none, some (.bipush 8, 2, 0, 0, 0, 8), none, some (.if_icmp .ne 7, 3, 44, 0, 0, 0), none, none, some (.aload_n 0, 1, 0, 0, 0, 0), some (.invokevirtual 171, 3, 0, 0, 0, 0), none, none, some (.aload_n 0, 1, 0, 0, 0, 0), some (.getfield 51, 3, 6, 23, 0, 0), none, none, some (.aload_n 0, 1, 0, 0, 0, 0), some (.getfield 79, 3, 6, 22, 0, 0), none, none, some (.iload_n 1, 1, 0, 0, 0, 0), some (.iastore, 1, 0, 0, 0, 0), some (.aload_n 0, 1, 0, 0, 0, 0), some (.getfield 54, 3, 6, 24, 0, 0), none, none, some (.aload_n 0, 1, 0, 0, 0, 0), some (.getfield 79, 3, 6, 22, 0, 0), none, none, some (.aload_n 0, 1, 0, 0, 0, 0), some (.getfield 76, 3, 6, 20, 0, 0), none, none, some (.iastore, 1, 0, 0, 0, 0), some (.iconst 0, 1, 0, 0, 0, 0), some (.istore_n 2, 1, 0, 0, 0, 0), some (.iload_n 2, 1, 0, 0, 0, 0), some (.aload_n 0, 1, 0, 0, 0, 0), some (.getfield 76, 3, 6, 20, 0, 0), none, none, some (.if_icmp .ge 29, 3, 103, 0, 0, 0), none, none, some (.aload_n 0, 1, 0, 0, 0, 0), some (.getfield 57, 3, 6, 25, 0, 0), none, none, some (.bipush 12, 2, 0, 0, 0, 12), none, some (.aload_n 0, 1, 0, 0, 0, 0), some (.getfield 79, 3, 6, 22, 0, 0), none, none, some (.imul, 1, 0, 0, 0, 0), some (.iload_n 2, 1, 0, 0, 0, 0), some (.iadd, 1, 0, 0, 0, 0), some (.aload_n 0, 1, 0, 0, 0, 0), some (.getfield 48, 3, 6, 21, 0, 0), none, none, some (.iload_n 2, 1, 0, 0, 0, 0), some (.iaload, 1, 0, 0, 0, 0), some (.iastore, 1, 0, 0, 0, 0), some (.iinc 2 1, 3, 0, 0, 0, 1), none, none, some (.goto (-31), 3, 69, 0, 0, 0), none, none, some (.aload_n 0, 1, 0, 0, 0, 0), some (.dup, 1, 0, 0, 0, 0), some (.getfield 79, 3, 6, 22, 0, 0), none, none, some (.iconst 1, 1, 0, 0, 0, 1), some (.iadd, 1, 0, 0, 0, 0), some (.putfield 79, 3, 6, 22, 2, 0), none, none, some (.aload_n 0, 1, 0, 0, 0, 0), some (.iconst 0, 1, 0, 0, 0, 0), some (.putfield 76, 3, 6, 20, 2, 0), none, none, some (.aload_n 0, 1, 0, 0, 0, 0), some (.getfield 79, 3, 6, 22, 0, 0), none, none, some (.ireturn, 1, 0, 0, 0, 0)]
def mX6_tell : dp_M := (RX6, yX6_tell, cX6_tell, 3, some .int, tX6_tell)
set_option maxRecDepth 20000 in
theorem okX6_tell : dp_ok mX6_tell := ⟨⟨fl_6, [], by decide +kernel, fun y h => ⟨(fl_6_ok y h).1, fun z => absurd z (fl_6_ok y h).2⟩, fun _ h => absurd h List.not_mem_nil⟩, rfl, dq_818, by decide +kernel, by decide +kernel, by decide +kernel, Nat.le_of_ble_eq_true rfl⟩
theorem npX6_tell : dp_np yX6_tell 1 := by unfold dp_np; decide +kernel
set_option maxRecDepth 20000 in
def tX6_drop : List (Option dp_In) := [some (.aload_n 0, 1, 0, 0, 0, 0), some (.getfield 76, 3, 6, 20, 0, 0), none, none, some (.istore_n 1, 1, 0, 0, 0, 0), some (.aload_n 0, 1, 0, 0, 0, 0), some (.iconst 0, 1, 0, 0, 0, 0), some (.putfield 76, 3, 6, 20, 2, 0), none, none, some (.iload_n 1, 1, 0, 0, 0, 0), some (.ireturn, 1, 0, 0, 0, 0)]
def mX6_drop : dp_M := (RX6, yX6_drop, cX6_drop, 2, some .int, tX6_drop)
set_option maxRecDepth 20000 in
theorem okX6_drop : dp_ok mX6_drop := ⟨⟨fl_6, [], by decide +kernel, fun y h => ⟨(fl_6_ok y h).1, fun z => absurd z (fl_6_ok y h).2⟩, fun _ h => absurd h List.not_mem_nil⟩, rfl, dq_830, by decide +kernel, by decide +kernel, by decide +kernel, Nat.le_of_ble_eq_true rfl⟩
theorem npX6_drop : dp_np yX6_drop 0 := by unfold dp_np; decide +kernel
set_option maxRecDepth 20000 in
def tX6_setOf : List (Option dp_In) := [some (.iconst 0, 1, 0, 0, 0, 0), some (.istore_n 2, 1, 0, 0, 0, 0), some (.iconst 0, 1, 0, 0, 0, 0), some (.istore_n 3, 1, 0, 0, 0, 0), some (.iload_n 3, 1, 0, 0, 0, 0), some (.aload_n 0, 1, 0, 0, 0, 0), some (.getfield 54, 3, 6, 24, 0, 0), none, none, some (.iload_n 1, 1, 0, 0, 0, 0), some (.iaload, 1, 0, 0, 0, 0), some (.if_icmp .ge 25, 3, 36, 0, 0, 0), none, none, some (.iload_n 2, 1, 0, 0, 0, 0), some (.iconst 1, 1, 0, 0, 0, 1), some (.aload_n 0, 1, 0, 0, 0, 0), some (.getfield 57, 3, 6, 25, 0, 0), none, none, some (.bipush 12, 2, 0, 0, 0, 12), none, some (.iload_n 1, 1, 0, 0, 0, 0), some (.imul, 1, 0, 0, 0, 0), some (.iload_n 3, 1, 0, 0, 0, 0), some (.iadd, 1, 0, 0, 0, 0), some (.iaload, 1, 0, 0, 0, 0), some (.ishl, 1, 0, 0, 0, 0), some (.ior, 1, 0, 0, 0, 0), some (.istore_n 2, 1, 0, 0, 0, 0), some (.iinc 3 1, 3, 0, 0, 0, 1), none, none, some (.goto (-29), 3, 4, 0, 0, 0), none, none, some (.iload_n 2, 1, 0, 0, 0, 0), some (.ireturn, 1, 0, 0, 0, 0)]
def mX6_setOf : dp_M := (RX6, yX6_setOf, cX6_setOf, 4, some .int, tX6_setOf)
set_option maxRecDepth 20000 in
theorem okX6_setOf : dp_ok mX6_setOf := ⟨⟨fl_6, [], by decide +kernel, fun y h => ⟨(fl_6_ok y h).1, fun z => absurd z (fl_6_ok y h).2⟩, fun _ h => absurd h List.not_mem_nil⟩, rfl, dq_838, by decide +kernel, by decide +kernel, by decide +kernel, Nat.le_of_ble_eq_true rfl⟩
theorem npX6_setOf : dp_np yX6_setOf 1 := by unfold dp_np; decide +kernel
set_option maxRecDepth 20000 in
def tX6_claim : List (Option dp_In) := [some (.iload_n 1, 1, 0, 0, 0, 0), some (.iconst 0, 1, 0, 0, 0, 0), some (.aload_n 0, 1, 0, 0, 0, 0), some (.getfield 79, 3, 6, 22, 0, 0), none, none, some (.iconst 1, 1, 0, 0, 0, 1), some (.isub, 1, 0, 0, 0, 0), some (.invokestatic 63, 3, 0, 0, 0, 0), none, none, some (.ifCond .ne 6, 3, 17, 0, 0, 0), none, none, some (.bipush (-2), 2, 0, 0, 0, (-2)), none, some (.ireturn, 1, 0, 0, 0, 0), some (.iload_n 2, 1, 0, 0, 0, 0), some (.bipush 10, 2, 0, 0, 0, 10), none, some (.bipush 21, 2, 0, 0, 0, 21), none, some (.invokestatic 63, 3, 0, 0, 0, 0), none, none, some (.ifCond .eq 36, 3, 61, 0, 0, 0), none, none, some (.iload_n 2, 1, 0, 0, 0, 0), some (.bipush 10, 2, 0, 0, 0, 10), none, some (.isub, 1, 0, 0, 0, 0), some (.aload_n 0, 1, 0, 0, 0, 0), some (.getfield 54, 3, 6, 24, 0, 0), none, none, some (.iload_n 1, 1, 0, 0, 0, 0), some (.iaload, 1, 0, 0, 0, 0), some (.if_icmp .ge 20, 3, 58, 0, 0, 0), none, none, some (.aload_n 0, 1, 0, 0, 0, 0), some (.getfield 57, 3, 6, 25, 0, 0), none, none, some (.bipush 12, 2, 0, 0, 0, 12), none, some (.iload_n 1, 1, 0, 0, 0, 0), some (.imul, 1, 0, 0, 0, 0), some (.iload_n 2, 1, 0, 0, 0, 0), some (.iadd, 1, 0, 0, 0, 0), some (.bipush 10, 2, 0, 0, 0, 10), none, some (.isub, 1, 0, 0, 0, 0), some (.iaload, 1, 0, 0, 0, 0), some (.goto 5, 3, 60, 0, 0, 0), none, none, some (.bipush (-9), 2, 0, 0, 0, (-9)), none, some (.ireturn, 1, 0, 0, 0, 0), some (.iload_n 2, 1, 0, 0, 0, 0), some (.ifCond .ne 12, 3, 74, 0, 0, 0), none, none, some (.aload_n 0, 1, 0, 0, 0, 0), some (.getfield 51, 3, 6, 23, 0, 0), none, none, some (.iload_n 1, 1, 0, 0, 0, 0), some (.iaload, 1, 0, 0, 0, 0), some (.goto 32, 3, 103, 0, 0, 0), none, none, some (.iload_n 2, 1, 0, 0, 0, 0), some (.iconst 1, 1, 0, 0, 0, 1), some (.if_icmp .ne 12, 3, 88, 0, 0, 0), none, none, some (.aload_n 0, 1, 0, 0, 0, 0), some (.getfield 54, 3, 6, 24, 0, 0), none, none, some (.iload_n 1, 1, 0, 0, 0, 0), some (.iaload, 1, 0, 0, 0, 0), some (.goto 18, 3, 103, 0, 0, 0), none, none, some (.iload_n 2, 1, 0, 0, 0, 0), some (.iconst 2, 1, 0, 0, 0, 2), some (.if_icmp .ne 11, 3, 101, 0, 0, 0), none, none, some (.aload_n 0, 1, 0, 0, 0, 0), some (.iload_n 1, 1, 0, 0, 0, 0), some (.invokevirtual 174, 3, 0, 0, 0, 0), none, none, some (.goto 5, 3, 103, 0, 0, 0), none, none, some (.bipush (-2), 2, 0, 0, 0, (-2)), none, some (.ireturn, 1, 0, 0, 0, 0)]
def mX6_claim : dp_M := (RX6, yX6_claim, cX6_claim, 3, some .int, tX6_claim)
set_option maxRecDepth 20000 in
theorem okX6_claim : dp_ok mX6_claim := ⟨⟨fl_6, [], by decide +kernel, fun y h => ⟨(fl_6_ok y h).1, fun z => absurd z (fl_6_ok y h).2⟩, fun _ h => absurd h List.not_mem_nil⟩, rfl, dq_834, by decide +kernel, by decide +kernel, by decide +kernel, Nat.le_of_ble_eq_true rfl⟩
theorem npX6_claim : dp_np yX6_claim 2 := by unfold dp_np; decide +kernel
set_option maxRecDepth 20000 in
def tX6_proves : List (Option dp_In) := [some (.iconst 0, 1, 0, 0, 0, 0), some (.istore 4, 2, 0, 0, 0, 0), none, some (.iconst 0, 1, 0, 0, 0, 0), some (.istore 5, 2, 0, 0, 0, 0), none, some (.iconst 0, 1, 0, 0, 0, 0), some (.istore 6, 2, 0, 0, 0, 0), none, some (.iload 6, 2, 0, 0, 0, 0), none, some (.aload_n 0, 1, 0, 0, 0, 0), some (.getfield 79, 3, 6, 22, 0, 0), none, none, some (.if_icmp .ge 108, 3, 123, 0, 0, 0), none, none, some (.iload_n 1, 1, 0, 0, 0, 0), some (.iload 6, 2, 0, 0, 0, 0), none, some (.invokestatic 93, 3, 0, 0, 0, 0), none, none, some (.ifCond .eq 93, 3, 117, 0, 0, 0), none, none, some (.aload_n 0, 1, 0, 0, 0, 0), some (.iload 6, 2, 0, 0, 0, 0), none, some (.invokevirtual 174, 3, 0, 0, 0, 0), none, none, some (.iconst 1, 1, 0, 0, 0, 1), some (.aload_n 0, 1, 0, 0, 0, 0), some (.getfield 67, 3, 6, 4, 0, 0), none, none, some (.ishl, 1, 0, 0, 0, 0), some (.iconst (-1), 1, 0, 0, 0, (-1)), some (.ixor, 1, 0, 0, 0, 0), some (.iand, 1, 0, 0, 0, 0), some (.iconst 1, 1, 0, 0, 0, 1), some (.iload_n 2, 1, 0, 0, 0, 0), some (.ishl, 1, 0, 0, 0, 0), some (.iconst (-1), 1, 0, 0, 0, (-1)), some (.ixor, 1, 0, 0, 0, 0), some (.iand, 1, 0, 0, 0, 0), some (.istore 7, 2, 0, 0, 0, 0), none, some (.aload_n 0, 1, 0, 0, 0, 0), some (.getfield 51, 3, 6, 23, 0, 0), none, none, some (.iload 6, 2, 0, 0, 0, 0), none, some (.iaload, 1, 0, 0, 0, 0), some (.iload_n 3, 1, 0, 0, 0, 0), some (.if_icmp .ne 31, 3, 89, 0, 0, 0), none, none, some (.aload_n 0, 1, 0, 0, 0, 0), some (.getfield 57, 3, 6, 25, 0, 0), none, none, some (.bipush 12, 2, 0, 0, 0, 12), none, some (.iload 6, 2, 0, 0, 0, 0), none, some (.imul, 1, 0, 0, 0, 0), some (.aload_n 0, 1, 0, 0, 0, 0), some (.getfield 54, 3, 6, 24, 0, 0), none, none, some (.iload 6, 2, 0, 0, 0, 0), none, some (.iaload, 1, 0, 0, 0, 0), some (.iadd, 1, 0, 0, 0, 0), some (.iconst 1, 1, 0, 0, 0, 1), some (.isub, 1, 0, 0, 0, 0), some (.iaload, 1, 0, 0, 0, 0), some (.iload_n 2, 1, 0, 0, 0, 0), some (.if_icmp .ne 7, 3, 89, 0, 0, 0), none, none, some (.iconst 1, 1, 0, 0, 0, 1), some (.goto 4, 3, 90, 0, 0, 0), none, none, some (.iconst 0, 1, 0, 0, 0, 0), some (.istore 8, 2, 0, 0, 0, 0), none, some (.iload 8, 2, 0, 0, 0, 0), none, some (.ifCond .eq 11, 3, 105, 0, 0, 0), none, none, some (.iload 4, 2, 0, 0, 0, 0), none, some (.iload 7, 2, 0, 0, 0, 0), none, some (.iand, 1, 0, 0, 0, 0), some (.ifCond .eq 5, 3, 107, 0, 0, 0), none, none, some (.iconst 0, 1, 0, 0, 0, 0), some (.ireturn, 1, 0, 0, 0, 0), some (.iload 4, 2, 0, 0, 0, 0), none, some (.iload 7, 2, 0, 0, 0, 0), none, some (.ior, 1, 0, 0, 0, 0), some (.istore 4, 2, 0, 0, 0, 0), none, some (.iinc 5 1, 3, 0, 0, 0, 1), none, none, some (.iinc 6 1, 3, 0, 0, 0, 1), none, none, some (.goto (-111), 3, 9, 0, 0, 0), none, none, some (.iload 5, 2, 0, 0, 0, 0), none, some (.ireturn, 1, 0, 0, 0, 0)]
def mX6_proves : dp_M := (RX6, yX6_proves, cX6_proves, 9, some .int, tX6_proves)
set_option maxRecDepth 20000 in
theorem okX6_proves : dp_ok mX6_proves := ⟨⟨fl_6, [], by decide +kernel, fun y h => ⟨(fl_6_ok y h).1, fun z => absurd z (fl_6_ok y h).2⟩, fun _ h => absurd h List.not_mem_nil⟩, rfl, dq_850, by decide +kernel, by decide +kernel, by decide +kernel, Nat.le_of_ble_eq_true rfl⟩
theorem npX6_proves : dp_np yX6_proves 3 := by unfold dp_np; decide +kernel
set_option maxRecDepth 20000 in
def tX6_proofOf : List (Option dp_In) := [some (.iconst 0, 1, 0, 0, 0, 0), some (.istore_n 3, 1, 0, 0, 0, 0), some (.iconst 0, 1, 0, 0, 0, 0), some (.istore 4, 2, 0, 0, 0, 0), none, some (.iload 4, 2, 0, 0, 0, 0), none, some (.iconst 1, 1, 0, 0, 0, 1), some (.aload_n 0, 1, 0, 0, 0, 0), some (.getfield 79, 3, 6, 22, 0, 0), none, none, some (.ishl, 1, 0, 0, 0, 0), some (.if_icmp .ge 32, 3, 45, 0, 0, 0), none, none, some (.aload_n 0, 1, 0, 0, 0, 0), some (.iload 4, 2, 0, 0, 0, 0), none, some (.iload_n 1, 1, 0, 0, 0, 0), some (.iload_n 2, 1, 0, 0, 0, 0), some (.invokevirtual 177, 3, 0, 0, 0, 0), none, none, some (.istore 5, 2, 0, 0, 0, 0), none, some (.iload 5, 2, 0, 0, 0, 0), none, some (.iload_n 3, 1, 0, 0, 0, 0), some (.if_icmp .le 8, 3, 37, 0, 0, 0), none, none, some (.iload 5, 2, 0, 0, 0, 0), none, some (.goto 4, 3, 38, 0, 0, 0), none, none, some (.iload_n 3, 1, 0, 0, 0, 0), some (.istore_n 3, 1, 0, 0, 0, 0), some (.iinc 4 1, 3, 0, 0, 0, 1), none, none, some (.goto (-37), 3, 5, 0, 0, 0), none, none, some (.iload_n 3, 1, 0, 0, 0, 0), some (.ireturn, 1, 0, 0, 0, 0)]
def mX6_proofOf : dp_M := (RX6, yX6_proofOf, cX6_proofOf, 6, some .int, tX6_proofOf)
set_option maxRecDepth 20000 in
theorem okX6_proofOf : dp_ok mX6_proofOf := ⟨⟨fl_6, [], by decide +kernel, fun y h => ⟨(fl_6_ok y h).1, fun z => absurd z (fl_6_ok y h).2⟩, fun _ h => absurd h List.not_mem_nil⟩, rfl, dq_846, by decide +kernel, by decide +kernel, by decide +kernel, Nat.le_of_ble_eq_true rfl⟩
theorem npX6_proofOf : dp_np yX6_proofOf 2 := by unfold dp_np; decide +kernel
set_option maxRecDepth 20000 in
def tX6_proof : List (Option dp_In) := [some (.aload_n 0, 1, 0, 0, 0, 0), some (.iload_n 1, 1, 0, 0, 0, 0), some (.invokevirtual 86, 3, 0, 0, 0, 0), none, none, some (.ifCond .ne 5, 3, 10, 0, 0, 0), none, none, some (.iconst (-1), 1, 0, 0, 0, (-1)), some (.ireturn, 1, 0, 0, 0, 0), some (.iload_n 2, 1, 0, 0, 0, 0), some (.iconst 0, 1, 0, 0, 0, 0), some (.iconst 3, 1, 0, 0, 0, 3), some (.invokestatic 63, 3, 0, 0, 0, 0), none, none, some (.ifCond .eq 12, 3, 28, 0, 0, 0), none, none, some (.aload_n 0, 1, 0, 0, 0, 0), some (.iload_n 1, 1, 0, 0, 0, 0), some (.iload_n 2, 1, 0, 0, 0, 0), some (.invokevirtual 180, 3, 0, 0, 0, 0), none, none, some (.goto 5, 3, 30, 0, 0, 0), none, none, some (.bipush (-2), 2, 0, 0, 0, (-2)), none, some (.ireturn, 1, 0, 0, 0, 0)]
def mX6_proof : dp_M := (RX6, yX6_proof, cX6_proof, 3, some .int, tX6_proof)
set_option maxRecDepth 20000 in
theorem okX6_proof : dp_ok mX6_proof := ⟨⟨fl_6, [], by decide +kernel, fun y h => ⟨(fl_6_ok y h).1, fun z => absurd z (fl_6_ok y h).2⟩, fun _ h => absurd h List.not_mem_nil⟩, rfl, dq_842, by decide +kernel, by decide +kernel, by decide +kernel, Nat.le_of_ble_eq_true rfl⟩
theorem npX6_proof : dp_np yX6_proof 2 := by unfold dp_np; decide +kernel
set_option maxRecDepth 20000 in
def tX6_believes : List (Option dp_In) := [some (.aload_n 0, 1, 0, 0, 0, 0), some (.iload_n 1, 1, 0, 0, 0, 0), some (.invokevirtual 86, 3, 0, 0, 0, 0), none, none, some (.ifCond .ne 5, 3, 10, 0, 0, 0), none, none, some (.iconst (-1), 1, 0, 0, 0, (-1)), some (.ireturn, 1, 0, 0, 0, 0), some (.bipush (-9), 2, 0, 0, 0, (-9)), none, some (.istore_n 2, 1, 0, 0, 0, 0), some (.iconst 0, 1, 0, 0, 0, 0), some (.istore_n 3, 1, 0, 0, 0, 0), some (.iconst 0, 1, 0, 0, 0, 0), some (.istore 4, 2, 0, 0, 0, 0), none, some (.iload 4, 2, 0, 0, 0, 0), none, some (.iconst 4, 1, 0, 0, 0, 4), some (.if_icmp .ge 55, 3, 76, 0, 0, 0), none, none, some (.aload_n 0, 1, 0, 0, 0, 0), some (.iload_n 1, 1, 0, 0, 0, 0), some (.iload 4, 2, 0, 0, 0, 0), none, some (.invokevirtual 180, 3, 0, 0, 0, 0), none, none, some (.istore 5, 2, 0, 0, 0, 0), none, some (.iload 5, 2, 0, 0, 0, 0), none, some (.iload_n 3, 1, 0, 0, 0, 0), some (.if_icmp .le 8, 3, 44, 0, 0, 0), none, none, some (.iload 4, 2, 0, 0, 0, 0), none, some (.goto 15, 3, 56, 0, 0, 0), none, none, some (.iload 5, 2, 0, 0, 0, 0), none, some (.iload_n 3, 1, 0, 0, 0, 0), some (.if_icmp .ne 8, 3, 55, 0, 0, 0), none, none, some (.bipush (-9), 2, 0, 0, 0, (-9)), none, some (.goto 4, 3, 56, 0, 0, 0), none, none, some (.iload_n 2, 1, 0, 0, 0, 0), some (.istore_n 2, 1, 0, 0, 0, 0), some (.iload 5, 2, 0, 0, 0, 0), none, some (.iload_n 3, 1, 0, 0, 0, 0), some (.if_icmp .le 8, 3, 68, 0, 0, 0), none, none, some (.iload 5, 2, 0, 0, 0, 0), none, some (.goto 4, 3, 69, 0, 0, 0), none, none, some (.iload_n 3, 1, 0, 0, 0, 0), some (.istore_n 3, 1, 0, 0, 0, 0), some (.iinc 4 1, 3, 0, 0, 0, 1), none, none, some (.goto (-55), 3, 18, 0, 0, 0), none, none, some (.iload_n 3, 1, 0, 0, 0, 0), some (.aload_n 0, 1, 0, 0, 0, 0), some (.getfield 23, 3, 6, 6, 0, 0), none, none, some (.if_icmp .lt 7, 3, 88, 0, 0, 0), none, none, some (.iload_n 2, 1, 0, 0, 0, 0), some (.goto 5, 3, 90, 0, 0, 0), none, none, some (.bipush (-9), 2, 0, 0, 0, (-9)), none, some (.ireturn, 1, 0, 0, 0, 0)]
def mX6_believes : dp_M := (RX6, yX6_believes, cX6_believes, 6, some .int, tX6_believes)
set_option maxRecDepth 20000 in
theorem okX6_believes : dp_ok mX6_believes := ⟨⟨fl_6, [], by decide +kernel, fun y h => ⟨(fl_6_ok y h).1, fun z => absurd z (fl_6_ok y h).2⟩, fun _ h => absurd h List.not_mem_nil⟩, rfl, dq_854, by decide +kernel, by decide +kernel, by decide +kernel, Nat.le_of_ble_eq_true rfl⟩
theorem npX6_believes : dp_np yX6_believes 1 := by unfold dp_np; decide +kernel
set_option maxRecDepth 20000 in
def tX6_twos : List (Option dp_In) := [some (.iconst 0, 1, 0, 0, 0, 0), some (.istore_n 1, 1, 0, 0, 0, 0), some (.iconst 0, 1, 0, 0, 0, 0), some (.istore_n 2, 1, 0, 0, 0, 0), some (.iload_n 2, 1, 0, 0, 0, 0), some (.aload_n 0, 1, 0, 0, 0, 0), some (.getfield 7, 3, 6, 0, 0, 0), none, none, some (.if_icmp .ge 21, 3, 30, 0, 0, 0), none, none, some (.iload_n 1, 1, 0, 0, 0, 0), some (.aload_n 0, 1, 0, 0, 0, 0), some (.getfield 19, 3, 6, 3, 0, 0), none, none, some (.iload_n 2, 1, 0, 0, 0, 0), some (.iaload, 1, 0, 0, 0, 0), some (.invokestatic 115, 3, 0, 0, 0, 0), none, none, some (.iadd, 1, 0, 0, 0, 0), some (.istore_n 1, 1, 0, 0, 0, 0), some (.iinc 2 1, 3, 0, 0, 0, 1), none, none, some (.goto (-23), 3, 4, 0, 0, 0), none, none, some (.iload_n 1, 1, 0, 0, 0, 0), some (.iconst 2, 1, 0, 0, 0, 2), some (.idiv, 1, 0, 0, 0, 0), some (.ireturn, 1, 0, 0, 0, 0)]
def mX6_twos : dp_M := (RX6, yX6_twos, cX6_twos, 3, some .int, tX6_twos)
set_option maxRecDepth 20000 in
theorem okX6_twos : dp_ok mX6_twos := ⟨⟨fl_6, [], by decide +kernel, fun y h => ⟨(fl_6_ok y h).1, fun z => absurd z (fl_6_ok y h).2⟩, fun _ h => absurd h List.not_mem_nil⟩, rfl, dq_862, by decide +kernel, by decide +kernel, by decide +kernel, Nat.le_of_ble_eq_true rfl⟩
theorem npX6_twos : dp_np yX6_twos 0 := by unfold dp_np; decide +kernel
set_option maxRecDepth 20000 in
def tX6_many : List (Option dp_In) := [some (.iload_n 1, 1, 0, 0, 0, 0), some (.tableswitch 128 0 10 #[59, 64, 69, 85, 90, 95, 95, 108, 113, 118, 123], 59, 0, 0, 0, 0), none, none, none, none, none, none, none, none, none, none, none, none, none, none, none, none, none, none, none, none, none, none, none, none, none, none, none, none, none, none, none, none, none, none, none, none, none, none, none, none, none, none, none, none, none, none, none, none, none, none, none, none, none, none, none, none, none, none, some (.aload_n 0, 1, 0, 0, 0, 0), some (.getfield 7, 3, 6, 0, 0, 0), none, none, some (.ireturn, 1, 0, 0, 0, 0), some (.aload_n 0, 1, 0, 0, 0, 0), some (.invokevirtual 183, 3, 0, 0, 0, 0), none, none, some (.ireturn, 1, 0, 0, 0, 0), some (.aload_n 0, 1, 0, 0, 0, 0), some (.getfield 7, 3, 6, 0, 0, 0), none, none, some (.aload_n 0, 1, 0, 0, 0, 0), some (.iconst 0, 1, 0, 0, 0, 0), some (.aload_n 0, 1, 0, 0, 0, 0), some (.getfield 7, 3, 6, 0, 0, 0), none, none, some (.iconst 0, 1, 0, 0, 0, 0), some (.invokevirtual 136, 3, 0, 0, 0, 0), none, none, some (.isub, 1, 0, 0, 0, 0), some (.ireturn, 1, 0, 0, 0, 0), some (.aload_n 0, 1, 0, 0, 0, 0), some (.getfield 100, 3, 6, 9, 0, 0), none, none, some (.ireturn, 1, 0, 0, 0, 0), some (.aload_n 0, 1, 0, 0, 0, 0), some (.getfield 109, 3, 6, 10, 0, 0), none, none, some (.ireturn, 1, 0, 0, 0, 0), some (.aload_n 0, 1, 0, 0, 0, 0), some (.iconst 0, 1, 0, 0, 0, 0), some (.aload_n 0, 1, 0, 0, 0, 0), some (.getfield 7, 3, 6, 0, 0, 0), none, none, some (.iload_n 1, 1, 0, 0, 0, 0), some (.iconst 4, 1, 0, 0, 0, 4), some (.isub, 1, 0, 0, 0, 0), some (.invokevirtual 136, 3, 0, 0, 0, 0), none, none, some (.ireturn, 1, 0, 0, 0, 0), some (.aload_n 0, 1, 0, 0, 0, 0), some (.getfield 70, 3, 6, 18, 0, 0), none, none, some (.ireturn, 1, 0, 0, 0, 0), some (.aload_n 0, 1, 0, 0, 0, 0), some (.getfield 79, 3, 6, 22, 0, 0), none, none, some (.ireturn, 1, 0, 0, 0, 0), some (.aload_n 0, 1, 0, 0, 0, 0), some (.getfield 76, 3, 6, 20, 0, 0), none, none, some (.ireturn, 1, 0, 0, 0, 0), some (.aload_n 0, 1, 0, 0, 0, 0), some (.getfield 16, 3, 6, 2, 0, 0), none, none, some (.ireturn, 1, 0, 0, 0, 0), some (.bipush (-2), 2, 0, 0, 0, (-2)), none, some (.ireturn, 1, 0, 0, 0, 0)]
def mX6_many : dp_M := (RX6, yX6_many, cX6_many, 2, some .int, tX6_many)
set_option maxRecDepth 20000 in
theorem okX6_many : dp_ok mX6_many := ⟨⟨fl_6, [], by decide +kernel, fun y h => ⟨(fl_6_ok y h).1, fun z => absurd z (fl_6_ok y h).2⟩, fun _ h => absurd h List.not_mem_nil⟩, rfl, dq_858, by decide +kernel, by decide +kernel, by decide +kernel, Nat.le_of_ble_eq_true rfl⟩
theorem npX6_many : dp_np yX6_many 1 := by unfold dp_np; decide +kernel
set_option maxRecDepth 20000 in
def tJ6_bitCount_0f7a4 : List (Option dp_In) := [some (.iload_n 0, 1, 0, 0, 0, 0), some (.iload_n 0, 1, 0, 0, 0, 0), some (.iconst 1, 1, 0, 0, 0, 1), some (.iushr, 1, 0, 0, 0, 0), some (.ldc_w 265, 3, 0, 0, 0, 1431655765), none, none, some (.iand, 1, 0, 0, 0, 0), some (.isub, 1, 0, 0, 0, 0), some (.istore_n 0, 1, 0, 0, 0, 0), some (.iload_n 0, 1, 0, 0, 0, 0), some (.ldc_w 266, 3, 0, 0, 0, 858993459), none, none, some (.iand, 1, 0, 0, 0, 0), some (.iload_n 0, 1, 0, 0, 0, 0), some (.iconst 2, 1, 0, 0, 0, 2), some (.iushr, 1, 0, 0, 0, 0), some (.ldc_w 266, 3, 0, 0, 0, 858993459), none, none, some (.iand, 1, 0, 0, 0, 0), some (.iadd, 1, 0, 0, 0, 0), some (.istore_n 0, 1, 0, 0, 0, 0), some (.iload_n 0, 1, 0, 0, 0, 0), some (.iload_n 0, 1, 0, 0, 0, 0), some (.iconst 4, 1, 0, 0, 0, 4), some (.iushr, 1, 0, 0, 0, 0), some (.iadd, 1, 0, 0, 0, 0), some (.ldc_w 267, 3, 0, 0, 0, 252645135), none, none, some (.iand, 1, 0, 0, 0, 0), some (.istore_n 0, 1, 0, 0, 0, 0), some (.iload_n 0, 1, 0, 0, 0, 0), some (.iload_n 0, 1, 0, 0, 0, 0), some (.bipush 8, 2, 0, 0, 0, 8), none, some (.iushr, 1, 0, 0, 0, 0), some (.iadd, 1, 0, 0, 0, 0), some (.istore_n 0, 1, 0, 0, 0, 0), some (.iload_n 0, 1, 0, 0, 0, 0), some (.iload_n 0, 1, 0, 0, 0, 0), some (.bipush 16, 2, 0, 0, 0, 16), none, some (.iushr, 1, 0, 0, 0, 0), some (.iadd, 1, 0, 0, 0, 0), some (.istore_n 0, 1, 0, 0, 0, 0), some (.iload_n 0, 1, 0, 0, 0, 0), some (.bipush 63, 2, 0, 0, 0, 63), none, some (.iand, 1, 0, 0, 0, 0), some (.ireturn, 1, 0, 0, 0, 0)]
def mJ6_bitCount_0f7a4 : dp_M := (RJ6, yJ6_bitCount_0f7a4, cJ6_bitCount_0f7a4, 1, some .int, tJ6_bitCount_0f7a4)
set_option maxRecDepth 20000 in
theorem okJ6_bitCount_0f7a4 : dp_ok mJ6_bitCount_0f7a4 := ⟨⟨[], [(265, 1431655765), (266, 858993459), (267, 252645135)], by decide +kernel, fun _ h => absurd h List.not_mem_nil, List.forall_mem_cons.mpr ⟨dq_379, List.forall_mem_cons.mpr ⟨dq_380, List.forall_mem_cons.mpr ⟨dq_381, (fun _ h => absurd h List.not_mem_nil)⟩⟩⟩⟩, rfl, dq_378, by decide +kernel, by decide +kernel, by decide +kernel, Nat.le_of_ble_eq_true rfl⟩
theorem npJ6_bitCount_0f7a4 : dp_np yJ6_bitCount_0f7a4 1 := by unfold dp_np; decide +kernel
set_option maxRecDepth 20000 in
def tJ7_fill_53178 : List (Option dp_In) := [some (.iconst 0, 1, 0, 0, 0, 0), some (.istore_n 2, 1, 0, 0, 0, 0), some (.aload_n 0, 1, 0, 0, 0, 0), some (.arraylength, 1, 0, 0, 0, 0), some (.istore_n 3, 1, 0, 0, 0, 0), some (.iload_n 2, 1, 0, 0, 0, 0), some (.iload_n 3, 1, 0, 0, 0, 0), some (.if_icmp .ge 13, 3, 20, 0, 0, 0), none, none, some (.aload_n 0, 1, 0, 0, 0, 0), some (.iload_n 2, 1, 0, 0, 0, 0), some (.iload_n 1, 1, 0, 0, 0, 0), some (.iastore, 1, 0, 0, 0, 0), some (.iinc 2 1, 3, 0, 0, 0, 1), none, none, some (.goto (-12), 3, 5, 0, 0, 0), none, none, some (.return_, 1, 0, 0, 0, 0)]
def mJ7_fill_53178 : dp_M := (RJ7, yJ7_fill_53178, cJ7_fill_53178, 4, none, tJ7_fill_53178)
set_option maxRecDepth 20000 in
theorem okJ7_fill_53178 : dp_ok mJ7_fill_53178 := ⟨⟨[], [], by decide +kernel, fun _ h => absurd h List.not_mem_nil, (fun _ h => absurd h List.not_mem_nil)⟩, rfl, dq_70, by decide +kernel, by decide +kernel, by decide +kernel, Nat.le_of_ble_eq_true rfl⟩
theorem npJ7_fill_53178 : dp_np yJ7_fill_53178 2 := by unfold dp_np; decide +kernel
-- ## call links
theorem lk_NearLiars_9 : dp_Li RX5 9 yX2_init := ⟨dq_60, dq_61, dq_40, rfl⟩
theorem lk_NearLiars_Net_25 : dp_Lv RX2 25 yX2_lay := ⟨dq_64, dq_65, dq_66, dq_40⟩
theorem lk_NearLiars_Net_41 : dp_Ls RX2 41 yJ7_fill_53178 := ⟨dq_68, dq_69, dq_41⟩
theorem lk_NearLiars_Net_47 : dp_Lv RX2 47 yX2_around := ⟨dq_71, dq_73, dq_0, dq_40⟩
theorem lk_NearLiars_18 : dp_Li RX5 18 yX3_init := ⟨dq_121, dq_122, dq_43, rfl⟩
theorem lk_NearLiars_25 : dp_Lin RX5 25 yX4_init := ⟨⟨_, dq_155⟩, dq_156, dq_44, rfl⟩
theorem lk_NearLiars_32 : dp_Lin RX5 32 yX1_init := ⟨⟨_, dq_178⟩, dq_179, dq_45, rfl⟩
theorem lk_NearLiars_39 : dp_Lin RX5 39 yX0_init := ⟨⟨_, dq_193⟩, dq_194, dq_46, rfl⟩
theorem lk_NearLiars_44 : dp_Lv RX5 44 yX3_restart := ⟨dq_230, dq_231, dq_232, dq_43⟩
theorem lk_NearLiars_Run_34 : dp_Lv RX3 34 yX3_dealSlots := ⟨dq_234, dq_236, dq_1, dq_43⟩
theorem lk_NearLiars_Run_55 : dp_Lv RX3 55 yX3_slotsNear := ⟨dq_238, dq_240, dq_2, dq_43⟩
theorem lk_NearLiars_Run_69 : dp_Lv RX3 69 yX2_areLinked := ⟨dq_242, dq_243, dq_244, dq_40⟩
theorem lk_NearLiars_Net_57 : dp_Lsn RX2 57 yX5_isIn := ⟨⟨_, dq_246⟩, dq_247, dq_39⟩
theorem lk_NearLiars_Run_59 : dp_Ls RX3 59 yX3_leastFree := ⟨dq_249, dq_250, dq_43⟩
theorem lk_NearLiars_Run_76 : dp_Lsn RX3 76 yX5_isIn := ⟨⟨_, dq_252⟩, dq_247, dq_39⟩
theorem lk_NearLiars_Run_38 : dp_Ls RX3 38 yJ7_fill_53178 := ⟨dq_256, dq_69, dq_41⟩
theorem lk_NearLiars_48 : dp_Lv RX5 48 yX5_layAnew := ⟨dq_277, dq_279, dq_3, dq_39⟩
theorem lk_NearLiars_229 : dp_Lv RX5 229 yX2_lay := ⟨dq_281, dq_65, dq_66, dq_40⟩
theorem lk_NearLiars_233 : dp_Lv RX5 233 yX1_forget := ⟨dq_282, dq_283, dq_284, dq_45⟩
theorem lk_NearLiars_64 : dp_Lv RX5 64 yX0_forget := ⟨dq_286, dq_287, dq_288, dq_46⟩
theorem lk_NearLiars_Claims_30 : dp_Lv RX0 30 yX0_letGo := ⟨dq_290, dq_291, dq_292, dq_46⟩
theorem lk_NearLiars_52 : dp_Lv RX5 52 yX2_has := ⟨dq_302, dq_303, dq_304, dq_40⟩
theorem lk_NearLiars_56 : dp_Lv RX5 56 yX2_areLinked := ⟨dq_306, dq_243, dq_244, dq_40⟩
theorem lk_NearLiars_60 : dp_Lv RX5 60 yX2_link := ⟨dq_307, dq_308, dq_309, dq_40⟩
theorem lk_NearLiars_71 : dp_Ls RX5 71 yX5_isValue := ⟨dq_319, dq_320, dq_39⟩
theorem lk_NearLiars_90 : dp_Lv RX5 90 yX3_pass := ⟨dq_338, dq_339, dq_340, dq_43⟩
theorem lk_NearLiars_Run_79 : dp_Lv RX3 79 yX3_speak := ⟨dq_342, dq_344, dq_4, dq_43⟩
theorem lk_NearLiars_Run_85 : dp_Lsn RX3 85 yX5_isValue := ⟨⟨_, dq_346⟩, dq_320, dq_39⟩
theorem lk_NearLiars_Run_89 : dp_Lv RX3 89 yX3_hear := ⟨dq_347, dq_349, dq_5, dq_43⟩
theorem lk_NearLiars_Run_93 : dp_Lv RX3 93 yX3_heardOf := ⟨dq_351, dq_352, dq_353, dq_43⟩
theorem lk_NearLiars_94 : dp_Lv RX5 94 yX3_heardOf := ⟨dq_359, dq_352, dq_353, dq_43⟩
theorem lk_NearLiars_107 : dp_Lv RX5 107 yX3_heardInAll := ⟨dq_360, dq_361, dq_362, dq_43⟩
theorem lk_NearLiars_117 : dp_Lv RX5 117 yX2_row := ⟨dq_368, dq_369, dq_370, dq_40⟩
theorem lk_NearLiars_120 : dp_Lv RX5 120 yX2_liars := ⟨dq_372, dq_373, dq_374, dq_40⟩
theorem lk_NearLiars_124 : dp_Ls RX5 124 yJ6_bitCount_0f7a4 := ⟨dq_376, dq_377, dq_48⟩
theorem lk_NearLiars_129 : dp_Lv RX5 129 yX3_right := ⟨dq_382, dq_383, dq_384, dq_43⟩
theorem lk_NearLiars_133 : dp_Lv RX5 133 yX3_misled := ⟨dq_386, dq_387, dq_388, dq_43⟩
theorem lk_NearLiars_136 : dp_Lv RX5 136 yX3_lastTake := ⟨dq_390, dq_391, dq_392, dq_43⟩
theorem lk_NearLiars_139 : dp_Lv RX5 139 yX2_isSet := ⟨dq_398, dq_399, dq_400, dq_40⟩
theorem lk_NearLiars_Net_66 : dp_Lv RX2 66 yX2_all := ⟨dq_402, dq_403, dq_404, dq_40⟩
theorem lk_NearLiars_142 : dp_Lv RX5 142 yX2_isThin := ⟨dq_406, dq_407, dq_408, dq_40⟩
theorem lk_NearLiars_Net_70 : dp_Lv RX2 70 yX2_leastCrowded := ⟨dq_410, dq_411, dq_412, dq_40⟩
theorem lk_NearLiars_Net_61 : dp_Ls RX2 61 yJ6_bitCount_0f7a4 := ⟨dq_414, dq_377, dq_48⟩
theorem lk_NearLiars_145 : dp_Lv RX5 145 yX2_cut := ⟨dq_415, dq_416, dq_417, dq_40⟩
theorem lk_NearLiars_Net_77 : dp_Lv RX2 77 yX2_spread := ⟨dq_419, dq_420, dq_421, dq_40⟩
theorem lk_NearLiars_Net_74 : dp_Lv RX2 74 yX2_withJoining := ⟨dq_423, dq_425, dq_6, dq_40⟩
theorem lk_NearLiars_148 : dp_Lv RX5 148 yX2_leastCrowded := ⟨dq_431, dq_411, dq_412, dq_40⟩
theorem lk_NearLiars_151 : dp_Lv RX5 151 yX2_spread := ⟨dq_436, dq_420, dq_421, dq_40⟩
theorem lk_NearLiars_154 : dp_Lv RX5 154 yX4_take := ⟨dq_441, dq_442, dq_443, dq_44⟩
theorem lk_NearLiars_Survey_22 : dp_Lv RX4 22 yX2_all := ⟨dq_445, dq_403, dq_404, dq_40⟩
theorem lk_NearLiars_Survey_28 : dp_Lv RX4 28 yX2_isSet := ⟨dq_446, dq_399, dq_400, dq_40⟩
theorem lk_NearLiars_Survey_35 : dp_Lv RX4 35 yX2_isThin := ⟨dq_447, dq_407, dq_408, dq_40⟩
theorem lk_NearLiars_Survey_39 : dp_Lv RX4 39 yX2_cut := ⟨dq_448, dq_416, dq_417, dq_40⟩
theorem lk_NearLiars_Survey_43 : dp_Lv RX4 43 yX4_weigh := ⟨dq_449, dq_451, dq_7, dq_44⟩
theorem lk_NearLiars_Survey_47 : dp_Ls RX4 47 yJ6_bitCount_0f7a4 := ⟨dq_453, dq_377, dq_48⟩
theorem lk_NearLiars_169 : dp_Lv RX5 169 yX2_greatestBorne := ⟨dq_458, dq_459, dq_460, dq_40⟩
theorem lk_NearLiars_Net_80 : dp_Lv RX2 80 yX2_isSet := ⟨dq_462, dq_399, dq_400, dq_40⟩
theorem lk_NearLiars_Net_84 : dp_Lv RX2 84 yX2_isThin := ⟨dq_463, dq_407, dq_408, dq_40⟩
theorem lk_NearLiars_Net_87 : dp_Lv RX2 87 yX2_cut := ⟨dq_464, dq_416, dq_417, dq_40⟩
theorem lk_NearLiars_172 : dp_Lv RX5 172 yX1_place := ⟨dq_469, dq_470, dq_471, dq_45⟩
theorem lk_NearLiars_181 : dp_Lv RX5 181 yX0_canStep := ⟨dq_484, dq_485, dq_486, dq_46⟩
theorem lk_NearLiars_Claims_48 : dp_Lv RX0 48 yX2_areLinked := ⟨dq_488, dq_243, dq_244, dq_40⟩
theorem lk_NearLiars_Claims_52 : dp_Lsn RX0 52 yX5_isIn := ⟨⟨_, dq_489⟩, dq_247, dq_39⟩
theorem lk_NearLiars_185 : dp_Lv RX5 185 yX0_step := ⟨dq_490, dq_491, dq_492, dq_46⟩
theorem lk_NearLiars_191 : dp_Lv RX5 191 yX0_isTold := ⟨dq_498, dq_499, dq_500, dq_46⟩
theorem lk_NearLiars_Claims_55 : dp_Lv RX0 55 yX0_isInHand := ⟨dq_502, dq_504, dq_8, dq_46⟩
theorem lk_NearLiars_194 : dp_Lv RX5 194 yX0_keep := ⟨dq_506, dq_507, dq_508, dq_46⟩
theorem lk_NearLiars_Claims_59 : dp_Lv RX0 59 yX0_forgetOldest := ⟨dq_510, dq_512, dq_9, dq_46⟩
theorem lk_NearLiars_197 : dp_Lv RX5 197 yX0_letGo := ⟨dq_519, dq_291, dq_292, dq_46⟩
theorem lk_NearLiars_201 : dp_Lv RX5 201 yX0_placeOf := ⟨dq_524, dq_525, dq_526, dq_46⟩
theorem lk_NearLiars_213 : dp_Lv RX5 213 yX0_mostApart := ⟨dq_532, dq_533, dq_534, dq_46⟩
theorem lk_NearLiars_Claims_68 : dp_Lv RX0 68 yX0_gatherInner := ⟨dq_536, dq_538, dq_10, dq_46⟩
theorem lk_NearLiars_Claims_81 : dp_Lv RX0 81 yX0_placeOf := ⟨dq_540, dq_525, dq_526, dq_46⟩
theorem lk_NearLiars_Claims_72 : dp_Ls RX0 72 yJ6_bitCount_0f7a4 := ⟨dq_541, dq_377, dq_48⟩
theorem lk_NearLiars_Claims_78 : dp_Lv RX0 78 yX0_areApart := ⟨dq_542, dq_544, dq_11, dq_46⟩
theorem lk_NearLiars_216 : dp_Lv RX5 216 yX0_soleGreatest := ⟨dq_550, dq_551, dq_552, dq_46⟩
theorem lk_NearLiars_Claims_84 : dp_Lv RX0 84 yX0_mostApart := ⟨dq_554, dq_533, dq_534, dq_46⟩
theorem lk_NearLiars_219 : dp_Lv RX5 219 yX2_all := ⟨dq_559, dq_403, dq_404, dq_40⟩
theorem lk_NearLiars_223 : dp_Lv RX5 223 yX2_pairs := ⟨dq_560, dq_561, dq_562, dq_40⟩
theorem lk_NearLiarsModel_60 : dp_Lv RX6 60 yX6_begins := ⟨dq_570, dq_572, dq_12, dq_47⟩
theorem lk_NearLiarsModel_106 : dp_Lv RX6 106 yX6_dealsSlots := ⟨dq_574, dq_576, dq_13, dq_47⟩
theorem lk_NearLiarsModel_103 : dp_Lv RX6 103 yX6_isFreeSlot := ⟨dq_578, dq_580, dq_14, dq_47⟩
theorem lk_NearLiarsModel_97 : dp_Lv RX6 97 yX6_isApart := ⟨dq_582, dq_584, dq_15, dq_47⟩
theorem lk_NearLiarsModel_93 : dp_Ls RX6 93 yX6_has := ⟨dq_586, dq_587, dq_47⟩
theorem lk_NearLiarsModel_63 : dp_Ls RX6 63 yX6_within := ⟨dq_673, dq_674, dq_47⟩
theorem lk_NearLiarsModel_82 : dp_Lv RX6 82 yX6_lays := ⟨dq_676, dq_678, dq_16, dq_47⟩
theorem lk_NearLiarsModel_73 : dp_Lv RX6 73 yX6_forgets := ⟨dq_680, dq_682, dq_17, dq_47⟩
theorem lk_NearLiarsModel_86 : dp_Lv RX6 86 yX6_isNode := ⟨dq_692, dq_694, dq_18, dq_47⟩
theorem lk_NearLiarsModel_126 : dp_Lv RX6 126 yX6_tick := ⟨dq_720, dq_722, dq_19, dq_47⟩
theorem lk_NearLiarsModel_119 : dp_Lv RX6 119 yX6_says := ⟨dq_724, dq_726, dq_20, dq_47⟩
theorem lk_NearLiarsModel_112 : dp_Lv RX6 112 yX6_isHonest := ⟨dq_728, dq_730, dq_21, dq_47⟩
theorem lk_NearLiarsModel_122 : dp_Lv RX6 122 yX6_speaks := ⟨dq_732, dq_734, dq_22, dq_47⟩
theorem lk_NearLiarsModel_115 : dp_Ls RX6 115 yX6_size := ⟨dq_736, dq_737, dq_47⟩
theorem lk_NearLiarsModel_130 : dp_Lv RX6 130 yX6_heardBy := ⟨dq_743, dq_745, dq_23, dq_47⟩
theorem lk_NearLiarsModel_133 : dp_Lv RX6 133 yX6_lastIn := ⟨dq_751, dq_753, dq_24, dq_47⟩
theorem lk_NearLiarsModel_136 : dp_Lv RX6 136 yX6_manyHonest := ⟨dq_755, dq_757, dq_25, dq_47⟩
theorem lk_NearLiarsModel_143 : dp_Lv RX6 143 yX6_isSet := ⟨dq_763, dq_765, dq_26, dq_47⟩
theorem lk_NearLiarsModel_146 : dp_Lv RX6 146 yX6_crowdedBy := ⟨dq_767, dq_769, dq_27, dq_47⟩
theorem lk_NearLiarsModel_149 : dp_Lv RX6 149 yX6_cutBy := ⟨dq_771, dq_773, dq_28, dq_47⟩
theorem lk_NearLiarsModel_140 : dp_Lv RX6 140 yX6_reachedBy := ⟨dq_775, dq_777, dq_29, dq_47⟩
theorem lk_NearLiarsModel_161 : dp_Lv RX6 161 yX6_triesSets := ⟨dq_791, dq_793, dq_30, dq_47⟩
theorem lk_NearLiarsModel_165 : dp_Lv RX6 165 yX6_isOnWay := ⟨dq_811, dq_813, dq_31, dq_47⟩
theorem lk_NearLiarsModel_168 : dp_Lv RX6 168 yX6_isClaimed := ⟨dq_819, dq_821, dq_32, dq_47⟩
theorem lk_NearLiarsModel_171 : dp_Lv RX6 171 yX6_oldestGoes := ⟨dq_823, dq_825, dq_33, dq_47⟩
theorem lk_NearLiarsModel_174 : dp_Lv RX6 174 yX6_setOf := ⟨dq_835, dq_837, dq_34, dq_47⟩
theorem lk_NearLiarsModel_180 : dp_Lv RX6 180 yX6_proofOf := ⟨dq_843, dq_845, dq_35, dq_47⟩
theorem lk_NearLiarsModel_177 : dp_Lv RX6 177 yX6_proves := ⟨dq_847, dq_849, dq_36, dq_47⟩
theorem lk_NearLiarsModel_183 : dp_Lv RX6 183 yX6_twos := ⟨dq_859, dq_861, dq_37, dq_47⟩
end
section
/-! ===== 11: further rules, the form of the pure functions ===== -/
def dp_R (rv : Option dp_V) (h1 : dp_H) : Option dp_V → dp_H → Prop := fun r h' => r = rv ∧ h' = h1
def dp_mask : List Bool → List (Option dp_V) → List (Option dp_V)
  | true :: m, x :: L => x :: dp_mask m L
  | false :: m, _ :: L => none :: dp_mask m L
  | _, _ => []
theorem dp_mask_at : ∀ (m : List Bool) (L : List (Option dp_V)) (i : Nat) (v : dp_V), (dp_mask m L)[i]? = some (some v) → L[i]? = some (some v)
  | [], L, i, v, h => by simp [dp_mask] at h
  | true :: m, [], i, v, h => by simp [dp_mask] at h
  | false :: m, [], i, v, h => by simp [dp_mask] at h
  | true :: m, x :: L, 0, v, h => h
  | true :: m, x :: L, i + 1, v, h => dp_mask_at m L i v h
  | false :: m, x :: L, 0, v, h => by cases h
  | false :: m, x :: L, i + 1, v, h => dp_mask_at m L i v h
theorem dp_ite {α : Type} {P : Prop} [Decidable P] {A : Option α} {o : α} (h : (if P then A else none) = some o) : P ∧ A = some o := by
  by_cases c : P
  · rw [if_pos c] at h
    exact ⟨c, h⟩
  · rw [if_neg c] at h
    cases h
theorem dp_ite0 {α : Type} {P : Prop} [Decidable P] {A : Option α} {o : α} (h : (if P then none else A) = some o) : ¬ P ∧ A = some o := by
  by_cases c : P
  · rw [if_pos c] at h
    cases h
  · rw [if_neg c] at h
    exact ⟨c, h⟩
theorem dp_ip {α : Type} {P : Prop} [Decidable P] {A B : Option α} {o : α} (c : P) (h : (if P then A else B) = some o) : A = some o := by
  rw [if_pos c] at h
  exact h
theorem dp_ic {α : Type} {P : Prop} [Decidable P] {A B : Option α} {o : α} (c : ¬ P) (h : (if P then A else B) = some o) : B = some o := by
  rw [if_neg c] at h
  exact h
def dp_bd {α β : Type} (x : Option α) (f : α → Option β) : Option β := match x with
  | some a => f a
  | none => none
theorem dp_bd_inv {α β : Type} {x : Option α} {f : α → Option β} {o : β} (h : dp_bd x f = some o) : ∃ a, x = some a ∧ f a = some o := by
  cases x with
  | none => cases h
  | some a => exact ⟨a, rfl, h⟩
def dp_inb (i : Int32) (n : Nat) : Bool := decide (¬ (i < 0 ∨ n ≤ i.toNatClampNeg))
theorem dp_inb_in {i : Int32} {n : Nat} (h : dp_inb i n = true) : vp_in i n := by unfold vp_in; exact of_decide_eq_true h
def dp_cpk (sp dp n : Int32) (n0 n1 : Nat) : Bool := decide ((¬ sp < 0 ∧ ¬ dp < 0 ∧ ¬ n < 0) ∧ sp.toNatClampNeg + n.toNatClampNeg ≤ n0 ∧ dp.toNatClampNeg + n.toNatClampNeg ≤ n1)
def dp_loop {σ ρ : Type} (body : σ → Option (σ ⊕ ρ)) : Nat → σ → Option ρ
  | 0, _ => none
  | n + 1, x => match body x with
    | some (.inl y) => dp_loop body n y
    | some (.inr r) => some r
    | none => none
def dp_F : Nat := 10000
def dp_LK {σ ρ : Type} (P : σ → Prop) (K : ρ → Prop) (o : σ ⊕ ρ) : Prop := match o with
  | .inl x => P x
  | .inr r => K r
theorem dp_loopW {σ ρ : Type} {body : σ → Option (σ ⊕ ρ)} {P : σ → Prop} {K : ρ → Prop} (hb : ∀ x o, body x = some o → dp_LK P K o → P x) : ∀ n x r, dp_loop body n x = some r → K r → P x
  | 0, x, r, h, _ => by cases h
  | n + 1, x, r, h, hk => by
    unfold dp_loop at h
    cases hx : body x with
    | none => rw [hx] at h; cases h
    | some o =>
      rw [hx] at h
      cases o with
      | inl y => exact hb x _ hx (dp_loopW hb n y r h hk)
      | inr z => cases h; exact hb x _ hx hk
abbrev dp_Z : Type := (Nat → Int32) × (Nat → Nat → Int32)
def dp_sf (s : dp_Z) (k : Nat) (x : Int32) : dp_Z := (upd s.1 k x, s.2)
def dp_sr (s : dp_Z) (a : Nat) (f : Nat → Int32) : dp_Z := (s.1, fun c => if c = a then f else s.2 c)
def dp_z0 : dp_Z := (fun _ => 0, fun _ _ => 0)
section DM
variable {d d' : Nat} {M N : dp_M} {al : Bool} {h0 : dp_H} {mc ms : Nat} {post : Option dp_V → dp_H → Prop} {k n : Nat} {pc : Nat} {L L' : List (Option dp_V)} {st : List dp_V} {h h1 : dp_H} {as r : List dp_V} {q idx : Nat} {rv : Option dp_V}
theorem dp_fg (m : List Bool) (hm : dp_mask m L = L') (hl : L'.length = L.length) (kk : dp_W d M al h0 mc ms post k n (pc, L', st, h)) : dp_W d M al h0 mc ms post k n (pc, L, st, h) := by
  subst hm
  intro p l e s m args below meth c D cI cZ b E ha H locs ls h2 h3 h4 h5
  refine kk p l e s m args below meth c D cI cZ b E ha H locs ls h2 h3 h4 ⟨⟨h5.1.1, h5.1.2.1, fun q hq => ?_⟩, hl.trans h5.2⟩
  obtain ⟨i, v, hi, rfl⟩ := dp_lv_mem.mp hq
  exact h5.at (dp_mask_at _ _ i v hi)
theorem dp_cV (hM : dp_ok M) (hN : dp_ok N) {len a b' f : Nat} {v : Int32} (ht : M.2.2.2.2.2[pc]? = some (some (.invokevirtual idx, len, a, b', f, v))) (hlk : dp_Lv M.1 idx N.2.1) (hnp : dp_np N.2.1 as.length) (hC : dp_C d' N false (.inr (some q) :: as) h 0 0 (dp_R rv h1))
    {ci : Nat} {fs : List dp_V} {C : vw_C} (hq : h[q]? = some (.inr (ci, fs))) (hc : vwCl[ci]? = some C) (hc2 : C.1 = N.1) (hst : st = as.reverse ++ .inr (some q) :: r) (hr : r.length ≤ 8) (hd : d' + 1 ≤ d) (hk : k ≤ mc) (hn : n ≤ ms)
    (kk : dp_W d M al h0 mc ms post k n (pc + 3, L, rv.toList ++ r, h1)) : dp_W d M al h0 mc ms post k n (pc, L, st, h) :=
  dp_callV hM hN ht hlk hnp hC hq hc hc2 hst hr hd hk hn (fun z => by cases z) (fun _ _ hp => by obtain ⟨rfl, rfl⟩ := hp; exact kk)
theorem dp_cVN (hM : dp_ok M) (hN : dp_ok N) {len a b' f : Nat} {v : Int32} (ht : M.2.2.2.2.2[pc]? = some (some (.invokevirtual idx, len, a, b', f, v))) (hlk : dp_Lvn M.1 idx N.2.1) (hnp : dp_np N.2.1 as.length) (hC : dp_C d' N false (.inr (some q) :: as) h 0 0 (dp_R rv h1))
    {ci : Nat} {fs : List dp_V} {C : vw_C} (hq : h[q]? = some (.inr (ci, fs))) (hc : vwCl[ci]? = some C) (hc2 : C.1 = N.1) (hst : st = as.reverse ++ .inr (some q) :: r) (hr : r.length ≤ 8) (hd : d' + 1 ≤ d) (hk : k ≤ mc) (hn : n ≤ ms)
    (kk : dp_W d M al h0 mc ms post k n (pc + 3, L, rv.toList ++ r, h1)) : dp_W d M al h0 mc ms post k n (pc, L, st, h) :=
  dp_callVN hM hN ht hlk hnp hC hq hc hc2 hst hr hd hk hn (fun _ _ hp => by obtain ⟨rfl, rfl⟩ := hp; exact kk)
theorem dp_cS (hM : dp_ok M) (hN : dp_ok N) {len a b' f : Nat} {v : Int32} (ht : M.2.2.2.2.2[pc]? = some (some (.invokestatic idx, len, a, b', f, v))) (hlk : dp_Ls M.1 idx N.2.1) (hnp : dp_np N.2.1 as.length) (hC : dp_C d' N false as h 0 0 (dp_R rv h1))
    (hst : st = as.reverse ++ r) (hr : r.length ≤ 8) (hd : d' + 1 ≤ d) (hk : k ≤ mc) (hn : n ≤ ms)
    (kk : dp_W d M al h0 mc ms post k n (pc + 3, L, rv.toList ++ r, h1)) : dp_W d M al h0 mc ms post k n (pc, L, st, h) :=
  dp_callS hM hN ht hlk hnp hC hst hr hd hk hn (fun _ _ hp => by obtain ⟨rfl, rfl⟩ := hp; exact kk)
theorem dp_cSN (hM : dp_ok M) (hN : dp_ok N) {len a b' f : Nat} {v : Int32} (ht : M.2.2.2.2.2[pc]? = some (some (.invokestatic idx, len, a, b', f, v))) (hlk : dp_Lsn M.1 idx N.2.1) (hnp : dp_np N.2.1 as.length) (hC : dp_C d' N false as h 0 0 (dp_R rv h1))
    (hst : st = as.reverse ++ r) (hr : r.length ≤ 8) (hd : d' + 1 ≤ d) (hk : k ≤ mc) (hn : n ≤ ms)
    (kk : dp_W d M al h0 mc ms post k n (pc + 3, L, rv.toList ++ r, h1)) : dp_W d M al h0 mc ms post k n (pc, L, st, h) :=
  dp_callSN hM hN ht hlk hnp hC hst hr hd hk hn (fun _ _ hp => by obtain ⟨rfl, rfl⟩ := hp; exact kk)
theorem dp_mmax (hM : dp_ok M) {len a b' f : Nat} {v x y : Int32} (ht : M.2.2.2.2.2[pc]? = some (some (.invokestatic idx, len, a, b', f, v))) (h1 : Cond.methodLink M.1 idx Lib.Math.max.name ∈ dp_g) (h2 : Cond.static Lib.Math.max.name ∈ dp_g) (h3 : Cond.initialized "java/lang/Math" ∈ dp_g) (h4 : Cond.code Lib.Math.max.name Lib.Math.max.code 2 (some .int) ∈ dp_g)
    (hr : r.length ≤ 8) (hd : 1 ≤ d) (hk : k ≤ mc) (hn : n ≤ ms) (kk : dp_W d M al h0 mc ms post k n (pc + 3, L, .inl (if x < y then y else x) :: r, h)) : dp_W d M al h0 mc ms post k n (pc, L, .inl y :: .inl x :: r, h) := by
  obtain ⟨hdc, hlen, -⟩ := dp_X_of hM ht
  dsimp only at hdc hlen
  obtain rfl := dp_lenE hlen rfl
  intro p l e s m args below meth c D cI cZ b E ha H locs ls u2 u3 u4 u5
  have E0 := E
  obtain ⟨hx, hb, hml, -, -, -, hown, hts, hnw, hK⟩ := E0
  exact va_mmax (rest := r.map (dp_cv b)) hx hb (by rw [hml]; exact u5.1.1.symm) hown (hts _ h1) (hts _ h2) (hts _ h3) (hts _ h4) hd (by
    rw [dp_catsum]
    show r.length + 13 ≤ 40 * d
    omega) hk hn hdc (kk p l e s m args below meth c D cI cZ b E ha H locs ls u2 u3 u4 u5)
theorem dp_mabs (hM : dp_ok M) {len a b' f : Nat} {v x : Int32} (ht : M.2.2.2.2.2[pc]? = some (some (.invokestatic idx, len, a, b', f, v))) (h1 : Cond.methodLink M.1 idx Lib.Math.abs.name ∈ dp_g) (h2 : Cond.static Lib.Math.abs.name ∈ dp_g) (h3 : Cond.initialized "java/lang/Math" ∈ dp_g) (h4 : Cond.code Lib.Math.abs.name Lib.Math.abs.code 1 (some .int) ∈ dp_g)
    (hr : r.length ≤ 8) (hd : 1 ≤ d) (hk : k ≤ mc) (hn : n ≤ ms) (kk : dp_W d M al h0 mc ms post k n (pc + 3, L, .inl (if 0 ≤ x then x else 0 - x) :: r, h)) : dp_W d M al h0 mc ms post k n (pc, L, .inl x :: r, h) := by
  obtain ⟨hdc, hlen, -⟩ := dp_X_of hM ht
  dsimp only at hdc hlen
  obtain rfl := dp_lenE hlen rfl
  intro p l e s m args below meth c D cI cZ b E ha H locs ls u2 u3 u4 u5
  have E0 := E
  obtain ⟨hx, hb, hml, -, -, -, hown, hts, hnw, hK⟩ := E0
  exact va_mabs (rest := r.map (dp_cv b)) hx hb (by rw [hml]; exact u5.1.1.symm) hown (hts _ h1) (hts _ h2) (hts _ h3) (hts _ h4) hd (by
    rw [dp_catsum]
    show r.length + 13 ≤ 40 * d
    omega) hk hn hdc (kk p l e s m args below meth c D cI cZ b E ha H locs ls u2 u3 u4 u5)
end DM
end
section
/-! test -/
def hX (s : dp_Z) : dp_H := [.inr (5, [.inr (some 1), .inr (some 4), .inr (some 9), .inr (some 10), .inr (some 12)]), .inr (2, [.inr (some 2), .inr (some 3), .inl (s.1 0), .inl (s.1 1), .inl (s.1 2), .inl (s.1 3), .inl (s.1 4), .inl (s.1 5)]), .inl (false, 12, s.2 0), .inl (false, 12, s.2 1), .inr (3, [.inr (some 5), .inr (some 6), .inr (some 7), .inr (some 8), .inl (s.1 6), .inl (s.1 7), .inl (s.1 8)]), .inl (false, 12, s.2 2), .inl (false, 12, s.2 3), .inl (false, 12, s.2 4), .inl (false, 48, s.2 5), .inr (4, [.inl (s.1 9), .inl (s.1 10), .inl (s.1 11), .inl (s.1 12)]), .inr (1, [.inr (some 11), .inl (s.1 13)]), .inl (false, 6, s.2 6), .inr (0, [.inr (some 13), .inr (some 14), .inr (some 15), .inr (some 16), .inr (some 17), .inr (some 18), .inl (s.1 14), .inl (s.1 15), .inl (s.1 16)]), .inl (false, 12, s.2 7), .inl (false, 96, s.2 8), .inl (false, 8, s.2 9), .inl (false, 8, s.2 10), .inl (false, 8, s.2 11), .inl (false, 8, s.2 12)]
def hM (s : dp_Z) : dp_H := [.inr (6, [.inl (s.1 0), .inl (s.1 1), .inl (s.1 2), .inr (some 1), .inl (s.1 3), .inl (s.1 4), .inl (s.1 5), .inr (some 2), .inr (some 3), .inl (s.1 6), .inl (s.1 7), .inr (some 4), .inr (some 5), .inr (some 6), .inr (some 7), .inl (s.1 8), .inl (s.1 9), .inl (s.1 10), .inl (s.1 11), .inr (some 8), .inl (s.1 12), .inr (some 9), .inl (s.1 13), .inr (some 10), .inr (some 11), .inr (some 12)]), .inl (false, 12, s.2 0), .inl (false, 12, s.2 1), .inl (false, 12, s.2 2), .inl (false, 12, s.2 3), .inl (false, 12, s.2 4), .inl (true, 12, s.2 5), .inl (false, 48, s.2 6), .inl (false, 6, s.2 7), .inl (false, 12, s.2 8), .inl (false, 8, s.2 9), .inl (false, 8, s.2 10), .inl (false, 96, s.2 11)]
def hN (s : dp_Z) : dp_H := [.inr (5, [.inr none, .inr none, .inr none, .inr none, .inr none]), .inr (2, [.inr (some 2), .inr (some 3), .inl (s.1 0), .inl (s.1 1), .inl (s.1 2), .inl (s.1 3), .inl (s.1 4), .inl (s.1 5)]), .inl (false, 12, s.2 0), .inl (false, 12, s.2 1)]
def j_X2_has (s : dp_Z) (v1 : Int32) : Option Int32 := (if v1 < (0 : Int32) then (some (0 : Int32)) else (if (s.1 0) ≤ v1 then (some (0 : Int32)) else (some (1 : Int32))))
set_option maxHeartbeats 1000000 in
set_option maxRecDepth 20000 in
theorem we_X2_has {post : Option dp_V → dp_H → Prop} {h0 : dp_H} (s : dp_Z) (v1 : Int32) (o : Int32) (h : j_X2_has s v1 = some o) (hk : post (some (.inl o)) (hX s)) : dp_W 0 mX2_has false h0 0 0 post 0 0 (0, [some (.inr (some 1)), some (.inl v1)], [], (hX s)) := by
  unfold j_X2_has at h
  refine dp_blk okX2_has 1 (S' := (1, [some (.inr (some 1)), some (.inl v1)], [.inl v1], (hX s))) rfl ?_
  refine dp_if0 okX2_has rfl (fun (c : v1 < (0 : Int32)) => ?_) (fun (c : ¬ v1 < (0 : Int32)) => ?_)
  · have h := dp_ip c h
    refine dp_blk okX2_has 1 (S' := (17, [some (.inr (some 1)), some (.inl v1)], [.inl (0 : Int32)], (hX s))) rfl ?_
    cases h
    exact dp_zret okX2_has rfl rfl (by decide) hk
  · have h := dp_ic c h
    refine dp_blk okX2_has 3 (S' := (9, [some (.inr (some 1)), some (.inl v1)], [.inl (s.1 0), .inl v1], (hX s))) rfl ?_
    refine dp_if okX2_has rfl (fun (c : (s.1 0) ≤ v1) => ?_) (fun (c : ¬ (s.1 0) ≤ v1) => ?_)
    · have h := dp_ip c h
      refine dp_blk okX2_has 1 (S' := (17, [some (.inr (some 1)), some (.inl v1)], [.inl (0 : Int32)], (hX s))) rfl ?_
      cases h
      exact dp_zret okX2_has rfl rfl (by decide) hk
    · have h := dp_ic c h
      refine dp_blk okX2_has 2 (S' := (17, [some (.inr (some 1)), some (.inl v1)], [.inl (1 : Int32)], (hX s))) rfl ?_
      cases h
      exact dp_zret okX2_has rfl rfl (by decide) hk
theorem c_X2_has (s : dp_Z) (v1 : Int32) (o : Int32) (h : j_X2_has s v1 = some o) : dp_C 0 mX2_has false [.inr (some 1), .inl v1] (hX s) 0 0 (dp_R (some (.inl o)) (hX s)) := dp_C_of okX2_has [some (.inr (some 1)), some (.inl v1)] rfl (Nat.le_of_ble_eq_true rfl) (we_X2_has s v1 o h ⟨rfl, rfl⟩)
def j_J6_bitCount_0f7a4 (v0 : Int32) : Option Int32 := (dp_bd (some (v0 - (((v0).toUInt32 >>> (((1 : Int32)).toUInt32 &&& Int32.toUInt32 31)).toInt32 &&& (1431655765 : Int32)))) fun y1 => (dp_bd (some ((y1 &&& (858993459 : Int32)) + (((y1).toUInt32 >>> (((2 : Int32)).toUInt32 &&& Int32.toUInt32 31)).toInt32 &&& (858993459 : Int32)))) fun y2 => (dp_bd (some ((y2 + ((y2).toUInt32 >>> (((4 : Int32)).toUInt32 &&& Int32.toUInt32 31)).toInt32) &&& (252645135 : Int32))) fun y3 => (dp_bd (some (y3 + ((y3).toUInt32 >>> (((8 : Int32)).toUInt32 &&& Int32.toUInt32 31)).toInt32)) fun y4 => (dp_bd (some (y4 + ((y4).toUInt32 >>> (((16 : Int32)).toUInt32 &&& Int32.toUInt32 31)).toInt32)) fun y5 => (some (y5 &&& (63 : Int32))))))))
set_option maxHeartbeats 1000000 in
set_option maxRecDepth 20000 in
theorem we_J6_bitCount_0f7a4 {post : Option dp_V → dp_H → Prop} {h0 : dp_H} (hh : dp_H) (v0 : Int32) (o : Int32) (h : j_J6_bitCount_0f7a4 v0 = some o) (hk : post (some (.inl o)) hh) : dp_W 0 mJ6_bitCount_0f7a4 false h0 0 0 post 0 0 (0, [some (.inl v0)], [], hh) := by
  unfold j_J6_bitCount_0f7a4 at h
  obtain ⟨y1, hy, h⟩ := dp_bd_inv h
  have hy := Option.some.inj hy
  refine dp_blk okJ6_bitCount_0f7a4 8 (S' := (10, [some (.inl y1)], [], hh)) (by subst hy; rfl) ?_
  obtain ⟨y2, hy, h⟩ := dp_bd_inv h
  have hy := Option.some.inj hy
  refine dp_blk okJ6_bitCount_0f7a4 10 (S' := (24, [some (.inl y2)], [], hh)) (by subst hy; rfl) ?_
  obtain ⟨y3, hy, h⟩ := dp_bd_inv h
  have hy := Option.some.inj hy
  refine dp_blk okJ6_bitCount_0f7a4 8 (S' := (34, [some (.inl y3)], [], hh)) (by subst hy; rfl) ?_
  obtain ⟨y4, hy, h⟩ := dp_bd_inv h
  have hy := Option.some.inj hy
  refine dp_blk okJ6_bitCount_0f7a4 6 (S' := (41, [some (.inl y4)], [], hh)) (by subst hy; rfl) ?_
  obtain ⟨y5, hy, h⟩ := dp_bd_inv h
  have hy := Option.some.inj hy
  refine dp_blk okJ6_bitCount_0f7a4 6 (S' := (48, [some (.inl y5)], [], hh)) (by subst hy; rfl) ?_
  refine dp_blk okJ6_bitCount_0f7a4 3 (S' := (52, [some (.inl y5)], [.inl (y5 &&& (63 : Int32))], hh)) rfl ?_
  cases h
  exact dp_iret okJ6_bitCount_0f7a4 rfl rfl hk
theorem c_J6_bitCount_0f7a4 (hh : dp_H) (v0 : Int32) (o : Int32) (h : j_J6_bitCount_0f7a4 v0 = some o) : dp_C 0 mJ6_bitCount_0f7a4 false [.inl v0] hh 0 0 (dp_R (some (.inl o)) hh) := dp_C_of okJ6_bitCount_0f7a4 [some (.inl v0)] rfl (Nat.le_of_ble_eq_true rfl) (we_J6_bitCount_0f7a4 hh v0 o h ⟨rfl, rfl⟩)
def jb_X2_pairs_4 (s : dp_Z) (x : (Int32 × Int32)) : Option ((Int32 × Int32) ⊕ Int32) := (if (s.1 0) ≤ x.2 then (some (.inr x.1)) else (if dp_inb x.2 12 = true then (dp_bd (j_J6_bitCount_0f7a4 ((s.2 0) (x.2).toNatClampNeg)) fun x1 => (some (.inl ((x.1 + x1), (x.2 + (1 : Int32)))))) else none))
set_option maxHeartbeats 1000000 in
set_option maxRecDepth 20000 in
theorem wl_X2_pairs_4 {post : Option dp_V → dp_H → Prop} {h0 : dp_H} (s : dp_Z) (x : (Int32 × Int32)) (o : ((Int32 × Int32) ⊕ Int32)) (h : jb_X2_pairs_4 s x = some o) (hk : dp_LK (fun x : (Int32 × Int32) => dp_W 1 mX2_pairs false h0 0 0 post 0 0 (4, [some (.inr (some 1)), some (.inl x.1), some (.inl x.2)], [], (hX s))) (fun x : Int32 => dp_W 1 mX2_pairs false h0 0 0 post 0 0 (30, [none, some (.inl x), none], [], (hX s))) o) : dp_W 1 mX2_pairs false h0 0 0 post 0 0 (4, [some (.inr (some 1)), some (.inl x.1), some (.inl x.2)], [], (hX s)) := by
  unfold jb_X2_pairs_4 at h
  refine dp_blk okX2_pairs 3 (S' := (9, [some (.inr (some 1)), some (.inl x.1), some (.inl x.2)], [.inl (s.1 0), .inl x.2], (hX s))) rfl ?_
  refine dp_if okX2_pairs rfl (fun (c : (s.1 0) ≤ x.2) => ?_) (fun (c : ¬ (s.1 0) ≤ x.2) => ?_)
  · have h := dp_ip c h
    refine dp_blk okX2_pairs 0 (S' := (30, [some (.inr (some 1)), some (.inl x.1), some (.inl x.2)], [], (hX s))) rfl ?_
    cases h
    refine dp_fg [false, true, false] (L' := [none, some (.inl x.1), none]) rfl rfl ?_
    exact hk
  · have h := dp_ic c h
    refine dp_blk okX2_pairs 4 (S' := (18, [some (.inr (some 1)), some (.inl x.1), some (.inl x.2)], [.inl x.2, .inr (some 2), .inl x.1], (hX s))) rfl ?_
    obtain ⟨hi, h⟩ := dp_ite h
    refine dp_ial okX2_pairs rfl rfl (dp_inb_in hi) ?_
    refine dp_blk okX2_pairs 0 (S' := (19, [some (.inr (some 1)), some (.inl x.1), some (.inl x.2)], [.inl ((s.2 0) (x.2).toNatClampNeg), .inl x.1], (hX s))) rfl ?_
    obtain ⟨x1, hc, h⟩ := dp_bd_inv h
    refine dp_cS okX2_pairs okJ6_bitCount_0f7a4 (as := [.inl ((s.2 0) (x.2).toNatClampNeg)]) (r := [.inl x.1]) rfl lk_NearLiars_Net_61 npJ6_bitCount_0f7a4 (c_J6_bitCount_0f7a4 (hX s) ((s.2 0) (x.2).toNatClampNeg) x1 hc) rfl (Nat.le_of_ble_eq_true rfl) (Nat.le_of_ble_eq_true rfl) (Nat.le_refl _) (Nat.le_refl _) ?_
    refine dp_blk okX2_pairs 4 (S' := (4, [some (.inr (some 1)), some (.inl (x.1 + x1)), some (.inl (x.2 + (1 : Int32)))], [], (hX s))) rfl ?_
    cases h
    exact hk
def j_X2_pairs (s : dp_Z) : Option Int32 := (dp_bd (dp_loop (jb_X2_pairs_4 s) dp_F ((0 : Int32), (0 : Int32))) fun x2 => (some (x2 / (2 : Int32))))
set_option maxHeartbeats 1000000 in
set_option maxRecDepth 20000 in
theorem we_X2_pairs {post : Option dp_V → dp_H → Prop} {h0 : dp_H} (s : dp_Z) (o : Int32) (h : j_X2_pairs s = some o) (hk : post (some (.inl o)) (hX s)) : dp_W 1 mX2_pairs false h0 0 0 post 0 0 (0, [some (.inr (some 1)), none, none], [], (hX s)) := by
  unfold j_X2_pairs at h
  refine dp_blk okX2_pairs 4 (S' := (4, [some (.inr (some 1)), some (.inl (0 : Int32)), some (.inl (0 : Int32))], [], (hX s))) rfl ?_
  obtain ⟨x2, hl, h⟩ := dp_bd_inv h
  refine dp_loopW (wl_X2_pairs_4 s) dp_F _ x2 hl ?_
  show dp_W 1 mX2_pairs false h0 0 0 post 0 0 (30, [none, some (.inl x2), none], [], (hX s))
  refine dp_blk okX2_pairs 2 (S' := (32, [none, some (.inl x2), none], [.inl (2 : Int32), .inl x2], (hX s))) rfl ?_
  refine dp_idiv okX2_pairs rfl (by decide) ?_
  refine dp_blk okX2_pairs 0 (S' := (33, [none, some (.inl x2), none], [.inl (x2 / (2 : Int32))], (hX s))) rfl ?_
  cases h
  exact dp_iret okX2_pairs rfl rfl hk
theorem c_X2_pairs (s : dp_Z) (o : Int32) (h : j_X2_pairs s = some o) : dp_C 1 mX2_pairs false [.inr (some 1)] (hX s) 0 0 (dp_R (some (.inl o)) (hX s)) := dp_C_of okX2_pairs [some (.inr (some 1)), none, none] rfl (Nat.le_of_ble_eq_true rfl) (we_X2_pairs s o h ⟨rfl, rfl⟩)
def j_X5_isIn (v0 v1 : Int32) : Option Int32 := (if ((v1 >>> (v0 &&& 31)) &&& (1 : Int32)) = (1 : Int32) then (some (1 : Int32)) else (some (0 : Int32)))
set_option maxHeartbeats 1000000 in
set_option maxRecDepth 20000 in
theorem we_X5_isIn {post : Option dp_V → dp_H → Prop} {h0 : dp_H} (hh : dp_H) (v0 v1 : Int32) (o : Int32) (h : j_X5_isIn v0 v1 = some o) (hk : post (some (.inl o)) hh) : dp_W 0 mX5_isIn false h0 0 0 post 0 0 (0, [some (.inl v0), some (.inl v1)], [], hh) := by
  unfold j_X5_isIn at h
  refine dp_blk okX5_isIn 6 (S' := (6, [some (.inl v0), some (.inl v1)], [.inl (1 : Int32), .inl ((v1 >>> (v0 &&& 31)) &&& (1 : Int32))], hh)) rfl ?_
  refine dp_if okX5_isIn rfl (fun (c : ¬ ((v1 >>> (v0 &&& 31)) &&& (1 : Int32)) = (1 : Int32)) => ?_) (fun (c : ((v1 >>> (v0 &&& 31)) &&& (1 : Int32)) = (1 : Int32)) => ?_)
  · have h := dp_ic c h
    refine dp_blk okX5_isIn 1 (S' := (14, [some (.inl v0), some (.inl v1)], [.inl (0 : Int32)], hh)) rfl ?_
    cases h
    exact dp_zret okX5_isIn rfl rfl (by decide) hk
  · have h := dp_ip c h
    refine dp_blk okX5_isIn 2 (S' := (14, [some (.inl v0), some (.inl v1)], [.inl (1 : Int32)], hh)) rfl ?_
    cases h
    exact dp_zret okX5_isIn rfl rfl (by decide) hk
theorem c_X5_isIn (hh : dp_H) (v0 v1 : Int32) (o : Int32) (h : j_X5_isIn v0 v1 = some o) : dp_C 0 mX5_isIn false [.inl v0, .inl v1] hh 0 0 (dp_R (some (.inl o)) hh) := dp_C_of okX5_isIn [some (.inl v0), some (.inl v1)] rfl (Nat.le_of_ble_eq_true rfl) (we_X5_isIn hh v0 v1 o h ⟨rfl, rfl⟩)
def jj_X2_withJoining_53 (s : dp_Z) (v2 v3 v4 v5 : Int32) : Option ((Int32 × Int32) ⊕ Int32) := (some (.inl (v4, (v5 + (1 : Int32)))))
set_option maxHeartbeats 1000000 in
set_option maxRecDepth 20000 in
theorem wj_X2_withJoining_53 {post : Option dp_V → dp_H → Prop} {h0 : dp_H} (s : dp_Z) (v2 v3 v4 v5 : Int32) (o : ((Int32 × Int32) ⊕ Int32)) (h : jj_X2_withJoining_53 s v2 v3 v4 v5 = some o) (hk : dp_LK (fun x : (Int32 × Int32) => dp_W 1 mX2_withJoining false h0 0 0 post 0 0 (6, [some (.inr (some 1)), none, some (.inl v2), some (.inl v3), some (.inl x.1), some (.inl x.2)], [], (hX s))) (fun x : Int32 => dp_W 1 mX2_withJoining false h0 0 0 post 0 0 (59, [none, none, none, none, some (.inl x), none], [], (hX s))) o) : dp_W 1 mX2_withJoining false h0 0 0 post 0 0 (53, [some (.inr (some 1)), none, some (.inl v2), some (.inl v3), some (.inl v4), some (.inl v5)], [], (hX s)) := by
  unfold jj_X2_withJoining_53 at h
  refine dp_blk okX2_withJoining 2 (S' := (6, [some (.inr (some 1)), none, some (.inl v2), some (.inl v3), some (.inl v4), some (.inl (v5 + (1 : Int32)))], [], (hX s))) rfl ?_
  cases h
  exact hk
def jb_X2_withJoining_6 (s : dp_Z) (v2 v3 : Int32) (x : (Int32 × Int32)) : Option ((Int32 × Int32) ⊕ Int32) := (if (s.1 0) ≤ x.2 then (some (.inr x.1)) else (dp_bd (j_X5_isIn x.2 (v2 ||| x.1)) fun x1 => (if x1 = (0 : Int32) then (if dp_inb x.2 12 = true then (dp_bd (j_J6_bitCount_0f7a4 (((s.2 0) (x.2).toNatClampNeg) &&& x.1)) fun x2 => (if x2 < v3 then (jj_X2_withJoining_53 s v2 v3 x.1 x.2) else (jj_X2_withJoining_53 s v2 v3 (x.1 ||| ((1 : Int32) <<< (x.2 &&& 31))) x.2))) else none) else (jj_X2_withJoining_53 s v2 v3 x.1 x.2))))
set_option maxHeartbeats 1000000 in
set_option maxRecDepth 20000 in
theorem wl_X2_withJoining_6 {post : Option dp_V → dp_H → Prop} {h0 : dp_H} (s : dp_Z) (v2 v3 : Int32) (x : (Int32 × Int32)) (o : ((Int32 × Int32) ⊕ Int32)) (h : jb_X2_withJoining_6 s v2 v3 x = some o) (hk : dp_LK (fun x : (Int32 × Int32) => dp_W 1 mX2_withJoining false h0 0 0 post 0 0 (6, [some (.inr (some 1)), none, some (.inl v2), some (.inl v3), some (.inl x.1), some (.inl x.2)], [], (hX s))) (fun x : Int32 => dp_W 1 mX2_withJoining false h0 0 0 post 0 0 (59, [none, none, none, none, some (.inl x), none], [], (hX s))) o) : dp_W 1 mX2_withJoining false h0 0 0 post 0 0 (6, [some (.inr (some 1)), none, some (.inl v2), some (.inl v3), some (.inl x.1), some (.inl x.2)], [], (hX s)) := by
  unfold jb_X2_withJoining_6 at h
  refine dp_blk okX2_withJoining 3 (S' := (12, [some (.inr (some 1)), none, some (.inl v2), some (.inl v3), some (.inl x.1), some (.inl x.2)], [.inl (s.1 0), .inl x.2], (hX s))) rfl ?_
  refine dp_if okX2_withJoining rfl (fun (c : (s.1 0) ≤ x.2) => ?_) (fun (c : ¬ (s.1 0) ≤ x.2) => ?_)
  · have h := dp_ip c h
    refine dp_blk okX2_withJoining 0 (S' := (59, [some (.inr (some 1)), none, some (.inl v2), some (.inl v3), some (.inl x.1), some (.inl x.2)], [], (hX s))) rfl ?_
    cases h
    refine dp_fg [false, false, false, false, true, false] (L' := [none, none, none, none, some (.inl x.1), none]) rfl rfl ?_
    exact hk
  · have h := dp_ic c h
    refine dp_blk okX2_withJoining 4 (S' := (21, [some (.inr (some 1)), none, some (.inl v2), some (.inl v3), some (.inl x.1), some (.inl x.2)], [.inl (v2 ||| x.1), .inl x.2], (hX s))) rfl ?_
    obtain ⟨x1, hc, h⟩ := dp_bd_inv h
    refine dp_cSN okX2_withJoining okX5_isIn (as := [.inl x.2, .inl (v2 ||| x.1)]) (r := []) rfl lk_NearLiars_Net_57 npX5_isIn (c_X5_isIn (hX s) x.2 (v2 ||| x.1) x1 hc) rfl (Nat.le_of_ble_eq_true rfl) (Nat.le_of_ble_eq_true rfl) (Nat.le_refl _) (Nat.le_refl _) ?_
    refine dp_blk okX2_withJoining 0 (S' := (24, [some (.inr (some 1)), none, some (.inl v2), some (.inl v3), some (.inl x.1), some (.inl x.2)], [.inl x1], (hX s))) rfl ?_
    refine dp_if0 okX2_withJoining rfl (fun (c : ¬ x1 = (0 : Int32)) => ?_) (fun (c : x1 = (0 : Int32)) => ?_)
    · have h := dp_ic c h
      refine dp_blk okX2_withJoining 0 (S' := (53, [some (.inr (some 1)), none, some (.inl v2), some (.inl v3), some (.inl x.1), some (.inl x.2)], [], (hX s))) rfl ?_
      exact wj_X2_withJoining_53 s v2 v3 x.1 x.2 _ h hk
    · have h := dp_ip c h
      refine dp_blk okX2_withJoining 3 (S' := (33, [some (.inr (some 1)), none, some (.inl v2), some (.inl v3), some (.inl x.1), some (.inl x.2)], [.inl x.2, .inr (some 2)], (hX s))) rfl ?_
      obtain ⟨hi, h⟩ := dp_ite h
      refine dp_ial okX2_withJoining rfl rfl (dp_inb_in hi) ?_
      refine dp_blk okX2_withJoining 2 (S' := (37, [some (.inr (some 1)), none, some (.inl v2), some (.inl v3), some (.inl x.1), some (.inl x.2)], [.inl (((s.2 0) (x.2).toNatClampNeg) &&& x.1)], (hX s))) rfl ?_
      obtain ⟨x2, hc, h⟩ := dp_bd_inv h
      refine dp_cS okX2_withJoining okJ6_bitCount_0f7a4 (as := [.inl (((s.2 0) (x.2).toNatClampNeg) &&& x.1)]) (r := []) rfl lk_NearLiars_Net_61 npJ6_bitCount_0f7a4 (c_J6_bitCount_0f7a4 (hX s) (((s.2 0) (x.2).toNatClampNeg) &&& x.1) x2 hc) rfl (Nat.le_of_ble_eq_true rfl) (Nat.le_of_ble_eq_true rfl) (Nat.le_refl _) (Nat.le_refl _) ?_
      refine dp_blk okX2_withJoining 1 (S' := (41, [some (.inr (some 1)), none, some (.inl v2), some (.inl v3), some (.inl x.1), some (.inl x.2)], [.inl v3, .inl x2], (hX s))) rfl ?_
      refine dp_if okX2_withJoining rfl (fun (c : x2 < v3) => ?_) (fun (c : ¬ x2 < v3) => ?_)
      · have h := dp_ip c h
        refine dp_blk okX2_withJoining 0 (S' := (53, [some (.inr (some 1)), none, some (.inl v2), some (.inl v3), some (.inl x.1), some (.inl x.2)], [], (hX s))) rfl ?_
        exact wj_X2_withJoining_53 s v2 v3 x.1 x.2 _ h hk
      · have h := dp_ic c h
        refine dp_blk okX2_withJoining 6 (S' := (53, [some (.inr (some 1)), none, some (.inl v2), some (.inl v3), some (.inl (x.1 ||| ((1 : Int32) <<< (x.2 &&& 31)))), some (.inl x.2)], [], (hX s))) rfl ?_
        exact wj_X2_withJoining_53 s v2 v3 (x.1 ||| ((1 : Int32) <<< (x.2 &&& 31))) x.2 _ h hk
def j_X2_withJoining (s : dp_Z) (v1 v2 v3 : Int32) : Option Int32 := (dp_bd (dp_loop (jb_X2_withJoining_6 s v2 v3) dp_F (v1, (0 : Int32))) fun x3 => (some x3))
set_option maxHeartbeats 1000000 in
set_option maxRecDepth 20000 in
theorem we_X2_withJoining {post : Option dp_V → dp_H → Prop} {h0 : dp_H} (s : dp_Z) (v1 v2 v3 : Int32) (o : Int32) (h : j_X2_withJoining s v1 v2 v3 = some o) (hk : post (some (.inl o)) (hX s)) : dp_W 1 mX2_withJoining false h0 0 0 post 0 0 (0, [some (.inr (some 1)), some (.inl v1), some (.inl v2), some (.inl v3), none, none], [], (hX s)) := by
  unfold j_X2_withJoining at h
  refine dp_blk okX2_withJoining 4 (S' := (6, [some (.inr (some 1)), some (.inl v1), some (.inl v2), some (.inl v3), some (.inl v1), some (.inl (0 : Int32))], [], (hX s))) rfl ?_
  refine dp_fg [true, false, true, true, true, true] (L' := [some (.inr (some 1)), none, some (.inl v2), some (.inl v3), some (.inl v1), some (.inl (0 : Int32))]) rfl rfl ?_
  obtain ⟨x3, hl, h⟩ := dp_bd_inv h
  refine dp_loopW (wl_X2_withJoining_6 s v2 v3) dp_F _ x3 hl ?_
  show dp_W 1 mX2_withJoining false h0 0 0 post 0 0 (59, [none, none, none, none, some (.inl x3), none], [], (hX s))
  refine dp_blk okX2_withJoining 1 (S' := (61, [none, none, none, none, some (.inl x3), none], [.inl x3], (hX s))) rfl ?_
  cases h
  exact dp_iret okX2_withJoining rfl rfl hk
theorem c_X2_withJoining (s : dp_Z) (v1 v2 v3 : Int32) (o : Int32) (h : j_X2_withJoining s v1 v2 v3 = some o) : dp_C 1 mX2_withJoining false [.inr (some 1), .inl v1, .inl v2, .inl v3] (hX s) 0 0 (dp_R (some (.inl o)) (hX s)) := dp_C_of okX2_withJoining [some (.inr (some 1)), some (.inl v1), some (.inl v2), some (.inl v3), none, none] rfl (Nat.le_of_ble_eq_true rfl) (we_X2_withJoining s v1 v2 v3 o h ⟨rfl, rfl⟩)
def jb_X2_spread_24 (s : dp_Z) (v1 v2 : Int32) (x : (Int32 × Int32)) : Option ((Int32 × Int32) ⊕ Int32) := (if (12 : Int32) ≤ x.2 then (some (.inr x.1)) else (dp_bd (j_X2_withJoining s x.1 v1 v2) fun x2 => (if x2 = x.1 then (some (.inr x.1)) else (some (.inl (x2, (x.2 + (1 : Int32))))))))
set_option maxHeartbeats 1000000 in
set_option maxRecDepth 20000 in
theorem wl_X2_spread_24 {post : Option dp_V → dp_H → Prop} {h0 : dp_H} (s : dp_Z) (v1 v2 : Int32) (x : (Int32 × Int32)) (o : ((Int32 × Int32) ⊕ Int32)) (h : jb_X2_spread_24 s v1 v2 x = some o) (hk : dp_LK (fun x : (Int32 × Int32) => dp_W 2 mX2_spread false h0 0 0 post 0 0 (24, [some (.inr (some 1)), some (.inl v1), some (.inl v2), some (.inl x.1), some (.inl x.2), none], [], (hX s))) (fun x : Int32 => dp_W 2 mX2_spread false h0 0 0 post 0 0 (58, [none, none, none, some (.inl x), none, none], [], (hX s))) o) : dp_W 2 mX2_spread false h0 0 0 post 0 0 (24, [some (.inr (some 1)), some (.inl v1), some (.inl v2), some (.inl x.1), some (.inl x.2), none], [], (hX s)) := by
  unfold jb_X2_spread_24 at h
  refine dp_blk okX2_spread 2 (S' := (28, [some (.inr (some 1)), some (.inl v1), some (.inl v2), some (.inl x.1), some (.inl x.2), none], [.inl (12 : Int32), .inl x.2], (hX s))) rfl ?_
  refine dp_if okX2_spread rfl (fun (c : (12 : Int32) ≤ x.2) => ?_) (fun (c : ¬ (12 : Int32) ≤ x.2) => ?_)
  · have h := dp_ip c h
    refine dp_blk okX2_spread 0 (S' := (58, [some (.inr (some 1)), some (.inl v1), some (.inl v2), some (.inl x.1), some (.inl x.2), none], [], (hX s))) rfl ?_
    cases h
    refine dp_fg [false, false, false, true, false, false] (L' := [none, none, none, some (.inl x.1), none, none]) rfl rfl ?_
    exact hk
  · have h := dp_ic c h
    refine dp_blk okX2_spread 4 (S' := (35, [some (.inr (some 1)), some (.inl v1), some (.inl v2), some (.inl x.1), some (.inl x.2), none], [.inl v2, .inl v1, .inl x.1, .inr (some 1)], (hX s))) rfl ?_
    obtain ⟨x2, hc, h⟩ := dp_bd_inv h
    refine dp_cV okX2_spread okX2_withJoining (as := [.inl x.1, .inl v1, .inl v2]) (r := []) rfl lk_NearLiars_Net_74 npX2_withJoining (c_X2_withJoining s x.1 v1 v2 x2 hc) rfl rfl rfl rfl (Nat.le_of_ble_eq_true rfl) (Nat.le_of_ble_eq_true rfl) (Nat.le_refl _) (Nat.le_refl _) ?_
    refine dp_blk okX2_spread 3 (S' := (43, [some (.inr (some 1)), some (.inl v1), some (.inl v2), some (.inl x.1), some (.inl x.2), some (.inl x2)], [.inl x.1, .inl x2], (hX s))) rfl ?_
    refine dp_if okX2_spread rfl (fun (c : ¬ x2 = x.1) => ?_) (fun (c : x2 = x.1) => ?_)
    · have h := dp_ic c h
      refine dp_blk okX2_spread 4 (S' := (24, [some (.inr (some 1)), some (.inl v1), some (.inl v2), some (.inl x2), some (.inl (x.2 + (1 : Int32))), some (.inl x2)], [], (hX s))) rfl ?_
      cases h
      refine dp_fg [true, true, true, true, true, false] (L' := [some (.inr (some 1)), some (.inl v1), some (.inl v2), some (.inl x2), some (.inl (x.2 + (1 : Int32))), none]) rfl rfl ?_
      exact hk
    · have h := dp_ip c h
      refine dp_blk okX2_spread 1 (S' := (58, [some (.inr (some 1)), some (.inl v1), some (.inl v2), some (.inl x.1), some (.inl x.2), some (.inl x2)], [], (hX s))) rfl ?_
      cases h
      refine dp_fg [false, false, false, true, false, false] (L' := [none, none, none, some (.inl x.1), none, none]) rfl rfl ?_
      exact hk
def j_X2_spread (s : dp_Z) (v1 v2 : Int32) : Option Int32 := (if dp_inb (s.1 3) 12 = true then (dp_bd (some ((((1 : Int32) <<< ((s.1 3) &&& 31)) ||| ((s.2 0) ((s.1 3)).toNatClampNeg)) &&& (v1 ^^^ (-1 : Int32)))) fun y1 => (dp_bd (dp_loop (jb_X2_spread_24 s v1 v2) dp_F (y1, (0 : Int32))) fun x3 => (some x3))) else none)
set_option maxHeartbeats 1000000 in
set_option maxRecDepth 20000 in
theorem we_X2_spread {post : Option dp_V → dp_H → Prop} {h0 : dp_H} (s : dp_Z) (v1 v2 : Int32) (o : Int32) (h : j_X2_spread s v1 v2 = some o) (hk : post (some (.inl o)) (hX s)) : dp_W 2 mX2_spread false h0 0 0 post 0 0 (0, [some (.inr (some 1)), some (.inl v1), some (.inl v2), none, none, none], [], (hX s)) := by
  unfold j_X2_spread at h
  refine dp_blk okX2_spread 8 (S' := (14, [some (.inr (some 1)), some (.inl v1), some (.inl v2), none, none, none], [.inl (s.1 3), .inr (some 2), .inl ((1 : Int32) <<< ((s.1 3) &&& 31))], (hX s))) rfl ?_
  obtain ⟨hi, h⟩ := dp_ite h
  refine dp_ial okX2_spread rfl rfl (dp_inb_in hi) ?_
  obtain ⟨y1, hy, h⟩ := dp_bd_inv h
  have hy := Option.some.inj hy
  refine dp_blk okX2_spread 6 (S' := (21, [some (.inr (some 1)), some (.inl v1), some (.inl v2), some (.inl y1), none, none], [], (hX s))) (by subst hy; rfl) ?_
  refine dp_blk okX2_spread 2 (S' := (24, [some (.inr (some 1)), some (.inl v1), some (.inl v2), some (.inl y1), some (.inl (0 : Int32)), none], [], (hX s))) rfl ?_
  obtain ⟨x3, hl, h⟩ := dp_bd_inv h
  refine dp_loopW (wl_X2_spread_24 s v1 v2) dp_F _ x3 hl ?_
  show dp_W 2 mX2_spread false h0 0 0 post 0 0 (58, [none, none, none, some (.inl x3), none, none], [], (hX s))
  refine dp_blk okX2_spread 1 (S' := (59, [none, none, none, some (.inl x3), none, none], [.inl x3], (hX s))) rfl ?_
  cases h
  exact dp_iret okX2_spread rfl rfl hk
theorem c_X2_spread (s : dp_Z) (v1 v2 : Int32) (o : Int32) (h : j_X2_spread s v1 v2 = some o) : dp_C 2 mX2_spread false [.inr (some 1), .inl v1, .inl v2] (hX s) 0 0 (dp_R (some (.inl o)) (hX s)) := dp_C_of okX2_spread [some (.inr (some 1)), some (.inl v1), some (.inl v2), none, none, none] rfl (Nat.le_of_ble_eq_true rfl) (we_X2_spread s v1 v2 o h ⟨rfl, rfl⟩)
def jj_X2_around_66 (s : dp_Z) (v1 v2 v3 v4 v5 v6 : Int32) : Option ((Int32 × Int32) ⊕ Int32) := (some (.inl (v4, (v6 + (1 : Int32)))))
set_option maxHeartbeats 1000000 in
set_option maxRecDepth 20000 in
theorem wj_X2_around_66 {post : Option dp_V → dp_H → Prop} {h0 : dp_H} (s : dp_Z) (v1 v2 v3 v4 v5 v6 : Int32) (o : ((Int32 × Int32) ⊕ Int32)) (h : jj_X2_around_66 s v1 v2 v3 v4 v5 v6 = some o) (hk : dp_LK (fun x : (Int32 × Int32) => dp_W 1 mX2_around false h0 0 0 post 0 0 (18, [some (.inr (some 1)), some (.inl v1), some (.inl v2), some (.inl v3), some (.inl x.1), some (.inl v5), some (.inl x.2)], [], (hX s))) (fun x : Int32 => dp_W 1 mX2_around false h0 0 0 post 0 0 (72, [some (.inr (some 1)), some (.inl v1), some (.inl v2), some (.inl v3), some (.inl x), some (.inl v5), none], [], (hX s))) o) : dp_W 1 mX2_around false h0 0 0 post 0 0 (66, [some (.inr (some 1)), some (.inl v1), some (.inl v2), some (.inl v3), some (.inl v4), some (.inl v5), some (.inl v6)], [], (hX s)) := by
  unfold jj_X2_around_66 at h
  refine dp_blk okX2_around 2 (S' := (18, [some (.inr (some 1)), some (.inl v1), some (.inl v2), some (.inl v3), some (.inl v4), some (.inl v5), some (.inl (v6 + (1 : Int32)))], [], (hX s))) rfl ?_
  cases h
  exact hk
def jb_X2_around_18 (s : dp_Z) (v1 v2 v3 v5 : Int32) (x : (Int32 × Int32)) : Option ((Int32 × Int32) ⊕ Int32) := (if (s.1 1) ≤ x.2 then (some (.inr x.1)) else (if v3 < (if (0 : Int32) ≤ (v5 - v2) then (v5 - v2) else (0 : Int32) - (v5 - v2)) then (jj_X2_around_66 s v1 v2 v3 x.1 v5 x.2) else (if v3 < (if (0 : Int32) ≤ (x.2 - v1) then (x.2 - v1) else (0 : Int32) - (x.2 - v1)) then (jj_X2_around_66 s v1 v2 v3 x.1 v5 x.2) else (jj_X2_around_66 s v1 v2 v3 (x.1 ||| ((1 : Int32) <<< ((((s.1 1) * v5) + x.2) &&& 31))) v5 x.2))))
set_option maxHeartbeats 1000000 in
set_option maxRecDepth 20000 in
theorem wl_X2_around_18 {post : Option dp_V → dp_H → Prop} {h0 : dp_H} (s : dp_Z) (v1 v2 v3 v5 : Int32) (x : (Int32 × Int32)) (o : ((Int32 × Int32) ⊕ Int32)) (h : jb_X2_around_18 s v1 v2 v3 v5 x = some o) (hk : dp_LK (fun x : (Int32 × Int32) => dp_W 1 mX2_around false h0 0 0 post 0 0 (18, [some (.inr (some 1)), some (.inl v1), some (.inl v2), some (.inl v3), some (.inl x.1), some (.inl v5), some (.inl x.2)], [], (hX s))) (fun x : Int32 => dp_W 1 mX2_around false h0 0 0 post 0 0 (72, [some (.inr (some 1)), some (.inl v1), some (.inl v2), some (.inl v3), some (.inl x), some (.inl v5), none], [], (hX s))) o) : dp_W 1 mX2_around false h0 0 0 post 0 0 (18, [some (.inr (some 1)), some (.inl v1), some (.inl v2), some (.inl v3), some (.inl x.1), some (.inl v5), some (.inl x.2)], [], (hX s)) := by
  unfold jb_X2_around_18 at h
  refine dp_blk okX2_around 3 (S' := (24, [some (.inr (some 1)), some (.inl v1), some (.inl v2), some (.inl v3), some (.inl x.1), some (.inl v5), some (.inl x.2)], [.inl (s.1 1), .inl x.2], (hX s))) rfl ?_
  refine dp_if okX2_around rfl (fun (c : (s.1 1) ≤ x.2) => ?_) (fun (c : ¬ (s.1 1) ≤ x.2) => ?_)
  · have h := dp_ip c h
    refine dp_blk okX2_around 0 (S' := (72, [some (.inr (some 1)), some (.inl v1), some (.inl v2), some (.inl v3), some (.inl x.1), some (.inl v5), some (.inl x.2)], [], (hX s))) rfl ?_
    cases h
    refine dp_fg [true, true, true, true, true, true, false] (L' := [some (.inr (some 1)), some (.inl v1), some (.inl v2), some (.inl v3), some (.inl x.1), some (.inl v5), none]) rfl rfl ?_
    exact hk
  · have h := dp_ic c h
    refine dp_blk okX2_around 3 (S' := (31, [some (.inr (some 1)), some (.inl v1), some (.inl v2), some (.inl v3), some (.inl x.1), some (.inl v5), some (.inl x.2)], [.inl (v5 - v2)], (hX s))) rfl ?_
    refine dp_mabs okX2_around rfl dq_75 dq_76 dq_42 dq_77 (Nat.le_of_ble_eq_true rfl) (Nat.le_of_ble_eq_true rfl) (Nat.le_refl _) (Nat.le_refl _) ?_
    refine dp_blk okX2_around 1 (S' := (35, [some (.inr (some 1)), some (.inl v1), some (.inl v2), some (.inl v3), some (.inl x.1), some (.inl v5), some (.inl x.2)], [.inl v3, .inl (if (0 : Int32) ≤ (v5 - v2) then (v5 - v2) else (0 : Int32) - (v5 - v2))], (hX s))) rfl ?_
    refine dp_if okX2_around rfl (fun (c : v3 < (if (0 : Int32) ≤ (v5 - v2) then (v5 - v2) else (0 : Int32) - (v5 - v2))) => ?_) (fun (c : ¬ v3 < (if (0 : Int32) ≤ (v5 - v2) then (v5 - v2) else (0 : Int32) - (v5 - v2))) => ?_)
    · have h := dp_ip c h
      refine dp_blk okX2_around 0 (S' := (66, [some (.inr (some 1)), some (.inl v1), some (.inl v2), some (.inl v3), some (.inl x.1), some (.inl v5), some (.inl x.2)], [], (hX s))) rfl ?_
      exact wj_X2_around_66 s v1 v2 v3 x.1 v5 x.2 _ h hk
    · have h := dp_ic c h
      refine dp_blk okX2_around 3 (S' := (42, [some (.inr (some 1)), some (.inl v1), some (.inl v2), some (.inl v3), some (.inl x.1), some (.inl v5), some (.inl x.2)], [.inl (x.2 - v1)], (hX s))) rfl ?_
      refine dp_mabs okX2_around rfl dq_75 dq_76 dq_42 dq_77 (Nat.le_of_ble_eq_true rfl) (Nat.le_of_ble_eq_true rfl) (Nat.le_refl _) (Nat.le_refl _) ?_
      refine dp_blk okX2_around 1 (S' := (46, [some (.inr (some 1)), some (.inl v1), some (.inl v2), some (.inl v3), some (.inl x.1), some (.inl v5), some (.inl x.2)], [.inl v3, .inl (if (0 : Int32) ≤ (x.2 - v1) then (x.2 - v1) else (0 : Int32) - (x.2 - v1))], (hX s))) rfl ?_
      refine dp_if okX2_around rfl (fun (c : v3 < (if (0 : Int32) ≤ (x.2 - v1) then (x.2 - v1) else (0 : Int32) - (x.2 - v1))) => ?_) (fun (c : ¬ v3 < (if (0 : Int32) ≤ (x.2 - v1) then (x.2 - v1) else (0 : Int32) - (x.2 - v1))) => ?_)
      · have h := dp_ip c h
        refine dp_blk okX2_around 0 (S' := (66, [some (.inr (some 1)), some (.inl v1), some (.inl v2), some (.inl v3), some (.inl x.1), some (.inl v5), some (.inl x.2)], [], (hX s))) rfl ?_
        exact wj_X2_around_66 s v1 v2 v3 x.1 v5 x.2 _ h hk
      · have h := dp_ic c h
        refine dp_blk okX2_around 11 (S' := (66, [some (.inr (some 1)), some (.inl v1), some (.inl v2), some (.inl v3), some (.inl (x.1 ||| ((1 : Int32) <<< ((((s.1 1) * v5) + x.2) &&& 31)))), some (.inl v5), some (.inl x.2)], [], (hX s))) rfl ?_
        exact wj_X2_around_66 s v1 v2 v3 (x.1 ||| ((1 : Int32) <<< ((((s.1 1) * v5) + x.2) &&& 31))) v5 x.2 _ h hk
def jb_X2_around_6 (s : dp_Z) (v1 v2 v3 : Int32) (x : (Int32 × Int32)) : Option ((Int32 × Int32) ⊕ Int32) := (if (s.1 2) ≤ x.2 then (some (.inr x.1)) else (dp_bd (dp_loop (jb_X2_around_18 s v1 v2 v3 x.2) dp_F (x.1, (0 : Int32))) fun x1 => (some (.inl (x1, (x.2 + (1 : Int32)))))))
set_option maxHeartbeats 1000000 in
set_option maxRecDepth 20000 in
theorem wl_X2_around_6 {post : Option dp_V → dp_H → Prop} {h0 : dp_H} (s : dp_Z) (v1 v2 v3 : Int32) (x : (Int32 × Int32)) (o : ((Int32 × Int32) ⊕ Int32)) (h : jb_X2_around_6 s v1 v2 v3 x = some o) (hk : dp_LK (fun x : (Int32 × Int32) => dp_W 1 mX2_around false h0 0 0 post 0 0 (6, [some (.inr (some 1)), some (.inl v1), some (.inl v2), some (.inl v3), some (.inl x.1), some (.inl x.2), none], [], (hX s))) (fun x : Int32 => dp_W 1 mX2_around false h0 0 0 post 0 0 (78, [some (.inr (some 1)), some (.inl v1), some (.inl v2), none, some (.inl x), none, none], [], (hX s))) o) : dp_W 1 mX2_around false h0 0 0 post 0 0 (6, [some (.inr (some 1)), some (.inl v1), some (.inl v2), some (.inl v3), some (.inl x.1), some (.inl x.2), none], [], (hX s)) := by
  unfold jb_X2_around_6 at h
  refine dp_blk okX2_around 3 (S' := (12, [some (.inr (some 1)), some (.inl v1), some (.inl v2), some (.inl v3), some (.inl x.1), some (.inl x.2), none], [.inl (s.1 2), .inl x.2], (hX s))) rfl ?_
  refine dp_if okX2_around rfl (fun (c : (s.1 2) ≤ x.2) => ?_) (fun (c : ¬ (s.1 2) ≤ x.2) => ?_)
  · have h := dp_ip c h
    refine dp_blk okX2_around 0 (S' := (78, [some (.inr (some 1)), some (.inl v1), some (.inl v2), some (.inl v3), some (.inl x.1), some (.inl x.2), none], [], (hX s))) rfl ?_
    cases h
    refine dp_fg [true, true, true, false, true, false, false] (L' := [some (.inr (some 1)), some (.inl v1), some (.inl v2), none, some (.inl x.1), none, none]) rfl rfl ?_
    exact hk
  · have h := dp_ic c h
    refine dp_blk okX2_around 2 (S' := (18, [some (.inr (some 1)), some (.inl v1), some (.inl v2), some (.inl v3), some (.inl x.1), some (.inl x.2), some (.inl (0 : Int32))], [], (hX s))) rfl ?_
    obtain ⟨x1, hl, h⟩ := dp_bd_inv h
    refine dp_loopW (wl_X2_around_18 s v1 v2 v3 x.2) dp_F _ x1 hl ?_
    show dp_W 1 mX2_around false h0 0 0 post 0 0 (72, [some (.inr (some 1)), some (.inl v1), some (.inl v2), some (.inl v3), some (.inl x1), some (.inl x.2), none], [], (hX s))
    refine dp_blk okX2_around 2 (S' := (6, [some (.inr (some 1)), some (.inl v1), some (.inl v2), some (.inl v3), some (.inl x1), some (.inl (x.2 + (1 : Int32))), none], [], (hX s))) rfl ?_
    cases h
    exact hk
def j_X2_around (s : dp_Z) (v1 v2 v3 : Int32) : Option Int32 := (dp_bd (dp_loop (jb_X2_around_6 s v1 v2 v3) dp_F ((0 : Int32), (0 : Int32))) fun x2 => (some (x2 &&& (((1 : Int32) <<< ((((s.1 1) * v2) + v1) &&& 31)) ^^^ (-1 : Int32)))))
set_option maxHeartbeats 1000000 in
set_option maxRecDepth 20000 in
theorem we_X2_around {post : Option dp_V → dp_H → Prop} {h0 : dp_H} (s : dp_Z) (v1 v2 v3 : Int32) (o : Int32) (h : j_X2_around s v1 v2 v3 = some o) (hk : post (some (.inl o)) (hX s)) : dp_W 1 mX2_around false h0 0 0 post 0 0 (0, [some (.inr (some 1)), some (.inl v1), some (.inl v2), some (.inl v3), none, none, none], [], (hX s)) := by
  unfold j_X2_around at h
  refine dp_blk okX2_around 4 (S' := (6, [some (.inr (some 1)), some (.inl v1), some (.inl v2), some (.inl v3), some (.inl (0 : Int32)), some (.inl (0 : Int32)), none], [], (hX s))) rfl ?_
  obtain ⟨x2, hl, h⟩ := dp_bd_inv h
  refine dp_loopW (wl_X2_around_6 s v1 v2 v3) dp_F _ x2 hl ?_
  show dp_W 1 mX2_around false h0 0 0 post 0 0 (78, [some (.inr (some 1)), some (.inl v1), some (.inl v2), none, some (.inl x2), none, none], [], (hX s))
  refine dp_blk okX2_around 12 (S' := (93, [some (.inr (some 1)), some (.inl v1), some (.inl v2), none, some (.inl x2), none, none], [.inl (x2 &&& (((1 : Int32) <<< ((((s.1 1) * v2) + v1) &&& 31)) ^^^ (-1 : Int32)))], (hX s))) rfl ?_
  cases h
  exact dp_iret okX2_around rfl rfl hk
theorem c_X2_around (s : dp_Z) (v1 v2 v3 : Int32) (o : Int32) (h : j_X2_around s v1 v2 v3 = some o) : dp_C 1 mX2_around false [.inr (some 1), .inl v1, .inl v2, .inl v3] (hX s) 0 0 (dp_R (some (.inl o)) (hX s)) := dp_C_of okX2_around [some (.inr (some 1)), some (.inl v1), some (.inl v2), some (.inl v3), none, none, none] rfl (Nat.le_of_ble_eq_true rfl) (we_X2_around s v1 v2 v3 o h ⟨rfl, rfl⟩)
end
