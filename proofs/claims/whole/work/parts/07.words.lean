/-! ===== 07: the words by their places (printed by program) ===== -/
theorem dq_0 : Cond.selects "NearLiars$Net" ⟨"NearLiars$Net", "around", "(III)I"⟩ ⟨"NearLiars$Net", "around", "(III)I"⟩ ∈ dp_g := dp_at 0 (by decide +kernel) rfl
theorem dq_1 : Cond.selects "NearLiars$Run" ⟨"NearLiars$Run", "dealSlots", "(LNearLiars$Net;)V"⟩ ⟨"NearLiars$Run", "dealSlots", "(LNearLiars$Net;)V"⟩ ∈ dp_g := dp_at 1 (by decide +kernel) rfl
theorem dq_2 : Cond.selects "NearLiars$Run" ⟨"NearLiars$Run", "slotsNear", "(LNearLiars$Net;I)I"⟩ ⟨"NearLiars$Run", "slotsNear", "(LNearLiars$Net;I)I"⟩ ∈ dp_g := dp_at 2 (by decide +kernel) rfl
theorem dq_3 : Cond.selects "NearLiars" ⟨"NearLiars", "layAnew", "(III)I"⟩ ⟨"NearLiars", "layAnew", "(III)I"⟩ ∈ dp_g := dp_at 3 (by decide +kernel) rfl
theorem dq_4 : Cond.selects "NearLiars$Run" ⟨"NearLiars$Run", "speak", "(LNearLiars$Net;I)I"⟩ ⟨"NearLiars$Run", "speak", "(LNearLiars$Net;I)I"⟩ ∈ dp_g := dp_at 4 (by decide +kernel) rfl
theorem dq_5 : Cond.selects "NearLiars$Run" ⟨"NearLiars$Run", "hear", "(LNearLiars$Net;III)I"⟩ ⟨"NearLiars$Run", "hear", "(LNearLiars$Net;III)I"⟩ ∈ dp_g := dp_at 5 (by decide +kernel) rfl
theorem dq_6 : Cond.selects "NearLiars$Net" ⟨"NearLiars$Net", "withJoining", "(III)I"⟩ ⟨"NearLiars$Net", "withJoining", "(III)I"⟩ ∈ dp_g := dp_at 6 (by decide +kernel) rfl
theorem dq_7 : Cond.selects "NearLiars$Survey" ⟨"NearLiars$Survey", "weigh", "(II)V"⟩ ⟨"NearLiars$Survey", "weigh", "(II)V"⟩ ∈ dp_g := dp_at 7 (by decide +kernel) rfl
theorem dq_8 : Cond.selects "NearLiars$Claims" ⟨"NearLiars$Claims", "isInHand", "(I)Z"⟩ ⟨"NearLiars$Claims", "isInHand", "(I)Z"⟩ ∈ dp_g := dp_at 8 (by decide +kernel) rfl
theorem dq_9 : Cond.selects "NearLiars$Claims" ⟨"NearLiars$Claims", "forgetOldest", "()V"⟩ ⟨"NearLiars$Claims", "forgetOldest", "()V"⟩ ∈ dp_g := dp_at 9 (by decide +kernel) rfl
theorem dq_10 : Cond.selects "NearLiars$Claims" ⟨"NearLiars$Claims", "gatherInner", "(II)I"⟩ ⟨"NearLiars$Claims", "gatherInner", "(II)I"⟩ ∈ dp_g := dp_at 10 (by decide +kernel) rfl
theorem dq_11 : Cond.selects "NearLiars$Claims" ⟨"NearLiars$Claims", "areApart", "(II)Z"⟩ ⟨"NearLiars$Claims", "areApart", "(II)Z"⟩ ∈ dp_g := dp_at 11 (by decide +kernel) rfl
theorem dq_12 : Cond.selects "NearLiarsModel" ⟨"NearLiarsModel", "begins", "()V"⟩ ⟨"NearLiarsModel", "begins", "()V"⟩ ∈ dp_g := dp_at 12 (by decide +kernel) rfl
theorem dq_13 : Cond.selects "NearLiarsModel" ⟨"NearLiarsModel", "dealsSlots", "()V"⟩ ⟨"NearLiarsModel", "dealsSlots", "()V"⟩ ∈ dp_g := dp_at 13 (by decide +kernel) rfl
theorem dq_14 : Cond.selects "NearLiarsModel" ⟨"NearLiarsModel", "isFreeSlot", "(II)Z"⟩ ⟨"NearLiarsModel", "isFreeSlot", "(II)Z"⟩ ∈ dp_g := dp_at 14 (by decide +kernel) rfl
theorem dq_15 : Cond.selects "NearLiarsModel" ⟨"NearLiarsModel", "isApart", "(II)Z"⟩ ⟨"NearLiarsModel", "isApart", "(II)Z"⟩ ∈ dp_g := dp_at 15 (by decide +kernel) rfl
theorem dq_16 : Cond.selects "NearLiarsModel" ⟨"NearLiarsModel", "lays", "(III)V"⟩ ⟨"NearLiarsModel", "lays", "(III)V"⟩ ∈ dp_g := dp_at 16 (by decide +kernel) rfl
theorem dq_17 : Cond.selects "NearLiarsModel" ⟨"NearLiarsModel", "forgets", "()V"⟩ ⟨"NearLiarsModel", "forgets", "()V"⟩ ∈ dp_g := dp_at 17 (by decide +kernel) rfl
theorem dq_18 : Cond.selects "NearLiarsModel" ⟨"NearLiarsModel", "isNode", "(I)Z"⟩ ⟨"NearLiarsModel", "isNode", "(I)Z"⟩ ∈ dp_g := dp_at 18 (by decide +kernel) rfl
theorem dq_19 : Cond.selects "NearLiarsModel" ⟨"NearLiarsModel", "tick", "()I"⟩ ⟨"NearLiarsModel", "tick", "()I"⟩ ∈ dp_g := dp_at 19 (by decide +kernel) rfl
theorem dq_20 : Cond.selects "NearLiarsModel" ⟨"NearLiarsModel", "says", "(I)I"⟩ ⟨"NearLiarsModel", "says", "(I)I"⟩ ∈ dp_g := dp_at 20 (by decide +kernel) rfl
theorem dq_21 : Cond.selects "NearLiarsModel" ⟨"NearLiarsModel", "isHonest", "(I)Z"⟩ ⟨"NearLiarsModel", "isHonest", "(I)Z"⟩ ∈ dp_g := dp_at 21 (by decide +kernel) rfl
theorem dq_22 : Cond.selects "NearLiarsModel" ⟨"NearLiarsModel", "speaks", "(II)I"⟩ ⟨"NearLiarsModel", "speaks", "(II)I"⟩ ∈ dp_g := dp_at 22 (by decide +kernel) rfl
theorem dq_23 : Cond.selects "NearLiarsModel" ⟨"NearLiarsModel", "heardBy", "(I)I"⟩ ⟨"NearLiarsModel", "heardBy", "(I)I"⟩ ∈ dp_g := dp_at 23 (by decide +kernel) rfl
theorem dq_24 : Cond.selects "NearLiarsModel" ⟨"NearLiarsModel", "lastIn", "(II)I"⟩ ⟨"NearLiarsModel", "lastIn", "(II)I"⟩ ∈ dp_g := dp_at 24 (by decide +kernel) rfl
theorem dq_25 : Cond.selects "NearLiarsModel" ⟨"NearLiarsModel", "manyHonest", "(III)I"⟩ ⟨"NearLiarsModel", "manyHonest", "(III)I"⟩ ∈ dp_g := dp_at 25 (by decide +kernel) rfl
theorem dq_26 : Cond.selects "NearLiarsModel" ⟨"NearLiarsModel", "isSet", "(I)Z"⟩ ⟨"NearLiarsModel", "isSet", "(I)Z"⟩ ∈ dp_g := dp_at 26 (by decide +kernel) rfl
theorem dq_27 : Cond.selects "NearLiarsModel" ⟨"NearLiarsModel", "crowdedBy", "(II)I"⟩ ⟨"NearLiarsModel", "crowdedBy", "(II)I"⟩ ∈ dp_g := dp_at 27 (by decide +kernel) rfl
theorem dq_28 : Cond.selects "NearLiarsModel" ⟨"NearLiarsModel", "cutBy", "(II)I"⟩ ⟨"NearLiarsModel", "cutBy", "(II)I"⟩ ∈ dp_g := dp_at 28 (by decide +kernel) rfl
theorem dq_29 : Cond.selects "NearLiarsModel" ⟨"NearLiarsModel", "reachedBy", "(II)I"⟩ ⟨"NearLiarsModel", "reachedBy", "(II)I"⟩ ∈ dp_g := dp_at 29 (by decide +kernel) rfl
theorem dq_30 : Cond.selects "NearLiarsModel" ⟨"NearLiarsModel", "triesSets", "(I)V"⟩ ⟨"NearLiarsModel", "triesSets", "(I)V"⟩ ∈ dp_g := dp_at 30 (by decide +kernel) rfl
theorem dq_31 : Cond.selects "NearLiarsModel" ⟨"NearLiarsModel", "isOnWay", "(I)Z"⟩ ⟨"NearLiarsModel", "isOnWay", "(I)Z"⟩ ∈ dp_g := dp_at 31 (by decide +kernel) rfl
theorem dq_32 : Cond.selects "NearLiarsModel" ⟨"NearLiarsModel", "isClaimed", "(I)Z"⟩ ⟨"NearLiarsModel", "isClaimed", "(I)Z"⟩ ∈ dp_g := dp_at 32 (by decide +kernel) rfl
theorem dq_33 : Cond.selects "NearLiarsModel" ⟨"NearLiarsModel", "oldestGoes", "()V"⟩ ⟨"NearLiarsModel", "oldestGoes", "()V"⟩ ∈ dp_g := dp_at 33 (by decide +kernel) rfl
theorem dq_34 : Cond.selects "NearLiarsModel" ⟨"NearLiarsModel", "setOf", "(I)I"⟩ ⟨"NearLiarsModel", "setOf", "(I)I"⟩ ∈ dp_g := dp_at 34 (by decide +kernel) rfl
theorem dq_35 : Cond.selects "NearLiarsModel" ⟨"NearLiarsModel", "proofOf", "(II)I"⟩ ⟨"NearLiarsModel", "proofOf", "(II)I"⟩ ∈ dp_g := dp_at 35 (by decide +kernel) rfl
theorem dq_36 : Cond.selects "NearLiarsModel" ⟨"NearLiarsModel", "proves", "(III)I"⟩ ⟨"NearLiarsModel", "proves", "(III)I"⟩ ∈ dp_g := dp_at 36 (by decide +kernel) rfl
theorem dq_37 : Cond.selects "NearLiarsModel" ⟨"NearLiarsModel", "twos", "()I"⟩ ⟨"NearLiarsModel", "twos", "()I"⟩ ∈ dp_g := dp_at 37 (by decide +kernel) rfl
theorem dq_38 : Cond.initialized "NearLiarsLaw" ∈ dp_g := dp_at 38 (by decide +kernel) rfl
theorem dq_39 : Cond.initialized "NearLiars" ∈ dp_g := dp_at 39 (by decide +kernel) rfl
theorem dq_40 : Cond.initialized "NearLiars$Net" ∈ dp_g := dp_at 40 (by decide +kernel) rfl
theorem dq_41 : Cond.initialized "java/util/Arrays" ∈ dp_g := dp_at 41 (by decide +kernel) rfl
theorem dq_42 : Cond.initialized "java/lang/Math" ∈ dp_g := dp_at 42 (by decide +kernel) rfl
theorem dq_43 : Cond.initialized "NearLiars$Run" ∈ dp_g := dp_at 43 (by decide +kernel) rfl
theorem dq_44 : Cond.initialized "NearLiars$Survey" ∈ dp_g := dp_at 44 (by decide +kernel) rfl
theorem dq_45 : Cond.initialized "NearLiars$Names" ∈ dp_g := dp_at 45 (by decide +kernel) rfl
theorem dq_46 : Cond.initialized "NearLiars$Claims" ∈ dp_g := dp_at 46 (by decide +kernel) rfl
theorem dq_47 : Cond.initialized "NearLiarsModel" ∈ dp_g := dp_at 47 (by decide +kernel) rfl
theorem dq_48 : Cond.initialized "java/lang/Integer" ∈ dp_g := dp_at 48 (by decide +kernel) rfl
theorem dq_49 : Cond.initialized "java/lang/System" ∈ dp_g := dp_at 49 (by decide +kernel) rfl
theorem dq_50 : Cond.classLink "NearLiarsLaw" (7 : Nat) "NearLiars" ∈ dp_g := dp_at 50 (by decide +kernel) rfl
theorem dq_51 : Cond.instantiable "NearLiars" (5 : Nat) ∈ dp_g := dp_at 51 (by decide +kernel) rfl
theorem dq_52 : Cond.methodLink "NearLiarsLaw" (9 : Nat) ({ cls := "NearLiars", name := "<init>", desc := "()V" } : Jvm.MethodName) ∈ dp_g := dp_at 52 (by decide +kernel) rfl
theorem dq_53 : Cond.instanceMethod ({ cls := "NearLiars", name := "<init>", desc := "()V" } : Jvm.MethodName) ∈ dp_g := dp_at 53 (by decide +kernel) rfl
set_option maxRecDepth 20000 in
theorem dq_54 : Cond.code ({ cls := "NearLiars", name := "<init>", desc := "()V" } : Jvm.MethodName) prog_1_method_1_code (1 : Nat) (Option.none : Option Jvm.ClassFile.FieldType) ∈ dp_g := dp_at 54 rfl rfl
theorem dq_55 : Cond.methodLink "NearLiars" (1 : Nat) ({ cls := "java/lang/Object", name := "<init>", desc := "()V" } : Jvm.MethodName) ∈ dp_g := dp_at 55 (by decide +kernel) rfl
theorem dq_56 : Cond.instanceMethod ({ cls := "java/lang/Object", name := "<init>", desc := "()V" } : Jvm.MethodName) ∈ dp_g := dp_at 56 (by decide +kernel) rfl
set_option maxRecDepth 20000 in
theorem dq_57 : Cond.code ({ cls := "java/lang/Object", name := "<init>", desc := "()V" } : Jvm.MethodName) object_method_1_code (1 : Nat) (Option.none : Option Jvm.ClassFile.FieldType) ∈ dp_g := dp_at 57 rfl rfl
theorem dq_58 : Cond.classLink "NearLiars" (7 : Nat) "NearLiars$Net" ∈ dp_g := dp_at 58 (by decide +kernel) rfl
theorem dq_59 : Cond.instantiable "NearLiars$Net" (8 : Nat) ∈ dp_g := dp_at 59 (by decide +kernel) rfl
theorem dq_60 : Cond.methodLink "NearLiars" (9 : Nat) ({ cls := "NearLiars$Net", name := "<init>", desc := "()V" } : Jvm.MethodName) ∈ dp_g := dp_at 60 (by decide +kernel) rfl
theorem dq_61 : Cond.instanceMethod ({ cls := "NearLiars$Net", name := "<init>", desc := "()V" } : Jvm.MethodName) ∈ dp_g := dp_at 61 (by decide +kernel) rfl
set_option maxRecDepth 20000 in
theorem dq_62 : Cond.code ({ cls := "NearLiars$Net", name := "<init>", desc := "()V" } : Jvm.MethodName) prog_4_method_1_code (1 : Nat) (Option.none : Option Jvm.ClassFile.FieldType) ∈ dp_g := dp_at 62 rfl rfl
theorem dq_63 : Cond.methodLink "NearLiars$Net" (3 : Nat) ({ cls := "java/lang/Object", name := "<init>", desc := "()V" } : Jvm.MethodName) ∈ dp_g := dp_at 63 (by decide +kernel) rfl
theorem dq_64 : Cond.methodLink "NearLiars$Net" (25 : Nat) ({ cls := "NearLiars$Net", name := "lay", desc := "(III)V" } : Jvm.MethodName) ∈ dp_g := dp_at 64 (by decide +kernel) rfl
theorem dq_65 : Cond.instanceMethod ({ cls := "NearLiars$Net", name := "lay", desc := "(III)V" } : Jvm.MethodName) ∈ dp_g := dp_at 65 (by decide +kernel) rfl
theorem dq_66 : Cond.selects "NearLiars$Net" ({ cls := "NearLiars$Net", name := "lay", desc := "(III)V" } : Jvm.MethodName) ({ cls := "NearLiars$Net", name := "lay", desc := "(III)V" } : Jvm.MethodName) ∈ dp_g := dp_at 66 (by decide +kernel) rfl
set_option maxRecDepth 20000 in
theorem dq_67 : Cond.code ({ cls := "NearLiars$Net", name := "lay", desc := "(III)V" } : Jvm.MethodName) prog_4_method_2_code (6 : Nat) (Option.none : Option Jvm.ClassFile.FieldType) ∈ dp_g := dp_at 67 rfl rfl
theorem dq_68 : Cond.methodLink "NearLiars$Net" (41 : Nat) ({ cls := "java/util/Arrays", name := "fill", desc := "([II)V" } : Jvm.MethodName) ∈ dp_g := dp_at 68 (by decide +kernel) rfl
theorem dq_69 : Cond.static ({ cls := "java/util/Arrays", name := "fill", desc := "([II)V" } : Jvm.MethodName) ∈ dp_g := dp_at 69 (by decide +kernel) rfl
set_option maxRecDepth 20000 in
theorem dq_70 : Cond.code ({ cls := "java/util/Arrays", name := "fill", desc := "([II)V" } : Jvm.MethodName) prog_12_method_103_code (4 : Nat) (Option.none : Option Jvm.ClassFile.FieldType) ∈ dp_g := dp_at 70 rfl rfl
theorem dq_71 : Cond.methodLink "NearLiars$Net" (47 : Nat) ({ cls := "NearLiars$Net", name := "around", desc := "(III)I" } : Jvm.MethodName) ∈ dp_g := dp_at 71 (by decide +kernel) rfl
theorem dq_73 : Cond.instanceMethod ({ cls := "NearLiars$Net", name := "around", desc := "(III)I" } : Jvm.MethodName) ∈ dp_g := dp_at 73 (by decide +kernel) rfl
set_option maxRecDepth 20000 in
theorem dq_74 : Cond.code ({ cls := "NearLiars$Net", name := "around", desc := "(III)I" } : Jvm.MethodName) prog_4_method_3_code (7 : Nat) (Option.some Jvm.ClassFile.FieldType.int) ∈ dp_g := dp_at 74 rfl rfl
theorem dq_75 : Cond.methodLink "NearLiars$Net" (51 : Nat) ({ cls := "java/lang/Math", name := "abs", desc := "(I)I" } : Jvm.MethodName) ∈ dp_g := dp_at 75 (by decide +kernel) rfl
theorem dq_76 : Cond.static ({ cls := "java/lang/Math", name := "abs", desc := "(I)I" } : Jvm.MethodName) ∈ dp_g := dp_at 76 (by decide +kernel) rfl
set_option maxRecDepth 20000 in
theorem dq_77 : Cond.code ({ cls := "java/lang/Math", name := "abs", desc := "(I)I" } : Jvm.MethodName) prog_10_method_59_code (1 : Nat) (Option.some Jvm.ClassFile.FieldType.int) ∈ dp_g := dp_at 77 rfl rfl
theorem dq_78 : Cond.fieldLink "NearLiars$Net" (9 : Nat) "NearLiars$Net" "links" "[I" ∈ dp_g := dp_at 78 (by decide +kernel) rfl
theorem dq_79 : Cond.fieldLinkNest "NearLiars$Run" (73 : Nat) "NearLiars$Net" "links" "[I" "NearLiars" ∈ dp_nw := dp_nat 79 (by decide +kernel) rfl
theorem dq_80 : Cond.fieldLinkNest "NearLiars" (67 : Nat) "NearLiars$Net" "links" "[I" "NearLiars" ∈ dp_nw := dp_nat 80 (by decide +kernel) rfl
theorem dq_81 : Cond.fieldLink "NearLiars$Net" (15 : Nat) "NearLiars$Net" "lies" "[I" ∈ dp_g := dp_at 81 (by decide +kernel) rfl
theorem dq_82 : Cond.fieldLinkNest "NearLiars" (81 : Nat) "NearLiars$Net" "lies" "[I" "NearLiars" ∈ dp_nw := dp_nat 82 (by decide +kernel) rfl
theorem dq_83 : Cond.fieldLinkNest "NearLiars$Run" (82 : Nat) "NearLiars$Net" "lies" "[I" "NearLiars" ∈ dp_nw := dp_nat 83 (by decide +kernel) rfl
theorem dq_84 : Cond.fieldLink "NearLiars$Net" (35 : Nat) "NearLiars$Net" "count" "I" ∈ dp_g := dp_at 84 (by decide +kernel) rfl
theorem dq_85 : Cond.fieldLinkNest "NearLiars$Run" (52 : Nat) "NearLiars$Net" "count" "I" "NearLiars" ∈ dp_nw := dp_nat 85 (by decide +kernel) rfl
theorem dq_86 : Cond.fieldLinkNest "NearLiars" (222 : Nat) "NearLiars$Net" "count" "I" "NearLiars" ∈ dp_nw := dp_nat 86 (by decide +kernel) rfl
theorem dq_87 : Cond.fieldLink "NearLiars$Net" (29 : Nat) "NearLiars$Net" "width" "I" ∈ dp_g := dp_at 87 (by decide +kernel) rfl
theorem dq_88 : Cond.fieldLink "NearLiars$Net" (32 : Nat) "NearLiars$Net" "bands" "I" ∈ dp_g := dp_at 88 (by decide +kernel) rfl
theorem dq_89 : Cond.fieldLinkNest "NearLiars" (114 : Nat) "NearLiars$Net" "bands" "I" "NearLiars" ∈ dp_nw := dp_nat 89 (by decide +kernel) rfl
theorem dq_90 : Cond.fieldLink "NearLiars$Net" (38 : Nat) "NearLiars$Net" "dealer" "I" ∈ dp_g := dp_at 90 (by decide +kernel) rfl
theorem dq_91 : Cond.fieldLinkNest "NearLiars$Run" (44 : Nat) "NearLiars$Net" "dealer" "I" "NearLiars" ∈ dp_nw := dp_nat 91 (by decide +kernel) rfl
theorem dq_92 : Cond.fieldLinkNest "NearLiars$Claims" (43 : Nat) "NearLiars$Net" "dealer" "I" "NearLiars" ∈ dp_nw := dp_nat 92 (by decide +kernel) rfl
theorem dq_93 : Cond.fieldLinkNest "NearLiars" (74 : Nat) "NearLiars$Net" "dealer" "I" "NearLiars" ∈ dp_nw := dp_nat 93 (by decide +kernel) rfl
theorem dq_94 : Cond.fieldLink "NearLiars$Net" (18 : Nat) "NearLiars$Net" "value" "I" ∈ dp_g := dp_at 94 (by decide +kernel) rfl
theorem dq_95 : Cond.fieldLinkNest "NearLiars$Run" (49 : Nat) "NearLiars$Net" "value" "I" "NearLiars" ∈ dp_nw := dp_nat 95 (by decide +kernel) rfl
theorem dq_96 : Cond.fieldLinkNest "NearLiars" (78 : Nat) "NearLiars$Net" "value" "I" "NearLiars" ∈ dp_nw := dp_nat 96 (by decide +kernel) rfl
theorem dq_97 : Cond.fieldLink "NearLiars$Net" (22 : Nat) "NearLiars$Net" "need" "I" ∈ dp_g := dp_at 97 (by decide +kernel) rfl
theorem dq_98 : Cond.fieldLinkNest "NearLiars$Survey" (32 : Nat) "NearLiars$Net" "need" "I" "NearLiars" ∈ dp_nw := dp_nat 98 (by decide +kernel) rfl
theorem dq_99 : Cond.fieldLinkNest "NearLiars" (84 : Nat) "NearLiars$Net" "need" "I" "NearLiars" ∈ dp_nw := dp_nat 99 (by decide +kernel) rfl
theorem dq_100 : Cond.fieldLinkNest "NearLiars$Run" (96 : Nat) "NearLiars$Net" "need" "I" "NearLiars" ∈ dp_nw := dp_nat 100 (by decide +kernel) rfl
theorem dq_118 : Cond.arrayClass Jvm.ClassFile.FieldType.int ∈ dp_g := dp_at 118 (by decide +kernel) rfl
theorem dq_119 : Cond.classLink "NearLiars" (16 : Nat) "NearLiars$Run" ∈ dp_g := dp_at 119 (by decide +kernel) rfl
theorem dq_120 : Cond.instantiable "NearLiars$Run" (7 : Nat) ∈ dp_g := dp_at 120 (by decide +kernel) rfl
theorem dq_121 : Cond.methodLink "NearLiars" (18 : Nat) ({ cls := "NearLiars$Run", name := "<init>", desc := "()V" } : Jvm.MethodName) ∈ dp_g := dp_at 121 (by decide +kernel) rfl
theorem dq_122 : Cond.instanceMethod ({ cls := "NearLiars$Run", name := "<init>", desc := "()V" } : Jvm.MethodName) ∈ dp_g := dp_at 122 (by decide +kernel) rfl
set_option maxRecDepth 20000 in
theorem dq_123 : Cond.code ({ cls := "NearLiars$Run", name := "<init>", desc := "()V" } : Jvm.MethodName) prog_5_method_1_code (1 : Nat) (Option.none : Option Jvm.ClassFile.FieldType) ∈ dp_g := dp_at 123 rfl rfl
theorem dq_124 : Cond.methodLink "NearLiars$Run" (3 : Nat) ({ cls := "java/lang/Object", name := "<init>", desc := "()V" } : Jvm.MethodName) ∈ dp_g := dp_at 124 (by decide +kernel) rfl
theorem dq_125 : Cond.fieldLink "NearLiars$Run" (9 : Nat) "NearLiars$Run" "slots" "[I" ∈ dp_g := dp_at 125 (by decide +kernel) rfl
theorem dq_126 : Cond.fieldLinkNest "NearLiars" (98 : Nat) "NearLiars$Run" "slots" "[I" "NearLiars" ∈ dp_nw := dp_nat 126 (by decide +kernel) rfl
theorem dq_127 : Cond.fieldLink "NearLiars$Run" (15 : Nat) "NearLiars$Run" "taken" "[I" ∈ dp_g := dp_at 127 (by decide +kernel) rfl
theorem dq_128 : Cond.fieldLinkNest "NearLiars" (101 : Nat) "NearLiars$Run" "taken" "[I" "NearLiars" ∈ dp_nw := dp_nat 128 (by decide +kernel) rfl
theorem dq_129 : Cond.fieldLink "NearLiars$Run" (18 : Nat) "NearLiars$Run" "since" "[I" ∈ dp_g := dp_at 129 (by decide +kernel) rfl
theorem dq_130 : Cond.fieldLinkNest "NearLiars" (104 : Nat) "NearLiars$Run" "since" "[I" "NearLiars" ∈ dp_nw := dp_nat 130 (by decide +kernel) rfl
theorem dq_131 : Cond.fieldLink "NearLiars$Run" (21 : Nat) "NearLiars$Run" "heard" "[I" ∈ dp_g := dp_at 131 (by decide +kernel) rfl
theorem dq_132 : Cond.fieldLink "NearLiars$Run" (24 : Nat) "NearLiars$Run" "round" "I" ∈ dp_g := dp_at 132 (by decide +kernel) rfl
theorem dq_133 : Cond.fieldLinkNest "NearLiars" (226 : Nat) "NearLiars$Run" "round" "I" "NearLiars" ∈ dp_nw := dp_nat 133 (by decide +kernel) rfl
theorem dq_134 : Cond.fieldLink "NearLiars$Run" (28 : Nat) "NearLiars$Run" "over" "I" ∈ dp_g := dp_at 134 (by decide +kernel) rfl
theorem dq_135 : Cond.fieldLinkNest "NearLiars" (87 : Nat) "NearLiars$Run" "over" "I" "NearLiars" ∈ dp_nw := dp_nat 135 (by decide +kernel) rfl
theorem dq_136 : Cond.fieldLink "NearLiars$Run" (31 : Nat) "NearLiars$Run" "spoken" "I" ∈ dp_g := dp_at 136 (by decide +kernel) rfl
theorem dq_137 : Cond.fieldLinkNest "NearLiars" (111 : Nat) "NearLiars$Run" "spoken" "I" "NearLiars" ∈ dp_nw := dp_nat 137 (by decide +kernel) rfl
theorem dq_153 : Cond.classLink "NearLiars" (23 : Nat) "NearLiars$Survey" ∈ dp_g := dp_at 153 (by decide +kernel) rfl
theorem dq_154 : Cond.instantiable "NearLiars$Survey" (4 : Nat) ∈ dp_g := dp_at 154 (by decide +kernel) rfl
theorem dq_155 : Cond.methodLinkNest "NearLiars" (25 : Nat) ({ cls := "NearLiars$Survey", name := "<init>", desc := "()V" } : Jvm.MethodName) "NearLiars" ∈ dp_nw := dp_nat 155 (by decide +kernel) rfl
theorem dq_156 : Cond.instanceMethod ({ cls := "NearLiars$Survey", name := "<init>", desc := "()V" } : Jvm.MethodName) ∈ dp_g := dp_at 156 (by decide +kernel) rfl
set_option maxRecDepth 20000 in
theorem dq_157 : Cond.code ({ cls := "NearLiars$Survey", name := "<init>", desc := "()V" } : Jvm.MethodName) prog_6_method_1_code (1 : Nat) (Option.none : Option Jvm.ClassFile.FieldType) ∈ dp_g := dp_at 157 rfl rfl
theorem dq_158 : Cond.methodLink "NearLiars$Survey" (1 : Nat) ({ cls := "java/lang/Object", name := "<init>", desc := "()V" } : Jvm.MethodName) ∈ dp_g := dp_at 158 (by decide +kernel) rfl
theorem dq_159 : Cond.fieldLink "NearLiars$Survey" (7 : Nat) "NearLiars$Survey" "worstSet" "I" ∈ dp_g := dp_at 159 (by decide +kernel) rfl
theorem dq_160 : Cond.fieldLinkNest "NearLiars" (157 : Nat) "NearLiars$Survey" "worstSet" "I" "NearLiars" ∈ dp_nw := dp_nat 160 (by decide +kernel) rfl
theorem dq_161 : Cond.fieldLink "NearLiars$Survey" (13 : Nat) "NearLiars$Survey" "worstCut" "I" ∈ dp_g := dp_at 161 (by decide +kernel) rfl
theorem dq_162 : Cond.fieldLinkNest "NearLiars" (160 : Nat) "NearLiars$Survey" "worstCut" "I" "NearLiars" ∈ dp_nw := dp_nat 162 (by decide +kernel) rfl
theorem dq_163 : Cond.fieldLink "NearLiars$Survey" (16 : Nat) "NearLiars$Survey" "thin" "I" ∈ dp_g := dp_at 163 (by decide +kernel) rfl
theorem dq_164 : Cond.fieldLinkNest "NearLiars" (163 : Nat) "NearLiars$Survey" "thin" "I" "NearLiars" ∈ dp_nw := dp_nat 164 (by decide +kernel) rfl
theorem dq_165 : Cond.fieldLink "NearLiars$Survey" (19 : Nat) "NearLiars$Survey" "stopping" "I" ∈ dp_g := dp_at 165 (by decide +kernel) rfl
theorem dq_166 : Cond.fieldLinkNest "NearLiars" (166 : Nat) "NearLiars$Survey" "stopping" "I" "NearLiars" ∈ dp_nw := dp_nat 166 (by decide +kernel) rfl
theorem dq_176 : Cond.classLink "NearLiars" (30 : Nat) "NearLiars$Names" ∈ dp_g := dp_at 176 (by decide +kernel) rfl
theorem dq_177 : Cond.instantiable "NearLiars$Names" (2 : Nat) ∈ dp_g := dp_at 177 (by decide +kernel) rfl
theorem dq_178 : Cond.methodLinkNest "NearLiars" (32 : Nat) ({ cls := "NearLiars$Names", name := "<init>", desc := "()V" } : Jvm.MethodName) "NearLiars" ∈ dp_nw := dp_nat 178 (by decide +kernel) rfl
theorem dq_179 : Cond.instanceMethod ({ cls := "NearLiars$Names", name := "<init>", desc := "()V" } : Jvm.MethodName) ∈ dp_g := dp_at 179 (by decide +kernel) rfl
set_option maxRecDepth 20000 in
theorem dq_180 : Cond.code ({ cls := "NearLiars$Names", name := "<init>", desc := "()V" } : Jvm.MethodName) prog_3_method_1_code (1 : Nat) (Option.none : Option Jvm.ClassFile.FieldType) ∈ dp_g := dp_at 180 rfl rfl
theorem dq_181 : Cond.methodLink "NearLiars$Names" (3 : Nat) ({ cls := "java/lang/Object", name := "<init>", desc := "()V" } : Jvm.MethodName) ∈ dp_g := dp_at 181 (by decide +kernel) rfl
theorem dq_182 : Cond.fieldLink "NearLiars$Names" (9 : Nat) "NearLiars$Names" "cuts" "[I" ∈ dp_g := dp_at 182 (by decide +kernel) rfl
theorem dq_183 : Cond.fieldLinkNest "NearLiars" (178 : Nat) "NearLiars$Names" "cuts" "[I" "NearLiars" ∈ dp_nw := dp_nat 183 (by decide +kernel) rfl
theorem dq_184 : Cond.fieldLink "NearLiars$Names" (15 : Nat) "NearLiars$Names" "count" "I" ∈ dp_g := dp_at 184 (by decide +kernel) rfl
theorem dq_185 : Cond.fieldLinkNest "NearLiars" (175 : Nat) "NearLiars$Names" "count" "I" "NearLiars" ∈ dp_nw := dp_nat 185 (by decide +kernel) rfl
theorem dq_191 : Cond.classLink "NearLiars" (37 : Nat) "NearLiars$Claims" ∈ dp_g := dp_at 191 (by decide +kernel) rfl
theorem dq_192 : Cond.instantiable "NearLiars$Claims" (9 : Nat) ∈ dp_g := dp_at 192 (by decide +kernel) rfl
theorem dq_193 : Cond.methodLinkNest "NearLiars" (39 : Nat) ({ cls := "NearLiars$Claims", name := "<init>", desc := "()V" } : Jvm.MethodName) "NearLiars" ∈ dp_nw := dp_nat 193 (by decide +kernel) rfl
theorem dq_194 : Cond.instanceMethod ({ cls := "NearLiars$Claims", name := "<init>", desc := "()V" } : Jvm.MethodName) ∈ dp_g := dp_at 194 (by decide +kernel) rfl
set_option maxRecDepth 20000 in
theorem dq_195 : Cond.code ({ cls := "NearLiars$Claims", name := "<init>", desc := "()V" } : Jvm.MethodName) prog_2_method_1_code (1 : Nat) (Option.none : Option Jvm.ClassFile.FieldType) ∈ dp_g := dp_at 195 rfl rfl
theorem dq_196 : Cond.methodLink "NearLiars$Claims" (3 : Nat) ({ cls := "java/lang/Object", name := "<init>", desc := "()V" } : Jvm.MethodName) ∈ dp_g := dp_at 196 (by decide +kernel) rfl
theorem dq_197 : Cond.fieldLink "NearLiars$Claims" (9 : Nat) "NearLiars$Claims" "hand" "[I" ∈ dp_g := dp_at 197 (by decide +kernel) rfl
theorem dq_198 : Cond.fieldLink "NearLiars$Claims" (15 : Nat) "NearLiars$Claims" "ways" "[I" ∈ dp_g := dp_at 198 (by decide +kernel) rfl
theorem dq_199 : Cond.fieldLink "NearLiars$Claims" (18 : Nat) "NearLiars$Claims" "lengths" "[I" ∈ dp_g := dp_at 199 (by decide +kernel) rfl
theorem dq_200 : Cond.fieldLinkNest "NearLiars" (207 : Nat) "NearLiars$Claims" "lengths" "[I" "NearLiars" ∈ dp_nw := dp_nat 200 (by decide +kernel) rfl
theorem dq_201 : Cond.fieldLink "NearLiars$Claims" (21 : Nat) "NearLiars$Claims" "sets" "[I" ∈ dp_g := dp_at 201 (by decide +kernel) rfl
theorem dq_202 : Cond.fieldLinkNest "NearLiars" (210 : Nat) "NearLiars$Claims" "sets" "[I" "NearLiars" ∈ dp_nw := dp_nat 202 (by decide +kernel) rfl
theorem dq_203 : Cond.fieldLink "NearLiars$Claims" (24 : Nat) "NearLiars$Claims" "values" "[I" ∈ dp_g := dp_at 203 (by decide +kernel) rfl
theorem dq_204 : Cond.fieldLinkNest "NearLiars" (204 : Nat) "NearLiars$Claims" "values" "[I" "NearLiars" ∈ dp_nw := dp_nat 204 (by decide +kernel) rfl
theorem dq_205 : Cond.fieldLink "NearLiars$Claims" (27 : Nat) "NearLiars$Claims" "inner" "[I" ∈ dp_g := dp_at 205 (by decide +kernel) rfl
theorem dq_206 : Cond.fieldLink "NearLiars$Claims" (40 : Nat) "NearLiars$Claims" "handSet" "I" ∈ dp_g := dp_at 206 (by decide +kernel) rfl
theorem dq_207 : Cond.fieldLink "NearLiars$Claims" (37 : Nat) "NearLiars$Claims" "steps" "I" ∈ dp_g := dp_at 207 (by decide +kernel) rfl
theorem dq_208 : Cond.fieldLinkNest "NearLiars" (188 : Nat) "NearLiars$Claims" "steps" "I" "NearLiars" ∈ dp_nw := dp_nat 208 (by decide +kernel) rfl
theorem dq_209 : Cond.fieldLink "NearLiars$Claims" (33 : Nat) "NearLiars$Claims" "count" "I" ∈ dp_g := dp_at 209 (by decide +kernel) rfl
theorem dq_210 : Cond.fieldLinkNest "NearLiars" (200 : Nat) "NearLiars$Claims" "count" "I" "NearLiars" ∈ dp_nw := dp_nat 210 (by decide +kernel) rfl
theorem dq_230 : Cond.methodLink "NearLiars" (44 : Nat) ({ cls := "NearLiars$Run", name := "restart", desc := "(LNearLiars$Net;)V" } : Jvm.MethodName) ∈ dp_g := dp_at 230 (by decide +kernel) rfl
theorem dq_231 : Cond.instanceMethod ({ cls := "NearLiars$Run", name := "restart", desc := "(LNearLiars$Net;)V" } : Jvm.MethodName) ∈ dp_g := dp_at 231 (by decide +kernel) rfl
theorem dq_232 : Cond.selects "NearLiars$Run" ({ cls := "NearLiars$Run", name := "restart", desc := "(LNearLiars$Net;)V" } : Jvm.MethodName) ({ cls := "NearLiars$Run", name := "restart", desc := "(LNearLiars$Net;)V" } : Jvm.MethodName) ∈ dp_g := dp_at 232 (by decide +kernel) rfl
set_option maxRecDepth 20000 in
theorem dq_233 : Cond.code ({ cls := "NearLiars$Run", name := "restart", desc := "(LNearLiars$Net;)V" } : Jvm.MethodName) prog_5_method_2_code (2 : Nat) (Option.none : Option Jvm.ClassFile.FieldType) ∈ dp_g := dp_at 233 rfl rfl
theorem dq_234 : Cond.methodLink "NearLiars$Run" (34 : Nat) ({ cls := "NearLiars$Run", name := "dealSlots", desc := "(LNearLiars$Net;)V" } : Jvm.MethodName) ∈ dp_g := dp_at 234 (by decide +kernel) rfl
theorem dq_236 : Cond.instanceMethod ({ cls := "NearLiars$Run", name := "dealSlots", desc := "(LNearLiars$Net;)V" } : Jvm.MethodName) ∈ dp_g := dp_at 236 (by decide +kernel) rfl
set_option maxRecDepth 20000 in
theorem dq_237 : Cond.code ({ cls := "NearLiars$Run", name := "dealSlots", desc := "(LNearLiars$Net;)V" } : Jvm.MethodName) prog_5_method_3_code (3 : Nat) (Option.none : Option Jvm.ClassFile.FieldType) ∈ dp_g := dp_at 237 rfl rfl
theorem dq_238 : Cond.methodLink "NearLiars$Run" (55 : Nat) ({ cls := "NearLiars$Run", name := "slotsNear", desc := "(LNearLiars$Net;I)I" } : Jvm.MethodName) ∈ dp_g := dp_at 238 (by decide +kernel) rfl
theorem dq_240 : Cond.instanceMethod ({ cls := "NearLiars$Run", name := "slotsNear", desc := "(LNearLiars$Net;I)I" } : Jvm.MethodName) ∈ dp_g := dp_at 240 (by decide +kernel) rfl
set_option maxRecDepth 20000 in
theorem dq_241 : Cond.code ({ cls := "NearLiars$Run", name := "slotsNear", desc := "(LNearLiars$Net;I)I" } : Jvm.MethodName) prog_5_method_4_code (5 : Nat) (Option.some Jvm.ClassFile.FieldType.int) ∈ dp_g := dp_at 241 rfl rfl
theorem dq_242 : Cond.methodLink "NearLiars$Run" (69 : Nat) ({ cls := "NearLiars$Net", name := "areLinked", desc := "(II)Z" } : Jvm.MethodName) ∈ dp_g := dp_at 242 (by decide +kernel) rfl
theorem dq_243 : Cond.instanceMethod ({ cls := "NearLiars$Net", name := "areLinked", desc := "(II)Z" } : Jvm.MethodName) ∈ dp_g := dp_at 243 (by decide +kernel) rfl
theorem dq_244 : Cond.selects "NearLiars$Net" ({ cls := "NearLiars$Net", name := "areLinked", desc := "(II)Z" } : Jvm.MethodName) ({ cls := "NearLiars$Net", name := "areLinked", desc := "(II)Z" } : Jvm.MethodName) ∈ dp_g := dp_at 244 (by decide +kernel) rfl
set_option maxRecDepth 20000 in
theorem dq_245 : Cond.code ({ cls := "NearLiars$Net", name := "areLinked", desc := "(II)Z" } : Jvm.MethodName) prog_4_method_5_code (3 : Nat) (Option.some Jvm.ClassFile.FieldType.boolean) ∈ dp_g := dp_at 245 rfl rfl
theorem dq_246 : Cond.methodLinkNest "NearLiars$Net" (57 : Nat) ({ cls := "NearLiars", name := "isIn", desc := "(II)Z" } : Jvm.MethodName) "NearLiars" ∈ dp_nw := dp_nat 246 (by decide +kernel) rfl
theorem dq_247 : Cond.static ({ cls := "NearLiars", name := "isIn", desc := "(II)Z" } : Jvm.MethodName) ∈ dp_g := dp_at 247 (by decide +kernel) rfl
set_option maxRecDepth 20000 in
theorem dq_248 : Cond.code ({ cls := "NearLiars", name := "isIn", desc := "(II)Z" } : Jvm.MethodName) prog_1_method_29_code (2 : Nat) (Option.some Jvm.ClassFile.FieldType.boolean) ∈ dp_g := dp_at 248 rfl rfl
theorem dq_249 : Cond.methodLink "NearLiars$Run" (59 : Nat) ({ cls := "NearLiars$Run", name := "leastFree", desc := "(I)I" } : Jvm.MethodName) ∈ dp_g := dp_at 249 (by decide +kernel) rfl
theorem dq_250 : Cond.static ({ cls := "NearLiars$Run", name := "leastFree", desc := "(I)I" } : Jvm.MethodName) ∈ dp_g := dp_at 250 (by decide +kernel) rfl
set_option maxRecDepth 20000 in
theorem dq_251 : Cond.code ({ cls := "NearLiars$Run", name := "leastFree", desc := "(I)I" } : Jvm.MethodName) prog_5_method_5_code (2 : Nat) (Option.some Jvm.ClassFile.FieldType.int) ∈ dp_g := dp_at 251 rfl rfl
theorem dq_252 : Cond.methodLinkNest "NearLiars$Run" (76 : Nat) ({ cls := "NearLiars", name := "isIn", desc := "(II)Z" } : Jvm.MethodName) "NearLiars" ∈ dp_nw := dp_nat 252 (by decide +kernel) rfl
theorem dq_253 : Cond.methodLink "NearLiars$Run" (63 : Nat) ({ cls := "java/lang/Math", name := "max", desc := "(II)I" } : Jvm.MethodName) ∈ dp_g := dp_at 253 (by decide +kernel) rfl
theorem dq_254 : Cond.static ({ cls := "java/lang/Math", name := "max", desc := "(II)I" } : Jvm.MethodName) ∈ dp_g := dp_at 254 (by decide +kernel) rfl
set_option maxRecDepth 20000 in
theorem dq_255 : Cond.code ({ cls := "java/lang/Math", name := "max", desc := "(II)I" } : Jvm.MethodName) prog_10_method_65_code (2 : Nat) (Option.some Jvm.ClassFile.FieldType.int) ∈ dp_g := dp_at 255 rfl rfl
theorem dq_256 : Cond.methodLink "NearLiars$Run" (38 : Nat) ({ cls := "java/util/Arrays", name := "fill", desc := "([II)V" } : Jvm.MethodName) ∈ dp_g := dp_at 256 (by decide +kernel) rfl
theorem dq_257 : Cond.fieldLink "NearLiars" (10 : Nat) "NearLiars" "net" "LNearLiars$Net;" ∈ dp_g := dp_at 257 (by decide +kernel) rfl
theorem dq_258 : Cond.fieldLink "NearLiars" (19 : Nat) "NearLiars" "run" "LNearLiars$Run;" ∈ dp_g := dp_at 258 (by decide +kernel) rfl
theorem dq_259 : Cond.fieldLink "NearLiars" (26 : Nat) "NearLiars" "survey" "LNearLiars$Survey;" ∈ dp_g := dp_at 259 (by decide +kernel) rfl
theorem dq_260 : Cond.fieldLink "NearLiars" (33 : Nat) "NearLiars" "names" "LNearLiars$Names;" ∈ dp_g := dp_at 260 (by decide +kernel) rfl
theorem dq_261 : Cond.fieldLink "NearLiars" (40 : Nat) "NearLiars" "claims" "LNearLiars$Claims;" ∈ dp_g := dp_at 261 (by decide +kernel) rfl
theorem dq_273 : Cond.methodLink "NearLiarsLaw" (13 : Nat) ({ cls := "NearLiars", name := "net", desc := "(I)I" } : Jvm.MethodName) ∈ dp_g := dp_at 273 (by decide +kernel) rfl
theorem dq_274 : Cond.instanceMethod ({ cls := "NearLiars", name := "net", desc := "(I)I" } : Jvm.MethodName) ∈ dp_g := dp_at 274 (by decide +kernel) rfl
theorem dq_275 : Cond.selects "NearLiars" ({ cls := "NearLiars", name := "net", desc := "(I)I" } : Jvm.MethodName) ({ cls := "NearLiars", name := "net", desc := "(I)I" } : Jvm.MethodName) ∈ dp_g := dp_at 275 (by decide +kernel) rfl
set_option maxRecDepth 20000 in
theorem dq_276 : Cond.code ({ cls := "NearLiars", name := "net", desc := "(I)I" } : Jvm.MethodName) prog_1_method_2_code (2 : Nat) (Option.some Jvm.ClassFile.FieldType.int) ∈ dp_g := dp_at 276 rfl rfl
theorem dq_277 : Cond.methodLink "NearLiars" (48 : Nat) ({ cls := "NearLiars", name := "layAnew", desc := "(III)I" } : Jvm.MethodName) ∈ dp_g := dp_at 277 (by decide +kernel) rfl
theorem dq_279 : Cond.instanceMethod ({ cls := "NearLiars", name := "layAnew", desc := "(III)I" } : Jvm.MethodName) ∈ dp_g := dp_at 279 (by decide +kernel) rfl
set_option maxRecDepth 20000 in
theorem dq_280 : Cond.code ({ cls := "NearLiars", name := "layAnew", desc := "(III)I" } : Jvm.MethodName) prog_1_method_27_code (4 : Nat) (Option.some Jvm.ClassFile.FieldType.int) ∈ dp_g := dp_at 280 rfl rfl
theorem dq_281 : Cond.methodLink "NearLiars" (229 : Nat) ({ cls := "NearLiars$Net", name := "lay", desc := "(III)V" } : Jvm.MethodName) ∈ dp_g := dp_at 281 (by decide +kernel) rfl
theorem dq_282 : Cond.methodLink "NearLiars" (233 : Nat) ({ cls := "NearLiars$Names", name := "forget", desc := "()V" } : Jvm.MethodName) ∈ dp_g := dp_at 282 (by decide +kernel) rfl
theorem dq_283 : Cond.instanceMethod ({ cls := "NearLiars$Names", name := "forget", desc := "()V" } : Jvm.MethodName) ∈ dp_g := dp_at 283 (by decide +kernel) rfl
theorem dq_284 : Cond.selects "NearLiars$Names" ({ cls := "NearLiars$Names", name := "forget", desc := "()V" } : Jvm.MethodName) ({ cls := "NearLiars$Names", name := "forget", desc := "()V" } : Jvm.MethodName) ∈ dp_g := dp_at 284 (by decide +kernel) rfl
set_option maxRecDepth 20000 in
theorem dq_285 : Cond.code ({ cls := "NearLiars$Names", name := "forget", desc := "()V" } : Jvm.MethodName) prog_3_method_2_code (1 : Nat) (Option.none : Option Jvm.ClassFile.FieldType) ∈ dp_g := dp_at 285 rfl rfl
theorem dq_286 : Cond.methodLink "NearLiars" (64 : Nat) ({ cls := "NearLiars$Claims", name := "forget", desc := "()V" } : Jvm.MethodName) ∈ dp_g := dp_at 286 (by decide +kernel) rfl
theorem dq_287 : Cond.instanceMethod ({ cls := "NearLiars$Claims", name := "forget", desc := "()V" } : Jvm.MethodName) ∈ dp_g := dp_at 287 (by decide +kernel) rfl
theorem dq_288 : Cond.selects "NearLiars$Claims" ({ cls := "NearLiars$Claims", name := "forget", desc := "()V" } : Jvm.MethodName) ({ cls := "NearLiars$Claims", name := "forget", desc := "()V" } : Jvm.MethodName) ∈ dp_g := dp_at 288 (by decide +kernel) rfl
set_option maxRecDepth 20000 in
theorem dq_289 : Cond.code ({ cls := "NearLiars$Claims", name := "forget", desc := "()V" } : Jvm.MethodName) prog_2_method_2_code (1 : Nat) (Option.none : Option Jvm.ClassFile.FieldType) ∈ dp_g := dp_at 289 rfl rfl
theorem dq_290 : Cond.methodLink "NearLiars$Claims" (30 : Nat) ({ cls := "NearLiars$Claims", name := "letGo", desc := "()V" } : Jvm.MethodName) ∈ dp_g := dp_at 290 (by decide +kernel) rfl
theorem dq_291 : Cond.instanceMethod ({ cls := "NearLiars$Claims", name := "letGo", desc := "()V" } : Jvm.MethodName) ∈ dp_g := dp_at 291 (by decide +kernel) rfl
theorem dq_292 : Cond.selects "NearLiars$Claims" ({ cls := "NearLiars$Claims", name := "letGo", desc := "()V" } : Jvm.MethodName) ({ cls := "NearLiars$Claims", name := "letGo", desc := "()V" } : Jvm.MethodName) ∈ dp_g := dp_at 292 (by decide +kernel) rfl
set_option maxRecDepth 20000 in
theorem dq_293 : Cond.code ({ cls := "NearLiars$Claims", name := "letGo", desc := "()V" } : Jvm.MethodName) prog_2_method_3_code (1 : Nat) (Option.none : Option Jvm.ClassFile.FieldType) ∈ dp_g := dp_at 293 rfl rfl
theorem dq_294 : Cond.methodLink "NearLiarsLaw" (18 : Nat) ({ cls := "NearLiars", name := "grid", desc := "(III)I" } : Jvm.MethodName) ∈ dp_g := dp_at 294 (by decide +kernel) rfl
theorem dq_295 : Cond.instanceMethod ({ cls := "NearLiars", name := "grid", desc := "(III)I" } : Jvm.MethodName) ∈ dp_g := dp_at 295 (by decide +kernel) rfl
theorem dq_296 : Cond.selects "NearLiars" ({ cls := "NearLiars", name := "grid", desc := "(III)I" } : Jvm.MethodName) ({ cls := "NearLiars", name := "grid", desc := "(III)I" } : Jvm.MethodName) ∈ dp_g := dp_at 296 (by decide +kernel) rfl
set_option maxRecDepth 20000 in
theorem dq_297 : Cond.code ({ cls := "NearLiars", name := "grid", desc := "(III)I" } : Jvm.MethodName) prog_1_method_3_code (4 : Nat) (Option.some Jvm.ClassFile.FieldType.int) ∈ dp_g := dp_at 297 rfl rfl
theorem dq_298 : Cond.methodLink "NearLiarsLaw" (23 : Nat) ({ cls := "NearLiars", name := "edge", desc := "(III)I" } : Jvm.MethodName) ∈ dp_g := dp_at 298 (by decide +kernel) rfl
theorem dq_299 : Cond.instanceMethod ({ cls := "NearLiars", name := "edge", desc := "(III)I" } : Jvm.MethodName) ∈ dp_g := dp_at 299 (by decide +kernel) rfl
theorem dq_300 : Cond.selects "NearLiars" ({ cls := "NearLiars", name := "edge", desc := "(III)I" } : Jvm.MethodName) ({ cls := "NearLiars", name := "edge", desc := "(III)I" } : Jvm.MethodName) ∈ dp_g := dp_at 300 (by decide +kernel) rfl
set_option maxRecDepth 20000 in
theorem dq_301 : Cond.code ({ cls := "NearLiars", name := "edge", desc := "(III)I" } : Jvm.MethodName) prog_1_method_4_code (5 : Nat) (Option.some Jvm.ClassFile.FieldType.int) ∈ dp_g := dp_at 301 rfl rfl
theorem dq_302 : Cond.methodLink "NearLiars" (52 : Nat) ({ cls := "NearLiars$Net", name := "has", desc := "(I)Z" } : Jvm.MethodName) ∈ dp_g := dp_at 302 (by decide +kernel) rfl
theorem dq_303 : Cond.instanceMethod ({ cls := "NearLiars$Net", name := "has", desc := "(I)Z" } : Jvm.MethodName) ∈ dp_g := dp_at 303 (by decide +kernel) rfl
theorem dq_304 : Cond.selects "NearLiars$Net" ({ cls := "NearLiars$Net", name := "has", desc := "(I)Z" } : Jvm.MethodName) ({ cls := "NearLiars$Net", name := "has", desc := "(I)Z" } : Jvm.MethodName) ∈ dp_g := dp_at 304 (by decide +kernel) rfl
set_option maxRecDepth 20000 in
theorem dq_305 : Cond.code ({ cls := "NearLiars$Net", name := "has", desc := "(I)Z" } : Jvm.MethodName) prog_4_method_4_code (2 : Nat) (Option.some Jvm.ClassFile.FieldType.boolean) ∈ dp_g := dp_at 305 rfl rfl
theorem dq_306 : Cond.methodLink "NearLiars" (56 : Nat) ({ cls := "NearLiars$Net", name := "areLinked", desc := "(II)Z" } : Jvm.MethodName) ∈ dp_g := dp_at 306 (by decide +kernel) rfl
theorem dq_307 : Cond.methodLink "NearLiars" (60 : Nat) ({ cls := "NearLiars$Net", name := "link", desc := "(IIZ)V" } : Jvm.MethodName) ∈ dp_g := dp_at 307 (by decide +kernel) rfl
theorem dq_308 : Cond.instanceMethod ({ cls := "NearLiars$Net", name := "link", desc := "(IIZ)V" } : Jvm.MethodName) ∈ dp_g := dp_at 308 (by decide +kernel) rfl
theorem dq_309 : Cond.selects "NearLiars$Net" ({ cls := "NearLiars$Net", name := "link", desc := "(IIZ)V" } : Jvm.MethodName) ({ cls := "NearLiars$Net", name := "link", desc := "(IIZ)V" } : Jvm.MethodName) ∈ dp_g := dp_at 309 (by decide +kernel) rfl
set_option maxRecDepth 20000 in
theorem dq_310 : Cond.code ({ cls := "NearLiars$Net", name := "link", desc := "(IIZ)V" } : Jvm.MethodName) prog_4_method_6_code (4 : Nat) (Option.none : Option Jvm.ClassFile.FieldType) ∈ dp_g := dp_at 310 rfl rfl
theorem dq_311 : Cond.methodLink "NearLiarsLaw" (27 : Nat) ({ cls := "NearLiars", name := "neighbours", desc := "(I)I" } : Jvm.MethodName) ∈ dp_g := dp_at 311 (by decide +kernel) rfl
theorem dq_312 : Cond.instanceMethod ({ cls := "NearLiars", name := "neighbours", desc := "(I)I" } : Jvm.MethodName) ∈ dp_g := dp_at 312 (by decide +kernel) rfl
theorem dq_313 : Cond.selects "NearLiars" ({ cls := "NearLiars", name := "neighbours", desc := "(I)I" } : Jvm.MethodName) ({ cls := "NearLiars", name := "neighbours", desc := "(I)I" } : Jvm.MethodName) ∈ dp_g := dp_at 313 (by decide +kernel) rfl
set_option maxRecDepth 20000 in
theorem dq_314 : Cond.code ({ cls := "NearLiars", name := "neighbours", desc := "(I)I" } : Jvm.MethodName) prog_1_method_5_code (2 : Nat) (Option.some Jvm.ClassFile.FieldType.int) ∈ dp_g := dp_at 314 rfl rfl
theorem dq_315 : Cond.methodLink "NearLiarsLaw" (31 : Nat) ({ cls := "NearLiars", name := "dealer", desc := "(II)I" } : Jvm.MethodName) ∈ dp_g := dp_at 315 (by decide +kernel) rfl
theorem dq_316 : Cond.instanceMethod ({ cls := "NearLiars", name := "dealer", desc := "(II)I" } : Jvm.MethodName) ∈ dp_g := dp_at 316 (by decide +kernel) rfl
theorem dq_317 : Cond.selects "NearLiars" ({ cls := "NearLiars", name := "dealer", desc := "(II)I" } : Jvm.MethodName) ({ cls := "NearLiars", name := "dealer", desc := "(II)I" } : Jvm.MethodName) ∈ dp_g := dp_at 317 (by decide +kernel) rfl
set_option maxRecDepth 20000 in
theorem dq_318 : Cond.code ({ cls := "NearLiars", name := "dealer", desc := "(II)I" } : Jvm.MethodName) prog_1_method_6_code (4 : Nat) (Option.some Jvm.ClassFile.FieldType.int) ∈ dp_g := dp_at 318 rfl rfl
theorem dq_319 : Cond.methodLink "NearLiars" (71 : Nat) ({ cls := "NearLiars", name := "isValue", desc := "(I)Z" } : Jvm.MethodName) ∈ dp_g := dp_at 319 (by decide +kernel) rfl
theorem dq_320 : Cond.static ({ cls := "NearLiars", name := "isValue", desc := "(I)Z" } : Jvm.MethodName) ∈ dp_g := dp_at 320 (by decide +kernel) rfl
set_option maxRecDepth 20000 in
theorem dq_321 : Cond.code ({ cls := "NearLiars", name := "isValue", desc := "(I)Z" } : Jvm.MethodName) prog_1_method_28_code (1 : Nat) (Option.some Jvm.ClassFile.FieldType.boolean) ∈ dp_g := dp_at 321 rfl rfl
theorem dq_322 : Cond.methodLink "NearLiarsLaw" (36 : Nat) ({ cls := "NearLiars", name := "need", desc := "(I)I" } : Jvm.MethodName) ∈ dp_g := dp_at 322 (by decide +kernel) rfl
theorem dq_323 : Cond.instanceMethod ({ cls := "NearLiars", name := "need", desc := "(I)I" } : Jvm.MethodName) ∈ dp_g := dp_at 323 (by decide +kernel) rfl
theorem dq_324 : Cond.selects "NearLiars" ({ cls := "NearLiars", name := "need", desc := "(I)I" } : Jvm.MethodName) ({ cls := "NearLiars", name := "need", desc := "(I)I" } : Jvm.MethodName) ∈ dp_g := dp_at 324 (by decide +kernel) rfl
set_option maxRecDepth 20000 in
theorem dq_325 : Cond.code ({ cls := "NearLiars", name := "need", desc := "(I)I" } : Jvm.MethodName) prog_1_method_7_code (3 : Nat) (Option.some Jvm.ClassFile.FieldType.int) ∈ dp_g := dp_at 325 rfl rfl
theorem dq_326 : Cond.methodLink "NearLiarsLaw" (40 : Nat) ({ cls := "NearLiars", name := "lie", desc := "(II)I" } : Jvm.MethodName) ∈ dp_g := dp_at 326 (by decide +kernel) rfl
theorem dq_327 : Cond.instanceMethod ({ cls := "NearLiars", name := "lie", desc := "(II)I" } : Jvm.MethodName) ∈ dp_g := dp_at 327 (by decide +kernel) rfl
theorem dq_328 : Cond.selects "NearLiars" ({ cls := "NearLiars", name := "lie", desc := "(II)I" } : Jvm.MethodName) ({ cls := "NearLiars", name := "lie", desc := "(II)I" } : Jvm.MethodName) ∈ dp_g := dp_at 328 (by decide +kernel) rfl
set_option maxRecDepth 20000 in
theorem dq_329 : Cond.code ({ cls := "NearLiars", name := "lie", desc := "(II)I" } : Jvm.MethodName) prog_1_method_8_code (4 : Nat) (Option.some Jvm.ClassFile.FieldType.int) ∈ dp_g := dp_at 329 rfl rfl
theorem dq_330 : Cond.methodLink "NearLiarsLaw" (44 : Nat) ({ cls := "NearLiars", name := "begin", desc := "()I" } : Jvm.MethodName) ∈ dp_g := dp_at 330 (by decide +kernel) rfl
theorem dq_331 : Cond.instanceMethod ({ cls := "NearLiars", name := "begin", desc := "()I" } : Jvm.MethodName) ∈ dp_g := dp_at 331 (by decide +kernel) rfl
theorem dq_332 : Cond.selects "NearLiars" ({ cls := "NearLiars", name := "begin", desc := "()I" } : Jvm.MethodName) ({ cls := "NearLiars", name := "begin", desc := "()I" } : Jvm.MethodName) ∈ dp_g := dp_at 332 (by decide +kernel) rfl
set_option maxRecDepth 20000 in
theorem dq_333 : Cond.code ({ cls := "NearLiars", name := "begin", desc := "()I" } : Jvm.MethodName) prog_1_method_9_code (2 : Nat) (Option.some Jvm.ClassFile.FieldType.int) ∈ dp_g := dp_at 333 rfl rfl
theorem dq_334 : Cond.methodLink "NearLiarsLaw" (49 : Nat) ({ cls := "NearLiars", name := "ticks", desc := "(I)I" } : Jvm.MethodName) ∈ dp_g := dp_at 334 (by decide +kernel) rfl
theorem dq_335 : Cond.instanceMethod ({ cls := "NearLiars", name := "ticks", desc := "(I)I" } : Jvm.MethodName) ∈ dp_g := dp_at 335 (by decide +kernel) rfl
theorem dq_336 : Cond.selects "NearLiars" ({ cls := "NearLiars", name := "ticks", desc := "(I)I" } : Jvm.MethodName) ({ cls := "NearLiars", name := "ticks", desc := "(I)I" } : Jvm.MethodName) ∈ dp_g := dp_at 336 (by decide +kernel) rfl
set_option maxRecDepth 20000 in
theorem dq_337 : Cond.code ({ cls := "NearLiars", name := "ticks", desc := "(I)I" } : Jvm.MethodName) prog_1_method_10_code (4 : Nat) (Option.some Jvm.ClassFile.FieldType.int) ∈ dp_g := dp_at 337 rfl rfl
theorem dq_338 : Cond.methodLink "NearLiars" (90 : Nat) ({ cls := "NearLiars$Run", name := "pass", desc := "(LNearLiars$Net;)I" } : Jvm.MethodName) ∈ dp_g := dp_at 338 (by decide +kernel) rfl
theorem dq_339 : Cond.instanceMethod ({ cls := "NearLiars$Run", name := "pass", desc := "(LNearLiars$Net;)I" } : Jvm.MethodName) ∈ dp_g := dp_at 339 (by decide +kernel) rfl
theorem dq_340 : Cond.selects "NearLiars$Run" ({ cls := "NearLiars$Run", name := "pass", desc := "(LNearLiars$Net;)I" } : Jvm.MethodName) ({ cls := "NearLiars$Run", name := "pass", desc := "(LNearLiars$Net;)I" } : Jvm.MethodName) ∈ dp_g := dp_at 340 (by decide +kernel) rfl
set_option maxRecDepth 20000 in
theorem dq_341 : Cond.code ({ cls := "NearLiars$Run", name := "pass", desc := "(LNearLiars$Net;)I" } : Jvm.MethodName) prog_5_method_6_code (5 : Nat) (Option.some Jvm.ClassFile.FieldType.int) ∈ dp_g := dp_at 341 rfl rfl
theorem dq_342 : Cond.methodLink "NearLiars$Run" (79 : Nat) ({ cls := "NearLiars$Run", name := "speak", desc := "(LNearLiars$Net;I)I" } : Jvm.MethodName) ∈ dp_g := dp_at 342 (by decide +kernel) rfl
theorem dq_344 : Cond.instanceMethod ({ cls := "NearLiars$Run", name := "speak", desc := "(LNearLiars$Net;I)I" } : Jvm.MethodName) ∈ dp_g := dp_at 344 (by decide +kernel) rfl
set_option maxRecDepth 20000 in
theorem dq_345 : Cond.code ({ cls := "NearLiars$Run", name := "speak", desc := "(LNearLiars$Net;I)I" } : Jvm.MethodName) prog_5_method_7_code (6 : Nat) (Option.some Jvm.ClassFile.FieldType.int) ∈ dp_g := dp_at 345 rfl rfl
theorem dq_346 : Cond.methodLinkNest "NearLiars$Run" (85 : Nat) ({ cls := "NearLiars", name := "isValue", desc := "(I)Z" } : Jvm.MethodName) "NearLiars" ∈ dp_nw := dp_nat 346 (by decide +kernel) rfl
theorem dq_347 : Cond.methodLink "NearLiars$Run" (89 : Nat) ({ cls := "NearLiars$Run", name := "hear", desc := "(LNearLiars$Net;III)I" } : Jvm.MethodName) ∈ dp_g := dp_at 347 (by decide +kernel) rfl
theorem dq_349 : Cond.instanceMethod ({ cls := "NearLiars$Run", name := "hear", desc := "(LNearLiars$Net;III)I" } : Jvm.MethodName) ∈ dp_g := dp_at 349 (by decide +kernel) rfl
set_option maxRecDepth 20000 in
theorem dq_350 : Cond.code ({ cls := "NearLiars$Run", name := "hear", desc := "(LNearLiars$Net;III)I" } : Jvm.MethodName) prog_5_method_8_code (5 : Nat) (Option.some Jvm.ClassFile.FieldType.int) ∈ dp_g := dp_at 350 rfl rfl
theorem dq_351 : Cond.methodLink "NearLiars$Run" (93 : Nat) ({ cls := "NearLiars$Run", name := "heardOf", desc := "(II)I" } : Jvm.MethodName) ∈ dp_g := dp_at 351 (by decide +kernel) rfl
theorem dq_352 : Cond.instanceMethod ({ cls := "NearLiars$Run", name := "heardOf", desc := "(II)I" } : Jvm.MethodName) ∈ dp_g := dp_at 352 (by decide +kernel) rfl
theorem dq_353 : Cond.selects "NearLiars$Run" ({ cls := "NearLiars$Run", name := "heardOf", desc := "(II)I" } : Jvm.MethodName) ({ cls := "NearLiars$Run", name := "heardOf", desc := "(II)I" } : Jvm.MethodName) ∈ dp_g := dp_at 353 (by decide +kernel) rfl
set_option maxRecDepth 20000 in
theorem dq_354 : Cond.code ({ cls := "NearLiars$Run", name := "heardOf", desc := "(II)I" } : Jvm.MethodName) prog_5_method_9_code (3 : Nat) (Option.some Jvm.ClassFile.FieldType.int) ∈ dp_g := dp_at 354 rfl rfl
theorem dq_355 : Cond.methodLink "NearLiarsLaw" (53 : Nat) ({ cls := "NearLiars", name := "node", desc := "(II)I" } : Jvm.MethodName) ∈ dp_g := dp_at 355 (by decide +kernel) rfl
theorem dq_356 : Cond.instanceMethod ({ cls := "NearLiars", name := "node", desc := "(II)I" } : Jvm.MethodName) ∈ dp_g := dp_at 356 (by decide +kernel) rfl
theorem dq_357 : Cond.selects "NearLiars" ({ cls := "NearLiars", name := "node", desc := "(II)I" } : Jvm.MethodName) ({ cls := "NearLiars", name := "node", desc := "(II)I" } : Jvm.MethodName) ∈ dp_g := dp_at 357 (by decide +kernel) rfl
set_option maxRecDepth 20000 in
theorem dq_358 : Cond.code ({ cls := "NearLiars", name := "node", desc := "(II)I" } : Jvm.MethodName) prog_1_method_11_code (3 : Nat) (Option.some Jvm.ClassFile.FieldType.int) ∈ dp_g := dp_at 358 rfl rfl
theorem dq_359 : Cond.methodLink "NearLiars" (94 : Nat) ({ cls := "NearLiars$Run", name := "heardOf", desc := "(II)I" } : Jvm.MethodName) ∈ dp_g := dp_at 359 (by decide +kernel) rfl
theorem dq_360 : Cond.methodLink "NearLiars" (107 : Nat) ({ cls := "NearLiars$Run", name := "heardInAll", desc := "(I)I" } : Jvm.MethodName) ∈ dp_g := dp_at 360 (by decide +kernel) rfl
theorem dq_361 : Cond.instanceMethod ({ cls := "NearLiars$Run", name := "heardInAll", desc := "(I)I" } : Jvm.MethodName) ∈ dp_g := dp_at 361 (by decide +kernel) rfl
theorem dq_362 : Cond.selects "NearLiars$Run" ({ cls := "NearLiars$Run", name := "heardInAll", desc := "(I)I" } : Jvm.MethodName) ({ cls := "NearLiars$Run", name := "heardInAll", desc := "(I)I" } : Jvm.MethodName) ∈ dp_g := dp_at 362 (by decide +kernel) rfl
set_option maxRecDepth 20000 in
theorem dq_363 : Cond.code ({ cls := "NearLiars$Run", name := "heardInAll", desc := "(I)I" } : Jvm.MethodName) prog_5_method_10_code (4 : Nat) (Option.some Jvm.ClassFile.FieldType.int) ∈ dp_g := dp_at 363 rfl rfl
theorem dq_364 : Cond.methodLink "NearLiarsLaw" (57 : Nat) ({ cls := "NearLiars", name := "band", desc := "(II)I" } : Jvm.MethodName) ∈ dp_g := dp_at 364 (by decide +kernel) rfl
theorem dq_365 : Cond.instanceMethod ({ cls := "NearLiars", name := "band", desc := "(II)I" } : Jvm.MethodName) ∈ dp_g := dp_at 365 (by decide +kernel) rfl
theorem dq_366 : Cond.selects "NearLiars" ({ cls := "NearLiars", name := "band", desc := "(II)I" } : Jvm.MethodName) ({ cls := "NearLiars", name := "band", desc := "(II)I" } : Jvm.MethodName) ∈ dp_g := dp_at 366 (by decide +kernel) rfl
set_option maxRecDepth 20000 in
theorem dq_367 : Cond.code ({ cls := "NearLiars", name := "band", desc := "(II)I" } : Jvm.MethodName) prog_1_method_12_code (4 : Nat) (Option.some Jvm.ClassFile.FieldType.int) ∈ dp_g := dp_at 367 rfl rfl
theorem dq_368 : Cond.methodLink "NearLiars" (117 : Nat) ({ cls := "NearLiars$Net", name := "row", desc := "(I)I" } : Jvm.MethodName) ∈ dp_g := dp_at 368 (by decide +kernel) rfl
theorem dq_369 : Cond.instanceMethod ({ cls := "NearLiars$Net", name := "row", desc := "(I)I" } : Jvm.MethodName) ∈ dp_g := dp_at 369 (by decide +kernel) rfl
theorem dq_370 : Cond.selects "NearLiars$Net" ({ cls := "NearLiars$Net", name := "row", desc := "(I)I" } : Jvm.MethodName) ({ cls := "NearLiars$Net", name := "row", desc := "(I)I" } : Jvm.MethodName) ∈ dp_g := dp_at 370 (by decide +kernel) rfl
set_option maxRecDepth 20000 in
theorem dq_371 : Cond.code ({ cls := "NearLiars$Net", name := "row", desc := "(I)I" } : Jvm.MethodName) prog_4_method_9_code (2 : Nat) (Option.some Jvm.ClassFile.FieldType.int) ∈ dp_g := dp_at 371 rfl rfl
theorem dq_372 : Cond.methodLink "NearLiars" (120 : Nat) ({ cls := "NearLiars$Net", name := "liars", desc := "()I" } : Jvm.MethodName) ∈ dp_g := dp_at 372 (by decide +kernel) rfl
theorem dq_373 : Cond.instanceMethod ({ cls := "NearLiars$Net", name := "liars", desc := "()I" } : Jvm.MethodName) ∈ dp_g := dp_at 373 (by decide +kernel) rfl
theorem dq_374 : Cond.selects "NearLiars$Net" ({ cls := "NearLiars$Net", name := "liars", desc := "()I" } : Jvm.MethodName) ({ cls := "NearLiars$Net", name := "liars", desc := "()I" } : Jvm.MethodName) ∈ dp_g := dp_at 374 (by decide +kernel) rfl
set_option maxRecDepth 20000 in
theorem dq_375 : Cond.code ({ cls := "NearLiars$Net", name := "liars", desc := "()I" } : Jvm.MethodName) prog_4_method_10_code (3 : Nat) (Option.some Jvm.ClassFile.FieldType.int) ∈ dp_g := dp_at 375 rfl rfl
theorem dq_376 : Cond.methodLink "NearLiars" (124 : Nat) ({ cls := "java/lang/Integer", name := "bitCount", desc := "(I)I" } : Jvm.MethodName) ∈ dp_g := dp_at 376 (by decide +kernel) rfl
theorem dq_377 : Cond.static ({ cls := "java/lang/Integer", name := "bitCount", desc := "(I)I" } : Jvm.MethodName) ∈ dp_g := dp_at 377 (by decide +kernel) rfl
set_option maxRecDepth 20000 in
theorem dq_378 : Cond.code ({ cls := "java/lang/Integer", name := "bitCount", desc := "(I)I" } : Jvm.MethodName) prog_9_method_49_code (1 : Nat) (Option.some Jvm.ClassFile.FieldType.int) ∈ dp_g := dp_at 378 rfl rfl
theorem dq_379 : Cond.constant "java/lang/Integer" (265 : Nat) (1431655765 : Int32) ∈ dp_g := dp_at 379 (by decide +kernel) rfl
theorem dq_380 : Cond.constant "java/lang/Integer" (266 : Nat) (858993459 : Int32) ∈ dp_g := dp_at 380 (by decide +kernel) rfl
theorem dq_381 : Cond.constant "java/lang/Integer" (267 : Nat) (252645135 : Int32) ∈ dp_g := dp_at 381 (by decide +kernel) rfl
theorem dq_382 : Cond.methodLink "NearLiars" (129 : Nat) ({ cls := "NearLiars$Run", name := "right", desc := "(LNearLiars$Net;I)I" } : Jvm.MethodName) ∈ dp_g := dp_at 382 (by decide +kernel) rfl
theorem dq_383 : Cond.instanceMethod ({ cls := "NearLiars$Run", name := "right", desc := "(LNearLiars$Net;I)I" } : Jvm.MethodName) ∈ dp_g := dp_at 383 (by decide +kernel) rfl
theorem dq_384 : Cond.selects "NearLiars$Run" ({ cls := "NearLiars$Run", name := "right", desc := "(LNearLiars$Net;I)I" } : Jvm.MethodName) ({ cls := "NearLiars$Run", name := "right", desc := "(LNearLiars$Net;I)I" } : Jvm.MethodName) ∈ dp_g := dp_at 384 (by decide +kernel) rfl
set_option maxRecDepth 20000 in
theorem dq_385 : Cond.code ({ cls := "NearLiars$Run", name := "right", desc := "(LNearLiars$Net;I)I" } : Jvm.MethodName) prog_5_method_11_code (5 : Nat) (Option.some Jvm.ClassFile.FieldType.int) ∈ dp_g := dp_at 385 rfl rfl
theorem dq_386 : Cond.methodLink "NearLiars" (133 : Nat) ({ cls := "NearLiars$Run", name := "misled", desc := "(LNearLiars$Net;I)I" } : Jvm.MethodName) ∈ dp_g := dp_at 386 (by decide +kernel) rfl
theorem dq_387 : Cond.instanceMethod ({ cls := "NearLiars$Run", name := "misled", desc := "(LNearLiars$Net;I)I" } : Jvm.MethodName) ∈ dp_g := dp_at 387 (by decide +kernel) rfl
theorem dq_388 : Cond.selects "NearLiars$Run" ({ cls := "NearLiars$Run", name := "misled", desc := "(LNearLiars$Net;I)I" } : Jvm.MethodName) ({ cls := "NearLiars$Run", name := "misled", desc := "(LNearLiars$Net;I)I" } : Jvm.MethodName) ∈ dp_g := dp_at 388 (by decide +kernel) rfl
set_option maxRecDepth 20000 in
theorem dq_389 : Cond.code ({ cls := "NearLiars$Run", name := "misled", desc := "(LNearLiars$Net;I)I" } : Jvm.MethodName) prog_5_method_12_code (5 : Nat) (Option.some Jvm.ClassFile.FieldType.int) ∈ dp_g := dp_at 389 rfl rfl
theorem dq_390 : Cond.methodLink "NearLiars" (136 : Nat) ({ cls := "NearLiars$Run", name := "lastTake", desc := "(LNearLiars$Net;I)I" } : Jvm.MethodName) ∈ dp_g := dp_at 390 (by decide +kernel) rfl
theorem dq_391 : Cond.instanceMethod ({ cls := "NearLiars$Run", name := "lastTake", desc := "(LNearLiars$Net;I)I" } : Jvm.MethodName) ∈ dp_g := dp_at 391 (by decide +kernel) rfl
theorem dq_392 : Cond.selects "NearLiars$Run" ({ cls := "NearLiars$Run", name := "lastTake", desc := "(LNearLiars$Net;I)I" } : Jvm.MethodName) ({ cls := "NearLiars$Run", name := "lastTake", desc := "(LNearLiars$Net;I)I" } : Jvm.MethodName) ∈ dp_g := dp_at 392 (by decide +kernel) rfl
set_option maxRecDepth 20000 in
theorem dq_393 : Cond.code ({ cls := "NearLiars$Run", name := "lastTake", desc := "(LNearLiars$Net;I)I" } : Jvm.MethodName) prog_5_method_13_code (5 : Nat) (Option.some Jvm.ClassFile.FieldType.int) ∈ dp_g := dp_at 393 rfl rfl
theorem dq_394 : Cond.methodLink "NearLiarsLaw" (61 : Nat) ({ cls := "NearLiars", name := "sort", desc := "(I)I" } : Jvm.MethodName) ∈ dp_g := dp_at 394 (by decide +kernel) rfl
theorem dq_395 : Cond.instanceMethod ({ cls := "NearLiars", name := "sort", desc := "(I)I" } : Jvm.MethodName) ∈ dp_g := dp_at 395 (by decide +kernel) rfl
theorem dq_396 : Cond.selects "NearLiars" ({ cls := "NearLiars", name := "sort", desc := "(I)I" } : Jvm.MethodName) ({ cls := "NearLiars", name := "sort", desc := "(I)I" } : Jvm.MethodName) ∈ dp_g := dp_at 396 (by decide +kernel) rfl
set_option maxRecDepth 20000 in
theorem dq_397 : Cond.code ({ cls := "NearLiars", name := "sort", desc := "(I)I" } : Jvm.MethodName) prog_1_method_13_code (2 : Nat) (Option.some Jvm.ClassFile.FieldType.int) ∈ dp_g := dp_at 397 rfl rfl
theorem dq_398 : Cond.methodLink "NearLiars" (139 : Nat) ({ cls := "NearLiars$Net", name := "isSet", desc := "(I)Z" } : Jvm.MethodName) ∈ dp_g := dp_at 398 (by decide +kernel) rfl
theorem dq_399 : Cond.instanceMethod ({ cls := "NearLiars$Net", name := "isSet", desc := "(I)Z" } : Jvm.MethodName) ∈ dp_g := dp_at 399 (by decide +kernel) rfl
theorem dq_400 : Cond.selects "NearLiars$Net" ({ cls := "NearLiars$Net", name := "isSet", desc := "(I)Z" } : Jvm.MethodName) ({ cls := "NearLiars$Net", name := "isSet", desc := "(I)Z" } : Jvm.MethodName) ∈ dp_g := dp_at 400 (by decide +kernel) rfl
set_option maxRecDepth 20000 in
theorem dq_401 : Cond.code ({ cls := "NearLiars$Net", name := "isSet", desc := "(I)Z" } : Jvm.MethodName) prog_4_method_11_code (2 : Nat) (Option.some Jvm.ClassFile.FieldType.boolean) ∈ dp_g := dp_at 401 rfl rfl
theorem dq_402 : Cond.methodLink "NearLiars$Net" (66 : Nat) ({ cls := "NearLiars$Net", name := "all", desc := "()I" } : Jvm.MethodName) ∈ dp_g := dp_at 402 (by decide +kernel) rfl
theorem dq_403 : Cond.instanceMethod ({ cls := "NearLiars$Net", name := "all", desc := "()I" } : Jvm.MethodName) ∈ dp_g := dp_at 403 (by decide +kernel) rfl
theorem dq_404 : Cond.selects "NearLiars$Net" ({ cls := "NearLiars$Net", name := "all", desc := "()I" } : Jvm.MethodName) ({ cls := "NearLiars$Net", name := "all", desc := "()I" } : Jvm.MethodName) ∈ dp_g := dp_at 404 (by decide +kernel) rfl
set_option maxRecDepth 20000 in
theorem dq_405 : Cond.code ({ cls := "NearLiars$Net", name := "all", desc := "()I" } : Jvm.MethodName) prog_4_method_8_code (1 : Nat) (Option.some Jvm.ClassFile.FieldType.int) ∈ dp_g := dp_at 405 rfl rfl
theorem dq_406 : Cond.methodLink "NearLiars" (142 : Nat) ({ cls := "NearLiars$Net", name := "isThin", desc := "(II)Z" } : Jvm.MethodName) ∈ dp_g := dp_at 406 (by decide +kernel) rfl
theorem dq_407 : Cond.instanceMethod ({ cls := "NearLiars$Net", name := "isThin", desc := "(II)Z" } : Jvm.MethodName) ∈ dp_g := dp_at 407 (by decide +kernel) rfl
theorem dq_408 : Cond.selects "NearLiars$Net" ({ cls := "NearLiars$Net", name := "isThin", desc := "(II)Z" } : Jvm.MethodName) ({ cls := "NearLiars$Net", name := "isThin", desc := "(II)Z" } : Jvm.MethodName) ∈ dp_g := dp_at 408 (by decide +kernel) rfl
set_option maxRecDepth 20000 in
theorem dq_409 : Cond.code ({ cls := "NearLiars$Net", name := "isThin", desc := "(II)Z" } : Jvm.MethodName) prog_4_method_13_code (3 : Nat) (Option.some Jvm.ClassFile.FieldType.boolean) ∈ dp_g := dp_at 409 rfl rfl
theorem dq_410 : Cond.methodLink "NearLiars$Net" (70 : Nat) ({ cls := "NearLiars$Net", name := "leastCrowded", desc := "(II)I" } : Jvm.MethodName) ∈ dp_g := dp_at 410 (by decide +kernel) rfl
theorem dq_411 : Cond.instanceMethod ({ cls := "NearLiars$Net", name := "leastCrowded", desc := "(II)I" } : Jvm.MethodName) ∈ dp_g := dp_at 411 (by decide +kernel) rfl
theorem dq_412 : Cond.selects "NearLiars$Net" ({ cls := "NearLiars$Net", name := "leastCrowded", desc := "(II)I" } : Jvm.MethodName) ({ cls := "NearLiars$Net", name := "leastCrowded", desc := "(II)I" } : Jvm.MethodName) ∈ dp_g := dp_at 412 (by decide +kernel) rfl
set_option maxRecDepth 20000 in
theorem dq_413 : Cond.code ({ cls := "NearLiars$Net", name := "leastCrowded", desc := "(II)I" } : Jvm.MethodName) prog_4_method_12_code (4 : Nat) (Option.some Jvm.ClassFile.FieldType.int) ∈ dp_g := dp_at 413 rfl rfl
theorem dq_414 : Cond.methodLink "NearLiars$Net" (61 : Nat) ({ cls := "java/lang/Integer", name := "bitCount", desc := "(I)I" } : Jvm.MethodName) ∈ dp_g := dp_at 414 (by decide +kernel) rfl
theorem dq_415 : Cond.methodLink "NearLiars" (145 : Nat) ({ cls := "NearLiars$Net", name := "cut", desc := "(II)I" } : Jvm.MethodName) ∈ dp_g := dp_at 415 (by decide +kernel) rfl
theorem dq_416 : Cond.instanceMethod ({ cls := "NearLiars$Net", name := "cut", desc := "(II)I" } : Jvm.MethodName) ∈ dp_g := dp_at 416 (by decide +kernel) rfl
theorem dq_417 : Cond.selects "NearLiars$Net" ({ cls := "NearLiars$Net", name := "cut", desc := "(II)I" } : Jvm.MethodName) ({ cls := "NearLiars$Net", name := "cut", desc := "(II)I" } : Jvm.MethodName) ∈ dp_g := dp_at 417 (by decide +kernel) rfl
set_option maxRecDepth 20000 in
theorem dq_418 : Cond.code ({ cls := "NearLiars$Net", name := "cut", desc := "(II)I" } : Jvm.MethodName) prog_4_method_16_code (3 : Nat) (Option.some Jvm.ClassFile.FieldType.int) ∈ dp_g := dp_at 418 rfl rfl
theorem dq_419 : Cond.methodLink "NearLiars$Net" (77 : Nat) ({ cls := "NearLiars$Net", name := "spread", desc := "(II)I" } : Jvm.MethodName) ∈ dp_g := dp_at 419 (by decide +kernel) rfl
theorem dq_420 : Cond.instanceMethod ({ cls := "NearLiars$Net", name := "spread", desc := "(II)I" } : Jvm.MethodName) ∈ dp_g := dp_at 420 (by decide +kernel) rfl
theorem dq_421 : Cond.selects "NearLiars$Net" ({ cls := "NearLiars$Net", name := "spread", desc := "(II)I" } : Jvm.MethodName) ({ cls := "NearLiars$Net", name := "spread", desc := "(II)I" } : Jvm.MethodName) ∈ dp_g := dp_at 421 (by decide +kernel) rfl
set_option maxRecDepth 20000 in
theorem dq_422 : Cond.code ({ cls := "NearLiars$Net", name := "spread", desc := "(II)I" } : Jvm.MethodName) prog_4_method_14_code (6 : Nat) (Option.some Jvm.ClassFile.FieldType.int) ∈ dp_g := dp_at 422 rfl rfl
theorem dq_423 : Cond.methodLink "NearLiars$Net" (74 : Nat) ({ cls := "NearLiars$Net", name := "withJoining", desc := "(III)I" } : Jvm.MethodName) ∈ dp_g := dp_at 423 (by decide +kernel) rfl
theorem dq_425 : Cond.instanceMethod ({ cls := "NearLiars$Net", name := "withJoining", desc := "(III)I" } : Jvm.MethodName) ∈ dp_g := dp_at 425 (by decide +kernel) rfl
set_option maxRecDepth 20000 in
theorem dq_426 : Cond.code ({ cls := "NearLiars$Net", name := "withJoining", desc := "(III)I" } : Jvm.MethodName) prog_4_method_15_code (6 : Nat) (Option.some Jvm.ClassFile.FieldType.int) ∈ dp_g := dp_at 426 rfl rfl
theorem dq_427 : Cond.methodLink "NearLiarsLaw" (65 : Nat) ({ cls := "NearLiars", name := "crowded", desc := "(I)I" } : Jvm.MethodName) ∈ dp_g := dp_at 427 (by decide +kernel) rfl
theorem dq_428 : Cond.instanceMethod ({ cls := "NearLiars", name := "crowded", desc := "(I)I" } : Jvm.MethodName) ∈ dp_g := dp_at 428 (by decide +kernel) rfl
theorem dq_429 : Cond.selects "NearLiars" ({ cls := "NearLiars", name := "crowded", desc := "(I)I" } : Jvm.MethodName) ({ cls := "NearLiars", name := "crowded", desc := "(I)I" } : Jvm.MethodName) ∈ dp_g := dp_at 429 (by decide +kernel) rfl
set_option maxRecDepth 20000 in
theorem dq_430 : Cond.code ({ cls := "NearLiars", name := "crowded", desc := "(I)I" } : Jvm.MethodName) prog_1_method_14_code (2 : Nat) (Option.some Jvm.ClassFile.FieldType.int) ∈ dp_g := dp_at 430 rfl rfl
theorem dq_431 : Cond.methodLink "NearLiars" (148 : Nat) ({ cls := "NearLiars$Net", name := "leastCrowded", desc := "(II)I" } : Jvm.MethodName) ∈ dp_g := dp_at 431 (by decide +kernel) rfl
theorem dq_432 : Cond.methodLink "NearLiarsLaw" (69 : Nat) ({ cls := "NearLiars", name := "reached", desc := "(I)I" } : Jvm.MethodName) ∈ dp_g := dp_at 432 (by decide +kernel) rfl
theorem dq_433 : Cond.instanceMethod ({ cls := "NearLiars", name := "reached", desc := "(I)I" } : Jvm.MethodName) ∈ dp_g := dp_at 433 (by decide +kernel) rfl
theorem dq_434 : Cond.selects "NearLiars" ({ cls := "NearLiars", name := "reached", desc := "(I)I" } : Jvm.MethodName) ({ cls := "NearLiars", name := "reached", desc := "(I)I" } : Jvm.MethodName) ∈ dp_g := dp_at 434 (by decide +kernel) rfl
set_option maxRecDepth 20000 in
theorem dq_435 : Cond.code ({ cls := "NearLiars", name := "reached", desc := "(I)I" } : Jvm.MethodName) prog_1_method_15_code (2 : Nat) (Option.some Jvm.ClassFile.FieldType.int) ∈ dp_g := dp_at 435 rfl rfl
theorem dq_436 : Cond.methodLink "NearLiars" (151 : Nat) ({ cls := "NearLiars$Net", name := "spread", desc := "(II)I" } : Jvm.MethodName) ∈ dp_g := dp_at 436 (by decide +kernel) rfl
theorem dq_437 : Cond.methodLink "NearLiarsLaw" (73 : Nat) ({ cls := "NearLiars", name := "worst", desc := "(I)I" } : Jvm.MethodName) ∈ dp_g := dp_at 437 (by decide +kernel) rfl
theorem dq_438 : Cond.instanceMethod ({ cls := "NearLiars", name := "worst", desc := "(I)I" } : Jvm.MethodName) ∈ dp_g := dp_at 438 (by decide +kernel) rfl
theorem dq_439 : Cond.selects "NearLiars" ({ cls := "NearLiars", name := "worst", desc := "(I)I" } : Jvm.MethodName) ({ cls := "NearLiars", name := "worst", desc := "(I)I" } : Jvm.MethodName) ∈ dp_g := dp_at 439 (by decide +kernel) rfl
set_option maxRecDepth 20000 in
theorem dq_440 : Cond.code ({ cls := "NearLiars", name := "worst", desc := "(I)I" } : Jvm.MethodName) prog_1_method_16_code (2 : Nat) (Option.some Jvm.ClassFile.FieldType.int) ∈ dp_g := dp_at 440 rfl rfl
theorem dq_441 : Cond.methodLink "NearLiars" (154 : Nat) ({ cls := "NearLiars$Survey", name := "take", desc := "(LNearLiars$Net;)V" } : Jvm.MethodName) ∈ dp_g := dp_at 441 (by decide +kernel) rfl
theorem dq_442 : Cond.instanceMethod ({ cls := "NearLiars$Survey", name := "take", desc := "(LNearLiars$Net;)V" } : Jvm.MethodName) ∈ dp_g := dp_at 442 (by decide +kernel) rfl
theorem dq_443 : Cond.selects "NearLiars$Survey" ({ cls := "NearLiars$Survey", name := "take", desc := "(LNearLiars$Net;)V" } : Jvm.MethodName) ({ cls := "NearLiars$Survey", name := "take", desc := "(LNearLiars$Net;)V" } : Jvm.MethodName) ∈ dp_g := dp_at 443 (by decide +kernel) rfl
set_option maxRecDepth 20000 in
theorem dq_444 : Cond.code ({ cls := "NearLiars$Survey", name := "take", desc := "(LNearLiars$Net;)V" } : Jvm.MethodName) prog_6_method_2_code (3 : Nat) (Option.none : Option Jvm.ClassFile.FieldType) ∈ dp_g := dp_at 444 rfl rfl
theorem dq_445 : Cond.methodLink "NearLiars$Survey" (22 : Nat) ({ cls := "NearLiars$Net", name := "all", desc := "()I" } : Jvm.MethodName) ∈ dp_g := dp_at 445 (by decide +kernel) rfl
theorem dq_446 : Cond.methodLink "NearLiars$Survey" (28 : Nat) ({ cls := "NearLiars$Net", name := "isSet", desc := "(I)Z" } : Jvm.MethodName) ∈ dp_g := dp_at 446 (by decide +kernel) rfl
theorem dq_447 : Cond.methodLink "NearLiars$Survey" (35 : Nat) ({ cls := "NearLiars$Net", name := "isThin", desc := "(II)Z" } : Jvm.MethodName) ∈ dp_g := dp_at 447 (by decide +kernel) rfl
theorem dq_448 : Cond.methodLink "NearLiars$Survey" (39 : Nat) ({ cls := "NearLiars$Net", name := "cut", desc := "(II)I" } : Jvm.MethodName) ∈ dp_g := dp_at 448 (by decide +kernel) rfl
theorem dq_449 : Cond.methodLink "NearLiars$Survey" (43 : Nat) ({ cls := "NearLiars$Survey", name := "weigh", desc := "(II)V" } : Jvm.MethodName) ∈ dp_g := dp_at 449 (by decide +kernel) rfl
theorem dq_451 : Cond.instanceMethod ({ cls := "NearLiars$Survey", name := "weigh", desc := "(II)V" } : Jvm.MethodName) ∈ dp_g := dp_at 451 (by decide +kernel) rfl
set_option maxRecDepth 20000 in
theorem dq_452 : Cond.code ({ cls := "NearLiars$Survey", name := "weigh", desc := "(II)V" } : Jvm.MethodName) prog_6_method_3_code (5 : Nat) (Option.none : Option Jvm.ClassFile.FieldType) ∈ dp_g := dp_at 452 rfl rfl
theorem dq_453 : Cond.methodLink "NearLiars$Survey" (47 : Nat) ({ cls := "java/lang/Integer", name := "bitCount", desc := "(I)I" } : Jvm.MethodName) ∈ dp_g := dp_at 453 (by decide +kernel) rfl
theorem dq_454 : Cond.methodLink "NearLiarsLaw" (77 : Nat) ({ cls := "NearLiars", name := "bears", desc := "()I" } : Jvm.MethodName) ∈ dp_g := dp_at 454 (by decide +kernel) rfl
theorem dq_455 : Cond.instanceMethod ({ cls := "NearLiars", name := "bears", desc := "()I" } : Jvm.MethodName) ∈ dp_g := dp_at 455 (by decide +kernel) rfl
theorem dq_456 : Cond.selects "NearLiars" ({ cls := "NearLiars", name := "bears", desc := "()I" } : Jvm.MethodName) ({ cls := "NearLiars", name := "bears", desc := "()I" } : Jvm.MethodName) ∈ dp_g := dp_at 456 (by decide +kernel) rfl
set_option maxRecDepth 20000 in
theorem dq_457 : Cond.code ({ cls := "NearLiars", name := "bears", desc := "()I" } : Jvm.MethodName) prog_1_method_17_code (1 : Nat) (Option.some Jvm.ClassFile.FieldType.int) ∈ dp_g := dp_at 457 rfl rfl
theorem dq_458 : Cond.methodLink "NearLiars" (169 : Nat) ({ cls := "NearLiars$Net", name := "greatestBorne", desc := "()I" } : Jvm.MethodName) ∈ dp_g := dp_at 458 (by decide +kernel) rfl
theorem dq_459 : Cond.instanceMethod ({ cls := "NearLiars$Net", name := "greatestBorne", desc := "()I" } : Jvm.MethodName) ∈ dp_g := dp_at 459 (by decide +kernel) rfl
theorem dq_460 : Cond.selects "NearLiars$Net" ({ cls := "NearLiars$Net", name := "greatestBorne", desc := "()I" } : Jvm.MethodName) ({ cls := "NearLiars$Net", name := "greatestBorne", desc := "()I" } : Jvm.MethodName) ∈ dp_g := dp_at 460 (by decide +kernel) rfl
set_option maxRecDepth 20000 in
theorem dq_461 : Cond.code ({ cls := "NearLiars$Net", name := "greatestBorne", desc := "()I" } : Jvm.MethodName) prog_4_method_17_code (3 : Nat) (Option.some Jvm.ClassFile.FieldType.int) ∈ dp_g := dp_at 461 rfl rfl
theorem dq_462 : Cond.methodLink "NearLiars$Net" (80 : Nat) ({ cls := "NearLiars$Net", name := "isSet", desc := "(I)Z" } : Jvm.MethodName) ∈ dp_g := dp_at 462 (by decide +kernel) rfl
theorem dq_463 : Cond.methodLink "NearLiars$Net" (84 : Nat) ({ cls := "NearLiars$Net", name := "isThin", desc := "(II)Z" } : Jvm.MethodName) ∈ dp_g := dp_at 463 (by decide +kernel) rfl
theorem dq_464 : Cond.methodLink "NearLiars$Net" (87 : Nat) ({ cls := "NearLiars$Net", name := "cut", desc := "(II)I" } : Jvm.MethodName) ∈ dp_g := dp_at 464 (by decide +kernel) rfl
theorem dq_465 : Cond.methodLink "NearLiarsLaw" (81 : Nat) ({ cls := "NearLiars", name := "name", desc := "(I)I" } : Jvm.MethodName) ∈ dp_g := dp_at 465 (by decide +kernel) rfl
theorem dq_466 : Cond.instanceMethod ({ cls := "NearLiars", name := "name", desc := "(I)I" } : Jvm.MethodName) ∈ dp_g := dp_at 466 (by decide +kernel) rfl
theorem dq_467 : Cond.selects "NearLiars" ({ cls := "NearLiars", name := "name", desc := "(I)I" } : Jvm.MethodName) ({ cls := "NearLiars", name := "name", desc := "(I)I" } : Jvm.MethodName) ∈ dp_g := dp_at 467 (by decide +kernel) rfl
set_option maxRecDepth 20000 in
theorem dq_468 : Cond.code ({ cls := "NearLiars", name := "name", desc := "(I)I" } : Jvm.MethodName) prog_1_method_18_code (3 : Nat) (Option.some Jvm.ClassFile.FieldType.int) ∈ dp_g := dp_at 468 rfl rfl
theorem dq_469 : Cond.methodLink "NearLiars" (172 : Nat) ({ cls := "NearLiars$Names", name := "place", desc := "(I)I" } : Jvm.MethodName) ∈ dp_g := dp_at 469 (by decide +kernel) rfl
theorem dq_470 : Cond.instanceMethod ({ cls := "NearLiars$Names", name := "place", desc := "(I)I" } : Jvm.MethodName) ∈ dp_g := dp_at 470 (by decide +kernel) rfl
theorem dq_471 : Cond.selects "NearLiars$Names" ({ cls := "NearLiars$Names", name := "place", desc := "(I)I" } : Jvm.MethodName) ({ cls := "NearLiars$Names", name := "place", desc := "(I)I" } : Jvm.MethodName) ∈ dp_g := dp_at 471 (by decide +kernel) rfl
set_option maxRecDepth 20000 in
theorem dq_472 : Cond.code ({ cls := "NearLiars$Names", name := "place", desc := "(I)I" } : Jvm.MethodName) prog_3_method_3_code (3 : Nat) (Option.some Jvm.ClassFile.FieldType.int) ∈ dp_g := dp_at 472 rfl rfl
theorem dq_473 : Cond.methodLink "NearLiars$Names" (19 : Nat) ({ cls := "java/lang/System", name := "arraycopy", desc := "(Ljava/lang/Object;ILjava/lang/Object;II)V" } : Jvm.MethodName) ∈ dp_g := dp_at 473 (by decide +kernel) rfl
theorem dq_474 : Cond.static ({ cls := "java/lang/System", name := "arraycopy", desc := "(Ljava/lang/Object;ILjava/lang/Object;II)V" } : Jvm.MethodName) ∈ dp_g := dp_at 474 (by decide +kernel) rfl
theorem dq_475 : Cond.native ({ cls := "java/lang/System", name := "arraycopy", desc := "(Ljava/lang/Object;ILjava/lang/Object;II)V" } : Jvm.MethodName) ∈ dp_g := dp_at 475 (by decide +kernel) rfl
theorem dq_476 : Cond.methodLink "NearLiarsLaw" (85 : Nat) ({ cls := "NearLiars", name := "named", desc := "(I)I" } : Jvm.MethodName) ∈ dp_g := dp_at 476 (by decide +kernel) rfl
theorem dq_477 : Cond.instanceMethod ({ cls := "NearLiars", name := "named", desc := "(I)I" } : Jvm.MethodName) ∈ dp_g := dp_at 477 (by decide +kernel) rfl
theorem dq_478 : Cond.selects "NearLiars" ({ cls := "NearLiars", name := "named", desc := "(I)I" } : Jvm.MethodName) ({ cls := "NearLiars", name := "named", desc := "(I)I" } : Jvm.MethodName) ∈ dp_g := dp_at 478 (by decide +kernel) rfl
set_option maxRecDepth 20000 in
theorem dq_479 : Cond.code ({ cls := "NearLiars", name := "named", desc := "(I)I" } : Jvm.MethodName) prog_1_method_19_code (2 : Nat) (Option.some Jvm.ClassFile.FieldType.int) ∈ dp_g := dp_at 479 rfl rfl
theorem dq_480 : Cond.methodLink "NearLiarsLaw" (89 : Nat) ({ cls := "NearLiars", name := "walk", desc := "(I)I" } : Jvm.MethodName) ∈ dp_g := dp_at 480 (by decide +kernel) rfl
theorem dq_481 : Cond.instanceMethod ({ cls := "NearLiars", name := "walk", desc := "(I)I" } : Jvm.MethodName) ∈ dp_g := dp_at 481 (by decide +kernel) rfl
theorem dq_482 : Cond.selects "NearLiars" ({ cls := "NearLiars", name := "walk", desc := "(I)I" } : Jvm.MethodName) ({ cls := "NearLiars", name := "walk", desc := "(I)I" } : Jvm.MethodName) ∈ dp_g := dp_at 482 (by decide +kernel) rfl
set_option maxRecDepth 20000 in
theorem dq_483 : Cond.code ({ cls := "NearLiars", name := "walk", desc := "(I)I" } : Jvm.MethodName) prog_1_method_20_code (2 : Nat) (Option.some Jvm.ClassFile.FieldType.int) ∈ dp_g := dp_at 483 rfl rfl
theorem dq_484 : Cond.methodLink "NearLiars" (181 : Nat) ({ cls := "NearLiars$Claims", name := "canStep", desc := "(LNearLiars$Net;I)Z" } : Jvm.MethodName) ∈ dp_g := dp_at 484 (by decide +kernel) rfl
theorem dq_485 : Cond.instanceMethod ({ cls := "NearLiars$Claims", name := "canStep", desc := "(LNearLiars$Net;I)Z" } : Jvm.MethodName) ∈ dp_g := dp_at 485 (by decide +kernel) rfl
theorem dq_486 : Cond.selects "NearLiars$Claims" ({ cls := "NearLiars$Claims", name := "canStep", desc := "(LNearLiars$Net;I)Z" } : Jvm.MethodName) ({ cls := "NearLiars$Claims", name := "canStep", desc := "(LNearLiars$Net;I)Z" } : Jvm.MethodName) ∈ dp_g := dp_at 486 (by decide +kernel) rfl
set_option maxRecDepth 20000 in
theorem dq_487 : Cond.code ({ cls := "NearLiars$Claims", name := "canStep", desc := "(LNearLiars$Net;I)Z" } : Jvm.MethodName) prog_2_method_4_code (3 : Nat) (Option.some Jvm.ClassFile.FieldType.boolean) ∈ dp_g := dp_at 487 rfl rfl
theorem dq_488 : Cond.methodLink "NearLiars$Claims" (48 : Nat) ({ cls := "NearLiars$Net", name := "areLinked", desc := "(II)Z" } : Jvm.MethodName) ∈ dp_g := dp_at 488 (by decide +kernel) rfl
theorem dq_489 : Cond.methodLinkNest "NearLiars$Claims" (52 : Nat) ({ cls := "NearLiars", name := "isIn", desc := "(II)Z" } : Jvm.MethodName) "NearLiars" ∈ dp_nw := dp_nat 489 (by decide +kernel) rfl
theorem dq_490 : Cond.methodLink "NearLiars" (185 : Nat) ({ cls := "NearLiars$Claims", name := "step", desc := "(I)I" } : Jvm.MethodName) ∈ dp_g := dp_at 490 (by decide +kernel) rfl
theorem dq_491 : Cond.instanceMethod ({ cls := "NearLiars$Claims", name := "step", desc := "(I)I" } : Jvm.MethodName) ∈ dp_g := dp_at 491 (by decide +kernel) rfl
theorem dq_492 : Cond.selects "NearLiars$Claims" ({ cls := "NearLiars$Claims", name := "step", desc := "(I)I" } : Jvm.MethodName) ({ cls := "NearLiars$Claims", name := "step", desc := "(I)I" } : Jvm.MethodName) ∈ dp_g := dp_at 492 (by decide +kernel) rfl
set_option maxRecDepth 20000 in
theorem dq_493 : Cond.code ({ cls := "NearLiars$Claims", name := "step", desc := "(I)I" } : Jvm.MethodName) prog_2_method_5_code (2 : Nat) (Option.some Jvm.ClassFile.FieldType.int) ∈ dp_g := dp_at 493 rfl rfl
theorem dq_494 : Cond.methodLink "NearLiarsLaw" (93 : Nat) ({ cls := "NearLiars", name := "tell", desc := "(I)I" } : Jvm.MethodName) ∈ dp_g := dp_at 494 (by decide +kernel) rfl
theorem dq_495 : Cond.instanceMethod ({ cls := "NearLiars", name := "tell", desc := "(I)I" } : Jvm.MethodName) ∈ dp_g := dp_at 495 (by decide +kernel) rfl
theorem dq_496 : Cond.selects "NearLiars" ({ cls := "NearLiars", name := "tell", desc := "(I)I" } : Jvm.MethodName) ({ cls := "NearLiars", name := "tell", desc := "(I)I" } : Jvm.MethodName) ∈ dp_g := dp_at 496 (by decide +kernel) rfl
set_option maxRecDepth 20000 in
theorem dq_497 : Cond.code ({ cls := "NearLiars", name := "tell", desc := "(I)I" } : Jvm.MethodName) prog_1_method_21_code (2 : Nat) (Option.some Jvm.ClassFile.FieldType.int) ∈ dp_g := dp_at 497 rfl rfl
theorem dq_498 : Cond.methodLink "NearLiars" (191 : Nat) ({ cls := "NearLiars$Claims", name := "isTold", desc := "(I)Z" } : Jvm.MethodName) ∈ dp_g := dp_at 498 (by decide +kernel) rfl
theorem dq_499 : Cond.instanceMethod ({ cls := "NearLiars$Claims", name := "isTold", desc := "(I)Z" } : Jvm.MethodName) ∈ dp_g := dp_at 499 (by decide +kernel) rfl
theorem dq_500 : Cond.selects "NearLiars$Claims" ({ cls := "NearLiars$Claims", name := "isTold", desc := "(I)Z" } : Jvm.MethodName) ({ cls := "NearLiars$Claims", name := "isTold", desc := "(I)Z" } : Jvm.MethodName) ∈ dp_g := dp_at 500 (by decide +kernel) rfl
set_option maxRecDepth 20000 in
theorem dq_501 : Cond.code ({ cls := "NearLiars$Claims", name := "isTold", desc := "(I)Z" } : Jvm.MethodName) prog_2_method_6_code (3 : Nat) (Option.some Jvm.ClassFile.FieldType.boolean) ∈ dp_g := dp_at 501 rfl rfl
theorem dq_502 : Cond.methodLink "NearLiars$Claims" (55 : Nat) ({ cls := "NearLiars$Claims", name := "isInHand", desc := "(I)Z" } : Jvm.MethodName) ∈ dp_g := dp_at 502 (by decide +kernel) rfl
theorem dq_504 : Cond.instanceMethod ({ cls := "NearLiars$Claims", name := "isInHand", desc := "(I)Z" } : Jvm.MethodName) ∈ dp_g := dp_at 504 (by decide +kernel) rfl
set_option maxRecDepth 20000 in
theorem dq_505 : Cond.code ({ cls := "NearLiars$Claims", name := "isInHand", desc := "(I)Z" } : Jvm.MethodName) prog_2_method_7_code (3 : Nat) (Option.some Jvm.ClassFile.FieldType.boolean) ∈ dp_g := dp_at 505 rfl rfl
theorem dq_506 : Cond.methodLink "NearLiars" (194 : Nat) ({ cls := "NearLiars$Claims", name := "keep", desc := "(I)I" } : Jvm.MethodName) ∈ dp_g := dp_at 506 (by decide +kernel) rfl
theorem dq_507 : Cond.instanceMethod ({ cls := "NearLiars$Claims", name := "keep", desc := "(I)I" } : Jvm.MethodName) ∈ dp_g := dp_at 507 (by decide +kernel) rfl
theorem dq_508 : Cond.selects "NearLiars$Claims" ({ cls := "NearLiars$Claims", name := "keep", desc := "(I)I" } : Jvm.MethodName) ({ cls := "NearLiars$Claims", name := "keep", desc := "(I)I" } : Jvm.MethodName) ∈ dp_g := dp_at 508 (by decide +kernel) rfl
set_option maxRecDepth 20000 in
theorem dq_509 : Cond.code ({ cls := "NearLiars$Claims", name := "keep", desc := "(I)I" } : Jvm.MethodName) prog_2_method_8_code (2 : Nat) (Option.some Jvm.ClassFile.FieldType.int) ∈ dp_g := dp_at 509 rfl rfl
theorem dq_510 : Cond.methodLink "NearLiars$Claims" (59 : Nat) ({ cls := "NearLiars$Claims", name := "forgetOldest", desc := "()V" } : Jvm.MethodName) ∈ dp_g := dp_at 510 (by decide +kernel) rfl
theorem dq_512 : Cond.instanceMethod ({ cls := "NearLiars$Claims", name := "forgetOldest", desc := "()V" } : Jvm.MethodName) ∈ dp_g := dp_at 512 (by decide +kernel) rfl
set_option maxRecDepth 20000 in
theorem dq_513 : Cond.code ({ cls := "NearLiars$Claims", name := "forgetOldest", desc := "()V" } : Jvm.MethodName) prog_2_method_9_code (1 : Nat) (Option.none : Option Jvm.ClassFile.FieldType) ∈ dp_g := dp_at 513 rfl rfl
theorem dq_514 : Cond.methodLink "NearLiars$Claims" (62 : Nat) ({ cls := "java/lang/System", name := "arraycopy", desc := "(Ljava/lang/Object;ILjava/lang/Object;II)V" } : Jvm.MethodName) ∈ dp_g := dp_at 514 (by decide +kernel) rfl
theorem dq_515 : Cond.methodLink "NearLiarsLaw" (97 : Nat) ({ cls := "NearLiars", name := "drop", desc := "()I" } : Jvm.MethodName) ∈ dp_g := dp_at 515 (by decide +kernel) rfl
theorem dq_516 : Cond.instanceMethod ({ cls := "NearLiars", name := "drop", desc := "()I" } : Jvm.MethodName) ∈ dp_g := dp_at 516 (by decide +kernel) rfl
theorem dq_517 : Cond.selects "NearLiars" ({ cls := "NearLiars", name := "drop", desc := "()I" } : Jvm.MethodName) ({ cls := "NearLiars", name := "drop", desc := "()I" } : Jvm.MethodName) ∈ dp_g := dp_at 517 (by decide +kernel) rfl
set_option maxRecDepth 20000 in
theorem dq_518 : Cond.code ({ cls := "NearLiars", name := "drop", desc := "()I" } : Jvm.MethodName) prog_1_method_22_code (2 : Nat) (Option.some Jvm.ClassFile.FieldType.int) ∈ dp_g := dp_at 518 rfl rfl
theorem dq_519 : Cond.methodLink "NearLiars" (197 : Nat) ({ cls := "NearLiars$Claims", name := "letGo", desc := "()V" } : Jvm.MethodName) ∈ dp_g := dp_at 519 (by decide +kernel) rfl
theorem dq_520 : Cond.methodLink "NearLiarsLaw" (101 : Nat) ({ cls := "NearLiars", name := "claim", desc := "(II)I" } : Jvm.MethodName) ∈ dp_g := dp_at 520 (by decide +kernel) rfl
theorem dq_521 : Cond.instanceMethod ({ cls := "NearLiars", name := "claim", desc := "(II)I" } : Jvm.MethodName) ∈ dp_g := dp_at 521 (by decide +kernel) rfl
theorem dq_522 : Cond.selects "NearLiars" ({ cls := "NearLiars", name := "claim", desc := "(II)I" } : Jvm.MethodName) ({ cls := "NearLiars", name := "claim", desc := "(II)I" } : Jvm.MethodName) ∈ dp_g := dp_at 522 (by decide +kernel) rfl
set_option maxRecDepth 20000 in
theorem dq_523 : Cond.code ({ cls := "NearLiars", name := "claim", desc := "(II)I" } : Jvm.MethodName) prog_1_method_23_code (3 : Nat) (Option.some Jvm.ClassFile.FieldType.int) ∈ dp_g := dp_at 523 rfl rfl
theorem dq_524 : Cond.methodLink "NearLiars" (201 : Nat) ({ cls := "NearLiars$Claims", name := "placeOf", desc := "(II)I" } : Jvm.MethodName) ∈ dp_g := dp_at 524 (by decide +kernel) rfl
theorem dq_525 : Cond.instanceMethod ({ cls := "NearLiars$Claims", name := "placeOf", desc := "(II)I" } : Jvm.MethodName) ∈ dp_g := dp_at 525 (by decide +kernel) rfl
theorem dq_526 : Cond.selects "NearLiars$Claims" ({ cls := "NearLiars$Claims", name := "placeOf", desc := "(II)I" } : Jvm.MethodName) ({ cls := "NearLiars$Claims", name := "placeOf", desc := "(II)I" } : Jvm.MethodName) ∈ dp_g := dp_at 526 (by decide +kernel) rfl
set_option maxRecDepth 20000 in
theorem dq_527 : Cond.code ({ cls := "NearLiars$Claims", name := "placeOf", desc := "(II)I" } : Jvm.MethodName) prog_2_method_10_code (3 : Nat) (Option.some Jvm.ClassFile.FieldType.int) ∈ dp_g := dp_at 527 rfl rfl
theorem dq_528 : Cond.methodLink "NearLiarsLaw" (105 : Nat) ({ cls := "NearLiars", name := "proof", desc := "(II)I" } : Jvm.MethodName) ∈ dp_g := dp_at 528 (by decide +kernel) rfl
theorem dq_529 : Cond.instanceMethod ({ cls := "NearLiars", name := "proof", desc := "(II)I" } : Jvm.MethodName) ∈ dp_g := dp_at 529 (by decide +kernel) rfl
theorem dq_530 : Cond.selects "NearLiars" ({ cls := "NearLiars", name := "proof", desc := "(II)I" } : Jvm.MethodName) ({ cls := "NearLiars", name := "proof", desc := "(II)I" } : Jvm.MethodName) ∈ dp_g := dp_at 530 (by decide +kernel) rfl
set_option maxRecDepth 20000 in
theorem dq_531 : Cond.code ({ cls := "NearLiars", name := "proof", desc := "(II)I" } : Jvm.MethodName) prog_1_method_24_code (3 : Nat) (Option.some Jvm.ClassFile.FieldType.int) ∈ dp_g := dp_at 531 rfl rfl
theorem dq_532 : Cond.methodLink "NearLiars" (213 : Nat) ({ cls := "NearLiars$Claims", name := "mostApart", desc := "(II)I" } : Jvm.MethodName) ∈ dp_g := dp_at 532 (by decide +kernel) rfl
theorem dq_533 : Cond.instanceMethod ({ cls := "NearLiars$Claims", name := "mostApart", desc := "(II)I" } : Jvm.MethodName) ∈ dp_g := dp_at 533 (by decide +kernel) rfl
theorem dq_534 : Cond.selects "NearLiars$Claims" ({ cls := "NearLiars$Claims", name := "mostApart", desc := "(II)I" } : Jvm.MethodName) ({ cls := "NearLiars$Claims", name := "mostApart", desc := "(II)I" } : Jvm.MethodName) ∈ dp_g := dp_at 534 (by decide +kernel) rfl
set_option maxRecDepth 20000 in
theorem dq_535 : Cond.code ({ cls := "NearLiars$Claims", name := "mostApart", desc := "(II)I" } : Jvm.MethodName) prog_2_method_11_code (7 : Nat) (Option.some Jvm.ClassFile.FieldType.int) ∈ dp_g := dp_at 535 rfl rfl
theorem dq_536 : Cond.methodLink "NearLiars$Claims" (68 : Nat) ({ cls := "NearLiars$Claims", name := "gatherInner", desc := "(II)I" } : Jvm.MethodName) ∈ dp_g := dp_at 536 (by decide +kernel) rfl
theorem dq_538 : Cond.instanceMethod ({ cls := "NearLiars$Claims", name := "gatherInner", desc := "(II)I" } : Jvm.MethodName) ∈ dp_g := dp_at 538 (by decide +kernel) rfl
set_option maxRecDepth 20000 in
theorem dq_539 : Cond.code ({ cls := "NearLiars$Claims", name := "gatherInner", desc := "(II)I" } : Jvm.MethodName) prog_2_method_12_code (5 : Nat) (Option.some Jvm.ClassFile.FieldType.int) ∈ dp_g := dp_at 539 rfl rfl
theorem dq_540 : Cond.methodLink "NearLiars$Claims" (81 : Nat) ({ cls := "NearLiars$Claims", name := "placeOf", desc := "(II)I" } : Jvm.MethodName) ∈ dp_g := dp_at 540 (by decide +kernel) rfl
theorem dq_541 : Cond.methodLink "NearLiars$Claims" (72 : Nat) ({ cls := "java/lang/Integer", name := "bitCount", desc := "(I)I" } : Jvm.MethodName) ∈ dp_g := dp_at 541 (by decide +kernel) rfl
theorem dq_542 : Cond.methodLink "NearLiars$Claims" (78 : Nat) ({ cls := "NearLiars$Claims", name := "areApart", desc := "(II)Z" } : Jvm.MethodName) ∈ dp_g := dp_at 542 (by decide +kernel) rfl
theorem dq_544 : Cond.instanceMethod ({ cls := "NearLiars$Claims", name := "areApart", desc := "(II)Z" } : Jvm.MethodName) ∈ dp_g := dp_at 544 (by decide +kernel) rfl
set_option maxRecDepth 20000 in
theorem dq_545 : Cond.code ({ cls := "NearLiars$Claims", name := "areApart", desc := "(II)Z" } : Jvm.MethodName) prog_2_method_13_code (5 : Nat) (Option.some Jvm.ClassFile.FieldType.boolean) ∈ dp_g := dp_at 545 rfl rfl
theorem dq_546 : Cond.methodLink "NearLiarsLaw" (109 : Nat) ({ cls := "NearLiars", name := "believes", desc := "(I)I" } : Jvm.MethodName) ∈ dp_g := dp_at 546 (by decide +kernel) rfl
theorem dq_547 : Cond.instanceMethod ({ cls := "NearLiars", name := "believes", desc := "(I)I" } : Jvm.MethodName) ∈ dp_g := dp_at 547 (by decide +kernel) rfl
theorem dq_548 : Cond.selects "NearLiars" ({ cls := "NearLiars", name := "believes", desc := "(I)I" } : Jvm.MethodName) ({ cls := "NearLiars", name := "believes", desc := "(I)I" } : Jvm.MethodName) ∈ dp_g := dp_at 548 (by decide +kernel) rfl
set_option maxRecDepth 20000 in
theorem dq_549 : Cond.code ({ cls := "NearLiars", name := "believes", desc := "(I)I" } : Jvm.MethodName) prog_1_method_25_code (2 : Nat) (Option.some Jvm.ClassFile.FieldType.int) ∈ dp_g := dp_at 549 rfl rfl
theorem dq_550 : Cond.methodLink "NearLiars" (216 : Nat) ({ cls := "NearLiars$Claims", name := "soleGreatest", desc := "(II)I" } : Jvm.MethodName) ∈ dp_g := dp_at 550 (by decide +kernel) rfl
theorem dq_551 : Cond.instanceMethod ({ cls := "NearLiars$Claims", name := "soleGreatest", desc := "(II)I" } : Jvm.MethodName) ∈ dp_g := dp_at 551 (by decide +kernel) rfl
theorem dq_552 : Cond.selects "NearLiars$Claims" ({ cls := "NearLiars$Claims", name := "soleGreatest", desc := "(II)I" } : Jvm.MethodName) ({ cls := "NearLiars$Claims", name := "soleGreatest", desc := "(II)I" } : Jvm.MethodName) ∈ dp_g := dp_at 552 (by decide +kernel) rfl
set_option maxRecDepth 20000 in
theorem dq_553 : Cond.code ({ cls := "NearLiars$Claims", name := "soleGreatest", desc := "(II)I" } : Jvm.MethodName) prog_2_method_14_code (7 : Nat) (Option.some Jvm.ClassFile.FieldType.int) ∈ dp_g := dp_at 553 rfl rfl
theorem dq_554 : Cond.methodLink "NearLiars$Claims" (84 : Nat) ({ cls := "NearLiars$Claims", name := "mostApart", desc := "(II)I" } : Jvm.MethodName) ∈ dp_g := dp_at 554 (by decide +kernel) rfl
theorem dq_555 : Cond.methodLink "NearLiarsLaw" (113 : Nat) ({ cls := "NearLiars", name := "many", desc := "(I)I" } : Jvm.MethodName) ∈ dp_g := dp_at 555 (by decide +kernel) rfl
theorem dq_556 : Cond.instanceMethod ({ cls := "NearLiars", name := "many", desc := "(I)I" } : Jvm.MethodName) ∈ dp_g := dp_at 556 (by decide +kernel) rfl
theorem dq_557 : Cond.selects "NearLiars" ({ cls := "NearLiars", name := "many", desc := "(I)I" } : Jvm.MethodName) ({ cls := "NearLiars", name := "many", desc := "(I)I" } : Jvm.MethodName) ∈ dp_g := dp_at 557 (by decide +kernel) rfl
set_option maxRecDepth 20000 in
theorem dq_558 : Cond.code ({ cls := "NearLiars", name := "many", desc := "(I)I" } : Jvm.MethodName) prog_1_method_26_code (3 : Nat) (Option.some Jvm.ClassFile.FieldType.int) ∈ dp_g := dp_at 558 rfl rfl
theorem dq_559 : Cond.methodLink "NearLiars" (219 : Nat) ({ cls := "NearLiars$Net", name := "all", desc := "()I" } : Jvm.MethodName) ∈ dp_g := dp_at 559 (by decide +kernel) rfl
theorem dq_560 : Cond.methodLink "NearLiars" (223 : Nat) ({ cls := "NearLiars$Net", name := "pairs", desc := "()I" } : Jvm.MethodName) ∈ dp_g := dp_at 560 (by decide +kernel) rfl
theorem dq_561 : Cond.instanceMethod ({ cls := "NearLiars$Net", name := "pairs", desc := "()I" } : Jvm.MethodName) ∈ dp_g := dp_at 561 (by decide +kernel) rfl
theorem dq_562 : Cond.selects "NearLiars$Net" ({ cls := "NearLiars$Net", name := "pairs", desc := "()I" } : Jvm.MethodName) ({ cls := "NearLiars$Net", name := "pairs", desc := "()I" } : Jvm.MethodName) ∈ dp_g := dp_at 562 (by decide +kernel) rfl
set_option maxRecDepth 20000 in
theorem dq_563 : Cond.code ({ cls := "NearLiars$Net", name := "pairs", desc := "()I" } : Jvm.MethodName) prog_4_method_7_code (3 : Nat) (Option.some Jvm.ClassFile.FieldType.int) ∈ dp_g := dp_at 563 rfl rfl
theorem dq_564 : Cond.classLink "NearLiarsLaw" (10 : Nat) "NearLiarsModel" ∈ dp_g := dp_at 564 (by decide +kernel) rfl
theorem dq_565 : Cond.instantiable "NearLiarsModel" (26 : Nat) ∈ dp_g := dp_at 565 (by decide +kernel) rfl
theorem dq_566 : Cond.methodLink "NearLiarsLaw" (12 : Nat) ({ cls := "NearLiarsModel", name := "<init>", desc := "()V" } : Jvm.MethodName) ∈ dp_g := dp_at 566 (by decide +kernel) rfl
theorem dq_567 : Cond.instanceMethod ({ cls := "NearLiarsModel", name := "<init>", desc := "()V" } : Jvm.MethodName) ∈ dp_g := dp_at 567 (by decide +kernel) rfl
set_option maxRecDepth 20000 in
theorem dq_568 : Cond.code ({ cls := "NearLiarsModel", name := "<init>", desc := "()V" } : Jvm.MethodName) prog_8_method_1_code (2 : Nat) (Option.none : Option Jvm.ClassFile.FieldType) ∈ dp_g := dp_at 568 rfl rfl
theorem dq_569 : Cond.methodLink "NearLiarsModel" (1 : Nat) ({ cls := "java/lang/Object", name := "<init>", desc := "()V" } : Jvm.MethodName) ∈ dp_g := dp_at 569 (by decide +kernel) rfl
theorem dq_570 : Cond.methodLink "NearLiarsModel" (60 : Nat) ({ cls := "NearLiarsModel", name := "begins", desc := "()V" } : Jvm.MethodName) ∈ dp_g := dp_at 570 (by decide +kernel) rfl
theorem dq_572 : Cond.instanceMethod ({ cls := "NearLiarsModel", name := "begins", desc := "()V" } : Jvm.MethodName) ∈ dp_g := dp_at 572 (by decide +kernel) rfl
set_option maxRecDepth 20000 in
theorem dq_573 : Cond.code ({ cls := "NearLiarsModel", name := "begins", desc := "()V" } : Jvm.MethodName) prog_8_method_18_code (2 : Nat) (Option.none : Option Jvm.ClassFile.FieldType) ∈ dp_g := dp_at 573 rfl rfl
theorem dq_574 : Cond.methodLink "NearLiarsModel" (106 : Nat) ({ cls := "NearLiarsModel", name := "dealsSlots", desc := "()V" } : Jvm.MethodName) ∈ dp_g := dp_at 574 (by decide +kernel) rfl
theorem dq_576 : Cond.instanceMethod ({ cls := "NearLiarsModel", name := "dealsSlots", desc := "()V" } : Jvm.MethodName) ∈ dp_g := dp_at 576 (by decide +kernel) rfl
set_option maxRecDepth 20000 in
theorem dq_577 : Cond.code ({ cls := "NearLiarsModel", name := "dealsSlots", desc := "()V" } : Jvm.MethodName) prog_8_method_17_code (3 : Nat) (Option.none : Option Jvm.ClassFile.FieldType) ∈ dp_g := dp_at 577 rfl rfl
theorem dq_578 : Cond.methodLink "NearLiarsModel" (103 : Nat) ({ cls := "NearLiarsModel", name := "isFreeSlot", desc := "(II)Z" } : Jvm.MethodName) ∈ dp_g := dp_at 578 (by decide +kernel) rfl
theorem dq_580 : Cond.instanceMethod ({ cls := "NearLiarsModel", name := "isFreeSlot", desc := "(II)Z" } : Jvm.MethodName) ∈ dp_g := dp_at 580 (by decide +kernel) rfl
set_option maxRecDepth 20000 in
theorem dq_581 : Cond.code ({ cls := "NearLiarsModel", name := "isFreeSlot", desc := "(II)Z" } : Jvm.MethodName) prog_8_method_16_code (4 : Nat) (Option.some Jvm.ClassFile.FieldType.boolean) ∈ dp_g := dp_at 581 rfl rfl
theorem dq_582 : Cond.methodLink "NearLiarsModel" (97 : Nat) ({ cls := "NearLiarsModel", name := "isApart", desc := "(II)Z" } : Jvm.MethodName) ∈ dp_g := dp_at 582 (by decide +kernel) rfl
theorem dq_584 : Cond.instanceMethod ({ cls := "NearLiarsModel", name := "isApart", desc := "(II)Z" } : Jvm.MethodName) ∈ dp_g := dp_at 584 (by decide +kernel) rfl
set_option maxRecDepth 20000 in
theorem dq_585 : Cond.code ({ cls := "NearLiarsModel", name := "isApart", desc := "(II)Z" } : Jvm.MethodName) prog_8_method_15_code (3 : Nat) (Option.some Jvm.ClassFile.FieldType.boolean) ∈ dp_g := dp_at 585 rfl rfl
theorem dq_586 : Cond.methodLink "NearLiarsModel" (93 : Nat) ({ cls := "NearLiarsModel", name := "has", desc := "(II)Z" } : Jvm.MethodName) ∈ dp_g := dp_at 586 (by decide +kernel) rfl
theorem dq_587 : Cond.static ({ cls := "NearLiarsModel", name := "has", desc := "(II)Z" } : Jvm.MethodName) ∈ dp_g := dp_at 587 (by decide +kernel) rfl
set_option maxRecDepth 20000 in
theorem dq_588 : Cond.code ({ cls := "NearLiarsModel", name := "has", desc := "(II)Z" } : Jvm.MethodName) prog_8_method_3_code (2 : Nat) (Option.some Jvm.ClassFile.FieldType.boolean) ∈ dp_g := dp_at 588 rfl rfl
theorem dq_589 : Cond.fieldLink "NearLiarsModel" (7 : Nat) "NearLiarsModel" "nodes" "I" ∈ dp_g := dp_at 589 (by decide +kernel) rfl
theorem dq_590 : Cond.fieldLink "NearLiarsModel" (13 : Nat) "NearLiarsModel" "columns" "I" ∈ dp_g := dp_at 590 (by decide +kernel) rfl
theorem dq_591 : Cond.fieldLink "NearLiarsModel" (16 : Nat) "NearLiarsModel" "rows" "I" ∈ dp_g := dp_at 591 (by decide +kernel) rfl
theorem dq_592 : Cond.fieldLink "NearLiarsModel" (19 : Nat) "NearLiarsModel" "near" "[I" ∈ dp_g := dp_at 592 (by decide +kernel) rfl
theorem dq_593 : Cond.fieldLink "NearLiarsModel" (67 : Nat) "NearLiarsModel" "dealer" "I" ∈ dp_g := dp_at 593 (by decide +kernel) rfl
theorem dq_594 : Cond.fieldLink "NearLiarsModel" (90 : Nat) "NearLiarsModel" "value" "I" ∈ dp_g := dp_at 594 (by decide +kernel) rfl
theorem dq_595 : Cond.fieldLink "NearLiarsModel" (23 : Nat) "NearLiarsModel" "need" "I" ∈ dp_g := dp_at 595 (by decide +kernel) rfl
theorem dq_596 : Cond.fieldLink "NearLiarsModel" (26 : Nat) "NearLiarsModel" "lieOf" "[I" ∈ dp_g := dp_at 596 (by decide +kernel) rfl
theorem dq_597 : Cond.fieldLink "NearLiarsModel" (29 : Nat) "NearLiarsModel" "slotOf" "[I" ∈ dp_g := dp_at 597 (by decide +kernel) rfl
theorem dq_598 : Cond.fieldLink "NearLiarsModel" (100 : Nat) "NearLiarsModel" "round" "I" ∈ dp_g := dp_at 598 (by decide +kernel) rfl
theorem dq_599 : Cond.fieldLink "NearLiarsModel" (109 : Nat) "NearLiarsModel" "over" "I" ∈ dp_g := dp_at 599 (by decide +kernel) rfl
theorem dq_600 : Cond.fieldLink "NearLiarsModel" (32 : Nat) "NearLiarsModel" "tookWhat" "[I" ∈ dp_g := dp_at 600 (by decide +kernel) rfl
theorem dq_601 : Cond.fieldLink "NearLiarsModel" (35 : Nat) "NearLiarsModel" "tookWhen" "[I" ∈ dp_g := dp_at 601 (by decide +kernel) rfl
theorem dq_602 : Cond.fieldLink "NearLiarsModel" (38 : Nat) "NearLiarsModel" "hasSpoken" "[Z" ∈ dp_g := dp_at 602 (by decide +kernel) rfl
theorem dq_603 : Cond.fieldLink "NearLiarsModel" (42 : Nat) "NearLiarsModel" "heard" "[I" ∈ dp_g := dp_at 603 (by decide +kernel) rfl
theorem dq_604 : Cond.fieldLink "NearLiarsModel" (152 : Nat) "NearLiarsModel" "worstSet" "I" ∈ dp_g := dp_at 604 (by decide +kernel) rfl
theorem dq_605 : Cond.fieldLink "NearLiarsModel" (155 : Nat) "NearLiarsModel" "thin" "I" ∈ dp_g := dp_at 605 (by decide +kernel) rfl
theorem dq_606 : Cond.fieldLink "NearLiarsModel" (158 : Nat) "NearLiarsModel" "stopping" "I" ∈ dp_g := dp_at 606 (by decide +kernel) rfl
theorem dq_607 : Cond.fieldLink "NearLiarsModel" (70 : Nat) "NearLiarsModel" "cuts" "I" ∈ dp_g := dp_at 607 (by decide +kernel) rfl
theorem dq_608 : Cond.fieldLink "NearLiarsModel" (45 : Nat) "NearLiarsModel" "cutOf" "[I" ∈ dp_g := dp_at 608 (by decide +kernel) rfl
theorem dq_609 : Cond.fieldLink "NearLiarsModel" (76 : Nat) "NearLiarsModel" "wayLong" "I" ∈ dp_g := dp_at 609 (by decide +kernel) rfl
theorem dq_610 : Cond.fieldLink "NearLiarsModel" (48 : Nat) "NearLiarsModel" "way" "[I" ∈ dp_g := dp_at 610 (by decide +kernel) rfl
theorem dq_611 : Cond.fieldLink "NearLiarsModel" (79 : Nat) "NearLiarsModel" "claims" "I" ∈ dp_g := dp_at 611 (by decide +kernel) rfl
theorem dq_612 : Cond.fieldLink "NearLiarsModel" (51 : Nat) "NearLiarsModel" "claimValue" "[I" ∈ dp_g := dp_at 612 (by decide +kernel) rfl
theorem dq_613 : Cond.fieldLink "NearLiarsModel" (54 : Nat) "NearLiarsModel" "claimLong" "[I" ∈ dp_g := dp_at 613 (by decide +kernel) rfl
theorem dq_614 : Cond.fieldLink "NearLiarsModel" (57 : Nat) "NearLiarsModel" "claimWay" "[I" ∈ dp_g := dp_at 614 (by decide +kernel) rfl
theorem dq_668 : Cond.arrayClass Jvm.ClassFile.FieldType.boolean ∈ dp_g := dp_at 668 (by decide +kernel) rfl
theorem dq_669 : Cond.methodLink "NearLiarsLaw" (17 : Nat) ({ cls := "NearLiarsModel", name := "net", desc := "(I)I" } : Jvm.MethodName) ∈ dp_g := dp_at 669 (by decide +kernel) rfl
theorem dq_670 : Cond.instanceMethod ({ cls := "NearLiarsModel", name := "net", desc := "(I)I" } : Jvm.MethodName) ∈ dp_g := dp_at 670 (by decide +kernel) rfl
theorem dq_671 : Cond.selects "NearLiarsModel" ({ cls := "NearLiarsModel", name := "net", desc := "(I)I" } : Jvm.MethodName) ({ cls := "NearLiarsModel", name := "net", desc := "(I)I" } : Jvm.MethodName) ∈ dp_g := dp_at 671 (by decide +kernel) rfl
set_option maxRecDepth 20000 in
theorem dq_672 : Cond.code ({ cls := "NearLiarsModel", name := "net", desc := "(I)I" } : Jvm.MethodName) prog_8_method_8_code (2 : Nat) (Option.some Jvm.ClassFile.FieldType.int) ∈ dp_g := dp_at 672 rfl rfl
theorem dq_673 : Cond.methodLink "NearLiarsModel" (63 : Nat) ({ cls := "NearLiarsModel", name := "within", desc := "(III)Z" } : Jvm.MethodName) ∈ dp_g := dp_at 673 (by decide +kernel) rfl
theorem dq_674 : Cond.static ({ cls := "NearLiarsModel", name := "within", desc := "(III)Z" } : Jvm.MethodName) ∈ dp_g := dp_at 674 (by decide +kernel) rfl
set_option maxRecDepth 20000 in
theorem dq_675 : Cond.code ({ cls := "NearLiarsModel", name := "within", desc := "(III)Z" } : Jvm.MethodName) prog_8_method_2_code (3 : Nat) (Option.some Jvm.ClassFile.FieldType.boolean) ∈ dp_g := dp_at 675 rfl rfl
theorem dq_676 : Cond.methodLink "NearLiarsModel" (82 : Nat) ({ cls := "NearLiarsModel", name := "lays", desc := "(III)V" } : Jvm.MethodName) ∈ dp_g := dp_at 676 (by decide +kernel) rfl
theorem dq_678 : Cond.instanceMethod ({ cls := "NearLiarsModel", name := "lays", desc := "(III)V" } : Jvm.MethodName) ∈ dp_g := dp_at 678 (by decide +kernel) rfl
set_option maxRecDepth 20000 in
theorem dq_679 : Cond.code ({ cls := "NearLiarsModel", name := "lays", desc := "(III)V" } : Jvm.MethodName) prog_8_method_6_code (5 : Nat) (Option.none : Option Jvm.ClassFile.FieldType) ∈ dp_g := dp_at 679 rfl rfl
theorem dq_680 : Cond.methodLink "NearLiarsModel" (73 : Nat) ({ cls := "NearLiarsModel", name := "forgets", desc := "()V" } : Jvm.MethodName) ∈ dp_g := dp_at 680 (by decide +kernel) rfl
theorem dq_682 : Cond.instanceMethod ({ cls := "NearLiarsModel", name := "forgets", desc := "()V" } : Jvm.MethodName) ∈ dp_g := dp_at 682 (by decide +kernel) rfl
set_option maxRecDepth 20000 in
theorem dq_683 : Cond.code ({ cls := "NearLiarsModel", name := "forgets", desc := "()V" } : Jvm.MethodName) prog_8_method_7_code (1 : Nat) (Option.none : Option Jvm.ClassFile.FieldType) ∈ dp_g := dp_at 683 rfl rfl
theorem dq_684 : Cond.methodLink "NearLiarsLaw" (22 : Nat) ({ cls := "NearLiarsModel", name := "grid", desc := "(III)I" } : Jvm.MethodName) ∈ dp_g := dp_at 684 (by decide +kernel) rfl
theorem dq_685 : Cond.instanceMethod ({ cls := "NearLiarsModel", name := "grid", desc := "(III)I" } : Jvm.MethodName) ∈ dp_g := dp_at 685 (by decide +kernel) rfl
theorem dq_686 : Cond.selects "NearLiarsModel" ({ cls := "NearLiarsModel", name := "grid", desc := "(III)I" } : Jvm.MethodName) ({ cls := "NearLiarsModel", name := "grid", desc := "(III)I" } : Jvm.MethodName) ∈ dp_g := dp_at 686 (by decide +kernel) rfl
set_option maxRecDepth 20000 in
theorem dq_687 : Cond.code ({ cls := "NearLiarsModel", name := "grid", desc := "(III)I" } : Jvm.MethodName) prog_8_method_9_code (8 : Nat) (Option.some Jvm.ClassFile.FieldType.int) ∈ dp_g := dp_at 687 rfl rfl
theorem dq_688 : Cond.methodLink "NearLiarsLaw" (26 : Nat) ({ cls := "NearLiarsModel", name := "edge", desc := "(III)I" } : Jvm.MethodName) ∈ dp_g := dp_at 688 (by decide +kernel) rfl
theorem dq_689 : Cond.instanceMethod ({ cls := "NearLiarsModel", name := "edge", desc := "(III)I" } : Jvm.MethodName) ∈ dp_g := dp_at 689 (by decide +kernel) rfl
theorem dq_690 : Cond.selects "NearLiarsModel" ({ cls := "NearLiarsModel", name := "edge", desc := "(III)I" } : Jvm.MethodName) ({ cls := "NearLiarsModel", name := "edge", desc := "(III)I" } : Jvm.MethodName) ∈ dp_g := dp_at 690 (by decide +kernel) rfl
set_option maxRecDepth 20000 in
theorem dq_691 : Cond.code ({ cls := "NearLiarsModel", name := "edge", desc := "(III)I" } : Jvm.MethodName) prog_8_method_10_code (5 : Nat) (Option.some Jvm.ClassFile.FieldType.int) ∈ dp_g := dp_at 691 rfl rfl
theorem dq_692 : Cond.methodLink "NearLiarsModel" (86 : Nat) ({ cls := "NearLiarsModel", name := "isNode", desc := "(I)Z" } : Jvm.MethodName) ∈ dp_g := dp_at 692 (by decide +kernel) rfl
theorem dq_694 : Cond.instanceMethod ({ cls := "NearLiarsModel", name := "isNode", desc := "(I)Z" } : Jvm.MethodName) ∈ dp_g := dp_at 694 (by decide +kernel) rfl
set_option maxRecDepth 20000 in
theorem dq_695 : Cond.code ({ cls := "NearLiarsModel", name := "isNode", desc := "(I)Z" } : Jvm.MethodName) prog_8_method_5_code (2 : Nat) (Option.some Jvm.ClassFile.FieldType.boolean) ∈ dp_g := dp_at 695 rfl rfl
theorem dq_696 : Cond.methodLink "NearLiarsLaw" (30 : Nat) ({ cls := "NearLiarsModel", name := "neighbours", desc := "(I)I" } : Jvm.MethodName) ∈ dp_g := dp_at 696 (by decide +kernel) rfl
theorem dq_697 : Cond.instanceMethod ({ cls := "NearLiarsModel", name := "neighbours", desc := "(I)I" } : Jvm.MethodName) ∈ dp_g := dp_at 697 (by decide +kernel) rfl
theorem dq_698 : Cond.selects "NearLiarsModel" ({ cls := "NearLiarsModel", name := "neighbours", desc := "(I)I" } : Jvm.MethodName) ({ cls := "NearLiarsModel", name := "neighbours", desc := "(I)I" } : Jvm.MethodName) ∈ dp_g := dp_at 698 (by decide +kernel) rfl
set_option maxRecDepth 20000 in
theorem dq_699 : Cond.code ({ cls := "NearLiarsModel", name := "neighbours", desc := "(I)I" } : Jvm.MethodName) prog_8_method_11_code (2 : Nat) (Option.some Jvm.ClassFile.FieldType.int) ∈ dp_g := dp_at 699 rfl rfl
theorem dq_700 : Cond.methodLink "NearLiarsLaw" (35 : Nat) ({ cls := "NearLiarsModel", name := "dealer", desc := "(II)I" } : Jvm.MethodName) ∈ dp_g := dp_at 700 (by decide +kernel) rfl
theorem dq_701 : Cond.instanceMethod ({ cls := "NearLiarsModel", name := "dealer", desc := "(II)I" } : Jvm.MethodName) ∈ dp_g := dp_at 701 (by decide +kernel) rfl
theorem dq_702 : Cond.selects "NearLiarsModel" ({ cls := "NearLiarsModel", name := "dealer", desc := "(II)I" } : Jvm.MethodName) ({ cls := "NearLiarsModel", name := "dealer", desc := "(II)I" } : Jvm.MethodName) ∈ dp_g := dp_at 702 (by decide +kernel) rfl
set_option maxRecDepth 20000 in
theorem dq_703 : Cond.code ({ cls := "NearLiarsModel", name := "dealer", desc := "(II)I" } : Jvm.MethodName) prog_8_method_12_code (4 : Nat) (Option.some Jvm.ClassFile.FieldType.int) ∈ dp_g := dp_at 703 rfl rfl
theorem dq_704 : Cond.methodLink "NearLiarsLaw" (39 : Nat) ({ cls := "NearLiarsModel", name := "need", desc := "(I)I" } : Jvm.MethodName) ∈ dp_g := dp_at 704 (by decide +kernel) rfl
theorem dq_705 : Cond.instanceMethod ({ cls := "NearLiarsModel", name := "need", desc := "(I)I" } : Jvm.MethodName) ∈ dp_g := dp_at 705 (by decide +kernel) rfl
theorem dq_706 : Cond.selects "NearLiarsModel" ({ cls := "NearLiarsModel", name := "need", desc := "(I)I" } : Jvm.MethodName) ({ cls := "NearLiarsModel", name := "need", desc := "(I)I" } : Jvm.MethodName) ∈ dp_g := dp_at 706 (by decide +kernel) rfl
set_option maxRecDepth 20000 in
theorem dq_707 : Cond.code ({ cls := "NearLiarsModel", name := "need", desc := "(I)I" } : Jvm.MethodName) prog_8_method_13_code (3 : Nat) (Option.some Jvm.ClassFile.FieldType.int) ∈ dp_g := dp_at 707 rfl rfl
theorem dq_708 : Cond.methodLink "NearLiarsLaw" (43 : Nat) ({ cls := "NearLiarsModel", name := "lie", desc := "(II)I" } : Jvm.MethodName) ∈ dp_g := dp_at 708 (by decide +kernel) rfl
theorem dq_709 : Cond.instanceMethod ({ cls := "NearLiarsModel", name := "lie", desc := "(II)I" } : Jvm.MethodName) ∈ dp_g := dp_at 709 (by decide +kernel) rfl
theorem dq_710 : Cond.selects "NearLiarsModel" ({ cls := "NearLiarsModel", name := "lie", desc := "(II)I" } : Jvm.MethodName) ({ cls := "NearLiarsModel", name := "lie", desc := "(II)I" } : Jvm.MethodName) ∈ dp_g := dp_at 710 (by decide +kernel) rfl
set_option maxRecDepth 20000 in
theorem dq_711 : Cond.code ({ cls := "NearLiarsModel", name := "lie", desc := "(II)I" } : Jvm.MethodName) prog_8_method_14_code (4 : Nat) (Option.some Jvm.ClassFile.FieldType.int) ∈ dp_g := dp_at 711 rfl rfl
theorem dq_712 : Cond.methodLink "NearLiarsLaw" (48 : Nat) ({ cls := "NearLiarsModel", name := "begin", desc := "()I" } : Jvm.MethodName) ∈ dp_g := dp_at 712 (by decide +kernel) rfl
theorem dq_713 : Cond.instanceMethod ({ cls := "NearLiarsModel", name := "begin", desc := "()I" } : Jvm.MethodName) ∈ dp_g := dp_at 713 (by decide +kernel) rfl
theorem dq_714 : Cond.selects "NearLiarsModel" ({ cls := "NearLiarsModel", name := "begin", desc := "()I" } : Jvm.MethodName) ({ cls := "NearLiarsModel", name := "begin", desc := "()I" } : Jvm.MethodName) ∈ dp_g := dp_at 714 (by decide +kernel) rfl
set_option maxRecDepth 20000 in
theorem dq_715 : Cond.code ({ cls := "NearLiarsModel", name := "begin", desc := "()I" } : Jvm.MethodName) prog_8_method_19_code (2 : Nat) (Option.some Jvm.ClassFile.FieldType.int) ∈ dp_g := dp_at 715 rfl rfl
theorem dq_716 : Cond.methodLink "NearLiarsLaw" (52 : Nat) ({ cls := "NearLiarsModel", name := "ticks", desc := "(I)I" } : Jvm.MethodName) ∈ dp_g := dp_at 716 (by decide +kernel) rfl
theorem dq_717 : Cond.instanceMethod ({ cls := "NearLiarsModel", name := "ticks", desc := "(I)I" } : Jvm.MethodName) ∈ dp_g := dp_at 717 (by decide +kernel) rfl
theorem dq_718 : Cond.selects "NearLiarsModel" ({ cls := "NearLiarsModel", name := "ticks", desc := "(I)I" } : Jvm.MethodName) ({ cls := "NearLiarsModel", name := "ticks", desc := "(I)I" } : Jvm.MethodName) ∈ dp_g := dp_at 718 (by decide +kernel) rfl
set_option maxRecDepth 20000 in
theorem dq_719 : Cond.code ({ cls := "NearLiarsModel", name := "ticks", desc := "(I)I" } : Jvm.MethodName) prog_8_method_24_code (4 : Nat) (Option.some Jvm.ClassFile.FieldType.int) ∈ dp_g := dp_at 719 rfl rfl
theorem dq_720 : Cond.methodLink "NearLiarsModel" (126 : Nat) ({ cls := "NearLiarsModel", name := "tick", desc := "()I" } : Jvm.MethodName) ∈ dp_g := dp_at 720 (by decide +kernel) rfl
theorem dq_722 : Cond.instanceMethod ({ cls := "NearLiarsModel", name := "tick", desc := "()I" } : Jvm.MethodName) ∈ dp_g := dp_at 722 (by decide +kernel) rfl
set_option maxRecDepth 20000 in
theorem dq_723 : Cond.code ({ cls := "NearLiarsModel", name := "tick", desc := "()I" } : Jvm.MethodName) prog_8_method_23_code (4 : Nat) (Option.some Jvm.ClassFile.FieldType.int) ∈ dp_g := dp_at 723 rfl rfl
theorem dq_724 : Cond.methodLink "NearLiarsModel" (119 : Nat) ({ cls := "NearLiarsModel", name := "says", desc := "(I)I" } : Jvm.MethodName) ∈ dp_g := dp_at 724 (by decide +kernel) rfl
theorem dq_726 : Cond.instanceMethod ({ cls := "NearLiarsModel", name := "says", desc := "(I)I" } : Jvm.MethodName) ∈ dp_g := dp_at 726 (by decide +kernel) rfl
set_option maxRecDepth 20000 in
theorem dq_727 : Cond.code ({ cls := "NearLiarsModel", name := "says", desc := "(I)I" } : Jvm.MethodName) prog_8_method_21_code (2 : Nat) (Option.some Jvm.ClassFile.FieldType.int) ∈ dp_g := dp_at 727 rfl rfl
theorem dq_728 : Cond.methodLink "NearLiarsModel" (112 : Nat) ({ cls := "NearLiarsModel", name := "isHonest", desc := "(I)Z" } : Jvm.MethodName) ∈ dp_g := dp_at 728 (by decide +kernel) rfl
theorem dq_730 : Cond.instanceMethod ({ cls := "NearLiarsModel", name := "isHonest", desc := "(I)Z" } : Jvm.MethodName) ∈ dp_g := dp_at 730 (by decide +kernel) rfl
set_option maxRecDepth 20000 in
theorem dq_731 : Cond.code ({ cls := "NearLiarsModel", name := "isHonest", desc := "(I)Z" } : Jvm.MethodName) prog_8_method_20_code (2 : Nat) (Option.some Jvm.ClassFile.FieldType.boolean) ∈ dp_g := dp_at 731 rfl rfl
theorem dq_732 : Cond.methodLink "NearLiarsModel" (122 : Nat) ({ cls := "NearLiarsModel", name := "speaks", desc := "(II)I" } : Jvm.MethodName) ∈ dp_g := dp_at 732 (by decide +kernel) rfl
theorem dq_734 : Cond.instanceMethod ({ cls := "NearLiarsModel", name := "speaks", desc := "(II)I" } : Jvm.MethodName) ∈ dp_g := dp_at 734 (by decide +kernel) rfl
set_option maxRecDepth 20000 in
theorem dq_735 : Cond.code ({ cls := "NearLiarsModel", name := "speaks", desc := "(II)I" } : Jvm.MethodName) prog_8_method_22_code (6 : Nat) (Option.some Jvm.ClassFile.FieldType.int) ∈ dp_g := dp_at 735 rfl rfl
theorem dq_736 : Cond.methodLink "NearLiarsModel" (115 : Nat) ({ cls := "NearLiarsModel", name := "size", desc := "(I)I" } : Jvm.MethodName) ∈ dp_g := dp_at 736 (by decide +kernel) rfl
theorem dq_737 : Cond.static ({ cls := "NearLiarsModel", name := "size", desc := "(I)I" } : Jvm.MethodName) ∈ dp_g := dp_at 737 (by decide +kernel) rfl
set_option maxRecDepth 20000 in
theorem dq_738 : Cond.code ({ cls := "NearLiarsModel", name := "size", desc := "(I)I" } : Jvm.MethodName) prog_8_method_4_code (3 : Nat) (Option.some Jvm.ClassFile.FieldType.int) ∈ dp_g := dp_at 738 rfl rfl
theorem dq_739 : Cond.methodLink "NearLiarsLaw" (56 : Nat) ({ cls := "NearLiarsModel", name := "node", desc := "(II)I" } : Jvm.MethodName) ∈ dp_g := dp_at 739 (by decide +kernel) rfl
theorem dq_740 : Cond.instanceMethod ({ cls := "NearLiarsModel", name := "node", desc := "(II)I" } : Jvm.MethodName) ∈ dp_g := dp_at 740 (by decide +kernel) rfl
theorem dq_741 : Cond.selects "NearLiarsModel" ({ cls := "NearLiarsModel", name := "node", desc := "(II)I" } : Jvm.MethodName) ({ cls := "NearLiarsModel", name := "node", desc := "(II)I" } : Jvm.MethodName) ∈ dp_g := dp_at 741 (by decide +kernel) rfl
set_option maxRecDepth 20000 in
theorem dq_742 : Cond.code ({ cls := "NearLiarsModel", name := "node", desc := "(II)I" } : Jvm.MethodName) prog_8_method_26_code (3 : Nat) (Option.some Jvm.ClassFile.FieldType.int) ∈ dp_g := dp_at 742 rfl rfl
theorem dq_743 : Cond.methodLink "NearLiarsModel" (130 : Nat) ({ cls := "NearLiarsModel", name := "heardBy", desc := "(I)I" } : Jvm.MethodName) ∈ dp_g := dp_at 743 (by decide +kernel) rfl
theorem dq_745 : Cond.instanceMethod ({ cls := "NearLiarsModel", name := "heardBy", desc := "(I)I" } : Jvm.MethodName) ∈ dp_g := dp_at 745 (by decide +kernel) rfl
set_option maxRecDepth 20000 in
theorem dq_746 : Cond.code ({ cls := "NearLiarsModel", name := "heardBy", desc := "(I)I" } : Jvm.MethodName) prog_8_method_25_code (4 : Nat) (Option.some Jvm.ClassFile.FieldType.int) ∈ dp_g := dp_at 746 rfl rfl
theorem dq_747 : Cond.methodLink "NearLiarsLaw" (60 : Nat) ({ cls := "NearLiarsModel", name := "band", desc := "(II)I" } : Jvm.MethodName) ∈ dp_g := dp_at 747 (by decide +kernel) rfl
theorem dq_748 : Cond.instanceMethod ({ cls := "NearLiarsModel", name := "band", desc := "(II)I" } : Jvm.MethodName) ∈ dp_g := dp_at 748 (by decide +kernel) rfl
theorem dq_749 : Cond.selects "NearLiarsModel" ({ cls := "NearLiarsModel", name := "band", desc := "(II)I" } : Jvm.MethodName) ({ cls := "NearLiarsModel", name := "band", desc := "(II)I" } : Jvm.MethodName) ∈ dp_g := dp_at 749 (by decide +kernel) rfl
set_option maxRecDepth 20000 in
theorem dq_750 : Cond.code ({ cls := "NearLiarsModel", name := "band", desc := "(II)I" } : Jvm.MethodName) prog_8_method_29_code (4 : Nat) (Option.some Jvm.ClassFile.FieldType.int) ∈ dp_g := dp_at 750 rfl rfl
theorem dq_751 : Cond.methodLink "NearLiarsModel" (133 : Nat) ({ cls := "NearLiarsModel", name := "lastIn", desc := "(II)I" } : Jvm.MethodName) ∈ dp_g := dp_at 751 (by decide +kernel) rfl
theorem dq_753 : Cond.instanceMethod ({ cls := "NearLiarsModel", name := "lastIn", desc := "(II)I" } : Jvm.MethodName) ∈ dp_g := dp_at 753 (by decide +kernel) rfl
set_option maxRecDepth 20000 in
theorem dq_754 : Cond.code ({ cls := "NearLiarsModel", name := "lastIn", desc := "(II)I" } : Jvm.MethodName) prog_8_method_28_code (5 : Nat) (Option.some Jvm.ClassFile.FieldType.int) ∈ dp_g := dp_at 754 rfl rfl
theorem dq_755 : Cond.methodLink "NearLiarsModel" (136 : Nat) ({ cls := "NearLiarsModel", name := "manyHonest", desc := "(III)I" } : Jvm.MethodName) ∈ dp_g := dp_at 755 (by decide +kernel) rfl
theorem dq_757 : Cond.instanceMethod ({ cls := "NearLiarsModel", name := "manyHonest", desc := "(III)I" } : Jvm.MethodName) ∈ dp_g := dp_at 757 (by decide +kernel) rfl
set_option maxRecDepth 20000 in
theorem dq_758 : Cond.code ({ cls := "NearLiarsModel", name := "manyHonest", desc := "(III)I" } : Jvm.MethodName) prog_8_method_27_code (8 : Nat) (Option.some Jvm.ClassFile.FieldType.int) ∈ dp_g := dp_at 758 rfl rfl
theorem dq_759 : Cond.methodLink "NearLiarsLaw" (64 : Nat) ({ cls := "NearLiarsModel", name := "sort", desc := "(I)I" } : Jvm.MethodName) ∈ dp_g := dp_at 759 (by decide +kernel) rfl
theorem dq_760 : Cond.instanceMethod ({ cls := "NearLiarsModel", name := "sort", desc := "(I)I" } : Jvm.MethodName) ∈ dp_g := dp_at 760 (by decide +kernel) rfl
theorem dq_761 : Cond.selects "NearLiarsModel" ({ cls := "NearLiarsModel", name := "sort", desc := "(I)I" } : Jvm.MethodName) ({ cls := "NearLiarsModel", name := "sort", desc := "(I)I" } : Jvm.MethodName) ∈ dp_g := dp_at 761 (by decide +kernel) rfl
set_option maxRecDepth 20000 in
theorem dq_762 : Cond.code ({ cls := "NearLiarsModel", name := "sort", desc := "(I)I" } : Jvm.MethodName) prog_8_method_34_code (2 : Nat) (Option.some Jvm.ClassFile.FieldType.int) ∈ dp_g := dp_at 762 rfl rfl
theorem dq_763 : Cond.methodLink "NearLiarsModel" (143 : Nat) ({ cls := "NearLiarsModel", name := "isSet", desc := "(I)Z" } : Jvm.MethodName) ∈ dp_g := dp_at 763 (by decide +kernel) rfl
theorem dq_765 : Cond.instanceMethod ({ cls := "NearLiarsModel", name := "isSet", desc := "(I)Z" } : Jvm.MethodName) ∈ dp_g := dp_at 765 (by decide +kernel) rfl
set_option maxRecDepth 20000 in
theorem dq_766 : Cond.code ({ cls := "NearLiarsModel", name := "isSet", desc := "(I)Z" } : Jvm.MethodName) prog_8_method_30_code (2 : Nat) (Option.some Jvm.ClassFile.FieldType.boolean) ∈ dp_g := dp_at 766 rfl rfl
theorem dq_767 : Cond.methodLink "NearLiarsModel" (146 : Nat) ({ cls := "NearLiarsModel", name := "crowdedBy", desc := "(II)I" } : Jvm.MethodName) ∈ dp_g := dp_at 767 (by decide +kernel) rfl
theorem dq_769 : Cond.instanceMethod ({ cls := "NearLiarsModel", name := "crowdedBy", desc := "(II)I" } : Jvm.MethodName) ∈ dp_g := dp_at 769 (by decide +kernel) rfl
set_option maxRecDepth 20000 in
theorem dq_770 : Cond.code ({ cls := "NearLiarsModel", name := "crowdedBy", desc := "(II)I" } : Jvm.MethodName) prog_8_method_31_code (4 : Nat) (Option.some Jvm.ClassFile.FieldType.int) ∈ dp_g := dp_at 770 rfl rfl
theorem dq_771 : Cond.methodLink "NearLiarsModel" (149 : Nat) ({ cls := "NearLiarsModel", name := "cutBy", desc := "(II)I" } : Jvm.MethodName) ∈ dp_g := dp_at 771 (by decide +kernel) rfl
theorem dq_773 : Cond.instanceMethod ({ cls := "NearLiarsModel", name := "cutBy", desc := "(II)I" } : Jvm.MethodName) ∈ dp_g := dp_at 773 (by decide +kernel) rfl
set_option maxRecDepth 20000 in
theorem dq_774 : Cond.code ({ cls := "NearLiarsModel", name := "cutBy", desc := "(II)I" } : Jvm.MethodName) prog_8_method_33_code (3 : Nat) (Option.some Jvm.ClassFile.FieldType.int) ∈ dp_g := dp_at 774 rfl rfl
theorem dq_775 : Cond.methodLink "NearLiarsModel" (140 : Nat) ({ cls := "NearLiarsModel", name := "reachedBy", desc := "(II)I" } : Jvm.MethodName) ∈ dp_g := dp_at 775 (by decide +kernel) rfl
theorem dq_777 : Cond.instanceMethod ({ cls := "NearLiarsModel", name := "reachedBy", desc := "(II)I" } : Jvm.MethodName) ∈ dp_g := dp_at 777 (by decide +kernel) rfl
set_option maxRecDepth 20000 in
theorem dq_778 : Cond.code ({ cls := "NearLiarsModel", name := "reachedBy", desc := "(II)I" } : Jvm.MethodName) prog_8_method_32_code (6 : Nat) (Option.some Jvm.ClassFile.FieldType.int) ∈ dp_g := dp_at 778 rfl rfl
theorem dq_779 : Cond.methodLink "NearLiarsLaw" (68 : Nat) ({ cls := "NearLiarsModel", name := "crowded", desc := "(I)I" } : Jvm.MethodName) ∈ dp_g := dp_at 779 (by decide +kernel) rfl
theorem dq_780 : Cond.instanceMethod ({ cls := "NearLiarsModel", name := "crowded", desc := "(I)I" } : Jvm.MethodName) ∈ dp_g := dp_at 780 (by decide +kernel) rfl
theorem dq_781 : Cond.selects "NearLiarsModel" ({ cls := "NearLiarsModel", name := "crowded", desc := "(I)I" } : Jvm.MethodName) ({ cls := "NearLiarsModel", name := "crowded", desc := "(I)I" } : Jvm.MethodName) ∈ dp_g := dp_at 781 (by decide +kernel) rfl
set_option maxRecDepth 20000 in
theorem dq_782 : Cond.code ({ cls := "NearLiarsModel", name := "crowded", desc := "(I)I" } : Jvm.MethodName) prog_8_method_35_code (2 : Nat) (Option.some Jvm.ClassFile.FieldType.int) ∈ dp_g := dp_at 782 rfl rfl
theorem dq_783 : Cond.methodLink "NearLiarsLaw" (72 : Nat) ({ cls := "NearLiarsModel", name := "reached", desc := "(I)I" } : Jvm.MethodName) ∈ dp_g := dp_at 783 (by decide +kernel) rfl
theorem dq_784 : Cond.instanceMethod ({ cls := "NearLiarsModel", name := "reached", desc := "(I)I" } : Jvm.MethodName) ∈ dp_g := dp_at 784 (by decide +kernel) rfl
theorem dq_785 : Cond.selects "NearLiarsModel" ({ cls := "NearLiarsModel", name := "reached", desc := "(I)I" } : Jvm.MethodName) ({ cls := "NearLiarsModel", name := "reached", desc := "(I)I" } : Jvm.MethodName) ∈ dp_g := dp_at 785 (by decide +kernel) rfl
set_option maxRecDepth 20000 in
theorem dq_786 : Cond.code ({ cls := "NearLiarsModel", name := "reached", desc := "(I)I" } : Jvm.MethodName) prog_8_method_36_code (2 : Nat) (Option.some Jvm.ClassFile.FieldType.int) ∈ dp_g := dp_at 786 rfl rfl
theorem dq_787 : Cond.methodLink "NearLiarsLaw" (76 : Nat) ({ cls := "NearLiarsModel", name := "worst", desc := "(I)I" } : Jvm.MethodName) ∈ dp_g := dp_at 787 (by decide +kernel) rfl
theorem dq_788 : Cond.instanceMethod ({ cls := "NearLiarsModel", name := "worst", desc := "(I)I" } : Jvm.MethodName) ∈ dp_g := dp_at 788 (by decide +kernel) rfl
theorem dq_789 : Cond.selects "NearLiarsModel" ({ cls := "NearLiarsModel", name := "worst", desc := "(I)I" } : Jvm.MethodName) ({ cls := "NearLiarsModel", name := "worst", desc := "(I)I" } : Jvm.MethodName) ∈ dp_g := dp_at 789 (by decide +kernel) rfl
set_option maxRecDepth 20000 in
theorem dq_790 : Cond.code ({ cls := "NearLiarsModel", name := "worst", desc := "(I)I" } : Jvm.MethodName) prog_8_method_38_code (2 : Nat) (Option.some Jvm.ClassFile.FieldType.int) ∈ dp_g := dp_at 790 rfl rfl
theorem dq_791 : Cond.methodLink "NearLiarsModel" (161 : Nat) ({ cls := "NearLiarsModel", name := "triesSets", desc := "(I)V" } : Jvm.MethodName) ∈ dp_g := dp_at 791 (by decide +kernel) rfl
theorem dq_793 : Cond.instanceMethod ({ cls := "NearLiarsModel", name := "triesSets", desc := "(I)V" } : Jvm.MethodName) ∈ dp_g := dp_at 793 (by decide +kernel) rfl
set_option maxRecDepth 20000 in
theorem dq_794 : Cond.code ({ cls := "NearLiarsModel", name := "triesSets", desc := "(I)V" } : Jvm.MethodName) prog_8_method_37_code (4 : Nat) (Option.none : Option Jvm.ClassFile.FieldType) ∈ dp_g := dp_at 794 rfl rfl
theorem dq_795 : Cond.methodLink "NearLiarsLaw" (80 : Nat) ({ cls := "NearLiarsModel", name := "bears", desc := "()I" } : Jvm.MethodName) ∈ dp_g := dp_at 795 (by decide +kernel) rfl
theorem dq_796 : Cond.instanceMethod ({ cls := "NearLiarsModel", name := "bears", desc := "()I" } : Jvm.MethodName) ∈ dp_g := dp_at 796 (by decide +kernel) rfl
theorem dq_797 : Cond.selects "NearLiarsModel" ({ cls := "NearLiarsModel", name := "bears", desc := "()I" } : Jvm.MethodName) ({ cls := "NearLiarsModel", name := "bears", desc := "()I" } : Jvm.MethodName) ∈ dp_g := dp_at 797 (by decide +kernel) rfl
set_option maxRecDepth 20000 in
theorem dq_798 : Cond.code ({ cls := "NearLiarsModel", name := "bears", desc := "()I" } : Jvm.MethodName) prog_8_method_39_code (3 : Nat) (Option.some Jvm.ClassFile.FieldType.int) ∈ dp_g := dp_at 798 rfl rfl
theorem dq_799 : Cond.methodLink "NearLiarsLaw" (84 : Nat) ({ cls := "NearLiarsModel", name := "name", desc := "(I)I" } : Jvm.MethodName) ∈ dp_g := dp_at 799 (by decide +kernel) rfl
theorem dq_800 : Cond.instanceMethod ({ cls := "NearLiarsModel", name := "name", desc := "(I)I" } : Jvm.MethodName) ∈ dp_g := dp_at 800 (by decide +kernel) rfl
theorem dq_801 : Cond.selects "NearLiarsModel" ({ cls := "NearLiarsModel", name := "name", desc := "(I)I" } : Jvm.MethodName) ({ cls := "NearLiarsModel", name := "name", desc := "(I)I" } : Jvm.MethodName) ∈ dp_g := dp_at 801 (by decide +kernel) rfl
set_option maxRecDepth 20000 in
theorem dq_802 : Cond.code ({ cls := "NearLiarsModel", name := "name", desc := "(I)I" } : Jvm.MethodName) prog_8_method_40_code (4 : Nat) (Option.some Jvm.ClassFile.FieldType.int) ∈ dp_g := dp_at 802 rfl rfl
theorem dq_803 : Cond.methodLink "NearLiarsLaw" (88 : Nat) ({ cls := "NearLiarsModel", name := "named", desc := "(I)I" } : Jvm.MethodName) ∈ dp_g := dp_at 803 (by decide +kernel) rfl
theorem dq_804 : Cond.instanceMethod ({ cls := "NearLiarsModel", name := "named", desc := "(I)I" } : Jvm.MethodName) ∈ dp_g := dp_at 804 (by decide +kernel) rfl
theorem dq_805 : Cond.selects "NearLiarsModel" ({ cls := "NearLiarsModel", name := "named", desc := "(I)I" } : Jvm.MethodName) ({ cls := "NearLiarsModel", name := "named", desc := "(I)I" } : Jvm.MethodName) ∈ dp_g := dp_at 805 (by decide +kernel) rfl
set_option maxRecDepth 20000 in
theorem dq_806 : Cond.code ({ cls := "NearLiarsModel", name := "named", desc := "(I)I" } : Jvm.MethodName) prog_8_method_41_code (2 : Nat) (Option.some Jvm.ClassFile.FieldType.int) ∈ dp_g := dp_at 806 rfl rfl
theorem dq_807 : Cond.methodLink "NearLiarsLaw" (92 : Nat) ({ cls := "NearLiarsModel", name := "walk", desc := "(I)I" } : Jvm.MethodName) ∈ dp_g := dp_at 807 (by decide +kernel) rfl
theorem dq_808 : Cond.instanceMethod ({ cls := "NearLiarsModel", name := "walk", desc := "(I)I" } : Jvm.MethodName) ∈ dp_g := dp_at 808 (by decide +kernel) rfl
theorem dq_809 : Cond.selects "NearLiarsModel" ({ cls := "NearLiarsModel", name := "walk", desc := "(I)I" } : Jvm.MethodName) ({ cls := "NearLiarsModel", name := "walk", desc := "(I)I" } : Jvm.MethodName) ∈ dp_g := dp_at 809 (by decide +kernel) rfl
set_option maxRecDepth 20000 in
theorem dq_810 : Cond.code ({ cls := "NearLiarsModel", name := "walk", desc := "(I)I" } : Jvm.MethodName) prog_8_method_43_code (3 : Nat) (Option.some Jvm.ClassFile.FieldType.int) ∈ dp_g := dp_at 810 rfl rfl
theorem dq_811 : Cond.methodLink "NearLiarsModel" (165 : Nat) ({ cls := "NearLiarsModel", name := "isOnWay", desc := "(I)Z" } : Jvm.MethodName) ∈ dp_g := dp_at 811 (by decide +kernel) rfl
theorem dq_813 : Cond.instanceMethod ({ cls := "NearLiarsModel", name := "isOnWay", desc := "(I)Z" } : Jvm.MethodName) ∈ dp_g := dp_at 813 (by decide +kernel) rfl
set_option maxRecDepth 20000 in
theorem dq_814 : Cond.code ({ cls := "NearLiarsModel", name := "isOnWay", desc := "(I)Z" } : Jvm.MethodName) prog_8_method_42_code (3 : Nat) (Option.some Jvm.ClassFile.FieldType.boolean) ∈ dp_g := dp_at 814 rfl rfl
theorem dq_815 : Cond.methodLink "NearLiarsLaw" (96 : Nat) ({ cls := "NearLiarsModel", name := "tell", desc := "(I)I" } : Jvm.MethodName) ∈ dp_g := dp_at 815 (by decide +kernel) rfl
theorem dq_816 : Cond.instanceMethod ({ cls := "NearLiarsModel", name := "tell", desc := "(I)I" } : Jvm.MethodName) ∈ dp_g := dp_at 816 (by decide +kernel) rfl
theorem dq_817 : Cond.selects "NearLiarsModel" ({ cls := "NearLiarsModel", name := "tell", desc := "(I)I" } : Jvm.MethodName) ({ cls := "NearLiarsModel", name := "tell", desc := "(I)I" } : Jvm.MethodName) ∈ dp_g := dp_at 817 (by decide +kernel) rfl
set_option maxRecDepth 20000 in
theorem dq_818 : Cond.code ({ cls := "NearLiarsModel", name := "tell", desc := "(I)I" } : Jvm.MethodName) prog_8_method_46_code (3 : Nat) (Option.some Jvm.ClassFile.FieldType.int) ∈ dp_g := dp_at 818 rfl rfl
theorem dq_819 : Cond.methodLink "NearLiarsModel" (168 : Nat) ({ cls := "NearLiarsModel", name := "isClaimed", desc := "(I)Z" } : Jvm.MethodName) ∈ dp_g := dp_at 819 (by decide +kernel) rfl
theorem dq_821 : Cond.instanceMethod ({ cls := "NearLiarsModel", name := "isClaimed", desc := "(I)Z" } : Jvm.MethodName) ∈ dp_g := dp_at 821 (by decide +kernel) rfl
set_option maxRecDepth 20000 in
theorem dq_822 : Cond.code ({ cls := "NearLiarsModel", name := "isClaimed", desc := "(I)Z" } : Jvm.MethodName) prog_8_method_44_code (5 : Nat) (Option.some Jvm.ClassFile.FieldType.boolean) ∈ dp_g := dp_at 822 rfl rfl
theorem dq_823 : Cond.methodLink "NearLiarsModel" (171 : Nat) ({ cls := "NearLiarsModel", name := "oldestGoes", desc := "()V" } : Jvm.MethodName) ∈ dp_g := dp_at 823 (by decide +kernel) rfl
theorem dq_825 : Cond.instanceMethod ({ cls := "NearLiarsModel", name := "oldestGoes", desc := "()V" } : Jvm.MethodName) ∈ dp_g := dp_at 825 (by decide +kernel) rfl
set_option maxRecDepth 20000 in
theorem dq_826 : Cond.code ({ cls := "NearLiarsModel", name := "oldestGoes", desc := "()V" } : Jvm.MethodName) prog_8_method_45_code (2 : Nat) (Option.none : Option Jvm.ClassFile.FieldType) ∈ dp_g := dp_at 826 rfl rfl
theorem dq_827 : Cond.methodLink "NearLiarsLaw" (100 : Nat) ({ cls := "NearLiarsModel", name := "drop", desc := "()I" } : Jvm.MethodName) ∈ dp_g := dp_at 827 (by decide +kernel) rfl
theorem dq_828 : Cond.instanceMethod ({ cls := "NearLiarsModel", name := "drop", desc := "()I" } : Jvm.MethodName) ∈ dp_g := dp_at 828 (by decide +kernel) rfl
theorem dq_829 : Cond.selects "NearLiarsModel" ({ cls := "NearLiarsModel", name := "drop", desc := "()I" } : Jvm.MethodName) ({ cls := "NearLiarsModel", name := "drop", desc := "()I" } : Jvm.MethodName) ∈ dp_g := dp_at 829 (by decide +kernel) rfl
set_option maxRecDepth 20000 in
theorem dq_830 : Cond.code ({ cls := "NearLiarsModel", name := "drop", desc := "()I" } : Jvm.MethodName) prog_8_method_47_code (2 : Nat) (Option.some Jvm.ClassFile.FieldType.int) ∈ dp_g := dp_at 830 rfl rfl
theorem dq_831 : Cond.methodLink "NearLiarsLaw" (104 : Nat) ({ cls := "NearLiarsModel", name := "claim", desc := "(II)I" } : Jvm.MethodName) ∈ dp_g := dp_at 831 (by decide +kernel) rfl
theorem dq_832 : Cond.instanceMethod ({ cls := "NearLiarsModel", name := "claim", desc := "(II)I" } : Jvm.MethodName) ∈ dp_g := dp_at 832 (by decide +kernel) rfl
theorem dq_833 : Cond.selects "NearLiarsModel" ({ cls := "NearLiarsModel", name := "claim", desc := "(II)I" } : Jvm.MethodName) ({ cls := "NearLiarsModel", name := "claim", desc := "(II)I" } : Jvm.MethodName) ∈ dp_g := dp_at 833 (by decide +kernel) rfl
set_option maxRecDepth 20000 in
theorem dq_834 : Cond.code ({ cls := "NearLiarsModel", name := "claim", desc := "(II)I" } : Jvm.MethodName) prog_8_method_49_code (3 : Nat) (Option.some Jvm.ClassFile.FieldType.int) ∈ dp_g := dp_at 834 rfl rfl
theorem dq_835 : Cond.methodLink "NearLiarsModel" (174 : Nat) ({ cls := "NearLiarsModel", name := "setOf", desc := "(I)I" } : Jvm.MethodName) ∈ dp_g := dp_at 835 (by decide +kernel) rfl
theorem dq_837 : Cond.instanceMethod ({ cls := "NearLiarsModel", name := "setOf", desc := "(I)I" } : Jvm.MethodName) ∈ dp_g := dp_at 837 (by decide +kernel) rfl
set_option maxRecDepth 20000 in
theorem dq_838 : Cond.code ({ cls := "NearLiarsModel", name := "setOf", desc := "(I)I" } : Jvm.MethodName) prog_8_method_48_code (4 : Nat) (Option.some Jvm.ClassFile.FieldType.int) ∈ dp_g := dp_at 838 rfl rfl
theorem dq_839 : Cond.methodLink "NearLiarsLaw" (108 : Nat) ({ cls := "NearLiarsModel", name := "proof", desc := "(II)I" } : Jvm.MethodName) ∈ dp_g := dp_at 839 (by decide +kernel) rfl
theorem dq_840 : Cond.instanceMethod ({ cls := "NearLiarsModel", name := "proof", desc := "(II)I" } : Jvm.MethodName) ∈ dp_g := dp_at 840 (by decide +kernel) rfl
theorem dq_841 : Cond.selects "NearLiarsModel" ({ cls := "NearLiarsModel", name := "proof", desc := "(II)I" } : Jvm.MethodName) ({ cls := "NearLiarsModel", name := "proof", desc := "(II)I" } : Jvm.MethodName) ∈ dp_g := dp_at 841 (by decide +kernel) rfl
set_option maxRecDepth 20000 in
theorem dq_842 : Cond.code ({ cls := "NearLiarsModel", name := "proof", desc := "(II)I" } : Jvm.MethodName) prog_8_method_52_code (3 : Nat) (Option.some Jvm.ClassFile.FieldType.int) ∈ dp_g := dp_at 842 rfl rfl
theorem dq_843 : Cond.methodLink "NearLiarsModel" (180 : Nat) ({ cls := "NearLiarsModel", name := "proofOf", desc := "(II)I" } : Jvm.MethodName) ∈ dp_g := dp_at 843 (by decide +kernel) rfl
theorem dq_845 : Cond.instanceMethod ({ cls := "NearLiarsModel", name := "proofOf", desc := "(II)I" } : Jvm.MethodName) ∈ dp_g := dp_at 845 (by decide +kernel) rfl
set_option maxRecDepth 20000 in
theorem dq_846 : Cond.code ({ cls := "NearLiarsModel", name := "proofOf", desc := "(II)I" } : Jvm.MethodName) prog_8_method_51_code (6 : Nat) (Option.some Jvm.ClassFile.FieldType.int) ∈ dp_g := dp_at 846 rfl rfl
theorem dq_847 : Cond.methodLink "NearLiarsModel" (177 : Nat) ({ cls := "NearLiarsModel", name := "proves", desc := "(III)I" } : Jvm.MethodName) ∈ dp_g := dp_at 847 (by decide +kernel) rfl
theorem dq_849 : Cond.instanceMethod ({ cls := "NearLiarsModel", name := "proves", desc := "(III)I" } : Jvm.MethodName) ∈ dp_g := dp_at 849 (by decide +kernel) rfl
set_option maxRecDepth 20000 in
theorem dq_850 : Cond.code ({ cls := "NearLiarsModel", name := "proves", desc := "(III)I" } : Jvm.MethodName) prog_8_method_50_code (9 : Nat) (Option.some Jvm.ClassFile.FieldType.int) ∈ dp_g := dp_at 850 rfl rfl
theorem dq_851 : Cond.methodLink "NearLiarsLaw" (112 : Nat) ({ cls := "NearLiarsModel", name := "believes", desc := "(I)I" } : Jvm.MethodName) ∈ dp_g := dp_at 851 (by decide +kernel) rfl
theorem dq_852 : Cond.instanceMethod ({ cls := "NearLiarsModel", name := "believes", desc := "(I)I" } : Jvm.MethodName) ∈ dp_g := dp_at 852 (by decide +kernel) rfl
theorem dq_853 : Cond.selects "NearLiarsModel" ({ cls := "NearLiarsModel", name := "believes", desc := "(I)I" } : Jvm.MethodName) ({ cls := "NearLiarsModel", name := "believes", desc := "(I)I" } : Jvm.MethodName) ∈ dp_g := dp_at 853 (by decide +kernel) rfl
set_option maxRecDepth 20000 in
theorem dq_854 : Cond.code ({ cls := "NearLiarsModel", name := "believes", desc := "(I)I" } : Jvm.MethodName) prog_8_method_53_code (6 : Nat) (Option.some Jvm.ClassFile.FieldType.int) ∈ dp_g := dp_at 854 rfl rfl
theorem dq_855 : Cond.methodLink "NearLiarsLaw" (116 : Nat) ({ cls := "NearLiarsModel", name := "many", desc := "(I)I" } : Jvm.MethodName) ∈ dp_g := dp_at 855 (by decide +kernel) rfl
theorem dq_856 : Cond.instanceMethod ({ cls := "NearLiarsModel", name := "many", desc := "(I)I" } : Jvm.MethodName) ∈ dp_g := dp_at 856 (by decide +kernel) rfl
theorem dq_857 : Cond.selects "NearLiarsModel" ({ cls := "NearLiarsModel", name := "many", desc := "(I)I" } : Jvm.MethodName) ({ cls := "NearLiarsModel", name := "many", desc := "(I)I" } : Jvm.MethodName) ∈ dp_g := dp_at 857 (by decide +kernel) rfl
set_option maxRecDepth 20000 in
theorem dq_858 : Cond.code ({ cls := "NearLiarsModel", name := "many", desc := "(I)I" } : Jvm.MethodName) prog_8_method_55_code (2 : Nat) (Option.some Jvm.ClassFile.FieldType.int) ∈ dp_g := dp_at 858 rfl rfl
theorem dq_859 : Cond.methodLink "NearLiarsModel" (183 : Nat) ({ cls := "NearLiarsModel", name := "twos", desc := "()I" } : Jvm.MethodName) ∈ dp_g := dp_at 859 (by decide +kernel) rfl
theorem dq_861 : Cond.instanceMethod ({ cls := "NearLiarsModel", name := "twos", desc := "()I" } : Jvm.MethodName) ∈ dp_g := dp_at 861 (by decide +kernel) rfl
set_option maxRecDepth 20000 in
theorem dq_862 : Cond.code ({ cls := "NearLiarsModel", name := "twos", desc := "()I" } : Jvm.MethodName) prog_8_method_54_code (3 : Nat) (Option.some Jvm.ClassFile.FieldType.int) ∈ dp_g := dp_at 862 rfl rfl
