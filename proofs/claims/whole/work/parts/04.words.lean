/-! the words, by their places -/
theorem tw_1_0 : (Cond.initialized "FlowShelfLaw") ∈ fs_ws := fs_t1 (List.mem_of_getElem? (i := 0) rfl) rfl
theorem tw_1_1 : (Cond.initialized "FlowShelf") ∈ fs_ws := fs_t1 (List.mem_of_getElem? (i := 1) rfl) rfl
theorem tw_1_2 : (Cond.initialized "FlowShelf$Exporter") ∈ fs_ws := fs_t1 (List.mem_of_getElem? (i := 2) rfl) rfl
theorem tw_1_3 : (Cond.initialized "java/util/AbstractCollection") ∈ fs_ws := fs_t1 (List.mem_of_getElem? (i := 3) rfl) rfl
theorem tw_1_4 : (Cond.initialized "java/util/AbstractList") ∈ fs_ws := fs_t1 (List.mem_of_getElem? (i := 4) rfl) rfl
theorem tw_1_5 : (Cond.initialized "java/util/ArrayList") ∈ fs_ws := fs_t1 (List.mem_of_getElem? (i := 5) rfl) rfl
theorem tw_1_6 : (Cond.initialized "FlowShelf$Slot") ∈ fs_ws := fs_t1 (List.mem_of_getElem? (i := 6) rfl) rfl
theorem tw_1_7 : (Cond.initialized "FlowShelf$Layout") ∈ fs_ws := fs_t1 (List.mem_of_getElem? (i := 7) rfl) rfl
theorem tw_1_8 : (Cond.initialized "FlowShelf$Collector") ∈ fs_ws := fs_t1 (List.mem_of_getElem? (i := 8) rfl) rfl
theorem tw_1_9 : (Cond.initialized "FlowShelf$Table") ∈ fs_ws := fs_t1 (List.mem_of_getElem? (i := 9) rfl) rfl
theorem tw_1_10 : (Cond.initialized "FlowShelf$Ledger") ∈ fs_ws := fs_t1 (List.mem_of_getElem? (i := 10) rfl) rfl
theorem tw_1_11 : (Cond.initialized "FlowShelfModel") ∈ fs_ws := fs_t1 (List.mem_of_getElem? (i := 11) rfl) rfl
theorem tw_1_12 : (Cond.initialized "java/lang/Throwable") ∈ fs_ws := fs_t1 (List.mem_of_getElem? (i := 12) rfl) rfl
theorem tw_1_13 : (Cond.initialized "java/lang/Exception") ∈ fs_ws := fs_t1 (List.mem_of_getElem? (i := 13) rfl) rfl
theorem tw_1_14 : (Cond.initialized "java/lang/RuntimeException") ∈ fs_ws := fs_t1 (List.mem_of_getElem? (i := 14) rfl) rfl
theorem tw_1_15 : (Cond.initialized "java/lang/IllegalArgumentException") ∈ fs_ws := fs_t1 (List.mem_of_getElem? (i := 15) rfl) rfl
theorem tw_1_16 : (Cond.initialized "java/lang/IllegalStateException") ∈ fs_ws := fs_t1 (List.mem_of_getElem? (i := 16) rfl) rfl
theorem tw_1_17 : (Cond.initialized "java/util/Objects") ∈ fs_ws := fs_t1 (List.mem_of_getElem? (i := 17) rfl) rfl
theorem tw_1_18 : (Cond.initialized "jdk/internal/util/Preconditions") ∈ fs_ws := fs_t1 (List.mem_of_getElem? (i := 18) rfl) rfl
theorem tw_1_19 : (Cond.initialized "java/lang/System") ∈ fs_ws := fs_t1 (List.mem_of_getElem? (i := 19) rfl) rfl
theorem tw_1_20 : (Cond.initialized "jdk/internal/util/ArraysSupport") ∈ fs_ws := fs_t1 (List.mem_of_getElem? (i := 20) rfl) rfl
theorem tw_1_21 : (Cond.initialized "java/lang/Math") ∈ fs_ws := fs_t1 (List.mem_of_getElem? (i := 21) rfl) rfl
theorem tw_1_22 : (Cond.initialized "java/util/Arrays") ∈ fs_ws := fs_t1 (List.mem_of_getElem? (i := 22) rfl) rfl
theorem tw_1_23 : (Cond.initialized "FlowShelf$Flow") ∈ fs_ws := fs_t1 (List.mem_of_getElem? (i := 23) rfl) rfl
theorem tw_1_24 : (Cond.initialized "java/lang/IndexOutOfBoundsException") ∈ fs_ws := fs_t1 (List.mem_of_getElem? (i := 24) rfl) rfl
theorem tw_1_25 : (Cond.initialized "FlowShelf$Report") ∈ fs_ws := fs_t1 (List.mem_of_getElem? (i := 25) rfl) rfl
theorem tw_1_26 : (Cond.initialized "java/lang/UnsupportedOperationException") ∈ fs_ws := fs_t1 (List.mem_of_getElem? (i := 26) rfl) rfl
theorem tw_1_27 : (Cond.initialized "FlowShelf$Cursor") ∈ fs_ws := fs_t1 (List.mem_of_getElem? (i := 27) rfl) rfl
theorem tw_1_28 : (Cond.initialized "FlowShelf$Row") ∈ fs_ws := fs_t1 (List.mem_of_getElem? (i := 28) rfl) rfl
theorem tw_1_29 : (Cond.classLink "FlowShelfLaw" 8 "FlowShelf") ∈ fs_ws := fs_t1 (List.mem_of_getElem? (i := 29) rfl) rfl
theorem tw_1_30 : (Cond.instantiable "FlowShelf" 4) ∈ fs_ws := fs_t1 (List.mem_of_getElem? (i := 30) rfl) rfl
theorem tw_1_31 : (Cond.methodLink "FlowShelfLaw" 83 ⟨"FlowShelf", "<init>", "()V"⟩) ∈ fs_ws := fs_t1 (List.mem_of_getElem? (i := 31) rfl) rfl
theorem tw_1_32 : (Cond.instanceMethod ⟨"FlowShelf", "<init>", "()V"⟩) ∈ fs_ws := fs_t1 (List.mem_of_getElem? (i := 32) rfl) rfl
theorem tw_1_33 : (Cond.code ⟨"FlowShelf", "<init>", "()V"⟩ prog_1_method_1_code 1 (Option.none : Option FieldType)) ∈ fs_ws := fs_t1 (List.mem_of_getElem? (i := 33) rfl) rfl
theorem tw_1_34 : (Cond.methodLink "FlowShelf" 1 ⟨"java/lang/Object", "<init>", "()V"⟩) ∈ fs_ws := fs_t1 (List.mem_of_getElem? (i := 34) rfl) rfl
theorem tw_1_35 : (Cond.instanceMethod ⟨"java/lang/Object", "<init>", "()V"⟩) ∈ fs_ws := fs_t1 (List.mem_of_getElem? (i := 35) rfl) rfl
theorem tw_1_36 : (Cond.code ⟨"java/lang/Object", "<init>", "()V"⟩ object_method_1_code 1 (Option.none : Option FieldType)) ∈ fs_ws := fs_t1 (List.mem_of_getElem? (i := 36) rfl) rfl
theorem tw_1_37 : (Cond.classLink "FlowShelf" 7 "FlowShelf$Exporter") ∈ fs_ws := fs_t1 (List.mem_of_getElem? (i := 37) rfl) rfl
theorem tw_1_38 : (Cond.instantiable "FlowShelf$Exporter" 11) ∈ fs_ws := fs_t1 (List.mem_of_getElem? (i := 38) rfl) rfl
theorem tw_1_39 : (Cond.methodLink "FlowShelf" 9 ⟨"FlowShelf$Exporter", "<init>", "(I)V"⟩) ∈ fs_ws := fs_t1 (List.mem_of_getElem? (i := 39) rfl) rfl
theorem tw_1_40 : (Cond.instanceMethod ⟨"FlowShelf$Exporter", "<init>", "(I)V"⟩) ∈ fs_ws := fs_t1 (List.mem_of_getElem? (i := 40) rfl) rfl
theorem tw_1_41 : (Cond.code ⟨"FlowShelf$Exporter", "<init>", "(I)V"⟩ prog_4_method_1_code 3 (Option.none : Option FieldType)) ∈ fs_ws := fs_t1 (List.mem_of_getElem? (i := 41) rfl) rfl
theorem tw_1_42 : (Cond.methodLink "FlowShelf$Exporter" 3 ⟨"java/lang/Object", "<init>", "()V"⟩) ∈ fs_ws := fs_t1 (List.mem_of_getElem? (i := 42) rfl) rfl
theorem tw_1_43 : (Cond.classLink "FlowShelf$Exporter" 9 "java/util/ArrayList") ∈ fs_ws := fs_t1 (List.mem_of_getElem? (i := 43) rfl) rfl
theorem tw_1_44 : (Cond.instantiable "java/util/ArrayList" 3) ∈ fs_ws := fs_t1 (List.mem_of_getElem? (i := 44) rfl) rfl
theorem tw_1_45 : (Cond.methodLink "FlowShelf$Exporter" 11 ⟨"java/util/ArrayList", "<init>", "()V"⟩) ∈ fs_ws := fs_t1 (List.mem_of_getElem? (i := 45) rfl) rfl
theorem tw_1_46 : (Cond.instanceMethod ⟨"java/util/ArrayList", "<init>", "()V"⟩) ∈ fs_ws := fs_t1 (List.mem_of_getElem? (i := 46) rfl) rfl
theorem tw_1_47 : (Cond.code ⟨"java/util/ArrayList", "<init>", "()V"⟩ prog_29_method_2_code 1 (Option.none : Option FieldType)) ∈ fs_ws := fs_t1 (List.mem_of_getElem? (i := 47) rfl) rfl
theorem tw_1_48 : (Cond.methodLink "java/util/ArrayList" 1 ⟨"java/util/AbstractList", "<init>", "()V"⟩) ∈ fs_ws := fs_t1 (List.mem_of_getElem? (i := 48) rfl) rfl
theorem tw_1_49 : (Cond.instanceMethod ⟨"java/util/AbstractList", "<init>", "()V"⟩) ∈ fs_ws := fs_t1 (List.mem_of_getElem? (i := 49) rfl) rfl
theorem tw_1_50 : (Cond.code ⟨"java/util/AbstractList", "<init>", "()V"⟩ prog_28_method_1_code 1 (Option.none : Option FieldType)) ∈ fs_ws := fs_t1 (List.mem_of_getElem? (i := 50) rfl) rfl
theorem tw_1_51 : (Cond.methodLink "java/util/AbstractList" 1 ⟨"java/util/AbstractCollection", "<init>", "()V"⟩) ∈ fs_ws := fs_t1 (List.mem_of_getElem? (i := 51) rfl) rfl
theorem tw_1_52 : (Cond.instanceMethod ⟨"java/util/AbstractCollection", "<init>", "()V"⟩) ∈ fs_ws := fs_t1 (List.mem_of_getElem? (i := 52) rfl) rfl
theorem tw_1_53 : (Cond.code ⟨"java/util/AbstractCollection", "<init>", "()V"⟩ prog_27_method_1_code 1 (Option.none : Option FieldType)) ∈ fs_ws := fs_t1 (List.mem_of_getElem? (i := 53) rfl) rfl
theorem tw_1_54 : (Cond.methodLink "java/util/AbstractCollection" 1 ⟨"java/lang/Object", "<init>", "()V"⟩) ∈ fs_ws := fs_t1 (List.mem_of_getElem? (i := 54) rfl) rfl
theorem tw_1_55 : (Cond.fieldLink "java/util/ArrayList" 39 "java/util/ArrayList" "DEFAULTCAPACITY_EMPTY_ELEMENTDATA" "[Ljava/lang/Object;") ∈ fs_ws := fs_t1 (List.mem_of_getElem? (i := 55) rfl) rfl
theorem tw_1_57 : (Cond.fieldLink "java/util/ArrayList" 9 "java/util/ArrayList" "elementData" "[Ljava/lang/Object;") ∈ fs_ws := fs_t1 (List.mem_of_getElem? (i := 57) rfl) rfl
theorem tw_1_58 : (Cond.fieldLink "java/util/ArrayList" 48 "java/util/ArrayList" "size" "I") ∈ fs_ws := fs_t1 (List.mem_of_getElem? (i := 58) rfl) rfl
theorem tw_1_59 : (Cond.fieldLink "java/util/AbstractList" 7 "java/util/AbstractList" "modCount" "I") ∈ fs_ws := fs_t1 (List.mem_of_getElem? (i := 59) rfl) rfl
theorem tw_1_60 : (Cond.fieldLink "java/util/ArrayList" 63 "java/util/ArrayList" "modCount" "I") ∈ fs_ws := fs_t1 (List.mem_of_getElem? (i := 60) rfl) rfl
theorem tw_1_61 : (Cond.sameField "java/util/ArrayList" "java/util/AbstractList" "modCount" "I") ∈ fs_ws := fs_t1 (List.mem_of_getElem? (i := 61) rfl) rfl
theorem tw_1_69 : (Cond.classLink "FlowShelf$Exporter" 21 "FlowShelf$Slot") ∈ fs_ws := fs_t1 (List.mem_of_getElem? (i := 69) rfl) rfl
theorem tw_1_71 : (Cond.instantiable "FlowShelf$Slot" 6) ∈ fs_ws := fs_t1 (List.mem_of_getElem? (i := 71) rfl) rfl
theorem tw_1_72 : (Cond.methodLink "FlowShelf$Exporter" 34 ⟨"FlowShelf$Slot", "<init>", "(I)V"⟩) ∈ fs_ws := fs_t1 (List.mem_of_getElem? (i := 72) rfl) rfl
theorem tw_1_73 : (Cond.instanceMethod ⟨"FlowShelf$Slot", "<init>", "(I)V"⟩) ∈ fs_ws := fs_t1 (List.mem_of_getElem? (i := 73) rfl) rfl
theorem tw_1_74 : (Cond.code ⟨"FlowShelf$Slot", "<init>", "(I)V"⟩ prog_10_method_1_code 2 (Option.none : Option FieldType)) ∈ fs_ws := fs_t1 (List.mem_of_getElem? (i := 74) rfl) rfl
theorem tw_1_75 : (Cond.methodLink "FlowShelf$Slot" 1 ⟨"java/lang/Object", "<init>", "()V"⟩) ∈ fs_ws := fs_t1 (List.mem_of_getElem? (i := 75) rfl) rfl
theorem tw_1_76 : (Cond.classLink "FlowShelf$Slot" 7 "FlowShelf$Layout") ∈ fs_ws := fs_t1 (List.mem_of_getElem? (i := 76) rfl) rfl
theorem tw_1_77 : (Cond.instantiable "FlowShelf$Layout" 3) ∈ fs_ws := fs_t1 (List.mem_of_getElem? (i := 77) rfl) rfl
theorem tw_1_79 : (Cond.instanceMethod ⟨"FlowShelf$Layout", "<init>", "()V"⟩) ∈ fs_ws := fs_t1 (List.mem_of_getElem? (i := 79) rfl) rfl
theorem tw_1_80 : (Cond.code ⟨"FlowShelf$Layout", "<init>", "()V"⟩ prog_6_method_1_code 1 (Option.none : Option FieldType)) ∈ fs_ws := fs_t1 (List.mem_of_getElem? (i := 80) rfl) rfl
theorem tw_1_81 : (Cond.methodLink "FlowShelf$Layout" 3 ⟨"java/lang/Object", "<init>", "()V"⟩) ∈ fs_ws := fs_t1 (List.mem_of_getElem? (i := 81) rfl) rfl
theorem tw_1_82 : (Cond.fieldLink "FlowShelf$Layout" 9 "FlowShelf$Layout" "fields" "[I") ∈ fs_ws := fs_t1 (List.mem_of_getElem? (i := 82) rfl) rfl
theorem tw_1_83 : (Cond.fieldLink "FlowShelf$Exporter" 143 "FlowShelf$Layout" "fields" "[I") ∈ fs_ws := fs_t1 (List.mem_of_getElem? (i := 83) rfl) rfl
theorem tw_1_84 : (Cond.fieldLink "FlowShelf$Layout" 15 "FlowShelf$Layout" "lengths" "[I") ∈ fs_ws := fs_t1 (List.mem_of_getElem? (i := 84) rfl) rfl
theorem tw_1_85 : (Cond.fieldLink "FlowShelf$Exporter" 147 "FlowShelf$Layout" "lengths" "[I") ∈ fs_ws := fs_t1 (List.mem_of_getElem? (i := 85) rfl) rfl
theorem tw_1_86 : (Cond.fieldLink "FlowShelf$Layout" 18 "FlowShelf$Layout" "used" "I") ∈ fs_ws := fs_t1 (List.mem_of_getElem? (i := 86) rfl) rfl
theorem tw_1_87 : (Cond.fieldLink "FlowShelf$Slot" 23 "FlowShelf$Layout" "used" "I") ∈ fs_ws := fs_t1 (List.mem_of_getElem? (i := 87) rfl) rfl
theorem tw_1_88 : (Cond.fieldLink "FlowShelf" 135 "FlowShelf$Layout" "used" "I") ∈ fs_ws := fs_t1 (List.mem_of_getElem? (i := 88) rfl) rfl
theorem tw_1_89 : (Cond.fieldLink "FlowShelf$Exporter" 138 "FlowShelf$Layout" "used" "I") ∈ fs_ws := fs_t1 (List.mem_of_getElem? (i := 89) rfl) rfl
theorem tw_1_97 : (Cond.arrayClass FieldType.int) ∈ fs_ws := fs_t1 (List.mem_of_getElem? (i := 97) rfl) rfl
theorem tw_1_98 : (Cond.fieldLink "FlowShelf$Slot" 19 "FlowShelf$Slot" "number" "I") ∈ fs_ws := fs_t1 (List.mem_of_getElem? (i := 98) rfl) rfl
theorem tw_1_99 : (Cond.fieldLink "FlowShelf$Exporter" 127 "FlowShelf$Slot" "number" "I") ∈ fs_ws := fs_t1 (List.mem_of_getElem? (i := 99) rfl) rfl
theorem tw_1_100 : (Cond.fieldLink "FlowShelf$Slot" 10 "FlowShelf$Slot" "draft" "LFlowShelf$Layout;") ∈ fs_ws := fs_t1 (List.mem_of_getElem? (i := 100) rfl) rfl
theorem tw_1_101 : (Cond.fieldLink "FlowShelf" 118 "FlowShelf$Slot" "draft" "LFlowShelf$Layout;") ∈ fs_ws := fs_t1 (List.mem_of_getElem? (i := 101) rfl) rfl
theorem tw_1_102 : (Cond.fieldLink "FlowShelf$Slot" 16 "FlowShelf$Slot" "layout" "LFlowShelf$Layout;") ∈ fs_ws := fs_t1 (List.mem_of_getElem? (i := 102) rfl) rfl
theorem tw_1_103 : (Cond.fieldLink "FlowShelf$Exporter" 134 "FlowShelf$Slot" "layout" "LFlowShelf$Layout;") ∈ fs_ws := fs_t1 (List.mem_of_getElem? (i := 103) rfl) rfl
theorem tw_1_104 : (Cond.fieldLink "FlowShelf$Slot" 26 "FlowShelf$Slot" "inForce" "Z") ∈ fs_ws := fs_t1 (List.mem_of_getElem? (i := 104) rfl) rfl
theorem tw_1_105 : (Cond.fieldLink "FlowShelf" 139 "FlowShelf$Slot" "inForce" "Z") ∈ fs_ws := fs_t1 (List.mem_of_getElem? (i := 105) rfl) rfl
theorem tw_1_106 : (Cond.fieldLink "FlowShelf$Exporter" 97 "FlowShelf$Slot" "inForce" "Z") ∈ fs_ws := fs_t1 (List.mem_of_getElem? (i := 106) rfl) rfl
theorem tw_1_107 : (Cond.fieldLink "FlowShelf$Slot" 30 "FlowShelf$Slot" "revision" "I") ∈ fs_ws := fs_t1 (List.mem_of_getElem? (i := 107) rfl) rfl
theorem tw_1_108 : (Cond.fieldLink "FlowShelf" 151 "FlowShelf$Slot" "revision" "I") ∈ fs_ws := fs_t1 (List.mem_of_getElem? (i := 108) rfl) rfl
theorem tw_1_109 : (Cond.fieldLink "FlowShelf$Exporter" 131 "FlowShelf$Slot" "revision" "I") ∈ fs_ws := fs_t1 (List.mem_of_getElem? (i := 109) rfl) rfl
theorem tw_1_110 : (Cond.fieldLink "FlowShelf$Slot" 33 "FlowShelf$Slot" "sealedAt" "I") ∈ fs_ws := fs_t1 (List.mem_of_getElem? (i := 110) rfl) rfl
theorem tw_1_111 : (Cond.fieldLink "FlowShelf$Exporter" 101 "FlowShelf$Slot" "sealedAt" "I") ∈ fs_ws := fs_t1 (List.mem_of_getElem? (i := 111) rfl) rfl
theorem tw_1_125 : (Cond.fieldLink "FlowShelf$Exporter" 31 "FlowShelf$Exporter" "number" "I") ∈ fs_ws := fs_t1 (List.mem_of_getElem? (i := 125) rfl) rfl
theorem tw_1_126 : (Cond.fieldLink "FlowShelf$Exporter" 12 "FlowShelf$Exporter" "cache" "Ljava/util/ArrayList;") ∈ fs_ws := fs_t1 (List.mem_of_getElem? (i := 126) rfl) rfl
theorem tw_1_127 : (Cond.fieldLink "FlowShelf" 284 "FlowShelf$Exporter" "cache" "Ljava/util/ArrayList;") ∈ fs_ws := fs_t1 (List.mem_of_getElem? (i := 127) rfl) rfl
theorem tw_1_128 : (Cond.fieldLink "FlowShelf$Exporter" 18 "FlowShelf$Exporter" "endedFlows" "Ljava/util/ArrayList;") ∈ fs_ws := fs_t1 (List.mem_of_getElem? (i := 128) rfl) rfl
theorem tw_1_129 : (Cond.fieldLink "FlowShelf" 85 "FlowShelf$Exporter" "endedFlows" "Ljava/util/ArrayList;") ∈ fs_ws := fs_t1 (List.mem_of_getElem? (i := 129) rfl) rfl
theorem tw_1_130 : (Cond.fieldLink "FlowShelf$Exporter" 23 "FlowShelf$Exporter" "slots" "[LFlowShelf$Slot;") ∈ fs_ws := fs_t1 (List.mem_of_getElem? (i := 130) rfl) rfl
theorem tw_1_131 : (Cond.fieldLink "FlowShelf" 188 "FlowShelf$Exporter" "slots" "[LFlowShelf$Slot;") ∈ fs_ws := fs_t1 (List.mem_of_getElem? (i := 131) rfl) rfl
theorem tw_1_132 : (Cond.fieldLink "FlowShelf$Exporter" 57 "FlowShelf$Exporter" "clock" "I") ∈ fs_ws := fs_t1 (List.mem_of_getElem? (i := 132) rfl) rfl
theorem tw_1_133 : (Cond.fieldLink "FlowShelf" 281 "FlowShelf$Exporter" "clock" "I") ∈ fs_ws := fs_t1 (List.mem_of_getElem? (i := 133) rfl) rfl
theorem tw_1_134 : (Cond.fieldLink "FlowShelf" 156 "FlowShelf$Exporter" "epoch" "I") ∈ fs_ws := fs_t1 (List.mem_of_getElem? (i := 134) rfl) rfl
theorem tw_1_135 : (Cond.fieldLink "FlowShelf$Exporter" 104 "FlowShelf$Exporter" "epoch" "I") ∈ fs_ws := fs_t1 (List.mem_of_getElem? (i := 135) rfl) rfl
theorem tw_1_136 : (Cond.fieldLink "FlowShelf$Exporter" 27 "FlowShelf$Exporter" "sampleOf" "I") ∈ fs_ws := fs_t1 (List.mem_of_getElem? (i := 136) rfl) rfl
theorem tw_1_137 : (Cond.fieldLink "FlowShelf$Exporter" 41 "FlowShelf$Exporter" "sampleCounter" "I") ∈ fs_ws := fs_t1 (List.mem_of_getElem? (i := 137) rfl) rfl
theorem tw_1_138 : (Cond.fieldLink "FlowShelf$Exporter" 94 "FlowShelf$Exporter" "seals" "I") ∈ fs_ws := fs_t1 (List.mem_of_getElem? (i := 138) rfl) rfl
theorem tw_1_139 : (Cond.fieldLink "FlowShelf" 183 "FlowShelf$Exporter" "written" "I") ∈ fs_ws := fs_t1 (List.mem_of_getElem? (i := 139) rfl) rfl
theorem tw_1_140 : (Cond.fieldLink "FlowShelf$Exporter" 116 "FlowShelf$Exporter" "written" "I") ∈ fs_ws := fs_t1 (List.mem_of_getElem? (i := 140) rfl) rfl
theorem tw_1_141 : (Cond.fieldLink "FlowShelf$Exporter" 119 "FlowShelf$Exporter" "samplersWritten" "I") ∈ fs_ws := fs_t1 (List.mem_of_getElem? (i := 141) rfl) rfl
theorem tw_1_165 : (Cond.classLink "FlowShelf" 21 "java/util/ArrayList") ∈ fs_ws := fs_t1 (List.mem_of_getElem? (i := 165) rfl) rfl
theorem tw_1_166 : (Cond.methodLink "FlowShelf" 23 ⟨"java/util/ArrayList", "<init>", "()V"⟩) ∈ fs_ws := fs_t1 (List.mem_of_getElem? (i := 166) rfl) rfl
theorem tw_1_167 : (Cond.classLink "FlowShelf" 28 "FlowShelf$Collector") ∈ fs_ws := fs_t1 (List.mem_of_getElem? (i := 167) rfl) rfl
theorem tw_1_168 : (Cond.instantiable "FlowShelf$Collector" 5) ∈ fs_ws := fs_t1 (List.mem_of_getElem? (i := 168) rfl) rfl
theorem tw_1_170 : (Cond.instanceMethod ⟨"FlowShelf$Collector", "<init>", "()V"⟩) ∈ fs_ws := fs_t1 (List.mem_of_getElem? (i := 170) rfl) rfl
theorem tw_1_171 : (Cond.code ⟨"FlowShelf$Collector", "<init>", "()V"⟩ prog_2_method_1_code 1 (Option.none : Option FieldType)) ∈ fs_ws := fs_t1 (List.mem_of_getElem? (i := 171) rfl) rfl
theorem tw_1_172 : (Cond.methodLink "FlowShelf$Collector" 3 ⟨"java/lang/Object", "<init>", "()V"⟩) ∈ fs_ws := fs_t1 (List.mem_of_getElem? (i := 172) rfl) rfl
theorem tw_1_173 : (Cond.classLink "FlowShelf$Collector" 9 "java/util/ArrayList") ∈ fs_ws := fs_t1 (List.mem_of_getElem? (i := 173) rfl) rfl
theorem tw_1_174 : (Cond.methodLink "FlowShelf$Collector" 11 ⟨"java/util/ArrayList", "<init>", "()V"⟩) ∈ fs_ws := fs_t1 (List.mem_of_getElem? (i := 174) rfl) rfl
theorem tw_1_175 : (Cond.classLink "FlowShelf$Collector" 21 "FlowShelf$Table") ∈ fs_ws := fs_t1 (List.mem_of_getElem? (i := 175) rfl) rfl
theorem tw_1_176 : (Cond.instantiable "FlowShelf$Table" 5) ∈ fs_ws := fs_t1 (List.mem_of_getElem? (i := 176) rfl) rfl
theorem tw_1_178 : (Cond.instanceMethod ⟨"FlowShelf$Table", "<init>", "()V"⟩) ∈ fs_ws := fs_t1 (List.mem_of_getElem? (i := 178) rfl) rfl
theorem tw_1_179 : (Cond.code ⟨"FlowShelf$Table", "<init>", "()V"⟩ prog_11_method_1_code 1 (Option.none : Option FieldType)) ∈ fs_ws := fs_t1 (List.mem_of_getElem? (i := 179) rfl) rfl
theorem tw_1_180 : (Cond.methodLink "FlowShelf$Table" 3 ⟨"java/lang/Object", "<init>", "()V"⟩) ∈ fs_ws := fs_t1 (List.mem_of_getElem? (i := 180) rfl) rfl
theorem tw_1_181 : (Cond.classLink "FlowShelf$Table" 9 "java/util/ArrayList") ∈ fs_ws := fs_t1 (List.mem_of_getElem? (i := 181) rfl) rfl
theorem tw_1_182 : (Cond.methodLink "FlowShelf$Table" 11 ⟨"java/util/ArrayList", "<init>", "()V"⟩) ∈ fs_ws := fs_t1 (List.mem_of_getElem? (i := 182) rfl) rfl
theorem tw_1_183 : (Cond.fieldLink "FlowShelf$Table" 12 "FlowShelf$Table" "list" "Ljava/util/ArrayList;") ∈ fs_ws := fs_t1 (List.mem_of_getElem? (i := 183) rfl) rfl
theorem tw_1_184 : (Cond.fieldLink "FlowShelf$Collector" 86 "FlowShelf$Table" "list" "Ljava/util/ArrayList;") ∈ fs_ws := fs_t1 (List.mem_of_getElem? (i := 184) rfl) rfl
theorem tw_1_185 : (Cond.fieldLink "FlowShelf" 251 "FlowShelf$Table" "list" "Ljava/util/ArrayList;") ∈ fs_ws := fs_t1 (List.mem_of_getElem? (i := 185) rfl) rfl
theorem tw_1_186 : (Cond.fieldLink "FlowShelf$Table" 18 "FlowShelf$Table" "partner" "[I") ∈ fs_ws := fs_t1 (List.mem_of_getElem? (i := 186) rfl) rfl
theorem tw_1_187 : (Cond.fieldLink "FlowShelf$Table" 22 "FlowShelf$Table" "order" "[I") ∈ fs_ws := fs_t1 (List.mem_of_getElem? (i := 187) rfl) rfl
theorem tw_1_188 : (Cond.fieldLink "FlowShelf$Table" 69 "FlowShelf$Table" "ordered" "I") ∈ fs_ws := fs_t1 (List.mem_of_getElem? (i := 188) rfl) rfl
theorem tw_1_189 : (Cond.fieldLink "FlowShelf$Table" 54 "FlowShelf$Table" "pairedRows" "I") ∈ fs_ws := fs_t1 (List.mem_of_getElem? (i := 189) rfl) rfl
theorem tw_1_201 : (Cond.classLink "FlowShelf$Collector" 28 "FlowShelf$Ledger") ∈ fs_ws := fs_t1 (List.mem_of_getElem? (i := 201) rfl) rfl
theorem tw_1_202 : (Cond.instantiable "FlowShelf$Ledger" 6) ∈ fs_ws := fs_t1 (List.mem_of_getElem? (i := 202) rfl) rfl
theorem tw_1_204 : (Cond.instanceMethod ⟨"FlowShelf$Ledger", "<init>", "()V"⟩) ∈ fs_ws := fs_t1 (List.mem_of_getElem? (i := 204) rfl) rfl
theorem tw_1_205 : (Cond.code ⟨"FlowShelf$Ledger", "<init>", "()V"⟩ prog_7_method_1_code 1 (Option.none : Option FieldType)) ∈ fs_ws := fs_t1 (List.mem_of_getElem? (i := 205) rfl) rfl
theorem tw_1_206 : (Cond.methodLink "FlowShelf$Ledger" 3 ⟨"java/lang/Object", "<init>", "()V"⟩) ∈ fs_ws := fs_t1 (List.mem_of_getElem? (i := 206) rfl) rfl
theorem tw_1_207 : (Cond.fieldLink "FlowShelf$Ledger" 9 "FlowShelf$Ledger" "heard" "[Z") ∈ fs_ws := fs_t1 (List.mem_of_getElem? (i := 207) rfl) rfl
theorem tw_1_208 : (Cond.fieldLink "FlowShelf$Collector" 128 "FlowShelf$Ledger" "dropped" "I") ∈ fs_ws := fs_t1 (List.mem_of_getElem? (i := 208) rfl) rfl
theorem tw_1_209 : (Cond.fieldLink "FlowShelf" 293 "FlowShelf$Ledger" "dropped" "I") ∈ fs_ws := fs_t1 (List.mem_of_getElem? (i := 209) rfl) rfl
theorem tw_1_210 : (Cond.fieldLink "FlowShelf$Collector" 107 "FlowShelf$Ledger" "spoilt" "I") ∈ fs_ws := fs_t1 (List.mem_of_getElem? (i := 210) rfl) rfl
theorem tw_1_211 : (Cond.fieldLink "FlowShelf" 296 "FlowShelf$Ledger" "spoilt" "I") ∈ fs_ws := fs_t1 (List.mem_of_getElem? (i := 211) rfl) rfl
theorem tw_1_212 : (Cond.fieldLink "FlowShelf$Ledger" 31 "FlowShelf$Ledger" "notedSampler" "I") ∈ fs_ws := fs_t1 (List.mem_of_getElem? (i := 212) rfl) rfl
theorem tw_1_213 : (Cond.fieldLink "FlowShelf" 299 "FlowShelf$Ledger" "notedSampler" "I") ∈ fs_ws := fs_t1 (List.mem_of_getElem? (i := 213) rfl) rfl
theorem tw_1_214 : (Cond.fieldLink "FlowShelf$Ledger" 35 "FlowShelf$Ledger" "notedEpoch" "I") ∈ fs_ws := fs_t1 (List.mem_of_getElem? (i := 214) rfl) rfl
theorem tw_1_215 : (Cond.fieldLink "FlowShelf$Ledger" 41 "FlowShelf$Ledger" "notedBefore" "I") ∈ fs_ws := fs_t1 (List.mem_of_getElem? (i := 215) rfl) rfl
theorem tw_1_229 : (Cond.arrayClass FieldType.boolean) ∈ fs_ws := fs_t1 (List.mem_of_getElem? (i := 229) rfl) rfl
theorem tw_1_230 : (Cond.fieldLink "FlowShelf$Collector" 12 "FlowShelf$Collector" "known" "Ljava/util/ArrayList;") ∈ fs_ws := fs_t1 (List.mem_of_getElem? (i := 230) rfl) rfl
theorem tw_1_231 : (Cond.fieldLink "FlowShelf$Collector" 18 "FlowShelf$Collector" "shelf" "Ljava/util/ArrayList;") ∈ fs_ws := fs_t1 (List.mem_of_getElem? (i := 231) rfl) rfl
theorem tw_1_232 : (Cond.fieldLink "FlowShelf$Collector" 24 "FlowShelf$Collector" "table" "LFlowShelf$Table;") ∈ fs_ws := fs_t1 (List.mem_of_getElem? (i := 232) rfl) rfl
theorem tw_1_233 : (Cond.fieldLink "FlowShelf" 247 "FlowShelf$Collector" "table" "LFlowShelf$Table;") ∈ fs_ws := fs_t1 (List.mem_of_getElem? (i := 233) rfl) rfl
theorem tw_1_234 : (Cond.fieldLink "FlowShelf$Collector" 31 "FlowShelf$Collector" "ofFirst" "LFlowShelf$Ledger;") ∈ fs_ws := fs_t1 (List.mem_of_getElem? (i := 234) rfl) rfl
theorem tw_1_235 : (Cond.fieldLink "FlowShelf$Collector" 35 "FlowShelf$Collector" "ofSecond" "LFlowShelf$Ledger;") ∈ fs_ws := fs_t1 (List.mem_of_getElem? (i := 235) rfl) rfl
theorem tw_2_7 : (Cond.fieldLink "FlowShelf" 12 "FlowShelf" "first" "LFlowShelf$Exporter;") ∈ fs_ws := fs_t2 (List.mem_of_getElem? (i := 7) rfl) rfl
theorem tw_2_8 : (Cond.fieldLink "FlowShelf" 18 "FlowShelf" "second" "LFlowShelf$Exporter;") ∈ fs_ws := fs_t2 (List.mem_of_getElem? (i := 8) rfl) rfl
theorem tw_2_9 : (Cond.fieldLink "FlowShelf" 24 "FlowShelf" "reports" "Ljava/util/ArrayList;") ∈ fs_ws := fs_t2 (List.mem_of_getElem? (i := 9) rfl) rfl
theorem tw_2_10 : (Cond.fieldLink "FlowShelf" 31 "FlowShelf" "collector" "LFlowShelf$Collector;") ∈ fs_ws := fs_t2 (List.mem_of_getElem? (i := 10) rfl) rfl
theorem tw_2_20 : (Cond.methodLink "FlowShelfLaw" 135 ⟨"FlowShelf", "size", "(I)I"⟩) ∈ fs_ws := fs_t2 (List.mem_of_getElem? (i := 20) rfl) rfl
theorem tw_2_21 : (Cond.instanceMethod ⟨"FlowShelf", "size", "(I)I"⟩) ∈ fs_ws := fs_t2 (List.mem_of_getElem? (i := 21) rfl) rfl
theorem tw_2_22 : (Cond.selects "FlowShelf" ⟨"FlowShelf", "size", "(I)I"⟩ ⟨"FlowShelf", "size", "(I)I"⟩) ∈ fs_ws := fs_t2 (List.mem_of_getElem? (i := 22) rfl) rfl
theorem tw_2_23 : (Cond.code ⟨"FlowShelf", "size", "(I)I"⟩ prog_1_method_14_code 2 (Option.some FieldType.int)) ∈ fs_ws := fs_t2 (List.mem_of_getElem? (i := 23) rfl) rfl
theorem tw_2_24 : (Cond.methodLink "FlowShelf" 201 ⟨"FlowShelf", "isReport", "(I)Z"⟩) ∈ fs_ws := fs_t2 (List.mem_of_getElem? (i := 24) rfl) rfl
theorem tw_2_26 : (Cond.instanceMethod ⟨"FlowShelf", "isReport", "(I)Z"⟩) ∈ fs_ws := fs_t2 (List.mem_of_getElem? (i := 26) rfl) rfl
theorem tw_2_27 : (Cond.code ⟨"FlowShelf", "isReport", "(I)Z"⟩ prog_1_method_29_code 2 (Option.some FieldType.boolean)) ∈ fs_ws := fs_t2 (List.mem_of_getElem? (i := 27) rfl) rfl
theorem tw_2_28 : (Cond.methodLink "FlowShelf" 88 ⟨"java/util/ArrayList", "size", "()I"⟩) ∈ fs_ws := fs_t2 (List.mem_of_getElem? (i := 28) rfl) rfl
theorem tw_2_29 : (Cond.instanceMethod ⟨"java/util/ArrayList", "size", "()I"⟩) ∈ fs_ws := fs_t2 (List.mem_of_getElem? (i := 29) rfl) rfl
theorem tw_2_30 : (Cond.selects "java/util/ArrayList" ⟨"java/util/ArrayList", "size", "()I"⟩ ⟨"java/util/ArrayList", "size", "()I"⟩) ∈ fs_ws := fs_t2 (List.mem_of_getElem? (i := 30) rfl) rfl
theorem tw_2_31 : (Cond.code ⟨"java/util/ArrayList", "size", "()I"⟩ prog_29_method_8_code 1 (Option.some FieldType.int)) ∈ fs_ws := fs_t2 (List.mem_of_getElem? (i := 31) rfl) rfl
theorem tw_2_32 : (Cond.methodLink "FlowShelf" 96 ⟨"java/util/ArrayList", "get", "(I)Ljava/lang/Object;"⟩) ∈ fs_ws := fs_t2 (List.mem_of_getElem? (i := 32) rfl) rfl
theorem tw_2_33 : (Cond.instanceMethod ⟨"java/util/ArrayList", "get", "(I)Ljava/lang/Object;"⟩) ∈ fs_ws := fs_t2 (List.mem_of_getElem? (i := 33) rfl) rfl
theorem tw_2_34 : (Cond.selects "java/util/ArrayList" ⟨"java/util/ArrayList", "get", "(I)Ljava/lang/Object;"⟩ ⟨"java/util/ArrayList", "get", "(I)Ljava/lang/Object;"⟩) ∈ fs_ws := fs_t2 (List.mem_of_getElem? (i := 34) rfl) rfl
theorem tw_2_35 : (Cond.code ⟨"java/util/ArrayList", "get", "(I)Ljava/lang/Object;"⟩ prog_29_method_20_code 2 (Option.some (FieldType.object "java/lang/Object"))) ∈ fs_ws := fs_t2 (List.mem_of_getElem? (i := 35) rfl) rfl
theorem tw_2_36 : (Cond.methodLink "java/util/ArrayList" 118 ⟨"java/util/Objects", "checkIndex", "(II)I"⟩) ∈ fs_ws := fs_t2 (List.mem_of_getElem? (i := 36) rfl) rfl
theorem tw_2_37 : (Cond.static ⟨"java/util/Objects", "checkIndex", "(II)I"⟩) ∈ fs_ws := fs_t2 (List.mem_of_getElem? (i := 37) rfl) rfl
theorem tw_2_38 : (Cond.code ⟨"java/util/Objects", "checkIndex", "(II)I"⟩ prog_33_method_17_code 2 (Option.some FieldType.int)) ∈ fs_ws := fs_t2 (List.mem_of_getElem? (i := 38) rfl) rfl
theorem tw_2_39 : (Cond.methodLink "java/util/Objects" 105 ⟨"jdk/internal/util/Preconditions", "checkIndex", "(IILjava/util/function/BiFunction;)I"⟩) ∈ fs_ws := fs_t2 (List.mem_of_getElem? (i := 39) rfl) rfl
theorem tw_2_40 : (Cond.static ⟨"jdk/internal/util/Preconditions", "checkIndex", "(IILjava/util/function/BiFunction;)I"⟩) ∈ fs_ws := fs_t2 (List.mem_of_getElem? (i := 40) rfl) rfl
theorem tw_2_41 : (Cond.code ⟨"jdk/internal/util/Preconditions", "checkIndex", "(IILjava/util/function/BiFunction;)I"⟩ prog_37_method_11_code 3 (Option.some FieldType.int)) ∈ fs_ws := fs_t2 (List.mem_of_getElem? (i := 41) rfl) rfl
theorem tw_2_42 : (Cond.methodLink "java/util/ArrayList" 123 ⟨"java/util/ArrayList", "elementData", "(I)Ljava/lang/Object;"⟩) ∈ fs_ws := fs_t2 (List.mem_of_getElem? (i := 42) rfl) rfl
theorem tw_2_43 : (Cond.instanceMethod ⟨"java/util/ArrayList", "elementData", "(I)Ljava/lang/Object;"⟩) ∈ fs_ws := fs_t2 (List.mem_of_getElem? (i := 43) rfl) rfl
theorem tw_2_44 : (Cond.selects "java/util/ArrayList" ⟨"java/util/ArrayList", "elementData", "(I)Ljava/lang/Object;"⟩ ⟨"java/util/ArrayList", "elementData", "(I)Ljava/lang/Object;"⟩) ∈ fs_ws := fs_t2 (List.mem_of_getElem? (i := 44) rfl) rfl
theorem tw_2_45 : (Cond.code ⟨"java/util/ArrayList", "elementData", "(I)Ljava/lang/Object;"⟩ prog_29_method_18_code 2 (Option.some (FieldType.object "java/lang/Object"))) ∈ fs_ws := fs_t2 (List.mem_of_getElem? (i := 45) rfl) rfl
theorem tw_2_46 : (Cond.classLink "FlowShelf" 204 "FlowShelf$Report") ∈ fs_ws := fs_t2 (List.mem_of_getElem? (i := 46) rfl) rfl
theorem tw_2_47 : (Cond.methodLink "FlowShelfLaw" 149 ⟨"FlowShelf", "rows", "()I"⟩) ∈ fs_ws := fs_t2 (List.mem_of_getElem? (i := 47) rfl) rfl
theorem tw_2_48 : (Cond.instanceMethod ⟨"FlowShelf", "rows", "()I"⟩) ∈ fs_ws := fs_t2 (List.mem_of_getElem? (i := 48) rfl) rfl
theorem tw_2_49 : (Cond.selects "FlowShelf" ⟨"FlowShelf", "rows", "()I"⟩ ⟨"FlowShelf", "rows", "()I"⟩) ∈ fs_ws := fs_t2 (List.mem_of_getElem? (i := 49) rfl) rfl
theorem tw_2_50 : (Cond.code ⟨"FlowShelf", "rows", "()I"⟩ prog_1_method_18_code 1 (Option.some FieldType.int)) ∈ fs_ws := fs_t2 (List.mem_of_getElem? (i := 50) rfl) rfl
theorem tw_2_51 : (Cond.methodLink "FlowShelfLaw" 87 ⟨"FlowShelfLaw", "packet", "(LFlowShelf;IIIIIZ[J)I"⟩) ∈ fs_ws := fs_t2 (List.mem_of_getElem? (i := 51) rfl) rfl
theorem tw_2_52 : (Cond.static ⟨"FlowShelfLaw", "packet", "(LFlowShelf;IIIIIZ[J)I"⟩) ∈ fs_ws := fs_t2 (List.mem_of_getElem? (i := 52) rfl) rfl
theorem tw_2_53 : (Cond.codeWith ⟨"FlowShelfLaw", "packet", "(LFlowShelf;IIIIIZ[J)I"⟩ method_3_code 9 (Option.some FieldType.int) [(0, 25, 28, 13), (0, 25, 32, 15)]) ∈ fs_ws := fs_t2 (List.mem_of_getElem? (i := 53) rfl) rfl
theorem tw_2_54 : (Cond.classLink "FlowShelfLaw" 13 "java/lang/IllegalArgumentException") ∈ fs_ws := fs_t2 (List.mem_of_getElem? (i := 54) rfl) rfl
theorem tw_2_55 : (Cond.classLink "FlowShelfLaw" 15 "java/lang/IllegalStateException") ∈ fs_ws := fs_t2 (List.mem_of_getElem? (i := 55) rfl) rfl
theorem tw_2_56 : (Cond.methodLink "FlowShelfLaw" 7 ⟨"FlowShelf", "packet", "(IIIIIZ)Z"⟩) ∈ fs_ws := fs_t2 (List.mem_of_getElem? (i := 56) rfl) rfl
theorem tw_2_57 : (Cond.instanceMethod ⟨"FlowShelf", "packet", "(IIIIIZ)Z"⟩) ∈ fs_ws := fs_t2 (List.mem_of_getElem? (i := 57) rfl) rfl
theorem tw_2_58 : (Cond.selects "FlowShelf" ⟨"FlowShelf", "packet", "(IIIIIZ)Z"⟩ ⟨"FlowShelf", "packet", "(IIIIIZ)Z"⟩) ∈ fs_ws := fs_t2 (List.mem_of_getElem? (i := 58) rfl) rfl
theorem tw_2_59 : (Cond.code ⟨"FlowShelf", "packet", "(IIIIIZ)Z"⟩ prog_1_method_2_code 8 (Option.some FieldType.boolean)) ∈ fs_ws := fs_t2 (List.mem_of_getElem? (i := 59) rfl) rfl
theorem tw_2_60 : (Cond.methodLink "FlowShelf" 35 ⟨"FlowShelf", "exporterOf", "(I)LFlowShelf$Exporter;"⟩) ∈ fs_ws := fs_t2 (List.mem_of_getElem? (i := 60) rfl) rfl
theorem tw_2_62 : (Cond.instanceMethod ⟨"FlowShelf", "exporterOf", "(I)LFlowShelf$Exporter;"⟩) ∈ fs_ws := fs_t2 (List.mem_of_getElem? (i := 62) rfl) rfl
theorem tw_2_63 : (Cond.code ⟨"FlowShelf", "exporterOf", "(I)LFlowShelf$Exporter;"⟩ prog_1_method_27_code 2 (Option.some (FieldType.object "FlowShelf$Exporter"))) ∈ fs_ws := fs_t2 (List.mem_of_getElem? (i := 63) rfl) rfl
theorem tw_2_64 : (Cond.methodLink "FlowShelf" 269 ⟨"FlowShelf", "isExporter", "(I)Z"⟩) ∈ fs_ws := fs_t2 (List.mem_of_getElem? (i := 64) rfl) rfl
theorem tw_2_65 : (Cond.static ⟨"FlowShelf", "isExporter", "(I)Z"⟩) ∈ fs_ws := fs_t2 (List.mem_of_getElem? (i := 65) rfl) rfl
theorem tw_2_66 : (Cond.code ⟨"FlowShelf", "isExporter", "(I)Z"⟩ prog_1_method_23_code 1 (Option.some FieldType.boolean)) ∈ fs_ws := fs_t2 (List.mem_of_getElem? (i := 66) rfl) rfl
theorem tw_2_67 : (Cond.classLink "FlowShelf" 43 "java/lang/IllegalArgumentException") ∈ fs_ws := fs_t2 (List.mem_of_getElem? (i := 67) rfl) rfl
theorem tw_2_68 : (Cond.instantiable "java/lang/IllegalArgumentException" 6) ∈ fs_ws := fs_t2 (List.mem_of_getElem? (i := 68) rfl) rfl
theorem tw_2_76 : (Cond.selects "java/lang/IllegalArgumentException" ⟨"java/lang/Throwable", "fillInStackTrace", "(I)Ljava/lang/Throwable;"⟩ ⟨"java/lang/Throwable", "fillInStackTrace", "(I)Ljava/lang/Throwable;"⟩) ∈ fs_ws := fs_t2 (List.mem_of_getElem? (i := 76) rfl) rfl
theorem tw_2_77 : (Cond.selects "java/lang/IllegalArgumentException" ⟨"java/lang/Throwable", "fillInStackTrace", "()Ljava/lang/Throwable;"⟩ ⟨"java/lang/Throwable", "fillInStackTrace", "()Ljava/lang/Throwable;"⟩) ∈ fs_ws := fs_t2 (List.mem_of_getElem? (i := 77) rfl) rfl
theorem tw_2_88 : (Cond.fieldLink "java/lang/Throwable" 198 "java/lang/Throwable" "backtrace" "Ljava/lang/Object;") ∈ fs_ws := fs_t2 (List.mem_of_getElem? (i := 88) rfl) rfl
theorem tw_2_90 : (Cond.instanceMethod ⟨"java/lang/Throwable", "<init>", "()V"⟩) ∈ fs_ws := fs_t2 (List.mem_of_getElem? (i := 90) rfl) rfl
theorem tw_2_91 : (Cond.code ⟨"java/lang/Throwable", "<init>", "()V"⟩ prog_25_method_1_code 1 (Option.none : Option FieldType)) ∈ fs_ws := fs_t2 (List.mem_of_getElem? (i := 91) rfl) rfl
theorem tw_2_92 : (Cond.methodLink "java/lang/Throwable" 1 ⟨"java/lang/Object", "<init>", "()V"⟩) ∈ fs_ws := fs_t2 (List.mem_of_getElem? (i := 92) rfl) rfl
theorem tw_2_93 : (Cond.fieldLink "java/lang/Throwable" 13 "java/lang/Throwable" "UNASSIGNED_STACK" "[Ljava/lang/StackTraceElement;") ∈ fs_ws := fs_t2 (List.mem_of_getElem? (i := 93) rfl) rfl
theorem tw_2_95 : (Cond.fieldLink "java/lang/Throwable" 20 "java/lang/Throwable" "SUPPRESSED_SENTINEL" "Ljava/util/List;") ∈ fs_ws := fs_t2 (List.mem_of_getElem? (i := 95) rfl) rfl
theorem tw_2_97 : (Cond.methodLink "java/lang/Throwable" 27 ⟨"java/lang/Throwable", "fillInStackTrace", "()Ljava/lang/Throwable;"⟩) ∈ fs_ws := fs_t2 (List.mem_of_getElem? (i := 97) rfl) rfl
theorem tw_2_98 : (Cond.instanceMethod ⟨"java/lang/Throwable", "fillInStackTrace", "()Ljava/lang/Throwable;"⟩) ∈ fs_ws := fs_t2 (List.mem_of_getElem? (i := 98) rfl) rfl
theorem tw_2_100 : (Cond.selects "java/lang/IllegalStateException" ⟨"java/lang/Throwable", "fillInStackTrace", "()Ljava/lang/Throwable;"⟩ ⟨"java/lang/Throwable", "fillInStackTrace", "()Ljava/lang/Throwable;"⟩) ∈ fs_ws := fs_t2 (List.mem_of_getElem? (i := 100) rfl) rfl
theorem tw_2_101 : (Cond.selects "java/lang/IndexOutOfBoundsException" ⟨"java/lang/Throwable", "fillInStackTrace", "()Ljava/lang/Throwable;"⟩ ⟨"java/lang/Throwable", "fillInStackTrace", "()Ljava/lang/Throwable;"⟩) ∈ fs_ws := fs_t2 (List.mem_of_getElem? (i := 101) rfl) rfl
theorem tw_2_102 : (Cond.selects "java/lang/UnsupportedOperationException" ⟨"java/lang/Throwable", "fillInStackTrace", "()Ljava/lang/Throwable;"⟩ ⟨"java/lang/Throwable", "fillInStackTrace", "()Ljava/lang/Throwable;"⟩) ∈ fs_ws := fs_t2 (List.mem_of_getElem? (i := 102) rfl) rfl
theorem tw_2_104 : (Cond.methodLink "java/lang/Throwable" 202 ⟨"java/lang/Throwable", "fillInStackTrace", "(I)Ljava/lang/Throwable;"⟩) ∈ fs_ws := fs_t2 (List.mem_of_getElem? (i := 104) rfl) rfl
theorem tw_2_106 : (Cond.instanceMethod ⟨"java/lang/Throwable", "fillInStackTrace", "(I)Ljava/lang/Throwable;"⟩) ∈ fs_ws := fs_t2 (List.mem_of_getElem? (i := 106) rfl) rfl
theorem tw_2_107 : (Cond.instantiable "java/lang/Throwable" 6) ∈ fs_ws := fs_t2 (List.mem_of_getElem? (i := 107) rfl) rfl
theorem tw_2_108 : (Cond.native ⟨"java/lang/Throwable", "fillInStackTrace", "(I)Ljava/lang/Throwable;"⟩) ∈ fs_ws := fs_t2 (List.mem_of_getElem? (i := 108) rfl) rfl
theorem tw_2_110 : (Cond.methodLink "FlowShelf" 47 ⟨"java/lang/IllegalArgumentException", "<init>", "(Ljava/lang/String;)V"⟩) ∈ fs_ws := fs_t2 (List.mem_of_getElem? (i := 110) rfl) rfl
theorem tw_2_111 : (Cond.instanceMethod ⟨"java/lang/IllegalArgumentException", "<init>", "(Ljava/lang/String;)V"⟩) ∈ fs_ws := fs_t2 (List.mem_of_getElem? (i := 111) rfl) rfl
theorem tw_2_112 : (Cond.code ⟨"java/lang/IllegalArgumentException", "<init>", "(Ljava/lang/String;)V"⟩ prog_17_method_2_code 2 (Option.none : Option FieldType)) ∈ fs_ws := fs_t2 (List.mem_of_getElem? (i := 112) rfl) rfl
theorem tw_2_113 : (Cond.methodLink "java/lang/IllegalArgumentException" 7 ⟨"java/lang/RuntimeException", "<init>", "(Ljava/lang/String;)V"⟩) ∈ fs_ws := fs_t2 (List.mem_of_getElem? (i := 113) rfl) rfl
theorem tw_2_114 : (Cond.instanceMethod ⟨"java/lang/RuntimeException", "<init>", "(Ljava/lang/String;)V"⟩) ∈ fs_ws := fs_t2 (List.mem_of_getElem? (i := 114) rfl) rfl
theorem tw_2_115 : (Cond.code ⟨"java/lang/RuntimeException", "<init>", "(Ljava/lang/String;)V"⟩ prog_22_method_2_code 2 (Option.none : Option FieldType)) ∈ fs_ws := fs_t2 (List.mem_of_getElem? (i := 115) rfl) rfl
theorem tw_2_116 : (Cond.methodLink "java/lang/RuntimeException" 7 ⟨"java/lang/Exception", "<init>", "(Ljava/lang/String;)V"⟩) ∈ fs_ws := fs_t2 (List.mem_of_getElem? (i := 116) rfl) rfl
theorem tw_2_117 : (Cond.instanceMethod ⟨"java/lang/Exception", "<init>", "(Ljava/lang/String;)V"⟩) ∈ fs_ws := fs_t2 (List.mem_of_getElem? (i := 117) rfl) rfl
theorem tw_2_118 : (Cond.code ⟨"java/lang/Exception", "<init>", "(Ljava/lang/String;)V"⟩ prog_16_method_2_code 2 (Option.none : Option FieldType)) ∈ fs_ws := fs_t2 (List.mem_of_getElem? (i := 118) rfl) rfl
theorem tw_2_119 : (Cond.methodLink "java/lang/Exception" 7 ⟨"java/lang/Throwable", "<init>", "(Ljava/lang/String;)V"⟩) ∈ fs_ws := fs_t2 (List.mem_of_getElem? (i := 119) rfl) rfl
theorem tw_2_120 : (Cond.instanceMethod ⟨"java/lang/Throwable", "<init>", "(Ljava/lang/String;)V"⟩) ∈ fs_ws := fs_t2 (List.mem_of_getElem? (i := 120) rfl) rfl
theorem tw_2_121 : (Cond.code ⟨"java/lang/Throwable", "<init>", "(Ljava/lang/String;)V"⟩ prog_25_method_2_code 2 (Option.none : Option FieldType)) ∈ fs_ws := fs_t2 (List.mem_of_getElem? (i := 121) rfl) rfl
theorem tw_2_122 : (Cond.fieldLink "java/lang/Throwable" 198 "java/lang/Throwable" "backtrace" "Ljava/lang/Object;") ∈ fs_ws := fs_t2 (List.mem_of_getElem? (i := 122) rfl) rfl
theorem tw_2_123 : (Cond.fieldLink "java/lang/Throwable" 31 "java/lang/Throwable" "detailMessage" "Ljava/lang/String;") ∈ fs_ws := fs_t2 (List.mem_of_getElem? (i := 123) rfl) rfl
theorem tw_2_124 : (Cond.fieldLink "java/lang/Throwable" 7 "java/lang/Throwable" "cause" "Ljava/lang/Throwable;") ∈ fs_ws := fs_t2 (List.mem_of_getElem? (i := 124) rfl) rfl
theorem tw_2_125 : (Cond.fieldLink "java/lang/Throwable" 17 "java/lang/Throwable" "stackTrace" "[Ljava/lang/StackTraceElement;") ∈ fs_ws := fs_t2 (List.mem_of_getElem? (i := 125) rfl) rfl
theorem tw_2_126 : (Cond.fieldLink "java/lang/Throwable" 24 "java/lang/Throwable" "suppressedExceptions" "Ljava/util/List;") ∈ fs_ws := fs_t2 (List.mem_of_getElem? (i := 126) rfl) rfl
theorem tw_2_135 : (Cond.arrayClass FieldType.byte) ∈ fs_ws := fs_t2 (List.mem_of_getElem? (i := 135) rfl) rfl
theorem tw_2_136 : (Cond.methodLink "FlowShelf" 39 ⟨"FlowShelf", "isByte", "(I)Z"⟩) ∈ fs_ws := fs_t2 (List.mem_of_getElem? (i := 136) rfl) rfl
theorem tw_2_137 : (Cond.static ⟨"FlowShelf", "isByte", "(I)Z"⟩) ∈ fs_ws := fs_t2 (List.mem_of_getElem? (i := 137) rfl) rfl
theorem tw_2_138 : (Cond.code ⟨"FlowShelf", "isByte", "(I)Z"⟩ prog_1_method_24_code 1 (Option.some FieldType.boolean)) ∈ fs_ws := fs_t2 (List.mem_of_getElem? (i := 138) rfl) rfl
theorem tw_2_141 : (Cond.methodLink "FlowShelf" 52 ⟨"FlowShelf$Exporter", "flowsHeld", "()I"⟩) ∈ fs_ws := fs_t2 (List.mem_of_getElem? (i := 141) rfl) rfl
theorem tw_2_142 : (Cond.instanceMethod ⟨"FlowShelf$Exporter", "flowsHeld", "()I"⟩) ∈ fs_ws := fs_t2 (List.mem_of_getElem? (i := 142) rfl) rfl
theorem tw_2_143 : (Cond.selects "FlowShelf$Exporter" ⟨"FlowShelf$Exporter", "flowsHeld", "()I"⟩ ⟨"FlowShelf$Exporter", "flowsHeld", "()I"⟩) ∈ fs_ws := fs_t2 (List.mem_of_getElem? (i := 143) rfl) rfl
theorem tw_2_144 : (Cond.code ⟨"FlowShelf$Exporter", "flowsHeld", "()I"⟩ prog_4_method_2_code 1 (Option.some FieldType.int)) ∈ fs_ws := fs_t2 (List.mem_of_getElem? (i := 144) rfl) rfl
theorem tw_2_145 : (Cond.methodLink "FlowShelf$Exporter" 37 ⟨"java/util/ArrayList", "size", "()I"⟩) ∈ fs_ws := fs_t2 (List.mem_of_getElem? (i := 145) rfl) rfl
theorem tw_2_146 : (Cond.classLink "FlowShelf" 56 "java/lang/IllegalStateException") ∈ fs_ws := fs_t2 (List.mem_of_getElem? (i := 146) rfl) rfl
theorem tw_2_147 : (Cond.instantiable "java/lang/IllegalStateException" 6) ∈ fs_ws := fs_t2 (List.mem_of_getElem? (i := 147) rfl) rfl
theorem tw_2_149 : (Cond.selects "java/lang/IllegalStateException" ⟨"java/lang/Throwable", "fillInStackTrace", "(I)Ljava/lang/Throwable;"⟩ ⟨"java/lang/Throwable", "fillInStackTrace", "(I)Ljava/lang/Throwable;"⟩) ∈ fs_ws := fs_t2 (List.mem_of_getElem? (i := 149) rfl) rfl
theorem tw_2_156 : (Cond.methodLink "FlowShelf" 60 ⟨"java/lang/IllegalStateException", "<init>", "(Ljava/lang/String;)V"⟩) ∈ fs_ws := fs_t2 (List.mem_of_getElem? (i := 156) rfl) rfl
theorem tw_2_157 : (Cond.instanceMethod ⟨"java/lang/IllegalStateException", "<init>", "(Ljava/lang/String;)V"⟩) ∈ fs_ws := fs_t2 (List.mem_of_getElem? (i := 157) rfl) rfl
theorem tw_2_158 : (Cond.code ⟨"java/lang/IllegalStateException", "<init>", "(Ljava/lang/String;)V"⟩ prog_18_method_2_code 2 (Option.none : Option FieldType)) ∈ fs_ws := fs_t2 (List.mem_of_getElem? (i := 158) rfl) rfl
theorem tw_2_159 : (Cond.methodLink "java/lang/IllegalStateException" 7 ⟨"java/lang/RuntimeException", "<init>", "(Ljava/lang/String;)V"⟩) ∈ fs_ws := fs_t2 (List.mem_of_getElem? (i := 159) rfl) rfl
theorem tw_2_162 : (Cond.methodLink "FlowShelf" 61 ⟨"FlowShelf$Exporter", "samplesNext", "()Z"⟩) ∈ fs_ws := fs_t2 (List.mem_of_getElem? (i := 162) rfl) rfl
theorem tw_2_163 : (Cond.instanceMethod ⟨"FlowShelf$Exporter", "samplesNext", "()Z"⟩) ∈ fs_ws := fs_t2 (List.mem_of_getElem? (i := 163) rfl) rfl
theorem tw_2_164 : (Cond.selects "FlowShelf$Exporter" ⟨"FlowShelf$Exporter", "samplesNext", "()Z"⟩ ⟨"FlowShelf$Exporter", "samplesNext", "()Z"⟩) ∈ fs_ws := fs_t2 (List.mem_of_getElem? (i := 164) rfl) rfl
theorem tw_2_165 : (Cond.code ⟨"FlowShelf$Exporter", "samplesNext", "()Z"⟩ prog_4_method_4_code 2 (Option.some FieldType.boolean)) ∈ fs_ws := fs_t2 (List.mem_of_getElem? (i := 165) rfl) rfl
theorem tw_2_166 : (Cond.methodLink "FlowShelf" 65 ⟨"FlowShelf$Exporter", "watch", "(IIIIZ)V"⟩) ∈ fs_ws := fs_t2 (List.mem_of_getElem? (i := 166) rfl) rfl
theorem tw_2_167 : (Cond.instanceMethod ⟨"FlowShelf$Exporter", "watch", "(IIIIZ)V"⟩) ∈ fs_ws := fs_t2 (List.mem_of_getElem? (i := 167) rfl) rfl
theorem tw_2_168 : (Cond.selects "FlowShelf$Exporter" ⟨"FlowShelf$Exporter", "watch", "(IIIIZ)V"⟩ ⟨"FlowShelf$Exporter", "watch", "(IIIIZ)V"⟩) ∈ fs_ws := fs_t2 (List.mem_of_getElem? (i := 168) rfl) rfl
theorem tw_2_169 : (Cond.code ⟨"FlowShelf$Exporter", "watch", "(IIIIZ)V"⟩ prog_4_method_5_code 7 (Option.none : Option FieldType)) ∈ fs_ws := fs_t2 (List.mem_of_getElem? (i := 169) rfl) rfl
theorem tw_2_170 : (Cond.methodLink "FlowShelf$Exporter" 44 ⟨"FlowShelf$Exporter", "placeInCache", "(III)I"⟩) ∈ fs_ws := fs_t2 (List.mem_of_getElem? (i := 170) rfl) rfl
theorem tw_2_171 : (Cond.instanceMethod ⟨"FlowShelf$Exporter", "placeInCache", "(III)I"⟩) ∈ fs_ws := fs_t2 (List.mem_of_getElem? (i := 171) rfl) rfl
theorem tw_2_172 : (Cond.selects "FlowShelf$Exporter" ⟨"FlowShelf$Exporter", "placeInCache", "(III)I"⟩ ⟨"FlowShelf$Exporter", "placeInCache", "(III)I"⟩) ∈ fs_ws := fs_t2 (List.mem_of_getElem? (i := 172) rfl) rfl
theorem tw_2_173 : (Cond.code ⟨"FlowShelf$Exporter", "placeInCache", "(III)I"⟩ prog_4_method_6_code 5 (Option.some FieldType.int)) ∈ fs_ws := fs_t2 (List.mem_of_getElem? (i := 173) rfl) rfl
theorem tw_2_174 : (Cond.methodLink "FlowShelf$Exporter" 67 ⟨"java/util/ArrayList", "get", "(I)Ljava/lang/Object;"⟩) ∈ fs_ws := fs_t2 (List.mem_of_getElem? (i := 174) rfl) rfl
theorem tw_2_175 : (Cond.classLink "FlowShelf$Exporter" 55 "FlowShelf$Flow") ∈ fs_ws := fs_t2 (List.mem_of_getElem? (i := 175) rfl) rfl
theorem tw_2_176 : (Cond.methodLink "FlowShelf$Exporter" 74 ⟨"FlowShelf$Flow", "hasKey", "(III)Z"⟩) ∈ fs_ws := fs_t2 (List.mem_of_getElem? (i := 176) rfl) rfl
theorem tw_2_177 : (Cond.instanceMethod ⟨"FlowShelf$Flow", "hasKey", "(III)Z"⟩) ∈ fs_ws := fs_t2 (List.mem_of_getElem? (i := 177) rfl) rfl
theorem tw_2_178 : (Cond.selects "FlowShelf$Flow" ⟨"FlowShelf$Flow", "hasKey", "(III)Z"⟩ ⟨"FlowShelf$Flow", "hasKey", "(III)Z"⟩) ∈ fs_ws := fs_t2 (List.mem_of_getElem? (i := 178) rfl) rfl
theorem tw_2_179 : (Cond.code ⟨"FlowShelf$Flow", "hasKey", "(III)Z"⟩ prog_5_method_2_code 4 (Option.some FieldType.boolean)) ∈ fs_ws := fs_t2 (List.mem_of_getElem? (i := 179) rfl) rfl
theorem tw_2_180 : (Cond.methodLink "FlowShelf$Exporter" 48 ⟨"FlowShelf$Exporter", "leastRecent", "()I"⟩) ∈ fs_ws := fs_t2 (List.mem_of_getElem? (i := 180) rfl) rfl
theorem tw_2_181 : (Cond.instanceMethod ⟨"FlowShelf$Exporter", "leastRecent", "()I"⟩) ∈ fs_ws := fs_t2 (List.mem_of_getElem? (i := 181) rfl) rfl
theorem tw_2_182 : (Cond.selects "FlowShelf$Exporter" ⟨"FlowShelf$Exporter", "leastRecent", "()I"⟩ ⟨"FlowShelf$Exporter", "leastRecent", "()I"⟩) ∈ fs_ws := fs_t2 (List.mem_of_getElem? (i := 182) rfl) rfl
theorem tw_2_183 : (Cond.code ⟨"FlowShelf$Exporter", "leastRecent", "()I"⟩ prog_4_method_7_code 3 (Option.some FieldType.int)) ∈ fs_ws := fs_t2 (List.mem_of_getElem? (i := 183) rfl) rfl
theorem tw_2_184 : (Cond.methodLink "FlowShelf$Exporter" 51 ⟨"FlowShelf$Exporter", "end", "(II)V"⟩) ∈ fs_ws := fs_t2 (List.mem_of_getElem? (i := 184) rfl) rfl
theorem tw_2_185 : (Cond.instanceMethod ⟨"FlowShelf$Exporter", "end", "(II)V"⟩) ∈ fs_ws := fs_t2 (List.mem_of_getElem? (i := 185) rfl) rfl
theorem tw_2_186 : (Cond.selects "FlowShelf$Exporter" ⟨"FlowShelf$Exporter", "end", "(II)V"⟩ ⟨"FlowShelf$Exporter", "end", "(II)V"⟩) ∈ fs_ws := fs_t2 (List.mem_of_getElem? (i := 186) rfl) rfl
theorem tw_2_187 : (Cond.code ⟨"FlowShelf$Exporter", "end", "(II)V"⟩ prog_4_method_8_code 4 (Option.none : Option FieldType)) ∈ fs_ws := fs_t2 (List.mem_of_getElem? (i := 187) rfl) rfl
theorem tw_2_188 : (Cond.methodLink "FlowShelf$Exporter" 81 ⟨"java/util/ArrayList", "remove", "(I)Ljava/lang/Object;"⟩) ∈ fs_ws := fs_t2 (List.mem_of_getElem? (i := 188) rfl) rfl
theorem tw_2_189 : (Cond.instanceMethod ⟨"java/util/ArrayList", "remove", "(I)Ljava/lang/Object;"⟩) ∈ fs_ws := fs_t2 (List.mem_of_getElem? (i := 189) rfl) rfl
theorem tw_2_190 : (Cond.selects "java/util/ArrayList" ⟨"java/util/ArrayList", "remove", "(I)Ljava/lang/Object;"⟩ ⟨"java/util/ArrayList", "remove", "(I)Ljava/lang/Object;"⟩) ∈ fs_ws := fs_t2 (List.mem_of_getElem? (i := 190) rfl) rfl
theorem tw_2_191 : (Cond.code ⟨"java/util/ArrayList", "remove", "(I)Ljava/lang/Object;"⟩ prog_29_method_29_code 4 (Option.some (FieldType.object "java/lang/Object"))) ∈ fs_ws := fs_t2 (List.mem_of_getElem? (i := 191) rfl) rfl
theorem tw_2_192 : (Cond.methodLink "java/util/ArrayList" 144 ⟨"java/util/ArrayList", "fastRemove", "([Ljava/lang/Object;I)V"⟩) ∈ fs_ws := fs_t2 (List.mem_of_getElem? (i := 192) rfl) rfl
theorem tw_2_194 : (Cond.instanceMethod ⟨"java/util/ArrayList", "fastRemove", "([Ljava/lang/Object;I)V"⟩) ∈ fs_ws := fs_t2 (List.mem_of_getElem? (i := 194) rfl) rfl
theorem tw_2_195 : (Cond.code ⟨"java/util/ArrayList", "fastRemove", "([Ljava/lang/Object;I)V"⟩ prog_29_method_39_code 4 (Option.none : Option FieldType)) ∈ fs_ws := fs_t2 (List.mem_of_getElem? (i := 195) rfl) rfl
theorem tw_2_196 : (Cond.methodLink "java/util/ArrayList" 112 ⟨"java/lang/System", "arraycopy", "(Ljava/lang/Object;ILjava/lang/Object;II)V"⟩) ∈ fs_ws := fs_t2 (List.mem_of_getElem? (i := 196) rfl) rfl
theorem tw_2_197 : (Cond.static ⟨"java/lang/System", "arraycopy", "(Ljava/lang/Object;ILjava/lang/Object;II)V"⟩) ∈ fs_ws := fs_t2 (List.mem_of_getElem? (i := 197) rfl) rfl
theorem tw_2_198 : (Cond.native ⟨"java/lang/System", "arraycopy", "(Ljava/lang/Object;ILjava/lang/Object;II)V"⟩) ∈ fs_ws := fs_t2 (List.mem_of_getElem? (i := 198) rfl) rfl
theorem tw_2_199 : (Cond.methodLink "FlowShelf$Exporter" 63 ⟨"java/util/ArrayList", "add", "(Ljava/lang/Object;)Z"⟩) ∈ fs_ws := fs_t2 (List.mem_of_getElem? (i := 199) rfl) rfl
theorem tw_2_200 : (Cond.instanceMethod ⟨"java/util/ArrayList", "add", "(Ljava/lang/Object;)Z"⟩) ∈ fs_ws := fs_t2 (List.mem_of_getElem? (i := 200) rfl) rfl
theorem tw_2_201 : (Cond.selects "java/util/ArrayList" ⟨"java/util/ArrayList", "add", "(Ljava/lang/Object;)Z"⟩ ⟨"java/util/ArrayList", "add", "(Ljava/lang/Object;)Z"⟩) ∈ fs_ws := fs_t2 (List.mem_of_getElem? (i := 201) rfl) rfl
theorem tw_2_202 : (Cond.code ⟨"java/util/ArrayList", "add", "(Ljava/lang/Object;)Z"⟩ prog_29_method_25_code 2 (Option.some FieldType.boolean)) ∈ fs_ws := fs_t2 (List.mem_of_getElem? (i := 202) rfl) rfl
theorem tw_2_203 : (Cond.methodLink "java/util/ArrayList" 131 ⟨"java/util/ArrayList", "add", "(Ljava/lang/Object;[Ljava/lang/Object;I)V"⟩) ∈ fs_ws := fs_t2 (List.mem_of_getElem? (i := 203) rfl) rfl
theorem tw_2_205 : (Cond.instanceMethod ⟨"java/util/ArrayList", "add", "(Ljava/lang/Object;[Ljava/lang/Object;I)V"⟩) ∈ fs_ws := fs_t2 (List.mem_of_getElem? (i := 205) rfl) rfl
theorem tw_2_206 : (Cond.code ⟨"java/util/ArrayList", "add", "(Ljava/lang/Object;[Ljava/lang/Object;I)V"⟩ prog_29_method_24_code 4 (Option.none : Option FieldType)) ∈ fs_ws := fs_t2 (List.mem_of_getElem? (i := 206) rfl) rfl
theorem tw_2_207 : (Cond.methodLink "java/util/ArrayList" 129 ⟨"java/util/ArrayList", "grow", "()[Ljava/lang/Object;"⟩) ∈ fs_ws := fs_t2 (List.mem_of_getElem? (i := 207) rfl) rfl
theorem tw_2_209 : (Cond.instanceMethod ⟨"java/util/ArrayList", "grow", "()[Ljava/lang/Object;"⟩) ∈ fs_ws := fs_t2 (List.mem_of_getElem? (i := 209) rfl) rfl
theorem tw_2_210 : (Cond.code ⟨"java/util/ArrayList", "grow", "()[Ljava/lang/Object;"⟩ prog_29_method_7_code 1 (Option.some (FieldType.array (FieldType.object "java/lang/Object")))) ∈ fs_ws := fs_t2 (List.mem_of_getElem? (i := 210) rfl) rfl
theorem tw_2_211 : (Cond.methodLink "java/util/ArrayList" 69 ⟨"java/util/ArrayList", "grow", "(I)[Ljava/lang/Object;"⟩) ∈ fs_ws := fs_t2 (List.mem_of_getElem? (i := 211) rfl) rfl
theorem tw_2_213 : (Cond.instanceMethod ⟨"java/util/ArrayList", "grow", "(I)[Ljava/lang/Object;"⟩) ∈ fs_ws := fs_t2 (List.mem_of_getElem? (i := 213) rfl) rfl
theorem tw_2_214 : (Cond.code ⟨"java/util/ArrayList", "grow", "(I)[Ljava/lang/Object;"⟩ prog_29_method_6_code 4 (Option.some (FieldType.array (FieldType.object "java/lang/Object")))) ∈ fs_ws := fs_t2 (List.mem_of_getElem? (i := 214) rfl) rfl
theorem tw_2_215 : (Cond.methodLink "java/util/ArrayList" 73 ⟨"jdk/internal/util/ArraysSupport", "newLength", "(III)I"⟩) ∈ fs_ws := fs_t2 (List.mem_of_getElem? (i := 215) rfl) rfl
theorem tw_2_216 : (Cond.static ⟨"jdk/internal/util/ArraysSupport", "newLength", "(III)I"⟩) ∈ fs_ws := fs_t2 (List.mem_of_getElem? (i := 216) rfl) rfl
theorem tw_2_217 : (Cond.code ⟨"jdk/internal/util/ArraysSupport", "newLength", "(III)I"⟩ prog_36_method_27_code 4 (Option.some FieldType.int)) ∈ fs_ws := fs_t2 (List.mem_of_getElem? (i := 217) rfl) rfl
theorem tw_2_218 : (Cond.methodLink "jdk/internal/util/ArraysSupport" 194 ⟨"java/lang/Math", "max", "(II)I"⟩) ∈ fs_ws := fs_t2 (List.mem_of_getElem? (i := 218) rfl) rfl
theorem tw_2_219 : (Cond.static ⟨"java/lang/Math", "max", "(II)I"⟩) ∈ fs_ws := fs_t2 (List.mem_of_getElem? (i := 219) rfl) rfl
theorem tw_2_220 : (Cond.code ⟨"java/lang/Math", "max", "(II)I"⟩ prog_21_method_65_code 2 (Option.some FieldType.int)) ∈ fs_ws := fs_t2 (List.mem_of_getElem? (i := 220) rfl) rfl
theorem tw_2_221 : (Cond.constant "jdk/internal/util/ArraysSupport" 200 (2147483639 : Int32)) ∈ fs_ws := fs_t2 (List.mem_of_getElem? (i := 221) rfl) rfl
theorem tw_2_222 : (Cond.methodLink "jdk/internal/util/ArraysSupport" 201 ⟨"jdk/internal/util/ArraysSupport", "hugeLength", "(II)I"⟩) ∈ fs_ws := fs_t2 (List.mem_of_getElem? (i := 222) rfl) rfl
theorem tw_2_223 : (Cond.static ⟨"jdk/internal/util/ArraysSupport", "hugeLength", "(II)I"⟩) ∈ fs_ws := fs_t2 (List.mem_of_getElem? (i := 223) rfl) rfl
theorem tw_2_224 : (Cond.code ⟨"jdk/internal/util/ArraysSupport", "hugeLength", "(II)I"⟩ prog_36_method_28_code 3 (Option.some FieldType.int)) ∈ fs_ws := fs_t2 (List.mem_of_getElem? (i := 224) rfl) rfl
theorem tw_2_225 : (Cond.methodLink "java/util/ArrayList" 66 ⟨"java/util/Arrays", "copyOf", "([Ljava/lang/Object;I)[Ljava/lang/Object;"⟩) ∈ fs_ws := fs_t2 (List.mem_of_getElem? (i := 225) rfl) rfl
theorem tw_2_226 : (Cond.static ⟨"java/util/Arrays", "copyOf", "([Ljava/lang/Object;I)[Ljava/lang/Object;"⟩) ∈ fs_ws := fs_t2 (List.mem_of_getElem? (i := 226) rfl) rfl
theorem tw_2_227 : (Cond.code ⟨"java/util/Arrays", "copyOf", "([Ljava/lang/Object;I)[Ljava/lang/Object;"⟩ prog_30_method_119_code 2 (Option.some (FieldType.array (FieldType.object "java/lang/Object")))) ∈ fs_ws := fs_t2 (List.mem_of_getElem? (i := 227) rfl) rfl
theorem tw_2_228 : (Cond.methodLink "java/util/Arrays" 86 ⟨"java/lang/Object", "getClass", "()Ljava/lang/Class;"⟩) ∈ fs_ws := fs_t2 (List.mem_of_getElem? (i := 228) rfl) rfl
theorem tw_2_229 : (Cond.instanceMethod ⟨"java/lang/Object", "getClass", "()Ljava/lang/Class;"⟩) ∈ fs_ws := fs_t2 (List.mem_of_getElem? (i := 229) rfl) rfl
theorem tw_2_231 : (Cond.selects "FlowShelf" ⟨"java/lang/Object", "getClass", "()Ljava/lang/Class;"⟩ ⟨"java/lang/Object", "getClass", "()Ljava/lang/Class;"⟩) ∈ fs_ws := fs_t2 (List.mem_of_getElem? (i := 231) rfl) rfl
theorem tw_2_232 : (Cond.selects "FlowShelf$Collector" ⟨"java/lang/Object", "getClass", "()Ljava/lang/Class;"⟩ ⟨"java/lang/Object", "getClass", "()Ljava/lang/Class;"⟩) ∈ fs_ws := fs_t2 (List.mem_of_getElem? (i := 232) rfl) rfl
theorem tw_2_233 : (Cond.selects "FlowShelf$Cursor" ⟨"java/lang/Object", "getClass", "()Ljava/lang/Class;"⟩ ⟨"java/lang/Object", "getClass", "()Ljava/lang/Class;"⟩) ∈ fs_ws := fs_t2 (List.mem_of_getElem? (i := 233) rfl) rfl
theorem tw_2_234 : (Cond.selects "FlowShelf$Exporter" ⟨"java/lang/Object", "getClass", "()Ljava/lang/Class;"⟩ ⟨"java/lang/Object", "getClass", "()Ljava/lang/Class;"⟩) ∈ fs_ws := fs_t2 (List.mem_of_getElem? (i := 234) rfl) rfl
theorem tw_2_235 : (Cond.selects "FlowShelf$Flow" ⟨"java/lang/Object", "getClass", "()Ljava/lang/Class;"⟩ ⟨"java/lang/Object", "getClass", "()Ljava/lang/Class;"⟩) ∈ fs_ws := fs_t2 (List.mem_of_getElem? (i := 235) rfl) rfl
theorem tw_2_236 : (Cond.selects "FlowShelf$Layout" ⟨"java/lang/Object", "getClass", "()Ljava/lang/Class;"⟩ ⟨"java/lang/Object", "getClass", "()Ljava/lang/Class;"⟩) ∈ fs_ws := fs_t2 (List.mem_of_getElem? (i := 236) rfl) rfl
theorem tw_2_237 : (Cond.selects "FlowShelf$Ledger" ⟨"java/lang/Object", "getClass", "()Ljava/lang/Class;"⟩ ⟨"java/lang/Object", "getClass", "()Ljava/lang/Class;"⟩) ∈ fs_ws := fs_t2 (List.mem_of_getElem? (i := 237) rfl) rfl
theorem tw_2_238 : (Cond.selects "FlowShelf$Report" ⟨"java/lang/Object", "getClass", "()Ljava/lang/Class;"⟩ ⟨"java/lang/Object", "getClass", "()Ljava/lang/Class;"⟩) ∈ fs_ws := fs_t2 (List.mem_of_getElem? (i := 238) rfl) rfl
theorem tw_2_239 : (Cond.selects "FlowShelf$Row" ⟨"java/lang/Object", "getClass", "()Ljava/lang/Class;"⟩ ⟨"java/lang/Object", "getClass", "()Ljava/lang/Class;"⟩) ∈ fs_ws := fs_t2 (List.mem_of_getElem? (i := 239) rfl) rfl
theorem tw_3_0 : (Cond.selects "FlowShelf$Slot" ⟨"java/lang/Object", "getClass", "()Ljava/lang/Class;"⟩ ⟨"java/lang/Object", "getClass", "()Ljava/lang/Class;"⟩) ∈ fs_ws := fs_t3 (List.mem_of_getElem? (i := 0) rfl) rfl
theorem tw_3_1 : (Cond.selects "FlowShelf$Table" ⟨"java/lang/Object", "getClass", "()Ljava/lang/Class;"⟩ ⟨"java/lang/Object", "getClass", "()Ljava/lang/Class;"⟩) ∈ fs_ws := fs_t3 (List.mem_of_getElem? (i := 1) rfl) rfl
theorem tw_3_2 : (Cond.selects "FlowShelfModel" ⟨"java/lang/Object", "getClass", "()Ljava/lang/Class;"⟩ ⟨"java/lang/Object", "getClass", "()Ljava/lang/Class;"⟩) ∈ fs_ws := fs_t3 (List.mem_of_getElem? (i := 2) rfl) rfl
theorem tw_3_3 : (Cond.selects "java/lang/IllegalArgumentException" ⟨"java/lang/Object", "getClass", "()Ljava/lang/Class;"⟩ ⟨"java/lang/Object", "getClass", "()Ljava/lang/Class;"⟩) ∈ fs_ws := fs_t3 (List.mem_of_getElem? (i := 3) rfl) rfl
theorem tw_3_4 : (Cond.selects "java/lang/IllegalStateException" ⟨"java/lang/Object", "getClass", "()Ljava/lang/Class;"⟩ ⟨"java/lang/Object", "getClass", "()Ljava/lang/Class;"⟩) ∈ fs_ws := fs_t3 (List.mem_of_getElem? (i := 4) rfl) rfl
theorem tw_3_5 : (Cond.selects "java/lang/IndexOutOfBoundsException" ⟨"java/lang/Object", "getClass", "()Ljava/lang/Class;"⟩ ⟨"java/lang/Object", "getClass", "()Ljava/lang/Class;"⟩) ∈ fs_ws := fs_t3 (List.mem_of_getElem? (i := 5) rfl) rfl
theorem tw_3_6 : (Cond.selects "java/lang/UnsupportedOperationException" ⟨"java/lang/Object", "getClass", "()Ljava/lang/Class;"⟩ ⟨"java/lang/Object", "getClass", "()Ljava/lang/Class;"⟩) ∈ fs_ws := fs_t3 (List.mem_of_getElem? (i := 6) rfl) rfl
theorem tw_3_7 : (Cond.selects "java/util/ArrayList" ⟨"java/lang/Object", "getClass", "()Ljava/lang/Class;"⟩ ⟨"java/lang/Object", "getClass", "()Ljava/lang/Class;"⟩) ∈ fs_ws := fs_t3 (List.mem_of_getElem? (i := 7) rfl) rfl
theorem tw_3_8 : (Cond.native ⟨"java/lang/Object", "getClass", "()Ljava/lang/Class;"⟩) ∈ fs_ws := fs_t3 (List.mem_of_getElem? (i := 8) rfl) rfl
theorem tw_3_9 : (Cond.methodLink "java/util/Arrays" 300 ⟨"java/util/Arrays", "copyOf", "([Ljava/lang/Object;ILjava/lang/Class;)[Ljava/lang/Object;"⟩) ∈ fs_ws := fs_t3 (List.mem_of_getElem? (i := 9) rfl) rfl
theorem tw_3_10 : (Cond.static ⟨"java/util/Arrays", "copyOf", "([Ljava/lang/Object;ILjava/lang/Class;)[Ljava/lang/Object;"⟩) ∈ fs_ws := fs_t3 (List.mem_of_getElem? (i := 10) rfl) rfl
theorem tw_3_11 : (Cond.code ⟨"java/util/Arrays", "copyOf", "([Ljava/lang/Object;ILjava/lang/Class;)[Ljava/lang/Object;"⟩ prog_30_method_120_code 4 (Option.some (FieldType.array (FieldType.object "java/lang/Object")))) ∈ fs_ws := fs_t3 (List.mem_of_getElem? (i := 11) rfl) rfl
theorem tw_3_12 : (Cond.classLink "java/util/Arrays" 110 "[Ljava/lang/Object;") ∈ fs_ws := fs_t3 (List.mem_of_getElem? (i := 12) rfl) rfl
theorem tw_3_14 : (Cond.classLink "java/util/Arrays" 2 "java/lang/Object") ∈ fs_ws := fs_t3 (List.mem_of_getElem? (i := 14) rfl) rfl
theorem tw_3_15 : (Cond.methodLink "java/util/Arrays" 304 ⟨"java/lang/Math", "min", "(II)I"⟩) ∈ fs_ws := fs_t3 (List.mem_of_getElem? (i := 15) rfl) rfl
theorem tw_3_16 : (Cond.static ⟨"java/lang/Math", "min", "(II)I"⟩) ∈ fs_ws := fs_t3 (List.mem_of_getElem? (i := 16) rfl) rfl
theorem tw_3_17 : (Cond.code ⟨"java/lang/Math", "min", "(II)I"⟩ prog_21_method_69_code 2 (Option.some FieldType.int)) ∈ fs_ws := fs_t3 (List.mem_of_getElem? (i := 17) rfl) rfl
theorem tw_3_18 : (Cond.methodLink "java/util/Arrays" 150 ⟨"java/lang/System", "arraycopy", "(Ljava/lang/Object;ILjava/lang/Object;II)V"⟩) ∈ fs_ws := fs_t3 (List.mem_of_getElem? (i := 18) rfl) rfl
theorem tw_3_19 : (Cond.methodLink "java/util/ArrayList" 79 ⟨"java/lang/Math", "max", "(II)I"⟩) ∈ fs_ws := fs_t3 (List.mem_of_getElem? (i := 19) rfl) rfl
theorem tw_3_20 : (Cond.classLink "java/util/ArrayList" 7 "java/lang/Object") ∈ fs_ws := fs_t3 (List.mem_of_getElem? (i := 20) rfl) rfl
theorem tw_3_21 : (Cond.instantiable "FlowShelf$Flow" 9) ∈ fs_ws := fs_t3 (List.mem_of_getElem? (i := 21) rfl) rfl
theorem tw_3_22 : (Cond.methodLink "FlowShelf$Exporter" 60 ⟨"FlowShelf$Flow", "<init>", "(IIII)V"⟩) ∈ fs_ws := fs_t3 (List.mem_of_getElem? (i := 22) rfl) rfl
theorem tw_3_23 : (Cond.instanceMethod ⟨"FlowShelf$Flow", "<init>", "(IIII)V"⟩) ∈ fs_ws := fs_t3 (List.mem_of_getElem? (i := 23) rfl) rfl
theorem tw_3_24 : (Cond.code ⟨"FlowShelf$Flow", "<init>", "(IIII)V"⟩ prog_5_method_1_code 5 (Option.none : Option FieldType)) ∈ fs_ws := fs_t3 (List.mem_of_getElem? (i := 24) rfl) rfl
theorem tw_3_25 : (Cond.methodLink "FlowShelf$Flow" 3 ⟨"java/lang/Object", "<init>", "()V"⟩) ∈ fs_ws := fs_t3 (List.mem_of_getElem? (i := 25) rfl) rfl
theorem tw_3_26 : (Cond.fieldLink "FlowShelf$Flow" 9 "FlowShelf$Flow" "source" "I") ∈ fs_ws := fs_t3 (List.mem_of_getElem? (i := 26) rfl) rfl
theorem tw_3_27 : (Cond.fieldLink "FlowShelf$Flow" 15 "FlowShelf$Flow" "target" "I") ∈ fs_ws := fs_t3 (List.mem_of_getElem? (i := 27) rfl) rfl
theorem tw_3_28 : (Cond.fieldLink "FlowShelf$Flow" 18 "FlowShelf$Flow" "service" "I") ∈ fs_ws := fs_t3 (List.mem_of_getElem? (i := 28) rfl) rfl
theorem tw_3_29 : (Cond.fieldLink "FlowShelf$Flow" 21 "FlowShelf$Flow" "began" "I") ∈ fs_ws := fs_t3 (List.mem_of_getElem? (i := 29) rfl) rfl
theorem tw_3_30 : (Cond.fieldLink "FlowShelf$Flow" 24 "FlowShelf$Flow" "bytes" "I") ∈ fs_ws := fs_t3 (List.mem_of_getElem? (i := 30) rfl) rfl
theorem tw_3_31 : (Cond.fieldLink "FlowShelf$Flow" 27 "FlowShelf$Flow" "packets" "I") ∈ fs_ws := fs_t3 (List.mem_of_getElem? (i := 31) rfl) rfl
theorem tw_3_32 : (Cond.fieldLink "FlowShelf$Flow" 30 "FlowShelf$Flow" "latest" "I") ∈ fs_ws := fs_t3 (List.mem_of_getElem? (i := 32) rfl) rfl
theorem tw_3_33 : (Cond.fieldLink "FlowShelf$Exporter" 78 "FlowShelf$Flow" "latest" "I") ∈ fs_ws := fs_t3 (List.mem_of_getElem? (i := 33) rfl) rfl
theorem tw_3_34 : (Cond.fieldLink "FlowShelf$Flow" 33 "FlowShelf$Flow" "endedAt" "I") ∈ fs_ws := fs_t3 (List.mem_of_getElem? (i := 34) rfl) rfl
theorem tw_3_35 : (Cond.fieldLink "FlowShelf$Exporter" 84 "FlowShelf$Flow" "endedAt" "I") ∈ fs_ws := fs_t3 (List.mem_of_getElem? (i := 35) rfl) rfl
theorem tw_3_36 : (Cond.fieldLink "FlowShelf$Flow" 36 "FlowShelf$Flow" "reason" "I") ∈ fs_ws := fs_t3 (List.mem_of_getElem? (i := 36) rfl) rfl
theorem tw_3_37 : (Cond.fieldLink "FlowShelf$Exporter" 87 "FlowShelf$Flow" "reason" "I") ∈ fs_ws := fs_t3 (List.mem_of_getElem? (i := 37) rfl) rfl
theorem tw_3_57 : (Cond.methodLink "FlowShelf$Exporter" 71 ⟨"FlowShelf$Flow", "addPacket", "(II)V"⟩) ∈ fs_ws := fs_t3 (List.mem_of_getElem? (i := 57) rfl) rfl
theorem tw_3_58 : (Cond.instanceMethod ⟨"FlowShelf$Flow", "addPacket", "(II)V"⟩) ∈ fs_ws := fs_t3 (List.mem_of_getElem? (i := 58) rfl) rfl
theorem tw_3_59 : (Cond.selects "FlowShelf$Flow" ⟨"FlowShelf$Flow", "addPacket", "(II)V"⟩ ⟨"FlowShelf$Flow", "addPacket", "(II)V"⟩) ∈ fs_ws := fs_t3 (List.mem_of_getElem? (i := 59) rfl) rfl
theorem tw_3_60 : (Cond.code ⟨"FlowShelf$Flow", "addPacket", "(II)V"⟩ prog_5_method_3_code 3 (Option.none : Option FieldType)) ∈ fs_ws := fs_t3 (List.mem_of_getElem? (i := 60) rfl) rfl
theorem tw_3_61 : (Cond.methodLink "FlowShelfLaw" 97 ⟨"FlowShelfLaw", "tick", "(LFlowShelf;II[J)I"⟩) ∈ fs_ws := fs_t3 (List.mem_of_getElem? (i := 61) rfl) rfl
theorem tw_3_62 : (Cond.static ⟨"FlowShelfLaw", "tick", "(LFlowShelf;II[J)I"⟩) ∈ fs_ws := fs_t3 (List.mem_of_getElem? (i := 62) rfl) rfl
theorem tw_3_63 : (Cond.codeWith ⟨"FlowShelfLaw", "tick", "(LFlowShelf;II[J)I"⟩ method_4_code 5 (Option.some FieldType.int) [(0, 10, 13, 13)]) ∈ fs_ws := fs_t3 (List.mem_of_getElem? (i := 63) rfl) rfl
theorem tw_3_64 : (Cond.methodLink "FlowShelfLaw" 17 ⟨"FlowShelf", "tick", "(II)I"⟩) ∈ fs_ws := fs_t3 (List.mem_of_getElem? (i := 64) rfl) rfl
theorem tw_3_65 : (Cond.instanceMethod ⟨"FlowShelf", "tick", "(II)I"⟩) ∈ fs_ws := fs_t3 (List.mem_of_getElem? (i := 65) rfl) rfl
theorem tw_3_66 : (Cond.selects "FlowShelf" ⟨"FlowShelf", "tick", "(II)I"⟩ ⟨"FlowShelf", "tick", "(II)I"⟩) ∈ fs_ws := fs_t3 (List.mem_of_getElem? (i := 66) rfl) rfl
theorem tw_3_67 : (Cond.code ⟨"FlowShelf", "tick", "(II)I"⟩ prog_1_method_3_code 6 (Option.some FieldType.int)) ∈ fs_ws := fs_t3 (List.mem_of_getElem? (i := 67) rfl) rfl
theorem tw_3_69 : (Cond.methodLink "FlowShelf" 71 ⟨"FlowShelf$Exporter", "passTick", "()I"⟩) ∈ fs_ws := fs_t3 (List.mem_of_getElem? (i := 69) rfl) rfl
theorem tw_3_70 : (Cond.instanceMethod ⟨"FlowShelf$Exporter", "passTick", "()I"⟩) ∈ fs_ws := fs_t3 (List.mem_of_getElem? (i := 70) rfl) rfl
theorem tw_3_71 : (Cond.selects "FlowShelf$Exporter" ⟨"FlowShelf$Exporter", "passTick", "()I"⟩ ⟨"FlowShelf$Exporter", "passTick", "()I"⟩) ∈ fs_ws := fs_t3 (List.mem_of_getElem? (i := 71) rfl) rfl
theorem tw_3_72 : (Cond.code ⟨"FlowShelf$Exporter", "passTick", "()I"⟩ prog_4_method_9_code 5 (Option.some FieldType.int)) ∈ fs_ws := fs_t3 (List.mem_of_getElem? (i := 72) rfl) rfl
theorem tw_3_73 : (Cond.methodLink "FlowShelf$Exporter" 90 ⟨"FlowShelf$Flow", "reasonToEnd", "(I)I"⟩) ∈ fs_ws := fs_t3 (List.mem_of_getElem? (i := 73) rfl) rfl
theorem tw_3_74 : (Cond.instanceMethod ⟨"FlowShelf$Flow", "reasonToEnd", "(I)I"⟩) ∈ fs_ws := fs_t3 (List.mem_of_getElem? (i := 74) rfl) rfl
theorem tw_3_75 : (Cond.selects "FlowShelf$Flow" ⟨"FlowShelf$Flow", "reasonToEnd", "(I)I"⟩ ⟨"FlowShelf$Flow", "reasonToEnd", "(I)I"⟩) ∈ fs_ws := fs_t3 (List.mem_of_getElem? (i := 75) rfl) rfl
theorem tw_3_76 : (Cond.code ⟨"FlowShelf$Flow", "reasonToEnd", "(I)I"⟩ prog_5_method_4_code 2 (Option.some FieldType.int)) ∈ fs_ws := fs_t3 (List.mem_of_getElem? (i := 76) rfl) rfl
theorem tw_3_77 : (Cond.methodLink "FlowShelfLaw" 101 ⟨"FlowShelfLaw", "flush", "(LFlowShelf;I[J)I"⟩) ∈ fs_ws := fs_t3 (List.mem_of_getElem? (i := 77) rfl) rfl
theorem tw_3_78 : (Cond.static ⟨"FlowShelfLaw", "flush", "(LFlowShelf;I[J)I"⟩) ∈ fs_ws := fs_t3 (List.mem_of_getElem? (i := 78) rfl) rfl
theorem tw_3_79 : (Cond.codeWith ⟨"FlowShelfLaw", "flush", "(LFlowShelf;I[J)I"⟩ method_5_code 4 (Option.some FieldType.int) [(0, 9, 12, 13)]) ∈ fs_ws := fs_t3 (List.mem_of_getElem? (i := 79) rfl) rfl
theorem tw_3_80 : (Cond.methodLink "FlowShelfLaw" 21 ⟨"FlowShelf", "flush", "(I)I"⟩) ∈ fs_ws := fs_t3 (List.mem_of_getElem? (i := 80) rfl) rfl
theorem tw_3_81 : (Cond.instanceMethod ⟨"FlowShelf", "flush", "(I)I"⟩) ∈ fs_ws := fs_t3 (List.mem_of_getElem? (i := 81) rfl) rfl
theorem tw_3_82 : (Cond.selects "FlowShelf" ⟨"FlowShelf", "flush", "(I)I"⟩ ⟨"FlowShelf", "flush", "(I)I"⟩) ∈ fs_ws := fs_t3 (List.mem_of_getElem? (i := 82) rfl) rfl
theorem tw_3_83 : (Cond.code ⟨"FlowShelf", "flush", "(I)I"⟩ prog_1_method_4_code 2 (Option.some FieldType.int)) ∈ fs_ws := fs_t3 (List.mem_of_getElem? (i := 83) rfl) rfl
theorem tw_3_84 : (Cond.methodLink "FlowShelf" 74 ⟨"FlowShelf$Exporter", "flushCache", "()I"⟩) ∈ fs_ws := fs_t3 (List.mem_of_getElem? (i := 84) rfl) rfl
theorem tw_3_85 : (Cond.instanceMethod ⟨"FlowShelf$Exporter", "flushCache", "()I"⟩) ∈ fs_ws := fs_t3 (List.mem_of_getElem? (i := 85) rfl) rfl
theorem tw_3_86 : (Cond.selects "FlowShelf$Exporter" ⟨"FlowShelf$Exporter", "flushCache", "()I"⟩ ⟨"FlowShelf$Exporter", "flushCache", "()I"⟩) ∈ fs_ws := fs_t3 (List.mem_of_getElem? (i := 86) rfl) rfl
theorem tw_3_87 : (Cond.code ⟨"FlowShelf$Exporter", "flushCache", "()I"⟩ prog_4_method_10_code 3 (Option.some FieldType.int)) ∈ fs_ws := fs_t3 (List.mem_of_getElem? (i := 87) rfl) rfl
theorem tw_3_88 : (Cond.methodLink "FlowShelfLaw" 105 ⟨"FlowShelfLaw", "sampler", "(LFlowShelf;II)I"⟩) ∈ fs_ws := fs_t3 (List.mem_of_getElem? (i := 88) rfl) rfl
theorem tw_3_89 : (Cond.static ⟨"FlowShelfLaw", "sampler", "(LFlowShelf;II)I"⟩) ∈ fs_ws := fs_t3 (List.mem_of_getElem? (i := 89) rfl) rfl
theorem tw_3_90 : (Cond.codeWith ⟨"FlowShelfLaw", "sampler", "(LFlowShelf;II)I"⟩ method_6_code 4 (Option.some FieldType.int) [(0, 6, 9, 13)]) ∈ fs_ws := fs_t3 (List.mem_of_getElem? (i := 90) rfl) rfl
theorem tw_3_91 : (Cond.methodLink "FlowShelfLaw" 25 ⟨"FlowShelf", "sampler", "(II)V"⟩) ∈ fs_ws := fs_t3 (List.mem_of_getElem? (i := 91) rfl) rfl
theorem tw_3_92 : (Cond.instanceMethod ⟨"FlowShelf", "sampler", "(II)V"⟩) ∈ fs_ws := fs_t3 (List.mem_of_getElem? (i := 92) rfl) rfl
theorem tw_3_93 : (Cond.selects "FlowShelf" ⟨"FlowShelf", "sampler", "(II)V"⟩ ⟨"FlowShelf", "sampler", "(II)V"⟩) ∈ fs_ws := fs_t3 (List.mem_of_getElem? (i := 93) rfl) rfl
theorem tw_3_94 : (Cond.code ⟨"FlowShelf", "sampler", "(II)V"⟩ prog_1_method_5_code 4 (Option.none : Option FieldType)) ∈ fs_ws := fs_t3 (List.mem_of_getElem? (i := 94) rfl) rfl
theorem tw_3_96 : (Cond.methodLink "FlowShelf" 79 ⟨"FlowShelf$Exporter", "sampleEvery", "(I)V"⟩) ∈ fs_ws := fs_t3 (List.mem_of_getElem? (i := 96) rfl) rfl
theorem tw_3_97 : (Cond.instanceMethod ⟨"FlowShelf$Exporter", "sampleEvery", "(I)V"⟩) ∈ fs_ws := fs_t3 (List.mem_of_getElem? (i := 97) rfl) rfl
theorem tw_3_98 : (Cond.selects "FlowShelf$Exporter" ⟨"FlowShelf$Exporter", "sampleEvery", "(I)V"⟩ ⟨"FlowShelf$Exporter", "sampleEvery", "(I)V"⟩) ∈ fs_ws := fs_t3 (List.mem_of_getElem? (i := 98) rfl) rfl
theorem tw_3_99 : (Cond.code ⟨"FlowShelf$Exporter", "sampleEvery", "(I)V"⟩ prog_4_method_3_code 2 (Option.none : Option FieldType)) ∈ fs_ws := fs_t3 (List.mem_of_getElem? (i := 99) rfl) rfl
theorem tw_3_100 : (Cond.methodLink "FlowShelfLaw" 109 ⟨"FlowShelfLaw", "ended", "(LFlowShelf;III[J)I"⟩) ∈ fs_ws := fs_t3 (List.mem_of_getElem? (i := 100) rfl) rfl
theorem tw_3_101 : (Cond.static ⟨"FlowShelfLaw", "ended", "(LFlowShelf;III[J)I"⟩) ∈ fs_ws := fs_t3 (List.mem_of_getElem? (i := 101) rfl) rfl
theorem tw_3_102 : (Cond.codeWith ⟨"FlowShelfLaw", "ended", "(LFlowShelf;III[J)I"⟩ method_7_code 6 (Option.some FieldType.int) [(0, 12, 15, 13), (0, 12, 19, 33)]) ∈ fs_ws := fs_t3 (List.mem_of_getElem? (i := 102) rfl) rfl
theorem tw_3_103 : (Cond.classLink "FlowShelfLaw" 33 "java/lang/IndexOutOfBoundsException") ∈ fs_ws := fs_t3 (List.mem_of_getElem? (i := 103) rfl) rfl
theorem tw_3_104 : (Cond.methodLink "FlowShelfLaw" 29 ⟨"FlowShelf", "ended", "(III)I"⟩) ∈ fs_ws := fs_t3 (List.mem_of_getElem? (i := 104) rfl) rfl
theorem tw_3_105 : (Cond.instanceMethod ⟨"FlowShelf", "ended", "(III)I"⟩) ∈ fs_ws := fs_t3 (List.mem_of_getElem? (i := 105) rfl) rfl
theorem tw_3_106 : (Cond.selects "FlowShelf" ⟨"FlowShelf", "ended", "(III)I"⟩ ⟨"FlowShelf", "ended", "(III)I"⟩) ∈ fs_ws := fs_t3 (List.mem_of_getElem? (i := 106) rfl) rfl
theorem tw_3_107 : (Cond.code ⟨"FlowShelf", "ended", "(III)I"⟩ prog_1_method_6_code 5 (Option.some FieldType.int)) ∈ fs_ws := fs_t3 (List.mem_of_getElem? (i := 107) rfl) rfl
theorem tw_3_108 : (Cond.methodLink "FlowShelf" 82 ⟨"FlowShelf", "requireField", "(I)V"⟩) ∈ fs_ws := fs_t3 (List.mem_of_getElem? (i := 108) rfl) rfl
theorem tw_3_109 : (Cond.static ⟨"FlowShelf", "requireField", "(I)V"⟩) ∈ fs_ws := fs_t3 (List.mem_of_getElem? (i := 109) rfl) rfl
theorem tw_3_110 : (Cond.code ⟨"FlowShelf", "requireField", "(I)V"⟩ prog_1_method_25_code 1 (Option.none : Option FieldType)) ∈ fs_ws := fs_t3 (List.mem_of_getElem? (i := 110) rfl) rfl
theorem tw_3_112 : (Cond.classLink "FlowShelf" 91 "java/lang/IndexOutOfBoundsException") ∈ fs_ws := fs_t3 (List.mem_of_getElem? (i := 112) rfl) rfl
theorem tw_3_113 : (Cond.instantiable "java/lang/IndexOutOfBoundsException" 6) ∈ fs_ws := fs_t3 (List.mem_of_getElem? (i := 113) rfl) rfl
theorem tw_3_115 : (Cond.selects "java/lang/IndexOutOfBoundsException" ⟨"java/lang/Throwable", "fillInStackTrace", "(I)Ljava/lang/Throwable;"⟩ ⟨"java/lang/Throwable", "fillInStackTrace", "(I)Ljava/lang/Throwable;"⟩) ∈ fs_ws := fs_t3 (List.mem_of_getElem? (i := 115) rfl) rfl
theorem tw_3_122 : (Cond.methodLink "FlowShelf" 95 ⟨"java/lang/IndexOutOfBoundsException", "<init>", "(Ljava/lang/String;)V"⟩) ∈ fs_ws := fs_t3 (List.mem_of_getElem? (i := 122) rfl) rfl
theorem tw_3_123 : (Cond.instanceMethod ⟨"java/lang/IndexOutOfBoundsException", "<init>", "(Ljava/lang/String;)V"⟩) ∈ fs_ws := fs_t3 (List.mem_of_getElem? (i := 123) rfl) rfl
theorem tw_3_124 : (Cond.code ⟨"java/lang/IndexOutOfBoundsException", "<init>", "(Ljava/lang/String;)V"⟩ prog_19_method_2_code 2 (Option.none : Option FieldType)) ∈ fs_ws := fs_t3 (List.mem_of_getElem? (i := 124) rfl) rfl
theorem tw_3_125 : (Cond.methodLink "java/lang/IndexOutOfBoundsException" 7 ⟨"java/lang/RuntimeException", "<init>", "(Ljava/lang/String;)V"⟩) ∈ fs_ws := fs_t3 (List.mem_of_getElem? (i := 125) rfl) rfl
theorem tw_3_128 : (Cond.classLink "FlowShelf" 100 "FlowShelf$Flow") ∈ fs_ws := fs_t3 (List.mem_of_getElem? (i := 128) rfl) rfl
theorem tw_3_129 : (Cond.methodLink "FlowShelf" 102 ⟨"FlowShelf$Flow", "valueOf", "(I)I"⟩) ∈ fs_ws := fs_t3 (List.mem_of_getElem? (i := 129) rfl) rfl
theorem tw_3_130 : (Cond.instanceMethod ⟨"FlowShelf$Flow", "valueOf", "(I)I"⟩) ∈ fs_ws := fs_t3 (List.mem_of_getElem? (i := 130) rfl) rfl
theorem tw_3_131 : (Cond.selects "FlowShelf$Flow" ⟨"FlowShelf$Flow", "valueOf", "(I)I"⟩ ⟨"FlowShelf$Flow", "valueOf", "(I)I"⟩) ∈ fs_ws := fs_t3 (List.mem_of_getElem? (i := 131) rfl) rfl
theorem tw_3_132 : (Cond.code ⟨"FlowShelf$Flow", "valueOf", "(I)I"⟩ prog_5_method_5_code 2 (Option.some FieldType.int)) ∈ fs_ws := fs_t3 (List.mem_of_getElem? (i := 132) rfl) rfl
theorem tw_3_133 : (Cond.methodLink "FlowShelfLaw" 113 ⟨"FlowShelfLaw", "field", "(LFlowShelf;IIII[J)I"⟩) ∈ fs_ws := fs_t3 (List.mem_of_getElem? (i := 133) rfl) rfl
theorem tw_3_134 : (Cond.static ⟨"FlowShelfLaw", "field", "(LFlowShelf;IIII[J)I"⟩) ∈ fs_ws := fs_t3 (List.mem_of_getElem? (i := 134) rfl) rfl
theorem tw_3_135 : (Cond.codeWith ⟨"FlowShelfLaw", "field", "(LFlowShelf;IIII[J)I"⟩ method_8_code 7 (Option.some FieldType.int) [(0, 14, 17, 13), (0, 14, 21, 15)]) ∈ fs_ws := fs_t3 (List.mem_of_getElem? (i := 135) rfl) rfl
theorem tw_3_136 : (Cond.methodLink "FlowShelfLaw" 35 ⟨"FlowShelf", "field", "(IIII)I"⟩) ∈ fs_ws := fs_t3 (List.mem_of_getElem? (i := 136) rfl) rfl
theorem tw_3_137 : (Cond.instanceMethod ⟨"FlowShelf", "field", "(IIII)I"⟩) ∈ fs_ws := fs_t3 (List.mem_of_getElem? (i := 137) rfl) rfl
theorem tw_3_138 : (Cond.selects "FlowShelf" ⟨"FlowShelf", "field", "(IIII)I"⟩ ⟨"FlowShelf", "field", "(IIII)I"⟩) ∈ fs_ws := fs_t3 (List.mem_of_getElem? (i := 138) rfl) rfl
theorem tw_3_139 : (Cond.code ⟨"FlowShelf", "field", "(IIII)I"⟩ prog_1_method_7_code 6 (Option.some FieldType.int)) ∈ fs_ws := fs_t3 (List.mem_of_getElem? (i := 139) rfl) rfl
theorem tw_3_140 : (Cond.methodLink "FlowShelf" 106 ⟨"FlowShelf", "slotOf", "(II)LFlowShelf$Slot;"⟩) ∈ fs_ws := fs_t3 (List.mem_of_getElem? (i := 140) rfl) rfl
theorem tw_3_142 : (Cond.instanceMethod ⟨"FlowShelf", "slotOf", "(II)LFlowShelf$Slot;"⟩) ∈ fs_ws := fs_t3 (List.mem_of_getElem? (i := 142) rfl) rfl
theorem tw_3_143 : (Cond.code ⟨"FlowShelf", "slotOf", "(II)LFlowShelf$Slot;"⟩ prog_1_method_28_code 4 (Option.some (FieldType.object "FlowShelf$Slot"))) ∈ fs_ws := fs_t3 (List.mem_of_getElem? (i := 143) rfl) rfl
theorem tw_3_146 : (Cond.fieldLink "FlowShelf" 112 "FlowShelf" "LEAST_LENGTH" "[I") ∈ fs_ws := fs_t3 (List.mem_of_getElem? (i := 146) rfl) rfl
theorem tw_3_149 : (Cond.methodLink "FlowShelf" 124 ⟨"FlowShelf$Layout", "has", "(I)Z"⟩) ∈ fs_ws := fs_t3 (List.mem_of_getElem? (i := 149) rfl) rfl
theorem tw_3_150 : (Cond.instanceMethod ⟨"FlowShelf$Layout", "has", "(I)Z"⟩) ∈ fs_ws := fs_t3 (List.mem_of_getElem? (i := 150) rfl) rfl
theorem tw_3_151 : (Cond.selects "FlowShelf$Layout" ⟨"FlowShelf$Layout", "has", "(I)Z"⟩ ⟨"FlowShelf$Layout", "has", "(I)Z"⟩) ∈ fs_ws := fs_t3 (List.mem_of_getElem? (i := 151) rfl) rfl
theorem tw_3_152 : (Cond.code ⟨"FlowShelf$Layout", "has", "(I)Z"⟩ prog_6_method_2_code 3 (Option.some FieldType.boolean)) ∈ fs_ws := fs_t3 (List.mem_of_getElem? (i := 152) rfl) rfl
theorem tw_3_154 : (Cond.methodLink "FlowShelf" 131 ⟨"FlowShelf$Layout", "append", "(II)V"⟩) ∈ fs_ws := fs_t3 (List.mem_of_getElem? (i := 154) rfl) rfl
theorem tw_3_155 : (Cond.instanceMethod ⟨"FlowShelf$Layout", "append", "(II)V"⟩) ∈ fs_ws := fs_t3 (List.mem_of_getElem? (i := 155) rfl) rfl
theorem tw_3_156 : (Cond.selects "FlowShelf$Layout" ⟨"FlowShelf$Layout", "append", "(II)V"⟩ ⟨"FlowShelf$Layout", "append", "(II)V"⟩) ∈ fs_ws := fs_t3 (List.mem_of_getElem? (i := 156) rfl) rfl
theorem tw_3_157 : (Cond.code ⟨"FlowShelf$Layout", "append", "(II)V"⟩ prog_6_method_3_code 3 (Option.none : Option FieldType)) ∈ fs_ws := fs_t3 (List.mem_of_getElem? (i := 157) rfl) rfl
theorem tw_3_158 : (Cond.methodLink "FlowShelfLaw" 117 ⟨"FlowShelfLaw", "seal", "(LFlowShelf;II[J)I"⟩) ∈ fs_ws := fs_t3 (List.mem_of_getElem? (i := 158) rfl) rfl
theorem tw_3_159 : (Cond.static ⟨"FlowShelfLaw", "seal", "(LFlowShelf;II[J)I"⟩) ∈ fs_ws := fs_t3 (List.mem_of_getElem? (i := 159) rfl) rfl
theorem tw_3_160 : (Cond.codeWith ⟨"FlowShelfLaw", "seal", "(LFlowShelf;II[J)I"⟩ method_9_code 5 (Option.some FieldType.int) [(0, 10, 13, 13), (0, 10, 17, 15)]) ∈ fs_ws := fs_t3 (List.mem_of_getElem? (i := 160) rfl) rfl
theorem tw_3_161 : (Cond.methodLink "FlowShelfLaw" 39 ⟨"FlowShelf", "seal", "(II)I"⟩) ∈ fs_ws := fs_t3 (List.mem_of_getElem? (i := 161) rfl) rfl
theorem tw_3_162 : (Cond.instanceMethod ⟨"FlowShelf", "seal", "(II)I"⟩) ∈ fs_ws := fs_t3 (List.mem_of_getElem? (i := 162) rfl) rfl
theorem tw_3_163 : (Cond.selects "FlowShelf" ⟨"FlowShelf", "seal", "(II)I"⟩ ⟨"FlowShelf", "seal", "(II)I"⟩) ∈ fs_ws := fs_t3 (List.mem_of_getElem? (i := 163) rfl) rfl
theorem tw_3_164 : (Cond.code ⟨"FlowShelf", "seal", "(II)I"⟩ prog_1_method_8_code 4 (Option.some FieldType.int)) ∈ fs_ws := fs_t3 (List.mem_of_getElem? (i := 164) rfl) rfl
theorem tw_3_166 : (Cond.methodLink "FlowShelf" 145 ⟨"FlowShelf$Exporter", "nextSeal", "()I"⟩) ∈ fs_ws := fs_t3 (List.mem_of_getElem? (i := 166) rfl) rfl
theorem tw_3_167 : (Cond.instanceMethod ⟨"FlowShelf$Exporter", "nextSeal", "()I"⟩) ∈ fs_ws := fs_t3 (List.mem_of_getElem? (i := 167) rfl) rfl
theorem tw_3_168 : (Cond.selects "FlowShelf$Exporter" ⟨"FlowShelf$Exporter", "nextSeal", "()I"⟩ ⟨"FlowShelf$Exporter", "nextSeal", "()I"⟩) ∈ fs_ws := fs_t3 (List.mem_of_getElem? (i := 168) rfl) rfl
theorem tw_3_169 : (Cond.code ⟨"FlowShelf$Exporter", "nextSeal", "()I"⟩ prog_4_method_11_code 1 (Option.some FieldType.int)) ∈ fs_ws := fs_t3 (List.mem_of_getElem? (i := 169) rfl) rfl
theorem tw_3_170 : (Cond.methodLink "FlowShelf" 148 ⟨"FlowShelf$Slot", "putInForce", "(I)V"⟩) ∈ fs_ws := fs_t3 (List.mem_of_getElem? (i := 170) rfl) rfl
theorem tw_3_171 : (Cond.instanceMethod ⟨"FlowShelf$Slot", "putInForce", "(I)V"⟩) ∈ fs_ws := fs_t3 (List.mem_of_getElem? (i := 171) rfl) rfl
theorem tw_3_172 : (Cond.selects "FlowShelf$Slot" ⟨"FlowShelf$Slot", "putInForce", "(I)V"⟩ ⟨"FlowShelf$Slot", "putInForce", "(I)V"⟩) ∈ fs_ws := fs_t3 (List.mem_of_getElem? (i := 172) rfl) rfl
theorem tw_3_173 : (Cond.code ⟨"FlowShelf$Slot", "putInForce", "(I)V"⟩ prog_10_method_2_code 3 (Option.none : Option FieldType)) ∈ fs_ws := fs_t3 (List.mem_of_getElem? (i := 173) rfl) rfl
theorem tw_3_174 : (Cond.methodLink "FlowShelfLaw" 120 ⟨"FlowShelfLaw", "withdraw", "(LFlowShelf;II)I"⟩) ∈ fs_ws := fs_t3 (List.mem_of_getElem? (i := 174) rfl) rfl
theorem tw_3_175 : (Cond.static ⟨"FlowShelfLaw", "withdraw", "(LFlowShelf;II)I"⟩) ∈ fs_ws := fs_t3 (List.mem_of_getElem? (i := 175) rfl) rfl
theorem tw_3_176 : (Cond.codeWith ⟨"FlowShelfLaw", "withdraw", "(LFlowShelf;II)I"⟩ method_10_code 4 (Option.some FieldType.int) [(0, 6, 9, 13), (0, 6, 12, 15)]) ∈ fs_ws := fs_t3 (List.mem_of_getElem? (i := 176) rfl) rfl
theorem tw_3_177 : (Cond.methodLink "FlowShelfLaw" 42 ⟨"FlowShelf", "withdraw", "(II)V"⟩) ∈ fs_ws := fs_t3 (List.mem_of_getElem? (i := 177) rfl) rfl
theorem tw_3_178 : (Cond.instanceMethod ⟨"FlowShelf", "withdraw", "(II)V"⟩) ∈ fs_ws := fs_t3 (List.mem_of_getElem? (i := 178) rfl) rfl
theorem tw_3_179 : (Cond.selects "FlowShelf" ⟨"FlowShelf", "withdraw", "(II)V"⟩ ⟨"FlowShelf", "withdraw", "(II)V"⟩) ∈ fs_ws := fs_t3 (List.mem_of_getElem? (i := 179) rfl) rfl
theorem tw_3_180 : (Cond.code ⟨"FlowShelf", "withdraw", "(II)V"⟩ prog_1_method_9_code 4 (Option.none : Option FieldType)) ∈ fs_ws := fs_t3 (List.mem_of_getElem? (i := 180) rfl) rfl
theorem tw_3_182 : (Cond.methodLink "FlowShelfLaw" 123 ⟨"FlowShelfLaw", "restart", "(LFlowShelf;I[J)I"⟩) ∈ fs_ws := fs_t3 (List.mem_of_getElem? (i := 182) rfl) rfl
theorem tw_3_183 : (Cond.static ⟨"FlowShelfLaw", "restart", "(LFlowShelf;I[J)I"⟩) ∈ fs_ws := fs_t3 (List.mem_of_getElem? (i := 183) rfl) rfl
theorem tw_3_184 : (Cond.codeWith ⟨"FlowShelfLaw", "restart", "(LFlowShelf;I[J)I"⟩ method_11_code 4 (Option.some FieldType.int) [(0, 9, 12, 13), (0, 9, 15, 15)]) ∈ fs_ws := fs_t3 (List.mem_of_getElem? (i := 184) rfl) rfl
theorem tw_3_185 : (Cond.methodLink "FlowShelfLaw" 45 ⟨"FlowShelf", "restart", "(I)I"⟩) ∈ fs_ws := fs_t3 (List.mem_of_getElem? (i := 185) rfl) rfl
theorem tw_3_186 : (Cond.instanceMethod ⟨"FlowShelf", "restart", "(I)I"⟩) ∈ fs_ws := fs_t3 (List.mem_of_getElem? (i := 186) rfl) rfl
theorem tw_3_187 : (Cond.selects "FlowShelf" ⟨"FlowShelf", "restart", "(I)I"⟩ ⟨"FlowShelf", "restart", "(I)I"⟩) ∈ fs_ws := fs_t3 (List.mem_of_getElem? (i := 187) rfl) rfl
theorem tw_3_188 : (Cond.code ⟨"FlowShelf", "restart", "(I)I"⟩ prog_1_method_10_code 3 (Option.some FieldType.int)) ∈ fs_ws := fs_t3 (List.mem_of_getElem? (i := 188) rfl) rfl
theorem tw_3_190 : (Cond.methodLink "FlowShelf" 161 ⟨"FlowShelf$Exporter", "beginNextEpoch", "()V"⟩) ∈ fs_ws := fs_t3 (List.mem_of_getElem? (i := 190) rfl) rfl
theorem tw_3_191 : (Cond.instanceMethod ⟨"FlowShelf$Exporter", "beginNextEpoch", "()V"⟩) ∈ fs_ws := fs_t3 (List.mem_of_getElem? (i := 191) rfl) rfl
theorem tw_3_192 : (Cond.selects "FlowShelf$Exporter" ⟨"FlowShelf$Exporter", "beginNextEpoch", "()V"⟩ ⟨"FlowShelf$Exporter", "beginNextEpoch", "()V"⟩) ∈ fs_ws := fs_t3 (List.mem_of_getElem? (i := 192) rfl) rfl
theorem tw_3_193 : (Cond.code ⟨"FlowShelf$Exporter", "beginNextEpoch", "()V"⟩ prog_4_method_13_code 2 (Option.none : Option FieldType)) ∈ fs_ws := fs_t3 (List.mem_of_getElem? (i := 193) rfl) rfl
theorem tw_3_194 : (Cond.methodLink "FlowShelf$Exporter" 107 ⟨"java/util/ArrayList", "clear", "()V"⟩) ∈ fs_ws := fs_t3 (List.mem_of_getElem? (i := 194) rfl) rfl
theorem tw_3_195 : (Cond.instanceMethod ⟨"java/util/ArrayList", "clear", "()V"⟩) ∈ fs_ws := fs_t3 (List.mem_of_getElem? (i := 195) rfl) rfl
theorem tw_3_196 : (Cond.selects "java/util/ArrayList" ⟨"java/util/ArrayList", "clear", "()V"⟩ ⟨"java/util/ArrayList", "clear", "()V"⟩) ∈ fs_ws := fs_t3 (List.mem_of_getElem? (i := 196) rfl) rfl
theorem tw_3_197 : (Cond.code ⟨"java/util/ArrayList", "clear", "()V"⟩ prog_29_method_40_code 4 (Option.none : Option FieldType)) ∈ fs_ws := fs_t3 (List.mem_of_getElem? (i := 197) rfl) rfl
theorem tw_3_198 : (Cond.methodLink "FlowShelf$Exporter" 110 ⟨"FlowShelf$Slot", "forget", "()V"⟩) ∈ fs_ws := fs_t3 (List.mem_of_getElem? (i := 198) rfl) rfl
theorem tw_3_199 : (Cond.instanceMethod ⟨"FlowShelf$Slot", "forget", "()V"⟩) ∈ fs_ws := fs_t3 (List.mem_of_getElem? (i := 199) rfl) rfl
theorem tw_3_200 : (Cond.selects "FlowShelf$Slot" ⟨"FlowShelf$Slot", "forget", "()V"⟩ ⟨"FlowShelf$Slot", "forget", "()V"⟩) ∈ fs_ws := fs_t3 (List.mem_of_getElem? (i := 200) rfl) rfl
theorem tw_3_201 : (Cond.code ⟨"FlowShelf$Slot", "forget", "()V"⟩ prog_10_method_3_code 1 (Option.none : Option FieldType)) ∈ fs_ws := fs_t3 (List.mem_of_getElem? (i := 201) rfl) rfl
theorem tw_3_202 : (Cond.methodLink "FlowShelf$Exporter" 113 ⟨"FlowShelf$Exporter", "sampleEvery", "(I)V"⟩) ∈ fs_ws := fs_t3 (List.mem_of_getElem? (i := 202) rfl) rfl
theorem tw_3_203 : (Cond.methodLink "FlowShelfLaw" 126 ⟨"FlowShelfLaw", "announce", "(LFlowShelf;II[J)I"⟩) ∈ fs_ws := fs_t3 (List.mem_of_getElem? (i := 203) rfl) rfl
theorem tw_3_204 : (Cond.static ⟨"FlowShelfLaw", "announce", "(LFlowShelf;II[J)I"⟩) ∈ fs_ws := fs_t3 (List.mem_of_getElem? (i := 204) rfl) rfl
theorem tw_3_205 : (Cond.codeWith ⟨"FlowShelfLaw", "announce", "(LFlowShelf;II[J)I"⟩ method_12_code 5 (Option.some FieldType.int) [(0, 10, 13, 13), (0, 10, 17, 15)]) ∈ fs_ws := fs_t3 (List.mem_of_getElem? (i := 205) rfl) rfl
theorem tw_3_206 : (Cond.methodLink "FlowShelfLaw" 48 ⟨"FlowShelf", "announce", "(II)I"⟩) ∈ fs_ws := fs_t3 (List.mem_of_getElem? (i := 206) rfl) rfl
theorem tw_3_207 : (Cond.instanceMethod ⟨"FlowShelf", "announce", "(II)I"⟩) ∈ fs_ws := fs_t3 (List.mem_of_getElem? (i := 207) rfl) rfl
theorem tw_3_208 : (Cond.selects "FlowShelf" ⟨"FlowShelf", "announce", "(II)I"⟩ ⟨"FlowShelf", "announce", "(II)I"⟩) ∈ fs_ws := fs_t3 (List.mem_of_getElem? (i := 208) rfl) rfl
theorem tw_3_209 : (Cond.code ⟨"FlowShelf", "announce", "(II)I"⟩ prog_1_method_11_code 4 (Option.some FieldType.int)) ∈ fs_ws := fs_t3 (List.mem_of_getElem? (i := 209) rfl) rfl
theorem tw_3_210 : (Cond.methodLink "FlowShelf" 164 ⟨"FlowShelf", "hasNoRoomForReport", "()Z"⟩) ∈ fs_ws := fs_t3 (List.mem_of_getElem? (i := 210) rfl) rfl
theorem tw_3_212 : (Cond.instanceMethod ⟨"FlowShelf", "hasNoRoomForReport", "()Z"⟩) ∈ fs_ws := fs_t3 (List.mem_of_getElem? (i := 212) rfl) rfl
theorem tw_3_213 : (Cond.code ⟨"FlowShelf", "hasNoRoomForReport", "()Z"⟩ prog_1_method_32_code 1 (Option.some FieldType.boolean)) ∈ fs_ws := fs_t3 (List.mem_of_getElem? (i := 213) rfl) rfl
theorem tw_3_215 : (Cond.methodLink "FlowShelf" 169 ⟨"FlowShelf$Exporter", "writeTemplate", "(LFlowShelf$Slot;)LFlowShelf$Report;"⟩) ∈ fs_ws := fs_t3 (List.mem_of_getElem? (i := 215) rfl) rfl
theorem tw_3_216 : (Cond.instanceMethod ⟨"FlowShelf$Exporter", "writeTemplate", "(LFlowShelf$Slot;)LFlowShelf$Report;"⟩) ∈ fs_ws := fs_t3 (List.mem_of_getElem? (i := 216) rfl) rfl
theorem tw_3_217 : (Cond.selects "FlowShelf$Exporter" ⟨"FlowShelf$Exporter", "writeTemplate", "(LFlowShelf$Slot;)LFlowShelf$Report;"⟩ ⟨"FlowShelf$Exporter", "writeTemplate", "(LFlowShelf$Slot;)LFlowShelf$Report;"⟩) ∈ fs_ws := fs_t3 (List.mem_of_getElem? (i := 217) rfl) rfl
theorem tw_3_218 : (Cond.code ⟨"FlowShelf$Exporter", "writeTemplate", "(LFlowShelf$Slot;)LFlowShelf$Report;"⟩ prog_4_method_14_code 4 (Option.some (FieldType.object "FlowShelf$Report"))) ∈ fs_ws := fs_t3 (List.mem_of_getElem? (i := 218) rfl) rfl
theorem tw_3_219 : (Cond.classLink "FlowShelf$Exporter" 122 "FlowShelf$Report") ∈ fs_ws := fs_t3 (List.mem_of_getElem? (i := 219) rfl) rfl
theorem tw_3_220 : (Cond.instantiable "FlowShelf$Report" 2) ∈ fs_ws := fs_t3 (List.mem_of_getElem? (i := 220) rfl) rfl
theorem tw_3_221 : (Cond.methodLink "FlowShelf$Exporter" 124 ⟨"FlowShelf$Report", "<init>", "(III)V"⟩) ∈ fs_ws := fs_t3 (List.mem_of_getElem? (i := 221) rfl) rfl
theorem tw_3_222 : (Cond.instanceMethod ⟨"FlowShelf$Report", "<init>", "(III)V"⟩) ∈ fs_ws := fs_t3 (List.mem_of_getElem? (i := 222) rfl) rfl
theorem tw_3_223 : (Cond.code ⟨"FlowShelf$Report", "<init>", "(III)V"⟩ prog_8_method_1_code 4 (Option.none : Option FieldType)) ∈ fs_ws := fs_t3 (List.mem_of_getElem? (i := 223) rfl) rfl
theorem tw_3_224 : (Cond.methodLink "FlowShelf$Report" 3 ⟨"java/lang/Object", "<init>", "()V"⟩) ∈ fs_ws := fs_t3 (List.mem_of_getElem? (i := 224) rfl) rfl
theorem tw_3_225 : (Cond.fieldLink "FlowShelf$Report" 9 "FlowShelf$Report" "bytes" "[I") ∈ fs_ws := fs_t3 (List.mem_of_getElem? (i := 225) rfl) rfl
theorem tw_3_226 : (Cond.fieldLink "FlowShelf$Cursor" 32 "FlowShelf$Report" "bytes" "[I") ∈ fs_ws := fs_t3 (List.mem_of_getElem? (i := 226) rfl) rfl
theorem tw_3_227 : (Cond.fieldLink "FlowShelf" 211 "FlowShelf$Report" "bytes" "[I") ∈ fs_ws := fs_t3 (List.mem_of_getElem? (i := 227) rfl) rfl
theorem tw_3_228 : (Cond.fieldLink "FlowShelf$Report" 15 "FlowShelf$Report" "used" "I") ∈ fs_ws := fs_t3 (List.mem_of_getElem? (i := 228) rfl) rfl
theorem tw_3_229 : (Cond.fieldLink "FlowShelf$Cursor" 19 "FlowShelf$Report" "used" "I") ∈ fs_ws := fs_t3 (List.mem_of_getElem? (i := 229) rfl) rfl
theorem tw_3_230 : (Cond.fieldLink "FlowShelf" 206 "FlowShelf$Report" "used" "I") ∈ fs_ws := fs_t3 (List.mem_of_getElem? (i := 230) rfl) rfl
theorem tw_3_236 : (Cond.methodLink "FlowShelf$Exporter" 128 ⟨"FlowShelf$Report", "append", "(I)V"⟩) ∈ fs_ws := fs_t3 (List.mem_of_getElem? (i := 236) rfl) rfl
theorem tw_3_237 : (Cond.instanceMethod ⟨"FlowShelf$Report", "append", "(I)V"⟩) ∈ fs_ws := fs_t3 (List.mem_of_getElem? (i := 237) rfl) rfl
theorem tw_3_238 : (Cond.selects "FlowShelf$Report" ⟨"FlowShelf$Report", "append", "(I)V"⟩ ⟨"FlowShelf$Report", "append", "(I)V"⟩) ∈ fs_ws := fs_t3 (List.mem_of_getElem? (i := 238) rfl) rfl
theorem tw_3_239 : (Cond.code ⟨"FlowShelf$Report", "append", "(I)V"⟩ prog_8_method_3_code 2 (Option.none : Option FieldType)) ∈ fs_ws := fs_t3 (List.mem_of_getElem? (i := 239) rfl) rfl
theorem tw_4_0 : (Cond.methodLink "FlowShelf" 173 ⟨"FlowShelf", "keep", "(LFlowShelf$Report;)I"⟩) ∈ fs_ws := fs_t4 (List.mem_of_getElem? (i := 0) rfl) rfl
theorem tw_4_2 : (Cond.instanceMethod ⟨"FlowShelf", "keep", "(LFlowShelf$Report;)I"⟩) ∈ fs_ws := fs_t4 (List.mem_of_getElem? (i := 2) rfl) rfl
theorem tw_4_3 : (Cond.code ⟨"FlowShelf", "keep", "(LFlowShelf$Report;)I"⟩ prog_1_method_33_code 2 (Option.some FieldType.int)) ∈ fs_ws := fs_t4 (List.mem_of_getElem? (i := 3) rfl) rfl
theorem tw_4_4 : (Cond.methodLink "FlowShelf" 314 ⟨"java/util/ArrayList", "add", "(Ljava/lang/Object;)Z"⟩) ∈ fs_ws := fs_t4 (List.mem_of_getElem? (i := 4) rfl) rfl
theorem tw_4_5 : (Cond.methodLink "FlowShelfLaw" 129 ⟨"FlowShelfLaw", "report", "(LFlowShelf;I[J)I"⟩) ∈ fs_ws := fs_t4 (List.mem_of_getElem? (i := 5) rfl) rfl
theorem tw_4_6 : (Cond.static ⟨"FlowShelfLaw", "report", "(LFlowShelf;I[J)I"⟩) ∈ fs_ws := fs_t4 (List.mem_of_getElem? (i := 6) rfl) rfl
theorem tw_4_7 : (Cond.codeWith ⟨"FlowShelfLaw", "report", "(LFlowShelf;I[J)I"⟩ method_13_code 4 (Option.some FieldType.int) [(0, 9, 12, 13), (0, 9, 15, 15)]) ∈ fs_ws := fs_t4 (List.mem_of_getElem? (i := 7) rfl) rfl
theorem tw_4_8 : (Cond.methodLink "FlowShelfLaw" 51 ⟨"FlowShelf", "report", "(I)I"⟩) ∈ fs_ws := fs_t4 (List.mem_of_getElem? (i := 8) rfl) rfl
theorem tw_4_9 : (Cond.instanceMethod ⟨"FlowShelf", "report", "(I)I"⟩) ∈ fs_ws := fs_t4 (List.mem_of_getElem? (i := 9) rfl) rfl
theorem tw_4_10 : (Cond.selects "FlowShelf" ⟨"FlowShelf", "report", "(I)I"⟩ ⟨"FlowShelf", "report", "(I)I"⟩) ∈ fs_ws := fs_t4 (List.mem_of_getElem? (i := 10) rfl) rfl
theorem tw_4_11 : (Cond.code ⟨"FlowShelf", "report", "(I)I"⟩ prog_1_method_12_code 4 (Option.some FieldType.int)) ∈ fs_ws := fs_t4 (List.mem_of_getElem? (i := 11) rfl) rfl
theorem tw_4_12 : (Cond.methodLink "FlowShelf" 177 ⟨"FlowShelf$Exporter", "numberSealedLast", "()I"⟩) ∈ fs_ws := fs_t4 (List.mem_of_getElem? (i := 12) rfl) rfl
theorem tw_4_13 : (Cond.instanceMethod ⟨"FlowShelf$Exporter", "numberSealedLast", "()I"⟩) ∈ fs_ws := fs_t4 (List.mem_of_getElem? (i := 13) rfl) rfl
theorem tw_4_14 : (Cond.selects "FlowShelf$Exporter" ⟨"FlowShelf$Exporter", "numberSealedLast", "()I"⟩ ⟨"FlowShelf$Exporter", "numberSealedLast", "()I"⟩) ∈ fs_ws := fs_t4 (List.mem_of_getElem? (i := 14) rfl) rfl
theorem tw_4_15 : (Cond.code ⟨"FlowShelf$Exporter", "numberSealedLast", "()I"⟩ prog_4_method_12_code 3 (Option.some FieldType.int)) ∈ fs_ws := fs_t4 (List.mem_of_getElem? (i := 15) rfl) rfl
theorem tw_4_16 : (Cond.methodLink "FlowShelf" 180 ⟨"java/util/ArrayList", "isEmpty", "()Z"⟩) ∈ fs_ws := fs_t4 (List.mem_of_getElem? (i := 16) rfl) rfl
theorem tw_4_17 : (Cond.instanceMethod ⟨"java/util/ArrayList", "isEmpty", "()Z"⟩) ∈ fs_ws := fs_t4 (List.mem_of_getElem? (i := 17) rfl) rfl
theorem tw_4_18 : (Cond.selects "java/util/ArrayList" ⟨"java/util/ArrayList", "isEmpty", "()Z"⟩ ⟨"java/util/ArrayList", "isEmpty", "()Z"⟩) ∈ fs_ws := fs_t4 (List.mem_of_getElem? (i := 18) rfl) rfl
theorem tw_4_19 : (Cond.code ⟨"java/util/ArrayList", "isEmpty", "()Z"⟩ prog_29_method_9_code 1 (Option.some FieldType.boolean)) ∈ fs_ws := fs_t4 (List.mem_of_getElem? (i := 19) rfl) rfl
theorem tw_4_21 : (Cond.methodLink "FlowShelf" 192 ⟨"FlowShelf$Exporter", "writeRecords", "(LFlowShelf$Slot;)LFlowShelf$Report;"⟩) ∈ fs_ws := fs_t4 (List.mem_of_getElem? (i := 21) rfl) rfl
theorem tw_4_22 : (Cond.instanceMethod ⟨"FlowShelf$Exporter", "writeRecords", "(LFlowShelf$Slot;)LFlowShelf$Report;"⟩) ∈ fs_ws := fs_t4 (List.mem_of_getElem? (i := 22) rfl) rfl
theorem tw_4_23 : (Cond.selects "FlowShelf$Exporter" ⟨"FlowShelf$Exporter", "writeRecords", "(LFlowShelf$Slot;)LFlowShelf$Report;"⟩ ⟨"FlowShelf$Exporter", "writeRecords", "(LFlowShelf$Slot;)LFlowShelf$Report;"⟩) ∈ fs_ws := fs_t4 (List.mem_of_getElem? (i := 23) rfl) rfl
theorem tw_4_24 : (Cond.code ⟨"FlowShelf$Exporter", "writeRecords", "(LFlowShelf$Slot;)LFlowShelf$Report;"⟩ prog_4_method_15_code 5 (Option.some (FieldType.object "FlowShelf$Report"))) ∈ fs_ws := fs_t4 (List.mem_of_getElem? (i := 24) rfl) rfl
theorem tw_4_25 : (Cond.methodLink "FlowShelf$Exporter" 150 ⟨"FlowShelf$Exporter", "recordsThatFit", "(LFlowShelf$Layout;)I"⟩) ∈ fs_ws := fs_t4 (List.mem_of_getElem? (i := 25) rfl) rfl
theorem tw_4_26 : (Cond.instanceMethod ⟨"FlowShelf$Exporter", "recordsThatFit", "(LFlowShelf$Layout;)I"⟩) ∈ fs_ws := fs_t4 (List.mem_of_getElem? (i := 26) rfl) rfl
theorem tw_4_27 : (Cond.selects "FlowShelf$Exporter" ⟨"FlowShelf$Exporter", "recordsThatFit", "(LFlowShelf$Layout;)I"⟩ ⟨"FlowShelf$Exporter", "recordsThatFit", "(LFlowShelf$Layout;)I"⟩) ∈ fs_ws := fs_t4 (List.mem_of_getElem? (i := 27) rfl) rfl
theorem tw_4_28 : (Cond.code ⟨"FlowShelf$Exporter", "recordsThatFit", "(LFlowShelf$Layout;)I"⟩ prog_4_method_16_code 5 (Option.some FieldType.int)) ∈ fs_ws := fs_t4 (List.mem_of_getElem? (i := 28) rfl) rfl
theorem tw_4_29 : (Cond.methodLink "FlowShelf$Exporter" 162 ⟨"java/lang/Math", "min", "(II)I"⟩) ∈ fs_ws := fs_t4 (List.mem_of_getElem? (i := 29) rfl) rfl
theorem tw_4_30 : (Cond.methodLink "FlowShelf$Exporter" 168 ⟨"FlowShelf$Layout", "bytesFor", "(LFlowShelf$Flow;)I"⟩) ∈ fs_ws := fs_t4 (List.mem_of_getElem? (i := 30) rfl) rfl
theorem tw_4_31 : (Cond.instanceMethod ⟨"FlowShelf$Layout", "bytesFor", "(LFlowShelf$Flow;)I"⟩) ∈ fs_ws := fs_t4 (List.mem_of_getElem? (i := 31) rfl) rfl
theorem tw_4_32 : (Cond.selects "FlowShelf$Layout" ⟨"FlowShelf$Layout", "bytesFor", "(LFlowShelf$Flow;)I"⟩ ⟨"FlowShelf$Layout", "bytesFor", "(LFlowShelf$Flow;)I"⟩) ∈ fs_ws := fs_t4 (List.mem_of_getElem? (i := 32) rfl) rfl
theorem tw_4_33 : (Cond.code ⟨"FlowShelf$Layout", "bytesFor", "(LFlowShelf$Flow;)I"⟩ prog_6_method_4_code 4 (Option.some FieldType.int)) ∈ fs_ws := fs_t4 (List.mem_of_getElem? (i := 33) rfl) rfl
theorem tw_4_34 : (Cond.methodLink "FlowShelf$Layout" 22 ⟨"FlowShelf$Flow", "valueOf", "(I)I"⟩) ∈ fs_ws := fs_t4 (List.mem_of_getElem? (i := 34) rfl) rfl
theorem tw_4_35 : (Cond.methodLink "FlowShelf$Layout" 28 ⟨"FlowShelf$Layout", "fewestBytes", "(I)I"⟩) ∈ fs_ws := fs_t4 (List.mem_of_getElem? (i := 35) rfl) rfl
theorem tw_4_36 : (Cond.static ⟨"FlowShelf$Layout", "fewestBytes", "(I)I"⟩) ∈ fs_ws := fs_t4 (List.mem_of_getElem? (i := 36) rfl) rfl
theorem tw_4_37 : (Cond.code ⟨"FlowShelf$Layout", "fewestBytes", "(I)I"⟩ prog_6_method_6_code 3 (Option.some FieldType.int)) ∈ fs_ws := fs_t4 (List.mem_of_getElem? (i := 37) rfl) rfl
theorem tw_4_38 : (Cond.methodLink "FlowShelf$Exporter" 154 ⟨"java/util/ArrayList", "isEmpty", "()Z"⟩) ∈ fs_ws := fs_t4 (List.mem_of_getElem? (i := 38) rfl) rfl
theorem tw_4_39 : (Cond.methodLink "FlowShelf$Exporter" 158 ⟨"FlowShelf$Layout", "write", "(LFlowShelf$Flow;LFlowShelf$Report;)V"⟩) ∈ fs_ws := fs_t4 (List.mem_of_getElem? (i := 39) rfl) rfl
theorem tw_4_40 : (Cond.instanceMethod ⟨"FlowShelf$Layout", "write", "(LFlowShelf$Flow;LFlowShelf$Report;)V"⟩) ∈ fs_ws := fs_t4 (List.mem_of_getElem? (i := 40) rfl) rfl
theorem tw_4_41 : (Cond.selects "FlowShelf$Layout" ⟨"FlowShelf$Layout", "write", "(LFlowShelf$Flow;LFlowShelf$Report;)V"⟩ ⟨"FlowShelf$Layout", "write", "(LFlowShelf$Flow;LFlowShelf$Report;)V"⟩) ∈ fs_ws := fs_t4 (List.mem_of_getElem? (i := 41) rfl) rfl
theorem tw_4_42 : (Cond.code ⟨"FlowShelf$Layout", "write", "(LFlowShelf$Flow;LFlowShelf$Report;)V"⟩ prog_6_method_5_code 6 (Option.none : Option FieldType)) ∈ fs_ws := fs_t4 (List.mem_of_getElem? (i := 42) rfl) rfl
theorem tw_4_43 : (Cond.methodLink "FlowShelf$Layout" 31 ⟨"FlowShelf$Report", "append", "(I)V"⟩) ∈ fs_ws := fs_t4 (List.mem_of_getElem? (i := 43) rfl) rfl
theorem tw_4_44 : (Cond.methodLink "FlowShelf$Layout" 37 ⟨"FlowShelf$Report", "appendNumber", "(II)V"⟩) ∈ fs_ws := fs_t4 (List.mem_of_getElem? (i := 44) rfl) rfl
theorem tw_4_45 : (Cond.instanceMethod ⟨"FlowShelf$Report", "appendNumber", "(II)V"⟩) ∈ fs_ws := fs_t4 (List.mem_of_getElem? (i := 45) rfl) rfl
theorem tw_4_46 : (Cond.selects "FlowShelf$Report" ⟨"FlowShelf$Report", "appendNumber", "(II)V"⟩ ⟨"FlowShelf$Report", "appendNumber", "(II)V"⟩) ∈ fs_ws := fs_t4 (List.mem_of_getElem? (i := 46) rfl) rfl
theorem tw_4_47 : (Cond.code ⟨"FlowShelf$Report", "appendNumber", "(II)V"⟩ prog_8_method_4_code 4 (Option.none : Option FieldType)) ∈ fs_ws := fs_t4 (List.mem_of_getElem? (i := 47) rfl) rfl
theorem tw_4_48 : (Cond.methodLink "FlowShelf$Report" 25 ⟨"FlowShelf$Report", "append", "(I)V"⟩) ∈ fs_ws := fs_t4 (List.mem_of_getElem? (i := 48) rfl) rfl
theorem tw_4_49 : (Cond.methodLink "FlowShelfLaw" 132 ⟨"FlowShelfLaw", "tell", "(LFlowShelf;I[J)I"⟩) ∈ fs_ws := fs_t4 (List.mem_of_getElem? (i := 49) rfl) rfl
theorem tw_4_50 : (Cond.static ⟨"FlowShelfLaw", "tell", "(LFlowShelf;I[J)I"⟩) ∈ fs_ws := fs_t4 (List.mem_of_getElem? (i := 50) rfl) rfl
theorem tw_4_51 : (Cond.codeWith ⟨"FlowShelfLaw", "tell", "(LFlowShelf;I[J)I"⟩ method_14_code 4 (Option.some FieldType.int) [(0, 9, 12, 13), (0, 9, 15, 15)]) ∈ fs_ws := fs_t4 (List.mem_of_getElem? (i := 51) rfl) rfl
theorem tw_4_52 : (Cond.methodLink "FlowShelfLaw" 54 ⟨"FlowShelf", "tell", "(I)I"⟩) ∈ fs_ws := fs_t4 (List.mem_of_getElem? (i := 52) rfl) rfl
theorem tw_4_53 : (Cond.instanceMethod ⟨"FlowShelf", "tell", "(I)I"⟩) ∈ fs_ws := fs_t4 (List.mem_of_getElem? (i := 53) rfl) rfl
theorem tw_4_54 : (Cond.selects "FlowShelf" ⟨"FlowShelf", "tell", "(I)I"⟩ ⟨"FlowShelf", "tell", "(I)I"⟩) ∈ fs_ws := fs_t4 (List.mem_of_getElem? (i := 54) rfl) rfl
theorem tw_4_55 : (Cond.code ⟨"FlowShelf", "tell", "(I)I"⟩ prog_1_method_13_code 3 (Option.some FieldType.int)) ∈ fs_ws := fs_t4 (List.mem_of_getElem? (i := 55) rfl) rfl
theorem tw_4_57 : (Cond.methodLink "FlowShelf" 197 ⟨"FlowShelf$Exporter", "writeSampler", "()LFlowShelf$Report;"⟩) ∈ fs_ws := fs_t4 (List.mem_of_getElem? (i := 57) rfl) rfl
theorem tw_4_58 : (Cond.instanceMethod ⟨"FlowShelf$Exporter", "writeSampler", "()LFlowShelf$Report;"⟩) ∈ fs_ws := fs_t4 (List.mem_of_getElem? (i := 58) rfl) rfl
theorem tw_4_59 : (Cond.selects "FlowShelf$Exporter" ⟨"FlowShelf$Exporter", "writeSampler", "()LFlowShelf$Report;"⟩ ⟨"FlowShelf$Exporter", "writeSampler", "()LFlowShelf$Report;"⟩) ∈ fs_ws := fs_t4 (List.mem_of_getElem? (i := 59) rfl) rfl
theorem tw_4_60 : (Cond.code ⟨"FlowShelf$Exporter", "writeSampler", "()LFlowShelf$Report;"⟩ prog_4_method_17_code 2 (Option.some (FieldType.object "FlowShelf$Report"))) ∈ fs_ws := fs_t4 (List.mem_of_getElem? (i := 60) rfl) rfl
theorem tw_4_61 : (Cond.methodLink "FlowShelfLaw" 139 ⟨"FlowShelfLaw", "byteOf", "(LFlowShelf;II[J)I"⟩) ∈ fs_ws := fs_t4 (List.mem_of_getElem? (i := 61) rfl) rfl
theorem tw_4_62 : (Cond.static ⟨"FlowShelfLaw", "byteOf", "(LFlowShelf;II[J)I"⟩) ∈ fs_ws := fs_t4 (List.mem_of_getElem? (i := 62) rfl) rfl
theorem tw_4_63 : (Cond.codeWith ⟨"FlowShelfLaw", "byteOf", "(LFlowShelf;II[J)I"⟩ method_15_code 5 (Option.some FieldType.int) [(0, 10, 13, 33)]) ∈ fs_ws := fs_t4 (List.mem_of_getElem? (i := 63) rfl) rfl
theorem tw_4_64 : (Cond.methodLink "FlowShelfLaw" 57 ⟨"FlowShelf", "byteOf", "(II)I"⟩) ∈ fs_ws := fs_t4 (List.mem_of_getElem? (i := 64) rfl) rfl
theorem tw_4_65 : (Cond.instanceMethod ⟨"FlowShelf", "byteOf", "(II)I"⟩) ∈ fs_ws := fs_t4 (List.mem_of_getElem? (i := 65) rfl) rfl
theorem tw_4_66 : (Cond.selects "FlowShelf" ⟨"FlowShelf", "byteOf", "(II)I"⟩ ⟨"FlowShelf", "byteOf", "(II)I"⟩) ∈ fs_ws := fs_t4 (List.mem_of_getElem? (i := 66) rfl) rfl
theorem tw_4_67 : (Cond.code ⟨"FlowShelf", "byteOf", "(II)I"⟩ prog_1_method_15_code 3 (Option.some FieldType.int)) ∈ fs_ws := fs_t4 (List.mem_of_getElem? (i := 67) rfl) rfl
theorem tw_4_68 : (Cond.methodLink "FlowShelf" 207 ⟨"FlowShelf", "reportWithByte", "(II)LFlowShelf$Report;"⟩) ∈ fs_ws := fs_t4 (List.mem_of_getElem? (i := 68) rfl) rfl
theorem tw_4_70 : (Cond.instanceMethod ⟨"FlowShelf", "reportWithByte", "(II)LFlowShelf$Report;"⟩) ∈ fs_ws := fs_t4 (List.mem_of_getElem? (i := 70) rfl) rfl
theorem tw_4_71 : (Cond.code ⟨"FlowShelf", "reportWithByte", "(II)LFlowShelf$Report;"⟩ prog_1_method_31_code 4 (Option.some (FieldType.object "FlowShelf$Report"))) ∈ fs_ws := fs_t4 (List.mem_of_getElem? (i := 71) rfl) rfl
theorem tw_4_72 : (Cond.methodLink "FlowShelf" 216 ⟨"FlowShelf", "reportOf", "(I)LFlowShelf$Report;"⟩) ∈ fs_ws := fs_t4 (List.mem_of_getElem? (i := 72) rfl) rfl
theorem tw_4_74 : (Cond.instanceMethod ⟨"FlowShelf", "reportOf", "(I)LFlowShelf$Report;"⟩) ∈ fs_ws := fs_t4 (List.mem_of_getElem? (i := 74) rfl) rfl
theorem tw_4_75 : (Cond.code ⟨"FlowShelf", "reportOf", "(I)LFlowShelf$Report;"⟩ prog_1_method_30_code 2 (Option.some (FieldType.object "FlowShelf$Report"))) ∈ fs_ws := fs_t4 (List.mem_of_getElem? (i := 75) rfl) rfl
theorem tw_4_78 : (Cond.methodLink "FlowShelfLaw" 142 ⟨"FlowShelfLaw", "poke", "(LFlowShelf;III)I"⟩) ∈ fs_ws := fs_t4 (List.mem_of_getElem? (i := 78) rfl) rfl
theorem tw_4_79 : (Cond.static ⟨"FlowShelfLaw", "poke", "(LFlowShelf;III)I"⟩) ∈ fs_ws := fs_t4 (List.mem_of_getElem? (i := 79) rfl) rfl
theorem tw_4_80 : (Cond.codeWith ⟨"FlowShelfLaw", "poke", "(LFlowShelf;III)I"⟩ method_16_code 5 (Option.some FieldType.int) [(0, 7, 10, 33), (0, 7, 14, 13)]) ∈ fs_ws := fs_t4 (List.mem_of_getElem? (i := 80) rfl) rfl
theorem tw_4_81 : (Cond.methodLink "FlowShelfLaw" 60 ⟨"FlowShelf", "poke", "(III)V"⟩) ∈ fs_ws := fs_t4 (List.mem_of_getElem? (i := 81) rfl) rfl
theorem tw_4_82 : (Cond.instanceMethod ⟨"FlowShelf", "poke", "(III)V"⟩) ∈ fs_ws := fs_t4 (List.mem_of_getElem? (i := 82) rfl) rfl
theorem tw_4_83 : (Cond.selects "FlowShelf" ⟨"FlowShelf", "poke", "(III)V"⟩ ⟨"FlowShelf", "poke", "(III)V"⟩) ∈ fs_ws := fs_t4 (List.mem_of_getElem? (i := 83) rfl) rfl
theorem tw_4_84 : (Cond.code ⟨"FlowShelf", "poke", "(III)V"⟩ prog_1_method_16_code 5 (Option.none : Option FieldType)) ∈ fs_ws := fs_t4 (List.mem_of_getElem? (i := 84) rfl) rfl
theorem tw_4_86 : (Cond.methodLink "FlowShelfLaw" 146 ⟨"FlowShelfLaw", "hear", "(LFlowShelf;I[J)I"⟩) ∈ fs_ws := fs_t4 (List.mem_of_getElem? (i := 86) rfl) rfl
theorem tw_4_87 : (Cond.static ⟨"FlowShelfLaw", "hear", "(LFlowShelf;I[J)I"⟩) ∈ fs_ws := fs_t4 (List.mem_of_getElem? (i := 87) rfl) rfl
theorem tw_4_88 : (Cond.codeWith ⟨"FlowShelfLaw", "hear", "(LFlowShelf;I[J)I"⟩ method_17_code 4 (Option.some FieldType.int) [(0, 9, 12, 33), (0, 9, 15, 13), (0, 9, 18, 67)]) ∈ fs_ws := fs_t4 (List.mem_of_getElem? (i := 88) rfl) rfl
theorem tw_4_89 : (Cond.classLink "FlowShelfLaw" 67 "java/lang/UnsupportedOperationException") ∈ fs_ws := fs_t4 (List.mem_of_getElem? (i := 89) rfl) rfl
theorem tw_4_90 : (Cond.methodLink "FlowShelfLaw" 64 ⟨"FlowShelf", "hear", "(I)I"⟩) ∈ fs_ws := fs_t4 (List.mem_of_getElem? (i := 90) rfl) rfl
theorem tw_4_91 : (Cond.instanceMethod ⟨"FlowShelf", "hear", "(I)I"⟩) ∈ fs_ws := fs_t4 (List.mem_of_getElem? (i := 91) rfl) rfl
theorem tw_4_92 : (Cond.selects "FlowShelf" ⟨"FlowShelf", "hear", "(I)I"⟩ ⟨"FlowShelf", "hear", "(I)I"⟩) ∈ fs_ws := fs_t4 (List.mem_of_getElem? (i := 92) rfl) rfl
theorem tw_4_93 : (Cond.code ⟨"FlowShelf", "hear", "(I)I"⟩ prog_1_method_17_code 3 (Option.some FieldType.int)) ∈ fs_ws := fs_t4 (List.mem_of_getElem? (i := 93) rfl) rfl
theorem tw_4_94 : (Cond.methodLink "FlowShelf" 220 ⟨"FlowShelf$Report", "isBad", "()Z"⟩) ∈ fs_ws := fs_t4 (List.mem_of_getElem? (i := 94) rfl) rfl
theorem tw_4_95 : (Cond.instanceMethod ⟨"FlowShelf$Report", "isBad", "()Z"⟩) ∈ fs_ws := fs_t4 (List.mem_of_getElem? (i := 95) rfl) rfl
theorem tw_4_96 : (Cond.selects "FlowShelf$Report" ⟨"FlowShelf$Report", "isBad", "()Z"⟩ ⟨"FlowShelf$Report", "isBad", "()Z"⟩) ∈ fs_ws := fs_t4 (List.mem_of_getElem? (i := 96) rfl) rfl
theorem tw_4_97 : (Cond.code ⟨"FlowShelf$Report", "isBad", "()Z"⟩ prog_8_method_16_code 1 (Option.some FieldType.boolean)) ∈ fs_ws := fs_t4 (List.mem_of_getElem? (i := 97) rfl) rfl
theorem tw_4_98 : (Cond.methodLink "FlowShelf$Report" 29 ⟨"FlowShelf$Report", "exporter", "()I"⟩) ∈ fs_ws := fs_t4 (List.mem_of_getElem? (i := 98) rfl) rfl
theorem tw_4_99 : (Cond.instanceMethod ⟨"FlowShelf$Report", "exporter", "()I"⟩) ∈ fs_ws := fs_t4 (List.mem_of_getElem? (i := 99) rfl) rfl
theorem tw_4_100 : (Cond.selects "FlowShelf$Report" ⟨"FlowShelf$Report", "exporter", "()I"⟩ ⟨"FlowShelf$Report", "exporter", "()I"⟩) ∈ fs_ws := fs_t4 (List.mem_of_getElem? (i := 100) rfl) rfl
theorem tw_4_101 : (Cond.code ⟨"FlowShelf$Report", "exporter", "()I"⟩ prog_8_method_5_code 1 (Option.some FieldType.int)) ∈ fs_ws := fs_t4 (List.mem_of_getElem? (i := 101) rfl) rfl
theorem tw_4_103 : (Cond.methodLink "FlowShelf$Report" 37 ⟨"FlowShelf$Report", "epoch", "()I"⟩) ∈ fs_ws := fs_t4 (List.mem_of_getElem? (i := 103) rfl) rfl
theorem tw_4_104 : (Cond.instanceMethod ⟨"FlowShelf$Report", "epoch", "()I"⟩) ∈ fs_ws := fs_t4 (List.mem_of_getElem? (i := 104) rfl) rfl
theorem tw_4_105 : (Cond.selects "FlowShelf$Report" ⟨"FlowShelf$Report", "epoch", "()I"⟩ ⟨"FlowShelf$Report", "epoch", "()I"⟩) ∈ fs_ws := fs_t4 (List.mem_of_getElem? (i := 105) rfl) rfl
theorem tw_4_106 : (Cond.code ⟨"FlowShelf$Report", "epoch", "()I"⟩ prog_8_method_6_code 1 (Option.some FieldType.int)) ∈ fs_ws := fs_t4 (List.mem_of_getElem? (i := 106) rfl) rfl
theorem tw_4_107 : (Cond.methodLink "FlowShelf$Report" 40 ⟨"FlowShelf$Report", "kind", "()I"⟩) ∈ fs_ws := fs_t4 (List.mem_of_getElem? (i := 107) rfl) rfl
theorem tw_4_108 : (Cond.instanceMethod ⟨"FlowShelf$Report", "kind", "()I"⟩) ∈ fs_ws := fs_t4 (List.mem_of_getElem? (i := 108) rfl) rfl
theorem tw_4_109 : (Cond.selects "FlowShelf$Report" ⟨"FlowShelf$Report", "kind", "()I"⟩ ⟨"FlowShelf$Report", "kind", "()I"⟩) ∈ fs_ws := fs_t4 (List.mem_of_getElem? (i := 109) rfl) rfl
theorem tw_4_110 : (Cond.code ⟨"FlowShelf$Report", "kind", "()I"⟩ prog_8_method_7_code 1 (Option.some FieldType.int)) ∈ fs_ws := fs_t4 (List.mem_of_getElem? (i := 110) rfl) rfl
theorem tw_4_111 : (Cond.methodLink "FlowShelf$Report" 43 ⟨"FlowShelf$Report", "namesNoTemplate", "()Z"⟩) ∈ fs_ws := fs_t4 (List.mem_of_getElem? (i := 111) rfl) rfl
theorem tw_4_112 : (Cond.instanceMethod ⟨"FlowShelf$Report", "namesNoTemplate", "()Z"⟩) ∈ fs_ws := fs_t4 (List.mem_of_getElem? (i := 112) rfl) rfl
theorem tw_4_113 : (Cond.selects "FlowShelf$Report" ⟨"FlowShelf$Report", "namesNoTemplate", "()Z"⟩ ⟨"FlowShelf$Report", "namesNoTemplate", "()Z"⟩) ∈ fs_ws := fs_t4 (List.mem_of_getElem? (i := 113) rfl) rfl
theorem tw_4_114 : (Cond.code ⟨"FlowShelf$Report", "namesNoTemplate", "()Z"⟩ prog_8_method_17_code 1 (Option.some FieldType.boolean)) ∈ fs_ws := fs_t4 (List.mem_of_getElem? (i := 114) rfl) rfl
theorem tw_4_115 : (Cond.methodLink "FlowShelf$Report" 47 ⟨"FlowShelf$Report", "isBadTemplate", "()Z"⟩) ∈ fs_ws := fs_t4 (List.mem_of_getElem? (i := 115) rfl) rfl
theorem tw_4_116 : (Cond.instanceMethod ⟨"FlowShelf$Report", "isBadTemplate", "()Z"⟩) ∈ fs_ws := fs_t4 (List.mem_of_getElem? (i := 116) rfl) rfl
theorem tw_4_117 : (Cond.selects "FlowShelf$Report" ⟨"FlowShelf$Report", "isBadTemplate", "()Z"⟩ ⟨"FlowShelf$Report", "isBadTemplate", "()Z"⟩) ∈ fs_ws := fs_t4 (List.mem_of_getElem? (i := 117) rfl) rfl
theorem tw_4_118 : (Cond.code ⟨"FlowShelf$Report", "isBadTemplate", "()Z"⟩ prog_8_method_18_code 5 (Option.some FieldType.boolean)) ∈ fs_ws := fs_t4 (List.mem_of_getElem? (i := 118) rfl) rfl
theorem tw_4_119 : (Cond.methodLink "FlowShelf$Report" 56 ⟨"FlowShelf$Report", "templateFields", "()I"⟩) ∈ fs_ws := fs_t4 (List.mem_of_getElem? (i := 119) rfl) rfl
theorem tw_4_120 : (Cond.instanceMethod ⟨"FlowShelf$Report", "templateFields", "()I"⟩) ∈ fs_ws := fs_t4 (List.mem_of_getElem? (i := 120) rfl) rfl
theorem tw_4_121 : (Cond.selects "FlowShelf$Report" ⟨"FlowShelf$Report", "templateFields", "()I"⟩ ⟨"FlowShelf$Report", "templateFields", "()I"⟩) ∈ fs_ws := fs_t4 (List.mem_of_getElem? (i := 121) rfl) rfl
theorem tw_4_122 : (Cond.code ⟨"FlowShelf$Report", "templateFields", "()I"⟩ prog_8_method_8_code 1 (Option.some FieldType.int)) ∈ fs_ws := fs_t4 (List.mem_of_getElem? (i := 122) rfl) rfl
theorem tw_4_123 : (Cond.methodLink "FlowShelf$Report" 59 ⟨"FlowShelf$Report", "templateField", "(I)I"⟩) ∈ fs_ws := fs_t4 (List.mem_of_getElem? (i := 123) rfl) rfl
theorem tw_4_124 : (Cond.instanceMethod ⟨"FlowShelf$Report", "templateField", "(I)I"⟩) ∈ fs_ws := fs_t4 (List.mem_of_getElem? (i := 124) rfl) rfl
theorem tw_4_125 : (Cond.selects "FlowShelf$Report" ⟨"FlowShelf$Report", "templateField", "(I)I"⟩ ⟨"FlowShelf$Report", "templateField", "(I)I"⟩) ∈ fs_ws := fs_t4 (List.mem_of_getElem? (i := 125) rfl) rfl
theorem tw_4_126 : (Cond.code ⟨"FlowShelf$Report", "templateField", "(I)I"⟩ prog_8_method_9_code 2 (Option.some FieldType.int)) ∈ fs_ws := fs_t4 (List.mem_of_getElem? (i := 126) rfl) rfl
theorem tw_4_127 : (Cond.methodLink "FlowShelf$Report" 63 ⟨"FlowShelf$Report", "templateLength", "(I)I"⟩) ∈ fs_ws := fs_t4 (List.mem_of_getElem? (i := 127) rfl) rfl
theorem tw_4_128 : (Cond.instanceMethod ⟨"FlowShelf$Report", "templateLength", "(I)I"⟩) ∈ fs_ws := fs_t4 (List.mem_of_getElem? (i := 128) rfl) rfl
theorem tw_4_129 : (Cond.selects "FlowShelf$Report" ⟨"FlowShelf$Report", "templateLength", "(I)I"⟩ ⟨"FlowShelf$Report", "templateLength", "(I)I"⟩) ∈ fs_ws := fs_t4 (List.mem_of_getElem? (i := 129) rfl) rfl
theorem tw_4_130 : (Cond.code ⟨"FlowShelf$Report", "templateLength", "(I)I"⟩ prog_8_method_10_code 2 (Option.some FieldType.int)) ∈ fs_ws := fs_t4 (List.mem_of_getElem? (i := 130) rfl) rfl
theorem tw_4_131 : (Cond.methodLink "FlowShelf$Report" 50 ⟨"FlowShelf$Report", "isBadRecords", "()Z"⟩) ∈ fs_ws := fs_t4 (List.mem_of_getElem? (i := 131) rfl) rfl
theorem tw_4_132 : (Cond.instanceMethod ⟨"FlowShelf$Report", "isBadRecords", "()Z"⟩) ∈ fs_ws := fs_t4 (List.mem_of_getElem? (i := 132) rfl) rfl
theorem tw_4_133 : (Cond.selects "FlowShelf$Report" ⟨"FlowShelf$Report", "isBadRecords", "()Z"⟩ ⟨"FlowShelf$Report", "isBadRecords", "()Z"⟩) ∈ fs_ws := fs_t4 (List.mem_of_getElem? (i := 133) rfl) rfl
theorem tw_4_134 : (Cond.code ⟨"FlowShelf$Report", "isBadRecords", "()Z"⟩ prog_8_method_19_code 1 (Option.some FieldType.boolean)) ∈ fs_ws := fs_t4 (List.mem_of_getElem? (i := 134) rfl) rfl
theorem tw_4_135 : (Cond.methodLink "FlowShelf$Report" 66 ⟨"FlowShelf$Report", "records", "()I"⟩) ∈ fs_ws := fs_t4 (List.mem_of_getElem? (i := 135) rfl) rfl
theorem tw_4_136 : (Cond.instanceMethod ⟨"FlowShelf$Report", "records", "()I"⟩) ∈ fs_ws := fs_t4 (List.mem_of_getElem? (i := 136) rfl) rfl
theorem tw_4_137 : (Cond.selects "FlowShelf$Report" ⟨"FlowShelf$Report", "records", "()I"⟩ ⟨"FlowShelf$Report", "records", "()I"⟩) ∈ fs_ws := fs_t4 (List.mem_of_getElem? (i := 137) rfl) rfl
theorem tw_4_138 : (Cond.code ⟨"FlowShelf$Report", "records", "()I"⟩ prog_8_method_11_code 1 (Option.some FieldType.int)) ∈ fs_ws := fs_t4 (List.mem_of_getElem? (i := 138) rfl) rfl
theorem tw_4_139 : (Cond.methodLink "FlowShelf$Report" 69 ⟨"FlowShelf$Report", "firstPlace", "()I"⟩) ∈ fs_ws := fs_t4 (List.mem_of_getElem? (i := 139) rfl) rfl
theorem tw_4_140 : (Cond.instanceMethod ⟨"FlowShelf$Report", "firstPlace", "()I"⟩) ∈ fs_ws := fs_t4 (List.mem_of_getElem? (i := 140) rfl) rfl
theorem tw_4_141 : (Cond.selects "FlowShelf$Report" ⟨"FlowShelf$Report", "firstPlace", "()I"⟩ ⟨"FlowShelf$Report", "firstPlace", "()I"⟩) ∈ fs_ws := fs_t4 (List.mem_of_getElem? (i := 141) rfl) rfl
theorem tw_4_142 : (Cond.code ⟨"FlowShelf$Report", "firstPlace", "()I"⟩ prog_8_method_12_code 1 (Option.some FieldType.int)) ∈ fs_ws := fs_t4 (List.mem_of_getElem? (i := 142) rfl) rfl
theorem tw_4_143 : (Cond.methodLink "FlowShelf$Report" 53 ⟨"FlowShelf$Report", "samplerN", "()I"⟩) ∈ fs_ws := fs_t4 (List.mem_of_getElem? (i := 143) rfl) rfl
theorem tw_4_144 : (Cond.instanceMethod ⟨"FlowShelf$Report", "samplerN", "()I"⟩) ∈ fs_ws := fs_t4 (List.mem_of_getElem? (i := 144) rfl) rfl
theorem tw_4_145 : (Cond.selects "FlowShelf$Report" ⟨"FlowShelf$Report", "samplerN", "()I"⟩ ⟨"FlowShelf$Report", "samplerN", "()I"⟩) ∈ fs_ws := fs_t4 (List.mem_of_getElem? (i := 145) rfl) rfl
theorem tw_4_146 : (Cond.code ⟨"FlowShelf$Report", "samplerN", "()I"⟩ prog_8_method_14_code 1 (Option.some FieldType.int)) ∈ fs_ws := fs_t4 (List.mem_of_getElem? (i := 146) rfl) rfl
theorem tw_4_148 : (Cond.methodLink "FlowShelf" 225 ⟨"FlowShelf$Report", "kind", "()I"⟩) ∈ fs_ws := fs_t4 (List.mem_of_getElem? (i := 148) rfl) rfl
theorem tw_4_149 : (Cond.methodLink "FlowShelf" 228 ⟨"FlowShelf$Collector", "hearTemplate", "(LFlowShelf$Report;)I"⟩) ∈ fs_ws := fs_t4 (List.mem_of_getElem? (i := 149) rfl) rfl
theorem tw_4_150 : (Cond.instanceMethod ⟨"FlowShelf$Collector", "hearTemplate", "(LFlowShelf$Report;)I"⟩) ∈ fs_ws := fs_t4 (List.mem_of_getElem? (i := 150) rfl) rfl
theorem tw_4_151 : (Cond.selects "FlowShelf$Collector" ⟨"FlowShelf$Collector", "hearTemplate", "(LFlowShelf$Report;)I"⟩ ⟨"FlowShelf$Collector", "hearTemplate", "(LFlowShelf$Report;)I"⟩) ∈ fs_ws := fs_t4 (List.mem_of_getElem? (i := 151) rfl) rfl
theorem tw_4_152 : (Cond.code ⟨"FlowShelf$Collector", "hearTemplate", "(LFlowShelf$Report;)I"⟩ prog_2_method_5_code 2 (Option.some FieldType.int)) ∈ fs_ws := fs_t4 (List.mem_of_getElem? (i := 152) rfl) rfl
theorem tw_4_153 : (Cond.methodLink "FlowShelf$Collector" 55 ⟨"FlowShelf$Collector", "knownTemplate", "(LFlowShelf$Report;)I"⟩) ∈ fs_ws := fs_t4 (List.mem_of_getElem? (i := 153) rfl) rfl
theorem tw_4_154 : (Cond.instanceMethod ⟨"FlowShelf$Collector", "knownTemplate", "(LFlowShelf$Report;)I"⟩) ∈ fs_ws := fs_t4 (List.mem_of_getElem? (i := 154) rfl) rfl
theorem tw_4_155 : (Cond.selects "FlowShelf$Collector" ⟨"FlowShelf$Collector", "knownTemplate", "(LFlowShelf$Report;)I"⟩ ⟨"FlowShelf$Collector", "knownTemplate", "(LFlowShelf$Report;)I"⟩) ∈ fs_ws := fs_t4 (List.mem_of_getElem? (i := 155) rfl) rfl
theorem tw_4_156 : (Cond.code ⟨"FlowShelf$Collector", "knownTemplate", "(LFlowShelf$Report;)I"⟩ prog_2_method_4_code 3 (Option.some FieldType.int)) ∈ fs_ws := fs_t4 (List.mem_of_getElem? (i := 156) rfl) rfl
theorem tw_4_157 : (Cond.methodLink "FlowShelf$Collector" 38 ⟨"java/util/ArrayList", "size", "()I"⟩) ∈ fs_ws := fs_t4 (List.mem_of_getElem? (i := 157) rfl) rfl
theorem tw_4_158 : (Cond.methodLink "FlowShelf$Collector" 42 ⟨"java/util/ArrayList", "get", "(I)Ljava/lang/Object;"⟩) ∈ fs_ws := fs_t4 (List.mem_of_getElem? (i := 158) rfl) rfl
theorem tw_4_159 : (Cond.classLink "FlowShelf$Collector" 46 "FlowShelf$Report") ∈ fs_ws := fs_t4 (List.mem_of_getElem? (i := 159) rfl) rfl
theorem tw_4_160 : (Cond.methodLink "FlowShelf$Collector" 51 ⟨"FlowShelf$Report", "namesSameTemplate", "(LFlowShelf$Report;)Z"⟩) ∈ fs_ws := fs_t4 (List.mem_of_getElem? (i := 160) rfl) rfl
theorem tw_4_161 : (Cond.instanceMethod ⟨"FlowShelf$Report", "namesSameTemplate", "(LFlowShelf$Report;)Z"⟩) ∈ fs_ws := fs_t4 (List.mem_of_getElem? (i := 161) rfl) rfl
theorem tw_4_162 : (Cond.selects "FlowShelf$Report" ⟨"FlowShelf$Report", "namesSameTemplate", "(LFlowShelf$Report;)Z"⟩ ⟨"FlowShelf$Report", "namesSameTemplate", "(LFlowShelf$Report;)Z"⟩) ∈ fs_ws := fs_t4 (List.mem_of_getElem? (i := 162) rfl) rfl
theorem tw_4_163 : (Cond.code ⟨"FlowShelf$Report", "namesSameTemplate", "(LFlowShelf$Report;)Z"⟩ prog_8_method_15_code 2 (Option.some FieldType.boolean)) ∈ fs_ws := fs_t4 (List.mem_of_getElem? (i := 163) rfl) rfl
theorem tw_4_164 : (Cond.classLink "FlowShelf$Collector" 59 "java/lang/UnsupportedOperationException") ∈ fs_ws := fs_t4 (List.mem_of_getElem? (i := 164) rfl) rfl
theorem tw_4_165 : (Cond.instantiable "java/lang/UnsupportedOperationException" 6) ∈ fs_ws := fs_t4 (List.mem_of_getElem? (i := 165) rfl) rfl
theorem tw_4_167 : (Cond.selects "java/lang/UnsupportedOperationException" ⟨"java/lang/Throwable", "fillInStackTrace", "(I)Ljava/lang/Throwable;"⟩ ⟨"java/lang/Throwable", "fillInStackTrace", "(I)Ljava/lang/Throwable;"⟩) ∈ fs_ws := fs_t4 (List.mem_of_getElem? (i := 167) rfl) rfl
theorem tw_4_174 : (Cond.methodLink "FlowShelf$Collector" 63 ⟨"java/lang/UnsupportedOperationException", "<init>", "(Ljava/lang/String;)V"⟩) ∈ fs_ws := fs_t4 (List.mem_of_getElem? (i := 174) rfl) rfl
theorem tw_4_175 : (Cond.instanceMethod ⟨"java/lang/UnsupportedOperationException", "<init>", "(Ljava/lang/String;)V"⟩) ∈ fs_ws := fs_t4 (List.mem_of_getElem? (i := 175) rfl) rfl
theorem tw_4_176 : (Cond.code ⟨"java/lang/UnsupportedOperationException", "<init>", "(Ljava/lang/String;)V"⟩ prog_26_method_2_code 2 (Option.none : Option FieldType)) ∈ fs_ws := fs_t4 (List.mem_of_getElem? (i := 176) rfl) rfl
theorem tw_4_177 : (Cond.methodLink "java/lang/UnsupportedOperationException" 7 ⟨"java/lang/RuntimeException", "<init>", "(Ljava/lang/String;)V"⟩) ∈ fs_ws := fs_t4 (List.mem_of_getElem? (i := 177) rfl) rfl
theorem tw_4_180 : (Cond.methodLink "FlowShelf$Collector" 66 ⟨"FlowShelf$Collector", "recordsWaitingFor", "(LFlowShelf$Report;)I"⟩) ∈ fs_ws := fs_t4 (List.mem_of_getElem? (i := 180) rfl) rfl
theorem tw_4_181 : (Cond.instanceMethod ⟨"FlowShelf$Collector", "recordsWaitingFor", "(LFlowShelf$Report;)I"⟩) ∈ fs_ws := fs_t4 (List.mem_of_getElem? (i := 181) rfl) rfl
theorem tw_4_182 : (Cond.selects "FlowShelf$Collector" ⟨"FlowShelf$Collector", "recordsWaitingFor", "(LFlowShelf$Report;)I"⟩ ⟨"FlowShelf$Collector", "recordsWaitingFor", "(LFlowShelf$Report;)I"⟩) ∈ fs_ws := fs_t4 (List.mem_of_getElem? (i := 182) rfl) rfl
theorem tw_4_183 : (Cond.code ⟨"FlowShelf$Collector", "recordsWaitingFor", "(LFlowShelf$Report;)I"⟩ prog_2_method_6_code 4 (Option.some FieldType.int)) ∈ fs_ws := fs_t4 (List.mem_of_getElem? (i := 183) rfl) rfl
theorem tw_4_184 : (Cond.methodLink "FlowShelf$Collector" 83 ⟨"FlowShelf$Report", "records", "()I"⟩) ∈ fs_ws := fs_t4 (List.mem_of_getElem? (i := 184) rfl) rfl
theorem tw_4_185 : (Cond.methodLink "FlowShelf$Collector" 69 ⟨"FlowShelf$Collector", "requireRoomFor", "(I)V"⟩) ∈ fs_ws := fs_t4 (List.mem_of_getElem? (i := 185) rfl) rfl
theorem tw_4_186 : (Cond.instanceMethod ⟨"FlowShelf$Collector", "requireRoomFor", "(I)V"⟩) ∈ fs_ws := fs_t4 (List.mem_of_getElem? (i := 186) rfl) rfl
theorem tw_4_187 : (Cond.selects "FlowShelf$Collector" ⟨"FlowShelf$Collector", "requireRoomFor", "(I)V"⟩ ⟨"FlowShelf$Collector", "requireRoomFor", "(I)V"⟩) ∈ fs_ws := fs_t4 (List.mem_of_getElem? (i := 187) rfl) rfl
theorem tw_4_188 : (Cond.code ⟨"FlowShelf$Collector", "requireRoomFor", "(I)V"⟩ prog_2_method_12_code 2 (Option.none : Option FieldType)) ∈ fs_ws := fs_t4 (List.mem_of_getElem? (i := 188) rfl) rfl
theorem tw_4_189 : (Cond.methodLink "FlowShelf$Collector" 131 ⟨"FlowShelf$Table", "hasRoomFor", "(I)Z"⟩) ∈ fs_ws := fs_t4 (List.mem_of_getElem? (i := 189) rfl) rfl
theorem tw_4_190 : (Cond.instanceMethod ⟨"FlowShelf$Table", "hasRoomFor", "(I)Z"⟩) ∈ fs_ws := fs_t4 (List.mem_of_getElem? (i := 190) rfl) rfl
theorem tw_4_191 : (Cond.selects "FlowShelf$Table" ⟨"FlowShelf$Table", "hasRoomFor", "(I)Z"⟩ ⟨"FlowShelf$Table", "hasRoomFor", "(I)Z"⟩) ∈ fs_ws := fs_t4 (List.mem_of_getElem? (i := 191) rfl) rfl
theorem tw_4_192 : (Cond.code ⟨"FlowShelf$Table", "hasRoomFor", "(I)Z"⟩ prog_11_method_2_code 2 (Option.some FieldType.boolean)) ∈ fs_ws := fs_t4 (List.mem_of_getElem? (i := 192) rfl) rfl
theorem tw_4_193 : (Cond.methodLink "FlowShelf$Table" 25 ⟨"java/util/ArrayList", "size", "()I"⟩) ∈ fs_ws := fs_t4 (List.mem_of_getElem? (i := 193) rfl) rfl
theorem tw_4_195 : (Cond.methodLink "FlowShelf$Collector" 73 ⟨"FlowShelf$Report", "<init>", "(LFlowShelf$Report;)V"⟩) ∈ fs_ws := fs_t4 (List.mem_of_getElem? (i := 195) rfl) rfl
theorem tw_4_196 : (Cond.instanceMethod ⟨"FlowShelf$Report", "<init>", "(LFlowShelf$Report;)V"⟩) ∈ fs_ws := fs_t4 (List.mem_of_getElem? (i := 196) rfl) rfl
theorem tw_4_197 : (Cond.code ⟨"FlowShelf$Report", "<init>", "(LFlowShelf$Report;)V"⟩ prog_8_method_2_code 2 (Option.none : Option FieldType)) ∈ fs_ws := fs_t4 (List.mem_of_getElem? (i := 197) rfl) rfl
theorem tw_4_198 : (Cond.methodLink "FlowShelf$Report" 19 ⟨"java/util/Arrays", "copyOf", "([II)[I"⟩) ∈ fs_ws := fs_t4 (List.mem_of_getElem? (i := 198) rfl) rfl
theorem tw_4_199 : (Cond.static ⟨"java/util/Arrays", "copyOf", "([II)[I"⟩) ∈ fs_ws := fs_t4 (List.mem_of_getElem? (i := 199) rfl) rfl
theorem tw_4_200 : (Cond.code ⟨"java/util/Arrays", "copyOf", "([II)[I"⟩ prog_30_method_123_code 3 (Option.some (FieldType.array FieldType.int))) ∈ fs_ws := fs_t4 (List.mem_of_getElem? (i := 200) rfl) rfl
theorem tw_4_201 : (Cond.methodLink "java/util/Arrays" 316 ⟨"[I", "clone", "()Ljava/lang/Object;"⟩) ∈ fs_ws := fs_t4 (List.mem_of_getElem? (i := 201) rfl) rfl
theorem tw_4_203 : (Cond.native ⟨"java/lang/Object", "clone", "()Ljava/lang/Object;"⟩) ∈ fs_ws := fs_t4 (List.mem_of_getElem? (i := 203) rfl) rfl
theorem tw_4_204 : (Cond.instanceMethod ⟨"java/lang/Object", "clone", "()Ljava/lang/Object;"⟩) ∈ fs_ws := fs_t4 (List.mem_of_getElem? (i := 204) rfl) rfl
theorem tw_4_205 : (Cond.selects "[I" ⟨"[I", "clone", "()Ljava/lang/Object;"⟩ ⟨"java/lang/Object", "clone", "()Ljava/lang/Object;"⟩) ∈ fs_ws := fs_t4 (List.mem_of_getElem? (i := 205) rfl) rfl
theorem tw_4_207 : (Cond.classLink "java/util/Arrays" 317 "[I") ∈ fs_ws := fs_t4 (List.mem_of_getElem? (i := 207) rfl) rfl
theorem tw_4_208 : (Cond.methodLink "FlowShelf$Collector" 76 ⟨"java/util/ArrayList", "add", "(Ljava/lang/Object;)Z"⟩) ∈ fs_ws := fs_t4 (List.mem_of_getElem? (i := 208) rfl) rfl
theorem tw_4_209 : (Cond.methodLink "FlowShelf$Collector" 80 ⟨"FlowShelf$Collector", "readShelf", "(LFlowShelf$Report;)I"⟩) ∈ fs_ws := fs_t4 (List.mem_of_getElem? (i := 209) rfl) rfl
theorem tw_4_210 : (Cond.instanceMethod ⟨"FlowShelf$Collector", "readShelf", "(LFlowShelf$Report;)I"⟩) ∈ fs_ws := fs_t4 (List.mem_of_getElem? (i := 210) rfl) rfl
theorem tw_4_211 : (Cond.selects "FlowShelf$Collector" ⟨"FlowShelf$Collector", "readShelf", "(LFlowShelf$Report;)I"⟩ ⟨"FlowShelf$Collector", "readShelf", "(LFlowShelf$Report;)I"⟩) ∈ fs_ws := fs_t4 (List.mem_of_getElem? (i := 211) rfl) rfl
theorem tw_4_212 : (Cond.code ⟨"FlowShelf$Collector", "readShelf", "(LFlowShelf$Report;)I"⟩ prog_2_method_7_code 6 (Option.some FieldType.int)) ∈ fs_ws := fs_t4 (List.mem_of_getElem? (i := 212) rfl) rfl
theorem tw_4_213 : (Cond.methodLink "FlowShelf$Collector" 89 ⟨"java/util/ArrayList", "remove", "(I)Ljava/lang/Object;"⟩) ∈ fs_ws := fs_t4 (List.mem_of_getElem? (i := 213) rfl) rfl
theorem tw_4_214 : (Cond.methodLink "FlowShelf$Collector" 92 ⟨"FlowShelf$Collector", "readOrSpoil", "(LFlowShelf$Report;LFlowShelf$Report;)V"⟩) ∈ fs_ws := fs_t4 (List.mem_of_getElem? (i := 214) rfl) rfl
theorem tw_4_215 : (Cond.instanceMethod ⟨"FlowShelf$Collector", "readOrSpoil", "(LFlowShelf$Report;LFlowShelf$Report;)V"⟩) ∈ fs_ws := fs_t4 (List.mem_of_getElem? (i := 215) rfl) rfl
theorem tw_4_216 : (Cond.selects "FlowShelf$Collector" ⟨"FlowShelf$Collector", "readOrSpoil", "(LFlowShelf$Report;LFlowShelf$Report;)V"⟩ ⟨"FlowShelf$Collector", "readOrSpoil", "(LFlowShelf$Report;LFlowShelf$Report;)V"⟩) ∈ fs_ws := fs_t4 (List.mem_of_getElem? (i := 216) rfl) rfl
theorem tw_4_217 : (Cond.code ⟨"FlowShelf$Collector", "readOrSpoil", "(LFlowShelf$Report;LFlowShelf$Report;)V"⟩ prog_2_method_8_code 3 (Option.none : Option FieldType)) ∈ fs_ws := fs_t4 (List.mem_of_getElem? (i := 217) rfl) rfl
theorem tw_4_218 : (Cond.methodLink "FlowShelf$Collector" 96 ⟨"FlowShelf$Collector", "canRead", "(LFlowShelf$Report;LFlowShelf$Report;)Z"⟩) ∈ fs_ws := fs_t4 (List.mem_of_getElem? (i := 218) rfl) rfl
theorem tw_4_219 : (Cond.instanceMethod ⟨"FlowShelf$Collector", "canRead", "(LFlowShelf$Report;LFlowShelf$Report;)Z"⟩) ∈ fs_ws := fs_t4 (List.mem_of_getElem? (i := 219) rfl) rfl
theorem tw_4_220 : (Cond.selects "FlowShelf$Collector" ⟨"FlowShelf$Collector", "canRead", "(LFlowShelf$Report;LFlowShelf$Report;)Z"⟩ ⟨"FlowShelf$Collector", "canRead", "(LFlowShelf$Report;LFlowShelf$Report;)Z"⟩) ∈ fs_ws := fs_t4 (List.mem_of_getElem? (i := 220) rfl) rfl
theorem tw_4_221 : (Cond.code ⟨"FlowShelf$Collector", "canRead", "(LFlowShelf$Report;LFlowShelf$Report;)Z"⟩ prog_2_method_13_code 6 (Option.some FieldType.boolean)) ∈ fs_ws := fs_t4 (List.mem_of_getElem? (i := 221) rfl) rfl
theorem tw_4_222 : (Cond.classLink "FlowShelf$Collector" 137 "FlowShelf$Cursor") ∈ fs_ws := fs_t4 (List.mem_of_getElem? (i := 222) rfl) rfl
theorem tw_4_223 : (Cond.instantiable "FlowShelf$Cursor" 3) ∈ fs_ws := fs_t4 (List.mem_of_getElem? (i := 223) rfl) rfl
theorem tw_4_224 : (Cond.methodLink "FlowShelf$Collector" 139 ⟨"FlowShelf$Cursor", "<init>", "(LFlowShelf$Report;)V"⟩) ∈ fs_ws := fs_t4 (List.mem_of_getElem? (i := 224) rfl) rfl
theorem tw_4_225 : (Cond.instanceMethod ⟨"FlowShelf$Cursor", "<init>", "(LFlowShelf$Report;)V"⟩) ∈ fs_ws := fs_t4 (List.mem_of_getElem? (i := 225) rfl) rfl
theorem tw_4_226 : (Cond.code ⟨"FlowShelf$Cursor", "<init>", "(LFlowShelf$Report;)V"⟩ prog_3_method_1_code 2 (Option.none : Option FieldType)) ∈ fs_ws := fs_t4 (List.mem_of_getElem? (i := 226) rfl) rfl
theorem tw_4_227 : (Cond.methodLink "FlowShelf$Cursor" 3 ⟨"java/lang/Object", "<init>", "()V"⟩) ∈ fs_ws := fs_t4 (List.mem_of_getElem? (i := 227) rfl) rfl
theorem tw_4_228 : (Cond.fieldLink "FlowShelf$Cursor" 15 "FlowShelf$Cursor" "records" "LFlowShelf$Report;") ∈ fs_ws := fs_t4 (List.mem_of_getElem? (i := 228) rfl) rfl
theorem tw_4_229 : (Cond.fieldLink "FlowShelf$Cursor" 9 "FlowShelf$Cursor" "at" "I") ∈ fs_ws := fs_t4 (List.mem_of_getElem? (i := 229) rfl) rfl
theorem tw_4_230 : (Cond.fieldLink "FlowShelf$Cursor" 28 "FlowShelf$Cursor" "bad" "Z") ∈ fs_ws := fs_t4 (List.mem_of_getElem? (i := 230) rfl) rfl
theorem tw_4_231 : (Cond.fieldLink "FlowShelf$Collector" 151 "FlowShelf$Cursor" "bad" "Z") ∈ fs_ws := fs_t4 (List.mem_of_getElem? (i := 231) rfl) rfl
theorem tw_4_239 : (Cond.methodLink "FlowShelf$Collector" 140 ⟨"FlowShelf$Report", "templateFields", "()I"⟩) ∈ fs_ws := fs_t4 (List.mem_of_getElem? (i := 239) rfl) rfl
theorem tw_5_0 : (Cond.methodLink "FlowShelf$Collector" 143 ⟨"FlowShelf$Report", "templateLength", "(I)I"⟩) ∈ fs_ws := fs_t5 (List.mem_of_getElem? (i := 0) rfl) rfl
theorem tw_5_1 : (Cond.methodLink "FlowShelf$Collector" 147 ⟨"FlowShelf$Cursor", "takeField", "(I)J"⟩) ∈ fs_ws := fs_t5 (List.mem_of_getElem? (i := 1) rfl) rfl
theorem tw_5_2 : (Cond.instanceMethod ⟨"FlowShelf$Cursor", "takeField", "(I)J"⟩) ∈ fs_ws := fs_t5 (List.mem_of_getElem? (i := 2) rfl) rfl
theorem tw_5_3 : (Cond.selects "FlowShelf$Cursor" ⟨"FlowShelf$Cursor", "takeField", "(I)J"⟩ ⟨"FlowShelf$Cursor", "takeField", "(I)J"⟩) ∈ fs_ws := fs_t5 (List.mem_of_getElem? (i := 3) rfl) rfl
theorem tw_5_4 : (Cond.code ⟨"FlowShelf$Cursor", "takeField", "(I)J"⟩ prog_3_method_3_code 6 (Option.some FieldType.long)) ∈ fs_ws := fs_t5 (List.mem_of_getElem? (i := 4) rfl) rfl
theorem tw_5_5 : (Cond.methodLink "FlowShelf$Cursor" 24 ⟨"FlowShelf$Cursor", "takeByte", "()I"⟩) ∈ fs_ws := fs_t5 (List.mem_of_getElem? (i := 5) rfl) rfl
theorem tw_5_6 : (Cond.instanceMethod ⟨"FlowShelf$Cursor", "takeByte", "()I"⟩) ∈ fs_ws := fs_t5 (List.mem_of_getElem? (i := 6) rfl) rfl
theorem tw_5_7 : (Cond.selects "FlowShelf$Cursor" ⟨"FlowShelf$Cursor", "takeByte", "()I"⟩ ⟨"FlowShelf$Cursor", "takeByte", "()I"⟩) ∈ fs_ws := fs_t5 (List.mem_of_getElem? (i := 7) rfl) rfl
theorem tw_5_8 : (Cond.code ⟨"FlowShelf$Cursor", "takeByte", "()I"⟩ prog_3_method_4_code 2 (Option.some FieldType.int)) ∈ fs_ws := fs_t5 (List.mem_of_getElem? (i := 8) rfl) rfl
theorem tw_5_9 : (Cond.methodLink "FlowShelf$Collector" 155 ⟨"FlowShelf$Cursor", "isAtEnd", "()Z"⟩) ∈ fs_ws := fs_t5 (List.mem_of_getElem? (i := 9) rfl) rfl
theorem tw_5_10 : (Cond.instanceMethod ⟨"FlowShelf$Cursor", "isAtEnd", "()Z"⟩) ∈ fs_ws := fs_t5 (List.mem_of_getElem? (i := 10) rfl) rfl
theorem tw_5_11 : (Cond.selects "FlowShelf$Cursor" ⟨"FlowShelf$Cursor", "isAtEnd", "()Z"⟩ ⟨"FlowShelf$Cursor", "isAtEnd", "()Z"⟩) ∈ fs_ws := fs_t5 (List.mem_of_getElem? (i := 11) rfl) rfl
theorem tw_5_12 : (Cond.code ⟨"FlowShelf$Cursor", "isAtEnd", "()Z"⟩ prog_3_method_2_code 1 (Option.some FieldType.boolean)) ∈ fs_ws := fs_t5 (List.mem_of_getElem? (i := 12) rfl) rfl
theorem tw_5_13 : (Cond.methodLink "FlowShelf$Collector" 100 ⟨"FlowShelf$Collector", "makeRows", "(LFlowShelf$Report;LFlowShelf$Report;)V"⟩) ∈ fs_ws := fs_t5 (List.mem_of_getElem? (i := 13) rfl) rfl
theorem tw_5_14 : (Cond.instanceMethod ⟨"FlowShelf$Collector", "makeRows", "(LFlowShelf$Report;LFlowShelf$Report;)V"⟩) ∈ fs_ws := fs_t5 (List.mem_of_getElem? (i := 14) rfl) rfl
theorem tw_5_15 : (Cond.selects "FlowShelf$Collector" ⟨"FlowShelf$Collector", "makeRows", "(LFlowShelf$Report;LFlowShelf$Report;)V"⟩ ⟨"FlowShelf$Collector", "makeRows", "(LFlowShelf$Report;LFlowShelf$Report;)V"⟩) ∈ fs_ws := fs_t5 (List.mem_of_getElem? (i := 15) rfl) rfl
theorem tw_5_16 : (Cond.code ⟨"FlowShelf$Collector", "makeRows", "(LFlowShelf$Report;LFlowShelf$Report;)V"⟩ prog_2_method_14_code 7 (Option.none : Option FieldType)) ∈ fs_ws := fs_t5 (List.mem_of_getElem? (i := 16) rfl) rfl
theorem tw_5_17 : (Cond.classLink "FlowShelf$Collector" 159 "FlowShelf$Row") ∈ fs_ws := fs_t5 (List.mem_of_getElem? (i := 17) rfl) rfl
theorem tw_5_18 : (Cond.instantiable "FlowShelf$Row" 2) ∈ fs_ws := fs_t5 (List.mem_of_getElem? (i := 18) rfl) rfl
theorem tw_5_19 : (Cond.methodLink "FlowShelf$Collector" 48 ⟨"FlowShelf$Report", "exporter", "()I"⟩) ∈ fs_ws := fs_t5 (List.mem_of_getElem? (i := 19) rfl) rfl
theorem tw_5_20 : (Cond.methodLink "FlowShelf$Collector" 161 ⟨"FlowShelf$Row", "<init>", "(I)V"⟩) ∈ fs_ws := fs_t5 (List.mem_of_getElem? (i := 20) rfl) rfl
theorem tw_5_21 : (Cond.instanceMethod ⟨"FlowShelf$Row", "<init>", "(I)V"⟩) ∈ fs_ws := fs_t5 (List.mem_of_getElem? (i := 21) rfl) rfl
theorem tw_5_22 : (Cond.code ⟨"FlowShelf$Row", "<init>", "(I)V"⟩ prog_9_method_1_code 2 (Option.none : Option FieldType)) ∈ fs_ws := fs_t5 (List.mem_of_getElem? (i := 22) rfl) rfl
theorem tw_5_23 : (Cond.methodLink "FlowShelf$Row" 3 ⟨"java/lang/Object", "<init>", "()V"⟩) ∈ fs_ws := fs_t5 (List.mem_of_getElem? (i := 23) rfl) rfl
theorem tw_5_24 : (Cond.constantLong "FlowShelf$Row" 19 (-1 : Int64)) ∈ fs_ws := fs_t5 (List.mem_of_getElem? (i := 24) rfl) rfl
theorem tw_5_25 : (Cond.methodLink "FlowShelf$Row" 21 ⟨"java/util/Arrays", "fill", "([JJ)V"⟩) ∈ fs_ws := fs_t5 (List.mem_of_getElem? (i := 25) rfl) rfl
theorem tw_5_26 : (Cond.static ⟨"java/util/Arrays", "fill", "([JJ)V"⟩) ∈ fs_ws := fs_t5 (List.mem_of_getElem? (i := 26) rfl) rfl
theorem tw_5_27 : (Cond.code ⟨"java/util/Arrays", "fill", "([JJ)V"⟩ prog_30_method_101_code 5 (Option.none : Option FieldType)) ∈ fs_ws := fs_t5 (List.mem_of_getElem? (i := 27) rfl) rfl
theorem tw_5_28 : (Cond.fieldLink "FlowShelf$Row" 15 "FlowShelf$Row" "exporter" "I") ∈ fs_ws := fs_t5 (List.mem_of_getElem? (i := 28) rfl) rfl
theorem tw_5_29 : (Cond.fieldLink "FlowShelf$Table" 43 "FlowShelf$Row" "exporter" "I") ∈ fs_ws := fs_t5 (List.mem_of_getElem? (i := 29) rfl) rfl
theorem tw_5_30 : (Cond.fieldLink "FlowShelf" 263 "FlowShelf$Row" "exporter" "I") ∈ fs_ws := fs_t5 (List.mem_of_getElem? (i := 30) rfl) rfl
theorem tw_5_31 : (Cond.fieldLink "FlowShelf$Row" 9 "FlowShelf$Row" "values" "[J") ∈ fs_ws := fs_t5 (List.mem_of_getElem? (i := 31) rfl) rfl
theorem tw_5_32 : (Cond.fieldLink "FlowShelf$Table" 50 "FlowShelf$Row" "values" "[J") ∈ fs_ws := fs_t5 (List.mem_of_getElem? (i := 32) rfl) rfl
theorem tw_5_33 : (Cond.fieldLink "FlowShelf$Collector" 163 "FlowShelf$Row" "values" "[J") ∈ fs_ws := fs_t5 (List.mem_of_getElem? (i := 33) rfl) rfl
theorem tw_5_34 : (Cond.fieldLink "FlowShelf" 265 "FlowShelf$Row" "values" "[J") ∈ fs_ws := fs_t5 (List.mem_of_getElem? (i := 34) rfl) rfl
theorem tw_5_40 : (Cond.arrayClass FieldType.long) ∈ fs_ws := fs_t5 (List.mem_of_getElem? (i := 40) rfl) rfl
theorem tw_5_41 : (Cond.methodLink "FlowShelf$Collector" 167 ⟨"FlowShelf$Report", "templateField", "(I)I"⟩) ∈ fs_ws := fs_t5 (List.mem_of_getElem? (i := 41) rfl) rfl
theorem tw_5_42 : (Cond.methodLink "FlowShelf$Collector" 170 ⟨"FlowShelf$Table", "addRow", "(LFlowShelf$Row;)V"⟩) ∈ fs_ws := fs_t5 (List.mem_of_getElem? (i := 42) rfl) rfl
theorem tw_5_43 : (Cond.instanceMethod ⟨"FlowShelf$Table", "addRow", "(LFlowShelf$Row;)V"⟩) ∈ fs_ws := fs_t5 (List.mem_of_getElem? (i := 43) rfl) rfl
theorem tw_5_44 : (Cond.selects "FlowShelf$Table" ⟨"FlowShelf$Table", "addRow", "(LFlowShelf$Row;)V"⟩ ⟨"FlowShelf$Table", "addRow", "(LFlowShelf$Row;)V"⟩) ∈ fs_ws := fs_t5 (List.mem_of_getElem? (i := 44) rfl) rfl
theorem tw_5_45 : (Cond.code ⟨"FlowShelf$Table", "addRow", "(LFlowShelf$Row;)V"⟩ prog_11_method_3_code 2 (Option.none : Option FieldType)) ∈ fs_ws := fs_t5 (List.mem_of_getElem? (i := 45) rfl) rfl
theorem tw_5_46 : (Cond.methodLink "FlowShelf$Table" 29 ⟨"FlowShelf$Table", "hasRoomFor", "(I)Z"⟩) ∈ fs_ws := fs_t5 (List.mem_of_getElem? (i := 46) rfl) rfl
theorem tw_5_47 : (Cond.methodLink "FlowShelf$Table" 33 ⟨"java/util/ArrayList", "add", "(Ljava/lang/Object;)Z"⟩) ∈ fs_ws := fs_t5 (List.mem_of_getElem? (i := 47) rfl) rfl
theorem tw_5_48 : (Cond.methodLink "FlowShelf$Collector" 103 ⟨"FlowShelf$Collector", "ledgerOf", "(I)LFlowShelf$Ledger;"⟩) ∈ fs_ws := fs_t5 (List.mem_of_getElem? (i := 48) rfl) rfl
theorem tw_5_49 : (Cond.instanceMethod ⟨"FlowShelf$Collector", "ledgerOf", "(I)LFlowShelf$Ledger;"⟩) ∈ fs_ws := fs_t5 (List.mem_of_getElem? (i := 49) rfl) rfl
theorem tw_5_50 : (Cond.selects "FlowShelf$Collector" ⟨"FlowShelf$Collector", "ledgerOf", "(I)LFlowShelf$Ledger;"⟩ ⟨"FlowShelf$Collector", "ledgerOf", "(I)LFlowShelf$Ledger;"⟩) ∈ fs_ws := fs_t5 (List.mem_of_getElem? (i := 50) rfl) rfl
theorem tw_5_51 : (Cond.code ⟨"FlowShelf$Collector", "ledgerOf", "(I)LFlowShelf$Ledger;"⟩ prog_2_method_2_code 2 (Option.some (FieldType.object "FlowShelf$Ledger"))) ∈ fs_ws := fs_t5 (List.mem_of_getElem? (i := 51) rfl) rfl
theorem tw_5_52 : (Cond.methodLink "FlowShelf" 231 ⟨"FlowShelf$Collector", "hearRecords", "(LFlowShelf$Report;)I"⟩) ∈ fs_ws := fs_t5 (List.mem_of_getElem? (i := 52) rfl) rfl
theorem tw_5_53 : (Cond.instanceMethod ⟨"FlowShelf$Collector", "hearRecords", "(LFlowShelf$Report;)I"⟩) ∈ fs_ws := fs_t5 (List.mem_of_getElem? (i := 53) rfl) rfl
theorem tw_5_54 : (Cond.selects "FlowShelf$Collector" ⟨"FlowShelf$Collector", "hearRecords", "(LFlowShelf$Report;)I"⟩ ⟨"FlowShelf$Collector", "hearRecords", "(LFlowShelf$Report;)I"⟩) ∈ fs_ws := fs_t5 (List.mem_of_getElem? (i := 54) rfl) rfl
theorem tw_5_55 : (Cond.code ⟨"FlowShelf$Collector", "hearRecords", "(LFlowShelf$Report;)I"⟩ prog_2_method_9_code 5 (Option.some FieldType.int)) ∈ fs_ws := fs_t5 (List.mem_of_getElem? (i := 55) rfl) rfl
theorem tw_5_56 : (Cond.methodLink "FlowShelf$Collector" 111 ⟨"FlowShelf$Ledger", "heardOneOf", "(LFlowShelf$Report;)Z"⟩) ∈ fs_ws := fs_t5 (List.mem_of_getElem? (i := 56) rfl) rfl
theorem tw_5_57 : (Cond.instanceMethod ⟨"FlowShelf$Ledger", "heardOneOf", "(LFlowShelf$Report;)Z"⟩) ∈ fs_ws := fs_t5 (List.mem_of_getElem? (i := 57) rfl) rfl
theorem tw_5_58 : (Cond.selects "FlowShelf$Ledger" ⟨"FlowShelf$Ledger", "heardOneOf", "(LFlowShelf$Report;)Z"⟩ ⟨"FlowShelf$Ledger", "heardOneOf", "(LFlowShelf$Report;)Z"⟩) ∈ fs_ws := fs_t5 (List.mem_of_getElem? (i := 58) rfl) rfl
theorem tw_5_59 : (Cond.code ⟨"FlowShelf$Ledger", "heardOneOf", "(LFlowShelf$Report;)Z"⟩ prog_7_method_2_code 4 (Option.some FieldType.boolean)) ∈ fs_ws := fs_t5 (List.mem_of_getElem? (i := 59) rfl) rfl
theorem tw_5_60 : (Cond.methodLink "FlowShelf$Ledger" 15 ⟨"FlowShelf$Report", "epoch", "()I"⟩) ∈ fs_ws := fs_t5 (List.mem_of_getElem? (i := 60) rfl) rfl
theorem tw_5_61 : (Cond.methodLink "FlowShelf$Ledger" 21 ⟨"FlowShelf$Report", "firstPlace", "()I"⟩) ∈ fs_ws := fs_t5 (List.mem_of_getElem? (i := 61) rfl) rfl
theorem tw_5_62 : (Cond.methodLink "FlowShelf$Ledger" 24 ⟨"FlowShelf$Report", "records", "()I"⟩) ∈ fs_ws := fs_t5 (List.mem_of_getElem? (i := 62) rfl) rfl
theorem tw_5_63 : (Cond.methodLink "FlowShelf$Collector" 114 ⟨"FlowShelf$Collector", "putOnShelf", "(LFlowShelf$Report;)V"⟩) ∈ fs_ws := fs_t5 (List.mem_of_getElem? (i := 63) rfl) rfl
theorem tw_5_64 : (Cond.instanceMethod ⟨"FlowShelf$Collector", "putOnShelf", "(LFlowShelf$Report;)V"⟩) ∈ fs_ws := fs_t5 (List.mem_of_getElem? (i := 64) rfl) rfl
theorem tw_5_65 : (Cond.selects "FlowShelf$Collector" ⟨"FlowShelf$Collector", "putOnShelf", "(LFlowShelf$Report;)V"⟩ ⟨"FlowShelf$Collector", "putOnShelf", "(LFlowShelf$Report;)V"⟩) ∈ fs_ws := fs_t5 (List.mem_of_getElem? (i := 65) rfl) rfl
theorem tw_5_66 : (Cond.code ⟨"FlowShelf$Collector", "putOnShelf", "(LFlowShelf$Report;)V"⟩ prog_2_method_11_code 2 (Option.none : Option FieldType)) ∈ fs_ws := fs_t5 (List.mem_of_getElem? (i := 66) rfl) rfl
theorem tw_5_67 : (Cond.methodLink "FlowShelf$Collector" 117 ⟨"FlowShelf$Collector", "readNow", "(LFlowShelf$Report;LFlowShelf$Report;)V"⟩) ∈ fs_ws := fs_t5 (List.mem_of_getElem? (i := 67) rfl) rfl
theorem tw_5_68 : (Cond.instanceMethod ⟨"FlowShelf$Collector", "readNow", "(LFlowShelf$Report;LFlowShelf$Report;)V"⟩) ∈ fs_ws := fs_t5 (List.mem_of_getElem? (i := 68) rfl) rfl
theorem tw_5_69 : (Cond.selects "FlowShelf$Collector" ⟨"FlowShelf$Collector", "readNow", "(LFlowShelf$Report;LFlowShelf$Report;)V"⟩ ⟨"FlowShelf$Collector", "readNow", "(LFlowShelf$Report;LFlowShelf$Report;)V"⟩) ∈ fs_ws := fs_t5 (List.mem_of_getElem? (i := 69) rfl) rfl
theorem tw_5_70 : (Cond.code ⟨"FlowShelf$Collector", "readNow", "(LFlowShelf$Report;LFlowShelf$Report;)V"⟩ prog_2_method_10_code 3 (Option.none : Option FieldType)) ∈ fs_ws := fs_t5 (List.mem_of_getElem? (i := 70) rfl) rfl
theorem tw_5_71 : (Cond.classLink "FlowShelf$Collector" 123 "java/lang/IllegalArgumentException") ∈ fs_ws := fs_t5 (List.mem_of_getElem? (i := 71) rfl) rfl
theorem tw_5_73 : (Cond.methodLink "FlowShelf$Collector" 127 ⟨"java/lang/IllegalArgumentException", "<init>", "(Ljava/lang/String;)V"⟩) ∈ fs_ws := fs_t5 (List.mem_of_getElem? (i := 73) rfl) rfl
theorem tw_5_74 : (Cond.methodLink "FlowShelf$Collector" 120 ⟨"FlowShelf$Ledger", "markHeard", "(LFlowShelf$Report;)V"⟩) ∈ fs_ws := fs_t5 (List.mem_of_getElem? (i := 74) rfl) rfl
theorem tw_5_75 : (Cond.instanceMethod ⟨"FlowShelf$Ledger", "markHeard", "(LFlowShelf$Report;)V"⟩) ∈ fs_ws := fs_t5 (List.mem_of_getElem? (i := 75) rfl) rfl
theorem tw_5_76 : (Cond.selects "FlowShelf$Ledger" ⟨"FlowShelf$Ledger", "markHeard", "(LFlowShelf$Report;)V"⟩ ⟨"FlowShelf$Ledger", "markHeard", "(LFlowShelf$Report;)V"⟩) ∈ fs_ws := fs_t5 (List.mem_of_getElem? (i := 76) rfl) rfl
theorem tw_5_77 : (Cond.code ⟨"FlowShelf$Ledger", "markHeard", "(LFlowShelf$Report;)V"⟩ prog_7_method_3_code 4 (Option.none : Option FieldType)) ∈ fs_ws := fs_t5 (List.mem_of_getElem? (i := 77) rfl) rfl
theorem tw_5_78 : (Cond.methodLink "FlowShelf" 234 ⟨"FlowShelf$Report", "exporter", "()I"⟩) ∈ fs_ws := fs_t5 (List.mem_of_getElem? (i := 78) rfl) rfl
theorem tw_5_79 : (Cond.methodLink "FlowShelf" 237 ⟨"FlowShelf$Collector", "ledgerOf", "(I)LFlowShelf$Ledger;"⟩) ∈ fs_ws := fs_t5 (List.mem_of_getElem? (i := 79) rfl) rfl
theorem tw_5_80 : (Cond.methodLink "FlowShelf" 241 ⟨"FlowShelf$Ledger", "noteSampler", "(LFlowShelf$Report;)V"⟩) ∈ fs_ws := fs_t5 (List.mem_of_getElem? (i := 80) rfl) rfl
theorem tw_5_81 : (Cond.instanceMethod ⟨"FlowShelf$Ledger", "noteSampler", "(LFlowShelf$Report;)V"⟩) ∈ fs_ws := fs_t5 (List.mem_of_getElem? (i := 81) rfl) rfl
theorem tw_5_82 : (Cond.selects "FlowShelf$Ledger" ⟨"FlowShelf$Ledger", "noteSampler", "(LFlowShelf$Report;)V"⟩ ⟨"FlowShelf$Ledger", "noteSampler", "(LFlowShelf$Report;)V"⟩) ∈ fs_ws := fs_t5 (List.mem_of_getElem? (i := 82) rfl) rfl
theorem tw_5_83 : (Cond.code ⟨"FlowShelf$Ledger", "noteSampler", "(LFlowShelf$Report;)V"⟩ prog_7_method_6_code 4 (Option.none : Option FieldType)) ∈ fs_ws := fs_t5 (List.mem_of_getElem? (i := 83) rfl) rfl
theorem tw_5_84 : (Cond.methodLink "FlowShelf$Ledger" 38 ⟨"FlowShelf$Report", "samplersBefore", "()I"⟩) ∈ fs_ws := fs_t5 (List.mem_of_getElem? (i := 84) rfl) rfl
theorem tw_5_85 : (Cond.instanceMethod ⟨"FlowShelf$Report", "samplersBefore", "()I"⟩) ∈ fs_ws := fs_t5 (List.mem_of_getElem? (i := 85) rfl) rfl
theorem tw_5_86 : (Cond.selects "FlowShelf$Report" ⟨"FlowShelf$Report", "samplersBefore", "()I"⟩ ⟨"FlowShelf$Report", "samplersBefore", "()I"⟩) ∈ fs_ws := fs_t5 (List.mem_of_getElem? (i := 86) rfl) rfl
theorem tw_5_87 : (Cond.code ⟨"FlowShelf$Report", "samplersBefore", "()I"⟩ prog_8_method_13_code 1 (Option.some FieldType.int)) ∈ fs_ws := fs_t5 (List.mem_of_getElem? (i := 87) rfl) rfl
theorem tw_5_88 : (Cond.methodLink "FlowShelf$Ledger" 44 ⟨"FlowShelf$Report", "samplerN", "()I"⟩) ∈ fs_ws := fs_t5 (List.mem_of_getElem? (i := 88) rfl) rfl
theorem tw_5_89 : (Cond.methodLink "FlowShelfLaw" 153 ⟨"FlowShelfLaw", "row", "(LFlowShelf;II[J)I"⟩) ∈ fs_ws := fs_t5 (List.mem_of_getElem? (i := 89) rfl) rfl
theorem tw_5_90 : (Cond.static ⟨"FlowShelfLaw", "row", "(LFlowShelf;II[J)I"⟩) ∈ fs_ws := fs_t5 (List.mem_of_getElem? (i := 90) rfl) rfl
theorem tw_5_91 : (Cond.codeWith ⟨"FlowShelfLaw", "row", "(LFlowShelf;II[J)I"⟩ method_18_code 5 (Option.some FieldType.int) [(0, 9, 12, 33), (0, 9, 16, 13)]) ∈ fs_ws := fs_t5 (List.mem_of_getElem? (i := 91) rfl) rfl
theorem tw_5_92 : (Cond.methodLink "FlowShelfLaw" 69 ⟨"FlowShelf", "row", "(II)J"⟩) ∈ fs_ws := fs_t5 (List.mem_of_getElem? (i := 92) rfl) rfl
theorem tw_5_93 : (Cond.instanceMethod ⟨"FlowShelf", "row", "(II)J"⟩) ∈ fs_ws := fs_t5 (List.mem_of_getElem? (i := 93) rfl) rfl
theorem tw_5_94 : (Cond.selects "FlowShelf" ⟨"FlowShelf", "row", "(II)J"⟩ ⟨"FlowShelf", "row", "(II)J"⟩) ∈ fs_ws := fs_t5 (List.mem_of_getElem? (i := 94) rfl) rfl
theorem tw_5_95 : (Cond.code ⟨"FlowShelf", "row", "(II)J"⟩ prog_1_method_19_code 4 (Option.some FieldType.long)) ∈ fs_ws := fs_t5 (List.mem_of_getElem? (i := 95) rfl) rfl
theorem tw_5_96 : (Cond.methodLink "FlowShelf" 256 ⟨"FlowShelf", "requireRow", "(I)V"⟩) ∈ fs_ws := fs_t5 (List.mem_of_getElem? (i := 96) rfl) rfl
theorem tw_5_98 : (Cond.instanceMethod ⟨"FlowShelf", "requireRow", "(I)V"⟩) ∈ fs_ws := fs_t5 (List.mem_of_getElem? (i := 98) rfl) rfl
theorem tw_5_99 : (Cond.code ⟨"FlowShelf", "requireRow", "(I)V"⟩ prog_1_method_26_code 2 (Option.none : Option FieldType)) ∈ fs_ws := fs_t5 (List.mem_of_getElem? (i := 99) rfl) rfl
theorem tw_5_102 : (Cond.classLink "FlowShelf" 261 "FlowShelf$Row") ∈ fs_ws := fs_t5 (List.mem_of_getElem? (i := 102) rfl) rfl
theorem tw_5_103 : (Cond.methodLink "FlowShelfLaw" 158 ⟨"FlowShelfLaw", "total", "(LFlowShelf;IIJI[J)I"⟩) ∈ fs_ws := fs_t5 (List.mem_of_getElem? (i := 103) rfl) rfl
theorem tw_5_104 : (Cond.static ⟨"FlowShelfLaw", "total", "(LFlowShelf;IIJI[J)I"⟩) ∈ fs_ws := fs_t5 (List.mem_of_getElem? (i := 104) rfl) rfl
theorem tw_5_105 : (Cond.codeWith ⟨"FlowShelfLaw", "total", "(LFlowShelf;IIJI[J)I"⟩ method_19_code 8 (Option.some FieldType.int) [(0, 13, 16, 13)]) ∈ fs_ws := fs_t5 (List.mem_of_getElem? (i := 105) rfl) rfl
theorem tw_5_106 : (Cond.methodLink "FlowShelfLaw" 73 ⟨"FlowShelf", "total", "(IIJI)J"⟩) ∈ fs_ws := fs_t5 (List.mem_of_getElem? (i := 106) rfl) rfl
theorem tw_5_107 : (Cond.instanceMethod ⟨"FlowShelf", "total", "(IIJI)J"⟩) ∈ fs_ws := fs_t5 (List.mem_of_getElem? (i := 107) rfl) rfl
theorem tw_5_108 : (Cond.selects "FlowShelf" ⟨"FlowShelf", "total", "(IIJI)J"⟩ ⟨"FlowShelf", "total", "(IIJI)J"⟩) ∈ fs_ws := fs_t5 (List.mem_of_getElem? (i := 108) rfl) rfl
theorem tw_5_109 : (Cond.code ⟨"FlowShelf", "total", "(IIJI)J"⟩ prog_1_method_20_code 6 (Option.some FieldType.long)) ∈ fs_ws := fs_t5 (List.mem_of_getElem? (i := 109) rfl) rfl
theorem tw_5_110 : (Cond.methodLink "FlowShelf" 274 ⟨"FlowShelf$Table", "sumOf", "(IIJI)J"⟩) ∈ fs_ws := fs_t5 (List.mem_of_getElem? (i := 110) rfl) rfl
theorem tw_5_111 : (Cond.instanceMethod ⟨"FlowShelf$Table", "sumOf", "(IIJI)J"⟩) ∈ fs_ws := fs_t5 (List.mem_of_getElem? (i := 111) rfl) rfl
theorem tw_5_112 : (Cond.selects "FlowShelf$Table" ⟨"FlowShelf$Table", "sumOf", "(IIJI)J"⟩ ⟨"FlowShelf$Table", "sumOf", "(IIJI)J"⟩) ∈ fs_ws := fs_t5 (List.mem_of_getElem? (i := 112) rfl) rfl
theorem tw_5_113 : (Cond.code ⟨"FlowShelf$Table", "sumOf", "(IIJI)J"⟩ prog_11_method_4_code 10 (Option.some FieldType.long)) ∈ fs_ws := fs_t5 (List.mem_of_getElem? (i := 113) rfl) rfl
theorem tw_5_114 : (Cond.methodLink "FlowShelf$Table" 37 ⟨"java/util/ArrayList", "get", "(I)Ljava/lang/Object;"⟩) ∈ fs_ws := fs_t5 (List.mem_of_getElem? (i := 114) rfl) rfl
theorem tw_5_115 : (Cond.classLink "FlowShelf$Table" 41 "FlowShelf$Row") ∈ fs_ws := fs_t5 (List.mem_of_getElem? (i := 115) rfl) rfl
theorem tw_5_116 : (Cond.methodLink "FlowShelf$Table" 47 ⟨"FlowShelf$Row", "has", "(I)Z"⟩) ∈ fs_ws := fs_t5 (List.mem_of_getElem? (i := 116) rfl) rfl
theorem tw_5_117 : (Cond.instanceMethod ⟨"FlowShelf$Row", "has", "(I)Z"⟩) ∈ fs_ws := fs_t5 (List.mem_of_getElem? (i := 117) rfl) rfl
theorem tw_5_118 : (Cond.selects "FlowShelf$Row" ⟨"FlowShelf$Row", "has", "(I)Z"⟩ ⟨"FlowShelf$Row", "has", "(I)Z"⟩) ∈ fs_ws := fs_t5 (List.mem_of_getElem? (i := 118) rfl) rfl
theorem tw_5_119 : (Cond.code ⟨"FlowShelf$Row", "has", "(I)Z"⟩ prog_9_method_2_code 2 (Option.some FieldType.boolean)) ∈ fs_ws := fs_t5 (List.mem_of_getElem? (i := 119) rfl) rfl
theorem tw_5_120 : (Cond.methodLink "FlowShelfLaw" 162 ⟨"FlowShelfLaw", "other", "(LFlowShelf;I[J)I"⟩) ∈ fs_ws := fs_t5 (List.mem_of_getElem? (i := 120) rfl) rfl
theorem tw_5_121 : (Cond.static ⟨"FlowShelfLaw", "other", "(LFlowShelf;I[J)I"⟩) ∈ fs_ws := fs_t5 (List.mem_of_getElem? (i := 121) rfl) rfl
theorem tw_5_122 : (Cond.codeWith ⟨"FlowShelfLaw", "other", "(LFlowShelf;I[J)I"⟩ method_20_code 4 (Option.some FieldType.int) [(0, 9, 12, 33)]) ∈ fs_ws := fs_t5 (List.mem_of_getElem? (i := 122) rfl) rfl
theorem tw_5_123 : (Cond.methodLink "FlowShelfLaw" 77 ⟨"FlowShelf", "other", "(I)I"⟩) ∈ fs_ws := fs_t5 (List.mem_of_getElem? (i := 123) rfl) rfl
theorem tw_5_124 : (Cond.instanceMethod ⟨"FlowShelf", "other", "(I)I"⟩) ∈ fs_ws := fs_t5 (List.mem_of_getElem? (i := 124) rfl) rfl
theorem tw_5_125 : (Cond.selects "FlowShelf" ⟨"FlowShelf", "other", "(I)I"⟩ ⟨"FlowShelf", "other", "(I)I"⟩) ∈ fs_ws := fs_t5 (List.mem_of_getElem? (i := 125) rfl) rfl
theorem tw_5_126 : (Cond.code ⟨"FlowShelf", "other", "(I)I"⟩ prog_1_method_21_code 2 (Option.some FieldType.int)) ∈ fs_ws := fs_t5 (List.mem_of_getElem? (i := 126) rfl) rfl
theorem tw_5_127 : (Cond.methodLink "FlowShelf" 278 ⟨"FlowShelf$Table", "partnerOf", "(I)I"⟩) ∈ fs_ws := fs_t5 (List.mem_of_getElem? (i := 127) rfl) rfl
theorem tw_5_128 : (Cond.instanceMethod ⟨"FlowShelf$Table", "partnerOf", "(I)I"⟩) ∈ fs_ws := fs_t5 (List.mem_of_getElem? (i := 128) rfl) rfl
theorem tw_5_129 : (Cond.selects "FlowShelf$Table" ⟨"FlowShelf$Table", "partnerOf", "(I)I"⟩ ⟨"FlowShelf$Table", "partnerOf", "(I)I"⟩) ∈ fs_ws := fs_t5 (List.mem_of_getElem? (i := 129) rfl) rfl
theorem tw_5_130 : (Cond.code ⟨"FlowShelf$Table", "partnerOf", "(I)I"⟩ prog_11_method_5_code 2 (Option.some FieldType.int)) ∈ fs_ws := fs_t5 (List.mem_of_getElem? (i := 130) rfl) rfl
theorem tw_5_131 : (Cond.methodLink "FlowShelf$Table" 57 ⟨"FlowShelf$Table", "pairAll", "()V"⟩) ∈ fs_ws := fs_t5 (List.mem_of_getElem? (i := 131) rfl) rfl
theorem tw_5_132 : (Cond.instanceMethod ⟨"FlowShelf$Table", "pairAll", "()V"⟩) ∈ fs_ws := fs_t5 (List.mem_of_getElem? (i := 132) rfl) rfl
theorem tw_5_133 : (Cond.selects "FlowShelf$Table" ⟨"FlowShelf$Table", "pairAll", "()V"⟩ ⟨"FlowShelf$Table", "pairAll", "()V"⟩) ∈ fs_ws := fs_t5 (List.mem_of_getElem? (i := 133) rfl) rfl
theorem tw_5_134 : (Cond.code ⟨"FlowShelf$Table", "pairAll", "()V"⟩ prog_11_method_6_code 4 (Option.none : Option FieldType)) ∈ fs_ws := fs_t5 (List.mem_of_getElem? (i := 134) rfl) rfl
theorem tw_5_135 : (Cond.methodLink "FlowShelf$Table" 60 ⟨"java/util/Arrays", "fill", "([II)V"⟩) ∈ fs_ws := fs_t5 (List.mem_of_getElem? (i := 135) rfl) rfl
theorem tw_5_136 : (Cond.static ⟨"java/util/Arrays", "fill", "([II)V"⟩) ∈ fs_ws := fs_t5 (List.mem_of_getElem? (i := 136) rfl) rfl
theorem tw_5_137 : (Cond.code ⟨"java/util/Arrays", "fill", "([II)V"⟩ prog_30_method_103_code 4 (Option.none : Option FieldType)) ∈ fs_ws := fs_t5 (List.mem_of_getElem? (i := 137) rfl) rfl
theorem tw_5_138 : (Cond.methodLink "FlowShelf$Table" 66 ⟨"FlowShelf$Table", "putInOrder", "()V"⟩) ∈ fs_ws := fs_t5 (List.mem_of_getElem? (i := 138) rfl) rfl
theorem tw_5_139 : (Cond.instanceMethod ⟨"FlowShelf$Table", "putInOrder", "()V"⟩) ∈ fs_ws := fs_t5 (List.mem_of_getElem? (i := 139) rfl) rfl
theorem tw_5_140 : (Cond.selects "FlowShelf$Table" ⟨"FlowShelf$Table", "putInOrder", "()V"⟩ ⟨"FlowShelf$Table", "putInOrder", "()V"⟩) ∈ fs_ws := fs_t5 (List.mem_of_getElem? (i := 140) rfl) rfl
theorem tw_5_141 : (Cond.code ⟨"FlowShelf$Table", "putInOrder", "()V"⟩ prog_11_method_7_code 2 (Option.none : Option FieldType)) ∈ fs_ws := fs_t5 (List.mem_of_getElem? (i := 141) rfl) rfl
theorem tw_5_142 : (Cond.methodLink "FlowShelf$Table" 76 ⟨"FlowShelf$Row", "canBePaired", "()Z"⟩) ∈ fs_ws := fs_t5 (List.mem_of_getElem? (i := 142) rfl) rfl
theorem tw_5_143 : (Cond.instanceMethod ⟨"FlowShelf$Row", "canBePaired", "()Z"⟩) ∈ fs_ws := fs_t5 (List.mem_of_getElem? (i := 143) rfl) rfl
theorem tw_5_144 : (Cond.selects "FlowShelf$Row" ⟨"FlowShelf$Row", "canBePaired", "()Z"⟩ ⟨"FlowShelf$Row", "canBePaired", "()Z"⟩) ∈ fs_ws := fs_t5 (List.mem_of_getElem? (i := 144) rfl) rfl
theorem tw_5_145 : (Cond.code ⟨"FlowShelf$Row", "canBePaired", "()Z"⟩ prog_9_method_3_code 1 (Option.some FieldType.boolean)) ∈ fs_ws := fs_t5 (List.mem_of_getElem? (i := 145) rfl) rfl
theorem tw_5_146 : (Cond.methodLink "FlowShelf$Row" 27 ⟨"FlowShelf$Row", "has", "(I)Z"⟩) ∈ fs_ws := fs_t5 (List.mem_of_getElem? (i := 146) rfl) rfl
theorem tw_5_147 : (Cond.methodLink "FlowShelf$Table" 80 ⟨"FlowShelf$Table", "insertInOrder", "(I)V"⟩) ∈ fs_ws := fs_t5 (List.mem_of_getElem? (i := 147) rfl) rfl
theorem tw_5_148 : (Cond.instanceMethod ⟨"FlowShelf$Table", "insertInOrder", "(I)V"⟩) ∈ fs_ws := fs_t5 (List.mem_of_getElem? (i := 148) rfl) rfl
theorem tw_5_149 : (Cond.selects "FlowShelf$Table" ⟨"FlowShelf$Table", "insertInOrder", "(I)V"⟩ ⟨"FlowShelf$Table", "insertInOrder", "(I)V"⟩) ∈ fs_ws := fs_t5 (List.mem_of_getElem? (i := 149) rfl) rfl
theorem tw_5_150 : (Cond.code ⟨"FlowShelf$Table", "insertInOrder", "(I)V"⟩ prog_11_method_8_code 3 (Option.none : Option FieldType)) ∈ fs_ws := fs_t5 (List.mem_of_getElem? (i := 150) rfl) rfl
theorem tw_5_151 : (Cond.methodLink "FlowShelf$Table" 72 ⟨"FlowShelf$Table", "nearestReverse", "(I)I"⟩) ∈ fs_ws := fs_t5 (List.mem_of_getElem? (i := 151) rfl) rfl
theorem tw_5_152 : (Cond.instanceMethod ⟨"FlowShelf$Table", "nearestReverse", "(I)I"⟩) ∈ fs_ws := fs_t5 (List.mem_of_getElem? (i := 152) rfl) rfl
theorem tw_5_153 : (Cond.selects "FlowShelf$Table" ⟨"FlowShelf$Table", "nearestReverse", "(I)I"⟩ ⟨"FlowShelf$Table", "nearestReverse", "(I)I"⟩) ∈ fs_ws := fs_t5 (List.mem_of_getElem? (i := 153) rfl) rfl
theorem tw_5_154 : (Cond.code ⟨"FlowShelf$Table", "nearestReverse", "(I)I"⟩ prog_11_method_9_code 6 (Option.some FieldType.int)) ∈ fs_ws := fs_t5 (List.mem_of_getElem? (i := 154) rfl) rfl
theorem tw_5_155 : (Cond.methodLink "FlowShelf$Table" 84 ⟨"FlowShelf$Row", "isReverseOf", "(LFlowShelf$Row;)Z"⟩) ∈ fs_ws := fs_t5 (List.mem_of_getElem? (i := 155) rfl) rfl
theorem tw_5_156 : (Cond.instanceMethod ⟨"FlowShelf$Row", "isReverseOf", "(LFlowShelf$Row;)Z"⟩) ∈ fs_ws := fs_t5 (List.mem_of_getElem? (i := 156) rfl) rfl
theorem tw_5_157 : (Cond.selects "FlowShelf$Row" ⟨"FlowShelf$Row", "isReverseOf", "(LFlowShelf$Row;)Z"⟩ ⟨"FlowShelf$Row", "isReverseOf", "(LFlowShelf$Row;)Z"⟩) ∈ fs_ws := fs_t5 (List.mem_of_getElem? (i := 157) rfl) rfl
theorem tw_5_158 : (Cond.code ⟨"FlowShelf$Row", "isReverseOf", "(LFlowShelf$Row;)Z"⟩ prog_9_method_4_code 2 (Option.some FieldType.boolean)) ∈ fs_ws := fs_t5 (List.mem_of_getElem? (i := 158) rfl) rfl
theorem tw_5_159 : (Cond.methodLink "FlowShelf$Table" 88 ⟨"FlowShelf$Row", "ticksBetween", "(LFlowShelf$Row;)J"⟩) ∈ fs_ws := fs_t5 (List.mem_of_getElem? (i := 159) rfl) rfl
theorem tw_5_160 : (Cond.instanceMethod ⟨"FlowShelf$Row", "ticksBetween", "(LFlowShelf$Row;)J"⟩) ∈ fs_ws := fs_t5 (List.mem_of_getElem? (i := 160) rfl) rfl
theorem tw_5_161 : (Cond.selects "FlowShelf$Row" ⟨"FlowShelf$Row", "ticksBetween", "(LFlowShelf$Row;)J"⟩ ⟨"FlowShelf$Row", "ticksBetween", "(LFlowShelf$Row;)J"⟩) ∈ fs_ws := fs_t5 (List.mem_of_getElem? (i := 161) rfl) rfl
theorem tw_5_162 : (Cond.code ⟨"FlowShelf$Row", "ticksBetween", "(LFlowShelf$Row;)J"⟩ prog_9_method_5_code 2 (Option.some FieldType.long)) ∈ fs_ws := fs_t5 (List.mem_of_getElem? (i := 162) rfl) rfl
theorem tw_5_163 : (Cond.methodLink "FlowShelf$Row" 31 ⟨"java/lang/Math", "abs", "(J)J"⟩) ∈ fs_ws := fs_t5 (List.mem_of_getElem? (i := 163) rfl) rfl
theorem tw_5_164 : (Cond.static ⟨"java/lang/Math", "abs", "(J)J"⟩) ∈ fs_ws := fs_t5 (List.mem_of_getElem? (i := 164) rfl) rfl
theorem tw_5_165 : (Cond.code ⟨"java/lang/Math", "abs", "(J)J"⟩ prog_21_method_61_code 2 (Option.some FieldType.long)) ∈ fs_ws := fs_t5 (List.mem_of_getElem? (i := 165) rfl) rfl
theorem tw_5_166 : (Cond.methodLink "FlowShelfLaw" 165 ⟨"FlowShelfLaw", "count", "(LFlowShelf;II[J)I"⟩) ∈ fs_ws := fs_t5 (List.mem_of_getElem? (i := 166) rfl) rfl
theorem tw_5_167 : (Cond.static ⟨"FlowShelfLaw", "count", "(LFlowShelf;II[J)I"⟩) ∈ fs_ws := fs_t5 (List.mem_of_getElem? (i := 167) rfl) rfl
theorem tw_5_168 : (Cond.codeWith ⟨"FlowShelfLaw", "count", "(LFlowShelf;II[J)I"⟩ method_21_code 5 (Option.some FieldType.int) [(0, 10, 13, 13)]) ∈ fs_ws := fs_t5 (List.mem_of_getElem? (i := 168) rfl) rfl
theorem tw_5_169 : (Cond.methodLink "FlowShelfLaw" 80 ⟨"FlowShelf", "count", "(II)I"⟩) ∈ fs_ws := fs_t5 (List.mem_of_getElem? (i := 169) rfl) rfl
theorem tw_5_170 : (Cond.instanceMethod ⟨"FlowShelf", "count", "(II)I"⟩) ∈ fs_ws := fs_t5 (List.mem_of_getElem? (i := 170) rfl) rfl
theorem tw_5_171 : (Cond.selects "FlowShelf" ⟨"FlowShelf", "count", "(II)I"⟩ ⟨"FlowShelf", "count", "(II)I"⟩) ∈ fs_ws := fs_t5 (List.mem_of_getElem? (i := 171) rfl) rfl
theorem tw_5_172 : (Cond.code ⟨"FlowShelf", "count", "(II)I"⟩ prog_1_method_22_code 5 (Option.some FieldType.int)) ∈ fs_ws := fs_t5 (List.mem_of_getElem? (i := 172) rfl) rfl
theorem tw_5_173 : (Cond.methodLink "FlowShelf" 287 ⟨"FlowShelf$Ledger", "lostRecords", "()I"⟩) ∈ fs_ws := fs_t5 (List.mem_of_getElem? (i := 173) rfl) rfl
theorem tw_5_174 : (Cond.instanceMethod ⟨"FlowShelf$Ledger", "lostRecords", "()I"⟩) ∈ fs_ws := fs_t5 (List.mem_of_getElem? (i := 174) rfl) rfl
theorem tw_5_175 : (Cond.selects "FlowShelf$Ledger" ⟨"FlowShelf$Ledger", "lostRecords", "()I"⟩ ⟨"FlowShelf$Ledger", "lostRecords", "()I"⟩) ∈ fs_ws := fs_t5 (List.mem_of_getElem? (i := 175) rfl) rfl
theorem tw_5_176 : (Cond.code ⟨"FlowShelf$Ledger", "lostRecords", "()I"⟩ prog_7_method_4_code 3 (Option.some FieldType.int)) ∈ fs_ws := fs_t5 (List.mem_of_getElem? (i := 176) rfl) rfl
theorem tw_5_177 : (Cond.methodLink "FlowShelf$Ledger" 27 ⟨"FlowShelf$Ledger", "lostInEpoch", "(I)I"⟩) ∈ fs_ws := fs_t5 (List.mem_of_getElem? (i := 177) rfl) rfl
theorem tw_5_178 : (Cond.instanceMethod ⟨"FlowShelf$Ledger", "lostInEpoch", "(I)I"⟩) ∈ fs_ws := fs_t5 (List.mem_of_getElem? (i := 178) rfl) rfl
theorem tw_5_179 : (Cond.selects "FlowShelf$Ledger" ⟨"FlowShelf$Ledger", "lostInEpoch", "(I)I"⟩ ⟨"FlowShelf$Ledger", "lostInEpoch", "(I)I"⟩) ∈ fs_ws := fs_t5 (List.mem_of_getElem? (i := 179) rfl) rfl
theorem tw_5_180 : (Cond.code ⟨"FlowShelf$Ledger", "lostInEpoch", "(I)I"⟩ prog_7_method_5_code 6 (Option.some FieldType.int)) ∈ fs_ws := fs_t5 (List.mem_of_getElem? (i := 180) rfl) rfl
theorem tw_5_181 : (Cond.methodLink "FlowShelf" 290 ⟨"FlowShelf$Collector", "waitingOf", "(I)I"⟩) ∈ fs_ws := fs_t5 (List.mem_of_getElem? (i := 181) rfl) rfl
theorem tw_5_182 : (Cond.instanceMethod ⟨"FlowShelf$Collector", "waitingOf", "(I)I"⟩) ∈ fs_ws := fs_t5 (List.mem_of_getElem? (i := 182) rfl) rfl
theorem tw_5_183 : (Cond.selects "FlowShelf$Collector" ⟨"FlowShelf$Collector", "waitingOf", "(I)I"⟩ ⟨"FlowShelf$Collector", "waitingOf", "(I)I"⟩) ∈ fs_ws := fs_t5 (List.mem_of_getElem? (i := 183) rfl) rfl
theorem tw_5_184 : (Cond.code ⟨"FlowShelf$Collector", "waitingOf", "(I)I"⟩ prog_2_method_3_code 4 (Option.some FieldType.int)) ∈ fs_ws := fs_t5 (List.mem_of_getElem? (i := 184) rfl) rfl
theorem tw_5_186 : (Cond.classLink "FlowShelfLaw" 84 "FlowShelfModel") ∈ fs_ws := fs_t5 (List.mem_of_getElem? (i := 186) rfl) rfl
theorem tw_5_187 : (Cond.instantiable "FlowShelfModel" 50) ∈ fs_ws := fs_t5 (List.mem_of_getElem? (i := 187) rfl) rfl
theorem tw_5_188 : (Cond.methodLink "FlowShelfLaw" 86 ⟨"FlowShelfModel", "<init>", "()V"⟩) ∈ fs_ws := fs_t5 (List.mem_of_getElem? (i := 188) rfl) rfl
theorem tw_5_189 : (Cond.instanceMethod ⟨"FlowShelfModel", "<init>", "()V"⟩) ∈ fs_ws := fs_t5 (List.mem_of_getElem? (i := 189) rfl) rfl
theorem tw_5_190 : (Cond.code ⟨"FlowShelfModel", "<init>", "()V"⟩ prog_13_method_1_code 1 (Option.none : Option FieldType)) ∈ fs_ws := fs_t5 (List.mem_of_getElem? (i := 190) rfl) rfl
theorem tw_5_191 : (Cond.methodLink "FlowShelfModel" 1 ⟨"java/lang/Object", "<init>", "()V"⟩) ∈ fs_ws := fs_t5 (List.mem_of_getElem? (i := 191) rfl) rfl
theorem tw_5_192 : (Cond.fieldLink "FlowShelfModel" 138 "FlowShelfModel" "thrown" "I") ∈ fs_ws := fs_t5 (List.mem_of_getElem? (i := 192) rfl) rfl
theorem tw_5_193 : (Cond.fieldLink "FlowShelfModel" 7 "FlowShelfModel" "clock" "[I") ∈ fs_ws := fs_t5 (List.mem_of_getElem? (i := 193) rfl) rfl
theorem tw_5_194 : (Cond.fieldLink "FlowShelfModel" 13 "FlowShelfModel" "epoch" "[I") ∈ fs_ws := fs_t5 (List.mem_of_getElem? (i := 194) rfl) rfl
theorem tw_5_195 : (Cond.fieldLink "FlowShelfModel" 16 "FlowShelfModel" "every" "[I") ∈ fs_ws := fs_t5 (List.mem_of_getElem? (i := 195) rfl) rfl
theorem tw_5_196 : (Cond.fieldLink "FlowShelfModel" 19 "FlowShelfModel" "counter" "[I") ∈ fs_ws := fs_t5 (List.mem_of_getElem? (i := 196) rfl) rfl
theorem tw_5_197 : (Cond.fieldLink "FlowShelfModel" 22 "FlowShelfModel" "written" "[I") ∈ fs_ws := fs_t5 (List.mem_of_getElem? (i := 197) rfl) rfl
theorem tw_5_198 : (Cond.fieldLink "FlowShelfModel" 25 "FlowShelfModel" "told" "[I") ∈ fs_ws := fs_t5 (List.mem_of_getElem? (i := 198) rfl) rfl
theorem tw_5_199 : (Cond.fieldLink "FlowShelfModel" 28 "FlowShelfModel" "cached" "[I") ∈ fs_ws := fs_t5 (List.mem_of_getElem? (i := 199) rfl) rfl
theorem tw_5_200 : (Cond.fieldLink "FlowShelfModel" 31 "FlowShelfModel" "key" "[I") ∈ fs_ws := fs_t5 (List.mem_of_getElem? (i := 200) rfl) rfl
theorem tw_5_201 : (Cond.fieldLink "FlowShelfModel" 34 "FlowShelfModel" "bytes" "[I") ∈ fs_ws := fs_t5 (List.mem_of_getElem? (i := 201) rfl) rfl
theorem tw_5_202 : (Cond.fieldLink "FlowShelfModel" 37 "FlowShelfModel" "packets" "[I") ∈ fs_ws := fs_t5 (List.mem_of_getElem? (i := 202) rfl) rfl
theorem tw_5_203 : (Cond.fieldLink "FlowShelfModel" 40 "FlowShelfModel" "began" "[I") ∈ fs_ws := fs_t5 (List.mem_of_getElem? (i := 203) rfl) rfl
theorem tw_5_204 : (Cond.fieldLink "FlowShelfModel" 43 "FlowShelfModel" "latest" "[I") ∈ fs_ws := fs_t5 (List.mem_of_getElem? (i := 204) rfl) rfl
theorem tw_5_205 : (Cond.fieldLink "FlowShelfModel" 46 "FlowShelfModel" "endedMany" "[I") ∈ fs_ws := fs_t5 (List.mem_of_getElem? (i := 205) rfl) rfl
theorem tw_5_206 : (Cond.fieldLink "FlowShelfModel" 49 "FlowShelfModel" "endedFields" "[I") ∈ fs_ws := fs_t5 (List.mem_of_getElem? (i := 206) rfl) rfl
theorem tw_5_207 : (Cond.fieldLink "FlowShelfModel" 52 "FlowShelfModel" "draftMany" "[I") ∈ fs_ws := fs_t5 (List.mem_of_getElem? (i := 207) rfl) rfl
theorem tw_5_208 : (Cond.fieldLink "FlowShelfModel" 55 "FlowShelfModel" "draftField" "[I") ∈ fs_ws := fs_t5 (List.mem_of_getElem? (i := 208) rfl) rfl
theorem tw_5_209 : (Cond.fieldLink "FlowShelfModel" 58 "FlowShelfModel" "draftLength" "[I") ∈ fs_ws := fs_t5 (List.mem_of_getElem? (i := 209) rfl) rfl
theorem tw_5_210 : (Cond.fieldLink "FlowShelfModel" 61 "FlowShelfModel" "revisions" "[I") ∈ fs_ws := fs_t5 (List.mem_of_getElem? (i := 210) rfl) rfl
theorem tw_5_211 : (Cond.fieldLink "FlowShelfModel" 64 "FlowShelfModel" "inForce" "[I") ∈ fs_ws := fs_t5 (List.mem_of_getElem? (i := 211) rfl) rfl
theorem tw_5_212 : (Cond.fieldLink "FlowShelfModel" 67 "FlowShelfModel" "forceMany" "[I") ∈ fs_ws := fs_t5 (List.mem_of_getElem? (i := 212) rfl) rfl
theorem tw_5_213 : (Cond.fieldLink "FlowShelfModel" 70 "FlowShelfModel" "forceField" "[I") ∈ fs_ws := fs_t5 (List.mem_of_getElem? (i := 213) rfl) rfl
theorem tw_5_214 : (Cond.fieldLink "FlowShelfModel" 73 "FlowShelfModel" "forceLength" "[I") ∈ fs_ws := fs_t5 (List.mem_of_getElem? (i := 214) rfl) rfl
theorem tw_5_215 : (Cond.fieldLink "FlowShelfModel" 76 "FlowShelfModel" "sealedAt" "[I") ∈ fs_ws := fs_t5 (List.mem_of_getElem? (i := 215) rfl) rfl
theorem tw_5_216 : (Cond.fieldLink "FlowShelfModel" 165 "FlowShelfModel" "seals" "I") ∈ fs_ws := fs_t5 (List.mem_of_getElem? (i := 216) rfl) rfl
theorem tw_5_217 : (Cond.fieldLink "FlowShelfModel" 168 "FlowShelfModel" "reports" "I") ∈ fs_ws := fs_t5 (List.mem_of_getElem? (i := 217) rfl) rfl
theorem tw_5_218 : (Cond.fieldLink "FlowShelfModel" 79 "FlowShelfModel" "sizes" "[I") ∈ fs_ws := fs_t5 (List.mem_of_getElem? (i := 218) rfl) rfl
theorem tw_5_219 : (Cond.fieldLink "FlowShelfModel" 82 "FlowShelfModel" "texts" "[I") ∈ fs_ws := fs_t5 (List.mem_of_getElem? (i := 219) rfl) rfl
theorem tw_5_220 : (Cond.fieldLink "FlowShelfModel" 204 "FlowShelfModel" "knownMany" "I") ∈ fs_ws := fs_t5 (List.mem_of_getElem? (i := 220) rfl) rfl
theorem tw_5_221 : (Cond.fieldLink "FlowShelfModel" 85 "FlowShelfModel" "known" "[I") ∈ fs_ws := fs_t5 (List.mem_of_getElem? (i := 221) rfl) rfl
theorem tw_5_222 : (Cond.fieldLink "FlowShelfModel" 88 "FlowShelfModel" "knownFields" "[I") ∈ fs_ws := fs_t5 (List.mem_of_getElem? (i := 222) rfl) rfl
theorem tw_5_223 : (Cond.fieldLink "FlowShelfModel" 91 "FlowShelfModel" "knownField" "[I") ∈ fs_ws := fs_t5 (List.mem_of_getElem? (i := 223) rfl) rfl
theorem tw_5_224 : (Cond.fieldLink "FlowShelfModel" 94 "FlowShelfModel" "knownLength" "[I") ∈ fs_ws := fs_t5 (List.mem_of_getElem? (i := 224) rfl) rfl
theorem tw_5_225 : (Cond.fieldLink "FlowShelfModel" 225 "FlowShelfModel" "shelved" "I") ∈ fs_ws := fs_t5 (List.mem_of_getElem? (i := 225) rfl) rfl
theorem tw_5_226 : (Cond.fieldLink "FlowShelfModel" 97 "FlowShelfModel" "shelfSize" "[I") ∈ fs_ws := fs_t5 (List.mem_of_getElem? (i := 226) rfl) rfl
theorem tw_5_227 : (Cond.fieldLink "FlowShelfModel" 100 "FlowShelfModel" "shelf" "[I") ∈ fs_ws := fs_t5 (List.mem_of_getElem? (i := 227) rfl) rfl
theorem tw_5_228 : (Cond.fieldLink "FlowShelfModel" 103 "FlowShelfModel" "heard" "[Z") ∈ fs_ws := fs_t5 (List.mem_of_getElem? (i := 228) rfl) rfl
theorem tw_5_229 : (Cond.fieldLink "FlowShelfModel" 214 "FlowShelfModel" "rowMany" "I") ∈ fs_ws := fs_t5 (List.mem_of_getElem? (i := 229) rfl) rfl
theorem tw_5_230 : (Cond.fieldLink "FlowShelfModel" 107 "FlowShelfModel" "rowExporter" "[I") ∈ fs_ws := fs_t5 (List.mem_of_getElem? (i := 230) rfl) rfl
theorem tw_5_231 : (Cond.fieldLink "FlowShelfModel" 110 "FlowShelfModel" "values" "[J") ∈ fs_ws := fs_t5 (List.mem_of_getElem? (i := 231) rfl) rfl
theorem tw_5_232 : (Cond.fieldLink "FlowShelfModel" 114 "FlowShelfModel" "dropped" "[I") ∈ fs_ws := fs_t5 (List.mem_of_getElem? (i := 232) rfl) rfl
theorem tw_5_233 : (Cond.fieldLink "FlowShelfModel" 117 "FlowShelfModel" "spoilt" "[I") ∈ fs_ws := fs_t5 (List.mem_of_getElem? (i := 233) rfl) rfl
theorem tw_5_234 : (Cond.fieldLink "FlowShelfModel" 120 "FlowShelfModel" "noted" "[I") ∈ fs_ws := fs_t5 (List.mem_of_getElem? (i := 234) rfl) rfl
theorem tw_5_235 : (Cond.fieldLink "FlowShelfModel" 123 "FlowShelfModel" "notedEpoch" "[I") ∈ fs_ws := fs_t5 (List.mem_of_getElem? (i := 235) rfl) rfl
theorem tw_5_236 : (Cond.fieldLink "FlowShelfModel" 126 "FlowShelfModel" "notedCount" "[I") ∈ fs_ws := fs_t5 (List.mem_of_getElem? (i := 236) rfl) rfl
theorem tw_5_237 : (Cond.fieldLink "FlowShelfModel" 197 "FlowShelfModel" "length" "I") ∈ fs_ws := fs_t5 (List.mem_of_getElem? (i := 237) rfl) rfl
theorem tw_5_238 : (Cond.fieldLink "FlowShelfModel" 129 "FlowShelfModel" "b" "[I") ∈ fs_ws := fs_t5 (List.mem_of_getElem? (i := 238) rfl) rfl
theorem tw_5_239 : (Cond.fieldLink "FlowShelfModel" 207 "FlowShelfModel" "at" "I") ∈ fs_ws := fs_t5 (List.mem_of_getElem? (i := 239) rfl) rfl
theorem tw_6_0 : (Cond.fieldLink "FlowShelfModel" 132 "FlowShelfModel" "pair" "[I") ∈ fs_ws := fs_t6 (List.mem_of_getElem? (i := 0) rfl) rfl
theorem tw_6_1 : (Cond.fieldLink "FlowShelfModel" 135 "FlowShelfModel" "done" "[Z") ∈ fs_ws := fs_t6 (List.mem_of_getElem? (i := 1) rfl) rfl
theorem tw_6_103 : (Cond.methodLink "FlowShelfLaw" 93 ⟨"FlowShelfModel", "thrown", "()I"⟩) ∈ fs_ws := fs_t6 (List.mem_of_getElem? (i := 103) rfl) rfl
theorem tw_6_104 : (Cond.instanceMethod ⟨"FlowShelfModel", "thrown", "()I"⟩) ∈ fs_ws := fs_t6 (List.mem_of_getElem? (i := 104) rfl) rfl
theorem tw_6_105 : (Cond.selects "FlowShelfModel" ⟨"FlowShelfModel", "thrown", "()I"⟩ ⟨"FlowShelfModel", "thrown", "()I"⟩) ∈ fs_ws := fs_t6 (List.mem_of_getElem? (i := 105) rfl) rfl
theorem tw_6_106 : (Cond.code ⟨"FlowShelfModel", "thrown", "()I"⟩ prog_13_method_2_code 1 (Option.some FieldType.int)) ∈ fs_ws := fs_t6 (List.mem_of_getElem? (i := 106) rfl) rfl
theorem tw_6_107 : (Cond.methodLink "FlowShelfLaw" 92 ⟨"FlowShelfModel", "packet", "(IIIIIZ)Z"⟩) ∈ fs_ws := fs_t6 (List.mem_of_getElem? (i := 107) rfl) rfl
theorem tw_6_108 : (Cond.instanceMethod ⟨"FlowShelfModel", "packet", "(IIIIIZ)Z"⟩) ∈ fs_ws := fs_t6 (List.mem_of_getElem? (i := 108) rfl) rfl
theorem tw_6_109 : (Cond.selects "FlowShelfModel" ⟨"FlowShelfModel", "packet", "(IIIIIZ)Z"⟩ ⟨"FlowShelfModel", "packet", "(IIIIIZ)Z"⟩) ∈ fs_ws := fs_t6 (List.mem_of_getElem? (i := 109) rfl) rfl
theorem tw_6_110 : (Cond.code ⟨"FlowShelfModel", "packet", "(IIIIIZ)Z"⟩ prog_13_method_7_code 10 (Option.some FieldType.boolean)) ∈ fs_ws := fs_t6 (List.mem_of_getElem? (i := 110) rfl) rfl
theorem tw_6_111 : (Cond.methodLink "FlowShelfModel" 146 ⟨"FlowShelfModel", "noExporter", "(I)Z"⟩) ∈ fs_ws := fs_t6 (List.mem_of_getElem? (i := 111) rfl) rfl
theorem tw_6_113 : (Cond.instanceMethod ⟨"FlowShelfModel", "noExporter", "(I)Z"⟩) ∈ fs_ws := fs_t6 (List.mem_of_getElem? (i := 113) rfl) rfl
theorem tw_6_114 : (Cond.code ⟨"FlowShelfModel", "noExporter", "(I)Z"⟩ prog_13_method_3_code 2 (Option.some FieldType.boolean)) ∈ fs_ws := fs_t6 (List.mem_of_getElem? (i := 114) rfl) rfl
theorem tw_6_115 : (Cond.methodLink "FlowShelfModel" 150 ⟨"FlowShelfModel", "noByte", "(I)Z"⟩) ∈ fs_ws := fs_t6 (List.mem_of_getElem? (i := 115) rfl) rfl
theorem tw_6_117 : (Cond.instanceMethod ⟨"FlowShelfModel", "noByte", "(I)Z"⟩) ∈ fs_ws := fs_t6 (List.mem_of_getElem? (i := 117) rfl) rfl
theorem tw_6_118 : (Cond.code ⟨"FlowShelfModel", "noByte", "(I)Z"⟩ prog_13_method_4_code 2 (Option.some FieldType.boolean)) ∈ fs_ws := fs_t6 (List.mem_of_getElem? (i := 118) rfl) rfl
theorem tw_6_119 : (Cond.methodLink "FlowShelfModel" 153 ⟨"FlowShelfModel", "flowOf", "(II)I"⟩) ∈ fs_ws := fs_t6 (List.mem_of_getElem? (i := 119) rfl) rfl
theorem tw_6_121 : (Cond.instanceMethod ⟨"FlowShelfModel", "flowOf", "(II)I"⟩) ∈ fs_ws := fs_t6 (List.mem_of_getElem? (i := 121) rfl) rfl
theorem tw_6_122 : (Cond.code ⟨"FlowShelfModel", "flowOf", "(II)I"⟩ prog_13_method_6_code 5 (Option.some FieldType.int)) ∈ fs_ws := fs_t6 (List.mem_of_getElem? (i := 122) rfl) rfl
theorem tw_6_123 : (Cond.methodLink "FlowShelfModel" 142 ⟨"FlowShelfModel", "end", "(III)V"⟩) ∈ fs_ws := fs_t6 (List.mem_of_getElem? (i := 123) rfl) rfl
theorem tw_6_125 : (Cond.instanceMethod ⟨"FlowShelfModel", "end", "(III)V"⟩) ∈ fs_ws := fs_t6 (List.mem_of_getElem? (i := 125) rfl) rfl
theorem tw_6_126 : (Cond.code ⟨"FlowShelfModel", "end", "(III)V"⟩ prog_13_method_5_code 7 (Option.none : Option FieldType)) ∈ fs_ws := fs_t6 (List.mem_of_getElem? (i := 126) rfl) rfl
theorem tw_6_127 : (Cond.methodLink "FlowShelfLaw" 100 ⟨"FlowShelfModel", "tick", "(II)I"⟩) ∈ fs_ws := fs_t6 (List.mem_of_getElem? (i := 127) rfl) rfl
theorem tw_6_128 : (Cond.instanceMethod ⟨"FlowShelfModel", "tick", "(II)I"⟩) ∈ fs_ws := fs_t6 (List.mem_of_getElem? (i := 128) rfl) rfl
theorem tw_6_129 : (Cond.selects "FlowShelfModel" ⟨"FlowShelfModel", "tick", "(II)I"⟩ ⟨"FlowShelfModel", "tick", "(II)I"⟩) ∈ fs_ws := fs_t6 (List.mem_of_getElem? (i := 129) rfl) rfl
theorem tw_6_130 : (Cond.code ⟨"FlowShelfModel", "tick", "(II)I"⟩ prog_13_method_8_code 7 (Option.some FieldType.int)) ∈ fs_ws := fs_t6 (List.mem_of_getElem? (i := 130) rfl) rfl
theorem tw_6_131 : (Cond.methodLink "FlowShelfLaw" 104 ⟨"FlowShelfModel", "flush", "(I)I"⟩) ∈ fs_ws := fs_t6 (List.mem_of_getElem? (i := 131) rfl) rfl
theorem tw_6_132 : (Cond.instanceMethod ⟨"FlowShelfModel", "flush", "(I)I"⟩) ∈ fs_ws := fs_t6 (List.mem_of_getElem? (i := 132) rfl) rfl
theorem tw_6_133 : (Cond.selects "FlowShelfModel" ⟨"FlowShelfModel", "flush", "(I)I"⟩ ⟨"FlowShelfModel", "flush", "(I)I"⟩) ∈ fs_ws := fs_t6 (List.mem_of_getElem? (i := 133) rfl) rfl
theorem tw_6_134 : (Cond.code ⟨"FlowShelfModel", "flush", "(I)I"⟩ prog_13_method_9_code 4 (Option.some FieldType.int)) ∈ fs_ws := fs_t6 (List.mem_of_getElem? (i := 134) rfl) rfl
theorem tw_6_135 : (Cond.methodLink "FlowShelfLaw" 108 ⟨"FlowShelfModel", "sampler", "(II)V"⟩) ∈ fs_ws := fs_t6 (List.mem_of_getElem? (i := 135) rfl) rfl
theorem tw_6_136 : (Cond.instanceMethod ⟨"FlowShelfModel", "sampler", "(II)V"⟩) ∈ fs_ws := fs_t6 (List.mem_of_getElem? (i := 136) rfl) rfl
theorem tw_6_137 : (Cond.selects "FlowShelfModel" ⟨"FlowShelfModel", "sampler", "(II)V"⟩ ⟨"FlowShelfModel", "sampler", "(II)V"⟩) ∈ fs_ws := fs_t6 (List.mem_of_getElem? (i := 137) rfl) rfl
theorem tw_6_138 : (Cond.code ⟨"FlowShelfModel", "sampler", "(II)V"⟩ prog_13_method_10_code 3 (Option.none : Option FieldType)) ∈ fs_ws := fs_t6 (List.mem_of_getElem? (i := 138) rfl) rfl
theorem tw_6_139 : (Cond.methodLink "FlowShelfLaw" 112 ⟨"FlowShelfModel", "ended", "(III)I"⟩) ∈ fs_ws := fs_t6 (List.mem_of_getElem? (i := 139) rfl) rfl
theorem tw_6_140 : (Cond.instanceMethod ⟨"FlowShelfModel", "ended", "(III)I"⟩) ∈ fs_ws := fs_t6 (List.mem_of_getElem? (i := 140) rfl) rfl
theorem tw_6_141 : (Cond.selects "FlowShelfModel" ⟨"FlowShelfModel", "ended", "(III)I"⟩ ⟨"FlowShelfModel", "ended", "(III)I"⟩) ∈ fs_ws := fs_t6 (List.mem_of_getElem? (i := 141) rfl) rfl
theorem tw_6_142 : (Cond.code ⟨"FlowShelfModel", "ended", "(III)I"⟩ prog_13_method_11_code 4 (Option.some FieldType.int)) ∈ fs_ws := fs_t6 (List.mem_of_getElem? (i := 142) rfl) rfl
theorem tw_6_143 : (Cond.methodLink "FlowShelfLaw" 116 ⟨"FlowShelfModel", "field", "(IIII)I"⟩) ∈ fs_ws := fs_t6 (List.mem_of_getElem? (i := 143) rfl) rfl
theorem tw_6_144 : (Cond.instanceMethod ⟨"FlowShelfModel", "field", "(IIII)I"⟩) ∈ fs_ws := fs_t6 (List.mem_of_getElem? (i := 144) rfl) rfl
theorem tw_6_145 : (Cond.selects "FlowShelfModel" ⟨"FlowShelfModel", "field", "(IIII)I"⟩ ⟨"FlowShelfModel", "field", "(IIII)I"⟩) ∈ fs_ws := fs_t6 (List.mem_of_getElem? (i := 145) rfl) rfl
theorem tw_6_146 : (Cond.code ⟨"FlowShelfModel", "field", "(IIII)I"⟩ prog_13_method_14_code 8 (Option.some FieldType.int)) ∈ fs_ws := fs_t6 (List.mem_of_getElem? (i := 146) rfl) rfl
theorem tw_6_147 : (Cond.methodLink "FlowShelfModel" 157 ⟨"FlowShelfModel", "noTemplate", "(II)Z"⟩) ∈ fs_ws := fs_t6 (List.mem_of_getElem? (i := 147) rfl) rfl
theorem tw_6_149 : (Cond.instanceMethod ⟨"FlowShelfModel", "noTemplate", "(II)Z"⟩) ∈ fs_ws := fs_t6 (List.mem_of_getElem? (i := 149) rfl) rfl
theorem tw_6_150 : (Cond.code ⟨"FlowShelfModel", "noTemplate", "(II)Z"⟩ prog_13_method_12_code 3 (Option.some FieldType.boolean)) ∈ fs_ws := fs_t6 (List.mem_of_getElem? (i := 150) rfl) rfl
theorem tw_6_151 : (Cond.methodLink "FlowShelfModel" 161 ⟨"FlowShelfModel", "leastOf", "(I)I"⟩) ∈ fs_ws := fs_t6 (List.mem_of_getElem? (i := 151) rfl) rfl
theorem tw_6_153 : (Cond.instanceMethod ⟨"FlowShelfModel", "leastOf", "(I)I"⟩) ∈ fs_ws := fs_t6 (List.mem_of_getElem? (i := 153) rfl) rfl
theorem tw_6_154 : (Cond.code ⟨"FlowShelfModel", "leastOf", "(I)I"⟩ prog_13_method_13_code 2 (Option.some FieldType.int)) ∈ fs_ws := fs_t6 (List.mem_of_getElem? (i := 154) rfl) rfl
theorem tw_6_155 : (Cond.methodLink "FlowShelfLaw" 119 ⟨"FlowShelfModel", "seal", "(II)I"⟩) ∈ fs_ws := fs_t6 (List.mem_of_getElem? (i := 155) rfl) rfl
theorem tw_6_156 : (Cond.instanceMethod ⟨"FlowShelfModel", "seal", "(II)I"⟩) ∈ fs_ws := fs_t6 (List.mem_of_getElem? (i := 156) rfl) rfl
theorem tw_6_157 : (Cond.selects "FlowShelfModel" ⟨"FlowShelfModel", "seal", "(II)I"⟩ ⟨"FlowShelfModel", "seal", "(II)I"⟩) ∈ fs_ws := fs_t6 (List.mem_of_getElem? (i := 157) rfl) rfl
theorem tw_6_158 : (Cond.code ⟨"FlowShelfModel", "seal", "(II)I"⟩ prog_13_method_15_code 5 (Option.some FieldType.int)) ∈ fs_ws := fs_t6 (List.mem_of_getElem? (i := 158) rfl) rfl
theorem tw_6_159 : (Cond.methodLink "FlowShelfLaw" 122 ⟨"FlowShelfModel", "withdraw", "(II)V"⟩) ∈ fs_ws := fs_t6 (List.mem_of_getElem? (i := 159) rfl) rfl
theorem tw_6_160 : (Cond.instanceMethod ⟨"FlowShelfModel", "withdraw", "(II)V"⟩) ∈ fs_ws := fs_t6 (List.mem_of_getElem? (i := 160) rfl) rfl
theorem tw_6_161 : (Cond.selects "FlowShelfModel" ⟨"FlowShelfModel", "withdraw", "(II)V"⟩ ⟨"FlowShelfModel", "withdraw", "(II)V"⟩) ∈ fs_ws := fs_t6 (List.mem_of_getElem? (i := 161) rfl) rfl
theorem tw_6_162 : (Cond.code ⟨"FlowShelfModel", "withdraw", "(II)V"⟩ prog_13_method_16_code 4 (Option.none : Option FieldType)) ∈ fs_ws := fs_t6 (List.mem_of_getElem? (i := 162) rfl) rfl
theorem tw_6_163 : (Cond.methodLink "FlowShelfLaw" 125 ⟨"FlowShelfModel", "restart", "(I)I"⟩) ∈ fs_ws := fs_t6 (List.mem_of_getElem? (i := 163) rfl) rfl
theorem tw_6_164 : (Cond.instanceMethod ⟨"FlowShelfModel", "restart", "(I)I"⟩) ∈ fs_ws := fs_t6 (List.mem_of_getElem? (i := 164) rfl) rfl
theorem tw_6_165 : (Cond.selects "FlowShelfModel" ⟨"FlowShelfModel", "restart", "(I)I"⟩ ⟨"FlowShelfModel", "restart", "(I)I"⟩) ∈ fs_ws := fs_t6 (List.mem_of_getElem? (i := 165) rfl) rfl
theorem tw_6_166 : (Cond.code ⟨"FlowShelfModel", "restart", "(I)I"⟩ prog_13_method_17_code 3 (Option.some FieldType.int)) ∈ fs_ws := fs_t6 (List.mem_of_getElem? (i := 166) rfl) rfl
theorem tw_6_167 : (Cond.methodLink "FlowShelfLaw" 128 ⟨"FlowShelfModel", "announce", "(II)I"⟩) ∈ fs_ws := fs_t6 (List.mem_of_getElem? (i := 167) rfl) rfl
theorem tw_6_168 : (Cond.instanceMethod ⟨"FlowShelfModel", "announce", "(II)I"⟩) ∈ fs_ws := fs_t6 (List.mem_of_getElem? (i := 168) rfl) rfl
theorem tw_6_169 : (Cond.selects "FlowShelfModel" ⟨"FlowShelfModel", "announce", "(II)I"⟩ ⟨"FlowShelfModel", "announce", "(II)I"⟩) ∈ fs_ws := fs_t6 (List.mem_of_getElem? (i := 169) rfl) rfl
theorem tw_6_170 : (Cond.code ⟨"FlowShelfModel", "announce", "(II)I"⟩ prog_13_method_20_code 5 (Option.some FieldType.int)) ∈ fs_ws := fs_t6 (List.mem_of_getElem? (i := 170) rfl) rfl
theorem tw_6_171 : (Cond.methodLink "FlowShelfModel" 175 ⟨"FlowShelfModel", "head", "(II)V"⟩) ∈ fs_ws := fs_t6 (List.mem_of_getElem? (i := 171) rfl) rfl
theorem tw_6_173 : (Cond.instanceMethod ⟨"FlowShelfModel", "head", "(II)V"⟩) ∈ fs_ws := fs_t6 (List.mem_of_getElem? (i := 173) rfl) rfl
theorem tw_6_174 : (Cond.code ⟨"FlowShelfModel", "head", "(II)V"⟩ prog_13_method_19_code 3 (Option.none : Option FieldType)) ∈ fs_ws := fs_t6 (List.mem_of_getElem? (i := 174) rfl) rfl
theorem tw_6_175 : (Cond.methodLink "FlowShelfModel" 171 ⟨"FlowShelfModel", "write", "(I)V"⟩) ∈ fs_ws := fs_t6 (List.mem_of_getElem? (i := 175) rfl) rfl
theorem tw_6_177 : (Cond.instanceMethod ⟨"FlowShelfModel", "write", "(I)V"⟩) ∈ fs_ws := fs_t6 (List.mem_of_getElem? (i := 177) rfl) rfl
theorem tw_6_178 : (Cond.code ⟨"FlowShelfModel", "write", "(I)V"⟩ prog_13_method_18_code 2 (Option.none : Option FieldType)) ∈ fs_ws := fs_t6 (List.mem_of_getElem? (i := 178) rfl) rfl
theorem tw_6_179 : (Cond.methodLink "FlowShelfLaw" 131 ⟨"FlowShelfModel", "report", "(I)I"⟩) ∈ fs_ws := fs_t6 (List.mem_of_getElem? (i := 179) rfl) rfl
theorem tw_6_180 : (Cond.instanceMethod ⟨"FlowShelfModel", "report", "(I)I"⟩) ∈ fs_ws := fs_t6 (List.mem_of_getElem? (i := 180) rfl) rfl
theorem tw_6_181 : (Cond.selects "FlowShelfModel" ⟨"FlowShelfModel", "report", "(I)I"⟩ ⟨"FlowShelfModel", "report", "(I)I"⟩) ∈ fs_ws := fs_t6 (List.mem_of_getElem? (i := 181) rfl) rfl
theorem tw_6_182 : (Cond.code ⟨"FlowShelfModel", "report", "(I)I"⟩ prog_13_method_25_code 6 (Option.some FieldType.int)) ∈ fs_ws := fs_t6 (List.mem_of_getElem? (i := 182) rfl) rfl
theorem tw_6_183 : (Cond.methodLink "FlowShelfModel" 184 ⟨"FlowShelfModel", "last", "(I)I"⟩) ∈ fs_ws := fs_t6 (List.mem_of_getElem? (i := 183) rfl) rfl
theorem tw_6_185 : (Cond.instanceMethod ⟨"FlowShelfModel", "last", "(I)I"⟩) ∈ fs_ws := fs_t6 (List.mem_of_getElem? (i := 185) rfl) rfl
theorem tw_6_186 : (Cond.code ⟨"FlowShelfModel", "last", "(I)I"⟩ prog_13_method_21_code 4 (Option.some FieldType.int)) ∈ fs_ws := fs_t6 (List.mem_of_getElem? (i := 186) rfl) rfl
theorem tw_6_187 : (Cond.methodLink "FlowShelfModel" 187 ⟨"FlowShelfModel", "recordOf", "(III)I"⟩) ∈ fs_ws := fs_t6 (List.mem_of_getElem? (i := 187) rfl) rfl
theorem tw_6_189 : (Cond.instanceMethod ⟨"FlowShelfModel", "recordOf", "(III)I"⟩) ∈ fs_ws := fs_t6 (List.mem_of_getElem? (i := 189) rfl) rfl
theorem tw_6_190 : (Cond.code ⟨"FlowShelfModel", "recordOf", "(III)I"⟩ prog_13_method_23_code 7 (Option.some FieldType.int)) ∈ fs_ws := fs_t6 (List.mem_of_getElem? (i := 190) rfl) rfl
theorem tw_6_191 : (Cond.methodLink "FlowShelfModel" 181 ⟨"FlowShelfModel", "widthOf", "(I)I"⟩) ∈ fs_ws := fs_t6 (List.mem_of_getElem? (i := 191) rfl) rfl
theorem tw_6_193 : (Cond.instanceMethod ⟨"FlowShelfModel", "widthOf", "(I)I"⟩) ∈ fs_ws := fs_t6 (List.mem_of_getElem? (i := 193) rfl) rfl
theorem tw_6_194 : (Cond.code ⟨"FlowShelfModel", "widthOf", "(I)I"⟩ prog_13_method_22_code 2 (Option.some FieldType.int)) ∈ fs_ws := fs_t6 (List.mem_of_getElem? (i := 194) rfl) rfl
theorem tw_6_195 : (Cond.constant "FlowShelfModel" 179 (65536 : Int32)) ∈ fs_ws := fs_t6 (List.mem_of_getElem? (i := 195) rfl) rfl
theorem tw_6_196 : (Cond.constant "FlowShelfModel" 180 (16777216 : Int32)) ∈ fs_ws := fs_t6 (List.mem_of_getElem? (i := 196) rfl) rfl
theorem tw_6_197 : (Cond.methodLink "FlowShelfModel" 191 ⟨"FlowShelfModel", "writeRecord", "(III)V"⟩) ∈ fs_ws := fs_t6 (List.mem_of_getElem? (i := 197) rfl) rfl
theorem tw_6_199 : (Cond.instanceMethod ⟨"FlowShelfModel", "writeRecord", "(III)V"⟩) ∈ fs_ws := fs_t6 (List.mem_of_getElem? (i := 199) rfl) rfl
theorem tw_6_200 : (Cond.code ⟨"FlowShelfModel", "writeRecord", "(III)V"⟩ prog_13_method_24_code 8 (Option.none : Option FieldType)) ∈ fs_ws := fs_t6 (List.mem_of_getElem? (i := 200) rfl) rfl
theorem tw_6_201 : (Cond.methodLink "FlowShelfLaw" 134 ⟨"FlowShelfModel", "tell", "(I)I"⟩) ∈ fs_ws := fs_t6 (List.mem_of_getElem? (i := 201) rfl) rfl
theorem tw_6_202 : (Cond.instanceMethod ⟨"FlowShelfModel", "tell", "(I)I"⟩) ∈ fs_ws := fs_t6 (List.mem_of_getElem? (i := 202) rfl) rfl
theorem tw_6_203 : (Cond.selects "FlowShelfModel" ⟨"FlowShelfModel", "tell", "(I)I"⟩ ⟨"FlowShelfModel", "tell", "(I)I"⟩) ∈ fs_ws := fs_t6 (List.mem_of_getElem? (i := 203) rfl) rfl
theorem tw_6_204 : (Cond.code ⟨"FlowShelfModel", "tell", "(I)I"⟩ prog_13_method_26_code 2 (Option.some FieldType.int)) ∈ fs_ws := fs_t6 (List.mem_of_getElem? (i := 204) rfl) rfl
theorem tw_6_205 : (Cond.methodLink "FlowShelfLaw" 138 ⟨"FlowShelfModel", "size", "(I)I"⟩) ∈ fs_ws := fs_t6 (List.mem_of_getElem? (i := 205) rfl) rfl
theorem tw_6_206 : (Cond.instanceMethod ⟨"FlowShelfModel", "size", "(I)I"⟩) ∈ fs_ws := fs_t6 (List.mem_of_getElem? (i := 206) rfl) rfl
theorem tw_6_207 : (Cond.selects "FlowShelfModel" ⟨"FlowShelfModel", "size", "(I)I"⟩ ⟨"FlowShelfModel", "size", "(I)I"⟩) ∈ fs_ws := fs_t6 (List.mem_of_getElem? (i := 207) rfl) rfl
theorem tw_6_208 : (Cond.code ⟨"FlowShelfModel", "size", "(I)I"⟩ prog_13_method_28_code 2 (Option.some FieldType.int)) ∈ fs_ws := fs_t6 (List.mem_of_getElem? (i := 208) rfl) rfl
theorem tw_6_209 : (Cond.methodLink "FlowShelfModel" 194 ⟨"FlowShelfModel", "noReport", "(I)Z"⟩) ∈ fs_ws := fs_t6 (List.mem_of_getElem? (i := 209) rfl) rfl
theorem tw_6_211 : (Cond.instanceMethod ⟨"FlowShelfModel", "noReport", "(I)Z"⟩) ∈ fs_ws := fs_t6 (List.mem_of_getElem? (i := 211) rfl) rfl
theorem tw_6_212 : (Cond.code ⟨"FlowShelfModel", "noReport", "(I)Z"⟩ prog_13_method_27_code 2 (Option.some FieldType.boolean)) ∈ fs_ws := fs_t6 (List.mem_of_getElem? (i := 212) rfl) rfl
theorem tw_6_213 : (Cond.methodLink "FlowShelfLaw" 141 ⟨"FlowShelfModel", "byteOf", "(II)I"⟩) ∈ fs_ws := fs_t6 (List.mem_of_getElem? (i := 213) rfl) rfl
theorem tw_6_214 : (Cond.instanceMethod ⟨"FlowShelfModel", "byteOf", "(II)I"⟩) ∈ fs_ws := fs_t6 (List.mem_of_getElem? (i := 214) rfl) rfl
theorem tw_6_215 : (Cond.selects "FlowShelfModel" ⟨"FlowShelfModel", "byteOf", "(II)I"⟩ ⟨"FlowShelfModel", "byteOf", "(II)I"⟩) ∈ fs_ws := fs_t6 (List.mem_of_getElem? (i := 215) rfl) rfl
theorem tw_6_216 : (Cond.code ⟨"FlowShelfModel", "byteOf", "(II)I"⟩ prog_13_method_29_code 3 (Option.some FieldType.int)) ∈ fs_ws := fs_t6 (List.mem_of_getElem? (i := 216) rfl) rfl
theorem tw_6_217 : (Cond.methodLink "FlowShelfLaw" 145 ⟨"FlowShelfModel", "poke", "(III)V"⟩) ∈ fs_ws := fs_t6 (List.mem_of_getElem? (i := 217) rfl) rfl
theorem tw_6_218 : (Cond.instanceMethod ⟨"FlowShelfModel", "poke", "(III)V"⟩) ∈ fs_ws := fs_t6 (List.mem_of_getElem? (i := 218) rfl) rfl
theorem tw_6_219 : (Cond.selects "FlowShelfModel" ⟨"FlowShelfModel", "poke", "(III)V"⟩ ⟨"FlowShelfModel", "poke", "(III)V"⟩) ∈ fs_ws := fs_t6 (List.mem_of_getElem? (i := 219) rfl) rfl
theorem tw_6_220 : (Cond.code ⟨"FlowShelfModel", "poke", "(III)V"⟩ prog_13_method_30_code 4 (Option.none : Option FieldType)) ∈ fs_ws := fs_t6 (List.mem_of_getElem? (i := 220) rfl) rfl
theorem tw_6_221 : (Cond.methodLink "FlowShelfLaw" 148 ⟨"FlowShelfModel", "hear", "(I)I"⟩) ∈ fs_ws := fs_t6 (List.mem_of_getElem? (i := 221) rfl) rfl
theorem tw_6_222 : (Cond.instanceMethod ⟨"FlowShelfModel", "hear", "(I)I"⟩) ∈ fs_ws := fs_t6 (List.mem_of_getElem? (i := 222) rfl) rfl
theorem tw_6_223 : (Cond.selects "FlowShelfModel" ⟨"FlowShelfModel", "hear", "(I)I"⟩ ⟨"FlowShelfModel", "hear", "(I)I"⟩) ∈ fs_ws := fs_t6 (List.mem_of_getElem? (i := 223) rfl) rfl
theorem tw_6_224 : (Cond.code ⟨"FlowShelfModel", "hear", "(I)I"⟩ prog_13_method_43_code 4 (Option.some FieldType.int)) ∈ fs_ws := fs_t6 (List.mem_of_getElem? (i := 224) rfl) rfl
theorem tw_6_225 : (Cond.methodLink "FlowShelfModel" 247 ⟨"FlowShelfModel", "isBad", "()Z"⟩) ∈ fs_ws := fs_t6 (List.mem_of_getElem? (i := 225) rfl) rfl
theorem tw_6_227 : (Cond.instanceMethod ⟨"FlowShelfModel", "isBad", "()Z"⟩) ∈ fs_ws := fs_t6 (List.mem_of_getElem? (i := 227) rfl) rfl
theorem tw_6_228 : (Cond.code ⟨"FlowShelfModel", "isBad", "()Z"⟩ prog_13_method_32_code 1 (Option.some FieldType.boolean)) ∈ fs_ws := fs_t6 (List.mem_of_getElem? (i := 228) rfl) rfl
theorem tw_6_229 : (Cond.methodLink "FlowShelfModel" 200 ⟨"FlowShelfModel", "badFields", "()Z"⟩) ∈ fs_ws := fs_t6 (List.mem_of_getElem? (i := 229) rfl) rfl
theorem tw_6_231 : (Cond.instanceMethod ⟨"FlowShelfModel", "badFields", "()Z"⟩) ∈ fs_ws := fs_t6 (List.mem_of_getElem? (i := 231) rfl) rfl
theorem tw_6_232 : (Cond.code ⟨"FlowShelfModel", "badFields", "()Z"⟩ prog_13_method_31_code 5 (Option.some FieldType.boolean)) ∈ fs_ws := fs_t6 (List.mem_of_getElem? (i := 232) rfl) rfl
theorem tw_6_233 : (Cond.methodLink "FlowShelfModel" 250 ⟨"FlowShelfModel", "hearTemplate", "()I"⟩) ∈ fs_ws := fs_t6 (List.mem_of_getElem? (i := 233) rfl) rfl
theorem tw_6_235 : (Cond.instanceMethod ⟨"FlowShelfModel", "hearTemplate", "()I"⟩) ∈ fs_ws := fs_t6 (List.mem_of_getElem? (i := 235) rfl) rfl
theorem tw_6_236 : (Cond.code ⟨"FlowShelfModel", "hearTemplate", "()I"⟩ prog_13_method_41_code 5 (Option.some FieldType.int)) ∈ fs_ws := fs_t6 (List.mem_of_getElem? (i := 236) rfl) rfl
theorem tw_6_237 : (Cond.methodLink "FlowShelfModel" 228 ⟨"FlowShelfModel", "nameOf", "()I"⟩) ∈ fs_ws := fs_t6 (List.mem_of_getElem? (i := 237) rfl) rfl
theorem tw_6_239 : (Cond.instanceMethod ⟨"FlowShelfModel", "nameOf", "()I"⟩) ∈ fs_ws := fs_t6 (List.mem_of_getElem? (i := 239) rfl) rfl
theorem tw_7_0 : (Cond.code ⟨"FlowShelfModel", "nameOf", "()I"⟩ prog_13_method_33_code 1 (Option.some FieldType.int)) ∈ fs_ws := fs_t7 (List.mem_of_getElem? (i := 0) rfl) rfl
theorem tw_7_1 : (Cond.methodLink "FlowShelfModel" 232 ⟨"FlowShelfModel", "find", "(I)I"⟩) ∈ fs_ws := fs_t7 (List.mem_of_getElem? (i := 1) rfl) rfl
theorem tw_7_3 : (Cond.instanceMethod ⟨"FlowShelfModel", "find", "(I)I"⟩) ∈ fs_ws := fs_t7 (List.mem_of_getElem? (i := 3) rfl) rfl
theorem tw_7_4 : (Cond.code ⟨"FlowShelfModel", "find", "(I)I"⟩ prog_13_method_34_code 3 (Option.some FieldType.int)) ∈ fs_ws := fs_t7 (List.mem_of_getElem? (i := 4) rfl) rfl
theorem tw_7_5 : (Cond.methodLink "FlowShelfModel" 235 ⟨"FlowShelfModel", "waiting", "(I)I"⟩) ∈ fs_ws := fs_t7 (List.mem_of_getElem? (i := 5) rfl) rfl
theorem tw_7_7 : (Cond.instanceMethod ⟨"FlowShelfModel", "waiting", "(I)I"⟩) ∈ fs_ws := fs_t7 (List.mem_of_getElem? (i := 7) rfl) rfl
theorem tw_7_8 : (Cond.code ⟨"FlowShelfModel", "waiting", "(I)I"⟩ prog_13_method_40_code 5 (Option.some FieldType.int)) ∈ fs_ws := fs_t7 (List.mem_of_getElem? (i := 8) rfl) rfl
theorem tw_7_9 : (Cond.methodLink "FlowShelfModel" 238 ⟨"FlowShelfModel", "fetch", "(I)V"⟩) ∈ fs_ws := fs_t7 (List.mem_of_getElem? (i := 9) rfl) rfl
theorem tw_7_11 : (Cond.instanceMethod ⟨"FlowShelfModel", "fetch", "(I)V"⟩) ∈ fs_ws := fs_t7 (List.mem_of_getElem? (i := 11) rfl) rfl
theorem tw_7_12 : (Cond.code ⟨"FlowShelfModel", "fetch", "(I)V"⟩ prog_13_method_38_code 3 (Option.none : Option FieldType)) ∈ fs_ws := fs_t7 (List.mem_of_getElem? (i := 12) rfl) rfl
theorem tw_7_13 : (Cond.methodLink "FlowShelfModel" 241 ⟨"FlowShelfModel", "makeRows", "(I)I"⟩) ∈ fs_ws := fs_t7 (List.mem_of_getElem? (i := 13) rfl) rfl
theorem tw_7_15 : (Cond.instanceMethod ⟨"FlowShelfModel", "makeRows", "(I)I"⟩) ∈ fs_ws := fs_t7 (List.mem_of_getElem? (i := 15) rfl) rfl
theorem tw_7_16 : (Cond.code ⟨"FlowShelfModel", "makeRows", "(I)I"⟩ prog_13_method_37_code 3 (Option.some FieldType.int)) ∈ fs_ws := fs_t7 (List.mem_of_getElem? (i := 16) rfl) rfl
theorem tw_7_17 : (Cond.methodLink "FlowShelfModel" 221 ⟨"FlowShelfModel", "read", "(IZ)Z"⟩) ∈ fs_ws := fs_t7 (List.mem_of_getElem? (i := 17) rfl) rfl
theorem tw_7_19 : (Cond.instanceMethod ⟨"FlowShelfModel", "read", "(IZ)Z"⟩) ∈ fs_ws := fs_t7 (List.mem_of_getElem? (i := 19) rfl) rfl
theorem tw_7_20 : (Cond.code ⟨"FlowShelfModel", "read", "(IZ)Z"⟩ prog_13_method_36_code 7 (Option.some FieldType.boolean)) ∈ fs_ws := fs_t7 (List.mem_of_getElem? (i := 20) rfl) rfl
theorem tw_7_21 : (Cond.constantLong "FlowShelfModel" 210 (-1 : Int64)) ∈ fs_ws := fs_t7 (List.mem_of_getElem? (i := 21) rfl) rfl
theorem tw_7_22 : (Cond.methodLink "FlowShelfModel" 217 ⟨"FlowShelfModel", "take", "(I)J"⟩) ∈ fs_ws := fs_t7 (List.mem_of_getElem? (i := 22) rfl) rfl
theorem tw_7_24 : (Cond.instanceMethod ⟨"FlowShelfModel", "take", "(I)J"⟩) ∈ fs_ws := fs_t7 (List.mem_of_getElem? (i := 24) rfl) rfl
theorem tw_7_25 : (Cond.code ⟨"FlowShelfModel", "take", "(I)J"⟩ prog_13_method_35_code 6 (Option.some FieldType.long)) ∈ fs_ws := fs_t7 (List.mem_of_getElem? (i := 25) rfl) rfl
theorem tw_7_26 : (Cond.constantLong "FlowShelfModel" 212 (256 : Int64)) ∈ fs_ws := fs_t7 (List.mem_of_getElem? (i := 26) rfl) rfl
theorem tw_7_27 : (Cond.methodLink "FlowShelfModel" 244 ⟨"FlowShelfModel", "unshelve", "(I)V"⟩) ∈ fs_ws := fs_t7 (List.mem_of_getElem? (i := 27) rfl) rfl
theorem tw_7_29 : (Cond.instanceMethod ⟨"FlowShelfModel", "unshelve", "(I)V"⟩) ∈ fs_ws := fs_t7 (List.mem_of_getElem? (i := 29) rfl) rfl
theorem tw_7_30 : (Cond.code ⟨"FlowShelfModel", "unshelve", "(I)V"⟩ prog_13_method_39_code 4 (Option.none : Option FieldType)) ∈ fs_ws := fs_t7 (List.mem_of_getElem? (i := 30) rfl) rfl
theorem tw_7_31 : (Cond.methodLink "FlowShelfModel" 253 ⟨"FlowShelfModel", "hearRecords", "()I"⟩) ∈ fs_ws := fs_t7 (List.mem_of_getElem? (i := 31) rfl) rfl
theorem tw_7_33 : (Cond.instanceMethod ⟨"FlowShelfModel", "hearRecords", "()I"⟩) ∈ fs_ws := fs_t7 (List.mem_of_getElem? (i := 33) rfl) rfl
theorem tw_7_34 : (Cond.code ⟨"FlowShelfModel", "hearRecords", "()I"⟩ prog_13_method_42_code 7 (Option.some FieldType.int)) ∈ fs_ws := fs_t7 (List.mem_of_getElem? (i := 34) rfl) rfl
theorem tw_7_35 : (Cond.methodLink "FlowShelfLaw" 152 ⟨"FlowShelfModel", "rows", "()I"⟩) ∈ fs_ws := fs_t7 (List.mem_of_getElem? (i := 35) rfl) rfl
theorem tw_7_36 : (Cond.instanceMethod ⟨"FlowShelfModel", "rows", "()I"⟩) ∈ fs_ws := fs_t7 (List.mem_of_getElem? (i := 36) rfl) rfl
theorem tw_7_37 : (Cond.selects "FlowShelfModel" ⟨"FlowShelfModel", "rows", "()I"⟩ ⟨"FlowShelfModel", "rows", "()I"⟩) ∈ fs_ws := fs_t7 (List.mem_of_getElem? (i := 37) rfl) rfl
theorem tw_7_38 : (Cond.code ⟨"FlowShelfModel", "rows", "()I"⟩ prog_13_method_44_code 1 (Option.some FieldType.int)) ∈ fs_ws := fs_t7 (List.mem_of_getElem? (i := 38) rfl) rfl
theorem tw_7_39 : (Cond.methodLink "FlowShelfLaw" 155 ⟨"FlowShelfModel", "row", "(II)J"⟩) ∈ fs_ws := fs_t7 (List.mem_of_getElem? (i := 39) rfl) rfl
theorem tw_7_40 : (Cond.instanceMethod ⟨"FlowShelfModel", "row", "(II)J"⟩) ∈ fs_ws := fs_t7 (List.mem_of_getElem? (i := 40) rfl) rfl
theorem tw_7_41 : (Cond.selects "FlowShelfModel" ⟨"FlowShelfModel", "row", "(II)J"⟩ ⟨"FlowShelfModel", "row", "(II)J"⟩) ∈ fs_ws := fs_t7 (List.mem_of_getElem? (i := 41) rfl) rfl
theorem tw_7_42 : (Cond.code ⟨"FlowShelfModel", "row", "(II)J"⟩ prog_13_method_45_code 3 (Option.some FieldType.long)) ∈ fs_ws := fs_t7 (List.mem_of_getElem? (i := 42) rfl) rfl
theorem tw_7_43 : (Cond.methodLink "FlowShelfLaw" 161 ⟨"FlowShelfModel", "total", "(IIJI)J"⟩) ∈ fs_ws := fs_t7 (List.mem_of_getElem? (i := 43) rfl) rfl
theorem tw_7_44 : (Cond.instanceMethod ⟨"FlowShelfModel", "total", "(IIJI)J"⟩) ∈ fs_ws := fs_t7 (List.mem_of_getElem? (i := 44) rfl) rfl
theorem tw_7_45 : (Cond.selects "FlowShelfModel" ⟨"FlowShelfModel", "total", "(IIJI)J"⟩ ⟨"FlowShelfModel", "total", "(IIJI)J"⟩) ∈ fs_ws := fs_t7 (List.mem_of_getElem? (i := 45) rfl) rfl
theorem tw_7_46 : (Cond.code ⟨"FlowShelfModel", "total", "(IIJI)J"⟩ prog_13_method_46_code 10 (Option.some FieldType.long)) ∈ fs_ws := fs_t7 (List.mem_of_getElem? (i := 46) rfl) rfl
theorem tw_7_47 : (Cond.methodLink "FlowShelfLaw" 164 ⟨"FlowShelfModel", "other", "(I)I"⟩) ∈ fs_ws := fs_t7 (List.mem_of_getElem? (i := 47) rfl) rfl
theorem tw_7_48 : (Cond.instanceMethod ⟨"FlowShelfModel", "other", "(I)I"⟩) ∈ fs_ws := fs_t7 (List.mem_of_getElem? (i := 48) rfl) rfl
theorem tw_7_49 : (Cond.selects "FlowShelfModel" ⟨"FlowShelfModel", "other", "(I)I"⟩ ⟨"FlowShelfModel", "other", "(I)I"⟩) ∈ fs_ws := fs_t7 (List.mem_of_getElem? (i := 49) rfl) rfl
theorem tw_7_50 : (Cond.code ⟨"FlowShelfModel", "other", "(I)I"⟩ prog_13_method_52_code 3 (Option.some FieldType.int)) ∈ fs_ws := fs_t7 (List.mem_of_getElem? (i := 50) rfl) rfl
theorem tw_7_51 : (Cond.methodLink "FlowShelfModel" 266 ⟨"FlowShelfModel", "firstLeft", "()I"⟩) ∈ fs_ws := fs_t7 (List.mem_of_getElem? (i := 51) rfl) rfl
theorem tw_7_53 : (Cond.instanceMethod ⟨"FlowShelfModel", "firstLeft", "()I"⟩) ∈ fs_ws := fs_t7 (List.mem_of_getElem? (i := 53) rfl) rfl
theorem tw_7_54 : (Cond.code ⟨"FlowShelfModel", "firstLeft", "()I"⟩ prog_13_method_50_code 4 (Option.some FieldType.int)) ∈ fs_ws := fs_t7 (List.mem_of_getElem? (i := 54) rfl) rfl
theorem tw_7_55 : (Cond.methodLink "FlowShelfModel" 256 ⟨"FlowShelfModel", "isWhole", "(I)Z"⟩) ∈ fs_ws := fs_t7 (List.mem_of_getElem? (i := 55) rfl) rfl
theorem tw_7_57 : (Cond.instanceMethod ⟨"FlowShelfModel", "isWhole", "(I)Z"⟩) ∈ fs_ws := fs_t7 (List.mem_of_getElem? (i := 57) rfl) rfl
theorem tw_7_58 : (Cond.code ⟨"FlowShelfModel", "isWhole", "(I)Z"⟩ prog_13_method_47_code 2 (Option.some FieldType.boolean)) ∈ fs_ws := fs_t7 (List.mem_of_getElem? (i := 58) rfl) rfl
theorem tw_7_59 : (Cond.methodLink "FlowShelfModel" 269 ⟨"FlowShelfModel", "pairOne", "(I)V"⟩) ∈ fs_ws := fs_t7 (List.mem_of_getElem? (i := 59) rfl) rfl
theorem tw_7_61 : (Cond.instanceMethod ⟨"FlowShelfModel", "pairOne", "(I)V"⟩) ∈ fs_ws := fs_t7 (List.mem_of_getElem? (i := 61) rfl) rfl
theorem tw_7_62 : (Cond.code ⟨"FlowShelfModel", "pairOne", "(I)V"⟩ prog_13_method_51_code 5 (Option.none : Option FieldType)) ∈ fs_ws := fs_t7 (List.mem_of_getElem? (i := 62) rfl) rfl
theorem tw_7_63 : (Cond.methodLink "FlowShelfModel" 259 ⟨"FlowShelfModel", "isBack", "(II)Z"⟩) ∈ fs_ws := fs_t7 (List.mem_of_getElem? (i := 63) rfl) rfl
theorem tw_7_65 : (Cond.instanceMethod ⟨"FlowShelfModel", "isBack", "(II)Z"⟩) ∈ fs_ws := fs_t7 (List.mem_of_getElem? (i := 65) rfl) rfl
theorem tw_7_66 : (Cond.code ⟨"FlowShelfModel", "isBack", "(II)Z"⟩ prog_13_method_48_code 3 (Option.some FieldType.boolean)) ∈ fs_ws := fs_t7 (List.mem_of_getElem? (i := 66) rfl) rfl
theorem tw_7_67 : (Cond.methodLink "FlowShelfModel" 262 ⟨"FlowShelfModel", "farness", "(II)J"⟩) ∈ fs_ws := fs_t7 (List.mem_of_getElem? (i := 67) rfl) rfl
theorem tw_7_69 : (Cond.instanceMethod ⟨"FlowShelfModel", "farness", "(II)J"⟩) ∈ fs_ws := fs_t7 (List.mem_of_getElem? (i := 69) rfl) rfl
theorem tw_7_70 : (Cond.code ⟨"FlowShelfModel", "farness", "(II)J"⟩ prog_13_method_49_code 5 (Option.some FieldType.long)) ∈ fs_ws := fs_t7 (List.mem_of_getElem? (i := 70) rfl) rfl
theorem tw_7_71 : (Cond.methodLink "FlowShelfLaw" 167 ⟨"FlowShelfModel", "count", "(II)I"⟩) ∈ fs_ws := fs_t7 (List.mem_of_getElem? (i := 71) rfl) rfl
theorem tw_7_72 : (Cond.instanceMethod ⟨"FlowShelfModel", "count", "(II)I"⟩) ∈ fs_ws := fs_t7 (List.mem_of_getElem? (i := 72) rfl) rfl
theorem tw_7_73 : (Cond.selects "FlowShelfModel" ⟨"FlowShelfModel", "count", "(II)I"⟩ ⟨"FlowShelfModel", "count", "(II)I"⟩) ∈ fs_ws := fs_t7 (List.mem_of_getElem? (i := 73) rfl) rfl
theorem tw_7_74 : (Cond.code ⟨"FlowShelfModel", "count", "(II)I"⟩ prog_13_method_54_code 5 (Option.some FieldType.int)) ∈ fs_ws := fs_t7 (List.mem_of_getElem? (i := 74) rfl) rfl
theorem tw_7_75 : (Cond.methodLink "FlowShelfModel" 272 ⟨"FlowShelfModel", "lostOf", "(I)I"⟩) ∈ fs_ws := fs_t7 (List.mem_of_getElem? (i := 75) rfl) rfl
theorem tw_7_77 : (Cond.instanceMethod ⟨"FlowShelfModel", "lostOf", "(I)I"⟩) ∈ fs_ws := fs_t7 (List.mem_of_getElem? (i := 77) rfl) rfl
theorem tw_7_78 : (Cond.code ⟨"FlowShelfModel", "lostOf", "(I)I"⟩ prog_13_method_53_code 8 (Option.some FieldType.int)) ∈ fs_ws := fs_t7 (List.mem_of_getElem? (i := 78) rfl) rfl
theorem tw_7_79 : (Cond.constantLong "FlowShelfLaw" 156 (4294967295 : Int64)) ∈ fs_ws := fs_t7 (List.mem_of_getElem? (i := 79) rfl) rfl
theorem tw_7_85 : (Cond.selects "[Ljava/lang/Object;" ⟨"java/lang/Object", "getClass", "()Ljava/lang/Class;"⟩ ⟨"java/lang/Object", "getClass", "()Ljava/lang/Class;"⟩) ∈ fs_ws := fs_t7 (List.mem_of_getElem? (i := 85) rfl) rfl
theorem fs_p {k : List (MethodName × Nat)} (hk : ∀ q ∈ k, q ∈ lw_privs) {q : MethodName × Nat} (h : q ∈ k) : Cond.selects q.1.cls q.1 q.1 ∈ fs_ws := List.mem_filter.mpr ⟨List.mem_append_left _ (List.mem_map.mpr ⟨q, hk q h, rfl⟩), rfl⟩
theorem fs_p1 : ∀ q ∈ lw_privs_1, q ∈ lw_privs := fun q h => List.mem_append_left _ h
theorem fs_p2 : ∀ q ∈ lw_privs_2, q ∈ lw_privs := fun q h => List.mem_append_right _ (List.mem_append_left _ h)
theorem fs_p3 : ∀ q ∈ lw_privs_3, q ∈ lw_privs := fun q h => List.mem_append_right _ (List.mem_append_right _ h)
theorem tp_1_0 : Cond.selects "FlowShelf" ⟨"FlowShelf", "isReport", "(I)Z"⟩ ⟨"FlowShelf", "isReport", "(I)Z"⟩ ∈ fs_ws := fs_p fs_p1 (q := (⟨"FlowShelf", "isReport", "(I)Z"⟩, 4)) (List.mem_of_getElem? (i := 0) rfl)
theorem tp_1_1 : Cond.selects "FlowShelf" ⟨"FlowShelf", "exporterOf", "(I)LFlowShelf$Exporter;"⟩ ⟨"FlowShelf", "exporterOf", "(I)LFlowShelf$Exporter;"⟩ ∈ fs_ws := fs_p fs_p1 (q := (⟨"FlowShelf", "exporterOf", "(I)LFlowShelf$Exporter;"⟩, 4)) (List.mem_of_getElem? (i := 1) rfl)
theorem tp_1_2 : Cond.selects "java/lang/Throwable" ⟨"java/lang/Throwable", "fillInStackTrace", "(I)Ljava/lang/Throwable;"⟩ ⟨"java/lang/Throwable", "fillInStackTrace", "(I)Ljava/lang/Throwable;"⟩ ∈ fs_ws := fs_p fs_p1 (q := (⟨"java/lang/Throwable", "fillInStackTrace", "(I)Ljava/lang/Throwable;"⟩, 6)) (List.mem_of_getElem? (i := 2) rfl)
theorem tp_1_3 : Cond.selects "java/util/ArrayList" ⟨"java/util/ArrayList", "fastRemove", "([Ljava/lang/Object;I)V"⟩ ⟨"java/util/ArrayList", "fastRemove", "([Ljava/lang/Object;I)V"⟩ ∈ fs_ws := fs_p fs_p1 (q := (⟨"java/util/ArrayList", "fastRemove", "([Ljava/lang/Object;I)V"⟩, 3)) (List.mem_of_getElem? (i := 3) rfl)
theorem tp_1_4 : Cond.selects "java/util/ArrayList" ⟨"java/util/ArrayList", "add", "(Ljava/lang/Object;[Ljava/lang/Object;I)V"⟩ ⟨"java/util/ArrayList", "add", "(Ljava/lang/Object;[Ljava/lang/Object;I)V"⟩ ∈ fs_ws := fs_p fs_p1 (q := (⟨"java/util/ArrayList", "add", "(Ljava/lang/Object;[Ljava/lang/Object;I)V"⟩, 3)) (List.mem_of_getElem? (i := 4) rfl)
theorem tp_1_5 : Cond.selects "java/util/ArrayList" ⟨"java/util/ArrayList", "grow", "()[Ljava/lang/Object;"⟩ ⟨"java/util/ArrayList", "grow", "()[Ljava/lang/Object;"⟩ ∈ fs_ws := fs_p fs_p1 (q := (⟨"java/util/ArrayList", "grow", "()[Ljava/lang/Object;"⟩, 3)) (List.mem_of_getElem? (i := 5) rfl)
theorem tp_1_6 : Cond.selects "java/util/ArrayList" ⟨"java/util/ArrayList", "grow", "(I)[Ljava/lang/Object;"⟩ ⟨"java/util/ArrayList", "grow", "(I)[Ljava/lang/Object;"⟩ ∈ fs_ws := fs_p fs_p1 (q := (⟨"java/util/ArrayList", "grow", "(I)[Ljava/lang/Object;"⟩, 3)) (List.mem_of_getElem? (i := 6) rfl)
theorem tp_1_7 : Cond.selects "FlowShelf" ⟨"FlowShelf", "slotOf", "(II)LFlowShelf$Slot;"⟩ ⟨"FlowShelf", "slotOf", "(II)LFlowShelf$Slot;"⟩ ∈ fs_ws := fs_p fs_p1 (q := (⟨"FlowShelf", "slotOf", "(II)LFlowShelf$Slot;"⟩, 4)) (List.mem_of_getElem? (i := 7) rfl)
theorem tp_1_8 : Cond.selects "FlowShelf" ⟨"FlowShelf", "hasNoRoomForReport", "()Z"⟩ ⟨"FlowShelf", "hasNoRoomForReport", "()Z"⟩ ∈ fs_ws := fs_p fs_p1 (q := (⟨"FlowShelf", "hasNoRoomForReport", "()Z"⟩, 4)) (List.mem_of_getElem? (i := 8) rfl)
theorem tp_1_9 : Cond.selects "FlowShelf" ⟨"FlowShelf", "keep", "(LFlowShelf$Report;)I"⟩ ⟨"FlowShelf", "keep", "(LFlowShelf$Report;)I"⟩ ∈ fs_ws := fs_p fs_p1 (q := (⟨"FlowShelf", "keep", "(LFlowShelf$Report;)I"⟩, 4)) (List.mem_of_getElem? (i := 9) rfl)
theorem tp_1_10 : Cond.selects "FlowShelf" ⟨"FlowShelf", "reportWithByte", "(II)LFlowShelf$Report;"⟩ ⟨"FlowShelf", "reportWithByte", "(II)LFlowShelf$Report;"⟩ ∈ fs_ws := fs_p fs_p1 (q := (⟨"FlowShelf", "reportWithByte", "(II)LFlowShelf$Report;"⟩, 4)) (List.mem_of_getElem? (i := 10) rfl)
theorem tp_1_11 : Cond.selects "FlowShelf" ⟨"FlowShelf", "reportOf", "(I)LFlowShelf$Report;"⟩ ⟨"FlowShelf", "reportOf", "(I)LFlowShelf$Report;"⟩ ∈ fs_ws := fs_p fs_p1 (q := (⟨"FlowShelf", "reportOf", "(I)LFlowShelf$Report;"⟩, 4)) (List.mem_of_getElem? (i := 11) rfl)
theorem tp_1_12 : Cond.selects "FlowShelf" ⟨"FlowShelf", "requireRow", "(I)V"⟩ ⟨"FlowShelf", "requireRow", "(I)V"⟩ ∈ fs_ws := fs_p fs_p1 (q := (⟨"FlowShelf", "requireRow", "(I)V"⟩, 4)) (List.mem_of_getElem? (i := 12) rfl)
theorem tp_1_13 : Cond.selects "FlowShelfModel" ⟨"FlowShelfModel", "noExporter", "(I)Z"⟩ ⟨"FlowShelfModel", "noExporter", "(I)Z"⟩ ∈ fs_ws := fs_p fs_p1 (q := (⟨"FlowShelfModel", "noExporter", "(I)Z"⟩, 50)) (List.mem_of_getElem? (i := 13) rfl)
theorem tp_1_14 : Cond.selects "FlowShelfModel" ⟨"FlowShelfModel", "noByte", "(I)Z"⟩ ⟨"FlowShelfModel", "noByte", "(I)Z"⟩ ∈ fs_ws := fs_p fs_p1 (q := (⟨"FlowShelfModel", "noByte", "(I)Z"⟩, 50)) (List.mem_of_getElem? (i := 14) rfl)
theorem tp_1_15 : Cond.selects "FlowShelfModel" ⟨"FlowShelfModel", "flowOf", "(II)I"⟩ ⟨"FlowShelfModel", "flowOf", "(II)I"⟩ ∈ fs_ws := fs_p fs_p1 (q := (⟨"FlowShelfModel", "flowOf", "(II)I"⟩, 50)) (List.mem_of_getElem? (i := 15) rfl)
theorem tp_2_0 : Cond.selects "FlowShelfModel" ⟨"FlowShelfModel", "end", "(III)V"⟩ ⟨"FlowShelfModel", "end", "(III)V"⟩ ∈ fs_ws := fs_p fs_p2 (q := (⟨"FlowShelfModel", "end", "(III)V"⟩, 50)) (List.mem_of_getElem? (i := 0) rfl)
theorem tp_2_1 : Cond.selects "FlowShelfModel" ⟨"FlowShelfModel", "noTemplate", "(II)Z"⟩ ⟨"FlowShelfModel", "noTemplate", "(II)Z"⟩ ∈ fs_ws := fs_p fs_p2 (q := (⟨"FlowShelfModel", "noTemplate", "(II)Z"⟩, 50)) (List.mem_of_getElem? (i := 1) rfl)
theorem tp_2_2 : Cond.selects "FlowShelfModel" ⟨"FlowShelfModel", "leastOf", "(I)I"⟩ ⟨"FlowShelfModel", "leastOf", "(I)I"⟩ ∈ fs_ws := fs_p fs_p2 (q := (⟨"FlowShelfModel", "leastOf", "(I)I"⟩, 50)) (List.mem_of_getElem? (i := 2) rfl)
theorem tp_2_3 : Cond.selects "FlowShelfModel" ⟨"FlowShelfModel", "head", "(II)V"⟩ ⟨"FlowShelfModel", "head", "(II)V"⟩ ∈ fs_ws := fs_p fs_p2 (q := (⟨"FlowShelfModel", "head", "(II)V"⟩, 50)) (List.mem_of_getElem? (i := 3) rfl)
theorem tp_2_4 : Cond.selects "FlowShelfModel" ⟨"FlowShelfModel", "write", "(I)V"⟩ ⟨"FlowShelfModel", "write", "(I)V"⟩ ∈ fs_ws := fs_p fs_p2 (q := (⟨"FlowShelfModel", "write", "(I)V"⟩, 50)) (List.mem_of_getElem? (i := 4) rfl)
theorem tp_2_5 : Cond.selects "FlowShelfModel" ⟨"FlowShelfModel", "last", "(I)I"⟩ ⟨"FlowShelfModel", "last", "(I)I"⟩ ∈ fs_ws := fs_p fs_p2 (q := (⟨"FlowShelfModel", "last", "(I)I"⟩, 50)) (List.mem_of_getElem? (i := 5) rfl)
theorem tp_2_6 : Cond.selects "FlowShelfModel" ⟨"FlowShelfModel", "recordOf", "(III)I"⟩ ⟨"FlowShelfModel", "recordOf", "(III)I"⟩ ∈ fs_ws := fs_p fs_p2 (q := (⟨"FlowShelfModel", "recordOf", "(III)I"⟩, 50)) (List.mem_of_getElem? (i := 6) rfl)
theorem tp_2_7 : Cond.selects "FlowShelfModel" ⟨"FlowShelfModel", "widthOf", "(I)I"⟩ ⟨"FlowShelfModel", "widthOf", "(I)I"⟩ ∈ fs_ws := fs_p fs_p2 (q := (⟨"FlowShelfModel", "widthOf", "(I)I"⟩, 50)) (List.mem_of_getElem? (i := 7) rfl)
theorem tp_2_8 : Cond.selects "FlowShelfModel" ⟨"FlowShelfModel", "writeRecord", "(III)V"⟩ ⟨"FlowShelfModel", "writeRecord", "(III)V"⟩ ∈ fs_ws := fs_p fs_p2 (q := (⟨"FlowShelfModel", "writeRecord", "(III)V"⟩, 50)) (List.mem_of_getElem? (i := 8) rfl)
theorem tp_2_9 : Cond.selects "FlowShelfModel" ⟨"FlowShelfModel", "noReport", "(I)Z"⟩ ⟨"FlowShelfModel", "noReport", "(I)Z"⟩ ∈ fs_ws := fs_p fs_p2 (q := (⟨"FlowShelfModel", "noReport", "(I)Z"⟩, 50)) (List.mem_of_getElem? (i := 9) rfl)
theorem tp_2_10 : Cond.selects "FlowShelfModel" ⟨"FlowShelfModel", "isBad", "()Z"⟩ ⟨"FlowShelfModel", "isBad", "()Z"⟩ ∈ fs_ws := fs_p fs_p2 (q := (⟨"FlowShelfModel", "isBad", "()Z"⟩, 50)) (List.mem_of_getElem? (i := 10) rfl)
theorem tp_2_11 : Cond.selects "FlowShelfModel" ⟨"FlowShelfModel", "badFields", "()Z"⟩ ⟨"FlowShelfModel", "badFields", "()Z"⟩ ∈ fs_ws := fs_p fs_p2 (q := (⟨"FlowShelfModel", "badFields", "()Z"⟩, 50)) (List.mem_of_getElem? (i := 11) rfl)
theorem tp_2_12 : Cond.selects "FlowShelfModel" ⟨"FlowShelfModel", "hearTemplate", "()I"⟩ ⟨"FlowShelfModel", "hearTemplate", "()I"⟩ ∈ fs_ws := fs_p fs_p2 (q := (⟨"FlowShelfModel", "hearTemplate", "()I"⟩, 50)) (List.mem_of_getElem? (i := 12) rfl)
theorem tp_2_13 : Cond.selects "FlowShelfModel" ⟨"FlowShelfModel", "nameOf", "()I"⟩ ⟨"FlowShelfModel", "nameOf", "()I"⟩ ∈ fs_ws := fs_p fs_p2 (q := (⟨"FlowShelfModel", "nameOf", "()I"⟩, 50)) (List.mem_of_getElem? (i := 13) rfl)
theorem tp_2_14 : Cond.selects "FlowShelfModel" ⟨"FlowShelfModel", "find", "(I)I"⟩ ⟨"FlowShelfModel", "find", "(I)I"⟩ ∈ fs_ws := fs_p fs_p2 (q := (⟨"FlowShelfModel", "find", "(I)I"⟩, 50)) (List.mem_of_getElem? (i := 14) rfl)
theorem tp_2_15 : Cond.selects "FlowShelfModel" ⟨"FlowShelfModel", "waiting", "(I)I"⟩ ⟨"FlowShelfModel", "waiting", "(I)I"⟩ ∈ fs_ws := fs_p fs_p2 (q := (⟨"FlowShelfModel", "waiting", "(I)I"⟩, 50)) (List.mem_of_getElem? (i := 15) rfl)
theorem tp_3_0 : Cond.selects "FlowShelfModel" ⟨"FlowShelfModel", "fetch", "(I)V"⟩ ⟨"FlowShelfModel", "fetch", "(I)V"⟩ ∈ fs_ws := fs_p fs_p3 (q := (⟨"FlowShelfModel", "fetch", "(I)V"⟩, 50)) (List.mem_of_getElem? (i := 0) rfl)
theorem tp_3_1 : Cond.selects "FlowShelfModel" ⟨"FlowShelfModel", "makeRows", "(I)I"⟩ ⟨"FlowShelfModel", "makeRows", "(I)I"⟩ ∈ fs_ws := fs_p fs_p3 (q := (⟨"FlowShelfModel", "makeRows", "(I)I"⟩, 50)) (List.mem_of_getElem? (i := 1) rfl)
theorem tp_3_2 : Cond.selects "FlowShelfModel" ⟨"FlowShelfModel", "read", "(IZ)Z"⟩ ⟨"FlowShelfModel", "read", "(IZ)Z"⟩ ∈ fs_ws := fs_p fs_p3 (q := (⟨"FlowShelfModel", "read", "(IZ)Z"⟩, 50)) (List.mem_of_getElem? (i := 2) rfl)
theorem tp_3_3 : Cond.selects "FlowShelfModel" ⟨"FlowShelfModel", "take", "(I)J"⟩ ⟨"FlowShelfModel", "take", "(I)J"⟩ ∈ fs_ws := fs_p fs_p3 (q := (⟨"FlowShelfModel", "take", "(I)J"⟩, 50)) (List.mem_of_getElem? (i := 3) rfl)
theorem tp_3_4 : Cond.selects "FlowShelfModel" ⟨"FlowShelfModel", "unshelve", "(I)V"⟩ ⟨"FlowShelfModel", "unshelve", "(I)V"⟩ ∈ fs_ws := fs_p fs_p3 (q := (⟨"FlowShelfModel", "unshelve", "(I)V"⟩, 50)) (List.mem_of_getElem? (i := 4) rfl)
theorem tp_3_5 : Cond.selects "FlowShelfModel" ⟨"FlowShelfModel", "hearRecords", "()I"⟩ ⟨"FlowShelfModel", "hearRecords", "()I"⟩ ∈ fs_ws := fs_p fs_p3 (q := (⟨"FlowShelfModel", "hearRecords", "()I"⟩, 50)) (List.mem_of_getElem? (i := 5) rfl)
theorem tp_3_6 : Cond.selects "FlowShelfModel" ⟨"FlowShelfModel", "firstLeft", "()I"⟩ ⟨"FlowShelfModel", "firstLeft", "()I"⟩ ∈ fs_ws := fs_p fs_p3 (q := (⟨"FlowShelfModel", "firstLeft", "()I"⟩, 50)) (List.mem_of_getElem? (i := 6) rfl)
theorem tp_3_7 : Cond.selects "FlowShelfModel" ⟨"FlowShelfModel", "isWhole", "(I)Z"⟩ ⟨"FlowShelfModel", "isWhole", "(I)Z"⟩ ∈ fs_ws := fs_p fs_p3 (q := (⟨"FlowShelfModel", "isWhole", "(I)Z"⟩, 50)) (List.mem_of_getElem? (i := 7) rfl)
theorem tp_3_8 : Cond.selects "FlowShelfModel" ⟨"FlowShelfModel", "pairOne", "(I)V"⟩ ⟨"FlowShelfModel", "pairOne", "(I)V"⟩ ∈ fs_ws := fs_p fs_p3 (q := (⟨"FlowShelfModel", "pairOne", "(I)V"⟩, 50)) (List.mem_of_getElem? (i := 8) rfl)
theorem tp_3_9 : Cond.selects "FlowShelfModel" ⟨"FlowShelfModel", "isBack", "(II)Z"⟩ ⟨"FlowShelfModel", "isBack", "(II)Z"⟩ ∈ fs_ws := fs_p fs_p3 (q := (⟨"FlowShelfModel", "isBack", "(II)Z"⟩, 50)) (List.mem_of_getElem? (i := 9) rfl)
theorem tp_3_10 : Cond.selects "FlowShelfModel" ⟨"FlowShelfModel", "farness", "(II)J"⟩ ⟨"FlowShelfModel", "farness", "(II)J"⟩ ∈ fs_ws := fs_p fs_p3 (q := (⟨"FlowShelfModel", "farness", "(II)J"⟩, 50)) (List.mem_of_getElem? (i := 10) rfl)
theorem tp_3_11 : Cond.selects "FlowShelfModel" ⟨"FlowShelfModel", "lostOf", "(I)I"⟩ ⟨"FlowShelfModel", "lostOf", "(I)I"⟩ ∈ fs_ws := fs_p fs_p3 (q := (⟨"FlowShelfModel", "lostOf", "(I)I"⟩, 50)) (List.mem_of_getElem? (i := 11) rfl)
theorem tb_1_56 : (Cond.laysStatic "java/util/ArrayList" "DEFAULTCAPACITY_EMPTY_ELEMENTDATA" "[Ljava/lang/Object;") ∈ lw_tbl := fs_b1 (List.mem_of_getElem? (i := 56) rfl)
theorem tb_1_68 : (Cond.superclass "java/util/ArrayList" "java/util/AbstractList") ∈ lw_tbl := fs_b1 (List.mem_of_getElem? (i := 68) rfl)
theorem tb_1_70 : (Cond.arrayOver (FieldType.object "FlowShelf$Slot")) ∈ lw_tbl := fs_b1 (List.mem_of_getElem? (i := 70) rfl)
theorem tb_1_78 : (Cond.methodLinkNest "FlowShelf$Slot" 9 ⟨"FlowShelf$Layout", "<init>", "()V"⟩ "FlowShelf") ∈ lw_tbl := fs_b1 (List.mem_of_getElem? (i := 78) rfl)
theorem tb_1_96 : (Cond.superclass "FlowShelf$Layout" "java/lang/Object") ∈ lw_tbl := fs_b1 (List.mem_of_getElem? (i := 96) rfl)
theorem tb_1_124 : (Cond.superclass "FlowShelf$Slot" "java/lang/Object") ∈ lw_tbl := fs_b1 (List.mem_of_getElem? (i := 124) rfl)
theorem tb_1_164 : (Cond.superclass "FlowShelf$Exporter" "java/lang/Object") ∈ lw_tbl := fs_b1 (List.mem_of_getElem? (i := 164) rfl)
theorem tb_1_169 : (Cond.methodLinkNest "FlowShelf" 30 ⟨"FlowShelf$Collector", "<init>", "()V"⟩ "FlowShelf") ∈ lw_tbl := fs_b1 (List.mem_of_getElem? (i := 169) rfl)
theorem tb_1_177 : (Cond.methodLinkNest "FlowShelf$Collector" 23 ⟨"FlowShelf$Table", "<init>", "()V"⟩ "FlowShelf") ∈ lw_tbl := fs_b1 (List.mem_of_getElem? (i := 177) rfl)
theorem tb_1_200 : (Cond.superclass "FlowShelf$Table" "java/lang/Object") ∈ lw_tbl := fs_b1 (List.mem_of_getElem? (i := 200) rfl)
theorem tb_1_203 : (Cond.methodLinkNest "FlowShelf$Collector" 30 ⟨"FlowShelf$Ledger", "<init>", "()V"⟩ "FlowShelf") ∈ lw_tbl := fs_b1 (List.mem_of_getElem? (i := 203) rfl)
theorem tb_1_228 : (Cond.superclass "FlowShelf$Ledger" "java/lang/Object") ∈ lw_tbl := fs_b1 (List.mem_of_getElem? (i := 228) rfl)
theorem tb_2_6 : (Cond.superclass "FlowShelf$Collector" "java/lang/Object") ∈ lw_tbl := fs_b2 (List.mem_of_getElem? (i := 6) rfl)
theorem tb_2_19 : (Cond.superclass "FlowShelf" "java/lang/Object") ∈ lw_tbl := fs_b2 (List.mem_of_getElem? (i := 19) rfl)
theorem tb_2_69 : (Cond.castable "java/lang/IllegalArgumentException" "java/lang/IllegalArgumentException") ∈ lw_tbl := fs_b2 (List.mem_of_getElem? (i := 69) rfl)
theorem tb_2_70 : (Cond.declares ⟨"java/lang/RuntimeException", "<init>", "()V"⟩) ∈ lw_tbl := fs_b2 (List.mem_of_getElem? (i := 70) rfl)
theorem tb_2_71 : (Cond.declares ⟨"java/lang/RuntimeException", "<init>", "(Ljava/lang/String;)V"⟩) ∈ lw_tbl := fs_b2 (List.mem_of_getElem? (i := 71) rfl)
theorem tb_2_72 : (Cond.declares ⟨"java/lang/Exception", "<init>", "()V"⟩) ∈ lw_tbl := fs_b2 (List.mem_of_getElem? (i := 72) rfl)
theorem tb_2_73 : (Cond.declares ⟨"java/lang/Exception", "<init>", "(Ljava/lang/String;)V"⟩) ∈ lw_tbl := fs_b2 (List.mem_of_getElem? (i := 73) rfl)
theorem tb_2_74 : (Cond.declares ⟨"java/lang/Throwable", "<init>", "()V"⟩) ∈ lw_tbl := fs_b2 (List.mem_of_getElem? (i := 74) rfl)
theorem tb_2_75 : (Cond.declares ⟨"java/lang/Throwable", "<init>", "(Ljava/lang/String;)V"⟩) ∈ lw_tbl := fs_b2 (List.mem_of_getElem? (i := 75) rfl)
theorem tb_2_89 : (Cond.superclass "java/lang/Throwable" "java/lang/Object") ∈ lw_tbl := fs_b2 (List.mem_of_getElem? (i := 89) rfl)
theorem tb_2_94 : (Cond.laysStatic "java/lang/Throwable" "UNASSIGNED_STACK" "[Ljava/lang/StackTraceElement;") ∈ lw_tbl := fs_b2 (List.mem_of_getElem? (i := 94) rfl)
theorem tb_2_96 : (Cond.laysStatic "java/lang/Throwable" "SUPPRESSED_SENTINEL" "Ljava/util/List;") ∈ lw_tbl := fs_b2 (List.mem_of_getElem? (i := 96) rfl)
theorem tb_2_99 : (Cond.sameMethod "java/lang/Throwable" "java/lang/Throwable" "fillInStackTrace" "()Ljava/lang/Throwable;") ∈ lw_tbl := fs_b2 (List.mem_of_getElem? (i := 99) rfl)
theorem tb_2_103 : (Cond.codeSync ⟨"java/lang/Throwable", "fillInStackTrace", "()Ljava/lang/Throwable;"⟩ prog_25_method_18_code 1 (Option.some (FieldType.object "java/lang/Throwable"))) ∈ lw_tbl := fs_b2 (List.mem_of_getElem? (i := 103) rfl)
theorem tb_2_109 : (Cond.stringRef "FlowShelf" 272 "no such exporter") ∈ lw_tbl := fs_b2 (List.mem_of_getElem? (i := 109) rfl)
theorem tb_2_134 : (Cond.superclass "java/lang/IllegalArgumentException" "java/lang/RuntimeException") ∈ lw_tbl := fs_b2 (List.mem_of_getElem? (i := 134) rfl)
theorem tb_2_139 : (Cond.stringRef "FlowShelf" 45 "a part of the key is not 0 .. 255") ∈ lw_tbl := fs_b2 (List.mem_of_getElem? (i := 139) rfl)
theorem tb_2_140 : (Cond.stringRef "FlowShelf" 50 "bytes is not 0 .. 9999") ∈ lw_tbl := fs_b2 (List.mem_of_getElem? (i := 140) rfl)
theorem tb_2_148 : (Cond.castable "java/lang/IllegalStateException" "java/lang/IllegalStateException") ∈ lw_tbl := fs_b2 (List.mem_of_getElem? (i := 148) rfl)
theorem tb_2_155 : (Cond.stringRef "FlowShelf" 58 "20 flows are in the cache or ended") ∈ lw_tbl := fs_b2 (List.mem_of_getElem? (i := 155) rfl)
theorem tb_2_161 : (Cond.superclass "java/lang/IllegalStateException" "java/lang/RuntimeException") ∈ lw_tbl := fs_b2 (List.mem_of_getElem? (i := 161) rfl)
theorem tb_2_230 : (Cond.sameMethod "java/lang/Object" "java/lang/Object" "getClass" "()Ljava/lang/Class;") ∈ lw_tbl := fs_b2 (List.mem_of_getElem? (i := 230) rfl)
theorem tb_3_13 : (Cond.arrayOver (FieldType.object "java/lang/Object")) ∈ lw_tbl := fs_b3 (List.mem_of_getElem? (i := 13) rfl)
theorem tb_3_56 : (Cond.superclass "FlowShelf$Flow" "java/lang/Object") ∈ lw_tbl := fs_b3 (List.mem_of_getElem? (i := 56) rfl)
theorem tb_3_68 : (Cond.stringRef "FlowShelf" 69 "n is not 1 .. 100") ∈ lw_tbl := fs_b3 (List.mem_of_getElem? (i := 68) rfl)
theorem tb_3_95 : (Cond.stringRef "FlowShelf" 77 "n is not 1 .. 9") ∈ lw_tbl := fs_b3 (List.mem_of_getElem? (i := 95) rfl)
theorem tb_3_111 : (Cond.stringRef "FlowShelf" 304 "no such field") ∈ lw_tbl := fs_b3 (List.mem_of_getElem? (i := 111) rfl)
theorem tb_3_114 : (Cond.castable "java/lang/IndexOutOfBoundsException" "java/lang/IndexOutOfBoundsException") ∈ lw_tbl := fs_b3 (List.mem_of_getElem? (i := 114) rfl)
theorem tb_3_121 : (Cond.stringRef "FlowShelf" 93 "no such ended flow") ∈ lw_tbl := fs_b3 (List.mem_of_getElem? (i := 121) rfl)
theorem tb_3_127 : (Cond.superclass "java/lang/IndexOutOfBoundsException" "java/lang/RuntimeException") ∈ lw_tbl := fs_b3 (List.mem_of_getElem? (i := 127) rfl)
theorem tb_3_144 : (Cond.stringRef "FlowShelf" 308 "no such template number") ∈ lw_tbl := fs_b3 (List.mem_of_getElem? (i := 144) rfl)
theorem tb_3_145 : (Cond.stringRef "FlowShelf" 110 "length is not 0 .. 4") ∈ lw_tbl := fs_b3 (List.mem_of_getElem? (i := 145) rfl)
theorem tb_3_147 : (Cond.laysStatic "FlowShelf" "LEAST_LENGTH" "[I") ∈ lw_tbl := fs_b3 (List.mem_of_getElem? (i := 147) rfl)
theorem tb_3_148 : (Cond.stringRef "FlowShelf" 116 "length is less than the field's least") ∈ lw_tbl := fs_b3 (List.mem_of_getElem? (i := 148) rfl)
theorem tb_3_153 : (Cond.stringRef "FlowShelf" 129 "the draft has that field") ∈ lw_tbl := fs_b3 (List.mem_of_getElem? (i := 153) rfl)
theorem tb_3_165 : (Cond.stringRef "FlowShelf" 143 "the draft is empty, or a template is in force") ∈ lw_tbl := fs_b3 (List.mem_of_getElem? (i := 165) rfl)
theorem tb_3_181 : (Cond.stringRef "FlowShelf" 154 "no template is in force") ∈ lw_tbl := fs_b3 (List.mem_of_getElem? (i := 181) rfl)
theorem tb_3_189 : (Cond.stringRef "FlowShelf" 159 "the epoch is 5") ∈ lw_tbl := fs_b3 (List.mem_of_getElem? (i := 189) rfl)
theorem tb_3_214 : (Cond.stringRef "FlowShelf" 167 "no template is in force, or there are 30 reports") ∈ lw_tbl := fs_b3 (List.mem_of_getElem? (i := 214) rfl)
theorem tb_3_235 : (Cond.superclass "FlowShelf$Report" "java/lang/Object") ∈ lw_tbl := fs_b3 (List.mem_of_getElem? (i := 235) rfl)
theorem tb_4_20 : (Cond.stringRef "FlowShelf" 186 "no flow is ended, or no place is left") ∈ lw_tbl := fs_b4 (List.mem_of_getElem? (i := 20) rfl)
theorem tb_4_56 : (Cond.stringRef "FlowShelf" 195 "there are 30 reports") ∈ lw_tbl := fs_b4 (List.mem_of_getElem? (i := 56) rfl)
theorem tb_4_76 : (Cond.stringRef "FlowShelf" 310 "no such report") ∈ lw_tbl := fs_b4 (List.mem_of_getElem? (i := 76) rfl)
theorem tb_4_77 : (Cond.stringRef "FlowShelf" 312 "no such byte") ∈ lw_tbl := fs_b4 (List.mem_of_getElem? (i := 77) rfl)
theorem tb_4_85 : (Cond.stringRef "FlowShelf" 214 "v is not 0 .. 255") ∈ lw_tbl := fs_b4 (List.mem_of_getElem? (i := 85) rfl)
theorem tb_4_102 : (Cond.methodLinkNest "FlowShelf$Report" 33 ⟨"FlowShelf", "isExporter", "(I)Z"⟩ "FlowShelf") ∈ lw_tbl := fs_b4 (List.mem_of_getElem? (i := 102) rfl)
theorem tb_4_147 : (Cond.stringRef "FlowShelf" 223 "the report is bad") ∈ lw_tbl := fs_b4 (List.mem_of_getElem? (i := 147) rfl)
theorem tb_4_166 : (Cond.castable "java/lang/UnsupportedOperationException" "java/lang/UnsupportedOperationException") ∈ lw_tbl := fs_b4 (List.mem_of_getElem? (i := 166) rfl)
theorem tb_4_173 : (Cond.stringRef "FlowShelf$Collector" 61 "20 templates are known") ∈ lw_tbl := fs_b4 (List.mem_of_getElem? (i := 173) rfl)
theorem tb_4_179 : (Cond.superclass "java/lang/UnsupportedOperationException" "java/lang/RuntimeException") ∈ lw_tbl := fs_b4 (List.mem_of_getElem? (i := 179) rfl)
theorem tb_4_194 : (Cond.stringRef "FlowShelf$Collector" 135 "there would be more than 80 rows") ∈ lw_tbl := fs_b4 (List.mem_of_getElem? (i := 194) rfl)
theorem tb_4_202 : (Cond.sameMethod "[I" "java/lang/Object" "clone" "()Ljava/lang/Object;") ∈ lw_tbl := fs_b4 (List.mem_of_getElem? (i := 202) rfl)
theorem tb_4_206 : (Cond.castable "[I" "java/lang/Cloneable") ∈ lw_tbl := fs_b4 (List.mem_of_getElem? (i := 206) rfl)
theorem tb_4_238 : (Cond.superclass "FlowShelf$Cursor" "java/lang/Object") ∈ lw_tbl := fs_b4 (List.mem_of_getElem? (i := 238) rfl)
theorem tb_5_39 : (Cond.superclass "FlowShelf$Row" "java/lang/Object") ∈ lw_tbl := fs_b5 (List.mem_of_getElem? (i := 39) rfl)
theorem tb_5_72 : (Cond.stringRef "FlowShelf$Collector" 125 "the records can't be read by their template") ∈ lw_tbl := fs_b5 (List.mem_of_getElem? (i := 72) rfl)
theorem tb_5_100 : (Cond.stringRef "FlowShelf" 306 "no such row") ∈ lw_tbl := fs_b5 (List.mem_of_getElem? (i := 100) rfl)
theorem tb_5_101 : (Cond.stringRef "FlowShelf" 259 "f is not 0 .. 8") ∈ lw_tbl := fs_b5 (List.mem_of_getElem? (i := 101) rfl)
theorem tb_5_185 : (Cond.stringRef "FlowShelf" 302 "no such number") ∈ lw_tbl := fs_b5 (List.mem_of_getElem? (i := 185) rfl)
theorem tb_6_102 : (Cond.superclass "FlowShelfModel" "java/lang/Object") ∈ lw_tbl := fs_b6 (List.mem_of_getElem? (i := 102) rfl)
theorem tb_7_80 : (Cond.sameMethod "java/lang/Throwable" "java/lang/Throwable" "fillInStackTrace" "(I)Ljava/lang/Throwable;") ∈ lw_tbl := fs_b7 (List.mem_of_getElem? (i := 80) rfl)
theorem tb_7_81 : (Cond.castable "FlowShelf$Report" "FlowShelf$Report") ∈ lw_tbl := fs_b7 (List.mem_of_getElem? (i := 81) rfl)
theorem tb_7_82 : (Cond.castable "FlowShelf$Flow" "FlowShelf$Flow") ∈ lw_tbl := fs_b7 (List.mem_of_getElem? (i := 82) rfl)
theorem tb_7_83 : (Cond.castable "FlowShelf$Row" "FlowShelf$Row") ∈ lw_tbl := fs_b7 (List.mem_of_getElem? (i := 83) rfl)
theorem tb_7_84 : (Cond.sameMethod "[Ljava/lang/Object;" "java/lang/Object" "getClass" "()Ljava/lang/Class;") ∈ lw_tbl := fs_b7 (List.mem_of_getElem? (i := 84) rfl)
theorem tb_7_86 : (Cond.declares ⟨"java/lang/Object", "getClass", "()Ljava/lang/Class;"⟩) ∈ lw_tbl := fs_b7 (List.mem_of_getElem? (i := 86) rfl)
theorem tb_7_87 : (Cond.castable "FlowShelf" "java/lang/Object") ∈ lw_tbl := fs_b7 (List.mem_of_getElem? (i := 87) rfl)
theorem tb_7_88 : (Cond.castable "FlowShelf$Exporter" "java/lang/Object") ∈ lw_tbl := fs_b7 (List.mem_of_getElem? (i := 88) rfl)
theorem tb_7_89 : (Cond.castable "FlowShelf$Slot" "java/lang/Object") ∈ lw_tbl := fs_b7 (List.mem_of_getElem? (i := 89) rfl)
theorem tb_7_90 : (Cond.castable "FlowShelf$Layout" "java/lang/Object") ∈ lw_tbl := fs_b7 (List.mem_of_getElem? (i := 90) rfl)
theorem tb_7_91 : (Cond.castable "FlowShelf$Collector" "java/lang/Object") ∈ lw_tbl := fs_b7 (List.mem_of_getElem? (i := 91) rfl)
theorem tb_7_92 : (Cond.castable "FlowShelf$Table" "java/lang/Object") ∈ lw_tbl := fs_b7 (List.mem_of_getElem? (i := 92) rfl)
theorem tb_7_93 : (Cond.castable "FlowShelf$Ledger" "java/lang/Object") ∈ lw_tbl := fs_b7 (List.mem_of_getElem? (i := 93) rfl)
theorem tb_7_94 : (Cond.castable "FlowShelfModel" "java/lang/Object") ∈ lw_tbl := fs_b7 (List.mem_of_getElem? (i := 94) rfl)
theorem tb_7_95 : (Cond.castable "FlowShelf$Flow" "java/lang/Object") ∈ lw_tbl := fs_b7 (List.mem_of_getElem? (i := 95) rfl)
theorem tb_7_96 : (Cond.castable "FlowShelf$Report" "java/lang/Object") ∈ lw_tbl := fs_b7 (List.mem_of_getElem? (i := 96) rfl)
theorem tb_7_97 : (Cond.castable "FlowShelf$Cursor" "java/lang/Object") ∈ lw_tbl := fs_b7 (List.mem_of_getElem? (i := 97) rfl)
theorem tb_7_98 : (Cond.castable "FlowShelf$Row" "java/lang/Object") ∈ lw_tbl := fs_b7 (List.mem_of_getElem? (i := 98) rfl)
theorem tb_7_99 : (Cond.castable "java/lang/String" "java/lang/Object") ∈ lw_tbl := fs_b7 (List.mem_of_getElem? (i := 99) rfl)
