section RNP
theorem aw_2 : (Jvm.Cond.initialized "java/util/AbstractCollection") ∈ rn_ALL := rn_in (i := 65) (by decide +kernel) (by decide +kernel)
theorem aw_3 : (Jvm.Cond.initialized "java/util/AbstractList") ∈ rn_ALL := rn_in (i := 66) (by decide +kernel) (by decide +kernel)
theorem aw_178 : (Jvm.Cond.classLink "PowerwellLaw" (73 : Nat) "java/lang/IndexOutOfBoundsException") ∈ rn_ALL := rn_in (i := 241) (by decide +kernel) (by decide +kernel)
theorem aw_258 : (Jvm.Cond.classLink "PowerwellLaw" (76 : Nat) "java/lang/IllegalArgumentException") ∈ rn_ALL := rn_in (i := 321) (by decide +kernel) (by decide +kernel)
theorem aw_259 : (Jvm.Cond.classLink "PowerwellLaw" (79 : Nat) "java/lang/IllegalStateException") ∈ rn_ALL := rn_in (i := 322) (by decide +kernel) (by decide +kernel)
theorem aw_260 : (Jvm.Cond.classLink "PowerwellLaw" (82 : Nat) "java/lang/UnsupportedOperationException") ∈ rn_ALL := rn_in (i := 323) (by decide +kernel) (by decide +kernel)
theorem aw_261 : (Jvm.Cond.classLink "PowerwellLaw" (85 : Nat) "java/util/NoSuchElementException") ∈ rn_ALL := rn_in (i := 324) (by decide +kernel) (by decide +kernel)
theorem aw_1282 : (Jvm.Cond.classLink "PowerwellLaw" (153 : Nat) "java/lang/ArithmeticException") ∈ rn_ALL := rn_in (i := 1345) (by decide +kernel) (by decide +kernel)
theorem aw_objinit : Cond.code objectInit ⟨#[0xb1]⟩ 1 none ∈ rn_ALL := rn_in (i := 105) (by decide +kernel) (by decide +kernel)
theorem aw_mathmin : Cond.code Lib.Math.min.name Lib.Math.min.code 2 (some .int) ∈ rn_ALL := rn_in (i := 476) (by decide +kernel) (by decide +kernel)
theorem aw_mathmax : Cond.code Lib.Math.max.name Lib.Math.max.code 2 (some .int) ∈ rn_ALL := rn_in (i := 438) (by decide +kernel) (by decide +kernel)
theorem aw_0 : (Jvm.Cond.initialized "PowerwellLaw") ∈ rn_ALL := rn_in (i := 63) (by decide +kernel) (by decide +kernel)
theorem aw_1 : (Jvm.Cond.initialized "Powerwell") ∈ rn_ALL := rn_in (i := 64) (by decide +kernel) (by decide +kernel)
theorem aw_4 : (Jvm.Cond.initialized "java/util/ArrayList") ∈ rn_ALL := rn_in (i := 67) (by decide +kernel) (by decide +kernel)
theorem aw_10 : (Jvm.Cond.initialized "java/util/Objects") ∈ rn_ALL := rn_in (i := 73) (by decide +kernel) (by decide +kernel)
theorem aw_11 : (Jvm.Cond.initialized "jdk/internal/util/Preconditions") ∈ rn_ALL := rn_in (i := 74) (by decide +kernel) (by decide +kernel)
theorem aw_16 : (Jvm.Cond.initialized "Powerwell$Rail") ∈ rn_ALL := rn_in (i := 79) (by decide +kernel) (by decide +kernel)
theorem aw_18 : (Jvm.Cond.initialized "java/lang/Math") ∈ rn_ALL := rn_in (i := 81) (by decide +kernel) (by decide +kernel)
theorem aw_20 : (Jvm.Cond.initialized "java/lang/System") ∈ rn_ALL := rn_in (i := 83) (by decide +kernel) (by decide +kernel)
theorem aw_21 : (Jvm.Cond.initialized "Powerwell$Pair") ∈ rn_ALL := rn_in (i := 84) (by decide +kernel) (by decide +kernel)
theorem aw_22 : (Jvm.Cond.initialized "Powerwell$Domain") ∈ rn_ALL := rn_in (i := 85) (by decide +kernel) (by decide +kernel)
theorem aw_23 : (Jvm.Cond.initialized "Powerwell$Device") ∈ rn_ALL := rn_in (i := 86) (by decide +kernel) (by decide +kernel)
theorem aw_24 : (Jvm.Cond.initialized "Powerwell$Idleness") ∈ rn_ALL := rn_in (i := 87) (by decide +kernel) (by decide +kernel)
theorem aw_32 : (Jvm.Cond.initialized "Powerwell$Depth") ∈ rn_ALL := rn_in (i := 95) (by decide +kernel) (by decide +kernel)
theorem aw_33 : (Jvm.Cond.initialized "Powerwell$Source") ∈ rn_ALL := rn_in (i := 96) (by decide +kernel) (by decide +kernel)
theorem aw_35 : (Jvm.Cond.classLink "PowerwellLaw" (8 : Nat) "Powerwell") ∈ rn_ALL := rn_in (i := 98) (by decide +kernel) (by decide +kernel)
theorem aw_36 : (Jvm.Cond.instantiable "Powerwell" (10 : Nat)) ∈ rn_ALL := rn_in (i := 99) (by decide +kernel) (by decide +kernel)
theorem aw_37 : (Jvm.Cond.methodLink "PowerwellLaw" (155 : Nat) ({ cls := "Powerwell", name := "<init>", desc := "()V" } : Jvm.MethodName)) ∈ rn_ALL := rn_in (i := 100) (by decide +kernel) (by decide +kernel)
theorem aw_38 : (Jvm.Cond.instanceMethod ({ cls := "Powerwell", name := "<init>", desc := "()V" } : Jvm.MethodName)) ∈ rn_ALL := rn_in (i := 101) (by decide +kernel) (by decide +kernel)
theorem aw_39 : (Jvm.Cond.code ({ cls := "Powerwell", name := "<init>", desc := "()V" } : Jvm.MethodName) prog_1_method_1_code (1 : Nat) (Option.none : Option Jvm.ClassFile.FieldType)) ∈ rn_ALL := rn_in (i := 102) (by decide +kernel) (by decide +kernel)
theorem aw_40 : (Jvm.Cond.methodLink "Powerwell" (1 : Nat) ({ cls := "java/lang/Object", name := "<init>", desc := "()V" } : Jvm.MethodName)) ∈ rn_ALL := rn_in (i := 103) (by decide +kernel) (by decide +kernel)
theorem aw_41 : (Jvm.Cond.instanceMethod ({ cls := "java/lang/Object", name := "<init>", desc := "()V" } : Jvm.MethodName)) ∈ rn_ALL := rn_in (i := 104) (by decide +kernel) (by decide +kernel)
theorem aw_43 : (Jvm.Cond.classLink "Powerwell" (7 : Nat) "java/util/ArrayList") ∈ rn_ALL := rn_in (i := 106) (by decide +kernel) (by decide +kernel)
theorem aw_44 : (Jvm.Cond.instantiable "java/util/ArrayList" (3 : Nat)) ∈ rn_ALL := rn_in (i := 107) (by decide +kernel) (by decide +kernel)
theorem aw_45 : (Jvm.Cond.methodLink "Powerwell" (9 : Nat) ({ cls := "java/util/ArrayList", name := "<init>", desc := "()V" } : Jvm.MethodName)) ∈ rn_ALL := rn_in (i := 108) (by decide +kernel) (by decide +kernel)
theorem aw_46 : (Jvm.Cond.instanceMethod ({ cls := "java/util/ArrayList", name := "<init>", desc := "()V" } : Jvm.MethodName)) ∈ rn_ALL := rn_in (i := 109) (by decide +kernel) (by decide +kernel)
theorem aw_47 : (Jvm.Cond.code ({ cls := "java/util/ArrayList", name := "<init>", desc := "()V" } : Jvm.MethodName) prog_42_method_2_code (1 : Nat) (Option.none : Option Jvm.ClassFile.FieldType)) ∈ rn_ALL := rn_in (i := 110) (by decide +kernel) (by decide +kernel)
theorem aw_48 : (Jvm.Cond.methodLink "java/util/ArrayList" (1 : Nat) ({ cls := "java/util/AbstractList", name := "<init>", desc := "()V" } : Jvm.MethodName)) ∈ rn_ALL := rn_in (i := 111) (by decide +kernel) (by decide +kernel)
theorem aw_49 : (Jvm.Cond.instanceMethod ({ cls := "java/util/AbstractList", name := "<init>", desc := "()V" } : Jvm.MethodName)) ∈ rn_ALL := rn_in (i := 112) (by decide +kernel) (by decide +kernel)
theorem aw_50 : (Jvm.Cond.code ({ cls := "java/util/AbstractList", name := "<init>", desc := "()V" } : Jvm.MethodName) prog_41_method_1_code (1 : Nat) (Option.none : Option Jvm.ClassFile.FieldType)) ∈ rn_ALL := rn_in (i := 113) (by decide +kernel) (by decide +kernel)
theorem aw_51 : (Jvm.Cond.methodLink "java/util/AbstractList" (1 : Nat) ({ cls := "java/util/AbstractCollection", name := "<init>", desc := "()V" } : Jvm.MethodName)) ∈ rn_ALL := rn_in (i := 114) (by decide +kernel) (by decide +kernel)
theorem aw_52 : (Jvm.Cond.instanceMethod ({ cls := "java/util/AbstractCollection", name := "<init>", desc := "()V" } : Jvm.MethodName)) ∈ rn_ALL := rn_in (i := 115) (by decide +kernel) (by decide +kernel)
theorem aw_53 : (Jvm.Cond.code ({ cls := "java/util/AbstractCollection", name := "<init>", desc := "()V" } : Jvm.MethodName) prog_40_method_1_code (1 : Nat) (Option.none : Option Jvm.ClassFile.FieldType)) ∈ rn_ALL := rn_in (i := 116) (by decide +kernel) (by decide +kernel)
theorem aw_54 : (Jvm.Cond.methodLink "java/util/AbstractCollection" (1 : Nat) ({ cls := "java/lang/Object", name := "<init>", desc := "()V" } : Jvm.MethodName)) ∈ rn_ALL := rn_in (i := 117) (by decide +kernel) (by decide +kernel)
theorem aw_55 : (Jvm.Cond.fieldLink "java/util/ArrayList" (39 : Nat) "java/util/ArrayList" "DEFAULTCAPACITY_EMPTY_ELEMENTDATA" "[Ljava/lang/Object;") ∈ rn_ALL := rn_in (i := 118) (by decide +kernel) (by decide +kernel)
theorem aw_57 : (Jvm.Cond.fieldLink "java/util/ArrayList" (9 : Nat) "java/util/ArrayList" "elementData" "[Ljava/lang/Object;") ∈ rn_ALL := rn_in (i := 120) (by decide +kernel) (by decide +kernel)
theorem aw_58 : (Jvm.Cond.fieldLink "java/util/ArrayList" (48 : Nat) "java/util/ArrayList" "size" "I") ∈ rn_ALL := rn_in (i := 121) (by decide +kernel) (by decide +kernel)
theorem aw_59 : (Jvm.Cond.fieldLink "java/util/AbstractList" (7 : Nat) "java/util/AbstractList" "modCount" "I") ∈ rn_ALL := rn_in (i := 122) (by decide +kernel) (by decide +kernel)
theorem aw_60 : (Jvm.Cond.fieldLink "java/util/ArrayList" (63 : Nat) "java/util/ArrayList" "modCount" "I") ∈ rn_ALL := rn_in (i := 123) (by decide +kernel) (by decide +kernel)
theorem aw_61 : (Jvm.Cond.sameField "java/util/ArrayList" "java/util/AbstractList" "modCount" "I") ∈ rn_ALL := rn_in (i := 124) (by decide +kernel) (by decide +kernel)
theorem aw_69 : (Jvm.Cond.fieldLink "Powerwell" (10 : Nat) "Powerwell" "rails" "Ljava/util/ArrayList;") ∈ rn_ALL := rn_in (i := 132) (by decide +kernel) (by decide +kernel)
theorem aw_70 : (Jvm.Cond.fieldLink "Powerwell" (16 : Nat) "Powerwell" "domains" "Ljava/util/ArrayList;") ∈ rn_ALL := rn_in (i := 133) (by decide +kernel) (by decide +kernel)
theorem aw_71 : (Jvm.Cond.fieldLink "Powerwell" (19 : Nat) "Powerwell" "devices" "Ljava/util/ArrayList;") ∈ rn_ALL := rn_in (i := 134) (by decide +kernel) (by decide +kernel)
theorem aw_72 : (Jvm.Cond.fieldLink "Powerwell" (22 : Nat) "Powerwell" "depths" "Ljava/util/ArrayList;") ∈ rn_ALL := rn_in (i := 135) (by decide +kernel) (by decide +kernel)
theorem aw_73 : (Jvm.Cond.fieldLink "Powerwell" (25 : Nat) "Powerwell" "sources" "Ljava/util/ArrayList;") ∈ rn_ALL := rn_in (i := 136) (by decide +kernel) (by decide +kernel)
theorem aw_74 : (Jvm.Cond.fieldLink "Powerwell" (28 : Nat) "Powerwell" "userClaims" "[J") ∈ rn_ALL := rn_in (i := 137) (by decide +kernel) (by decide +kernel)
theorem aw_75 : (Jvm.Cond.fieldLink "Powerwell" (253 : Nat) "Powerwell" "houseClaim" "J") ∈ rn_ALL := rn_in (i := 138) (by decide +kernel) (by decide +kernel)
theorem aw_76 : (Jvm.Cond.fieldLink "Powerwell" (250 : Nat) "Powerwell" "time" "I") ∈ rn_ALL := rn_in (i := 139) (by decide +kernel) (by decide +kernel)
theorem aw_77 : (Jvm.Cond.fieldLink "Powerwell" (281 : Nat) "Powerwell" "isAsleep" "Z") ∈ rn_ALL := rn_in (i := 140) (by decide +kernel) (by decide +kernel)
theorem aw_78 : (Jvm.Cond.fieldLink "Powerwell" (32 : Nat) "Powerwell" "lastCause" "I") ∈ rn_ALL := rn_in (i := 141) (by decide +kernel) (by decide +kernel)
theorem aw_100 : (Jvm.Cond.arrayClass Jvm.ClassFile.FieldType.long) ∈ rn_ALL := rn_in (i := 163) (by decide +kernel) (by decide +kernel)
theorem aw_101 : (Jvm.Cond.methodLink "PowerwellLaw" (160 : Nat) ({ cls := "Powerwell", name := "sleeps", desc := "()Z" } : Jvm.MethodName)) ∈ rn_ALL := rn_in (i := 164) (by decide +kernel) (by decide +kernel)
theorem aw_102 : (Jvm.Cond.instanceMethod ({ cls := "Powerwell", name := "sleeps", desc := "()Z" } : Jvm.MethodName)) ∈ rn_ALL := rn_in (i := 165) (by decide +kernel) (by decide +kernel)
theorem aw_103 : (Jvm.Cond.selects "Powerwell" ({ cls := "Powerwell", name := "sleeps", desc := "()Z" } : Jvm.MethodName) ({ cls := "Powerwell", name := "sleeps", desc := "()Z" } : Jvm.MethodName)) ∈ rn_ALL := rn_in (i := 166) (by decide +kernel) (by decide +kernel)
theorem aw_104 : (Jvm.Cond.code ({ cls := "Powerwell", name := "sleeps", desc := "()Z" } : Jvm.MethodName) prog_1_method_36_code (1 : Nat) (Option.some Jvm.ClassFile.FieldType.boolean)) ∈ rn_ALL := rn_in (i := 167) (by decide +kernel) (by decide +kernel)
theorem aw_105 : (Jvm.Cond.methodLink "PowerwellLaw" (164 : Nat) ({ cls := "Powerwell", name := "checksum", desc := "()J" } : Jvm.MethodName)) ∈ rn_ALL := rn_in (i := 168) (by decide +kernel) (by decide +kernel)
theorem aw_106 : (Jvm.Cond.instanceMethod ({ cls := "Powerwell", name := "checksum", desc := "()J" } : Jvm.MethodName)) ∈ rn_ALL := rn_in (i := 169) (by decide +kernel) (by decide +kernel)
theorem aw_107 : (Jvm.Cond.selects "Powerwell" ({ cls := "Powerwell", name := "checksum", desc := "()J" } : Jvm.MethodName) ({ cls := "Powerwell", name := "checksum", desc := "()J" } : Jvm.MethodName)) ∈ rn_ALL := rn_in (i := 170) (by decide +kernel) (by decide +kernel)
theorem aw_108 : (Jvm.Cond.code ({ cls := "Powerwell", name := "checksum", desc := "()J" } : Jvm.MethodName) prog_1_method_40_code (5 : Nat) (Option.some Jvm.ClassFile.FieldType.long)) ∈ rn_ALL := rn_in (i := 171) (by decide +kernel) (by decide +kernel)
theorem aw_109 : (Jvm.Cond.constantLong "Powerwell" (301 : Nat) (7 : Int64)) ∈ rn_ALL := rn_in (i := 172) (by decide +kernel) (by decide +kernel)
theorem aw_110 : (Jvm.Cond.methodLink "Powerwell" (49 : Nat) ({ cls := "java/util/ArrayList", name := "size", desc := "()I" } : Jvm.MethodName)) ∈ rn_ALL := rn_in (i := 173) (by decide +kernel) (by decide +kernel)
theorem aw_111 : (Jvm.Cond.instanceMethod ({ cls := "java/util/ArrayList", name := "size", desc := "()I" } : Jvm.MethodName)) ∈ rn_ALL := rn_in (i := 174) (by decide +kernel) (by decide +kernel)
theorem aw_112 : (Jvm.Cond.selects "java/util/ArrayList" ({ cls := "java/util/ArrayList", name := "size", desc := "()I" } : Jvm.MethodName) ({ cls := "java/util/ArrayList", name := "size", desc := "()I" } : Jvm.MethodName)) ∈ rn_ALL := rn_in (i := 175) (by decide +kernel) (by decide +kernel)
theorem aw_113 : (Jvm.Cond.code ({ cls := "java/util/ArrayList", name := "size", desc := "()I" } : Jvm.MethodName) prog_42_method_8_code (1 : Nat) (Option.some Jvm.ClassFile.FieldType.int)) ∈ rn_ALL := rn_in (i := 176) (by decide +kernel) (by decide +kernel)
theorem aw_114 : (Jvm.Cond.constantLong "Powerwell" (303 : Nat) (31 : Int64)) ∈ rn_ALL := rn_in (i := 177) (by decide +kernel) (by decide +kernel)
theorem aw_115 : (Jvm.Cond.methodLink "Powerwell" (211 : Nat) ({ cls := "java/util/ArrayList", name := "get", desc := "(I)Ljava/lang/Object;" } : Jvm.MethodName)) ∈ rn_ALL := rn_in (i := 178) (by decide +kernel) (by decide +kernel)
theorem aw_116 : (Jvm.Cond.instanceMethod ({ cls := "java/util/ArrayList", name := "get", desc := "(I)Ljava/lang/Object;" } : Jvm.MethodName)) ∈ rn_ALL := rn_in (i := 179) (by decide +kernel) (by decide +kernel)
theorem aw_117 : (Jvm.Cond.selects "java/util/ArrayList" ({ cls := "java/util/ArrayList", name := "get", desc := "(I)Ljava/lang/Object;" } : Jvm.MethodName) ({ cls := "java/util/ArrayList", name := "get", desc := "(I)Ljava/lang/Object;" } : Jvm.MethodName)) ∈ rn_ALL := rn_in (i := 180) (by decide +kernel) (by decide +kernel)
theorem aw_118 : (Jvm.Cond.code ({ cls := "java/util/ArrayList", name := "get", desc := "(I)Ljava/lang/Object;" } : Jvm.MethodName) prog_42_method_20_code (2 : Nat) (Option.some (Jvm.ClassFile.FieldType.object "java/lang/Object"))) ∈ rn_ALL := rn_in (i := 181) (by decide +kernel) (by decide +kernel)
theorem aw_119 : (Jvm.Cond.methodLink "java/util/ArrayList" (118 : Nat) ({ cls := "java/util/Objects", name := "checkIndex", desc := "(II)I" } : Jvm.MethodName)) ∈ rn_ALL := rn_in (i := 182) (by decide +kernel) (by decide +kernel)
theorem aw_120 : (Jvm.Cond.static ({ cls := "java/util/Objects", name := "checkIndex", desc := "(II)I" } : Jvm.MethodName)) ∈ rn_ALL := rn_in (i := 183) (by decide +kernel) (by decide +kernel)
theorem aw_121 : (Jvm.Cond.code ({ cls := "java/util/Objects", name := "checkIndex", desc := "(II)I" } : Jvm.MethodName) prog_47_method_17_code (2 : Nat) (Option.some Jvm.ClassFile.FieldType.int)) ∈ rn_ALL := rn_in (i := 184) (by decide +kernel) (by decide +kernel)
theorem aw_122 : (Jvm.Cond.methodLink "java/util/Objects" (105 : Nat) ({ cls := "jdk/internal/util/Preconditions", name := "checkIndex", desc := "(IILjava/util/function/BiFunction;)I" } : Jvm.MethodName)) ∈ rn_ALL := rn_in (i := 185) (by decide +kernel) (by decide +kernel)
theorem aw_123 : (Jvm.Cond.static ({ cls := "jdk/internal/util/Preconditions", name := "checkIndex", desc := "(IILjava/util/function/BiFunction;)I" } : Jvm.MethodName)) ∈ rn_ALL := rn_in (i := 186) (by decide +kernel) (by decide +kernel)
theorem aw_124 : (Jvm.Cond.code ({ cls := "jdk/internal/util/Preconditions", name := "checkIndex", desc := "(IILjava/util/function/BiFunction;)I" } : Jvm.MethodName) prog_51_method_11_code (3 : Nat) (Option.some Jvm.ClassFile.FieldType.int)) ∈ rn_ALL := rn_in (i := 187) (by decide +kernel) (by decide +kernel)
theorem aw_125 : (Jvm.Cond.methodLink "java/util/ArrayList" (123 : Nat) ({ cls := "java/util/ArrayList", name := "elementData", desc := "(I)Ljava/lang/Object;" } : Jvm.MethodName)) ∈ rn_ALL := rn_in (i := 188) (by decide +kernel) (by decide +kernel)
theorem aw_126 : (Jvm.Cond.instanceMethod ({ cls := "java/util/ArrayList", name := "elementData", desc := "(I)Ljava/lang/Object;" } : Jvm.MethodName)) ∈ rn_ALL := rn_in (i := 189) (by decide +kernel) (by decide +kernel)
theorem aw_127 : (Jvm.Cond.selects "java/util/ArrayList" ({ cls := "java/util/ArrayList", name := "elementData", desc := "(I)Ljava/lang/Object;" } : Jvm.MethodName) ({ cls := "java/util/ArrayList", name := "elementData", desc := "(I)Ljava/lang/Object;" } : Jvm.MethodName)) ∈ rn_ALL := rn_in (i := 190) (by decide +kernel) (by decide +kernel)
theorem aw_128 : (Jvm.Cond.code ({ cls := "java/util/ArrayList", name := "elementData", desc := "(I)Ljava/lang/Object;" } : Jvm.MethodName) prog_42_method_18_code (2 : Nat) (Option.some (Jvm.ClassFile.FieldType.object "java/lang/Object"))) ∈ rn_ALL := rn_in (i := 191) (by decide +kernel) (by decide +kernel)
theorem aw_129 : (Jvm.Cond.classLink "Powerwell" (58 : Nat) "Powerwell$Rail") ∈ rn_ALL := rn_in (i := 192) (by decide +kernel) (by decide +kernel)
theorem aw_130 : (Jvm.Cond.classLink "Powerwell" (116 : Nat) "Powerwell$Domain") ∈ rn_ALL := rn_in (i := 193) (by decide +kernel) (by decide +kernel)
theorem aw_133 : (Jvm.Cond.instanceMethod ({ cls := "Powerwell$Domain", name := "isUsed", desc := "()Z" } : Jvm.MethodName)) ∈ rn_ALL := rn_in (i := 196) (by decide +kernel) (by decide +kernel)
theorem aw_134 : (Jvm.Cond.instantiable "Powerwell$Domain" (10 : Nat)) ∈ rn_ALL := rn_in (i := 197) (by decide +kernel) (by decide +kernel)
theorem aw_135 : (Jvm.Cond.code ({ cls := "Powerwell$Domain", name := "isUsed", desc := "()Z" } : Jvm.MethodName) prog_4_method_2_code (1 : Nat) (Option.some Jvm.ClassFile.FieldType.boolean)) ∈ rn_ALL := rn_in (i := 198) (by decide +kernel) (by decide +kernel)
theorem aw_136 : (Jvm.Cond.classLink "Powerwell" (152 : Nat) "Powerwell$Device") ∈ rn_ALL := rn_in (i := 199) (by decide +kernel) (by decide +kernel)
theorem aw_137 : (Jvm.Cond.constantLong "Powerwell" (305 : Nat) (1000 : Int64)) ∈ rn_ALL := rn_in (i := 200) (by decide +kernel) (by decide +kernel)
theorem aw_138 : (Jvm.Cond.methodLink "PowerwellLaw" (170 : Nat) ({ cls := "Powerwell", name := "isTrue", desc := "()Z" } : Jvm.MethodName)) ∈ rn_ALL := rn_in (i := 201) (by decide +kernel) (by decide +kernel)
theorem aw_139 : (Jvm.Cond.instanceMethod ({ cls := "Powerwell", name := "isTrue", desc := "()Z" } : Jvm.MethodName)) ∈ rn_ALL := rn_in (i := 202) (by decide +kernel) (by decide +kernel)
theorem aw_140 : (Jvm.Cond.selects "Powerwell" ({ cls := "Powerwell", name := "isTrue", desc := "()Z" } : Jvm.MethodName) ({ cls := "Powerwell", name := "isTrue", desc := "()Z" } : Jvm.MethodName)) ∈ rn_ALL := rn_in (i := 203) (by decide +kernel) (by decide +kernel)
theorem aw_141 : (Jvm.Cond.code ({ cls := "Powerwell", name := "isTrue", desc := "()Z" } : Jvm.MethodName) prog_1_method_41_code (1 : Nat) (Option.some Jvm.ClassFile.FieldType.boolean)) ∈ rn_ALL := rn_in (i := 204) (by decide +kernel) (by decide +kernel)
theorem aw_142 : (Jvm.Cond.methodLink "Powerwell" (307 : Nat) ({ cls := "Powerwell", name := "areRegistersKept", desc := "()Z" } : Jvm.MethodName)) ∈ rn_ALL := rn_in (i := 205) (by decide +kernel) (by decide +kernel)
theorem aw_144 : (Jvm.Cond.instanceMethod ({ cls := "Powerwell", name := "areRegistersKept", desc := "()Z" } : Jvm.MethodName)) ∈ rn_ALL := rn_in (i := 207) (by decide +kernel) (by decide +kernel)
theorem aw_145 : (Jvm.Cond.code ({ cls := "Powerwell", name := "areRegistersKept", desc := "()Z" } : Jvm.MethodName) prog_1_method_59_code (3 : Nat) (Option.some Jvm.ClassFile.FieldType.boolean)) ∈ rn_ALL := rn_in (i := 208) (by decide +kernel) (by decide +kernel)
theorem aw_146 : (Jvm.Cond.methodLink "Powerwell" (310 : Nat) ({ cls := "Powerwell", name := "areUsedDomainsOn", desc := "()Z" } : Jvm.MethodName)) ∈ rn_ALL := rn_in (i := 209) (by decide +kernel) (by decide +kernel)
theorem aw_148 : (Jvm.Cond.instanceMethod ({ cls := "Powerwell", name := "areUsedDomainsOn", desc := "()Z" } : Jvm.MethodName)) ∈ rn_ALL := rn_in (i := 211) (by decide +kernel) (by decide +kernel)
theorem aw_149 : (Jvm.Cond.code ({ cls := "Powerwell", name := "areUsedDomainsOn", desc := "()Z" } : Jvm.MethodName) prog_1_method_60_code (3 : Nat) (Option.some Jvm.ClassFile.FieldType.boolean)) ∈ rn_ALL := rn_in (i := 212) (by decide +kernel) (by decide +kernel)
theorem aw_152 : (Jvm.Cond.instanceMethod ({ cls := "Powerwell$Domain", name := "isUsedUpward", desc := "()Z" } : Jvm.MethodName)) ∈ rn_ALL := rn_in (i := 215) (by decide +kernel) (by decide +kernel)
theorem aw_153 : (Jvm.Cond.code ({ cls := "Powerwell$Domain", name := "isUsedUpward", desc := "()Z" } : Jvm.MethodName) prog_4_method_3_code (2 : Nat) (Option.some Jvm.ClassFile.FieldType.boolean)) ∈ rn_ALL := rn_in (i := 216) (by decide +kernel) (by decide +kernel)
theorem aw_154 : (Jvm.Cond.methodLink "Powerwell$Domain" (37 : Nat) ({ cls := "Powerwell$Domain", name := "isUsed", desc := "()Z" } : Jvm.MethodName)) ∈ rn_ALL := rn_in (i := 217) (by decide +kernel) (by decide +kernel)
theorem aw_155 : (Jvm.Cond.methodLink "Powerwell" (313 : Nat) ({ cls := "Powerwell", name := "areClaimsAllEnergy", desc := "()Z" } : Jvm.MethodName)) ∈ rn_ALL := rn_in (i := 218) (by decide +kernel) (by decide +kernel)
theorem aw_157 : (Jvm.Cond.instanceMethod ({ cls := "Powerwell", name := "areClaimsAllEnergy", desc := "()Z" } : Jvm.MethodName)) ∈ rn_ALL := rn_in (i := 220) (by decide +kernel) (by decide +kernel)
theorem aw_158 : (Jvm.Cond.code ({ cls := "Powerwell", name := "areClaimsAllEnergy", desc := "()Z" } : Jvm.MethodName) prog_1_method_61_code (4 : Nat) (Option.some Jvm.ClassFile.FieldType.boolean)) ∈ rn_ALL := rn_in (i := 221) (by decide +kernel) (by decide +kernel)
theorem aw_159 : (Jvm.Cond.methodLink "Powerwell" (316 : Nat) ({ cls := "Powerwell", name := "areLevelsBounded", desc := "()Z" } : Jvm.MethodName)) ∈ rn_ALL := rn_in (i := 222) (by decide +kernel) (by decide +kernel)
theorem aw_161 : (Jvm.Cond.instanceMethod ({ cls := "Powerwell", name := "areLevelsBounded", desc := "()Z" } : Jvm.MethodName)) ∈ rn_ALL := rn_in (i := 224) (by decide +kernel) (by decide +kernel)
theorem aw_162 : (Jvm.Cond.code ({ cls := "Powerwell", name := "areLevelsBounded", desc := "()Z" } : Jvm.MethodName) prog_1_method_62_code (3 : Nat) (Option.some Jvm.ClassFile.FieldType.boolean)) ∈ rn_ALL := rn_in (i := 225) (by decide +kernel) (by decide +kernel)
theorem aw_165 : (Jvm.Cond.instanceMethod ({ cls := "Powerwell$Rail", name := "greatestLevel", desc := "()I" } : Jvm.MethodName)) ∈ rn_ALL := rn_in (i := 228) (by decide +kernel) (by decide +kernel)
theorem aw_166 : (Jvm.Cond.instantiable "Powerwell$Rail" (11 : Nat)) ∈ rn_ALL := rn_in (i := 229) (by decide +kernel) (by decide +kernel)
theorem aw_167 : (Jvm.Cond.code ({ cls := "Powerwell$Rail", name := "greatestLevel", desc := "()I" } : Jvm.MethodName) prog_7_method_3_code (1 : Nat) (Option.some Jvm.ClassFile.FieldType.int)) ∈ rn_ALL := rn_in (i := 230) (by decide +kernel) (by decide +kernel)
theorem aw_168 : (Jvm.Cond.methodLink "Powerwell$Rail" (37 : Nat) ({ cls := "java/util/ArrayList", name := "isEmpty", desc := "()Z" } : Jvm.MethodName)) ∈ rn_ALL := rn_in (i := 231) (by decide +kernel) (by decide +kernel)
theorem aw_169 : (Jvm.Cond.instanceMethod ({ cls := "java/util/ArrayList", name := "isEmpty", desc := "()Z" } : Jvm.MethodName)) ∈ rn_ALL := rn_in (i := 232) (by decide +kernel) (by decide +kernel)
theorem aw_170 : (Jvm.Cond.selects "java/util/ArrayList" ({ cls := "java/util/ArrayList", name := "isEmpty", desc := "()Z" } : Jvm.MethodName) ({ cls := "java/util/ArrayList", name := "isEmpty", desc := "()Z" } : Jvm.MethodName)) ∈ rn_ALL := rn_in (i := 233) (by decide +kernel) (by decide +kernel)
theorem aw_171 : (Jvm.Cond.code ({ cls := "java/util/ArrayList", name := "isEmpty", desc := "()Z" } : Jvm.MethodName) prog_42_method_9_code (1 : Nat) (Option.some Jvm.ClassFile.FieldType.boolean)) ∈ rn_ALL := rn_in (i := 234) (by decide +kernel) (by decide +kernel)
theorem aw_172 : (Jvm.Cond.methodLink "Powerwell$Rail" (41 : Nat) ({ cls := "java/util/ArrayList", name := "size", desc := "()I" } : Jvm.MethodName)) ∈ rn_ALL := rn_in (i := 235) (by decide +kernel) (by decide +kernel)
theorem aw_173 : (Jvm.Cond.methodLink "Powerwell$Rail" (45 : Nat) ({ cls := "java/util/ArrayList", name := "get", desc := "(I)Ljava/lang/Object;" } : Jvm.MethodName)) ∈ rn_ALL := rn_in (i := 236) (by decide +kernel) (by decide +kernel)
theorem aw_174 : (Jvm.Cond.classLink "Powerwell$Rail" (49 : Nat) "Powerwell$Pair") ∈ rn_ALL := rn_in (i := 237) (by decide +kernel) (by decide +kernel)
theorem aw_175 : (Jvm.Cond.methodLink "PowerwellLaw" (173 : Nat) ({ cls := "PowerwellLaw", name := "ask", desc := "(LPowerwell;C[I)I" } : Jvm.MethodName)) ∈ rn_ALL := rn_in (i := 238) (by decide +kernel) (by decide +kernel)
theorem aw_176 : (Jvm.Cond.static ({ cls := "PowerwellLaw", name := "ask", desc := "(LPowerwell;C[I)I" } : Jvm.MethodName)) ∈ rn_ALL := rn_in (i := 239) (by decide +kernel) (by decide +kernel)
theorem aw_177 : (Jvm.Cond.codeWith ({ cls := "PowerwellLaw", name := "ask", desc := "(LPowerwell;C[I)I" } : Jvm.MethodName) method_4_code (4 : Nat) (Option.some Jvm.ClassFile.FieldType.int) [((0 : Nat), (243 : Nat), (456 : Nat), (73 : Nat)), ((244 : Nat), (257 : Nat), (456 : Nat), (73 : Nat)), ((258 : Nat), (271 : Nat), (456 : Nat), (73 : Nat)), ((272 : Nat), (279 : Nat), (456 : Nat), (73 : Nat)), ((280 : Nat), (287 : Nat), (456 : Nat), (73 : Nat)), ((288 : Nat), (295 : Nat), (456 : Nat), (73 : Nat)), ((296 : Nat), (318 : Nat), (456 : Nat), (73 : Nat)), ((319 : Nat), (334 : Nat), (456 : Nat), (73 : Nat)), ((335 : Nat), (342 : Nat), (456 : Nat), (73 : Nat)), ((343 : Nat), (353 : Nat), (456 : Nat), (73 : Nat)), ((354 : Nat), (369 : Nat), (456 : Nat), (73 : Nat)), ((370 : Nat), (391 : Nat), (456 : Nat), (73 : Nat)), ((392 : Nat), (405 : Nat), (456 : Nat), (73 : Nat)), ((406 : Nat), (416 : Nat), (456 : Nat), (73 : Nat)), ((417 : Nat), (424 : Nat), (456 : Nat), (73 : Nat)), ((425 : Nat), (432 : Nat), (456 : Nat), (73 : Nat)), ((433 : Nat), (448 : Nat), (456 : Nat), (73 : Nat)), ((449 : Nat), (455 : Nat), (456 : Nat), (73 : Nat)), ((0 : Nat), (243 : Nat), (460 : Nat), (76 : Nat)), ((244 : Nat), (257 : Nat), (460 : Nat), (76 : Nat)), ((258 : Nat), (271 : Nat), (460 : Nat), (76 : Nat)), ((272 : Nat), (279 : Nat), (460 : Nat), (76 : Nat)), ((280 : Nat), (287 : Nat), (460 : Nat), (76 : Nat)), ((288 : Nat), (295 : Nat), (460 : Nat), (76 : Nat)), ((296 : Nat), (318 : Nat), (460 : Nat), (76 : Nat)), ((319 : Nat), (334 : Nat), (460 : Nat), (76 : Nat)), ((335 : Nat), (342 : Nat), (460 : Nat), (76 : Nat)), ((343 : Nat), (353 : Nat), (460 : Nat), (76 : Nat)), ((354 : Nat), (369 : Nat), (460 : Nat), (76 : Nat)), ((370 : Nat), (391 : Nat), (460 : Nat), (76 : Nat)), ((392 : Nat), (405 : Nat), (460 : Nat), (76 : Nat)), ((406 : Nat), (416 : Nat), (460 : Nat), (76 : Nat)), ((417 : Nat), (424 : Nat), (460 : Nat), (76 : Nat)), ((425 : Nat), (432 : Nat), (460 : Nat), (76 : Nat)), ((433 : Nat), (448 : Nat), (460 : Nat), (76 : Nat)), ((449 : Nat), (455 : Nat), (460 : Nat), (76 : Nat)), ((0 : Nat), (243 : Nat), (464 : Nat), (79 : Nat)), ((244 : Nat), (257 : Nat), (464 : Nat), (79 : Nat)), ((258 : Nat), (271 : Nat), (464 : Nat), (79 : Nat)), ((272 : Nat), (279 : Nat), (464 : Nat), (79 : Nat)), ((280 : Nat), (287 : Nat), (464 : Nat), (79 : Nat)), ((288 : Nat), (295 : Nat), (464 : Nat), (79 : Nat)), ((296 : Nat), (318 : Nat), (464 : Nat), (79 : Nat)), ((319 : Nat), (334 : Nat), (464 : Nat), (79 : Nat)), ((335 : Nat), (342 : Nat), (464 : Nat), (79 : Nat)), ((343 : Nat), (353 : Nat), (464 : Nat), (79 : Nat)), ((354 : Nat), (369 : Nat), (464 : Nat), (79 : Nat)), ((370 : Nat), (391 : Nat), (464 : Nat), (79 : Nat)), ((392 : Nat), (405 : Nat), (464 : Nat), (79 : Nat)), ((406 : Nat), (416 : Nat), (464 : Nat), (79 : Nat)), ((417 : Nat), (424 : Nat), (464 : Nat), (79 : Nat)), ((425 : Nat), (432 : Nat), (464 : Nat), (79 : Nat)), ((433 : Nat), (448 : Nat), (464 : Nat), (79 : Nat)), ((449 : Nat), (455 : Nat), (464 : Nat), (79 : Nat)), ((0 : Nat), (243 : Nat), (468 : Nat), (82 : Nat)), ((244 : Nat), (257 : Nat), (468 : Nat), (82 : Nat)), ((258 : Nat), (271 : Nat), (468 : Nat), (82 : Nat)), ((272 : Nat), (279 : Nat), (468 : Nat), (82 : Nat)), ((280 : Nat), (287 : Nat), (468 : Nat), (82 : Nat)), ((288 : Nat), (295 : Nat), (468 : Nat), (82 : Nat)), ((296 : Nat), (318 : Nat), (468 : Nat), (82 : Nat)), ((319 : Nat), (334 : Nat), (468 : Nat), (82 : Nat)), ((335 : Nat), (342 : Nat), (468 : Nat), (82 : Nat)), ((343 : Nat), (353 : Nat), (468 : Nat), (82 : Nat)), ((354 : Nat), (369 : Nat), (468 : Nat), (82 : Nat)), ((370 : Nat), (391 : Nat), (468 : Nat), (82 : Nat)), ((392 : Nat), (405 : Nat), (468 : Nat), (82 : Nat)), ((406 : Nat), (416 : Nat), (468 : Nat), (82 : Nat)), ((417 : Nat), (424 : Nat), (468 : Nat), (82 : Nat)), ((425 : Nat), (432 : Nat), (468 : Nat), (82 : Nat)), ((433 : Nat), (448 : Nat), (468 : Nat), (82 : Nat)), ((449 : Nat), (455 : Nat), (468 : Nat), (82 : Nat)), ((0 : Nat), (243 : Nat), (472 : Nat), (85 : Nat)), ((244 : Nat), (257 : Nat), (472 : Nat), (85 : Nat)), ((258 : Nat), (271 : Nat), (472 : Nat), (85 : Nat)), ((272 : Nat), (279 : Nat), (472 : Nat), (85 : Nat)), ((280 : Nat), (287 : Nat), (472 : Nat), (85 : Nat)), ((288 : Nat), (295 : Nat), (472 : Nat), (85 : Nat)), ((296 : Nat), (318 : Nat), (472 : Nat), (85 : Nat)), ((319 : Nat), (334 : Nat), (472 : Nat), (85 : Nat)), ((335 : Nat), (342 : Nat), (472 : Nat), (85 : Nat)), ((343 : Nat), (353 : Nat), (472 : Nat), (85 : Nat)), ((354 : Nat), (369 : Nat), (472 : Nat), (85 : Nat)), ((370 : Nat), (391 : Nat), (472 : Nat), (85 : Nat)), ((392 : Nat), (405 : Nat), (472 : Nat), (85 : Nat)), ((406 : Nat), (416 : Nat), (472 : Nat), (85 : Nat)), ((417 : Nat), (424 : Nat), (472 : Nat), (85 : Nat)), ((425 : Nat), (432 : Nat), (472 : Nat), (85 : Nat)), ((433 : Nat), (448 : Nat), (472 : Nat), (85 : Nat)), ((449 : Nat), (455 : Nat), (472 : Nat), (85 : Nat))]) ∈ rn_ALL := rn_in (i := 240) (by decide +kernel) (by decide +kernel)
theorem aw_262 : (Jvm.Cond.methodLink "PowerwellLaw" (7 : Nat) ({ cls := "Powerwell", name := "rail", desc := "(IC)I" } : Jvm.MethodName)) ∈ rn_ALL := rn_in (i := 325) (by decide +kernel) (by decide +kernel)
theorem aw_263 : (Jvm.Cond.instanceMethod ({ cls := "Powerwell", name := "rail", desc := "(IC)I" } : Jvm.MethodName)) ∈ rn_ALL := rn_in (i := 326) (by decide +kernel) (by decide +kernel)
theorem aw_264 : (Jvm.Cond.selects "Powerwell" ({ cls := "Powerwell", name := "rail", desc := "(IC)I" } : Jvm.MethodName) ({ cls := "Powerwell", name := "rail", desc := "(IC)I" } : Jvm.MethodName)) ∈ rn_ALL := rn_in (i := 327) (by decide +kernel) (by decide +kernel)
theorem aw_265 : (Jvm.Cond.code ({ cls := "Powerwell", name := "rail", desc := "(IC)I" } : Jvm.MethodName) prog_1_method_2_code (3 : Nat) (Option.some Jvm.ClassFile.FieldType.int)) ∈ rn_ALL := rn_in (i := 328) (by decide +kernel) (by decide +kernel)
theorem aw_282 : (Jvm.Cond.methodLink "Powerwell" (43 : Nat) ({ cls := "Powerwell", name := "isOutside", desc := "(III)Z" } : Jvm.MethodName)) ∈ rn_ALL := rn_in (i := 345) (by decide +kernel) (by decide +kernel)
theorem aw_283 : (Jvm.Cond.static ({ cls := "Powerwell", name := "isOutside", desc := "(III)Z" } : Jvm.MethodName)) ∈ rn_ALL := rn_in (i := 346) (by decide +kernel) (by decide +kernel)
theorem aw_284 : (Jvm.Cond.code ({ cls := "Powerwell", name := "isOutside", desc := "(III)Z" } : Jvm.MethodName) prog_1_method_42_code (3 : Nat) (Option.some Jvm.ClassFile.FieldType.boolean)) ∈ rn_ALL := rn_in (i := 347) (by decide +kernel) (by decide +kernel)
theorem aw_303 : (Jvm.Cond.instanceMethod ({ cls := "Powerwell$Rail", name := "<init>", desc := "(IZ)V" } : Jvm.MethodName)) ∈ rn_ALL := rn_in (i := 366) (by decide +kernel) (by decide +kernel)
theorem aw_304 : (Jvm.Cond.code ({ cls := "Powerwell$Rail", name := "<init>", desc := "(IZ)V" } : Jvm.MethodName) prog_7_method_1_code (3 : Nat) (Option.none : Option Jvm.ClassFile.FieldType)) ∈ rn_ALL := rn_in (i := 367) (by decide +kernel) (by decide +kernel)
theorem aw_305 : (Jvm.Cond.methodLink "Powerwell$Rail" (3 : Nat) ({ cls := "java/lang/Object", name := "<init>", desc := "()V" } : Jvm.MethodName)) ∈ rn_ALL := rn_in (i := 368) (by decide +kernel) (by decide +kernel)
theorem aw_306 : (Jvm.Cond.classLink "Powerwell$Rail" (9 : Nat) "java/util/ArrayList") ∈ rn_ALL := rn_in (i := 369) (by decide +kernel) (by decide +kernel)
theorem aw_307 : (Jvm.Cond.methodLink "Powerwell$Rail" (11 : Nat) ({ cls := "java/util/ArrayList", name := "<init>", desc := "()V" } : Jvm.MethodName)) ∈ rn_ALL := rn_in (i := 370) (by decide +kernel) (by decide +kernel)
theorem aw_308 : (Jvm.Cond.fieldLink "Powerwell$Rail" (29 : Nat) "Powerwell$Rail" "ramp" "I") ∈ rn_ALL := rn_in (i := 371) (by decide +kernel) (by decide +kernel)
theorem aw_309 : (Jvm.Cond.fieldLink "Powerwell$Rail" (33 : Nat) "Powerwell$Rail" "isSum" "Z") ∈ rn_ALL := rn_in (i := 372) (by decide +kernel) (by decide +kernel)
theorem aw_310 : (Jvm.Cond.fieldLink "Powerwell$Rail" (12 : Nat) "Powerwell$Rail" "pairs" "Ljava/util/ArrayList;") ∈ rn_ALL := rn_in (i := 373) (by decide +kernel) (by decide +kernel)
theorem aw_312 : (Jvm.Cond.fieldLink "Powerwell$Rail" (18 : Nat) "Powerwell$Rail" "domains" "Ljava/util/ArrayList;") ∈ rn_ALL := rn_in (i := 375) (by decide +kernel) (by decide +kernel)
theorem aw_314 : (Jvm.Cond.fieldLink "Powerwell$Rail" (21 : Nat) "Powerwell$Rail" "votes" "[I") ∈ rn_ALL := rn_in (i := 377) (by decide +kernel) (by decide +kernel)
theorem aw_316 : (Jvm.Cond.fieldLink "Powerwell$Rail" (25 : Nat) "Powerwell$Rail" "energies" "[J") ∈ rn_ALL := rn_in (i := 379) (by decide +kernel) (by decide +kernel)
theorem aw_319 : (Jvm.Cond.fieldLink "Powerwell$Rail" (100 : Nat) "Powerwell$Rail" "level" "I") ∈ rn_ALL := rn_in (i := 382) (by decide +kernel) (by decide +kernel)
theorem aw_323 : (Jvm.Cond.fieldLink "Powerwell$Rail" (104 : Nat) "Powerwell$Rail" "speed" "I") ∈ rn_ALL := rn_in (i := 386) (by decide +kernel) (by decide +kernel)
theorem aw_324 : (Jvm.Cond.fieldLink "Powerwell$Rail" (75 : Nat) "Powerwell$Rail" "isThrottled" "Z") ∈ rn_ALL := rn_in (i := 387) (by decide +kernel) (by decide +kernel)
theorem aw_326 : (Jvm.Cond.fieldLink "Powerwell$Rail" (69 : Nat) "Powerwell$Rail" "budget" "I") ∈ rn_ALL := rn_in (i := 389) (by decide +kernel) (by decide +kernel)
theorem aw_328 : (Jvm.Cond.fieldLink "Powerwell$Rail" (72 : Nat) "Powerwell$Rail" "window" "I") ∈ rn_ALL := rn_in (i := 391) (by decide +kernel) (by decide +kernel)
theorem aw_353 : (Jvm.Cond.arrayClass Jvm.ClassFile.FieldType.int) ∈ rn_ALL := rn_in (i := 416) (by decide +kernel) (by decide +kernel)
theorem aw_354 : (Jvm.Cond.methodLink "Powerwell" (63 : Nat) ({ cls := "java/util/ArrayList", name := "add", desc := "(Ljava/lang/Object;)Z" } : Jvm.MethodName)) ∈ rn_ALL := rn_in (i := 417) (by decide +kernel) (by decide +kernel)
theorem aw_355 : (Jvm.Cond.instanceMethod ({ cls := "java/util/ArrayList", name := "add", desc := "(Ljava/lang/Object;)Z" } : Jvm.MethodName)) ∈ rn_ALL := rn_in (i := 418) (by decide +kernel) (by decide +kernel)
theorem aw_356 : (Jvm.Cond.selects "java/util/ArrayList" ({ cls := "java/util/ArrayList", name := "add", desc := "(Ljava/lang/Object;)Z" } : Jvm.MethodName) ({ cls := "java/util/ArrayList", name := "add", desc := "(Ljava/lang/Object;)Z" } : Jvm.MethodName)) ∈ rn_ALL := rn_in (i := 419) (by decide +kernel) (by decide +kernel)
theorem aw_357 : (Jvm.Cond.code ({ cls := "java/util/ArrayList", name := "add", desc := "(Ljava/lang/Object;)Z" } : Jvm.MethodName) prog_42_method_25_code (2 : Nat) (Option.some Jvm.ClassFile.FieldType.boolean)) ∈ rn_ALL := rn_in (i := 420) (by decide +kernel) (by decide +kernel)
theorem aw_358 : (Jvm.Cond.methodLink "java/util/ArrayList" (131 : Nat) ({ cls := "java/util/ArrayList", name := "add", desc := "(Ljava/lang/Object;[Ljava/lang/Object;I)V" } : Jvm.MethodName)) ∈ rn_ALL := rn_in (i := 421) (by decide +kernel) (by decide +kernel)
theorem aw_360 : (Jvm.Cond.instanceMethod ({ cls := "java/util/ArrayList", name := "add", desc := "(Ljava/lang/Object;[Ljava/lang/Object;I)V" } : Jvm.MethodName)) ∈ rn_ALL := rn_in (i := 423) (by decide +kernel) (by decide +kernel)
theorem aw_361 : (Jvm.Cond.code ({ cls := "java/util/ArrayList", name := "add", desc := "(Ljava/lang/Object;[Ljava/lang/Object;I)V" } : Jvm.MethodName) prog_42_method_24_code (4 : Nat) (Option.none : Option Jvm.ClassFile.FieldType)) ∈ rn_ALL := rn_in (i := 424) (by decide +kernel) (by decide +kernel)
theorem aw_362 : (Jvm.Cond.methodLink "java/util/ArrayList" (129 : Nat) ({ cls := "java/util/ArrayList", name := "grow", desc := "()[Ljava/lang/Object;" } : Jvm.MethodName)) ∈ rn_ALL := rn_in (i := 425) (by decide +kernel) (by decide +kernel)
theorem aw_364 : (Jvm.Cond.instanceMethod ({ cls := "java/util/ArrayList", name := "grow", desc := "()[Ljava/lang/Object;" } : Jvm.MethodName)) ∈ rn_ALL := rn_in (i := 427) (by decide +kernel) (by decide +kernel)
theorem aw_365 : (Jvm.Cond.code ({ cls := "java/util/ArrayList", name := "grow", desc := "()[Ljava/lang/Object;" } : Jvm.MethodName) prog_42_method_7_code (1 : Nat) (Option.some (Jvm.ClassFile.FieldType.array (Jvm.ClassFile.FieldType.object "java/lang/Object")))) ∈ rn_ALL := rn_in (i := 428) (by decide +kernel) (by decide +kernel)
theorem aw_366 : (Jvm.Cond.methodLink "java/util/ArrayList" (69 : Nat) ({ cls := "java/util/ArrayList", name := "grow", desc := "(I)[Ljava/lang/Object;" } : Jvm.MethodName)) ∈ rn_ALL := rn_in (i := 429) (by decide +kernel) (by decide +kernel)
theorem aw_368 : (Jvm.Cond.instanceMethod ({ cls := "java/util/ArrayList", name := "grow", desc := "(I)[Ljava/lang/Object;" } : Jvm.MethodName)) ∈ rn_ALL := rn_in (i := 431) (by decide +kernel) (by decide +kernel)
theorem aw_369 : (Jvm.Cond.code ({ cls := "java/util/ArrayList", name := "grow", desc := "(I)[Ljava/lang/Object;" } : Jvm.MethodName) prog_42_method_6_code (4 : Nat) (Option.some (Jvm.ClassFile.FieldType.array (Jvm.ClassFile.FieldType.object "java/lang/Object")))) ∈ rn_ALL := rn_in (i := 432) (by decide +kernel) (by decide +kernel)
theorem aw_374 : (Jvm.Cond.static ({ cls := "java/lang/Math", name := "max", desc := "(II)I" } : Jvm.MethodName)) ∈ rn_ALL := rn_in (i := 437) (by decide +kernel) (by decide +kernel)
theorem aw_412 : (Jvm.Cond.static ({ cls := "java/lang/Math", name := "min", desc := "(II)I" } : Jvm.MethodName)) ∈ rn_ALL := rn_in (i := 475) (by decide +kernel) (by decide +kernel)
theorem aw_415 : (Jvm.Cond.static ({ cls := "java/lang/System", name := "arraycopy", desc := "(Ljava/lang/Object;ILjava/lang/Object;II)V" } : Jvm.MethodName)) ∈ rn_ALL := rn_in (i := 478) (by decide +kernel) (by decide +kernel)
theorem aw_416 : (Jvm.Cond.native ({ cls := "java/lang/System", name := "arraycopy", desc := "(Ljava/lang/Object;ILjava/lang/Object;II)V" } : Jvm.MethodName)) ∈ rn_ALL := rn_in (i := 479) (by decide +kernel) (by decide +kernel)
theorem aw_417 : (Jvm.Cond.methodLink "java/util/ArrayList" (79 : Nat) ({ cls := "java/lang/Math", name := "max", desc := "(II)I" } : Jvm.MethodName)) ∈ rn_ALL := rn_in (i := 480) (by decide +kernel) (by decide +kernel)
theorem aw_418 : (Jvm.Cond.classLink "java/util/ArrayList" (7 : Nat) "java/lang/Object") ∈ rn_ALL := rn_in (i := 481) (by decide +kernel) (by decide +kernel)
theorem aw_419 : (Jvm.Cond.methodLink "PowerwellLaw" (13 : Nat) ({ cls := "Powerwell", name := "pair", desc := "(III)I" } : Jvm.MethodName)) ∈ rn_ALL := rn_in (i := 482) (by decide +kernel) (by decide +kernel)
theorem aw_420 : (Jvm.Cond.instanceMethod ({ cls := "Powerwell", name := "pair", desc := "(III)I" } : Jvm.MethodName)) ∈ rn_ALL := rn_in (i := 483) (by decide +kernel) (by decide +kernel)
theorem aw_421 : (Jvm.Cond.selects "Powerwell" ({ cls := "Powerwell", name := "pair", desc := "(III)I" } : Jvm.MethodName) ({ cls := "Powerwell", name := "pair", desc := "(III)I" } : Jvm.MethodName)) ∈ rn_ALL := rn_in (i := 484) (by decide +kernel) (by decide +kernel)
theorem aw_422 : (Jvm.Cond.code ({ cls := "Powerwell", name := "pair", desc := "(III)I" } : Jvm.MethodName) prog_1_method_3_code (5 : Nat) (Option.some Jvm.ClassFile.FieldType.int)) ∈ rn_ALL := rn_in (i := 485) (by decide +kernel) (by decide +kernel)
theorem aw_423 : (Jvm.Cond.methodLink "Powerwell" (67 : Nat) ({ cls := "Powerwell", name := "railAt", desc := "(I)LPowerwell$Rail;" } : Jvm.MethodName)) ∈ rn_ALL := rn_in (i := 486) (by decide +kernel) (by decide +kernel)
theorem aw_425 : (Jvm.Cond.instanceMethod ({ cls := "Powerwell", name := "railAt", desc := "(I)LPowerwell$Rail;" } : Jvm.MethodName)) ∈ rn_ALL := rn_in (i := 488) (by decide +kernel) (by decide +kernel)
theorem aw_426 : (Jvm.Cond.code ({ cls := "Powerwell", name := "railAt", desc := "(I)LPowerwell$Rail;" } : Jvm.MethodName) prog_1_method_44_code (2 : Nat) (Option.some (Jvm.ClassFile.FieldType.object "Powerwell$Rail"))) ∈ rn_ALL := rn_in (i := 489) (by decide +kernel) (by decide +kernel)
theorem aw_443 : (Jvm.Cond.instanceMethod ({ cls := "Powerwell$Rail", name := "isBeyondLastPair", desc := "(II)Z" } : Jvm.MethodName)) ∈ rn_ALL := rn_in (i := 506) (by decide +kernel) (by decide +kernel)
theorem aw_444 : (Jvm.Cond.code ({ cls := "Powerwell$Rail", name := "isBeyondLastPair", desc := "(II)Z" } : Jvm.MethodName) prog_7_method_2_code (4 : Nat) (Option.some Jvm.ClassFile.FieldType.boolean)) ∈ rn_ALL := rn_in (i := 507) (by decide +kernel) (by decide +kernel)
theorem aw_447 : (Jvm.Cond.classLink "Powerwell" (84 : Nat) "Powerwell$Pair") ∈ rn_ALL := rn_in (i := 510) (by decide +kernel) (by decide +kernel)
theorem aw_448 : (Jvm.Cond.instantiable "Powerwell$Pair" (2 : Nat)) ∈ rn_ALL := rn_in (i := 511) (by decide +kernel) (by decide +kernel)
theorem aw_450 : (Jvm.Cond.instanceMethod ({ cls := "Powerwell$Pair", name := "<init>", desc := "(II)V" } : Jvm.MethodName)) ∈ rn_ALL := rn_in (i := 513) (by decide +kernel) (by decide +kernel)
theorem aw_451 : (Jvm.Cond.code ({ cls := "Powerwell$Pair", name := "<init>", desc := "(II)V" } : Jvm.MethodName) prog_6_method_1_code (3 : Nat) (Option.none : Option Jvm.ClassFile.FieldType)) ∈ rn_ALL := rn_in (i := 514) (by decide +kernel) (by decide +kernel)
theorem aw_452 : (Jvm.Cond.methodLink "Powerwell$Pair" (1 : Nat) ({ cls := "java/lang/Object", name := "<init>", desc := "()V" } : Jvm.MethodName)) ∈ rn_ALL := rn_in (i := 515) (by decide +kernel) (by decide +kernel)
theorem aw_453 : (Jvm.Cond.fieldLink "Powerwell$Pair" (7 : Nat) "Powerwell$Pair" "speed" "I") ∈ rn_ALL := rn_in (i := 516) (by decide +kernel) (by decide +kernel)
theorem aw_455 : (Jvm.Cond.fieldLink "Powerwell$Pair" (13 : Nat) "Powerwell$Pair" "level" "I") ∈ rn_ALL := rn_in (i := 518) (by decide +kernel) (by decide +kernel)
theorem aw_462 : (Jvm.Cond.methodLink "PowerwellLaw" (17 : Nat) ({ cls := "Powerwell", name := "vote", desc := "(III)I" } : Jvm.MethodName)) ∈ rn_ALL := rn_in (i := 525) (by decide +kernel) (by decide +kernel)
theorem aw_463 : (Jvm.Cond.instanceMethod ({ cls := "Powerwell", name := "vote", desc := "(III)I" } : Jvm.MethodName)) ∈ rn_ALL := rn_in (i := 526) (by decide +kernel) (by decide +kernel)
theorem aw_464 : (Jvm.Cond.selects "Powerwell" ({ cls := "Powerwell", name := "vote", desc := "(III)I" } : Jvm.MethodName) ({ cls := "Powerwell", name := "vote", desc := "(III)I" } : Jvm.MethodName)) ∈ rn_ALL := rn_in (i := 527) (by decide +kernel) (by decide +kernel)
theorem aw_465 : (Jvm.Cond.code ({ cls := "Powerwell", name := "vote", desc := "(III)I" } : Jvm.MethodName) prog_1_method_4_code (5 : Nat) (Option.some Jvm.ClassFile.FieldType.int)) ∈ rn_ALL := rn_in (i := 528) (by decide +kernel) (by decide +kernel)
theorem aw_469 : (Jvm.Cond.instanceMethod ({ cls := "Powerwell$Rail", name := "wish", desc := "()I" } : Jvm.MethodName)) ∈ rn_ALL := rn_in (i := 532) (by decide +kernel) (by decide +kernel)
theorem aw_470 : (Jvm.Cond.code ({ cls := "Powerwell$Rail", name := "wish", desc := "()I" } : Jvm.MethodName) prog_7_method_6_code (1 : Nat) (Option.some Jvm.ClassFile.FieldType.int)) ∈ rn_ALL := rn_in (i := 533) (by decide +kernel) (by decide +kernel)
theorem aw_471 : (Jvm.Cond.methodLink "Powerwell$Rail" (63 : Nat) ({ cls := "Powerwell$Rail", name := "sumOfVotes", desc := "()I" } : Jvm.MethodName)) ∈ rn_ALL := rn_in (i := 534) (by decide +kernel) (by decide +kernel)
theorem aw_473 : (Jvm.Cond.instanceMethod ({ cls := "Powerwell$Rail", name := "sumOfVotes", desc := "()I" } : Jvm.MethodName)) ∈ rn_ALL := rn_in (i := 536) (by decide +kernel) (by decide +kernel)
theorem aw_474 : (Jvm.Cond.code ({ cls := "Powerwell$Rail", name := "sumOfVotes", desc := "()I" } : Jvm.MethodName) prog_7_method_4_code (6 : Nat) (Option.some Jvm.ClassFile.FieldType.int)) ∈ rn_ALL := rn_in (i := 537) (by decide +kernel) (by decide +kernel)
theorem aw_475 : (Jvm.Cond.methodLink "Powerwell$Rail" (66 : Nat) ({ cls := "Powerwell$Rail", name := "greatestVote", desc := "()I" } : Jvm.MethodName)) ∈ rn_ALL := rn_in (i := 538) (by decide +kernel) (by decide +kernel)
theorem aw_477 : (Jvm.Cond.instanceMethod ({ cls := "Powerwell$Rail", name := "greatestVote", desc := "()I" } : Jvm.MethodName)) ∈ rn_ALL := rn_in (i := 540) (by decide +kernel) (by decide +kernel)
theorem aw_478 : (Jvm.Cond.code ({ cls := "Powerwell$Rail", name := "greatestVote", desc := "()I" } : Jvm.MethodName) prog_7_method_5_code (6 : Nat) (Option.some Jvm.ClassFile.FieldType.int)) ∈ rn_ALL := rn_in (i := 541) (by decide +kernel) (by decide +kernel)
theorem aw_479 : (Jvm.Cond.methodLink "Powerwell$Rail" (57 : Nat) ({ cls := "java/lang/Math", name := "max", desc := "(II)I" } : Jvm.MethodName)) ∈ rn_ALL := rn_in (i := 542) (by decide +kernel) (by decide +kernel)
theorem aw_480 : (Jvm.Cond.methodLink "PowerwellLaw" (20 : Nat) ({ cls := "Powerwell", name := "aim", desc := "(I)I" } : Jvm.MethodName)) ∈ rn_ALL := rn_in (i := 543) (by decide +kernel) (by decide +kernel)
theorem aw_481 : (Jvm.Cond.instanceMethod ({ cls := "Powerwell", name := "aim", desc := "(I)I" } : Jvm.MethodName)) ∈ rn_ALL := rn_in (i := 544) (by decide +kernel) (by decide +kernel)
theorem aw_482 : (Jvm.Cond.selects "Powerwell" ({ cls := "Powerwell", name := "aim", desc := "(I)I" } : Jvm.MethodName) ({ cls := "Powerwell", name := "aim", desc := "(I)I" } : Jvm.MethodName)) ∈ rn_ALL := rn_in (i := 545) (by decide +kernel) (by decide +kernel)
theorem aw_483 : (Jvm.Cond.code ({ cls := "Powerwell", name := "aim", desc := "(I)I" } : Jvm.MethodName) prog_1_method_5_code (2 : Nat) (Option.some Jvm.ClassFile.FieldType.int)) ∈ rn_ALL := rn_in (i := 546) (by decide +kernel) (by decide +kernel)
theorem aw_486 : (Jvm.Cond.instanceMethod ({ cls := "Powerwell$Rail", name := "aimedPair", desc := "()I" } : Jvm.MethodName)) ∈ rn_ALL := rn_in (i := 549) (by decide +kernel) (by decide +kernel)
theorem aw_487 : (Jvm.Cond.code ({ cls := "Powerwell$Rail", name := "aimedPair", desc := "()I" } : Jvm.MethodName) prog_7_method_8_code (4 : Nat) (Option.some Jvm.ClassFile.FieldType.int)) ∈ rn_ALL := rn_in (i := 550) (by decide +kernel) (by decide +kernel)
theorem aw_488 : (Jvm.Cond.methodLink "Powerwell$Rail" (78 : Nat) ({ cls := "Powerwell$Rail", name := "isOverBudget", desc := "()Z" } : Jvm.MethodName)) ∈ rn_ALL := rn_in (i := 551) (by decide +kernel) (by decide +kernel)
theorem aw_490 : (Jvm.Cond.instanceMethod ({ cls := "Powerwell$Rail", name := "isOverBudget", desc := "()Z" } : Jvm.MethodName)) ∈ rn_ALL := rn_in (i := 553) (by decide +kernel) (by decide +kernel)
theorem aw_491 : (Jvm.Cond.code ({ cls := "Powerwell$Rail", name := "isOverBudget", desc := "()Z" } : Jvm.MethodName) prog_7_method_7_code (4 : Nat) (Option.some Jvm.ClassFile.FieldType.boolean)) ∈ rn_ALL := rn_in (i := 554) (by decide +kernel) (by decide +kernel)
theorem aw_492 : (Jvm.Cond.methodLink "Powerwell$Rail" (81 : Nat) ({ cls := "java/lang/Math", name := "min", desc := "(II)I" } : Jvm.MethodName)) ∈ rn_ALL := rn_in (i := 555) (by decide +kernel) (by decide +kernel)
theorem aw_493 : (Jvm.Cond.methodLink "Powerwell$Rail" (84 : Nat) ({ cls := "Powerwell$Rail", name := "wish", desc := "()I" } : Jvm.MethodName)) ∈ rn_ALL := rn_in (i := 556) (by decide +kernel) (by decide +kernel)
theorem aw_494 : (Jvm.Cond.methodLink "PowerwellLaw" (24 : Nat) ({ cls := "Powerwell", name := "level", desc := "(I)I" } : Jvm.MethodName)) ∈ rn_ALL := rn_in (i := 557) (by decide +kernel) (by decide +kernel)
theorem aw_495 : (Jvm.Cond.instanceMethod ({ cls := "Powerwell", name := "level", desc := "(I)I" } : Jvm.MethodName)) ∈ rn_ALL := rn_in (i := 558) (by decide +kernel) (by decide +kernel)
theorem aw_496 : (Jvm.Cond.selects "Powerwell" ({ cls := "Powerwell", name := "level", desc := "(I)I" } : Jvm.MethodName) ({ cls := "Powerwell", name := "level", desc := "(I)I" } : Jvm.MethodName)) ∈ rn_ALL := rn_in (i := 559) (by decide +kernel) (by decide +kernel)
theorem aw_497 : (Jvm.Cond.code ({ cls := "Powerwell", name := "level", desc := "(I)I" } : Jvm.MethodName) prog_1_method_6_code (2 : Nat) (Option.some Jvm.ClassFile.FieldType.int)) ∈ rn_ALL := rn_in (i := 560) (by decide +kernel) (by decide +kernel)
theorem aw_498 : (Jvm.Cond.methodLink "PowerwellLaw" (27 : Nat) ({ cls := "Powerwell", name := "speed", desc := "(I)I" } : Jvm.MethodName)) ∈ rn_ALL := rn_in (i := 561) (by decide +kernel) (by decide +kernel)
theorem aw_499 : (Jvm.Cond.instanceMethod ({ cls := "Powerwell", name := "speed", desc := "(I)I" } : Jvm.MethodName)) ∈ rn_ALL := rn_in (i := 562) (by decide +kernel) (by decide +kernel)
theorem aw_500 : (Jvm.Cond.selects "Powerwell" ({ cls := "Powerwell", name := "speed", desc := "(I)I" } : Jvm.MethodName) ({ cls := "Powerwell", name := "speed", desc := "(I)I" } : Jvm.MethodName)) ∈ rn_ALL := rn_in (i := 563) (by decide +kernel) (by decide +kernel)
theorem aw_501 : (Jvm.Cond.code ({ cls := "Powerwell", name := "speed", desc := "(I)I" } : Jvm.MethodName) prog_1_method_7_code (2 : Nat) (Option.some Jvm.ClassFile.FieldType.int)) ∈ rn_ALL := rn_in (i := 564) (by decide +kernel) (by decide +kernel)
theorem aw_502 : (Jvm.Cond.methodLink "PowerwellLaw" (30 : Nat) ({ cls := "Powerwell", name := "domain", desc := "(IIZ)I" } : Jvm.MethodName)) ∈ rn_ALL := rn_in (i := 565) (by decide +kernel) (by decide +kernel)
theorem aw_503 : (Jvm.Cond.instanceMethod ({ cls := "Powerwell", name := "domain", desc := "(IIZ)I" } : Jvm.MethodName)) ∈ rn_ALL := rn_in (i := 566) (by decide +kernel) (by decide +kernel)
theorem aw_504 : (Jvm.Cond.selects "Powerwell" ({ cls := "Powerwell", name := "domain", desc := "(IIZ)I" } : Jvm.MethodName) ({ cls := "Powerwell", name := "domain", desc := "(IIZ)I" } : Jvm.MethodName)) ∈ rn_ALL := rn_in (i := 567) (by decide +kernel) (by decide +kernel)
theorem aw_505 : (Jvm.Cond.code ({ cls := "Powerwell", name := "domain", desc := "(IIZ)I" } : Jvm.MethodName) prog_1_method_8_code (7 : Nat) (Option.some Jvm.ClassFile.FieldType.int)) ∈ rn_ALL := rn_in (i := 568) (by decide +kernel) (by decide +kernel)
theorem aw_506 : (Jvm.Cond.methodLink "Powerwell" (110 : Nat) ({ cls := "Powerwell", name := "domainAt", desc := "(I)LPowerwell$Domain;" } : Jvm.MethodName)) ∈ rn_ALL := rn_in (i := 569) (by decide +kernel) (by decide +kernel)
theorem aw_508 : (Jvm.Cond.instanceMethod ({ cls := "Powerwell", name := "domainAt", desc := "(I)LPowerwell$Domain;" } : Jvm.MethodName)) ∈ rn_ALL := rn_in (i := 571) (by decide +kernel) (by decide +kernel)
theorem aw_509 : (Jvm.Cond.code ({ cls := "Powerwell", name := "domainAt", desc := "(I)LPowerwell$Domain;" } : Jvm.MethodName) prog_1_method_45_code (2 : Nat) (Option.some (Jvm.ClassFile.FieldType.object "Powerwell$Domain"))) ∈ rn_ALL := rn_in (i := 572) (by decide +kernel) (by decide +kernel)
theorem aw_513 : (Jvm.Cond.instanceMethod ({ cls := "Powerwell$Domain", name := "<init>", desc := "(LPowerwell$Domain;LPowerwell$Rail;Z)V" } : Jvm.MethodName)) ∈ rn_ALL := rn_in (i := 576) (by decide +kernel) (by decide +kernel)
theorem aw_514 : (Jvm.Cond.code ({ cls := "Powerwell$Domain", name := "<init>", desc := "(LPowerwell$Domain;LPowerwell$Rail;Z)V" } : Jvm.MethodName) prog_4_method_1_code (4 : Nat) (Option.none : Option Jvm.ClassFile.FieldType)) ∈ rn_ALL := rn_in (i := 577) (by decide +kernel) (by decide +kernel)
theorem aw_515 : (Jvm.Cond.methodLink "Powerwell$Domain" (3 : Nat) ({ cls := "java/lang/Object", name := "<init>", desc := "()V" } : Jvm.MethodName)) ∈ rn_ALL := rn_in (i := 578) (by decide +kernel) (by decide +kernel)
theorem aw_516 : (Jvm.Cond.classLink "Powerwell$Domain" (9 : Nat) "java/util/ArrayList") ∈ rn_ALL := rn_in (i := 579) (by decide +kernel) (by decide +kernel)
theorem aw_517 : (Jvm.Cond.methodLink "Powerwell$Domain" (11 : Nat) ({ cls := "java/util/ArrayList", name := "<init>", desc := "()V" } : Jvm.MethodName)) ∈ rn_ALL := rn_in (i := 580) (by decide +kernel) (by decide +kernel)
theorem aw_518 : (Jvm.Cond.fieldLink "Powerwell$Domain" (22 : Nat) "Powerwell$Domain" "above" "LPowerwell$Domain;") ∈ rn_ALL := rn_in (i := 581) (by decide +kernel) (by decide +kernel)
theorem aw_519 : (Jvm.Cond.fieldLink "Powerwell$Domain" (26 : Nat) "Powerwell$Domain" "rail" "LPowerwell$Rail;") ∈ rn_ALL := rn_in (i := 582) (by decide +kernel) (by decide +kernel)
theorem aw_521 : (Jvm.Cond.fieldLink "Powerwell$Domain" (30 : Nat) "Powerwell$Domain" "isKept" "Z") ∈ rn_ALL := rn_in (i := 584) (by decide +kernel) (by decide +kernel)
theorem aw_522 : (Jvm.Cond.fieldLink "Powerwell$Domain" (12 : Nat) "Powerwell$Domain" "devices" "Ljava/util/ArrayList;") ∈ rn_ALL := rn_in (i := 585) (by decide +kernel) (by decide +kernel)
theorem aw_524 : (Jvm.Cond.fieldLink "Powerwell$Domain" (34 : Nat) "Powerwell$Domain" "uses" "I") ∈ rn_ALL := rn_in (i := 587) (by decide +kernel) (by decide +kernel)
theorem aw_525 : (Jvm.Cond.fieldLink "Powerwell$Domain" (62 : Nat) "Powerwell$Domain" "warmth" "I") ∈ rn_ALL := rn_in (i := 588) (by decide +kernel) (by decide +kernel)
theorem aw_528 : (Jvm.Cond.fieldLink "Powerwell$Domain" (18 : Nat) "Powerwell$Domain" "trip" "I") ∈ rn_ALL := rn_in (i := 591) (by decide +kernel) (by decide +kernel)
theorem aw_531 : (Jvm.Cond.fieldLink "Powerwell$Domain" (71 : Nat) "Powerwell$Domain" "energy" "J") ∈ rn_ALL := rn_in (i := 594) (by decide +kernel) (by decide +kernel)
theorem aw_533 : (Jvm.Cond.fieldLink "Powerwell$Domain" (68 : Nat) "Powerwell$Domain" "gained" "I") ∈ rn_ALL := rn_in (i := 596) (by decide +kernel) (by decide +kernel)
theorem aw_535 : (Jvm.Cond.fieldLink "Powerwell$Domain" (81 : Nat) "Powerwell$Domain" "flow" "I") ∈ rn_ALL := rn_in (i := 598) (by decide +kernel) (by decide +kernel)
theorem aw_557 : (Jvm.Cond.methodLink "PowerwellLaw" (34 : Nat) ({ cls := "Powerwell", name := "isOn", desc := "(I)Z" } : Jvm.MethodName)) ∈ rn_ALL := rn_in (i := 620) (by decide +kernel) (by decide +kernel)
theorem aw_558 : (Jvm.Cond.instanceMethod ({ cls := "Powerwell", name := "isOn", desc := "(I)Z" } : Jvm.MethodName)) ∈ rn_ALL := rn_in (i := 621) (by decide +kernel) (by decide +kernel)
theorem aw_559 : (Jvm.Cond.selects "Powerwell" ({ cls := "Powerwell", name := "isOn", desc := "(I)Z" } : Jvm.MethodName) ({ cls := "Powerwell", name := "isOn", desc := "(I)Z" } : Jvm.MethodName)) ∈ rn_ALL := rn_in (i := 622) (by decide +kernel) (by decide +kernel)
theorem aw_560 : (Jvm.Cond.code ({ cls := "Powerwell", name := "isOn", desc := "(I)Z" } : Jvm.MethodName) prog_1_method_9_code (2 : Nat) (Option.some Jvm.ClassFile.FieldType.boolean)) ∈ rn_ALL := rn_in (i := 623) (by decide +kernel) (by decide +kernel)
theorem aw_561 : (Jvm.Cond.methodLink "PowerwellLaw" (38 : Nat) ({ cls := "Powerwell", name := "warmth", desc := "(I)I" } : Jvm.MethodName)) ∈ rn_ALL := rn_in (i := 624) (by decide +kernel) (by decide +kernel)
theorem aw_562 : (Jvm.Cond.instanceMethod ({ cls := "Powerwell", name := "warmth", desc := "(I)I" } : Jvm.MethodName)) ∈ rn_ALL := rn_in (i := 625) (by decide +kernel) (by decide +kernel)
theorem aw_563 : (Jvm.Cond.selects "Powerwell" ({ cls := "Powerwell", name := "warmth", desc := "(I)I" } : Jvm.MethodName) ({ cls := "Powerwell", name := "warmth", desc := "(I)I" } : Jvm.MethodName)) ∈ rn_ALL := rn_in (i := 626) (by decide +kernel) (by decide +kernel)
theorem aw_564 : (Jvm.Cond.code ({ cls := "Powerwell", name := "warmth", desc := "(I)I" } : Jvm.MethodName) prog_1_method_10_code (2 : Nat) (Option.some Jvm.ClassFile.FieldType.int)) ∈ rn_ALL := rn_in (i := 627) (by decide +kernel) (by decide +kernel)
theorem aw_565 : (Jvm.Cond.methodLink "PowerwellLaw" (41 : Nat) ({ cls := "Powerwell", name := "trip", desc := "(II)I" } : Jvm.MethodName)) ∈ rn_ALL := rn_in (i := 628) (by decide +kernel) (by decide +kernel)
theorem aw_566 : (Jvm.Cond.instanceMethod ({ cls := "Powerwell", name := "trip", desc := "(II)I" } : Jvm.MethodName)) ∈ rn_ALL := rn_in (i := 629) (by decide +kernel) (by decide +kernel)
theorem aw_567 : (Jvm.Cond.selects "Powerwell" ({ cls := "Powerwell", name := "trip", desc := "(II)I" } : Jvm.MethodName) ({ cls := "Powerwell", name := "trip", desc := "(II)I" } : Jvm.MethodName)) ∈ rn_ALL := rn_in (i := 630) (by decide +kernel) (by decide +kernel)
theorem aw_568 : (Jvm.Cond.code ({ cls := "Powerwell", name := "trip", desc := "(II)I" } : Jvm.MethodName) prog_1_method_12_code (5 : Nat) (Option.some Jvm.ClassFile.FieldType.int)) ∈ rn_ALL := rn_in (i := 631) (by decide +kernel) (by decide +kernel)
theorem aw_569 : (Jvm.Cond.methodLink "PowerwellLaw" (45 : Nat) ({ cls := "Powerwell", name := "isThrottled", desc := "(I)Z" } : Jvm.MethodName)) ∈ rn_ALL := rn_in (i := 632) (by decide +kernel) (by decide +kernel)
theorem aw_570 : (Jvm.Cond.instanceMethod ({ cls := "Powerwell", name := "isThrottled", desc := "(I)Z" } : Jvm.MethodName)) ∈ rn_ALL := rn_in (i := 633) (by decide +kernel) (by decide +kernel)
theorem aw_571 : (Jvm.Cond.selects "Powerwell" ({ cls := "Powerwell", name := "isThrottled", desc := "(I)Z" } : Jvm.MethodName) ({ cls := "Powerwell", name := "isThrottled", desc := "(I)Z" } : Jvm.MethodName)) ∈ rn_ALL := rn_in (i := 634) (by decide +kernel) (by decide +kernel)
theorem aw_572 : (Jvm.Cond.code ({ cls := "Powerwell", name := "isThrottled", desc := "(I)Z" } : Jvm.MethodName) prog_1_method_13_code (2 : Nat) (Option.some Jvm.ClassFile.FieldType.boolean)) ∈ rn_ALL := rn_in (i := 635) (by decide +kernel) (by decide +kernel)
theorem aw_573 : (Jvm.Cond.methodLink "PowerwellLaw" (48 : Nat) ({ cls := "Powerwell", name := "budget", desc := "(III)Z" } : Jvm.MethodName)) ∈ rn_ALL := rn_in (i := 636) (by decide +kernel) (by decide +kernel)
theorem aw_574 : (Jvm.Cond.instanceMethod ({ cls := "Powerwell", name := "budget", desc := "(III)Z" } : Jvm.MethodName)) ∈ rn_ALL := rn_in (i := 637) (by decide +kernel) (by decide +kernel)
theorem aw_575 : (Jvm.Cond.selects "Powerwell" ({ cls := "Powerwell", name := "budget", desc := "(III)Z" } : Jvm.MethodName) ({ cls := "Powerwell", name := "budget", desc := "(III)Z" } : Jvm.MethodName)) ∈ rn_ALL := rn_in (i := 638) (by decide +kernel) (by decide +kernel)
theorem aw_576 : (Jvm.Cond.code ({ cls := "Powerwell", name := "budget", desc := "(III)Z" } : Jvm.MethodName) prog_1_method_14_code (5 : Nat) (Option.some Jvm.ClassFile.FieldType.boolean)) ∈ rn_ALL := rn_in (i := 639) (by decide +kernel) (by decide +kernel)
theorem aw_577 : (Jvm.Cond.constant "Powerwell" (140 : Nat) (99999 : Int32)) ∈ rn_ALL := rn_in (i := 640) (by decide +kernel) (by decide +kernel)
theorem aw_579 : (Jvm.Cond.methodLink "PowerwellLaw" (52 : Nat) ({ cls := "Powerwell", name := "device", desc := "(III)I" } : Jvm.MethodName)) ∈ rn_ALL := rn_in (i := 642) (by decide +kernel) (by decide +kernel)
theorem aw_580 : (Jvm.Cond.instanceMethod ({ cls := "Powerwell", name := "device", desc := "(III)I" } : Jvm.MethodName)) ∈ rn_ALL := rn_in (i := 643) (by decide +kernel) (by decide +kernel)
theorem aw_581 : (Jvm.Cond.selects "Powerwell" ({ cls := "Powerwell", name := "device", desc := "(III)I" } : Jvm.MethodName) ({ cls := "Powerwell", name := "device", desc := "(III)I" } : Jvm.MethodName)) ∈ rn_ALL := rn_in (i := 644) (by decide +kernel) (by decide +kernel)
theorem aw_582 : (Jvm.Cond.code ({ cls := "Powerwell", name := "device", desc := "(III)I" } : Jvm.MethodName) prog_1_method_15_code (6 : Nat) (Option.some Jvm.ClassFile.FieldType.int)) ∈ rn_ALL := rn_in (i := 645) (by decide +kernel) (by decide +kernel)
theorem aw_584 : (Jvm.Cond.instantiable "Powerwell$Device" (14 : Nat)) ∈ rn_ALL := rn_in (i := 647) (by decide +kernel) (by decide +kernel)
theorem aw_586 : (Jvm.Cond.instanceMethod ({ cls := "Powerwell$Device", name := "<init>", desc := "(ILPowerwell$Domain;II)V" } : Jvm.MethodName)) ∈ rn_ALL := rn_in (i := 649) (by decide +kernel) (by decide +kernel)
theorem aw_587 : (Jvm.Cond.code ({ cls := "Powerwell$Device", name := "<init>", desc := "(ILPowerwell$Domain;II)V" } : Jvm.MethodName) prog_3_method_1_code (5 : Nat) (Option.none : Option Jvm.ClassFile.FieldType)) ∈ rn_ALL := rn_in (i := 650) (by decide +kernel) (by decide +kernel)
theorem aw_588 : (Jvm.Cond.methodLink "Powerwell$Device" (1 : Nat) ({ cls := "java/lang/Object", name := "<init>", desc := "()V" } : Jvm.MethodName)) ∈ rn_ALL := rn_in (i := 651) (by decide +kernel) (by decide +kernel)
theorem aw_589 : (Jvm.Cond.classLink "Powerwell$Device" (7 : Nat) "java/util/ArrayList") ∈ rn_ALL := rn_in (i := 652) (by decide +kernel) (by decide +kernel)
theorem aw_590 : (Jvm.Cond.methodLink "Powerwell$Device" (9 : Nat) ({ cls := "java/util/ArrayList", name := "<init>", desc := "()V" } : Jvm.MethodName)) ∈ rn_ALL := rn_in (i := 653) (by decide +kernel) (by decide +kernel)
theorem aw_591 : (Jvm.Cond.classLink "Powerwell$Device" (27 : Nat) "Powerwell$Idleness") ∈ rn_ALL := rn_in (i := 654) (by decide +kernel) (by decide +kernel)
theorem aw_592 : (Jvm.Cond.instantiable "Powerwell$Idleness" (7 : Nat)) ∈ rn_ALL := rn_in (i := 655) (by decide +kernel) (by decide +kernel)
theorem aw_594 : (Jvm.Cond.instanceMethod ({ cls := "Powerwell$Idleness", name := "<init>", desc := "(I)V" } : Jvm.MethodName)) ∈ rn_ALL := rn_in (i := 657) (by decide +kernel) (by decide +kernel)
theorem aw_595 : (Jvm.Cond.code ({ cls := "Powerwell$Idleness", name := "<init>", desc := "(I)V" } : Jvm.MethodName) prog_5_method_1_code (2 : Nat) (Option.none : Option Jvm.ClassFile.FieldType)) ∈ rn_ALL := rn_in (i := 658) (by decide +kernel) (by decide +kernel)
theorem aw_596 : (Jvm.Cond.methodLink "Powerwell$Idleness" (3 : Nat) ({ cls := "java/lang/Object", name := "<init>", desc := "()V" } : Jvm.MethodName)) ∈ rn_ALL := rn_in (i := 659) (by decide +kernel) (by decide +kernel)
theorem aw_597 : (Jvm.Cond.fieldLink "Powerwell$Idleness" (19 : Nat) "Powerwell$Idleness" "tolerance" "I") ∈ rn_ALL := rn_in (i := 660) (by decide +kernel) (by decide +kernel)
theorem aw_598 : (Jvm.Cond.fieldLink "Powerwell$Idleness" (9 : Nat) "Powerwell$Idleness" "stays" "[J") ∈ rn_ALL := rn_in (i := 661) (by decide +kernel) (by decide +kernel)
theorem aw_599 : (Jvm.Cond.fieldLink "Powerwell$Idleness" (22 : Nat) "Powerwell$Idleness" "stayCount" "I") ∈ rn_ALL := rn_in (i := 662) (by decide +kernel) (by decide +kernel)
theorem aw_600 : (Jvm.Cond.fieldLink "Powerwell$Idleness" (29 : Nat) "Powerwell$Idleness" "depth" "LPowerwell$Depth;") ∈ rn_ALL := rn_in (i := 663) (by decide +kernel) (by decide +kernel)
theorem aw_602 : (Jvm.Cond.fieldLink "Powerwell$Idleness" (15 : Nat) "Powerwell$Idleness" "since" "I") ∈ rn_ALL := rn_in (i := 665) (by decide +kernel) (by decide +kernel)
theorem aw_603 : (Jvm.Cond.fieldLink "Powerwell$Idleness" (71 : Nat) "Powerwell$Idleness" "misses" "I") ∈ rn_ALL := rn_in (i := 666) (by decide +kernel) (by decide +kernel)
theorem aw_605 : (Jvm.Cond.fieldLink "Powerwell$Idleness" (58 : Nat) "Powerwell$Idleness" "costLeft" "I") ∈ rn_ALL := rn_in (i := 668) (by decide +kernel) (by decide +kernel)
theorem aw_621 : (Jvm.Cond.fieldLink "Powerwell$Device" (16 : Nat) "Powerwell$Device" "number" "I") ∈ rn_ALL := rn_in (i := 684) (by decide +kernel) (by decide +kernel)
theorem aw_623 : (Jvm.Cond.fieldLink "Powerwell$Device" (20 : Nat) "Powerwell$Device" "home" "LPowerwell$Domain;") ∈ rn_ALL := rn_in (i := 686) (by decide +kernel) (by decide +kernel)
theorem aw_625 : (Jvm.Cond.fieldLink "Powerwell$Device" (24 : Nat) "Powerwell$Device" "delay" "I") ∈ rn_ALL := rn_in (i := 688) (by decide +kernel) (by decide +kernel)
theorem aw_627 : (Jvm.Cond.fieldLink "Powerwell$Device" (32 : Nat) "Powerwell$Device" "idleness" "LPowerwell$Idleness;") ∈ rn_ALL := rn_in (i := 690) (by decide +kernel) (by decide +kernel)
theorem aw_629 : (Jvm.Cond.fieldLink "Powerwell$Device" (10 : Nat) "Powerwell$Device" "suppliers" "Ljava/util/ArrayList;") ∈ rn_ALL := rn_in (i := 692) (by decide +kernel) (by decide +kernel)
theorem aw_631 : (Jvm.Cond.fieldLink "Powerwell$Device" (52 : Nat) "Powerwell$Device" "count" "I") ∈ rn_ALL := rn_in (i := 694) (by decide +kernel) (by decide +kernel)
theorem aw_633 : (Jvm.Cond.fieldLink "Powerwell$Device" (48 : Nat) "Powerwell$Device" "isAwake" "Z") ∈ rn_ALL := rn_in (i := 696) (by decide +kernel) (by decide +kernel)
theorem aw_637 : (Jvm.Cond.fieldLink "Powerwell$Device" (58 : Nat) "Powerwell$Device" "register" "I") ∈ rn_ALL := rn_in (i := 700) (by decide +kernel) (by decide +kernel)
theorem aw_640 : (Jvm.Cond.fieldLink "Powerwell$Device" (55 : Nat) "Powerwell$Device" "saved" "I") ∈ rn_ALL := rn_in (i := 703) (by decide +kernel) (by decide +kernel)
theorem aw_642 : (Jvm.Cond.fieldLink "Powerwell$Device" (83 : Nat) "Powerwell$Device" "unitsLeft" "I") ∈ rn_ALL := rn_in (i := 705) (by decide +kernel) (by decide +kernel)
theorem aw_644 : (Jvm.Cond.fieldLink "Powerwell$Device" (76 : Nat) "Powerwell$Device" "hasWorked" "Z") ∈ rn_ALL := rn_in (i := 707) (by decide +kernel) (by decide +kernel)
theorem aw_675 : (Jvm.Cond.methodLink "PowerwellLaw" (55 : Nat) ({ cls := "Powerwell", name := "need", desc := "(II)I" } : Jvm.MethodName)) ∈ rn_ALL := rn_in (i := 738) (by decide +kernel) (by decide +kernel)
theorem aw_676 : (Jvm.Cond.instanceMethod ({ cls := "Powerwell", name := "need", desc := "(II)I" } : Jvm.MethodName)) ∈ rn_ALL := rn_in (i := 739) (by decide +kernel) (by decide +kernel)
theorem aw_677 : (Jvm.Cond.selects "Powerwell" ({ cls := "Powerwell", name := "need", desc := "(II)I" } : Jvm.MethodName) ({ cls := "Powerwell", name := "need", desc := "(II)I" } : Jvm.MethodName)) ∈ rn_ALL := rn_in (i := 740) (by decide +kernel) (by decide +kernel)
theorem aw_678 : (Jvm.Cond.code ({ cls := "Powerwell", name := "need", desc := "(II)I" } : Jvm.MethodName) prog_1_method_16_code (5 : Nat) (Option.some Jvm.ClassFile.FieldType.int)) ∈ rn_ALL := rn_in (i := 741) (by decide +kernel) (by decide +kernel)
theorem aw_679 : (Jvm.Cond.methodLink "Powerwell" (161 : Nat) ({ cls := "Powerwell", name := "deviceAt", desc := "(I)LPowerwell$Device;" } : Jvm.MethodName)) ∈ rn_ALL := rn_in (i := 742) (by decide +kernel) (by decide +kernel)
theorem aw_681 : (Jvm.Cond.instanceMethod ({ cls := "Powerwell", name := "deviceAt", desc := "(I)LPowerwell$Device;" } : Jvm.MethodName)) ∈ rn_ALL := rn_in (i := 744) (by decide +kernel) (by decide +kernel)
theorem aw_682 : (Jvm.Cond.code ({ cls := "Powerwell", name := "deviceAt", desc := "(I)LPowerwell$Device;" } : Jvm.MethodName) prog_1_method_46_code (2 : Nat) (Option.some (Jvm.ClassFile.FieldType.object "Powerwell$Device"))) ∈ rn_ALL := rn_in (i := 745) (by decide +kernel) (by decide +kernel)
theorem aw_687 : (Jvm.Cond.instanceMethod ({ cls := "Powerwell$Device", name := "hasSupplier", desc := "(LPowerwell$Device;)Z" } : Jvm.MethodName)) ∈ rn_ALL := rn_in (i := 750) (by decide +kernel) (by decide +kernel)
theorem aw_688 : (Jvm.Cond.code ({ cls := "Powerwell$Device", name := "hasSupplier", desc := "(LPowerwell$Device;)Z" } : Jvm.MethodName) prog_3_method_2_code (3 : Nat) (Option.some Jvm.ClassFile.FieldType.boolean)) ∈ rn_ALL := rn_in (i := 751) (by decide +kernel) (by decide +kernel)
theorem aw_689 : (Jvm.Cond.methodLink "Powerwell$Device" (36 : Nat) ({ cls := "java/util/ArrayList", name := "size", desc := "()I" } : Jvm.MethodName)) ∈ rn_ALL := rn_in (i := 752) (by decide +kernel) (by decide +kernel)
theorem aw_690 : (Jvm.Cond.methodLink "Powerwell$Device" (40 : Nat) ({ cls := "java/util/ArrayList", name := "get", desc := "(I)Ljava/lang/Object;" } : Jvm.MethodName)) ∈ rn_ALL := rn_in (i := 753) (by decide +kernel) (by decide +kernel)
theorem aw_710 : (Jvm.Cond.instanceMethod ({ cls := "Powerwell$Device", name := "addSupplier", desc := "(LPowerwell$Device;)V" } : Jvm.MethodName)) ∈ rn_ALL := rn_in (i := 773) (by decide +kernel) (by decide +kernel)
theorem aw_711 : (Jvm.Cond.code ({ cls := "Powerwell$Device", name := "addSupplier", desc := "(LPowerwell$Device;)V" } : Jvm.MethodName) prog_3_method_3_code (3 : Nat) (Option.none : Option Jvm.ClassFile.FieldType)) ∈ rn_ALL := rn_in (i := 774) (by decide +kernel) (by decide +kernel)
theorem aw_712 : (Jvm.Cond.classLink "Powerwell$Device" (11 : Nat) "Powerwell$Device") ∈ rn_ALL := rn_in (i := 775) (by decide +kernel) (by decide +kernel)
theorem aw_713 : (Jvm.Cond.methodLink "Powerwell$Device" (44 : Nat) ({ cls := "java/util/ArrayList", name := "add", desc := "(ILjava/lang/Object;)V" } : Jvm.MethodName)) ∈ rn_ALL := rn_in (i := 776) (by decide +kernel) (by decide +kernel)
theorem aw_714 : (Jvm.Cond.instanceMethod ({ cls := "java/util/ArrayList", name := "add", desc := "(ILjava/lang/Object;)V" } : Jvm.MethodName)) ∈ rn_ALL := rn_in (i := 777) (by decide +kernel) (by decide +kernel)
theorem aw_715 : (Jvm.Cond.selects "java/util/ArrayList" ({ cls := "java/util/ArrayList", name := "add", desc := "(ILjava/lang/Object;)V" } : Jvm.MethodName) ({ cls := "java/util/ArrayList", name := "add", desc := "(ILjava/lang/Object;)V" } : Jvm.MethodName)) ∈ rn_ALL := rn_in (i := 778) (by decide +kernel) (by decide +kernel)
theorem aw_716 : (Jvm.Cond.code ({ cls := "java/util/ArrayList", name := "add", desc := "(ILjava/lang/Object;)V" } : Jvm.MethodName) prog_42_method_26_code (5 : Nat) (Option.none : Option Jvm.ClassFile.FieldType)) ∈ rn_ALL := rn_in (i := 779) (by decide +kernel) (by decide +kernel)
theorem aw_717 : (Jvm.Cond.methodLink "java/util/ArrayList" (135 : Nat) ({ cls := "java/util/ArrayList", name := "rangeCheckForAdd", desc := "(I)V" } : Jvm.MethodName)) ∈ rn_ALL := rn_in (i := 780) (by decide +kernel) (by decide +kernel)
theorem aw_719 : (Jvm.Cond.instanceMethod ({ cls := "java/util/ArrayList", name := "rangeCheckForAdd", desc := "(I)V" } : Jvm.MethodName)) ∈ rn_ALL := rn_in (i := 782) (by decide +kernel) (by decide +kernel)
theorem aw_720 : (Jvm.Cond.code ({ cls := "java/util/ArrayList", name := "rangeCheckForAdd", desc := "(I)V" } : Jvm.MethodName) prog_42_method_45_code (2 : Nat) (Option.none : Option Jvm.ClassFile.FieldType)) ∈ rn_ALL := rn_in (i := 783) (by decide +kernel) (by decide +kernel)
theorem aw_953 : (Jvm.Cond.methodLink "java/util/ArrayList" (112 : Nat) ({ cls := "java/lang/System", name := "arraycopy", desc := "(Ljava/lang/Object;ILjava/lang/Object;II)V" } : Jvm.MethodName)) ∈ rn_ALL := rn_in (i := 1016) (by decide +kernel) (by decide +kernel)
theorem aw_954 : (Jvm.Cond.methodLink "PowerwellLaw" (58 : Nat) ({ cls := "Powerwell", name := "get", desc := "(I)I" } : Jvm.MethodName)) ∈ rn_ALL := rn_in (i := 1017) (by decide +kernel) (by decide +kernel)
theorem aw_955 : (Jvm.Cond.instanceMethod ({ cls := "Powerwell", name := "get", desc := "(I)I" } : Jvm.MethodName)) ∈ rn_ALL := rn_in (i := 1018) (by decide +kernel) (by decide +kernel)
theorem aw_956 : (Jvm.Cond.selects "Powerwell" ({ cls := "Powerwell", name := "get", desc := "(I)I" } : Jvm.MethodName) ({ cls := "Powerwell", name := "get", desc := "(I)I" } : Jvm.MethodName)) ∈ rn_ALL := rn_in (i := 1019) (by decide +kernel) (by decide +kernel)
theorem aw_957 : (Jvm.Cond.code ({ cls := "Powerwell", name := "get", desc := "(I)I" } : Jvm.MethodName) prog_1_method_17_code (3 : Nat) (Option.some Jvm.ClassFile.FieldType.int)) ∈ rn_ALL := rn_in (i := 1020) (by decide +kernel) (by decide +kernel)
theorem aw_958 : (Jvm.Cond.methodLink "Powerwell" (191 : Nat) ({ cls := "Powerwell", name := "refuseAsleep", desc := "()V" } : Jvm.MethodName)) ∈ rn_ALL := rn_in (i := 1021) (by decide +kernel) (by decide +kernel)
theorem aw_960 : (Jvm.Cond.instanceMethod ({ cls := "Powerwell", name := "refuseAsleep", desc := "()V" } : Jvm.MethodName)) ∈ rn_ALL := rn_in (i := 1023) (by decide +kernel) (by decide +kernel)
theorem aw_961 : (Jvm.Cond.code ({ cls := "Powerwell", name := "refuseAsleep", desc := "()V" } : Jvm.MethodName) prog_1_method_48_code (1 : Nat) (Option.none : Option Jvm.ClassFile.FieldType)) ∈ rn_ALL := rn_in (i := 1024) (by decide +kernel) (by decide +kernel)
theorem aw_963 : (Jvm.Cond.methodLink "Powerwell" (194 : Nat) ({ cls := "Powerwell", name := "take", desc := "(LPowerwell$Device;)V" } : Jvm.MethodName)) ∈ rn_ALL := rn_in (i := 1026) (by decide +kernel) (by decide +kernel)
theorem aw_965 : (Jvm.Cond.instanceMethod ({ cls := "Powerwell", name := "take", desc := "(LPowerwell$Device;)V" } : Jvm.MethodName)) ∈ rn_ALL := rn_in (i := 1028) (by decide +kernel) (by decide +kernel)
theorem aw_966 : (Jvm.Cond.code ({ cls := "Powerwell", name := "take", desc := "(LPowerwell$Device;)V" } : Jvm.MethodName) prog_1_method_50_code (3 : Nat) (Option.none : Option Jvm.ClassFile.FieldType)) ∈ rn_ALL := rn_in (i := 1029) (by decide +kernel) (by decide +kernel)
theorem aw_969 : (Jvm.Cond.instanceMethod ({ cls := "Powerwell$Device", name := "wakeUp", desc := "(I)V" } : Jvm.MethodName)) ∈ rn_ALL := rn_in (i := 1032) (by decide +kernel) (by decide +kernel)
theorem aw_970 : (Jvm.Cond.code ({ cls := "Powerwell$Device", name := "wakeUp", desc := "(I)V" } : Jvm.MethodName) prog_3_method_5_code (2 : Nat) (Option.none : Option Jvm.ClassFile.FieldType)) ∈ rn_ALL := rn_in (i := 1033) (by decide +kernel) (by decide +kernel)
theorem aw_973 : (Jvm.Cond.instanceMethod ({ cls := "Powerwell$Domain", name := "addUse", desc := "()V" } : Jvm.MethodName)) ∈ rn_ALL := rn_in (i := 1036) (by decide +kernel) (by decide +kernel)
theorem aw_974 : (Jvm.Cond.code ({ cls := "Powerwell$Domain", name := "addUse", desc := "()V" } : Jvm.MethodName) prog_4_method_4_code (2 : Nat) (Option.none : Option Jvm.ClassFile.FieldType)) ∈ rn_ALL := rn_in (i := 1037) (by decide +kernel) (by decide +kernel)
theorem aw_977 : (Jvm.Cond.instanceMethod ({ cls := "Powerwell$Idleness", name := "endStay", desc := "(I)V" } : Jvm.MethodName)) ∈ rn_ALL := rn_in (i := 1040) (by decide +kernel) (by decide +kernel)
theorem aw_978 : (Jvm.Cond.code ({ cls := "Powerwell$Idleness", name := "endStay", desc := "(I)V" } : Jvm.MethodName) prog_5_method_5_code (2 : Nat) (Option.none : Option Jvm.ClassFile.FieldType)) ∈ rn_ALL := rn_in (i := 1041) (by decide +kernel) (by decide +kernel)
theorem aw_979 : (Jvm.Cond.methodLink "Powerwell$Idleness" (54 : Nat) ({ cls := "Powerwell$Idleness", name := "addStay", desc := "(I)V" } : Jvm.MethodName)) ∈ rn_ALL := rn_in (i := 1042) (by decide +kernel) (by decide +kernel)
theorem aw_981 : (Jvm.Cond.instanceMethod ({ cls := "Powerwell$Idleness", name := "addStay", desc := "(I)V" } : Jvm.MethodName)) ∈ rn_ALL := rn_in (i := 1044) (by decide +kernel) (by decide +kernel)
theorem aw_982 : (Jvm.Cond.code ({ cls := "Powerwell$Idleness", name := "addStay", desc := "(I)V" } : Jvm.MethodName) prog_5_method_6_code (2 : Nat) (Option.none : Option Jvm.ClassFile.FieldType)) ∈ rn_ALL := rn_in (i := 1045) (by decide +kernel) (by decide +kernel)
theorem aw_984 : (Jvm.Cond.static ({ cls := "Powerwell", name := "putFirst", desc := "([JJ)V" } : Jvm.MethodName)) ∈ rn_ALL := rn_in (i := 1047) (by decide +kernel) (by decide +kernel)
theorem aw_985 : (Jvm.Cond.code ({ cls := "Powerwell", name := "putFirst", desc := "([JJ)V" } : Jvm.MethodName) prog_1_method_43_code (4 : Nat) (Option.none : Option Jvm.ClassFile.FieldType)) ∈ rn_ALL := rn_in (i := 1048) (by decide +kernel) (by decide +kernel)
theorem aw_986 : (Jvm.Cond.methodLink "Powerwell$Idleness" (65 : Nat) ({ cls := "java/lang/Math", name := "min", desc := "(II)I" } : Jvm.MethodName)) ∈ rn_ALL := rn_in (i := 1049) (by decide +kernel) (by decide +kernel)
theorem aw_987 : (Jvm.Cond.methodLink "PowerwellLaw" (61 : Nat) ({ cls := "Powerwell", name := "put", desc := "(I)I" } : Jvm.MethodName)) ∈ rn_ALL := rn_in (i := 1050) (by decide +kernel) (by decide +kernel)
theorem aw_988 : (Jvm.Cond.instanceMethod ({ cls := "Powerwell", name := "put", desc := "(I)I" } : Jvm.MethodName)) ∈ rn_ALL := rn_in (i := 1051) (by decide +kernel) (by decide +kernel)
theorem aw_989 : (Jvm.Cond.selects "Powerwell" ({ cls := "Powerwell", name := "put", desc := "(I)I" } : Jvm.MethodName) ({ cls := "Powerwell", name := "put", desc := "(I)I" } : Jvm.MethodName)) ∈ rn_ALL := rn_in (i := 1052) (by decide +kernel) (by decide +kernel)
theorem aw_990 : (Jvm.Cond.code ({ cls := "Powerwell", name := "put", desc := "(I)I" } : Jvm.MethodName) prog_1_method_18_code (3 : Nat) (Option.some Jvm.ClassFile.FieldType.int)) ∈ rn_ALL := rn_in (i := 1053) (by decide +kernel) (by decide +kernel)
theorem aw_1002 : (Jvm.Cond.instanceMethod ({ cls := "Powerwell$Device", name := "fallAsleep", desc := "(ILjava/util/ArrayList;)V" } : Jvm.MethodName)) ∈ rn_ALL := rn_in (i := 1065) (by decide +kernel) (by decide +kernel)
theorem aw_1003 : (Jvm.Cond.code ({ cls := "Powerwell$Device", name := "fallAsleep", desc := "(ILjava/util/ArrayList;)V" } : Jvm.MethodName) prog_3_method_6_code (3 : Nat) (Option.none : Option Jvm.ClassFile.FieldType)) ∈ rn_ALL := rn_in (i := 1066) (by decide +kernel) (by decide +kernel)
theorem aw_1006 : (Jvm.Cond.instanceMethod ({ cls := "Powerwell$Domain", name := "dropUse", desc := "()V" } : Jvm.MethodName)) ∈ rn_ALL := rn_in (i := 1069) (by decide +kernel) (by decide +kernel)
theorem aw_1007 : (Jvm.Cond.code ({ cls := "Powerwell$Domain", name := "dropUse", desc := "()V" } : Jvm.MethodName) prog_4_method_5_code (2 : Nat) (Option.none : Option Jvm.ClassFile.FieldType)) ∈ rn_ALL := rn_in (i := 1070) (by decide +kernel) (by decide +kernel)
theorem aw_1008 : (Jvm.Cond.methodLink "Powerwell$Domain" (41 : Nat) ({ cls := "Powerwell$Domain", name := "loseRegisters", desc := "()V" } : Jvm.MethodName)) ∈ rn_ALL := rn_in (i := 1071) (by decide +kernel) (by decide +kernel)
theorem aw_1010 : (Jvm.Cond.instanceMethod ({ cls := "Powerwell$Domain", name := "loseRegisters", desc := "()V" } : Jvm.MethodName)) ∈ rn_ALL := rn_in (i := 1073) (by decide +kernel) (by decide +kernel)
theorem aw_1011 : (Jvm.Cond.code ({ cls := "Powerwell$Domain", name := "loseRegisters", desc := "()V" } : Jvm.MethodName) prog_4_method_6_code (2 : Nat) (Option.none : Option Jvm.ClassFile.FieldType)) ∈ rn_ALL := rn_in (i := 1074) (by decide +kernel) (by decide +kernel)
theorem aw_1012 : (Jvm.Cond.methodLink "Powerwell$Domain" (44 : Nat) ({ cls := "java/util/ArrayList", name := "size", desc := "()I" } : Jvm.MethodName)) ∈ rn_ALL := rn_in (i := 1075) (by decide +kernel) (by decide +kernel)
theorem aw_1013 : (Jvm.Cond.methodLink "Powerwell$Domain" (48 : Nat) ({ cls := "java/util/ArrayList", name := "get", desc := "(I)Ljava/lang/Object;" } : Jvm.MethodName)) ∈ rn_ALL := rn_in (i := 1076) (by decide +kernel) (by decide +kernel)
theorem aw_1014 : (Jvm.Cond.classLink "Powerwell$Domain" (52 : Nat) "Powerwell$Device") ∈ rn_ALL := rn_in (i := 1077) (by decide +kernel) (by decide +kernel)
theorem aw_1017 : (Jvm.Cond.instanceMethod ({ cls := "Powerwell$Idleness", name := "beginStay", desc := "(ILjava/util/ArrayList;)V" } : Jvm.MethodName)) ∈ rn_ALL := rn_in (i := 1080) (by decide +kernel) (by decide +kernel)
theorem aw_1018 : (Jvm.Cond.code ({ cls := "Powerwell$Idleness", name := "beginStay", desc := "(ILjava/util/ArrayList;)V" } : Jvm.MethodName) prog_5_method_3_code (3 : Nat) (Option.none : Option Jvm.ClassFile.FieldType)) ∈ rn_ALL := rn_in (i := 1081) (by decide +kernel) (by decide +kernel)
theorem aw_1019 : (Jvm.Cond.methodLink "Powerwell$Idleness" (25 : Nat) ({ cls := "Powerwell$Idleness", name := "deepest", desc := "(Ljava/util/ArrayList;)LPowerwell$Depth;" } : Jvm.MethodName)) ∈ rn_ALL := rn_in (i := 1082) (by decide +kernel) (by decide +kernel)
theorem aw_1021 : (Jvm.Cond.instanceMethod ({ cls := "Powerwell$Idleness", name := "deepest", desc := "(Ljava/util/ArrayList;)LPowerwell$Depth;" } : Jvm.MethodName)) ∈ rn_ALL := rn_in (i := 1084) (by decide +kernel) (by decide +kernel)
theorem aw_1022 : (Jvm.Cond.code ({ cls := "Powerwell$Idleness", name := "deepest", desc := "(Ljava/util/ArrayList;)LPowerwell$Depth;" } : Jvm.MethodName) prog_5_method_4_code (5 : Nat) (Option.some (Jvm.ClassFile.FieldType.object "Powerwell$Depth"))) ∈ rn_ALL := rn_in (i := 1085) (by decide +kernel) (by decide +kernel)
theorem aw_1023 : (Jvm.Cond.methodLink "Powerwell$Idleness" (33 : Nat) ({ cls := "Powerwell$Idleness", name := "meanStay", desc := "()I" } : Jvm.MethodName)) ∈ rn_ALL := rn_in (i := 1086) (by decide +kernel) (by decide +kernel)
theorem aw_1025 : (Jvm.Cond.instanceMethod ({ cls := "Powerwell$Idleness", name := "meanStay", desc := "()I" } : Jvm.MethodName)) ∈ rn_ALL := rn_in (i := 1088) (by decide +kernel) (by decide +kernel)
theorem aw_1026 : (Jvm.Cond.code ({ cls := "Powerwell$Idleness", name := "meanStay", desc := "()I" } : Jvm.MethodName) prog_5_method_2_code (4 : Nat) (Option.some Jvm.ClassFile.FieldType.int)) ∈ rn_ALL := rn_in (i := 1089) (by decide +kernel) (by decide +kernel)
theorem aw_1027 : (Jvm.Cond.methodLink "Powerwell$Idleness" (37 : Nat) ({ cls := "java/util/ArrayList", name := "size", desc := "()I" } : Jvm.MethodName)) ∈ rn_ALL := rn_in (i := 1090) (by decide +kernel) (by decide +kernel)
theorem aw_1028 : (Jvm.Cond.methodLink "Powerwell$Idleness" (42 : Nat) ({ cls := "java/util/ArrayList", name := "get", desc := "(I)Ljava/lang/Object;" } : Jvm.MethodName)) ∈ rn_ALL := rn_in (i := 1091) (by decide +kernel) (by decide +kernel)
theorem aw_1029 : (Jvm.Cond.classLink "Powerwell$Idleness" (46 : Nat) "Powerwell$Depth") ∈ rn_ALL := rn_in (i := 1092) (by decide +kernel) (by decide +kernel)
theorem aw_1030 : (Jvm.Cond.methodLink "PowerwellLaw" (64 : Nat) ({ cls := "Powerwell", name := "isAwake", desc := "(I)Z" } : Jvm.MethodName)) ∈ rn_ALL := rn_in (i := 1093) (by decide +kernel) (by decide +kernel)
theorem aw_1031 : (Jvm.Cond.instanceMethod ({ cls := "Powerwell", name := "isAwake", desc := "(I)Z" } : Jvm.MethodName)) ∈ rn_ALL := rn_in (i := 1094) (by decide +kernel) (by decide +kernel)
theorem aw_1032 : (Jvm.Cond.selects "Powerwell" ({ cls := "Powerwell", name := "isAwake", desc := "(I)Z" } : Jvm.MethodName) ({ cls := "Powerwell", name := "isAwake", desc := "(I)Z" } : Jvm.MethodName)) ∈ rn_ALL := rn_in (i := 1095) (by decide +kernel) (by decide +kernel)
theorem aw_1033 : (Jvm.Cond.code ({ cls := "Powerwell", name := "isAwake", desc := "(I)Z" } : Jvm.MethodName) prog_1_method_19_code (2 : Nat) (Option.some Jvm.ClassFile.FieldType.boolean)) ∈ rn_ALL := rn_in (i := 1096) (by decide +kernel) (by decide +kernel)
theorem aw_1034 : (Jvm.Cond.methodLink "PowerwellLaw" (67 : Nat) ({ cls := "PowerwellLaw", name := "asked", desc := "(LPowerwell;C[I)I" } : Jvm.MethodName)) ∈ rn_ALL := rn_in (i := 1097) (by decide +kernel) (by decide +kernel)
theorem aw_1035 : (Jvm.Cond.static ({ cls := "PowerwellLaw", name := "asked", desc := "(LPowerwell;C[I)I" } : Jvm.MethodName)) ∈ rn_ALL := rn_in (i := 1098) (by decide +kernel) (by decide +kernel)
theorem aw_1036 : (Jvm.Cond.code ({ cls := "PowerwellLaw", name := "asked", desc := "(LPowerwell;C[I)I" } : Jvm.MethodName) method_5_code (3 : Nat) (Option.some Jvm.ClassFile.FieldType.int)) ∈ rn_ALL := rn_in (i := 1099) (by decide +kernel) (by decide +kernel)
theorem aw_1037 : (Jvm.Cond.methodLink "PowerwellLaw" (88 : Nat) ({ cls := "Powerwell", name := "write", desc := "(II)I" } : Jvm.MethodName)) ∈ rn_ALL := rn_in (i := 1100) (by decide +kernel) (by decide +kernel)
theorem aw_1038 : (Jvm.Cond.instanceMethod ({ cls := "Powerwell", name := "write", desc := "(II)I" } : Jvm.MethodName)) ∈ rn_ALL := rn_in (i := 1101) (by decide +kernel) (by decide +kernel)
theorem aw_1039 : (Jvm.Cond.selects "Powerwell" ({ cls := "Powerwell", name := "write", desc := "(II)I" } : Jvm.MethodName) ({ cls := "Powerwell", name := "write", desc := "(II)I" } : Jvm.MethodName)) ∈ rn_ALL := rn_in (i := 1102) (by decide +kernel) (by decide +kernel)
theorem aw_1040 : (Jvm.Cond.code ({ cls := "Powerwell", name := "write", desc := "(II)I" } : Jvm.MethodName) prog_1_method_20_code (5 : Nat) (Option.some Jvm.ClassFile.FieldType.int)) ∈ rn_ALL := rn_in (i := 1103) (by decide +kernel) (by decide +kernel)
theorem aw_1041 : (Jvm.Cond.methodLink "Powerwell" (202 : Nat) ({ cls := "Powerwell", name := "reachableAt", desc := "(I)LPowerwell$Device;" } : Jvm.MethodName)) ∈ rn_ALL := rn_in (i := 1104) (by decide +kernel) (by decide +kernel)
theorem aw_1043 : (Jvm.Cond.instanceMethod ({ cls := "Powerwell", name := "reachableAt", desc := "(I)LPowerwell$Device;" } : Jvm.MethodName)) ∈ rn_ALL := rn_in (i := 1106) (by decide +kernel) (by decide +kernel)
theorem aw_1044 : (Jvm.Cond.code ({ cls := "Powerwell", name := "reachableAt", desc := "(I)LPowerwell$Device;" } : Jvm.MethodName) prog_1_method_49_code (3 : Nat) (Option.some (Jvm.ClassFile.FieldType.object "Powerwell$Device"))) ∈ rn_ALL := rn_in (i := 1107) (by decide +kernel) (by decide +kernel)
theorem aw_1046 : (Jvm.Cond.methodLink "PowerwellLaw" (91 : Nat) ({ cls := "Powerwell", name := "read", desc := "(I)I" } : Jvm.MethodName)) ∈ rn_ALL := rn_in (i := 1109) (by decide +kernel) (by decide +kernel)
theorem aw_1047 : (Jvm.Cond.instanceMethod ({ cls := "Powerwell", name := "read", desc := "(I)I" } : Jvm.MethodName)) ∈ rn_ALL := rn_in (i := 1110) (by decide +kernel) (by decide +kernel)
theorem aw_1048 : (Jvm.Cond.selects "Powerwell" ({ cls := "Powerwell", name := "read", desc := "(I)I" } : Jvm.MethodName) ({ cls := "Powerwell", name := "read", desc := "(I)I" } : Jvm.MethodName)) ∈ rn_ALL := rn_in (i := 1111) (by decide +kernel) (by decide +kernel)
theorem aw_1049 : (Jvm.Cond.code ({ cls := "Powerwell", name := "read", desc := "(I)I" } : Jvm.MethodName) prog_1_method_21_code (2 : Nat) (Option.some Jvm.ClassFile.FieldType.int)) ∈ rn_ALL := rn_in (i := 1112) (by decide +kernel) (by decide +kernel)
theorem aw_1050 : (Jvm.Cond.methodLink "PowerwellLaw" (94 : Nat) ({ cls := "Powerwell", name := "raw", desc := "(I)I" } : Jvm.MethodName)) ∈ rn_ALL := rn_in (i := 1113) (by decide +kernel) (by decide +kernel)
theorem aw_1051 : (Jvm.Cond.instanceMethod ({ cls := "Powerwell", name := "raw", desc := "(I)I" } : Jvm.MethodName)) ∈ rn_ALL := rn_in (i := 1114) (by decide +kernel) (by decide +kernel)
theorem aw_1052 : (Jvm.Cond.selects "Powerwell" ({ cls := "Powerwell", name := "raw", desc := "(I)I" } : Jvm.MethodName) ({ cls := "Powerwell", name := "raw", desc := "(I)I" } : Jvm.MethodName)) ∈ rn_ALL := rn_in (i := 1115) (by decide +kernel) (by decide +kernel)
theorem aw_1053 : (Jvm.Cond.code ({ cls := "Powerwell", name := "raw", desc := "(I)I" } : Jvm.MethodName) prog_1_method_22_code (2 : Nat) (Option.some Jvm.ClassFile.FieldType.int)) ∈ rn_ALL := rn_in (i := 1116) (by decide +kernel) (by decide +kernel)
theorem aw_1054 : (Jvm.Cond.methodLink "PowerwellLaw" (97 : Nat) ({ cls := "Powerwell", name := "depth", desc := "(II)I" } : Jvm.MethodName)) ∈ rn_ALL := rn_in (i := 1117) (by decide +kernel) (by decide +kernel)
theorem aw_1055 : (Jvm.Cond.instanceMethod ({ cls := "Powerwell", name := "depth", desc := "(II)I" } : Jvm.MethodName)) ∈ rn_ALL := rn_in (i := 1118) (by decide +kernel) (by decide +kernel)
theorem aw_1056 : (Jvm.Cond.selects "Powerwell" ({ cls := "Powerwell", name := "depth", desc := "(II)I" } : Jvm.MethodName) ({ cls := "Powerwell", name := "depth", desc := "(II)I" } : Jvm.MethodName)) ∈ rn_ALL := rn_in (i := 1119) (by decide +kernel) (by decide +kernel)
theorem aw_1057 : (Jvm.Cond.code ({ cls := "Powerwell", name := "depth", desc := "(II)I" } : Jvm.MethodName) prog_1_method_23_code (4 : Nat) (Option.some Jvm.ClassFile.FieldType.int)) ∈ rn_ALL := rn_in (i := 1120) (by decide +kernel) (by decide +kernel)
theorem aw_1058 : (Jvm.Cond.classLink "Powerwell" (215 : Nat) "Powerwell$Depth") ∈ rn_ALL := rn_in (i := 1121) (by decide +kernel) (by decide +kernel)
theorem aw_1062 : (Jvm.Cond.instantiable "Powerwell$Depth" (3 : Nat)) ∈ rn_ALL := rn_in (i := 1125) (by decide +kernel) (by decide +kernel)
theorem aw_1083 : (Jvm.Cond.methodLink "PowerwellLaw" (100 : Nat) ({ cls := "Powerwell", name := "depthOf", desc := "(I)I" } : Jvm.MethodName)) ∈ rn_ALL := rn_in (i := 1146) (by decide +kernel) (by decide +kernel)
theorem aw_1084 : (Jvm.Cond.instanceMethod ({ cls := "Powerwell", name := "depthOf", desc := "(I)I" } : Jvm.MethodName)) ∈ rn_ALL := rn_in (i := 1147) (by decide +kernel) (by decide +kernel)
theorem aw_1085 : (Jvm.Cond.selects "Powerwell" ({ cls := "Powerwell", name := "depthOf", desc := "(I)I" } : Jvm.MethodName) ({ cls := "Powerwell", name := "depthOf", desc := "(I)I" } : Jvm.MethodName)) ∈ rn_ALL := rn_in (i := 1148) (by decide +kernel) (by decide +kernel)
theorem aw_1086 : (Jvm.Cond.code ({ cls := "Powerwell", name := "depthOf", desc := "(I)I" } : Jvm.MethodName) prog_1_method_24_code (3 : Nat) (Option.some Jvm.ClassFile.FieldType.int)) ∈ rn_ALL := rn_in (i := 1149) (by decide +kernel) (by decide +kernel)
theorem aw_1087 : (Jvm.Cond.methodLink "PowerwellLaw" (103 : Nat) ({ cls := "Powerwell", name := "misses", desc := "(I)I" } : Jvm.MethodName)) ∈ rn_ALL := rn_in (i := 1150) (by decide +kernel) (by decide +kernel)
theorem aw_1088 : (Jvm.Cond.instanceMethod ({ cls := "Powerwell", name := "misses", desc := "(I)I" } : Jvm.MethodName)) ∈ rn_ALL := rn_in (i := 1151) (by decide +kernel) (by decide +kernel)
theorem aw_1089 : (Jvm.Cond.selects "Powerwell" ({ cls := "Powerwell", name := "misses", desc := "(I)I" } : Jvm.MethodName) ({ cls := "Powerwell", name := "misses", desc := "(I)I" } : Jvm.MethodName)) ∈ rn_ALL := rn_in (i := 1152) (by decide +kernel) (by decide +kernel)
theorem aw_1090 : (Jvm.Cond.code ({ cls := "Powerwell", name := "misses", desc := "(I)I" } : Jvm.MethodName) prog_1_method_25_code (2 : Nat) (Option.some Jvm.ClassFile.FieldType.int)) ∈ rn_ALL := rn_in (i := 1153) (by decide +kernel) (by decide +kernel)
theorem aw_1091 : (Jvm.Cond.methodLink "PowerwellLaw" (106 : Nat) ({ cls := "Powerwell", name := "guess", desc := "(I)I" } : Jvm.MethodName)) ∈ rn_ALL := rn_in (i := 1154) (by decide +kernel) (by decide +kernel)
theorem aw_1092 : (Jvm.Cond.instanceMethod ({ cls := "Powerwell", name := "guess", desc := "(I)I" } : Jvm.MethodName)) ∈ rn_ALL := rn_in (i := 1155) (by decide +kernel) (by decide +kernel)
theorem aw_1093 : (Jvm.Cond.selects "Powerwell" ({ cls := "Powerwell", name := "guess", desc := "(I)I" } : Jvm.MethodName) ({ cls := "Powerwell", name := "guess", desc := "(I)I" } : Jvm.MethodName)) ∈ rn_ALL := rn_in (i := 1156) (by decide +kernel) (by decide +kernel)
theorem aw_1094 : (Jvm.Cond.code ({ cls := "Powerwell", name := "guess", desc := "(I)I" } : Jvm.MethodName) prog_1_method_26_code (2 : Nat) (Option.some Jvm.ClassFile.FieldType.int)) ∈ rn_ALL := rn_in (i := 1157) (by decide +kernel) (by decide +kernel)
theorem aw_1096 : (Jvm.Cond.methodLink "PowerwellLaw" (109 : Nat) ({ cls := "Powerwell", name := "work", desc := "(II)I" } : Jvm.MethodName)) ∈ rn_ALL := rn_in (i := 1159) (by decide +kernel) (by decide +kernel)
theorem aw_1097 : (Jvm.Cond.instanceMethod ({ cls := "Powerwell", name := "work", desc := "(II)I" } : Jvm.MethodName)) ∈ rn_ALL := rn_in (i := 1160) (by decide +kernel) (by decide +kernel)
theorem aw_1098 : (Jvm.Cond.selects "Powerwell" ({ cls := "Powerwell", name := "work", desc := "(II)I" } : Jvm.MethodName) ({ cls := "Powerwell", name := "work", desc := "(II)I" } : Jvm.MethodName)) ∈ rn_ALL := rn_in (i := 1161) (by decide +kernel) (by decide +kernel)
theorem aw_1099 : (Jvm.Cond.code ({ cls := "Powerwell", name := "work", desc := "(II)I" } : Jvm.MethodName) prog_1_method_27_code (4 : Nat) (Option.some Jvm.ClassFile.FieldType.int)) ∈ rn_ALL := rn_in (i := 1162) (by decide +kernel) (by decide +kernel)
theorem aw_1100 : (Jvm.Cond.methodLink "PowerwellLaw" (112 : Nat) ({ cls := "Powerwell", name := "left", desc := "(I)I" } : Jvm.MethodName)) ∈ rn_ALL := rn_in (i := 1163) (by decide +kernel) (by decide +kernel)
theorem aw_1101 : (Jvm.Cond.instanceMethod ({ cls := "Powerwell", name := "left", desc := "(I)I" } : Jvm.MethodName)) ∈ rn_ALL := rn_in (i := 1164) (by decide +kernel) (by decide +kernel)
theorem aw_1102 : (Jvm.Cond.selects "Powerwell" ({ cls := "Powerwell", name := "left", desc := "(I)I" } : Jvm.MethodName) ({ cls := "Powerwell", name := "left", desc := "(I)I" } : Jvm.MethodName)) ∈ rn_ALL := rn_in (i := 1165) (by decide +kernel) (by decide +kernel)
theorem aw_1103 : (Jvm.Cond.code ({ cls := "Powerwell", name := "left", desc := "(I)I" } : Jvm.MethodName) prog_1_method_28_code (2 : Nat) (Option.some Jvm.ClassFile.FieldType.int)) ∈ rn_ALL := rn_in (i := 1166) (by decide +kernel) (by decide +kernel)
theorem aw_1104 : (Jvm.Cond.methodLink "PowerwellLaw" (115 : Nat) ({ cls := "Powerwell", name := "tick", desc := "(I)I" } : Jvm.MethodName)) ∈ rn_ALL := rn_in (i := 1167) (by decide +kernel) (by decide +kernel)
theorem aw_1105 : (Jvm.Cond.instanceMethod ({ cls := "Powerwell", name := "tick", desc := "(I)I" } : Jvm.MethodName)) ∈ rn_ALL := rn_in (i := 1168) (by decide +kernel) (by decide +kernel)
theorem aw_1106 : (Jvm.Cond.selects "Powerwell" ({ cls := "Powerwell", name := "tick", desc := "(I)I" } : Jvm.MethodName) ({ cls := "Powerwell", name := "tick", desc := "(I)I" } : Jvm.MethodName)) ∈ rn_ALL := rn_in (i := 1169) (by decide +kernel) (by decide +kernel)
theorem aw_1107 : (Jvm.Cond.code ({ cls := "Powerwell", name := "tick", desc := "(I)I" } : Jvm.MethodName) prog_1_method_29_code (3 : Nat) (Option.some Jvm.ClassFile.FieldType.int)) ∈ rn_ALL := rn_in (i := 1170) (by decide +kernel) (by decide +kernel)
theorem aw_1108 : (Jvm.Cond.methodLink "Powerwell" (247 : Nat) ({ cls := "Powerwell", name := "passTick", desc := "()V" } : Jvm.MethodName)) ∈ rn_ALL := rn_in (i := 1171) (by decide +kernel) (by decide +kernel)
theorem aw_1110 : (Jvm.Cond.instanceMethod ({ cls := "Powerwell", name := "passTick", desc := "()V" } : Jvm.MethodName)) ∈ rn_ALL := rn_in (i := 1173) (by decide +kernel) (by decide +kernel)
theorem aw_1111 : (Jvm.Cond.code ({ cls := "Powerwell", name := "passTick", desc := "()V" } : Jvm.MethodName) prog_1_method_54_code (3 : Nat) (Option.none : Option Jvm.ClassFile.FieldType)) ∈ rn_ALL := rn_in (i := 1174) (by decide +kernel) (by decide +kernel)
theorem aw_1114 : (Jvm.Cond.instanceMethod ({ cls := "Powerwell$Rail", name := "riseAndSpeed", desc := "(Z)V" } : Jvm.MethodName)) ∈ rn_ALL := rn_in (i := 1177) (by decide +kernel) (by decide +kernel)
theorem aw_1115 : (Jvm.Cond.code ({ cls := "Powerwell$Rail", name := "riseAndSpeed", desc := "(Z)V" } : Jvm.MethodName) prog_7_method_11_code (3 : Nat) (Option.none : Option Jvm.ClassFile.FieldType)) ∈ rn_ALL := rn_in (i := 1178) (by decide +kernel) (by decide +kernel)
theorem aw_1116 : (Jvm.Cond.methodLink "Powerwell$Rail" (96 : Nat) ({ cls := "Powerwell$Rail", name := "aimedLevel", desc := "(Z)I" } : Jvm.MethodName)) ∈ rn_ALL := rn_in (i := 1179) (by decide +kernel) (by decide +kernel)
theorem aw_1118 : (Jvm.Cond.instanceMethod ({ cls := "Powerwell$Rail", name := "aimedLevel", desc := "(Z)I" } : Jvm.MethodName)) ∈ rn_ALL := rn_in (i := 1181) (by decide +kernel) (by decide +kernel)
theorem aw_1119 : (Jvm.Cond.code ({ cls := "Powerwell$Rail", name := "aimedLevel", desc := "(Z)I" } : Jvm.MethodName) prog_7_method_10_code (3 : Nat) (Option.some Jvm.ClassFile.FieldType.int)) ∈ rn_ALL := rn_in (i := 1182) (by decide +kernel) (by decide +kernel)
theorem aw_1120 : (Jvm.Cond.methodLink "Powerwell$Rail" (92 : Nat) ({ cls := "Powerwell$Rail", name := "aimedPair", desc := "()I" } : Jvm.MethodName)) ∈ rn_ALL := rn_in (i := 1183) (by decide +kernel) (by decide +kernel)
theorem aw_1121 : (Jvm.Cond.methodLink "Powerwell$Rail" (95 : Nat) ({ cls := "Powerwell$Rail", name := "isUsed", desc := "()Z" } : Jvm.MethodName)) ∈ rn_ALL := rn_in (i := 1184) (by decide +kernel) (by decide +kernel)
theorem aw_1123 : (Jvm.Cond.instanceMethod ({ cls := "Powerwell$Rail", name := "isUsed", desc := "()Z" } : Jvm.MethodName)) ∈ rn_ALL := rn_in (i := 1186) (by decide +kernel) (by decide +kernel)
theorem aw_1124 : (Jvm.Cond.code ({ cls := "Powerwell$Rail", name := "isUsed", desc := "()Z" } : Jvm.MethodName) prog_7_method_9_code (2 : Nat) (Option.some Jvm.ClassFile.FieldType.boolean)) ∈ rn_ALL := rn_in (i := 1187) (by decide +kernel) (by decide +kernel)
theorem aw_1125 : (Jvm.Cond.classLink "Powerwell$Rail" (87 : Nat) "Powerwell$Domain") ∈ rn_ALL := rn_in (i := 1188) (by decide +kernel) (by decide +kernel)
theorem aw_1127 : (Jvm.Cond.methodLink "Powerwell$Rail" (101 : Nat) ({ cls := "Powerwell$Rail", name := "reachedSpeed", desc := "()I" } : Jvm.MethodName)) ∈ rn_ALL := rn_in (i := 1190) (by decide +kernel) (by decide +kernel)
theorem aw_1129 : (Jvm.Cond.instanceMethod ({ cls := "Powerwell$Rail", name := "reachedSpeed", desc := "()I" } : Jvm.MethodName)) ∈ rn_ALL := rn_in (i := 1192) (by decide +kernel) (by decide +kernel)
theorem aw_1130 : (Jvm.Cond.code ({ cls := "Powerwell$Rail", name := "reachedSpeed", desc := "()I" } : Jvm.MethodName) prog_7_method_12_code (5 : Nat) (Option.some Jvm.ClassFile.FieldType.int)) ∈ rn_ALL := rn_in (i := 1193) (by decide +kernel) (by decide +kernel)
theorem aw_1133 : (Jvm.Cond.instanceMethod ({ cls := "Powerwell$Device", name := "doWork", desc := "()V" } : Jvm.MethodName)) ∈ rn_ALL := rn_in (i := 1196) (by decide +kernel) (by decide +kernel)
theorem aw_1134 : (Jvm.Cond.code ({ cls := "Powerwell$Device", name := "doWork", desc := "()V" } : Jvm.MethodName) prog_3_method_7_code (2 : Nat) (Option.none : Option Jvm.ClassFile.FieldType)) ∈ rn_ALL := rn_in (i := 1197) (by decide +kernel) (by decide +kernel)
theorem aw_1137 : (Jvm.Cond.instanceMethod ({ cls := "Powerwell$Idleness", name := "passCost", desc := "()Z" } : Jvm.MethodName)) ∈ rn_ALL := rn_in (i := 1200) (by decide +kernel) (by decide +kernel)
theorem aw_1138 : (Jvm.Cond.code ({ cls := "Powerwell$Idleness", name := "passCost", desc := "()Z" } : Jvm.MethodName) prog_5_method_7_code (1 : Nat) (Option.some Jvm.ClassFile.FieldType.boolean)) ∈ rn_ALL := rn_in (i := 1201) (by decide +kernel) (by decide +kernel)
theorem aw_1139 : (Jvm.Cond.methodLink "Powerwell$Device" (95 : Nat) ({ cls := "java/lang/Math", name := "min", desc := "(II)I" } : Jvm.MethodName)) ∈ rn_ALL := rn_in (i := 1202) (by decide +kernel) (by decide +kernel)
theorem aw_1140 : (Jvm.Cond.methodLink "Powerwell" (351 : Nat) ({ cls := "Powerwell", name := "reckonEnergy", desc := "()V" } : Jvm.MethodName)) ∈ rn_ALL := rn_in (i := 1203) (by decide +kernel) (by decide +kernel)
theorem aw_1142 : (Jvm.Cond.instanceMethod ({ cls := "Powerwell", name := "reckonEnergy", desc := "()V" } : Jvm.MethodName)) ∈ rn_ALL := rn_in (i := 1205) (by decide +kernel) (by decide +kernel)
theorem aw_1143 : (Jvm.Cond.code ({ cls := "Powerwell", name := "reckonEnergy", desc := "()V" } : Jvm.MethodName) prog_1_method_55_code (5 : Nat) (Option.none : Option Jvm.ClassFile.FieldType)) ∈ rn_ALL := rn_in (i := 1206) (by decide +kernel) (by decide +kernel)
theorem aw_1146 : (Jvm.Cond.instanceMethod ({ cls := "Powerwell$Domain", name := "gainEnergy", desc := "()V" } : Jvm.MethodName)) ∈ rn_ALL := rn_in (i := 1209) (by decide +kernel) (by decide +kernel)
theorem aw_1147 : (Jvm.Cond.code ({ cls := "Powerwell$Domain", name := "gainEnergy", desc := "()V" } : Jvm.MethodName) prog_4_method_7_code (1 : Nat) (Option.none : Option Jvm.ClassFile.FieldType)) ∈ rn_ALL := rn_in (i := 1210) (by decide +kernel) (by decide +kernel)
theorem aw_1148 : (Jvm.Cond.methodLink "Powerwell$Domain" (65 : Nat) ({ cls := "Powerwell$Domain", name := "energyOfWork", desc := "()I" } : Jvm.MethodName)) ∈ rn_ALL := rn_in (i := 1211) (by decide +kernel) (by decide +kernel)
theorem aw_1150 : (Jvm.Cond.instanceMethod ({ cls := "Powerwell$Domain", name := "energyOfWork", desc := "()I" } : Jvm.MethodName)) ∈ rn_ALL := rn_in (i := 1213) (by decide +kernel) (by decide +kernel)
theorem aw_1151 : (Jvm.Cond.code ({ cls := "Powerwell$Domain", name := "energyOfWork", desc := "()I" } : Jvm.MethodName) prog_4_method_8_code (3 : Nat) (Option.some Jvm.ClassFile.FieldType.int)) ∈ rn_ALL := rn_in (i := 1214) (by decide +kernel) (by decide +kernel)
theorem aw_1154 : (Jvm.Cond.instanceMethod ({ cls := "Powerwell$Rail", name := "energyOfTick", desc := "()J" } : Jvm.MethodName)) ∈ rn_ALL := rn_in (i := 1217) (by decide +kernel) (by decide +kernel)
theorem aw_1155 : (Jvm.Cond.code ({ cls := "Powerwell$Rail", name := "energyOfTick", desc := "()J" } : Jvm.MethodName) prog_7_method_14_code (4 : Nat) (Option.some Jvm.ClassFile.FieldType.long)) ∈ rn_ALL := rn_in (i := 1218) (by decide +kernel) (by decide +kernel)
theorem aw_1158 : (Jvm.Cond.instanceMethod ({ cls := "Powerwell$Rail", name := "remember", desc := "(J)V" } : Jvm.MethodName)) ∈ rn_ALL := rn_in (i := 1221) (by decide +kernel) (by decide +kernel)
theorem aw_1159 : (Jvm.Cond.code ({ cls := "Powerwell$Rail", name := "remember", desc := "(J)V" } : Jvm.MethodName) prog_7_method_15_code (3 : Nat) (Option.none : Option Jvm.ClassFile.FieldType)) ∈ rn_ALL := rn_in (i := 1222) (by decide +kernel) (by decide +kernel)
theorem aw_1161 : (Jvm.Cond.methodLink "Powerwell" (377 : Nat) ({ cls := "Powerwell", name := "claimEnergy", desc := "(LPowerwell$Rail;J)V" } : Jvm.MethodName)) ∈ rn_ALL := rn_in (i := 1224) (by decide +kernel) (by decide +kernel)
theorem aw_1163 : (Jvm.Cond.instanceMethod ({ cls := "Powerwell", name := "claimEnergy", desc := "(LPowerwell$Rail;J)V" } : Jvm.MethodName)) ∈ rn_ALL := rn_in (i := 1226) (by decide +kernel) (by decide +kernel)
theorem aw_1164 : (Jvm.Cond.code ({ cls := "Powerwell", name := "claimEnergy", desc := "(LPowerwell$Rail;J)V" } : Jvm.MethodName) prog_1_method_56_code (12 : Nat) (Option.none : Option Jvm.ClassFile.FieldType)) ∈ rn_ALL := rn_in (i := 1227) (by decide +kernel) (by decide +kernel)
theorem aw_1166 : (Jvm.Cond.methodLink "Powerwell" (354 : Nat) ({ cls := "Powerwell", name := "letWarmthFlow", desc := "()V" } : Jvm.MethodName)) ∈ rn_ALL := rn_in (i := 1229) (by decide +kernel) (by decide +kernel)
theorem aw_1168 : (Jvm.Cond.instanceMethod ({ cls := "Powerwell", name := "letWarmthFlow", desc := "()V" } : Jvm.MethodName)) ∈ rn_ALL := rn_in (i := 1231) (by decide +kernel) (by decide +kernel)
theorem aw_1169 : (Jvm.Cond.code ({ cls := "Powerwell", name := "letWarmthFlow", desc := "()V" } : Jvm.MethodName) prog_1_method_57_code (2 : Nat) (Option.none : Option Jvm.ClassFile.FieldType)) ∈ rn_ALL := rn_in (i := 1232) (by decide +kernel) (by decide +kernel)
theorem aw_1172 : (Jvm.Cond.instanceMethod ({ cls := "Powerwell$Domain", name := "reckonFlow", desc := "()V" } : Jvm.MethodName)) ∈ rn_ALL := rn_in (i := 1235) (by decide +kernel) (by decide +kernel)
theorem aw_1173 : (Jvm.Cond.code ({ cls := "Powerwell$Domain", name := "reckonFlow", desc := "()V" } : Jvm.MethodName) prog_4_method_9_code (1 : Nat) (Option.none : Option Jvm.ClassFile.FieldType)) ∈ rn_ALL := rn_in (i := 1236) (by decide +kernel) (by decide +kernel)
theorem aw_1176 : (Jvm.Cond.instanceMethod ({ cls := "Powerwell$Domain", name := "flowOut", desc := "()V" } : Jvm.MethodName)) ∈ rn_ALL := rn_in (i := 1239) (by decide +kernel) (by decide +kernel)
theorem aw_1177 : (Jvm.Cond.code ({ cls := "Powerwell$Domain", name := "flowOut", desc := "()V" } : Jvm.MethodName) prog_4_method_10_code (1 : Nat) (Option.none : Option Jvm.ClassFile.FieldType)) ∈ rn_ALL := rn_in (i := 1240) (by decide +kernel) (by decide +kernel)
theorem aw_1180 : (Jvm.Cond.instanceMethod ({ cls := "Powerwell$Rail", name := "lookAtTrips", desc := "()V" } : Jvm.MethodName)) ∈ rn_ALL := rn_in (i := 1243) (by decide +kernel) (by decide +kernel)
theorem aw_1181 : (Jvm.Cond.code ({ cls := "Powerwell$Rail", name := "lookAtTrips", desc := "()V" } : Jvm.MethodName) prog_7_method_16_code (4 : Nat) (Option.none : Option Jvm.ClassFile.FieldType)) ∈ rn_ALL := rn_in (i := 1244) (by decide +kernel) (by decide +kernel)
theorem aw_1184 : (Jvm.Cond.instanceMethod ({ cls := "Powerwell$Rail", name := "fall", desc := "(Z)V" } : Jvm.MethodName)) ∈ rn_ALL := rn_in (i := 1247) (by decide +kernel) (by decide +kernel)
theorem aw_1185 : (Jvm.Cond.code ({ cls := "Powerwell$Rail", name := "fall", desc := "(Z)V" } : Jvm.MethodName) prog_7_method_13_code (3 : Nat) (Option.none : Option Jvm.ClassFile.FieldType)) ∈ rn_ALL := rn_in (i := 1248) (by decide +kernel) (by decide +kernel)
theorem aw_1186 : (Jvm.Cond.methodLink "Powerwell" (363 : Nat) ({ cls := "Powerwell", name := "passDelays", desc := "()V" } : Jvm.MethodName)) ∈ rn_ALL := rn_in (i := 1249) (by decide +kernel) (by decide +kernel)
theorem aw_1188 : (Jvm.Cond.instanceMethod ({ cls := "Powerwell", name := "passDelays", desc := "()V" } : Jvm.MethodName)) ∈ rn_ALL := rn_in (i := 1251) (by decide +kernel) (by decide +kernel)
theorem aw_1189 : (Jvm.Cond.code ({ cls := "Powerwell", name := "passDelays", desc := "()V" } : Jvm.MethodName) prog_1_method_58_code (3 : Nat) (Option.none : Option Jvm.ClassFile.FieldType)) ∈ rn_ALL := rn_in (i := 1252) (by decide +kernel) (by decide +kernel)
theorem aw_1192 : (Jvm.Cond.instanceMethod ({ cls := "Powerwell$Device", name := "isIdling", desc := "()Z" } : Jvm.MethodName)) ∈ rn_ALL := rn_in (i := 1255) (by decide +kernel) (by decide +kernel)
theorem aw_1193 : (Jvm.Cond.code ({ cls := "Powerwell$Device", name := "isIdling", desc := "()Z" } : Jvm.MethodName) prog_3_method_4_code (1 : Nat) (Option.some Jvm.ClassFile.FieldType.boolean)) ∈ rn_ALL := rn_in (i := 1256) (by decide +kernel) (by decide +kernel)
theorem aw_1194 : (Jvm.Cond.methodLink "PowerwellLaw" (118 : Nat) ({ cls := "Powerwell", name := "energy", desc := "(I)J" } : Jvm.MethodName)) ∈ rn_ALL := rn_in (i := 1257) (by decide +kernel) (by decide +kernel)
theorem aw_1195 : (Jvm.Cond.instanceMethod ({ cls := "Powerwell", name := "energy", desc := "(I)J" } : Jvm.MethodName)) ∈ rn_ALL := rn_in (i := 1258) (by decide +kernel) (by decide +kernel)
theorem aw_1196 : (Jvm.Cond.selects "Powerwell" ({ cls := "Powerwell", name := "energy", desc := "(I)J" } : Jvm.MethodName) ({ cls := "Powerwell", name := "energy", desc := "(I)J" } : Jvm.MethodName)) ∈ rn_ALL := rn_in (i := 1259) (by decide +kernel) (by decide +kernel)
theorem aw_1197 : (Jvm.Cond.code ({ cls := "Powerwell", name := "energy", desc := "(I)J" } : Jvm.MethodName) prog_1_method_11_code (2 : Nat) (Option.some Jvm.ClassFile.FieldType.long)) ∈ rn_ALL := rn_in (i := 1260) (by decide +kernel) (by decide +kernel)
theorem aw_1198 : (Jvm.Cond.methodLink "PowerwellLaw" (122 : Nat) ({ cls := "Powerwell", name := "claimed", desc := "(I)J" } : Jvm.MethodName)) ∈ rn_ALL := rn_in (i := 1261) (by decide +kernel) (by decide +kernel)
theorem aw_1199 : (Jvm.Cond.instanceMethod ({ cls := "Powerwell", name := "claimed", desc := "(I)J" } : Jvm.MethodName)) ∈ rn_ALL := rn_in (i := 1262) (by decide +kernel) (by decide +kernel)
theorem aw_1200 : (Jvm.Cond.selects "Powerwell" ({ cls := "Powerwell", name := "claimed", desc := "(I)J" } : Jvm.MethodName) ({ cls := "Powerwell", name := "claimed", desc := "(I)J" } : Jvm.MethodName)) ∈ rn_ALL := rn_in (i := 1263) (by decide +kernel) (by decide +kernel)
theorem aw_1201 : (Jvm.Cond.code ({ cls := "Powerwell", name := "claimed", desc := "(I)J" } : Jvm.MethodName) prog_1_method_30_code (2 : Nat) (Option.some Jvm.ClassFile.FieldType.long)) ∈ rn_ALL := rn_in (i := 1264) (by decide +kernel) (by decide +kernel)
theorem aw_1202 : (Jvm.Cond.methodLink "PowerwellLaw" (125 : Nat) ({ cls := "Powerwell", name := "source", desc := "()I" } : Jvm.MethodName)) ∈ rn_ALL := rn_in (i := 1265) (by decide +kernel) (by decide +kernel)
theorem aw_1203 : (Jvm.Cond.instanceMethod ({ cls := "Powerwell", name := "source", desc := "()I" } : Jvm.MethodName)) ∈ rn_ALL := rn_in (i := 1266) (by decide +kernel) (by decide +kernel)
theorem aw_1204 : (Jvm.Cond.selects "Powerwell" ({ cls := "Powerwell", name := "source", desc := "()I" } : Jvm.MethodName) ({ cls := "Powerwell", name := "source", desc := "()I" } : Jvm.MethodName)) ∈ rn_ALL := rn_in (i := 1267) (by decide +kernel) (by decide +kernel)
theorem aw_1205 : (Jvm.Cond.code ({ cls := "Powerwell", name := "source", desc := "()I" } : Jvm.MethodName) prog_1_method_31_code (1 : Nat) (Option.some Jvm.ClassFile.FieldType.int)) ∈ rn_ALL := rn_in (i := 1268) (by decide +kernel) (by decide +kernel)
theorem aw_1207 : (Jvm.Cond.classLink "Powerwell" (258 : Nat) "Powerwell$Source") ∈ rn_ALL := rn_in (i := 1270) (by decide +kernel) (by decide +kernel)
theorem aw_1208 : (Jvm.Cond.instantiable "Powerwell$Source" (3 : Nat)) ∈ rn_ALL := rn_in (i := 1271) (by decide +kernel) (by decide +kernel)
theorem aw_1210 : (Jvm.Cond.instanceMethod ({ cls := "Powerwell$Source", name := "<init>", desc := "()V" } : Jvm.MethodName)) ∈ rn_ALL := rn_in (i := 1273) (by decide +kernel) (by decide +kernel)
theorem aw_1211 : (Jvm.Cond.code ({ cls := "Powerwell$Source", name := "<init>", desc := "()V" } : Jvm.MethodName) prog_8_method_1_code (1 : Nat) (Option.none : Option Jvm.ClassFile.FieldType)) ∈ rn_ALL := rn_in (i := 1274) (by decide +kernel) (by decide +kernel)
theorem aw_1212 : (Jvm.Cond.methodLink "Powerwell$Source" (1 : Nat) ({ cls := "java/lang/Object", name := "<init>", desc := "()V" } : Jvm.MethodName)) ∈ rn_ALL := rn_in (i := 1275) (by decide +kernel) (by decide +kernel)
theorem aw_1214 : (Jvm.Cond.fieldLink "Powerwell$Source" (13 : Nat) "Powerwell$Source" "isMasked" "Z") ∈ rn_ALL := rn_in (i := 1277) (by decide +kernel) (by decide +kernel)
theorem aw_1216 : (Jvm.Cond.fieldLink "Powerwell$Source" (7 : Nat) "Powerwell$Source" "hasWake" "Z") ∈ rn_ALL := rn_in (i := 1279) (by decide +kernel) (by decide +kernel)
theorem aw_1225 : (Jvm.Cond.methodLink "PowerwellLaw" (129 : Nat) ({ cls := "Powerwell", name := "arm", desc := "(IZ)Z" } : Jvm.MethodName)) ∈ rn_ALL := rn_in (i := 1288) (by decide +kernel) (by decide +kernel)
theorem aw_1226 : (Jvm.Cond.instanceMethod ({ cls := "Powerwell", name := "arm", desc := "(IZ)Z" } : Jvm.MethodName)) ∈ rn_ALL := rn_in (i := 1289) (by decide +kernel) (by decide +kernel)
theorem aw_1227 : (Jvm.Cond.selects "Powerwell" ({ cls := "Powerwell", name := "arm", desc := "(IZ)Z" } : Jvm.MethodName) ({ cls := "Powerwell", name := "arm", desc := "(IZ)Z" } : Jvm.MethodName)) ∈ rn_ALL := rn_in (i := 1290) (by decide +kernel) (by decide +kernel)
theorem aw_1228 : (Jvm.Cond.code ({ cls := "Powerwell", name := "arm", desc := "(IZ)Z" } : Jvm.MethodName) prog_1_method_32_code (5 : Nat) (Option.some Jvm.ClassFile.FieldType.boolean)) ∈ rn_ALL := rn_in (i := 1291) (by decide +kernel) (by decide +kernel)
theorem aw_1229 : (Jvm.Cond.methodLink "Powerwell" (261 : Nat) ({ cls := "Powerwell", name := "sourceAt", desc := "(I)LPowerwell$Source;" } : Jvm.MethodName)) ∈ rn_ALL := rn_in (i := 1292) (by decide +kernel) (by decide +kernel)
theorem aw_1231 : (Jvm.Cond.instanceMethod ({ cls := "Powerwell", name := "sourceAt", desc := "(I)LPowerwell$Source;" } : Jvm.MethodName)) ∈ rn_ALL := rn_in (i := 1294) (by decide +kernel) (by decide +kernel)
theorem aw_1232 : (Jvm.Cond.code ({ cls := "Powerwell", name := "sourceAt", desc := "(I)LPowerwell$Source;" } : Jvm.MethodName) prog_1_method_47_code (2 : Nat) (Option.some (Jvm.ClassFile.FieldType.object "Powerwell$Source"))) ∈ rn_ALL := rn_in (i := 1295) (by decide +kernel) (by decide +kernel)
theorem aw_1234 : (Jvm.Cond.methodLink "PowerwellLaw" (133 : Nat) ({ cls := "Powerwell", name := "mask", desc := "(IZ)Z" } : Jvm.MethodName)) ∈ rn_ALL := rn_in (i := 1297) (by decide +kernel) (by decide +kernel)
theorem aw_1235 : (Jvm.Cond.instanceMethod ({ cls := "Powerwell", name := "mask", desc := "(IZ)Z" } : Jvm.MethodName)) ∈ rn_ALL := rn_in (i := 1298) (by decide +kernel) (by decide +kernel)
theorem aw_1236 : (Jvm.Cond.selects "Powerwell" ({ cls := "Powerwell", name := "mask", desc := "(IZ)Z" } : Jvm.MethodName) ({ cls := "Powerwell", name := "mask", desc := "(IZ)Z" } : Jvm.MethodName)) ∈ rn_ALL := rn_in (i := 1299) (by decide +kernel) (by decide +kernel)
theorem aw_1237 : (Jvm.Cond.code ({ cls := "Powerwell", name := "mask", desc := "(IZ)Z" } : Jvm.MethodName) prog_1_method_33_code (4 : Nat) (Option.some Jvm.ClassFile.FieldType.boolean)) ∈ rn_ALL := rn_in (i := 1300) (by decide +kernel) (by decide +kernel)
theorem aw_1238 : (Jvm.Cond.methodLink "Powerwell" (274 : Nat) ({ cls := "Powerwell", name := "wakeChipBy", desc := "(LPowerwell$Source;I)Z" } : Jvm.MethodName)) ∈ rn_ALL := rn_in (i := 1301) (by decide +kernel) (by decide +kernel)
theorem aw_1240 : (Jvm.Cond.instanceMethod ({ cls := "Powerwell", name := "wakeChipBy", desc := "(LPowerwell$Source;I)Z" } : Jvm.MethodName)) ∈ rn_ALL := rn_in (i := 1303) (by decide +kernel) (by decide +kernel)
theorem aw_1241 : (Jvm.Cond.code ({ cls := "Powerwell", name := "wakeChipBy", desc := "(LPowerwell$Source;I)Z" } : Jvm.MethodName) prog_1_method_53_code (5 : Nat) (Option.some Jvm.ClassFile.FieldType.boolean)) ∈ rn_ALL := rn_in (i := 1304) (by decide +kernel) (by decide +kernel)
theorem aw_1244 : (Jvm.Cond.instanceMethod ({ cls := "Powerwell$Source", name := "isPending", desc := "()Z" } : Jvm.MethodName)) ∈ rn_ALL := rn_in (i := 1307) (by decide +kernel) (by decide +kernel)
theorem aw_1245 : (Jvm.Cond.code ({ cls := "Powerwell$Source", name := "isPending", desc := "()Z" } : Jvm.MethodName) prog_8_method_2_code (1 : Nat) (Option.some Jvm.ClassFile.FieldType.boolean)) ∈ rn_ALL := rn_in (i := 1308) (by decide +kernel) (by decide +kernel)
theorem aw_1246 : (Jvm.Cond.methodLink "PowerwellLaw" (136 : Nat) ({ cls := "Powerwell", name := "wake", desc := "(I)Z" } : Jvm.MethodName)) ∈ rn_ALL := rn_in (i := 1309) (by decide +kernel) (by decide +kernel)
theorem aw_1247 : (Jvm.Cond.instanceMethod ({ cls := "Powerwell", name := "wake", desc := "(I)Z" } : Jvm.MethodName)) ∈ rn_ALL := rn_in (i := 1310) (by decide +kernel) (by decide +kernel)
theorem aw_1248 : (Jvm.Cond.selects "Powerwell" ({ cls := "Powerwell", name := "wake", desc := "(I)Z" } : Jvm.MethodName) ({ cls := "Powerwell", name := "wake", desc := "(I)Z" } : Jvm.MethodName)) ∈ rn_ALL := rn_in (i := 1311) (by decide +kernel) (by decide +kernel)
theorem aw_1249 : (Jvm.Cond.code ({ cls := "Powerwell", name := "wake", desc := "(I)Z" } : Jvm.MethodName) prog_1_method_34_code (3 : Nat) (Option.some Jvm.ClassFile.FieldType.boolean)) ∈ rn_ALL := rn_in (i := 1312) (by decide +kernel) (by decide +kernel)
theorem aw_1250 : (Jvm.Cond.methodLink "PowerwellLaw" (139 : Nat) ({ cls := "Powerwell", name := "sleep", desc := "()I" } : Jvm.MethodName)) ∈ rn_ALL := rn_in (i := 1313) (by decide +kernel) (by decide +kernel)
theorem aw_1251 : (Jvm.Cond.instanceMethod ({ cls := "Powerwell", name := "sleep", desc := "()I" } : Jvm.MethodName)) ∈ rn_ALL := rn_in (i := 1314) (by decide +kernel) (by decide +kernel)
theorem aw_1252 : (Jvm.Cond.selects "Powerwell" ({ cls := "Powerwell", name := "sleep", desc := "()I" } : Jvm.MethodName) ({ cls := "Powerwell", name := "sleep", desc := "()I" } : Jvm.MethodName)) ∈ rn_ALL := rn_in (i := 1315) (by decide +kernel) (by decide +kernel)
theorem aw_1253 : (Jvm.Cond.code ({ cls := "Powerwell", name := "sleep", desc := "()I" } : Jvm.MethodName) prog_1_method_35_code (3 : Nat) (Option.some Jvm.ClassFile.FieldType.int)) ∈ rn_ALL := rn_in (i := 1316) (by decide +kernel) (by decide +kernel)
theorem aw_1254 : (Jvm.Cond.methodLink "PowerwellLaw" (142 : Nat) ({ cls := "Powerwell", name := "cause", desc := "()I" } : Jvm.MethodName)) ∈ rn_ALL := rn_in (i := 1317) (by decide +kernel) (by decide +kernel)
theorem aw_1255 : (Jvm.Cond.instanceMethod ({ cls := "Powerwell", name := "cause", desc := "()I" } : Jvm.MethodName)) ∈ rn_ALL := rn_in (i := 1318) (by decide +kernel) (by decide +kernel)
theorem aw_1256 : (Jvm.Cond.selects "Powerwell" ({ cls := "Powerwell", name := "cause", desc := "()I" } : Jvm.MethodName) ({ cls := "Powerwell", name := "cause", desc := "()I" } : Jvm.MethodName)) ∈ rn_ALL := rn_in (i := 1319) (by decide +kernel) (by decide +kernel)
theorem aw_1257 : (Jvm.Cond.code ({ cls := "Powerwell", name := "cause", desc := "()I" } : Jvm.MethodName) prog_1_method_37_code (1 : Nat) (Option.some Jvm.ClassFile.FieldType.int)) ∈ rn_ALL := rn_in (i := 1320) (by decide +kernel) (by decide +kernel)
theorem aw_1274 : (Jvm.Cond.constant "PowerwellLaw" (75 : Nat) (-2000000001 : Int32)) ∈ rn_ALL := rn_in (i := 1337) (by decide +kernel) (by decide +kernel)
theorem aw_1275 : (Jvm.Cond.constant "PowerwellLaw" (78 : Nat) (-2000000002 : Int32)) ∈ rn_ALL := rn_in (i := 1338) (by decide +kernel) (by decide +kernel)
theorem aw_1276 : (Jvm.Cond.constant "PowerwellLaw" (81 : Nat) (-2000000003 : Int32)) ∈ rn_ALL := rn_in (i := 1339) (by decide +kernel) (by decide +kernel)
theorem aw_1277 : (Jvm.Cond.constant "PowerwellLaw" (84 : Nat) (-2000000004 : Int32)) ∈ rn_ALL := rn_in (i := 1340) (by decide +kernel) (by decide +kernel)
theorem aw_1278 : (Jvm.Cond.constant "PowerwellLaw" (87 : Nat) (-2000000005 : Int32)) ∈ rn_ALL := rn_in (i := 1341) (by decide +kernel) (by decide +kernel)
theorem aw_1279 : (Jvm.Cond.methodLink "PowerwellLaw" (156 : Nat) ({ cls := "PowerwellLaw", name := "hasNone", desc := "(LPowerwell;Z)Z" } : Jvm.MethodName)) ∈ rn_ALL := rn_in (i := 1342) (by decide +kernel) (by decide +kernel)
theorem aw_1280 : (Jvm.Cond.static ({ cls := "PowerwellLaw", name := "hasNone", desc := "(LPowerwell;Z)Z" } : Jvm.MethodName)) ∈ rn_ALL := rn_in (i := 1343) (by decide +kernel) (by decide +kernel)
theorem aw_1281 : (Jvm.Cond.codeWith ({ cls := "PowerwellLaw", name := "hasNone", desc := "(LPowerwell;Z)Z" } : Jvm.MethodName) method_6_code (4 : Nat) (Option.some Jvm.ClassFile.FieldType.boolean) [((0 : Nat), (18 : Nat), (19 : Nat), (153 : Nat))]) ∈ rn_ALL := rn_in (i := 1344) (by decide +kernel) (by decide +kernel)
theorem aw_1296 : (Jvm.Cond.methodLink "PowerwellLaw" (145 : Nat) ({ cls := "Powerwell", name := "onShare", desc := "()F" } : Jvm.MethodName)) ∈ rn_ALL := rn_in (i := 1359) (by decide +kernel) (by decide +kernel)
theorem aw_1297 : (Jvm.Cond.instanceMethod ({ cls := "Powerwell", name := "onShare", desc := "()F" } : Jvm.MethodName)) ∈ rn_ALL := rn_in (i := 1360) (by decide +kernel) (by decide +kernel)
theorem aw_1298 : (Jvm.Cond.selects "Powerwell" ({ cls := "Powerwell", name := "onShare", desc := "()F" } : Jvm.MethodName) ({ cls := "Powerwell", name := "onShare", desc := "()F" } : Jvm.MethodName)) ∈ rn_ALL := rn_in (i := 1361) (by decide +kernel) (by decide +kernel)
theorem aw_1299 : (Jvm.Cond.code ({ cls := "Powerwell", name := "onShare", desc := "()F" } : Jvm.MethodName) prog_1_method_38_code (4 : Nat) (Option.some Jvm.ClassFile.FieldType.float)) ∈ rn_ALL := rn_in (i := 1362) (by decide +kernel) (by decide +kernel)
theorem aw_1303 : (Jvm.Cond.methodLink "PowerwellLaw" (149 : Nat) ({ cls := "Powerwell", name := "meanWarmth", desc := "()D" } : Jvm.MethodName)) ∈ rn_ALL := rn_in (i := 1366) (by decide +kernel) (by decide +kernel)
theorem aw_1304 : (Jvm.Cond.instanceMethod ({ cls := "Powerwell", name := "meanWarmth", desc := "()D" } : Jvm.MethodName)) ∈ rn_ALL := rn_in (i := 1367) (by decide +kernel) (by decide +kernel)
theorem aw_1305 : (Jvm.Cond.selects "Powerwell" ({ cls := "Powerwell", name := "meanWarmth", desc := "()D" } : Jvm.MethodName) ({ cls := "Powerwell", name := "meanWarmth", desc := "()D" } : Jvm.MethodName)) ∈ rn_ALL := rn_in (i := 1368) (by decide +kernel) (by decide +kernel)
theorem aw_1306 : (Jvm.Cond.code ({ cls := "Powerwell", name := "meanWarmth", desc := "()D" } : Jvm.MethodName) prog_1_method_39_code (5 : Nat) (Option.some Jvm.ClassFile.FieldType.double)) ∈ rn_ALL := rn_in (i := 1369) (by decide +kernel) (by decide +kernel)
theorem aw_1307 : (Jvm.Cond.methodLink "PowerwellLaw" (176 : Nat) ({ cls := "PowerwellLaw", name := "full", desc := "()Z" } : Jvm.MethodName)) ∈ rn_ALL := rn_in (i := 1370) (by decide +kernel) (by decide +kernel)
theorem aw_1308 : (Jvm.Cond.static ({ cls := "PowerwellLaw", name := "full", desc := "()Z" } : Jvm.MethodName)) ∈ rn_ALL := rn_in (i := 1371) (by decide +kernel) (by decide +kernel)
theorem aw_1309 : (Jvm.Cond.code ({ cls := "PowerwellLaw", name := "full", desc := "()Z" } : Jvm.MethodName) method_8_code (2 : Nat) (Option.some Jvm.ClassFile.FieldType.boolean)) ∈ rn_ALL := rn_in (i := 1372) (by decide +kernel) (by decide +kernel)
theorem aw_1310 : (Jvm.Cond.methodLink "PowerwellLaw" (179 : Nat) ({ cls := "PowerwellLaw", name := "sleeping", desc := "([I)Z" } : Jvm.MethodName)) ∈ rn_ALL := rn_in (i := 1373) (by decide +kernel) (by decide +kernel)
theorem aw_1311 : (Jvm.Cond.static ({ cls := "PowerwellLaw", name := "sleeping", desc := "([I)Z" } : Jvm.MethodName)) ∈ rn_ALL := rn_in (i := 1374) (by decide +kernel) (by decide +kernel)
theorem aw_1312 : (Jvm.Cond.code ({ cls := "PowerwellLaw", name := "sleeping", desc := "([I)Z" } : Jvm.MethodName) method_9_code (19 : Nat) (Option.some Jvm.ClassFile.FieldType.boolean)) ∈ rn_ALL := rn_in (i := 1375) (by decide +kernel) (by decide +kernel)
theorem aw_1313 : (Jvm.Cond.methodLink "PowerwellLaw" (183 : Nat) ({ cls := "PowerwellLaw", name := "at", desc := "([II)I" } : Jvm.MethodName)) ∈ rn_ALL := rn_in (i := 1376) (by decide +kernel) (by decide +kernel)
theorem aw_1314 : (Jvm.Cond.static ({ cls := "PowerwellLaw", name := "at", desc := "([II)I" } : Jvm.MethodName)) ∈ rn_ALL := rn_in (i := 1377) (by decide +kernel) (by decide +kernel)
theorem aw_1315 : (Jvm.Cond.code ({ cls := "PowerwellLaw", name := "at", desc := "([II)I" } : Jvm.MethodName) method_2_code (2 : Nat) (Option.some Jvm.ClassFile.FieldType.int)) ∈ rn_ALL := rn_in (i := 1378) (by decide +kernel) (by decide +kernel)
theorem aw_1316 : (Jvm.Cond.methodLink "PowerwellLaw" (187 : Nat) ({ cls := "PowerwellLaw", name := "some", desc := "(II)I" } : Jvm.MethodName)) ∈ rn_ALL := rn_in (i := 1379) (by decide +kernel) (by decide +kernel)
theorem aw_1317 : (Jvm.Cond.static ({ cls := "PowerwellLaw", name := "some", desc := "(II)I" } : Jvm.MethodName)) ∈ rn_ALL := rn_in (i := 1380) (by decide +kernel) (by decide +kernel)
theorem aw_1318 : (Jvm.Cond.code ({ cls := "PowerwellLaw", name := "some", desc := "(II)I" } : Jvm.MethodName) method_3_code (3 : Nat) (Option.some Jvm.ClassFile.FieldType.int)) ∈ rn_ALL := rn_in (i := 1381) (by decide +kernel) (by decide +kernel)
theorem aw_1319 : (Jvm.Cond.constant "PowerwellLaw" (190 : Nat) (100000 : Int32)) ∈ rn_ALL := rn_in (i := 1382) (by decide +kernel) (by decide +kernel)
theorem aw_1320 : (Jvm.Cond.methodLink "PowerwellLaw" (191 : Nat) ({ cls := "PowerwellLaw", name := "stand", desc := "(LPowerwell;[ZZ)Z" } : Jvm.MethodName)) ∈ rn_ALL := rn_in (i := 1383) (by decide +kernel) (by decide +kernel)
theorem aw_1321 : (Jvm.Cond.static ({ cls := "PowerwellLaw", name := "stand", desc := "(LPowerwell;[ZZ)Z" } : Jvm.MethodName)) ∈ rn_ALL := rn_in (i := 1384) (by decide +kernel) (by decide +kernel)
theorem aw_1322 : (Jvm.Cond.code ({ cls := "PowerwellLaw", name := "stand", desc := "(LPowerwell;[ZZ)Z" } : Jvm.MethodName) method_10_code (6 : Nat) (Option.some Jvm.ClassFile.FieldType.boolean)) ∈ rn_ALL := rn_in (i := 1385) (by decide +kernel) (by decide +kernel)
theorem aw_1323 : (Jvm.Cond.arrayClass Jvm.ClassFile.FieldType.boolean) ∈ rn_ALL := rn_in (i := 1386) (by decide +kernel) (by decide +kernel)
theorem aw_1324 : (Jvm.Cond.constantLong "PowerwellLaw" (168 : Nat) (7 : Int64)) ∈ rn_ALL := rn_in (i := 1387) (by decide +kernel) (by decide +kernel)
theorem as_0 : Cond.selects "Powerwell$Domain" ⟨"Powerwell$Domain", "isUsed", "()Z"⟩ ⟨"Powerwell$Domain", "isUsed", "()Z"⟩ ∈ rn_ALL := rn_in (i := 0) (by decide +kernel) (by decide +kernel)
theorem as_1 : Cond.selects "Powerwell" ⟨"Powerwell", "areRegistersKept", "()Z"⟩ ⟨"Powerwell", "areRegistersKept", "()Z"⟩ ∈ rn_ALL := rn_in (i := 1) (by decide +kernel) (by decide +kernel)
theorem as_2 : Cond.selects "Powerwell" ⟨"Powerwell", "areUsedDomainsOn", "()Z"⟩ ⟨"Powerwell", "areUsedDomainsOn", "()Z"⟩ ∈ rn_ALL := rn_in (i := 2) (by decide +kernel) (by decide +kernel)
theorem as_3 : Cond.selects "Powerwell$Domain" ⟨"Powerwell$Domain", "isUsedUpward", "()Z"⟩ ⟨"Powerwell$Domain", "isUsedUpward", "()Z"⟩ ∈ rn_ALL := rn_in (i := 3) (by decide +kernel) (by decide +kernel)
theorem as_4 : Cond.selects "Powerwell" ⟨"Powerwell", "areClaimsAllEnergy", "()Z"⟩ ⟨"Powerwell", "areClaimsAllEnergy", "()Z"⟩ ∈ rn_ALL := rn_in (i := 4) (by decide +kernel) (by decide +kernel)
theorem as_5 : Cond.selects "Powerwell" ⟨"Powerwell", "areLevelsBounded", "()Z"⟩ ⟨"Powerwell", "areLevelsBounded", "()Z"⟩ ∈ rn_ALL := rn_in (i := 5) (by decide +kernel) (by decide +kernel)
theorem as_6 : Cond.selects "Powerwell$Rail" ⟨"Powerwell$Rail", "greatestLevel", "()I"⟩ ⟨"Powerwell$Rail", "greatestLevel", "()I"⟩ ∈ rn_ALL := rn_in (i := 6) (by decide +kernel) (by decide +kernel)
theorem as_8 : Cond.selects "java/util/ArrayList" ⟨"java/util/ArrayList", "add", "(Ljava/lang/Object;[Ljava/lang/Object;I)V"⟩ ⟨"java/util/ArrayList", "add", "(Ljava/lang/Object;[Ljava/lang/Object;I)V"⟩ ∈ rn_ALL := rn_in (i := 8) (by decide +kernel) (by decide +kernel)
theorem as_9 : Cond.selects "java/util/ArrayList" ⟨"java/util/ArrayList", "grow", "()[Ljava/lang/Object;"⟩ ⟨"java/util/ArrayList", "grow", "()[Ljava/lang/Object;"⟩ ∈ rn_ALL := rn_in (i := 9) (by decide +kernel) (by decide +kernel)
theorem as_10 : Cond.selects "java/util/ArrayList" ⟨"java/util/ArrayList", "grow", "(I)[Ljava/lang/Object;"⟩ ⟨"java/util/ArrayList", "grow", "(I)[Ljava/lang/Object;"⟩ ∈ rn_ALL := rn_in (i := 10) (by decide +kernel) (by decide +kernel)
theorem as_11 : Cond.selects "Powerwell" ⟨"Powerwell", "railAt", "(I)LPowerwell$Rail;"⟩ ⟨"Powerwell", "railAt", "(I)LPowerwell$Rail;"⟩ ∈ rn_ALL := rn_in (i := 11) (by decide +kernel) (by decide +kernel)
theorem as_12 : Cond.selects "Powerwell$Rail" ⟨"Powerwell$Rail", "isBeyondLastPair", "(II)Z"⟩ ⟨"Powerwell$Rail", "isBeyondLastPair", "(II)Z"⟩ ∈ rn_ALL := rn_in (i := 12) (by decide +kernel) (by decide +kernel)
theorem as_13 : Cond.selects "Powerwell$Rail" ⟨"Powerwell$Rail", "wish", "()I"⟩ ⟨"Powerwell$Rail", "wish", "()I"⟩ ∈ rn_ALL := rn_in (i := 13) (by decide +kernel) (by decide +kernel)
theorem as_14 : Cond.selects "Powerwell$Rail" ⟨"Powerwell$Rail", "sumOfVotes", "()I"⟩ ⟨"Powerwell$Rail", "sumOfVotes", "()I"⟩ ∈ rn_ALL := rn_in (i := 14) (by decide +kernel) (by decide +kernel)
theorem as_15 : Cond.selects "Powerwell$Rail" ⟨"Powerwell$Rail", "greatestVote", "()I"⟩ ⟨"Powerwell$Rail", "greatestVote", "()I"⟩ ∈ rn_ALL := rn_in (i := 15) (by decide +kernel) (by decide +kernel)
theorem as_16 : Cond.selects "Powerwell$Rail" ⟨"Powerwell$Rail", "aimedPair", "()I"⟩ ⟨"Powerwell$Rail", "aimedPair", "()I"⟩ ∈ rn_ALL := rn_in (i := 16) (by decide +kernel) (by decide +kernel)
theorem as_17 : Cond.selects "Powerwell$Rail" ⟨"Powerwell$Rail", "isOverBudget", "()Z"⟩ ⟨"Powerwell$Rail", "isOverBudget", "()Z"⟩ ∈ rn_ALL := rn_in (i := 17) (by decide +kernel) (by decide +kernel)
theorem as_18 : Cond.selects "Powerwell" ⟨"Powerwell", "domainAt", "(I)LPowerwell$Domain;"⟩ ⟨"Powerwell", "domainAt", "(I)LPowerwell$Domain;"⟩ ∈ rn_ALL := rn_in (i := 18) (by decide +kernel) (by decide +kernel)
theorem as_19 : Cond.selects "Powerwell" ⟨"Powerwell", "deviceAt", "(I)LPowerwell$Device;"⟩ ⟨"Powerwell", "deviceAt", "(I)LPowerwell$Device;"⟩ ∈ rn_ALL := rn_in (i := 19) (by decide +kernel) (by decide +kernel)
theorem as_20 : Cond.selects "Powerwell$Device" ⟨"Powerwell$Device", "hasSupplier", "(LPowerwell$Device;)Z"⟩ ⟨"Powerwell$Device", "hasSupplier", "(LPowerwell$Device;)Z"⟩ ∈ rn_ALL := rn_in (i := 20) (by decide +kernel) (by decide +kernel)
theorem as_21 : Cond.selects "Powerwell$Device" ⟨"Powerwell$Device", "addSupplier", "(LPowerwell$Device;)V"⟩ ⟨"Powerwell$Device", "addSupplier", "(LPowerwell$Device;)V"⟩ ∈ rn_ALL := rn_in (i := 21) (by decide +kernel) (by decide +kernel)
theorem as_22 : Cond.selects "java/util/ArrayList" ⟨"java/util/ArrayList", "rangeCheckForAdd", "(I)V"⟩ ⟨"java/util/ArrayList", "rangeCheckForAdd", "(I)V"⟩ ∈ rn_ALL := rn_in (i := 22) (by decide +kernel) (by decide +kernel)
theorem as_24 : Cond.selects "Powerwell" ⟨"Powerwell", "refuseAsleep", "()V"⟩ ⟨"Powerwell", "refuseAsleep", "()V"⟩ ∈ rn_ALL := rn_in (i := 24) (by decide +kernel) (by decide +kernel)
theorem as_25 : Cond.selects "Powerwell" ⟨"Powerwell", "take", "(LPowerwell$Device;)V"⟩ ⟨"Powerwell", "take", "(LPowerwell$Device;)V"⟩ ∈ rn_ALL := rn_in (i := 25) (by decide +kernel) (by decide +kernel)
theorem as_26 : Cond.selects "Powerwell$Device" ⟨"Powerwell$Device", "wakeUp", "(I)V"⟩ ⟨"Powerwell$Device", "wakeUp", "(I)V"⟩ ∈ rn_ALL := rn_in (i := 26) (by decide +kernel) (by decide +kernel)
theorem as_27 : Cond.selects "Powerwell$Domain" ⟨"Powerwell$Domain", "addUse", "()V"⟩ ⟨"Powerwell$Domain", "addUse", "()V"⟩ ∈ rn_ALL := rn_in (i := 27) (by decide +kernel) (by decide +kernel)
theorem as_28 : Cond.selects "Powerwell$Idleness" ⟨"Powerwell$Idleness", "endStay", "(I)V"⟩ ⟨"Powerwell$Idleness", "endStay", "(I)V"⟩ ∈ rn_ALL := rn_in (i := 28) (by decide +kernel) (by decide +kernel)
theorem as_29 : Cond.selects "Powerwell$Idleness" ⟨"Powerwell$Idleness", "addStay", "(I)V"⟩ ⟨"Powerwell$Idleness", "addStay", "(I)V"⟩ ∈ rn_ALL := rn_in (i := 29) (by decide +kernel) (by decide +kernel)
theorem as_32 : Cond.selects "Powerwell$Device" ⟨"Powerwell$Device", "fallAsleep", "(ILjava/util/ArrayList;)V"⟩ ⟨"Powerwell$Device", "fallAsleep", "(ILjava/util/ArrayList;)V"⟩ ∈ rn_ALL := rn_in (i := 32) (by decide +kernel) (by decide +kernel)
theorem as_33 : Cond.selects "Powerwell$Domain" ⟨"Powerwell$Domain", "dropUse", "()V"⟩ ⟨"Powerwell$Domain", "dropUse", "()V"⟩ ∈ rn_ALL := rn_in (i := 33) (by decide +kernel) (by decide +kernel)
theorem as_34 : Cond.selects "Powerwell$Domain" ⟨"Powerwell$Domain", "loseRegisters", "()V"⟩ ⟨"Powerwell$Domain", "loseRegisters", "()V"⟩ ∈ rn_ALL := rn_in (i := 34) (by decide +kernel) (by decide +kernel)
theorem as_35 : Cond.selects "Powerwell$Idleness" ⟨"Powerwell$Idleness", "beginStay", "(ILjava/util/ArrayList;)V"⟩ ⟨"Powerwell$Idleness", "beginStay", "(ILjava/util/ArrayList;)V"⟩ ∈ rn_ALL := rn_in (i := 35) (by decide +kernel) (by decide +kernel)
theorem as_36 : Cond.selects "Powerwell$Idleness" ⟨"Powerwell$Idleness", "deepest", "(Ljava/util/ArrayList;)LPowerwell$Depth;"⟩ ⟨"Powerwell$Idleness", "deepest", "(Ljava/util/ArrayList;)LPowerwell$Depth;"⟩ ∈ rn_ALL := rn_in (i := 36) (by decide +kernel) (by decide +kernel)
theorem as_37 : Cond.selects "Powerwell$Idleness" ⟨"Powerwell$Idleness", "meanStay", "()I"⟩ ⟨"Powerwell$Idleness", "meanStay", "()I"⟩ ∈ rn_ALL := rn_in (i := 37) (by decide +kernel) (by decide +kernel)
theorem as_38 : Cond.selects "Powerwell" ⟨"Powerwell", "reachableAt", "(I)LPowerwell$Device;"⟩ ⟨"Powerwell", "reachableAt", "(I)LPowerwell$Device;"⟩ ∈ rn_ALL := rn_in (i := 38) (by decide +kernel) (by decide +kernel)
theorem as_40 : Cond.selects "Powerwell" ⟨"Powerwell", "passTick", "()V"⟩ ⟨"Powerwell", "passTick", "()V"⟩ ∈ rn_ALL := rn_in (i := 40) (by decide +kernel) (by decide +kernel)
theorem as_41 : Cond.selects "Powerwell$Rail" ⟨"Powerwell$Rail", "riseAndSpeed", "(Z)V"⟩ ⟨"Powerwell$Rail", "riseAndSpeed", "(Z)V"⟩ ∈ rn_ALL := rn_in (i := 41) (by decide +kernel) (by decide +kernel)
theorem as_42 : Cond.selects "Powerwell$Rail" ⟨"Powerwell$Rail", "aimedLevel", "(Z)I"⟩ ⟨"Powerwell$Rail", "aimedLevel", "(Z)I"⟩ ∈ rn_ALL := rn_in (i := 42) (by decide +kernel) (by decide +kernel)
theorem as_43 : Cond.selects "Powerwell$Rail" ⟨"Powerwell$Rail", "isUsed", "()Z"⟩ ⟨"Powerwell$Rail", "isUsed", "()Z"⟩ ∈ rn_ALL := rn_in (i := 43) (by decide +kernel) (by decide +kernel)
theorem as_44 : Cond.selects "Powerwell$Rail" ⟨"Powerwell$Rail", "reachedSpeed", "()I"⟩ ⟨"Powerwell$Rail", "reachedSpeed", "()I"⟩ ∈ rn_ALL := rn_in (i := 44) (by decide +kernel) (by decide +kernel)
theorem as_45 : Cond.selects "Powerwell$Device" ⟨"Powerwell$Device", "doWork", "()V"⟩ ⟨"Powerwell$Device", "doWork", "()V"⟩ ∈ rn_ALL := rn_in (i := 45) (by decide +kernel) (by decide +kernel)
theorem as_46 : Cond.selects "Powerwell$Idleness" ⟨"Powerwell$Idleness", "passCost", "()Z"⟩ ⟨"Powerwell$Idleness", "passCost", "()Z"⟩ ∈ rn_ALL := rn_in (i := 46) (by decide +kernel) (by decide +kernel)
theorem as_47 : Cond.selects "Powerwell" ⟨"Powerwell", "reckonEnergy", "()V"⟩ ⟨"Powerwell", "reckonEnergy", "()V"⟩ ∈ rn_ALL := rn_in (i := 47) (by decide +kernel) (by decide +kernel)
theorem as_48 : Cond.selects "Powerwell$Domain" ⟨"Powerwell$Domain", "gainEnergy", "()V"⟩ ⟨"Powerwell$Domain", "gainEnergy", "()V"⟩ ∈ rn_ALL := rn_in (i := 48) (by decide +kernel) (by decide +kernel)
theorem as_49 : Cond.selects "Powerwell$Domain" ⟨"Powerwell$Domain", "energyOfWork", "()I"⟩ ⟨"Powerwell$Domain", "energyOfWork", "()I"⟩ ∈ rn_ALL := rn_in (i := 49) (by decide +kernel) (by decide +kernel)
theorem as_50 : Cond.selects "Powerwell$Rail" ⟨"Powerwell$Rail", "energyOfTick", "()J"⟩ ⟨"Powerwell$Rail", "energyOfTick", "()J"⟩ ∈ rn_ALL := rn_in (i := 50) (by decide +kernel) (by decide +kernel)
theorem as_51 : Cond.selects "Powerwell$Rail" ⟨"Powerwell$Rail", "remember", "(J)V"⟩ ⟨"Powerwell$Rail", "remember", "(J)V"⟩ ∈ rn_ALL := rn_in (i := 51) (by decide +kernel) (by decide +kernel)
theorem as_52 : Cond.selects "Powerwell" ⟨"Powerwell", "claimEnergy", "(LPowerwell$Rail;J)V"⟩ ⟨"Powerwell", "claimEnergy", "(LPowerwell$Rail;J)V"⟩ ∈ rn_ALL := rn_in (i := 52) (by decide +kernel) (by decide +kernel)
theorem as_53 : Cond.selects "Powerwell" ⟨"Powerwell", "letWarmthFlow", "()V"⟩ ⟨"Powerwell", "letWarmthFlow", "()V"⟩ ∈ rn_ALL := rn_in (i := 53) (by decide +kernel) (by decide +kernel)
theorem as_54 : Cond.selects "Powerwell$Domain" ⟨"Powerwell$Domain", "reckonFlow", "()V"⟩ ⟨"Powerwell$Domain", "reckonFlow", "()V"⟩ ∈ rn_ALL := rn_in (i := 54) (by decide +kernel) (by decide +kernel)
theorem as_55 : Cond.selects "Powerwell$Domain" ⟨"Powerwell$Domain", "flowOut", "()V"⟩ ⟨"Powerwell$Domain", "flowOut", "()V"⟩ ∈ rn_ALL := rn_in (i := 55) (by decide +kernel) (by decide +kernel)
theorem as_56 : Cond.selects "Powerwell$Rail" ⟨"Powerwell$Rail", "lookAtTrips", "()V"⟩ ⟨"Powerwell$Rail", "lookAtTrips", "()V"⟩ ∈ rn_ALL := rn_in (i := 56) (by decide +kernel) (by decide +kernel)
theorem as_57 : Cond.selects "Powerwell$Rail" ⟨"Powerwell$Rail", "fall", "(Z)V"⟩ ⟨"Powerwell$Rail", "fall", "(Z)V"⟩ ∈ rn_ALL := rn_in (i := 57) (by decide +kernel) (by decide +kernel)
theorem as_58 : Cond.selects "Powerwell" ⟨"Powerwell", "passDelays", "()V"⟩ ⟨"Powerwell", "passDelays", "()V"⟩ ∈ rn_ALL := rn_in (i := 58) (by decide +kernel) (by decide +kernel)
theorem as_59 : Cond.selects "Powerwell$Device" ⟨"Powerwell$Device", "isIdling", "()Z"⟩ ⟨"Powerwell$Device", "isIdling", "()Z"⟩ ∈ rn_ALL := rn_in (i := 59) (by decide +kernel) (by decide +kernel)
theorem as_60 : Cond.selects "Powerwell" ⟨"Powerwell", "sourceAt", "(I)LPowerwell$Source;"⟩ ⟨"Powerwell", "sourceAt", "(I)LPowerwell$Source;"⟩ ∈ rn_ALL := rn_in (i := 60) (by decide +kernel) (by decide +kernel)
theorem as_61 : Cond.selects "Powerwell" ⟨"Powerwell", "wakeChipBy", "(LPowerwell$Source;I)Z"⟩ ⟨"Powerwell", "wakeChipBy", "(LPowerwell$Source;I)Z"⟩ ∈ rn_ALL := rn_in (i := 61) (by decide +kernel) (by decide +kernel)
theorem as_62 : Cond.selects "Powerwell$Source" ⟨"Powerwell$Source", "isPending", "()Z"⟩ ⟨"Powerwell$Source", "isPending", "()Z"⟩ ∈ rn_ALL := rn_in (i := 62) (by decide +kernel) (by decide +kernel)
theorem ab_131 : (Jvm.Cond.methodLinkNest "Powerwell" (122 : Nat) ({ cls := "Powerwell$Domain", name := "isUsed", desc := "()Z" } : Jvm.MethodName) "Powerwell") ∈ lw_tbl := List.mem_of_getElem? (i := 194) (by decide +kernel)
theorem ab_150 : (Jvm.Cond.methodLinkNest "Powerwell" (397 : Nat) ({ cls := "Powerwell$Domain", name := "isUsedUpward", desc := "()Z" } : Jvm.MethodName) "Powerwell") ∈ lw_tbl := List.mem_of_getElem? (i := 213) (by decide +kernel)
theorem ab_163 : (Jvm.Cond.methodLinkNest "Powerwell" (400 : Nat) ({ cls := "Powerwell$Rail", name := "greatestLevel", desc := "()I" } : Jvm.MethodName) "Powerwell") ∈ lw_tbl := List.mem_of_getElem? (i := 226) (by decide +kernel)
theorem ab_275 : (Jvm.Cond.stringRef "Powerwell" (38 : Nat) "no such rule") ∈ lw_tbl := List.mem_of_getElem? (i := 338) (by decide +kernel)
theorem ab_285 : (Jvm.Cond.stringRef "Powerwell" (47 : Nat) "the ramp is out of range") ∈ lw_tbl := List.mem_of_getElem? (i := 348) (by decide +kernel)
theorem ab_295 : (Jvm.Cond.stringRef "Powerwell" (55 : Nat) "no more rails") ∈ lw_tbl := List.mem_of_getElem? (i := 358) (by decide +kernel)
theorem ab_302 : (Jvm.Cond.methodLinkNest "Powerwell" (60 : Nat) ({ cls := "Powerwell$Rail", name := "<init>", desc := "(IZ)V" } : Jvm.MethodName) "Powerwell") ∈ lw_tbl := List.mem_of_getElem? (i := 365) (by decide +kernel)
theorem ab_311 : (Jvm.Cond.fieldLinkNest "Powerwell" (79 : Nat) "Powerwell$Rail" "pairs" "Ljava/util/ArrayList;" "Powerwell") ∈ lw_tbl := List.mem_of_getElem? (i := 374) (by decide +kernel)
theorem ab_313 : (Jvm.Cond.fieldLinkNest "Powerwell" (121 : Nat) "Powerwell$Rail" "domains" "Ljava/util/ArrayList;" "Powerwell") ∈ lw_tbl := List.mem_of_getElem? (i := 376) (by decide +kernel)
theorem ab_315 : (Jvm.Cond.fieldLinkNest "Powerwell" (94 : Nat) "Powerwell$Rail" "votes" "[I" "Powerwell") ∈ lw_tbl := List.mem_of_getElem? (i := 378) (by decide +kernel)
theorem ab_317 : (Jvm.Cond.fieldLinkNest "Powerwell" (104 : Nat) "Powerwell$Rail" "level" "I" "Powerwell") ∈ lw_tbl := List.mem_of_getElem? (i := 380) (by decide +kernel)
theorem ab_318 : (Jvm.Cond.fieldLinkNest "Powerwell$Domain" (57 : Nat) "Powerwell$Rail" "level" "I" "Powerwell") ∈ lw_tbl := List.mem_of_getElem? (i := 381) (by decide +kernel)
theorem ab_320 : (Jvm.Cond.fieldLinkNest "Powerwell" (107 : Nat) "Powerwell$Rail" "speed" "I" "Powerwell") ∈ lw_tbl := List.mem_of_getElem? (i := 383) (by decide +kernel)
theorem ab_321 : (Jvm.Cond.fieldLinkNest "Powerwell$Device" (90 : Nat) "Powerwell$Rail" "speed" "I" "Powerwell") ∈ lw_tbl := List.mem_of_getElem? (i := 384) (by decide +kernel)
theorem ab_322 : (Jvm.Cond.fieldLinkNest "Powerwell$Domain" (78 : Nat) "Powerwell$Rail" "speed" "I" "Powerwell") ∈ lw_tbl := List.mem_of_getElem? (i := 385) (by decide +kernel)
theorem ab_325 : (Jvm.Cond.fieldLinkNest "Powerwell" (136 : Nat) "Powerwell$Rail" "isThrottled" "Z" "Powerwell") ∈ lw_tbl := List.mem_of_getElem? (i := 388) (by decide +kernel)
theorem ab_327 : (Jvm.Cond.fieldLinkNest "Powerwell" (141 : Nat) "Powerwell$Rail" "budget" "I" "Powerwell") ∈ lw_tbl := List.mem_of_getElem? (i := 390) (by decide +kernel)
theorem ab_329 : (Jvm.Cond.fieldLinkNest "Powerwell" (144 : Nat) "Powerwell$Rail" "window" "I" "Powerwell") ∈ lw_tbl := List.mem_of_getElem? (i := 392) (by decide +kernel)
theorem ab_409 : (Jvm.Cond.arrayOver (Jvm.ClassFile.FieldType.object "java/lang/Object")) ∈ lw_tbl := List.mem_of_getElem? (i := 472) (by decide +kernel)
theorem ab_436 : (Jvm.Cond.stringRef "Powerwell" (319 : Nat) "no such rail") ∈ lw_tbl := List.mem_of_getElem? (i := 499) (by decide +kernel)
theorem ab_440 : (Jvm.Cond.stringRef "Powerwell" (71 : Nat) "a number is out of range") ∈ lw_tbl := List.mem_of_getElem? (i := 503) (by decide +kernel)
theorem ab_441 : (Jvm.Cond.methodLinkNest "Powerwell" (73 : Nat) ({ cls := "Powerwell$Rail", name := "isBeyondLastPair", desc := "(II)Z" } : Jvm.MethodName) "Powerwell") ∈ lw_tbl := List.mem_of_getElem? (i := 504) (by decide +kernel)
theorem ab_445 : (Jvm.Cond.stringRef "Powerwell" (77 : Nat) "not greater than the pair ahead") ∈ lw_tbl := List.mem_of_getElem? (i := 508) (by decide +kernel)
theorem ab_446 : (Jvm.Cond.stringRef "Powerwell" (82 : Nat) "no more pairs") ∈ lw_tbl := List.mem_of_getElem? (i := 509) (by decide +kernel)
theorem ab_449 : (Jvm.Cond.methodLinkNest "Powerwell" (86 : Nat) ({ cls := "Powerwell$Pair", name := "<init>", desc := "(II)V" } : Jvm.MethodName) "Powerwell") ∈ lw_tbl := List.mem_of_getElem? (i := 512) (by decide +kernel)
theorem ab_454 : (Jvm.Cond.fieldLinkNest "Powerwell$Rail" (51 : Nat) "Powerwell$Pair" "speed" "I" "Powerwell") ∈ lw_tbl := List.mem_of_getElem? (i := 517) (by decide +kernel)
theorem ab_456 : (Jvm.Cond.fieldLinkNest "Powerwell$Rail" (54 : Nat) "Powerwell$Pair" "level" "I" "Powerwell") ∈ lw_tbl := List.mem_of_getElem? (i := 519) (by decide +kernel)
theorem ab_466 : (Jvm.Cond.stringRef "Powerwell" (91 : Nat) "no such user") ∈ lw_tbl := List.mem_of_getElem? (i := 529) (by decide +kernel)
theorem ab_467 : (Jvm.Cond.methodLinkNest "Powerwell" (98 : Nat) ({ cls := "Powerwell$Rail", name := "wish", desc := "()I" } : Jvm.MethodName) "Powerwell") ∈ lw_tbl := List.mem_of_getElem? (i := 530) (by decide +kernel)
theorem ab_484 : (Jvm.Cond.methodLinkNest "Powerwell" (101 : Nat) ({ cls := "Powerwell$Rail", name := "aimedPair", desc := "()I" } : Jvm.MethodName) "Powerwell") ∈ lw_tbl := List.mem_of_getElem? (i := 547) (by decide +kernel)
theorem ab_510 : (Jvm.Cond.stringRef "Powerwell" (321 : Nat) "no such domain") ∈ lw_tbl := List.mem_of_getElem? (i := 573) (by decide +kernel)
theorem ab_511 : (Jvm.Cond.stringRef "Powerwell" (114 : Nat) "no more domains") ∈ lw_tbl := List.mem_of_getElem? (i := 574) (by decide +kernel)
theorem ab_512 : (Jvm.Cond.methodLinkNest "Powerwell" (118 : Nat) ({ cls := "Powerwell$Domain", name := "<init>", desc := "(LPowerwell$Domain;LPowerwell$Rail;Z)V" } : Jvm.MethodName) "Powerwell") ∈ lw_tbl := List.mem_of_getElem? (i := 575) (by decide +kernel)
theorem ab_520 : (Jvm.Cond.fieldLinkNest "Powerwell$Device" (86 : Nat) "Powerwell$Domain" "rail" "LPowerwell$Rail;" "Powerwell") ∈ lw_tbl := List.mem_of_getElem? (i := 583) (by decide +kernel)
theorem ab_523 : (Jvm.Cond.fieldLinkNest "Powerwell" (157 : Nat) "Powerwell$Domain" "devices" "Ljava/util/ArrayList;" "Powerwell") ∈ lw_tbl := List.mem_of_getElem? (i := 586) (by decide +kernel)
theorem ab_526 : (Jvm.Cond.fieldLinkNest "Powerwell" (126 : Nat) "Powerwell$Domain" "warmth" "I" "Powerwell") ∈ lw_tbl := List.mem_of_getElem? (i := 589) (by decide +kernel)
theorem ab_527 : (Jvm.Cond.fieldLinkNest "Powerwell$Rail" (112 : Nat) "Powerwell$Domain" "warmth" "I" "Powerwell") ∈ lw_tbl := List.mem_of_getElem? (i := 590) (by decide +kernel)
theorem ab_529 : (Jvm.Cond.fieldLinkNest "Powerwell" (133 : Nat) "Powerwell$Domain" "trip" "I" "Powerwell") ∈ lw_tbl := List.mem_of_getElem? (i := 592) (by decide +kernel)
theorem ab_530 : (Jvm.Cond.fieldLinkNest "Powerwell$Rail" (115 : Nat) "Powerwell$Domain" "trip" "I" "Powerwell") ∈ lw_tbl := List.mem_of_getElem? (i := 593) (by decide +kernel)
theorem ab_532 : (Jvm.Cond.fieldLinkNest "Powerwell" (129 : Nat) "Powerwell$Domain" "energy" "J" "Powerwell") ∈ lw_tbl := List.mem_of_getElem? (i := 595) (by decide +kernel)
theorem ab_534 : (Jvm.Cond.fieldLinkNest "Powerwell$Rail" (105 : Nat) "Powerwell$Domain" "gained" "I" "Powerwell") ∈ lw_tbl := List.mem_of_getElem? (i := 597) (by decide +kernel)
theorem ab_578 : (Jvm.Cond.methodLinkNest "Powerwell" (147 : Nat) ({ cls := "Powerwell$Rail", name := "isOverBudget", desc := "()Z" } : Jvm.MethodName) "Powerwell") ∈ lw_tbl := List.mem_of_getElem? (i := 641) (by decide +kernel)
theorem ab_583 : (Jvm.Cond.stringRef "Powerwell" (150 : Nat) "no more devices") ∈ lw_tbl := List.mem_of_getElem? (i := 646) (by decide +kernel)
theorem ab_585 : (Jvm.Cond.methodLinkNest "Powerwell" (154 : Nat) ({ cls := "Powerwell$Device", name := "<init>", desc := "(ILPowerwell$Domain;II)V" } : Jvm.MethodName) "Powerwell") ∈ lw_tbl := List.mem_of_getElem? (i := 648) (by decide +kernel)
theorem ab_593 : (Jvm.Cond.methodLinkNest "Powerwell$Device" (29 : Nat) ({ cls := "Powerwell$Idleness", name := "<init>", desc := "(I)V" } : Jvm.MethodName) "Powerwell") ∈ lw_tbl := List.mem_of_getElem? (i := 656) (by decide +kernel)
theorem ab_601 : (Jvm.Cond.fieldLinkNest "Powerwell" (231 : Nat) "Powerwell$Idleness" "depth" "LPowerwell$Depth;" "Powerwell") ∈ lw_tbl := List.mem_of_getElem? (i := 664) (by decide +kernel)
theorem ab_604 : (Jvm.Cond.fieldLinkNest "Powerwell" (238 : Nat) "Powerwell$Idleness" "misses" "I" "Powerwell") ∈ lw_tbl := List.mem_of_getElem? (i := 667) (by decide +kernel)
theorem ab_622 : (Jvm.Cond.fieldLinkNest "Powerwell" (158 : Nat) "Powerwell$Device" "number" "I" "Powerwell") ∈ lw_tbl := List.mem_of_getElem? (i := 685) (by decide +kernel)
theorem ab_624 : (Jvm.Cond.fieldLinkNest "Powerwell" (393 : Nat) "Powerwell$Device" "home" "LPowerwell$Domain;" "Powerwell") ∈ lw_tbl := List.mem_of_getElem? (i := 687) (by decide +kernel)
theorem ab_628 : (Jvm.Cond.fieldLinkNest "Powerwell" (227 : Nat) "Powerwell$Device" "idleness" "LPowerwell$Idleness;" "Powerwell") ∈ lw_tbl := List.mem_of_getElem? (i := 691) (by decide +kernel)
theorem ab_630 : (Jvm.Cond.fieldLinkNest "Powerwell" (188 : Nat) "Powerwell$Device" "suppliers" "Ljava/util/ArrayList;" "Powerwell") ∈ lw_tbl := List.mem_of_getElem? (i := 693) (by decide +kernel)
theorem ab_632 : (Jvm.Cond.fieldLinkNest "Powerwell" (179 : Nat) "Powerwell$Device" "count" "I" "Powerwell") ∈ lw_tbl := List.mem_of_getElem? (i := 695) (by decide +kernel)
theorem ab_634 : (Jvm.Cond.fieldLinkNest "Powerwell" (176 : Nat) "Powerwell$Device" "isAwake" "Z" "Powerwell") ∈ lw_tbl := List.mem_of_getElem? (i := 697) (by decide +kernel)
theorem ab_635 : (Jvm.Cond.fieldLinkNest "Powerwell" (284 : Nat) "Powerwell$Device" "sleepsByChip" "Z" "Powerwell") ∈ lw_tbl := List.mem_of_getElem? (i := 698) (by decide +kernel)
theorem ab_636 : (Jvm.Cond.fieldLinkNest "Powerwell" (338 : Nat) "Powerwell$Device" "delayLeft" "I" "Powerwell") ∈ lw_tbl := List.mem_of_getElem? (i := 699) (by decide +kernel)
theorem ab_638 : (Jvm.Cond.fieldLinkNest "Powerwell$Domain" (54 : Nat) "Powerwell$Device" "register" "I" "Powerwell") ∈ lw_tbl := List.mem_of_getElem? (i := 701) (by decide +kernel)
theorem ab_639 : (Jvm.Cond.fieldLinkNest "Powerwell" (205 : Nat) "Powerwell$Device" "register" "I" "Powerwell") ∈ lw_tbl := List.mem_of_getElem? (i := 702) (by decide +kernel)
theorem ab_641 : (Jvm.Cond.fieldLinkNest "Powerwell" (208 : Nat) "Powerwell$Device" "lastWritten" "I" "Powerwell") ∈ lw_tbl := List.mem_of_getElem? (i := 704) (by decide +kernel)
theorem ab_643 : (Jvm.Cond.fieldLinkNest "Powerwell" (244 : Nat) "Powerwell$Device" "unitsLeft" "I" "Powerwell") ∈ lw_tbl := List.mem_of_getElem? (i := 706) (by decide +kernel)
theorem ab_645 : (Jvm.Cond.fieldLinkNest "Powerwell$Domain" (75 : Nat) "Powerwell$Device" "hasWorked" "Z" "Powerwell") ∈ lw_tbl := List.mem_of_getElem? (i := 708) (by decide +kernel)
theorem ab_683 : (Jvm.Cond.stringRef "Powerwell" (323 : Nat) "no such device") ∈ lw_tbl := List.mem_of_getElem? (i := 746) (by decide +kernel)
theorem ab_684 : (Jvm.Cond.stringRef "Powerwell" (165 : Nat) "the supplier is not earlier") ∈ lw_tbl := List.mem_of_getElem? (i := 747) (by decide +kernel)
theorem ab_685 : (Jvm.Cond.methodLinkNest "Powerwell" (167 : Nat) ({ cls := "Powerwell$Device", name := "hasSupplier", desc := "(LPowerwell$Device;)Z" } : Jvm.MethodName) "Powerwell") ∈ lw_tbl := List.mem_of_getElem? (i := 748) (by decide +kernel)
theorem ab_700 : (Jvm.Cond.stringRef "Powerwell" (173 : Nat) "it needs it already") ∈ lw_tbl := List.mem_of_getElem? (i := 763) (by decide +kernel)
theorem ab_707 : (Jvm.Cond.stringRef "Powerwell" (182 : Nat) "it is not asleep with the count 0") ∈ lw_tbl := List.mem_of_getElem? (i := 770) (by decide +kernel)
theorem ab_708 : (Jvm.Cond.methodLinkNest "Powerwell" (184 : Nat) ({ cls := "Powerwell$Device", name := "addSupplier", desc := "(LPowerwell$Device;)V" } : Jvm.MethodName) "Powerwell") ∈ lw_tbl := List.mem_of_getElem? (i := 771) (by decide +kernel)
theorem ab_962 : (Jvm.Cond.stringRef "Powerwell" (327 : Nat) "the chip sleeps") ∈ lw_tbl := List.mem_of_getElem? (i := 1025) (by decide +kernel)
theorem ab_967 : (Jvm.Cond.methodLinkNest "Powerwell" (331 : Nat) ({ cls := "Powerwell$Device", name := "wakeUp", desc := "(I)V" } : Jvm.MethodName) "Powerwell") ∈ lw_tbl := List.mem_of_getElem? (i := 1030) (by decide +kernel)
theorem ab_971 : (Jvm.Cond.methodLinkNest "Powerwell$Device" (61 : Nat) ({ cls := "Powerwell$Domain", name := "addUse", desc := "()V" } : Jvm.MethodName) "Powerwell") ∈ lw_tbl := List.mem_of_getElem? (i := 1034) (by decide +kernel)
theorem ab_975 : (Jvm.Cond.methodLinkNest "Powerwell$Device" (66 : Nat) ({ cls := "Powerwell$Idleness", name := "endStay", desc := "(I)V" } : Jvm.MethodName) "Powerwell") ∈ lw_tbl := List.mem_of_getElem? (i := 1038) (by decide +kernel)
theorem ab_983 : (Jvm.Cond.methodLinkNest "Powerwell$Idleness" (61 : Nat) ({ cls := "Powerwell", name := "putFirst", desc := "([JJ)V" } : Jvm.MethodName) "Powerwell") ∈ lw_tbl := List.mem_of_getElem? (i := 1046) (by decide +kernel)
theorem ab_991 : (Jvm.Cond.stringRef "Powerwell" (197 : Nat) "its count is 0") ∈ lw_tbl := List.mem_of_getElem? (i := 1054) (by decide +kernel)
theorem ab_1000 : (Jvm.Cond.methodLinkNest "Powerwell" (287 : Nat) ({ cls := "Powerwell$Device", name := "fallAsleep", desc := "(ILjava/util/ArrayList;)V" } : Jvm.MethodName) "Powerwell") ∈ lw_tbl := List.mem_of_getElem? (i := 1063) (by decide +kernel)
theorem ab_1004 : (Jvm.Cond.methodLinkNest "Powerwell$Device" (69 : Nat) ({ cls := "Powerwell$Domain", name := "dropUse", desc := "()V" } : Jvm.MethodName) "Powerwell") ∈ lw_tbl := List.mem_of_getElem? (i := 1067) (by decide +kernel)
theorem ab_1015 : (Jvm.Cond.methodLinkNest "Powerwell$Device" (72 : Nat) ({ cls := "Powerwell$Idleness", name := "beginStay", desc := "(ILjava/util/ArrayList;)V" } : Jvm.MethodName) "Powerwell") ∈ lw_tbl := List.mem_of_getElem? (i := 1078) (by decide +kernel)
theorem ab_1045 : (Jvm.Cond.stringRef "Powerwell" (329 : Nat) "it is asleep") ∈ lw_tbl := List.mem_of_getElem? (i := 1108) (by decide +kernel)
theorem ab_1064 : (Jvm.Cond.stringRef "Powerwell" (220 : Nat) "less than the depth ahead") ∈ lw_tbl := List.mem_of_getElem? (i := 1127) (by decide +kernel)
theorem ab_1065 : (Jvm.Cond.stringRef "Powerwell" (222 : Nat) "no more depths") ∈ lw_tbl := List.mem_of_getElem? (i := 1128) (by decide +kernel)
theorem ab_1071 : (Jvm.Cond.fieldLinkNest "Powerwell" (237 : Nat) "Powerwell$Depth" "number" "I" "Powerwell") ∈ lw_tbl := List.mem_of_getElem? (i := 1134) (by decide +kernel)
theorem ab_1073 : (Jvm.Cond.fieldLinkNest "Powerwell$Idleness" (51 : Nat) "Powerwell$Depth" "cost" "I" "Powerwell") ∈ lw_tbl := List.mem_of_getElem? (i := 1136) (by decide +kernel)
theorem ab_1075 : (Jvm.Cond.fieldLinkNest "Powerwell$Idleness" (48 : Nat) "Powerwell$Depth" "least" "I" "Powerwell") ∈ lw_tbl := List.mem_of_getElem? (i := 1138) (by decide +kernel)
theorem ab_1095 : (Jvm.Cond.methodLinkNest "Powerwell" (241 : Nat) ({ cls := "Powerwell$Idleness", name := "meanStay", desc := "()I" } : Jvm.MethodName) "Powerwell") ∈ lw_tbl := List.mem_of_getElem? (i := 1158) (by decide +kernel)
theorem ab_1112 : (Jvm.Cond.methodLinkNest "Powerwell" (344 : Nat) ({ cls := "Powerwell$Rail", name := "riseAndSpeed", desc := "(Z)V" } : Jvm.MethodName) "Powerwell") ∈ lw_tbl := List.mem_of_getElem? (i := 1175) (by decide +kernel)
theorem ab_1126 : (Jvm.Cond.methodLinkNest "Powerwell$Rail" (89 : Nat) ({ cls := "Powerwell$Domain", name := "isUsed", desc := "()Z" } : Jvm.MethodName) "Powerwell") ∈ lw_tbl := List.mem_of_getElem? (i := 1189) (by decide +kernel)
theorem ab_1131 : (Jvm.Cond.methodLinkNest "Powerwell" (348 : Nat) ({ cls := "Powerwell$Device", name := "doWork", desc := "()V" } : Jvm.MethodName) "Powerwell") ∈ lw_tbl := List.mem_of_getElem? (i := 1194) (by decide +kernel)
theorem ab_1135 : (Jvm.Cond.methodLinkNest "Powerwell$Device" (79 : Nat) ({ cls := "Powerwell$Idleness", name := "passCost", desc := "()Z" } : Jvm.MethodName) "Powerwell") ∈ lw_tbl := List.mem_of_getElem? (i := 1198) (by decide +kernel)
theorem ab_1144 : (Jvm.Cond.methodLinkNest "Powerwell" (366 : Nat) ({ cls := "Powerwell$Domain", name := "gainEnergy", desc := "()V" } : Jvm.MethodName) "Powerwell") ∈ lw_tbl := List.mem_of_getElem? (i := 1207) (by decide +kernel)
theorem ab_1152 : (Jvm.Cond.methodLinkNest "Powerwell" (369 : Nat) ({ cls := "Powerwell$Rail", name := "energyOfTick", desc := "()J" } : Jvm.MethodName) "Powerwell") ∈ lw_tbl := List.mem_of_getElem? (i := 1215) (by decide +kernel)
theorem ab_1156 : (Jvm.Cond.methodLinkNest "Powerwell" (373 : Nat) ({ cls := "Powerwell$Rail", name := "remember", desc := "(J)V" } : Jvm.MethodName) "Powerwell") ∈ lw_tbl := List.mem_of_getElem? (i := 1219) (by decide +kernel)
theorem ab_1160 : (Jvm.Cond.methodLinkNest "Powerwell$Rail" (108 : Nat) ({ cls := "Powerwell", name := "putFirst", desc := "([JJ)V" } : Jvm.MethodName) "Powerwell") ∈ lw_tbl := List.mem_of_getElem? (i := 1223) (by decide +kernel)
theorem ab_1165 : (Jvm.Cond.methodLinkNest "Powerwell" (381 : Nat) ({ cls := "Powerwell$Rail", name := "sumOfVotes", desc := "()I" } : Jvm.MethodName) "Powerwell") ∈ lw_tbl := List.mem_of_getElem? (i := 1228) (by decide +kernel)
theorem ab_1170 : (Jvm.Cond.methodLinkNest "Powerwell" (384 : Nat) ({ cls := "Powerwell$Domain", name := "reckonFlow", desc := "()V" } : Jvm.MethodName) "Powerwell") ∈ lw_tbl := List.mem_of_getElem? (i := 1233) (by decide +kernel)
theorem ab_1174 : (Jvm.Cond.methodLinkNest "Powerwell" (387 : Nat) ({ cls := "Powerwell$Domain", name := "flowOut", desc := "()V" } : Jvm.MethodName) "Powerwell") ∈ lw_tbl := List.mem_of_getElem? (i := 1237) (by decide +kernel)
theorem ab_1178 : (Jvm.Cond.methodLinkNest "Powerwell" (357 : Nat) ({ cls := "Powerwell$Rail", name := "lookAtTrips", desc := "()V" } : Jvm.MethodName) "Powerwell") ∈ lw_tbl := List.mem_of_getElem? (i := 1241) (by decide +kernel)
theorem ab_1182 : (Jvm.Cond.methodLinkNest "Powerwell" (360 : Nat) ({ cls := "Powerwell$Rail", name := "fall", desc := "(Z)V" } : Jvm.MethodName) "Powerwell") ∈ lw_tbl := List.mem_of_getElem? (i := 1245) (by decide +kernel)
theorem ab_1190 : (Jvm.Cond.methodLinkNest "Powerwell" (390 : Nat) ({ cls := "Powerwell$Device", name := "isIdling", desc := "()Z" } : Jvm.MethodName) "Powerwell") ∈ lw_tbl := List.mem_of_getElem? (i := 1253) (by decide +kernel)
theorem ab_1206 : (Jvm.Cond.stringRef "Powerwell" (256 : Nat) "no more sources") ∈ lw_tbl := List.mem_of_getElem? (i := 1269) (by decide +kernel)
theorem ab_1209 : (Jvm.Cond.methodLinkNest "Powerwell" (260 : Nat) ({ cls := "Powerwell$Source", name := "<init>", desc := "()V" } : Jvm.MethodName) "Powerwell") ∈ lw_tbl := List.mem_of_getElem? (i := 1272) (by decide +kernel)
theorem ab_1213 : (Jvm.Cond.fieldLinkNest "Powerwell" (265 : Nat) "Powerwell$Source" "isArmed" "Z" "Powerwell") ∈ lw_tbl := List.mem_of_getElem? (i := 1276) (by decide +kernel)
theorem ab_1215 : (Jvm.Cond.fieldLinkNest "Powerwell" (271 : Nat) "Powerwell$Source" "isMasked" "Z" "Powerwell") ∈ lw_tbl := List.mem_of_getElem? (i := 1278) (by decide +kernel)
theorem ab_1217 : (Jvm.Cond.fieldLinkNest "Powerwell" (268 : Nat) "Powerwell$Source" "hasWake" "Z" "Powerwell") ∈ lw_tbl := List.mem_of_getElem? (i := 1280) (by decide +kernel)
theorem ab_1233 : (Jvm.Cond.stringRef "Powerwell" (325 : Nat) "no such source") ∈ lw_tbl := List.mem_of_getElem? (i := 1296) (by decide +kernel)
theorem ab_1242 : (Jvm.Cond.methodLinkNest "Powerwell" (278 : Nat) ({ cls := "Powerwell$Source", name := "isPending", desc := "()Z" } : Jvm.MethodName) "Powerwell") ∈ lw_tbl := List.mem_of_getElem? (i := 1305) (by decide +kernel)
theorem ab_1301 : (Jvm.Cond.stringRef "Powerwell" (298 : Nat) "no domains") ∈ lw_tbl := List.mem_of_getElem? (i := 1364) (by decide +kernel)
theorem rc_0 : rn_ck 0 RJx4a65c TJx4a65c 3 tyJx4a65c := ⟨rfl, rn_all_of (by decide +kernel), tyJx4a65c_ok, nmJx4a65c⟩
theorem rc_1 : rn_ck 1 RX0 TX0 3 tyX0 := ⟨rfl, rn_all_of (by decide +kernel), tyX0_ok, nmX0⟩
theorem rc_2 : rn_ck 2 RX1 TX1 14 tyX1 := ⟨rfl, rn_all_of (by decide +kernel), tyX1_ok, nmX1⟩
theorem rc_3 : rn_ck 3 RX2 TX2 10 tyX2 := ⟨rfl, rn_all_of (by decide +kernel), tyX2_ok, nmX2⟩
theorem rc_4 : rn_ck 4 RX3 TX3 7 tyX3 := ⟨rfl, rn_all_of (by decide +kernel), tyX3_ok, nmX3⟩
theorem rc_5 : rn_ck 5 RX4 TX4 2 tyX4 := ⟨rfl, rn_all_of (by decide +kernel), tyX4_ok, nmX4⟩
theorem rc_6 : rn_ck 6 RX5 TX5 11 tyX5 := ⟨rfl, rn_all_of (by decide +kernel), tyX5_ok, nmX5⟩
theorem rc_7 : rn_ck 7 RX6 TX6 3 tyX6 := ⟨rfl, rn_all_of (by decide +kernel), tyX6_ok, nmX6⟩
theorem rc_8 : rn_ck 8 RX7 TX7 10 tyX7 := ⟨rfl, rn_all_of (by decide +kernel), tyX7_ok, nmX7⟩
theorem rc_cast : ∀ r ∈ rn_cl, rn_wok (.castable r.1 "java/lang/Object") = true := List.all_eq_true.mp (by decide +kernel)
theorem ta_Powerwell_175_3 : (vx_atS "Powerwell" 175 (rn_xn 3) ["java/lang/RuntimeException", "java/lang/Exception"]).all rn_wok = true := by decide +kernel
theorem ta_Powerwell_300_5 : (vx_atS "Powerwell" 300 (rn_xn 5) ["java/lang/RuntimeException", "java/lang/Exception"]).all rn_wok = true := by decide +kernel
theorem ta_Powerwell_40_1 : (vx_atS "Powerwell" 40 (rn_xn 1) ["java/lang/RuntimeException", "java/lang/Exception"]).all rn_wok = true := by decide +kernel
theorem ta_Powerwell_57_2 : (vx_atS "Powerwell" 57 (rn_xn 2) ["java/lang/RuntimeException", "java/lang/Exception"]).all rn_wok = true := by decide +kernel
theorem ta_Powerwell_93_0 : (vx_atS "Powerwell" 93 (rn_xn 0) ["java/lang/RuntimeException", "java/lang/Exception"]).all rn_wok = true := by decide +kernel
noncomputable def MMl : List rn_D := [(yJx4a65c_get_915e3, cJx4a65c_get_915e3, 2, some (Jvm.ClassFile.FieldType.object "java/lang/Object"), [], 0, 0),
  (yJx4a65c_size_8abf5, cJx4a65c_size_8abf5, 1, some Jvm.ClassFile.FieldType.int, [], 0, 0),
  (yJx4a65c_elementData_915e3, cJx4a65c_elementData_915e3, 2, some (Jvm.ClassFile.FieldType.object "java/lang/Object"), [], 0, 0),
  (yJ15_checkIndex_7cf53, cJ15_checkIndex_7cf53, 2, some Jvm.ClassFile.FieldType.int, [], 0, 0),
  (yJ3_checkIndex_8e157, cJ3_checkIndex_8e157, 3, some Jvm.ClassFile.FieldType.int, [], 0, 0),
  (yL_ask, cL_ask, 4, some Jvm.ClassFile.FieldType.int, [(0, 243, 456, 73), (244, 257, 456, 73), (258, 271, 456, 73), (272, 279, 456, 73), (280, 287, 456, 73), (288, 295, 456, 73), (296, 318, 456, 73), (319, 334, 456, 73), (335, 342, 456, 73), (343, 353, 456, 73), (354, 369, 456, 73), (370, 391, 456, 73), (392, 405, 456, 73), (406, 416, 456, 73), (417, 424, 456, 73), (425, 432, 456, 73), (433, 448, 456, 73), (449, 455, 456, 73), (0, 243, 460, 76), (244, 257, 460, 76), (258, 271, 460, 76), (272, 279, 460, 76), (280, 287, 460, 76), (288, 295, 460, 76), (296, 318, 460, 76), (319, 334, 460, 76), (335, 342, 460, 76), (343, 353, 460, 76), (354, 369, 460, 76), (370, 391, 460, 76), (392, 405, 460, 76), (406, 416, 460, 76), (417, 424, 460, 76), (425, 432, 460, 76), (433, 448, 460, 76), (449, 455, 460, 76), (0, 243, 464, 79), (244, 257, 464, 79), (258, 271, 464, 79), (272, 279, 464, 79), (280, 287, 464, 79), (288, 295, 464, 79), (296, 318, 464, 79), (319, 334, 464, 79), (335, 342, 464, 79), (343, 353, 464, 79), (354, 369, 464, 79), (370, 391, 464, 79), (392, 405, 464, 79), (406, 416, 464, 79), (417, 424, 464, 79), (425, 432, 464, 79), (433, 448, 464, 79), (449, 455, 464, 79), (0, 243, 468, 82), (244, 257, 468, 82), (258, 271, 468, 82), (272, 279, 468, 82), (280, 287, 468, 82), (288, 295, 468, 82), (296, 318, 468, 82), (319, 334, 468, 82), (335, 342, 468, 82), (343, 353, 468, 82), (354, 369, 468, 82), (370, 391, 468, 82), (392, 405, 468, 82), (406, 416, 468, 82), (417, 424, 468, 82), (425, 432, 468, 82), (433, 448, 468, 82), (449, 455, 468, 82), (0, 243, 472, 85), (244, 257, 472, 85), (258, 271, 472, 85), (272, 279, 472, 85), (280, 287, 472, 85), (288, 295, 472, 85), (296, 318, 472, 85), (319, 334, 472, 85), (335, 342, 472, 85), (343, 353, 472, 85), (354, 369, 472, 85), (370, 391, 472, 85), (392, 405, 472, 85), (406, 416, 472, 85), (417, 424, 472, 85), (425, 432, 472, 85), (433, 448, 472, 85), (449, 455, 472, 85)], 9, 85),
  (yL_asked, cL_asked, 3, some Jvm.ClassFile.FieldType.int, [], 5, 31),
  (yX7_deviceAt, cX7_deviceAt, 2, some (Jvm.ClassFile.FieldType.object "Powerwell$Device"), [], 1, 6),
  (yX7_sourceAt, cX7_sourceAt, 2, some (Jvm.ClassFile.FieldType.object "Powerwell$Source"), [], 1, 6),
  (yX7_reachableAt, cX7_reachableAt, 3, some (Jvm.ClassFile.FieldType.object "Powerwell$Device"), [], 3, 18),
  (yX7_refuseAsleep, cX7_refuseAsleep, 1, none, [], 1, 6),
  (yX7_isAwake, cX7_isAwake, 2, some Jvm.ClassFile.FieldType.boolean, [], 1, 6),
  (yX7_read, cX7_read, 2, some Jvm.ClassFile.FieldType.int, [], 3, 18),
  (yX7_get, cX7_get, 3, some Jvm.ClassFile.FieldType.int, [], 2, 12),
  (yX7_put, cX7_put, 3, some Jvm.ClassFile.FieldType.int, [], 3, 18),
  (yX7_write, cX7_write, 5, some Jvm.ClassFile.FieldType.int, [], 3, 18),
  (yX7_work, cX7_work, 4, some Jvm.ClassFile.FieldType.int, [], 3, 18),
  (yX7_isOutside, cX7_isOutside, 3, some Jvm.ClassFile.FieldType.boolean, [], 0, 0),
  (yX7_isOn, cX7_isOn, 2, some Jvm.ClassFile.FieldType.boolean, [], 1, 6),
  (yX7_domainAt, cX7_domainAt, 2, some (Jvm.ClassFile.FieldType.object "Powerwell$Domain"), [], 1, 6),
  (yX2_isUsed, cX2_isUsed, 1, some Jvm.ClassFile.FieldType.boolean, [], 0, 0),
  (yX7_cause, cX7_cause, 1, some Jvm.ClassFile.FieldType.int, [], 1, 6),
  (yX7_sleeps, cX7_sleeps, 1, some Jvm.ClassFile.FieldType.boolean, [], 0, 0),
  (yL_stand, cL_stand, 6, some Jvm.ClassFile.FieldType.boolean, [], 260, 2288),
  (yX6_isPending, cX6_isPending, 1, some Jvm.ClassFile.FieldType.boolean, [], 0, 0),
  (yX7_arm, cX7_arm, 5, some Jvm.ClassFile.FieldType.boolean, [], 1, 6),
  (yX7_mask, cX7_mask, 4, some Jvm.ClassFile.FieldType.boolean, [], 1, 6),
  (yX7_wake, cX7_wake, 3, some Jvm.ClassFile.FieldType.boolean, [], 1, 6),
  (yX7_wakeChipBy, cX7_wakeChipBy, 5, some Jvm.ClassFile.FieldType.boolean, [], 0, 0),
  (yX7_sleep, cX7_sleep, 3, some Jvm.ClassFile.FieldType.int, [], 1, 6),
  (yX7_tick, cX7_tick, 3, some Jvm.ClassFile.FieldType.int, [], 1, 6),
  (yX7_passTick, cX7_passTick, 3, none, [], 0, 0),
  (yX5_riseAndSpeed, cX5_riseAndSpeed, 3, none, [], 0, 0),
  (yX5_aimedLevel, cX5_aimedLevel, 3, some Jvm.ClassFile.FieldType.int, [], 0, 0),
  (yX5_aimedPair, cX5_aimedPair, 4, some Jvm.ClassFile.FieldType.int, [], 0, 0),
  (yX5_isOverBudget, cX5_isOverBudget, 4, some Jvm.ClassFile.FieldType.boolean, [], 0, 0),
  (yX5_wish, cX5_wish, 1, some Jvm.ClassFile.FieldType.int, [], 0, 0),
  (yX5_greatestVote, cX5_greatestVote, 6, some Jvm.ClassFile.FieldType.int, [], 0, 0),
  (yX5_isUsed, cX5_isUsed, 2, some Jvm.ClassFile.FieldType.boolean, [], 0, 0),
  (yX5_reachedSpeed, cX5_reachedSpeed, 5, some Jvm.ClassFile.FieldType.int, [], 0, 0),
  (yX1_doWork, cX1_doWork, 2, none, [], 0, 0),
  (yX3_passCost, cX3_passCost, 1, some Jvm.ClassFile.FieldType.boolean, [], 0, 0),
  (yX7_reckonEnergy, cX7_reckonEnergy, 5, none, [], 0, 0),
  (yX2_gainEnergy, cX2_gainEnergy, 1, none, [], 0, 0),
  (yX2_energyOfWork, cX2_energyOfWork, 3, some Jvm.ClassFile.FieldType.int, [], 0, 0),
  (yX5_energyOfTick, cX5_energyOfTick, 4, some Jvm.ClassFile.FieldType.long, [], 0, 0),
  (yX5_remember, cX5_remember, 3, none, [], 0, 0),
  (yX7_putFirst, cX7_putFirst, 4, none, [], 0, 0),
  (yX7_claimEnergy, cX7_claimEnergy, 12, none, [], 0, 0),
  (yX5_sumOfVotes, cX5_sumOfVotes, 6, some Jvm.ClassFile.FieldType.int, [], 0, 0),
  (yX7_letWarmthFlow, cX7_letWarmthFlow, 2, none, [], 0, 0),
  (yX2_reckonFlow, cX2_reckonFlow, 1, none, [], 0, 0),
  (yX2_flowOut, cX2_flowOut, 1, none, [], 0, 0),
  (yX5_lookAtTrips, cX5_lookAtTrips, 4, none, [], 0, 0),
  (yX5_fall, cX5_fall, 3, none, [], 0, 0),
  (yX7_passDelays, cX7_passDelays, 3, none, [], 0, 0),
  (yX1_isIdling, cX1_isIdling, 1, some Jvm.ClassFile.FieldType.boolean, [], 0, 0),
  (yX1_wakeUp, cX1_wakeUp, 2, none, [], 0, 0),
  (yX2_addUse, cX2_addUse, 2, none, [], 0, 0),
  (yX3_endStay, cX3_endStay, 2, none, [], 0, 0),
  (yX3_addStay, cX3_addStay, 2, none, [], 0, 0),
  (yX1_fallAsleep, cX1_fallAsleep, 3, none, [], 0, 0),
  (yX2_dropUse, cX2_dropUse, 2, none, [], 0, 0),
  (yX2_loseRegisters, cX2_loseRegisters, 2, none, [], 0, 0),
  (yX3_beginStay, cX3_beginStay, 3, none, [], 0, 0),
  (yX3_deepest, cX3_deepest, 5, some (Jvm.ClassFile.FieldType.object "Powerwell$Depth"), [], 0, 0),
  (yX3_meanStay, cX3_meanStay, 4, some Jvm.ClassFile.FieldType.int, [], 0, 0),
  (yL_at, cL_at, 2, some Jvm.ClassFile.FieldType.int, [], 0, 0),
  (yL_some, cL_some, 3, some Jvm.ClassFile.FieldType.int, [], 0, 0),
  (yL_sleeping, cL_sleeping, 19, some Jvm.ClassFile.FieldType.boolean, [], 300000, 3000000),
  (yL_law, cL_law, 2, some .boolean, [], 400000, 4000000),
  (yL_full, cL_full, 2, some Jvm.ClassFile.FieldType.boolean, [], 660, 5700),
  (yL_hasNone, cL_hasNone, 4, some Jvm.ClassFile.FieldType.boolean, [(0, 18, 19, 153)], 2, 12),
  (yX7_init, cX7_init, 1, none, [], 6, 35),
  (yJx4a65c_init_da8c8, cJx4a65c_init_da8c8, 1, none, [], 0, 0),
  (yJxc12de_init_da8c8, cJxc12de_init_da8c8, 1, none, [], 0, 0),
  (yJxa1e45_init_da8c8, cJxa1e45_init_da8c8, 1, none, [], 0, 0),
  (yJx4a65c_add_9ea2d, cJx4a65c_add_9ea2d, 2, some Jvm.ClassFile.FieldType.boolean, [], 1, 10),
  (yJx4a65c_add_72be8, cJx4a65c_add_72be8, 4, none, [], 1, 10),
  (yJx4a65c_grow_d5877, cJx4a65c_grow_d5877, 1, some (Jvm.ClassFile.FieldType.array (Jvm.ClassFile.FieldType.object "java/lang/Object")), [], 1, 10),
  (yJx4a65c_grow_92f84, cJx4a65c_grow_92f84, 4, some (Jvm.ClassFile.FieldType.array (Jvm.ClassFile.FieldType.object "java/lang/Object")), [], 1, 10),
  (yJx4a65c_isEmpty_aae02, cJx4a65c_isEmpty_aae02, 1, some Jvm.ClassFile.FieldType.boolean, [], 0, 0),
  (yX7_rail, cX7_rail, 3, some Jvm.ClassFile.FieldType.int, [], 9, 85),
  (yX5_init, cX5_init, 3, none, [], 4, 46),
  (yX7_railAt, cX7_railAt, 2, some (Jvm.ClassFile.FieldType.object "Powerwell$Rail"), [], 1, 6),
  (yX7_pair, cX7_pair, 5, some Jvm.ClassFile.FieldType.int, [], 6, 36),
  (yX5_isBeyondLastPair, cX5_isBeyondLastPair, 4, some Jvm.ClassFile.FieldType.boolean, [], 0, 0),
  (yX4_init, cX4_init, 3, none, [], 0, 0),
  (yX7_vote, cX7_vote, 5, some Jvm.ClassFile.FieldType.int, [], 3, 18),
  (yX7_aim, cX7_aim, 2, some Jvm.ClassFile.FieldType.int, [], 1, 6),
  (yX7_level, cX7_level, 2, some Jvm.ClassFile.FieldType.int, [], 1, 6),
  (yX7_speed, cX7_speed, 2, some Jvm.ClassFile.FieldType.int, [], 1, 6),
  (yX7_domain, cX7_domain, 7, some Jvm.ClassFile.FieldType.int, [], 7, 51),
  (yX2_init, cX2_init, 4, none, [], 1, 3),
  (yX7_warmth, cX7_warmth, 2, some Jvm.ClassFile.FieldType.int, [], 1, 6),
  (yX7_energy, cX7_energy, 2, some Jvm.ClassFile.FieldType.long, [], 1, 6),
  (yX7_trip, cX7_trip, 5, some Jvm.ClassFile.FieldType.int, [], 2, 12),
  (yX7_isThrottled, cX7_isThrottled, 2, some Jvm.ClassFile.FieldType.boolean, [], 1, 6),
  (yX7_budget, cX7_budget, 5, some Jvm.ClassFile.FieldType.boolean, [], 2, 12),
  (yX7_device, cX7_device, 6, some Jvm.ClassFile.FieldType.int, [], 9, 82),
  (yX1_init, cX1_init, 5, none, [], 3, 30),
  (yX3_init, cX3_init, 2, none, [], 1, 20),
  (yX7_need, cX7_need, 5, some Jvm.ClassFile.FieldType.int, [], 7, 46),
  (yX1_hasSupplier, cX1_hasSupplier, 3, some Jvm.ClassFile.FieldType.boolean, [], 0, 0),
  (yX1_addSupplier, cX1_addSupplier, 3, none, [], 2, 16),
  (yJx4a65c_add_7a177, cJx4a65c_add_7a177, 5, none, [], 2, 16),
  (yJx4a65c_rangeCheckForAdd_d00df, cJx4a65c_rangeCheckForAdd_d00df, 2, none, [], 1, 6),
  (yX7_take, cX7_take, 3, none, [], 0, 0),
  (yX7_raw, cX7_raw, 2, some Jvm.ClassFile.FieldType.int, [], 1, 6),
  (yX7_depth, cX7_depth, 4, some Jvm.ClassFile.FieldType.int, [], 5, 31),
  (yX7_depthOf, cX7_depthOf, 3, some Jvm.ClassFile.FieldType.int, [], 1, 6),
  (yX7_misses, cX7_misses, 2, some Jvm.ClassFile.FieldType.int, [], 1, 6),
  (yX7_guess, cX7_guess, 2, some Jvm.ClassFile.FieldType.int, [], 1, 6),
  (yX7_left, cX7_left, 2, some Jvm.ClassFile.FieldType.int, [], 1, 6),
  (yX7_claimed, cX7_claimed, 2, some Jvm.ClassFile.FieldType.long, [], 1, 6),
  (yX7_source, cX7_source, 1, some Jvm.ClassFile.FieldType.int, [], 3, 19),
  (yX6_init, cX6_init, 1, none, [], 0, 0),
  (yX7_onShare, cX7_onShare, 4, some Jvm.ClassFile.FieldType.float, [], 1, 6),
  (yX7_meanWarmth, cX7_meanWarmth, 5, some Jvm.ClassFile.FieldType.double, [], 1, 6),
  (yX7_checksum, cX7_checksum, 5, some Jvm.ClassFile.FieldType.long, [], 0, 0),
  (yX7_isTrue, cX7_isTrue, 1, some Jvm.ClassFile.FieldType.boolean, [], 0, 0),
  (yX7_areRegistersKept, cX7_areRegistersKept, 3, some Jvm.ClassFile.FieldType.boolean, [], 0, 0),
  (yX7_areUsedDomainsOn, cX7_areUsedDomainsOn, 3, some Jvm.ClassFile.FieldType.boolean, [], 0, 0),
  (yX2_isUsedUpward, cX2_isUsedUpward, 2, some Jvm.ClassFile.FieldType.boolean, [], 0, 0),
  (yX7_areClaimsAllEnergy, cX7_areClaimsAllEnergy, 4, some Jvm.ClassFile.FieldType.boolean, [], 0, 0),
  (yX7_areLevelsBounded, cX7_areLevelsBounded, 3, some Jvm.ClassFile.FieldType.boolean, [], 0, 0),
  (yX5_greatestLevel, cX5_greatestLevel, 1, some Jvm.ClassFile.FieldType.int, [], 0, 0),
  (yL_sleeping, cL_sleeping, 19, some Jvm.ClassFile.FieldType.boolean, [], 300000, 3000000),
  (yL_sleeping, cL_sleeping, 19, some Jvm.ClassFile.FieldType.boolean, [], 300000, 3000000),
  (yL_sleeping, cL_sleeping, 19, some Jvm.ClassFile.FieldType.boolean, [], 300000, 3000000),
  (yL_law, cL_law, 2, some .boolean, [], 400000, 4000000)]
noncomputable def MM (mu : Nat) : rn_D := MMl.getD mu (yJx4a65c_get_915e3, cJx4a65c_get_915e3, 0, none, [], 0, 0)
theorem cw_0 : rn_cw "" 0 (MM 0) 1 := ⟨⟨by decide +kernel, by decide +kernel, by decide +kernel⟩, by decide +kernel, aw_4⟩
theorem cw_1 : rn_cw "" 0 (MM 1) 0 := ⟨⟨by decide +kernel, by decide +kernel, by decide +kernel⟩, by decide +kernel, aw_4⟩
theorem cw_2 : rn_cw "" 0 (MM 2) 1 := ⟨⟨by decide +kernel, by decide +kernel, by decide +kernel⟩, by decide +kernel, aw_4⟩
theorem cw_3 : rn_cw "" 0 (MM 3) 2 := ⟨⟨by decide +kernel, by decide +kernel, by decide +kernel⟩, by decide +kernel, aw_10⟩
theorem cw_4 : rn_cw "" 0 (MM 4) 3 := ⟨⟨by decide +kernel, by decide +kernel, by decide +kernel⟩, by decide +kernel, aw_11⟩
theorem cw_5 : rn_cw "" 0 (MM 5) 3 := ⟨⟨by decide +kernel, by decide +kernel, by decide +kernel⟩, by decide +kernel, aw_0⟩
theorem cw_6 : rn_cw "" 0 (MM 6) 3 := ⟨⟨by decide +kernel, by decide +kernel, by decide +kernel⟩, by decide +kernel, aw_0⟩
theorem cw_7 : rn_cw "" 0 (MM 7) 1 := ⟨⟨by decide +kernel, by decide +kernel, by decide +kernel⟩, by decide +kernel, aw_1⟩
theorem cw_8 : rn_cw "" 0 (MM 8) 1 := ⟨⟨by decide +kernel, by decide +kernel, by decide +kernel⟩, by decide +kernel, aw_1⟩
theorem cw_9 : rn_cw "" 0 (MM 9) 1 := ⟨⟨by decide +kernel, by decide +kernel, by decide +kernel⟩, by decide +kernel, aw_1⟩
theorem cw_10 : rn_cw "" 0 (MM 10) 0 := ⟨⟨by decide +kernel, by decide +kernel, by decide +kernel⟩, by decide +kernel, aw_1⟩
theorem cw_11 : rn_cw "" 0 (MM 11) 1 := ⟨⟨by decide +kernel, by decide +kernel, by decide +kernel⟩, by decide +kernel, aw_1⟩
theorem cw_12 : rn_cw "" 0 (MM 12) 1 := ⟨⟨by decide +kernel, by decide +kernel, by decide +kernel⟩, by decide +kernel, aw_1⟩
theorem cw_13 : rn_cw "" 0 (MM 13) 1 := ⟨⟨by decide +kernel, by decide +kernel, by decide +kernel⟩, by decide +kernel, aw_1⟩
theorem cw_14 : rn_cw "" 0 (MM 14) 1 := ⟨⟨by decide +kernel, by decide +kernel, by decide +kernel⟩, by decide +kernel, aw_1⟩
theorem cw_15 : rn_cw "" 0 (MM 15) 2 := ⟨⟨by decide +kernel, by decide +kernel, by decide +kernel⟩, by decide +kernel, aw_1⟩
theorem cw_16 : rn_cw "" 0 (MM 16) 2 := ⟨⟨by decide +kernel, by decide +kernel, by decide +kernel⟩, by decide +kernel, aw_1⟩
theorem cw_17 : rn_cw "" 0 (MM 17) 3 := ⟨⟨by decide +kernel, by decide +kernel, by decide +kernel⟩, by decide +kernel, aw_1⟩
theorem cw_18 : rn_cw "" 0 (MM 18) 1 := ⟨⟨by decide +kernel, by decide +kernel, by decide +kernel⟩, by decide +kernel, aw_1⟩
theorem cw_19 : rn_cw "" 0 (MM 19) 1 := ⟨⟨by decide +kernel, by decide +kernel, by decide +kernel⟩, by decide +kernel, aw_1⟩
theorem cw_20 : rn_cw "" 0 (MM 20) 0 := ⟨⟨by decide +kernel, by decide +kernel, by decide +kernel⟩, by decide +kernel, aw_22⟩
theorem cw_21 : rn_cw "" 0 (MM 21) 0 := ⟨⟨by decide +kernel, by decide +kernel, by decide +kernel⟩, by decide +kernel, aw_1⟩
theorem cw_22 : rn_cw "" 0 (MM 22) 0 := ⟨⟨by decide +kernel, by decide +kernel, by decide +kernel⟩, by decide +kernel, aw_1⟩
theorem cw_23 : rn_cw "" 0 (MM 23) 3 := ⟨⟨by decide +kernel, by decide +kernel, by decide +kernel⟩, by decide +kernel, aw_0⟩
theorem cw_24 : rn_cw "" 0 (MM 24) 0 := ⟨⟨by decide +kernel, by decide +kernel, by decide +kernel⟩, by decide +kernel, aw_33⟩
theorem cw_25 : rn_cw "" 0 (MM 25) 2 := ⟨⟨by decide +kernel, by decide +kernel, by decide +kernel⟩, by decide +kernel, aw_1⟩
theorem cw_26 : rn_cw "" 0 (MM 26) 2 := ⟨⟨by decide +kernel, by decide +kernel, by decide +kernel⟩, by decide +kernel, aw_1⟩
theorem cw_27 : rn_cw "" 0 (MM 27) 1 := ⟨⟨by decide +kernel, by decide +kernel, by decide +kernel⟩, by decide +kernel, aw_1⟩
theorem cw_28 : rn_cw "" 0 (MM 28) 2 := ⟨⟨by decide +kernel, by decide +kernel, by decide +kernel⟩, by decide +kernel, aw_1⟩
theorem cw_29 : rn_cw "" 0 (MM 29) 0 := ⟨⟨by decide +kernel, by decide +kernel, by decide +kernel⟩, by decide +kernel, aw_1⟩
theorem cw_30 : rn_cw "" 0 (MM 30) 1 := ⟨⟨by decide +kernel, by decide +kernel, by decide +kernel⟩, by decide +kernel, aw_1⟩
theorem cw_31 : rn_cw "" 0 (MM 31) 0 := ⟨⟨by decide +kernel, by decide +kernel, by decide +kernel⟩, by decide +kernel, aw_1⟩
theorem cw_32 : rn_cw "" 0 (MM 32) 1 := ⟨⟨by decide +kernel, by decide +kernel, by decide +kernel⟩, by decide +kernel, aw_16⟩
theorem cw_33 : rn_cw "" 0 (MM 33) 1 := ⟨⟨by decide +kernel, by decide +kernel, by decide +kernel⟩, by decide +kernel, aw_16⟩
theorem cw_34 : rn_cw "" 0 (MM 34) 0 := ⟨⟨by decide +kernel, by decide +kernel, by decide +kernel⟩, by decide +kernel, aw_16⟩
theorem cw_35 : rn_cw "" 0 (MM 35) 0 := ⟨⟨by decide +kernel, by decide +kernel, by decide +kernel⟩, by decide +kernel, aw_16⟩
theorem cw_36 : rn_cw "" 0 (MM 36) 0 := ⟨⟨by decide +kernel, by decide +kernel, by decide +kernel⟩, by decide +kernel, aw_16⟩
theorem cw_37 : rn_cw "" 0 (MM 37) 0 := ⟨⟨by decide +kernel, by decide +kernel, by decide +kernel⟩, by decide +kernel, aw_16⟩
theorem cw_38 : rn_cw "" 0 (MM 38) 0 := ⟨⟨by decide +kernel, by decide +kernel, by decide +kernel⟩, by decide +kernel, aw_16⟩
theorem cw_39 : rn_cw "" 0 (MM 39) 0 := ⟨⟨by decide +kernel, by decide +kernel, by decide +kernel⟩, by decide +kernel, aw_16⟩
theorem cw_40 : rn_cw "" 0 (MM 40) 0 := ⟨⟨by decide +kernel, by decide +kernel, by decide +kernel⟩, by decide +kernel, aw_23⟩
theorem cw_41 : rn_cw "" 0 (MM 41) 0 := ⟨⟨by decide +kernel, by decide +kernel, by decide +kernel⟩, by decide +kernel, aw_24⟩
theorem cw_42 : rn_cw "" 0 (MM 42) 0 := ⟨⟨by decide +kernel, by decide +kernel, by decide +kernel⟩, by decide +kernel, aw_1⟩
theorem cw_43 : rn_cw "" 0 (MM 43) 0 := ⟨⟨by decide +kernel, by decide +kernel, by decide +kernel⟩, by decide +kernel, aw_22⟩
theorem cw_44 : rn_cw "" 0 (MM 44) 0 := ⟨⟨by decide +kernel, by decide +kernel, by decide +kernel⟩, by decide +kernel, aw_22⟩
theorem cw_45 : rn_cw "" 0 (MM 45) 0 := ⟨⟨by decide +kernel, by decide +kernel, by decide +kernel⟩, by decide +kernel, aw_16⟩
theorem cw_46 : rn_cw "" 0 (MM 46) 1 := ⟨⟨by decide +kernel, by decide +kernel, by decide +kernel⟩, by decide +kernel, aw_16⟩
theorem cw_47 : rn_cw "" 0 (MM 47) 2 := ⟨⟨by decide +kernel, by decide +kernel, by decide +kernel⟩, by decide +kernel, aw_1⟩
theorem cw_48 : rn_cw "" 0 (MM 48) 2 := ⟨⟨by decide +kernel, by decide +kernel, by decide +kernel⟩, by decide +kernel, aw_1⟩
theorem cw_49 : rn_cw "" 0 (MM 49) 0 := ⟨⟨by decide +kernel, by decide +kernel, by decide +kernel⟩, by decide +kernel, aw_16⟩
theorem cw_50 : rn_cw "" 0 (MM 50) 0 := ⟨⟨by decide +kernel, by decide +kernel, by decide +kernel⟩, by decide +kernel, aw_1⟩
theorem cw_51 : rn_cw "" 0 (MM 51) 0 := ⟨⟨by decide +kernel, by decide +kernel, by decide +kernel⟩, by decide +kernel, aw_22⟩
theorem cw_52 : rn_cw "" 0 (MM 52) 0 := ⟨⟨by decide +kernel, by decide +kernel, by decide +kernel⟩, by decide +kernel, aw_22⟩
theorem cw_53 : rn_cw "" 0 (MM 53) 0 := ⟨⟨by decide +kernel, by decide +kernel, by decide +kernel⟩, by decide +kernel, aw_16⟩
theorem cw_54 : rn_cw "" 0 (MM 54) 1 := ⟨⟨by decide +kernel, by decide +kernel, by decide +kernel⟩, by decide +kernel, aw_16⟩
theorem cw_55 : rn_cw "" 0 (MM 55) 0 := ⟨⟨by decide +kernel, by decide +kernel, by decide +kernel⟩, by decide +kernel, aw_1⟩
theorem cw_56 : rn_cw "" 0 (MM 56) 0 := ⟨⟨by decide +kernel, by decide +kernel, by decide +kernel⟩, by decide +kernel, aw_23⟩
theorem cw_57 : rn_cw "" 0 (MM 57) 1 := ⟨⟨by decide +kernel, by decide +kernel, by decide +kernel⟩, by decide +kernel, aw_23⟩
theorem cw_58 : rn_cw "" 0 (MM 58) 0 := ⟨⟨by decide +kernel, by decide +kernel, by decide +kernel⟩, by decide +kernel, aw_22⟩
theorem cw_59 : rn_cw "" 0 (MM 59) 1 := ⟨⟨by decide +kernel, by decide +kernel, by decide +kernel⟩, by decide +kernel, aw_24⟩
theorem cw_60 : rn_cw "" 0 (MM 60) 1 := ⟨⟨by decide +kernel, by decide +kernel, by decide +kernel⟩, by decide +kernel, aw_24⟩
theorem cw_61 : rn_cw "" 0 (MM 61) 2 := ⟨⟨by decide +kernel, by decide +kernel, by decide +kernel⟩, by decide +kernel, aw_23⟩
theorem cw_62 : rn_cw "" 0 (MM 62) 0 := ⟨⟨by decide +kernel, by decide +kernel, by decide +kernel⟩, by decide +kernel, aw_22⟩
theorem cw_63 : rn_cw "" 0 (MM 63) 0 := ⟨⟨by decide +kernel, by decide +kernel, by decide +kernel⟩, by decide +kernel, aw_22⟩
theorem cw_64 : rn_cw "" 0 (MM 64) 2 := ⟨⟨by decide +kernel, by decide +kernel, by decide +kernel⟩, by decide +kernel, aw_24⟩
theorem cw_65 : rn_cw "" 0 (MM 65) 1 := ⟨⟨by decide +kernel, by decide +kernel, by decide +kernel⟩, by decide +kernel, aw_24⟩
theorem cw_66 : rn_cw "" 0 (MM 66) 0 := ⟨⟨by decide +kernel, by decide +kernel, by decide +kernel⟩, by decide +kernel, aw_24⟩
theorem cw_67 : rn_cw "" 0 (MM 67) 2 := ⟨⟨by decide +kernel, by decide +kernel, by decide +kernel⟩, by decide +kernel, aw_0⟩
theorem cw_68 : rn_cw "" 0 (MM 68) 2 := ⟨⟨by decide +kernel, by decide +kernel, by decide +kernel⟩, by decide +kernel, aw_0⟩
theorem cw_69 : rn_cw "" 0 (MM 69) 1 := ⟨⟨by decide +kernel, by decide +kernel, by decide +kernel⟩, by decide +kernel, aw_0⟩
theorem cw_71 : rn_cw "" 0 (MM 71) 0 := ⟨⟨by decide +kernel, by decide +kernel, by decide +kernel⟩, by decide +kernel, aw_0⟩
theorem cw_72 : rn_cw "" 0 (MM 72) 2 := ⟨⟨by decide +kernel, by decide +kernel, by decide +kernel⟩, by decide +kernel, aw_0⟩
theorem cw_73 : rn_cw "" 0 (MM 73) 0 := ⟨⟨by decide +kernel, by decide +kernel, by decide +kernel⟩, by decide +kernel, aw_1⟩
theorem cw_74 : rn_cw "" 0 (MM 74) 0 := ⟨⟨by decide +kernel, by decide +kernel, by decide +kernel⟩, by decide +kernel, aw_4⟩
theorem cw_75 : rn_cw "" 0 (MM 75) 0 := ⟨⟨by decide +kernel, by decide +kernel, by decide +kernel⟩, by decide +kernel, aw_3⟩
theorem cw_76 : rn_cw "" 0 (MM 76) 0 := ⟨⟨by decide +kernel, by decide +kernel, by decide +kernel⟩, by decide +kernel, aw_2⟩
theorem cw_77 : rn_cw "" 0 (MM 77) 1 := ⟨⟨by decide +kernel, by decide +kernel, by decide +kernel⟩, by decide +kernel, aw_4⟩
theorem cw_78 : rn_cw "" 0 (MM 78) 3 := ⟨⟨by decide +kernel, by decide +kernel, by decide +kernel⟩, by decide +kernel, aw_4⟩
theorem cw_79 : rn_cw "" 0 (MM 79) 0 := ⟨⟨by decide +kernel, by decide +kernel, by decide +kernel⟩, by decide +kernel, aw_4⟩
theorem cw_80 : rn_cw "" 0 (MM 80) 1 := ⟨⟨by decide +kernel, by decide +kernel, by decide +kernel⟩, by decide +kernel, aw_4⟩
theorem cw_81 : rn_cw "" 0 (MM 81) 0 := ⟨⟨by decide +kernel, by decide +kernel, by decide +kernel⟩, by decide +kernel, aw_4⟩
theorem cw_82 : rn_cw "" 0 (MM 82) 2 := ⟨⟨by decide +kernel, by decide +kernel, by decide +kernel⟩, by decide +kernel, aw_1⟩
theorem cw_83 : rn_cw "" 0 (MM 83) 2 := ⟨⟨by decide +kernel, by decide +kernel, by decide +kernel⟩, by decide +kernel, aw_16⟩
theorem cw_84 : rn_cw "" 0 (MM 84) 1 := ⟨⟨by decide +kernel, by decide +kernel, by decide +kernel⟩, by decide +kernel, aw_1⟩
theorem cw_85 : rn_cw "" 0 (MM 85) 3 := ⟨⟨by decide +kernel, by decide +kernel, by decide +kernel⟩, by decide +kernel, aw_1⟩
theorem cw_86 : rn_cw "" 0 (MM 86) 2 := ⟨⟨by decide +kernel, by decide +kernel, by decide +kernel⟩, by decide +kernel, aw_16⟩
theorem cw_87 : rn_cw "" 0 (MM 87) 2 := ⟨⟨by decide +kernel, by decide +kernel, by decide +kernel⟩, by decide +kernel, aw_21⟩
theorem cw_88 : rn_cw "" 0 (MM 88) 3 := ⟨⟨by decide +kernel, by decide +kernel, by decide +kernel⟩, by decide +kernel, aw_1⟩
theorem cw_89 : rn_cw "" 0 (MM 89) 1 := ⟨⟨by decide +kernel, by decide +kernel, by decide +kernel⟩, by decide +kernel, aw_1⟩
theorem cw_90 : rn_cw "" 0 (MM 90) 1 := ⟨⟨by decide +kernel, by decide +kernel, by decide +kernel⟩, by decide +kernel, aw_1⟩
theorem cw_91 : rn_cw "" 0 (MM 91) 1 := ⟨⟨by decide +kernel, by decide +kernel, by decide +kernel⟩, by decide +kernel, aw_1⟩
theorem cw_92 : rn_cw "" 0 (MM 92) 3 := ⟨⟨by decide +kernel, by decide +kernel, by decide +kernel⟩, by decide +kernel, aw_1⟩
theorem cw_93 : rn_cw "" 0 (MM 93) 3 := ⟨⟨by decide +kernel, by decide +kernel, by decide +kernel⟩, by decide +kernel, aw_22⟩
theorem cw_94 : rn_cw "" 0 (MM 94) 1 := ⟨⟨by decide +kernel, by decide +kernel, by decide +kernel⟩, by decide +kernel, aw_1⟩
theorem cw_95 : rn_cw "" 0 (MM 95) 1 := ⟨⟨by decide +kernel, by decide +kernel, by decide +kernel⟩, by decide +kernel, aw_1⟩
theorem cw_96 : rn_cw "" 0 (MM 96) 2 := ⟨⟨by decide +kernel, by decide +kernel, by decide +kernel⟩, by decide +kernel, aw_1⟩
theorem cw_97 : rn_cw "" 0 (MM 97) 1 := ⟨⟨by decide +kernel, by decide +kernel, by decide +kernel⟩, by decide +kernel, aw_1⟩
theorem cw_98 : rn_cw "" 0 (MM 98) 3 := ⟨⟨by decide +kernel, by decide +kernel, by decide +kernel⟩, by decide +kernel, aw_1⟩
theorem cw_99 : rn_cw "" 0 (MM 99) 3 := ⟨⟨by decide +kernel, by decide +kernel, by decide +kernel⟩, by decide +kernel, aw_1⟩
theorem cw_100 : rn_cw "" 0 (MM 100) 4 := ⟨⟨by decide +kernel, by decide +kernel, by decide +kernel⟩, by decide +kernel, aw_23⟩
theorem cw_101 : rn_cw "" 0 (MM 101) 1 := ⟨⟨by decide +kernel, by decide +kernel, by decide +kernel⟩, by decide +kernel, aw_24⟩
theorem cw_102 : rn_cw "" 0 (MM 102) 2 := ⟨⟨by decide +kernel, by decide +kernel, by decide +kernel⟩, by decide +kernel, aw_1⟩
theorem cw_103 : rn_cw "" 0 (MM 103) 1 := ⟨⟨by decide +kernel, by decide +kernel, by decide +kernel⟩, by decide +kernel, aw_23⟩
theorem cw_104 : rn_cw "" 0 (MM 104) 1 := ⟨⟨by decide +kernel, by decide +kernel, by decide +kernel⟩, by decide +kernel, aw_23⟩
theorem cw_105 : rn_cw "" 0 (MM 105) 2 := ⟨⟨by decide +kernel, by decide +kernel, by decide +kernel⟩, by decide +kernel, aw_4⟩
theorem cw_106 : rn_cw "" 0 (MM 106) 1 := ⟨⟨by decide +kernel, by decide +kernel, by decide +kernel⟩, by decide +kernel, aw_4⟩
theorem cw_107 : rn_cw "" 0 (MM 107) 1 := ⟨⟨by decide +kernel, by decide +kernel, by decide +kernel⟩, by decide +kernel, aw_1⟩
theorem cw_108 : rn_cw "" 0 (MM 108) 1 := ⟨⟨by decide +kernel, by decide +kernel, by decide +kernel⟩, by decide +kernel, aw_1⟩
theorem cw_109 : rn_cw "" 0 (MM 109) 2 := ⟨⟨by decide +kernel, by decide +kernel, by decide +kernel⟩, by decide +kernel, aw_1⟩
theorem cw_110 : rn_cw "" 0 (MM 110) 1 := ⟨⟨by decide +kernel, by decide +kernel, by decide +kernel⟩, by decide +kernel, aw_1⟩
theorem cw_111 : rn_cw "" 0 (MM 111) 1 := ⟨⟨by decide +kernel, by decide +kernel, by decide +kernel⟩, by decide +kernel, aw_1⟩
theorem cw_112 : rn_cw "" 0 (MM 112) 1 := ⟨⟨by decide +kernel, by decide +kernel, by decide +kernel⟩, by decide +kernel, aw_1⟩
theorem cw_113 : rn_cw "" 0 (MM 113) 1 := ⟨⟨by decide +kernel, by decide +kernel, by decide +kernel⟩, by decide +kernel, aw_1⟩
theorem cw_114 : rn_cw "" 0 (MM 114) 1 := ⟨⟨by decide +kernel, by decide +kernel, by decide +kernel⟩, by decide +kernel, aw_1⟩
theorem cw_115 : rn_cw "" 0 (MM 115) 0 := ⟨⟨by decide +kernel, by decide +kernel, by decide +kernel⟩, by decide +kernel, aw_1⟩
theorem cw_116 : rn_cw "" 0 (MM 116) 0 := ⟨⟨by decide +kernel, by decide +kernel, by decide +kernel⟩, by decide +kernel, aw_33⟩
theorem cw_117 : rn_cw "" 0 (MM 117) 0 := ⟨⟨by decide +kernel, by decide +kernel, by decide +kernel⟩, by decide +kernel, aw_1⟩
theorem cw_118 : rn_cw "" 0 (MM 118) 0 := ⟨⟨by decide +kernel, by decide +kernel, by decide +kernel⟩, by decide +kernel, aw_1⟩
theorem cw_119 : rn_cw "" 0 (MM 119) 0 := ⟨⟨by decide +kernel, by decide +kernel, by decide +kernel⟩, by decide +kernel, aw_1⟩
theorem cw_120 : rn_cw "" 0 (MM 120) 0 := ⟨⟨by decide +kernel, by decide +kernel, by decide +kernel⟩, by decide +kernel, aw_1⟩
theorem cw_121 : rn_cw "" 0 (MM 121) 0 := ⟨⟨by decide +kernel, by decide +kernel, by decide +kernel⟩, by decide +kernel, aw_1⟩
theorem cw_122 : rn_cw "" 0 (MM 122) 0 := ⟨⟨by decide +kernel, by decide +kernel, by decide +kernel⟩, by decide +kernel, aw_1⟩
theorem cw_123 : rn_cw "" 0 (MM 123) 0 := ⟨⟨by decide +kernel, by decide +kernel, by decide +kernel⟩, by decide +kernel, aw_22⟩
theorem cw_124 : rn_cw "" 0 (MM 124) 0 := ⟨⟨by decide +kernel, by decide +kernel, by decide +kernel⟩, by decide +kernel, aw_1⟩
theorem cw_125 : rn_cw "" 0 (MM 125) 0 := ⟨⟨by decide +kernel, by decide +kernel, by decide +kernel⟩, by decide +kernel, aw_1⟩
theorem cw_126 : rn_cw "" 0 (MM 126) 0 := ⟨⟨by decide +kernel, by decide +kernel, by decide +kernel⟩, by decide +kernel, aw_16⟩
theorem ct_L_ask : ∀ q ∈ [(73, 0), (76, 1), (79, 2), (82, 3), (85, 4)], Cond.classLink RL q.1 (rn_xn q.2) ∈ rn_ALL := (rn_c3w aw_178 (rn_c3w aw_258 (rn_c3w aw_259 (rn_c3w aw_260 (rn_c3w aw_261 rn_n3)))))
theorem ct_L_hasNone : ∀ q ∈ [(153, 5)], Cond.classLink RL q.1 (rn_xn q.2) ∈ rn_ALL := (rn_c3w aw_1282 rn_n3)
end RNP
