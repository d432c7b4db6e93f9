theorem wd_1 : (Jvm.Cond.initialized "TemplatePress") ∈ lw_good := lw_in (List.mem_of_getElem? (i := 1) (by decide +kernel)) (by decide +kernel)
theorem wd_1000 : (Jvm.Cond.instanceMethod ({ cls := "TemplatePress$Numbers", name := "copy", desc := "(LTemplatePress$Numbers;)V" } : Jvm.MethodName)) ∈ lw_good := lw_in (List.mem_of_getElem? (i := 1000) (by decide +kernel)) (by decide +kernel)
theorem wd_1001 : (Jvm.Cond.selects "TemplatePress$Numbers" ({ cls := "TemplatePress$Numbers", name := "copy", desc := "(LTemplatePress$Numbers;)V" } : Jvm.MethodName) ({ cls := "TemplatePress$Numbers", name := "copy", desc := "(LTemplatePress$Numbers;)V" } : Jvm.MethodName)) ∈ lw_good := lw_in (List.mem_of_getElem? (i := 1001) (by decide +kernel)) (by decide +kernel)
theorem wd_1002 : (Jvm.Cond.code ({ cls := "TemplatePress$Numbers", name := "copy", desc := "(LTemplatePress$Numbers;)V" } : Jvm.MethodName) prog_7_method_6_code (3 : Nat) (Option.none : Option Jvm.ClassFile.FieldType)) ∈ lw_good := lw_in (List.mem_of_getElem? (i := 1002) (by decide +kernel)) (by decide +kernel)
theorem wd_1003 : (Jvm.Cond.methodLink "TemplatePress$Numbers" (19 : Nat) ({ cls := "java/lang/Math", name := "min", desc := "(II)I" } : Jvm.MethodName)) ∈ lw_good := lw_in (List.mem_of_getElem? (i := 1003) (by decide +kernel)) (by decide +kernel)
theorem wd_1004 : (Jvm.Cond.methodLink "TemplatePress$Numbers" (25 : Nat) ({ cls := "java/lang/System", name := "arraycopy", desc := "(Ljava/lang/Object;ILjava/lang/Object;II)V" } : Jvm.MethodName)) ∈ lw_good := lw_in (List.mem_of_getElem? (i := 1004) (by decide +kernel)) (by decide +kernel)
theorem wd_1032 : (Jvm.Cond.methodLink "TemplatePress" (212 : Nat) ({ cls := "TemplatePress$State", name := "holding", desc := "()I" } : Jvm.MethodName)) ∈ lw_good := lw_in (List.mem_of_getElem? (i := 1032) (by decide +kernel)) (by decide +kernel)
theorem wd_1033 : (Jvm.Cond.instanceMethod ({ cls := "TemplatePress$State", name := "holding", desc := "()I" } : Jvm.MethodName)) ∈ lw_good := lw_in (List.mem_of_getElem? (i := 1033) (by decide +kernel)) (by decide +kernel)
theorem wd_1034 : (Jvm.Cond.selects "TemplatePress$State" ({ cls := "TemplatePress$State", name := "holding", desc := "()I" } : Jvm.MethodName) ({ cls := "TemplatePress$State", name := "holding", desc := "()I" } : Jvm.MethodName)) ∈ lw_good := lw_in (List.mem_of_getElem? (i := 1034) (by decide +kernel)) (by decide +kernel)
theorem wd_1035 : (Jvm.Cond.code ({ cls := "TemplatePress$State", name := "holding", desc := "()I" } : Jvm.MethodName) prog_11_method_4_code (3 : Nat) (Option.some Jvm.ClassFile.FieldType.int)) ∈ lw_good := lw_in (List.mem_of_getElem? (i := 1035) (by decide +kernel)) (by decide +kernel)
theorem wd_1036 : (Jvm.Cond.methodLink "TemplatePress" (215 : Nat) ({ cls := "TemplatePress$Numbers", name := "sum", desc := "()I" } : Jvm.MethodName)) ∈ lw_good := lw_in (List.mem_of_getElem? (i := 1036) (by decide +kernel)) (by decide +kernel)
theorem wd_1037 : (Jvm.Cond.instanceMethod ({ cls := "TemplatePress$Numbers", name := "sum", desc := "()I" } : Jvm.MethodName)) ∈ lw_good := lw_in (List.mem_of_getElem? (i := 1037) (by decide +kernel)) (by decide +kernel)
theorem wd_1038 : (Jvm.Cond.selects "TemplatePress$Numbers" ({ cls := "TemplatePress$Numbers", name := "sum", desc := "()I" } : Jvm.MethodName) ({ cls := "TemplatePress$Numbers", name := "sum", desc := "()I" } : Jvm.MethodName)) ∈ lw_good := lw_in (List.mem_of_getElem? (i := 1038) (by decide +kernel)) (by decide +kernel)
theorem wd_1039 : (Jvm.Cond.code ({ cls := "TemplatePress$Numbers", name := "sum", desc := "()I" } : Jvm.MethodName) prog_7_method_7_code (3 : Nat) (Option.some Jvm.ClassFile.FieldType.int)) ∈ lw_good := lw_in (List.mem_of_getElem? (i := 1039) (by decide +kernel)) (by decide +kernel)
theorem wd_1040 : (Jvm.Cond.methodLink "TemplatePress" (218 : Nat) ({ cls := "TemplatePress$Numbers", name := "count", desc := "(I)I" } : Jvm.MethodName)) ∈ lw_good := lw_in (List.mem_of_getElem? (i := 1040) (by decide +kernel)) (by decide +kernel)
theorem wd_1041 : (Jvm.Cond.instanceMethod ({ cls := "TemplatePress$Numbers", name := "count", desc := "(I)I" } : Jvm.MethodName)) ∈ lw_good := lw_in (List.mem_of_getElem? (i := 1041) (by decide +kernel)) (by decide +kernel)
theorem wd_1042 : (Jvm.Cond.selects "TemplatePress$Numbers" ({ cls := "TemplatePress$Numbers", name := "count", desc := "(I)I" } : Jvm.MethodName) ({ cls := "TemplatePress$Numbers", name := "count", desc := "(I)I" } : Jvm.MethodName)) ∈ lw_good := lw_in (List.mem_of_getElem? (i := 1042) (by decide +kernel)) (by decide +kernel)
theorem wd_1043 : (Jvm.Cond.code ({ cls := "TemplatePress$Numbers", name := "count", desc := "(I)I" } : Jvm.MethodName) prog_7_method_8_code (4 : Nat) (Option.some Jvm.ClassFile.FieldType.int)) ∈ lw_good := lw_in (List.mem_of_getElem? (i := 1043) (by decide +kernel)) (by decide +kernel)
theorem wd_1048 : (Jvm.Cond.methodLink "TemplatePress" (221 : Nat) ({ cls := "TemplatePress$Row", name := "begin", desc := "(II)V" } : Jvm.MethodName)) ∈ lw_good := lw_in (List.mem_of_getElem? (i := 1048) (by decide +kernel)) (by decide +kernel)
theorem wd_1049 : (Jvm.Cond.instanceMethod ({ cls := "TemplatePress$Row", name := "begin", desc := "(II)V" } : Jvm.MethodName)) ∈ lw_good := lw_in (List.mem_of_getElem? (i := 1049) (by decide +kernel)) (by decide +kernel)
theorem wd_1050 : (Jvm.Cond.selects "TemplatePress$Row" ({ cls := "TemplatePress$Row", name := "begin", desc := "(II)V" } : Jvm.MethodName) ({ cls := "TemplatePress$Row", name := "begin", desc := "(II)V" } : Jvm.MethodName)) ∈ lw_good := lw_in (List.mem_of_getElem? (i := 1050) (by decide +kernel)) (by decide +kernel)
theorem wd_1051 : (Jvm.Cond.code ({ cls := "TemplatePress$Row", name := "begin", desc := "(II)V" } : Jvm.MethodName) prog_10_method_2_code (4 : Nat) (Option.none : Option Jvm.ClassFile.FieldType)) ∈ lw_good := lw_in (List.mem_of_getElem? (i := 1051) (by decide +kernel)) (by decide +kernel)
theorem wd_1052 : (Jvm.Cond.methodLink "TemplatePress$Row" (23 : Nat) ({ cls := "java/lang/Math", name := "min", desc := "(II)I" } : Jvm.MethodName)) ∈ lw_good := lw_in (List.mem_of_getElem? (i := 1052) (by decide +kernel)) (by decide +kernel)
theorem wd_1053 : (Jvm.Cond.methodLink "TemplatePress$Row" (29 : Nat) ({ cls := "java/lang/Math", name := "max", desc := "(II)I" } : Jvm.MethodName)) ∈ lw_good := lw_in (List.mem_of_getElem? (i := 1053) (by decide +kernel)) (by decide +kernel)
theorem wd_1058 : (Jvm.Cond.methodLink "TemplatePress" (223 : Nat) ({ cls := "TemplatePress$Row", name := "isNothing", desc := "()Z" } : Jvm.MethodName)) ∈ lw_good := lw_in (List.mem_of_getElem? (i := 1058) (by decide +kernel)) (by decide +kernel)
theorem wd_1059 : (Jvm.Cond.instanceMethod ({ cls := "TemplatePress$Row", name := "isNothing", desc := "()Z" } : Jvm.MethodName)) ∈ lw_good := lw_in (List.mem_of_getElem? (i := 1059) (by decide +kernel)) (by decide +kernel)
theorem wd_106 : (Jvm.Cond.classLink "TemplatePress" (12 : Nat) "TemplatePress$Numbers") ∈ lw_good := lw_in (List.mem_of_getElem? (i := 106) (by decide +kernel)) (by decide +kernel)
theorem wd_1060 : (Jvm.Cond.selects "TemplatePress$Row" ({ cls := "TemplatePress$Row", name := "isNothing", desc := "()Z" } : Jvm.MethodName) ({ cls := "TemplatePress$Row", name := "isNothing", desc := "()Z" } : Jvm.MethodName)) ∈ lw_good := lw_in (List.mem_of_getElem? (i := 1060) (by decide +kernel)) (by decide +kernel)
theorem wd_1061 : (Jvm.Cond.code ({ cls := "TemplatePress$Row", name := "isNothing", desc := "()Z" } : Jvm.MethodName) prog_10_method_3_code (1 : Nat) (Option.some Jvm.ClassFile.FieldType.boolean)) ∈ lw_good := lw_in (List.mem_of_getElem? (i := 1061) (by decide +kernel)) (by decide +kernel)
theorem wd_1062 : (Jvm.Cond.methodLink "TemplatePress" (227 : Nat) ({ cls := "TemplatePress$Row", name := "put", desc := "(IJ)V" } : Jvm.MethodName)) ∈ lw_good := lw_in (List.mem_of_getElem? (i := 1062) (by decide +kernel)) (by decide +kernel)
theorem wd_1063 : (Jvm.Cond.instanceMethod ({ cls := "TemplatePress$Row", name := "put", desc := "(IJ)V" } : Jvm.MethodName)) ∈ lw_good := lw_in (List.mem_of_getElem? (i := 1063) (by decide +kernel)) (by decide +kernel)
theorem wd_1064 : (Jvm.Cond.selects "TemplatePress$Row" ({ cls := "TemplatePress$Row", name := "put", desc := "(IJ)V" } : Jvm.MethodName) ({ cls := "TemplatePress$Row", name := "put", desc := "(IJ)V" } : Jvm.MethodName)) ∈ lw_good := lw_in (List.mem_of_getElem? (i := 1064) (by decide +kernel)) (by decide +kernel)
theorem wd_1065 : (Jvm.Cond.code ({ cls := "TemplatePress$Row", name := "put", desc := "(IJ)V" } : Jvm.MethodName) prog_10_method_5_code (4 : Nat) (Option.none : Option Jvm.ClassFile.FieldType)) ∈ lw_good := lw_in (List.mem_of_getElem? (i := 1065) (by decide +kernel)) (by decide +kernel)
theorem wd_107 : (Jvm.Cond.methodLink "TemplatePress" (16 : Nat) ({ cls := "TemplatePress$Numbers", name := "<init>", desc := "(I)V" } : Jvm.MethodName)) ∈ lw_good := lw_in (List.mem_of_getElem? (i := 107) (by decide +kernel)) (by decide +kernel)
theorem wd_1071 : (Jvm.Cond.constantLong "TemplatePress" (230 : Nat) (-9223372036854775808 : Int64)) ∈ lw_good := lw_in (List.mem_of_getElem? (i := 1071) (by decide +kernel)) (by decide +kernel)
theorem wd_1072 : (Jvm.Cond.methodLink "TemplatePress" (232 : Nat) ({ cls := "TemplatePress$Row", name := "bits", desc := "(I)J" } : Jvm.MethodName)) ∈ lw_good := lw_in (List.mem_of_getElem? (i := 1072) (by decide +kernel)) (by decide +kernel)
theorem wd_1073 : (Jvm.Cond.instanceMethod ({ cls := "TemplatePress$Row", name := "bits", desc := "(I)J" } : Jvm.MethodName)) ∈ lw_good := lw_in (List.mem_of_getElem? (i := 1073) (by decide +kernel)) (by decide +kernel)
theorem wd_1074 : (Jvm.Cond.selects "TemplatePress$Row" ({ cls := "TemplatePress$Row", name := "bits", desc := "(I)J" } : Jvm.MethodName) ({ cls := "TemplatePress$Row", name := "bits", desc := "(I)J" } : Jvm.MethodName)) ∈ lw_good := lw_in (List.mem_of_getElem? (i := 1074) (by decide +kernel)) (by decide +kernel)
theorem wd_1075 : (Jvm.Cond.code ({ cls := "TemplatePress$Row", name := "bits", desc := "(I)J" } : Jvm.MethodName) prog_10_method_6_code (2 : Nat) (Option.some Jvm.ClassFile.FieldType.long)) ∈ lw_good := lw_in (List.mem_of_getElem? (i := 1075) (by decide +kernel)) (by decide +kernel)
theorem wd_1076 : (Jvm.Cond.constantLong "TemplatePress$Row" (39 : Nat) (-9223372036854775808 : Int64)) ∈ lw_good := lw_in (List.mem_of_getElem? (i := 1076) (by decide +kernel)) (by decide +kernel)
theorem wd_1077 : (Jvm.Cond.methodLink "TemplatePress$Row" (41 : Nat) ({ cls := "TemplatePress$Value", name := "bitsOf", desc := "(F)I" } : Jvm.MethodName)) ∈ lw_good := lw_in (List.mem_of_getElem? (i := 1077) (by decide +kernel)) (by decide +kernel)
theorem wd_108 : (Jvm.Cond.classLink "TemplatePress" (19 : Nat) "TemplatePress$Row") ∈ lw_good := lw_in (List.mem_of_getElem? (i := 108) (by decide +kernel)) (by decide +kernel)
theorem wd_1082 : (Jvm.Cond.methodLink "TemplatePress" (237 : Nat) ({ cls := "TemplatePress$Row", name := "spans", desc := "(II)Z" } : Jvm.MethodName)) ∈ lw_good := lw_in (List.mem_of_getElem? (i := 1082) (by decide +kernel)) (by decide +kernel)
theorem wd_1083 : (Jvm.Cond.instanceMethod ({ cls := "TemplatePress$Row", name := "spans", desc := "(II)Z" } : Jvm.MethodName)) ∈ lw_good := lw_in (List.mem_of_getElem? (i := 1083) (by decide +kernel)) (by decide +kernel)
theorem wd_1084 : (Jvm.Cond.selects "TemplatePress$Row" ({ cls := "TemplatePress$Row", name := "spans", desc := "(II)Z" } : Jvm.MethodName) ({ cls := "TemplatePress$Row", name := "spans", desc := "(II)Z" } : Jvm.MethodName)) ∈ lw_good := lw_in (List.mem_of_getElem? (i := 1084) (by decide +kernel)) (by decide +kernel)
theorem wd_1085 : (Jvm.Cond.code ({ cls := "TemplatePress$Row", name := "spans", desc := "(II)Z" } : Jvm.MethodName) prog_10_method_4_code (3 : Nat) (Option.some Jvm.ClassFile.FieldType.boolean)) ∈ lw_good := lw_in (List.mem_of_getElem? (i := 1085) (by decide +kernel)) (by decide +kernel)
theorem wd_1086 : (Jvm.Cond.methodLink "TemplatePress" (240 : Nat) ({ cls := "TemplatePress$Row", name := "take", desc := "(LTemplatePress$Row;III)V" } : Jvm.MethodName)) ∈ lw_good := lw_in (List.mem_of_getElem? (i := 1086) (by decide +kernel)) (by decide +kernel)
theorem wd_1087 : (Jvm.Cond.instanceMethod ({ cls := "TemplatePress$Row", name := "take", desc := "(LTemplatePress$Row;III)V" } : Jvm.MethodName)) ∈ lw_good := lw_in (List.mem_of_getElem? (i := 1087) (by decide +kernel)) (by decide +kernel)
theorem wd_1088 : (Jvm.Cond.selects "TemplatePress$Row" ({ cls := "TemplatePress$Row", name := "take", desc := "(LTemplatePress$Row;III)V" } : Jvm.MethodName) ({ cls := "TemplatePress$Row", name := "take", desc := "(LTemplatePress$Row;III)V" } : Jvm.MethodName)) ∈ lw_good := lw_in (List.mem_of_getElem? (i := 1088) (by decide +kernel)) (by decide +kernel)
theorem wd_1089 : (Jvm.Cond.code ({ cls := "TemplatePress$Row", name := "take", desc := "(LTemplatePress$Row;III)V" } : Jvm.MethodName) prog_10_method_8_code (5 : Nat) (Option.none : Option Jvm.ClassFile.FieldType)) ∈ lw_good := lw_in (List.mem_of_getElem? (i := 1089) (by decide +kernel)) (by decide +kernel)
theorem wd_1090 : (Jvm.Cond.methodLink "TemplatePress$Row" (47 : Nat) ({ cls := "TemplatePress$Row", name := "spans", desc := "(II)Z" } : Jvm.MethodName)) ∈ lw_good := lw_in (List.mem_of_getElem? (i := 1090) (by decide +kernel)) (by decide +kernel)
theorem wd_1091 : (Jvm.Cond.methodLink "TemplatePress$Row" (50 : Nat) ({ cls := "java/lang/System", name := "arraycopy", desc := "(Ljava/lang/Object;ILjava/lang/Object;II)V" } : Jvm.MethodName)) ∈ lw_good := lw_in (List.mem_of_getElem? (i := 1091) (by decide +kernel)) (by decide +kernel)
theorem wd_11 : (Jvm.Cond.initialized "TemplatePress$Reader") ∈ lw_good := lw_in (List.mem_of_getElem? (i := 11) (by decide +kernel)) (by decide +kernel)
theorem wd_110 : (Jvm.Cond.instantiable "TemplatePress$Row" (4 : Nat)) ∈ lw_good := lw_in (List.mem_of_getElem? (i := 110) (by decide +kernel)) (by decide +kernel)
theorem wd_1104 : (Jvm.Cond.methodLink "TemplatePress" (244 : Nat) ({ cls := "TemplatePress$Row", name := "whole", desc := "(I)I" } : Jvm.MethodName)) ∈ lw_good := lw_in (List.mem_of_getElem? (i := 1104) (by decide +kernel)) (by decide +kernel)
theorem wd_1105 : (Jvm.Cond.instanceMethod ({ cls := "TemplatePress$Row", name := "whole", desc := "(I)I" } : Jvm.MethodName)) ∈ lw_good := lw_in (List.mem_of_getElem? (i := 1105) (by decide +kernel)) (by decide +kernel)
theorem wd_1106 : (Jvm.Cond.selects "TemplatePress$Row" ({ cls := "TemplatePress$Row", name := "whole", desc := "(I)I" } : Jvm.MethodName) ({ cls := "TemplatePress$Row", name := "whole", desc := "(I)I" } : Jvm.MethodName)) ∈ lw_good := lw_in (List.mem_of_getElem? (i := 1106) (by decide +kernel)) (by decide +kernel)
theorem wd_1107 : (Jvm.Cond.code ({ cls := "TemplatePress$Row", name := "whole", desc := "(I)I" } : Jvm.MethodName) prog_10_method_7_code (2 : Nat) (Option.some Jvm.ClassFile.FieldType.int)) ∈ lw_good := lw_in (List.mem_of_getElem? (i := 1107) (by decide +kernel)) (by decide +kernel)
theorem wd_1112 : (Jvm.Cond.methodLink "TemplatePress" (247 : Nat) ({ cls := "TemplatePress$State", name := "copy", desc := "(LTemplatePress$State;)V" } : Jvm.MethodName)) ∈ lw_good := lw_in (List.mem_of_getElem? (i := 1112) (by decide +kernel)) (by decide +kernel)
theorem wd_1113 : (Jvm.Cond.instanceMethod ({ cls := "TemplatePress$State", name := "copy", desc := "(LTemplatePress$State;)V" } : Jvm.MethodName)) ∈ lw_good := lw_in (List.mem_of_getElem? (i := 1113) (by decide +kernel)) (by decide +kernel)
theorem wd_1114 : (Jvm.Cond.selects "TemplatePress$State" ({ cls := "TemplatePress$State", name := "copy", desc := "(LTemplatePress$State;)V" } : Jvm.MethodName) ({ cls := "TemplatePress$State", name := "copy", desc := "(LTemplatePress$State;)V" } : Jvm.MethodName)) ∈ lw_good := lw_in (List.mem_of_getElem? (i := 1114) (by decide +kernel)) (by decide +kernel)
theorem wd_1115 : (Jvm.Cond.code ({ cls := "TemplatePress$State", name := "copy", desc := "(LTemplatePress$State;)V" } : Jvm.MethodName) prog_11_method_5_code (3 : Nat) (Option.none : Option Jvm.ClassFile.FieldType)) ∈ lw_good := lw_in (List.mem_of_getElem? (i := 1115) (by decide +kernel)) (by decide +kernel)
theorem wd_1116 : (Jvm.Cond.methodLink "TemplatePress$State" (41 : Nat) ({ cls := "TemplatePress$Value", name := "copy", desc := "(LTemplatePress$Value;)V" } : Jvm.MethodName)) ∈ lw_good := lw_in (List.mem_of_getElem? (i := 1116) (by decide +kernel)) (by decide +kernel)
theorem wd_1117 : (Jvm.Cond.methodLink "TemplatePress$State" (45 : Nat) ({ cls := "TemplatePress$Numbers", name := "copy", desc := "(LTemplatePress$Numbers;)V" } : Jvm.MethodName)) ∈ lw_good := lw_in (List.mem_of_getElem? (i := 1117) (by decide +kernel)) (by decide +kernel)
theorem wd_112 : (Jvm.Cond.instanceMethod ({ cls := "TemplatePress$Row", name := "<init>", desc := "()V" } : Jvm.MethodName)) ∈ lw_good := lw_in (List.mem_of_getElem? (i := 112) (by decide +kernel)) (by decide +kernel)
theorem wd_1127 : (Jvm.Cond.methodLink "TemplatePressModel" (3 : Nat) ({ cls := "java/lang/Object", name := "<init>", desc := "()V" } : Jvm.MethodName)) ∈ lw_good := lw_in (List.mem_of_getElem? (i := 1127) (by decide +kernel)) (by decide +kernel)
theorem wd_1128 : (Jvm.Cond.fieldLink "TemplatePressModel" (11 : Nat) "TemplatePressModel" "kind" "[I") ∈ lw_good := lw_in (List.mem_of_getElem? (i := 1128) (by decide +kernel)) (by decide +kernel)
theorem wd_1129 : (Jvm.Cond.fieldLink "TemplatePressModel" (15 : Nat) "TemplatePressModel" "num" "[I") ∈ lw_good := lw_in (List.mem_of_getElem? (i := 1129) (by decide +kernel)) (by decide +kernel)
theorem wd_113 : (Jvm.Cond.code ({ cls := "TemplatePress$Row", name := "<init>", desc := "()V" } : Jvm.MethodName) prog_10_method_1_code (1 : Nat) (Option.none : Option Jvm.ClassFile.FieldType)) ∈ lw_good := lw_in (List.mem_of_getElem? (i := 113) (by decide +kernel)) (by decide +kernel)
theorem wd_1130 : (Jvm.Cond.fieldLink "TemplatePressModel" (18 : Nat) "TemplatePressModel" "many" "[I") ∈ lw_good := lw_in (List.mem_of_getElem? (i := 1130) (by decide +kernel)) (by decide +kernel)
theorem wd_1131 : (Jvm.Cond.fieldLink "TemplatePressModel" (21 : Nat) "TemplatePressModel" "data" "[I") ∈ lw_good := lw_in (List.mem_of_getElem? (i := 1131) (by decide +kernel)) (by decide +kernel)
theorem wd_1132 : (Jvm.Cond.fieldLink "TemplatePressModel" (24 : Nat) "TemplatePressModel" "real" "[F") ∈ lw_good := lw_in (List.mem_of_getElem? (i := 1132) (by decide +kernel)) (by decide +kernel)
theorem wd_1133 : (Jvm.Cond.fieldLink "TemplatePressModel" (28 : Nat) "TemplatePressModel" "shown" "[I") ∈ lw_good := lw_in (List.mem_of_getElem? (i := 1133) (by decide +kernel)) (by decide +kernel)
theorem wd_1134 : (Jvm.Cond.fieldLink "TemplatePressModel" (140 : Nat) "TemplatePressModel" "showing" "I") ∈ lw_good := lw_in (List.mem_of_getElem? (i := 1134) (by decide +kernel)) (by decide +kernel)
theorem wd_1135 : (Jvm.Cond.fieldLink "TemplatePressModel" (31 : Nat) "TemplatePressModel" "tape" "[I") ∈ lw_good := lw_in (List.mem_of_getElem? (i := 1135) (by decide +kernel)) (by decide +kernel)
theorem wd_1136 : (Jvm.Cond.fieldLink "TemplatePressModel" (34 : Nat) "TemplatePressModel" "text" "[I") ∈ lw_good := lw_in (List.mem_of_getElem? (i := 1136) (by decide +kernel)) (by decide +kernel)
theorem wd_1137 : (Jvm.Cond.fieldLink "TemplatePressModel" (37 : Nat) "TemplatePressModel" "size" "[I") ∈ lw_good := lw_in (List.mem_of_getElem? (i := 1137) (by decide +kernel)) (by decide +kernel)
theorem wd_1138 : (Jvm.Cond.fieldLink "TemplatePressModel" (229 : Nat) "TemplatePressModel" "fed" "I") ∈ lw_good := lw_in (List.mem_of_getElem? (i := 1138) (by decide +kernel)) (by decide +kernel)
theorem wd_1139 : (Jvm.Cond.fieldLink "TemplatePressModel" (40 : Nat) "TemplatePressModel" "src" "[I") ∈ lw_good := lw_in (List.mem_of_getElem? (i := 1139) (by decide +kernel)) (by decide +kernel)
theorem wd_114 : (Jvm.Cond.methodLink "TemplatePress$Row" (3 : Nat) ({ cls := "java/lang/Object", name := "<init>", desc := "()V" } : Jvm.MethodName)) ∈ lw_good := lw_in (List.mem_of_getElem? (i := 114) (by decide +kernel)) (by decide +kernel)
theorem wd_1140 : (Jvm.Cond.fieldLink "TemplatePressModel" (232 : Nat) "TemplatePressModel" "off" "I") ∈ lw_good := lw_in (List.mem_of_getElem? (i := 1140) (by decide +kernel)) (by decide +kernel)
theorem wd_1141 : (Jvm.Cond.fieldLink "TemplatePressModel" (235 : Nat) "TemplatePressModel" "len" "I") ∈ lw_good := lw_in (List.mem_of_getElem? (i := 1141) (by decide +kernel)) (by decide +kernel)
theorem wd_1142 : (Jvm.Cond.fieldLink "TemplatePressModel" (238 : Nat) "TemplatePressModel" "at" "I") ∈ lw_good := lw_in (List.mem_of_getElem? (i := 1142) (by decide +kernel)) (by decide +kernel)
theorem wd_1143 : (Jvm.Cond.fieldLink "TemplatePressModel" (241 : Nat) "TemplatePressModel" "fault" "I") ∈ lw_good := lw_in (List.mem_of_getElem? (i := 1143) (by decide +kernel)) (by decide +kernel)
theorem wd_1144 : (Jvm.Cond.fieldLink "TemplatePressModel" (244 : Nat) "TemplatePressModel" "nodes" "I") ∈ lw_good := lw_in (List.mem_of_getElem? (i := 1144) (by decide +kernel)) (by decide +kernel)
theorem wd_1145 : (Jvm.Cond.fieldLink "TemplatePressModel" (341 : Nat) "TemplatePressModel" "place" "I") ∈ lw_good := lw_in (List.mem_of_getElem? (i := 1145) (by decide +kernel)) (by decide +kernel)
theorem wd_1147 : (Jvm.Cond.fieldLink "TemplatePressModel" (43 : Nat) "TemplatePressModel" "page" "[I") ∈ lw_good := lw_in (List.mem_of_getElem? (i := 1147) (by decide +kernel)) (by decide +kernel)
theorem wd_1148 : (Jvm.Cond.fieldLink "TemplatePressModel" (46 : Nat) "TemplatePressModel" "out" "[I") ∈ lw_good := lw_in (List.mem_of_getElem? (i := 1148) (by decide +kernel)) (by decide +kernel)
theorem wd_1149 : (Jvm.Cond.fieldLink "TemplatePressModel" (512 : Nat) "TemplatePressModel" "paged" "I") ∈ lw_good := lw_in (List.mem_of_getElem? (i := 1149) (by decide +kernel)) (by decide +kernel)
theorem wd_115 : (Jvm.Cond.fieldLink "TemplatePress$Row" (9 : Nat) "TemplatePress$Row" "sort" "I") ∈ lw_good := lw_in (List.mem_of_getElem? (i := 115) (by decide +kernel)) (by decide +kernel)
theorem wd_1150 : (Jvm.Cond.fieldLink "TemplatePressModel" (378 : Nat) "TemplatePressModel" "put" "I") ∈ lw_good := lw_in (List.mem_of_getElem? (i := 1150) (by decide +kernel)) (by decide +kernel)
theorem wd_1151 : (Jvm.Cond.fieldLink "TemplatePressModel" (384 : Nat) "TemplatePressModel" "context" "I") ∈ lw_good := lw_in (List.mem_of_getElem? (i := 1151) (by decide +kernel)) (by decide +kernel)
theorem wd_1152 : (Jvm.Cond.fieldLink "TemplatePressModel" (49 : Nat) "TemplatePressModel" "budget" "I") ∈ lw_good := lw_in (List.mem_of_getElem? (i := 1152) (by decide +kernel)) (by decide +kernel)
theorem wd_1153 : (Jvm.Cond.fieldLink "TemplatePressModel" (53 : Nat) "TemplatePressModel" "oldKind" "[I") ∈ lw_good := lw_in (List.mem_of_getElem? (i := 1153) (by decide +kernel)) (by decide +kernel)
theorem wd_1154 : (Jvm.Cond.fieldLink "TemplatePressModel" (56 : Nat) "TemplatePressModel" "oldNum" "[I") ∈ lw_good := lw_in (List.mem_of_getElem? (i := 1154) (by decide +kernel)) (by decide +kernel)
theorem wd_1155 : (Jvm.Cond.fieldLink "TemplatePressModel" (59 : Nat) "TemplatePressModel" "oldMany" "[I") ∈ lw_good := lw_in (List.mem_of_getElem? (i := 1155) (by decide +kernel)) (by decide +kernel)
theorem wd_1156 : (Jvm.Cond.fieldLink "TemplatePressModel" (62 : Nat) "TemplatePressModel" "oldData" "[I") ∈ lw_good := lw_in (List.mem_of_getElem? (i := 1156) (by decide +kernel)) (by decide +kernel)
theorem wd_1157 : (Jvm.Cond.fieldLink "TemplatePressModel" (65 : Nat) "TemplatePressModel" "oldReal" "[F") ∈ lw_good := lw_in (List.mem_of_getElem? (i := 1157) (by decide +kernel)) (by decide +kernel)
theorem wd_1158 : (Jvm.Cond.fieldLink "TemplatePressModel" (400 : Nat) "TemplatePressModel" "olds" "I") ∈ lw_good := lw_in (List.mem_of_getElem? (i := 1158) (by decide +kernel)) (by decide +kernel)
theorem wd_1159 : (Jvm.Cond.fieldLink "TemplatePressModel" (68 : Nat) "TemplatePressModel" "chain" "[I") ∈ lw_good := lw_in (List.mem_of_getElem? (i := 1159) (by decide +kernel)) (by decide +kernel)
theorem wd_1160 : (Jvm.Cond.fieldLink "TemplatePressModel" (71 : Nat) "TemplatePressModel" "chained" "[I") ∈ lw_good := lw_in (List.mem_of_getElem? (i := 1160) (by decide +kernel)) (by decide +kernel)
theorem wd_1161 : (Jvm.Cond.fieldLink "TemplatePressModel" (74 : Nat) "TemplatePressModel" "partOf" "[I") ∈ lw_good := lw_in (List.mem_of_getElem? (i := 1161) (by decide +kernel)) (by decide +kernel)
theorem wd_1162 : (Jvm.Cond.fieldLink "TemplatePressModel" (77 : Nat) "TemplatePressModel" "partLine" "[I") ∈ lw_good := lw_in (List.mem_of_getElem? (i := 1162) (by decide +kernel)) (by decide +kernel)
theorem wd_1165 : (Jvm.Cond.fieldLink "TemplatePressModel" (350 : Nat) "TemplatePressModel" "loops" "I") ∈ lw_good := lw_in (List.mem_of_getElem? (i := 1165) (by decide +kernel)) (by decide +kernel)
theorem wd_1166 : (Jvm.Cond.fieldLink "TemplatePressModel" (509 : Nat) "TemplatePressModel" "printed" "I") ∈ lw_good := lw_in (List.mem_of_getElem? (i := 1166) (by decide +kernel)) (by decide +kernel)
theorem wd_1167 : (Jvm.Cond.fieldLink "TemplatePressModel" (80 : Nat) "TemplatePressModel" "turn" "[I") ∈ lw_good := lw_in (List.mem_of_getElem? (i := 1167) (by decide +kernel)) (by decide +kernel)
theorem wd_1168 : (Jvm.Cond.fieldLink "TemplatePressModel" (83 : Nat) "TemplatePressModel" "item" "[I") ∈ lw_good := lw_in (List.mem_of_getElem? (i := 1168) (by decide +kernel)) (by decide +kernel)
theorem wd_1169 : (Jvm.Cond.fieldLink "TemplatePressModel" (86 : Nat) "TemplatePressModel" "items" "[I") ∈ lw_good := lw_in (List.mem_of_getElem? (i := 1169) (by decide +kernel)) (by decide +kernel)
theorem wd_117 : (Jvm.Cond.fieldLink "TemplatePress$Row" (32 : Nat) "TemplatePress$Row" "size" "I") ∈ lw_good := lw_in (List.mem_of_getElem? (i := 117) (by decide +kernel)) (by decide +kernel)
theorem wd_1170 : (Jvm.Cond.fieldLink "TemplatePressModel" (423 : Nat) "TemplatePressModel" "isLooking" "Z") ∈ lw_good := lw_in (List.mem_of_getElem? (i := 1170) (by decide +kernel)) (by decide +kernel)
theorem wd_1171 : (Jvm.Cond.fieldLink "TemplatePressModel" (409 : Nat) "TemplatePressModel" "isFault" "Z") ∈ lw_good := lw_in (List.mem_of_getElem? (i := 1171) (by decide +kernel)) (by decide +kernel)
theorem wd_1172 : (Jvm.Cond.fieldLink "TemplatePressModel" (89 : Nat) "TemplatePressModel" "whyTemplate" "[I") ∈ lw_good := lw_in (List.mem_of_getElem? (i := 1172) (by decide +kernel)) (by decide +kernel)
theorem wd_1173 : (Jvm.Cond.fieldLink "TemplatePressModel" (92 : Nat) "TemplatePressModel" "whyLine" "[I") ∈ lw_good := lw_in (List.mem_of_getElem? (i := 1173) (by decide +kernel)) (by decide +kernel)
theorem wd_1174 : (Jvm.Cond.fieldLink "TemplatePressModel" (95 : Nat) "TemplatePressModel" "whySort" "[I") ∈ lw_good := lw_in (List.mem_of_getElem? (i := 1174) (by decide +kernel)) (by decide +kernel)
theorem wd_1175 : (Jvm.Cond.fieldLink "TemplatePressModel" (403 : Nat) "TemplatePressModel" "why" "I") ∈ lw_good := lw_in (List.mem_of_getElem? (i := 1175) (by decide +kernel)) (by decide +kernel)
theorem wd_1176 : (Jvm.Cond.fieldLink "TemplatePressModel" (98 : Nat) "TemplatePressModel" "rowSort" "[I") ∈ lw_good := lw_in (List.mem_of_getElem? (i := 1176) (by decide +kernel)) (by decide +kernel)
theorem wd_1177 : (Jvm.Cond.fieldLink "TemplatePressModel" (101 : Nat) "TemplatePressModel" "rowMany" "[I") ∈ lw_good := lw_in (List.mem_of_getElem? (i := 1177) (by decide +kernel)) (by decide +kernel)
theorem wd_1178 : (Jvm.Cond.fieldLink "TemplatePressModel" (104 : Nat) "TemplatePressModel" "whole" "[I") ∈ lw_good := lw_in (List.mem_of_getElem? (i := 1178) (by decide +kernel)) (by decide +kernel)
theorem wd_1179 : (Jvm.Cond.fieldLink "TemplatePressModel" (107 : Nat) "TemplatePressModel" "part" "[F") ∈ lw_good := lw_in (List.mem_of_getElem? (i := 1179) (by decide +kernel)) (by decide +kernel)
theorem wd_1180 : (Jvm.Cond.fieldLink "TemplatePressModel" (110 : Nat) "TemplatePressModel" "keptSize" "[I") ∈ lw_good := lw_in (List.mem_of_getElem? (i := 1180) (by decide +kernel)) (by decide +kernel)
theorem wd_1181 : (Jvm.Cond.fieldLink "TemplatePressModel" (113 : Nat) "TemplatePressModel" "keptText" "[I") ∈ lw_good := lw_in (List.mem_of_getElem? (i := 1181) (by decide +kernel)) (by decide +kernel)
theorem wd_1182 : (Jvm.Cond.fieldLink "TemplatePressModel" (116 : Nat) "TemplatePressModel" "keptPage" "[I") ∈ lw_good := lw_in (List.mem_of_getElem? (i := 1182) (by decide +kernel)) (by decide +kernel)
theorem wd_1183 : (Jvm.Cond.fieldLink "TemplatePressModel" (119 : Nat) "TemplatePressModel" "keptKind" "[I") ∈ lw_good := lw_in (List.mem_of_getElem? (i := 1183) (by decide +kernel)) (by decide +kernel)
theorem wd_1184 : (Jvm.Cond.fieldLink "TemplatePressModel" (122 : Nat) "TemplatePressModel" "keptNum" "[I") ∈ lw_good := lw_in (List.mem_of_getElem? (i := 1184) (by decide +kernel)) (by decide +kernel)
theorem wd_1185 : (Jvm.Cond.fieldLink "TemplatePressModel" (125 : Nat) "TemplatePressModel" "keptMany" "[I") ∈ lw_good := lw_in (List.mem_of_getElem? (i := 1185) (by decide +kernel)) (by decide +kernel)
theorem wd_1186 : (Jvm.Cond.fieldLink "TemplatePressModel" (128 : Nat) "TemplatePressModel" "keptData" "[I") ∈ lw_good := lw_in (List.mem_of_getElem? (i := 1186) (by decide +kernel)) (by decide +kernel)
theorem wd_1187 : (Jvm.Cond.fieldLink "TemplatePressModel" (131 : Nat) "TemplatePressModel" "keptReal" "[F") ∈ lw_good := lw_in (List.mem_of_getElem? (i := 1187) (by decide +kernel)) (by decide +kernel)
theorem wd_1188 : (Jvm.Cond.fieldLink "TemplatePressModel" (561 : Nat) "TemplatePressModel" "keptPaged" "I") ∈ lw_good := lw_in (List.mem_of_getElem? (i := 1188) (by decide +kernel)) (by decide +kernel)
theorem wd_1189 : (Jvm.Cond.fieldLink "TemplatePressModel" (564 : Nat) "TemplatePressModel" "keptBudget" "I") ∈ lw_good := lw_in (List.mem_of_getElem? (i := 1189) (by decide +kernel)) (by decide +kernel)
theorem wd_119 : (Jvm.Cond.fieldLink "TemplatePress$Row" (15 : Nat) "TemplatePress$Row" "wholes" "[I") ∈ lw_good := lw_in (List.mem_of_getElem? (i := 119) (by decide +kernel)) (by decide +kernel)
theorem wd_1190 : (Jvm.Cond.fieldLink "TemplatePressModel" (567 : Nat) "TemplatePressModel" "isKept" "Z") ∈ lw_good := lw_in (List.mem_of_getElem? (i := 1190) (by decide +kernel)) (by decide +kernel)
theorem wd_12 : (Jvm.Cond.initialized "TemplatePress$Template") ∈ lw_good := lw_in (List.mem_of_getElem? (i := 12) (by decide +kernel)) (by decide +kernel)
theorem wd_120 : (Jvm.Cond.fieldLink "TemplatePress$Row" (19 : Nat) "TemplatePress$Row" "floats" "[F") ∈ lw_good := lw_in (List.mem_of_getElem? (i := 120) (by decide +kernel)) (by decide +kernel)
theorem wd_13 : (Jvm.Cond.initialized "TemplatePress$Piece") ∈ lw_good := lw_in (List.mem_of_getElem? (i := 13) (by decide +kernel)) (by decide +kernel)
theorem wd_130 : (Jvm.Cond.arrayClass Jvm.ClassFile.FieldType.float) ∈ lw_good := lw_in (List.mem_of_getElem? (i := 130) (by decide +kernel)) (by decide +kernel)
theorem wd_131 : (Jvm.Cond.classLink "TemplatePress" (39 : Nat) "TemplatePress$Value") ∈ lw_good := lw_in (List.mem_of_getElem? (i := 131) (by decide +kernel)) (by decide +kernel)
theorem wd_1322 : (Jvm.Cond.constantLong "TemplatePressModel" (227 : Nat) (127 : Int64)) ∈ lw_good := lw_in (List.mem_of_getElem? (i := 1322) (by decide +kernel)) (by decide +kernel)
theorem wd_1323 : (Jvm.Cond.methodLink "TemplatePressModel" (155 : Nat) ({ cls := "TemplatePressModel", name := "isIn", desc := "(JJJ)Z" } : Jvm.MethodName)) ∈ lw_good := lw_in (List.mem_of_getElem? (i := 1323) (by decide +kernel)) (by decide +kernel)
theorem wd_1324 : (Jvm.Cond.static ({ cls := "TemplatePressModel", name := "isIn", desc := "(JJJ)Z" } : Jvm.MethodName)) ∈ lw_good := lw_in (List.mem_of_getElem? (i := 1324) (by decide +kernel)) (by decide +kernel)
theorem wd_1325 : (Jvm.Cond.code ({ cls := "TemplatePressModel", name := "isIn", desc := "(JJJ)Z" } : Jvm.MethodName) prog_16_method_2_code (6 : Nat) (Option.some Jvm.ClassFile.FieldType.boolean)) ∈ lw_good := lw_in (List.mem_of_getElem? (i := 1325) (by decide +kernel)) (by decide +kernel)
theorem wd_133 : (Jvm.Cond.classLink "TemplatePress" (46 : Nat) "TemplatePress$Walk") ∈ lw_good := lw_in (List.mem_of_getElem? (i := 133) (by decide +kernel)) (by decide +kernel)
theorem wd_1334 : (Jvm.Cond.constantLong "TemplatePressModel" (315 : Nat) (5 : Int64)) ∈ lw_good := lw_in (List.mem_of_getElem? (i := 1334) (by decide +kernel)) (by decide +kernel)
theorem wd_134 : (Jvm.Cond.instantiable "TemplatePress$Walk" (18 : Nat)) ∈ lw_good := lw_in (List.mem_of_getElem? (i := 134) (by decide +kernel)) (by decide +kernel)
theorem wd_1347 : (Jvm.Cond.methodLink "TemplatePressModel" (247 : Nat) ({ cls := "TemplatePressModel", name := "here", desc := "()I" } : Jvm.MethodName)) ∈ lw_good := lw_in (List.mem_of_getElem? (i := 1347) (by decide +kernel)) (by decide +kernel)
theorem wd_1349 : (Jvm.Cond.instanceMethod ({ cls := "TemplatePressModel", name := "here", desc := "()I" } : Jvm.MethodName)) ∈ lw_good := lw_in (List.mem_of_getElem? (i := 1349) (by decide +kernel)) (by decide +kernel)
theorem wd_135 : (Jvm.Cond.methodLink "TemplatePress" (48 : Nat) ({ cls := "TemplatePress$Walk", name := "<init>", desc := "(LTemplatePress$State;LTemplatePress$Numbers;)V" } : Jvm.MethodName)) ∈ lw_good := lw_in (List.mem_of_getElem? (i := 135) (by decide +kernel)) (by decide +kernel)
theorem wd_1350 : (Jvm.Cond.code ({ cls := "TemplatePressModel", name := "here", desc := "()I" } : Jvm.MethodName) prog_16_method_27_code (1 : Nat) (Option.some Jvm.ClassFile.FieldType.int)) ∈ lw_good := lw_in (List.mem_of_getElem? (i := 1350) (by decide +kernel)) (by decide +kernel)
theorem wd_1351 : (Jvm.Cond.methodLink "TemplatePressModel" (251 : Nat) ({ cls := "TemplatePressModel", name := "fails", desc := "(I)Z" } : Jvm.MethodName)) ∈ lw_good := lw_in (List.mem_of_getElem? (i := 1351) (by decide +kernel)) (by decide +kernel)
theorem wd_1353 : (Jvm.Cond.instanceMethod ({ cls := "TemplatePressModel", name := "fails", desc := "(I)Z" } : Jvm.MethodName)) ∈ lw_good := lw_in (List.mem_of_getElem? (i := 1353) (by decide +kernel)) (by decide +kernel)
theorem wd_1354 : (Jvm.Cond.code ({ cls := "TemplatePressModel", name := "fails", desc := "(I)Z" } : Jvm.MethodName) prog_16_method_29_code (2 : Nat) (Option.some Jvm.ClassFile.FieldType.boolean)) ∈ lw_good := lw_in (List.mem_of_getElem? (i := 1354) (by decide +kernel)) (by decide +kernel)
theorem wd_136 : (Jvm.Cond.instanceMethod ({ cls := "TemplatePress$Walk", name := "<init>", desc := "(LTemplatePress$State;LTemplatePress$Numbers;)V" } : Jvm.MethodName)) ∈ lw_good := lw_in (List.mem_of_getElem? (i := 136) (by decide +kernel)) (by decide +kernel)
theorem wd_137 : (Jvm.Cond.code ({ cls := "TemplatePress$Walk", name := "<init>", desc := "(LTemplatePress$State;LTemplatePress$Numbers;)V" } : Jvm.MethodName) prog_14_method_1_code (4 : Nat) (Option.none : Option Jvm.ClassFile.FieldType)) ∈ lw_good := lw_in (List.mem_of_getElem? (i := 137) (by decide +kernel)) (by decide +kernel)
theorem wd_1375 : (Jvm.Cond.methodLink "TemplatePressModel" (276 : Nat) ({ cls := "TemplatePressModel", name := "isSign", desc := "(I)Z" } : Jvm.MethodName)) ∈ lw_good := lw_in (List.mem_of_getElem? (i := 1375) (by decide +kernel)) (by decide +kernel)
theorem wd_1377 : (Jvm.Cond.instanceMethod ({ cls := "TemplatePressModel", name := "isSign", desc := "(I)Z" } : Jvm.MethodName)) ∈ lw_good := lw_in (List.mem_of_getElem? (i := 1377) (by decide +kernel)) (by decide +kernel)
theorem wd_1378 : (Jvm.Cond.code ({ cls := "TemplatePressModel", name := "isSign", desc := "(I)Z" } : Jvm.MethodName) prog_16_method_30_code (2 : Nat) (Option.some Jvm.ClassFile.FieldType.boolean)) ∈ lw_good := lw_in (List.mem_of_getElem? (i := 1378) (by decide +kernel)) (by decide +kernel)
theorem wd_1379 : (Jvm.Cond.constantLong "TemplatePressModel" (266 : Nat) (97 : Int64)) ∈ lw_good := lw_in (List.mem_of_getElem? (i := 1379) (by decide +kernel)) (by decide +kernel)
theorem wd_138 : (Jvm.Cond.methodLink "TemplatePress$Walk" (5 : Nat) ({ cls := "java/lang/Object", name := "<init>", desc := "()V" } : Jvm.MethodName)) ∈ lw_good := lw_in (List.mem_of_getElem? (i := 138) (by decide +kernel)) (by decide +kernel)
theorem wd_1380 : (Jvm.Cond.constantLong "TemplatePressModel" (286 : Nat) (104 : Int64)) ∈ lw_good := lw_in (List.mem_of_getElem? (i := 1380) (by decide +kernel)) (by decide +kernel)
theorem wd_1385 : (Jvm.Cond.constantLong "TemplatePressModel" (159 : Nat) (48 : Int64)) ∈ lw_good := lw_in (List.mem_of_getElem? (i := 1385) (by decide +kernel)) (by decide +kernel)
theorem wd_1386 : (Jvm.Cond.constantLong "TemplatePressModel" (161 : Nat) (57 : Int64)) ∈ lw_good := lw_in (List.mem_of_getElem? (i := 1386) (by decide +kernel)) (by decide +kernel)
theorem wd_139 : (Jvm.Cond.classLink "TemplatePress$Walk" (11 : Nat) "TemplatePress$Chain") ∈ lw_good := lw_in (List.mem_of_getElem? (i := 139) (by decide +kernel)) (by decide +kernel)
theorem wd_1395 : (Jvm.Cond.constantLong "TemplatePressModel" (268 : Nat) (122 : Int64)) ∈ lw_good := lw_in (List.mem_of_getElem? (i := 1395) (by decide +kernel)) (by decide +kernel)
theorem wd_141 : (Jvm.Cond.classLink "TemplatePress$Walk" (17 : Nat) "TemplatePress$Value") ∈ lw_good := lw_in (List.mem_of_getElem? (i := 141) (by decide +kernel)) (by decide +kernel)
theorem wd_1424 : (Jvm.Cond.constantLong "TemplatePressModel" (327 : Nat) (6 : Int64)) ∈ lw_good := lw_in (List.mem_of_getElem? (i := 1424) (by decide +kernel)) (by decide +kernel)
theorem wd_1429 : (Jvm.Cond.methodLink "TemplatePressModel" (332 : Nat) ({ cls := "TemplatePressModel", name := "extended", desc := "(I)I" } : Jvm.MethodName)) ∈ lw_good := lw_in (List.mem_of_getElem? (i := 1429) (by decide +kernel)) (by decide +kernel)
theorem wd_143 : (Jvm.Cond.classLink "TemplatePress$Walk" (31 : Nat) "TemplatePress$Numbers") ∈ lw_good := lw_in (List.mem_of_getElem? (i := 143) (by decide +kernel)) (by decide +kernel)
theorem wd_1431 : (Jvm.Cond.instanceMethod ({ cls := "TemplatePressModel", name := "extended", desc := "(I)I" } : Jvm.MethodName)) ∈ lw_good := lw_in (List.mem_of_getElem? (i := 1431) (by decide +kernel)) (by decide +kernel)
theorem wd_1432 : (Jvm.Cond.code ({ cls := "TemplatePressModel", name := "extended", desc := "(I)I" } : Jvm.MethodName) prog_16_method_47_code (2 : Nat) (Option.some Jvm.ClassFile.FieldType.int)) ∈ lw_good := lw_in (List.mem_of_getElem? (i := 1432) (by decide +kernel)) (by decide +kernel)
theorem wd_1433 : (Jvm.Cond.methodLink "TemplatePressModel" (335 : Nat) ({ cls := "TemplatePressModel", name := "signsBehind", desc := "(III)I" } : Jvm.MethodName)) ∈ lw_good := lw_in (List.mem_of_getElem? (i := 1433) (by decide +kernel)) (by decide +kernel)
theorem wd_1435 : (Jvm.Cond.instanceMethod ({ cls := "TemplatePressModel", name := "signsBehind", desc := "(III)I" } : Jvm.MethodName)) ∈ lw_good := lw_in (List.mem_of_getElem? (i := 1435) (by decide +kernel)) (by decide +kernel)
theorem wd_1436 : (Jvm.Cond.code ({ cls := "TemplatePressModel", name := "signsBehind", desc := "(III)I" } : Jvm.MethodName) prog_16_method_48_code (6 : Nat) (Option.some Jvm.ClassFile.FieldType.int)) ∈ lw_good := lw_in (List.mem_of_getElem? (i := 1436) (by decide +kernel)) (by decide +kernel)
theorem wd_144 : (Jvm.Cond.methodLink "TemplatePress$Walk" (33 : Nat) ({ cls := "TemplatePress$Numbers", name := "<init>", desc := "(I)V" } : Jvm.MethodName)) ∈ lw_good := lw_in (List.mem_of_getElem? (i := 144) (by decide +kernel)) (by decide +kernel)
theorem wd_1448 : (Jvm.Cond.constantLong "TemplatePressModel" (503 : Nat) (3 : Int64)) ∈ lw_good := lw_in (List.mem_of_getElem? (i := 1448) (by decide +kernel)) (by decide +kernel)
theorem wd_145 : (Jvm.Cond.instantiable "TemplatePress$Chain" (5 : Nat)) ∈ lw_good := lw_in (List.mem_of_getElem? (i := 145) (by decide +kernel)) (by decide +kernel)
theorem wd_1461 : (Jvm.Cond.methodLink "TemplatePressModel" (415 : Nat) ({ cls := "TemplatePressModel", name := "faults", desc := "(IIII)V" } : Jvm.MethodName)) ∈ lw_good := lw_in (List.mem_of_getElem? (i := 1461) (by decide +kernel)) (by decide +kernel)
theorem wd_1463 : (Jvm.Cond.instanceMethod ({ cls := "TemplatePressModel", name := "faults", desc := "(IIII)V" } : Jvm.MethodName)) ∈ lw_good := lw_in (List.mem_of_getElem? (i := 1463) (by decide +kernel)) (by decide +kernel)
theorem wd_1464 : (Jvm.Cond.code ({ cls := "TemplatePressModel", name := "faults", desc := "(IIII)V" } : Jvm.MethodName) prog_16_method_68_code (6 : Nat) (Option.none : Option Jvm.ClassFile.FieldType)) ∈ lw_good := lw_in (List.mem_of_getElem? (i := 1464) (by decide +kernel)) (by decide +kernel)
theorem wd_1465 : (Jvm.Cond.methodLink "TemplatePressModel" (412 : Nat) ({ cls := "TemplatePressModel", name := "linksBases", desc := "(II)V" } : Jvm.MethodName)) ∈ lw_good := lw_in (List.mem_of_getElem? (i := 1465) (by decide +kernel)) (by decide +kernel)
theorem wd_1467 : (Jvm.Cond.instanceMethod ({ cls := "TemplatePressModel", name := "linksBases", desc := "(II)V" } : Jvm.MethodName)) ∈ lw_good := lw_in (List.mem_of_getElem? (i := 1467) (by decide +kernel)) (by decide +kernel)
theorem wd_1468 : (Jvm.Cond.code ({ cls := "TemplatePressModel", name := "linksBases", desc := "(II)V" } : Jvm.MethodName) prog_16_method_67_code (4 : Nat) (Option.none : Option Jvm.ClassFile.FieldType)) ∈ lw_good := lw_in (List.mem_of_getElem? (i := 1468) (by decide +kernel)) (by decide +kernel)
theorem wd_1469 : (Jvm.Cond.methodLink "TemplatePressModel" (406 : Nat) ({ cls := "TemplatePressModel", name := "links", desc := "(III)V" } : Jvm.MethodName)) ∈ lw_good := lw_in (List.mem_of_getElem? (i := 1469) (by decide +kernel)) (by decide +kernel)
theorem wd_147 : (Jvm.Cond.instanceMethod ({ cls := "TemplatePress$Chain", name := "<init>", desc := "()V" } : Jvm.MethodName)) ∈ lw_good := lw_in (List.mem_of_getElem? (i := 147) (by decide +kernel)) (by decide +kernel)
theorem wd_1471 : (Jvm.Cond.instanceMethod ({ cls := "TemplatePressModel", name := "links", desc := "(III)V" } : Jvm.MethodName)) ∈ lw_good := lw_in (List.mem_of_getElem? (i := 1471) (by decide +kernel)) (by decide +kernel)
theorem wd_1472 : (Jvm.Cond.code ({ cls := "TemplatePressModel", name := "links", desc := "(III)V" } : Jvm.MethodName) prog_16_method_66_code (4 : Nat) (Option.none : Option Jvm.ClassFile.FieldType)) ∈ lw_good := lw_in (List.mem_of_getElem? (i := 1472) (by decide +kernel)) (by decide +kernel)
theorem wd_148 : (Jvm.Cond.code ({ cls := "TemplatePress$Chain", name := "<init>", desc := "()V" } : Jvm.MethodName) prog_3_method_1_code (1 : Nat) (Option.none : Option Jvm.ClassFile.FieldType)) ∈ lw_good := lw_in (List.mem_of_getElem? (i := 148) (by decide +kernel)) (by decide +kernel)
theorem wd_1485 : (Jvm.Cond.methodLink "TemplatePressModel" (344 : Nat) ({ cls := "TemplatePressModel", name := "byteAt", desc := "(II)I" } : Jvm.MethodName)) ∈ lw_good := lw_in (List.mem_of_getElem? (i := 1485) (by decide +kernel)) (by decide +kernel)
theorem wd_1487 : (Jvm.Cond.instanceMethod ({ cls := "TemplatePressModel", name := "byteAt", desc := "(II)I" } : Jvm.MethodName)) ∈ lw_good := lw_in (List.mem_of_getElem? (i := 1487) (by decide +kernel)) (by decide +kernel)
theorem wd_1488 : (Jvm.Cond.code ({ cls := "TemplatePressModel", name := "byteAt", desc := "(II)I" } : Jvm.MethodName) prog_16_method_51_code (3 : Nat) (Option.some Jvm.ClassFile.FieldType.int)) ∈ lw_good := lw_in (List.mem_of_getElem? (i := 1488) (by decide +kernel)) (by decide +kernel)
theorem wd_149 : (Jvm.Cond.methodLink "TemplatePress$Chain" (3 : Nat) ({ cls := "java/lang/Object", name := "<init>", desc := "()V" } : Jvm.MethodName)) ∈ lw_good := lw_in (List.mem_of_getElem? (i := 149) (by decide +kernel)) (by decide +kernel)
theorem wd_150 : (Jvm.Cond.fieldLink "TemplatePress$Chain" (9 : Nat) "TemplatePress$Chain" "templates" "[I") ∈ lw_good := lw_in (List.mem_of_getElem? (i := 150) (by decide +kernel)) (by decide +kernel)
theorem wd_1509 : (Jvm.Cond.methodLink "TemplatePressModel" (347 : Nat) ({ cls := "TemplatePressModel", name := "copies", desc := "(II)V" } : Jvm.MethodName)) ∈ lw_good := lw_in (List.mem_of_getElem? (i := 1509) (by decide +kernel)) (by decide +kernel)
theorem wd_151 : (Jvm.Cond.fieldLink "TemplatePress$Chain" (15 : Nat) "TemplatePress$Chain" "size" "I") ∈ lw_good := lw_in (List.mem_of_getElem? (i := 151) (by decide +kernel)) (by decide +kernel)
theorem wd_1511 : (Jvm.Cond.instanceMethod ({ cls := "TemplatePressModel", name := "copies", desc := "(II)V" } : Jvm.MethodName)) ∈ lw_good := lw_in (List.mem_of_getElem? (i := 1511) (by decide +kernel)) (by decide +kernel)
theorem wd_1512 : (Jvm.Cond.code ({ cls := "TemplatePressModel", name := "copies", desc := "(II)V" } : Jvm.MethodName) prog_16_method_4_code (4 : Nat) (Option.none : Option Jvm.ClassFile.FieldType)) ∈ lw_good := lw_in (List.mem_of_getElem? (i := 1512) (by decide +kernel)) (by decide +kernel)
theorem wd_1513 : (Jvm.Cond.methodLink "TemplatePressModel" (171 : Nat) ({ cls := "TemplatePressModel", name := "isInt", desc := "(II)V" } : Jvm.MethodName)) ∈ lw_good := lw_in (List.mem_of_getElem? (i := 1513) (by decide +kernel)) (by decide +kernel)
theorem wd_1515 : (Jvm.Cond.instanceMethod ({ cls := "TemplatePressModel", name := "isInt", desc := "(II)V" } : Jvm.MethodName)) ∈ lw_good := lw_in (List.mem_of_getElem? (i := 1515) (by decide +kernel)) (by decide +kernel)
theorem wd_1516 : (Jvm.Cond.code ({ cls := "TemplatePressModel", name := "isInt", desc := "(II)V" } : Jvm.MethodName) prog_16_method_5_code (3 : Nat) (Option.none : Option Jvm.ClassFile.FieldType)) ∈ lw_good := lw_in (List.mem_of_getElem? (i := 1516) (by decide +kernel)) (by decide +kernel)
theorem wd_1517 : (Jvm.Cond.methodLink "TemplatePressModel" (353 : Nat) ({ cls := "TemplatePressModel", name := "figuresAt", desc := "(I)I" } : Jvm.MethodName)) ∈ lw_good := lw_in (List.mem_of_getElem? (i := 1517) (by decide +kernel)) (by decide +kernel)
theorem wd_1519 : (Jvm.Cond.instanceMethod ({ cls := "TemplatePressModel", name := "figuresAt", desc := "(I)I" } : Jvm.MethodName)) ∈ lw_good := lw_in (List.mem_of_getElem? (i := 1519) (by decide +kernel)) (by decide +kernel)
theorem wd_1520 : (Jvm.Cond.code ({ cls := "TemplatePressModel", name := "figuresAt", desc := "(I)I" } : Jvm.MethodName) prog_16_method_52_code (3 : Nat) (Option.some Jvm.ClassFile.FieldType.int)) ∈ lw_good := lw_in (List.mem_of_getElem? (i := 1520) (by decide +kernel)) (by decide +kernel)
theorem wd_153 : (Jvm.Cond.fieldLink "TemplatePress$Chain" (19 : Nat) "TemplatePress$Chain" "place" "I") ∈ lw_good := lw_in (List.mem_of_getElem? (i := 153) (by decide +kernel)) (by decide +kernel)
theorem wd_1533 : (Jvm.Cond.methodLink "TemplatePressModel" (163 : Nat) ({ cls := "TemplatePressModel", name := "letterCase", desc := "(III)I" } : Jvm.MethodName)) ∈ lw_good := lw_in (List.mem_of_getElem? (i := 1533) (by decide +kernel)) (by decide +kernel)
theorem wd_1534 : (Jvm.Cond.static ({ cls := "TemplatePressModel", name := "letterCase", desc := "(III)I" } : Jvm.MethodName)) ∈ lw_good := lw_in (List.mem_of_getElem? (i := 1534) (by decide +kernel)) (by decide +kernel)
theorem wd_1535 : (Jvm.Cond.code ({ cls := "TemplatePressModel", name := "letterCase", desc := "(III)I" } : Jvm.MethodName) prog_16_method_12_code (3 : Nat) (Option.some Jvm.ClassFile.FieldType.int)) ∈ lw_good := lw_in (List.mem_of_getElem? (i := 1535) (by decide +kernel)) (by decide +kernel)
theorem wd_1541 : (Jvm.Cond.methodLink "TemplatePressModel" (193 : Nat) ({ cls := "TemplatePressModel", name := "isReal", desc := "(IF)V" } : Jvm.MethodName)) ∈ lw_good := lw_in (List.mem_of_getElem? (i := 1541) (by decide +kernel)) (by decide +kernel)
theorem wd_1543 : (Jvm.Cond.instanceMethod ({ cls := "TemplatePressModel", name := "isReal", desc := "(IF)V" } : Jvm.MethodName)) ∈ lw_good := lw_in (List.mem_of_getElem? (i := 1543) (by decide +kernel)) (by decide +kernel)
theorem wd_1544 : (Jvm.Cond.code ({ cls := "TemplatePressModel", name := "isReal", desc := "(IF)V" } : Jvm.MethodName) prog_16_method_6_code (3 : Nat) (Option.none : Option Jvm.ClassFile.FieldType)) ∈ lw_good := lw_in (List.mem_of_getElem? (i := 1544) (by decide +kernel)) (by decide +kernel)
theorem wd_1545 : (Jvm.Cond.methodLink "TemplatePressModel" (136 : Nat) ({ cls := "TemplatePressModel", name := "limited", desc := "(F)F" } : Jvm.MethodName)) ∈ lw_good := lw_in (List.mem_of_getElem? (i := 1545) (by decide +kernel)) (by decide +kernel)
theorem wd_1546 : (Jvm.Cond.static ({ cls := "TemplatePressModel", name := "limited", desc := "(F)F" } : Jvm.MethodName)) ∈ lw_good := lw_in (List.mem_of_getElem? (i := 1546) (by decide +kernel)) (by decide +kernel)
theorem wd_1547 : (Jvm.Cond.code ({ cls := "TemplatePressModel", name := "limited", desc := "(F)F" } : Jvm.MethodName) prog_16_method_3_code (1 : Nat) (Option.some Jvm.ClassFile.FieldType.float)) ∈ lw_good := lw_in (List.mem_of_getElem? (i := 1547) (by decide +kernel)) (by decide +kernel)
theorem wd_1548 : (Jvm.Cond.constantFloat "TemplatePressModel" (134 : Nat) (1232348160 : UInt32)) ∈ lw_good := lw_in (List.mem_of_getElem? (i := 1548) (by decide +kernel)) (by decide +kernel)
theorem wd_1549 : (Jvm.Cond.constantFloat "TemplatePressModel" (135 : Nat) (3379831808 : UInt32)) ∈ lw_good := lw_in (List.mem_of_getElem? (i := 1549) (by decide +kernel)) (by decide +kernel)
theorem wd_155 : (Jvm.Cond.fieldLink "TemplatePress$Chain" (22 : Nat) "TemplatePress$Chain" "letter" "I") ∈ lw_good := lw_in (List.mem_of_getElem? (i := 155) (by decide +kernel)) (by decide +kernel)
theorem wd_1586 : (Jvm.Cond.methodLink "TemplatePressModel" (175 : Nat) ({ cls := "TemplatePressModel", name := "becomes", desc := "(IJ)I" } : Jvm.MethodName)) ∈ lw_good := lw_in (List.mem_of_getElem? (i := 1586) (by decide +kernel)) (by decide +kernel)
theorem wd_1588 : (Jvm.Cond.instanceMethod ({ cls := "TemplatePressModel", name := "becomes", desc := "(IJ)I" } : Jvm.MethodName)) ∈ lw_good := lw_in (List.mem_of_getElem? (i := 1588) (by decide +kernel)) (by decide +kernel)
theorem wd_1589 : (Jvm.Cond.code ({ cls := "TemplatePressModel", name := "becomes", desc := "(IJ)I" } : Jvm.MethodName) prog_16_method_17_code (4 : Nat) (Option.some Jvm.ClassFile.FieldType.int)) ∈ lw_good := lw_in (List.mem_of_getElem? (i := 1589) (by decide +kernel)) (by decide +kernel)
theorem wd_1590 : (Jvm.Cond.constantLong "TemplatePressModel" (167 : Nat) (-1000000 : Int64)) ∈ lw_good := lw_in (List.mem_of_getElem? (i := 1590) (by decide +kernel)) (by decide +kernel)
theorem wd_1591 : (Jvm.Cond.constantLong "TemplatePressModel" (169 : Nat) (1000000 : Int64)) ∈ lw_good := lw_in (List.mem_of_getElem? (i := 1591) (by decide +kernel)) (by decide +kernel)
theorem wd_1600 : (Jvm.Cond.methodLink "TemplatePressModel" (365 : Nat) ({ cls := "TemplatePressModel", name := "isTrue", desc := "(I)Z" } : Jvm.MethodName)) ∈ lw_good := lw_in (List.mem_of_getElem? (i := 1600) (by decide +kernel)) (by decide +kernel)
theorem wd_1602 : (Jvm.Cond.instanceMethod ({ cls := "TemplatePressModel", name := "isTrue", desc := "(I)Z" } : Jvm.MethodName)) ∈ lw_good := lw_in (List.mem_of_getElem? (i := 1602) (by decide +kernel)) (by decide +kernel)
theorem wd_1603 : (Jvm.Cond.code ({ cls := "TemplatePressModel", name := "isTrue", desc := "(I)Z" } : Jvm.MethodName) prog_16_method_7_code (2 : Nat) (Option.some Jvm.ClassFile.FieldType.boolean)) ∈ lw_good := lw_in (List.mem_of_getElem? (i := 1603) (by decide +kernel)) (by decide +kernel)
theorem wd_1660 : (Jvm.Cond.methodLink "TemplatePressModel" (491 : Nat) ({ cls := "TemplatePressModel", name := "showsValue", desc := "(I)V" } : Jvm.MethodName)) ∈ lw_good := lw_in (List.mem_of_getElem? (i := 1660) (by decide +kernel)) (by decide +kernel)
theorem wd_1662 : (Jvm.Cond.instanceMethod ({ cls := "TemplatePressModel", name := "showsValue", desc := "(I)V" } : Jvm.MethodName)) ∈ lw_good := lw_in (List.mem_of_getElem? (i := 1662) (by decide +kernel)) (by decide +kernel)
theorem wd_1663 : (Jvm.Cond.code ({ cls := "TemplatePressModel", name := "showsValue", desc := "(I)V" } : Jvm.MethodName) prog_16_method_11_code (3 : Nat) (Option.none : Option Jvm.ClassFile.FieldType)) ∈ lw_good := lw_in (List.mem_of_getElem? (i := 1663) (by decide +kernel)) (by decide +kernel)
theorem wd_1664 : (Jvm.Cond.methodLink "TemplatePressModel" (148 : Nat) ({ cls := "TemplatePressModel", name := "showsInt", desc := "(I)V" } : Jvm.MethodName)) ∈ lw_good := lw_in (List.mem_of_getElem? (i := 1664) (by decide +kernel)) (by decide +kernel)
theorem wd_1666 : (Jvm.Cond.instanceMethod ({ cls := "TemplatePressModel", name := "showsInt", desc := "(I)V" } : Jvm.MethodName)) ∈ lw_good := lw_in (List.mem_of_getElem? (i := 1666) (by decide +kernel)) (by decide +kernel)
theorem wd_1667 : (Jvm.Cond.code ({ cls := "TemplatePressModel", name := "showsInt", desc := "(I)V" } : Jvm.MethodName) prog_16_method_9_code (4 : Nat) (Option.none : Option Jvm.ClassFile.FieldType)) ∈ lw_good := lw_in (List.mem_of_getElem? (i := 1667) (by decide +kernel)) (by decide +kernel)
theorem wd_1668 : (Jvm.Cond.methodLink "TemplatePressModel" (143 : Nat) ({ cls := "TemplatePressModel", name := "shows", desc := "(I)V" } : Jvm.MethodName)) ∈ lw_good := lw_in (List.mem_of_getElem? (i := 1668) (by decide +kernel)) (by decide +kernel)
theorem wd_1670 : (Jvm.Cond.instanceMethod ({ cls := "TemplatePressModel", name := "shows", desc := "(I)V" } : Jvm.MethodName)) ∈ lw_good := lw_in (List.mem_of_getElem? (i := 1670) (by decide +kernel)) (by decide +kernel)
theorem wd_1671 : (Jvm.Cond.code ({ cls := "TemplatePressModel", name := "shows", desc := "(I)V" } : Jvm.MethodName) prog_16_method_8_code (2 : Nat) (Option.none : Option Jvm.ClassFile.FieldType)) ∈ lw_good := lw_in (List.mem_of_getElem? (i := 1671) (by decide +kernel)) (by decide +kernel)
theorem wd_1672 : (Jvm.Cond.methodLink "TemplatePressModel" (151 : Nat) ({ cls := "TemplatePressModel", name := "showsReal", desc := "(F)V" } : Jvm.MethodName)) ∈ lw_good := lw_in (List.mem_of_getElem? (i := 1672) (by decide +kernel)) (by decide +kernel)
theorem wd_1674 : (Jvm.Cond.instanceMethod ({ cls := "TemplatePressModel", name := "showsReal", desc := "(F)V" } : Jvm.MethodName)) ∈ lw_good := lw_in (List.mem_of_getElem? (i := 1674) (by decide +kernel)) (by decide +kernel)
theorem wd_1675 : (Jvm.Cond.code ({ cls := "TemplatePressModel", name := "showsReal", desc := "(F)V" } : Jvm.MethodName) prog_16_method_10_code (5 : Nat) (Option.none : Option Jvm.ClassFile.FieldType)) ∈ lw_good := lw_in (List.mem_of_getElem? (i := 1675) (by decide +kernel)) (by decide +kernel)
theorem wd_1676 : (Jvm.Cond.constantFloat "TemplatePressModel" (147 : Nat) (1148846080 : UInt32)) ∈ lw_good := lw_in (List.mem_of_getElem? (i := 1676) (by decide +kernel)) (by decide +kernel)
theorem wd_1681 : (Jvm.Cond.methodLink "TemplatePressModel" (394 : Nat) ({ cls := "TemplatePressModel", name := "isLetterOrFigure", desc := "(I)Z" } : Jvm.MethodName)) ∈ lw_good := lw_in (List.mem_of_getElem? (i := 1681) (by decide +kernel)) (by decide +kernel)
theorem wd_1682 : (Jvm.Cond.static ({ cls := "TemplatePressModel", name := "isLetterOrFigure", desc := "(I)Z" } : Jvm.MethodName)) ∈ lw_good := lw_in (List.mem_of_getElem? (i := 1682) (by decide +kernel)) (by decide +kernel)
theorem wd_1683 : (Jvm.Cond.code ({ cls := "TemplatePressModel", name := "isLetterOrFigure", desc := "(I)Z" } : Jvm.MethodName) prog_16_method_61_code (1 : Nat) (Option.some Jvm.ClassFile.FieldType.boolean)) ∈ lw_good := lw_in (List.mem_of_getElem? (i := 1683) (by decide +kernel)) (by decide +kernel)
theorem wd_1684 : (Jvm.Cond.constantLong "TemplatePressModel" (387 : Nat) (65 : Int64)) ∈ lw_good := lw_in (List.mem_of_getElem? (i := 1684) (by decide +kernel)) (by decide +kernel)
theorem wd_1685 : (Jvm.Cond.constantLong "TemplatePressModel" (389 : Nat) (90 : Int64)) ∈ lw_good := lw_in (List.mem_of_getElem? (i := 1685) (by decide +kernel)) (by decide +kernel)
theorem wd_1686 : (Jvm.Cond.methodLink "TemplatePressModel" (391 : Nat) ({ cls := "TemplatePressModel", name := "puts", desc := "(I)Z" } : Jvm.MethodName)) ∈ lw_good := lw_in (List.mem_of_getElem? (i := 1686) (by decide +kernel)) (by decide +kernel)
theorem wd_1688 : (Jvm.Cond.instanceMethod ({ cls := "TemplatePressModel", name := "puts", desc := "(I)Z" } : Jvm.MethodName)) ∈ lw_good := lw_in (List.mem_of_getElem? (i := 1688) (by decide +kernel)) (by decide +kernel)
theorem wd_1689 : (Jvm.Cond.code ({ cls := "TemplatePressModel", name := "puts", desc := "(I)Z" } : Jvm.MethodName) prog_16_method_59_code (2 : Nat) (Option.some Jvm.ClassFile.FieldType.boolean)) ∈ lw_good := lw_in (List.mem_of_getElem? (i := 1689) (by decide +kernel)) (by decide +kernel)
theorem wd_169 : (Jvm.Cond.fieldLink "TemplatePress$Walk" (50 : Nat) "TemplatePress$Walk" "state" "LTemplatePress$State;") ∈ lw_good := lw_in (List.mem_of_getElem? (i := 169) (by decide +kernel)) (by decide +kernel)
theorem wd_1690 : (Jvm.Cond.methodLink "TemplatePressModel" (381 : Nat) ({ cls := "TemplatePressModel", name := "isRoom", desc := "()Z" } : Jvm.MethodName)) ∈ lw_good := lw_in (List.mem_of_getElem? (i := 1690) (by decide +kernel)) (by decide +kernel)
theorem wd_1692 : (Jvm.Cond.instanceMethod ({ cls := "TemplatePressModel", name := "isRoom", desc := "()Z" } : Jvm.MethodName)) ∈ lw_good := lw_in (List.mem_of_getElem? (i := 1692) (by decide +kernel)) (by decide +kernel)
theorem wd_1693 : (Jvm.Cond.code ({ cls := "TemplatePressModel", name := "isRoom", desc := "()Z" } : Jvm.MethodName) prog_16_method_58_code (1 : Nat) (Option.some Jvm.ClassFile.FieldType.boolean)) ∈ lw_good := lw_in (List.mem_of_getElem? (i := 1693) (by decide +kernel)) (by decide +kernel)
theorem wd_1694 : (Jvm.Cond.methodLink "TemplatePressModel" (397 : Nat) ({ cls := "TemplatePressModel", name := "putsNamed", desc := "(I)Z" } : Jvm.MethodName)) ∈ lw_good := lw_in (List.mem_of_getElem? (i := 1694) (by decide +kernel)) (by decide +kernel)
theorem wd_1696 : (Jvm.Cond.instanceMethod ({ cls := "TemplatePressModel", name := "putsNamed", desc := "(I)Z" } : Jvm.MethodName)) ∈ lw_good := lw_in (List.mem_of_getElem? (i := 1696) (by decide +kernel)) (by decide +kernel)
theorem wd_1697 : (Jvm.Cond.code ({ cls := "TemplatePressModel", name := "putsNamed", desc := "(I)Z" } : Jvm.MethodName) prog_16_method_62_code (2 : Nat) (Option.some Jvm.ClassFile.FieldType.boolean)) ∈ lw_good := lw_in (List.mem_of_getElem? (i := 1697) (by decide +kernel)) (by decide +kernel)
theorem wd_170 : (Jvm.Cond.fieldLink "TemplatePress$Walk" (54 : Nat) "TemplatePress$Walk" "links" "LTemplatePress$Numbers;") ∈ lw_good := lw_in (List.mem_of_getElem? (i := 170) (by decide +kernel)) (by decide +kernel)
theorem wd_171 : (Jvm.Cond.fieldLink "TemplatePress$Walk" (13 : Nat) "TemplatePress$Walk" "chains" "[LTemplatePress$Chain;") ∈ lw_good := lw_in (List.mem_of_getElem? (i := 171) (by decide +kernel)) (by decide +kernel)
theorem wd_1714 : (Jvm.Cond.constantLong "TemplatePressModel" (515 : Nat) (2 : Int64)) ∈ lw_good := lw_in (List.mem_of_getElem? (i := 1714) (by decide +kernel)) (by decide +kernel)
theorem wd_1719 : (Jvm.Cond.constantLong "TemplatePressModel" (517 : Nat) (400 : Int64)) ∈ lw_good := lw_in (List.mem_of_getElem? (i := 1719) (by decide +kernel)) (by decide +kernel)
theorem wd_172 : (Jvm.Cond.fieldLink "TemplatePress$Walk" (19 : Nat) "TemplatePress$Walk" "lists" "[LTemplatePress$Value;") ∈ lw_good := lw_in (List.mem_of_getElem? (i := 172) (by decide +kernel)) (by decide +kernel)
theorem wd_1724 : (Jvm.Cond.methodLink "TemplatePressModel" (519 : Nat) ({ cls := "TemplatePressModel", name := "withText", desc := "()I" } : Jvm.MethodName)) ∈ lw_good := lw_in (List.mem_of_getElem? (i := 1724) (by decide +kernel)) (by decide +kernel)
theorem wd_1726 : (Jvm.Cond.instanceMethod ({ cls := "TemplatePressModel", name := "withText", desc := "()I" } : Jvm.MethodName)) ∈ lw_good := lw_in (List.mem_of_getElem? (i := 1726) (by decide +kernel)) (by decide +kernel)
theorem wd_1727 : (Jvm.Cond.code ({ cls := "TemplatePressModel", name := "withText", desc := "()I" } : Jvm.MethodName) prog_16_method_93_code (3 : Nat) (Option.some Jvm.ClassFile.FieldType.int)) ∈ lw_good := lw_in (List.mem_of_getElem? (i := 1727) (by decide +kernel)) (by decide +kernel)
theorem wd_1728 : (Jvm.Cond.methodLink "TemplatePressModel" (522 : Nat) ({ cls := "TemplatePressModel", name := "onPage", desc := "(Z)I" } : Jvm.MethodName)) ∈ lw_good := lw_in (List.mem_of_getElem? (i := 1728) (by decide +kernel)) (by decide +kernel)
theorem wd_173 : (Jvm.Cond.fieldLink "TemplatePress$Walk" (24 : Nat) "TemplatePress$Walk" "left" "LTemplatePress$Value;") ∈ lw_good := lw_in (List.mem_of_getElem? (i := 173) (by decide +kernel)) (by decide +kernel)
theorem wd_1730 : (Jvm.Cond.instanceMethod ({ cls := "TemplatePressModel", name := "onPage", desc := "(Z)I" } : Jvm.MethodName)) ∈ lw_good := lw_in (List.mem_of_getElem? (i := 1730) (by decide +kernel)) (by decide +kernel)
theorem wd_1731 : (Jvm.Cond.code ({ cls := "TemplatePressModel", name := "onPage", desc := "(Z)I" } : Jvm.MethodName) prog_16_method_94_code (4 : Nat) (Option.some Jvm.ClassFile.FieldType.int)) ∈ lw_good := lw_in (List.mem_of_getElem? (i := 1731) (by decide +kernel)) (by decide +kernel)
theorem wd_1736 : (Jvm.Cond.methodLink "TemplatePressModel" (528 : Nat) ({ cls := "TemplatePressModel", name := "isVariable", desc := "(I)Z" } : Jvm.MethodName)) ∈ lw_good := lw_in (List.mem_of_getElem? (i := 1736) (by decide +kernel)) (by decide +kernel)
theorem wd_1737 : (Jvm.Cond.static ({ cls := "TemplatePressModel", name := "isVariable", desc := "(I)Z" } : Jvm.MethodName)) ∈ lw_good := lw_in (List.mem_of_getElem? (i := 1737) (by decide +kernel)) (by decide +kernel)
theorem wd_1738 : (Jvm.Cond.code ({ cls := "TemplatePressModel", name := "isVariable", desc := "(I)Z" } : Jvm.MethodName) prog_16_method_96_code (1 : Nat) (Option.some Jvm.ClassFile.FieldType.boolean)) ∈ lw_good := lw_in (List.mem_of_getElem? (i := 1738) (by decide +kernel)) (by decide +kernel)
theorem wd_1739 : (Jvm.Cond.constantLong "TemplatePressModel" (526 : Nat) (7 : Int64)) ∈ lw_good := lw_in (List.mem_of_getElem? (i := 1739) (by decide +kernel)) (by decide +kernel)
theorem wd_174 : (Jvm.Cond.fieldLink "TemplatePress$Walk" (28 : Nat) "TemplatePress$Walk" "right" "LTemplatePress$Value;") ∈ lw_good := lw_in (List.mem_of_getElem? (i := 174) (by decide +kernel)) (by decide +kernel)
theorem wd_175 : (Jvm.Cond.fieldLink "TemplatePress$Walk" (36 : Nat) "TemplatePress$Walk" "shown" "LTemplatePress$Numbers;") ∈ lw_good := lw_in (List.mem_of_getElem? (i := 175) (by decide +kernel)) (by decide +kernel)
theorem wd_176 : (Jvm.Cond.fieldLink "TemplatePress$Walk" (40 : Nat) "TemplatePress$Walk" "out" "LTemplatePress$Numbers;") ∈ lw_good := lw_in (List.mem_of_getElem? (i := 176) (by decide +kernel)) (by decide +kernel)
theorem wd_178 : (Jvm.Cond.fieldLink "TemplatePress$Walk" (43 : Nat) "TemplatePress$Walk" "kept" "[LTemplatePress$Value;") ∈ lw_good := lw_in (List.mem_of_getElem? (i := 178) (by decide +kernel)) (by decide +kernel)
theorem wd_1784 : (Jvm.Cond.methodLink "TemplatePressModel" (537 : Nat) ({ cls := "TemplatePressModel", name := "isRow", desc := "(I)Z" } : Jvm.MethodName)) ∈ lw_good := lw_in (List.mem_of_getElem? (i := 1784) (by decide +kernel)) (by decide +kernel)
theorem wd_1785 : (Jvm.Cond.static ({ cls := "TemplatePressModel", name := "isRow", desc := "(I)Z" } : Jvm.MethodName)) ∈ lw_good := lw_in (List.mem_of_getElem? (i := 1785) (by decide +kernel)) (by decide +kernel)
theorem wd_1786 : (Jvm.Cond.code ({ cls := "TemplatePressModel", name := "isRow", desc := "(I)Z" } : Jvm.MethodName) prog_16_method_108_code (1 : Nat) (Option.some Jvm.ClassFile.FieldType.boolean)) ∈ lw_good := lw_in (List.mem_of_getElem? (i := 1786) (by decide +kernel)) (by decide +kernel)
theorem wd_179 : (Jvm.Cond.fieldLink "TemplatePress$Walk" (46 : Nat) "TemplatePress$Walk" "keptNames" "[I") ∈ lw_good := lw_in (List.mem_of_getElem? (i := 179) (by decide +kernel)) (by decide +kernel)
theorem wd_1791 : (Jvm.Cond.methodLink "TemplatePressModel" (540 : Nat) ({ cls := "TemplatePressModel", name := "wrong", desc := "(I)I" } : Jvm.MethodName)) ∈ lw_good := lw_in (List.mem_of_getElem? (i := 1791) (by decide +kernel)) (by decide +kernel)
theorem wd_1793 : (Jvm.Cond.instanceMethod ({ cls := "TemplatePressModel", name := "wrong", desc := "(I)I" } : Jvm.MethodName)) ∈ lw_good := lw_in (List.mem_of_getElem? (i := 1793) (by decide +kernel)) (by decide +kernel)
theorem wd_1794 : (Jvm.Cond.code ({ cls := "TemplatePressModel", name := "wrong", desc := "(I)I" } : Jvm.MethodName) prog_16_method_109_code (2 : Nat) (Option.some Jvm.ClassFile.FieldType.int)) ∈ lw_good := lw_in (List.mem_of_getElem? (i := 1794) (by decide +kernel)) (by decide +kernel)
theorem wd_1795 : (Jvm.Cond.methodLink "TemplatePressModel" (543 : Nat) ({ cls := "TemplatePressModel", name := "holds", desc := "(IIJ)V" } : Jvm.MethodName)) ∈ lw_good := lw_in (List.mem_of_getElem? (i := 1795) (by decide +kernel)) (by decide +kernel)
theorem wd_1797 : (Jvm.Cond.instanceMethod ({ cls := "TemplatePressModel", name := "holds", desc := "(IIJ)V" } : Jvm.MethodName)) ∈ lw_good := lw_in (List.mem_of_getElem? (i := 1797) (by decide +kernel)) (by decide +kernel)
theorem wd_1798 : (Jvm.Cond.code ({ cls := "TemplatePressModel", name := "holds", desc := "(IIJ)V" } : Jvm.MethodName) prog_16_method_111_code (5 : Nat) (Option.none : Option Jvm.ClassFile.FieldType)) ∈ lw_good := lw_in (List.mem_of_getElem? (i := 1798) (by decide +kernel)) (by decide +kernel)
theorem wd_180 : (Jvm.Cond.fieldLink "TemplatePress$Walk" (131 : Nat) "TemplatePress$Walk" "keptSize" "I") ∈ lw_good := lw_in (List.mem_of_getElem? (i := 180) (by decide +kernel)) (by decide +kernel)
theorem wd_1803 : (Jvm.Cond.constantLong "TemplatePressModel" (546 : Nat) (-9223372036854775808 : Int64)) ∈ lw_good := lw_in (List.mem_of_getElem? (i := 1803) (by decide +kernel)) (by decide +kernel)
theorem wd_1808 : (Jvm.Cond.methodLink "TemplatePressModel" (548 : Nat) ({ cls := "TemplatePressModel", name := "copiesItem", desc := "(IIII)V" } : Jvm.MethodName)) ∈ lw_good := lw_in (List.mem_of_getElem? (i := 1808) (by decide +kernel)) (by decide +kernel)
theorem wd_181 : (Jvm.Cond.fieldLink "TemplatePress$Walk" (61 : Nat) "TemplatePress$Walk" "open" "I") ∈ lw_good := lw_in (List.mem_of_getElem? (i := 181) (by decide +kernel)) (by decide +kernel)
theorem wd_1810 : (Jvm.Cond.instanceMethod ({ cls := "TemplatePressModel", name := "copiesItem", desc := "(IIII)V" } : Jvm.MethodName)) ∈ lw_good := lw_in (List.mem_of_getElem? (i := 1810) (by decide +kernel)) (by decide +kernel)
theorem wd_1811 : (Jvm.Cond.code ({ cls := "TemplatePressModel", name := "copiesItem", desc := "(IIII)V" } : Jvm.MethodName) prog_16_method_114_code (5 : Nat) (Option.none : Option Jvm.ClassFile.FieldType)) ∈ lw_good := lw_in (List.mem_of_getElem? (i := 1811) (by decide +kernel)) (by decide +kernel)
theorem wd_182 : (Jvm.Cond.fieldLink "TemplatePress$Walk" (65 : Nat) "TemplatePress$Walk" "deep" "I") ∈ lw_good := lw_in (List.mem_of_getElem? (i := 182) (by decide +kernel)) (by decide +kernel)
theorem wd_1824 : (Jvm.Cond.methodLink "TemplatePressModel" (551 : Nat) ({ cls := "TemplatePressModel", name := "cast", desc := "(II)I" } : Jvm.MethodName)) ∈ lw_good := lw_in (List.mem_of_getElem? (i := 1824) (by decide +kernel)) (by decide +kernel)
theorem wd_1826 : (Jvm.Cond.instanceMethod ({ cls := "TemplatePressModel", name := "cast", desc := "(II)I" } : Jvm.MethodName)) ∈ lw_good := lw_in (List.mem_of_getElem? (i := 1826) (by decide +kernel)) (by decide +kernel)
theorem wd_1827 : (Jvm.Cond.code ({ cls := "TemplatePressModel", name := "cast", desc := "(II)I" } : Jvm.MethodName) prog_16_method_118_code (3 : Nat) (Option.some Jvm.ClassFile.FieldType.int)) ∈ lw_good := lw_in (List.mem_of_getElem? (i := 1827) (by decide +kernel)) (by decide +kernel)
theorem wd_183 : (Jvm.Cond.fieldLink "TemplatePress$Walk" (68 : Nat) "TemplatePress$Walk" "context" "I") ∈ lw_good := lw_in (List.mem_of_getElem? (i := 183) (by decide +kernel)) (by decide +kernel)
theorem wd_1832 : (Jvm.Cond.methodLink "TemplatePressModel" (554 : Nat) ({ cls := "TemplatePressModel", name := "same", desc := "([I[II)V" } : Jvm.MethodName)) ∈ lw_good := lw_in (List.mem_of_getElem? (i := 1832) (by decide +kernel)) (by decide +kernel)
theorem wd_1833 : (Jvm.Cond.static ({ cls := "TemplatePressModel", name := "same", desc := "([I[II)V" } : Jvm.MethodName)) ∈ lw_good := lw_in (List.mem_of_getElem? (i := 1833) (by decide +kernel)) (by decide +kernel)
theorem wd_1834 : (Jvm.Cond.code ({ cls := "TemplatePressModel", name := "same", desc := "([I[II)V" } : Jvm.MethodName) prog_16_method_120_code (4 : Nat) (Option.none : Option Jvm.ClassFile.FieldType)) ∈ lw_good := lw_in (List.mem_of_getElem? (i := 1834) (by decide +kernel)) (by decide +kernel)
theorem wd_1835 : (Jvm.Cond.methodLink "TemplatePressModel" (558 : Nat) ({ cls := "TemplatePressModel", name := "same", desc := "([F[FI)V" } : Jvm.MethodName)) ∈ lw_good := lw_in (List.mem_of_getElem? (i := 1835) (by decide +kernel)) (by decide +kernel)
theorem wd_1836 : (Jvm.Cond.static ({ cls := "TemplatePressModel", name := "same", desc := "([F[FI)V" } : Jvm.MethodName)) ∈ lw_good := lw_in (List.mem_of_getElem? (i := 1836) (by decide +kernel)) (by decide +kernel)
theorem wd_1837 : (Jvm.Cond.code ({ cls := "TemplatePressModel", name := "same", desc := "([F[FI)V" } : Jvm.MethodName) prog_16_method_121_code (4 : Nat) (Option.none : Option Jvm.ClassFile.FieldType)) ∈ lw_good := lw_in (List.mem_of_getElem? (i := 1837) (by decide +kernel)) (by decide +kernel)
theorem wd_185 : (Jvm.Cond.fieldLink "TemplatePress$Walk" (71 : Nat) "TemplatePress$Walk" "steps" "I") ∈ lw_good := lw_in (List.mem_of_getElem? (i := 185) (by decide +kernel)) (by decide +kernel)
theorem wd_187 : (Jvm.Cond.fieldLink "TemplatePress$Walk" (74 : Nat) "TemplatePress$Walk" "turn" "I") ∈ lw_good := lw_in (List.mem_of_getElem? (i := 187) (by decide +kernel)) (by decide +kernel)
theorem wd_188 : (Jvm.Cond.fieldLink "TemplatePress$Walk" (77 : Nat) "TemplatePress$Walk" "looking" "Z") ∈ lw_good := lw_in (List.mem_of_getElem? (i := 188) (by decide +kernel)) (by decide +kernel)
theorem wd_189 : (Jvm.Cond.fieldLink "TemplatePress$Walk" (81 : Nat) "TemplatePress$Walk" "failed" "Z") ∈ lw_good := lw_in (List.mem_of_getElem? (i := 189) (by decide +kernel)) (by decide +kernel)
theorem wd_2 : (Jvm.Cond.initialized "TemplatePress$State") ∈ lw_good := lw_in (List.mem_of_getElem? (i := 2) (by decide +kernel)) (by decide +kernel)
theorem wd_22 : (Jvm.Cond.initialized "java/lang/System") ∈ lw_good := lw_in (List.mem_of_getElem? (i := 22) (by decide +kernel)) (by decide +kernel)
theorem wd_228 : (Jvm.Cond.fieldLink "TemplatePress" (22 : Nat) "TemplatePress" "state" "LTemplatePress$State;") ∈ lw_good := lw_in (List.mem_of_getElem? (i := 228) (by decide +kernel)) (by decide +kernel)
theorem wd_229 : (Jvm.Cond.fieldLink "TemplatePress" (26 : Nat) "TemplatePress" "taken" "LTemplatePress$State;") ∈ lw_good := lw_in (List.mem_of_getElem? (i := 229) (by decide +kernel)) (by decide +kernel)
theorem wd_230 : (Jvm.Cond.fieldLink "TemplatePress" (250 : Nat) "TemplatePress" "isTaken" "Z") ∈ lw_good := lw_in (List.mem_of_getElem? (i := 230) (by decide +kernel)) (by decide +kernel)
theorem wd_231 : (Jvm.Cond.fieldLink "TemplatePress" (29 : Nat) "TemplatePress" "tape" "LTemplatePress$Numbers;") ∈ lw_good := lw_in (List.mem_of_getElem? (i := 231) (by decide +kernel)) (by decide +kernel)
theorem wd_232 : (Jvm.Cond.fieldLink "TemplatePress" (33 : Nat) "TemplatePress" "reasons" "LTemplatePress$Numbers;") ∈ lw_good := lw_in (List.mem_of_getElem? (i := 232) (by decide +kernel)) (by decide +kernel)
theorem wd_233 : (Jvm.Cond.fieldLink "TemplatePress" (36 : Nat) "TemplatePress" "figures" "LTemplatePress$Numbers;") ∈ lw_good := lw_in (List.mem_of_getElem? (i := 233) (by decide +kernel)) (by decide +kernel)
theorem wd_234 : (Jvm.Cond.fieldLink "TemplatePress" (42 : Nat) "TemplatePress" "work" "LTemplatePress$Value;") ∈ lw_good := lw_in (List.mem_of_getElem? (i := 234) (by decide +kernel)) (by decide +kernel)
theorem wd_235 : (Jvm.Cond.fieldLink "TemplatePress" (51 : Nat) "TemplatePress" "walk" "LTemplatePress$Walk;") ∈ lw_good := lw_in (List.mem_of_getElem? (i := 235) (by decide +kernel)) (by decide +kernel)
theorem wd_236 : (Jvm.Cond.fieldLink "TemplatePress" (182 : Nat) "TemplatePress" "stepsPrinted" "I") ∈ lw_good := lw_in (List.mem_of_getElem? (i := 236) (by decide +kernel)) (by decide +kernel)
theorem wd_237 : (Jvm.Cond.fieldLink "TemplatePress" (55 : Nat) "TemplatePress" "rows" "[LTemplatePress$Row;") ∈ lw_good := lw_in (List.mem_of_getElem? (i := 237) (by decide +kernel)) (by decide +kernel)
theorem wd_24 : (Jvm.Cond.initialized "java/lang/Integer") ∈ lw_good := lw_in (List.mem_of_getElem? (i := 24) (by decide +kernel)) (by decide +kernel)
theorem wd_263 : (Jvm.Cond.methodLink "TemplatePress" (59 : Nat) ({ cls := "TemplatePress$State", name := "variable", desc := "(I)LTemplatePress$Value;" } : Jvm.MethodName)) ∈ lw_good := lw_in (List.mem_of_getElem? (i := 263) (by decide +kernel)) (by decide +kernel)
theorem wd_264 : (Jvm.Cond.instanceMethod ({ cls := "TemplatePress$State", name := "variable", desc := "(I)LTemplatePress$Value;" } : Jvm.MethodName)) ∈ lw_good := lw_in (List.mem_of_getElem? (i := 264) (by decide +kernel)) (by decide +kernel)
theorem wd_265 : (Jvm.Cond.selects "TemplatePress$State" ({ cls := "TemplatePress$State", name := "variable", desc := "(I)LTemplatePress$Value;" } : Jvm.MethodName) ({ cls := "TemplatePress$State", name := "variable", desc := "(I)LTemplatePress$Value;" } : Jvm.MethodName)) ∈ lw_good := lw_in (List.mem_of_getElem? (i := 265) (by decide +kernel)) (by decide +kernel)
theorem wd_266 : (Jvm.Cond.code ({ cls := "TemplatePress$State", name := "variable", desc := "(I)LTemplatePress$Value;" } : Jvm.MethodName) prog_11_method_2_code (2 : Nat) (Option.some (Jvm.ClassFile.FieldType.object "TemplatePress$Value"))) ∈ lw_good := lw_in (List.mem_of_getElem? (i := 266) (by decide +kernel)) (by decide +kernel)
theorem wd_268 : (Jvm.Cond.static ({ cls := "TemplatePress", name := "among", desc := "(II)Z" } : Jvm.MethodName)) ∈ lw_good := lw_in (List.mem_of_getElem? (i := 268) (by decide +kernel)) (by decide +kernel)
theorem wd_269 : (Jvm.Cond.code ({ cls := "TemplatePress", name := "among", desc := "(II)Z" } : Jvm.MethodName) prog_1_method_32_code (2 : Nat) (Option.some Jvm.ClassFile.FieldType.boolean)) ∈ lw_good := lw_in (List.mem_of_getElem? (i := 269) (by decide +kernel)) (by decide +kernel)
theorem wd_270 : (Jvm.Cond.methodLink "TemplatePress" (67 : Nat) ({ cls := "TemplatePress$Value", name := "becomeNothing", desc := "()V" } : Jvm.MethodName)) ∈ lw_good := lw_in (List.mem_of_getElem? (i := 270) (by decide +kernel)) (by decide +kernel)
theorem wd_271 : (Jvm.Cond.instanceMethod ({ cls := "TemplatePress$Value", name := "becomeNothing", desc := "()V" } : Jvm.MethodName)) ∈ lw_good := lw_in (List.mem_of_getElem? (i := 271) (by decide +kernel)) (by decide +kernel)
theorem wd_272 : (Jvm.Cond.selects "TemplatePress$Value" ({ cls := "TemplatePress$Value", name := "becomeNothing", desc := "()V" } : Jvm.MethodName) ({ cls := "TemplatePress$Value", name := "becomeNothing", desc := "()V" } : Jvm.MethodName)) ∈ lw_good := lw_in (List.mem_of_getElem? (i := 272) (by decide +kernel)) (by decide +kernel)
theorem wd_273 : (Jvm.Cond.code ({ cls := "TemplatePress$Value", name := "becomeNothing", desc := "()V" } : Jvm.MethodName) prog_13_method_6_code (1 : Nat) (Option.none : Option Jvm.ClassFile.FieldType)) ∈ lw_good := lw_in (List.mem_of_getElem? (i := 273) (by decide +kernel)) (by decide +kernel)
theorem wd_278 : (Jvm.Cond.methodLink "TemplatePress" (70 : Nat) ({ cls := "TemplatePress$Value", name := "isInt", desc := "(J)Z" } : Jvm.MethodName)) ∈ lw_good := lw_in (List.mem_of_getElem? (i := 278) (by decide +kernel)) (by decide +kernel)
theorem wd_279 : (Jvm.Cond.static ({ cls := "TemplatePress$Value", name := "isInt", desc := "(J)Z" } : Jvm.MethodName)) ∈ lw_good := lw_in (List.mem_of_getElem? (i := 279) (by decide +kernel)) (by decide +kernel)
theorem wd_280 : (Jvm.Cond.code ({ cls := "TemplatePress$Value", name := "isInt", desc := "(J)Z" } : Jvm.MethodName) prog_13_method_2_code (2 : Nat) (Option.some Jvm.ClassFile.FieldType.boolean)) ∈ lw_good := lw_in (List.mem_of_getElem? (i := 280) (by decide +kernel)) (by decide +kernel)
theorem wd_281 : (Jvm.Cond.constantLong "TemplatePress$Value" (15 : Nat) (-1000000 : Int64)) ∈ lw_good := lw_in (List.mem_of_getElem? (i := 281) (by decide +kernel)) (by decide +kernel)
theorem wd_282 : (Jvm.Cond.constantLong "TemplatePress$Value" (17 : Nat) (1000000 : Int64)) ∈ lw_good := lw_in (List.mem_of_getElem? (i := 282) (by decide +kernel)) (by decide +kernel)
theorem wd_283 : (Jvm.Cond.methodLink "TemplatePress" (74 : Nat) ({ cls := "TemplatePress$Value", name := "becomeInt", desc := "(I)V" } : Jvm.MethodName)) ∈ lw_good := lw_in (List.mem_of_getElem? (i := 283) (by decide +kernel)) (by decide +kernel)
theorem wd_284 : (Jvm.Cond.instanceMethod ({ cls := "TemplatePress$Value", name := "becomeInt", desc := "(I)V" } : Jvm.MethodName)) ∈ lw_good := lw_in (List.mem_of_getElem? (i := 284) (by decide +kernel)) (by decide +kernel)
theorem wd_285 : (Jvm.Cond.selects "TemplatePress$Value" ({ cls := "TemplatePress$Value", name := "becomeInt", desc := "(I)V" } : Jvm.MethodName) ({ cls := "TemplatePress$Value", name := "becomeInt", desc := "(I)V" } : Jvm.MethodName)) ∈ lw_good := lw_in (List.mem_of_getElem? (i := 285) (by decide +kernel)) (by decide +kernel)
theorem wd_286 : (Jvm.Cond.code ({ cls := "TemplatePress$Value", name := "becomeInt", desc := "(I)V" } : Jvm.MethodName) prog_13_method_7_code (2 : Nat) (Option.none : Option Jvm.ClassFile.FieldType)) ∈ lw_good := lw_in (List.mem_of_getElem? (i := 286) (by decide +kernel)) (by decide +kernel)
theorem wd_291 : (Jvm.Cond.methodLink "TemplatePress" (77 : Nat) ({ cls := "TemplatePress$Value", name := "becomeReal", desc := "(F)V" } : Jvm.MethodName)) ∈ lw_good := lw_in (List.mem_of_getElem? (i := 291) (by decide +kernel)) (by decide +kernel)
theorem wd_292 : (Jvm.Cond.instanceMethod ({ cls := "TemplatePress$Value", name := "becomeReal", desc := "(F)V" } : Jvm.MethodName)) ∈ lw_good := lw_in (List.mem_of_getElem? (i := 292) (by decide +kernel)) (by decide +kernel)
theorem wd_293 : (Jvm.Cond.selects "TemplatePress$Value" ({ cls := "TemplatePress$Value", name := "becomeReal", desc := "(F)V" } : Jvm.MethodName) ({ cls := "TemplatePress$Value", name := "becomeReal", desc := "(F)V" } : Jvm.MethodName)) ∈ lw_good := lw_in (List.mem_of_getElem? (i := 293) (by decide +kernel)) (by decide +kernel)
theorem wd_294 : (Jvm.Cond.code ({ cls := "TemplatePress$Value", name := "becomeReal", desc := "(F)V" } : Jvm.MethodName) prog_13_method_8_code (2 : Nat) (Option.none : Option Jvm.ClassFile.FieldType)) ∈ lw_good := lw_in (List.mem_of_getElem? (i := 294) (by decide +kernel)) (by decide +kernel)
theorem wd_295 : (Jvm.Cond.constantFloat "TemplatePress$Value" (39 : Nat) (1232348160 : UInt32)) ∈ lw_good := lw_in (List.mem_of_getElem? (i := 295) (by decide +kernel)) (by decide +kernel)
theorem wd_296 : (Jvm.Cond.constantFloat "TemplatePress$Value" (40 : Nat) (3379831808 : UInt32)) ∈ lw_good := lw_in (List.mem_of_getElem? (i := 296) (by decide +kernel)) (by decide +kernel)
theorem wd_3 : (Jvm.Cond.initialized "TemplatePress$Numbers") ∈ lw_good := lw_in (List.mem_of_getElem? (i := 3) (by decide +kernel)) (by decide +kernel)
theorem wd_301 : (Jvm.Cond.methodLink "TemplatePress" (81 : Nat) ({ cls := "TemplatePress$Value", name := "becomeText", desc := "(LTemplatePress$Numbers;)Z" } : Jvm.MethodName)) ∈ lw_good := lw_in (List.mem_of_getElem? (i := 301) (by decide +kernel)) (by decide +kernel)
theorem wd_302 : (Jvm.Cond.instanceMethod ({ cls := "TemplatePress$Value", name := "becomeText", desc := "(LTemplatePress$Numbers;)Z" } : Jvm.MethodName)) ∈ lw_good := lw_in (List.mem_of_getElem? (i := 302) (by decide +kernel)) (by decide +kernel)
theorem wd_303 : (Jvm.Cond.selects "TemplatePress$Value" ({ cls := "TemplatePress$Value", name := "becomeText", desc := "(LTemplatePress$Numbers;)Z" } : Jvm.MethodName) ({ cls := "TemplatePress$Value", name := "becomeText", desc := "(LTemplatePress$Numbers;)Z" } : Jvm.MethodName)) ∈ lw_good := lw_in (List.mem_of_getElem? (i := 303) (by decide +kernel)) (by decide +kernel)
theorem wd_304 : (Jvm.Cond.code ({ cls := "TemplatePress$Value", name := "becomeText", desc := "(LTemplatePress$Numbers;)Z" } : Jvm.MethodName) prog_13_method_10_code (3 : Nat) (Option.some Jvm.ClassFile.FieldType.boolean)) ∈ lw_good := lw_in (List.mem_of_getElem? (i := 304) (by decide +kernel)) (by decide +kernel)
theorem wd_305 : (Jvm.Cond.methodLink "TemplatePress$Value" (41 : Nat) ({ cls := "TemplatePress$Value", name := "resize", desc := "(I)V" } : Jvm.MethodName)) ∈ lw_good := lw_in (List.mem_of_getElem? (i := 305) (by decide +kernel)) (by decide +kernel)
theorem wd_307 : (Jvm.Cond.instanceMethod ({ cls := "TemplatePress$Value", name := "resize", desc := "(I)V" } : Jvm.MethodName)) ∈ lw_good := lw_in (List.mem_of_getElem? (i := 307) (by decide +kernel)) (by decide +kernel)
theorem wd_308 : (Jvm.Cond.code ({ cls := "TemplatePress$Value", name := "resize", desc := "(I)V" } : Jvm.MethodName) prog_13_method_11_code (2 : Nat) (Option.none : Option Jvm.ClassFile.FieldType)) ∈ lw_good := lw_in (List.mem_of_getElem? (i := 308) (by decide +kernel)) (by decide +kernel)
theorem wd_309 : (Jvm.Cond.methodLink "TemplatePress$Value" (56 : Nat) ({ cls := "java/lang/Math", name := "min", desc := "(II)I" } : Jvm.MethodName)) ∈ lw_good := lw_in (List.mem_of_getElem? (i := 309) (by decide +kernel)) (by decide +kernel)
theorem wd_31 : (Jvm.Cond.methodLink "TemplatePress" (3 : Nat) ({ cls := "java/lang/Object", name := "<init>", desc := "()V" } : Jvm.MethodName)) ∈ lw_good := lw_in (List.mem_of_getElem? (i := 31) (by decide +kernel)) (by decide +kernel)
theorem wd_310 : (Jvm.Cond.static ({ cls := "java/lang/Math", name := "min", desc := "(II)I" } : Jvm.MethodName)) ∈ lw_good := lw_in (List.mem_of_getElem? (i := 310) (by decide +kernel)) (by decide +kernel)
theorem wd_311 : (Jvm.Cond.code ({ cls := "java/lang/Math", name := "min", desc := "(II)I" } : Jvm.MethodName) prog_21_method_69_code (2 : Nat) (Option.some Jvm.ClassFile.FieldType.int)) ∈ lw_good := lw_in (List.mem_of_getElem? (i := 311) (by decide +kernel)) (by decide +kernel)
theorem wd_312 : (Jvm.Cond.methodLink "TemplatePress$Value" (52 : Nat) ({ cls := "TemplatePress$Numbers", name := "at", desc := "(I)I" } : Jvm.MethodName)) ∈ lw_good := lw_in (List.mem_of_getElem? (i := 312) (by decide +kernel)) (by decide +kernel)
theorem wd_313 : (Jvm.Cond.instanceMethod ({ cls := "TemplatePress$Numbers", name := "at", desc := "(I)I" } : Jvm.MethodName)) ∈ lw_good := lw_in (List.mem_of_getElem? (i := 313) (by decide +kernel)) (by decide +kernel)
theorem wd_314 : (Jvm.Cond.selects "TemplatePress$Numbers" ({ cls := "TemplatePress$Numbers", name := "at", desc := "(I)I" } : Jvm.MethodName) ({ cls := "TemplatePress$Numbers", name := "at", desc := "(I)I" } : Jvm.MethodName)) ∈ lw_good := lw_in (List.mem_of_getElem? (i := 314) (by decide +kernel)) (by decide +kernel)
theorem wd_315 : (Jvm.Cond.code ({ cls := "TemplatePress$Numbers", name := "at", desc := "(I)I" } : Jvm.MethodName) prog_7_method_5_code (2 : Nat) (Option.some Jvm.ClassFile.FieldType.int)) ∈ lw_good := lw_in (List.mem_of_getElem? (i := 315) (by decide +kernel)) (by decide +kernel)
theorem wd_316 : (Jvm.Cond.methodLink "TemplatePress$Value" (45 : Nat) ({ cls := "TemplatePress$Value", name := "put", desc := "(II)V" } : Jvm.MethodName)) ∈ lw_good := lw_in (List.mem_of_getElem? (i := 316) (by decide +kernel)) (by decide +kernel)
theorem wd_317 : (Jvm.Cond.instanceMethod ({ cls := "TemplatePress$Value", name := "put", desc := "(II)V" } : Jvm.MethodName)) ∈ lw_good := lw_in (List.mem_of_getElem? (i := 317) (by decide +kernel)) (by decide +kernel)
theorem wd_318 : (Jvm.Cond.selects "TemplatePress$Value" ({ cls := "TemplatePress$Value", name := "put", desc := "(II)V" } : Jvm.MethodName) ({ cls := "TemplatePress$Value", name := "put", desc := "(II)V" } : Jvm.MethodName)) ∈ lw_good := lw_in (List.mem_of_getElem? (i := 318) (by decide +kernel)) (by decide +kernel)
theorem wd_319 : (Jvm.Cond.code ({ cls := "TemplatePress$Value", name := "put", desc := "(II)V" } : Jvm.MethodName) prog_13_method_4_code (3 : Nat) (Option.none : Option Jvm.ClassFile.FieldType)) ∈ lw_good := lw_in (List.mem_of_getElem? (i := 319) (by decide +kernel)) (by decide +kernel)
theorem wd_32 : (Jvm.Cond.instanceMethod ({ cls := "java/lang/Object", name := "<init>", desc := "()V" } : Jvm.MethodName)) ∈ lw_good := lw_in (List.mem_of_getElem? (i := 32) (by decide +kernel)) (by decide +kernel)
theorem wd_320 : (Jvm.Cond.methodLink "TemplatePress" (85 : Nat) ({ cls := "TemplatePress$Numbers", name := "empty", desc := "()V" } : Jvm.MethodName)) ∈ lw_good := lw_in (List.mem_of_getElem? (i := 320) (by decide +kernel)) (by decide +kernel)
theorem wd_321 : (Jvm.Cond.instanceMethod ({ cls := "TemplatePress$Numbers", name := "empty", desc := "()V" } : Jvm.MethodName)) ∈ lw_good := lw_in (List.mem_of_getElem? (i := 321) (by decide +kernel)) (by decide +kernel)
theorem wd_322 : (Jvm.Cond.selects "TemplatePress$Numbers" ({ cls := "TemplatePress$Numbers", name := "empty", desc := "()V" } : Jvm.MethodName) ({ cls := "TemplatePress$Numbers", name := "empty", desc := "()V" } : Jvm.MethodName)) ∈ lw_good := lw_in (List.mem_of_getElem? (i := 322) (by decide +kernel)) (by decide +kernel)
theorem wd_323 : (Jvm.Cond.code ({ cls := "TemplatePress$Numbers", name := "empty", desc := "()V" } : Jvm.MethodName) prog_7_method_2_code (1 : Nat) (Option.none : Option Jvm.ClassFile.FieldType)) ∈ lw_good := lw_in (List.mem_of_getElem? (i := 323) (by decide +kernel)) (by decide +kernel)
theorem wd_328 : (Jvm.Cond.methodLink "TemplatePress" (88 : Nat) ({ cls := "TemplatePress$Value", name := "becomeList", desc := "(I)V" } : Jvm.MethodName)) ∈ lw_good := lw_in (List.mem_of_getElem? (i := 328) (by decide +kernel)) (by decide +kernel)
theorem wd_329 : (Jvm.Cond.instanceMethod ({ cls := "TemplatePress$Value", name := "becomeList", desc := "(I)V" } : Jvm.MethodName)) ∈ lw_good := lw_in (List.mem_of_getElem? (i := 329) (by decide +kernel)) (by decide +kernel)
theorem wd_33 : (Jvm.Cond.code ({ cls := "java/lang/Object", name := "<init>", desc := "()V" } : Jvm.MethodName) object_method_1_code (1 : Nat) (Option.none : Option Jvm.ClassFile.FieldType)) ∈ lw_good := lw_in (List.mem_of_getElem? (i := 33) (by decide +kernel)) (by decide +kernel)
theorem wd_330 : (Jvm.Cond.selects "TemplatePress$Value" ({ cls := "TemplatePress$Value", name := "becomeList", desc := "(I)V" } : Jvm.MethodName) ({ cls := "TemplatePress$Value", name := "becomeList", desc := "(I)V" } : Jvm.MethodName)) ∈ lw_good := lw_in (List.mem_of_getElem? (i := 330) (by decide +kernel)) (by decide +kernel)
theorem wd_331 : (Jvm.Cond.code ({ cls := "TemplatePress$Value", name := "becomeList", desc := "(I)V" } : Jvm.MethodName) prog_13_method_9_code (3 : Nat) (Option.none : Option Jvm.ClassFile.FieldType)) ∈ lw_good := lw_in (List.mem_of_getElem? (i := 331) (by decide +kernel)) (by decide +kernel)
theorem wd_336 : (Jvm.Cond.methodLink "TemplatePress" (94 : Nat) ({ cls := "TemplatePress", name := "among", desc := "(II)Z" } : Jvm.MethodName)) ∈ lw_good := lw_in (List.mem_of_getElem? (i := 336) (by decide +kernel)) (by decide +kernel)
theorem wd_337 : (Jvm.Cond.methodLink "TemplatePress" (98 : Nat) ({ cls := "TemplatePress$Value", name := "at", desc := "(I)I" } : Jvm.MethodName)) ∈ lw_good := lw_in (List.mem_of_getElem? (i := 337) (by decide +kernel)) (by decide +kernel)
theorem wd_338 : (Jvm.Cond.instanceMethod ({ cls := "TemplatePress$Value", name := "at", desc := "(I)I" } : Jvm.MethodName)) ∈ lw_good := lw_in (List.mem_of_getElem? (i := 338) (by decide +kernel)) (by decide +kernel)
theorem wd_339 : (Jvm.Cond.selects "TemplatePress$Value" ({ cls := "TemplatePress$Value", name := "at", desc := "(I)I" } : Jvm.MethodName) ({ cls := "TemplatePress$Value", name := "at", desc := "(I)I" } : Jvm.MethodName)) ∈ lw_good := lw_in (List.mem_of_getElem? (i := 339) (by decide +kernel)) (by decide +kernel)
theorem wd_34 : (Jvm.Cond.classLink "TemplatePress" (9 : Nat) "TemplatePress$State") ∈ lw_good := lw_in (List.mem_of_getElem? (i := 34) (by decide +kernel)) (by decide +kernel)
theorem wd_340 : (Jvm.Cond.code ({ cls := "TemplatePress$Value", name := "at", desc := "(I)I" } : Jvm.MethodName) prog_13_method_3_code (2 : Nat) (Option.some Jvm.ClassFile.FieldType.int)) ∈ lw_good := lw_in (List.mem_of_getElem? (i := 340) (by decide +kernel)) (by decide +kernel)
theorem wd_341 : (Jvm.Cond.methodLink "TemplatePress" (102 : Nat) ({ cls := "TemplatePress$Value", name := "put", desc := "(II)V" } : Jvm.MethodName)) ∈ lw_good := lw_in (List.mem_of_getElem? (i := 341) (by decide +kernel)) (by decide +kernel)
theorem wd_346 : (Jvm.Cond.methodLink "TemplatePress" (106 : Nat) ({ cls := "TemplatePress", name := "showFigures", desc := "(LTemplatePress$Value;)I" } : Jvm.MethodName)) ∈ lw_good := lw_in (List.mem_of_getElem? (i := 346) (by decide +kernel)) (by decide +kernel)
theorem wd_348 : (Jvm.Cond.instanceMethod ({ cls := "TemplatePress", name := "showFigures", desc := "(LTemplatePress$Value;)I" } : Jvm.MethodName)) ∈ lw_good := lw_in (List.mem_of_getElem? (i := 348) (by decide +kernel)) (by decide +kernel)
theorem wd_349 : (Jvm.Cond.code ({ cls := "TemplatePress", name := "showFigures", desc := "(LTemplatePress$Value;)I" } : Jvm.MethodName) prog_1_method_31_code (2 : Nat) (Option.some Jvm.ClassFile.FieldType.int)) ∈ lw_good := lw_in (List.mem_of_getElem? (i := 349) (by decide +kernel)) (by decide +kernel)
theorem wd_35 : (Jvm.Cond.instantiable "TemplatePress$State" (4 : Nat)) ∈ lw_good := lw_in (List.mem_of_getElem? (i := 35) (by decide +kernel)) (by decide +kernel)
theorem wd_350 : (Jvm.Cond.methodLink "TemplatePress" (253 : Nat) ({ cls := "TemplatePress$Value", name := "showInto", desc := "(LTemplatePress$Numbers;)V" } : Jvm.MethodName)) ∈ lw_good := lw_in (List.mem_of_getElem? (i := 350) (by decide +kernel)) (by decide +kernel)
theorem wd_351 : (Jvm.Cond.instanceMethod ({ cls := "TemplatePress$Value", name := "showInto", desc := "(LTemplatePress$Numbers;)V" } : Jvm.MethodName)) ∈ lw_good := lw_in (List.mem_of_getElem? (i := 351) (by decide +kernel)) (by decide +kernel)
theorem wd_352 : (Jvm.Cond.selects "TemplatePress$Value" ({ cls := "TemplatePress$Value", name := "showInto", desc := "(LTemplatePress$Numbers;)V" } : Jvm.MethodName) ({ cls := "TemplatePress$Value", name := "showInto", desc := "(LTemplatePress$Numbers;)V" } : Jvm.MethodName)) ∈ lw_good := lw_in (List.mem_of_getElem? (i := 352) (by decide +kernel)) (by decide +kernel)
theorem wd_353 : (Jvm.Cond.code ({ cls := "TemplatePress$Value", name := "showInto", desc := "(LTemplatePress$Numbers;)V" } : Jvm.MethodName) prog_13_method_20_code (3 : Nat) (Option.none : Option Jvm.ClassFile.FieldType)) ∈ lw_good := lw_in (List.mem_of_getElem? (i := 353) (by decide +kernel)) (by decide +kernel)
theorem wd_354 : (Jvm.Cond.methodLink "TemplatePress$Value" (97 : Nat) ({ cls := "TemplatePress$Value", name := "showInt", desc := "(ILTemplatePress$Numbers;)V" } : Jvm.MethodName)) ∈ lw_good := lw_in (List.mem_of_getElem? (i := 354) (by decide +kernel)) (by decide +kernel)
theorem wd_355 : (Jvm.Cond.static ({ cls := "TemplatePress$Value", name := "showInt", desc := "(ILTemplatePress$Numbers;)V" } : Jvm.MethodName)) ∈ lw_good := lw_in (List.mem_of_getElem? (i := 355) (by decide +kernel)) (by decide +kernel)
theorem wd_356 : (Jvm.Cond.code ({ cls := "TemplatePress$Value", name := "showInt", desc := "(ILTemplatePress$Numbers;)V" } : Jvm.MethodName) prog_13_method_21_code (5 : Nat) (Option.none : Option Jvm.ClassFile.FieldType)) ∈ lw_good := lw_in (List.mem_of_getElem? (i := 356) (by decide +kernel)) (by decide +kernel)
theorem wd_357 : (Jvm.Cond.methodLink "TemplatePress$Value" (105 : Nat) ({ cls := "TemplatePress$Numbers", name := "add", desc := "(I)Z" } : Jvm.MethodName)) ∈ lw_good := lw_in (List.mem_of_getElem? (i := 357) (by decide +kernel)) (by decide +kernel)
theorem wd_358 : (Jvm.Cond.instanceMethod ({ cls := "TemplatePress$Numbers", name := "add", desc := "(I)Z" } : Jvm.MethodName)) ∈ lw_good := lw_in (List.mem_of_getElem? (i := 358) (by decide +kernel)) (by decide +kernel)
theorem wd_359 : (Jvm.Cond.selects "TemplatePress$Numbers" ({ cls := "TemplatePress$Numbers", name := "add", desc := "(I)Z" } : Jvm.MethodName) ({ cls := "TemplatePress$Numbers", name := "add", desc := "(I)Z" } : Jvm.MethodName)) ∈ lw_good := lw_in (List.mem_of_getElem? (i := 359) (by decide +kernel)) (by decide +kernel)
theorem wd_36 : (Jvm.Cond.methodLink "TemplatePress" (11 : Nat) ({ cls := "TemplatePress$State", name := "<init>", desc := "()V" } : Jvm.MethodName)) ∈ lw_good := lw_in (List.mem_of_getElem? (i := 36) (by decide +kernel)) (by decide +kernel)
theorem wd_360 : (Jvm.Cond.code ({ cls := "TemplatePress$Numbers", name := "add", desc := "(I)Z" } : Jvm.MethodName) prog_7_method_3_code (2 : Nat) (Option.some Jvm.ClassFile.FieldType.boolean)) ∈ lw_good := lw_in (List.mem_of_getElem? (i := 360) (by decide +kernel)) (by decide +kernel)
theorem wd_361 : (Jvm.Cond.methodLink "TemplatePress$Value" (78 : Nat) ({ cls := "java/lang/Math", name := "abs", desc := "(I)I" } : Jvm.MethodName)) ∈ lw_good := lw_in (List.mem_of_getElem? (i := 361) (by decide +kernel)) (by decide +kernel)
theorem wd_362 : (Jvm.Cond.static ({ cls := "java/lang/Math", name := "abs", desc := "(I)I" } : Jvm.MethodName)) ∈ lw_good := lw_in (List.mem_of_getElem? (i := 362) (by decide +kernel)) (by decide +kernel)
theorem wd_363 : (Jvm.Cond.code ({ cls := "java/lang/Math", name := "abs", desc := "(I)I" } : Jvm.MethodName) prog_21_method_59_code (1 : Nat) (Option.some Jvm.ClassFile.FieldType.int)) ∈ lw_good := lw_in (List.mem_of_getElem? (i := 363) (by decide +kernel)) (by decide +kernel)
theorem wd_364 : (Jvm.Cond.methodLink "TemplatePress$Value" (101 : Nat) ({ cls := "TemplatePress$Value", name := "showReal", desc := "(LTemplatePress$Numbers;)V" } : Jvm.MethodName)) ∈ lw_good := lw_in (List.mem_of_getElem? (i := 364) (by decide +kernel)) (by decide +kernel)
theorem wd_366 : (Jvm.Cond.instanceMethod ({ cls := "TemplatePress$Value", name := "showReal", desc := "(LTemplatePress$Numbers;)V" } : Jvm.MethodName)) ∈ lw_good := lw_in (List.mem_of_getElem? (i := 366) (by decide +kernel)) (by decide +kernel)
theorem wd_367 : (Jvm.Cond.code ({ cls := "TemplatePress$Value", name := "showReal", desc := "(LTemplatePress$Numbers;)V" } : Jvm.MethodName) prog_13_method_22_code (5 : Nat) (Option.none : Option Jvm.ClassFile.FieldType)) ∈ lw_good := lw_in (List.mem_of_getElem? (i := 367) (by decide +kernel)) (by decide +kernel)
theorem wd_368 : (Jvm.Cond.constantFloat "TemplatePress$Value" (109 : Nat) (1148846080 : UInt32)) ∈ lw_good := lw_in (List.mem_of_getElem? (i := 368) (by decide +kernel)) (by decide +kernel)
theorem wd_369 : (Jvm.Cond.methodLink "TemplatePress$Value" (96 : Nat) ({ cls := "TemplatePress$Value", name := "at", desc := "(I)I" } : Jvm.MethodName)) ∈ lw_good := lw_in (List.mem_of_getElem? (i := 369) (by decide +kernel)) (by decide +kernel)
theorem wd_37 : (Jvm.Cond.instanceMethod ({ cls := "TemplatePress$State", name := "<init>", desc := "()V" } : Jvm.MethodName)) ∈ lw_good := lw_in (List.mem_of_getElem? (i := 37) (by decide +kernel)) (by decide +kernel)
theorem wd_370 : (Jvm.Cond.methodLink "TemplatePress" (110 : Nat) ({ cls := "TemplatePress$Value", name := "measure", desc := "()I" } : Jvm.MethodName)) ∈ lw_good := lw_in (List.mem_of_getElem? (i := 370) (by decide +kernel)) (by decide +kernel)
theorem wd_371 : (Jvm.Cond.instanceMethod ({ cls := "TemplatePress$Value", name := "measure", desc := "()I" } : Jvm.MethodName)) ∈ lw_good := lw_in (List.mem_of_getElem? (i := 371) (by decide +kernel)) (by decide +kernel)
theorem wd_372 : (Jvm.Cond.selects "TemplatePress$Value" ({ cls := "TemplatePress$Value", name := "measure", desc := "()I" } : Jvm.MethodName) ({ cls := "TemplatePress$Value", name := "measure", desc := "()I" } : Jvm.MethodName)) ∈ lw_good := lw_in (List.mem_of_getElem? (i := 372) (by decide +kernel)) (by decide +kernel)
theorem wd_373 : (Jvm.Cond.code ({ cls := "TemplatePress$Value", name := "measure", desc := "()I" } : Jvm.MethodName) prog_13_method_14_code (1 : Nat) (Option.some Jvm.ClassFile.FieldType.int)) ∈ lw_good := lw_in (List.mem_of_getElem? (i := 373) (by decide +kernel)) (by decide +kernel)
theorem wd_374 : (Jvm.Cond.methodLink "TemplatePress$Value" (66 : Nat) ({ cls := "TemplatePress$Value", name := "bitsOf", desc := "(F)I" } : Jvm.MethodName)) ∈ lw_good := lw_in (List.mem_of_getElem? (i := 374) (by decide +kernel)) (by decide +kernel)
theorem wd_375 : (Jvm.Cond.static ({ cls := "TemplatePress$Value", name := "bitsOf", desc := "(F)I" } : Jvm.MethodName)) ∈ lw_good := lw_in (List.mem_of_getElem? (i := 375) (by decide +kernel)) (by decide +kernel)
theorem wd_376 : (Jvm.Cond.code ({ cls := "TemplatePress$Value", name := "bitsOf", desc := "(F)I" } : Jvm.MethodName) prog_13_method_15_code (5 : Nat) (Option.some Jvm.ClassFile.FieldType.int)) ∈ lw_good := lw_in (List.mem_of_getElem? (i := 376) (by decide +kernel)) (by decide +kernel)
theorem wd_377 : (Jvm.Cond.constantDouble "TemplatePress$Value" (70 : Nat) (4611686018427387904 : UInt64)) ∈ lw_good := lw_in (List.mem_of_getElem? (i := 377) (by decide +kernel)) (by decide +kernel)
theorem wd_378 : (Jvm.Cond.constantDouble "TemplatePress$Value" (72 : Nat) (4602678819172646912 : UInt64)) ∈ lw_good := lw_in (List.mem_of_getElem? (i := 378) (by decide +kernel)) (by decide +kernel)
theorem wd_379 : (Jvm.Cond.constantDouble "TemplatePress$Value" (74 : Nat) (4710765210229538816 : UInt64)) ∈ lw_good := lw_in (List.mem_of_getElem? (i := 379) (by decide +kernel)) (by decide +kernel)
theorem wd_38 : (Jvm.Cond.code ({ cls := "TemplatePress$State", name := "<init>", desc := "()V" } : Jvm.MethodName) prog_11_method_1_code (2 : Nat) (Option.none : Option Jvm.ClassFile.FieldType)) ∈ lw_good := lw_in (List.mem_of_getElem? (i := 38) (by decide +kernel)) (by decide +kernel)
theorem wd_380 : (Jvm.Cond.constant "TemplatePress$Value" (76 : Nat) (8388608 : Int32)) ∈ lw_good := lw_in (List.mem_of_getElem? (i := 380) (by decide +kernel)) (by decide +kernel)
theorem wd_381 : (Jvm.Cond.constant "TemplatePress$Value" (77 : Nat) (-2147483648 : Int32)) ∈ lw_good := lw_in (List.mem_of_getElem? (i := 381) (by decide +kernel)) (by decide +kernel)
theorem wd_382 : (Jvm.Cond.methodLink "TemplatePress" (114 : Nat) ({ cls := "TemplatePress$Value", name := "isTrue", desc := "()Z" } : Jvm.MethodName)) ∈ lw_good := lw_in (List.mem_of_getElem? (i := 382) (by decide +kernel)) (by decide +kernel)
theorem wd_383 : (Jvm.Cond.instanceMethod ({ cls := "TemplatePress$Value", name := "isTrue", desc := "()Z" } : Jvm.MethodName)) ∈ lw_good := lw_in (List.mem_of_getElem? (i := 383) (by decide +kernel)) (by decide +kernel)
theorem wd_384 : (Jvm.Cond.selects "TemplatePress$Value" ({ cls := "TemplatePress$Value", name := "isTrue", desc := "()Z" } : Jvm.MethodName) ({ cls := "TemplatePress$Value", name := "isTrue", desc := "()Z" } : Jvm.MethodName)) ∈ lw_good := lw_in (List.mem_of_getElem? (i := 384) (by decide +kernel)) (by decide +kernel)
theorem wd_385 : (Jvm.Cond.code ({ cls := "TemplatePress$Value", name := "isTrue", desc := "()Z" } : Jvm.MethodName) prog_13_method_13_code (1 : Nat) (Option.some Jvm.ClassFile.FieldType.boolean)) ∈ lw_good := lw_in (List.mem_of_getElem? (i := 385) (by decide +kernel)) (by decide +kernel)
theorem wd_39 : (Jvm.Cond.methodLink "TemplatePress$State" (3 : Nat) ({ cls := "java/lang/Object", name := "<init>", desc := "()V" } : Jvm.MethodName)) ∈ lw_good := lw_in (List.mem_of_getElem? (i := 39) (by decide +kernel)) (by decide +kernel)
theorem wd_390 : (Jvm.Cond.methodLink "TemplatePress" (118 : Nat) ({ cls := "TemplatePress$Numbers", name := "at", desc := "(I)I" } : Jvm.MethodName)) ∈ lw_good := lw_in (List.mem_of_getElem? (i := 390) (by decide +kernel)) (by decide +kernel)
theorem wd_395 : (Jvm.Cond.methodLink "TemplatePress" (119 : Nat) ({ cls := "TemplatePress$Numbers", name := "add", desc := "(I)Z" } : Jvm.MethodName)) ∈ lw_good := lw_in (List.mem_of_getElem? (i := 395) (by decide +kernel)) (by decide +kernel)
theorem wd_4 : (Jvm.Cond.initialized "TemplatePress$Value") ∈ lw_good := lw_in (List.mem_of_getElem? (i := 4) (by decide +kernel)) (by decide +kernel)
theorem wd_40 : (Jvm.Cond.classLink "TemplatePress$State" (9 : Nat) "TemplatePress$Value") ∈ lw_good := lw_in (List.mem_of_getElem? (i := 40) (by decide +kernel)) (by decide +kernel)
theorem wd_409 : (Jvm.Cond.methodLink "TemplatePress$Reader" (3 : Nat) ({ cls := "java/lang/Object", name := "<init>", desc := "()V" } : Jvm.MethodName)) ∈ lw_good := lw_in (List.mem_of_getElem? (i := 409) (by decide +kernel)) (by decide +kernel)
theorem wd_410 : (Jvm.Cond.classLink "TemplatePress$Reader" (22 : Nat) "TemplatePress$Template") ∈ lw_good := lw_in (List.mem_of_getElem? (i := 410) (by decide +kernel)) (by decide +kernel)
theorem wd_411 : (Jvm.Cond.instantiable "TemplatePress$Template" (8 : Nat)) ∈ lw_good := lw_in (List.mem_of_getElem? (i := 411) (by decide +kernel)) (by decide +kernel)
theorem wd_412 : (Jvm.Cond.methodLink "TemplatePress$Reader" (29 : Nat) ({ cls := "TemplatePress$Template", name := "<init>", desc := "(I)V" } : Jvm.MethodName)) ∈ lw_good := lw_in (List.mem_of_getElem? (i := 412) (by decide +kernel)) (by decide +kernel)
theorem wd_413 : (Jvm.Cond.instanceMethod ({ cls := "TemplatePress$Template", name := "<init>", desc := "(I)V" } : Jvm.MethodName)) ∈ lw_good := lw_in (List.mem_of_getElem? (i := 413) (by decide +kernel)) (by decide +kernel)
theorem wd_414 : (Jvm.Cond.code ({ cls := "TemplatePress$Template", name := "<init>", desc := "(I)V" } : Jvm.MethodName) prog_12_method_1_code (2 : Nat) (Option.none : Option Jvm.ClassFile.FieldType)) ∈ lw_good := lw_in (List.mem_of_getElem? (i := 414) (by decide +kernel)) (by decide +kernel)
theorem wd_415 : (Jvm.Cond.methodLink "TemplatePress$Template" (3 : Nat) ({ cls := "java/lang/Object", name := "<init>", desc := "()V" } : Jvm.MethodName)) ∈ lw_good := lw_in (List.mem_of_getElem? (i := 415) (by decide +kernel)) (by decide +kernel)
theorem wd_416 : (Jvm.Cond.classLink "TemplatePress$Template" (9 : Nat) "TemplatePress$Piece") ∈ lw_good := lw_in (List.mem_of_getElem? (i := 416) (by decide +kernel)) (by decide +kernel)
theorem wd_418 : (Jvm.Cond.fieldLink "TemplatePress$Template" (21 : Nat) "TemplatePress$Template" "size" "I") ∈ lw_good := lw_in (List.mem_of_getElem? (i := 418) (by decide +kernel)) (by decide +kernel)
theorem wd_42 : (Jvm.Cond.classLink "TemplatePress$State" (17 : Nat) "TemplatePress$Template") ∈ lw_good := lw_in (List.mem_of_getElem? (i := 42) (by decide +kernel)) (by decide +kernel)
theorem wd_420 : (Jvm.Cond.fieldLink "TemplatePress$Template" (11 : Nat) "TemplatePress$Template" "blocks" "[LTemplatePress$Piece;") ∈ lw_good := lw_in (List.mem_of_getElem? (i := 420) (by decide +kernel)) (by decide +kernel)
theorem wd_423 : (Jvm.Cond.fieldLink "TemplatePress$Template" (17 : Nat) "TemplatePress$Template" "base" "I") ∈ lw_good := lw_in (List.mem_of_getElem? (i := 423) (by decide +kernel)) (by decide +kernel)
theorem wd_44 : (Jvm.Cond.classLink "TemplatePress$State" (23 : Nat) "TemplatePress$Numbers") ∈ lw_good := lw_in (List.mem_of_getElem? (i := 44) (by decide +kernel)) (by decide +kernel)
theorem wd_45 : (Jvm.Cond.instantiable "TemplatePress$Numbers" (2 : Nat)) ∈ lw_good := lw_in (List.mem_of_getElem? (i := 45) (by decide +kernel)) (by decide +kernel)
theorem wd_452 : (Jvm.Cond.fieldLink "TemplatePress$Reader" (18 : Nat) "TemplatePress$Reader" "text" "LTemplatePress$Numbers;") ∈ lw_good := lw_in (List.mem_of_getElem? (i := 452) (by decide +kernel)) (by decide +kernel)
theorem wd_453 : (Jvm.Cond.fieldLink "TemplatePress$Reader" (32 : Nat) "TemplatePress$Reader" "into" "LTemplatePress$Template;") ∈ lw_good := lw_in (List.mem_of_getElem? (i := 453) (by decide +kernel)) (by decide +kernel)
theorem wd_454 : (Jvm.Cond.fieldLink "TemplatePress$Reader" (40 : Nat) "TemplatePress$Reader" "at" "I") ∈ lw_good := lw_in (List.mem_of_getElem? (i := 454) (by decide +kernel)) (by decide +kernel)
theorem wd_455 : (Jvm.Cond.fieldLink "TemplatePress$Reader" (9 : Nat) "TemplatePress$Reader" "line" "I") ∈ lw_good := lw_in (List.mem_of_getElem? (i := 455) (by decide +kernel)) (by decide +kernel)
theorem wd_456 : (Jvm.Cond.fieldLink "TemplatePress$Reader" (15 : Nat) "TemplatePress$Reader" "fault" "I") ∈ lw_good := lw_in (List.mem_of_getElem? (i := 456) (by decide +kernel)) (by decide +kernel)
theorem wd_458 : (Jvm.Cond.fieldLink "TemplatePress$Reader" (92 : Nat) "TemplatePress$Reader" "turned" "Z") ∈ lw_good := lw_in (List.mem_of_getElem? (i := 458) (by decide +kernel)) (by decide +kernel)
theorem wd_46 : (Jvm.Cond.methodLink "TemplatePress$State" (25 : Nat) ({ cls := "TemplatePress$Numbers", name := "<init>", desc := "(I)V" } : Jvm.MethodName)) ∈ lw_good := lw_in (List.mem_of_getElem? (i := 46) (by decide +kernel)) (by decide +kernel)
theorem wd_47 : (Jvm.Cond.instanceMethod ({ cls := "TemplatePress$Numbers", name := "<init>", desc := "(I)V" } : Jvm.MethodName)) ∈ lw_good := lw_in (List.mem_of_getElem? (i := 47) (by decide +kernel)) (by decide +kernel)
theorem wd_476 : (Jvm.Cond.methodLink "TemplatePress$Reader" (36 : Nat) ({ cls := "TemplatePress$Numbers", name := "at", desc := "(I)I" } : Jvm.MethodName)) ∈ lw_good := lw_in (List.mem_of_getElem? (i := 476) (by decide +kernel)) (by decide +kernel)
theorem wd_477 : (Jvm.Cond.methodLink "TemplatePress$Reader" (45 : Nat) ({ cls := "TemplatePress$Reader", name := "readOneOf", desc := "(II)I" } : Jvm.MethodName)) ∈ lw_good := lw_in (List.mem_of_getElem? (i := 477) (by decide +kernel)) (by decide +kernel)
theorem wd_479 : (Jvm.Cond.instanceMethod ({ cls := "TemplatePress$Reader", name := "readOneOf", desc := "(II)I" } : Jvm.MethodName)) ∈ lw_good := lw_in (List.mem_of_getElem? (i := 479) (by decide +kernel)) (by decide +kernel)
theorem wd_48 : (Jvm.Cond.code ({ cls := "TemplatePress$Numbers", name := "<init>", desc := "(I)V" } : Jvm.MethodName) prog_7_method_1_code (2 : Nat) (Option.none : Option Jvm.ClassFile.FieldType)) ∈ lw_good := lw_in (List.mem_of_getElem? (i := 48) (by decide +kernel)) (by decide +kernel)
theorem wd_480 : (Jvm.Cond.code ({ cls := "TemplatePress$Reader", name := "readOneOf", desc := "(II)I" } : Jvm.MethodName) prog_9_method_7_code (4 : Nat) (Option.some Jvm.ClassFile.FieldType.int)) ∈ lw_good := lw_in (List.mem_of_getElem? (i := 480) (by decide +kernel)) (by decide +kernel)
theorem wd_481 : (Jvm.Cond.methodLink "TemplatePress$Reader" (77 : Nat) ({ cls := "TemplatePress$Reader", name := "peek", desc := "()I" } : Jvm.MethodName)) ∈ lw_good := lw_in (List.mem_of_getElem? (i := 481) (by decide +kernel)) (by decide +kernel)
theorem wd_483 : (Jvm.Cond.instanceMethod ({ cls := "TemplatePress$Reader", name := "peek", desc := "()I" } : Jvm.MethodName)) ∈ lw_good := lw_in (List.mem_of_getElem? (i := 483) (by decide +kernel)) (by decide +kernel)
theorem wd_484 : (Jvm.Cond.code ({ cls := "TemplatePress$Reader", name := "peek", desc := "()I" } : Jvm.MethodName) prog_9_method_4_code (1 : Nat) (Option.some Jvm.ClassFile.FieldType.int)) ∈ lw_good := lw_in (List.mem_of_getElem? (i := 484) (by decide +kernel)) (by decide +kernel)
theorem wd_486 : (Jvm.Cond.methodLink "TemplatePress$Reader" (70 : Nat) ({ cls := "TemplatePress$Reader", name := "refuse", desc := "()V" } : Jvm.MethodName)) ∈ lw_good := lw_in (List.mem_of_getElem? (i := 486) (by decide +kernel)) (by decide +kernel)
theorem wd_488 : (Jvm.Cond.instanceMethod ({ cls := "TemplatePress$Reader", name := "refuse", desc := "()V" } : Jvm.MethodName)) ∈ lw_good := lw_in (List.mem_of_getElem? (i := 488) (by decide +kernel)) (by decide +kernel)
theorem wd_489 : (Jvm.Cond.code ({ cls := "TemplatePress$Reader", name := "refuse", desc := "()V" } : Jvm.MethodName) prog_9_method_5_code (1 : Nat) (Option.none : Option Jvm.ClassFile.FieldType)) ∈ lw_good := lw_in (List.mem_of_getElem? (i := 489) (by decide +kernel)) (by decide +kernel)
theorem wd_49 : (Jvm.Cond.methodLink "TemplatePress$Numbers" (3 : Nat) ({ cls := "java/lang/Object", name := "<init>", desc := "()V" } : Jvm.MethodName)) ∈ lw_good := lw_in (List.mem_of_getElem? (i := 49) (by decide +kernel)) (by decide +kernel)
theorem wd_490 : (Jvm.Cond.methodLink "TemplatePress$Reader" (52 : Nat) ({ cls := "TemplatePress$Reader", name := "expect", desc := "(I)V" } : Jvm.MethodName)) ∈ lw_good := lw_in (List.mem_of_getElem? (i := 490) (by decide +kernel)) (by decide +kernel)
theorem wd_492 : (Jvm.Cond.instanceMethod ({ cls := "TemplatePress$Reader", name := "expect", desc := "(I)V" } : Jvm.MethodName)) ∈ lw_good := lw_in (List.mem_of_getElem? (i := 492) (by decide +kernel)) (by decide +kernel)
theorem wd_493 : (Jvm.Cond.code ({ cls := "TemplatePress$Reader", name := "expect", desc := "(I)V" } : Jvm.MethodName) prog_9_method_6_code (2 : Nat) (Option.none : Option Jvm.ClassFile.FieldType)) ∈ lw_good := lw_in (List.mem_of_getElem? (i := 493) (by decide +kernel)) (by decide +kernel)
theorem wd_5 : (Jvm.Cond.initialized "TemplatePress$Row") ∈ lw_good := lw_in (List.mem_of_getElem? (i := 5) (by decide +kernel)) (by decide +kernel)
theorem wd_50 : (Jvm.Cond.fieldLink "TemplatePress$Numbers" (9 : Nat) "TemplatePress$Numbers" "items" "[I") ∈ lw_good := lw_in (List.mem_of_getElem? (i := 50) (by decide +kernel)) (by decide +kernel)
theorem wd_510 : (Jvm.Cond.classLink "TemplatePress$Reader" (105 : Nat) "TemplatePress$Piece") ∈ lw_good := lw_in (List.mem_of_getElem? (i := 510) (by decide +kernel)) (by decide +kernel)
theorem wd_511 : (Jvm.Cond.instantiable "TemplatePress$Piece" (9 : Nat)) ∈ lw_good := lw_in (List.mem_of_getElem? (i := 511) (by decide +kernel)) (by decide +kernel)
theorem wd_512 : (Jvm.Cond.methodLink "TemplatePress$Reader" (136 : Nat) ({ cls := "TemplatePress$Piece", name := "<init>", desc := "(II)V" } : Jvm.MethodName)) ∈ lw_good := lw_in (List.mem_of_getElem? (i := 512) (by decide +kernel)) (by decide +kernel)
theorem wd_513 : (Jvm.Cond.instanceMethod ({ cls := "TemplatePress$Piece", name := "<init>", desc := "(II)V" } : Jvm.MethodName)) ∈ lw_good := lw_in (List.mem_of_getElem? (i := 513) (by decide +kernel)) (by decide +kernel)
theorem wd_514 : (Jvm.Cond.code ({ cls := "TemplatePress$Piece", name := "<init>", desc := "(II)V" } : Jvm.MethodName) prog_8_method_1_code (3 : Nat) (Option.none : Option Jvm.ClassFile.FieldType)) ∈ lw_good := lw_in (List.mem_of_getElem? (i := 514) (by decide +kernel)) (by decide +kernel)
theorem wd_515 : (Jvm.Cond.methodLink "TemplatePress$Piece" (1 : Nat) ({ cls := "java/lang/Object", name := "<init>", desc := "()V" } : Jvm.MethodName)) ∈ lw_good := lw_in (List.mem_of_getElem? (i := 515) (by decide +kernel)) (by decide +kernel)
theorem wd_516 : (Jvm.Cond.fieldLink "TemplatePress$Piece" (7 : Nat) "TemplatePress$Piece" "kind" "I") ∈ lw_good := lw_in (List.mem_of_getElem? (i := 516) (by decide +kernel)) (by decide +kernel)
theorem wd_518 : (Jvm.Cond.fieldLink "TemplatePress$Piece" (13 : Nat) "TemplatePress$Piece" "line" "I") ∈ lw_good := lw_in (List.mem_of_getElem? (i := 518) (by decide +kernel)) (by decide +kernel)
theorem wd_54 : (Jvm.Cond.fieldLink "TemplatePress$Numbers" (15 : Nat) "TemplatePress$Numbers" "size" "I") ∈ lw_good := lw_in (List.mem_of_getElem? (i := 54) (by decide +kernel)) (by decide +kernel)
theorem wd_570 : (Jvm.Cond.methodLink "TemplatePress$Expression" (1 : Nat) ({ cls := "java/lang/Object", name := "<init>", desc := "()V" } : Jvm.MethodName)) ∈ lw_good := lw_in (List.mem_of_getElem? (i := 570) (by decide +kernel)) (by decide +kernel)
theorem wd_596 : (Jvm.Cond.classLink "TemplatePress$Reader" (202 : Nat) "TemplatePress$Value") ∈ lw_good := lw_in (List.mem_of_getElem? (i := 596) (by decide +kernel)) (by decide +kernel)
theorem wd_598 : (Jvm.Cond.classLink "TemplatePress$Reader" (25 : Nat) "TemplatePress$Numbers") ∈ lw_good := lw_in (List.mem_of_getElem? (i := 598) (by decide +kernel)) (by decide +kernel)
theorem wd_599 : (Jvm.Cond.methodLink "TemplatePress$Reader" (211 : Nat) ({ cls := "TemplatePress$Numbers", name := "<init>", desc := "(I)V" } : Jvm.MethodName)) ∈ lw_good := lw_in (List.mem_of_getElem? (i := 599) (by decide +kernel)) (by decide +kernel)
theorem wd_6 : (Jvm.Cond.initialized "TemplatePress$Walk") ∈ lw_good := lw_in (List.mem_of_getElem? (i := 6) (by decide +kernel)) (by decide +kernel)
theorem wd_600 : (Jvm.Cond.methodLink "TemplatePress$Reader" (212 : Nat) ({ cls := "TemplatePress$Reader", name := "isTextByte", desc := "(I)Z" } : Jvm.MethodName)) ∈ lw_good := lw_in (List.mem_of_getElem? (i := 600) (by decide +kernel)) (by decide +kernel)
theorem wd_601 : (Jvm.Cond.static ({ cls := "TemplatePress$Reader", name := "isTextByte", desc := "(I)Z" } : Jvm.MethodName)) ∈ lw_good := lw_in (List.mem_of_getElem? (i := 601) (by decide +kernel)) (by decide +kernel)
theorem wd_602 : (Jvm.Cond.code ({ cls := "TemplatePress$Reader", name := "isTextByte", desc := "(I)Z" } : Jvm.MethodName) prog_9_method_26_code (1 : Nat) (Option.some Jvm.ClassFile.FieldType.boolean)) ∈ lw_good := lw_in (List.mem_of_getElem? (i := 602) (by decide +kernel)) (by decide +kernel)
theorem wd_603 : (Jvm.Cond.methodLink "TemplatePress$Reader" (215 : Nat) ({ cls := "TemplatePress$Numbers", name := "add", desc := "(I)Z" } : Jvm.MethodName)) ∈ lw_good := lw_in (List.mem_of_getElem? (i := 603) (by decide +kernel)) (by decide +kernel)
theorem wd_604 : (Jvm.Cond.methodLink "TemplatePress$Reader" (218 : Nat) ({ cls := "TemplatePress$Value", name := "becomeText", desc := "(LTemplatePress$Numbers;)Z" } : Jvm.MethodName)) ∈ lw_good := lw_in (List.mem_of_getElem? (i := 604) (by decide +kernel)) (by decide +kernel)
theorem wd_609 : (Jvm.Cond.methodLink "TemplatePress$Reader" (205 : Nat) ({ cls := "TemplatePress$Reader", name := "readFigures", desc := "()I" } : Jvm.MethodName)) ∈ lw_good := lw_in (List.mem_of_getElem? (i := 609) (by decide +kernel)) (by decide +kernel)
theorem wd_611 : (Jvm.Cond.instanceMethod ({ cls := "TemplatePress$Reader", name := "readFigures", desc := "()I" } : Jvm.MethodName)) ∈ lw_good := lw_in (List.mem_of_getElem? (i := 611) (by decide +kernel)) (by decide +kernel)
theorem wd_612 : (Jvm.Cond.code ({ cls := "TemplatePress$Reader", name := "readFigures", desc := "()I" } : Jvm.MethodName) prog_9_method_9_code (4 : Nat) (Option.some Jvm.ClassFile.FieldType.int)) ∈ lw_good := lw_in (List.mem_of_getElem? (i := 612) (by decide +kernel)) (by decide +kernel)
theorem wd_614 : (Jvm.Cond.static ({ cls := "TemplatePress", name := "isFigure", desc := "(I)Z" } : Jvm.MethodName)) ∈ lw_good := lw_in (List.mem_of_getElem? (i := 614) (by decide +kernel)) (by decide +kernel)
theorem wd_615 : (Jvm.Cond.code ({ cls := "TemplatePress", name := "isFigure", desc := "(I)Z" } : Jvm.MethodName) prog_1_method_33_code (1 : Nat) (Option.some Jvm.ClassFile.FieldType.boolean)) ∈ lw_good := lw_in (List.mem_of_getElem? (i := 615) (by decide +kernel)) (by decide +kernel)
theorem wd_616 : (Jvm.Cond.methodLink "TemplatePress$Reader" (208 : Nat) ({ cls := "TemplatePress$Value", name := "becomeInt", desc := "(I)V" } : Jvm.MethodName)) ∈ lw_good := lw_in (List.mem_of_getElem? (i := 616) (by decide +kernel)) (by decide +kernel)
theorem wd_626 : (Jvm.Cond.static ({ cls := "TemplatePress", name := "isSmall", desc := "(I)Z" } : Jvm.MethodName)) ∈ lw_good := lw_in (List.mem_of_getElem? (i := 626) (by decide +kernel)) (by decide +kernel)
theorem wd_627 : (Jvm.Cond.code ({ cls := "TemplatePress", name := "isSmall", desc := "(I)Z" } : Jvm.MethodName) prog_1_method_34_code (1 : Nat) (Option.some Jvm.ClassFile.FieldType.boolean)) ∈ lw_good := lw_in (List.mem_of_getElem? (i := 627) (by decide +kernel)) (by decide +kernel)
theorem wd_63 : (Jvm.Cond.arrayClass Jvm.ClassFile.FieldType.int) ∈ lw_good := lw_in (List.mem_of_getElem? (i := 63) (by decide +kernel)) (by decide +kernel)
theorem wd_64 : (Jvm.Cond.instantiable "TemplatePress$Value" (5 : Nat)) ∈ lw_good := lw_in (List.mem_of_getElem? (i := 64) (by decide +kernel)) (by decide +kernel)
theorem wd_66 : (Jvm.Cond.instanceMethod ({ cls := "TemplatePress$Value", name := "<init>", desc := "()V" } : Jvm.MethodName)) ∈ lw_good := lw_in (List.mem_of_getElem? (i := 66) (by decide +kernel)) (by decide +kernel)
theorem wd_67 : (Jvm.Cond.code ({ cls := "TemplatePress$Value", name := "<init>", desc := "()V" } : Jvm.MethodName) prog_13_method_1_code (1 : Nat) (Option.none : Option Jvm.ClassFile.FieldType)) ∈ lw_good := lw_in (List.mem_of_getElem? (i := 67) (by decide +kernel)) (by decide +kernel)
theorem wd_68 : (Jvm.Cond.methodLink "TemplatePress$Value" (3 : Nat) ({ cls := "java/lang/Object", name := "<init>", desc := "()V" } : Jvm.MethodName)) ∈ lw_good := lw_in (List.mem_of_getElem? (i := 68) (by decide +kernel)) (by decide +kernel)
theorem wd_691 : (Jvm.Cond.methodLink "TemplatePress$FilterUse" (1 : Nat) ({ cls := "java/lang/Object", name := "<init>", desc := "()V" } : Jvm.MethodName)) ∈ lw_good := lw_in (List.mem_of_getElem? (i := 691) (by decide +kernel)) (by decide +kernel)
theorem wd_692 : (Jvm.Cond.fieldLink "TemplatePress$FilterUse" (7 : Nat) "TemplatePress$FilterUse" "filter" "LTemplatePress$Filter;") ∈ lw_good := lw_in (List.mem_of_getElem? (i := 692) (by decide +kernel)) (by decide +kernel)
theorem wd_7 : (Jvm.Cond.initialized "TemplatePress$Chain") ∈ lw_good := lw_in (List.mem_of_getElem? (i := 7) (by decide +kernel)) (by decide +kernel)
theorem wd_70 : (Jvm.Cond.fieldLink "TemplatePress$Value" (23 : Nat) "TemplatePress$Value" "sort" "I") ∈ lw_good := lw_in (List.mem_of_getElem? (i := 70) (by decide +kernel)) (by decide +kernel)
theorem wd_72 : (Jvm.Cond.fieldLink "TemplatePress$Value" (26 : Nat) "TemplatePress$Value" "number" "I") ∈ lw_good := lw_in (List.mem_of_getElem? (i := 72) (by decide +kernel)) (by decide +kernel)
theorem wd_73 : (Jvm.Cond.fieldLink "TemplatePress$Value" (29 : Nat) "TemplatePress$Value" "real" "F") ∈ lw_good := lw_in (List.mem_of_getElem? (i := 73) (by decide +kernel)) (by decide +kernel)
theorem wd_74 : (Jvm.Cond.fieldLink "TemplatePress$Value" (19 : Nat) "TemplatePress$Value" "size" "I") ∈ lw_good := lw_in (List.mem_of_getElem? (i := 74) (by decide +kernel)) (by decide +kernel)
theorem wd_742 : (Jvm.Cond.methodLink "TemplatePress" (145 : Nat) ({ cls := "TemplatePress$State", name := "held", desc := "(I)LTemplatePress$Template;" } : Jvm.MethodName)) ∈ lw_good := lw_in (List.mem_of_getElem? (i := 742) (by decide +kernel)) (by decide +kernel)
theorem wd_743 : (Jvm.Cond.instanceMethod ({ cls := "TemplatePress$State", name := "held", desc := "(I)LTemplatePress$Template;" } : Jvm.MethodName)) ∈ lw_good := lw_in (List.mem_of_getElem? (i := 743) (by decide +kernel)) (by decide +kernel)
theorem wd_744 : (Jvm.Cond.selects "TemplatePress$State" ({ cls := "TemplatePress$State", name := "held", desc := "(I)LTemplatePress$Template;" } : Jvm.MethodName) ({ cls := "TemplatePress$State", name := "held", desc := "(I)LTemplatePress$Template;" } : Jvm.MethodName)) ∈ lw_good := lw_in (List.mem_of_getElem? (i := 744) (by decide +kernel)) (by decide +kernel)
theorem wd_745 : (Jvm.Cond.code ({ cls := "TemplatePress$State", name := "held", desc := "(I)LTemplatePress$Template;" } : Jvm.MethodName) prog_11_method_3_code (2 : Nat) (Option.some (Jvm.ClassFile.FieldType.object "TemplatePress$Template"))) ∈ lw_good := lw_in (List.mem_of_getElem? (i := 745) (by decide +kernel)) (by decide +kernel)
theorem wd_750 : (Jvm.Cond.methodLink "TemplatePress" (155 : Nat) ({ cls := "TemplatePress$Template", name := "letters", desc := "()I" } : Jvm.MethodName)) ∈ lw_good := lw_in (List.mem_of_getElem? (i := 750) (by decide +kernel)) (by decide +kernel)
theorem wd_751 : (Jvm.Cond.instanceMethod ({ cls := "TemplatePress$Template", name := "letters", desc := "()I" } : Jvm.MethodName)) ∈ lw_good := lw_in (List.mem_of_getElem? (i := 751) (by decide +kernel)) (by decide +kernel)
theorem wd_752 : (Jvm.Cond.selects "TemplatePress$Template" ({ cls := "TemplatePress$Template", name := "letters", desc := "()I" } : Jvm.MethodName) ({ cls := "TemplatePress$Template", name := "letters", desc := "()I" } : Jvm.MethodName)) ∈ lw_good := lw_in (List.mem_of_getElem? (i := 752) (by decide +kernel)) (by decide +kernel)
theorem wd_753 : (Jvm.Cond.code ({ cls := "TemplatePress$Template", name := "letters", desc := "()I" } : Jvm.MethodName) prog_12_method_4_code (3 : Nat) (Option.some Jvm.ClassFile.FieldType.int)) ∈ lw_good := lw_in (List.mem_of_getElem? (i := 753) (by decide +kernel)) (by decide +kernel)
theorem wd_762 : (Jvm.Cond.methodLink "TemplatePress$Walk" (58 : Nat) ({ cls := "TemplatePress$Numbers", name := "empty", desc := "()V" } : Jvm.MethodName)) ∈ lw_good := lw_in (List.mem_of_getElem? (i := 762) (by decide +kernel)) (by decide +kernel)
theorem wd_768 : (Jvm.Cond.methodLink "TemplatePress$Walk" (95 : Nat) ({ cls := "TemplatePress$Walk", name := "fail", desc := "(II)V" } : Jvm.MethodName)) ∈ lw_good := lw_in (List.mem_of_getElem? (i := 768) (by decide +kernel)) (by decide +kernel)
theorem wd_77 : (Jvm.Cond.fieldLink "TemplatePress$Value" (9 : Nat) "TemplatePress$Value" "items" "[I") ∈ lw_good := lw_in (List.mem_of_getElem? (i := 77) (by decide +kernel)) (by decide +kernel)
theorem wd_770 : (Jvm.Cond.instanceMethod ({ cls := "TemplatePress$Walk", name := "fail", desc := "(II)V" } : Jvm.MethodName)) ∈ lw_good := lw_in (List.mem_of_getElem? (i := 770) (by decide +kernel)) (by decide +kernel)
theorem wd_771 : (Jvm.Cond.code ({ cls := "TemplatePress$Walk", name := "fail", desc := "(II)V" } : Jvm.MethodName) prog_14_method_3_code (4 : Nat) (Option.none : Option Jvm.ClassFile.FieldType)) ∈ lw_good := lw_in (List.mem_of_getElem? (i := 771) (by decide +kernel)) (by decide +kernel)
theorem wd_772 : (Jvm.Cond.methodLink "TemplatePress$Walk" (87 : Nat) ({ cls := "TemplatePress$Chain", name := "tell", desc := "(LTemplatePress$Numbers;II)V" } : Jvm.MethodName)) ∈ lw_good := lw_in (List.mem_of_getElem? (i := 772) (by decide +kernel)) (by decide +kernel)
theorem wd_773 : (Jvm.Cond.instanceMethod ({ cls := "TemplatePress$Chain", name := "tell", desc := "(LTemplatePress$Numbers;II)V" } : Jvm.MethodName)) ∈ lw_good := lw_in (List.mem_of_getElem? (i := 773) (by decide +kernel)) (by decide +kernel)
theorem wd_774 : (Jvm.Cond.selects "TemplatePress$Chain" ({ cls := "TemplatePress$Chain", name := "tell", desc := "(LTemplatePress$Numbers;II)V" } : Jvm.MethodName) ({ cls := "TemplatePress$Chain", name := "tell", desc := "(LTemplatePress$Numbers;II)V" } : Jvm.MethodName)) ∈ lw_good := lw_in (List.mem_of_getElem? (i := 774) (by decide +kernel)) (by decide +kernel)
theorem wd_775 : (Jvm.Cond.code ({ cls := "TemplatePress$Chain", name := "tell", desc := "(LTemplatePress$Numbers;II)V" } : Jvm.MethodName) prog_3_method_5_code (5 : Nat) (Option.none : Option Jvm.ClassFile.FieldType)) ∈ lw_good := lw_in (List.mem_of_getElem? (i := 775) (by decide +kernel)) (by decide +kernel)
theorem wd_776 : (Jvm.Cond.methodLink "TemplatePress$Chain" (29 : Nat) ({ cls := "TemplatePress$Chain", name := "at", desc := "(I)I" } : Jvm.MethodName)) ∈ lw_good := lw_in (List.mem_of_getElem? (i := 776) (by decide +kernel)) (by decide +kernel)
theorem wd_777 : (Jvm.Cond.instanceMethod ({ cls := "TemplatePress$Chain", name := "at", desc := "(I)I" } : Jvm.MethodName)) ∈ lw_good := lw_in (List.mem_of_getElem? (i := 777) (by decide +kernel)) (by decide +kernel)
theorem wd_778 : (Jvm.Cond.selects "TemplatePress$Chain" ({ cls := "TemplatePress$Chain", name := "at", desc := "(I)I" } : Jvm.MethodName) ({ cls := "TemplatePress$Chain", name := "at", desc := "(I)I" } : Jvm.MethodName)) ∈ lw_good := lw_in (List.mem_of_getElem? (i := 778) (by decide +kernel)) (by decide +kernel)
theorem wd_779 : (Jvm.Cond.code ({ cls := "TemplatePress$Chain", name := "at", desc := "(I)I" } : Jvm.MethodName) prog_3_method_4_code (2 : Nat) (Option.some Jvm.ClassFile.FieldType.int)) ∈ lw_good := lw_in (List.mem_of_getElem? (i := 779) (by decide +kernel)) (by decide +kernel)
theorem wd_780 : (Jvm.Cond.methodLink "TemplatePress$Chain" (33 : Nat) ({ cls := "TemplatePress$Numbers", name := "addLink", desc := "(III)V" } : Jvm.MethodName)) ∈ lw_good := lw_in (List.mem_of_getElem? (i := 780) (by decide +kernel)) (by decide +kernel)
theorem wd_781 : (Jvm.Cond.instanceMethod ({ cls := "TemplatePress$Numbers", name := "addLink", desc := "(III)V" } : Jvm.MethodName)) ∈ lw_good := lw_in (List.mem_of_getElem? (i := 781) (by decide +kernel)) (by decide +kernel)
theorem wd_782 : (Jvm.Cond.selects "TemplatePress$Numbers" ({ cls := "TemplatePress$Numbers", name := "addLink", desc := "(III)V" } : Jvm.MethodName) ({ cls := "TemplatePress$Numbers", name := "addLink", desc := "(III)V" } : Jvm.MethodName)) ∈ lw_good := lw_in (List.mem_of_getElem? (i := 782) (by decide +kernel)) (by decide +kernel)
theorem wd_783 : (Jvm.Cond.code ({ cls := "TemplatePress$Numbers", name := "addLink", desc := "(III)V" } : Jvm.MethodName) prog_7_method_4_code (4 : Nat) (Option.none : Option Jvm.ClassFile.FieldType)) ∈ lw_good := lw_in (List.mem_of_getElem? (i := 783) (by decide +kernel)) (by decide +kernel)
theorem wd_788 : (Jvm.Cond.methodLink "TemplatePress$Walk" (116 : Nat) ({ cls := "TemplatePress$Chain", name := "begin", desc := "()V" } : Jvm.MethodName)) ∈ lw_good := lw_in (List.mem_of_getElem? (i := 788) (by decide +kernel)) (by decide +kernel)
theorem wd_789 : (Jvm.Cond.instanceMethod ({ cls := "TemplatePress$Chain", name := "begin", desc := "()V" } : Jvm.MethodName)) ∈ lw_good := lw_in (List.mem_of_getElem? (i := 789) (by decide +kernel)) (by decide +kernel)
theorem wd_790 : (Jvm.Cond.selects "TemplatePress$Chain" ({ cls := "TemplatePress$Chain", name := "begin", desc := "()V" } : Jvm.MethodName) ({ cls := "TemplatePress$Chain", name := "begin", desc := "()V" } : Jvm.MethodName)) ∈ lw_good := lw_in (List.mem_of_getElem? (i := 790) (by decide +kernel)) (by decide +kernel)
theorem wd_791 : (Jvm.Cond.code ({ cls := "TemplatePress$Chain", name := "begin", desc := "()V" } : Jvm.MethodName) prog_3_method_2_code (1 : Nat) (Option.none : Option Jvm.ClassFile.FieldType)) ∈ lw_good := lw_in (List.mem_of_getElem? (i := 791) (by decide +kernel)) (by decide +kernel)
theorem wd_792 : (Jvm.Cond.methodLink "TemplatePress$Walk" (119 : Nat) ({ cls := "TemplatePress$Chain", name := "add", desc := "(I)V" } : Jvm.MethodName)) ∈ lw_good := lw_in (List.mem_of_getElem? (i := 792) (by decide +kernel)) (by decide +kernel)
theorem wd_793 : (Jvm.Cond.instanceMethod ({ cls := "TemplatePress$Chain", name := "add", desc := "(I)V" } : Jvm.MethodName)) ∈ lw_good := lw_in (List.mem_of_getElem? (i := 793) (by decide +kernel)) (by decide +kernel)
theorem wd_794 : (Jvm.Cond.selects "TemplatePress$Chain" ({ cls := "TemplatePress$Chain", name := "add", desc := "(I)V" } : Jvm.MethodName) ({ cls := "TemplatePress$Chain", name := "add", desc := "(I)V" } : Jvm.MethodName)) ∈ lw_good := lw_in (List.mem_of_getElem? (i := 794) (by decide +kernel)) (by decide +kernel)
theorem wd_795 : (Jvm.Cond.code ({ cls := "TemplatePress$Chain", name := "add", desc := "(I)V" } : Jvm.MethodName) prog_3_method_3_code (2 : Nat) (Option.none : Option Jvm.ClassFile.FieldType)) ∈ lw_good := lw_in (List.mem_of_getElem? (i := 795) (by decide +kernel)) (by decide +kernel)
theorem wd_797 : (Jvm.Cond.methodLink "TemplatePress$Walk" (122 : Nat) ({ cls := "TemplatePress$State", name := "held", desc := "(I)LTemplatePress$Template;" } : Jvm.MethodName)) ∈ lw_good := lw_in (List.mem_of_getElem? (i := 797) (by decide +kernel)) (by decide +kernel)
theorem wd_8 : (Jvm.Cond.initialized "TemplatePressModel") ∈ lw_good := lw_in (List.mem_of_getElem? (i := 8) (by decide +kernel)) (by decide +kernel)
theorem wd_806 : (Jvm.Cond.methodLink "TemplatePress$Walk" (154 : Nat) ({ cls := "TemplatePress$Walk", name := "putByte", desc := "(II)V" } : Jvm.MethodName)) ∈ lw_good := lw_in (List.mem_of_getElem? (i := 806) (by decide +kernel)) (by decide +kernel)
theorem wd_808 : (Jvm.Cond.instanceMethod ({ cls := "TemplatePress$Walk", name := "putByte", desc := "(II)V" } : Jvm.MethodName)) ∈ lw_good := lw_in (List.mem_of_getElem? (i := 808) (by decide +kernel)) (by decide +kernel)
theorem wd_809 : (Jvm.Cond.code ({ cls := "TemplatePress$Walk", name := "putByte", desc := "(II)V" } : Jvm.MethodName) prog_14_method_22_code (3 : Nat) (Option.none : Option Jvm.ClassFile.FieldType)) ∈ lw_good := lw_in (List.mem_of_getElem? (i := 809) (by decide +kernel)) (by decide +kernel)
theorem wd_810 : (Jvm.Cond.methodLink "TemplatePress$Walk" (291 : Nat) ({ cls := "TemplatePress$Numbers", name := "add", desc := "(I)Z" } : Jvm.MethodName)) ∈ lw_good := lw_in (List.mem_of_getElem? (i := 810) (by decide +kernel)) (by decide +kernel)
theorem wd_822 : (Jvm.Cond.methodLink "TemplatePress$Walk" (237 : Nat) ({ cls := "TemplatePress$State", name := "variable", desc := "(I)LTemplatePress$Value;" } : Jvm.MethodName)) ∈ lw_good := lw_in (List.mem_of_getElem? (i := 822) (by decide +kernel)) (by decide +kernel)
theorem wd_824 : (Jvm.Cond.methodLink "TemplatePress$Walk" (240 : Nat) ({ cls := "TemplatePress$Value", name := "copy", desc := "(LTemplatePress$Value;)V" } : Jvm.MethodName)) ∈ lw_good := lw_in (List.mem_of_getElem? (i := 824) (by decide +kernel)) (by decide +kernel)
theorem wd_825 : (Jvm.Cond.instanceMethod ({ cls := "TemplatePress$Value", name := "copy", desc := "(LTemplatePress$Value;)V" } : Jvm.MethodName)) ∈ lw_good := lw_in (List.mem_of_getElem? (i := 825) (by decide +kernel)) (by decide +kernel)
theorem wd_826 : (Jvm.Cond.selects "TemplatePress$Value" ({ cls := "TemplatePress$Value", name := "copy", desc := "(LTemplatePress$Value;)V" } : Jvm.MethodName) ({ cls := "TemplatePress$Value", name := "copy", desc := "(LTemplatePress$Value;)V" } : Jvm.MethodName)) ∈ lw_good := lw_in (List.mem_of_getElem? (i := 826) (by decide +kernel)) (by decide +kernel)
theorem wd_827 : (Jvm.Cond.code ({ cls := "TemplatePress$Value", name := "copy", desc := "(LTemplatePress$Value;)V" } : Jvm.MethodName) prog_13_method_5_code (2 : Nat) (Option.none : Option Jvm.ClassFile.FieldType)) ∈ lw_good := lw_in (List.mem_of_getElem? (i := 827) (by decide +kernel)) (by decide +kernel)
theorem wd_828 : (Jvm.Cond.methodLink "TemplatePress$Value" (33 : Nat) ({ cls := "java/lang/System", name := "arraycopy", desc := "(Ljava/lang/Object;ILjava/lang/Object;II)V" } : Jvm.MethodName)) ∈ lw_good := lw_in (List.mem_of_getElem? (i := 828) (by decide +kernel)) (by decide +kernel)
theorem wd_829 : (Jvm.Cond.static ({ cls := "java/lang/System", name := "arraycopy", desc := "(Ljava/lang/Object;ILjava/lang/Object;II)V" } : Jvm.MethodName)) ∈ lw_good := lw_in (List.mem_of_getElem? (i := 829) (by decide +kernel)) (by decide +kernel)
theorem wd_830 : (Jvm.Cond.native ({ cls := "java/lang/System", name := "arraycopy", desc := "(Ljava/lang/Object;ILjava/lang/Object;II)V" } : Jvm.MethodName)) ∈ lw_good := lw_in (List.mem_of_getElem? (i := 830) (by decide +kernel)) (by decide +kernel)
theorem wd_837 : (Jvm.Cond.methodLink "TemplatePress$Value" (124 : Nat) ({ cls := "TemplatePress$Value", name := "becomeInt", desc := "(I)V" } : Jvm.MethodName)) ∈ lw_good := lw_in (List.mem_of_getElem? (i := 837) (by decide +kernel)) (by decide +kernel)
theorem wd_854 : (Jvm.Cond.methodLink "TemplatePress$Value" (62 : Nat) ({ cls := "TemplatePress$Value", name := "isInt", desc := "(J)Z" } : Jvm.MethodName)) ∈ lw_good := lw_in (List.mem_of_getElem? (i := 854) (by decide +kernel)) (by decide +kernel)
theorem wd_860 : (Jvm.Cond.constant "TemplatePress$Value" (81 : Nat) (1000000 : Int32)) ∈ lw_good := lw_in (List.mem_of_getElem? (i := 860) (by decide +kernel)) (by decide +kernel)
theorem wd_861 : (Jvm.Cond.constant "TemplatePress$Value" (82 : Nat) (1048576 : Int32)) ∈ lw_good := lw_in (List.mem_of_getElem? (i := 861) (by decide +kernel)) (by decide +kernel)
theorem wd_873 : (Jvm.Cond.static ({ cls := "TemplatePress", name := "isGreat", desc := "(I)Z" } : Jvm.MethodName)) ∈ lw_good := lw_in (List.mem_of_getElem? (i := 873) (by decide +kernel)) (by decide +kernel)
theorem wd_874 : (Jvm.Cond.code ({ cls := "TemplatePress", name := "isGreat", desc := "(I)Z" } : Jvm.MethodName) prog_1_method_35_code (1 : Nat) (Option.some Jvm.ClassFile.FieldType.boolean)) ∈ lw_good := lw_in (List.mem_of_getElem? (i := 874) (by decide +kernel)) (by decide +kernel)
theorem wd_879 : (Jvm.Cond.methodLink "TemplatePress$Value" (204 : Nat) ({ cls := "java/lang/Math", name := "max", desc := "(II)I" } : Jvm.MethodName)) ∈ lw_good := lw_in (List.mem_of_getElem? (i := 879) (by decide +kernel)) (by decide +kernel)
theorem wd_880 : (Jvm.Cond.static ({ cls := "java/lang/Math", name := "max", desc := "(II)I" } : Jvm.MethodName)) ∈ lw_good := lw_in (List.mem_of_getElem? (i := 880) (by decide +kernel)) (by decide +kernel)
theorem wd_881 : (Jvm.Cond.code ({ cls := "java/lang/Math", name := "max", desc := "(II)I" } : Jvm.MethodName) prog_21_method_65_code (2 : Nat) (Option.some Jvm.ClassFile.FieldType.int)) ∈ lw_good := lw_in (List.mem_of_getElem? (i := 881) (by decide +kernel)) (by decide +kernel)
theorem wd_89 : (Jvm.Cond.fieldLink "TemplatePress$State" (11 : Nat) "TemplatePress$State" "values" "[LTemplatePress$Value;") ∈ lw_good := lw_in (List.mem_of_getElem? (i := 89) (by decide +kernel)) (by decide +kernel)
theorem wd_891 : (Jvm.Cond.methodLink "TemplatePress$Value" (191 : Nat) ({ cls := "TemplatePress$Value", name := "exchange", desc := "(II)V" } : Jvm.MethodName)) ∈ lw_good := lw_in (List.mem_of_getElem? (i := 891) (by decide +kernel)) (by decide +kernel)
theorem wd_893 : (Jvm.Cond.instanceMethod ({ cls := "TemplatePress$Value", name := "exchange", desc := "(II)V" } : Jvm.MethodName)) ∈ lw_good := lw_in (List.mem_of_getElem? (i := 893) (by decide +kernel)) (by decide +kernel)
theorem wd_894 : (Jvm.Cond.code ({ cls := "TemplatePress$Value", name := "exchange", desc := "(II)V" } : Jvm.MethodName) prog_13_method_33_code (4 : Nat) (Option.none : Option Jvm.ClassFile.FieldType)) ∈ lw_good := lw_in (List.mem_of_getElem? (i := 894) (by decide +kernel)) (by decide +kernel)
theorem wd_9 : (Jvm.Cond.initialized "java/lang/Math") ∈ lw_good := lw_in (List.mem_of_getElem? (i := 9) (by decide +kernel)) (by decide +kernel)
theorem wd_90 : (Jvm.Cond.fieldLink "TemplatePress$State" (19 : Nat) "TemplatePress$State" "templates" "[LTemplatePress$Template;") ∈ lw_good := lw_in (List.mem_of_getElem? (i := 90) (by decide +kernel)) (by decide +kernel)
theorem wd_904 : (Jvm.Cond.methodLink "TemplatePress$Value" (198 : Nat) ({ cls := "TemplatePress$Value", name := "becomeNothing", desc := "()V" } : Jvm.MethodName)) ∈ lw_good := lw_in (List.mem_of_getElem? (i := 904) (by decide +kernel)) (by decide +kernel)
theorem wd_919 : (Jvm.Cond.methodLink "TemplatePress$Walk" (281 : Nat) ({ cls := "TemplatePress$Walk", name := "wordFor", desc := "(II)I" } : Jvm.MethodName)) ∈ lw_good := lw_in (List.mem_of_getElem? (i := 919) (by decide +kernel)) (by decide +kernel)
theorem wd_92 : (Jvm.Cond.fieldLink "TemplatePress$State" (28 : Nat) "TemplatePress$State" "sheet" "LTemplatePress$Numbers;") ∈ lw_good := lw_in (List.mem_of_getElem? (i := 92) (by decide +kernel)) (by decide +kernel)
theorem wd_920 : (Jvm.Cond.static ({ cls := "TemplatePress$Walk", name := "wordFor", desc := "(II)I" } : Jvm.MethodName)) ∈ lw_good := lw_in (List.mem_of_getElem? (i := 920) (by decide +kernel)) (by decide +kernel)
theorem wd_921 : (Jvm.Cond.code ({ cls := "TemplatePress$Walk", name := "wordFor", desc := "(II)I" } : Jvm.MethodName) prog_14_method_24_code (2 : Nat) (Option.some Jvm.ClassFile.FieldType.int)) ∈ lw_good := lw_in (List.mem_of_getElem? (i := 921) (by decide +kernel)) (by decide +kernel)
theorem wd_922 : (Jvm.Cond.methodLink "TemplatePress$Walk" (284 : Nat) ({ cls := "TemplatePress$Walk", name := "isPlainInTag", desc := "(I)Z" } : Jvm.MethodName)) ∈ lw_good := lw_in (List.mem_of_getElem? (i := 922) (by decide +kernel)) (by decide +kernel)
theorem wd_923 : (Jvm.Cond.static ({ cls := "TemplatePress$Walk", name := "isPlainInTag", desc := "(I)Z" } : Jvm.MethodName)) ∈ lw_good := lw_in (List.mem_of_getElem? (i := 923) (by decide +kernel)) (by decide +kernel)
theorem wd_924 : (Jvm.Cond.code ({ cls := "TemplatePress$Walk", name := "isPlainInTag", desc := "(I)Z" } : Jvm.MethodName) prog_14_method_25_code (1 : Nat) (Option.some Jvm.ClassFile.FieldType.boolean)) ∈ lw_good := lw_in (List.mem_of_getElem? (i := 924) (by decide +kernel)) (by decide +kernel)
theorem wd_94 : (Jvm.Cond.fieldLink "TemplatePress$State" (32 : Nat) "TemplatePress$State" "limit" "I") ∈ lw_good := lw_in (List.mem_of_getElem? (i := 94) (by decide +kernel)) (by decide +kernel)
theorem wd_953 : (Jvm.Cond.methodLink "TemplatePress$Value" (83 : Nat) ({ cls := "TemplatePress$Value", name := "compareItems", desc := "(LTemplatePress$Value;)I" } : Jvm.MethodName)) ∈ lw_good := lw_in (List.mem_of_getElem? (i := 953) (by decide +kernel)) (by decide +kernel)
theorem wd_955 : (Jvm.Cond.instanceMethod ({ cls := "TemplatePress$Value", name := "compareItems", desc := "(LTemplatePress$Value;)I" } : Jvm.MethodName)) ∈ lw_good := lw_in (List.mem_of_getElem? (i := 955) (by decide +kernel)) (by decide +kernel)
theorem wd_956 : (Jvm.Cond.code ({ cls := "TemplatePress$Value", name := "compareItems", desc := "(LTemplatePress$Value;)I" } : Jvm.MethodName) prog_13_method_19_code (4 : Nat) (Option.some Jvm.ClassFile.FieldType.int)) ∈ lw_good := lw_in (List.mem_of_getElem? (i := 956) (by decide +kernel)) (by decide +kernel)
theorem wd_957 : (Jvm.Cond.methodLink "TemplatePress$Value" (91 : Nat) ({ cls := "java/lang/Integer", name := "compare", desc := "(II)I" } : Jvm.MethodName)) ∈ lw_good := lw_in (List.mem_of_getElem? (i := 957) (by decide +kernel)) (by decide +kernel)
theorem wd_958 : (Jvm.Cond.static ({ cls := "java/lang/Integer", name := "compare", desc := "(II)I" } : Jvm.MethodName)) ∈ lw_good := lw_in (List.mem_of_getElem? (i := 958) (by decide +kernel)) (by decide +kernel)
theorem wd_959 : (Jvm.Cond.code ({ cls := "java/lang/Integer", name := "compare", desc := "(II)I" } : Jvm.MethodName) prog_20_method_40_code (2 : Nat) (Option.some Jvm.ClassFile.FieldType.int)) ∈ lw_good := lw_in (List.mem_of_getElem? (i := 959) (by decide +kernel)) (by decide +kernel)
theorem wd_960 : (Jvm.Cond.methodLink "TemplatePress$Value" (87 : Nat) ({ cls := "TemplatePress$Value", name := "isNumeric", desc := "()Z" } : Jvm.MethodName)) ∈ lw_good := lw_in (List.mem_of_getElem? (i := 960) (by decide +kernel)) (by decide +kernel)
theorem wd_962 : (Jvm.Cond.instanceMethod ({ cls := "TemplatePress$Value", name := "isNumeric", desc := "()Z" } : Jvm.MethodName)) ∈ lw_good := lw_in (List.mem_of_getElem? (i := 962) (by decide +kernel)) (by decide +kernel)
theorem wd_963 : (Jvm.Cond.code ({ cls := "TemplatePress$Value", name := "isNumeric", desc := "()Z" } : Jvm.MethodName) prog_13_method_18_code (1 : Nat) (Option.some Jvm.ClassFile.FieldType.boolean)) ∈ lw_good := lw_in (List.mem_of_getElem? (i := 963) (by decide +kernel)) (by decide +kernel)
theorem wn_1066 : (Jvm.Cond.methodLinkNest "TemplatePress$Row" (35 : Nat) ({ cls := "TemplatePress", name := "among", desc := "(II)Z" } : Jvm.MethodName) "TemplatePress") ∈ g_nest := List.mem_filter.mpr ⟨List.mem_of_getElem? (i := 1066) (by decide +kernel), rfl⟩
theorem wn_111 : (Jvm.Cond.methodLinkNest "TemplatePress" (21 : Nat) ({ cls := "TemplatePress$Row", name := "<init>", desc := "()V" } : Jvm.MethodName) "TemplatePress") ∈ g_nest := List.mem_filter.mpr ⟨List.mem_of_getElem? (i := 111) (by decide +kernel), rfl⟩
theorem wn_116 : (Jvm.Cond.fieldLinkNest "TemplatePress" (236 : Nat) "TemplatePress$Row" "sort" "I" "TemplatePress") ∈ g_nest := List.mem_filter.mpr ⟨List.mem_of_getElem? (i := 116) (by decide +kernel), rfl⟩
theorem wn_118 : (Jvm.Cond.fieldLinkNest "TemplatePress" (226 : Nat) "TemplatePress$Row" "size" "I" "TemplatePress") ∈ g_nest := List.mem_filter.mpr ⟨List.mem_of_getElem? (i := 118) (by decide +kernel), rfl⟩
theorem wn_132 : (Jvm.Cond.methodLinkNest "TemplatePress" (41 : Nat) ({ cls := "TemplatePress$Value", name := "<init>", desc := "()V" } : Jvm.MethodName) "TemplatePress") ∈ g_nest := List.mem_filter.mpr ⟨List.mem_of_getElem? (i := 132) (by decide +kernel), rfl⟩
theorem wn_142 : (Jvm.Cond.methodLinkNest "TemplatePress$Walk" (23 : Nat) ({ cls := "TemplatePress$Value", name := "<init>", desc := "()V" } : Jvm.MethodName) "TemplatePress") ∈ g_nest := List.mem_filter.mpr ⟨List.mem_of_getElem? (i := 142) (by decide +kernel), rfl⟩
theorem wn_146 : (Jvm.Cond.methodLinkNest "TemplatePress$Walk" (57 : Nat) ({ cls := "TemplatePress$Chain", name := "<init>", desc := "()V" } : Jvm.MethodName) "TemplatePress") ∈ g_nest := List.mem_filter.mpr ⟨List.mem_of_getElem? (i := 146) (by decide +kernel), rfl⟩
theorem wn_157 : (Jvm.Cond.fieldLinkNest "TemplatePress$Walk" (84 : Nat) "TemplatePress$Chain" "partLine" "I" "TemplatePress") ∈ g_nest := List.mem_filter.mpr ⟨List.mem_of_getElem? (i := 157) (by decide +kernel), rfl⟩
theorem wn_267 : (Jvm.Cond.methodLinkNest "TemplatePress$State" (37 : Nat) ({ cls := "TemplatePress", name := "among", desc := "(II)Z" } : Jvm.MethodName) "TemplatePress") ∈ g_nest := List.mem_filter.mpr ⟨List.mem_of_getElem? (i := 267) (by decide +kernel), rfl⟩
theorem wn_419 : (Jvm.Cond.fieldLinkNest "TemplatePress" (164 : Nat) "TemplatePress$Template" "size" "I" "TemplatePress") ∈ g_nest := List.mem_filter.mpr ⟨List.mem_of_getElem? (i := 419) (by decide +kernel), rfl⟩
theorem wn_425 : (Jvm.Cond.fieldLinkNest "TemplatePress$Walk" (128 : Nat) "TemplatePress$Template" "base" "I" "TemplatePress") ∈ g_nest := List.mem_filter.mpr ⟨List.mem_of_getElem? (i := 425) (by decide +kernel), rfl⟩
theorem wn_426 : (Jvm.Cond.fieldLinkNest "TemplatePress" (152 : Nat) "TemplatePress$Template" "base" "I" "TemplatePress") ∈ g_nest := List.mem_filter.mpr ⟨List.mem_of_getElem? (i := 426) (by decide +kernel), rfl⟩
theorem wn_428 : (Jvm.Cond.fieldLinkNest "TemplatePress" (140 : Nat) "TemplatePress$Template" "nodes" "I" "TemplatePress") ∈ g_nest := List.mem_filter.mpr ⟨List.mem_of_getElem? (i := 428) (by decide +kernel), rfl⟩
theorem wn_430 : (Jvm.Cond.fieldLinkNest "TemplatePress" (149 : Nat) "TemplatePress$Template" "lines" "I" "TemplatePress") ∈ g_nest := List.mem_filter.mpr ⟨List.mem_of_getElem? (i := 430) (by decide +kernel), rfl⟩
theorem wn_431 : (Jvm.Cond.fieldLinkNest "TemplatePress" (158 : Nat) "TemplatePress$Template" "parts" "I" "TemplatePress") ∈ g_nest := List.mem_filter.mpr ⟨List.mem_of_getElem? (i := 431) (by decide +kernel), rfl⟩
theorem wn_432 : (Jvm.Cond.fieldLinkNest "TemplatePress$Reader" (176 : Nat) "TemplatePress$Template" "parts" "I" "TemplatePress") ∈ g_nest := List.mem_filter.mpr ⟨List.mem_of_getElem? (i := 432) (by decide +kernel), rfl⟩
theorem wn_433 : (Jvm.Cond.fieldLinkNest "TemplatePress$Reader" (85 : Nat) "TemplatePress$Template" "names" "I" "TemplatePress") ∈ g_nest := List.mem_filter.mpr ⟨List.mem_of_getElem? (i := 433) (by decide +kernel), rfl⟩
theorem wn_434 : (Jvm.Cond.fieldLinkNest "TemplatePress" (161 : Nat) "TemplatePress$Template" "names" "I" "TemplatePress") ∈ g_nest := List.mem_filter.mpr ⟨List.mem_of_getElem? (i := 434) (by decide +kernel), rfl⟩
theorem wn_485 : (Jvm.Cond.methodLinkNest "TemplatePress$Reader" (81 : Nat) ({ cls := "TemplatePress", name := "among", desc := "(II)Z" } : Jvm.MethodName) "TemplatePress") ∈ g_nest := List.mem_filter.mpr ⟨List.mem_of_getElem? (i := 485) (by decide +kernel), rfl⟩
theorem wn_52 : (Jvm.Cond.fieldLinkNest "TemplatePress$Reader" (73 : Nat) "TemplatePress$Numbers" "items" "[I" "TemplatePress") ∈ g_nest := List.mem_filter.mpr ⟨List.mem_of_getElem? (i := 52) (by decide +kernel), rfl⟩
theorem wn_521 : (Jvm.Cond.fieldLinkNest "TemplatePress$Reader" (147 : Nat) "TemplatePress$Piece" "sign" "I" "TemplatePress") ∈ g_nest := List.mem_filter.mpr ⟨List.mem_of_getElem? (i := 521) (by decide +kernel), rfl⟩
theorem wn_53 : (Jvm.Cond.fieldLinkNest "TemplatePress$Reader" (24 : Nat) "TemplatePress$Numbers" "size" "I" "TemplatePress") ∈ g_nest := List.mem_filter.mpr ⟨List.mem_of_getElem? (i := 53) (by decide +kernel), rfl⟩
theorem wn_55 : (Jvm.Cond.fieldLinkNest "TemplatePress$Value" (49 : Nat) "TemplatePress$Numbers" "size" "I" "TemplatePress") ∈ g_nest := List.mem_filter.mpr ⟨List.mem_of_getElem? (i := 55) (by decide +kernel), rfl⟩
theorem wn_56 : (Jvm.Cond.fieldLinkNest "TemplatePress" (123 : Nat) "TemplatePress$Numbers" "size" "I" "TemplatePress") ∈ g_nest := List.mem_filter.mpr ⟨List.mem_of_getElem? (i := 56) (by decide +kernel), rfl⟩
theorem wn_57 : (Jvm.Cond.fieldLinkNest "TemplatePress$Walk" (276 : Nat) "TemplatePress$Numbers" "size" "I" "TemplatePress") ∈ g_nest := List.mem_filter.mpr ⟨List.mem_of_getElem? (i := 57) (by decide +kernel), rfl⟩
theorem wn_597 : (Jvm.Cond.methodLinkNest "TemplatePress$Reader" (204 : Nat) ({ cls := "TemplatePress$Value", name := "<init>", desc := "()V" } : Jvm.MethodName) "TemplatePress") ∈ g_nest := List.mem_filter.mpr ⟨List.mem_of_getElem? (i := 597) (by decide +kernel), rfl⟩
theorem wn_613 : (Jvm.Cond.methodLinkNest "TemplatePress$Reader" (88 : Nat) ({ cls := "TemplatePress", name := "isFigure", desc := "(I)Z" } : Jvm.MethodName) "TemplatePress") ∈ g_nest := List.mem_filter.mpr ⟨List.mem_of_getElem? (i := 613) (by decide +kernel), rfl⟩
theorem wn_625 : (Jvm.Cond.methodLinkNest "TemplatePress$Reader" (244 : Nat) ({ cls := "TemplatePress", name := "isSmall", desc := "(I)Z" } : Jvm.MethodName) "TemplatePress") ∈ g_nest := List.mem_filter.mpr ⟨List.mem_of_getElem? (i := 625) (by decide +kernel), rfl⟩
theorem wn_65 : (Jvm.Cond.methodLinkNest "TemplatePress$State" (36 : Nat) ({ cls := "TemplatePress$Value", name := "<init>", desc := "()V" } : Jvm.MethodName) "TemplatePress") ∈ g_nest := List.mem_filter.mpr ⟨List.mem_of_getElem? (i := 65) (by decide +kernel), rfl⟩
theorem wn_69 : (Jvm.Cond.fieldLinkNest "TemplatePress" (63 : Nat) "TemplatePress$Value" "sort" "I" "TemplatePress") ∈ g_nest := List.mem_filter.mpr ⟨List.mem_of_getElem? (i := 69) (by decide +kernel), rfl⟩
theorem wn_721 : (Jvm.Cond.methodLinkNest "TemplatePress$Template" (24 : Nat) ({ cls := "TemplatePress", name := "among", desc := "(II)Z" } : Jvm.MethodName) "TemplatePress") ∈ g_nest := List.mem_filter.mpr ⟨List.mem_of_getElem? (i := 721) (by decide +kernel), rfl⟩
theorem wn_75 : (Jvm.Cond.fieldLinkNest "TemplatePress" (91 : Nat) "TemplatePress$Value" "size" "I" "TemplatePress") ∈ g_nest := List.mem_filter.mpr ⟨List.mem_of_getElem? (i := 75) (by decide +kernel), rfl⟩
theorem wn_767 : (Jvm.Cond.methodLinkNest "TemplatePress$Walk" (91 : Nat) ({ cls := "TemplatePress", name := "among", desc := "(II)Z" } : Jvm.MethodName) "TemplatePress") ∈ g_nest := List.mem_filter.mpr ⟨List.mem_of_getElem? (i := 767) (by decide +kernel), rfl⟩
theorem wn_796 : (Jvm.Cond.methodLinkNest "TemplatePress$Chain" (25 : Nat) ({ cls := "TemplatePress", name := "among", desc := "(II)Z" } : Jvm.MethodName) "TemplatePress") ∈ g_nest := List.mem_filter.mpr ⟨List.mem_of_getElem? (i := 796) (by decide +kernel), rfl⟩
theorem wn_886 : (Jvm.Cond.methodLinkNest "TemplatePress$Value" (201 : Nat) ({ cls := "TemplatePress", name := "isFigure", desc := "(I)Z" } : Jvm.MethodName) "TemplatePress") ∈ g_nest := List.mem_filter.mpr ⟨List.mem_of_getElem? (i := 886) (by decide +kernel), rfl⟩
theorem wn_903 : (Jvm.Cond.methodLinkNest "TemplatePress$Value" (194 : Nat) ({ cls := "TemplatePress", name := "among", desc := "(II)Z" } : Jvm.MethodName) "TemplatePress") ∈ g_nest := List.mem_filter.mpr ⟨List.mem_of_getElem? (i := 903) (by decide +kernel), rfl⟩
theorem wn_91 : (Jvm.Cond.fieldLinkNest "TemplatePress" (136 : Nat) "TemplatePress$State" "templates" "[LTemplatePress$Template;" "TemplatePress") ∈ g_nest := List.mem_filter.mpr ⟨List.mem_of_getElem? (i := 91) (by decide +kernel), rfl⟩
theorem wn_925 : (Jvm.Cond.methodLinkNest "TemplatePress$Walk" (293 : Nat) ({ cls := "TemplatePress", name := "isFigure", desc := "(I)Z" } : Jvm.MethodName) "TemplatePress") ∈ g_nest := List.mem_filter.mpr ⟨List.mem_of_getElem? (i := 925) (by decide +kernel), rfl⟩
theorem wn_926 : (Jvm.Cond.methodLinkNest "TemplatePress$Walk" (296 : Nat) ({ cls := "TemplatePress", name := "isSmall", desc := "(I)Z" } : Jvm.MethodName) "TemplatePress") ∈ g_nest := List.mem_filter.mpr ⟨List.mem_of_getElem? (i := 926) (by decide +kernel), rfl⟩
theorem wn_927 : (Jvm.Cond.methodLinkNest "TemplatePress$Walk" (299 : Nat) ({ cls := "TemplatePress", name := "isGreat", desc := "(I)Z" } : Jvm.MethodName) "TemplatePress") ∈ g_nest := List.mem_filter.mpr ⟨List.mem_of_getElem? (i := 927) (by decide +kernel), rfl⟩
theorem wn_93 : (Jvm.Cond.fieldLinkNest "TemplatePress" (185 : Nat) "TemplatePress$State" "sheet" "LTemplatePress$Numbers;" "TemplatePress") ∈ g_nest := List.mem_filter.mpr ⟨List.mem_of_getElem? (i := 93) (by decide +kernel), rfl⟩
theorem wn_95 : (Jvm.Cond.fieldLinkNest "TemplatePress" (209 : Nat) "TemplatePress$State" "limit" "I" "TemplatePress") ∈ g_nest := List.mem_filter.mpr ⟨List.mem_of_getElem? (i := 95) (by decide +kernel), rfl⟩
theorem wn_96 : (Jvm.Cond.fieldLinkNest "TemplatePress$Walk" (288 : Nat) "TemplatePress$State" "limit" "I" "TemplatePress") ∈ g_nest := List.mem_filter.mpr ⟨List.mem_of_getElem? (i := 96) (by decide +kernel), rfl⟩
theorem ws_0 : (Cond.selects "TemplatePress$Value" ({ cls := "TemplatePress$Value", name := "resize", desc := "(I)V" } : MethodName) ({ cls := "TemplatePress$Value", name := "resize", desc := "(I)V" } : MethodName)) ∈ lw_good := lw_inp (List.mem_of_getElem? (i := 0) (by decide +kernel)) (by decide +kernel)
theorem ws_1 : (Cond.selects "TemplatePress" ({ cls := "TemplatePress", name := "showFigures", desc := "(LTemplatePress$Value;)I" } : MethodName) ({ cls := "TemplatePress", name := "showFigures", desc := "(LTemplatePress$Value;)I" } : MethodName)) ∈ lw_good := lw_inp (List.mem_of_getElem? (i := 1) (by decide +kernel)) (by decide +kernel)
theorem ws_100 : (Cond.selects "TemplatePressModel" ({ cls := "TemplatePressModel", name := "isInt", desc := "(II)V" } : MethodName) ({ cls := "TemplatePressModel", name := "isInt", desc := "(II)V" } : MethodName)) ∈ lw_good := lw_inp (List.mem_of_getElem? (i := 100) (by decide +kernel)) (by decide +kernel)
theorem ws_101 : (Cond.selects "TemplatePressModel" ({ cls := "TemplatePressModel", name := "figuresAt", desc := "(I)I" } : MethodName) ({ cls := "TemplatePressModel", name := "figuresAt", desc := "(I)I" } : MethodName)) ∈ lw_good := lw_inp (List.mem_of_getElem? (i := 101) (by decide +kernel)) (by decide +kernel)
theorem ws_106 : (Cond.selects "TemplatePressModel" ({ cls := "TemplatePressModel", name := "isReal", desc := "(IF)V" } : MethodName) ({ cls := "TemplatePressModel", name := "isReal", desc := "(IF)V" } : MethodName)) ∈ lw_good := lw_inp (List.mem_of_getElem? (i := 106) (by decide +kernel)) (by decide +kernel)
theorem ws_110 : (Cond.selects "TemplatePressModel" ({ cls := "TemplatePressModel", name := "becomes", desc := "(IJ)I" } : MethodName) ({ cls := "TemplatePressModel", name := "becomes", desc := "(IJ)I" } : MethodName)) ∈ lw_good := lw_inp (List.mem_of_getElem? (i := 110) (by decide +kernel)) (by decide +kernel)
theorem ws_113 : (Cond.selects "TemplatePressModel" ({ cls := "TemplatePressModel", name := "isTrue", desc := "(I)Z" } : MethodName) ({ cls := "TemplatePressModel", name := "isTrue", desc := "(I)Z" } : MethodName)) ∈ lw_good := lw_inp (List.mem_of_getElem? (i := 113) (by decide +kernel)) (by decide +kernel)
theorem ws_128 : (Cond.selects "TemplatePressModel" ({ cls := "TemplatePressModel", name := "showsValue", desc := "(I)V" } : MethodName) ({ cls := "TemplatePressModel", name := "showsValue", desc := "(I)V" } : MethodName)) ∈ lw_good := lw_inp (List.mem_of_getElem? (i := 128) (by decide +kernel)) (by decide +kernel)
theorem ws_129 : (Cond.selects "TemplatePressModel" ({ cls := "TemplatePressModel", name := "showsInt", desc := "(I)V" } : MethodName) ({ cls := "TemplatePressModel", name := "showsInt", desc := "(I)V" } : MethodName)) ∈ lw_good := lw_inp (List.mem_of_getElem? (i := 129) (by decide +kernel)) (by decide +kernel)
theorem ws_130 : (Cond.selects "TemplatePressModel" ({ cls := "TemplatePressModel", name := "shows", desc := "(I)V" } : MethodName) ({ cls := "TemplatePressModel", name := "shows", desc := "(I)V" } : MethodName)) ∈ lw_good := lw_inp (List.mem_of_getElem? (i := 130) (by decide +kernel)) (by decide +kernel)
theorem ws_131 : (Cond.selects "TemplatePressModel" ({ cls := "TemplatePressModel", name := "showsReal", desc := "(F)V" } : MethodName) ({ cls := "TemplatePressModel", name := "showsReal", desc := "(F)V" } : MethodName)) ∈ lw_good := lw_inp (List.mem_of_getElem? (i := 131) (by decide +kernel)) (by decide +kernel)
theorem ws_133 : (Cond.selects "TemplatePressModel" ({ cls := "TemplatePressModel", name := "puts", desc := "(I)Z" } : MethodName) ({ cls := "TemplatePressModel", name := "puts", desc := "(I)Z" } : MethodName)) ∈ lw_good := lw_inp (List.mem_of_getElem? (i := 133) (by decide +kernel)) (by decide +kernel)
theorem ws_134 : (Cond.selects "TemplatePressModel" ({ cls := "TemplatePressModel", name := "isRoom", desc := "()Z" } : MethodName) ({ cls := "TemplatePressModel", name := "isRoom", desc := "()Z" } : MethodName)) ∈ lw_good := lw_inp (List.mem_of_getElem? (i := 134) (by decide +kernel)) (by decide +kernel)
theorem ws_135 : (Cond.selects "TemplatePressModel" ({ cls := "TemplatePressModel", name := "putsNamed", desc := "(I)Z" } : MethodName) ({ cls := "TemplatePressModel", name := "putsNamed", desc := "(I)Z" } : MethodName)) ∈ lw_good := lw_inp (List.mem_of_getElem? (i := 135) (by decide +kernel)) (by decide +kernel)
theorem ws_137 : (Cond.selects "TemplatePressModel" ({ cls := "TemplatePressModel", name := "withText", desc := "()I" } : MethodName) ({ cls := "TemplatePressModel", name := "withText", desc := "()I" } : MethodName)) ∈ lw_good := lw_inp (List.mem_of_getElem? (i := 137) (by decide +kernel)) (by decide +kernel)
theorem ws_138 : (Cond.selects "TemplatePressModel" ({ cls := "TemplatePressModel", name := "onPage", desc := "(Z)I" } : MethodName) ({ cls := "TemplatePressModel", name := "onPage", desc := "(Z)I" } : MethodName)) ∈ lw_good := lw_inp (List.mem_of_getElem? (i := 138) (by decide +kernel)) (by decide +kernel)
theorem ws_141 : (Cond.selects "TemplatePressModel" ({ cls := "TemplatePressModel", name := "wrong", desc := "(I)I" } : MethodName) ({ cls := "TemplatePressModel", name := "wrong", desc := "(I)I" } : MethodName)) ∈ lw_good := lw_inp (List.mem_of_getElem? (i := 141) (by decide +kernel)) (by decide +kernel)
theorem ws_142 : (Cond.selects "TemplatePressModel" ({ cls := "TemplatePressModel", name := "holds", desc := "(IIJ)V" } : MethodName) ({ cls := "TemplatePressModel", name := "holds", desc := "(IIJ)V" } : MethodName)) ∈ lw_good := lw_inp (List.mem_of_getElem? (i := 142) (by decide +kernel)) (by decide +kernel)
theorem ws_143 : (Cond.selects "TemplatePressModel" ({ cls := "TemplatePressModel", name := "copiesItem", desc := "(IIII)V" } : MethodName) ({ cls := "TemplatePressModel", name := "copiesItem", desc := "(IIII)V" } : MethodName)) ∈ lw_good := lw_inp (List.mem_of_getElem? (i := 143) (by decide +kernel)) (by decide +kernel)
theorem ws_144 : (Cond.selects "TemplatePressModel" ({ cls := "TemplatePressModel", name := "cast", desc := "(II)I" } : MethodName) ({ cls := "TemplatePressModel", name := "cast", desc := "(II)I" } : MethodName)) ∈ lw_good := lw_inp (List.mem_of_getElem? (i := 144) (by decide +kernel)) (by decide +kernel)
theorem ws_17 : (Cond.selects "TemplatePress$Reader" ({ cls := "TemplatePress$Reader", name := "readFigures", desc := "()I" } : MethodName) ({ cls := "TemplatePress$Reader", name := "readFigures", desc := "()I" } : MethodName)) ∈ lw_good := lw_inp (List.mem_of_getElem? (i := 17) (by decide +kernel)) (by decide +kernel)
theorem ws_2 : (Cond.selects "TemplatePress$Value" ({ cls := "TemplatePress$Value", name := "showReal", desc := "(LTemplatePress$Numbers;)V" } : MethodName) ({ cls := "TemplatePress$Value", name := "showReal", desc := "(LTemplatePress$Numbers;)V" } : MethodName)) ∈ lw_good := lw_inp (List.mem_of_getElem? (i := 2) (by decide +kernel)) (by decide +kernel)
theorem ws_29 : (Cond.selects "TemplatePress$Walk" ({ cls := "TemplatePress$Walk", name := "fail", desc := "(II)V" } : MethodName) ({ cls := "TemplatePress$Walk", name := "fail", desc := "(II)V" } : MethodName)) ∈ lw_good := lw_inp (List.mem_of_getElem? (i := 29) (by decide +kernel)) (by decide +kernel)
theorem ws_3 : (Cond.selects "TemplatePress$Reader" ({ cls := "TemplatePress$Reader", name := "readOneOf", desc := "(II)I" } : MethodName) ({ cls := "TemplatePress$Reader", name := "readOneOf", desc := "(II)I" } : MethodName)) ∈ lw_good := lw_inp (List.mem_of_getElem? (i := 3) (by decide +kernel)) (by decide +kernel)
theorem ws_33 : (Cond.selects "TemplatePress$Walk" ({ cls := "TemplatePress$Walk", name := "putByte", desc := "(II)V" } : MethodName) ({ cls := "TemplatePress$Walk", name := "putByte", desc := "(II)V" } : MethodName)) ∈ lw_good := lw_inp (List.mem_of_getElem? (i := 33) (by decide +kernel)) (by decide +kernel)
theorem ws_4 : (Cond.selects "TemplatePress$Reader" ({ cls := "TemplatePress$Reader", name := "peek", desc := "()I" } : MethodName) ({ cls := "TemplatePress$Reader", name := "peek", desc := "()I" } : MethodName)) ∈ lw_good := lw_inp (List.mem_of_getElem? (i := 4) (by decide +kernel)) (by decide +kernel)
theorem ws_43 : (Cond.selects "TemplatePress$Value" ({ cls := "TemplatePress$Value", name := "exchange", desc := "(II)V" } : MethodName) ({ cls := "TemplatePress$Value", name := "exchange", desc := "(II)V" } : MethodName)) ∈ lw_good := lw_inp (List.mem_of_getElem? (i := 43) (by decide +kernel)) (by decide +kernel)
theorem ws_5 : (Cond.selects "TemplatePress$Reader" ({ cls := "TemplatePress$Reader", name := "refuse", desc := "()V" } : MethodName) ({ cls := "TemplatePress$Reader", name := "refuse", desc := "()V" } : MethodName)) ∈ lw_good := lw_inp (List.mem_of_getElem? (i := 5) (by decide +kernel)) (by decide +kernel)
theorem ws_54 : (Cond.selects "TemplatePress$Value" ({ cls := "TemplatePress$Value", name := "compareItems", desc := "(LTemplatePress$Value;)I" } : MethodName) ({ cls := "TemplatePress$Value", name := "compareItems", desc := "(LTemplatePress$Value;)I" } : MethodName)) ∈ lw_good := lw_inp (List.mem_of_getElem? (i := 54) (by decide +kernel)) (by decide +kernel)
theorem ws_55 : (Cond.selects "TemplatePress$Value" ({ cls := "TemplatePress$Value", name := "isNumeric", desc := "()Z" } : MethodName) ({ cls := "TemplatePress$Value", name := "isNumeric", desc := "()Z" } : MethodName)) ∈ lw_good := lw_inp (List.mem_of_getElem? (i := 55) (by decide +kernel)) (by decide +kernel)
theorem ws_6 : (Cond.selects "TemplatePress$Reader" ({ cls := "TemplatePress$Reader", name := "expect", desc := "(I)V" } : MethodName) ({ cls := "TemplatePress$Reader", name := "expect", desc := "(I)V" } : MethodName)) ∈ lw_good := lw_inp (List.mem_of_getElem? (i := 6) (by decide +kernel)) (by decide +kernel)
theorem ws_65 : (Cond.selects "TemplatePressModel" ({ cls := "TemplatePressModel", name := "here", desc := "()I" } : MethodName) ({ cls := "TemplatePressModel", name := "here", desc := "()I" } : MethodName)) ∈ lw_good := lw_inp (List.mem_of_getElem? (i := 65) (by decide +kernel)) (by decide +kernel)
theorem ws_66 : (Cond.selects "TemplatePressModel" ({ cls := "TemplatePressModel", name := "fails", desc := "(I)Z" } : MethodName) ({ cls := "TemplatePressModel", name := "fails", desc := "(I)Z" } : MethodName)) ∈ lw_good := lw_inp (List.mem_of_getElem? (i := 66) (by decide +kernel)) (by decide +kernel)
theorem ws_72 : (Cond.selects "TemplatePressModel" ({ cls := "TemplatePressModel", name := "isSign", desc := "(I)Z" } : MethodName) ({ cls := "TemplatePressModel", name := "isSign", desc := "(I)Z" } : MethodName)) ∈ lw_good := lw_inp (List.mem_of_getElem? (i := 72) (by decide +kernel)) (by decide +kernel)
theorem ws_81 : (Cond.selects "TemplatePressModel" ({ cls := "TemplatePressModel", name := "extended", desc := "(I)I" } : MethodName) ({ cls := "TemplatePressModel", name := "extended", desc := "(I)I" } : MethodName)) ∈ lw_good := lw_inp (List.mem_of_getElem? (i := 81) (by decide +kernel)) (by decide +kernel)
theorem ws_82 : (Cond.selects "TemplatePressModel" ({ cls := "TemplatePressModel", name := "signsBehind", desc := "(III)I" } : MethodName) ({ cls := "TemplatePressModel", name := "signsBehind", desc := "(III)I" } : MethodName)) ∈ lw_good := lw_inp (List.mem_of_getElem? (i := 82) (by decide +kernel)) (by decide +kernel)
theorem ws_87 : (Cond.selects "TemplatePressModel" ({ cls := "TemplatePressModel", name := "faults", desc := "(IIII)V" } : MethodName) ({ cls := "TemplatePressModel", name := "faults", desc := "(IIII)V" } : MethodName)) ∈ lw_good := lw_inp (List.mem_of_getElem? (i := 87) (by decide +kernel)) (by decide +kernel)
theorem ws_88 : (Cond.selects "TemplatePressModel" ({ cls := "TemplatePressModel", name := "linksBases", desc := "(II)V" } : MethodName) ({ cls := "TemplatePressModel", name := "linksBases", desc := "(II)V" } : MethodName)) ∈ lw_good := lw_inp (List.mem_of_getElem? (i := 88) (by decide +kernel)) (by decide +kernel)
theorem ws_89 : (Cond.selects "TemplatePressModel" ({ cls := "TemplatePressModel", name := "links", desc := "(III)V" } : MethodName) ({ cls := "TemplatePressModel", name := "links", desc := "(III)V" } : MethodName)) ∈ lw_good := lw_inp (List.mem_of_getElem? (i := 89) (by decide +kernel)) (by decide +kernel)
theorem ws_93 : (Cond.selects "TemplatePressModel" ({ cls := "TemplatePressModel", name := "byteAt", desc := "(II)I" } : MethodName) ({ cls := "TemplatePressModel", name := "byteAt", desc := "(II)I" } : MethodName)) ∈ lw_good := lw_inp (List.mem_of_getElem? (i := 93) (by decide +kernel)) (by decide +kernel)
theorem ws_99 : (Cond.selects "TemplatePressModel" ({ cls := "TemplatePressModel", name := "copies", desc := "(II)V" } : MethodName) ({ cls := "TemplatePressModel", name := "copies", desc := "(II)V" } : MethodName)) ∈ lw_good := lw_inp (List.mem_of_getElem? (i := 99) (by decide +kernel)) (by decide +kernel)
theorem gu_0 : ∀ w ∈ u_ws RX1 TX1 5, w ∈ lw_good := by
  intro w hw
  refine lw_in2 (inX1 w hw) ?_
  obtain ⟨k, hk, rfl⟩ := List.mem_map.mp hw
  unfold u_lay
  by_cases hq : (TX1 k).2.2.2 = true
  · rw [if_pos hq]; rfl
  · rw [if_neg hq]; rfl
theorem gu_10 : ∀ w ∈ u_ws RX11 TX11 5, w ∈ lw_good := by
  intro w hw
  refine lw_in2 (inX11 w hw) ?_
  obtain ⟨k, hk, rfl⟩ := List.mem_map.mp hw
  unfold u_lay
  by_cases hq : (TX11 k).2.2.2 = true
  · rw [if_pos hq]; rfl
  · rw [if_neg hq]; rfl
theorem gu_11 : ∀ w ∈ u_ws RX12 TX12 18, w ∈ lw_good := by
  intro w hw
  refine lw_in2 (inX12 w hw) ?_
  obtain ⟨k, hk, rfl⟩ := List.mem_map.mp hw
  unfold u_lay
  by_cases hq : (TX12 k).2.2.2 = true
  · rw [if_pos hq]; rfl
  · rw [if_neg hq]; rfl
theorem gu_12 : ∀ w ∈ u_ws RX13 TX13 10, w ∈ lw_good := by
  intro w hw
  refine lw_in2 (inX13 w hw) ?_
  obtain ⟨k, hk, rfl⟩ := List.mem_map.mp hw
  unfold u_lay
  by_cases hq : (TX13 k).2.2.2 = true
  · rw [if_pos hq]; rfl
  · rw [if_neg hq]; rfl
theorem gu_13 : ∀ w ∈ u_ws RX14 TX14 63, w ∈ lw_good := by
  intro w hw
  refine lw_in2 (inX14 w hw) ?_
  obtain ⟨k, hk, rfl⟩ := List.mem_map.mp hw
  unfold u_lay
  by_cases hq : (TX14 k).2.2.2 = true
  · rw [if_pos hq]; rfl
  · rw [if_neg hq]; rfl
theorem gu_3 : ∀ w ∈ u_ws RX4 TX4 3, w ∈ lw_good := by
  intro w hw
  refine lw_in2 (inX4 w hw) ?_
  obtain ⟨k, hk, rfl⟩ := List.mem_map.mp hw
  unfold u_lay
  by_cases hq : (TX4 k).2.2.2 = true
  · rw [if_pos hq]; rfl
  · rw [if_neg hq]; rfl
theorem gu_4 : ∀ w ∈ u_ws RX5 TX5 2, w ∈ lw_good := by
  intro w hw
  refine lw_in2 (inX5 w hw) ?_
  obtain ⟨k, hk, rfl⟩ := List.mem_map.mp hw
  unfold u_lay
  by_cases hq : (TX5 k).2.2.2 = true
  · rw [if_pos hq]; rfl
  · rw [if_neg hq]; rfl
theorem gu_5 : ∀ w ∈ u_ws RX6 TX6 9, w ∈ lw_good := by
  intro w hw
  refine lw_in2 (inX6 w hw) ?_
  obtain ⟨k, hk, rfl⟩ := List.mem_map.mp hw
  unfold u_lay
  by_cases hq : (TX6 k).2.2.2 = true
  · rw [if_pos hq]; rfl
  · rw [if_neg hq]; rfl
theorem gu_6 : ∀ w ∈ u_ws RX7 TX7 6, w ∈ lw_good := by
  intro w hw
  refine lw_in2 (inX7 w hw) ?_
  obtain ⟨k, hk, rfl⟩ := List.mem_map.mp hw
  unfold u_lay
  by_cases hq : (TX7 k).2.2.2 = true
  · rw [if_pos hq]; rfl
  · rw [if_neg hq]; rfl
theorem gu_7 : ∀ w ∈ u_ws RX8 TX8 4, w ∈ lw_good := by
  intro w hw
  refine lw_in2 (inX8 w hw) ?_
  obtain ⟨k, hk, rfl⟩ := List.mem_map.mp hw
  unfold u_lay
  by_cases hq : (TX8 k).2.2.2 = true
  · rw [if_pos hq]; rfl
  · rw [if_neg hq]; rfl
theorem gu_8 : ∀ w ∈ u_ws RX9 TX9 4, w ∈ lw_good := by
  intro w hw
  refine lw_in2 (inX9 w hw) ?_
  obtain ⟨k, hk, rfl⟩ := List.mem_map.mp hw
  unfold u_lay
  by_cases hq : (TX9 k).2.2.2 = true
  · rw [if_pos hq]; rfl
  · rw [if_neg hq]; rfl
theorem gu_9 : ∀ w ∈ u_ws RX10 TX10 8, w ∈ lw_good := by
  intro w hw
  refine lw_in2 (inX10 w hw) ?_
  obtain ⟨k, hk, rfl⟩ := List.mem_map.mp hw
  unfold u_lay
  by_cases hq : (TX10 k).2.2.2 = true
  · rw [if_pos hq]; rfl
  · rw [if_neg hq]; rfl
theorem cw_X10_24 : g_cw RX10 24 yX13_among cX13_among 2 (Option.some Jvm.ClassFile.FieldType.boolean) 2 := ⟨Or.inr ⟨_, wn_721⟩, wd_269, wd_1, by decide +kernel, by decide +kernel, by decide +kernel⟩
theorem cw_X11_101 : g_cw RX11 101 yX11_showReal cX11_showReal 5 (Option.none : Option Jvm.ClassFile.FieldType) 1 := ⟨Or.inl wd_364, wd_367, wd_4, by decide +kernel, by decide +kernel, by decide +kernel⟩
theorem cw_X11_105 : g_cw RX11 105 yX5_add cX5_add 2 (Option.some Jvm.ClassFile.FieldType.boolean) 1 := ⟨Or.inl wd_357, wd_360, wd_3, by decide +kernel, by decide +kernel, by decide +kernel⟩
theorem cw_X11_124 : g_cw RX11 124 yX11_becomeInt cX11_becomeInt 2 (Option.none : Option Jvm.ClassFile.FieldType) 1 := ⟨Or.inl wd_837, wd_286, wd_4, by decide +kernel, by decide +kernel, by decide +kernel⟩
theorem cw_X11_191 : g_cw RX11 191 yX11_exchange cX11_exchange 4 (Option.none : Option Jvm.ClassFile.FieldType) 2 := ⟨Or.inl wd_891, wd_894, wd_4, by decide +kernel, by decide +kernel, by decide +kernel⟩
theorem cw_X11_194 : g_cw RX11 194 yX13_among cX13_among 2 (Option.some Jvm.ClassFile.FieldType.boolean) 2 := ⟨Or.inr ⟨_, wn_903⟩, wd_269, wd_1, by decide +kernel, by decide +kernel, by decide +kernel⟩
theorem cw_X11_198 : g_cw RX11 198 yX11_becomeNothing cX11_becomeNothing 1 (Option.none : Option Jvm.ClassFile.FieldType) 0 := ⟨Or.inl wd_904, wd_273, wd_4, by decide +kernel, by decide +kernel, by decide +kernel⟩
theorem cw_X11_201 : g_cw RX11 201 yX13_isFigure cX13_isFigure 1 (Option.some Jvm.ClassFile.FieldType.boolean) 1 := ⟨Or.inr ⟨_, wn_886⟩, wd_615, wd_1, by decide +kernel, by decide +kernel, by decide +kernel⟩
theorem cw_X11_204 : g_cw RX11 204 yJ9_max_7cf53 cJ9_max_7cf53 2 (Option.some Jvm.ClassFile.FieldType.int) 2 := ⟨Or.inl wd_879, wd_881, wd_9, by decide +kernel, by decide +kernel, by decide +kernel⟩
theorem cw_X11_41 : g_cw RX11 41 yX11_resize cX11_resize 2 (Option.none : Option Jvm.ClassFile.FieldType) 1 := ⟨Or.inl wd_305, wd_308, wd_4, by decide +kernel, by decide +kernel, by decide +kernel⟩
theorem cw_X11_45 : g_cw RX11 45 yX11_put cX11_put 3 (Option.none : Option Jvm.ClassFile.FieldType) 2 := ⟨Or.inl wd_316, wd_319, wd_4, by decide +kernel, by decide +kernel, by decide +kernel⟩
theorem cw_X11_52 : g_cw RX11 52 yX5_at cX5_at 2 (Option.some Jvm.ClassFile.FieldType.int) 1 := ⟨Or.inl wd_312, wd_315, wd_3, by decide +kernel, by decide +kernel, by decide +kernel⟩
theorem cw_X11_56 : g_cw RX11 56 yJ9_min_7cf53 cJ9_min_7cf53 2 (Option.some Jvm.ClassFile.FieldType.int) 2 := ⟨Or.inl wd_309, wd_311, wd_9, by decide +kernel, by decide +kernel, by decide +kernel⟩
theorem cw_X11_62 : g_cw RX11 62 yX11_isInt cX11_isInt 2 (Option.some Jvm.ClassFile.FieldType.boolean) 1 := ⟨Or.inl wd_854, wd_280, wd_4, by decide +kernel, by decide +kernel, by decide +kernel⟩
theorem cw_X11_66 : g_cw RX11 66 yX11_bitsOf cX11_bitsOf 5 (Option.some Jvm.ClassFile.FieldType.int) 1 := ⟨Or.inl wd_374, wd_376, wd_4, by decide +kernel, by decide +kernel, by decide +kernel⟩
theorem cw_X11_78 : g_cw RX11 78 yJ9_abs_0f7a4 cJ9_abs_0f7a4 1 (Option.some Jvm.ClassFile.FieldType.int) 1 := ⟨Or.inl wd_361, wd_363, wd_9, by decide +kernel, by decide +kernel, by decide +kernel⟩
theorem cw_X11_83 : g_cw RX11 83 yX11_compareItems cX11_compareItems 4 (Option.some Jvm.ClassFile.FieldType.int) 1 := ⟨Or.inl wd_953, wd_956, wd_4, by decide +kernel, by decide +kernel, by decide +kernel⟩
theorem cw_X11_87 : g_cw RX11 87 yX11_isNumeric cX11_isNumeric 1 (Option.some Jvm.ClassFile.FieldType.boolean) 0 := ⟨Or.inl wd_960, wd_963, wd_4, by decide +kernel, by decide +kernel, by decide +kernel⟩
theorem cw_X11_91 : g_cw RX11 91 yJ6_compare_7cf53 cJ6_compare_7cf53 2 (Option.some Jvm.ClassFile.FieldType.int) 2 := ⟨Or.inl wd_957, wd_959, wd_24, by decide +kernel, by decide +kernel, by decide +kernel⟩
theorem cw_X11_96 : g_cw RX11 96 yX11_at cX11_at 2 (Option.some Jvm.ClassFile.FieldType.int) 1 := ⟨Or.inl wd_369, wd_340, wd_4, by decide +kernel, by decide +kernel, by decide +kernel⟩
theorem cw_X11_97 : g_cw RX11 97 yX11_showInt cX11_showInt 5 (Option.none : Option Jvm.ClassFile.FieldType) 2 := ⟨Or.inl wd_354, wd_356, wd_4, by decide +kernel, by decide +kernel, by decide +kernel⟩
theorem cw_X12_116 : g_cw RX12 116 yX1_begin cX1_begin 1 (Option.none : Option Jvm.ClassFile.FieldType) 0 := ⟨Or.inl wd_788, wd_791, wd_7, by decide +kernel, by decide +kernel, by decide +kernel⟩
theorem cw_X12_119 : g_cw RX12 119 yX1_add cX1_add 2 (Option.none : Option Jvm.ClassFile.FieldType) 1 := ⟨Or.inl wd_792, wd_795, wd_7, by decide +kernel, by decide +kernel, by decide +kernel⟩
theorem cw_X12_122 : g_cw RX12 122 yX9_held cX9_held 2 (Option.some (Jvm.ClassFile.FieldType.object "TemplatePress$Template")) 1 := ⟨Or.inl wd_797, wd_745, wd_2, by decide +kernel, by decide +kernel, by decide +kernel⟩
theorem cw_X12_154 : g_cw RX12 154 yX12_putByte cX12_putByte 3 (Option.none : Option Jvm.ClassFile.FieldType) 2 := ⟨Or.inl wd_806, wd_809, wd_6, by decide +kernel, by decide +kernel, by decide +kernel⟩
theorem cw_X12_23 : g_cw RX12 23 yX11_init cX11_init 1 (Option.none : Option Jvm.ClassFile.FieldType) 0 := ⟨Or.inr ⟨_, wn_142⟩, wd_67, wd_4, by decide +kernel, by decide +kernel, by decide +kernel⟩
theorem cw_X12_237 : g_cw RX12 237 yX9_variable cX9_variable 2 (Option.some (Jvm.ClassFile.FieldType.object "TemplatePress$Value")) 1 := ⟨Or.inl wd_822, wd_266, wd_2, by decide +kernel, by decide +kernel, by decide +kernel⟩
theorem cw_X12_240 : g_cw RX12 240 yX11_copy cX11_copy 2 (Option.none : Option Jvm.ClassFile.FieldType) 1 := ⟨Or.inl wd_824, wd_827, wd_4, by decide +kernel, by decide +kernel, by decide +kernel⟩
theorem cw_X12_281 : g_cw RX12 281 yX12_wordFor cX12_wordFor 2 (Option.some Jvm.ClassFile.FieldType.int) 2 := ⟨Or.inl wd_919, wd_921, wd_6, by decide +kernel, by decide +kernel, by decide +kernel⟩
theorem cw_X12_284 : g_cw RX12 284 yX12_isPlainInTag cX12_isPlainInTag 1 (Option.some Jvm.ClassFile.FieldType.boolean) 1 := ⟨Or.inl wd_922, wd_924, wd_6, by decide +kernel, by decide +kernel, by decide +kernel⟩
theorem cw_X12_291 : g_cw RX12 291 yX5_add cX5_add 2 (Option.some Jvm.ClassFile.FieldType.boolean) 1 := ⟨Or.inl wd_810, wd_360, wd_3, by decide +kernel, by decide +kernel, by decide +kernel⟩
theorem cw_X12_293 : g_cw RX12 293 yX13_isFigure cX13_isFigure 1 (Option.some Jvm.ClassFile.FieldType.boolean) 1 := ⟨Or.inr ⟨_, wn_925⟩, wd_615, wd_1, by decide +kernel, by decide +kernel, by decide +kernel⟩
theorem cw_X12_296 : g_cw RX12 296 yX13_isSmall cX13_isSmall 1 (Option.some Jvm.ClassFile.FieldType.boolean) 1 := ⟨Or.inr ⟨_, wn_926⟩, wd_627, wd_1, by decide +kernel, by decide +kernel, by decide +kernel⟩
theorem cw_X12_299 : g_cw RX12 299 yX13_isGreat cX13_isGreat 1 (Option.some Jvm.ClassFile.FieldType.boolean) 1 := ⟨Or.inr ⟨_, wn_927⟩, wd_874, wd_1, by decide +kernel, by decide +kernel, by decide +kernel⟩
theorem cw_X12_33 : g_cw RX12 33 yX5_init cX5_init 2 (Option.none : Option Jvm.ClassFile.FieldType) 1 := ⟨Or.inl wd_144, wd_48, wd_3, by decide +kernel, by decide +kernel, by decide +kernel⟩
theorem cw_X12_57 : g_cw RX12 57 yX1_init cX1_init 1 (Option.none : Option Jvm.ClassFile.FieldType) 0 := ⟨Or.inr ⟨_, wn_146⟩, wd_148, wd_7, by decide +kernel, by decide +kernel, by decide +kernel⟩
theorem cw_X12_58 : g_cw RX12 58 yX5_empty cX5_empty 1 (Option.none : Option Jvm.ClassFile.FieldType) 0 := ⟨Or.inl wd_762, wd_323, wd_3, by decide +kernel, by decide +kernel, by decide +kernel⟩
theorem cw_X12_87 : g_cw RX12 87 yX1_tell cX1_tell 5 (Option.none : Option Jvm.ClassFile.FieldType) 3 := ⟨Or.inl wd_772, wd_775, wd_7, by decide +kernel, by decide +kernel, by decide +kernel⟩
theorem cw_X12_91 : g_cw RX12 91 yX13_among cX13_among 2 (Option.some Jvm.ClassFile.FieldType.boolean) 2 := ⟨Or.inr ⟨_, wn_767⟩, wd_269, wd_1, by decide +kernel, by decide +kernel, by decide +kernel⟩
theorem cw_X12_95 : g_cw RX12 95 yX12_fail cX12_fail 4 (Option.none : Option Jvm.ClassFile.FieldType) 2 := ⟨Or.inl wd_768, wd_771, wd_6, by decide +kernel, by decide +kernel, by decide +kernel⟩
theorem cw_X13_102 : g_cw RX13 102 yX11_put cX11_put 3 (Option.none : Option Jvm.ClassFile.FieldType) 2 := ⟨Or.inl wd_341, wd_319, wd_4, by decide +kernel, by decide +kernel, by decide +kernel⟩
theorem cw_X13_106 : g_cw RX13 106 yX13_showFigures cX13_showFigures 2 (Option.some Jvm.ClassFile.FieldType.int) 1 := ⟨Or.inl wd_346, wd_349, wd_1, by decide +kernel, by decide +kernel, by decide +kernel⟩
theorem cw_X13_11 : g_cw RX13 11 yX9_init cX9_init 2 (Option.none : Option Jvm.ClassFile.FieldType) 0 := ⟨Or.inl wd_36, wd_38, wd_2, by decide +kernel, by decide +kernel, by decide +kernel⟩
theorem cw_X13_110 : g_cw RX13 110 yX11_measure cX11_measure 1 (Option.some Jvm.ClassFile.FieldType.int) 0 := ⟨Or.inl wd_370, wd_373, wd_4, by decide +kernel, by decide +kernel, by decide +kernel⟩
theorem cw_X13_114 : g_cw RX13 114 yX11_isTrue cX11_isTrue 1 (Option.some Jvm.ClassFile.FieldType.boolean) 0 := ⟨Or.inl wd_382, wd_385, wd_4, by decide +kernel, by decide +kernel, by decide +kernel⟩
theorem cw_X13_118 : g_cw RX13 118 yX5_at cX5_at 2 (Option.some Jvm.ClassFile.FieldType.int) 1 := ⟨Or.inl wd_390, wd_315, wd_3, by decide +kernel, by decide +kernel, by decide +kernel⟩
theorem cw_X13_119 : g_cw RX13 119 yX5_add cX5_add 2 (Option.some Jvm.ClassFile.FieldType.boolean) 1 := ⟨Or.inl wd_395, wd_360, wd_3, by decide +kernel, by decide +kernel, by decide +kernel⟩
theorem cw_X13_145 : g_cw RX13 145 yX9_held cX9_held 2 (Option.some (Jvm.ClassFile.FieldType.object "TemplatePress$Template")) 1 := ⟨Or.inl wd_742, wd_745, wd_2, by decide +kernel, by decide +kernel, by decide +kernel⟩
theorem cw_X13_155 : g_cw RX13 155 yX10_letters cX10_letters 3 (Option.some Jvm.ClassFile.FieldType.int) 0 := ⟨Or.inl wd_750, wd_753, wd_12, by decide +kernel, by decide +kernel, by decide +kernel⟩
theorem cw_X13_16 : g_cw RX13 16 yX5_init cX5_init 2 (Option.none : Option Jvm.ClassFile.FieldType) 1 := ⟨Or.inl wd_107, wd_48, wd_3, by decide +kernel, by decide +kernel, by decide +kernel⟩
theorem cw_X13_21 : g_cw RX13 21 yX8_init cX8_init 1 (Option.none : Option Jvm.ClassFile.FieldType) 0 := ⟨Or.inr ⟨_, wn_111⟩, wd_113, wd_5, by decide +kernel, by decide +kernel, by decide +kernel⟩
theorem cw_X13_212 : g_cw RX13 212 yX9_holding cX9_holding 3 (Option.some Jvm.ClassFile.FieldType.int) 0 := ⟨Or.inl wd_1032, wd_1035, wd_2, by decide +kernel, by decide +kernel, by decide +kernel⟩
theorem cw_X13_215 : g_cw RX13 215 yX5_sum cX5_sum 3 (Option.some Jvm.ClassFile.FieldType.int) 0 := ⟨Or.inl wd_1036, wd_1039, wd_3, by decide +kernel, by decide +kernel, by decide +kernel⟩
theorem cw_X13_218 : g_cw RX13 218 yX5_count cX5_count 4 (Option.some Jvm.ClassFile.FieldType.int) 1 := ⟨Or.inl wd_1040, wd_1043, wd_3, by decide +kernel, by decide +kernel, by decide +kernel⟩
theorem cw_X13_221 : g_cw RX13 221 yX8_begin cX8_begin 4 (Option.none : Option Jvm.ClassFile.FieldType) 2 := ⟨Or.inl wd_1048, wd_1051, wd_5, by decide +kernel, by decide +kernel, by decide +kernel⟩
theorem cw_X13_223 : g_cw RX13 223 yX8_isNothing cX8_isNothing 1 (Option.some Jvm.ClassFile.FieldType.boolean) 0 := ⟨Or.inl wd_1058, wd_1061, wd_5, by decide +kernel, by decide +kernel, by decide +kernel⟩
theorem cw_X13_227 : g_cw RX13 227 yX8_put cX8_put 4 (Option.none : Option Jvm.ClassFile.FieldType) 2 := ⟨Or.inl wd_1062, wd_1065, wd_5, by decide +kernel, by decide +kernel, by decide +kernel⟩
theorem cw_X13_232 : g_cw RX13 232 yX8_bits cX8_bits 2 (Option.some Jvm.ClassFile.FieldType.long) 1 := ⟨Or.inl wd_1072, wd_1075, wd_5, by decide +kernel, by decide +kernel, by decide +kernel⟩
theorem cw_X13_237 : g_cw RX13 237 yX8_spans cX8_spans 3 (Option.some Jvm.ClassFile.FieldType.boolean) 2 := ⟨Or.inl wd_1082, wd_1085, wd_5, by decide +kernel, by decide +kernel, by decide +kernel⟩
theorem cw_X13_240 : g_cw RX13 240 yX8_take cX8_take 5 (Option.none : Option Jvm.ClassFile.FieldType) 4 := ⟨Or.inl wd_1086, wd_1089, wd_5, by decide +kernel, by decide +kernel, by decide +kernel⟩
theorem cw_X13_244 : g_cw RX13 244 yX8_whole cX8_whole 2 (Option.some Jvm.ClassFile.FieldType.int) 1 := ⟨Or.inl wd_1104, wd_1107, wd_5, by decide +kernel, by decide +kernel, by decide +kernel⟩
theorem cw_X13_247 : g_cw RX13 247 yX9_copy cX9_copy 3 (Option.none : Option Jvm.ClassFile.FieldType) 1 := ⟨Or.inl wd_1112, wd_1115, wd_2, by decide +kernel, by decide +kernel, by decide +kernel⟩
theorem cw_X13_253 : g_cw RX13 253 yX11_showInto cX11_showInto 3 (Option.none : Option Jvm.ClassFile.FieldType) 1 := ⟨Or.inl wd_350, wd_353, wd_4, by decide +kernel, by decide +kernel, by decide +kernel⟩
theorem cw_X13_41 : g_cw RX13 41 yX11_init cX11_init 1 (Option.none : Option Jvm.ClassFile.FieldType) 0 := ⟨Or.inr ⟨_, wn_132⟩, wd_67, wd_4, by decide +kernel, by decide +kernel, by decide +kernel⟩
theorem cw_X13_48 : g_cw RX13 48 yX12_init cX12_init 4 (Option.none : Option Jvm.ClassFile.FieldType) 2 := ⟨Or.inl wd_135, wd_137, wd_6, by decide +kernel, by decide +kernel, by decide +kernel⟩
theorem cw_X13_59 : g_cw RX13 59 yX9_variable cX9_variable 2 (Option.some (Jvm.ClassFile.FieldType.object "TemplatePress$Value")) 1 := ⟨Or.inl wd_263, wd_266, wd_2, by decide +kernel, by decide +kernel, by decide +kernel⟩
theorem cw_X13_67 : g_cw RX13 67 yX11_becomeNothing cX11_becomeNothing 1 (Option.none : Option Jvm.ClassFile.FieldType) 0 := ⟨Or.inl wd_270, wd_273, wd_4, by decide +kernel, by decide +kernel, by decide +kernel⟩
theorem cw_X13_70 : g_cw RX13 70 yX11_isInt cX11_isInt 2 (Option.some Jvm.ClassFile.FieldType.boolean) 1 := ⟨Or.inl wd_278, wd_280, wd_4, by decide +kernel, by decide +kernel, by decide +kernel⟩
theorem cw_X13_74 : g_cw RX13 74 yX11_becomeInt cX11_becomeInt 2 (Option.none : Option Jvm.ClassFile.FieldType) 1 := ⟨Or.inl wd_283, wd_286, wd_4, by decide +kernel, by decide +kernel, by decide +kernel⟩
theorem cw_X13_77 : g_cw RX13 77 yX11_becomeReal cX11_becomeReal 2 (Option.none : Option Jvm.ClassFile.FieldType) 1 := ⟨Or.inl wd_291, wd_294, wd_4, by decide +kernel, by decide +kernel, by decide +kernel⟩
theorem cw_X13_81 : g_cw RX13 81 yX11_becomeText cX11_becomeText 3 (Option.some Jvm.ClassFile.FieldType.boolean) 1 := ⟨Or.inl wd_301, wd_304, wd_4, by decide +kernel, by decide +kernel, by decide +kernel⟩
theorem cw_X13_85 : g_cw RX13 85 yX5_empty cX5_empty 1 (Option.none : Option Jvm.ClassFile.FieldType) 0 := ⟨Or.inl wd_320, wd_323, wd_3, by decide +kernel, by decide +kernel, by decide +kernel⟩
theorem cw_X13_88 : g_cw RX13 88 yX11_becomeList cX11_becomeList 3 (Option.none : Option Jvm.ClassFile.FieldType) 1 := ⟨Or.inl wd_328, wd_331, wd_4, by decide +kernel, by decide +kernel, by decide +kernel⟩
theorem cw_X13_94 : g_cw RX13 94 yX13_among cX13_among 2 (Option.some Jvm.ClassFile.FieldType.boolean) 2 := ⟨Or.inl wd_336, wd_269, wd_1, by decide +kernel, by decide +kernel, by decide +kernel⟩
theorem cw_X13_98 : g_cw RX13 98 yX11_at cX11_at 2 (Option.some Jvm.ClassFile.FieldType.int) 1 := ⟨Or.inl wd_337, wd_340, wd_4, by decide +kernel, by decide +kernel, by decide +kernel⟩
theorem cw_X14_136 : g_cw RX14 136 yX14_limited cX14_limited 1 (Option.some Jvm.ClassFile.FieldType.float) 1 := ⟨Or.inl wd_1545, wd_1547, wd_8, by decide +kernel, by decide +kernel, by decide +kernel⟩
theorem cw_X14_143 : g_cw RX14 143 yX14_shows cX14_shows 2 (Option.none : Option Jvm.ClassFile.FieldType) 1 := ⟨Or.inl wd_1668, wd_1671, wd_8, by decide +kernel, by decide +kernel, by decide +kernel⟩
theorem cw_X14_148 : g_cw RX14 148 yX14_showsInt cX14_showsInt 4 (Option.none : Option Jvm.ClassFile.FieldType) 1 := ⟨Or.inl wd_1664, wd_1667, wd_8, by decide +kernel, by decide +kernel, by decide +kernel⟩
theorem cw_X14_151 : g_cw RX14 151 yX14_showsReal cX14_showsReal 5 (Option.none : Option Jvm.ClassFile.FieldType) 1 := ⟨Or.inl wd_1672, wd_1675, wd_8, by decide +kernel, by decide +kernel, by decide +kernel⟩
theorem cw_X14_155 : g_cw RX14 155 yX14_isIn cX14_isIn 6 (Option.some Jvm.ClassFile.FieldType.boolean) 3 := ⟨Or.inl wd_1323, wd_1325, wd_8, by decide +kernel, by decide +kernel, by decide +kernel⟩
theorem cw_X14_163 : g_cw RX14 163 yX14_letterCase cX14_letterCase 3 (Option.some Jvm.ClassFile.FieldType.int) 3 := ⟨Or.inl wd_1533, wd_1535, wd_8, by decide +kernel, by decide +kernel, by decide +kernel⟩
theorem cw_X14_171 : g_cw RX14 171 yX14_isInt cX14_isInt 3 (Option.none : Option Jvm.ClassFile.FieldType) 2 := ⟨Or.inl wd_1513, wd_1516, wd_8, by decide +kernel, by decide +kernel, by decide +kernel⟩
theorem cw_X14_175 : g_cw RX14 175 yX14_becomes cX14_becomes 4 (Option.some Jvm.ClassFile.FieldType.int) 2 := ⟨Or.inl wd_1586, wd_1589, wd_8, by decide +kernel, by decide +kernel, by decide +kernel⟩
theorem cw_X14_193 : g_cw RX14 193 yX14_isReal cX14_isReal 3 (Option.none : Option Jvm.ClassFile.FieldType) 2 := ⟨Or.inl wd_1541, wd_1544, wd_8, by decide +kernel, by decide +kernel, by decide +kernel⟩
theorem cw_X14_247 : g_cw RX14 247 yX14_here cX14_here 1 (Option.some Jvm.ClassFile.FieldType.int) 0 := ⟨Or.inl wd_1347, wd_1350, wd_8, by decide +kernel, by decide +kernel, by decide +kernel⟩
theorem cw_X14_251 : g_cw RX14 251 yX14_fails cX14_fails 2 (Option.some Jvm.ClassFile.FieldType.boolean) 1 := ⟨Or.inl wd_1351, wd_1354, wd_8, by decide +kernel, by decide +kernel, by decide +kernel⟩
theorem cw_X14_276 : g_cw RX14 276 yX14_isSign cX14_isSign 2 (Option.some Jvm.ClassFile.FieldType.boolean) 1 := ⟨Or.inl wd_1375, wd_1378, wd_8, by decide +kernel, by decide +kernel, by decide +kernel⟩
theorem cw_X14_332 : g_cw RX14 332 yX14_extended cX14_extended 2 (Option.some Jvm.ClassFile.FieldType.int) 1 := ⟨Or.inl wd_1429, wd_1432, wd_8, by decide +kernel, by decide +kernel, by decide +kernel⟩
theorem cw_X14_335 : g_cw RX14 335 yX14_signsBehind cX14_signsBehind 6 (Option.some Jvm.ClassFile.FieldType.int) 3 := ⟨Or.inl wd_1433, wd_1436, wd_8, by decide +kernel, by decide +kernel, by decide +kernel⟩
theorem cw_X14_344 : g_cw RX14 344 yX14_byteAt cX14_byteAt 3 (Option.some Jvm.ClassFile.FieldType.int) 2 := ⟨Or.inl wd_1485, wd_1488, wd_8, by decide +kernel, by decide +kernel, by decide +kernel⟩
theorem cw_X14_347 : g_cw RX14 347 yX14_copies cX14_copies 4 (Option.none : Option Jvm.ClassFile.FieldType) 2 := ⟨Or.inl wd_1509, wd_1512, wd_8, by decide +kernel, by decide +kernel, by decide +kernel⟩
theorem cw_X14_353 : g_cw RX14 353 yX14_figuresAt cX14_figuresAt 3 (Option.some Jvm.ClassFile.FieldType.int) 1 := ⟨Or.inl wd_1517, wd_1520, wd_8, by decide +kernel, by decide +kernel, by decide +kernel⟩
theorem cw_X14_365 : g_cw RX14 365 yX14_isTrue cX14_isTrue 2 (Option.some Jvm.ClassFile.FieldType.boolean) 1 := ⟨Or.inl wd_1600, wd_1603, wd_8, by decide +kernel, by decide +kernel, by decide +kernel⟩
theorem cw_X14_381 : g_cw RX14 381 yX14_isRoom cX14_isRoom 1 (Option.some Jvm.ClassFile.FieldType.boolean) 0 := ⟨Or.inl wd_1690, wd_1693, wd_8, by decide +kernel, by decide +kernel, by decide +kernel⟩
theorem cw_X14_391 : g_cw RX14 391 yX14_puts cX14_puts 2 (Option.some Jvm.ClassFile.FieldType.boolean) 1 := ⟨Or.inl wd_1686, wd_1689, wd_8, by decide +kernel, by decide +kernel, by decide +kernel⟩
theorem cw_X14_394 : g_cw RX14 394 yX14_isLetterOrFigure cX14_isLetterOrFigure 1 (Option.some Jvm.ClassFile.FieldType.boolean) 1 := ⟨Or.inl wd_1681, wd_1683, wd_8, by decide +kernel, by decide +kernel, by decide +kernel⟩
theorem cw_X14_397 : g_cw RX14 397 yX14_putsNamed cX14_putsNamed 2 (Option.some Jvm.ClassFile.FieldType.boolean) 1 := ⟨Or.inl wd_1694, wd_1697, wd_8, by decide +kernel, by decide +kernel, by decide +kernel⟩
theorem cw_X14_406 : g_cw RX14 406 yX14_links cX14_links 4 (Option.none : Option Jvm.ClassFile.FieldType) 3 := ⟨Or.inl wd_1469, wd_1472, wd_8, by decide +kernel, by decide +kernel, by decide +kernel⟩
theorem cw_X14_412 : g_cw RX14 412 yX14_linksBases cX14_linksBases 4 (Option.none : Option Jvm.ClassFile.FieldType) 2 := ⟨Or.inl wd_1465, wd_1468, wd_8, by decide +kernel, by decide +kernel, by decide +kernel⟩
theorem cw_X14_415 : g_cw RX14 415 yX14_faults cX14_faults 6 (Option.none : Option Jvm.ClassFile.FieldType) 4 := ⟨Or.inl wd_1461, wd_1464, wd_8, by decide +kernel, by decide +kernel, by decide +kernel⟩
theorem cw_X14_491 : g_cw RX14 491 yX14_showsValue cX14_showsValue 3 (Option.none : Option Jvm.ClassFile.FieldType) 1 := ⟨Or.inl wd_1660, wd_1663, wd_8, by decide +kernel, by decide +kernel, by decide +kernel⟩
theorem cw_X14_519 : g_cw RX14 519 yX14_withText cX14_withText 3 (Option.some Jvm.ClassFile.FieldType.int) 0 := ⟨Or.inl wd_1724, wd_1727, wd_8, by decide +kernel, by decide +kernel, by decide +kernel⟩
theorem cw_X14_522 : g_cw RX14 522 yX14_onPage cX14_onPage 4 (Option.some Jvm.ClassFile.FieldType.int) 1 := ⟨Or.inl wd_1728, wd_1731, wd_8, by decide +kernel, by decide +kernel, by decide +kernel⟩
theorem cw_X14_528 : g_cw RX14 528 yX14_isVariable cX14_isVariable 1 (Option.some Jvm.ClassFile.FieldType.boolean) 1 := ⟨Or.inl wd_1736, wd_1738, wd_8, by decide +kernel, by decide +kernel, by decide +kernel⟩
theorem cw_X14_537 : g_cw RX14 537 yX14_isRow cX14_isRow 1 (Option.some Jvm.ClassFile.FieldType.boolean) 1 := ⟨Or.inl wd_1784, wd_1786, wd_8, by decide +kernel, by decide +kernel, by decide +kernel⟩
theorem cw_X14_540 : g_cw RX14 540 yX14_wrong cX14_wrong 2 (Option.some Jvm.ClassFile.FieldType.int) 1 := ⟨Or.inl wd_1791, wd_1794, wd_8, by decide +kernel, by decide +kernel, by decide +kernel⟩
theorem cw_X14_543 : g_cw RX14 543 yX14_holds cX14_holds 5 (Option.none : Option Jvm.ClassFile.FieldType) 3 := ⟨Or.inl wd_1795, wd_1798, wd_8, by decide +kernel, by decide +kernel, by decide +kernel⟩
theorem cw_X14_548 : g_cw RX14 548 yX14_copiesItem cX14_copiesItem 5 (Option.none : Option Jvm.ClassFile.FieldType) 4 := ⟨Or.inl wd_1808, wd_1811, wd_8, by decide +kernel, by decide +kernel, by decide +kernel⟩
theorem cw_X14_551 : g_cw RX14 551 yX14_cast cX14_cast 3 (Option.some Jvm.ClassFile.FieldType.int) 2 := ⟨Or.inl wd_1824, wd_1827, wd_8, by decide +kernel, by decide +kernel, by decide +kernel⟩
theorem cw_X14_554 : g_cw RX14 554 yX14_same cX14_same 4 (Option.none : Option Jvm.ClassFile.FieldType) 3 := ⟨Or.inl wd_1832, wd_1834, wd_8, by decide +kernel, by decide +kernel, by decide +kernel⟩
theorem cw_X14_558 : g_cw RX14 558 yX14_same_ cX14_same_ 4 (Option.none : Option Jvm.ClassFile.FieldType) 3 := ⟨Or.inl wd_1835, wd_1837, wd_8, by decide +kernel, by decide +kernel, by decide +kernel⟩
theorem cw_X1_25 : g_cw RX1 25 yX13_among cX13_among 2 (Option.some Jvm.ClassFile.FieldType.boolean) 2 := ⟨Or.inr ⟨_, wn_796⟩, wd_269, wd_1, by decide +kernel, by decide +kernel, by decide +kernel⟩
theorem cw_X1_29 : g_cw RX1 29 yX1_at cX1_at 2 (Option.some Jvm.ClassFile.FieldType.int) 1 := ⟨Or.inl wd_776, wd_779, wd_7, by decide +kernel, by decide +kernel, by decide +kernel⟩
theorem cw_X1_33 : g_cw RX1 33 yX5_addLink cX5_addLink 4 (Option.none : Option Jvm.ClassFile.FieldType) 3 := ⟨Or.inl wd_780, wd_783, wd_3, by decide +kernel, by decide +kernel, by decide +kernel⟩
theorem cw_X5_19 : g_cw RX5 19 yJ9_min_7cf53 cJ9_min_7cf53 2 (Option.some Jvm.ClassFile.FieldType.int) 2 := ⟨Or.inl wd_1003, wd_311, wd_9, by decide +kernel, by decide +kernel, by decide +kernel⟩
theorem cw_X7_136 : g_cw RX7 136 yX6_init cX6_init 3 (Option.none : Option Jvm.ClassFile.FieldType) 2 := ⟨Or.inl wd_512, wd_514, wd_13, by decide +kernel, by decide +kernel, by decide +kernel⟩
theorem cw_X7_204 : g_cw RX7 204 yX11_init cX11_init 1 (Option.none : Option Jvm.ClassFile.FieldType) 0 := ⟨Or.inr ⟨_, wn_597⟩, wd_67, wd_4, by decide +kernel, by decide +kernel, by decide +kernel⟩
theorem cw_X7_205 : g_cw RX7 205 yX7_readFigures cX7_readFigures 4 (Option.some Jvm.ClassFile.FieldType.int) 0 := ⟨Or.inl wd_609, wd_612, wd_11, by decide +kernel, by decide +kernel, by decide +kernel⟩
theorem cw_X7_208 : g_cw RX7 208 yX11_becomeInt cX11_becomeInt 2 (Option.none : Option Jvm.ClassFile.FieldType) 1 := ⟨Or.inl wd_616, wd_286, wd_4, by decide +kernel, by decide +kernel, by decide +kernel⟩
theorem cw_X7_211 : g_cw RX7 211 yX5_init cX5_init 2 (Option.none : Option Jvm.ClassFile.FieldType) 1 := ⟨Or.inl wd_599, wd_48, wd_3, by decide +kernel, by decide +kernel, by decide +kernel⟩
theorem cw_X7_212 : g_cw RX7 212 yX7_isTextByte cX7_isTextByte 1 (Option.some Jvm.ClassFile.FieldType.boolean) 1 := ⟨Or.inl wd_600, wd_602, wd_11, by decide +kernel, by decide +kernel, by decide +kernel⟩
theorem cw_X7_215 : g_cw RX7 215 yX5_add cX5_add 2 (Option.some Jvm.ClassFile.FieldType.boolean) 1 := ⟨Or.inl wd_603, wd_360, wd_3, by decide +kernel, by decide +kernel, by decide +kernel⟩
theorem cw_X7_218 : g_cw RX7 218 yX11_becomeText cX11_becomeText 3 (Option.some Jvm.ClassFile.FieldType.boolean) 1 := ⟨Or.inl wd_604, wd_304, wd_4, by decide +kernel, by decide +kernel, by decide +kernel⟩
theorem cw_X7_244 : g_cw RX7 244 yX13_isSmall cX13_isSmall 1 (Option.some Jvm.ClassFile.FieldType.boolean) 1 := ⟨Or.inr ⟨_, wn_625⟩, wd_627, wd_1, by decide +kernel, by decide +kernel, by decide +kernel⟩
theorem cw_X7_29 : g_cw RX7 29 yX10_init cX10_init 2 (Option.none : Option Jvm.ClassFile.FieldType) 1 := ⟨Or.inl wd_412, wd_414, wd_12, by decide +kernel, by decide +kernel, by decide +kernel⟩
theorem cw_X7_36 : g_cw RX7 36 yX5_at cX5_at 2 (Option.some Jvm.ClassFile.FieldType.int) 1 := ⟨Or.inl wd_476, wd_315, wd_3, by decide +kernel, by decide +kernel, by decide +kernel⟩
theorem cw_X7_45 : g_cw RX7 45 yX7_readOneOf cX7_readOneOf 4 (Option.some Jvm.ClassFile.FieldType.int) 2 := ⟨Or.inl wd_477, wd_480, wd_11, by decide +kernel, by decide +kernel, by decide +kernel⟩
theorem cw_X7_52 : g_cw RX7 52 yX7_expect cX7_expect 2 (Option.none : Option Jvm.ClassFile.FieldType) 1 := ⟨Or.inl wd_490, wd_493, wd_11, by decide +kernel, by decide +kernel, by decide +kernel⟩
theorem cw_X7_70 : g_cw RX7 70 yX7_refuse cX7_refuse 1 (Option.none : Option Jvm.ClassFile.FieldType) 0 := ⟨Or.inl wd_486, wd_489, wd_11, by decide +kernel, by decide +kernel, by decide +kernel⟩
theorem cw_X7_77 : g_cw RX7 77 yX7_peek cX7_peek 1 (Option.some Jvm.ClassFile.FieldType.int) 0 := ⟨Or.inl wd_481, wd_484, wd_11, by decide +kernel, by decide +kernel, by decide +kernel⟩
theorem cw_X7_81 : g_cw RX7 81 yX13_among cX13_among 2 (Option.some Jvm.ClassFile.FieldType.boolean) 2 := ⟨Or.inr ⟨_, wn_485⟩, wd_269, wd_1, by decide +kernel, by decide +kernel, by decide +kernel⟩
theorem cw_X7_88 : g_cw RX7 88 yX13_isFigure cX13_isFigure 1 (Option.some Jvm.ClassFile.FieldType.boolean) 1 := ⟨Or.inr ⟨_, wn_613⟩, wd_615, wd_1, by decide +kernel, by decide +kernel, by decide +kernel⟩
theorem cw_X8_23 : g_cw RX8 23 yJ9_min_7cf53 cJ9_min_7cf53 2 (Option.some Jvm.ClassFile.FieldType.int) 2 := ⟨Or.inl wd_1052, wd_311, wd_9, by decide +kernel, by decide +kernel, by decide +kernel⟩
theorem cw_X8_29 : g_cw RX8 29 yJ9_max_7cf53 cJ9_max_7cf53 2 (Option.some Jvm.ClassFile.FieldType.int) 2 := ⟨Or.inl wd_1053, wd_881, wd_9, by decide +kernel, by decide +kernel, by decide +kernel⟩
theorem cw_X8_35 : g_cw RX8 35 yX13_among cX13_among 2 (Option.some Jvm.ClassFile.FieldType.boolean) 2 := ⟨Or.inr ⟨_, wn_1066⟩, wd_269, wd_1, by decide +kernel, by decide +kernel, by decide +kernel⟩
theorem cw_X8_41 : g_cw RX8 41 yX11_bitsOf cX11_bitsOf 5 (Option.some Jvm.ClassFile.FieldType.int) 1 := ⟨Or.inl wd_1077, wd_376, wd_4, by decide +kernel, by decide +kernel, by decide +kernel⟩
theorem cw_X8_47 : g_cw RX8 47 yX8_spans cX8_spans 3 (Option.some Jvm.ClassFile.FieldType.boolean) 2 := ⟨Or.inl wd_1090, wd_1085, wd_5, by decide +kernel, by decide +kernel, by decide +kernel⟩
theorem cw_X9_25 : g_cw RX9 25 yX5_init cX5_init 2 (Option.none : Option Jvm.ClassFile.FieldType) 1 := ⟨Or.inl wd_46, wd_48, wd_3, by decide +kernel, by decide +kernel, by decide +kernel⟩
theorem cw_X9_36 : g_cw RX9 36 yX11_init cX11_init 1 (Option.none : Option Jvm.ClassFile.FieldType) 0 := ⟨Or.inr ⟨_, wn_65⟩, wd_67, wd_4, by decide +kernel, by decide +kernel, by decide +kernel⟩
theorem cw_X9_37 : g_cw RX9 37 yX13_among cX13_among 2 (Option.some Jvm.ClassFile.FieldType.boolean) 2 := ⟨Or.inr ⟨_, wn_267⟩, wd_269, wd_1, by decide +kernel, by decide +kernel, by decide +kernel⟩
theorem cw_X9_41 : g_cw RX9 41 yX11_copy cX11_copy 2 (Option.none : Option Jvm.ClassFile.FieldType) 1 := ⟨Or.inl wd_1116, wd_827, wd_4, by decide +kernel, by decide +kernel, by decide +kernel⟩
theorem cw_X9_45 : g_cw RX9 45 yX5_copy cX5_copy 3 (Option.none : Option Jvm.ClassFile.FieldType) 1 := ⟨Or.inl wd_1117, wd_1002, wd_3, by decide +kernel, by decide +kernel, by decide +kernel⟩
theorem lk_X10_11 : g_lk RX10 11 9 1 := ⟨_, rfl, by decide, gu_9, Or.inl wd_420, nmX10, tyX10_ok⟩
theorem lk_X10_17 : g_lk RX10 17 9 3 := ⟨_, rfl, by decide, gu_9, Or.inl wd_423, nmX10, tyX10_ok⟩
theorem lk_X10_21 : g_lk RX10 21 9 0 := ⟨_, rfl, by decide, gu_9, Or.inl wd_418, nmX10, tyX10_ok⟩
theorem lk_X11_19 : g_lk RX11 19 10 3 := ⟨_, rfl, by decide, gu_10, Or.inl wd_74, nmX11, tyX11_ok⟩
theorem lk_X11_23 : g_lk RX11 23 10 0 := ⟨_, rfl, by decide, gu_10, Or.inl wd_70, nmX11, tyX11_ok⟩
theorem lk_X11_26 : g_lk RX11 26 10 1 := ⟨_, rfl, by decide, gu_10, Or.inl wd_72, nmX11, tyX11_ok⟩
theorem lk_X11_29 : g_lk RX11 29 10 2 := ⟨_, rfl, by decide, gu_10, Or.inl wd_73, nmX11, tyX11_ok⟩
theorem lk_X11_49 : g_lk RX11 49 4 1 := ⟨_, rfl, by decide, gu_4, Or.inr ⟨_, wn_55⟩, nmX5, tyX5_ok⟩
theorem lk_X11_9 : g_lk RX11 9 10 4 := ⟨_, rfl, by decide, gu_10, Or.inl wd_77, nmX11, tyX11_ok⟩
theorem lk_X12_128 : g_lk RX12 128 9 3 := ⟨_, rfl, by decide, gu_9, Or.inr ⟨_, wn_425⟩, nmX10, tyX10_ok⟩
theorem lk_X12_13 : g_lk RX12 13 11 2 := ⟨_, rfl, by decide, gu_11, Or.inl wd_171, nmX12, tyX12_ok⟩
theorem lk_X12_131 : g_lk RX12 131 11 10 := ⟨_, rfl, by decide, gu_11, Or.inl wd_180, nmX12, tyX12_ok⟩
theorem lk_X12_19 : g_lk RX12 19 11 3 := ⟨_, rfl, by decide, gu_11, Or.inl wd_172, nmX12, tyX12_ok⟩
theorem lk_X12_24 : g_lk RX12 24 11 4 := ⟨_, rfl, by decide, gu_11, Or.inl wd_173, nmX12, tyX12_ok⟩
theorem lk_X12_276 : g_lk RX12 276 4 1 := ⟨_, rfl, by decide, gu_4, Or.inr ⟨_, wn_57⟩, nmX5, tyX5_ok⟩
theorem lk_X12_28 : g_lk RX12 28 11 5 := ⟨_, rfl, by decide, gu_11, Or.inl wd_174, nmX12, tyX12_ok⟩
theorem lk_X12_288 : g_lk RX12 288 8 3 := ⟨_, rfl, by decide, gu_8, Or.inr ⟨_, wn_96⟩, nmX9, tyX9_ok⟩
theorem lk_X12_36 : g_lk RX12 36 11 6 := ⟨_, rfl, by decide, gu_11, Or.inl wd_175, nmX12, tyX12_ok⟩
theorem lk_X12_40 : g_lk RX12 40 11 7 := ⟨_, rfl, by decide, gu_11, Or.inl wd_176, nmX12, tyX12_ok⟩
theorem lk_X12_43 : g_lk RX12 43 11 8 := ⟨_, rfl, by decide, gu_11, Or.inl wd_178, nmX12, tyX12_ok⟩
theorem lk_X12_46 : g_lk RX12 46 11 9 := ⟨_, rfl, by decide, gu_11, Or.inl wd_179, nmX12, tyX12_ok⟩
theorem lk_X12_50 : g_lk RX12 50 11 0 := ⟨_, rfl, by decide, gu_11, Or.inl wd_169, nmX12, tyX12_ok⟩
theorem lk_X12_54 : g_lk RX12 54 11 1 := ⟨_, rfl, by decide, gu_11, Or.inl wd_170, nmX12, tyX12_ok⟩
theorem lk_X12_61 : g_lk RX12 61 11 11 := ⟨_, rfl, by decide, gu_11, Or.inl wd_181, nmX12, tyX12_ok⟩
theorem lk_X12_65 : g_lk RX12 65 11 12 := ⟨_, rfl, by decide, gu_11, Or.inl wd_182, nmX12, tyX12_ok⟩
theorem lk_X12_68 : g_lk RX12 68 11 13 := ⟨_, rfl, by decide, gu_11, Or.inl wd_183, nmX12, tyX12_ok⟩
theorem lk_X12_71 : g_lk RX12 71 11 14 := ⟨_, rfl, by decide, gu_11, Or.inl wd_185, nmX12, tyX12_ok⟩
theorem lk_X12_74 : g_lk RX12 74 11 15 := ⟨_, rfl, by decide, gu_11, Or.inl wd_187, nmX12, tyX12_ok⟩
theorem lk_X12_77 : g_lk RX12 77 11 16 := ⟨_, rfl, by decide, gu_11, Or.inl wd_188, nmX12, tyX12_ok⟩
theorem lk_X12_81 : g_lk RX12 81 11 17 := ⟨_, rfl, by decide, gu_11, Or.inl wd_189, nmX12, tyX12_ok⟩
theorem lk_X12_84 : g_lk RX12 84 0 4 := ⟨_, rfl, by decide, gu_0, Or.inr ⟨_, wn_157⟩, nmX1, tyX1_ok⟩
theorem lk_X13_123 : g_lk RX13 123 4 1 := ⟨_, rfl, by decide, gu_4, Or.inr ⟨_, wn_56⟩, nmX5, tyX5_ok⟩
theorem lk_X13_136 : g_lk RX13 136 8 1 := ⟨_, rfl, by decide, gu_8, Or.inr ⟨_, wn_91⟩, nmX9, tyX9_ok⟩
theorem lk_X13_140 : g_lk RX13 140 9 4 := ⟨_, rfl, by decide, gu_9, Or.inr ⟨_, wn_428⟩, nmX10, tyX10_ok⟩
theorem lk_X13_149 : g_lk RX13 149 9 5 := ⟨_, rfl, by decide, gu_9, Or.inr ⟨_, wn_430⟩, nmX10, tyX10_ok⟩
theorem lk_X13_152 : g_lk RX13 152 9 3 := ⟨_, rfl, by decide, gu_9, Or.inr ⟨_, wn_426⟩, nmX10, tyX10_ok⟩
theorem lk_X13_158 : g_lk RX13 158 9 6 := ⟨_, rfl, by decide, gu_9, Or.inr ⟨_, wn_431⟩, nmX10, tyX10_ok⟩
theorem lk_X13_161 : g_lk RX13 161 9 7 := ⟨_, rfl, by decide, gu_9, Or.inr ⟨_, wn_434⟩, nmX10, tyX10_ok⟩
theorem lk_X13_164 : g_lk RX13 164 9 0 := ⟨_, rfl, by decide, gu_9, Or.inr ⟨_, wn_419⟩, nmX10, tyX10_ok⟩
theorem lk_X13_182 : g_lk RX13 182 12 8 := ⟨_, rfl, by decide, gu_12, Or.inl wd_236, nmX13, tyX13_ok⟩
theorem lk_X13_185 : g_lk RX13 185 8 2 := ⟨_, rfl, by decide, gu_8, Or.inr ⟨_, wn_93⟩, nmX9, tyX9_ok⟩
theorem lk_X13_209 : g_lk RX13 209 8 3 := ⟨_, rfl, by decide, gu_8, Or.inr ⟨_, wn_95⟩, nmX9, tyX9_ok⟩
theorem lk_X13_22 : g_lk RX13 22 12 0 := ⟨_, rfl, by decide, gu_12, Or.inl wd_228, nmX13, tyX13_ok⟩
theorem lk_X13_226 : g_lk RX13 226 7 1 := ⟨_, rfl, by decide, gu_7, Or.inr ⟨_, wn_118⟩, nmX8, tyX8_ok⟩
theorem lk_X13_236 : g_lk RX13 236 7 0 := ⟨_, rfl, by decide, gu_7, Or.inr ⟨_, wn_116⟩, nmX8, tyX8_ok⟩
theorem lk_X13_250 : g_lk RX13 250 12 2 := ⟨_, rfl, by decide, gu_12, Or.inl wd_230, nmX13, tyX13_ok⟩
theorem lk_X13_26 : g_lk RX13 26 12 1 := ⟨_, rfl, by decide, gu_12, Or.inl wd_229, nmX13, tyX13_ok⟩
theorem lk_X13_29 : g_lk RX13 29 12 3 := ⟨_, rfl, by decide, gu_12, Or.inl wd_231, nmX13, tyX13_ok⟩
theorem lk_X13_33 : g_lk RX13 33 12 4 := ⟨_, rfl, by decide, gu_12, Or.inl wd_232, nmX13, tyX13_ok⟩
theorem lk_X13_36 : g_lk RX13 36 12 5 := ⟨_, rfl, by decide, gu_12, Or.inl wd_233, nmX13, tyX13_ok⟩
theorem lk_X13_42 : g_lk RX13 42 12 6 := ⟨_, rfl, by decide, gu_12, Or.inl wd_234, nmX13, tyX13_ok⟩
theorem lk_X13_51 : g_lk RX13 51 12 7 := ⟨_, rfl, by decide, gu_12, Or.inl wd_235, nmX13, tyX13_ok⟩
theorem lk_X13_55 : g_lk RX13 55 12 9 := ⟨_, rfl, by decide, gu_12, Or.inl wd_237, nmX13, tyX13_ok⟩
theorem lk_X13_63 : g_lk RX13 63 10 0 := ⟨_, rfl, by decide, gu_10, Or.inr ⟨_, wn_69⟩, nmX11, tyX11_ok⟩
theorem lk_X13_91 : g_lk RX13 91 10 3 := ⟨_, rfl, by decide, gu_10, Or.inr ⟨_, wn_75⟩, nmX11, tyX11_ok⟩
theorem lk_X14_101 : g_lk RX14 101 13 49 := ⟨_, rfl, by decide, gu_13, Or.inl wd_1177, nmX14, tyX14_ok⟩
theorem lk_X14_104 : g_lk RX14 104 13 50 := ⟨_, rfl, by decide, gu_13, Or.inl wd_1178, nmX14, tyX14_ok⟩
theorem lk_X14_107 : g_lk RX14 107 13 51 := ⟨_, rfl, by decide, gu_13, Or.inl wd_1179, nmX14, tyX14_ok⟩
theorem lk_X14_11 : g_lk RX14 11 13 0 := ⟨_, rfl, by decide, gu_13, Or.inl wd_1128, nmX14, tyX14_ok⟩
theorem lk_X14_110 : g_lk RX14 110 13 52 := ⟨_, rfl, by decide, gu_13, Or.inl wd_1180, nmX14, tyX14_ok⟩
theorem lk_X14_113 : g_lk RX14 113 13 53 := ⟨_, rfl, by decide, gu_13, Or.inl wd_1181, nmX14, tyX14_ok⟩
theorem lk_X14_116 : g_lk RX14 116 13 54 := ⟨_, rfl, by decide, gu_13, Or.inl wd_1182, nmX14, tyX14_ok⟩
theorem lk_X14_119 : g_lk RX14 119 13 55 := ⟨_, rfl, by decide, gu_13, Or.inl wd_1183, nmX14, tyX14_ok⟩
theorem lk_X14_122 : g_lk RX14 122 13 56 := ⟨_, rfl, by decide, gu_13, Or.inl wd_1184, nmX14, tyX14_ok⟩
theorem lk_X14_125 : g_lk RX14 125 13 57 := ⟨_, rfl, by decide, gu_13, Or.inl wd_1185, nmX14, tyX14_ok⟩
theorem lk_X14_128 : g_lk RX14 128 13 58 := ⟨_, rfl, by decide, gu_13, Or.inl wd_1186, nmX14, tyX14_ok⟩
theorem lk_X14_131 : g_lk RX14 131 13 59 := ⟨_, rfl, by decide, gu_13, Or.inl wd_1187, nmX14, tyX14_ok⟩
theorem lk_X14_140 : g_lk RX14 140 13 6 := ⟨_, rfl, by decide, gu_13, Or.inl wd_1134, nmX14, tyX14_ok⟩
theorem lk_X14_15 : g_lk RX14 15 13 1 := ⟨_, rfl, by decide, gu_13, Or.inl wd_1129, nmX14, tyX14_ok⟩
theorem lk_X14_18 : g_lk RX14 18 13 2 := ⟨_, rfl, by decide, gu_13, Or.inl wd_1130, nmX14, tyX14_ok⟩
theorem lk_X14_21 : g_lk RX14 21 13 3 := ⟨_, rfl, by decide, gu_13, Or.inl wd_1131, nmX14, tyX14_ok⟩
theorem lk_X14_229 : g_lk RX14 229 13 10 := ⟨_, rfl, by decide, gu_13, Or.inl wd_1138, nmX14, tyX14_ok⟩
theorem lk_X14_232 : g_lk RX14 232 13 12 := ⟨_, rfl, by decide, gu_13, Or.inl wd_1140, nmX14, tyX14_ok⟩
theorem lk_X14_235 : g_lk RX14 235 13 13 := ⟨_, rfl, by decide, gu_13, Or.inl wd_1141, nmX14, tyX14_ok⟩
theorem lk_X14_238 : g_lk RX14 238 13 14 := ⟨_, rfl, by decide, gu_13, Or.inl wd_1142, nmX14, tyX14_ok⟩
theorem lk_X14_24 : g_lk RX14 24 13 4 := ⟨_, rfl, by decide, gu_13, Or.inl wd_1132, nmX14, tyX14_ok⟩
theorem lk_X14_241 : g_lk RX14 241 13 15 := ⟨_, rfl, by decide, gu_13, Or.inl wd_1143, nmX14, tyX14_ok⟩
theorem lk_X14_244 : g_lk RX14 244 13 16 := ⟨_, rfl, by decide, gu_13, Or.inl wd_1144, nmX14, tyX14_ok⟩
theorem lk_X14_28 : g_lk RX14 28 13 5 := ⟨_, rfl, by decide, gu_13, Or.inl wd_1133, nmX14, tyX14_ok⟩
theorem lk_X14_31 : g_lk RX14 31 13 7 := ⟨_, rfl, by decide, gu_13, Or.inl wd_1135, nmX14, tyX14_ok⟩
theorem lk_X14_34 : g_lk RX14 34 13 8 := ⟨_, rfl, by decide, gu_13, Or.inl wd_1136, nmX14, tyX14_ok⟩
theorem lk_X14_341 : g_lk RX14 341 13 17 := ⟨_, rfl, by decide, gu_13, Or.inl wd_1145, nmX14, tyX14_ok⟩
theorem lk_X14_350 : g_lk RX14 350 13 37 := ⟨_, rfl, by decide, gu_13, Or.inl wd_1165, nmX14, tyX14_ok⟩
theorem lk_X14_37 : g_lk RX14 37 13 9 := ⟨_, rfl, by decide, gu_13, Or.inl wd_1137, nmX14, tyX14_ok⟩
theorem lk_X14_378 : g_lk RX14 378 13 22 := ⟨_, rfl, by decide, gu_13, Or.inl wd_1150, nmX14, tyX14_ok⟩
theorem lk_X14_384 : g_lk RX14 384 13 23 := ⟨_, rfl, by decide, gu_13, Or.inl wd_1151, nmX14, tyX14_ok⟩
theorem lk_X14_40 : g_lk RX14 40 13 11 := ⟨_, rfl, by decide, gu_13, Or.inl wd_1139, nmX14, tyX14_ok⟩
theorem lk_X14_400 : g_lk RX14 400 13 30 := ⟨_, rfl, by decide, gu_13, Or.inl wd_1158, nmX14, tyX14_ok⟩
theorem lk_X14_403 : g_lk RX14 403 13 47 := ⟨_, rfl, by decide, gu_13, Or.inl wd_1175, nmX14, tyX14_ok⟩
theorem lk_X14_409 : g_lk RX14 409 13 43 := ⟨_, rfl, by decide, gu_13, Or.inl wd_1171, nmX14, tyX14_ok⟩
theorem lk_X14_423 : g_lk RX14 423 13 42 := ⟨_, rfl, by decide, gu_13, Or.inl wd_1170, nmX14, tyX14_ok⟩
theorem lk_X14_43 : g_lk RX14 43 13 19 := ⟨_, rfl, by decide, gu_13, Or.inl wd_1147, nmX14, tyX14_ok⟩
theorem lk_X14_46 : g_lk RX14 46 13 20 := ⟨_, rfl, by decide, gu_13, Or.inl wd_1148, nmX14, tyX14_ok⟩
theorem lk_X14_49 : g_lk RX14 49 13 24 := ⟨_, rfl, by decide, gu_13, Or.inl wd_1152, nmX14, tyX14_ok⟩
theorem lk_X14_509 : g_lk RX14 509 13 38 := ⟨_, rfl, by decide, gu_13, Or.inl wd_1166, nmX14, tyX14_ok⟩
theorem lk_X14_512 : g_lk RX14 512 13 21 := ⟨_, rfl, by decide, gu_13, Or.inl wd_1149, nmX14, tyX14_ok⟩
theorem lk_X14_53 : g_lk RX14 53 13 25 := ⟨_, rfl, by decide, gu_13, Or.inl wd_1153, nmX14, tyX14_ok⟩
theorem lk_X14_56 : g_lk RX14 56 13 26 := ⟨_, rfl, by decide, gu_13, Or.inl wd_1154, nmX14, tyX14_ok⟩
theorem lk_X14_561 : g_lk RX14 561 13 60 := ⟨_, rfl, by decide, gu_13, Or.inl wd_1188, nmX14, tyX14_ok⟩
theorem lk_X14_564 : g_lk RX14 564 13 61 := ⟨_, rfl, by decide, gu_13, Or.inl wd_1189, nmX14, tyX14_ok⟩
theorem lk_X14_567 : g_lk RX14 567 13 62 := ⟨_, rfl, by decide, gu_13, Or.inl wd_1190, nmX14, tyX14_ok⟩
theorem lk_X14_59 : g_lk RX14 59 13 27 := ⟨_, rfl, by decide, gu_13, Or.inl wd_1155, nmX14, tyX14_ok⟩
theorem lk_X14_62 : g_lk RX14 62 13 28 := ⟨_, rfl, by decide, gu_13, Or.inl wd_1156, nmX14, tyX14_ok⟩
theorem lk_X14_65 : g_lk RX14 65 13 29 := ⟨_, rfl, by decide, gu_13, Or.inl wd_1157, nmX14, tyX14_ok⟩
theorem lk_X14_68 : g_lk RX14 68 13 31 := ⟨_, rfl, by decide, gu_13, Or.inl wd_1159, nmX14, tyX14_ok⟩
theorem lk_X14_71 : g_lk RX14 71 13 32 := ⟨_, rfl, by decide, gu_13, Or.inl wd_1160, nmX14, tyX14_ok⟩
theorem lk_X14_74 : g_lk RX14 74 13 33 := ⟨_, rfl, by decide, gu_13, Or.inl wd_1161, nmX14, tyX14_ok⟩
theorem lk_X14_77 : g_lk RX14 77 13 34 := ⟨_, rfl, by decide, gu_13, Or.inl wd_1162, nmX14, tyX14_ok⟩
theorem lk_X14_80 : g_lk RX14 80 13 39 := ⟨_, rfl, by decide, gu_13, Or.inl wd_1167, nmX14, tyX14_ok⟩
theorem lk_X14_83 : g_lk RX14 83 13 40 := ⟨_, rfl, by decide, gu_13, Or.inl wd_1168, nmX14, tyX14_ok⟩
theorem lk_X14_86 : g_lk RX14 86 13 41 := ⟨_, rfl, by decide, gu_13, Or.inl wd_1169, nmX14, tyX14_ok⟩
theorem lk_X14_89 : g_lk RX14 89 13 44 := ⟨_, rfl, by decide, gu_13, Or.inl wd_1172, nmX14, tyX14_ok⟩
theorem lk_X14_92 : g_lk RX14 92 13 45 := ⟨_, rfl, by decide, gu_13, Or.inl wd_1173, nmX14, tyX14_ok⟩
theorem lk_X14_95 : g_lk RX14 95 13 46 := ⟨_, rfl, by decide, gu_13, Or.inl wd_1174, nmX14, tyX14_ok⟩
theorem lk_X14_98 : g_lk RX14 98 13 48 := ⟨_, rfl, by decide, gu_13, Or.inl wd_1176, nmX14, tyX14_ok⟩
theorem lk_X1_15 : g_lk RX1 15 0 1 := ⟨_, rfl, by decide, gu_0, Or.inl wd_151, nmX1, tyX1_ok⟩
theorem lk_X1_19 : g_lk RX1 19 0 2 := ⟨_, rfl, by decide, gu_0, Or.inl wd_153, nmX1, tyX1_ok⟩
theorem lk_X1_22 : g_lk RX1 22 0 3 := ⟨_, rfl, by decide, gu_0, Or.inl wd_155, nmX1, tyX1_ok⟩
theorem lk_X1_9 : g_lk RX1 9 0 0 := ⟨_, rfl, by decide, gu_0, Or.inl wd_150, nmX1, tyX1_ok⟩
theorem lk_X4_7 : g_lk RX4 7 3 0 := ⟨_, rfl, by decide, gu_3, Or.inl wd_692, nmX4, tyX4_ok⟩
theorem lk_X5_15 : g_lk RX5 15 4 1 := ⟨_, rfl, by decide, gu_4, Or.inl wd_54, nmX5, tyX5_ok⟩
theorem lk_X5_9 : g_lk RX5 9 4 0 := ⟨_, rfl, by decide, gu_4, Or.inl wd_50, nmX5, tyX5_ok⟩
theorem lk_X6_13 : g_lk RX6 13 5 1 := ⟨_, rfl, by decide, gu_5, Or.inl wd_518, nmX6, tyX6_ok⟩
theorem lk_X6_7 : g_lk RX6 7 5 0 := ⟨_, rfl, by decide, gu_5, Or.inl wd_516, nmX6, tyX6_ok⟩
theorem lk_X7_147 : g_lk RX7 147 5 2 := ⟨_, rfl, by decide, gu_5, Or.inr ⟨_, wn_521⟩, nmX6, tyX6_ok⟩
theorem lk_X7_15 : g_lk RX7 15 6 4 := ⟨_, rfl, by decide, gu_6, Or.inl wd_456, nmX7, tyX7_ok⟩
theorem lk_X7_176 : g_lk RX7 176 9 6 := ⟨_, rfl, by decide, gu_9, Or.inr ⟨_, wn_432⟩, nmX10, tyX10_ok⟩
theorem lk_X7_18 : g_lk RX7 18 6 0 := ⟨_, rfl, by decide, gu_6, Or.inl wd_452, nmX7, tyX7_ok⟩
theorem lk_X7_24 : g_lk RX7 24 4 1 := ⟨_, rfl, by decide, gu_4, Or.inr ⟨_, wn_53⟩, nmX5, tyX5_ok⟩
theorem lk_X7_32 : g_lk RX7 32 6 1 := ⟨_, rfl, by decide, gu_6, Or.inl wd_453, nmX7, tyX7_ok⟩
theorem lk_X7_40 : g_lk RX7 40 6 2 := ⟨_, rfl, by decide, gu_6, Or.inl wd_454, nmX7, tyX7_ok⟩
theorem lk_X7_73 : g_lk RX7 73 4 0 := ⟨_, rfl, by decide, gu_4, Or.inr ⟨_, wn_52⟩, nmX5, tyX5_ok⟩
theorem lk_X7_85 : g_lk RX7 85 9 7 := ⟨_, rfl, by decide, gu_9, Or.inr ⟨_, wn_433⟩, nmX10, tyX10_ok⟩
theorem lk_X7_9 : g_lk RX7 9 6 3 := ⟨_, rfl, by decide, gu_6, Or.inl wd_455, nmX7, tyX7_ok⟩
theorem lk_X7_92 : g_lk RX7 92 6 5 := ⟨_, rfl, by decide, gu_6, Or.inl wd_458, nmX7, tyX7_ok⟩
theorem lk_X8_15 : g_lk RX8 15 7 2 := ⟨_, rfl, by decide, gu_7, Or.inl wd_119, nmX8, tyX8_ok⟩
theorem lk_X8_19 : g_lk RX8 19 7 3 := ⟨_, rfl, by decide, gu_7, Or.inl wd_120, nmX8, tyX8_ok⟩
theorem lk_X8_32 : g_lk RX8 32 7 1 := ⟨_, rfl, by decide, gu_7, Or.inl wd_117, nmX8, tyX8_ok⟩
theorem lk_X8_9 : g_lk RX8 9 7 0 := ⟨_, rfl, by decide, gu_7, Or.inl wd_115, nmX8, tyX8_ok⟩
theorem lk_X9_11 : g_lk RX9 11 8 0 := ⟨_, rfl, by decide, gu_8, Or.inl wd_89, nmX9, tyX9_ok⟩
theorem lk_X9_19 : g_lk RX9 19 8 1 := ⟨_, rfl, by decide, gu_8, Or.inl wd_90, nmX9, tyX9_ok⟩
theorem lk_X9_28 : g_lk RX9 28 8 2 := ⟨_, rfl, by decide, gu_8, Or.inl wd_92, nmX9, tyX9_ok⟩
theorem lk_X9_32 : g_lk RX9 32 8 3 := ⟨_, rfl, by decide, gu_8, Or.inl wd_94, nmX9, tyX9_ok⟩
