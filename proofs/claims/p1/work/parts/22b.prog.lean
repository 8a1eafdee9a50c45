set_option maxRecDepth 8000 in
theorem zu_m0 : (Cond.code ({ cls := "ChainHouse$Bytes", name := "<init>", desc := "(I)V" } : MethodName) prog_3_method_1_code (2 : Nat) (Option.none : Option FieldType)) ∈ zu_ws := List.mem_of_getElem? (i := 0) (rfl)
set_option maxRecDepth 8000 in
theorem zu_m1 : (Cond.code ({ cls := "ChainHouse$Source", name := "<init>", desc := "()V" } : MethodName) prog_12_method_1_code (1 : Nat) (Option.none : Option FieldType)) ∈ zu_ws := List.mem_of_getElem? (i := 1) (rfl)
set_option maxRecDepth 8000 in
theorem zu_m2 : (Cond.code ({ cls := "ChainHouse$Contents", name := "<init>", desc := "()V" } : MethodName) prog_4_method_1_code (2 : Nat) (Option.none : Option FieldType)) ∈ zu_ws := List.mem_of_getElem? (i := 2) (rfl)
set_option maxRecDepth 8000 in
theorem zu_m3 : (Cond.code ({ cls := "ChainHouse$Scope", name := "<init>", desc := "()V" } : MethodName) prog_11_method_1_code (1 : Nat) (Option.none : Option FieldType)) ∈ zu_ws := List.mem_of_getElem? (i := 3) (rfl)
set_option maxRecDepth 8000 in
theorem zu_m4 : (Cond.code ({ cls := "ChainHouse$Assembler", name := "<init>", desc := "()V" } : MethodName) prog_2_method_1_code (1 : Nat) (Option.none : Option FieldType)) ∈ zu_ws := List.mem_of_getElem? (i := 4) (rfl)
set_option maxRecDepth 8000 in
theorem zu_m5 : (Cond.code ({ cls := "ChainHouse$ObjectFile", name := "<init>", desc := "()V" } : MethodName) prog_10_method_1_code (1 : Nat) (Option.none : Option FieldType)) ∈ zu_ws := List.mem_of_getElem? (i := 5) (rfl)
set_option maxRecDepth 8000 in
theorem zu_m6 : (Cond.code ({ cls := "ChainHouse$Globals", name := "<init>", desc := "()V" } : MethodName) prog_5_method_1_code (1 : Nat) (Option.none : Option FieldType)) ∈ zu_ws := List.mem_of_getElem? (i := 6) (rfl)
set_option maxRecDepth 8000 in
theorem zu_m7 : (Cond.code ({ cls := "ChainHouse$Layout", name := "<init>", desc := "()V" } : MethodName) prog_7_method_1_code (1 : Nat) (Option.none : Option FieldType)) ∈ zu_ws := List.mem_of_getElem? (i := 7) (rfl)
set_option maxRecDepth 8000 in
theorem zu_m8 : (Cond.code ({ cls := "ChainHouse$Image", name := "<init>", desc := "()V" } : MethodName) prog_6_method_1_code (2 : Nat) (Option.none : Option FieldType)) ∈ zu_ws := List.mem_of_getElem? (i := 8) (rfl)
set_option maxRecDepth 8000 in
theorem zu_m9 : (Cond.code ({ cls := "ChainHouse$Word", name := "<init>", desc := "()V" } : MethodName) prog_13_method_1_code (1 : Nat) (Option.none : Option FieldType)) ∈ zu_ws := List.mem_of_getElem? (i := 9) (rfl)
set_option maxRecDepth 8000 in
theorem zu_m10 : (Cond.code ({ cls := "ChainHouse$Linker", name := "<init>", desc := "()V" } : MethodName) prog_8_method_1_code (2 : Nat) (Option.none : Option FieldType)) ∈ zu_ws := List.mem_of_getElem? (i := 10) (rfl)
set_option maxRecDepth 8000 in
theorem zu_m11 : (Cond.code ({ cls := "ChainHouse$Machine", name := "<init>", desc := "()V" } : MethodName) prog_9_method_1_code (1 : Nat) (Option.none : Option FieldType)) ∈ zu_ws := List.mem_of_getElem? (i := 11) (rfl)
set_option maxRecDepth 8000 in
theorem zu_m12 : (Cond.code ({ cls := "ChainHouse", name := "<init>", desc := "()V" } : MethodName) prog_1_method_1_code (2 : Nat) (Option.none : Option FieldType)) ∈ zu_ws := List.mem_of_getElem? (i := 12) (rfl)
set_option maxRecDepth 8000 in
theorem zu_m13 : (Cond.code ({ cls := "ChainHouse", name := "isUnit", desc := "(I)Z" } : MethodName) prog_1_method_2_code (1 : Nat) (Option.some FieldType.boolean)) ∈ zu_ws := List.mem_of_getElem? (i := 13) (rfl)
set_option maxRecDepth 8000 in
theorem zu_m14 : (Cond.code ({ cls := "ChainHouse$Assembler", name := "source", desc := "()LChainHouse$Source;" } : MethodName) prog_2_method_2_code (1 : Nat) (Option.some (FieldType.object "ChainHouse$Source"))) ∈ zu_ws := List.mem_of_getElem? (i := 14) (rfl)
set_option maxRecDepth 8000 in
theorem zu_m15 : (Cond.code ({ cls := "ChainHouse$Bytes", name := "length", desc := "()I" } : MethodName) prog_3_method_2_code (1 : Nat) (Option.some FieldType.int)) ∈ zu_ws := List.mem_of_getElem? (i := 15) (rfl)
set_option maxRecDepth 8000 in
theorem zu_m16 : (Cond.code ({ cls := "ChainHouse$Source", name := "addWord", desc := "(IIII)V" } : MethodName) prog_12_method_3_code (5 : Nat) (Option.none : Option FieldType)) ∈ zu_ws := List.mem_of_getElem? (i := 16) (rfl)
set_option maxRecDepth 8000 in
theorem zu_m17 : (Cond.code ({ cls := "ChainHouse$Source", name := "sortAt", desc := "(I)I" } : MethodName) prog_12_method_19_code (2 : Nat) (Option.some FieldType.int)) ∈ zu_ws := List.mem_of_getElem? (i := 17) (rfl)
set_option maxRecDepth 8000 in
theorem zu_m18 : (Cond.code ({ cls := "ChainHouse$Source", name := "readLabels", desc := "()Z" } : MethodName) prog_12_method_28_code (5 : Nat) (Option.some FieldType.boolean)) ∈ zu_ws := List.mem_of_getElem? (i := 18) (rfl)
set_option maxRecDepth 8000 in
theorem zu_m19 : (Cond.code ({ cls := "ChainHouse$Source", name := "read", desc := "(LChainHouse$Bytes;)V" } : MethodName) prog_12_method_2_code (4 : Nat) (Option.none : Option FieldType)) ∈ zu_ws := List.mem_of_getElem? (i := 19) (rfl)
set_option maxRecDepth 8000 in
theorem zu_m20 : (Cond.code ({ cls := "ChainHouse$Bytes", name := "clear", desc := "()V" } : MethodName) prog_3_method_5_code (1 : Nat) (Option.none : Option FieldType)) ∈ zu_ws := List.mem_of_getElem? (i := 20) (rfl)
set_option maxRecDepth 8000 in
theorem zu_m21 : (Cond.code ({ cls := "ChainHouse$Contents", name := "clear", desc := "()V" } : MethodName) prog_4_method_2_code (2 : Nat) (Option.none : Option FieldType)) ∈ zu_ws := List.mem_of_getElem? (i := 21) (rfl)
set_option maxRecDepth 8000 in
theorem zu_m22 : (Cond.code ({ cls := "ChainHouse$Scope", name := "begin", desc := "()V" } : MethodName) prog_11_method_2_code (2 : Nat) (Option.none : Option FieldType)) ∈ zu_ws := List.mem_of_getElem? (i := 22) (rfl)
set_option maxRecDepth 8000 in
theorem zu_m23 : (Cond.code ({ cls := "ChainHouse$Scope", name := "finish", desc := "()V" } : MethodName) prog_11_method_13_code (3 : Nat) (Option.none : Option FieldType)) ∈ zu_ws := List.mem_of_getElem? (i := 23) (rfl)
set_option maxRecDepth 8000 in
theorem zu_m24 : (Cond.code ({ cls := "ChainHouse$ObjectFile", name := "orderSymbols", desc := "()V" } : MethodName) prog_10_method_3_code (4 : Nat) (Option.none : Option FieldType)) ∈ zu_ws := List.mem_of_getElem? (i := 24) (rfl)
set_option maxRecDepth 8000 in
theorem zu_m25 : (Cond.code ({ cls := "ChainHouse$Bytes", name := "add", desc := "(I)V" } : MethodName) prog_3_method_10_code (2 : Nat) (Option.none : Option FieldType)) ∈ zu_ws := List.mem_of_getElem? (i := 25) (rfl)
set_option maxRecDepth 8000 in
theorem zu_m26 : (Cond.code ({ cls := "ChainHouse$Bytes", name := "addNumber", desc := "(JI)V" } : MethodName) prog_3_method_11_code (5 : Nat) (Option.none : Option FieldType)) ∈ zu_ws := List.mem_of_getElem? (i := 26) (rfl)
set_option maxRecDepth 8000 in
theorem zu_m27 : (Cond.code ({ cls := "ChainHouse$Bytes", name := "beginFile", desc := "(I)V" } : MethodName) prog_3_method_26_code (3 : Nat) (Option.none : Option FieldType)) ∈ zu_ws := List.mem_of_getElem? (i := 27) (rfl)
set_option maxRecDepth 8000 in
theorem zu_m28 : (Cond.code ({ cls := "ChainHouse$Bytes", name := "addZeros", desc := "(I)V" } : MethodName) prog_3_method_13_code (3 : Nat) (Option.none : Option FieldType)) ∈ zu_ws := List.mem_of_getElem? (i := 28) (rfl)
set_option maxRecDepth 8000 in
theorem zu_m29 : (Cond.code ({ cls := "ChainHouse$ObjectFile", name := "relocationsOf", desc := "(I)I" } : MethodName) prog_10_method_5_code (4 : Nat) (Option.some FieldType.int)) ∈ zu_ws := List.mem_of_getElem? (i := 29) (rfl)
set_option maxRecDepth 8000 in
theorem zu_m30 : (Cond.code ({ cls := "ChainHouse$ObjectFile", name := "isThere", desc := "(I)Z" } : MethodName) prog_10_method_4_code (2 : Nat) (Option.some FieldType.boolean)) ∈ zu_ws := List.mem_of_getElem? (i := 30) (rfl)
set_option maxRecDepth 8000 in
theorem zu_m31 : (Cond.code ({ cls := "ChainHouse$ObjectFile", name := "alignmentOf", desc := "(I)I" } : MethodName) prog_10_method_6_code (2 : Nat) (Option.some FieldType.int)) ∈ zu_ws := List.mem_of_getElem? (i := 31) (rfl)
set_option maxRecDepth 8000 in
theorem zu_m32 : (Cond.code ({ cls := "ChainHouse$Bytes", name := "alignTo", desc := "(II)V" } : MethodName) prog_3_method_16_code (3 : Nat) (Option.none : Option FieldType)) ∈ zu_ws := List.mem_of_getElem? (i := 32) (rfl)
set_option maxRecDepth 8000 in
theorem zu_m33 : (Cond.code ({ cls := "ChainHouse$Bytes", name := "addAll", desc := "(LChainHouse$Bytes;)V" } : MethodName) prog_3_method_14_code (4 : Nat) (Option.none : Option FieldType)) ∈ zu_ws := List.mem_of_getElem? (i := 33) (rfl)
set_option maxRecDepth 8000 in
theorem zu_m34 : (Cond.code ({ cls := "ChainHouse$ObjectFile", name := "writeSymbols", desc := "(LChainHouse$Bytes;)V" } : MethodName) prog_10_method_9_code (7 : Nat) (Option.none : Option FieldType)) ∈ zu_ws := List.mem_of_getElem? (i := 34) (rfl)
set_option maxRecDepth 8000 in
theorem zu_m35 : (Cond.code ({ cls := "java/lang/String", name := "coder", desc := "()B" } : MethodName) prog_31_method_152_code (1 : Nat) (Option.some FieldType.byte)) ∈ zu_ws := List.mem_of_getElem? (i := 35) (rfl)
set_option maxRecDepth 8000 in
theorem zu_m36 : (Cond.code ({ cls := "java/lang/String", name := "length", desc := "()I" } : MethodName) prog_31_method_54_code (1 : Nat) (Option.some FieldType.int)) ∈ zu_ws := List.mem_of_getElem? (i := 36) (rfl)
set_option maxRecDepth 8000 in
theorem zu_m37 : (Cond.code ({ cls := "java/lang/String", name := "isLatin1", desc := "()Z" } : MethodName) prog_31_method_154_code (1 : Nat) (Option.some FieldType.boolean)) ∈ zu_ws := List.mem_of_getElem? (i := 37) (rfl)
set_option maxRecDepth 8000 in
theorem zu_m38 : (Cond.code ({ cls := "jdk/internal/util/Preconditions", name := "checkIndex", desc := "(IILjava/util/function/BiFunction;)I" } : MethodName) prog_38_method_11_code (3 : Nat) (Option.some FieldType.int)) ∈ zu_ws := List.mem_of_getElem? (i := 38) (rfl)
set_option maxRecDepth 8000 in
theorem zu_m39 : (Cond.code ({ cls := "java/lang/String", name := "checkIndex", desc := "(II)V" } : MethodName) prog_31_method_155_code (2 : Nat) (Option.none : Option FieldType)) ∈ zu_ws := List.mem_of_getElem? (i := 39) (rfl)
set_option maxRecDepth 8000 in
theorem zu_m40 : (Cond.code ({ cls := "java/lang/StringLatin1", name := "charAt", desc := "([BI)C" } : MethodName) prog_32_method_2_code (2 : Nat) (Option.some FieldType.char)) ∈ zu_ws := List.mem_of_getElem? (i := 40) (rfl)
set_option maxRecDepth 8000 in
theorem zu_m41 : (Cond.code ({ cls := "java/lang/String", name := "charAt", desc := "(I)C" } : MethodName) prog_31_method_56_code (2 : Nat) (Option.some FieldType.char)) ∈ zu_ws := List.mem_of_getElem? (i := 41) (rfl)
set_option maxRecDepth 8000 in
theorem zu_m42 : (Cond.code ({ cls := "ChainHouse$Bytes", name := "halfOfWord", desc := "(Ljava/lang/String;II)J" } : MethodName) prog_3_method_22_code (9 : Nat) (Option.some FieldType.long)) ∈ zu_ws := List.mem_of_getElem? (i := 42) (rfl)
set_option maxRecDepth 8000 in
theorem zu_m43 : (Cond.code ({ cls := "ChainHouse$Bytes", name := "nameByte", desc := "(JJI)I" } : MethodName) prog_3_method_20_code (5 : Nat) (Option.some FieldType.int)) ∈ zu_ws := List.mem_of_getElem? (i := 43) (rfl)
set_option maxRecDepth 8000 in
theorem zu_m44 : (Cond.code ({ cls := "ChainHouse$Bytes", name := "one", desc := "(I)I" } : MethodName) prog_3_method_7_code (2 : Nat) (Option.some FieldType.int)) ∈ zu_ws := List.mem_of_getElem? (i := 44) (rfl)
set_option maxRecDepth 8000 in
theorem zu_m45 : (Cond.code ({ cls := "ChainHouse$Bytes", name := "holdsName", desc := "(IJJ)Z" } : MethodName) prog_3_method_18_code (8 : Nat) (Option.some FieldType.boolean)) ∈ zu_ws := List.mem_of_getElem? (i := 45) (rfl)
set_option maxRecDepth 8000 in
theorem zu_m46 : (Cond.code ({ cls := "ChainHouse$Bytes", name := "placeOfName", desc := "(JJ)I" } : MethodName) prog_3_method_19_code (7 : Nat) (Option.some FieldType.int)) ∈ zu_ws := List.mem_of_getElem? (i := 46) (rfl)
set_option maxRecDepth 8000 in
theorem zu_m47 : (Cond.code ({ cls := "ChainHouse$ObjectFile", name := "writeNames", desc := "(LChainHouse$Bytes;)V" } : MethodName) prog_10_method_10_code (3 : Nat) (Option.none : Option FieldType)) ∈ zu_ws := List.mem_of_getElem? (i := 47) (rfl)
set_option maxRecDepth 8000 in
theorem zu_m48 : (Cond.code ({ cls := "ChainHouse$ObjectFile", name := "writePart", desc := "(ILChainHouse$Bytes;)V" } : MethodName) prog_10_method_7_code (4 : Nat) (Option.none : Option FieldType)) ∈ zu_ws := List.mem_of_getElem? (i := 48) (rfl)
set_option maxRecDepth 8000 in
theorem zu_m49 : (Cond.code ({ cls := "ChainHouse$Bytes", name := "put", desc := "(IJI)V" } : MethodName) prog_3_method_9_code (7 : Nat) (Option.none : Option FieldType)) ∈ zu_ws := List.mem_of_getElem? (i := 49) (rfl)
set_option maxRecDepth 8000 in
theorem zu_m50 : (Cond.code ({ cls := "ChainHouse$Contents", name := "shortStarts", desc := "()I" } : MethodName) prog_4_method_10_code (3 : Nat) (Option.some FieldType.int)) ∈ zu_ws := List.mem_of_getElem? (i := 50) (rfl)
set_option maxRecDepth 8000 in
theorem zu_m51 : (Cond.code ({ cls := "ChainHouse$ObjectFile", name := "linkOf", desc := "(I)I" } : MethodName) prog_10_method_12_code (2 : Nat) (Option.some FieldType.int)) ∈ zu_ws := List.mem_of_getElem? (i := 51) (rfl)
set_option maxRecDepth 8000 in
theorem zu_m52 : (Cond.code ({ cls := "ChainHouse$Contents", name := "locals", desc := "()I" } : MethodName) prog_4_method_12_code (3 : Nat) (Option.some FieldType.int)) ∈ zu_ws := List.mem_of_getElem? (i := 52) (rfl)
set_option maxRecDepth 8000 in
theorem zu_m53 : (Cond.code ({ cls := "ChainHouse$ObjectFile", name := "infoOf", desc := "(I)I" } : MethodName) prog_10_method_13_code (2 : Nat) (Option.some FieldType.int)) ∈ zu_ws := List.mem_of_getElem? (i := 53) (rfl)
set_option maxRecDepth 8000 in
theorem zu_m54 : (Cond.code ({ cls := "ChainHouse$ObjectFile", name := "writeTable", desc := "(LChainHouse$Bytes;)V" } : MethodName) prog_10_method_11_code (3 : Nat) (Option.none : Option FieldType)) ∈ zu_ws := List.mem_of_getElem? (i := 54) (rfl)
set_option maxRecDepth 8000 in
theorem zu_m55 : (Cond.code ({ cls := "ChainHouse$ObjectFile", name := "write", desc := "(LChainHouse$Contents;LChainHouse$Bytes;)V" } : MethodName) prog_10_method_2_code (4 : Nat) (Option.none : Option FieldType)) ∈ zu_ws := List.mem_of_getElem? (i := 55) (rfl)
set_option maxRecDepth 8000 in
theorem zu_m56 : (Cond.code ({ cls := "ChainHouse$Assembler", name := "make", desc := "(LChainHouse$ObjectFile;LChainHouse$Bytes;)I" } : MethodName) prog_2_method_3_code (7 : Nat) (Option.some FieldType.int)) ∈ zu_ws := List.mem_of_getElem? (i := 56) (rfl)
set_option maxRecDepth 8000 in
theorem zu_m57 : (Cond.code ({ cls := "ChainHouse$Bytes", name := "copy", desc := "(LChainHouse$Bytes;)V" } : MethodName) prog_3_method_15_code (2 : Nat) (Option.none : Option FieldType)) ∈ zu_ws := List.mem_of_getElem? (i := 57) (rfl)
set_option maxRecDepth 8000 in
theorem zu_m58 : (Cond.code ({ cls := "ChainHouse", name := "assemble", desc := "(I)I" } : MethodName) prog_1_method_7_code (3 : Nat) (Option.some FieldType.int)) ∈ zu_ws := List.mem_of_getElem? (i := 58) (rfl)
set_option maxRecDepth 8000 in
theorem zu_m59 : (Cond.code ({ cls := "ChainHouse$Machine", name := "undo", desc := "(I)I" } : MethodName) prog_9_method_30_code (3 : Nat) (Option.some FieldType.int)) ∈ zu_ws := List.mem_of_getElem? (i := 59) (rfl)
set_option maxRecDepth 8000 in
theorem zu_m60 : (Cond.code ({ cls := "ChainHouse", name := "back", desc := "(I)I" } : MethodName) prog_1_method_24_code (2 : Nat) (Option.some FieldType.int)) ∈ zu_ws := List.mem_of_getElem? (i := 60) (rfl)
set_option maxRecDepth 8000 in
theorem zu_m61 : (Cond.code ({ cls := "ChainHouse", name := "fileOf", desc := "(I)LChainHouse$Bytes;" } : MethodName) prog_1_method_3_code (2 : Nat) (Option.some (FieldType.object "ChainHouse$Bytes"))) ∈ zu_ws := List.mem_of_getElem? (i := 61) (rfl)
set_option maxRecDepth 8000 in
theorem zu_m62 : (Cond.code ({ cls := "ChainHouse$Bytes", name := "has", desc := "(I)Z" } : MethodName) prog_3_method_4_code (2 : Nat) (Option.some FieldType.boolean)) ∈ zu_ws := List.mem_of_getElem? (i := 62) (rfl)
set_option maxRecDepth 8000 in
theorem zu_m63 : (Cond.code ({ cls := "ChainHouse", name := "byteAt", desc := "(II)I" } : MethodName) prog_1_method_14_code (4 : Nat) (Option.some FieldType.int)) ∈ zu_ws := List.mem_of_getElem? (i := 63) (rfl)
set_option maxRecDepth 8000 in
theorem zu_m64 : (Cond.code ({ cls := "ChainHouse$Bytes", name := "headFault", desc := "(I)I" } : MethodName) prog_3_method_27_code (4 : Nat) (Option.some FieldType.int)) ∈ zu_ws := List.mem_of_getElem? (i := 64) (rfl)
set_option maxRecDepth 8000 in
theorem zu_m65 : (Cond.code ({ cls := "ChainHouse$ObjectFile", name := "fail", desc := "(II)Z" } : MethodName) prog_10_method_15_code (3 : Nat) (Option.some FieldType.boolean)) ∈ zu_ws := List.mem_of_getElem? (i := 65) (rfl)
set_option maxRecDepth 8000 in
theorem zu_m66 : (Cond.code ({ cls := "ChainHouse$ObjectFile", name := "readHeader", desc := "()Z" } : MethodName) prog_10_method_17_code (4 : Nat) (Option.some FieldType.boolean)) ∈ zu_ws := List.mem_of_getElem? (i := 66) (rfl)
set_option maxRecDepth 8000 in
theorem zu_m67 : (Cond.code ({ cls := "ChainHouse$ObjectFile", name := "read", desc := "(LChainHouse$Bytes;LChainHouse$Contents;)I" } : MethodName) prog_10_method_14_code (4 : Nat) (Option.some FieldType.int)) ∈ zu_ws := List.mem_of_getElem? (i := 67) (rfl)
set_option maxRecDepth 8000 in
theorem zu_m68 : (Cond.code ({ cls := "ChainHouse", name := "check", desc := "(I)I" } : MethodName) prog_1_method_15_code (4 : Nat) (Option.some FieldType.int)) ∈ zu_ws := List.mem_of_getElem? (i := 68) (rfl)
set_option maxRecDepth 8000 in
theorem zu_m69 : (Cond.code ({ cls := "ChainHouse$Bytes", name := "shorten", desc := "(I)V" } : MethodName) prog_3_method_6_code (2 : Nat) (Option.none : Option FieldType)) ∈ zu_ws := List.mem_of_getElem? (i := 69) (rfl)
set_option maxRecDepth 8000 in
theorem zu_m70 : (Cond.code ({ cls := "ChainHouse", name := "cut", desc := "(II)Z" } : MethodName) prog_1_method_11_code (4 : Nat) (Option.some FieldType.boolean)) ∈ zu_ws := List.mem_of_getElem? (i := 70) (rfl)
set_option maxRecDepth 8000 in
theorem zu_m71 : (Cond.code ({ cls := "ChainHouse$Bytes", name := "room", desc := "()I" } : MethodName) prog_3_method_3_code (1 : Nat) (Option.some FieldType.int)) ∈ zu_ws := List.mem_of_getElem? (i := 71) (rfl)
set_option maxRecDepth 8000 in
theorem zu_m72 : (Cond.code ({ cls := "ChainHouse", name := "end", desc := "(I)I" } : MethodName) prog_1_method_6_code (3 : Nat) (Option.some FieldType.int)) ∈ zu_ws := List.mem_of_getElem? (i := 72) (rfl)
set_option maxRecDepth 8000 in
theorem zu_m73 : (Cond.code ({ cls := "ChainHouse$Bytes", name := "addHighest", desc := "(IJ)Z" } : MethodName) prog_3_method_12_code (5 : Nat) (Option.some FieldType.boolean)) ∈ zu_ws := List.mem_of_getElem? (i := 73) (rfl)
set_option maxRecDepth 8000 in
theorem zu_m74 : (Cond.code ({ cls := "ChainHouse", name := "extend", desc := "(IIJ)Z" } : MethodName) prog_1_method_10_code (6 : Nat) (Option.some FieldType.boolean)) ∈ zu_ws := List.mem_of_getElem? (i := 74) (rfl)
set_option maxRecDepth 8000 in
theorem zu_m75 : (Cond.code ({ cls := "ChainHouse", name := "fault", desc := "(I)I" } : MethodName) prog_1_method_8_code (2 : Nat) (Option.some FieldType.int)) ∈ zu_ws := List.mem_of_getElem? (i := 75) (rfl)
set_option maxRecDepth 8000 in
theorem zu_m76 : (Cond.code ({ cls := "ChainHouse", name := "fourWait", desc := "(II)V" } : MethodName) prog_1_method_5_code (4 : Nat) (Option.none : Option FieldType)) ∈ zu_ws := List.mem_of_getElem? (i := 76) (rfl)
set_option maxRecDepth 8000 in
theorem zu_m77 : (Cond.code ({ cls := "ChainHouse", name := "feed", desc := "(IIIII)V" } : MethodName) prog_1_method_4_code (6 : Nat) (Option.none : Option FieldType)) ∈ zu_ws := List.mem_of_getElem? (i := 77) (rfl)
set_option maxRecDepth 8000 in
theorem zu_m78 : (Cond.code ({ cls := "ChainHouse", name := "get", desc := "(I)I" } : MethodName) prog_1_method_26_code (2 : Nat) (Option.some FieldType.int)) ∈ zu_ws := List.mem_of_getElem? (i := 78) (rfl)
set_option maxRecDepth 8000 in
theorem zu_m79 : (Cond.code ({ cls := "ChainHouse$Machine", name := "haltAt", desc := "(I)I" } : MethodName) prog_9_method_29_code (3 : Nat) (Option.some FieldType.int)) ∈ zu_ws := List.mem_of_getElem? (i := 79) (rfl)
set_option maxRecDepth 8000 in
theorem zu_m80 : (Cond.code ({ cls := "ChainHouse$Machine", name := "addHalt", desc := "(I)Z" } : MethodName) prog_9_method_34_code (2 : Nat) (Option.some FieldType.boolean)) ∈ zu_ws := List.mem_of_getElem? (i := 80) (rfl)
set_option maxRecDepth 8000 in
theorem zu_m81 : (Cond.code ({ cls := "ChainHouse$Machine", name := "dropHalt", desc := "(I)Z" } : MethodName) prog_9_method_35_code (3 : Nat) (Option.some FieldType.boolean)) ∈ zu_ws := List.mem_of_getElem? (i := 81) (rfl)
set_option maxRecDepth 8000 in
theorem zu_m82 : (Cond.code ({ cls := "ChainHouse", name := "halt", desc := "(IZ)Z" } : MethodName) prog_1_method_29_code (3 : Nat) (Option.some FieldType.boolean)) ∈ zu_ws := List.mem_of_getElem? (i := 82) (rfl)
set_option maxRecDepth 8000 in
theorem zu_m83 : (Cond.code ({ cls := "ChainHouse$Machine", name := "fill", desc := "(IJ)Z" } : MethodName) prog_9_method_33_code (4 : Nat) (Option.some FieldType.boolean)) ∈ zu_ws := List.mem_of_getElem? (i := 83) (rfl)
set_option maxRecDepth 8000 in
theorem zu_m84 : (Cond.code ({ cls := "ChainHouse", name := "input", desc := "(IJ)Z" } : MethodName) prog_1_method_28_code (4 : Nat) (Option.some FieldType.boolean)) ∈ zu_ws := List.mem_of_getElem? (i := 84) (rfl)
set_option maxRecDepth 8000 in
theorem zu_m85 : (Cond.code ({ cls := "ChainHouse", name := "letter", desc := "(I)I" } : MethodName) prog_1_method_34_code (2 : Nat) (Option.some FieldType.int)) ∈ zu_ws := List.mem_of_getElem? (i := 85) (rfl)
set_option maxRecDepth 8000 in
theorem zu_m86 : (Cond.code ({ cls := "ChainHouse$Linker", name := "tellReading", desc := "(II)V" } : MethodName) prog_8_method_4_code (3 : Nat) (Option.none : Option FieldType)) ∈ zu_ws := List.mem_of_getElem? (i := 86) (rfl)
set_option maxRecDepth 8000 in
theorem zu_m87 : (Cond.code ({ cls := "ChainHouse$Linker", name := "join", desc := "([LChainHouse$Bytes;IZLChainHouse$ObjectFile;LChainHouse$Bytes;)I" } : MethodName) prog_8_method_2_code (7 : Nat) (Option.some FieldType.int)) ∈ zu_ws := List.mem_of_getElem? (i := 87) (rfl)
set_option maxRecDepth 8000 in
theorem zu_m88 : (Cond.code ({ cls := "ChainHouse", name := "link", desc := "(IZ)I" } : MethodName) prog_1_method_17_code (3 : Nat) (Option.some FieldType.int)) ∈ zu_ws := List.mem_of_getElem? (i := 88) (rfl)
set_option maxRecDepth 8000 in
theorem zu_m89 : (Cond.code ({ cls := "ChainHouse", name := "linked", desc := "(I)I" } : MethodName) prog_1_method_18_code (2 : Nat) (Option.some FieldType.int)) ∈ zu_ws := List.mem_of_getElem? (i := 89) (rfl)
set_option maxRecDepth 8000 in
theorem zu_m90 : (Cond.code ({ cls := "ChainHouse$Image", name := "clear", desc := "()V" } : MethodName) prog_6_method_2_code (2 : Nat) (Option.none : Option FieldType)) ∈ zu_ws := List.mem_of_getElem? (i := 90) (rfl)
set_option maxRecDepth 8000 in
theorem zu_m91 : (Cond.code ({ cls := "ChainHouse$Image", name := "fail", desc := "(II)Z" } : MethodName) prog_6_method_21_code (3 : Nat) (Option.some FieldType.boolean)) ∈ zu_ws := List.mem_of_getElem? (i := 91) (rfl)
set_option maxRecDepth 8000 in
theorem zu_m92 : (Cond.code ({ cls := "ChainHouse$Image", name := "readHeader", desc := "()Z" } : MethodName) prog_6_method_23_code (4 : Nat) (Option.some FieldType.boolean)) ∈ zu_ws := List.mem_of_getElem? (i := 92) (rfl)
set_option maxRecDepth 8000 in
theorem zu_m93 : (Cond.code ({ cls := "ChainHouse$Image", name := "read", desc := "(LChainHouse$Bytes;)I" } : MethodName) prog_6_method_20_code (3 : Nat) (Option.some FieldType.int)) ∈ zu_ws := List.mem_of_getElem? (i := 93) (rfl)
set_option maxRecDepth 8000 in
theorem zu_m94 : (Cond.code ({ cls := "ChainHouse", name := "load", desc := "()I" } : MethodName) prog_1_method_20_code (2 : Nat) (Option.some FieldType.int)) ∈ zu_ws := List.mem_of_getElem? (i := 94) (rfl)
set_option maxRecDepth 8000 in
theorem zu_m95 : (Cond.code ({ cls := "ChainHouse$Contents", name := "extent", desc := "(I)I" } : MethodName) prog_4_method_3_code (2 : Nat) (Option.some FieldType.int)) ∈ zu_ws := List.mem_of_getElem? (i := 95) (rfl)
set_option maxRecDepth 8000 in
theorem zu_m96 : (Cond.code ({ cls := "ChainHouse$Contents", name := "toldOfSymbol", desc := "(II)I" } : MethodName) prog_4_method_15_code (4 : Nat) (Option.some FieldType.int)) ∈ zu_ws := List.mem_of_getElem? (i := 96) (rfl)
set_option maxRecDepth 8000 in
theorem zu_m97 : (Cond.code ({ cls := "ChainHouse$Contents", name := "count", desc := "(I)I" } : MethodName) prog_4_method_14_code (2 : Nat) (Option.some FieldType.int)) ∈ zu_ws := List.mem_of_getElem? (i := 97) (rfl)
set_option maxRecDepth 8000 in
theorem zu_m98 : (Cond.code ({ cls := "ChainHouse$Contents", name := "told", desc := "(III)I" } : MethodName) prog_4_method_13_code (4 : Nat) (Option.some FieldType.int)) ∈ zu_ws := List.mem_of_getElem? (i := 98) (rfl)
set_option maxRecDepth 8000 in
theorem zu_m99 : (Cond.code ({ cls := "ChainHouse", name := "object", desc := "(III)I" } : MethodName) prog_1_method_16_code (4 : Nat) (Option.some FieldType.int)) ∈ zu_ws := List.mem_of_getElem? (i := 99) (rfl)
set_option maxRecDepth 8000 in
theorem zu_m100 : (Cond.code ({ cls := "ChainHouse", name := "output", desc := "(I)I" } : MethodName) prog_1_method_31_code (2 : Nat) (Option.some FieldType.int)) ∈ zu_ws := List.mem_of_getElem? (i := 100) (rfl)
set_option maxRecDepth 8000 in
theorem zu_m101 : (Cond.code ({ cls := "ChainHouse$Machine", name := "byteOf", desc := "(I)I" } : MethodName) prog_9_method_5_code (2 : Nat) (Option.some FieldType.int)) ∈ zu_ws := List.mem_of_getElem? (i := 101) (rfl)
set_option maxRecDepth 8000 in
theorem zu_m102 : (Cond.code ({ cls := "ChainHouse", name := "peek", desc := "(I)I" } : MethodName) prog_1_method_27_code (2 : Nat) (Option.some FieldType.int)) ∈ zu_ws := List.mem_of_getElem? (i := 102) (rfl)
set_option maxRecDepth 8000 in
theorem zu_m103 : (Cond.code ({ cls := "ChainHouse", name := "place", desc := "()I" } : MethodName) prog_1_method_21_code (1 : Nat) (Option.some FieldType.int)) ∈ zu_ws := List.mem_of_getElem? (i := 103) (rfl)
set_option maxRecDepth 8000 in
theorem zu_m104 : (Cond.code ({ cls := "ChainHouse$Machine", name := "rightsOf", desc := "(I)I" } : MethodName) prog_9_method_3_code (3 : Nat) (Option.some FieldType.int)) ∈ zu_ws := List.mem_of_getElem? (i := 104) (rfl)
set_option maxRecDepth 8000 in
theorem zu_m105 : (Cond.code ({ cls := "ChainHouse$Machine", name := "isMarked", desc := "(I)Z" } : MethodName) prog_9_method_4_code (3 : Nat) (Option.some FieldType.boolean)) ∈ zu_ws := List.mem_of_getElem? (i := 105) (rfl)
set_option maxRecDepth 8000 in
theorem zu_m106 : (Cond.code ({ cls := "ChainHouse", name := "rights", desc := "(I)I" } : MethodName) prog_1_method_32_code (2 : Nat) (Option.some FieldType.int)) ∈ zu_ws := List.mem_of_getElem? (i := 106) (rfl)
set_option maxRecDepth 8000 in
theorem zu_m107 : (Cond.code ({ cls := "ChainHouse$Machine", name := "isEnd", desc := "()Z" } : MethodName) prog_9_method_9_code (1 : Nat) (Option.some FieldType.boolean)) ∈ zu_ws := List.mem_of_getElem? (i := 107) (rfl)
set_option maxRecDepth 8000 in
theorem zu_m108 : (Cond.code ({ cls := "ChainHouse$Machine", name := "become", desc := "(II)V" } : MethodName) prog_9_method_10_code (3 : Nat) (Option.none : Option FieldType)) ∈ zu_ws := List.mem_of_getElem? (i := 108) (rfl)
set_option maxRecDepth 8000 in
theorem zu_m109 : (Cond.code ({ cls := "ChainHouse$Machine", name := "mayFetch", desc := "(I)Z" } : MethodName) prog_9_method_12_code (4 : Nat) (Option.some FieldType.boolean)) ∈ zu_ws := List.mem_of_getElem? (i := 109) (rfl)
set_option maxRecDepth 8000 in
theorem zu_m110 : (Cond.code ({ cls := "ChainHouse$Machine", name := "advance", desc := "()Z" } : MethodName) prog_9_method_11_code (3 : Nat) (Option.some FieldType.boolean)) ∈ zu_ws := List.mem_of_getElem? (i := 110) (rfl)
set_option maxRecDepth 8000 in
theorem zu_m111 : (Cond.code ({ cls := "ChainHouse$Machine", name := "advanceUnits", desc := "(I)I" } : MethodName) prog_9_method_28_code (6 : Nat) (Option.some FieldType.int)) ∈ zu_ws := List.mem_of_getElem? (i := 111) (rfl)
set_option maxRecDepth 8000 in
theorem zu_m112 : (Cond.code ({ cls := "ChainHouse", name := "run", desc := "(I)I" } : MethodName) prog_1_method_23_code (2 : Nat) (Option.some FieldType.int)) ∈ zu_ws := List.mem_of_getElem? (i := 112) (rfl)
set_option maxRecDepth 8000 in
theorem zu_m113 : (Cond.code ({ cls := "ChainHouse$Machine", name := "change", desc := "(II)Z" } : MethodName) prog_9_method_32_code (3 : Nat) (Option.some FieldType.boolean)) ∈ zu_ws := List.mem_of_getElem? (i := 113) (rfl)
set_option maxRecDepth 8000 in
theorem zu_m114 : (Cond.code ({ cls := "ChainHouse", name := "set", desc := "(II)Z" } : MethodName) prog_1_method_25_code (3 : Nat) (Option.some FieldType.boolean)) ∈ zu_ws := List.mem_of_getElem? (i := 114) (rfl)
set_option maxRecDepth 8000 in
theorem zu_m115 : (Cond.code ({ cls := "ChainHouse", name := "size", desc := "(I)I" } : MethodName) prog_1_method_13_code (3 : Nat) (Option.some FieldType.int)) ∈ zu_ws := List.mem_of_getElem? (i := 115) (rfl)
set_option maxRecDepth 8000 in
theorem zu_m116 : (Cond.code ({ cls := "ChainHouse", name := "spoil", desc := "(III)I" } : MethodName) prog_1_method_12_code (6 : Nat) (Option.some FieldType.int)) ∈ zu_ws := List.mem_of_getElem? (i := 116) (rfl)
set_option maxRecDepth 8000 in
theorem zu_m117 : (Cond.code ({ cls := "ChainHouse$Machine", name := "told", desc := "(I)I" } : MethodName) prog_9_method_36_code (2 : Nat) (Option.some FieldType.int)) ∈ zu_ws := List.mem_of_getElem? (i := 117) (rfl)
set_option maxRecDepth 8000 in
theorem zu_m118 : (Cond.code ({ cls := "ChainHouse", name := "state", desc := "(I)I" } : MethodName) prog_1_method_30_code (2 : Nat) (Option.some FieldType.int)) ∈ zu_ws := List.mem_of_getElem? (i := 118) (rfl)
set_option maxRecDepth 8000 in
theorem zu_m119 : (Cond.code ({ cls := "ChainHouse", name := "step", desc := "()I" } : MethodName) prog_1_method_22_code (1 : Nat) (Option.some FieldType.int)) ∈ zu_ws := List.mem_of_getElem? (i := 119) (rfl)
set_option maxRecDepth 8000 in
theorem zu_m120 : (Cond.code ({ cls := "ChainHouse", name := "take", desc := "(I)I" } : MethodName) prog_1_method_9_code (2 : Nat) (Option.some FieldType.int)) ∈ zu_ws := List.mem_of_getElem? (i := 120) (rfl)
set_option maxRecDepth 8000 in
theorem zu_m121 : (Cond.code ({ cls := "ChainHouse$Machine", name := "read", desc := "(II)I" } : MethodName) prog_9_method_6_code (6 : Nat) (Option.some FieldType.int)) ∈ zu_ws := List.mem_of_getElem? (i := 121) (rfl)
set_option maxRecDepth 8000 in
theorem zu_m122 : (Cond.code ({ cls := "ChainHouse$Word", name := "register", desc := "(II)I" } : MethodName) prog_13_method_3_code (2 : Nat) (Option.some FieldType.int)) ∈ zu_ws := List.mem_of_getElem? (i := 122) (rfl)
set_option maxRecDepth 8000 in
theorem zu_m123 : (Cond.code ({ cls := "ChainHouse$Word", name := "immediate", desc := "(II)I" } : MethodName) prog_13_method_4_code (5 : Nat) (Option.some FieldType.int)) ∈ zu_ws := List.mem_of_getElem? (i := 123) (rfl)
set_option maxRecDepth 8000 in
theorem zu_m124 : (Cond.code ({ cls := "ChainHouse$Word", name := "mayHave", desc := "(ICI)Z" } : MethodName) prog_13_method_5_code (6 : Nat) (Option.some FieldType.boolean)) ∈ zu_ws := List.mem_of_getElem? (i := 124) (rfl)
set_option maxRecDepth 8000 in
theorem zu_m125 : (Cond.code ({ cls := "ChainHouse$Word", name := "mayHave", desc := "(IJ)Z" } : MethodName) prog_13_method_6_code (7 : Nat) (Option.some FieldType.boolean)) ∈ zu_ws := List.mem_of_getElem? (i := 125) (rfl)
set_option maxRecDepth 8000 in
theorem zu_m126 : (Cond.code ({ cls := "ChainHouse$Word", name := "read", desc := "(I)V" } : MethodName) prog_13_method_2_code (7 : Nat) (Option.none : Option FieldType)) ∈ zu_ws := List.mem_of_getElem? (i := 126) (rfl)
set_option maxRecDepth 8000 in
theorem zu_m127 : (Cond.code ({ cls := "ChainHouse$Bytes", name := "addWord", desc := "(Ljava/lang/String;I)V" } : MethodName) prog_3_method_23_code (8 : Nat) (Option.none : Option FieldType)) ∈ zu_ws := List.mem_of_getElem? (i := 127) (rfl)
set_option maxRecDepth 8000 in
theorem zu_m128 : (Cond.code ({ cls := "ChainHouse$Bytes", name := "addHex", desc := "(I)V" } : MethodName) prog_3_method_24_code (5 : Nat) (Option.none : Option FieldType)) ∈ zu_ws := List.mem_of_getElem? (i := 128) (rfl)
set_option maxRecDepth 8000 in
theorem zu_m129 : (Cond.code ({ cls := "ChainHouse$Word", name := "spell", desc := "(IILChainHouse$Bytes;)V" } : MethodName) prog_13_method_12_code (6 : Nat) (Option.none : Option FieldType)) ∈ zu_ws := List.mem_of_getElem? (i := 129) (rfl)
set_option maxRecDepth 8000 in
theorem zu_m130 : (Cond.code ({ cls := "ChainHouse$Machine", name := "spell", desc := "(ILChainHouse$Bytes;)V" } : MethodName) prog_9_method_8_code (4 : Nat) (Option.none : Option FieldType)) ∈ zu_ws := List.mem_of_getElem? (i := 130) (rfl)
set_option maxRecDepth 8000 in
theorem zu_m131 : (Cond.code ({ cls := "ChainHouse", name := "tell", desc := "(I)I" } : MethodName) prog_1_method_33_code (2 : Nat) (Option.some FieldType.int)) ∈ zu_ws := List.mem_of_getElem? (i := 131) (rfl)
set_option maxRecDepth 8000 in
theorem zu_m132 : (Cond.code ({ cls := "ChainHouse$Globals", name := "find", desc := "(JJ)I" } : MethodName) prog_5_method_2_code (6 : Nat) (Option.some FieldType.int)) ∈ zu_ws := List.mem_of_getElem? (i := 132) (rfl)
set_option maxRecDepth 8000 in
theorem zu_m133 : (Cond.code ({ cls := "ChainHouse$Linker", name := "knownGlobal", desc := "(JJ)I" } : MethodName) prog_8_method_50_code (13 : Nat) (Option.some FieldType.int)) ∈ zu_ws := List.mem_of_getElem? (i := 133) (rfl)
set_option maxRecDepth 8000 in
theorem zu_m134 : (Cond.code ({ cls := "ChainHouse", name := "where", desc := "(JJ)I" } : MethodName) prog_1_method_19_code (6 : Nat) (Option.some FieldType.int)) ∈ zu_ws := List.mem_of_getElem? (i := 134) (rfl)
set_option maxRecDepth 8000 in
theorem zu_m135 : (Cond.code ({ cls := "ChainHouseModel$CodeWordsModel", name := "fix", desc := "(IIII)V" } : MethodName) prog_16_method_4_code (6 : Nat) (Option.none : Option FieldType)) ∈ zu_ws := List.mem_of_getElem? (i := 135) (rfl)
set_option maxRecDepth 8000 in
theorem zu_m136 : (Cond.code ({ cls := "ChainHouseModel$CodeWordsModel", name := "opcodeOf", desc := "(I)I" } : MethodName) prog_16_method_5_code (1 : Nat) (Option.some FieldType.int)) ∈ zu_ws := List.mem_of_getElem? (i := 136) (rfl)
set_option maxRecDepth 8000 in
theorem zu_m137 : (Cond.code ({ cls := "ChainHouseModel$CodeWordsModel", name := "lay", desc := "(IIIII)V" } : MethodName) prog_16_method_3_code (7 : Nat) (Option.none : Option FieldType)) ∈ zu_ws := List.mem_of_getElem? (i := 137) (rfl)
set_option maxRecDepth 8000 in
theorem zu_m138 : (Cond.code ({ cls := "ChainHouseModel$CodeWordsModel", name := "thirdOf", desc := "(I)I" } : MethodName) prog_16_method_6_code (1 : Nat) (Option.some FieldType.int)) ∈ zu_ws := List.mem_of_getElem? (i := 138) (rfl)
set_option maxRecDepth 8000 in
theorem zu_m139 : (Cond.code ({ cls := "ChainHouseModel$CodeWordsModel", name := "isBranch", desc := "(I)Z" } : MethodName) prog_16_method_8_code (1 : Nat) (Option.some FieldType.boolean)) ∈ zu_ws := List.mem_of_getElem? (i := 139) (rfl)
set_option maxRecDepth 8000 in
theorem zu_m140 : (Cond.code ({ cls := "ChainHouseModel$CodeWordsModel", name := "isStore", desc := "(I)Z" } : MethodName) prog_16_method_9_code (1 : Nat) (Option.some FieldType.boolean)) ∈ zu_ws := List.mem_of_getElem? (i := 140) (rfl)
set_option maxRecDepth 8000 in
theorem zu_m141 : (Cond.code ({ cls := "ChainHouseModel$CodeWordsModel", name := "seventhOf", desc := "(I)I" } : MethodName) prog_16_method_7_code (1 : Nat) (Option.some FieldType.int)) ∈ zu_ws := List.mem_of_getElem? (i := 141) (rfl)
set_option maxRecDepth 8000 in
theorem zu_m142 : (Cond.code ({ cls := "ChainHouseModel$CodeWordsModel", name := "isShift", desc := "(I)Z" } : MethodName) prog_16_method_10_code (1 : Nat) (Option.some FieldType.boolean)) ∈ zu_ws := List.mem_of_getElem? (i := 142) (rfl)
set_option maxRecDepth 8000 in
theorem zu_m143 : (Cond.code ({ cls := "ChainHouseModel$CodeWordsModel", name := "layLong", desc := "(I)V" } : MethodName) prog_16_method_11_code (2 : Nat) (Option.none : Option FieldType)) ∈ zu_ws := List.mem_of_getElem? (i := 143) (rfl)
set_option maxRecDepth 8000 in
theorem zu_m144 : (Cond.code ({ cls := "ChainHouseModel$CodeWordsModel", name := "ends", desc := "(III)V" } : MethodName) prog_16_method_13_code (4 : Nat) (Option.none : Option FieldType)) ∈ zu_ws := List.mem_of_getElem? (i := 144) (rfl)
set_option maxRecDepth 8000 in
theorem zu_m145 : (Cond.code ({ cls := "ChainHouseModel$CodeWordsModel", name := "one", desc := "(III)V" } : MethodName) prog_16_method_12_code (4 : Nat) (Option.none : Option FieldType)) ∈ zu_ws := List.mem_of_getElem? (i := 145) (rfl)
set_option maxRecDepth 8000 in
theorem zu_m146 : (Cond.code ({ cls := "ChainHouseModel$CodeWordsModel", name := "layJump", desc := "(II)V" } : MethodName) prog_16_method_15_code (3 : Nat) (Option.none : Option FieldType)) ∈ zu_ws := List.mem_of_getElem? (i := 146) (rfl)
set_option maxRecDepth 8000 in
theorem zu_m147 : (Cond.code ({ cls := "ChainHouseModel$CodeWordsModel", name := "layShort", desc := "()V" } : MethodName) prog_16_method_14_code (2 : Nat) (Option.none : Option FieldType)) ∈ zu_ws := List.mem_of_getElem? (i := 147) (rfl)
set_option maxRecDepth 8000 in
theorem zu_m148 : (Cond.code ({ cls := "ChainHouseModel$CodeWordsModel", name := "<init>", desc := "()V" } : MethodName) prog_16_method_1_code (2 : Nat) (Option.none : Option FieldType)) ∈ zu_ws := List.mem_of_getElem? (i := 148) (rfl)
set_option maxRecDepth 8000 in
theorem zu_m149 : (Cond.code ({ cls := "ChainHouseModel$UnitTextModel", name := "<init>", desc := "()V" } : MethodName) prog_21_method_1_code (1 : Nat) (Option.none : Option FieldType)) ∈ zu_ws := List.mem_of_getElem? (i := 149) (rfl)
set_option maxRecDepth 8000 in
theorem zu_m150 : (Cond.code ({ cls := "ChainHouseModel$ObjectFileModel", name := "letterOf", desc := "(I)V" } : MethodName) prog_18_method_3_code (2 : Nat) (Option.none : Option FieldType)) ∈ zu_ws := List.mem_of_getElem? (i := 150) (rfl)
set_option maxRecDepth 8000 in
theorem zu_m151 : (Cond.code ({ cls := "ChainHouseModel$ObjectFileModel", name := "title", desc := "(IIIIIIIII)V" } : MethodName) prog_18_method_4_code (10 : Nat) (Option.none : Option FieldType)) ∈ zu_ws := List.mem_of_getElem? (i := 151) (rfl)
set_option maxRecDepth 8000 in
theorem zu_m152 : (Cond.code ({ cls := "ChainHouseModel$ObjectFileModel", name := "<init>", desc := "()V" } : MethodName) prog_18_method_1_code (2 : Nat) (Option.none : Option FieldType)) ∈ zu_ws := List.mem_of_getElem? (i := 152) (rfl)
set_option maxRecDepth 8000 in
theorem zu_m153 : (Cond.code ({ cls := "ChainHouseModel$ShrinkLayoutModel", name := "<init>", desc := "()V" } : MethodName) prog_19_method_1_code (1 : Nat) (Option.none : Option FieldType)) ∈ zu_ws := List.mem_of_getElem? (i := 153) (rfl)
set_option maxRecDepth 8000 in
theorem zu_m154 : (Cond.code ({ cls := "ChainHouseModel$ImageFileModel", name := "<init>", desc := "()V" } : MethodName) prog_17_method_1_code (1 : Nat) (Option.none : Option FieldType)) ∈ zu_ws := List.mem_of_getElem? (i := 154) (rfl)
set_option maxRecDepth 8000 in
theorem zu_m155 : (Cond.code ({ cls := "ChainHouseModel$StepMachineModel", name := "fix", desc := "(IIII)V" } : MethodName) prog_20_method_4_code (6 : Nat) (Option.none : Option FieldType)) ∈ zu_ws := List.mem_of_getElem? (i := 155) (rfl)
set_option maxRecDepth 8000 in
theorem zu_m156 : (Cond.code ({ cls := "ChainHouseModel$StepMachineModel", name := "opcodeOf", desc := "(I)I" } : MethodName) prog_20_method_5_code (1 : Nat) (Option.some FieldType.int)) ∈ zu_ws := List.mem_of_getElem? (i := 156) (rfl)
set_option maxRecDepth 8000 in
theorem zu_m157 : (Cond.code ({ cls := "ChainHouseModel$StepMachineModel", name := "lay", desc := "(IIIII)V" } : MethodName) prog_20_method_3_code (7 : Nat) (Option.none : Option FieldType)) ∈ zu_ws := List.mem_of_getElem? (i := 157) (rfl)
set_option maxRecDepth 8000 in
theorem zu_m158 : (Cond.code ({ cls := "ChainHouseModel$StepMachineModel", name := "thirdOf", desc := "(I)I" } : MethodName) prog_20_method_6_code (1 : Nat) (Option.some FieldType.int)) ∈ zu_ws := List.mem_of_getElem? (i := 158) (rfl)
set_option maxRecDepth 8000 in
theorem zu_m159 : (Cond.code ({ cls := "ChainHouseModel$StepMachineModel", name := "isBranch", desc := "(I)Z" } : MethodName) prog_20_method_8_code (1 : Nat) (Option.some FieldType.boolean)) ∈ zu_ws := List.mem_of_getElem? (i := 159) (rfl)
set_option maxRecDepth 8000 in
theorem zu_m160 : (Cond.code ({ cls := "ChainHouseModel$StepMachineModel", name := "isStore", desc := "(I)Z" } : MethodName) prog_20_method_9_code (1 : Nat) (Option.some FieldType.boolean)) ∈ zu_ws := List.mem_of_getElem? (i := 160) (rfl)
set_option maxRecDepth 8000 in
theorem zu_m161 : (Cond.code ({ cls := "ChainHouseModel$StepMachineModel", name := "seventhOf", desc := "(I)I" } : MethodName) prog_20_method_7_code (1 : Nat) (Option.some FieldType.int)) ∈ zu_ws := List.mem_of_getElem? (i := 161) (rfl)
set_option maxRecDepth 8000 in
theorem zu_m162 : (Cond.code ({ cls := "ChainHouseModel$StepMachineModel", name := "isShift", desc := "(I)Z" } : MethodName) prog_20_method_10_code (1 : Nat) (Option.some FieldType.boolean)) ∈ zu_ws := List.mem_of_getElem? (i := 162) (rfl)
set_option maxRecDepth 8000 in
theorem zu_m163 : (Cond.code ({ cls := "ChainHouseModel$StepMachineModel", name := "layLong", desc := "(I)V" } : MethodName) prog_20_method_11_code (2 : Nat) (Option.none : Option FieldType)) ∈ zu_ws := List.mem_of_getElem? (i := 163) (rfl)
set_option maxRecDepth 8000 in
theorem zu_m164 : (Cond.code ({ cls := "ChainHouseModel$StepMachineModel", name := "ends", desc := "(III)V" } : MethodName) prog_20_method_13_code (4 : Nat) (Option.none : Option FieldType)) ∈ zu_ws := List.mem_of_getElem? (i := 164) (rfl)
set_option maxRecDepth 8000 in
theorem zu_m165 : (Cond.code ({ cls := "ChainHouseModel$StepMachineModel", name := "one", desc := "(III)V" } : MethodName) prog_20_method_12_code (4 : Nat) (Option.none : Option FieldType)) ∈ zu_ws := List.mem_of_getElem? (i := 165) (rfl)
set_option maxRecDepth 8000 in
theorem zu_m166 : (Cond.code ({ cls := "ChainHouseModel$StepMachineModel", name := "layJump", desc := "(II)V" } : MethodName) prog_20_method_15_code (3 : Nat) (Option.none : Option FieldType)) ∈ zu_ws := List.mem_of_getElem? (i := 166) (rfl)
set_option maxRecDepth 8000 in
theorem zu_m167 : (Cond.code ({ cls := "ChainHouseModel$StepMachineModel", name := "layShort", desc := "()V" } : MethodName) prog_20_method_14_code (2 : Nat) (Option.none : Option FieldType)) ∈ zu_ws := List.mem_of_getElem? (i := 167) (rfl)
set_option maxRecDepth 8000 in
theorem zu_m168 : (Cond.code ({ cls := "ChainHouseModel$StepMachineModel", name := "<init>", desc := "()V" } : MethodName) prog_20_method_1_code (2 : Nat) (Option.none : Option FieldType)) ∈ zu_ws := List.mem_of_getElem? (i := 168) (rfl)
set_option maxRecDepth 8000 in
theorem zu_m169 : (Cond.code ({ cls := "ChainHouseModel", name := "<init>", desc := "()V" } : MethodName) prog_15_method_1_code (1 : Nat) (Option.none : Option FieldType)) ∈ zu_ws := List.mem_of_getElem? (i := 169) (rfl)
set_option maxRecDepth 8000 in
theorem zu_m170 : (Cond.code ({ cls := "ChainHouseModel", name := "isUnit", desc := "(I)Z" } : MethodName) prog_15_method_3_code (1 : Nat) (Option.some FieldType.boolean)) ∈ zu_ws := List.mem_of_getElem? (i := 170) (rfl)
set_option maxRecDepth 8000 in
theorem zu_m171 : (Cond.code ({ cls := "ChainHouseModel$UnitTextModel", name := "next", desc := "()V" } : MethodName) prog_21_method_12_code (3 : Nat) (Option.none : Option FieldType)) ∈ zu_ws := List.mem_of_getElem? (i := 171) (rfl)
set_option maxRecDepth 8000 in
theorem zu_m172 : (Cond.code ({ cls := "ChainHouseModel$UnitTextModel", name := "readLine", desc := "()Z" } : MethodName) prog_21_method_42_code (6 : Nat) (Option.some FieldType.boolean)) ∈ zu_ws := List.mem_of_getElem? (i := 172) (rfl)
set_option maxRecDepth 8000 in
theorem zu_m173 : (Cond.code ({ cls := "ChainHouseModel$UnitTextModel", name := "keep", desc := "()V" } : MethodName) prog_21_method_44_code (2 : Nat) (Option.none : Option FieldType)) ∈ zu_ws := List.mem_of_getElem? (i := 173) (rfl)
set_option maxRecDepth 8000 in
theorem zu_m174 : (Cond.code ({ cls := "ChainHouseModel$UnitTextModel", name := "read", desc := "()I" } : MethodName) prog_21_method_43_code (2 : Nat) (Option.some FieldType.int)) ∈ zu_ws := List.mem_of_getElem? (i := 174) (rfl)
set_option maxRecDepth 8000 in
theorem zu_m175 : (Cond.code ({ cls := "ChainHouseModel", name := "beginUnit", desc := "()V" } : MethodName) prog_15_method_17_code (2 : Nat) (Option.none : Option FieldType)) ∈ zu_ws := List.mem_of_getElem? (i := 175) (rfl)
set_option maxRecDepth 8000 in
theorem zu_m176 : (Cond.code ({ cls := "ChainHouseModel$UnitTextModel", name := "fault", desc := "(I)I" } : MethodName) prog_21_method_45_code (2 : Nat) (Option.some FieldType.int)) ∈ zu_ws := List.mem_of_getElem? (i := 176) (rfl)
set_option maxRecDepth 8000 in
theorem zu_m177 : (Cond.code ({ cls := "ChainHouseModel$UnitTextModel", name := "count", desc := "(I)I" } : MethodName) prog_21_method_46_code (2 : Nat) (Option.some FieldType.int)) ∈ zu_ws := List.mem_of_getElem? (i := 177) (rfl)
set_option maxRecDepth 8000 in
theorem zu_m178 : (Cond.code ({ cls := "ChainHouseModel", name := "statements", desc := "()Z" } : MethodName) prog_15_method_88_code (4 : Nat) (Option.some FieldType.boolean)) ∈ zu_ws := List.mem_of_getElem? (i := 178) (rfl)
set_option maxRecDepth 8000 in
theorem zu_m179 : (Cond.code ({ cls := "ChainHouseModel$ObjectFileModel", name := "clear", desc := "()V" } : MethodName) prog_18_method_15_code (2 : Nat) (Option.none : Option FieldType)) ∈ zu_ws := List.mem_of_getElem? (i := 179) (rfl)
set_option maxRecDepth 8000 in
theorem zu_m180 : (Cond.code ({ cls := "ChainHouseModel", name := "makeObject", desc := "()V" } : MethodName) prog_15_method_89_code (4 : Nat) (Option.none : Option FieldType)) ∈ zu_ws := List.mem_of_getElem? (i := 180) (rfl)
set_option maxRecDepth 8000 in
theorem zu_m181 : (Cond.code ({ cls := "ChainHouseModel$ObjectFileModel", name := "unfit", desc := "()I" } : MethodName) prog_18_method_28_code (2 : Nat) (Option.some FieldType.int)) ∈ zu_ws := List.mem_of_getElem? (i := 181) (rfl)
set_option maxRecDepth 8000 in
theorem zu_m182 : (Cond.code ({ cls := "ChainHouseModel$ObjectFileModel", name := "roundUp", desc := "(II)I" } : MethodName) prog_18_method_12_code (2 : Nat) (Option.some FieldType.int)) ∈ zu_ws := List.mem_of_getElem? (i := 182) (rfl)
set_option maxRecDepth 8000 in
theorem zu_m183 : (Cond.code ({ cls := "ChainHouseModel$ObjectFileModel", name := "relocationsOf", desc := "(I)I" } : MethodName) prog_18_method_27_code (4 : Nat) (Option.some FieldType.int)) ∈ zu_ws := List.mem_of_getElem? (i := 183) (rfl)
set_option maxRecDepth 8000 in
theorem zu_m184 : (Cond.code ({ cls := "ChainHouseModel$ObjectFileModel", name := "order", desc := "()I" } : MethodName) prog_18_method_29_code (5 : Nat) (Option.some FieldType.int)) ∈ zu_ws := List.mem_of_getElem? (i := 184) (rfl)
set_option maxRecDepth 8000 in
theorem zu_m185 : (Cond.code ({ cls := "ChainHouseModel$ObjectFileModel", name := "begin", desc := "()V" } : MethodName) prog_18_method_24_code (1 : Nat) (Option.none : Option FieldType)) ∈ zu_ws := List.mem_of_getElem? (i := 185) (rfl)
set_option maxRecDepth 8000 in
theorem zu_m186 : (Cond.code ({ cls := "ChainHouseModel$ObjectFileModel", name := "sizeOfSymbolNames", desc := "()I" } : MethodName) prog_18_method_30_code (4 : Nat) (Option.some FieldType.int)) ∈ zu_ws := List.mem_of_getElem? (i := 186) (rfl)
set_option maxRecDepth 8000 in
theorem zu_m187 : (Cond.code ({ cls := "ChainHouseModel$ObjectFileModel", name := "takeTitle", desc := "(I)V" } : MethodName) prog_18_method_26_code (3 : Nat) (Option.none : Option FieldType)) ∈ zu_ws := List.mem_of_getElem? (i := 187) (rfl)
set_option maxRecDepth 8000 in
theorem zu_m188 : (Cond.code ({ cls := "ChainHouseModel$ObjectFileModel", name := "stringFor", desc := "()I" } : MethodName) prog_18_method_25_code (4 : Nat) (Option.some FieldType.int)) ∈ zu_ws := List.mem_of_getElem? (i := 188) (rfl)
set_option maxRecDepth 8000 in
theorem zu_m189 : (Cond.code ({ cls := "ChainHouseModel$ObjectFileModel", name := "sizeOfTitles", desc := "()I" } : MethodName) prog_18_method_31_code (2 : Nat) (Option.some FieldType.int)) ∈ zu_ws := List.mem_of_getElem? (i := 189) (rfl)
set_option maxRecDepth 8000 in
theorem zu_m190 : (Cond.code ({ cls := "ChainHouseModel$ObjectFileModel", name := "lay", desc := "()I" } : MethodName) prog_18_method_32_code (5 : Nat) (Option.some FieldType.int)) ∈ zu_ws := List.mem_of_getElem? (i := 190) (rfl)
set_option maxRecDepth 8000 in
theorem zu_m191 : (Cond.code ({ cls := "ChainHouseModel$ObjectFileModel", name := "write1", desc := "(II)V" } : MethodName) prog_18_method_33_code (3 : Nat) (Option.none : Option FieldType)) ∈ zu_ws := List.mem_of_getElem? (i := 191) (rfl)
set_option maxRecDepth 8000 in
theorem zu_m192 : (Cond.code ({ cls := "ChainHouseModel$ObjectFileModel", name := "write2", desc := "(II)V" } : MethodName) prog_18_method_34_code (3 : Nat) (Option.none : Option FieldType)) ∈ zu_ws := List.mem_of_getElem? (i := 192) (rfl)
set_option maxRecDepth 8000 in
theorem zu_m193 : (Cond.code ({ cls := "ChainHouseModel$ObjectFileModel", name := "write4", desc := "(II)V" } : MethodName) prog_18_method_35_code (3 : Nat) (Option.none : Option FieldType)) ∈ zu_ws := List.mem_of_getElem? (i := 193) (rfl)
set_option maxRecDepth 8000 in
theorem zu_m194 : (Cond.code ({ cls := "ChainHouseModel$ObjectFileModel", name := "writeHead", desc := "(I)V" } : MethodName) prog_18_method_36_code (4 : Nat) (Option.none : Option FieldType)) ∈ zu_ws := List.mem_of_getElem? (i := 194) (rfl)
set_option maxRecDepth 8000 in
theorem zu_m195 : (Cond.code ({ cls := "ChainHouseModel$ObjectFileModel", name := "writeRelocations", desc := "(I)V" } : MethodName) prog_18_method_42_code (4 : Nat) (Option.none : Option FieldType)) ∈ zu_ws := List.mem_of_getElem? (i := 195) (rfl)
set_option maxRecDepth 8000 in
theorem zu_m196 : (Cond.code ({ cls := "ChainHouseModel$ObjectFileModel", name := "writeSymbols", desc := "()V" } : MethodName) prog_18_method_41_code (3 : Nat) (Option.none : Option FieldType)) ∈ zu_ws := List.mem_of_getElem? (i := 196) (rfl)
set_option maxRecDepth 8000 in
theorem zu_m197 : (Cond.code ({ cls := "ChainHouseModel$ObjectFileModel", name := "sortOf", desc := "(I)I" } : MethodName) prog_18_method_38_code (1 : Nat) (Option.some FieldType.int)) ∈ zu_ws := List.mem_of_getElem? (i := 197) (rfl)
set_option maxRecDepth 8000 in
theorem zu_m198 : (Cond.code ({ cls := "ChainHouseModel$ObjectFileModel", name := "flagsOf", desc := "(I)I" } : MethodName) prog_18_method_37_code (1 : Nat) (Option.some FieldType.int)) ∈ zu_ws := List.mem_of_getElem? (i := 198) (rfl)
set_option maxRecDepth 8000 in
theorem zu_m199 : (Cond.code ({ cls := "ChainHouseModel$ObjectFileModel", name := "eachOf", desc := "(I)I" } : MethodName) prog_18_method_39_code (1 : Nat) (Option.some FieldType.int)) ∈ zu_ws := List.mem_of_getElem? (i := 199) (rfl)
set_option maxRecDepth 8000 in
theorem zu_m200 : (Cond.code ({ cls := "ChainHouseModel$ObjectFileModel", name := "writeEntry", desc := "(III)V" } : MethodName) prog_18_method_40_code (5 : Nat) (Option.none : Option FieldType)) ∈ zu_ws := List.mem_of_getElem? (i := 200) (rfl)
set_option maxRecDepth 8000 in
theorem zu_m201 : (Cond.code ({ cls := "ChainHouseModel$ObjectFileModel", name := "write", desc := "()I" } : MethodName) prog_18_method_43_code (6 : Nat) (Option.some FieldType.int)) ∈ zu_ws := List.mem_of_getElem? (i := 201) (rfl)
set_option maxRecDepth 8000 in
theorem zu_m202 : (Cond.code ({ cls := "ChainHouseModel", name := "assemble", desc := "(I)I" } : MethodName) prog_15_method_91_code (5 : Nat) (Option.some FieldType.int)) ∈ zu_ws := List.mem_of_getElem? (i := 202) (rfl)
set_option maxRecDepth 8000 in
theorem zu_m203 : (Cond.code ({ cls := "ChainHouseModel$StepMachineModel", name := "back", desc := "(I)I" } : MethodName) prog_20_method_66_code (5 : Nat) (Option.some FieldType.int)) ∈ zu_ws := List.mem_of_getElem? (i := 203) (rfl)
set_option maxRecDepth 8000 in
theorem zu_m204 : (Cond.code ({ cls := "ChainHouseModel", name := "back", desc := "(I)I" } : MethodName) prog_15_method_162_code (2 : Nat) (Option.some FieldType.int)) ∈ zu_ws := List.mem_of_getElem? (i := 204) (rfl)
set_option maxRecDepth 8000 in
theorem zu_m205 : (Cond.code ({ cls := "ChainHouseModel", name := "byteAt", desc := "(II)I" } : MethodName) prog_15_method_10_code (3 : Nat) (Option.some FieldType.int)) ∈ zu_ws := List.mem_of_getElem? (i := 205) (rfl)
set_option maxRecDepth 8000 in
theorem zu_m206 : (Cond.code ({ cls := "ChainHouseModel", name := "give", desc := "(LChainHouseModel$ObjectFileModel;I)V" } : MethodName) prog_15_method_12_code (4 : Nat) (Option.none : Option FieldType)) ∈ zu_ws := List.mem_of_getElem? (i := 206) (rfl)
set_option maxRecDepth 8000 in
theorem zu_m207 : (Cond.code ({ cls := "ChainHouseModel$ObjectFileModel", name := "fault", desc := "(II)I" } : MethodName) prog_18_method_51_code (3 : Nat) (Option.some FieldType.int)) ∈ zu_ws := List.mem_of_getElem? (i := 207) (rfl)
set_option maxRecDepth 8000 in
theorem zu_m208 : (Cond.code ({ cls := "ChainHouseModel$ObjectFileModel", name := "head", desc := "()I" } : MethodName) prog_18_method_54_code (4 : Nat) (Option.some FieldType.int)) ∈ zu_ws := List.mem_of_getElem? (i := 208) (rfl)
set_option maxRecDepth 8000 in
theorem zu_m209 : (Cond.code ({ cls := "ChainHouseModel$ObjectFileModel", name := "allFaults", desc := "()I" } : MethodName) prog_18_method_76_code (5 : Nat) (Option.some FieldType.int)) ∈ zu_ws := List.mem_of_getElem? (i := 209) (rfl)
set_option maxRecDepth 8000 in
theorem zu_m210 : (Cond.code ({ cls := "ChainHouseModel$ObjectFileModel", name := "read", desc := "()I" } : MethodName) prog_18_method_77_code (5 : Nat) (Option.some FieldType.int)) ∈ zu_ws := List.mem_of_getElem? (i := 210) (rfl)
set_option maxRecDepth 8000 in
theorem zu_m211 : (Cond.code ({ cls := "ChainHouseModel", name := "check", desc := "(I)I" } : MethodName) prog_15_method_13_code (2 : Nat) (Option.some FieldType.int)) ∈ zu_ws := List.mem_of_getElem? (i := 211) (rfl)
set_option maxRecDepth 8000 in
theorem zu_m212 : (Cond.code ({ cls := "ChainHouseModel", name := "cut", desc := "(II)Z" } : MethodName) prog_15_method_9_code (3 : Nat) (Option.some FieldType.boolean)) ∈ zu_ws := List.mem_of_getElem? (i := 212) (rfl)
set_option maxRecDepth 8000 in
theorem zu_m213 : (Cond.code ({ cls := "ChainHouseModel$UnitTextModel", name := "end", desc := "(I)I" } : MethodName) prog_21_method_5_code (3 : Nat) (Option.some FieldType.int)) ∈ zu_ws := List.mem_of_getElem? (i := 213) (rfl)
set_option maxRecDepth 8000 in
theorem zu_m214 : (Cond.code ({ cls := "ChainHouseModel", name := "end", desc := "(I)I" } : MethodName) prog_15_method_5_code (2 : Nat) (Option.some FieldType.int)) ∈ zu_ws := List.mem_of_getElem? (i := 214) (rfl)
set_option maxRecDepth 8000 in
theorem zu_m215 : (Cond.code ({ cls := "ChainHouseModel", name := "extend", desc := "(IIJ)Z" } : MethodName) prog_15_method_8_code (8 : Nat) (Option.some FieldType.boolean)) ∈ zu_ws := List.mem_of_getElem? (i := 215) (rfl)
set_option maxRecDepth 8000 in
theorem zu_m216 : (Cond.code ({ cls := "ChainHouseModel", name := "fault", desc := "(I)I" } : MethodName) prog_15_method_92_code (2 : Nat) (Option.some FieldType.int)) ∈ zu_ws := List.mem_of_getElem? (i := 216) (rfl)
set_option maxRecDepth 8000 in
theorem zu_m217 : (Cond.code ({ cls := "ChainHouseModel$UnitTextModel", name := "wait", desc := "(II)V" } : MethodName) prog_21_method_3_code (4 : Nat) (Option.none : Option FieldType)) ∈ zu_ws := List.mem_of_getElem? (i := 217) (rfl)
set_option maxRecDepth 8000 in
theorem zu_m218 : (Cond.code ({ cls := "ChainHouseModel$UnitTextModel", name := "feed", desc := "(IIIII)V" } : MethodName) prog_21_method_4_code (6 : Nat) (Option.none : Option FieldType)) ∈ zu_ws := List.mem_of_getElem? (i := 218) (rfl)
set_option maxRecDepth 8000 in
theorem zu_m219 : (Cond.code ({ cls := "ChainHouseModel", name := "feed", desc := "(IIIII)V" } : MethodName) prog_15_method_4_code (6 : Nat) (Option.none : Option FieldType)) ∈ zu_ws := List.mem_of_getElem? (i := 219) (rfl)
set_option maxRecDepth 8000 in
theorem zu_m220 : (Cond.code ({ cls := "ChainHouseModel$StepMachineModel", name := "get", desc := "(I)I" } : MethodName) prog_20_method_38_code (2 : Nat) (Option.some FieldType.int)) ∈ zu_ws := List.mem_of_getElem? (i := 220) (rfl)
set_option maxRecDepth 8000 in
theorem zu_m221 : (Cond.code ({ cls := "ChainHouseModel", name := "get", desc := "(I)I" } : MethodName) prog_15_method_164_code (2 : Nat) (Option.some FieldType.int)) ∈ zu_ws := List.mem_of_getElem? (i := 221) (rfl)
set_option maxRecDepth 8000 in
theorem zu_m222 : (Cond.code ({ cls := "ChainHouseModel$StepMachineModel", name := "haltAt", desc := "(I)I" } : MethodName) prog_20_method_40_code (3 : Nat) (Option.some FieldType.int)) ∈ zu_ws := List.mem_of_getElem? (i := 222) (rfl)
set_option maxRecDepth 8000 in
theorem zu_m223 : (Cond.code ({ cls := "ChainHouseModel$StepMachineModel", name := "forget", desc := "()V" } : MethodName) prog_20_method_31_code (1 : Nat) (Option.none : Option FieldType)) ∈ zu_ws := List.mem_of_getElem? (i := 223) (rfl)
set_option maxRecDepth 8000 in
theorem zu_m224 : (Cond.code ({ cls := "ChainHouseModel$StepMachineModel", name := "halt", desc := "(IZ)Z" } : MethodName) prog_20_method_41_code (4 : Nat) (Option.some FieldType.boolean)) ∈ zu_ws := List.mem_of_getElem? (i := 224) (rfl)
set_option maxRecDepth 8000 in
theorem zu_m225 : (Cond.code ({ cls := "ChainHouseModel", name := "halt", desc := "(IZ)Z" } : MethodName) prog_15_method_167_code (3 : Nat) (Option.some FieldType.boolean)) ∈ zu_ws := List.mem_of_getElem? (i := 225) (rfl)
set_option maxRecDepth 8000 in
theorem zu_m226 : (Cond.code ({ cls := "ChainHouseModel$StepMachineModel", name := "input", desc := "(IJ)Z" } : MethodName) prog_20_method_39_code (5 : Nat) (Option.some FieldType.boolean)) ∈ zu_ws := List.mem_of_getElem? (i := 226) (rfl)
set_option maxRecDepth 8000 in
theorem zu_m227 : (Cond.code ({ cls := "ChainHouseModel", name := "input", desc := "(IJ)Z" } : MethodName) prog_15_method_166_code (4 : Nat) (Option.some FieldType.boolean)) ∈ zu_ws := List.mem_of_getElem? (i := 227) (rfl)
set_option maxRecDepth 8000 in
theorem zu_m228 : (Cond.code ({ cls := "ChainHouseModel", name := "isIn", desc := "(I)Z" } : MethodName) prog_15_method_94_code (2 : Nat) (Option.some FieldType.boolean)) ∈ zu_ws := List.mem_of_getElem? (i := 228) (rfl)
set_option maxRecDepth 8000 in
theorem zu_m229 : (Cond.code ({ cls := "ChainHouseModel$CodeWordsModel", name := "letter", desc := "(I)I" } : MethodName) prog_16_method_55_code (2 : Nat) (Option.some FieldType.int)) ∈ zu_ws := List.mem_of_getElem? (i := 229) (rfl)
set_option maxRecDepth 8000 in
theorem zu_m230 : (Cond.code ({ cls := "ChainHouseModel", name := "letter", desc := "(I)I" } : MethodName) prog_15_method_172_code (2 : Nat) (Option.some FieldType.int)) ∈ zu_ws := List.mem_of_getElem? (i := 230) (rfl)
set_option maxRecDepth 8000 in
theorem zu_m231 : (Cond.code ({ cls := "ChainHouseModel", name := "refuse", desc := "(III)Z" } : MethodName) prog_15_method_93_code (4 : Nat) (Option.some FieldType.boolean)) ∈ zu_ws := List.mem_of_getElem? (i := 231) (rfl)
set_option maxRecDepth 8000 in
theorem zu_m232 : (Cond.code ({ cls := "ChainHouseModel", name := "readUnits", desc := "()Z" } : MethodName) prog_15_method_95_code (3 : Nat) (Option.some FieldType.boolean)) ∈ zu_ws := List.mem_of_getElem? (i := 232) (rfl)
set_option maxRecDepth 8000 in
theorem zu_m233 : (Cond.code ({ cls := "ChainHouseModel", name := "link", desc := "(IZ)I" } : MethodName) prog_15_method_154_code (5 : Nat) (Option.some FieldType.int)) ∈ zu_ws := List.mem_of_getElem? (i := 233) (rfl)
set_option maxRecDepth 8000 in
theorem zu_m234 : (Cond.code ({ cls := "ChainHouseModel", name := "linked", desc := "(I)I" } : MethodName) prog_15_method_155_code (2 : Nat) (Option.some FieldType.int)) ∈ zu_ws := List.mem_of_getElem? (i := 234) (rfl)
set_option maxRecDepth 8000 in
theorem zu_m235 : (Cond.code ({ cls := "ChainHouseModel$ImageFileModel", name := "fault", desc := "(II)I" } : MethodName) prog_17_method_41_code (3 : Nat) (Option.some FieldType.int)) ∈ zu_ws := List.mem_of_getElem? (i := 235) (rfl)
set_option maxRecDepth 8000 in
theorem zu_m236 : (Cond.code ({ cls := "ChainHouseModel$ImageFileModel", name := "headFault", desc := "()I" } : MethodName) prog_17_method_42_code (4 : Nat) (Option.some FieldType.int)) ∈ zu_ws := List.mem_of_getElem? (i := 236) (rfl)
set_option maxRecDepth 8000 in
theorem zu_m237 : (Cond.code ({ cls := "ChainHouseModel$ImageFileModel", name := "read", desc := "()I" } : MethodName) prog_17_method_58_code (5 : Nat) (Option.some FieldType.int)) ∈ zu_ws := List.mem_of_getElem? (i := 237) (rfl)
set_option maxRecDepth 8000 in
theorem zu_m238 : (Cond.code ({ cls := "ChainHouseModel$ImageFileModel", name := "place", desc := "()I" } : MethodName) prog_17_method_59_code (1 : Nat) (Option.some FieldType.int)) ∈ zu_ws := List.mem_of_getElem? (i := 238) (rfl)
set_option maxRecDepth 8000 in
theorem zu_m239 : (Cond.code ({ cls := "ChainHouseModel", name := "load", desc := "()I" } : MethodName) prog_15_method_157_code (6 : Nat) (Option.some FieldType.int)) ∈ zu_ws := List.mem_of_getElem? (i := 239) (rfl)
set_option maxRecDepth 8000 in
theorem zu_m240 : (Cond.code ({ cls := "ChainHouseModel$ObjectFileModel", name := "section", desc := "(II)I" } : MethodName) prog_18_method_82_code (3 : Nat) (Option.some FieldType.int)) ∈ zu_ws := List.mem_of_getElem? (i := 240) (rfl)
set_option maxRecDepth 8000 in
theorem zu_m241 : (Cond.code ({ cls := "ChainHouseModel$ObjectFileModel", name := "startAt", desc := "(I)I" } : MethodName) prog_18_method_85_code (2 : Nat) (Option.some FieldType.int)) ∈ zu_ws := List.mem_of_getElem? (i := 241) (rfl)
set_option maxRecDepth 8000 in
theorem zu_m242 : (Cond.code ({ cls := "ChainHouseModel$ObjectFileModel", name := "symbolAt", desc := "(II)I" } : MethodName) prog_18_method_86_code (4 : Nat) (Option.some FieldType.int)) ∈ zu_ws := List.mem_of_getElem? (i := 242) (rfl)
set_option maxRecDepth 8000 in
theorem zu_m243 : (Cond.code ({ cls := "ChainHouseModel$ObjectFileModel", name := "relocationAt", desc := "(II)I" } : MethodName) prog_18_method_87_code (4 : Nat) (Option.some FieldType.int)) ∈ zu_ws := List.mem_of_getElem? (i := 243) (rfl)
set_option maxRecDepth 8000 in
theorem zu_m244 : (Cond.code ({ cls := "ChainHouseModel$ObjectFileModel", name := "count", desc := "(I)I" } : MethodName) prog_18_method_84_code (4 : Nat) (Option.some FieldType.int)) ∈ zu_ws := List.mem_of_getElem? (i := 244) (rfl)
set_option maxRecDepth 8000 in
theorem zu_m245 : (Cond.code ({ cls := "ChainHouseModel$ObjectFileModel", name := "place", desc := "()I" } : MethodName) prog_18_method_80_code (1 : Nat) (Option.some FieldType.int)) ∈ zu_ws := List.mem_of_getElem? (i := 245) (rfl)
set_option maxRecDepth 8000 in
theorem zu_m246 : (Cond.code ({ cls := "ChainHouseModel", name := "object", desc := "(III)I" } : MethodName) prog_15_method_14_code (4 : Nat) (Option.some FieldType.int)) ∈ zu_ws := List.mem_of_getElem? (i := 246) (rfl)
set_option maxRecDepth 8000 in
theorem zu_m247 : (Cond.code ({ cls := "ChainHouseModel$StepMachineModel", name := "output", desc := "(I)I" } : MethodName) prog_20_method_68_code (2 : Nat) (Option.some FieldType.int)) ∈ zu_ws := List.mem_of_getElem? (i := 247) (rfl)
set_option maxRecDepth 8000 in
theorem zu_m248 : (Cond.code ({ cls := "ChainHouseModel", name := "output", desc := "(I)I" } : MethodName) prog_15_method_169_code (2 : Nat) (Option.some FieldType.int)) ∈ zu_ws := List.mem_of_getElem? (i := 248) (rfl)
set_option maxRecDepth 8000 in
theorem zu_m249 : (Cond.code ({ cls := "ChainHouseModel$StepMachineModel", name := "peek", desc := "(I)I" } : MethodName) prog_20_method_36_code (2 : Nat) (Option.some FieldType.int)) ∈ zu_ws := List.mem_of_getElem? (i := 249) (rfl)
set_option maxRecDepth 8000 in
theorem zu_m250 : (Cond.code ({ cls := "ChainHouseModel", name := "peek", desc := "(I)I" } : MethodName) prog_15_method_165_code (2 : Nat) (Option.some FieldType.int)) ∈ zu_ws := List.mem_of_getElem? (i := 250) (rfl)
set_option maxRecDepth 8000 in
theorem zu_m251 : (Cond.code ({ cls := "ChainHouseModel", name := "place", desc := "()I" } : MethodName) prog_15_method_159_code (1 : Nat) (Option.some FieldType.int)) ∈ zu_ws := List.mem_of_getElem? (i := 251) (rfl)
set_option maxRecDepth 8000 in
theorem zu_m252 : (Cond.code ({ cls := "ChainHouseModel$StepMachineModel", name := "rightsOf", desc := "(J)I" } : MethodName) prog_20_method_42_code (4 : Nat) (Option.some FieldType.int)) ∈ zu_ws := List.mem_of_getElem? (i := 252) (rfl)
set_option maxRecDepth 8000 in
theorem zu_m253 : (Cond.code ({ cls := "ChainHouseModel$StepMachineModel", name := "isMarked", desc := "(J)Z" } : MethodName) prog_20_method_43_code (3 : Nat) (Option.some FieldType.boolean)) ∈ zu_ws := List.mem_of_getElem? (i := 253) (rfl)
set_option maxRecDepth 8000 in
theorem zu_m254 : (Cond.code ({ cls := "ChainHouseModel$StepMachineModel", name := "rights", desc := "(I)I" } : MethodName) prog_20_method_69_code (2 : Nat) (Option.some FieldType.int)) ∈ zu_ws := List.mem_of_getElem? (i := 254) (rfl)
set_option maxRecDepth 8000 in
theorem zu_m255 : (Cond.code ({ cls := "ChainHouseModel", name := "rights", desc := "(I)I" } : MethodName) prog_15_method_170_code (2 : Nat) (Option.some FieldType.int)) ∈ zu_ws := List.mem_of_getElem? (i := 255) (rfl)
set_option maxRecDepth 8000 in
theorem zu_m256 : (Cond.code ({ cls := "ChainHouseModel$StepMachineModel", name := "isEnd", desc := "()Z" } : MethodName) prog_20_method_63_code (1 : Nat) (Option.some FieldType.boolean)) ∈ zu_ws := List.mem_of_getElem? (i := 256) (rfl)
set_option maxRecDepth 8000 in
theorem zu_m257 : (Cond.code ({ cls := "ChainHouseModel$StepMachineModel", name := "isUnit", desc := "()Z" } : MethodName) prog_20_method_62_code (1 : Nat) (Option.some FieldType.boolean)) ∈ zu_ws := List.mem_of_getElem? (i := 257) (rfl)
set_option maxRecDepth 8000 in
theorem zu_m258 : (Cond.code ({ cls := "ChainHouseModel$StepMachineModel", name := "bare", desc := "(I)J" } : MethodName) prog_20_method_44_code (1 : Nat) (Option.some FieldType.long)) ∈ zu_ws := List.mem_of_getElem? (i := 258) (rfl)
set_option maxRecDepth 8000 in
theorem zu_m259 : (Cond.code ({ cls := "ChainHouseModel$StepMachineModel", name := "without", desc := "(JII)J" } : MethodName) prog_20_method_46_code (6 : Nat) (Option.some FieldType.long)) ∈ zu_ws := List.mem_of_getElem? (i := 259) (rfl)
set_option maxRecDepth 8000 in
theorem zu_m260 : (Cond.code ({ cls := "ChainHouseModel$StepMachineModel", name := "fail", desc := "(II)I" } : MethodName) prog_20_method_45_code (3 : Nat) (Option.some FieldType.int)) ∈ zu_ws := List.mem_of_getElem? (i := 260) (rfl)
set_option maxRecDepth 8000 in
theorem zu_m261 : (Cond.code ({ cls := "ChainHouseModel$StepMachineModel", name := "isFetched", desc := "()Z" } : MethodName) prog_20_method_48_code (7 : Nat) (Option.some FieldType.boolean)) ∈ zu_ws := List.mem_of_getElem? (i := 261) (rfl)
set_option maxRecDepth 8000 in
theorem zu_m262 : (Cond.code ({ cls := "ChainHouseModel$StepMachineModel", name := "step", desc := "()I" } : MethodName) prog_20_method_64_code (4 : Nat) (Option.some FieldType.int)) ∈ zu_ws := List.mem_of_getElem? (i := 262) (rfl)
set_option maxRecDepth 8000 in
theorem zu_m263 : (Cond.code ({ cls := "ChainHouseModel$StepMachineModel", name := "run", desc := "(I)I" } : MethodName) prog_20_method_65_code (5 : Nat) (Option.some FieldType.int)) ∈ zu_ws := List.mem_of_getElem? (i := 263) (rfl)
set_option maxRecDepth 8000 in
theorem zu_m264 : (Cond.code ({ cls := "ChainHouseModel", name := "run", desc := "(I)I" } : MethodName) prog_15_method_161_code (2 : Nat) (Option.some FieldType.int)) ∈ zu_ws := List.mem_of_getElem? (i := 264) (rfl)
set_option maxRecDepth 8000 in
theorem zu_m265 : (Cond.code ({ cls := "ChainHouseModel$StepMachineModel", name := "set", desc := "(II)Z" } : MethodName) prog_20_method_37_code (3 : Nat) (Option.some FieldType.boolean)) ∈ zu_ws := List.mem_of_getElem? (i := 265) (rfl)
set_option maxRecDepth 8000 in
theorem zu_m266 : (Cond.code ({ cls := "ChainHouseModel", name := "set", desc := "(II)Z" } : MethodName) prog_15_method_163_code (3 : Nat) (Option.some FieldType.boolean)) ∈ zu_ws := List.mem_of_getElem? (i := 266) (rfl)
set_option maxRecDepth 8000 in
theorem zu_m267 : (Cond.code ({ cls := "ChainHouseModel", name := "size", desc := "(I)I" } : MethodName) prog_15_method_7_code (2 : Nat) (Option.some FieldType.int)) ∈ zu_ws := List.mem_of_getElem? (i := 267) (rfl)
set_option maxRecDepth 8000 in
theorem zu_m268 : (Cond.code ({ cls := "ChainHouseModel", name := "spoil", desc := "(III)I" } : MethodName) prog_15_method_11_code (5 : Nat) (Option.some FieldType.int)) ∈ zu_ws := List.mem_of_getElem? (i := 268) (rfl)
set_option maxRecDepth 8000 in
theorem zu_m269 : (Cond.code ({ cls := "ChainHouseModel$StepMachineModel", name := "state", desc := "(I)I" } : MethodName) prog_20_method_67_code (2 : Nat) (Option.some FieldType.int)) ∈ zu_ws := List.mem_of_getElem? (i := 269) (rfl)
set_option maxRecDepth 8000 in
theorem zu_m270 : (Cond.code ({ cls := "ChainHouseModel", name := "state", desc := "(I)I" } : MethodName) prog_15_method_168_code (2 : Nat) (Option.some FieldType.int)) ∈ zu_ws := List.mem_of_getElem? (i := 270) (rfl)
set_option maxRecDepth 8000 in
theorem zu_m271 : (Cond.code ({ cls := "ChainHouseModel", name := "step", desc := "()I" } : MethodName) prog_15_method_160_code (1 : Nat) (Option.some FieldType.int)) ∈ zu_ws := List.mem_of_getElem? (i := 271) (rfl)
set_option maxRecDepth 8000 in
theorem zu_m272 : (Cond.code ({ cls := "ChainHouseModel", name := "take", desc := "(I)I" } : MethodName) prog_15_method_6_code (3 : Nat) (Option.some FieldType.int)) ∈ zu_ws := List.mem_of_getElem? (i := 272) (rfl)
set_option maxRecDepth 8000 in
theorem zu_m273 : (Cond.code ({ cls := "ChainHouseModel$CodeWordsModel", name := "isLong", desc := "(I)Z" } : MethodName) prog_16_method_27_code (1 : Nat) (Option.some FieldType.boolean)) ∈ zu_ws := List.mem_of_getElem? (i := 273) (rfl)
set_option maxRecDepth 8000 in
theorem zu_m274 : (Cond.code ({ cls := "ChainHouseModel$CodeWordsModel", name := "bitsOf", desc := "(I)I" } : MethodName) prog_16_method_17_code (1 : Nat) (Option.some FieldType.int)) ∈ zu_ws := List.mem_of_getElem? (i := 274) (rfl)
set_option maxRecDepth 8000 in
theorem zu_m275 : (Cond.code ({ cls := "ChainHouseModel$CodeWordsModel", name := "isShortPart", desc := "(II)Z" } : MethodName) prog_16_method_19_code (4 : Nat) (Option.some FieldType.boolean)) ∈ zu_ws := List.mem_of_getElem? (i := 275) (rfl)
set_option maxRecDepth 8000 in
theorem zu_m276 : (Cond.code ({ cls := "ChainHouseModel$CodeWordsModel", name := "signOf", desc := "(I)I" } : MethodName) prog_16_method_23_code (1 : Nat) (Option.some FieldType.int)) ∈ zu_ws := List.mem_of_getElem? (i := 276) (rfl)
set_option maxRecDepth 8000 in
theorem zu_m277 : (Cond.code ({ cls := "ChainHouseModel$CodeWordsModel", name := "has", desc := "(II)Z" } : MethodName) prog_16_method_18_code (5 : Nat) (Option.some FieldType.boolean)) ∈ zu_ws := List.mem_of_getElem? (i := 277) (rfl)
set_option maxRecDepth 8000 in
theorem zu_m278 : (Cond.code ({ cls := "ChainHouseModel$CodeWordsModel", name := "isRegister", desc := "(III)Z" } : MethodName) prog_16_method_20_code (4 : Nat) (Option.some FieldType.boolean)) ∈ zu_ws := List.mem_of_getElem? (i := 278) (rfl)
set_option maxRecDepth 8000 in
theorem zu_m279 : (Cond.code ({ cls := "ChainHouseModel$CodeWordsModel", name := "isStep", desc := "(JJJJ)Z" } : MethodName) prog_16_method_21_code (8 : Nat) (Option.some FieldType.boolean)) ∈ zu_ws := List.mem_of_getElem? (i := 279) (rfl)
set_option maxRecDepth 8000 in
theorem zu_m280 : (Cond.code ({ cls := "ChainHouseModel$CodeWordsModel", name := "isImmediate", desc := "(IJ)Z" } : MethodName) prog_16_method_22_code (3 : Nat) (Option.some FieldType.boolean)) ∈ zu_ws := List.mem_of_getElem? (i := 280) (rfl)
set_option maxRecDepth 8000 in
theorem zu_m281 : (Cond.code ({ cls := "ChainHouseModel$CodeWordsModel", name := "areGood", desc := "(I)Z" } : MethodName) prog_16_method_24_code (3 : Nat) (Option.some FieldType.boolean)) ∈ zu_ws := List.mem_of_getElem? (i := 281) (rfl)
set_option maxRecDepth 8000 in
theorem zu_m282 : (Cond.code ({ cls := "ChainHouseModel$CodeWordsModel", name := "take", desc := "(II)Z" } : MethodName) prog_16_method_26_code (6 : Nat) (Option.some FieldType.boolean)) ∈ zu_ws := List.mem_of_getElem? (i := 282) (rfl)
set_option maxRecDepth 8000 in
theorem zu_m283 : (Cond.code ({ cls := "ChainHouseModel$CodeWordsModel", name := "find", desc := "(I)I" } : MethodName) prog_16_method_28_code (5 : Nat) (Option.some FieldType.int)) ∈ zu_ws := List.mem_of_getElem? (i := 283) (rfl)
set_option maxRecDepth 8000 in
theorem zu_m284 : (Cond.code ({ cls := "ChainHouseModel$CodeWordsModel", name := "say", desc := "(I)V" } : MethodName) prog_16_method_43_code (2 : Nat) (Option.none : Option FieldType)) ∈ zu_ws := List.mem_of_getElem? (i := 284) (rfl)
set_option maxRecDepth 8000 in
theorem zu_m285 : (Cond.code ({ cls := "ChainHouseModel$CodeWordsModel", name := "lettersOf", desc := "(J)I" } : MethodName) prog_16_method_42_code (5 : Nat) (Option.some FieldType.int)) ∈ zu_ws := List.mem_of_getElem? (i := 285) (rfl)
set_option maxRecDepth 8000 in
theorem zu_m286 : (Cond.code ({ cls := "ChainHouseModel$CodeWordsModel", name := "sayName", desc := "(J)V" } : MethodName) prog_16_method_44_code (8 : Nat) (Option.none : Option FieldType)) ∈ zu_ws := List.mem_of_getElem? (i := 286) (rfl)
set_option maxRecDepth 8000 in
theorem zu_m287 : (Cond.code ({ cls := "ChainHouseModel$CodeWordsModel", name := "sayHexadecimal", desc := "(I)V" } : MethodName) prog_16_method_46_code (5 : Nat) (Option.none : Option FieldType)) ∈ zu_ws := List.mem_of_getElem? (i := 287) (rfl)
set_option maxRecDepth 8000 in
theorem zu_m288 : (Cond.code ({ cls := "ChainHouseModel$CodeWordsModel", name := "tell", desc := "(II)I" } : MethodName) prog_16_method_54_code (4 : Nat) (Option.some FieldType.int)) ∈ zu_ws := List.mem_of_getElem? (i := 288) (rfl)
set_option maxRecDepth 8000 in
theorem zu_m289 : (Cond.code ({ cls := "ChainHouseModel", name := "tell", desc := "(I)I" } : MethodName) prog_15_method_171_code (3 : Nat) (Option.some FieldType.int)) ∈ zu_ws := List.mem_of_getElem? (i := 289) (rfl)
set_option maxRecDepth 8000 in
theorem zu_m290 : (Cond.code ({ cls := "ChainHouseModel", name := "thrown", desc := "()I" } : MethodName) prog_15_method_2_code (1 : Nat) (Option.some FieldType.int)) ∈ zu_ws := List.mem_of_getElem? (i := 290) (rfl)
set_option maxRecDepth 8000 in
theorem zu_m291 : (Cond.code ({ cls := "ChainHouseModel", name := "where", desc := "(JJ)I" } : MethodName) prog_15_method_156_code (9 : Nat) (Option.some FieldType.int)) ∈ zu_ws := List.mem_of_getElem? (i := 291) (rfl)
theorem zu_m292 : (Cond.selects "ChainHouse" ({ cls := "ChainHouse", name := "assemble", desc := "(I)I" } : MethodName) ({ cls := "ChainHouse", name := "assemble", desc := "(I)I" } : MethodName)) ∈ zu_ws := List.mem_of_getElem? (i := 292) (by decide +kernel)
theorem zu_m293 : (Cond.selects "ChainHouse" ({ cls := "ChainHouse", name := "take", desc := "(I)I" } : MethodName) ({ cls := "ChainHouse", name := "take", desc := "(I)I" } : MethodName)) ∈ zu_ws := List.mem_of_getElem? (i := 293) (by decide +kernel)
theorem zu_m294 : (Cond.selects "ChainHouse" ({ cls := "ChainHouse", name := "check", desc := "(I)I" } : MethodName) ({ cls := "ChainHouse", name := "check", desc := "(I)I" } : MethodName)) ∈ zu_ws := List.mem_of_getElem? (i := 294) (by decide +kernel)
theorem zu_m295 : (Cond.selects "ChainHouse" ({ cls := "ChainHouse", name := "link", desc := "(IZ)I" } : MethodName) ({ cls := "ChainHouse", name := "link", desc := "(IZ)I" } : MethodName)) ∈ zu_ws := List.mem_of_getElem? (i := 295) (by decide +kernel)
theorem zu_m296 : (Cond.selects "ChainHouse" ({ cls := "ChainHouse", name := "where", desc := "(JJ)I" } : MethodName) ({ cls := "ChainHouse", name := "where", desc := "(JJ)I" } : MethodName)) ∈ zu_ws := List.mem_of_getElem? (i := 296) (by decide +kernel)
set_option maxRecDepth 8000 in
theorem zu_m297 : (Cond.code ({ cls := "java/lang/Throwable", name := "<init>", desc := "()V" } : MethodName) prog_34_method_1_code (1 : Nat) (Option.none : Option FieldType)) ∈ zu_ws := List.mem_of_getElem? (i := 297) (rfl)
set_option maxRecDepth 8000 in
theorem zu_m298 : (Cond.codeSync ({ cls := "java/lang/Throwable", name := "fillInStackTrace", desc := "()Ljava/lang/Throwable;" } : MethodName) prog_34_method_18_code (1 : Nat) (Option.some (FieldType.object "java/lang/Throwable"))) ∈ zu_ws := List.mem_of_getElem? (i := 298) (rfl)
set_option maxRecDepth 8000 in
theorem zu_m299 : (Cond.code ({ cls := "java/lang/IndexOutOfBoundsException", name := "<init>", desc := "()V" } : MethodName) prog_28_method_1_code (1 : Nat) (Option.none : Option FieldType)) ∈ zu_ws := List.mem_of_getElem? (i := 299) (rfl)
set_option maxRecDepth 8000 in
theorem zu_m300 : (Cond.code ({ cls := "java/lang/RuntimeException", name := "<init>", desc := "()V" } : MethodName) prog_30_method_1_code (1 : Nat) (Option.none : Option FieldType)) ∈ zu_ws := List.mem_of_getElem? (i := 300) (rfl)
set_option maxRecDepth 8000 in
theorem zu_m301 : (Cond.code ({ cls := "java/lang/Exception", name := "<init>", desc := "()V" } : MethodName) prog_25_method_1_code (1 : Nat) (Option.none : Option FieldType)) ∈ zu_ws := List.mem_of_getElem? (i := 301) (rfl)
set_option maxRecDepth 8000 in
theorem zu_m302 : (Cond.code ({ cls := "java/lang/IllegalArgumentException", name := "<init>", desc := "()V" } : MethodName) prog_26_method_1_code (1 : Nat) (Option.none : Option FieldType)) ∈ zu_ws := List.mem_of_getElem? (i := 302) (rfl)
set_option maxRecDepth 8000 in
theorem zu_m303 : (Cond.code ({ cls := "java/lang/IllegalStateException", name := "<init>", desc := "()V" } : MethodName) prog_27_method_1_code (1 : Nat) (Option.none : Option FieldType)) ∈ zu_ws := List.mem_of_getElem? (i := 303) (rfl)
set_option maxRecDepth 8000 in
theorem zu_m304 : (Cond.code ({ cls := "java/util/NoSuchElementException", name := "<init>", desc := "()V" } : MethodName) prog_37_method_1_code (1 : Nat) (Option.none : Option FieldType)) ∈ zu_ws := List.mem_of_getElem? (i := 304) (rfl)
set_option maxRecDepth 8000 in
theorem zu_m305 : (Cond.codeWith ({ cls := "ChainHouseLaw", name := "assemble", desc := "(LChainHouse;I[J)I" } : MethodName) method_3_code (4 : Nat) (Option.some FieldType.int) [((0 : Nat), (9 : Nat), (12 : Nat), (13 : Nat)), ((0 : Nat), (9 : Nat), (15 : Nat), (15 : Nat))]) ∈ zu_ws := List.mem_of_getElem? (i := 305) (rfl)
set_option maxRecDepth 8000 in
theorem zu_m306 : (Cond.codeWith ({ cls := "ChainHouseLaw", name := "take", desc := "(LChainHouse;I[J)I" } : MethodName) method_4_code (4 : Nat) (Option.some FieldType.int) [((0 : Nat), (9 : Nat), (12 : Nat), (13 : Nat))]) ∈ zu_ws := List.mem_of_getElem? (i := 306) (rfl)
set_option maxRecDepth 8000 in
theorem zu_m307 : (Cond.codeWith ({ cls := "ChainHouseLaw", name := "check", desc := "(LChainHouse;I[J)I" } : MethodName) method_5_code (4 : Nat) (Option.some FieldType.int) [((0 : Nat), (9 : Nat), (12 : Nat), (13 : Nat))]) ∈ zu_ws := List.mem_of_getElem? (i := 307) (rfl)
set_option maxRecDepth 8000 in
theorem zu_m308 : (Cond.codeWith ({ cls := "ChainHouseLaw", name := "link", desc := "(LChainHouse;IZ[J)I" } : MethodName) method_6_code (5 : Nat) (Option.some FieldType.int) [((0 : Nat), (10 : Nat), (13 : Nat), (15 : Nat)), ((0 : Nat), (10 : Nat), (17 : Nat), (27 : Nat))]) ∈ zu_ws := List.mem_of_getElem? (i := 308) (rfl)
set_option maxRecDepth 8000 in
theorem zu_m309 : (Cond.codeWith ({ cls := "ChainHouseLaw", name := "where", desc := "(LChainHouse;JJ[J)I" } : MethodName) method_7_code (7 : Nat) (Option.some FieldType.int) [((0 : Nat), (11 : Nat), (14 : Nat), (33 : Nat))]) ∈ zu_ws := List.mem_of_getElem? (i := 309) (rfl)
theorem zu_m310 : (Cond.methodLink "ChainHouse$Bytes" (3 : Nat) ({ cls := "java/lang/Object", name := "<init>", desc := "()V" } : MethodName)) ∈ zu_ws := List.mem_of_getElem? (i := 310) (by decide +kernel)
theorem zu_m311 : (Cond.instanceMethod ({ cls := "java/lang/Object", name := "<init>", desc := "()V" } : MethodName)) ∈ zu_ws := List.mem_of_getElem? (i := 311) (by decide +kernel)
set_option maxRecDepth 8000 in
theorem zu_m312 : (Cond.code ({ cls := "java/lang/Object", name := "<init>", desc := "()V" } : MethodName) object_method_1_code (1 : Nat) (Option.none : Option FieldType)) ∈ zu_ws := List.mem_of_getElem? (i := 312) (rfl)
theorem zu_m313 : (Cond.methodLink "ChainHouse$Bytes" (9 : Nat) ({ cls := "java/lang/Math", name := "max", desc := "(II)I" } : MethodName)) ∈ zu_ws := List.mem_of_getElem? (i := 313) (by decide +kernel)
theorem zu_m314 : (Cond.static ({ cls := "java/lang/Math", name := "max", desc := "(II)I" } : MethodName)) ∈ zu_ws := List.mem_of_getElem? (i := 314) (by decide +kernel)
theorem zu_m315 : (Cond.initialized "java/lang/Math") ∈ zu_ws := List.mem_of_getElem? (i := 315) (by decide +kernel)
set_option maxRecDepth 8000 in
theorem zu_m316 : (Cond.code ({ cls := "java/lang/Math", name := "max", desc := "(II)I" } : MethodName) prog_29_method_65_code (2 : Nat) (Option.some FieldType.int)) ∈ zu_ws := List.mem_of_getElem? (i := 316) (rfl)
theorem zu_m317 : (Cond.arrayClass FieldType.byte) ∈ zu_ws := List.mem_of_getElem? (i := 317) (by decide +kernel)
theorem zu_m318 : (Cond.fieldLink "ChainHouse$Bytes" (15 : Nat) "ChainHouse$Bytes" "row" "[B") ∈ zu_ws := List.mem_of_getElem? (i := 318) (by decide +kernel)
theorem zu_m319 : (Cond.methodLink "ChainHouse$Source" (3 : Nat) ({ cls := "java/lang/Object", name := "<init>", desc := "()V" } : MethodName)) ∈ zu_ws := List.mem_of_getElem? (i := 319) (by decide +kernel)
theorem zu_m320 : (Cond.classLink "ChainHouse$Source" (11 : Nat) "[[J") ∈ zu_ws := List.mem_of_getElem? (i := 320) (by decide +kernel)
theorem zu_m321 : (Cond.arrayClass FieldType.long) ∈ zu_ws := List.mem_of_getElem? (i := 321) (by decide +kernel)
theorem zu_m322 : (Cond.fieldLink "ChainHouse$Source" (13 : Nat) "ChainHouse$Source" "names" "[[J") ∈ zu_ws := List.mem_of_getElem? (i := 322) (by decide +kernel)
theorem zu_m323 : (Cond.classLink "ChainHouse$Source" (16 : Nat) "[[I") ∈ zu_ws := List.mem_of_getElem? (i := 323) (by decide +kernel)
theorem zu_m324 : (Cond.arrayClass FieldType.int) ∈ zu_ws := List.mem_of_getElem? (i := 324) (by decide +kernel)
theorem zu_m325 : (Cond.fieldLink "ChainHouse$Source" (18 : Nat) "ChainHouse$Source" "statements" "[[I") ∈ zu_ws := List.mem_of_getElem? (i := 325) (by decide +kernel)
theorem zu_m326 : (Cond.fieldLink "ChainHouse$Source" (21 : Nat) "ChainHouse$Source" "operands" "[[I") ∈ zu_ws := List.mem_of_getElem? (i := 326) (by decide +kernel)
theorem zu_m327 : (Cond.fieldLink "ChainHouse$Source" (24 : Nat) "ChainHouse$Source" "items" "[[I") ∈ zu_ws := List.mem_of_getElem? (i := 327) (by decide +kernel)
theorem zu_m328 : (Cond.classLink "ChainHouse$Source" (27 : Nat) "ChainHouse$Bytes") ∈ zu_ws := List.mem_of_getElem? (i := 328) (by decide +kernel)
theorem zu_m329 : (Cond.instantiable "ChainHouse$Bytes" (2 : Nat)) ∈ zu_ws := List.mem_of_getElem? (i := 329) (by decide +kernel)
theorem zu_m330 : (Cond.initialized "ChainHouse$Bytes") ∈ zu_ws := List.mem_of_getElem? (i := 330) (by decide +kernel)
theorem zu_m331 : (Cond.methodLink "ChainHouse$Source" (29 : Nat) ({ cls := "ChainHouse$Bytes", name := "<init>", desc := "(I)V" } : MethodName)) ∈ zu_ws := List.mem_of_getElem? (i := 331) (by decide +kernel)
theorem zu_m332 : (Cond.instanceMethod ({ cls := "ChainHouse$Bytes", name := "<init>", desc := "(I)V" } : MethodName)) ∈ zu_ws := List.mem_of_getElem? (i := 332) (by decide +kernel)
theorem zu_m333 : (Cond.fieldLink "ChainHouse$Source" (32 : Nat) "ChainHouse$Source" "text" "LChainHouse$Bytes;") ∈ zu_ws := List.mem_of_getElem? (i := 333) (by decide +kernel)
theorem zu_m334 : (Cond.fieldLink "ChainHouse$Source" (36 : Nat) "ChainHouse$Source" "words" "[[I") ∈ zu_ws := List.mem_of_getElem? (i := 334) (by decide +kernel)
theorem zu_m335 : (Cond.fieldLink "ChainHouse$Source" (39 : Nat) "ChainHouse$Source" "pending" "[I") ∈ zu_ws := List.mem_of_getElem? (i := 335) (by decide +kernel)
theorem zu_m336 : (Cond.methodLink "ChainHouse$Contents" (3 : Nat) ({ cls := "java/lang/Object", name := "<init>", desc := "()V" } : MethodName)) ∈ zu_ws := List.mem_of_getElem? (i := 336) (by decide +kernel)
theorem zu_m337 : (Cond.classLink "ChainHouse$Contents" (11 : Nat) "ChainHouse$Bytes") ∈ zu_ws := List.mem_of_getElem? (i := 337) (by decide +kernel)
theorem zu_m338 : (Cond.fieldLink "ChainHouse$Contents" (13 : Nat) "ChainHouse$Contents" "bytes" "[LChainHouse$Bytes;") ∈ zu_ws := List.mem_of_getElem? (i := 338) (by decide +kernel)
theorem zu_m339 : (Cond.fieldLink "ChainHouse$Contents" (17 : Nat) "ChainHouse$Contents" "alignment" "[I") ∈ zu_ws := List.mem_of_getElem? (i := 339) (by decide +kernel)
theorem zu_m340 : (Cond.fieldLink "ChainHouse$Contents" (21 : Nat) "ChainHouse$Contents" "starts" "[I") ∈ zu_ws := List.mem_of_getElem? (i := 340) (by decide +kernel)
theorem zu_m341 : (Cond.classLink "ChainHouse$Contents" (24 : Nat) "[[J") ∈ zu_ws := List.mem_of_getElem? (i := 341) (by decide +kernel)
theorem zu_m342 : (Cond.fieldLink "ChainHouse$Contents" (26 : Nat) "ChainHouse$Contents" "names" "[[J") ∈ zu_ws := List.mem_of_getElem? (i := 342) (by decide +kernel)
theorem zu_m343 : (Cond.classLink "ChainHouse$Contents" (29 : Nat) "[[I") ∈ zu_ws := List.mem_of_getElem? (i := 343) (by decide +kernel)
theorem zu_m344 : (Cond.fieldLink "ChainHouse$Contents" (31 : Nat) "ChainHouse$Contents" "symbols" "[[I") ∈ zu_ws := List.mem_of_getElem? (i := 344) (by decide +kernel)
theorem zu_m345 : (Cond.fieldLink "ChainHouse$Contents" (34 : Nat) "ChainHouse$Contents" "relocations" "[[I") ∈ zu_ws := List.mem_of_getElem? (i := 345) (by decide +kernel)
theorem zu_m346 : (Cond.methodLink "ChainHouse$Contents" (37 : Nat) ({ cls := "ChainHouse$Bytes", name := "<init>", desc := "(I)V" } : MethodName)) ∈ zu_ws := List.mem_of_getElem? (i := 346) (by decide +kernel)
theorem zu_m347 : (Cond.methodLink "ChainHouse$Scope" (3 : Nat) ({ cls := "java/lang/Object", name := "<init>", desc := "()V" } : MethodName)) ∈ zu_ws := List.mem_of_getElem? (i := 347) (by decide +kernel)
theorem zu_m348 : (Cond.classLink "ChainHouse$Scope" (9 : Nat) "ChainHouse$Source") ∈ zu_ws := List.mem_of_getElem? (i := 348) (by decide +kernel)
theorem zu_m349 : (Cond.instantiable "ChainHouse$Source" (18 : Nat)) ∈ zu_ws := List.mem_of_getElem? (i := 349) (by decide +kernel)
theorem zu_m350 : (Cond.initialized "ChainHouse$Source") ∈ zu_ws := List.mem_of_getElem? (i := 350) (by decide +kernel)
theorem zu_m351 : (Cond.instanceMethod ({ cls := "ChainHouse$Source", name := "<init>", desc := "()V" } : MethodName)) ∈ zu_ws := List.mem_of_getElem? (i := 351) (by decide +kernel)
theorem zu_m352 : (Cond.fieldLink "ChainHouse$Scope" (12 : Nat) "ChainHouse$Scope" "source" "LChainHouse$Source;") ∈ zu_ws := List.mem_of_getElem? (i := 352) (by decide +kernel)
theorem zu_m353 : (Cond.classLink "ChainHouse$Scope" (18 : Nat) "ChainHouse$Contents") ∈ zu_ws := List.mem_of_getElem? (i := 353) (by decide +kernel)
theorem zu_m354 : (Cond.instantiable "ChainHouse$Contents" (10 : Nat)) ∈ zu_ws := List.mem_of_getElem? (i := 354) (by decide +kernel)
theorem zu_m355 : (Cond.initialized "ChainHouse$Contents") ∈ zu_ws := List.mem_of_getElem? (i := 355) (by decide +kernel)
theorem zu_m356 : (Cond.methodLink "ChainHouse$Scope" (20 : Nat) ({ cls := "ChainHouse$Contents", name := "<init>", desc := "()V" } : MethodName)) ∈ zu_ws := List.mem_of_getElem? (i := 356) (by decide +kernel)
theorem zu_m357 : (Cond.instanceMethod ({ cls := "ChainHouse$Contents", name := "<init>", desc := "()V" } : MethodName)) ∈ zu_ws := List.mem_of_getElem? (i := 357) (by decide +kernel)
theorem zu_m358 : (Cond.fieldLink "ChainHouse$Scope" (21 : Nat) "ChainHouse$Scope" "contents" "LChainHouse$Contents;") ∈ zu_ws := List.mem_of_getElem? (i := 358) (by decide +kernel)
theorem zu_m359 : (Cond.fieldLink "ChainHouse$Scope" (25 : Nat) "ChainHouse$Scope" "symbolOf" "[I") ∈ zu_ws := List.mem_of_getElem? (i := 359) (by decide +kernel)
theorem zu_m360 : (Cond.fieldLink "ChainHouse$Scope" (29 : Nat) "ChainHouse$Scope" "latest" "[I") ∈ zu_ws := List.mem_of_getElem? (i := 360) (by decide +kernel)
theorem zu_m361 : (Cond.fieldLink "ChainHouse$Scope" (32 : Nat) "ChainHouse$Scope" "next" "[I") ∈ zu_ws := List.mem_of_getElem? (i := 361) (by decide +kernel)
theorem zu_m362 : (Cond.fieldLink "ChainHouse$Scope" (35 : Nat) "ChainHouse$Scope" "nextPlace" "[I") ∈ zu_ws := List.mem_of_getElem? (i := 362) (by decide +kernel)
theorem zu_m363 : (Cond.classLink "ChainHouse$Scope" (38 : Nat) "[[I") ∈ zu_ws := List.mem_of_getElem? (i := 363) (by decide +kernel)
theorem zu_m364 : (Cond.fieldLink "ChainHouse$Scope" (40 : Nat) "ChainHouse$Scope" "stack" "[[I") ∈ zu_ws := List.mem_of_getElem? (i := 364) (by decide +kernel)
theorem zu_m365 : (Cond.fieldLink "ChainHouse$Scope" (43 : Nat) "ChainHouse$Scope" "values" "[[I") ∈ zu_ws := List.mem_of_getElem? (i := 365) (by decide +kernel)
theorem zu_m366 : (Cond.methodLink "ChainHouse$Assembler" (3 : Nat) ({ cls := "java/lang/Object", name := "<init>", desc := "()V" } : MethodName)) ∈ zu_ws := List.mem_of_getElem? (i := 366) (by decide +kernel)
theorem zu_m367 : (Cond.fieldLink "ChainHouse$Assembler" (9 : Nat) "ChainHouse$Assembler" "place" "I") ∈ zu_ws := List.mem_of_getElem? (i := 367) (by decide +kernel)
theorem zu_m368 : (Cond.classLink "ChainHouse$Assembler" (15 : Nat) "ChainHouse$Scope") ∈ zu_ws := List.mem_of_getElem? (i := 368) (by decide +kernel)
theorem zu_m369 : (Cond.instantiable "ChainHouse$Scope" (16 : Nat)) ∈ zu_ws := List.mem_of_getElem? (i := 369) (by decide +kernel)
theorem zu_m370 : (Cond.initialized "ChainHouse$Scope") ∈ zu_ws := List.mem_of_getElem? (i := 370) (by decide +kernel)
theorem zu_m371 : (Cond.instanceMethod ({ cls := "ChainHouse$Scope", name := "<init>", desc := "()V" } : MethodName)) ∈ zu_ws := List.mem_of_getElem? (i := 371) (by decide +kernel)
theorem zu_m372 : (Cond.fieldLink "ChainHouse$Assembler" (18 : Nat) "ChainHouse$Assembler" "scope" "LChainHouse$Scope;") ∈ zu_ws := List.mem_of_getElem? (i := 372) (by decide +kernel)
theorem zu_m373 : (Cond.fieldLink "ChainHouse$Assembler" (22 : Nat) "ChainHouse$Assembler" "pushed" "[I") ∈ zu_ws := List.mem_of_getElem? (i := 373) (by decide +kernel)
theorem zu_m374 : (Cond.methodLink "ChainHouse$ObjectFile" (3 : Nat) ({ cls := "java/lang/Object", name := "<init>", desc := "()V" } : MethodName)) ∈ zu_ws := List.mem_of_getElem? (i := 374) (by decide +kernel)
theorem zu_m375 : (Cond.fieldLink "ChainHouse$ObjectFile" (9 : Nat) "ChainHouse$ObjectFile" "place" "I") ∈ zu_ws := List.mem_of_getElem? (i := 375) (by decide +kernel)
theorem zu_m376 : (Cond.classLink "ChainHouse$ObjectFile" (15 : Nat) "ChainHouse$Contents") ∈ zu_ws := List.mem_of_getElem? (i := 376) (by decide +kernel)
theorem zu_m377 : (Cond.methodLink "ChainHouse$ObjectFile" (17 : Nat) ({ cls := "ChainHouse$Contents", name := "<init>", desc := "()V" } : MethodName)) ∈ zu_ws := List.mem_of_getElem? (i := 377) (by decide +kernel)
theorem zu_m378 : (Cond.fieldLink "ChainHouse$ObjectFile" (18 : Nat) "ChainHouse$ObjectFile" "contents" "LChainHouse$Contents;") ∈ zu_ws := List.mem_of_getElem? (i := 378) (by decide +kernel)
theorem zu_m379 : (Cond.classLink "ChainHouse$ObjectFile" (22 : Nat) "ChainHouse$Bytes") ∈ zu_ws := List.mem_of_getElem? (i := 379) (by decide +kernel)
theorem zu_m380 : (Cond.methodLink "ChainHouse$ObjectFile" (24 : Nat) ({ cls := "ChainHouse$Bytes", name := "<init>", desc := "(I)V" } : MethodName)) ∈ zu_ws := List.mem_of_getElem? (i := 380) (by decide +kernel)
theorem zu_m381 : (Cond.fieldLink "ChainHouse$ObjectFile" (27 : Nat) "ChainHouse$ObjectFile" "file" "LChainHouse$Bytes;") ∈ zu_ws := List.mem_of_getElem? (i := 381) (by decide +kernel)
theorem zu_m382 : (Cond.fieldLink "ChainHouse$ObjectFile" (31 : Nat) "ChainHouse$ObjectFile" "strings" "LChainHouse$Bytes;") ∈ zu_ws := List.mem_of_getElem? (i := 382) (by decide +kernel)
theorem zu_m383 : (Cond.fieldLink "ChainHouse$ObjectFile" (34 : Nat) "ChainHouse$ObjectFile" "entryOf" "[I") ∈ zu_ws := List.mem_of_getElem? (i := 383) (by decide +kernel)
theorem zu_m384 : (Cond.fieldLink "ChainHouse$ObjectFile" (38 : Nat) "ChainHouse$ObjectFile" "begins" "[I") ∈ zu_ws := List.mem_of_getElem? (i := 384) (by decide +kernel)
theorem zu_m385 : (Cond.fieldLink "ChainHouse$ObjectFile" (41 : Nat) "ChainHouse$ObjectFile" "lengths" "[I") ∈ zu_ws := List.mem_of_getElem? (i := 385) (by decide +kernel)
theorem zu_m386 : (Cond.fieldLink "ChainHouse$ObjectFile" (44 : Nat) "ChainHouse$ObjectFile" "nameAt" "[I") ∈ zu_ws := List.mem_of_getElem? (i := 386) (by decide +kernel)
theorem zu_m387 : (Cond.fieldLink "ChainHouse$ObjectFile" (47 : Nat) "ChainHouse$ObjectFile" "partOf" "[I") ∈ zu_ws := List.mem_of_getElem? (i := 387) (by decide +kernel)
theorem zu_m388 : (Cond.fieldLink "ChainHouse$ObjectFile" (50 : Nat) "ChainHouse$ObjectFile" "order" "[I") ∈ zu_ws := List.mem_of_getElem? (i := 388) (by decide +kernel)
theorem zu_m389 : (Cond.fieldLink "ChainHouse$ObjectFile" (53 : Nat) "ChainHouse$ObjectFile" "numberOf" "[I") ∈ zu_ws := List.mem_of_getElem? (i := 389) (by decide +kernel)
theorem zu_m390 : (Cond.methodLink "ChainHouse$Globals" (3 : Nat) ({ cls := "java/lang/Object", name := "<init>", desc := "()V" } : MethodName)) ∈ zu_ws := List.mem_of_getElem? (i := 390) (by decide +kernel)
theorem zu_m391 : (Cond.classLink "ChainHouse$Globals" (11 : Nat) "[[J") ∈ zu_ws := List.mem_of_getElem? (i := 391) (by decide +kernel)
theorem zu_m392 : (Cond.fieldLink "ChainHouse$Globals" (13 : Nat) "ChainHouse$Globals" "names" "[[J") ∈ zu_ws := List.mem_of_getElem? (i := 392) (by decide +kernel)
theorem zu_m393 : (Cond.classLink "ChainHouse$Globals" (16 : Nat) "[[I") ∈ zu_ws := List.mem_of_getElem? (i := 393) (by decide +kernel)
theorem zu_m394 : (Cond.fieldLink "ChainHouse$Globals" (18 : Nat) "ChainHouse$Globals" "rows" "[[I") ∈ zu_ws := List.mem_of_getElem? (i := 394) (by decide +kernel)
theorem zu_m395 : (Cond.fieldLink "ChainHouse$Globals" (23 : Nat) "ChainHouse$Globals" "of" "[[I") ∈ zu_ws := List.mem_of_getElem? (i := 395) (by decide +kernel)
theorem zu_m396 : (Cond.methodLink "ChainHouse$Layout" (3 : Nat) ({ cls := "java/lang/Object", name := "<init>", desc := "()V" } : MethodName)) ∈ zu_ws := List.mem_of_getElem? (i := 396) (by decide +kernel)
theorem zu_m397 : (Cond.classLink "ChainHouse$Layout" (11 : Nat) "[[I") ∈ zu_ws := List.mem_of_getElem? (i := 397) (by decide +kernel)
theorem zu_m398 : (Cond.fieldLink "ChainHouse$Layout" (13 : Nat) "ChainHouse$Layout" "parts" "[[I") ∈ zu_ws := List.mem_of_getElem? (i := 398) (by decide +kernel)
theorem zu_m399 : (Cond.fieldLink "ChainHouse$Layout" (16 : Nat) "ChainHouse$Layout" "pieces" "[[I") ∈ zu_ws := List.mem_of_getElem? (i := 399) (by decide +kernel)
theorem zu_m400 : (Cond.fieldLink "ChainHouse$Layout" (19 : Nat) "ChainHouse$Layout" "labels" "[[I") ∈ zu_ws := List.mem_of_getElem? (i := 400) (by decide +kernel)
theorem zu_m401 : (Cond.fieldLink "ChainHouse$Layout" (22 : Nat) "ChainHouse$Layout" "begins" "[I") ∈ zu_ws := List.mem_of_getElem? (i := 401) (by decide +kernel)
theorem zu_m402 : (Cond.fieldLink "ChainHouse$Layout" (26 : Nat) "ChainHouse$Layout" "ends" "[I") ∈ zu_ws := List.mem_of_getElem? (i := 402) (by decide +kernel)
theorem zu_m403 : (Cond.methodLink "ChainHouse$Image" (5 : Nat) ({ cls := "java/lang/Object", name := "<init>", desc := "()V" } : MethodName)) ∈ zu_ws := List.mem_of_getElem? (i := 403) (by decide +kernel)
theorem zu_m404 : (Cond.arrayClass FieldType.boolean) ∈ zu_ws := List.mem_of_getElem? (i := 404) (by decide +kernel)
theorem zu_m405 : (Cond.fieldLink "ChainHouse$Image" (11 : Nat) "ChainHouse$Image" "isThere" "[Z") ∈ zu_ws := List.mem_of_getElem? (i := 405) (by decide +kernel)
theorem zu_m406 : (Cond.fieldLink "ChainHouse$Image" (15 : Nat) "ChainHouse$Image" "address" "[I") ∈ zu_ws := List.mem_of_getElem? (i := 406) (by decide +kernel)
theorem zu_m407 : (Cond.classLink "ChainHouse$Image" (19 : Nat) "ChainHouse$Bytes") ∈ zu_ws := List.mem_of_getElem? (i := 407) (by decide +kernel)
theorem zu_m408 : (Cond.fieldLink "ChainHouse$Image" (21 : Nat) "ChainHouse$Image" "bytes" "[LChainHouse$Bytes;") ∈ zu_ws := List.mem_of_getElem? (i := 408) (by decide +kernel)
theorem zu_m409 : (Cond.fieldLink "ChainHouse$Image" (25 : Nat) "ChainHouse$Image" "more" "[I") ∈ zu_ws := List.mem_of_getElem? (i := 409) (by decide +kernel)
theorem zu_m410 : (Cond.fieldLink "ChainHouse$Image" (28 : Nat) "ChainHouse$Image" "marks" "[Z") ∈ zu_ws := List.mem_of_getElem? (i := 410) (by decide +kernel)
theorem zu_m411 : (Cond.fieldLink "ChainHouse$Image" (31 : Nat) "ChainHouse$Image" "place" "I") ∈ zu_ws := List.mem_of_getElem? (i := 411) (by decide +kernel)
theorem zu_m412 : (Cond.methodLink "ChainHouse$Image" (35 : Nat) ({ cls := "ChainHouse$Bytes", name := "<init>", desc := "(I)V" } : MethodName)) ∈ zu_ws := List.mem_of_getElem? (i := 412) (by decide +kernel)
theorem zu_m413 : (Cond.fieldLink "ChainHouse$Image" (38 : Nat) "ChainHouse$Image" "file" "LChainHouse$Bytes;") ∈ zu_ws := List.mem_of_getElem? (i := 413) (by decide +kernel)
theorem zu_m414 : (Cond.fieldLink "ChainHouse$Image" (42 : Nat) "ChainHouse$Image" "rowOf" "[I") ∈ zu_ws := List.mem_of_getElem? (i := 414) (by decide +kernel)
theorem zu_m415 : (Cond.methodLink "ChainHouse$Word" (3 : Nat) ({ cls := "java/lang/Object", name := "<init>", desc := "()V" } : MethodName)) ∈ zu_ws := List.mem_of_getElem? (i := 415) (by decide +kernel)
theorem zu_m416 : (Cond.fieldLink "ChainHouse$Word" (11 : Nat) "ChainHouse$Word" "kind" "I") ∈ zu_ws := List.mem_of_getElem? (i := 416) (by decide +kernel)
theorem zu_m417 : (Cond.methodLink "ChainHouse$Linker" (3 : Nat) ({ cls := "java/lang/Object", name := "<init>", desc := "()V" } : MethodName)) ∈ zu_ws := List.mem_of_getElem? (i := 417) (by decide +kernel)
theorem zu_m418 : (Cond.fieldLink "ChainHouse$Linker" (9 : Nat) "ChainHouse$Linker" "unit" "I") ∈ zu_ws := List.mem_of_getElem? (i := 418) (by decide +kernel)
theorem zu_m419 : (Cond.fieldLink "ChainHouse$Linker" (15 : Nat) "ChainHouse$Linker" "number" "I") ∈ zu_ws := List.mem_of_getElem? (i := 419) (by decide +kernel)
theorem zu_m420 : (Cond.classLink "ChainHouse$Linker" (18 : Nat) "ChainHouse$Contents") ∈ zu_ws := List.mem_of_getElem? (i := 420) (by decide +kernel)
theorem zu_m421 : (Cond.fieldLink "ChainHouse$Linker" (20 : Nat) "ChainHouse$Linker" "objects" "[LChainHouse$Contents;") ∈ zu_ws := List.mem_of_getElem? (i := 421) (by decide +kernel)
theorem zu_m422 : (Cond.fieldLink "ChainHouse$Linker" (24 : Nat) "ChainHouse$Linker" "units" "[I") ∈ zu_ws := List.mem_of_getElem? (i := 422) (by decide +kernel)
theorem zu_m423 : (Cond.classLink "ChainHouse$Linker" (28 : Nat) "ChainHouse$Globals") ∈ zu_ws := List.mem_of_getElem? (i := 423) (by decide +kernel)
theorem zu_m424 : (Cond.instantiable "ChainHouse$Globals" (4 : Nat)) ∈ zu_ws := List.mem_of_getElem? (i := 424) (by decide +kernel)
theorem zu_m425 : (Cond.initialized "ChainHouse$Globals") ∈ zu_ws := List.mem_of_getElem? (i := 425) (by decide +kernel)
theorem zu_m426 : (Cond.instanceMethod ({ cls := "ChainHouse$Globals", name := "<init>", desc := "()V" } : MethodName)) ∈ zu_ws := List.mem_of_getElem? (i := 426) (by decide +kernel)
theorem zu_m427 : (Cond.fieldLink "ChainHouse$Linker" (31 : Nat) "ChainHouse$Linker" "globals" "LChainHouse$Globals;") ∈ zu_ws := List.mem_of_getElem? (i := 427) (by decide +kernel)
theorem zu_m428 : (Cond.fieldLink "ChainHouse$Linker" (35 : Nat) "ChainHouse$Linker" "known" "LChainHouse$Globals;") ∈ zu_ws := List.mem_of_getElem? (i := 428) (by decide +kernel)
theorem zu_m429 : (Cond.classLink "ChainHouse$Linker" (38 : Nat) "ChainHouse$Layout") ∈ zu_ws := List.mem_of_getElem? (i := 429) (by decide +kernel)
theorem zu_m430 : (Cond.instantiable "ChainHouse$Layout" (8 : Nat)) ∈ zu_ws := List.mem_of_getElem? (i := 430) (by decide +kernel)
theorem zu_m431 : (Cond.initialized "ChainHouse$Layout") ∈ zu_ws := List.mem_of_getElem? (i := 431) (by decide +kernel)
theorem zu_m432 : (Cond.instanceMethod ({ cls := "ChainHouse$Layout", name := "<init>", desc := "()V" } : MethodName)) ∈ zu_ws := List.mem_of_getElem? (i := 432) (by decide +kernel)
theorem zu_m433 : (Cond.fieldLink "ChainHouse$Linker" (41 : Nat) "ChainHouse$Linker" "layout" "LChainHouse$Layout;") ∈ zu_ws := List.mem_of_getElem? (i := 433) (by decide +kernel)
theorem zu_m434 : (Cond.classLink "ChainHouse$Linker" (45 : Nat) "ChainHouse$Image") ∈ zu_ws := List.mem_of_getElem? (i := 434) (by decide +kernel)
theorem zu_m435 : (Cond.instantiable "ChainHouse$Image" (13 : Nat)) ∈ zu_ws := List.mem_of_getElem? (i := 435) (by decide +kernel)
theorem zu_m436 : (Cond.initialized "ChainHouse$Image") ∈ zu_ws := List.mem_of_getElem? (i := 436) (by decide +kernel)
theorem zu_m437 : (Cond.methodLink "ChainHouse$Linker" (47 : Nat) ({ cls := "ChainHouse$Image", name := "<init>", desc := "()V" } : MethodName)) ∈ zu_ws := List.mem_of_getElem? (i := 437) (by decide +kernel)
theorem zu_m438 : (Cond.instanceMethod ({ cls := "ChainHouse$Image", name := "<init>", desc := "()V" } : MethodName)) ∈ zu_ws := List.mem_of_getElem? (i := 438) (by decide +kernel)
theorem zu_m439 : (Cond.fieldLink "ChainHouse$Linker" (48 : Nat) "ChainHouse$Linker" "image" "LChainHouse$Image;") ∈ zu_ws := List.mem_of_getElem? (i := 439) (by decide +kernel)
theorem zu_m440 : (Cond.classLink "ChainHouse$Linker" (52 : Nat) "ChainHouse$Word") ∈ zu_ws := List.mem_of_getElem? (i := 440) (by decide +kernel)
theorem zu_m441 : (Cond.instantiable "ChainHouse$Word" (5 : Nat)) ∈ zu_ws := List.mem_of_getElem? (i := 441) (by decide +kernel)
theorem zu_m442 : (Cond.initialized "ChainHouse$Word") ∈ zu_ws := List.mem_of_getElem? (i := 442) (by decide +kernel)
theorem zu_m443 : (Cond.instanceMethod ({ cls := "ChainHouse$Word", name := "<init>", desc := "()V" } : MethodName)) ∈ zu_ws := List.mem_of_getElem? (i := 443) (by decide +kernel)
theorem zu_m444 : (Cond.fieldLink "ChainHouse$Linker" (55 : Nat) "ChainHouse$Linker" "word" "LChainHouse$Word;") ∈ zu_ws := List.mem_of_getElem? (i := 444) (by decide +kernel)
theorem zu_m445 : (Cond.classLink "ChainHouse$Linker" (59 : Nat) "[[I") ∈ zu_ws := List.mem_of_getElem? (i := 445) (by decide +kernel)
theorem zu_m446 : (Cond.fieldLink "ChainHouse$Linker" (61 : Nat) "ChainHouse$Linker" "own" "[[I") ∈ zu_ws := List.mem_of_getElem? (i := 446) (by decide +kernel)
theorem zu_m447 : (Cond.fieldLink "ChainHouse$Linker" (64 : Nat) "ChainHouse$Linker" "eased" "[[I") ∈ zu_ws := List.mem_of_getElem? (i := 447) (by decide +kernel)
theorem zu_m448 : (Cond.fieldLink "ChainHouse$Linker" (67 : Nat) "ChainHouse$Linker" "labels" "[[I") ∈ zu_ws := List.mem_of_getElem? (i := 448) (by decide +kernel)
theorem zu_m449 : (Cond.fieldLink "ChainHouse$Linker" (70 : Nat) "ChainHouse$Linker" "spots" "[[I") ∈ zu_ws := List.mem_of_getElem? (i := 449) (by decide +kernel)
theorem zu_m450 : (Cond.fieldLink "ChainHouse$Linker" (73 : Nat) "ChainHouse$Linker" "order" "[I") ∈ zu_ws := List.mem_of_getElem? (i := 450) (by decide +kernel)
theorem zu_m451 : (Cond.methodLink "ChainHouse$Linker" (76 : Nat) ({ cls := "ChainHouse$Contents", name := "<init>", desc := "()V" } : MethodName)) ∈ zu_ws := List.mem_of_getElem? (i := 451) (by decide +kernel)
theorem zu_m452 : (Cond.methodLink "ChainHouse$Machine" (3 : Nat) ({ cls := "java/lang/Object", name := "<init>", desc := "()V" } : MethodName)) ∈ zu_ws := List.mem_of_getElem? (i := 452) (by decide +kernel)
theorem zu_m453 : (Cond.constant "ChainHouse$Machine" (11 : Nat) (32768 : Int32)) ∈ zu_ws := List.mem_of_getElem? (i := 453) (by decide +kernel)
theorem zu_m454 : (Cond.fieldLink "ChainHouse$Machine" (12 : Nat) "ChainHouse$Machine" "memory" "[I") ∈ zu_ws := List.mem_of_getElem? (i := 454) (by decide +kernel)
theorem zu_m455 : (Cond.fieldLink "ChainHouse$Machine" (16 : Nat) "ChainHouse$Machine" "registers" "[I") ∈ zu_ws := List.mem_of_getElem? (i := 455) (by decide +kernel)
theorem zu_m456 : (Cond.classLink "ChainHouse$Machine" (19 : Nat) "ChainHouse$Bytes") ∈ zu_ws := List.mem_of_getElem? (i := 456) (by decide +kernel)
theorem zu_m457 : (Cond.methodLink "ChainHouse$Machine" (21 : Nat) ({ cls := "ChainHouse$Bytes", name := "<init>", desc := "(I)V" } : MethodName)) ∈ zu_ws := List.mem_of_getElem? (i := 457) (by decide +kernel)
theorem zu_m458 : (Cond.fieldLink "ChainHouse$Machine" (24 : Nat) "ChainHouse$Machine" "output" "LChainHouse$Bytes;") ∈ zu_ws := List.mem_of_getElem? (i := 458) (by decide +kernel)
theorem zu_m459 : (Cond.fieldLink "ChainHouse$Machine" (30 : Nat) "ChainHouse$Machine" "begins" "[I") ∈ zu_ws := List.mem_of_getElem? (i := 459) (by decide +kernel)
theorem zu_m460 : (Cond.fieldLink "ChainHouse$Machine" (33 : Nat) "ChainHouse$Machine" "extents" "[I") ∈ zu_ws := List.mem_of_getElem? (i := 460) (by decide +kernel)
theorem zu_m461 : (Cond.fieldLink "ChainHouse$Machine" (36 : Nat) "ChainHouse$Machine" "marks" "[Z") ∈ zu_ws := List.mem_of_getElem? (i := 461) (by decide +kernel)
theorem zu_m462 : (Cond.fieldLink "ChainHouse$Machine" (40 : Nat) "ChainHouse$Machine" "halts" "[I") ∈ zu_ws := List.mem_of_getElem? (i := 462) (by decide +kernel)
theorem zu_m463 : (Cond.fieldLink "ChainHouse$Machine" (43 : Nat) "ChainHouse$Machine" "input" "LChainHouse$Bytes;") ∈ zu_ws := List.mem_of_getElem? (i := 463) (by decide +kernel)
theorem zu_m464 : (Cond.classLink "ChainHouse$Machine" (46 : Nat) "[[I") ∈ zu_ws := List.mem_of_getElem? (i := 464) (by decide +kernel)
theorem zu_m465 : (Cond.fieldLink "ChainHouse$Machine" (48 : Nat) "ChainHouse$Machine" "kept" "[[I") ∈ zu_ws := List.mem_of_getElem? (i := 465) (by decide +kernel)
theorem zu_m466 : (Cond.classLink "ChainHouse$Machine" (51 : Nat) "ChainHouse$Word") ∈ zu_ws := List.mem_of_getElem? (i := 466) (by decide +kernel)
theorem zu_m467 : (Cond.fieldLink "ChainHouse$Machine" (54 : Nat) "ChainHouse$Machine" "word" "LChainHouse$Word;") ∈ zu_ws := List.mem_of_getElem? (i := 467) (by decide +kernel)
theorem zu_m468 : (Cond.methodLink "ChainHouse" (1 : Nat) ({ cls := "java/lang/Object", name := "<init>", desc := "()V" } : MethodName)) ∈ zu_ws := List.mem_of_getElem? (i := 468) (by decide +kernel)
theorem zu_m469 : (Cond.fieldLink "ChainHouse" (9 : Nat) "ChainHouse" "waiting" "[B") ∈ zu_ws := List.mem_of_getElem? (i := 469) (by decide +kernel)
theorem zu_m470 : (Cond.classLink "ChainHouse" (13 : Nat) "ChainHouse$Bytes") ∈ zu_ws := List.mem_of_getElem? (i := 470) (by decide +kernel)
theorem zu_m471 : (Cond.methodLink "ChainHouse" (15 : Nat) ({ cls := "ChainHouse$Bytes", name := "<init>", desc := "(I)V" } : MethodName)) ∈ zu_ws := List.mem_of_getElem? (i := 471) (by decide +kernel)
theorem zu_m472 : (Cond.fieldLink "ChainHouse" (18 : Nat) "ChainHouse" "text" "LChainHouse$Bytes;") ∈ zu_ws := List.mem_of_getElem? (i := 472) (by decide +kernel)
theorem zu_m473 : (Cond.fieldLink "ChainHouse" (22 : Nat) "ChainHouse" "files" "[LChainHouse$Bytes;") ∈ zu_ws := List.mem_of_getElem? (i := 473) (by decide +kernel)
theorem zu_m474 : (Cond.fieldLink "ChainHouse" (26 : Nat) "ChainHouse" "image" "LChainHouse$Bytes;") ∈ zu_ws := List.mem_of_getElem? (i := 474) (by decide +kernel)
theorem zu_m475 : (Cond.fieldLink "ChainHouse" (29 : Nat) "ChainHouse" "scratch" "LChainHouse$Bytes;") ∈ zu_ws := List.mem_of_getElem? (i := 475) (by decide +kernel)
theorem zu_m476 : (Cond.fieldLink "ChainHouse" (32 : Nat) "ChainHouse" "out" "LChainHouse$Bytes;") ∈ zu_ws := List.mem_of_getElem? (i := 476) (by decide +kernel)
theorem zu_m477 : (Cond.classLink "ChainHouse" (35 : Nat) "ChainHouse$Assembler") ∈ zu_ws := List.mem_of_getElem? (i := 477) (by decide +kernel)
theorem zu_m478 : (Cond.instantiable "ChainHouse$Assembler" (17 : Nat)) ∈ zu_ws := List.mem_of_getElem? (i := 478) (by decide +kernel)
theorem zu_m479 : (Cond.initialized "ChainHouse$Assembler") ∈ zu_ws := List.mem_of_getElem? (i := 479) (by decide +kernel)
theorem zu_m480 : (Cond.instanceMethod ({ cls := "ChainHouse$Assembler", name := "<init>", desc := "()V" } : MethodName)) ∈ zu_ws := List.mem_of_getElem? (i := 480) (by decide +kernel)
theorem zu_m481 : (Cond.fieldLink "ChainHouse" (38 : Nat) "ChainHouse" "assembler" "LChainHouse$Assembler;") ∈ zu_ws := List.mem_of_getElem? (i := 481) (by decide +kernel)
theorem zu_m482 : (Cond.classLink "ChainHouse" (42 : Nat) "ChainHouse$ObjectFile") ∈ zu_ws := List.mem_of_getElem? (i := 482) (by decide +kernel)
theorem zu_m483 : (Cond.instantiable "ChainHouse$ObjectFile" (15 : Nat)) ∈ zu_ws := List.mem_of_getElem? (i := 483) (by decide +kernel)
theorem zu_m484 : (Cond.initialized "ChainHouse$ObjectFile") ∈ zu_ws := List.mem_of_getElem? (i := 484) (by decide +kernel)
theorem zu_m485 : (Cond.instanceMethod ({ cls := "ChainHouse$ObjectFile", name := "<init>", desc := "()V" } : MethodName)) ∈ zu_ws := List.mem_of_getElem? (i := 485) (by decide +kernel)
theorem zu_m486 : (Cond.fieldLink "ChainHouse" (45 : Nat) "ChainHouse" "objectFile" "LChainHouse$ObjectFile;") ∈ zu_ws := List.mem_of_getElem? (i := 486) (by decide +kernel)
theorem zu_m487 : (Cond.classLink "ChainHouse" (49 : Nat) "ChainHouse$Linker") ∈ zu_ws := List.mem_of_getElem? (i := 487) (by decide +kernel)
theorem zu_m488 : (Cond.instantiable "ChainHouse$Linker" (19 : Nat)) ∈ zu_ws := List.mem_of_getElem? (i := 488) (by decide +kernel)
theorem zu_m489 : (Cond.initialized "ChainHouse$Linker") ∈ zu_ws := List.mem_of_getElem? (i := 489) (by decide +kernel)
theorem zu_m490 : (Cond.methodLink "ChainHouse" (51 : Nat) ({ cls := "ChainHouse$Linker", name := "<init>", desc := "()V" } : MethodName)) ∈ zu_ws := List.mem_of_getElem? (i := 490) (by decide +kernel)
theorem zu_m491 : (Cond.instanceMethod ({ cls := "ChainHouse$Linker", name := "<init>", desc := "()V" } : MethodName)) ∈ zu_ws := List.mem_of_getElem? (i := 491) (by decide +kernel)
theorem zu_m492 : (Cond.fieldLink "ChainHouse" (52 : Nat) "ChainHouse" "linker" "LChainHouse$Linker;") ∈ zu_ws := List.mem_of_getElem? (i := 492) (by decide +kernel)
theorem zu_m493 : (Cond.classLink "ChainHouse" (56 : Nat) "ChainHouse$Image") ∈ zu_ws := List.mem_of_getElem? (i := 493) (by decide +kernel)
theorem zu_m494 : (Cond.methodLink "ChainHouse" (58 : Nat) ({ cls := "ChainHouse$Image", name := "<init>", desc := "()V" } : MethodName)) ∈ zu_ws := List.mem_of_getElem? (i := 494) (by decide +kernel)
theorem zu_m495 : (Cond.fieldLink "ChainHouse" (59 : Nat) "ChainHouse" "loaded" "LChainHouse$Image;") ∈ zu_ws := List.mem_of_getElem? (i := 495) (by decide +kernel)
theorem zu_m496 : (Cond.classLink "ChainHouse" (63 : Nat) "ChainHouse$Machine") ∈ zu_ws := List.mem_of_getElem? (i := 496) (by decide +kernel)
theorem zu_m497 : (Cond.instantiable "ChainHouse$Machine" (19 : Nat)) ∈ zu_ws := List.mem_of_getElem? (i := 497) (by decide +kernel)
theorem zu_m498 : (Cond.initialized "ChainHouse$Machine") ∈ zu_ws := List.mem_of_getElem? (i := 498) (by decide +kernel)
theorem zu_m499 : (Cond.instanceMethod ({ cls := "ChainHouse$Machine", name := "<init>", desc := "()V" } : MethodName)) ∈ zu_ws := List.mem_of_getElem? (i := 499) (by decide +kernel)
