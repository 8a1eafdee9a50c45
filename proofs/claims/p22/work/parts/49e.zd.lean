/-! ===== which row knows an instruction: by its maker ===== -/
noncomputable def zd_cn (i : Instr) : Nat := match i with
  | .aload_n _ => 0
  | .iload_n _ => 1
  | .iconst _ => 2
  | .invokevirtual _ => 3
  | .iload _ => 4
  | .bipush _ => 5
  | .getfield _ => 6
  | .ireturn => 7
  | .sipush _ => 8
  | .lconst _ => 9
  | .aconst_null => 10
  | .istore _ => 11
  | .istore_n _ => 12
  | .lload _ => 13
  | .lload_n _ => 14
  | .lstore _ => 15
  | .lstore_n _ => 16
  | .aload _ => 17
  | .astore _ => 18
  | .astore_n _ => 19
  | .iinc _ _ => 20
  | .iadd => 21
  | .isub => 22
  | .iand => 23
  | .ishr => 24
  | .iushr => 25
  | .idiv => 26
  | .irem => 27
  | .imul => 28
  | .ior => 29
  | .ixor => 30
  | .ishl => 31
  | .ladd => 32
  | .lsub => 33
  | .lmul => 34
  | .land => 35
  | .lor => 36
  | .lshl => 37
  | .lshr => 38
  | .lushr => 39
  | .ldiv => 40
  | .lrem => 41
  | .ineg => 42
  | .i2b => 43
  | .i2s => 44
  | .i2c => 45
  | .lneg => 46
  | .i2l => 47
  | .l2i => 48
  | .lcmp => 49
  | .dup => 50
  | .pop => 51
  | .dup2 => 52
  | .goto _ => 65
  | .ifnull _ => 66
  | .ifnonnull _ => 67
  | .tableswitch _ _ _ _ => 68
  | .lookupswitch _ _ => 69
  | .iaload => 70
  | .laload => 71
  | .baload => 72
  | .aaload => 73
  | .iastore => 74
  | .lastore => 75
  | .bastore => 76
  | .arraylength => 77
  | .lreturn => 78
  | .areturn => 79
  | .return_ => 80
  | .ldc _ => 81
  | .ldc_w _ => 82
  | .ldc2_w _ => 83
  | .putfield _ => 84
  | .getstatic _ => 85
  | .invokestatic _ => 86
  | .ifCond c _ => (match c with | .eq => 53 | .ne => 55 | .lt => 57 | .ge => 59 | .gt => 61 | .le => 63)
  | .if_icmp c _ => (match c with | .eq => 54 | .ne => 56 | .lt => 58 | .ge => 60 | .gt => 62 | .le => 64)
  | _ => 87
theorem zd_c0 {O : List zx_W} {K0 : Nat} {rt : List Nat} {TX : List zx_X} {pool : zx_Tr zr_E} {ml : Nat} {rty : Option FieldType} {pc : Nat} {i : Instr} {n : Nat} {g : zx_F} (h : (zr_aload_n pc) i n = some g) : zd_cn i = 0 := by
  unfold zr_aload_n at h
  split at h
  · rfl
  · cases h
theorem zd_c1 {O : List zx_W} {K0 : Nat} {rt : List Nat} {TX : List zx_X} {pool : zx_Tr zr_E} {ml : Nat} {rty : Option FieldType} {pc : Nat} {i : Instr} {n : Nat} {g : zx_F} (h : (zr_iload_n pc) i n = some g) : zd_cn i = 1 := by
  unfold zr_iload_n at h
  split at h
  · rfl
  · cases h
theorem zd_c2 {O : List zx_W} {K0 : Nat} {rt : List Nat} {TX : List zx_X} {pool : zx_Tr zr_E} {ml : Nat} {rty : Option FieldType} {pc : Nat} {i : Instr} {n : Nat} {g : zx_F} (h : (zr_iconst pc) i n = some g) : zd_cn i = 2 := by
  unfold zr_iconst at h
  split at h
  · rfl
  · cases h
theorem zd_c3 {O : List zx_W} {K0 : Nat} {rt : List Nat} {TX : List zx_X} {pool : zx_Tr zr_E} {ml : Nat} {rty : Option FieldType} {pc : Nat} {i : Instr} {n : Nat} {g : zx_F} (h : (zr_invv pool TX pc) i n = some g) : zd_cn i = 3 := by
  unfold zr_invv at h
  split at h
  · rfl
  · cases h
theorem zd_c4 {O : List zx_W} {K0 : Nat} {rt : List Nat} {TX : List zx_X} {pool : zx_Tr zr_E} {ml : Nat} {rty : Option FieldType} {pc : Nat} {i : Instr} {n : Nat} {g : zx_F} (h : (zr_iload pc) i n = some g) : zd_cn i = 4 := by
  unfold zr_iload at h
  split at h
  · rfl
  · cases h
theorem zd_c5 {O : List zx_W} {K0 : Nat} {rt : List Nat} {TX : List zx_X} {pool : zx_Tr zr_E} {ml : Nat} {rty : Option FieldType} {pc : Nat} {i : Instr} {n : Nat} {g : zx_F} (h : (zr_bipush pc) i n = some g) : zd_cn i = 5 := by
  unfold zr_bipush at h
  split at h
  · rfl
  · cases h
theorem zd_c6 {O : List zx_W} {K0 : Nat} {rt : List Nat} {TX : List zx_X} {pool : zx_Tr zr_E} {ml : Nat} {rty : Option FieldType} {pc : Nat} {i : Instr} {n : Nat} {g : zx_F} (h : (zr_getf pool TX pc) i n = some g) : zd_cn i = 6 := by
  unfold zr_getf at h
  split at h
  · rfl
  · cases h
theorem zd_c7 {O : List zx_W} {K0 : Nat} {rt : List Nat} {TX : List zx_X} {pool : zx_Tr zr_E} {ml : Nat} {rty : Option FieldType} {pc : Nat} {i : Instr} {n : Nat} {g : zx_F} (h : (zr_iret rty pc) i n = some g) : zd_cn i = 7 := by
  unfold zr_iret at h
  split at h
  · rfl
  · cases h
theorem zd_c8 {O : List zx_W} {K0 : Nat} {rt : List Nat} {TX : List zx_X} {pool : zx_Tr zr_E} {ml : Nat} {rty : Option FieldType} {pc : Nat} {i : Instr} {n : Nat} {g : zx_F} (h : (zr_sipush pc) i n = some g) : zd_cn i = 8 := by
  unfold zr_sipush at h
  split at h
  · rfl
  · cases h
theorem zd_c9 {O : List zx_W} {K0 : Nat} {rt : List Nat} {TX : List zx_X} {pool : zx_Tr zr_E} {ml : Nat} {rty : Option FieldType} {pc : Nat} {i : Instr} {n : Nat} {g : zx_F} (h : (zr_lconst pc) i n = some g) : zd_cn i = 9 := by
  unfold zr_lconst at h
  split at h
  · rfl
  · cases h
theorem zd_c10 {O : List zx_W} {K0 : Nat} {rt : List Nat} {TX : List zx_X} {pool : zx_Tr zr_E} {ml : Nat} {rty : Option FieldType} {pc : Nat} {i : Instr} {n : Nat} {g : zx_F} (h : (zr_null pc) i n = some g) : zd_cn i = 10 := by
  unfold zr_null at h
  split at h
  · rfl
  · cases h
theorem zd_c11 {O : List zx_W} {K0 : Nat} {rt : List Nat} {TX : List zx_X} {pool : zx_Tr zr_E} {ml : Nat} {rty : Option FieldType} {pc : Nat} {i : Instr} {n : Nat} {g : zx_F} (h : (zr_istore ml pc) i n = some g) : zd_cn i = 11 := by
  unfold zr_istore at h
  split at h
  · rfl
  · cases h
theorem zd_c12 {O : List zx_W} {K0 : Nat} {rt : List Nat} {TX : List zx_X} {pool : zx_Tr zr_E} {ml : Nat} {rty : Option FieldType} {pc : Nat} {i : Instr} {n : Nat} {g : zx_F} (h : (zr_istore_n ml pc) i n = some g) : zd_cn i = 12 := by
  unfold zr_istore_n at h
  split at h
  · rfl
  · cases h
theorem zd_c13 {O : List zx_W} {K0 : Nat} {rt : List Nat} {TX : List zx_X} {pool : zx_Tr zr_E} {ml : Nat} {rty : Option FieldType} {pc : Nat} {i : Instr} {n : Nat} {g : zx_F} (h : (zr_lload pc) i n = some g) : zd_cn i = 13 := by
  unfold zr_lload at h
  split at h
  · rfl
  · cases h
theorem zd_c14 {O : List zx_W} {K0 : Nat} {rt : List Nat} {TX : List zx_X} {pool : zx_Tr zr_E} {ml : Nat} {rty : Option FieldType} {pc : Nat} {i : Instr} {n : Nat} {g : zx_F} (h : (zr_lload_n pc) i n = some g) : zd_cn i = 14 := by
  unfold zr_lload_n at h
  split at h
  · rfl
  · cases h
theorem zd_c15 {O : List zx_W} {K0 : Nat} {rt : List Nat} {TX : List zx_X} {pool : zx_Tr zr_E} {ml : Nat} {rty : Option FieldType} {pc : Nat} {i : Instr} {n : Nat} {g : zx_F} (h : (zr_lstore ml pc) i n = some g) : zd_cn i = 15 := by
  unfold zr_lstore at h
  split at h
  · rfl
  · cases h
theorem zd_c16 {O : List zx_W} {K0 : Nat} {rt : List Nat} {TX : List zx_X} {pool : zx_Tr zr_E} {ml : Nat} {rty : Option FieldType} {pc : Nat} {i : Instr} {n : Nat} {g : zx_F} (h : (zr_lstore_n ml pc) i n = some g) : zd_cn i = 16 := by
  unfold zr_lstore_n at h
  split at h
  · rfl
  · cases h
theorem zd_c17 {O : List zx_W} {K0 : Nat} {rt : List Nat} {TX : List zx_X} {pool : zx_Tr zr_E} {ml : Nat} {rty : Option FieldType} {pc : Nat} {i : Instr} {n : Nat} {g : zx_F} (h : (zr_aload pc) i n = some g) : zd_cn i = 17 := by
  unfold zr_aload at h
  split at h
  · rfl
  · cases h
theorem zd_c18 {O : List zx_W} {K0 : Nat} {rt : List Nat} {TX : List zx_X} {pool : zx_Tr zr_E} {ml : Nat} {rty : Option FieldType} {pc : Nat} {i : Instr} {n : Nat} {g : zx_F} (h : (zr_astore ml pc) i n = some g) : zd_cn i = 18 := by
  unfold zr_astore at h
  split at h
  · rfl
  · cases h
theorem zd_c19 {O : List zx_W} {K0 : Nat} {rt : List Nat} {TX : List zx_X} {pool : zx_Tr zr_E} {ml : Nat} {rty : Option FieldType} {pc : Nat} {i : Instr} {n : Nat} {g : zx_F} (h : (zr_astore_n ml pc) i n = some g) : zd_cn i = 19 := by
  unfold zr_astore_n at h
  split at h
  · rfl
  · cases h
theorem zd_c20 {O : List zx_W} {K0 : Nat} {rt : List Nat} {TX : List zx_X} {pool : zx_Tr zr_E} {ml : Nat} {rty : Option FieldType} {pc : Nat} {i : Instr} {n : Nat} {g : zx_F} (h : (zr_iinc ml pc) i n = some g) : zd_cn i = 20 := by
  unfold zr_iinc at h
  split at h
  · rfl
  · cases h
theorem zd_c21 {O : List zx_W} {K0 : Nat} {rt : List Nat} {TX : List zx_X} {pool : zx_Tr zr_E} {ml : Nat} {rty : Option FieldType} {pc : Nat} {i : Instr} {n : Nat} {g : zx_F} (h : (zr_iadd pc) i n = some g) : zd_cn i = 21 := by
  unfold zr_iadd at h
  split at h
  · rfl
  · cases h
theorem zd_c22 {O : List zx_W} {K0 : Nat} {rt : List Nat} {TX : List zx_X} {pool : zx_Tr zr_E} {ml : Nat} {rty : Option FieldType} {pc : Nat} {i : Instr} {n : Nat} {g : zx_F} (h : (zr_isub pc) i n = some g) : zd_cn i = 22 := by
  unfold zr_isub at h
  split at h
  · rfl
  · cases h
theorem zd_c23 {O : List zx_W} {K0 : Nat} {rt : List Nat} {TX : List zx_X} {pool : zx_Tr zr_E} {ml : Nat} {rty : Option FieldType} {pc : Nat} {i : Instr} {n : Nat} {g : zx_F} (h : (zr_iand pc) i n = some g) : zd_cn i = 23 := by
  unfold zr_iand at h
  split at h
  · rfl
  · cases h
theorem zd_c24 {O : List zx_W} {K0 : Nat} {rt : List Nat} {TX : List zx_X} {pool : zx_Tr zr_E} {ml : Nat} {rty : Option FieldType} {pc : Nat} {i : Instr} {n : Nat} {g : zx_F} (h : (zr_ishr pc) i n = some g) : zd_cn i = 24 := by
  unfold zr_ishr at h
  split at h
  · rfl
  · cases h
theorem zd_c25 {O : List zx_W} {K0 : Nat} {rt : List Nat} {TX : List zx_X} {pool : zx_Tr zr_E} {ml : Nat} {rty : Option FieldType} {pc : Nat} {i : Instr} {n : Nat} {g : zx_F} (h : (zr_iushr pc) i n = some g) : zd_cn i = 25 := by
  unfold zr_iushr at h
  split at h
  · rfl
  · cases h
theorem zd_c26 {O : List zx_W} {K0 : Nat} {rt : List Nat} {TX : List zx_X} {pool : zx_Tr zr_E} {ml : Nat} {rty : Option FieldType} {pc : Nat} {i : Instr} {n : Nat} {g : zx_F} (h : (zr_idiv pc) i n = some g) : zd_cn i = 26 := by
  unfold zr_idiv at h
  split at h
  · rfl
  · cases h
theorem zd_c27 {O : List zx_W} {K0 : Nat} {rt : List Nat} {TX : List zx_X} {pool : zx_Tr zr_E} {ml : Nat} {rty : Option FieldType} {pc : Nat} {i : Instr} {n : Nat} {g : zx_F} (h : (zr_irem pc) i n = some g) : zd_cn i = 27 := by
  unfold zr_irem at h
  split at h
  · rfl
  · cases h
theorem zd_c28 {O : List zx_W} {K0 : Nat} {rt : List Nat} {TX : List zx_X} {pool : zx_Tr zr_E} {ml : Nat} {rty : Option FieldType} {pc : Nat} {i : Instr} {n : Nat} {g : zx_F} (h : (zr_imul pc) i n = some g) : zd_cn i = 28 := by
  unfold zr_imul at h
  split at h
  · rfl
  · cases h
theorem zd_c29 {O : List zx_W} {K0 : Nat} {rt : List Nat} {TX : List zx_X} {pool : zx_Tr zr_E} {ml : Nat} {rty : Option FieldType} {pc : Nat} {i : Instr} {n : Nat} {g : zx_F} (h : (zr_ior pc) i n = some g) : zd_cn i = 29 := by
  unfold zr_ior at h
  split at h
  · rfl
  · cases h
theorem zd_c30 {O : List zx_W} {K0 : Nat} {rt : List Nat} {TX : List zx_X} {pool : zx_Tr zr_E} {ml : Nat} {rty : Option FieldType} {pc : Nat} {i : Instr} {n : Nat} {g : zx_F} (h : (zr_ixor pc) i n = some g) : zd_cn i = 30 := by
  unfold zr_ixor at h
  split at h
  · rfl
  · cases h
theorem zd_c31 {O : List zx_W} {K0 : Nat} {rt : List Nat} {TX : List zx_X} {pool : zx_Tr zr_E} {ml : Nat} {rty : Option FieldType} {pc : Nat} {i : Instr} {n : Nat} {g : zx_F} (h : (zr_ishl pc) i n = some g) : zd_cn i = 31 := by
  unfold zr_ishl at h
  split at h
  · rfl
  · cases h
theorem zd_c32 {O : List zx_W} {K0 : Nat} {rt : List Nat} {TX : List zx_X} {pool : zx_Tr zr_E} {ml : Nat} {rty : Option FieldType} {pc : Nat} {i : Instr} {n : Nat} {g : zx_F} (h : (zr_ladd pc) i n = some g) : zd_cn i = 32 := by
  unfold zr_ladd at h
  split at h
  · rfl
  · cases h
theorem zd_c33 {O : List zx_W} {K0 : Nat} {rt : List Nat} {TX : List zx_X} {pool : zx_Tr zr_E} {ml : Nat} {rty : Option FieldType} {pc : Nat} {i : Instr} {n : Nat} {g : zx_F} (h : (zr_lsub pc) i n = some g) : zd_cn i = 33 := by
  unfold zr_lsub at h
  split at h
  · rfl
  · cases h
theorem zd_c34 {O : List zx_W} {K0 : Nat} {rt : List Nat} {TX : List zx_X} {pool : zx_Tr zr_E} {ml : Nat} {rty : Option FieldType} {pc : Nat} {i : Instr} {n : Nat} {g : zx_F} (h : (zr_lmul pc) i n = some g) : zd_cn i = 34 := by
  unfold zr_lmul at h
  split at h
  · rfl
  · cases h
theorem zd_c35 {O : List zx_W} {K0 : Nat} {rt : List Nat} {TX : List zx_X} {pool : zx_Tr zr_E} {ml : Nat} {rty : Option FieldType} {pc : Nat} {i : Instr} {n : Nat} {g : zx_F} (h : (zr_land pc) i n = some g) : zd_cn i = 35 := by
  unfold zr_land at h
  split at h
  · rfl
  · cases h
theorem zd_c36 {O : List zx_W} {K0 : Nat} {rt : List Nat} {TX : List zx_X} {pool : zx_Tr zr_E} {ml : Nat} {rty : Option FieldType} {pc : Nat} {i : Instr} {n : Nat} {g : zx_F} (h : (zr_lor pc) i n = some g) : zd_cn i = 36 := by
  unfold zr_lor at h
  split at h
  · rfl
  · cases h
theorem zd_c37 {O : List zx_W} {K0 : Nat} {rt : List Nat} {TX : List zx_X} {pool : zx_Tr zr_E} {ml : Nat} {rty : Option FieldType} {pc : Nat} {i : Instr} {n : Nat} {g : zx_F} (h : (zr_lshl pc) i n = some g) : zd_cn i = 37 := by
  unfold zr_lshl at h
  split at h
  · rfl
  · cases h
theorem zd_c38 {O : List zx_W} {K0 : Nat} {rt : List Nat} {TX : List zx_X} {pool : zx_Tr zr_E} {ml : Nat} {rty : Option FieldType} {pc : Nat} {i : Instr} {n : Nat} {g : zx_F} (h : (zr_lshr pc) i n = some g) : zd_cn i = 38 := by
  unfold zr_lshr at h
  split at h
  · rfl
  · cases h
theorem zd_c39 {O : List zx_W} {K0 : Nat} {rt : List Nat} {TX : List zx_X} {pool : zx_Tr zr_E} {ml : Nat} {rty : Option FieldType} {pc : Nat} {i : Instr} {n : Nat} {g : zx_F} (h : (zr_lushr pc) i n = some g) : zd_cn i = 39 := by
  unfold zr_lushr at h
  split at h
  · rfl
  · cases h
theorem zd_c40 {O : List zx_W} {K0 : Nat} {rt : List Nat} {TX : List zx_X} {pool : zx_Tr zr_E} {ml : Nat} {rty : Option FieldType} {pc : Nat} {i : Instr} {n : Nat} {g : zx_F} (h : (zr_ldiv pc) i n = some g) : zd_cn i = 40 := by
  unfold zr_ldiv at h
  split at h
  · rfl
  · cases h
theorem zd_c41 {O : List zx_W} {K0 : Nat} {rt : List Nat} {TX : List zx_X} {pool : zx_Tr zr_E} {ml : Nat} {rty : Option FieldType} {pc : Nat} {i : Instr} {n : Nat} {g : zx_F} (h : (zr_lrem pc) i n = some g) : zd_cn i = 41 := by
  unfold zr_lrem at h
  split at h
  · rfl
  · cases h
theorem zd_c42 {O : List zx_W} {K0 : Nat} {rt : List Nat} {TX : List zx_X} {pool : zx_Tr zr_E} {ml : Nat} {rty : Option FieldType} {pc : Nat} {i : Instr} {n : Nat} {g : zx_F} (h : (zr_ineg pc) i n = some g) : zd_cn i = 42 := by
  unfold zr_ineg at h
  split at h
  · rfl
  · cases h
theorem zd_c43 {O : List zx_W} {K0 : Nat} {rt : List Nat} {TX : List zx_X} {pool : zx_Tr zr_E} {ml : Nat} {rty : Option FieldType} {pc : Nat} {i : Instr} {n : Nat} {g : zx_F} (h : (zr_i2b pc) i n = some g) : zd_cn i = 43 := by
  unfold zr_i2b at h
  split at h
  · rfl
  · cases h
theorem zd_c44 {O : List zx_W} {K0 : Nat} {rt : List Nat} {TX : List zx_X} {pool : zx_Tr zr_E} {ml : Nat} {rty : Option FieldType} {pc : Nat} {i : Instr} {n : Nat} {g : zx_F} (h : (zr_i2s pc) i n = some g) : zd_cn i = 44 := by
  unfold zr_i2s at h
  split at h
  · rfl
  · cases h
theorem zd_c45 {O : List zx_W} {K0 : Nat} {rt : List Nat} {TX : List zx_X} {pool : zx_Tr zr_E} {ml : Nat} {rty : Option FieldType} {pc : Nat} {i : Instr} {n : Nat} {g : zx_F} (h : (zr_i2c pc) i n = some g) : zd_cn i = 45 := by
  unfold zr_i2c at h
  split at h
  · rfl
  · cases h
theorem zd_c46 {O : List zx_W} {K0 : Nat} {rt : List Nat} {TX : List zx_X} {pool : zx_Tr zr_E} {ml : Nat} {rty : Option FieldType} {pc : Nat} {i : Instr} {n : Nat} {g : zx_F} (h : (zr_lneg pc) i n = some g) : zd_cn i = 46 := by
  unfold zr_lneg at h
  split at h
  · rfl
  · cases h
theorem zd_c47 {O : List zx_W} {K0 : Nat} {rt : List Nat} {TX : List zx_X} {pool : zx_Tr zr_E} {ml : Nat} {rty : Option FieldType} {pc : Nat} {i : Instr} {n : Nat} {g : zx_F} (h : (zr_i2l pc) i n = some g) : zd_cn i = 47 := by
  unfold zr_i2l at h
  split at h
  · rfl
  · cases h
theorem zd_c48 {O : List zx_W} {K0 : Nat} {rt : List Nat} {TX : List zx_X} {pool : zx_Tr zr_E} {ml : Nat} {rty : Option FieldType} {pc : Nat} {i : Instr} {n : Nat} {g : zx_F} (h : (zr_l2i pc) i n = some g) : zd_cn i = 48 := by
  unfold zr_l2i at h
  split at h
  · rfl
  · cases h
theorem zd_c49 {O : List zx_W} {K0 : Nat} {rt : List Nat} {TX : List zx_X} {pool : zx_Tr zr_E} {ml : Nat} {rty : Option FieldType} {pc : Nat} {i : Instr} {n : Nat} {g : zx_F} (h : (zr_lcmp pc) i n = some g) : zd_cn i = 49 := by
  unfold zr_lcmp at h
  split at h
  · rfl
  · cases h
theorem zd_c50 {O : List zx_W} {K0 : Nat} {rt : List Nat} {TX : List zx_X} {pool : zx_Tr zr_E} {ml : Nat} {rty : Option FieldType} {pc : Nat} {i : Instr} {n : Nat} {g : zx_F} (h : (zr_dup pc) i n = some g) : zd_cn i = 50 := by
  unfold zr_dup at h
  split at h
  · rfl
  · cases h
theorem zd_c51 {O : List zx_W} {K0 : Nat} {rt : List Nat} {TX : List zx_X} {pool : zx_Tr zr_E} {ml : Nat} {rty : Option FieldType} {pc : Nat} {i : Instr} {n : Nat} {g : zx_F} (h : (zr_pop pc) i n = some g) : zd_cn i = 51 := by
  unfold zr_pop at h
  split at h
  · rfl
  · cases h
theorem zd_c52 {O : List zx_W} {K0 : Nat} {rt : List Nat} {TX : List zx_X} {pool : zx_Tr zr_E} {ml : Nat} {rty : Option FieldType} {pc : Nat} {i : Instr} {n : Nat} {g : zx_F} (h : (zr_dup2 pc) i n = some g) : zd_cn i = 52 := by
  unfold zr_dup2 at h
  split at h
  · rfl
  · cases h
theorem zd_c53 {O : List zx_W} {K0 : Nat} {rt : List Nat} {TX : List zx_X} {pool : zx_Tr zr_E} {ml : Nat} {rty : Option FieldType} {pc : Nat} {i : Instr} {n : Nat} {g : zx_F} (h : (zr_ifeq pc) i n = some g) : zd_cn i = 53 := by
  unfold zr_ifeq at h
  split at h
  · next c off =>
    have h2 := (zr_n_in h).2
    cases c with
    | eq => rfl
    | ne => exact nomatch h2
    | lt => exact nomatch h2
    | ge => exact nomatch h2
    | gt => exact nomatch h2
    | le => exact nomatch h2
  · cases h
theorem zd_c54 {O : List zx_W} {K0 : Nat} {rt : List Nat} {TX : List zx_X} {pool : zx_Tr zr_E} {ml : Nat} {rty : Option FieldType} {pc : Nat} {i : Instr} {n : Nat} {g : zx_F} (h : (zr_iceq pc) i n = some g) : zd_cn i = 54 := by
  unfold zr_iceq at h
  split at h
  · next c off =>
    have h2 := (zr_n_in h).2
    cases c with
    | eq => rfl
    | ne => exact nomatch h2
    | lt => exact nomatch h2
    | ge => exact nomatch h2
    | gt => exact nomatch h2
    | le => exact nomatch h2
  · cases h
theorem zd_c55 {O : List zx_W} {K0 : Nat} {rt : List Nat} {TX : List zx_X} {pool : zx_Tr zr_E} {ml : Nat} {rty : Option FieldType} {pc : Nat} {i : Instr} {n : Nat} {g : zx_F} (h : (zr_ifne pc) i n = some g) : zd_cn i = 55 := by
  unfold zr_ifne at h
  split at h
  · next c off =>
    have h2 := (zr_n_in h).2
    cases c with
    | eq => exact nomatch h2
    | ne => rfl
    | lt => exact nomatch h2
    | ge => exact nomatch h2
    | gt => exact nomatch h2
    | le => exact nomatch h2
  · cases h
theorem zd_c56 {O : List zx_W} {K0 : Nat} {rt : List Nat} {TX : List zx_X} {pool : zx_Tr zr_E} {ml : Nat} {rty : Option FieldType} {pc : Nat} {i : Instr} {n : Nat} {g : zx_F} (h : (zr_icne pc) i n = some g) : zd_cn i = 56 := by
  unfold zr_icne at h
  split at h
  · next c off =>
    have h2 := (zr_n_in h).2
    cases c with
    | eq => exact nomatch h2
    | ne => rfl
    | lt => exact nomatch h2
    | ge => exact nomatch h2
    | gt => exact nomatch h2
    | le => exact nomatch h2
  · cases h
theorem zd_c57 {O : List zx_W} {K0 : Nat} {rt : List Nat} {TX : List zx_X} {pool : zx_Tr zr_E} {ml : Nat} {rty : Option FieldType} {pc : Nat} {i : Instr} {n : Nat} {g : zx_F} (h : (zr_iflt pc) i n = some g) : zd_cn i = 57 := by
  unfold zr_iflt at h
  split at h
  · next c off =>
    have h2 := (zr_n_in h).2
    cases c with
    | eq => exact nomatch h2
    | ne => exact nomatch h2
    | lt => rfl
    | ge => exact nomatch h2
    | gt => exact nomatch h2
    | le => exact nomatch h2
  · cases h
theorem zd_c58 {O : List zx_W} {K0 : Nat} {rt : List Nat} {TX : List zx_X} {pool : zx_Tr zr_E} {ml : Nat} {rty : Option FieldType} {pc : Nat} {i : Instr} {n : Nat} {g : zx_F} (h : (zr_iclt pc) i n = some g) : zd_cn i = 58 := by
  unfold zr_iclt at h
  split at h
  · next c off =>
    have h2 := (zr_n_in h).2
    cases c with
    | eq => exact nomatch h2
    | ne => exact nomatch h2
    | lt => rfl
    | ge => exact nomatch h2
    | gt => exact nomatch h2
    | le => exact nomatch h2
  · cases h
theorem zd_c59 {O : List zx_W} {K0 : Nat} {rt : List Nat} {TX : List zx_X} {pool : zx_Tr zr_E} {ml : Nat} {rty : Option FieldType} {pc : Nat} {i : Instr} {n : Nat} {g : zx_F} (h : (zr_ifge pc) i n = some g) : zd_cn i = 59 := by
  unfold zr_ifge at h
  split at h
  · next c off =>
    have h2 := (zr_n_in h).2
    cases c with
    | eq => exact nomatch h2
    | ne => exact nomatch h2
    | lt => exact nomatch h2
    | ge => rfl
    | gt => exact nomatch h2
    | le => exact nomatch h2
  · cases h
theorem zd_c60 {O : List zx_W} {K0 : Nat} {rt : List Nat} {TX : List zx_X} {pool : zx_Tr zr_E} {ml : Nat} {rty : Option FieldType} {pc : Nat} {i : Instr} {n : Nat} {g : zx_F} (h : (zr_icge pc) i n = some g) : zd_cn i = 60 := by
  unfold zr_icge at h
  split at h
  · next c off =>
    have h2 := (zr_n_in h).2
    cases c with
    | eq => exact nomatch h2
    | ne => exact nomatch h2
    | lt => exact nomatch h2
    | ge => rfl
    | gt => exact nomatch h2
    | le => exact nomatch h2
  · cases h
theorem zd_c61 {O : List zx_W} {K0 : Nat} {rt : List Nat} {TX : List zx_X} {pool : zx_Tr zr_E} {ml : Nat} {rty : Option FieldType} {pc : Nat} {i : Instr} {n : Nat} {g : zx_F} (h : (zr_ifgt pc) i n = some g) : zd_cn i = 61 := by
  unfold zr_ifgt at h
  split at h
  · next c off =>
    have h2 := (zr_n_in h).2
    cases c with
    | eq => exact nomatch h2
    | ne => exact nomatch h2
    | lt => exact nomatch h2
    | ge => exact nomatch h2
    | gt => rfl
    | le => exact nomatch h2
  · cases h
theorem zd_c62 {O : List zx_W} {K0 : Nat} {rt : List Nat} {TX : List zx_X} {pool : zx_Tr zr_E} {ml : Nat} {rty : Option FieldType} {pc : Nat} {i : Instr} {n : Nat} {g : zx_F} (h : (zr_icgt pc) i n = some g) : zd_cn i = 62 := by
  unfold zr_icgt at h
  split at h
  · next c off =>
    have h2 := (zr_n_in h).2
    cases c with
    | eq => exact nomatch h2
    | ne => exact nomatch h2
    | lt => exact nomatch h2
    | ge => exact nomatch h2
    | gt => rfl
    | le => exact nomatch h2
  · cases h
theorem zd_c63 {O : List zx_W} {K0 : Nat} {rt : List Nat} {TX : List zx_X} {pool : zx_Tr zr_E} {ml : Nat} {rty : Option FieldType} {pc : Nat} {i : Instr} {n : Nat} {g : zx_F} (h : (zr_ifle pc) i n = some g) : zd_cn i = 63 := by
  unfold zr_ifle at h
  split at h
  · next c off =>
    have h2 := (zr_n_in h).2
    cases c with
    | eq => exact nomatch h2
    | ne => exact nomatch h2
    | lt => exact nomatch h2
    | ge => exact nomatch h2
    | gt => exact nomatch h2
    | le => rfl
  · cases h
theorem zd_c64 {O : List zx_W} {K0 : Nat} {rt : List Nat} {TX : List zx_X} {pool : zx_Tr zr_E} {ml : Nat} {rty : Option FieldType} {pc : Nat} {i : Instr} {n : Nat} {g : zx_F} (h : (zr_icle pc) i n = some g) : zd_cn i = 64 := by
  unfold zr_icle at h
  split at h
  · next c off =>
    have h2 := (zr_n_in h).2
    cases c with
    | eq => exact nomatch h2
    | ne => exact nomatch h2
    | lt => exact nomatch h2
    | ge => exact nomatch h2
    | gt => exact nomatch h2
    | le => rfl
  · cases h
theorem zd_c65 {O : List zx_W} {K0 : Nat} {rt : List Nat} {TX : List zx_X} {pool : zx_Tr zr_E} {ml : Nat} {rty : Option FieldType} {pc : Nat} {i : Instr} {n : Nat} {g : zx_F} (h : (zr_goto pc) i n = some g) : zd_cn i = 65 := by
  unfold zr_goto at h
  split at h
  · rfl
  · cases h
theorem zd_c66 {O : List zx_W} {K0 : Nat} {rt : List Nat} {TX : List zx_X} {pool : zx_Tr zr_E} {ml : Nat} {rty : Option FieldType} {pc : Nat} {i : Instr} {n : Nat} {g : zx_F} (h : (zr_ifnull pc) i n = some g) : zd_cn i = 66 := by
  unfold zr_ifnull at h
  split at h
  · rfl
  · cases h
theorem zd_c67 {O : List zx_W} {K0 : Nat} {rt : List Nat} {TX : List zx_X} {pool : zx_Tr zr_E} {ml : Nat} {rty : Option FieldType} {pc : Nat} {i : Instr} {n : Nat} {g : zx_F} (h : (zr_ifnonnull pc) i n = some g) : zd_cn i = 67 := by
  unfold zr_ifnonnull at h
  split at h
  · rfl
  · cases h
theorem zd_c68 {O : List zx_W} {K0 : Nat} {rt : List Nat} {TX : List zx_X} {pool : zx_Tr zr_E} {ml : Nat} {rty : Option FieldType} {pc : Nat} {i : Instr} {n : Nat} {g : zx_F} (h : (zr_tsw pc) i n = some g) : zd_cn i = 68 := by
  unfold zr_tsw at h
  split at h
  · rfl
  · cases h
theorem zd_c69 {O : List zx_W} {K0 : Nat} {rt : List Nat} {TX : List zx_X} {pool : zx_Tr zr_E} {ml : Nat} {rty : Option FieldType} {pc : Nat} {i : Instr} {n : Nat} {g : zx_F} (h : (zr_lsw pc) i n = some g) : zd_cn i = 69 := by
  unfold zr_lsw at h
  split at h
  · rfl
  · cases h
theorem zd_c70 {O : List zx_W} {K0 : Nat} {rt : List Nat} {TX : List zx_X} {pool : zx_Tr zr_E} {ml : Nat} {rty : Option FieldType} {pc : Nat} {i : Instr} {n : Nat} {g : zx_F} (h : (zr_iaload O K0 pc) i n = some g) : zd_cn i = 70 := by
  unfold zr_iaload at h
  split at h
  · rfl
  · cases h
theorem zd_c71 {O : List zx_W} {K0 : Nat} {rt : List Nat} {TX : List zx_X} {pool : zx_Tr zr_E} {ml : Nat} {rty : Option FieldType} {pc : Nat} {i : Instr} {n : Nat} {g : zx_F} (h : (zr_laload pc) i n = some g) : zd_cn i = 71 := by
  unfold zr_laload at h
  split at h
  · rfl
  · cases h
theorem zd_c72 {O : List zx_W} {K0 : Nat} {rt : List Nat} {TX : List zx_X} {pool : zx_Tr zr_E} {ml : Nat} {rty : Option FieldType} {pc : Nat} {i : Instr} {n : Nat} {g : zx_F} (h : (zr_baload O K0 pc) i n = some g) : zd_cn i = 72 := by
  unfold zr_baload at h
  split at h
  · rfl
  · cases h
theorem zd_c73 {O : List zx_W} {K0 : Nat} {rt : List Nat} {TX : List zx_X} {pool : zx_Tr zr_E} {ml : Nat} {rty : Option FieldType} {pc : Nat} {i : Instr} {n : Nat} {g : zx_F} (h : (zr_aaload rt pc) i n = some g) : zd_cn i = 73 := by
  unfold zr_aaload at h
  split at h
  · rfl
  · cases h
theorem zd_c74 {O : List zx_W} {K0 : Nat} {rt : List Nat} {TX : List zx_X} {pool : zx_Tr zr_E} {ml : Nat} {rty : Option FieldType} {pc : Nat} {i : Instr} {n : Nat} {g : zx_F} (h : (zr_iastore K0 pc) i n = some g) : zd_cn i = 74 := by
  unfold zr_iastore at h
  split at h
  · rfl
  · cases h
theorem zd_c75 {O : List zx_W} {K0 : Nat} {rt : List Nat} {TX : List zx_X} {pool : zx_Tr zr_E} {ml : Nat} {rty : Option FieldType} {pc : Nat} {i : Instr} {n : Nat} {g : zx_F} (h : (zr_lastore K0 pc) i n = some g) : zd_cn i = 75 := by
  unfold zr_lastore at h
  split at h
  · rfl
  · cases h
theorem zd_c76 {O : List zx_W} {K0 : Nat} {rt : List Nat} {TX : List zx_X} {pool : zx_Tr zr_E} {ml : Nat} {rty : Option FieldType} {pc : Nat} {i : Instr} {n : Nat} {g : zx_F} (h : (zr_bastore K0 pc) i n = some g) : zd_cn i = 76 := by
  unfold zr_bastore at h
  split at h
  · rfl
  · cases h
theorem zd_c77 {O : List zx_W} {K0 : Nat} {rt : List Nat} {TX : List zx_X} {pool : zx_Tr zr_E} {ml : Nat} {rty : Option FieldType} {pc : Nat} {i : Instr} {n : Nat} {g : zx_F} (h : (zr_alen O K0 pc) i n = some g) : zd_cn i = 77 := by
  unfold zr_alen at h
  split at h
  · rfl
  · cases h
theorem zd_c78 {O : List zx_W} {K0 : Nat} {rt : List Nat} {TX : List zx_X} {pool : zx_Tr zr_E} {ml : Nat} {rty : Option FieldType} {pc : Nat} {i : Instr} {n : Nat} {g : zx_F} (h : (zr_lret rty pc) i n = some g) : zd_cn i = 78 := by
  unfold zr_lret at h
  split at h
  · rfl
  · cases h
theorem zd_c79 {O : List zx_W} {K0 : Nat} {rt : List Nat} {TX : List zx_X} {pool : zx_Tr zr_E} {ml : Nat} {rty : Option FieldType} {pc : Nat} {i : Instr} {n : Nat} {g : zx_F} (h : (zr_aret rty pc) i n = some g) : zd_cn i = 79 := by
  unfold zr_aret at h
  split at h
  · rfl
  · cases h
theorem zd_c80 {O : List zx_W} {K0 : Nat} {rt : List Nat} {TX : List zx_X} {pool : zx_Tr zr_E} {ml : Nat} {rty : Option FieldType} {pc : Nat} {i : Instr} {n : Nat} {g : zx_F} (h : (zr_vret rty pc) i n = some g) : zd_cn i = 80 := by
  unfold zr_vret at h
  split at h
  · rfl
  · cases h
theorem zd_c81 {O : List zx_W} {K0 : Nat} {rt : List Nat} {TX : List zx_X} {pool : zx_Tr zr_E} {ml : Nat} {rty : Option FieldType} {pc : Nat} {i : Instr} {n : Nat} {g : zx_F} (h : (zr_ldc pool pc) i n = some g) : zd_cn i = 81 := by
  unfold zr_ldc at h
  split at h
  · rfl
  · cases h
theorem zd_c82 {O : List zx_W} {K0 : Nat} {rt : List Nat} {TX : List zx_X} {pool : zx_Tr zr_E} {ml : Nat} {rty : Option FieldType} {pc : Nat} {i : Instr} {n : Nat} {g : zx_F} (h : (zr_ldcw pool pc) i n = some g) : zd_cn i = 82 := by
  unfold zr_ldcw at h
  split at h
  · rfl
  · cases h
theorem zd_c83 {O : List zx_W} {K0 : Nat} {rt : List Nat} {TX : List zx_X} {pool : zx_Tr zr_E} {ml : Nat} {rty : Option FieldType} {pc : Nat} {i : Instr} {n : Nat} {g : zx_F} (h : (zr_ldc2 pool pc) i n = some g) : zd_cn i = 83 := by
  unfold zr_ldc2 at h
  split at h
  · rfl
  · cases h
theorem zd_c84 {O : List zx_W} {K0 : Nat} {rt : List Nat} {TX : List zx_X} {pool : zx_Tr zr_E} {ml : Nat} {rty : Option FieldType} {pc : Nat} {i : Instr} {n : Nat} {g : zx_F} (h : (zr_putf pool K0 pc) i n = some g) : zd_cn i = 84 := by
  unfold zr_putf at h
  split at h
  · rfl
  · cases h
theorem zd_c85 {O : List zx_W} {K0 : Nat} {rt : List Nat} {TX : List zx_X} {pool : zx_Tr zr_E} {ml : Nat} {rty : Option FieldType} {pc : Nat} {i : Instr} {n : Nat} {g : zx_F} (h : (zr_gets pool pc) i n = some g) : zd_cn i = 85 := by
  unfold zr_gets at h
  split at h
  · rfl
  · cases h
theorem zd_c86 {O : List zx_W} {K0 : Nat} {rt : List Nat} {TX : List zx_X} {pool : zx_Tr zr_E} {ml : Nat} {rty : Option FieldType} {pc : Nat} {i : Instr} {n : Nat} {g : zx_F} (h : (zr_invs pool pc) i n = some g) : zd_cn i = 86 := by
  unfold zr_invs at h
  split at h
  · rfl
  · cases h
noncomputable def zd_y6 (O : List zx_W) (K0 : Nat) (rt : List Nat) (TX : List zx_X) (pool : zx_Tr zr_E) (ml : Nat) (rty : Option FieldType) (pc : Nat) (k : Nat) : zr_R := zr_aload_n pc
noncomputable def zd_y7 (O : List zx_W) (K0 : Nat) (rt : List Nat) (TX : List zx_X) (pool : zx_Tr zr_E) (ml : Nat) (rty : Option FieldType) (pc : Nat) (k : Nat) : zr_R := zr_iload_n pc
noncomputable def zd_y5 (O : List zx_W) (K0 : Nat) (rt : List Nat) (TX : List zx_X) (pool : zx_Tr zr_E) (ml : Nat) (rty : Option FieldType) (pc : Nat) (k : Nat) : zr_R := Bool.rec (motive := fun _ => zr_R) (zd_y7 O K0 rt TX pool ml rty pc k) (zd_y6 O K0 rt TX pool ml rty pc k) (Nat.ble (Nat.succ k) 1)
noncomputable def zd_y9 (O : List zx_W) (K0 : Nat) (rt : List Nat) (TX : List zx_X) (pool : zx_Tr zr_E) (ml : Nat) (rty : Option FieldType) (pc : Nat) (k : Nat) : zr_R := zr_iconst pc
noncomputable def zd_y11 (O : List zx_W) (K0 : Nat) (rt : List Nat) (TX : List zx_X) (pool : zx_Tr zr_E) (ml : Nat) (rty : Option FieldType) (pc : Nat) (k : Nat) : zr_R := zr_invv pool TX pc
noncomputable def zd_y12 (O : List zx_W) (K0 : Nat) (rt : List Nat) (TX : List zx_X) (pool : zx_Tr zr_E) (ml : Nat) (rty : Option FieldType) (pc : Nat) (k : Nat) : zr_R := zr_iload pc
noncomputable def zd_y10 (O : List zx_W) (K0 : Nat) (rt : List Nat) (TX : List zx_X) (pool : zx_Tr zr_E) (ml : Nat) (rty : Option FieldType) (pc : Nat) (k : Nat) : zr_R := Bool.rec (motive := fun _ => zr_R) (zd_y12 O K0 rt TX pool ml rty pc k) (zd_y11 O K0 rt TX pool ml rty pc k) (Nat.ble (Nat.succ k) 4)
noncomputable def zd_y8 (O : List zx_W) (K0 : Nat) (rt : List Nat) (TX : List zx_X) (pool : zx_Tr zr_E) (ml : Nat) (rty : Option FieldType) (pc : Nat) (k : Nat) : zr_R := Bool.rec (motive := fun _ => zr_R) (zd_y10 O K0 rt TX pool ml rty pc k) (zd_y9 O K0 rt TX pool ml rty pc k) (Nat.ble (Nat.succ k) 3)
noncomputable def zd_y4 (O : List zx_W) (K0 : Nat) (rt : List Nat) (TX : List zx_X) (pool : zx_Tr zr_E) (ml : Nat) (rty : Option FieldType) (pc : Nat) (k : Nat) : zr_R := Bool.rec (motive := fun _ => zr_R) (zd_y8 O K0 rt TX pool ml rty pc k) (zd_y5 O K0 rt TX pool ml rty pc k) (Nat.ble (Nat.succ k) 2)
noncomputable def zd_y15 (O : List zx_W) (K0 : Nat) (rt : List Nat) (TX : List zx_X) (pool : zx_Tr zr_E) (ml : Nat) (rty : Option FieldType) (pc : Nat) (k : Nat) : zr_R := zr_bipush pc
noncomputable def zd_y16 (O : List zx_W) (K0 : Nat) (rt : List Nat) (TX : List zx_X) (pool : zx_Tr zr_E) (ml : Nat) (rty : Option FieldType) (pc : Nat) (k : Nat) : zr_R := zr_getf pool TX pc
noncomputable def zd_y14 (O : List zx_W) (K0 : Nat) (rt : List Nat) (TX : List zx_X) (pool : zx_Tr zr_E) (ml : Nat) (rty : Option FieldType) (pc : Nat) (k : Nat) : zr_R := Bool.rec (motive := fun _ => zr_R) (zd_y16 O K0 rt TX pool ml rty pc k) (zd_y15 O K0 rt TX pool ml rty pc k) (Nat.ble (Nat.succ k) 6)
noncomputable def zd_y18 (O : List zx_W) (K0 : Nat) (rt : List Nat) (TX : List zx_X) (pool : zx_Tr zr_E) (ml : Nat) (rty : Option FieldType) (pc : Nat) (k : Nat) : zr_R := zr_iret rty pc
noncomputable def zd_y20 (O : List zx_W) (K0 : Nat) (rt : List Nat) (TX : List zx_X) (pool : zx_Tr zr_E) (ml : Nat) (rty : Option FieldType) (pc : Nat) (k : Nat) : zr_R := zr_sipush pc
noncomputable def zd_y21 (O : List zx_W) (K0 : Nat) (rt : List Nat) (TX : List zx_X) (pool : zx_Tr zr_E) (ml : Nat) (rty : Option FieldType) (pc : Nat) (k : Nat) : zr_R := zr_lconst pc
noncomputable def zd_y19 (O : List zx_W) (K0 : Nat) (rt : List Nat) (TX : List zx_X) (pool : zx_Tr zr_E) (ml : Nat) (rty : Option FieldType) (pc : Nat) (k : Nat) : zr_R := Bool.rec (motive := fun _ => zr_R) (zd_y21 O K0 rt TX pool ml rty pc k) (zd_y20 O K0 rt TX pool ml rty pc k) (Nat.ble (Nat.succ k) 9)
noncomputable def zd_y17 (O : List zx_W) (K0 : Nat) (rt : List Nat) (TX : List zx_X) (pool : zx_Tr zr_E) (ml : Nat) (rty : Option FieldType) (pc : Nat) (k : Nat) : zr_R := Bool.rec (motive := fun _ => zr_R) (zd_y19 O K0 rt TX pool ml rty pc k) (zd_y18 O K0 rt TX pool ml rty pc k) (Nat.ble (Nat.succ k) 8)
noncomputable def zd_y13 (O : List zx_W) (K0 : Nat) (rt : List Nat) (TX : List zx_X) (pool : zx_Tr zr_E) (ml : Nat) (rty : Option FieldType) (pc : Nat) (k : Nat) : zr_R := Bool.rec (motive := fun _ => zr_R) (zd_y17 O K0 rt TX pool ml rty pc k) (zd_y14 O K0 rt TX pool ml rty pc k) (Nat.ble (Nat.succ k) 7)
noncomputable def zd_y3 (O : List zx_W) (K0 : Nat) (rt : List Nat) (TX : List zx_X) (pool : zx_Tr zr_E) (ml : Nat) (rty : Option FieldType) (pc : Nat) (k : Nat) : zr_R := Bool.rec (motive := fun _ => zr_R) (zd_y13 O K0 rt TX pool ml rty pc k) (zd_y4 O K0 rt TX pool ml rty pc k) (Nat.ble (Nat.succ k) 5)
noncomputable def zd_y25 (O : List zx_W) (K0 : Nat) (rt : List Nat) (TX : List zx_X) (pool : zx_Tr zr_E) (ml : Nat) (rty : Option FieldType) (pc : Nat) (k : Nat) : zr_R := zr_null pc
noncomputable def zd_y26 (O : List zx_W) (K0 : Nat) (rt : List Nat) (TX : List zx_X) (pool : zx_Tr zr_E) (ml : Nat) (rty : Option FieldType) (pc : Nat) (k : Nat) : zr_R := zr_istore ml pc
noncomputable def zd_y24 (O : List zx_W) (K0 : Nat) (rt : List Nat) (TX : List zx_X) (pool : zx_Tr zr_E) (ml : Nat) (rty : Option FieldType) (pc : Nat) (k : Nat) : zr_R := Bool.rec (motive := fun _ => zr_R) (zd_y26 O K0 rt TX pool ml rty pc k) (zd_y25 O K0 rt TX pool ml rty pc k) (Nat.ble (Nat.succ k) 11)
noncomputable def zd_y28 (O : List zx_W) (K0 : Nat) (rt : List Nat) (TX : List zx_X) (pool : zx_Tr zr_E) (ml : Nat) (rty : Option FieldType) (pc : Nat) (k : Nat) : zr_R := zr_istore_n ml pc
noncomputable def zd_y30 (O : List zx_W) (K0 : Nat) (rt : List Nat) (TX : List zx_X) (pool : zx_Tr zr_E) (ml : Nat) (rty : Option FieldType) (pc : Nat) (k : Nat) : zr_R := zr_lload pc
noncomputable def zd_y31 (O : List zx_W) (K0 : Nat) (rt : List Nat) (TX : List zx_X) (pool : zx_Tr zr_E) (ml : Nat) (rty : Option FieldType) (pc : Nat) (k : Nat) : zr_R := zr_lload_n pc
noncomputable def zd_y29 (O : List zx_W) (K0 : Nat) (rt : List Nat) (TX : List zx_X) (pool : zx_Tr zr_E) (ml : Nat) (rty : Option FieldType) (pc : Nat) (k : Nat) : zr_R := Bool.rec (motive := fun _ => zr_R) (zd_y31 O K0 rt TX pool ml rty pc k) (zd_y30 O K0 rt TX pool ml rty pc k) (Nat.ble (Nat.succ k) 14)
noncomputable def zd_y27 (O : List zx_W) (K0 : Nat) (rt : List Nat) (TX : List zx_X) (pool : zx_Tr zr_E) (ml : Nat) (rty : Option FieldType) (pc : Nat) (k : Nat) : zr_R := Bool.rec (motive := fun _ => zr_R) (zd_y29 O K0 rt TX pool ml rty pc k) (zd_y28 O K0 rt TX pool ml rty pc k) (Nat.ble (Nat.succ k) 13)
noncomputable def zd_y23 (O : List zx_W) (K0 : Nat) (rt : List Nat) (TX : List zx_X) (pool : zx_Tr zr_E) (ml : Nat) (rty : Option FieldType) (pc : Nat) (k : Nat) : zr_R := Bool.rec (motive := fun _ => zr_R) (zd_y27 O K0 rt TX pool ml rty pc k) (zd_y24 O K0 rt TX pool ml rty pc k) (Nat.ble (Nat.succ k) 12)
noncomputable def zd_y34 (O : List zx_W) (K0 : Nat) (rt : List Nat) (TX : List zx_X) (pool : zx_Tr zr_E) (ml : Nat) (rty : Option FieldType) (pc : Nat) (k : Nat) : zr_R := zr_lstore ml pc
noncomputable def zd_y36 (O : List zx_W) (K0 : Nat) (rt : List Nat) (TX : List zx_X) (pool : zx_Tr zr_E) (ml : Nat) (rty : Option FieldType) (pc : Nat) (k : Nat) : zr_R := zr_lstore_n ml pc
noncomputable def zd_y37 (O : List zx_W) (K0 : Nat) (rt : List Nat) (TX : List zx_X) (pool : zx_Tr zr_E) (ml : Nat) (rty : Option FieldType) (pc : Nat) (k : Nat) : zr_R := zr_aload pc
noncomputable def zd_y35 (O : List zx_W) (K0 : Nat) (rt : List Nat) (TX : List zx_X) (pool : zx_Tr zr_E) (ml : Nat) (rty : Option FieldType) (pc : Nat) (k : Nat) : zr_R := Bool.rec (motive := fun _ => zr_R) (zd_y37 O K0 rt TX pool ml rty pc k) (zd_y36 O K0 rt TX pool ml rty pc k) (Nat.ble (Nat.succ k) 17)
noncomputable def zd_y33 (O : List zx_W) (K0 : Nat) (rt : List Nat) (TX : List zx_X) (pool : zx_Tr zr_E) (ml : Nat) (rty : Option FieldType) (pc : Nat) (k : Nat) : zr_R := Bool.rec (motive := fun _ => zr_R) (zd_y35 O K0 rt TX pool ml rty pc k) (zd_y34 O K0 rt TX pool ml rty pc k) (Nat.ble (Nat.succ k) 16)
noncomputable def zd_y39 (O : List zx_W) (K0 : Nat) (rt : List Nat) (TX : List zx_X) (pool : zx_Tr zr_E) (ml : Nat) (rty : Option FieldType) (pc : Nat) (k : Nat) : zr_R := zr_astore ml pc
noncomputable def zd_y41 (O : List zx_W) (K0 : Nat) (rt : List Nat) (TX : List zx_X) (pool : zx_Tr zr_E) (ml : Nat) (rty : Option FieldType) (pc : Nat) (k : Nat) : zr_R := zr_astore_n ml pc
noncomputable def zd_y42 (O : List zx_W) (K0 : Nat) (rt : List Nat) (TX : List zx_X) (pool : zx_Tr zr_E) (ml : Nat) (rty : Option FieldType) (pc : Nat) (k : Nat) : zr_R := zr_iinc ml pc
noncomputable def zd_y40 (O : List zx_W) (K0 : Nat) (rt : List Nat) (TX : List zx_X) (pool : zx_Tr zr_E) (ml : Nat) (rty : Option FieldType) (pc : Nat) (k : Nat) : zr_R := Bool.rec (motive := fun _ => zr_R) (zd_y42 O K0 rt TX pool ml rty pc k) (zd_y41 O K0 rt TX pool ml rty pc k) (Nat.ble (Nat.succ k) 20)
noncomputable def zd_y38 (O : List zx_W) (K0 : Nat) (rt : List Nat) (TX : List zx_X) (pool : zx_Tr zr_E) (ml : Nat) (rty : Option FieldType) (pc : Nat) (k : Nat) : zr_R := Bool.rec (motive := fun _ => zr_R) (zd_y40 O K0 rt TX pool ml rty pc k) (zd_y39 O K0 rt TX pool ml rty pc k) (Nat.ble (Nat.succ k) 19)
noncomputable def zd_y32 (O : List zx_W) (K0 : Nat) (rt : List Nat) (TX : List zx_X) (pool : zx_Tr zr_E) (ml : Nat) (rty : Option FieldType) (pc : Nat) (k : Nat) : zr_R := Bool.rec (motive := fun _ => zr_R) (zd_y38 O K0 rt TX pool ml rty pc k) (zd_y33 O K0 rt TX pool ml rty pc k) (Nat.ble (Nat.succ k) 18)
noncomputable def zd_y22 (O : List zx_W) (K0 : Nat) (rt : List Nat) (TX : List zx_X) (pool : zx_Tr zr_E) (ml : Nat) (rty : Option FieldType) (pc : Nat) (k : Nat) : zr_R := Bool.rec (motive := fun _ => zr_R) (zd_y32 O K0 rt TX pool ml rty pc k) (zd_y23 O K0 rt TX pool ml rty pc k) (Nat.ble (Nat.succ k) 15)
noncomputable def zd_y2 (O : List zx_W) (K0 : Nat) (rt : List Nat) (TX : List zx_X) (pool : zx_Tr zr_E) (ml : Nat) (rty : Option FieldType) (pc : Nat) (k : Nat) : zr_R := Bool.rec (motive := fun _ => zr_R) (zd_y22 O K0 rt TX pool ml rty pc k) (zd_y3 O K0 rt TX pool ml rty pc k) (Nat.ble (Nat.succ k) 10)
noncomputable def zd_y47 (O : List zx_W) (K0 : Nat) (rt : List Nat) (TX : List zx_X) (pool : zx_Tr zr_E) (ml : Nat) (rty : Option FieldType) (pc : Nat) (k : Nat) : zr_R := zr_iadd pc
noncomputable def zd_y48 (O : List zx_W) (K0 : Nat) (rt : List Nat) (TX : List zx_X) (pool : zx_Tr zr_E) (ml : Nat) (rty : Option FieldType) (pc : Nat) (k : Nat) : zr_R := zr_isub pc
noncomputable def zd_y46 (O : List zx_W) (K0 : Nat) (rt : List Nat) (TX : List zx_X) (pool : zx_Tr zr_E) (ml : Nat) (rty : Option FieldType) (pc : Nat) (k : Nat) : zr_R := Bool.rec (motive := fun _ => zr_R) (zd_y48 O K0 rt TX pool ml rty pc k) (zd_y47 O K0 rt TX pool ml rty pc k) (Nat.ble (Nat.succ k) 22)
noncomputable def zd_y50 (O : List zx_W) (K0 : Nat) (rt : List Nat) (TX : List zx_X) (pool : zx_Tr zr_E) (ml : Nat) (rty : Option FieldType) (pc : Nat) (k : Nat) : zr_R := zr_iand pc
noncomputable def zd_y52 (O : List zx_W) (K0 : Nat) (rt : List Nat) (TX : List zx_X) (pool : zx_Tr zr_E) (ml : Nat) (rty : Option FieldType) (pc : Nat) (k : Nat) : zr_R := zr_ishr pc
noncomputable def zd_y53 (O : List zx_W) (K0 : Nat) (rt : List Nat) (TX : List zx_X) (pool : zx_Tr zr_E) (ml : Nat) (rty : Option FieldType) (pc : Nat) (k : Nat) : zr_R := zr_iushr pc
noncomputable def zd_y51 (O : List zx_W) (K0 : Nat) (rt : List Nat) (TX : List zx_X) (pool : zx_Tr zr_E) (ml : Nat) (rty : Option FieldType) (pc : Nat) (k : Nat) : zr_R := Bool.rec (motive := fun _ => zr_R) (zd_y53 O K0 rt TX pool ml rty pc k) (zd_y52 O K0 rt TX pool ml rty pc k) (Nat.ble (Nat.succ k) 25)
noncomputable def zd_y49 (O : List zx_W) (K0 : Nat) (rt : List Nat) (TX : List zx_X) (pool : zx_Tr zr_E) (ml : Nat) (rty : Option FieldType) (pc : Nat) (k : Nat) : zr_R := Bool.rec (motive := fun _ => zr_R) (zd_y51 O K0 rt TX pool ml rty pc k) (zd_y50 O K0 rt TX pool ml rty pc k) (Nat.ble (Nat.succ k) 24)
noncomputable def zd_y45 (O : List zx_W) (K0 : Nat) (rt : List Nat) (TX : List zx_X) (pool : zx_Tr zr_E) (ml : Nat) (rty : Option FieldType) (pc : Nat) (k : Nat) : zr_R := Bool.rec (motive := fun _ => zr_R) (zd_y49 O K0 rt TX pool ml rty pc k) (zd_y46 O K0 rt TX pool ml rty pc k) (Nat.ble (Nat.succ k) 23)
noncomputable def zd_y56 (O : List zx_W) (K0 : Nat) (rt : List Nat) (TX : List zx_X) (pool : zx_Tr zr_E) (ml : Nat) (rty : Option FieldType) (pc : Nat) (k : Nat) : zr_R := zr_idiv pc
noncomputable def zd_y58 (O : List zx_W) (K0 : Nat) (rt : List Nat) (TX : List zx_X) (pool : zx_Tr zr_E) (ml : Nat) (rty : Option FieldType) (pc : Nat) (k : Nat) : zr_R := zr_irem pc
noncomputable def zd_y59 (O : List zx_W) (K0 : Nat) (rt : List Nat) (TX : List zx_X) (pool : zx_Tr zr_E) (ml : Nat) (rty : Option FieldType) (pc : Nat) (k : Nat) : zr_R := zr_imul pc
noncomputable def zd_y57 (O : List zx_W) (K0 : Nat) (rt : List Nat) (TX : List zx_X) (pool : zx_Tr zr_E) (ml : Nat) (rty : Option FieldType) (pc : Nat) (k : Nat) : zr_R := Bool.rec (motive := fun _ => zr_R) (zd_y59 O K0 rt TX pool ml rty pc k) (zd_y58 O K0 rt TX pool ml rty pc k) (Nat.ble (Nat.succ k) 28)
noncomputable def zd_y55 (O : List zx_W) (K0 : Nat) (rt : List Nat) (TX : List zx_X) (pool : zx_Tr zr_E) (ml : Nat) (rty : Option FieldType) (pc : Nat) (k : Nat) : zr_R := Bool.rec (motive := fun _ => zr_R) (zd_y57 O K0 rt TX pool ml rty pc k) (zd_y56 O K0 rt TX pool ml rty pc k) (Nat.ble (Nat.succ k) 27)
noncomputable def zd_y61 (O : List zx_W) (K0 : Nat) (rt : List Nat) (TX : List zx_X) (pool : zx_Tr zr_E) (ml : Nat) (rty : Option FieldType) (pc : Nat) (k : Nat) : zr_R := zr_ior pc
noncomputable def zd_y63 (O : List zx_W) (K0 : Nat) (rt : List Nat) (TX : List zx_X) (pool : zx_Tr zr_E) (ml : Nat) (rty : Option FieldType) (pc : Nat) (k : Nat) : zr_R := zr_ixor pc
noncomputable def zd_y64 (O : List zx_W) (K0 : Nat) (rt : List Nat) (TX : List zx_X) (pool : zx_Tr zr_E) (ml : Nat) (rty : Option FieldType) (pc : Nat) (k : Nat) : zr_R := zr_ishl pc
noncomputable def zd_y62 (O : List zx_W) (K0 : Nat) (rt : List Nat) (TX : List zx_X) (pool : zx_Tr zr_E) (ml : Nat) (rty : Option FieldType) (pc : Nat) (k : Nat) : zr_R := Bool.rec (motive := fun _ => zr_R) (zd_y64 O K0 rt TX pool ml rty pc k) (zd_y63 O K0 rt TX pool ml rty pc k) (Nat.ble (Nat.succ k) 31)
noncomputable def zd_y60 (O : List zx_W) (K0 : Nat) (rt : List Nat) (TX : List zx_X) (pool : zx_Tr zr_E) (ml : Nat) (rty : Option FieldType) (pc : Nat) (k : Nat) : zr_R := Bool.rec (motive := fun _ => zr_R) (zd_y62 O K0 rt TX pool ml rty pc k) (zd_y61 O K0 rt TX pool ml rty pc k) (Nat.ble (Nat.succ k) 30)
noncomputable def zd_y54 (O : List zx_W) (K0 : Nat) (rt : List Nat) (TX : List zx_X) (pool : zx_Tr zr_E) (ml : Nat) (rty : Option FieldType) (pc : Nat) (k : Nat) : zr_R := Bool.rec (motive := fun _ => zr_R) (zd_y60 O K0 rt TX pool ml rty pc k) (zd_y55 O K0 rt TX pool ml rty pc k) (Nat.ble (Nat.succ k) 29)
noncomputable def zd_y44 (O : List zx_W) (K0 : Nat) (rt : List Nat) (TX : List zx_X) (pool : zx_Tr zr_E) (ml : Nat) (rty : Option FieldType) (pc : Nat) (k : Nat) : zr_R := Bool.rec (motive := fun _ => zr_R) (zd_y54 O K0 rt TX pool ml rty pc k) (zd_y45 O K0 rt TX pool ml rty pc k) (Nat.ble (Nat.succ k) 26)
noncomputable def zd_y68 (O : List zx_W) (K0 : Nat) (rt : List Nat) (TX : List zx_X) (pool : zx_Tr zr_E) (ml : Nat) (rty : Option FieldType) (pc : Nat) (k : Nat) : zr_R := zr_ladd pc
noncomputable def zd_y69 (O : List zx_W) (K0 : Nat) (rt : List Nat) (TX : List zx_X) (pool : zx_Tr zr_E) (ml : Nat) (rty : Option FieldType) (pc : Nat) (k : Nat) : zr_R := zr_lsub pc
noncomputable def zd_y67 (O : List zx_W) (K0 : Nat) (rt : List Nat) (TX : List zx_X) (pool : zx_Tr zr_E) (ml : Nat) (rty : Option FieldType) (pc : Nat) (k : Nat) : zr_R := Bool.rec (motive := fun _ => zr_R) (zd_y69 O K0 rt TX pool ml rty pc k) (zd_y68 O K0 rt TX pool ml rty pc k) (Nat.ble (Nat.succ k) 33)
noncomputable def zd_y71 (O : List zx_W) (K0 : Nat) (rt : List Nat) (TX : List zx_X) (pool : zx_Tr zr_E) (ml : Nat) (rty : Option FieldType) (pc : Nat) (k : Nat) : zr_R := zr_lmul pc
noncomputable def zd_y73 (O : List zx_W) (K0 : Nat) (rt : List Nat) (TX : List zx_X) (pool : zx_Tr zr_E) (ml : Nat) (rty : Option FieldType) (pc : Nat) (k : Nat) : zr_R := zr_land pc
noncomputable def zd_y74 (O : List zx_W) (K0 : Nat) (rt : List Nat) (TX : List zx_X) (pool : zx_Tr zr_E) (ml : Nat) (rty : Option FieldType) (pc : Nat) (k : Nat) : zr_R := zr_lor pc
noncomputable def zd_y72 (O : List zx_W) (K0 : Nat) (rt : List Nat) (TX : List zx_X) (pool : zx_Tr zr_E) (ml : Nat) (rty : Option FieldType) (pc : Nat) (k : Nat) : zr_R := Bool.rec (motive := fun _ => zr_R) (zd_y74 O K0 rt TX pool ml rty pc k) (zd_y73 O K0 rt TX pool ml rty pc k) (Nat.ble (Nat.succ k) 36)
noncomputable def zd_y70 (O : List zx_W) (K0 : Nat) (rt : List Nat) (TX : List zx_X) (pool : zx_Tr zr_E) (ml : Nat) (rty : Option FieldType) (pc : Nat) (k : Nat) : zr_R := Bool.rec (motive := fun _ => zr_R) (zd_y72 O K0 rt TX pool ml rty pc k) (zd_y71 O K0 rt TX pool ml rty pc k) (Nat.ble (Nat.succ k) 35)
noncomputable def zd_y66 (O : List zx_W) (K0 : Nat) (rt : List Nat) (TX : List zx_X) (pool : zx_Tr zr_E) (ml : Nat) (rty : Option FieldType) (pc : Nat) (k : Nat) : zr_R := Bool.rec (motive := fun _ => zr_R) (zd_y70 O K0 rt TX pool ml rty pc k) (zd_y67 O K0 rt TX pool ml rty pc k) (Nat.ble (Nat.succ k) 34)
noncomputable def zd_y77 (O : List zx_W) (K0 : Nat) (rt : List Nat) (TX : List zx_X) (pool : zx_Tr zr_E) (ml : Nat) (rty : Option FieldType) (pc : Nat) (k : Nat) : zr_R := zr_lshl pc
noncomputable def zd_y79 (O : List zx_W) (K0 : Nat) (rt : List Nat) (TX : List zx_X) (pool : zx_Tr zr_E) (ml : Nat) (rty : Option FieldType) (pc : Nat) (k : Nat) : zr_R := zr_lshr pc
noncomputable def zd_y80 (O : List zx_W) (K0 : Nat) (rt : List Nat) (TX : List zx_X) (pool : zx_Tr zr_E) (ml : Nat) (rty : Option FieldType) (pc : Nat) (k : Nat) : zr_R := zr_lushr pc
noncomputable def zd_y78 (O : List zx_W) (K0 : Nat) (rt : List Nat) (TX : List zx_X) (pool : zx_Tr zr_E) (ml : Nat) (rty : Option FieldType) (pc : Nat) (k : Nat) : zr_R := Bool.rec (motive := fun _ => zr_R) (zd_y80 O K0 rt TX pool ml rty pc k) (zd_y79 O K0 rt TX pool ml rty pc k) (Nat.ble (Nat.succ k) 39)
noncomputable def zd_y76 (O : List zx_W) (K0 : Nat) (rt : List Nat) (TX : List zx_X) (pool : zx_Tr zr_E) (ml : Nat) (rty : Option FieldType) (pc : Nat) (k : Nat) : zr_R := Bool.rec (motive := fun _ => zr_R) (zd_y78 O K0 rt TX pool ml rty pc k) (zd_y77 O K0 rt TX pool ml rty pc k) (Nat.ble (Nat.succ k) 38)
noncomputable def zd_y82 (O : List zx_W) (K0 : Nat) (rt : List Nat) (TX : List zx_X) (pool : zx_Tr zr_E) (ml : Nat) (rty : Option FieldType) (pc : Nat) (k : Nat) : zr_R := zr_ldiv pc
noncomputable def zd_y84 (O : List zx_W) (K0 : Nat) (rt : List Nat) (TX : List zx_X) (pool : zx_Tr zr_E) (ml : Nat) (rty : Option FieldType) (pc : Nat) (k : Nat) : zr_R := zr_lrem pc
noncomputable def zd_y85 (O : List zx_W) (K0 : Nat) (rt : List Nat) (TX : List zx_X) (pool : zx_Tr zr_E) (ml : Nat) (rty : Option FieldType) (pc : Nat) (k : Nat) : zr_R := zr_ineg pc
noncomputable def zd_y83 (O : List zx_W) (K0 : Nat) (rt : List Nat) (TX : List zx_X) (pool : zx_Tr zr_E) (ml : Nat) (rty : Option FieldType) (pc : Nat) (k : Nat) : zr_R := Bool.rec (motive := fun _ => zr_R) (zd_y85 O K0 rt TX pool ml rty pc k) (zd_y84 O K0 rt TX pool ml rty pc k) (Nat.ble (Nat.succ k) 42)
noncomputable def zd_y81 (O : List zx_W) (K0 : Nat) (rt : List Nat) (TX : List zx_X) (pool : zx_Tr zr_E) (ml : Nat) (rty : Option FieldType) (pc : Nat) (k : Nat) : zr_R := Bool.rec (motive := fun _ => zr_R) (zd_y83 O K0 rt TX pool ml rty pc k) (zd_y82 O K0 rt TX pool ml rty pc k) (Nat.ble (Nat.succ k) 41)
noncomputable def zd_y75 (O : List zx_W) (K0 : Nat) (rt : List Nat) (TX : List zx_X) (pool : zx_Tr zr_E) (ml : Nat) (rty : Option FieldType) (pc : Nat) (k : Nat) : zr_R := Bool.rec (motive := fun _ => zr_R) (zd_y81 O K0 rt TX pool ml rty pc k) (zd_y76 O K0 rt TX pool ml rty pc k) (Nat.ble (Nat.succ k) 40)
noncomputable def zd_y65 (O : List zx_W) (K0 : Nat) (rt : List Nat) (TX : List zx_X) (pool : zx_Tr zr_E) (ml : Nat) (rty : Option FieldType) (pc : Nat) (k : Nat) : zr_R := Bool.rec (motive := fun _ => zr_R) (zd_y75 O K0 rt TX pool ml rty pc k) (zd_y66 O K0 rt TX pool ml rty pc k) (Nat.ble (Nat.succ k) 37)
noncomputable def zd_y43 (O : List zx_W) (K0 : Nat) (rt : List Nat) (TX : List zx_X) (pool : zx_Tr zr_E) (ml : Nat) (rty : Option FieldType) (pc : Nat) (k : Nat) : zr_R := Bool.rec (motive := fun _ => zr_R) (zd_y65 O K0 rt TX pool ml rty pc k) (zd_y44 O K0 rt TX pool ml rty pc k) (Nat.ble (Nat.succ k) 32)
noncomputable def zd_y1 (O : List zx_W) (K0 : Nat) (rt : List Nat) (TX : List zx_X) (pool : zx_Tr zr_E) (ml : Nat) (rty : Option FieldType) (pc : Nat) (k : Nat) : zr_R := Bool.rec (motive := fun _ => zr_R) (zd_y43 O K0 rt TX pool ml rty pc k) (zd_y2 O K0 rt TX pool ml rty pc k) (Nat.ble (Nat.succ k) 21)
noncomputable def zd_y91 (O : List zx_W) (K0 : Nat) (rt : List Nat) (TX : List zx_X) (pool : zx_Tr zr_E) (ml : Nat) (rty : Option FieldType) (pc : Nat) (k : Nat) : zr_R := zr_i2b pc
noncomputable def zd_y92 (O : List zx_W) (K0 : Nat) (rt : List Nat) (TX : List zx_X) (pool : zx_Tr zr_E) (ml : Nat) (rty : Option FieldType) (pc : Nat) (k : Nat) : zr_R := zr_i2s pc
noncomputable def zd_y90 (O : List zx_W) (K0 : Nat) (rt : List Nat) (TX : List zx_X) (pool : zx_Tr zr_E) (ml : Nat) (rty : Option FieldType) (pc : Nat) (k : Nat) : zr_R := Bool.rec (motive := fun _ => zr_R) (zd_y92 O K0 rt TX pool ml rty pc k) (zd_y91 O K0 rt TX pool ml rty pc k) (Nat.ble (Nat.succ k) 44)
noncomputable def zd_y94 (O : List zx_W) (K0 : Nat) (rt : List Nat) (TX : List zx_X) (pool : zx_Tr zr_E) (ml : Nat) (rty : Option FieldType) (pc : Nat) (k : Nat) : zr_R := zr_i2c pc
noncomputable def zd_y96 (O : List zx_W) (K0 : Nat) (rt : List Nat) (TX : List zx_X) (pool : zx_Tr zr_E) (ml : Nat) (rty : Option FieldType) (pc : Nat) (k : Nat) : zr_R := zr_lneg pc
noncomputable def zd_y97 (O : List zx_W) (K0 : Nat) (rt : List Nat) (TX : List zx_X) (pool : zx_Tr zr_E) (ml : Nat) (rty : Option FieldType) (pc : Nat) (k : Nat) : zr_R := zr_i2l pc
noncomputable def zd_y95 (O : List zx_W) (K0 : Nat) (rt : List Nat) (TX : List zx_X) (pool : zx_Tr zr_E) (ml : Nat) (rty : Option FieldType) (pc : Nat) (k : Nat) : zr_R := Bool.rec (motive := fun _ => zr_R) (zd_y97 O K0 rt TX pool ml rty pc k) (zd_y96 O K0 rt TX pool ml rty pc k) (Nat.ble (Nat.succ k) 47)
noncomputable def zd_y93 (O : List zx_W) (K0 : Nat) (rt : List Nat) (TX : List zx_X) (pool : zx_Tr zr_E) (ml : Nat) (rty : Option FieldType) (pc : Nat) (k : Nat) : zr_R := Bool.rec (motive := fun _ => zr_R) (zd_y95 O K0 rt TX pool ml rty pc k) (zd_y94 O K0 rt TX pool ml rty pc k) (Nat.ble (Nat.succ k) 46)
noncomputable def zd_y89 (O : List zx_W) (K0 : Nat) (rt : List Nat) (TX : List zx_X) (pool : zx_Tr zr_E) (ml : Nat) (rty : Option FieldType) (pc : Nat) (k : Nat) : zr_R := Bool.rec (motive := fun _ => zr_R) (zd_y93 O K0 rt TX pool ml rty pc k) (zd_y90 O K0 rt TX pool ml rty pc k) (Nat.ble (Nat.succ k) 45)
noncomputable def zd_y100 (O : List zx_W) (K0 : Nat) (rt : List Nat) (TX : List zx_X) (pool : zx_Tr zr_E) (ml : Nat) (rty : Option FieldType) (pc : Nat) (k : Nat) : zr_R := zr_l2i pc
noncomputable def zd_y102 (O : List zx_W) (K0 : Nat) (rt : List Nat) (TX : List zx_X) (pool : zx_Tr zr_E) (ml : Nat) (rty : Option FieldType) (pc : Nat) (k : Nat) : zr_R := zr_lcmp pc
noncomputable def zd_y103 (O : List zx_W) (K0 : Nat) (rt : List Nat) (TX : List zx_X) (pool : zx_Tr zr_E) (ml : Nat) (rty : Option FieldType) (pc : Nat) (k : Nat) : zr_R := zr_dup pc
noncomputable def zd_y101 (O : List zx_W) (K0 : Nat) (rt : List Nat) (TX : List zx_X) (pool : zx_Tr zr_E) (ml : Nat) (rty : Option FieldType) (pc : Nat) (k : Nat) : zr_R := Bool.rec (motive := fun _ => zr_R) (zd_y103 O K0 rt TX pool ml rty pc k) (zd_y102 O K0 rt TX pool ml rty pc k) (Nat.ble (Nat.succ k) 50)
noncomputable def zd_y99 (O : List zx_W) (K0 : Nat) (rt : List Nat) (TX : List zx_X) (pool : zx_Tr zr_E) (ml : Nat) (rty : Option FieldType) (pc : Nat) (k : Nat) : zr_R := Bool.rec (motive := fun _ => zr_R) (zd_y101 O K0 rt TX pool ml rty pc k) (zd_y100 O K0 rt TX pool ml rty pc k) (Nat.ble (Nat.succ k) 49)
noncomputable def zd_y105 (O : List zx_W) (K0 : Nat) (rt : List Nat) (TX : List zx_X) (pool : zx_Tr zr_E) (ml : Nat) (rty : Option FieldType) (pc : Nat) (k : Nat) : zr_R := zr_pop pc
noncomputable def zd_y107 (O : List zx_W) (K0 : Nat) (rt : List Nat) (TX : List zx_X) (pool : zx_Tr zr_E) (ml : Nat) (rty : Option FieldType) (pc : Nat) (k : Nat) : zr_R := zr_dup2 pc
noncomputable def zd_y108 (O : List zx_W) (K0 : Nat) (rt : List Nat) (TX : List zx_X) (pool : zx_Tr zr_E) (ml : Nat) (rty : Option FieldType) (pc : Nat) (k : Nat) : zr_R := zr_ifeq pc
noncomputable def zd_y106 (O : List zx_W) (K0 : Nat) (rt : List Nat) (TX : List zx_X) (pool : zx_Tr zr_E) (ml : Nat) (rty : Option FieldType) (pc : Nat) (k : Nat) : zr_R := Bool.rec (motive := fun _ => zr_R) (zd_y108 O K0 rt TX pool ml rty pc k) (zd_y107 O K0 rt TX pool ml rty pc k) (Nat.ble (Nat.succ k) 53)
noncomputable def zd_y104 (O : List zx_W) (K0 : Nat) (rt : List Nat) (TX : List zx_X) (pool : zx_Tr zr_E) (ml : Nat) (rty : Option FieldType) (pc : Nat) (k : Nat) : zr_R := Bool.rec (motive := fun _ => zr_R) (zd_y106 O K0 rt TX pool ml rty pc k) (zd_y105 O K0 rt TX pool ml rty pc k) (Nat.ble (Nat.succ k) 52)
noncomputable def zd_y98 (O : List zx_W) (K0 : Nat) (rt : List Nat) (TX : List zx_X) (pool : zx_Tr zr_E) (ml : Nat) (rty : Option FieldType) (pc : Nat) (k : Nat) : zr_R := Bool.rec (motive := fun _ => zr_R) (zd_y104 O K0 rt TX pool ml rty pc k) (zd_y99 O K0 rt TX pool ml rty pc k) (Nat.ble (Nat.succ k) 51)
noncomputable def zd_y88 (O : List zx_W) (K0 : Nat) (rt : List Nat) (TX : List zx_X) (pool : zx_Tr zr_E) (ml : Nat) (rty : Option FieldType) (pc : Nat) (k : Nat) : zr_R := Bool.rec (motive := fun _ => zr_R) (zd_y98 O K0 rt TX pool ml rty pc k) (zd_y89 O K0 rt TX pool ml rty pc k) (Nat.ble (Nat.succ k) 48)
noncomputable def zd_y112 (O : List zx_W) (K0 : Nat) (rt : List Nat) (TX : List zx_X) (pool : zx_Tr zr_E) (ml : Nat) (rty : Option FieldType) (pc : Nat) (k : Nat) : zr_R := zr_iceq pc
noncomputable def zd_y113 (O : List zx_W) (K0 : Nat) (rt : List Nat) (TX : List zx_X) (pool : zx_Tr zr_E) (ml : Nat) (rty : Option FieldType) (pc : Nat) (k : Nat) : zr_R := zr_ifne pc
noncomputable def zd_y111 (O : List zx_W) (K0 : Nat) (rt : List Nat) (TX : List zx_X) (pool : zx_Tr zr_E) (ml : Nat) (rty : Option FieldType) (pc : Nat) (k : Nat) : zr_R := Bool.rec (motive := fun _ => zr_R) (zd_y113 O K0 rt TX pool ml rty pc k) (zd_y112 O K0 rt TX pool ml rty pc k) (Nat.ble (Nat.succ k) 55)
noncomputable def zd_y115 (O : List zx_W) (K0 : Nat) (rt : List Nat) (TX : List zx_X) (pool : zx_Tr zr_E) (ml : Nat) (rty : Option FieldType) (pc : Nat) (k : Nat) : zr_R := zr_icne pc
noncomputable def zd_y117 (O : List zx_W) (K0 : Nat) (rt : List Nat) (TX : List zx_X) (pool : zx_Tr zr_E) (ml : Nat) (rty : Option FieldType) (pc : Nat) (k : Nat) : zr_R := zr_iflt pc
noncomputable def zd_y118 (O : List zx_W) (K0 : Nat) (rt : List Nat) (TX : List zx_X) (pool : zx_Tr zr_E) (ml : Nat) (rty : Option FieldType) (pc : Nat) (k : Nat) : zr_R := zr_iclt pc
noncomputable def zd_y116 (O : List zx_W) (K0 : Nat) (rt : List Nat) (TX : List zx_X) (pool : zx_Tr zr_E) (ml : Nat) (rty : Option FieldType) (pc : Nat) (k : Nat) : zr_R := Bool.rec (motive := fun _ => zr_R) (zd_y118 O K0 rt TX pool ml rty pc k) (zd_y117 O K0 rt TX pool ml rty pc k) (Nat.ble (Nat.succ k) 58)
noncomputable def zd_y114 (O : List zx_W) (K0 : Nat) (rt : List Nat) (TX : List zx_X) (pool : zx_Tr zr_E) (ml : Nat) (rty : Option FieldType) (pc : Nat) (k : Nat) : zr_R := Bool.rec (motive := fun _ => zr_R) (zd_y116 O K0 rt TX pool ml rty pc k) (zd_y115 O K0 rt TX pool ml rty pc k) (Nat.ble (Nat.succ k) 57)
noncomputable def zd_y110 (O : List zx_W) (K0 : Nat) (rt : List Nat) (TX : List zx_X) (pool : zx_Tr zr_E) (ml : Nat) (rty : Option FieldType) (pc : Nat) (k : Nat) : zr_R := Bool.rec (motive := fun _ => zr_R) (zd_y114 O K0 rt TX pool ml rty pc k) (zd_y111 O K0 rt TX pool ml rty pc k) (Nat.ble (Nat.succ k) 56)
noncomputable def zd_y121 (O : List zx_W) (K0 : Nat) (rt : List Nat) (TX : List zx_X) (pool : zx_Tr zr_E) (ml : Nat) (rty : Option FieldType) (pc : Nat) (k : Nat) : zr_R := zr_ifge pc
noncomputable def zd_y123 (O : List zx_W) (K0 : Nat) (rt : List Nat) (TX : List zx_X) (pool : zx_Tr zr_E) (ml : Nat) (rty : Option FieldType) (pc : Nat) (k : Nat) : zr_R := zr_icge pc
noncomputable def zd_y124 (O : List zx_W) (K0 : Nat) (rt : List Nat) (TX : List zx_X) (pool : zx_Tr zr_E) (ml : Nat) (rty : Option FieldType) (pc : Nat) (k : Nat) : zr_R := zr_ifgt pc
noncomputable def zd_y122 (O : List zx_W) (K0 : Nat) (rt : List Nat) (TX : List zx_X) (pool : zx_Tr zr_E) (ml : Nat) (rty : Option FieldType) (pc : Nat) (k : Nat) : zr_R := Bool.rec (motive := fun _ => zr_R) (zd_y124 O K0 rt TX pool ml rty pc k) (zd_y123 O K0 rt TX pool ml rty pc k) (Nat.ble (Nat.succ k) 61)
noncomputable def zd_y120 (O : List zx_W) (K0 : Nat) (rt : List Nat) (TX : List zx_X) (pool : zx_Tr zr_E) (ml : Nat) (rty : Option FieldType) (pc : Nat) (k : Nat) : zr_R := Bool.rec (motive := fun _ => zr_R) (zd_y122 O K0 rt TX pool ml rty pc k) (zd_y121 O K0 rt TX pool ml rty pc k) (Nat.ble (Nat.succ k) 60)
noncomputable def zd_y126 (O : List zx_W) (K0 : Nat) (rt : List Nat) (TX : List zx_X) (pool : zx_Tr zr_E) (ml : Nat) (rty : Option FieldType) (pc : Nat) (k : Nat) : zr_R := zr_icgt pc
noncomputable def zd_y128 (O : List zx_W) (K0 : Nat) (rt : List Nat) (TX : List zx_X) (pool : zx_Tr zr_E) (ml : Nat) (rty : Option FieldType) (pc : Nat) (k : Nat) : zr_R := zr_ifle pc
noncomputable def zd_y129 (O : List zx_W) (K0 : Nat) (rt : List Nat) (TX : List zx_X) (pool : zx_Tr zr_E) (ml : Nat) (rty : Option FieldType) (pc : Nat) (k : Nat) : zr_R := zr_icle pc
noncomputable def zd_y127 (O : List zx_W) (K0 : Nat) (rt : List Nat) (TX : List zx_X) (pool : zx_Tr zr_E) (ml : Nat) (rty : Option FieldType) (pc : Nat) (k : Nat) : zr_R := Bool.rec (motive := fun _ => zr_R) (zd_y129 O K0 rt TX pool ml rty pc k) (zd_y128 O K0 rt TX pool ml rty pc k) (Nat.ble (Nat.succ k) 64)
noncomputable def zd_y125 (O : List zx_W) (K0 : Nat) (rt : List Nat) (TX : List zx_X) (pool : zx_Tr zr_E) (ml : Nat) (rty : Option FieldType) (pc : Nat) (k : Nat) : zr_R := Bool.rec (motive := fun _ => zr_R) (zd_y127 O K0 rt TX pool ml rty pc k) (zd_y126 O K0 rt TX pool ml rty pc k) (Nat.ble (Nat.succ k) 63)
noncomputable def zd_y119 (O : List zx_W) (K0 : Nat) (rt : List Nat) (TX : List zx_X) (pool : zx_Tr zr_E) (ml : Nat) (rty : Option FieldType) (pc : Nat) (k : Nat) : zr_R := Bool.rec (motive := fun _ => zr_R) (zd_y125 O K0 rt TX pool ml rty pc k) (zd_y120 O K0 rt TX pool ml rty pc k) (Nat.ble (Nat.succ k) 62)
noncomputable def zd_y109 (O : List zx_W) (K0 : Nat) (rt : List Nat) (TX : List zx_X) (pool : zx_Tr zr_E) (ml : Nat) (rty : Option FieldType) (pc : Nat) (k : Nat) : zr_R := Bool.rec (motive := fun _ => zr_R) (zd_y119 O K0 rt TX pool ml rty pc k) (zd_y110 O K0 rt TX pool ml rty pc k) (Nat.ble (Nat.succ k) 59)
noncomputable def zd_y87 (O : List zx_W) (K0 : Nat) (rt : List Nat) (TX : List zx_X) (pool : zx_Tr zr_E) (ml : Nat) (rty : Option FieldType) (pc : Nat) (k : Nat) : zr_R := Bool.rec (motive := fun _ => zr_R) (zd_y109 O K0 rt TX pool ml rty pc k) (zd_y88 O K0 rt TX pool ml rty pc k) (Nat.ble (Nat.succ k) 54)
noncomputable def zd_y134 (O : List zx_W) (K0 : Nat) (rt : List Nat) (TX : List zx_X) (pool : zx_Tr zr_E) (ml : Nat) (rty : Option FieldType) (pc : Nat) (k : Nat) : zr_R := zr_goto pc
noncomputable def zd_y135 (O : List zx_W) (K0 : Nat) (rt : List Nat) (TX : List zx_X) (pool : zx_Tr zr_E) (ml : Nat) (rty : Option FieldType) (pc : Nat) (k : Nat) : zr_R := zr_ifnull pc
noncomputable def zd_y133 (O : List zx_W) (K0 : Nat) (rt : List Nat) (TX : List zx_X) (pool : zx_Tr zr_E) (ml : Nat) (rty : Option FieldType) (pc : Nat) (k : Nat) : zr_R := Bool.rec (motive := fun _ => zr_R) (zd_y135 O K0 rt TX pool ml rty pc k) (zd_y134 O K0 rt TX pool ml rty pc k) (Nat.ble (Nat.succ k) 66)
noncomputable def zd_y137 (O : List zx_W) (K0 : Nat) (rt : List Nat) (TX : List zx_X) (pool : zx_Tr zr_E) (ml : Nat) (rty : Option FieldType) (pc : Nat) (k : Nat) : zr_R := zr_ifnonnull pc
noncomputable def zd_y139 (O : List zx_W) (K0 : Nat) (rt : List Nat) (TX : List zx_X) (pool : zx_Tr zr_E) (ml : Nat) (rty : Option FieldType) (pc : Nat) (k : Nat) : zr_R := zr_tsw pc
noncomputable def zd_y140 (O : List zx_W) (K0 : Nat) (rt : List Nat) (TX : List zx_X) (pool : zx_Tr zr_E) (ml : Nat) (rty : Option FieldType) (pc : Nat) (k : Nat) : zr_R := zr_lsw pc
noncomputable def zd_y138 (O : List zx_W) (K0 : Nat) (rt : List Nat) (TX : List zx_X) (pool : zx_Tr zr_E) (ml : Nat) (rty : Option FieldType) (pc : Nat) (k : Nat) : zr_R := Bool.rec (motive := fun _ => zr_R) (zd_y140 O K0 rt TX pool ml rty pc k) (zd_y139 O K0 rt TX pool ml rty pc k) (Nat.ble (Nat.succ k) 69)
noncomputable def zd_y136 (O : List zx_W) (K0 : Nat) (rt : List Nat) (TX : List zx_X) (pool : zx_Tr zr_E) (ml : Nat) (rty : Option FieldType) (pc : Nat) (k : Nat) : zr_R := Bool.rec (motive := fun _ => zr_R) (zd_y138 O K0 rt TX pool ml rty pc k) (zd_y137 O K0 rt TX pool ml rty pc k) (Nat.ble (Nat.succ k) 68)
noncomputable def zd_y132 (O : List zx_W) (K0 : Nat) (rt : List Nat) (TX : List zx_X) (pool : zx_Tr zr_E) (ml : Nat) (rty : Option FieldType) (pc : Nat) (k : Nat) : zr_R := Bool.rec (motive := fun _ => zr_R) (zd_y136 O K0 rt TX pool ml rty pc k) (zd_y133 O K0 rt TX pool ml rty pc k) (Nat.ble (Nat.succ k) 67)
noncomputable def zd_y143 (O : List zx_W) (K0 : Nat) (rt : List Nat) (TX : List zx_X) (pool : zx_Tr zr_E) (ml : Nat) (rty : Option FieldType) (pc : Nat) (k : Nat) : zr_R := zr_iaload O K0 pc
noncomputable def zd_y145 (O : List zx_W) (K0 : Nat) (rt : List Nat) (TX : List zx_X) (pool : zx_Tr zr_E) (ml : Nat) (rty : Option FieldType) (pc : Nat) (k : Nat) : zr_R := zr_laload pc
noncomputable def zd_y146 (O : List zx_W) (K0 : Nat) (rt : List Nat) (TX : List zx_X) (pool : zx_Tr zr_E) (ml : Nat) (rty : Option FieldType) (pc : Nat) (k : Nat) : zr_R := zr_baload O K0 pc
noncomputable def zd_y144 (O : List zx_W) (K0 : Nat) (rt : List Nat) (TX : List zx_X) (pool : zx_Tr zr_E) (ml : Nat) (rty : Option FieldType) (pc : Nat) (k : Nat) : zr_R := Bool.rec (motive := fun _ => zr_R) (zd_y146 O K0 rt TX pool ml rty pc k) (zd_y145 O K0 rt TX pool ml rty pc k) (Nat.ble (Nat.succ k) 72)
noncomputable def zd_y142 (O : List zx_W) (K0 : Nat) (rt : List Nat) (TX : List zx_X) (pool : zx_Tr zr_E) (ml : Nat) (rty : Option FieldType) (pc : Nat) (k : Nat) : zr_R := Bool.rec (motive := fun _ => zr_R) (zd_y144 O K0 rt TX pool ml rty pc k) (zd_y143 O K0 rt TX pool ml rty pc k) (Nat.ble (Nat.succ k) 71)
noncomputable def zd_y148 (O : List zx_W) (K0 : Nat) (rt : List Nat) (TX : List zx_X) (pool : zx_Tr zr_E) (ml : Nat) (rty : Option FieldType) (pc : Nat) (k : Nat) : zr_R := zr_aaload rt pc
noncomputable def zd_y150 (O : List zx_W) (K0 : Nat) (rt : List Nat) (TX : List zx_X) (pool : zx_Tr zr_E) (ml : Nat) (rty : Option FieldType) (pc : Nat) (k : Nat) : zr_R := zr_iastore K0 pc
noncomputable def zd_y151 (O : List zx_W) (K0 : Nat) (rt : List Nat) (TX : List zx_X) (pool : zx_Tr zr_E) (ml : Nat) (rty : Option FieldType) (pc : Nat) (k : Nat) : zr_R := zr_lastore K0 pc
noncomputable def zd_y149 (O : List zx_W) (K0 : Nat) (rt : List Nat) (TX : List zx_X) (pool : zx_Tr zr_E) (ml : Nat) (rty : Option FieldType) (pc : Nat) (k : Nat) : zr_R := Bool.rec (motive := fun _ => zr_R) (zd_y151 O K0 rt TX pool ml rty pc k) (zd_y150 O K0 rt TX pool ml rty pc k) (Nat.ble (Nat.succ k) 75)
noncomputable def zd_y147 (O : List zx_W) (K0 : Nat) (rt : List Nat) (TX : List zx_X) (pool : zx_Tr zr_E) (ml : Nat) (rty : Option FieldType) (pc : Nat) (k : Nat) : zr_R := Bool.rec (motive := fun _ => zr_R) (zd_y149 O K0 rt TX pool ml rty pc k) (zd_y148 O K0 rt TX pool ml rty pc k) (Nat.ble (Nat.succ k) 74)
noncomputable def zd_y141 (O : List zx_W) (K0 : Nat) (rt : List Nat) (TX : List zx_X) (pool : zx_Tr zr_E) (ml : Nat) (rty : Option FieldType) (pc : Nat) (k : Nat) : zr_R := Bool.rec (motive := fun _ => zr_R) (zd_y147 O K0 rt TX pool ml rty pc k) (zd_y142 O K0 rt TX pool ml rty pc k) (Nat.ble (Nat.succ k) 73)
noncomputable def zd_y131 (O : List zx_W) (K0 : Nat) (rt : List Nat) (TX : List zx_X) (pool : zx_Tr zr_E) (ml : Nat) (rty : Option FieldType) (pc : Nat) (k : Nat) : zr_R := Bool.rec (motive := fun _ => zr_R) (zd_y141 O K0 rt TX pool ml rty pc k) (zd_y132 O K0 rt TX pool ml rty pc k) (Nat.ble (Nat.succ k) 70)
noncomputable def zd_y155 (O : List zx_W) (K0 : Nat) (rt : List Nat) (TX : List zx_X) (pool : zx_Tr zr_E) (ml : Nat) (rty : Option FieldType) (pc : Nat) (k : Nat) : zr_R := zr_bastore K0 pc
noncomputable def zd_y156 (O : List zx_W) (K0 : Nat) (rt : List Nat) (TX : List zx_X) (pool : zx_Tr zr_E) (ml : Nat) (rty : Option FieldType) (pc : Nat) (k : Nat) : zr_R := zr_alen O K0 pc
noncomputable def zd_y154 (O : List zx_W) (K0 : Nat) (rt : List Nat) (TX : List zx_X) (pool : zx_Tr zr_E) (ml : Nat) (rty : Option FieldType) (pc : Nat) (k : Nat) : zr_R := Bool.rec (motive := fun _ => zr_R) (zd_y156 O K0 rt TX pool ml rty pc k) (zd_y155 O K0 rt TX pool ml rty pc k) (Nat.ble (Nat.succ k) 77)
noncomputable def zd_y158 (O : List zx_W) (K0 : Nat) (rt : List Nat) (TX : List zx_X) (pool : zx_Tr zr_E) (ml : Nat) (rty : Option FieldType) (pc : Nat) (k : Nat) : zr_R := zr_lret rty pc
noncomputable def zd_y160 (O : List zx_W) (K0 : Nat) (rt : List Nat) (TX : List zx_X) (pool : zx_Tr zr_E) (ml : Nat) (rty : Option FieldType) (pc : Nat) (k : Nat) : zr_R := zr_aret rty pc
noncomputable def zd_y161 (O : List zx_W) (K0 : Nat) (rt : List Nat) (TX : List zx_X) (pool : zx_Tr zr_E) (ml : Nat) (rty : Option FieldType) (pc : Nat) (k : Nat) : zr_R := zr_vret rty pc
noncomputable def zd_y159 (O : List zx_W) (K0 : Nat) (rt : List Nat) (TX : List zx_X) (pool : zx_Tr zr_E) (ml : Nat) (rty : Option FieldType) (pc : Nat) (k : Nat) : zr_R := Bool.rec (motive := fun _ => zr_R) (zd_y161 O K0 rt TX pool ml rty pc k) (zd_y160 O K0 rt TX pool ml rty pc k) (Nat.ble (Nat.succ k) 80)
noncomputable def zd_y157 (O : List zx_W) (K0 : Nat) (rt : List Nat) (TX : List zx_X) (pool : zx_Tr zr_E) (ml : Nat) (rty : Option FieldType) (pc : Nat) (k : Nat) : zr_R := Bool.rec (motive := fun _ => zr_R) (zd_y159 O K0 rt TX pool ml rty pc k) (zd_y158 O K0 rt TX pool ml rty pc k) (Nat.ble (Nat.succ k) 79)
noncomputable def zd_y153 (O : List zx_W) (K0 : Nat) (rt : List Nat) (TX : List zx_X) (pool : zx_Tr zr_E) (ml : Nat) (rty : Option FieldType) (pc : Nat) (k : Nat) : zr_R := Bool.rec (motive := fun _ => zr_R) (zd_y157 O K0 rt TX pool ml rty pc k) (zd_y154 O K0 rt TX pool ml rty pc k) (Nat.ble (Nat.succ k) 78)
noncomputable def zd_y164 (O : List zx_W) (K0 : Nat) (rt : List Nat) (TX : List zx_X) (pool : zx_Tr zr_E) (ml : Nat) (rty : Option FieldType) (pc : Nat) (k : Nat) : zr_R := zr_ldc pool pc
noncomputable def zd_y166 (O : List zx_W) (K0 : Nat) (rt : List Nat) (TX : List zx_X) (pool : zx_Tr zr_E) (ml : Nat) (rty : Option FieldType) (pc : Nat) (k : Nat) : zr_R := zr_ldcw pool pc
noncomputable def zd_y167 (O : List zx_W) (K0 : Nat) (rt : List Nat) (TX : List zx_X) (pool : zx_Tr zr_E) (ml : Nat) (rty : Option FieldType) (pc : Nat) (k : Nat) : zr_R := zr_ldc2 pool pc
noncomputable def zd_y165 (O : List zx_W) (K0 : Nat) (rt : List Nat) (TX : List zx_X) (pool : zx_Tr zr_E) (ml : Nat) (rty : Option FieldType) (pc : Nat) (k : Nat) : zr_R := Bool.rec (motive := fun _ => zr_R) (zd_y167 O K0 rt TX pool ml rty pc k) (zd_y166 O K0 rt TX pool ml rty pc k) (Nat.ble (Nat.succ k) 83)
noncomputable def zd_y163 (O : List zx_W) (K0 : Nat) (rt : List Nat) (TX : List zx_X) (pool : zx_Tr zr_E) (ml : Nat) (rty : Option FieldType) (pc : Nat) (k : Nat) : zr_R := Bool.rec (motive := fun _ => zr_R) (zd_y165 O K0 rt TX pool ml rty pc k) (zd_y164 O K0 rt TX pool ml rty pc k) (Nat.ble (Nat.succ k) 82)
noncomputable def zd_y169 (O : List zx_W) (K0 : Nat) (rt : List Nat) (TX : List zx_X) (pool : zx_Tr zr_E) (ml : Nat) (rty : Option FieldType) (pc : Nat) (k : Nat) : zr_R := zr_putf pool K0 pc
noncomputable def zd_y171 (O : List zx_W) (K0 : Nat) (rt : List Nat) (TX : List zx_X) (pool : zx_Tr zr_E) (ml : Nat) (rty : Option FieldType) (pc : Nat) (k : Nat) : zr_R := zr_gets pool pc
noncomputable def zd_y172 (O : List zx_W) (K0 : Nat) (rt : List Nat) (TX : List zx_X) (pool : zx_Tr zr_E) (ml : Nat) (rty : Option FieldType) (pc : Nat) (k : Nat) : zr_R := zr_invs pool pc
noncomputable def zd_y170 (O : List zx_W) (K0 : Nat) (rt : List Nat) (TX : List zx_X) (pool : zx_Tr zr_E) (ml : Nat) (rty : Option FieldType) (pc : Nat) (k : Nat) : zr_R := Bool.rec (motive := fun _ => zr_R) (zd_y172 O K0 rt TX pool ml rty pc k) (zd_y171 O K0 rt TX pool ml rty pc k) (Nat.ble (Nat.succ k) 86)
noncomputable def zd_y168 (O : List zx_W) (K0 : Nat) (rt : List Nat) (TX : List zx_X) (pool : zx_Tr zr_E) (ml : Nat) (rty : Option FieldType) (pc : Nat) (k : Nat) : zr_R := Bool.rec (motive := fun _ => zr_R) (zd_y170 O K0 rt TX pool ml rty pc k) (zd_y169 O K0 rt TX pool ml rty pc k) (Nat.ble (Nat.succ k) 85)
noncomputable def zd_y162 (O : List zx_W) (K0 : Nat) (rt : List Nat) (TX : List zx_X) (pool : zx_Tr zr_E) (ml : Nat) (rty : Option FieldType) (pc : Nat) (k : Nat) : zr_R := Bool.rec (motive := fun _ => zr_R) (zd_y168 O K0 rt TX pool ml rty pc k) (zd_y163 O K0 rt TX pool ml rty pc k) (Nat.ble (Nat.succ k) 84)
noncomputable def zd_y152 (O : List zx_W) (K0 : Nat) (rt : List Nat) (TX : List zx_X) (pool : zx_Tr zr_E) (ml : Nat) (rty : Option FieldType) (pc : Nat) (k : Nat) : zr_R := Bool.rec (motive := fun _ => zr_R) (zd_y162 O K0 rt TX pool ml rty pc k) (zd_y153 O K0 rt TX pool ml rty pc k) (Nat.ble (Nat.succ k) 81)
noncomputable def zd_y130 (O : List zx_W) (K0 : Nat) (rt : List Nat) (TX : List zx_X) (pool : zx_Tr zr_E) (ml : Nat) (rty : Option FieldType) (pc : Nat) (k : Nat) : zr_R := Bool.rec (motive := fun _ => zr_R) (zd_y152 O K0 rt TX pool ml rty pc k) (zd_y131 O K0 rt TX pool ml rty pc k) (Nat.ble (Nat.succ k) 76)
noncomputable def zd_y86 (O : List zx_W) (K0 : Nat) (rt : List Nat) (TX : List zx_X) (pool : zx_Tr zr_E) (ml : Nat) (rty : Option FieldType) (pc : Nat) (k : Nat) : zr_R := Bool.rec (motive := fun _ => zr_R) (zd_y130 O K0 rt TX pool ml rty pc k) (zd_y87 O K0 rt TX pool ml rty pc k) (Nat.ble (Nat.succ k) 65)
noncomputable def zd_y0 (O : List zx_W) (K0 : Nat) (rt : List Nat) (TX : List zx_X) (pool : zx_Tr zr_E) (ml : Nat) (rty : Option FieldType) (pc : Nat) (k : Nat) : zr_R := Bool.rec (motive := fun _ => zr_R) (zd_y86 O K0 rt TX pool ml rty pc k) (zd_y1 O K0 rt TX pool ml rty pc k) (Nat.ble (Nat.succ k) 43)
theorem zd_y_eq {O : List zx_W} {K0 : Nat} {rt : List Nat} {TX : List zx_X} {pool : zx_Tr zr_E} {ml : Nat} {rty : Option FieldType} {pc : Nat} : ∀ (k : Nat), k < 87 → (zr_rows O K0 rt TX pool ml rty pc)[k]? = some (zd_y0 O K0 rt TX pool ml rty pc k)
  | 0, _ => rfl
  | 1, _ => rfl
  | 2, _ => rfl
  | 3, _ => rfl
  | 4, _ => rfl
  | 5, _ => rfl
  | 6, _ => rfl
  | 7, _ => rfl
  | 8, _ => rfl
  | 9, _ => rfl
  | 10, _ => rfl
  | 11, _ => rfl
  | 12, _ => rfl
  | 13, _ => rfl
  | 14, _ => rfl
  | 15, _ => rfl
  | 16, _ => rfl
  | 17, _ => rfl
  | 18, _ => rfl
  | 19, _ => rfl
  | 20, _ => rfl
  | 21, _ => rfl
  | 22, _ => rfl
  | 23, _ => rfl
  | 24, _ => rfl
  | 25, _ => rfl
  | 26, _ => rfl
  | 27, _ => rfl
  | 28, _ => rfl
  | 29, _ => rfl
  | 30, _ => rfl
  | 31, _ => rfl
  | 32, _ => rfl
  | 33, _ => rfl
  | 34, _ => rfl
  | 35, _ => rfl
  | 36, _ => rfl
  | 37, _ => rfl
  | 38, _ => rfl
  | 39, _ => rfl
  | 40, _ => rfl
  | 41, _ => rfl
  | 42, _ => rfl
  | 43, _ => rfl
  | 44, _ => rfl
  | 45, _ => rfl
  | 46, _ => rfl
  | 47, _ => rfl
  | 48, _ => rfl
  | 49, _ => rfl
  | 50, _ => rfl
  | 51, _ => rfl
  | 52, _ => rfl
  | 53, _ => rfl
  | 54, _ => rfl
  | 55, _ => rfl
  | 56, _ => rfl
  | 57, _ => rfl
  | 58, _ => rfl
  | 59, _ => rfl
  | 60, _ => rfl
  | 61, _ => rfl
  | 62, _ => rfl
  | 63, _ => rfl
  | 64, _ => rfl
  | 65, _ => rfl
  | 66, _ => rfl
  | 67, _ => rfl
  | 68, _ => rfl
  | 69, _ => rfl
  | 70, _ => rfl
  | 71, _ => rfl
  | 72, _ => rfl
  | 73, _ => rfl
  | 74, _ => rfl
  | 75, _ => rfl
  | 76, _ => rfl
  | 77, _ => rfl
  | 78, _ => rfl
  | 79, _ => rfl
  | 80, _ => rfl
  | 81, _ => rfl
  | 82, _ => rfl
  | 83, _ => rfl
  | 84, _ => rfl
  | 85, _ => rfl
  | 86, _ => rfl
  | k + 87, hk => absurd hk (by omega)
theorem zd_all {O : List zx_W} {K0 : Nat} {rt : List Nat} {TX : List zx_X} {pool : zx_Tr zr_E} {ml : Nat} {rty : Option FieldType} {pc : Nat} : ∀ (k : Nat) (r : zr_R), (zr_rows O K0 rt TX pool ml rty pc)[k]? = some r → ∀ (i : Instr) (n : Nat) (g : zx_F), r i n = some g → zd_cn i = k
  | 0, r, h, i, n, g, hg => by
    have e : (zr_aload_n pc) = r := Option.some.inj h
    rw [← e] at hg
    exact zd_c0 (O := O) (K0 := K0) (rt := rt) (TX := TX) (pool := pool) (ml := ml) (rty := rty) hg
  | 1, r, h, i, n, g, hg => by
    have e : (zr_iload_n pc) = r := Option.some.inj h
    rw [← e] at hg
    exact zd_c1 (O := O) (K0 := K0) (rt := rt) (TX := TX) (pool := pool) (ml := ml) (rty := rty) hg
  | 2, r, h, i, n, g, hg => by
    have e : (zr_iconst pc) = r := Option.some.inj h
    rw [← e] at hg
    exact zd_c2 (O := O) (K0 := K0) (rt := rt) (TX := TX) (pool := pool) (ml := ml) (rty := rty) hg
  | 3, r, h, i, n, g, hg => by
    have e : (zr_invv pool TX pc) = r := Option.some.inj h
    rw [← e] at hg
    exact zd_c3 (O := O) (K0 := K0) (rt := rt) (TX := TX) (pool := pool) (ml := ml) (rty := rty) hg
  | 4, r, h, i, n, g, hg => by
    have e : (zr_iload pc) = r := Option.some.inj h
    rw [← e] at hg
    exact zd_c4 (O := O) (K0 := K0) (rt := rt) (TX := TX) (pool := pool) (ml := ml) (rty := rty) hg
  | 5, r, h, i, n, g, hg => by
    have e : (zr_bipush pc) = r := Option.some.inj h
    rw [← e] at hg
    exact zd_c5 (O := O) (K0 := K0) (rt := rt) (TX := TX) (pool := pool) (ml := ml) (rty := rty) hg
  | 6, r, h, i, n, g, hg => by
    have e : (zr_getf pool TX pc) = r := Option.some.inj h
    rw [← e] at hg
    exact zd_c6 (O := O) (K0 := K0) (rt := rt) (TX := TX) (pool := pool) (ml := ml) (rty := rty) hg
  | 7, r, h, i, n, g, hg => by
    have e : (zr_iret rty pc) = r := Option.some.inj h
    rw [← e] at hg
    exact zd_c7 (O := O) (K0 := K0) (rt := rt) (TX := TX) (pool := pool) (ml := ml) (rty := rty) hg
  | 8, r, h, i, n, g, hg => by
    have e : (zr_sipush pc) = r := Option.some.inj h
    rw [← e] at hg
    exact zd_c8 (O := O) (K0 := K0) (rt := rt) (TX := TX) (pool := pool) (ml := ml) (rty := rty) hg
  | 9, r, h, i, n, g, hg => by
    have e : (zr_lconst pc) = r := Option.some.inj h
    rw [← e] at hg
    exact zd_c9 (O := O) (K0 := K0) (rt := rt) (TX := TX) (pool := pool) (ml := ml) (rty := rty) hg
  | 10, r, h, i, n, g, hg => by
    have e : (zr_null pc) = r := Option.some.inj h
    rw [← e] at hg
    exact zd_c10 (O := O) (K0 := K0) (rt := rt) (TX := TX) (pool := pool) (ml := ml) (rty := rty) hg
  | 11, r, h, i, n, g, hg => by
    have e : (zr_istore ml pc) = r := Option.some.inj h
    rw [← e] at hg
    exact zd_c11 (O := O) (K0 := K0) (rt := rt) (TX := TX) (pool := pool) (ml := ml) (rty := rty) hg
  | 12, r, h, i, n, g, hg => by
    have e : (zr_istore_n ml pc) = r := Option.some.inj h
    rw [← e] at hg
    exact zd_c12 (O := O) (K0 := K0) (rt := rt) (TX := TX) (pool := pool) (ml := ml) (rty := rty) hg
  | 13, r, h, i, n, g, hg => by
    have e : (zr_lload pc) = r := Option.some.inj h
    rw [← e] at hg
    exact zd_c13 (O := O) (K0 := K0) (rt := rt) (TX := TX) (pool := pool) (ml := ml) (rty := rty) hg
  | 14, r, h, i, n, g, hg => by
    have e : (zr_lload_n pc) = r := Option.some.inj h
    rw [← e] at hg
    exact zd_c14 (O := O) (K0 := K0) (rt := rt) (TX := TX) (pool := pool) (ml := ml) (rty := rty) hg
  | 15, r, h, i, n, g, hg => by
    have e : (zr_lstore ml pc) = r := Option.some.inj h
    rw [← e] at hg
    exact zd_c15 (O := O) (K0 := K0) (rt := rt) (TX := TX) (pool := pool) (ml := ml) (rty := rty) hg
  | 16, r, h, i, n, g, hg => by
    have e : (zr_lstore_n ml pc) = r := Option.some.inj h
    rw [← e] at hg
    exact zd_c16 (O := O) (K0 := K0) (rt := rt) (TX := TX) (pool := pool) (ml := ml) (rty := rty) hg
  | 17, r, h, i, n, g, hg => by
    have e : (zr_aload pc) = r := Option.some.inj h
    rw [← e] at hg
    exact zd_c17 (O := O) (K0 := K0) (rt := rt) (TX := TX) (pool := pool) (ml := ml) (rty := rty) hg
  | 18, r, h, i, n, g, hg => by
    have e : (zr_astore ml pc) = r := Option.some.inj h
    rw [← e] at hg
    exact zd_c18 (O := O) (K0 := K0) (rt := rt) (TX := TX) (pool := pool) (ml := ml) (rty := rty) hg
  | 19, r, h, i, n, g, hg => by
    have e : (zr_astore_n ml pc) = r := Option.some.inj h
    rw [← e] at hg
    exact zd_c19 (O := O) (K0 := K0) (rt := rt) (TX := TX) (pool := pool) (ml := ml) (rty := rty) hg
  | 20, r, h, i, n, g, hg => by
    have e : (zr_iinc ml pc) = r := Option.some.inj h
    rw [← e] at hg
    exact zd_c20 (O := O) (K0 := K0) (rt := rt) (TX := TX) (pool := pool) (ml := ml) (rty := rty) hg
  | 21, r, h, i, n, g, hg => by
    have e : (zr_iadd pc) = r := Option.some.inj h
    rw [← e] at hg
    exact zd_c21 (O := O) (K0 := K0) (rt := rt) (TX := TX) (pool := pool) (ml := ml) (rty := rty) hg
  | 22, r, h, i, n, g, hg => by
    have e : (zr_isub pc) = r := Option.some.inj h
    rw [← e] at hg
    exact zd_c22 (O := O) (K0 := K0) (rt := rt) (TX := TX) (pool := pool) (ml := ml) (rty := rty) hg
  | 23, r, h, i, n, g, hg => by
    have e : (zr_iand pc) = r := Option.some.inj h
    rw [← e] at hg
    exact zd_c23 (O := O) (K0 := K0) (rt := rt) (TX := TX) (pool := pool) (ml := ml) (rty := rty) hg
  | 24, r, h, i, n, g, hg => by
    have e : (zr_ishr pc) = r := Option.some.inj h
    rw [← e] at hg
    exact zd_c24 (O := O) (K0 := K0) (rt := rt) (TX := TX) (pool := pool) (ml := ml) (rty := rty) hg
  | 25, r, h, i, n, g, hg => by
    have e : (zr_iushr pc) = r := Option.some.inj h
    rw [← e] at hg
    exact zd_c25 (O := O) (K0 := K0) (rt := rt) (TX := TX) (pool := pool) (ml := ml) (rty := rty) hg
  | 26, r, h, i, n, g, hg => by
    have e : (zr_idiv pc) = r := Option.some.inj h
    rw [← e] at hg
    exact zd_c26 (O := O) (K0 := K0) (rt := rt) (TX := TX) (pool := pool) (ml := ml) (rty := rty) hg
  | 27, r, h, i, n, g, hg => by
    have e : (zr_irem pc) = r := Option.some.inj h
    rw [← e] at hg
    exact zd_c27 (O := O) (K0 := K0) (rt := rt) (TX := TX) (pool := pool) (ml := ml) (rty := rty) hg
  | 28, r, h, i, n, g, hg => by
    have e : (zr_imul pc) = r := Option.some.inj h
    rw [← e] at hg
    exact zd_c28 (O := O) (K0 := K0) (rt := rt) (TX := TX) (pool := pool) (ml := ml) (rty := rty) hg
  | 29, r, h, i, n, g, hg => by
    have e : (zr_ior pc) = r := Option.some.inj h
    rw [← e] at hg
    exact zd_c29 (O := O) (K0 := K0) (rt := rt) (TX := TX) (pool := pool) (ml := ml) (rty := rty) hg
  | 30, r, h, i, n, g, hg => by
    have e : (zr_ixor pc) = r := Option.some.inj h
    rw [← e] at hg
    exact zd_c30 (O := O) (K0 := K0) (rt := rt) (TX := TX) (pool := pool) (ml := ml) (rty := rty) hg
  | 31, r, h, i, n, g, hg => by
    have e : (zr_ishl pc) = r := Option.some.inj h
    rw [← e] at hg
    exact zd_c31 (O := O) (K0 := K0) (rt := rt) (TX := TX) (pool := pool) (ml := ml) (rty := rty) hg
  | 32, r, h, i, n, g, hg => by
    have e : (zr_ladd pc) = r := Option.some.inj h
    rw [← e] at hg
    exact zd_c32 (O := O) (K0 := K0) (rt := rt) (TX := TX) (pool := pool) (ml := ml) (rty := rty) hg
  | 33, r, h, i, n, g, hg => by
    have e : (zr_lsub pc) = r := Option.some.inj h
    rw [← e] at hg
    exact zd_c33 (O := O) (K0 := K0) (rt := rt) (TX := TX) (pool := pool) (ml := ml) (rty := rty) hg
  | 34, r, h, i, n, g, hg => by
    have e : (zr_lmul pc) = r := Option.some.inj h
    rw [← e] at hg
    exact zd_c34 (O := O) (K0 := K0) (rt := rt) (TX := TX) (pool := pool) (ml := ml) (rty := rty) hg
  | 35, r, h, i, n, g, hg => by
    have e : (zr_land pc) = r := Option.some.inj h
    rw [← e] at hg
    exact zd_c35 (O := O) (K0 := K0) (rt := rt) (TX := TX) (pool := pool) (ml := ml) (rty := rty) hg
  | 36, r, h, i, n, g, hg => by
    have e : (zr_lor pc) = r := Option.some.inj h
    rw [← e] at hg
    exact zd_c36 (O := O) (K0 := K0) (rt := rt) (TX := TX) (pool := pool) (ml := ml) (rty := rty) hg
  | 37, r, h, i, n, g, hg => by
    have e : (zr_lshl pc) = r := Option.some.inj h
    rw [← e] at hg
    exact zd_c37 (O := O) (K0 := K0) (rt := rt) (TX := TX) (pool := pool) (ml := ml) (rty := rty) hg
  | 38, r, h, i, n, g, hg => by
    have e : (zr_lshr pc) = r := Option.some.inj h
    rw [← e] at hg
    exact zd_c38 (O := O) (K0 := K0) (rt := rt) (TX := TX) (pool := pool) (ml := ml) (rty := rty) hg
  | 39, r, h, i, n, g, hg => by
    have e : (zr_lushr pc) = r := Option.some.inj h
    rw [← e] at hg
    exact zd_c39 (O := O) (K0 := K0) (rt := rt) (TX := TX) (pool := pool) (ml := ml) (rty := rty) hg
  | 40, r, h, i, n, g, hg => by
    have e : (zr_ldiv pc) = r := Option.some.inj h
    rw [← e] at hg
    exact zd_c40 (O := O) (K0 := K0) (rt := rt) (TX := TX) (pool := pool) (ml := ml) (rty := rty) hg
  | 41, r, h, i, n, g, hg => by
    have e : (zr_lrem pc) = r := Option.some.inj h
    rw [← e] at hg
    exact zd_c41 (O := O) (K0 := K0) (rt := rt) (TX := TX) (pool := pool) (ml := ml) (rty := rty) hg
  | 42, r, h, i, n, g, hg => by
    have e : (zr_ineg pc) = r := Option.some.inj h
    rw [← e] at hg
    exact zd_c42 (O := O) (K0 := K0) (rt := rt) (TX := TX) (pool := pool) (ml := ml) (rty := rty) hg
  | 43, r, h, i, n, g, hg => by
    have e : (zr_i2b pc) = r := Option.some.inj h
    rw [← e] at hg
    exact zd_c43 (O := O) (K0 := K0) (rt := rt) (TX := TX) (pool := pool) (ml := ml) (rty := rty) hg
  | 44, r, h, i, n, g, hg => by
    have e : (zr_i2s pc) = r := Option.some.inj h
    rw [← e] at hg
    exact zd_c44 (O := O) (K0 := K0) (rt := rt) (TX := TX) (pool := pool) (ml := ml) (rty := rty) hg
  | 45, r, h, i, n, g, hg => by
    have e : (zr_i2c pc) = r := Option.some.inj h
    rw [← e] at hg
    exact zd_c45 (O := O) (K0 := K0) (rt := rt) (TX := TX) (pool := pool) (ml := ml) (rty := rty) hg
  | 46, r, h, i, n, g, hg => by
    have e : (zr_lneg pc) = r := Option.some.inj h
    rw [← e] at hg
    exact zd_c46 (O := O) (K0 := K0) (rt := rt) (TX := TX) (pool := pool) (ml := ml) (rty := rty) hg
  | 47, r, h, i, n, g, hg => by
    have e : (zr_i2l pc) = r := Option.some.inj h
    rw [← e] at hg
    exact zd_c47 (O := O) (K0 := K0) (rt := rt) (TX := TX) (pool := pool) (ml := ml) (rty := rty) hg
  | 48, r, h, i, n, g, hg => by
    have e : (zr_l2i pc) = r := Option.some.inj h
    rw [← e] at hg
    exact zd_c48 (O := O) (K0 := K0) (rt := rt) (TX := TX) (pool := pool) (ml := ml) (rty := rty) hg
  | 49, r, h, i, n, g, hg => by
    have e : (zr_lcmp pc) = r := Option.some.inj h
    rw [← e] at hg
    exact zd_c49 (O := O) (K0 := K0) (rt := rt) (TX := TX) (pool := pool) (ml := ml) (rty := rty) hg
  | 50, r, h, i, n, g, hg => by
    have e : (zr_dup pc) = r := Option.some.inj h
    rw [← e] at hg
    exact zd_c50 (O := O) (K0 := K0) (rt := rt) (TX := TX) (pool := pool) (ml := ml) (rty := rty) hg
  | 51, r, h, i, n, g, hg => by
    have e : (zr_pop pc) = r := Option.some.inj h
    rw [← e] at hg
    exact zd_c51 (O := O) (K0 := K0) (rt := rt) (TX := TX) (pool := pool) (ml := ml) (rty := rty) hg
  | 52, r, h, i, n, g, hg => by
    have e : (zr_dup2 pc) = r := Option.some.inj h
    rw [← e] at hg
    exact zd_c52 (O := O) (K0 := K0) (rt := rt) (TX := TX) (pool := pool) (ml := ml) (rty := rty) hg
  | 53, r, h, i, n, g, hg => by
    have e : (zr_ifeq pc) = r := Option.some.inj h
    rw [← e] at hg
    exact zd_c53 (O := O) (K0 := K0) (rt := rt) (TX := TX) (pool := pool) (ml := ml) (rty := rty) hg
  | 54, r, h, i, n, g, hg => by
    have e : (zr_iceq pc) = r := Option.some.inj h
    rw [← e] at hg
    exact zd_c54 (O := O) (K0 := K0) (rt := rt) (TX := TX) (pool := pool) (ml := ml) (rty := rty) hg
  | 55, r, h, i, n, g, hg => by
    have e : (zr_ifne pc) = r := Option.some.inj h
    rw [← e] at hg
    exact zd_c55 (O := O) (K0 := K0) (rt := rt) (TX := TX) (pool := pool) (ml := ml) (rty := rty) hg
  | 56, r, h, i, n, g, hg => by
    have e : (zr_icne pc) = r := Option.some.inj h
    rw [← e] at hg
    exact zd_c56 (O := O) (K0 := K0) (rt := rt) (TX := TX) (pool := pool) (ml := ml) (rty := rty) hg
  | 57, r, h, i, n, g, hg => by
    have e : (zr_iflt pc) = r := Option.some.inj h
    rw [← e] at hg
    exact zd_c57 (O := O) (K0 := K0) (rt := rt) (TX := TX) (pool := pool) (ml := ml) (rty := rty) hg
  | 58, r, h, i, n, g, hg => by
    have e : (zr_iclt pc) = r := Option.some.inj h
    rw [← e] at hg
    exact zd_c58 (O := O) (K0 := K0) (rt := rt) (TX := TX) (pool := pool) (ml := ml) (rty := rty) hg
  | 59, r, h, i, n, g, hg => by
    have e : (zr_ifge pc) = r := Option.some.inj h
    rw [← e] at hg
    exact zd_c59 (O := O) (K0 := K0) (rt := rt) (TX := TX) (pool := pool) (ml := ml) (rty := rty) hg
  | 60, r, h, i, n, g, hg => by
    have e : (zr_icge pc) = r := Option.some.inj h
    rw [← e] at hg
    exact zd_c60 (O := O) (K0 := K0) (rt := rt) (TX := TX) (pool := pool) (ml := ml) (rty := rty) hg
  | 61, r, h, i, n, g, hg => by
    have e : (zr_ifgt pc) = r := Option.some.inj h
    rw [← e] at hg
    exact zd_c61 (O := O) (K0 := K0) (rt := rt) (TX := TX) (pool := pool) (ml := ml) (rty := rty) hg
  | 62, r, h, i, n, g, hg => by
    have e : (zr_icgt pc) = r := Option.some.inj h
    rw [← e] at hg
    exact zd_c62 (O := O) (K0 := K0) (rt := rt) (TX := TX) (pool := pool) (ml := ml) (rty := rty) hg
  | 63, r, h, i, n, g, hg => by
    have e : (zr_ifle pc) = r := Option.some.inj h
    rw [← e] at hg
    exact zd_c63 (O := O) (K0 := K0) (rt := rt) (TX := TX) (pool := pool) (ml := ml) (rty := rty) hg
  | 64, r, h, i, n, g, hg => by
    have e : (zr_icle pc) = r := Option.some.inj h
    rw [← e] at hg
    exact zd_c64 (O := O) (K0 := K0) (rt := rt) (TX := TX) (pool := pool) (ml := ml) (rty := rty) hg
  | 65, r, h, i, n, g, hg => by
    have e : (zr_goto pc) = r := Option.some.inj h
    rw [← e] at hg
    exact zd_c65 (O := O) (K0 := K0) (rt := rt) (TX := TX) (pool := pool) (ml := ml) (rty := rty) hg
  | 66, r, h, i, n, g, hg => by
    have e : (zr_ifnull pc) = r := Option.some.inj h
    rw [← e] at hg
    exact zd_c66 (O := O) (K0 := K0) (rt := rt) (TX := TX) (pool := pool) (ml := ml) (rty := rty) hg
  | 67, r, h, i, n, g, hg => by
    have e : (zr_ifnonnull pc) = r := Option.some.inj h
    rw [← e] at hg
    exact zd_c67 (O := O) (K0 := K0) (rt := rt) (TX := TX) (pool := pool) (ml := ml) (rty := rty) hg
  | 68, r, h, i, n, g, hg => by
    have e : (zr_tsw pc) = r := Option.some.inj h
    rw [← e] at hg
    exact zd_c68 (O := O) (K0 := K0) (rt := rt) (TX := TX) (pool := pool) (ml := ml) (rty := rty) hg
  | 69, r, h, i, n, g, hg => by
    have e : (zr_lsw pc) = r := Option.some.inj h
    rw [← e] at hg
    exact zd_c69 (O := O) (K0 := K0) (rt := rt) (TX := TX) (pool := pool) (ml := ml) (rty := rty) hg
  | 70, r, h, i, n, g, hg => by
    have e : (zr_iaload O K0 pc) = r := Option.some.inj h
    rw [← e] at hg
    exact zd_c70 (O := O) (K0 := K0) (rt := rt) (TX := TX) (pool := pool) (ml := ml) (rty := rty) hg
  | 71, r, h, i, n, g, hg => by
    have e : (zr_laload pc) = r := Option.some.inj h
    rw [← e] at hg
    exact zd_c71 (O := O) (K0 := K0) (rt := rt) (TX := TX) (pool := pool) (ml := ml) (rty := rty) hg
  | 72, r, h, i, n, g, hg => by
    have e : (zr_baload O K0 pc) = r := Option.some.inj h
    rw [← e] at hg
    exact zd_c72 (O := O) (K0 := K0) (rt := rt) (TX := TX) (pool := pool) (ml := ml) (rty := rty) hg
  | 73, r, h, i, n, g, hg => by
    have e : (zr_aaload rt pc) = r := Option.some.inj h
    rw [← e] at hg
    exact zd_c73 (O := O) (K0 := K0) (rt := rt) (TX := TX) (pool := pool) (ml := ml) (rty := rty) hg
  | 74, r, h, i, n, g, hg => by
    have e : (zr_iastore K0 pc) = r := Option.some.inj h
    rw [← e] at hg
    exact zd_c74 (O := O) (K0 := K0) (rt := rt) (TX := TX) (pool := pool) (ml := ml) (rty := rty) hg
  | 75, r, h, i, n, g, hg => by
    have e : (zr_lastore K0 pc) = r := Option.some.inj h
    rw [← e] at hg
    exact zd_c75 (O := O) (K0 := K0) (rt := rt) (TX := TX) (pool := pool) (ml := ml) (rty := rty) hg
  | 76, r, h, i, n, g, hg => by
    have e : (zr_bastore K0 pc) = r := Option.some.inj h
    rw [← e] at hg
    exact zd_c76 (O := O) (K0 := K0) (rt := rt) (TX := TX) (pool := pool) (ml := ml) (rty := rty) hg
  | 77, r, h, i, n, g, hg => by
    have e : (zr_alen O K0 pc) = r := Option.some.inj h
    rw [← e] at hg
    exact zd_c77 (O := O) (K0 := K0) (rt := rt) (TX := TX) (pool := pool) (ml := ml) (rty := rty) hg
  | 78, r, h, i, n, g, hg => by
    have e : (zr_lret rty pc) = r := Option.some.inj h
    rw [← e] at hg
    exact zd_c78 (O := O) (K0 := K0) (rt := rt) (TX := TX) (pool := pool) (ml := ml) (rty := rty) hg
  | 79, r, h, i, n, g, hg => by
    have e : (zr_aret rty pc) = r := Option.some.inj h
    rw [← e] at hg
    exact zd_c79 (O := O) (K0 := K0) (rt := rt) (TX := TX) (pool := pool) (ml := ml) (rty := rty) hg
  | 80, r, h, i, n, g, hg => by
    have e : (zr_vret rty pc) = r := Option.some.inj h
    rw [← e] at hg
    exact zd_c80 (O := O) (K0 := K0) (rt := rt) (TX := TX) (pool := pool) (ml := ml) (rty := rty) hg
  | 81, r, h, i, n, g, hg => by
    have e : (zr_ldc pool pc) = r := Option.some.inj h
    rw [← e] at hg
    exact zd_c81 (O := O) (K0 := K0) (rt := rt) (TX := TX) (pool := pool) (ml := ml) (rty := rty) hg
  | 82, r, h, i, n, g, hg => by
    have e : (zr_ldcw pool pc) = r := Option.some.inj h
    rw [← e] at hg
    exact zd_c82 (O := O) (K0 := K0) (rt := rt) (TX := TX) (pool := pool) (ml := ml) (rty := rty) hg
  | 83, r, h, i, n, g, hg => by
    have e : (zr_ldc2 pool pc) = r := Option.some.inj h
    rw [← e] at hg
    exact zd_c83 (O := O) (K0 := K0) (rt := rt) (TX := TX) (pool := pool) (ml := ml) (rty := rty) hg
  | 84, r, h, i, n, g, hg => by
    have e : (zr_putf pool K0 pc) = r := Option.some.inj h
    rw [← e] at hg
    exact zd_c84 (O := O) (K0 := K0) (rt := rt) (TX := TX) (pool := pool) (ml := ml) (rty := rty) hg
  | 85, r, h, i, n, g, hg => by
    have e : (zr_gets pool pc) = r := Option.some.inj h
    rw [← e] at hg
    exact zd_c85 (O := O) (K0 := K0) (rt := rt) (TX := TX) (pool := pool) (ml := ml) (rty := rty) hg
  | 86, r, h, i, n, g, hg => by
    have e : (zr_invs pool pc) = r := Option.some.inj h
    rw [← e] at hg
    exact zd_c86 (O := O) (K0 := K0) (rt := rt) (TX := TX) (pool := pool) (ml := ml) (rty := rty) hg
  | k + 87, r, h, i, n, g, hg => by
    have e : (zr_rows O K0 rt TX pool ml rty pc)[k + 87]? = none := List.getElem?_eq_none (by show 87 ≤ k + 87; omega)
    rw [e] at h
    cases h
theorem zd_ix_at : ∀ {l : List (zr_R × (Instr → Nat → ze_O))} {i : Instr} {n k0 j : Nat} {r : zr_R} {g : zx_F}, (l.map Prod.fst)[j]? = some r → r i n = some g → (∀ m p, m < j → (l.map Prod.fst)[m]? = some p → p i n = none) → zd_ix l i n k0 = some (k0 + j)
  | [], i, n, k0, j, r, g, h, _, _ => nomatch h
  | q :: l, i, n, k0, 0, r, g, h, hg, _ => by
    have e : q.1 = r := Option.some.inj h
    show (match q.1 i n with | some _ => some k0 | none => zd_ix l i n (k0 + 1)) = _
    rw [e, hg]
    rfl
  | q :: l, i, n, k0, j + 1, r, g, h, hg, hm => by
    have h0 : q.1 i n = none := hm 0 q.1 (Nat.succ_pos j) rfl
    show (match q.1 i n with | some _ => some k0 | none => zd_ix l i n (k0 + 1)) = _
    rw [h0]
    have h1 := zd_ix_at (l := l) (k0 := k0 + 1) (j := j) h hg (fun m p hm2 hp => hm (m + 1) p (Nat.succ_lt_succ hm2) hp)
    rw [show k0 + (j + 1) = k0 + 1 + j by omega]
    exact h1
/-- an instruction's row, looked at alone -/
noncomputable def zd_ok3 (O : List zx_W) (K0 : Nat) (rt : List Nat) (TX : List zx_X) (M : zx_M × zx_Tr zr_E) (tab : zd_T) : Nat → Bool
  | 0 => true
  | n + 1 => match zx_g10 tab n with
    | none => zd_ok3 O K0 rt TX M tab n
    | some x => match decide (decode M.1.2.1 n = .ok (x.2.1, x.2.2)) && Nat.blt x.1 87 with
      | false => false
      | true => match zd_y0 O K0 rt TX M.2 M.1.2.2.1 M.1.2.2.2.1 n x.1 x.2.1 x.2.2 with
        | none => false
        | some _ => zd_ok3 O K0 rt TX M tab n
theorem zd_ok3_in {T : zx_Tr zt_C} {O : List zx_W} {OT : List zt_Y} {K0 : Nat} {rt : List Nat} {TX : List zx_X} {M : zx_M × zx_Tr zr_E} {tab : zd_T} : ∀ {N : Nat}, zd_ok3 O K0 rt TX M tab N = true → zd_ok T O OT K0 rt TX M tab N = true
  | 0, _ => rfl
  | n + 1, h => by
    unfold zd_ok3 at h
    unfold zd_ok
    split at h
    · next e1 =>
      rw [e1]
      exact zd_ok3_in h
    · next x e1 =>
      rw [e1]
      dsimp only
      split at h
      · cases h
      · next e2 =>
        split at h
        · cases h
        · next g e3 =>
          simp only [Bool.and_eq_true] at e2
          have hk : x.1 < 87 := Nat.le_of_ble_eq_true e2.2
          have h1 := zd_y_eq (O := O) (K0 := K0) (rt := rt) (TX := TX) (pool := M.2) (ml := M.1.2.2.1) (rty := M.1.2.2.2.1) (pc := n) x.1 hk
          have hc := zd_all _ _ h1 _ _ _ e3
          have h2 : zd_ix (zs_rows T O OT K0 [] rt TX M.2 M.1.2.2.1 M.1.2.2.2.1 n) x.2.1 x.2.2 0 = some (0 + x.1) := by
            refine zd_ix_at (r := _) (g := g) (by rw [zs_rows_1]; exact h1) e3 (fun m p hm hp => ?_)
            rw [zs_rows_1] at hp
            cases e5 : p x.2.1 x.2.2 with
            | none => rfl
            | some g2 =>
              have h5 := zd_all _ _ hp _ _ _ e5
              omega
          rw [e2.1, h2, Nat.zero_add]
          dsimp only
          rw [Nat.beq_refl]
          exact zd_ok3_in h
