def zl_t_12 : List zl_T := [(0, 3, nI 0, 0), (1, 2, nI 1, 0), (7, 0, 0, 0), (2, 2, nI 63, 0), (5, 2, nI 1, 63), (7, 0, 0, 0), (7, 0, 0, 0), (7, 0, 0, 0), (7, 0, 0, 0), (7, 0, 0, 0), (7, 0, 0, 0), (7, 0, 0, 0), (7, 0, 0, 0), (7, 0, 0, 0), (7, 0, 0, 0), (7, 0, 0, 0), (7, 0, 0, 0), (7, 0, 0, 0), (7, 0, 0, 0), (7, 0, 0, 0), (7, 0, 0, 0), (7, 0, 0, 0), (7, 0, 0, 0), (7, 0, 0, 0), (7, 0, 0, 0), (7, 0, 0, 0), (7, 0, 0, 0), (7, 0, 0, 0), (7, 0, 0, 0), (7, 0, 0, 0), (7, 0, 0, 0), (7, 0, 0, 0), (7, 0, 0, 0), (7, 0, 0, 0), (7, 0, 0, 0), (7, 0, 0, 0), (7, 0, 0, 0), (7, 0, 0, 0), (7, 0, 0, 0), (7, 0, 0, 0), (7, 0, 0, 0), (7, 0, 0, 0), (7, 0, 0, 0), (7, 0, 0, 0), (7, 0, 0, 0), (7, 0, 0, 0), (7, 0, 0, 0), (7, 0, 0, 0), (7, 0, 0, 0), (7, 0, 0, 0), (7, 0, 0, 0), (7, 0, 0, 0), (7, 0, 0, 0), (7, 0, 0, 0), (7, 0, 0, 0), (7, 0, 0, 0), (7, 0, 0, 0), (7, 0, 0, 0), (7, 0, 0, 0), (7, 0, 0, 0), (7, 0, 0, 0), (7, 0, 0, 0), (7, 0, 0, 0), (7, 0, 0, 0), (7, 0, 0, 0), (7, 0, 0, 0), (7, 0, 0, 0), (7, 0, 0, 0), (7, 0, 0, 0), (1, 2, nI 1, 0), (7, 0, 0, 0), (2, 2, nI 63, 0), (5, 2, nI 1, 63), (7, 0, 0, 0), (7, 0, 0, 0), (7, 0, 0, 0), (7, 0, 0, 0), (7, 0, 0, 0), (7, 0, 0, 0), (7, 0, 0, 0), (7, 0, 0, 0), (7, 0, 0, 0), (7, 0, 0, 0), (7, 0, 0, 0), (7, 0, 0, 0), (7, 0, 0, 0), (7, 0, 0, 0), (7, 0, 0, 0), (7, 0, 0, 0), (7, 0, 0, 0), (7, 0, 0, 0), (7, 0, 0, 0), (7, 0, 0, 0), (7, 0, 0, 0), (7, 0, 0, 0), (7, 0, 0, 0), (7, 0, 0, 0), (7, 0, 0, 0), (7, 0, 0, 0), (7, 0, 0, 0), (7, 0, 0, 0), (7, 0, 0, 0), (7, 0, 0, 0), (7, 0, 0, 0), (7, 0, 0, 0), (7, 0, 0, 0), (7, 0, 0, 0), (7, 0, 0, 0), (7, 0, 0, 0), (7, 0, 0, 0), (7, 0, 0, 0), (7, 0, 0, 0), (7, 0, 0, 0), (7, 0, 0, 0), (7, 0, 0, 0), (7, 0, 0, 0), (7, 0, 0, 0), (7, 0, 0, 0), (7, 0, 0, 0), (7, 0, 0, 0), (7, 0, 0, 0), (7, 0, 0, 0), (7, 0, 0, 0), (7, 0, 0, 0), (7, 0, 0, 0), (7, 0, 0, 0), (7, 0, 0, 0), (7, 0, 0, 0), (7, 0, 0, 0), (7, 0, 0, 0), (7, 0, 0, 0), (7, 0, 0, 0), (7, 0, 0, 0), (7, 0, 0, 0), (7, 0, 0, 0), (7, 0, 0, 0), (7, 0, 0, 0)]
noncomputable def zlo_12_0 : zx_O := (1, 2, nI 1, .int (nI 1)) :: (0, 3, nI 0, .int (nI 1)) :: ((3, 1, 31, .int (nI 12)) :: zl_b)
theorem zlf_12_0 : zl_K zlo_12_0 = true := by decide +kernel
noncomputable def zlo_12_1 : zx_O := (9, 2, nI 0, .int (nI 1)) :: (2, 2, nI 63, .int (nI 1)) :: (1, 2, nI 1, .int (nI 0)) :: (0, 3, nI 0, .int (nI 1)) :: ((3, 1, 31, .int (nI 12)) :: zl_b)
theorem zlf_12_1 : zl_K zlo_12_1 = true := by decide +kernel
noncomputable def zlo_12_2 : zx_O := (9, 2, nI 0, .int (nI 2)) :: (2, 2, nI 63, .int (nI 1)) :: (1, 2, nI 1, .int (nI 0)) :: (0, 3, nI 0, .int (nI 1)) :: ((3, 1, 31, .int (nI 12)) :: zl_b)
theorem zlf_12_2 : zl_K zlo_12_2 = true := by decide +kernel
noncomputable def zlo_12_3 : zx_O := (9, 2, nI 0, .int (nI 3)) :: (2, 2, nI 63, .int (nI 1)) :: (1, 2, nI 1, .int (nI 0)) :: (0, 3, nI 0, .int (nI 1)) :: ((3, 1, 31, .int (nI 12)) :: zl_b)
theorem zlf_12_3 : zl_K zlo_12_3 = true := by decide +kernel
noncomputable def zlo_12_4 : zx_O := (9, 2, nI 0, .int (nI 4)) :: (2, 2, nI 63, .int (nI 1)) :: (1, 2, nI 1, .int (nI 0)) :: (0, 3, nI 0, .int (nI 1)) :: ((3, 1, 31, .int (nI 12)) :: zl_b)
theorem zlf_12_4 : zl_K zlo_12_4 = true := by decide +kernel
noncomputable def zlo_12_5 : zx_O := (9, 2, nI 0, .int (nI 5)) :: (2, 2, nI 63, .int (nI 1)) :: (1, 2, nI 1, .int (nI 0)) :: (0, 3, nI 0, .int (nI 1)) :: ((3, 1, 31, .int (nI 12)) :: zl_b)
theorem zlf_12_5 : zl_K zlo_12_5 = true := by decide +kernel
noncomputable def zlo_12_6 : zx_O := (9, 2, nI 0, .int (nI 6)) :: (2, 2, nI 63, .int (nI 1)) :: (1, 2, nI 1, .int (nI 0)) :: (0, 3, nI 0, .int (nI 1)) :: ((3, 1, 31, .int (nI 12)) :: zl_b)
theorem zlf_12_6 : zl_K zlo_12_6 = true := by decide +kernel
noncomputable def zlo_12_7 : zx_O := (9, 2, nI 0, .int (nI 7)) :: (2, 2, nI 63, .int (nI 1)) :: (1, 2, nI 1, .int (nI 0)) :: (0, 3, nI 0, .int (nI 1)) :: ((3, 1, 31, .int (nI 12)) :: zl_b)
theorem zlf_12_7 : zl_K zlo_12_7 = true := by decide +kernel
noncomputable def zlo_12_8 : zx_O := (9, 2, nI 0, .int (nI 8)) :: (2, 2, nI 63, .int (nI 1)) :: (1, 2, nI 1, .int (nI 0)) :: (0, 3, nI 0, .int (nI 1)) :: ((3, 1, 31, .int (nI 12)) :: zl_b)
theorem zlf_12_8 : zl_K zlo_12_8 = true := by decide +kernel
noncomputable def zlo_12_9 : zx_O := (9, 2, nI 0, .int (nI 9)) :: (2, 2, nI 63, .int (nI 1)) :: (1, 2, nI 1, .int (nI 0)) :: (0, 3, nI 0, .int (nI 1)) :: ((3, 1, 31, .int (nI 12)) :: zl_b)
theorem zlf_12_9 : zl_K zlo_12_9 = true := by decide +kernel
noncomputable def zlo_12_10 : zx_O := (9, 2, nI 0, .int (nI 10)) :: (2, 2, nI 63, .int (nI 1)) :: (1, 2, nI 1, .int (nI 0)) :: (0, 3, nI 0, .int (nI 1)) :: ((3, 1, 31, .int (nI 12)) :: zl_b)
theorem zlf_12_10 : zl_K zlo_12_10 = true := by decide +kernel
noncomputable def zlo_12_11 : zx_O := (9, 2, nI 0, .int (nI 11)) :: (2, 2, nI 63, .int (nI 1)) :: (1, 2, nI 1, .int (nI 0)) :: (0, 3, nI 0, .int (nI 1)) :: ((3, 1, 31, .int (nI 12)) :: zl_b)
theorem zlf_12_11 : zl_K zlo_12_11 = true := by decide +kernel
noncomputable def zlo_12_12 : zx_O := (9, 2, nI 0, .int (nI 12)) :: (2, 2, nI 63, .int (nI 1)) :: (1, 2, nI 1, .int (nI 0)) :: (0, 3, nI 0, .int (nI 1)) :: ((3, 1, 31, .int (nI 12)) :: zl_b)
theorem zlf_12_12 : zl_K zlo_12_12 = true := by decide +kernel
noncomputable def zlo_12_13 : zx_O := (9, 2, nI 0, .int (nI 13)) :: (2, 2, nI 63, .int (nI 1)) :: (1, 2, nI 1, .int (nI 0)) :: (0, 3, nI 0, .int (nI 1)) :: ((3, 1, 31, .int (nI 12)) :: zl_b)
theorem zlf_12_13 : zl_K zlo_12_13 = true := by decide +kernel
noncomputable def zlo_12_14 : zx_O := (9, 2, nI 0, .int (nI 14)) :: (2, 2, nI 63, .int (nI 1)) :: (1, 2, nI 1, .int (nI 0)) :: (0, 3, nI 0, .int (nI 1)) :: ((3, 1, 31, .int (nI 12)) :: zl_b)
theorem zlf_12_14 : zl_K zlo_12_14 = true := by decide +kernel
noncomputable def zlo_12_15 : zx_O := (9, 2, nI 0, .int (nI 15)) :: (2, 2, nI 63, .int (nI 1)) :: (1, 2, nI 1, .int (nI 0)) :: (0, 3, nI 0, .int (nI 1)) :: ((3, 1, 31, .int (nI 12)) :: zl_b)
theorem zlf_12_15 : zl_K zlo_12_15 = true := by decide +kernel
noncomputable def zlo_12_16 : zx_O := (9, 2, nI 0, .int (nI 16)) :: (2, 2, nI 63, .int (nI 1)) :: (1, 2, nI 1, .int (nI 0)) :: (0, 3, nI 0, .int (nI 1)) :: ((3, 1, 31, .int (nI 12)) :: zl_b)
theorem zlf_12_16 : zl_K zlo_12_16 = true := by decide +kernel
noncomputable def zlo_12_17 : zx_O := (9, 2, nI 0, .int (nI 17)) :: (2, 2, nI 63, .int (nI 1)) :: (1, 2, nI 1, .int (nI 0)) :: (0, 3, nI 0, .int (nI 1)) :: ((3, 1, 31, .int (nI 12)) :: zl_b)
theorem zlf_12_17 : zl_K zlo_12_17 = true := by decide +kernel
noncomputable def zlo_12_18 : zx_O := (9, 2, nI 0, .int (nI 18)) :: (2, 2, nI 63, .int (nI 1)) :: (1, 2, nI 1, .int (nI 0)) :: (0, 3, nI 0, .int (nI 1)) :: ((3, 1, 31, .int (nI 12)) :: zl_b)
theorem zlf_12_18 : zl_K zlo_12_18 = true := by decide +kernel
noncomputable def zlo_12_19 : zx_O := (9, 2, nI 0, .int (nI 19)) :: (2, 2, nI 63, .int (nI 1)) :: (1, 2, nI 1, .int (nI 0)) :: (0, 3, nI 0, .int (nI 1)) :: ((3, 1, 31, .int (nI 12)) :: zl_b)
theorem zlf_12_19 : zl_K zlo_12_19 = true := by decide +kernel
noncomputable def zlo_12_20 : zx_O := (9, 2, nI 0, .int (nI 20)) :: (2, 2, nI 63, .int (nI 1)) :: (1, 2, nI 1, .int (nI 0)) :: (0, 3, nI 0, .int (nI 1)) :: ((3, 1, 31, .int (nI 12)) :: zl_b)
theorem zlf_12_20 : zl_K zlo_12_20 = true := by decide +kernel
noncomputable def zlo_12_21 : zx_O := (9, 2, nI 0, .int (nI 21)) :: (2, 2, nI 63, .int (nI 1)) :: (1, 2, nI 1, .int (nI 0)) :: (0, 3, nI 0, .int (nI 1)) :: ((3, 1, 31, .int (nI 12)) :: zl_b)
theorem zlf_12_21 : zl_K zlo_12_21 = true := by decide +kernel
noncomputable def zlo_12_22 : zx_O := (9, 2, nI 0, .int (nI 22)) :: (2, 2, nI 63, .int (nI 1)) :: (1, 2, nI 1, .int (nI 0)) :: (0, 3, nI 0, .int (nI 1)) :: ((3, 1, 31, .int (nI 12)) :: zl_b)
theorem zlf_12_22 : zl_K zlo_12_22 = true := by decide +kernel
noncomputable def zlo_12_23 : zx_O := (9, 2, nI 0, .int (nI 23)) :: (2, 2, nI 63, .int (nI 1)) :: (1, 2, nI 1, .int (nI 0)) :: (0, 3, nI 0, .int (nI 1)) :: ((3, 1, 31, .int (nI 12)) :: zl_b)
theorem zlf_12_23 : zl_K zlo_12_23 = true := by decide +kernel
noncomputable def zlo_12_24 : zx_O := (9, 2, nI 0, .int (nI 24)) :: (2, 2, nI 63, .int (nI 1)) :: (1, 2, nI 1, .int (nI 0)) :: (0, 3, nI 0, .int (nI 1)) :: ((3, 1, 31, .int (nI 12)) :: zl_b)
theorem zlf_12_24 : zl_K zlo_12_24 = true := by decide +kernel
noncomputable def zlo_12_25 : zx_O := (9, 2, nI 0, .int (nI 25)) :: (2, 2, nI 63, .int (nI 1)) :: (1, 2, nI 1, .int (nI 0)) :: (0, 3, nI 0, .int (nI 1)) :: ((3, 1, 31, .int (nI 12)) :: zl_b)
theorem zlf_12_25 : zl_K zlo_12_25 = true := by decide +kernel
noncomputable def zlo_12_26 : zx_O := (9, 2, nI 0, .int (nI 26)) :: (2, 2, nI 63, .int (nI 1)) :: (1, 2, nI 1, .int (nI 0)) :: (0, 3, nI 0, .int (nI 1)) :: ((3, 1, 31, .int (nI 12)) :: zl_b)
theorem zlf_12_26 : zl_K zlo_12_26 = true := by decide +kernel
noncomputable def zlo_12_27 : zx_O := (9, 2, nI 0, .int (nI 27)) :: (2, 2, nI 63, .int (nI 1)) :: (1, 2, nI 1, .int (nI 0)) :: (0, 3, nI 0, .int (nI 1)) :: ((3, 1, 31, .int (nI 12)) :: zl_b)
theorem zlf_12_27 : zl_K zlo_12_27 = true := by decide +kernel
noncomputable def zlo_12_28 : zx_O := (9, 2, nI 0, .int (nI 28)) :: (2, 2, nI 63, .int (nI 1)) :: (1, 2, nI 1, .int (nI 0)) :: (0, 3, nI 0, .int (nI 1)) :: ((3, 1, 31, .int (nI 12)) :: zl_b)
theorem zlf_12_28 : zl_K zlo_12_28 = true := by decide +kernel
noncomputable def zlo_12_29 : zx_O := (9, 2, nI 0, .int (nI 29)) :: (2, 2, nI 63, .int (nI 1)) :: (1, 2, nI 1, .int (nI 0)) :: (0, 3, nI 0, .int (nI 1)) :: ((3, 1, 31, .int (nI 12)) :: zl_b)
theorem zlf_12_29 : zl_K zlo_12_29 = true := by decide +kernel
noncomputable def zlo_12_30 : zx_O := (9, 2, nI 0, .int (nI 30)) :: (2, 2, nI 63, .int (nI 1)) :: (1, 2, nI 1, .int (nI 0)) :: (0, 3, nI 0, .int (nI 1)) :: ((3, 1, 31, .int (nI 12)) :: zl_b)
theorem zlf_12_30 : zl_K zlo_12_30 = true := by decide +kernel
noncomputable def zlo_12_31 : zx_O := (9, 2, nI 0, .int (nI 31)) :: (2, 2, nI 63, .int (nI 1)) :: (1, 2, nI 1, .int (nI 0)) :: (0, 3, nI 0, .int (nI 1)) :: ((3, 1, 31, .int (nI 12)) :: zl_b)
theorem zlf_12_31 : zl_K zlo_12_31 = true := by decide +kernel
noncomputable def zlo_12_32 : zx_O := (9, 2, nI 0, .int (nI 32)) :: (2, 2, nI 63, .int (nI 1)) :: (1, 2, nI 1, .int (nI 0)) :: (0, 3, nI 0, .int (nI 1)) :: ((3, 1, 31, .int (nI 12)) :: zl_b)
theorem zlf_12_32 : zl_K zlo_12_32 = true := by decide +kernel
noncomputable def zlo_12_33 : zx_O := (9, 2, nI 0, .int (nI 33)) :: (2, 2, nI 63, .int (nI 1)) :: (1, 2, nI 1, .int (nI 0)) :: (0, 3, nI 0, .int (nI 1)) :: ((3, 1, 31, .int (nI 12)) :: zl_b)
theorem zlf_12_33 : zl_K zlo_12_33 = true := by decide +kernel
noncomputable def zlo_12_34 : zx_O := (9, 2, nI 0, .int (nI 34)) :: (2, 2, nI 63, .int (nI 1)) :: (1, 2, nI 1, .int (nI 0)) :: (0, 3, nI 0, .int (nI 1)) :: ((3, 1, 31, .int (nI 12)) :: zl_b)
theorem zlf_12_34 : zl_K zlo_12_34 = true := by decide +kernel
noncomputable def zlo_12_35 : zx_O := (9, 2, nI 0, .int (nI 35)) :: (2, 2, nI 63, .int (nI 1)) :: (1, 2, nI 1, .int (nI 0)) :: (0, 3, nI 0, .int (nI 1)) :: ((3, 1, 31, .int (nI 12)) :: zl_b)
theorem zlf_12_35 : zl_K zlo_12_35 = true := by decide +kernel
noncomputable def zlo_12_36 : zx_O := (9, 2, nI 0, .int (nI 36)) :: (2, 2, nI 63, .int (nI 1)) :: (1, 2, nI 1, .int (nI 0)) :: (0, 3, nI 0, .int (nI 1)) :: ((3, 1, 31, .int (nI 12)) :: zl_b)
theorem zlf_12_36 : zl_K zlo_12_36 = true := by decide +kernel
noncomputable def zlo_12_37 : zx_O := (9, 2, nI 0, .int (nI 37)) :: (2, 2, nI 63, .int (nI 1)) :: (1, 2, nI 1, .int (nI 0)) :: (0, 3, nI 0, .int (nI 1)) :: ((3, 1, 31, .int (nI 12)) :: zl_b)
theorem zlf_12_37 : zl_K zlo_12_37 = true := by decide +kernel
noncomputable def zlo_12_38 : zx_O := (9, 2, nI 0, .int (nI 38)) :: (2, 2, nI 63, .int (nI 1)) :: (1, 2, nI 1, .int (nI 0)) :: (0, 3, nI 0, .int (nI 1)) :: ((3, 1, 31, .int (nI 12)) :: zl_b)
theorem zlf_12_38 : zl_K zlo_12_38 = true := by decide +kernel
noncomputable def zlo_12_39 : zx_O := (9, 2, nI 0, .int (nI 39)) :: (2, 2, nI 63, .int (nI 1)) :: (1, 2, nI 1, .int (nI 0)) :: (0, 3, nI 0, .int (nI 1)) :: ((3, 1, 31, .int (nI 12)) :: zl_b)
theorem zlf_12_39 : zl_K zlo_12_39 = true := by decide +kernel
noncomputable def zlo_12_40 : zx_O := (9, 2, nI 0, .int (nI 40)) :: (2, 2, nI 63, .int (nI 1)) :: (1, 2, nI 1, .int (nI 0)) :: (0, 3, nI 0, .int (nI 1)) :: ((3, 1, 31, .int (nI 12)) :: zl_b)
theorem zlf_12_40 : zl_K zlo_12_40 = true := by decide +kernel
noncomputable def zlo_12_41 : zx_O := (9, 2, nI 0, .int (nI 41)) :: (2, 2, nI 63, .int (nI 1)) :: (1, 2, nI 1, .int (nI 0)) :: (0, 3, nI 0, .int (nI 1)) :: ((3, 1, 31, .int (nI 12)) :: zl_b)
theorem zlf_12_41 : zl_K zlo_12_41 = true := by decide +kernel
noncomputable def zlo_12_42 : zx_O := (9, 2, nI 0, .int (nI 42)) :: (2, 2, nI 63, .int (nI 1)) :: (1, 2, nI 1, .int (nI 0)) :: (0, 3, nI 0, .int (nI 1)) :: ((3, 1, 31, .int (nI 12)) :: zl_b)
theorem zlf_12_42 : zl_K zlo_12_42 = true := by decide +kernel
noncomputable def zlo_12_43 : zx_O := (9, 2, nI 0, .int (nI 43)) :: (2, 2, nI 63, .int (nI 1)) :: (1, 2, nI 1, .int (nI 0)) :: (0, 3, nI 0, .int (nI 1)) :: ((3, 1, 31, .int (nI 12)) :: zl_b)
theorem zlf_12_43 : zl_K zlo_12_43 = true := by decide +kernel
noncomputable def zlo_12_44 : zx_O := (9, 2, nI 0, .int (nI 44)) :: (2, 2, nI 63, .int (nI 1)) :: (1, 2, nI 1, .int (nI 0)) :: (0, 3, nI 0, .int (nI 1)) :: ((3, 1, 31, .int (nI 12)) :: zl_b)
theorem zlf_12_44 : zl_K zlo_12_44 = true := by decide +kernel
noncomputable def zlo_12_45 : zx_O := (9, 2, nI 0, .int (nI 45)) :: (2, 2, nI 63, .int (nI 1)) :: (1, 2, nI 1, .int (nI 0)) :: (0, 3, nI 0, .int (nI 1)) :: ((3, 1, 31, .int (nI 12)) :: zl_b)
theorem zlf_12_45 : zl_K zlo_12_45 = true := by decide +kernel
noncomputable def zlo_12_46 : zx_O := (9, 2, nI 0, .int (nI 46)) :: (2, 2, nI 63, .int (nI 1)) :: (1, 2, nI 1, .int (nI 0)) :: (0, 3, nI 0, .int (nI 1)) :: ((3, 1, 31, .int (nI 12)) :: zl_b)
theorem zlf_12_46 : zl_K zlo_12_46 = true := by decide +kernel
noncomputable def zlo_12_47 : zx_O := (9, 2, nI 0, .int (nI 47)) :: (2, 2, nI 63, .int (nI 1)) :: (1, 2, nI 1, .int (nI 0)) :: (0, 3, nI 0, .int (nI 1)) :: ((3, 1, 31, .int (nI 12)) :: zl_b)
theorem zlf_12_47 : zl_K zlo_12_47 = true := by decide +kernel
noncomputable def zlo_12_48 : zx_O := (9, 2, nI 0, .int (nI 48)) :: (2, 2, nI 63, .int (nI 1)) :: (1, 2, nI 1, .int (nI 0)) :: (0, 3, nI 0, .int (nI 1)) :: ((3, 1, 31, .int (nI 12)) :: zl_b)
theorem zlf_12_48 : zl_K zlo_12_48 = true := by decide +kernel
noncomputable def zlo_12_49 : zx_O := (9, 2, nI 0, .int (nI 49)) :: (2, 2, nI 63, .int (nI 1)) :: (1, 2, nI 1, .int (nI 0)) :: (0, 3, nI 0, .int (nI 1)) :: ((3, 1, 31, .int (nI 12)) :: zl_b)
theorem zlf_12_49 : zl_K zlo_12_49 = true := by decide +kernel
noncomputable def zlo_12_50 : zx_O := (9, 2, nI 0, .int (nI 50)) :: (2, 2, nI 63, .int (nI 1)) :: (1, 2, nI 1, .int (nI 0)) :: (0, 3, nI 0, .int (nI 1)) :: ((3, 1, 31, .int (nI 12)) :: zl_b)
theorem zlf_12_50 : zl_K zlo_12_50 = true := by decide +kernel
noncomputable def zlo_12_51 : zx_O := (9, 2, nI 0, .int (nI 51)) :: (2, 2, nI 63, .int (nI 1)) :: (1, 2, nI 1, .int (nI 0)) :: (0, 3, nI 0, .int (nI 1)) :: ((3, 1, 31, .int (nI 12)) :: zl_b)
theorem zlf_12_51 : zl_K zlo_12_51 = true := by decide +kernel
noncomputable def zlo_12_52 : zx_O := (9, 2, nI 0, .int (nI 52)) :: (2, 2, nI 63, .int (nI 1)) :: (1, 2, nI 1, .int (nI 0)) :: (0, 3, nI 0, .int (nI 1)) :: ((3, 1, 31, .int (nI 12)) :: zl_b)
theorem zlf_12_52 : zl_K zlo_12_52 = true := by decide +kernel
noncomputable def zlo_12_53 : zx_O := (9, 2, nI 0, .int (nI 53)) :: (2, 2, nI 63, .int (nI 1)) :: (1, 2, nI 1, .int (nI 0)) :: (0, 3, nI 0, .int (nI 1)) :: ((3, 1, 31, .int (nI 12)) :: zl_b)
theorem zlf_12_53 : zl_K zlo_12_53 = true := by decide +kernel
noncomputable def zlo_12_54 : zx_O := (9, 2, nI 0, .int (nI 54)) :: (2, 2, nI 63, .int (nI 1)) :: (1, 2, nI 1, .int (nI 0)) :: (0, 3, nI 0, .int (nI 1)) :: ((3, 1, 31, .int (nI 12)) :: zl_b)
theorem zlf_12_54 : zl_K zlo_12_54 = true := by decide +kernel
noncomputable def zlo_12_55 : zx_O := (9, 2, nI 0, .int (nI 55)) :: (2, 2, nI 63, .int (nI 1)) :: (1, 2, nI 1, .int (nI 0)) :: (0, 3, nI 0, .int (nI 1)) :: ((3, 1, 31, .int (nI 12)) :: zl_b)
theorem zlf_12_55 : zl_K zlo_12_55 = true := by decide +kernel
noncomputable def zlo_12_56 : zx_O := (9, 2, nI 0, .int (nI 56)) :: (2, 2, nI 63, .int (nI 1)) :: (1, 2, nI 1, .int (nI 0)) :: (0, 3, nI 0, .int (nI 1)) :: ((3, 1, 31, .int (nI 12)) :: zl_b)
theorem zlf_12_56 : zl_K zlo_12_56 = true := by decide +kernel
noncomputable def zlo_12_57 : zx_O := (9, 2, nI 0, .int (nI 57)) :: (2, 2, nI 63, .int (nI 1)) :: (1, 2, nI 1, .int (nI 0)) :: (0, 3, nI 0, .int (nI 1)) :: ((3, 1, 31, .int (nI 12)) :: zl_b)
theorem zlf_12_57 : zl_K zlo_12_57 = true := by decide +kernel
noncomputable def zlo_12_58 : zx_O := (9, 2, nI 0, .int (nI 58)) :: (2, 2, nI 63, .int (nI 1)) :: (1, 2, nI 1, .int (nI 0)) :: (0, 3, nI 0, .int (nI 1)) :: ((3, 1, 31, .int (nI 12)) :: zl_b)
theorem zlf_12_58 : zl_K zlo_12_58 = true := by decide +kernel
noncomputable def zlo_12_59 : zx_O := (9, 2, nI 0, .int (nI 59)) :: (2, 2, nI 63, .int (nI 1)) :: (1, 2, nI 1, .int (nI 0)) :: (0, 3, nI 0, .int (nI 1)) :: ((3, 1, 31, .int (nI 12)) :: zl_b)
theorem zlf_12_59 : zl_K zlo_12_59 = true := by decide +kernel
noncomputable def zlo_12_60 : zx_O := (9, 2, nI 0, .int (nI 60)) :: (2, 2, nI 63, .int (nI 1)) :: (1, 2, nI 1, .int (nI 0)) :: (0, 3, nI 0, .int (nI 1)) :: ((3, 1, 31, .int (nI 12)) :: zl_b)
theorem zlf_12_60 : zl_K zlo_12_60 = true := by decide +kernel
noncomputable def zlo_12_61 : zx_O := (9, 2, nI 0, .int (nI 61)) :: (2, 2, nI 63, .int (nI 1)) :: (1, 2, nI 1, .int (nI 0)) :: (0, 3, nI 0, .int (nI 1)) :: ((3, 1, 31, .int (nI 12)) :: zl_b)
theorem zlf_12_61 : zl_K zlo_12_61 = true := by decide +kernel
noncomputable def zlo_12_62 : zx_O := (9, 2, nI 0, .int (nI 62)) :: (2, 2, nI 63, .int (nI 1)) :: (1, 2, nI 1, .int (nI 0)) :: (0, 3, nI 0, .int (nI 1)) :: ((3, 1, 31, .int (nI 12)) :: zl_b)
theorem zlf_12_62 : zl_K zlo_12_62 = true := by decide +kernel
noncomputable def zlo_12_63 : zx_O := (9, 2, nI 0, .int (nI 63)) :: (2, 2, nI 63, .int (nI 1)) :: (1, 2, nI 1, .int (nI 0)) :: (0, 3, nI 0, .int (nI 1)) :: ((3, 1, 31, .int (nI 12)) :: zl_b)
theorem zlf_12_63 : zl_K zlo_12_63 = true := by decide +kernel
noncomputable def zlo_12_64 : zx_O := (2, 2, nI 63, .int (nI 0)) :: (1, 2, nI 1, .int (nI 0)) :: (0, 3, nI 0, .int (nI 1)) :: ((3, 1, 31, .int (nI 12)) :: zl_b)
theorem zlf_12_64 : zl_K zlo_12_64 = true := by decide +kernel
noncomputable def zlo_12_65 : zx_O := (1, 2, nI 1, .int (nI 1)) :: (0, 3, nI 0, .int (nI 0)) :: ((3, 1, 31, .int (nI 12)) :: zl_b)
theorem zlf_12_65 : zl_K zlo_12_65 = true := by decide +kernel
noncomputable def zlo_12_66 : zx_O := (9, 2, nI 0, .int (nI 1)) :: (2, 2, nI 63, .int (nI 1)) :: (1, 2, nI 1, .int (nI 0)) :: (0, 3, nI 0, .int (nI 0)) :: ((3, 1, 31, .int (nI 12)) :: zl_b)
theorem zlf_12_66 : zl_K zlo_12_66 = true := by decide +kernel
noncomputable def zlo_12_67 : zx_O := (9, 2, nI 0, .int (nI 2)) :: (2, 2, nI 63, .int (nI 1)) :: (1, 2, nI 1, .int (nI 0)) :: (0, 3, nI 0, .int (nI 0)) :: ((3, 1, 31, .int (nI 12)) :: zl_b)
theorem zlf_12_67 : zl_K zlo_12_67 = true := by decide +kernel
noncomputable def zlo_12_68 : zx_O := (9, 2, nI 0, .int (nI 3)) :: (2, 2, nI 63, .int (nI 1)) :: (1, 2, nI 1, .int (nI 0)) :: (0, 3, nI 0, .int (nI 0)) :: ((3, 1, 31, .int (nI 12)) :: zl_b)
theorem zlf_12_68 : zl_K zlo_12_68 = true := by decide +kernel
noncomputable def zlo_12_69 : zx_O := (9, 2, nI 0, .int (nI 4)) :: (2, 2, nI 63, .int (nI 1)) :: (1, 2, nI 1, .int (nI 0)) :: (0, 3, nI 0, .int (nI 0)) :: ((3, 1, 31, .int (nI 12)) :: zl_b)
theorem zlf_12_69 : zl_K zlo_12_69 = true := by decide +kernel
noncomputable def zlo_12_70 : zx_O := (9, 2, nI 0, .int (nI 5)) :: (2, 2, nI 63, .int (nI 1)) :: (1, 2, nI 1, .int (nI 0)) :: (0, 3, nI 0, .int (nI 0)) :: ((3, 1, 31, .int (nI 12)) :: zl_b)
theorem zlf_12_70 : zl_K zlo_12_70 = true := by decide +kernel
noncomputable def zlo_12_71 : zx_O := (9, 2, nI 0, .int (nI 6)) :: (2, 2, nI 63, .int (nI 1)) :: (1, 2, nI 1, .int (nI 0)) :: (0, 3, nI 0, .int (nI 0)) :: ((3, 1, 31, .int (nI 12)) :: zl_b)
theorem zlf_12_71 : zl_K zlo_12_71 = true := by decide +kernel
noncomputable def zlo_12_72 : zx_O := (9, 2, nI 0, .int (nI 7)) :: (2, 2, nI 63, .int (nI 1)) :: (1, 2, nI 1, .int (nI 0)) :: (0, 3, nI 0, .int (nI 0)) :: ((3, 1, 31, .int (nI 12)) :: zl_b)
theorem zlf_12_72 : zl_K zlo_12_72 = true := by decide +kernel
noncomputable def zlo_12_73 : zx_O := (9, 2, nI 0, .int (nI 8)) :: (2, 2, nI 63, .int (nI 1)) :: (1, 2, nI 1, .int (nI 0)) :: (0, 3, nI 0, .int (nI 0)) :: ((3, 1, 31, .int (nI 12)) :: zl_b)
theorem zlf_12_73 : zl_K zlo_12_73 = true := by decide +kernel
noncomputable def zlo_12_74 : zx_O := (9, 2, nI 0, .int (nI 9)) :: (2, 2, nI 63, .int (nI 1)) :: (1, 2, nI 1, .int (nI 0)) :: (0, 3, nI 0, .int (nI 0)) :: ((3, 1, 31, .int (nI 12)) :: zl_b)
theorem zlf_12_74 : zl_K zlo_12_74 = true := by decide +kernel
noncomputable def zlo_12_75 : zx_O := (9, 2, nI 0, .int (nI 10)) :: (2, 2, nI 63, .int (nI 1)) :: (1, 2, nI 1, .int (nI 0)) :: (0, 3, nI 0, .int (nI 0)) :: ((3, 1, 31, .int (nI 12)) :: zl_b)
theorem zlf_12_75 : zl_K zlo_12_75 = true := by decide +kernel
noncomputable def zlo_12_76 : zx_O := (9, 2, nI 0, .int (nI 11)) :: (2, 2, nI 63, .int (nI 1)) :: (1, 2, nI 1, .int (nI 0)) :: (0, 3, nI 0, .int (nI 0)) :: ((3, 1, 31, .int (nI 12)) :: zl_b)
theorem zlf_12_76 : zl_K zlo_12_76 = true := by decide +kernel
noncomputable def zlo_12_77 : zx_O := (9, 2, nI 0, .int (nI 12)) :: (2, 2, nI 63, .int (nI 1)) :: (1, 2, nI 1, .int (nI 0)) :: (0, 3, nI 0, .int (nI 0)) :: ((3, 1, 31, .int (nI 12)) :: zl_b)
theorem zlf_12_77 : zl_K zlo_12_77 = true := by decide +kernel
noncomputable def zlo_12_78 : zx_O := (9, 2, nI 0, .int (nI 13)) :: (2, 2, nI 63, .int (nI 1)) :: (1, 2, nI 1, .int (nI 0)) :: (0, 3, nI 0, .int (nI 0)) :: ((3, 1, 31, .int (nI 12)) :: zl_b)
theorem zlf_12_78 : zl_K zlo_12_78 = true := by decide +kernel
noncomputable def zlo_12_79 : zx_O := (9, 2, nI 0, .int (nI 14)) :: (2, 2, nI 63, .int (nI 1)) :: (1, 2, nI 1, .int (nI 0)) :: (0, 3, nI 0, .int (nI 0)) :: ((3, 1, 31, .int (nI 12)) :: zl_b)
theorem zlf_12_79 : zl_K zlo_12_79 = true := by decide +kernel
noncomputable def zlo_12_80 : zx_O := (9, 2, nI 0, .int (nI 15)) :: (2, 2, nI 63, .int (nI 1)) :: (1, 2, nI 1, .int (nI 0)) :: (0, 3, nI 0, .int (nI 0)) :: ((3, 1, 31, .int (nI 12)) :: zl_b)
theorem zlf_12_80 : zl_K zlo_12_80 = true := by decide +kernel
noncomputable def zlo_12_81 : zx_O := (9, 2, nI 0, .int (nI 16)) :: (2, 2, nI 63, .int (nI 1)) :: (1, 2, nI 1, .int (nI 0)) :: (0, 3, nI 0, .int (nI 0)) :: ((3, 1, 31, .int (nI 12)) :: zl_b)
theorem zlf_12_81 : zl_K zlo_12_81 = true := by decide +kernel
noncomputable def zlo_12_82 : zx_O := (9, 2, nI 0, .int (nI 17)) :: (2, 2, nI 63, .int (nI 1)) :: (1, 2, nI 1, .int (nI 0)) :: (0, 3, nI 0, .int (nI 0)) :: ((3, 1, 31, .int (nI 12)) :: zl_b)
theorem zlf_12_82 : zl_K zlo_12_82 = true := by decide +kernel
noncomputable def zlo_12_83 : zx_O := (9, 2, nI 0, .int (nI 18)) :: (2, 2, nI 63, .int (nI 1)) :: (1, 2, nI 1, .int (nI 0)) :: (0, 3, nI 0, .int (nI 0)) :: ((3, 1, 31, .int (nI 12)) :: zl_b)
theorem zlf_12_83 : zl_K zlo_12_83 = true := by decide +kernel
noncomputable def zlo_12_84 : zx_O := (9, 2, nI 0, .int (nI 19)) :: (2, 2, nI 63, .int (nI 1)) :: (1, 2, nI 1, .int (nI 0)) :: (0, 3, nI 0, .int (nI 0)) :: ((3, 1, 31, .int (nI 12)) :: zl_b)
theorem zlf_12_84 : zl_K zlo_12_84 = true := by decide +kernel
noncomputable def zlo_12_85 : zx_O := (9, 2, nI 0, .int (nI 20)) :: (2, 2, nI 63, .int (nI 1)) :: (1, 2, nI 1, .int (nI 0)) :: (0, 3, nI 0, .int (nI 0)) :: ((3, 1, 31, .int (nI 12)) :: zl_b)
theorem zlf_12_85 : zl_K zlo_12_85 = true := by decide +kernel
noncomputable def zlo_12_86 : zx_O := (9, 2, nI 0, .int (nI 21)) :: (2, 2, nI 63, .int (nI 1)) :: (1, 2, nI 1, .int (nI 0)) :: (0, 3, nI 0, .int (nI 0)) :: ((3, 1, 31, .int (nI 12)) :: zl_b)
theorem zlf_12_86 : zl_K zlo_12_86 = true := by decide +kernel
noncomputable def zlo_12_87 : zx_O := (9, 2, nI 0, .int (nI 22)) :: (2, 2, nI 63, .int (nI 1)) :: (1, 2, nI 1, .int (nI 0)) :: (0, 3, nI 0, .int (nI 0)) :: ((3, 1, 31, .int (nI 12)) :: zl_b)
theorem zlf_12_87 : zl_K zlo_12_87 = true := by decide +kernel
noncomputable def zlo_12_88 : zx_O := (9, 2, nI 0, .int (nI 23)) :: (2, 2, nI 63, .int (nI 1)) :: (1, 2, nI 1, .int (nI 0)) :: (0, 3, nI 0, .int (nI 0)) :: ((3, 1, 31, .int (nI 12)) :: zl_b)
theorem zlf_12_88 : zl_K zlo_12_88 = true := by decide +kernel
noncomputable def zlo_12_89 : zx_O := (9, 2, nI 0, .int (nI 24)) :: (2, 2, nI 63, .int (nI 1)) :: (1, 2, nI 1, .int (nI 0)) :: (0, 3, nI 0, .int (nI 0)) :: ((3, 1, 31, .int (nI 12)) :: zl_b)
theorem zlf_12_89 : zl_K zlo_12_89 = true := by decide +kernel
noncomputable def zlo_12_90 : zx_O := (9, 2, nI 0, .int (nI 25)) :: (2, 2, nI 63, .int (nI 1)) :: (1, 2, nI 1, .int (nI 0)) :: (0, 3, nI 0, .int (nI 0)) :: ((3, 1, 31, .int (nI 12)) :: zl_b)
theorem zlf_12_90 : zl_K zlo_12_90 = true := by decide +kernel
noncomputable def zlo_12_91 : zx_O := (9, 2, nI 0, .int (nI 26)) :: (2, 2, nI 63, .int (nI 1)) :: (1, 2, nI 1, .int (nI 0)) :: (0, 3, nI 0, .int (nI 0)) :: ((3, 1, 31, .int (nI 12)) :: zl_b)
theorem zlf_12_91 : zl_K zlo_12_91 = true := by decide +kernel
noncomputable def zlo_12_92 : zx_O := (9, 2, nI 0, .int (nI 27)) :: (2, 2, nI 63, .int (nI 1)) :: (1, 2, nI 1, .int (nI 0)) :: (0, 3, nI 0, .int (nI 0)) :: ((3, 1, 31, .int (nI 12)) :: zl_b)
theorem zlf_12_92 : zl_K zlo_12_92 = true := by decide +kernel
noncomputable def zlo_12_93 : zx_O := (9, 2, nI 0, .int (nI 28)) :: (2, 2, nI 63, .int (nI 1)) :: (1, 2, nI 1, .int (nI 0)) :: (0, 3, nI 0, .int (nI 0)) :: ((3, 1, 31, .int (nI 12)) :: zl_b)
theorem zlf_12_93 : zl_K zlo_12_93 = true := by decide +kernel
noncomputable def zlo_12_94 : zx_O := (9, 2, nI 0, .int (nI 29)) :: (2, 2, nI 63, .int (nI 1)) :: (1, 2, nI 1, .int (nI 0)) :: (0, 3, nI 0, .int (nI 0)) :: ((3, 1, 31, .int (nI 12)) :: zl_b)
theorem zlf_12_94 : zl_K zlo_12_94 = true := by decide +kernel
noncomputable def zlo_12_95 : zx_O := (9, 2, nI 0, .int (nI 30)) :: (2, 2, nI 63, .int (nI 1)) :: (1, 2, nI 1, .int (nI 0)) :: (0, 3, nI 0, .int (nI 0)) :: ((3, 1, 31, .int (nI 12)) :: zl_b)
theorem zlf_12_95 : zl_K zlo_12_95 = true := by decide +kernel
noncomputable def zlo_12_96 : zx_O := (9, 2, nI 0, .int (nI 31)) :: (2, 2, nI 63, .int (nI 1)) :: (1, 2, nI 1, .int (nI 0)) :: (0, 3, nI 0, .int (nI 0)) :: ((3, 1, 31, .int (nI 12)) :: zl_b)
theorem zlf_12_96 : zl_K zlo_12_96 = true := by decide +kernel
noncomputable def zlo_12_97 : zx_O := (9, 2, nI 0, .int (nI 32)) :: (2, 2, nI 63, .int (nI 1)) :: (1, 2, nI 1, .int (nI 0)) :: (0, 3, nI 0, .int (nI 0)) :: ((3, 1, 31, .int (nI 12)) :: zl_b)
theorem zlf_12_97 : zl_K zlo_12_97 = true := by decide +kernel
noncomputable def zlo_12_98 : zx_O := (9, 2, nI 0, .int (nI 33)) :: (2, 2, nI 63, .int (nI 1)) :: (1, 2, nI 1, .int (nI 0)) :: (0, 3, nI 0, .int (nI 0)) :: ((3, 1, 31, .int (nI 12)) :: zl_b)
theorem zlf_12_98 : zl_K zlo_12_98 = true := by decide +kernel
noncomputable def zlo_12_99 : zx_O := (9, 2, nI 0, .int (nI 34)) :: (2, 2, nI 63, .int (nI 1)) :: (1, 2, nI 1, .int (nI 0)) :: (0, 3, nI 0, .int (nI 0)) :: ((3, 1, 31, .int (nI 12)) :: zl_b)
theorem zlf_12_99 : zl_K zlo_12_99 = true := by decide +kernel
noncomputable def zlo_12_100 : zx_O := (9, 2, nI 0, .int (nI 35)) :: (2, 2, nI 63, .int (nI 1)) :: (1, 2, nI 1, .int (nI 0)) :: (0, 3, nI 0, .int (nI 0)) :: ((3, 1, 31, .int (nI 12)) :: zl_b)
theorem zlf_12_100 : zl_K zlo_12_100 = true := by decide +kernel
noncomputable def zlo_12_101 : zx_O := (9, 2, nI 0, .int (nI 36)) :: (2, 2, nI 63, .int (nI 1)) :: (1, 2, nI 1, .int (nI 0)) :: (0, 3, nI 0, .int (nI 0)) :: ((3, 1, 31, .int (nI 12)) :: zl_b)
theorem zlf_12_101 : zl_K zlo_12_101 = true := by decide +kernel
noncomputable def zlo_12_102 : zx_O := (9, 2, nI 0, .int (nI 37)) :: (2, 2, nI 63, .int (nI 1)) :: (1, 2, nI 1, .int (nI 0)) :: (0, 3, nI 0, .int (nI 0)) :: ((3, 1, 31, .int (nI 12)) :: zl_b)
theorem zlf_12_102 : zl_K zlo_12_102 = true := by decide +kernel
noncomputable def zlo_12_103 : zx_O := (9, 2, nI 0, .int (nI 38)) :: (2, 2, nI 63, .int (nI 1)) :: (1, 2, nI 1, .int (nI 0)) :: (0, 3, nI 0, .int (nI 0)) :: ((3, 1, 31, .int (nI 12)) :: zl_b)
theorem zlf_12_103 : zl_K zlo_12_103 = true := by decide +kernel
noncomputable def zlo_12_104 : zx_O := (9, 2, nI 0, .int (nI 39)) :: (2, 2, nI 63, .int (nI 1)) :: (1, 2, nI 1, .int (nI 0)) :: (0, 3, nI 0, .int (nI 0)) :: ((3, 1, 31, .int (nI 12)) :: zl_b)
theorem zlf_12_104 : zl_K zlo_12_104 = true := by decide +kernel
noncomputable def zlo_12_105 : zx_O := (9, 2, nI 0, .int (nI 40)) :: (2, 2, nI 63, .int (nI 1)) :: (1, 2, nI 1, .int (nI 0)) :: (0, 3, nI 0, .int (nI 0)) :: ((3, 1, 31, .int (nI 12)) :: zl_b)
theorem zlf_12_105 : zl_K zlo_12_105 = true := by decide +kernel
noncomputable def zlo_12_106 : zx_O := (9, 2, nI 0, .int (nI 41)) :: (2, 2, nI 63, .int (nI 1)) :: (1, 2, nI 1, .int (nI 0)) :: (0, 3, nI 0, .int (nI 0)) :: ((3, 1, 31, .int (nI 12)) :: zl_b)
theorem zlf_12_106 : zl_K zlo_12_106 = true := by decide +kernel
noncomputable def zlo_12_107 : zx_O := (9, 2, nI 0, .int (nI 42)) :: (2, 2, nI 63, .int (nI 1)) :: (1, 2, nI 1, .int (nI 0)) :: (0, 3, nI 0, .int (nI 0)) :: ((3, 1, 31, .int (nI 12)) :: zl_b)
theorem zlf_12_107 : zl_K zlo_12_107 = true := by decide +kernel
noncomputable def zlo_12_108 : zx_O := (9, 2, nI 0, .int (nI 43)) :: (2, 2, nI 63, .int (nI 1)) :: (1, 2, nI 1, .int (nI 0)) :: (0, 3, nI 0, .int (nI 0)) :: ((3, 1, 31, .int (nI 12)) :: zl_b)
theorem zlf_12_108 : zl_K zlo_12_108 = true := by decide +kernel
noncomputable def zlo_12_109 : zx_O := (9, 2, nI 0, .int (nI 44)) :: (2, 2, nI 63, .int (nI 1)) :: (1, 2, nI 1, .int (nI 0)) :: (0, 3, nI 0, .int (nI 0)) :: ((3, 1, 31, .int (nI 12)) :: zl_b)
theorem zlf_12_109 : zl_K zlo_12_109 = true := by decide +kernel
noncomputable def zlo_12_110 : zx_O := (9, 2, nI 0, .int (nI 45)) :: (2, 2, nI 63, .int (nI 1)) :: (1, 2, nI 1, .int (nI 0)) :: (0, 3, nI 0, .int (nI 0)) :: ((3, 1, 31, .int (nI 12)) :: zl_b)
theorem zlf_12_110 : zl_K zlo_12_110 = true := by decide +kernel
noncomputable def zlo_12_111 : zx_O := (9, 2, nI 0, .int (nI 46)) :: (2, 2, nI 63, .int (nI 1)) :: (1, 2, nI 1, .int (nI 0)) :: (0, 3, nI 0, .int (nI 0)) :: ((3, 1, 31, .int (nI 12)) :: zl_b)
theorem zlf_12_111 : zl_K zlo_12_111 = true := by decide +kernel
noncomputable def zlo_12_112 : zx_O := (9, 2, nI 0, .int (nI 47)) :: (2, 2, nI 63, .int (nI 1)) :: (1, 2, nI 1, .int (nI 0)) :: (0, 3, nI 0, .int (nI 0)) :: ((3, 1, 31, .int (nI 12)) :: zl_b)
theorem zlf_12_112 : zl_K zlo_12_112 = true := by decide +kernel
noncomputable def zlo_12_113 : zx_O := (9, 2, nI 0, .int (nI 48)) :: (2, 2, nI 63, .int (nI 1)) :: (1, 2, nI 1, .int (nI 0)) :: (0, 3, nI 0, .int (nI 0)) :: ((3, 1, 31, .int (nI 12)) :: zl_b)
theorem zlf_12_113 : zl_K zlo_12_113 = true := by decide +kernel
noncomputable def zlo_12_114 : zx_O := (9, 2, nI 0, .int (nI 49)) :: (2, 2, nI 63, .int (nI 1)) :: (1, 2, nI 1, .int (nI 0)) :: (0, 3, nI 0, .int (nI 0)) :: ((3, 1, 31, .int (nI 12)) :: zl_b)
theorem zlf_12_114 : zl_K zlo_12_114 = true := by decide +kernel
noncomputable def zlo_12_115 : zx_O := (9, 2, nI 0, .int (nI 50)) :: (2, 2, nI 63, .int (nI 1)) :: (1, 2, nI 1, .int (nI 0)) :: (0, 3, nI 0, .int (nI 0)) :: ((3, 1, 31, .int (nI 12)) :: zl_b)
theorem zlf_12_115 : zl_K zlo_12_115 = true := by decide +kernel
noncomputable def zlo_12_116 : zx_O := (9, 2, nI 0, .int (nI 51)) :: (2, 2, nI 63, .int (nI 1)) :: (1, 2, nI 1, .int (nI 0)) :: (0, 3, nI 0, .int (nI 0)) :: ((3, 1, 31, .int (nI 12)) :: zl_b)
theorem zlf_12_116 : zl_K zlo_12_116 = true := by decide +kernel
noncomputable def zlo_12_117 : zx_O := (9, 2, nI 0, .int (nI 52)) :: (2, 2, nI 63, .int (nI 1)) :: (1, 2, nI 1, .int (nI 0)) :: (0, 3, nI 0, .int (nI 0)) :: ((3, 1, 31, .int (nI 12)) :: zl_b)
theorem zlf_12_117 : zl_K zlo_12_117 = true := by decide +kernel
noncomputable def zlo_12_118 : zx_O := (9, 2, nI 0, .int (nI 53)) :: (2, 2, nI 63, .int (nI 1)) :: (1, 2, nI 1, .int (nI 0)) :: (0, 3, nI 0, .int (nI 0)) :: ((3, 1, 31, .int (nI 12)) :: zl_b)
theorem zlf_12_118 : zl_K zlo_12_118 = true := by decide +kernel
noncomputable def zlo_12_119 : zx_O := (9, 2, nI 0, .int (nI 54)) :: (2, 2, nI 63, .int (nI 1)) :: (1, 2, nI 1, .int (nI 0)) :: (0, 3, nI 0, .int (nI 0)) :: ((3, 1, 31, .int (nI 12)) :: zl_b)
theorem zlf_12_119 : zl_K zlo_12_119 = true := by decide +kernel
noncomputable def zlo_12_120 : zx_O := (9, 2, nI 0, .int (nI 55)) :: (2, 2, nI 63, .int (nI 1)) :: (1, 2, nI 1, .int (nI 0)) :: (0, 3, nI 0, .int (nI 0)) :: ((3, 1, 31, .int (nI 12)) :: zl_b)
theorem zlf_12_120 : zl_K zlo_12_120 = true := by decide +kernel
noncomputable def zlo_12_121 : zx_O := (9, 2, nI 0, .int (nI 56)) :: (2, 2, nI 63, .int (nI 1)) :: (1, 2, nI 1, .int (nI 0)) :: (0, 3, nI 0, .int (nI 0)) :: ((3, 1, 31, .int (nI 12)) :: zl_b)
theorem zlf_12_121 : zl_K zlo_12_121 = true := by decide +kernel
noncomputable def zlo_12_122 : zx_O := (9, 2, nI 0, .int (nI 57)) :: (2, 2, nI 63, .int (nI 1)) :: (1, 2, nI 1, .int (nI 0)) :: (0, 3, nI 0, .int (nI 0)) :: ((3, 1, 31, .int (nI 12)) :: zl_b)
theorem zlf_12_122 : zl_K zlo_12_122 = true := by decide +kernel
noncomputable def zlo_12_123 : zx_O := (9, 2, nI 0, .int (nI 58)) :: (2, 2, nI 63, .int (nI 1)) :: (1, 2, nI 1, .int (nI 0)) :: (0, 3, nI 0, .int (nI 0)) :: ((3, 1, 31, .int (nI 12)) :: zl_b)
theorem zlf_12_123 : zl_K zlo_12_123 = true := by decide +kernel
noncomputable def zlo_12_124 : zx_O := (9, 2, nI 0, .int (nI 59)) :: (2, 2, nI 63, .int (nI 1)) :: (1, 2, nI 1, .int (nI 0)) :: (0, 3, nI 0, .int (nI 0)) :: ((3, 1, 31, .int (nI 12)) :: zl_b)
theorem zlf_12_124 : zl_K zlo_12_124 = true := by decide +kernel
noncomputable def zlo_12_125 : zx_O := (9, 2, nI 0, .int (nI 60)) :: (2, 2, nI 63, .int (nI 1)) :: (1, 2, nI 1, .int (nI 0)) :: (0, 3, nI 0, .int (nI 0)) :: ((3, 1, 31, .int (nI 12)) :: zl_b)
theorem zlf_12_125 : zl_K zlo_12_125 = true := by decide +kernel
noncomputable def zlo_12_126 : zx_O := (9, 2, nI 0, .int (nI 61)) :: (2, 2, nI 63, .int (nI 1)) :: (1, 2, nI 1, .int (nI 0)) :: (0, 3, nI 0, .int (nI 0)) :: ((3, 1, 31, .int (nI 12)) :: zl_b)
theorem zlf_12_126 : zl_K zlo_12_126 = true := by decide +kernel
noncomputable def zlo_12_127 : zx_O := (9, 2, nI 0, .int (nI 62)) :: (2, 2, nI 63, .int (nI 1)) :: (1, 2, nI 1, .int (nI 0)) :: (0, 3, nI 0, .int (nI 0)) :: ((3, 1, 31, .int (nI 12)) :: zl_b)
theorem zlf_12_127 : zl_K zlo_12_127 = true := by decide +kernel
noncomputable def zlo_12_128 : zx_O := (9, 2, nI 0, .int (nI 63)) :: (2, 2, nI 63, .int (nI 1)) :: (1, 2, nI 1, .int (nI 0)) :: (0, 3, nI 0, .int (nI 0)) :: ((3, 1, 31, .int (nI 12)) :: zl_b)
theorem zlf_12_128 : zl_K zlo_12_128 = true := by decide +kernel
noncomputable def zlo_12_129 : zx_O := (2, 2, nI 63, .int (nI 0)) :: (1, 2, nI 1, .int (nI 0)) :: (0, 3, nI 0, .int (nI 0)) :: ((3, 1, 31, .int (nI 12)) :: zl_b)
theorem zlf_12_129 : zl_K zlo_12_129 = true := by decide +kernel
noncomputable def zlo_12 : List zx_O := [zlo_12_0, zlo_12_1, zlo_12_2, zlo_12_3, zlo_12_4, zlo_12_5, zlo_12_6, zlo_12_7, zlo_12_8, zlo_12_9, zlo_12_10, zlo_12_11, zlo_12_12, zlo_12_13, zlo_12_14, zlo_12_15, zlo_12_16, zlo_12_17, zlo_12_18, zlo_12_19, zlo_12_20, zlo_12_21, zlo_12_22, zlo_12_23, zlo_12_24, zlo_12_25, zlo_12_26, zlo_12_27, zlo_12_28, zlo_12_29, zlo_12_30, zlo_12_31, zlo_12_32, zlo_12_33, zlo_12_34, zlo_12_35, zlo_12_36, zlo_12_37, zlo_12_38, zlo_12_39, zlo_12_40, zlo_12_41, zlo_12_42, zlo_12_43, zlo_12_44, zlo_12_45, zlo_12_46, zlo_12_47, zlo_12_48, zlo_12_49, zlo_12_50, zlo_12_51, zlo_12_52, zlo_12_53, zlo_12_54, zlo_12_55, zlo_12_56, zlo_12_57, zlo_12_58, zlo_12_59, zlo_12_60, zlo_12_61, zlo_12_62, zlo_12_63, zlo_12_64, zlo_12_65, zlo_12_66, zlo_12_67, zlo_12_68, zlo_12_69, zlo_12_70, zlo_12_71, zlo_12_72, zlo_12_73, zlo_12_74, zlo_12_75, zlo_12_76, zlo_12_77, zlo_12_78, zlo_12_79, zlo_12_80, zlo_12_81, zlo_12_82, zlo_12_83, zlo_12_84, zlo_12_85, zlo_12_86, zlo_12_87, zlo_12_88, zlo_12_89, zlo_12_90, zlo_12_91, zlo_12_92, zlo_12_93, zlo_12_94, zlo_12_95, zlo_12_96, zlo_12_97, zlo_12_98, zlo_12_99, zlo_12_100, zlo_12_101, zlo_12_102, zlo_12_103, zlo_12_104, zlo_12_105, zlo_12_106, zlo_12_107, zlo_12_108, zlo_12_109, zlo_12_110, zlo_12_111, zlo_12_112, zlo_12_113, zlo_12_114, zlo_12_115, zlo_12_116, zlo_12_117, zlo_12_118, zlo_12_119, zlo_12_120, zlo_12_121, zlo_12_122, zlo_12_123, zlo_12_124, zlo_12_125, zlo_12_126, zlo_12_127, zlo_12_128, zlo_12_129]
theorem zlf_12 : ∀ o ∈ zlo_12, zl_K o = true := List.forall_mem_cons.mpr ⟨zlf_12_0, List.forall_mem_cons.mpr ⟨zlf_12_1, List.forall_mem_cons.mpr ⟨zlf_12_2, List.forall_mem_cons.mpr ⟨zlf_12_3, List.forall_mem_cons.mpr ⟨zlf_12_4, List.forall_mem_cons.mpr ⟨zlf_12_5, List.forall_mem_cons.mpr ⟨zlf_12_6, List.forall_mem_cons.mpr ⟨zlf_12_7, List.forall_mem_cons.mpr ⟨zlf_12_8, List.forall_mem_cons.mpr ⟨zlf_12_9, List.forall_mem_cons.mpr ⟨zlf_12_10, List.forall_mem_cons.mpr ⟨zlf_12_11, List.forall_mem_cons.mpr ⟨zlf_12_12, List.forall_mem_cons.mpr ⟨zlf_12_13, List.forall_mem_cons.mpr ⟨zlf_12_14, List.forall_mem_cons.mpr ⟨zlf_12_15, List.forall_mem_cons.mpr ⟨zlf_12_16, List.forall_mem_cons.mpr ⟨zlf_12_17, List.forall_mem_cons.mpr ⟨zlf_12_18, List.forall_mem_cons.mpr ⟨zlf_12_19, List.forall_mem_cons.mpr ⟨zlf_12_20, List.forall_mem_cons.mpr ⟨zlf_12_21, List.forall_mem_cons.mpr ⟨zlf_12_22, List.forall_mem_cons.mpr ⟨zlf_12_23, List.forall_mem_cons.mpr ⟨zlf_12_24, List.forall_mem_cons.mpr ⟨zlf_12_25, List.forall_mem_cons.mpr ⟨zlf_12_26, List.forall_mem_cons.mpr ⟨zlf_12_27, List.forall_mem_cons.mpr ⟨zlf_12_28, List.forall_mem_cons.mpr ⟨zlf_12_29, List.forall_mem_cons.mpr ⟨zlf_12_30, List.forall_mem_cons.mpr ⟨zlf_12_31, List.forall_mem_cons.mpr ⟨zlf_12_32, List.forall_mem_cons.mpr ⟨zlf_12_33, List.forall_mem_cons.mpr ⟨zlf_12_34, List.forall_mem_cons.mpr ⟨zlf_12_35, List.forall_mem_cons.mpr ⟨zlf_12_36, List.forall_mem_cons.mpr ⟨zlf_12_37, List.forall_mem_cons.mpr ⟨zlf_12_38, List.forall_mem_cons.mpr ⟨zlf_12_39, List.forall_mem_cons.mpr ⟨zlf_12_40, List.forall_mem_cons.mpr ⟨zlf_12_41, List.forall_mem_cons.mpr ⟨zlf_12_42, List.forall_mem_cons.mpr ⟨zlf_12_43, List.forall_mem_cons.mpr ⟨zlf_12_44, List.forall_mem_cons.mpr ⟨zlf_12_45, List.forall_mem_cons.mpr ⟨zlf_12_46, List.forall_mem_cons.mpr ⟨zlf_12_47, List.forall_mem_cons.mpr ⟨zlf_12_48, List.forall_mem_cons.mpr ⟨zlf_12_49, List.forall_mem_cons.mpr ⟨zlf_12_50, List.forall_mem_cons.mpr ⟨zlf_12_51, List.forall_mem_cons.mpr ⟨zlf_12_52, List.forall_mem_cons.mpr ⟨zlf_12_53, List.forall_mem_cons.mpr ⟨zlf_12_54, List.forall_mem_cons.mpr ⟨zlf_12_55, List.forall_mem_cons.mpr ⟨zlf_12_56, List.forall_mem_cons.mpr ⟨zlf_12_57, List.forall_mem_cons.mpr ⟨zlf_12_58, List.forall_mem_cons.mpr ⟨zlf_12_59, List.forall_mem_cons.mpr ⟨zlf_12_60, List.forall_mem_cons.mpr ⟨zlf_12_61, List.forall_mem_cons.mpr ⟨zlf_12_62, List.forall_mem_cons.mpr ⟨zlf_12_63, List.forall_mem_cons.mpr ⟨zlf_12_64, List.forall_mem_cons.mpr ⟨zlf_12_65, List.forall_mem_cons.mpr ⟨zlf_12_66, List.forall_mem_cons.mpr ⟨zlf_12_67, List.forall_mem_cons.mpr ⟨zlf_12_68, List.forall_mem_cons.mpr ⟨zlf_12_69, List.forall_mem_cons.mpr ⟨zlf_12_70, List.forall_mem_cons.mpr ⟨zlf_12_71, List.forall_mem_cons.mpr ⟨zlf_12_72, List.forall_mem_cons.mpr ⟨zlf_12_73, List.forall_mem_cons.mpr ⟨zlf_12_74, List.forall_mem_cons.mpr ⟨zlf_12_75, List.forall_mem_cons.mpr ⟨zlf_12_76, List.forall_mem_cons.mpr ⟨zlf_12_77, List.forall_mem_cons.mpr ⟨zlf_12_78, List.forall_mem_cons.mpr ⟨zlf_12_79, List.forall_mem_cons.mpr ⟨zlf_12_80, List.forall_mem_cons.mpr ⟨zlf_12_81, List.forall_mem_cons.mpr ⟨zlf_12_82, List.forall_mem_cons.mpr ⟨zlf_12_83, List.forall_mem_cons.mpr ⟨zlf_12_84, List.forall_mem_cons.mpr ⟨zlf_12_85, List.forall_mem_cons.mpr ⟨zlf_12_86, List.forall_mem_cons.mpr ⟨zlf_12_87, List.forall_mem_cons.mpr ⟨zlf_12_88, List.forall_mem_cons.mpr ⟨zlf_12_89, List.forall_mem_cons.mpr ⟨zlf_12_90, List.forall_mem_cons.mpr ⟨zlf_12_91, List.forall_mem_cons.mpr ⟨zlf_12_92, List.forall_mem_cons.mpr ⟨zlf_12_93, List.forall_mem_cons.mpr ⟨zlf_12_94, List.forall_mem_cons.mpr ⟨zlf_12_95, List.forall_mem_cons.mpr ⟨zlf_12_96, List.forall_mem_cons.mpr ⟨zlf_12_97, List.forall_mem_cons.mpr ⟨zlf_12_98, List.forall_mem_cons.mpr ⟨zlf_12_99, List.forall_mem_cons.mpr ⟨zlf_12_100, List.forall_mem_cons.mpr ⟨zlf_12_101, List.forall_mem_cons.mpr ⟨zlf_12_102, List.forall_mem_cons.mpr ⟨zlf_12_103, List.forall_mem_cons.mpr ⟨zlf_12_104, List.forall_mem_cons.mpr ⟨zlf_12_105, List.forall_mem_cons.mpr ⟨zlf_12_106, List.forall_mem_cons.mpr ⟨zlf_12_107, List.forall_mem_cons.mpr ⟨zlf_12_108, List.forall_mem_cons.mpr ⟨zlf_12_109, List.forall_mem_cons.mpr ⟨zlf_12_110, List.forall_mem_cons.mpr ⟨zlf_12_111, List.forall_mem_cons.mpr ⟨zlf_12_112, List.forall_mem_cons.mpr ⟨zlf_12_113, List.forall_mem_cons.mpr ⟨zlf_12_114, List.forall_mem_cons.mpr ⟨zlf_12_115, List.forall_mem_cons.mpr ⟨zlf_12_116, List.forall_mem_cons.mpr ⟨zlf_12_117, List.forall_mem_cons.mpr ⟨zlf_12_118, List.forall_mem_cons.mpr ⟨zlf_12_119, List.forall_mem_cons.mpr ⟨zlf_12_120, List.forall_mem_cons.mpr ⟨zlf_12_121, List.forall_mem_cons.mpr ⟨zlf_12_122, List.forall_mem_cons.mpr ⟨zlf_12_123, List.forall_mem_cons.mpr ⟨zlf_12_124, List.forall_mem_cons.mpr ⟨zlf_12_125, List.forall_mem_cons.mpr ⟨zlf_12_126, List.forall_mem_cons.mpr ⟨zlf_12_127, List.forall_mem_cons.mpr ⟨zlf_12_128, List.forall_mem_cons.mpr ⟨zlf_12_129,  fun _ h => absurd h List.not_mem_nil⟩⟩⟩⟩⟩⟩⟩⟩⟩⟩⟩⟩⟩⟩⟩⟩⟩⟩⟩⟩⟩⟩⟩⟩⟩⟩⟩⟩⟩⟩⟩⟩⟩⟩⟩⟩⟩⟩⟩⟩⟩⟩⟩⟩⟩⟩⟩⟩⟩⟩⟩⟩⟩⟩⟩⟩⟩⟩⟩⟩⟩⟩⟩⟩⟩⟩⟩⟩⟩⟩⟩⟩⟩⟩⟩⟩⟩⟩⟩⟩⟩⟩⟩⟩⟩⟩⟩⟩⟩⟩⟩⟩⟩⟩⟩⟩⟩⟩⟩⟩⟩⟩⟩⟩⟩⟩⟩⟩⟩⟩⟩⟩⟩⟩⟩⟩⟩⟩⟩⟩⟩⟩⟩⟩⟩⟩⟩⟩⟩⟩
theorem zl_op_12 : zl_some (zl_chk (zk_any zlo_12) 100 zl_t_12 ((3, 1, 31, .int (nI 12)) :: zl_b)) = true := by decide +kernel
