def zl_t_14 : List zl_T := [(7, 0, 0, 0)]
theorem zl_op_14 : zl_some (zl_chk zl_K 100 zl_t_14 ((3, 1, 31, .int (nI 14)) :: zl_b)) = true := by decide +kernel
