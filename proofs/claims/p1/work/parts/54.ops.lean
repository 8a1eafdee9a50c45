def zl_t_15 : List zl_T := [(7, 0, 0, 0)]
theorem zl_op_15 : zl_some (zl_chk zl_K 100 zl_t_15 ((3, 1, 31, .int (nI 15)) :: zl_b)) = true := by decide +kernel
