def zl_t_2 : List zl_T := [(1, 2, nI 0, 0), (7, 0, 0, 0), (1, 2, nI 6, 0), (5, 2, nI 0, 6), (7, 0, 0, 0), (7, 0, 0, 0), (7, 0, 0, 0), (7, 0, 0, 0), (7, 0, 0, 0), (7, 0, 0, 0), (7, 0, 0, 0)]
noncomputable def zlo_2_0 : zx_O := (1, 2, nI 0, .int (nI 1)) :: ((3, 1, 31, .int (nI 2)) :: zl_b)
theorem zlf_2_0 : zl_K zlo_2_0 = true := by decide +kernel
noncomputable def zlo_2_1 : zx_O := (9, 2, nI 0, .int (nI 0)) :: (1, 2, nI 6, .int (nI 1)) :: (1, 2, nI 0, .int (nI 0)) :: ((3, 1, 31, .int (nI 2)) :: zl_b)
theorem zlf_2_1 : zl_K zlo_2_1 = true := by decide +kernel
noncomputable def zlo_2_2 : zx_O := (9, 2, nI 0, .int (nI 1)) :: (1, 2, nI 6, .int (nI 1)) :: (1, 2, nI 0, .int (nI 0)) :: ((3, 1, 31, .int (nI 2)) :: zl_b)
theorem zlf_2_2 : zl_K zlo_2_2 = true := by decide +kernel
noncomputable def zlo_2_3 : zx_O := (9, 2, nI 0, .int (nI 2)) :: (1, 2, nI 6, .int (nI 1)) :: (1, 2, nI 0, .int (nI 0)) :: ((3, 1, 31, .int (nI 2)) :: zl_b)
theorem zlf_2_3 : zl_K zlo_2_3 = true := by decide +kernel
noncomputable def zlo_2_4 : zx_O := (9, 2, nI 0, .int (nI 3)) :: (1, 2, nI 6, .int (nI 1)) :: (1, 2, nI 0, .int (nI 0)) :: ((3, 1, 31, .int (nI 2)) :: zl_b)
theorem zlf_2_4 : zl_K zlo_2_4 = true := by decide +kernel
noncomputable def zlo_2_5 : zx_O := (9, 2, nI 0, .int (nI 4)) :: (1, 2, nI 6, .int (nI 1)) :: (1, 2, nI 0, .int (nI 0)) :: ((3, 1, 31, .int (nI 2)) :: zl_b)
theorem zlf_2_5 : zl_K zlo_2_5 = true := by decide +kernel
noncomputable def zlo_2_6 : zx_O := (9, 2, nI 0, .int (nI 5)) :: (1, 2, nI 6, .int (nI 1)) :: (1, 2, nI 0, .int (nI 0)) :: ((3, 1, 31, .int (nI 2)) :: zl_b)
theorem zlf_2_6 : zl_K zlo_2_6 = true := by decide +kernel
noncomputable def zlo_2_7 : zx_O := (1, 2, nI 6, .int (nI 0)) :: (1, 2, nI 0, .int (nI 0)) :: ((3, 1, 31, .int (nI 2)) :: zl_b)
theorem zlf_2_7 : zl_K zlo_2_7 = true := by decide +kernel
noncomputable def zlo_2 : List zx_O := [zlo_2_0, zlo_2_1, zlo_2_2, zlo_2_3, zlo_2_4, zlo_2_5, zlo_2_6, zlo_2_7]
theorem zlf_2 : ∀ o ∈ zlo_2, zl_K o = true := List.forall_mem_cons.mpr ⟨zlf_2_0, List.forall_mem_cons.mpr ⟨zlf_2_1, List.forall_mem_cons.mpr ⟨zlf_2_2, List.forall_mem_cons.mpr ⟨zlf_2_3, List.forall_mem_cons.mpr ⟨zlf_2_4, List.forall_mem_cons.mpr ⟨zlf_2_5, List.forall_mem_cons.mpr ⟨zlf_2_6, List.forall_mem_cons.mpr ⟨zlf_2_7,  fun _ h => absurd h List.not_mem_nil⟩⟩⟩⟩⟩⟩⟩⟩
theorem zl_op_2 : zl_some (zl_chk (zk_any zlo_2) 100 zl_t_2 ((3, 1, 31, .int (nI 2)) :: zl_b)) = true := by decide +kernel
