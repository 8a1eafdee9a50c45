/-! ===== numbers with a mark of their own: the kernel tells big numbers apart by their low 64 bits alone ===== -/
noncomputable def zp_Tz (N : Nat) : ze_T := zp_T (Nat.div N 18446744073709551616)
noncomputable def zp_Kz (N : Nat) : ze_K := zp_K (Nat.div N 18446744073709551616)
noncomputable def zp_jz (l : List Nat) : List ze_J := List.rec (motive := fun _ => List ze_J) [] (fun N _ ih => zp_js 100000 ih (Nat.div N 18446744073709551616)) l
