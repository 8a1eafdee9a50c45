/-! ===== all that may be told, by its sort ===== -/
noncomputable def zc_b (T : zx_Tr zt_C) (WD : List zw_D) (j : ze_J) : ze_S → Option (List ze_S) := match j with
  | (1, ks, es, _) => ze_ga ks es
  | (2, i :: k :: _, _, _) => ze_lk T i k
  | (3, a :: _, _, _) => ze_op a
  | (4, a :: _, _, _) => ze_sl a
  | (5, _, e :: _, _) => zc_sp e
  | (6, q :: _, e :: _, _) => zc_rd q e
  | (7, k :: q2 :: q1 :: _, e :: x :: i :: v :: _, _) => zc_up k q2 q1 e x i v
  | (8, q :: _, a :: x :: b :: y :: _, _) => zc_sm q a x b y
  | (9, w :: c :: _, t :: vs, p :: _) => zc_is WD w c p.2.1 p.2.2 t vs
  | (10, _, _, _) => zc_dd
  | (11, m :: _, e :: _, _) => zc_md m e
  | (12, _, a :: b :: _, _) => zc_vr a b
  | (13, i :: k :: _, _, _) => zc_pm i k
  | (14, g :: _, e :: _, _) => zc_gi g e
  | (15, g :: q :: _, _, _) => zc_gr g q
  | (16, _, _, _) => zc_g0
  | (17, q :: _, e :: x :: _, _) => zc_gu q e x
  | (18, ids, _, _) => ze_dp ids
  | _ => fun _ => none
theorem zc_b_in {WD : List zw_D} {T : zx_Tr zt_C} {K0 : Nat} (j : ze_J) : ze_cov (zw_Z WD) T K0 (zc_b T WD j) := by
  unfold zc_b
  split
  · exact ze_ga_in
  · exact ze_lk_in
  · exact ze_op_in
  · exact ze_sl_in (zw_Zk WD)
  · exact zc_sp_in
  · exact zc_rd_in
  · exact zc_up_in
  · exact zc_sm_in
  · exact zc_is_in
  · exact zc_dd_in
  · exact zc_md_in
  · exact zc_vr_in
  · exact zc_pm_in
  · exact zc_gi_in
  · exact zc_gr_in
  · exact zc_g0_in
  · exact zc_gu_in
  · exact ze_dp_in
  · intro S l r R L st h hk hg hA
    cases hA
noncomputable def zc_G (T : zx_Tr zt_C) (WD : List zw_D) : ze_W := fun j s S => match j with
  | (20, w :: _, _, p :: _) => zc_al WD (zc_b T WD) w p.2.1 p.2.2 s S
  | j => match zc_b T WD j S with
    | none => none
    | some l => some (l, s)
theorem zc_G_in {WD : List zw_D} {T : zx_Tr zt_C} {K0 : Nat} : ze_gc (zw_Z WD) T K0 (zc_G T WD) := by
  intro j s S l s2 r R L st h hk hg hA
  unfold zc_G at hA
  split at hA
  · exact zc_al_in (fun j => zc_b_in j) hk hg hA
  · split at hA
    · cases hA
    · next l2 e1 =>
      cases hA
      exact zc_b_in _ S l r R L st h hk hg e1
