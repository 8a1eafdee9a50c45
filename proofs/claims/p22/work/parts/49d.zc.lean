/-! ===== what may be told, the frequent sorts first; rules that look at a few facts alone ===== -/
noncomputable def zq_hn (l : List Nat) : Nat := List.rec (motive := fun _ => Nat) 0 (fun a _ _ => a) l
noncomputable def zq_tn (l : List Nat) : List Nat := List.rec (motive := fun _ => List Nat) [] (fun _ t _ => t) l
noncomputable def zq_he (l : List zt_E) : zt_E := List.rec (motive := fun _ => zt_E) (0, []) (fun a _ _ => a) l
noncomputable def zq_te (l : List zt_E) : List zt_E := List.rec (motive := fun _ => List zt_E) [] (fun _ t _ => t) l
noncomputable def zq_hp (l : List ze_P) : ze_P := List.rec (motive := fun _ => ze_P) (0, [], []) (fun a _ _ => a) l
theorem zc_brc {Z : ze_Z} {T : zx_Tr zt_C} {K0 : Nat} {A B : ze_S → Option (List ze_S)} {c : Bool} (hA : ze_cov Z T K0 A) (hB : ze_cov Z T K0 B) : ze_cov Z T K0 (Bool.rec (motive := fun _ => ze_S → Option (List ze_S)) B A c) := by
  cases c with
  | true => exact hA
  | false => exact hB
noncomputable def zc_b8 (T : zx_Tr zt_C) (C : List (Nat × zx_Tr Int)) (WD : List zw_D) (j : ze_J) : ze_S → Option (List ze_S) := (Bool.rec (motive := fun _ => ze_S → Option (List ze_S)) (Bool.rec (motive := fun _ => ze_S → Option (List ze_S)) (Bool.rec (motive := fun _ => ze_S → Option (List ze_S)) (Bool.rec (motive := fun _ => ze_S → Option (List ze_S)) (Bool.rec (motive := fun _ => ze_S → Option (List ze_S)) (Bool.rec (motive := fun _ => ze_S → Option (List ze_S)) (Bool.rec (motive := fun _ => ze_S → Option (List ze_S)) (Bool.rec (motive := fun _ => ze_S → Option (List ze_S)) (Bool.rec (motive := fun _ => ze_S → Option (List ze_S)) (Bool.rec (motive := fun _ => ze_S → Option (List ze_S)) (Bool.rec (motive := fun _ => ze_S → Option (List ze_S)) (Bool.rec (motive := fun _ => ze_S → Option (List ze_S)) (Bool.rec (motive := fun _ => ze_S → Option (List ze_S)) (Bool.rec (motive := fun _ => ze_S → Option (List ze_S)) (Bool.rec (motive := fun _ => ze_S → Option (List ze_S)) (Bool.rec (motive := fun _ => ze_S → Option (List ze_S)) (Bool.rec (motive := fun _ => ze_S → Option (List ze_S)) (zc_b7 T C WD j) (zc_sm (zq_hn j.2.1) (zq_he j.2.2.1) (zq_he (zq_te j.2.2.1)) (zq_he (zq_te (zq_te j.2.2.1))) (zq_he (zq_te (zq_te (zq_te j.2.2.1))))) (Nat.beq j.1 8)) (zc_rd (zq_hn j.2.1) (zq_he j.2.2.1)) (Nat.beq j.1 6)) (zc_up (zq_hn j.2.1) (zq_hn (zq_tn j.2.1)) (zq_hn (zq_tn (zq_tn j.2.1))) (zq_he j.2.2.1) (zq_he (zq_te j.2.2.1)) (zq_he (zq_te (zq_te j.2.2.1))) (zq_he (zq_te (zq_te (zq_te j.2.2.1))))) (Nat.beq j.1 7)) (zc_is WD (zq_hn j.2.1) (zq_hn (zq_tn j.2.1)) (zq_hp j.2.2.2).2.1 (zq_hp j.2.2.2).2.2 (zq_he j.2.2.1) (zq_te j.2.2.1)) (Nat.beq j.1 9)) (zc_la T (zq_hn j.2.1) (zq_he j.2.2.1)) (Nat.beq j.1 19)) (ze_sl (zq_hn j.2.1)) (Nat.beq j.1 4)) (zm_kw (zq_hn j.2.1)) (Nat.beq j.1 29)) (zc_sp (zq_he j.2.2.1)) (Nat.beq j.1 5)) (ze_op (zq_hn j.2.1)) (Nat.beq j.1 3)) (zc_vr (zq_he j.2.2.1) (zq_he (zq_te j.2.2.1))) (Nat.beq j.1 12)) (ze_lk T (zq_hn j.2.1) (zq_hn (zq_tn j.2.1))) (Nat.beq j.1 2)) (zc_cr T C (zq_hn j.2.1) (zq_hn (zq_tn j.2.1))) (Nat.beq j.1 27)) (zc_dd) (Nat.beq j.1 10)) (zm_kL (zq_hn j.2.1)) (Nat.beq j.1 31)) (zm_kq (zq_hn j.2.1)) (Nat.beq j.1 30)) (ze_ga j.2.1 j.2.2.1) (Nat.beq j.1 1)) (zm_kf (zq_hn j.2.1)) (Nat.beq j.1 28))
theorem zc_b8_in {WD : List zw_D} {T : zx_Tr zt_C} {C : List (Nat × zx_Tr Int)} {K0 : Nat} (hC : zc_call T C = true) (j : ze_J) : ze_cov (zw_Z WD) T K0 (zc_b8 T C WD j) := (zc_brc (zm_kf_in) (zc_brc (ze_ga_in) (zc_brc (zm_kq_in) (zc_brc (zm_kL_in) (zc_brc (zc_dd_in) (zc_brc (zc_cr_in hC) (zc_brc (ze_lk_in) (zc_brc (zc_vr_in) (zc_brc (ze_op_in) (zc_brc (zc_sp_in) (zc_brc (zm_kw_in) (zc_brc (ze_sl_in (zw_Zk WD)) (zc_brc (zc_la_in) (zc_brc (zc_is_in) (zc_brc (zc_up_in) (zc_brc (zc_rd_in) (zc_brc (zc_sm_in) (zc_b7_in hC j))))))))))))))))))
noncomputable def zc_b9 (T : zx_Tr zt_C) (C : List (Nat × zx_Tr Int)) (WD : List zw_D) (j : ze_J) : ze_S → Option (List ze_S) := Bool.rec (motive := fun _ => ze_S → Option (List ze_S)) (zc_b8 T C WD j) (zh_c (zq_hn j.2.1) (zq_hn (zq_tn j.2.1)) (zc_b8 T C WD (Nat.sub j.1 64, zq_tn (zq_tn j.2.1), j.2.2))) (Nat.ble 64 j.1)
theorem zc_b9_in {WD : List zw_D} {T : zx_Tr zt_C} {C : List (Nat × zx_Tr Int)} {K0 : Nat} (hC : zc_call T C = true) (j : ze_J) : ze_cov (zw_Z WD) T K0 (zc_b9 T C WD j) := zc_brc (zh_c_in (zc_b8_in hC _)) (zc_b8_in hC j)
noncomputable def zc_G8 (T : zx_Tr zt_C) (C : List (Nat × zx_Tr Int)) (WD : List zw_D) : ze_W := fun j s S => Bool.rec (motive := fun _ => Option (List ze_S × List ze_J)) (Option.rec (motive := fun _ => Option (List ze_S × List ze_J)) none (fun l => some (l, s)) (zc_b9 T C WD j S)) (zc_au WD (zc_b9 T C WD) (zq_hn j.2.1) (zq_hp j.2.2.2).2.1 (zq_hp j.2.2.2).2.2 s S) (Nat.beq j.1 20)
theorem zc_G8_in {WD : List zw_D} {T : zx_Tr zt_C} {C : List (Nat × zx_Tr Int)} {K0 : Nat} (hC : zc_call T C = true) : ze_gc (zw_Z WD) T K0 (zc_G8 T C WD) := by
  intro j s S l s2 r R L st h hk hg hA
  unfold zc_G8 at hA
  cases e : Nat.beq j.1 20 with
  | true =>
    rw [e] at hA
    exact zc_au_in (fun j => zc_b9_in hC j) hk hg hA
  | false =>
    rw [e] at hA
    have hA2 : Option.rec (motive := fun _ => Option (List ze_S × List ze_J)) none (fun l => some (l, s)) (zc_b9 T C WD j S) = some (l, s2) := hA
    cases e1 : zc_b9 T C WD j S with
    | none =>
      rw [e1] at hA2
      exact nomatch hA2
    | some l2 =>
      rw [e1] at hA2
      have h3 : (l2, s) = (l, s2) := Option.some.inj hA2
      rw [← (Prod.mk.inj h3).1]
      exact zc_b9_in hC j S l2 r R L st h hk hg e1
