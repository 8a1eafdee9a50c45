/-! ===== a place of a row looked at, its index a linear thing ===== -/
noncomputable def zc_la (T : zx_Tr zt_C) (i : Nat) (e : zt_E) (S : ze_S) : Option (List ze_S) := match zt_fo i e S.1.2.2.2.1 with
  | some _ => some [S]
  | none => match zx_g10 T i with
    | some (.inr x) => match zt_ltb S.1.1 e.2 && (zt_ge S.1.2.2.2.2 e && zt_ge S.1.2.2.2.2 (zt_sub (zt_k ((x.2.1 : Int) - 1)) e)) with
      | false => none
      | true => match zt_ld 0 i e (zt_rye x.2.2 e) S.1.2.2.1 S.1 with
        | none => none
        | some l => some (ze_tls S.2 l)
    | _ => none
theorem zc_la_in {Z : ze_Z} {T : zx_Tr zt_C} {K0 i : Nat} {e : zt_E} : ze_cov Z T K0 (zc_la T i e) := by
  intro S l r R L st h hk hg hA
  unfold zc_la at hA
  split at hA
  · cases hA
    exact ⟨S, List.mem_cons_self, r, R, fun _ _ => rfl, fun _ _ => rfl, Nat.le_refl _, Nat.le_refl _, hg⟩
  · split at hA
    · next x e3 =>
      split at hA
      · cases hA
      · next e4 =>
        simp only [Bool.and_eq_true] at e4
        obtain ⟨e4, e5, e6⟩ := e4
        split at hA
        · cases hA
        · next l2 e2 =>
          cases hA
          obtain ⟨-, d, u, c1, -, c2⟩ := hk i _ e3
          have g1 := zt_ge_in hg.1.1 e5
          have g2 := zt_ge_in hg.1.1 e6
          rw [zt_sub_ev, zt_k_ev] at g2
          have hj : (((zt_ev r e).toNat : Nat) : Int) = zt_ev r e := Int.toNat_of_nonneg g1
          have hlt : (zt_ev r e).toNat < x.2.1 := by omega
          have hat : zt_at h i (zt_ev r e).toNat = some (zx_rd d u (zt_ev r e).toNat) := by
            unfold zt_at
            rw [c1]
          obtain ⟨q, g1, g2, g3, r2, g4, g5⟩ := zt_ld_in hg.1 hg.1.2.2.1 hg.1.2.2.2.2.2.1 (zt_ltb_in e4) hj hat (zt_rye_in hj (c2 _ hlt)) e2
          exact ⟨_, ze_tls_in g1, r2, R, g4, fun _ _ => rfl, g3, Nat.le_refl _, zt_tl_in g5, ze_x_eq (n := S.1.1) g4 (fun _ _ => rfl) hg.2.2 hg.2.1, ze_wx_mono g3 hg.2.2⟩
    · cases hA
noncomputable def zc_b2 (T : zx_Tr zt_C) (WD : List zw_D) (j : ze_J) : ze_S → Option (List ze_S) := match j with
  | (19, i :: _, e :: _, _) => zc_la T i e
  | j => zc_b T WD j
theorem zc_b2_in {WD : List zw_D} {T : zx_Tr zt_C} {K0 : Nat} (j : ze_J) : ze_cov (zw_Z WD) T K0 (zc_b2 T WD j) := by
  unfold zc_b2
  split
  · exact zc_la_in
  · exact zc_b_in _
noncomputable def zc_G2 (T : zx_Tr zt_C) (WD : List zw_D) : ze_W := fun j s S => match j with
  | (20, w :: _, _, p :: _) => zc_al WD (zc_b2 T WD) w p.2.1 p.2.2 s S
  | j => match zc_b2 T WD j S with
    | none => none
    | some l => some (l, s)
theorem zc_G2_in {WD : List zw_D} {T : zx_Tr zt_C} {K0 : Nat} : ze_gc (zw_Z WD) T K0 (zc_G2 T WD) := by
  intro j s S l s2 r R L st h hk hg hA
  unfold zc_G2 at hA
  split at hA
  · exact zc_al_in (fun j => zc_b2_in j) hk hg hA
  · split at hA
    · cases hA
    · next l2 e1 =>
      cases hA
      exact zc_b2_in _ S l r R L st h hk hg e1
