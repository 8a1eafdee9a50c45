/-! ===== facts and words kept by a mask ===== -/
noncomputable def zm_kf (m : Nat) (S : ze_S) : Option (List ze_S) := some [((S.1.1, S.1.2.1, S.1.2.2.1, S.1.2.2.2.1, zm_kp S.1.2.2.2.2 m), S.2)]
theorem zm_kf_in {Z : ze_Z} {T : zx_Tr zt_C} {K0 m : Nat} : ze_cov Z T K0 (zm_kf m) := by
  intro S l r R L st h hk hg hA
  cases hA
  obtain ⟨⟨g1, g2, g3, g4, g5, g6, g7, g8⟩, hx⟩ := hg
  exact ⟨_, List.mem_cons_self, r, R, fun _ _ => rfl, fun _ _ => rfl, Nat.le_refl _, Nat.le_refl _, ⟨fun f hm => g1 f (zm_kp_in hm), g2, g3, g4, g5, g6, g7, fun f hm => g8 f (zm_kp_in hm)⟩, hx⟩
noncomputable def zm_kw (m : Nat) (S : ze_S) : Option (List ze_S) := some [(S.1, (S.2.1, S.2.2.1, S.2.2.2.1, S.2.2.2.2.1, zm_kp S.2.2.2.2.2 m))]
theorem zm_kw_in {Z : ze_Z} {T : zx_Tr zt_C} {K0 m : Nat} : ze_cov Z T K0 (zm_kw m) := by
  intro S l r R L st h hk hg hA
  cases hA
  exact ⟨_, List.mem_cons_self, r, R, fun _ _ => rfl, fun _ _ => rfl, Nat.le_refl _, Nat.le_refl _, hg.1, ⟨hg.2.1.1, fun p hp => hg.2.1.2 p (zm_kp_in hp)⟩, hg.2.2.1, hg.2.2.2.1, hg.2.2.2.2.1, fun p hp => hg.2.2.2.2.2 p (zm_kp_in hp)⟩
noncomputable def zm_kq (m : Nat) (S : ze_S) : Option (List ze_S) := some [((S.1.1, S.1.2.1, S.1.2.2.1, zm_kp S.1.2.2.2.1 m, S.1.2.2.2.2), S.2)]
theorem zm_kq_in {Z : ze_Z} {T : zx_Tr zt_C} {K0 m : Nat} : ze_cov Z T K0 (zm_kq m) := by
  intro S l r R L st h hk hg hA
  cases hA
  obtain ⟨⟨g1, g2, g3, g4, g5, g6, g7, g8⟩, hx⟩ := hg
  exact ⟨_, List.mem_cons_self, r, R, fun _ _ => rfl, fun _ _ => rfl, Nat.le_refl _, Nat.le_refl _, ⟨g1, g2, g3, fun q hm => g4 q (zm_kp_in hm), g5, g6, fun q hm => g7 q (zm_kp_in hm), g8⟩, hx⟩
noncomputable def zm_kL (m : Nat) (S : ze_S) : Option (List ze_S) := some [((S.1.1, zm_kp S.1.2.1 m, S.1.2.2), S.2)]
theorem zm_kL_in {Z : ze_Z} {T : zx_Tr zt_C} {K0 m : Nat} : ze_cov Z T K0 (zm_kL m) := by
  intro S l r R L st h hk hg hA
  cases hA
  obtain ⟨⟨g1, g2, g3, g4, g5, g6, g7, g8⟩, hx⟩ := hg
  exact ⟨_, List.mem_cons_self, r, R, fun _ _ => rfl, fun _ _ => rfl, Nat.le_refl _, Nat.le_refl _, ⟨g1, fun q hm => g2 q (zm_kp_in hm), g3, g4, fun q hm => g5 q (zm_kp_in hm), g6, g7, g8⟩, hx⟩
/-- one local, its number told another way -/
noncomputable def zm_lv (i : Nat) (a b : zt_E) (S : ze_S) : Option (List ze_S) := match zt_lk S.1.2.1 i with
  | none => none
  | some v => match ze_ee S.1.2.2.2.2 a b && zt_ltb S.1.1 b.2 with
    | false => none
    | true => some [((S.1.1, (i, zc_vm a b v) :: S.1.2.1, S.1.2.2), S.2)]
theorem zm_lv_in {Z : ze_Z} {T : zx_Tr zt_C} {K0 i : Nat} {a b : zt_E} : ze_cov Z T K0 (zm_lv i a b) := by
  intro S l r R L st h hk hg hA
  unfold zm_lv at hA
  split at hA
  · cases hA
  · next v e0 =>
    split at hA
    · cases hA
    · next e1 =>
      cases hA
      simp only [Bool.and_eq_true] at e1
      have he := ze_ee_in hg.1.1 e1.1
      have hb := zt_ltb_in e1.2
      have hm := zt_lk_in e0
      obtain ⟨⟨g1, g2, g3, g4, g5, g6, g7, g8⟩, hx⟩ := hg
      refine ⟨_, List.mem_cons_self, r, R, fun _ _ => rfl, fun _ _ => rfl, Nat.le_refl _, Nat.le_refl _, ⟨g1, fun q hq => ?_, g3, g4, fun q hq => ?_, g6, g7, g8⟩, hx⟩
      · rcases List.mem_cons.mp hq with z | z
        · rw [z]
          obtain ⟨w, h1, h2⟩ := g2 _ hm
          exact ⟨w, h1, zc_vm_in he h2⟩
        · exact g2 q z
      · rcases List.mem_cons.mp hq with z | z
        · rw [z]
          exact zc_vm_lt hb (g5 _ hm)
        · exact g5 q z
noncomputable def zc_b7 (T : zx_Tr zt_C) (C : List (Nat × zx_Tr Int)) (WD : List zw_D) (j : ze_J) : ze_S → Option (List ze_S) := match j.1 with
  | 28 => zm_kf (j.2.1.headD 0)
  | 29 => zm_kw (j.2.1.headD 0)
  | 30 => zm_kq (j.2.1.headD 0)
  | 31 => zm_kL (j.2.1.headD 0)
  | 32 => zm_lv (j.2.1.headD 0) (j.2.2.1.headD (0, [])) (j.2.2.1.tail.headD (0, []))
  | _ => zc_b6 T C WD j
theorem zc_b7_in {WD : List zw_D} {T : zx_Tr zt_C} {C : List (Nat × zx_Tr Int)} {K0 : Nat} (hC : zc_call T C = true) (j : ze_J) : ze_cov (zw_Z WD) T K0 (zc_b7 T C WD j) := by
  unfold zc_b7
  split
  · exact zm_kf_in
  · exact zm_kw_in
  · exact zm_kq_in
  · exact zm_kL_in
  · exact zm_lv_in
  · exact zc_b6_in hC j
noncomputable def zc_G7 (T : zx_Tr zt_C) (C : List (Nat × zx_Tr Int)) (WD : List zw_D) : ze_W := fun j s S => match j with
  | (20, w :: _, _, p :: _) => zc_au WD (zc_b7 T C WD) w p.2.1 p.2.2 s S
  | j => match zc_b7 T C WD j S with
    | none => none
    | some l => some (l, s)
theorem zc_G7_in {WD : List zw_D} {T : zx_Tr zt_C} {C : List (Nat × zx_Tr Int)} {K0 : Nat} (hC : zc_call T C = true) : ze_gc (zw_Z WD) T K0 (zc_G7 T C WD) := by
  intro j s S l s2 r R L st h hk hg hA
  unfold zc_G7 at hA
  split at hA
  · exact zc_au_in (fun j => zc_b7_in hC j) hk hg hA
  · split at hA
    · cases hA
    · next l2 e1 =>
      cases hA
      exact zc_b7_in hC _ S l r R L st h hk hg e1
