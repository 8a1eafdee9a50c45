/-! ===== facts and words kept by their places: so many left out, so many kept, and so on; what follows behind is kept ===== -/
noncomputable def zc_kp {α : Type} : List Nat → List α → List α
  | [], l => l
  | [n], l => l.drop n
  | n :: m :: ks, l => (l.drop n).take m ++ zc_kp ks ((l.drop n).drop m)
theorem zc_kp_in {α : Type} {x : α} : ∀ {ks : List Nat} {l : List α}, x ∈ zc_kp ks l → x ∈ l
  | [], l, h => h
  | [n], l, h => List.mem_of_mem_drop h
  | n :: m :: ks, l, h => by
    have h2 : x ∈ (l.drop n).take m ++ zc_kp ks ((l.drop n).drop m) := h
    rcases List.mem_append.mp h2 with z | z
    · exact List.mem_of_mem_drop (List.mem_of_mem_take z)
    · exact List.mem_of_mem_drop (List.mem_of_mem_drop (zc_kp_in z))
noncomputable def zc_kf (ks : List Nat) (S : ze_S) : Option (List ze_S) := some [((S.1.1, S.1.2.1, S.1.2.2.1, S.1.2.2.2.1, zc_kp ks S.1.2.2.2.2), S.2)]
theorem zc_kf_in {Z : ze_Z} {T : zx_Tr zt_C} {K0 : Nat} {ks : List Nat} : ze_cov Z T K0 (zc_kf ks) := by
  intro S l r R L st h hk hg hA
  cases hA
  obtain ⟨⟨g1, g2, g3, g4, g5, g6, g7, g8⟩, hx⟩ := hg
  exact ⟨_, List.mem_cons_self, r, R, fun _ _ => rfl, fun _ _ => rfl, Nat.le_refl _, Nat.le_refl _, ⟨fun f hm => g1 f (zc_kp_in hm), g2, g3, g4, g5, g6, g7, fun f hm => g8 f (zc_kp_in hm)⟩, hx⟩
noncomputable def zc_kw (ks : List Nat) (S : ze_S) : Option (List ze_S) := some [(S.1, (S.2.1, S.2.2.1, S.2.2.2.1, S.2.2.2.2.1, zc_kp ks S.2.2.2.2.2))]
theorem zc_kw_in {Z : ze_Z} {T : zx_Tr zt_C} {K0 : Nat} {ks : List Nat} : ze_cov Z T K0 (zc_kw ks) := by
  intro S l r R L st h hk hg hA
  cases hA
  exact ⟨_, List.mem_cons_self, r, R, fun _ _ => rfl, fun _ _ => rfl, Nat.le_refl _, Nat.le_refl _, hg.1, ⟨hg.2.1.1, fun p hp => hg.2.1.2 p (zc_kp_in hp)⟩, hg.2.2.1, hg.2.2.2.1, hg.2.2.2.2.1, fun p hp => hg.2.2.2.2.2 p (zc_kp_in hp)⟩
/-- these facts alone from here on; these words alone -/
noncomputable def zc_fs (es : List zt_E) (S : ze_S) : Option (List ze_S) := match ze_all (fun e => zt_ge S.1.2.2.2.2 e && zt_ltb S.1.1 e.2) es with
  | false => none
  | true => some [((S.1.1, S.1.2.1, S.1.2.2.1, S.1.2.2.2.1, es), S.2)]
theorem zc_fs_in {Z : ze_Z} {T : zx_Tr zt_C} {K0 : Nat} {es : List zt_E} : ze_cov Z T K0 (zc_fs es) := by
  intro S l r R L st h hk hg hA
  unfold zc_fs at hA
  split at hA
  · cases hA
  · next e1 =>
    cases hA
    obtain ⟨⟨g1, g2, g3, g4, g5, g6, g7, g8⟩, hx⟩ := hg
    refine ⟨_, List.mem_cons_self, r, R, fun _ _ => rfl, fun _ _ => rfl, Nat.le_refl _, Nat.le_refl _, ⟨fun f hm => ?_, g2, g3, g4, g5, g6, g7, fun f hm => ?_⟩, hx⟩
    · have h1 := ze_all_in e1 f hm
      simp only [Bool.and_eq_true] at h1
      exact zt_ge_in g1 h1.1
    · have h1 := ze_all_in e1 f hm
      simp only [Bool.and_eq_true] at h1
      exact zt_ltb_in h1.2
noncomputable def zc_ws (ps : List ze_P) (S : ze_S) : Option (List ze_S) := match ze_all (fun p => zw_has p S.2.2.2.2.2) ps with
  | false => none
  | true => some [(S.1, (S.2.1, S.2.2.1, S.2.2.2.1, S.2.2.2.2.1, ps))]
theorem zc_ws_in {Z : ze_Z} {T : zx_Tr zt_C} {K0 : Nat} {ps : List ze_P} : ze_cov Z T K0 (zc_ws ps) := by
  intro S l r R L st h hk hg hA
  unfold zc_ws at hA
  split at hA
  · cases hA
  · next e1 =>
    cases hA
    exact ⟨_, List.mem_cons_self, r, R, fun _ _ => rfl, fun _ _ => rfl, Nat.le_refl _, Nat.le_refl _, hg.1, ⟨hg.2.1.1, fun p hp => hg.2.1.2 p (zw_has_in (ze_all_in e1 p hp))⟩, hg.2.2.1, hg.2.2.2.1, hg.2.2.2.2.1, fun p hp => hg.2.2.2.2.2 p (zw_has_in (ze_all_in e1 p hp))⟩
noncomputable def zc_b4 (T : zx_Tr zt_C) (WD : List zw_D) (j : ze_J) : ze_S → Option (List ze_S) := match j with
  | (21, ks, _, _) => zc_kf ks
  | (22, ks, _, _) => zc_kw ks
  | (23, _, es, _) => zc_fs es
  | (24, _, _, ps) => zc_ws ps
  | j => zc_b2 T WD j
theorem zc_b4_in {WD : List zw_D} {T : zx_Tr zt_C} {K0 : Nat} (j : ze_J) : ze_cov (zw_Z WD) T K0 (zc_b4 T WD j) := by
  unfold zc_b4
  split
  · exact zc_kf_in
  · exact zc_kw_in
  · exact zc_fs_in
  · exact zc_ws_in
  · exact zc_b2_in _
noncomputable def zc_G4 (T : zx_Tr zt_C) (WD : List zw_D) : ze_W := fun j s S => match j with
  | (20, w :: _, _, p :: _) => zc_au WD (zc_b4 T WD) w p.2.1 p.2.2 s S
  | j => match zc_b4 T WD j S with
    | none => none
    | some l => some (l, s)
theorem zc_G4_in {WD : List zw_D} {T : zx_Tr zt_C} {K0 : Nat} : ze_gc (zw_Z WD) T K0 (zc_G4 T WD) := by
  intro j s S l s2 r R L st h hk hg hA
  unfold zc_G4 at hA
  split at hA
  · exact zc_au_in (fun j => zc_b4_in j) hk hg hA
  · split at hA
    · cases hA
    · next l2 e1 =>
      cases hA
      exact zc_b4_in _ S l r R L st h hk hg e1
