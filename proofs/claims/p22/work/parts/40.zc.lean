/-! ===== what may be told: facts, cases, names, rows, words ===== -/
noncomputable def zc_ad (fs : List zt_E) (ps : List ze_P) (S : ze_S) : ze_S := ((S.1.1, S.1.2.1, S.1.2.2.1, S.1.2.2.2.1, fs ++ S.1.2.2.2.2), ze_pp ps S.2)
theorem zc_ad_in {Z : ze_Z} {r : Nat → Int} {R : Nat → Nat → Int} {S : ze_S} {L : zx_L} {st : List Value} {h : zx_H} {fs : List zt_E} {ps : List ze_P} (hg : ze_g Z r R S L st h) (hf : ∀ f ∈ fs, 0 ≤ zt_ev r f ∧ zt_lt S.1.1 f) (hp : ∀ p ∈ ps, Z p.1 (p.2.1.map R) (p.2.2.map (zt_ev r)) ∧ (∀ i ∈ p.2.1, i < S.2.1) ∧ ∀ e ∈ p.2.2, zt_lt S.1.1 e) : ze_g Z r R (zc_ad fs ps S) L st h := by
  obtain ⟨⟨g1, g2, g3, g4, g5, g6, g7, g8⟩, ⟨x1, x2⟩, w1, w2, w3, w4⟩ := hg
  refine ⟨⟨fun f hm => ?_, g2, g3, g4, g5, g6, g7, fun f hm => ?_⟩, ⟨x1, fun p hm => ?_⟩, w1, w2, w3, fun p hm => ?_⟩
  · rcases List.mem_append.mp hm with z | z
    · exact (hf f z).1
    · exact g1 f z
  · rcases List.mem_append.mp hm with z | z
    · exact (hf f z).2
    · exact g8 f z
  · rcases List.mem_append.mp hm with z | z
    · exact (hp p z).1
    · exact x2 p z
  · rcases List.mem_append.mp hm with z | z
    · exact (hp p z).2
    · exact w4 p z
/-- a new name -/
noncomputable def zc_nn (S : ze_S) : ze_S := ((S.1.1 + 1, S.1.2), S.2)
theorem zc_nn_r {n i : Nat} {x : Int} {r : Nat → Int} (h : i < n) : (fun i => if i = n then x else r i) i = r i := if_neg (Nat.ne_of_lt h)
theorem zc_nn_in {Z : ze_Z} {r : Nat → Int} {R : Nat → Nat → Int} {S : ze_S} {L : zx_L} {st : List Value} {h : zx_H} (x : Int) (hg : ze_g Z r R S L st h) : ze_g Z (fun i => if i = S.1.1 then x else r i) R (zc_nn S) L st h := by
  have hr : ∀ i, i < S.1.1 → (fun i => if i = S.1.1 then x else r i) i = r i := fun i hi => zc_nn_r hi
  obtain ⟨g1, g2, g3, g4, g5, g6, g7, g8⟩ := zt_g_eq hr hg.1
  refine ⟨⟨g1, g2, g3, g4, fun q hq => zt_lt_mono (g5 q hq) (Nat.le_succ _), fun q hq => zt_lt_mono (g6 q hq) (Nat.le_succ _), fun q hq => ⟨zt_lt_mono (g7 q hq).1 (Nat.le_succ _), zt_lt_mono (g7 q hq).2 (Nat.le_succ _)⟩, fun f hf => zt_lt_mono (g8 f hf) (Nat.le_succ _)⟩, ze_x_eq (n := S.1.1) hr (fun _ _ => rfl) hg.2.2 hg.2.1, ze_wx_mono (Nat.le_succ _) hg.2.2⟩
/-- a new row -/
noncomputable def zc_nr (S : ze_S) : ze_S := (S.1, (S.2.1 + 1, S.2.2))
theorem zc_nr_in {Z : ze_Z} {r : Nat → Int} {R : Nat → Nat → Int} {S : ze_S} {L : zx_L} {st : List Value} {h : zx_H} (f : Nat → Int) (hg : ze_g Z r R S L st h) : ze_g Z r (fun i => if i = S.2.1 then f else R i) (zc_nr S) L st h := by
  have hR : ∀ i, i < S.2.1 → (fun i => if i = S.2.1 then f else R i) i = R i := fun i hi => if_neg (Nat.ne_of_lt hi)
  obtain ⟨w1, w2, w3, w4⟩ := hg.2.2
  have hx := ze_x_eq (X := S.2) (n := S.1.1) (r2 := r) (fun _ _ => rfl) hR hg.2.2 hg.2.1
  exact ⟨hg.1, ⟨hx.1, hx.2⟩, fun q hq => Nat.lt_succ_of_lt (w1 q hq), w2, fun q hq => Nat.lt_succ_of_lt (w3 q hq), fun p hp => ⟨fun i hi => Nat.lt_succ_of_lt ((w4 p hp).1 i hi), (w4 p hp).2⟩⟩
/-- both cases -/
noncomputable def zc_sp (e : zt_E) (S : ze_S) : Option (List ze_S) := match zt_ltb S.1.1 e.2 with
  | false => none
  | true => some [zc_ad [e] [] S, zc_ad [zt_sub (zt_sc (-1) e) (zt_k 1)] [] S]
theorem zc_sp_in {Z : ze_Z} {T : zx_Tr zt_C} {K0 : Nat} {e : zt_E} : ze_cov Z T K0 (zc_sp e) := by
  intro S l r R L st h hk hg hA
  unfold zc_sp at hA
  split at hA
  · cases hA
  · next e2 =>
    cases hA
    have hl := zt_ltb_in e2
    by_cases hc : 0 ≤ zt_ev r e
    · exact ⟨_, List.mem_cons_self, r, R, fun _ _ => rfl, fun _ _ => rfl, Nat.le_refl _, Nat.le_refl _, zc_ad_in hg (fun f hf => by rw [List.mem_singleton.mp hf]; exact ⟨hc, hl⟩) (fun p hp => absurd hp List.not_mem_nil)⟩
    · exact ⟨_, List.mem_cons_of_mem _ List.mem_cons_self, r, R, fun _ _ => rfl, fun _ _ => rfl, Nat.le_refl _, Nat.le_refl _, zc_ad_in hg (fun f hf => by rw [List.mem_singleton.mp hf]; exact ⟨by rw [zt_sub_ev, zt_sc_ev, zt_k_ev]; omega, zt_sub_lt (zt_sc_lt hl) zt_k_lt⟩) (fun p hp => absurd hp List.not_mem_nil)⟩
/-- what can't be -/
noncomputable def zc_dd (S : ze_S) : Option (List ze_S) := match zt_q0 (-1) [] S.1.2.2.2.2 with
  | true => some []
  | false => none
theorem zc_dd_in {Z : ze_Z} {T : zx_Tr zt_C} {K0 : Nat} : ze_cov Z T K0 zc_dd := by
  intro S l r R L st h hk hg hA
  unfold zc_dd at hA
  split at hA
  · next e1 =>
    have h1 : 0 ≤ zt_ev r (-1, []) := zt_q0_in hg.1.1 e1
    exact absurd h1 (by show ¬ (0 : Int) ≤ -1 + 0; omega)
  · cases hA
/-- what a row has at a place, by a new name -/
noncomputable def zc_rd (q : Nat) (e : zt_E) (S : ze_S) : Option (List ze_S) := match zt_ge S.1.2.2.2.2 e && (zt_ltb S.1.1 e.2 && Nat.blt q S.2.1) with
  | false => none
  | true => some [zc_ad [] [(0, [q], [e, zt_s S.1.1])] (zc_nn S)]
theorem zc_rd_in {WD : List zw_D} {T : zx_Tr zt_C} {K0 q : Nat} {e : zt_E} : ze_cov (zw_Z WD) T K0 (zc_rd q e) := by
  intro S l r R L st h hk hg hA
  unfold zc_rd at hA
  split at hA
  · cases hA
  · next e1 =>
    cases hA
    simp only [Bool.and_eq_true] at e1
    obtain ⟨h1, h2, h3⟩ := e1
    have hl := zt_ltb_in h2
    have h4 := zt_ge_in hg.1.1 h1
    have h5 := zc_nn_in (R q (zt_ev r e).toNat) hg
    have h6 : zt_ev (fun i => if i = S.1.1 then R q (zt_ev r e).toNat else r i) e = zt_ev r e := zt_ev_eq (fun i hi => zc_nn_r hi) hl
    refine ⟨_, List.mem_cons_self, _, R, fun i hi => zc_nn_r hi, fun _ _ => rfl, Nat.le_succ _, Nat.le_refl _, zc_ad_in h5 (fun f hf => absurd hf List.not_mem_nil) (fun p hp => ?_)⟩
    rw [List.mem_singleton.mp hp]
    refine ⟨?_, fun i hi => by rw [List.mem_singleton.mp hi]; exact Nat.le_of_ble_eq_true h3, fun f hf => ?_⟩
    · show 0 ≤ zt_ev _ e ∧ R q (zt_ev _ e).toNat = zt_ev _ (zt_s S.1.1)
      rw [h6, zt_s_ev]
      exact ⟨h4, (if_pos rfl).symm⟩
    · rcases List.mem_cons.mp hf with z | z
      · rw [z]
        exact zt_lt_mono hl (Nat.le_succ _)
      · rw [List.mem_singleton.mp z]
        exact zt_s_lt (Nat.lt_succ_self _)
/-- through a change: at its place; beside it, on and back -/
noncomputable def zc_up (k q2 q1 : Nat) (e x i v : zt_E) (S : ze_S) : Option (List ze_S) := match zw_has (1, [q2, q1], [e, x]) S.2.2.2.2.2 with
  | false => none
  | true => match k with
    | 0 => (match ze_ee S.1.2.2.2.2 i e && zt_ltb S.1.1 i.2 with
      | false => none
      | true => some [zc_ad [] [(0, [q2], [i, x])] S])
    | 1 => (match zw_has (0, [q1], [i, v]) S.2.2.2.2.2 && (zt_ge S.1.2.2.2.2 (zt_sub (zt_sub i e) (zt_k 1)) || zt_ge S.1.2.2.2.2 (zt_sub (zt_sub e i) (zt_k 1))) with
      | false => none
      | true => some [zc_ad [] [(0, [q2], [i, v])] S])
    | _ => (match zw_has (0, [q2], [i, v]) S.2.2.2.2.2 && (zt_ge S.1.2.2.2.2 (zt_sub (zt_sub i e) (zt_k 1)) || zt_ge S.1.2.2.2.2 (zt_sub (zt_sub e i) (zt_k 1))) with
      | false => none
      | true => some [zc_ad [] [(0, [q1], [i, v])] S])
theorem zc_up_ne {r : Nat → Int} {F : List zt_E} (hF : zt_ok r F) {i e : zt_E} (h : (zt_ge F (zt_sub (zt_sub i e) (zt_k 1)) || zt_ge F (zt_sub (zt_sub e i) (zt_k 1))) = true) : zt_ev r i ≠ zt_ev r e := by
  rcases Bool.or_eq_true_iff.mp h with z | z
  · have := zt_ge_in hF z
    rw [zt_sub_ev, zt_sub_ev, zt_k_ev] at this
    omega
  · have := zt_ge_in hF z
    rw [zt_sub_ev, zt_sub_ev, zt_k_ev] at this
    omega
theorem zc_up_in {WD : List zw_D} {T : zx_Tr zt_C} {K0 k q2 q1 : Nat} {e x i v : zt_E} : ze_cov (zw_Z WD) T K0 (zc_up k q2 q1 e x i v) := by
  intro S l r R L st h hk hg hA
  unfold zc_up at hA
  split at hA
  · cases hA
  · next e1 =>
    have hu := zw_has_in e1
    have h1 : 0 ≤ zt_ev r e ∧ ∀ j : Nat, R q2 j = if j = (zt_ev r e).toNat then zt_ev r x else R q1 j := hg.2.1.2 _ hu
    obtain ⟨u1, u2⟩ := hg.2.2.2.2.2 _ hu
    have hq2 : q2 < S.2.1 := u1 q2 List.mem_cons_self
    have hq1 : q1 < S.2.1 := u1 q1 (List.mem_cons_of_mem _ List.mem_cons_self)
    have hx : zt_lt S.1.1 x := u2 x (List.mem_cons_of_mem _ List.mem_cons_self)
    have fin : ∀ (q : Nat) (a b : zt_E), q < S.2.1 → zt_lt S.1.1 a → zt_lt S.1.1 b → 0 ≤ zt_ev r a → R q (zt_ev r a).toNat = zt_ev r b → ze_g (zw_Z WD) r R (zc_ad [] [(0, [q], [a, b])] S) L st h := by
      intro q a b hq ha hb h2 h3
      refine zc_ad_in hg (fun f hf => absurd hf List.not_mem_nil) (fun p hp => ?_)
      rw [List.mem_singleton.mp hp]
      refine ⟨⟨h2, h3⟩, fun i hi => by rw [List.mem_singleton.mp hi]; exact hq, fun f hf => ?_⟩
      rcases List.mem_cons.mp hf with z | z
      · rw [z]
        exact ha
      · rw [List.mem_singleton.mp z]
        exact hb
    split at hA
    · split at hA
      · cases hA
      · next e2 =>
        cases hA
        simp only [Bool.and_eq_true] at e2
        have h2 := ze_ee_in hg.1.1 e2.1
        refine ⟨_, List.mem_cons_self, r, R, fun _ _ => rfl, fun _ _ => rfl, Nat.le_refl _, Nat.le_refl _, fin q2 i x hq2 (zt_ltb_in e2.2) hx (by rw [h2]; exact h1.1) ?_⟩
        rw [h1.2, h2, if_pos rfl]
    · split at hA
      · cases hA
      · next e2 =>
        cases hA
        simp only [Bool.and_eq_true] at e2
        have hs := zw_has_in e2.1
        have h2 : 0 ≤ zt_ev r i ∧ R q1 (zt_ev r i).toNat = zt_ev r v := hg.2.1.2 _ hs
        have h3 := zc_up_ne hg.1.1 e2.2
        obtain ⟨s1, s2⟩ := hg.2.2.2.2.2 _ hs
        refine ⟨_, List.mem_cons_self, r, R, fun _ _ => rfl, fun _ _ => rfl, Nat.le_refl _, Nat.le_refl _, fin q2 i v hq2 (s2 i List.mem_cons_self) (s2 v (List.mem_cons_of_mem _ List.mem_cons_self)) h2.1 ?_⟩
        rw [h1.2, if_neg (by have := h1.1; have := h2.1; omega)]
        exact h2.2
    · split at hA
      · cases hA
      · next e2 =>
        cases hA
        simp only [Bool.and_eq_true] at e2
        have hs := zw_has_in e2.1
        have h2 : 0 ≤ zt_ev r i ∧ R q2 (zt_ev r i).toNat = zt_ev r v := hg.2.1.2 _ hs
        have h3 := zc_up_ne hg.1.1 e2.2
        obtain ⟨s1, s2⟩ := hg.2.2.2.2.2 _ hs
        refine ⟨_, List.mem_cons_self, r, R, fun _ _ => rfl, fun _ _ => rfl, Nat.le_refl _, Nat.le_refl _, fin q1 i v hq1 (s2 i List.mem_cons_self) (s2 v (List.mem_cons_of_mem _ List.mem_cons_self)) h2.1 ?_⟩
        have h4 := h1.2 (zt_ev r i).toNat
        rw [if_neg (by have := h1.1; have := h2.1; omega)] at h4
        rw [← h4]
        exact h2.2
/-- the same place read twice -/
noncomputable def zc_sm (q : Nat) (a x b y : zt_E) (S : ze_S) : Option (List ze_S) := match zw_has (0, [q], [a, x]) S.2.2.2.2.2 && (zw_has (0, [q], [b, y]) S.2.2.2.2.2 && ze_ee S.1.2.2.2.2 a b) with
  | false => none
  | true => some [zc_ad [zt_sub x y, zt_sub y x] [] S]
theorem zc_sm_in {WD : List zw_D} {T : zx_Tr zt_C} {K0 q : Nat} {a x b y : zt_E} : ze_cov (zw_Z WD) T K0 (zc_sm q a x b y) := by
  intro S l r R L st h hk hg hA
  unfold zc_sm at hA
  split at hA
  · cases hA
  · next e1 =>
    cases hA
    simp only [Bool.and_eq_true] at e1
    obtain ⟨h1, h2, h3⟩ := e1
    have p1 := zw_has_in h1
    have p2 := zw_has_in h2
    have a1 : 0 ≤ zt_ev r a ∧ R q (zt_ev r a).toNat = zt_ev r x := hg.2.1.2 _ p1
    have a2 : 0 ≤ zt_ev r b ∧ R q (zt_ev r b).toNat = zt_ev r y := hg.2.1.2 _ p2
    have a3 := ze_ee_in hg.1.1 h3
    have hx : zt_lt S.1.1 x := (hg.2.2.2.2.2 _ p1).2 x (List.mem_cons_of_mem _ List.mem_cons_self)
    have hy : zt_lt S.1.1 y := (hg.2.2.2.2.2 _ p2).2 y (List.mem_cons_of_mem _ List.mem_cons_self)
    have a4 : zt_ev r x = zt_ev r y := by rw [← a1.2, ← a2.2, a3]
    refine ⟨_, List.mem_cons_self, r, R, fun _ _ => rfl, fun _ _ => rfl, Nat.le_refl _, Nat.le_refl _, zc_ad_in hg (fun f hf => ?_) (fun p hp => absurd hp List.not_mem_nil)⟩
    rcases List.mem_cons.mp hf with z | z
    · rw [z]
      exact ⟨by rw [zt_sub_ev]; omega, zt_sub_lt hx hy⟩
    · rw [List.mem_singleton.mp z]
      exact ⟨by rw [zt_sub_ev]; omega, zt_sub_lt hy hx⟩
