/-! ===== quotients, values told otherwise, places met twice, marks ===== -/
noncomputable def zc_md (m : Nat) (e : zt_E) (S : ze_S) : Option (List ze_S) := match Nat.blt 0 m && (zt_ge S.1.2.2.2.2 e && zt_ltb S.1.1 e.2) with
  | false => none
  | true => some [zc_ad [zt_sub (zt_sub e (zt_sc (Int.ofNat m) (zt_s S.1.1))) (zt_s (S.1.1 + 1)), zt_sub (zt_add (zt_sc (Int.ofNat m) (zt_s S.1.1)) (zt_s (S.1.1 + 1))) e, zt_s S.1.1, zt_s (S.1.1 + 1), zt_sub (zt_k (Int.ofNat m - 1)) (zt_s (S.1.1 + 1))] [] (zc_nn (zc_nn S))]
theorem zc_md_in {Z : ze_Z} {T : zx_Tr zt_C} {K0 m : Nat} {e : zt_E} : ze_cov Z T K0 (zc_md m e) := by
  intro S l r R L st h hk hg hA
  unfold zc_md at hA
  split at hA
  · cases hA
  · next e1 =>
    cases hA
    simp only [Bool.and_eq_true] at e1
    obtain ⟨h1, h2, h3⟩ := e1
    have hm : 0 < m := Nat.le_of_ble_eq_true h1
    have hx := zt_ge_in hg.1.1 h2
    have hl := zt_ltb_in h3
    have g1 := zc_nn_in (zt_ev r e / Int.ofNat m) hg
    have g2 := zc_nn_in (zt_ev r e % Int.ofNat m) g1
    have hm2 : (0 : Int) < Int.ofNat m := Int.ofNat_lt.mpr hm
    have hr : ∀ i, i < S.1.1 → (fun i => if i = (zc_nn S).1.1 then zt_ev r e % Int.ofNat m else (fun i => if i = S.1.1 then zt_ev r e / Int.ofNat m else r i) i) i = r i := fun i hi => by
      show (if i = S.1.1 + 1 then _ else if i = S.1.1 then _ else r i) = r i
      rw [if_neg (by omega), if_neg (by omega)]
    have ve := zt_ev_eq hr hl
    have vq : zt_ev (fun i => if i = (zc_nn S).1.1 then zt_ev r e % Int.ofNat m else (fun i => if i = S.1.1 then zt_ev r e / Int.ofNat m else r i) i) (zt_s S.1.1) = zt_ev r e / Int.ofNat m := by
      rw [zt_s_ev]
      show (if S.1.1 = S.1.1 + 1 then _ else if S.1.1 = S.1.1 then _ else _) = _
      rw [if_neg (by omega), if_pos rfl]
    have vs : zt_ev (fun i => if i = (zc_nn S).1.1 then zt_ev r e % Int.ofNat m else (fun i => if i = S.1.1 then zt_ev r e / Int.ofNat m else r i) i) (zt_s (S.1.1 + 1)) = zt_ev r e % Int.ofNat m := by
      rw [zt_s_ev]
      exact if_pos rfl
    have hd := Int.mul_ediv_add_emod (zt_ev r e) (Int.ofNat m)
    have hn1 := Int.emod_nonneg (zt_ev r e) (Int.ne_of_gt hm2)
    have hn2 := Int.emod_lt_of_pos (zt_ev r e) hm2
    have hn3 := Int.ediv_nonneg hx (Int.le_of_lt hm2)
    have l0 : zt_lt (S.1.1 + 1 + 1) (zt_s S.1.1) := zt_s_lt (by omega)
    have l1 : zt_lt (S.1.1 + 1 + 1) (zt_s (S.1.1 + 1)) := zt_s_lt (by omega)
    have le : zt_lt (S.1.1 + 1 + 1) e := zt_lt_mono hl (by omega)
    refine ⟨_, List.mem_cons_self, _, R, hr, fun _ _ => rfl, Nat.le_trans (Nat.le_succ _) (Nat.le_succ _), Nat.le_refl _, zc_ad_in g2 (fun f hf => ?_) (fun p hp => absurd hp List.not_mem_nil)⟩
    rcases List.mem_cons.mp hf with z | hf
    · rw [z]
      exact ⟨by rw [zt_sub_ev, zt_sub_ev, zt_sc_ev, ve, vq, vs]; omega, zt_sub_lt (zt_sub_lt le (zt_sc_lt l0)) l1⟩
    · rcases List.mem_cons.mp hf with z | hf
      · rw [z]
        exact ⟨by rw [zt_sub_ev, zt_add_ev, zt_sc_ev, ve, vq, vs]; omega, zt_sub_lt (zt_add_lt (zt_sc_lt l0) l1) le⟩
      · rcases List.mem_cons.mp hf with z | hf
        · rw [z]
          exact ⟨by rw [vq]; exact hn3, l0⟩
        · rcases List.mem_cons.mp hf with z | hf
          · rw [z]
            exact ⟨by rw [vs]; exact hn1, l1⟩
          · rw [List.mem_singleton.mp hf]
            exact ⟨by rw [zt_sub_ev, zt_k_ev, vs]; omega, zt_sub_lt zt_k_lt l1⟩
/-- a value by another linear thing that is alike -/
noncomputable def zc_vm (a b : zt_E) (v : zt_V) : zt_V := match zt_eq v.2.1 a with
  | true => (v.1, b, v.2.2)
  | false => v
theorem zc_vm_in {r : Nat → Int} {a b : zt_E} (he : zt_ev r a = zt_ev r b) {v : zt_V} {x : Value} (h : zt_val r v x) : zt_val r (zc_vm a b v) x := by
  unfold zc_vm
  split
  · next e1 =>
    have h1 := zt_eq_in e1
    obtain ⟨t, e, i⟩ := v
    have h2 : zt_ev r b = zt_ev r e := by
      rw [← he]
      exact congrArg (zt_ev r) h1.symm
    match t, h with
    | 0, h => obtain ⟨x, h3, h4⟩ := h; exact ⟨x, h3, h4.trans h2.symm⟩
    | 1, h => obtain ⟨x, h3, h4⟩ := h; exact ⟨x, h3, h4.trans h2.symm⟩
    | 2, h => exact h
    | 3, h => exact h
    | 4, h =>
      obtain ⟨x, h3, h4, h5⟩ := h
      exact ⟨x, h3, by rw [show zt_ev r ((4, b, i) : zt_V).2.1 = zt_ev r e from h2]; exact h4, by rw [show zt_ev r ((4, b, i) : zt_V).2.1 = zt_ev r e from h2]; exact h5⟩
    | 5, h => exact h
    | t + 6, h => exact absurd h (fun z => z)
  · exact h
theorem zc_vm_lt {n : Nat} {a b : zt_E} (hb : zt_lt n b) {v : zt_V} (h : zt_lt n v.2.1) : zt_lt n (zc_vm a b v).2.1 := by
  unfold zc_vm
  split
  · exact hb
  · exact h
noncomputable def zc_im (a b : zt_E) (q : (Nat × zt_E) × zt_V) : (Nat × zt_E) × zt_V := match zt_eq q.1.2 a with
  | true => ((q.1.1, b), zc_vm a b q.2)
  | false => (q.1, zc_vm a b q.2)
theorem zc_vs_in {r : Nat → Int} {a b : zt_E} (he : zt_ev r a = zt_ev r b) : ∀ {l : List zt_V} {st : List Value}, zt_vs r l st → zt_vs r (l.map (zc_vm a b)) st
  | [], [], h => h
  | [], _ :: _, h => absurd h (fun z => z)
  | _ :: _, [], h => absurd h (fun z => z)
  | v :: l, x :: st, h => ⟨zc_vm_in he h.1, zc_vs_in he h.2⟩
/-- everywhere: of the frame, on the stack, of places -/
noncomputable def zc_vr (a b : zt_E) (S : ze_S) : Option (List ze_S) := match ze_ee S.1.2.2.2.2 a b && zt_ltb S.1.1 b.2 with
  | false => none
  | true => some [((S.1.1, S.1.2.1.map (fun q => (q.1, zc_vm a b q.2)), S.1.2.2.1.map (zc_vm a b), S.1.2.2.2.1.map (zc_im a b), S.1.2.2.2.2), S.2)]
theorem zc_vr_in {Z : ze_Z} {T : zx_Tr zt_C} {K0 : Nat} {a b : zt_E} : ze_cov Z T K0 (zc_vr a b) := by
  intro S l r R L st h hk hg hA
  unfold zc_vr at hA
  split at hA
  · cases hA
  · next e1 =>
    cases hA
    simp only [Bool.and_eq_true] at e1
    have he := ze_ee_in hg.1.1 e1.1
    have hb := zt_ltb_in e1.2
    obtain ⟨⟨g1, g2, g3, g4, g5, g6, g7, g8⟩, hx⟩ := hg
    refine ⟨_, List.mem_cons_self, r, R, fun _ _ => rfl, fun _ _ => rfl, Nat.le_refl _, Nat.le_refl _, ⟨g1, fun q hq => ?_, zc_vs_in he g3, fun q hq => ?_, fun q hq => ?_, fun q hq => ?_, fun q hq => ?_, g8⟩, hx⟩
    · obtain ⟨p, hp, rfl⟩ := List.mem_map.mp hq
      obtain ⟨v, h1, h2⟩ := g2 p hp
      exact ⟨v, h1, zc_vm_in he h2⟩
    · obtain ⟨p, hp, rfl⟩ := List.mem_map.mp hq
      obtain ⟨j, v, h1, h2, h3⟩ := g4 p hp
      unfold zc_im
      split
      · next e2 =>
        refine ⟨j, v, ?_, h2, zc_vm_in he h3⟩
        show (j : Int) = zt_ev r b
        rw [h1, zt_eq_in e2, he]
      · exact ⟨j, v, h1, h2, zc_vm_in he h3⟩
    · obtain ⟨p, hp, rfl⟩ := List.mem_map.mp hq
      exact zc_vm_lt hb (g5 p hp)
    · obtain ⟨p, hp, rfl⟩ := List.mem_map.mp hq
      exact zc_vm_lt hb (g6 p hp)
    · obtain ⟨p, hp, rfl⟩ := List.mem_map.mp hq
      unfold zc_im
      split
      · exact ⟨hb, zc_vm_lt hb (g7 p hp).2⟩
      · exact ⟨(g7 p hp).1, zc_vm_lt hb (g7 p hp).2⟩
/-- a place met twice -/
noncomputable def zc_pm (i j : Nat) (S : ze_S) : Option (List ze_S) := match zx_nth S.1.2.2.2.1 i with
  | none => none
  | some p => match zx_nth S.1.2.2.2.1 j with
    | none => none
    | some q => match Nat.beq p.1.1 q.1.1 && (ze_ee S.1.2.2.2.2 p.1.2 q.1.2 && (Nat.blt p.2.1 2 && Nat.blt q.2.1 2)) with
      | false => none
      | true => some [zc_ad [zt_sub p.2.2.1 q.2.2.1, zt_sub q.2.2.1 p.2.2.1] [] S]
theorem zc_pm_in {Z : ze_Z} {T : zx_Tr zt_C} {K0 i j : Nat} : ze_cov Z T K0 (zc_pm i j) := by
  intro S l r R L st h hk hg hA
  unfold zc_pm at hA
  split at hA
  · cases hA
  · next p e1 =>
    split at hA
    · cases hA
    · next q e2 =>
      split at hA
      · cases hA
      · next e3 =>
        cases hA
        simp only [Bool.and_eq_true] at e3
        obtain ⟨h1, h2, h3, h4⟩ := e3
        rw [zx_nth_eq] at e1 e2
        have p1 := List.mem_of_getElem? e1
        have q1 := List.mem_of_getElem? e2
        obtain ⟨a, v, a1, a2, a3⟩ := hg.1.2.2.2.1 p p1
        obtain ⟨b, w, b1, b2, b3⟩ := hg.1.2.2.2.1 q q1
        have h5 := ze_ee_in hg.1.1 h2
        have h6 : a = b := Int.ofNat_inj.mp (a1.trans (h5.trans b1.symm))
        rw [Nat.eq_of_beq_eq_true h1, h6, b2] at a2
        cases a2
        have h7 : zt_ev r p.2.2.1 = zt_ev r q.2.2.1 := (ze_num_v a3 h3).symm.trans (ze_num_v b3 h4)
        obtain ⟨w1, w2⟩ := hg.1.2.2.2.2.2.2.1 p p1
        obtain ⟨w3, w4⟩ := hg.1.2.2.2.2.2.2.1 q q1
        refine ⟨_, List.mem_cons_self, r, R, fun _ _ => rfl, fun _ _ => rfl, Nat.le_refl _, Nat.le_refl _, zc_ad_in hg (fun f hf => ?_) (fun p hp => absurd hp List.not_mem_nil)⟩
        rcases List.mem_cons.mp hf with z | z
        · rw [z]
          exact ⟨by rw [zt_sub_ev]; omega, zt_sub_lt w2 w4⟩
        · rw [List.mem_singleton.mp z]
          exact ⟨by rw [zt_sub_ev]; omega, zt_sub_lt w4 w2⟩
/-- marks of numbers and rows -/
noncomputable def zc_gi (g : Nat) (e : zt_E) (S : ze_S) : Option (List ze_S) := match zt_ltb S.1.1 e.2 with
  | false => none
  | true => some [(S.1, (S.2.1, S.2.2.1, (g, e) :: S.2.2.2.1, S.2.2.2.2))]
theorem zc_gi_in {Z : ze_Z} {T : zx_Tr zt_C} {K0 g : Nat} {e : zt_E} : ze_cov Z T K0 (zc_gi g e) := by
  intro S l r R L st h hk hg hA
  unfold zc_gi at hA
  split at hA
  · cases hA
  · next e1 =>
    cases hA
    obtain ⟨w1, w2, w3, w4⟩ := hg.2.2
    refine ⟨_, List.mem_cons_self, r, R, fun _ _ => rfl, fun _ _ => rfl, Nat.le_refl _, Nat.le_refl _, hg.1, hg.2.1, w1, fun q hq => ?_, w3, w4⟩
    rcases List.mem_cons.mp hq with z | z
    · rw [z]
      exact zt_ltb_in e1
    · exact w2 q z
noncomputable def zc_gr (g q : Nat) (S : ze_S) : Option (List ze_S) := match Nat.blt q S.2.1 with
  | false => none
  | true => some [(S.1, (S.2.1, S.2.2.1, S.2.2.2.1, (g, q) :: S.2.2.2.2.1, S.2.2.2.2.2))]
theorem zc_gr_in {Z : ze_Z} {T : zx_Tr zt_C} {K0 g q : Nat} : ze_cov Z T K0 (zc_gr g q) := by
  intro S l r R L st h hk hg hA
  unfold zc_gr at hA
  split at hA
  · cases hA
  · next e1 =>
    cases hA
    obtain ⟨w1, w2, w3, w4⟩ := hg.2.2
    refine ⟨_, List.mem_cons_self, r, R, fun _ _ => rfl, fun _ _ => rfl, Nat.le_refl _, Nat.le_refl _, hg.1, hg.2.1, w1, w2, fun p hp => ?_, w4⟩
    rcases List.mem_cons.mp hp with z | z
    · rw [z]
      exact Nat.le_of_ble_eq_true e1
    · exact w3 p z
/-- a new row, 0 everywhere -/
noncomputable def zc_g0 (S : ze_S) : Option (List ze_S) := some [zc_ad [] [(0, [S.2.1], [zt_k 0, zt_k 0])] (zc_nr S)]
theorem zc_g0_in {WD : List zw_D} {T : zx_Tr zt_C} {K0 : Nat} : ze_cov (zw_Z WD) T K0 zc_g0 := by
  intro S l r R L st h hk hg hA
  cases hA
  refine ⟨_, List.mem_cons_self, r, _, fun _ _ => rfl, fun i hi => if_neg (Nat.ne_of_lt hi), Nat.le_refl _, Nat.le_succ _, zc_ad_in (zc_nr_in (fun _ => 0) hg) (fun f hf => absurd hf List.not_mem_nil) (fun p hp => ?_)⟩
  rw [List.mem_singleton.mp hp]
  refine ⟨?_, fun i hi => by rw [List.mem_singleton.mp hi]; exact Nat.lt_succ_self _, fun e he => ?_⟩
  · show 0 ≤ zt_ev r (zt_k 0) ∧ (if S.2.1 = S.2.1 then (fun _ => (0 : Int)) else R S.2.1) (zt_ev r (zt_k 0)).toNat = zt_ev r (zt_k 0)
    rw [zt_k_ev, if_pos rfl]
    exact ⟨Int.le_refl _, rfl⟩
  · rcases List.mem_cons.mp he with z | z
    · rw [z]
      exact zt_k_lt
    · rw [List.mem_singleton.mp z]
      exact zt_k_lt
/-- a new row: another one, changed at a place -/
noncomputable def zc_gu (q : Nat) (e x : zt_E) (S : ze_S) : Option (List ze_S) := match zt_ge S.1.2.2.2.2 e && (zt_ltb S.1.1 e.2 && (zt_ltb S.1.1 x.2 && Nat.blt q S.2.1)) with
  | false => none
  | true => some [zc_ad [] [(1, [S.2.1, q], [e, x])] (zc_nr S)]
theorem zc_gu_in {WD : List zw_D} {T : zx_Tr zt_C} {K0 q : Nat} {e x : zt_E} : ze_cov (zw_Z WD) T K0 (zc_gu q e x) := by
  intro S l r R L st h hk hg hA
  unfold zc_gu at hA
  split at hA
  · cases hA
  · next e1 =>
    cases hA
    simp only [Bool.and_eq_true] at e1
    obtain ⟨h1, h2, h3, h4⟩ := e1
    have hq : q < S.2.1 := Nat.le_of_ble_eq_true h4
    refine ⟨_, List.mem_cons_self, r, _, fun _ _ => rfl, fun i hi => if_neg (Nat.ne_of_lt hi), Nat.le_refl _, Nat.le_succ _, zc_ad_in (zc_nr_in (fun i => if i = (zt_ev r e).toNat then zt_ev r x else R q i) hg) (fun f hf => absurd hf List.not_mem_nil) (fun p hp => ?_)⟩
    rw [List.mem_singleton.mp hp]
    refine ⟨?_, fun i hi => ?_, fun f hf => ?_⟩
    · show 0 ≤ zt_ev r e ∧ ∀ i : Nat, (if S.2.1 = S.2.1 then (fun i => if i = (zt_ev r e).toNat then zt_ev r x else R q i) else R S.2.1) i = if i = (zt_ev r e).toNat then zt_ev r x else (if q = S.2.1 then (fun i => if i = (zt_ev r e).toNat then zt_ev r x else R q i) else R q) i
      rw [if_pos rfl, if_neg (Nat.ne_of_lt hq)]
      exact ⟨zt_ge_in hg.1.1 h1, fun _ => rfl⟩
    · rcases List.mem_cons.mp hi with z | z
      · rw [z]
        exact Nat.lt_succ_self _
      · rw [List.mem_singleton.mp z]
        exact Nat.lt_succ_of_lt hq
    · rcases List.mem_cons.mp hf with z | z
      · rw [z]
        exact zt_ltb_in h2
      · rw [List.mem_singleton.mp z]
        exact zt_ltb_in h3
