/-! ===== a word shown out of another: clauses that say the same are taken over ===== -/
noncomputable def zw_oq (su su2 : Nat → zt_E) (F : List zt_E) (cls : List (List zt_E)) : Bool := ze_all (fun cl => ze_all (fun f => zt_eq (zt_su su f) (zt_su su2 f)) cl || ze_any (fun f => zt_ge F (zt_su su f)) cl) cls
/-- what a leaf says: values, and perhaps a word with values of its own -/
noncomputable def zw_lf (w : Nat) (d : zw_D) (rows : List Nat) (ps : List zt_E) (t : zt_E) (S : ze_S) (vs : List zt_E) : List ze_P → Bool
  | [] => (match zw_ev S.2.2.2.2.2 rows d.2.1 vs (d.1 + 1) (zw_s0 t ps) with
    | none => false
    | some su => zw_ok su S.1.2.2.2.2 d.2.2)
  | p :: _ => match p.2.2 with
    | a :: b :: qs => (match Nat.beq p.1 (w + 2) && (zw_has p S.2.2.2.2.2 && (zt_ge S.1.2.2.2.2 (zt_sub t a) && zt_ge S.1.2.2.2.2 (zt_sub (zt_sub b t) (zt_k 1)))) with
      | false => false
      | true => match zw_ev S.2.2.2.2.2 rows d.2.1 vs (d.1 + 1) (zw_s0 t ps) with
        | none => false
        | some su => match zw_ev S.2.2.2.2.2 p.2.1 d.2.1 (vs.drop d.2.1.length) (d.1 + 1) (zw_s0 t qs) with
          | none => false
          | some su2 => zw_oq su su2 S.1.2.2.2.2 d.2.2)
    | _ => false
theorem zw_lf_in {WD : List zw_D} {w : Nat} {d : zw_D} (e0 : zx_nth WD w = some d) {rows : List Nat} {ps : List zt_E} {t : zt_E} {S : ze_S} {vs : List zt_E} {l : List ze_P} {r : Nat → Int} {R : Nat → Nat → Int} {L : zx_L} {st : List Value} {h : zx_H} (hg : ze_g (zw_Z WD) r R S L st h) (hA : zw_lf w d rows ps t S vs l = true) : zw_at d (rows.map R) (zt_ev r t) (ps.map (zt_ev r)) := by
  unfold zw_lf at hA
  split at hA
  · split at hA
    · cases hA
    · next su e2 =>
      have g4 := zw_ev_in hg.2.1.2 e2 (zw_s0_in (r := r) (t := t) (ps := ps))
      intro cl hcl
      obtain ⟨f, f1, f2⟩ := ze_any_in (ze_all_in hA cl hcl)
      refine ⟨f, f1, ?_⟩
      have f3 := zt_ge_in hg.1.1 f2
      rw [zt_su_ev, show (fun i => zt_ev r (su i)) = zw_go (zw_rw (rows.map R)) d.2.1 (d.1 + 1) (zw_e0 (zt_ev r t) (ps.map (zt_ev r))) from funext g4] at f3
      exact f3
  · next p _ =>
    split at hA
    · next a b qs e1 =>
      split at hA
      · cases hA
      · next e2 =>
        simp only [Bool.and_eq_true] at e2
        obtain ⟨h1, h2, h3, h4⟩ := e2
        split at hA
        · cases hA
        · next su e3 =>
          split at hA
          · cases hA
          · next su2 e4 =>
            have g4 := zw_ev_in hg.2.1.2 e3 (zw_s0_in (r := r) (t := t) (ps := ps))
            have g5 := zw_ev_in hg.2.1.2 e4 (zw_s0_in (r := r) (t := t) (ps := qs))
            have h5 := hg.2.1.2 p (zw_has_in h2)
            rw [Nat.eq_of_beq_eq_true h1, e1] at h5
            have h6 : (match WD[w]? with | some d => zw_all d (p.2.1.map R) ((a :: b :: qs).map (zt_ev r)) | none => True) := h5
            rw [zx_nth_eq] at e0
            rw [e0] at h6
            have h7 := zt_ge_in hg.1.1 h3
            have h8 := zt_ge_in hg.1.1 h4
            rw [zt_sub_ev] at h7
            rw [zt_sub_ev, zt_sub_ev, zt_k_ev] at h8
            have h9 : zw_at d (p.2.1.map R) (zt_ev r t) (qs.map (zt_ev r)) := h6 (zt_ev r t) (by omega) (by omega)
            intro cl hcl
            rcases Bool.or_eq_true_iff.mp (ze_all_in hA cl hcl) with z | z
            · obtain ⟨f, f1, f2⟩ := h9 cl hcl
              refine ⟨f, f1, ?_⟩
              have f3 := zt_eq_in (ze_all_in z f f1)
              have f4 : zt_ev r (zt_su su f) = zt_ev r (zt_su su2 f) := by rw [f3]
              rw [zt_su_ev, zt_su_ev, show (fun i => zt_ev r (su i)) = zw_go (zw_rw (rows.map R)) d.2.1 (d.1 + 1) (zw_e0 (zt_ev r t) (ps.map (zt_ev r))) from funext g4, show (fun i => zt_ev r (su2 i)) = zw_go (zw_rw (p.2.1.map R)) d.2.1 (d.1 + 1) (zw_e0 (zt_ev r t) (qs.map (zt_ev r))) from funext g5] at f4
              rw [f4]
              exact f2
            · obtain ⟨f, f1, f2⟩ := ze_any_in z
              refine ⟨f, f1, ?_⟩
              have f3 := zt_ge_in hg.1.1 f2
              rw [zt_su_ev, show (fun i => zt_ev r (su i)) = zw_go (zw_rw (rows.map R)) d.2.1 (d.1 + 1) (zw_e0 (zt_ev r t) (ps.map (zt_ev r))) from funext g4] at f3
              exact f3
    · cases hA
noncomputable def zw_pu (G : ze_J → ze_S → Option (List ze_S)) (w : Nat) (d : zw_D) (rows : List Nat) (ps : List zt_E) (t : zt_E) : Nat → ze_S → List ze_J → Option (List ze_J)
  | 0, _, _ => none
  | _ + 1, _, [] => none
  | f + 1, S, j :: s => match j.1 with
    | 0 => (match zw_lf w d rows ps t S j.2.2.1 j.2.2.2 with
      | false => none
      | true => some s)
    | _ + 1 => match G j S with
      | none => none
      | some l => ze_fo (fun q s2 => zw_pu G w d rows ps t f q s2) l s
theorem zw_pu_in {WD : List zw_D} {T : zx_Tr zt_C} {K0 : Nat} {G : ze_J → ze_S → Option (List ze_S)} (hG : ∀ j, ze_cov (zw_Z WD) T K0 (G j)) {w : Nat} {d : zw_D} (e0 : zx_nth WD w = some d) {rows : List Nat} {ps : List zt_E} {t : zt_E} : ∀ (f : Nat) (S : ze_S) (s s9 : List ze_J) (r : Nat → Int) (R : Nat → Nat → Int) (L : zx_L) (st : List Value) (h : zx_H), zw_pu G w d rows ps t f S s = some s9 → zt_hk T K0 h → ze_g (zw_Z WD) r R S L st h → zt_lt S.1.1 t → (∀ e ∈ ps, zt_lt S.1.1 e) → (∀ i ∈ rows, i < S.2.1) → zw_at d (rows.map R) (zt_ev r t) (ps.map (zt_ev r)) := by
  intro f
  induction f with
  | zero => intro S s s9 r R L st h hx; cases hx
  | succ f ih =>
    intro S s s9 r R L st h hx hk hg ht hps hrows
    cases s with
    | nil => cases hx
    | cons j s =>
      obtain ⟨j1, j2, j3, j4⟩ := j
      cases j1 with
      | zero =>
        have hx2 : (match zw_lf w d rows ps t S j3 j4 with
          | false => none
          | true => some s) = some s9 := hx
        split at hx2
        · cases hx2
        · next e2 => exact zw_lf_in e0 hg e2
      | succ n =>
        have hx2 : (match G (n + 1, j2, j3, j4) S with
          | none => none
          | some l => ze_fo (fun q s2 => zw_pu G w d rows ps t f q s2) l s) = some s9 := hx
        split at hx2
        · cases hx2
        · next l e1 =>
          obtain ⟨q, h1, r2, R2, h2, h3, h4, h5, h6⟩ := hG _ S l r R L st h hk hg e1
          obtain ⟨s3, s4, h7⟩ := ze_fo_in hx2 h1
          have h8 := ih q s3 s4 r2 R2 L st h h7 hk h6 (zt_lt_mono ht h4) (fun e he => zt_lt_mono (hps e he) h4) (fun i hi => Nat.lt_of_lt_of_le (hrows i hi) h5)
          rw [ze_map_eq (g := R) (fun i hi => h3 i (hrows i hi)), zt_ev_eq h2 ht, ze_map_eq (g := zt_ev r) (fun e he => zt_ev_eq h2 (hps e he))] at h8
          exact h8
noncomputable def zc_au (WD : List zw_D) (G : ze_J → ze_S → Option (List ze_S)) (w : Nat) (rows : List Nat) (es : List zt_E) (s : List ze_J) (S : ze_S) : Option (List ze_S × List ze_J) := match zx_nth WD w with
  | none => none
  | some d => match es with
    | a :: b :: ps => (match ze_all (fun e => zt_ltb S.1.1 e.2) (a :: b :: ps) && ze_all (fun i => Nat.blt i S.2.1) rows with
      | false => none
      | true => match zw_pu G w d rows ps (zt_s S.1.1) 100000 (zc_ad [zt_sub (zt_s S.1.1) a, zt_sub (zt_sub b (zt_s S.1.1)) (zt_k 1)] [] (zc_nn S)) s with
        | none => none
        | some s2 => some ([zc_ad [] [(w + 2, rows, a :: b :: ps)] S], s2))
    | _ => none
theorem zc_au_in {WD : List zw_D} {T : zx_Tr zt_C} {K0 w : Nat} {G : ze_J → ze_S → Option (List ze_S)} (hG : ∀ j, ze_cov (zw_Z WD) T K0 (G j)) {rows : List Nat} {es : List zt_E} {s s2 : List ze_J} {S : ze_S} {l : List ze_S} {r : Nat → Int} {R : Nat → Nat → Int} {L : zx_L} {st : List Value} {h : zx_H} (hk : zt_hk T K0 h) (hg : ze_g (zw_Z WD) r R S L st h) (hA : zc_au WD G w rows es s S = some (l, s2)) : ∃ q ∈ l, ∃ (r2 : Nat → Int) (R2 : Nat → Nat → Int), (∀ i, i < S.1.1 → r2 i = r i) ∧ (∀ i, i < S.2.1 → R2 i = R i) ∧ S.1.1 ≤ q.1.1 ∧ S.2.1 ≤ q.2.1 ∧ ze_g (zw_Z WD) r2 R2 q L st h := by
  unfold zc_au at hA
  split at hA
  · cases hA
  · next d e0 =>
    split at hA
    · next a b ps =>
      split at hA
      · cases hA
      · next e1 =>
        simp only [Bool.and_eq_true] at e1
        obtain ⟨h1, h2⟩ := e1
        split at hA
        · cases hA
        · next s3 e2 =>
          cases hA
          have la := zt_ltb_in (ze_all_in h1 a List.mem_cons_self)
          have lb := zt_ltb_in (ze_all_in h1 b (List.mem_cons_of_mem _ List.mem_cons_self))
          have lp : ∀ e ∈ ps, zt_lt S.1.1 e := fun e he => zt_ltb_in (ze_all_in h1 e (List.mem_cons_of_mem _ (List.mem_cons_of_mem _ he)))
          have lr : ∀ i ∈ rows, i < S.2.1 := fun i hi => Nat.le_of_ble_eq_true (ze_all_in h2 i hi)
          refine ⟨_, List.mem_cons_self, r, R, fun _ _ => rfl, fun _ _ => rfl, Nat.le_refl _, Nat.le_refl _, zc_ad_in hg (fun f hf => absurd hf List.not_mem_nil) (fun p hp => ?_)⟩
          rw [List.mem_singleton.mp hp]
          refine ⟨?_, lr, fun e he => zt_ltb_in (ze_all_in h1 e he)⟩
          show (match WD[w]? with | some d => zw_all d (rows.map R) ((a :: b :: ps).map (zt_ev r)) | none => True)
          have e9 := e0
          rw [zx_nth_eq] at e0
          rw [e0]
          intro i hi1 hi2
          have g1 := zc_nn_in i hg
          have hr : ∀ k, k < S.1.1 → (fun k => if k = S.1.1 then i else r k) k = r k := fun k hk => zc_nn_r hk
          have ha2 := zt_ev_eq hr la
          have hb2 := zt_ev_eq hr lb
          have ht : zt_ev (fun k => if k = S.1.1 then i else r k) (zt_s S.1.1) = i := by
            rw [zt_s_ev]
            exact if_pos rfl
          have ls : zt_lt (S.1.1 + 1) (zt_s S.1.1) := zt_s_lt (Nat.lt_succ_self _)
          have g2 := zc_ad_in (fs := [zt_sub (zt_s S.1.1) a, zt_sub (zt_sub b (zt_s S.1.1)) (zt_k 1)]) (ps := []) g1 (fun f hf => by
            rcases List.mem_cons.mp hf with z | z
            · rw [z]
              exact ⟨by rw [zt_sub_ev, ht, ha2]; omega, zt_sub_lt ls (zt_lt_mono la (Nat.le_succ _))⟩
            · rw [List.mem_singleton.mp z]
              exact ⟨by rw [zt_sub_ev, zt_sub_ev, ht, hb2, zt_k_ev]; omega, zt_sub_lt (zt_sub_lt (zt_lt_mono lb (Nat.le_succ _)) ls) zt_k_lt⟩) (fun p hp => absurd hp List.not_mem_nil)
          have g3 := zw_pu_in hG e9 _ _ _ _ _ _ _ _ _ e2 hk g2 ls (fun e he => zt_lt_mono (lp e he) (Nat.le_succ _)) lr
          rw [ht, ze_map_eq (g := zt_ev r) (fun e he => zt_ev_eq hr (lp e he))] at g3
          exact g3
    · cases hA
noncomputable def zc_G3 (T : zx_Tr zt_C) (WD : List zw_D) : ze_W := fun j s S => match j with
  | (20, w :: _, _, p :: _) => zc_au WD (zc_b2 T WD) w p.2.1 p.2.2 s S
  | j => match zc_b2 T WD j S with
    | none => none
    | some l => some (l, s)
theorem zc_G3_in {WD : List zw_D} {T : zx_Tr zt_C} {K0 : Nat} : ze_gc (zw_Z WD) T K0 (zc_G3 T WD) := by
  intro j s S l s2 r R L st h hk hg hA
  unfold zc_G3 at hA
  split at hA
  · exact zc_au_in (fun j => zc_b2_in j) hk hg hA
  · split at hA
    · cases hA
    · next l2 e1 =>
      cases hA
      exact zc_b2_in _ S l r R L st h hk hg e1
