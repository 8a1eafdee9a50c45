/-! ===== words used, words shown ===== -/
noncomputable def zc_lt (su : Nat → zt_E) (S : ze_S) : List zt_E → List ze_S
  | [] => []
  | f :: l => match zt_pr S.1.2.2.2.2 2 1 (zt_sub (zt_k (-1)) (zt_su su f)) with
    | true => zc_lt su S l
    | false => zc_ad [zt_su su f] [] S :: zc_lt su S l
theorem zc_lt_in {r : Nat → Int} {su : Nat → zt_E} {S : ze_S} (hF : zt_ok r S.1.2.2.2.2) {f : zt_E} (h0 : 0 ≤ zt_ev r (zt_su su f)) : ∀ {l : List zt_E}, f ∈ l → zc_ad [zt_su su f] [] S ∈ zc_lt su S l
  | [], h => nomatch h
  | g :: l, h => by
    unfold zc_lt
    split
    · next e1 =>
      rcases List.mem_cons.mp h with z | z
      · have h1 := zt_pr_in hF _ _ _ e1
        rw [zt_sub_ev, zt_k_ev, ← z] at h1
        omega
      · exact zc_lt_in hF h0 z
    · rcases List.mem_cons.mp h with z | z
      · rw [z]
        exact List.mem_cons_self
      · exact List.mem_cons_of_mem _ (zc_lt_in hF h0 z)
/-- a clause of a word at a place -/
noncomputable def zc_is (WD : List zw_D) (w c : Nat) (rows : List Nat) (es : List zt_E) (t : zt_E) (vs : List zt_E) (S : ze_S) : Option (List ze_S) := match zx_nth WD w with
  | none => none
  | some d => match es with
    | a :: b :: ps => (match zw_has (w + 2, rows, a :: b :: ps) S.2.2.2.2.2 && (zt_ge S.1.2.2.2.2 (zt_sub t a) && zt_ge S.1.2.2.2.2 (zt_sub (zt_sub b t) (zt_k 1))) with
      | false => none
      | true => match zw_ev S.2.2.2.2.2 rows d.2.1 vs (d.1 + 1) (zw_s0 t ps) with
        | none => none
        | some su => match zx_nth d.2.2 c with
          | none => none
          | some cl => match ze_all (fun f => zt_ltb S.1.1 (zt_su su f).2) cl with
            | false => none
            | true => some (zc_lt su S cl))
    | _ => none
theorem zc_is_in {WD : List zw_D} {T : zx_Tr zt_C} {K0 w c : Nat} {rows : List Nat} {es : List zt_E} {t : zt_E} {vs : List zt_E} : ze_cov (zw_Z WD) T K0 (zc_is WD w c rows es t vs) := by
  intro S l r R L st h hk hg hA
  unfold zc_is at hA
  split at hA
  · cases hA
  · next d e0 =>
    split at hA
    · next a b ps =>
      split at hA
      · cases hA
      · next e1 =>
        simp only [Bool.and_eq_true] at e1
        obtain ⟨h1, h2, h3⟩ := e1
        split at hA
        · cases hA
        · next su e2 =>
          split at hA
          · cases hA
          · next cl e3 =>
            split at hA
            · cases hA
            · next e4 =>
              cases hA
              have hp : (match WD[w]? with | some d => zw_all d (rows.map R) ((a :: b :: ps).map (zt_ev r)) | none => True) := hg.2.1.2 _ (zw_has_in h1)
              rw [zx_nth_eq] at e0
              rw [e0] at hp
              have g1 := zt_ge_in hg.1.1 h2
              have g2 := zt_ge_in hg.1.1 h3
              rw [zt_sub_ev] at g1
              rw [zt_sub_ev, zt_sub_ev, zt_k_ev] at g2
              have g3 : zw_at d (rows.map R) (zt_ev r t) (ps.map (zt_ev r)) := hp (zt_ev r t) (by omega) (by omega)
              have g4 := zw_ev_in hg.2.1.2 e2 (zw_s0_in (r := r) (t := t) (ps := ps))
              have hcl : cl ∈ d.2.2 := by
                rw [zx_nth_eq] at e3
                exact List.mem_of_getElem? e3
              obtain ⟨f, f1, f2⟩ := g3 cl hcl
              have f3 : 0 ≤ zt_ev r (zt_su su f) := by
                rw [zt_su_ev, show (fun i => zt_ev r (su i)) = zw_go (zw_rw (rows.map R)) d.2.1 (d.1 + 1) (zw_e0 (zt_ev r t) (ps.map (zt_ev r))) from funext g4]
                exact f2
              refine ⟨_, zc_lt_in hg.1.1 f3 f1, r, R, fun _ _ => rfl, fun _ _ => rfl, Nat.le_refl _, Nat.le_refl _, zc_ad_in hg (fun q hq => ?_) (fun p hp => absurd hp List.not_mem_nil)⟩
              rw [List.mem_singleton.mp hq]
              exact ⟨f3, zt_ltb_in (ze_all_in e4 f f1)⟩
    · cases hA
noncomputable def zw_ok (su : Nat → zt_E) (F : List zt_E) (cls : List (List zt_E)) : Bool := ze_all (fun cl => ze_any (fun f => zt_ge F (zt_su su f)) cl) cls
/-- a word at a new place of its stretch, led -/
noncomputable def zw_pv (G : ze_J → ze_S → Option (List ze_S)) (d : zw_D) (rows : List Nat) (ps : List zt_E) (t : zt_E) : Nat → ze_S → List ze_J → Option (List ze_J)
  | 0, _, _ => none
  | _ + 1, _, [] => none
  | f + 1, S, j :: s => match j.1 with
    | 0 => (match zw_ev S.2.2.2.2.2 rows d.2.1 j.2.2.1 (d.1 + 1) (zw_s0 t ps) with
      | none => none
      | some su => match zw_ok su S.1.2.2.2.2 d.2.2 with
        | false => none
        | true => some s)
    | _ + 1 => match G j S with
      | none => none
      | some l => ze_fo (fun q s2 => zw_pv G d rows ps t f q s2) l s
theorem zw_pv_in {WD : List zw_D} {T : zx_Tr zt_C} {K0 : Nat} {G : ze_J → ze_S → Option (List ze_S)} (hG : ∀ j, ze_cov (zw_Z WD) T K0 (G j)) {d : zw_D} {rows : List Nat} {ps : List zt_E} {t : zt_E} : ∀ (f : Nat) (S : ze_S) (s s9 : List ze_J) (r : Nat → Int) (R : Nat → Nat → Int) (L : zx_L) (st : List Value) (h : zx_H), zw_pv G d rows ps t f S s = some s9 → zt_hk T K0 h → ze_g (zw_Z WD) r R S L st h → zt_lt S.1.1 t → (∀ e ∈ ps, zt_lt S.1.1 e) → (∀ i ∈ rows, i < S.2.1) → zw_at d (rows.map R) (zt_ev r t) (ps.map (zt_ev r)) := by
  intro f
  induction f with
  | zero => intro S s s9 r R L st h hx; cases hx
  | succ f ih =>
    intro S s s9 r R L st h hx hk hg ht hps hrows
    cases s with
    | nil => cases hx
    | cons j s =>
      obtain ⟨j1, j2, j3, j4⟩ := j
      cases j1 with
      | zero =>
        have hx2 : (match zw_ev S.2.2.2.2.2 rows d.2.1 j3 (d.1 + 1) (zw_s0 t ps) with
          | none => none
          | some su => match zw_ok su S.1.2.2.2.2 d.2.2 with
            | false => none
            | true => some s) = some s9 := hx
        split at hx2
        · cases hx2
        · next su e2 =>
          split at hx2
          · cases hx2
          · next e3 =>
            have g4 := zw_ev_in hg.2.1.2 e2 (zw_s0_in (r := r) (t := t) (ps := ps))
            intro cl hcl
            obtain ⟨f, f1, f2⟩ := ze_any_in (ze_all_in e3 cl hcl)
            refine ⟨f, f1, ?_⟩
            have f3 := zt_ge_in hg.1.1 f2
            rw [zt_su_ev, show (fun i => zt_ev r (su i)) = zw_go (zw_rw (rows.map R)) d.2.1 (d.1 + 1) (zw_e0 (zt_ev r t) (ps.map (zt_ev r))) from funext g4] at f3
            exact f3
      | succ n =>
        have hx2 : (match G (n + 1, j2, j3, j4) S with
          | none => none
          | some l => ze_fo (fun q s2 => zw_pv G d rows ps t f q s2) l s) = some s9 := hx
        split at hx2
        · cases hx2
        · next l e1 =>
          obtain ⟨q, h1, r2, R2, h2, h3, h4, h5, h6⟩ := hG _ S l r R L st h hk hg e1
          obtain ⟨s3, s4, h7⟩ := ze_fo_in hx2 h1
          have h8 := ih q s3 s4 r2 R2 L st h h7 hk h6 (zt_lt_mono ht h4) (fun e he => zt_lt_mono (hps e he) h4) (fun i hi => Nat.lt_of_lt_of_le (hrows i hi) h5)
          rw [ze_map_eq (g := R) (fun i hi => h3 i (hrows i hi)), zt_ev_eq h2 ht, ze_map_eq (g := zt_ev r) (fun e he => zt_ev_eq h2 (hps e he))] at h8
          exact h8
noncomputable def zc_al (WD : List zw_D) (G : ze_J → ze_S → Option (List ze_S)) (w : Nat) (rows : List Nat) (es : List zt_E) (s : List ze_J) (S : ze_S) : Option (List ze_S × List ze_J) := match zx_nth WD w with
  | none => none
  | some d => match es with
    | a :: b :: ps => (match ze_all (fun e => zt_ltb S.1.1 e.2) (a :: b :: ps) && ze_all (fun i => Nat.blt i S.2.1) rows with
      | false => none
      | true => match zw_pv G d rows ps (zt_s S.1.1) 100000 (zc_ad [zt_sub (zt_s S.1.1) a, zt_sub (zt_sub b (zt_s S.1.1)) (zt_k 1)] [] (zc_nn S)) s with
        | none => none
        | some s2 => some ([zc_ad [] [(w + 2, rows, a :: b :: ps)] S], s2))
    | _ => none
theorem zc_al_in {WD : List zw_D} {T : zx_Tr zt_C} {K0 w : Nat} {G : ze_J → ze_S → Option (List ze_S)} (hG : ∀ j, ze_cov (zw_Z WD) T K0 (G j)) {rows : List Nat} {es : List zt_E} {s s2 : List ze_J} {S : ze_S} {l : List ze_S} {r : Nat → Int} {R : Nat → Nat → Int} {L : zx_L} {st : List Value} {h : zx_H} (hk : zt_hk T K0 h) (hg : ze_g (zw_Z WD) r R S L st h) (hA : zc_al WD G w rows es s S = some (l, s2)) : ∃ q ∈ l, ∃ (r2 : Nat → Int) (R2 : Nat → Nat → Int), (∀ i, i < S.1.1 → r2 i = r i) ∧ (∀ i, i < S.2.1 → R2 i = R i) ∧ S.1.1 ≤ q.1.1 ∧ S.2.1 ≤ q.2.1 ∧ ze_g (zw_Z WD) r2 R2 q L st h := by
  unfold zc_al at hA
  split at hA
  · cases hA
  · next d e0 =>
    split at hA
    · next a b ps =>
      split at hA
      · cases hA
      · next e1 =>
        simp only [Bool.and_eq_true] at e1
        obtain ⟨h1, h2⟩ := e1
        split at hA
        · cases hA
        · next s3 e2 =>
          cases hA
          have la := zt_ltb_in (ze_all_in h1 a List.mem_cons_self)
          have lb := zt_ltb_in (ze_all_in h1 b (List.mem_cons_of_mem _ List.mem_cons_self))
          have lp : ∀ e ∈ ps, zt_lt S.1.1 e := fun e he => zt_ltb_in (ze_all_in h1 e (List.mem_cons_of_mem _ (List.mem_cons_of_mem _ he)))
          have lr : ∀ i ∈ rows, i < S.2.1 := fun i hi => Nat.le_of_ble_eq_true (ze_all_in h2 i hi)
          refine ⟨_, List.mem_cons_self, r, R, fun _ _ => rfl, fun _ _ => rfl, Nat.le_refl _, Nat.le_refl _, zc_ad_in hg (fun f hf => absurd hf List.not_mem_nil) (fun p hp => ?_)⟩
          rw [List.mem_singleton.mp hp]
          refine ⟨?_, lr, fun e he => zt_ltb_in (ze_all_in h1 e he)⟩
          show (match WD[w]? with | some d => zw_all d (rows.map R) ((a :: b :: ps).map (zt_ev r)) | none => True)
          rw [zx_nth_eq] at e0
          rw [e0]
          intro i hi1 hi2
          have g1 := zc_nn_in i hg
          have hr : ∀ k, k < S.1.1 → (fun k => if k = S.1.1 then i else r k) k = r k := fun k hk => zc_nn_r hk
          have ha2 := zt_ev_eq hr la
          have hb2 := zt_ev_eq hr lb
          have ht : zt_ev (fun k => if k = S.1.1 then i else r k) (zt_s S.1.1) = i := by
            rw [zt_s_ev]
            exact if_pos rfl
          have ls : zt_lt (S.1.1 + 1) (zt_s S.1.1) := zt_s_lt (Nat.lt_succ_self _)
          have g2 := zc_ad_in (fs := [zt_sub (zt_s S.1.1) a, zt_sub (zt_sub b (zt_s S.1.1)) (zt_k 1)]) (ps := []) g1 (fun f hf => by
            rcases List.mem_cons.mp hf with z | z
            · rw [z]
              exact ⟨by rw [zt_sub_ev, ht, ha2]; omega, zt_sub_lt ls (zt_lt_mono la (Nat.le_succ _))⟩
            · rw [List.mem_singleton.mp z]
              exact ⟨by rw [zt_sub_ev, zt_sub_ev, ht, hb2, zt_k_ev]; omega, zt_sub_lt (zt_sub_lt (zt_lt_mono lb (Nat.le_succ _)) ls) zt_k_lt⟩) (fun p hp => absurd hp List.not_mem_nil)
          have g3 := zw_pv_in hG _ _ _ _ _ _ _ _ _ e2 hk g2 ls (fun e he => zt_lt_mono (lp e he) (Nat.le_succ _)) lr
          rw [ht, ze_map_eq (g := zt_ev r) (fun e he => zt_ev_eq hr (lp e he))] at g3
          exact g3
    · cases hA
