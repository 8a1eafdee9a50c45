/-! ===== looks at places, rows opened, rules, marks, cases ===== -/
/-- from a state to states, one of which covers what the state covers -/
def ze_cov (Z : ze_Z) (T : zx_Tr zt_C) (K0 : Nat) (A : ze_S → Option (List ze_S)) : Prop := ∀ (S : ze_S) (l : List ze_S) (r : Nat → Int) (R : Nat → Nat → Int) (L : zx_L) (st : List Value) (h : zx_H), zt_hk T K0 h → ze_g Z r R S L st h → A S = some l →
  ∃ q ∈ l, ∃ (r2 : Nat → Int) (R2 : Nat → Nat → Int), (∀ i, i < S.1.1 → r2 i = r i) ∧ (∀ i, i < S.2.1 → R2 i = R i) ∧ S.1.1 ≤ q.1.1 ∧ S.2.1 ≤ q.2.1 ∧ ze_g Z r2 R2 q L st h
noncomputable def zt_tl (S : zt_S) : zt_S := zt_stk S.2.2.1.tail S
theorem zt_tl_in {r : Nat → Int} {S : zt_S} {L : zx_L} {v : Value} {st : List Value} {h : zx_H} (hg : zt_g r S L (v :: st) h) : zt_g r (zt_tl S) L st h := by
  have hv := hg.2.2.1
  have hw := hg.2.2.2.2.2.1
  unfold zt_tl
  cases e : S.2.2.1 with
  | nil =>
    rw [e] at hv
    exact absurd hv (fun z => z)
  | cons a B =>
    rw [e] at hv hw
    exact zt_stk_in hg hv.2 (fun q hq => hw q (List.mem_cons_of_mem _ hq))
noncomputable def ze_tls (X : ze_X) : List (Nat × zt_S) → List ze_S
  | [] => []
  | q :: l => (zt_tl q.2, X) :: ze_tls X l
theorem ze_tls_in {X : ze_X} : ∀ {l : List (Nat × zt_S)} {q : Nat × zt_S}, q ∈ l → (zt_tl q.2, X) ∈ ze_tls X l
  | [], q, h => nomatch h
  | p :: l, q, h => by
    rcases List.mem_cons.mp h with z | z
    · rw [z]
      exact List.mem_cons_self
    · exact List.mem_cons_of_mem _ (ze_tls_in z)
/-- a place looked at -/
noncomputable def ze_ty (T : zx_Tr zt_C) (i k : Nat) : Option zt_Y := match zx_g10 T i with
  | some (.inl o) => zx_nth o.2 k
  | some (.inr x) => match Nat.blt k x.2.1 with
    | true => some (zt_ry x.2.2 k)
    | false => none
  | none => none
theorem ze_ty_in {T : zx_Tr zt_C} {K0 i k : Nat} {y : zt_Y} {h : zx_H} (hk : zt_hk T K0 h) (e : ze_ty T i k = some y) : ∃ v, zt_at h i k = some v ∧ zt_yt y v := by
  unfold ze_ty at e
  split at e
  · next o e1 =>
    obtain ⟨-, fs, c1, c2⟩ := hk i _ e1
    rw [zx_nth_eq] at e
    obtain ⟨v, c3, c4⟩ := c2 k y e
    refine ⟨v, ?_, c4⟩
    unfold zt_at
    rw [c1]
    exact c3
  · next x e1 =>
    split at e
    · next e2 =>
      cases e
      obtain ⟨-, d, u, c1, -, c2⟩ := hk i _ e1
      refine ⟨_, ?_, c2 k (Nat.le_of_ble_eq_true e2)⟩
      unfold zt_at
      rw [c1]
    · cases e
  · cases e
noncomputable def ze_lk (T : zx_Tr zt_C) (i k : Nat) (S : ze_S) : Option (List ze_S) := match zt_fo i (zt_k (k : Int)) S.1.2.2.2.1 with
  | some _ => some [S]
  | none => match ze_ty T i k with
    | none => none
    | some y => match zt_ld 0 i (zt_k (k : Int)) y S.1.2.2.1 S.1 with
      | none => none
      | some l => some (ze_tls S.2 l)
theorem ze_lk_in {Z : ze_Z} {T : zx_Tr zt_C} {K0 i k : Nat} : ze_cov Z T K0 (ze_lk T i k) := by
  intro S l r R L st h hk hg hA
  unfold ze_lk at hA
  split at hA
  · cases hA
    exact ⟨S, List.mem_cons_self, r, R, fun _ _ => rfl, fun _ _ => rfl, Nat.le_refl _, Nat.le_refl _, hg⟩
  · split at hA
    · cases hA
    · next y e1 =>
      split at hA
      · cases hA
      · next l2 e2 =>
        cases hA
        obtain ⟨v, h1, h2⟩ := ze_ty_in hk e1
        obtain ⟨q, g1, g2, g3, r2, g4, g5⟩ := zt_ld_in hg.1 hg.1.2.2.1 hg.1.2.2.2.2.2.1 zt_k_lt (zt_k_ev r _).symm h1 h2 e2
        exact ⟨_, ze_tls_in g1, r2, R, g4, fun _ _ => rfl, g3, Nat.le_refl _, zt_tl_in g5, ze_x_eq (n := S.1.1) g4 (fun _ _ => rfl) hg.2.2 hg.2.1, ze_wx_mono g3 hg.2.2⟩
/-- a row opened -/
noncomputable def ze_ox (a : Nat) (X : ze_X) : ze_X := match ze_lm a X.2.1 with
  | some _ => X
  | none => (X.1 + 1, (a, X.1) :: X.2.1, X.2.2)
noncomputable def ze_op (a : Nat) (S : ze_S) : Option (List ze_S) := some [(S.1, ze_ox a S.2)]
theorem ze_op_in {Z : ze_Z} {T : zx_Tr zt_C} {K0 a : Nat} : ze_cov Z T K0 (ze_op a) := by
  intro S l r R L st h hk hg hA
  cases hA
  refine ⟨_, List.mem_cons_self, ?_⟩
  unfold ze_ox
  split
  · exact ⟨r, R, fun _ _ => rfl, fun _ _ => rfl, Nat.le_refl _, Nat.le_refl _, hg⟩
  · let f : Nat → Int := fun j => match zt_at h a j with | some w => ze_num w | none => 0
    let R2 : Nat → Nat → Int := fun i => if i = S.2.1 then f else R i
    have hR : ∀ i, i < S.2.1 → R2 i = R i := fun i hi => if_neg (Nat.ne_of_lt hi)
    have hRn : R2 S.2.1 = f := if_pos rfl
    obtain ⟨w1, w2, w3, w4⟩ := hg.2.2
    refine ⟨r, R2, fun _ _ => rfl, hR, Nat.le_refl _, Nat.le_succ _, hg.1, ⟨fun q hq => ?_, (ze_x_eq (n := S.1.1) (fun _ _ => rfl) hR hg.2.2 hg.2.1).2⟩, fun q hq => ?_, w2, fun q hq => Nat.lt_succ_of_lt (w3 q hq), fun p hp => ⟨fun i hi => Nat.lt_succ_of_lt ((w4 p hp).1 i hi), (w4 p hp).2⟩⟩
    · rcases List.mem_cons.mp hq with z | z
      · rw [z]
        intro j w hw2
        rw [hRn]
        show ze_num w = (match zt_at h a j with | some w => ze_num w | none => 0)
        have hw3 : zt_at h a j = some w := hw2
        rw [hw3]
      · rw [hR _ (w1 q z)]
        exact hg.2.1.1 q z
    · rcases List.mem_cons.mp hq with z | z
      · rw [z]
        exact Nat.lt_succ_self _
      · exact Nat.lt_succ_of_lt (w1 q z)
/-- what is told of a row's places, as words -/
noncomputable def ze_sp (a q : Nat) : List ((Nat × zt_E) × zt_V) → List ze_P
  | [] => []
  | p :: l => match Nat.beq p.1.1 a && Nat.blt p.2.1 2 with
    | true => (0, [q], [p.1.2, p.2.2.1]) :: ze_sp a q l
    | false => ze_sp a q l
theorem ze_sp_in {Z : ze_Z} (hZ : ze_Zk Z) {r : Nat → Int} {R : Nat → Nat → Int} {h : zx_H} {a q n m : Nat} (hr : ze_row h a (R q)) (hq : q < m) : ∀ {A : List ((Nat × zt_E) × zt_V)}, zt_o r A h → (∀ p ∈ A, zt_lt n p.1.2 ∧ zt_lt n p.2.2.1) → ∀ p ∈ ze_sp a q A, Z p.1 (p.2.1.map R) (p.2.2.map (zt_ev r)) ∧ (∀ i ∈ p.2.1, i < m) ∧ ∀ e ∈ p.2.2, zt_lt n e
  | [], _, _, p, hp => nomatch hp
  | b :: A, ho, hw, p, hp => by
    have ih := ze_sp_in hZ (m := m) (n := n) hr hq (A := A) (fun x hx => ho x (List.mem_cons_of_mem _ hx)) (fun x hx => hw x (List.mem_cons_of_mem _ hx)) p
    unfold ze_sp at hp
    split at hp
    · next e =>
      simp only [Bool.and_eq_true] at e
      rcases List.mem_cons.mp hp with z | z
      · obtain ⟨j, v, h1, h2, h3⟩ := ho b List.mem_cons_self
        have e1 : b.1.1 = a := Nat.eq_of_beq_eq_true e.1
        rw [z]
        refine ⟨?_, fun i hi => by rw [List.mem_singleton.mp hi]; exact hq, fun f hf => ?_⟩
        · show Z 0 [R q] [zt_ev r b.1.2, zt_ev r b.2.2.1]
          rw [e1] at h2
          refine (hZ.1 _ _ _).mpr ⟨by rw [← h1]; exact Int.natCast_nonneg j, ?_⟩
          rw [← h1, Int.toNat_natCast, ← ze_num_v h3 e.2]
          exact (hr j v h2).symm
        · rcases List.mem_cons.mp hf with y | y
          · rw [y]
            exact (hw b List.mem_cons_self).1
          · rw [List.mem_singleton.mp y]
            exact (hw b List.mem_cons_self).2
      · exact ih z
    · exact ih hp
noncomputable def ze_pp (ps : List ze_P) (X : ze_X) : ze_X := (X.1, X.2.1, X.2.2.1, X.2.2.2.1, ps ++ X.2.2.2.2)
noncomputable def ze_sl (a : Nat) (S : ze_S) : Option (List ze_S) := match ze_lm a S.2.2.1 with
  | none => none
  | some q => some [(S.1, ze_pp (ze_sp a q S.1.2.2.2.1) S.2)]
theorem ze_sl_in {Z : ze_Z} (hZ : ze_Zk Z) {T : zx_Tr zt_C} {K0 a : Nat} : ze_cov Z T K0 (ze_sl a) := by
  intro S l r R L st h hk hg hA
  unfold ze_sl at hA
  split at hA
  · cases hA
  · next q e1 =>
    cases hA
    have hq := ze_lm_in e1
    have hs := ze_sp_in hZ (hg.2.1.1 _ hq) (hg.2.2.1 _ hq) hg.1.2.2.2.1 hg.1.2.2.2.2.2.2.1
    obtain ⟨w1, w2, w3, w4⟩ := hg.2.2
    refine ⟨_, List.mem_cons_self, r, R, fun _ _ => rfl, fun _ _ => rfl, Nat.le_refl _, Nat.le_refl _, hg.1, ⟨hg.2.1.1, fun p hp => ?_⟩, w1, w2, w3, fun p hp => ?_⟩
    · rcases List.mem_append.mp hp with z | z
      · exact (hs p z).1
      · exact hg.2.1.2 p z
    · rcases List.mem_append.mp hp with z | z
      · exact (hs p z).2
      · exact w4 p z
/-- atoms: 0 of the frame, 1 on the stack, 2 a place, 3 a mark; terms -/
abbrev ze_A : Type := Nat × Nat × Nat
abbrev ze_M : Type := Int × List (Int × ze_A)
noncomputable def ze_nv (a : Option zt_V) : Option zt_E := match a with
  | none => none
  | some a => match Nat.blt a.1 2 with
    | true => some a.2.1
    | false => none
noncomputable def ze_ae (S : ze_S) (a : ze_A) : Option zt_E := match a.1 with
  | 0 => ze_nv (zt_lk S.1.2.1 a.2.1)
  | 1 => ze_nv (zx_nth S.1.2.2.1 a.2.1)
  | 2 => ze_nv (zt_fo a.2.1 (zt_k (a.2.2 : Int)) S.1.2.2.2.1)
  | _ => ze_lg a.2.1 S.2.2.2.1
noncomputable def ze_me (S : ze_S) (c : Int) : List (Int × ze_A) → Option zt_E
  | [] => some (c, [])
  | q :: l => match ze_ae S q.2 with
    | none => none
    | some e => match ze_me S c l with
      | none => none
      | some f => some (zt_add (zt_sc q.1 e) f)
noncomputable def ze_ms (S : ze_S) : List ze_M → Option (List zt_E)
  | [] => some []
  | q :: l => match ze_me S q.1 q.2 with
    | none => none
    | some e => match ze_ms S l with
      | none => none
      | some m => some (e :: m)
/-- rows: 0 of a cell, 1 a mark -/
noncomputable def ze_qe (S : ze_S) (q : Nat × Nat) : Option Nat := match q.1 with
  | 0 => ze_lm q.2 S.2.2.1
  | _ => ze_lm q.2 S.2.2.2.2.1
noncomputable def ze_qs (S : ze_S) : List (Nat × Nat) → Option (List Nat)
  | [] => some []
  | q :: l => match ze_qe S q with
    | none => none
    | some e => match ze_qs S l with
      | none => none
      | some m => some (e :: m)
/-- a rule: how many numbers, what it wants of numbers, words; how many new numbers; what it gives -/
abbrev ze_U : Type := Nat × List zt_E × List ze_P × Nat × List zt_E × List ze_P
def ze_uok (Z : ze_Z) (u : ze_U) : Prop := ∀ (p : Nat → Int) (q : Nat → Nat → Int), zt_ok p u.2.1 → (∀ w ∈ u.2.2.1, Z w.1 (w.2.1.map q) (w.2.2.map (zt_ev p))) → ∃ p2 : Nat → Int, (∀ i, i < u.1 → p2 i = p i) ∧ zt_ok p2 u.2.2.2.2.1 ∧ ∀ w ∈ u.2.2.2.2.2, Z w.1 (w.2.1.map q) (w.2.2.map (zt_ev p2))
noncomputable def ze_su (es : List zt_E) (i : Nat) : zt_E := match zx_nth es i with
  | some e => e
  | none => (0, [])
noncomputable def ze_ru (qs : List Nat) (i : Nat) : Nat := match zx_nth qs i with
  | some e => e
  | none => 0
noncomputable def ze_s2 (k n : Nat) (su : Nat → zt_E) (i : Nat) : zt_E := match Nat.blt i k with
  | true => su i
  | false => zt_s (n + (i - k))
noncomputable def ze_sP (su : Nat → zt_E) (ru : Nat → Nat) (p : ze_P) : ze_P := (p.1, p.2.1.map ru, p.2.2.map (zt_su su))
noncomputable def ze_u1 (u : ze_U) (es : List zt_E) (qs : List Nat) (S : ze_S) : Bool := ze_all (fun e => zt_ltb S.1.1 e.2) es && (zt_fcs (ze_su es) S.1.2.2.2.2 u.2.1 && (ze_pl (ze_su es) (ze_ru qs) S.1.2.2.2.2 S.2.2.2.2.2 u.2.2.1 && (ze_all (fun f => zt_ltb (S.1.1 + u.2.2.2.1) (zt_su (ze_s2 u.1 S.1.1 (ze_su es)) f).2) u.2.2.2.2.1 && ze_all (fun w => ze_all (fun i => Nat.blt (ze_ru qs i) S.2.1) w.2.1 && ze_all (fun e => zt_ltb (S.1.1 + u.2.2.2.1) (zt_su (ze_s2 u.1 S.1.1 (ze_su es)) e).2) w.2.2) u.2.2.2.2.2)))
noncomputable def ze_ua (u : ze_U) (es : List zt_E) (qs : List Nat) (S : ze_S) : ze_S := ((S.1.1 + u.2.2.2.1, S.1.2.1, S.1.2.2.1, S.1.2.2.2.1, u.2.2.2.2.1.map (zt_su (ze_s2 u.1 S.1.1 (ze_su es))) ++ S.1.2.2.2.2), ze_pp (u.2.2.2.2.2.map (ze_sP (ze_s2 u.1 S.1.1 (ze_su es)) (ze_ru qs))) S.2)
noncomputable def ze_rule (Us : List ze_U) (k : Nat) (rows : List (Nat × Nat)) (ts : List ze_M) (S : ze_S) : Option (List ze_S) := match zx_nth Us k with
  | none => none
  | some u => match ze_ms S ts with
    | none => none
    | some es => match ze_qs S rows with
      | none => none
      | some qs => match ze_u1 u es qs S with
        | false => none
        | true => some [ze_ua u es qs S]
theorem ze_su_lt {n : Nat} {es : List zt_E} (h : ze_all (fun e => zt_ltb n e.2) es = true) (i : Nat) : zt_lt n (ze_su es i) := by
  unfold ze_su
  split
  · next e e1 =>
    rw [zx_nth_eq] at e1
    exact zt_ltb_in (ze_all_in h e (List.mem_of_getElem? e1))
  · exact fun t ht => nomatch ht
/-- two ways to the same numbers -/
theorem ze_s2_ev {r p2 : Nat → Int} {k n : Nat} {su : Nat → zt_E} (hl : ∀ i, zt_lt n (su i)) (hp : ∀ i, i < k → p2 i = zt_ev r (su i)) : ∀ i, zt_ev (fun j => if j < n then r j else p2 (k + (j - n))) (ze_s2 k n su i) = p2 i := by
  intro i
  unfold ze_s2
  split
  · next e =>
    have e1 : i < k := Nat.le_of_ble_eq_true e
    rw [hp i e1]
    exact zt_ev_eq (n := n) (fun j hj => if_pos hj) (hl i)
  · next e =>
    have e1 : ¬ i < k := fun z => by
      rw [show Nat.blt i k = true from Nat.ble_eq_true_of_le z] at e
      cases e
    rw [zt_s_ev]
    show (if n + (i - k) < n then r (n + (i - k)) else p2 (k + (n + (i - k) - n))) = p2 i
    rw [if_neg (by omega)]
    congr 1
    omega
theorem ze_sPs {Z : ze_Z} {r : Nat → Int} {R : Nat → Nat → Int} {su : Nat → zt_E} {ru : Nat → Nat} {w : ze_P} (h : Z w.1 (w.2.1.map (fun q => R (ru q))) (w.2.2.map (zt_ev (fun i => zt_ev r (su i))))) : Z (ze_sP su ru w).1 ((ze_sP su ru w).2.1.map R) ((ze_sP su ru w).2.2.map (zt_ev r)) := by
  show Z w.1 ((w.2.1.map ru).map R) ((w.2.2.map (zt_su su)).map (zt_ev r))
  rw [List.map_map, List.map_map]
  have h2 : w.2.2.map (zt_ev (fun i => zt_ev r (su i))) = w.2.2.map (zt_ev r ∘ zt_su su) := ze_map_eq (fun e _ => (zt_su_ev r su e).symm)
  rw [← h2]
  exact h
theorem ze_rule_in {Z : ze_Z} {T : zx_Tr zt_C} {K0 k : Nat} {Us : List ze_U} (hU : ∀ u ∈ Us, ze_uok Z u) {rows : List (Nat × Nat)} {ts : List ze_M} : ze_cov Z T K0 (ze_rule Us k rows ts) := by
  intro S l r R L st h hk hg hA
  unfold ze_rule at hA
  split at hA
  · cases hA
  · next u e1 =>
    split at hA
    · cases hA
    · next es e2 =>
      split at hA
      · cases hA
      · next qs e3 =>
        split at hA
        · cases hA
        · next e4 =>
          cases hA
          rw [zx_nth_eq] at e1
          unfold ze_u1 at e4
          simp only [Bool.and_eq_true] at e4
          obtain ⟨f1, f2, f3, f4, f5⟩ := e4
          have hl := ze_su_lt f1
          obtain ⟨p2, hp, hc, hd⟩ := hU u (List.mem_of_getElem? e1) (fun i => zt_ev r (ze_su es i)) (fun q => R (ze_ru qs q)) (zt_fcs_in hg.1.1 f2) (ze_pl_in hg.1.1 hg.2.1.2 f3)
          have hs := ze_s2_ev (n := S.1.1) hl hp
          let r2 : Nat → Int := fun j => if j < S.1.1 then r j else p2 (u.1 + (j - S.1.1))
          have hr : ∀ i, i < S.1.1 → r2 i = r i := fun i hi => if_pos hi
          have hle : S.1.1 ≤ S.1.1 + u.2.2.2.1 := Nat.le_add_right _ _
          have hp2 : (fun i => zt_ev r2 (ze_s2 u.1 S.1.1 (ze_su es) i)) = p2 := funext hs
          obtain ⟨g1, g2, g3, g4, w1, w2, w3, w4⟩ := zt_g_eq (r2 := r2) hr hg.1
          obtain ⟨x1, x2⟩ := ze_x_eq (n := S.1.1) hr (fun _ _ => rfl) hg.2.2 hg.2.1
          obtain ⟨v1, v2, v3, v4⟩ := ze_wx_mono hle hg.2.2
          refine ⟨_, List.mem_cons_self, r2, R, hr, fun _ _ => rfl, hle, Nat.le_refl _, ⟨fun f hf => ?_, g2, g3, g4, fun q hq => zt_lt_mono (w1 q hq) hle, fun q hq => zt_lt_mono (w2 q hq) hle, fun q hq => ⟨zt_lt_mono (w3 q hq).1 hle, zt_lt_mono (w3 q hq).2 hle⟩, fun f hf => ?_⟩, ⟨x1, fun w hw => ?_⟩, v1, v2, v3, fun w hw => ?_⟩
          · rcases List.mem_append.mp hf with z | z
            · obtain ⟨f0, y1, rfl⟩ := List.mem_map.mp z
              rw [zt_su_ev, hp2]
              exact hc f0 y1
            · exact g1 f z
          · rcases List.mem_append.mp hf with z | z
            · obtain ⟨f0, y1, rfl⟩ := List.mem_map.mp z
              exact zt_ltb_in (ze_all_in f4 f0 y1)
            · exact zt_lt_mono (w4 f z) hle
          · rcases List.mem_append.mp hw with z | z
            · obtain ⟨w0, y1, rfl⟩ := List.mem_map.mp z
              refine ze_sPs ?_
              rw [hp2]
              exact hd w0 y1
            · exact x2 w z
          · rcases List.mem_append.mp hw with z | z
            · obtain ⟨w0, y1, rfl⟩ := List.mem_map.mp z
              have y2 := ze_all_in f5 w0 y1
              simp only [Bool.and_eq_true] at y2
              refine ⟨fun i hi => ?_, fun e he => ?_⟩
              · obtain ⟨j, y3, rfl⟩ := List.mem_map.mp hi
                exact Nat.le_of_ble_eq_true (ze_all_in y2.1 j y3)
              · obtain ⟨e0, y3, rfl⟩ := List.mem_map.mp he
                exact zt_ltb_in (ze_all_in y2.2 e0 y3)
            · exact v4 w z
/-- marks set -/
noncomputable def ze_sg (g : Nat) (t : ze_M) (S : ze_S) : Option (List ze_S) := match ze_me S t.1 t.2 with
  | none => none
  | some e => match zt_ltb S.1.1 e.2 with
    | false => none
    | true => some [(S.1, (S.2.1, S.2.2.1, (g, e) :: S.2.2.2.1, S.2.2.2.2))]
theorem ze_sg_in {Z : ze_Z} {T : zx_Tr zt_C} {K0 g : Nat} {t : ze_M} : ze_cov Z T K0 (ze_sg g t) := by
  intro S l r R L st h hk hg hA
  unfold ze_sg at hA
  split at hA
  · cases hA
  · next e e1 =>
    split at hA
    · cases hA
    · next e2 =>
      cases hA
      obtain ⟨w1, w2, w3, w4⟩ := hg.2.2
      refine ⟨_, List.mem_cons_self, r, R, fun _ _ => rfl, fun _ _ => rfl, Nat.le_refl _, Nat.le_refl _, hg.1, hg.2.1, w1, fun q hq => ?_, w3, w4⟩
      rcases List.mem_cons.mp hq with z | z
      · rw [z]
        exact zt_ltb_in e2
      · exact w2 q z
noncomputable def ze_sq (g : Nat) (t : Nat × Nat) (S : ze_S) : Option (List ze_S) := match ze_qe S t with
  | none => none
  | some e => match Nat.blt e S.2.1 with
    | false => none
    | true => some [(S.1, (S.2.1, S.2.2.1, S.2.2.2.1, (g, e) :: S.2.2.2.2.1, S.2.2.2.2.2))]
theorem ze_sq_in {Z : ze_Z} {T : zx_Tr zt_C} {K0 g : Nat} {t : Nat × Nat} : ze_cov Z T K0 (ze_sq g t) := by
  intro S l r R L st h hk hg hA
  unfold ze_sq at hA
  split at hA
  · cases hA
  · next e e1 =>
    split at hA
    · cases hA
    · next e2 =>
      cases hA
      obtain ⟨w1, w2, w3, w4⟩ := hg.2.2
      refine ⟨_, List.mem_cons_self, r, R, fun _ _ => rfl, fun _ _ => rfl, Nat.le_refl _, Nat.le_refl _, hg.1, hg.2.1, w1, w2, fun q hq => ?_, w4⟩
      rcases List.mem_cons.mp hq with z | z
      · rw [z]
        exact Nat.le_of_ble_eq_true e2
      · exact w3 q z
/-- both cases -/
noncomputable def ze_sc (t : ze_M) (S : ze_S) : Option (List ze_S) := match ze_me S t.1 t.2 with
  | none => none
  | some e => match zt_ltb S.1.1 e.2 with
    | false => none
    | true => some [(zt_fact e S.1, S.2), (zt_fact (zt_sub (zt_sc (-1) e) (zt_k 1)) S.1, S.2)]
theorem ze_sc_in {Z : ze_Z} {T : zx_Tr zt_C} {K0 : Nat} {t : ze_M} : ze_cov Z T K0 (ze_sc t) := by
  intro S l r R L st h hk hg hA
  unfold ze_sc at hA
  split at hA
  · cases hA
  · next e e1 =>
    split at hA
    · cases hA
    · next e2 =>
      cases hA
      have hl := zt_ltb_in e2
      by_cases hc : 0 ≤ zt_ev r e
      · exact ⟨_, List.mem_cons_self, r, R, fun _ _ => rfl, fun _ _ => rfl, Nat.le_refl _, Nat.le_refl _, zt_fact_in hg.1 hc hl, hg.2⟩
      · exact ⟨_, List.mem_cons_of_mem _ List.mem_cons_self, r, R, fun _ _ => rfl, fun _ _ => rfl, Nat.le_refl _, Nat.le_refl _, zt_fact_in hg.1 (by rw [zt_sub_ev, zt_sc_ev, zt_k_ev]; omega) (zt_sub_lt (zt_sc_lt hl) zt_k_lt), hg.2⟩
/-- words that are no longer wanted -/
noncomputable def ze_pd (ids : List Nat) : List ze_P → List ze_P
  | [] => []
  | p :: l => match zt_el p.1 ids with
    | true => ze_pd ids l
    | false => p :: ze_pd ids l
theorem ze_pd_in {ids : List Nat} : ∀ {l : List ze_P} {p : ze_P}, p ∈ ze_pd ids l → p ∈ l
  | [], p, h => nomatch h
  | q :: l, p, h => by
    unfold ze_pd at h
    split at h
    · exact List.mem_cons_of_mem _ (ze_pd_in h)
    · rcases List.mem_cons.mp h with z | z
      · rw [z]
        exact List.mem_cons_self
      · exact List.mem_cons_of_mem _ (ze_pd_in z)
noncomputable def ze_dp (ids : List Nat) (S : ze_S) : Option (List ze_S) := some [(S.1, (S.2.1, S.2.2.1, S.2.2.2.1, S.2.2.2.2.1, ze_pd ids S.2.2.2.2.2))]
theorem ze_dp_in {Z : ze_Z} {T : zx_Tr zt_C} {K0 : Nat} {ids : List Nat} : ze_cov Z T K0 (ze_dp ids) := by
  intro S l r R L st h hk hg hA
  cases hA
  exact ⟨_, List.mem_cons_self, r, R, fun _ _ => rfl, fun _ _ => rfl, Nat.le_refl _, Nat.le_refl _, hg.1, ⟨hg.2.1.1, fun p hp => hg.2.1.2 p (ze_pd_in hp)⟩, hg.2.2.1, hg.2.2.2.1, hg.2.2.2.2.1, fun p hp => hg.2.2.2.2.2 p (ze_pd_in hp)⟩
/-- what is done at a place besides: its sort, numbers, rows, terms -/
abbrev ze_G : Type := Nat × List Nat × List (Nat × Nat) × List ze_M
noncomputable def ze_gh (T : zx_Tr zt_C) (Us : List ze_U) (c : ze_G) : ze_S → Option (List ze_S) := match c with
  | (0, i :: k :: _, _, _) => ze_lk T i k
  | (1, a :: _, _, _) => ze_op a
  | (2, a :: _, _, _) => ze_sl a
  | (3, k :: _, rows, ts) => ze_rule Us k rows ts
  | (4, g :: _, _, t :: _) => ze_sg g t
  | (5, g :: _, t :: _, _) => ze_sq g t
  | (6, _, _, t :: _) => ze_sc t
  | (7, ids, _, _) => ze_dp ids
  | _ => fun _ => none
theorem ze_gh_in {Z : ze_Z} (hZ : ze_Zk Z) {T : zx_Tr zt_C} {K0 : Nat} {Us : List ze_U} (hU : ∀ u ∈ Us, ze_uok Z u) (c : ze_G) : ze_cov Z T K0 (ze_gh T Us c) := by
  unfold ze_gh
  split
  · exact ze_lk_in
  · exact ze_op_in
  · exact ze_sl_in hZ
  · exact ze_rule_in hU
  · exact ze_sg_in
  · exact ze_sq_in
  · exact ze_sc_in
  · exact ze_dp_in
  · intro S l r R L st h hk hg hA
    cases hA
/-- where it can't be done the state stays -/
noncomputable def ze_g1 (T : zx_Tr zt_C) (Us : List ze_U) (c : ze_G) (S : ze_S) : List ze_S := match ze_gh T Us c S with
  | some l => l
  | none => [S]
noncomputable def ze_cat (f : ze_S → List ze_S) : List ze_S → List ze_S
  | [] => []
  | S :: l => f S ++ ze_cat f l
theorem ze_cat_in {f : ze_S → List ze_S} {x : ze_S} : ∀ {l : List ze_S} {S : ze_S}, S ∈ l → x ∈ f S → x ∈ ze_cat f l
  | [], S, h, _ => nomatch h
  | T :: l, S, h, hx => by
    rcases List.mem_cons.mp h with z | z
    · rw [z] at hx
      exact List.mem_append_left _ hx
    · exact List.mem_append_right _ (ze_cat_in z hx)
noncomputable def ze_gl (T : zx_Tr zt_C) (Us : List ze_U) : List ze_G → List ze_S → List ze_S
  | [], l => l
  | c :: cs, l => ze_gl T Us cs (ze_cat (ze_g1 T Us c) l)
theorem ze_gl_in {Z : ze_Z} (hZ : ze_Zk Z) {T : zx_Tr zt_C} {K0 : Nat} {Us : List ze_U} (hU : ∀ u ∈ Us, ze_uok Z u) {n m : Nat} {r0 : Nat → Int} {R0 : Nat → Nat → Int} {L : zx_L} {st : List Value} {h : zx_H} (hk : zt_hk T K0 h) : ∀ (cs : List ze_G) (l : List ze_S), (∃ S ∈ l, ∃ (r : Nat → Int) (R : Nat → Nat → Int), (∀ i, i < n → r i = r0 i) ∧ (∀ i, i < m → R i = R0 i) ∧ n ≤ S.1.1 ∧ m ≤ S.2.1 ∧ ze_g Z r R S L st h) →
    ∃ S ∈ ze_gl T Us cs l, ∃ (r : Nat → Int) (R : Nat → Nat → Int), (∀ i, i < n → r i = r0 i) ∧ (∀ i, i < m → R i = R0 i) ∧ n ≤ S.1.1 ∧ m ≤ S.2.1 ∧ ze_g Z r R S L st h
  | [], l, hl => hl
  | c :: cs, l, hl => by
    refine ze_gl_in hZ hU hk cs _ ?_
    obtain ⟨S, h1, r, R, h2, h3, h4, h5, h6⟩ := hl
    cases e : ze_gh T Us c S with
    | none =>
      refine ⟨S, ze_cat_in h1 ?_, r, R, h2, h3, h4, h5, h6⟩
      unfold ze_g1
      rw [e]
      exact List.mem_cons_self
    | some l2 =>
      obtain ⟨q, g1, r2, R2, g2, g3, g4, g5, g6⟩ := ze_gh_in hZ hU c S l2 r R L st h hk h6 e
      refine ⟨q, ze_cat_in h1 ?_, r2, R2, fun i hi => (g2 i (Nat.lt_of_lt_of_le hi h4)).trans (h2 i hi), fun i hi => (g3 i (Nat.lt_of_lt_of_le hi h5)).trans (h3 i hi), Nat.le_trans h4 g4, Nat.le_trans h5 g5, g6⟩
      unfold ze_g1
      rw [e]
      exact g1
