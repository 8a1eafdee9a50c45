/-! ===== what is known behind each step: numbers, locals, stack, questions ===== -/
noncomputable abbrev zt_R : Type := Option (List (Nat × zt_S))
/-- whatever a step does from a state that is covered, one of the states told covers it -/
def zt_pur (g : zx_F) (A : zt_S → zt_R) : Prop := ∀ (S : zt_S) (l : List (Nat × zt_S)) (r : Nat → Int) (L : zx_L) (st : List Value) (h : zx_H), zt_g r S L st h → A S = some l →
  ∃ q ∈ l, ∃ (r2 : Nat → Int) (L2 : zx_L) (st2 : List Value), zt_go g L st h q.1 L2 st2 h ∧ (∀ i, i < S.1 → r2 i = r i) ∧ S.1 ≤ q.2.1 ∧ zt_g r2 q.2 L2 st2 h
theorem zt_one {g : zx_F} {L L2 : zx_L} {st st2 : List Value} {h : zx_H} {S S2 : zt_S} {r r2 : Nat → Int} {pc : Nat} (h1 : zt_go g L st h pc L2 st2 h) (h2 : ∀ i, i < S.1 → r2 i = r i) (h3 : S.1 ≤ S2.1) (h4 : zt_g r2 S2 L2 st2 h) :
    ∃ q ∈ [(pc, S2)], ∃ (r2 : Nat → Int) (L2 : zx_L) (st2 : List Value), zt_go g L st h q.1 L2 st2 h ∧ (∀ i, i < S.1 → r2 i = r i) ∧ S.1 ≤ q.2.1 ∧ zt_g r2 q.2 L2 st2 h :=
  ⟨_, List.mem_cons_self, r2, L2, st2, h1, h2, h3, h4⟩
theorem zt_new_n {t : Nat} {lo hi : Int} {fs : zt_E → List zt_E} {B : List zt_V} {S : zt_S} : S.1 ≤ (zt_new t lo hi fs B S).1 := Nat.le_succ _
theorem zt_fit_n {e : zt_E} {B : List zt_V} {S : zt_S} : S.1 ≤ (zt_fI e B S).1 := by
  unfold zt_fI
  split
  · exact Nat.le_refl _
  · exact Nat.le_succ _
theorem zt_fitJ_n {e : zt_E} {B : List zt_V} {S : zt_S} : S.1 ≤ (zt_fJ e B S).1 := by
  unfold zt_fJ
  split
  · exact Nat.le_refl _
  · exact Nat.le_succ _
theorem zt_gi (x : Int32) : zx_i x = .int x := zx_i_eq x
/-- a number, null, a cell -/
noncomputable def zt_aci (a : zt_V) (npc : Nat) (S : zt_S) : zt_R := some [(npc, zt_stk (a :: S.2.2.1) S)]
theorem zt_aci_in {v : Value} {a : zt_V} {npc : Nat} (ha : ∀ r, zt_val r a v) (hw : ∀ n, zt_lt n a.2.1) : zt_pur (zx_ci v npc) (zt_aci a npc) := by
  intro S l r L st h hg hA
  cases hA
  exact zt_one (fun _ _ _ => rfl) (fun _ _ => rfl) (Nat.le_refl _) (zt_stk_in hg ⟨ha r, hg.2.2.1⟩ (fun q hq => (List.mem_cons.mp hq).elim (fun z => by rw [z]; exact hw _) (hg.2.2.2.2.2.1 q)))
theorem zt_aci_i {x : Int32} {npc : Nat} : zt_pur (zx_ci (.int x) npc) (zt_aci (0, zt_k x.toInt, 0) npc) := zt_aci_in (fun r => ⟨x, rfl, (zt_k_ev r _).symm⟩) (fun _ => zt_k_lt)
theorem zt_aci_l {x : Int64} {npc : Nat} : zt_pur (zx_ci (.long x) npc) (zt_aci (1, zt_k x.toInt, 0) npc) := zt_aci_in (fun r => ⟨x, rfl, (zt_k_ev r _).symm⟩) (fun _ => zt_k_lt)
theorem zt_aci_n {npc : Nat} : zt_pur (zx_ci .null npc) (zt_aci (3, zt_k 0, 0) npc) := zt_aci_in (fun r => rfl) (fun _ => zt_k_lt)
theorem zt_aci_r {i npc : Nat} : zt_pur (zx_ci (.ref i) npc) (zt_aci (2, zt_k 0, i) npc) := zt_aci_in (fun r => rfl) (fun _ => zt_k_lt)
theorem zt_atx {i npc : Nat} : zt_pur (zx_ldcs i npc) (zt_aci (2, zt_k 0, i) npc) := by
  intro S l r L st h hg hA
  cases hA
  exact zt_one (fun _ _ _ => rfl) (fun _ _ => rfl) (Nat.le_refl _) (zt_stk_in hg ⟨rfl, hg.2.2.1⟩ (fun q hq => (List.mem_cons.mp hq).elim (fun z => by rw [z]; exact zt_k_lt) (hg.2.2.2.2.2.1 q)))
/-- locals -/
noncomputable def zt_lk (l : List (Nat × zt_V)) (i : Nat) : Option zt_V := List.rec (motive := fun _ => Option zt_V) none (fun q _ ih => Bool.rec (motive := fun _ => Option zt_V) ih (some q.2) (Nat.beq q.1 i)) l
theorem zt_lk_c (q : Nat × zt_V) (l : List (Nat × zt_V)) (i : Nat) : zt_lk (q :: l) i = (match Nat.beq q.1 i with | true => some q.2 | false => zt_lk l i) := by
  show Bool.rec (motive := fun _ => Option zt_V) (zt_lk l i) (some q.2) (Nat.beq q.1 i) = _
  cases (Nat.beq q.1 i) <;> rfl
theorem zt_lk_in : ∀ {A : List (Nat × zt_V)} {i : Nat} {a : zt_V}, zt_lk A i = some a → (i, a) ∈ A
  | [], i, a, h => nomatch h
  | q :: l, i, a, h => by
    have h9 : (match Nat.beq q.1 i with | true => some q.2 | false => zt_lk l i) = some a := by
      rw [zt_lk_c] at h
      exact h
    cases e : Nat.beq q.1 i with
    | true =>
      rw [e] at h9
      have e1 : q.1 = i := Nat.eq_of_beq_eq_true e
      cases h9
      rw [← e1]
      exact List.mem_cons_self
    | false =>
      rw [e] at h9
      exact List.mem_cons_of_mem _ (zt_lk_in h9)
noncomputable def zt_tg (tag t : Nat) : Bool := match tag with
  | 0 => Nat.beq t 0
  | 1 => Nat.beq t 1
  | _ => Nat.beq t 2 || Nat.beq t 3
noncomputable def zt_alo (tag i npc : Nat) (S : zt_S) : zt_R := match zt_lk S.2.1 i with
  | none => none
  | some a => match zt_tg tag a.1 with
    | true => some [(npc, zt_stk (a :: S.2.2.1) S)]
    | false => none
theorem zt_alo_in {g : zx_F} {tag i npc : Nat} (hgo : ∀ (r : Nat → Int) (a : zt_V) (v : Value) (L : zx_L) (st : List Value) (h : zx_H), zt_tg tag a.1 = true → zt_val r a v → zx_ld L i = some v → zt_go g L st h npc L (v :: st) h) : zt_pur g (zt_alo tag i npc) := by
  intro S l r L st h hg hA
  unfold zt_alo at hA
  split at hA
  · cases hA
  · next a e1 =>
    split at hA
    · next e2 =>
      cases hA
      obtain ⟨v, h1, h2⟩ := hg.2.1 _ (zt_lk_in e1)
      exact zt_one (hgo r a v L st h e2 h2 h1) (fun _ _ => rfl) (Nat.le_refl _) (zt_stk_in hg ⟨h2, hg.2.2.1⟩ (fun q hq => (List.mem_cons.mp hq).elim (fun z => by rw [z]; exact hg.2.2.2.2.1 _ (zt_lk_in e1)) (hg.2.2.2.2.2.1 q)))
    · cases hA
theorem zt_aloI {i npc : Nat} : zt_pur (zx_loI i npc) (zt_alo 0 i npc) := zt_alo_in (fun r a v L st h e1 e2 e3 => by
  obtain ⟨t, e, j⟩ := a
  obtain rfl : t = 0 := Nat.eq_of_beq_eq_true e1
  obtain ⟨x, rfl, -⟩ := e2
  intro rec k sl
  unfold zx_loI
  rw [e3])
theorem zt_aloJ {i npc : Nat} : zt_pur (zx_loJ i npc) (zt_alo 1 i npc) := zt_alo_in (fun r a v L st h e1 e2 e3 => by
  obtain ⟨t, e, j⟩ := a
  obtain rfl : t = 1 := Nat.eq_of_beq_eq_true e1
  obtain ⟨x, rfl, -⟩ := e2
  intro rec k sl
  unfold zx_loJ
  rw [e3])
theorem zt_aloA {i npc : Nat} : zt_pur (zx_loA i npc) (zt_alo 2 i npc) := zt_alo_in (fun r a v L st h e1 e2 e3 => by
  obtain ⟨t, e, j⟩ := a
  have e4 : (Nat.beq t 2 || Nat.beq t 3) = true := e1
  intro rec k sl
  unfold zx_loA
  rw [e3]
  rcases Bool.or_eq_true_iff.mp e4 with q | q
  · obtain rfl : t = 2 := Nat.eq_of_beq_eq_true q
    obtain rfl : v = .ref j := e2
    rfl
  · obtain rfl : t = 3 := Nat.eq_of_beq_eq_true q
    obtain rfl : v = .null := e2
    rfl)
/-- the locals that a store leaves -/
noncomputable def zt_cov (w : Bool) (i : Nat) (l : List (Nat × zt_V)) : List (Nat × zt_V) := List.rec (motive := fun _ => List (Nat × zt_V)) [] (fun q _ ih => Bool.rec (motive := fun _ => List (Nat × zt_V)) (q :: ih) ih (Nat.beq q.1 i || (w && Nat.beq q.1 (Nat.succ i)) || (Nat.beq (Nat.succ q.1) i && Nat.beq q.2.1 1))) l
theorem zt_cov_c (w : Bool) (i : Nat) (q : Nat × zt_V) (l : List (Nat × zt_V)) : zt_cov w i (q :: l) = (match Nat.beq q.1 i || (w && Nat.beq q.1 (i + 1)) || (Nat.beq (q.1 + 1) i && Nat.beq q.2.1 1) with
    | true => zt_cov w i l
    | false => q :: zt_cov w i l) := by
  show Bool.rec (motive := fun _ => List (Nat × zt_V)) (q :: zt_cov w i l) (zt_cov w i l) (Nat.beq q.1 i || (w && Nat.beq q.1 (i + 1)) || (Nat.beq (q.1 + 1) i && Nat.beq q.2.1 1)) = _
  cases (Nat.beq q.1 i || (w && Nat.beq q.1 (i + 1)) || (Nat.beq (q.1 + 1) i && Nat.beq q.2.1 1)) <;> rfl
theorem zt_cov_in {w : Bool} {i : Nat} : ∀ {A : List (Nat × zt_V)} {q : Nat × zt_V}, q ∈ zt_cov w i A → q ∈ A ∧ q.1 ≠ i ∧ (w = true → q.1 ≠ i + 1) ∧ (q.1 + 1 = i → q.2.1 ≠ 1)
  | [], q, h => nomatch h
  | p :: A, q, h => by
    rw [zt_cov_c] at h
    split at h
    · obtain ⟨h1, h2⟩ := zt_cov_in h
      exact ⟨List.mem_cons_of_mem _ h1, h2⟩
    · next e =>
      rcases List.mem_cons.mp h with e1 | e1
      · subst e1
        simp only [Bool.or_eq_false_iff, Bool.and_eq_false_iff] at e
        refine ⟨List.mem_cons_self, Nat.ne_of_beq_eq_false e.1.1, fun hw => ?_, fun hi => ?_⟩
        · rcases e.1.2 with z | z
          · rw [hw] at z; cases z
          · exact Nat.ne_of_beq_eq_false z
        · rcases e.2 with z | z
          · exact absurd hi (Nat.ne_of_beq_eq_false z)
          · exact Nat.ne_of_beq_eq_false z
      · obtain ⟨h1, h2⟩ := zt_cov_in e1
        exact ⟨List.mem_cons_of_mem _ h1, h2⟩
theorem zt_ld_cov {w : Bool} {i k : Nat} {v : Value} : ∀ {L : zx_L}, zx_ld L k = some v → k ≠ i → (w = true → k ≠ i + 1) → (k + 1 = i → v.category ≠ 2) → zx_ld (L.filter (zx_cv w i)) k = some v
  | [], h, _, _, _ => nomatch h
  | (j, u) :: L, h, h1, h2, h3 => by
    have h9 : (if Nat.beq j k then some u else zx_ld L k) = some v := h
    by_cases e : Nat.beq j k = true
    · rw [if_pos e] at h9
      obtain rfl : j = k := Nat.eq_of_beq_eq_true e
      have hu : u = v := Option.some.inj h9
      subst hu
      have hc : zx_cv w i (j, u) = true := by
        unfold zx_cv
        simp only [Bool.not_eq_true', Bool.or_eq_false_iff, Bool.and_eq_false_iff, beq_eq_false_iff_ne]
        refine ⟨⟨h1, ?_⟩, ?_⟩
        · cases w with
          | true => exact Or.inr (h2 rfl)
          | false => exact Or.inl rfl
        · by_cases hi : j + 1 = i
          · exact Or.inr (h3 hi)
          · exact Or.inl hi
      rw [List.filter_cons_of_pos hc]
      show (if Nat.beq j j then some u else _) = some u
      rw [if_pos e]
    · rw [if_neg e] at h9
      have ih := zt_ld_cov h9 h1 h2 h3
      cases hc : zx_cv w i (j, u) with
      | true =>
        rw [List.filter_cons_of_pos hc]
        show (if Nat.beq j k then some u else zx_ld (L.filter (zx_cv w i)) k) = some v
        rw [if_neg e]
        exact ih
      | false =>
        rw [List.filter_cons_of_neg (by rw [hc]; decide)]
        exact ih
theorem zt_cat {r : Nat → Int} {a : zt_V} {v : Value} (h : zt_val r a v) (h1 : a.1 ≠ 1) : v.category ≠ 2 := by
  obtain ⟨t, e, j⟩ := a
  match t, h, h1 with
  | 0, h, _ => obtain ⟨x, rfl, -⟩ := h; exact (by decide : (1 : Nat) ≠ 2)
  | 1, h, h1 => exact absurd rfl h1
  | 2, h, _ => obtain rfl : v = .ref j := h; exact (by decide : (1 : Nat) ≠ 2)
  | 3, h, _ => obtain rfl : v = .null := h; exact (by decide : (1 : Nat) ≠ 2)
  | 4, h, _ => obtain ⟨x, rfl, -⟩ := h; exact (by decide : (1 : Nat) ≠ 2)
  | 5, h, _ => obtain rfl : v = .retAddr 0 := h; exact (by decide : (1 : Nat) ≠ 2)
  | t + 6, h, _ => exact absurd h (fun z => z)
noncomputable def zt_aso (tag i npc : Nat) (S : zt_S) : zt_R := match S.2.2.1 with
  | [] => none
  | a :: B => match zt_tg tag a.1 with
    | true => some [(npc, (S.1, (i, a) :: zt_cov (Nat.beq tag 1) i S.2.1, B, S.2.2.2))]
    | false => none
theorem zt_sto_in {r : Nat → Int} {S : zt_S} {w : Bool} {i : Nat} {a : zt_V} {B : List zt_V} {L : zx_L} {st st2 : List Value} {h : zx_H} {v : Value} (hg : zt_g r S L st h) (ha : zt_val r a v) (hl : zt_lt S.1 a.2.1) (hv : zt_vs r B st2) (hw : ∀ q ∈ B, zt_lt S.1 q.2.1) : zt_g r (S.1, (i, a) :: zt_cov w i S.2.1, B, S.2.2.2) ((i, v) :: L.filter (zx_cv w i)) st2 h := by
  refine ⟨hg.1, fun q hq => ?_, hv, hg.2.2.2.1, fun q hq => ?_, hw, hg.2.2.2.2.2.2.1, hg.2.2.2.2.2.2.2⟩
  · rcases List.mem_cons.mp hq with e | e
    · rw [e]
      refine ⟨v, ?_, ha⟩
      show (if Nat.beq i i then some v else _) = some v
      rw [if_pos (Nat.beq_refl i)]
    · obtain ⟨h1, h2, h3, h4⟩ := zt_cov_in e
      obtain ⟨u, h5, h6⟩ := hg.2.1 q h1
      refine ⟨u, ?_, h6⟩
      show (if Nat.beq i q.1 then some v else zx_ld (L.filter (zx_cv w i)) q.1) = some u
      rw [if_neg (fun z => h2 (Nat.eq_of_beq_eq_true z).symm)]
      exact zt_ld_cov h5 h2 h3 (fun z => zt_cat h6 (h4 z))
  · rcases List.mem_cons.mp hq with e | e
    · rw [e]
      exact hl
    · exact hg.2.2.2.2.1 q (zt_cov_in e).1
theorem zt_aso_in {g : zx_F} {tag i npc : Nat} (hgo : ∀ (r : Nat → Int) (a : zt_V) (v : Value) (L : zx_L) (st : List Value) (h : zx_H), zt_tg tag a.1 = true → zt_val r a v → zt_go g L (v :: st) h npc ((i, v) :: L.filter (zx_cv (Nat.beq tag 1) i)) st h) : zt_pur g (zt_aso tag i npc) := by
  intro S l r L st h hg hA
  unfold zt_aso at hA
  split at hA
  · cases hA
  · next a B e1 =>
    split at hA
    · next e2 =>
      cases hA
      have hv := hg.2.2.1
      have hw := hg.2.2.2.2.2.1
      rw [e1] at hv hw
      obtain ⟨v, vs, rfl, h1, h2⟩ := zt_vs_cons hv
      exact zt_one (S := S) (hgo r a v L vs h e2 h1) (fun _ _ => rfl) (Nat.le_refl _) (zt_sto_in hg h1 (hw a List.mem_cons_self) h2 (fun q hq => hw q (List.mem_cons_of_mem _ hq)))
    · cases hA
theorem zt_asoI {i npc : Nat} : zt_pur (zx_soI i npc) (zt_aso 0 i npc) := zt_aso_in (fun r a v L st h e1 e2 => by
  obtain ⟨t, e, j⟩ := a
  obtain rfl : t = 0 := Nat.eq_of_beq_eq_true e1
  obtain ⟨x, rfl, -⟩ := e2
  intro rec k sl
  show zx_st false i L (fun L2 => k npc ((i, .int x) :: L2) st h sl) = _
  rw [zx_st_eq]
  rfl)
theorem zt_asoJ {i npc : Nat} : zt_pur (zx_soJ i npc) (zt_aso 1 i npc) := zt_aso_in (fun r a v L st h e1 e2 => by
  obtain ⟨t, e, j⟩ := a
  obtain rfl : t = 1 := Nat.eq_of_beq_eq_true e1
  obtain ⟨x, rfl, -⟩ := e2
  intro rec k sl
  show zx_st true i L (fun L2 => k npc ((i, .long x) :: L2) st h sl) = _
  rw [zx_st_eq]
  rfl)
theorem zt_asoA {i npc : Nat} : zt_pur (zx_soA i npc) (zt_aso 2 i npc) := zt_aso_in (fun r a v L st h e1 e2 => by
  obtain ⟨t, e, j⟩ := a
  have e4 : (Nat.beq t 2 || Nat.beq t 3) = true := e1
  intro rec k sl
  rcases Bool.or_eq_true_iff.mp e4 with q | q
  · obtain rfl : t = 2 := Nat.eq_of_beq_eq_true q
    obtain rfl : v = .ref j := e2
    show zx_st false i L (fun L2 => k npc ((i, .ref j) :: L2) st h sl) = _
    rw [zx_st_eq]
    rfl
  · obtain rfl : t = 3 := Nat.eq_of_beq_eq_true q
    obtain rfl : v = .null := e2
    show zx_st false i L (fun L2 => k npc ((i, .null) :: L2) st h sl) = _
    rw [zx_st_eq]
    rfl)
/-- to a place, by the stack alone -/
noncomputable def zt_agoto (t : Nat) (S : zt_S) : zt_R := some [(t, S)]
theorem zt_agoto_in {t : Nat} : zt_pur (zx_goto t) (zt_agoto t) := by
  intro S l r L st h hg hA
  cases hA
  exact zt_one (fun _ _ _ => rfl) (fun _ _ => rfl) (Nat.le_refl _) hg
noncomputable def zt_adup (npc : Nat) (S : zt_S) : zt_R := match S.2.2.1 with
  | [] => none
  | a :: B => match Nat.beq a.1 1 with
    | true => none
    | false => some [(npc, zt_stk (a :: a :: B) S)]
theorem zt_cat1 {r : Nat → Int} {a : zt_V} {v : Value} (h : zt_val r a v) (h1 : Nat.beq a.1 1 = false) : v.category = 1 := by
  have := zt_cat h (Nat.ne_of_beq_eq_false h1)
  cases v <;> first | rfl | exact absurd rfl this
theorem zt_adup_in {npc : Nat} : zt_pur (zx_dup npc) (zt_adup npc) := by
  intro S l r L st h hg hA
  unfold zt_adup at hA
  split at hA
  · cases hA
  · next a B e1 =>
    split at hA
    · cases hA
    · next e2 =>
      cases hA
      have hv := hg.2.2.1
      have hw := hg.2.2.2.2.2.1
      rw [e1] at hv hw
      obtain ⟨v, vs, rfl, h1, h2⟩ := zt_vs_cons hv
      refine zt_one (st2 := v :: v :: vs) (fun rec k sl => ?_) (fun _ _ => rfl) (Nat.le_refl _) (zt_stk_in hg ⟨h1, h1, h2⟩ (fun q hq => (List.mem_cons.mp hq).elim (fun z => by rw [z]; exact hw a List.mem_cons_self) (hw q)))
      show (if v.category = 1 then _ else _) = _
      rw [if_pos (zt_cat1 h1 e2)]
noncomputable def zt_apop (npc : Nat) (S : zt_S) : zt_R := match S.2.2.1 with
  | [] => none
  | a :: B => match Nat.beq a.1 1 with
    | true => none
    | false => some [(npc, zt_stk B S)]
theorem zt_apop_in {npc : Nat} : zt_pur (zx_pop npc) (zt_apop npc) := by
  intro S l r L st h hg hA
  unfold zt_apop at hA
  split at hA
  · cases hA
  · next a B e1 =>
    split at hA
    · cases hA
    · next e2 =>
      cases hA
      have hv := hg.2.2.1
      have hw := hg.2.2.2.2.2.1
      rw [e1] at hv hw
      obtain ⟨v, vs, rfl, h1, h2⟩ := zt_vs_cons hv
      refine zt_one (st2 := vs) (fun rec k sl => ?_) (fun _ _ => rfl) (Nat.le_refl _) (zt_stk_in hg h2 (fun q hq => hw q (List.mem_cons_of_mem _ hq)))
      show (if v.category = 1 then _ else _) = _
      rw [if_pos (zt_cat1 h1 e2)]
/-- null or not -/
noncomputable def zt_aifn (tr tn : Nat) (S : zt_S) : zt_R := match S.2.2.1 with
  | [] => none
  | a :: B => match a.1 with
    | 2 => some [(tr, zt_stk B S)]
    | 3 => some [(tn, zt_stk B S)]
    | _ => none
theorem zt_aifn_in {tr tn : Nat} : zt_pur (zx_ifn tr tn) (zt_aifn tr tn) := by
  intro S l r L st h hg hA
  unfold zt_aifn at hA
  split at hA
  · cases hA
  · next a B e1 =>
    have hv := hg.2.2.1
    have hw := hg.2.2.2.2.2.1
    rw [e1] at hv hw
    obtain ⟨v, vs, rfl, h1, h2⟩ := zt_vs_cons hv
    obtain ⟨t, e, j⟩ := a
    match t, h1, hA with
    | 2, h1, hA =>
      cases hA
      obtain rfl : v = .ref j := h1
      exact zt_one (fun _ _ _ => rfl) (fun _ _ => rfl) (Nat.le_refl _) (zt_stk_in hg h2 (fun q hq => hw q (List.mem_cons_of_mem _ hq)))
    | 3, h1, hA =>
      cases hA
      obtain rfl : v = .null := h1
      exact zt_one (fun _ _ _ => rfl) (fun _ _ => rfl) (Nat.le_refl _) (zt_stk_in hg h2 (fun q hq => hw q (List.mem_cons_of_mem _ hq)))
/-- two ints, an int, and what comes out -/
noncomputable def zt_a2 (f : zt_S → zt_E → zt_E → List zt_V → Option zt_S) (npc : Nat) (S : zt_S) : zt_R := match S.2.2.1 with
  | b :: a :: B => match Nat.beq b.1 0 && Nat.beq a.1 0 with
    | true => match f S a.2.1 b.2.1 B with
      | some S2 => some [(npc, S2)]
      | none => none
    | false => none
  | _ => none
theorem zt_a2_in {q : UInt32 → Int32 → Option Value} {o : Int32 → Int32 → Int32} {f : zt_S → zt_E → zt_E → List zt_V → Option zt_S} {npc : Nat}
    (hf : ∀ (S S2 : zt_S) (ea eb : zt_E) (B : List zt_V) (r : Nat → Int) (L : zx_L) (st st2 : List Value) (h : zx_H) (x y : Int32), zt_g r S L st h → zt_vs r B st2 → (∀ q ∈ B, zt_lt S.1 q.2.1) → zt_lt S.1 ea → zt_lt S.1 eb → x.toInt = zt_ev r ea → y.toInt = zt_ev r eb → f S ea eb B = some S2 → ∃ r2 : Nat → Int, (∀ i, i < S.1 → r2 i = r i) ∧ S.1 ≤ S2.1 ∧ zt_g r2 S2 L (.int (o x y) :: st2) h) : zt_pur (zx_bI q o npc) (zt_a2 f npc) := by
  intro S l r L st h hg hA
  unfold zt_a2 at hA
  split at hA
  · next b a B e1 =>
    split at hA
    · next e2 =>
      split at hA
      · next S2 e3 =>
        cases hA
        simp only [Bool.and_eq_true] at e2
        have hv := hg.2.2.1
        have hw := hg.2.2.2.2.2.1
        rw [e1] at hv hw
        obtain ⟨v, vs, rfl, h1, h2⟩ := zt_vs_cons hv
        obtain ⟨u, us, rfl, h3, h4⟩ := zt_vs_cons h2
        obtain ⟨tb, eb, jb⟩ := b
        obtain ⟨ta, ea, ja⟩ := a
        obtain rfl : tb = 0 := Nat.eq_of_beq_eq_true e2.1
        obtain rfl : ta = 0 := Nat.eq_of_beq_eq_true e2.2
        obtain ⟨y, rfl, hy⟩ := h1
        obtain ⟨x, rfl, hx⟩ := h3
        obtain ⟨r2, g1, g2, g3⟩ := hf S S2 ea eb B r L _ us h x y hg h4 (fun q hq => hw q (List.mem_cons_of_mem _ (List.mem_cons_of_mem _ hq))) (hw _ (List.mem_cons_of_mem _ List.mem_cons_self)) (hw _ List.mem_cons_self) hx hy e3
        refine zt_one (fun rec k sl => ?_) g1 g2 g3
        show k npc L (zx_i (o x y) :: us) h sl = _
        rw [zx_i_eq]
      · cases hA
    · cases hA
  · cases hA
noncomputable def zt_aadd (npc : Nat) : zt_S → zt_R := zt_a2 (fun S a b B => some (zt_fI (zt_add a b) B S)) npc
theorem zt_aadd_in {npc : Nat} : zt_pur (zx_iadd [] npc) (zt_aadd npc) := zt_a2_in (fun S S2 ea eb B r L st st2 h x y hg hv hw ha hb hx hy hf => by
  cases hf
  obtain ⟨r2, h1, h2⟩ := zt_fit0 (x := x + y) hg hv hw (zt_add_lt ha hb) (by rw [zt_add_ev, Int32.toInt_add, hx, hy])
  exact ⟨r2, h1, zt_fit_n, h2⟩)
noncomputable def zt_asub (npc : Nat) : zt_S → zt_R := zt_a2 (fun S a b B => some (zt_fI (zt_sub a b) B S)) npc
theorem zt_asub_in {npc : Nat} : zt_pur (zx_isub [] npc) (zt_asub npc) := zt_a2_in (fun S S2 ea eb B r L st st2 h x y hg hv hw ha hb hx hy hf => by
  cases hf
  obtain ⟨r2, h1, h2⟩ := zt_fit0 (x := x - y) hg hv hw (zt_sub_lt ha hb) (by rw [zt_sub_ev, Int32.toInt_sub, hx, hy])
  exact ⟨r2, h1, zt_fit_n, h2⟩)
/-- any int -/
noncomputable def zt_any (B : List zt_V) (S : zt_S) : zt_S := zt_new 0 (-2147483648) 2147483647 (fun _ => []) B S
theorem zt_any_in {r : Nat → Int} {S : zt_S} {B : List zt_V} {L : zx_L} {st st2 : List Value} {h : zx_H} (x : Int32) (hg : zt_g r S L st h) (hv : zt_vs r B st2) (hw : ∀ q ∈ B, zt_lt S.1 q.2.1) : ∃ r2 : Nat → Int, (∀ i, i < S.1 → r2 i = r i) ∧ S.1 ≤ (zt_any B S).1 ∧ zt_g r2 (zt_any B S) L (.int x :: st2) h := by
  obtain ⟨r2, h1, h2⟩ := zt_new_in x.toInt (t := 0) (v := .int x) (fs := fun _ => []) hg hv hw (fun r2 h2 => ⟨x, rfl, by show _ = zt_ev r2 (zt_s S.1); rw [zt_s_ev, h2]⟩) (zt_i32 x).1 (zt_i32 x).2 (fun _ _ _ f hf => nomatch hf) (fun f hf => nomatch hf)
  exact ⟨r2, h1, Nat.le_succ _, h2⟩
noncomputable def zt_amul (npc : Nat) : zt_S → zt_R := zt_a2 (fun S a b B => match b.2 with
  | [] => some (zt_fI (zt_sc b.1 a) B S)
  | _ => match a.2 with
    | [] => some (zt_fI (zt_sc a.1 b) B S)
    | _ => some (zt_any B S)) npc
theorem zt_kev {r : Nat → Int} {a : zt_E} (h : a.2 = []) : zt_ev r a = a.1 := by
  show a.1 + zt_tv r a.2 = a.1
  rw [h]
  show a.1 + 0 = a.1
  omega
theorem zt_amul_in {npc : Nat} : zt_pur (zx_imul npc) (zt_amul npc) := zt_a2_in (fun S S2 ea eb B r L st st2 h x y hg hv hw ha hb hx hy hf => by
  split at hf
  · next e =>
    cases hf
    obtain ⟨r2, h1, h2⟩ := zt_fit0 (x := x * y) hg hv hw (zt_sc_lt (k := eb.1) ha) (by rw [zt_sc_ev, Int32.toInt_mul, hx, hy, zt_kev e, Int.mul_comm])
    exact ⟨r2, h1, zt_fit_n, h2⟩
  · split at hf
    · next e =>
      cases hf
      obtain ⟨r2, h1, h2⟩ := zt_fit0 (x := x * y) hg hv hw (zt_sc_lt (k := ea.1) hb) (by rw [zt_sc_ev, Int32.toInt_mul, hx, hy, zt_kev e])
      exact ⟨r2, h1, zt_fit_n, h2⟩
    · cases hf
      exact zt_any_in (x * y) hg hv hw)

/-- what can't be is left out -/
noncomputable def zt_q (t : Nat) (e : zt_E) (S : zt_S) : List (Nat × zt_S) := match zt_pr S.2.2.2.2 2 1 (zt_sub (zt_k (-1)) e) with
  | true => []
  | false => [(t, zt_fact e S)]
theorem zt_q_in {r : Nat → Int} {S : zt_S} {t : Nat} {e : zt_E} {L : zx_L} {st : List Value} {h : zx_H} (hg : zt_g r S L st h) (he : 0 ≤ zt_ev r e) (hl : zt_lt S.1 e) : ∃ q ∈ zt_q t e S, q.1 = t ∧ S.1 ≤ q.2.1 ∧ zt_g r q.2 L st h := by
  unfold zt_q
  split
  · next e1 =>
    have h1 := zt_pr_in hg.1 2 1 _ e1
    rw [zt_sub_ev, zt_k_ev] at h1
    omega
  · exact ⟨_, List.mem_cons_self, rfl, Nat.le_refl _, zt_fact_in hg he hl⟩
noncomputable def zt_q2 (t : Nat) (e f : zt_E) (S : zt_S) : List (Nat × zt_S) := match zt_pr S.2.2.2.2 2 1 (zt_sub (zt_k (-1)) e) || zt_pr S.2.2.2.2 2 1 (zt_sub (zt_k (-1)) f) with
  | true => []
  | false => [(t, zt_fact f (zt_fact e S))]
theorem zt_q2_in {r : Nat → Int} {S : zt_S} {t : Nat} {e f : zt_E} {L : zx_L} {st : List Value} {h : zx_H} (hg : zt_g r S L st h) (he : 0 ≤ zt_ev r e) (hf : 0 ≤ zt_ev r f) (hl : zt_lt S.1 e) (hm : zt_lt S.1 f) : ∃ q ∈ zt_q2 t e f S, q.1 = t ∧ S.1 ≤ q.2.1 ∧ zt_g r q.2 L st h := by
  unfold zt_q2
  split
  · next e1 =>
    rcases Bool.or_eq_true_iff.mp e1 with e1 | e1
    · have h1 := zt_pr_in hg.1 2 1 _ e1
      rw [zt_sub_ev, zt_k_ev] at h1
      omega
    · have h1 := zt_pr_in hg.1 2 1 _ e1
      rw [zt_sub_ev, zt_k_ev] at h1
      omega
  · exact ⟨_, List.mem_cons_self, rfl, Nat.le_refl _, zt_fact_in (zt_fact_in hg he hl) hf hm⟩
/-- not alike: above, below, or (where neither is known to be impossible and that isn't asked for) no more known -/
noncomputable def zt_qn (w : Bool) (t : Nat) (d : zt_E) (S : zt_S) : List (Nat × zt_S) := match zt_pr S.2.2.2.2 2 1 d with
  | true => zt_q t (zt_sub d (zt_k 1)) S
  | false => match zt_pr S.2.2.2.2 2 1 (zt_sc (-1) d) with
    | true => zt_q t (zt_sub (zt_sc (-1) d) (zt_k 1)) S
    | false => match w with
      | true => zt_q t (zt_sub d (zt_k 1)) S ++ zt_q t (zt_sub (zt_sc (-1) d) (zt_k 1)) S
      | false => [(t, S)]
theorem zt_qn_in {r : Nat → Int} {S : zt_S} {w : Bool} {t : Nat} {d : zt_E} {L : zx_L} {st : List Value} {h : zx_H} (hg : zt_g r S L st h) (he : zt_ev r d ≠ 0) (hl : zt_lt S.1 d) : ∃ q ∈ zt_qn w t d S, q.1 = t ∧ S.1 ≤ q.2.1 ∧ zt_g r q.2 L st h := by
  have hp : 0 < zt_ev r d → ∃ q ∈ zt_q t (zt_sub d (zt_k 1)) S, q.1 = t ∧ S.1 ≤ q.2.1 ∧ zt_g r q.2 L st h := fun z => zt_q_in hg (by rw [zt_sub_ev, zt_k_ev]; omega) (zt_sub_lt hl zt_k_lt)
  have hn : zt_ev r d < 0 → ∃ q ∈ zt_q t (zt_sub (zt_sc (-1) d) (zt_k 1)) S, q.1 = t ∧ S.1 ≤ q.2.1 ∧ zt_g r q.2 L st h := fun z => zt_q_in hg (by rw [zt_sub_ev, zt_sc_ev, zt_k_ev]; omega) (zt_sub_lt (zt_sc_lt hl) zt_k_lt)
  unfold zt_qn
  split
  · next e1 =>
    have h1 := zt_pr_in hg.1 2 1 _ e1
    have z : 0 < zt_ev r d := by clear hp hn; omega
    exact hp z
  · split
    · next e1 =>
      have h1 := zt_pr_in hg.1 2 1 _ e1
      rw [zt_sc_ev] at h1
      have z : zt_ev r d < 0 := by clear hp hn; omega
      exact hn z
    · split
      · rcases Int.lt_or_gt_of_ne he with z | z
        · obtain ⟨q, h1, h2⟩ := hn z
          exact ⟨q, List.mem_append_right _ h1, h2⟩
        · obtain ⟨q, h1, h2⟩ := hp z
          exact ⟨q, List.mem_append_left _ h1, h2⟩
      · exact ⟨_, List.mem_cons_self, rfl, Nat.le_refl _, hg⟩

noncomputable def zt_keq (w : Bool) (tgt npc : Nat) (d : zt_E) (S : zt_S) : List (Nat × zt_S) := zt_q2 tgt d (zt_sc (-1) d) S ++ zt_qn w npc d S
theorem zt_keq_in {r : Nat → Int} {S : zt_S} {w : Bool} {tgt npc : Nat} {d : zt_E} {L : zx_L} {st : List Value} {h : zx_H} (hg : zt_g r S L st h) (hl : zt_lt S.1 d) : (zt_ev r d = 0 → ∃ q ∈ zt_keq w tgt npc d S, q.1 = tgt ∧ S.1 ≤ q.2.1 ∧ zt_g r q.2 L st h) ∧ (¬ (zt_ev r d = 0) → ∃ q ∈ zt_keq w tgt npc d S, q.1 = npc ∧ S.1 ≤ q.2.1 ∧ zt_g r q.2 L st h) := by
  refine ⟨fun hd => ?_, fun hd => ?_⟩
  · obtain ⟨q, g1, g2⟩ := zt_q2_in (t := tgt) (e := d) (f := zt_sc (-1) d) hg (by omega) (by rw [zt_sc_ev]; omega) hl (zt_sc_lt hl)
    exact ⟨q, List.mem_append_left _ g1, g2⟩
  · obtain ⟨q, g1, g2⟩ := zt_qn_in (w := w) (t := npc) hg (by omega) hl
    exact ⟨q, List.mem_append_right _ g1, g2⟩
noncomputable def zt_kne (w : Bool) (tgt npc : Nat) (d : zt_E) (S : zt_S) : List (Nat × zt_S) := zt_qn w tgt d S ++ zt_q2 npc d (zt_sc (-1) d) S
theorem zt_kne_in {r : Nat → Int} {S : zt_S} {w : Bool} {tgt npc : Nat} {d : zt_E} {L : zx_L} {st : List Value} {h : zx_H} (hg : zt_g r S L st h) (hl : zt_lt S.1 d) : (zt_ev r d ≠ 0 → ∃ q ∈ zt_kne w tgt npc d S, q.1 = tgt ∧ S.1 ≤ q.2.1 ∧ zt_g r q.2 L st h) ∧ (¬ (zt_ev r d ≠ 0) → ∃ q ∈ zt_kne w tgt npc d S, q.1 = npc ∧ S.1 ≤ q.2.1 ∧ zt_g r q.2 L st h) := by
  refine ⟨fun hd => ?_, fun hd => ?_⟩
  · obtain ⟨q, g1, g2⟩ := zt_qn_in (w := w) (t := tgt) hg (by omega) hl
    exact ⟨q, List.mem_append_left _ g1, g2⟩
  · obtain ⟨q, g1, g2⟩ := zt_q2_in (t := npc) (e := d) (f := zt_sc (-1) d) hg (by omega) (by rw [zt_sc_ev]; omega) hl (zt_sc_lt hl)
    exact ⟨q, List.mem_append_right _ g1, g2⟩
noncomputable def zt_klt (w : Bool) (tgt npc : Nat) (d : zt_E) (S : zt_S) : List (Nat × zt_S) := zt_q tgt (zt_sub (zt_sc (-1) d) (zt_k 1)) S ++ zt_q npc d S
theorem zt_klt_in {r : Nat → Int} {S : zt_S} {w : Bool} {tgt npc : Nat} {d : zt_E} {L : zx_L} {st : List Value} {h : zx_H} (hg : zt_g r S L st h) (hl : zt_lt S.1 d) : (zt_ev r d < 0 → ∃ q ∈ zt_klt w tgt npc d S, q.1 = tgt ∧ S.1 ≤ q.2.1 ∧ zt_g r q.2 L st h) ∧ (¬ (zt_ev r d < 0) → ∃ q ∈ zt_klt w tgt npc d S, q.1 = npc ∧ S.1 ≤ q.2.1 ∧ zt_g r q.2 L st h) := by
  refine ⟨fun hd => ?_, fun hd => ?_⟩
  · obtain ⟨q, g1, g2⟩ := zt_q_in (t := tgt) (e := zt_sub (zt_sc (-1) d) (zt_k 1)) hg (by rw [zt_sub_ev, zt_sc_ev, zt_k_ev]; omega) (zt_sub_lt (zt_sc_lt hl) zt_k_lt)
    exact ⟨q, List.mem_append_left _ g1, g2⟩
  · obtain ⟨q, g1, g2⟩ := zt_q_in (t := npc) (e := d) hg (by omega) hl
    exact ⟨q, List.mem_append_right _ g1, g2⟩
noncomputable def zt_kge (w : Bool) (tgt npc : Nat) (d : zt_E) (S : zt_S) : List (Nat × zt_S) := zt_q tgt d S ++ zt_q npc (zt_sub (zt_sc (-1) d) (zt_k 1)) S
theorem zt_kge_in {r : Nat → Int} {S : zt_S} {w : Bool} {tgt npc : Nat} {d : zt_E} {L : zx_L} {st : List Value} {h : zx_H} (hg : zt_g r S L st h) (hl : zt_lt S.1 d) : (0 ≤ zt_ev r d → ∃ q ∈ zt_kge w tgt npc d S, q.1 = tgt ∧ S.1 ≤ q.2.1 ∧ zt_g r q.2 L st h) ∧ (¬ (0 ≤ zt_ev r d) → ∃ q ∈ zt_kge w tgt npc d S, q.1 = npc ∧ S.1 ≤ q.2.1 ∧ zt_g r q.2 L st h) := by
  refine ⟨fun hd => ?_, fun hd => ?_⟩
  · obtain ⟨q, g1, g2⟩ := zt_q_in (t := tgt) (e := d) hg (by omega) hl
    exact ⟨q, List.mem_append_left _ g1, g2⟩
  · obtain ⟨q, g1, g2⟩ := zt_q_in (t := npc) (e := zt_sub (zt_sc (-1) d) (zt_k 1)) hg (by rw [zt_sub_ev, zt_sc_ev, zt_k_ev]; omega) (zt_sub_lt (zt_sc_lt hl) zt_k_lt)
    exact ⟨q, List.mem_append_right _ g1, g2⟩
noncomputable def zt_kgt (w : Bool) (tgt npc : Nat) (d : zt_E) (S : zt_S) : List (Nat × zt_S) := zt_q tgt (zt_sub d (zt_k 1)) S ++ zt_q npc (zt_sc (-1) d) S
theorem zt_kgt_in {r : Nat → Int} {S : zt_S} {w : Bool} {tgt npc : Nat} {d : zt_E} {L : zx_L} {st : List Value} {h : zx_H} (hg : zt_g r S L st h) (hl : zt_lt S.1 d) : (0 < zt_ev r d → ∃ q ∈ zt_kgt w tgt npc d S, q.1 = tgt ∧ S.1 ≤ q.2.1 ∧ zt_g r q.2 L st h) ∧ (¬ (0 < zt_ev r d) → ∃ q ∈ zt_kgt w tgt npc d S, q.1 = npc ∧ S.1 ≤ q.2.1 ∧ zt_g r q.2 L st h) := by
  refine ⟨fun hd => ?_, fun hd => ?_⟩
  · obtain ⟨q, g1, g2⟩ := zt_q_in (t := tgt) (e := zt_sub d (zt_k 1)) hg (by rw [zt_sub_ev, zt_k_ev]; omega) (zt_sub_lt hl zt_k_lt)
    exact ⟨q, List.mem_append_left _ g1, g2⟩
  · obtain ⟨q, g1, g2⟩ := zt_q_in (t := npc) (e := zt_sc (-1) d) hg (by rw [zt_sc_ev]; omega) (zt_sc_lt hl)
    exact ⟨q, List.mem_append_right _ g1, g2⟩
noncomputable def zt_kle (w : Bool) (tgt npc : Nat) (d : zt_E) (S : zt_S) : List (Nat × zt_S) := zt_q tgt (zt_sc (-1) d) S ++ zt_q npc (zt_sub d (zt_k 1)) S
theorem zt_kle_in {r : Nat → Int} {S : zt_S} {w : Bool} {tgt npc : Nat} {d : zt_E} {L : zx_L} {st : List Value} {h : zx_H} (hg : zt_g r S L st h) (hl : zt_lt S.1 d) : (zt_ev r d ≤ 0 → ∃ q ∈ zt_kle w tgt npc d S, q.1 = tgt ∧ S.1 ≤ q.2.1 ∧ zt_g r q.2 L st h) ∧ (¬ (zt_ev r d ≤ 0) → ∃ q ∈ zt_kle w tgt npc d S, q.1 = npc ∧ S.1 ≤ q.2.1 ∧ zt_g r q.2 L st h) := by
  refine ⟨fun hd => ?_, fun hd => ?_⟩
  · obtain ⟨q, g1, g2⟩ := zt_q_in (t := tgt) (e := zt_sc (-1) d) hg (by rw [zt_sc_ev]; omega) (zt_sc_lt hl)
    exact ⟨q, List.mem_append_left _ g1, g2⟩
  · obtain ⟨q, g1, g2⟩ := zt_q_in (t := npc) (e := zt_sub d (zt_k 1)) hg (by rw [zt_sub_ev, zt_k_ev]; omega) (zt_sub_lt hl zt_k_lt)
    exact ⟨q, List.mem_append_right _ g1, g2⟩
/-- a question about one int, or what a comparison of longs gave -/
noncomputable def zt_aif (K : zt_E → zt_S → List (Nat × zt_S)) (S : zt_S) : zt_R := match S.2.2.1 with
  | [] => none
  | a :: B => match Nat.beq a.1 0 || Nat.beq a.1 4 with
    | true => some (K a.2.1 (zt_stk B S))
    | false => none
noncomputable def zt_aic (K : zt_E → zt_S → List (Nat × zt_S)) (S : zt_S) : zt_R := match S.2.2.1 with
  | b :: a :: B => match Nat.beq b.1 0 && Nat.beq a.1 0 with
    | true => some (K (zt_sub a.2.1 b.2.1) (zt_stk B S))
    | false => none
  | _ => none
theorem zt_aif_in {q : UInt32 → Option Bool} {f : Int32 → Bool} {tgt npc : Nat} {K : zt_E → zt_S → List (Nat × zt_S)} {R : Int → Prop} (hR : ∀ x : Int32, f x = true ↔ R x.toInt) (hS : ∀ a b : Int, (a < 0 ↔ b < 0) → (a = 0 ↔ b = 0) → (R a ↔ R b))
    (hK : ∀ {r : Nat → Int} {S : zt_S} {d : zt_E} {L : zx_L} {st : List Value} {h : zx_H}, zt_g r S L st h → zt_lt S.1 d → (R (zt_ev r d) → ∃ q ∈ K d S, q.1 = tgt ∧ S.1 ≤ q.2.1 ∧ zt_g r q.2 L st h) ∧ (¬ R (zt_ev r d) → ∃ q ∈ K d S, q.1 = npc ∧ S.1 ≤ q.2.1 ∧ zt_g r q.2 L st h)) : zt_pur (zx_if q f tgt npc) (zt_aif K) := by
  intro S l r L st h hg hA
  unfold zt_aif at hA
  split at hA
  · cases hA
  · next a B e1 =>
    split at hA
    · next e2 =>
      cases hA
      have hv := hg.2.2.1
      have hw := hg.2.2.2.2.2.1
      rw [e1] at hv hw
      obtain ⟨v, vs, rfl, h1, h2⟩ := zt_vs_cons hv
      have hx : ∃ x : Int32, v = .int x ∧ (R x.toInt ↔ R (zt_ev r a.2.1)) := by
        obtain ⟨t, e, j⟩ := a
        rcases Bool.or_eq_true_iff.mp e2 with z | z
        · obtain rfl : t = 0 := Nat.eq_of_beq_eq_true z
          obtain ⟨x, h3, h4⟩ := h1
          exact ⟨x, h3, by rw [h4]⟩
        · obtain rfl : t = 4 := Nat.eq_of_beq_eq_true z
          obtain ⟨x, h3, h4, h5⟩ := h1
          exact ⟨x, h3, hS _ _ h4 h5⟩
      obtain ⟨x, rfl, hx⟩ := hx
      have hk := hK (zt_stk_in hg h2 (fun q hq => hw q (List.mem_cons_of_mem _ hq))) (hw a List.mem_cons_self)
      cases hfx : f x with
      | true =>
        obtain ⟨p, g1, g2, g3, g4⟩ := hk.1 (hx.mp ((hR x).mp hfx))
        refine ⟨p, g1, r, L, vs, fun rec k sl => ?_, fun _ _ => rfl, g3, g4⟩
        show (match f x with | true => k tgt L vs h sl | false => k npc L vs h sl) = _
        rw [hfx, g2]
      | false =>
        obtain ⟨p, g1, g2, g3, g4⟩ := hk.2 (fun z => by rw [(hR x).mpr (hx.mpr z)] at hfx; cases hfx)
        refine ⟨p, g1, r, L, vs, fun rec k sl => ?_, fun _ _ => rfl, g3, g4⟩
        show (match f x with | true => k tgt L vs h sl | false => k npc L vs h sl) = _
        rw [hfx, g2]
    · cases hA
theorem zt_aic_in {q q2 : UInt32 → Int32 → Option Bool} {f : Int32 → Int32 → Bool} {tgt npc : Nat} {K : zt_E → zt_S → List (Nat × zt_S)} {R : Int → Prop} (hR : ∀ x y : Int32, f x y = true ↔ R (x.toInt - y.toInt))
    (hK : ∀ {r : Nat → Int} {S : zt_S} {d : zt_E} {L : zx_L} {st : List Value} {h : zx_H}, zt_g r S L st h → zt_lt S.1 d → (R (zt_ev r d) → ∃ q ∈ K d S, q.1 = tgt ∧ S.1 ≤ q.2.1 ∧ zt_g r q.2 L st h) ∧ (¬ R (zt_ev r d) → ∃ q ∈ K d S, q.1 = npc ∧ S.1 ≤ q.2.1 ∧ zt_g r q.2 L st h)) : zt_pur (zx_ic q q2 f tgt npc) (zt_aic K) := by
  intro S l r L st h hg hA
  unfold zt_aic at hA
  split at hA
  · next b a B e1 =>
    split at hA
    · next e2 =>
      cases hA
      simp only [Bool.and_eq_true] at e2
      have hv := hg.2.2.1
      have hw := hg.2.2.2.2.2.1
      rw [e1] at hv hw
      obtain ⟨v, vs, rfl, h1, h2⟩ := zt_vs_cons hv
      obtain ⟨u, us, rfl, h3, h4⟩ := zt_vs_cons h2
      obtain ⟨tb, eb, jb⟩ := b
      obtain ⟨ta, ea, ja⟩ := a
      obtain rfl : tb = 0 := Nat.eq_of_beq_eq_true e2.1
      obtain rfl : ta = 0 := Nat.eq_of_beq_eq_true e2.2
      obtain ⟨y, rfl, hy⟩ := h1
      obtain ⟨x, rfl, hx⟩ := h3
      have hk := hK (zt_stk_in hg h4 (fun q hq => hw q (List.mem_cons_of_mem _ (List.mem_cons_of_mem _ hq)))) (zt_sub_lt (hw (0, ea, ja) (List.mem_cons_of_mem _ List.mem_cons_self)) (hw (0, eb, jb) List.mem_cons_self))
      have he : zt_ev r (zt_sub ea eb) = x.toInt - y.toInt := by
        have hx2 : x.toInt = zt_ev r ea := hx
        have hy2 : y.toInt = zt_ev r eb := hy
        rw [zt_sub_ev, hx2, hy2]
      cases hfx : f x y with
      | true =>
        obtain ⟨p, g1, g2, g3, g4⟩ := hk.1 (by rw [he]; exact (hR x y).mp hfx)
        refine ⟨p, g1, r, L, us, fun rec k sl => ?_, fun _ _ => rfl, g3, g4⟩
        show (match f x y with | true => k tgt L us h sl | false => k npc L us h sl) = _
        rw [hfx, g2]
      | false =>
        obtain ⟨p, g1, g2, g3, g4⟩ := hk.2 (fun z => by rw [he] at z; rw [(hR x y).mpr z] at hfx; cases hfx)
        refine ⟨p, g1, r, L, us, fun rec k sl => ?_, fun _ _ => rfl, g3, g4⟩
        show (match f x y with | true => k tgt L us h sl | false => k npc L us h sl) = _
        rw [hfx, g2]
    · cases hA
  · cases hA
theorem zt_0 : (0 : Int32).toInt = 0 := rfl
theorem zt_ifeq {tgt npc : Nat} (w : Bool) : zt_pur (zx_ifeq [] tgt npc) (zt_aif (zt_keq w tgt npc)) := zt_aif_in (R := fun d => d = 0) (fun x => by rw [decide_eq_true_iff, ← Int32.toInt_inj, zt_0] <;> try omega) (fun a b h1 h2 => by omega) (fun hg hl => zt_keq_in hg hl)
theorem zt_iceq {tgt npc : Nat} (w : Bool) : zt_pur (zx_iceq [] tgt npc) (zt_aic (zt_keq w tgt npc)) := zt_aic_in (R := fun d => d = 0) (fun x y => by rw [decide_eq_true_iff, ← Int32.toInt_inj] <;> try omega) (fun hg hl => zt_keq_in hg hl)
theorem zt_ifne {tgt npc : Nat} (w : Bool) : zt_pur (zx_ifne [] tgt npc) (zt_aif (zt_kne w tgt npc)) := zt_aif_in (R := fun d => d ≠ 0) (fun x => by rw [decide_eq_true_iff, ← Int32.toInt_inj, zt_0] <;> try omega) (fun a b h1 h2 => by omega) (fun hg hl => zt_kne_in hg hl)
theorem zt_icne {tgt npc : Nat} (w : Bool) : zt_pur (zx_icne [] tgt npc) (zt_aic (zt_kne w tgt npc)) := zt_aic_in (R := fun d => d ≠ 0) (fun x y => by rw [decide_eq_true_iff, ← Int32.toInt_inj] <;> try omega) (fun hg hl => zt_kne_in hg hl)
theorem zt_iflt {tgt npc : Nat} (w : Bool) : zt_pur (zx_iflt [] tgt npc) (zt_aif (zt_klt w tgt npc)) := zt_aif_in (R := fun d => d < 0) (fun x => by rw [decide_eq_true_iff, Int32.lt_iff_toInt_lt, zt_0] <;> try omega) (fun a b h1 h2 => by omega) (fun hg hl => zt_klt_in hg hl)
theorem zt_iclt {tgt npc : Nat} (w : Bool) : zt_pur (zx_iclt [] tgt npc) (zt_aic (zt_klt w tgt npc)) := zt_aic_in (R := fun d => d < 0) (fun x y => by rw [decide_eq_true_iff, Int32.lt_iff_toInt_lt] <;> try omega) (fun hg hl => zt_klt_in hg hl)
theorem zt_ifge {tgt npc : Nat} (w : Bool) : zt_pur (zx_ifge [] tgt npc) (zt_aif (zt_kge w tgt npc)) := zt_aif_in (R := fun d => 0 ≤ d) (fun x => by rw [decide_eq_true_iff, Int32.le_iff_toInt_le, zt_0] <;> try omega) (fun a b h1 h2 => by omega) (fun hg hl => zt_kge_in hg hl)
theorem zt_icge {tgt npc : Nat} (w : Bool) : zt_pur (zx_icge [] tgt npc) (zt_aic (zt_kge w tgt npc)) := zt_aic_in (R := fun d => 0 ≤ d) (fun x y => by rw [decide_eq_true_iff, Int32.le_iff_toInt_le] <;> try omega) (fun hg hl => zt_kge_in hg hl)
theorem zt_ifgt {tgt npc : Nat} (w : Bool) : zt_pur (zx_ifgt [] tgt npc) (zt_aif (zt_kgt w tgt npc)) := zt_aif_in (R := fun d => 0 < d) (fun x => by rw [decide_eq_true_iff, Int32.lt_iff_toInt_lt, zt_0] <;> try omega) (fun a b h1 h2 => by omega) (fun hg hl => zt_kgt_in hg hl)
theorem zt_icgt {tgt npc : Nat} (w : Bool) : zt_pur (zx_icgt [] tgt npc) (zt_aic (zt_kgt w tgt npc)) := zt_aic_in (R := fun d => 0 < d) (fun x y => by rw [decide_eq_true_iff, Int32.lt_iff_toInt_lt] <;> try omega) (fun hg hl => zt_kgt_in hg hl)
theorem zt_ifle {tgt npc : Nat} (w : Bool) : zt_pur (zx_ifle [] tgt npc) (zt_aif (zt_kle w tgt npc)) := zt_aif_in (R := fun d => d ≤ 0) (fun x => by rw [decide_eq_true_iff, Int32.le_iff_toInt_le, zt_0] <;> try omega) (fun a b h1 h2 => by omega) (fun hg hl => zt_kle_in hg hl)
theorem zt_icle {tgt npc : Nat} (w : Bool) : zt_pur (zx_icle [] tgt npc) (zt_aic (zt_kle w tgt npc)) := zt_aic_in (R := fun d => d ≤ 0) (fun x y => by rw [decide_eq_true_iff, Int32.le_iff_toInt_le] <;> try omega) (fun hg hl => zt_kle_in hg hl)
