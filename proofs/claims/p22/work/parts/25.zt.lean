/-! ===== fields and rows changed, rows looked at ===== -/
theorem zt_at_f {h : zx_H} {i ci k : Nat} {fs : zx_Tr Value} {v : Value} (hi : i < 300000) (hk : k < 300000) (h1 : zx_hg h i = some (.inl (ci, fs))) (a b : Nat) : zt_at (zx_hs h i (.inl (ci, zx_s10 v fs k))) a b = if a = i ∧ b = k then some v else zt_at h a b := by
  unfold zt_at
  rw [zx_hg_hs h i a _ hi]
  by_cases e : a = i
  · subst e
    rw [if_pos rfl, h1]
    show zx_g10 (zx_s10 v fs k) b = if a = a ∧ b = k then some v else zx_g10 fs b
    rw [zx_tg_ts v fs k b hk]
    by_cases e2 : b = k
    · rw [if_pos e2, if_pos ⟨rfl, e2⟩]
    · rw [if_neg e2, if_neg (fun z => e2 z.2)]
  · rw [if_neg e, if_neg (fun z => e z.1)]
theorem zt_at_r {h : zx_H} {i ty n k : Nat} {d v : Value} {u : zx_Tr Value} (hi : i < 300000) (hk : k < 300000) (h1 : zx_hg h i = some (.inr (ty, n, d, u))) (a b : Nat) : zt_at (zx_hs h i (.inr (ty, n, d, zx_s10 v u k))) a b = if a = i ∧ b = k then some v else zt_at h a b := by
  unfold zt_at
  rw [zx_hg_hs h i a _ hi]
  by_cases e : a = i
  · subst e
    rw [if_pos rfl, h1]
    show some (zx_rd d (zx_s10 v u k) b) = if a = a ∧ b = k then some v else some (zx_rd d u b)
    rw [zx_rd_put d v u k b hk]
    by_cases e2 : b = k
    · rw [if_pos e2, if_pos ⟨rfl, e2⟩]
    · rw [if_neg e2, if_neg (fun z => e2 z.2)]
  · rw [if_neg e, if_neg (fun z => e z.1)]
theorem zt_hk_f {T : zx_Tr zt_C} {K0 i ci k : Nat} {o : Nat × List zt_Y} {h : zx_H} {fs : zx_Tr Value} {v : Value} {y : zt_Y} (hh : zt_hk T K0 h) (h0 : zx_g10 T i = some (.inl o)) (hc : o.1 = ci) (h1 : zx_hg h i = some (.inl (ci, fs))) (hy : o.2[k]? = some y) (hv : zt_yt y v) (hk : k < 300000) : zt_hk T K0 (zx_hs h i (.inl (ci, zx_s10 v fs k))) := by
  intro a c ha
  obtain ⟨b1, b2⟩ := hh a c ha
  obtain ⟨⟨-, hi⟩, -⟩ := hh i _ h0
  refine ⟨b1, ?_⟩
  by_cases e : a = i
  · subst e
    rw [h0] at ha
    cases ha
    obtain ⟨gs, c1, c2⟩ := b2
    rw [h1] at c1
    cases c1
    refine ⟨_, by rw [zx_hg_hs h a a _ hi, if_pos rfl, hc], fun p z hz => ?_⟩
    rw [zx_tg_ts v fs k p hk]
    by_cases e2 : p = k
    · subst e2
      rw [hy] at hz
      cases hz
      exact ⟨v, by rw [if_pos rfl], hv⟩
    · rw [if_neg e2]
      exact c2 p z hz
  · cases c with
    | inl o2 =>
      obtain ⟨gs, c1, c2⟩ := b2
      exact ⟨gs, by rw [zx_hg_hs h i a _ hi, if_neg e]; exact c1, c2⟩
    | inr x =>
      obtain ⟨d, u, c1, c2⟩ := b2
      exact ⟨d, u, by rw [zx_hg_hs h i a _ hi, if_neg e]; exact c1, c2⟩
theorem zt_hk_r {T : zx_Tr zt_C} {K0 i ty n k : Nat} {y : List zt_Y} {h : zx_H} {d v : Value} {u : zx_Tr Value} (hh : zt_hk T K0 h) (h0 : zx_g10 T i = some (.inr (ty, n, y))) (h1 : zx_hg h i = some (.inr (ty, n, d, u))) (hv : zt_yt (zt_ry y k) v) (hk : k < 300000) : zt_hk T K0 (zx_hs h i (.inr (ty, n, d, zx_s10 v u k))) := by
  intro a c ha
  obtain ⟨b1, b2⟩ := hh a c ha
  obtain ⟨⟨-, hi⟩, -⟩ := hh i _ h0
  refine ⟨b1, ?_⟩
  by_cases e : a = i
  · subst e
    rw [h0] at ha
    cases ha
    obtain ⟨d2, u2, c1, c0, c2⟩ := b2
    rw [h1] at c1
    cases c1
    refine ⟨d, _, by rw [zx_hg_hs h a a _ hi, if_pos rfl], c0, fun p hp => ?_⟩
    rw [zx_rd_put d v u k p hk]
    by_cases e2 : p = k
    · rw [if_pos e2, e2]
      exact hv
    · rw [if_neg e2]
      exact c2 p hp
  · cases c with
    | inl o2 =>
      obtain ⟨gs, c1, c2⟩ := b2
      exact ⟨gs, by rw [zx_hg_hs h i a _ hi, if_neg e]; exact c1, c2⟩
    | inr x =>
      obtain ⟨d2, u2, c1, c2⟩ := b2
      exact ⟨d2, u2, by rw [zx_hg_hs h i a _ hi, if_neg e]; exact c1, c2⟩
/-- the places that are still told -/
noncomputable def zt_dk (i k : Nat) : List ((Nat × zt_E) × zt_V) → List ((Nat × zt_E) × zt_V)
  | [] => []
  | q :: l => match Nat.beq q.1.1 i with
    | false => q :: zt_dk i k l
    | true => match q.1.2.2 with
      | [] => match decide (q.1.2.1 = (k : Int)) with
        | false => q :: zt_dk i k l
        | true => zt_dk i k l
      | _ => zt_dk i k l
theorem zt_dk_in {i k : Nat} : ∀ {A : List ((Nat × zt_E) × zt_V)} {q : (Nat × zt_E) × zt_V}, q ∈ zt_dk i k A → q ∈ A ∧ (q.1.1 = i → q.1.2.2 = [] ∧ q.1.2.1 ≠ (k : Int))
  | [], q, h => nomatch h
  | p :: A, q, h => by
    have up : q ∈ zt_dk i k A → q ∈ p :: A ∧ (q.1.1 = i → q.1.2.2 = [] ∧ q.1.2.1 ≠ (k : Int)) := fun z => ⟨List.mem_cons_of_mem _ (zt_dk_in z).1, (zt_dk_in z).2⟩
    unfold zt_dk at h
    split at h
    · next e =>
      rcases List.mem_cons.mp h with z | z
      · rw [z]
        exact ⟨List.mem_cons_self, fun y => absurd y (Nat.ne_of_beq_eq_false e)⟩
      · exact up z
    · split at h
      · next e2 =>
        split at h
        · next e3 =>
          rcases List.mem_cons.mp h with z | z
          · rw [z]
            exact ⟨List.mem_cons_self, fun _ => ⟨e2, of_decide_eq_false e3⟩⟩
          · exact up z
        · exact up h
      · exact up h
noncomputable def zt_dz (e : zt_E) : Bool := match e.2 with
  | [] => decide (e.1 ≠ 0)
  | _ => false
theorem zt_dz_in {r : Nat → Int} {e : zt_E} (h : zt_dz e = true) : zt_ev r e ≠ 0 := by
  unfold zt_dz at h
  split at h
  · next e1 =>
    rw [zt_kev e1]
    exact of_decide_eq_true h
  · cases h
noncomputable def zt_di (i : Nat) (f : zt_E) : List ((Nat × zt_E) × zt_V) → List ((Nat × zt_E) × zt_V)
  | [] => []
  | q :: l => match Nat.beq q.1.1 i with
    | false => q :: zt_di i f l
    | true => match zt_dz (zt_sub q.1.2 f) with
      | true => q :: zt_di i f l
      | false => zt_di i f l
theorem zt_di_in {i : Nat} {f : zt_E} : ∀ {A : List ((Nat × zt_E) × zt_V)} {q : (Nat × zt_E) × zt_V}, q ∈ zt_di i f A → q ∈ A ∧ ∀ r : Nat → Int, q.1.1 = i → zt_ev r q.1.2 ≠ zt_ev r f
  | [], q, h => nomatch h
  | p :: A, q, h => by
    unfold zt_di at h
    split at h
    · next e =>
      rcases List.mem_cons.mp h with z | z
      · rw [z]
        exact ⟨List.mem_cons_self, fun r y => absurd y (Nat.ne_of_beq_eq_false e)⟩
      · exact ⟨List.mem_cons_of_mem _ (zt_di_in z).1, (zt_di_in z).2⟩
    · split at h
      · next e2 =>
        rcases List.mem_cons.mp h with z | z
        · rw [z]
          refine ⟨List.mem_cons_self, fun r _ y => ?_⟩
          have := zt_dz_in (r := r) e2
          rw [zt_sub_ev] at this
          omega
        · exact ⟨List.mem_cons_of_mem _ (zt_di_in z).1, (zt_di_in z).2⟩
      · exact ⟨List.mem_cons_of_mem _ (zt_di_in h).1, (zt_di_in h).2⟩
noncomputable def zt_md (i k : Nat) (l : List (Nat × Nat)) : Bool := List.rec (motive := fun _ => Bool) false (fun q _ ih => Bool.rec (motive := fun _ => Bool) ih (Bool.rec (motive := fun _ => Bool) ih true (Nat.beq q.2 k)) (Nat.beq q.1 i)) l
theorem zt_md_c (i k : Nat) (q : Nat × Nat) (l : List (Nat × Nat)) : zt_md i k (q :: l) = (match Nat.beq q.1 i && Nat.beq q.2 k with
    | true => true
    | false => zt_md i k l) := by
  show Bool.rec (motive := fun _ => Bool) (zt_md i k l) (Bool.rec (motive := fun _ => Bool) (zt_md i k l) true (Nat.beq q.2 k)) (Nat.beq q.1 i) = _
  cases Nat.beq q.1 i <;> cases Nat.beq q.2 k <;> rfl
theorem zt_md_in {i k : Nat} : ∀ {l : List (Nat × Nat)}, zt_md i k l = true → (i, k) ∈ l
  | [], h => nomatch h
  | (a, b) :: l, h => by
    rw [zt_md_c] at h
    split at h
    · next e =>
      simp only [Bool.and_eq_true] at e
      have e1 : a = i := Nat.eq_of_beq_eq_true e.1
      have e2 : b = k := Nat.eq_of_beq_eq_true e.2
      rw [e1, e2]
      exact List.mem_cons_self
    · exact List.mem_cons_of_mem _ (zt_md_in h)
/-- a field changed -/
noncomputable def zt_aputf (T : zx_Tr zt_C) (md : List (Nat × Nat)) (ci k : Nat) (fty : FieldType) (npc : Nat) (S : zt_S) : zt_R := match S.2.2.1 with
  | a :: b :: B => match Nat.beq b.1 2 with
    | false => none
    | true => match zx_g10 T b.2.2 with
      | some (.inl o) => match Nat.beq o.1 ci with
        | false => none
        | true => match zx_nth o.2 k with
          | none => none
          | some y => match zt_ck S.2.2.2.2 a y && (zt_fy fty y && (zt_md b.2.2 k md && Nat.blt k 300000)) with
            | false => none
            | true => some [(npc, (S.1, S.2.1, B, ((b.2.2, zt_k (k : Int)), a) :: zt_dk b.2.2 k S.2.2.2.1, S.2.2.2.2))]
      | _ => none
  | _ => none
theorem zt_aputf_in {T : zx_Tr zt_C} {K0 ci k npc : Nat} {fty : FieldType} {md : List (Nat × Nat)} : zt_hpr T K0 md (zx_putf K0 ci k fty npc) (zt_aputf T md ci k fty npc) := by
  intro S l r L st h hk hg hA
  unfold zt_aputf at hA
  split at hA
  · next a b B e1 =>
    split at hA
    · cases hA
    · next e2 =>
      split at hA
      · next o e3 =>
        split at hA
        · cases hA
        · next e4 =>
          split at hA
          · cases hA
          · next y e5 =>
            split at hA
            · cases hA
            · next e6 =>
              cases hA
              simp only [Bool.and_eq_true] at e6
              obtain ⟨e6, e7, e8, e9⟩ := e6
              have hv := hg.2.2.1
              have hw := hg.2.2.2.2.2.1
              rw [e1] at hv hw
              obtain ⟨v, vs, rfl, h1, h2⟩ := zt_vs_cons hv
              obtain ⟨u, us, rfl, h3, h4⟩ := zt_vs_cons h2
              obtain ⟨t, e, i⟩ := b
              obtain rfl : t = 2 := Nat.eq_of_beq_eq_true e2
              obtain rfl : u = .ref i := h3
              obtain ⟨⟨hi0, hi⟩, fs, c1, c2⟩ := hk i _ e3
              rw [zx_nth_eq] at e5
              have ec : o.1 = ci := Nat.eq_of_beq_eq_true e4
              rw [ec] at c1
              have hk3 : k < 300000 := Nat.le_of_ble_eq_true e9
              have hy := zt_ck_in hg.1 h1 e6
              have hfit := zt_fy_in e7 hy
              have hat := zt_at_f (v := v) hi hk3 c1
              refine ⟨_, List.mem_cons_self, r, L, us, zx_hs h i (.inl (ci, zx_s10 v fs k)), fun rec kk sl => ?_, fun _ _ => rfl, Nat.le_refl _, ⟨hg.1, hg.2.1, h4, fun q hq => ?_, hg.2.2.2.2.1, fun q hq => hw q (List.mem_cons_of_mem _ (List.mem_cons_of_mem _ hq)), fun q hq => ?_, hg.2.2.2.2.2.2.2⟩, zt_hk_f hk e3 ec c1 e5 hy hk3, rfl, fun p j hm _ => ?_⟩
              · show (match Nat.ble K0 i && zx_fit fty v with | true => (match zx_go h i ci with | none => none | some fs => zx_hsC h i (.inl (ci, zx_s10 v fs k)) (fun h2 => kk npc L us h2 sl)) | false => none) = _
                have e10 : (Nat.ble K0 i && zx_fit fty v) = true := by rw [hfit, Nat.ble_eq_true_of_le hi0]; rfl
                have e11 : zx_go h i ci = some fs := by
                  unfold zx_go
                  rw [c1]
                  show (match Nat.beq ci ci with | true => some fs | false => none) = _
                  rw [Nat.beq_refl]
                rw [e10, e11]
                rfl
              · rcases List.mem_cons.mp hq with z | z
                · rw [z]
                  exact ⟨k, v, (zt_k_ev r _).symm, by rw [hat, if_pos ⟨rfl, rfl⟩], h1⟩
                · obtain ⟨z1, z2⟩ := zt_dk_in z
                  obtain ⟨j, w, g1, g2, g3⟩ := hg.2.2.2.1 q z1
                  refine ⟨j, w, g1, ?_, g3⟩
                  rw [hat, if_neg (fun y => ?_)]
                  · exact g2
                  · obtain ⟨y1, y2⟩ := y
                    obtain ⟨x1, x2⟩ := z2 y1
                    rw [zt_kev x1, y2] at g1
                    exact x2 g1.symm
              · rcases List.mem_cons.mp hq with z | z
                · rw [z]
                  exact ⟨zt_k_lt, hw a List.mem_cons_self⟩
                · exact hg.2.2.2.2.2.2.1 q (zt_dk_in z).1
              · rw [hat, if_neg (fun y => hm (by rw [y.1, y.2]; exact zt_md_in e8))]
      · cases hA
  · cases hA
/-- a row looked at -/
noncomputable def zt_aald (T : zx_Tr zt_C) (ty npc : Nat) (S : zt_S) : zt_R := match S.2.2.1 with
  | b :: a :: B => match Nat.beq b.1 0 && Nat.beq a.1 2 with
    | false => none
    | true => match zx_g10 T a.2.2 with
      | some (.inr x) => match Nat.beq x.1 ty && (zt_ge S.2.2.2.2 b.2.1 && zt_ge S.2.2.2.2 (zt_sub (zt_k ((x.2.1 : Int) - 1)) b.2.1)) with
        | false => none
        | true => zt_ld npc a.2.2 b.2.1 (zt_rye x.2.2 b.2.1) B S
      | _ => none
  | _ => none
theorem zt_cz (v : Value) : zx_cz [] v = v := by
  cases v <;> rfl
theorem zt_clamp (x : Int32) : x.toNatClampNeg = x.toInt.toNat := rfl
/-- what such a look needs, and what it gives -/
theorem zt_aald_g {T : zx_Tr zt_C} {K0 ty npc : Nat} {S : zt_S} {l : List (Nat × zt_S)} {r : Nat → Int} {L : zx_L} {st : List Value} {h : zx_H} (hk : zt_hk T K0 h) (hg : zt_g r S L st h) (hA : zt_aald T ty npc S = some l) :
    ∃ (x : Int32) (i n : Nat) (d : Value) (u : zx_Tr Value) (us : List Value), st = .int x :: .ref i :: us ∧ K0 ≤ i ∧ zx_hg h i = some (.inr (ty, n, d, u)) ∧ 0 ≤ x ∧ x.toNatClampNeg < n ∧ ∃ q ∈ l, q.1 = npc ∧ S.1 ≤ q.2.1 ∧ ∃ r2 : Nat → Int, (∀ i, i < S.1 → r2 i = r i) ∧ zt_g r2 q.2 L (zx_rd d u x.toNatClampNeg :: us) h := by
  unfold zt_aald at hA
  split at hA
  · next b a B e1 =>
    split at hA
    · cases hA
    · next e2 =>
      split at hA
      · next x e3 =>
        split at hA
        · cases hA
        · next e4 =>
          simp only [Bool.and_eq_true] at e2 e4
          obtain ⟨e4, e5, e6⟩ := e4
          have hv := hg.2.2.1
          have hw := hg.2.2.2.2.2.1
          rw [e1] at hv hw
          obtain ⟨v, vs, rfl, h1, h2⟩ := zt_vs_cons hv
          obtain ⟨u, us, rfl, h3, h4⟩ := zt_vs_cons h2
          obtain ⟨tb, e, jb⟩ := b
          obtain ⟨t, ea, i⟩ := a
          obtain rfl : tb = 0 := Nat.eq_of_beq_eq_true e2.1
          obtain rfl : t = 2 := Nat.eq_of_beq_eq_true e2.2
          obtain ⟨z, rfl, hz⟩ := h1
          obtain rfl : u = .ref i := h3
          obtain ⟨⟨hi0, hi⟩, d, w, c1, c0, c2⟩ := hk i _ e3
          obtain ⟨tx, n, y⟩ := x
          obtain rfl : tx = ty := Nat.eq_of_beq_eq_true e4
          have g1 := zt_ge_in hg.1 e5
          have g2 := zt_ge_in hg.1 e6
          rw [zt_sub_ev, zt_k_ev] at g2
          have hz2 : z.toInt = zt_ev r e := hz
          have g2b : 0 ≤ ((n : Int) - 1) - zt_ev r e := g2
          have g1b : 0 ≤ zt_ev r e := g1
          have hlt : z.toNatClampNeg < n := by
            rw [zt_clamp]
            omega
          have hj : ((z.toNatClampNeg : Nat) : Int) = zt_ev r e := by
            rw [zt_clamp]
            omega
          have hat : zt_at h i z.toNatClampNeg = some (zx_rd d w z.toNatClampNeg) := by
            unfold zt_at
            rw [c1]
          obtain ⟨q, q1, q2, q3, r2, q4, q5⟩ := zt_ld_in hg h4 (fun q hq => hw q (List.mem_cons_of_mem _ (List.mem_cons_of_mem _ hq))) (hw (0, e, jb) List.mem_cons_self) hj hat (zt_rye_in hj (c2 _ hlt)) hA
          refine ⟨z, i, n, d, w, us, rfl, hi0, c1, ?_, hlt, q, q1, q2, q3, r2, q4, q5⟩
          rw [Int32.le_iff_toInt_le]
          show (0 : Int) ≤ z.toInt
          omega
      · cases hA
  · cases hA
theorem zt_ald_go {h : zx_H} {x : Int32} {i n ty npc : Nat} {d : Value} {u : zx_Tr Value} {us : List Value} {L : zx_L} (h1 : zx_hg h i = some (.inr (ty, n, d, u))) (h2 : 0 ≤ x) (h3 : x.toNatClampNeg < n) : zt_go (zx_ald [] ty npc) L (.int x :: .ref i :: us) h npc L (zx_rd d u x.toNatClampNeg :: us) h := by
  intro rec kk sl
  show (match decide (0 ≤ x) with | true => (match zx_ga h i ty with | none => none | some x9 => zx_fn x.toNatClampNeg (fun q => match Nat.blt q x9.1 with | true => kk npc L (zx_cz [] (zx_rd x9.2.1 x9.2.2 q) :: us) h sl | false => none)) | false => none) = _
  have e1 : zx_ga h i ty = some (n, d, u) := by
    unfold zx_ga
    rw [h1]
    show (match Nat.beq ty ty with | true => some (n, d, u) | false => none) = _
    rw [Nat.beq_refl]
  rw [decide_eq_true h2, e1]
  show zx_fn x.toNatClampNeg (fun q => match Nat.blt q n with | true => kk npc L (zx_cz [] (zx_rd d u q) :: us) h sl | false => none) = _
  rw [zx_fn_eq, show Nat.blt x.toNatClampNeg n = true from Nat.ble_eq_true_of_le h3, zt_cz]
theorem zt_ald_no {h : zx_H} {x : Int32} {i n ty ty2 npc : Nat} {d : Value} {u : zx_Tr Value} {us : List Value} {L : zx_L} (h1 : zx_hg h i = some (.inr (ty, n, d, u))) (h2 : ty ≠ ty2) (rec : zx_C) (kk : zx_K) (sl : Nat) : zx_ald [] ty2 npc rec L (.int x :: .ref i :: us) h sl kk = none := by
  show (match decide (0 ≤ x) with | true => (match zx_ga h i ty2 with | none => none | some x9 => zx_fn x.toNatClampNeg (fun q => match Nat.blt q x9.1 with | true => kk npc L (zx_cz [] (zx_rd x9.2.1 x9.2.2 q) :: us) h sl | false => none)) | false => none) = _
  have e1 : zx_ga h i ty2 = none := by
    unfold zx_ga
    rw [h1]
    show (match Nat.beq ty ty2 with | true => some (n, d, u) | false => none) = _
    rw [show Nat.beq ty ty2 = false from Bool.eq_false_iff.mpr (fun z => h2 (Nat.eq_of_beq_eq_true z))]
  rw [e1]
  cases decide (0 ≤ x) <;> rfl
theorem zt_aald_in {T : zx_Tr zt_C} {K0 ty npc : Nat} {md : List (Nat × Nat)} : zt_hpr T K0 md (zx_ald [] ty npc) (zt_aald T ty npc) := by
  intro S l r L st h hk hg hA
  obtain ⟨x, i, n, d, u, us, rfl, h1, h2, h3, h4, q, g1, g2, g3, r2, g4, g5⟩ := zt_aald_g hk hg hA
  exact ⟨q, g1, r2, L, _, h, by rw [g2]; exact zt_ald_go h2 h3 h4, g4, g3, g5, hk, zt_fr_refl⟩
theorem zt_aaldO_in {T : zx_Tr zt_C} {K0 ty npc : Nat} {md : List (Nat × Nat)} {O : List zx_W} : zt_hpr T K0 md (zx_aldO [] O K0 ty npc) (zt_aald T ty npc) := by
  intro S l r L st h hk hg hA
  obtain ⟨x, i, n, d, u, us, rfl, h1, h2, h3, h4, q, g1, g2, g3, r2, g4, g5⟩ := zt_aald_g hk hg hA
  refine ⟨q, g1, r2, L, _, h, fun rec kk sl => ?_, g4, g3, g5, hk, zt_fr_refl⟩
  show (match Nat.blt i K0 with | true => zx_aldB [] O ty npc rec L (.int x :: .ref i :: us) h sl kk | false => zx_ald [] ty npc rec L (.int x :: .ref i :: us) h sl kk) = _
  rw [show Nat.blt i K0 = false from Bool.eq_false_iff.mpr (fun z => Nat.not_lt.mpr h1 (Nat.le_of_ble_eq_true z)), g2]
  exact zt_ald_go h2 h3 h4 rec kk sl
