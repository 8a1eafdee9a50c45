/-! ===== what is known behind the other steps with numbers ===== -/
noncomputable def zt_a2J (f : zt_S → zt_E → zt_E → List zt_V → Option zt_S) (npc : Nat) (S : zt_S) : zt_R := match S.2.2.1 with
  | b :: a :: B => match Nat.beq b.1 1 && Nat.beq a.1 1 with
    | true => match f S a.2.1 b.2.1 B with
      | some S2 => some [(npc, S2)]
      | none => none
    | false => none
  | _ => none
theorem zt_a2J_in {o : Int64 → Int64 → Int64} {f : zt_S → zt_E → zt_E → List zt_V → Option zt_S} {npc : Nat}
    (hf : ∀ (S S2 : zt_S) (ea eb : zt_E) (B : List zt_V) (r : Nat → Int) (L : zx_L) (st st2 : List Value) (h : zx_H) (x : Int64) (y : Int64), zt_g r S L st h → zt_vs r B st2 → (∀ q ∈ B, zt_lt S.1 q.2.1) → zt_lt S.1 ea → zt_lt S.1 eb → x.toInt = zt_ev r ea → y.toInt = zt_ev r eb → f S ea eb B = some S2 → ∃ r2 : Nat → Int, (∀ i, i < S.1 → r2 i = r i) ∧ S.1 ≤ S2.1 ∧ zt_g r2 S2 L (.long (o x y) :: st2) h) : zt_pur (zx_bJ o npc) (zt_a2J f npc) := by
  intro S l r L st h hg hA
  unfold zt_a2J at hA
  split at hA
  · next b a B e1 =>
    split at hA
    · next e2 =>
      split at hA
      · next S2 e3 =>
        cases hA
        simp only [Bool.and_eq_true] at e2
        have hv := hg.2.2.1
        have hw := hg.2.2.2.2.2.1
        rw [e1] at hv hw
        obtain ⟨v, vs, rfl, h1, h2⟩ := zt_vs_cons hv
        obtain ⟨u, us, rfl, h3, h4⟩ := zt_vs_cons h2
        obtain ⟨tb, eb, jb⟩ := b
        obtain ⟨ta, ea, ja⟩ := a
        obtain rfl : tb = 1 := Nat.eq_of_beq_eq_true e2.1
        obtain rfl : ta = 1 := Nat.eq_of_beq_eq_true e2.2
        obtain ⟨y, rfl, hy⟩ := h1
        obtain ⟨x, rfl, hx⟩ := h3
        have g := hf S S2 ea eb B r L _ us h x y hg h4 (fun q hq => hw q (List.mem_cons_of_mem _ (List.mem_cons_of_mem _ hq))) (hw _ (List.mem_cons_of_mem _ List.mem_cons_self)) (hw _ List.mem_cons_self) hx hy e3
        obtain ⟨r2, g1, g2, g3⟩ := g
        refine zt_one (fun rec k sl => ?_) g1 g2 g3
        show k npc L (zx_l (o x y) :: us) h sl = _
        rw [zx_l_eq]
      · cases hA
    · cases hA
  · cases hA
noncomputable def zt_a2S (f : zt_S → zt_E → zt_E → List zt_V → Option zt_S) (npc : Nat) (S : zt_S) : zt_R := match S.2.2.1 with
  | b :: a :: B => match Nat.beq b.1 0 && Nat.beq a.1 1 with
    | true => match f S a.2.1 b.2.1 B with
      | some S2 => some [(npc, S2)]
      | none => none
    | false => none
  | _ => none
theorem zt_a2S_in {o : Int64 → Int32 → Int64} {f : zt_S → zt_E → zt_E → List zt_V → Option zt_S} {npc : Nat}
    (hf : ∀ (S S2 : zt_S) (ea eb : zt_E) (B : List zt_V) (r : Nat → Int) (L : zx_L) (st st2 : List Value) (h : zx_H) (x : Int64) (y : Int32), zt_g r S L st h → zt_vs r B st2 → (∀ q ∈ B, zt_lt S.1 q.2.1) → zt_lt S.1 ea → zt_lt S.1 eb → x.toInt = zt_ev r ea → y.toInt = zt_ev r eb → f S ea eb B = some S2 → ∃ r2 : Nat → Int, (∀ i, i < S.1 → r2 i = r i) ∧ S.1 ≤ S2.1 ∧ zt_g r2 S2 L (.long (o x y) :: st2) h) : zt_pur (zx_bS o npc) (zt_a2S f npc) := by
  intro S l r L st h hg hA
  unfold zt_a2S at hA
  split at hA
  · next b a B e1 =>
    split at hA
    · next e2 =>
      split at hA
      · next S2 e3 =>
        cases hA
        simp only [Bool.and_eq_true] at e2
        have hv := hg.2.2.1
        have hw := hg.2.2.2.2.2.1
        rw [e1] at hv hw
        obtain ⟨v, vs, rfl, h1, h2⟩ := zt_vs_cons hv
        obtain ⟨u, us, rfl, h3, h4⟩ := zt_vs_cons h2
        obtain ⟨tb, eb, jb⟩ := b
        obtain ⟨ta, ea, ja⟩ := a
        obtain rfl : tb = 0 := Nat.eq_of_beq_eq_true e2.1
        obtain rfl : ta = 1 := Nat.eq_of_beq_eq_true e2.2
        obtain ⟨y, rfl, hy⟩ := h1
        obtain ⟨x, rfl, hx⟩ := h3
        have g := hf S S2 ea eb B r L _ us h x y hg h4 (fun q hq => hw q (List.mem_cons_of_mem _ (List.mem_cons_of_mem _ hq))) (hw _ (List.mem_cons_of_mem _ List.mem_cons_self)) (hw _ List.mem_cons_self) hx hy e3
        obtain ⟨r2, g1, g2, g3⟩ := g
        refine zt_one (fun rec k sl => ?_) g1 g2 g3
        show k npc L (zx_l (o x y) :: us) h sl = _
        rw [zx_l_eq]
      · cases hA
    · cases hA
  · cases hA
noncomputable def zt_acmp (npc : Nat) (S : zt_S) : zt_R := match S.2.2.1 with
  | b :: a :: B => match Nat.beq b.1 1 && Nat.beq a.1 1 with
    | true => some [(npc, zt_stk ((4, zt_sub a.2.1 b.2.1, 0) :: B) S)]
    | false => none
  | _ => none
theorem zt_cmp (x y : Int64) : ((lg_cmp x y).toInt < 0 ↔ x.toInt - y.toInt < 0) ∧ ((lg_cmp x y).toInt = 0 ↔ x.toInt - y.toInt = 0) := by
  unfold lg_cmp
  by_cases h1 : x > y
  · rw [if_pos h1]
    have h2 : y.toInt < x.toInt := Int64.lt_iff_toInt_lt.mp h1
    have h3 : (1 : Int32).toInt = 1 := rfl
    rw [h3]
    omega
  · rw [if_neg h1]
    by_cases h2 : x = y
    · rw [if_pos h2, h2]
      have h3 : (0 : Int32).toInt = 0 := rfl
      rw [h3]
      omega
    · rw [if_neg h2]
      have h3 : (-1 : Int32).toInt = -1 := rfl
      have h4 : ¬ y.toInt < x.toInt := fun z => h1 (Int64.lt_iff_toInt_lt.mpr z)
      have h5 : x.toInt ≠ y.toInt := fun z => h2 (Int64.toInt_inj.mp z)
      rw [h3]
      omega
theorem zt_acmp_in {npc : Nat} : zt_pur (zx_lcmp npc) (zt_acmp npc) := by
  intro S l r L st h hg hA
  unfold zt_acmp at hA
  split at hA
  · next b a B e1 =>
    split at hA
    · next e2 =>
      cases hA
      simp only [Bool.and_eq_true] at e2
      have hv := hg.2.2.1
      have hw := hg.2.2.2.2.2.1
      rw [e1] at hv hw
      obtain ⟨v, vs, rfl, h1, h2⟩ := zt_vs_cons hv
      obtain ⟨u, us, rfl, h3, h4⟩ := zt_vs_cons h2
      obtain ⟨tb, eb, jb⟩ := b
      obtain ⟨ta, ea, ja⟩ := a
      obtain rfl : tb = 1 := Nat.eq_of_beq_eq_true e2.1
      obtain rfl : ta = 1 := Nat.eq_of_beq_eq_true e2.2
      obtain ⟨y, rfl, hy⟩ := h1
      obtain ⟨x, rfl, hx⟩ := h3
      have he : zt_ev r (zt_sub ea eb) = x.toInt - y.toInt := by
        have hx2 : x.toInt = zt_ev r ea := hx
        have hy2 : y.toInt = zt_ev r eb := hy
        rw [zt_sub_ev, hx2, hy2]
      refine zt_one (r2 := r) (st2 := .int (lg_cmp x y) :: us) (fun rec k sl => ?_) (fun _ _ => rfl) (Nat.le_refl _) (zt_stk_in hg ⟨⟨lg_cmp x y, rfl, ?_, ?_⟩, h4⟩ (fun q hq => (List.mem_cons.mp hq).elim (fun z => by rw [z]; exact zt_sub_lt (hw (1, ea, ja) (List.mem_cons_of_mem _ List.mem_cons_self)) (hw (1, eb, jb) List.mem_cons_self)) (fun z => hw q (List.mem_cons_of_mem _ (List.mem_cons_of_mem _ z)))))
      · show k npc L (zx_i (lg_cmp x y) :: us) h sl = _
        rw [zx_i_eq]
      · show _ ↔ zt_ev r (zt_sub ea eb) < 0
        rw [he]
        exact (zt_cmp x y).1
      · show _ ↔ zt_ev r (zt_sub ea eb) = 0
        rw [he]
        exact (zt_cmp x y).2
    · cases hA
  · cases hA
noncomputable def zt_uI (f : zt_S → zt_E → List zt_V → zt_S) (npc : Nat) (S : zt_S) : zt_R := match S.2.2.1 with
  | a :: B => match Nat.beq a.1 0 with
    | true => some [(npc, f S a.2.1 B)]
    | false => none
  | _ => none
theorem zt_uI_in {o : Int32 → Int32} {f : zt_S → zt_E → List zt_V → zt_S} {npc : Nat}
    (hf : ∀ (S : zt_S) (ea : zt_E) (B : List zt_V) (r : Nat → Int) (L : zx_L) (st st2 : List Value) (h : zx_H) (x : Int32), zt_g r S L st h → zt_vs r B st2 → (∀ q ∈ B, zt_lt S.1 q.2.1) → zt_lt S.1 ea → x.toInt = zt_ev r ea → ∃ r2 : Nat → Int, (∀ i, i < S.1 → r2 i = r i) ∧ S.1 ≤ (f S ea B).1 ∧ zt_g r2 (f S ea B) L (.int (o x) :: st2) h) : zt_pur (zx_uI o npc) (zt_uI f npc) := by
  intro S l r L st h hg hA
  unfold zt_uI at hA
  split at hA
  · next a B e1 =>
    split at hA
    · next e2 =>
      cases hA
      have hv := hg.2.2.1
      have hw := hg.2.2.2.2.2.1
      rw [e1] at hv hw
      obtain ⟨v, vs, rfl, h1, h2⟩ := zt_vs_cons hv
      obtain ⟨ta, ea, ja⟩ := a
      obtain rfl : ta = 0 := Nat.eq_of_beq_eq_true e2
      obtain ⟨x, rfl, hx⟩ := h1
      obtain ⟨r2, g1, g2, g3⟩ := hf S ea B r L _ vs h x hg h2 (fun q hq => hw q (List.mem_cons_of_mem _ hq)) (hw (0, ea, ja) List.mem_cons_self) hx
      refine zt_one (fun rec k sl => ?_) g1 g2 g3
      show k npc L (zx_i (o x) :: vs) h sl = _
      rw [zx_i_eq]
    · cases hA
  · cases hA
noncomputable def zt_uJ (f : zt_S → zt_E → List zt_V → zt_S) (npc : Nat) (S : zt_S) : zt_R := match S.2.2.1 with
  | a :: B => match Nat.beq a.1 1 with
    | true => some [(npc, f S a.2.1 B)]
    | false => none
  | _ => none
theorem zt_uJ_in {o : Int64 → Int64} {f : zt_S → zt_E → List zt_V → zt_S} {npc : Nat}
    (hf : ∀ (S : zt_S) (ea : zt_E) (B : List zt_V) (r : Nat → Int) (L : zx_L) (st st2 : List Value) (h : zx_H) (x : Int64), zt_g r S L st h → zt_vs r B st2 → (∀ q ∈ B, zt_lt S.1 q.2.1) → zt_lt S.1 ea → x.toInt = zt_ev r ea → ∃ r2 : Nat → Int, (∀ i, i < S.1 → r2 i = r i) ∧ S.1 ≤ (f S ea B).1 ∧ zt_g r2 (f S ea B) L (.long (o x) :: st2) h) : zt_pur (zx_uJ o npc) (zt_uJ f npc) := by
  intro S l r L st h hg hA
  unfold zt_uJ at hA
  split at hA
  · next a B e1 =>
    split at hA
    · next e2 =>
      cases hA
      have hv := hg.2.2.1
      have hw := hg.2.2.2.2.2.1
      rw [e1] at hv hw
      obtain ⟨v, vs, rfl, h1, h2⟩ := zt_vs_cons hv
      obtain ⟨ta, ea, ja⟩ := a
      obtain rfl : ta = 1 := Nat.eq_of_beq_eq_true e2
      obtain ⟨x, rfl, hx⟩ := h1
      obtain ⟨r2, g1, g2, g3⟩ := hf S ea B r L _ vs h x hg h2 (fun q hq => hw q (List.mem_cons_of_mem _ hq)) (hw (1, ea, ja) List.mem_cons_self) hx
      refine zt_one (fun rec k sl => ?_) g1 g2 g3
      show k npc L (zx_l (o x) :: vs) h sl = _
      rw [zx_l_eq]
    · cases hA
  · cases hA
noncomputable def zt_uW (f : zt_S → zt_E → List zt_V → zt_S) (npc : Nat) (S : zt_S) : zt_R := match S.2.2.1 with
  | a :: B => match Nat.beq a.1 0 with
    | true => some [(npc, f S a.2.1 B)]
    | false => none
  | _ => none
theorem zt_uW_in {o : Int32 → Int64} {f : zt_S → zt_E → List zt_V → zt_S} {npc : Nat}
    (hf : ∀ (S : zt_S) (ea : zt_E) (B : List zt_V) (r : Nat → Int) (L : zx_L) (st st2 : List Value) (h : zx_H) (x : Int32), zt_g r S L st h → zt_vs r B st2 → (∀ q ∈ B, zt_lt S.1 q.2.1) → zt_lt S.1 ea → x.toInt = zt_ev r ea → ∃ r2 : Nat → Int, (∀ i, i < S.1 → r2 i = r i) ∧ S.1 ≤ (f S ea B).1 ∧ zt_g r2 (f S ea B) L (.long (o x) :: st2) h) : zt_pur (zx_uW o npc) (zt_uW f npc) := by
  intro S l r L st h hg hA
  unfold zt_uW at hA
  split at hA
  · next a B e1 =>
    split at hA
    · next e2 =>
      cases hA
      have hv := hg.2.2.1
      have hw := hg.2.2.2.2.2.1
      rw [e1] at hv hw
      obtain ⟨v, vs, rfl, h1, h2⟩ := zt_vs_cons hv
      obtain ⟨ta, ea, ja⟩ := a
      obtain rfl : ta = 0 := Nat.eq_of_beq_eq_true e2
      obtain ⟨x, rfl, hx⟩ := h1
      obtain ⟨r2, g1, g2, g3⟩ := hf S ea B r L _ vs h x hg h2 (fun q hq => hw q (List.mem_cons_of_mem _ hq)) (hw (0, ea, ja) List.mem_cons_self) hx
      refine zt_one (fun rec k sl => ?_) g1 g2 g3
      show k npc L (zx_l (o x) :: vs) h sl = _
      rw [zx_l_eq]
    · cases hA
  · cases hA
noncomputable def zt_uN (f : zt_S → zt_E → List zt_V → zt_S) (npc : Nat) (S : zt_S) : zt_R := match S.2.2.1 with
  | a :: B => match Nat.beq a.1 1 with
    | true => some [(npc, f S a.2.1 B)]
    | false => none
  | _ => none
theorem zt_uN_in {o : Int64 → Int32} {f : zt_S → zt_E → List zt_V → zt_S} {npc : Nat}
    (hf : ∀ (S : zt_S) (ea : zt_E) (B : List zt_V) (r : Nat → Int) (L : zx_L) (st st2 : List Value) (h : zx_H) (x : Int64), zt_g r S L st h → zt_vs r B st2 → (∀ q ∈ B, zt_lt S.1 q.2.1) → zt_lt S.1 ea → x.toInt = zt_ev r ea → ∃ r2 : Nat → Int, (∀ i, i < S.1 → r2 i = r i) ∧ S.1 ≤ (f S ea B).1 ∧ zt_g r2 (f S ea B) L (.int (o x) :: st2) h) : zt_pur (zx_uN o npc) (zt_uN f npc) := by
  intro S l r L st h hg hA
  unfold zt_uN at hA
  split at hA
  · next a B e1 =>
    split at hA
    · next e2 =>
      cases hA
      have hv := hg.2.2.1
      have hw := hg.2.2.2.2.2.1
      rw [e1] at hv hw
      obtain ⟨v, vs, rfl, h1, h2⟩ := zt_vs_cons hv
      obtain ⟨ta, ea, ja⟩ := a
      obtain rfl : ta = 1 := Nat.eq_of_beq_eq_true e2
      obtain ⟨x, rfl, hx⟩ := h1
      obtain ⟨r2, g1, g2, g3⟩ := hf S ea B r L _ vs h x hg h2 (fun q hq => hw q (List.mem_cons_of_mem _ hq)) (hw (1, ea, ja) List.mem_cons_self) hx
      refine zt_one (fun rec k sl => ?_) g1 g2 g3
      show k npc L (zx_i (o x) :: vs) h sl = _
      rw [zx_i_eq]
    · cases hA
  · cases hA
noncomputable def zt_anyJ (B : List zt_V) (S : zt_S) : zt_S := zt_new 1 (-9223372036854775808) 9223372036854775807 (fun _ => []) B S
theorem zt_anyJ_in {r : Nat → Int} {S : zt_S} {B : List zt_V} {L : zx_L} {st st2 : List Value} {h : zx_H} (x : Int64) (hg : zt_g r S L st h) (hv : zt_vs r B st2) (hw : ∀ q ∈ B, zt_lt S.1 q.2.1) : ∃ r2 : Nat → Int, (∀ i, i < S.1 → r2 i = r i) ∧ S.1 ≤ (zt_anyJ B S).1 ∧ zt_g r2 (zt_anyJ B S) L (.long x :: st2) h := by
  obtain ⟨r2, h1, h2⟩ := zt_new_in x.toInt (t := 1) (v := .long x) (fs := fun _ => []) hg hv hw (fun r2 h2 => ⟨x, rfl, by show _ = zt_ev r2 (zt_s S.1); rw [zt_s_ev, h2]⟩) (zt_i64 x).1 (zt_i64 x).2 (fun _ _ _ f hf => nomatch hf) (fun f hf => nomatch hf)
  exact ⟨r2, h1, Nat.le_succ _, h2⟩
noncomputable def zt_aladd (npc : Nat) : zt_S → zt_R := zt_a2J (fun S a b B => some (zt_fJ (zt_add a b) B S)) npc
theorem zt_aladd_in {npc : Nat} : zt_pur (zx_ladd npc) (zt_aladd npc) := zt_a2J_in (fun S S2 ea eb B r L st st2 h x y hg hv hw ha hb hx hy hf => by
  cases hf
  obtain ⟨r2, h1, h2⟩ := zt_fit1 (x := x + y) hg hv hw (zt_add_lt ha hb) (by rw [zt_add_ev, Int64.toInt_add, hx, hy])
  exact ⟨r2, h1, zt_fitJ_n, h2⟩)
noncomputable def zt_alsub (npc : Nat) : zt_S → zt_R := zt_a2J (fun S a b B => some (zt_fJ (zt_sub a b) B S)) npc
theorem zt_alsub_in {npc : Nat} : zt_pur (zx_lsub npc) (zt_alsub npc) := zt_a2J_in (fun S S2 ea eb B r L st st2 h x y hg hv hw ha hb hx hy hf => by
  cases hf
  obtain ⟨r2, h1, h2⟩ := zt_fit1 (x := x - y) hg hv hw (zt_sub_lt ha hb) (by rw [zt_sub_ev, Int64.toInt_sub, hx, hy])
  exact ⟨r2, h1, zt_fitJ_n, h2⟩)
noncomputable def zt_almul (npc : Nat) : zt_S → zt_R := zt_a2J (fun S a b B => match b.2 with
  | [] => some (zt_fJ (zt_sc b.1 a) B S)
  | _ => match a.2 with
    | [] => some (zt_fJ (zt_sc a.1 b) B S)
    | _ => some (zt_anyJ B S)) npc
theorem zt_almul_in {npc : Nat} : zt_pur (zx_lmul npc) (zt_almul npc) := zt_a2J_in (fun S S2 ea eb B r L st st2 h x y hg hv hw ha hb hx hy hf => by
  split at hf
  · next e =>
    cases hf
    obtain ⟨r2, h1, h2⟩ := zt_fit1 (x := x * y) hg hv hw (zt_sc_lt (k := eb.1) ha) (by rw [zt_sc_ev, Int64.toInt_mul, hx, hy, zt_kev e, Int.mul_comm])
    exact ⟨r2, h1, zt_fitJ_n, h2⟩
  · split at hf
    · next e =>
      cases hf
      obtain ⟨r2, h1, h2⟩ := zt_fit1 (x := x * y) hg hv hw (zt_sc_lt (k := ea.1) hb) (by rw [zt_sc_ev, Int64.toInt_mul, hx, hy, zt_kev e])
      exact ⟨r2, h1, zt_fitJ_n, h2⟩
    · cases hf
      exact zt_anyJ_in (x * y) hg hv hw)
noncomputable def zt_aineg (npc : Nat) : zt_S → zt_R := zt_uI (fun S a B => zt_fI (zt_sc (-1) a) B S) npc
theorem zt_aineg_in {npc : Nat} : zt_pur (zx_ineg npc) (zt_aineg npc) := zt_uI_in (fun S ea B r L st st2 h x hg hv hw ha hx => by
  obtain ⟨r2, h1, h2⟩ := zt_fit0 (x := -x) hg hv hw (zt_sc_lt (k := -1) ha) (by rw [zt_sc_ev, Int32.toInt_neg, hx, Int.neg_one_mul])
  exact ⟨r2, h1, zt_fit_n, h2⟩)
noncomputable def zt_alneg (npc : Nat) : zt_S → zt_R := zt_uJ (fun S a B => zt_fJ (zt_sc (-1) a) B S) npc
theorem zt_alneg_in {npc : Nat} : zt_pur (zx_lneg npc) (zt_alneg npc) := zt_uJ_in (fun S ea B r L st st2 h x hg hv hw ha hx => by
  obtain ⟨r2, h1, h2⟩ := zt_fit1 (x := -x) hg hv hw (zt_sc_lt (k := -1) ha) (by rw [zt_sc_ev, Int64.toInt_neg, hx, Int.neg_one_mul])
  exact ⟨r2, h1, zt_fitJ_n, h2⟩)
noncomputable def zt_ai2l (npc : Nat) : zt_S → zt_R := zt_uW (fun S a B => zt_stk ((1, a, 0) :: B) S) npc
theorem zt_ai2l_in {npc : Nat} : zt_pur (zx_i2l npc) (zt_ai2l npc) := zt_uW_in (fun S ea B r L st st2 h x hg hv hw ha hx =>
  ⟨r, fun _ _ => rfl, Nat.le_refl _, zt_stk_in hg ⟨⟨x.toInt64, rfl, by rw [Int32.toInt_toInt64]; exact hx⟩, hv⟩ (fun q hq => (List.mem_cons.mp hq).elim (fun z => by rw [z]; exact ha) (hw q))⟩)
noncomputable def zt_al2i (npc : Nat) : zt_S → zt_R := zt_uN (fun S a B => zt_fI a B S) npc
theorem zt_al2i_in {npc : Nat} : zt_pur (zx_l2i npc) (zt_al2i npc) := zt_uN_in (fun S ea B r L st st2 h x hg hv hw ha hx => by
  obtain ⟨r2, h1, h2⟩ := zt_fit0 (x := x.toInt32) hg hv hw ha (by rw [Int64.toInt_toInt32, hx])
  exact ⟨r2, h1, zt_fit_n, h2⟩)
/-- as it is, where it is known to be between two numbers, else a new one between them -/
noncomputable def zt_clip (lo hi : Int) (e : zt_E) (B : List zt_V) (S : zt_S) : zt_S := match zt_ge S.2.2.2.2 (zt_sub e (zt_k lo)) && zt_ge S.2.2.2.2 (zt_sub (zt_k hi) e) with
  | true => zt_stk ((0, e, 0) :: B) S
  | false => zt_new 0 lo hi (fun _ => []) B S
theorem zt_clip_in {r : Nat → Int} {S : zt_S} {e : zt_E} {lo hi : Int} {B : List zt_V} {L : zx_L} {st st2 : List Value} {h : zx_H} {x : Int32} (hg : zt_g r S L st h) (hv : zt_vs r B st2) (hw : ∀ q ∈ B, zt_lt S.1 q.2.1) (he : zt_lt S.1 e) (hlo : lo ≤ x.toInt) (hhi : x.toInt ≤ hi) (hx : lo ≤ zt_ev r e → zt_ev r e ≤ hi → x.toInt = zt_ev r e) : ∃ r2 : Nat → Int, (∀ i, i < S.1 → r2 i = r i) ∧ S.1 ≤ (zt_clip lo hi e B S).1 ∧ zt_g r2 (zt_clip lo hi e B S) L (.int x :: st2) h := by
  unfold zt_clip
  split
  · next e1 =>
    simp only [Bool.and_eq_true] at e1
    have h1 := zt_ge_in hg.1 e1.1
    have h2 := zt_ge_in hg.1 e1.2
    rw [zt_sub_ev, zt_k_ev] at h1 h2
    exact ⟨r, fun _ _ => rfl, Nat.le_refl _, zt_stk_in hg ⟨⟨x, rfl, hx (by omega) (by omega)⟩, hv⟩ (fun q hq => (List.mem_cons.mp hq).elim (fun z => by rw [z]; exact he) (hw q))⟩
  · obtain ⟨r2, h1, h2⟩ := zt_new_in x.toInt (t := 0) (v := .int x) (fs := fun _ => []) hg hv hw (fun r2 h2 => ⟨x, rfl, by show _ = zt_ev r2 (zt_s S.1); rw [zt_s_ev, h2]⟩) hlo hhi (fun _ _ _ f hf => nomatch hf) (fun f hf => nomatch hf)
    exact ⟨r2, h1, Nat.le_succ _, h2⟩
noncomputable def zt_ai2b (npc : Nat) : zt_S → zt_R := zt_uI (fun S a B => zt_clip (-128) 127 a B S) npc
theorem zt_ai2b_in {npc : Nat} : zt_pur (zx_i2b npc) (zt_ai2b npc) := zt_uI_in (fun S ea B r L st st2 h x hg hv hw ha hx => by
  have e : x.toInt8.toInt32.toInt = x.toInt.bmod 256 := by rw [Int8.toInt_toInt32, Int32.toInt_toInt8]
  refine zt_clip_in hg hv hw ha ?_ ?_ (fun h1 h2 => ?_)
  · rw [e, Int.bmod_def]
    split <;> omega
  · rw [e, Int.bmod_def]
    split <;> omega
  · rw [e, hx, Int.bmod_def]
    split <;> omega)
noncomputable def zt_ai2s (npc : Nat) : zt_S → zt_R := zt_uI (fun S a B => zt_clip (-32768) 32767 a B S) npc
theorem zt_ai2s_in {npc : Nat} : zt_pur (zx_i2s npc) (zt_ai2s npc) := zt_uI_in (fun S ea B r L st st2 h x hg hv hw ha hx => by
  have e : x.toInt16.toInt32.toInt = x.toInt.bmod 65536 := by rw [Int16.toInt_toInt32, Int32.toInt_toInt16]
  refine zt_clip_in hg hv hw ha ?_ ?_ (fun h1 h2 => ?_)
  · rw [e, Int.bmod_def]
    split <;> omega
  · rw [e, Int.bmod_def]
    split <;> omega
  · rw [e, hx, Int.bmod_def]
    split <;> omega)
/-- a local counted up -/
noncomputable def zt_ainc (i : Nat) (n : Int32) (npc : Nat) (S : zt_S) : zt_R := match zt_lk S.2.1 i with
  | none => none
  | some a => match Nat.beq a.1 0 with
    | false => none
    | true => match (zt_fI (zt_add a.2.1 (zt_k n.toInt)) S.2.2.1 S) with
      | (m, A, b :: B, R) => some [(npc, (m, (i, b) :: zt_cov false i A, B, R))]
      | _ => none
theorem zt_ainc_in {i npc : Nat} {n : Int32} : zt_pur (zx_inc i n npc) (zt_ainc i n npc) := by
  intro S l r L st h hg hA
  unfold zt_ainc at hA
  split at hA
  · cases hA
  · next a e1 =>
    split at hA
    · cases hA
    · next e2 =>
      obtain ⟨v, h1, h2⟩ := hg.2.1 _ (zt_lk_in e1)
      have hl := hg.2.2.2.2.1 _ (zt_lk_in e1)
      obtain ⟨t, e, j⟩ := a
      obtain rfl : t = 0 := Nat.eq_of_beq_eq_true e2
      obtain ⟨x, rfl, hx⟩ := h2
      have hx2 : x.toInt = zt_ev r e := hx
      obtain ⟨r2, g1, g2⟩ := zt_fit0 (x := x + n) (e := zt_add e (zt_k n.toInt)) hg hg.2.2.1 hg.2.2.2.2.2.1 (zt_add_lt hl zt_k_lt) (by rw [zt_add_ev, zt_k_ev, Int32.toInt_add, hx2])
      have g3 := zt_fit_n (e := zt_add e (zt_k n.toInt)) (B := S.2.2.1) (S := S)
      split at hA
      · next m A b B R e3 =>
        cases hA
        rw [e3] at g2 g3
        obtain ⟨u, us, e4, h5, h6⟩ := zt_vs_cons (a := b) (as := B) g2.2.2.1
        cases e4
        refine zt_one (S2 := (m, (i, b) :: zt_cov false i A, B, R)) (fun rec k sl => ?_) g1 g3 (zt_sto_in (S := (m, A, b :: B, R)) (w := false) (i := i) g2 h5 (g2.2.2.2.2.2.1 b List.mem_cons_self) h6 (fun q hq => g2.2.2.2.2.2.1 q (List.mem_cons_of_mem _ hq)))
        show zx_inc i n npc rec L st h sl k = _
        unfold zx_inc
        rw [h1]
        dsimp only
        rw [zx_st_eq, zx_i_eq]
      · cases hA
