/-! ===== what is known behind masks, moves, quotients, tables of places ===== -/
noncomputable def zt_aD (f : zt_S → zt_E → zt_E → List zt_V → Option zt_S) (npc : Nat) (S : zt_S) : zt_R := match S.2.2.1 with
  | b :: a :: B => match Nat.beq b.1 0 && Nat.beq a.1 0 with
    | true => match f S a.2.1 b.2.1 B with
      | some S2 => some [(npc, S2)]
      | none => none
    | false => none
  | _ => none
theorem zt_aD_in {f : zt_S → zt_E → zt_E → List zt_V → Option zt_S} {npc : Nat}
    (hf : ∀ (S S2 : zt_S) (ea eb : zt_E) (B : List zt_V) (r : Nat → Int) (L : zx_L) (st st2 : List Value) (h : zx_H) (x y : Int32), zt_g r S L st h → zt_vs r B st2 → (∀ q ∈ B, zt_lt S.1 q.2.1) → zt_lt S.1 ea → zt_lt S.1 eb → x.toInt = zt_ev r ea → y.toInt = zt_ev r eb → f S ea eb B = some S2 → y ≠ 0 ∧ ∃ r2 : Nat → Int, (∀ i, i < S.1 → r2 i = r i) ∧ S.1 ≤ S2.1 ∧ zt_g r2 S2 L (.int (x / y) :: st2) h) : zt_pur (zx_idiv [] npc) (zt_aD f npc) := by
  intro S l r L st h hg hA
  unfold zt_aD at hA
  split at hA
  · next b a B e1 =>
    split at hA
    · next e2 =>
      split at hA
      · next S2 e3 =>
        cases hA
        simp only [Bool.and_eq_true] at e2
        have hv := hg.2.2.1
        have hw := hg.2.2.2.2.2.1
        rw [e1] at hv hw
        obtain ⟨v, vs, rfl, h1, h2⟩ := zt_vs_cons hv
        obtain ⟨u, us, rfl, h3, h4⟩ := zt_vs_cons h2
        obtain ⟨tb, eb, jb⟩ := b
        obtain ⟨ta, ea, ja⟩ := a
        obtain rfl : tb = 0 := Nat.eq_of_beq_eq_true e2.1
        obtain rfl : ta = 0 := Nat.eq_of_beq_eq_true e2.2
        obtain ⟨y, rfl, hy⟩ := h1
        obtain ⟨x, rfl, hx⟩ := h3
        obtain ⟨h0, r2, g1, g2, g3⟩ := hf S S2 ea eb B r L _ us h x y hg h4 (fun q hq => hw q (List.mem_cons_of_mem _ (List.mem_cons_of_mem _ hq))) (hw _ (List.mem_cons_of_mem _ List.mem_cons_self)) (hw _ List.mem_cons_self) hx hy e3
        refine zt_one (fun rec k sl => ?_) g1 g2 g3
        show (if y = 0 then none else k npc L (zx_i (x / y) :: us) h sl) = _
        rw [if_neg h0, zx_i_eq]
      · cases hA
    · cases hA
  · cases hA
noncomputable def zt_aM (f : zt_S → zt_E → zt_E → List zt_V → Option zt_S) (npc : Nat) (S : zt_S) : zt_R := match S.2.2.1 with
  | b :: a :: B => match Nat.beq b.1 0 && Nat.beq a.1 0 with
    | true => match f S a.2.1 b.2.1 B with
      | some S2 => some [(npc, S2)]
      | none => none
    | false => none
  | _ => none
theorem zt_aM_in {f : zt_S → zt_E → zt_E → List zt_V → Option zt_S} {npc : Nat}
    (hf : ∀ (S S2 : zt_S) (ea eb : zt_E) (B : List zt_V) (r : Nat → Int) (L : zx_L) (st st2 : List Value) (h : zx_H) (x y : Int32), zt_g r S L st h → zt_vs r B st2 → (∀ q ∈ B, zt_lt S.1 q.2.1) → zt_lt S.1 ea → zt_lt S.1 eb → x.toInt = zt_ev r ea → y.toInt = zt_ev r eb → f S ea eb B = some S2 → y ≠ 0 ∧ ∃ r2 : Nat → Int, (∀ i, i < S.1 → r2 i = r i) ∧ S.1 ≤ S2.1 ∧ zt_g r2 S2 L (.int (x - x / y * y) :: st2) h) : zt_pur (zx_irem [] npc) (zt_aM f npc) := by
  intro S l r L st h hg hA
  unfold zt_aM at hA
  split at hA
  · next b a B e1 =>
    split at hA
    · next e2 =>
      split at hA
      · next S2 e3 =>
        cases hA
        simp only [Bool.and_eq_true] at e2
        have hv := hg.2.2.1
        have hw := hg.2.2.2.2.2.1
        rw [e1] at hv hw
        obtain ⟨v, vs, rfl, h1, h2⟩ := zt_vs_cons hv
        obtain ⟨u, us, rfl, h3, h4⟩ := zt_vs_cons h2
        obtain ⟨tb, eb, jb⟩ := b
        obtain ⟨ta, ea, ja⟩ := a
        obtain rfl : tb = 0 := Nat.eq_of_beq_eq_true e2.1
        obtain rfl : ta = 0 := Nat.eq_of_beq_eq_true e2.2
        obtain ⟨y, rfl, hy⟩ := h1
        obtain ⟨x, rfl, hx⟩ := h3
        obtain ⟨h0, r2, g1, g2, g3⟩ := hf S S2 ea eb B r L _ us h x y hg h4 (fun q hq => hw q (List.mem_cons_of_mem _ (List.mem_cons_of_mem _ hq))) (hw _ (List.mem_cons_of_mem _ List.mem_cons_self)) (hw _ List.mem_cons_self) hx hy e3
        refine zt_one (fun rec k sl => ?_) g1 g2 g3
        show (if y = 0 then none else k npc L (zx_i (x - x / y * y) :: us) h sl) = _
        rw [if_neg h0, zx_i_eq]
      · cases hA
    · cases hA
  · cases hA
noncomputable def zt_aDJ (f : zt_S → zt_E → zt_E → List zt_V → Option zt_S) (npc : Nat) (S : zt_S) : zt_R := match S.2.2.1 with
  | b :: a :: B => match Nat.beq b.1 1 && Nat.beq a.1 1 with
    | true => match f S a.2.1 b.2.1 B with
      | some S2 => some [(npc, S2)]
      | none => none
    | false => none
  | _ => none
theorem zt_aDJ_in {f : zt_S → zt_E → zt_E → List zt_V → Option zt_S} {npc : Nat}
    (hf : ∀ (S S2 : zt_S) (ea eb : zt_E) (B : List zt_V) (r : Nat → Int) (L : zx_L) (st st2 : List Value) (h : zx_H) (x y : Int64), zt_g r S L st h → zt_vs r B st2 → (∀ q ∈ B, zt_lt S.1 q.2.1) → zt_lt S.1 ea → zt_lt S.1 eb → x.toInt = zt_ev r ea → y.toInt = zt_ev r eb → f S ea eb B = some S2 → y ≠ 0 ∧ ∃ r2 : Nat → Int, (∀ i, i < S.1 → r2 i = r i) ∧ S.1 ≤ S2.1 ∧ zt_g r2 S2 L (.long (x / y) :: st2) h) : zt_pur (zx_ldiv npc) (zt_aDJ f npc) := by
  intro S l r L st h hg hA
  unfold zt_aDJ at hA
  split at hA
  · next b a B e1 =>
    split at hA
    · next e2 =>
      split at hA
      · next S2 e3 =>
        cases hA
        simp only [Bool.and_eq_true] at e2
        have hv := hg.2.2.1
        have hw := hg.2.2.2.2.2.1
        rw [e1] at hv hw
        obtain ⟨v, vs, rfl, h1, h2⟩ := zt_vs_cons hv
        obtain ⟨u, us, rfl, h3, h4⟩ := zt_vs_cons h2
        obtain ⟨tb, eb, jb⟩ := b
        obtain ⟨ta, ea, ja⟩ := a
        obtain rfl : tb = 1 := Nat.eq_of_beq_eq_true e2.1
        obtain rfl : ta = 1 := Nat.eq_of_beq_eq_true e2.2
        obtain ⟨y, rfl, hy⟩ := h1
        obtain ⟨x, rfl, hx⟩ := h3
        obtain ⟨h0, r2, g1, g2, g3⟩ := hf S S2 ea eb B r L _ us h x y hg h4 (fun q hq => hw q (List.mem_cons_of_mem _ (List.mem_cons_of_mem _ hq))) (hw _ (List.mem_cons_of_mem _ List.mem_cons_self)) (hw _ List.mem_cons_self) hx hy e3
        refine zt_one (fun rec k sl => ?_) g1 g2 g3
        show (if y = 0 then none else k npc L (zx_l (x / y) :: us) h sl) = _
        rw [if_neg h0, zx_l_eq]
      · cases hA
    · cases hA
  · cases hA
noncomputable def zt_aMJ (f : zt_S → zt_E → zt_E → List zt_V → Option zt_S) (npc : Nat) (S : zt_S) : zt_R := match S.2.2.1 with
  | b :: a :: B => match Nat.beq b.1 1 && Nat.beq a.1 1 with
    | true => match f S a.2.1 b.2.1 B with
      | some S2 => some [(npc, S2)]
      | none => none
    | false => none
  | _ => none
theorem zt_aMJ_in {f : zt_S → zt_E → zt_E → List zt_V → Option zt_S} {npc : Nat}
    (hf : ∀ (S S2 : zt_S) (ea eb : zt_E) (B : List zt_V) (r : Nat → Int) (L : zx_L) (st st2 : List Value) (h : zx_H) (x y : Int64), zt_g r S L st h → zt_vs r B st2 → (∀ q ∈ B, zt_lt S.1 q.2.1) → zt_lt S.1 ea → zt_lt S.1 eb → x.toInt = zt_ev r ea → y.toInt = zt_ev r eb → f S ea eb B = some S2 → y ≠ 0 ∧ ∃ r2 : Nat → Int, (∀ i, i < S.1 → r2 i = r i) ∧ S.1 ≤ S2.1 ∧ zt_g r2 S2 L (.long (x - x / y * y) :: st2) h) : zt_pur (zx_lrem npc) (zt_aMJ f npc) := by
  intro S l r L st h hg hA
  unfold zt_aMJ at hA
  split at hA
  · next b a B e1 =>
    split at hA
    · next e2 =>
      split at hA
      · next S2 e3 =>
        cases hA
        simp only [Bool.and_eq_true] at e2
        have hv := hg.2.2.1
        have hw := hg.2.2.2.2.2.1
        rw [e1] at hv hw
        obtain ⟨v, vs, rfl, h1, h2⟩ := zt_vs_cons hv
        obtain ⟨u, us, rfl, h3, h4⟩ := zt_vs_cons h2
        obtain ⟨tb, eb, jb⟩ := b
        obtain ⟨ta, ea, ja⟩ := a
        obtain rfl : tb = 1 := Nat.eq_of_beq_eq_true e2.1
        obtain rfl : ta = 1 := Nat.eq_of_beq_eq_true e2.2
        obtain ⟨y, rfl, hy⟩ := h1
        obtain ⟨x, rfl, hx⟩ := h3
        obtain ⟨h0, r2, g1, g2, g3⟩ := hf S S2 ea eb B r L _ us h x y hg h4 (fun q hq => hw q (List.mem_cons_of_mem _ (List.mem_cons_of_mem _ hq))) (hw _ (List.mem_cons_of_mem _ List.mem_cons_self)) (hw _ List.mem_cons_self) hx hy e3
        refine zt_one (fun rec k sl => ?_) g1 g2 g3
        show (if y = 0 then none else k npc L (zx_l (x - x / y * y) :: us) h sl) = _
        rw [if_neg h0, zx_l_eq]
      · cases hA
    · cases hA
  · cases hA
theorem zt_nat32 (x : Int32) : x.toInt = if 2 * x.toBitVec.toNat < 2 ^ 32 then (x.toBitVec.toNat : Int) else (x.toBitVec.toNat : Int) - ((2 ^ 32 : Nat) : Int) := BitVec.toInt_eq_toNat_cond x.toBitVec
theorem zt_and32 (x y : Int32) (h : 0 ≤ y.toInt) : 0 ≤ (x &&& y).toInt ∧ (x &&& y).toInt ≤ y.toInt ∧ (0 ≤ x.toInt → (x &&& y).toInt ≤ x.toInt) := by
  have e : (x &&& y).toBitVec.toNat = x.toBitVec.toNat &&& y.toBitVec.toNat := BitVec.toNat_and ..
  have h1 : x.toBitVec.toNat &&& y.toBitVec.toNat ≤ x.toBitVec.toNat := Nat.and_le_left
  have h2 : x.toBitVec.toNat &&& y.toBitVec.toNat ≤ y.toBitVec.toNat := Nat.and_le_right
  have h3 := x.toBitVec.isLt
  have h4 := y.toBitVec.isLt
  rw [zt_nat32 y] at h
  rw [zt_nat32 (x &&& y), zt_nat32 y, zt_nat32 x, e]
  revert h1 h2 h3 h4 h
  generalize x.toBitVec.toNat &&& y.toBitVec.toNat = p
  generalize x.toBitVec.toNat = q
  generalize y.toBitVec.toNat = z
  intro h h1 h2 h3 h4
  split at h
  · split <;> split <;> omega
  · omega
theorem zt_andc32 (x y : Int32) : (x &&& y) = (y &&& x) := by
  apply Int32.toBitVec_inj.mp
  exact BitVec.and_comm ..
theorem zt_mask32 (x y : Int32) (k : Nat) (hk : y.toInt + 1 = ((2 ^ k : Nat) : Int)) (h0 : 0 ≤ x.toInt) (h1 : x.toInt ≤ y.toInt) : (x &&& y).toInt = x.toInt := by
  have e : (x &&& y).toBitVec.toNat = x.toBitVec.toNat &&& y.toBitVec.toNat := BitVec.toNat_and ..
  have hx := zt_nat32 x
  have hy := zt_nat32 y
  have h3 := x.toBitVec.isLt
  have h4 := y.toBitVec.isLt
  have hx2 : (x.toBitVec.toNat : Int) = x.toInt := by
    rw [hx] at h0
    split at h0
    · rw [hx, if_pos (by assumption)]
    · omega
  have hy2 : (y.toBitVec.toNat : Int) = y.toInt := by
    have h9 : 0 ≤ y.toInt := Int.le_trans h0 h1
    rw [hy] at h9
    split at h9
    · rw [hy, if_pos (by assumption)]
    · omega
  have e2 : y.toBitVec.toNat = 2 ^ k - 1 := by omega
  have e3 : x.toBitVec.toNat &&& y.toBitVec.toNat = x.toBitVec.toNat := by
    rw [e2, Nat.and_two_pow_sub_one_eq_mod]
    exact Nat.mod_eq_of_lt (by omega)
  have e4 : (x &&& y) = x := Int32.toBitVec_inj.mp (BitVec.eq_of_toNat_eq (e.trans e3))
  rw [e4]
/-- by a mask -/
noncomputable def zt_msk (c : Int) (a : zt_E) (B : List zt_V) (S : zt_S) : zt_S := match zt_ge S.2.2.2.2 a with
  | false => zt_new 0 0 c (fun _ => []) B S
  | true => match decide (c + 1 = ((2 ^ Nat.log2 (c + 1).toNat : Nat) : Int)) && zt_ge S.2.2.2.2 (zt_sub (zt_k c) a) with
    | true => zt_stk ((0, a, 0) :: B) S
    | false => zt_new 0 0 c (fun s => [zt_sub a s]) B S
theorem zt_msk_in {r : Nat → Int} {S : zt_S} {a : zt_E} {c : Int} {B : List zt_V} {L : zx_L} {st st2 : List Value} {h : zx_H} {x y : Int32} (hg : zt_g r S L st h) (hv : zt_vs r B st2) (hw : ∀ q ∈ B, zt_lt S.1 q.2.1) (ha : zt_lt S.1 a) (hx : x.toInt = zt_ev r a) (hy : y.toInt = c) (hc : 0 ≤ c) : ∃ r2 : Nat → Int, (∀ i, i < S.1 → r2 i = r i) ∧ S.1 ≤ (zt_msk c a B S).1 ∧ zt_g r2 (zt_msk c a B S) L (.int (x &&& y) :: st2) h := by
  obtain ⟨g1, g2, g3⟩ := zt_and32 x y (by rw [hy]; exact hc)
  rw [hy] at g2
  have hval : ∀ r2 : Nat → Int, r2 S.1 = (x &&& y).toInt → zt_val r2 (0, zt_s S.1, 0) (.int (x &&& y)) := fun r2 h2 => ⟨x &&& y, rfl, by show _ = zt_ev r2 (zt_s S.1); rw [zt_s_ev, h2]⟩
  unfold zt_msk
  split
  · obtain ⟨r2, h1, h2⟩ := zt_new_in (x &&& y).toInt (fs := fun _ => []) hg hv hw hval g1 g2 (fun _ _ _ f hf => nomatch hf) (fun f hf => nomatch hf)
    exact ⟨r2, h1, Nat.le_succ _, h2⟩
  · next e1 =>
    have h1 := zt_ge_in hg.1 e1
    split
    · next e2 =>
      simp only [Bool.and_eq_true] at e2
      have h2 := zt_ge_in hg.1 e2.2
      rw [zt_sub_ev, zt_k_ev] at h2
      have e3 := of_decide_eq_true e2.1
      refine ⟨r, fun _ _ => rfl, Nat.le_refl _, zt_stk_in hg ⟨⟨x &&& y, rfl, ?_⟩, hv⟩ (fun q hq => (List.mem_cons.mp hq).elim (fun z => by rw [z]; exact ha) (hw q))⟩
      rw [zt_mask32 x y _ (by rw [hy]; exact e3) (by omega) (by omega)]
      exact hx
    · obtain ⟨r2, h1, h2⟩ := zt_new_in (x &&& y).toInt (fs := fun s => [zt_sub a s]) hg hv hw hval g1 g2 (fun r2 h5 h6 f hf => by
        rw [List.mem_singleton.mp hf, zt_sub_ev, zt_s_ev, h6, zt_ev_eq h5 ha]
        have := g3 (by omega)
        omega) (fun f hf => by
        rw [List.mem_singleton.mp hf]
        exact zt_sub_lt (zt_lt_mono ha (Nat.le_succ _)) (zt_s_lt (Nat.lt_succ_self _)))
      exact ⟨r2, h1, Nat.le_succ _, h2⟩
noncomputable def zt_fand (S : zt_S) (a b : zt_E) (B : List zt_V) : Option zt_S := match b.2 with
  | [] => match decide (0 ≤ b.1) with
    | true => some (zt_msk b.1 a B S)
    | false => some (zt_any B S)
  | _ => match a.2 with
    | [] => match decide (0 ≤ a.1) with
      | true => some (zt_msk a.1 b B S)
      | false => some (zt_any B S)
    | _ => match zt_ge S.2.2.2.2 b with
      | true => some (zt_new 0 0 2147483647 (fun s => [zt_sub b s]) B S)
      | false => match zt_ge S.2.2.2.2 a with
        | true => some (zt_new 0 0 2147483647 (fun s => [zt_sub a s]) B S)
        | false => some (zt_any B S)
theorem zt_fand_in {r : Nat → Int} {S S2 : zt_S} {a b : zt_E} {B : List zt_V} {L : zx_L} {st st2 : List Value} {h : zx_H} {x y : Int32} (hg : zt_g r S L st h) (hv : zt_vs r B st2) (hw : ∀ q ∈ B, zt_lt S.1 q.2.1) (ha : zt_lt S.1 a) (hb : zt_lt S.1 b) (hx : x.toInt = zt_ev r a) (hy : y.toInt = zt_ev r b) (hf : zt_fand S a b B = some S2) : ∃ r2 : Nat → Int, (∀ i, i < S.1 → r2 i = r i) ∧ S.1 ≤ S2.1 ∧ zt_g r2 S2 L (.int (x &&& y) :: st2) h := by
  have hval : ∀ r2 : Nat → Int, r2 S.1 = (x &&& y).toInt → zt_val r2 (0, zt_s S.1, 0) (.int (x &&& y)) := fun r2 h2 => ⟨x &&& y, rfl, by show _ = zt_ev r2 (zt_s S.1); rw [zt_s_ev, h2]⟩
  unfold zt_fand at hf
  split at hf
  · next e =>
    split at hf
    · next e2 =>
      cases hf
      exact zt_msk_in hg hv hw ha hx (by rw [hy, zt_kev e]) (of_decide_eq_true e2)
    · cases hf
      exact zt_any_in (x &&& y) hg hv hw
  · split at hf
    · next e =>
      split at hf
      · next e2 =>
        cases hf
        rw [zt_andc32 x y]
        exact zt_msk_in hg hv hw hb hy (by rw [hx, zt_kev e]) (of_decide_eq_true e2)
      · cases hf
        exact zt_any_in (x &&& y) hg hv hw
    · split at hf
      · next e1 =>
        cases hf
        have h1 := zt_ge_in hg.1 e1
        obtain ⟨g1, g2, g3⟩ := zt_and32 x y (by omega)
        obtain ⟨r2, h1, h2⟩ := zt_new_in (x &&& y).toInt (fs := fun s => [zt_sub b s]) hg hv hw hval g1 (zt_i32 _).2 (fun r2 h5 h6 f hf => by
          rw [List.mem_singleton.mp hf, zt_sub_ev, zt_s_ev, h6, zt_ev_eq h5 hb]
          omega) (fun f hf => by
          rw [List.mem_singleton.mp hf]
          exact zt_sub_lt (zt_lt_mono hb (Nat.le_succ _)) (zt_s_lt (Nat.lt_succ_self _)))
        exact ⟨r2, h1, Nat.le_succ _, h2⟩
      · split at hf
        · next e1 =>
          cases hf
          have h1 := zt_ge_in hg.1 e1
          rw [zt_andc32 x y] at hval ⊢
          obtain ⟨g1, g2, g3⟩ := zt_and32 y x (by omega)
          obtain ⟨r2, h1, h2⟩ := zt_new_in (y &&& x).toInt (fs := fun s => [zt_sub a s]) hg hv hw hval g1 (zt_i32 _).2 (fun r2 h5 h6 f hf => by
            rw [List.mem_singleton.mp hf, zt_sub_ev, zt_s_ev, h6, zt_ev_eq h5 ha]
            omega) (fun f hf => by
            rw [List.mem_singleton.mp hf]
            exact zt_sub_lt (zt_lt_mono ha (Nat.le_succ _)) (zt_s_lt (Nat.lt_succ_self _)))
          exact ⟨r2, h1, Nat.le_succ _, h2⟩
        · cases hf
          exact zt_any_in (x &&& y) hg hv hw
/-- a quotient, and the rest, of what isn't below 0 by a number above 0 -/
noncomputable def zt_quo (c : Int) (a : zt_E) (B : List zt_V) (S : zt_S) : zt_S := match decide (0 < c) with
  | false => zt_new 0 (-2147483648) 2147483647 (fun _ => []) B S
  | true => match a.2 with
    | [] => zt_stk ((0, zt_k (a.1 / c), 0) :: B) S
    | _ => zt_new 0 (-2147483648) 2147483647 (fun s => zt_sub a (zt_sc c s) :: zt_sub (zt_add (zt_sc c s) (zt_k (c - 1))) a :: zt_qb S.2.2.2.2 a c s) B S
theorem zt_quo_in {r : Nat → Int} {S : zt_S} {a : zt_E} {c : Int} {B : List zt_V} {L : zx_L} {st st2 : List Value} {h : zx_H} {q : Int32} (hg : zt_g r S L st h) (hv : zt_vs r B st2) (hw : ∀ q ∈ B, zt_lt S.1 q.2.1) (ha : zt_lt S.1 a) (h1 : c * q.toInt ≤ zt_ev r a) (h2 : zt_ev r a ≤ c * q.toInt + (c - 1)) : ∃ r2 : Nat → Int, (∀ i, i < S.1 → r2 i = r i) ∧ S.1 ≤ (zt_quo c a B S).1 ∧ zt_g r2 (zt_quo c a B S) L (.int q :: st2) h := by
  unfold zt_quo
  split
  · obtain ⟨r2, g1, g2⟩ := zt_new_in q.toInt (t := 0) (v := .int q) (fs := fun _ => []) hg hv hw (fun r2 h2 => ⟨q, rfl, by show _ = zt_ev r2 (zt_s S.1); rw [zt_s_ev, h2]⟩) (zt_i32 q).1 (zt_i32 q).2 (fun _ _ _ f hf => nomatch hf) (fun f hf => nomatch hf)
    exact ⟨r2, g1, Nat.le_succ _, g2⟩
  · next e0 =>
    have hc : 0 < c := of_decide_eq_true e0
    split
    · next e1 =>
      rw [zt_kev e1] at h1 h2
      refine ⟨r, fun _ _ => rfl, Nat.le_refl _, zt_stk_in hg ⟨⟨q, rfl, ?_⟩, hv⟩ (fun b hb => (List.mem_cons.mp hb).elim (fun z => by rw [z]; exact zt_k_lt) (hw b))⟩
      show _ = zt_ev r (zt_k (a.1 / c))
      rw [zt_k_ev, zt_qeq hc h1 h2]
    · obtain ⟨r2, g1, g2⟩ := zt_new_in q.toInt (t := 0) (v := .int q) (fs := fun s => zt_sub a (zt_sc c s) :: zt_sub (zt_add (zt_sc c s) (zt_k (c - 1))) a :: zt_qb S.2.2.2.2 a c s) hg hv hw (fun r2 h2 => ⟨q, rfl, by show _ = zt_ev r2 (zt_s S.1); rw [zt_s_ev, h2]⟩) (zt_i32 q).1 (zt_i32 q).2 (fun r2 h5 h6 f hf => by
        rcases List.mem_cons.mp hf with e | hf
        · rw [e, zt_sub_ev, zt_sc_ev, zt_s_ev, h6, zt_ev_eq h5 ha]
          omega
        · rcases List.mem_cons.mp hf with e | hf
          · rw [e, zt_sub_ev, zt_add_ev, zt_sc_ev, zt_k_ev, zt_s_ev, h6, zt_ev_eq h5 ha]
            omega
          · exact zt_qb_in hg.1 hc h1 h2 (by rw [zt_s_ev, h6]) f hf) (fun f hf => by
        rcases List.mem_cons.mp hf with e | hf
        · rw [e]
          exact zt_sub_lt (zt_lt_mono ha (Nat.le_succ _)) (zt_sc_lt (zt_s_lt (Nat.lt_succ_self _)))
        · rcases List.mem_cons.mp hf with e | hf
          · rw [e]
            exact zt_sub_lt (zt_add_lt (zt_sc_lt (zt_s_lt (Nat.lt_succ_self _))) zt_k_lt) (zt_lt_mono ha (Nat.le_succ _))
          · exact zt_qb_lt (zt_s_lt (Nat.lt_succ_self _)) f hf)
      exact ⟨r2, g1, Nat.le_succ _, g2⟩
theorem zt_div32 (x y : Int32) (hx : 0 ≤ x.toInt) (hy : 0 < y.toInt) : (x / y).toInt = x.toInt / y.toInt := by
  have h1 := zt_i32 x
  have h2 : 0 ≤ x.toInt / y.toInt := Int.ediv_nonneg hx (Int.le_of_lt hy)
  have h3 : x.toInt / y.toInt ≤ x.toInt := Int.ediv_le_self _ hx
  rw [Int32.toInt_div, Int.tdiv_eq_ediv_of_nonneg hx]
  exact zt_bm32 (by omega) (by omega)
noncomputable def zt_fdiv (S : zt_S) (a b : zt_E) (B : List zt_V) : Option zt_S := match b.2 with
  | [] => match decide (b.1 = 0) with
    | true => none
    | false => match decide (0 < b.1) && zt_ge S.2.2.2.2 a with
      | true => some (zt_quo b.1 a B S)
      | false => some (zt_any B S)
  | _ => match zt_ge S.2.2.2.2 (zt_sub b (zt_k 1)) with
    | true => match zt_ge S.2.2.2.2 a with
      | true => some (zt_new 0 0 2147483647 (fun s => [zt_sub a s]) B S)
      | false => some (zt_any B S)
    | false => match zt_ge S.2.2.2.2 (zt_sub (zt_sc (-1) b) (zt_k 1)) with
      | true => some (zt_any B S)
      | false => none
theorem zt_ne032 {y : Int32} (h : y.toInt ≠ 0) : y ≠ 0 := fun e => h (by rw [e]; rfl)
theorem zt_fdiv_in {r : Nat → Int} {S S2 : zt_S} {a b : zt_E} {B : List zt_V} {L : zx_L} {st st2 : List Value} {h : zx_H} {x y : Int32} (hg : zt_g r S L st h) (hv : zt_vs r B st2) (hw : ∀ q ∈ B, zt_lt S.1 q.2.1) (ha : zt_lt S.1 a) (hb : zt_lt S.1 b) (hx : x.toInt = zt_ev r a) (hy : y.toInt = zt_ev r b) (hf : zt_fdiv S a b B = some S2) : y ≠ 0 ∧ ∃ r2 : Nat → Int, (∀ i, i < S.1 → r2 i = r i) ∧ S.1 ≤ S2.1 ∧ zt_g r2 S2 L (.int (x / y) :: st2) h := by
  unfold zt_fdiv at hf
  split at hf
  · next e =>
    rw [zt_kev e] at hy
    split at hf
    · cases hf
    · next e1 =>
      refine ⟨zt_ne032 (by rw [hy]; exact of_decide_eq_false e1), ?_⟩
      split at hf
      · next e2 =>
        cases hf
        simp only [Bool.and_eq_true] at e2
        have h1 := of_decide_eq_true e2.1
        have h2 := zt_ge_in hg.1 e2.2
        have e3 := zt_div32 x y (by omega) (by omega)
        rw [hx, hy] at e3
        refine zt_quo_in hg hv hw ha ?_ ?_
        · rw [e3]
          exact Int.mul_ediv_self_le (by omega)
        · rw [e3]
          have := Int.lt_mul_ediv_self_add (x := zt_ev r a) (k := b.1) h1
          omega
      · cases hf
        exact zt_any_in _ hg hv hw
  · split at hf
    · next e1 =>
      have h1 := zt_ge_in hg.1 e1
      rw [zt_sub_ev, zt_k_ev] at h1
      refine ⟨zt_ne032 (by omega), ?_⟩
      split at hf
      · next e2 =>
        cases hf
        have h2 := zt_ge_in hg.1 e2
        have e3 := zt_div32 x y (by omega) (by omega)
        have h4 : 0 ≤ x.toInt / y.toInt := Int.ediv_nonneg (by omega) (by omega)
        have h5 : x.toInt / y.toInt ≤ x.toInt := Int.ediv_le_self _ (by omega)
        obtain ⟨r2, h1, h2⟩ := zt_new_in (x / y).toInt (t := 0) (lo := 0) (hi := 2147483647) (v := .int (x / y)) (fs := fun s => [zt_sub a s]) hg hv hw (fun r2 h2 => ⟨x / y, rfl, by show _ = zt_ev r2 (zt_s S.1); rw [zt_s_ev, h2]⟩) (by omega) (zt_i32 _).2 (fun r2 h5 h6 f hf => by
          rw [List.mem_singleton.mp hf, zt_sub_ev, zt_s_ev, h6, zt_ev_eq h5 ha]
          omega) (fun f hf => by
          rw [List.mem_singleton.mp hf]
          exact zt_sub_lt (zt_lt_mono ha (Nat.le_succ _)) (zt_s_lt (Nat.lt_succ_self _)))
        exact ⟨r2, h1, Nat.le_succ _, h2⟩
      · cases hf
        exact zt_any_in _ hg hv hw
    · split at hf
      · next e1 =>
        cases hf
        have h1 := zt_ge_in hg.1 e1
        rw [zt_sub_ev, zt_sc_ev, zt_k_ev] at h1
        exact ⟨zt_ne032 (by omega), zt_any_in _ hg hv hw⟩
      · cases hf
theorem zt_rem32 (x y : Int32) (hy : 0 < y.toInt) : (x - x / y * y).toInt = x.toInt.tmod y.toInt := by
  have h1 : y ≠ -1 := fun e => by
    rw [e] at hy
    exact absurd hy (by decide)
  have h2 : (x / y).toInt = x.toInt.tdiv y.toInt := Int32.toInt_div_of_ne_right _ _ h1
  have h3 := zt_i32 y
  have h4 : -y.toInt < x.toInt.tmod y.toInt := by
    have := Int.lt_tmod_of_pos x.toInt hy
    omega
  have h5 : x.toInt.tmod y.toInt < y.toInt := Int.tmod_lt_of_pos x.toInt hy
  rw [Int32.toInt_sub, Int32.toInt_mul, h2, Int.sub_bmod_bmod, Int.mul_comm (x.toInt.tdiv y.toInt), ← Int.tmod_def]
  exact zt_bm32 (by omega) (by omega)
noncomputable def zt_rh (F : List zt_E) (a : zt_E) : Int := match zt_ge F (zt_sc (-1) a) with
  | true => 0
  | false => 2147483647
theorem zt_rh_in {r : Nat → Int} {F : List zt_E} (hF : zt_ok r F) {a : zt_E} {x y : Int32} (hx : x.toInt = zt_ev r a) (h0 : 0 < y.toInt) : (x - x / y * y).toInt ≤ zt_rh F a := by
  unfold zt_rh
  split
  · next e =>
    have h1 := zt_ge_in hF e
    rw [zt_sc_ev] at h1
    have h2 : 0 ≤ (-x.toInt).tmod y.toInt := Int.tmod_nonneg _ (by omega)
    rw [Int.neg_tmod] at h2
    rw [zt_rem32 x y h0]
    omega
  · exact (zt_i32 _).2
noncomputable def zt_frem (S : zt_S) (a b : zt_E) (B : List zt_V) : Option zt_S := match zt_ge S.2.2.2.2 (zt_sub b (zt_k 1)) with
  | false => none
  | true => match zt_ge S.2.2.2.2 a with
    | true => match zt_ge S.2.2.2.2 (zt_sub (zt_sub b a) (zt_k 1)) with
      | true => some (zt_stk ((0, a, 0) :: B) S)
      | false => some (zt_new 0 0 2147483647 (fun s => [zt_sub a s, zt_sub (zt_sub b (zt_k 1)) s]) B S)
    | false => some (zt_new 0 (-2147483648) (zt_rh S.2.2.2.2 a) (fun s => [zt_sub (zt_sub b (zt_k 1)) s, zt_add (zt_sub b (zt_k 1)) s]) B S)
theorem zt_frem_in {r : Nat → Int} {S S2 : zt_S} {a b : zt_E} {B : List zt_V} {L : zx_L} {st st2 : List Value} {h : zx_H} {x y : Int32} (hg : zt_g r S L st h) (hv : zt_vs r B st2) (hw : ∀ q ∈ B, zt_lt S.1 q.2.1) (ha : zt_lt S.1 a) (hb : zt_lt S.1 b) (hx : x.toInt = zt_ev r a) (hy : y.toInt = zt_ev r b) (hf : zt_frem S a b B = some S2) : y ≠ 0 ∧ ∃ r2 : Nat → Int, (∀ i, i < S.1 → r2 i = r i) ∧ S.1 ≤ S2.1 ∧ zt_g r2 S2 L (.int (x - x / y * y) :: st2) h := by
  unfold zt_frem at hf
  split at hf
  · cases hf
  · next e1 =>
    have h1 := zt_ge_in hg.1 e1
    rw [zt_sub_ev, zt_k_ev] at h1
    have h0 : 0 < y.toInt := by omega
    have e3 := zt_rem32 x y h0
    have h4 := Int.lt_tmod_of_pos x.toInt h0
    have h5 := Int.tmod_lt_of_pos x.toInt h0
    refine ⟨zt_ne032 (by omega), ?_⟩
    split at hf
    · next e2 =>
      split at hf
      · next e5 =>
        cases hf
        have h2 := zt_ge_in hg.1 e2
        have h7 := zt_ge_in hg.1 e5
        rw [zt_sub_ev, zt_sub_ev, zt_k_ev] at h7
        have h8 : x.toInt.tmod y.toInt = x.toInt := by
          rw [Int.tmod_eq_emod_of_nonneg (by omega), Int.emod_eq_of_lt (by omega) (by omega)]
        refine ⟨r, fun _ _ => rfl, Nat.le_refl _, zt_stk_in hg ⟨⟨x - x / y * y, rfl, ?_⟩, hv⟩ (fun q hq => (List.mem_cons.mp hq).elim (fun z => by rw [z]; exact ha) (hw q))⟩
        show (x - x / y * y).toInt = zt_ev r a
        rw [e3, h8, hx]
      cases hf
      have h2 := zt_ge_in hg.1 e2
      have h6 : 0 ≤ x.toInt.tmod y.toInt := Int.tmod_nonneg _ (by omega)
      have h7 : x.toInt.tmod y.toInt ≤ x.toInt := by
        rw [Int.tmod_eq_emod_of_nonneg (by omega)]
        rw [Int.emod_def]
        have := Int.mul_nonneg (Int.le_of_lt h0) (Int.ediv_nonneg (a := x.toInt) (b := y.toInt) (by omega) (by omega))
        omega
      obtain ⟨r2, g1, g2⟩ := zt_new_in (x - x / y * y).toInt (t := 0) (lo := 0) (hi := 2147483647) (v := .int (x - x / y * y)) (fs := fun s => [zt_sub a s, zt_sub (zt_sub b (zt_k 1)) s]) hg hv hw (fun r2 h2 => ⟨x - x / y * y, rfl, by show _ = zt_ev r2 (zt_s S.1); rw [zt_s_ev, h2]⟩) (by omega) (zt_i32 _).2 (fun r2 h8 h9 f hf => by
        rcases List.mem_cons.mp hf with e | hf
        · rw [e, zt_sub_ev, zt_s_ev, h9, zt_ev_eq h8 ha]
          omega
        · rw [List.mem_singleton.mp hf, zt_sub_ev, zt_sub_ev, zt_k_ev, zt_s_ev, h9, zt_ev_eq h8 hb]
          omega) (fun f hf => by
        rcases List.mem_cons.mp hf with e | hf
        · rw [e]
          exact zt_sub_lt (zt_lt_mono ha (Nat.le_succ _)) (zt_s_lt (Nat.lt_succ_self _))
        · rw [List.mem_singleton.mp hf]
          exact zt_sub_lt (zt_sub_lt (zt_lt_mono hb (Nat.le_succ _)) zt_k_lt) (zt_s_lt (Nat.lt_succ_self _)))
      exact ⟨r2, g1, Nat.le_succ _, g2⟩
    · cases hf
      obtain ⟨r2, g1, g2⟩ := zt_new_in (x - x / y * y).toInt (t := 0) (v := .int (x - x / y * y)) (fs := fun s => [zt_sub (zt_sub b (zt_k 1)) s, zt_add (zt_sub b (zt_k 1)) s]) hg hv hw (fun r2 h2 => ⟨x - x / y * y, rfl, by show _ = zt_ev r2 (zt_s S.1); rw [zt_s_ev, h2]⟩) (zt_i32 _).1 (zt_rh_in hg.1 hx h0) (fun r2 h8 h9 f hf => by
        rcases List.mem_cons.mp hf with e | hf
        · rw [e, zt_sub_ev, zt_sub_ev, zt_k_ev, zt_s_ev, h9, zt_ev_eq h8 hb]
          omega
        · rw [List.mem_singleton.mp hf, zt_add_ev, zt_sub_ev, zt_k_ev, zt_s_ev, h9, zt_ev_eq h8 hb]
          omega) (fun f hf => by
        rcases List.mem_cons.mp hf with e | hf
        · rw [e]
          exact zt_sub_lt (zt_sub_lt (zt_lt_mono hb (Nat.le_succ _)) zt_k_lt) (zt_s_lt (Nat.lt_succ_self _))
        · rw [List.mem_singleton.mp hf]
          exact zt_add_lt (zt_sub_lt (zt_lt_mono hb (Nat.le_succ _)) zt_k_lt) (zt_s_lt (Nat.lt_succ_self _)))
      exact ⟨r2, g1, Nat.le_succ _, g2⟩
theorem zt_nat64 (x : Int64) : x.toInt = if 2 * x.toBitVec.toNat < 2 ^ 64 then (x.toBitVec.toNat : Int) else (x.toBitVec.toNat : Int) - ((2 ^ 64 : Nat) : Int) := BitVec.toInt_eq_toNat_cond x.toBitVec
theorem zt_and64 (x y : Int64) (h : 0 ≤ y.toInt) : 0 ≤ (x &&& y).toInt ∧ (x &&& y).toInt ≤ y.toInt ∧ (0 ≤ x.toInt → (x &&& y).toInt ≤ x.toInt) := by
  have e : (x &&& y).toBitVec.toNat = x.toBitVec.toNat &&& y.toBitVec.toNat := BitVec.toNat_and ..
  have h1 : x.toBitVec.toNat &&& y.toBitVec.toNat ≤ x.toBitVec.toNat := Nat.and_le_left
  have h2 : x.toBitVec.toNat &&& y.toBitVec.toNat ≤ y.toBitVec.toNat := Nat.and_le_right
  have h3 := x.toBitVec.isLt
  have h4 := y.toBitVec.isLt
  rw [zt_nat64 y] at h
  rw [zt_nat64 (x &&& y), zt_nat64 y, zt_nat64 x, e]
  revert h1 h2 h3 h4 h
  generalize x.toBitVec.toNat &&& y.toBitVec.toNat = p
  generalize x.toBitVec.toNat = q
  generalize y.toBitVec.toNat = z
  intro h h1 h2 h3 h4
  split at h
  · split <;> split <;> omega
  · omega
theorem zt_andc64 (x y : Int64) : (x &&& y) = (y &&& x) := by
  apply Int64.toBitVec_inj.mp
  exact BitVec.and_comm ..
theorem zt_mask64 (x y : Int64) (k : Nat) (hk : y.toInt + 1 = ((2 ^ k : Nat) : Int)) (h0 : 0 ≤ x.toInt) (h1 : x.toInt ≤ y.toInt) : (x &&& y).toInt = x.toInt := by
  have e : (x &&& y).toBitVec.toNat = x.toBitVec.toNat &&& y.toBitVec.toNat := BitVec.toNat_and ..
  have hx := zt_nat64 x
  have hy := zt_nat64 y
  have h3 := x.toBitVec.isLt
  have h4 := y.toBitVec.isLt
  have hx2 : (x.toBitVec.toNat : Int) = x.toInt := by
    rw [hx] at h0
    split at h0
    · rw [hx, if_pos (by assumption)]
    · omega
  have hy2 : (y.toBitVec.toNat : Int) = y.toInt := by
    have h9 : 0 ≤ y.toInt := Int.le_trans h0 h1
    rw [hy] at h9
    split at h9
    · rw [hy, if_pos (by assumption)]
    · omega
  have e2 : y.toBitVec.toNat = 2 ^ k - 1 := by omega
  have e3 : x.toBitVec.toNat &&& y.toBitVec.toNat = x.toBitVec.toNat := by
    rw [e2, Nat.and_two_pow_sub_one_eq_mod]
    exact Nat.mod_eq_of_lt (by omega)
  have e4 : (x &&& y) = x := Int64.toBitVec_inj.mp (BitVec.eq_of_toNat_eq (e.trans e3))
  rw [e4]
/-- by a mask -/
noncomputable def zt_mskJ (c : Int) (a : zt_E) (B : List zt_V) (S : zt_S) : zt_S := match zt_ge S.2.2.2.2 a with
  | false => zt_new 1 0 c (fun _ => []) B S
  | true => match decide (c + 1 = ((2 ^ Nat.log2 (c + 1).toNat : Nat) : Int)) && zt_ge S.2.2.2.2 (zt_sub (zt_k c) a) with
    | true => zt_stk ((1, a, 0) :: B) S
    | false => zt_new 1 0 c (fun s => [zt_sub a s]) B S
theorem zt_mskJ_in {r : Nat → Int} {S : zt_S} {a : zt_E} {c : Int} {B : List zt_V} {L : zx_L} {st st2 : List Value} {h : zx_H} {x y : Int64} (hg : zt_g r S L st h) (hv : zt_vs r B st2) (hw : ∀ q ∈ B, zt_lt S.1 q.2.1) (ha : zt_lt S.1 a) (hx : x.toInt = zt_ev r a) (hy : y.toInt = c) (hc : 0 ≤ c) : ∃ r2 : Nat → Int, (∀ i, i < S.1 → r2 i = r i) ∧ S.1 ≤ (zt_mskJ c a B S).1 ∧ zt_g r2 (zt_mskJ c a B S) L (.long (x &&& y) :: st2) h := by
  obtain ⟨g1, g2, g3⟩ := zt_and64 x y (by rw [hy]; exact hc)
  rw [hy] at g2
  have hval : ∀ r2 : Nat → Int, r2 S.1 = (x &&& y).toInt → zt_val r2 (1, zt_s S.1, 0) (.long (x &&& y)) := fun r2 h2 => ⟨x &&& y, rfl, by show _ = zt_ev r2 (zt_s S.1); rw [zt_s_ev, h2]⟩
  unfold zt_mskJ
  split
  · obtain ⟨r2, h1, h2⟩ := zt_new_in (x &&& y).toInt (fs := fun _ => []) hg hv hw hval g1 g2 (fun _ _ _ f hf => nomatch hf) (fun f hf => nomatch hf)
    exact ⟨r2, h1, Nat.le_succ _, h2⟩
  · next e1 =>
    have h1 := zt_ge_in hg.1 e1
    split
    · next e2 =>
      simp only [Bool.and_eq_true] at e2
      have h2 := zt_ge_in hg.1 e2.2
      rw [zt_sub_ev, zt_k_ev] at h2
      have e3 := of_decide_eq_true e2.1
      refine ⟨r, fun _ _ => rfl, Nat.le_refl _, zt_stk_in hg ⟨⟨x &&& y, rfl, ?_⟩, hv⟩ (fun q hq => (List.mem_cons.mp hq).elim (fun z => by rw [z]; exact ha) (hw q))⟩
      rw [zt_mask64 x y _ (by rw [hy]; exact e3) (by omega) (by omega)]
      exact hx
    · obtain ⟨r2, h1, h2⟩ := zt_new_in (x &&& y).toInt (fs := fun s => [zt_sub a s]) hg hv hw hval g1 g2 (fun r2 h5 h6 f hf => by
        rw [List.mem_singleton.mp hf, zt_sub_ev, zt_s_ev, h6, zt_ev_eq h5 ha]
        have := g3 (by omega)
        omega) (fun f hf => by
        rw [List.mem_singleton.mp hf]
        exact zt_sub_lt (zt_lt_mono ha (Nat.le_succ _)) (zt_s_lt (Nat.lt_succ_self _)))
      exact ⟨r2, h1, Nat.le_succ _, h2⟩
noncomputable def zt_fandJ (S : zt_S) (a b : zt_E) (B : List zt_V) : Option zt_S := match b.2 with
  | [] => match decide (0 ≤ b.1) with
    | true => some (zt_mskJ b.1 a B S)
    | false => some (zt_anyJ B S)
  | _ => match a.2 with
    | [] => match decide (0 ≤ a.1) with
      | true => some (zt_mskJ a.1 b B S)
      | false => some (zt_anyJ B S)
    | _ => match zt_ge S.2.2.2.2 b with
      | true => some (zt_new 1 0 9223372036854775807 (fun s => [zt_sub b s]) B S)
      | false => match zt_ge S.2.2.2.2 a with
        | true => some (zt_new 1 0 9223372036854775807 (fun s => [zt_sub a s]) B S)
        | false => some (zt_anyJ B S)
theorem zt_fandJ_in {r : Nat → Int} {S S2 : zt_S} {a b : zt_E} {B : List zt_V} {L : zx_L} {st st2 : List Value} {h : zx_H} {x y : Int64} (hg : zt_g r S L st h) (hv : zt_vs r B st2) (hw : ∀ q ∈ B, zt_lt S.1 q.2.1) (ha : zt_lt S.1 a) (hb : zt_lt S.1 b) (hx : x.toInt = zt_ev r a) (hy : y.toInt = zt_ev r b) (hf : zt_fandJ S a b B = some S2) : ∃ r2 : Nat → Int, (∀ i, i < S.1 → r2 i = r i) ∧ S.1 ≤ S2.1 ∧ zt_g r2 S2 L (.long (x &&& y) :: st2) h := by
  have hval : ∀ r2 : Nat → Int, r2 S.1 = (x &&& y).toInt → zt_val r2 (1, zt_s S.1, 0) (.long (x &&& y)) := fun r2 h2 => ⟨x &&& y, rfl, by show _ = zt_ev r2 (zt_s S.1); rw [zt_s_ev, h2]⟩
  unfold zt_fandJ at hf
  split at hf
  · next e =>
    split at hf
    · next e2 =>
      cases hf
      exact zt_mskJ_in hg hv hw ha hx (by rw [hy, zt_kev e]) (of_decide_eq_true e2)
    · cases hf
      exact zt_anyJ_in (x &&& y) hg hv hw
  · split at hf
    · next e =>
      split at hf
      · next e2 =>
        cases hf
        rw [zt_andc64 x y]
        exact zt_mskJ_in hg hv hw hb hy (by rw [hx, zt_kev e]) (of_decide_eq_true e2)
      · cases hf
        exact zt_anyJ_in (x &&& y) hg hv hw
    · split at hf
      · next e1 =>
        cases hf
        have h1 := zt_ge_in hg.1 e1
        obtain ⟨g1, g2, g3⟩ := zt_and64 x y (by omega)
        obtain ⟨r2, h1, h2⟩ := zt_new_in (x &&& y).toInt (fs := fun s => [zt_sub b s]) hg hv hw hval g1 (zt_i64 _).2 (fun r2 h5 h6 f hf => by
          rw [List.mem_singleton.mp hf, zt_sub_ev, zt_s_ev, h6, zt_ev_eq h5 hb]
          omega) (fun f hf => by
          rw [List.mem_singleton.mp hf]
          exact zt_sub_lt (zt_lt_mono hb (Nat.le_succ _)) (zt_s_lt (Nat.lt_succ_self _)))
        exact ⟨r2, h1, Nat.le_succ _, h2⟩
      · split at hf
        · next e1 =>
          cases hf
          have h1 := zt_ge_in hg.1 e1
          rw [zt_andc64 x y] at hval ⊢
          obtain ⟨g1, g2, g3⟩ := zt_and64 y x (by omega)
          obtain ⟨r2, h1, h2⟩ := zt_new_in (y &&& x).toInt (fs := fun s => [zt_sub a s]) hg hv hw hval g1 (zt_i64 _).2 (fun r2 h5 h6 f hf => by
            rw [List.mem_singleton.mp hf, zt_sub_ev, zt_s_ev, h6, zt_ev_eq h5 ha]
            omega) (fun f hf => by
            rw [List.mem_singleton.mp hf]
            exact zt_sub_lt (zt_lt_mono ha (Nat.le_succ _)) (zt_s_lt (Nat.lt_succ_self _)))
          exact ⟨r2, h1, Nat.le_succ _, h2⟩
        · cases hf
          exact zt_anyJ_in (x &&& y) hg hv hw
/-- a quotient, and the rest, of what isn't below 0 by a number above 0 -/
noncomputable def zt_quoJ (c : Int) (a : zt_E) (B : List zt_V) (S : zt_S) : zt_S := match decide (0 < c) with
  | false => zt_new 1 (-9223372036854775808) 9223372036854775807 (fun _ => []) B S
  | true => match a.2 with
    | [] => zt_stk ((1, zt_k (a.1 / c), 0) :: B) S
    | _ => zt_new 1 (-9223372036854775808) 9223372036854775807 (fun s => zt_sub a (zt_sc c s) :: zt_sub (zt_add (zt_sc c s) (zt_k (c - 1))) a :: zt_qb S.2.2.2.2 a c s) B S
theorem zt_quoJ_in {r : Nat → Int} {S : zt_S} {a : zt_E} {c : Int} {B : List zt_V} {L : zx_L} {st st2 : List Value} {h : zx_H} {q : Int64} (hg : zt_g r S L st h) (hv : zt_vs r B st2) (hw : ∀ q ∈ B, zt_lt S.1 q.2.1) (ha : zt_lt S.1 a) (h1 : c * q.toInt ≤ zt_ev r a) (h2 : zt_ev r a ≤ c * q.toInt + (c - 1)) : ∃ r2 : Nat → Int, (∀ i, i < S.1 → r2 i = r i) ∧ S.1 ≤ (zt_quoJ c a B S).1 ∧ zt_g r2 (zt_quoJ c a B S) L (.long q :: st2) h := by
  unfold zt_quoJ
  split
  · obtain ⟨r2, g1, g2⟩ := zt_new_in q.toInt (t := 1) (v := .long q) (fs := fun _ => []) hg hv hw (fun r2 h2 => ⟨q, rfl, by show _ = zt_ev r2 (zt_s S.1); rw [zt_s_ev, h2]⟩) (zt_i64 q).1 (zt_i64 q).2 (fun _ _ _ f hf => nomatch hf) (fun f hf => nomatch hf)
    exact ⟨r2, g1, Nat.le_succ _, g2⟩
  · next e0 =>
    have hc : 0 < c := of_decide_eq_true e0
    split
    · next e1 =>
      rw [zt_kev e1] at h1 h2
      refine ⟨r, fun _ _ => rfl, Nat.le_refl _, zt_stk_in hg ⟨⟨q, rfl, ?_⟩, hv⟩ (fun b hb => (List.mem_cons.mp hb).elim (fun z => by rw [z]; exact zt_k_lt) (hw b))⟩
      show _ = zt_ev r (zt_k (a.1 / c))
      rw [zt_k_ev, zt_qeq hc h1 h2]
    · obtain ⟨r2, g1, g2⟩ := zt_new_in q.toInt (t := 1) (v := .long q) (fs := fun s => zt_sub a (zt_sc c s) :: zt_sub (zt_add (zt_sc c s) (zt_k (c - 1))) a :: zt_qb S.2.2.2.2 a c s) hg hv hw (fun r2 h2 => ⟨q, rfl, by show _ = zt_ev r2 (zt_s S.1); rw [zt_s_ev, h2]⟩) (zt_i64 q).1 (zt_i64 q).2 (fun r2 h5 h6 f hf => by
        rcases List.mem_cons.mp hf with e | hf
        · rw [e, zt_sub_ev, zt_sc_ev, zt_s_ev, h6, zt_ev_eq h5 ha]
          omega
        · rcases List.mem_cons.mp hf with e | hf
          · rw [e, zt_sub_ev, zt_add_ev, zt_sc_ev, zt_k_ev, zt_s_ev, h6, zt_ev_eq h5 ha]
            omega
          · exact zt_qb_in hg.1 hc h1 h2 (by rw [zt_s_ev, h6]) f hf) (fun f hf => by
        rcases List.mem_cons.mp hf with e | hf
        · rw [e]
          exact zt_sub_lt (zt_lt_mono ha (Nat.le_succ _)) (zt_sc_lt (zt_s_lt (Nat.lt_succ_self _)))
        · rcases List.mem_cons.mp hf with e | hf
          · rw [e]
            exact zt_sub_lt (zt_add_lt (zt_sc_lt (zt_s_lt (Nat.lt_succ_self _))) zt_k_lt) (zt_lt_mono ha (Nat.le_succ _))
          · exact zt_qb_lt (zt_s_lt (Nat.lt_succ_self _)) f hf)
      exact ⟨r2, g1, Nat.le_succ _, g2⟩
theorem zt_div64 (x y : Int64) (hx : 0 ≤ x.toInt) (hy : 0 < y.toInt) : (x / y).toInt = x.toInt / y.toInt := by
  have h1 := zt_i64 x
  have h2 : 0 ≤ x.toInt / y.toInt := Int.ediv_nonneg hx (Int.le_of_lt hy)
  have h3 : x.toInt / y.toInt ≤ x.toInt := Int.ediv_le_self _ hx
  rw [Int64.toInt_div, Int.tdiv_eq_ediv_of_nonneg hx]
  exact zt_bm64 (by omega) (by omega)
noncomputable def zt_fdivJ (S : zt_S) (a b : zt_E) (B : List zt_V) : Option zt_S := match b.2 with
  | [] => match decide (b.1 = 0) with
    | true => none
    | false => match decide (0 < b.1) && zt_ge S.2.2.2.2 a with
      | true => some (zt_quoJ b.1 a B S)
      | false => some (zt_anyJ B S)
  | _ => match zt_ge S.2.2.2.2 (zt_sub b (zt_k 1)) with
    | true => match zt_ge S.2.2.2.2 a with
      | true => some (zt_new 1 0 9223372036854775807 (fun s => [zt_sub a s]) B S)
      | false => some (zt_anyJ B S)
    | false => match zt_ge S.2.2.2.2 (zt_sub (zt_sc (-1) b) (zt_k 1)) with
      | true => some (zt_anyJ B S)
      | false => none
theorem zt_ne064 {y : Int64} (h : y.toInt ≠ 0) : y ≠ 0 := fun e => h (by rw [e]; rfl)
theorem zt_fdivJ_in {r : Nat → Int} {S S2 : zt_S} {a b : zt_E} {B : List zt_V} {L : zx_L} {st st2 : List Value} {h : zx_H} {x y : Int64} (hg : zt_g r S L st h) (hv : zt_vs r B st2) (hw : ∀ q ∈ B, zt_lt S.1 q.2.1) (ha : zt_lt S.1 a) (hb : zt_lt S.1 b) (hx : x.toInt = zt_ev r a) (hy : y.toInt = zt_ev r b) (hf : zt_fdivJ S a b B = some S2) : y ≠ 0 ∧ ∃ r2 : Nat → Int, (∀ i, i < S.1 → r2 i = r i) ∧ S.1 ≤ S2.1 ∧ zt_g r2 S2 L (.long (x / y) :: st2) h := by
  unfold zt_fdivJ at hf
  split at hf
  · next e =>
    rw [zt_kev e] at hy
    split at hf
    · cases hf
    · next e1 =>
      refine ⟨zt_ne064 (by rw [hy]; exact of_decide_eq_false e1), ?_⟩
      split at hf
      · next e2 =>
        cases hf
        simp only [Bool.and_eq_true] at e2
        have h1 := of_decide_eq_true e2.1
        have h2 := zt_ge_in hg.1 e2.2
        have e3 := zt_div64 x y (by omega) (by omega)
        rw [hx, hy] at e3
        refine zt_quoJ_in hg hv hw ha ?_ ?_
        · rw [e3]
          exact Int.mul_ediv_self_le (by omega)
        · rw [e3]
          have := Int.lt_mul_ediv_self_add (x := zt_ev r a) (k := b.1) h1
          omega
      · cases hf
        exact zt_anyJ_in _ hg hv hw
  · split at hf
    · next e1 =>
      have h1 := zt_ge_in hg.1 e1
      rw [zt_sub_ev, zt_k_ev] at h1
      refine ⟨zt_ne064 (by omega), ?_⟩
      split at hf
      · next e2 =>
        cases hf
        have h2 := zt_ge_in hg.1 e2
        have e3 := zt_div64 x y (by omega) (by omega)
        have h4 : 0 ≤ x.toInt / y.toInt := Int.ediv_nonneg (by omega) (by omega)
        have h5 : x.toInt / y.toInt ≤ x.toInt := Int.ediv_le_self _ (by omega)
        obtain ⟨r2, h1, h2⟩ := zt_new_in (x / y).toInt (t := 1) (lo := 0) (hi := 9223372036854775807) (v := .long (x / y)) (fs := fun s => [zt_sub a s]) hg hv hw (fun r2 h2 => ⟨x / y, rfl, by show _ = zt_ev r2 (zt_s S.1); rw [zt_s_ev, h2]⟩) (by omega) (zt_i64 _).2 (fun r2 h5 h6 f hf => by
          rw [List.mem_singleton.mp hf, zt_sub_ev, zt_s_ev, h6, zt_ev_eq h5 ha]
          omega) (fun f hf => by
          rw [List.mem_singleton.mp hf]
          exact zt_sub_lt (zt_lt_mono ha (Nat.le_succ _)) (zt_s_lt (Nat.lt_succ_self _)))
        exact ⟨r2, h1, Nat.le_succ _, h2⟩
      · cases hf
        exact zt_anyJ_in _ hg hv hw
    · split at hf
      · next e1 =>
        cases hf
        have h1 := zt_ge_in hg.1 e1
        rw [zt_sub_ev, zt_sc_ev, zt_k_ev] at h1
        exact ⟨zt_ne064 (by omega), zt_anyJ_in _ hg hv hw⟩
      · cases hf
theorem zt_rem64 (x y : Int64) (hy : 0 < y.toInt) : (x - x / y * y).toInt = x.toInt.tmod y.toInt := by
  have h1 : y ≠ -1 := fun e => by
    rw [e] at hy
    exact absurd hy (by decide)
  have h2 : (x / y).toInt = x.toInt.tdiv y.toInt := Int64.toInt_div_of_ne_right _ _ h1
  have h3 := zt_i64 y
  have h4 : -y.toInt < x.toInt.tmod y.toInt := by
    have := Int.lt_tmod_of_pos x.toInt hy
    omega
  have h5 : x.toInt.tmod y.toInt < y.toInt := Int.tmod_lt_of_pos x.toInt hy
  rw [Int64.toInt_sub, Int64.toInt_mul, h2, Int.sub_bmod_bmod, Int.mul_comm (x.toInt.tdiv y.toInt), ← Int.tmod_def]
  exact zt_bm64 (by omega) (by omega)
noncomputable def zt_fremJ (S : zt_S) (a b : zt_E) (B : List zt_V) : Option zt_S := match zt_ge S.2.2.2.2 (zt_sub b (zt_k 1)) with
  | false => none
  | true => match zt_ge S.2.2.2.2 a with
    | true => match zt_ge S.2.2.2.2 (zt_sub (zt_sub b a) (zt_k 1)) with
      | true => some (zt_stk ((1, a, 0) :: B) S)
      | false => some (zt_new 1 0 9223372036854775807 (fun s => [zt_sub a s, zt_sub (zt_sub b (zt_k 1)) s]) B S)
    | false => some (zt_new 1 (-9223372036854775808) 9223372036854775807 (fun s => [zt_sub (zt_sub b (zt_k 1)) s, zt_add (zt_sub b (zt_k 1)) s]) B S)
theorem zt_fremJ_in {r : Nat → Int} {S S2 : zt_S} {a b : zt_E} {B : List zt_V} {L : zx_L} {st st2 : List Value} {h : zx_H} {x y : Int64} (hg : zt_g r S L st h) (hv : zt_vs r B st2) (hw : ∀ q ∈ B, zt_lt S.1 q.2.1) (ha : zt_lt S.1 a) (hb : zt_lt S.1 b) (hx : x.toInt = zt_ev r a) (hy : y.toInt = zt_ev r b) (hf : zt_fremJ S a b B = some S2) : y ≠ 0 ∧ ∃ r2 : Nat → Int, (∀ i, i < S.1 → r2 i = r i) ∧ S.1 ≤ S2.1 ∧ zt_g r2 S2 L (.long (x - x / y * y) :: st2) h := by
  unfold zt_fremJ at hf
  split at hf
  · cases hf
  · next e1 =>
    have h1 := zt_ge_in hg.1 e1
    rw [zt_sub_ev, zt_k_ev] at h1
    have h0 : 0 < y.toInt := by omega
    have e3 := zt_rem64 x y h0
    have h4 := Int.lt_tmod_of_pos x.toInt h0
    have h5 := Int.tmod_lt_of_pos x.toInt h0
    refine ⟨zt_ne064 (by omega), ?_⟩
    split at hf
    · next e2 =>
      split at hf
      · next e5 =>
        cases hf
        have h2 := zt_ge_in hg.1 e2
        have h7 := zt_ge_in hg.1 e5
        rw [zt_sub_ev, zt_sub_ev, zt_k_ev] at h7
        have h8 : x.toInt.tmod y.toInt = x.toInt := by
          rw [Int.tmod_eq_emod_of_nonneg (by omega), Int.emod_eq_of_lt (by omega) (by omega)]
        refine ⟨r, fun _ _ => rfl, Nat.le_refl _, zt_stk_in hg ⟨⟨x - x / y * y, rfl, ?_⟩, hv⟩ (fun q hq => (List.mem_cons.mp hq).elim (fun z => by rw [z]; exact ha) (hw q))⟩
        show (x - x / y * y).toInt = zt_ev r a
        rw [e3, h8, hx]
      cases hf
      have h2 := zt_ge_in hg.1 e2
      have h6 : 0 ≤ x.toInt.tmod y.toInt := Int.tmod_nonneg _ (by omega)
      have h7 : x.toInt.tmod y.toInt ≤ x.toInt := by
        rw [Int.tmod_eq_emod_of_nonneg (by omega)]
        rw [Int.emod_def]
        have := Int.mul_nonneg (Int.le_of_lt h0) (Int.ediv_nonneg (a := x.toInt) (b := y.toInt) (by omega) (by omega))
        omega
      obtain ⟨r2, g1, g2⟩ := zt_new_in (x - x / y * y).toInt (t := 1) (lo := 0) (hi := 9223372036854775807) (v := .long (x - x / y * y)) (fs := fun s => [zt_sub a s, zt_sub (zt_sub b (zt_k 1)) s]) hg hv hw (fun r2 h2 => ⟨x - x / y * y, rfl, by show _ = zt_ev r2 (zt_s S.1); rw [zt_s_ev, h2]⟩) (by omega) (zt_i64 _).2 (fun r2 h8 h9 f hf => by
        rcases List.mem_cons.mp hf with e | hf
        · rw [e, zt_sub_ev, zt_s_ev, h9, zt_ev_eq h8 ha]
          omega
        · rw [List.mem_singleton.mp hf, zt_sub_ev, zt_sub_ev, zt_k_ev, zt_s_ev, h9, zt_ev_eq h8 hb]
          omega) (fun f hf => by
        rcases List.mem_cons.mp hf with e | hf
        · rw [e]
          exact zt_sub_lt (zt_lt_mono ha (Nat.le_succ _)) (zt_s_lt (Nat.lt_succ_self _))
        · rw [List.mem_singleton.mp hf]
          exact zt_sub_lt (zt_sub_lt (zt_lt_mono hb (Nat.le_succ _)) zt_k_lt) (zt_s_lt (Nat.lt_succ_self _)))
      exact ⟨r2, g1, Nat.le_succ _, g2⟩
    · cases hf
      obtain ⟨r2, g1, g2⟩ := zt_new_in (x - x / y * y).toInt (t := 1) (v := .long (x - x / y * y)) (fs := fun s => [zt_sub (zt_sub b (zt_k 1)) s, zt_add (zt_sub b (zt_k 1)) s]) hg hv hw (fun r2 h2 => ⟨x - x / y * y, rfl, by show _ = zt_ev r2 (zt_s S.1); rw [zt_s_ev, h2]⟩) (zt_i64 _).1 (zt_i64 _).2 (fun r2 h8 h9 f hf => by
        rcases List.mem_cons.mp hf with e | hf
        · rw [e, zt_sub_ev, zt_sub_ev, zt_k_ev, zt_s_ev, h9, zt_ev_eq h8 hb]
          omega
        · rw [List.mem_singleton.mp hf, zt_add_ev, zt_sub_ev, zt_k_ev, zt_s_ev, h9, zt_ev_eq h8 hb]
          omega) (fun f hf => by
        rcases List.mem_cons.mp hf with e | hf
        · rw [e]
          exact zt_sub_lt (zt_sub_lt (zt_lt_mono hb (Nat.le_succ _)) zt_k_lt) (zt_s_lt (Nat.lt_succ_self _))
        · rw [List.mem_singleton.mp hf]
          exact zt_add_lt (zt_sub_lt (zt_lt_mono hb (Nat.le_succ _)) zt_k_lt) (zt_s_lt (Nat.lt_succ_self _)))
      exact ⟨r2, g1, Nat.le_succ _, g2⟩
noncomputable def zt_aand (npc : Nat) : zt_S → zt_R := zt_a2 zt_fand npc
theorem zt_aand_in {npc : Nat} : zt_pur (zx_iand [] npc) (zt_aand npc) := zt_a2_in (fun S S2 ea eb B r L st st2 h x y hg hv hw ha hb hx hy hf => zt_fand_in hg hv hw ha hb hx hy hf)
noncomputable def zt_aland (npc : Nat) : zt_S → zt_R := zt_a2J zt_fandJ npc
theorem zt_aland_in {npc : Nat} : zt_pur (zx_land npc) (zt_aland npc) := zt_a2J_in (fun S S2 ea eb B r L st st2 h x y hg hv hw ha hb hx hy hf => zt_fandJ_in hg hv hw ha hb hx hy hf)
theorem zt_aD_ok {npc : Nat} : zt_pur (zx_idiv [] npc) (zt_aD zt_fdiv npc) := zt_aD_in (fun S S2 ea eb B r L st st2 h x y hg hv hw ha hb hx hy hf => zt_fdiv_in hg hv hw ha hb hx hy hf)
theorem zt_aM_ok {npc : Nat} : zt_pur (zx_irem [] npc) (zt_aM zt_frem npc) := zt_aM_in (fun S S2 ea eb B r L st st2 h x y hg hv hw ha hb hx hy hf => zt_frem_in hg hv hw ha hb hx hy hf)
theorem zt_aDJ_ok {npc : Nat} : zt_pur (zx_ldiv npc) (zt_aDJ zt_fdivJ npc) := zt_aDJ_in (fun S S2 ea eb B r L st st2 h x y hg hv hw ha hb hx hy hf => zt_fdivJ_in hg hv hw ha hb hx hy hf)
theorem zt_aMJ_ok {npc : Nat} : zt_pur (zx_lrem npc) (zt_aMJ zt_fremJ npc) := zt_aMJ_in (fun S S2 ea eb B r L st st2 h x y hg hv hw ha hb hx hy hf => zt_fremJ_in hg hv hw ha hb hx hy hf)
