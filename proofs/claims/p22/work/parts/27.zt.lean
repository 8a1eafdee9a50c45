/-! ===== older rows, lengths, static fields, tables of places, the greater and the less, or ===== -/
def zt_ot (O : List zx_W) (OT : List zt_Y) : Prop := ∀ (i : Nat) (z : zx_W) (y : zt_Y), zx_nth O i = some z → zx_nth OT i = some y → ∀ j, j < z.2.1 → zt_yt y (zx_rd z.2.2.1 z.2.2.2 j)
noncomputable def zt_aold (O : List zx_W) (OT : List zt_Y) (K0 ty npc : Nat) (S : zt_S) : zt_R := match S.2.2.1 with
  | b :: a :: B => match Nat.beq b.1 0 && (Nat.beq a.1 2 && Nat.blt a.2.2 K0) with
    | false => none
    | true => match zx_nth O a.2.2 with
      | none => none
      | some z => match Nat.beq z.1 ty && (zt_ge S.2.2.2.2 b.2.1 && zt_ge S.2.2.2.2 (zt_sub (zt_k ((z.2.1 : Int) - 1)) b.2.1)) with
        | false => none
        | true => match b.2.1.2 with
          | [] => match zx_rd z.2.2.1 z.2.2.2 b.2.1.1.toNat with
            | .int x => some [(npc, zt_stk ((0, zt_k x.toInt, 0) :: B) S)]
            | _ => none
          | _ => match zx_nth OT a.2.2 with
            | none => none
            | some y => match Nat.beq y.1 0 with
              | true => some [(npc, zt_new 0 y.2.1 y.2.2.1 (fun _ => []) B S)]
              | false => none
  | _ => none
theorem zt_aold_in {T : zx_Tr zt_C} {O : List zx_W} {OT : List zt_Y} {K0 ty npc : Nat} {md : List (Nat × Nat)} (HO : zt_ot O OT) : zt_hpr T K0 md (zx_aldO [] O K0 ty npc) (zt_aold O OT K0 ty npc) := by
  intro S l r L st h hk hg hA
  unfold zt_aold at hA
  split at hA
  · next b a B e1 =>
    split at hA
    · cases hA
    · next e2 =>
      split at hA
      · cases hA
      · next z e3 =>
        split at hA
        · cases hA
        · next e4 =>
          simp only [Bool.and_eq_true] at e2 e4
          obtain ⟨e4, e5, e6⟩ := e4
          have hv := hg.2.2.1
          have hw := hg.2.2.2.2.2.1
          rw [e1] at hv hw
          obtain ⟨v, vs, rfl, h1, h2⟩ := zt_vs_cons hv
          obtain ⟨u, us, rfl, h3, h4⟩ := zt_vs_cons h2
          obtain ⟨tb, e, jb⟩ := b
          obtain ⟨t, ea, i⟩ := a
          obtain rfl : tb = 0 := Nat.eq_of_beq_eq_true e2.1
          obtain rfl : t = 2 := Nat.eq_of_beq_eq_true e2.2.1
          obtain ⟨x, rfl, hx⟩ := h1
          obtain rfl : u = .ref i := h3
          have g1 := zt_ge_in hg.1 e5
          have g2 := zt_ge_in hg.1 e6
          rw [zt_sub_ev, zt_k_ev] at g2
          have hx2 : x.toInt = zt_ev r e := hx
          have g2b : 0 ≤ ((z.2.1 : Int) - 1) - zt_ev r e := g2
          have g1b : 0 ≤ zt_ev r e := g1
          have hlt : x.toNatClampNeg < z.2.1 := by
            rw [zt_clamp]
            omega
          have h0 : 0 ≤ x := by
            rw [Int32.le_iff_toInt_le]
            show (0 : Int) ≤ x.toInt
            omega
          have hw2 : ∀ q ∈ B, zt_lt S.1 q.2.1 := fun q hq => hw q (List.mem_cons_of_mem _ (List.mem_cons_of_mem _ hq))
          have hgo : zt_go (zx_aldO [] O K0 ty npc) L (.int x :: .ref i :: us) h npc L (zx_rd z.2.2.1 z.2.2.2 x.toNatClampNeg :: us) h := fun rec kk sl => by
            show (match Nat.blt i K0 with | true => (match decide (0 ≤ x) with | true => (match zx_nth O i with | none => none | some z => match Nat.beq z.1 ty && Nat.blt x.toNatClampNeg z.2.1 with | true => kk npc L (zx_cz [] (zx_rd z.2.2.1 z.2.2.2 x.toNatClampNeg) :: us) h sl | false => none) | false => none) | false => zx_aldN [] ty npc rec L (.int x :: .ref i :: us) h sl kk) = _
            have e7 : Nat.blt i K0 = true := e2.2.2
            have e8 : zx_nth O i = some z := e3
            rw [e7, decide_eq_true h0, e8]
            show (match Nat.beq z.1 ty && Nat.blt x.toNatClampNeg z.2.1 with | true => kk npc L (zx_cz [] (zx_rd z.2.2.1 z.2.2.2 x.toNatClampNeg) :: us) h sl | false => none) = _
            rw [e4, show Nat.blt x.toNatClampNeg z.2.1 = true from Nat.ble_eq_true_of_le hlt, zt_cz]
            rfl
          split at hA
          · next e7 =>
            split at hA
            · next y e8 =>
              cases hA
              have e9 : x.toNatClampNeg = e.1.toNat := by
                have e7b : e.2 = [] := e7
                rw [zt_clamp, hx2, zt_kev e7b]
              have e8b : zx_rd z.2.2.1 z.2.2.2 e.1.toNat = .int y := e8
              rw [e9, e8b] at hgo
              exact ⟨_, List.mem_cons_self, r, L, _, h, hgo, fun _ _ => rfl, Nat.le_refl _, zt_stk_in hg ⟨⟨y, rfl, (zt_k_ev r _).symm⟩, h4⟩ (fun q hq => (List.mem_cons.mp hq).elim (fun z => by rw [z]; exact zt_k_lt) (hw2 q)), hk, zt_fr_refl⟩
            · cases hA
          · split at hA
            · cases hA
            · next y e8 =>
              split at hA
              · next e9 =>
                cases hA
                have hy := HO i z y e3 e8 _ hlt
                obtain ⟨yt, lo, hi, ls⟩ := y
                obtain rfl : yt = 0 := Nat.eq_of_beq_eq_true e9
                obtain ⟨x2, f1, f2, f3⟩ := hy
                rw [f1] at hgo
                obtain ⟨r2, k1, k2⟩ := zt_new_in x2.toInt (t := 0) (lo := lo) (hi := hi) (v := .int x2) (fs := fun _ => []) hg h4 hw2 (fun r2 h2 => ⟨x2, rfl, by show _ = zt_ev r2 (zt_s S.1); rw [zt_s_ev, h2]⟩) f2 f3 (fun _ _ _ f hf => nomatch hf) (fun f hf => nomatch hf)
                exact ⟨_, List.mem_cons_self, r2, L, _, h, hgo, k1, Nat.le_succ _, k2, hk, zt_fr_refl⟩
              · cases hA
  · cases hA
theorem zt_ei_in {T : zx_Tr zt_C} {K0 : Nat} {md : List (Nat × Nat)} {g : zx_F} {A B : zt_S → zt_R} (ha : zt_hpr T K0 md g A) (hb : zt_hpr T K0 md g B) : zt_hpr T K0 md g (zt_ei A B) := by
  intro S l r L st h hk hg hA
  unfold zt_ei at hA
  split at hA
  · next l2 e =>
    cases hA
    exact ha S _ r L st h hk hg e
  · exact hb S l r L st h hk hg hA
/-- a row's length -/
noncomputable def zt_aalen (T : zx_Tr zt_C) (O : List zx_W) (K0 npc : Nat) (S : zt_S) : zt_R := match S.2.2.1 with
  | a :: B => match Nat.beq a.1 2 with
    | false => none
    | true => match Nat.blt a.2.2 K0 with
      | true => match zx_nth O a.2.2 with
        | none => none
        | some z => match Nat.blt z.2.1 2147483648 with
          | true => some [(npc, zt_stk ((0, zt_k (z.2.1 : Int), 0) :: B) S)]
          | false => none
      | false => match zx_g10 T a.2.2 with
        | some (.inr x) => match Nat.blt x.2.1 2147483648 with
          | true => some [(npc, zt_stk ((0, zt_k (x.2.1 : Int), 0) :: B) S)]
          | false => none
        | _ => none
  | _ => none
theorem zt_nI {n : Nat} (h : n < 2147483648) : (nI n).toInt = (n : Int) := Int32.toInt_ofNat_of_lt h
theorem zt_aalen_in {T : zx_Tr zt_C} {O : List zx_W} {K0 npc : Nat} {md : List (Nat × Nat)} : zt_hpr T K0 md (zx_alenO O K0 npc) (zt_aalen T O K0 npc) := by
  intro S l r L st h hk hg hA
  unfold zt_aalen at hA
  split at hA
  · next a B e1 =>
    split at hA
    · cases hA
    · next e2 =>
      have hv := hg.2.2.1
      have hw := hg.2.2.2.2.2.1
      rw [e1] at hv hw
      obtain ⟨u, us, rfl, h3, h4⟩ := zt_vs_cons hv
      obtain ⟨t, ea, i⟩ := a
      obtain rfl : t = 2 := Nat.eq_of_beq_eq_true e2
      obtain rfl : u = .ref i := h3
      have push : ∀ n : Nat, n < 2147483648 → zt_g r (zt_stk ((0, zt_k (n : Int), 0) :: B) S) L (.int (nI n) :: us) h := fun n hn => zt_stk_in hg ⟨⟨nI n, rfl, by rw [zt_nI hn]; exact (zt_k_ev r _).symm⟩, h4⟩ (fun q hq => (List.mem_cons.mp hq).elim (fun z => by rw [z]; exact zt_k_lt) (fun z => hw q (List.mem_cons_of_mem _ z)))
      split at hA
      · next e3 =>
        have e3b : Nat.blt i K0 = true := e3
        split at hA
        · cases hA
        · next z e4 =>
          have e4b : zx_nth O i = some z := e4
          split at hA
          · next e5 =>
            cases hA
            refine ⟨_, List.mem_cons_self, r, L, _, h, fun rec kk sl => ?_, fun _ _ => rfl, Nat.le_refl _, push z.2.1 (Nat.le_of_ble_eq_true e5), hk, zt_fr_refl⟩
            show (match Nat.blt i K0 with | true => (match zx_nth O i with | none => none | some z => kk npc L (.int (nI z.2.1) :: us) h sl) | false => zx_alen npc rec L (.ref i :: us) h sl kk) = _
            rw [e3b, e4b]
          · cases hA
      · next e3 =>
        have e3b : Nat.blt i K0 = false := e3
        split at hA
        · next x e4 =>
          split at hA
          · next e5 =>
            cases hA
            obtain ⟨-, d, w, c1, -⟩ := hk i _ e4
            refine ⟨_, List.mem_cons_self, r, L, _, h, fun rec kk sl => ?_, fun _ _ => rfl, Nat.le_refl _, push x.2.1 (Nat.le_of_ble_eq_true e5), hk, zt_fr_refl⟩
            show (match Nat.blt i K0 with | true => zx_alenB O npc rec L (.ref i :: us) h sl kk | false => (match zx_gl h i with | some n => kk npc L (.int (nI n) :: us) h sl | none => none)) = _
            have e6 : zx_gl h i = some x.2.1 := by
              unfold zx_gl
              rw [c1]
            rw [e3b, e6]
          · cases hA
        · cases hA
  · cases hA
/-- static fields -/
noncomputable def zt_vof (v : Value) : Option zt_V := match v with
  | .int x => some (0, zt_k x.toInt, 0)
  | .long x => some (1, zt_k x.toInt, 0)
  | .ref i => some (2, zt_k 0, i)
  | .null => some (3, zt_k 0, 0)
  | .retAddr n => (match n with
    | 0 => some (5, zt_k 0, 0)
    | _ => none)
  | _ => none
noncomputable def zt_agets (v : Value) (npc : Nat) (S : zt_S) : zt_R := match zt_vof v with
  | some a => zt_aci a npc S
  | none => none
theorem zt_agets_in {v : Value} {npc : Nat} : zt_pur (zx_gets v npc) (zt_agets v npc) := by
  intro S l r L st h hg hA
  unfold zt_agets at hA
  split at hA
  · next a e =>
    have key : (∀ r, zt_val r a v) ∧ ∀ n, zt_lt n a.2.1 := by
      cases v <;> first | (cases e; exact ⟨fun r => ⟨_, rfl, (zt_k_ev r _).symm⟩, fun _ => zt_k_lt⟩) | (cases e; exact ⟨fun r => rfl, fun _ => zt_k_lt⟩) | cases e | (rename_i n; cases n <;> first | (cases e; exact ⟨fun r => rfl, fun _ => zt_k_lt⟩) | cases e)
    exact zt_aci_in (v := v) key.1 key.2 S l r L st h hg hA
  · cases hA
/-- tables of places -/
noncomputable def zt_tws (e : zt_E) (S : zt_S) : Int → List Nat → List (Nat × zt_S)
  | _, [] => []
  | c, t :: ts => zt_q2 t (zt_sub e (zt_k c)) (zt_sub (zt_k c) e) S ++ zt_tws e S (c + 1) ts
theorem zt_tws_in {r : Nat → Int} {S : zt_S} {e : zt_E} {L : zx_L} {st : List Value} {h : zx_H} (hg : zt_g r S L st h) (hl : zt_lt S.1 e) : ∀ {ts : List Nat} {c : Int} {n t : Nat}, zx_nth ts n = some t → zt_ev r e = c + n → ∃ q ∈ zt_tws e S c ts, q.1 = t ∧ S.1 ≤ q.2.1 ∧ zt_g r q.2 L st h
  | [], c, n, t, hn, _ => nomatch hn
  | x :: ts, c, 0, t, hn, he => by
    have hxt : x = t := Option.some.inj hn
    subst hxt
    obtain ⟨q, g1, g2⟩ := zt_q2_in (t := x) (e := zt_sub e (zt_k c)) (f := zt_sub (zt_k c) e) hg (by rw [zt_sub_ev, zt_k_ev]; omega) (by rw [zt_sub_ev, zt_k_ev]; omega) (zt_sub_lt hl zt_k_lt) (zt_sub_lt zt_k_lt hl)
    exact ⟨q, List.mem_append_left _ g1, g2⟩
  | x :: ts, c, n + 1, t, hn, he => by
    obtain ⟨q, g1, g2⟩ := zt_tws_in (ts := ts) (c := c + 1) (n := n) (t := t) hg hl hn (by rw [he]; omega)
    exact ⟨q, List.mem_append_right _ g1, g2⟩
noncomputable def zt_atsw (lo hi : Int) (ts : List Nat) (df : Nat) (S : zt_S) : zt_R := match S.2.2.1 with
  | a :: B => match Nat.beq a.1 0 && decide (hi - lo < (ts.length : Int)) with
    | false => none
    | true => some (zt_q df (zt_sub (zt_k (lo - 1)) a.2.1) (zt_stk B S) ++ (zt_q df (zt_sub a.2.1 (zt_k (hi + 1))) (zt_stk B S) ++ zt_tws a.2.1 (zt_stk B S) lo ts))
  | _ => none
theorem zt_atsw_in {lI hI : Int32} {lo hi : Int} {ts : List Nat} {df : Nat} : zt_pur (zx_tsw [] lI hI lo hi ts df) (zt_atsw lo hi ts df) := by
  intro S l r L st h hg hA
  unfold zt_atsw at hA
  split at hA
  · next a B e1 =>
    split at hA
    · cases hA
    · next e2 =>
      cases hA
      simp only [Bool.and_eq_true] at e2
      have hv := hg.2.2.1
      have hw := hg.2.2.2.2.2.1
      rw [e1] at hv hw
      obtain ⟨u, us, rfl, h3, h4⟩ := zt_vs_cons hv
      obtain ⟨t, e, i⟩ := a
      obtain rfl : t = 0 := Nat.eq_of_beq_eq_true e2.1
      obtain ⟨x, rfl, hx⟩ := h3
      have hx2 : x.toInt = zt_ev r e := hx
      have hlen := of_decide_eq_true e2.2
      have hl : zt_lt S.1 e := hw (0, e, i) List.mem_cons_self
      have hg2 := zt_stk_in (B := B) hg h4 (fun q hq => hw q (List.mem_cons_of_mem _ hq))
      by_cases c1 : x.toInt < lo
      · obtain ⟨q, g1, g2, g3, g4⟩ := zt_q_in (t := df) (e := zt_sub (zt_k (lo - 1)) e) hg2 (by rw [zt_sub_ev, zt_k_ev]; omega) (zt_sub_lt zt_k_lt hl)
        refine ⟨q, List.mem_append_left _ g1, r, L, us, fun rec k sl => ?_, fun _ _ => rfl, g3, g4⟩
        show (if x.toInt < lo ∨ hi < x.toInt then k df L us h sl else _) = _
        rw [if_pos (Or.inl c1), g2]
      · by_cases c2 : hi < x.toInt
        · obtain ⟨q, g1, g2, g3, g4⟩ := zt_q_in (t := df) (e := zt_sub e (zt_k (hi + 1))) hg2 (by rw [zt_sub_ev, zt_k_ev]; omega) (zt_sub_lt hl zt_k_lt)
          refine ⟨q, List.mem_append_right _ (List.mem_append_left _ g1), r, L, us, fun rec k sl => ?_, fun _ _ => rfl, g3, g4⟩
          show (if x.toInt < lo ∨ hi < x.toInt then k df L us h sl else _) = _
          rw [if_pos (Or.inr c2), g2]
        · have c3 : (x.toInt - lo).toNat < ts.length := by omega
          have c4 : zx_nth ts (x.toInt - lo).toNat = some ts[(x.toInt - lo).toNat] := by
            rw [zx_nth_eq]
            exact List.getElem?_eq_getElem c3
          obtain ⟨q, g1, g2, g3, g4⟩ := zt_tws_in (S := zt_stk B S) hg2 hl c4 (c := lo) (by omega)
          refine ⟨q, List.mem_append_right _ (List.mem_append_right _ g1), r, L, us, fun rec k sl => ?_, fun _ _ => rfl, g3, g4⟩
          show (if x.toInt < lo ∨ hi < x.toInt then k df L us h sl else match zx_nth ts (x.toInt - lo).toNat with | some t => k t L us h sl | none => none) = _
          rw [if_neg (fun z => z.elim c1 c2), c4, g2]
  · cases hA
noncomputable def zt_lws (pc : Nat) (e : zt_E) (df : Int) (S : zt_S) : List (Int × Int) → Option (List (Nat × zt_S))
  | [] => match decide (0 ≤ (pc : Int) + df) with
    | true => some [(((pc : Int) + df).toNat, S)]
    | false => none
  | p :: ps => match decide (0 ≤ (pc : Int) + p.2) with
    | false => none
    | true => match zt_lws pc e df S ps with
      | none => none
      | some l => some (zt_q2 ((pc : Int) + p.2).toNat (zt_sub e (zt_k p.1)) (zt_sub (zt_k p.1) e) S ++ l)
noncomputable def zt_alsw (ps : List (Int × Int)) (df : Int) (pc : Nat) (S : zt_S) : zt_R := match S.2.2.1 with
  | a :: B => match Nat.beq a.1 0 with
    | false => none
    | true => zt_lws pc a.2.1 df (zt_stk B S) ps
  | _ => none
theorem zt_lws_in {r : Nat → Int} {S : zt_S} {e : zt_E} {L : zx_L} {st : List Value} {h : zx_H} {pc : Nat} {df : Int} (hg : zt_g r S L st h) (hl : zt_lt S.1 e) : ∀ {ps : List (Int × Int)} {l : List (Nat × zt_S)}, zt_lws pc e df S ps = some l → 0 ≤ (pc : Int) + Op.lookupswitch.offset ps df (zt_ev r e) ∧ ∃ q ∈ l, q.1 = ((pc : Int) + Op.lookupswitch.offset ps df (zt_ev r e)).toNat ∧ S.1 ≤ q.2.1 ∧ zt_g r q.2 L st h
  | [], l, hA => by
    unfold zt_lws at hA
    split at hA
    · next e1 =>
      cases hA
      exact ⟨of_decide_eq_true e1, _, List.mem_cons_self, rfl, Nat.le_refl _, hg⟩
    · cases hA
  | (k, d) :: ps, l, hA => by
    unfold zt_lws at hA
    split at hA
    · cases hA
    · next e1 =>
      split at hA
      · cases hA
      · next l2 e2 =>
        cases hA
        have ec : Op.lookupswitch.offset ((k, d) :: ps) df (zt_ev r e) = if k = zt_ev r e then d else Op.lookupswitch.offset ps df (zt_ev r e) := rfl
        rw [ec]
        by_cases c : k = zt_ev r e
        · rw [if_pos c]
          obtain ⟨q, g1, g2⟩ := zt_q2_in (t := ((pc : Int) + d).toNat) (e := zt_sub e (zt_k k)) (f := zt_sub (zt_k k) e) hg (by rw [zt_sub_ev, zt_k_ev]; omega) (by rw [zt_sub_ev, zt_k_ev]; omega) (zt_sub_lt hl zt_k_lt) (zt_sub_lt zt_k_lt hl)
          exact ⟨of_decide_eq_true e1, q, List.mem_append_left _ g1, g2⟩
        · rw [if_neg c]
          obtain ⟨f1, q, g1, g2⟩ := zt_lws_in (ps := ps) hg hl e2
          exact ⟨f1, q, List.mem_append_right _ g1, g2⟩
theorem zt_alsw_in {ps : List (Int × Int)} {df : Int} {pc : Nat} : zt_pur (zx_lsw ps df pc) (zt_alsw ps df pc) := by
  intro S l r L st h hg hA
  unfold zt_alsw at hA
  split at hA
  · next a B e1 =>
    split at hA
    · cases hA
    · next e2 =>
      have hv := hg.2.2.1
      have hw := hg.2.2.2.2.2.1
      rw [e1] at hv hw
      obtain ⟨u, us, rfl, h3, h4⟩ := zt_vs_cons hv
      obtain ⟨t, e, i⟩ := a
      obtain rfl : t = 0 := Nat.eq_of_beq_eq_true e2
      obtain ⟨x, rfl, hx⟩ := h3
      have hx2 : x.toInt = zt_ev r e := hx
      have hg2 := zt_stk_in (B := B) hg h4 (fun q hq => hw q (List.mem_cons_of_mem _ hq))
      obtain ⟨f1, q, g1, g2, g3, g4⟩ := zt_lws_in hg2 (hw (0, e, i) List.mem_cons_self) hA
      refine ⟨q, g1, r, L, us, fun rec k sl => ?_, fun _ _ => rfl, g3, g4⟩
      show (if 0 ≤ (pc : Int) + Op.lookupswitch.offset ps df x.toInt then zx_fn ((pc : Int) + Op.lookupswitch.offset ps df x.toInt).toNat (fun t => k t L us h sl) else none) = _
      rw [hx2, if_pos f1, zx_fn_eq, g2]
  · cases hA
/-- how many words a stack has -/
noncomputable def zt_cats : List zt_V → Nat
  | [] => 0
  | a :: l => (match Nat.beq a.1 1 with | true => 2 | false => 1) + zt_cats l
theorem zt_cats_in {r : Nat → Int} : ∀ {B : List zt_V} {st : List Value}, zt_vs r B st → zx_cats st = zt_cats B
  | [], st, h => by
    cases st with
    | nil => rfl
    | cons _ _ => exact absurd h (fun z => z)
  | a :: B, st, h => by
    obtain ⟨v, vs, rfl, h1, h2⟩ := zt_vs_cons h
    have ih := zt_cats_in h2
    show v.category + zx_cats vs = (match Nat.beq a.1 1 with | true => 2 | false => 1) + zt_cats B
    rw [ih]
    cases e : Nat.beq a.1 1 with
    | true =>
      obtain ⟨t, e2, i⟩ := a
      obtain rfl : t = 1 := Nat.eq_of_beq_eq_true e
      obtain ⟨x, rfl, -⟩ := h1
      rfl
    | false => rw [zt_cat1 h1 e]

/-- the greater, the less: either -/
noncomputable def zt_dd (mx : Bool) (a b : zt_E) : zt_E := match mx with
  | true => zt_sub b a
  | false => zt_sub a b
noncomputable def zt_di2 (mx : Bool) (x y : Int) : Int := match mx with
  | true => y - x
  | false => x - y
theorem zt_dd_ev {mx : Bool} {r : Nat → Int} {a b : zt_E} : zt_ev r (zt_dd mx a b) = zt_di2 mx (zt_ev r a) (zt_ev r b) := by
  cases mx
  · exact zt_sub_ev r a b
  · exact zt_sub_ev r b a
theorem zt_dd_lt {mx : Bool} {n : Nat} {a b : zt_E} (ha : zt_lt n a) (hb : zt_lt n b) : zt_lt n (zt_dd mx a b) := by
  cases mx
  · exact zt_sub_lt ha hb
  · exact zt_sub_lt hb ha
noncomputable def zt_amm (mx : Bool) (npc : Nat) (S : zt_S) : zt_R := match S.2.2.1 with
  | b :: a :: B => match (Nat.beq b.1 0 && Nat.beq a.1 0) && Nat.ble (zt_cats B) 7 with
    | false => none
    | true => some (zt_q npc (zt_sub (zt_dd mx a.2.1 b.2.1) (zt_k 1)) (zt_stk ((0, b.2.1, 0) :: B) S) ++ zt_q npc (zt_sc (-1) (zt_dd mx a.2.1 b.2.1)) (zt_stk ((0, a.2.1, 0) :: B) S))
  | _ => none
theorem zt_amm_in {mx : Bool} {npc : Nat} {f : Int32 → Int32 → Int32} (hf : ∀ x y : Int32, (0 < zt_di2 mx x.toInt y.toInt → f x y = y) ∧ (¬ 0 < zt_di2 mx x.toInt y.toInt → f x y = x)) : zt_pur (zx_mm f npc) (zt_amm mx npc) := by
  intro S l r L st h hg hA
  unfold zt_amm at hA
  split at hA
  · next b a B e1 =>
    split at hA
    · cases hA
    · next e2 =>
      cases hA
      simp only [Bool.and_eq_true] at e2
      have hv := hg.2.2.1
      have hw := hg.2.2.2.2.2.1
      rw [e1] at hv hw
      obtain ⟨v, vs, rfl, h1, h2⟩ := zt_vs_cons hv
      obtain ⟨u, us, rfl, h3, h4⟩ := zt_vs_cons h2
      obtain ⟨tb, eb, jb⟩ := b
      obtain ⟨ta, ea, ja⟩ := a
      obtain rfl : tb = 0 := Nat.eq_of_beq_eq_true e2.1.1
      obtain rfl : ta = 0 := Nat.eq_of_beq_eq_true e2.1.2
      obtain ⟨y, rfl, hy⟩ := h1
      obtain ⟨x, rfl, hx⟩ := h3
      have hx2 : x.toInt = zt_ev r ea := hx
      have hy2 : y.toInt = zt_ev r eb := hy
      have hla : zt_lt S.1 ea := hw (0, ea, ja) (List.mem_cons_of_mem _ List.mem_cons_self)
      have hlb : zt_lt S.1 eb := hw (0, eb, jb) List.mem_cons_self
      have hw2 : ∀ q ∈ B, zt_lt S.1 q.2.1 := fun q hq => hw q (List.mem_cons_of_mem _ (List.mem_cons_of_mem _ hq))
      have hc : Nat.ble (zx_cats us) 7 = true := by rw [zt_cats_in h4]; exact e2.2
      have hd : zt_ev r (zt_dd mx ea eb) = zt_di2 mx x.toInt y.toInt := by rw [zt_dd_ev, hx2, hy2]
      have hgo : zt_go (zx_mm f npc) L (.int y :: .int x :: us) h npc L (.int (f x y) :: us) h := fun rec k sl => by
        show (match Nat.ble (zx_cats us) 7 with | true => k npc L (zx_i (f x y) :: us) h sl | false => none) = _
        rw [hc, zx_i_eq]
      by_cases c : 0 < zt_di2 mx x.toInt y.toInt
      · have e3 := (hf x y).1 c
        rw [e3] at hgo
        have hg2 : zt_g r (zt_stk ((0, eb, 0) :: B) S) L (.int y :: us) h := zt_stk_in hg ⟨⟨y, rfl, hy2⟩, h4⟩ (fun q hq => (List.mem_cons.mp hq).elim (fun z => by rw [z]; exact hlb) (hw2 q))
        obtain ⟨q, g1, g2, g3, g4⟩ := zt_q_in (t := npc) (e := zt_sub (zt_dd mx ea eb) (zt_k 1)) hg2 (by rw [zt_sub_ev, hd, zt_k_ev]; omega) (zt_sub_lt (zt_dd_lt hla hlb) zt_k_lt)
        exact ⟨q, List.mem_append_left _ g1, r, L, _, by rw [g2]; exact hgo, fun _ _ => rfl, g3, g4⟩
      · have e3 := (hf x y).2 c
        rw [e3] at hgo
        have hg2 : zt_g r (zt_stk ((0, ea, 0) :: B) S) L (.int x :: us) h := zt_stk_in hg ⟨⟨x, rfl, hx2⟩, h4⟩ (fun q hq => (List.mem_cons.mp hq).elim (fun z => by rw [z]; exact hla) (hw2 q))
        obtain ⟨q, g1, g2, g3, g4⟩ := zt_q_in (t := npc) (e := zt_sc (-1) (zt_dd mx ea eb)) hg2 (by rw [zt_sc_ev, hd]; omega) (zt_sc_lt (zt_dd_lt hla hlb))
        exact ⟨q, List.mem_append_right _ g1, r, L, _, by rw [g2]; exact hgo, fun _ _ => rfl, g3, g4⟩
  · cases hA
theorem zt_amax_in {npc : Nat} : zt_pur (zx_max npc) (zt_amm true npc) := zt_amm_in (mx := true) (fun x y => by
  have e : zt_di2 true x.toInt y.toInt = y.toInt - x.toInt := rfl
  rw [e]
  exact ⟨fun c => by show (if x < y then y else x) = y; rw [if_pos (Int32.lt_iff_toInt_lt.mpr (by omega))], fun c => by show (if x < y then y else x) = x; rw [if_neg (fun z => c (by have := Int32.lt_iff_toInt_lt.mp z; omega))]⟩)
theorem zt_amin_in {npc : Nat} : zt_pur (zx_min npc) (zt_amm false npc) := zt_amm_in (mx := false) (fun x y => by
  have e : zt_di2 false x.toInt y.toInt = x.toInt - y.toInt := rfl
  rw [e]
  exact ⟨fun c => by show (if y < x then y else x) = y; rw [if_pos (Int32.lt_iff_toInt_lt.mpr (by omega))], fun c => by show (if y < x then y else x) = x; rw [if_neg (fun z => c (by have := Int32.lt_iff_toInt_lt.mp z; omega))]⟩)
/-- two laid down again -/
noncomputable def zt_adup2 (npc : Nat) (S : zt_S) : zt_R := match S.2.2.1 with
  | a :: B => match Nat.beq a.1 1 with
    | true => some [(npc, zt_stk (a :: a :: B) S)]
    | false => match B with
      | [] => none
      | b :: B2 => match Nat.beq b.1 1 with
        | true => none
        | false => some [(npc, zt_stk (a :: b :: a :: b :: B2) S)]
  | _ => none
theorem zt_adup2_in {npc : Nat} : zt_pur (zx_dup2 npc) (zt_adup2 npc) := by
  intro S l r L st h hg hA
  unfold zt_adup2 at hA
  split at hA
  · next a B e1 =>
    have hv := hg.2.2.1
    have hw := hg.2.2.2.2.2.1
    rw [e1] at hv hw
    obtain ⟨v, vs, rfl, h1, h2⟩ := zt_vs_cons hv
    split at hA
    · next e2 =>
      cases hA
      have hc : v.category = 2 := by
        obtain ⟨t, e, i⟩ := a
        obtain rfl : t = 1 := Nat.eq_of_beq_eq_true e2
        obtain ⟨x, rfl, -⟩ := h1
        rfl
      refine zt_one (st2 := v :: v :: vs) (fun rec k sl => ?_) (fun _ _ => rfl) (Nat.le_refl _) (zt_stk_in hg ⟨h1, h1, h2⟩ (fun q hq => (List.mem_cons.mp hq).elim (fun z => by rw [z]; exact hw a List.mem_cons_self) (hw q)))
      show (if v.category = 2 then k npc L (v :: v :: vs) h sl else _) = _
      rw [if_pos hc]
    · next e2 =>
      split at hA
      · cases hA
      · next b B2 =>
        split at hA
        · cases hA
        · next e4 =>
          cases hA
          obtain ⟨u, us, rfl, h3, h4⟩ := zt_vs_cons h2
          have c1 := zt_cat1 h1 e2
          have c2 := zt_cat1 h3 e4
          refine zt_one (st2 := v :: u :: v :: u :: us) (fun rec k sl => ?_) (fun _ _ => rfl) (Nat.le_refl _) (zt_stk_in hg ⟨h1, h3, h1, h3, h4⟩ (fun q hq => ?_))
          · show (if v.category = 2 then _ else if v.category = 1 ∧ u.category = 1 then k npc L (v :: u :: v :: u :: us) h sl else none) = _
            rw [if_neg (by rw [c1]; decide), if_pos ⟨c1, c2⟩]
          · rcases List.mem_cons.mp hq with z | z
            · rw [z]; exact hw a List.mem_cons_self
            · rcases List.mem_cons.mp z with z | z
              · rw [z]; exact hw b (List.mem_cons_of_mem _ List.mem_cons_self)
              · exact hw q z
  · cases hA
