/-! ===== rows changed, lengths, rows of rows, rows that are older ===== -/
noncomputable def zt_cvk (c : Nat) (y : zt_Y) : Bool := match c with
  | 0 => Nat.beq y.1 0
  | 1 => Nat.beq y.1 1
  | 2 => Nat.beq y.1 0 && (decide (-128 ≤ y.2.1) && decide (y.2.2.1 ≤ 127))
  | _ => Nat.beq y.1 0 && (decide (0 ≤ y.2.1) && decide (y.2.2.1 ≤ 1))
noncomputable def zt_cva (c : Nat) : List zt_Y → Bool
  | [] => true
  | y :: l => zt_cvk c y && zt_cva c l
theorem zt_cva_in {c : Nat} : ∀ {l : List zt_Y} {y : zt_Y}, y ∈ l → zt_cva c l = true → zt_cvk c y = true
  | [], _, h, _ => nomatch h
  | z :: l, y, h, hc => by
    have h9 : (zt_cvk c z && zt_cva c l) = true := hc
    simp only [Bool.and_eq_true] at h9
    rcases List.mem_cons.mp h with e | e
    · rw [e]
      exact h9.1
    · exact zt_cva_in e h9.2
theorem zt_cvI {y : zt_Y} {v : Value} (h : zt_cvk 0 y = true) (hv : zt_yt y v) : zx_cvI v = some v := by
  obtain ⟨yt, lo, hi, l⟩ := y
  obtain rfl : yt = 0 := Nat.eq_of_beq_eq_true h
  obtain ⟨x, rfl, -⟩ := hv
  rfl
theorem zt_cvJ {y : zt_Y} {v : Value} (h : zt_cvk 1 y = true) (hv : zt_yt y v) : zx_cvJ v = some v := by
  obtain ⟨yt, lo, hi, l⟩ := y
  obtain rfl : yt = 1 := Nat.eq_of_beq_eq_true h
  obtain ⟨x, rfl, -⟩ := hv
  rfl
theorem zt_cvB {y : zt_Y} {v : Value} (h : zt_cvk 2 y = true) (hv : zt_yt y v) : zx_cvB v = some v := by
  obtain ⟨yt, lo, hi, l⟩ := y
  have h9 : (Nat.beq yt 0 && (decide (-128 ≤ lo) && decide (hi ≤ 127))) = true := h
  simp only [Bool.and_eq_true] at h9
  obtain rfl : yt = 0 := Nat.eq_of_beq_eq_true h9.1
  obtain ⟨x, rfl, h1, h2⟩ := hv
  have h3 := of_decide_eq_true h9.2.1
  have h4 := of_decide_eq_true h9.2.2
  have h5 : lo ≤ x.toInt := h1
  have h6 : x.toInt ≤ hi := h2
  show some (zx_i x.toInt8.toInt32) = _
  rw [zx_i_eq]
  have e : x.toInt8.toInt32 = x := by
    apply Int32.toInt_inj.mp
    rw [Int8.toInt_toInt32, Int32.toInt_toInt8, Int.bmod_def]
    split <;> omega
  rw [e]
theorem zt_cvZ {y : zt_Y} {v : Value} (h : zt_cvk 3 y = true) (hv : zt_yt y v) : zx_cvZ v = some v := by
  obtain ⟨yt, lo, hi, l⟩ := y
  have h9 : (Nat.beq yt 0 && (decide (0 ≤ lo) && decide (hi ≤ 1))) = true := h
  simp only [Bool.and_eq_true] at h9
  obtain rfl : yt = 0 := Nat.eq_of_beq_eq_true h9.1
  obtain ⟨x, rfl, h1, h2⟩ := hv
  have h3 := of_decide_eq_true h9.2.1
  have h4 := of_decide_eq_true h9.2.2
  have h5 : lo ≤ x.toInt := h1
  have h6 : x.toInt ≤ hi := h2
  rcases zt_01 (x := x) (by omega) (by omega) with e | e <;> rw [e] <;> rfl
/-- a row changed -/
noncomputable def zt_aast (T : zx_Tr zt_C) (md : List (Nat × Nat)) (ty c npc : Nat) (S : zt_S) : zt_R := match S.2.2.1 with
  | a :: b :: p :: B => match Nat.beq b.1 0 && Nat.beq p.1 2 with
    | false => none
    | true => match zx_g10 T p.2.2 with
      | some (.inr x) => match (Nat.beq x.1 ty && (zt_ge S.2.2.2.2 b.2.1 && zt_ge S.2.2.2.2 (zt_sub (zt_k ((x.2.1 : Int) - 1)) b.2.1))) && (zt_ckr S.2.2.2.2 a x.2.2 b.2.1 && (zt_cva c x.2.2 && zt_md p.2.2 999999 md)) with
        | false => none
        | true => some [(npc, (S.1, S.2.1, B, ((p.2.2, b.2.1), a) :: zt_di p.2.2 b.2.1 S.2.2.2.1, S.2.2.2.2))]
      | _ => none
  | _ => none
theorem zt_aast_g {T : zx_Tr zt_C} {K0 ty c npc : Nat} {md : List (Nat × Nat)} {cv : Value → Option Value} {S : zt_S} {l : List (Nat × zt_S)} {r : Nat → Int} {L : zx_L} {st : List Value} {h : zx_H} (hcv : ∀ y v, zt_cvk c y = true → zt_yt y v → cv v = some v) (hk : zt_hk T K0 h) (hg : zt_g r S L st h) (hA : zt_aast T md ty c npc S = some l) :
    ∃ (v : Value) (x : Int32) (i n : Nat) (d : Value) (u : zx_Tr Value) (us : List Value), st = v :: .int x :: .ref i :: us ∧ zx_hg h i = some (.inr (ty, n, d, u)) ∧ zt_go (zx_ast K0 ty cv npc) L (v :: .int x :: .ref i :: us) h npc L us (zx_hs h i (.inr (ty, n, d, zx_s10 v u x.toNatClampNeg))) ∧
      ∃ q ∈ l, q.1 = npc ∧ S.1 ≤ q.2.1 ∧ zt_g r q.2 L us (zx_hs h i (.inr (ty, n, d, zx_s10 v u x.toNatClampNeg))) ∧ zt_hk T K0 (zx_hs h i (.inr (ty, n, d, zx_s10 v u x.toNatClampNeg))) ∧ zt_fr md h (zx_hs h i (.inr (ty, n, d, zx_s10 v u x.toNatClampNeg))) ∧ (∀ i2 j2, zt_at (zx_hs h i (.inr (ty, n, d, zx_s10 v u x.toNatClampNeg))) i2 j2 = if i2 = i ∧ j2 = x.toNatClampNeg then some v else zt_at h i2 j2) ∧ ∃ a b p B, S.2.2.1 = a :: b :: p :: B ∧ p.2.2 = i ∧ ((x.toNatClampNeg : Nat) : Int) = zt_ev r b.2.1 ∧ zt_val r a v := by
  unfold zt_aast at hA
  split at hA
  · next a b p B e1 =>
    split at hA
    · cases hA
    · next e2 =>
      split at hA
      · next x e3 =>
        split at hA
        · cases hA
        · next e4 =>
          cases hA
          simp only [Bool.and_eq_true] at e2 e4
          obtain ⟨⟨e4, e5, e6⟩, e7, e8, e9⟩ := e4
          have hv := hg.2.2.1
          have hw := hg.2.2.2.2.2.1
          rw [e1] at hv hw
          obtain ⟨v, vs, rfl, h1, h2⟩ := zt_vs_cons hv
          obtain ⟨u, us, rfl, h3, h4⟩ := zt_vs_cons h2
          obtain ⟨w, ws, rfl, h5, h6⟩ := zt_vs_cons h4
          obtain ⟨tb, e, jb⟩ := b
          obtain ⟨t, ea, i⟩ := p
          obtain rfl : tb = 0 := Nat.eq_of_beq_eq_true e2.1
          obtain rfl : t = 2 := Nat.eq_of_beq_eq_true e2.2
          obtain ⟨z, rfl, hz⟩ := h3
          obtain rfl : w = .ref i := h5
          obtain ⟨⟨hi0, hi⟩, d, uu, c1, c0, c2⟩ := hk i _ e3
          obtain ⟨tx, n, y⟩ := x
          obtain rfl : tx = ty := Nat.eq_of_beq_eq_true e4
          have g1 := zt_ge_in hg.1 e5
          have g2 := zt_ge_in hg.1 e6
          rw [zt_sub_ev, zt_k_ev] at g2
          have hz2 : z.toInt = zt_ev r e := hz
          have g2b : 0 ≤ ((n : Int) - 1) - zt_ev r e := g2
          have g1b : 0 ≤ zt_ev r e := g1
          have c0b : n ≤ 300000 := c0
          have hlt : z.toNatClampNeg < n := by
            rw [zt_clamp]
            omega
          have hlt2 : z.toNatClampNeg < 300000 := Nat.lt_of_lt_of_le hlt c0b
          have hj : ((z.toNatClampNeg : Nat) : Int) = zt_ev r e := by
            rw [zt_clamp]
            omega
          obtain ⟨hy, hyn⟩ := zt_ckr_in hg.1 h1 hj e7
          have hyc : zt_cvk c (zt_ry y z.toNatClampNeg) = true := (zt_ry_mem (ys := y) (j := z.toNatClampNeg)).elim (fun q => zt_cva_in q e8) (fun q => absurd q hyn)
          have hat := zt_at_r (v := v) hi hlt2 c1
          have h0 : 0 ≤ z := by
            rw [Int32.le_iff_toInt_le]
            show (0 : Int) ≤ z.toInt
            omega
          refine ⟨v, z, i, n, d, uu, ws, rfl, c1, fun rec kk sl => ?_, _, List.mem_cons_self, rfl, Nat.le_refl _, ⟨hg.1, hg.2.1, h6, fun q hq => ?_, hg.2.2.2.2.1, fun q hq => hw q (List.mem_cons_of_mem _ (List.mem_cons_of_mem _ (List.mem_cons_of_mem _ hq))), fun q hq => ?_, hg.2.2.2.2.2.2.2⟩, zt_hk_r hk e3 c1 hy hlt2, ⟨rfl, fun p j hm hm2 => ?_⟩, hat, _, _, _, _, e1, rfl, hj, h1⟩
          · show (match Nat.ble K0 i && decide (0 ≤ z) with | true => (match zx_ga h i tx with | none => none | some x9 => zx_fn z.toNatClampNeg (fun q => match Nat.blt q x9.1 && Nat.blt q 300000 with | true => (match cv v with | some w => zx_hsC h i (.inr (tx, x9.1, x9.2.1, zx_s10 w x9.2.2 q)) (fun h2 => kk npc L ws h2 sl) | none => none) | false => none)) | false => none) = _
            have e10 : zx_ga h i tx = some (n, d, uu) := by
              unfold zx_ga
              rw [c1]
              show (match Nat.beq tx tx with | true => some (n, d, uu) | false => none) = _
              rw [Nat.beq_refl]
            have e11 : (Nat.ble K0 i && decide (0 ≤ z)) = true := by rw [decide_eq_true h0, Nat.ble_eq_true_of_le hi0]; rfl
            rw [e11, e10]
            show zx_fn z.toNatClampNeg (fun q => match Nat.blt q n && Nat.blt q 300000 with | true => (match cv v with | some w => zx_hsC h i (.inr (tx, n, d, zx_s10 w uu q)) (fun h2 => kk npc L ws h2 sl) | none => none) | false => none) = _
            have e12 : (Nat.blt z.toNatClampNeg n && Nat.blt z.toNatClampNeg 300000) = true := by
              rw [show Nat.blt z.toNatClampNeg n = true from Nat.ble_eq_true_of_le hlt, show Nat.blt z.toNatClampNeg 300000 = true from Nat.ble_eq_true_of_le hlt2]
              rfl
            rw [zx_fn_eq, e12, hcv _ v hyc hy]
            rfl
          · rcases List.mem_cons.mp hq with k | k
            · rw [k]
              exact ⟨z.toNatClampNeg, v, hj, by rw [hat, if_pos ⟨rfl, rfl⟩], h1⟩
            · obtain ⟨k1, k2⟩ := zt_di_in k
              obtain ⟨j, w, m1, m2, m3⟩ := hg.2.2.2.1 q k1
              refine ⟨j, w, m1, ?_, m3⟩
              rw [hat, if_neg (fun y => k2 r y.1 (by have m1b : (j : Int) = zt_ev r q.1.2 := m1; rw [← m1b, y.2]; exact hj))]
              exact m2
          · rcases List.mem_cons.mp hq with k | k
            · rw [k]
              exact ⟨hw (0, e, jb) (List.mem_cons_of_mem _ List.mem_cons_self), hw a List.mem_cons_self⟩
            · exact hg.2.2.2.2.2.2.1 q (zt_di_in k).1
          · rw [hat, if_neg (fun y => hm2 (by rw [y.1]; exact zt_md_in e9))]
      · cases hA
  · cases hA
theorem zt_aast_in {T : zx_Tr zt_C} {K0 ty c npc : Nat} {md : List (Nat × Nat)} {cv : Value → Option Value} (hcv : ∀ y v, zt_cvk c y = true → zt_yt y v → cv v = some v) : zt_hpr T K0 md (zx_ast K0 ty cv npc) (zt_aast T md ty c npc) := by
  intro S l r L st h hk hg hA
  obtain ⟨v, x, i, n, d, u, us, rfl, h1, h2, q, g1, g2, g3, g4, g5, g6⟩ := zt_aast_g (K0 := K0) hcv hk hg hA
  exact ⟨q, g1, r, L, us, _, by rw [g2]; exact h2, fun _ _ => rfl, g3, g4, g5, g6.1⟩
theorem zt_ast_no {K0 : Nat} {h : zx_H} {v : Value} {x : Int32} {i n ty ty2 npc : Nat} {d : Value} {u : zx_Tr Value} {us : List Value} {L : zx_L} {cv : Value → Option Value} (h1 : zx_hg h i = some (.inr (ty, n, d, u))) (h2 : ty ≠ ty2) (rec : zx_C) (kk : zx_K) (sl : Nat) : zx_ast K0 ty2 cv npc rec L (v :: .int x :: .ref i :: us) h sl kk = none := by
  show (match Nat.ble K0 i && decide (0 ≤ x) with | true => (match zx_ga h i ty2 with | none => none | some x9 => zx_fn x.toNatClampNeg (fun q => match Nat.blt q x9.1 && Nat.blt q 300000 with | true => (match cv v with | some w => zx_hsC h i (.inr (ty2, x9.1, x9.2.1, zx_s10 w x9.2.2 q)) (fun h2 => kk npc L us h2 sl) | none => none) | false => none)) | false => none) = _
  have e1 : zx_ga h i ty2 = none := by
    unfold zx_ga
    rw [h1]
    show (match Nat.beq ty ty2 with | true => some (n, d, u) | false => none) = _
    rw [show Nat.beq ty ty2 = false from Bool.eq_false_iff.mpr (fun z => h2 (Nat.eq_of_beq_eq_true z))]
  rw [e1]
  cases (Nat.ble K0 i && decide (0 ≤ x)) <;> rfl
/-- bytes or booleans, as the row has them -/
theorem zt_altA {A B : zx_F} {L L2 : zx_L} {st st2 : List Value} {h h2 : zx_H} {pc : Nat} (ha : zt_go A L st h pc L2 st2 h2) (hb : ∀ rec kk sl, B rec L st h sl kk = none) : zt_go (zr_alt A B) L st h pc L2 st2 h2 := by
  intro rec k sl
  unfold zr_alt
  rw [ha rec k sl, hb rec k sl]
  cases k pc L2 st2 h2 sl <;> rfl
theorem zt_altB {A B : zx_F} {L L2 : zx_L} {st st2 : List Value} {h h2 : zx_H} {pc : Nat} (ha : ∀ rec kk sl, A rec L st h sl kk = none) (hb : zt_go B L st h pc L2 st2 h2) : zt_go (zr_alt A B) L st h pc L2 st2 h2 := by
  intro rec k sl
  unfold zr_alt
  rw [ha rec k sl]
  exact hb rec k sl
/-- one way or, where that says nothing, the other -/
noncomputable def zt_ei (A B : zt_S → zt_R) (S : zt_S) : zt_R := match A S with
  | some l => some l
  | none => B S
theorem zt_abast_in {T : zx_Tr zt_C} {K0 npc : Nat} {md : List (Nat × Nat)} : zt_hpr T K0 md (zr_alt (zx_ast K0 2 zx_cvB npc) (zx_ast K0 3 zx_cvZ npc)) (zt_ei (zt_aast T md 2 2 npc) (zt_aast T md 3 3 npc)) := by
  intro S l r L st h hk hg hA
  unfold zt_ei at hA
  split at hA
  · next l2 e =>
    cases hA
    obtain ⟨v, x, i, n, d, u, us, rfl, h1, h2, q, g1, g2, g3, g4, g5, g6⟩ := zt_aast_g (K0 := K0) (cv := zx_cvB) (fun y v => zt_cvB) hk hg e
    exact ⟨q, g1, r, L, us, _, by rw [g2]; exact zt_altA h2 (fun rec kk sl => zt_ast_no h1 (by decide) rec kk sl), fun _ _ => rfl, g3, g4, g5, g6.1⟩
  · obtain ⟨v, x, i, n, d, u, us, rfl, h1, h2, q, g1, g2, g3, g4, g5, g6⟩ := zt_aast_g (K0 := K0) (cv := zx_cvZ) (fun y v => zt_cvZ) hk hg hA
    exact ⟨q, g1, r, L, us, _, by rw [g2]; exact zt_altB (fun rec kk sl => zt_ast_no h1 (by decide) rec kk sl) h2, fun _ _ => rfl, g3, g4, g5, g6.1⟩
theorem zt_aldO_no {h : zx_H} {x : Int32} {i n ty ty2 K0 npc : Nat} {d : Value} {u : zx_Tr Value} {us : List Value} {L : zx_L} {O : List zx_W} (h0 : K0 ≤ i) (h1 : zx_hg h i = some (.inr (ty, n, d, u))) (h2 : ty ≠ ty2) (rec : zx_C) (kk : zx_K) (sl : Nat) : zx_aldO [] O K0 ty2 npc rec L (.int x :: .ref i :: us) h sl kk = none := by
  show (match Nat.blt i K0 with | true => zx_aldB [] O ty2 npc rec L (.int x :: .ref i :: us) h sl kk | false => zx_ald [] ty2 npc rec L (.int x :: .ref i :: us) h sl kk) = _
  rw [show Nat.blt i K0 = false from Bool.eq_false_iff.mpr (fun z => Nat.not_lt.mpr h0 (Nat.le_of_ble_eq_true z))]
  exact zt_ald_no h1 h2 rec kk sl
theorem zt_aldO_go {h : zx_H} {x : Int32} {i n ty K0 npc : Nat} {d : Value} {u : zx_Tr Value} {us : List Value} {L : zx_L} {O : List zx_W} (h0 : K0 ≤ i) (h1 : zx_hg h i = some (.inr (ty, n, d, u))) (h2 : 0 ≤ x) (h3 : x.toNatClampNeg < n) : zt_go (zx_aldO [] O K0 ty npc) L (.int x :: .ref i :: us) h npc L (zx_rd d u x.toNatClampNeg :: us) h := by
  intro rec kk sl
  show (match Nat.blt i K0 with | true => zx_aldB [] O ty npc rec L (.int x :: .ref i :: us) h sl kk | false => zx_ald [] ty npc rec L (.int x :: .ref i :: us) h sl kk) = _
  rw [show Nat.blt i K0 = false from Bool.eq_false_iff.mpr (fun z => Nat.not_lt.mpr h0 (Nat.le_of_ble_eq_true z))]
  exact zt_ald_go h1 h2 h3 rec kk sl
theorem zt_abald_in {T : zx_Tr zt_C} {K0 npc : Nat} {md : List (Nat × Nat)} {O : List zx_W} : zt_hpr T K0 md (zr_alt (zx_aldO [] O K0 2 npc) (zx_ald [] 3 npc)) (zt_ei (zt_aald T 2 npc) (zt_aald T 3 npc)) := by
  intro S l r L st h hk hg hA
  unfold zt_ei at hA
  split at hA
  · next l2 e =>
    cases hA
    obtain ⟨x, i, n, d, u, us, rfl, h1, h2, h3, h4, q, g1, g2, g3, r2, g4, g5⟩ := zt_aald_g hk hg e
    exact ⟨q, g1, r2, L, _, h, by rw [g2]; exact zt_altA (zt_aldO_go h1 h2 h3 h4) (fun rec kk sl => zt_ald_no h2 (by decide) rec kk sl), g4, g3, g5, hk, zt_fr_refl⟩
  · obtain ⟨x, i, n, d, u, us, rfl, h1, h2, h3, h4, q, g1, g2, g3, r2, g4, g5⟩ := zt_aald_g hk hg hA
    exact ⟨q, g1, r2, L, _, h, by rw [g2]; exact zt_altB (fun rec kk sl => zt_aldO_no h1 h2 (by decide) rec kk sl) (zt_ald_go h2 h3 h4), g4, g3, g5, hk, zt_fr_refl⟩
/-- rows of rows -/
noncomputable def zt_aaa (T : zx_Tr zt_C) (npc : Nat) : List Nat → zt_S → zt_R
  | [] => fun _ => none
  | t :: l => zt_ei (zt_aald T t npc) (zt_aaa T npc l)
theorem zt_aa_no {h : zx_H} {x : Int32} {i n ty npc : Nat} {d : Value} {u : zx_Tr Value} {us : List Value} {L : zx_L} (h1 : zx_hg h i = some (.inr (ty, n, d, u))) (h2 : 0 ≤ x) (h3 : x.toNatClampNeg < n) (rec : zx_C) (kk : zx_K) (sl : Nat) : ∀ l : List Nat, zr_aa npc l rec L (.int x :: .ref i :: us) h sl kk = none ∨ zr_aa npc l rec L (.int x :: .ref i :: us) h sl kk = kk npc L (zx_rd d u x.toNatClampNeg :: us) h sl
  | [] => Or.inl rfl
  | t :: l => by
    have ih := zt_aa_no (npc := npc) (us := us) (L := L) h1 h2 h3 rec kk sl l
    show (match zx_ald [] t npc rec L (.int x :: .ref i :: us) h sl kk with | some r => some r | none => zr_aa npc l rec L (.int x :: .ref i :: us) h sl kk) = none ∨ (match zx_ald [] t npc rec L (.int x :: .ref i :: us) h sl kk with | some r => some r | none => zr_aa npc l rec L (.int x :: .ref i :: us) h sl kk) = _
    by_cases e : ty = t
    · subst e
      rw [zt_ald_go h1 h2 h3 rec kk sl]
      cases ek : kk npc L (zx_rd d u x.toNatClampNeg :: us) h sl with
      | none =>
        rcases ih with z | z
        · exact Or.inl z
        · exact Or.inl (z.trans ek)
      | some r => exact Or.inr rfl
    · rw [zt_ald_no h1 e rec kk sl]
      exact ih
theorem zt_aa_go {h : zx_H} {x : Int32} {i n ty npc : Nat} {d : Value} {u : zx_Tr Value} {us : List Value} {L : zx_L} (h1 : zx_hg h i = some (.inr (ty, n, d, u))) (h2 : 0 ≤ x) (h3 : x.toNatClampNeg < n) : ∀ {l : List Nat}, ty ∈ l → zt_go (zr_aa npc l) L (.int x :: .ref i :: us) h npc L (zx_rd d u x.toNatClampNeg :: us) h
  | [], hm => nomatch hm
  | t :: l, hm => by
    intro rec kk sl
    show (match zx_ald [] t npc rec L (.int x :: .ref i :: us) h sl kk with | some r => some r | none => zr_aa npc l rec L (.int x :: .ref i :: us) h sl kk) = _
    by_cases e : ty = t
    · subst e
      rw [zt_ald_go h1 h2 h3 rec kk sl]
      cases ek : kk npc L (zx_rd d u x.toNatClampNeg :: us) h sl with
      | none =>
        rcases zt_aa_no (npc := npc) (us := us) (L := L) h1 h2 h3 rec kk sl l with z | z
        · exact z
        · exact z.trans ek
      | some r => rfl
    · rw [zt_ald_no h1 e rec kk sl]
      exact zt_aa_go h1 h2 h3 ((List.mem_cons.mp hm).elim (fun z => absurd z e) id) rec kk sl
theorem zt_aaa_g {T : zx_Tr zt_C} {npc : Nat} {S : zt_S} {l : List (Nat × zt_S)} : ∀ {ts : List Nat}, zt_aaa T npc ts S = some l → ∃ t ∈ ts, zt_aald T t npc S = some l
  | [], h => nomatch h
  | t :: ts, h => by
    have h9 : zt_ei (zt_aald T t npc) (zt_aaa T npc ts) S = some l := h
    unfold zt_ei at h9
    split at h9
    · next l2 e =>
      cases h9
      exact ⟨t, List.mem_cons_self, e⟩
    · obtain ⟨t2, h1, h2⟩ := zt_aaa_g h9
      exact ⟨t2, List.mem_cons_of_mem _ h1, h2⟩
theorem zt_aaa_in {T : zx_Tr zt_C} {K0 npc : Nat} {md : List (Nat × Nat)} {ts : List Nat} : zt_hpr T K0 md (zr_aa npc ts) (zt_aaa T npc ts) := by
  intro S l r L st h hk hg hA
  obtain ⟨t, ht, e⟩ := zt_aaa_g hA
  obtain ⟨x, i, n, d, u, us, rfl, h1, h2, h3, h4, q, g1, g2, g3, r2, g4, g5⟩ := zt_aald_g hk hg e
  exact ⟨q, g1, r2, L, _, h, by rw [g2]; exact zt_aa_go h2 h3 h4 ht, g4, g3, g5, hk, zt_fr_refl⟩

/-- a store: what it changes -/
def zt_hst (T : zx_Tr zt_C) (K0 : Nat) (md : List (Nat × Nat)) (g : zx_F) (A : zt_S → zt_R) : Prop := ∀ (S : zt_S) (l : List (Nat × zt_S)) (r : Nat → Int) (L : zx_L) (st : List Value) (h : zx_H), zt_hk T K0 h → zt_g r S L st h → A S = some l →
  ∃ q ∈ l, ∃ (us : List Value) (h2 : zx_H) (k : Nat) (v : Value) (a b p : zt_V) (B : List zt_V), S.2.2.1 = a :: b :: p :: B ∧ zt_go g L st h q.1 L us h2 ∧ S.1 ≤ q.2.1 ∧ zt_g r q.2 L us h2 ∧ zt_hk T K0 h2 ∧ zt_fr md h h2 ∧ (∀ i j, zt_at h2 i j = if i = p.2.2 ∧ j = k then some v else zt_at h i j) ∧ (k : Int) = zt_ev r b.2.1 ∧ zt_val r a v
theorem zt_aast_st {T : zx_Tr zt_C} {K0 ty c npc : Nat} {md : List (Nat × Nat)} {cv : Value → Option Value} (hcv : ∀ y v, zt_cvk c y = true → zt_yt y v → cv v = some v) : zt_hst T K0 md (zx_ast K0 ty cv npc) (zt_aast T md ty c npc) := by
  intro S l r L st h hk hg hA
  obtain ⟨v, x, i, n, d, u, us, rfl, h1, h2, q, g1, g2, g3, g4, g5, g6, g7, a, b, p, B, g8, rfl, g9, g10⟩ := zt_aast_g (K0 := K0) hcv hk hg hA
  exact ⟨q, g1, us, _, _, v, a, b, p, B, g8, by rw [g2]; exact h2, g3, g4, g5, g6, g7, g9, g10⟩
theorem zt_abast_st {T : zx_Tr zt_C} {K0 npc : Nat} {md : List (Nat × Nat)} : zt_hst T K0 md (zr_alt (zx_ast K0 2 zx_cvB npc) (zx_ast K0 3 zx_cvZ npc)) (zt_ei (zt_aast T md 2 2 npc) (zt_aast T md 3 3 npc)) := by
  intro S l r L st h hk hg hA
  unfold zt_ei at hA
  split at hA
  · next l2 e =>
    cases hA
    obtain ⟨v, x, i, n, d, u, us, rfl, h1, h2, q, g1, g2, g3, g4, g5, g6, g7, a, b, p, B, g8, rfl, g9, g10⟩ := zt_aast_g (K0 := K0) (cv := zx_cvB) (fun y v => zt_cvB) hk hg e
    exact ⟨q, g1, us, _, _, v, a, b, p, B, g8, by rw [g2]; exact zt_altA h2 (fun rec kk sl => zt_ast_no h1 (by decide) rec kk sl), g3, g4, g5, g6, g7, g9, g10⟩
  · obtain ⟨v, x, i, n, d, u, us, rfl, h1, h2, q, g1, g2, g3, g4, g5, g6, g7, a, b, p, B, g8, rfl, g9, g10⟩ := zt_aast_g (K0 := K0) (cv := zx_cvZ) (fun y v => zt_cvZ) hk hg hA
    exact ⟨q, g1, us, _, _, v, a, b, p, B, g8, by rw [g2]; exact zt_altB (fun rec kk sl => zt_ast_no h1 (by decide) rec kk sl) h2, g3, g4, g5, g6, g7, g9, g10⟩
