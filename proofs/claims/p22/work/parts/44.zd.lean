/-! ===== a method's places by a table: which row, which instruction ===== -/
/-- the first row that knows the instruction -/
noncomputable def zd_ix : List (zr_R × (Instr → Nat → ze_O)) → Instr → Nat → Nat → Option Nat
  | [], _, _, _ => none
  | q :: l, i, n, k => match q.1 i n with
    | some _ => some k
    | none => zd_ix l i n (k + 1)
theorem zd_ix_in : ∀ {l : List (zr_R × (Instr → Nat → ze_O))} {i : Instr} {n k j : Nat}, zd_ix l i n k = some j → k ≤ j ∧ ∃ q g, l[j - k]? = some q ∧ zs_try l i n = some (g, q.2 i n)
  | [], _, _, _, _, h => nomatch h
  | q :: l, i, n, k, j, h => by
    have h9 : (match q.1 i n with | some _ => some k | none => zd_ix l i n (k + 1)) = some j := h
    split at h9
    · next g e =>
      cases h9
      refine ⟨Nat.le_refl _, q, g, ?_, ?_⟩
      · rw [Nat.sub_self]
        rfl
      · show (match q.1 i n with | some g => some (g, q.2 i n) | none => zs_try l i n) = _
        rw [e]
    · next e =>
      obtain ⟨h1, p, g, h2, h3⟩ := zd_ix_in h9
      refine ⟨Nat.le_of_succ_le h1, p, g, ?_, ?_⟩
      · rw [show j - k = (j - (k + 1)) + 1 by omega]
        exact h2
      · show (match q.1 i n with | some g => some (g, q.2 i n) | none => zs_try l i n) = _
        rw [e]
        exact h3
/-- a table: the row, the instruction, how long it is -/
abbrev zd_T : Type := zx_Tr (Nat × Instr × Nat)
noncomputable def zd_F (T : zx_Tr zt_C) (O : List zx_W) (OT : List zt_Y) (K0 : Nat) (md : List (Nat × Nat)) (rt : List Nat) (TX : List zx_X) (M : zx_M × zx_Tr zr_E) (N : Nat) (tab : zd_T) (pc : Nat) : Option ze_O := match Nat.blt pc N with
  | false => none
  | true => match zx_g10 tab pc with
    | none => none
    | some x => match zx_nth (zs_rows T O OT K0 md rt TX M.2 M.1.2.2.1 M.1.2.2.2.1 pc) x.1 with
      | none => none
      | some q => some (q.2 x.2.1 x.2.2)
/-- the table is right up to a place -/
noncomputable def zd_ok (T : zx_Tr zt_C) (O : List zx_W) (OT : List zt_Y) (K0 : Nat) (rt : List Nat) (TX : List zx_X) (M : zx_M × zx_Tr zr_E) (tab : zd_T) : Nat → Bool
  | 0 => true
  | n + 1 => match zx_g10 tab n with
    | none => zd_ok T O OT K0 rt TX M tab n
    | some x => match decide (decode M.1.2.1 n = .ok (x.2.1, x.2.2)) with
      | false => false
      | true => match zd_ix (zs_rows T O OT K0 [] rt TX M.2 M.1.2.2.1 M.1.2.2.2.1 n) x.2.1 x.2.2 0 with
        | none => false
        | some k => match Nat.beq k x.1 with
          | false => false
          | true => zd_ok T O OT K0 rt TX M tab n
theorem zd_ok_in {T : zx_Tr zt_C} {O : List zx_W} {OT : List zt_Y} {K0 : Nat} {rt : List Nat} {TX : List zx_X} {M : zx_M × zx_Tr zr_E} {tab : zd_T} : ∀ {N : Nat}, zd_ok T O OT K0 rt TX M tab N = true → ∀ {pc : Nat} {x : Nat × Instr × Nat}, pc < N → zx_g10 tab pc = some x → decode M.1.2.1 pc = .ok (x.2.1, x.2.2) ∧ zd_ix (zs_rows T O OT K0 [] rt TX M.2 M.1.2.2.1 M.1.2.2.2.1 pc) x.2.1 x.2.2 0 = some x.1
  | 0, _, _, _, hp, _ => absurd hp (Nat.not_lt_zero _)
  | n + 1, h, pc, x, hp, hx => by
    unfold zd_ok at h
    split at h
    · next e1 =>
      rcases Nat.lt_or_eq_of_le (Nat.le_of_lt_succ hp) with z | z
      · exact zd_ok_in h z hx
      · rw [z, e1] at hx
        cases hx
    · next y e1 =>
      split at h
      · cases h
      · next e2 =>
        split at h
        · cases h
        · next k e3 =>
          split at h
          · cases h
          · next e4 =>
            rcases Nat.lt_or_eq_of_le (Nat.le_of_lt_succ hp) with z | z
            · exact zd_ok_in h z hx
            · rw [z, e1] at hx
              cases hx
              rw [z]
              exact ⟨of_decide_eq_true e2, by rw [e3, Nat.eq_of_beq_eq_true e4]⟩
theorem zd_ix_md : ∀ {l m : List (zr_R × (Instr → Nat → ze_O))} {i : Instr} {n k : Nat}, l.map Prod.fst = m.map Prod.fst → zd_ix l i n k = zd_ix m i n k
  | [], [], _, _, _, _ => rfl
  | [], _ :: _, _, _, _, h => nomatch h
  | _ :: _, [], _, _, _, h => nomatch h
  | p :: l, q :: m, i, n, k, h => by
    have h1 : p.1 = q.1 := (List.cons.inj h).1
    have h2 : l.map Prod.fst = m.map Prod.fst := (List.cons.inj h).2
    show (match p.1 i n with | some _ => some k | none => zd_ix l i n (k + 1)) = (match q.1 i n with | some _ => some k | none => zd_ix m i n (k + 1))
    rw [h1, zd_ix_md h2]
theorem zd_F_in {Z : ze_Z} (hZ : ze_Zk Z) {T : zx_Tr zt_C} {O : List zx_W} {OT : List zt_Y} (HO : zt_ot O OT) {K0 : Nat} {md : List (Nat × Nat)} {rt : List Nat} {TX : List zx_X} {M : zx_M × zx_Tr zr_E} {N : Nat} {tab : zd_T} (ht : zd_ok T O OT K0 rt TX M tab N = true) {pc : Nat} {o : ze_O} (h : zd_F T O OT K0 md rt TX M N tab pc = some o) : ∃ g, zr_F O K0 rt TX M.2 M.1 pc = some g ∧ ze_osp Z T K0 md g o := by
  unfold zd_F at h
  split at h
  · cases h
  · next e0 =>
    split at h
    · cases h
    · next x e1 =>
      split at h
      · cases h
      · next q e2 =>
        cases h
        obtain ⟨h1, h2⟩ := zd_ok_in ht (Nat.le_of_ble_eq_true e0) e1
        rw [zd_ix_md (m := zs_rows T O OT K0 md rt TX M.2 M.1.2.2.1 M.1.2.2.2.1 pc) (by rw [zs_rows_1, zs_rows_1])] at h2
        obtain ⟨-, q2, g, h3, h4⟩ := zd_ix_in h2
        rw [zx_nth_eq] at e2
        rw [Nat.sub_zero, e2] at h3
        cases h3
        refine zs_F_in hZ HO (md := md) ?_
        unfold zs_F
        rw [h1]
        dsimp only
        rw [h4]
