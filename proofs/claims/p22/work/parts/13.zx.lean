/-! ===== a copying loop over a row that holds one thing everywhere, as one step ===== -/
/-- one step, whatever comes behind it -/
theorem zk_one {P : zx_P} {G : zx_G} {M : zx_M} {E : zx_E} {d k0 s0 : Nat} {res : zx_T} {pc : Nat} {f : zx_F} {L : zx_L} {st : List Value} {h : zx_H} {sl pc2 : Nat} {L2 : zx_L} {st2 : List Value} {h2 : zx_H} {sl2 : Nat} (hE : zx_EE P G E k0 s0 res) (hok : zx_ok P G M pc f) (hf : ∀ (rec : zx_C) (k : zx_K), f rec L st h sl k = k pc2 L2 st2 h2 sl2)
    (hw : h2.1 ≤ res.2.1.1 ∧ sl2 ≤ res.2.2 ∧ zx_w P G M E d k0 s0 res pc2 L2 st2 h2 sl2) : h.1 ≤ res.2.1.1 ∧ sl ≤ res.2.2 ∧ zx_w P G M E d k0 s0 res pc L st h sl := by
  classical
  have key := hok E d k0 s0 res (fun _ _ _ _ => none) (fun pc3 L3 st3 h3 s3 => if (pc3 = pc2 ∧ L3 = L2 ∧ st3 = st2 ∧ h3 = h2 ∧ s3 = sl2) then some res else none) L st h sl hE
  refine key ?_ (fun _ _ _ _ _ h9 => nomatch h9) (fun pc3 L3 st3 h3 s3 h9 => ?_)
  · rw [hf]
    exact if_pos ⟨rfl, rfl, rfl, rfl, rfl⟩
  · by_cases e : pc3 = pc2 ∧ L3 = L2 ∧ st3 = st2 ∧ h3 = h2 ∧ s3 = sl2
    · obtain ⟨rfl, rfl, rfl, rfl, rfl⟩ := e
      exact hw
    · rw [if_neg e] at h9
      exact nomatch h9
theorem zk_weak {P : zx_P} {G : zx_G} {h : zx_H} {H : Heap} {r ty n p : Nat} {dv : Value} {u : zx_Tr Value} (hr : zx_hg h r = some (.inr (ty, n, dv, u))) (hr3 : r < 300000) (hu : u = zx_e10 Value) (hp : p < 300000) (hh : zx_hp P G (zx_hs h r (.inr (ty, n, dv, zx_s10 dv u p))) H) : zx_hp P G h H := by
  obtain ⟨b1, b9, b2, b3, b4⟩ := hh
  refine ⟨b1, b9, b2, fun i a hi => ?_, b4⟩
  by_cases e : i = r
  · subst e
    rw [hr] at hi
    cases hi
    have h9 := b3 i (.inr (ty, n, dv, zx_s10 dv u p)) (by rw [zx_hg_hs _ _ _ _ hr3, if_pos rfl])
    refine ⟨h9.1, ?_⟩
    obtain ⟨q, a1, f, a2, a3⟩ := h9.2
    refine ⟨q, a1, f, a2, fun j hj => ?_⟩
    have h8 := a3 j hj
    have e9 : zx_rd dv (zx_s10 dv u p) j = zx_rd dv u j := by
      rw [zx_rd_put _ _ _ _ _ hp]
      by_cases e2 : j = p
      · rw [if_pos e2, hu, zx_rd_e]
      · rw [if_neg e2]
    show zx_v G.2.2.2.1 (zx_rd dv u j) (f j)
    rw [← e9]
    exact h8
  · exact b3 i a (by rw [zx_hg_hs _ _ _ _ hr3, if_neg e]; exact hi)
theorem zk_w {P : zx_P} {G : zx_G} {M : zx_M} {E : zx_E} {d k0 s0 : Nat} {res : zx_T} {pc sl : Nat} {L : zx_L} {st : List Value} {h h2 : zx_H} (e : h2.1 = h.1) (hw9 : ∀ H, zx_hp P G h2 H → zx_hp P G h H) (hw : h.1 ≤ res.2.1.1 ∧ sl ≤ res.2.2 ∧ zx_w P G M E d k0 s0 res pc L st h sl) : h2.1 ≤ res.2.1.1 ∧ sl ≤ res.2.2 ∧ zx_w P G M E d k0 s0 res pc L st h2 sl := by
  refine ⟨by rw [e]; exact hw.1, hw.2.1, fun p e9 s m args below meth c C H locs ls CL cst hh hl g1 g2 g3 hk0 hs0 => ?_⟩
  rw [e]
  exact hw.2.2 p e9 s m args below meth c C H locs ls CL cst (hw9 H hh) hl g1 g2 g3 (by rw [← e]; exact hk0) hs0
theorem zk_ld : ∀ {L : zx_L} {v : Value}, zx_ld L 0 = some v → v.category ≠ 2 → zx_ld (L.filter (zx_cv false 1)) 0 = some v
  | [], v, h, _ => nomatch h
  | (i, w) :: r, v, h, hc => by
    unfold zx_ld at h
    split at h
    · next e =>
      cases h
      have e2 : i = 0 := Nat.eq_of_beq_eq_true e
      subst e2
      rw [List.filter_cons_of_pos (by
        unfold zx_cv
        simp [hc])]
      rfl
    · next e =>
      by_cases hp : zx_cv false 1 (i, w) = true
      · rw [List.filter_cons_of_pos hp]
        show (if Nat.beq i 0 then some w else zx_ld (r.filter (zx_cv false 1)) 0) = _
        rw [if_neg e]
        exact zk_ld h hc
      · rw [List.filter_cons_of_neg hp]
        exact zk_ld h hc
theorem zk_ff (L : zx_L) : (L.filter (zx_cv false 1)).filter (zx_cv false 1) = L.filter (zx_cv false 1) := by
  rw [List.filter_filter]
  congr 1
  funext a
  simp
noncomputable def zx_isI (v : Value) : Bool := match v with
  | .int _ => true
  | _ => false
noncomputable def zx_cpy (ci k ty K0 N pc : Nat) : zx_F := fun _ L st h sl kk => match st with
  | [] => match zx_ld L 0 with
    | some (.ref i) => match zx_ld L 1 with
      | some (.int x) => match Nat.beq x.toBitVec.toNat 0 with
        | true => match zx_go h i ci with
          | none => none
          | some fs => match zx_g10 fs k with
            | some (.ref r) => match zx_ga h r ty with
              | none => none
              | some (n, dv, u) => match zx_em u && (Nat.ble (N + N) n && (Nat.ble K0 r && (zx_isI dv && Nat.ble n 300000))) with
                | true => zx_st false 1 L (fun L2 => kk (pc + 29) ((1, .int (nI N)) :: L2) [] h sl)
                | false => none
            | _ => none
        | false => none
      | _ => none
    | _ => none
  | _ => none
theorem zk_loop {P : zx_P} {G : zx_G} {M : zx_M} {o : zx_O} {O : List zx_W} {pc N ci k ty K0 : Nat} (hN : N < 100000) (hK0 : K0 = P.2.2.2.2.1)
    (r0 : zx_ok P G M pc (zx_loI 1 (pc + 1))) (r1 : zx_ok P G M (pc + 1) (zx_ci (.int (nI N)) (pc + 4))) (r4 : zx_ok P G M (pc + 4) (zx_icge o (pc + 29) (pc + 7))) (r7 : zx_ok P G M (pc + 7) (zx_loA 0 (pc + 8))) (r8 : zx_ok P G M (pc + 8) (zx_getf ci k (pc + 11))) (r11 : zx_ok P G M (pc + 11) (zx_ci (.int (nI N)) (pc + 14))) (r14 : zx_ok P G M (pc + 14) (zx_loI 1 (pc + 15))) (r15 : zx_ok P G M (pc + 15) (zx_iaddN o (pc + 16))) (r16 : zx_ok P G M (pc + 16) (zx_loA 0 (pc + 17))) (r17 : zx_ok P G M (pc + 17) (zx_getf ci k (pc + 20))) (r20 : zx_ok P G M (pc + 20) (zx_loI 1 (pc + 21))) (r21 : zx_ok P G M (pc + 21) (zx_aldO o O K0 ty (pc + 22))) (r22 : zx_ok P G M (pc + 22) (zx_ast K0 ty zx_cvI (pc + 23))) (r23 : zx_ok P G M (pc + 23) (zx_inc 1 (nI 1) (pc + 26))) (r26 : zx_ok P G M (pc + 26) (zx_goto pc)) : zx_ok P G M pc (zx_cpy ci k ty K0 N pc) := by
  intro E d k0 s0 res rec kk L st h sl hE hr hrec hk
  unfold zx_cpy at hr
  split at hr
  · split at hr
    · next i e0 =>
      split at hr
      · next x e1 =>
        cases e2 : Nat.beq x.toBitVec.toNat 0 with
        | false => rw [e2] at hr; exact nomatch hr
        | true =>
          rw [e2] at hr
          dsimp only at hr
          have hx0 : x = nI 0 := Int32.toBitVec_inj.mp (BitVec.eq_of_toNat_eq (Nat.eq_of_beq_eq_true e2))
          subst hx0
          cases e3 : zx_go h i ci with
          | none => rw [e3] at hr; exact nomatch hr
          | some fs =>
            rw [e3] at hr
            dsimp only at hr
            split at hr
            · next r e4 =>
              cases e5 : zx_ga h r ty with
              | none => rw [e5] at hr; exact nomatch hr
              | some z =>
                obtain ⟨n, dv, u⟩ := z
                rw [e5] at hr
                dsimp only at hr
                cases e6 : zx_em u && (Nat.ble (N + N) n && (Nat.ble K0 r && (zx_isI dv && Nat.ble n 300000))) with
                | false => rw [e6] at hr; exact nomatch hr
                | true =>
                  rw [e6] at hr
                  dsimp only at hr
                  rw [zx_st_eq] at hr
                  simp only [Bool.and_eq_true] at e6
                  obtain ⟨u1, u2, u3, u4, u5⟩ := e6
                  have hu := zx_em_in u1
                  have hnn : N + N ≤ n := Nat.le_of_ble_eq_true u2
                  have hrK : K0 ≤ r := Nat.le_of_ble_eq_true u3
                  have hn3 : n ≤ 300000 := Nat.le_of_ble_eq_true u5
                  obtain ⟨y, rfl⟩ : ∃ y, dv = .int y := by
                    cases dv <;> first | exact ⟨_, rfl⟩ | exact nomatch u4
                  have hend := hk _ _ _ _ _ hr
                  have hg := zx_ga_in e5
                  have hr3 : r < 300000 ∨ 300000 ≤ r := Nat.lt_or_ge r 300000
                  generalize hLF : L.filter (zx_cv false 1) = LF at hend
                  have hl0 : zx_ld LF 0 = some (.ref i) := by rw [← hLF]; exact zk_ld e0 (by show (1 : Nat) ≠ 2; decide)
                  have hff : LF.filter (zx_cv false 1) = LF := by rw [← hLF]; exact zk_ff L
                  have claim : r < 300000 → ∀ m j : Nat, j + m = N → h.1 ≤ res.2.1.1 ∧ sl ≤ res.2.2 ∧ zx_w P G M E d k0 s0 res pc ((1, .int (nI j)) :: LF) [] h sl := by
                    intro hr4 m
                    induction m with
                    | zero =>
                      intro j hj
                      obtain rfl : j = N := by omega
                      refine zk_one hE r0 (fun rec k => rfl) ?_
                      refine zk_one hE r1 (fun rec k => rfl) ?_
                      refine zk_one hE r4 (pc2 := pc + 29) (L2 := (1, .int (nI j)) :: LF) (st2 := []) (h2 := h) (sl2 := sl) (fun rec k => ?_) hend
                      show (match decide (nI j ≤ nI j) with | true => k (pc + 29) ((1, .int (nI j)) :: LF) [] h sl | false => k (pc + 7) ((1, .int (nI j)) :: LF) [] h sl) = _
                      rw [decide_eq_true (nI_le (Nat.le_refl j) (by omega))]
                    | succ m ih =>
                      intro j hj
                      have ihj := ih (j + 1) (by omega)
                      refine zk_one hE r0 (fun rec k => rfl) ?_
                      refine zk_one hE r1 (fun rec k => rfl) ?_
                      refine zk_one hE r4 (pc2 := pc + 7) (L2 := (1, .int (nI j)) :: LF) (st2 := []) (h2 := h) (sl2 := sl) (fun rec k => ?_) ?_
                      · show (match decide (nI N ≤ nI j) with | true => k (pc + 29) ((1, .int (nI j)) :: LF) [] h sl | false => k (pc + 7) ((1, .int (nI j)) :: LF) [] h sl) = _
                        rw [decide_eq_false (nI_ge (by omega) (by omega))]
                      refine zk_one hE r7 (pc2 := pc + 8) (L2 := (1, .int (nI j)) :: LF) (st2 := [.ref i]) (h2 := h) (sl2 := sl) (fun rec k => ?_) ?_
                      · show (match zx_ld LF 0 with | some (.ref x) => k (pc + 8) ((1, .int (nI j)) :: LF) [.ref x] h sl | some .null => k (pc + 8) ((1, .int (nI j)) :: LF) [.null] h sl | _ => none) = _
                        rw [hl0]
                      refine zk_one hE r8 (pc2 := pc + 11) (L2 := (1, .int (nI j)) :: LF) (st2 := [.ref r]) (h2 := h) (sl2 := sl) (fun rec k => ?_) ?_
                      · unfold zx_getf
                        dsimp only
                        rw [e3]
                        dsimp only
                        rw [e4]
                      refine zk_one hE r11 (fun rec k => rfl) ?_
                      refine zk_one hE r14 (fun rec k => rfl) ?_
                      refine zk_one hE r15 (pc2 := pc + 16) (L2 := (1, .int (nI j)) :: LF) (st2 := [.int (nI (N + j)), .ref r]) (h2 := h) (sl2 := sl) (fun rec k => ?_) ?_
                      · show k (pc + 16) ((1, .int (nI j)) :: LF) (zx_i (nI N + nI j) :: [.ref r]) h sl = _
                        rw [zx_i_eq, nI_add]
                      refine zk_one hE r16 (pc2 := pc + 17) (L2 := (1, .int (nI j)) :: LF) (st2 := [.ref i, .int (nI (N + j)), .ref r]) (h2 := h) (sl2 := sl) (fun rec k => ?_) ?_
                      · show (match zx_ld LF 0 with | some (.ref x) => k (pc + 17) ((1, .int (nI j)) :: LF) (.ref x :: [.int (nI (N + j)), .ref r]) h sl | some .null => k (pc + 17) ((1, .int (nI j)) :: LF) (.null :: [.int (nI (N + j)), .ref r]) h sl | _ => none) = _
                        rw [hl0]
                      refine zk_one hE r17 (pc2 := pc + 20) (L2 := (1, .int (nI j)) :: LF) (st2 := [.ref r, .int (nI (N + j)), .ref r]) (h2 := h) (sl2 := sl) (fun rec k => ?_) ?_
                      · unfold zx_getf
                        dsimp only
                        rw [e3]
                        dsimp only
                        rw [e4]
                      refine zk_one hE r20 (fun rec k => rfl) ?_
                      have hcl : ∀ q : Nat, q < 200000 → decide (0 ≤ nI q) = true := fun q hq => decide_eq_true (nI_pos' (by omega))
                      have hcn : ∀ q : Nat, q < 200000 → (nI q).toNatClampNeg = q := fun q hq => nI_clamp (by omega)
                      refine zk_one hE r21 (pc2 := pc + 22) (L2 := (1, .int (nI j)) :: LF) (st2 := [.int y, .int (nI (N + j)), .ref r]) (h2 := h) (sl2 := sl) (fun rec k => ?_) ?_
                      · unfold zx_aldO zx_or2 zx_tO
                        dsimp only
                        have hb : Nat.blt r K0 = false := by
                          cases hq : Nat.blt r K0 with
                          | false => rfl
                          | true => exact absurd (Nat.le_of_ble_eq_true hq) (by omega)
                        rw [hb]
                        dsimp only
                        unfold zx_aldN zx_or2 zx_tFR
                        dsimp only
                        unfold zx_ald
                        dsimp only
                        rw [hcl j (by omega)]
                        dsimp only
                        rw [e5]
                        dsimp only
                        rw [zx_fn_eq, hcn j (by omega)]
                        have hb2 : Nat.blt j n = true := Nat.ble_eq_true_of_le (by omega)
                        rw [hb2, hu, zx_rd_e]
                        rfl
                      refine zk_one hE r22 (pc2 := pc + 23) (L2 := (1, .int (nI j)) :: LF) (st2 := []) (h2 := zx_hs h r (.inr (ty, n, .int y, zx_s10 (.int y) u (N + j)))) (sl2 := sl) (fun rec k => ?_) ?_
                      · unfold zx_ast
                        dsimp only
                        have hb : Nat.ble K0 r = true := u3
                        rw [hb, hcl (N + j) (by omega)]
                        rw [Bool.and_self]
                        dsimp only
                        rw [e5]
                        dsimp only
                        rw [zx_fn_eq, hcn (N + j) (by omega)]
                        have hb2 : Nat.blt (N + j) n = true := Nat.ble_eq_true_of_le (by omega)
                        have hb3 : Nat.blt (N + j) 300000 = true := Nat.ble_eq_true_of_le (by omega)
                        rw [hb2, hb3]
                        rfl
                      refine zk_w (h := h) rfl (fun H hH => zk_weak hg hr4 hu (by omega) hH) ?_
                      refine zk_one hE r23 (pc2 := pc + 26) (L2 := (1, .int (nI (j + 1))) :: LF) (st2 := []) (h2 := h) (sl2 := sl) (fun rec k => ?_) ?_
                      · show zx_st false 1 ((1, .int (nI j)) :: LF) (fun L2 => k (pc + 26) ((1, zx_i (nI j + nI 1)) :: L2) [] h sl) = _
                        rw [zx_st_eq, zx_i_eq, nI_add, List.filter_cons_of_neg (by intro hq; have h9 : false = true := hq; cases h9), hff]
                      exact zk_one hE r26 (fun rec k => rfl) ihj
                  refine ⟨hend.1, hend.2.1, fun p e9 s m args below meth c C H locs ls CL cst hh hl g1 g2 g3 hk0 hs0 => ?_⟩
                  have hrl := (hh.2.2.2.1 r _ hg).1
                  have hr4 : r < 300000 := Nat.lt_of_lt_of_le hrl hh.2.1
                  have h7 := claim hr4 N 0 (by omega)
                  obtain ⟨w, hw1, hw2⟩ := zx_lv_mem g2 (zx_ld_mem e1)
                  cases hw2
                  refine h7.2.2 p e9 s m args below meth c C H locs ls ((1, .int (nI 0)) :: CL.filter (zx_cv false 1)) cst hh hl ⟨g1.1, g1.2.1, fun q hq => ?_⟩ ⟨⟨rfl, rfl⟩, by rw [← hLF]; exact zx_lv_filter false 1 g2⟩ g3 hk0 hs0
                  rcases List.mem_cons.mp hq with e | e
                  · rw [e]
                    exact g1.2.2 _ hw1
                  · exact g1.2.2 q (List.mem_filter.mp e).1
            · cases hr
      · cases hr
    · cases hr
  · cases hr
