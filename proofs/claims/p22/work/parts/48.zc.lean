/-! ===== new rows by what a word says: linear things of others; quotients and rests of places ===== -/
theorem zt_tv_ag {r r2 : Nat → Int} : ∀ {l : List zt_T}, (∀ t ∈ l, r t.1 = r2 t.1) → zt_tv r l = zt_tv r2 l
  | [], _ => rfl
  | q :: l, h => by
    show q.2 * r q.1 + zt_tv r l = q.2 * r2 q.1 + zt_tv r2 l
    rw [h q List.mem_cons_self, zt_tv_ag (fun t ht => h t (List.mem_cons_of_mem _ ht))]
theorem zt_ev_ag {r r2 : Nat → Int} {e : zt_E} (h : ∀ t ∈ e.2, r t.1 = r2 t.1) : zt_ev r e = zt_ev r2 e := by
  show e.1 + zt_tv r e.2 = e.1 + zt_tv r2 e.2
  rw [zt_tv_ag h]
noncomputable def zc_n1 (e : zt_E) : Bool := ze_all (fun t => Nat.beq t.1 0 || Nat.blt 1 t.1) e.2
theorem zc_n1_in {e : zt_E} (h : zc_n1 e = true) : ∀ t ∈ e.2, t.1 ≠ 1 := by
  intro t ht
  rcases Bool.or_eq_true_iff.mp (ze_all_in h t ht) with z | z
  · rw [Nat.eq_of_beq_eq_true z]
    decide
  · have : 1 < t.1 := Nat.le_of_ble_eq_true z
    omega
noncomputable def zc_i0 (q : Nat × zt_E) : Bool := Nat.blt 0 q.1 && zc_n1 q.2
theorem zc_go_ag {Rs Rs2 : Nat → Nat → Int} (hR : ∀ j, 0 < j → Rs j = Rs2 j) : ∀ {l : List (Nat × zt_E)} {n : Nat} {r r2 : Nat → Int}, ze_all zc_i0 l = true → 2 ≤ n → (∀ k, k ≠ 1 → r k = r2 k) → (∀ k, k ≠ 1 → zw_go Rs l n r k = zw_go Rs2 l n r2 k) ∧ zw_go Rs l n r 1 = r 1
  | [], n, r, r2, _, _, h => ⟨h, rfl⟩
  | q :: l, n, r, r2, ha, hn, h => by
    have h0 := ze_all_in ha q List.mem_cons_self
    unfold zc_i0 at h0
    simp only [Bool.and_eq_true] at h0
    have h1 : zt_ev r q.2 = zt_ev r2 q.2 := zt_ev_ag (fun t ht => h _ (zc_n1_in h0.2 t ht))
    have h2 : ze_all zc_i0 l = true := by
      rw [ze_all_c] at ha
      split at ha
      · exact ha
      · cases ha
    have ih := zc_go_ag (l := l) (n := n + 1) (r := fun k => if k = n then Rs q.1 (zt_ev r q.2).toNat else r k) (r2 := fun k => if k = n then Rs2 q.1 (zt_ev r2 q.2).toNat else r2 k) hR h2 (by omega) (fun k hk => by
      show (if k = n then Rs q.1 (zt_ev r q.2).toNat else r k) = (if k = n then Rs2 q.1 (zt_ev r2 q.2).toNat else r2 k)
      rw [h1, hR q.1 (Nat.le_of_ble_eq_true h0.1), h k hk])
    refine ⟨ih.1, ?_⟩
    have h3 : zw_go Rs (q :: l) n r 1 = (if 1 = n then Rs q.1 (zt_ev r q.2).toNat else r 1) := ih.2
    rw [h3, if_neg (by omega)]
noncomputable def zc_rl (WD : List zw_D) (w : Nat) (rows : List Nat) (a b : zt_E) (S : ze_S) : Option (List ze_S) := match zx_nth WD w with
  | none => none
  | some d => match d.2.1 with
    | q0 :: rest => (match d.2.2 with
      | [c1, c2] => (match c1 with
        | [f1] => (match c2 with
          | [f2] => (match Nat.beq d.1 0 && (Nat.beq q0.1 0 && (zt_eq q0.2 (zt_s 0) && (ze_all zc_i0 rest && (zc_n1 (zt_sub (zt_s 1) f1) && (zt_eq f2 (zt_sc (-1) f1) && (zt_ge S.1.2.2.2.2 a && (zt_ltb S.1.1 a.2 && (zt_ltb S.1.1 b.2 && ze_all (fun i => Nat.blt i S.2.1) rows)))))))) with
            | false => none
            | true => some [zc_ad [] [(w + 2, S.2.1 :: rows, [a, b])] (zc_nr S)])
          | _ => none)
        | _ => none)
      | _ => none)
    | _ => none
theorem zc_rl_in {WD : List zw_D} {T : zx_Tr zt_C} {K0 w : Nat} {rows : List Nat} {a b : zt_E} : ze_cov (zw_Z WD) T K0 (zc_rl WD w rows a b) := by
  intro S l r R L st h hk hg hA
  unfold zc_rl at hA
  split at hA
  · cases hA
  · next d e0 =>
    split at hA
    · next q0 rest e1 =>
      split at hA
      · next c1 c2 e2 =>
        split at hA
        · next f1 =>
          split at hA
          · next f2 =>
            split at hA
            · cases hA
            · next e3 =>
              cases hA
              simp only [Bool.and_eq_true] at e3
              obtain ⟨h1, h2, h3, h4, h5, h6, h7, h8, h9, h10⟩ := e3
              have hrow : ∀ i ∈ rows, i < S.2.1 := fun i hi => Nat.le_of_ble_eq_true (ze_all_in h10 i hi)
              have la := zt_ltb_in h8
              have lb := zt_ltb_in h9
              have ha := zt_ge_in hg.1.1 h7
              refine ⟨_, List.mem_cons_self, r, _, fun _ _ => rfl, fun i hi => if_neg (Nat.ne_of_lt hi), Nat.le_refl _, Nat.le_succ _, zc_ad_in (zc_nr_in (fun i => zt_ev (zw_go (zw_rw ((fun _ => 0) :: rows.map R)) rest 2 (fun k => if k = 0 then (i : Int) else 0)) (zt_sub (zt_s 1) f1)) hg) (fun f hf => absurd hf List.not_mem_nil) (fun p hp => ?_)⟩
              rw [List.mem_singleton.mp hp]
              refine ⟨?_, fun i hi => ?_, fun e he => ?_⟩
              · generalize hf : (fun i : Nat => zt_ev (zw_go (zw_rw ((fun _ => 0) :: rows.map R)) rest 2 (fun k => if k = 0 then (i : Int) else 0)) (zt_sub (zt_s 1) f1)) = f
                have hm : (S.2.1 :: rows).map (fun i => if i = S.2.1 then f else R i) = f :: rows.map R := by
                  rw [List.map_cons, if_pos rfl, ze_map_eq (g := R) (fun i hi => if_neg (Nat.ne_of_lt (hrow i hi)))]
                show (match WD[w]? with | some d => zw_all d ((S.2.1 :: rows).map (fun i => if i = S.2.1 then f else R i)) [zt_ev r a, zt_ev r b] | none => True)
                rw [hm]
                rw [zx_nth_eq] at e0
                rw [e0]
                intro i hi1 hi2
                have hi0 : ((i.toNat : Nat) : Int) = i := Int.toNat_of_nonneg (by omega)
                show zw_cl (zw_go (zw_rw (f :: rows.map R)) d.2.1 (d.1 + 1) (zw_e0 i [])) d.2.2
                rw [e1, e2, Nat.eq_of_beq_eq_true h1]
                have g0 : zw_go (zw_rw (f :: rows.map R)) (q0 :: rest) (0 + 1) (zw_e0 i []) = zw_go (zw_rw (f :: rows.map R)) rest 2 (fun k => if k = 1 then zw_rw (f :: rows.map R) q0.1 (zt_ev (zw_e0 i []) q0.2).toNat else zw_e0 i [] k) := rfl
                rw [g0, Nat.eq_of_beq_eq_true h2, zt_eq_in h3, zt_s_ev]
                have g1 : (fun k => if k = 1 then zw_rw (f :: rows.map R) 0 (zw_e0 i [] 0).toNat else zw_e0 i [] k) = (fun k => if k = 1 then f i.toNat else zw_e0 i [] k) := rfl
                rw [g1]
                have g2 := zc_go_ag (Rs := zw_rw (f :: rows.map R)) (Rs2 := zw_rw ((fun _ => 0) :: rows.map R)) (fun j hj => by
                  cases j with
                  | zero => exact absurd hj (Nat.lt_irrefl 0)
                  | succ j => rfl) (l := rest) (n := 2) (r := fun k => if k = 1 then f i.toNat else zw_e0 i [] k) (r2 := fun k => if k = 0 then ((i.toNat : Nat) : Int) else 0) h4 (Nat.le_refl _) (fun k hk => by
                  show (if k = 1 then f i.toNat else zw_e0 i [] k) = (if k = 0 then ((i.toNat : Nat) : Int) else 0)
                  rw [if_neg hk]
                  cases k with
                  | zero => rw [if_pos rfl, hi0]; rfl
                  | succ k => rw [if_neg (Nat.succ_ne_zero k)]; rfl)
                obtain ⟨g3, g4⟩ := g2
                generalize zw_go (zw_rw (f :: rows.map R)) rest 2 (fun k => if k = 1 then f i.toNat else zw_e0 i [] k) = E at g3 g4
                have g5 : E 1 = f i.toNat := g4
                have g6 : zt_ev E (zt_sub (zt_s 1) f1) = f i.toNat := by
                  rw [zt_ev_ag (r2 := zw_go (zw_rw ((fun _ => 0) :: rows.map R)) rest 2 (fun k => if k = 0 then ((i.toNat : Nat) : Int) else 0)) (fun t ht => g3 _ (zc_n1_in h5 t ht)), ← hf]
                rw [zt_sub_ev, zt_s_ev] at g6
                have g7 : zt_ev E f1 = 0 := by omega
                intro cl hcl
                rcases List.mem_cons.mp hcl with z | z
                · rw [z]
                  exact ⟨f1, List.mem_cons_self, by rw [g7]; exact Int.le_refl _⟩
                · rw [List.mem_singleton.mp z]
                  exact ⟨f2, List.mem_cons_self, by rw [zt_eq_in h6, zt_sc_ev, g7]; exact Int.le_refl _⟩
              · rcases List.mem_cons.mp hi with z | z
                · rw [z]
                  exact Nat.lt_succ_self _
                · exact Nat.lt_succ_of_lt (hrow i z)
              · rcases List.mem_cons.mp he with z | z
                · rw [z]
                  exact la
                · rw [List.mem_singleton.mp z]
                  exact lb
          · cases hA
        · cases hA
      · cases hA
    · cases hA
/-- places are m times what the first new row has, and what the second has -/
noncomputable def zc_dw (m : Nat) : zw_D := (0, [(0, (0, [(0, 1)])), (1, (0, [(0, 1)]))], [[(0, [(0, 1), (1, -(Int.ofNat m)), (2, -1)])], [(0, [(0, -1), (1, Int.ofNat m), (2, 1)])], [(0, [(2, 1)])], [(Int.ofNat m - 1, [(2, -1)])], [(0, [(1, 1)])]])
noncomputable def zc_ceq : List (List zt_E) → List (List zt_E) → Bool
  | [], [] => true
  | a :: l, b :: m => zw_es a b && zc_ceq l m
  | _, _ => false
theorem zc_ceq_in : ∀ {l m : List (List zt_E)}, zc_ceq l m = true → l = m
  | [], [], _ => rfl
  | [], _ :: _, h => nomatch h
  | _ :: _, [], h => nomatch h
  | a :: l, b :: m, h => by
    unfold zc_ceq at h
    simp only [Bool.and_eq_true] at h
    rw [zw_es_in h.1, zc_ceq_in h.2]
noncomputable def zc_req : List (Nat × zt_E) → List (Nat × zt_E) → Bool
  | [], [] => true
  | a :: l, b :: m => Nat.beq a.1 b.1 && (zt_eq a.2 b.2 && zc_req l m)
  | _, _ => false
theorem zc_req_in : ∀ {l m : List (Nat × zt_E)}, zc_req l m = true → l = m
  | [], [], _ => rfl
  | [], _ :: _, h => nomatch h
  | _ :: _, [], h => nomatch h
  | a :: l, b :: m, h => by
    unfold zc_req at h
    simp only [Bool.and_eq_true] at h
    obtain ⟨a1, a2⟩ := a
    obtain ⟨b1, b2⟩ := b
    obtain ⟨h1, h2, h3⟩ := h
    rw [zc_req_in h3, show a1 = b1 from Nat.eq_of_beq_eq_true h1, show a2 = b2 from zt_eq_in h2]
noncomputable def zc_deq (d d2 : zw_D) : Bool := Nat.beq d.1 d2.1 && (zc_req d.2.1 d2.2.1 && zc_ceq d.2.2 d2.2.2)
theorem zc_deq_in {d d2 : zw_D} (h : zc_deq d d2 = true) : d = d2 := by
  unfold zc_deq at h
  simp only [Bool.and_eq_true] at h
  obtain ⟨a, b, c⟩ := d
  obtain ⟨a2, b2, c2⟩ := d2
  obtain ⟨h1, h2, h3⟩ := h
  rw [show a = a2 from Nat.eq_of_beq_eq_true h1, show b = b2 from zc_req_in h2, show c = c2 from zc_ceq_in h3]
noncomputable def zc_dq (WD : List zw_D) (w m : Nat) (a b : zt_E) (S : ze_S) : Option (List ze_S) := match zx_nth WD w with
  | none => none
  | some d => match zc_deq d (zc_dw m) && (Nat.blt 0 m && (zt_ge S.1.2.2.2.2 a && (zt_ltb S.1.1 a.2 && zt_ltb S.1.1 b.2))) with
    | false => none
    | true => some [zc_ad [] [(w + 2, [S.2.1, S.2.1 + 1], [a, b])] (zc_nr (zc_nr S))]
theorem zc_dq_in {WD : List zw_D} {T : zx_Tr zt_C} {K0 w m : Nat} {a b : zt_E} : ze_cov (zw_Z WD) T K0 (zc_dq WD w m a b) := by
  intro S l r R L st h hk hg hA
  unfold zc_dq at hA
  split at hA
  · cases hA
  · next d e0 =>
    split at hA
    · cases hA
    · next e3 =>
      cases hA
      simp only [Bool.and_eq_true] at e3
      obtain ⟨h1, h2, h3, h4, h5⟩ := e3
      have hd : d = zc_dw m := zc_deq_in h1
      have hm : 0 < m := Nat.le_of_ble_eq_true h2
      have ha := zt_ge_in hg.1.1 h3
      have la := zt_ltb_in h4
      have lb := zt_ltb_in h5
      refine ⟨_, List.mem_cons_self, r, _, fun _ _ => rfl, fun i hi => ?_, Nat.le_refl _, Nat.le_trans (Nat.le_succ _) (Nat.le_succ _), zc_ad_in (zc_nr_in (fun i => (i : Int) % Int.ofNat m) (zc_nr_in (fun i => (i : Int) / Int.ofNat m) hg)) (fun f hf => absurd hf List.not_mem_nil) (fun p hp => ?_)⟩
      · show (if i = S.2.1 + 1 then _ else if i = S.2.1 then _ else R i) = R i
        rw [if_neg (by omega), if_neg (by omega)]
      · rw [List.mem_singleton.mp hp]
        refine ⟨?_, fun i hi => ?_, fun e he => ?_⟩
        · show (match WD[w]? with | some d => zw_all d [(if S.2.1 = S.2.1 + 1 then (fun i : Nat => (i : Int) % Int.ofNat m) else if S.2.1 = S.2.1 then (fun i : Nat => (i : Int) / Int.ofNat m) else R S.2.1), (if S.2.1 + 1 = S.2.1 + 1 then (fun i : Nat => (i : Int) % Int.ofNat m) else if S.2.1 + 1 = S.2.1 then (fun i : Nat => (i : Int) / Int.ofNat m) else R (S.2.1 + 1))] [zt_ev r a, zt_ev r b] | none => True)
          rw [if_neg (by omega), if_pos rfl, if_pos rfl]
          rw [zx_nth_eq] at e0
          rw [e0, hd]
          intro i hi1 hi2
          have hi0 : ((i.toNat : Nat) : Int) = i := Int.toNat_of_nonneg (by omega)
          have hm2 : (0 : Int) < Int.ofNat m := Int.ofNat_lt.mpr hm
          have q1 := Int.mul_ediv_add_emod i (Int.ofNat m)
          have q2 := Int.emod_nonneg i (Int.ne_of_gt hm2)
          have q3 := Int.emod_lt_of_pos i hm2
          have q4 : 0 ≤ i / Int.ofNat m := Int.ediv_nonneg (by omega) (Int.le_of_lt hm2)
          show zw_cl (zw_go (zw_rw [(fun i : Nat => (i : Int) / Int.ofNat m), (fun i : Nat => (i : Int) % Int.ofNat m)]) (zc_dw m).2.1 1 (zw_e0 i [])) (zc_dw m).2.2
          generalize hE : zw_go (zw_rw [(fun i : Nat => (i : Int) / Int.ofNat m), (fun i : Nat => (i : Int) % Int.ofNat m)]) (zc_dw m).2.1 1 (zw_e0 i []) = E
          have hs : ∀ r0 : Nat → Int, zt_ev r0 (0, [(0, 1)]) = r0 0 := fun r0 => by
            show (0 : Int) + (1 * r0 0 + 0) = r0 0
            omega
          have E0 : E 0 = i := by rw [← hE]; rfl
          have E1 : E 1 = i / Int.ofNat m := by
            rw [← hE]
            show ((zt_ev (zw_e0 i []) (0, [(0, 1)])).toNat : Int) / Int.ofNat m = i / Int.ofNat m
            rw [hs]
            show ((i.toNat : Nat) : Int) / Int.ofNat m = _
            rw [hi0]
          have E2 : E 2 = i % Int.ofNat m := by
            rw [← hE]
            show ((zt_ev (fun k => if k = 1 then zw_rw [(fun i : Nat => (i : Int) / Int.ofNat m), (fun i : Nat => (i : Int) % Int.ofNat m)] 0 (zt_ev (zw_e0 i []) (0, [(0, 1)])).toNat else zw_e0 i [] k) (0, [(0, 1)])).toNat : Int) % Int.ofNat m = i % Int.ofNat m
            rw [hs]
            show ((i.toNat : Nat) : Int) % Int.ofNat m = _
            rw [hi0]
          intro cl hcl
          rcases List.mem_cons.mp hcl with z | hcl
          · rw [z]
            refine ⟨_, List.mem_cons_self, ?_⟩
            show (0 : Int) ≤ 0 + (1 * E 0 + (-(Int.ofNat m) * E 1 + (-1 * E 2 + 0)))
            rw [E0, E1, E2, Int.neg_mul]
            omega
          · rcases List.mem_cons.mp hcl with z | hcl
            · rw [z]
              refine ⟨_, List.mem_cons_self, ?_⟩
              show (0 : Int) ≤ 0 + (-1 * E 0 + (Int.ofNat m * E 1 + (1 * E 2 + 0)))
              rw [E0, E1, E2]
              omega
            · rcases List.mem_cons.mp hcl with z | hcl
              · rw [z]
                refine ⟨_, List.mem_cons_self, ?_⟩
                show (0 : Int) ≤ 0 + (1 * E 2 + 0)
                rw [E2]
                omega
              · rcases List.mem_cons.mp hcl with z | hcl
                · rw [z]
                  refine ⟨_, List.mem_cons_self, ?_⟩
                  show (0 : Int) ≤ Int.ofNat m - 1 + (-1 * E 2 + 0)
                  rw [E2]
                  omega
                · rw [List.mem_singleton.mp hcl]
                  refine ⟨_, List.mem_cons_self, ?_⟩
                  show (0 : Int) ≤ 0 + (1 * E 1 + 0)
                  rw [E1]
                  omega
        · rcases List.mem_cons.mp hi with z | z
          · rw [z]
            exact Nat.lt_succ_of_lt (Nat.lt_succ_self _)
          · rw [List.mem_singleton.mp z]
            exact Nat.lt_succ_self _
        · rcases List.mem_cons.mp he with z | z
          · rw [z]
            exact la
          · rw [List.mem_singleton.mp z]
            exact lb
noncomputable def zc_b5 (T : zx_Tr zt_C) (WD : List zw_D) (j : ze_J) : ze_S → Option (List ze_S) := match j with
  | (25, w :: rows, a :: b :: _, _) => zc_rl WD w rows a b
  | (26, w :: m :: _, a :: b :: _, _) => zc_dq WD w m a b
  | j => zc_b4 T WD j
theorem zc_b5_in {WD : List zw_D} {T : zx_Tr zt_C} {K0 : Nat} (j : ze_J) : ze_cov (zw_Z WD) T K0 (zc_b5 T WD j) := by
  unfold zc_b5
  split
  · exact zc_rl_in
  · exact zc_dq_in
  · exact zc_b4_in _
noncomputable def zc_G5 (T : zx_Tr zt_C) (WD : List zw_D) : ze_W := fun j s S => match j with
  | (20, w :: _, _, p :: _) => zc_au WD (zc_b5 T WD) w p.2.1 p.2.2 s S
  | j => match zc_b5 T WD j S with
    | none => none
    | some l => some (l, s)
theorem zc_G5_in {WD : List zw_D} {T : zx_Tr zt_C} {K0 : Nat} : ze_gc (zw_Z WD) T K0 (zc_G5 T WD) := by
  intro j s S l s2 r R L st h hk hg hA
  unfold zc_G5 at hA
  split at hA
  · exact zc_au_in (fun j => zc_b5_in j) hk hg hA
  · split at hA
    · cases hA
    · next l2 e1 =>
      cases hA
      exact zc_b5_in _ S l r R L st h hk hg e1
