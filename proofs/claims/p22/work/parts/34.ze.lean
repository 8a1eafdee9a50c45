/-! ===== what such a run says ===== -/
theorem ze_res_eq {Fo : zx_M → zx_Tr zr_E → Nat → Option zx_F} {Q : List (zx_M × zx_Tr zr_E)} {Z : ze_Z} {T : zx_Tr zt_C} {K0 d : Nat} {M : zx_M × zx_Tr zr_E} {k0 kr : Nat} {ps : List ze_S} {md : List (Nat × Nat)} {r r2 : Nat → Int} {R R2 : Nat → Nat → Int} {pc : Nat} {L : zx_L} {st : List Value} {h : zx_H} {sl : Nat} (hr : ∀ i, i < k0 → r2 i = r i) (hR : ∀ i, i < kr → R2 i = R i) (hs : ze_res Fo Q Z T K0 d M k0 kr ps md r2 R2 pc L st h sl) : ze_res Fo Q Z T K0 d M k0 kr ps md r R pc L st h sl := by
  obtain ⟨f0, v, h2, h1, h3, h4, p, h5, r3, R3, h6, h7, h8⟩ := hs
  exact ⟨f0, v, h2, h1, h3, h4, p, h5, r3, R3, fun i hi => (h6 i hi).trans (hr i hi), fun i hi => (h7 i hi).trans (hR i hi), h8⟩
/-- on by a step -/
theorem ze_res_go {Fo : zx_M → zx_Tr zr_E → Nat → Option zx_F} {Q : List (zx_M × zx_Tr zr_E)} {Z : ze_Z} {T : zx_Tr zt_C} {K0 d : Nat} {M : zx_M × zx_Tr zr_E} {k0 kr : Nat} {ps : List ze_S} {md : List (Nat × Nat)} {r r2 : Nat → Int} {R R2 : Nat → Nat → Int} {pc pc2 : Nat} {L L2 : zx_L} {st st2 : List Value} {h h2 : zx_H} {sl : Nat} {f1 : Nat} (hgo : ∀ f, f1 ≤ f → zr_run Fo Q (f + 1) d M pc L st h sl = zr_run Fo Q f d M pc2 L2 st2 h2 sl) (hf : zt_fr md h h2) (hr : ∀ i, i < k0 → r2 i = r i) (hR : ∀ i, i < kr → R2 i = R i) (hs : ze_res Fo Q Z T K0 d M k0 kr ps md r2 R2 pc2 L2 st2 h2 sl) : ze_res Fo Q Z T K0 d M k0 kr ps md r R pc L st h sl := by
  obtain ⟨f0, v, h3, h1, h4, h5, p, h6, r3, R3, h7, h8, h9⟩ := hs
  refine ⟨max f0 f1 + 1, v, h3, fun f hf2 => ?_, h4, zt_fr_trans hf h5, p, h6, r3, R3, fun i hi => (h7 i hi).trans (hr i hi), fun i hi => (h8 i hi).trans (hR i hi), h9⟩
  cases f with
  | zero => exact absurd hf2 (Nat.not_succ_le_zero _)
  | succ f =>
    have hf3 : max f0 f1 ≤ f := Nat.le_of_succ_le_succ hf2
    rw [hgo f (Nat.le_trans (Nat.le_max_right _ _) hf3)]
    exact h1 f (Nat.le_trans (Nat.le_max_left _ _) hf3)
theorem ze_mu_su {r : Nat → Int} {su : Nat → zt_E} {l : List zt_E} : ze_mu r (l.map (zt_su su)) = ze_mu (fun i => zt_ev r (su i)) l := by
  show (l.map (zt_su su)).map _ = l.map _
  rw [List.map_map]
  exact ze_map_eq (fun e _ => by show (zt_ev r (zt_su su e)).toNat = _; rw [zt_su_ev])
theorem ze_mu_eq {r r2 : Nat → Int} {n : Nat} (hr : ∀ i, i < n → r2 i = r i) {l : List zt_E} (hl : ∀ e ∈ l, zt_lt n e) : ze_mu r2 l = ze_mu r l := ze_map_eq (fun e he => by rw [zt_ev_eq hr (hl e he)])
theorem ze_ex_in {Fo : zx_M → zx_Tr zr_E → Nat → Option zx_F} {Q : List (zx_M × zx_Tr zr_E)} {Z : ze_Z} (hZ : ze_Zk Z) {T : zx_Tr zt_C} {K0 d : Nat} {M : zx_M × zx_Tr zr_E} {Us : List ze_U} (hU : ∀ u ∈ Us, ze_uok Z u) {KS : zx_Tr ze_K} {top dp : Nat} {C : ze_Q} {k0 kr n0 : Nat} {ps : List ze_S} {md : List (Nat × Nat)} {rk : Option (List zt_E)} {r0 : Nat → Int}
    (hF : ∀ pc o, C.1 pc = some o → ∃ g, Fo M.1 M.2 pc = some g ∧ ze_osp Z T K0 md g o)
    (hKS : ∀ i c, i < top → zx_g10 KS i = some c → ze_kt Fo Q Z T K0 c) (hd : dp ≤ d)
    (hcut : ∀ pc ts t, ze_fd pc C.2.1 = some ts → t ∈ ts → ze_wfb t.1 = true) (hps : ∀ p ∈ ps, ze_wfb p = true) (hk0 : k0 ≤ n0) (hrk : ∀ m, rk = some m → ∀ e ∈ m, zt_lt n0 e)
    (hrec : ∀ pc ts t, ze_fd pc C.2.1 = some ts → t ∈ ts → ∀ (r : Nat → Int) (R : Nat → Nat → Int) (L : zx_L) (st : List Value) (h : zx_H) (sl : Nat), zt_hk T K0 h → ze_g Z r R t.1 L st h → (∀ m, rk = some m → ze_lx (ze_mu r t.2) (ze_mu r0 m)) → ze_res Fo Q Z T K0 d M k0 kr ps md r R pc L st h sl) :
    ∀ (f : Nat) (first : Bool) (pc : Nat) (S : ze_S) (r : Nat → Int) (R : Nat → Nat → Int) (L : zx_L) (st : List Value) (h : zx_H) (sl : Nat), ze_ex T Us KS top dp C k0 kr ps md rk f first pc S = true → zt_hk T K0 h → ze_g Z r R S L st h → (∀ i, i < n0 → r i = r0 i) → n0 ≤ S.1.1 → kr ≤ S.2.1 → ze_res Fo Q Z T K0 d M k0 kr ps md r R pc L st h sl := by
  intro f
  induction f with
  | zero => intro first pc S r R L st h sl hx; cases hx
  | succ f ih =>
    intro first pc S r R L st h sl hx hk hg hr0 hn hkr
    unfold ze_ex at hx
    split at hx
    · next ts e1 =>
      have e2 : ze_fd pc C.2.1 = some ts := by
        cases first with
        | true => cases e1
        | false => exact e1
      obtain ⟨t, h1, h2⟩ := ze_any_in hx
      obtain ⟨S2, h3, r2, R2, h4, h5, h6, h7, h8⟩ := ze_gl_in hZ hU (n := S.1.1) (m := S.2.1) (r0 := r) (R0 := R) hk (ze_pc t.1) [S] ⟨S, List.mem_cons_self, r, R, fun _ _ => rfl, fun _ _ => rfl, Nat.le_refl _, Nat.le_refl _, hg⟩
      have h9 := ze_all_in h2 S2 h3
      unfold ze_ct at h9
      split at h9
      · cases h9
      · next sr e3 =>
        obtain ⟨sg, rg⟩ := sr
        obtain ⟨w1, w2⟩ := ze_wfb_in (hcut pc ts t e2 h1)
        have hm := ze_mt_in w1 w2 h8 e3
        refine ze_res_eq (r2 := fun i => zt_ev r2 (zt_sl k0 sg i)) (R2 := fun q => R2 (ze_rl kr rg q)) (fun i hi => ?_) (fun i hi => ?_) (hrec pc ts t e2 h1 _ _ L st h sl hk hm (fun m em => ?_))
        · show zt_ev r2 (zt_sl k0 sg i) = r i
          rw [ze_sl_lo hi]
          exact h4 i (Nat.lt_of_lt_of_le (Nat.lt_of_lt_of_le hi hk0) hn)
        · show R2 (ze_rl kr rg i) = R i
          rw [ze_rl_lo hi]
          exact h5 i (Nat.lt_of_lt_of_le hi hkr)
        · subst em
          have y1 := ze_de_in h8.1.1 h9
          rw [ze_mu_su] at y1
          have y2 : ze_mu r2 m = ze_mu r0 m := ze_mu_eq (n := n0) (fun i hi => (h4 i (Nat.lt_of_lt_of_le hi hn)).trans (hr0 i hi)) (hrk m rfl)
          rw [y2] at y1
          exact y1
    · split at hx
      · cases hx
      · next o e2 =>
        obtain ⟨S1, h3, r2, R2, h4, h5, h6, h7, h8⟩ : ∃ S1 ∈ (match ze_fd pc C.2.2.1 with | none => [S] | some gs => ze_gl T Us gs [S]), ∃ (r2 : Nat → Int) (R2 : Nat → Nat → Int), (∀ i, i < S.1.1 → r2 i = r i) ∧ (∀ i, i < S.2.1 → R2 i = R i) ∧ S.1.1 ≤ S1.1.1 ∧ S.2.1 ≤ S1.2.1 ∧ ze_g Z r2 R2 S1 L st h := by
          cases eg : ze_fd pc C.2.2.1 with
          | none => exact ⟨S, List.mem_cons_self, r, R, fun _ _ => rfl, fun _ _ => rfl, Nat.le_refl _, Nat.le_refl _, hg⟩
          | some gs => exact ze_gl_in hZ hU hk gs [S] ⟨S, List.mem_cons_self, r, R, fun _ _ => rfl, fun _ _ => rfl, Nat.le_refl _, Nat.le_refl _, hg⟩
        have h9 := ze_all_in hx S1 h3
        have hr2 : ∀ i, i < n0 → r2 i = r0 i := fun i hi => (h4 i (Nat.lt_of_lt_of_le hi hn)).trans (hr0 i hi)
        have hn1 : n0 ≤ S1.1.1 := Nat.le_trans hn h6
        have hkr1 : kr ≤ S1.2.1 := Nat.le_trans hkr h7
        have hrk0 : ∀ i, i < k0 → r2 i = r i := fun i hi => h4 i (Nat.lt_of_lt_of_le (Nat.lt_of_lt_of_le hi hk0) hn)
        have hRk0 : ∀ i, i < kr → R2 i = R i := fun i hi => h5 i (Nat.lt_of_lt_of_le hi hkr)
        obtain ⟨g, e3, e4⟩ := hF pc o e2
        match o, e4, h9 with
        | .inl A, e4, h9 =>
          dsimp only at h9
          split at h9
          · cases h9
          · next l e5 =>
            obtain ⟨q, k1, r3, R3, L2, st2, h2, k2, k3, k4, k5, k6, k7, k8, k9⟩ := e4 S1 l r2 R2 L st h hk h8 e5
            have k10 := ze_all_in h9 q k1
            refine ze_res_go (f1 := 0) (fun f2 _ => ?_) k9 (fun i hi => (k3 i (Nat.lt_of_lt_of_le (Nat.lt_of_lt_of_le hi hk0) hn1)).trans (hrk0 i hi)) (fun i hi => (k4 i (Nat.lt_of_lt_of_le hi hkr1)).trans (hRk0 i hi)) (ih false q.1 q.2 r3 R3 L2 st2 h2 sl k10 k8 k7 (fun i hi => (k3 i (Nat.lt_of_lt_of_le hi hn1)).trans (hr2 i hi)) (Nat.le_trans hn1 k5) (Nat.le_trans hkr1 k6))
            show (match Fo M.1 M.2 pc with | none => none | some F => F _ L st h sl (fun pc2 L2 st2 h2 s2 => zr_run Fo Q f2 d M pc2 L2 st2 h2 s2)) = _
            rw [e3]
            exact k2 _ _ _
        | .inr (.inl c), e4, h9 =>
          obtain ⟨ok, rfl, hok⟩ := e4
          dsimp only at h9
          split at h9
          · cases h9
          · next ids e5 =>
            obtain ⟨i, -, h10⟩ := ze_any_in h9
            split at h10
            · cases h10
            · next K e6 =>
              simp only [Bool.and_eq_true] at h10
              obtain ⟨j1, j2, j3, j4, j5⟩ := h10
              split at j5
              · cases j5
              · next l e7 =>
                have hK := hKS i K (Nat.le_of_ble_eq_true j1) e6
                have hdp : K.2.1 < d := Nat.lt_of_lt_of_le (Nat.le_of_ble_eq_true j2) hd
                obtain ⟨S2, h3b, r3, R3, h4b, h5b, h6b, h7b, h8b⟩ := ze_gl_in hZ hU (n := S1.1.1) (m := S1.2.1) (r0 := r2) (R0 := R2) hk (ze_pc K.2.2.1) [S1] ⟨S1, List.mem_cons_self, r2, R2, fun _ _ => rfl, fun _ _ => rfl, Nat.le_refl _, Nat.le_refl _, h8⟩
                obtain ⟨a, m1, m2⟩ := ze_cl_in e7 h3b
                cases d with
                | zero => exact absurd hdp (Nat.not_lt_zero _)
                | succ d2 =>
                  obtain ⟨q, q1, q2, r4, R4, st2, h2, f1, q3, q4, q5, q6, q7, q8, q9, q10⟩ := ze_ca_in sl hK j4 (Nat.le_of_lt_succ hdp) hok hk h8b m1
                  have k10 := ze_all_in j5 q (m2 q q1)
                  have a1 : ∀ i, i < S1.1.1 → r4 i = r2 i := fun i hi => (q4 i (Nat.lt_of_lt_of_le hi h6b)).trans (h4b i hi)
                  have a2 : ∀ i, i < S1.2.1 → R4 i = R2 i := fun i hi => (q5 i (Nat.lt_of_lt_of_le hi h7b)).trans (h5b i hi)
                  refine ze_res_go (f1 := f1) (fun f2 hf2 => ?_) q10 (fun i hi => (a1 i (Nat.lt_of_lt_of_le (Nat.lt_of_lt_of_le hi hk0) hn1)).trans (hrk0 i hi)) (fun i hi => (a2 i (Nat.lt_of_lt_of_le hi hkr1)).trans (hRk0 i hi)) (ih false q.1 q.2 r4 R4 L st2 h2 sl k10 q9 q8 (fun i hi => (a1 i (Nat.lt_of_lt_of_le hi hn1)).trans (hr2 i hi)) (Nat.le_trans hn1 (Nat.le_trans h6b q6)) (Nat.le_trans hkr1 (Nat.le_trans h7b q7)))
                  show (match Fo M.1 M.2 pc with | none => none | some F => F _ L st h sl (fun pc2 L2 st2 h2 s2 => zr_run Fo Q f2 (d2 + 1) M pc2 L2 st2 h2 s2)) = _
                  rw [e3, q2]
                  have q11 := q3 f2 (fun pc2 L2 st2 h2 s2 => zr_run Fo Q f2 (d2 + 1) M pc2 L2 st2 h2 s2) hf2
                  rw [show K.1 = c.1 from Nat.eq_of_beq_eq_true j3] at q11
                  exact q11
        | .inr (.inr rc), e4, h9 =>
          dsimp only at h9
          simp only [Bool.and_eq_true] at h9
          obtain ⟨j1, j2⟩ := h9
          obtain ⟨v, rfl, e6⟩ := e4 r2 S1.1 L st h h8.1 j1
          obtain ⟨p, p1, p2⟩ := ze_any_in j2
          have h8n : ze_g Z r2 R2 (ze_nl S1) [] v.toList h := ⟨⟨h8.1.1, (fun q hq => absurd hq List.not_mem_nil), h8.1.2.2.1, h8.1.2.2.2.1, (fun q hq => absurd hq List.not_mem_nil), h8.1.2.2.2.2.2⟩, h8.2⟩
          obtain ⟨S2, h3b, r3, R3, h4b, h5b, h6b, h7b, h8b⟩ := ze_gl_in hZ hU (n := S1.1.1) (m := S1.2.1) (r0 := r2) (R0 := R2) hk (ze_pc p) [ze_nl S1] ⟨ze_nl S1, List.mem_cons_self, r2, R2, fun _ _ => rfl, fun _ _ => rfl, Nat.le_refl _, Nat.le_refl _, h8n⟩
          have p3 := ze_all_in p2 S2 h3b
          split at p3
          · cases p3
          · next sr e7 =>
            obtain ⟨sg, rg⟩ := sr
            obtain ⟨w1, w2⟩ := ze_wfb_in (hps p p1)
            have hm := ze_mt_in w1 w2 h8b e7
            refine ⟨1, v, h, fun f2 hf2 => ?_, hk, zt_fr_refl, p, p1, _, _, fun i hi => ?_, fun i hi => ?_, hm⟩
            · cases f2 with
              | zero => exact absurd hf2 (Nat.not_succ_le_zero _)
              | succ f2 =>
                show (match Fo M.1 M.2 pc with | none => none | some F => F _ L v.toList h sl (fun pc2 L2 st2 h2 s2 => zr_run Fo Q f2 d M pc2 L2 st2 h2 s2)) = _
                rw [e3]
                exact e6 _ _ _
            · show zt_ev r3 (zt_sl k0 sg i) = r i
              rw [ze_sl_lo hi]
              exact (h4b i (Nat.lt_of_lt_of_le (Nat.lt_of_lt_of_le hi hk0) hn1)).trans (hrk0 i hi)
            · show R3 (ze_rl kr rg i) = R i
              rw [ze_rl_lo hi]
              exact (h5b i (Nat.lt_of_lt_of_le hi hkr1)).trans (hRk0 i hi)
/-- a contract looked through: its start, and its cuts -/
noncomputable def ze_ok (T : zx_Tr zt_C) (Us : List ze_U) (KS : zx_Tr ze_K) (top : Nat) (C : ze_Q) (c : ze_K) (fu : Nat) : Bool := ze_wfb c.2.2.1 && (ze_all ze_wfb c.2.2.2.1 && (ze_ex T Us KS top c.2.1 C c.2.2.1.1.1 c.2.2.1.2.1 c.2.2.2.1 c.2.2.2.2 none fu false 0 (ze_ke c) && ze_all (fun q => ze_all (fun t => ze_wfb t.1 && (ze_all (fun e => zt_ltb t.1.1.1 e.2) t.2 && (Nat.ble c.2.2.1.1.1 t.1.1.1 && (Nat.ble c.2.2.1.2.1 t.1.2.1 && ze_ex T Us KS top c.2.1 C c.2.2.1.1.1 c.2.2.1.2.1 c.2.2.2.1 c.2.2.2.2 (some t.2) fu true q.1 t.1)))) q.2) C.2.1))
theorem ze_ok_in {Fo : zx_M → zx_Tr zr_E → Nat → Option zx_F} {Q : List (zx_M × zx_Tr zr_E)} {Z : ze_Z} (hZ : ze_Zk Z) {T : zx_Tr zt_C} {K0 : Nat} {M : zx_M × zx_Tr zr_E} {Us : List ze_U} (hU : ∀ u ∈ Us, ze_uok Z u) {KS : zx_Tr ze_K} {top fu : Nat} {C : ze_Q} {c : ze_K}
    (hF : ∀ pc o, C.1 pc = some o → ∃ g, Fo M.1 M.2 pc = some g ∧ ze_osp Z T K0 c.2.2.2.2 g o)
    (hKS : ∀ i c, i < top → zx_g10 KS i = some c → ze_kt Fo Q Z T K0 c) (hM : zx_nth Q c.1 = some M) (hcat : Nat.ble (zt_cats c.2.2.1.1.2.2.1) M.1.2.2.1 = true) (hc : ze_ok T Us KS top C c fu = true) : ze_kt Fo Q Z T K0 c := by
  unfold ze_ok at hc
  simp only [Bool.and_eq_true] at hc
  obtain ⟨c1, c2, c3, c4⟩ := hc
  obtain ⟨w1, w2⟩ := ze_wfb_in c1
  have cut : ∀ pc ts t, ze_fd pc C.2.1 = some ts → t ∈ ts → ze_wfb t.1 = true ∧ (∀ e ∈ t.2, zt_lt t.1.1.1 e) ∧ c.2.2.1.1.1 ≤ t.1.1.1 ∧ c.2.2.1.2.1 ≤ t.1.2.1 ∧ ze_ex T Us KS top c.2.1 C c.2.2.1.1.1 c.2.2.1.2.1 c.2.2.2.1 c.2.2.2.2 (some t.2) fu true pc t.1 = true := by
    intro pc ts t e1 e2
    have h1 := ze_all_in (ze_all_in c4 _ (ze_fd_in e1)) t e2
    simp only [Bool.and_eq_true] at h1
    obtain ⟨h1, h2, h3, h4, h5⟩ := h1
    exact ⟨h1, fun e he => zt_ltb_in (ze_all_in h2 e he), Nat.le_of_ble_eq_true h3, Nat.le_of_ble_eq_true h4, h5⟩
  have hps : ∀ p ∈ c.2.2.2.1, ze_wfb p = true := fun p hp => ze_all_in c2 p hp
  intro d hd as h sl r R hk hg
  have all : ∀ m : List Nat, ∀ pc ts t, ze_fd pc C.2.1 = some ts → t ∈ ts → ∀ (r : Nat → Int) (R : Nat → Nat → Int) (L : zx_L) (st : List Value) (h : zx_H) (sl : Nat), ze_mu r t.2 = m → zt_hk T K0 h → ze_g Z r R t.1 L st h → ze_res Fo Q Z T K0 d M c.2.2.1.1.1 c.2.2.1.2.1 c.2.2.2.1 c.2.2.2.2 r R pc L st h sl := by
    intro m
    induction ze_lx_acc m.length m rfl with
    | intro m _ ih =>
      intro pc ts t e1 e2 r R L st h sl em hk hg
      obtain ⟨h1, h2, h3, h4, h5⟩ := cut pc ts t e1 e2
      refine ze_ex_in (n0 := t.1.1.1) (r0 := r) hZ hU hF hKS hd (fun pc ts t e1 e2 => (cut pc ts t e1 e2).1) hps h3 (fun m em => by cases em; exact h2) (fun pc2 ts2 t2 e3 e4 r2 R2 L2 st2 h6 sl2 hk2 hg2 hlt => ?_) fu true pc t.1 r R L st h sl h5 hk hg (fun _ _ => rfl) (Nat.le_refl _) h4
      have := hlt _ rfl
      rw [em] at this
      exact ih _ this pc2 ts2 t2 e3 e4 r2 R2 L2 st2 h6 sl2 rfl hk2 hg2
  have hg2 : ze_g Z r R (ze_ke c) (lv_args 0 as) [] h := by
    obtain ⟨⟨g1, g2, g3, g4, g5, g6, g7, g8⟩, g9⟩ := hg
    refine ⟨⟨g1, zt_la_in g3, trivial, g4, fun q hq => ?_, (fun q hq => absurd hq List.not_mem_nil), g7, g8⟩, g9⟩
    have : ∀ (l : List zt_V) (i : Nat), (∀ b ∈ l, zt_lt c.2.2.1.1.1 b.2.1) → ∀ q ∈ zt_la i l, zt_lt c.2.2.1.1.1 q.2.2.1 := by
      intro l
      induction l with
      | nil => intro i _ q hq; cases hq
      | cons a l ih =>
        intro i hl q hq
        rcases List.mem_cons.mp hq with z | z
        · rw [z]
          exact hl a List.mem_cons_self
        · exact ih _ (fun b hb => hl b (List.mem_cons_of_mem _ hb)) q z
    exact this _ 0 g6 q hq
  have hres := ze_ex_in (n0 := c.2.2.1.1.1) (r0 := r) (rk := none) hZ hU hF hKS hd (fun pc ts t e1 e2 => (cut pc ts t e1 e2).1) hps (Nat.le_refl _) (fun m em => nomatch em) (fun pc2 ts2 t2 e3 e4 r2 R2 L2 st2 h6 sl2 hk2 hg3 _ => all _ pc2 ts2 t2 e3 e4 r2 R2 L2 st2 h6 sl2 rfl hk2 hg3) fu false 0 (ze_ke c) r R (lv_args 0 as) [] h sl c3 hk hg2 (fun _ _ => rfl) (Nat.le_refl _) (Nat.le_refl _)
  obtain ⟨f0, v, h2, h1, h3, h4, p, h5, r2, R2, h6, h7, h8⟩ := hres
  refine ⟨f0, v, h2, fun f hf => ?_, h3, h4, p, h5, r2, R2, h6, h7, h8⟩
  unfold zr_call
  rw [hM]
  dsimp only
  rw [zt_cats_in hg.1.2.2.1, hcat]
  exact h1 f hf
