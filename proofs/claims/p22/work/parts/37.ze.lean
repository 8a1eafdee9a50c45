/-! ===== what a run that is led says ===== -/
theorem ze_rx_in {Fo : zx_M → zx_Tr zr_E → Nat → Option zx_F} {Q : List (zx_M × zx_Tr zr_E)} {Z : ze_Z} {T : zx_Tr zt_C} {K0 d : Nat} {M : zx_M × zx_Tr zr_E} {G : ze_W} (hG : ze_gc Z T K0 G) {KS : zx_Tr ze_K} {top dp : Nat} {C : ze_Q} {k0 kr n0 : Nat} {ps : List ze_S} {md : List (Nat × Nat)} {rk : Option (List zt_E)} {r0 : Nat → Int}
    (hF : ∀ pc o, C.1 pc = some o → ∃ g, Fo M.1 M.2 pc = some g ∧ ze_osp Z T K0 md g o)
    (hKS : ∀ i c, i < top → zx_g10 KS i = some c → ze_kt Fo Q Z T K0 c) (hKw : ∀ i c, i < top → zx_g10 KS i = some c → ze_wfb c.2.2.1 = true) (hd : dp ≤ d)
    (hcut : ∀ pc ts t, ze_fd pc C.2.1 = some ts → t ∈ ts → ze_wfb t.1 = true) (hps : ∀ p ∈ ps, ze_wfb p = true) (hk0 : k0 ≤ n0) (hrk : ∀ m, rk = some m → ∀ e ∈ m, zt_lt n0 e)
    (hrec : ∀ pc ts t, ze_fd pc C.2.1 = some ts → t ∈ ts → ∀ (r : Nat → Int) (R : Nat → Nat → Int) (L : zx_L) (st : List Value) (h : zx_H) (sl : Nat), zt_hk T K0 h → ze_g Z r R t.1 L st h → (∀ m, rk = some m → ze_lx (ze_mu r t.2) (ze_mu r0 m)) → ze_res Fo Q Z T K0 d M k0 kr ps md r R pc L st h sl) :
    ∀ (f : Nat) (first : Bool) (pc : Nat) (S : ze_S) (s s9 : List ze_J) (r : Nat → Int) (R : Nat → Nat → Int) (L : zx_L) (st : List Value) (h : zx_H) (sl : Nat), ze_rx G KS top dp C k0 kr ps md rk f first pc S s = some s9 → zt_hk T K0 h → ze_g Z r R S L st h → (∀ i, i < n0 → r i = r0 i) → n0 ≤ S.1.1 → kr ≤ S.2.1 → ze_res Fo Q Z T K0 d M k0 kr ps md r R pc L st h sl := by
  intro f
  induction f with
  | zero => intro first pc S s s9 r R L st h sl hx; cases hx
  | succ f ih =>
    intro first pc S s s9 r R L st h sl hx hk hg hr0 hn hkr
    cases s with
    | nil => cases hx
    | cons j s =>
      obtain ⟨j1, j2, j3⟩ := j
      cases j1 with
      | succ n =>
        have hx2 : Bool.rec (motive := fun _ => Option (List ze_J)) (Option.rec (motive := fun _ => Option (List ze_J)) none (fun x => ze_fo (fun q s2 => ze_rx G KS top dp C k0 kr ps md rk f first pc q s2) x.1 x.2) (G (n + 1, j2, j3) s S)) (Option.rec (motive := fun _ => Option (List ze_J)) none (fun ts => ze_rx3 k0 kr rk ts S (n + 1, j2, j3) s) (ze_fd pc C.2.1)) (Nat.beq (n + 1) 50) = some s9 := hx
        cases e50 : Nat.beq (n + 1) 50 with
        | true =>
          rw [e50] at hx2
          obtain ⟨ts, e2, hx2⟩ := zo_in hx2
          obtain ⟨t, e3, hx2⟩ := zo_in hx2
          obtain ⟨e4, hx2⟩ := zb_in hx2
          · skip
            · skip
              have ht : t ∈ ts := by
                rw [zx_nth_eq] at e3
                exact List.mem_of_getElem? e3
              unfold zm_ct at e4
              split at e4
              · cases e4
              · next e5 =>
                obtain ⟨w1, w2⟩ := ze_wfb_in (hcut pc ts t e2 ht)
                have hm := zm_ok_in w1 w2 hg e5
                refine ze_res_eq (r2 := fun i => zt_ev r (zm_su k0 j3.1 i)) (R2 := fun q => R (zm_ru kr j2.tail q)) (fun i hi => zm_su_lo hi) (fun i hi => ?_) (hrec pc ts t e2 ht _ _ L st h sl hk hm (fun m em => ?_))
                · show R (zm_ru kr j2.tail i) = R i
                  rw [zm_ru_lo hi]
                · subst em
                  have y1 := ze_de_in hg.1.1 e4
                  rw [ze_mu_su] at y1
                  have y2 : ze_mu r m = ze_mu r0 m := ze_mu_eq (n := n0) hr0 (hrk m rfl)
                  rw [y2] at y1
                  exact y1
        | false =>
          rw [e50] at hx2
          have hx3 : Option.rec (motive := fun _ => Option (List ze_J)) none (fun x => ze_fo (fun q s2 => ze_rx G KS top dp C k0 kr ps md rk f first pc q s2) x.1 x.2) (G (n + 1, j2, j3) s S) = some s9 := hx2
          obtain ⟨x, e1, hx2⟩ := zo_in hx3
          obtain ⟨q, h1, r2, R2, h2, h3, h4, h5, h6⟩ := hG _ s S x.1 x.2 r R L st h hk hg e1
          obtain ⟨s3, s4, h7⟩ := ze_fo_in hx2 h1
          exact ze_res_eq (fun i hi => h2 i (Nat.lt_of_lt_of_le (Nat.lt_of_lt_of_le hi hk0) hn)) (fun i hi => h3 i (Nat.lt_of_lt_of_le hi hkr)) (ih first pc q s3 s4 r2 R2 L st h sl h7 hk h6 (fun i hi => (h2 i (Nat.lt_of_lt_of_le hi hn)).trans (hr0 i hi)) (Nat.le_trans hn h4) (Nat.le_trans hkr h5))
      | zero =>
          have hx2 : ze_rx2 KS top dp C k0 kr ps md (ze_rx G KS top dp C k0 kr ps md rk f) pc S (0, j2, j3) s = some s9 := (ze_pn_eq (fun p => ze_rx2 KS top dp C k0 kr ps md (ze_rx G KS top dp C k0 kr ps md rk f) p S (0, j2, j3) s) pc).symm.trans hx
          have hrk0 : ∀ i, i < k0 → r i = r i := fun _ _ => rfl
          obtain ⟨o, e2, hx2⟩ := zo_in hx2
          · skip
            obtain ⟨g, e3, e4⟩ := hF pc o e2
            match o, e4, hx2 with
            | .inl A, e4, hx2 =>
              obtain ⟨l, e5, hx2⟩ := zo_in hx2
              · skip
                obtain ⟨q, k1, r3, R3, L2, st2, h2, k2, k3, k4, k5, k6, k7, k8, k9⟩ := (zq_A_in (ns := j2) e4) S l r R L st h hk hg e5
                obtain ⟨s3, s4, k10⟩ := ze_fo_in hx2 k1
                refine ze_res_go (f1 := 0) (fun f2 _ => ?_) k9 (fun i hi => k3 i (Nat.lt_of_lt_of_le (Nat.lt_of_lt_of_le hi hk0) hn)) (fun i hi => k4 i (Nat.lt_of_lt_of_le hi hkr)) (ih false q.1 q.2 s3 s4 r3 R3 L2 st2 h2 sl k10 k8 k7 (fun i hi => (k3 i (Nat.lt_of_lt_of_le hi hn)).trans (hr0 i hi)) (Nat.le_trans hn k5) (Nat.le_trans hkr k6))
                show (match Fo M.1 M.2 pc with | none => none | some F => F _ L st h sl (fun pc2 L2 st2 h2 s2 => zr_run Fo Q f2 d M pc2 L2 st2 h2 s2)) = _
                rw [e3]
                exact k2 _ _ _
            | .inr (.inl c), e4, hx2 =>
              obtain ⟨ok, rfl, hok⟩ := e4
              obtain ⟨K, e6, hx2⟩ := zo_in hx2
              obtain ⟨e7, hx2⟩ := zb_in hx2
              obtain ⟨l, e8, hx2⟩ := zo_in hx2
              · skip
                · skip
                  simp only [Bool.and_eq_true] at e7
                  obtain ⟨j1, j4, j5⟩ := e7
                  have j6 : ze_wfb K.2.2.1 = true := hKw _ K (Nat.le_of_ble_eq_true j1) e6
                  · skip
                    have hK := hKS _ K (Nat.le_of_ble_eq_true j1) e6
                    have hdp : K.2.1 < d := Nat.lt_of_lt_of_le (Nat.le_of_ble_eq_true j4) hd
                    cases d with
                    | zero => exact absurd hdp (Nat.not_lt_zero _)
                    | succ d2 =>
                      obtain ⟨q, q1, q2, r4, R4, st2, h2, f1, q3, q4, q5, q6, q7, q8, q9, q10⟩ := zm_ca_in sl hK j6 (Nat.le_of_lt_succ hdp) hok hk hg e8
                      obtain ⟨s3, s4, k10⟩ := ze_fo_in hx2 q1
                      refine ze_res_go (f1 := f1) (fun f2 hf2 => ?_) q10 (fun i hi => q4 i (Nat.lt_of_lt_of_le (Nat.lt_of_lt_of_le hi hk0) hn)) (fun i hi => q5 i (Nat.lt_of_lt_of_le hi hkr)) (ih false q.1 q.2 s3 s4 r4 R4 L st2 h2 sl k10 q9 q8 (fun i hi => (q4 i (Nat.lt_of_lt_of_le hi hn)).trans (hr0 i hi)) (Nat.le_trans hn q6) (Nat.le_trans hkr q7))
                      show (match Fo M.1 M.2 pc with | none => none | some F => F _ L st h sl (fun pc2 L2 st2 h2 s2 => zr_run Fo Q f2 (d2 + 1) M pc2 L2 st2 h2 s2)) = _
                      rw [e3, q2]
                      have q11 := q3 f2 (fun pc2 L2 st2 h2 s2 => zr_run Fo Q f2 (d2 + 1) M pc2 L2 st2 h2 s2) hf2
                      rw [show K.1 = c.1 from Nat.eq_of_beq_eq_true j5] at q11
                      exact q11
            | .inr (.inr rc), e4, hx2 =>
              obtain ⟨p, e5, hx2⟩ := zo_in hx2
              obtain ⟨e6, hx2⟩ := zb_in hx2
              · skip
                · skip
                  simp only [Bool.and_eq_true] at e6
                  obtain ⟨j1, p3⟩ := e6
                  obtain ⟨v, rfl, e8⟩ := e4 r S.1 L st h hg.1 j1
                  have h8n : ze_g Z r R (ze_nl S) [] v.toList h := ⟨⟨hg.1.1, (fun q hq => absurd hq List.not_mem_nil), hg.1.2.2.1, hg.1.2.2.2.1, (fun q hq => absurd hq List.not_mem_nil), hg.1.2.2.2.2.2⟩, hg.2⟩
                  have hp : p ∈ ps := by
                    rw [zx_nth_eq] at e5
                    exact List.mem_of_getElem? e5
                  obtain ⟨w1, w2⟩ := ze_wfb_in (hps p hp)
                  have hm := zm_ok_in w1 w2 h8n p3
                  refine ⟨1, v, h, fun f2 hf2 => ?_, hk, zt_fr_refl, p, hp, _, _, fun i hi => ?_, fun i hi => ?_, hm⟩
                  · cases f2 with
                    | zero => exact absurd hf2 (Nat.not_succ_le_zero _)
                    | succ f2 =>
                      show (match Fo M.1 M.2 pc with | none => none | some F => F _ L v.toList h sl (fun pc2 L2 st2 h2 s2 => zr_run Fo Q f2 d M pc2 L2 st2 h2 s2)) = _
                      rw [e3]
                      exact e8 _ _ _
                  · exact zm_su_lo hi
                  · show R (zm_ru kr j2.tail i) = R i
                    rw [zm_ru_lo hi]
