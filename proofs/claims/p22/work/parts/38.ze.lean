/-! ===== a contract by led runs: its start, its cuts ===== -/
/-- what must stand of the words of a contract and its cuts -/
noncomputable def ze_okw (C : ze_Q) (c : ze_K) : Bool := ze_wfb c.2.2.1 && (ze_all ze_wfb c.2.2.2.1 && ze_all (fun q => ze_all (fun t => ze_wfb t.1 && (ze_all (fun e => zt_ltb t.1.1.1 e.2) t.2 && (Nat.ble c.2.2.1.1.1 t.1.1.1 && Nat.ble c.2.2.1.2.1 t.1.2.1))) q.2) C.2.1)
/-- a region gone through -/
noncomputable def ze_rg (G : ze_W) (KS : zx_Tr ze_K) (top : Nat) (C : ze_Q) (c : ze_K) (rk : Option (List zt_E)) (fu : Nat) (first : Bool) (pc : Nat) (S : ze_S) (s : List ze_J) : Bool := match ze_rx G KS top c.2.1 C c.2.2.1.1.1 c.2.2.1.2.1 c.2.2.2.1 c.2.2.2.2 rk fu first pc S s with
  | some _ => true
  | none => false
theorem ze_rg_in {G : ze_W} {KS : zx_Tr ze_K} {top : Nat} {C : ze_Q} {c : ze_K} {rk : Option (List zt_E)} {fu : Nat} {first : Bool} {pc : Nat} {S : ze_S} {s : List ze_J} (h : ze_rg G KS top C c rk fu first pc S s = true) : ∃ s9, ze_rx G KS top c.2.1 C c.2.2.1.1.1 c.2.2.1.2.1 c.2.2.2.1 c.2.2.2.2 rk fu first pc S s = some s9 := by
  unfold ze_rg at h
  split at h
  · next s9 e => exact ⟨s9, e⟩
  · cases h
theorem ze_okx_in {Fo : zx_M → zx_Tr zr_E → Nat → Option zx_F} {Q : List (zx_M × zx_Tr zr_E)} {Z : ze_Z} {T : zx_Tr zt_C} {K0 : Nat} {M : zx_M × zx_Tr zr_E} {G : ze_W} (hG : ze_gc Z T K0 G) {KS : zx_Tr ze_K} {top : Nat} {C : ze_Q} {c : ze_K}
    (hF : ∀ pc o, C.1 pc = some o → ∃ g, Fo M.1 M.2 pc = some g ∧ ze_osp Z T K0 c.2.2.2.2 g o)
    (hKS : ∀ i c, i < top → zx_g10 KS i = some c → ze_kt Fo Q Z T K0 c) (hKw : ∀ i c, i < top → zx_g10 KS i = some c → ze_wfb c.2.2.1 = true) (hM : zx_nth Q c.1 = some M) (hcat : Nat.ble (zt_cats c.2.2.1.1.2.2.1) M.1.2.2.1 = true) (hw : ze_okw C c = true)
    (h0 : ∃ fu s, ze_rg G KS top C c none fu false 0 (ze_ke c) s = true)
    (hc : ∀ q ∈ C.2.1, ∀ t ∈ q.2, ∃ fu s, ze_rg G KS top C c (some t.2) fu true q.1 t.1 s = true) : ze_kt Fo Q Z T K0 c := by
  unfold ze_okw at hw
  simp only [Bool.and_eq_true] at hw
  obtain ⟨c1, c2, c4⟩ := hw
  obtain ⟨w1, w2⟩ := ze_wfb_in c1
  have cut : ∀ pc ts t, ze_fd pc C.2.1 = some ts → t ∈ ts → ze_wfb t.1 = true ∧ (∀ e ∈ t.2, zt_lt t.1.1.1 e) ∧ c.2.2.1.1.1 ≤ t.1.1.1 ∧ c.2.2.1.2.1 ≤ t.1.2.1 ∧ ∃ fu s, ze_rg G KS top C c (some t.2) fu true pc t.1 s = true := by
    intro pc ts t e1 e2
    have h1 := ze_all_in (ze_all_in c4 _ (ze_fd_in e1)) t e2
    simp only [Bool.and_eq_true] at h1
    obtain ⟨h1, h2, h3, h4⟩ := h1
    exact ⟨h1, fun e he => zt_ltb_in (ze_all_in h2 e he), Nat.le_of_ble_eq_true h3, Nat.le_of_ble_eq_true h4, hc _ (ze_fd_in e1) t e2⟩
  have hps : ∀ p ∈ c.2.2.2.1, ze_wfb p = true := fun p hp => ze_all_in c2 p hp
  intro d hd as h sl r R hk hg
  have all : ∀ m : List Nat, ∀ pc ts t, ze_fd pc C.2.1 = some ts → t ∈ ts → ∀ (r : Nat → Int) (R : Nat → Nat → Int) (L : zx_L) (st : List Value) (h : zx_H) (sl : Nat), ze_mu r t.2 = m → zt_hk T K0 h → ze_g Z r R t.1 L st h → ze_res Fo Q Z T K0 d M c.2.2.1.1.1 c.2.2.1.2.1 c.2.2.2.1 c.2.2.2.2 r R pc L st h sl := by
    intro m
    induction ze_lx_acc m.length m rfl with
    | intro m _ ih =>
      intro pc ts t e1 e2 r R L st h sl em hk hg
      obtain ⟨h1, h2, h3, h4, fu, s, h5⟩ := cut pc ts t e1 e2
      obtain ⟨s9, h6⟩ := ze_rg_in h5
      refine ze_rx_in (n0 := t.1.1.1) (r0 := r) hG hF hKS hKw hd (fun pc ts t e1 e2 => (cut pc ts t e1 e2).1) hps h3 (fun m em => by cases em; exact h2) (fun pc2 ts2 t2 e3 e4 r2 R2 L2 st2 h6 sl2 hk2 hg2 hlt => ?_) fu true pc t.1 s s9 r R L st h sl h6 hk hg (fun _ _ => rfl) (Nat.le_refl _) h4
      have := hlt _ rfl
      rw [em] at this
      exact ih _ this pc2 ts2 t2 e3 e4 r2 R2 L2 st2 h6 sl2 rfl hk2 hg2
  have hg2 : ze_g Z r R (ze_ke c) (lv_args 0 as) [] h := by
    obtain ⟨⟨g1, g2, g3, g4, g5, g6, g7, g8⟩, g9⟩ := hg
    refine ⟨⟨g1, zt_la_in g3, trivial, g4, fun q hq => ?_, (fun q hq => absurd hq List.not_mem_nil), g7, g8⟩, g9⟩
    have : ∀ (l : List zt_V) (i : Nat), (∀ b ∈ l, zt_lt c.2.2.1.1.1 b.2.1) → ∀ q ∈ zt_la i l, zt_lt c.2.2.1.1.1 q.2.2.1 := by
      intro l
      induction l with
      | nil => intro i _ q hq; cases hq
      | cons a l ih =>
        intro i hl q hq
        rcases List.mem_cons.mp hq with z | z
        · rw [z]
          exact hl a List.mem_cons_self
        · exact ih _ (fun b hb => hl b (List.mem_cons_of_mem _ hb)) q z
    exact this _ 0 g6 q hq
  obtain ⟨fu, s, h5⟩ := h0
  obtain ⟨s9, h6⟩ := ze_rg_in h5
  have hres := ze_rx_in (n0 := c.2.2.1.1.1) (r0 := r) (rk := none) hG hF hKS hKw hd (fun pc ts t e1 e2 => (cut pc ts t e1 e2).1) hps (Nat.le_refl _) (fun m em => nomatch em) (fun pc2 ts2 t2 e3 e4 r2 R2 L2 st2 h6 sl2 hk2 hg3 _ => all _ pc2 ts2 t2 e3 e4 r2 R2 L2 st2 h6 sl2 rfl hk2 hg3) fu false 0 (ze_ke c) s s9 r R (lv_args 0 as) [] h sl h6 hk hg2 (fun _ _ => rfl) (Nat.le_refl _) (Nat.le_refl _)
  obtain ⟨f0, v, h2, h1, h3, h4, p, h5, r2, R2, h6, h7, h8⟩ := hres
  refine ⟨f0, v, h2, fun f hf => ?_, h3, h4, p, h5, r2, R2, h6, h7, h8⟩
  unfold zr_call
  rw [hM]
  dsimp only
  rw [zt_cats_in hg.1.2.2.1, hcat]
  exact h1 f hf
/-- regions that are looked through together -/
noncomputable def ze_rgs (G : ze_W) (KS : zx_Tr ze_K) (top : Nat) (C : ze_Q) (c : ze_K) (fu pc : Nat) : List ze_T → List (List ze_J) → Bool
  | [], _ => true
  | t :: ts, s :: ss => match ze_rg G KS top C c (some t.2) fu true pc t.1 s with
    | false => false
    | true => ze_rgs G KS top C c fu pc ts ss
  | _, _ => false
theorem ze_rgs_in {G : ze_W} {KS : zx_Tr ze_K} {top : Nat} {C : ze_Q} {c : ze_K} {fu pc : Nat} : ∀ {ts : List ze_T} {ss : List (List ze_J)}, ze_rgs G KS top C c fu pc ts ss = true → ∀ t ∈ ts, ∃ fu s, ze_rg G KS top C c (some t.2) fu true pc t.1 s = true
  | [], _, _, t, ht => nomatch ht
  | _ :: _, [], h, _, _ => nomatch h
  | a :: ts, s :: ss, h, t, ht => by
    unfold ze_rgs at h
    split at h
    · cases h
    · next e =>
      rcases List.mem_cons.mp ht with z | z
      · rw [z]
        exact ⟨fu, s, e⟩
      · exact ze_rgs_in h t z
noncomputable def ze_rga (G : ze_W) (KS : zx_Tr ze_K) (top : Nat) (C : ze_Q) (c : ze_K) (fu : Nat) : List (Nat × List ze_T) → List (List (List ze_J)) → Bool
  | [], _ => true
  | q :: qs, s :: ss => match ze_rgs G KS top C c fu q.1 q.2 s with
    | false => false
    | true => ze_rga G KS top C c fu qs ss
  | _, _ => false
theorem ze_rga_in {G : ze_W} {KS : zx_Tr ze_K} {top : Nat} {C : ze_Q} {c : ze_K} {fu : Nat} : ∀ {qs : List (Nat × List ze_T)} {ss : List (List (List ze_J))}, ze_rga G KS top C c fu qs ss = true → ∀ q ∈ qs, ∀ t ∈ q.2, ∃ fu s, ze_rg G KS top C c (some t.2) fu true q.1 t.1 s = true
  | [], _, _, q, hq => nomatch hq
  | _ :: _, [], h, _, _ => nomatch h
  | a :: qs, s :: ss, h, q, hq => by
    unfold ze_rga at h
    split at h
    · cases h
    · next e =>
      rcases List.mem_cons.mp hq with z | z
      · rw [z]
        exact ze_rgs_in e
      · exact ze_rga_in h q z
