/-! ===== a state that is one of those that another tells, by numbers and rows that are told ===== -/
noncomputable def zm_su (k0 : Nat) (es : List zt_E) (i : Nat) : zt_E := Bool.rec (motive := fun _ => zt_E) (ze_su es (Nat.sub i k0)) (zt_s i) (Nat.blt i k0)
noncomputable def zm_ru (kr : Nat) (rs : List Nat) (i : Nat) : Nat := Bool.rec (motive := fun _ => Nat) (ze_ru rs (Nat.sub i kr)) i (Nat.blt i kr)
theorem zm_su_lo {k0 i : Nat} {es : List zt_E} {r : Nat → Int} (h : i < k0) : zt_ev r (zm_su k0 es i) = r i := by
  unfold zm_su
  rw [show Nat.blt i k0 = true from Nat.ble_eq_true_of_le h]
  exact zt_s_ev r i
theorem zm_ru_lo {kr i : Nat} {rs : List Nat} (h : i < kr) : zm_ru kr rs i = i := by
  unfold zm_ru
  rw [show Nat.blt i kr = true from Nat.ble_eq_true_of_le h]
theorem zm_su_0 {es : List zt_E} : zm_su 0 es = ze_su es := funext fun i => by
  unfold zm_su
  rw [show Nat.blt i 0 = false from rfl]
  rfl
theorem zm_ru_0 {rs : List Nat} : zm_ru 0 rs = ze_ru rs := funext fun i => by
  unfold zm_ru
  rw [show Nat.blt i 0 = false from rfl]
  rfl
theorem zm_ru_lt {n : Nat} {rs : List Nat} (hn : 0 < n) (h : ze_all (fun q => Nat.blt q n) rs = true) (i : Nat) : ze_ru rs i < n := by
  unfold ze_ru
  split
  · next q e =>
    rw [zx_nth_eq] at e
    exact Nat.le_of_ble_eq_true (ze_all_in h _ (List.mem_of_getElem? e))
  · exact hn
/-- places, by the place that is meant -/
noncomputable def zm_o (su : Nat → zt_E) (A l : List ((Nat × zt_E) × zt_V)) : Bool := List.rec (motive := fun _ => Bool) true (fun q _ ih => Option.rec (motive := fun _ => Bool) false (fun a => Bool.rec (motive := fun _ => Bool) false ih (zt_pv su a q.2)) (zt_fo q.1.1 (zt_su su q.1.2) A)) l
theorem zm_o_c (su : Nat → zt_E) (A : List ((Nat × zt_E) × zt_V)) (q : (Nat × zt_E) × zt_V) (l : List ((Nat × zt_E) × zt_V)) : zm_o su A (q :: l) = (match zt_fo q.1.1 (zt_su su q.1.2) A with
    | none => false
    | some a => match zt_pv su a q.2 with
      | false => false
      | true => zm_o su A l) := by
  show Option.rec (motive := fun _ => Bool) false (fun a => Bool.rec (motive := fun _ => Bool) false (zm_o su A l) (zt_pv su a q.2)) (zt_fo q.1.1 (zt_su su q.1.2) A) = _
  cases zt_fo q.1.1 (zt_su su q.1.2) A with
  | none => rfl
  | some a =>
    show Bool.rec (motive := fun _ => Bool) false (zm_o su A l) (zt_pv su a q.2) = (match zt_pv su a q.2 with
      | false => false
      | true => zm_o su A l)
    cases zt_pv su a q.2 <;> rfl
theorem zm_o_in {r : Nat → Int} {su : Nat → zt_E} {A : List ((Nat × zt_E) × zt_V)} {h : zx_H} (hA : zt_o r A h) : ∀ {B : List ((Nat × zt_E) × zt_V)}, zm_o su A B = true → zt_o (fun i => zt_ev r (su i)) B h
  | [], _ => fun q hq => nomatch hq
  | p :: B, hm => by
    rw [zm_o_c] at hm
    split at hm
    · cases hm
    · next a e1 =>
      split at hm
      · cases hm
      · next e2 =>
        intro q hq
        rcases List.mem_cons.mp hq with z | z
        · obtain ⟨j, v, h1, h2, h3⟩ := hA _ (zt_fo_in e1)
          rw [z]
          refine ⟨j, v, ?_, h2, zt_pv_in e2 h3⟩
          rw [← zt_su_ev]
          exact h1
        · exact zm_o_in hA hm q z
noncomputable def zm_m (ru : Nat → Nat) (A l : List (Nat × Nat)) : Bool := List.rec (motive := fun _ => Bool) true (fun q _ ih => Option.rec (motive := fun _ => Bool) false (fun p => Bool.rec (motive := fun _ => Bool) false ih (Nat.beq p (ru q.2))) (ze_lm q.1 A)) l
theorem zm_m_c (ru : Nat → Nat) (A : List (Nat × Nat)) (q : Nat × Nat) (l : List (Nat × Nat)) : zm_m ru A (q :: l) = (match ze_lm q.1 A with
    | none => false
    | some p => match Nat.beq p (ru q.2) with
      | false => false
      | true => zm_m ru A l) := by
  show Option.rec (motive := fun _ => Bool) false (fun p => Bool.rec (motive := fun _ => Bool) false (zm_m ru A l) (Nat.beq p (ru q.2))) (ze_lm q.1 A) = _
  cases ze_lm q.1 A with
  | none => rfl
  | some p =>
    show Bool.rec (motive := fun _ => Bool) false (zm_m ru A l) (Nat.beq p (ru q.2)) = (match Nat.beq p (ru q.2) with
      | false => false
      | true => zm_m ru A l)
    cases Nat.beq p (ru q.2) <;> rfl
theorem zm_m_in {ru : Nat → Nat} {R : Nat → Nat → Int} {h : zx_H} {A : List (Nat × Nat)} (hA : ∀ q ∈ A, ze_row h q.1 (R q.2)) : ∀ {B : List (Nat × Nat)}, zm_m ru A B = true → ∀ q ∈ B, ze_row h q.1 (R (ru q.2))
  | [], _ => fun q hq => nomatch hq
  | p :: B, hm => by
    rw [zm_m_c] at hm
    split at hm
    · cases hm
    · next a e1 =>
      split at hm
      · cases hm
      · next e2 =>
        intro q hq
        rcases List.mem_cons.mp hq with z | z
        · rw [z, ← Nat.eq_of_beq_eq_true e2]
          exact hA _ (ze_lm_in e1)
        · exact zm_m_in hA hm q z
/-- a fact of a template: told where it stands, else looked for -/
noncomputable def zm_f1o (F : List zt_E) (e : zt_E) (h : Nat) : Bool := match h with
  | 0 => zt_ge F e
  | k + 1 => match zx_nth F k with
    | none => zt_ge F e
    | some g => match zt_t0 e.2 g.2 && decide (g.1 ≤ e.1) with
      | true => true
      | false => zt_ge F e
noncomputable def zm_f1 (F : List zt_E) (e : zt_E) (h : Nat) : Bool := Nat.rec (motive := fun _ => Bool) (zt_ge F e) (fun k _ => Option.rec (motive := fun _ => Bool) (zt_ge F e) (fun g => Bool.rec (motive := fun _ => Bool) (zt_ge F e) (Bool.rec (motive := fun _ => Bool) (zt_ge F e) true (zi_le g.1 e.1)) (zt_t0 e.2 g.2)) (zx_nth F k)) h
theorem zm_f1_o (F : List zt_E) (e : zt_E) (h : Nat) : zm_f1 F e h = zm_f1o F e h := by
  cases h with
  | zero => rfl
  | succ k =>
    show Option.rec (motive := fun _ => Bool) (zt_ge F e) (fun g => Bool.rec (motive := fun _ => Bool) (zt_ge F e) (Bool.rec (motive := fun _ => Bool) (zt_ge F e) true (zi_le g.1 e.1)) (zt_t0 e.2 g.2)) (zx_nth F k) = (match zx_nth F k with
      | none => zt_ge F e
      | some g => match zt_t0 e.2 g.2 && decide (g.1 ≤ e.1) with
        | true => true
        | false => zt_ge F e)
    cases zx_nth F k with
    | none => rfl
    | some g =>
      show Bool.rec (motive := fun _ => Bool) (zt_ge F e) (Bool.rec (motive := fun _ => Bool) (zt_ge F e) true (zi_le g.1 e.1)) (zt_t0 e.2 g.2) = (match zt_t0 e.2 g.2 && decide (g.1 ≤ e.1) with
        | true => true
        | false => zt_ge F e)
      rw [zi_le_eq]
      cases zt_t0 e.2 g.2 <;> cases decide (g.1 ≤ e.1) <;> rfl
theorem zm_f1_in {r : Nat → Int} {F : List zt_E} (hF : zt_ok r F) {e : zt_E} {h : Nat} (hh : zm_f1 F e h = true) : 0 ≤ zt_ev r e := by
  rw [zm_f1_o] at hh
  unfold zm_f1o at hh
  split at hh
  · exact zt_ge_in hF hh
  · next k =>
    split at hh
    · exact zt_ge_in hF hh
    · next g e1 =>
      split at hh
      · next e2 =>
        rw [Bool.and_eq_true] at e2
        rw [zx_nth_eq] at e1
        have h1 := hF g (List.mem_of_getElem? e1)
        have h2 := of_decide_eq_true e2.2
        have h3 : e.2 = g.2 := zt_t0_in e2.1
        have h4 : 0 ≤ g.1 + zt_tv r g.2 := h1
        show 0 ≤ e.1 + zt_tv r e.2
        rw [h3]
        omega
      · exact zt_ge_in hF hh
/-- facts of a template, each with where it stands -/
noncomputable def zm_fc (su : Nat → zt_E) (F l : List zt_E) : List zt_E → Bool := List.rec (motive := fun _ => List zt_E → Bool) (fun _ => true) (fun f _ ih hs => List.rec (motive := fun _ => Bool) (Bool.rec (motive := fun _ => Bool) false (ih []) (zm_f1 F (zt_su su f) 0)) (fun h t _ => Bool.rec (motive := fun _ => Bool) false (ih t) (zm_f1 F (zt_su su f) (zi_nat h.1))) hs) l
theorem zm_fc_in {su : Nat → zt_E} {r : Nat → Int} {F : List zt_E} (hF : zt_ok r F) : ∀ {l hs : List zt_E}, zm_fc su F l hs = true → zt_ok (fun i => zt_ev r (su i)) l
  | [], _, _ => fun f hf => nomatch hf
  | f :: l, hs, h => by
    have key : ∃ k t, Bool.rec (motive := fun _ => Bool) false (zm_fc su F l t) (zm_f1 F (zt_su su f) k) = true := by
      cases hs with
      | nil => exact ⟨0, [], h⟩
      | cons a t => exact ⟨zi_nat a.1, t, h⟩
    obtain ⟨k, t, h2⟩ := key
    cases e : zm_f1 F (zt_su su f) k with
    | false =>
      rw [e] at h2
      exact nomatch h2
    | true =>
      rw [e] at h2
      have h3 : zm_fc su F l t = true := h2
      intro g hg
      rcases List.mem_cons.mp hg with z | z
      · rw [z]
        have h1 := zm_f1_in hF e
        rw [zt_su_ev] at h1
        exact h1
      · exact zm_fc_in hF h3 g z
/-- a list less its first ones -/
noncomputable def zh_dr {α : Type} (n : Nat) : List α → List α := Nat.rec (motive := fun _ => List α → List α) (fun l => l) (fun _ ih l => List.rec (motive := fun _ => List α) [] (fun _ t _ => ih t) l) n
noncomputable def zm_ok (su : Nat → zt_E) (ru : Nat → Nat) (hs : List zt_E) (S T : ze_S) : Bool := match zt_zl S.1.2.1 T.1.2.1 with
  | none => false
  | some m1 => match zt_zs S.1.2.2.1 T.1.2.2.1 with
    | none => false
    | some m2 => zt_pvs su m1 && (zt_pvs su m2 && (zm_o su S.1.2.2.2.1 T.1.2.2.2.1 && (zm_fc su S.1.2.2.2.2 T.1.2.2.2.2 hs && (zm_m ru S.2.2.1 T.2.2.1 && ze_pl su ru S.1.2.2.2.2 S.2.2.2.2.2 T.2.2.2.2.2))))
theorem zm_ok_in {Z : ze_Z} {su : Nat → zt_E} {ru : Nat → Nat} {hs : List zt_E} {S T : ze_S} {r : Nat → Int} {R : Nat → Nat → Int} {L : zx_L} {st : List Value} {h : zx_H} (hw : zt_wf T.1) (hx : ze_wx T.1.1 T.2) (hg : ze_g Z r R S L st h) (hm : zm_ok su ru hs S T = true) : ze_g Z (fun i => zt_ev r (su i)) (fun q => R (ru q)) T L st h := by
  unfold zm_ok at hm
  split at hm
  · cases hm
  · next m1 e1 =>
    split at hm
    · cases hm
    · next m2 e2 =>
      simp only [Bool.and_eq_true] at hm
      obtain ⟨h1, h2, h3, h4, h5, h6⟩ := hm
      exact ⟨⟨zm_fc_in hg.1.1 h4, zt_zl_in hg.1.2.1 e1 (zt_pvs_in h1), zt_zs_in hg.1.2.2.1 e2 (zt_pvs_in h2), zm_o_in hg.1.2.2.2.1 h3, hw⟩, ⟨zm_m_in hg.2.1.1 h5, ze_pl_in hg.1.1 hg.2.1.2 h6⟩, hx⟩
/-! ===== what is behind a call has names below its next one alone ===== -/
theorem zm_tsu_lt {n m : Nat} {su : Nat → zt_E} (hs : ∀ i, i < m → zt_lt n (su i)) : ∀ {l : List zt_T}, (∀ t ∈ l, t.1 < m) → zt_lt n (zt_tsu su l)
  | [], _ => fun t ht => absurd ht List.not_mem_nil
  | q :: l, h => zt_add_lt (zt_sc_lt (hs q.1 (h q List.mem_cons_self))) (zm_tsu_lt hs (fun t ht => h t (List.mem_cons_of_mem _ ht)))
theorem zm_sue_lt {n m : Nat} {su : Nat → zt_E} (hs : ∀ i, i < m → zt_lt n (su i)) {e : zt_E} (h : zt_lt m e) : zt_lt n (zt_su su e) := zt_add_lt (fun t ht => absurd ht List.not_mem_nil) (zm_tsu_lt hs h)
theorem zm_kp_mem {md : List (Nat × Nat)} : ∀ {A : List ((Nat × zt_E) × zt_V)} {q : (Nat × zt_E) × zt_V}, q ∈ zt_kp md A → q ∈ A
  | [], q, h => nomatch h
  | p :: A, q, h => by
    rw [zt_kp_c] at h
    split at h
    · rcases List.mem_cons.mp h with z | z
      · rw [z]
        exact List.mem_cons_self
      · exact List.mem_cons_of_mem _ (zm_kp_mem z)
    · split at h
      · split at h
        · exact List.mem_cons_of_mem _ (zm_kp_mem h)
        · rcases List.mem_cons.mp h with z | z
          · rw [z]
            exact List.mem_cons_self
          · exact List.mem_cons_of_mem _ (zm_kp_mem z)
      · exact List.mem_cons_of_mem _ (zm_kp_mem h)
theorem zm_af_wf {S p : ze_S} {md : List (Nat × Nat)} {s0 : Nat → zt_E} {q0 : Nat → Nat} {k0 kr : Nat} {B : List zt_V} (hl : ∀ i, zt_lt S.1.1 (s0 i)) (hq : ∀ i, i < kr → q0 i < S.2.1) (hS : zt_wf S.1) (hx : ze_wx S.1.1 S.2) (hB : ∀ b ∈ B, zt_lt S.1.1 b.2.1) (pw : zt_wf p.1) (px : ze_wx p.1.1 p.2) : zt_wf (ze_af md (ze_s2 k0 S.1.1 s0) (ze_r2 kr S.2.1 q0) k0 kr B S p).1 ∧ ze_wx (ze_af md (ze_s2 k0 S.1.1 s0) (ze_r2 kr S.2.1 q0) k0 kr B S p).1.1 (ze_af md (ze_s2 k0 S.1.1 s0) (ze_r2 kr S.2.1 q0) k0 kr B S p).2 := by
  rw [ze_af_o]
  have up : ∀ {e : zt_E}, zt_lt S.1.1 e → zt_lt (S.1.1 + (p.1.1 - k0)) e := fun h => zt_lt_mono h (Nat.le_add_right _ _)
  have hs : ∀ i, i < p.1.1 → zt_lt (S.1.1 + (p.1.1 - k0)) (ze_s2 k0 S.1.1 s0 i) := fun i hi => by
    unfold ze_s2
    split
    · exact up (hl i)
    · next e =>
      intro t ht
      have ht2 : t ∈ [((S.1.1 + (i - k0), 1) : zt_T)] := ht
      rw [List.mem_singleton.mp ht2]
      have hk : ¬ i < k0 := fun z => by
        rw [show Nat.blt i k0 = true from Nat.ble_eq_true_of_le z] at e
        cases e
      show S.1.1 + (i - k0) < S.1.1 + (p.1.1 - k0)
      omega
  have hr : ∀ i, i < p.2.1 → ze_r2 kr S.2.1 q0 i < S.2.1 + (p.2.1 - kr) := fun i hi => by
    unfold ze_r2
    split
    · next e => exact Nat.lt_of_lt_of_le (hq i (Nat.le_of_ble_eq_true e)) (Nat.le_add_right _ _)
    · next e =>
      have hk : ¬ i < kr := fun z => by
        rw [show Nat.blt i kr = true from Nat.ble_eq_true_of_le z] at e
        cases e
      omega
  have hv : ∀ {e : zt_E}, zt_lt p.1.1 e → zt_lt (S.1.1 + (p.1.1 - k0)) (zt_su (ze_s2 k0 S.1.1 s0) e) := fun h => zm_sue_lt hs h
  obtain ⟨w1, w2, w3, w4⟩ := hS
  obtain ⟨x1, x2, x3, x4⟩ := hx
  obtain ⟨v1, v2, v3, v4⟩ := pw
  obtain ⟨y1, y2, y3, y4⟩ := px
  refine ⟨⟨fun q h => up (w1 q h), fun q h => ?_, fun q h => ?_, fun f h => ?_⟩, fun q h => ?_, fun q h => ?_, fun q h => ?_, fun w h => ?_⟩
  · rcases List.mem_append.mp h with z | z
    · obtain ⟨a, ha, rfl⟩ := List.mem_map.mp z
      exact hv (v2 a ha)
    · exact up (hB q z)
  · rcases List.mem_append.mp h with z | z
    · obtain ⟨a, ha, rfl⟩ := List.mem_map.mp z
      exact ⟨hv (v3 a ha).1, hv (v3 a ha).2⟩
    · exact ⟨up (w3 q (zm_kp_mem z)).1, up (w3 q (zm_kp_mem z)).2⟩
  · rcases List.mem_append.mp h with z | z
    · obtain ⟨a, ha, rfl⟩ := List.mem_map.mp z
      exact hv (v4 a ha)
    · exact up (w4 f z)
  · rcases List.mem_append.mp h with z | z
    · obtain ⟨a, ha, rfl⟩ := List.mem_map.mp z
      exact hr a.2 (y1 a ha)
    · exact Nat.lt_of_lt_of_le (x1 q (ze_dr_in z).1) (Nat.le_add_right _ _)
  · rcases List.mem_append.mp h with z | z
    · obtain ⟨a, ha, rfl⟩ := List.mem_map.mp z
      exact hv (y2 a ha)
    · exact up (x2 q z)
  · rcases List.mem_append.mp h with z | z
    · obtain ⟨a, ha, rfl⟩ := List.mem_map.mp z
      exact hr a.2 (y3 a ha)
    · exact Nat.lt_of_lt_of_le (x3 q z) (Nat.le_add_right _ _)
  · rcases List.mem_append.mp h with z | z
    · obtain ⟨a, ha, rfl⟩ := List.mem_map.mp z
      refine ⟨fun i hi => ?_, fun e he => ?_⟩
      · obtain ⟨j, hj, rfl⟩ := List.mem_map.mp hi
        exact hr j ((y4 a ha).1 j hj)
      · obtain ⟨f, hf, rfl⟩ := List.mem_map.mp he
        exact hv ((y4 a ha).2 f hf)
    · exact ⟨fun i hi => Nat.lt_of_lt_of_le ((x4 w z).1 i hi) (Nat.le_add_right _ _), fun e he => up ((x4 w z).2 e he)⟩
/-- what is behind a call, an end of its contract after the other -/
noncomputable def zm_afs (c : ze_K) (su : Nat → zt_E) (ru : Nat → Nat) (npc : Nat) (B : List zt_V) (S : ze_S) (ps : List ze_S) : List (Nat × ze_S) := List.rec (motive := fun _ => List (Nat × ze_S)) [] (fun p _ ih => (npc, ze_af c.2.2.2.2 (ze_s2 c.2.2.1.1.1 S.1.1 su) (ze_r2 c.2.2.1.2.1 S.2.1 ru) c.2.2.1.1.1 c.2.2.1.2.1 B S p) :: ih) ps
theorem zm_afs_in {c : ze_K} {su : Nat → zt_E} {ru : Nat → Nat} {npc : Nat} {B : List zt_V} {S p : ze_S} : ∀ {ps : List ze_S}, p ∈ ps → (npc, ze_af c.2.2.2.2 (ze_s2 c.2.2.1.1.1 S.1.1 su) (ze_r2 c.2.2.1.2.1 S.2.1 ru) c.2.2.1.1.1 c.2.2.1.2.1 B S p) ∈ zm_afs c su ru npc B S ps
  | [], h => nomatch h
  | q :: ps, h => by
    rcases List.mem_cons.mp h with z | z
    · rw [z]
      exact List.mem_cons_self
    · exact List.mem_cons_of_mem _ (zm_afs_in z)
/-- a call by a contract, its numbers and rows told -/
noncomputable def zm_ca (c : ze_K) (n : Nat) (okc : List zt_V → Bool) (npc : Nat) (md : List (Nat × Nat)) (es : List zt_E) (rs : List Nat) (S : ze_S) : Option (List (Nat × ze_S)) := match ze_tk n S.1.2.2.1 [] with
  | none => none
  | some ab => match okc ab.1 && (Nat.ble (zt_cats ab.2) 8 && ze_mds md c.2.2.2.2) with
    | false => none
    | true => match zm_ok (ze_su es) (ze_ru rs) (zh_dr c.2.2.1.1.1 es) (ze_as n ab.1 S) c.2.2.1 && (ze_all (fun e => zt_ltb S.1.1 e.2) es && (ze_all (fun q => Nat.blt q S.2.1) rs && Nat.blt 0 S.2.1)) with
      | false => none
      | true => some (zm_afs c (ze_su es) (ze_ru rs) npc ab.2 S c.2.2.2.1)
theorem zm_ca_in {Fo : zx_M → zx_Tr zr_E → Nat → Option zx_F} {Q : List (zx_M × zx_Tr zr_E)} {Z : ze_Z} {T : zx_Tr zt_C} {K0 n npc d : Nat} {md : List (Nat × Nat)} {okc : List zt_V → Bool} {ok : List Value → zx_H → Bool} {c : ze_K} {es : List zt_E} {rs : List Nat} {S : ze_S} {l : List (Nat × ze_S)} {r : Nat → Int} {R : Nat → Nat → Int} {L : zx_L} {st : List Value} {h : zx_H} (sl : Nat) (hK : ze_kt Fo Q Z T K0 c) (hw : ze_wfb c.2.2.1 = true) (hd : c.2.1 ≤ d) (hok : ∀ (r : Nat → Int) (as : List zt_V) (vs : List Value) (h : zx_H), zt_hk T K0 h → zt_vs r as vs → okc as = true → ok vs h = true) (hk : zt_hk T K0 h) (hg : ze_g Z r R S L st h) (hA : zm_ca c n okc npc md es rs S = some l) :
    ∃ q ∈ l, q.1 = npc ∧ ∃ (r2 : Nat → Int) (R2 : Nat → Nat → Int) (st2 : List Value) (h2 : zx_H) (f0 : Nat), (∀ (f : Nat) (k : zx_K), f0 ≤ f → zx_call c.1 n ok npc (fun mi as h1 s1 => zr_call Fo Q f d mi as h1 s1) L st h sl k = k npc L st2 h2 sl) ∧ (∀ i, i < S.1.1 → r2 i = r i) ∧ (∀ i, i < S.2.1 → R2 i = R i) ∧ S.1.1 ≤ q.2.1.1 ∧ S.2.1 ≤ q.2.2.1 ∧ ze_g Z r2 R2 q.2 L st2 h2 ∧ zt_hk T K0 h2 ∧ zt_fr md h h2 := by
  unfold zm_ca at hA
  split at hA
  · cases hA
  · next ab e1 =>
    split at hA
    · cases hA
    · next e2 =>
      split at hA
      · cases hA
      · next e3 =>
        obtain ⟨as, B⟩ := ab
        simp only [Bool.and_eq_true] at e2 e3
        obtain ⟨e2, e5, e6⟩ := e2
        obtain ⟨e4, e7, e8, e9⟩ := e3
        have hn : 0 < S.2.1 := Nat.le_of_ble_eq_true e9
        obtain ⟨c1, c2⟩ := ze_wfb_in hw
        obtain ⟨vs, us, g1, g2, g3, g4, g5⟩ := ze_tk_in (r := r) (m := S.1.1) (st := st) (sacc := []) e1 hg.1.2.2.1 trivial hg.1.2.2.2.2.2.1 (fun b hb => nomatch hb)
        have hS : ze_g Z r R (ze_as n as S) [] vs h := ⟨⟨hg.1.1, (fun q hq => absurd hq List.not_mem_nil), g2, hg.1.2.2.2.1, (fun q hq => absurd hq List.not_mem_nil), g4, hg.1.2.2.2.2.2.2.1, hg.1.2.2.2.2.2.2.2⟩, hg.2⟩
        have hm := zm_ok_in c1 c2 hS e4
        obtain ⟨f0, v, h2, k1, k2, k3, p, k4, rp, Rp, k5, k6, k7⟩ := hK d hd vs h sl _ _ hk hm
        cases hA
        have y2 := zm_afs_in (c := c) (su := ze_su es) (ru := ze_ru rs) (npc := npc) (B := B) (S := S) k4
        have y1 := zm_af_wf (md := c.2.2.2.2) (k0 := c.2.2.1.1.1) (kr := c.2.2.1.2.1) (ze_su_lt e7) (fun i (_ : i < c.2.2.1.2.1) => zm_ru_lt hn e8 i) hg.1.2.2.2.2 hg.2.2 g5 k7.1.2.2.2.2 k7.2.2
        obtain ⟨r2, R2, z1, z2, z3⟩ := ze_af_in (ze_su_lt e7) (fun i _ => zm_ru_lt hn e8 i) hg g3 g5 k5 k6 k3 k7 y1
        refine ⟨_, y2, rfl, r2, R2, v.toList ++ us, h2, f0, fun f k hf => ?_, z1, z2, Nat.le_add_right _ _, Nat.le_add_right _ _, z3, k2, zt_fr_sub (ze_mds_in e6) k3⟩
        unfold zx_call
        rw [g1, hok r as vs h hk g2 e2, show Nat.ble (zx_cats us) 8 = true by rw [zt_cats_in g3]; exact e5]
        show (match zr_call Fo Q f d c.1 vs h sl with | some (v, h2, s2) => k npc L (v.toList ++ us) h2 s2 | none => none) = _
        rw [k1 f hf]
/-- a cut -/
noncomputable def zm_ct (k0 kr : Nat) (rk : Option (List zt_E)) (t : ze_T) (es : List zt_E) (rs : List Nat) (S : ze_S) : Bool := match zm_ok (zm_su k0 es) (zm_ru kr rs) (zh_dr (Nat.sub t.1.1.1 k0) es) S t.1 with
  | false => false
  | true => match rk with
    | none => true
    | some m => ze_de S.1.2.2.2.2 (t.2.map (zt_su (zm_su k0 es))) m
/-! ===== a step, a rule, that look at a few facts alone ===== -/
noncomputable def zm_kp {α : Type} (l : List α) : Nat → List α := List.rec (motive := fun _ => Nat → List α) (fun _ => []) (fun f _ ih m => Nat.rec (motive := fun _ => List α) [] (fun _ _ => Bool.rec (motive := fun _ => List α) (ih (Nat.div m 2)) (f :: ih (Nat.div m 2)) (Nat.beq (Nat.mod m 2) 1)) m) l
theorem zm_kp_in {α : Type} {x : α} : ∀ {l : List α} {m : Nat}, x ∈ zm_kp l m → x ∈ l
  | [], _, h => h
  | f :: l, m, h => by
    cases m with
    | zero => exact absurd (show x ∈ ([] : List α) from h) List.not_mem_nil
    | succ k =>
      have h9 : x ∈ Bool.rec (motive := fun _ => List α) (zm_kp l (Nat.div (k + 1) 2)) (f :: zm_kp l (Nat.div (k + 1) 2)) (Nat.beq (Nat.mod (k + 1) 2) 1) := h
      cases e : Nat.beq (Nat.mod (k + 1) 2) 1 with
      | true =>
        rw [e] at h9
        rcases List.mem_cons.mp h9 with z | z
        · rw [z]
          exact List.mem_cons_self
        · exact List.mem_cons_of_mem _ (zm_kp_in z)
      | false =>
        rw [e] at h9
        exact List.mem_cons_of_mem _ (zm_kp_in h9)
noncomputable def zh_tk (m : Nat) (B : List zt_E) : List zt_E → List zt_E := Nat.rec (motive := fun _ => List zt_E → List zt_E) (fun _ => B) (fun _ ih F => List.rec (motive := fun _ => List zt_E) B (fun f t _ => f :: ih t) F) m
theorem zh_tk_in {B : List zt_E} {f : zt_E} : ∀ {m : Nat} {F : List zt_E}, f ∈ zh_tk m B F → f ∈ F ∨ f ∈ B
  | 0, _, h => Or.inr h
  | m + 1, [], h => Or.inr h
  | m + 1, g :: F, h => by
    have h9 : f ∈ g :: zh_tk m B F := h
    rcases List.mem_cons.mp h9 with z | z
    · rw [z]
      exact Or.inl List.mem_cons_self
    · rcases zh_tk_in z with y | y
      · exact Or.inl (List.mem_cons_of_mem _ y)
      · exact Or.inr y
noncomputable def zh_r (k : Nat) (S : ze_S) : ze_S := ((S.1.1, S.1.2.1, S.1.2.2.1, S.1.2.2.2.1, zm_kp S.1.2.2.2.2 k), S.2)
noncomputable def zh_b (m : Nat) (S q : ze_S) : ze_S := ((q.1.1, q.1.2.1, q.1.2.2.1, q.1.2.2.2.1, zh_tk m S.1.2.2.2.2 q.1.2.2.2.2), q.2)
theorem zh_r_in {Z : ze_Z} {r : Nat → Int} {R : Nat → Nat → Int} {k : Nat} {S : ze_S} {L : zx_L} {st : List Value} {h : zx_H} (hg : ze_g Z r R S L st h) : ze_g Z r R (zh_r k S) L st h := by
  obtain ⟨⟨g1, g2, g3, g4, g5, g6, g7, g8⟩, hx⟩ := hg
  exact ⟨⟨fun f hm => g1 f (zm_kp_in hm), g2, g3, g4, g5, g6, g7, fun f hm => g8 f (zm_kp_in hm)⟩, hx⟩
theorem zh_b_in {Z : ze_Z} {r r2 : Nat → Int} {R R2 : Nat → Nat → Int} {m : Nat} {S q : ze_S} {L L2 : zx_L} {st st2 : List Value} {h h2 : zx_H} (hg : ze_g Z r R S L st h) (hq : ze_g Z r2 R2 q L2 st2 h2) (hr : ∀ i, i < S.1.1 → r2 i = r i) (hn : S.1.1 ≤ q.1.1) : ze_g Z r2 R2 (zh_b m S q) L2 st2 h2 := by
  obtain ⟨⟨g1, -, -, -, -, -, -, g8⟩, -⟩ := hg
  obtain ⟨⟨q1, q2, q3, q4, q5, q6, q7, q8⟩, hx⟩ := hq
  refine ⟨⟨fun f hm => ?_, q2, q3, q4, q5, q6, q7, fun f hm => ?_⟩, hx⟩
  · rcases zh_tk_in hm with z | z
    · exact q1 f z
    · rw [zt_ev_eq hr (g8 f z)]
      exact g1 f z
  · rcases zh_tk_in hm with z | z
    · exact q8 f z
    · exact zt_lt_mono (g8 f z) hn
/-- a step: which facts it may look at, how many it makes -/
noncomputable def zh_st (m k : Nat) (A : ze_S → ze_R) (S : ze_S) : ze_R := Option.rec (motive := fun _ => ze_R) none (fun l => some (zl_map (fun q => (q.1, zh_b m S q.2)) l)) (A (zh_r k S))
theorem zh_st_in {Z : ze_Z} {T : zx_Tr zt_C} {K0 m k : Nat} {md : List (Nat × Nat)} {g : zx_F} {A : ze_S → ze_R} (hA : ze_hpr Z T K0 md g A) : ze_hpr Z T K0 md g (zh_st m k A) := by
  intro S l r R L st h hk hg hB
  unfold zh_st at hB
  cases e : A (zh_r k S) with
  | none =>
    rw [e] at hB
    exact nomatch hB
  | some l2 =>
    rw [e] at hB
    have hl : l = zl_map (fun q => (q.1, zh_b m S q.2)) l2 := (Option.some.inj hB).symm
    obtain ⟨q, h1, r2, R2, L2, st2, h2, h3, h4, h5, h6, h7, h8, h9⟩ := hA (zh_r k S) l2 r R L st h hk (zh_r_in hg) e
    refine ⟨(q.1, zh_b m S q.2), ?_, r2, R2, L2, st2, h2, h3, h4, h5, h6, h7, zh_b_in hg h8 h4 h6, h9⟩
    rw [hl, zl_map_eq]
    exact List.mem_map.mpr ⟨q, h1, rfl⟩
/-- a rule likewise -/
noncomputable def zh_c (m k : Nat) (A : ze_S → Option (List ze_S)) (S : ze_S) : Option (List ze_S) := Option.rec (motive := fun _ => Option (List ze_S)) none (fun l => some (zl_map (zh_b m S) l)) (A (zh_r k S))
theorem zh_c_in {Z : ze_Z} {T : zx_Tr zt_C} {K0 m k : Nat} {A : ze_S → Option (List ze_S)} (hA : ze_cov Z T K0 A) : ze_cov Z T K0 (zh_c m k A) := by
  intro S l r R L st h hk hg hB
  unfold zh_c at hB
  cases e : A (zh_r k S) with
  | none =>
    rw [e] at hB
    exact nomatch hB
  | some l2 =>
    rw [e] at hB
    have hl : l = zl_map (zh_b m S) l2 := (Option.some.inj hB).symm
    obtain ⟨q, h1, r2, R2, h4, h5, h6, h7, h8⟩ := hA (zh_r k S) l2 r R L st h hk (zh_r_in hg) e
    refine ⟨zh_b m S q, ?_, r2, R2, h4, h5, h6, h7, zh_b_in hg h8 h4 h6⟩
    rw [hl, zl_map_eq]
    exact List.mem_map.mpr ⟨q, h1, rfl⟩
noncomputable def zq_A (ns : List Nat) (A : ze_S → ze_R) (S : ze_S) : ze_R := List.rec (motive := fun _ => ze_R) (A S) (fun m t _ => List.rec (motive := fun _ => ze_R) (A S) (fun k _ _ => zh_st m k A S) t) ns
theorem zq_A_in {Z : ze_Z} {T : zx_Tr zt_C} {K0 : Nat} {ns : List Nat} {md : List (Nat × Nat)} {g : zx_F} {A : ze_S → ze_R} (hA : ze_hpr Z T K0 md g A) : ze_hpr Z T K0 md g (zq_A ns A) := by
  rcases ns with _ | ⟨m, _ | ⟨k, t⟩⟩
  · exact hA
  · exact hA
  · exact zh_st_in hA
