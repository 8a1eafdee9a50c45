/-! ===== a method's run ===== -/
noncomputable def zx_cf : List (Nat × zx_F) → zx_Tr zx_F
  | [] => zx_e10 zx_F
  | q :: r => match Nat.blt q.1 300000 with
    | true => zx_s10 q.2 (zx_cf r) q.1
    | false => zx_cf r
noncomputable def zx_fd (l : List (Nat × zx_F)) (k : Nat) : Option zx_F := zx_g10 (zx_cf l) k
theorem zx_fd_mem : ∀ {l : List (Nat × zx_F)} {k : Nat} {f : zx_F}, zx_fd l k = some f → (k, f) ∈ l
  | [], k, f, h => by
    unfold zx_fd zx_cf at h
    rw [zx_tg_e] at h
    exact nomatch h
  | (i, g) :: r, k, f, h => by
    unfold zx_fd zx_cf at h
    dsimp only at h
    cases e : Nat.blt i 300000 with
    | false =>
      rw [e] at h
      exact List.mem_cons_of_mem _ (zx_fd_mem h)
    | true =>
      rw [e] at h
      dsimp only at h
      rw [zx_tg_ts g _ i k (Nat.le_of_ble_eq_true e)] at h
      by_cases e2 : k = i
      · rw [if_pos e2] at h
        cases h
        rw [e2]
        exact List.mem_cons_self
      · rw [if_neg e2] at h
        exact List.mem_cons_of_mem _ (zx_fd_mem h)
/-- the run: fuel, how deep calls may go, the code, where it stands; mm: calls that are known -/
noncomputable def zx_run (MT : List zx_M) (mm : Nat → zx_C) : Nat → Nat → List (Nat × zx_F) → Nat → zx_L → List Value → zx_H → Nat → zx_R
  | 0, _, _, _, _, _, _, _ => none
  | f + 1, d, code, pc, L, st, h, sl => match zx_fd code pc with
    | none => none
    | some F => F (fun mi as h1 s1 => match d with
      | 0 => none
      | d2 + 1 => match mm d2 mi as h1 s1 with
        | some r => some r
        | none => match zx_nth MT mi with
          | none => none
          | some M => match Nat.ble (zx_cats as) M.2.2.1 with
            | true => zx_run MT mm f d2 M.2.2.2.2 0 (lv_args 0 as) [] h1 s1
            | false => none) L st h sl (fun pc2 L2 st2 h2 s2 => zx_run MT mm f d code pc2 L2 st2 h2 s2)
theorem zx_lv_args {ad : zx_D} : ∀ {as cs : List Value} (i : Nat), zx_vs ad as cs → zx_lv ad (lv_args i as) (lv_args i cs)
  | [], [], _, _ => trivial
  | [], _ :: _, _, h => absurd h (fun q => q)
  | _ :: _, [], _, h => absurd h (fun q => q)
  | a :: as, c :: cs, i, h => by
    unfold lv_args
    rw [zx_cat h.1]
    exact ⟨⟨rfl, h.1⟩, zx_lv_args _ h.2⟩
theorem zx_lg_len : ∀ (l : List Value), (lg_sl l).length = zx_cats l
  | [] => rfl
  | a :: r => by
    have ih := zx_lg_len r
    unfold lg_sl at ih ⊢
    rw [List.flatMap_cons, List.length_append, ih]
    show _ = a.category + zx_cats r
    congr 1
    cases a <;> rfl
/-- the entry -/
theorem zx_entry {P : zx_P} {G : zx_G} {M : zx_M} {d : Nat} {as : List Value} {h : zx_H} {sl : Nat} {res : zx_T} (hm : zx_mok P M) (ha : zx_cats as ≤ M.2.2.1) (hw : zx_w P G M (zx_EM P G h.1 sl res) d h.1 sl res 0 (lv_args 0 as) [] h sl) :
    Met G.1 M.1 (zx_ws P M) (zx_rm d (res.2.1.1 - h.1) (res.2.2 - sl)) (zx_pc P G as h) (zx_q P G res) (res.2.1.1 - h.1) (res.2.2 - sl) (fun a => G.2.2.2.2.1 ≤ a) := by
  refine Met.ofW (cc := M.2.1) (maxL := M.2.2.1) (ret := M.2.2.2.1) hm.1 rfl ?_
  intro p e s m args below meth c s₁ B hml hv
  obtain ⟨⟨cs, hcs, rfl⟩, hh, hK, hx⟩ := hv
  rw [lg_entry_eq]
  have h9 := hw p e s m cs.toArray below meth c ⟨B.exec, B.bytes, B.returns, hml, findClass_of_methodNamed B.named, fun w hw => atoms_spec (ws := zx_ws P M) B.pre w (List.mem_cons_of_mem _ hw), B.notSynchronized, hK, fun q => (name_of_methodNamed B.named B.method).1.trans q, hx⟩ s.heap [] _ (lv_args 0 cs) [] hh (fun q hq => absurd hq List.not_mem_nil) (lv_entry cs (by rw [zx_lg_len, ← zx_cats_vs hcs]; exact ha)) (zx_lv_args 0 hcs) trivial (Nat.le_refl _) (Nat.le_refl _)
  rw [Nat.sub_self, Nat.sub_self] at h9
  exact h9
/-- what known calls must be -/
noncomputable def zx_mem (P : zx_P) (G : zx_G) (mm : Nat → zx_C) : Prop := ∀ (d2 mi : Nat) (as : List Value) (h : zx_H) (s1 : Nat) (r : zx_T), mm d2 mi as h s1 = some r → zx_met P G (d2 + 1) mi as h s1 r
noncomputable def zx_all (P : zx_P) (G : zx_G) : Prop := ∀ M ∈ P.2.2.2.1, zx_mok P M ∧ ∀ q ∈ M.2.2.2.2, zx_ok P G M q.1 q.2
/-- a run of any steps of one method, to any end -/
theorem zx_runE_ok {P : zx_P} {G : zx_G} {mm : Nat → zx_C} (hok : zx_all P G) (hmm : zx_mem P G mm) : ∀ (f d : Nat) (M : zx_M) (code : List (Nat × zx_F)) (E : zx_E) (k0 s0 : Nat) (pc : Nat) (L : zx_L) (st : List Value) (h : zx_H) (sl : Nat) (res : zx_T), (∀ q ∈ code, zx_okF P G M E d k0 s0 res q.1 q.2) → zx_EE P G E k0 s0 res → zx_run P.2.2.2.1 mm f d code pc L st h sl = some res →
    h.1 ≤ res.2.1.1 ∧ sl ≤ res.2.2 ∧ zx_w P G M E d k0 s0 res pc L st h sl := by
  intro f
  induction f with
  | zero => intro d M code E k0 s0 pc L st h sl res _ _ hr; cases hr
  | succ f ih =>
    intro d M code E k0 s0 pc L st h sl res hcode hE hr
    unfold zx_run at hr
    split at hr
    · cases hr
    · next F e1 =>
      have hF := hcode _ (zx_fd_mem e1)
      have hrec : ∀ mi as h1 s1 r, (fun mi as h1 s1 => match d with
        | 0 => (none : zx_R)
        | d2 + 1 => match mm d2 mi as h1 s1 with
          | some r => some r
          | none => match zx_nth P.2.2.2.1 mi with
            | none => none
            | some M => match Nat.ble (zx_cats as) M.2.2.1 with
              | true => zx_run P.2.2.2.1 mm f d2 M.2.2.2.2 0 (lv_args 0 as) [] h1 s1
              | false => none : zx_C) mi as h1 s1 = some r → zx_met P G d mi as h1 s1 r := by
        intro mi as h1 s1 r hq
        dsimp only at hq
        split at hq
        · cases hq
        · next d2 =>
          split at hq
          · next r2 e2 =>
            cases hq
            exact hmm d2 mi as h1 s1 r e2
          · split at hq
            · cases hq
            · next M2 e3 =>
              split at hq
              · next e4 =>
                rw [zx_nth_eq] at e3
                have hM2 : M2 ∈ P.2.2.2.1 := List.mem_of_getElem? e3
                obtain ⟨a1, a2, a3⟩ := ih d2 M2 M2.2.2.2.2 (zx_EM P G h1.1 s1 r) h1.1 s1 0 _ _ h1 s1 r (fun q hq => (hok M2 hM2).2 q hq _ _ _ _ _) (fun _ _ _ _ _ _ _ _ _ z => z) hq
                exact ⟨a1, a2, d2, Nat.lt_succ_self d2, M2, e3, zx_entry (hok M2 hM2).1 (Nat.le_of_ble_eq_true e4) a3⟩
              · cases hq
      exact hF _ _ L st h sl hE hr hrec (fun pc2 L2 st2 h2 s2 hq => ih d M code E k0 s0 pc2 L2 st2 h2 s2 res hcode hE hq)
/-- a call's run, by its number -/
noncomputable def zx_call0 (P : zx_P) (mm : Nat → zx_C) (f d mi : Nat) (as : List Value) (h : zx_H) (sl : Nat) : zx_R := match zx_nth P.2.2.2.1 mi with
  | none => none
  | some M => match Nat.ble (zx_cats as) M.2.2.1 with
    | true => zx_run P.2.2.2.1 mm f d M.2.2.2.2 0 (lv_args 0 as) [] h sl
    | false => none
theorem zx_call0_ok {P : zx_P} {G : zx_G} {mm : Nat → zx_C} (hok : zx_all P G) (hmm : zx_mem P G mm) {f d mi : Nat} {as : List Value} {h : zx_H} {sl : Nat} {r : zx_T} (hr : zx_call0 P mm f d mi as h sl = some r) : zx_met P G (d + 1) mi as h sl r := by
  unfold zx_call0 at hr
  split at hr
  · cases hr
  · next M2 e3 =>
    split at hr
    · next e4 =>
      rw [zx_nth_eq] at e3
      have hM2 : M2 ∈ P.2.2.2.1 := List.mem_of_getElem? e3
      obtain ⟨a1, a2, a3⟩ := zx_runE_ok hok hmm f d M2 M2.2.2.2.2 (zx_EM P G h.1 sl r) h.1 sl 0 _ _ h sl r (fun q hq => (hok M2 hM2).2 q hq _ _ _ _ _) (fun _ _ _ _ _ _ _ _ _ z => z) hr
      exact ⟨a1, a2, d, Nat.lt_succ_self d, M2, e3, zx_entry (hok M2 hM2).1 (Nat.le_of_ble_eq_true e4) a3⟩
    · cases hr
