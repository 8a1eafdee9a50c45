/-! ===== a state that is one of those that another tells ===== -/
noncomputable def ze_lg (g : Nat) : List (Nat × zt_E) → Option zt_E
  | [] => none
  | q :: l => match Nat.beq q.1 g with
    | true => some q.2
    | false => ze_lg g l
noncomputable def ze_zg (A : List (Nat × zt_E)) : List (Nat × zt_E) → List (zt_V × zt_V)
  | [] => []
  | q :: l => match ze_lg q.1 A with
    | none => ze_zg A l
    | some e => ((0, e, 0), (0, q.2, 0)) :: ze_zg A l
/-- rows of cells beside rows -/
noncomputable def ze_zm (A : List (Nat × Nat)) : List (Nat × Nat) → Option (List (Nat × Nat))
  | [] => some []
  | q :: l => match ze_lm q.1 A with
    | none => none
    | some p => match ze_zm A l with
      | none => none
      | some m => some ((q.2, p) :: m)
noncomputable def ze_zn (A : List (Nat × Nat)) : List (Nat × Nat) → List (Nat × Nat)
  | [] => []
  | q :: l => match ze_lm q.1 A with
    | none => ze_zn A l
    | some p => (q.2, p) :: ze_zn A l
noncomputable def ze_rl (k0 : Nat) (rg : List (Nat × Nat)) (j : Nat) : Nat := match Nat.blt j k0 with
  | true => j
  | false => match ze_lm j rg with
    | some q => q
    | none => 0
noncomputable def ze_rs (ru : Nat → Nat) : List (Nat × Nat) → Bool
  | [] => true
  | q :: l => match Nat.beq (ru q.1) q.2 with
    | true => ze_rs ru l
    | false => false
theorem ze_zm_in {ru : Nat → Nat} {R : Nat → Nat → Int} {h : zx_H} {A : List (Nat × Nat)} (hA : ∀ q ∈ A, ze_row h q.1 (R q.2)) : ∀ {B m : List (Nat × Nat)}, ze_zm A B = some m → ze_rs ru m = true → ∀ q ∈ B, ze_row h q.1 (R (ru q.2))
  | [], m, _, _ => fun q hq => nomatch hq
  | p :: B, m, h1, h2 => by
    unfold ze_zm at h1
    split at h1
    · cases h1
    · next p2 e1 =>
      split at h1
      · cases h1
      · next m2 e2 =>
        cases h1
        unfold ze_rs at h2
        split at h2
        · next e3 =>
          intro q hq
          rcases List.mem_cons.mp hq with z | z
          · rw [z, Nat.eq_of_beq_eq_true e3]
            exact hA _ (ze_lm_in e1)
          · exact ze_zm_in hA e2 h2 q z
        · cases h2
/-- words that are there -/
noncomputable def ze_ee (F : List zt_E) (a b : zt_E) : Bool := zt_eq a b || (zt_ge F (zt_sub a b) && zt_ge F (zt_sub b a))
theorem ze_ee_in {r : Nat → Int} {F : List zt_E} (hF : zt_ok r F) {a b : zt_E} (h : ze_ee F a b = true) : zt_ev r a = zt_ev r b := by
  unfold ze_ee at h
  rcases Bool.or_eq_true_iff.mp h with z | z
  · rw [zt_eq_in z]
  · simp only [Bool.and_eq_true] at z
    have h1 := zt_ge_in hF z.1
    have h2 := zt_ge_in hF z.2
    rw [zt_sub_ev] at h1 h2
    omega
noncomputable def ze_es (F l : List zt_E) : List zt_E → Bool := List.rec (motive := fun _ => List zt_E → Bool) (fun m => List.rec (motive := fun _ => Bool) true (fun _ _ _ => false) m) (fun a _ ih m => List.rec (motive := fun _ => Bool) false (fun b m2 _ => Bool.rec (motive := fun _ => Bool) false (ih m2) (ze_ee F a b)) m) l
theorem ze_es_c (F : List zt_E) (a b : zt_E) (l m : List zt_E) : ze_es F (a :: l) (b :: m) = (match ze_ee F a b with | true => ze_es F l m | false => false) := by
  show Bool.rec (motive := fun _ => Bool) (false) (ze_es F l m) (ze_ee F a b) = _
  cases (ze_ee F a b) <;> rfl
theorem ze_es_in {r : Nat → Int} {F : List zt_E} (hF : zt_ok r F) : ∀ {l m : List zt_E}, ze_es F l m = true → l.map (zt_ev r) = m.map (zt_ev r)
  | [], [], _ => rfl
  | [], _ :: _, h => nomatch h
  | _ :: _, [], h => nomatch h
  | a :: l, b :: m, h => by
    have h9 : (match ze_ee F a b with | true => ze_es F l m | false => false) = true := by
      rw [ze_es_c] at h
      exact h
    split at h9
    · next e =>
      rw [List.map_cons, List.map_cons, ze_ee_in hF e, ze_es_in hF h9]
    · cases h9
noncomputable def ze_ns (l : List Nat) : List Nat → Bool := List.rec (motive := fun _ => List Nat → Bool) (fun m => List.rec (motive := fun _ => Bool) true (fun _ _ _ => false) m) (fun a _ ih m => List.rec (motive := fun _ => Bool) false (fun b m2 _ => Bool.rec (motive := fun _ => Bool) false (ih m2) (Nat.beq a b)) m) l
theorem ze_ns_c (a b : Nat) (l m : List Nat) : ze_ns (a :: l) (b :: m) = (match Nat.beq a b with | true => ze_ns l m | false => false) := by
  show Bool.rec (motive := fun _ => Bool) (false) (ze_ns l m) (Nat.beq a b) = _
  cases (Nat.beq a b) <;> rfl
theorem ze_ns_in : ∀ {l m : List Nat}, ze_ns l m = true → l = m
  | [], [], _ => rfl
  | [], _ :: _, h => nomatch h
  | _ :: _, [], h => nomatch h
  | a :: l, b :: m, h => by
    have h9 : (match Nat.beq a b with | true => ze_ns l m | false => false) = true := by
      rw [ze_ns_c] at h
      exact h
    split at h9
    · next e =>
      rw [Nat.eq_of_beq_eq_true e, ze_ns_in h9]
    · cases h9
noncomputable def ze_hs (F : List zt_E) (i : Nat) (q : List Nat) (es : List zt_E) (l : List ze_P) : Bool := List.rec (motive := fun _ => Bool) false (fun p _ ih => Bool.rec (motive := fun _ => Bool) ih (Bool.rec (motive := fun _ => Bool) ih (Bool.rec (motive := fun _ => Bool) ih true (ze_es F p.2.2 es)) (ze_ns p.2.1 q)) (Nat.beq p.1 i)) l
theorem ze_hs_c (F : List zt_E) (i : Nat) (q : List Nat) (es : List zt_E) (p : ze_P) (l : List ze_P) : ze_hs F i q es (p :: l) = (match Nat.beq p.1 i && (ze_ns p.2.1 q && ze_es F p.2.2 es) with
    | true => true
    | false => ze_hs F i q es l) := by
  show Bool.rec (motive := fun _ => Bool) (ze_hs F i q es l) (Bool.rec (motive := fun _ => Bool) (ze_hs F i q es l) (Bool.rec (motive := fun _ => Bool) (ze_hs F i q es l) true (ze_es F p.2.2 es)) (ze_ns p.2.1 q)) (Nat.beq p.1 i) = _
  cases Nat.beq p.1 i <;> cases ze_ns p.2.1 q <;> cases ze_es F p.2.2 es <;> rfl
theorem ze_hs_in {Z : ze_Z} {r : Nat → Int} {R : Nat → Nat → Int} {F : List zt_E} (hF : zt_ok r F) {i : Nat} {q : List Nat} {es : List zt_E} : ∀ {P : List ze_P}, (∀ p ∈ P, Z p.1 (p.2.1.map R) (p.2.2.map (zt_ev r))) → ze_hs F i q es P = true → Z i (q.map R) (es.map (zt_ev r))
  | [], _, h => nomatch h
  | p :: l, hP, h => by
    rw [ze_hs_c] at h
    split at h
    · next e =>
      simp only [Bool.and_eq_true] at e
      have h1 := hP p List.mem_cons_self
      rw [Nat.eq_of_beq_eq_true e.1, ze_ns_in e.2.1, ze_es_in hF e.2.2] at h1
      exact h1
    · exact ze_hs_in hF (fun p hp => hP p (List.mem_cons_of_mem _ hp)) h
noncomputable def zl_map {α β : Type} (f : α → β) (l : List α) : List β := List.rec (motive := fun _ => List β) [] (fun a _ ih => f a :: ih) l
theorem zl_map_eq {α β : Type} (f : α → β) : ∀ l : List α, zl_map f l = l.map f
  | [] => rfl
  | a :: l => by
    show f a :: zl_map f l = _
    rw [zl_map_eq f l, List.map_cons]
noncomputable def zl_ma {α β : Type} (f : α → β) (l : List α) (B : List β) : List β := List.rec (motive := fun _ => List β) B (fun a _ ih => f a :: ih) l
theorem zl_ma_eq {α β : Type} (f : α → β) (B : List β) : ∀ l : List α, zl_ma f l B = l.map f ++ B
  | [] => rfl
  | a :: l => by
    show f a :: zl_ma f l B = _
    rw [zl_ma_eq f B l, List.map_cons, List.cons_append]
noncomputable def ze_pl (su : Nat → zt_E) (ru : Nat → Nat) (F : List zt_E) (P l : List ze_P) : Bool := List.rec (motive := fun _ => Bool) true (fun p _ ih => Bool.rec (motive := fun _ => Bool) false ih (ze_hs F p.1 (zl_map ru p.2.1) (zl_map (zt_su su) p.2.2) P)) l
theorem ze_pl_c (su : Nat → zt_E) (ru : Nat → Nat) (F : List zt_E) (P : List ze_P) (p : ze_P) (l : List ze_P) : ze_pl su ru F P (p :: l) = (match ze_hs F p.1 (p.2.1.map ru) (p.2.2.map (zt_su su)) P with
    | true => ze_pl su ru F P l
    | false => false) := by
  show Bool.rec (motive := fun _ => Bool) false (ze_pl su ru F P l) (ze_hs F p.1 (zl_map ru p.2.1) (zl_map (zt_su su) p.2.2) P) = _
  rw [zl_map_eq, zl_map_eq]
  cases ze_hs F p.1 (p.2.1.map ru) (p.2.2.map (zt_su su)) P <;> rfl
theorem ze_pl_in {Z : ze_Z} {r : Nat → Int} {R : Nat → Nat → Int} {su : Nat → zt_E} {ru : Nat → Nat} {F : List zt_E} {P : List ze_P} (hF : zt_ok r F) (hP : ∀ p ∈ P, Z p.1 (p.2.1.map R) (p.2.2.map (zt_ev r))) : ∀ {l : List ze_P}, ze_pl su ru F P l = true → ∀ p ∈ l, Z p.1 (p.2.1.map (fun q => R (ru q))) (p.2.2.map (zt_ev (fun i => zt_ev r (su i))))
  | [], _, p, hp => nomatch hp
  | q :: l, h, p, hp => by
    rw [ze_pl_c] at h
    split at h
    · next e =>
      rcases List.mem_cons.mp hp with z | z
      · have h1 := ze_hs_in hF hP e
        rw [List.map_map, List.map_map] at h1
        rw [z]
        have h2 : q.2.2.map (zt_ev (fun i => zt_ev r (su i))) = q.2.2.map (zt_ev r ∘ zt_su su) := ze_map_eq (fun e _ => (zt_su_ev r su e).symm)
        rw [h2]
        exact h1
      · exact ze_pl_in hF hP h p z
    · cases h
noncomputable def ze_m2 (k0 kr : Nat) (S T : ze_S) (m : List (zt_V × zt_V)) (mr : List (Nat × Nat)) (sg : List (Nat × zt_E)) (rg : List (Nat × Nat)) : Bool := zt_pvs (zt_sl k0 sg) m && (zt_fcs (zt_sl k0 sg) S.1.2.2.2.2 T.1.2.2.2.2 && (ze_rs (ze_rl kr rg) mr && ze_pl (zt_sl k0 sg) (ze_rl kr rg) S.1.2.2.2.2 S.2.2.2.2.2 T.2.2.2.2.2))
noncomputable def ze_mt (k0 kr : Nat) (S T : ze_S) : Option (List (Nat × zt_E) × List (Nat × Nat)) := match zt_zl S.1.2.1 T.1.2.1 with
  | none => none
  | some m1 => match zt_zs S.1.2.2.1 T.1.2.2.1 with
    | none => none
    | some m2 => match zt_zo S.1.2.2.2.1 T.1.2.2.2.1 with
      | none => none
      | some m3 => match ze_zm S.2.2.1 T.2.2.1 with
        | none => none
        | some mr => match ze_m2 k0 kr S T (m1 ++ (m2 ++ m3)) mr (zt_sg (m1 ++ (m2 ++ m3)) ++ zt_sg (ze_zg S.2.2.2.1 T.2.2.2.1)) (mr ++ ze_zn S.2.2.2.2.1 T.2.2.2.2.1) with
          | false => none
          | true => some (zt_sg (m1 ++ (m2 ++ m3)) ++ zt_sg (ze_zg S.2.2.2.1 T.2.2.2.1), mr ++ ze_zn S.2.2.2.2.1 T.2.2.2.2.1)
theorem ze_mt_in {Z : ze_Z} {k0 kr : Nat} {S T : ze_S} {sg : List (Nat × zt_E)} {rg : List (Nat × Nat)} {r : Nat → Int} {R : Nat → Nat → Int} {L : zx_L} {st : List Value} {h : zx_H} (hw : zt_wf T.1) (hx : ze_wx T.1.1 T.2) (hg : ze_g Z r R S L st h) (hm : ze_mt k0 kr S T = some (sg, rg)) : ze_g Z (fun i => zt_ev r (zt_sl k0 sg i)) (fun q => R (ze_rl kr rg q)) T L st h := by
  unfold ze_mt at hm
  split at hm
  · cases hm
  · next m1 e1 =>
    split at hm
    · cases hm
    · next m2 e2 =>
      split at hm
      · cases hm
      · next m3 e3 =>
        split at hm
        · cases hm
        · next mr e4 =>
          split at hm
          · cases hm
          · next e5 =>
            cases hm
            unfold ze_m2 at e5
            simp only [Bool.and_eq_true] at e5
            obtain ⟨e5, e6, e7, e8⟩ := e5
            have hp := zt_pvs_in e5
            exact ⟨⟨zt_fcs_in hg.1.1 e6, zt_zl_in hg.1.2.1 e1 (fun q hq => hp q (List.mem_append_left _ hq)), zt_zs_in hg.1.2.2.1 e2 (fun q hq => hp q (List.mem_append_right _ (List.mem_append_left _ hq))), zt_zo_in hg.1.2.2.2.1 e3 (fun q hq => hp q (List.mem_append_right _ (List.mem_append_right _ hq))), hw⟩, ⟨ze_zm_in hg.2.1.1 e4 e7, ze_pl_in hg.1.1 hg.2.1.2 e8⟩, hx⟩
theorem ze_sl_lo {k0 : Nat} {sg : List (Nat × zt_E)} {r : Nat → Int} {i : Nat} (h : i < k0) : zt_ev r (zt_sl k0 sg i) = r i := by
  have e5 : zt_sl k0 sg i = zt_s i := by
    unfold zt_sl
    rw [show Nat.blt i k0 = true from Nat.ble_eq_true_of_le h]
  rw [e5, zt_s_ev]
theorem ze_rl_lo {k0 : Nat} {rg : List (Nat × Nat)} {i : Nat} (h : i < k0) : ze_rl k0 rg i = i := by
  unfold ze_rl
  rw [show Nat.blt i k0 = true from Nat.ble_eq_true_of_le h]
/-- symbols and rows that may be used: by looking -/
noncomputable def zt_ltb (n : Nat) (l : List zt_T) : Bool := List.rec (motive := fun _ => Bool) true (fun t _ ih => Bool.rec (motive := fun _ => Bool) false ih (Nat.ble (Nat.succ t.1) n)) l
theorem zt_ltb_c (n : Nat) (t : zt_T) (l : List zt_T) : zt_ltb n (t :: l) = (match Nat.blt t.1 n with
    | true => zt_ltb n l
    | false => false) := by
  show Bool.rec (motive := fun _ => Bool) false (zt_ltb n l) (Nat.blt t.1 n) = _
  cases Nat.blt t.1 n <;> rfl
theorem zt_ltb_in {n : Nat} {e : zt_E} (h : zt_ltb n e.2 = true) : zt_lt n e := by
  obtain ⟨c, l⟩ := e
  have : ∀ l : List zt_T, zt_ltb n l = true → ∀ t ∈ l, t.1 < n := by
    intro l
    induction l with
    | nil => intro _ t ht; cases ht
    | cons q l ih =>
      intro hl t ht
      rw [zt_ltb_c] at hl
      split at hl
      · next e1 =>
        rcases List.mem_cons.mp ht with z | z
        · rw [z]
          exact Nat.le_of_ble_eq_true e1
        · exact ih hl t z
      · cases hl
  exact this l h
noncomputable def ze_all {α : Type} (f : α → Bool) (l : List α) : Bool := List.rec (motive := fun _ => Bool) true (fun a _ ih => Bool.rec (motive := fun _ => Bool) false ih (f a)) l
theorem ze_all_c {α : Type} (f : α → Bool) (a : α) (l : List α) : ze_all f (a :: l) = (match f a with
    | true => ze_all f l
    | false => false) := by
  show Bool.rec (motive := fun _ => Bool) false (ze_all f l) (f a) = _
  cases f a <;> rfl
theorem ze_all_in {α : Type} {f : α → Bool} : ∀ {l : List α}, ze_all f l = true → ∀ a ∈ l, f a = true
  | [], _, a, ha => nomatch ha
  | b :: l, h, a, ha => by
    rw [ze_all_c] at h
    split at h
    · next e =>
      rcases List.mem_cons.mp ha with z | z
      · rw [z]
        exact e
      · exact ze_all_in h a z
    · cases h
noncomputable def ze_wfb (S : ze_S) : Bool := ze_all (fun q => zt_ltb S.1.1 q.2.2.1.2) S.1.2.1 && (ze_all (fun q => zt_ltb S.1.1 q.2.1.2) S.1.2.2.1 && (ze_all (fun q => zt_ltb S.1.1 q.1.2.2 && zt_ltb S.1.1 q.2.2.1.2) S.1.2.2.2.1 && (ze_all (fun f => zt_ltb S.1.1 f.2) S.1.2.2.2.2 && (ze_all (fun q => Nat.blt q.2 S.2.1) S.2.2.1 && (ze_all (fun q => zt_ltb S.1.1 q.2.2) S.2.2.2.1 && (ze_all (fun q => Nat.blt q.2 S.2.1) S.2.2.2.2.1 && ze_all (fun p => ze_all (fun i => Nat.blt i S.2.1) p.2.1 && ze_all (fun e => zt_ltb S.1.1 e.2) p.2.2) S.2.2.2.2.2))))))
theorem ze_wfb_in {S : ze_S} (h : ze_wfb S = true) : zt_wf S.1 ∧ ze_wx S.1.1 S.2 := by
  unfold ze_wfb at h
  simp only [Bool.and_eq_true] at h
  obtain ⟨h1, h2, h3, h4, h5, h6, h7, h8⟩ := h
  refine ⟨⟨fun q hq => zt_ltb_in (ze_all_in h1 q hq), fun q hq => zt_ltb_in (ze_all_in h2 q hq), fun q hq => ?_, fun f hf => zt_ltb_in (ze_all_in h4 f hf)⟩, fun q hq => Nat.le_of_ble_eq_true (ze_all_in h5 q hq), fun q hq => zt_ltb_in (ze_all_in h6 q hq), fun q hq => Nat.le_of_ble_eq_true (ze_all_in h7 q hq), fun p hp => ?_⟩
  · have := ze_all_in h3 q hq
    simp only [Bool.and_eq_true] at this
    exact ⟨zt_ltb_in this.1, zt_ltb_in this.2⟩
  · have := ze_all_in h8 p hp
    simp only [Bool.and_eq_true] at this
    exact ⟨fun i hi => Nat.le_of_ble_eq_true (ze_all_in this.1 i hi), fun e he => zt_ltb_in (ze_all_in this.2 e he)⟩
