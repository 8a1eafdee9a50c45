/-! ===== more than numbers: rows as functions, marks, words over them ===== -/
abbrev ze_P : Type := Nat × List Nat × List zt_E
/-- the next row, cells' rows, marks of numbers, marks of rows, words -/
abbrev ze_X : Type := Nat × List (Nat × Nat) × List (Nat × zt_E) × List (Nat × Nat) × List ze_P
abbrev ze_S : Type := zt_S × ze_X
abbrev ze_Z : Type := Nat → List (Nat → Int) → List Int → Prop
abbrev ze_R : Type := Option (List (Nat × ze_S))
def ze_num (v : Value) : Int := match v with
  | .int x => x.toInt
  | .long x => x.toInt
  | _ => 0
def ze_row (h : zx_H) (a : Nat) (f : Nat → Int) : Prop := ∀ (j : Nat) (v : Value), zt_at h a j = some v → ze_num v = f j
def ze_x (Z : ze_Z) (r : Nat → Int) (R : Nat → Nat → Int) (X : ze_X) (h : zx_H) : Prop := (∀ q ∈ X.2.1, ze_row h q.1 (R q.2)) ∧ ∀ p ∈ X.2.2.2.2, Z p.1 (p.2.1.map R) (p.2.2.map (zt_ev r))
def ze_wx (n : Nat) (X : ze_X) : Prop := (∀ q ∈ X.2.1, q.2 < X.1) ∧ (∀ q ∈ X.2.2.1, zt_lt n q.2) ∧ (∀ q ∈ X.2.2.2.1, q.2 < X.1) ∧ ∀ p ∈ X.2.2.2.2, (∀ i ∈ p.2.1, i < X.1) ∧ ∀ e ∈ p.2.2, zt_lt n e
def ze_g (Z : ze_Z) (r : Nat → Int) (R : Nat → Nat → Int) (S : ze_S) (L : zx_L) (st : List Value) (h : zx_H) : Prop := zt_g r S.1 L st h ∧ ze_x Z r R S.2 h ∧ ze_wx S.1.1 S.2
theorem ze_map_eq {α β : Type} {f g : α → β} : ∀ {l : List α}, (∀ x ∈ l, f x = g x) → l.map f = l.map g
  | [], _ => rfl
  | a :: l, h => by
    rw [List.map_cons, List.map_cons, h a List.mem_cons_self, ze_map_eq (fun x hx => h x (List.mem_cons_of_mem _ hx))]
theorem ze_x_eq {Z : ze_Z} {r r2 : Nat → Int} {R R2 : Nat → Nat → Int} {X : ze_X} {n : Nat} {h : zx_H} (hr : ∀ i, i < n → r2 i = r i) (hR : ∀ i, i < X.1 → R2 i = R i) (hw : ze_wx n X) (hx : ze_x Z r R X h) : ze_x Z r2 R2 X h := by
  obtain ⟨h1, h2⟩ := hx
  refine ⟨fun q hq => ?_, fun p hp => ?_⟩
  · rw [hR _ (hw.1 q hq)]
    exact h1 q hq
  · have := h2 p hp
    rw [ze_map_eq (g := R) (fun i hi => hR i ((hw.2.2.2 p hp).1 i hi)), ze_map_eq (g := zt_ev r) (fun e he => zt_ev_eq hr ((hw.2.2.2 p hp).2 e he))]
    exact this
theorem ze_wx_mono {n m : Nat} (hm : n ≤ m) {X : ze_X} (h : ze_wx n X) : ze_wx m X :=
  ⟨h.1, fun q hq => zt_lt_mono (h.2.1 q hq) hm, h.2.2.1, fun p hp => ⟨(h.2.2.2 p hp).1, fun e he => zt_lt_mono ((h.2.2.2 p hp).2 e he) hm⟩⟩
/-- whatever a step does from a state that is covered, one of the states told covers it -/
def ze_hpr (Z : ze_Z) (T : zx_Tr zt_C) (K0 : Nat) (md : List (Nat × Nat)) (g : zx_F) (A : ze_S → ze_R) : Prop := ∀ (S : ze_S) (l : List (Nat × ze_S)) (r : Nat → Int) (R : Nat → Nat → Int) (L : zx_L) (st : List Value) (h : zx_H), zt_hk T K0 h → ze_g Z r R S L st h → A S = some l →
  ∃ q ∈ l, ∃ (r2 : Nat → Int) (R2 : Nat → Nat → Int) (L2 : zx_L) (st2 : List Value) (h2 : zx_H), zt_go g L st h q.1 L2 st2 h2 ∧ (∀ i, i < S.1.1 → r2 i = r i) ∧ (∀ i, i < S.2.1 → R2 i = R i) ∧ S.1.1 ≤ q.2.1.1 ∧ S.2.1 ≤ q.2.2.1 ∧ ze_g Z r2 R2 q.2 L2 st2 h2 ∧ zt_hk T K0 h2 ∧ zt_fr md h h2
/-- the cells that aren't told keep their rows -/
noncomputable def ze_in1 (a : Nat) (l : List (Nat × Nat)) : Bool := List.rec (motive := fun _ => Bool) false (fun q _ ih => Bool.rec (motive := fun _ => Bool) ih true (Nat.beq q.1 a)) l
theorem ze_in1_c (a : Nat) (q : Nat × Nat) (l : List (Nat × Nat)) : ze_in1 a (q :: l) = (match Nat.beq q.1 a with | true => true | false => ze_in1 a l) := by
  show Bool.rec (motive := fun _ => Bool) (ze_in1 a l) (true) (Nat.beq q.1 a) = _
  cases (Nat.beq q.1 a) <;> rfl
theorem ze_in1_no {a : Nat} : ∀ {l : List (Nat × Nat)}, ze_in1 a l = false → ∀ j, (a, j) ∉ l
  | [], _, _, hm => nomatch hm
  | q :: l, h, j, hm => by
    have h9 : (match Nat.beq q.1 a with | true => true | false => ze_in1 a l) = false := by
      rw [ze_in1_c] at h
      exact h
    split at h9
    · cases h9
    · next e =>
      rcases List.mem_cons.mp hm with z | z
      · rw [← z] at e
        exact Nat.ne_of_beq_eq_false e rfl
      · exact ze_in1_no h9 j z
noncomputable def ze_dr (md l : List (Nat × Nat)) : List (Nat × Nat) := List.rec (motive := fun _ => List (Nat × Nat)) [] (fun q _ ih => Bool.rec (motive := fun _ => List (Nat × Nat)) (q :: ih) ih (ze_in1 q.1 md)) l
theorem ze_dr_c (md : List (Nat × Nat)) (q : Nat × Nat) (l : List (Nat × Nat)) : ze_dr md (q :: l) = (match ze_in1 q.1 md with
    | true => ze_dr md l
    | false => q :: ze_dr md l) := by
  show Bool.rec (motive := fun _ => List (Nat × Nat)) (q :: ze_dr md l) (ze_dr md l) (ze_in1 q.1 md) = _
  cases ze_in1 q.1 md <;> rfl
theorem ze_dr_in {md : List (Nat × Nat)} : ∀ {l : List (Nat × Nat)} {q : Nat × Nat}, q ∈ ze_dr md l → q ∈ l ∧ ze_in1 q.1 md = false
  | [], q, h => nomatch h
  | p :: l, q, h => by
    rw [ze_dr_c] at h
    split at h
    · exact ⟨List.mem_cons_of_mem _ (ze_dr_in h).1, (ze_dr_in h).2⟩
    · next e =>
      rcases List.mem_cons.mp h with z | z
      · rw [z]
        exact ⟨List.mem_cons_self, e⟩
      · exact ⟨List.mem_cons_of_mem _ (ze_dr_in z).1, (ze_dr_in z).2⟩
noncomputable def ze_dx (md : List (Nat × Nat)) (X : ze_X) : ze_X := match md with
  | [] => X
  | _ => (X.1, ze_dr md X.2.1, X.2.2)
theorem ze_dx_1 {md : List (Nat × Nat)} {X : ze_X} : (ze_dx md X).1 = X.1 := by
  unfold ze_dx
  split <;> rfl
theorem ze_dx_w {md : List (Nat × Nat)} {X : ze_X} {n : Nat} (h : ze_wx n X) : ze_wx n (ze_dx md X) := by
  unfold ze_dx
  split
  · exact h
  · exact ⟨fun q hq => h.1 q (ze_dr_in hq).1, h.2.1, h.2.2.1, h.2.2.2⟩
theorem ze_row_fr {md : List (Nat × Nat)} {h h2 : zx_H} {a : Nat} {f : Nat → Int} (hf : zt_fr md h h2) (ha : ze_in1 a md = false) (hr : ze_row h a f) : ze_row h2 a f := fun j v hv => by
  rw [hf.2 a j (ze_in1_no ha j) (ze_in1_no ha _)] at hv
  exact hr j v hv
theorem ze_dx_x {Z : ze_Z} {r : Nat → Int} {R : Nat → Nat → Int} {md : List (Nat × Nat)} {X : ze_X} {h h2 : zx_H} (hf : zt_fr md h h2) (hx : ze_x Z r R X h) : ze_x Z r R (ze_dx md X) h2 := by
  unfold ze_dx
  split
  · exact ⟨fun q hq => ze_row_fr hf rfl (hx.1 q hq), hx.2⟩
  · exact ⟨fun q hq => ze_row_fr hf (ze_dr_in hq).2 (hx.1 q (ze_dr_in hq).1), hx.2⟩
noncomputable def ze_at (X : ze_X) (l : List (Nat × zt_S)) : List (Nat × ze_S) := List.rec (motive := fun _ => List (Nat × ze_S)) [] (fun q _ ih => (q.1, (q.2, X)) :: ih) l
theorem ze_at_in {X : ze_X} : ∀ {l : List (Nat × zt_S)} {q : Nat × zt_S}, q ∈ l → (q.1, (q.2, X)) ∈ ze_at X l
  | [], q, h => nomatch h
  | p :: l, q, h => by
    rcases List.mem_cons.mp h with z | z
    · rw [z]
      exact List.mem_cons_self
    · exact List.mem_cons_of_mem _ (ze_at_in z)
theorem zt_fr_sub {md md2 : List (Nat × Nat)} {h h2 : zx_H} (hs : ∀ q ∈ md2, q ∈ md) (hf : zt_fr md2 h h2) : zt_fr md h h2 := ⟨hf.1, fun i j h1 h3 => hf.2 i j (fun z => h1 (hs _ z)) (fun z => h3 (hs _ z))⟩
theorem zt_fr_trans {md : List (Nat × Nat)} {h h2 h3 : zx_H} (h12 : zt_fr md h h2) (h23 : zt_fr md h2 h3) : zt_fr md h h3 := ⟨h23.1.trans h12.1, fun i j a b => (h23.2 i j a b).trans (h12.2 i j a b)⟩
/-- a step that knows of numbers alone -/
noncomputable def ze_l (md : List (Nat × Nat)) (A : zt_S → zt_R) (S : ze_S) : ze_R := match A S.1 with
  | none => none
  | some l => some (ze_at (ze_dx md S.2) l)
theorem ze_l_in {Z : ze_Z} {T : zx_Tr zt_C} {K0 : Nat} {md md2 : List (Nat × Nat)} {g : zx_F} {A : zt_S → zt_R} (hs : ∀ q ∈ md2, q ∈ md) (hp : zt_hpr T K0 md2 g A) : ze_hpr Z T K0 md g (ze_l md2 A) := by
  intro S l r R L st h hk hg hA
  unfold ze_l at hA
  split at hA
  · cases hA
  · next l2 e1 =>
    cases hA
    obtain ⟨q, h1, r2, L2, st2, h2, h3, h4, h5, h6, h7, h8⟩ := hp S.1 l2 r L st h hk hg.1 e1
    refine ⟨_, ze_at_in h1, r2, R, L2, st2, h2, h3, h4, fun _ _ => rfl, h5, by rw [ze_dx_1]; exact Nat.le_refl _, ⟨h6, ?_, ze_wx_mono h5 (ze_dx_w hg.2.2)⟩, h7, zt_fr_sub hs h8⟩
    exact ze_x_eq (n := S.1.1) h4 (fun _ _ => rfl) (ze_dx_w hg.2.2) (ze_dx_x h8 hg.2.1)
theorem ze_lp {Z : ze_Z} {T : zx_Tr zt_C} {K0 : Nat} {md : List (Nat × Nat)} {g : zx_F} {A : zt_S → zt_R} (hp : zt_pur g A) : ze_hpr Z T K0 md g (ze_l [] A) := ze_l_in (fun _ h => nomatch h) (zt_pur_h hp)
/-- a field changed -/
noncomputable def ze_putf (T : zx_Tr zt_C) (md : List (Nat × Nat)) (ci k : Nat) (fty : FieldType) (npc : Nat) (S : ze_S) : ze_R := match S.1.2.2.1 with
  | _ :: b :: B => match zt_md b.2.2 k md with
    | false => none
    | true => ze_l [(b.2.2, k)] (zt_aputf T [(b.2.2, k)] ci k fty npc) S
  | _ => none
theorem ze_putf_in {Z : ze_Z} {T : zx_Tr zt_C} {K0 ci k npc : Nat} {fty : FieldType} {md : List (Nat × Nat)} : ze_hpr Z T K0 md (zx_putf K0 ci k fty npc) (ze_putf T md ci k fty npc) := by
  intro S l r R L st h hk hg hA
  unfold ze_putf at hA
  split at hA
  · next a b B e1 =>
    split at hA
    · cases hA
    · next e2 =>
      exact ze_l_in (md2 := [(b.2.2, k)]) (fun q hq => by rw [List.mem_singleton.mp hq]; exact zt_md_in e2) zt_aputf_in S l r R L st h hk hg hA
  · cases hA
/-- the row of a cell -/
noncomputable def ze_lm (a : Nat) (l : List (Nat × Nat)) : Option Nat := List.rec (motive := fun _ => Option Nat) none (fun q _ ih => Bool.rec (motive := fun _ => Option Nat) ih (some q.2) (Nat.beq q.1 a)) l
theorem ze_lm_c (a : Nat) (p : Nat × Nat) (l : List (Nat × Nat)) : ze_lm a (p :: l) = (match Nat.beq p.1 a with | true => some p.2 | false => ze_lm a l) := by
  show Bool.rec (motive := fun _ => Option Nat) (ze_lm a l) (some p.2) (Nat.beq p.1 a) = _
  cases (Nat.beq p.1 a) <;> rfl
theorem ze_lm_in {a : Nat} : ∀ {l : List (Nat × Nat)} {q : Nat}, ze_lm a l = some q → (a, q) ∈ l
  | [], q, h => nomatch h
  | p :: l, q, h => by
    have h9 : (match Nat.beq p.1 a with | true => some p.2 | false => ze_lm a l) = some q := by
      rw [ze_lm_c] at h
      exact h
    split at h9
    · next e =>
      cases h9
      rw [← Nat.eq_of_beq_eq_true e]
      exact List.mem_cons_self
    · exact List.mem_cons_of_mem _ (ze_lm_in h9)
/-- what a row has become: word 1; what stands at a place: word 0 -/
def ze_Zk (Z : ze_Z) : Prop := (∀ (f : Nat → Int) (j x : Int), Z 0 [f] [j, x] ↔ (0 ≤ j ∧ f j.toNat = x)) ∧ ∀ (f g : Nat → Int) (j x : Int), Z 1 [f, g] [j, x] ↔ (0 ≤ j ∧ ∀ i : Nat, f i = if i = j.toNat then x else g i)
noncomputable def ze_ux (a : Nat) (e x : zt_E) (X : ze_X) : ze_X := (X.1 + 1, (a, X.1) :: ze_dr [(a, 999999)] X.2.1, X.2.2.1, X.2.2.2.1, match ze_lm a X.2.1 with
  | none => X.2.2.2.2
  | some q => (1, [X.1, q], [e, x]) :: X.2.2.2.2)
theorem ze_ux_w {a n : Nat} {e x : zt_E} {X : ze_X} (hw : ze_wx n X) (he : zt_lt n e) (hx : zt_lt n x) : ze_wx n (ze_ux a e x X) := by
  obtain ⟨w1, w2, w3, w4⟩ := hw
  refine ⟨fun q hq => ?_, w2, fun q hq => Nat.lt_succ_of_lt (w3 q hq), fun p hp => ?_⟩
  · rcases List.mem_cons.mp hq with z | z
    · rw [z]
      exact Nat.lt_succ_self _
    · exact Nat.lt_succ_of_lt (w1 q (ze_dr_in z).1)
  · have up : p ∈ X.2.2.2.2 → (∀ i ∈ p.2.1, i < X.1 + 1) ∧ ∀ e ∈ p.2.2, zt_lt n e := fun z => ⟨fun i hi => Nat.lt_succ_of_lt ((w4 p z).1 i hi), (w4 p z).2⟩
    have hp2 : p ∈ (match ze_lm a X.2.1 with | none => X.2.2.2.2 | some q => (1, [X.1, q], [e, x]) :: X.2.2.2.2) := hp
    split at hp2
    · exact up hp2
    · next q e1 =>
      rcases List.mem_cons.mp hp2 with z | z
      · rw [z]
        refine ⟨fun i hi => ?_, fun f hf => ?_⟩
        · rcases List.mem_cons.mp hi with y | y
          · rw [y]
            exact Nat.lt_succ_self _
          · rw [List.mem_singleton.mp y]
            exact Nat.lt_succ_of_lt (w1 _ (ze_lm_in e1))
        · rcases List.mem_cons.mp hf with y | y
          · rw [y]
            exact he
          · rw [List.mem_singleton.mp y]
            exact hx
      · exact up z
/-- a row changed -/
noncomputable def ze_st (md : List (Nat × Nat)) (A : Nat → zt_S → zt_R) (S : ze_S) : ze_R := match S.1.2.2.1 with
  | a :: b :: p :: _ => match zt_md p.2.2 999999 md && Nat.blt a.1 2 with
    | false => none
    | true => match A p.2.2 S.1 with
      | none => none
      | some l => some (ze_at (ze_ux p.2.2 b.2.1 a.2.1 S.2) l)
  | _ => none
theorem ze_num_v {r : Nat → Int} {a : zt_V} {v : Value} (ha : zt_val r a v) (ht : Nat.blt a.1 2 = true) : ze_num v = zt_ev r a.2.1 := by
  obtain ⟨t, e, i⟩ := a
  have h2 : t < 2 := Nat.le_of_ble_eq_true ht
  match t, h2, ha with
  | 0, _, ha => obtain ⟨x, rfl, h1⟩ := ha; exact h1
  | 1, _, ha => obtain ⟨x, rfl, h1⟩ := ha; exact h1
theorem ze_ux_x {Z : ze_Z} (hZ : ze_Zk Z) {r : Nat → Int} {R : Nat → Nat → Int} {X : ze_X} {n a k : Nat} {e x : zt_E} {h h2 : zx_H} {v : Value} (hw : ze_wx n X) (hx : ze_x Z r R X h) (hk : (k : Int) = zt_ev r e) (hv : ze_num v = zt_ev r x) (hat : ∀ i j, zt_at h2 i j = if i = a ∧ j = k then some v else zt_at h i j) :
    ∃ R2 : Nat → Nat → Int, (∀ i, i < X.1 → R2 i = R i) ∧ ze_x Z r R2 (ze_ux a e x X) h2 := by
  have hother : ∀ q ∈ ze_dr [(a, 999999)] X.2.1, ze_row h2 q.1 (R q.2) := fun q hq => by
    obtain ⟨h1, h3⟩ := ze_dr_in hq
    have hne : q.1 ≠ a := fun z => by
      rw [z] at h3
      have : ze_in1 a [(a, 999999)] = true := by
        rw [ze_in1_c]
        show (match Nat.beq a a with | true => true | false => ze_in1 a []) = true
        rw [Nat.beq_refl]
      rw [this] at h3
      cases h3
    intro j w hw2
    rw [hat, if_neg (fun z => hne z.1)] at hw2
    exact hx.1 q h1 j w hw2
  cases hl : ze_lm a X.2.1 with
  | none =>
    let f : Nat → Int := fun j => match zt_at h2 a j with | some w => ze_num w | none => 0
    let R2 : Nat → Nat → Int := fun i => if i = X.1 then f else R i
    have hR : ∀ i, i < X.1 → R2 i = R i := fun i hi => if_neg (Nat.ne_of_lt hi)
    have hRn : R2 X.1 = f := if_pos rfl
    refine ⟨R2, hR, fun q hq => ?_, fun p hp => ?_⟩
    · rcases List.mem_cons.mp hq with z | z
      · rw [z]
        intro j w hw2
        rw [hRn]
        show ze_num w = (match zt_at h2 a j with | some w => ze_num w | none => 0)
        have hw3 : zt_at h2 a j = some w := hw2
        rw [hw3]
      · rw [hR _ (hw.1 q (ze_dr_in z).1)]
        exact hother q z
    · have hp2 : p ∈ (match ze_lm a X.2.1 with | none => X.2.2.2.2 | some q => (1, [X.1, q], [e, x]) :: X.2.2.2.2) := hp
      rw [hl] at hp2
      exact (ze_x_eq (n := n) (fun _ _ => rfl) hR hw hx).2 p hp2
  | some q0 =>
    have hq0 := ze_lm_in hl
    let f : Nat → Int := fun j => if j = k then zt_ev r x else R q0 j
    let R2 : Nat → Nat → Int := fun i => if i = X.1 then f else R i
    have hR : ∀ i, i < X.1 → R2 i = R i := fun i hi => if_neg (Nat.ne_of_lt hi)
    have hRn : R2 X.1 = f := if_pos rfl
    refine ⟨R2, hR, fun q hq => ?_, fun p hp => ?_⟩
    · rcases List.mem_cons.mp hq with z | z
      · rw [z]
        intro j w hw2
        rw [hRn]
        show ze_num w = if j = k then zt_ev r x else R q0 j
        have hw3 : zt_at h2 a j = some w := hw2
        rw [hat] at hw3
        by_cases e1 : j = k
        · rw [if_pos ⟨rfl, e1⟩] at hw3
          cases hw3
          rw [if_pos e1]
          exact hv
        · rw [if_neg (fun z => e1 z.2)] at hw3
          rw [if_neg e1]
          exact hx.1 _ hq0 j w hw3
      · rw [hR _ (hw.1 q (ze_dr_in z).1)]
        exact hother q z
    · have hp2 : p ∈ (match ze_lm a X.2.1 with | none => X.2.2.2.2 | some q => (1, [X.1, q], [e, x]) :: X.2.2.2.2) := hp
      rw [hl] at hp2
      rcases List.mem_cons.mp hp2 with z | z
      · rw [z]
        show Z 1 [R2 X.1, R2 q0] [zt_ev r e, zt_ev r x]
        rw [hRn, hR _ (hw.1 _ hq0)]
        refine (hZ.2 _ _ _ _).mpr ⟨by rw [← hk]; exact Int.natCast_nonneg k, fun i => ?_⟩
        show (if i = k then zt_ev r x else R q0 i) = if i = (zt_ev r e).toNat then zt_ev r x else R q0 i
        rw [← hk, Int.toNat_natCast]
      · exact (ze_x_eq (n := n) (fun _ _ => rfl) hR hw hx).2 p z
theorem ze_ux_1 {a : Nat} {e x : zt_E} {X : ze_X} : X.1 ≤ (ze_ux a e x X).1 := Nat.le_succ _
theorem ze_st_in {Z : ze_Z} (hZ : ze_Zk Z) {T : zx_Tr zt_C} {K0 : Nat} {md : List (Nat × Nat)} {g : zx_F} {A : Nat → zt_S → zt_R} (hp : ∀ i, zt_hst T K0 [(i, 999999)] g (A i)) : ze_hpr Z T K0 md g (ze_st md A) := by
  intro S l r R L st h hk hg hA
  unfold ze_st at hA
  split at hA
  · next a b p B e1 =>
    split at hA
    · cases hA
    · next e2 =>
      split at hA
      · cases hA
      · next l2 e3 =>
        cases hA
        simp only [Bool.and_eq_true] at e2
        obtain ⟨q, h1, us, h2, k, v, a2, b2, p2, B2, h3, h4, h5, h6, h7, h8, h9, h10, h11⟩ := hp p.2.2 S.1 l2 r L st h hk hg.1 e3
        rw [e1] at h3
        cases h3
        have hw := hg.1.2.2.2.2.2.1
        rw [e1] at hw
        have ha := hw a List.mem_cons_self
        have hb := hw b (List.mem_cons_of_mem _ List.mem_cons_self)
        obtain ⟨R2, g1, g2⟩ := ze_ux_x hZ hg.2.2 hg.2.1 h10 (ze_num_v h11 e2.2) h9
        refine ⟨_, ze_at_in h1, r, R2, L, us, h2, h4, fun _ _ => rfl, g1, h5, ze_ux_1, ⟨h6, g2, ze_wx_mono h5 (ze_ux_w hg.2.2 hb ha)⟩, h7, zt_fr_sub (fun q hq => ?_) h8⟩
        rw [List.mem_singleton.mp hq]
        exact zt_md_in e2.1
  · cases hA
