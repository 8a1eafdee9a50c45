/-! ===== one state covered by another; contracts ===== -/
/-- what the symbols of the one are in the other: told by the places that they have -/
noncomputable def zt_sg : List (zt_V × zt_V) → List (Nat × zt_E)
  | [] => []
  | q :: l => match q.2.2.1 with
    | (c, [(n, k)]) => match decide (c = 0) && decide (k = 1) with
      | true => (n, q.1.2.1) :: zt_sg l
      | false => zt_sg l
    | _ => zt_sg l
noncomputable def zt_sl (k0 : Nat) (sg : List (Nat × zt_E)) (j : Nat) : zt_E := match Nat.blt j k0 with
  | true => zt_s j
  | false => match sg with
    | [] => (0, [])
    | q :: l => match Nat.beq q.1 j with
      | true => q.2
      | false => zt_sl k0 l j
noncomputable def zt_pvo (su : Nat → zt_E) (a b : zt_V) : Bool := match b.1 with
  | 0 => Nat.beq a.1 0 && zt_eq (zt_su su b.2.1) a.2.1
  | 1 => Nat.beq a.1 1 && zt_eq (zt_su su b.2.1) a.2.1
  | 2 => Nat.beq a.1 2 && Nat.beq a.2.2 b.2.2
  | 3 => Nat.beq a.1 3
  | 5 => Nat.beq a.1 5
  | _ => false
noncomputable def zt_pv (su : Nat → zt_E) (a b : zt_V) : Bool := Bool.rec (motive := fun _ => Bool) (Bool.rec (motive := fun _ => Bool) (zt_pvo su a b) (Bool.rec (motive := fun _ => Bool) false (Nat.beq a.2.2 b.2.2) (Nat.beq a.1 2)) (Nat.beq b.1 2)) (Bool.rec (motive := fun _ => Bool) false (zt_eq (zt_su su b.2.1) a.2.1) (Nat.beq a.1 0)) (Nat.beq b.1 0)
theorem zt_pv_o (su : Nat → zt_E) (a b : zt_V) : zt_pv su a b = zt_pvo su a b := by
  obtain ⟨tb, f, j⟩ := b
  cases tb with
  | zero =>
    show Bool.rec (motive := fun _ => Bool) false (zt_eq (zt_su su f) a.2.1) (Nat.beq a.1 0) = (Nat.beq a.1 0 && zt_eq (zt_su su f) a.2.1)
    cases Nat.beq a.1 0 <;> rfl
  | succ t1 => cases t1 with
    | zero => rfl
    | succ t2 => cases t2 with
      | zero =>
        show Bool.rec (motive := fun _ => Bool) false (Nat.beq a.2.2 j) (Nat.beq a.1 2) = (Nat.beq a.1 2 && Nat.beq a.2.2 j)
        cases Nat.beq a.1 2 <;> rfl
      | succ t3 => rfl
theorem zt_pvo_in {su : Nat → zt_E} {r : Nat → Int} {a b : zt_V} {v : Value} (h : zt_pvo su a b = true) (ha : zt_val r a v) : zt_val (fun i => zt_ev r (su i)) b v := by
  obtain ⟨t, e, i⟩ := a
  obtain ⟨tb, f, j⟩ := b
  match tb, h with
  | 0, h =>
    have h9 : (Nat.beq t 0 && zt_eq (zt_su su f) e) = true := h
    simp only [Bool.and_eq_true] at h9
    obtain rfl : t = 0 := Nat.eq_of_beq_eq_true h9.1
    obtain ⟨x, h1, h2⟩ := ha
    refine ⟨x, h1, ?_⟩
    have h3 : x.toInt = zt_ev r e := h2
    rw [h3, ← zt_eq_in h9.2, zt_su_ev]
  | 1, h =>
    have h9 : (Nat.beq t 1 && zt_eq (zt_su su f) e) = true := h
    simp only [Bool.and_eq_true] at h9
    obtain rfl : t = 1 := Nat.eq_of_beq_eq_true h9.1
    obtain ⟨x, h1, h2⟩ := ha
    refine ⟨x, h1, ?_⟩
    have h3 : x.toInt = zt_ev r e := h2
    rw [h3, ← zt_eq_in h9.2, zt_su_ev]
  | 2, h =>
    have h9 : (Nat.beq t 2 && Nat.beq i j) = true := h
    simp only [Bool.and_eq_true] at h9
    obtain rfl : t = 2 := Nat.eq_of_beq_eq_true h9.1
    have h3 : i = j := Nat.eq_of_beq_eq_true h9.2
    have h4 : v = .ref i := ha
    show v = .ref j
    rw [h4, h3]
  | 3, h =>
    obtain rfl : t = 3 := Nat.eq_of_beq_eq_true h
    exact ha
  | 5, h =>
    obtain rfl : t = 5 := Nat.eq_of_beq_eq_true h
    exact ha
  | 4, h => exact nomatch h
  | n + 6, h => exact nomatch h
theorem zt_pv_in {su : Nat → zt_E} {r : Nat → Int} {a b : zt_V} {v : Value} (h : zt_pv su a b = true) (ha : zt_val r a v) : zt_val (fun i => zt_ev r (su i)) b v := zt_pvo_in (by rw [← zt_pv_o]; exact h) ha
noncomputable def zt_pvs (su : Nat → zt_E) (l : List (zt_V × zt_V)) : Bool := List.rec (motive := fun _ => Bool) true (fun q _ ih => Bool.rec (motive := fun _ => Bool) false ih (zt_pv su q.1 q.2)) l
theorem zt_pvs_c (su : Nat → zt_E) (q : zt_V × zt_V) (l : List (zt_V × zt_V)) : zt_pvs su (q :: l) = (match zt_pv su q.1 q.2 with
    | true => zt_pvs su l
    | false => false) := by
  show Bool.rec (motive := fun _ => Bool) false (zt_pvs su l) (zt_pv su q.1 q.2) = _
  cases zt_pv su q.1 q.2 <;> rfl
theorem zt_pvs_in {su : Nat → zt_E} : ∀ {l : List (zt_V × zt_V)}, zt_pvs su l = true → ∀ q ∈ l, zt_pv su q.1 q.2 = true
  | [], _, q, hq => nomatch hq
  | p :: l, h, q, hq => by
    rw [zt_pvs_c] at h
    split at h
    · next e =>
      rcases List.mem_cons.mp hq with z | z
      · rw [z]; exact e
      · exact zt_pvs_in h q z
    · cases h
noncomputable def zt_fcs (su : Nat → zt_E) (F : List zt_E) : List zt_E → Bool
  | [] => true
  | f :: l => match zt_ge F (zt_su su f) with
    | true => zt_fcs su F l
    | false => false
theorem zt_fcs_in {su : Nat → zt_E} {r : Nat → Int} {F : List zt_E} (hF : zt_ok r F) : ∀ {l : List zt_E}, zt_fcs su F l = true → zt_ok (fun i => zt_ev r (su i)) l
  | [], _ => fun f hf => nomatch hf
  | f :: l, h => by
    unfold zt_fcs at h
    split at h
    · next e =>
      intro g hg
      rcases List.mem_cons.mp hg with z | z
      · rw [z, ← zt_su_ev]
        exact zt_ge_in hF e
      · exact zt_fcs_in hF h g z
    · cases h
/-- the locals, the stack, the places of the one beside those of the other -/
noncomputable def zt_zl (A B : List (Nat × zt_V)) : Option (List (zt_V × zt_V)) := List.rec (motive := fun _ => Option (List (zt_V × zt_V))) (some []) (fun q _ ih => Option.rec (motive := fun _ => Option (List (zt_V × zt_V))) none (fun a => Option.rec (motive := fun _ => Option (List (zt_V × zt_V))) none (fun m => some ((a, q.2) :: m)) ih) (zt_lk A q.1)) B
theorem zt_zl_c (A : List (Nat × zt_V)) (q : Nat × zt_V) (l : List (Nat × zt_V)) : zt_zl A (q :: l) = (match zt_lk A q.1 with
    | none => none
    | some a => match zt_zl A l with
      | none => none
      | some m => some ((a, q.2) :: m)) := by
  show Option.rec (motive := fun _ => Option (List (zt_V × zt_V))) none (fun a => Option.rec (motive := fun _ => Option (List (zt_V × zt_V))) none (fun m => some ((a, q.2) :: m)) (zt_zl A l)) (zt_lk A q.1) = _
  cases zt_lk A q.1 with
  | none => rfl
  | some a => cases zt_zl A l <;> rfl
noncomputable def zt_zs : List zt_V → List zt_V → Option (List (zt_V × zt_V))
  | [], [] => some []
  | a :: A, b :: B => match zt_zs A B with
    | none => none
    | some m => some ((a, b) :: m)
  | _, _ => none
/-- places with numbers that are known alone -/
noncomputable def zt_zo (A : List ((Nat × zt_E) × zt_V)) : List ((Nat × zt_E) × zt_V) → Option (List (zt_V × zt_V))
  | [] => some []
  | q :: l => match q.1.2.2 with
    | [] => match zt_fo q.1.1 q.1.2 A with
      | none => none
      | some a => match zt_zo A l with
        | none => none
        | some m => some ((a, q.2) :: m)
    | _ => none
theorem zt_zl_in {r : Nat → Int} {su : Nat → zt_E} {A : List (Nat × zt_V)} {L : zx_L} (hA : zt_L r A L) : ∀ {B : List (Nat × zt_V)} {m : List (zt_V × zt_V)}, zt_zl A B = some m → (∀ q ∈ m, zt_pv su q.1 q.2 = true) → zt_L (fun i => zt_ev r (su i)) B L
  | [], m, _, _ => fun q hq => nomatch hq
  | p :: B, m, h, hm => by
    rw [zt_zl_c] at h
    split at h
    · cases h
    · next a e1 =>
      split at h
      · cases h
      · next m2 e2 =>
        cases h
        intro q hq
        rcases List.mem_cons.mp hq with z | z
        · rw [z]
          obtain ⟨v, h1, h2⟩ := hA _ (zt_lk_in e1)
          exact ⟨v, h1, zt_pv_in (hm _ List.mem_cons_self) h2⟩
        · exact zt_zl_in hA e2 (fun q hq => hm q (List.mem_cons_of_mem _ hq)) q z
theorem zt_zs_in {r : Nat → Int} {su : Nat → zt_E} : ∀ {A B : List zt_V} {st : List Value} {m : List (zt_V × zt_V)}, zt_vs r A st → zt_zs A B = some m → (∀ q ∈ m, zt_pv su q.1 q.2 = true) → zt_vs (fun i => zt_ev r (su i)) B st
  | [], [], st, m, hA, _, _ => by
    cases st with
    | nil => trivial
    | cons _ _ => exact absurd hA (fun z => z)
  | [], _ :: _, st, m, _, h, _ => nomatch h
  | _ :: _, [], st, m, _, h, _ => nomatch h
  | a :: A, b :: B, st, m, hA, h, hm => by
    have h9 : (match zt_zs A B with | none => none | some m => some ((a, b) :: m)) = some m := h
    split at h9
    · cases h9
    · next m2 e2 =>
      cases h9
      obtain ⟨v, vs, rfl, h1, h2⟩ := zt_vs_cons hA
      exact ⟨zt_pv_in (hm _ List.mem_cons_self) h1, zt_zs_in h2 e2 (fun q hq => hm q (List.mem_cons_of_mem _ hq))⟩
theorem zt_zo_in {r : Nat → Int} {su : Nat → zt_E} {A : List ((Nat × zt_E) × zt_V)} {h : zx_H} (hA : zt_o r A h) : ∀ {B : List ((Nat × zt_E) × zt_V)} {m : List (zt_V × zt_V)}, zt_zo A B = some m → (∀ q ∈ m, zt_pv su q.1 q.2 = true) → zt_o (fun i => zt_ev r (su i)) B h
  | [], m, _, _ => fun q hq => nomatch hq
  | p :: B, m, h9, hm => by
    unfold zt_zo at h9
    split at h9
    · next e0 =>
      split at h9
      · cases h9
      · next a e1 =>
        split at h9
        · cases h9
        · next m2 e2 =>
          cases h9
          intro q hq
          rcases List.mem_cons.mp hq with z | z
          · rw [z]
            obtain ⟨j, v, h1, h2, h3⟩ := hA _ (zt_fo_in e1)
            refine ⟨j, v, ?_, h2, zt_pv_in (hm _ List.mem_cons_self) h3⟩
            have h4 : (j : Int) = zt_ev r p.1.2 := h1
            rw [h4, zt_kev e0, zt_kev e0]
          · exact zt_zo_in hA e2 (fun q hq => hm q (List.mem_cons_of_mem _ hq)) q z
    · cases h9
/-- one state covered by another: its first k0 symbols are the same -/
noncomputable def zt_imp (k0 : Nat) (S T : zt_S) : Bool := match zt_zl S.2.1 T.2.1 with
  | none => false
  | some m1 => match zt_zs S.2.2.1 T.2.2.1 with
    | none => false
    | some m2 => match zt_zo S.2.2.2.1 T.2.2.2.1 with
      | none => false
      | some m3 => match zt_pvs (zt_sl k0 (zt_sg (m1 ++ (m2 ++ m3)))) (m1 ++ (m2 ++ m3)) with
        | false => false
        | true => zt_fcs (zt_sl k0 (zt_sg (m1 ++ (m2 ++ m3)))) S.2.2.2.2 T.2.2.2.2
theorem zt_imp_in {k0 : Nat} {S T : zt_S} {r : Nat → Int} {L : zx_L} {st : List Value} {h : zx_H} (hw : zt_wf T) (hg : zt_g r S L st h) (hi : zt_imp k0 S T = true) : ∃ r2 : Nat → Int, (∀ i, i < k0 → r2 i = r i) ∧ zt_g r2 T L st h := by
  unfold zt_imp at hi
  split at hi
  · cases hi
  · next m1 e1 =>
    split at hi
    · cases hi
    · next m2 e2 =>
      split at hi
      · cases hi
      · next m3 e3 =>
        split at hi
        · cases hi
        · next e4 =>
          have hm := zt_pvs_in e4
          refine ⟨fun i => zt_ev r (zt_sl k0 (zt_sg (m1 ++ (m2 ++ m3))) i), fun i hik => ?_, zt_fcs_in hg.1 hi, zt_zl_in hg.2.1 e1 (fun q hq => hm q (List.mem_append_left _ hq)), zt_zs_in hg.2.2.1 e2 (fun q hq => hm q (List.mem_append_right _ (List.mem_append_left _ hq))), zt_zo_in hg.2.2.2.1 e3 (fun q hq => hm q (List.mem_append_right _ (List.mem_append_right _ hq))), hw⟩
          have e5 : zt_sl k0 (zt_sg (m1 ++ (m2 ++ m3))) i = zt_s i := by
            unfold zt_sl
            rw [show Nat.blt i k0 = true from Nat.ble_eq_true_of_le hik]
          show zt_ev r (zt_sl k0 (zt_sg (m1 ++ (m2 ++ m3))) i) = r i
          rw [e5, zt_s_ev]
/-- arguments as locals -/
noncomputable def zt_la : Nat → List zt_V → List (Nat × zt_V)
  | _, [] => []
  | i, a :: l => (i, a) :: zt_la (i + (match Nat.beq a.1 1 with | true => 2 | false => 1)) l
theorem zt_catv {r : Nat → Int} {a : zt_V} {v : Value} (h : zt_val r a v) : v.category = (match Nat.beq a.1 1 with | true => 2 | false => 1) := by
  cases e : Nat.beq a.1 1 with
  | true =>
    obtain ⟨t, e2, i⟩ := a
    obtain rfl : t = 1 := Nat.eq_of_beq_eq_true e
    obtain ⟨x, rfl, -⟩ := h
    rfl
  | false => exact zt_cat1 h e
theorem zt_la_lo : ∀ {l : List zt_V} {i : Nat} {q : Nat × zt_V}, q ∈ zt_la i l → i ≤ q.1
  | [], i, q, h => nomatch h
  | a :: l, i, q, h => by
    rcases List.mem_cons.mp h with z | z
    · rw [z]
      exact Nat.le_refl _
    · have := zt_la_lo z
      omega
theorem zt_la_in {r : Nat → Int} : ∀ {l : List zt_V} {as : List Value} {i : Nat}, zt_vs r l as → zt_L r (zt_la i l) (lv_args i as)
  | [], as, i, _ => fun q hq => nomatch hq
  | a :: l, as, i, h => by
    obtain ⟨v, vs, rfl, h1, h2⟩ := zt_vs_cons h
    have hc := zt_catv h1
    intro q hq
    have hq2 : q ∈ (i, a) :: zt_la (i + (match Nat.beq a.1 1 with | true => 2 | false => 1)) l := hq
    have hx : lv_args i (v :: vs) = (i, v) :: lv_args (i + (match Nat.beq a.1 1 with | true => 2 | false => 1)) vs := by
      show (i, v) :: lv_args (if v.category = 2 then i + 2 else i + 1) vs = _
      cases eb : Nat.beq a.1 1 with
      | true =>
        rw [eb] at hc
        rw [if_pos hc]
      | false =>
        rw [eb] at hc
        have hc2 : v.category = 1 := hc
        rw [if_neg (by rw [hc2]; decide)]
    rw [hx]
    rcases List.mem_cons.mp hq2 with z | z
    · rw [z]
      refine ⟨v, ?_, h1⟩
      show (if Nat.beq i i then some v else _) = some v
      rw [if_pos (Nat.beq_refl i)]
    · have lo := zt_la_lo z
      obtain ⟨u, h3, h4⟩ := zt_la_in (i := i + (match Nat.beq a.1 1 with | true => 2 | false => 1)) h2 q z
      refine ⟨u, ?_, h4⟩
      show (if Nat.beq i q.1 then some v else zx_ld (lv_args (i + (match Nat.beq a.1 1 with | true => 2 | false => 1)) vs) q.1) = some u
      rw [if_neg (fun y => by
        have := Nat.eq_of_beq_eq_true y
        cases eb : Nat.beq a.1 1 <;> rw [eb] at lo <;> dsimp only at lo <;> omega)]
      exact h3
/-- what is known at a method's end: the next symbol, its answer, places, facts -/
abbrev zt_P : Type := Nat × Option zt_V × List ((Nat × zt_E) × zt_V) × List zt_E
noncomputable def zt_pr1 (r : Nat → Int) (a : Option zt_V) (v : Option Value) : Prop := match a, v with
  | none, none => True
  | some a, some v => zt_val r a v
  | _, _ => False
noncomputable def zt_po (r : Nat → Int) (p : zt_P) (v : Option Value) (h : zx_H) : Prop := zt_ok r p.2.2.2 ∧ zt_pr1 r p.2.1 v ∧ zt_o r p.2.2.1 h
/-- a contract: the method, symbols at the start, arguments, places, facts; the ends; what may change -/
abbrev zt_K : Type := Nat × (Nat × List zt_V × List ((Nat × zt_E) × zt_V) × List zt_E) × List zt_P × List (Nat × Nat)
noncomputable def zt_ke (c : zt_K) : zt_S := (c.2.1.1, zt_la 0 c.2.1.2.1, [], c.2.1.2.2.1, c.2.1.2.2.2)
noncomputable def zt_kt (Fo : zx_M → zx_Tr zr_E → Nat → Option zx_F) (Q : List (zx_M × zx_Tr zr_E)) (T : zx_Tr zt_C) (K0 d : Nat) (c : zt_K) : Prop := ∀ (as : List Value) (h : zx_H) (sl : Nat) (r : Nat → Int), zt_hk T K0 h → zt_vs r c.2.1.2.1 as → zt_g r (zt_ke c) (lv_args 0 as) [] h →
  ∃ (f0 : Nat) (v : Option Value) (h2 : zx_H), (∀ f, f0 ≤ f → zr_call Fo Q f d c.1 as h sl = some (v, h2, sl)) ∧ zt_hk T K0 h2 ∧ zt_fr c.2.2.2 h h2 ∧ ∃ p ∈ c.2.2.1, ∃ r2 : Nat → Int, (∀ i, i < c.2.1.1 → r2 i = r i) ∧ zt_po r2 p v h2
