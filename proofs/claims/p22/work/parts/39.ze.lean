/-! ===== words that say something of all places of a stretch ===== -/
/-- how many numbers, what is read (a row's number, the place), clauses; names: the place, numbers, what was read -/
abbrev zw_D : Type := Nat × List (Nat × zt_E) × List (List zt_E)
noncomputable def zw_go (Rs : Nat → Nat → Int) : List (Nat × zt_E) → Nat → (Nat → Int) → Nat → Int
  | [], _, r => r
  | q :: l, n, r => zw_go Rs l (n + 1) (fun k => if k = n then Rs q.1 (zt_ev r q.2).toNat else r k)
def zw_e0 (i : Int) (ps : List Int) (k : Nat) : Int := match k with
  | 0 => i
  | k + 1 => match ps[k]? with
    | some x => x
    | none => 0
def zw_rw (rows : List (Nat → Int)) (j : Nat) : Nat → Int := match rows[j]? with
  | some f => f
  | none => fun _ => 0
def zw_cl (r : Nat → Int) (cls : List (List zt_E)) : Prop := ∀ cl ∈ cls, ∃ f ∈ cl, 0 ≤ zt_ev r f
def zw_at (d : zw_D) (rows : List (Nat → Int)) (i : Int) (ps : List Int) : Prop := zw_cl (zw_go (zw_rw rows) d.2.1 (d.1 + 1) (zw_e0 i ps)) d.2.2
def zw_all (d : zw_D) (rows : List (Nat → Int)) (es : List Int) : Prop := match es with
  | a :: b :: ps => ∀ i : Int, a ≤ i → i < b → zw_at d rows i ps
  | _ => True
/-- 0 what stands at a place, 1 what a row has become, from 10 on those that are laid down -/
def zw_Z (WD : List zw_D) : ze_Z := fun w rows es => match w with
  | 0 => (match rows, es with
    | [f], [j, x] => 0 ≤ j ∧ f j.toNat = x
    | _, _ => True)
  | 1 => (match rows, es with
    | [f, g], [j, x] => 0 ≤ j ∧ ∀ i : Nat, f i = if i = j.toNat then x else g i
    | _, _ => True)
  | w + 2 => match WD[w]? with
    | some d => zw_all d rows es
    | none => True
theorem zw_Zk (WD : List zw_D) : ze_Zk (zw_Z WD) := ⟨fun _ _ _ => Iff.rfl, fun _ _ _ _ => Iff.rfl⟩
/-- a word that is there, letter by letter -/
noncomputable def zw_ns : List Nat → List Nat → Bool := ze_ns
noncomputable def zw_es (l : List zt_E) : List zt_E → Bool := List.rec (motive := fun _ => List zt_E → Bool) (fun m => List.rec (motive := fun _ => Bool) true (fun _ _ _ => false) m) (fun a _ ih m => List.rec (motive := fun _ => Bool) false (fun b m2 _ => Bool.rec (motive := fun _ => Bool) false (Bool.rec (motive := fun _ => Bool) false (ih m2) (zt_t0 a.2 b.2)) (zi_eq a.1 b.1)) m) l
theorem zw_es_c (a b : zt_E) (l m : List zt_E) : zw_es (a :: l) (b :: m) = (match decide (a.1 = b.1) with
    | false => false
    | true => match zt_t0 a.2 b.2 with
      | false => false
      | true => zw_es l m) := by
  show Bool.rec (motive := fun _ => Bool) false (Bool.rec (motive := fun _ => Bool) false (zw_es l m) (zt_t0 a.2 b.2)) (zi_eq a.1 b.1) = _
  rw [zi_eq_eq]
  cases decide (a.1 = b.1) with
  | false => rfl
  | true => cases zt_t0 a.2 b.2 <;> rfl
theorem zw_es_in : ∀ {l m : List zt_E}, zw_es l m = true → l = m
  | [], [], _ => rfl
  | [], _ :: _, h => nomatch h
  | _ :: _, [], h => nomatch h
  | a :: l, b :: m, h => by
    rw [zw_es_c] at h
    split at h
    · cases h
    · next e1 =>
      split at h
      · cases h
      · next e2 =>
        rw [zw_es_in h]
        obtain ⟨a1, a2⟩ := a
        obtain ⟨b1, b2⟩ := b
        have h1 : a1 = b1 := of_decide_eq_true e1
        have h2 : a2 = b2 := zt_t0_in e2
        rw [h1, h2]
noncomputable def zw_has (p : ze_P) (l : List ze_P) : Bool := List.rec (motive := fun _ => Bool) false (fun q _ ih => Bool.rec (motive := fun _ => Bool) ih (Bool.rec (motive := fun _ => Bool) ih (Bool.rec (motive := fun _ => Bool) ih true (zw_es p.2.2 q.2.2)) (ze_ns p.2.1 q.2.1)) (Nat.beq p.1 q.1)) l
theorem zw_has_c (p q : ze_P) (l : List ze_P) : zw_has p (q :: l) = (match Nat.beq p.1 q.1 with
    | false => zw_has p l
    | true => match ze_ns p.2.1 q.2.1 with
      | false => zw_has p l
      | true => match zw_es p.2.2 q.2.2 with
        | false => zw_has p l
        | true => true) := by
  show Bool.rec (motive := fun _ => Bool) (zw_has p l) (Bool.rec (motive := fun _ => Bool) (zw_has p l) (Bool.rec (motive := fun _ => Bool) (zw_has p l) true (zw_es p.2.2 q.2.2)) (ze_ns p.2.1 q.2.1)) (Nat.beq p.1 q.1) = _
  cases Nat.beq p.1 q.1 with
  | false => rfl
  | true => cases ze_ns p.2.1 q.2.1 with
    | false => rfl
    | true => cases zw_es p.2.2 q.2.2 <;> rfl
theorem zw_has_in {p : ze_P} : ∀ {l : List ze_P}, zw_has p l = true → p ∈ l
  | [], h => nomatch h
  | q :: l, h => by
    rw [zw_has_c] at h
    split at h
    · exact List.mem_cons_of_mem _ (zw_has_in h)
    · next e1 =>
      split at h
      · exact List.mem_cons_of_mem _ (zw_has_in h)
      · next e2 =>
        split at h
        · exact List.mem_cons_of_mem _ (zw_has_in h)
        · next e3 =>
          obtain ⟨p1, p2, p3⟩ := p
          obtain ⟨q1, q2, q3⟩ := q
          have h1 : p1 = q1 := Nat.eq_of_beq_eq_true e1
          have h2 : p2 = q2 := ze_ns_in e2
          have h3 : p3 = q3 := zw_es_in e3
          rw [h1, h2, h3]
          exact List.mem_cons_self
/-- what is read, as linear things: each must stand there -/
noncomputable def zw_ev (P : List ze_P) (rows : List Nat) : List (Nat × zt_E) → List zt_E → Nat → (Nat → zt_E) → Option (Nat → zt_E)
  | [], _, _, su => some su
  | q :: l, v :: vs, n, su => match zx_nth rows q.1 with
    | none => none
    | some w => match zw_has (0, [w], [zt_su su q.2, v]) P with
      | false => none
      | true => zw_ev P rows l vs (n + 1) (fun k => match Nat.beq k n with | true => v | false => su k)
  | _ :: _, [], _, _ => none
theorem zw_ev_in {WD : List zw_D} {r : Nat → Int} {R : Nat → Nat → Int} {P : List ze_P} (hP : ∀ p ∈ P, zw_Z WD p.1 (p.2.1.map R) (p.2.2.map (zt_ev r))) {rows : List Nat} : ∀ {l : List (Nat × zt_E)} {vs : List zt_E} {n : Nat} {su su2 : Nat → zt_E} {r0 : Nat → Int}, zw_ev P rows l vs n su = some su2 → (∀ k, zt_ev r (su k) = r0 k) → ∀ k, zt_ev r (su2 k) = zw_go (zw_rw (rows.map R)) l n r0 k
  | [], _, n, su, su2, r0, h, h0 => by
    unfold zw_ev at h
    cases h
    exact h0
  | q :: l, [], n, su, su2, r0, h, h0 => by
    unfold zw_ev at h
    cases h
  | q :: l, v :: vs, n, su, su2, r0, h, h0 => by
    unfold zw_ev at h
    split at h
    · cases h
    · next w e1 =>
      split at h
      · cases h
      · next e2 =>
        have h1 : 0 ≤ zt_ev r (zt_su su q.2) ∧ R w (zt_ev r (zt_su su q.2)).toNat = zt_ev r v := hP _ (zw_has_in e2)
        refine zw_ev_in (l := l) (vs := vs) (n := n + 1) (r0 := fun k => if k = n then zw_rw (rows.map R) q.1 (zt_ev r0 q.2).toNat else r0 k) hP h (fun k => ?_)
        show zt_ev r (match Nat.beq k n with | true => v | false => su k) = if k = n then zw_rw (rows.map R) q.1 (zt_ev r0 q.2).toNat else r0 k
        have h2 : zt_ev r0 q.2 = zt_ev r (zt_su su q.2) := by
          rw [zt_su_ev]
          congr 1
          exact (funext h0).symm
        have h3 : zw_rw (rows.map R) q.1 = R w := by
          unfold zw_rw
          rw [zx_nth_eq] at e1
          rw [List.getElem?_map, e1]
          rfl
        cases e3 : Nat.beq k n with
        | true =>
          rw [if_pos (Nat.eq_of_beq_eq_true e3), h3, h2]
          exact h1.2.symm
        | false =>
          rw [if_neg (Nat.ne_of_beq_eq_false e3)]
          exact h0 k
noncomputable def zw_s0 (t : zt_E) (ps : List zt_E) (k : Nat) : zt_E := match k with
  | 0 => t
  | k + 1 => match zx_nth ps k with
    | some x => x
    | none => (0, [])
theorem zw_s0_in {r : Nat → Int} {t : zt_E} {ps : List zt_E} : ∀ k, zt_ev r (zw_s0 t ps k) = zw_e0 (zt_ev r t) (ps.map (zt_ev r)) k
  | 0 => rfl
  | k + 1 => by
    show zt_ev r (match zx_nth ps k with | some x => x | none => (0, [])) = (match (ps.map (zt_ev r))[k]? with | some x => x | none => 0)
    rw [zx_nth_eq, List.getElem?_map]
    cases ps[k]? with
    | none => rfl
    | some x => rfl
