/-! ===== questions about named numbers: what is known already, what may be ===== -/
noncomputable abbrev zl_T : Type := Nat × UInt32 × Int32 × Nat
noncomputable abbrev zl_I : Type := Int × Int
noncomputable def zl_in (x : Int32) (q : zl_I) : Prop := q.1 ≤ x.toInt ∧ x.toInt ≤ q.2
noncomputable def zl_mx (a b : Int) : Int := match decide (a ≤ b) with
  | true => b
  | false => a
noncomputable def zl_mn (a b : Int) : Int := match decide (a ≤ b) with
  | true => a
  | false => b
theorem zl_mx_le {a b x : Int} (h1 : a ≤ x) (h2 : b ≤ x) : zl_mx a b ≤ x := by
  unfold zl_mx
  split <;> assumption
theorem zl_mn_le {a b x : Int} (h1 : x ≤ a) (h2 : x ≤ b) : x ≤ zl_mn a b := by
  unfold zl_mn
  split <;> assumption
noncomputable def zl_z (x : Int32) : Bool := Nat.beq x.toBitVec.toNat 0
theorem zl_z_in {x : Int32} : zl_z x = decide (x = 0) := by
  unfold zl_z
  by_cases hx : x = 0
  · subst hx
    decide
  · rw [decide_eq_false hx]
    cases hb : Nat.beq x.toBitVec.toNat 0
    · rfl
    · exact absurd (Int32.toBitVec_inj.mp (BitVec.eq_of_toNat_eq (Nat.eq_of_beq_eq_true hb))) hx
noncomputable def zl_inc (a c : Int) : Int := match decide (a = c) with
  | true => a + 1
  | false => a
noncomputable def zl_dec (a c : Int) : Int := match decide (a = c) with
  | true => a - 1
  | false => a
theorem zl_inc_le {a c x : Int} (h1 : a ≤ x) (h2 : x ≠ c) : zl_inc a c ≤ x := by
  unfold zl_inc
  split
  · next e =>
    have e1 : a = c := of_decide_eq_true e
    omega
  · exact h1
theorem zl_dec_le {a c x : Int} (h1 : x ≤ a) (h2 : x ≠ c) : x ≤ zl_dec a c := by
  unfold zl_dec
  split
  · next e =>
    have e1 : a = c := of_decide_eq_true e
    omega
  · exact h1
/-- what a fact of a number says of its stretch -/
noncomputable def zl_one (p : Nat) (c x : Int32) (q : zl_I) : zl_I := match p with
  | 0 => match zl_z x with
    | false => (zl_mx q.1 c.toInt, zl_mn q.2 c.toInt)
    | true => (zl_inc q.1 c.toInt, zl_dec q.2 c.toInt)
  | 1 => match zl_z x with
    | false => (q.1, zl_mn q.2 (c.toInt - 1))
    | true => (zl_mx q.1 c.toInt, q.2)
  | 2 => match zl_z x with
    | false => (q.1, zl_mn q.2 c.toInt)
    | true => (zl_mx q.1 (c.toInt + 1), q.2)
  | 3 => match zl_z x && Nat.beq c.toBitVec.toNat 1 with
    | true => (q.1 + q.1 % 2, q.2 - q.2 % 2)
    | false => q
  | 9 => (zl_mx q.1 x.toInt, zl_mn q.2 x.toInt)
  | _ => q
theorem zl_par (y : Int32) : (y &&& 1 = 0 ∧ y.toInt % 2 = 0) ∨ (y &&& 1 = 1 ∧ y.toInt % 2 = 1) := by
  have h1 : (y &&& 1).toBitVec.toNat = y.toBitVec.toNat % 2 := by
    show (y.toBitVec &&& (1 : Int32).toBitVec).toNat = _
    rw [BitVec.toNat_and]
    exact Nat.and_one_is_mod _
  have h2 : y.toInt % 2 = ((y.toBitVec.toNat % 2 : Nat) : Int) := by
    show y.toBitVec.toInt % 2 = _
    rw [BitVec.toInt_eq_toNat_cond]
    split <;> omega
  rcases Nat.mod_two_eq_zero_or_one y.toBitVec.toNat with e | e
  · refine Or.inl ⟨Int32.toBitVec_inj.mp (BitVec.eq_of_toNat_eq ?_), by omega⟩
    rw [h1, e]
    rfl
  · refine Or.inr ⟨Int32.toBitVec_inj.mp (BitVec.eq_of_toNat_eq ?_), by omega⟩
    rw [h1, e]
    rfl
theorem zl_one_ok {p : Nat} {c x y : Int32} {q : zl_I} (hx : zx_os p y c = x) (hq : zl_in y q) : zl_in y (zl_one p c x q) := by
  obtain ⟨h1, h2⟩ := hq
  unfold zl_one
  split
  · have hx2 : (if y = c then (1 : Int32) else 0) = x := hx
    by_cases hyc : y = c
    · rw [if_pos hyc] at hx2
      subst hx2
      subst hyc
      exact ⟨zl_mx_le h1 (Int.le_refl _), zl_mn_le h2 (Int.le_refl _)⟩
    · rw [if_neg hyc] at hx2
      subst hx2
      have hne : y.toInt ≠ c.toInt := fun e => hyc (Int32.toInt_inj.mp e)
      exact ⟨zl_inc_le h1 hne, zl_dec_le h2 hne⟩
  · have hx2 : (if y < c then (1 : Int32) else 0) = x := hx
    by_cases hyc : y < c
    · rw [if_pos hyc] at hx2
      subst hx2
      have := Int32.lt_iff_toInt_lt.mp hyc
      exact ⟨h1, zl_mn_le h2 (by omega)⟩
    · rw [if_neg hyc] at hx2
      subst hx2
      rw [Int32.lt_iff_toInt_lt] at hyc
      exact ⟨zl_mx_le h1 (by omega), h2⟩
  · have hx2 : (if y ≤ c then (1 : Int32) else 0) = x := hx
    by_cases hyc : y ≤ c
    · rw [if_pos hyc] at hx2
      subst hx2
      have := Int32.le_iff_toInt_le.mp hyc
      exact ⟨h1, zl_mn_le h2 (by omega)⟩
    · rw [if_neg hyc] at hx2
      subst hx2
      rw [Int32.le_iff_toInt_le] at hyc
      exact ⟨zl_mx_le h1 (by omega), h2⟩
  · have hx2 : y &&& c = x := hx
    split
    · next e =>
      simp only [Bool.and_eq_true] at e
      have e1 : x = 0 := by
        have := e.1
        rw [zl_z_in] at this
        exact of_decide_eq_true this
      have e2 : c = 1 := Int32.toBitVec_inj.mp (BitVec.eq_of_toNat_eq (Nat.eq_of_beq_eq_true e.2))
      subst e2
      rcases zl_par y with ⟨g1, g2⟩ | ⟨g1, g2⟩
      · exact ⟨by show q.1 + q.1 % 2 ≤ _; omega, by show _ ≤ q.2 - q.2 % 2; omega⟩
      · rw [hx2, e1] at g1
        exact absurd g1 (by decide)
    · exact ⟨h1, h2⟩
  · have hx2 : y = x := hx
    subst hx2
    exact ⟨zl_mx_le h1 (Int.le_refl _), zl_mn_le h2 (Int.le_refl _)⟩
  · exact ⟨h1, h2⟩
noncomputable def zl_pass (b : UInt32) : zx_O → zl_I → zl_I
  | [], q => q
  | (p, a, c, v) :: o, q => match Nat.beq a.toNat b.toNat with
    | false => zl_pass b o q
    | true => match v with
      | .int x => zl_pass b o (zl_one p c x q)
      | _ => zl_pass b o q
theorem zl_pass_ok {D : zx_D} {b : UInt32} : ∀ {o : zx_O} {q : zl_I}, zx_oo D o → zl_in (D.2.1 b) q → zl_in (D.2.1 b) (zl_pass b o q)
  | [], q, _, h => h
  | (p, a, c, v) :: o, q, ho, h => by
    have ho2 : zx_oo D o := fun q hq => ho q (List.mem_cons_of_mem _ hq)
    unfold zl_pass
    split
    · exact zl_pass_ok ho2 h
    · next e =>
      have e1 : a = b := UInt32.toNat_inj.mp (Nat.eq_of_beq_eq_true e)
      subst e1
      split
      · next x =>
        have h1 := (ho _ List.mem_cons_self).2
        have h2 : zx_os p (D.2.1 a) c = x := Value.int.inj h1
        exact zl_pass_ok ho2 (zl_one_ok h2 h)
      · exact zl_pass_ok ho2 h
/-- what a number's stretch says of what is made of it -/
noncomputable def zl_two (p : Nat) (c : Int32) (r q : zl_I) : zl_I := match p with
  | 5 => match Nat.beq c.toBitVec.toNat 2 with
    | true => (zl_mx q.1 (r.1 / 4), zl_mn q.2 (r.2 / 4))
    | false => q
  | 6 => match Nat.beq c.toBitVec.toNat 2 && decide (0 ≤ r.1) with
    | true => (zl_mx q.1 (r.1 / 2), zl_mn q.2 (r.2 / 2))
    | false => q
  | 7 => match decide (-2147483648 ≤ r.1 + c.toInt) && decide (r.2 + c.toInt ≤ 2147483647) with
    | true => (zl_mx q.1 (r.1 + c.toInt), zl_mn q.2 (r.2 + c.toInt))
    | false => q
  | _ => q
theorem zl_shr2 (y : Int32) : (y >>> ((2 : Int32) &&& 31)).toInt = y.toInt / 4 := by
  show (BitVec.sshiftRight' y.toBitVec (((2 : Int32) &&& 31).toBitVec.smod 32)).toInt = _
  rw [BitVec.toInt_sshiftRight', show (((2 : Int32) &&& 31).toBitVec.smod 32).toNat = 2 from by decide, Int.shiftRight_eq_div_pow]
  rfl
theorem zl_two_ok {p : Nat} {c y z : Int32} {r q : zl_I} (hz : zx_os p y c = z) (hr : zl_in y r) (hq : zl_in z q) : zl_in z (zl_two p c r q) := by
  obtain ⟨h1, h2⟩ := hq
  obtain ⟨r1, r2⟩ := hr
  have lo : -2147483648 ≤ y.toInt := y.le_toInt
  have hi : y.toInt < 2147483648 := y.toInt_lt
  unfold zl_two
  split
  · split
    · next e =>
      have e2 : c = 2 := Int32.toBitVec_inj.mp (BitVec.eq_of_toNat_eq (Nat.eq_of_beq_eq_true e))
      subst e2
      have h9 : z.toInt = y.toInt / 4 := by
        rw [← hz]
        exact zl_shr2 y
      exact ⟨zl_mx_le h1 (by omega), zl_mn_le h2 (by omega)⟩
    · exact ⟨h1, h2⟩
  · split
    · next e =>
      simp only [Bool.and_eq_true] at e
      have e2 : c = 2 := Int32.toBitVec_inj.mp (BitVec.eq_of_toNat_eq (Nat.eq_of_beq_eq_true e.1))
      have e3 := of_decide_eq_true e.2
      subst e2
      have h9 : z.toInt = y.toInt / 2 := by
        rw [← hz]
        show (y / 2).toInt = _
        have e4 : (2 : Int32).toInt = 2 := rfl
        rcases zx_tdiv2 y.toInt with ⟨_, g⟩ | ⟨g, _⟩
        · rw [Int32.toInt_div, e4, g, zx_bm32 _ (by omega) (by omega)]
        · omega
      exact ⟨zl_mx_le h1 (by omega), zl_mn_le h2 (by omega)⟩
    · exact ⟨h1, h2⟩
  · split
    · next e =>
      simp only [Bool.and_eq_true] at e
      have e1 := of_decide_eq_true e.1
      have e3 := of_decide_eq_true e.2
      have h9 : z.toInt = y.toInt + c.toInt := by
        rw [← hz]
        show (y + c).toInt = _
        rw [Int32.toInt_add, zx_bm32 _ (by omega) (by omega)]
      exact ⟨zl_mx_le h1 (by omega), zl_mn_le h2 (by omega)⟩
    · exact ⟨h1, h2⟩
  · exact ⟨h1, h2⟩
noncomputable def zl_der (g : UInt32 → zl_I) (b : UInt32) : zx_O → zl_I → zl_I
  | [], q => q
  | (p, a, c, v) :: o, q => match v with
    | .float n => match Nat.beq n.toNat b.toNat && (!(Nat.beq a.toNat b.toNat) && !(Nat.beq n.toNat 0)) with
      | true => zl_der g b o (zl_two p c (g a) q)
      | false => zl_der g b o q
    | _ => zl_der g b o q
theorem zl_der_ok {D : zx_D} {g : UInt32 → zl_I} {b : UInt32} (hg : ∀ a, zl_in (D.2.1 a) (g a)) : ∀ {o : zx_O} {q : zl_I}, zx_oo D o → zl_in (D.2.1 b) q → zl_in (D.2.1 b) (zl_der g b o q)
  | [], q, _, h => h
  | (p, a, c, v) :: o, q, ho, h => by
    have ho2 : zx_oo D o := fun q hq => ho q (List.mem_cons_of_mem _ hq)
    unfold zl_der
    split
    · next n =>
      split
      · next e =>
        simp only [Bool.and_eq_true] at e
        have e1 : n = b := UInt32.toNat_inj.mp (Nat.eq_of_beq_eq_true e.1)
        have e2 : n ≠ 0 := fun z => by rw [z] at e; exact absurd e.2.2 (by decide)
        obtain ⟨y, hy, hn⟩ := (ho _ List.mem_cons_self).2
        have h2 : zx_os p (D.2.1 a) c = D.2.1 b := by
          rw [← e1, ← hn e2]
          exact Value.int.inj hy
        exact zl_der_ok hg ho2 (zl_two_ok h2 (hg a) h)
      · exact zl_der_ok hg ho2 h
    · exact zl_der_ok hg ho2 h
noncomputable def zl_iv (o : zx_O) : Nat → UInt32 → zl_I
  | 0, b => zl_pass b o (zl_pass b o (zl_pass b o (-2147483648, 2147483647)))
  | f + 1, b => zl_pass b o (zl_pass b o (zl_pass b o (zl_der (zl_iv o f) b o (-2147483648, 2147483647))))
theorem zl_all (x : Int32) : zl_in x (-2147483648, 2147483647) := by
  have lo : -2147483648 ≤ x.toInt := x.le_toInt
  have hi : x.toInt < 2147483648 := x.toInt_lt
  exact ⟨lo, by show x.toInt ≤ 2147483647; omega⟩
theorem zl_iv_ok {D : zx_D} {o : zx_O} (ho : zx_oo D o) : ∀ (f : Nat) (b : UInt32), zl_in (D.2.1 b) (zl_iv o f b)
  | 0, b => zl_pass_ok ho (zl_pass_ok ho (zl_pass_ok ho (zl_all _)))
  | f + 1, b => zl_pass_ok ho (zl_pass_ok ho (zl_pass_ok ho (zl_der_ok (zl_iv_ok ho f) ho (zl_all _))))
/-- what is known of a question -/
noncomputable def zl_imp (op : Nat) (c : Int32) (q : zl_I) : Option Int32 := match op with
  | 0 => match decide (q.1 = c.toInt) && decide (q.2 = c.toInt) with
    | true => some 1
    | false => match decide (c.toInt < q.1) || decide (q.2 < c.toInt) with
      | true => some 0
      | false => none
  | 1 => match decide (q.2 < c.toInt) with
    | true => some 1
    | false => match decide (c.toInt ≤ q.1) with
      | true => some 0
      | false => none
  | 2 => match decide (q.2 ≤ c.toInt) with
    | true => some 1
    | false => match decide (c.toInt < q.1) with
      | true => some 0
      | false => none
  | _ => none
theorem zl_imp_ok {op : Nat} {c x v : Int32} {q : zl_I} (hq : zl_in x q) (h : zl_imp op c q = some v) : zx_os op x c = v := by
  obtain ⟨h1, h2⟩ := hq
  unfold zl_imp at h
  split at h
  · show (if x = c then (1 : Int32) else 0) = v
    split at h
    · next e =>
      cases h
      simp only [Bool.and_eq_true, decide_eq_true_eq] at e
      exact if_pos (Int32.toInt_inj.mp (by omega))
    · split at h
      · next e =>
        cases h
        simp only [Bool.or_eq_true, decide_eq_true_eq] at e
        exact if_neg (fun z => by rw [z] at h1 h2; omega)
      · cases h
  · show (if x < c then (1 : Int32) else 0) = v
    split at h
    · next e =>
      cases h
      have e := of_decide_eq_true e
      exact if_pos (Int32.lt_iff_toInt_lt.mpr (by omega))
    · split at h
      · next e =>
        cases h
        have e := of_decide_eq_true e
        exact if_neg (fun z => by rw [Int32.lt_iff_toInt_lt] at z; omega)
      · cases h
  · show (if x ≤ c then (1 : Int32) else 0) = v
    split at h
    · next e =>
      cases h
      have e := of_decide_eq_true e
      exact if_pos (Int32.le_iff_toInt_le.mpr (by omega))
    · split at h
      · next e =>
        cases h
        have e := of_decide_eq_true e
        exact if_neg (fun z => by rw [Int32.le_iff_toInt_le] at z; omega)
      · cases h
  · cases h
noncomputable def zl_nums (b : UInt32) (op : Nat) (c base : Int32) (ct : Int32) : Nat → List zx_O → List zx_O
  | 0, l => l
  | n + 1, l => zl_nums b op c base ct n ([(op, b, ct, zx_i (base + nI n))] :: l)
theorem zl_nums_mem {b : UInt32} {op : Nat} {c base ct : Int32} : ∀ {n k : Nat} {l : List zx_O}, k < n ∨ [(op, b, ct, zx_i (base + nI k))] ∈ l → [(op, b, ct, zx_i (base + nI k))] ∈ zl_nums b op c base ct n l
  | 0, k, l, h => h.elim (fun q => absurd q (Nat.not_lt_zero _)) id
  | n + 1, k, l, h => by
    unfold zl_nums
    refine zl_nums_mem ?_
    rcases h with h | h
    · rcases Nat.lt_or_ge k n with e | e
      · exact Or.inl e
      · obtain rfl : k = n := by omega
        exact Or.inr List.mem_cons_self
    · exact Or.inr (List.mem_cons_of_mem _ h)
/-- what may be -/
noncomputable def zl_ch (t : zl_T) (o : zx_O) : Option (List zx_O) := match Nat.beq t.2.1.toNat 0 with
  | true => none
  | false => match t.1 with
    | 0 => some [[(0, t.2.1, t.2.2.1, .int 1)], [(0, t.2.1, t.2.2.1, .int 0)]]
    | 1 => some [[(1, t.2.1, t.2.2.1, .int 1)], [(1, t.2.1, t.2.2.1, .int 0)]]
    | 2 => some [[(2, t.2.1, t.2.2.1, .int 1)], [(2, t.2.1, t.2.2.1, .int 0)]]
    | 4 => some [[(3, t.2.1, 1, .int 0), (4, t.2.1, 2, .int 0)], [(3, t.2.1, 1, .int 1), (4, t.2.1, 2, .int 1)], [(3, t.2.1, 1, .int 1), (4, t.2.1, 2, .int (-1))]]
    | 5 => match zl_iv o 3 t.2.1 with
      | (lo, hi) => match decide (t.2.2.1.toInt ≤ lo) && (decide (hi < t.2.2.1.toInt + (t.2.2.2 : Int)) && (decide (-1000000 ≤ t.2.2.1.toInt) && (decide (t.2.2.1.toInt ≤ 1000000) && Nat.ble t.2.2.2 1000))) with
        | true => some (zl_nums t.2.1 9 0 t.2.2.1 0 t.2.2.2 [])
        | false => none
    | 6 => match zl_imp t.2.2.2 t.2.2.1 (zl_iv o 3 t.2.1) with
      | some v => some [[(t.2.2.2, t.2.1, t.2.2.1, .int v)]]
      | none => none
    | 8 => match zl_iv o 3 t.2.1 with
      | (lo, hi) => match decide (hi < lo) with
        | true => some []
        | false => none
    | _ => none
theorem zl_oo_app {D : zx_D} {a o : zx_O} (h1 : zx_oo D a) (h2 : zx_oo D o) : zx_oo D (a ++ o) := fun q hq => (List.mem_append.mp hq).elim (h1 q) (h2 q)
theorem zl_oo_1 {D : zx_D} {p : Nat} {b : UInt32} {c v : Int32} (hb : b ≠ 0) (h : zx_os p (D.2.1 b) c = v) : zx_oo D [(p, b, c, .int v)] := fun q hq => by
  obtain rfl := List.mem_singleton.mp hq
  exact ⟨hb, by rw [h]; rfl⟩
theorem zl_oo_2 {D : zx_D} {p p2 : Nat} {b : UInt32} {c v c2 v2 : Int32} (hb : b ≠ 0) (h : zx_os p (D.2.1 b) c = v) (h2 : zx_os p2 (D.2.1 b) c2 = v2) : zx_oo D [(p, b, c, .int v), (p2, b, c2, .int v2)] := fun q hq => by
  rcases List.mem_cons.mp hq with e | e
  · subst e
    exact ⟨hb, by rw [h]; rfl⟩
  · exact zl_oo_1 hb h2 q e
theorem zl_rem (y : Int32) : (y &&& 1 = 0 ∧ zx_os 4 y 2 = 0) ∨ (y &&& 1 = 1 ∧ zx_os 4 y 2 = 1) ∨ (y &&& 1 = 1 ∧ zx_os 4 y 2 = -1) := by
  have h := zx_rem2i y
  have hq := zx_tdiv2 y.toInt
  have k : ∀ v : Int32, (y - y / 2 * 2).toInt = v.toInt → zx_os 4 y 2 = v := fun v hv => Int32.toInt_inj.mp hv
  rcases zl_par y with ⟨g1, g2⟩ | ⟨g1, g2⟩
  · refine Or.inl ⟨g1, k 0 ?_⟩
    rw [h]
    show _ = (0 : Int)
    omega
  · rcases hq with ⟨q1, q2⟩ | ⟨q1, q2⟩
    · refine Or.inr (Or.inl ⟨g1, k 1 ?_⟩)
      rw [h]
      show _ = (1 : Int)
      omega
    · refine Or.inr (Or.inr ⟨g1, k (-1) ?_⟩)
      rw [h]
      show _ = (-1 : Int)
      omega
theorem zl_ch_ok {D : zx_D} {t : zl_T} {o : zx_O} {cs : List zx_O} (h : zl_ch t o = some cs) (ho : zx_oo D o) : ∃ c ∈ cs, zx_oo D (c ++ o) := by
  obtain ⟨k, b, c, n⟩ := t
  unfold zl_ch at h
  split at h
  · cases h
  · next e0 =>
    have hb : b ≠ 0 := fun z => by
      dsimp only at e0
      rw [z] at e0
      exact absurd e0 (by decide)
    dsimp only at h
    split at h
    · cases h
      by_cases q : D.2.1 b = c
      · exact ⟨_, List.mem_cons_self, zl_oo_app (zl_oo_1 hb (if_pos q)) ho⟩
      · exact ⟨_, List.mem_cons_of_mem _ List.mem_cons_self, zl_oo_app (zl_oo_1 hb (if_neg q)) ho⟩
    · cases h
      by_cases q : D.2.1 b < c
      · exact ⟨_, List.mem_cons_self, zl_oo_app (zl_oo_1 hb (if_pos q)) ho⟩
      · exact ⟨_, List.mem_cons_of_mem _ List.mem_cons_self, zl_oo_app (zl_oo_1 hb (if_neg q)) ho⟩
    · cases h
      by_cases q : D.2.1 b ≤ c
      · exact ⟨_, List.mem_cons_self, zl_oo_app (zl_oo_1 hb (if_pos q)) ho⟩
      · exact ⟨_, List.mem_cons_of_mem _ List.mem_cons_self, zl_oo_app (zl_oo_1 hb (if_neg q)) ho⟩
    · cases h
      rcases zl_rem (D.2.1 b) with ⟨g1, g2⟩ | ⟨g1, g2⟩ | ⟨g1, g2⟩
      · exact ⟨_, List.mem_cons_self, zl_oo_app (zl_oo_2 hb g1 g2) ho⟩
      · exact ⟨_, List.mem_cons_of_mem _ List.mem_cons_self, zl_oo_app (zl_oo_2 hb g1 g2) ho⟩
      · exact ⟨_, List.mem_cons_of_mem _ (List.mem_cons_of_mem _ List.mem_cons_self), zl_oo_app (zl_oo_2 hb g1 g2) ho⟩
    · have hiv := zl_iv_ok ho 3 b
      generalize zl_iv o 3 b = q at h hiv
      obtain ⟨lo, hi⟩ := q
      obtain ⟨h1, h2⟩ := hiv
      dsimp only at h h1 h2
      split at h
      · next e =>
        cases h
        simp only [Bool.and_eq_true, decide_eq_true_eq] at e
        obtain ⟨e1, e2, e3, e4, e5⟩ := e
        have e5 := Nat.le_of_ble_eq_true e5
        have hk : ((D.2.1 b).toInt - c.toInt).toNat < n := by omega
        refine ⟨_, zl_nums_mem (Or.inl hk), zl_oo_app (fun q hq => ?_) ho⟩
        obtain rfl := List.mem_singleton.mp hq
        refine ⟨hb, ?_⟩
        rw [zx_i_eq]
        show Value.int (D.2.1 b) = _
        refine congrArg Value.int (Int32.toInt_inj.mp ?_)
        have h9 : (nI ((D.2.1 b).toInt - c.toInt).toNat).toInt = (D.2.1 b).toInt - c.toInt := by
          have g1 : (nI ((D.2.1 b).toInt - c.toInt).toNat).toNatClampNeg = ((D.2.1 b).toInt - c.toInt).toNat := nI_clamp (by omega)
          have g2 : (nI ((D.2.1 b).toInt - c.toInt).toNat).toInt.toNat = ((D.2.1 b).toInt - c.toInt).toNat := g1
          have g3 := nI_pos (n := ((D.2.1 b).toInt - c.toInt).toNat) (by omega)
          rw [Int32.lt_iff_toInt_lt] at g3
          have g4 : (0 : Int32).toInt = 0 := rfl
          omega
        rw [Int32.toInt_add, h9, zx_bm32 _ (by omega) (by omega)]
        omega
      · cases h
    · split at h
      · next v e =>
        cases h
        exact ⟨_, List.mem_cons_self, zl_oo_app (zl_oo_1 hb (zl_imp_ok (zl_iv_ok ho 3 b) e)) ho⟩
      · cases h
    · have hiv := zl_iv_ok ho 3 b
      generalize zl_iv o 3 b = q at h hiv
      obtain ⟨lo, hi⟩ := q
      obtain ⟨h1, h2⟩ := hiv
      dsimp only at h h1 h2
      split at h
      · next e =>
        have e := of_decide_eq_true e
        omega
      · cases h
    · cases h
noncomputable def zl_fold (K : List zl_T → zx_O → Option (List zl_T)) (o : zx_O) : List zx_O → List zl_T → Option (List zl_T)
  | [], r => some r
  | c :: cs, r => match K r (c ++ o) with
    | some r2 => zl_fold K o cs r2
    | none => none
theorem zl_fold_in {K : List zl_T → zx_O → Option (List zl_T)} {o : zx_O} : ∀ {cs : List zx_O} {r r2 : List zl_T}, zl_fold K o cs r = some r2 → ∀ c ∈ cs, ∃ r3 r4, K r3 (c ++ o) = some r4
  | [], _, _, _, c, hc => absurd hc List.not_mem_nil
  | d :: cs, r, r2, h, c, hc => by
    unfold zl_fold at h
    split at h
    · next r3 e =>
      rcases List.mem_cons.mp hc with q | q
      · subst q
        exact ⟨_, _, e⟩
      · exact zl_fold_in h c q
    · cases h
/-- the tree is gone through; 7 is a leaf -/
noncomputable def zl_chk (K : zx_O → Bool) : Nat → List zl_T → zx_O → Option (List zl_T)
  | 0, _, _ => none
  | _ + 1, [], _ => none
  | f + 1, t :: r, o => match Nat.beq t.1 7 with
    | true => match K o with
      | true => some r
      | false => none
    | false => match zl_ch t o with
      | none => none
      | some cs => zl_fold (zl_chk K f) o cs r
theorem zl_sound {D : zx_D} {Q : Prop} {K : zx_O → Bool} (hK : ∀ o, zx_oo D o → K o = true → Q) : ∀ (f : Nat) (ts : List zl_T) (o : zx_O) (r : List zl_T), zl_chk K f ts o = some r → zx_oo D o → Q
  | 0, _, _, _, h, _ => nomatch h
  | _ + 1, [], _, _, h, _ => nomatch h
  | f + 1, t :: ts, o, r, h, ho => by
    unfold zl_chk at h
    split at h
    · split at h
      · next e => exact hK o ho e
      · cases h
    · split at h
      · cases h
      · next cs e =>
        obtain ⟨c, hc, ho2⟩ := zl_ch_ok e ho
        obtain ⟨r3, r4, h2⟩ := zl_fold_in h c hc
        exact zl_sound hK f r3 (c ++ o) r4 h2 ho2
/-- the low five bits -/
theorem zl_low5 (y : Int32) : ∃ k : Nat, k < 32 ∧ y &&& 31 = nI k := by
  refine ⟨(y &&& 31).toBitVec.toNat, ?_, (zx_nI _).symm⟩
  show (y.toBitVec &&& (31 : Int32).toBitVec).toNat < 32
  rw [BitVec.toNat_and]
  exact Nat.lt_succ_of_le Nat.and_le_right
