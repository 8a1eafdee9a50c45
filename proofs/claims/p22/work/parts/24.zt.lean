/-! ===== cells by types: what stands in them whatever was done; steps that look at cells or change them ===== -/
/-- 0 an int, 1 a long between two numbers; 2 one of some cells; 3 one of them or null -/
abbrev zt_Y : Type := Nat × Int × Int × List Nat
noncomputable def zt_yt (t : zt_Y) (v : Value) : Prop := match t.1 with
  | 0 => ∃ x : Int32, v = .int x ∧ t.2.1 ≤ x.toInt ∧ x.toInt ≤ t.2.2.1
  | 1 => ∃ x : Int64, v = .long x ∧ t.2.1 ≤ x.toInt ∧ x.toInt ≤ t.2.2.1
  | 2 => ∃ i ∈ t.2.2.2, v = .ref i
  | 3 => v = .null ∨ ∃ i ∈ t.2.2.2, v = .ref i
  | 4 => True
  | _ => False
/-- the type at a place of a row: types take turns -/
noncomputable def zt_ry (ys : List zt_Y) (j : Nat) : zt_Y := match zx_nth ys (j % ys.length) with
  | some y => y
  | none => (4, 0, 0, [])
/-- all numbers ahead of symbols are multiples -/
noncomputable def zt_dv (m : Int) : List zt_T → Bool
  | [] => true
  | q :: l => decide (q.2 % m = 0) && zt_dv m l
theorem zt_dv_in {m : Int} {r : Nat → Int} : ∀ {l : List zt_T}, zt_dv m l = true → m ∣ zt_tv r l
  | [], _ => ⟨0, (Int.mul_zero m).symm⟩
  | q :: l, h => by
    have h9 : (decide (q.2 % m = 0) && zt_dv m l) = true := h
    simp only [Bool.and_eq_true] at h9
    have h1 : m ∣ q.2 := Int.dvd_of_emod_eq_zero (of_decide_eq_true h9.1)
    show m ∣ q.2 * r q.1 + zt_tv r l
    exact Int.dvd_add (Int.dvd_trans h1 (Int.dvd_mul_right _ _)) (zt_dv_in h9.2)
/-- what holds all of them -/
noncomputable def zt_h2 (y z : zt_Y) : zt_Y := match Nat.beq y.1 z.1 && Nat.blt y.1 2 with
  | true => (y.1, min y.2.1 z.2.1, max y.2.2.1 z.2.2.1, [])
  | false => (4, 0, 0, [])
noncomputable def zt_hl : List zt_Y → zt_Y
  | [] => (4, 0, 0, [])
  | y :: l => match l with
    | [] => y
    | _ => zt_h2 y (zt_hl l)
theorem zt_h2_in {y z : zt_Y} {v : Value} (h : zt_yt y v ∨ zt_yt z v) : zt_yt (zt_h2 y z) v := by
  unfold zt_h2
  split
  · next e =>
    simp only [Bool.and_eq_true] at e
    obtain ⟨t, lo, hi, l⟩ := y
    obtain ⟨t2, lo2, hi2, l2⟩ := z
    obtain rfl : t = t2 := Nat.eq_of_beq_eq_true e.1
    have e2 : t < 2 := Nat.le_of_ble_eq_true e.2
    match t, e2, h with
    | 0, _, h =>
      rcases h with ⟨x, h1, h2, h3⟩ | ⟨x, h1, h2, h3⟩
      · exact ⟨x, h1, Int.le_trans (Int.min_le_left _ _) h2, Int.le_trans h3 (Int.le_max_left _ _)⟩
      · exact ⟨x, h1, Int.le_trans (Int.min_le_right _ _) h2, Int.le_trans h3 (Int.le_max_right _ _)⟩
    | 1, _, h =>
      rcases h with ⟨x, h1, h2, h3⟩ | ⟨x, h1, h2, h3⟩
      · exact ⟨x, h1, Int.le_trans (Int.min_le_left _ _) h2, Int.le_trans h3 (Int.le_max_left _ _)⟩
      · exact ⟨x, h1, Int.le_trans (Int.min_le_right _ _) h2, Int.le_trans h3 (Int.le_max_right _ _)⟩
  · trivial
theorem zt_hl_in {v : Value} : ∀ {l : List zt_Y} {y : zt_Y}, y ∈ l → zt_yt y v → zt_yt (zt_hl l) v
  | [], y, h, _ => nomatch h
  | [z], y, h, hv => by
    rw [show y = z from (List.mem_cons.mp h).elim id (fun q => nomatch q)] at hv
    exact hv
  | z :: z2 :: l, y, h, hv => by
    show zt_yt (zt_h2 z (zt_hl (z2 :: l))) v
    rcases List.mem_cons.mp h with e | e
    · exact zt_h2_in (Or.inl (e ▸ hv))
    · exact zt_h2_in (Or.inr (zt_hl_in e hv))
noncomputable def zt_rye (ys : List zt_Y) (e : zt_E) : zt_Y := match e.2 with
  | [] => zt_ry ys e.1.toNat
  | _ => match zt_dv (ys.length : Int) e.2 with
    | true => zt_ry ys (e.1 % (ys.length : Int)).toNat
    | false => zt_hl ys
theorem zt_ry_mod {ys : List zt_Y} {j k : Nat} (h : j % ys.length = k % ys.length) : zt_ry ys j = zt_ry ys k := by
  unfold zt_ry
  rw [h]
theorem zt_ry_mem {ys : List zt_Y} {j : Nat} : zt_ry ys j ∈ ys ∨ ys = [] := by
  cases ys with
  | nil => exact Or.inr rfl
  | cons y l =>
    refine Or.inl ?_
    unfold zt_ry
    rw [zx_nth_eq]
    have : j % (y :: l).length < (y :: l).length := Nat.mod_lt _ (Nat.succ_pos _)
    rw [List.getElem?_eq_getElem this]
    exact List.getElem_mem this
theorem zt_dvj {ys : List zt_Y} {e : zt_E} {r : Nat → Int} {j : Nat} (hj : (j : Int) = zt_ev r e) (h : zt_dv (ys.length : Int) e.2 = true) (hy : ys ≠ []) : zt_ry ys (e.1 % (ys.length : Int)).toNat = zt_ry ys j := by
  obtain ⟨k, hk⟩ := zt_dv_in (r := r) h
  have h1 : (j : Int) = e.1 + (ys.length : Int) * k := by rw [hj, ← hk]; rfl
  have hp : (0 : Int) < (ys.length : Int) := Int.natCast_pos.mpr (List.length_pos_iff.mpr hy)
  have h2 : e.1 % (ys.length : Int) = ((j % ys.length : Nat) : Int) := by
    rw [Int.natCast_emod, h1, Int.add_mul_emod_self_left]
  refine zt_ry_mod ?_
  rw [h2, Int.toNat_natCast, Nat.mod_mod]
theorem zt_rye_in {ys : List zt_Y} {e : zt_E} {r : Nat → Int} {j : Nat} {v : Value} (hj : (j : Int) = zt_ev r e) (h : zt_yt (zt_ry ys j) v) : zt_yt (zt_rye ys e) v := by
  unfold zt_rye
  split
  · next e1 =>
    have h1 : (j : Int) = e.1 := by rw [hj]; show e.1 + zt_tv r e.2 = e.1; rw [e1]; show e.1 + 0 = e.1; omega
    rw [← h1, Int.toNat_natCast]
    exact h
  · split
    · next e2 =>
      by_cases hy : ys = []
      · subst hy
        trivial
      · rw [zt_dvj hj e2 hy]
        exact h
    · rcases zt_ry_mem (ys := ys) (j := j) with z | z
      · exact zt_hl_in z h
      · subst z
        trivial
abbrev zt_C : Type := (Nat × List zt_Y) ⊕ (Nat × Nat × List zt_Y)
noncomputable def zt_cl (c : zt_C) (h : zx_H) (i : Nat) : Prop := match c with
  | .inl o => ∃ fs, zx_hg h i = some (.inl (o.1, fs)) ∧ ∀ (k : Nat) (y : zt_Y), o.2[k]? = some y → ∃ v, zx_g10 fs k = some v ∧ zt_yt y v
  | .inr x => ∃ d u, zx_hg h i = some (.inr (x.1, x.2.1, d, u)) ∧ x.2.1 ≤ 300000 ∧ ∀ j, j < x.2.1 → zt_yt (zt_ry x.2.2 j) (zx_rd d u j)
noncomputable def zt_hk (T : zx_Tr zt_C) (K0 : Nat) (h : zx_H) : Prop := ∀ (i : Nat) (c : zt_C), zx_g10 T i = some c → (K0 ≤ i ∧ i < 300000) ∧ zt_cl c h i
/-- places that aren't told stay as they were -/
def zt_fr (md : List (Nat × Nat)) (h h2 : zx_H) : Prop := h2.1 = h.1 ∧ ∀ i j, (i, j) ∉ md → (i, 999999) ∉ md → zt_at h2 i j = zt_at h i j
theorem zt_fr_refl {md : List (Nat × Nat)} {h : zx_H} : zt_fr md h h := ⟨rfl, fun _ _ _ _ => rfl⟩
def zt_hpr (T : zx_Tr zt_C) (K0 : Nat) (md : List (Nat × Nat)) (g : zx_F) (A : zt_S → zt_R) : Prop := ∀ (S : zt_S) (l : List (Nat × zt_S)) (r : Nat → Int) (L : zx_L) (st : List Value) (h : zx_H), zt_hk T K0 h → zt_g r S L st h → A S = some l →
  ∃ q ∈ l, ∃ (r2 : Nat → Int) (L2 : zx_L) (st2 : List Value) (h2 : zx_H), zt_go g L st h q.1 L2 st2 h2 ∧ (∀ i, i < S.1 → r2 i = r i) ∧ S.1 ≤ q.2.1 ∧ zt_g r2 q.2 L2 st2 h2 ∧ zt_hk T K0 h2 ∧ zt_fr md h h2
theorem zt_pur_h {T : zx_Tr zt_C} {K0 : Nat} {md : List (Nat × Nat)} {g : zx_F} {A : zt_S → zt_R} (hp : zt_pur g A) : zt_hpr T K0 md g A := fun S l r L st h hk hg hA => by
  obtain ⟨q, h1, r2, L2, st2, h3, h4, h5, h6⟩ := hp S l r L st h hg hA
  exact ⟨q, h1, r2, L2, st2, h, h3, h4, h5, h6, hk, zt_fr_refl⟩
/-- whether a value is of a type -/
noncomputable def zt_el (i : Nat) : List Nat → Bool
  | [] => false
  | j :: l => match Nat.beq i j with
    | true => true
    | false => zt_el i l
theorem zt_el_in {i : Nat} : ∀ {l : List Nat}, zt_el i l = true → i ∈ l
  | [], h => nomatch h
  | j :: l, h => by
    unfold zt_el at h
    split at h
    · next e => rw [Nat.eq_of_beq_eq_true e]; exact List.mem_cons_self
    · exact List.mem_cons_of_mem _ (zt_el_in h)
noncomputable def zt_ck (F : List zt_E) (a : zt_V) (y : zt_Y) : Bool := match y.1 with
  | 0 => Nat.beq a.1 0 && (zt_ge F (zt_sub a.2.1 (zt_k y.2.1)) && zt_ge F (zt_sub (zt_k y.2.2.1) a.2.1))
  | 1 => Nat.beq a.1 1 && (zt_ge F (zt_sub a.2.1 (zt_k y.2.1)) && zt_ge F (zt_sub (zt_k y.2.2.1) a.2.1))
  | 2 => Nat.beq a.1 2 && zt_el a.2.2 y.2.2.2
  | 3 => Nat.beq a.1 3 || (Nat.beq a.1 2 && zt_el a.2.2 y.2.2.2)
  | _ => false
theorem zt_ck_in {r : Nat → Int} {F : List zt_E} {a : zt_V} {y : zt_Y} {v : Value} (hF : zt_ok r F) (ha : zt_val r a v) (h : zt_ck F a y = true) : zt_yt y v := by
  obtain ⟨t, e, j⟩ := a
  obtain ⟨yt, lo, hi, l⟩ := y
  match yt, h with
  | 0, h =>
    have h9 : (Nat.beq t 0 && (zt_ge F (zt_sub e (zt_k lo)) && zt_ge F (zt_sub (zt_k hi) e))) = true := h
    simp only [Bool.and_eq_true] at h9
    obtain rfl : t = 0 := Nat.eq_of_beq_eq_true h9.1
    obtain ⟨x, rfl, hx⟩ := ha
    have h1 := zt_ge_in hF h9.2.1
    have h2 := zt_ge_in hF h9.2.2
    rw [zt_sub_ev, zt_k_ev] at h1 h2
    have hx2 : x.toInt = zt_ev r e := hx
    exact ⟨x, rfl, by show lo ≤ _; omega, by show _ ≤ hi; omega⟩
  | 1, h =>
    have h9 : (Nat.beq t 1 && (zt_ge F (zt_sub e (zt_k lo)) && zt_ge F (zt_sub (zt_k hi) e))) = true := h
    simp only [Bool.and_eq_true] at h9
    obtain rfl : t = 1 := Nat.eq_of_beq_eq_true h9.1
    obtain ⟨x, rfl, hx⟩ := ha
    have h1 := zt_ge_in hF h9.2.1
    have h2 := zt_ge_in hF h9.2.2
    rw [zt_sub_ev, zt_k_ev] at h1 h2
    have hx2 : x.toInt = zt_ev r e := hx
    exact ⟨x, rfl, by show lo ≤ _; omega, by show _ ≤ hi; omega⟩
  | 2, h =>
    have h9 : (Nat.beq t 2 && zt_el j l) = true := h
    simp only [Bool.and_eq_true] at h9
    obtain rfl : t = 2 := Nat.eq_of_beq_eq_true h9.1
    exact ⟨j, zt_el_in h9.2, ha⟩
  | 3, h =>
    have h9 : (Nat.beq t 3 || (Nat.beq t 2 && zt_el j l)) = true := h
    rcases Bool.or_eq_true_iff.mp h9 with h8 | h8
    · obtain rfl : t = 3 := Nat.eq_of_beq_eq_true h8
      exact Or.inl ha
    · simp only [Bool.and_eq_true] at h8
      obtain rfl : t = 2 := Nat.eq_of_beq_eq_true h8.1
      exact Or.inr ⟨j, zt_el_in h8.2, ha⟩
  | n + 4, h => exact nomatch h
noncomputable def zt_cka (F : List zt_E) (a : zt_V) : List zt_Y → Bool
  | [] => true
  | y :: l => zt_ck F a y && zt_cka F a l
theorem zt_cka_in {r : Nat → Int} {F : List zt_E} {a : zt_V} {v : Value} (hF : zt_ok r F) (ha : zt_val r a v) : ∀ {l : List zt_Y} {y : zt_Y}, y ∈ l → zt_cka F a l = true → zt_yt y v
  | [], _, h, _ => nomatch h
  | z :: l, y, h, hc => by
    have h9 : (zt_ck F a z && zt_cka F a l) = true := hc
    simp only [Bool.and_eq_true] at h9
    rcases List.mem_cons.mp h with e | e
    · rw [e]
      exact zt_ck_in hF ha h9.1
    · exact zt_cka_in hF ha e h9.2
/-- whether a value may be put at a place of a row -/
noncomputable def zt_ckr (F : List zt_E) (a : zt_V) (ys : List zt_Y) (e : zt_E) : Bool := match ys with
  | [] => false
  | _ => match e.2 with
    | [] => zt_ck F a (zt_ry ys e.1.toNat)
    | _ => match zt_dv (ys.length : Int) e.2 with
      | true => zt_ck F a (zt_ry ys (e.1 % (ys.length : Int)).toNat)
      | false => zt_cka F a ys
theorem zt_ckr_in {r : Nat → Int} {F : List zt_E} {a : zt_V} {ys : List zt_Y} {e : zt_E} {j : Nat} {v : Value} (hF : zt_ok r F) (ha : zt_val r a v) (hj : (j : Int) = zt_ev r e) (h : zt_ckr F a ys e = true) : zt_yt (zt_ry ys j) v ∧ ys ≠ [] := by
  unfold zt_ckr at h
  split at h
  · cases h
  · next hy =>
    refine ⟨?_, hy⟩
    split at h
    · next e1 =>
      have h1 : (j : Int) = e.1 := by rw [hj]; show e.1 + zt_tv r e.2 = e.1; rw [e1]; show e.1 + 0 = e.1; omega
      rw [← h1, Int.toNat_natCast] at h
      exact zt_ck_in hF ha h
    · split at h
      · next e2 =>
        rw [zt_dvj hj e2 hy] at h
        exact zt_ck_in hF ha h
      · rcases zt_ry_mem (ys := ys) (j := j) with z | z
        · exact zt_cka_in hF ha z h
        · exact absurd z hy
/-- whether a field of that kind takes all values of a type -/
noncomputable def zt_fy (t : FieldType) (y : zt_Y) : Bool := match t with
  | .int => Nat.beq y.1 0
  | .boolean => Nat.beq y.1 0 && (decide (0 ≤ y.2.1) && decide (y.2.2.1 ≤ 1))
  | .long => Nat.beq y.1 1
  | .object _ => Nat.beq y.1 2 || Nat.beq y.1 3
  | .array _ => Nat.beq y.1 2 || Nat.beq y.1 3
  | _ => false
theorem zt_01 {x : Int32} (h1 : 0 ≤ x.toInt) (h2 : x.toInt ≤ 1) : x = 0 ∨ x = 1 := by
  by_cases h : x.toInt = 0
  · exact Or.inl (Int32.toInt_inj.mp h)
  · exact Or.inr (Int32.toInt_inj.mp (show x.toInt = 1 by omega))
theorem zt_fy_in {t : FieldType} {y : zt_Y} {v : Value} (h : zt_fy t y = true) (hv : zt_yt y v) : zx_fit t v = true := by
  obtain ⟨yt, lo, hi, l⟩ := y
  have ref : (Nat.beq yt 2 || Nat.beq yt 3) = true → v = .null ∨ ∃ i, v = .ref i := fun h8 => by
    rcases Bool.or_eq_true_iff.mp h8 with h7 | h7
    · obtain rfl : yt = 2 := Nat.eq_of_beq_eq_true h7
      obtain ⟨i, -, h6⟩ := hv
      exact Or.inr ⟨i, h6⟩
    · obtain rfl : yt = 3 := Nat.eq_of_beq_eq_true h7
      rcases hv with h6 | ⟨i, -, h6⟩
      · exact Or.inl h6
      · exact Or.inr ⟨i, h6⟩
  match t, h with
  | .int, h =>
    obtain rfl : yt = 0 := Nat.eq_of_beq_eq_true h
    obtain ⟨x, rfl, -⟩ := hv
    rfl
  | .boolean, h =>
    have h9 : (Nat.beq yt 0 && (decide (0 ≤ lo) && decide (hi ≤ 1))) = true := h
    simp only [Bool.and_eq_true] at h9
    obtain rfl : yt = 0 := Nat.eq_of_beq_eq_true h9.1
    obtain ⟨x, rfl, h1, h2⟩ := hv
    have h3 := of_decide_eq_true h9.2.1
    have h4 := of_decide_eq_true h9.2.2
    have h5 : lo ≤ x.toInt := h1
    have h6 : x.toInt ≤ hi := h2
    rcases zt_01 (x := x) (by omega) (by omega) with e | e <;> rw [e] <;> decide
  | .long, h =>
    obtain rfl : yt = 1 := Nat.eq_of_beq_eq_true h
    obtain ⟨x, rfl, -⟩ := hv
    rfl
  | .object _, h => rcases ref h with e | ⟨i, e⟩ <;> rw [e] <;> rfl
  | .array _, h => rcases ref h with e | ⟨i, e⟩ <;> rw [e] <;> rfl
/-- linear things alike -/
noncomputable def zt_te : List zt_T → List zt_T → Bool
  | [], [] => true
  | p :: a, q :: b => Nat.beq p.1 q.1 && (decide (p.2 = q.2) && zt_te a b)
  | _, _ => false
theorem zt_te_in : ∀ {a b : List zt_T}, zt_te a b = true → a = b
  | [], [], _ => rfl
  | [], _ :: _, h => nomatch h
  | _ :: _, [], h => nomatch h
  | (p1, p2) :: a, (q1, q2) :: b, h => by
    have h9 : (Nat.beq p1 q1 && (decide (p2 = q2) && zt_te a b)) = true := h
    simp only [Bool.and_eq_true] at h9
    rw [Nat.eq_of_beq_eq_true h9.1, of_decide_eq_true h9.2.1, zt_te_in h9.2.2]
noncomputable def zt_eq (a b : zt_E) : Bool := Bool.rec (motive := fun _ => Bool) false (zt_t0 a.2 b.2) (zi_eq a.1 b.1)
theorem zt_eq_in {a b : zt_E} (h : zt_eq a b = true) : a = b := by
  obtain ⟨c, l⟩ := a
  obtain ⟨d, m⟩ := b
  have h9 : Bool.rec (motive := fun _ => Bool) false (zt_t0 l m) (zi_eq c d) = true := h
  cases e : zi_eq c d with
  | false =>
    rw [e] at h9
    exact nomatch h9
  | true =>
    rw [e] at h9
    have h8 : zt_t0 l m = true := h9
    rw [(zi_eq_iff c d).mp e, zt_t0_in h8]
/-- a place that is told -/
noncomputable def zt_fo (i : Nat) (e : zt_E) (l : List ((Nat × zt_E) × zt_V)) : Option zt_V := List.rec (motive := fun _ => Option zt_V) none (fun q _ ih => Bool.rec (motive := fun _ => Option zt_V) ih (Bool.rec (motive := fun _ => Option zt_V) ih (some q.2) (zt_eq q.1.2 e)) (Nat.beq q.1.1 i)) l
theorem zt_fo_c (i : Nat) (e : zt_E) (q : (Nat × zt_E) × zt_V) (l : List ((Nat × zt_E) × zt_V)) : zt_fo i e (q :: l) = (match Nat.beq q.1.1 i && zt_eq q.1.2 e with
    | true => some q.2
    | false => zt_fo i e l) := by
  show Bool.rec (motive := fun _ => Option zt_V) (zt_fo i e l) (Bool.rec (motive := fun _ => Option zt_V) (zt_fo i e l) (some q.2) (zt_eq q.1.2 e)) (Nat.beq q.1.1 i) = _
  cases Nat.beq q.1.1 i <;> cases zt_eq q.1.2 e <;> rfl
theorem zt_fo_in {i : Nat} {e : zt_E} : ∀ {A : List ((Nat × zt_E) × zt_V)} {a : zt_V}, zt_fo i e A = some a → ((i, e), a) ∈ A
  | [], a, h => nomatch h
  | ((j, f), b) :: A, a, h => by
    rw [zt_fo_c] at h
    split at h
    · next e1 =>
      simp only [Bool.and_eq_true] at e1
      cases h
      have e2 : j = i := Nat.eq_of_beq_eq_true e1.1
      have e3 : f = e := zt_eq_in e1.2
      rw [e2, e3]
      exact List.mem_cons_self
    · exact List.mem_cons_of_mem _ (zt_fo_in h)
noncomputable def zt_ovp (i : Nat) (e : zt_E) (a : zt_V) (S : zt_S) : zt_S := (S.1, S.2.1, S.2.2.1, ((i, e), a) :: S.2.2.2.1, S.2.2.2.2)
theorem zt_ovp_in {r : Nat → Int} {S : zt_S} {i j : Nat} {e : zt_E} {a : zt_V} {v : Value} {L : zx_L} {st : List Value} {h : zx_H} (hg : zt_g r S L st h) (he : zt_lt S.1 e) (ha : zt_lt S.1 a.2.1) (hj : (j : Int) = zt_ev r e) (hv : zt_at h i j = some v) (hav : zt_val r a v) : zt_g r (zt_ovp i e a S) L st h := by
  obtain ⟨h1, h2, h3, h4, w1, w2, w3, w4⟩ := hg
  refine ⟨h1, h2, h3, fun q hq => ?_, w1, w2, fun q hq => ?_, w4⟩
  · rcases List.mem_cons.mp hq with z | z
    · rw [z]
      exact ⟨j, v, hj, hv, hav⟩
    · exact h4 q z
  · rcases List.mem_cons.mp hq with z | z
    · rw [z]
      exact ⟨he, ha⟩
    · exact w3 q z
/-- what is laid down from a place of a type -/
noncomputable def zt_ldr (npc i : Nat) (e : zt_E) (B : List zt_V) (S : zt_S) : List Nat → List (Nat × zt_S)
  | [] => []
  | q :: l => (npc, zt_ovp i e (2, zt_k 0, q) (zt_stk ((2, zt_k 0, q) :: B) S)) :: zt_ldr npc i e B S l
noncomputable def zt_ld (npc i : Nat) (e : zt_E) (y : zt_Y) (B : List zt_V) (S : zt_S) : zt_R := match zt_fo i e S.2.2.2.1 with
  | some b => some [(npc, zt_stk (b :: B) S)]
  | none => match y.1 with
    | 0 => some [(npc, zt_ovp i e (0, zt_s S.1, 0) (zt_new 0 y.2.1 y.2.2.1 (fun _ => []) B S))]
    | 1 => some [(npc, zt_ovp i e (1, zt_s S.1, 0) (zt_new 1 y.2.1 y.2.2.1 (fun _ => []) B S))]
    | 2 => some (zt_ldr npc i e B S y.2.2.2)
    | 3 => some ((npc, zt_ovp i e (3, zt_k 0, 0) (zt_stk ((3, zt_k 0, 0) :: B) S)) :: zt_ldr npc i e B S y.2.2.2)
    | _ => none
theorem zt_ldr_in {r : Nat → Int} {S : zt_S} {npc i j p : Nat} {e : zt_E} {B : List zt_V} {L : zx_L} {st st2 : List Value} {h : zx_H} (hg : zt_g r S L st h) (hv : zt_vs r B st2) (hw : ∀ q ∈ B, zt_lt S.1 q.2.1) (he : zt_lt S.1 e) (hj : (j : Int) = zt_ev r e) (ha : zt_at h i j = some (.ref p)) : ∀ {l : List Nat}, p ∈ l → ∃ q ∈ zt_ldr npc i e B S l, q.1 = npc ∧ S.1 ≤ q.2.1 ∧ zt_g r q.2 L (.ref p :: st2) h
  | [], hp => nomatch hp
  | x :: l, hp => by
    by_cases e1 : p = x
    · subst e1
      exact ⟨_, List.mem_cons_self, rfl, Nat.le_refl _, zt_ovp_in (zt_stk_in hg ⟨rfl, hv⟩ (fun q hq => (List.mem_cons.mp hq).elim (fun z => by rw [z]; exact zt_k_lt) (hw q))) he zt_k_lt hj ha rfl⟩
    · obtain ⟨q, h1, h2⟩ := zt_ldr_in (l := l) hg hv hw he hj ha ((List.mem_cons.mp hp).elim (fun z => absurd z e1) id)
      exact ⟨q, List.mem_cons_of_mem _ h1, h2⟩
theorem zt_ld_in {r : Nat → Int} {S : zt_S} {l : List (Nat × zt_S)} {npc i j : Nat} {e : zt_E} {y : zt_Y} {B : List zt_V} {L : zx_L} {st st2 : List Value} {h : zx_H} {v : Value} (hg : zt_g r S L st h) (hv : zt_vs r B st2) (hw : ∀ q ∈ B, zt_lt S.1 q.2.1) (he : zt_lt S.1 e) (hj : (j : Int) = zt_ev r e) (ha : zt_at h i j = some v) (hy : zt_yt y v) (hA : zt_ld npc i e y B S = some l) :
    ∃ q ∈ l, q.1 = npc ∧ S.1 ≤ q.2.1 ∧ ∃ r2 : Nat → Int, (∀ i, i < S.1 → r2 i = r i) ∧ zt_g r2 q.2 L (v :: st2) h := by
  unfold zt_ld at hA
  split at hA
  · next b e1 =>
    cases hA
    obtain ⟨j2, v2, a1, a2, a3⟩ := hg.2.2.2.1 _ (zt_fo_in e1)
    have e2 : j2 = j := by
      have a4 : (j2 : Int) = zt_ev r e := a1
      omega
    subst e2
    have a5 : zt_at h i j2 = some v2 := a2
    rw [ha] at a5
    cases a5
    exact ⟨_, List.mem_cons_self, rfl, Nat.le_refl _, r, fun _ _ => rfl, zt_stk_in hg ⟨a3, hv⟩ (fun q hq => (List.mem_cons.mp hq).elim (fun z => by rw [z]; exact (hg.2.2.2.2.2.2.1 _ (zt_fo_in e1)).2) (hw q))⟩
  · obtain ⟨yt, lo, hi, ls⟩ := y
    match yt, hy, hA with
    | 0, hy, hA =>
      cases hA
      obtain ⟨x, rfl, h1, h2⟩ := hy
      have hval : ∀ r2 : Nat → Int, r2 S.1 = x.toInt → zt_val r2 (0, zt_s S.1, 0) (.int x) := fun r2 h2 => ⟨x, rfl, by show _ = zt_ev r2 (zt_s S.1); rw [zt_s_ev, h2]⟩
      obtain ⟨r2, g1, g2⟩ := zt_new_in x.toInt (lo := lo) (hi := hi) (fs := fun _ => []) hg hv hw hval h1 h2 (fun _ _ _ f hf => nomatch hf) (fun f hf => nomatch hf)
      obtain ⟨u, us, e3, e4, -⟩ := zt_vs_cons (a := (0, zt_s S.1, 0)) (as := B) g2.2.2.1
      cases e3
      exact ⟨_, List.mem_cons_self, rfl, Nat.le_succ _, r2, g1, zt_ovp_in g2 (zt_lt_mono he (Nat.le_succ _)) (zt_s_lt (Nat.lt_succ_self _)) (by rw [zt_ev_eq g1 he]; exact hj) ha e4⟩
    | 1, hy, hA =>
      cases hA
      obtain ⟨x, rfl, h1, h2⟩ := hy
      have hval : ∀ r2 : Nat → Int, r2 S.1 = x.toInt → zt_val r2 (1, zt_s S.1, 0) (.long x) := fun r2 h2 => ⟨x, rfl, by show _ = zt_ev r2 (zt_s S.1); rw [zt_s_ev, h2]⟩
      obtain ⟨r2, g1, g2⟩ := zt_new_in x.toInt (lo := lo) (hi := hi) (fs := fun _ => []) hg hv hw hval h1 h2 (fun _ _ _ f hf => nomatch hf) (fun f hf => nomatch hf)
      obtain ⟨u, us, e3, e4, -⟩ := zt_vs_cons (a := (1, zt_s S.1, 0)) (as := B) g2.2.2.1
      cases e3
      exact ⟨_, List.mem_cons_self, rfl, Nat.le_succ _, r2, g1, zt_ovp_in g2 (zt_lt_mono he (Nat.le_succ _)) (zt_s_lt (Nat.lt_succ_self _)) (by rw [zt_ev_eq g1 he]; exact hj) ha e4⟩
    | 2, hy, hA =>
      cases hA
      obtain ⟨p, hp, rfl⟩ := hy
      obtain ⟨q, g1, g2, g3, g4⟩ := zt_ldr_in (npc := npc) hg hv hw he hj ha hp
      exact ⟨q, g1, g2, g3, r, fun _ _ => rfl, g4⟩
    | 3, hy, hA =>
      cases hA
      rcases hy with rfl | ⟨p, hp, rfl⟩
      · exact ⟨_, List.mem_cons_self, rfl, Nat.le_refl _, r, fun _ _ => rfl, zt_ovp_in (zt_stk_in hg ⟨rfl, hv⟩ (fun q hq => (List.mem_cons.mp hq).elim (fun z => by rw [z]; exact zt_k_lt) (hw q))) he zt_k_lt hj ha rfl⟩
      · obtain ⟨q, g1, g2, g3, g4⟩ := zt_ldr_in (npc := npc) hg hv hw he hj ha hp
        exact ⟨q, List.mem_cons_of_mem _ g1, g2, g3, r, fun _ _ => rfl, g4⟩
    | n + 4, hy, hA => exact nomatch hA
/-- a field looked at -/
noncomputable def zt_agetf (T : zx_Tr zt_C) (ci k npc : Nat) (S : zt_S) : zt_R := match S.2.2.1 with
  | [] => none
  | a :: B => match Nat.beq a.1 2 with
    | false => none
    | true => match zx_g10 T a.2.2 with
      | some (.inl o) => match Nat.beq o.1 ci with
        | false => none
        | true => match zx_nth o.2 k with
          | none => none
          | some y => zt_ld npc a.2.2 (zt_k (k : Int)) y B S
      | _ => none
theorem zt_agetf_in {T : zx_Tr zt_C} {K0 ci k npc : Nat} {md : List (Nat × Nat)} : zt_hpr T K0 md (zx_getf ci k npc) (zt_agetf T ci k npc) := by
  intro S l r L st h hk hg hA
  unfold zt_agetf at hA
  split at hA
  · cases hA
  · next a B e1 =>
    split at hA
    · cases hA
    · next e2 =>
      split at hA
      · next o e3 =>
        split at hA
        · cases hA
        · next e4 =>
          split at hA
          · cases hA
          · next y e5 =>
            have hv := hg.2.2.1
            have hw := hg.2.2.2.2.2.1
            rw [e1] at hv hw
            obtain ⟨v, vs, rfl, h1, h2⟩ := zt_vs_cons hv
            obtain ⟨t, e, i⟩ := a
            obtain rfl : t = 2 := Nat.eq_of_beq_eq_true e2
            obtain rfl : v = .ref i := h1
            obtain ⟨-, fs, c1, c2⟩ := hk i _ e3
            rw [zx_nth_eq] at e5
            obtain ⟨u, c3, c4⟩ := c2 k y e5
            have e6 : o.1 = ci := Nat.eq_of_beq_eq_true e4
            rw [e6] at c1
            have hat : zt_at h i k = some u := by
              unfold zt_at
              rw [c1]
              exact c3
            obtain ⟨q, g1, g2, g3, r2, g4, g5⟩ := zt_ld_in hg h2 (fun q hq => hw q (List.mem_cons_of_mem _ hq)) zt_k_lt (zt_k_ev r _).symm hat c4 hA
            refine ⟨q, g1, r2, L, u :: vs, h, fun rec kk sl => ?_, g4, g3, g5, hk, zt_fr_refl⟩
            rw [g2]
            show (match zx_go h i ci with | none => none | some fs => match zx_g10 fs k with | some v => kk npc L (v :: vs) h sl | none => none) = _
            have e7 : zx_go h i ci = some fs := by
              unfold zx_go
              rw [c1]
              show (match Nat.beq ci ci with | true => some fs | false => none) = _
              rw [Nat.beq_refl]
            rw [e7]
            show (match zx_g10 fs k with | some v => kk npc L (v :: vs) h sl | none => none) = _
            rw [c3]
      · cases hA
