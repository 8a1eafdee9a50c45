/-! ===== what is known at a place: values by linear things, places of cells, facts ===== -/
/-- a value: 0 an int, 1 a long, 2 a cell, 3 null, 4 what a comparison of longs gives, 5 any cell or null -/
abbrev zt_V : Type := Nat × zt_E × Nat
noncomputable def zt_val (r : Nat → Int) (a : zt_V) (v : Value) : Prop := match a.1 with
  | 0 => ∃ x : Int32, v = .int x ∧ x.toInt = zt_ev r a.2.1
  | 1 => ∃ x : Int64, v = .long x ∧ x.toInt = zt_ev r a.2.1
  | 2 => v = .ref a.2.2
  | 3 => v = .null
  | 4 => ∃ x : Int32, v = .int x ∧ (x.toInt < 0 ↔ zt_ev r a.2.1 < 0) ∧ (x.toInt = 0 ↔ zt_ev r a.2.1 = 0)
  | 5 => v = .retAddr 0
  | _ => False
/-- the next symbol, the locals, the stack, places of cells, facts -/
abbrev zt_S : Type := Nat × List (Nat × zt_V) × List zt_V × List ((Nat × zt_E) × zt_V) × List zt_E
noncomputable def zt_at (h : zx_H) (i j : Nat) : Option Value := match zx_hg h i with
  | none => none
  | some a => match a with
    | .inl o => zx_g10 o.2 j
    | .inr x => some (zx_rd x.2.2.1 x.2.2.2 j)
noncomputable def zt_L (r : Nat → Int) (A : List (Nat × zt_V)) (L : zx_L) : Prop := ∀ q ∈ A, ∃ v, zx_ld L q.1 = some v ∧ zt_val r q.2 v
noncomputable def zt_vs (r : Nat → Int) : List zt_V → List Value → Prop
  | [], [] => True
  | a :: as, v :: vs => zt_val r a v ∧ zt_vs r as vs
  | _, _ => False
noncomputable def zt_o (r : Nat → Int) (A : List ((Nat × zt_E) × zt_V)) (h : zx_H) : Prop := ∀ q ∈ A, ∃ (j : Nat) (v : Value), (j : Int) = zt_ev r q.1.2 ∧ zt_at h q.1.1 j = some v ∧ zt_val r q.2 v
/-- symbols below the next one alone -/
def zt_wf (S : zt_S) : Prop := (∀ q ∈ S.2.1, zt_lt S.1 q.2.2.1) ∧ (∀ q ∈ S.2.2.1, zt_lt S.1 q.2.1) ∧ (∀ q ∈ S.2.2.2.1, zt_lt S.1 q.1.2 ∧ zt_lt S.1 q.2.2.1) ∧ ∀ f ∈ S.2.2.2.2, zt_lt S.1 f
noncomputable def zt_g (r : Nat → Int) (S : zt_S) (L : zx_L) (st : List Value) (h : zx_H) : Prop := zt_ok r S.2.2.2.2 ∧ zt_L r S.2.1 L ∧ zt_vs r S.2.2.1 st ∧ zt_o r S.2.2.2.1 h ∧ zt_wf S
theorem zt_val_eq {r r2 : Nat → Int} {n : Nat} (hr : ∀ i, i < n → r2 i = r i) {a : zt_V} (ha : zt_lt n a.2.1) {v : Value} (h : zt_val r a v) : zt_val r2 a v := by
  have he : zt_ev r2 a.2.1 = zt_ev r a.2.1 := by
    have : ∀ l : List zt_T, (∀ t ∈ l, t.1 < n) → zt_tv r2 l = zt_tv r l := by
      intro l
      induction l with
      | nil => intro _; rfl
      | cons q l ih =>
        intro hl
        show q.2 * r2 q.1 + zt_tv r2 l = q.2 * r q.1 + zt_tv r l
        rw [hr _ (hl q List.mem_cons_self), ih (fun t ht => hl t (List.mem_cons_of_mem _ ht))]
    show a.2.1.1 + zt_tv r2 a.2.1.2 = a.2.1.1 + zt_tv r a.2.1.2
    rw [this _ ha]
  obtain ⟨t, e, i⟩ := a
  match t, h with
  | 0, h => obtain ⟨x, h1, h2⟩ := h; exact ⟨x, h1, h2.trans he.symm⟩
  | 1, h => obtain ⟨x, h1, h2⟩ := h; exact ⟨x, h1, h2.trans he.symm⟩
  | 2, h => exact h
  | 3, h => exact h
  | 4, h =>
    obtain ⟨x, h1, h2, h3⟩ := h
    have he2 : zt_ev r2 e = zt_ev r e := he
    exact ⟨x, h1, by rw [show zt_ev r2 ((4, e, i) : zt_V).2.1 = zt_ev r e from he2]; exact h2, by rw [show zt_ev r2 ((4, e, i) : zt_V).2.1 = zt_ev r e from he2]; exact h3⟩
  | 5, h => exact h
  | t + 6, h => exact absurd h (fun z => z)
theorem zt_ev_eq {r r2 : Nat → Int} {n : Nat} (hr : ∀ i, i < n → r2 i = r i) {e : zt_E} (he : zt_lt n e) : zt_ev r2 e = zt_ev r e := by
  have : ∀ l : List zt_T, (∀ t ∈ l, t.1 < n) → zt_tv r2 l = zt_tv r l := by
    intro l
    induction l with
    | nil => intro _; rfl
    | cons q l ih =>
      intro hl
      show q.2 * r2 q.1 + zt_tv r2 l = q.2 * r q.1 + zt_tv r l
      rw [hr _ (hl q List.mem_cons_self), ih (fun t ht => hl t (List.mem_cons_of_mem _ ht))]
  show e.1 + zt_tv r2 e.2 = e.1 + zt_tv r e.2
  rw [this _ he]
/-- other numbers for symbols that aren't used -/
theorem zt_g_eq {r r2 : Nat → Int} {S : zt_S} (hr : ∀ i, i < S.1 → r2 i = r i) {L : zx_L} {st : List Value} {h : zx_H} (hg : zt_g r S L st h) : zt_g r2 S L st h := by
  obtain ⟨h1, h2, h3, h4, w1, w2, w3, w4⟩ := hg
  refine ⟨fun f hf => ?_, fun q hq => ?_, ?_, fun q hq => ?_, w1, w2, w3, w4⟩
  · rw [zt_ev_eq hr (w4 f hf)]
    exact h1 f hf
  · obtain ⟨v, a, b⟩ := h2 q hq
    exact ⟨v, a, zt_val_eq hr (w1 q hq) b⟩
  · have : ∀ (as : List zt_V) (vs : List Value), (∀ q ∈ as, zt_lt S.1 q.2.1) → zt_vs r as vs → zt_vs r2 as vs := by
      intro as
      induction as with
      | nil => intro vs _ hv; cases vs with
        | nil => trivial
        | cons _ _ => exact absurd hv (fun z => z)
      | cons a as ih => intro vs hw hv; cases vs with
        | nil => exact absurd hv (fun z => z)
        | cons v vs => exact ⟨zt_val_eq hr (hw a List.mem_cons_self) hv.1, ih vs (fun q hq => hw q (List.mem_cons_of_mem _ hq)) hv.2⟩
    exact this _ _ w2 h3
  · obtain ⟨j, v, a, b, c⟩ := h4 q hq
    exact ⟨j, v, by rw [zt_ev_eq hr (w3 q hq).1]; exact a, b, zt_val_eq hr (w3 q hq).2 c⟩
/-- a state with other facts, and more symbols -/
theorem zt_wf_mono {n m : Nat} (hm : n ≤ m) {A : List (Nat × zt_V)} {B : List zt_V} {C : List ((Nat × zt_E) × zt_V)} {F : List zt_E} (h : zt_wf (n, A, B, C, F)) : zt_wf (m, A, B, C, F) :=
  ⟨fun q hq => zt_lt_mono (h.1 q hq) hm, fun q hq => zt_lt_mono (h.2.1 q hq) hm, fun q hq => ⟨zt_lt_mono (h.2.2.1 q hq).1 hm, zt_lt_mono (h.2.2.1 q hq).2 hm⟩, fun f hf => zt_lt_mono (h.2.2.2 f hf) hm⟩
/-- one more fact -/
noncomputable def zt_fact (e : zt_E) (S : zt_S) : zt_S := (S.1, S.2.1, S.2.2.1, S.2.2.2.1, e :: S.2.2.2.2)
theorem zt_fact_in {r : Nat → Int} {S : zt_S} {e : zt_E} {L : zx_L} {st : List Value} {h : zx_H} (hg : zt_g r S L st h) (he : 0 ≤ zt_ev r e) (hl : zt_lt S.1 e) : zt_g r (zt_fact e S) L st h := by
  obtain ⟨h1, h2, h3, h4, w1, w2, w3, w4⟩ := hg
  refine ⟨fun f hf => ?_, h2, h3, h4, w1, w2, w3, fun f hf => ?_⟩
  · rcases List.mem_cons.mp hf with e1 | e1
    · rw [e1]; exact he
    · exact h1 f e1
  · rcases List.mem_cons.mp hf with e1 | e1
    · rw [e1]; exact hl
    · exact w4 f e1
/-- another stack -/
noncomputable def zt_stk (B : List zt_V) (S : zt_S) : zt_S := (S.1, S.2.1, B, S.2.2.2)
theorem zt_stk_in {r : Nat → Int} {S : zt_S} {B : List zt_V} {L : zx_L} {st st2 : List Value} {h : zx_H} (hg : zt_g r S L st h) (hv : zt_vs r B st2) (hw : ∀ q ∈ B, zt_lt S.1 q.2.1) : zt_g r (zt_stk B S) L st2 h :=
  ⟨hg.1, hg.2.1, hv, hg.2.2.2.1, hg.2.2.2.2.1, hw, hg.2.2.2.2.2.2.1, hg.2.2.2.2.2.2.2⟩
/-- a new symbol, between two numbers, with facts of it, ahead on the stack -/
noncomputable def zt_new (t : Nat) (lo hi : Int) (fs : zt_E → List zt_E) (B : List zt_V) (S : zt_S) : zt_S := (S.1 + 1, S.2.1, (t, zt_s S.1, 0) :: B, S.2.2.2.1, zt_sub (zt_s S.1) (zt_k lo) :: zt_sub (zt_k hi) (zt_s S.1) :: (fs (zt_s S.1) ++ S.2.2.2.2))
theorem zt_new_in {r : Nat → Int} {S : zt_S} {t : Nat} {lo hi : Int} {fs : zt_E → List zt_E} {B : List zt_V} {L : zx_L} {st st2 : List Value} {h : zx_H} {v : Value} (z : Int) (hg : zt_g r S L st h) (hv : zt_vs r B st2) (hw : ∀ q ∈ B, zt_lt S.1 q.2.1)
    (ht : ∀ r2 : Nat → Int, r2 S.1 = z → zt_val r2 (t, zt_s S.1, 0) v) (hlo : lo ≤ z) (hhi : z ≤ hi) (hfs : ∀ r2 : Nat → Int, (∀ i, i < S.1 → r2 i = r i) → r2 S.1 = z → zt_ok r2 (fs (zt_s S.1))) (hfw : ∀ f ∈ fs (zt_s S.1), zt_lt (S.1 + 1) f) :
    ∃ r2, (∀ i, i < S.1 → r2 i = r i) ∧ zt_g r2 (zt_new t lo hi fs B S) L (v :: st2) h := by
  have hr : ∀ i, i < S.1 → (fun i => if i = S.1 then z else r i) i = r i := fun i hi => if_neg (Nat.ne_of_lt hi)
  have hz : (fun i => if i = S.1 then z else r i) S.1 = z := if_pos rfl
  have g0 : zt_g r (zt_stk B S) L st2 h := zt_stk_in hg hv hw
  have g1 : zt_g (fun i => if i = S.1 then z else r i) (zt_stk B S) L st2 h := zt_g_eq (S := zt_stk B S) hr g0
  obtain ⟨h1, h2, h3, h4, w1, w2, w3, w4⟩ := g1
  refine ⟨_, hr, fun f hf => ?_, h2, ⟨ht _ hz, h3⟩, h4, fun q hq => zt_lt_mono (w1 q hq) (Nat.le_succ _), fun q hq => ?_, fun q hq => ⟨zt_lt_mono (w3 q hq).1 (Nat.le_succ _), zt_lt_mono (w3 q hq).2 (Nat.le_succ _)⟩, fun f hf => ?_⟩
  · rcases List.mem_cons.mp hf with e | hf
    · rw [e, zt_sub_ev, zt_s_ev, zt_k_ev, if_pos rfl]
      omega
    · rcases List.mem_cons.mp hf with e | hf
      · rw [e, zt_sub_ev, zt_s_ev, zt_k_ev, if_pos rfl]
        omega
      · rcases List.mem_append.mp hf with e | e
        · exact hfs _ hr hz f e
        · exact h1 f e
  · rcases List.mem_cons.mp hq with e | hq
    · rw [e]
      exact zt_s_lt (Nat.lt_succ_self _)
    · exact zt_lt_mono (hw q hq) (Nat.le_succ _)
  · rcases List.mem_cons.mp hf with e | hf
    · rw [e]
      exact zt_sub_lt (zt_s_lt (Nat.lt_succ_self _)) zt_k_lt
    · rcases List.mem_cons.mp hf with e | hf
      · rw [e]
        exact zt_sub_lt zt_k_lt (zt_s_lt (Nat.lt_succ_self _))
      · rcases List.mem_append.mp hf with e | e
        · exact hfw f e
        · exact zt_lt_mono (w4 f e) (Nat.le_succ _)
/-- the step goes on there, whatever comes behind -/
def zt_go (g : zx_F) (L : zx_L) (st : List Value) (h : zx_H) (pc2 : Nat) (L2 : zx_L) (st2 : List Value) (h2 : zx_H) : Prop := ∀ (rec : zx_C) (k : zx_K) (sl : Nat), g rec L st h sl k = k pc2 L2 st2 h2 sl
theorem zt_vs_cons {r : Nat → Int} {a : zt_V} {as : List zt_V} {st : List Value} (h : zt_vs r (a :: as) st) : ∃ v vs, st = v :: vs ∧ zt_val r a v ∧ zt_vs r as vs := by
  cases st with
  | nil => exact absurd h (fun z => z)
  | cons v vs => exact ⟨v, vs, rfl, h.1, h.2⟩
noncomputable def zt_lo32 : Int := -2147483648
noncomputable def zt_hi32 : Int := 2147483647
noncomputable def zt_lo64 : Int := -9223372036854775808
noncomputable def zt_hi64 : Int := 9223372036854775807
theorem zt_i32 (x : Int32) : -2147483648 ≤ x.toInt ∧ x.toInt ≤ 2147483647 := by
  have h1 := x.toBitVec.toInt_lt
  have h2 := x.toBitVec.le_toInt
  show -2147483648 ≤ x.toBitVec.toInt ∧ x.toBitVec.toInt ≤ 2147483647
  omega
theorem zt_i64 (x : Int64) : -9223372036854775808 ≤ x.toInt ∧ x.toInt ≤ 9223372036854775807 := by
  have h1 := x.toBitVec.toInt_lt
  have h2 := x.toBitVec.le_toInt
  show -9223372036854775808 ≤ x.toBitVec.toInt ∧ x.toBitVec.toInt ≤ 9223372036854775807
  omega
theorem zt_bm32 {n : Int} (h1 : -2147483648 ≤ n) (h2 : n ≤ 2147483647) : n.bmod 4294967296 = n := by
  rw [Int.bmod_def]
  split <;> omega
theorem zt_bm64 {n : Int} (h1 : -9223372036854775808 ≤ n) (h2 : n ≤ 9223372036854775807) : n.bmod 18446744073709551616 = n := by
  rw [Int.bmod_def]
  split <;> omega
/-- a number that is known to fit is its linear thing, else a new symbol -/
noncomputable def zt_fI (e : zt_E) (B : List zt_V) (S : zt_S) : zt_S := match zt_ge S.2.2.2.2 (zt_sub e (zt_k (-2147483648))) && zt_ge S.2.2.2.2 (zt_sub (zt_k 2147483647) e) with
  | true => zt_stk ((0, e, 0) :: B) S
  | false => zt_new 0 (-2147483648) 2147483647 (fun _ => []) B S
noncomputable def zt_fJ (e : zt_E) (B : List zt_V) (S : zt_S) : zt_S := match zt_ge S.2.2.2.2 (zt_sub e (zt_k (-9223372036854775808))) && zt_ge S.2.2.2.2 (zt_sub (zt_k 9223372036854775807) e) with
  | true => zt_stk ((1, e, 0) :: B) S
  | false => zt_new 1 (-9223372036854775808) 9223372036854775807 (fun _ => []) B S
theorem zt_fit0 {r : Nat → Int} {S : zt_S} {e : zt_E} {B : List zt_V} {L : zx_L} {st st2 : List Value} {h : zx_H} {x : Int32} (hg : zt_g r S L st h) (hv : zt_vs r B st2) (hw : ∀ q ∈ B, zt_lt S.1 q.2.1) (he : zt_lt S.1 e) (hx : x.toInt = (zt_ev r e).bmod 4294967296) : ∃ r2, (∀ i, i < S.1 → r2 i = r i) ∧ zt_g r2 (zt_fI e B S) L (.int x :: st2) h := by
  unfold zt_fI
  split
  · next e1 =>
    simp only [Bool.and_eq_true] at e1
    have h1 := zt_ge_in hg.1 e1.1
    have h2 := zt_ge_in hg.1 e1.2
    rw [zt_sub_ev, zt_k_ev] at h1 h2
    rw [zt_bm32 (by omega) (by omega)] at hx
    exact ⟨r, fun _ _ => rfl, zt_stk_in hg ⟨⟨x, rfl, hx⟩, hv⟩ (fun q hq => (List.mem_cons.mp hq).elim (fun z => by rw [z]; exact he) (hw q))⟩
  · exact zt_new_in x.toInt (t := 0) (v := .int x) (fs := fun _ => []) hg hv hw (fun r2 h2 => ⟨x, rfl, by show _ = zt_ev r2 (zt_s S.1); rw [zt_s_ev, h2]⟩) (zt_i32 x).1 (zt_i32 x).2 (fun _ _ _ f hf => nomatch hf) (fun f hf => nomatch hf)
theorem zt_fit1 {r : Nat → Int} {S : zt_S} {e : zt_E} {B : List zt_V} {L : zx_L} {st st2 : List Value} {h : zx_H} {x : Int64} (hg : zt_g r S L st h) (hv : zt_vs r B st2) (hw : ∀ q ∈ B, zt_lt S.1 q.2.1) (he : zt_lt S.1 e) (hx : x.toInt = (zt_ev r e).bmod 18446744073709551616) : ∃ r2, (∀ i, i < S.1 → r2 i = r i) ∧ zt_g r2 (zt_fJ e B S) L (.long x :: st2) h := by
  unfold zt_fJ
  split
  · next e1 =>
    simp only [Bool.and_eq_true] at e1
    have h1 := zt_ge_in hg.1 e1.1
    have h2 := zt_ge_in hg.1 e1.2
    rw [zt_sub_ev, zt_k_ev] at h1 h2
    rw [zt_bm64 (by omega) (by omega)] at hx
    exact ⟨r, fun _ _ => rfl, zt_stk_in hg ⟨⟨x, rfl, hx⟩, hv⟩ (fun q hq => (List.mem_cons.mp hq).elim (fun z => by rw [z]; exact he) (hw q))⟩
  · exact zt_new_in x.toInt (t := 1) (v := .long x) (fs := fun _ => []) hg hv hw (fun r2 h2 => ⟨x, rfl, by show _ = zt_ev r2 (zt_s S.1); rw [zt_s_ev, h2]⟩) (zt_i64 x).1 (zt_i64 x).2 (fun _ _ _ f hf => nomatch hf) (fun f hf => nomatch hf)
