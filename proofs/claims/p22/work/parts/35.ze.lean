/-! ===== or, exclusive or, characters; what each place does ===== -/
theorem ze_or_le : ∀ (n a b : Nat), a + b ≤ n → a ||| b ≤ a + b ∧ a ^^^ b ≤ a + b
  | 0, a, b, h => by
    obtain rfl : a = 0 := by omega
    obtain rfl : b = 0 := by omega
    exact ⟨Nat.le_refl _, Nat.le_refl _⟩
  | n + 1, a, b, h => by
    by_cases h0 : a + b = 0
    · obtain rfl : a = 0 := by omega
      obtain rfl : b = 0 := by omega
      exact ⟨Nat.le_refl _, Nat.le_refl _⟩
    · obtain ⟨h1, h2⟩ := ze_or_le n (a / 2) (b / 2) (by omega)
      rw [← Nat.or_div_two] at h1
      rw [← Nat.xor_div_two] at h2
      have h3 : (a ||| b) % 2 ≤ a % 2 + b % 2 := by
        by_cases h4 : (a ||| b) % 2 = 1
        · rcases Nat.or_mod_two_eq_one.mp h4 with h5 | h5 <;> omega
        · omega
      have h6 : (a ^^^ b) % 2 ≤ a % 2 + b % 2 := by
        by_cases h4 : (a ^^^ b) % 2 = 1
        · have := Nat.xor_mod_two_eq_one.mp h4
          by_cases h5 : a % 2 = 1
          · omega
          · by_cases h7 : b % 2 = 1
            · omega
            · exact absurd ⟨fun z => absurd z h5, fun z => absurd z h7⟩ this
        · omega
      exact ⟨by omega, by omega⟩

theorem ze_or32 (x y : Int32) (hx : 0 ≤ x.toInt) (hy : 0 ≤ y.toInt) : 0 ≤ (x ||| y).toInt ∧ x.toInt ≤ (x ||| y).toInt ∧ y.toInt ≤ (x ||| y).toInt ∧ (x ||| y).toInt ≤ x.toInt + y.toInt := by
  have h1 := zt_nat32 x
  have h2 := zt_nat32 y
  have h3 := zt_nat32 (x ||| y)
  have e : (x ||| y).toBitVec.toNat = x.toBitVec.toNat ||| y.toBitVec.toNat := by
    show (x.toBitVec ||| y.toBitVec).toNat = _
    rw [BitVec.toNat_or]
  have l1 := x.toBitVec.isLt
  have l2 := y.toBitVec.isLt
  have b1 : x.toBitVec.toNat < 2 ^ 31 := by split at h1 <;> omega
  have b2 : y.toBitVec.toNat < 2 ^ 31 := by split at h2 <;> omega
  have b3 := Nat.or_lt_two_pow b1 b2
  have b4 := (ze_or_le _ x.toBitVec.toNat y.toBitVec.toNat (Nat.le_refl _)).1
  have b5 : x.toBitVec.toNat ≤ x.toBitVec.toNat ||| y.toBitVec.toNat := Nat.left_le_or
  have b6 : y.toBitVec.toNat ≤ x.toBitVec.toNat ||| y.toBitVec.toNat := Nat.right_le_or
  rw [e] at h3
  rw [if_pos (by omega)] at h1 h2 h3
  omega
theorem ze_xor32 (x y : Int32) (hx : 0 ≤ x.toInt) (hy : 0 ≤ y.toInt) : 0 ≤ (x ^^^ y).toInt ∧ (x ^^^ y).toInt ≤ x.toInt + y.toInt := by
  have h1 := zt_nat32 x
  have h2 := zt_nat32 y
  have h3 := zt_nat32 (x ^^^ y)
  have e : (x ^^^ y).toBitVec.toNat = x.toBitVec.toNat ^^^ y.toBitVec.toNat := by
    show (x.toBitVec ^^^ y.toBitVec).toNat = _
    rw [BitVec.toNat_xor]
  have l1 := x.toBitVec.isLt
  have l2 := y.toBitVec.isLt
  have b1 : x.toBitVec.toNat < 2 ^ 31 := by split at h1 <;> omega
  have b2 : y.toBitVec.toNat < 2 ^ 31 := by split at h2 <;> omega
  have b3 := Nat.xor_lt_two_pow b1 b2
  have b4 := (ze_or_le _ x.toBitVec.toNat y.toBitVec.toNat (Nat.le_refl _)).2
  rw [e] at h3
  rw [if_pos (by omega)] at h1 h2 h3
  omega
theorem ze_or64 (x y : Int64) (hx : 0 ≤ x.toInt) (hy : 0 ≤ y.toInt) : 0 ≤ (x ||| y).toInt ∧ x.toInt ≤ (x ||| y).toInt ∧ y.toInt ≤ (x ||| y).toInt ∧ (x ||| y).toInt ≤ x.toInt + y.toInt := by
  have h1 := zt_nat64 x
  have h2 := zt_nat64 y
  have h3 := zt_nat64 (x ||| y)
  have e : (x ||| y).toBitVec.toNat = x.toBitVec.toNat ||| y.toBitVec.toNat := by
    show (x.toBitVec ||| y.toBitVec).toNat = _
    rw [BitVec.toNat_or]
  have l1 := x.toBitVec.isLt
  have l2 := y.toBitVec.isLt
  have b1 : x.toBitVec.toNat < 2 ^ 63 := by split at h1 <;> omega
  have b2 : y.toBitVec.toNat < 2 ^ 63 := by split at h2 <;> omega
  have b3 := Nat.or_lt_two_pow b1 b2
  have b4 := (ze_or_le _ x.toBitVec.toNat y.toBitVec.toNat (Nat.le_refl _)).1
  have b5 : x.toBitVec.toNat ≤ x.toBitVec.toNat ||| y.toBitVec.toNat := Nat.left_le_or
  have b6 : y.toBitVec.toNat ≤ x.toBitVec.toNat ||| y.toBitVec.toNat := Nat.right_le_or
  rw [e] at h3
  rw [if_pos (by omega)] at h1 h2 h3
  omega
theorem ze_xor64 (x y : Int64) (hx : 0 ≤ x.toInt) (hy : 0 ≤ y.toInt) : 0 ≤ (x ^^^ y).toInt ∧ (x ^^^ y).toInt ≤ x.toInt + y.toInt := by
  have h1 := zt_nat64 x
  have h2 := zt_nat64 y
  have h3 := zt_nat64 (x ^^^ y)
  have e : (x ^^^ y).toBitVec.toNat = x.toBitVec.toNat ^^^ y.toBitVec.toNat := by
    show (x.toBitVec ^^^ y.toBitVec).toNat = _
    rw [BitVec.toNat_xor]
  have l1 := x.toBitVec.isLt
  have l2 := y.toBitVec.isLt
  have b1 : x.toBitVec.toNat < 2 ^ 63 := by split at h1 <;> omega
  have b2 : y.toBitVec.toNat < 2 ^ 63 := by split at h2 <;> omega
  have b3 := Nat.xor_lt_two_pow b1 b2
  have b4 := (ze_or_le _ x.toBitVec.toNat y.toBitVec.toNat (Nat.le_refl _)).2
  rw [e] at h3
  rw [if_pos (by omega)] at h1 h2 h3
  omega
noncomputable def zt_for32 (S : zt_S) (a b : zt_E) (B : List zt_V) : Option zt_S := match zt_ge S.2.2.2.2 a && zt_ge S.2.2.2.2 b with
  | true => some (zt_new 0 0 2147483647 (fun s => [zt_sub s a, zt_sub s b, zt_sub (zt_add a b) s]) B S)
  | false => some (zt_any B S)
theorem zt_for32_in {r : Nat → Int} {S S2 : zt_S} {a b : zt_E} {B : List zt_V} {L : zx_L} {st st2 : List Value} {h : zx_H} {x y : Int32} (hg : zt_g r S L st h) (hv : zt_vs r B st2) (hw : ∀ q ∈ B, zt_lt S.1 q.2.1) (ha : zt_lt S.1 a) (hb : zt_lt S.1 b) (hx : x.toInt = zt_ev r a) (hy : y.toInt = zt_ev r b) (hf : zt_for32 S a b B = some S2) : ∃ r2 : Nat → Int, (∀ i, i < S.1 → r2 i = r i) ∧ S.1 ≤ S2.1 ∧ zt_g r2 S2 L (.int (x ||| y) :: st2) h := by
  unfold zt_for32 at hf
  split at hf
  · next e =>
    cases hf
    simp only [Bool.and_eq_true] at e
    have h1 := zt_ge_in hg.1 e.1
    have h2 := zt_ge_in hg.1 e.2
    have h3 := ze_or32 x y (by omega) (by omega)
    obtain ⟨r2, g1, g2⟩ := zt_new_in (x ||| y).toInt (t := 0) (lo := 0) (hi := 2147483647) (v := .int (x ||| y)) (fs := fun s => [zt_sub s a, zt_sub s b, zt_sub (zt_add a b) s]) hg hv hw (fun r2 h2 => ⟨x ||| y, rfl, by show _ = zt_ev r2 (zt_s S.1); rw [zt_s_ev, h2]⟩) (by omega) (zt_i32 _).2 (fun r2 h8 h9 f hf => by
      simp only [List.mem_cons, List.not_mem_nil, or_false] at hf
      rcases hf with e | e | e <;> subst e
      · rw [zt_sub_ev, zt_s_ev, h9, zt_ev_eq h8 ha]
        omega
      · rw [zt_sub_ev, zt_s_ev, h9, zt_ev_eq h8 hb]
        omega
      · rw [zt_sub_ev, zt_add_ev, zt_s_ev, h9, zt_ev_eq h8 ha, zt_ev_eq h8 hb]
        omega) (fun f hf => by
      simp only [List.mem_cons, List.not_mem_nil, or_false] at hf
      rcases hf with e | e | e <;> subst e
      · exact zt_sub_lt (zt_s_lt (Nat.lt_succ_self _)) (zt_lt_mono ha (Nat.le_succ _))
      · exact zt_sub_lt (zt_s_lt (Nat.lt_succ_self _)) (zt_lt_mono hb (Nat.le_succ _))
      · exact zt_sub_lt (zt_add_lt (zt_lt_mono ha (Nat.le_succ _)) (zt_lt_mono hb (Nat.le_succ _))) (zt_s_lt (Nat.lt_succ_self _)))
    exact ⟨r2, g1, Nat.le_succ _, g2⟩
  · cases hf
    exact zt_any_in _ hg hv hw
noncomputable def zt_for3 (S : zt_S) (a b : zt_E) (B : List zt_V) : Option zt_S := match zt_sd S.2.2.2.2 a b with
  | true => some (zt_stk ((0, zt_add a b, 0) :: B) S)
  | false => (match zt_sd S.2.2.2.2 b a with
    | true => some (zt_stk ((0, zt_add b a, 0) :: B) S)
    | false => zt_for32 S a b B)
theorem zt_for3_in {r : Nat → Int} {S S2 : zt_S} {a b : zt_E} {B : List zt_V} {L : zx_L} {st st2 : List Value} {h : zx_H} {x y : Int32} (hg : zt_g r S L st h) (hv : zt_vs r B st2) (hw : ∀ q ∈ B, zt_lt S.1 q.2.1) (ha : zt_lt S.1 a) (hb : zt_lt S.1 b) (hx : x.toInt = zt_ev r a) (hy : y.toInt = zt_ev r b) (hf : zt_for3 S a b B = some S2) : ∃ r2 : Nat → Int, (∀ i, i < S.1 → r2 i = r i) ∧ S.1 ≤ S2.1 ∧ zt_g r2 S2 L (.int (x ||| y) :: st2) h := by
  unfold zt_for3 at hf
  split at hf
  · next e1 =>
    cases hf
    exact ⟨r, fun _ _ => rfl, Nat.le_refl _, zt_stk_in hg ⟨⟨x ||| y, rfl, zt_sd_in hg.1 hx hy e1⟩, hv⟩ (fun q hq => (List.mem_cons.mp hq).elim (fun z => by rw [z]; exact zt_add_lt ha hb) (hw q))⟩
  · split at hf
    · next e1 =>
      cases hf
      have e2 : (x ||| y) = (y ||| x) := Int32.toBitVec_inj.mp (BitVec.or_comm ..)
      exact ⟨r, fun _ _ => rfl, Nat.le_refl _, zt_stk_in hg ⟨⟨x ||| y, rfl, by rw [e2]; exact zt_sd_in hg.1 hy hx e1⟩, hv⟩ (fun q hq => (List.mem_cons.mp hq).elim (fun z => by rw [z]; exact zt_add_lt hb ha) (hw q))⟩
    · exact zt_for32_in hg hv hw ha hb hx hy hf
noncomputable def zt_fxo32 (S : zt_S) (a b : zt_E) (B : List zt_V) : Option zt_S := match zt_ge S.2.2.2.2 a && zt_ge S.2.2.2.2 b with
  | true => some (zt_new 0 0 2147483647 (fun s => [zt_sub (zt_add a b) s]) B S)
  | false => (match zt_ge S.2.2.2.2 a && zt_ge S.2.2.2.2 (zt_sub (zt_k (-1)) b) with
    | true => some (zt_new 0 (-2147483648) (-1) (fun _ => []) B S)
    | false => (match zt_ge S.2.2.2.2 b && zt_ge S.2.2.2.2 (zt_sub (zt_k (-1)) a) with
      | true => some (zt_new 0 (-2147483648) (-1) (fun _ => []) B S)
      | false => some (zt_any B S)))
theorem ze_xorn32 (x y : Int32) (h : (0 ≤ x.toInt ∧ y.toInt < 0) ∨ (0 ≤ y.toInt ∧ x.toInt < 0)) : (x ^^^ y).toInt ≤ -1 := by
  have e : (x.toBitVec ^^^ y.toBitVec).msb = (x.toBitVec.msb ^^ y.toBitVec.msb) := BitVec.msb_xor
  have e1 : x.toBitVec.msb = decide (x.toInt < 0) := BitVec.msb_eq_toInt
  have e2 : y.toBitVec.msb = decide (y.toInt < 0) := BitVec.msb_eq_toInt
  have e3 : (x.toBitVec ^^^ y.toBitVec).msb = decide ((x ^^^ y).toInt < 0) := BitVec.msb_eq_toInt
  rw [e1, e2, e3] at e
  have h9 : decide ((x ^^^ y).toInt < 0) = true := by
    rw [e]
    rcases h with ⟨h1, h2⟩ | ⟨h1, h2⟩
    · rw [decide_eq_false (by omega), decide_eq_true h2]
      rfl
    · rw [decide_eq_false (p := y.toInt < 0) (by omega), decide_eq_true h2]
      rfl
  have := of_decide_eq_true h9
  omega
theorem zt_fxo32_in {r : Nat → Int} {S S2 : zt_S} {a b : zt_E} {B : List zt_V} {L : zx_L} {st st2 : List Value} {h : zx_H} {x y : Int32} (hg : zt_g r S L st h) (hv : zt_vs r B st2) (hw : ∀ q ∈ B, zt_lt S.1 q.2.1) (ha : zt_lt S.1 a) (hb : zt_lt S.1 b) (hx : x.toInt = zt_ev r a) (hy : y.toInt = zt_ev r b) (hf : zt_fxo32 S a b B = some S2) : ∃ r2 : Nat → Int, (∀ i, i < S.1 → r2 i = r i) ∧ S.1 ≤ S2.1 ∧ zt_g r2 S2 L (.int (x ^^^ y) :: st2) h := by
  unfold zt_fxo32 at hf
  split at hf
  · next e =>
    cases hf
    simp only [Bool.and_eq_true] at e
    have h1 := zt_ge_in hg.1 e.1
    have h2 := zt_ge_in hg.1 e.2
    have h3 := ze_xor32 x y (by omega) (by omega)
    obtain ⟨r2, g1, g2⟩ := zt_new_in (x ^^^ y).toInt (t := 0) (lo := 0) (hi := 2147483647) (v := .int (x ^^^ y)) (fs := fun s => [zt_sub (zt_add a b) s]) hg hv hw (fun r2 h2 => ⟨x ^^^ y, rfl, by show _ = zt_ev r2 (zt_s S.1); rw [zt_s_ev, h2]⟩) (by omega) (zt_i32 _).2 (fun r2 h8 h9 f hf => by
      rw [List.mem_singleton.mp hf, zt_sub_ev, zt_add_ev, zt_s_ev, h9, zt_ev_eq h8 ha, zt_ev_eq h8 hb]
      omega) (fun f hf => by
      rw [List.mem_singleton.mp hf]
      exact zt_sub_lt (zt_add_lt (zt_lt_mono ha (Nat.le_succ _)) (zt_lt_mono hb (Nat.le_succ _))) (zt_s_lt (Nat.lt_succ_self _)))
    exact ⟨r2, g1, Nat.le_succ _, g2⟩
  · split at hf
    · next e =>
      cases hf
      simp only [Bool.and_eq_true] at e
      have h1 := zt_ge_in hg.1 e.1
      have h2 := zt_ge_in hg.1 e.2
      rw [zt_sub_ev, zt_k_ev] at h2
      have h3 := ze_xorn32 x y (.inl ⟨by omega, by omega⟩)
      obtain ⟨r2, g1, g2⟩ := zt_new_in (x ^^^ y).toInt (t := 0) (lo := -2147483648) (hi := -1) (v := .int (x ^^^ y)) (fs := fun _ => []) hg hv hw (fun r2 h2 => ⟨x ^^^ y, rfl, by show _ = zt_ev r2 (zt_s S.1); rw [zt_s_ev, h2]⟩) (zt_i32 _).1 h3 (fun r2 h8 h9 f hf => nomatch hf) (fun f hf => nomatch hf)
      exact ⟨r2, g1, Nat.le_succ _, g2⟩
    · split at hf
      · next e =>
        cases hf
        simp only [Bool.and_eq_true] at e
        have h1 := zt_ge_in hg.1 e.1
        have h2 := zt_ge_in hg.1 e.2
        rw [zt_sub_ev, zt_k_ev] at h2
        have h3 := ze_xorn32 x y (.inr ⟨by omega, by omega⟩)
        obtain ⟨r2, g1, g2⟩ := zt_new_in (x ^^^ y).toInt (t := 0) (lo := -2147483648) (hi := -1) (v := .int (x ^^^ y)) (fs := fun _ => []) hg hv hw (fun r2 h2 => ⟨x ^^^ y, rfl, by show _ = zt_ev r2 (zt_s S.1); rw [zt_s_ev, h2]⟩) (zt_i32 _).1 h3 (fun r2 h8 h9 f hf => nomatch hf) (fun f hf => nomatch hf)
        exact ⟨r2, g1, Nat.le_succ _, g2⟩
      · cases hf
        exact zt_any_in _ hg hv hw
noncomputable def zt_for64 (S : zt_S) (a b : zt_E) (B : List zt_V) : Option zt_S := match zt_ge S.2.2.2.2 a && zt_ge S.2.2.2.2 b with
  | true => some (zt_new 1 0 9223372036854775807 (fun s => [zt_sub s a, zt_sub s b, zt_sub (zt_add a b) s]) B S)
  | false => some (zt_anyJ B S)
theorem zt_for64_in {r : Nat → Int} {S S2 : zt_S} {a b : zt_E} {B : List zt_V} {L : zx_L} {st st2 : List Value} {h : zx_H} {x y : Int64} (hg : zt_g r S L st h) (hv : zt_vs r B st2) (hw : ∀ q ∈ B, zt_lt S.1 q.2.1) (ha : zt_lt S.1 a) (hb : zt_lt S.1 b) (hx : x.toInt = zt_ev r a) (hy : y.toInt = zt_ev r b) (hf : zt_for64 S a b B = some S2) : ∃ r2 : Nat → Int, (∀ i, i < S.1 → r2 i = r i) ∧ S.1 ≤ S2.1 ∧ zt_g r2 S2 L (.long (x ||| y) :: st2) h := by
  unfold zt_for64 at hf
  split at hf
  · next e =>
    cases hf
    simp only [Bool.and_eq_true] at e
    have h1 := zt_ge_in hg.1 e.1
    have h2 := zt_ge_in hg.1 e.2
    have h3 := ze_or64 x y (by omega) (by omega)
    obtain ⟨r2, g1, g2⟩ := zt_new_in (x ||| y).toInt (t := 1) (lo := 0) (hi := 9223372036854775807) (v := .long (x ||| y)) (fs := fun s => [zt_sub s a, zt_sub s b, zt_sub (zt_add a b) s]) hg hv hw (fun r2 h2 => ⟨x ||| y, rfl, by show _ = zt_ev r2 (zt_s S.1); rw [zt_s_ev, h2]⟩) (by omega) (zt_i64 _).2 (fun r2 h8 h9 f hf => by
      simp only [List.mem_cons, List.not_mem_nil, or_false] at hf
      rcases hf with e | e | e <;> subst e
      · rw [zt_sub_ev, zt_s_ev, h9, zt_ev_eq h8 ha]
        omega
      · rw [zt_sub_ev, zt_s_ev, h9, zt_ev_eq h8 hb]
        omega
      · rw [zt_sub_ev, zt_add_ev, zt_s_ev, h9, zt_ev_eq h8 ha, zt_ev_eq h8 hb]
        omega) (fun f hf => by
      simp only [List.mem_cons, List.not_mem_nil, or_false] at hf
      rcases hf with e | e | e <;> subst e
      · exact zt_sub_lt (zt_s_lt (Nat.lt_succ_self _)) (zt_lt_mono ha (Nat.le_succ _))
      · exact zt_sub_lt (zt_s_lt (Nat.lt_succ_self _)) (zt_lt_mono hb (Nat.le_succ _))
      · exact zt_sub_lt (zt_add_lt (zt_lt_mono ha (Nat.le_succ _)) (zt_lt_mono hb (Nat.le_succ _))) (zt_s_lt (Nat.lt_succ_self _)))
    exact ⟨r2, g1, Nat.le_succ _, g2⟩
  · cases hf
    exact zt_anyJ_in _ hg hv hw
noncomputable def zt_fxo64 (S : zt_S) (a b : zt_E) (B : List zt_V) : Option zt_S := match zt_ge S.2.2.2.2 a && zt_ge S.2.2.2.2 b with
  | true => some (zt_new 1 0 9223372036854775807 (fun s => [zt_sub (zt_add a b) s]) B S)
  | false => some (zt_anyJ B S)
theorem zt_fxo64_in {r : Nat → Int} {S S2 : zt_S} {a b : zt_E} {B : List zt_V} {L : zx_L} {st st2 : List Value} {h : zx_H} {x y : Int64} (hg : zt_g r S L st h) (hv : zt_vs r B st2) (hw : ∀ q ∈ B, zt_lt S.1 q.2.1) (ha : zt_lt S.1 a) (hb : zt_lt S.1 b) (hx : x.toInt = zt_ev r a) (hy : y.toInt = zt_ev r b) (hf : zt_fxo64 S a b B = some S2) : ∃ r2 : Nat → Int, (∀ i, i < S.1 → r2 i = r i) ∧ S.1 ≤ S2.1 ∧ zt_g r2 S2 L (.long (x ^^^ y) :: st2) h := by
  unfold zt_fxo64 at hf
  split at hf
  · next e =>
    cases hf
    simp only [Bool.and_eq_true] at e
    have h1 := zt_ge_in hg.1 e.1
    have h2 := zt_ge_in hg.1 e.2
    have h3 := ze_xor64 x y (by omega) (by omega)
    obtain ⟨r2, g1, g2⟩ := zt_new_in (x ^^^ y).toInt (t := 1) (lo := 0) (hi := 9223372036854775807) (v := .long (x ^^^ y)) (fs := fun s => [zt_sub (zt_add a b) s]) hg hv hw (fun r2 h2 => ⟨x ^^^ y, rfl, by show _ = zt_ev r2 (zt_s S.1); rw [zt_s_ev, h2]⟩) (by omega) (zt_i64 _).2 (fun r2 h8 h9 f hf => by
      rw [List.mem_singleton.mp hf, zt_sub_ev, zt_add_ev, zt_s_ev, h9, zt_ev_eq h8 ha, zt_ev_eq h8 hb]
      omega) (fun f hf => by
      rw [List.mem_singleton.mp hf]
      exact zt_sub_lt (zt_add_lt (zt_lt_mono ha (Nat.le_succ _)) (zt_lt_mono hb (Nat.le_succ _))) (zt_s_lt (Nat.lt_succ_self _)))
    exact ⟨r2, g1, Nat.le_succ _, g2⟩
  · cases hf
    exact zt_anyJ_in _ hg hv hw
noncomputable def zt_ai2c (npc : Nat) : zt_S → zt_R := zt_uI (fun S a B => zt_clip 0 65535 a B S) npc
theorem zt_ai2c_in {npc : Nat} : zt_pur (zx_i2c npc) (zt_ai2c npc) := zt_uI_in (fun S ea B r L st st2 h x hg hv hw ha hx => by
  have e : (x.toUInt32 % 65536).toInt32.toBitVec.toNat = x.toBitVec.toNat % 65536 := by
    show (x.toBitVec % 65536#32).toNat = _
    rw [BitVec.toNat_umod]
    rfl
  have h1 := zt_nat32 (x.toUInt32 % 65536).toInt32
  have h2 := zt_nat32 x
  have l2 := x.toBitVec.isLt
  rw [e] at h1
  rw [if_pos (by omega)] at h1
  refine zt_clip_in hg hv hw ha ?_ ?_ (fun h3 h4 => ?_)
  · omega
  · omega
  · rw [h1]
    split at h2 <;> omega)
/-- a text's row, its coder -/
noncomputable def zt_agett (T : List zx_X) (f : zx_X → Value) (npc : Nat) (S : zt_S) : zt_R := match S.2.2.1 with
  | [] => none
  | a :: B => match Nat.beq a.1 2 with
    | false => none
    | true => match zx_tx T a.2.2 with
      | none => none
      | some z => match zt_vof (f z) with
        | none => none
        | some b => some [(npc, zt_stk (b :: B) S)]
theorem zt_vof_in {v : Value} {a : zt_V} (e : zt_vof v = some a) : (∀ r, zt_val r a v) ∧ ∀ n, zt_lt n a.2.1 := by
  cases v <;> first | (cases e; exact ⟨fun r => ⟨_, rfl, (zt_k_ev r _).symm⟩, fun _ => zt_k_lt⟩) | (cases e; exact ⟨fun r => rfl, fun _ => zt_k_lt⟩) | cases e | (rename_i n; cases n <;> first | (cases e; exact ⟨fun r => rfl, fun _ => zt_k_lt⟩) | cases e)
theorem zt_agett_in {T : List zx_X} {f : zx_X → Value} {npc : Nat} : zt_pur (zx_gett T f npc) (zt_agett T f npc) := by
  intro S l r L st h hg hA
  unfold zt_agett at hA
  split at hA
  · cases hA
  · next a B e1 =>
    split at hA
    · cases hA
    · next e2 =>
      split at hA
      · cases hA
      · next z e3 =>
        split at hA
        · cases hA
        · next b e4 =>
          cases hA
          have hv := hg.2.2.1
          have hw := hg.2.2.2.2.2.1
          rw [e1] at hv hw
          obtain ⟨v, vs, rfl, h1, h2⟩ := zt_vs_cons hv
          obtain ⟨t, e, i⟩ := a
          obtain rfl : t = 2 := Nat.eq_of_beq_eq_true e2
          obtain rfl : v = .ref i := h1
          obtain ⟨k1, k2⟩ := zt_vof_in e4
          refine zt_one (st2 := f z :: vs) (fun rec k sl => ?_) (fun _ _ => rfl) (Nat.le_refl _) (zt_stk_in hg ⟨k1 r, h2⟩ (fun q hq => (List.mem_cons.mp hq).elim (fun y => by rw [y]; exact k2 _) (fun y => hw q (List.mem_cons_of_mem _ y))))
          show (match zx_tx T i with | none => none | some z => k npc L (f z :: vs) h sl) = _
          have e5 : zx_tx T i = some z := e3
          rw [e5]
/-- bytes of older rows, of newer ones -/
theorem zt_abyK {T : zx_Tr zt_C} {K0 npc : Nat} {md : List (Nat × Nat)} {O : List zx_W} {OT : List zt_Y} (HO : zt_ot O OT) : zt_hpr T K0 md (zr_byK K0 (zx_aldO [] O K0 2 npc) (zr_alt (zx_aldO [] O K0 2 npc) (zx_ald [] 3 npc))) (fun S => match S.2.2.1 with
  | _ :: a :: _ => (match Nat.blt a.2.2 K0 with
    | true => zt_aold O OT K0 2 npc S
    | false => zt_ei (zt_aald T 2 npc) (zt_aald T 3 npc) S)
  | _ => none) := by
  intro S l r L st h hk hg hA
  dsimp only at hA
  split at hA
  · next b a B e1 =>
    have hv := hg.2.2.1
    rw [e1] at hv
    split at hA
    · next e2 =>
      obtain ⟨q, h1, r2, L2, st2, h2, h3, h4⟩ := zt_aold_in (md := md) (T := T) HO S l r L st h hk hg hA
      refine ⟨q, h1, r2, L2, st2, h2, fun rec k sl => ?_, h4⟩
      obtain ⟨v, vs, rfl, g1, g2⟩ := zt_vs_cons hv
      obtain ⟨u, us, rfl, g3, g4⟩ := zt_vs_cons g2
      have e9 : zt_aold O OT K0 2 npc S = some l := hA
      unfold zt_aold at e9
      rw [e1] at e9
      dsimp only at e9
      split at e9
      · cases e9
      · next e10 =>
        simp only [Bool.and_eq_true] at e10
        obtain ⟨t, e, i⟩ := a
        obtain rfl : t = 2 := Nat.eq_of_beq_eq_true e10.2.1
        obtain rfl : u = .ref i := g3
        show (match Nat.blt i K0 with | true => zx_aldO [] O K0 2 npc rec L (v :: .ref i :: us) h sl k | false => _) = _
        have e2b : Nat.blt i K0 = true := e2
        rw [e2b]
        exact h3 rec k sl
    · next e2 =>
      obtain ⟨q, h1, r2, L2, st2, h2, h3, h4⟩ := zt_abald_in (md := md) (O := O) S l r L st h hk hg hA
      refine ⟨q, h1, r2, L2, st2, h2, fun rec k sl => ?_, h4⟩
      obtain ⟨v, vs, rfl, g1, g2⟩ := zt_vs_cons hv
      obtain ⟨u, us, rfl, g3, g4⟩ := zt_vs_cons g2
      have e9 : ∃ ty, zt_aald T ty npc S ≠ none := by
        unfold zt_ei at hA
        split at hA
        · next l2 e3 => exact ⟨2, by rw [e3]; exact fun z => nomatch z⟩
        · exact ⟨3, by rw [hA]; exact fun z => nomatch z⟩
      obtain ⟨ty, e9⟩ := e9
      unfold zt_aald at e9
      rw [e1] at e9
      dsimp only at e9
      split at e9
      · exact absurd rfl e9
      · next e10 =>
        simp only [Bool.and_eq_true] at e10
        obtain ⟨t, e, i⟩ := a
        obtain rfl : t = 2 := Nat.eq_of_beq_eq_true e10.2
        obtain rfl : u = .ref i := g3
        show (match Nat.blt i K0 with | true => _ | false => zr_alt (zx_aldO [] O K0 2 npc) (zx_ald [] 3 npc) rec L (v :: .ref i :: us) h sl k) = _
        have e2b : Nat.blt i K0 = false := e2
        rw [e2b]
        exact h3 rec k sl
  · cases hA
def ze_sn (Z : ze_Z) (T : zx_Tr zt_C) (K0 : Nat) (md : List (Nat × Nat)) (f : zr_R) (a : Instr → Nat → ze_O) : Prop := ∀ (i : Instr) (n : Nat) (g : zx_F), f i n = some g → ze_osp Z T K0 md g (a i n)
noncomputable def ze_no : ze_O := .inr (.inr fun _ => false)
/-- ends: with nothing, with a number of a kind -/
noncomputable def ze_rv (S : zt_S) : Bool := match S.2.2.1 with
  | [] => true
  | _ => false
noncomputable def ze_rn (t : Nat) (lo hi : Int) (S : zt_S) : Bool := match S.2.2.1 with
  | [a] => Nat.beq a.1 t && (zt_ge S.2.2.2.2 (zt_sub a.2.1 (zt_k lo)) && zt_ge S.2.2.2.2 (zt_sub (zt_k hi) a.2.1))
  | _ => false
noncomputable def ze_r1 (t : Nat) (S : zt_S) : Bool := match S.2.2.1 with
  | [a] => Nat.beq a.1 t
  | _ => false
noncomputable def ze_ra (S : zt_S) : Bool := match S.2.2.1 with
  | [a] => Nat.beq a.1 2 || Nat.beq a.1 3
  | _ => false
theorem zt_vs_nil {r : Nat → Int} {st : List Value} (h : zt_vs r [] st) : st = [] := by
  cases st with
  | nil => rfl
  | cons _ _ => exact absurd h (fun z => z)
/-- an int's end by the method's type: its stretch -/
noncomputable def ze_rz (rty : Option FieldType) (S : zt_S) : Bool := match rty with
  | some .int => ze_r1 0 S
  | some .boolean => ze_rn 0 0 1 S
  | some .byte => ze_rn 0 (-128) 127 S
  | some .short => ze_rn 0 (-32768) 32767 S
  | some .char => ze_rn 0 0 65535 S
  | _ => false
theorem ze_r1_in {r : Nat → Int} {t : Nat} {S : zt_S} {L : zx_L} {st : List Value} {h : zx_H} (hg : zt_g r S L st h) (hr : ze_r1 t S = true) : ∃ v a, st = [v] ∧ zt_val r a v ∧ a.1 = t ∧ S.2.2.1 = [a] := by
  unfold ze_r1 at hr
  split at hr
  · next a e1 =>
    have hv := hg.2.2.1
    rw [e1] at hv
    obtain ⟨v, vs, rfl, h1, h2⟩ := zt_vs_cons hv
    obtain rfl := zt_vs_nil h2
    exact ⟨v, a, rfl, h1, Nat.eq_of_beq_eq_true hr, e1⟩
  · cases hr
theorem ze_rn_in {r : Nat → Int} {lo hi : Int} {S : zt_S} {L : zx_L} {st : List Value} {h : zx_H} (hg : zt_g r S L st h) (hr : ze_rn 0 lo hi S = true) : ∃ x : Int32, st = [.int x] ∧ lo ≤ x.toInt ∧ x.toInt ≤ hi := by
  unfold ze_rn at hr
  split at hr
  · next a e1 =>
    simp only [Bool.and_eq_true] at hr
    have hv := hg.2.2.1
    rw [e1] at hv
    obtain ⟨v, vs, rfl, h1, h2⟩ := zt_vs_cons hv
    obtain rfl := zt_vs_nil h2
    obtain ⟨t, e, i⟩ := a
    obtain rfl : t = 0 := Nat.eq_of_beq_eq_true hr.1
    obtain ⟨x, rfl, h3⟩ := h1
    have h4 := zt_ge_in hg.1 hr.2.1
    have h5 := zt_ge_in hg.1 hr.2.2
    rw [zt_sub_ev, zt_k_ev] at h4 h5
    have h6 : x.toInt = zt_ev r e := h3
    exact ⟨x, rfl, by omega, by omega⟩
  · cases hr
theorem ze_zret {ty : FieldType} {x : Int32} (hn : narrow ty (.int x) = .int x) (rec : zx_C) (L : zx_L) (h : zx_H) (sl : Nat) (k : zx_K) : zx_zret ty rec L [.int x] h sl k = some (some (.int x), h, sl) := by
  show (if narrow ty (Value.int x) = Value.int x then some (some (Value.int x), h, sl) else none) = _
  rw [if_pos hn]

noncomputable def ze_ac (v : Value) (npc : Nat) : ze_O := match zt_vof v with
  | some a => .inl (ze_l [] (zt_aci a npc))
  | none => ze_no
theorem ze_no_in {Z : ze_Z} {T : zx_Tr zt_C} {K0 : Nat} {md : List (Nat × Nat)} {g : zx_F} : ze_osp Z T K0 md g ze_no := fun _ _ _ _ _ _ h => nomatch h
theorem ze_ac_in {Z : ze_Z} {T : zx_Tr zt_C} {K0 npc : Nat} {md : List (Nat × Nat)} {v : Value} : ze_osp Z T K0 md (zx_ci v npc) (ze_ac v npc) := by
  unfold ze_ac
  split
  · next a e =>
    obtain ⟨h1, h2⟩ := zt_vof_in e
    exact ze_lp (zt_aci_in h1 h2)
  · exact ze_no_in
/-- arguments that may be: any; one of a sort of cell first; a text first -/
noncomputable def ze_c0 (_ : List zt_V) : Bool := true
noncomputable def ze_cV (T : zx_Tr zt_C) (ci : Nat) (as : List zt_V) : Bool := match as with
  | [] => false
  | a :: _ => match Nat.beq a.1 2 with
    | false => false
    | true => match zx_g10 T a.2.2 with
      | some (.inl o) => Nat.beq o.1 ci
      | _ => false
theorem ze_cV_in {T : zx_Tr zt_C} {K0 ci : Nat} {r : Nat → Int} {as : List zt_V} {vs : List Value} {h : zx_H} (hk : zt_hk T K0 h) (hv : zt_vs r as vs) (hc : ze_cV T ci as = true) : zx_okV ci vs h = true := by
  unfold ze_cV at hc
  split at hc
  · cases hc
  · next a l =>
    split at hc
    · cases hc
    · next e1 =>
      split at hc
      · next o e2 =>
        obtain ⟨v, us, rfl, h1, -⟩ := zt_vs_cons hv
        obtain ⟨t, e, i⟩ := a
        obtain rfl : t = 2 := Nat.eq_of_beq_eq_true e1
        obtain rfl : v = .ref i := h1
        obtain ⟨-, fs, c1, -⟩ := hk i _ e2
        have e3 : o.1 = ci := Nat.eq_of_beq_eq_true hc
        rw [e3] at c1
        show (match zx_go h i ci with | some _ => true | none => false) = true
        have e7 : zx_go h i ci = some fs := by
          unfold zx_go
          rw [c1]
          show (match Nat.beq ci ci with | true => some fs | false => none) = _
          rw [Nat.beq_refl]
        rw [e7]
      · cases hc
noncomputable def ze_cT (TX : List zx_X) (as : List zt_V) : Bool := match as with
  | [] => false
  | a :: _ => match Nat.beq a.1 2 with
    | false => false
    | true => match zx_tx TX a.2.2 with
      | some _ => true
      | none => false
theorem ze_cT_in {TX : List zx_X} {r : Nat → Int} {as : List zt_V} {vs : List Value} {h : zx_H} (hv : zt_vs r as vs) (hc : ze_cT TX as = true) : zx_okT TX vs h = true := by
  unfold ze_cT at hc
  split at hc
  · cases hc
  · next a l =>
    split at hc
    · cases hc
    · next e1 =>
      split at hc
      · next z e2 =>
        obtain ⟨v, us, rfl, h1, -⟩ := zt_vs_cons hv
        obtain ⟨t, e, i⟩ := a
        obtain rfl : t = 2 := Nat.eq_of_beq_eq_true e1
        obtain rfl : v = .ref i := h1
        show (match zx_tx TX i with | some _ => true | none => false) = true
        have e3 : zx_tx TX i = some z := e2
        rw [e3]
      · cases hc
noncomputable def za_iconst (T : zx_Tr zt_C) (O : List zx_W) (OT : List zt_Y) (K0 : Nat) (md : List (Nat × Nat)) (rt : List Nat) (TX : List zx_X) (pool : zx_Tr zr_E) (rty : Option FieldType) (pc : Nat) (i : Instr) (_ : Nat) : ze_O := match i with
  | .iconst v => .inl (ze_l [] (zt_aci (0, zt_k (Int32.ofInt v).toInt, 0) (pc + 1)))
  | _ => ze_no
theorem zs_iconst {Z : ze_Z} (hZ : ze_Zk Z) {T : zx_Tr zt_C} {O : List zx_W} {OT : List zt_Y} (HO : zt_ot O OT) {K0 : Nat} {md : List (Nat × Nat)} {rt : List Nat} {TX : List zx_X} {pool : zx_Tr zr_E} {ml : Nat} {rty : Option FieldType} {pc : Nat} : ze_sn Z T K0 md (zr_iconst pc) (za_iconst T O OT K0 md rt TX pool rty pc) := by
  intro i n g h
  unfold zr_iconst at h
  split at h
  · replace h := zr_n_in h
    obtain ⟨e9, h⟩ := h
    subst e9
    cases h
    exact ze_lp zt_aci_i
  · cases h
noncomputable def za_bipush (T : zx_Tr zt_C) (O : List zx_W) (OT : List zt_Y) (K0 : Nat) (md : List (Nat × Nat)) (rt : List Nat) (TX : List zx_X) (pool : zx_Tr zr_E) (rty : Option FieldType) (pc : Nat) (i : Instr) (_ : Nat) : ze_O := match i with
  | .bipush v => .inl (ze_l [] (zt_aci (0, zt_k (Int8.ofInt v).toInt32.toInt, 0) (pc + 2)))
  | _ => ze_no
theorem zs_bipush {Z : ze_Z} (hZ : ze_Zk Z) {T : zx_Tr zt_C} {O : List zx_W} {OT : List zt_Y} (HO : zt_ot O OT) {K0 : Nat} {md : List (Nat × Nat)} {rt : List Nat} {TX : List zx_X} {pool : zx_Tr zr_E} {ml : Nat} {rty : Option FieldType} {pc : Nat} : ze_sn Z T K0 md (zr_bipush pc) (za_bipush T O OT K0 md rt TX pool rty pc) := by
  intro i n g h
  unfold zr_bipush at h
  split at h
  · replace h := zr_n_in h
    obtain ⟨e9, h⟩ := h
    subst e9
    cases h
    exact ze_lp zt_aci_i
  · cases h
noncomputable def za_sipush (T : zx_Tr zt_C) (O : List zx_W) (OT : List zt_Y) (K0 : Nat) (md : List (Nat × Nat)) (rt : List Nat) (TX : List zx_X) (pool : zx_Tr zr_E) (rty : Option FieldType) (pc : Nat) (i : Instr) (_ : Nat) : ze_O := match i with
  | .sipush v => .inl (ze_l [] (zt_aci (0, zt_k (Int16.ofInt v).toInt32.toInt, 0) (pc + 3)))
  | _ => ze_no
theorem zs_sipush {Z : ze_Z} (hZ : ze_Zk Z) {T : zx_Tr zt_C} {O : List zx_W} {OT : List zt_Y} (HO : zt_ot O OT) {K0 : Nat} {md : List (Nat × Nat)} {rt : List Nat} {TX : List zx_X} {pool : zx_Tr zr_E} {ml : Nat} {rty : Option FieldType} {pc : Nat} : ze_sn Z T K0 md (zr_sipush pc) (za_sipush T O OT K0 md rt TX pool rty pc) := by
  intro i n g h
  unfold zr_sipush at h
  split at h
  · replace h := zr_n_in h
    obtain ⟨e9, h⟩ := h
    subst e9
    cases h
    exact ze_lp zt_aci_i
  · cases h
noncomputable def za_lconst (T : zx_Tr zt_C) (O : List zx_W) (OT : List zt_Y) (K0 : Nat) (md : List (Nat × Nat)) (rt : List Nat) (TX : List zx_X) (pool : zx_Tr zr_E) (rty : Option FieldType) (pc : Nat) (i : Instr) (_ : Nat) : ze_O := match i with
  | .lconst v => .inl (ze_l [] (zt_aci (1, zt_k (Int64.ofNat (v : Nat)).toInt, 0) (pc + 1)))
  | _ => ze_no
theorem zs_lconst {Z : ze_Z} (hZ : ze_Zk Z) {T : zx_Tr zt_C} {O : List zx_W} {OT : List zt_Y} (HO : zt_ot O OT) {K0 : Nat} {md : List (Nat × Nat)} {rt : List Nat} {TX : List zx_X} {pool : zx_Tr zr_E} {ml : Nat} {rty : Option FieldType} {pc : Nat} : ze_sn Z T K0 md (zr_lconst pc) (za_lconst T O OT K0 md rt TX pool rty pc) := by
  intro i n g h
  unfold zr_lconst at h
  split at h
  · replace h := zr_n_in h
    obtain ⟨e9, h⟩ := h
    subst e9
    cases h
    exact ze_lp zt_aci_l
  · cases h
noncomputable def za_null (T : zx_Tr zt_C) (O : List zx_W) (OT : List zt_Y) (K0 : Nat) (md : List (Nat × Nat)) (rt : List Nat) (TX : List zx_X) (pool : zx_Tr zr_E) (rty : Option FieldType) (pc : Nat) (i : Instr) (_ : Nat) : ze_O := match i with
  | .aconst_null => .inl (ze_l [] (zt_aci (3, zt_k 0, 0) (pc + 1)))
  | _ => ze_no
theorem zs_null {Z : ze_Z} (hZ : ze_Zk Z) {T : zx_Tr zt_C} {O : List zx_W} {OT : List zt_Y} (HO : zt_ot O OT) {K0 : Nat} {md : List (Nat × Nat)} {rt : List Nat} {TX : List zx_X} {pool : zx_Tr zr_E} {ml : Nat} {rty : Option FieldType} {pc : Nat} : ze_sn Z T K0 md (zr_null pc) (za_null T O OT K0 md rt TX pool rty pc) := by
  intro i n g h
  unfold zr_null at h
  split at h
  · replace h := zr_n_in h
    obtain ⟨e9, h⟩ := h
    subst e9
    cases h
    exact ze_lp zt_aci_n
  · cases h
noncomputable def za_iload (T : zx_Tr zt_C) (O : List zx_W) (OT : List zt_Y) (K0 : Nat) (md : List (Nat × Nat)) (rt : List Nat) (TX : List zx_X) (pool : zx_Tr zr_E) (rty : Option FieldType) (pc : Nat) (i : Instr) (_ : Nat) : ze_O := match i with
  | .iload v => .inl (ze_l [] (zt_alo 0 v (pc + 2)))
  | _ => ze_no
theorem zs_iload {Z : ze_Z} (hZ : ze_Zk Z) {T : zx_Tr zt_C} {O : List zx_W} {OT : List zt_Y} (HO : zt_ot O OT) {K0 : Nat} {md : List (Nat × Nat)} {rt : List Nat} {TX : List zx_X} {pool : zx_Tr zr_E} {ml : Nat} {rty : Option FieldType} {pc : Nat} : ze_sn Z T K0 md (zr_iload pc) (za_iload T O OT K0 md rt TX pool rty pc) := by
  intro i n g h
  unfold zr_iload at h
  split at h
  · replace h := zr_n_in h
    obtain ⟨e9, h⟩ := h
    subst e9
    cases h
    exact ze_lp zt_aloI
  · cases h
noncomputable def za_iload_n (T : zx_Tr zt_C) (O : List zx_W) (OT : List zt_Y) (K0 : Nat) (md : List (Nat × Nat)) (rt : List Nat) (TX : List zx_X) (pool : zx_Tr zr_E) (rty : Option FieldType) (pc : Nat) (i : Instr) (_ : Nat) : ze_O := match i with
  | .iload_n v => .inl (ze_l [] (zt_alo 0 (v : Nat) (pc + 1)))
  | _ => ze_no
theorem zs_iload_n {Z : ze_Z} (hZ : ze_Zk Z) {T : zx_Tr zt_C} {O : List zx_W} {OT : List zt_Y} (HO : zt_ot O OT) {K0 : Nat} {md : List (Nat × Nat)} {rt : List Nat} {TX : List zx_X} {pool : zx_Tr zr_E} {ml : Nat} {rty : Option FieldType} {pc : Nat} : ze_sn Z T K0 md (zr_iload_n pc) (za_iload_n T O OT K0 md rt TX pool rty pc) := by
  intro i n g h
  unfold zr_iload_n at h
  split at h
  · replace h := zr_n_in h
    obtain ⟨e9, h⟩ := h
    subst e9
    cases h
    exact ze_lp zt_aloI
  · cases h
noncomputable def za_istore (T : zx_Tr zt_C) (O : List zx_W) (OT : List zt_Y) (K0 : Nat) (md : List (Nat × Nat)) (rt : List Nat) (TX : List zx_X) (pool : zx_Tr zr_E) (rty : Option FieldType) (pc : Nat) (i : Instr) (_ : Nat) : ze_O := match i with
  | .istore v => .inl (ze_l [] (zt_aso 0 v (pc + 2)))
  | _ => ze_no
theorem zs_istore {Z : ze_Z} (hZ : ze_Zk Z) {T : zx_Tr zt_C} {O : List zx_W} {OT : List zt_Y} (HO : zt_ot O OT) {K0 : Nat} {md : List (Nat × Nat)} {rt : List Nat} {TX : List zx_X} {pool : zx_Tr zr_E} {ml : Nat} {rty : Option FieldType} {pc : Nat} : ze_sn Z T K0 md (zr_istore ml pc) (za_istore T O OT K0 md rt TX pool rty pc) := by
  intro i n g h
  unfold zr_istore at h
  split at h
  · replace h := zr_n_in h
    obtain ⟨e9, h⟩ := h
    subst e9
    obtain ⟨e, rfl⟩ := zr_b_in h
    exact ze_lp zt_asoI
  · cases h
noncomputable def za_istore_n (T : zx_Tr zt_C) (O : List zx_W) (OT : List zt_Y) (K0 : Nat) (md : List (Nat × Nat)) (rt : List Nat) (TX : List zx_X) (pool : zx_Tr zr_E) (rty : Option FieldType) (pc : Nat) (i : Instr) (_ : Nat) : ze_O := match i with
  | .istore_n v => .inl (ze_l [] (zt_aso 0 (v : Nat) (pc + 1)))
  | _ => ze_no
theorem zs_istore_n {Z : ze_Z} (hZ : ze_Zk Z) {T : zx_Tr zt_C} {O : List zx_W} {OT : List zt_Y} (HO : zt_ot O OT) {K0 : Nat} {md : List (Nat × Nat)} {rt : List Nat} {TX : List zx_X} {pool : zx_Tr zr_E} {ml : Nat} {rty : Option FieldType} {pc : Nat} : ze_sn Z T K0 md (zr_istore_n ml pc) (za_istore_n T O OT K0 md rt TX pool rty pc) := by
  intro i n g h
  unfold zr_istore_n at h
  split at h
  · replace h := zr_n_in h
    obtain ⟨e9, h⟩ := h
    subst e9
    obtain ⟨e, rfl⟩ := zr_b_in h
    exact ze_lp zt_asoI
  · cases h
noncomputable def za_lload (T : zx_Tr zt_C) (O : List zx_W) (OT : List zt_Y) (K0 : Nat) (md : List (Nat × Nat)) (rt : List Nat) (TX : List zx_X) (pool : zx_Tr zr_E) (rty : Option FieldType) (pc : Nat) (i : Instr) (_ : Nat) : ze_O := match i with
  | .lload v => .inl (ze_l [] (zt_alo 1 v (pc + 2)))
  | _ => ze_no
theorem zs_lload {Z : ze_Z} (hZ : ze_Zk Z) {T : zx_Tr zt_C} {O : List zx_W} {OT : List zt_Y} (HO : zt_ot O OT) {K0 : Nat} {md : List (Nat × Nat)} {rt : List Nat} {TX : List zx_X} {pool : zx_Tr zr_E} {ml : Nat} {rty : Option FieldType} {pc : Nat} : ze_sn Z T K0 md (zr_lload pc) (za_lload T O OT K0 md rt TX pool rty pc) := by
  intro i n g h
  unfold zr_lload at h
  split at h
  · replace h := zr_n_in h
    obtain ⟨e9, h⟩ := h
    subst e9
    cases h
    exact ze_lp zt_aloJ
  · cases h
noncomputable def za_lload_n (T : zx_Tr zt_C) (O : List zx_W) (OT : List zt_Y) (K0 : Nat) (md : List (Nat × Nat)) (rt : List Nat) (TX : List zx_X) (pool : zx_Tr zr_E) (rty : Option FieldType) (pc : Nat) (i : Instr) (_ : Nat) : ze_O := match i with
  | .lload_n v => .inl (ze_l [] (zt_alo 1 (v : Nat) (pc + 1)))
  | _ => ze_no
theorem zs_lload_n {Z : ze_Z} (hZ : ze_Zk Z) {T : zx_Tr zt_C} {O : List zx_W} {OT : List zt_Y} (HO : zt_ot O OT) {K0 : Nat} {md : List (Nat × Nat)} {rt : List Nat} {TX : List zx_X} {pool : zx_Tr zr_E} {ml : Nat} {rty : Option FieldType} {pc : Nat} : ze_sn Z T K0 md (zr_lload_n pc) (za_lload_n T O OT K0 md rt TX pool rty pc) := by
  intro i n g h
  unfold zr_lload_n at h
  split at h
  · replace h := zr_n_in h
    obtain ⟨e9, h⟩ := h
    subst e9
    cases h
    exact ze_lp zt_aloJ
  · cases h
noncomputable def za_lstore (T : zx_Tr zt_C) (O : List zx_W) (OT : List zt_Y) (K0 : Nat) (md : List (Nat × Nat)) (rt : List Nat) (TX : List zx_X) (pool : zx_Tr zr_E) (rty : Option FieldType) (pc : Nat) (i : Instr) (_ : Nat) : ze_O := match i with
  | .lstore v => .inl (ze_l [] (zt_aso 1 v (pc + 2)))
  | _ => ze_no
theorem zs_lstore {Z : ze_Z} (hZ : ze_Zk Z) {T : zx_Tr zt_C} {O : List zx_W} {OT : List zt_Y} (HO : zt_ot O OT) {K0 : Nat} {md : List (Nat × Nat)} {rt : List Nat} {TX : List zx_X} {pool : zx_Tr zr_E} {ml : Nat} {rty : Option FieldType} {pc : Nat} : ze_sn Z T K0 md (zr_lstore ml pc) (za_lstore T O OT K0 md rt TX pool rty pc) := by
  intro i n g h
  unfold zr_lstore at h
  split at h
  · replace h := zr_n_in h
    obtain ⟨e9, h⟩ := h
    subst e9
    obtain ⟨e, rfl⟩ := zr_b_in h
    exact ze_lp zt_asoJ
  · cases h
noncomputable def za_lstore_n (T : zx_Tr zt_C) (O : List zx_W) (OT : List zt_Y) (K0 : Nat) (md : List (Nat × Nat)) (rt : List Nat) (TX : List zx_X) (pool : zx_Tr zr_E) (rty : Option FieldType) (pc : Nat) (i : Instr) (_ : Nat) : ze_O := match i with
  | .lstore_n v => .inl (ze_l [] (zt_aso 1 (v : Nat) (pc + 1)))
  | _ => ze_no
theorem zs_lstore_n {Z : ze_Z} (hZ : ze_Zk Z) {T : zx_Tr zt_C} {O : List zx_W} {OT : List zt_Y} (HO : zt_ot O OT) {K0 : Nat} {md : List (Nat × Nat)} {rt : List Nat} {TX : List zx_X} {pool : zx_Tr zr_E} {ml : Nat} {rty : Option FieldType} {pc : Nat} : ze_sn Z T K0 md (zr_lstore_n ml pc) (za_lstore_n T O OT K0 md rt TX pool rty pc) := by
  intro i n g h
  unfold zr_lstore_n at h
  split at h
  · replace h := zr_n_in h
    obtain ⟨e9, h⟩ := h
    subst e9
    obtain ⟨e, rfl⟩ := zr_b_in h
    exact ze_lp zt_asoJ
  · cases h
noncomputable def za_aload (T : zx_Tr zt_C) (O : List zx_W) (OT : List zt_Y) (K0 : Nat) (md : List (Nat × Nat)) (rt : List Nat) (TX : List zx_X) (pool : zx_Tr zr_E) (rty : Option FieldType) (pc : Nat) (i : Instr) (_ : Nat) : ze_O := match i with
  | .aload v => .inl (ze_l [] (zt_alo 2 v (pc + 2)))
  | _ => ze_no
theorem zs_aload {Z : ze_Z} (hZ : ze_Zk Z) {T : zx_Tr zt_C} {O : List zx_W} {OT : List zt_Y} (HO : zt_ot O OT) {K0 : Nat} {md : List (Nat × Nat)} {rt : List Nat} {TX : List zx_X} {pool : zx_Tr zr_E} {ml : Nat} {rty : Option FieldType} {pc : Nat} : ze_sn Z T K0 md (zr_aload pc) (za_aload T O OT K0 md rt TX pool rty pc) := by
  intro i n g h
  unfold zr_aload at h
  split at h
  · replace h := zr_n_in h
    obtain ⟨e9, h⟩ := h
    subst e9
    cases h
    exact ze_lp zt_aloA
  · cases h
noncomputable def za_aload_n (T : zx_Tr zt_C) (O : List zx_W) (OT : List zt_Y) (K0 : Nat) (md : List (Nat × Nat)) (rt : List Nat) (TX : List zx_X) (pool : zx_Tr zr_E) (rty : Option FieldType) (pc : Nat) (i : Instr) (_ : Nat) : ze_O := match i with
  | .aload_n v => .inl (ze_l [] (zt_alo 2 (v : Nat) (pc + 1)))
  | _ => ze_no
theorem zs_aload_n {Z : ze_Z} (hZ : ze_Zk Z) {T : zx_Tr zt_C} {O : List zx_W} {OT : List zt_Y} (HO : zt_ot O OT) {K0 : Nat} {md : List (Nat × Nat)} {rt : List Nat} {TX : List zx_X} {pool : zx_Tr zr_E} {ml : Nat} {rty : Option FieldType} {pc : Nat} : ze_sn Z T K0 md (zr_aload_n pc) (za_aload_n T O OT K0 md rt TX pool rty pc) := by
  intro i n g h
  unfold zr_aload_n at h
  split at h
  · replace h := zr_n_in h
    obtain ⟨e9, h⟩ := h
    subst e9
    cases h
    exact ze_lp zt_aloA
  · cases h
noncomputable def za_astore (T : zx_Tr zt_C) (O : List zx_W) (OT : List zt_Y) (K0 : Nat) (md : List (Nat × Nat)) (rt : List Nat) (TX : List zx_X) (pool : zx_Tr zr_E) (rty : Option FieldType) (pc : Nat) (i : Instr) (_ : Nat) : ze_O := match i with
  | .astore v => .inl (ze_l [] (zt_aso 2 v (pc + 2)))
  | _ => ze_no
theorem zs_astore {Z : ze_Z} (hZ : ze_Zk Z) {T : zx_Tr zt_C} {O : List zx_W} {OT : List zt_Y} (HO : zt_ot O OT) {K0 : Nat} {md : List (Nat × Nat)} {rt : List Nat} {TX : List zx_X} {pool : zx_Tr zr_E} {ml : Nat} {rty : Option FieldType} {pc : Nat} : ze_sn Z T K0 md (zr_astore ml pc) (za_astore T O OT K0 md rt TX pool rty pc) := by
  intro i n g h
  unfold zr_astore at h
  split at h
  · replace h := zr_n_in h
    obtain ⟨e9, h⟩ := h
    subst e9
    obtain ⟨e, rfl⟩ := zr_b_in h
    exact ze_lp zt_asoA
  · cases h
noncomputable def za_astore_n (T : zx_Tr zt_C) (O : List zx_W) (OT : List zt_Y) (K0 : Nat) (md : List (Nat × Nat)) (rt : List Nat) (TX : List zx_X) (pool : zx_Tr zr_E) (rty : Option FieldType) (pc : Nat) (i : Instr) (_ : Nat) : ze_O := match i with
  | .astore_n v => .inl (ze_l [] (zt_aso 2 (v : Nat) (pc + 1)))
  | _ => ze_no
theorem zs_astore_n {Z : ze_Z} (hZ : ze_Zk Z) {T : zx_Tr zt_C} {O : List zx_W} {OT : List zt_Y} (HO : zt_ot O OT) {K0 : Nat} {md : List (Nat × Nat)} {rt : List Nat} {TX : List zx_X} {pool : zx_Tr zr_E} {ml : Nat} {rty : Option FieldType} {pc : Nat} : ze_sn Z T K0 md (zr_astore_n ml pc) (za_astore_n T O OT K0 md rt TX pool rty pc) := by
  intro i n g h
  unfold zr_astore_n at h
  split at h
  · replace h := zr_n_in h
    obtain ⟨e9, h⟩ := h
    subst e9
    obtain ⟨e, rfl⟩ := zr_b_in h
    exact ze_lp zt_asoA
  · cases h
noncomputable def za_iinc (T : zx_Tr zt_C) (O : List zx_W) (OT : List zt_Y) (K0 : Nat) (md : List (Nat × Nat)) (rt : List Nat) (TX : List zx_X) (pool : zx_Tr zr_E) (rty : Option FieldType) (pc : Nat) (i : Instr) (_ : Nat) : ze_O := match i with
  | .iinc v c => .inl (ze_l [] (zt_ainc v (Int32.ofInt c) (pc + 3)))
  | _ => ze_no
theorem zs_iinc {Z : ze_Z} (hZ : ze_Zk Z) {T : zx_Tr zt_C} {O : List zx_W} {OT : List zt_Y} (HO : zt_ot O OT) {K0 : Nat} {md : List (Nat × Nat)} {rt : List Nat} {TX : List zx_X} {pool : zx_Tr zr_E} {ml : Nat} {rty : Option FieldType} {pc : Nat} : ze_sn Z T K0 md (zr_iinc ml pc) (za_iinc T O OT K0 md rt TX pool rty pc) := by
  intro i n g h
  unfold zr_iinc at h
  split at h
  · replace h := zr_n_in h
    obtain ⟨e9, h⟩ := h
    subst e9
    obtain ⟨e, rfl⟩ := zr_b_in h
    exact ze_lp zt_ainc_in
  · cases h
noncomputable def za_iadd (T : zx_Tr zt_C) (O : List zx_W) (OT : List zt_Y) (K0 : Nat) (md : List (Nat × Nat)) (rt : List Nat) (TX : List zx_X) (pool : zx_Tr zr_E) (rty : Option FieldType) (pc : Nat) (i : Instr) (_ : Nat) : ze_O := match i with
  | .iadd => .inl (ze_l [] (zt_aadd (pc + 1)))
  | _ => ze_no
theorem zs_iadd {Z : ze_Z} (hZ : ze_Zk Z) {T : zx_Tr zt_C} {O : List zx_W} {OT : List zt_Y} (HO : zt_ot O OT) {K0 : Nat} {md : List (Nat × Nat)} {rt : List Nat} {TX : List zx_X} {pool : zx_Tr zr_E} {ml : Nat} {rty : Option FieldType} {pc : Nat} : ze_sn Z T K0 md (zr_iadd pc) (za_iadd T O OT K0 md rt TX pool rty pc) := by
  intro i n g h
  unfold zr_iadd at h
  split at h
  · replace h := zr_n_in h
    obtain ⟨e9, h⟩ := h
    subst e9
    cases h
    exact ze_lp zt_aadd_in
  · cases h
noncomputable def za_isub (T : zx_Tr zt_C) (O : List zx_W) (OT : List zt_Y) (K0 : Nat) (md : List (Nat × Nat)) (rt : List Nat) (TX : List zx_X) (pool : zx_Tr zr_E) (rty : Option FieldType) (pc : Nat) (i : Instr) (_ : Nat) : ze_O := match i with
  | .isub => .inl (ze_l [] (zt_asub (pc + 1)))
  | _ => ze_no
theorem zs_isub {Z : ze_Z} (hZ : ze_Zk Z) {T : zx_Tr zt_C} {O : List zx_W} {OT : List zt_Y} (HO : zt_ot O OT) {K0 : Nat} {md : List (Nat × Nat)} {rt : List Nat} {TX : List zx_X} {pool : zx_Tr zr_E} {ml : Nat} {rty : Option FieldType} {pc : Nat} : ze_sn Z T K0 md (zr_isub pc) (za_isub T O OT K0 md rt TX pool rty pc) := by
  intro i n g h
  unfold zr_isub at h
  split at h
  · replace h := zr_n_in h
    obtain ⟨e9, h⟩ := h
    subst e9
    cases h
    exact ze_lp zt_asub_in
  · cases h
noncomputable def za_iand (T : zx_Tr zt_C) (O : List zx_W) (OT : List zt_Y) (K0 : Nat) (md : List (Nat × Nat)) (rt : List Nat) (TX : List zx_X) (pool : zx_Tr zr_E) (rty : Option FieldType) (pc : Nat) (i : Instr) (_ : Nat) : ze_O := match i with
  | .iand => .inl (ze_l [] (zt_a2 zt_fand4 (pc + 1)))
  | _ => ze_no
theorem zs_iand {Z : ze_Z} (hZ : ze_Zk Z) {T : zx_Tr zt_C} {O : List zx_W} {OT : List zt_Y} (HO : zt_ot O OT) {K0 : Nat} {md : List (Nat × Nat)} {rt : List Nat} {TX : List zx_X} {pool : zx_Tr zr_E} {ml : Nat} {rty : Option FieldType} {pc : Nat} : ze_sn Z T K0 md (zr_iand pc) (za_iand T O OT K0 md rt TX pool rty pc) := by
  intro i n g h
  unfold zr_iand at h
  split at h
  · replace h := zr_n_in h
    obtain ⟨e9, h⟩ := h
    subst e9
    cases h
    exact ze_lp (zt_a2_in (fun S S2 ea eb B r L st st2 h x y hg hv hw ha hb hx hy hf => zt_fand4_in hg hv hw ha hb hx hy hf))
  · cases h
noncomputable def za_ishr (T : zx_Tr zt_C) (O : List zx_W) (OT : List zt_Y) (K0 : Nat) (md : List (Nat × Nat)) (rt : List Nat) (TX : List zx_X) (pool : zx_Tr zr_E) (rty : Option FieldType) (pc : Nat) (i : Instr) (_ : Nat) : ze_O := match i with
  | .ishr => .inl (ze_l [] (zt_a2 zt_fshr (pc + 1)))
  | _ => ze_no
theorem zs_ishr {Z : ze_Z} (hZ : ze_Zk Z) {T : zx_Tr zt_C} {O : List zx_W} {OT : List zt_Y} (HO : zt_ot O OT) {K0 : Nat} {md : List (Nat × Nat)} {rt : List Nat} {TX : List zx_X} {pool : zx_Tr zr_E} {ml : Nat} {rty : Option FieldType} {pc : Nat} : ze_sn Z T K0 md (zr_ishr pc) (za_ishr T O OT K0 md rt TX pool rty pc) := by
  intro i n g h
  unfold zr_ishr at h
  split at h
  · replace h := zr_n_in h
    obtain ⟨e9, h⟩ := h
    subst e9
    cases h
    exact ze_lp zt_aishr_in
  · cases h
noncomputable def za_iushr (T : zx_Tr zt_C) (O : List zx_W) (OT : List zt_Y) (K0 : Nat) (md : List (Nat × Nat)) (rt : List Nat) (TX : List zx_X) (pool : zx_Tr zr_E) (rty : Option FieldType) (pc : Nat) (i : Instr) (_ : Nat) : ze_O := match i with
  | .iushr => .inl (ze_l [] (zt_a2 zt_fushr (pc + 1)))
  | _ => ze_no
theorem zs_iushr {Z : ze_Z} (hZ : ze_Zk Z) {T : zx_Tr zt_C} {O : List zx_W} {OT : List zt_Y} (HO : zt_ot O OT) {K0 : Nat} {md : List (Nat × Nat)} {rt : List Nat} {TX : List zx_X} {pool : zx_Tr zr_E} {ml : Nat} {rty : Option FieldType} {pc : Nat} : ze_sn Z T K0 md (zr_iushr pc) (za_iushr T O OT K0 md rt TX pool rty pc) := by
  intro i n g h
  unfold zr_iushr at h
  split at h
  · replace h := zr_n_in h
    obtain ⟨e9, h⟩ := h
    subst e9
    cases h
    exact ze_lp zt_aiushr_in
  · cases h
noncomputable def za_idiv (T : zx_Tr zt_C) (O : List zx_W) (OT : List zt_Y) (K0 : Nat) (md : List (Nat × Nat)) (rt : List Nat) (TX : List zx_X) (pool : zx_Tr zr_E) (rty : Option FieldType) (pc : Nat) (i : Instr) (_ : Nat) : ze_O := match i with
  | .idiv => .inl (ze_l [] (zt_aD zt_fdiv (pc + 1)))
  | _ => ze_no
theorem zs_idiv {Z : ze_Z} (hZ : ze_Zk Z) {T : zx_Tr zt_C} {O : List zx_W} {OT : List zt_Y} (HO : zt_ot O OT) {K0 : Nat} {md : List (Nat × Nat)} {rt : List Nat} {TX : List zx_X} {pool : zx_Tr zr_E} {ml : Nat} {rty : Option FieldType} {pc : Nat} : ze_sn Z T K0 md (zr_idiv pc) (za_idiv T O OT K0 md rt TX pool rty pc) := by
  intro i n g h
  unfold zr_idiv at h
  split at h
  · replace h := zr_n_in h
    obtain ⟨e9, h⟩ := h
    subst e9
    cases h
    exact ze_lp zt_aD_ok
  · cases h
noncomputable def za_irem (T : zx_Tr zt_C) (O : List zx_W) (OT : List zt_Y) (K0 : Nat) (md : List (Nat × Nat)) (rt : List Nat) (TX : List zx_X) (pool : zx_Tr zr_E) (rty : Option FieldType) (pc : Nat) (i : Instr) (_ : Nat) : ze_O := match i with
  | .irem => .inl (ze_l [] (zt_aM zt_frem2 (pc + 1)))
  | _ => ze_no
theorem zs_irem {Z : ze_Z} (hZ : ze_Zk Z) {T : zx_Tr zt_C} {O : List zx_W} {OT : List zt_Y} (HO : zt_ot O OT) {K0 : Nat} {md : List (Nat × Nat)} {rt : List Nat} {TX : List zx_X} {pool : zx_Tr zr_E} {ml : Nat} {rty : Option FieldType} {pc : Nat} : ze_sn Z T K0 md (zr_irem pc) (za_irem T O OT K0 md rt TX pool rty pc) := by
  intro i n g h
  unfold zr_irem at h
  split at h
  · replace h := zr_n_in h
    obtain ⟨e9, h⟩ := h
    subst e9
    cases h
    exact ze_lp zt_aM2_ok
  · cases h
noncomputable def za_imul (T : zx_Tr zt_C) (O : List zx_W) (OT : List zt_Y) (K0 : Nat) (md : List (Nat × Nat)) (rt : List Nat) (TX : List zx_X) (pool : zx_Tr zr_E) (rty : Option FieldType) (pc : Nat) (i : Instr) (_ : Nat) : ze_O := match i with
  | .imul => .inl (ze_l [] (zt_amul (pc + 1)))
  | _ => ze_no
theorem zs_imul {Z : ze_Z} (hZ : ze_Zk Z) {T : zx_Tr zt_C} {O : List zx_W} {OT : List zt_Y} (HO : zt_ot O OT) {K0 : Nat} {md : List (Nat × Nat)} {rt : List Nat} {TX : List zx_X} {pool : zx_Tr zr_E} {ml : Nat} {rty : Option FieldType} {pc : Nat} : ze_sn Z T K0 md (zr_imul pc) (za_imul T O OT K0 md rt TX pool rty pc) := by
  intro i n g h
  unfold zr_imul at h
  split at h
  · replace h := zr_n_in h
    obtain ⟨e9, h⟩ := h
    subst e9
    cases h
    exact ze_lp zt_amul_in
  · cases h
noncomputable def za_ior (T : zx_Tr zt_C) (O : List zx_W) (OT : List zt_Y) (K0 : Nat) (md : List (Nat × Nat)) (rt : List Nat) (TX : List zx_X) (pool : zx_Tr zr_E) (rty : Option FieldType) (pc : Nat) (i : Instr) (_ : Nat) : ze_O := match i with
  | .ior => .inl (ze_l [] (zt_a2 zt_for3 (pc + 1)))
  | _ => ze_no
theorem zs_ior {Z : ze_Z} (hZ : ze_Zk Z) {T : zx_Tr zt_C} {O : List zx_W} {OT : List zt_Y} (HO : zt_ot O OT) {K0 : Nat} {md : List (Nat × Nat)} {rt : List Nat} {TX : List zx_X} {pool : zx_Tr zr_E} {ml : Nat} {rty : Option FieldType} {pc : Nat} : ze_sn Z T K0 md (zr_ior pc) (za_ior T O OT K0 md rt TX pool rty pc) := by
  intro i n g h
  unfold zr_ior at h
  split at h
  · replace h := zr_n_in h
    obtain ⟨e9, h⟩ := h
    subst e9
    cases h
    exact ze_lp (zt_a2_in (fun S S2 ea eb B r L st st2 h x y hg hv hw ha hb hx hy hf => zt_for3_in hg hv hw ha hb hx hy hf))
  · cases h
noncomputable def za_ixor (T : zx_Tr zt_C) (O : List zx_W) (OT : List zt_Y) (K0 : Nat) (md : List (Nat × Nat)) (rt : List Nat) (TX : List zx_X) (pool : zx_Tr zr_E) (rty : Option FieldType) (pc : Nat) (i : Instr) (_ : Nat) : ze_O := match i with
  | .ixor => .inl (ze_l [] (zt_a2 zt_fxo32 (pc + 1)))
  | _ => ze_no
theorem zs_ixor {Z : ze_Z} (hZ : ze_Zk Z) {T : zx_Tr zt_C} {O : List zx_W} {OT : List zt_Y} (HO : zt_ot O OT) {K0 : Nat} {md : List (Nat × Nat)} {rt : List Nat} {TX : List zx_X} {pool : zx_Tr zr_E} {ml : Nat} {rty : Option FieldType} {pc : Nat} : ze_sn Z T K0 md (zr_ixor pc) (za_ixor T O OT K0 md rt TX pool rty pc) := by
  intro i n g h
  unfold zr_ixor at h
  split at h
  · replace h := zr_n_in h
    obtain ⟨e9, h⟩ := h
    subst e9
    cases h
    exact ze_lp (zt_a2_in (fun S S2 ea eb B r L st st2 h x y hg hv hw ha hb hx hy hf => zt_fxo32_in hg hv hw ha hb hx hy hf))
  · cases h
noncomputable def za_ishl (T : zx_Tr zt_C) (O : List zx_W) (OT : List zt_Y) (K0 : Nat) (md : List (Nat × Nat)) (rt : List Nat) (TX : List zx_X) (pool : zx_Tr zr_E) (rty : Option FieldType) (pc : Nat) (i : Instr) (_ : Nat) : ze_O := match i with
  | .ishl => .inl (ze_l [] (zt_a2 zt_fshl (pc + 1)))
  | _ => ze_no
theorem zs_ishl {Z : ze_Z} (hZ : ze_Zk Z) {T : zx_Tr zt_C} {O : List zx_W} {OT : List zt_Y} (HO : zt_ot O OT) {K0 : Nat} {md : List (Nat × Nat)} {rt : List Nat} {TX : List zx_X} {pool : zx_Tr zr_E} {ml : Nat} {rty : Option FieldType} {pc : Nat} : ze_sn Z T K0 md (zr_ishl pc) (za_ishl T O OT K0 md rt TX pool rty pc) := by
  intro i n g h
  unfold zr_ishl at h
  split at h
  · replace h := zr_n_in h
    obtain ⟨e9, h⟩ := h
    subst e9
    cases h
    exact ze_lp zt_aishl_in
  · cases h
noncomputable def za_ladd (T : zx_Tr zt_C) (O : List zx_W) (OT : List zt_Y) (K0 : Nat) (md : List (Nat × Nat)) (rt : List Nat) (TX : List zx_X) (pool : zx_Tr zr_E) (rty : Option FieldType) (pc : Nat) (i : Instr) (_ : Nat) : ze_O := match i with
  | .ladd => .inl (ze_l [] (zt_aladd (pc + 1)))
  | _ => ze_no
theorem zs_ladd {Z : ze_Z} (hZ : ze_Zk Z) {T : zx_Tr zt_C} {O : List zx_W} {OT : List zt_Y} (HO : zt_ot O OT) {K0 : Nat} {md : List (Nat × Nat)} {rt : List Nat} {TX : List zx_X} {pool : zx_Tr zr_E} {ml : Nat} {rty : Option FieldType} {pc : Nat} : ze_sn Z T K0 md (zr_ladd pc) (za_ladd T O OT K0 md rt TX pool rty pc) := by
  intro i n g h
  unfold zr_ladd at h
  split at h
  · replace h := zr_n_in h
    obtain ⟨e9, h⟩ := h
    subst e9
    cases h
    exact ze_lp zt_aladd_in
  · cases h
noncomputable def za_lsub (T : zx_Tr zt_C) (O : List zx_W) (OT : List zt_Y) (K0 : Nat) (md : List (Nat × Nat)) (rt : List Nat) (TX : List zx_X) (pool : zx_Tr zr_E) (rty : Option FieldType) (pc : Nat) (i : Instr) (_ : Nat) : ze_O := match i with
  | .lsub => .inl (ze_l [] (zt_alsub (pc + 1)))
  | _ => ze_no
theorem zs_lsub {Z : ze_Z} (hZ : ze_Zk Z) {T : zx_Tr zt_C} {O : List zx_W} {OT : List zt_Y} (HO : zt_ot O OT) {K0 : Nat} {md : List (Nat × Nat)} {rt : List Nat} {TX : List zx_X} {pool : zx_Tr zr_E} {ml : Nat} {rty : Option FieldType} {pc : Nat} : ze_sn Z T K0 md (zr_lsub pc) (za_lsub T O OT K0 md rt TX pool rty pc) := by
  intro i n g h
  unfold zr_lsub at h
  split at h
  · replace h := zr_n_in h
    obtain ⟨e9, h⟩ := h
    subst e9
    cases h
    exact ze_lp zt_alsub_in
  · cases h
noncomputable def za_lmul (T : zx_Tr zt_C) (O : List zx_W) (OT : List zt_Y) (K0 : Nat) (md : List (Nat × Nat)) (rt : List Nat) (TX : List zx_X) (pool : zx_Tr zr_E) (rty : Option FieldType) (pc : Nat) (i : Instr) (_ : Nat) : ze_O := match i with
  | .lmul => .inl (ze_l [] (zt_almul (pc + 1)))
  | _ => ze_no
theorem zs_lmul {Z : ze_Z} (hZ : ze_Zk Z) {T : zx_Tr zt_C} {O : List zx_W} {OT : List zt_Y} (HO : zt_ot O OT) {K0 : Nat} {md : List (Nat × Nat)} {rt : List Nat} {TX : List zx_X} {pool : zx_Tr zr_E} {ml : Nat} {rty : Option FieldType} {pc : Nat} : ze_sn Z T K0 md (zr_lmul pc) (za_lmul T O OT K0 md rt TX pool rty pc) := by
  intro i n g h
  unfold zr_lmul at h
  split at h
  · replace h := zr_n_in h
    obtain ⟨e9, h⟩ := h
    subst e9
    cases h
    exact ze_lp zt_almul_in
  · cases h
noncomputable def za_land (T : zx_Tr zt_C) (O : List zx_W) (OT : List zt_Y) (K0 : Nat) (md : List (Nat × Nat)) (rt : List Nat) (TX : List zx_X) (pool : zx_Tr zr_E) (rty : Option FieldType) (pc : Nat) (i : Instr) (_ : Nat) : ze_O := match i with
  | .land => .inl (ze_l [] (zt_a2J zt_fandJ3 (pc + 1)))
  | _ => ze_no
theorem zs_land {Z : ze_Z} (hZ : ze_Zk Z) {T : zx_Tr zt_C} {O : List zx_W} {OT : List zt_Y} (HO : zt_ot O OT) {K0 : Nat} {md : List (Nat × Nat)} {rt : List Nat} {TX : List zx_X} {pool : zx_Tr zr_E} {ml : Nat} {rty : Option FieldType} {pc : Nat} : ze_sn Z T K0 md (zr_land pc) (za_land T O OT K0 md rt TX pool rty pc) := by
  intro i n g h
  unfold zr_land at h
  split at h
  · replace h := zr_n_in h
    obtain ⟨e9, h⟩ := h
    subst e9
    cases h
    exact ze_lp (zt_a2J_in (fun S S2 ea eb B r L st st2 h x y hg hv hw ha hb hx hy hf => zt_fandJ3_in hg hv hw ha hb hx hy hf))
  · cases h
noncomputable def zt_fol3 (S : zt_S) (a b : zt_E) (B : List zt_V) : Option zt_S := match zt_sd64 S.2.2.2.2 a b with
  | true => some (zt_stk ((1, zt_add a b, 0) :: B) S)
  | false => (match zt_sd64 S.2.2.2.2 b a with
    | true => some (zt_stk ((1, zt_add b a, 0) :: B) S)
    | false => zt_for64 S a b B)
theorem zt_fol3_in {r : Nat → Int} {S S2 : zt_S} {a b : zt_E} {B : List zt_V} {L : zx_L} {st st2 : List Value} {h : zx_H} {x y : Int64} (hg : zt_g r S L st h) (hv : zt_vs r B st2) (hw : ∀ q ∈ B, zt_lt S.1 q.2.1) (ha : zt_lt S.1 a) (hb : zt_lt S.1 b) (hx : x.toInt = zt_ev r a) (hy : y.toInt = zt_ev r b) (hf : zt_fol3 S a b B = some S2) : ∃ r2 : Nat → Int, (∀ i, i < S.1 → r2 i = r i) ∧ S.1 ≤ S2.1 ∧ zt_g r2 S2 L (.long (x ||| y) :: st2) h := by
  unfold zt_fol3 at hf
  split at hf
  · next e1 =>
    cases hf
    exact ⟨r, fun _ _ => rfl, Nat.le_refl _, zt_stk_in hg ⟨⟨x ||| y, rfl, zt_sd64_in hg.1 hx hy e1⟩, hv⟩ (fun q hq => (List.mem_cons.mp hq).elim (fun z => by rw [z]; exact zt_add_lt ha hb) (hw q))⟩
  · split at hf
    · next e1 =>
      cases hf
      have e2 : (x ||| y) = (y ||| x) := Int64.toBitVec_inj.mp (BitVec.or_comm ..)
      exact ⟨r, fun _ _ => rfl, Nat.le_refl _, zt_stk_in hg ⟨⟨x ||| y, rfl, by rw [e2]; exact zt_sd64_in hg.1 hy hx e1⟩, hv⟩ (fun q hq => (List.mem_cons.mp hq).elim (fun z => by rw [z]; exact zt_add_lt hb ha) (hw q))⟩
    · exact zt_for64_in hg hv hw ha hb hx hy hf
/-- a shift that may go beyond a long's sign: the value less once or never 2^64 -/
noncomputable def zt_fshlW (S : zt_S) (a b : zt_E) (B : List zt_V) : Option zt_S := match b.2 with
  | [] => match decide (0 ≤ b.1) && (decide (b.1 < 64) && (zt_ge S.2.2.2.2 a && (zt_ge S.2.2.2.2 (zt_sub (zt_k 18446744073709551615) (zt_sc ((2 ^ b.1.toNat : Nat) : Int) a)) && !(zt_ge S.2.2.2.2 (zt_sub (zt_k 9223372036854775807) (zt_sc ((2 ^ b.1.toNat : Nat) : Int) a)))))) with
    | true => some (zt_stk ((1, zt_sub (zt_sc ((2 ^ b.1.toNat : Nat) : Int) a) (zt_sc 18446744073709551616 (zt_s S.1)), 0) :: B) (zt_new 3 0 1 (fun s => [zt_add (zt_sub (zt_sc ((2 ^ b.1.toNat : Nat) : Int) a) (zt_sc 18446744073709551616 s)) (zt_k 9223372036854775808), zt_sub (zt_k 9223372036854775807) (zt_sub (zt_sc ((2 ^ b.1.toNat : Nat) : Int) a) (zt_sc 18446744073709551616 s))]) B S))
    | false => zt_fshlJ S a b B
  | _ => zt_fshlJ S a b B
theorem zt_fshlW_in {r : Nat → Int} {S S2 : zt_S} {a b : zt_E} {B : List zt_V} {L : zx_L} {st st2 : List Value} {h : zx_H} {x z : Int64} (hg : zt_g r S L st h) (hv : zt_vs r B st2) (hw : ∀ q ∈ B, zt_lt S.1 q.2.1) (ha : zt_lt S.1 a) (hx : x.toInt = zt_ev r a) (hz : ∀ k : Nat, k < 64 → zt_ev r b = (k : Int) → (z.toBitVec.smod 64#64).toNat = k) (hf : zt_fshlW S a b B = some S2) : ∃ r2 : Nat → Int, (∀ i, i < S.1 → r2 i = r i) ∧ S.1 ≤ S2.1 ∧ zt_g r2 S2 L (.long (x <<< z) :: st2) h := by
  unfold zt_fshlW at hf
  split at hf
  · next e =>
    split at hf
    · next e2 =>
      cases hf
      simp only [Bool.and_eq_true] at e2
      obtain ⟨c1, c2, c3, c4, -⟩ := e2
      have h1 := of_decide_eq_true c1
      have h2 := of_decide_eq_true c2
      have e0 := zt_shl64g x z
      rw [hz b.1.toNat (by omega) (by rw [zt_kev e]; omega), hx, Int.mul_comm] at e0
      have g3 := zt_ge_in hg.1 c3
      have g4 := zt_ge_in hg.1 c4
      rw [zt_sub_ev, zt_k_ev, zt_sc_ev] at g4
      generalize hP : ((2 ^ b.1.toNat : Nat) : Int) = P at e0 g4 ⊢
      have hP0 : 0 ≤ P := by rw [← hP]; exact Int.natCast_nonneg _
      have g5 : 0 ≤ P * zt_ev r a := Int.mul_nonneg hP0 g3
      obtain ⟨c, hc0, hc1, hc⟩ : ∃ c : Int, 0 ≤ c ∧ c ≤ 1 ∧ (x <<< z).toInt = P * zt_ev r a - 18446744073709551616 * c := by
        generalize P * zt_ev r a = W at e0 g4 g5
        by_cases hs : W < 9223372036854775808
        · exact ⟨0, by omega, by omega, by rw [e0, Int.bmod_def]; omega⟩
        · exact ⟨1, by omega, by omega, by rw [e0, Int.bmod_def]; omega⟩
      have hr1 := (zt_i64 (x <<< z)).1
      have hr2 := (zt_i64 (x <<< z)).2
      obtain ⟨r2, q1, q2⟩ := zt_new_in c (t := 3) (lo := 0) (hi := 1) (v := .null) (fs := fun s => [zt_add (zt_sub (zt_sc P a) (zt_sc 18446744073709551616 s)) (zt_k 9223372036854775808), zt_sub (zt_k 9223372036854775807) (zt_sub (zt_sc P a) (zt_sc 18446744073709551616 s))]) hg hv hw (fun r2 h2 => rfl) hc0 hc1 (fun r2 h8 h9 f hf => by
        simp only [List.mem_cons, List.not_mem_nil, or_false] at hf
        rcases hf with e | e <;> subst e
        · rw [zt_add_ev, zt_sub_ev, zt_sc_ev, zt_sc_ev, zt_s_ev, zt_k_ev, h9, zt_ev_eq h8 ha]
          omega
        · rw [zt_sub_ev, zt_sub_ev, zt_sc_ev, zt_sc_ev, zt_s_ev, zt_k_ev, h9, zt_ev_eq h8 ha]
          omega) (fun f hf => by
        simp only [List.mem_cons, List.not_mem_nil, or_false] at hf
        rcases hf with e | e <;> subst e
        · exact zt_add_lt (zt_sub_lt (zt_sc_lt (zt_lt_mono ha (Nat.le_succ _))) (zt_sc_lt (zt_s_lt (Nat.lt_succ_self _)))) zt_k_lt
        · exact zt_sub_lt zt_k_lt (zt_sub_lt (zt_sc_lt (zt_lt_mono ha (Nat.le_succ _))) (zt_sc_lt (zt_s_lt (Nat.lt_succ_self _)))))
      have q9 : r2 S.1 = c := by
        have w := q2.1
        have w1 := w (zt_sub (zt_s S.1) (zt_k 0)) List.mem_cons_self
        have w2 := w (zt_add (zt_sub (zt_sc P a) (zt_sc 18446744073709551616 (zt_s S.1))) (zt_k 9223372036854775808)) (List.mem_cons_of_mem _ (List.mem_cons_of_mem _ List.mem_cons_self))
        have w3 := w (zt_sub (zt_k 9223372036854775807) (zt_sub (zt_sc P a) (zt_sc 18446744073709551616 (zt_s S.1)))) (List.mem_cons_of_mem _ (List.mem_cons_of_mem _ (List.mem_cons_of_mem _ List.mem_cons_self)))
        rw [zt_add_ev, zt_sub_ev, zt_sc_ev, zt_sc_ev, zt_s_ev, zt_k_ev, zt_ev_eq q1 ha] at w2
        rw [zt_sub_ev, zt_sub_ev, zt_sc_ev, zt_sc_ev, zt_s_ev, zt_k_ev, zt_ev_eq q1 ha] at w3
        omega
      refine ⟨r2, q1, Nat.le_succ _, zt_stk_in q2 ⟨⟨x <<< z, rfl, ?_⟩, q2.2.2.1.2⟩ (fun q hq => (List.mem_cons.mp hq).elim (fun z => by rw [z]; exact zt_sub_lt (zt_sc_lt (zt_lt_mono ha (Nat.le_succ _))) (zt_sc_lt (zt_s_lt (Nat.lt_succ_self _)))) (fun m => zt_lt_mono (hw q m) (Nat.le_succ _)))⟩
      show _ = zt_ev r2 (zt_sub (zt_sc P a) (zt_sc 18446744073709551616 (zt_s S.1)))
      rw [zt_sub_ev, zt_sc_ev, zt_sc_ev, zt_s_ev, q9, zt_ev_eq q1 ha]
      exact hc
    · exact zt_fshlJ_in hg hv hw ha hx hz hf
  · exact zt_fshlJ_in hg hv hw ha hx hz hf
noncomputable def za_lor (T : zx_Tr zt_C) (O : List zx_W) (OT : List zt_Y) (K0 : Nat) (md : List (Nat × Nat)) (rt : List Nat) (TX : List zx_X) (pool : zx_Tr zr_E) (rty : Option FieldType) (pc : Nat) (i : Instr) (_ : Nat) : ze_O := match i with
  | .lor => .inl (ze_l [] (zt_a2J zt_fol3 (pc + 1)))
  | _ => ze_no
theorem zs_lor {Z : ze_Z} (hZ : ze_Zk Z) {T : zx_Tr zt_C} {O : List zx_W} {OT : List zt_Y} (HO : zt_ot O OT) {K0 : Nat} {md : List (Nat × Nat)} {rt : List Nat} {TX : List zx_X} {pool : zx_Tr zr_E} {ml : Nat} {rty : Option FieldType} {pc : Nat} : ze_sn Z T K0 md (zr_lor pc) (za_lor T O OT K0 md rt TX pool rty pc) := by
  intro i n g h
  unfold zr_lor at h
  split at h
  · replace h := zr_n_in h
    obtain ⟨e9, h⟩ := h
    subst e9
    cases h
    exact ze_lp (zt_a2J_in (fun S S2 ea eb B r L st st2 h x y hg hv hw ha hb hx hy hf => zt_fol3_in hg hv hw ha hb hx hy hf))
  · cases h
noncomputable def za_lshl (T : zx_Tr zt_C) (O : List zx_W) (OT : List zt_Y) (K0 : Nat) (md : List (Nat × Nat)) (rt : List Nat) (TX : List zx_X) (pool : zx_Tr zr_E) (rty : Option FieldType) (pc : Nat) (i : Instr) (_ : Nat) : ze_O := match i with
  | .lshl => .inl (ze_l [] (zt_a2S zt_fshlW (pc + 1)))
  | _ => ze_no
theorem zs_lshl {Z : ze_Z} (hZ : ze_Zk Z) {T : zx_Tr zt_C} {O : List zx_W} {OT : List zt_Y} (HO : zt_ot O OT) {K0 : Nat} {md : List (Nat × Nat)} {rt : List Nat} {TX : List zx_X} {pool : zx_Tr zr_E} {ml : Nat} {rty : Option FieldType} {pc : Nat} : ze_sn Z T K0 md (zr_lshl pc) (za_lshl T O OT K0 md rt TX pool rty pc) := by
  intro i n g h
  unfold zr_lshl at h
  split at h
  · replace h := zr_n_in h
    obtain ⟨e9, h⟩ := h
    subst e9
    cases h
    exact ze_lp (zt_a2S_in (fun S S2 ea eb B r L st st2 h x y hg hv hw ha hb hx hy hf => zt_fshlW_in hg hv hw ha hx (fun k hk e => zt_z64 hk (hy.trans e)) hf))
  · cases h
noncomputable def za_lshr (T : zx_Tr zt_C) (O : List zx_W) (OT : List zt_Y) (K0 : Nat) (md : List (Nat × Nat)) (rt : List Nat) (TX : List zx_X) (pool : zx_Tr zr_E) (rty : Option FieldType) (pc : Nat) (i : Instr) (_ : Nat) : ze_O := match i with
  | .lshr => .inl (ze_l [] (zt_a2S zt_fshrJ (pc + 1)))
  | _ => ze_no
theorem zs_lshr {Z : ze_Z} (hZ : ze_Zk Z) {T : zx_Tr zt_C} {O : List zx_W} {OT : List zt_Y} (HO : zt_ot O OT) {K0 : Nat} {md : List (Nat × Nat)} {rt : List Nat} {TX : List zx_X} {pool : zx_Tr zr_E} {ml : Nat} {rty : Option FieldType} {pc : Nat} : ze_sn Z T K0 md (zr_lshr pc) (za_lshr T O OT K0 md rt TX pool rty pc) := by
  intro i n g h
  unfold zr_lshr at h
  split at h
  · replace h := zr_n_in h
    obtain ⟨e9, h⟩ := h
    subst e9
    cases h
    exact ze_lp zt_alshr_in
  · cases h
noncomputable def za_lushr (T : zx_Tr zt_C) (O : List zx_W) (OT : List zt_Y) (K0 : Nat) (md : List (Nat × Nat)) (rt : List Nat) (TX : List zx_X) (pool : zx_Tr zr_E) (rty : Option FieldType) (pc : Nat) (i : Instr) (_ : Nat) : ze_O := match i with
  | .lushr => .inl (ze_l [] (zt_a2S zt_fushrJ (pc + 1)))
  | _ => ze_no
theorem zs_lushr {Z : ze_Z} (hZ : ze_Zk Z) {T : zx_Tr zt_C} {O : List zx_W} {OT : List zt_Y} (HO : zt_ot O OT) {K0 : Nat} {md : List (Nat × Nat)} {rt : List Nat} {TX : List zx_X} {pool : zx_Tr zr_E} {ml : Nat} {rty : Option FieldType} {pc : Nat} : ze_sn Z T K0 md (zr_lushr pc) (za_lushr T O OT K0 md rt TX pool rty pc) := by
  intro i n g h
  unfold zr_lushr at h
  split at h
  · replace h := zr_n_in h
    obtain ⟨e9, h⟩ := h
    subst e9
    cases h
    exact ze_lp zt_alushr_in
  · cases h
noncomputable def za_ldiv (T : zx_Tr zt_C) (O : List zx_W) (OT : List zt_Y) (K0 : Nat) (md : List (Nat × Nat)) (rt : List Nat) (TX : List zx_X) (pool : zx_Tr zr_E) (rty : Option FieldType) (pc : Nat) (i : Instr) (_ : Nat) : ze_O := match i with
  | .ldiv => .inl (ze_l [] (zt_aDJ zt_fdivJ (pc + 1)))
  | _ => ze_no
theorem zs_ldiv {Z : ze_Z} (hZ : ze_Zk Z) {T : zx_Tr zt_C} {O : List zx_W} {OT : List zt_Y} (HO : zt_ot O OT) {K0 : Nat} {md : List (Nat × Nat)} {rt : List Nat} {TX : List zx_X} {pool : zx_Tr zr_E} {ml : Nat} {rty : Option FieldType} {pc : Nat} : ze_sn Z T K0 md (zr_ldiv pc) (za_ldiv T O OT K0 md rt TX pool rty pc) := by
  intro i n g h
  unfold zr_ldiv at h
  split at h
  · replace h := zr_n_in h
    obtain ⟨e9, h⟩ := h
    subst e9
    cases h
    exact ze_lp zt_aDJ_ok
  · cases h
noncomputable def za_lrem (T : zx_Tr zt_C) (O : List zx_W) (OT : List zt_Y) (K0 : Nat) (md : List (Nat × Nat)) (rt : List Nat) (TX : List zx_X) (pool : zx_Tr zr_E) (rty : Option FieldType) (pc : Nat) (i : Instr) (_ : Nat) : ze_O := match i with
  | .lrem => .inl (ze_l [] (zt_aMJ zt_fremJ2 (pc + 1)))
  | _ => ze_no
theorem zs_lrem {Z : ze_Z} (hZ : ze_Zk Z) {T : zx_Tr zt_C} {O : List zx_W} {OT : List zt_Y} (HO : zt_ot O OT) {K0 : Nat} {md : List (Nat × Nat)} {rt : List Nat} {TX : List zx_X} {pool : zx_Tr zr_E} {ml : Nat} {rty : Option FieldType} {pc : Nat} : ze_sn Z T K0 md (zr_lrem pc) (za_lrem T O OT K0 md rt TX pool rty pc) := by
  intro i n g h
  unfold zr_lrem at h
  split at h
  · replace h := zr_n_in h
    obtain ⟨e9, h⟩ := h
    subst e9
    cases h
    exact ze_lp zt_aMJ2_ok
  · cases h
noncomputable def za_ineg (T : zx_Tr zt_C) (O : List zx_W) (OT : List zt_Y) (K0 : Nat) (md : List (Nat × Nat)) (rt : List Nat) (TX : List zx_X) (pool : zx_Tr zr_E) (rty : Option FieldType) (pc : Nat) (i : Instr) (_ : Nat) : ze_O := match i with
  | .ineg => .inl (ze_l [] (zt_aineg (pc + 1)))
  | _ => ze_no
theorem zs_ineg {Z : ze_Z} (hZ : ze_Zk Z) {T : zx_Tr zt_C} {O : List zx_W} {OT : List zt_Y} (HO : zt_ot O OT) {K0 : Nat} {md : List (Nat × Nat)} {rt : List Nat} {TX : List zx_X} {pool : zx_Tr zr_E} {ml : Nat} {rty : Option FieldType} {pc : Nat} : ze_sn Z T K0 md (zr_ineg pc) (za_ineg T O OT K0 md rt TX pool rty pc) := by
  intro i n g h
  unfold zr_ineg at h
  split at h
  · replace h := zr_n_in h
    obtain ⟨e9, h⟩ := h
    subst e9
    cases h
    exact ze_lp zt_aineg_in
  · cases h
noncomputable def za_i2b (T : zx_Tr zt_C) (O : List zx_W) (OT : List zt_Y) (K0 : Nat) (md : List (Nat × Nat)) (rt : List Nat) (TX : List zx_X) (pool : zx_Tr zr_E) (rty : Option FieldType) (pc : Nat) (i : Instr) (_ : Nat) : ze_O := match i with
  | .i2b => .inl (ze_l [] (zt_ai2b (pc + 1)))
  | _ => ze_no
theorem zs_i2b {Z : ze_Z} (hZ : ze_Zk Z) {T : zx_Tr zt_C} {O : List zx_W} {OT : List zt_Y} (HO : zt_ot O OT) {K0 : Nat} {md : List (Nat × Nat)} {rt : List Nat} {TX : List zx_X} {pool : zx_Tr zr_E} {ml : Nat} {rty : Option FieldType} {pc : Nat} : ze_sn Z T K0 md (zr_i2b pc) (za_i2b T O OT K0 md rt TX pool rty pc) := by
  intro i n g h
  unfold zr_i2b at h
  split at h
  · replace h := zr_n_in h
    obtain ⟨e9, h⟩ := h
    subst e9
    cases h
    exact ze_lp zt_ai2b_in
  · cases h
noncomputable def za_i2s (T : zx_Tr zt_C) (O : List zx_W) (OT : List zt_Y) (K0 : Nat) (md : List (Nat × Nat)) (rt : List Nat) (TX : List zx_X) (pool : zx_Tr zr_E) (rty : Option FieldType) (pc : Nat) (i : Instr) (_ : Nat) : ze_O := match i with
  | .i2s => .inl (ze_l [] (zt_ai2s (pc + 1)))
  | _ => ze_no
theorem zs_i2s {Z : ze_Z} (hZ : ze_Zk Z) {T : zx_Tr zt_C} {O : List zx_W} {OT : List zt_Y} (HO : zt_ot O OT) {K0 : Nat} {md : List (Nat × Nat)} {rt : List Nat} {TX : List zx_X} {pool : zx_Tr zr_E} {ml : Nat} {rty : Option FieldType} {pc : Nat} : ze_sn Z T K0 md (zr_i2s pc) (za_i2s T O OT K0 md rt TX pool rty pc) := by
  intro i n g h
  unfold zr_i2s at h
  split at h
  · replace h := zr_n_in h
    obtain ⟨e9, h⟩ := h
    subst e9
    cases h
    exact ze_lp zt_ai2s_in
  · cases h
noncomputable def za_i2c (T : zx_Tr zt_C) (O : List zx_W) (OT : List zt_Y) (K0 : Nat) (md : List (Nat × Nat)) (rt : List Nat) (TX : List zx_X) (pool : zx_Tr zr_E) (rty : Option FieldType) (pc : Nat) (i : Instr) (_ : Nat) : ze_O := match i with
  | .i2c => .inl (ze_l [] (zt_ai2c (pc + 1)))
  | _ => ze_no
theorem zs_i2c {Z : ze_Z} (hZ : ze_Zk Z) {T : zx_Tr zt_C} {O : List zx_W} {OT : List zt_Y} (HO : zt_ot O OT) {K0 : Nat} {md : List (Nat × Nat)} {rt : List Nat} {TX : List zx_X} {pool : zx_Tr zr_E} {ml : Nat} {rty : Option FieldType} {pc : Nat} : ze_sn Z T K0 md (zr_i2c pc) (za_i2c T O OT K0 md rt TX pool rty pc) := by
  intro i n g h
  unfold zr_i2c at h
  split at h
  · replace h := zr_n_in h
    obtain ⟨e9, h⟩ := h
    subst e9
    cases h
    exact ze_lp zt_ai2c_in
  · cases h
noncomputable def za_lneg (T : zx_Tr zt_C) (O : List zx_W) (OT : List zt_Y) (K0 : Nat) (md : List (Nat × Nat)) (rt : List Nat) (TX : List zx_X) (pool : zx_Tr zr_E) (rty : Option FieldType) (pc : Nat) (i : Instr) (_ : Nat) : ze_O := match i with
  | .lneg => .inl (ze_l [] (zt_alneg (pc + 1)))
  | _ => ze_no
theorem zs_lneg {Z : ze_Z} (hZ : ze_Zk Z) {T : zx_Tr zt_C} {O : List zx_W} {OT : List zt_Y} (HO : zt_ot O OT) {K0 : Nat} {md : List (Nat × Nat)} {rt : List Nat} {TX : List zx_X} {pool : zx_Tr zr_E} {ml : Nat} {rty : Option FieldType} {pc : Nat} : ze_sn Z T K0 md (zr_lneg pc) (za_lneg T O OT K0 md rt TX pool rty pc) := by
  intro i n g h
  unfold zr_lneg at h
  split at h
  · replace h := zr_n_in h
    obtain ⟨e9, h⟩ := h
    subst e9
    cases h
    exact ze_lp zt_alneg_in
  · cases h
noncomputable def za_i2l (T : zx_Tr zt_C) (O : List zx_W) (OT : List zt_Y) (K0 : Nat) (md : List (Nat × Nat)) (rt : List Nat) (TX : List zx_X) (pool : zx_Tr zr_E) (rty : Option FieldType) (pc : Nat) (i : Instr) (_ : Nat) : ze_O := match i with
  | .i2l => .inl (ze_l [] (zt_ai2l (pc + 1)))
  | _ => ze_no
theorem zs_i2l {Z : ze_Z} (hZ : ze_Zk Z) {T : zx_Tr zt_C} {O : List zx_W} {OT : List zt_Y} (HO : zt_ot O OT) {K0 : Nat} {md : List (Nat × Nat)} {rt : List Nat} {TX : List zx_X} {pool : zx_Tr zr_E} {ml : Nat} {rty : Option FieldType} {pc : Nat} : ze_sn Z T K0 md (zr_i2l pc) (za_i2l T O OT K0 md rt TX pool rty pc) := by
  intro i n g h
  unfold zr_i2l at h
  split at h
  · replace h := zr_n_in h
    obtain ⟨e9, h⟩ := h
    subst e9
    cases h
    exact ze_lp zt_ai2l_in
  · cases h
noncomputable def za_l2i (T : zx_Tr zt_C) (O : List zx_W) (OT : List zt_Y) (K0 : Nat) (md : List (Nat × Nat)) (rt : List Nat) (TX : List zx_X) (pool : zx_Tr zr_E) (rty : Option FieldType) (pc : Nat) (i : Instr) (_ : Nat) : ze_O := match i with
  | .l2i => .inl (ze_l [] (zt_al2i (pc + 1)))
  | _ => ze_no
theorem zs_l2i {Z : ze_Z} (hZ : ze_Zk Z) {T : zx_Tr zt_C} {O : List zx_W} {OT : List zt_Y} (HO : zt_ot O OT) {K0 : Nat} {md : List (Nat × Nat)} {rt : List Nat} {TX : List zx_X} {pool : zx_Tr zr_E} {ml : Nat} {rty : Option FieldType} {pc : Nat} : ze_sn Z T K0 md (zr_l2i pc) (za_l2i T O OT K0 md rt TX pool rty pc) := by
  intro i n g h
  unfold zr_l2i at h
  split at h
  · replace h := zr_n_in h
    obtain ⟨e9, h⟩ := h
    subst e9
    cases h
    exact ze_lp zt_al2i_in
  · cases h
noncomputable def za_lcmp (T : zx_Tr zt_C) (O : List zx_W) (OT : List zt_Y) (K0 : Nat) (md : List (Nat × Nat)) (rt : List Nat) (TX : List zx_X) (pool : zx_Tr zr_E) (rty : Option FieldType) (pc : Nat) (i : Instr) (_ : Nat) : ze_O := match i with
  | .lcmp => .inl (ze_l [] (zt_acmp (pc + 1)))
  | _ => ze_no
theorem zs_lcmp {Z : ze_Z} (hZ : ze_Zk Z) {T : zx_Tr zt_C} {O : List zx_W} {OT : List zt_Y} (HO : zt_ot O OT) {K0 : Nat} {md : List (Nat × Nat)} {rt : List Nat} {TX : List zx_X} {pool : zx_Tr zr_E} {ml : Nat} {rty : Option FieldType} {pc : Nat} : ze_sn Z T K0 md (zr_lcmp pc) (za_lcmp T O OT K0 md rt TX pool rty pc) := by
  intro i n g h
  unfold zr_lcmp at h
  split at h
  · replace h := zr_n_in h
    obtain ⟨e9, h⟩ := h
    subst e9
    cases h
    exact ze_lp zt_acmp_in
  · cases h
noncomputable def za_dup (T : zx_Tr zt_C) (O : List zx_W) (OT : List zt_Y) (K0 : Nat) (md : List (Nat × Nat)) (rt : List Nat) (TX : List zx_X) (pool : zx_Tr zr_E) (rty : Option FieldType) (pc : Nat) (i : Instr) (_ : Nat) : ze_O := match i with
  | .dup => .inl (ze_l [] (zt_adup (pc + 1)))
  | _ => ze_no
theorem zs_dup {Z : ze_Z} (hZ : ze_Zk Z) {T : zx_Tr zt_C} {O : List zx_W} {OT : List zt_Y} (HO : zt_ot O OT) {K0 : Nat} {md : List (Nat × Nat)} {rt : List Nat} {TX : List zx_X} {pool : zx_Tr zr_E} {ml : Nat} {rty : Option FieldType} {pc : Nat} : ze_sn Z T K0 md (zr_dup pc) (za_dup T O OT K0 md rt TX pool rty pc) := by
  intro i n g h
  unfold zr_dup at h
  split at h
  · replace h := zr_n_in h
    obtain ⟨e9, h⟩ := h
    subst e9
    cases h
    exact ze_lp zt_adup_in
  · cases h
noncomputable def za_pop (T : zx_Tr zt_C) (O : List zx_W) (OT : List zt_Y) (K0 : Nat) (md : List (Nat × Nat)) (rt : List Nat) (TX : List zx_X) (pool : zx_Tr zr_E) (rty : Option FieldType) (pc : Nat) (i : Instr) (_ : Nat) : ze_O := match i with
  | .pop => .inl (ze_l [] (zt_apop (pc + 1)))
  | _ => ze_no
theorem zs_pop {Z : ze_Z} (hZ : ze_Zk Z) {T : zx_Tr zt_C} {O : List zx_W} {OT : List zt_Y} (HO : zt_ot O OT) {K0 : Nat} {md : List (Nat × Nat)} {rt : List Nat} {TX : List zx_X} {pool : zx_Tr zr_E} {ml : Nat} {rty : Option FieldType} {pc : Nat} : ze_sn Z T K0 md (zr_pop pc) (za_pop T O OT K0 md rt TX pool rty pc) := by
  intro i n g h
  unfold zr_pop at h
  split at h
  · replace h := zr_n_in h
    obtain ⟨e9, h⟩ := h
    subst e9
    cases h
    exact ze_lp zt_apop_in
  · cases h
noncomputable def za_dup2 (T : zx_Tr zt_C) (O : List zx_W) (OT : List zt_Y) (K0 : Nat) (md : List (Nat × Nat)) (rt : List Nat) (TX : List zx_X) (pool : zx_Tr zr_E) (rty : Option FieldType) (pc : Nat) (i : Instr) (_ : Nat) : ze_O := match i with
  | .dup2 => .inl (ze_l [] (zt_adup2 (pc + 1)))
  | _ => ze_no
theorem zs_dup2 {Z : ze_Z} (hZ : ze_Zk Z) {T : zx_Tr zt_C} {O : List zx_W} {OT : List zt_Y} (HO : zt_ot O OT) {K0 : Nat} {md : List (Nat × Nat)} {rt : List Nat} {TX : List zx_X} {pool : zx_Tr zr_E} {ml : Nat} {rty : Option FieldType} {pc : Nat} : ze_sn Z T K0 md (zr_dup2 pc) (za_dup2 T O OT K0 md rt TX pool rty pc) := by
  intro i n g h
  unfold zr_dup2 at h
  split at h
  · replace h := zr_n_in h
    obtain ⟨e9, h⟩ := h
    subst e9
    cases h
    exact ze_lp zt_adup2_in
  · cases h
noncomputable def za_ifeq (T : zx_Tr zt_C) (O : List zx_W) (OT : List zt_Y) (K0 : Nat) (md : List (Nat × Nat)) (rt : List Nat) (TX : List zx_X) (pool : zx_Tr zr_E) (rty : Option FieldType) (pc : Nat) (i : Instr) (_ : Nat) : ze_O := match i with
  | .ifCond c off => (match c with | .eq => .inl (ze_l [] (zt_aif (zt_keq false ((pc : Int) + off).toNat (pc + 3)))) | _ => ze_no)
  | _ => ze_no
theorem zs_ifeq {Z : ze_Z} (hZ : ze_Zk Z) {T : zx_Tr zt_C} {O : List zx_W} {OT : List zt_Y} (HO : zt_ot O OT) {K0 : Nat} {md : List (Nat × Nat)} {rt : List Nat} {TX : List zx_X} {pool : zx_Tr zr_E} {ml : Nat} {rty : Option FieldType} {pc : Nat} : ze_sn Z T K0 md (zr_ifeq pc) (za_ifeq T O OT K0 md rt TX pool rty pc) := by
  intro i n g h
  unfold zr_ifeq at h
  split at h
  · replace h := zr_n_in h
    obtain ⟨e9, h⟩ := h
    subst e9
    split at h
    · obtain ⟨t, e1, rfl⟩ := zr_t_in h
      have e2 := congrArg Int.toNat e1
      rw [Int.toNat_natCast] at e2
      subst e2
      exact ze_lp (zt_ifeq false)
    · cases h
  · cases h
noncomputable def za_iceq (T : zx_Tr zt_C) (O : List zx_W) (OT : List zt_Y) (K0 : Nat) (md : List (Nat × Nat)) (rt : List Nat) (TX : List zx_X) (pool : zx_Tr zr_E) (rty : Option FieldType) (pc : Nat) (i : Instr) (_ : Nat) : ze_O := match i with
  | .if_icmp c off => (match c with | .eq => .inl (ze_l [] (zt_aic (zt_keq false ((pc : Int) + off).toNat (pc + 3)))) | _ => ze_no)
  | _ => ze_no
theorem zs_iceq {Z : ze_Z} (hZ : ze_Zk Z) {T : zx_Tr zt_C} {O : List zx_W} {OT : List zt_Y} (HO : zt_ot O OT) {K0 : Nat} {md : List (Nat × Nat)} {rt : List Nat} {TX : List zx_X} {pool : zx_Tr zr_E} {ml : Nat} {rty : Option FieldType} {pc : Nat} : ze_sn Z T K0 md (zr_iceq pc) (za_iceq T O OT K0 md rt TX pool rty pc) := by
  intro i n g h
  unfold zr_iceq at h
  split at h
  · replace h := zr_n_in h
    obtain ⟨e9, h⟩ := h
    subst e9
    split at h
    · obtain ⟨t, e1, rfl⟩ := zr_t_in h
      have e2 := congrArg Int.toNat e1
      rw [Int.toNat_natCast] at e2
      subst e2
      exact ze_lp (zt_iceq false)
    · cases h
  · cases h
noncomputable def za_ifne (T : zx_Tr zt_C) (O : List zx_W) (OT : List zt_Y) (K0 : Nat) (md : List (Nat × Nat)) (rt : List Nat) (TX : List zx_X) (pool : zx_Tr zr_E) (rty : Option FieldType) (pc : Nat) (i : Instr) (_ : Nat) : ze_O := match i with
  | .ifCond c off => (match c with | .ne => .inl (ze_l [] (zt_aif (zt_kne false ((pc : Int) + off).toNat (pc + 3)))) | _ => ze_no)
  | _ => ze_no
theorem zs_ifne {Z : ze_Z} (hZ : ze_Zk Z) {T : zx_Tr zt_C} {O : List zx_W} {OT : List zt_Y} (HO : zt_ot O OT) {K0 : Nat} {md : List (Nat × Nat)} {rt : List Nat} {TX : List zx_X} {pool : zx_Tr zr_E} {ml : Nat} {rty : Option FieldType} {pc : Nat} : ze_sn Z T K0 md (zr_ifne pc) (za_ifne T O OT K0 md rt TX pool rty pc) := by
  intro i n g h
  unfold zr_ifne at h
  split at h
  · replace h := zr_n_in h
    obtain ⟨e9, h⟩ := h
    subst e9
    split at h
    · obtain ⟨t, e1, rfl⟩ := zr_t_in h
      have e2 := congrArg Int.toNat e1
      rw [Int.toNat_natCast] at e2
      subst e2
      exact ze_lp (zt_ifne false)
    · cases h
  · cases h
noncomputable def za_icne (T : zx_Tr zt_C) (O : List zx_W) (OT : List zt_Y) (K0 : Nat) (md : List (Nat × Nat)) (rt : List Nat) (TX : List zx_X) (pool : zx_Tr zr_E) (rty : Option FieldType) (pc : Nat) (i : Instr) (_ : Nat) : ze_O := match i with
  | .if_icmp c off => (match c with | .ne => .inl (ze_l [] (zt_aic (zt_kne false ((pc : Int) + off).toNat (pc + 3)))) | _ => ze_no)
  | _ => ze_no
theorem zs_icne {Z : ze_Z} (hZ : ze_Zk Z) {T : zx_Tr zt_C} {O : List zx_W} {OT : List zt_Y} (HO : zt_ot O OT) {K0 : Nat} {md : List (Nat × Nat)} {rt : List Nat} {TX : List zx_X} {pool : zx_Tr zr_E} {ml : Nat} {rty : Option FieldType} {pc : Nat} : ze_sn Z T K0 md (zr_icne pc) (za_icne T O OT K0 md rt TX pool rty pc) := by
  intro i n g h
  unfold zr_icne at h
  split at h
  · replace h := zr_n_in h
    obtain ⟨e9, h⟩ := h
    subst e9
    split at h
    · obtain ⟨t, e1, rfl⟩ := zr_t_in h
      have e2 := congrArg Int.toNat e1
      rw [Int.toNat_natCast] at e2
      subst e2
      exact ze_lp (zt_icne false)
    · cases h
  · cases h
noncomputable def za_iflt (T : zx_Tr zt_C) (O : List zx_W) (OT : List zt_Y) (K0 : Nat) (md : List (Nat × Nat)) (rt : List Nat) (TX : List zx_X) (pool : zx_Tr zr_E) (rty : Option FieldType) (pc : Nat) (i : Instr) (_ : Nat) : ze_O := match i with
  | .ifCond c off => (match c with | .lt => .inl (ze_l [] (zt_aif (zt_klt false ((pc : Int) + off).toNat (pc + 3)))) | _ => ze_no)
  | _ => ze_no
theorem zs_iflt {Z : ze_Z} (hZ : ze_Zk Z) {T : zx_Tr zt_C} {O : List zx_W} {OT : List zt_Y} (HO : zt_ot O OT) {K0 : Nat} {md : List (Nat × Nat)} {rt : List Nat} {TX : List zx_X} {pool : zx_Tr zr_E} {ml : Nat} {rty : Option FieldType} {pc : Nat} : ze_sn Z T K0 md (zr_iflt pc) (za_iflt T O OT K0 md rt TX pool rty pc) := by
  intro i n g h
  unfold zr_iflt at h
  split at h
  · replace h := zr_n_in h
    obtain ⟨e9, h⟩ := h
    subst e9
    split at h
    · obtain ⟨t, e1, rfl⟩ := zr_t_in h
      have e2 := congrArg Int.toNat e1
      rw [Int.toNat_natCast] at e2
      subst e2
      exact ze_lp (zt_iflt false)
    · cases h
  · cases h
noncomputable def za_iclt (T : zx_Tr zt_C) (O : List zx_W) (OT : List zt_Y) (K0 : Nat) (md : List (Nat × Nat)) (rt : List Nat) (TX : List zx_X) (pool : zx_Tr zr_E) (rty : Option FieldType) (pc : Nat) (i : Instr) (_ : Nat) : ze_O := match i with
  | .if_icmp c off => (match c with | .lt => .inl (ze_l [] (zt_aic (zt_klt false ((pc : Int) + off).toNat (pc + 3)))) | _ => ze_no)
  | _ => ze_no
theorem zs_iclt {Z : ze_Z} (hZ : ze_Zk Z) {T : zx_Tr zt_C} {O : List zx_W} {OT : List zt_Y} (HO : zt_ot O OT) {K0 : Nat} {md : List (Nat × Nat)} {rt : List Nat} {TX : List zx_X} {pool : zx_Tr zr_E} {ml : Nat} {rty : Option FieldType} {pc : Nat} : ze_sn Z T K0 md (zr_iclt pc) (za_iclt T O OT K0 md rt TX pool rty pc) := by
  intro i n g h
  unfold zr_iclt at h
  split at h
  · replace h := zr_n_in h
    obtain ⟨e9, h⟩ := h
    subst e9
    split at h
    · obtain ⟨t, e1, rfl⟩ := zr_t_in h
      have e2 := congrArg Int.toNat e1
      rw [Int.toNat_natCast] at e2
      subst e2
      exact ze_lp (zt_iclt false)
    · cases h
  · cases h
noncomputable def za_ifge (T : zx_Tr zt_C) (O : List zx_W) (OT : List zt_Y) (K0 : Nat) (md : List (Nat × Nat)) (rt : List Nat) (TX : List zx_X) (pool : zx_Tr zr_E) (rty : Option FieldType) (pc : Nat) (i : Instr) (_ : Nat) : ze_O := match i with
  | .ifCond c off => (match c with | .ge => .inl (ze_l [] (zt_aif (zt_kge false ((pc : Int) + off).toNat (pc + 3)))) | _ => ze_no)
  | _ => ze_no
theorem zs_ifge {Z : ze_Z} (hZ : ze_Zk Z) {T : zx_Tr zt_C} {O : List zx_W} {OT : List zt_Y} (HO : zt_ot O OT) {K0 : Nat} {md : List (Nat × Nat)} {rt : List Nat} {TX : List zx_X} {pool : zx_Tr zr_E} {ml : Nat} {rty : Option FieldType} {pc : Nat} : ze_sn Z T K0 md (zr_ifge pc) (za_ifge T O OT K0 md rt TX pool rty pc) := by
  intro i n g h
  unfold zr_ifge at h
  split at h
  · replace h := zr_n_in h
    obtain ⟨e9, h⟩ := h
    subst e9
    split at h
    · obtain ⟨t, e1, rfl⟩ := zr_t_in h
      have e2 := congrArg Int.toNat e1
      rw [Int.toNat_natCast] at e2
      subst e2
      exact ze_lp (zt_ifge false)
    · cases h
  · cases h
noncomputable def za_icge (T : zx_Tr zt_C) (O : List zx_W) (OT : List zt_Y) (K0 : Nat) (md : List (Nat × Nat)) (rt : List Nat) (TX : List zx_X) (pool : zx_Tr zr_E) (rty : Option FieldType) (pc : Nat) (i : Instr) (_ : Nat) : ze_O := match i with
  | .if_icmp c off => (match c with | .ge => .inl (ze_l [] (zt_aic (zt_kge false ((pc : Int) + off).toNat (pc + 3)))) | _ => ze_no)
  | _ => ze_no
theorem zs_icge {Z : ze_Z} (hZ : ze_Zk Z) {T : zx_Tr zt_C} {O : List zx_W} {OT : List zt_Y} (HO : zt_ot O OT) {K0 : Nat} {md : List (Nat × Nat)} {rt : List Nat} {TX : List zx_X} {pool : zx_Tr zr_E} {ml : Nat} {rty : Option FieldType} {pc : Nat} : ze_sn Z T K0 md (zr_icge pc) (za_icge T O OT K0 md rt TX pool rty pc) := by
  intro i n g h
  unfold zr_icge at h
  split at h
  · replace h := zr_n_in h
    obtain ⟨e9, h⟩ := h
    subst e9
    split at h
    · obtain ⟨t, e1, rfl⟩ := zr_t_in h
      have e2 := congrArg Int.toNat e1
      rw [Int.toNat_natCast] at e2
      subst e2
      exact ze_lp (zt_icge false)
    · cases h
  · cases h
noncomputable def za_ifgt (T : zx_Tr zt_C) (O : List zx_W) (OT : List zt_Y) (K0 : Nat) (md : List (Nat × Nat)) (rt : List Nat) (TX : List zx_X) (pool : zx_Tr zr_E) (rty : Option FieldType) (pc : Nat) (i : Instr) (_ : Nat) : ze_O := match i with
  | .ifCond c off => (match c with | .gt => .inl (ze_l [] (zt_aif (zt_kgt false ((pc : Int) + off).toNat (pc + 3)))) | _ => ze_no)
  | _ => ze_no
theorem zs_ifgt {Z : ze_Z} (hZ : ze_Zk Z) {T : zx_Tr zt_C} {O : List zx_W} {OT : List zt_Y} (HO : zt_ot O OT) {K0 : Nat} {md : List (Nat × Nat)} {rt : List Nat} {TX : List zx_X} {pool : zx_Tr zr_E} {ml : Nat} {rty : Option FieldType} {pc : Nat} : ze_sn Z T K0 md (zr_ifgt pc) (za_ifgt T O OT K0 md rt TX pool rty pc) := by
  intro i n g h
  unfold zr_ifgt at h
  split at h
  · replace h := zr_n_in h
    obtain ⟨e9, h⟩ := h
    subst e9
    split at h
    · obtain ⟨t, e1, rfl⟩ := zr_t_in h
      have e2 := congrArg Int.toNat e1
      rw [Int.toNat_natCast] at e2
      subst e2
      exact ze_lp (zt_ifgt false)
    · cases h
  · cases h
noncomputable def za_icgt (T : zx_Tr zt_C) (O : List zx_W) (OT : List zt_Y) (K0 : Nat) (md : List (Nat × Nat)) (rt : List Nat) (TX : List zx_X) (pool : zx_Tr zr_E) (rty : Option FieldType) (pc : Nat) (i : Instr) (_ : Nat) : ze_O := match i with
  | .if_icmp c off => (match c with | .gt => .inl (ze_l [] (zt_aic (zt_kgt false ((pc : Int) + off).toNat (pc + 3)))) | _ => ze_no)
  | _ => ze_no
theorem zs_icgt {Z : ze_Z} (hZ : ze_Zk Z) {T : zx_Tr zt_C} {O : List zx_W} {OT : List zt_Y} (HO : zt_ot O OT) {K0 : Nat} {md : List (Nat × Nat)} {rt : List Nat} {TX : List zx_X} {pool : zx_Tr zr_E} {ml : Nat} {rty : Option FieldType} {pc : Nat} : ze_sn Z T K0 md (zr_icgt pc) (za_icgt T O OT K0 md rt TX pool rty pc) := by
  intro i n g h
  unfold zr_icgt at h
  split at h
  · replace h := zr_n_in h
    obtain ⟨e9, h⟩ := h
    subst e9
    split at h
    · obtain ⟨t, e1, rfl⟩ := zr_t_in h
      have e2 := congrArg Int.toNat e1
      rw [Int.toNat_natCast] at e2
      subst e2
      exact ze_lp (zt_icgt false)
    · cases h
  · cases h
noncomputable def za_ifle (T : zx_Tr zt_C) (O : List zx_W) (OT : List zt_Y) (K0 : Nat) (md : List (Nat × Nat)) (rt : List Nat) (TX : List zx_X) (pool : zx_Tr zr_E) (rty : Option FieldType) (pc : Nat) (i : Instr) (_ : Nat) : ze_O := match i with
  | .ifCond c off => (match c with | .le => .inl (ze_l [] (zt_aif (zt_kle false ((pc : Int) + off).toNat (pc + 3)))) | _ => ze_no)
  | _ => ze_no
theorem zs_ifle {Z : ze_Z} (hZ : ze_Zk Z) {T : zx_Tr zt_C} {O : List zx_W} {OT : List zt_Y} (HO : zt_ot O OT) {K0 : Nat} {md : List (Nat × Nat)} {rt : List Nat} {TX : List zx_X} {pool : zx_Tr zr_E} {ml : Nat} {rty : Option FieldType} {pc : Nat} : ze_sn Z T K0 md (zr_ifle pc) (za_ifle T O OT K0 md rt TX pool rty pc) := by
  intro i n g h
  unfold zr_ifle at h
  split at h
  · replace h := zr_n_in h
    obtain ⟨e9, h⟩ := h
    subst e9
    split at h
    · obtain ⟨t, e1, rfl⟩ := zr_t_in h
      have e2 := congrArg Int.toNat e1
      rw [Int.toNat_natCast] at e2
      subst e2
      exact ze_lp (zt_ifle false)
    · cases h
  · cases h
noncomputable def za_icle (T : zx_Tr zt_C) (O : List zx_W) (OT : List zt_Y) (K0 : Nat) (md : List (Nat × Nat)) (rt : List Nat) (TX : List zx_X) (pool : zx_Tr zr_E) (rty : Option FieldType) (pc : Nat) (i : Instr) (_ : Nat) : ze_O := match i with
  | .if_icmp c off => (match c with | .le => .inl (ze_l [] (zt_aic (zt_kle false ((pc : Int) + off).toNat (pc + 3)))) | _ => ze_no)
  | _ => ze_no
theorem zs_icle {Z : ze_Z} (hZ : ze_Zk Z) {T : zx_Tr zt_C} {O : List zx_W} {OT : List zt_Y} (HO : zt_ot O OT) {K0 : Nat} {md : List (Nat × Nat)} {rt : List Nat} {TX : List zx_X} {pool : zx_Tr zr_E} {ml : Nat} {rty : Option FieldType} {pc : Nat} : ze_sn Z T K0 md (zr_icle pc) (za_icle T O OT K0 md rt TX pool rty pc) := by
  intro i n g h
  unfold zr_icle at h
  split at h
  · replace h := zr_n_in h
    obtain ⟨e9, h⟩ := h
    subst e9
    split at h
    · obtain ⟨t, e1, rfl⟩ := zr_t_in h
      have e2 := congrArg Int.toNat e1
      rw [Int.toNat_natCast] at e2
      subst e2
      exact ze_lp (zt_icle false)
    · cases h
  · cases h
noncomputable def za_goto (T : zx_Tr zt_C) (O : List zx_W) (OT : List zt_Y) (K0 : Nat) (md : List (Nat × Nat)) (rt : List Nat) (TX : List zx_X) (pool : zx_Tr zr_E) (rty : Option FieldType) (pc : Nat) (i : Instr) (_ : Nat) : ze_O := match i with
  | .goto off => .inl (ze_l [] (zt_agoto ((pc : Int) + off).toNat))
  | _ => ze_no
theorem zs_goto {Z : ze_Z} (hZ : ze_Zk Z) {T : zx_Tr zt_C} {O : List zx_W} {OT : List zt_Y} (HO : zt_ot O OT) {K0 : Nat} {md : List (Nat × Nat)} {rt : List Nat} {TX : List zx_X} {pool : zx_Tr zr_E} {ml : Nat} {rty : Option FieldType} {pc : Nat} : ze_sn Z T K0 md (zr_goto pc) (za_goto T O OT K0 md rt TX pool rty pc) := by
  intro i n g h
  unfold zr_goto at h
  split at h
  · replace h := zr_n_in h
    obtain ⟨e9, h⟩ := h
    subst e9
    obtain ⟨t, e1, rfl⟩ := zr_t_in h
    have e2 := congrArg Int.toNat e1
    rw [Int.toNat_natCast] at e2
    subst e2
    exact ze_lp zt_agoto_in
  · cases h
noncomputable def za_ifnull (T : zx_Tr zt_C) (O : List zx_W) (OT : List zt_Y) (K0 : Nat) (md : List (Nat × Nat)) (rt : List Nat) (TX : List zx_X) (pool : zx_Tr zr_E) (rty : Option FieldType) (pc : Nat) (i : Instr) (_ : Nat) : ze_O := match i with
  | .ifnull off => .inl (ze_l [] (zt_aifn (pc + 3) ((pc : Int) + off).toNat))
  | _ => ze_no
theorem zs_ifnull {Z : ze_Z} (hZ : ze_Zk Z) {T : zx_Tr zt_C} {O : List zx_W} {OT : List zt_Y} (HO : zt_ot O OT) {K0 : Nat} {md : List (Nat × Nat)} {rt : List Nat} {TX : List zx_X} {pool : zx_Tr zr_E} {ml : Nat} {rty : Option FieldType} {pc : Nat} : ze_sn Z T K0 md (zr_ifnull pc) (za_ifnull T O OT K0 md rt TX pool rty pc) := by
  intro i n g h
  unfold zr_ifnull at h
  split at h
  · replace h := zr_n_in h
    obtain ⟨e9, h⟩ := h
    subst e9
    obtain ⟨t, e1, rfl⟩ := zr_t_in h
    have e2 := congrArg Int.toNat e1
    rw [Int.toNat_natCast] at e2
    subst e2
    exact ze_lp zt_aifn_in
  · cases h
noncomputable def za_ifnonnull (T : zx_Tr zt_C) (O : List zx_W) (OT : List zt_Y) (K0 : Nat) (md : List (Nat × Nat)) (rt : List Nat) (TX : List zx_X) (pool : zx_Tr zr_E) (rty : Option FieldType) (pc : Nat) (i : Instr) (_ : Nat) : ze_O := match i with
  | .ifnonnull off => .inl (ze_l [] (zt_aifn ((pc : Int) + off).toNat (pc + 3)))
  | _ => ze_no
theorem zs_ifnonnull {Z : ze_Z} (hZ : ze_Zk Z) {T : zx_Tr zt_C} {O : List zx_W} {OT : List zt_Y} (HO : zt_ot O OT) {K0 : Nat} {md : List (Nat × Nat)} {rt : List Nat} {TX : List zx_X} {pool : zx_Tr zr_E} {ml : Nat} {rty : Option FieldType} {pc : Nat} : ze_sn Z T K0 md (zr_ifnonnull pc) (za_ifnonnull T O OT K0 md rt TX pool rty pc) := by
  intro i n g h
  unfold zr_ifnonnull at h
  split at h
  · replace h := zr_n_in h
    obtain ⟨e9, h⟩ := h
    subst e9
    obtain ⟨t, e1, rfl⟩ := zr_t_in h
    have e2 := congrArg Int.toNat e1
    rw [Int.toNat_natCast] at e2
    subst e2
    exact ze_lp zt_aifn_in
  · cases h
noncomputable def za_tsw (T : zx_Tr zt_C) (O : List zx_W) (OT : List zt_Y) (K0 : Nat) (md : List (Nat × Nat)) (rt : List Nat) (TX : List zx_X) (pool : zx_Tr zr_E) (rty : Option FieldType) (pc : Nat) (i : Instr) (_ : Nat) : ze_O := match i with
  | .tableswitch df lo hi offs => .inl (ze_l [] (zt_atsw lo hi (offs.toList.map (fun q => ((pc : Int) + q).toNat)) ((pc : Int) + df).toNat))
  | _ => ze_no
theorem zs_tsw {Z : ze_Z} (hZ : ze_Zk Z) {T : zx_Tr zt_C} {O : List zx_W} {OT : List zt_Y} (HO : zt_ot O OT) {K0 : Nat} {md : List (Nat × Nat)} {rt : List Nat} {TX : List zx_X} {pool : zx_Tr zr_E} {ml : Nat} {rty : Option FieldType} {pc : Nat} : ze_sn Z T K0 md (zr_tsw pc) (za_tsw T O OT K0 md rt TX pool rty pc) := by
  intro i n g h
  unfold zr_tsw at h
  split at h
  · obtain ⟨e, rfl⟩ := zr_b_in h
    exact ze_lp zt_atsw_in
  · cases h
noncomputable def za_lsw (T : zx_Tr zt_C) (O : List zx_W) (OT : List zt_Y) (K0 : Nat) (md : List (Nat × Nat)) (rt : List Nat) (TX : List zx_X) (pool : zx_Tr zr_E) (rty : Option FieldType) (pc : Nat) (i : Instr) (_ : Nat) : ze_O := match i with
  | .lookupswitch df ps => .inl (ze_l [] (zt_alsw ps.toList df pc))
  | _ => ze_no
theorem zs_lsw {Z : ze_Z} (hZ : ze_Zk Z) {T : zx_Tr zt_C} {O : List zx_W} {OT : List zt_Y} (HO : zt_ot O OT) {K0 : Nat} {md : List (Nat × Nat)} {rt : List Nat} {TX : List zx_X} {pool : zx_Tr zr_E} {ml : Nat} {rty : Option FieldType} {pc : Nat} : ze_sn Z T K0 md (zr_lsw pc) (za_lsw T O OT K0 md rt TX pool rty pc) := by
  intro i n g h
  unfold zr_lsw at h
  split at h
  · obtain ⟨e, rfl⟩ := zr_b_in h
    exact ze_lp zt_alsw_in
  · cases h
noncomputable def za_iaload (T : zx_Tr zt_C) (O : List zx_W) (OT : List zt_Y) (K0 : Nat) (md : List (Nat × Nat)) (rt : List Nat) (TX : List zx_X) (pool : zx_Tr zr_E) (rty : Option FieldType) (pc : Nat) (i : Instr) (_ : Nat) : ze_O := match i with
  | .iaload => .inl (ze_l [] (zt_ei (zt_aold O OT K0 0 (pc + 1)) (zt_aald T 0 (pc + 1))))
  | _ => ze_no
theorem zs_iaload {Z : ze_Z} (hZ : ze_Zk Z) {T : zx_Tr zt_C} {O : List zx_W} {OT : List zt_Y} (HO : zt_ot O OT) {K0 : Nat} {md : List (Nat × Nat)} {rt : List Nat} {TX : List zx_X} {pool : zx_Tr zr_E} {ml : Nat} {rty : Option FieldType} {pc : Nat} : ze_sn Z T K0 md (zr_iaload O K0 pc) (za_iaload T O OT K0 md rt TX pool rty pc) := by
  intro i n g h
  unfold zr_iaload at h
  split at h
  · replace h := zr_n_in h
    obtain ⟨e9, h⟩ := h
    subst e9
    cases h
    exact ze_l_in (fun _ hq => nomatch hq) (zt_ei_in (zt_aold_in HO) zt_aaldO_in)
  · cases h
noncomputable def za_laload (T : zx_Tr zt_C) (O : List zx_W) (OT : List zt_Y) (K0 : Nat) (md : List (Nat × Nat)) (rt : List Nat) (TX : List zx_X) (pool : zx_Tr zr_E) (rty : Option FieldType) (pc : Nat) (i : Instr) (_ : Nat) : ze_O := match i with
  | .laload => .inl (ze_l [] (zt_aald T 1 (pc + 1)))
  | _ => ze_no
theorem zs_laload {Z : ze_Z} (hZ : ze_Zk Z) {T : zx_Tr zt_C} {O : List zx_W} {OT : List zt_Y} (HO : zt_ot O OT) {K0 : Nat} {md : List (Nat × Nat)} {rt : List Nat} {TX : List zx_X} {pool : zx_Tr zr_E} {ml : Nat} {rty : Option FieldType} {pc : Nat} : ze_sn Z T K0 md (zr_laload pc) (za_laload T O OT K0 md rt TX pool rty pc) := by
  intro i n g h
  unfold zr_laload at h
  split at h
  · replace h := zr_n_in h
    obtain ⟨e9, h⟩ := h
    subst e9
    cases h
    exact ze_l_in (fun _ hq => nomatch hq) zt_aald_in
  · cases h
noncomputable def za_baload (T : zx_Tr zt_C) (O : List zx_W) (OT : List zt_Y) (K0 : Nat) (md : List (Nat × Nat)) (rt : List Nat) (TX : List zx_X) (pool : zx_Tr zr_E) (rty : Option FieldType) (pc : Nat) (i : Instr) (_ : Nat) : ze_O := match i with
  | .baload => .inl (ze_l [] (fun S => match S.2.2.1 with | _ :: a :: _ => (match Nat.blt a.2.2 K0 with | true => zt_aold O OT K0 2 (pc + 1) S | false => zt_ei (zt_aald T 2 (pc + 1)) (zt_aald T 3 (pc + 1)) S) | _ => none))
  | _ => ze_no
theorem zs_baload {Z : ze_Z} (hZ : ze_Zk Z) {T : zx_Tr zt_C} {O : List zx_W} {OT : List zt_Y} (HO : zt_ot O OT) {K0 : Nat} {md : List (Nat × Nat)} {rt : List Nat} {TX : List zx_X} {pool : zx_Tr zr_E} {ml : Nat} {rty : Option FieldType} {pc : Nat} : ze_sn Z T K0 md (zr_baload O K0 pc) (za_baload T O OT K0 md rt TX pool rty pc) := by
  intro i n g h
  unfold zr_baload at h
  split at h
  · replace h := zr_n_in h
    obtain ⟨e9, h⟩ := h
    subst e9
    cases h
    exact ze_l_in (fun _ hq => nomatch hq) (zt_abyK HO)
  · cases h
noncomputable def za_aaload (T : zx_Tr zt_C) (O : List zx_W) (OT : List zt_Y) (K0 : Nat) (md : List (Nat × Nat)) (rt : List Nat) (TX : List zx_X) (pool : zx_Tr zr_E) (rty : Option FieldType) (pc : Nat) (i : Instr) (_ : Nat) : ze_O := match i with
  | .aaload => .inl (ze_l [] (zt_aaa T (pc + 1) rt))
  | _ => ze_no
theorem zs_aaload {Z : ze_Z} (hZ : ze_Zk Z) {T : zx_Tr zt_C} {O : List zx_W} {OT : List zt_Y} (HO : zt_ot O OT) {K0 : Nat} {md : List (Nat × Nat)} {rt : List Nat} {TX : List zx_X} {pool : zx_Tr zr_E} {ml : Nat} {rty : Option FieldType} {pc : Nat} : ze_sn Z T K0 md (zr_aaload rt pc) (za_aaload T O OT K0 md rt TX pool rty pc) := by
  intro i n g h
  unfold zr_aaload at h
  split at h
  · replace h := zr_n_in h
    obtain ⟨e9, h⟩ := h
    subst e9
    cases h
    exact ze_l_in (fun _ hq => nomatch hq) zt_aaa_in
  · cases h
noncomputable def za_iastore (T : zx_Tr zt_C) (O : List zx_W) (OT : List zt_Y) (K0 : Nat) (md : List (Nat × Nat)) (rt : List Nat) (TX : List zx_X) (pool : zx_Tr zr_E) (rty : Option FieldType) (pc : Nat) (i : Instr) (_ : Nat) : ze_O := match i with
  | .iastore => .inl (ze_st md (fun j => zt_aast T [(j, 999999)] 0 0 (pc + 1)))
  | _ => ze_no
theorem zs_iastore {Z : ze_Z} (hZ : ze_Zk Z) {T : zx_Tr zt_C} {O : List zx_W} {OT : List zt_Y} (HO : zt_ot O OT) {K0 : Nat} {md : List (Nat × Nat)} {rt : List Nat} {TX : List zx_X} {pool : zx_Tr zr_E} {ml : Nat} {rty : Option FieldType} {pc : Nat} : ze_sn Z T K0 md (zr_iastore K0 pc) (za_iastore T O OT K0 md rt TX pool rty pc) := by
  intro i n g h
  unfold zr_iastore at h
  split at h
  · replace h := zr_n_in h
    obtain ⟨e9, h⟩ := h
    subst e9
    cases h
    exact ze_st_in hZ (fun j => zt_aast_st (fun y v => zt_cvI))
  · cases h
noncomputable def za_lastore (T : zx_Tr zt_C) (O : List zx_W) (OT : List zt_Y) (K0 : Nat) (md : List (Nat × Nat)) (rt : List Nat) (TX : List zx_X) (pool : zx_Tr zr_E) (rty : Option FieldType) (pc : Nat) (i : Instr) (_ : Nat) : ze_O := match i with
  | .lastore => .inl (ze_st md (fun j => zt_aast T [(j, 999999)] 1 1 (pc + 1)))
  | _ => ze_no
theorem zs_lastore {Z : ze_Z} (hZ : ze_Zk Z) {T : zx_Tr zt_C} {O : List zx_W} {OT : List zt_Y} (HO : zt_ot O OT) {K0 : Nat} {md : List (Nat × Nat)} {rt : List Nat} {TX : List zx_X} {pool : zx_Tr zr_E} {ml : Nat} {rty : Option FieldType} {pc : Nat} : ze_sn Z T K0 md (zr_lastore K0 pc) (za_lastore T O OT K0 md rt TX pool rty pc) := by
  intro i n g h
  unfold zr_lastore at h
  split at h
  · replace h := zr_n_in h
    obtain ⟨e9, h⟩ := h
    subst e9
    cases h
    exact ze_st_in hZ (fun j => zt_aast_st (fun y v => zt_cvJ))
  · cases h
noncomputable def za_bastore (T : zx_Tr zt_C) (O : List zx_W) (OT : List zt_Y) (K0 : Nat) (md : List (Nat × Nat)) (rt : List Nat) (TX : List zx_X) (pool : zx_Tr zr_E) (rty : Option FieldType) (pc : Nat) (i : Instr) (_ : Nat) : ze_O := match i with
  | .bastore => .inl (ze_st md (fun j => zt_ei (zt_aast T [(j, 999999)] 2 2 (pc + 1)) (zt_aast T [(j, 999999)] 3 3 (pc + 1))))
  | _ => ze_no
theorem zs_bastore {Z : ze_Z} (hZ : ze_Zk Z) {T : zx_Tr zt_C} {O : List zx_W} {OT : List zt_Y} (HO : zt_ot O OT) {K0 : Nat} {md : List (Nat × Nat)} {rt : List Nat} {TX : List zx_X} {pool : zx_Tr zr_E} {ml : Nat} {rty : Option FieldType} {pc : Nat} : ze_sn Z T K0 md (zr_bastore K0 pc) (za_bastore T O OT K0 md rt TX pool rty pc) := by
  intro i n g h
  unfold zr_bastore at h
  split at h
  · replace h := zr_n_in h
    obtain ⟨e9, h⟩ := h
    subst e9
    cases h
    exact ze_st_in hZ (fun j => zt_abast_st)
  · cases h
noncomputable def za_alen (T : zx_Tr zt_C) (O : List zx_W) (OT : List zt_Y) (K0 : Nat) (md : List (Nat × Nat)) (rt : List Nat) (TX : List zx_X) (pool : zx_Tr zr_E) (rty : Option FieldType) (pc : Nat) (i : Instr) (_ : Nat) : ze_O := match i with
  | .arraylength => .inl (ze_l [] (zt_aalen T O K0 (pc + 1)))
  | _ => ze_no
theorem zs_alen {Z : ze_Z} (hZ : ze_Zk Z) {T : zx_Tr zt_C} {O : List zx_W} {OT : List zt_Y} (HO : zt_ot O OT) {K0 : Nat} {md : List (Nat × Nat)} {rt : List Nat} {TX : List zx_X} {pool : zx_Tr zr_E} {ml : Nat} {rty : Option FieldType} {pc : Nat} : ze_sn Z T K0 md (zr_alen O K0 pc) (za_alen T O OT K0 md rt TX pool rty pc) := by
  intro i n g h
  unfold zr_alen at h
  split at h
  · replace h := zr_n_in h
    obtain ⟨e9, h⟩ := h
    subst e9
    cases h
    exact ze_l_in (fun _ hq => nomatch hq) zt_aalen_in
  · cases h
noncomputable def za_iret (T : zx_Tr zt_C) (O : List zx_W) (OT : List zt_Y) (K0 : Nat) (md : List (Nat × Nat)) (rt : List Nat) (TX : List zx_X) (pool : zx_Tr zr_E) (rty : Option FieldType) (pc : Nat) (i : Instr) (_ : Nat) : ze_O := match i with
  | .ireturn => .inr (.inr (ze_rz rty))
  | _ => ze_no
theorem zs_iret {Z : ze_Z} (hZ : ze_Zk Z) {T : zx_Tr zt_C} {O : List zx_W} {OT : List zt_Y} (HO : zt_ot O OT) {K0 : Nat} {md : List (Nat × Nat)} {rt : List Nat} {TX : List zx_X} {pool : zx_Tr zr_E} {ml : Nat} {rty : Option FieldType} {pc : Nat} : ze_sn Z T K0 md (zr_iret rty pc) (za_iret T O OT K0 md rt TX pool rty pc) := by
  intro i n g h
  unfold zr_iret at h
  split at h
  · replace h := zr_n_in h
    obtain ⟨e9, h⟩ := h
    subst e9
    split at h
    · cases h
      intro r S L st h2 hg hr
      obtain ⟨v, a, rfl, h3, h4, -⟩ := ze_r1_in (t := 0) hg hr
      obtain ⟨t, e, j⟩ := a
      obtain rfl : t = 0 := h4
      obtain ⟨x, rfl, -⟩ := h3
      exact ⟨some (.int x), rfl, fun _ _ _ => rfl⟩
    · next ty hty =>
      cases h
      intro r S L st h2 hg hr
      have key : ∀ lo hi : Int, ze_rn 0 lo hi S = true → (∀ x : Int32, lo ≤ x.toInt → x.toInt ≤ hi → narrow ty (.int x) = .int x) → ∃ v : Option Value, st = v.toList ∧ ∀ (rec : zx_C) (sl : Nat) (k : zx_K), zx_zret ty rec L st h2 sl k = some (v, h2, sl) := by
        intro lo hi h5 h6
        obtain ⟨x, rfl, h7, h8⟩ := ze_rn_in hg h5
        exact ⟨some (.int x), rfl, fun rec sl k => ze_zret (h6 x h7 h8) rec L h2 sl k⟩
      cases ty with
      | int => exact absurd rfl (hty)
      | boolean =>
        refine key 0 1 hr (fun x h1 h3 => ?_)
        rcases zt_01 h1 h3 with e | e <;> rw [e] <;> rfl
      | byte =>
        refine key (-128) 127 hr (fun x h1 h3 => ?_)
        show Value.int x.toInt8.toInt32 = .int x
        congr 1
        apply Int32.toInt_inj.mp
        rw [Int8.toInt_toInt32, Int32.toInt_toInt8, Int.bmod_def]
        split <;> omega
      | short =>
        refine key (-32768) 32767 hr (fun x h1 h3 => ?_)
        show Value.int x.toInt16.toInt32 = .int x
        congr 1
        apply Int32.toInt_inj.mp
        rw [Int16.toInt_toInt32, Int32.toInt_toInt16, Int.bmod_def]
        split <;> omega
      | char =>
        refine key 0 65535 hr (fun x h1 h3 => ?_)
        show Value.int (x.toUInt32 % 65536).toInt32 = .int x
        congr 1
        apply Int32.toInt_inj.mp
        have e : (x.toUInt32 % 65536).toInt32.toBitVec.toNat = x.toBitVec.toNat % 65536 := by
          show (x.toBitVec % 65536#32).toNat = _
          rw [BitVec.toNat_umod]
          rfl
        have h5 := zt_nat32 (x.toUInt32 % 65536).toInt32
        have h6 := zt_nat32 x
        have l2 := x.toBitVec.isLt
        rw [e] at h5
        rw [if_pos (by omega)] at h5
        rw [h5]
        split at h6 <;> omega
      | long => cases hr
      | float => cases hr
      | double => cases hr
      | object _ => cases hr
      | array _ => cases hr
    · cases h
  · cases h
noncomputable def za_lret (T : zx_Tr zt_C) (O : List zx_W) (OT : List zt_Y) (K0 : Nat) (md : List (Nat × Nat)) (rt : List Nat) (TX : List zx_X) (pool : zx_Tr zr_E) (rty : Option FieldType) (pc : Nat) (i : Instr) (_ : Nat) : ze_O := match i with
  | .lreturn => .inr (.inr (ze_r1 1))
  | _ => ze_no
theorem zs_lret {Z : ze_Z} (hZ : ze_Zk Z) {T : zx_Tr zt_C} {O : List zx_W} {OT : List zt_Y} (HO : zt_ot O OT) {K0 : Nat} {md : List (Nat × Nat)} {rt : List Nat} {TX : List zx_X} {pool : zx_Tr zr_E} {ml : Nat} {rty : Option FieldType} {pc : Nat} : ze_sn Z T K0 md (zr_lret rty pc) (za_lret T O OT K0 md rt TX pool rty pc) := by
  intro i n g h
  unfold zr_lret at h
  split at h
  · replace h := zr_n_in h
    obtain ⟨e9, h⟩ := h
    subst e9
    split at h
    · cases h
      intro r S L st h2 hg hr
      obtain ⟨v, a, rfl, h3, h4, -⟩ := ze_r1_in (t := 1) hg hr
      obtain ⟨t, e, j⟩ := a
      obtain rfl : t = 1 := h4
      obtain ⟨x, rfl, -⟩ := h3
      exact ⟨some (.long x), rfl, fun _ _ _ => rfl⟩
    · cases h
  · cases h
noncomputable def za_aret (T : zx_Tr zt_C) (O : List zx_W) (OT : List zt_Y) (K0 : Nat) (md : List (Nat × Nat)) (rt : List Nat) (TX : List zx_X) (pool : zx_Tr zr_E) (rty : Option FieldType) (pc : Nat) (i : Instr) (_ : Nat) : ze_O := match i with
  | .areturn => .inr (.inr ze_ra)
  | _ => ze_no
theorem zs_aret {Z : ze_Z} (hZ : ze_Zk Z) {T : zx_Tr zt_C} {O : List zx_W} {OT : List zt_Y} (HO : zt_ot O OT) {K0 : Nat} {md : List (Nat × Nat)} {rt : List Nat} {TX : List zx_X} {pool : zx_Tr zr_E} {ml : Nat} {rty : Option FieldType} {pc : Nat} : ze_sn Z T K0 md (zr_aret rty pc) (za_aret T O OT K0 md rt TX pool rty pc) := by
  intro i n g h
  unfold zr_aret at h
  split at h
  · replace h := zr_n_in h
    obtain ⟨e9, h⟩ := h
    subst e9
    split at h
    · cases h
      intro r S L st h2 hg hr
      unfold ze_ra at hr
      split at hr
      · next a e1 =>
        have hv := hg.2.2.1
        rw [e1] at hv
        obtain ⟨v, vs, rfl, h3, h4⟩ := zt_vs_cons hv
        obtain rfl := zt_vs_nil h4
        obtain ⟨t, e, j⟩ := a
        rcases Bool.or_eq_true_iff.mp hr with z | z
        · obtain rfl : t = 2 := Nat.eq_of_beq_eq_true z
          obtain rfl : v = .ref j := h3
          exact ⟨some (.ref j), rfl, fun _ _ _ => rfl⟩
        · obtain rfl : t = 3 := Nat.eq_of_beq_eq_true z
          obtain rfl : v = .null := h3
          exact ⟨some .null, rfl, fun _ _ _ => rfl⟩
      · cases hr
    · cases h
      intro r S L st h2 hg hr
      unfold ze_ra at hr
      split at hr
      · next a e1 =>
        have hv := hg.2.2.1
        rw [e1] at hv
        obtain ⟨v, vs, rfl, h3, h4⟩ := zt_vs_cons hv
        obtain rfl := zt_vs_nil h4
        obtain ⟨t, e, j⟩ := a
        rcases Bool.or_eq_true_iff.mp hr with z | z
        · obtain rfl : t = 2 := Nat.eq_of_beq_eq_true z
          obtain rfl : v = .ref j := h3
          exact ⟨some (.ref j), rfl, fun _ _ _ => rfl⟩
        · obtain rfl : t = 3 := Nat.eq_of_beq_eq_true z
          obtain rfl : v = .null := h3
          exact ⟨some .null, rfl, fun _ _ _ => rfl⟩
      · cases hr
    · cases h
  · cases h
noncomputable def za_vret (T : zx_Tr zt_C) (O : List zx_W) (OT : List zt_Y) (K0 : Nat) (md : List (Nat × Nat)) (rt : List Nat) (TX : List zx_X) (pool : zx_Tr zr_E) (rty : Option FieldType) (pc : Nat) (i : Instr) (_ : Nat) : ze_O := match i with
  | .return_ => .inr (.inr ze_rv)
  | _ => ze_no
theorem zs_vret {Z : ze_Z} (hZ : ze_Zk Z) {T : zx_Tr zt_C} {O : List zx_W} {OT : List zt_Y} (HO : zt_ot O OT) {K0 : Nat} {md : List (Nat × Nat)} {rt : List Nat} {TX : List zx_X} {pool : zx_Tr zr_E} {ml : Nat} {rty : Option FieldType} {pc : Nat} : ze_sn Z T K0 md (zr_vret rty pc) (za_vret T O OT K0 md rt TX pool rty pc) := by
  intro i n g h
  unfold zr_vret at h
  split at h
  · replace h := zr_n_in h
    obtain ⟨e9, h⟩ := h
    subst e9
    split at h
    · cases h
      intro r S L st h2 hg hr
      unfold ze_rv at hr
      split at hr
      · next e1 =>
        have hv := hg.2.2.1
        rw [e1] at hv
        obtain rfl := zt_vs_nil hv
        exact ⟨none, rfl, fun _ _ _ => rfl⟩
      · cases hr
    · cases h
  · cases h
noncomputable def za_ldc (T : zx_Tr zt_C) (O : List zx_W) (OT : List zt_Y) (K0 : Nat) (md : List (Nat × Nat)) (rt : List Nat) (TX : List zx_X) (pool : zx_Tr zr_E) (rty : Option FieldType) (pc : Nat) (i : Instr) (_ : Nat) : ze_O := match i with
  | .ldc x => (match zx_g10 pool x with | none => ze_no | some q => (match q.1 with | 0 => ze_ac q.2.2.2.2.1 (pc + 2) | 2 => .inl (ze_l [] (zt_aci (2, zt_k 0, q.2.1) (pc + 2))) | _ => ze_no))
  | _ => ze_no
theorem zs_ldc {Z : ze_Z} (hZ : ze_Zk Z) {T : zx_Tr zt_C} {O : List zx_W} {OT : List zt_Y} (HO : zt_ot O OT) {K0 : Nat} {md : List (Nat × Nat)} {rt : List Nat} {TX : List zx_X} {pool : zx_Tr zr_E} {ml : Nat} {rty : Option FieldType} {pc : Nat} : ze_sn Z T K0 md (zr_ldc pool pc) (za_ldc T O OT K0 md rt TX pool rty pc) := by
  intro i n g h
  unfold zr_ldc at h
  split at h
  · next x =>
    replace h := zr_n_in h
    obtain ⟨e9, h⟩ := h
    subst e9
    split at h
    · cases h
    · next q eq =>
      obtain ⟨q1, q2, q3, q4, q5, q6⟩ := q
      dsimp only at h
      show ze_osp Z T K0 md g (match zx_g10 pool x with | none => ze_no | some q => _)
      rw [eq]
      dsimp only
      split at h
      · cases h
        exact ze_ac_in
      · cases h
        exact ze_lp zt_atx
      · cases h
  · cases h
noncomputable def za_ldcw (T : zx_Tr zt_C) (O : List zx_W) (OT : List zt_Y) (K0 : Nat) (md : List (Nat × Nat)) (rt : List Nat) (TX : List zx_X) (pool : zx_Tr zr_E) (rty : Option FieldType) (pc : Nat) (i : Instr) (_ : Nat) : ze_O := match i with
  | .ldc_w x => (match zx_g10 pool x with | none => ze_no | some q => (match q.1 with | 0 => ze_ac q.2.2.2.2.1 (pc + 3) | 2 => .inl (ze_l [] (zt_aci (2, zt_k 0, q.2.1) (pc + 3))) | _ => ze_no))
  | _ => ze_no
theorem zs_ldcw {Z : ze_Z} (hZ : ze_Zk Z) {T : zx_Tr zt_C} {O : List zx_W} {OT : List zt_Y} (HO : zt_ot O OT) {K0 : Nat} {md : List (Nat × Nat)} {rt : List Nat} {TX : List zx_X} {pool : zx_Tr zr_E} {ml : Nat} {rty : Option FieldType} {pc : Nat} : ze_sn Z T K0 md (zr_ldcw pool pc) (za_ldcw T O OT K0 md rt TX pool rty pc) := by
  intro i n g h
  unfold zr_ldcw at h
  split at h
  · next x =>
    replace h := zr_n_in h
    obtain ⟨e9, h⟩ := h
    subst e9
    split at h
    · cases h
    · next q eq =>
      obtain ⟨q1, q2, q3, q4, q5, q6⟩ := q
      dsimp only at h
      show ze_osp Z T K0 md g (match zx_g10 pool x with | none => ze_no | some q => _)
      rw [eq]
      dsimp only
      split at h
      · cases h
        exact ze_ac_in
      · cases h
        exact ze_lp zt_atx
      · cases h
  · cases h
noncomputable def za_ldc2 (T : zx_Tr zt_C) (O : List zx_W) (OT : List zt_Y) (K0 : Nat) (md : List (Nat × Nat)) (rt : List Nat) (TX : List zx_X) (pool : zx_Tr zr_E) (rty : Option FieldType) (pc : Nat) (i : Instr) (_ : Nat) : ze_O := match i with
  | .ldc2_w x => (match zx_g10 pool x with | none => ze_no | some q => (match q.1 with | 1 => ze_ac q.2.2.2.2.1 (pc + 3) | _ => ze_no))
  | _ => ze_no
theorem zs_ldc2 {Z : ze_Z} (hZ : ze_Zk Z) {T : zx_Tr zt_C} {O : List zx_W} {OT : List zt_Y} (HO : zt_ot O OT) {K0 : Nat} {md : List (Nat × Nat)} {rt : List Nat} {TX : List zx_X} {pool : zx_Tr zr_E} {ml : Nat} {rty : Option FieldType} {pc : Nat} : ze_sn Z T K0 md (zr_ldc2 pool pc) (za_ldc2 T O OT K0 md rt TX pool rty pc) := by
  intro i n g h
  unfold zr_ldc2 at h
  split at h
  · next x =>
    replace h := zr_n_in h
    obtain ⟨e9, h⟩ := h
    subst e9
    split at h
    · cases h
    · next q eq =>
      obtain ⟨q1, q2, q3, q4, q5, q6⟩ := q
      dsimp only at h
      show ze_osp Z T K0 md g (match zx_g10 pool x with | none => ze_no | some q => _)
      rw [eq]
      dsimp only
      split at h
      · cases h
        exact ze_ac_in
      · cases h
  · cases h
noncomputable def za_getf (T : zx_Tr zt_C) (O : List zx_W) (OT : List zt_Y) (K0 : Nat) (md : List (Nat × Nat)) (rt : List Nat) (TX : List zx_X) (pool : zx_Tr zr_E) (rty : Option FieldType) (pc : Nat) (i : Instr) (_ : Nat) : ze_O := match i with
  | .getfield x => (match zx_g10 pool x with | none => ze_no | some q => (match q.1 with | 3 => .inl (ze_l [] (zt_agetf T q.2.1 q.2.2.1 (pc + 3))) | 4 => .inl (ze_l [] (zt_agetf T q.2.1 q.2.2.1 (pc + 3))) | 14 => .inl (ze_l [] (zt_agett TX zx_tv (pc + 3))) | 15 => .inl (ze_l [] (zt_agett TX zx_tc (pc + 3))) | _ => ze_no))
  | _ => ze_no
theorem zs_getf {Z : ze_Z} (hZ : ze_Zk Z) {T : zx_Tr zt_C} {O : List zx_W} {OT : List zt_Y} (HO : zt_ot O OT) {K0 : Nat} {md : List (Nat × Nat)} {rt : List Nat} {TX : List zx_X} {pool : zx_Tr zr_E} {ml : Nat} {rty : Option FieldType} {pc : Nat} : ze_sn Z T K0 md (zr_getf pool TX pc) (za_getf T O OT K0 md rt TX pool rty pc) := by
  intro i n g h
  unfold zr_getf at h
  split at h
  · next x =>
    replace h := zr_n_in h
    obtain ⟨e9, h⟩ := h
    subst e9
    split at h
    · cases h
    · next q eq =>
      obtain ⟨q1, q2, q3, q4, q5, q6⟩ := q
      dsimp only at h
      show ze_osp Z T K0 md g (match zx_g10 pool x with | none => ze_no | some q => _)
      rw [eq]
      dsimp only
      split at h
      · cases h
        exact ze_l_in (fun _ hq => nomatch hq) zt_agetf_in
      · cases h
        exact ze_l_in (fun _ hq => nomatch hq) zt_agetf_in
      · cases h
        exact ze_lp zt_agett_in
      · cases h
        exact ze_lp zt_agett_in
      · cases h
  · cases h
noncomputable def za_putf (T : zx_Tr zt_C) (O : List zx_W) (OT : List zt_Y) (K0 : Nat) (md : List (Nat × Nat)) (rt : List Nat) (TX : List zx_X) (pool : zx_Tr zr_E) (rty : Option FieldType) (pc : Nat) (i : Instr) (_ : Nat) : ze_O := match i with
  | .putfield x => (match zx_g10 pool x with | none => ze_no | some q => (match q.1 with | 3 => .inl (ze_putf T md q.2.1 q.2.2.1 q.2.2.2.2.2 (pc + 3)) | 4 => .inl (ze_putf T md q.2.1 q.2.2.1 q.2.2.2.2.2 (pc + 3)) | _ => ze_no))
  | _ => ze_no
theorem zs_putf {Z : ze_Z} (hZ : ze_Zk Z) {T : zx_Tr zt_C} {O : List zx_W} {OT : List zt_Y} (HO : zt_ot O OT) {K0 : Nat} {md : List (Nat × Nat)} {rt : List Nat} {TX : List zx_X} {pool : zx_Tr zr_E} {ml : Nat} {rty : Option FieldType} {pc : Nat} : ze_sn Z T K0 md (zr_putf pool K0 pc) (za_putf T O OT K0 md rt TX pool rty pc) := by
  intro i n g h
  unfold zr_putf at h
  split at h
  · next x =>
    replace h := zr_n_in h
    obtain ⟨e9, h⟩ := h
    subst e9
    split at h
    · cases h
    · next q eq =>
      obtain ⟨q1, q2, q3, q4, q5, q6⟩ := q
      dsimp only at h
      show ze_osp Z T K0 md g (match zx_g10 pool x with | none => ze_no | some q => _)
      rw [eq]
      dsimp only
      split at h
      · obtain ⟨e, rfl⟩ := zr_b_in h
        exact ze_putf_in
      · cases h
        exact ze_putf_in
      · cases h
  · cases h
noncomputable def za_gets (T : zx_Tr zt_C) (O : List zx_W) (OT : List zt_Y) (K0 : Nat) (md : List (Nat × Nat)) (rt : List Nat) (TX : List zx_X) (pool : zx_Tr zr_E) (rty : Option FieldType) (pc : Nat) (i : Instr) (_ : Nat) : ze_O := match i with
  | .getstatic x => (match zx_g10 pool x with | none => ze_no | some q => (match q.1 with | 5 => .inl (ze_l [] (zt_agets q.2.2.2.2.1 (pc + 3))) | 6 => .inl (ze_l [] (zt_agets q.2.2.2.2.1 (pc + 3))) | _ => ze_no))
  | _ => ze_no
theorem zs_gets {Z : ze_Z} (hZ : ze_Zk Z) {T : zx_Tr zt_C} {O : List zx_W} {OT : List zt_Y} (HO : zt_ot O OT) {K0 : Nat} {md : List (Nat × Nat)} {rt : List Nat} {TX : List zx_X} {pool : zx_Tr zr_E} {ml : Nat} {rty : Option FieldType} {pc : Nat} : ze_sn Z T K0 md (zr_gets pool pc) (za_gets T O OT K0 md rt TX pool rty pc) := by
  intro i n g h
  unfold zr_gets at h
  split at h
  · next x =>
    replace h := zr_n_in h
    obtain ⟨e9, h⟩ := h
    subst e9
    split at h
    · cases h
    · next q eq =>
      obtain ⟨q1, q2, q3, q4, q5, q6⟩ := q
      dsimp only at h
      show ze_osp Z T K0 md g (match zx_g10 pool x with | none => ze_no | some q => _)
      rw [eq]
      dsimp only
      split at h
      · cases h
        exact ze_lp zt_agets_in
      · cases h
        exact ze_lp zt_agets_in
      · cases h
  · cases h
noncomputable def za_invs (T : zx_Tr zt_C) (O : List zx_W) (OT : List zt_Y) (K0 : Nat) (md : List (Nat × Nat)) (rt : List Nat) (TX : List zx_X) (pool : zx_Tr zr_E) (rty : Option FieldType) (pc : Nat) (i : Instr) (_ : Nat) : ze_O := match i with
  | .invokestatic x => (match zx_g10 pool x with | none => ze_no | some q => (match q.1 with | 7 => .inr (.inl (q.2.1, q.2.2.1, ze_c0, pc + 3)) | 8 => .inr (.inl (q.2.1, q.2.2.1, ze_c0, pc + 3)) | 12 => .inl (ze_l [] (zt_amm true (pc + 3))) | 13 => .inl (ze_l [] (zt_amm false (pc + 3))) | _ => ze_no))
  | _ => ze_no
theorem zs_invs {Z : ze_Z} (hZ : ze_Zk Z) {T : zx_Tr zt_C} {O : List zx_W} {OT : List zt_Y} (HO : zt_ot O OT) {K0 : Nat} {md : List (Nat × Nat)} {rt : List Nat} {TX : List zx_X} {pool : zx_Tr zr_E} {ml : Nat} {rty : Option FieldType} {pc : Nat} : ze_sn Z T K0 md (zr_invs pool pc) (za_invs T O OT K0 md rt TX pool rty pc) := by
  intro i n g h
  unfold zr_invs at h
  split at h
  · next x =>
    replace h := zr_n_in h
    obtain ⟨e9, h⟩ := h
    subst e9
    split at h
    · cases h
    · next q eq =>
      obtain ⟨q1, q2, q3, q4, q5, q6⟩ := q
      dsimp only at h
      show ze_osp Z T K0 md g (match zx_g10 pool x with | none => ze_no | some q => _)
      rw [eq]
      dsimp only
      split at h
      · cases h
        exact ⟨zx_ok0, rfl, fun _ _ _ _ _ _ _ => rfl⟩
      · cases h
        exact ⟨zx_ok0, rfl, fun _ _ _ _ _ _ _ => rfl⟩
      · cases h
        exact ze_lp zt_amax_in
      · cases h
        exact ze_lp zt_amin_in
      · cases h
  · cases h
noncomputable def za_invv (T : zx_Tr zt_C) (O : List zx_W) (OT : List zt_Y) (K0 : Nat) (md : List (Nat × Nat)) (rt : List Nat) (TX : List zx_X) (pool : zx_Tr zr_E) (rty : Option FieldType) (pc : Nat) (i : Instr) (_ : Nat) : ze_O := match i with
  | .invokevirtual x => (match zx_g10 pool x with | none => ze_no | some q => (match q.1 with | 9 => .inr (.inl (q.2.1, q.2.2.1 + 1, ze_cV T q.2.2.2.1, pc + 3)) | 10 => .inr (.inl (q.2.1, q.2.2.1 + 1, ze_cV T q.2.2.2.1, pc + 3)) | 11 => .inr (.inl (q.2.1, q.2.2.1 + 1, ze_cT TX, pc + 3)) | _ => ze_no))
  | _ => ze_no
theorem zs_invv {Z : ze_Z} (hZ : ze_Zk Z) {T : zx_Tr zt_C} {O : List zx_W} {OT : List zt_Y} (HO : zt_ot O OT) {K0 : Nat} {md : List (Nat × Nat)} {rt : List Nat} {TX : List zx_X} {pool : zx_Tr zr_E} {ml : Nat} {rty : Option FieldType} {pc : Nat} : ze_sn Z T K0 md (zr_invv pool TX pc) (za_invv T O OT K0 md rt TX pool rty pc) := by
  intro i n g h
  unfold zr_invv at h
  split at h
  · next x =>
    replace h := zr_n_in h
    obtain ⟨e9, h⟩ := h
    subst e9
    split at h
    · cases h
    · next q eq =>
      obtain ⟨q1, q2, q3, q4, q5, q6⟩ := q
      dsimp only at h
      show ze_osp Z T K0 md g (match zx_g10 pool x with | none => ze_no | some q => _)
      rw [eq]
      dsimp only
      split at h
      · cases h
        exact ⟨zx_okV q4, rfl, fun _ _ _ _ hk hv hc => ze_cV_in hk hv hc⟩
      · cases h
        exact ⟨zx_okV q4, rfl, fun _ _ _ _ hk hv hc => ze_cV_in hk hv hc⟩
      · cases h
        exact ⟨zx_okT TX, rfl, fun _ _ _ _ _ hv hc => ze_cT_in hv hc⟩
      · cases h
  · cases h
noncomputable def zs_rows (T : zx_Tr zt_C) (O : List zx_W) (OT : List zt_Y) (K0 : Nat) (md : List (Nat × Nat)) (rt : List Nat) (TX : List zx_X) (pool : zx_Tr zr_E) (ml : Nat) (rty : Option FieldType) (pc : Nat) : List (zr_R × (Instr → Nat → ze_O)) := [(zr_aload_n pc, za_aload_n T O OT K0 md rt TX pool rty pc), (zr_iload_n pc, za_iload_n T O OT K0 md rt TX pool rty pc), (zr_iconst pc, za_iconst T O OT K0 md rt TX pool rty pc), (zr_invv pool TX pc, za_invv T O OT K0 md rt TX pool rty pc), (zr_iload pc, za_iload T O OT K0 md rt TX pool rty pc), (zr_bipush pc, za_bipush T O OT K0 md rt TX pool rty pc), (zr_getf pool TX pc, za_getf T O OT K0 md rt TX pool rty pc), (zr_iret rty pc, za_iret T O OT K0 md rt TX pool rty pc), (zr_sipush pc, za_sipush T O OT K0 md rt TX pool rty pc), (zr_lconst pc, za_lconst T O OT K0 md rt TX pool rty pc), (zr_null pc, za_null T O OT K0 md rt TX pool rty pc), (zr_istore ml pc, za_istore T O OT K0 md rt TX pool rty pc), (zr_istore_n ml pc, za_istore_n T O OT K0 md rt TX pool rty pc), (zr_lload pc, za_lload T O OT K0 md rt TX pool rty pc), (zr_lload_n pc, za_lload_n T O OT K0 md rt TX pool rty pc), (zr_lstore ml pc, za_lstore T O OT K0 md rt TX pool rty pc), (zr_lstore_n ml pc, za_lstore_n T O OT K0 md rt TX pool rty pc), (zr_aload pc, za_aload T O OT K0 md rt TX pool rty pc), (zr_astore ml pc, za_astore T O OT K0 md rt TX pool rty pc), (zr_astore_n ml pc, za_astore_n T O OT K0 md rt TX pool rty pc), (zr_iinc ml pc, za_iinc T O OT K0 md rt TX pool rty pc), (zr_iadd pc, za_iadd T O OT K0 md rt TX pool rty pc), (zr_isub pc, za_isub T O OT K0 md rt TX pool rty pc), (zr_iand pc, za_iand T O OT K0 md rt TX pool rty pc), (zr_ishr pc, za_ishr T O OT K0 md rt TX pool rty pc), (zr_iushr pc, za_iushr T O OT K0 md rt TX pool rty pc), (zr_idiv pc, za_idiv T O OT K0 md rt TX pool rty pc), (zr_irem pc, za_irem T O OT K0 md rt TX pool rty pc), (zr_imul pc, za_imul T O OT K0 md rt TX pool rty pc), (zr_ior pc, za_ior T O OT K0 md rt TX pool rty pc), (zr_ixor pc, za_ixor T O OT K0 md rt TX pool rty pc), (zr_ishl pc, za_ishl T O OT K0 md rt TX pool rty pc), (zr_ladd pc, za_ladd T O OT K0 md rt TX pool rty pc), (zr_lsub pc, za_lsub T O OT K0 md rt TX pool rty pc), (zr_lmul pc, za_lmul T O OT K0 md rt TX pool rty pc), (zr_land pc, za_land T O OT K0 md rt TX pool rty pc), (zr_lor pc, za_lor T O OT K0 md rt TX pool rty pc), (zr_lshl pc, za_lshl T O OT K0 md rt TX pool rty pc), (zr_lshr pc, za_lshr T O OT K0 md rt TX pool rty pc), (zr_lushr pc, za_lushr T O OT K0 md rt TX pool rty pc), (zr_ldiv pc, za_ldiv T O OT K0 md rt TX pool rty pc), (zr_lrem pc, za_lrem T O OT K0 md rt TX pool rty pc), (zr_ineg pc, za_ineg T O OT K0 md rt TX pool rty pc), (zr_i2b pc, za_i2b T O OT K0 md rt TX pool rty pc), (zr_i2s pc, za_i2s T O OT K0 md rt TX pool rty pc), (zr_i2c pc, za_i2c T O OT K0 md rt TX pool rty pc), (zr_lneg pc, za_lneg T O OT K0 md rt TX pool rty pc), (zr_i2l pc, za_i2l T O OT K0 md rt TX pool rty pc), (zr_l2i pc, za_l2i T O OT K0 md rt TX pool rty pc), (zr_lcmp pc, za_lcmp T O OT K0 md rt TX pool rty pc), (zr_dup pc, za_dup T O OT K0 md rt TX pool rty pc), (zr_pop pc, za_pop T O OT K0 md rt TX pool rty pc), (zr_dup2 pc, za_dup2 T O OT K0 md rt TX pool rty pc), (zr_ifeq pc, za_ifeq T O OT K0 md rt TX pool rty pc), (zr_iceq pc, za_iceq T O OT K0 md rt TX pool rty pc), (zr_ifne pc, za_ifne T O OT K0 md rt TX pool rty pc), (zr_icne pc, za_icne T O OT K0 md rt TX pool rty pc), (zr_iflt pc, za_iflt T O OT K0 md rt TX pool rty pc), (zr_iclt pc, za_iclt T O OT K0 md rt TX pool rty pc), (zr_ifge pc, za_ifge T O OT K0 md rt TX pool rty pc), (zr_icge pc, za_icge T O OT K0 md rt TX pool rty pc), (zr_ifgt pc, za_ifgt T O OT K0 md rt TX pool rty pc), (zr_icgt pc, za_icgt T O OT K0 md rt TX pool rty pc), (zr_ifle pc, za_ifle T O OT K0 md rt TX pool rty pc), (zr_icle pc, za_icle T O OT K0 md rt TX pool rty pc), (zr_goto pc, za_goto T O OT K0 md rt TX pool rty pc), (zr_ifnull pc, za_ifnull T O OT K0 md rt TX pool rty pc), (zr_ifnonnull pc, za_ifnonnull T O OT K0 md rt TX pool rty pc), (zr_tsw pc, za_tsw T O OT K0 md rt TX pool rty pc), (zr_lsw pc, za_lsw T O OT K0 md rt TX pool rty pc), (zr_iaload O K0 pc, za_iaload T O OT K0 md rt TX pool rty pc), (zr_laload pc, za_laload T O OT K0 md rt TX pool rty pc), (zr_baload O K0 pc, za_baload T O OT K0 md rt TX pool rty pc), (zr_aaload rt pc, za_aaload T O OT K0 md rt TX pool rty pc), (zr_iastore K0 pc, za_iastore T O OT K0 md rt TX pool rty pc), (zr_lastore K0 pc, za_lastore T O OT K0 md rt TX pool rty pc), (zr_bastore K0 pc, za_bastore T O OT K0 md rt TX pool rty pc), (zr_alen O K0 pc, za_alen T O OT K0 md rt TX pool rty pc), (zr_lret rty pc, za_lret T O OT K0 md rt TX pool rty pc), (zr_aret rty pc, za_aret T O OT K0 md rt TX pool rty pc), (zr_vret rty pc, za_vret T O OT K0 md rt TX pool rty pc), (zr_ldc pool pc, za_ldc T O OT K0 md rt TX pool rty pc), (zr_ldcw pool pc, za_ldcw T O OT K0 md rt TX pool rty pc), (zr_ldc2 pool pc, za_ldc2 T O OT K0 md rt TX pool rty pc), (zr_putf pool K0 pc, za_putf T O OT K0 md rt TX pool rty pc), (zr_gets pool pc, za_gets T O OT K0 md rt TX pool rty pc), (zr_invs pool pc, za_invs T O OT K0 md rt TX pool rty pc)]
theorem zs_rows_1 {T : zx_Tr zt_C} {O : List zx_W} {OT : List zt_Y} {K0 : Nat} {md : List (Nat × Nat)} {rt : List Nat} {TX : List zx_X} {pool : zx_Tr zr_E} {ml : Nat} {rty : Option FieldType} {pc : Nat} : (zs_rows T O OT K0 md rt TX pool ml rty pc).map Prod.fst = zr_rows O K0 rt TX pool ml rty pc := rfl
theorem zs_rows_s {Z : ze_Z} (hZ : ze_Zk Z) {T : zx_Tr zt_C} {O : List zx_W} {OT : List zt_Y} (HO : zt_ot O OT) {K0 : Nat} {md : List (Nat × Nat)} {rt : List Nat} {TX : List zx_X} {pool : zx_Tr zr_E} {ml : Nat} {rty : Option FieldType} {pc : Nat} : ∀ q ∈ zs_rows T O OT K0 md rt TX pool ml rty pc, ze_sn Z T K0 md q.1 q.2 := List.forall_mem_cons.mpr ⟨zs_aload_n (rt := rt) (TX := TX) (pool := pool) (ml := ml) (rty := rty) (pc := pc) hZ HO, List.forall_mem_cons.mpr ⟨zs_iload_n (rt := rt) (TX := TX) (pool := pool) (ml := ml) (rty := rty) (pc := pc) hZ HO, List.forall_mem_cons.mpr ⟨zs_iconst (rt := rt) (TX := TX) (pool := pool) (ml := ml) (rty := rty) (pc := pc) hZ HO, List.forall_mem_cons.mpr ⟨zs_invv (rt := rt) (TX := TX) (pool := pool) (ml := ml) (rty := rty) (pc := pc) hZ HO, List.forall_mem_cons.mpr ⟨zs_iload (rt := rt) (TX := TX) (pool := pool) (ml := ml) (rty := rty) (pc := pc) hZ HO, List.forall_mem_cons.mpr ⟨zs_bipush (rt := rt) (TX := TX) (pool := pool) (ml := ml) (rty := rty) (pc := pc) hZ HO, List.forall_mem_cons.mpr ⟨zs_getf (rt := rt) (TX := TX) (pool := pool) (ml := ml) (rty := rty) (pc := pc) hZ HO, List.forall_mem_cons.mpr ⟨zs_iret (rt := rt) (TX := TX) (pool := pool) (ml := ml) (rty := rty) (pc := pc) hZ HO, List.forall_mem_cons.mpr ⟨zs_sipush (rt := rt) (TX := TX) (pool := pool) (ml := ml) (rty := rty) (pc := pc) hZ HO, List.forall_mem_cons.mpr ⟨zs_lconst (rt := rt) (TX := TX) (pool := pool) (ml := ml) (rty := rty) (pc := pc) hZ HO, List.forall_mem_cons.mpr ⟨zs_null (rt := rt) (TX := TX) (pool := pool) (ml := ml) (rty := rty) (pc := pc) hZ HO, List.forall_mem_cons.mpr ⟨zs_istore (rt := rt) (TX := TX) (pool := pool) (ml := ml) (rty := rty) (pc := pc) hZ HO, List.forall_mem_cons.mpr ⟨zs_istore_n (rt := rt) (TX := TX) (pool := pool) (ml := ml) (rty := rty) (pc := pc) hZ HO, List.forall_mem_cons.mpr ⟨zs_lload (rt := rt) (TX := TX) (pool := pool) (ml := ml) (rty := rty) (pc := pc) hZ HO, List.forall_mem_cons.mpr ⟨zs_lload_n (rt := rt) (TX := TX) (pool := pool) (ml := ml) (rty := rty) (pc := pc) hZ HO, List.forall_mem_cons.mpr ⟨zs_lstore (rt := rt) (TX := TX) (pool := pool) (ml := ml) (rty := rty) (pc := pc) hZ HO, List.forall_mem_cons.mpr ⟨zs_lstore_n (rt := rt) (TX := TX) (pool := pool) (ml := ml) (rty := rty) (pc := pc) hZ HO, List.forall_mem_cons.mpr ⟨zs_aload (rt := rt) (TX := TX) (pool := pool) (ml := ml) (rty := rty) (pc := pc) hZ HO, List.forall_mem_cons.mpr ⟨zs_astore (rt := rt) (TX := TX) (pool := pool) (ml := ml) (rty := rty) (pc := pc) hZ HO, List.forall_mem_cons.mpr ⟨zs_astore_n (rt := rt) (TX := TX) (pool := pool) (ml := ml) (rty := rty) (pc := pc) hZ HO, List.forall_mem_cons.mpr ⟨zs_iinc (rt := rt) (TX := TX) (pool := pool) (ml := ml) (rty := rty) (pc := pc) hZ HO, List.forall_mem_cons.mpr ⟨zs_iadd (rt := rt) (TX := TX) (pool := pool) (ml := ml) (rty := rty) (pc := pc) hZ HO, List.forall_mem_cons.mpr ⟨zs_isub (rt := rt) (TX := TX) (pool := pool) (ml := ml) (rty := rty) (pc := pc) hZ HO, List.forall_mem_cons.mpr ⟨zs_iand (rt := rt) (TX := TX) (pool := pool) (ml := ml) (rty := rty) (pc := pc) hZ HO, List.forall_mem_cons.mpr ⟨zs_ishr (rt := rt) (TX := TX) (pool := pool) (ml := ml) (rty := rty) (pc := pc) hZ HO, List.forall_mem_cons.mpr ⟨zs_iushr (rt := rt) (TX := TX) (pool := pool) (ml := ml) (rty := rty) (pc := pc) hZ HO, List.forall_mem_cons.mpr ⟨zs_idiv (rt := rt) (TX := TX) (pool := pool) (ml := ml) (rty := rty) (pc := pc) hZ HO, List.forall_mem_cons.mpr ⟨zs_irem (rt := rt) (TX := TX) (pool := pool) (ml := ml) (rty := rty) (pc := pc) hZ HO, List.forall_mem_cons.mpr ⟨zs_imul (rt := rt) (TX := TX) (pool := pool) (ml := ml) (rty := rty) (pc := pc) hZ HO, List.forall_mem_cons.mpr ⟨zs_ior (rt := rt) (TX := TX) (pool := pool) (ml := ml) (rty := rty) (pc := pc) hZ HO, List.forall_mem_cons.mpr ⟨zs_ixor (rt := rt) (TX := TX) (pool := pool) (ml := ml) (rty := rty) (pc := pc) hZ HO, List.forall_mem_cons.mpr ⟨zs_ishl (rt := rt) (TX := TX) (pool := pool) (ml := ml) (rty := rty) (pc := pc) hZ HO, List.forall_mem_cons.mpr ⟨zs_ladd (rt := rt) (TX := TX) (pool := pool) (ml := ml) (rty := rty) (pc := pc) hZ HO, List.forall_mem_cons.mpr ⟨zs_lsub (rt := rt) (TX := TX) (pool := pool) (ml := ml) (rty := rty) (pc := pc) hZ HO, List.forall_mem_cons.mpr ⟨zs_lmul (rt := rt) (TX := TX) (pool := pool) (ml := ml) (rty := rty) (pc := pc) hZ HO, List.forall_mem_cons.mpr ⟨zs_land (rt := rt) (TX := TX) (pool := pool) (ml := ml) (rty := rty) (pc := pc) hZ HO, List.forall_mem_cons.mpr ⟨zs_lor (rt := rt) (TX := TX) (pool := pool) (ml := ml) (rty := rty) (pc := pc) hZ HO, List.forall_mem_cons.mpr ⟨zs_lshl (rt := rt) (TX := TX) (pool := pool) (ml := ml) (rty := rty) (pc := pc) hZ HO, List.forall_mem_cons.mpr ⟨zs_lshr (rt := rt) (TX := TX) (pool := pool) (ml := ml) (rty := rty) (pc := pc) hZ HO, List.forall_mem_cons.mpr ⟨zs_lushr (rt := rt) (TX := TX) (pool := pool) (ml := ml) (rty := rty) (pc := pc) hZ HO, List.forall_mem_cons.mpr ⟨zs_ldiv (rt := rt) (TX := TX) (pool := pool) (ml := ml) (rty := rty) (pc := pc) hZ HO, List.forall_mem_cons.mpr ⟨zs_lrem (rt := rt) (TX := TX) (pool := pool) (ml := ml) (rty := rty) (pc := pc) hZ HO, List.forall_mem_cons.mpr ⟨zs_ineg (rt := rt) (TX := TX) (pool := pool) (ml := ml) (rty := rty) (pc := pc) hZ HO, List.forall_mem_cons.mpr ⟨zs_i2b (rt := rt) (TX := TX) (pool := pool) (ml := ml) (rty := rty) (pc := pc) hZ HO, List.forall_mem_cons.mpr ⟨zs_i2s (rt := rt) (TX := TX) (pool := pool) (ml := ml) (rty := rty) (pc := pc) hZ HO, List.forall_mem_cons.mpr ⟨zs_i2c (rt := rt) (TX := TX) (pool := pool) (ml := ml) (rty := rty) (pc := pc) hZ HO, List.forall_mem_cons.mpr ⟨zs_lneg (rt := rt) (TX := TX) (pool := pool) (ml := ml) (rty := rty) (pc := pc) hZ HO, List.forall_mem_cons.mpr ⟨zs_i2l (rt := rt) (TX := TX) (pool := pool) (ml := ml) (rty := rty) (pc := pc) hZ HO, List.forall_mem_cons.mpr ⟨zs_l2i (rt := rt) (TX := TX) (pool := pool) (ml := ml) (rty := rty) (pc := pc) hZ HO, List.forall_mem_cons.mpr ⟨zs_lcmp (rt := rt) (TX := TX) (pool := pool) (ml := ml) (rty := rty) (pc := pc) hZ HO, List.forall_mem_cons.mpr ⟨zs_dup (rt := rt) (TX := TX) (pool := pool) (ml := ml) (rty := rty) (pc := pc) hZ HO, List.forall_mem_cons.mpr ⟨zs_pop (rt := rt) (TX := TX) (pool := pool) (ml := ml) (rty := rty) (pc := pc) hZ HO, List.forall_mem_cons.mpr ⟨zs_dup2 (rt := rt) (TX := TX) (pool := pool) (ml := ml) (rty := rty) (pc := pc) hZ HO, List.forall_mem_cons.mpr ⟨zs_ifeq (rt := rt) (TX := TX) (pool := pool) (ml := ml) (rty := rty) (pc := pc) hZ HO, List.forall_mem_cons.mpr ⟨zs_iceq (rt := rt) (TX := TX) (pool := pool) (ml := ml) (rty := rty) (pc := pc) hZ HO, List.forall_mem_cons.mpr ⟨zs_ifne (rt := rt) (TX := TX) (pool := pool) (ml := ml) (rty := rty) (pc := pc) hZ HO, List.forall_mem_cons.mpr ⟨zs_icne (rt := rt) (TX := TX) (pool := pool) (ml := ml) (rty := rty) (pc := pc) hZ HO, List.forall_mem_cons.mpr ⟨zs_iflt (rt := rt) (TX := TX) (pool := pool) (ml := ml) (rty := rty) (pc := pc) hZ HO, List.forall_mem_cons.mpr ⟨zs_iclt (rt := rt) (TX := TX) (pool := pool) (ml := ml) (rty := rty) (pc := pc) hZ HO, List.forall_mem_cons.mpr ⟨zs_ifge (rt := rt) (TX := TX) (pool := pool) (ml := ml) (rty := rty) (pc := pc) hZ HO, List.forall_mem_cons.mpr ⟨zs_icge (rt := rt) (TX := TX) (pool := pool) (ml := ml) (rty := rty) (pc := pc) hZ HO, List.forall_mem_cons.mpr ⟨zs_ifgt (rt := rt) (TX := TX) (pool := pool) (ml := ml) (rty := rty) (pc := pc) hZ HO, List.forall_mem_cons.mpr ⟨zs_icgt (rt := rt) (TX := TX) (pool := pool) (ml := ml) (rty := rty) (pc := pc) hZ HO, List.forall_mem_cons.mpr ⟨zs_ifle (rt := rt) (TX := TX) (pool := pool) (ml := ml) (rty := rty) (pc := pc) hZ HO, List.forall_mem_cons.mpr ⟨zs_icle (rt := rt) (TX := TX) (pool := pool) (ml := ml) (rty := rty) (pc := pc) hZ HO, List.forall_mem_cons.mpr ⟨zs_goto (rt := rt) (TX := TX) (pool := pool) (ml := ml) (rty := rty) (pc := pc) hZ HO, List.forall_mem_cons.mpr ⟨zs_ifnull (rt := rt) (TX := TX) (pool := pool) (ml := ml) (rty := rty) (pc := pc) hZ HO, List.forall_mem_cons.mpr ⟨zs_ifnonnull (rt := rt) (TX := TX) (pool := pool) (ml := ml) (rty := rty) (pc := pc) hZ HO, List.forall_mem_cons.mpr ⟨zs_tsw (rt := rt) (TX := TX) (pool := pool) (ml := ml) (rty := rty) (pc := pc) hZ HO, List.forall_mem_cons.mpr ⟨zs_lsw (rt := rt) (TX := TX) (pool := pool) (ml := ml) (rty := rty) (pc := pc) hZ HO, List.forall_mem_cons.mpr ⟨zs_iaload (rt := rt) (TX := TX) (pool := pool) (ml := ml) (rty := rty) (pc := pc) hZ HO, List.forall_mem_cons.mpr ⟨zs_laload (rt := rt) (TX := TX) (pool := pool) (ml := ml) (rty := rty) (pc := pc) hZ HO, List.forall_mem_cons.mpr ⟨zs_baload (rt := rt) (TX := TX) (pool := pool) (ml := ml) (rty := rty) (pc := pc) hZ HO, List.forall_mem_cons.mpr ⟨zs_aaload (rt := rt) (TX := TX) (pool := pool) (ml := ml) (rty := rty) (pc := pc) hZ HO, List.forall_mem_cons.mpr ⟨zs_iastore (rt := rt) (TX := TX) (pool := pool) (ml := ml) (rty := rty) (pc := pc) hZ HO, List.forall_mem_cons.mpr ⟨zs_lastore (rt := rt) (TX := TX) (pool := pool) (ml := ml) (rty := rty) (pc := pc) hZ HO, List.forall_mem_cons.mpr ⟨zs_bastore (rt := rt) (TX := TX) (pool := pool) (ml := ml) (rty := rty) (pc := pc) hZ HO, List.forall_mem_cons.mpr ⟨zs_alen (rt := rt) (TX := TX) (pool := pool) (ml := ml) (rty := rty) (pc := pc) hZ HO, List.forall_mem_cons.mpr ⟨zs_lret (rt := rt) (TX := TX) (pool := pool) (ml := ml) (rty := rty) (pc := pc) hZ HO, List.forall_mem_cons.mpr ⟨zs_aret (rt := rt) (TX := TX) (pool := pool) (ml := ml) (rty := rty) (pc := pc) hZ HO, List.forall_mem_cons.mpr ⟨zs_vret (rt := rt) (TX := TX) (pool := pool) (ml := ml) (rty := rty) (pc := pc) hZ HO, List.forall_mem_cons.mpr ⟨zs_ldc (rt := rt) (TX := TX) (pool := pool) (ml := ml) (rty := rty) (pc := pc) hZ HO, List.forall_mem_cons.mpr ⟨zs_ldcw (rt := rt) (TX := TX) (pool := pool) (ml := ml) (rty := rty) (pc := pc) hZ HO, List.forall_mem_cons.mpr ⟨zs_ldc2 (rt := rt) (TX := TX) (pool := pool) (ml := ml) (rty := rty) (pc := pc) hZ HO, List.forall_mem_cons.mpr ⟨zs_putf (rt := rt) (TX := TX) (pool := pool) (ml := ml) (rty := rty) (pc := pc) hZ HO, List.forall_mem_cons.mpr ⟨zs_gets (rt := rt) (TX := TX) (pool := pool) (ml := ml) (rty := rty) (pc := pc) hZ HO, List.forall_mem_cons.mpr ⟨zs_invs (rt := rt) (TX := TX) (pool := pool) (ml := ml) (rty := rty) (pc := pc) hZ HO, fun _ h => absurd h List.not_mem_nil⟩⟩⟩⟩⟩⟩⟩⟩⟩⟩⟩⟩⟩⟩⟩⟩⟩⟩⟩⟩⟩⟩⟩⟩⟩⟩⟩⟩⟩⟩⟩⟩⟩⟩⟩⟩⟩⟩⟩⟩⟩⟩⟩⟩⟩⟩⟩⟩⟩⟩⟩⟩⟩⟩⟩⟩⟩⟩⟩⟩⟩⟩⟩⟩⟩⟩⟩⟩⟩⟩⟩⟩⟩⟩⟩⟩⟩⟩⟩⟩⟩⟩⟩⟩⟩⟩⟩
noncomputable def zs_try : List (zr_R × (Instr → Nat → ze_O)) → Instr → Nat → Option (zx_F × ze_O)
  | [], _, _ => none
  | q :: l, i, n => match q.1 i n with
    | some g => some (g, q.2 i n)
    | none => zs_try l i n
theorem zs_try_1 : ∀ {l : List (zr_R × (Instr → Nat → ze_O))} {i : Instr} {n : Nat} {x : zx_F × ze_O}, zs_try l i n = some x → zr_try (l.map Prod.fst) i n = some x.1
  | [], _, _, _, h => nomatch h
  | q :: l, i, n, x, h => by
    have h9 : (match q.1 i n with | some g => some (g, q.2 i n) | none => zs_try l i n) = some x := h
    show (match q.1 i n with | some g => some g | none => zr_try (l.map Prod.fst) i n) = some x.1
    split at h9
    · next g e =>
      cases h9
      rfl
    · next e => exact zs_try_1 h9
theorem zs_try_2 {Z : ze_Z} {T : zx_Tr zt_C} {K0 : Nat} {md : List (Nat × Nat)} : ∀ {l : List (zr_R × (Instr → Nat → ze_O))} {i : Instr} {n : Nat} {x : zx_F × ze_O}, (∀ q ∈ l, ze_sn Z T K0 md q.1 q.2) → zs_try l i n = some x → ze_osp Z T K0 md x.1 x.2
  | [], _, _, _, _, h => nomatch h
  | q :: l, i, n, x, hl, h => by
    have h9 : (match q.1 i n with | some g => some (g, q.2 i n) | none => zs_try l i n) = some x := h
    split at h9
    · next g e =>
      cases h9
      exact hl q List.mem_cons_self i n g e
    · exact zs_try_2 (fun y hy => hl y (List.mem_cons_of_mem _ hy)) h9
/-- what a place of a method does -/
noncomputable def zs_F (T : zx_Tr zt_C) (O : List zx_W) (OT : List zt_Y) (K0 : Nat) (md : List (Nat × Nat)) (rt : List Nat) (TX : List zx_X) (M : zx_M × zx_Tr zr_E) (pc : Nat) : Option ze_O := match decode M.1.2.1 pc with
  | .ok (i, n) => match zs_try (zs_rows T O OT K0 md rt TX M.2 M.1.2.2.1 M.1.2.2.2.1 pc) i n with
    | some x => some x.2
    | none => none
  | _ => none
theorem zs_F_in {Z : ze_Z} (hZ : ze_Zk Z) {T : zx_Tr zt_C} {O : List zx_W} {OT : List zt_Y} (HO : zt_ot O OT) {K0 : Nat} {md : List (Nat × Nat)} {rt : List Nat} {TX : List zx_X} {M : zx_M × zx_Tr zr_E} {pc : Nat} {o : ze_O} (h : zs_F T O OT K0 md rt TX M pc = some o) : ∃ g, zr_F O K0 rt TX M.2 M.1 pc = some g ∧ ze_osp Z T K0 md g o := by
  unfold zs_F at h
  split at h
  · next i n e1 =>
    split at h
    · next x e2 =>
      cases h
      refine ⟨x.1, ?_, zs_try_2 (zs_rows_s hZ HO) e2⟩
      unfold zr_F
      rw [e1]
      dsimp only
      rw [← zs_rows_1 (T := T) (OT := OT) (md := md)]
      exact zs_try_1 e2
    · cases h
  · cases h
