/-! ===== what is known behind moves of bits, or, tables of places ===== -/
theorem zt_shlg (n p N : Nat) : ((n * p % N : Nat) : Int).bmod N = (((n : Int).bmod N) * (p : Int)).bmod N := by
  rw [Int.bmod_mul_bmod, Int.natCast_emod, Int.emod_bmod, Int.natCast_mul]
theorem zt_bv32 (y : Int32) (k : Nat) (hk : k < 32) (hy : y.toInt = (k : Int)) : y.toBitVec = BitVec.ofNat 32 k := by
  apply BitVec.eq_of_toNat_eq
  have h1 := zt_nat32 y
  have h2 := y.toBitVec.isLt
  rw [hy] at h1
  rw [BitVec.toNat_ofNat, Nat.mod_eq_of_lt (by omega)]
  split at h1 <;> omega
theorem zt_sm32 : ∀ j : Fin 32, ((BitVec.ofNat 32 j.val &&& 31#32).smod 32#32).toNat = j.val := by decide +kernel
theorem zt_um32 : ∀ j : Fin 32, ((BitVec.ofNat 32 j.val &&& 31#32) % 32#32).toNat = j.val := by decide +kernel
theorem zt_shr32g (x z : Int32) : (x >>> z).toInt = x.toInt / ((2 ^ (z.toBitVec.smod 32#32).toNat : Nat) : Int) := by
  show (x.toBitVec.sshiftRight (z.toBitVec.smod 32#32).toNat).toInt = _
  rw [BitVec.toInt_sshiftRight, Int.shiftRight_eq_div_pow]
  rfl
theorem zt_shl32g (x z : Int32) : (x <<< z).toInt = (x.toInt * ((2 ^ (z.toBitVec.smod 32#32).toNat : Nat) : Int)).bmod 4294967296 := by
  have e := zt_shlg x.toBitVec.toNat (2 ^ (z.toBitVec.smod 32#32).toNat) 4294967296
  show (x.toBitVec <<< (z.toBitVec.smod 32#32).toNat).toInt = (x.toBitVec.toInt * _).bmod 4294967296
  rw [BitVec.toInt_eq_toNat_bmod, BitVec.toInt_eq_toNat_bmod, BitVec.toNat_shiftLeft, Nat.shiftLeft_eq]
  exact e
theorem zt_ushr32g (x : Int32) (z : UInt32) : (x.toUInt32 >>> z).toInt32.toBitVec.toNat = x.toBitVec.toNat / 2 ^ (z.toBitVec % 32#32).toNat := by
  show (x.toBitVec >>> (z.toBitVec % 32#32).toNat).toNat = _
  rw [BitVec.toNat_ushiftRight, Nat.shiftRight_eq_div_pow]
/-- moved down by an unknown number: what isn't below 0 becomes no greater -/
noncomputable def zt_dn (a : zt_E) (B : List zt_V) (S : zt_S) : zt_S := match zt_ge S.2.2.2.2 a with
  | true => zt_new 0 0 2147483647 (fun s => [zt_sub a s]) B S
  | false => zt_any B S
theorem zt_dn_in {r : Nat → Int} {S : zt_S} {a : zt_E} {B : List zt_V} {L : zx_L} {st st2 : List Value} {h : zx_H} {q : Int32} (hg : zt_g r S L st h) (hv : zt_vs r B st2) (hw : ∀ q ∈ B, zt_lt S.1 q.2.1) (ha : zt_lt S.1 a) (h1 : 0 ≤ zt_ev r a → 0 ≤ q.toInt ∧ q.toInt ≤ zt_ev r a) : ∃ r2 : Nat → Int, (∀ i, i < S.1 → r2 i = r i) ∧ S.1 ≤ (zt_dn a B S).1 ∧ zt_g r2 (zt_dn a B S) L (.int q :: st2) h := by
  unfold zt_dn
  split
  · next e =>
    obtain ⟨g1, g2⟩ := h1 (zt_ge_in hg.1 e)
    obtain ⟨r2, h1, h2⟩ := zt_new_in q.toInt (t := 0) (lo := 0) (hi := 2147483647) (v := .int q) (fs := fun s => [zt_sub a s]) hg hv hw (fun r2 h2 => ⟨q, rfl, by show _ = zt_ev r2 (zt_s S.1); rw [zt_s_ev, h2]⟩) g1 (zt_i32 _).2 (fun r2 h5 h6 f hf => by
      rw [List.mem_singleton.mp hf, zt_sub_ev, zt_s_ev, h6, zt_ev_eq h5 ha]
      omega) (fun f hf => by
      rw [List.mem_singleton.mp hf]
      exact zt_sub_lt (zt_lt_mono ha (Nat.le_succ _)) (zt_s_lt (Nat.lt_succ_self _)))
    exact ⟨r2, h1, Nat.le_succ _, h2⟩
  · exact zt_any_in q hg hv hw
theorem zt_pow2 (k : Nat) : (0 : Int) < ((2 ^ k : Nat) : Int) := Int.natCast_pos.mpr (Nat.pow_pos (by decide))
/-- by a number that is known, or isn't -/
noncomputable def zt_fshr (S : zt_S) (a b : zt_E) (B : List zt_V) : Option zt_S := match b.2 with
  | [] => match decide (0 ≤ b.1) && decide (b.1 < 32) with
    | true => some (zt_quo ((2 ^ b.1.toNat : Nat) : Int) a B S)
    | false => some (zt_any B S)
  | _ => some (zt_dn a B S)
noncomputable def zt_fshl (S : zt_S) (a b : zt_E) (B : List zt_V) : Option zt_S := match b.2 with
  | [] => match decide (0 ≤ b.1) && decide (b.1 < 32) with
    | true => some (zt_fI (zt_sc ((2 ^ b.1.toNat : Nat) : Int) a) B S)
    | false => some (zt_any B S)
  | _ => match a.2 with
    | [] => match zt_lo S.2.2.2.2 b with
      | none => some (zt_any B S)
      | some lo => match zt_hi S.2.2.2.2 b with
        | none => some (zt_any B S)
        | some hi => match decide (0 ≤ a.1) && (decide (0 ≤ lo) && (decide (hi < 32) && decide (a.1 * ((2 ^ hi.toNat : Nat) : Int) ≤ 2147483647))) with
          | true => some (zt_new 0 (a.1 * ((2 ^ lo.toNat : Nat) : Int)) (a.1 * ((2 ^ hi.toNat : Nat) : Int)) (fun _ => []) B S)
          | false => some (zt_any B S)
    | _ => some (zt_any B S)
noncomputable def zt_fushr (S : zt_S) (a b : zt_E) (B : List zt_V) : Option zt_S := match b.2 with
  | [] => match decide (0 ≤ b.1) && decide (b.1 < 32) with
    | true => match zt_ge S.2.2.2.2 a with
      | true => some (zt_quo ((2 ^ b.1.toNat : Nat) : Int) a B S)
      | false => match decide (0 < b.1) with
        | true => some (zt_new 0 0 (((2 ^ (32 - b.1.toNat) : Nat) : Int) - 1) (fun _ => []) B S)
        | false => some (zt_any B S)
    | false => some (zt_any B S)
  | _ => some (zt_dn a B S)
theorem zt_fshr_in {r : Nat → Int} {S S2 : zt_S} {a b : zt_E} {B : List zt_V} {L : zx_L} {st st2 : List Value} {h : zx_H} {x z : Int32} (hg : zt_g r S L st h) (hv : zt_vs r B st2) (hw : ∀ q ∈ B, zt_lt S.1 q.2.1) (ha : zt_lt S.1 a) (hx : x.toInt = zt_ev r a) (hz : ∀ k : Nat, k < 32 → zt_ev r b = (k : Int) → (z.toBitVec.smod 32#32).toNat = k) (hf : zt_fshr S a b B = some S2) : ∃ r2 : Nat → Int, (∀ i, i < S.1 → r2 i = r i) ∧ S.1 ≤ S2.1 ∧ zt_g r2 S2 L (.int (x >>> z) :: st2) h := by
  have e0 := zt_shr32g x z
  unfold zt_fshr at hf
  split at hf
  · next e =>
    split at hf
    · next e2 =>
      cases hf
      simp only [Bool.and_eq_true] at e2
      have h1 := of_decide_eq_true e2.1
      have h2 := of_decide_eq_true e2.2
      rw [hz b.1.toNat (by omega) (by rw [zt_kev e]; omega), hx] at e0
      refine zt_quo_in hg hv hw ha ?_ ?_
      · rw [e0]
        exact Int.mul_ediv_self_le (Int.ne_of_gt (zt_pow2 _))
      · rw [e0]
        have := Int.lt_mul_ediv_self_add (x := zt_ev r a) (zt_pow2 b.1.toNat)
        omega
    · cases hf
      exact zt_any_in _ hg hv hw
  · cases hf
    refine zt_dn_in hg hv hw ha (fun h1 => ?_)
    rw [e0, hx]
    exact ⟨Int.ediv_nonneg h1 (Int.le_of_lt (zt_pow2 _)), Int.ediv_le_self _ h1⟩
theorem zt_fshl_in {r : Nat → Int} {S S2 : zt_S} {a b : zt_E} {B : List zt_V} {L : zx_L} {st st2 : List Value} {h : zx_H} {x z : Int32} (hg : zt_g r S L st h) (hv : zt_vs r B st2) (hw : ∀ q ∈ B, zt_lt S.1 q.2.1) (ha : zt_lt S.1 a) (hx : x.toInt = zt_ev r a) (hz : ∀ k : Nat, k < 32 → zt_ev r b = (k : Int) → (z.toBitVec.smod 32#32).toNat = k) (hf : zt_fshl S a b B = some S2) : ∃ r2 : Nat → Int, (∀ i, i < S.1 → r2 i = r i) ∧ S.1 ≤ S2.1 ∧ zt_g r2 S2 L (.int (x <<< z) :: st2) h := by
  have e0 := zt_shl32g x z
  unfold zt_fshl at hf
  split at hf
  · next e =>
    split at hf
    · next e2 =>
      cases hf
      simp only [Bool.and_eq_true] at e2
      have h1 := of_decide_eq_true e2.1
      have h2 := of_decide_eq_true e2.2
      rw [hz b.1.toNat (by omega) (by rw [zt_kev e]; omega), hx, Int.mul_comm] at e0
      obtain ⟨r2, g1, g2⟩ := zt_fit0 (x := x <<< z) hg hv hw (zt_sc_lt (k := ((2 ^ b.1.toNat : Nat) : Int)) ha) (by rw [zt_sc_ev]; exact e0)
      exact ⟨r2, g1, zt_fit_n, g2⟩
    · cases hf
      exact zt_any_in _ hg hv hw
  · split at hf
    · next e1 =>
      split at hf
      · cases hf
        exact zt_any_in _ hg hv hw
      · next lo e2 =>
        split at hf
        · cases hf
          exact zt_any_in _ hg hv hw
        · next hi e3 =>
          split at hf
          · next e4 =>
            cases hf
            simp only [Bool.and_eq_true] at e4
            have a1 := of_decide_eq_true e4.1
            have a2 := of_decide_eq_true e4.2.1
            have a3 := of_decide_eq_true e4.2.2.1
            have a4 := of_decide_eq_true e4.2.2.2
            have b1 := zt_lo_in hg.1 e2
            have b2 := zt_hi_in hg.1 e3
            obtain ⟨k, hk⟩ : ∃ k : Nat, zt_ev r b = (k : Int) := ⟨(zt_ev r b).toNat, by omega⟩
            have c1 : 2 ^ lo.toNat ≤ 2 ^ k := Nat.pow_le_pow_right (by decide) (by omega)
            have c2 : 2 ^ k ≤ 2 ^ hi.toNat := Nat.pow_le_pow_right (by decide) (by omega)
            have d1 : a.1 * ((2 ^ lo.toNat : Nat) : Int) ≤ a.1 * ((2 ^ k : Nat) : Int) := Int.mul_le_mul_of_nonneg_left (Int.ofNat_le.mpr c1) a1
            have d2 : a.1 * ((2 ^ k : Nat) : Int) ≤ a.1 * ((2 ^ hi.toNat : Nat) : Int) := Int.mul_le_mul_of_nonneg_left (Int.ofNat_le.mpr c2) a1
            have d0 : 0 ≤ a.1 * ((2 ^ k : Nat) : Int) := Int.mul_nonneg a1 (Int.natCast_nonneg _)
            rw [hz k (by omega) hk, hx, zt_kev e1, zt_bm32 (by omega) (by omega)] at e0
            obtain ⟨r2, g1, g2⟩ := zt_new_in (x <<< z).toInt (t := 0) (v := .int (x <<< z)) (fs := fun _ => []) hg hv hw (fun r2 h2 => ⟨x <<< z, rfl, by show _ = zt_ev r2 (zt_s S.1); rw [zt_s_ev, h2]⟩) (by rw [e0]; exact d1) (by rw [e0]; exact d2) (fun _ _ _ f hf => nomatch hf) (fun f hf => nomatch hf)
            exact ⟨r2, g1, Nat.le_succ _, g2⟩
          · cases hf
            exact zt_any_in _ hg hv hw
    · cases hf
      exact zt_any_in _ hg hv hw
theorem zt_fushr_in {r : Nat → Int} {S S2 : zt_S} {a b : zt_E} {B : List zt_V} {L : zx_L} {st st2 : List Value} {h : zx_H} {x : Int32} {z : UInt32} (hg : zt_g r S L st h) (hv : zt_vs r B st2) (hw : ∀ q ∈ B, zt_lt S.1 q.2.1) (ha : zt_lt S.1 a) (hx : x.toInt = zt_ev r a) (hz : ∀ k : Nat, k < 32 → zt_ev r b = (k : Int) → (z.toBitVec % 32#32).toNat = k) (hf : zt_fushr S a b B = some S2) : ∃ r2 : Nat → Int, (∀ i, i < S.1 → r2 i = r i) ∧ S.1 ≤ S2.1 ∧ zt_g r2 S2 L (.int (x.toUInt32 >>> z).toInt32 :: st2) h := by
  have e0 := zt_ushr32g x z
  have e1 := zt_nat32 (x.toUInt32 >>> z).toInt32
  have e2 := zt_nat32 x
  have l2 := x.toBitVec.isLt
  have pos : 0 ≤ x.toInt → (x.toUInt32 >>> z).toInt32.toInt = x.toInt / ((2 ^ (z.toBitVec % 32#32).toNat : Nat) : Int) := fun hp => by
    have l3 := Nat.div_le_self x.toBitVec.toNat (2 ^ (z.toBitVec % 32#32).toNat)
    rw [e0] at e1
    have hx2 : x.toInt = (x.toBitVec.toNat : Int) := by
      split at e2 <;> omega
    rw [hx2] at hp ⊢
    rw [if_pos (by
      split at e2 <;> omega)] at e1
    rw [e1]
    exact Int.natCast_ediv ..
  unfold zt_fushr at hf
  split at hf
  · next e =>
    split at hf
    · next e3 =>
      simp only [Bool.and_eq_true] at e3
      have h1 := of_decide_eq_true e3.1
      have h2 := of_decide_eq_true e3.2
      have hk := hz b.1.toNat (by omega) (by rw [zt_kev e]; omega)
      split at hf
      · next e4 =>
        cases hf
        have h5 := zt_ge_in hg.1 e4
        have e5 := pos (by omega)
        rw [hk, hx] at e5
        refine zt_quo_in hg hv hw ha ?_ ?_
        · rw [e5]
          exact Int.mul_ediv_self_le (Int.ne_of_gt (zt_pow2 _))
        · rw [e5]
          have := Int.lt_mul_ediv_self_add (x := zt_ev r a) (zt_pow2 b.1.toNat)
          omega
      · split at hf
        · next e4 =>
          cases hf
          have h5 := of_decide_eq_true e4
          rw [hk] at e0
          have h6 : x.toBitVec.toNat / 2 ^ b.1.toNat < 2 ^ (32 - b.1.toNat) := by
            apply Nat.div_lt_of_lt_mul
            rw [← Nat.pow_add, show b.1.toNat + (32 - b.1.toNat) = 32 by omega]
            exact l2
          have h7 : 2 ^ (32 - b.1.toNat) ≤ 2 ^ 31 := Nat.pow_le_pow_right (by decide) (by omega)
          rw [e0, if_pos (by omega)] at e1
          obtain ⟨r2, g1, g2⟩ := zt_new_in (x.toUInt32 >>> z).toInt32.toInt (t := 0) (lo := 0) (hi := ((2 ^ (32 - b.1.toNat) : Nat) : Int) - 1) (v := .int (x.toUInt32 >>> z).toInt32) (fs := fun _ => []) hg hv hw (fun r2 h2 => ⟨_, rfl, by show _ = zt_ev r2 (zt_s S.1); rw [zt_s_ev, h2]⟩) (by omega) (by omega) (fun _ _ _ f hf => nomatch hf) (fun f hf => nomatch hf)
          exact ⟨r2, g1, Nat.le_succ _, g2⟩
        · cases hf
          exact zt_any_in _ hg hv hw
    · cases hf
      exact zt_any_in _ hg hv hw
  · cases hf
    refine zt_dn_in hg hv hw ha (fun h1 => ?_)
    rw [pos (by omega), hx]
    exact ⟨Int.ediv_nonneg h1 (Int.le_of_lt (zt_pow2 _)), Int.ediv_le_self _ h1⟩
theorem zt_bv64 (y : Int64) (k : Nat) (hk : k < 64) (hy : y.toInt = (k : Int)) : y.toBitVec = BitVec.ofNat 64 k := by
  apply BitVec.eq_of_toNat_eq
  have h1 := zt_nat64 y
  have h2 := y.toBitVec.isLt
  rw [hy] at h1
  rw [BitVec.toNat_ofNat, Nat.mod_eq_of_lt (by omega)]
  split at h1 <;> omega
theorem zt_sm64 : ∀ j : Fin 64, ((BitVec.ofNat 64 j.val &&& 63#64).smod 64#64).toNat = j.val := by decide +kernel
theorem zt_um64 : ∀ j : Fin 64, ((BitVec.ofNat 64 j.val &&& 63#64) % 64#64).toNat = j.val := by decide +kernel
theorem zt_shr64g (x z : Int64) : (x >>> z).toInt = x.toInt / ((2 ^ (z.toBitVec.smod 64#64).toNat : Nat) : Int) := by
  show (x.toBitVec.sshiftRight (z.toBitVec.smod 64#64).toNat).toInt = _
  rw [BitVec.toInt_sshiftRight, Int.shiftRight_eq_div_pow]
  rfl
theorem zt_shl64g (x z : Int64) : (x <<< z).toInt = (x.toInt * ((2 ^ (z.toBitVec.smod 64#64).toNat : Nat) : Int)).bmod 18446744073709551616 := by
  have e := zt_shlg x.toBitVec.toNat (2 ^ (z.toBitVec.smod 64#64).toNat) 18446744073709551616
  show (x.toBitVec <<< (z.toBitVec.smod 64#64).toNat).toInt = (x.toBitVec.toInt * _).bmod 18446744073709551616
  rw [BitVec.toInt_eq_toNat_bmod, BitVec.toInt_eq_toNat_bmod, BitVec.toNat_shiftLeft, Nat.shiftLeft_eq]
  exact e
theorem zt_ushr64g (x : Int64) (z : UInt64) : (x.toUInt64 >>> z).toInt64.toBitVec.toNat = x.toBitVec.toNat / 2 ^ (z.toBitVec % 64#64).toNat := by
  show (x.toBitVec >>> (z.toBitVec % 64#64).toNat).toNat = _
  rw [BitVec.toNat_ushiftRight, Nat.shiftRight_eq_div_pow]
/-- moved down by an unknown number: what isn't below 0 becomes no greater -/
noncomputable def zt_dnJ (a : zt_E) (B : List zt_V) (S : zt_S) : zt_S := match zt_ge S.2.2.2.2 a with
  | true => zt_new 1 0 9223372036854775807 (fun s => [zt_sub a s]) B S
  | false => zt_anyJ B S
theorem zt_dnJ_in {r : Nat → Int} {S : zt_S} {a : zt_E} {B : List zt_V} {L : zx_L} {st st2 : List Value} {h : zx_H} {q : Int64} (hg : zt_g r S L st h) (hv : zt_vs r B st2) (hw : ∀ q ∈ B, zt_lt S.1 q.2.1) (ha : zt_lt S.1 a) (h1 : 0 ≤ zt_ev r a → 0 ≤ q.toInt ∧ q.toInt ≤ zt_ev r a) : ∃ r2 : Nat → Int, (∀ i, i < S.1 → r2 i = r i) ∧ S.1 ≤ (zt_dnJ a B S).1 ∧ zt_g r2 (zt_dnJ a B S) L (.long q :: st2) h := by
  unfold zt_dnJ
  split
  · next e =>
    obtain ⟨g1, g2⟩ := h1 (zt_ge_in hg.1 e)
    obtain ⟨r2, h1, h2⟩ := zt_new_in q.toInt (t := 1) (lo := 0) (hi := 9223372036854775807) (v := .long q) (fs := fun s => [zt_sub a s]) hg hv hw (fun r2 h2 => ⟨q, rfl, by show _ = zt_ev r2 (zt_s S.1); rw [zt_s_ev, h2]⟩) g1 (zt_i64 _).2 (fun r2 h5 h6 f hf => by
      rw [List.mem_singleton.mp hf, zt_sub_ev, zt_s_ev, h6, zt_ev_eq h5 ha]
      omega) (fun f hf => by
      rw [List.mem_singleton.mp hf]
      exact zt_sub_lt (zt_lt_mono ha (Nat.le_succ _)) (zt_s_lt (Nat.lt_succ_self _)))
    exact ⟨r2, h1, Nat.le_succ _, h2⟩
  · exact zt_anyJ_in q hg hv hw
/-- by a number that is known, or isn't -/
noncomputable def zt_fshrJ (S : zt_S) (a b : zt_E) (B : List zt_V) : Option zt_S := match b.2 with
  | [] => match decide (0 ≤ b.1) && decide (b.1 < 64) with
    | true => some (zt_quoJ ((2 ^ b.1.toNat : Nat) : Int) a B S)
    | false => some (zt_anyJ B S)
  | _ => some (zt_dnJ a B S)
noncomputable def zt_fshlJ (S : zt_S) (a b : zt_E) (B : List zt_V) : Option zt_S := match b.2 with
  | [] => match decide (0 ≤ b.1) && decide (b.1 < 64) with
    | true => some (zt_fJ (zt_sc ((2 ^ b.1.toNat : Nat) : Int) a) B S)
    | false => some (zt_anyJ B S)
  | _ => some (zt_anyJ B S)
noncomputable def zt_fushrJ (S : zt_S) (a b : zt_E) (B : List zt_V) : Option zt_S := match b.2 with
  | [] => match decide (0 ≤ b.1) && decide (b.1 < 64) with
    | true => match zt_ge S.2.2.2.2 a with
      | true => some (zt_quoJ ((2 ^ b.1.toNat : Nat) : Int) a B S)
      | false => match decide (0 < b.1) with
        | true => some (zt_new 1 0 (((2 ^ (64 - b.1.toNat) : Nat) : Int) - 1) (fun _ => []) B S)
        | false => some (zt_anyJ B S)
    | false => some (zt_anyJ B S)
  | _ => some (zt_dnJ a B S)
theorem zt_fshrJ_in {r : Nat → Int} {S S2 : zt_S} {a b : zt_E} {B : List zt_V} {L : zx_L} {st st2 : List Value} {h : zx_H} {x z : Int64} (hg : zt_g r S L st h) (hv : zt_vs r B st2) (hw : ∀ q ∈ B, zt_lt S.1 q.2.1) (ha : zt_lt S.1 a) (hx : x.toInt = zt_ev r a) (hz : ∀ k : Nat, k < 64 → zt_ev r b = (k : Int) → (z.toBitVec.smod 64#64).toNat = k) (hf : zt_fshrJ S a b B = some S2) : ∃ r2 : Nat → Int, (∀ i, i < S.1 → r2 i = r i) ∧ S.1 ≤ S2.1 ∧ zt_g r2 S2 L (.long (x >>> z) :: st2) h := by
  have e0 := zt_shr64g x z
  unfold zt_fshrJ at hf
  split at hf
  · next e =>
    split at hf
    · next e2 =>
      cases hf
      simp only [Bool.and_eq_true] at e2
      have h1 := of_decide_eq_true e2.1
      have h2 := of_decide_eq_true e2.2
      rw [hz b.1.toNat (by omega) (by rw [zt_kev e]; omega), hx] at e0
      refine zt_quoJ_in hg hv hw ha ?_ ?_
      · rw [e0]
        exact Int.mul_ediv_self_le (Int.ne_of_gt (zt_pow2 _))
      · rw [e0]
        have := Int.lt_mul_ediv_self_add (x := zt_ev r a) (zt_pow2 b.1.toNat)
        omega
    · cases hf
      exact zt_anyJ_in _ hg hv hw
  · cases hf
    refine zt_dnJ_in hg hv hw ha (fun h1 => ?_)
    rw [e0, hx]
    exact ⟨Int.ediv_nonneg h1 (Int.le_of_lt (zt_pow2 _)), Int.ediv_le_self _ h1⟩
theorem zt_fshlJ_in {r : Nat → Int} {S S2 : zt_S} {a b : zt_E} {B : List zt_V} {L : zx_L} {st st2 : List Value} {h : zx_H} {x z : Int64} (hg : zt_g r S L st h) (hv : zt_vs r B st2) (hw : ∀ q ∈ B, zt_lt S.1 q.2.1) (ha : zt_lt S.1 a) (hx : x.toInt = zt_ev r a) (hz : ∀ k : Nat, k < 64 → zt_ev r b = (k : Int) → (z.toBitVec.smod 64#64).toNat = k) (hf : zt_fshlJ S a b B = some S2) : ∃ r2 : Nat → Int, (∀ i, i < S.1 → r2 i = r i) ∧ S.1 ≤ S2.1 ∧ zt_g r2 S2 L (.long (x <<< z) :: st2) h := by
  have e0 := zt_shl64g x z
  unfold zt_fshlJ at hf
  split at hf
  · next e =>
    split at hf
    · next e2 =>
      cases hf
      simp only [Bool.and_eq_true] at e2
      have h1 := of_decide_eq_true e2.1
      have h2 := of_decide_eq_true e2.2
      rw [hz b.1.toNat (by omega) (by rw [zt_kev e]; omega), hx, Int.mul_comm] at e0
      obtain ⟨r2, g1, g2⟩ := zt_fit1 (x := x <<< z) hg hv hw (zt_sc_lt (k := ((2 ^ b.1.toNat : Nat) : Int)) ha) (by rw [zt_sc_ev]; exact e0)
      exact ⟨r2, g1, zt_fitJ_n, g2⟩
    · cases hf
      exact zt_anyJ_in _ hg hv hw
  · cases hf
    exact zt_anyJ_in _ hg hv hw
theorem zt_fushrJ_in {r : Nat → Int} {S S2 : zt_S} {a b : zt_E} {B : List zt_V} {L : zx_L} {st st2 : List Value} {h : zx_H} {x : Int64} {z : UInt64} (hg : zt_g r S L st h) (hv : zt_vs r B st2) (hw : ∀ q ∈ B, zt_lt S.1 q.2.1) (ha : zt_lt S.1 a) (hx : x.toInt = zt_ev r a) (hz : ∀ k : Nat, k < 64 → zt_ev r b = (k : Int) → (z.toBitVec % 64#64).toNat = k) (hf : zt_fushrJ S a b B = some S2) : ∃ r2 : Nat → Int, (∀ i, i < S.1 → r2 i = r i) ∧ S.1 ≤ S2.1 ∧ zt_g r2 S2 L (.long (x.toUInt64 >>> z).toInt64 :: st2) h := by
  have e0 := zt_ushr64g x z
  have e1 := zt_nat64 (x.toUInt64 >>> z).toInt64
  have e2 := zt_nat64 x
  have l2 := x.toBitVec.isLt
  have pos : 0 ≤ x.toInt → (x.toUInt64 >>> z).toInt64.toInt = x.toInt / ((2 ^ (z.toBitVec % 64#64).toNat : Nat) : Int) := fun hp => by
    have l3 := Nat.div_le_self x.toBitVec.toNat (2 ^ (z.toBitVec % 64#64).toNat)
    rw [e0] at e1
    have hx2 : x.toInt = (x.toBitVec.toNat : Int) := by
      split at e2 <;> omega
    rw [hx2] at hp ⊢
    rw [if_pos (by
      split at e2 <;> omega)] at e1
    rw [e1]
    exact Int.natCast_ediv ..
  unfold zt_fushrJ at hf
  split at hf
  · next e =>
    split at hf
    · next e3 =>
      simp only [Bool.and_eq_true] at e3
      have h1 := of_decide_eq_true e3.1
      have h2 := of_decide_eq_true e3.2
      have hk := hz b.1.toNat (by omega) (by rw [zt_kev e]; omega)
      split at hf
      · next e4 =>
        cases hf
        have h5 := zt_ge_in hg.1 e4
        have e5 := pos (by omega)
        rw [hk, hx] at e5
        refine zt_quoJ_in hg hv hw ha ?_ ?_
        · rw [e5]
          exact Int.mul_ediv_self_le (Int.ne_of_gt (zt_pow2 _))
        · rw [e5]
          have := Int.lt_mul_ediv_self_add (x := zt_ev r a) (zt_pow2 b.1.toNat)
          omega
      · split at hf
        · next e4 =>
          cases hf
          have h5 := of_decide_eq_true e4
          rw [hk] at e0
          have h6 : x.toBitVec.toNat / 2 ^ b.1.toNat < 2 ^ (64 - b.1.toNat) := by
            apply Nat.div_lt_of_lt_mul
            rw [← Nat.pow_add, show b.1.toNat + (64 - b.1.toNat) = 64 by omega]
            exact l2
          have h7 : 2 ^ (64 - b.1.toNat) ≤ 2 ^ 63 := Nat.pow_le_pow_right (by decide) (by omega)
          rw [e0, if_pos (by omega)] at e1
          obtain ⟨r2, g1, g2⟩ := zt_new_in (x.toUInt64 >>> z).toInt64.toInt (t := 1) (lo := 0) (hi := ((2 ^ (64 - b.1.toNat) : Nat) : Int) - 1) (v := .long (x.toUInt64 >>> z).toInt64) (fs := fun _ => []) hg hv hw (fun r2 h2 => ⟨_, rfl, by show _ = zt_ev r2 (zt_s S.1); rw [zt_s_ev, h2]⟩) (by omega) (by omega) (fun _ _ _ f hf => nomatch hf) (fun f hf => nomatch hf)
          exact ⟨r2, g1, Nat.le_succ _, g2⟩
        · cases hf
          exact zt_anyJ_in _ hg hv hw
    · cases hf
      exact zt_anyJ_in _ hg hv hw
  · cases hf
    refine zt_dnJ_in hg hv hw ha (fun h1 => ?_)
    rw [pos (by omega), hx]
    exact ⟨Int.ediv_nonneg h1 (Int.le_of_lt (zt_pow2 _)), Int.ediv_le_self _ h1⟩
theorem zt_z32 {y : Int32} {k : Nat} (hk : k < 32) (hy : y.toInt = (k : Int)) : ((y &&& 31).toBitVec.smod 32#32).toNat = k := by
  have e : (y &&& 31).toBitVec = y.toBitVec &&& 31#32 := rfl
  rw [e, zt_bv32 y k hk hy]
  exact zt_sm32 ⟨k, hk⟩
theorem zt_zu32 {y : Int32} {k : Nat} (hk : k < 32) (hy : y.toInt = (k : Int)) : ((y.toUInt32 &&& Int32.toUInt32 31).toBitVec % 32#32).toNat = k := by
  have e : (y.toUInt32 &&& Int32.toUInt32 31).toBitVec = y.toBitVec &&& 31#32 := rfl
  rw [e, zt_bv32 y k hk hy]
  exact zt_um32 ⟨k, hk⟩
theorem zt_z64 {y : Int32} {k : Nat} (hk : k < 64) (hy : y.toInt = (k : Int)) : ((y.toInt64 &&& 63).toBitVec.smod 64#64).toNat = k := by
  have e : (y.toInt64 &&& 63).toBitVec = y.toInt64.toBitVec &&& 63#64 := rfl
  rw [e, zt_bv64 y.toInt64 k hk (by rw [Int32.toInt_toInt64]; exact hy)]
  exact zt_sm64 ⟨k, hk⟩
theorem zt_zu64 {y : Int32} {k : Nat} (hk : k < 64) (hy : y.toInt = (k : Int)) : ((y.toInt64.toUInt64 &&& Int64.toUInt64 63).toBitVec % 64#64).toNat = k := by
  have e : (y.toInt64.toUInt64 &&& Int64.toUInt64 63).toBitVec = y.toInt64.toBitVec &&& 63#64 := rfl
  rw [e, zt_bv64 y.toInt64 k hk (by rw [Int32.toInt_toInt64]; exact hy)]
  exact zt_um64 ⟨k, hk⟩
theorem zt_aishr_in {npc : Nat} : zt_pur (zx_ishr [] npc) (zt_a2 zt_fshr npc) := zt_a2_in (fun S S2 ea eb B r L st st2 h x y hg hv hw ha hb hx hy hf => zt_fshr_in hg hv hw ha hx (fun k hk e => zt_z32 hk (hy.trans e)) hf)
theorem zt_aishl_in {npc : Nat} : zt_pur (zx_ishl npc) (zt_a2 zt_fshl npc) := zt_a2_in (fun S S2 ea eb B r L st st2 h x y hg hv hw ha hb hx hy hf => zt_fshl_in hg hv hw ha hx (fun k hk e => zt_z32 hk (hy.trans e)) hf)
theorem zt_aiushr_in {npc : Nat} : zt_pur (zx_iushr [] npc) (zt_a2 zt_fushr npc) := zt_a2_in (fun S S2 ea eb B r L st st2 h x y hg hv hw ha hb hx hy hf => zt_fushr_in hg hv hw ha hx (fun k hk e => zt_zu32 hk (hy.trans e)) hf)
theorem zt_alshr_in {npc : Nat} : zt_pur (zx_lshr npc) (zt_a2S zt_fshrJ npc) := zt_a2S_in (fun S S2 ea eb B r L st st2 h x y hg hv hw ha hb hx hy hf => zt_fshrJ_in hg hv hw ha hx (fun k hk e => zt_z64 hk (hy.trans e)) hf)
theorem zt_alshl_in {npc : Nat} : zt_pur (zx_lshl npc) (zt_a2S zt_fshlJ npc) := zt_a2S_in (fun S S2 ea eb B r L st st2 h x y hg hv hw ha hb hx hy hf => zt_fshlJ_in hg hv hw ha hx (fun k hk e => zt_z64 hk (hy.trans e)) hf)
theorem zt_alushr_in {npc : Nat} : zt_pur (zx_lushr npc) (zt_a2S zt_fushrJ npc) := zt_a2S_in (fun S S2 ea eb B r L st st2 h x y hg hv hw ha hb hx hy hf => zt_fushrJ_in hg hv hw ha hx (fun k hk e => zt_zu64 hk (hy.trans e)) hf)
