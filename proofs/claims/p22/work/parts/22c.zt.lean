/-! ===== a mask with zeros below: a multiple ===== -/
theorem zt_andx (x y : BitVec 32) : (x &&& y) + (x &&& ~~~y) = x := by
  rw [BitVec.add_eq_or_of_and_eq_zero]
  · ext i hi
    simp only [BitVec.getElem_or, BitVec.getElem_and, BitVec.getElem_not]
    cases x[i] <;> cases y[i] <;> rfl
  · ext i hi
    simp only [BitVec.getElem_and, BitVec.getElem_not, BitVec.getElem_zero]
    cases x[i] <;> cases y[i] <;> rfl
theorem zt_ands (x y : Int32) (hy : y.toInt < 0) : ((x &&& y).toInt < 0 ↔ x.toInt < 0) := by
  have e : (x.toBitVec &&& y.toBitVec).msb = (x.toBitVec.msb && y.toBitVec.msb) := BitVec.msb_and
  have e1 : x.toBitVec.msb = decide (x.toInt < 0) := BitVec.msb_eq_toInt
  have e2 : y.toBitVec.msb = decide (y.toInt < 0) := BitVec.msb_eq_toInt
  have e3 : (x.toBitVec &&& y.toBitVec).msb = decide ((x &&& y).toInt < 0) := BitVec.msb_eq_toInt
  rw [e1, e2, e3, decide_eq_true hy, Bool.and_true] at e
  exact decide_eq_decide.mp e
theorem zt_andn32 (x y : Int32) (k : Nat) (hk : y.toInt = -((2 ^ k : Nat) : Int)) (hk2 : k ≤ 20) : (x &&& y).toInt = x.toInt - x.toInt % ((2 ^ k : Nat) : Int) := by
  have hp : 0 < 2 ^ k := Nat.two_pow_pos k
  have hk3 : 2 ^ k ≤ 2 ^ 20 := Nat.pow_le_pow_right (by decide) hk2
  have hn : (~~~y).toInt = ((2 ^ k : Nat) : Int) - 1 := by
    rw [Int32.toInt_not, zt_bm32 (by omega) (by omega)]
    omega
  have hm := zt_andm32 x (~~~y) k (by rw [hn]; omega) (by rw [hn]; omega)
  have e : (x &&& y) + (x &&& ~~~y) = x := Int32.toBitVec_inj.mp (zt_andx x.toBitVec y.toBitVec)
  have e2 := congrArg Int32.toInt e
  rw [Int32.toInt_add, hm] at e2
  have s1 := zt_ands x y (by omega)
  have b1 := zt_i32 (x &&& y)
  have b2 := zt_i32 x
  have r1 : 0 ≤ x.toInt % ((2 ^ k : Nat) : Int) := Int.emod_nonneg _ (by omega)
  have r2 : x.toInt % ((2 ^ k : Nat) : Int) < ((2 ^ k : Nat) : Int) := Int.emod_lt_of_pos _ (by omega)
  generalize x.toInt % ((2 ^ k : Nat) : Int) = R at e2 r1 r2 ⊢
  rw [Int.bmod_def] at e2
  by_cases hx0 : x.toInt < 0
  · have s2 := s1.mpr hx0
    split at e2 <;> omega
  · have s2 : ¬ (x &&& y).toInt < 0 := fun z => hx0 (s1.mp z)
    split at e2 <;> omega
noncomputable def zt_fand4 (S : zt_S) (a b : zt_E) (B : List zt_V) : Option zt_S := match b.2 with
  | [] => (match a.2 with
    | [] => zt_fand3 S a b B
    | _ :: _ => (match decide (b.1 < -1) && (decide (-b.1 = ((2 ^ Nat.log2 (-b.1).toNat : Nat) : Int)) && Nat.ble (Nat.log2 (-b.1).toNat) 20) with
      | true => some (zt_stk ((0, zt_sc (-b.1) (zt_s S.1), 0) :: B) (zt_new 3 (-2147483648 / (-b.1)) (2147483647 / (-b.1)) (fun s => [zt_sub a (zt_sc (-b.1) s), zt_sub (zt_add (zt_sc (-b.1) s) (zt_k (-b.1 - 1))) a]) B S))
      | false => zt_fand3 S a b B))
  | _ :: _ => zt_fand3 S a b B
theorem zt_fand4_in {r : Nat → Int} {S S2 : zt_S} {a b : zt_E} {B : List zt_V} {L : zx_L} {st st2 : List Value} {h : zx_H} {x y : Int32} (hg : zt_g r S L st h) (hv : zt_vs r B st2) (hw : ∀ q ∈ B, zt_lt S.1 q.2.1) (ha : zt_lt S.1 a) (hb : zt_lt S.1 b) (hx : x.toInt = zt_ev r a) (hy : y.toInt = zt_ev r b) (hf : zt_fand4 S a b B = some S2) : ∃ r2 : Nat → Int, (∀ i, i < S.1 → r2 i = r i) ∧ S.1 ≤ S2.1 ∧ zt_g r2 S2 L (.int (x &&& y) :: st2) h := by
  unfold zt_fand4 at hf
  split at hf
  · next e =>
    split at hf
    · exact zt_fand3_in hg hv hw ha hb hx hy hf
    · split at hf
      · next e1 =>
        cases hf
        simp only [Bool.and_eq_true] at e1
        obtain ⟨c1, c2, c3⟩ := e1
        have h1 := of_decide_eq_true c1
        have h2 := of_decide_eq_true c2
        have h3 := Nat.le_of_ble_eq_true c3
        have hy2 := hy
        rw [zt_kev e] at hy2
        have hn := zt_andn32 x y (Nat.log2 (-b.1).toNat) (by rw [hy2]; omega) h3
        rw [← h2, hx] at hn
        generalize hm : -b.1 = m at *
        have hm0 : 0 < m := by omega
        have hd : zt_ev r a = m * (zt_ev r a / m) + zt_ev r a % m := (Int.mul_ediv_add_emod (zt_ev r a) m).symm
        have hr0 : 0 ≤ zt_ev r a % m := Int.emod_nonneg _ (by omega)
        have hr1 : zt_ev r a % m < m := Int.emod_lt_of_pos _ hm0
        have b2 := zt_i32 x
        rw [hx] at b2
        have l1 : -2147483648 / m ≤ zt_ev r a / m := Int.ediv_le_ediv hm0 b2.1
        have l2 : zt_ev r a / m ≤ 2147483647 / m := Int.ediv_le_ediv hm0 b2.2
        have hc : (x &&& y).toInt = m * (zt_ev r a / m) := by
          rw [hn]
          omega
        obtain ⟨r2, q1, q2⟩ := zt_new_in (zt_ev r a / m) (t := 3) (lo := -2147483648 / m) (hi := 2147483647 / m) (v := .null) (fs := fun s => [zt_sub a (zt_sc m s), zt_sub (zt_add (zt_sc m s) (zt_k (m - 1))) a]) hg hv hw (fun r2 h2 => rfl) l1 l2 (fun r2 h8 h9 f hf => by
          simp only [List.mem_cons, List.not_mem_nil, or_false] at hf
          rcases hf with e | e <;> subst e
          · rw [zt_sub_ev, zt_sc_ev, zt_s_ev, h9, zt_ev_eq h8 ha]
            omega
          · rw [zt_sub_ev, zt_add_ev, zt_sc_ev, zt_s_ev, zt_k_ev, h9, zt_ev_eq h8 ha]
            omega) (fun f hf => by
          simp only [List.mem_cons, List.not_mem_nil, or_false] at hf
          rcases hf with e | e <;> subst e
          · exact zt_sub_lt (zt_lt_mono ha (Nat.le_succ _)) (zt_sc_lt (zt_s_lt (Nat.lt_succ_self _)))
          · exact zt_sub_lt (zt_add_lt (zt_sc_lt (zt_s_lt (Nat.lt_succ_self _))) zt_k_lt) (zt_lt_mono ha (Nat.le_succ _)))
        have q9 : m * r2 S.1 = m * (zt_ev r a / m) := by
          have w := q2.1
          have w2 := w (zt_sub a (zt_sc m (zt_s S.1))) (List.mem_cons_of_mem _ (List.mem_cons_of_mem _ List.mem_cons_self))
          have w3 := w (zt_sub (zt_add (zt_sc m (zt_s S.1)) (zt_k (m - 1))) a) (List.mem_cons_of_mem _ (List.mem_cons_of_mem _ (List.mem_cons_of_mem _ List.mem_cons_self)))
          rw [zt_sub_ev, zt_sc_ev, zt_s_ev, zt_ev_eq q1 ha] at w2
          rw [zt_sub_ev, zt_add_ev, zt_sc_ev, zt_s_ev, zt_k_ev, zt_ev_eq q1 ha] at w3
          have u1 : r2 S.1 ≤ zt_ev r a / m := (Int.le_ediv_iff_mul_le hm0).mpr (by rw [Int.mul_comm]; omega)
          have u2 : zt_ev r a / m < r2 S.1 + 1 := (Int.ediv_lt_iff_lt_mul hm0).mpr (by rw [Int.add_mul, Int.mul_comm, Int.one_mul]; omega)
          rw [show r2 S.1 = zt_ev r a / m by omega]
        refine ⟨r2, q1, Nat.le_succ _, zt_stk_in q2 ⟨⟨x &&& y, rfl, ?_⟩, q2.2.2.1.2⟩ (fun q hq => (List.mem_cons.mp hq).elim (fun z => by rw [z]; exact zt_sc_lt (zt_s_lt (Nat.lt_succ_self _))) (fun m => zt_lt_mono (hw q m) (Nat.le_succ _)))⟩
        show _ = zt_ev r2 (zt_sc m (zt_s S.1))
        rw [zt_sc_ev, zt_s_ev, q9]
        exact hc
      · exact zt_fand3_in hg hv hw ha hb hx hy hf
  · exact zt_fand3_in hg hv hw ha hb hx hy hf
/-! ===== a rest of longs by what is below 0 ===== -/
noncomputable def zt_fremJ2 (S : zt_S) (a b : zt_E) (B : List zt_V) : Option zt_S := match b.2 with
  | [] => (match zt_cok S.2.2.2.2 b.1 a with
    | true => some (zt_stk ((1, (zt_cE b.1 a).2, 0) :: B) S)
    | false => zt_fremJ S a b B)
  | _ :: _ => match zt_ge S.2.2.2.2 (zt_sub (zt_sc (-1) b) (zt_k 1)) with
    | true => some (zt_anyJ B S)
    | false => zt_fremJ S a b B
theorem zt_fremJ2_in {r : Nat → Int} {S S2 : zt_S} {a b : zt_E} {B : List zt_V} {L : zx_L} {st st2 : List Value} {h : zx_H} {x y : Int64} (hg : zt_g r S L st h) (hv : zt_vs r B st2) (hw : ∀ q ∈ B, zt_lt S.1 q.2.1) (ha : zt_lt S.1 a) (hb : zt_lt S.1 b) (hx : x.toInt = zt_ev r a) (hy : y.toInt = zt_ev r b) (hf : zt_fremJ2 S a b B = some S2) : y ≠ 0 ∧ ∃ r2 : Nat → Int, (∀ i, i < S.1 → r2 i = r i) ∧ S.1 ≤ S2.1 ∧ zt_g r2 S2 L (.long (x - x / y * y) :: st2) h := by
  unfold zt_fremJ2 at hf
  split at hf
  · next e =>
    split at hf
    · next e1 =>
      cases hf
      have hy2 := hy
      rw [zt_kev e] at hy2
      obtain ⟨h1, h2, h3⟩ := zt_cok_in hg.1 e1
      have e3 := zt_rem64 x y (by omega)
      refine ⟨zt_ne064 (by omega), r, fun _ _ => rfl, Nat.le_refl _, zt_stk_in hg ⟨⟨x - x / y * y, rfl, ?_⟩, hv⟩ (fun q hq => (List.mem_cons.mp hq).elim (fun z => by rw [z]; exact zt_cr_lt ha) (hw q))⟩
      show (x - x / y * y).toInt = zt_ev r (zt_cE b.1 a).2
      rw [e3, hx, hy2, h3]
    · exact zt_fremJ_in hg hv hw ha hb hx hy hf
  · split at hf
    · next e1 =>
      cases hf
      have h1 := zt_ge_in hg.1 e1
      rw [zt_sub_ev, zt_sc_ev, zt_k_ev] at h1
      exact ⟨zt_ne064 (by omega), zt_anyJ_in _ hg hv hw⟩
    · exact zt_fremJ_in hg hv hw ha hb hx hy hf
theorem zt_aMJ2_ok {npc : Nat} : zt_pur (zx_lrem npc) (zt_aMJ zt_fremJ2 npc) := zt_aMJ_in (fun S S2 ea eb B r L st st2 h x y hg hv hw ha hb hx hy hf => zt_fremJ2_in hg hv hw ha hb hx hy hf)
