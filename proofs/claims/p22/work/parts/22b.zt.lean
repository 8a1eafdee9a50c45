/-! ===== a rest by a number: of c times one thing and another that lies below c, the other ===== -/
noncomputable def zt_cq (c : Int) : List zt_T → List zt_T
  | [] => []
  | q :: l => match decide (q.2 % c = 0) with
    | true => (q.1, q.2 / c) :: zt_cq c l
    | false => zt_cq c l
noncomputable def zt_cr (c : Int) : List zt_T → List zt_T
  | [] => []
  | q :: l => match decide (q.2 % c = 0) with
    | true => zt_cr c l
    | false => q :: zt_cr c l
theorem zt_cqr (r : Nat → Int) (c : Int) : ∀ l : List zt_T, zt_tv r l = c * zt_tv r (zt_cq c l) + zt_tv r (zt_cr c l)
  | [] => by
    show (0 : Int) = c * 0 + 0
    omega
  | q :: l => by
    have ih := zt_cqr r c l
    have h1 : zt_tv r (q :: l) = q.2 * r q.1 + zt_tv r l := rfl
    unfold zt_cq zt_cr
    cases e : decide (q.2 % c = 0) with
    | true =>
      have e1 := Int.mul_ediv_cancel_of_emod_eq_zero (of_decide_eq_true e)
      show zt_tv r (q :: l) = c * (q.2 / c * r q.1 + zt_tv r (zt_cq c l)) + zt_tv r (zt_cr c l)
      rw [h1, ih, Int.mul_add, ← Int.mul_assoc, e1]
      omega
    | false =>
      show zt_tv r (q :: l) = c * zt_tv r (zt_cq c l) + (q.2 * r q.1 + zt_tv r (zt_cr c l))
      rw [h1, ih]
      omega
noncomputable def zt_cE (c : Int) (e : zt_E) : zt_E × zt_E := ((e.1 / c, zt_cq c e.2), (e.1 % c, zt_cr c e.2))
theorem zt_cE_ev (r : Nat → Int) (c : Int) (e : zt_E) : zt_ev r e = c * zt_ev r (zt_cE c e).1 + zt_ev r (zt_cE c e).2 := by
  show e.1 + zt_tv r e.2 = c * (e.1 / c + zt_tv r (zt_cq c e.2)) + (e.1 % c + zt_tv r (zt_cr c e.2))
  rw [zt_cqr r c e.2, Int.mul_add, Int.emod_def]
  omega
theorem zt_cr_lt {n : Nat} {c : Int} : ∀ {l : List zt_T}, (∀ q ∈ l, q.1 < n) → ∀ q ∈ zt_cr c l, q.1 < n
  | [], h => h
  | p :: l, h => by
    intro q hq
    unfold zt_cr at hq
    split at hq
    · exact zt_cr_lt (fun q hq => h q (List.mem_cons_of_mem _ hq)) q hq
    · rcases List.mem_cons.mp hq with z | z
      · rw [z]
        exact h p List.mem_cons_self
      · exact zt_cr_lt (fun q hq => h q (List.mem_cons_of_mem _ hq)) q z
noncomputable def zt_cok (F : List zt_E) (c : Int) (a : zt_E) : Bool := decide (0 < c) && (zt_ge F a && (zt_ge F (zt_cE c a).2 && zt_ge F (zt_sub (zt_k (c - 1)) (zt_cE c a).2)))
theorem zt_cok_in {r : Nat → Int} {F : List zt_E} (hF : zt_ok r F) {c : Int} {a : zt_E} (h : zt_cok F c a = true) : 0 < c ∧ 0 ≤ zt_ev r a ∧ (zt_ev r a).tmod c = zt_ev r (zt_cE c a).2 := by
  unfold zt_cok at h
  simp only [Bool.and_eq_true] at h
  obtain ⟨h1, h2, h3, h4⟩ := h
  have g1 : 0 < c := of_decide_eq_true h1
  have g2 := zt_ge_in hF h2
  have g3 := zt_ge_in hF h3
  have g4 := zt_ge_in hF h4
  rw [zt_sub_ev, zt_k_ev] at g4
  refine ⟨g1, g2, ?_⟩
  rw [Int.tmod_eq_emod_of_nonneg g2, zt_cE_ev r c a, Int.add_comm, Int.add_mul_emod_self_left]
  exact Int.emod_eq_of_lt g3 (by omega)
noncomputable def zt_frem2 (S : zt_S) (a b : zt_E) (B : List zt_V) : Option zt_S := match b.2 with
  | [] => (match zt_cok S.2.2.2.2 b.1 a with
    | true => some (zt_stk ((0, (zt_cE b.1 a).2, 0) :: B) S)
    | false => zt_frem S a b B)
  | _ => match zt_ge S.2.2.2.2 (zt_sub (zt_sc (-1) b) (zt_k 1)) with
    | true => some (zt_any B S)
    | false => zt_frem S a b B
theorem zt_frem2_in {r : Nat → Int} {S S2 : zt_S} {a b : zt_E} {B : List zt_V} {L : zx_L} {st st2 : List Value} {h : zx_H} {x y : Int32} (hg : zt_g r S L st h) (hv : zt_vs r B st2) (hw : ∀ q ∈ B, zt_lt S.1 q.2.1) (ha : zt_lt S.1 a) (hb : zt_lt S.1 b) (hx : x.toInt = zt_ev r a) (hy : y.toInt = zt_ev r b) (hf : zt_frem2 S a b B = some S2) : y ≠ 0 ∧ ∃ r2 : Nat → Int, (∀ i, i < S.1 → r2 i = r i) ∧ S.1 ≤ S2.1 ∧ zt_g r2 S2 L (.int (x - x / y * y) :: st2) h := by
  unfold zt_frem2 at hf
  split at hf
  · next e =>
    split at hf
    · next e1 =>
      cases hf
      have hy2 := hy
      rw [zt_kev e] at hy2
      obtain ⟨h1, h2, h3⟩ := zt_cok_in hg.1 e1
      have e3 := zt_rem32 x y (by omega)
      refine ⟨zt_ne032 (by omega), r, fun _ _ => rfl, Nat.le_refl _, zt_stk_in hg ⟨⟨x - x / y * y, rfl, ?_⟩, hv⟩ (fun q hq => (List.mem_cons.mp hq).elim (fun z => by rw [z]; exact zt_cr_lt ha) (hw q))⟩
      show (x - x / y * y).toInt = zt_ev r (zt_cE b.1 a).2
      rw [e3, hx, hy2, h3]
    · exact zt_frem_in hg hv hw ha hb hx hy hf
  · split at hf
    · next e1 =>
      cases hf
      have h1 := zt_ge_in hg.1 e1
      rw [zt_sub_ev, zt_sc_ev, zt_k_ev] at h1
      exact ⟨zt_ne032 (by omega), zt_any_in _ hg hv hw⟩
    · exact zt_frem_in hg hv hw ha hb hx hy hf
theorem zt_aM2_ok {npc : Nat} : zt_pur (zx_irem [] npc) (zt_aM zt_frem2 npc) := zt_aM_in (fun S S2 ea eb B r L st st2 h x y hg hv hw ha hb hx hy hf => zt_frem2_in hg hv hw ha hb hx hy hf)
/-! ===== a mask of c times one thing and another: the other; bits side by side: the sum ===== -/
theorem zt_andm32 (x y : Int32) (k : Nat) (hk : y.toInt + 1 = ((2 ^ k : Nat) : Int)) (hy0 : 0 ≤ y.toInt) : (x &&& y).toInt = x.toInt % ((2 ^ k : Nat) : Int) := by
  have e : (x &&& y).toBitVec.toNat = x.toBitVec.toNat &&& y.toBitVec.toNat := BitVec.toNat_and ..
  have hx := zt_nat32 x
  have hy := zt_nat32 y
  have hz := zt_nat32 (x &&& y)
  have h3 := x.toBitVec.isLt
  have h4 := y.toBitVec.isLt
  have hy2 : (y.toBitVec.toNat : Int) = y.toInt := by
    have h9 := hy0
    rw [hy] at h9
    split at h9
    · rw [hy, if_pos (by assumption)]
    · omega
  have h5 : 2 ^ k ≤ 2 ^ 31 := by
    have := (zt_i32 y).2
    omega
  have hk31 : k ≤ 31 := (Nat.pow_le_pow_iff_right (by decide)).mp h5
  have e2 : y.toBitVec.toNat = 2 ^ k - 1 := by omega
  have e3 : x.toBitVec.toNat &&& y.toBitVec.toNat = x.toBitVec.toNat % 2 ^ k := by rw [e2, Nat.and_two_pow_sub_one_eq_mod]
  have hp : 0 < 2 ^ k := Nat.two_pow_pos k
  have h6 : x.toBitVec.toNat % 2 ^ k < 2 ^ k := Nat.mod_lt _ hp
  have h7 : (x &&& y).toInt = ((x.toBitVec.toNat % 2 ^ k : Nat) : Int) := by
    rw [hz, e, e3, if_pos (by omega)]
  have h8 : ((x.toBitVec.toNat % 2 ^ k : Nat) : Int) = (x.toBitVec.toNat : Int) % ((2 ^ k : Nat) : Int) := Int.natCast_emod ..
  rw [h7, h8]
  have h9 : x.toInt = (x.toBitVec.toNat : Int) ∨ x.toInt = (x.toBitVec.toNat : Int) - ((2 ^ 32 : Nat) : Int) := by
    rw [hx]
    split
    · exact Or.inl rfl
    · exact Or.inr rfl
  rcases h9 with z | z
  · rw [z]
  · have h10 : ((2 ^ 32 : Nat) : Int) = ((2 ^ k : Nat) : Int) * ((2 ^ (32 - k) : Nat) : Int) := by
      rw [← Int.natCast_mul, ← Nat.pow_add]
      congr 2
      omega
    rw [z, h10, Int.sub_mul_emod_self_left]
noncomputable def zt_fand3 (S : zt_S) (a b : zt_E) (B : List zt_V) : Option zt_S := match b.2 with
  | [] => (match decide (0 ≤ b.1) && decide (b.1 + 1 = ((2 ^ Nat.log2 (b.1 + 1).toNat : Nat) : Int)) with
    | true => (match zt_ge S.2.2.2.2 (zt_cE (b.1 + 1) a).2 && zt_ge S.2.2.2.2 (zt_sub (zt_k b.1) (zt_cE (b.1 + 1) a).2) with
      | true => some (zt_stk ((0, (zt_cE (b.1 + 1) a).2, 0) :: B) S)
      | false => (match zt_ge S.2.2.2.2 (zt_add (zt_cE (b.1 + 1) a).2 (zt_k (b.1 + 1))) && zt_ge S.2.2.2.2 (zt_sub (zt_k (-1)) (zt_cE (b.1 + 1) a).2) with
        | true => some (zt_stk ((0, zt_add (zt_cE (b.1 + 1) a).2 (zt_k (b.1 + 1)), 0) :: B) S)
        | false => zt_fand S a b B))
    | false => zt_fand S a b B)
  | _ => zt_fand S a b B
theorem zt_cE_mod {r : Nat → Int} {c : Int} {a : zt_E} : zt_ev r a % c = zt_ev r (zt_cE c a).2 % c := by
  rw [zt_cE_ev r c a, Int.add_comm, Int.add_mul_emod_self_left]
theorem zt_fand3_in {r : Nat → Int} {S S2 : zt_S} {a b : zt_E} {B : List zt_V} {L : zx_L} {st st2 : List Value} {h : zx_H} {x y : Int32} (hg : zt_g r S L st h) (hv : zt_vs r B st2) (hw : ∀ q ∈ B, zt_lt S.1 q.2.1) (ha : zt_lt S.1 a) (hb : zt_lt S.1 b) (hx : x.toInt = zt_ev r a) (hy : y.toInt = zt_ev r b) (hf : zt_fand3 S a b B = some S2) : ∃ r2 : Nat → Int, (∀ i, i < S.1 → r2 i = r i) ∧ S.1 ≤ S2.1 ∧ zt_g r2 S2 L (.int (x &&& y) :: st2) h := by
  unfold zt_fand3 at hf
  split at hf
  · next e =>
    split at hf
    · next e1 =>
      simp only [Bool.and_eq_true] at e1
      have hy2 := hy
      rw [zt_kev e] at hy2
      have h0 : 0 ≤ b.1 := of_decide_eq_true e1.1
      have h1 : b.1 + 1 = ((2 ^ Nat.log2 (b.1 + 1).toNat : Nat) : Int) := of_decide_eq_true e1.2
      have h2 := zt_andm32 x y (Nat.log2 (b.1 + 1).toNat) (by rw [hy2]; exact h1) (by rw [hy2]; exact h0)
      rw [← h1, hx, zt_cE_mod] at h2
      have hl : zt_lt S.1 (zt_cE (b.1 + 1) a).2 := zt_cr_lt ha
      split at hf
      · next e2 =>
        cases hf
        simp only [Bool.and_eq_true] at e2
        have g1 := zt_ge_in hg.1 e2.1
        have g2 := zt_ge_in hg.1 e2.2
        rw [zt_sub_ev, zt_k_ev] at g2
        rw [Int.emod_eq_of_lt g1 (by omega)] at h2
        exact ⟨r, fun _ _ => rfl, Nat.le_refl _, zt_stk_in hg ⟨⟨x &&& y, rfl, h2⟩, hv⟩ (fun q hq => (List.mem_cons.mp hq).elim (fun z => by rw [z]; exact hl) (hw q))⟩
      · split at hf
        · next e2 =>
          cases hf
          simp only [Bool.and_eq_true] at e2
          have g1 := zt_ge_in hg.1 e2.1
          have g2 := zt_ge_in hg.1 e2.2
          rw [zt_add_ev, zt_k_ev] at g1
          rw [zt_sub_ev, zt_k_ev] at g2
          rw [← Int.add_emod_right, Int.emod_eq_of_lt g1 (by omega)] at h2
          refine ⟨r, fun _ _ => rfl, Nat.le_refl _, zt_stk_in hg ⟨⟨x &&& y, rfl, ?_⟩, hv⟩ (fun q hq => (List.mem_cons.mp hq).elim (fun z => by rw [z]; exact zt_add_lt hl zt_k_lt) (hw q))⟩
          rw [h2]
          show _ = zt_ev r (zt_add (zt_cE (b.1 + 1) a).2 (zt_k (b.1 + 1)))
          rw [zt_add_ev, zt_k_ev]
        · exact zt_fand_in hg hv hw ha hb hx hy hf
    · exact zt_fand_in hg hv hw ha hb hx hy hf
  · exact zt_fand_in hg hv hw ha hb hx hy hf
/-- the greatest power of 2, up to 2^30, that divides all of a linear thing -/
noncomputable def zt_p2 : List zt_T → Nat → Nat
  | [], c => c
  | q :: l, c => zt_p2 l (Nat.gcd c q.2.natAbs)
theorem zt_p2_dvd : ∀ {l : List zt_T} {c : Nat}, zt_p2 l c ∣ c ∧ ∀ q ∈ l, ((zt_p2 l c : Nat) : Int) ∣ q.2
  | [], c => ⟨Nat.dvd_refl _, fun _ h => nomatch h⟩
  | q :: l, c => by
    obtain ⟨h1, h2⟩ := zt_p2_dvd (l := l) (c := Nat.gcd c q.2.natAbs)
    refine ⟨Nat.dvd_trans h1 (Nat.gcd_dvd_left _ _), fun p hp => ?_⟩
    rcases List.mem_cons.mp hp with z | z
    · rw [z]
      exact Int.ofNat_dvd_left.mpr (Nat.dvd_trans h1 (Nat.gcd_dvd_right _ _))
    · exact h2 p z
theorem zt_tv_dvd {r : Nat → Int} {c : Int} : ∀ {l : List zt_T}, (∀ q ∈ l, c ∣ q.2) → c ∣ zt_tv r l
  | [], _ => ⟨0, by show (0 : Int) = c * 0; omega⟩
  | q :: l, h => Int.dvd_add (Int.dvd_mul_of_dvd_left (h q List.mem_cons_self)) (zt_tv_dvd (fun p hp => h p (List.mem_cons_of_mem _ hp)))
noncomputable def zt_pc (b : zt_E) : Nat := zt_p2 b.2 (Nat.gcd 1073741824 b.1.natAbs)
theorem zt_pc_dvd {r : Nat → Int} {b : zt_E} : ((zt_pc b : Nat) : Int) ∣ zt_ev r b := by
  obtain ⟨h1, h2⟩ := zt_p2_dvd (l := b.2) (c := Nat.gcd 1073741824 b.1.natAbs)
  exact Int.dvd_add (Int.ofNat_dvd_left.mpr (Nat.dvd_trans h1 (Nat.gcd_dvd_right _ _))) (zt_tv_dvd h2)
theorem zt_ors32 (x y : Int32) (k : Nat) (hx0 : 0 ≤ x.toInt) (hx1 : x.toInt < ((2 ^ k : Nat) : Int)) (hy0 : 0 ≤ y.toInt) (hy1 : ((2 ^ k : Nat) : Int) ∣ y.toInt) : (x ||| y).toInt = x.toInt + y.toInt := by
  have e : (x ||| y).toBitVec.toNat = x.toBitVec.toNat ||| y.toBitVec.toNat := BitVec.toNat_or ..
  have hx := zt_nat32 x
  have hy := zt_nat32 y
  have hz := zt_nat32 (x ||| y)
  have h3 := x.toBitVec.isLt
  have h4 := y.toBitVec.isLt
  have hx2 : (x.toBitVec.toNat : Int) = x.toInt ∧ x.toBitVec.toNat < 2 ^ 31 := by
    have h9 := hx0
    rw [hx] at h9
    split at h9
    · rw [hx, if_pos (by assumption)]
      exact ⟨rfl, by omega⟩
    · omega
  have hy2 : (y.toBitVec.toNat : Int) = y.toInt ∧ y.toBitVec.toNat < 2 ^ 31 := by
    have h9 := hy0
    rw [hy] at h9
    split at h9
    · rw [hy, if_pos (by assumption)]
      exact ⟨rfl, by omega⟩
    · omega
  obtain ⟨m, hm⟩ : 2 ^ k ∣ y.toBitVec.toNat := by
    rw [← hy2.1] at hy1
    exact Int.natCast_dvd_natCast.mp hy1
  have h5 : x.toBitVec.toNat < 2 ^ k := by omega
  have h6 := Nat.two_pow_add_eq_or_of_lt h5 m
  have h7 : x.toBitVec.toNat ||| y.toBitVec.toNat = y.toBitVec.toNat + x.toBitVec.toNat := by
    rw [Nat.or_comm, hm, ← h6]
  have h8 : x.toBitVec.toNat ||| y.toBitVec.toNat < 2 ^ 31 := Nat.or_lt_two_pow hx2.2 hy2.2
  rw [hz, e, if_pos (by omega), h7, ← hx2.1, ← hy2.1]
  omega
/-- whether bits lie side by side: a below what divides b -/
noncomputable def zt_sd (F : List zt_E) (a b : zt_E) : Bool := decide (zt_pc b = 2 ^ Nat.log2 (zt_pc b)) && (zt_ge F a && (zt_ge F b && zt_ge F (zt_sub (zt_k (Int.ofNat (zt_pc b) - 1)) a)))
theorem zt_sd_in {r : Nat → Int} {F : List zt_E} (hF : zt_ok r F) {a b : zt_E} {x y : Int32} (hx : x.toInt = zt_ev r a) (hy : y.toInt = zt_ev r b) (h : zt_sd F a b = true) : (x ||| y).toInt = zt_ev r (zt_add a b) := by
  unfold zt_sd at h
  simp only [Bool.and_eq_true] at h
  obtain ⟨h1, h2, h3, h4⟩ := h
  have g1 := of_decide_eq_true h1
  have g2 := zt_ge_in hF h2
  have g3 := zt_ge_in hF h3
  have g4 := zt_ge_in hF h4
  rw [zt_sub_ev, zt_k_ev] at g4
  have g5 : Int.ofNat (zt_pc b) = ((2 ^ Nat.log2 (zt_pc b) : Nat) : Int) := congrArg Int.ofNat g1
  have g6 := zt_pc_dvd (r := r) (b := b)
  rw [show ((zt_pc b : Nat) : Int) = ((2 ^ Nat.log2 (zt_pc b) : Nat) : Int) from g5] at g6
  rw [zt_ors32 x y (Nat.log2 (zt_pc b)) (by rw [hx]; exact g2) (by rw [hx, ← g5]; omega) (by rw [hy]; exact g3) (by rw [hy]; exact g6), zt_add_ev, hx, hy]
theorem zt_ors64 (x y : Int64) (k : Nat) (hk : k ≤ 63) (hx0 : 0 ≤ x.toInt) (hx1 : x.toInt < ((2 ^ k : Nat) : Int)) (hy1 : ((2 ^ k : Nat) : Int) ∣ y.toInt) : (x ||| y).toInt = x.toInt + y.toInt := by
  have e : (x ||| y).toBitVec.toNat = x.toBitVec.toNat ||| y.toBitVec.toNat := BitVec.toNat_or ..
  have hx := zt_nat64 x
  have hy := zt_nat64 y
  have hz := zt_nat64 (x ||| y)
  have h3 := x.toBitVec.isLt
  have h4 := y.toBitVec.isLt
  have hc : (2 : Nat) ^ 63 = 2 ^ k * 2 ^ (63 - k) := by rw [← Nat.pow_add]; congr 1; omega
  have hd : (2 : Nat) ^ 64 = 2 ^ k * 2 ^ (64 - k) := by rw [← Nat.pow_add]; congr 1; omega
  have hpos : 0 < 2 ^ (63 - k) := Nat.two_pow_pos _
  have hle : 2 ^ k ≤ 2 ^ 63 := by rw [hc]; exact Nat.le_mul_of_pos_right _ hpos
  have hx2 : (x.toBitVec.toNat : Int) = x.toInt := by
    rw [hx] at hx0
    split at hx0
    · rw [hx, if_pos (by assumption)]
    · omega
  obtain ⟨m, hm⟩ : 2 ^ k ∣ y.toBitVec.toNat := by
    rw [hy] at hy1
    split at hy1
    · exact Int.natCast_dvd_natCast.mp hy1
    · have g1 : ((2 ^ k : Nat) : Int) ∣ ((2 ^ 64 : Nat) : Int) := Int.natCast_dvd_natCast.mpr ⟨2 ^ (64 - k), hd⟩
      have g2 := Int.dvd_add hy1 g1
      rw [Int.sub_add_cancel] at g2
      exact Int.natCast_dvd_natCast.mp g2
  have h5 : x.toBitVec.toNat < 2 ^ k := by omega
  have h6 := Nat.two_pow_add_eq_or_of_lt h5 m
  have h7 : x.toBitVec.toNat ||| y.toBitVec.toNat = y.toBitVec.toNat + x.toBitVec.toNat := by
    rw [Nat.or_comm, hm, ← h6]
  have h8 : 2 * y.toBitVec.toNat < 2 ^ 64 → y.toBitVec.toNat + 2 ^ k ≤ 2 ^ 63 := fun g => by
    have g3 : 2 ^ k * m < 2 ^ k * 2 ^ (63 - k) := by rw [← hm, ← hc]; omega
    have g4 : m < 2 ^ (63 - k) := Nat.lt_of_mul_lt_mul_left g3
    have g5 : 2 ^ k * (m + 1) ≤ 2 ^ k * 2 ^ (63 - k) := Nat.mul_le_mul_left _ g4
    rw [Nat.mul_add, Nat.mul_one, ← hm, ← hc] at g5
    exact g5
  rw [hz, e, h7, ← hx2, hy]
  by_cases g : 2 * y.toBitVec.toNat < 2 ^ 64
  · have g6 := h8 g
    rw [if_pos g, if_pos (by omega)]
    omega
  · rw [if_neg g, if_neg (by omega)]
    omega
noncomputable def zt_sd64 (F : List zt_E) (a b : zt_E) : Bool := decide (zt_pc b = 2 ^ Nat.log2 (zt_pc b)) && (Nat.ble (Nat.log2 (zt_pc b)) 63 && (zt_ge F a && zt_ge F (zt_sub (zt_k (Int.ofNat (zt_pc b) - 1)) a)))
theorem zt_sd64_in {r : Nat → Int} {F : List zt_E} (hF : zt_ok r F) {a b : zt_E} {x y : Int64} (hx : x.toInt = zt_ev r a) (hy : y.toInt = zt_ev r b) (h : zt_sd64 F a b = true) : (x ||| y).toInt = zt_ev r (zt_add a b) := by
  unfold zt_sd64 at h
  simp only [Bool.and_eq_true] at h
  obtain ⟨h1, h2, h3, h4⟩ := h
  have g1 := of_decide_eq_true h1
  have g2 := zt_ge_in hF h3
  have g4 := zt_ge_in hF h4
  rw [zt_sub_ev, zt_k_ev] at g4
  have g5 : Int.ofNat (zt_pc b) = ((2 ^ Nat.log2 (zt_pc b) : Nat) : Int) := congrArg Int.ofNat g1
  have g6 := zt_pc_dvd (r := r) (b := b)
  rw [show ((zt_pc b : Nat) : Int) = ((2 ^ Nat.log2 (zt_pc b) : Nat) : Int) from g5] at g6
  rw [zt_ors64 x y (Nat.log2 (zt_pc b)) (Nat.le_of_ble_eq_true h2) (by rw [hx]; exact g2) (by rw [hx, ← g5]; omega) (by rw [hy]; exact g6), zt_add_ev, hx, hy]
/-! ===== a mask over longs ===== -/
theorem zt_andm64 (x y : Int64) (k : Nat) (hk : y.toInt + 1 = ((2 ^ k : Nat) : Int)) (hy0 : 0 ≤ y.toInt) : (x &&& y).toInt = x.toInt % ((2 ^ k : Nat) : Int) := by
  have e : (x &&& y).toBitVec.toNat = x.toBitVec.toNat &&& y.toBitVec.toNat := BitVec.toNat_and ..
  have hx := zt_nat64 x
  have hy := zt_nat64 y
  have hz := zt_nat64 (x &&& y)
  have h3 := x.toBitVec.isLt
  have h4 := y.toBitVec.isLt
  have hy2 : (y.toBitVec.toNat : Int) = y.toInt := by
    have h9 := hy0
    rw [hy] at h9
    split at h9
    · rw [hy, if_pos (by assumption)]
    · omega
  have h5 : 2 ^ k ≤ 2 ^ 63 := by
    have := (zt_i64 y).2
    omega
  have hk63 : k ≤ 63 := (Nat.pow_le_pow_iff_right (by decide)).mp h5
  have e2 : y.toBitVec.toNat = 2 ^ k - 1 := by omega
  have e3 : x.toBitVec.toNat &&& y.toBitVec.toNat = x.toBitVec.toNat % 2 ^ k := by rw [e2, Nat.and_two_pow_sub_one_eq_mod]
  have hp : 0 < 2 ^ k := Nat.two_pow_pos k
  have h6 : x.toBitVec.toNat % 2 ^ k < 2 ^ k := Nat.mod_lt _ hp
  have h7 : (x &&& y).toInt = ((x.toBitVec.toNat % 2 ^ k : Nat) : Int) := by
    rw [hz, e, e3, if_pos (by omega)]
  have h8 : ((x.toBitVec.toNat % 2 ^ k : Nat) : Int) = (x.toBitVec.toNat : Int) % ((2 ^ k : Nat) : Int) := Int.natCast_emod ..
  rw [h7, h8]
  have h9 : x.toInt = (x.toBitVec.toNat : Int) ∨ x.toInt = (x.toBitVec.toNat : Int) - ((2 ^ 64 : Nat) : Int) := by
    rw [hx]
    split
    · exact Or.inl rfl
    · exact Or.inr rfl
  rcases h9 with z | z
  · rw [z]
  · have h10 : ((2 ^ 64 : Nat) : Int) = ((2 ^ k : Nat) : Int) * ((2 ^ (64 - k) : Nat) : Int) := by
      rw [← Int.natCast_mul, ← Nat.pow_add]
      congr 2
      omega
    rw [z, h10, Int.sub_mul_emod_self_left]
noncomputable def zt_fandJ3 (S : zt_S) (a b : zt_E) (B : List zt_V) : Option zt_S := match b.2 with
  | [] => (match decide (0 ≤ b.1) && decide (b.1 + 1 = ((2 ^ Nat.log2 (b.1 + 1).toNat : Nat) : Int)) with
    | true => (match zt_ge S.2.2.2.2 (zt_cE (b.1 + 1) a).2 && zt_ge S.2.2.2.2 (zt_sub (zt_k b.1) (zt_cE (b.1 + 1) a).2) with
      | true => some (zt_stk ((1, (zt_cE (b.1 + 1) a).2, 0) :: B) S)
      | false => (match zt_ge S.2.2.2.2 (zt_add (zt_cE (b.1 + 1) a).2 (zt_k (b.1 + 1))) && zt_ge S.2.2.2.2 (zt_sub (zt_k (-1)) (zt_cE (b.1 + 1) a).2) with
        | true => some (zt_stk ((1, zt_add (zt_cE (b.1 + 1) a).2 (zt_k (b.1 + 1)), 0) :: B) S)
        | false => zt_fandJ S a b B))
    | false => zt_fandJ S a b B)
  | _ => zt_fandJ S a b B
theorem zt_fandJ3_in {r : Nat → Int} {S S2 : zt_S} {a b : zt_E} {B : List zt_V} {L : zx_L} {st st2 : List Value} {h : zx_H} {x y : Int64} (hg : zt_g r S L st h) (hv : zt_vs r B st2) (hw : ∀ q ∈ B, zt_lt S.1 q.2.1) (ha : zt_lt S.1 a) (hb : zt_lt S.1 b) (hx : x.toInt = zt_ev r a) (hy : y.toInt = zt_ev r b) (hf : zt_fandJ3 S a b B = some S2) : ∃ r2 : Nat → Int, (∀ i, i < S.1 → r2 i = r i) ∧ S.1 ≤ S2.1 ∧ zt_g r2 S2 L (.long (x &&& y) :: st2) h := by
  unfold zt_fandJ3 at hf
  split at hf
  · next e =>
    split at hf
    · next e1 =>
      simp only [Bool.and_eq_true] at e1
      have hy2 := hy
      rw [zt_kev e] at hy2
      have h0 : 0 ≤ b.1 := of_decide_eq_true e1.1
      have h1 : b.1 + 1 = ((2 ^ Nat.log2 (b.1 + 1).toNat : Nat) : Int) := of_decide_eq_true e1.2
      have h2 := zt_andm64 x y (Nat.log2 (b.1 + 1).toNat) (by rw [hy2]; exact h1) (by rw [hy2]; exact h0)
      rw [← h1, hx, zt_cE_mod] at h2
      have hl : zt_lt S.1 (zt_cE (b.1 + 1) a).2 := zt_cr_lt ha
      split at hf
      · next e2 =>
        cases hf
        simp only [Bool.and_eq_true] at e2
        have g1 := zt_ge_in hg.1 e2.1
        have g2 := zt_ge_in hg.1 e2.2
        rw [zt_sub_ev, zt_k_ev] at g2
        rw [Int.emod_eq_of_lt g1 (by omega)] at h2
        exact ⟨r, fun _ _ => rfl, Nat.le_refl _, zt_stk_in hg ⟨⟨x &&& y, rfl, h2⟩, hv⟩ (fun q hq => (List.mem_cons.mp hq).elim (fun z => by rw [z]; exact hl) (hw q))⟩
      · split at hf
        · next e2 =>
          cases hf
          simp only [Bool.and_eq_true] at e2
          have g1 := zt_ge_in hg.1 e2.1
          have g2 := zt_ge_in hg.1 e2.2
          rw [zt_add_ev, zt_k_ev] at g1
          rw [zt_sub_ev, zt_k_ev] at g2
          rw [← Int.add_emod_right, Int.emod_eq_of_lt g1 (by omega)] at h2
          refine ⟨r, fun _ _ => rfl, Nat.le_refl _, zt_stk_in hg ⟨⟨x &&& y, rfl, ?_⟩, hv⟩ (fun q hq => (List.mem_cons.mp hq).elim (fun z => by rw [z]; exact zt_add_lt hl zt_k_lt) (hw q))⟩
          rw [h2]
          show _ = zt_ev r (zt_add (zt_cE (b.1 + 1) a).2 (zt_k (b.1 + 1)))
          rw [zt_add_ev, zt_k_ev]
        · exact zt_fandJ_in hg hv hw ha hb hx hy hf
    · exact zt_fandJ_in hg hv hw ha hb hx hy hf
  · exact zt_fandJ_in hg hv hw ha hb hx hy hf
