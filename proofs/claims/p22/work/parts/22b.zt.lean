/-! ===== a rest by a number: of c times one thing and another that lies below c, the other ===== -/
noncomputable def zt_cq (c : Int) : List zt_T → List zt_T
  | [] => []
  | q :: l => match decide (q.2 % c = 0) with
    | true => (q.1, q.2 / c) :: zt_cq c l
    | false => zt_cq c l
noncomputable def zt_cr (c : Int) : List zt_T → List zt_T
  | [] => []
  | q :: l => match decide (q.2 % c = 0) with
    | true => zt_cr c l
    | false => q :: zt_cr c l
theorem zt_cqr (r : Nat → Int) (c : Int) : ∀ l : List zt_T, zt_tv r l = c * zt_tv r (zt_cq c l) + zt_tv r (zt_cr c l)
  | [] => by
    show (0 : Int) = c * 0 + 0
    omega
  | q :: l => by
    have ih := zt_cqr r c l
    have h1 : zt_tv r (q :: l) = q.2 * r q.1 + zt_tv r l := rfl
    unfold zt_cq zt_cr
    cases e : decide (q.2 % c = 0) with
    | true =>
      have e1 := Int.mul_ediv_cancel_of_emod_eq_zero (of_decide_eq_true e)
      show zt_tv r (q :: l) = c * (q.2 / c * r q.1 + zt_tv r (zt_cq c l)) + zt_tv r (zt_cr c l)
      rw [h1, ih, Int.mul_add, ← Int.mul_assoc, e1]
      omega
    | false =>
      show zt_tv r (q :: l) = c * zt_tv r (zt_cq c l) + (q.2 * r q.1 + zt_tv r (zt_cr c l))
      rw [h1, ih]
      omega
noncomputable def zt_cE (c : Int) (e : zt_E) : zt_E × zt_E := ((e.1 / c, zt_cq c e.2), (e.1 % c, zt_cr c e.2))
theorem zt_cE_ev (r : Nat → Int) (c : Int) (e : zt_E) : zt_ev r e = c * zt_ev r (zt_cE c e).1 + zt_ev r (zt_cE c e).2 := by
  show e.1 + zt_tv r e.2 = c * (e.1 / c + zt_tv r (zt_cq c e.2)) + (e.1 % c + zt_tv r (zt_cr c e.2))
  rw [zt_cqr r c e.2, Int.mul_add, Int.emod_def]
  omega
theorem zt_cr_lt {n : Nat} {c : Int} : ∀ {l : List zt_T}, (∀ q ∈ l, q.1 < n) → ∀ q ∈ zt_cr c l, q.1 < n
  | [], h => h
  | p :: l, h => by
    intro q hq
    unfold zt_cr at hq
    split at hq
    · exact zt_cr_lt (fun q hq => h q (List.mem_cons_of_mem _ hq)) q hq
    · rcases List.mem_cons.mp hq with z | z
      · rw [z]
        exact h p List.mem_cons_self
      · exact zt_cr_lt (fun q hq => h q (List.mem_cons_of_mem _ hq)) q z
noncomputable def zt_cok (F : List zt_E) (c : Int) (a : zt_E) : Bool := decide (0 < c) && (zt_ge F a && (zt_ge F (zt_cE c a).2 && zt_ge F (zt_sub (zt_k (c - 1)) (zt_cE c a).2)))
theorem zt_cok_in {r : Nat → Int} {F : List zt_E} (hF : zt_ok r F) {c : Int} {a : zt_E} (h : zt_cok F c a = true) : 0 < c ∧ 0 ≤ zt_ev r a ∧ (zt_ev r a).tmod c = zt_ev r (zt_cE c a).2 := by
  unfold zt_cok at h
  simp only [Bool.and_eq_true] at h
  obtain ⟨h1, h2, h3, h4⟩ := h
  have g1 : 0 < c := of_decide_eq_true h1
  have g2 := zt_ge_in hF h2
  have g3 := zt_ge_in hF h3
  have g4 := zt_ge_in hF h4
  rw [zt_sub_ev, zt_k_ev] at g4
  refine ⟨g1, g2, ?_⟩
  rw [Int.tmod_eq_emod_of_nonneg g2, zt_cE_ev r c a, Int.add_comm, Int.add_mul_emod_self_left]
  exact Int.emod_eq_of_lt g3 (by omega)
noncomputable def zt_frem2 (S : zt_S) (a b : zt_E) (B : List zt_V) : Option zt_S := match b.2 with
  | [] => (match zt_cok S.2.2.2.2 b.1 a with
    | true => some (zt_stk ((0, (zt_cE b.1 a).2, 0) :: B) S)
    | false => zt_frem S a b B)
  | _ => match zt_ge S.2.2.2.2 (zt_sub (zt_sc (-1) b) (zt_k 1)) with
    | true => some (zt_any B S)
    | false => zt_frem S a b B
theorem zt_frem2_in {r : Nat → Int} {S S2 : zt_S} {a b : zt_E} {B : List zt_V} {L : zx_L} {st st2 : List Value} {h : zx_H} {x y : Int32} (hg : zt_g r S L st h) (hv : zt_vs r B st2) (hw : ∀ q ∈ B, zt_lt S.1 q.2.1) (ha : zt_lt S.1 a) (hb : zt_lt S.1 b) (hx : x.toInt = zt_ev r a) (hy : y.toInt = zt_ev r b) (hf : zt_frem2 S a b B = some S2) : y ≠ 0 ∧ ∃ r2 : Nat → Int, (∀ i, i < S.1 → r2 i = r i) ∧ S.1 ≤ S2.1 ∧ zt_g r2 S2 L (.int (x - x / y * y) :: st2) h := by
  unfold zt_frem2 at hf
  split at hf
  · next e =>
    split at hf
    · next e1 =>
      cases hf
      have hy2 := hy
      rw [zt_kev e] at hy2
      obtain ⟨h1, h2, h3⟩ := zt_cok_in hg.1 e1
      have e3 := zt_rem32 x y (by omega)
      refine ⟨zt_ne032 (by omega), r, fun _ _ => rfl, Nat.le_refl _, zt_stk_in hg ⟨⟨x - x / y * y, rfl, ?_⟩, hv⟩ (fun q hq => (List.mem_cons.mp hq).elim (fun z => by rw [z]; exact zt_cr_lt ha) (hw q))⟩
      show (x - x / y * y).toInt = zt_ev r (zt_cE b.1 a).2
      rw [e3, hx, hy2, h3]
    · exact zt_frem_in hg hv hw ha hb hx hy hf
  · split at hf
    · next e1 =>
      cases hf
      have h1 := zt_ge_in hg.1 e1
      rw [zt_sub_ev, zt_sc_ev, zt_k_ev] at h1
      exact ⟨zt_ne032 (by omega), zt_any_in _ hg hv hw⟩
    · exact zt_frem_in hg hv hw ha hb hx hy hf
theorem zt_aM2_ok {npc : Nat} : zt_pur (zx_irem [] npc) (zt_aM zt_frem2 npc) := zt_aM_in (fun S S2 ea eb B r L st st2 h x y hg hv hw ha hb hx hy hf => zt_frem2_in hg hv hw ha hb hx hy hf)
