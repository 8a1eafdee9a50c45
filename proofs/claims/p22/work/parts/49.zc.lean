/-! ===== rows that never change, by a tree beside the types: a place laid down as a number ===== -/
noncomputable def zc_lk : List (Nat × zx_Tr Int) → Nat → Option (zx_Tr Int)
  | [], _ => none
  | p :: l, i => match Nat.beq p.1 i with
    | true => some p.2
    | false => zc_lk l i
theorem zc_lk_in {i : Nat} {t : zx_Tr Int} : ∀ {C : List (Nat × zx_Tr Int)}, zc_lk C i = some t → (i, t) ∈ C
  | [], h => nomatch h
  | p :: l, h => by
    unfold zc_lk at h
    split at h
    · next e =>
      cases h
      rw [← Nat.eq_of_beq_eq_true e]
      exact List.mem_cons_self
    · exact List.mem_cons_of_mem _ (zc_lk_in h)
/-- the tree's numbers are what the types tell -/
noncomputable def zc_chk (t : zx_Tr Int) : List zt_Y → Nat → Bool
  | [], _ => true
  | y :: l, k => (match zx_g10 t k with
    | some v => Nat.beq y.1 0 && (decide (y.2.1 = v) && decide (y.2.2.1 = v))
    | none => true) && zc_chk t l (k + 1)
theorem zc_chk_in {t : zx_Tr Int} : ∀ {ys : List zt_Y} {k j : Nat} {v : Int} {y : zt_Y}, zc_chk t ys k = true → ys[j]? = some y → zx_g10 t (k + j) = some v → y.1 = 0 ∧ y.2.1 = v ∧ y.2.2.1 = v
  | [], k, j, v, y, _, h, _ => by simp at h
  | z :: l, k, 0, v, y, h, h1, h2 => by
    unfold zc_chk at h
    rw [Bool.and_eq_true] at h
    have e : z = y := by simpa using h1
    have h3 := h.1
    rw [show zx_g10 t k = some v from h2] at h3
    simp only [Bool.and_eq_true] at h3
    rw [← e]
    exact ⟨Nat.eq_of_beq_eq_true h3.1, of_decide_eq_true h3.2.1, of_decide_eq_true h3.2.2⟩
  | z :: l, k, j + 1, v, y, h, h1, h2 => by
    unfold zc_chk at h
    rw [Bool.and_eq_true] at h
    refine zc_chk_in (j := j) (y := y) h.2 (by simpa using h1) ?_
    rw [show k + 1 + j = k + (j + 1) by omega]
    exact h2
noncomputable def zc_call (T : zx_Tr zt_C) : List (Nat × zx_Tr Int) → Bool
  | [] => true
  | p :: l => (match zx_g10 T p.1 with
    | some (.inr x) => Nat.beq x.2.1 x.2.2.length && zc_chk p.2 x.2.2 0
    | _ => false) && zc_call T l
theorem zc_call_in {T : zx_Tr zt_C} {i : Nat} {t : zx_Tr Int} : ∀ {C : List (Nat × zx_Tr Int)}, zc_call T C = true → (i, t) ∈ C → ∃ x, zx_g10 T i = some (.inr x) ∧ x.2.1 = x.2.2.length ∧ zc_chk t x.2.2 0 = true
  | [], _, h => absurd h List.not_mem_nil
  | p :: l, h, hm => by
    unfold zc_call at h
    rw [Bool.and_eq_true] at h
    rcases List.mem_cons.mp hm with e | e
    · have h1 := h.1
      rw [← e] at h1
      split at h1
      · next x e2 =>
        simp only [Bool.and_eq_true] at h1
        exact ⟨x, e2, Nat.eq_of_beq_eq_true h1.1, h1.2⟩
      · cases h1
    · exact zc_call_in h.2 e
noncomputable def zc_cr (T : zx_Tr zt_C) (C : List (Nat × zx_Tr Int)) (i k : Nat) (S : ze_S) : Option (List ze_S) := match zt_fo i (zt_k (k : Int)) S.1.2.2.2.1 with
  | some _ => some [S]
  | none => match zc_lk C i with
    | none => none
    | some t => match zx_g10 t k with
      | none => none
      | some v => match zx_g10 T i with
        | some (.inr x) => match Nat.blt k x.2.1 with
          | true => some [(zt_ovp i (zt_k (k : Int)) (0, zt_k v, 0) S.1, S.2)]
          | false => none
        | _ => none
theorem zc_cr_in {Z : ze_Z} {T : zx_Tr zt_C} {C : List (Nat × zx_Tr Int)} {K0 i k : Nat} (hC : zc_call T C = true) : ze_cov Z T K0 (zc_cr T C i k) := by
  intro S l r R L st h hk hg hA
  unfold zc_cr at hA
  split at hA
  · cases hA
    exact ⟨S, List.mem_cons_self, r, R, fun _ _ => rfl, fun _ _ => rfl, Nat.le_refl _, Nat.le_refl _, hg⟩
  · split at hA
    · cases hA
    · next t e1 =>
      split at hA
      · cases hA
      · next v e2 =>
        split at hA
        · next x e3 =>
          split at hA
          · next e4 =>
            cases hA
            obtain ⟨x2, f1, f2, f3⟩ := zc_call_in hC (zc_lk_in e1)
            rw [e3] at f1
            cases f1
            obtain ⟨-, d, u, c1, -, c2⟩ := hk i _ e3
            have hlt : k < x.2.1 := Nat.le_of_ble_eq_true e4
            have hn : x.2.2[k]? = some (x.2.2[k]'(by omega)) := List.getElem?_eq_getElem (by omega)
            have hy := c2 k hlt
            have hr : zt_ry x.2.2 k = x.2.2[k]'(by omega) := by
              unfold zt_ry
              rw [zx_nth_eq, Nat.mod_eq_of_lt (by omega), hn]
            obtain ⟨g1, g2, g3⟩ := zc_chk_in (j := k) f3 hn (by rw [Nat.zero_add]; exact e2)
            rw [hr] at hy
            generalize hq : x.2.2[k]'(by omega) = y at hy g1 g2 g3
            obtain ⟨t0, lo, hi, ll⟩ := y
            obtain rfl : t0 = 0 := g1
            obtain ⟨w, w1, w2, w3⟩ : ∃ w : Int32, zx_rd d u k = .int w ∧ lo ≤ w.toInt ∧ w.toInt ≤ hi := hy
            have hat : zt_at h i k = some (.int w) := by
              unfold zt_at
              rw [c1]
              exact congrArg some w1
            have hw : w.toInt = v := by
              have g2' : lo = v := g2
              have g3' : hi = v := g3
              omega
            exact ⟨_, List.mem_cons_self, r, R, fun _ _ => rfl, fun _ _ => rfl, Nat.le_refl _, Nat.le_refl _, zt_ovp_in hg.1 zt_k_lt zt_k_lt (zt_k_ev r _).symm hat ⟨w, rfl, by show w.toInt = zt_ev r (zt_k v); rw [zt_k_ev]; exact hw⟩, hg.2⟩
          · cases hA
        · cases hA
noncomputable def zc_b6 (T : zx_Tr zt_C) (C : List (Nat × zx_Tr Int)) (WD : List zw_D) (j : ze_J) : ze_S → Option (List ze_S) := match j with
  | (27, i :: k :: _, _, _) => zc_cr T C i k
  | j => zc_b5 T WD j
theorem zc_b6_in {WD : List zw_D} {T : zx_Tr zt_C} {C : List (Nat × zx_Tr Int)} {K0 : Nat} (hC : zc_call T C = true) (j : ze_J) : ze_cov (zw_Z WD) T K0 (zc_b6 T C WD j) := by
  unfold zc_b6
  split
  · exact zc_cr_in hC
  · exact zc_b5_in _
noncomputable def zc_G6 (T : zx_Tr zt_C) (C : List (Nat × zx_Tr Int)) (WD : List zw_D) : ze_W := fun j s S => match j with
  | (20, w :: _, _, p :: _) => zc_au WD (zc_b6 T C WD) w p.2.1 p.2.2 s S
  | j => match zc_b6 T C WD j S with
    | none => none
    | some l => some (l, s)
theorem zc_G6_in {WD : List zw_D} {T : zx_Tr zt_C} {C : List (Nat × zx_Tr Int)} {K0 : Nat} (hC : zc_call T C = true) : ze_gc (zw_Z WD) T K0 (zc_G6 T C WD) := by
  intro j s S l s2 r R L st h hk hg hA
  unfold zc_G6 at hA
  split at hA
  · exact zc_au_in (fun j => zc_b6_in hC j) hk hg hA
  · split at hA
    · cases hA
    · next l2 e1 =>
      cases hA
      exact zc_b6_in hC _ S l r R L st h hk hg e1
