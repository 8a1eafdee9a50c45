/-! ===== a word of its own: strings put together, one after the other ===== -/
/-- strings below a place, and the place -/
abbrev zs_Q : Type := Nat × (Nat → Int)
def zs_m (G w : Nat → Int) (sm len : Nat) : Prop := ∃ p : Nat, p + len < sm ∧ G (p + len) = 0 ∧ ∀ k : Nat, k < len → G (p + k) = w k
noncomputable def zs_put (w : Nat → Int) (len : Nat) (s : zs_Q) : zs_Q := @ite _ (zs_m s.2 w s.1 len) (Classical.propDecidable _) s (s.1 + len + 1, fun i => if i < s.1 then s.2 i else if i < s.1 + len then w (i - s.1) else 0)
noncomputable def zs_tx (tu nd nm : Nat → Int) (n : Nat) (s : zs_Q) : Nat → zs_Q
  | 0 => s
  | x + 1 => if tu x = (n : Int) then zs_put (fun k => nm (16 * x + k)) (nd x).toNat (zs_tx tu nd nm n s x) else zs_tx tu nd nm n s x
noncomputable def zs_tn (tu nd nm : Nat → Int) (many : Nat) : Nat → zs_Q
  | 0 => (1, fun _ => 0)
  | n + 1 => zs_tx tu nd nm n (zs_tn tu nd nm many n) many
noncomputable def zs_u (tu nd nm : Nat → Int) (many n x : Nat) : zs_Q := zs_tx tu nd nm n (zs_tn tu nd nm many n) x
theorem zs_tx_eq {tu tu2 nd nm : Nat → Int} {n : Nat} {s : zs_Q} : ∀ {x : Nat}, (∀ i : Nat, i < x → tu i = tu2 i) → zs_tx tu nd nm n s x = zs_tx tu2 nd nm n s x
  | 0, _ => rfl
  | x + 1, h => by
    unfold zs_tx
    rw [h x (Nat.lt_succ_self x), zs_tx_eq (x := x) (fun i hi => h i (Nat.lt_succ_of_lt hi))]
theorem zs_tn_eq {tu tu2 nd nm : Nat → Int} {many : Nat} (h : ∀ i : Nat, i < many → tu i = tu2 i) : ∀ {n : Nat}, zs_tn tu nd nm many n = zs_tn tu2 nd nm many n
  | 0 => rfl
  | n + 1 => by
    unfold zs_tn
    rw [zs_tn_eq h (n := n), zs_tx_eq h]
def zs_U (rows : List (Nat → Int)) (es : List Int) : Prop := match rows, es with
  | [st, tu, nd, nm], [_, _, n, x, sm, many] => 0 ≤ n ∧ 0 ≤ x ∧ 0 ≤ many ∧ sm = ((zs_u tu nd nm many.toNat n.toNat x.toNat).1 : Int) ∧ ∀ i : Nat, i < (zs_u tu nd nm many.toNat n.toNat x.toNat).1 → st i = (zs_u tu nd nm many.toNat n.toNat x.toNat).2 i
  | _, _ => False
/-- the words laid down, and this one (w + 2) -/
def zs_Z (WD : List zw_D) (w : Nat) : ze_Z := fun v rows es => zw_Z WD v rows es ∧ (v = w + 2 → zs_U rows es)
theorem zs_Zk {WD : List zw_D} {w : Nat} : ze_Zk (zs_Z WD w) := ⟨fun f j x => ⟨fun h => h.1, fun h => ⟨h, fun e => nomatch e⟩⟩, fun f g j x => ⟨fun h => h.1, fun h => ⟨h, fun e => nomatch e⟩⟩⟩
theorem zs_low {WD : List zw_D} {w : Nat} {r : Nat → Int} {R : Nat → Nat → Int} {S : ze_S} {L : zx_L} {st : List Value} {h : zx_H} (hg : ze_g (zs_Z WD w) r R S L st h) : ze_g (zw_Z WD) r R S L st h := ⟨hg.1, ⟨hg.2.1.1, fun p hp => (hg.2.1.2 p hp).1⟩, hg.2.2⟩
/-- no word of this sort, but such as stand there already -/
noncomputable def zs_ck (w : Nat) (P : List ze_P) (q : ze_S) : Bool := ze_all (fun p => match Nat.beq p.1 (w + 2) with | true => zw_has p P | false => true) q.2.2.2.2.2
theorem zs_up {WD : List zw_D} {w : Nat} {r r2 : Nat → Int} {R R2 : Nat → Nat → Int} {S q : ze_S} {L L2 : zx_L} {st st2 : List Value} {h h2 : zx_H} (hg : ze_g (zs_Z WD w) r R S L st h) (hq : ze_g (zw_Z WD) r2 R2 q L2 st2 h2) (hr : ∀ i, i < S.1.1 → r2 i = r i) (hR : ∀ i, i < S.2.1 → R2 i = R i) (hc : zs_ck w S.2.2.2.2.2 q = true) : ze_g (zs_Z WD w) r2 R2 q L2 st2 h2 := by
  refine ⟨hq.1, ⟨hq.2.1.1, fun p hp => ⟨hq.2.1.2 p hp, fun e => ?_⟩⟩, hq.2.2⟩
  have h1 : (match Nat.beq p.1 (w + 2) with | true => zw_has p S.2.2.2.2.2 | false => true) = true := ze_all_in hc p hp
  rw [e, Nat.beq_refl] at h1
  have h3 := zw_has_in h1
  have h4 := (hg.2.1.2 p h3).2 e
  have h5 := hg.2.2.2.2.2 p h3
  rw [ze_map_eq (g := R) (fun i hi => hR i (h5.1 i hi)), ze_map_eq (g := zt_ev r) (fun e he => zt_ev_eq hr (h5.2 e he))]
  exact h4
/-- what a rule asks: words, facts; what it gives: facts, words -/
abbrev zs_N : Type := List ze_P × List zt_E × List zt_E × List ze_P
noncomputable def zs_st (need : zs_N) (S : ze_S) : Option (List ze_S) := match ze_all (fun p => zw_has p S.2.2.2.2.2) need.1 && (ze_all (zt_ge S.1.2.2.2.2) need.2.1 && (ze_all (fun e => zt_ltb S.1.1 e.2) need.2.2.1 && ze_all (fun p => ze_all (fun i => Nat.blt i S.2.1) p.2.1 && ze_all (fun e => zt_ltb S.1.1 e.2) p.2.2) need.2.2.2)) with
  | false => none
  | true => some [zc_ad need.2.2.1 need.2.2.2 S]
def zs_ok (Z : ze_Z) (need : zs_N) : Prop := ∀ (r : Nat → Int) (R : Nat → Nat → Int), (∀ p ∈ need.1, Z p.1 (p.2.1.map R) (p.2.2.map (zt_ev r))) → (∀ f ∈ need.2.1, 0 ≤ zt_ev r f) → (∀ f ∈ need.2.2.1, 0 ≤ zt_ev r f) ∧ ∀ p ∈ need.2.2.2, Z p.1 (p.2.1.map R) (p.2.2.map (zt_ev r))
theorem zs_st_in {Z : ze_Z} {T : zx_Tr zt_C} {K0 : Nat} {need : zs_N} (hn : zs_ok Z need) : ze_cov Z T K0 (zs_st need) := by
  intro S l r R L st h hk hg hA
  unfold zs_st at hA
  split at hA
  · cases hA
  · next e =>
    cases hA
    simp only [Bool.and_eq_true] at e
    obtain ⟨h1, h2, h3, h4⟩ := e
    obtain ⟨k1, k2⟩ := hn r R (fun p hp => hg.2.1.2 p (zw_has_in (ze_all_in h1 p hp))) (fun f hf => zt_ge_in hg.1.1 (ze_all_in h2 f hf))
    refine ⟨_, List.mem_cons_self, r, R, fun _ _ => rfl, fun _ _ => rfl, Nat.le_refl _, Nat.le_refl _, zc_ad_in hg (fun f hf => ⟨k1 f hf, zt_ltb_in (ze_all_in h3 f hf)⟩) (fun p hp => ?_)⟩
    have h5 := ze_all_in h4 p hp
    rw [Bool.and_eq_true] at h5
    exact ⟨k2 p hp, fun i hi => Nat.le_of_ble_eq_true (ze_all_in h5.1 i hi), fun e he => zt_ltb_in (ze_all_in h5.2 e he)⟩
/-- one row is another, moved -/
def zs_dse : zw_D := (1, [(0, (0, [(0, 1), (1, 1)])), (1, (0, [(0, 1)]))], [[(0, [(2, 1), (3, -1)])], [(0, [(2, -1), (3, 1)])]])
/-- at no place of a stretch: a row tells where it differs -/
def zs_dnm : zw_D := (1, [(0, (0, [(0, 1)])), (1, (0, [(0, 1), (2, 1)])), (2, (0, [(2, 1)])), (1, (0, [(0, 1), (1, 1)]))], [[(0, [(2, 1)])], [(0, [(1, 1), (2, -1)])], [(0, [(1, -1), (2, 1)]), (-1, [(3, 1), (4, -1)]), (-1, [(3, -1), (4, 1)])], [(-1, [(1, 1), (2, -1)]), (-1, [(5, 1)]), (-1, [(5, -1)])]])
theorem zs_se {a b : Nat → Int} {lo hi s : Int} (h : zw_all zs_dse [a, b] [lo, hi, s]) {i : Int} (h1 : lo ≤ i) (h2 : i < hi) : a (i + s).toNat = b i.toNat := by
  have h3 := h i h1 h2
  obtain ⟨f, f1, f2⟩ := h3 [(0, [(2, 1), (3, -1)])] (by unfold zs_dse; exact List.mem_cons_self)
  obtain ⟨g, g1, g2⟩ := h3 [(0, [(2, -1), (3, 1)])] (by unfold zs_dse; exact List.mem_cons_of_mem _ List.mem_cons_self)
  rw [List.mem_singleton.mp f1] at f2
  rw [List.mem_singleton.mp g1] at g2
  have e1 : zt_ev (zw_go (zw_rw [a, b]) zs_dse.2.1 (zs_dse.1 + 1) (zw_e0 i [s])) (0, [(2, 1), (3, -1)]) = 0 + (1 * a (0 + (1 * i + (1 * s + 0))).toNat + (-1 * b (0 + (1 * i + 0)).toNat + 0)) := rfl
  have e2 : zt_ev (zw_go (zw_rw [a, b]) zs_dse.2.1 (zs_dse.1 + 1) (zw_e0 i [s])) (0, [(2, -1), (3, 1)]) = 0 + (-1 * a (0 + (1 * i + (1 * s + 0))).toNat + (1 * b (0 + (1 * i + 0)).toNat + 0)) := rfl
  rw [e1] at f2
  rw [e2] at g2
  rw [show (0 : Int) + (1 * i + (1 * s + 0)) = i + s by omega, show (0 : Int) + (1 * i + 0) = i by omega] at f2 g2
  omega
theorem zs_nm {X st wd : Nat → Int} {lo hi len : Int} (h : zw_all zs_dnm [X, st, wd] [lo, hi, len]) {i : Int} (h1 : lo ≤ i) (h2 : i < hi) : 0 ≤ X i.toNat ∧ X i.toNat ≤ len ∧ (X i.toNat < len → st (i + X i.toNat).toNat ≠ wd (X i.toNat).toNat) ∧ (X i.toNat = len → st (i + len).toNat ≠ 0) := by
  have h3 := h i h1 h2
  have mem : ∀ k : Nat, k < 4 → zs_dnm.2.2.getD k [] ∈ zs_dnm.2.2 := by decide
  obtain ⟨f0, a0, b0⟩ := h3 _ (mem 0 (by decide))
  obtain ⟨f1, a1, b1⟩ := h3 _ (mem 1 (by decide))
  obtain ⟨f2, a2, b2⟩ := h3 _ (mem 2 (by decide))
  obtain ⟨f3, a3, b3⟩ := h3 _ (mem 3 (by decide))
  have en : ∀ (c : Int) (l : List zt_T), zt_ev (zw_go (zw_rw [X, st, wd]) zs_dnm.2.1 (zs_dnm.1 + 1) (zw_e0 i [len])) (c, l) = zt_ev (fun k => match k with | 0 => i | 1 => len | 2 => X (0 + (1 * i + 0)).toNat | 3 => st (0 + (1 * i + (1 * X (0 + (1 * i + 0)).toNat + 0))).toNat | 4 => wd (0 + (1 * X (0 + (1 * i + 0)).toNat + 0)).toNat | 5 => st (0 + (1 * i + (1 * len + 0))).toNat | k + 6 => zw_e0 i [len] (k + 6)) (c, l) := by
    intro c l
    congr 1
    funext k
    match k with
    | 0 => rfl
    | 1 => rfl
    | 2 => rfl
    | 3 => rfl
    | 4 => rfl
    | 5 => rfl
    | k + 6 =>
      simp [zw_go, zs_dnm]
  rw [show (0 : Int) + (1 * i + 0) = i by omega] at en
  rw [show (0 : Int) + (1 * i + (1 * X i.toNat + 0)) = i + X i.toNat by omega, show (0 : Int) + (1 * X i.toNat + 0) = X i.toNat by omega, show (0 : Int) + (1 * i + (1 * len + 0)) = i + len by omega] at en
  have m0 : f0 ∈ [((0, [(2, 1)]) : zt_E)] := a0
  have m1 : f1 ∈ [((0, [(1, 1), (2, -1)]) : zt_E)] := a1
  have m2 : f2 ∈ [((0, [(1, -1), (2, 1)]) : zt_E), (-1, [(3, 1), (4, -1)]), (-1, [(3, -1), (4, 1)])] := a2
  have m3 : f3 ∈ [((-1, [(1, 1), (2, -1)]) : zt_E), (-1, [(5, 1)]), (-1, [(5, -1)])] := a3
  simp only [List.mem_cons, List.not_mem_nil, or_false] at m0 m1 m2 m3
  subst m0
  subst m1
  rw [en] at b0 b1
  have c0 : 0 ≤ 0 + (1 * X i.toNat + 0) := b0
  have c1 : 0 ≤ 0 + (1 * len + (-1 * X i.toNat + 0)) := b1
  refine ⟨by omega, by omega, fun hx => ?_, fun hx => ?_⟩
  · rcases m2 with e | e | e <;> subst e <;> rw [en] at b2
    · have c2 : 0 ≤ 0 + (-1 * len + (1 * X i.toNat + 0)) := b2
      omega
    · have c2 : 0 ≤ -1 + (1 * st (i + X i.toNat).toNat + (-1 * wd (X i.toNat).toNat + 0)) := b2
      omega
    · have c2 : 0 ≤ -1 + (-1 * st (i + X i.toNat).toNat + (1 * wd (X i.toNat).toNat + 0)) := b2
      omega
  · rcases m3 with e | e | e <;> subst e <;> rw [en] at b3
    · have c2 : 0 ≤ -1 + (1 * len + (-1 * X i.toNat + 0)) := b3
      omega
    · have c2 : 0 ≤ -1 + (1 * st (i + len).toNat + 0) := b3
      omega
    · have c2 : 0 ≤ -1 + (-1 * st (i + len).toNat + 0) := b3
      omega
/-! ===== the rules of this word ===== -/
noncomputable def zs_wu (w st tu nd nm : Nat) (n x sm many : zt_E) : ze_P := (w + 2, [st, tu, nd, nm], [(0, []), (1, []), n, x, sm, many])
noncomputable def zs_wv (q : Nat) (a v : zt_E) : ze_P := (0, [q], [a, v])
noncomputable def zs_ws (iS a b : Nat) (lo hi s : zt_E) : ze_P := (iS + 2, [a, b], [lo, hi, s])
noncomputable def zs_wn (iN X st wd : Nat) (lo hi len : zt_E) : ze_P := (iN + 2, [X, st, wd], [lo, hi, len])
noncomputable def zs_e (a b : zt_E) : List zt_E := [zt_sub a b, zt_sub b a]
theorem zs_e_in {r : Nat → Int} {a b : zt_E} {l : List zt_E} (h : ∀ f ∈ l, 0 ≤ zt_ev r f) (hs : ∀ f ∈ zs_e a b, f ∈ l) : zt_ev r a = zt_ev r b := by
  have h1 := h _ (hs (zt_sub a b) List.mem_cons_self)
  have h2 := h _ (hs (zt_sub b a) (List.mem_cons_of_mem _ List.mem_cons_self))
  rw [zt_sub_ev] at h1 h2
  omega
def zs_W (WD : List zw_D) (w iS iN : Nat) : Prop := (∃ d, WD[w]? = some d ∧ d.2.2 = []) ∧ WD[iS]? = some zs_dse ∧ WD[iN]? = some zs_dnm
theorem zs_mk {WD : List zw_D} {w iS iN : Nat} (hW : zs_W WD w iS iN) {rows : List (Nat → Int)} {es : List Int} (h : zs_U rows es) : zs_Z WD w (w + 2) rows es := by
  obtain ⟨⟨d, h1, h2⟩, -⟩ := hW
  refine ⟨?_, fun _ => h⟩
  show (match WD[w]? with | some d => zw_all d rows es | none => True)
  rw [h1]
  show zw_all d rows es
  unfold zw_all
  split
  · intro i _ _
    show zw_cl _ d.2.2
    rw [h2]
    exact fun cl hcl => absurd hcl List.not_mem_nil
  · trivial
theorem zs_hs {WD : List zw_D} {w iS iN : Nat} (hW : zs_W WD w iS iN) {rows : List (Nat → Int)} {es : List Int} (h : zs_Z WD w (iS + 2) rows es) : zw_all zs_dse rows es := by
  have h1 : (match WD[iS]? with | some d => zw_all d rows es | none => True) := h.1
  rw [hW.2.1] at h1
  exact h1
theorem zs_hn {WD : List zw_D} {w iS iN : Nat} (hW : zs_W WD w iS iN) {rows : List (Nat → Int)} {es : List Int} (h : zs_Z WD w (iN + 2) rows es) : zw_all zs_dnm rows es := by
  have h1 : (match WD[iN]? with | some d => zw_all d rows es | none => True) := h.1
  rw [hW.2.2] at h1
  exact h1
noncomputable def zs_n0 (w st tu nd nm : Nat) (many z : zt_E) : zs_N := ([zs_wv st (0, []) z], zs_e z (0, []) ++ [many], [], [zs_wu w st tu nd nm (0, []) (0, []) (1, []) many])
theorem zs_r0 {WD : List zw_D} {w iS iN st tu nd nm : Nat} {many z : zt_E} (hW : zs_W WD w iS iN) : zs_ok (zs_Z WD w) (zs_n0 w st tu nd nm many z) := by
  intro r R hw hf
  refine ⟨fun f h => absurd h List.not_mem_nil, fun p hp => ?_⟩
  rw [List.mem_singleton.mp hp]
  have h1 : 0 ≤ zt_ev r (0, []) ∧ R st (zt_ev r (0, [])).toNat = zt_ev r z := (hw _ List.mem_cons_self).1
  have h2 : zt_ev r z = zt_ev r (0, []) := zs_e_in hf (fun f h => List.mem_append_left _ h)
  have h3 : 0 ≤ zt_ev r many := hf many (List.mem_append_right _ List.mem_cons_self)
  refine zs_mk hW ⟨Int.le_refl _, Int.le_refl _, h3, rfl, fun i hi => ?_⟩
  have hi0 : i = 0 := Nat.lt_one_iff.mp hi
  subst hi0
  have h4 : R st 0 = zt_ev r z := h1.2
  rw [h4, h2]
  rfl
noncomputable def zs_n1 (w st tu nd nm : Nat) (n x sm many v : zt_E) (up : Bool) : zs_N := ([zs_wu w st tu nd nm n x sm many, zs_wv tu x v], [match up with | true => zt_sub (zt_sub v n) (zt_k 1) | false => zt_sub (zt_sub n v) (zt_k 1)], [], [zs_wu w st tu nd nm n (zt_add x (zt_k 1)) sm many])
theorem zs_r1 {WD : List zw_D} {w iS iN st tu nd nm : Nat} {n x sm many v : zt_E} {up : Bool} (hW : zs_W WD w iS iN) : zs_ok (zs_Z WD w) (zs_n1 w st tu nd nm n x sm many v up) := by
  intro r R hw hf
  refine ⟨fun f h => absurd h List.not_mem_nil, fun p hp => ?_⟩
  rw [List.mem_singleton.mp hp]
  obtain ⟨u1, u2, u3, u4, u5⟩ := (hw _ List.mem_cons_self).2 rfl
  have h1 : 0 ≤ zt_ev r x ∧ R tu (zt_ev r x).toNat = zt_ev r v := (hw _ (List.mem_cons_of_mem _ List.mem_cons_self)).1
  have h2 : zt_ev r v ≠ zt_ev r n := by
    have h3 := hf _ List.mem_cons_self
    cases up with
    | true =>
      dsimp only at h3
      rw [zt_sub_ev, zt_sub_ev, zt_k_ev] at h3
      omega
    | false =>
      dsimp only at h3
      rw [zt_sub_ev, zt_sub_ev, zt_k_ev] at h3
      omega
  have hx : zt_ev r (zt_add x (zt_k 1)) = zt_ev r x + 1 := by rw [zt_add_ev, zt_k_ev]
  have hx2 : (zt_ev r (zt_add x (zt_k 1))).toNat = (zt_ev r x).toNat + 1 := by rw [hx]; omega
  have hn : ((zt_ev r n).toNat : Int) = zt_ev r n := Int.toNat_of_nonneg u1
  have hU : zs_u (R tu) (R nd) (R nm) (zt_ev r many).toNat (zt_ev r n).toNat (zt_ev r (zt_add x (zt_k 1))).toNat = zs_u (R tu) (R nd) (R nm) (zt_ev r many).toNat (zt_ev r n).toNat (zt_ev r x).toNat := by
    rw [hx2]
    show (if R tu (zt_ev r x).toNat = ((zt_ev r n).toNat : Int) then _ else _) = _
    rw [if_neg (by rw [h1.2, hn]; exact h2)]
    rfl
  exact zs_mk hW ⟨u1, by show 0 ≤ zt_ev r (zt_add x (zt_k 1)); omega, u3, by show _ = ((zs_u (R tu) (R nd) (R nm) (zt_ev r many).toNat (zt_ev r n).toNat (zt_ev r (zt_add x (zt_k 1))).toNat).1 : Int); rw [hU]; exact u4, fun i hi => by
    have hi2 : i < (zs_u (R tu) (R nd) (R nm) (zt_ev r many).toNat (zt_ev r n).toNat (zt_ev r (zt_add x (zt_k 1))).toNat).1 := hi
    rw [hU] at hi2
    show R st i = (zs_u (R tu) (R nd) (R nm) (zt_ev r many).toNat (zt_ev r n).toNat (zt_ev r (zt_add x (zt_k 1))).toNat).2 i
    rw [hU]
    exact u5 i hi2⟩
noncomputable def zs_n2 (w st tu nd nm : Nat) (n x sm many : zt_E) : zs_N := ([zs_wu w st tu nd nm n x sm many], zs_e x many, [], [zs_wu w st tu nd nm (zt_add n (zt_k 1)) (0, []) sm many])
theorem zs_r2 {WD : List zw_D} {w iS iN st tu nd nm : Nat} {n x sm many : zt_E} (hW : zs_W WD w iS iN) : zs_ok (zs_Z WD w) (zs_n2 w st tu nd nm n x sm many) := by
  intro r R hw hf
  refine ⟨fun f h => absurd h List.not_mem_nil, fun p hp => ?_⟩
  rw [List.mem_singleton.mp hp]
  obtain ⟨u1, u2, u3, u4, u5⟩ := (hw _ List.mem_cons_self).2 rfl
  have h1 : zt_ev r x = zt_ev r many := zs_e_in hf (fun f h => h)
  have hx : zt_ev r (zt_add n (zt_k 1)) = zt_ev r n + 1 := by rw [zt_add_ev, zt_k_ev]
  have hx2 : (zt_ev r (zt_add n (zt_k 1))).toNat = (zt_ev r n).toNat + 1 := by rw [hx]; omega
  have hU : zs_u (R tu) (R nd) (R nm) (zt_ev r many).toNat (zt_ev r (zt_add n (zt_k 1))).toNat (zt_ev r (0, [])).toNat = zs_u (R tu) (R nd) (R nm) (zt_ev r many).toNat (zt_ev r n).toNat (zt_ev r x).toNat := by
    rw [hx2, h1]
    rfl
  exact zs_mk hW ⟨by show 0 ≤ zt_ev r (zt_add n (zt_k 1)); omega, Int.le_refl _, u3, by show _ = ((zs_u (R tu) (R nd) (R nm) (zt_ev r many).toNat (zt_ev r (zt_add n (zt_k 1))).toNat (zt_ev r (0, [])).toNat).1 : Int); rw [hU]; exact u4, fun i hi => by
    have hi2 : i < (zs_u (R tu) (R nd) (R nm) (zt_ev r many).toNat (zt_ev r (zt_add n (zt_k 1))).toNat (zt_ev r (0, [])).toNat).1 := hi
    rw [hU] at hi2
    show R st i = (zs_u (R tu) (R nd) (R nm) (zt_ev r many).toNat (zt_ev r (zt_add n (zt_k 1))).toNat (zt_ev r (0, [])).toNat).2 i
    rw [hU]
    exact u5 i hi2⟩
/-- found at p -/
noncomputable def zs_n3 (w iS st tu nd nm st2 wd : Nat) (n x sm many v l0 len p z e16 hi : zt_E) : zs_N := ([zs_wu w st tu nd nm n x sm many, zs_wv tu x v, zs_wv nd x l0, zs_ws iS nm wd (0, []) len e16, zs_ws iS st2 st (0, []) hi (0, []), zs_ws iS st2 wd (0, []) len p, zs_wv st2 (zt_add p len) z], zs_e v n ++ (zs_e z (0, []) ++ (zs_e e16 (zt_sc 16 x) ++ ([p, len, zt_sub (zt_sub (zt_sub sm p) len) (zt_k 1), zt_sub hi sm] ++ zs_e l0 len))), [], [zs_wu w st2 tu nd nm n (zt_add x (zt_k 1)) sm many])
theorem zs_r3 {WD : List zw_D} {w iS iN st tu nd nm st2 wd : Nat} {n x sm many v l0 len p z e16 hi : zt_E} (hW : zs_W WD w iS iN) : zs_ok (zs_Z WD w) (zs_n3 w iS st tu nd nm st2 wd n x sm many v l0 len p z e16 hi) := by
  intro r R hw hf
  refine ⟨fun f h => absurd h List.not_mem_nil, fun q hq => ?_⟩
  rw [List.mem_singleton.mp hq]
  have wm : ∀ (k : Nat) (q : ze_P), (zs_n3 w iS st tu nd nm st2 wd n x sm many v l0 len p z e16 hi).1[k]? = some q → zs_Z WD w q.1 (q.2.1.map R) (q.2.2.map (zt_ev r)) := fun k q h => hw q (List.mem_of_getElem? h)
  obtain ⟨u1, u2, u3, u4, u5⟩ := (wm 0 _ rfl).2 rfl
  have h1 : 0 ≤ zt_ev r x ∧ R tu (zt_ev r x).toNat = zt_ev r v := (wm 1 _ rfl).1
  have h2 : 0 ≤ zt_ev r x ∧ R nd (zt_ev r x).toNat = zt_ev r l0 := (wm 2 _ rfl).1
  have h3 : zw_all zs_dse [R nm, R wd] [zt_ev r (0, []), zt_ev r len, zt_ev r e16] := zs_hs hW (wm 3 _ rfl)
  have h4 : zw_all zs_dse [R st2, R st] [zt_ev r (0, []), zt_ev r hi, zt_ev r (0, [])] := zs_hs hW (wm 4 _ rfl)
  have h5 : zw_all zs_dse [R st2, R wd] [zt_ev r (0, []), zt_ev r len, zt_ev r p] := zs_hs hW (wm 5 _ rfl)
  have h6 : 0 ≤ zt_ev r (zt_add p len) ∧ R st2 (zt_ev r (zt_add p len)).toNat = zt_ev r z := (wm 6 _ rfl).1
  have f1 : zt_ev r v = zt_ev r n := zs_e_in hf (fun f h => List.mem_append_left _ h)
  have f2 : zt_ev r z = zt_ev r (0, []) := zs_e_in hf (fun f h => List.mem_append_right _ (List.mem_append_left _ h))
  have f3 : zt_ev r e16 = zt_ev r (zt_sc 16 x) := zs_e_in hf (fun f h => List.mem_append_right _ (List.mem_append_right _ (List.mem_append_left _ h)))
  have fm : ∀ f ∈ [p, len, zt_sub (zt_sub (zt_sub sm p) len) (zt_k 1), zt_sub hi sm], 0 ≤ zt_ev r f := fun f h => hf f (List.mem_append_right _ (List.mem_append_right _ (List.mem_append_right _ (List.mem_append_left _ h))))
  have f8 : zt_ev r l0 = zt_ev r len := zs_e_in hf (fun f h => List.mem_append_right _ (List.mem_append_right _ (List.mem_append_right _ (List.mem_append_right _ h))))
  have f4 : 0 ≤ zt_ev r p := fm _ List.mem_cons_self
  have f5 : 0 ≤ zt_ev r len := fm _ (List.mem_cons_of_mem _ List.mem_cons_self)
  have f6 := fm _ (List.mem_cons_of_mem _ (List.mem_cons_of_mem _ List.mem_cons_self))
  have f7 := fm _ (List.mem_cons_of_mem _ (List.mem_cons_of_mem _ (List.mem_cons_of_mem _ List.mem_cons_self)))
  rw [zt_sub_ev, zt_sub_ev, zt_sub_ev, zt_k_ev] at f6
  rw [zt_sub_ev] at f7
  rw [zt_sc_ev] at f3
  rw [zt_add_ev] at h6
  have e0 : zt_ev r ((0, []) : zt_E) = 0 := rfl
  rw [e0] at h3 h4 h5 f2
  have hx : zt_ev r (zt_add x (zt_k 1)) = zt_ev r x + 1 := by rw [zt_add_ev, zt_k_ev]
  generalize hP : zt_ev r p = P at *
  generalize hL : zt_ev r len = Ln at *
  generalize hX : zt_ev r x = X at *
  generalize hN : zt_ev r n = N at *
  generalize hM : zt_ev r many = M at *
  generalize hSm : zt_ev r sm = Sm at *
  generalize hH : zt_ev r hi = H at *
  have hX2 : (X + 1).toNat = X.toNat + 1 := by omega
  have u4' : Sm = ((zs_u (R tu) (R nd) (R nm) M.toNat N.toNat X.toNat).1 : Int) := u4
  have u5' : ∀ i : Nat, i < (zs_u (R tu) (R nd) (R nm) M.toNat N.toNat X.toNat).1 → R st i = (zs_u (R tu) (R nd) (R nm) M.toNat N.toNat X.toNat).2 i := u5
  have same : ∀ i : Nat, (i : Int) < Sm → R st2 i = R st i := fun i hi2 => by
    have := zs_se h4 (i := (i : Int)) (Int.natCast_nonneg i) (by omega)
    rwa [Int.add_zero, Int.toNat_natCast] at this
  have hU : zs_u (R tu) (R nd) (R nm) M.toNat N.toNat (X.toNat + 1) = zs_u (R tu) (R nd) (R nm) M.toNat N.toNat X.toNat := by
    show (if R tu X.toNat = (N.toNat : Int) then zs_put (fun k => R nm (16 * X.toNat + k)) (R nd X.toNat).toNat (zs_u (R tu) (R nd) (R nm) M.toNat N.toNat X.toNat) else _) = _
    rw [if_pos (by rw [h1.2, f1]; omega), h2.2, f8]
    have hm : zs_m (zs_u (R tu) (R nd) (R nm) M.toNat N.toNat X.toNat).2 (fun k => R nm (16 * X.toNat + k)) (zs_u (R tu) (R nd) (R nm) M.toNat N.toNat X.toNat).1 Ln.toNat := by
      refine ⟨P.toNat, by omega, ?_, fun k hk => ?_⟩
      · rw [← u5' _ (by omega), ← same _ (by omega)]
        rw [show P.toNat + Ln.toNat = (P + Ln).toNat by omega, h6.2, f2]
      · rw [← u5' _ (by omega), ← same _ (by omega)]
        have a1 := zs_se h5 (i := (k : Int)) (Int.natCast_nonneg k) (by omega)
        have a2 := zs_se h3 (i := (k : Int)) (Int.natCast_nonneg k) (by omega)
        rw [show ((k : Int) + P).toNat = P.toNat + k by omega] at a1
        rw [show ((k : Int) + zt_ev r e16).toNat = 16 * X.toNat + k by omega] at a2
        rw [a1]
        show R wd ((k : Int)).toNat = R nm (16 * X.toNat + k)
        rw [a2]
    unfold zs_put
    exact if_pos hm
  refine zs_mk hW ?_
  show 0 ≤ zt_ev r n ∧ 0 ≤ zt_ev r (zt_add x (zt_k 1)) ∧ 0 ≤ zt_ev r many ∧ zt_ev r sm = ((zs_u (R tu) (R nd) (R nm) (zt_ev r many).toNat (zt_ev r n).toNat (zt_ev r (zt_add x (zt_k 1))).toNat).1 : Int) ∧ ∀ i : Nat, i < (zs_u (R tu) (R nd) (R nm) (zt_ev r many).toNat (zt_ev r n).toNat (zt_ev r (zt_add x (zt_k 1))).toNat).1 → R st2 i = (zs_u (R tu) (R nd) (R nm) (zt_ev r many).toNat (zt_ev r n).toNat (zt_ev r (zt_add x (zt_k 1))).toNat).2 i
  rw [hx, hN, hM, hSm, hX2, hU]
  exact ⟨u1, by omega, u3, u4', fun i hi2 => (same i (by omega)).trans (u5' i hi2)⟩
/-- not found: put behind -/
noncomputable def zs_n4 (w iS iN st tu nd nm st2 wd X : Nat) (n x sm many v l0 len z e16 hi hn : zt_E) : zs_N := ([zs_wu w st tu nd nm n x sm many, zs_wv tu x v, zs_wv nd x l0, zs_ws iS nm wd (0, []) len e16, zs_ws iS st2 st (0, []) hi (0, []), zs_ws iS st2 wd (0, []) len sm, zs_wv st2 (zt_add sm len) z, zs_wn iN X st wd (0, []) hn len], zs_e v n ++ (zs_e z (0, []) ++ (zs_e e16 (zt_sc 16 x) ++ ([len, zt_sub hn (zt_sub sm len), zt_sub hi sm] ++ zs_e l0 len))), [], [zs_wu w st2 tu nd nm n (zt_add x (zt_k 1)) (zt_add (zt_add sm len) (zt_k 1)) many])
theorem zs_r4 {WD : List zw_D} {w iS iN st tu nd nm st2 wd X : Nat} {n x sm many v l0 len z e16 hi hn : zt_E} (hW : zs_W WD w iS iN) : zs_ok (zs_Z WD w) (zs_n4 w iS iN st tu nd nm st2 wd X n x sm many v l0 len z e16 hi hn) := by
  intro r R hw hf
  refine ⟨fun f h => absurd h List.not_mem_nil, fun q hq => ?_⟩
  rw [List.mem_singleton.mp hq]
  have wm : ∀ (k : Nat) (q : ze_P), (zs_n4 w iS iN st tu nd nm st2 wd X n x sm many v l0 len z e16 hi hn).1[k]? = some q → zs_Z WD w q.1 (q.2.1.map R) (q.2.2.map (zt_ev r)) := fun k q h => hw q (List.mem_of_getElem? h)
  obtain ⟨u1, u2, u3, u4, u5⟩ := (wm 0 _ rfl).2 rfl
  have h1 : 0 ≤ zt_ev r x ∧ R tu (zt_ev r x).toNat = zt_ev r v := (wm 1 _ rfl).1
  have h2 : 0 ≤ zt_ev r x ∧ R nd (zt_ev r x).toNat = zt_ev r l0 := (wm 2 _ rfl).1
  have h3 : zw_all zs_dse [R nm, R wd] [zt_ev r (0, []), zt_ev r len, zt_ev r e16] := zs_hs hW (wm 3 _ rfl)
  have h4 : zw_all zs_dse [R st2, R st] [zt_ev r (0, []), zt_ev r hi, zt_ev r (0, [])] := zs_hs hW (wm 4 _ rfl)
  have h5 : zw_all zs_dse [R st2, R wd] [zt_ev r (0, []), zt_ev r len, zt_ev r sm] := zs_hs hW (wm 5 _ rfl)
  have h6 : 0 ≤ zt_ev r (zt_add sm len) ∧ R st2 (zt_ev r (zt_add sm len)).toNat = zt_ev r z := (wm 6 _ rfl).1
  have h7 : zw_all zs_dnm [R X, R st, R wd] [zt_ev r (0, []), zt_ev r hn, zt_ev r len] := zs_hn hW (wm 7 _ rfl)
  have f1 : zt_ev r v = zt_ev r n := zs_e_in hf (fun f h => List.mem_append_left _ h)
  have f2 : zt_ev r z = zt_ev r (0, []) := zs_e_in hf (fun f h => List.mem_append_right _ (List.mem_append_left _ h))
  have f3 : zt_ev r e16 = zt_ev r (zt_sc 16 x) := zs_e_in hf (fun f h => List.mem_append_right _ (List.mem_append_right _ (List.mem_append_left _ h)))
  have fm : ∀ f ∈ [len, zt_sub hn (zt_sub sm len), zt_sub hi sm], 0 ≤ zt_ev r f := fun f h => hf f (List.mem_append_right _ (List.mem_append_right _ (List.mem_append_right _ (List.mem_append_left _ h))))
  have f8 : zt_ev r l0 = zt_ev r len := zs_e_in hf (fun f h => List.mem_append_right _ (List.mem_append_right _ (List.mem_append_right _ (List.mem_append_right _ h))))
  have f5 : 0 ≤ zt_ev r len := fm _ List.mem_cons_self
  have f6 := fm _ (List.mem_cons_of_mem _ List.mem_cons_self)
  have f7 := fm _ (List.mem_cons_of_mem _ (List.mem_cons_of_mem _ List.mem_cons_self))
  rw [zt_sub_ev, zt_sub_ev] at f6
  rw [zt_sub_ev] at f7
  rw [zt_sc_ev] at f3
  rw [zt_add_ev] at h6
  have e0 : zt_ev r ((0, []) : zt_E) = 0 := rfl
  rw [e0] at h3 h4 h5 h7 f2
  have hx : zt_ev r (zt_add x (zt_k 1)) = zt_ev r x + 1 := by rw [zt_add_ev, zt_k_ev]
  have hs2 : zt_ev r (zt_add (zt_add sm len) (zt_k 1)) = zt_ev r sm + zt_ev r len + 1 := by rw [zt_add_ev, zt_add_ev, zt_k_ev]
  generalize hL : zt_ev r len = Ln at *
  generalize hX : zt_ev r x = Xi at *
  generalize hN : zt_ev r n = N at *
  generalize hM : zt_ev r many = M at *
  generalize hSm : zt_ev r sm = Sm at *
  generalize hH : zt_ev r hi = H at *
  generalize hHn : zt_ev r hn = Hn at *
  have hX2 : (Xi + 1).toNat = Xi.toNat + 1 := by omega
  have u4' : Sm = ((zs_u (R tu) (R nd) (R nm) M.toNat N.toNat Xi.toNat).1 : Int) := u4
  have u5' : ∀ i : Nat, i < (zs_u (R tu) (R nd) (R nm) M.toNat N.toNat Xi.toNat).1 → R st i = (zs_u (R tu) (R nd) (R nm) M.toNat N.toNat Xi.toNat).2 i := u5
  have same : ∀ i : Nat, (i : Int) < Sm → R st2 i = R st i := fun i hi2 => by
    have := zs_se h4 (i := (i : Int)) (Int.natCast_nonneg i) (by omega)
    rwa [Int.add_zero, Int.toNat_natCast] at this
  have name : ∀ k : Nat, k < Ln.toNat → R nm (16 * Xi.toNat + k) = R wd k := fun k hk => by
    have a2 := zs_se h3 (i := (k : Int)) (Int.natCast_nonneg k) (by omega)
    rwa [show ((k : Int) + zt_ev r e16).toNat = 16 * Xi.toNat + k by omega, Int.toNat_natCast] at a2
  have hU : zs_u (R tu) (R nd) (R nm) M.toNat N.toNat (Xi.toNat + 1) = ((zs_u (R tu) (R nd) (R nm) M.toNat N.toNat Xi.toNat).1 + Ln.toNat + 1, fun i => if i < (zs_u (R tu) (R nd) (R nm) M.toNat N.toNat Xi.toNat).1 then (zs_u (R tu) (R nd) (R nm) M.toNat N.toNat Xi.toNat).2 i else if i < (zs_u (R tu) (R nd) (R nm) M.toNat N.toNat Xi.toNat).1 + Ln.toNat then R nm (16 * Xi.toNat + (i - (zs_u (R tu) (R nd) (R nm) M.toNat N.toNat Xi.toNat).1)) else 0) := by
    show (if R tu Xi.toNat = (N.toNat : Int) then zs_put (fun k => R nm (16 * Xi.toNat + k)) (R nd Xi.toNat).toNat (zs_u (R tu) (R nd) (R nm) M.toNat N.toNat Xi.toNat) else _) = _
    rw [if_pos (by rw [h1.2, f1]; omega), h2.2, f8]
    have hm : ¬ zs_m (zs_u (R tu) (R nd) (R nm) M.toNat N.toNat Xi.toNat).2 (fun k => R nm (16 * Xi.toNat + k)) (zs_u (R tu) (R nd) (R nm) M.toNat N.toNat Xi.toNat).1 Ln.toNat := by
      rintro ⟨p, p1, p2, p3⟩
      obtain ⟨q1, q2, q3, q4⟩ := zs_nm h7 (i := (p : Int)) (Int.natCast_nonneg p) (by omega)
      rw [Int.toNat_natCast] at q1 q2 q3 q4
      rcases Int.lt_or_eq_of_le q2 with c | c
      · refine q3 c ?_
        have := p3 (R X p).toNat (by omega)
        rw [show ((p : Int) + R X p).toNat = p + (R X p).toNat by omega, u5' _ (by omega), this]
        exact name _ (by omega)
      · refine q4 c ?_
        rw [show ((p : Int) + Ln).toNat = p + Ln.toNat by omega, u5' _ (by omega), p2]
    unfold zs_put
    exact if_neg hm
  refine zs_mk hW ?_
  show 0 ≤ zt_ev r n ∧ 0 ≤ zt_ev r (zt_add x (zt_k 1)) ∧ 0 ≤ zt_ev r many ∧ zt_ev r (zt_add (zt_add sm len) (zt_k 1)) = ((zs_u (R tu) (R nd) (R nm) (zt_ev r many).toNat (zt_ev r n).toNat (zt_ev r (zt_add x (zt_k 1))).toNat).1 : Int) ∧ ∀ i : Nat, i < (zs_u (R tu) (R nd) (R nm) (zt_ev r many).toNat (zt_ev r n).toNat (zt_ev r (zt_add x (zt_k 1))).toNat).1 → R st2 i = (zs_u (R tu) (R nd) (R nm) (zt_ev r many).toNat (zt_ev r n).toNat (zt_ev r (zt_add x (zt_k 1))).toNat).2 i
  rw [hx, hs2, hN, hM, hX2, hU]
  refine ⟨u1, by omega, u3, ?_, fun i hi2 => ?_⟩
  · show Sm + Ln + 1 = (((zs_u (R tu) (R nd) (R nm) M.toNat N.toNat Xi.toNat).1 + Ln.toNat + 1 : Nat) : Int)
    omega
  · have hi3 : i < (zs_u (R tu) (R nd) (R nm) M.toNat N.toNat Xi.toNat).1 + Ln.toNat + 1 := hi2
    show R st2 i = if i < (zs_u (R tu) (R nd) (R nm) M.toNat N.toNat Xi.toNat).1 then (zs_u (R tu) (R nd) (R nm) M.toNat N.toNat Xi.toNat).2 i else if i < (zs_u (R tu) (R nd) (R nm) M.toNat N.toNat Xi.toNat).1 + Ln.toNat then R nm (16 * Xi.toNat + (i - (zs_u (R tu) (R nd) (R nm) M.toNat N.toNat Xi.toNat).1)) else 0
    split
    · next c => exact (same i (by omega)).trans (u5' i c)
    · next c =>
      split
      · next c2 =>
        rw [name _ (by omega)]
        have a1 := zs_se h5 (i := ((i - (zs_u (R tu) (R nd) (R nm) M.toNat N.toNat Xi.toNat).1 : Nat) : Int)) (Int.natCast_nonneg _) (by omega)
        rwa [Int.toNat_natCast, show (((i - (zs_u (R tu) (R nd) (R nm) M.toNat N.toNat Xi.toNat).1 : Nat) : Int) + Sm).toNat = i by omega] at a1
      · next c2 =>
        have a1 := h6.2
        rwa [show (Sm + Ln).toNat = i by omega, f2] at a1
/-- twice the same -/
noncomputable def zs_n5 (w iS st1 tu1 nd nm st2 tu2 : Nat) (n sm1 many n2 sm2 many2 hi : zt_E) : zs_N := ([zs_wu w st1 tu1 nd nm n (0, []) sm1 many, zs_wu w st2 tu2 nd nm n2 (0, []) sm2 many2, zs_ws iS tu2 tu1 (0, []) hi (0, [])], zs_e n n2 ++ (zs_e many many2 ++ [zt_sub hi many]), zs_e sm1 sm2, [])
theorem zs_r5 {WD : List zw_D} {w iS iN st1 tu1 nd nm st2 tu2 : Nat} {n sm1 many n2 sm2 many2 hi : zt_E} (hW : zs_W WD w iS iN) : zs_ok (zs_Z WD w) (zs_n5 w iS st1 tu1 nd nm st2 tu2 n sm1 many n2 sm2 many2 hi) := by
  intro r R hw hf
  have wm : ∀ (k : Nat) (q : ze_P), (zs_n5 w iS st1 tu1 nd nm st2 tu2 n sm1 many n2 sm2 many2 hi).1[k]? = some q → zs_Z WD w q.1 (q.2.1.map R) (q.2.2.map (zt_ev r)) := fun k q h => hw q (List.mem_of_getElem? h)
  obtain ⟨u1, u2, u3, u4, u5⟩ := (wm 0 _ rfl).2 rfl
  obtain ⟨v1, v2, v3, v4, v5⟩ := (wm 1 _ rfl).2 rfl
  have h4 : zw_all zs_dse [R tu2, R tu1] [zt_ev r (0, []), zt_ev r hi, zt_ev r (0, [])] := zs_hs hW (wm 2 _ rfl)
  have f1 : zt_ev r n = zt_ev r n2 := zs_e_in hf (fun f h => List.mem_append_left _ h)
  have f2 : zt_ev r many = zt_ev r many2 := zs_e_in hf (fun f h => List.mem_append_right _ (List.mem_append_left _ h))
  have f3 := hf (zt_sub hi many) (List.mem_append_right _ (List.mem_append_right _ List.mem_cons_self))
  rw [zt_sub_ev] at f3
  have e0 : zt_ev r ((0, []) : zt_E) = 0 := rfl
  rw [e0] at h4
  have hm : ∀ i : Nat, i < (zt_ev r many).toNat → R tu1 i = R tu2 i := fun i hi2 => by
    have := zs_se h4 (i := (i : Int)) (Int.natCast_nonneg i) (by omega)
    rw [Int.add_zero, Int.toNat_natCast] at this
    exact this.symm
  have hU : zs_u (R tu1) (R nd) (R nm) (zt_ev r many).toNat (zt_ev r n).toNat (zt_ev r (0, [])).toNat = zs_u (R tu2) (R nd) (R nm) (zt_ev r many2).toNat (zt_ev r n2).toNat (zt_ev r (0, [])).toNat := by
    rw [← f2, ← f1]
    exact zs_tn_eq hm
  have hs : zt_ev r sm1 = zt_ev r sm2 := by
    have a1 : zt_ev r sm1 = ((zs_u (R tu1) (R nd) (R nm) (zt_ev r many).toNat (zt_ev r n).toNat (zt_ev r (0, [])).toNat).1 : Int) := u4
    have a2 : zt_ev r sm2 = ((zs_u (R tu2) (R nd) (R nm) (zt_ev r many2).toNat (zt_ev r n2).toNat (zt_ev r (0, [])).toNat).1 : Int) := v4
    rw [a1, a2, hU]
  refine ⟨fun f h => ?_, fun p h => absurd h List.not_mem_nil⟩
  rcases List.mem_cons.mp h with e | e
  · rw [e, zt_sub_ev]
    omega
  · rw [List.mem_singleton.mp e, zt_sub_ev]
    omega
/-- numbers told another way, a row that is alike -/
noncomputable def zs_n6 (w iS st tu nd nm st2 : Nat) (n x sm many n2 x2 sm2 many2 hi : zt_E) : zs_N := ([zs_wu w st tu nd nm n x sm many, zs_ws iS st2 st (0, []) hi (0, [])], zs_e n n2 ++ (zs_e x x2 ++ (zs_e sm sm2 ++ (zs_e many many2 ++ [zt_sub hi sm]))), [], [zs_wu w st2 tu nd nm n2 x2 sm2 many2])
theorem zs_r6 {WD : List zw_D} {w iS iN st tu nd nm st2 : Nat} {n x sm many n2 x2 sm2 many2 hi : zt_E} (hW : zs_W WD w iS iN) : zs_ok (zs_Z WD w) (zs_n6 w iS st tu nd nm st2 n x sm many n2 x2 sm2 many2 hi) := by
  intro r R hw hf
  refine ⟨fun f h => absurd h List.not_mem_nil, fun q hq => ?_⟩
  rw [List.mem_singleton.mp hq]
  have wm : ∀ (k : Nat) (q : ze_P), (zs_n6 w iS st tu nd nm st2 n x sm many n2 x2 sm2 many2 hi).1[k]? = some q → zs_Z WD w q.1 (q.2.1.map R) (q.2.2.map (zt_ev r)) := fun k q h => hw q (List.mem_of_getElem? h)
  obtain ⟨u1, u2, u3, u4, u5⟩ := (wm 0 _ rfl).2 rfl
  have h4 : zw_all zs_dse [R st2, R st] [zt_ev r (0, []), zt_ev r hi, zt_ev r (0, [])] := zs_hs hW (wm 1 _ rfl)
  have f1 : zt_ev r n = zt_ev r n2 := zs_e_in hf (fun f h => List.mem_append_left _ h)
  have f2 : zt_ev r x = zt_ev r x2 := zs_e_in hf (fun f h => List.mem_append_right _ (List.mem_append_left _ h))
  have f3 : zt_ev r sm = zt_ev r sm2 := zs_e_in hf (fun f h => List.mem_append_right _ (List.mem_append_right _ (List.mem_append_left _ h)))
  have f4 : zt_ev r many = zt_ev r many2 := zs_e_in hf (fun f h => List.mem_append_right _ (List.mem_append_right _ (List.mem_append_right _ (List.mem_append_left _ h))))
  have f5 := hf (zt_sub hi sm) (List.mem_append_right _ (List.mem_append_right _ (List.mem_append_right _ (List.mem_append_right _ List.mem_cons_self))))
  rw [zt_sub_ev] at f5
  have e0 : zt_ev r ((0, []) : zt_E) = 0 := rfl
  rw [e0] at h4
  refine zs_mk hW ?_
  show 0 ≤ zt_ev r n2 ∧ 0 ≤ zt_ev r x2 ∧ 0 ≤ zt_ev r many2 ∧ zt_ev r sm2 = ((zs_u (R tu) (R nd) (R nm) (zt_ev r many2).toNat (zt_ev r n2).toNat (zt_ev r x2).toNat).1 : Int) ∧ ∀ i : Nat, i < (zs_u (R tu) (R nd) (R nm) (zt_ev r many2).toNat (zt_ev r n2).toNat (zt_ev r x2).toNat).1 → R st2 i = (zs_u (R tu) (R nd) (R nm) (zt_ev r many2).toNat (zt_ev r n2).toNat (zt_ev r x2).toNat).2 i
  rw [← f1, ← f2, ← f3, ← f4]
  have u4' : zt_ev r sm = ((zs_u (R tu) (R nd) (R nm) (zt_ev r many).toNat (zt_ev r n).toNat (zt_ev r x).toNat).1 : Int) := u4
  refine ⟨u1, u2, u3, u4', fun i hi2 => ?_⟩
  have := zs_se h4 (i := (i : Int)) (Int.natCast_nonneg i) (by omega)
  rw [Int.add_zero, Int.toNat_natCast] at this
  exact this.trans (u5 i hi2)
/-- numbers told another way -/
noncomputable def zs_n7 (w st tu nd nm : Nat) (n x sm many n2 x2 sm2 many2 : zt_E) : zs_N := ([zs_wu w st tu nd nm n x sm many], zs_e n n2 ++ (zs_e x x2 ++ (zs_e sm sm2 ++ zs_e many many2)), [], [zs_wu w st tu nd nm n2 x2 sm2 many2])
theorem zs_r7 {WD : List zw_D} {w iS iN st tu nd nm : Nat} {n x sm many n2 x2 sm2 many2 : zt_E} (hW : zs_W WD w iS iN) : zs_ok (zs_Z WD w) (zs_n7 w st tu nd nm n x sm many n2 x2 sm2 many2) := by
  intro r R hw hf
  refine ⟨fun f h => absurd h List.not_mem_nil, fun q hq => ?_⟩
  rw [List.mem_singleton.mp hq]
  obtain ⟨u1, u2, u3, u4, u5⟩ := (hw _ List.mem_cons_self).2 rfl
  have f1 : zt_ev r n = zt_ev r n2 := zs_e_in hf (fun f h => List.mem_append_left _ h)
  have f2 : zt_ev r x = zt_ev r x2 := zs_e_in hf (fun f h => List.mem_append_right _ (List.mem_append_left _ h))
  have f3 : zt_ev r sm = zt_ev r sm2 := zs_e_in hf (fun f h => List.mem_append_right _ (List.mem_append_right _ (List.mem_append_left _ h)))
  have f4 : zt_ev r many = zt_ev r many2 := zs_e_in hf (fun f h => List.mem_append_right _ (List.mem_append_right _ (List.mem_append_right _ h)))
  refine zs_mk hW ?_
  show 0 ≤ zt_ev r n2 ∧ 0 ≤ zt_ev r x2 ∧ 0 ≤ zt_ev r many2 ∧ zt_ev r sm2 = ((zs_u (R tu) (R nd) (R nm) (zt_ev r many2).toNat (zt_ev r n2).toNat (zt_ev r x2).toNat).1 : Int) ∧ ∀ i : Nat, i < (zs_u (R tu) (R nd) (R nm) (zt_ev r many2).toNat (zt_ev r n2).toNat (zt_ev r x2).toNat).1 → R st i = (zs_u (R tu) (R nd) (R nm) (zt_ev r many2).toNat (zt_ev r n2).toNat (zt_ev r x2).toNat).2 i
  rw [← f1, ← f2, ← f3, ← f4]
  exact ⟨u1, u2, u3, u4, u5⟩
/-! ===== a row of counts ===== -/
noncomputable def zs_cnt (f : Nat → Int) : Nat → Int
  | 0 => 0
  | x + 1 => zs_cnt f x + if f x ≤ 0 then 1 else 0
def zs_dkc : zw_D := (0, [(0, (0, [(0, 1)])), (0, (1, [(0, 1)])), (1, (0, [(0, 1)]))], [[(-1, [(3, 1)]), (-1, [(1, -1), (2, 1)])], [(-1, [(3, 1)]), (1, [(1, 1), (2, -1)])], [(0, [(3, -1)]), (0, [(1, -1), (2, 1)])], [(0, [(3, -1)]), (0, [(1, 1), (2, -1)])]])
theorem zs_cnt_in {f : Nat → Int} {b : Int} : zw_all zs_dkc [zs_cnt f, f] [0, b] := by
  intro i h1 h2
  have en : ∀ (c : Int) (l : List zt_T), zt_ev (zw_go (zw_rw [zs_cnt f, f]) zs_dkc.2.1 (zs_dkc.1 + 1) (zw_e0 i [])) (c, l) = zt_ev (fun k => match k with | 0 => i | 1 => zs_cnt f (0 + (1 * i + 0)).toNat | 2 => zs_cnt f (1 + (1 * i + 0)).toNat | 3 => f (0 + (1 * i + 0)).toNat | k + 4 => zw_e0 i [] (k + 4)) (c, l) := by
    intro c l
    congr 1
    funext k
    match k with
    | 0 => rfl
    | 1 => rfl
    | 2 => rfl
    | 3 => rfl
    | k + 4 =>
      simp [zw_go, zs_dkc]
  rw [show (0 : Int) + (1 * i + 0) = i by omega] at en
  have hs : zs_cnt f (1 + (1 * i + 0)).toNat = zs_cnt f i.toNat + if f i.toNat ≤ 0 then 1 else 0 := by
    rw [show (1 + (1 * i + 0) : Int).toNat = i.toNat + 1 by omega]
    rfl
  rw [hs] at en
  have v1 : ∀ c d : Int, zt_ev (fun k => match k with | 0 => i | 1 => zs_cnt f i.toNat | 2 => zs_cnt f i.toNat + if f i.toNat ≤ 0 then 1 else 0 | 3 => f i.toNat | k + 4 => zw_e0 i [] (k + 4)) (c, [(3, d)]) = c + (d * f i.toNat + 0) := fun _ _ => rfl
  have v2 : ∀ c d e : Int, zt_ev (fun k => match k with | 0 => i | 1 => zs_cnt f i.toNat | 2 => zs_cnt f i.toNat + if f i.toNat ≤ 0 then 1 else 0 | 3 => f i.toNat | k + 4 => zw_e0 i [] (k + 4)) (c, [(1, d), (2, e)]) = c + (d * zs_cnt f i.toNat + (e * (zs_cnt f i.toNat + if f i.toNat ≤ 0 then 1 else 0) + 0)) := fun _ _ _ => rfl
  intro cl hcl
  by_cases hc : f i.toNat ≤ 0
  · have hcl2 : cl ∈ [[((-1, [(3, 1)]) : zt_E), (-1, [(1, -1), (2, 1)])], [(-1, [(3, 1)]), (1, [(1, 1), (2, -1)])], [(0, [(3, -1)]), (0, [(1, -1), (2, 1)])], [(0, [(3, -1)]), (0, [(1, 1), (2, -1)])]] := hcl
    simp only [List.mem_cons, List.not_mem_nil, or_false] at hcl2
    rcases hcl2 with e | e | e | e <;> subst e
    · exact ⟨_, List.mem_cons_of_mem _ List.mem_cons_self, by rw [en, v2, if_pos hc]; omega⟩
    · exact ⟨_, List.mem_cons_of_mem _ List.mem_cons_self, by rw [en, v2, if_pos hc]; omega⟩
    · exact ⟨_, List.mem_cons_self, by rw [en, v1]; omega⟩
    · exact ⟨_, List.mem_cons_self, by rw [en, v1]; omega⟩
  · have hcl2 : cl ∈ [[((-1, [(3, 1)]) : zt_E), (-1, [(1, -1), (2, 1)])], [(-1, [(3, 1)]), (1, [(1, 1), (2, -1)])], [(0, [(3, -1)]), (0, [(1, -1), (2, 1)])], [(0, [(3, -1)]), (0, [(1, 1), (2, -1)])]] := hcl
    simp only [List.mem_cons, List.not_mem_nil, or_false] at hcl2
    rcases hcl2 with e | e | e | e <;> subst e
    · exact ⟨_, List.mem_cons_self, by rw [en, v1]; omega⟩
    · exact ⟨_, List.mem_cons_self, by rw [en, v1]; omega⟩
    · exact ⟨_, List.mem_cons_of_mem _ List.mem_cons_self, by rw [en, v2, if_neg hc]; omega⟩
    · exact ⟨_, List.mem_cons_of_mem _ List.mem_cons_self, by rw [en, v2, if_neg hc]; omega⟩
noncomputable def zs_nc (iK q : Nat) (b : zt_E) (S : ze_S) : Option (List ze_S) := match Nat.blt q S.2.1 && zt_ltb S.1.1 b.2 with
  | false => none
  | true => some [zc_ad [] [(iK + 2, [S.2.1, q], [(0, []), b]), (0, [S.2.1], [(0, []), (0, [])])] (zc_nr S)]
theorem zs_nc_in {WD : List zw_D} {T : zx_Tr zt_C} {K0 iK q : Nat} {b : zt_E} (hK : WD[iK]? = some zs_dkc) : ze_cov (zw_Z WD) T K0 (zs_nc iK q b) := by
  intro S l r R L st h hk hg hA
  unfold zs_nc at hA
  split at hA
  · cases hA
  · next e =>
    cases hA
    rw [Bool.and_eq_true] at e
    have hq : q < S.2.1 := Nat.le_of_ble_eq_true e.1
    have hb := zt_ltb_in e.2
    refine ⟨_, List.mem_cons_self, r, _, fun _ _ => rfl, fun i hi => if_neg (Nat.ne_of_lt hi), Nat.le_refl _, Nat.le_succ _, zc_ad_in (zc_nr_in (zs_cnt (R q)) hg) (fun f hf => absurd hf List.not_mem_nil) (fun p hp => ?_)⟩
    rcases List.mem_cons.mp hp with z | z
    · rw [z]
      refine ⟨?_, fun i hi => ?_, fun e he => ?_⟩
      · show (match WD[iK]? with | some d => zw_all d ([S.2.1, q].map (fun i => if i = S.2.1 then zs_cnt (R q) else R i)) [zt_ev r (0, []), zt_ev r b] | none => True)
        rw [hK, show [S.2.1, q].map (fun i => if i = S.2.1 then zs_cnt (R q) else R i) = [zs_cnt (R q), R q] by
          rw [List.map_cons, List.map_cons, if_pos rfl, if_neg (Nat.ne_of_lt hq)]
          rfl]
        exact zs_cnt_in
      · rcases List.mem_cons.mp hi with y | y
        · rw [y]
          exact Nat.lt_succ_self _
        · rw [List.mem_singleton.mp y]
          exact Nat.lt_succ_of_lt hq
      · rcases List.mem_cons.mp he with y | y
        · rw [y]
          exact fun t ht => absurd ht List.not_mem_nil
        · rw [List.mem_singleton.mp y]
          exact hb
    · rw [List.mem_singleton.mp z]
      refine ⟨?_, fun i hi => ?_, fun e he => ?_⟩
      · show 0 ≤ zt_ev r (0, []) ∧ (if S.2.1 = S.2.1 then zs_cnt (R q) else R S.2.1) (zt_ev r (0, [])).toNat = zt_ev r (0, [])
        rw [if_pos rfl]
        exact ⟨Int.le_refl _, rfl⟩
      · rw [List.mem_singleton.mp hi]
        exact Nat.lt_succ_self _
      · rcases List.mem_cons.mp he with y | y
        · rw [y]
          exact fun t ht => absurd ht List.not_mem_nil
        · rw [List.mem_singleton.mp y]
          exact fun t ht => absurd ht List.not_mem_nil
/-! ===== all that may be told, with this word ===== -/
noncomputable def zs_nd (w iS iN : Nat) : List Nat → List zt_E → zs_N
  | [0, st, tu, nd, nm], [many, z] => zs_n0 w st tu nd nm many z
  | [1, st, tu, nd, nm], [n, x, sm, many, v] => zs_n1 w st tu nd nm n x sm many v false
  | [2, st, tu, nd, nm], [n, x, sm, many, v] => zs_n1 w st tu nd nm n x sm many v true
  | [3, st, tu, nd, nm], [n, x, sm, many] => zs_n2 w st tu nd nm n x sm many
  | [4, st, tu, nd, nm, st2, wd], [n, x, sm, many, v, l0, len, p, z, e16, hi] => zs_n3 w iS st tu nd nm st2 wd n x sm many v l0 len p z e16 hi
  | [5, st, tu, nd, nm, st2, wd, X], [n, x, sm, many, v, l0, len, z, e16, hi, hn] => zs_n4 w iS iN st tu nd nm st2 wd X n x sm many v l0 len z e16 hi hn
  | [6, st1, tu1, nd, nm, st2, tu2], [n, sm1, many, n2, sm2, many2, hi] => zs_n5 w iS st1 tu1 nd nm st2 tu2 n sm1 many n2 sm2 many2 hi
  | [7, st, tu, nd, nm, st2], [n, x, sm, many, n2, x2, sm2, many2, hi] => zs_n6 w iS st tu nd nm st2 n x sm many n2 x2 sm2 many2 hi
  | [8, st, tu, nd, nm], [n, x, sm, many, n2, x2, sm2, many2] => zs_n7 w st tu nd nm n x sm many n2 x2 sm2 many2
  | _, _ => ([], [(-1, [])], [], [])
theorem zs_nd_in {WD : List zw_D} {w iS iN : Nat} (hW : zs_W WD w iS iN) (a : List Nat) (es : List zt_E) : zs_ok (zs_Z WD w) (zs_nd w iS iN a es) := by
  unfold zs_nd
  split
  · exact zs_r0 hW
  · exact zs_r1 hW
  · exact zs_r1 hW
  · exact zs_r2 hW
  · exact zs_r3 hW
  · exact zs_r4 hW
  · exact zs_r5 hW
  · exact zs_r6 hW
  · exact zs_r7 hW
  · intro r R _ hf
    have h1 : 0 ≤ zt_ev r (-1, []) := hf _ List.mem_cons_self
    have h2 : zt_ev r ((-1, []) : zt_E) = -1 := rfl
    omega
noncomputable def zs_G (T : zx_Tr zt_C) (C : List (Nat × zx_Tr Int)) (WD : List zw_D) (w iS iN iK : Nat) : ze_W := fun j s S => match j.1 with
  | 40 => (match zs_st (zs_nd w iS iN j.2.1 j.2.2.1) S with | none => none | some l => some (l, s))
  | 41 => (match zs_nc iK (j.2.1.headD 0) (j.2.2.1.headD (0, [])) S with | none => none | some l => (match ze_all (zs_ck w S.2.2.2.2.2) l with | false => none | true => some (l, s)))
  | _ => match zc_G8 T C WD j s S with
    | none => none
    | some x => match ze_all (zs_ck w S.2.2.2.2.2) x.1 with
      | false => none
      | true => some x
theorem zs_G_in {T : zx_Tr zt_C} {C : List (Nat × zx_Tr Int)} {WD : List zw_D} {K0 w iS iN iK : Nat} (hC : zc_call T C = true) (hW : zs_W WD w iS iN) (hK : WD[iK]? = some zs_dkc) : ze_gc (zs_Z WD w) T K0 (zs_G T C WD w iS iN iK) := by
  intro j s S l s2 r R L st h hk hg hA
  unfold zs_G at hA
  split at hA
  · split at hA
    · cases hA
    · next l2 e1 =>
      cases hA
      exact zs_st_in (zs_nd_in hW _ _) S l r R L st h hk hg e1
  · split at hA
    · cases hA
    · next l2 e1 =>
      split at hA
      · cases hA
      · next e2 =>
        cases hA
        obtain ⟨q, h1, r2, R2, h2, h3, h4, h5, h6⟩ := zs_nc_in hK S l r R L st h hk (zs_low hg) e1
        exact ⟨q, h1, r2, R2, h2, h3, h4, h5, zs_up hg h6 h2 h3 (ze_all_in e2 q h1)⟩
  · split at hA
    · cases hA
    · next x e1 =>
      split at hA
      · cases hA
      · next e2 =>
        cases hA
        obtain ⟨q, h1, r2, R2, h2, h3, h4, h5, h6⟩ := zc_G8_in hC j s S l s2 r R L st h hk (zs_low hg) e1
        exact ⟨q, h1, r2, R2, h2, h3, h4, h5, zs_up hg h6 h2 h3 (ze_all_in e2 q h1)⟩
/-- a contract without this word -/
noncomputable def zs_no (w : Nat) (q : ze_S) : Bool := ze_all (fun p => match Nat.beq p.1 (w + 2) with | true => false | false => true) q.2.2.2.2.2
theorem zs_no_in {WD : List zw_D} {w : Nat} {r : Nat → Int} {R : Nat → Nat → Int} {S : ze_S} {L : zx_L} {st : List Value} {h : zx_H} (hn : zs_no w S = true) (hg : ze_g (zw_Z WD) r R S L st h) : ze_g (zs_Z WD w) r R S L st h := ⟨hg.1, ⟨hg.2.1.1, fun p hp => ⟨hg.2.1.2 p hp, fun e => by
  have h1 := ze_all_in hn p hp
  rw [e, Nat.beq_refl] at h1
  cases h1⟩⟩, hg.2.2⟩
theorem zs_kt_up {Fo : zx_M → zx_Tr zr_E → Nat → Option zx_F} {Q : List (zx_M × zx_Tr zr_E)} {WD : List zw_D} {w : Nat} {T : zx_Tr zt_C} {K0 : Nat} {c : ze_K} (hn : ze_all (zs_no w) c.2.2.2.1 = true) (hc : ze_kt Fo Q (zw_Z WD) T K0 c) : ze_kt Fo Q (zs_Z WD w) T K0 c := by
  intro d hd as h sl r R hk hg
  obtain ⟨f0, v, h2, k1, k2, k3, p, k4, r2, R2, k5, k6, k7⟩ := hc d hd as h sl r R hk (zs_low hg)
  exact ⟨f0, v, h2, k1, k2, k3, p, k4, r2, R2, k5, k6, zs_no_in (ze_all_in hn p k4) k7⟩
theorem zs_kt_dn {Fo : zx_M → zx_Tr zr_E → Nat → Option zx_F} {Q : List (zx_M × zx_Tr zr_E)} {WD : List zw_D} {w : Nat} {T : zx_Tr zt_C} {K0 : Nat} {c : ze_K} (hn : zs_no w c.2.2.1 = true) (hc : ze_kt Fo Q (zs_Z WD w) T K0 c) : ze_kt Fo Q (zw_Z WD) T K0 c := by
  intro d hd as h sl r R hk hg
  obtain ⟨f0, v, h2, k1, k2, k3, p, k4, r2, R2, k5, k6, k7⟩ := hc d hd as h sl r R hk (zs_no_in hn hg)
  exact ⟨f0, v, h2, k1, k2, k3, p, k4, r2, R2, k5, k6, zs_low k7⟩
