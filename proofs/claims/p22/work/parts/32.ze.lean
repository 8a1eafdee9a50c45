/-! ===== contracts, calls, ends; a method gone through from cut to cut ===== -/
/-- a contract: the method, how deep calls go, the start (its arguments on the stack), the ends (with the answer on the stack), what may change -/
abbrev ze_K : Type := Nat × Nat × ze_S × List ze_S × List (Nat × Nat)
noncomputable def ze_ke (c : ze_K) : ze_S := ((c.2.2.1.1.1, zt_la 0 c.2.2.1.1.2.2.1, [], c.2.2.1.1.2.2.2.1, c.2.2.1.1.2.2.2.2), c.2.2.1.2)
def ze_kt (Fo : zx_M → zx_Tr zr_E → Nat → Option zx_F) (Q : List (zx_M × zx_Tr zr_E)) (Z : ze_Z) (T : zx_Tr zt_C) (K0 : Nat) (c : ze_K) : Prop := ∀ (d : Nat), c.2.1 ≤ d → ∀ (as : List Value) (h : zx_H) (sl : Nat) (r : Nat → Int) (R : Nat → Nat → Int), zt_hk T K0 h → ze_g Z r R c.2.2.1 [] as h →
  ∃ (f0 : Nat) (v : Option Value) (h2 : zx_H), (∀ f, f0 ≤ f → zr_call Fo Q f d c.1 as h sl = some (v, h2, sl)) ∧ zt_hk T K0 h2 ∧ zt_fr c.2.2.2.2 h h2 ∧ ∃ p ∈ c.2.2.2.1, ∃ (r2 : Nat → Int) (R2 : Nat → Nat → Int), (∀ i, i < c.2.2.1.1.1 → r2 i = r i) ∧ (∀ i, i < c.2.2.1.2.1 → R2 i = R i) ∧ ze_g Z r2 R2 p [] v.toList h2
/-- what the rest of a run comes to -/
def ze_res (Fo : zx_M → zx_Tr zr_E → Nat → Option zx_F) (Q : List (zx_M × zx_Tr zr_E)) (Z : ze_Z) (T : zx_Tr zt_C) (K0 d : Nat) (M : zx_M × zx_Tr zr_E) (k0 kr : Nat) (ps : List ze_S) (md : List (Nat × Nat)) (r : Nat → Int) (R : Nat → Nat → Int) (pc : Nat) (L : zx_L) (st : List Value) (h : zx_H) (sl : Nat) : Prop :=
  ∃ (f0 : Nat) (v : Option Value) (h2 : zx_H), (∀ f, f0 ≤ f → zr_run Fo Q f d M pc L st h sl = some (v, h2, sl)) ∧ zt_hk T K0 h2 ∧ zt_fr md h h2 ∧ ∃ p ∈ ps, ∃ (r2 : Nat → Int) (R2 : Nat → Nat → Int), (∀ i, i < k0 → r2 i = r i) ∧ (∀ i, i < kr → R2 i = R i) ∧ ze_g Z r2 R2 p [] v.toList h2
/-- looks that a state wants -/
noncomputable def ze_pc1 : List ((Nat × zt_E) × zt_V) → List ze_G
  | [] => []
  | q :: l => (0, [q.1.1, q.1.2.1.toNat], [], []) :: ze_pc1 l
noncomputable def ze_pc2 : List (Nat × Nat) → List ze_G
  | [] => []
  | q :: l => (1, [q.1], [], []) :: ze_pc2 l
noncomputable def ze_pc (S : ze_S) : List ze_G := ze_pc1 S.1.2.2.2.1 ++ ze_pc2 S.2.2.1
/-- places that a call leaves as they were -/
noncomputable def zi_nat (a : Int) : Nat := Int.rec (motive := fun _ => Nat) (fun m => m) (fun _ => 0) a
theorem zi_nat_eq (a : Int) : zi_nat a = a.toNat := by cases a <;> rfl
noncomputable def zt_kp (md : List (Nat × Nat)) (l : List ((Nat × zt_E) × zt_V)) : List ((Nat × zt_E) × zt_V) := List.rec (motive := fun _ => List ((Nat × zt_E) × zt_V)) [] (fun q _ ih => Bool.rec (motive := fun _ => List ((Nat × zt_E) × zt_V)) (q :: ih) (List.rec (motive := fun _ => List ((Nat × zt_E) × zt_V)) (Bool.rec (motive := fun _ => List ((Nat × zt_E) × zt_V)) (Bool.rec (motive := fun _ => List ((Nat × zt_E) × zt_V)) (q :: ih) ih (zt_md q.1.1 999999 md)) ih (zt_md q.1.1 (zi_nat q.1.2.1) md)) (fun _ _ _ => ih) q.1.2.2) (ze_in1 q.1.1 md)) l
theorem zt_kp_c (md : List (Nat × Nat)) (q : (Nat × zt_E) × zt_V) (l : List ((Nat × zt_E) × zt_V)) : zt_kp md (q :: l) = (match ze_in1 q.1.1 md with
    | false => q :: zt_kp md l
    | true => match q.1.2.2 with
      | [] => match zt_md q.1.1 q.1.2.1.toNat md || zt_md q.1.1 999999 md with
        | true => zt_kp md l
        | false => q :: zt_kp md l
      | _ => zt_kp md l) := by
  obtain ⟨⟨i, c, ts⟩, v⟩ := q
  show Bool.rec (motive := fun _ => List ((Nat × zt_E) × zt_V)) (((i, c, ts), v) :: zt_kp md l) (List.rec (motive := fun _ => List ((Nat × zt_E) × zt_V)) (Bool.rec (motive := fun _ => List ((Nat × zt_E) × zt_V)) (Bool.rec (motive := fun _ => List ((Nat × zt_E) × zt_V)) (((i, c, ts), v) :: zt_kp md l) (zt_kp md l) (zt_md i 999999 md)) (zt_kp md l) (zt_md i (zi_nat c) md)) (fun _ _ _ => zt_kp md l) ts) (ze_in1 i md) = (match ze_in1 i md with
    | false => ((i, c, ts), v) :: zt_kp md l
    | true => match ts with
      | [] => match zt_md i c.toNat md || zt_md i 999999 md with
        | true => zt_kp md l
        | false => ((i, c, ts), v) :: zt_kp md l
      | _ => zt_kp md l)
  rw [zi_nat_eq]
  cases ze_in1 i md with
  | false => rfl
  | true => cases ts with
    | nil => cases zt_md i c.toNat md <;> cases zt_md i 999999 md <;> rfl
    | cons t ts => rfl
theorem zt_md_no {i k : Nat} : ∀ {l : List (Nat × Nat)}, zt_md i k l = false → (i, k) ∉ l
  | [], _, h => nomatch h
  | (a, b) :: l, h, hm => by
    have h9 : (match Nat.beq a i && Nat.beq b k with | true => true | false => zt_md i k l) = false := by
      rw [zt_md_c] at h
      exact h
    split at h9
    · cases h9
    · next e =>
      rcases List.mem_cons.mp hm with z | z
      · obtain ⟨z1, z2⟩ := Prod.mk.inj z
        rw [z1, z2, Nat.beq_refl, Nat.beq_refl] at e
        cases e
      · exact zt_md_no h9 z
theorem zt_kp_in {md : List (Nat × Nat)} {r : Nat → Int} {h h2 : zx_H} (hf : zt_fr md h h2) : ∀ {A : List ((Nat × zt_E) × zt_V)}, zt_o r A h → ∀ q ∈ zt_kp md A, q ∈ A ∧ ∃ (j : Nat) (v : Value), (j : Int) = zt_ev r q.1.2 ∧ zt_at h2 q.1.1 j = some v ∧ zt_val r q.2 v
  | [], _, q, hq => nomatch hq
  | p :: A, ho, q, hq => by
    have ho2 : zt_o r A h := fun x hx => ho x (List.mem_cons_of_mem _ hx)
    have up : q ∈ zt_kp md A → q ∈ p :: A ∧ ∃ (j : Nat) (v : Value), (j : Int) = zt_ev r q.1.2 ∧ zt_at h2 q.1.1 j = some v ∧ zt_val r q.2 v := fun z => ⟨List.mem_cons_of_mem _ (zt_kp_in hf ho2 q z).1, (zt_kp_in hf ho2 q z).2⟩
    rw [zt_kp_c] at hq
    split at hq
    · next e =>
      rcases List.mem_cons.mp hq with z | z
      · obtain ⟨j, v, h1, h3, h4⟩ := ho p List.mem_cons_self
        rw [z]
        exact ⟨List.mem_cons_self, j, v, h1, by rw [hf.2 _ _ (ze_in1_no e j) (ze_in1_no e _)]; exact h3, h4⟩
      · exact up z
    · split at hq
      · next e1 =>
        split at hq
        · exact up hq
        · next e2 =>
          simp only [Bool.or_eq_false_iff] at e2
          rcases List.mem_cons.mp hq with z | z
          · obtain ⟨j, v, h1, h3, h4⟩ := ho p List.mem_cons_self
            rw [z]
            have e3 : j = p.1.2.1.toNat := by
              have h5 : (j : Int) = zt_ev r p.1.2 := h1
              rw [zt_kev e1] at h5
              omega
            exact ⟨List.mem_cons_self, j, v, h1, by rw [hf.2 _ _ (by rw [e3]; exact zt_md_no e2.1) (zt_md_no e2.2)]; exact h3, h4⟩
          · exact up z
      · exact up hq
/-- a state's things with other symbols -/
noncomputable def ze_sv (su : Nat → zt_E) (a : zt_V) : zt_V := (a.1, zt_su su a.2.1, a.2.2)
theorem ze_sv_in {r : Nat → Int} {su : Nat → zt_E} {a : zt_V} {v : Value} (h : zt_val (fun i => zt_ev r (su i)) a v) : zt_val r (ze_sv su a) v := by
  obtain ⟨t, e, i⟩ := a
  match t, h with
  | 0, h =>
    obtain ⟨x, h1, h2⟩ := h
    exact ⟨x, h1, by show _ = zt_ev r (zt_su su e); rw [zt_su_ev]; exact h2⟩
  | 1, h =>
    obtain ⟨x, h1, h2⟩ := h
    exact ⟨x, h1, by show _ = zt_ev r (zt_su su e); rw [zt_su_ev]; exact h2⟩
  | 2, h => exact h
  | 3, h => exact h
  | 4, h =>
    obtain ⟨x, h1, h2, h3⟩ := h
    refine ⟨x, h1, ?_, ?_⟩
    · show x.toInt < 0 ↔ zt_ev r (zt_su su e) < 0
      rw [zt_su_ev]
      exact h2
    · show x.toInt = 0 ↔ zt_ev r (zt_su su e) = 0
      rw [zt_su_ev]
      exact h3
  | 5, h => exact h
  | t + 6, h => exact absurd h (fun z => z)
theorem ze_svs_in {r : Nat → Int} {su : Nat → zt_E} : ∀ {B : List zt_V} {st : List Value}, zt_vs (fun i => zt_ev r (su i)) B st → zt_vs r (B.map (ze_sv su)) st
  | [], [], _ => trivial
  | [], _ :: _, h => absurd h (fun z => z)
  | _ :: _, [], h => absurd h (fun z => z)
  | a :: B, v :: st, h => ⟨ze_sv_in h.1, ze_svs_in h.2⟩
theorem zt_vs_app {r : Nat → Int} : ∀ {A B : List zt_V} {s t : List Value}, zt_vs r A s → zt_vs r B t → zt_vs r (A ++ B) (s ++ t)
  | [], B, [], t, _, h => h
  | [], _, _ :: _, _, h, _ => absurd h (fun z => z)
  | _ :: _, _, [], _, h, _ => absurd h (fun z => z)
  | a :: A, B, v :: s, t, h, h2 => ⟨h.1, zt_vs_app h.2 h2⟩
noncomputable def ze_so (su : Nat → zt_E) (q : (Nat × zt_E) × zt_V) : (Nat × zt_E) × zt_V := ((q.1.1, zt_su su q.1.2), ze_sv su q.2)
noncomputable def ze_r2 (kr n : Nat) (ru : Nat → Nat) (i : Nat) : Nat := match Nat.blt i kr with
  | true => ru i
  | false => n + (i - kr)
/-- what is known behind a call -/
noncomputable def ze_afo (md : List (Nat × Nat)) (su : Nat → zt_E) (ru : Nat → Nat) (k0 kr : Nat) (B : List zt_V) (S p : ze_S) : ze_S :=
  ((S.1.1 + (p.1.1 - k0), S.1.2.1, p.1.2.2.1.map (ze_sv su) ++ B, p.1.2.2.2.1.map (ze_so su) ++ zt_kp md S.1.2.2.2.1, p.1.2.2.2.2.map (zt_su su) ++ S.1.2.2.2.2), (S.2.1 + (p.2.1 - kr), p.2.2.1.map (fun q => (q.1, ru q.2)) ++ ze_dr md S.2.2.1, p.2.2.2.1.map (fun q => (q.1, zt_su su q.2)) ++ S.2.2.2.1, p.2.2.2.2.1.map (fun q => (q.1, ru q.2)) ++ S.2.2.2.2.1, p.2.2.2.2.2.map (ze_sP su ru) ++ S.2.2.2.2.2))
noncomputable def ze_af (md : List (Nat × Nat)) (su : Nat → zt_E) (ru : Nat → Nat) (k0 kr : Nat) (B : List zt_V) (S p : ze_S) : ze_S :=
  ((Nat.add S.1.1 (Nat.sub p.1.1 k0), S.1.2.1, zl_ma (ze_sv su) p.1.2.2.1 B, zl_ma (ze_so su) p.1.2.2.2.1 (zt_kp md S.1.2.2.2.1), zl_ma (zt_su su) p.1.2.2.2.2 S.1.2.2.2.2), (Nat.add S.2.1 (Nat.sub p.2.1 kr), zl_ma (fun q => (q.1, ru q.2)) p.2.2.1 (ze_dr md S.2.2.1), zl_ma (fun q => (q.1, zt_su su q.2)) p.2.2.2.1 S.2.2.2.1, zl_ma (fun q => (q.1, ru q.2)) p.2.2.2.2.1 S.2.2.2.2.1, zl_ma (ze_sP su ru) p.2.2.2.2.2 S.2.2.2.2.2))
theorem ze_af_o (md : List (Nat × Nat)) (su : Nat → zt_E) (ru : Nat → Nat) (k0 kr : Nat) (B : List zt_V) (S p : ze_S) : ze_af md su ru k0 kr B S p = ze_afo md su ru k0 kr B S p := by
  unfold ze_af ze_afo
  simp only [zl_ma_eq]
  rfl
theorem ze_r2_eq {R P2 : Nat → Nat → Int} {kr n : Nat} {ru : Nat → Nat} (hl : ∀ i, i < kr → ru i < n) (hp : ∀ i, i < kr → P2 i = R (ru i)) : ∀ i, (fun j => if j < n then R j else P2 (kr + (j - n))) (ze_r2 kr n ru i) = P2 i := by
  intro i
  unfold ze_r2
  split
  · next e =>
    have e1 : i < kr := Nat.le_of_ble_eq_true e
    show (if ru i < n then R (ru i) else _) = _
    rw [if_pos (hl i e1), hp i e1]
  · next e =>
    have e1 : ¬ i < kr := fun z => by
      rw [show Nat.blt i kr = true from Nat.ble_eq_true_of_le z] at e
      cases e
    show (if n + (i - kr) < n then R (n + (i - kr)) else P2 (kr + (n + (i - kr) - n))) = P2 i
    rw [if_neg (by omega)]
    congr 1
    omega
theorem ze_af_in {Z : ze_Z} {S p : ze_S} {md : List (Nat × Nat)} {s0 : Nat → zt_E} {q0 : Nat → Nat} {k0 kr : Nat} {B : List zt_V} {r rp : Nat → Int} {R Rp : Nat → Nat → Int} {L : zx_L} {st us vs : List Value} {h h2 : zx_H} (hl : ∀ i, zt_lt S.1.1 (s0 i)) (hq : ∀ i, i < kr → q0 i < S.2.1) (hg : ze_g Z r R S L st h) (hB : zt_vs r B us) (hBw : ∀ b ∈ B, zt_lt S.1.1 b.2.1) (hr : ∀ i, i < k0 → rp i = zt_ev r (s0 i)) (hR : ∀ i, i < kr → Rp i = R (q0 i)) (hf : zt_fr md h h2) (hp : ze_g Z rp Rp p [] vs h2) (hw : zt_wf (ze_af md (ze_s2 k0 S.1.1 s0) (ze_r2 kr S.2.1 q0) k0 kr B S p).1 ∧ ze_wx (ze_af md (ze_s2 k0 S.1.1 s0) (ze_r2 kr S.2.1 q0) k0 kr B S p).1.1 (ze_af md (ze_s2 k0 S.1.1 s0) (ze_r2 kr S.2.1 q0) k0 kr B S p).2) :
    ∃ (r2 : Nat → Int) (R2 : Nat → Nat → Int), (∀ i, i < S.1.1 → r2 i = r i) ∧ (∀ i, i < S.2.1 → R2 i = R i) ∧ ze_g Z r2 R2 (ze_af md (ze_s2 k0 S.1.1 s0) (ze_r2 kr S.2.1 q0) k0 kr B S p) L (vs ++ us) h2 := by
  rw [ze_af_o] at hw ⊢
  have hs := ze_s2_ev (r := r) (n := S.1.1) hl hr
  have hrs := ze_r2_eq (R := R) hq hR
  let r2 : Nat → Int := fun j => if j < S.1.1 then r j else rp (k0 + (j - S.1.1))
  let R2 : Nat → Nat → Int := fun j => if j < S.2.1 then R j else Rp (kr + (j - S.2.1))
  have h1 : ∀ i, i < S.1.1 → r2 i = r i := fun i hi => if_pos hi
  have h3 : ∀ i, i < S.2.1 → R2 i = R i := fun i hi => if_pos hi
  have er : (fun i => zt_ev r2 (ze_s2 k0 S.1.1 s0 i)) = rp := funext hs
  have eR : (fun i => R2 (ze_r2 kr S.2.1 q0 i)) = Rp := funext hrs
  obtain ⟨w1, w2⟩ := hw
  obtain ⟨g1, g2, g3, g4, -⟩ := zt_g_eq (r2 := r2) h1 hg.1
  obtain ⟨x1, x2⟩ := ze_x_eq (n := S.1.1) h1 h3 hg.2.2 hg.2.1
  obtain ⟨p1, -, p3, p4, -⟩ := hp.1
  refine ⟨r2, R2, h1, h3, ⟨fun f hf2 => ?_, g2, ?_, fun q hq2 => ?_, w1⟩, ⟨fun q hq2 => ?_, fun w hw2 => ?_⟩, w2⟩
  · rcases List.mem_append.mp hf2 with z | z
    · obtain ⟨f0, y1, rfl⟩ := List.mem_map.mp z
      rw [zt_su_ev, er]
      exact p1 f0 y1
    · exact g1 f z
  · refine zt_vs_app (ze_svs_in ?_) ?_
    · rw [er]
      exact p3
    · have : ∀ (A : List zt_V) (s : List Value), (∀ b ∈ A, zt_lt S.1.1 b.2.1) → zt_vs r A s → zt_vs r2 A s := by
        intro A
        induction A with
        | nil => intro s _ hv; cases s with
          | nil => trivial
          | cons _ _ => exact absurd hv (fun z => z)
        | cons a A ih => intro s hb hv; cases s with
          | nil => exact absurd hv (fun z => z)
          | cons v s => exact ⟨zt_val_eq h1 (hb a List.mem_cons_self) hv.1, ih s (fun b hb2 => hb b (List.mem_cons_of_mem _ hb2)) hv.2⟩
      exact this B us hBw hB
  · rcases List.mem_append.mp hq2 with z | z
    · obtain ⟨q1, y1, rfl⟩ := List.mem_map.mp z
      obtain ⟨j, v, y2, y3, y4⟩ := p4 q1 y1
      refine ⟨j, v, ?_, y3, ze_sv_in ?_⟩
      · show (j : Int) = zt_ev r2 (zt_su _ q1.1.2)
        rw [zt_su_ev, er]
        exact y2
      · rw [er]
        exact y4
    · exact (zt_kp_in hf g4 q z).2
  · rcases List.mem_append.mp hq2 with z | z
    · obtain ⟨q1, y1, rfl⟩ := List.mem_map.mp z
      have := hp.2.1.1 q1 y1
      show ze_row h2 q1.1 ((fun i => R2 (ze_r2 kr S.2.1 q0 i)) q1.2)
      rw [eR]
      exact this
    · obtain ⟨z1, z2⟩ := ze_dr_in z
      exact ze_row_fr hf z2 (x1 q z1)
  · rcases List.mem_append.mp hw2 with z | z
    · obtain ⟨w0, y1, rfl⟩ := List.mem_map.mp z
      refine ze_sPs ?_
      rw [er, eR]
      exact hp.2.1.2 w0 y1
    · exact x2 w z
/-- arguments taken from the stack -/
noncomputable def ze_tk : Nat → List zt_V → List zt_V → Option (List zt_V × List zt_V)
  | 0, B, acc => some (acc, B)
  | n + 1, a :: B, acc => ze_tk n B (a :: acc)
  | _ + 1, [], _ => none
theorem ze_tk_in {r : Nat → Int} {m : Nat} : ∀ {n : Nat} {B acc as rest : List zt_V} {st sacc : List Value}, ze_tk n B acc = some (as, rest) → zt_vs r B st → zt_vs r acc sacc → (∀ b ∈ B, zt_lt m b.2.1) → (∀ b ∈ acc, zt_lt m b.2.1) → ∃ vs us, (∀ (β : Type) (k : List Value → List Value → Option β), zx_take n st sacc k = k vs us) ∧ zt_vs r as vs ∧ zt_vs r rest us ∧ (∀ b ∈ as, zt_lt m b.2.1) ∧ ∀ b ∈ rest, zt_lt m b.2.1
  | 0, B, acc, as, rest, st, sacc, h, h1, h2, h3, h4 => by
    cases h
    exact ⟨sacc, st, fun _ _ => rfl, h2, h1, h4, h3⟩
  | n + 1, [], acc, as, rest, st, sacc, h, h1, h2, h3, h4 => nomatch h
  | n + 1, a :: B, acc, as, rest, [], sacc, h, h1, h2, h3, h4 => absurd h1 (fun z => z)
  | n + 1, a :: B, acc, as, rest, v :: st, sacc, h, h1, h2, h3, h4 => ze_tk_in (n := n) (acc := a :: acc) (sacc := v :: sacc) h h1.2 ⟨h1.1, h2⟩ (fun b hb => h3 b (List.mem_cons_of_mem _ hb)) (fun b hb => (List.mem_cons.mp hb).elim (fun z => by rw [z]; exact h3 a List.mem_cons_self) (h4 b))
/-- what a place does: a step; a call (its method, how many arguments, whether they may be, what is behind); an end -/
abbrev ze_O : Type := (ze_S → ze_R) ⊕ ((Nat × Nat × (List zt_V → Bool) × Nat) ⊕ (zt_S → Bool))
def ze_osp (Z : ze_Z) (T : zx_Tr zt_C) (K0 : Nat) (md : List (Nat × Nat)) (g : zx_F) (o : ze_O) : Prop := match o with
  | .inl A => ze_hpr Z T K0 md g A
  | .inr (.inl c) => ∃ ok, g = zx_call c.1 c.2.1 ok c.2.2.2 ∧ ∀ (r : Nat → Int) (as : List zt_V) (vs : List Value) (h : zx_H), zt_hk T K0 h → zt_vs r as vs → c.2.2.1 as = true → ok vs h = true
  | .inr (.inr rc) => ∀ (r : Nat → Int) (S : zt_S) (L : zx_L) (st : List Value) (h : zx_H), zt_g r S L st h → rc S = true → ∃ v : Option Value, st = v.toList ∧ ∀ (rec : zx_C) (sl : Nat) (k : zx_K), g rec L st h sl k = some (v, h, sl)
