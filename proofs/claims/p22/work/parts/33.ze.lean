/-! ===== a method gone through from cut to cut ===== -/
noncomputable def ze_as (n : Nat) (as : List zt_V) (S : ze_S) : ze_S := ((S.1.1, [], as, S.1.2.2.2.1, S.1.2.2.2.2), S.2)
noncomputable def ze_mds (md l : List (Nat × Nat)) : Bool := List.rec (motive := fun _ => Bool) true (fun q _ ih => Bool.rec (motive := fun _ => Bool) false ih (zt_md q.1 q.2 md)) l
theorem ze_mds_c (md : List (Nat × Nat)) (q : Nat × Nat) (l : List (Nat × Nat)) : ze_mds md (q :: l) = (match zt_md q.1 q.2 md with
    | true => ze_mds md l
    | false => false) := by
  show Bool.rec (motive := fun _ => Bool) false (ze_mds md l) (zt_md q.1 q.2 md) = _
  cases zt_md q.1 q.2 md <;> rfl
theorem ze_mds_in {md : List (Nat × Nat)} : ∀ {l : List (Nat × Nat)}, ze_mds md l = true → ∀ q ∈ l, q ∈ md
  | [], _, q, hq => nomatch hq
  | p :: l, h, q, hq => by
    rw [ze_mds_c] at h
    split at h
    · next e =>
      rcases List.mem_cons.mp hq with z | z
      · rw [z]
        exact zt_md_in e
      · exact ze_mds_in h q z
    · cases h
/-- what is behind a call, an end of its contract after the other -/
noncomputable def ze_afs (c : ze_K) (su : Nat → zt_E) (ru : Nat → Nat) (npc : Nat) (B : List zt_V) (S : ze_S) : List ze_S → Option (List (Nat × ze_S))
  | [] => some []
  | p :: ps => match ze_wfb (ze_af c.2.2.2.2 (ze_s2 c.2.2.1.1.1 S.1.1 su) (ze_r2 c.2.2.1.2.1 S.2.1 ru) c.2.2.1.1.1 c.2.2.1.2.1 B S p) with
    | false => none
    | true => match ze_afs c su ru npc B S ps with
      | none => none
      | some l => some ((npc, ze_af c.2.2.2.2 (ze_s2 c.2.2.1.1.1 S.1.1 su) (ze_r2 c.2.2.1.2.1 S.2.1 ru) c.2.2.1.1.1 c.2.2.1.2.1 B S p) :: l)
theorem ze_afs_in {c : ze_K} {su : Nat → zt_E} {ru : Nat → Nat} {npc : Nat} {B : List zt_V} {S p : ze_S} : ∀ {ps : List ze_S} {l : List (Nat × ze_S)}, ze_afs c su ru npc B S ps = some l → p ∈ ps → ze_wfb (ze_af c.2.2.2.2 (ze_s2 c.2.2.1.1.1 S.1.1 su) (ze_r2 c.2.2.1.2.1 S.2.1 ru) c.2.2.1.1.1 c.2.2.1.2.1 B S p) = true ∧ (npc, ze_af c.2.2.2.2 (ze_s2 c.2.2.1.1.1 S.1.1 su) (ze_r2 c.2.2.1.2.1 S.2.1 ru) c.2.2.1.1.1 c.2.2.1.2.1 B S p) ∈ l
  | [], l, h, hp => nomatch hp
  | q :: ps, l, h, hp => by
    unfold ze_afs at h
    split at h
    · cases h
    · next e =>
      split at h
      · cases h
      · next l2 e2 =>
        cases h
        rcases List.mem_cons.mp hp with z | z
        · rw [z]
          exact ⟨e, List.mem_cons_self⟩
        · obtain ⟨h1, h2⟩ := ze_afs_in e2 z
          exact ⟨h1, List.mem_cons_of_mem _ h2⟩
/-- a call by a contract -/
noncomputable def ze_ca (c : ze_K) (n : Nat) (okc : List zt_V → Bool) (npc : Nat) (md : List (Nat × Nat)) (S : ze_S) : Option (List (Nat × ze_S)) := match ze_tk n S.1.2.2.1 [] with
  | none => none
  | some ab => match okc ab.1 && (Nat.ble (zt_cats ab.2) 8 && ze_mds md c.2.2.2.2) with
    | false => none
    | true => match ze_mt 0 0 (ze_as n ab.1 S) c.2.2.1 with
      | none => none
      | some sr => match ze_all (fun q => zt_ltb S.1.1 q.2.2) sr.1 && ze_all (fun q => Nat.blt q.2 S.2.1) sr.2 && Nat.blt 0 S.2.1 with
        | false => none
        | true => ze_afs c (zt_sl 0 sr.1) (ze_rl 0 sr.2) npc ab.2 S c.2.2.2.1
theorem ze_sl_lt {n : Nat} : ∀ {sg : List (Nat × zt_E)}, ze_all (fun q => zt_ltb n q.2.2) sg = true → ∀ i, zt_lt n (zt_sl 0 sg i)
  | [], _, i => fun t ht => nomatch ht
  | q :: l, h, i => by
    have h9 : (match zt_ltb n q.2.2 with | true => ze_all (fun q => zt_ltb n q.2.2) l | false => false) = true := by
      rw [ze_all_c] at h
      exact h
    split at h9
    · next e =>
      show zt_lt n (match Nat.blt i 0 with | true => zt_s i | false => match Nat.beq q.1 i with | true => q.2 | false => zt_sl 0 l i)
      have e0 : Nat.blt i 0 = false := rfl
      rw [e0]
      dsimp only
      split
      · exact zt_ltb_in e
      · exact ze_sl_lt h9 i
    · cases h9
theorem ze_rl_lt {n : Nat} {rg : List (Nat × Nat)} (hn : 0 < n) (h : ze_all (fun q => Nat.blt q.2 n) rg = true) (i : Nat) : ze_rl 0 rg i < n := by
  unfold ze_rl
  rw [show Nat.blt i 0 = false from rfl]
  dsimp only
  split
  · next q e =>
    exact Nat.le_of_ble_eq_true (ze_all_in h _ (ze_lm_in e))
  · exact hn
theorem ze_ca_in {Fo : zx_M → zx_Tr zr_E → Nat → Option zx_F} {Q : List (zx_M × zx_Tr zr_E)} {Z : ze_Z} {T : zx_Tr zt_C} {K0 n npc d : Nat} {md : List (Nat × Nat)} {okc : List zt_V → Bool} {ok : List Value → zx_H → Bool} {c : ze_K} {S : ze_S} {l : List (Nat × ze_S)} {r : Nat → Int} {R : Nat → Nat → Int} {L : zx_L} {st : List Value} {h : zx_H} (sl : Nat) (hK : ze_kt Fo Q Z T K0 c) (hw : ze_wfb c.2.2.1 = true) (hd : c.2.1 ≤ d) (hok : ∀ (r : Nat → Int) (as : List zt_V) (vs : List Value) (h : zx_H), zt_hk T K0 h → zt_vs r as vs → okc as = true → ok vs h = true) (hk : zt_hk T K0 h) (hg : ze_g Z r R S L st h) (hA : ze_ca c n okc npc md S = some l) :
    ∃ q ∈ l, q.1 = npc ∧ ∃ (r2 : Nat → Int) (R2 : Nat → Nat → Int) (st2 : List Value) (h2 : zx_H) (f0 : Nat), (∀ (f : Nat) (k : zx_K), f0 ≤ f → zx_call c.1 n ok npc (fun mi as h1 s1 => zr_call Fo Q f d mi as h1 s1) L st h sl k = k npc L st2 h2 sl) ∧ (∀ i, i < S.1.1 → r2 i = r i) ∧ (∀ i, i < S.2.1 → R2 i = R i) ∧ S.1.1 ≤ q.2.1.1 ∧ S.2.1 ≤ q.2.2.1 ∧ ze_g Z r2 R2 q.2 L st2 h2 ∧ zt_hk T K0 h2 ∧ zt_fr md h h2 := by
  unfold ze_ca at hA
  split at hA
  · cases hA
  · next ab e1 =>
    split at hA
    · cases hA
    · next e2 =>
      split at hA
      · cases hA
      · next sr e3 =>
        split at hA
        · cases hA
        · next e4 =>
          obtain ⟨as, B⟩ := ab
          obtain ⟨sg, rg⟩ := sr
          simp only [Bool.and_eq_true] at e2 e4
          obtain ⟨e2, e5, e6⟩ := e2
          obtain ⟨⟨e7, e8⟩, e9⟩ := e4
          have hn : 0 < S.2.1 := Nat.le_of_ble_eq_true e9
          obtain ⟨c1, c2⟩ := ze_wfb_in hw
          obtain ⟨vs, us, g1, g2, g3, g4, g5⟩ := ze_tk_in (r := r) (m := S.1.1) (st := st) (sacc := []) e1 hg.1.2.2.1 trivial hg.1.2.2.2.2.2.1 (fun b hb => nomatch hb)
          have hS : ze_g Z r R (ze_as n as S) [] vs h := ⟨⟨hg.1.1, (fun q hq => absurd hq List.not_mem_nil), g2, hg.1.2.2.2.1, (fun q hq => absurd hq List.not_mem_nil), g4, hg.1.2.2.2.2.2.2.1, hg.1.2.2.2.2.2.2.2⟩, hg.2⟩
          have hm := ze_mt_in c1 c2 hS e3
          obtain ⟨f0, v, h2, k1, k2, k3, p, k4, rp, Rp, k5, k6, k7⟩ := hK d hd vs h sl _ _ hk hm
          obtain ⟨y1, y2⟩ := ze_afs_in hA k4
          obtain ⟨r2, R2, z1, z2, z3⟩ := ze_af_in (ze_sl_lt e7) (fun i _ => ze_rl_lt hn e8 i) hg g3 g5 k5 k6 k3 k7 (ze_wfb_in y1)
          refine ⟨_, y2, rfl, r2, R2, v.toList ++ us, h2, f0, fun f k hf => ?_, z1, z2, Nat.le_add_right _ _, Nat.le_add_right _ _, z3, k2, zt_fr_sub (ze_mds_in e6) k3⟩
          unfold zx_call
          rw [g1, hok r as vs h hk g2 e2, show Nat.ble (zx_cats us) 8 = true by rw [zt_cats_in g3]; exact e5]
          show (match zr_call Fo Q f d c.1 vs h sl with | some (v, h2, s2) => k npc L (v.toList ++ us) h2 s2 | none => none) = _
          rw [k1 f hf]
/-- numbers that fall: the first that does, those ahead of it don't rise -/
def ze_lx : List Nat → List Nat → Prop
  | a :: l, b :: m => (a < b ∧ l.length = m.length) ∨ (a ≤ b ∧ ze_lx l m)
  | _, _ => False
theorem ze_lx_len : ∀ {l m : List Nat}, ze_lx l m → l.length = m.length
  | [], [], h => absurd h (fun z => z)
  | [], _ :: _, h => absurd h (fun z => z)
  | _ :: _, [], h => absurd h (fun z => z)
  | a :: l, b :: m, h => by
    rcases h with h | h
    · show l.length + 1 = m.length + 1
      rw [h.2]
    · show l.length + 1 = m.length + 1
      rw [ze_lx_len h.2]
theorem ze_lx_acc : ∀ (n : Nat) (m : List Nat), m.length = n → Acc ze_lx m
  | 0, [], _ => Acc.intro _ (fun l h => absurd h (by cases l <;> exact fun z => z))
  | 0, _ :: _, h => nomatch h
  | n + 1, [], h => nomatch h
  | n + 1, b :: m, h => by
    have hm : m.length = n := Nat.succ.inj h
    have key : ∀ (b : Nat) (m : List Nat), Acc ze_lx m → m.length = n → (∀ a, a < b → ∀ l : List Nat, l.length = n → Acc ze_lx (a :: l)) → Acc ze_lx (b :: m) := by
      intro b m hacc
      induction hacc with
      | intro m _ ih =>
        intro hlen hb
        refine Acc.intro _ (fun l hl => ?_)
        cases l with
        | nil => exact absurd hl (fun z => z)
        | cons a l =>
          rcases hl with h1 | h1
          · exact hb a h1.1 l (h1.2.trans hlen)
          · rcases Nat.lt_or_ge a b with h2 | h2
            · exact hb a h2 l ((ze_lx_len h1.2).trans hlen)
            · have e : a = b := Nat.le_antisymm h1.1 h2
              rw [e]
              exact ih l h1.2 ((ze_lx_len h1.2).trans hlen) hb
    have all : ∀ b : Nat, ∀ m : List Nat, m.length = n → Acc ze_lx (b :: m) := by
      intro b
      induction b using Nat.strongRecOn with
      | ind b ih => exact fun m hm => key b m (ze_lx_acc n m hm) hm ih
    exact all b m hm
noncomputable def ze_mu (r : Nat → Int) (ts : List zt_E) : List Nat := ts.map (fun e => (zt_ev r e).toNat)
/-- new numbers, old ones -/
noncomputable def ze_de (F : List zt_E) : List zt_E → List zt_E → Bool
  | a :: l, b :: m => (zt_ge F (zt_sub (zt_sub b a) (zt_k 1)) && (zt_ge F (zt_sub b (zt_k 1)) && Nat.beq l.length m.length)) || (zt_ge F (zt_sub b a) && ze_de F l m)
  | _, _ => false
theorem ze_de_in {r : Nat → Int} {F : List zt_E} (hF : zt_ok r F) : ∀ {l m : List zt_E}, ze_de F l m = true → ze_lx (ze_mu r l) (ze_mu r m)
  | [], [], h => nomatch h
  | [], _ :: _, h => nomatch h
  | _ :: _, [], h => nomatch h
  | a :: l, b :: m, h => by
    have h9 : ((zt_ge F (zt_sub (zt_sub b a) (zt_k 1)) && (zt_ge F (zt_sub b (zt_k 1)) && Nat.beq l.length m.length)) || (zt_ge F (zt_sub b a) && ze_de F l m)) = true := h
    rcases Bool.or_eq_true_iff.mp h9 with z | z
    · simp only [Bool.and_eq_true] at z
      have h1 := zt_ge_in hF z.1
      have h2 := zt_ge_in hF z.2.1
      rw [zt_sub_ev, zt_sub_ev, zt_k_ev] at h1
      rw [zt_sub_ev, zt_k_ev] at h2
      have h3 : l.length = m.length := Nat.eq_of_beq_eq_true z.2.2
      refine Or.inl ⟨?_, by show (l.map _).length = (m.map _).length; rw [List.length_map, List.length_map, h3]⟩
      show (zt_ev r a).toNat < (zt_ev r b).toNat
      omega
    · simp only [Bool.and_eq_true] at z
      have h1 := zt_ge_in hF z.1
      rw [zt_sub_ev] at h1
      refine Or.inr ⟨?_, ze_de_in hF z.2⟩
      show (zt_ev r a).toNat ≤ (zt_ev r b).toNat
      omega
/-- a cut: a state, and numbers that fall from cut to cut -/
abbrev ze_T : Type := ze_S × List zt_E
/-- what is laid down of a method: what its places do, cuts, what is done besides, which contracts are taken -/
abbrev ze_Q : Type := (Nat → Option ze_O) × List (Nat × List ze_T) × List (Nat × List ze_G) × List (Nat × List Nat)
noncomputable def ze_fd {α : Type} (n : Nat) (l : List (Nat × α)) : Option α := List.rec (motive := fun _ => Option α) none (fun q _ ih => Bool.rec (motive := fun _ => Option α) ih (some q.2) (Nat.beq q.1 n)) l
theorem ze_fd_c {α : Type} (n : Nat) (q : Nat × α) (l : List (Nat × α)) : ze_fd n (q :: l) = (match Nat.beq q.1 n with | true => some q.2 | false => ze_fd n l) := by
  show Bool.rec (motive := fun _ => Option α) (ze_fd n l) (some q.2) (Nat.beq q.1 n) = _
  cases (Nat.beq q.1 n) <;> rfl
theorem ze_fd_in {α : Type} {n : Nat} : ∀ {l : List (Nat × α)} {a : α}, ze_fd n l = some a → (n, a) ∈ l
  | [], a, h => nomatch h
  | q :: l, a, h => by
    have h9 : (match Nat.beq q.1 n with | true => some q.2 | false => ze_fd n l) = some a := by
      rw [ze_fd_c] at h
      exact h
    split at h9
    · next e =>
      cases h9
      rw [← Nat.eq_of_beq_eq_true e]
      exact List.mem_cons_self
    · exact List.mem_cons_of_mem _ (ze_fd_in h9)
noncomputable def ze_any {α : Type} (f : α → Bool) : List α → Bool
  | [] => false
  | a :: l => match f a with
    | true => true
    | false => ze_any f l
theorem ze_any_in {α : Type} {f : α → Bool} : ∀ {l : List α}, ze_any f l = true → ∃ a ∈ l, f a = true
  | [], h => nomatch h
  | b :: l, h => by
    unfold ze_any at h
    split at h
    · next e => exact ⟨b, List.mem_cons_self, e⟩
    · obtain ⟨a, h1, h2⟩ := ze_any_in h
      exact ⟨a, List.mem_cons_of_mem _ h1, h2⟩
noncomputable def ze_ct (k0 kr : Nat) (rk : Option (List zt_E)) (t : ze_T) (S : ze_S) : Bool := match ze_mt k0 kr S t.1 with
  | none => false
  | some sr => match rk with
    | none => true
    | some m => ze_de S.1.2.2.2.2 (t.2.map (zt_su (zt_sl k0 sr.1))) m
noncomputable def ze_cts (T : zx_Tr zt_C) (Us : List ze_U) (k0 kr : Nat) (rk : Option (List zt_E)) (ts : List ze_T) (S : ze_S) : Bool := ze_any (fun t => ze_all (ze_ct k0 kr rk t) (ze_gl T Us (ze_pc t.1) [S])) ts
noncomputable def ze_en (T : zx_Tr zt_C) (Us : List ze_U) (k0 kr : Nat) (ps : List ze_S) (S : ze_S) : Bool := ze_any (fun p => ze_all (fun S2 => match ze_mt k0 kr S2 p with | none => false | some _ => true) (ze_gl T Us (ze_pc p) [S])) ps
noncomputable def ze_nl (S : ze_S) : ze_S := ((S.1.1, [], S.1.2.2), S.2)
/-- a contract's ends, from all states that looks lead to -/
noncomputable def ze_cl (f : ze_S → Option (List (Nat × ze_S))) : List ze_S → Option (List (Nat × ze_S))
  | [] => some []
  | S :: l => match f S with
    | none => none
    | some a => match ze_cl f l with
      | none => none
      | some b => some (a ++ b)
theorem ze_cl_in {f : ze_S → Option (List (Nat × ze_S))} {S : ze_S} : ∀ {l : List ze_S} {m : List (Nat × ze_S)}, ze_cl f l = some m → S ∈ l → ∃ a, f S = some a ∧ ∀ x ∈ a, x ∈ m
  | [], m, h, hS => nomatch hS
  | A :: l, m, h, hS => by
    unfold ze_cl at h
    split at h
    · cases h
    · next a e1 =>
      split at h
      · cases h
      · next b e2 =>
        cases h
        rcases List.mem_cons.mp hS with z | z
        · rw [z]
          exact ⟨a, e1, fun x hx => List.mem_append_left _ hx⟩
        · obtain ⟨a2, h1, h2⟩ := ze_cl_in e2 z
          exact ⟨a2, h1, fun x hx => List.mem_append_right _ (h2 x hx)⟩
/-- the run: what may be called and how deep, the contract's symbols and ends, what may change, the numbers that fall -/
noncomputable def ze_ex (T : zx_Tr zt_C) (Us : List ze_U) (KS : zx_Tr ze_K) (top dp : Nat) (C : ze_Q) (k0 kr : Nat) (ps : List ze_S) (md : List (Nat × Nat)) (rk : Option (List zt_E)) : Nat → Bool → Nat → ze_S → Bool
  | 0, _, _, _ => false
  | f + 1, first, pc, S => match (match first with | true => none | false => ze_fd pc C.2.1) with
    | some ts => ze_cts T Us k0 kr rk ts S
    | none => match C.1 pc with
      | none => false
      | some o => ze_all (fun S1 => match o with
        | .inl A => (match A S1 with
          | none => false
          | some l => ze_all (fun q => ze_ex T Us KS top dp C k0 kr ps md rk f false q.1 q.2) l)
        | .inr (.inl c) => (match ze_fd pc C.2.2.2 with
          | none => false
          | some ids => ze_any (fun i => match zx_g10 KS i with
            | none => false
            | some K => Nat.blt i top && (Nat.blt K.2.1 dp && (Nat.beq K.1 c.1 && (ze_wfb K.2.2.1 && (match ze_cl (ze_ca K c.2.1 c.2.2.1 c.2.2.2 md) (ze_gl T Us (ze_pc K.2.2.1) [S1]) with
              | none => false
              | some l => ze_all (fun q => ze_ex T Us KS top dp C k0 kr ps md rk f false q.1 q.2) l))))) ids)
        | .inr (.inr rc) => rc S1.1 && ze_en T Us k0 kr ps (ze_nl S1)) (match ze_fd pc C.2.2.1 with | none => [S] | some gs => ze_gl T Us gs [S])
