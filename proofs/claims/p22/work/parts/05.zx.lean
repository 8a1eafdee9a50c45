/-! ===== calls, ends, static fields; a method's run, and what it says ===== -/
noncomputable def zx_lcmp (npc : Nat) : zx_F := zx_bC (fun a b => lg_cmp a b) npc
theorem zx_lcmp_ok {P : zx_P} {G : zx_G} {M : zx_M} {pc : Nat} (hd : decode M.2.1 pc = .ok (.lcmp, 1)) : zx_ok P G M pc (zx_lcmp (pc + 1)) := zx_bC_ok (fun p l e R s m args below meth c H locs cells slots Q ls rest a b hx hb k => W.lcmp hx hb hd k)
theorem zx_x_moved {P : zx_P} {G : zx_G} {u U : State} (hW : u.WarmedH U.vm) (h : zx_x P G u) : zx_x P G U :=
  have hvm := hW.alike
  ⟨fun j z hz => by
    obtain ⟨v, h1, h2⟩ := h.1 j z hz
    exact ⟨v, h1, va_Z.moved hvm h2⟩, fun j z hz => by
    obtain ⟨h0, h1, h2, h3, h4⟩ := h.2.1 j z hz
    exact ⟨h0, va_OF.moved hvm h1, va_OF.moved hvm h2, va_O.moved hvm h3, fun q hq => vk_R.warm hW (h4 q hq)⟩, fun ty hty => zx_AO_moved hvm (h.2.2.1 ty hty), fun w hw => zx_nst_moved hW (h.2.2.2.1 w hw), h.2.2.2.2.1, h.2.2.2.2.1 _ _ hW h.2.2.2.2.2⟩
-- static fields
noncomputable def zx_gets (v : Value) (npc : Nat) : zx_F := fun _ L st h sl k => k npc L (v :: st) h sl
theorem zx_getstatic_ok {P : zx_P} {G : zx_G} {M : zx_M} {pc j index : Nat} {C n d : String} {v : Value} (hz : P.2.2.2.2.2.1[j]? = some (C, n, d, v)) (hw : Cond.fieldLink M.1.cls index C n d ∈ P.2.2.1) (hd : decode M.2.1 pc = .ok (.getstatic index, 3)) : zx_ok P G M pc (zx_gets v (pc + 3)) := by
  refine zx_read (fun rec kk L st h sl res hr => ⟨_, _, hr, fun p l e R s m args below meth c H locs cells slots Q X hh ls cst g3 kk => ?_⟩)
  obtain ⟨w, hv, cf, kf, fi, f, a, cell, h1, h2, h3, h4, h5, h6, h7, h8⟩ := X.2.2.2.2.2.2.2.2.2.1 j _ hz
  exact W.gets X.1 X.2.1 X.2.2.2.2.1 (X.2.2.2.2.2.1 _ hw) h1 h2 h3 h4 (by rw [hh.2.2.2.2 a (Nat.not_le.mp h8)]; exact h5) (fun e => by rw [e] at h6; cases h6) h7 rfl hd (kk (w :: cst) ⟨hv, g3⟩)
theorem zx_getstaticN_ok {P : zx_P} {G : zx_G} {M : zx_M} {pc j index : Nat} {C n d host : String} {v : Value} (hz : P.2.2.2.2.2.1[j]? = some (C, n, d, v)) (hw : Cond.fieldLinkNest M.1.cls index C n d host ∈ P.2.2.2.2.2.2.2.2) (hd : decode M.2.1 pc = .ok (.getstatic index, 3)) : zx_ok P G M pc (zx_gets v (pc + 3)) := by
  refine zx_read (fun rec kk L st h sl res hr => ⟨_, _, hr, fun p l e R s m args below meth c H locs cells slots Q X hh ls cst g3 kk => ?_⟩)
  obtain ⟨w, hv, cf, kf, fi, f, a, cell, h1, h2, h3, h4, h5, h6, h7, h8⟩ := X.2.2.2.2.2.2.2.2.2.1 j _ hz
  exact va_WgetsN X.1 X.2.1 X.2.2.2.2.1 (va_Nw.use rfl (X.2.2.2.2.2.2.2.2.2.2.2.2.1 _ hw)) h1 h2 h3 h4 (by rw [hh.2.2.2.2 a (Nat.not_le.mp h8)]; exact h5) (fun e => by rw [e] at h6; cases h6) h7 rfl hd (kk (w :: cst) ⟨hv, g3⟩)
-- ends
noncomputable def zx_iret : zx_F := fun _ _ st h sl _ => match st with
  | [.int x] => some (some (.int x), h, sl)
  | [.float b] => some (some (.float b), h, sl)
  | _ => none
noncomputable def zx_zret (ty : FieldType) : zx_F := fun _ _ st h sl _ => match st with
  | [.int x] => if narrow ty (.int x) = .int x then some (some (.int x), h, sl) else none
  | _ => none
noncomputable def zx_lret : zx_F := fun _ _ st h sl _ => match st with
  | [.long x] => some (some (.long x), h, sl)
  | [.double b] => some (some (.double b), h, sl)
  | _ => none
noncomputable def zx_aret : zx_F := fun _ _ st h sl _ => match st with
  | [.ref i] => some (some (.ref i), h, sl)
  | [.null] => some (some .null, h, sl)
  | _ => none
noncomputable def zx_vret : zx_F := fun _ _ st h sl _ => match st with
  | [] => some (none, h, sl)
  | _ => none
/-- a step that ends the method -/
theorem zx_end {P : zx_P} {G : zx_G} {M : zx_M} {pc : Nat} {f : zx_F}
    (hf : ∀ (rec : zx_C) (k : zx_K) (L : zx_L) (st : List Value) (h : zx_H) (sl : Nat) (res : zx_T), f rec L st h sl k = some res → ∃ v, res = (v, h, sl) ∧
      ∀ (p : Program) (l : Launch) (e : Env) (R : Room) (s : State) (m : MethodId) (args : Array Value) (below : List Frame) (meth : Method) (c : Code) (H : Heap) (locs : List Loc) (cells slots : Nat) (free : Addr → Prop) (Qc : Array Value → State → Outcome → State → Prop), zx_c P G M p s m args meth c →
        ∀ (ls : Array Slot) (cst : List Value), zx_vs G.2.2.2.1 st cst → (∀ cv, zx_o G.2.2.2.1 v cv → ∀ t : State, t.heap = H → s.WarmedH t.vm → Qc args s (.returned cv) t) → (∀ q ∈ locs, free q.base) →
        W p l e R s m args below meth c H locs cells slots (MQ below Qc args s cells slots free) (F0 m pc ls cst)) : zx_ok P G M pc f := by
  intro E d k0 s0 res rec k L st h sl hE hr _ _
  obtain ⟨v, rfl, h2⟩ := hf rec k L st h sl res hr
  refine ⟨Nat.le_refl _, Nat.le_refl _, fun p e s m args below meth c C H locs ls CL cst hh hl g1 g2 g3 hk0 hs0 => ?_⟩
  exact zx_Wmono (fun t ht => hE p e s m args below meth c t ht) (h2 p _ e _ s m args below meth c H locs _ _ _ _ C ls cst g3 (fun cv ho t ht _ => ⟨⟨cv, rfl, ho⟩, by rw [ht]; exact hh⟩) hl)
theorem zx_ireturn_ok {P : zx_P} {G : zx_G} {M : zx_M} {pc : Nat} (hr : M.2.2.2.1 = some .int) (hd : decode M.2.1 pc = .ok (.ireturn, 1)) : zx_ok P G M pc zx_iret := by
  refine zx_end (fun rec kk L st h sl res hf => ?_)
  unfold zx_iret at hf
  split at hf
  · next x =>
    cases hf
    refine ⟨_, rfl, fun p l e R s m args below meth c H locs cells slots free Qc X ls cst g3 hq hl => ?_⟩
    obtain ⟨cv, vs, rfl, hv, hvs⟩ := zx_vs_cons g3
    obtain rfl := zx_vs_nil hvs
    cases hv
    exact W.iret X.1 X.2.1 (X.2.2.1.trans hr) (fun t ht hW => hq (some (.int x)) rfl t ht hW) hl hd X.2.2.2.2.2.2.1
  · next b =>
    cases hf
    refine ⟨_, rfl, fun p l e R s m args below meth c H locs cells slots free Qc X ls cst g3 hq hl => ?_⟩
    obtain ⟨cv, vs, rfl, hv, hvs⟩ := zx_vs_cons g3
    obtain rfl := zx_vs_nil hvs
    obtain ⟨x, rfl, hx⟩ := hv
    exact W.iret X.1 X.2.1 (X.2.2.1.trans hr) (fun t ht hW => hq (some (.int x)) ⟨x, rfl, hx⟩ t ht hW) hl hd X.2.2.2.2.2.2.1
  · cases hf
theorem zx_zreturn_ok {P : zx_P} {G : zx_G} {M : zx_M} {pc : Nat} {ty : FieldType} (hr : M.2.2.2.1 = some ty) (hd : decode M.2.1 pc = .ok (.ireturn, 1)) : zx_ok P G M pc (zx_zret ty) := by
  refine zx_end (fun rec kk L st h sl res hf => ?_)
  unfold zx_zret at hf
  split at hf
  · next x =>
    split at hf
    · next hn =>
      cases hf
      refine ⟨_, rfl, fun p l e R s m args below meth c H locs cells slots free Qc X ls cst g3 hq hl => ?_⟩
      obtain ⟨cv, vs, rfl, hv, hvs⟩ := zx_vs_cons g3
      obtain rfl := zx_vs_nil hvs
      cases hv
      exact W.zret X.1 X.2.1 (X.2.2.1.trans hr) hn (fun t ht hW => hq (some (.int x)) rfl t ht hW) hl hd X.2.2.2.2.2.2.1
    · cases hf
  · cases hf
theorem zx_lreturn_ok {P : zx_P} {G : zx_G} {M : zx_M} {pc : Nat} (hr : M.2.2.2.1 = some .long) (hd : decode M.2.1 pc = .ok (.lreturn, 1)) : zx_ok P G M pc zx_lret := by
  refine zx_end (fun rec kk L st h sl res hf => ?_)
  unfold zx_lret at hf
  split at hf
  · next x =>
    cases hf
    refine ⟨_, rfl, fun p l e R s m args below meth c H locs cells slots free Qc X ls cst g3 hq hl => ?_⟩
    obtain ⟨cv, vs, rfl, hv, hvs⟩ := zx_vs_cons g3
    obtain rfl := zx_vs_nil hvs
    cases hv
    exact W.lret X.1 X.2.1 (X.2.2.1.trans hr) (fun t ht hW => hq (some (.long x)) rfl t ht hW) hl hd X.2.2.2.2.2.2.1
  · next b =>
    cases hf
    refine ⟨_, rfl, fun p l e R s m args below meth c H locs cells slots free Qc X ls cst g3 hq hl => ?_⟩
    obtain ⟨cv, vs, rfl, hv, hvs⟩ := zx_vs_cons g3
    obtain rfl := zx_vs_nil hvs
    obtain ⟨x, rfl, hx⟩ := hv
    exact W.lret X.1 X.2.1 (X.2.2.1.trans hr) (fun t ht hW => hq (some (.long x)) ⟨x, rfl, hx⟩ t ht hW) hl hd X.2.2.2.2.2.2.1
  · cases hf
theorem zx_areturn_ok {P : zx_P} {G : zx_G} {M : zx_M} {pc : Nat} {rt : FieldType} (hr : M.2.2.2.1 = some rt) (hrt : (∃ n, rt = .object n) ∨ ∃ t, rt = .array t) (hd : decode M.2.1 pc = .ok (.areturn, 1)) : zx_ok P G M pc zx_aret := by
  refine zx_end (fun rec kk L st h sl res hf => ?_)
  unfold zx_aret at hf
  split at hf
  · next x =>
    cases hf
    refine ⟨_, rfl, fun p l e R s m args below meth c H locs cells slots free Qc X ls cst g3 hq hl => ?_⟩
    obtain ⟨cv, vs, rfl, hv, hvs⟩ := zx_vs_cons g3
    obtain rfl := zx_vs_nil hvs
    cases hv
    exact W.aret X.1 X.2.1 (X.2.2.1.trans hr) hrt (Or.inr ⟨_, rfl⟩) (fun t ht hW => hq (some (.ref _)) rfl t ht hW) hl hd X.2.2.2.2.2.2.1
  · cases hf
    refine ⟨_, rfl, fun p l e R s m args below meth c H locs cells slots free Qc X ls cst g3 hq hl => ?_⟩
    obtain ⟨cv, vs, rfl, hv, hvs⟩ := zx_vs_cons g3
    obtain rfl := zx_vs_nil hvs
    cases hv
    exact W.aret X.1 X.2.1 (X.2.2.1.trans hr) hrt (Or.inl rfl) (fun t ht hW => hq (some .null) rfl t ht hW) hl hd X.2.2.2.2.2.2.1
  · cases hf
theorem zx_return_ok {P : zx_P} {G : zx_G} {M : zx_M} {pc : Nat} (hr : M.2.2.2.1 = none) (hd : decode M.2.1 pc = .ok (.return_, 1)) : zx_ok P G M pc zx_vret := by
  refine zx_end (fun rec kk L st h sl res hf => ?_)
  unfold zx_vret at hf
  split at hf
  · cases hf
    refine ⟨_, rfl, fun p l e R s m args below meth c H locs cells slots free Qc X ls cst g3 hq hl => ?_⟩
    obtain rfl := zx_vs_nil g3
    exact W.vret X.1 X.2.1 (X.2.2.1.trans hr) (fun t ht hW => hq none trivial t ht hW) hl hd X.2.2.2.2.2.2.1
  · cases hf
-- calls
noncomputable def zx_cats : List Value → Nat
  | [] => 0
  | a :: r => a.category + zx_cats r
theorem zx_cats_sum : ∀ (l : List Value), (l.map fun v => v.category).sum = zx_cats l
  | [] => rfl
  | a :: r => by simp [zx_cats, zx_cats_sum r]
theorem zx_cats_vs {ad : zx_D} : ∀ {as cs : List Value}, zx_vs ad as cs → zx_cats as = zx_cats cs
  | [], [], _ => rfl
  | [], _ :: _, h => absurd h (fun q => q)
  | _ :: _, [], h => absurd h (fun q => q)
  | a :: as, c :: cs, h => by
    unfold zx_cats
    rw [zx_cat h.1, zx_cats_vs h.2]
noncomputable def zx_take {β : Type} : Nat → List Value → List Value → (List Value → List Value → Option β) → Option β
  | 0, st, acc, k => k acc st
  | n + 1, a :: st, acc, k => zx_take n st (a :: acc) k
  | _ + 1, [], _, _ => none
theorem zx_take_in {β : Type} : ∀ {n : Nat} {st acc : List Value} {k : List Value → List Value → Option β} {r : β}, zx_take n st acc k = some r → ∃ as rest, as.length = n ∧ st = as.reverse ++ rest ∧ k (as ++ acc) rest = some r
  | 0, st, acc, k, r, h => ⟨[], st, rfl, rfl, h⟩
  | n + 1, a :: st, acc, k, r, h => by
    obtain ⟨as, rest, h1, h2, h3⟩ := zx_take_in (n := n) (st := st) (acc := a :: acc) h
    refine ⟨as ++ [a], rest, by simp [h1], ?_, by simpa using h3⟩
    rw [h2]
    simp
  | _ + 1, [], _, _, _, h => by cases h
theorem zx_vs_app {ad : zx_D} : ∀ {as bs cst : List Value}, zx_vs ad (as ++ bs) cst → ∃ c1 c2, cst = c1 ++ c2 ∧ zx_vs ad as c1 ∧ zx_vs ad bs c2
  | [], bs, cst, h => ⟨[], cst, rfl, trivial, h⟩
  | a :: as, bs, cst, h => by
    obtain ⟨v, vs, rfl, h1, h2⟩ := zx_vs_cons (as := as ++ bs) h
    obtain ⟨c1, c2, rfl, h3, h4⟩ := zx_vs_app h2
    exact ⟨v :: c1, c2, rfl, ⟨h1, h3⟩, h4⟩
theorem zx_vs_join {ad : zx_D} : ∀ {as bs c1 c2 : List Value}, zx_vs ad as c1 → zx_vs ad bs c2 → zx_vs ad (as ++ bs) (c1 ++ c2)
  | [], _, [], _, _, h => h
  | [], _, _ :: _, _, h, _ => absurd h (fun q => q)
  | _ :: _, _, [], _, h, _ => absurd h (fun q => q)
  | a :: as, bs, c :: c1, c2, h, h2 => ⟨h.1, zx_vs_join h.2 h2⟩
theorem zx_vs_rev {ad : zx_D} : ∀ {as cs : List Value}, zx_vs ad as cs → zx_vs ad as.reverse cs.reverse
  | [], [], h => h
  | [], _ :: _, h => absurd h (fun q => q)
  | _ :: _, [], h => absurd h (fun q => q)
  | a :: as, c :: cs, h => by
    rw [List.reverse_cons, List.reverse_cons]
    exact zx_vs_join (zx_vs_rev h.2) ⟨h.1, trivial⟩
theorem zx_vs_len {ad : zx_D} : ∀ {as cs : List Value}, zx_vs ad as cs → as.length = cs.length
  | [], [], _ => rfl
  | [], _ :: _, h => absurd h (fun q => q)
  | _ :: _, [], h => absurd h (fun q => q)
  | a :: as, c :: cs, h => by
    rw [List.length_cons, List.length_cons, zx_vs_len h.2]
theorem zx_o_vs {ad : zx_D} {v cv : Option Value} {st cst : List Value} (h : zx_o ad v cv) (h2 : zx_vs ad st cst) : zx_vs ad (v.toList ++ st) (cv.toList ++ cst) := by
  cases v with
  | none =>
    cases cv with
    | none => exact h2
    | some c => exact absurd h (fun q => q)
  | some a =>
    cases cv with
    | none => exact absurd h (fun q => q)
    | some c => exact ⟨h, h2⟩
/-- behind a call -/
theorem zx_after {P : zx_P} {G : zx_G} {r2 : zx_T} {p : Program} {l : Launch} {e : Env} {R : Room} {s : State} {m : MethodId} {args : Array Value} {below : List Frame} {meth : Method} {c : Code} {H : Heap} {locs : List Loc} {cells slots mc ms : Nat} {Q : State → Prop} {pc : Nat} {ls : Array Slot} {st0 rest : List Value} {as : Array Value} {free : Addr → Prop}
    (hr : va_Run p l e R s m args below meth c H locs cells slots mc ms (F0 m pc ls st0) rest (zx_q P G r2 as) free)
    (kk : ∀ (v : Option Value) (H1 : Heap) (L : List Loc), zx_o G.2.2.2.1 r2.1 v → zx_hp P G r2.2.1 H1 → (∀ q ∈ L, free q.base) → W p l e R s m args below meth c H1 (locs ++ L) (cells + mc) (slots + ms) Q (F0 m (pc + 3) ls (v.toList ++ rest))) : W p l e R s m args below meth c H locs cells slots Q (F0 m pc ls st0) := by
  intro T hT X
  obtain ⟨v, st₀, t, T', L, h0, X', hL, e1, e2, ⟨⟨cv, hv, ho⟩, hh⟩, st⟩ := hr T hT X
  cases hv
  obtain ⟨t2, a1, b1⟩ := kk v T'.heap L ho (by rw [e1]; exact hh) hL T' rfl X'
  exact ⟨t2, st t2 a1, b1⟩
/-- what is asked of a method that is called -/
noncomputable def zx_mok (P : zx_P) (M : zx_M) : Prop := plainName M.1.cls = true ∧ Cond.code M.1 M.2.1 M.2.2.1 M.2.2.2.1 ∈ P.2.2.1 ∧ Cond.initialized M.1.cls ∈ P.2.2.1 ∧ M.2.2.1 ≤ 41 ∧ M.1.cls ≠ "java/lang/invoke/MethodHandle" ∧ M.1.cls ≠ "java/lang/invoke/VarHandle"
theorem zx_goodIn {P : zx_P} {M2 : zx_M} (hg : P.2.2.1.all goodWord = true) (h2 : zx_mok P M2) : GoodIn P.2.2.1 (zx_ws P M2) := by
  intro w hw
  have hm : w ∈ P.2.2.1 := by
    rcases List.mem_cons.mp hw with e | e
    · rw [e]
      exact h2.2.1
    · exact e
  exact ⟨hm, good_of_word (List.all_eq_true.mp hg w hm)⟩
theorem zx_blind {P : zx_P} {G : zx_G} {as : List Value} {h : zx_H} : FrameBlind (zx_pc P G as h) := fun a U g mk q => by
  obtain ⟨q0, q1, q2, q3⟩ := q
  exact ⟨q0, q1, va_K.moved (u := U) (U := U.calling g mk a) (Vm.Alike.refl U.vm) q2, zx_x_moved (u := U) (U := U.calling g mk a) (State.WarmedH.refl U) q3⟩
/-- the shape of a call -/
noncomputable def zx_call (mi n : Nat) (ok : List Value → zx_H → Bool) (npc : Nat) : zx_F := fun rec L st h sl kk => zx_take n st [] (fun as r => match ok as h && Nat.ble (zx_cats r) 8 with
  | true => match rec mi as h sl with
    | some (v, h2, s2) => kk npc L (v.toList ++ r) h2 s2
    | none => none
  | false => none)
theorem zx_call_ok {P : zx_P} {G : zx_G} {M : zx_M} {pc mi n : Nat} {ok : List Value → zx_H → Bool} {M2 : zx_M} (hM2 : P.2.2.2.1[mi]? = some M2) (h2 : zx_mok P M2) (hg : P.2.2.1.all goodWord = true)
    (row : ∀ (d d2 : Nat) (p : Program) (e : Env) (s : State) (m : MethodId) (args : Array Value) (below : List Frame) (meth : Method) (c : Code) (H : Heap) (locs : List Loc) (cells slots mc ms Mc Ms : Nat) (ls : Array Slot) (as cas cr : List Value) (h : zx_H) (sl : Nat) (r2 : zx_T), zx_c P G M p s m args meth c → zx_hp P G h H → ok as h = true → d2 < d → as.length = n → zx_vs G.2.2.2.1 as cas → ls.size = M.2.2.1 → zx_cats cr ≤ 8 → cells + mc ≤ Mc → slots + ms ≤ Ms →
      (zx_rm d2 mc ms).frames + 1 ≤ (zx_rm d Mc Ms).frames ∧ 8 + (M2.2.2.1 + 11) + (zx_rm d2 mc ms).locals ≤ (zx_rm d Mc Ms).locals → PreS s H (zx_pc P G as h) cas →
      Met G.1 M2.1 (zx_ws P M2) (zx_rm d2 mc ms) (zx_pc P G as h) (zx_q P G r2) mc ms (fun a => G.2.2.2.2.1 ≤ a) →
      ∃ av, va_Run p G.1 e (zx_rm d Mc Ms) s m args below meth c H locs cells slots mc ms (F0 m pc ls (cas.reverse ++ cr)) cr (zx_q P G r2 av) (fun a => G.2.2.2.2.1 ≤ a)) : zx_ok P G M pc (zx_call mi n ok (pc + 3)) := by
  intro E d k0 s0 res rec k L st h sl hE hr hrec hk
  unfold zx_call at hr
  obtain ⟨as, r, hn, hst, hr2⟩ := zx_take_in hr
  clear hr
  have hr := hr2
  clear hr2
  subst hst
  rw [List.append_nil] at hr
  cases e0 : ok as h && Nat.ble (zx_cats r) 8 with
  | false => rw [e0] at hr; exact nomatch hr
  | true =>
    rw [e0] at hr
    dsimp only at hr
    simp only [Bool.and_eq_true] at e0
    cases e1 : rec mi as h sl with
    | none => rw [e1] at hr; exact nomatch hr
    | some z =>
      rw [e1] at hr
      obtain ⟨v, h3, s3⟩ := z
      dsimp only at hr
      obtain ⟨m1, m2, d2, hd2, M2', hM2', hMet⟩ := hrec mi as h sl _ e1
      obtain rfl : M2 = M2' := Option.some.inj (hM2.symm.trans hM2')
      obtain ⟨b1, b2, b3⟩ := hk _ _ _ _ _ hr
      dsimp only at m1 m2 hMet b1 b2
      refine ⟨Nat.le_trans m1 b1, Nat.le_trans m2 b2, fun p e s m args below meth c C H locs ls CL cst hh hlo g1 g2 g3 hk0 hs0 => ?_⟩
      obtain ⟨c1, cr, rfl, hc1, hcr⟩ := zx_vs_app g3
      have hcas : zx_vs G.2.2.2.1 as c1.reverse := by
        have := zx_vs_rev hc1
        rwa [List.reverse_reverse] at this
      have hml := h2.2.2.2.1
      obtain ⟨av, hrun⟩ := row d d2 p e s m args below meth c H locs (h.1 - k0) (sl - s0) (h3.1 - h.1) (s3 - sl) (res.2.1.1 - k0) (res.2.2 - s0) ls as c1.reverse cr h sl (v, h3, s3) C hh e0.1 hd2 hn hcas g1.1 (by rw [← zx_cats_vs hcr]; exact Nat.le_of_ble_eq_true e0.2) (by omega) (by omega) ⟨by show d2 + 1 + 1 ≤ d + 1; omega, by show 8 + (M2.2.2.1 + 11) + (60 * d2 + 20) ≤ 60 * d + 20; omega⟩ ⟨zx_blind, fun U hU hW => ⟨⟨_, hcas, rfl⟩, by rw [hU]; exact hh, va_K.moved hW.alike C.2.2.2.2.2.2.2.1, zx_x_moved hW C.2.2.2.2.2.2.2.2.2⟩⟩ hMet
      rw [List.reverse_reverse] at hrun
      refine zx_after hrun (fun v2 H1 L2 ho hh1 hL => ?_)
      have h9 := b3 p e s m args below meth c C H1 (locs ++ L2) ls CL (v2.toList ++ cr) hh1 (fun q hq => (List.mem_append.mp hq).elim (hlo q) (hL q)) g1 g2 (zx_o_vs ho hcr) (Nat.le_trans hk0 m1) (Nat.le_trans hs0 m2)
      rw [show h3.1 - k0 = h.1 - k0 + (h3.1 - h.1) by omega, show s3 - s0 = sl - s0 + (s3 - sl) by omega] at h9
      exact h9
noncomputable def zx_ok0 : List Value → zx_H → Bool := fun _ _ => true
noncomputable def zx_okR : List Value → zx_H → Bool := fun as _ => match as with
  | .ref _ :: _ => true
  | _ => false
noncomputable def zx_okV (ci : Nat) : List Value → zx_H → Bool := fun as h => match as with
  | .ref i :: _ => match zx_go h i ci with
    | some _ => true
    | none => false
  | _ => false
theorem zx_invokestatic_ok {P : zx_P} {G : zx_G} {M : zx_M} {pc mi n index : Nat} {M2 : zx_M} (hM2 : P.2.2.2.1[mi]? = some M2) (h2 : zx_mok P M2) (hg : P.2.2.1.all goodWord = true) (hl : Cond.methodLink M.1.cls index M2.1 ∈ P.2.2.1) (hst : Cond.static M2.1 ∈ P.2.2.1) (hdn : (parseMethodDescriptor M2.1.desc).map (fun d => d.parameters.length) = some n) (hd : decode M.2.1 pc = .ok (.invokestatic index, 3)) : zx_ok P G M pc (zx_call mi n zx_ok0 (pc + 3)) := by
  refine zx_call_ok hM2 h2 hg (fun d d2 p e s m args below meth c H locs cells slots mc ms Mc Ms ls as cas cr h sl r2 X hh hok hd2 hn hcas hls hcr hcel hslo hR hp hMet => ?_)
  obtain ⟨hx, hb, -, hml, hown, hts, -⟩ := X
  exact ⟨_, va_runS (nL := M.2.2.1) ⟨hx, hb, hml, hown, hts⟩ hMet ⟨callB_of n hts (zx_goodIn hg h2) rfl rfl rfl (hts _ h2.2.2.1) (hts _ hl) ⟨h2.2.2.2.2.1, h2.2.2.2.2.2, hdn⟩ hR, hts _ hst⟩ hp rfl ((zx_vs_len hcas).symm.trans hn) hls rfl (by rw [zx_cats_sum]; show 0 + _ ≤ 8; omega) hd ⟨hcel, hslo⟩⟩
theorem zx_invokestaticN_ok {P : zx_P} {G : zx_G} {M : zx_M} {pc mi n index : Nat} {host : String} {M2 : zx_M} (hM2 : P.2.2.2.1[mi]? = some M2) (h2 : zx_mok P M2) (hg : P.2.2.1.all goodWord = true) (hl : Cond.methodLinkNest M.1.cls index M2.1 host ∈ P.2.2.2.2.2.2.2.2) (hst : Cond.static M2.1 ∈ P.2.2.1) (hdn : (parseMethodDescriptor M2.1.desc).map (fun d => d.parameters.length) = some n) (hd : decode M.2.1 pc = .ok (.invokestatic index, 3)) : zx_ok P G M pc (zx_call mi n zx_ok0 (pc + 3)) := by
  refine zx_call_ok hM2 h2 hg (fun d d2 p e s m args below meth c H locs cells slots mc ms Mc Ms ls as cas cr h sl r2 X hh hok hd2 hn hcas hls hcr hcel hslo hR hp hMet => ?_)
  obtain ⟨hx, hb, -, hml, hown, hts, -, -, -, hxx⟩ := X
  exact ⟨_, va_runSN (nL := M.2.2.1) (host := host) ⟨hx, hb, hml, hown, hts⟩ hMet ⟨va_cnB n hts (zx_goodIn hg h2) rfl rfl rfl (hxx.2.2.2.1 _ hl) (hts _ h2.2.2.1) ⟨h2.2.2.2.2.1, h2.2.2.2.2.2, hdn⟩ hR, hts _ hst, trivial⟩ hp rfl ((zx_vs_len hcas).symm.trans hn) hls rfl (by rw [zx_cats_sum]; show 0 + _ ≤ 8; omega) hd ⟨hcel, hslo⟩⟩
theorem zx_okR_in {ad : zx_D} {as cas : List Value} {h : zx_H} (hok : zx_okR as h = true) (hc : zx_vs ad as cas) : ∃ b cas2, cas = .ref b :: cas2 := by
  unfold zx_okR at hok
  split at hok
  · obtain ⟨v, vs, rfl, h1, h2⟩ := zx_vs_cons hc
    cases h1
    exact ⟨_, _, rfl⟩
  · cases hok
theorem zx_invokespecial_ok {P : zx_P} {G : zx_G} {M : zx_M} {pc mi n index : Nat} {M2 : zx_M} (hM2 : P.2.2.2.1[mi]? = some M2) (h2 : zx_mok P M2) (hg : P.2.2.1.all goodWord = true) (hret : M2.2.2.2.1 = none) (hnm : M2.1.name = "<init>") (hl : Cond.methodLink M.1.cls index M2.1 ∈ P.2.2.1) (hin : Cond.instanceMethod M2.1 ∈ P.2.2.1) (hdn : (parseMethodDescriptor M2.1.desc).map (fun d => d.parameters.length) = some n) (hd : decode M.2.1 pc = .ok (.invokespecial index, 3)) : zx_ok P G M pc (zx_call mi (n + 1) zx_okR (pc + 3)) := by
  refine zx_call_ok hM2 h2 hg (fun d d2 p e s m args below meth c H locs cells slots mc ms Mc Ms ls as cas cr h sl r2 X hh hok hd2 hn hcas hls hcr hcel hslo hR hp hMet => ?_)
  obtain ⟨hx, hb, -, hml, hown, hts, -⟩ := X
  have hlen := (zx_vs_len hcas).symm.trans hn
  obtain ⟨b, As, rfl⟩ := zx_okR_in hok hcas
  have hw : zx_ws P M2 = Cond.code M2.1 M2.2.1 M2.2.2.1 none :: P.2.2.1 := by rw [← hret]; rfl
  exact ⟨_, va_runI (nL := M.2.2.1) ⟨hx, hb, hml, hown, hts⟩ hMet ⟨callB_of n hts (zx_goodIn hg h2) hw rfl rfl (hts _ h2.2.2.1) (hts _ hl) ⟨h2.2.2.2.2.1, h2.2.2.2.2.2, hdn⟩ hR, hnm, hts _ hin⟩ hp rfl (Nat.succ.inj hlen) hls (by show (Value.ref b :: As).reverse ++ cr = _; simp) (by rw [zx_cats_sum]; show 0 + _ ≤ 8; omega) hd ⟨hcel, hslo⟩⟩
theorem zx_invokespecialN_ok {P : zx_P} {G : zx_G} {M : zx_M} {pc mi n index : Nat} {host : String} {M2 : zx_M} (hM2 : P.2.2.2.1[mi]? = some M2) (h2 : zx_mok P M2) (hg : P.2.2.1.all goodWord = true) (hret : M2.2.2.2.1 = none) (hnm : M2.1.name = "<init>") (hl : Cond.methodLinkNest M.1.cls index M2.1 host ∈ P.2.2.2.2.2.2.2.2) (hin : Cond.instanceMethod M2.1 ∈ P.2.2.1) (hdn : (parseMethodDescriptor M2.1.desc).map (fun d => d.parameters.length) = some n) (hd : decode M.2.1 pc = .ok (.invokespecial index, 3)) : zx_ok P G M pc (zx_call mi (n + 1) zx_okR (pc + 3)) := by
  refine zx_call_ok hM2 h2 hg (fun d d2 p e s m args below meth c H locs cells slots mc ms Mc Ms ls as cas cr h sl r2 X hh hok hd2 hn hcas hls hcr hcel hslo hR hp hMet => ?_)
  obtain ⟨hx, hb, -, hml, hown, hts, -, -, -, hxx⟩ := X
  have hlen := (zx_vs_len hcas).symm.trans hn
  obtain ⟨b, As, rfl⟩ := zx_okR_in hok hcas
  have hw : zx_ws P M2 = Cond.code M2.1 M2.2.1 M2.2.2.1 none :: P.2.2.1 := by rw [← hret]; rfl
  exact ⟨_, va_runIN (nL := M.2.2.1) (host := host) ⟨hx, hb, hml, hown, hts⟩ hMet ⟨va_cnB n hts (zx_goodIn hg h2) hw rfl rfl (hxx.2.2.2.1 _ hl) (hts _ h2.2.2.1) ⟨h2.2.2.2.2.1, h2.2.2.2.2.2, hdn⟩ hR, hnm, hts _ hin⟩ hp rfl (Nat.succ.inj hlen) hls (by show (Value.ref b :: As).reverse ++ cr = _; simp) (by rw [zx_cats_sum]; show 0 + _ ≤ 8; omega) hd ⟨hcel, hslo⟩⟩
theorem zx_okV_in {P : zx_P} {G : zx_G} {M : zx_M} {p : Program} {s : State} {m : MethodId} {args : Array Value} {meth : Method} {c : Code} {ci : Nat} {r : vw_C} {as cas : List Value} {h : zx_H} {H : Heap} (X : zx_c P G M p s m args meth c) (hh : zx_hp P G h H) (hci : P.1[ci]? = some r) (hok : zx_okV ci as h = true) (hc : zx_vs G.2.2.2.1 as cas) : ∃ b cas2, cas = .ref b :: cas2 ∧ ∃ cellB : Cell, H[b]? = some cellB ∧ cellB.vm.isStatics = false ∧ s.vm.findClass r.1 = some cellB.cls := by
  unfold zx_okV at hok
  split at hok
  · next i as2 =>
    cases e0 : zx_go h i ci with
    | none => rw [e0] at hok; exact nomatch hok
    | some fs =>
      have e1 := zx_go_in e0
      obtain ⟨v, vs, rfl, h1, h2⟩ := zx_vs_cons hc
      cases h1
      obtain ⟨q, a1, V, ⟨cell, q1, q2, q3, q4⟩, a4⟩ := (hh.2.2.2.1 i _ e1).2
      obtain rfl : q = r := Option.some.inj (a1.symm.trans hci)
      exact ⟨_, _, rfl, cell, q1, by rw [q3]; rfl, by rw [q2]; exact (X.2.2.2.2.2.2.2.1.1 ci _ hci).2.1⟩
  · exact nomatch hok
theorem zx_invokevirtual_ok {P : zx_P} {G : zx_G} {M : zx_M} {pc mi n index ci : Nat} {r : vw_C} {M2 : zx_M} (hci : P.1[ci]? = some r) (hM2 : P.2.2.2.1[mi]? = some M2) (h2 : zx_mok P M2) (hg : P.2.2.1.all goodWord = true) (hl : Cond.methodLink M.1.cls index M2.1 ∈ P.2.2.1) (hin : Cond.instanceMethod M2.1 ∈ P.2.2.1) (hse : Cond.selects r.1 M2.1 M2.1 ∈ P.2.2.1) (hdn : (parseMethodDescriptor M2.1.desc).map (fun d => d.parameters.length) = some n) (hd : decode M.2.1 pc = .ok (.invokevirtual index, 3)) : zx_ok P G M pc (zx_call mi (n + 1) (zx_okV ci) (pc + 3)) := by
  refine zx_call_ok hM2 h2 hg (fun d d2 p e s m args below meth c H locs cells slots mc ms Mc Ms ls as cas cr h sl r2 X hh hok hd2 hn hcas hls hcr hcel hslo hR hp hMet => ?_)
  have hlen := (zx_vs_len hcas).symm.trans hn
  obtain ⟨b, As, rfl, hrecv⟩ := zx_okV_in X hh hci hok hcas
  obtain ⟨hx, hb, -, hml, hown, hts, -⟩ := X
  exact ⟨_, va_runV (nL := M.2.2.1) (C := r.1) ⟨hx, hb, hml, hown, hts⟩ hMet ⟨callB_of n hts (zx_goodIn hg h2) rfl rfl rfl (hts _ h2.2.2.1) (hts _ hl) ⟨h2.2.2.2.2.1, h2.2.2.2.2.2, hdn⟩ hR, hts _ hin, hts _ hse⟩ ⟨hp.1, hrecv, hp.2⟩ rfl (Nat.succ.inj hlen) hls (by show (Value.ref b :: As).reverse ++ cr = _; simp) (by rw [zx_cats_sum]; show 0 + _ ≤ 8; omega) hd ⟨hcel, hslo⟩⟩
theorem zx_invokevirtualN_ok {P : zx_P} {G : zx_G} {M : zx_M} {pc mi n index ci : Nat} {host : String} {r : vw_C} {M2 : zx_M} (hci : P.1[ci]? = some r) (hM2 : P.2.2.2.1[mi]? = some M2) (h2 : zx_mok P M2) (hg : P.2.2.1.all goodWord = true) (hl : Cond.methodLinkNest M.1.cls index M2.1 host ∈ P.2.2.2.2.2.2.2.2) (hin : Cond.instanceMethod M2.1 ∈ P.2.2.1) (hse : Cond.selects r.1 M2.1 M2.1 ∈ P.2.2.1) (hdn : (parseMethodDescriptor M2.1.desc).map (fun d => d.parameters.length) = some n) (hd : decode M.2.1 pc = .ok (.invokevirtual index, 3)) : zx_ok P G M pc (zx_call mi (n + 1) (zx_okV ci) (pc + 3)) := by
  refine zx_call_ok hM2 h2 hg (fun d d2 p e s m args below meth c H locs cells slots mc ms Mc Ms ls as cas cr h sl r2 X hh hok hd2 hn hcas hls hcr hcel hslo hR hp hMet => ?_)
  have hlen := (zx_vs_len hcas).symm.trans hn
  obtain ⟨b, As, rfl, hrecv⟩ := zx_okV_in X hh hci hok hcas
  obtain ⟨hx, hb, -, hml, hown, hts, -, -, -, hxx⟩ := X
  exact ⟨_, va_runVN (nL := M.2.2.1) (C := r.1) (host := host) ⟨hx, hb, hml, hown, hts⟩ hMet ⟨va_cnB n hts (zx_goodIn hg h2) rfl rfl rfl (hxx.2.2.2.1 _ hl) (hts _ h2.2.2.1) ⟨h2.2.2.2.2.1, h2.2.2.2.2.2, hdn⟩ hR, hts _ hin, hts _ hse⟩ ⟨hp.1, hrecv, hp.2⟩ rfl (Nat.succ.inj hlen) hls (by show (Value.ref b :: As).reverse ++ cr = _; simp) (by rw [zx_cats_sum]; show 0 + _ ≤ 8; omega) hd ⟨hcel, hslo⟩⟩
/-- Object's constructor -/
noncomputable def zx_oini (npc : Nat) : zx_F := fun _ L st h sl kk => match st with
  | .ref _ :: r => match Nat.ble (zx_cats r) 8 with
    | true => kk npc L r h sl
    | false => none
  | _ => none
theorem zx_objinit_ok {P : zx_P} {G : zx_G} {M : zx_M} {pc index : Nat} (hl : Cond.methodLink M.1.cls index Lib.objectInit ∈ P.2.2.1) (hin : Cond.instanceMethod Lib.objectInit ∈ P.2.2.1) (hco : Cond.code Lib.objectInit ⟨#[0xb1]⟩ 1 none ∈ P.2.2.1) (hd : decode M.2.1 pc = .ok (.invokespecial index, 3)) : zx_ok P G M pc (zx_oini (pc + 3)) := by
  intro E d k0 s0 res rec k L st h sl hE hr hrec hk
  unfold zx_oini at hr
  split at hr
  · next i r =>
    split at hr
    · next e1 =>
      obtain ⟨b1, b2, b3⟩ := hk _ _ _ _ _ hr
      refine ⟨b1, b2, fun p e s m args below meth c C H locs ls CL cst hh hlo g1 g2 g3 hk0 hs0 => ?_⟩
      obtain ⟨cv, vs, rfl, hv, hvs⟩ := zx_vs_cons g3
      cases hv
      have hsum : zx_cats vs ≤ 8 := by rw [← zx_cats_vs hvs]; exact Nat.le_of_ble_eq_true e1
      exact W.objInit C.1 C.2.1 C.2.2.2.2.1 (C.2.2.2.2.2.1 _ hl) (C.2.2.2.2.2.1 _ hin) (C.2.2.2.2.2.1 _ hco) rfl (g1.1.trans C.2.2.2.1.symm) rfl hd (by show 1 ≤ d + 1; omega) (by rw [zx_cats_sum]; show 0 + _ + 12 ≤ 60 * d + 20; omega) (b3 p e s m args below meth c C H locs ls CL vs hh hlo g1 g2 hvs hk0 hs0)
    · cases hr
  · cases hr
/-- Math.max, Math.min of two ints -/
noncomputable def zx_mm (f : Int32 → Int32 → Int32) (npc : Nat) : zx_F := fun _ L st h sl kk => match st with
  | .int y :: .int x :: r => match Nat.ble (zx_cats r) 7 with
    | true => kk npc L (zx_i (f x y) :: r) h sl
    | false => none
  | _ => none
theorem zx_mm_ok {P : zx_P} {G : zx_G} {M : zx_M} {pc : Nat} {f : Int32 → Int32 → Int32}
    (row : ∀ (p : Program) (l : Launch) (e : Env) (R : Room) (s : State) (m : MethodId) (args : Array Value) (below : List Frame) (meth : Method) (c : Code) (H : Heap) (locs : List Loc) (cells slots : Nat) (Q : State → Prop) (ls : Array Slot) (rest : List Value) (x y : Int32), zx_c P G M p s m args meth c → c.maxLocals = ls.size → 1 ≤ R.frames → (rest.map fun v => v.category).sum + 13 ≤ R.locals → cells ≤ R.cells → slots ≤ R.slots → W p l e R s m args below meth c H locs cells slots Q (F0 m (pc + 3) ls (.int (f x y) :: rest)) → W p l e R s m args below meth c H locs cells slots Q (F0 m pc ls (.int y :: .int x :: rest))) : zx_ok P G M pc (zx_mm f (pc + 3)) := by
  intro E d k0 s0 res rec k L st h sl hE hr hrec hk
  unfold zx_mm at hr
  split at hr
  · next y x r =>
    split at hr
    · next e1 =>
      obtain ⟨b1, b2, b3⟩ := hk _ _ _ _ _ hr
      refine ⟨b1, b2, fun p e s m args below meth c C H locs ls CL cst hh hlo g1 g2 g3 hk0 hs0 => ?_⟩
      obtain ⟨cv, vs, rfl, hv, hvs⟩ := zx_vs_cons g3
      obtain ⟨cv2, vs2, rfl, hv2, hvs2⟩ := zx_vs_cons hvs
      cases hv
      cases hv2
      have hsum : zx_cats vs2 ≤ 7 := by rw [← zx_cats_vs hvs2]; exact Nat.le_of_ble_eq_true e1
      refine row p _ e _ s m args below meth c H locs _ _ _ ls vs2 x y C (C.2.2.2.1.trans g1.1.symm) (by show 1 ≤ d + 1; omega) (by rw [zx_cats_sum]; show _ + 13 ≤ 60 * d + 20; omega) (by show _ ≤ res.2.1.1 - k0; omega) (by show _ ≤ res.2.2 - s0; omega) ?_
      exact b3 p e s m args below meth c C H locs ls CL (.int (f x y) :: vs2) hh hlo g1 g2 ⟨by rw [zx_i_eq]; rfl, hvs2⟩ hk0 hs0
    · cases hr
  · cases hr
noncomputable def zx_max (npc : Nat) : zx_F := zx_mm (fun x y => if x < y then y else x) npc
theorem zx_max_ok {P : zx_P} {G : zx_G} {M : zx_M} {pc index : Nat} (hl : Cond.methodLink M.1.cls index Lib.Math.max.name ∈ P.2.2.1) (hs : Cond.static Lib.Math.max.name ∈ P.2.2.1) (hi : Cond.initialized "java/lang/Math" ∈ P.2.2.1) (hc : Cond.code Lib.Math.max.name Lib.Math.max.code 2 (some .int) ∈ P.2.2.1) (hd : decode M.2.1 pc = .ok (.invokestatic index, 3)) : zx_ok P G M pc (zx_max (pc + 3)) :=
  zx_mm_ok (fun p l e R s m args below meth c H locs cells slots Q ls rest x y C hml hf hlo hce hsl k => va_mmax C.1 C.2.1 hml C.2.2.2.2.1 (C.2.2.2.2.2.1 _ hl) (C.2.2.2.2.2.1 _ hs) (C.2.2.2.2.2.1 _ hi) (C.2.2.2.2.2.1 _ hc) hf hlo hce hsl hd k)
noncomputable def zx_min (npc : Nat) : zx_F := zx_mm (fun x y => if y < x then y else x) npc
theorem zx_min_ok {P : zx_P} {G : zx_G} {M : zx_M} {pc index : Nat} (hl : Cond.methodLink M.1.cls index Lib.Math.min.name ∈ P.2.2.1) (hs : Cond.static Lib.Math.min.name ∈ P.2.2.1) (hi : Cond.initialized "java/lang/Math" ∈ P.2.2.1) (hc : Cond.code Lib.Math.min.name Lib.Math.min.code 2 (some .int) ∈ P.2.2.1) (hd : decode M.2.1 pc = .ok (.invokestatic index, 3)) : zx_ok P G M pc (zx_min (pc + 3)) :=
  zx_mm_ok (fun p l e R s m args below meth c H locs cells slots Q ls rest x y C hml hf hlo hce hsl k => va_mmin C.1 C.2.1 hml C.2.2.2.2.1 (C.2.2.2.2.2.1 _ hl) (C.2.2.2.2.2.1 _ hs) (C.2.2.2.2.2.1 _ hi) (C.2.2.2.2.2.1 _ hc) hf hlo hce hsl hd k)
