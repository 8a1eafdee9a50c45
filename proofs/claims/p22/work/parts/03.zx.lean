/-! ===== steps that look at cells or change them ===== -/
theorem zx_read {P : zx_P} {G : zx_G} {M : zx_M} {pc : Nat} {f : zx_F}
    (hf : ∀ (rec : zx_C) (k : zx_K) (L : zx_L) (st : List Value) (h : zx_H) (sl : Nat) (res : zx_T), f rec L st h sl k = some res → ∃ pc2 st2, k pc2 L st2 h sl = some res ∧
      ∀ (p : Program) (l : Launch) (e : Env) (R : Room) (s : State) (m : MethodId) (args : Array Value) (below : List Frame) (meth : Method) (c : Code) (H : Heap) (locs : List Loc) (cells slots : Nat) (Q : State → Prop), zx_c P G M p s m args meth c → zx_hp P G h H →
        ∀ (ls : Array Slot) (cst : List Value), zx_vs G.2.2.2.1 st cst →
        (∀ (cst2 : List Value), zx_vs G.2.2.2.1 st2 cst2 → W p l e R s m args below meth c H locs cells slots Q (F0 m pc2 ls cst2)) →
        W p l e R s m args below meth c H locs cells slots Q (F0 m pc ls cst)) : zx_ok P G M pc f := by
  intro E d k0 s0 res rec k L st h sl _ hr _ hk
  obtain ⟨pc2, st2, h1, h2⟩ := hf rec k L st h sl res hr
  obtain ⟨a1, a2, a3⟩ := hk pc2 L st2 h sl h1
  refine ⟨a1, a2, fun p e s m args below meth c C H locs ls CL cst hh hl g1 g2 g3 hk0 hs0 => ?_⟩
  exact h2 p _ e _ s m args below meth c H locs _ _ _ C hh ls cst g3 (fun cst2 b3 => a3 p e s m args below meth c C H locs ls CL cst2 hh hl g1 g2 b3 hk0 hs0)
theorem zx_at_kept {P : zx_P} {G : zx_G} {a : zx_A} {q : Nat} {H H1 : Heap} (h : zx_at P G a q H) (h1 : H1[q]? = H[q]?) : zx_at P G a q H1 := by
  cases a with
  | inl o =>
    obtain ⟨r, a1, V, a3, a4⟩ := h
    exact ⟨r, a1, V, a3.kept h1, a4⟩
  | inr x =>
    obtain ⟨r, a1, f, a2, a3⟩ := h
    exact ⟨r, a1, f, by rw [h1]; exact a2, a3⟩
theorem zx_at_lt {P : zx_P} {G : zx_G} {a : zx_A} {q : Nat} {H : Heap} (h : zx_at P G a q H) : q < H.size := by
  cases a with
  | inl o =>
    obtain ⟨r, a1, V, ⟨cell, a3, -⟩, a4⟩ := h
    exact (Array.getElem?_eq_some_iff.mp a3).1
  | inr x =>
    obtain ⟨r, a1, f, a2, a3⟩ := h
    exact (Array.getElem?_eq_some_iff.mp a2).1
theorem zx_ad_ne {P : zx_P} {G : zx_G} (hA : zx_ad P G) {i j : Nat} (hi : P.2.2.2.2.1 ≤ i) (hi2 : i < 300000) (h : j ≠ i) : G.2.2.2.1.1 j ≠ G.2.2.2.1.1 i := by
  rw [hA.1 i hi hi2]
  by_cases hj : P.2.2.2.2.1 ≤ j ∧ j < 300000
  · rw [hA.1 j hj.1 hj.2]
    omega
  · have := hA.2.1 j (by omega)
    omega
theorem zx_ad_ge {P : zx_P} {G : zx_G} (hA : zx_ad P G) {i : Nat} (hi : P.2.2.2.2.1 ≤ i) (hi2 : i < 300000) : G.2.2.2.2.1 ≤ G.2.2.2.1.1 i := by
  rw [hA.1 i hi hi2]
  omega
theorem zx_hp_put {P : zx_P} {G : zx_G} (hA : zx_ad P G) {h : zx_H} {H H1 : Heap} (hh : zx_hp P G h H) {i : Nat} {a1 : zx_A} (hi : P.2.2.2.2.1 ≤ i) (hil : i < h.1) (h1 : H1.size = H.size) (h2 : ∀ q, q ≠ G.2.2.2.1.1 i → H1[q]? = H[q]?) (h3 : zx_at P G a1 (G.2.2.2.1.1 i) H1) : zx_hp P G (zx_hs h i a1) H1 := by
  obtain ⟨b1, b9, b2, b3, b4⟩ := hh
  have hi2 : i < 300000 := Nat.lt_of_lt_of_le hil b9
  refine ⟨b1, b9, by rw [h1]; exact b2, fun j a hj => ?_, fun q hq => ?_⟩
  · rw [zx_hg_hs h i j a1 hi2] at hj
    by_cases e : j = i
    · rw [if_pos e] at hj
      cases hj
      subst e
      exact ⟨hil, h3⟩
    · rw [if_neg e] at hj
      exact ⟨(b3 j a hj).1, zx_at_kept (b3 j a hj).2 (h2 _ (zx_ad_ne hA hi hi2 e))⟩
  · have := zx_ad_ge hA hi hi2
    rw [h2 q (by omega)]
    exact b4 q hq
noncomputable def zx_cls (P : zx_P) (ci : Nat) (C : String) (T : u_T) (N : Nat) (ty0 : Nat → FieldType) : Prop :=
  P.1[ci]? = some (C, T, N) ∧ (∀ w ∈ u_ws C T N, w ∈ P.2.2.1) ∧ (∀ k, k < N → parseFieldDescriptor (T k).2.2.1 = some (ty0 k)) ∧ (∀ a, a < N → ∀ b, b < N → a ≠ b → (T a).2.1 ≠ (T b).2.1) ∧ N ≤ 300000
noncomputable def zx_getf (ci k npc : Nat) : zx_F := fun _ L st h sl kk => match st with
  | .ref i :: r => match zx_go h i ci with
    | none => none
    | some fs => match zx_g10 fs k with
      | some v => kk npc L (v :: r) h sl
      | none => none
  | _ => none
theorem zx_getf_in {P : zx_P} {G : zx_G} {M : zx_M} {ci k npc : Nat} {rec : zx_C} {L : zx_L} {st : List Value} {h : zx_H} {sl : Nat} {kk : zx_K} {res : zx_T} (hr : zx_getf ci k npc rec L st h sl kk = some res) : ∃ i r fs v, st = .ref i :: r ∧ zx_hg h i = some (.inl (ci, fs)) ∧ zx_g10 fs k = some v ∧ kk npc L (v :: r) h sl = some res := by
  unfold zx_getf at hr
  split at hr
  · next i r =>
    cases e1 : zx_go h i ci with
    | none => rw [e1] at hr; exact nomatch hr
    | some fs =>
      rw [e1] at hr
      dsimp only at hr
      cases e3 : zx_g10 fs k with
      | none => rw [e3] at hr; exact nomatch hr
      | some v =>
        rw [e3] at hr
        exact ⟨i, r, fs, v, rfl, zx_go_in e1, e3, hr⟩
  · exact nomatch hr
theorem zx_getfield_ok {P : zx_P} {G : zx_G} {M : zx_M} {pc ci k index N : Nat} {C : String} {T : u_T} {ty0 : Nat → FieldType} (hc : zx_cls P ci C T N ty0) (hk : k < N) (hw : Cond.fieldLink M.1.cls index (T k).1 (T k).2.1 (T k).2.2.1 ∈ P.2.2.1) (hd : decode M.2.1 pc = .ok (.getfield index, 3)) : zx_ok P G M pc (zx_getf ci k (pc + 3)) := by
  refine zx_read (fun rec kk L st h sl res hr => ?_)
  obtain ⟨i, r, fs, v, rfl, e1, e3, hr⟩ := zx_getf_in (P := P) (G := G) (M := M) hr
  refine ⟨_, _, hr, fun p l e R s m args below meth c H locs cells slots Q X hh ls cst g3 kk => ?_⟩
  obtain ⟨cv, vs, rfl, hv, hvs⟩ := zx_vs_cons g3
  cases hv
  obtain ⟨q, a1, V, ⟨cell, q1, q2, q3, q4⟩, a4⟩ := (hh.2.2.2.1 i _ e1).2
  obtain rfl : q = (C, T, N) := Option.some.inj (a1.symm.trans hc.1)
  obtain ⟨hx, hb, -, -, hown, hts, -, hK, -⟩ := X
  obtain ⟨hS, hfc, kC, hkC, hkind⟩ := hK.1 ci _ hc.1
  obtain ⟨cf, kf, fi, f, hi, hsl⟩ := hS k hk
  exact W.getf hx hb hown (hts _ hw) hi (u_facts hfc hkC (u_lays hts hc.2.1 hk) hi).1 q1 (by rw [q3]; exact fun h => by cases h) (v := V k) (by rw [hsl]; exact q4 k hk) rfl rfl hd (kk (V k :: vs) ⟨a4 k v e3, hvs⟩)
theorem zx_getfieldN_ok {P : zx_P} {G : zx_G} {M : zx_M} {pc ci k index N : Nat} {C host : String} {T : u_T} {ty0 : Nat → FieldType} (hc : zx_cls P ci C T N ty0) (hk : k < N) (hw : Cond.fieldLinkNest M.1.cls index (T k).1 (T k).2.1 (T k).2.2.1 host ∈ P.2.2.2.2.2.2.2.2) (hd : decode M.2.1 pc = .ok (.getfield index, 3)) : zx_ok P G M pc (zx_getf ci k (pc + 3)) := by
  refine zx_read (fun rec kk L st h sl res hr => ?_)
  obtain ⟨i, r, fs, v, rfl, e1, e3, hr⟩ := zx_getf_in (P := P) (G := G) (M := M) hr
  refine ⟨_, _, hr, fun p l e R s m args below meth c H locs cells slots Q X hh ls cst g3 kk => ?_⟩
  obtain ⟨cv, vs, rfl, hv, hvs⟩ := zx_vs_cons g3
  cases hv
  obtain ⟨q, a1, V, ⟨cell, q1, q2, q3, q4⟩, a4⟩ := (hh.2.2.2.1 i _ e1).2
  obtain rfl : q = (C, T, N) := Option.some.inj (a1.symm.trans hc.1)
  obtain ⟨hx, hb, -, -, hown, hts, -, hK, -, hxx⟩ := X
  obtain ⟨hS, hfc, kC, hkC, hkind⟩ := hK.1 ci _ hc.1
  obtain ⟨cf, kf, fi, f, hi, hsl⟩ := hS k hk
  exact va_Wgetf hx hb hown (va_Nw.use rfl (hxx.2.2.2.1 _ hw)) hi (u_facts hfc hkC (u_lays hts hc.2.1 hk) hi).1 q1 (by rw [q3]; exact fun h => by cases h) (v := V k) (by rw [hsl]; exact q4 k hk) rfl rfl hd (kk (V k :: vs) ⟨a4 k v e3, hvs⟩)
/-- the value is one of the type -/
noncomputable def zx_fit (fty : FieldType) (v : Value) : Bool := match v with
  | .int x => match fty with
    | .int => true
    | t => decide (narrow t (.int x) = .int x) && fits t (.int x)
  | .long _ => match fty with
    | .long => true
    | _ => false
  | .float _ => match fty with
    | .int => true
    | _ => false
  | .double _ => match fty with
    | .long => true
    | _ => false
  | .null => match fty with
    | .object _ => true
    | .array _ => true
    | _ => false
  | .ref _ => match fty with
    | .object _ => true
    | .array _ => true
    | _ => false
  | .retAddr _ => false
theorem zx_fit_ok {ad : zx_D} {fty : FieldType} {a v : Value} (h : zx_fit fty a = true) (hv : zx_v ad a v) : narrow fty v = v ∧ fits fty v = true := by
  cases a with
  | int x =>
    cases hv
    cases fty with
    | int => exact ⟨rfl, rfl⟩
    | _ => simp only [zx_fit, Bool.and_eq_true, decide_eq_true_eq] at h; exact h
  | long x => cases hv; cases fty <;> first | exact ⟨rfl, rfl⟩ | cases h
  | float b => obtain ⟨x, rfl, -⟩ := hv; cases fty <;> first | exact ⟨rfl, rfl⟩ | cases h
  | double b => obtain ⟨x, rfl, -⟩ := hv; cases fty <;> first | exact ⟨rfl, rfl⟩ | cases h
  | null => cases hv; cases fty <;> first | exact ⟨rfl, rfl⟩ | cases h
  | ref i => cases hv; cases fty <;> first | exact ⟨rfl, rfl⟩ | cases h
  | retAddr n => cases h
noncomputable def zx_putf (K0 ci k : Nat) (fty : FieldType) (npc : Nat) : zx_F := fun _ L st h sl kk => match st with
  | v :: .ref i :: r => match Nat.ble K0 i && zx_fit fty v with
    | true => match zx_go h i ci with
      | none => none
      | some fs => zx_hsC h i (.inl (ci, zx_s10 v fs k)) (fun h2 => kk npc L r h2 sl)
    | false => none
  | _ => none
theorem zx_putf_in {K0 ci k : Nat} {fty : FieldType} {npc : Nat} {rec : zx_C} {L : zx_L} {st : List Value} {h : zx_H} {sl : Nat} {kk : zx_K} {res : zx_T} (hr : zx_putf K0 ci k fty npc rec L st h sl kk = some res) : ∃ v i r fs, st = v :: .ref i :: r ∧ zx_hg h i = some (.inl (ci, fs)) ∧ K0 ≤ i ∧ zx_fit fty v = true ∧ kk npc L r (zx_hs h i (.inl (ci, zx_s10 v fs k))) sl = some res := by
  unfold zx_putf at hr
  split at hr
  · next v i r =>
    cases e2 : Nat.ble K0 i && zx_fit fty v with
    | false => rw [e2] at hr; exact nomatch hr
    | true =>
      rw [e2] at hr
      dsimp only at hr
      cases e1 : zx_go h i ci with
      | none => rw [e1] at hr; exact nomatch hr
      | some fs =>
        rw [e1] at hr
        dsimp only at hr
        rw [zx_hsC_eq] at hr
        simp only [Bool.and_eq_true] at e2
        exact ⟨v, i, r, fs, rfl, zx_go_in e1, Nat.le_of_ble_eq_true e2.1, e2.2, hr⟩
  · exact nomatch hr
/-- a step that changes one cell -/
theorem zx_write {P : zx_P} {G : zx_G} {M : zx_M} {pc : Nat} {f : zx_F} (hA : zx_ad P G)
    (hf : ∀ (rec : zx_C) (k : zx_K) (L : zx_L) (st : List Value) (h : zx_H) (sl : Nat) (res : zx_T), f rec L st h sl k = some res → ∃ pc2 st2 i a1, P.2.2.2.2.1 ≤ i ∧ (∃ a0, zx_hg h i = some a0) ∧ k pc2 L st2 (zx_hs h i a1) sl = some res ∧
      ∀ (p : Program) (l : Launch) (e : Env) (R : Room) (s : State) (m : MethodId) (args : Array Value) (below : List Frame) (meth : Method) (c : Code) (H : Heap) (locs : List Loc) (cells slots : Nat) (Q : State → Prop), zx_c P G M p s m args meth c → zx_hp P G h H →
        ∀ (ls : Array Slot) (cst : List Value), zx_vs G.2.2.2.1 st cst →
        (∀ (H1 : Heap) (n : Nat) (cst2 : List Value), H1.size = H.size → (∀ q, q ≠ G.2.2.2.1.1 i → H1[q]? = H[q]?) → zx_at P G a1 (G.2.2.2.1.1 i) H1 → zx_vs G.2.2.2.1 st2 cst2 → W p l e R s m args below meth c H1 (locs ++ [⟨G.2.2.2.1.1 i, n⟩]) cells slots Q (F0 m pc2 ls cst2)) →
        W p l e R s m args below meth c H locs cells slots Q (F0 m pc ls cst)) : zx_ok P G M pc f := by
  intro E d k0 s0 res rec k L st h sl _ hr _ hk
  obtain ⟨pc2, st2, i, a1, hi, ⟨a0, hg0⟩, h1, h2⟩ := hf rec k L st h sl res hr
  obtain ⟨b1, b2, b3⟩ := hk pc2 L st2 _ sl h1
  refine ⟨b1, b2, fun p e s m args below meth c C H locs ls CL cst hh hl g1 g2 g3 hk0 hs0 => ?_⟩
  have hil := (hh.2.2.2.1 i a0 hg0).1
  refine h2 p _ e _ s m args below meth c H locs _ _ _ C hh ls cst g3 (fun H1 n cst2 z1 z2 z3 z4 => ?_)
  refine b3 p e s m args below meth c C H1 (locs ++ [⟨G.2.2.2.1.1 i, n⟩]) ls CL cst2 (zx_hp_put hA hh hi hil z1 z2 z3) (fun q hq => ?_) g1 g2 z4 hk0 hs0
  rcases List.mem_append.mp hq with q1 | q1
  · exact hl q q1
  · obtain rfl := List.mem_singleton.mp q1
    exact zx_ad_ge hA hi (Nat.lt_of_lt_of_le hil hh.2.1)
theorem zx_set_vals {ad : zx_D} {fs : zx_Tr Value} {V : Nat → Value} {k : Nat} {a v : Value} (hk : k < 300000) (h : ∀ (j : Nat) (b : Value), zx_g10 fs j = some b → zx_v ad b (V j)) (hv : zx_v ad a v) : ∀ (j : Nat) (b : Value), zx_g10 (zx_s10 a fs k) j = some b → zx_v ad b (updV V k v j) := by
  intro j b hj
  rw [zx_tg_ts a fs k j hk] at hj
  by_cases e : j = k
  · rw [if_pos e] at hj
    cases hj
    simp only [updV, if_pos e]
    exact hv
  · rw [if_neg e] at hj
    simp only [updV, if_neg e]
    exact h j b hj
theorem zx_putfield_ok {P : zx_P} {G : zx_G} {M : zx_M} {pc ci k index N K0 : Nat} {C : String} {T : u_T} {ty0 : Nat → FieldType} {fty : FieldType} (hA : zx_ad P G) (hK0 : K0 = P.2.2.2.2.1) (hc : zx_cls P ci C T N ty0) (hk : k < N) (hfin : (T k).2.2.2 = false) (hty : parseFieldDescriptor (T k).2.2.1 = some fty) (hw : Cond.fieldLink M.1.cls index (T k).1 (T k).2.1 (T k).2.2.1 ∈ P.2.2.1) (hd : decode M.2.1 pc = .ok (.putfield index, 3)) : zx_ok P G M pc (zx_putf K0 ci k fty (pc + 3)) := by
  refine zx_write hA (fun rec kk L st h sl res hr => ?_)
  obtain ⟨v, i, r, fs, rfl, e1, hi, hfit, hr⟩ := zx_putf_in hr
  refine ⟨_, _, i, _, by rw [← hK0]; exact hi, ⟨_, e1⟩, hr, fun p l e R s m args below meth c H locs cells slots Q X hh ls cst g3 kk => ?_⟩
  obtain ⟨cv, vs, rfl, hv, hvs⟩ := zx_vs_cons g3
  obtain ⟨cv2, vs2, rfl, hv2, hvs2⟩ := zx_vs_cons hvs
  cases hv2
  obtain ⟨q, a1, V, ⟨cell, q1, q2, q3, q4⟩, a4⟩ := (hh.2.2.2.1 i _ e1).2
  obtain rfl : q = (C, T, N) := Option.some.inj (a1.symm.trans hc.1)
  obtain ⟨hx, hb, -, -, hown, hts, -, hK, -⟩ := X
  have hin : ∀ w ∈ u_ws C T N, w ∈ P.2.2.1 := hc.2.1
  have hap := va_apart (own := C) hts hin ty0 hc.2.2.1 hc.2.2.2.1 hK hc.1
  obtain ⟨hS, hfc, kC, hkC, hkind⟩ := hK.1 ci _ hc.1
  obtain ⟨cf, kf, fi, f, hi2, hsl⟩ := hS k hk
  have hlay := hts _ (hin _ (u_in_lay hk))
  unfold u_lay at hlay
  rw [if_neg (by rw [hfin]; decide)] at hlay
  have hst := (u_facts hfc hkC (u_lays hts hin hk) hi2).1
  have hn := zx_fit_ok hfit hv
  have h6 := u_store hfc hkC hkind hlay hi2 hty hn.1 hn.2
  refine W.putK hx hb (f := f) ⟨hown, hts _ hw, ⟨_, _, _, hi2⟩, hst⟩ (by rw [q2]; exact h6) q1 q3 (by rw [hsl]; exact k2_hasslot (q4 k hk)) rfl rfl hd fun H1 z1 z2 z3 => ?_
  rw [hsl] at z1 ⊢
  exact kk H1 _ vs2 z2 z3 ⟨(C, T, N), hc.1, updV V k cv, ⟨_, z1, q2, q3, t_set q4 hap hk cv⟩, zx_set_vals (Nat.lt_of_lt_of_le hk hc.2.2.2.2) a4 hv⟩ hvs2
theorem zx_putfieldN_ok {P : zx_P} {G : zx_G} {M : zx_M} {pc ci k index N K0 : Nat} {C host : String} {T : u_T} {ty0 : Nat → FieldType} {fty : FieldType} (hA : zx_ad P G) (hK0 : K0 = P.2.2.2.2.1) (hc : zx_cls P ci C T N ty0) (hk : k < N) (hfin : (T k).2.2.2 = false) (hty : parseFieldDescriptor (T k).2.2.1 = some fty) (hw : Cond.fieldLinkNest M.1.cls index (T k).1 (T k).2.1 (T k).2.2.1 host ∈ P.2.2.2.2.2.2.2.2) (hd : decode M.2.1 pc = .ok (.putfield index, 3)) : zx_ok P G M pc (zx_putf K0 ci k fty (pc + 3)) := by
  refine zx_write hA (fun rec kk L st h sl res hr => ?_)
  obtain ⟨v, i, r, fs, rfl, e1, hi, hfit, hr⟩ := zx_putf_in hr
  refine ⟨_, _, i, _, by rw [← hK0]; exact hi, ⟨_, e1⟩, hr, fun p l e R s m args below meth c H locs cells slots Q X hh ls cst g3 kk => ?_⟩
  obtain ⟨cv, vs, rfl, hv, hvs⟩ := zx_vs_cons g3
  obtain ⟨cv2, vs2, rfl, hv2, hvs2⟩ := zx_vs_cons hvs
  cases hv2
  obtain ⟨q, a1, V, ⟨cell, q1, q2, q3, q4⟩, a4⟩ := (hh.2.2.2.1 i _ e1).2
  obtain rfl : q = (C, T, N) := Option.some.inj (a1.symm.trans hc.1)
  obtain ⟨hx, hb, -, -, hown, hts, -, hK, -, hxx⟩ := X
  have hin : ∀ w ∈ u_ws C T N, w ∈ P.2.2.1 := hc.2.1
  have hap := va_apart (own := C) hts hin ty0 hc.2.2.1 hc.2.2.2.1 hK hc.1
  obtain ⟨hS, hfc, kC, hkC, hkind⟩ := hK.1 ci _ hc.1
  obtain ⟨cf, kf, fi, f, hi2, hsl⟩ := hS k hk
  have hlay := hts _ (hin _ (u_in_lay hk))
  unfold u_lay at hlay
  rw [if_neg (by rw [hfin]; decide)] at hlay
  have hst := (u_facts hfc hkC (u_lays hts hin hk) hi2).1
  have hn := zx_fit_ok hfit hv
  have h6 := u_store hfc hkC hkind hlay hi2 hty hn.1 hn.2
  refine va_WputK hx hb (f := f) hown (va_Nw.use rfl (hxx.2.2.2.1 _ hw)) hi2 hst (by rw [q2]; exact h6) q1 q3 (by rw [hsl]; exact k2_hasslot (q4 k hk)) rfl rfl hd fun H1 z1 z2 z3 => ?_
  rw [hsl] at z1 ⊢
  exact kk H1 _ vs2 z2 z3 ⟨(C, T, N), hc.1, updV V k cv, ⟨_, z1, q2, q3, t_set q4 hap hk cv⟩, zx_set_vals (Nat.lt_of_lt_of_le hk hc.2.2.2.2) a4 hv⟩ hvs2
/-- a final field, in a constructor -/
theorem zx_putfieldF_ok {P : zx_P} {G : zx_G} {M : zx_M} {pc ci k index N K0 : Nat} {C : String} {T : u_T} {ty0 : Nat → FieldType} {fty : FieldType} (hA : zx_ad P G) (hK0 : K0 = P.2.2.2.2.1) (hc : zx_cls P ci C T N ty0) (hk : k < N) (hfin : (T k).2.2.2 = true) (hinit : M.1.name = "<init>") (hdecl : (T k).1 = M.1.cls) (hty : parseFieldDescriptor (T k).2.2.1 = some fty) (hw : Cond.fieldLink M.1.cls index (T k).1 (T k).2.1 (T k).2.2.1 ∈ P.2.2.1) (hd : decode M.2.1 pc = .ok (.putfield index, 3)) : zx_ok P G M pc (zx_putf K0 ci k fty (pc + 3)) := by
  refine zx_write hA (fun rec kk L st h sl res hr => ?_)
  obtain ⟨v, i, r, fs, rfl, e1, hi, hfit, hr⟩ := zx_putf_in hr
  refine ⟨_, _, i, _, by rw [← hK0]; exact hi, ⟨_, e1⟩, hr, fun p l e R s m args below meth c H locs cells slots Q X hh ls cst g3 kk => ?_⟩
  obtain ⟨cv, vs, rfl, hv, hvs⟩ := zx_vs_cons g3
  obtain ⟨cv2, vs2, rfl, hv2, hvs2⟩ := zx_vs_cons hvs
  cases hv2
  obtain ⟨q, a1, V, ⟨cell, q1, q2, q3, q4⟩, a4⟩ := (hh.2.2.2.1 i _ e1).2
  obtain rfl : q = (C, T, N) := Option.some.inj (a1.symm.trans hc.1)
  obtain ⟨hx, hb, -, -, hown, hts, -, hK, hmn, -⟩ := X
  have hin : ∀ w ∈ u_ws C T N, w ∈ P.2.2.1 := hc.2.1
  have hap := va_apart (own := C) hts hin ty0 hc.2.2.1 hc.2.2.2.1 hK hc.1
  obtain ⟨hS, hfc, kC, hkC, hkind⟩ := hK.1 ci _ hc.1
  obtain ⟨cf, kf, fi, f, hi2, hsl⟩ := hS k hk
  have hlay := hts _ (hin _ (u_in_lay hk))
  unfold u_lay at hlay
  rw [if_pos hfin] at hlay
  have hst := (u_facts hfc hkC (u_lays hts hin hk) hi2).1
  have hcf : m.cls = cf := by
    obtain ⟨_, _, c', _, _, _, -, -, hf', -, -, -, hown2, -⟩ := Cond.laysFinal_spec hlay
    have e1 : c' = cf := by have := hi2.symm.trans hf'; simp at this; exact this.1.symm
    rw [hdecl] at hown2
    rw [← e1]; exact Option.some.inj (hown.symm.trans hown2)
  have hn := zx_fit_ok hfit hv
  have h6 := u_fits hfc hkC hkind (Or.inr hlay) hi2 hty hn.1 hn.2
  refine W.putFinK hx hb hown (hts _ hw) hi2 hst hcf (hmn hinit) (by rw [q2]; exact h6) q1 q3 (by rw [hsl]; exact k2_hasslot (q4 k hk)) rfl rfl hd fun H1 z1 z2 z3 => ?_
  rw [hsl] at z1 ⊢
  exact kk H1 _ vs2 z2 z3 ⟨(C, T, N), hc.1, updV V k cv, ⟨_, z1, q2, q3, t_set q4 hap hk cv⟩, zx_set_vals (Nat.lt_of_lt_of_le hk hc.2.2.2.2) a4 hv⟩ hvs2
