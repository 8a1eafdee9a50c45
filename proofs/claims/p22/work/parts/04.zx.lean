/-! ===== cells that come, rows, static fields, texts ===== -/
theorem zx_hp_news {P : zx_P} {G : zx_G} (hA : zx_ad P G) {h : zx_H} {H H1 : Heap} (hh : zx_hp P G h H) {l : List zx_A} (hl : h.1 + l.length ≤ 300000) (h1 : H1.size = H.size + l.length) (h2 : ∀ q, q < H.size → H1[q]? = H[q]?) (h3 : ∀ (j : Nat) (a : zx_A), l[j]? = some a → zx_at P G a (H.size + j) H1) : zx_hp P G (zx_ha h l) H1 := by
  obtain ⟨b1, b9, b2, b3, b4⟩ := hh
  refine ⟨by rw [zx_ha_len]; exact Nat.le_trans b1 (Nat.le_add_right _ _), by rw [zx_ha_len]; exact hl, fun q => by rw [zx_ha_len] at q ⊢; rw [h1, b2 (by omega)]; omega, fun j a hj => ?_, fun q hq => ?_⟩
  · rcases zx_hg_ha l h j a hl hj with ⟨e1, e2⟩ | ⟨e1, e2⟩
    · have e3 := b3 j a e1
      refine ⟨by rw [zx_ha_len]; omega, zx_at_kept e3.2 (h2 _ (zx_at_lt e3.2))⟩
    · have h0 : j - h.1 < l.length := (List.getElem?_eq_some_iff.mp e2).1
      have h5 := h3 _ a e2
      refine ⟨by rw [zx_ha_len]; omega, ?_⟩
      have b2 := b2 (by omega)
      rw [hA.1 j (by omega) (by omega), show G.2.2.2.2.1 + (j - P.2.2.2.2.1) = H.size + (j - h.1) by omega]
      exact h5
  · rcases Nat.lt_or_ge q H.size with e | e
    · rw [h2 q e]
      exact b4 q hq
    · have h9 := b4 q hq
      rcases Nat.lt_or_ge h.1 300000 with e2 | e2
      · have := b2 e2
        omega
      · have h0 : l = [] := List.length_eq_zero_iff.mp (by omega)
        subst h0
        rw [Array.getElem?_eq_none (by show H1.size ≤ q; rw [h1]; show H.size + 0 ≤ q; omega), ← h9, Array.getElem?_eq_none (by omega)]
/-- a step that makes cells -/
theorem zx_grow {P : zx_P} {G : zx_G} {M : zx_M} {pc : Nat} {f : zx_F} (hA : zx_ad P G)
    (hf : ∀ (rec : zx_C) (k : zx_K) (L : zx_L) (st : List Value) (h : zx_H) (sl : Nat) (res : zx_T), f rec L st h sl k = some res → ∃ pc2 st2 l n, h.1 + l.length ≤ 300000 ∧ k pc2 L st2 (zx_ha h l) (sl + n) = some res ∧
      ∀ (p : Program) (e : Env) (R : Room) (s : State) (m : MethodId) (args : Array Value) (below : List Frame) (meth : Method) (c : Code) (H : Heap) (locs : List Loc) (cells slots : Nat) (Q : State → Prop), zx_c P G M p s m args meth c → zx_hp P G h H → cells + l.length ≤ R.cells → slots + n ≤ R.slots → (∀ j, j < l.length → G.2.2.2.1.1 (h.1 + j) = H.size + j) →
        ∀ (ls : Array Slot) (cst : List Value), zx_vs G.2.2.2.1 st cst →
        (∀ (H1 : Heap) (cst2 : List Value), H1.size = H.size + l.length → (∀ q, q < H.size → H1[q]? = H[q]?) → (∀ (j : Nat) (a : zx_A), l[j]? = some a → zx_at P G a (H.size + j) H1) → zx_vs G.2.2.2.1 st2 cst2 → W p G.1 e R s m args below meth c H1 locs (cells + l.length) (slots + n) Q (F0 m pc2 ls cst2)) →
        W p G.1 e R s m args below meth c H locs cells slots Q (F0 m pc ls cst)) : zx_ok P G M pc f := by
  intro E d k0 s0 res rec k L st h sl _ hr _ hk
  obtain ⟨pc2, st2, l, n, hl, h1, h2⟩ := hf rec k L st h sl res hr
  obtain ⟨b1, b2, b3⟩ := hk pc2 L st2 _ _ h1
  rw [zx_ha_len] at b1
  refine ⟨by omega, by omega, fun p e s m args below meth c C H locs ls CL cst hh hlo g1 g2 g3 hk0 hs0 => ?_⟩
  refine h2 p e _ s m args below meth c H locs _ _ _ C hh (by show _ ≤ res.2.1.1 - k0; omega) (by show _ ≤ res.2.2 - s0; omega) (fun j hj => ?_) ls cst g3 (fun H1 cst2 z1 z2 z3 z4 => ?_)
  · have := hh.1
    have := hh.2.2.1 (by omega)
    rw [hA.1 _ (by omega) (by omega)]
    omega
  · have h9 := b3 p e s m args below meth c C H1 locs ls CL cst2 (zx_hp_news hA hh hl z1 z2 z3) hlo g1 g2 z4 (by rw [zx_ha_len]; omega) (by omega)
    rw [zx_ha_len, show h.1 + l.length - k0 = h.1 - k0 + l.length by omega, show sl + n - s0 = sl - s0 + n by omega] at h9
    exact h9
noncomputable def zx_isd (b : Value) : Bool := match b with
  | .int _ => true
  | .long _ => true
  | .null => true
  | _ => false
theorem zx_dfl {ad : zx_D} {b v : Value} (h : b = v) (h2 : zx_isd b = true) : zx_v ad b v := by
  subst h
  cases b <;> first | rfl | cases h2
noncomputable def zx_newo (ci N : Nat) (dfl : zx_Tr Value) (npc : Nat) : zx_F := fun _ L st h sl kk => zx_fn h.1 (fun q => zx_fn (sl + N) (fun s2 => match Nat.blt q 300000 with
  | true => zx_haL [.inl (ci, dfl)] h (fun h2 => kk npc L (.ref q :: st) h2 s2)
  | false => none))
theorem zx_new_ok {P : zx_P} {G : zx_G} {M : zx_M} {pc ci index N : Nat} {C : String} {T : u_T} {ty0 : Nat → FieldType} {dfl : zx_Tr Value} (hA : zx_ad P G) (hc : zx_cls P ci C T N ty0) {dl : List Value} (hdl : dfl = zx_of dl) (hdf : dl = (List.range N).map (fun k => defaultValue (ty0 k))) (hdd : dl.all zx_isd = true) (hw1 : Cond.classLink M.1.cls index C ∈ P.2.2.1) (hw2 : Cond.instantiable C N ∈ P.2.2.1) (hw3 : Cond.initialized C ∈ P.2.2.1) (hd : decode M.2.1 pc = .ok (.new index, 3)) : zx_ok P G M pc (zx_newo ci N dfl (pc + 3)) := by
  refine zx_grow hA (fun rec kk L st h sl res hr => ?_)
  unfold zx_newo at hr
  rw [zx_fn_eq, zx_fn_eq] at hr
  split at hr
  · next e0 =>
    rw [zx_haL_eq] at hr
    refine ⟨_, _, _, _, (by show h.1 + 1 ≤ _; exact Nat.le_of_ble_eq_true e0), hr, fun p e R s m args below meth c H locs cells slots Q X hh hcel hslo hq ls cst g3 kk => ?_⟩
    obtain ⟨hx, hb, -, -, hown, hts, -, hK, -⟩ := X
    have hin : ∀ w ∈ u_ws C T N, w ∈ P.2.2.1 := hc.2.1
    have hKn := hK.1 ci _ hc.1
    refine W.newcK hx hb hown (hts _ hw1) (hts _ hw2) (hts _ hw3) rfl hd hcel hslo hKn.2.1 rfl fun H1 kC hkC e1 z1 o1 => ?_
    refine kk H1 (.ref H.size :: cst) z1 o1 (fun j a hj => ?_) ⟨by show Value.ref H.size = .ref _; rw [show h.1 = h.1 + 0 from rfl, hq 0 (Nat.lt_succ_self 0)]; rfl, g3⟩
    have h0 : j < 1 := (List.getElem?_eq_some_iff.mp hj).1
    rw [show j = 0 by omega] at hj
    cases hj
    rw [show j = 0 by omega]
    refine ⟨(C, T, N), hc.1, _, u_born ty0 hts hin hKn hkC e1 hc.2.2.1, fun k b hb2 => ?_⟩
    have hlen : dl.length = N := by rw [hdf]; simp
    rw [hdl, zx_of_g dl k (by rw [hlen]; exact hc.2.2.2.2)] at hb2
    have hb3 := List.all_eq_true.mp hdd b (List.mem_of_getElem? hb2)
    refine zx_dfl ?_ hb3
    rw [hdf, List.getElem?_map] at hb2
    cases e3 : (List.range N)[k]? with
    | none => rw [e3] at hb2; cases hb2
    | some x =>
      rw [e3] at hb2
      have e4 : x = k := by
        have := List.getElem?_eq_some_iff.mp e3
        obtain ⟨w1, w2⟩ := this
        rw [List.getElem_range] at w2
        exact w2.symm
      subst e4
      exact (Option.some.inj hb2).symm
  · cases hr
noncomputable def zx_newA (ty : Nat) (cb : Nat) (d : Value) (npc : Nat) : zx_F := fun _ L st h sl kk => match st with
  | .int n :: r => match decide (0 ≤ n) with
    | true => zx_fn n.toNatClampNeg (fun N => zx_fn h.1 (fun q => zx_fn (sl + N) (fun s2 => match Nat.blt q 300000 && Nat.ble (N * cb) 536870912 with
      | true => zx_haL [.inr (ty, N, d, zx_e10 Value)] h (fun h2 => kk npc L (.ref q :: r) h2 s2)
      | false => none)))
    | false => none
  | _ => none
theorem zx_newA_in {ty cb : Nat} {d : Value} {npc : Nat} {rec : zx_C} {L : zx_L} {st : List Value} {h : zx_H} {sl : Nat} {kk : zx_K} {res : zx_T} (hr : zx_newA ty cb d npc rec L st h sl kk = some res) : ∃ n r, st = .int n :: r ∧ ¬ n < 0 ∧ h.1 + 1 ≤ 300000 ∧ n.toNatClampNeg * cb ≤ 536870912 ∧ kk npc L (.ref h.1 :: r) (zx_ha h [.inr (ty, n.toNatClampNeg, d, zx_e10 Value)]) (sl + n.toNatClampNeg) = some res := by
  unfold zx_newA at hr
  split at hr
  · next n r =>
    split at hr
    · next e1 =>
      rw [zx_fn_eq, zx_fn_eq, zx_fn_eq] at hr
      split at hr
      · next e2 =>
        rw [zx_haL_eq] at hr
        simp only [Bool.and_eq_true] at e2
        refine ⟨n, r, rfl, ?_, Nat.le_of_ble_eq_true e2.1, Nat.le_of_ble_eq_true e2.2, hr⟩
        have e3 := of_decide_eq_true e1
        rw [Int32.lt_iff_toInt_lt]
        rw [Int32.le_iff_toInt_le] at e3
        omega
      · cases hr
    · cases hr
  · cases hr
theorem zx_tl {P : zx_P} {G : zx_G} (hA : zx_ad P G) {t : Nat} {fty : FieldType} (h : P.2.1[t]? = some fty) : ∃ cA, G.2.2.1[t]? = some (cA, fty) := by
  rw [← hA.2.2, List.getElem?_map] at h
  cases e : G.2.2.1[t]? with
  | none => rw [e] at h; cases h
  | some r =>
    rw [e] at h
    have h2 := Option.some.inj h
    exact ⟨r.1, by rw [← h2]⟩
theorem zx_newarray_ok {P : zx_P} {G : zx_G} {M : zx_M} {pc ty cb : Nat} {atype : ArrayType} {d : Value} (hA : zx_ad P G) (hty : P.2.1[ty]? = some (newarray.typeOf atype)) (hcb : componentBytes (newarray.typeOf atype) = cb) (hdv : defaultValue (newarray.typeOf atype) = d) (hdd : zx_isd d = true) (hra : ∀ U cA, va_RA U cA (newarray.typeOf atype) = (U.vm.findClass ("[" ++ (newarray.typeOf atype).toString) = some cA)) (hw : Cond.arrayClass (newarray.typeOf atype) ∈ P.2.2.1) (hd : decode M.2.1 pc = .ok (.newarray atype, 2)) : zx_ok P G M pc (zx_newA ty cb d (pc + 2)) := by
  refine zx_grow hA (fun rec kk L st h sl res hr => ?_)
  obtain ⟨n, r, rfl, hn, hl, hby, hr⟩ := zx_newA_in hr
  refine ⟨_, _, [_], _, hl, hr, fun p e R s m args below meth c H locs cells slots Q X hh hcel hslo hq ls cst g3 kk => ?_⟩
  obtain ⟨hx, hb, -, -, hown, hts, -, hK, -⟩ := X
  obtain ⟨cv, vs, rfl, hv, hvs⟩ := zx_vs_cons g3
  cases hv
  obtain ⟨cA0, hcA⟩ := zx_tl hA hty
  refine W.newa hx hb (hts _ hw) rfl hd rfl hn (by rw [hcb]; exact hby) hcel hslo fun cA kA comp h1 h2 h3 => ?_
  have e9 := (hK.2 ty _ hcA).2
  rw [hra, h1] at e9
  cases e9
  refine kk _ (.ref H.size :: vs) (by rw [Array.size_push]; rfl) (fun q hq2 => by rw [Array.getElem?_push, if_neg (Nat.ne_of_lt hq2)]) (fun j a hj => ?_) ⟨by show Value.ref H.size = .ref _; rw [show h.1 = h.1 + 0 from rfl, hq 0 (Nat.lt_succ_self 0)]; rfl, hvs⟩
  have h0 : j < 1 := (List.getElem?_eq_some_iff.mp hj).1
  rw [show j = 0 by omega] at hj
  cases hj
  rw [show j = 0 by omega]
  refine ⟨_, hcA, fun _ => d, ?_, fun j hj => zx_dfl (zx_rd_e _ _) hdd⟩
  rw [arrV_new, hdv]
  show (H.push _)[H.size]? = _
  rw [Array.getElem?_push, if_pos rfl]
theorem zx_anewarray_ok {P : zx_P} {G : zx_G} {M : zx_M} {pc ty index : Nat} {C : String} (hA : zx_ad P G) (hty : P.2.1[ty]? = some (.object C)) (hw1 : Cond.classLink M.1.cls index C ∈ P.2.2.1) (hw2 : FieldType.object C ∈ P.2.2.2.2.2.2.2.1) (hd : decode M.2.1 pc = .ok (.anewarray index, 3)) : zx_ok P G M pc (zx_newA ty 4 .null (pc + 3)) := by
  refine zx_grow hA (fun rec kk L st h sl res hr => ?_)
  obtain ⟨n, r, rfl, hn, hl, hby, hr⟩ := zx_newA_in hr
  refine ⟨_, _, [_], _, hl, hr, fun p e R s m args below meth c H locs cells slots Q X hh hcel hslo hq ls cst g3 kk => ?_⟩
  obtain ⟨hx, hb, -, -, hown, hts, -, hK, -, hxx⟩ := X
  obtain ⟨cv, vs, rfl, hv, hvs⟩ := zx_vs_cons g3
  cases hv
  obtain ⟨cA0, hcA⟩ := zx_tl hA hty
  refine W.anew hx hb hown (hts _ hw1) (zx_AO_use (hxx.2.2.1 _ hw2)) rfl hd rfl hn hby hcel hslo fun cA kA comp h1 h2 h3 h4 => ?_
  obtain ⟨kA2, comp2, -, -, -, e9⟩ := (hK.2 ty _ hcA).2
  rw [h1] at e9
  cases e9
  refine kk _ (.ref H.size :: vs) (by rw [Array.size_push]; rfl) (fun q hq2 => by rw [Array.getElem?_push, if_neg (Nat.ne_of_lt hq2)]) (fun j a hj => ?_) ⟨by show Value.ref H.size = .ref _; rw [show h.1 = h.1 + 0 from rfl, hq 0 (Nat.lt_succ_self 0)]; rfl, hvs⟩
  have h0 : j < 1 := (List.getElem?_eq_some_iff.mp hj).1
  rw [show j = 0 by omega] at hj
  cases hj
  rw [show j = 0 by omega]
  refine ⟨_, hcA, fun _ => .null, ?_, fun j hj => zx_dfl (zx_rd_e _ _) rfl⟩
  rw [arrV_new]
  show (H.push _)[H.size]? = _
  rw [Array.getElem?_push, if_pos rfl]
/-- a named unknown that is known by its own -/
noncomputable def zx_cz (o : zx_O) (v : Value) : Value := match v with
  | .float b => match zx_ask o 9 b 0 with
    | some w => w
    | none => .float b
  | v => v
theorem zx_cz_ok {D : zx_D} {o : zx_O} (ho : zx_oo D o) {v w : Value} (h : zx_v D v w) : zx_v D (zx_cz o v) w := by
  unfold zx_cz
  split
  · next b =>
    split
    · next w0 e =>
      obtain ⟨x, rfl, hx⟩ := h
      obtain ⟨h0, h1⟩ := zx_ask_ok ho e
      rw [hx h0]
      exact h1
    · exact h
  · exact h
/-- a row's place is read -/
noncomputable def zx_ald (o : zx_O) (ty npc : Nat) : zx_F := fun _ L st h sl kk => match st with
  | .int j :: .ref i :: r => match decide (0 ≤ j) with
    | true => match zx_ga h i ty with
      | none => none
      | some x => zx_fn j.toNatClampNeg (fun q => match Nat.blt q x.1 with
        | true => kk npc L (zx_cz o (zx_rd x.2.1 x.2.2 q) :: r) h sl
        | false => none)
    | false => none
  | _ => none
theorem zx_not_neg {j : Int32} (h : decide (0 ≤ j) = true) : ¬ j < 0 := by
  have e3 := of_decide_eq_true h
  rw [Int32.lt_iff_toInt_lt]
  rw [Int32.le_iff_toInt_le] at e3
  omega
theorem zx_ald_ok {P : zx_P} {G : zx_G} {M : zx_M} {pc ty : Nat} {o : zx_O} {fty : FieldType} (ho : zx_oo G.2.2.2.1 o) (hA : zx_ad P G) (hty : P.2.1[ty]? = some fty)
    (row : ∀ (p : Program) (l : Launch) (e : Env) (R : Room) (s : State) (m : MethodId) (args : Array Value) (below : List Frame) (meth : Method) (c : Code) (H : Heap) (locs : List Loc) (cells slots : Nat) (Q : State → Prop) (ls : Array Slot) (rest : List Value) (a : Addr) (cell : Cell) (j : Int32) (v : Value), p.tables.exec = Jvm.exec → c.code = M.2.1 → H[a]? = some cell → s.isArrayOf cell fty → cell.vm ≠ .unknown → ¬ (j < 0 ∨ cell.slots.size ≤ j.toNatClampNeg) → cell.slots[j.toNatClampNeg]? = some v → W p l e R s m args below meth c H locs cells slots Q (F0 m (pc + 1) ls (v :: rest)) → W p l e R s m args below meth c H locs cells slots Q (F0 m pc ls (.int j :: .ref a :: rest))) : zx_ok P G M pc (zx_ald o ty (pc + 1)) := by
  refine zx_read (fun rec kk L st h sl res hr => ?_)
  unfold zx_ald at hr
  split at hr
  · next j i r =>
    cases e2 : decide (0 ≤ j) with
    | false => rw [e2] at hr; exact nomatch hr
    | true =>
      rw [e2] at hr
      dsimp only at hr
      cases e1 : zx_ga h i ty with
      | none => rw [e1] at hr; exact nomatch hr
      | some x =>
        rw [e1] at hr
        dsimp only at hr
        rw [zx_fn_eq] at hr
        cases e3 : Nat.blt j.toNatClampNeg x.1 with
        | false => rw [e3] at hr; exact nomatch hr
        | true =>
          rw [e3] at hr
          dsimp only at hr
          have e4 := zx_ga_in e1
          have hlt : j.toNatClampNeg < x.1 := Nat.le_of_ble_eq_true e3
          refine ⟨_, _, hr, fun p l e R s m args below meth c H locs cells slots Q X hh ls cst g3 kk => ?_⟩
          obtain ⟨cv, vs, rfl, hv, hvs⟩ := zx_vs_cons g3
          obtain ⟨cv2, vs2, rfl, hv2, hvs2⟩ := zx_vs_cons hvs
          cases hv
          cases hv2
          obtain ⟨q, a1, f, a2, a3⟩ := (hh.2.2.2.1 i _ e4).2
          obtain ⟨cA, hcA⟩ := zx_tl hA hty
          obtain rfl : q = (cA, fty) := Option.some.inj (a1.symm.trans hcA)
          refine row p l e R s m args below meth c H locs cells slots Q ls vs2 _ _ j (f j.toNatClampNeg) X.1 X.2.1 a2 ((X.2.2.2.2.2.2.2.1.2 ty _ hcA).1 x.1 f) (fun q => by cases q) (by rw [arrV_size]; exact fun q => q.elim (zx_not_neg e2) (fun w => absurd hlt (Nat.not_lt.mpr w))) (by rw [arrV_read _ _ hlt]) (kk (f j.toNatClampNeg :: vs2) ⟨zx_cz_ok ho (a3 _ hlt), hvs2⟩)
  · exact nomatch hr
theorem zx_iaload_ok {P : zx_P} {G : zx_G} {M : zx_M} {pc ty : Nat} {o : zx_O} (ho : zx_oo G.2.2.2.1 o) (hA : zx_ad P G) (hty : P.2.1[ty]? = some .int) (hd : decode M.2.1 pc = .ok (.iaload, 1)) : zx_ok P G M pc (zx_ald o ty (pc + 1)) :=
  zx_ald_ok ho hA hty (fun p l e R s m args below meth c H locs cells slots Q ls rest a cell j v hx hb h1 h2 h3 h4 h5 k => W.iald hx hb h1 h2 h3 h4 h5 rfl rfl hd k)
theorem zx_laload_ok {P : zx_P} {G : zx_G} {M : zx_M} {pc ty : Nat} {o : zx_O} (ho : zx_oo G.2.2.2.1 o) (hA : zx_ad P G) (hty : P.2.1[ty]? = some .long) (hd : decode M.2.1 pc = .ok (.laload, 1)) : zx_ok P G M pc (zx_ald o ty (pc + 1)) :=
  zx_ald_ok ho hA hty (fun p l e R s m args below meth c H locs cells slots Q ls rest a cell j v hx hb h1 h2 h3 h4 h5 k => W.lald hx hb h1 h2 h3 h4 h5 rfl rfl hd k)
theorem zx_baload_ok {P : zx_P} {G : zx_G} {M : zx_M} {pc ty : Nat} {o : zx_O} (ho : zx_oo G.2.2.2.1 o) (hA : zx_ad P G) (hty : P.2.1[ty]? = some .byte) (hd : decode M.2.1 pc = .ok (.baload, 1)) : zx_ok P G M pc (zx_ald o ty (pc + 1)) :=
  zx_ald_ok ho hA hty (fun p l e R s m args below meth c H locs cells slots Q ls rest a cell j v hx hb h1 h2 h3 h4 h5 k => W.bald hx hb h1 h2 h3 h4 h5 rfl rfl hd k)
theorem zx_zaload_ok {P : zx_P} {G : zx_G} {M : zx_M} {pc ty : Nat} {o : zx_O} (ho : zx_oo G.2.2.2.1 o) (hA : zx_ad P G) (hty : P.2.1[ty]? = some .boolean) (hd : decode M.2.1 pc = .ok (.baload, 1)) : zx_ok P G M pc (zx_ald o ty (pc + 1)) :=
  zx_ald_ok ho hA hty (fun p l e R s m args below meth c H locs cells slots Q ls rest a cell j v hx hb h1 h2 h3 h4 h5 k => W.zald hx hb h1 h2 h3 h4 h5 rfl rfl hd k)
theorem zx_aaload_ok {P : zx_P} {G : zx_G} {M : zx_M} {pc ty : Nat} {o : zx_O} {fty : FieldType} (ho : zx_oo G.2.2.2.1 o) (hA : zx_ad P G) (hty : P.2.1[ty]? = some fty) (href : fty.isReference = true) (hd : decode M.2.1 pc = .ok (.aaload, 1)) : zx_ok P G M pc (zx_ald o ty (pc + 1)) :=
  zx_ald_ok ho hA hty (fun p l e R s m args below meth c H locs cells slots Q ls rest a cell j v hx hb h1 h2 h3 h4 h5 k => W.aald hx hb h1 h2 href h3 h4 h5 rfl rfl hd k)
/-- a row's place is written -/
noncomputable def zx_ast (K0 ty : Nat) (cv : Value → Option Value) (npc : Nat) : zx_F := fun _ L st h sl kk => match st with
  | v :: .int j :: .ref i :: r => match Nat.ble K0 i && decide (0 ≤ j) with
    | true => match zx_ga h i ty with
      | none => none
      | some x => zx_fn j.toNatClampNeg (fun q => match Nat.blt q x.1 && Nat.blt q 300000 with
        | true => match cv v with
          | some w => zx_hsC h i (.inr (ty, x.1, x.2.1, zx_s10 w x.2.2 q)) (fun h2 => kk npc L r h2 sl)
          | none => none
        | false => none)
    | false => none
  | _ => none
theorem zx_ast_ok {P : zx_P} {G : zx_G} {M : zx_M} {pc ty K0 : Nat} {fty : FieldType} {cv : Value → Option Value} (hA : zx_ad P G) (hK0 : K0 = P.2.2.2.2.1) (hty : P.2.1[ty]? = some fty)
    (row : ∀ (p : Program) (l : Launch) (e : Env) (R : Room) (s : State) (m : MethodId) (args : Array Value) (below : List Frame) (meth : Method) (c : Code) (h : zx_H) (H : Heap) (locs : List Loc) (cells slots : Nat) (Q : State → Prop) (ls : Array Slot) (rest : List Value) (a : Addr) (cA : ClassId) (n : Nat) (f : Nat → Value) (j : Int32) (x w v : Value), zx_c P G M p s m args meth c → zx_hp P G h H → cv x = some w → zx_v G.2.2.2.1 x v → H[a]? = some (arrV cA n f) → G.2.2.1[ty]? = some (cA, fty) → s.isArrayOf (arrV cA n f) fty → ¬ (j < 0 ∨ (arrV cA n f).slots.size ≤ j.toNatClampNeg) →
      (∀ (H1 : Heap) (v2 : Value), zx_v G.2.2.2.1 w v2 → H1[a]? = some ((arrV cA n f).setSlot j.toNatClampNeg v2) → H1.size = H.size → (∀ q, q ≠ a → H1[q]? = H[q]?) → W p l e R s m args below meth c H1 (locs ++ [⟨a, j.toNatClampNeg⟩]) cells slots Q (F0 m (pc + 1) ls rest)) → W p l e R s m args below meth c H locs cells slots Q (F0 m pc ls (v :: .int j :: .ref a :: rest))) : zx_ok P G M pc (zx_ast K0 ty cv (pc + 1)) := by
  refine zx_write hA (fun rec kk L st h sl res hr => ?_)
  unfold zx_ast at hr
  split at hr
  · next v j i r =>
    cases e2 : Nat.ble K0 i && decide (0 ≤ j) with
    | false => rw [e2] at hr; exact nomatch hr
    | true =>
      rw [e2] at hr
      dsimp only at hr
      cases e1 : zx_ga h i ty with
      | none => rw [e1] at hr; exact nomatch hr
      | some x =>
        rw [e1] at hr
        dsimp only at hr
        rw [zx_fn_eq] at hr
        cases e3 : Nat.blt j.toNatClampNeg x.1 && Nat.blt j.toNatClampNeg 300000 with
        | false => rw [e3] at hr; exact nomatch hr
        | true =>
          rw [e3] at hr
          dsimp only at hr
          cases e5 : cv v with
          | none => rw [e5] at hr; exact nomatch hr
          | some w =>
            rw [e5] at hr
            dsimp only at hr
            rw [zx_hsC_eq] at hr
            have e4 := zx_ga_in e1
            simp only [Bool.and_eq_true] at e2 e3
            have hlt : j.toNatClampNeg < x.1 := Nat.le_of_ble_eq_true e3.1
            have hl3 : j.toNatClampNeg < 300000 := Nat.le_of_ble_eq_true e3.2
            refine ⟨_, _, i, _, by rw [← hK0]; exact Nat.le_of_ble_eq_true e2.1, ⟨_, e4⟩, hr, fun p l e R s m args below meth c H locs cells slots Q X hh ls cst g3 kk => ?_⟩
            obtain ⟨cv1, vs, rfl, hv, hvs⟩ := zx_vs_cons g3
            obtain ⟨cv2, vs2, rfl, hv2, hvs2⟩ := zx_vs_cons hvs
            obtain ⟨cv3, vs3, rfl, hv3, hvs3⟩ := zx_vs_cons hvs2
            cases hv2
            cases hv3
            obtain ⟨q, a1, f, a2, a3⟩ := (hh.2.2.2.1 i _ e4).2
            obtain ⟨cA, hcA⟩ := zx_tl hA hty
            obtain rfl : q = (cA, fty) := Option.some.inj (a1.symm.trans hcA)
            refine row p l e R s m args below meth c h H locs cells slots Q ls vs3 _ cA x.1 f j v w cv1 X hh e5 hv a2 hcA ((X.2.2.2.2.2.2.2.1.2 ty _ hcA).1 x.1 f) (by rw [arrV_size]; exact fun q => q.elim (zx_not_neg e2.2) (fun w => absurd hlt (Nat.not_lt.mpr w))) (fun H1 v2 hw2 z1 z2 z3 => ?_)
            rw [arrV_store] at z1
            refine kk H1 _ vs3 z2 z3 ⟨_, hcA, updV f j.toNatClampNeg v2, z1, fun q hq => ?_⟩ hvs3
            show zx_v _ (zx_rd x.2.1 (zx_s10 w x.2.2 j.toNatClampNeg) q) _
            rw [zx_rd_put _ _ _ _ _ hl3]
            by_cases e : q = j.toNatClampNeg
            · rw [if_pos e]
              simp only [updV, if_pos e]
              exact hw2
            · rw [if_neg e]
              simp only [updV, if_neg e]
              exact a3 q hq
  · exact nomatch hr
noncomputable def zx_cvI (v : Value) : Option Value := match v with
  | .int x => some (.int x)
  | .float b => some (.float b)
  | _ => none
noncomputable def zx_cvJ (v : Value) : Option Value := match v with
  | .long x => some (.long x)
  | .double b => some (.double b)
  | _ => none
noncomputable def zx_cvB (v : Value) : Option Value := match v with
  | .int x => some (zx_i x.toInt8.toInt32)
  | .float _ => some (.float 0)
  | _ => none
noncomputable def zx_cvZ (v : Value) : Option Value := match v with
  | .int x => match decide (x = 0), decide (x = 1) with
    | true, _ => some (.int 0)
    | _, true => some (.int 1)
    | _, _ => none
  | _ => none
theorem zx_iastore_ok {P : zx_P} {G : zx_G} {M : zx_M} {pc ty K0 : Nat} (hA : zx_ad P G) (hK0 : K0 = P.2.2.2.2.1) (hty : P.2.1[ty]? = some .int) (hd : decode M.2.1 pc = .ok (.iastore, 1)) : zx_ok P G M pc (zx_ast K0 ty zx_cvI (pc + 1)) := by
  refine zx_ast_ok hA hK0 hty (fun p l e R s m args below meth c h H locs cells slots Q ls rest a cA n f j x w v X hh hcv hv h1 _ h2 h3 k => ?_)
  unfold zx_cvI at hcv
  split at hcv
  · cases hcv
    cases hv
    exact W.iast X.1 X.2.1 h1 h2 (fun q => by cases q) h3 rfl rfl hd (fun H1 z1 z2 z3 => k H1 _ rfl z1 z2 z3)
  · cases hcv
    obtain ⟨y, rfl, hy⟩ := hv
    exact W.iast X.1 X.2.1 h1 h2 (fun q => by cases q) h3 rfl rfl hd (fun H1 z1 z2 z3 => k H1 _ ⟨y, rfl, hy⟩ z1 z2 z3)
  · cases hcv
theorem zx_lastore_ok {P : zx_P} {G : zx_G} {M : zx_M} {pc ty K0 : Nat} (hA : zx_ad P G) (hK0 : K0 = P.2.2.2.2.1) (hty : P.2.1[ty]? = some .long) (hd : decode M.2.1 pc = .ok (.lastore, 1)) : zx_ok P G M pc (zx_ast K0 ty zx_cvJ (pc + 1)) := by
  refine zx_ast_ok hA hK0 hty (fun p l e R s m args below meth c h H locs cells slots Q ls rest a cA n f j x w v X hh hcv hv h1 _ h2 h3 k => ?_)
  unfold zx_cvJ at hcv
  split at hcv
  · cases hcv
    cases hv
    exact W.last X.1 X.2.1 h1 h2 (fun q => by cases q) h3 rfl rfl hd (fun H1 z1 z2 z3 => k H1 _ rfl z1 z2 z3)
  · cases hcv
    obtain ⟨y, rfl, hy⟩ := hv
    exact W.last X.1 X.2.1 h1 h2 (fun q => by cases q) h3 rfl rfl hd (fun H1 z1 z2 z3 => k H1 _ ⟨y, rfl, hy⟩ z1 z2 z3)
  · cases hcv
theorem zx_bastore_ok {P : zx_P} {G : zx_G} {M : zx_M} {pc ty K0 : Nat} (hA : zx_ad P G) (hK0 : K0 = P.2.2.2.2.1) (hty : P.2.1[ty]? = some .byte) (hd : decode M.2.1 pc = .ok (.bastore, 1)) : zx_ok P G M pc (zx_ast K0 ty zx_cvB (pc + 1)) := by
  refine zx_ast_ok hA hK0 hty (fun p l e R s m args below meth c h H locs cells slots Q ls rest a cA n f j x w v X hh hcv hv h1 _ h2 h3 k => ?_)
  unfold zx_cvB at hcv
  split at hcv
  · cases hcv
    cases hv
    exact W.bast X.1 X.2.1 h1 h2 (fun q => by cases q) h3 rfl rfl hd (fun H1 z1 z2 z3 => k H1 _ (by rw [zx_i_eq]; rfl) z1 z2 z3)
  · cases hcv
    obtain ⟨y, rfl, hy⟩ := hv
    exact W.bast X.1 X.2.1 h1 h2 (fun q => by cases q) h3 rfl rfl hd (fun H1 z1 z2 z3 => k H1 _ (zx_fz _) z1 z2 z3)
  · cases hcv
theorem zx_zastore_ok {P : zx_P} {G : zx_G} {M : zx_M} {pc ty K0 : Nat} (hA : zx_ad P G) (hK0 : K0 = P.2.2.2.2.1) (hty : P.2.1[ty]? = some .boolean) (hd : decode M.2.1 pc = .ok (.bastore, 1)) : zx_ok P G M pc (zx_ast K0 ty zx_cvZ (pc + 1)) := by
  refine zx_ast_ok hA hK0 hty (fun p l e R s m args below meth c h H locs cells slots Q ls rest a cA n f j x w v X hh hcv hv h1 _ h2 h3 k => ?_)
  unfold zx_cvZ at hcv
  split at hcv
  · split at hcv
    · next e1 =>
      cases hcv
      cases hv
      obtain rfl := of_decide_eq_true e1
      exact W.zast X.1 X.2.1 h1 h2 (fun q => by cases q) h3 rfl rfl hd (fun H1 z1 z2 z3 => k H1 _ rfl z1 z2 z3)
    · next e1 e2 _ =>
      cases hcv
      cases hv
      obtain rfl := of_decide_eq_true e2
      exact W.zast X.1 X.2.1 h1 h2 (fun q => by cases q) h3 rfl rfl hd (fun H1 z1 z2 z3 => k H1 _ rfl z1 z2 z3)
    · cases hcv
  · cases hcv
noncomputable def zx_alen (npc : Nat) : zx_F := fun _ L st h sl kk => match st with
  | .ref i :: r => match zx_gl h i with
    | some n => kk npc L (.int (nI n) :: r) h sl
    | none => none
  | _ => none
theorem zx_arraylength_ok {P : zx_P} {G : zx_G} {M : zx_M} {pc : Nat} (hd : decode M.2.1 pc = .ok (.arraylength, 1)) : zx_ok P G M pc (zx_alen (pc + 1)) := by
  refine zx_read (fun rec kk L st h sl res hr => ?_)
  unfold zx_alen at hr
  split at hr
  · next i r =>
    cases e0 : zx_gl h i with
    | none => rw [e0] at hr; exact nomatch hr
    | some n =>
      rw [e0] at hr
      obtain ⟨t, d, u, e1⟩ := zx_gl_in e0
      refine ⟨_, _, hr, fun p l e R s m args below meth c H locs cells slots Q X hh ls cst g3 kk => ?_⟩
      obtain ⟨cv, vs, rfl, hv, hvs⟩ := zx_vs_cons g3
      cases hv
      obtain ⟨q, a1, f, a2, a3⟩ := (hh.2.2.2.1 i _ e1).2
      refine W.alen X.1 X.2.1 a2 (ty := q.2) ((X.2.2.2.2.2.2.2.1.2 t _ a1).1 n f) (n := nI n) (by rw [arrV_size]; rfl) rfl rfl hd (kk (.int (nI n) :: vs) ⟨rfl, hvs⟩)
  · exact nomatch hr
