/-! ===== throws, their catching, the law's helpers ===== -/
theorem zy_triv {p : Program} {l : Launch} {e : Env} {R : Room} {s : State} {m : MethodId} {args : Array Value} {below : List Frame} {meth : Method} {c : Code} {H : Heap} {locs : List Loc} {cells slots : Nat} {Q : State → Prop} {g : JFrame} (h : ∀ t, Q t) : W p l e R s m args below meth c H locs cells slots Q g := fun T _ _ => ⟨T.setTop g, Steps.refl _, h _⟩
/-- what else stands for good: words on faces, Throwable's two static fields, classes that aren't others -/
noncomputable def zy_B (B : List Cond) (ncs : List (String × String)) (base : Nat) (H : Heap) : State → Prop := fun s =>
  (∀ w ∈ B, w.faceAtom = true ∧ w.onTables = true ∧ w.before #[] s = true) ∧ (vx_Zq Bundle.tN "UNASSIGNED_STACK" Bundle.steD (fun a => base ≤ a) s H ∧ vx_Zq Bundle.tN "SUPPRESSED_SENTINEL" Bundle.listD (fun a => base ≤ a) s H) ∧ ∀ q ∈ ncs, va_Nc q.1 q.2 s
theorem zy_B_moved {B : List Cond} {ncs : List (String × String)} {base : Nat} {H : Heap} (s U : State) (hW : s.WarmedH U.vm) (h : zy_B B ncs base H s) : zy_B B ncs base H U :=
  ⟨fun w hw => ⟨(h.1 w hw).1, (h.1 w hw).2.1, va_tabs (u := s.setVm U.vm) (h.1 w hw).2.1 rfl (Cond.faceAtom_setVm hW.alike w (h.1 w hw).1 (h.1 w hw).2.2)⟩, ⟨vx_Zq.moved hW.alike h.2.1.1, vx_Zq.moved hW.alike h.2.1.2⟩, fun q hq => va_Nc.moved hW.alike (h.2.2 q hq)⟩
/-- a class of what is thrown, by its number -/
noncomputable def zy_XC (P : zx_P) (G : zx_G) (X : List String) (res : zx_T) : String → State → State → Prop := fun E _ t => ∃ n, res.1 = some (.retAddr (n + 1)) ∧ X[n]? = some E ∧ zx_hp P G res.2.1 t.heap
noncomputable def zy_EX (X : List String) (P : zx_P) (G : zx_G) (k0 s0 : Nat) (res : zx_T) : zx_E := fun _ _ s _ args below _ c t => (c.exceptionTable.toList = [] ∧ G.2.2.2.2.1 ≤ s.heap.size) → vx_MQ below (zx_q P G res) (zy_XC P G X res) args s (res.2.1.1 - k0) (res.2.2 - s0) (fun a => G.2.2.2.2.1 ≤ a) t
theorem zy_EX_EE {X : List String} {P : zx_P} {G : zx_G} {k0 s0 : Nat} {res : zx_T} : zx_EE P G (zy_EX X P G k0 s0 res) k0 s0 res := fun _ _ _ _ _ _ _ _ _ h _ => by
  obtain ⟨o, b1, b2, b3, b4⟩ := h
  exact ⟨o, b1, b2, Or.inl ⟨b3, b4⟩⟩
/-- 'throw new E()' -/
noncomputable def zy_thr (n : Nat) : zx_F := fun _ _ st h sl _ => match st with
  | [] => match Nat.blt h.1 300000 with
    | true => some (some (.retAddr (n + 1)), (300000, h.2), sl + 6)
    | false => none
  | _ => none
theorem zy_thr_ok {P : zx_P} {G : zx_G} {M : zx_M} {X : List String} {d k0 s0 pc n ik ic : Nat} {res : zx_T} {cls : String} {names : List String} {B : List Cond} {ncs : List (String × String)} (hX : ∀ s, G.2.2.2.2.2.2 s → zy_B B ncs G.2.2.2.2.1 G.2.2.2.2.2.1 s) (hXn : X[n]? = some cls) (hlt : G.1.stackTraces = false)
    (hcls : Bundle.fit cls = true) (hnames : ∀ n ∈ names, Bundle.fit n = true) (hk : Cond.classLink M.1.cls ik cls ∈ P.2.2.1) (hini : Cond.initialized cls ∈ P.2.2.1) (hat : ∀ w ∈ vx_at0 M.1.cls ic cls names, w ∈ P.2.2.1 ∨ w ∈ B)
    (hgood : ∀ w ∈ Cond.classLink M.1.cls ik cls :: Cond.initialized cls :: vx_at0 M.1.cls ic cls names, vx_ot w = true) (hfr : names.length + 3 < d + 1) (hlo : 13 * (names.length + 1) + 42 ≤ 60 * d + 20)
    (d0 : decode M.2.1 pc = .ok (.new ik, 3)) (d3 : decode M.2.1 (pc + 3) = .ok (.dup, 1)) (d4 : decode M.2.1 (pc + 4) = .ok (.invokespecial ic, 3)) (d7 : decode M.2.1 (pc + 7) = .ok (.athrow, 1)) : zx_okF P G M (zy_EX X P G k0 s0 res) d k0 s0 res pc (zy_thr n) := by
  intro rec k L st h sl _ hf _ _
  unfold zy_thr at hf
  split at hf
  · cases e : Nat.blt h.1 300000 with
    | false => rw [e] at hf; exact nomatch hf
    | true =>
      rw [e] at hf
      cases hf
      have e1 : h.1 < 300000 := Nat.le_of_ble_eq_true e
      refine ⟨Nat.le_of_lt e1, Nat.le_add_right _ _, fun p e s m args below meth c C H locs ls CL cst hh hl g1 g2 g3 hk0 hs0 => ?_⟩
      obtain rfl := zx_vs_nil g3
      by_cases hq : c.exceptionTable.toList = [] ∧ G.2.2.2.2.1 ≤ s.heap.size
      · refine zx_Wmono (fun t ht _ => ht) ?_
        intro T hT Y
        have hfr9 := vx_frame (U := T) Y.same
        have hS : va_S (fun a => G.2.2.2.2.1 ≤ a) s.heap H locs := ⟨by rw [← hT]; exact hfr9.1, fun q h1 h2 => by rw [← hT]; exact hfr9.2 q h1 (fun z hz e => h2 (by rw [← e]; exact hl z hz)), hl⟩
        have hHb : G.2.2.2.2.1 ≤ H.size := Nat.le_trans hq.2 hS.1
        have hold : ∀ a : Nat, a < G.2.2.2.2.2.1.size → ¬ G.2.2.2.2.1 ≤ a → s.heap[a]? = G.2.2.2.2.2.1[a]? := fun a _ h2 => by
          have h3 : a < G.2.2.2.2.1 := Nat.not_le.mp h2
          rw [← hS.2.1 a (by omega) h2]
          exact hh.2.2.2.2 a h3
        have hXs : zy_B B ncs G.2.2.2.2.1 G.2.2.2.2.2.1 s := hX s C.2.2.2.2.2.2.2.2.2.2.2.2.2.2
        have hz : ∀ t : State, s.vm.Alike t.vm → H.size ≤ t.heap.size → (∀ q : Nat, q < H.size → t.heap[q]? = H[q]?) → zy_XC P G X (some (.retAddr (n + 1)), (300000, h.2), sl + 6) cls s t := fun t _ h1 h2 => by
          obtain ⟨b1, b9, b2, b3, b4⟩ := hh
          refine ⟨n, rfl, hXn, Nat.le_trans b1 b9, Nat.le_refl _, fun q => absurd q (Nat.lt_irrefl _), fun i a hi => ?_, fun q hq2 => by rw [h2 q (by omega)]; exact b4 q hq2⟩
          obtain ⟨c1, c2⟩ := b3 i a hi
          exact ⟨by show i < 300000; omega, zx_at_kept c2 (h2 _ (zx_at_lt c2))⟩
        exact vx_throw0 (A := fun a => G.2.2.2.2.1 ≤ a) (names := names) (cls := cls) (own := M.1.cls) (ik := ik) (ic := ic) C.1 C.2.1 hlt C.2.2.2.2.1 hcls hnames (C.2.2.2.2.2.1 _ hk) (C.2.2.2.2.2.1 _ hini)
          (fun w hw => (hat w hw).elim (fun q => C.2.2.2.2.2.1 _ q) (fun q => va_tabs (hXs.1 w q).2.1 rfl (hXs.1 w q).2.2)) hgood (vx_Zq.kept hXs.2.1.1 hold) (vx_Zq.kept hXs.2.1.2 hold) hS (g1.1.trans C.2.2.2.1.symm) d0 d3 d4 d7
          (fun x hx => by rw [hq.1] at hx; exact absurd hx List.not_mem_nil) (by show _ < d + 1; omega) (by show 0 + _ ≤ 60 * d + 20; omega) (by show _ + 1 ≤ 300000 - k0; omega) (by show _ + 6 ≤ sl + 6 - s0; omega) C.2.2.2.2.2.2.1 hz hl (by show _ + 1 ≤ 300000 - k0; omega) (by show _ + 6 ≤ sl + 6 - s0; omega) T hT Y
      · exact zy_triv (fun t h => absurd h hq)
  · cases hf
/-- a method's run that may end by a throw -/
noncomputable def zy_met (X : List String) (P : zx_P) (G : zx_G) (d2 : Nat) (M : zx_M) (as : List Value) (h : zx_H) (sl : Nat) (res : zx_T) : Prop :=
  h.1 ≤ res.2.1.1 ∧ sl ≤ res.2.2 ∧ vx_Met G.1 M.1 (zx_ws P M) (zx_rm d2 (res.2.1.1 - h.1) (res.2.2 - sl)) (zx_pc P G as h) (zx_q P G res) (zy_XC P G X res) (res.2.1.1 - h.1) (res.2.2 - sl) (fun a => G.2.2.2.2.1 ≤ a)
theorem zy_entry {X : List String} {P : zx_P} {G : zx_G} {M : zx_M} {d : Nat} {as : List Value} {h : zx_H} {sl : Nat} {res : zx_T} (hm : zx_mok P M) (ha : zx_cats as ≤ M.2.2.1) (h1 : h.1 < 300000) (hw : zx_w P G M (zy_EX X P G h.1 sl res) d h.1 sl res 0 (lv_args 0 as) [] h sl) :
    vx_Met G.1 M.1 (zx_ws P M) (zx_rm d (res.2.1.1 - h.1) (res.2.2 - sl)) (zx_pc P G as h) (zx_q P G res) (zy_XC P G X res) (res.2.1.1 - h.1) (res.2.2 - sl) (fun a => G.2.2.2.2.1 ≤ a) := by
  refine vx_ofW (cc := M.2.1) (maxL := M.2.2.1) (ret := M.2.2.2.1) hm.1 rfl ?_
  intro p e s m args below meth c s₁ B hml ht hv
  obtain ⟨⟨cs, hcs, rfl⟩, hh, hK, hx⟩ := hv
  rw [lg_entry_eq]
  have h9 := hw p e s m cs.toArray below meth c ⟨B.exec, B.bytes, B.returns, hml, findClass_of_methodNamed B.named, fun w hw => atoms_spec (ws := zx_ws P M) B.pre w (List.mem_cons_of_mem _ hw), B.notSynchronized, hK, fun q => (name_of_methodNamed B.named B.method).1.trans q, hx⟩ s.heap [] _ (lv_args 0 cs) [] hh (fun q hq => absurd hq List.not_mem_nil) (lv_entry cs (by rw [zx_lg_len, ← zx_cats_vs hcs]; exact ha)) (zx_lv_args 0 hcs) trivial (Nat.le_refl _) (Nat.le_refl _)
  rw [Nat.sub_self, Nat.sub_self] at h9
  have hb := hh.2.2.1 h1
  exact zx_Wmono (fun t q => q ⟨List.eq_nil_iff_forall_not_mem.mpr ht, by omega⟩) h9
noncomputable def zy_call0 (P : zx_P) (f d : Nat) (M : zx_M) (thr : List (Nat × zx_F)) (as : List Value) (h : zx_H) (sl : Nat) : zx_R := match Nat.blt h.1 300000 && Nat.ble (zx_cats as) M.2.2.1 with
  | true => zx_run P.2.2.2.1 (fun _ _ _ _ _ => none) f d (thr ++ M.2.2.2.2) 0 (lv_args 0 as) [] h sl
  | false => none
theorem zy_nomm {P : zx_P} {G : zx_G} : zx_mem P G (fun _ _ _ _ _ => none) := fun _ _ _ _ _ _ h => nomatch h
theorem zy_call0_ok {X : List String} {P : zx_P} {G : zx_G} {f d : Nat} {M : zx_M} {thr : List (Nat × zx_F)} {as : List Value} {h : zx_H} {sl : Nat} {r : zx_T} (hok : zx_all P G) (hm : zx_mok P M) (hM : ∀ q ∈ M.2.2.2.2, zx_ok P G M q.1 q.2) (ht : ∀ (k0 s0 : Nat) (res : zx_T), ∀ q ∈ thr, zx_okF P G M (zy_EX X P G k0 s0 res) d k0 s0 res q.1 q.2)
    (hr : zy_call0 P f d M thr as h sl = some r) : zy_met X P G d M as h sl r := by
  unfold zy_call0 at hr
  split at hr
  · next e =>
    simp only [Bool.and_eq_true] at e
    obtain ⟨a1, a2, a3⟩ := zx_runE_ok hok zy_nomm f d M _ (zy_EX X P G h.1 sl r) h.1 sl 0 _ _ h sl r (fun q hq => (List.mem_append.mp hq).elim (fun z => ht _ _ _ q z) (fun z => hM q z _ _ _ _ _)) zy_EX_EE hr
    exact ⟨a1, a2, zy_entry hm (Nat.le_of_ble_eq_true e.2) (Nat.le_of_ble_eq_true e.1) a3⟩
  · cases hr
/-- what a helper owes -/
noncomputable def zy_EH (hh : List (Nat × Nat × Nat × Nat)) (P : zx_P) (G : zx_G) (k0 s0 : Nat) (res : zx_T) : zx_E := fun _ _ s _ args below _ c t => c.exceptionTable.toList = tableOf hh → vx_MQ below (zx_q P G res) (fun _ _ _ => False) args s (res.2.1.1 - k0) (res.2.2 - s0) (fun a => G.2.2.2.2.1 ≤ a) t
theorem zy_EH_EE {hh : List (Nat × Nat × Nat × Nat)} {P : zx_P} {G : zx_G} {k0 s0 : Nat} {res : zx_T} : zx_EE P G (zy_EH hh P G k0 s0 res) k0 s0 res := fun _ _ _ _ _ _ _ _ _ h _ => by
  obtain ⟨o, b1, b2, b3, b4⟩ := h
  exact ⟨o, b1, b2, Or.inl ⟨b3, b4⟩⟩
noncomputable def zy_tq (v : Option Value) : Option Nat := match v with
  | some (.retAddr k) => match k with
    | 0 => none
    | q + 1 => some q
  | _ => none
theorem zy_tq_in {v : Option Value} {q : Nat} (h : zy_tq v = some q) : v = some (.retAddr (q + 1)) := by
  unfold zy_tq at h
  split at h
  · split at h
    · cases h
    · cases h
      rfl
  · cases h
theorem zy_tq_no {v : Option Value} {n : Nat} (h : zy_tq v = none) : v ≠ some (.retAddr (n + 1)) := fun e => by
  rw [e] at h
  exact nomatch h
/-- caught at a place, by its table -/
noncomputable def zy_cat (P : zx_P) (G : zx_G) (M : zx_M) (hh : List (Nat × Nat × Nat × Nat)) (pc : Nat) (E : String) (t : Nat) : Prop :=
  ∀ (p : Program) (l : Launch) (e : Env) (R : Room) (s : State) (m : MethodId) (args : Array Value) (below : List Frame) (meth : Method) (c : Code), zx_c P G M p s m args meth c → c.exceptionTable.toList = tableOf hh →
    ∀ (H : Heap) (locs : List Loc) (cells slots : Nat) (Q : State → Prop) (ls : Array Slot) (rest : List Value) (ce : Cell) (a : Addr), H[a]? = some ce → ce.vm = .none → s.vm.findClass E = some ce.cls → W p l e R s m args below meth c H locs cells slots Q (F0 m t ls [.ref a]) → vx_W p l e R s m args below meth c H locs cells slots Q (F0 m pc ls rest) a
noncomputable def zy_cc (run : List Value → zx_H → Nat → zx_R) (n ci : Nat) (hp : Nat → Option Nat) (npc : Nat) : zx_F := fun _ L st h sl kk => zx_take n st [] (fun as r => match zx_okV ci as h && Nat.ble (zx_cats r) 8 with
  | true => match run as h sl with
    | some (v, h2, s2) => match zy_tq v with
      | some q => match hp q with
        | some t => kk t L [.retAddr 0] h2 s2
        | none => none
      | none => kk npc L (v.toList ++ r) h2 s2
    | none => none
  | false => none)
theorem zy_cc_ok {X : List String} {P : zx_P} {G : zx_G} {M M2 : zx_M} {hh : List (Nat × Nat × Nat × Nat)} {d d2 k0 s0 pc n index ci : Nat} {res : zx_T} {r : vw_C} {run : List Value → zx_H → Nat → zx_R} {hp : Nat → Option Nat} (hd2 : d2 < d) (hci : P.1[ci]? = some r) (h2 : zx_mok P M2) (hg : P.2.2.1.all goodWord = true) (hl : Cond.methodLink M.1.cls index M2.1 ∈ P.2.2.1) (hin : Cond.instanceMethod M2.1 ∈ P.2.2.1) (hse : Cond.selects r.1 M2.1 M2.1 ∈ P.2.2.1) (hdn : (parseMethodDescriptor M2.1.desc).map (fun d => d.parameters.length) = some n) (hd : decode M.2.1 pc = .ok (.invokevirtual index, 3))
    (hrun : ∀ as h sl rr, run as h sl = some rr → zy_met X P G d2 M2 as h sl rr) (hcat : ∀ q t, hp q = some t → ∀ E, X[q]? = some E → zy_cat P G M hh pc E t) : zx_okF P G M (zy_EH hh P G k0 s0 res) d k0 s0 res pc (zy_cc run (n + 1) ci hp (pc + 3)) := by
  intro rec k L st h sl hE hr _ hk
  unfold zy_cc at hr
  obtain ⟨as, r9, hn, hst, hr2⟩ := zx_take_in hr
  clear hr
  have hr := hr2
  clear hr2
  subst hst
  rw [List.append_nil] at hr
  cases e0 : zx_okV ci as h && Nat.ble (zx_cats r9) 8 with
  | false => rw [e0] at hr; exact nomatch hr
  | true =>
    rw [e0] at hr
    dsimp only at hr
    simp only [Bool.and_eq_true] at e0
    cases e1 : run as h sl with
    | none => rw [e1] at hr; exact nomatch hr
    | some z =>
      rw [e1] at hr
      obtain ⟨v, h3, s3⟩ := z
      dsimp only at hr
      obtain ⟨m1, m2, hMet⟩ := hrun as h sl _ e1
      dsimp only at m1 m2 hMet
      have fin : ∀ (hb : h3.1 ≤ res.2.1.1 ∧ s3 ≤ res.2.2), (∀ (p : Program) (e : Env) (s : State) (m : MethodId) (args : Array Value) (below : List Frame) (meth : Method) (c : Code), zx_c P G M p s m args meth c → c.exceptionTable.toList = tableOf hh → ∀ (H : Heap) (locs : List Loc) (ls : Array Slot) (CL : zx_L) (cr : List Value) (Rv : Option Value → State → Prop), True → True) → True := fun _ _ => trivial
      clear fin
      have start : ∀ (hb : h3.1 ≤ res.2.1.1 ∧ s3 ≤ res.2.2) (p : Program) (e : Env) (s : State) (m : MethodId) (args : Array Value) (below : List Frame) (meth : Method) (c : Code) (C : zx_c P G M p s m args meth c) (H : Heap) (locs : List Loc) (ls : Array Slot) (CL : zx_L) (c1 cr : List Value), zx_hp P G h H → lv_has ls M.2.2.1 CL → zx_vs G.2.2.2.1 as c1.reverse → zx_vs G.2.2.2.1 r9 cr → k0 ≤ h.1 → s0 ≤ sl →
          ∃ av, vx_Run p G.1 e (zx_rm d (res.2.1.1 - k0) (res.2.2 - s0)) s m args below meth c H locs (h.1 - k0) (sl - s0) (h3.1 - h.1) (s3 - sl) (F0 m pc ls (c1 ++ cr)) cr (zx_q P G (v, h3, s3) av) (zy_XC P G X (v, h3, s3)) (fun a => G.2.2.2.2.1 ≤ a) := by
        intro hb p e s m args below meth c C H locs ls CL c1 cr hh9 g1 hcas hcr hk0 hs0
        have hml := h2.2.2.2.1
        have hlen := (zx_vs_len hcas).symm.trans hn
        obtain ⟨b, As, hAs, hrecv⟩ := zx_okV_in C hh9 hci e0.1 hcas
        have hpre : PreS s H (zx_pc P G as h) c1.reverse := ⟨zx_blind, fun U hU hW => ⟨⟨_, hcas, rfl⟩, by rw [hU]; exact hh9, va_K.moved hW.alike C.2.2.2.2.2.2.2.1, zx_x_moved hW C.2.2.2.2.2.2.2.2.2⟩⟩
        rw [hAs] at hpre hlen
        have hc1 : c1 = (Value.ref b :: As).reverse := by rw [← hAs, List.reverse_reverse]
        rw [hc1]
        obtain ⟨hx, hb9, -, hml9, hown, hts, -⟩ := C
        exact ⟨_, vx_runV (nL := M.2.2.1) (C := r.1) (n := n) ⟨hx, hb9, hml9, hown, hts⟩ hMet ⟨callB_of n hts (zx_goodIn hg h2) rfl rfl rfl (hts _ h2.2.2.1) (hts _ hl) ⟨h2.2.2.2.2.1, h2.2.2.2.2.2, hdn⟩ ⟨by show d2 + 1 + 1 ≤ d + 1; omega, by show 8 + (M2.2.2.1 + 11) + (60 * d2 + 20) ≤ 60 * d + 20; omega⟩, hts _ hin, hts _ hse⟩ ⟨hpre.1, hrecv, hpre.2⟩ rfl (Nat.succ.inj hlen) g1.1 (by show (Value.ref b :: As).reverse ++ cr = _; simp) (by rw [zx_cats_sum]; show 0 + _ ≤ 8; rw [← zx_cats_vs hcr]; have := Nat.le_of_ble_eq_true e0.2; omega) hd ⟨by show _ ≤ res.2.1.1 - k0; omega, by show _ ≤ res.2.2 - s0; omega⟩⟩
      cases e2 : zy_tq v with
      | some q =>
        rw [e2] at hr
        dsimp only at hr
        cases e3 : hp q with
        | none => rw [e3] at hr; exact nomatch hr
        | some t =>
          rw [e3] at hr
          dsimp only at hr
          obtain ⟨b1, b2, b3⟩ := hk _ _ _ _ _ hr
          have hv := zy_tq_in e2
          refine ⟨Nat.le_trans m1 b1, Nat.le_trans m2 b2, fun p e s m args below meth c C H locs ls CL cst hh9 hlo g1 g2 g3 hk0 hs0 => ?_⟩
          obtain ⟨c1, cr, rfl, hc1, hcr⟩ := zx_vs_app g3
          have hcas : zx_vs G.2.2.2.1 as c1.reverse := by
            have := zx_vs_rev hc1
            rwa [List.reverse_reverse] at this
          by_cases ht : c.exceptionTable.toList = tableOf hh
          · obtain ⟨av, hR⟩ := start ⟨b1, b2⟩ p e s m args below meth c C H locs ls CL c1 cr hh9 g1 hcas hcr hk0 hs0
            intro T hT Y
            rcases hR T hT Y with ⟨v2, st₀, t2, T', L2, h0, X', hL, e4, e5, ⟨⟨cv, hcv, ho⟩, hh1⟩, st⟩ | ⟨a, st₀, t2, T', L2, E, ce, h0, X', hL, e4, e5, ⟨nq, hq1, hq2, hh1⟩, hce, hcv, hcl, st⟩
            · dsimp only at ho
              rw [hv] at ho
              cases cv with
              | none => exact absurd ho (fun z => z)
              | some w => exact absurd ho.1 (Nat.succ_ne_zero _)
            · dsimp only at hq1
              rw [hv] at hq1
              obtain rfl : nq = q := by
                have := Value.retAddr.inj (Option.some.inj hq1)
                omega
              have h9 := b3 p e s m args below meth c C T'.heap (locs ++ L2) ls CL [.ref a] (by rw [e4]; exact hh1) (fun q hq => (List.mem_append.mp hq).elim (hlo q) (hL q)) g1 g2 ⟨⟨rfl, Or.inr ⟨_, rfl⟩⟩, trivial⟩ (Nat.le_trans hk0 m1) (Nat.le_trans hs0 m2)
              rw [show h3.1 - k0 = h.1 - k0 + (h3.1 - h.1) by omega, show s3 - s0 = sl - s0 + (s3 - sl) by omega] at h9
              obtain ⟨t9, x1, x2⟩ := hcat _ t e3 E hq2 p G.1 e _ s m args below meth c C ht T'.heap (locs ++ L2) _ _ _ ls cr ce a (by rw [e4]; exact hce) hcv hcl h9 T' rfl X'
              exact ⟨t9, st.trans x1, x2⟩
          · exact zy_triv (fun t h => absurd h ht)
      | none =>
        rw [e2] at hr
        dsimp only at hr
        obtain ⟨b1, b2, b3⟩ := hk _ _ _ _ _ hr
        refine ⟨Nat.le_trans m1 b1, Nat.le_trans m2 b2, fun p e s m args below meth c C H locs ls CL cst hh9 hlo g1 g2 g3 hk0 hs0 => ?_⟩
        obtain ⟨c1, cr, rfl, hc1, hcr⟩ := zx_vs_app g3
        have hcas : zx_vs G.2.2.2.1 as c1.reverse := by
          have := zx_vs_rev hc1
          rwa [List.reverse_reverse] at this
        obtain ⟨av, hR⟩ := start ⟨b1, b2⟩ p e s m args below meth c C H locs ls CL c1 cr hh9 g1 hcas hcr hk0 hs0
        intro T hT Y
        rcases hR T hT Y with ⟨v2, st₀, t2, T', L2, h0, X', hL, e4, e5, ⟨⟨cv, hcv, ho⟩, hh1⟩, st⟩ | ⟨a, st₀, t2, T', L2, E, ce, h0, X', hL, e4, e5, ⟨nq, hq1, hq2, hh1⟩, hce, hcv, hcl, st⟩
        · cases hcv
          have h9 := b3 p e s m args below meth c C T'.heap (locs ++ L2) ls CL (v2.toList ++ cr) (by rw [e4]; exact hh1) (fun q hq => (List.mem_append.mp hq).elim (hlo q) (hL q)) g1 g2 (zx_o_vs ho hcr) (Nat.le_trans hk0 m1) (Nat.le_trans hs0 m2)
          rw [show h3.1 - k0 = h.1 - k0 + (h3.1 - h.1) by omega, show s3 - s0 = sl - s0 + (s3 - sl) by omega] at h9
          obtain ⟨t9, x1, x2⟩ := h9 T' rfl X'
          exact ⟨t9, st t9 x1, x2⟩
        · exact absurd hq1 (zy_tq_no e2)
/-- an object that isn't looked at is kept -/
noncomputable def zx_soX (i npc : Nat) : zx_F := fun _ L st h sl k => match st with
  | .retAddr n :: r => zx_st false i L (fun L2 => k npc ((i, .retAddr n) :: L2) r h sl)
  | _ => none
theorem zx_astoreX_ok {P : zx_P} {G : zx_G} {M : zx_M} {pc : Nat} {i : Nat} (hd : decode M.2.1 pc = .ok (.astore i, 2)) (hn : i < M.2.2.1) : zx_ok P G M pc (zx_soX i (pc + 2)) := by
  refine zx_pure (fun rec k L st h sl res hr => ?_)
  unfold zx_soX at hr
  split at hr
  · next x r =>
    rw [zx_st_eq] at hr
    refine ⟨_, _, _, hr, fun p l e R s m args below meth c H locs cells slots Q C ls CL cst g1 g2 g3 kk => ?_⟩
    obtain ⟨v, vs, rfl, hv, hvs⟩ := zx_vs_cons g3
    have hv2 := hv
    obtain ⟨-, rfl | ⟨a, rfl⟩⟩ := hv
    · exact lv_astoreN C.1 C.2.1 hd g1 hn rfl (fun ls2 hl2 => kk ls2 ((i, .null) :: CL.filter (zx_cv false i)) vs (by rw [zx_cv_i] at hl2; exact hl2) ⟨⟨rfl, hv2⟩, zx_lv_filter false i g2⟩ hvs)
    · exact lv_astore C.1 C.2.1 hd g1 hn rfl (fun ls2 hl2 => kk ls2 ((i, .ref a) :: CL.filter (zx_cv false i)) vs (by rw [zx_cv_i] at hl2; exact hl2) ⟨⟨rfl, hv2⟩, zx_lv_filter false i g2⟩ hvs)
  · cases hr
theorem zx_astoreX_n_ok {P : zx_P} {G : zx_G} {M : zx_M} {pc : Nat} {i : Nat} {kn : Fin 4} (hd : decode M.2.1 pc = .ok (.astore_n kn, 1)) (hi : (kn : Nat) = i) (hn : i < M.2.2.1) : zx_ok P G M pc (zx_soX i (pc + 1)) := by
  refine zx_pure (fun rec k L st h sl res hr => ?_)
  unfold zx_soX at hr
  split at hr
  · next x r =>
    rw [zx_st_eq] at hr
    refine ⟨_, _, _, hr, fun p l e R s m args below meth c H locs cells slots Q C ls CL cst g1 g2 g3 kk => ?_⟩
    obtain ⟨v, vs, rfl, hv, hvs⟩ := zx_vs_cons g3
    have hv2 := hv
    obtain ⟨-, rfl | ⟨a, rfl⟩⟩ := hv
    · exact lv_astore_nN C.1 C.2.1 hd hi g1 hn rfl (fun ls2 hl2 => kk ls2 ((i, .null) :: CL.filter (zx_cv false i)) vs (by rw [zx_cv_i] at hl2; exact hl2) ⟨⟨rfl, hv2⟩, zx_lv_filter false i g2⟩ hvs)
    · exact lv_astore_n C.1 C.2.1 hd hi g1 hn rfl (fun ls2 hl2 => kk ls2 ((i, .ref a) :: CL.filter (zx_cv false i)) vs (by rw [zx_cv_i] at hl2; exact hl2) ⟨⟨rfl, hv2⟩, zx_lv_filter false i g2⟩ hvs)
  · cases hr
-- ===== the helpers, as the law calls them =====
noncomputable def zy_hmet (hh : List (Nat × Nat × Nat × Nat)) (P : zx_P) (G : zx_G) (d2 : Nat) (M : zx_M) (as : List Value) (h : zx_H) (sl : Nat) (res : zx_T) : Prop :=
  h.1 ≤ res.2.1.1 ∧ sl ≤ res.2.2 ∧ vx_Met G.1 M.1 (Cond.codeWith M.1 M.2.1 M.2.2.1 M.2.2.2.1 hh :: P.2.2.1) (zx_rm d2 (res.2.1.1 - h.1) (res.2.2 - sl)) (zx_pc P G as h) (zx_q P G res) (fun _ _ _ => False) (res.2.1.1 - h.1) (res.2.2 - sl) (fun a => G.2.2.2.2.1 ≤ a)
noncomputable def zy_hcall (P : zx_P) (f d : Nat) (M : zx_M) (xs : List (Nat × zx_F)) (as : List Value) (h : zx_H) (sl : Nat) : zx_R := match Nat.ble (zx_cats as) M.2.2.1 with
  | true => zx_run P.2.2.2.1 (fun _ _ _ _ _ => none) f d (xs ++ M.2.2.2.2) 0 (lv_args 0 as) [] h sl
  | false => none
theorem zy_hcall_ok {hh : List (Nat × Nat × Nat × Nat)} {P : zx_P} {G : zx_G} {f d : Nat} {M : zx_M} {xs : List (Nat × zx_F)} {as : List Value} {h : zx_H} {sl : Nat} {r : zx_T} (hok : zx_all P G) (hy : plainName M.1.cls = true) (hM : ∀ q ∈ M.2.2.2.2, zx_ok P G M q.1 q.2) (hx : ∀ (k0 s0 : Nat) (res : zx_T), ∀ q ∈ xs, zx_okF P G M (zy_EH hh P G k0 s0 res) d k0 s0 res q.1 q.2)
    (hr : zy_hcall P f d M xs as h sl = some r) : zy_hmet hh P G d M as h sl r := by
  unfold zy_hcall at hr
  split at hr
  · next e9 =>
    obtain ⟨a1, a2, a3⟩ := zx_runE_ok hok zy_nomm f d M _ (zy_EH hh P G h.1 sl r) h.1 sl 0 _ _ h sl r (fun q hq => (List.mem_append.mp hq).elim (fun z => hx _ _ _ q z) (fun z => hM q z _ _ _ _ _)) zy_EH_EE hr
    refine ⟨a1, a2, vx_ofWH (cc := M.2.1) (maxL := M.2.2.1) (ret := M.2.2.2.1) (hh := hh) hy rfl ?_⟩
    intro p e s m args below meth c s₁ B hml hv
    have ht : c.exceptionTable.toList = tableOf hh := vx_table (x := M.1) B (atoms_spec (ws := Cond.codeWith M.1 M.2.1 M.2.2.1 M.2.2.2.1 hh :: P.2.2.1) B.pre _ List.mem_cons_self)
    obtain ⟨⟨cs, hcs, rfl⟩, hh9, hK, hx⟩ := hv
    rw [lg_entry_eq]
    have h9 := a3 p e s m cs.toArray below meth c ⟨B.exec, B.bytes, B.returns, hml, findClass_of_methodNamed B.named, fun w hw => atoms_spec (ws := Cond.codeWith M.1 M.2.1 M.2.2.1 M.2.2.2.1 hh :: P.2.2.1) B.pre w (List.mem_cons_of_mem _ hw), B.notSynchronized, hK, fun q => (name_of_methodNamed B.named B.method).1.trans q, hx⟩ s.heap [] _ (lv_args 0 cs) [] hh9 (fun q hq => absurd hq List.not_mem_nil) (lv_entry cs (by rw [zx_lg_len, ← zx_cats_vs hcs]; exact Nat.le_of_ble_eq_true e9)) (zx_lv_args 0 hcs) trivial (Nat.le_refl _) (Nat.le_refl _)
    rw [Nat.sub_self, Nat.sub_self] at h9
    exact zx_Wmono (fun t q => q ht) h9
  · cases hr
noncomputable def zy_hc (run : List Value → zx_H → Nat → zx_R) (n npc : Nat) : zx_F := fun _ L st h sl kk => zx_take n st [] (fun as r => match Nat.ble (zx_cats r) 8 with
  | true => match run as h sl with
    | some (v, h2, s2) => kk npc L (v.toList ++ r) h2 s2
    | none => none
  | false => none)
theorem zy_hc_ok {P : zx_P} {G : zx_G} {M M2 : zx_M} {E : zx_E} {hh : List (Nat × Nat × Nat × Nat)} {d d2 k0 s0 pc n index : Nat} {res : zx_T} {run : List Value → zx_H → Nat → zx_R} (hd2 : d2 < d) (hm : M2.2.2.1 ≤ 41) (hg : P.2.2.1.all goodWord = true) (hco : Cond.codeWith M2.1 M2.2.1 M2.2.2.1 M2.2.2.2.1 hh ∈ P.2.2.1) (hini : Cond.initialized M2.1.cls ∈ P.2.2.1) (hl : Cond.methodLink M.1.cls index M2.1 ∈ P.2.2.1) (hst : Cond.static M2.1 ∈ P.2.2.1) (hnm : M2.1.cls ≠ "java/lang/invoke/MethodHandle" ∧ M2.1.cls ≠ "java/lang/invoke/VarHandle") (hdn : (parseMethodDescriptor M2.1.desc).map (fun d => d.parameters.length) = some n) (hd : decode M.2.1 pc = .ok (.invokestatic index, 3))
    (hrun : ∀ as h sl rr, run as h sl = some rr → zy_hmet hh P G d2 M2 as h sl rr) : zx_okF P G M E d k0 s0 res pc (zy_hc run n (pc + 3)) := by
  intro rec k L st h sl hE hr _ hk
  unfold zy_hc at hr
  obtain ⟨as, r9, hn, hst9, hr2⟩ := zx_take_in hr
  clear hr
  have hr := hr2
  clear hr2
  subst hst9
  rw [List.append_nil] at hr
  cases e0 : Nat.ble (zx_cats r9) 8 with
  | false => rw [e0] at hr; exact nomatch hr
  | true =>
    rw [e0] at hr
    dsimp only at hr
    cases e1 : run as h sl with
    | none => rw [e1] at hr; exact nomatch hr
    | some z =>
      rw [e1] at hr
      obtain ⟨v, h3, s3⟩ := z
      dsimp only at hr
      obtain ⟨m1, m2, hMet⟩ := hrun as h sl _ e1
      dsimp only at m1 m2 hMet
      obtain ⟨b1, b2, b3⟩ := hk _ _ _ _ _ hr
      refine ⟨Nat.le_trans m1 b1, Nat.le_trans m2 b2, fun p e s m args below meth c C H locs ls CL cst hh9 hlo g1 g2 g3 hk0 hs0 => ?_⟩
      obtain ⟨c1, cr, rfl, hc1, hcr⟩ := zx_vs_app g3
      have hcas : zx_vs G.2.2.2.1 as c1.reverse := by
        have := zx_vs_rev hc1
        rwa [List.reverse_reverse] at this
      have hpre : PreS s H (zx_pc P G as h) c1.reverse := ⟨zx_blind, fun U hU hW => ⟨⟨_, hcas, rfl⟩, by rw [hU]; exact hh9, va_K.moved hW.alike C.2.2.2.2.2.2.2.1, zx_x_moved hW C.2.2.2.2.2.2.2.2.2⟩⟩
      have hG : GoodIn P.2.2.1 (va_wsS M.1.cls index M2.1 (Cond.codeWith M2.1 M2.2.1 M2.2.2.1 M2.2.2.2.1 hh :: P.2.2.1)) := fun w hw => by
        have hm9 : w ∈ P.2.2.1 := by
          unfold va_wsS at hw
          rcases List.mem_append.mp hw with q | q
          · rcases List.mem_cons.mp q with q | q
            · rw [q]; exact hl
            · rcases List.mem_cons.mp q with q | q
              · rw [q]; exact hst
              · rw [List.mem_singleton.mp q]; exact hini
          · rcases List.mem_cons.mp q with q | q
            · rw [q]; exact hco
            · exact q
        exact ⟨hm9, good_of_word (List.all_eq_true.mp hg w hm9)⟩
      have C9 := C
      obtain ⟨hx, hb9, -, hml9, hown, hts, -⟩ := C9
      have hR := vx_runSX (nL := M.2.2.1) (hh := hh) (cells := h.1 - k0) (slots := sl - s0) (locs := locs) (below := below) (meth := meth) (e := e) (l := G.1) (R := zx_rm d (res.2.1.1 - k0) (res.2.2 - s0)) (g := F0 m pc ls (c1 ++ cr)) (rest := cr) ⟨hx, hb9, hml9, hown, hts⟩ hMet (vx_cwSW n hts hG rfl rfl rfl ⟨hnm.1, hnm.2, hdn⟩ ⟨by show d2 + 1 + 1 ≤ d + 1; omega, by show 8 + (M2.2.2.1 + 11) + (60 * d2 + 20) ≤ 60 * d + 20; omega⟩) hpre rfl ((zx_vs_len hcas).symm.trans hn) g1.1 (by rw [List.reverse_reverse]) (by rw [zx_cats_sum]; show 0 + _ ≤ 8; rw [← zx_cats_vs hcr]; have := Nat.le_of_ble_eq_true e0; omega) hd ⟨by show _ ≤ res.2.1.1 - k0; omega, by show _ ≤ res.2.2 - s0; omega⟩
      intro T hT Y
      rcases hR T hT Y with ⟨v2, st₀, t2, T', L2, h0, X', hL, e4, e5, ⟨⟨cv, hcv, ho⟩, hh1⟩, st⟩ | ⟨a, st₀, t2, T', L2, E, ce, h0, X', hL, e4, e5, hF, hce, hcv, hcl, st⟩
      · cases hcv
        have h9 := b3 p e s m args below meth c C T'.heap (locs ++ L2) ls CL (v2.toList ++ cr) (by rw [e4]; exact hh1) (fun q hq => (List.mem_append.mp hq).elim (hlo q) (hL q)) g1 g2 (zx_o_vs ho hcr) (Nat.le_trans hk0 m1) (Nat.le_trans hs0 m2)
        rw [show h3.1 - k0 = h.1 - k0 + (h3.1 - h.1) by omega, show s3 - s0 = sl - s0 + (s3 - sl) by omega] at h9
        obtain ⟨t9, x1, x2⟩ := h9 T' rfl X'
        exact ⟨t9, st t9 x1, x2⟩
      · exact absurd hF (fun z => z)
