/-! ===== texts; names through wider numbers; places that are not known ===== -/
noncomputable abbrev zx_X : Type := Nat × Nat × String × List (String × Nat)
noncomputable def zx_tx (T : List zx_X) (i : Nat) : Option zx_X := match zx_nth T (i - 300000) with
  | none => none
  | some z => match Nat.beq z.1 i with
    | true => some z
    | false => none
theorem zx_tx_in {T : List zx_X} {i : Nat} {z : zx_X} (h : zx_tx T i = some z) : ∃ j : Nat, T[j]? = some z ∧ z.1 = i := by
  unfold zx_tx at h
  rw [zx_nth_eq] at h
  cases e : T[i - 300000]? with
  | none => rw [e] at h; exact nomatch h
  | some y =>
    rw [e] at h
    dsimp only at h
    cases e2 : Nat.beq y.1 i with
    | false => rw [e2] at h; exact nomatch h
    | true =>
      rw [e2] at h
      cases h
      exact ⟨_, e, Nat.eq_of_beq_eq_true e2⟩
noncomputable def zx_ldcs (i npc : Nat) : zx_F := fun _ L st h sl k => k npc L (.ref i :: st) h sl
theorem zx_ldcs_ok {P : zx_P} {G : zx_G} {M : zx_M} {pc j i bt index : Nat} {tx : String} {l : List (String × Nat)} (hz : P.2.2.2.2.2.2.1[j]? = some (i, bt, tx, l)) (hl : (M.1.cls, index) ∈ l) (hd : decode M.2.1 pc = .ok (.ldc index, 2)) : zx_ok P G M pc (zx_ldcs i (pc + 2)) := by
  refine zx_read (fun rec kk L st h sl res hr => ⟨_, _, hr, fun p lz e R s m args below meth c H locs cells slots Q X hh ls cst g3 kk => ?_⟩)
  have hR : vk_R M.1.cls index tx (G.2.2.2.1.1 i) s := (X.2.2.2.2.2.2.2.2.2.2.1 j _ hz).2.2.2.2 _ hl
  exact va_ldcS X.1 X.2.1 X.2.2.2.2.1 hR hd (kk (.ref _ :: cst) ⟨rfl, g3⟩)
/-- a text's row of bytes, or its coder -/
noncomputable def zx_gett (T : List zx_X) (g : zx_X → Value) (npc : Nat) : zx_F := fun _ L st h sl kk => match st with
  | .ref i :: r => match zx_tx T i with
    | none => none
    | some z => kk npc L (g z :: r) h sl
  | _ => none
noncomputable def zx_tv (z : zx_X) : Value := .ref z.2.1
noncomputable def zx_tc (_ : zx_X) : Value := .int 0
theorem zx_gett_ok {P : zx_P} {G : zx_G} {M : zx_M} {pc index : Nat} {n d : String} {g : zx_X → Value} (T : List zx_X) (hT : T = P.2.2.2.2.2.2.1) (hw : Cond.fieldLink M.1.cls index "java/lang/String" n d ∈ P.2.2.1)
    (hg : ∀ (s : State) (j : Nat) (z : zx_X), zx_x P G s → P.2.2.2.2.2.2.1[j]? = some z → ∃ v, zx_v G.2.2.2.1 (g z) v ∧ va_OF "java/lang/String" n d v (G.2.2.2.1.1 z.1) (fun a => G.2.2.2.2.1 ≤ a) s G.2.2.2.2.2.1) (hd : decode M.2.1 pc = .ok (.getfield index, 3)) : zx_ok P G M pc (zx_gett T g (pc + 3)) := by
  subst hT
  refine zx_read (fun rec kk L st h sl res hr => ?_)
  unfold zx_gett at hr
  split at hr
  · next i r =>
    cases e : zx_tx P.2.2.2.2.2.2.1 i with
    | none => rw [e] at hr; exact nomatch hr
    | some z =>
      rw [e] at hr
      dsimp only at hr
      obtain ⟨j, hj, rfl⟩ := zx_tx_in e
      refine ⟨_, _, hr, fun p l e R s m args below meth c H locs cells slots Q X hh ls cst g3 kk => ?_⟩
      obtain ⟨cv, vs, rfl, hv, hvs⟩ := zx_vs_cons g3
      cases hv
      obtain ⟨w, hw1, cf, k, fi, f, cell, h1, h2, h3, h4, h5, h6⟩ := hg s j z X.2.2.2.2.2.2.2.2.2 hj
      exact W.getf X.1 X.2.1 X.2.2.2.2.1 (X.2.2.2.2.2.1 _ hw) h1 h2 (by rw [hh.2.2.2.2 _ (Nat.not_le.mp h6)]; exact h3) h4 (v := w) h5 rfl rfl hd (kk (w :: vs) ⟨hw1, hvs⟩)
  · exact nomatch hr
theorem zx_gettv_ok {P : zx_P} {G : zx_G} {M : zx_M} {pc index : Nat} (T : List zx_X) (hT : T = P.2.2.2.2.2.2.1) (hw : Cond.fieldLink M.1.cls index "java/lang/String" "value" "[B" ∈ P.2.2.1) (hd : decode M.2.1 pc = .ok (.getfield index, 3)) : zx_ok P G M pc (zx_gett T zx_tv (pc + 3)) :=
  zx_gett_ok T hT hw (fun s j z hx hz => ⟨_, rfl, (hx.2.1 j z hz).2.1⟩) hd
theorem zx_gettc_ok {P : zx_P} {G : zx_G} {M : zx_M} {pc index : Nat} (T : List zx_X) (hT : T = P.2.2.2.2.2.2.1) (hw : Cond.fieldLink M.1.cls index "java/lang/String" "coder" "B" ∈ P.2.2.1) (hd : decode M.2.1 pc = .ok (.getfield index, 3)) : zx_ok P G M pc (zx_gett T zx_tc (pc + 3)) :=
  zx_gett_ok T hT hw (fun s j z hx hz => ⟨_, rfl, (hx.2.1 j z hz).2.2.1⟩) hd
noncomputable def zx_okT (T : List zx_X) : List Value → zx_H → Bool := fun as _ => match as with
  | .ref i :: _ => match zx_tx T i with
    | some _ => true
    | none => false
  | _ => false
theorem zx_okT_in {P : zx_P} {G : zx_G} {M : zx_M} {p : Program} {s : State} {m : MethodId} {args : Array Value} {meth : Method} {c : Code} {as cas : List Value} {h : zx_H} {H : Heap} (X : zx_c P G M p s m args meth c) (hh : zx_hp P G h H) (hok : zx_okT P.2.2.2.2.2.2.1 as h = true) (hc : zx_vs G.2.2.2.1 as cas) : ∃ b cas2, cas = .ref b :: cas2 ∧ ∃ cellB : Cell, H[b]? = some cellB ∧ cellB.vm.isStatics = false ∧ s.vm.findClass "java/lang/String" = some cellB.cls := by
  unfold zx_okT at hok
  split at hok
  · next i as2 =>
    cases e0 : zx_tx P.2.2.2.2.2.2.1 i with
    | none => rw [e0] at hok; exact nomatch hok
    | some z =>
      obtain ⟨j, hj, rfl⟩ := zx_tx_in e0
      obtain ⟨v, vs, rfl, h1, h2⟩ := zx_vs_cons hc
      cases h1
      obtain ⟨cell, q1, q2, q3, q4⟩ := (X.2.2.2.2.2.2.2.2.2.2.1 j z hj).2.2.2.1
      exact ⟨_, _, rfl, cell, by rw [hh.2.2.2.2 _ (Nat.not_le.mp q4)]; exact q1, q2, q3⟩
  · exact nomatch hok
theorem zx_invokevirtualT_ok {P : zx_P} {G : zx_G} {M : zx_M} {pc mi n index : Nat} {M2 : zx_M} (T : List zx_X) (hT : T = P.2.2.2.2.2.2.1) (hM2 : P.2.2.2.1[mi]? = some M2) (h2 : zx_mok P M2) (hg : P.2.2.1.all goodWord = true) (hl : Cond.methodLink M.1.cls index M2.1 ∈ P.2.2.1) (hin : Cond.instanceMethod M2.1 ∈ P.2.2.1) (hse : Cond.selects "java/lang/String" M2.1 M2.1 ∈ P.2.2.1) (hdn : (parseMethodDescriptor M2.1.desc).map (fun d => d.parameters.length) = some n) (hd : decode M.2.1 pc = .ok (.invokevirtual index, 3)) : zx_ok P G M pc (zx_call mi (n + 1) (zx_okT T) (pc + 3)) := by
  subst hT
  refine zx_call_ok hM2 h2 hg (fun d d2 p e s m args below meth c H locs cells slots mc ms Mc Ms ls as cas cr h sl r2 X hh hok hd2 hn hcas hls hcr hcel hslo hR hp hMet => ?_)
  have hlen := (zx_vs_len hcas).symm.trans hn
  obtain ⟨b, As, rfl, hrecv⟩ := zx_okT_in X hh hok hcas
  obtain ⟨hx, hb, -, hml, hown, hts, -⟩ := X
  exact ⟨_, va_runV (nL := M.2.2.1) (C := "java/lang/String") ⟨hx, hb, hml, hown, hts⟩ hMet ⟨callB_of n hts (zx_goodIn hg h2) rfl rfl rfl (hts _ h2.2.2.1) (hts _ hl) ⟨h2.2.2.2.2.1, h2.2.2.2.2.2, hdn⟩ hR, hts _ hin, hts _ hse⟩ ⟨hp.1, hrecv, hp.2⟩ rfl (Nat.succ.inj hlen) hls (by show (Value.ref b :: As).reverse ++ cr = _; simp) (by rw [zx_cats_sum]; show 0 + _ ≤ 8; omega) hd ⟨hcel, hslo⟩⟩
-- ===== names through wider numbers =====
noncomputable def zx_ll (D : zx_D) : Prop := ∀ b : UInt32, D.2.2 b.toUInt64 = (D.2.1 b).toInt64
theorem zx_u0 {b : UInt32} (h : b.toUInt64 ≠ 0) : b ≠ 0 := fun e => h (by rw [e]; rfl)
noncomputable def zx_i2lN (npc : Nat) : zx_F := fun _ L st h sl k => match st with
  | .int a :: r => k npc L (zx_l a.toInt64 :: r) h sl
  | .float b :: r => k npc L (.double b.toUInt64 :: r) h sl
  | _ => none
theorem zx_i2lN_ok {P : zx_P} {G : zx_G} {M : zx_M} {pc : Nat} (hll : zx_ll G.2.2.2.1) (hd : decode M.2.1 pc = .ok (.i2l, 1)) : zx_ok P G M pc (zx_i2lN (pc + 1)) := by
  refine zx_pure (fun rec k L st h sl res hr => ?_)
  unfold zx_i2lN at hr
  split at hr
  · next a r =>
    refine ⟨_, _, _, hr, fun p l e R s m args below meth c H locs cells slots Q C ls CL cst g1 g2 g3 kk => ?_⟩
    obtain ⟨v, vs, rfl, hv, hvs⟩ := zx_vs_cons g3
    cases hv
    exact lv_i2l C.1 C.2.1 hd rfl (kk ls CL (.long a.toInt64 :: vs) g1 g2 ⟨by rw [zx_l_eq]; rfl, hvs⟩)
  · next b r =>
    refine ⟨_, _, _, hr, fun p l e R s m args below meth c H locs cells slots Q C ls CL cst g1 g2 g3 kk => ?_⟩
    obtain ⟨v, vs, rfl, hv, hvs⟩ := zx_vs_cons g3
    obtain ⟨x, rfl, hx⟩ := hv
    exact lv_i2l C.1 C.2.1 hd rfl (kk ls CL (.long x.toInt64 :: vs) g1 g2 ⟨⟨_, rfl, fun h0 => by rw [hll b, hx (zx_u0 h0)]⟩, hvs⟩)
  · cases hr
theorem zx_n32 {b : UInt64} (h : Nat.blt b.toNat 4294967296 = true) : b = b.toUInt32.toUInt64 := by
  have h1 : b.toNat < 4294967296 := Nat.le_of_ble_eq_true h
  apply UInt64.toNat_inj.mp
  simp
  omega
noncomputable def zx_l2iN (npc : Nat) : zx_F := fun _ L st h sl k => match st with
  | .long a :: r => k npc L (zx_i a.toInt32 :: r) h sl
  | .double b :: r => match Nat.blt b.toNat 4294967296 with
    | true => k npc L (.float b.toUInt32 :: r) h sl
    | false => k npc L (.float 0 :: r) h sl
  | _ => none
theorem zx_l2iN_ok {P : zx_P} {G : zx_G} {M : zx_M} {pc : Nat} (hll : zx_ll G.2.2.2.1) (hd : decode M.2.1 pc = .ok (.l2i, 1)) : zx_ok P G M pc (zx_l2iN (pc + 1)) := by
  refine zx_pure (fun rec k L st h sl res hr => ?_)
  unfold zx_l2iN at hr
  split at hr
  · next a r =>
    refine ⟨_, _, _, hr, fun p l e R s m args below meth c H locs cells slots Q C ls CL cst g1 g2 g3 kk => ?_⟩
    obtain ⟨v, vs, rfl, hv, hvs⟩ := zx_vs_cons g3
    cases hv
    exact lv_l2i C.1 C.2.1 hd rfl (kk ls CL (.int a.toInt32 :: vs) g1 g2 ⟨by rw [zx_i_eq]; rfl, hvs⟩)
  · next b r =>
    cases e : Nat.blt b.toNat 4294967296 with
    | false =>
      rw [e] at hr
      refine ⟨_, _, _, hr, fun p l e R s m args below meth c H locs cells slots Q C ls CL cst g1 g2 g3 kk => ?_⟩
      obtain ⟨v, vs, rfl, hv, hvs⟩ := zx_vs_cons g3
      obtain ⟨x, rfl, hx⟩ := hv
      exact lv_l2i C.1 C.2.1 hd rfl (kk ls CL (.int x.toInt32 :: vs) g1 g2 ⟨zx_fz _, hvs⟩)
    | true =>
      rw [e] at hr
      have hb := zx_n32 e
      refine ⟨_, _, _, hr, fun p l e R s m args below meth c H locs cells slots Q C ls CL cst g1 g2 g3 kk => ?_⟩
      obtain ⟨v, vs, rfl, hv, hvs⟩ := zx_vs_cons g3
      obtain ⟨x, rfl, hx⟩ := hv
      refine lv_l2i C.1 C.2.1 hd rfl (kk ls CL (.int x.toInt32 :: vs) g1 g2 ⟨⟨_, rfl, fun h0 => ?_⟩, hvs⟩)
      have hb0 : b ≠ 0 := fun q => h0 (by rw [q]; rfl)
      have h9 : G.2.2.2.1.2.2 b = (G.2.2.2.1.2.1 b.toUInt32).toInt64 := by
        have h8 := hll b.toUInt32
        rw [← hb] at h8
        exact h8
      rw [hx hb0, h9]
      simp
  · cases hr
theorem zx_cmpN {x c : Int32} : (x < c → lg_cmp x.toInt64 c.toInt64 = -1) ∧ (¬ x ≤ c → lg_cmp x.toInt64 c.toInt64 = 1) ∧ (¬ x < c → x ≤ c → lg_cmp x.toInt64 c.toInt64 = 0) := by
  have e1 : x.toInt64.toInt = x.toInt := by simp
  have e2 : c.toInt64.toInt = c.toInt := by simp
  unfold lg_cmp
  simp only [gt_iff_lt, Int64.lt_iff_toInt_lt, ← Int64.toInt_inj, e1, e2, Int32.lt_iff_toInt_lt, Int32.le_iff_toInt_le]
  refine ⟨fun h => ?_, fun h => ?_, fun h h2 => ?_⟩
  · rw [if_neg (by omega), if_neg (by omega)]
  · rw [if_pos (by omega)]
  · rw [if_neg (by omega), if_pos (by omega)]
/-- one way or another, by what lies on top -/
noncomputable def zx_or2 (tt : List Value → Bool) (A B : zx_F) : zx_F := fun rec L st h sl k => match tt st with
  | true => A rec L st h sl k
  | false => B rec L st h sl k
theorem zx_or2_ok {P : zx_P} {G : zx_G} {M : zx_M} {pc : Nat} {tt : List Value → Bool} {A B : zx_F} (hA : zx_ok P G M pc A) (hB : zx_ok P G M pc B) : zx_ok P G M pc (zx_or2 tt A B) := by
  intro E d k0 s0 res rec k L st h sl hE hr hrec hk
  unfold zx_or2 at hr
  split at hr
  · exact hA E d k0 s0 res rec k L st h sl hE hr hrec hk
  · exact hB E d k0 s0 res rec k L st h sl hE hr hrec hk
noncomputable def zx_tLD (st : List Value) : Bool := match st with
  | .long _ :: .double _ :: _ => true
  | _ => false
noncomputable def zx_tFI (st : List Value) : Bool := match st with
  | .float _ :: .int _ :: _ => true
  | _ => false
noncomputable def zx_tFR (st : List Value) : Bool := match st with
  | .float _ :: .ref _ :: _ => true
  | _ => false
noncomputable def zx_lcmpA (o : zx_O) (npc : Nat) : zx_F := fun _ L st h sl k => match st with
  | .long c :: .double a :: r => match Nat.blt a.toNat 4294967296 && (Nat.beq c.toInt32.toInt64.toBitVec.toNat c.toBitVec.toNat && !(Nat.beq a.toNat 0)) with
    | true => match zx_askB o 1 false a.toUInt32 c.toInt32 with
      | some true => k npc L (.int (-1) :: r) h sl
      | some false => match zx_askB o 2 false a.toUInt32 c.toInt32 with
        | some true => k npc L (.int 0 :: r) h sl
        | some false => k npc L (.int 1 :: r) h sl
        | none => none
      | none => none
    | false => k npc L (.float 0 :: r) h sl
  | _ => none
theorem zx_lcmpA_ok {P : zx_P} {G : zx_G} {M : zx_M} {pc : Nat} {o : zx_O} (ho : zx_oo G.2.2.2.1 o) (hll : zx_ll G.2.2.2.1) (hd : decode M.2.1 pc = .ok (.lcmp, 1)) : zx_ok P G M pc (zx_lcmpA o (pc + 1)) := by
  refine zx_pure (fun rec k L st h sl res hr => ?_)
  unfold zx_lcmpA at hr
  split at hr
  · next c a r =>
    cases e : Nat.blt a.toNat 4294967296 && (Nat.beq c.toInt32.toInt64.toBitVec.toNat c.toBitVec.toNat && !(Nat.beq a.toNat 0)) with
    | false =>
      rw [e] at hr
      refine ⟨_, _, _, hr, fun p l e R s m args below meth c H locs cells slots Q C ls CL cst g1 g2 g3 kk => ?_⟩
      obtain ⟨v, vs, rfl, hv, hvs⟩ := zx_vs_cons g3
      obtain ⟨v2, vs2, rfl, hv2, hvs2⟩ := zx_vs_cons hvs
      obtain ⟨x, rfl, hx⟩ := hv2
      cases hv
      exact W.lcmp C.1 C.2.1 hd (kk ls CL (.int (lg_cmp x _) :: vs2) g1 g2 ⟨zx_fz _, hvs2⟩)
    | true =>
      rw [e] at hr
      dsimp only at hr
      simp only [Bool.and_eq_true] at e
      have hb := zx_n32 e.1
      have hc : c.toInt32.toInt64 = c := Int64.toBitVec_inj.mp (BitVec.eq_of_toNat_eq (Nat.eq_of_beq_eq_true e.2.1))
      have ha : a ≠ 0 := fun q => by rw [q] at e; exact absurd e.2.2 (by decide)
      have key : ∀ (rv : Int32), lg_cmp (G.2.2.2.1.2.1 a.toUInt32).toInt64 c.toInt32.toInt64 = rv → k (pc + 1) L (.int rv :: r) h sl = some res → ∃ pc2 L2 st2, k pc2 L2 st2 h sl = some res ∧
          ∀ (p : Program) (l : Launch) (e : Env) (R : Room) (s : State) (m : MethodId) (args : Array Value) (below : List Frame) (meth : Method) (c_1 : Code) (H : Heap) (locs : List Loc) (cells slots : Nat) (Q : State → Prop), zx_c P G M p s m args meth c_1 →
            ∀ (ls : Array Slot) (CL : zx_L) (cst : List Value), lv_has ls M.2.2.1 CL → zx_lv G.2.2.2.1 L CL → zx_vs G.2.2.2.1 (.long c :: .double a :: r) cst →
            (∀ (ls2 : Array Slot) (CL2 : zx_L) (cst2 : List Value), lv_has ls2 M.2.2.1 CL2 → zx_lv G.2.2.2.1 L2 CL2 → zx_vs G.2.2.2.1 st2 cst2 → W p l e R s m args below meth c_1 H locs cells slots Q (F0 m pc2 ls2 cst2)) →
            W p l e R s m args below meth c_1 H locs cells slots Q (F0 m pc ls cst) := by
        intro rv hrv hk2
        refine ⟨_, _, _, hk2, fun p l e R s m args below meth c_1 H locs cells slots Q C ls CL cst g1 g2 g3 kk => ?_⟩
        obtain ⟨v, vs, rfl, hv, hvs⟩ := zx_vs_cons g3
        obtain ⟨v2, vs2, rfl, hv2, hvs2⟩ := zx_vs_cons hvs
        obtain ⟨x, rfl, hx⟩ := hv2
        cases hv
        have hxx := hx ha
        rw [hb, hll] at hxx
        rw [hc] at hrv
        rw [hxx]
        exact W.lcmp C.1 C.2.1 hd (kk ls CL (.int (lg_cmp _ _) :: vs2) g1 g2 ⟨by rw [hrv]; rfl, hvs2⟩)
      cases e1 : zx_askB o 1 false a.toUInt32 c.toInt32 with
      | none => rw [e1] at hr; exact nomatch hr
      | some b1 =>
        have h1 := (zx_askL ho e1).2
        rw [e1] at hr
        cases b1 with
        | true => exact key _ (zx_cmpN.1 (of_decide_eq_true h1)) hr
        | false =>
          dsimp only at hr
          cases e2 : zx_askB o 2 false a.toUInt32 c.toInt32 with
          | none => rw [e2] at hr; exact nomatch hr
          | some b2 =>
            have h2 := (zx_askG ho e2).2
            rw [e2] at hr
            cases b2 with
            | true => exact key _ (zx_cmpN.2.2 (of_decide_eq_false h1) (of_decide_eq_true h2)) hr
            | false => exact key _ (zx_cmpN.2.1 (of_decide_eq_false h2)) hr
  · cases hr
noncomputable def zx_lcmpN (o : zx_O) (npc : Nat) : zx_F := zx_or2 zx_tLD (zx_lcmpA o npc) (zx_lcmp npc)
theorem zx_lcmpN_ok {P : zx_P} {G : zx_G} {M : zx_M} {pc : Nat} {o : zx_O} (ho : zx_oo G.2.2.2.1 o) (hll : zx_ll G.2.2.2.1) (hd : decode M.2.1 pc = .ok (.lcmp, 1)) : zx_ok P G M pc (zx_lcmpN o (pc + 1)) := zx_or2_ok (zx_lcmpA_ok ho hll hd) (zx_lcmp_ok hd)
-- the rest by 2 of a name that was widened
theorem zx_bm64 (y : Int) (h1 : -8000000000 ≤ y) (h2 : y ≤ 8000000000) : y.bmod (2 ^ 64) = y := by
  rw [Int.bmod_def]
  split <;> omega
theorem zx_bm32 (y : Int) (h1 : -2147483648 ≤ y) (h2 : y ≤ 2147483647) : y.bmod (2 ^ 32) = y := by
  rw [Int.bmod_def]
  split <;> omega
theorem zx_tdiv2 (n : Int) : (0 ≤ n ∧ n.tdiv 2 = n / 2) ∨ (n < 0 ∧ n.tdiv 2 = -((-n) / 2)) := by
  by_cases h : n < 0
  · have h1 := Int.tdiv_eq_ediv_of_nonneg (b := 2) (show 0 ≤ -n by omega)
    rw [Int.neg_tdiv] at h1
    exact Or.inr ⟨h, by omega⟩
  · exact Or.inl ⟨by omega, Int.tdiv_eq_ediv_of_nonneg (by omega)⟩
theorem zx_rem2i (x : Int32) : (x - x / 2 * 2).toInt = x.toInt - x.toInt.tdiv 2 * 2 := by
  have lo : -2147483648 ≤ x.toInt := x.le_toInt
  have hi : x.toInt < 2147483648 := x.toInt_lt
  have hq := zx_tdiv2 x.toInt
  have e3 : (2 : Int32).toInt = 2 := rfl
  rw [Int32.toInt_sub, Int32.toInt_mul, Int32.toInt_div, e3]
  rw [zx_bm32 (x.toInt.tdiv 2) (by omega) (by omega), zx_bm32 (x.toInt.tdiv 2 * 2) (by omega) (by omega), zx_bm32 _ (by omega) (by omega)]
theorem zx_rem2 (x : Int32) : x.toInt64 - x.toInt64 / 2 * 2 = (x - x / 2 * 2).toInt64 := by
  apply Int64.toInt_inj.mp
  have lo : -2147483648 ≤ x.toInt := x.le_toInt
  have hi : x.toInt < 2147483648 := x.toInt_lt
  have hq := zx_tdiv2 x.toInt
  have e2 : (2 : Int64).toInt = 2 := rfl
  have h1 : x.toInt64.toInt = x.toInt := by simp
  have h2 : ∀ y : Int32, y.toInt64.toInt = y.toInt := fun y => by simp
  rw [h2, zx_rem2i, Int64.toInt_sub, Int64.toInt_mul, Int64.toInt_div, e2, h1]
  rw [zx_bm64 (x.toInt.tdiv 2) (by omega) (by omega), zx_bm64 (x.toInt.tdiv 2 * 2) (by omega) (by omega), zx_bm64 _ (by omega) (by omega)]
noncomputable def zx_lremA (o : zx_O) (npc : Nat) : zx_F := fun _ L st h sl k => match st with
  | .long c :: .double a :: r => match Nat.blt a.toNat 4294967296 && (Nat.beq c.toBitVec.toNat 2 && !(Nat.beq a.toNat 0)) with
    | true => match zx_ask o 4 a.toUInt32 2 with
      | some (.int v) => k npc L (zx_l v.toInt64 :: r) h sl
      | _ => none
    | false => none
  | _ => none
theorem zx_lremA_ok {P : zx_P} {G : zx_G} {M : zx_M} {pc : Nat} {o : zx_O} (ho : zx_oo G.2.2.2.1 o) (hll : zx_ll G.2.2.2.1) (hd : decode M.2.1 pc = .ok (.lrem, 1)) : zx_ok P G M pc (zx_lremA o (pc + 1)) := by
  refine zx_pure (fun rec k L st h sl res hr => ?_)
  unfold zx_lremA at hr
  split at hr
  · next c a r =>
    cases e : Nat.blt a.toNat 4294967296 && (Nat.beq c.toBitVec.toNat 2 && !(Nat.beq a.toNat 0)) with
    | false => rw [e] at hr; exact nomatch hr
    | true =>
      rw [e] at hr
      dsimp only at hr
      simp only [Bool.and_eq_true] at e
      have hb := zx_n32 e.1
      have hc : c = 2 := Int64.toBitVec_inj.mp (BitVec.eq_of_toNat_eq (Nat.eq_of_beq_eq_true e.2.1))
      have ha : a ≠ 0 := fun q => by rw [q] at e; exact absurd e.2.2 (by decide)
      subst hc
      split at hr
      · next v0 e1 =>
        have h1 := (zx_ask_ok ho e1).2
        refine ⟨_, _, _, hr, fun p l e R s m args below meth c H locs cells slots Q C ls CL cst g1 g2 g3 kk => ?_⟩
        obtain ⟨v, vs, rfl, hv, hvs⟩ := zx_vs_cons g3
        obtain ⟨v2, vs2, rfl, hv2, hvs2⟩ := zx_vs_cons hvs
        obtain ⟨x, rfl, hx⟩ := hv2
        cases hv
        have hxx := hx ha
        rw [hb, hll] at hxx
        refine lv_lrem C.1 C.2.1 hd (by decide) (kk ls CL (.long (x - x / 2 * 2) :: vs2) g1 g2 ⟨?_, hvs2⟩)
        rw [zx_l_eq]
        show Value.long _ = Value.long _
        have h2 : zx_os 4 (G.2.2.2.1.2.1 a.toUInt32) 2 = v0 := Value.int.inj h1
        rw [hxx, zx_rem2, ← h2]
        rfl
      · cases hr
  · cases hr
noncomputable def zx_lremN (o : zx_O) (npc : Nat) : zx_F := zx_or2 zx_tLD (zx_lremA o npc) (zx_lrem npc)
theorem zx_lremN_ok {P : zx_P} {G : zx_G} {M : zx_M} {pc : Nat} {o : zx_O} (ho : zx_oo G.2.2.2.1 o) (hll : zx_ll G.2.2.2.1) (hd : decode M.2.1 pc = .ok (.lrem, 1)) : zx_ok P G M pc (zx_lremN o (pc + 1)) := zx_or2_ok (zx_lremA_ok ho hll hd) (zx_lrem_ok hd)
-- ===== a known number ahead of a name =====
noncomputable def zx_bZ (q : Int32 → UInt32 → Option Value) (npc : Nat) : zx_F := fun _ L st h sl k => match st with
  | .float b :: .int a :: r => match q a b with
    | some v => k npc L (v :: r) h sl
    | none => k npc L (.float 0 :: r) h sl
  | _ => none
theorem zx_bZ_ok {P : zx_P} {G : zx_G} {M : zx_M} {pc npc : Nat} {q : Int32 → UInt32 → Option Value} {f : Int32 → Int32 → Int32} (hq : ∀ a b v, q a b = some v → ∀ y : Int32, (b ≠ 0 → y = G.2.2.2.1.2.1 b) → zx_v G.2.2.2.1 v (.int (f a y))) (row : ∀ (p : Program) (l : Launch) (e : Env) (R : Room) (s : State) (m : MethodId) (args : Array Value) (below : List Frame) (meth : Method) (c : Code) (H : Heap) (locs : List Loc) (cells slots : Nat) (Q : State → Prop) (ls : Array Slot) (rest : List Value) (a : Int32) (b : Int32), p.tables.exec = Jvm.exec → c.code = M.2.1 → W p l e R s m args below meth c H locs cells slots Q (F0 m npc ls (.int (f a b) :: rest)) → W p l e R s m args below meth c H locs cells slots Q (F0 m pc ls (.int b :: .int a :: rest))) : zx_ok P G M pc (zx_bZ q npc) := by
  refine zx_pure (fun rec k L st h sl res hr => ?_)
  unfold zx_bZ at hr
  split at hr
  · next b a r =>
    split at hr
    · next v0 e1 =>
      refine ⟨_, _, _, hr, fun p l e R s m args below meth c H locs cells slots Q C ls CL cst g1 g2 g3 kk => ?_⟩
      obtain ⟨v, vs, rfl, hv, hvs⟩ := zx_vs_cons g3
      obtain ⟨v2, vs2, rfl, hv2, hvs2⟩ := zx_vs_cons hvs
      obtain ⟨x, rfl, hx⟩ := hv
      cases hv2
      exact row p l e R s m args below meth c H locs cells slots Q ls vs2 _ x C.1 C.2.1 (kk ls CL (.int (f _ x) :: vs2) g1 g2 ⟨hq _ b v0 e1 x hx, hvs2⟩)
    · refine ⟨_, _, _, hr, fun p l e R s m args below meth c H locs cells slots Q C ls CL cst g1 g2 g3 kk => ?_⟩
      obtain ⟨v, vs, rfl, hv, hvs⟩ := zx_vs_cons g3
      obtain ⟨v2, vs2, rfl, hv2, hvs2⟩ := zx_vs_cons hvs
      obtain ⟨x, rfl, hx⟩ := hv
      cases hv2
      exact row p l e R s m args below meth c H locs cells slots Q ls vs2 _ x C.1 C.2.1 (kk ls CL (.int (f _ x) :: vs2) g1 g2 ⟨zx_fz _, hvs2⟩)
  · cases hr
noncomputable def zx_q0 (a : Int32) (_ : UInt32) : Option Value := match Nat.beq a.toBitVec.toNat 0 with
  | true => some (.int 0)
  | false => none
theorem zx_q0_in {a : Int32} {b : UInt32} {v : Value} (h : zx_q0 a b = some v) : a = 0 ∧ v = .int 0 := by
  unfold zx_q0 at h
  cases e : Nat.beq a.toBitVec.toNat 0 with
  | false => rw [e] at h; exact nomatch h
  | true =>
    rw [e] at h
    cases h
    exact ⟨Int32.toBitVec_inj.mp (BitVec.eq_of_toNat_eq (Nat.eq_of_beq_eq_true e)), rfl⟩
noncomputable def zx_ishlN (npc : Nat) : zx_F := zx_or2 zx_tFI (zx_bZ zx_q0 npc) (zx_ishl npc)
theorem zx_ishlN_ok {P : zx_P} {G : zx_G} {M : zx_M} {pc : Nat} (hd : decode M.2.1 pc = .ok (.ishl, 1)) : zx_ok P G M pc (zx_ishlN (pc + 1)) :=
  zx_or2_ok (zx_bZ_ok (f := fun a b => a <<< (b &&& 31)) (fun a b v h y _ => by obtain ⟨rfl, rfl⟩ := zx_q0_in h; show Value.int _ = .int 0; simp) (fun p l e R s m args below meth c H locs cells slots Q ls rest a b hx hb k => lv_ishl hx hb hd k)) (zx_ishl_ok hd)
noncomputable def zx_ishrN (o : zx_O) (npc : Nat) : zx_F := zx_or2 zx_tFI (zx_bZ zx_q0 npc) (zx_ishr o npc)
theorem zx_ishrN_ok {P : zx_P} {G : zx_G} {M : zx_M} {pc : Nat} {o : zx_O} (ho : zx_oo G.2.2.2.1 o) (hd : decode M.2.1 pc = .ok (.ishr, 1)) : zx_ok P G M pc (zx_ishrN o (pc + 1)) :=
  zx_or2_ok (zx_bZ_ok (f := fun a b => a >>> (b &&& 31)) (fun a b v h y _ => by obtain ⟨rfl, rfl⟩ := zx_q0_in h; show Value.int _ = .int 0; simp) (fun p l e R s m args below meth c H locs cells slots Q ls rest a b hx hb k => lv_ishr hx hb hd k)) (zx_ishr_ok ho hd)
noncomputable def zx_iushrN (o : zx_O) (npc : Nat) : zx_F := zx_or2 zx_tFI (zx_bZ zx_q0 npc) (zx_iushr o npc)
theorem zx_iushrN_ok {P : zx_P} {G : zx_G} {M : zx_M} {pc : Nat} {o : zx_O} (ho : zx_oo G.2.2.2.1 o) (hd : decode M.2.1 pc = .ok (.iushr, 1)) : zx_ok P G M pc (zx_iushrN o (pc + 1)) :=
  zx_or2_ok (zx_bZ_ok (f := fun a b => (a.toUInt32 >>> (b.toUInt32 &&& Int32.toUInt32 31)).toInt32) (fun a b v h y _ => by obtain ⟨rfl, rfl⟩ := zx_q0_in h; show Value.int _ = .int 0; rw [show Int32.toUInt32 0 = 0 from rfl]; simp) (fun p l e R s m args below meth c H locs cells slots Q ls rest a b hx hb k => lv_iushr hx hb hd rfl k)) (zx_iushr_ok ho hd)
noncomputable def zx_iandN (o : zx_O) (npc : Nat) : zx_F := zx_or2 zx_tFI (zx_bZ zx_q0 npc) (zx_iand o npc)
theorem zx_iandN_ok {P : zx_P} {G : zx_G} {M : zx_M} {pc : Nat} {o : zx_O} (ho : zx_oo G.2.2.2.1 o) (hd : decode M.2.1 pc = .ok (.iand, 1)) : zx_ok P G M pc (zx_iandN o (pc + 1)) :=
  zx_or2_ok (zx_bZ_ok (f := fun a b => a &&& b) (fun a b v h y _ => by obtain ⟨rfl, rfl⟩ := zx_q0_in h; show Value.int _ = .int 0; simp) (fun p l e R s m args below meth c H locs cells slots Q ls rest a b hx hb k => lv_iand hx hb hd k)) (zx_iand_ok ho hd)
noncomputable def zx_imulN (npc : Nat) : zx_F := zx_or2 zx_tFI (zx_bZ zx_q0 npc) (zx_imul npc)
theorem zx_imulN_ok {P : zx_P} {G : zx_G} {M : zx_M} {pc : Nat} (hd : decode M.2.1 pc = .ok (.imul, 1)) : zx_ok P G M pc (zx_imulN (pc + 1)) :=
  zx_or2_ok (zx_bZ_ok (f := fun a b => a * b) (fun a b v h y _ => by obtain ⟨rfl, rfl⟩ := zx_q0_in h; show Value.int _ = .int 0; simp) (fun p l e R s m args below meth c H locs cells slots Q ls rest a b hx hb k => lv_imul hx hb hd k)) (zx_imul_ok hd)
noncomputable def zx_iaddN (o : zx_O) (npc : Nat) : zx_F := zx_or2 zx_tFI (zx_bZ (fun a b => zx_ask o 7 b a) npc) (zx_iadd o npc)
theorem zx_iaddN_ok {P : zx_P} {G : zx_G} {M : zx_M} {pc : Nat} {o : zx_O} (ho : zx_oo G.2.2.2.1 o) (hd : decode M.2.1 pc = .ok (.iadd, 1)) : zx_ok P G M pc (zx_iaddN o (pc + 1)) :=
  zx_or2_ok (zx_bZ_ok (f := fun a b => a + b) (fun a b v h y hy => by
    obtain ⟨h0, h1⟩ := zx_ask_ok ho h
    rw [← hy h0] at h1
    have h2 : zx_os 7 y a = a + y := Int32.add_comm y a
    rw [h2] at h1
    exact h1) (fun p l e R s m args below meth c H locs cells slots Q ls rest a b hx hb k => lv_iadd hx hb hd k)) (zx_iadd_ok ho hd)
-- ===== a place that is not known, in a row that holds one thing everywhere =====
noncomputable def zx_em (t : zx_Tr Value) : Bool := match (show Option _ from (t : zx_B Value (zx_T9 Value))) with
  | none => true
  | some _ => false
theorem zx_em_in {t : zx_Tr Value} (h : zx_em t = true) : t = zx_e10 Value := by
  unfold zx_em at h
  split at h
  · next e => exact e
  · cases h
noncomputable def zx_aldA (o : zx_O) (ty npc : Nat) : zx_F := fun _ L st h sl kk => match st with
  | .float b :: .ref i :: r => match zx_ga h i ty with
    | none => none
    | some x => match Nat.blt x.1 2147483648 && zx_em x.2.2 with
      | true => match zx_askB o 1 false b 0 with
        | some false => match zx_askB o 1 false b (nI x.1) with
          | some true => kk npc L (x.2.1 :: r) h sl
          | _ => none
        | _ => none
      | false => none
  | _ => none
theorem zx_aldA_ok {P : zx_P} {G : zx_G} {M : zx_M} {pc ty : Nat} {o : zx_O} {fty : FieldType} (ho : zx_oo G.2.2.2.1 o) (hA : zx_ad P G) (hty : P.2.1[ty]? = some fty)
    (row : ∀ (p : Program) (l : Launch) (e : Env) (R : Room) (s : State) (m : MethodId) (args : Array Value) (below : List Frame) (meth : Method) (c : Code) (H : Heap) (locs : List Loc) (cells slots : Nat) (Q : State → Prop) (ls : Array Slot) (rest : List Value) (a : Addr) (cell : Cell) (j : Int32) (v : Value), p.tables.exec = Jvm.exec → c.code = M.2.1 → H[a]? = some cell → s.isArrayOf cell fty → cell.vm ≠ .unknown → ¬ (j < 0 ∨ cell.slots.size ≤ j.toNatClampNeg) → cell.slots[j.toNatClampNeg]? = some v → W p l e R s m args below meth c H locs cells slots Q (F0 m (pc + 1) ls (v :: rest)) → W p l e R s m args below meth c H locs cells slots Q (F0 m pc ls (.int j :: .ref a :: rest))) : zx_ok P G M pc (zx_aldA o ty (pc + 1)) := by
  refine zx_read (fun rec kk L st h sl res hr => ?_)
  unfold zx_aldA at hr
  split at hr
  · next b i r =>
    cases e1 : zx_ga h i ty with
    | none => rw [e1] at hr; exact nomatch hr
    | some x =>
      rw [e1] at hr
      dsimp only at hr
      cases e3 : Nat.blt x.1 2147483648 && zx_em x.2.2 with
      | false => rw [e3] at hr; exact nomatch hr
      | true =>
        rw [e3] at hr
        dsimp only at hr
        split at hr
        · next q1 =>
          split at hr
          · next q2 =>
            simp only [Bool.and_eq_true] at e3
            have e4 := zx_ga_in e1
            have hx1 : x.1 < 2147483648 := Nat.le_of_ble_eq_true e3.1
            obtain ⟨h0, h1⟩ := zx_askL ho q1
            have h2 := (zx_askL ho q2).2
            have h1' : ¬ G.2.2.2.1.2.1 b < 0 := of_decide_eq_false h1
            have h2' : G.2.2.2.1.2.1 b < nI x.1 := of_decide_eq_true h2
            have hlt : (G.2.2.2.1.2.1 b).toNatClampNeg < x.1 := by
              rw [Int32.lt_iff_toInt_lt] at h1' h2'
              have h9 : (nI x.1).toNatClampNeg = x.1 := nI_clamp hx1
              have h8 : (nI x.1).toInt.toNat = x.1 := h9
              show (G.2.2.2.1.2.1 b).toInt.toNat < x.1
              have h7 : (0 : Int32).toInt = 0 := rfl
              omega
            refine ⟨_, _, hr, fun p l e R s m args below meth c H locs cells slots Q X hh ls cst g3 kk => ?_⟩
            obtain ⟨cv, vs, rfl, hv, hvs⟩ := zx_vs_cons g3
            obtain ⟨cv2, vs2, rfl, hv2, hvs2⟩ := zx_vs_cons hvs
            obtain ⟨j, rfl, hj⟩ := hv
            cases hv2
            obtain rfl := hj h0
            obtain ⟨q, a1, f, a2, a3⟩ := (hh.2.2.2.1 i _ e4).2
            obtain ⟨cA, hcA⟩ := zx_tl hA hty
            obtain rfl : q = (cA, fty) := Option.some.inj (a1.symm.trans hcA)
            have h6 := a3 _ hlt
            rw [show (x.2.2 : zx_Tr Value) = zx_e10 Value from zx_em_in e3.2, zx_rd_e] at h6
            exact row p l e R s m args below meth c H locs cells slots Q ls vs2 _ _ _ (f (G.2.2.2.1.2.1 b).toNatClampNeg) X.1 X.2.1 a2 ((X.2.2.2.2.2.2.2.1.2 ty _ hcA).1 x.1 f) (fun q => by cases q) (by rw [arrV_size]; exact fun q => q.elim h1' (fun w => absurd hlt (Nat.not_lt.mpr w))) (by rw [arrV_read _ _ hlt]) (kk (f _ :: vs2) ⟨h6, hvs2⟩)
          · cases hr
        · cases hr
  · exact nomatch hr
noncomputable def zx_aldN (o : zx_O) (ty npc : Nat) : zx_F := zx_or2 zx_tFR (zx_aldA o ty npc) (zx_ald o ty npc)
theorem zx_ialoadN_ok {P : zx_P} {G : zx_G} {M : zx_M} {pc ty : Nat} {o : zx_O} (ho : zx_oo G.2.2.2.1 o) (hA : zx_ad P G) (hty : P.2.1[ty]? = some .int) (hd : decode M.2.1 pc = .ok (.iaload, 1)) : zx_ok P G M pc (zx_aldN o ty (pc + 1)) :=
  zx_or2_ok (zx_aldA_ok ho hA hty (fun p l e R s m args below meth c H locs cells slots Q ls rest a cell j v hx hb h1 h2 h3 h4 h5 k => W.iald hx hb h1 h2 h3 h4 h5 rfl rfl hd k)) (zx_iaload_ok ho hA hty hd)
theorem zx_zaloadN_ok {P : zx_P} {G : zx_G} {M : zx_M} {pc ty : Nat} {o : zx_O} (ho : zx_oo G.2.2.2.1 o) (hA : zx_ad P G) (hty : P.2.1[ty]? = some .boolean) (hd : decode M.2.1 pc = .ok (.baload, 1)) : zx_ok P G M pc (zx_aldN o ty (pc + 1)) :=
  zx_or2_ok (zx_aldA_ok ho hA hty (fun p l e R s m args below meth c H locs cells slots Q ls rest a cell j v hx hb h1 h2 h3 h4 h5 k => W.zald hx hb h1 h2 h3 h4 h5 rfl rfl hd k)) (zx_zaload_ok ho hA hty hd)
theorem zx_baloadN_ok {P : zx_P} {G : zx_G} {M : zx_M} {pc ty : Nat} {o : zx_O} (ho : zx_oo G.2.2.2.1 o) (hA : zx_ad P G) (hty : P.2.1[ty]? = some .byte) (hd : decode M.2.1 pc = .ok (.baload, 1)) : zx_ok P G M pc (zx_aldN o ty (pc + 1)) :=
  zx_or2_ok (zx_aldA_ok ho hA hty (fun p l e R s m args below meth c H locs cells slots Q ls rest a cell j v hx hb h1 h2 h3 h4 h5 k => W.bald hx hb h1 h2 h3 h4 h5 rfl rfl hd k)) (zx_baload_ok ho hA hty hd)
-- ===== rows that are older than all: by a list =====
noncomputable abbrev zx_W : Type := Nat × Nat × Value × zx_Tr Value
/-- what stands for good of the older rows -/
noncomputable def zx_ho (P : zx_P) (G : zx_G) (O : List zx_W) : Prop := ∀ (s : State), G.2.2.2.2.2.2 s → ∀ (i : Nat) (z : zx_W), O[i]? = some z → ∃ (ty : FieldType) (f : Nat → Value), P.2.1[z.1]? = some ty ∧ va_T ty (G.2.2.2.1.1 i) z.2.1 f (fun a => G.2.2.2.2.1 ≤ a) s G.2.2.2.2.2.1 ∧ ∀ j, j < z.2.1 → zx_v G.2.2.2.1 (zx_rd z.2.2.1 z.2.2.2 j) (f j)
noncomputable def zx_tO (n : Nat) (st : List Value) : Bool := match st with
  | _ :: .ref i :: _ => Nat.blt i n
  | _ => false
noncomputable def zx_tO1 (n : Nat) (st : List Value) : Bool := match st with
  | .ref i :: _ => Nat.blt i n
  | _ => false
noncomputable def zx_aldB (o : zx_O) (O : List zx_W) (ty npc : Nat) : zx_F := fun _ L st h sl kk => match st with
  | .int j :: .ref i :: r => match decide (0 ≤ j) with
    | true => match zx_nth O i with
      | none => none
      | some z => match Nat.beq z.1 ty && Nat.blt j.toNatClampNeg z.2.1 with
        | true => kk npc L (zx_cz o (zx_rd z.2.2.1 z.2.2.2 j.toNatClampNeg) :: r) h sl
        | false => none
    | false => none
  | _ => none
theorem zx_aldB_ok {P : zx_P} {G : zx_G} {M : zx_M} {pc ty : Nat} {o : zx_O} {O : List zx_W} {fty : FieldType} (ho : zx_oo G.2.2.2.1 o) (hO : zx_ho P G O) (hty : P.2.1[ty]? = some fty)
    (row : ∀ (p : Program) (l : Launch) (e : Env) (R : Room) (s : State) (m : MethodId) (args : Array Value) (below : List Frame) (meth : Method) (c : Code) (H : Heap) (locs : List Loc) (cells slots : Nat) (Q : State → Prop) (ls : Array Slot) (rest : List Value) (a : Addr) (cell : Cell) (j : Int32) (v : Value), p.tables.exec = Jvm.exec → c.code = M.2.1 → H[a]? = some cell → s.isArrayOf cell fty → cell.vm ≠ .unknown → ¬ (j < 0 ∨ cell.slots.size ≤ j.toNatClampNeg) → cell.slots[j.toNatClampNeg]? = some v → W p l e R s m args below meth c H locs cells slots Q (F0 m (pc + 1) ls (v :: rest)) → W p l e R s m args below meth c H locs cells slots Q (F0 m pc ls (.int j :: .ref a :: rest))) : zx_ok P G M pc (zx_aldB o O ty (pc + 1)) := by
  refine zx_read (fun rec kk L st h sl res hr => ?_)
  unfold zx_aldB at hr
  split at hr
  · next j i r =>
    cases e2 : decide (0 ≤ j) with
    | false => rw [e2] at hr; exact nomatch hr
    | true =>
      rw [e2] at hr
      dsimp only at hr
      cases e1 : zx_nth O i with
      | none => rw [e1] at hr; exact nomatch hr
      | some z =>
        rw [e1] at hr
        dsimp only at hr
        cases e3 : Nat.beq z.1 ty && Nat.blt j.toNatClampNeg z.2.1 with
        | false => rw [e3] at hr; exact nomatch hr
        | true =>
          rw [e3] at hr
          dsimp only at hr
          simp only [Bool.and_eq_true] at e3
          have hlt : j.toNatClampNeg < z.2.1 := Nat.le_of_ble_eq_true e3.2
          have hzt : z.1 = ty := Nat.eq_of_beq_eq_true e3.1
          rw [zx_nth_eq] at e1
          refine ⟨_, _, hr, fun p l e R s m args below meth c H locs cells slots Q X hh ls cst g3 kk => ?_⟩
          obtain ⟨cv, vs, rfl, hv, hvs⟩ := zx_vs_cons g3
          obtain ⟨cv2, vs2, rfl, hv2, hvs2⟩ := zx_vs_cons hvs
          cases hv
          cases hv2
          obtain ⟨ty9, f, q1, ⟨cell, c1, c2, c3, c4, c5, c6, c7⟩, q3⟩ := hO s X.2.2.2.2.2.2.2.2.2.2.2.2.2.2 i z e1
          rw [hzt] at q1
          obtain rfl : fty = ty9 := Option.some.inj (hty.symm.trans q1)
          exact row p l e R s m args below meth c H locs cells slots Q ls vs2 _ cell j (f j.toNatClampNeg) X.1 X.2.1 (by rw [hh.2.2.2.2 _ (Nat.not_le.mp c7)]; exact c1) c2 c3 (fun q => q.elim (zx_not_neg e2) (fun w => by omega)) (c6 _ hlt) (kk (f j.toNatClampNeg :: vs2) ⟨zx_cz_ok ho (q3 _ hlt), hvs2⟩)
  · exact nomatch hr
noncomputable def zx_aldO (o : zx_O) (O : List zx_W) (n ty npc : Nat) : zx_F := zx_or2 (zx_tO n) (zx_aldB o O ty npc) (zx_aldN o ty npc)
theorem zx_ialoadO_ok {P : zx_P} {G : zx_G} {M : zx_M} {pc ty n : Nat} {o : zx_O} {O : List zx_W} (ho : zx_oo G.2.2.2.1 o) (hA : zx_ad P G) (hO : zx_ho P G O) (hty : P.2.1[ty]? = some .int) (hd : decode M.2.1 pc = .ok (.iaload, 1)) : zx_ok P G M pc (zx_aldO o O n ty (pc + 1)) :=
  zx_or2_ok (zx_aldB_ok ho hO hty (fun p l e R s m args below meth c H locs cells slots Q ls rest a cell j v hx hb h1 h2 h3 h4 h5 k => W.iald hx hb h1 h2 h3 h4 h5 rfl rfl hd k)) (zx_ialoadN_ok ho hA hty hd)
theorem zx_baloadO_ok {P : zx_P} {G : zx_G} {M : zx_M} {pc ty n : Nat} {o : zx_O} {O : List zx_W} (ho : zx_oo G.2.2.2.1 o) (hA : zx_ad P G) (hO : zx_ho P G O) (hty : P.2.1[ty]? = some .byte) (hd : decode M.2.1 pc = .ok (.baload, 1)) : zx_ok P G M pc (zx_aldO o O n ty (pc + 1)) :=
  zx_or2_ok (zx_aldB_ok ho hO hty (fun p l e R s m args below meth c H locs cells slots Q ls rest a cell j v hx hb h1 h2 h3 h4 h5 k => W.bald hx hb h1 h2 h3 h4 h5 rfl rfl hd k)) (zx_baloadN_ok ho hA hty hd)
noncomputable def zx_alenB (O : List zx_W) (npc : Nat) : zx_F := fun _ L st h sl kk => match st with
  | .ref i :: r => match zx_nth O i with
    | none => none
    | some z => kk npc L (.int (nI z.2.1) :: r) h sl
  | _ => none
theorem zx_alenB_ok {P : zx_P} {G : zx_G} {M : zx_M} {pc : Nat} {O : List zx_W} (hO : zx_ho P G O) (hd : decode M.2.1 pc = .ok (.arraylength, 1)) : zx_ok P G M pc (zx_alenB O (pc + 1)) := by
  refine zx_read (fun rec kk L st h sl res hr => ?_)
  unfold zx_alenB at hr
  split at hr
  · next i r =>
    cases e1 : zx_nth O i with
    | none => rw [e1] at hr; exact nomatch hr
    | some z =>
      rw [e1] at hr
      dsimp only at hr
      rw [zx_nth_eq] at e1
      refine ⟨_, _, hr, fun p l e R s m args below meth c H locs cells slots Q X hh ls cst g3 kk => ?_⟩
      obtain ⟨cv, vs, rfl, hv, hvs⟩ := zx_vs_cons g3
      cases hv
      obtain ⟨ty9, f, q1, ⟨cell, c1, c2, c3, c4, c5, c6, c7⟩, q3⟩ := hO s X.2.2.2.2.2.2.2.2.2.2.2.2.2.2 i z e1
      exact W.alen X.1 X.2.1 (by rw [hh.2.2.2.2 _ (Nat.not_le.mp c7)]; exact c1) c2 (n := nI z.2.1) c5 rfl rfl hd (kk (.int (nI z.2.1) :: vs) ⟨rfl, hvs⟩)
  · exact nomatch hr
noncomputable def zx_alenO (O : List zx_W) (n npc : Nat) : zx_F := zx_or2 (zx_tO1 n) (zx_alenB O npc) (zx_alen npc)
theorem zx_arraylengthO_ok {P : zx_P} {G : zx_G} {M : zx_M} {pc n : Nat} {O : List zx_W} (hO : zx_ho P G O) (hd : decode M.2.1 pc = .ok (.arraylength, 1)) : zx_ok P G M pc (zx_alenO O n (pc + 1)) := zx_or2_ok (zx_alenB_ok hO hd) (zx_arraylength_ok hd)
