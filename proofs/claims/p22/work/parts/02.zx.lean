theorem zx_cv_i (i : Nat) : (fun q : Nat × Value => !(q.1 == i) && !(q.1 + 1 == i && q.2.category == 2)) = zx_cv false i := by
  funext q
  unfold zx_cv
  cases (q.1 == i) <;> simp
theorem zx_cv_l (i : Nat) : (fun q : Nat × Value => !(q.1 == i) && (!(q.1 == i + 1) && !(q.1 + 1 == i && q.2.category == 2))) = zx_cv true i := by
  funext q
  unfold zx_cv
  cases (q.1 == i) <;> cases (q.1 == i + 1) <;> simp
/-- what is known of the named numbers: an operation, a name, a number, what comes out -/
abbrev zx_O : Type := List (Nat × UInt32 × Int32 × Value)
noncomputable def zx_os (op : Nat) (x c : Int32) : Int32 := match op with
  | 0 => if x = c then 1 else 0
  | 1 => if x < c then 1 else 0
  | 2 => if x ≤ c then 1 else 0
  | 3 => x &&& c
  | 4 => x - x / c * c
  | 5 => x >>> (c &&& 31)
  | 6 => x / c
  | 7 => x + c
  | 8 => x - c
  | 9 => x
  | 10 => (x.toUInt32 >>> (c.toUInt32 &&& Int32.toUInt32 31)).toInt32
  | _ => 0
noncomputable def zx_ask : zx_O → Nat → UInt32 → Int32 → Option Value
  | [], _, _, _ => none
  | (p, b, c, v) :: o, q, d, e => match Nat.beq p q && (Nat.beq b.toNat d.toNat && Nat.beq c.toBitVec.toNat e.toBitVec.toNat) with
    | true => some v
    | false => zx_ask o q d e
noncomputable def zx_oo (D : zx_D) (o : zx_O) : Prop := ∀ q ∈ o, q.2.1 ≠ 0 ∧ zx_v D q.2.2.2 (.int (zx_os q.1 (D.2.1 q.2.1) q.2.2.1))
theorem zx_ask_ok {D : zx_D} : ∀ {o : zx_O} {p : Nat} {b : UInt32} {c : Int32} {v : Value}, zx_oo D o → zx_ask o p b c = some v → b ≠ 0 ∧ zx_v D v (.int (zx_os p (D.2.1 b) c))
  | [], p, b, c, v, _, h => by cases h
  | (p1, b1, c1, v1) :: o, p, b, c, v, ho, h => by
    unfold zx_ask at h
    split at h
    · next e =>
      cases h
      simp only [Bool.and_eq_true] at e
      have e1 : p1 = p := Nat.eq_of_beq_eq_true e.1
      have e2 : b1 = b := UInt32.toNat_inj.mp (Nat.eq_of_beq_eq_true e.2.1)
      have e3 : c1 = c := Int32.toBitVec_inj.mp (BitVec.eq_of_toNat_eq (Nat.eq_of_beq_eq_true e.2.2))
      subst e1 e2 e3
      exact ho _ List.mem_cons_self
    · exact zx_ask_ok (fun q hq => ho q (List.mem_cons_of_mem _ hq)) h
noncomputable def zx_askB (o : zx_O) (op : Nat) (neg : Bool) (b : UInt32) (c : Int32) : Option Bool := match zx_ask o op b c with
  | some (.int x) => match Nat.beq x.toBitVec.toNat 0 with
    | true => some neg
    | false => some (!neg)
  | _ => none
theorem zx_askB_ok {D : zx_D} {o : zx_O} {op : Nat} {neg : Bool} {b : UInt32} {c : Int32} {r : Bool} (ho : zx_oo D o) (h : zx_askB o op neg b c = some r) : b ≠ 0 ∧ decide (zx_os op (D.2.1 b) c = 0) = (r == neg) := by
  unfold zx_askB at h
  split at h
  · next x e =>
    obtain ⟨h0, h1⟩ := zx_ask_ok ho e
    refine ⟨h0, ?_⟩
    have h2 : zx_os op (D.2.1 b) c = x := Value.int.inj h1
    rw [h2]
    have h3 : Nat.beq x.toBitVec.toNat 0 = decide (x = 0) := by
      by_cases hx : x = 0
      · subst hx
        decide
      · rw [decide_eq_false hx]
        cases hb : Nat.beq x.toBitVec.toNat 0
        · rfl
        · exact absurd (Int32.toBitVec_inj.mp (BitVec.eq_of_toNat_eq (Nat.eq_of_beq_eq_true hb))) hx
    rw [h3] at h
    cases hx : decide (x = 0) <;> rw [hx] at h <;> cases h <;> cases neg <;> rfl
  · cases h
theorem zx_askE {D : zx_D} {o : zx_O} {neg : Bool} {b : UInt32} {c : Int32} {r : Bool} (ho : zx_oo D o) (h : zx_askB o 0 neg b c = some r) : b ≠ 0 ∧ decide (D.2.1 b = c) = (r != neg) := by
  obtain ⟨h0, h1⟩ := zx_askB_ok ho h
  refine ⟨h0, ?_⟩
  have h2 : decide ((if D.2.1 b = c then (1 : Int32) else 0) = 0) = (r == neg) := h1
  clear h1
  by_cases hx : D.2.1 b = c
  · rw [decide_eq_true hx]
    rw [if_pos hx] at h2
    revert h2
    cases r <;> cases neg <;> decide
  · rw [decide_eq_false hx]
    rw [if_neg hx] at h2
    revert h2
    cases r <;> cases neg <;> decide
theorem zx_askL {D : zx_D} {o : zx_O} {neg : Bool} {b : UInt32} {c : Int32} {r : Bool} (ho : zx_oo D o) (h : zx_askB o 1 neg b c = some r) : b ≠ 0 ∧ decide (D.2.1 b < c) = (r != neg) := by
  obtain ⟨h0, h1⟩ := zx_askB_ok ho h
  refine ⟨h0, ?_⟩
  have h2 : decide ((if D.2.1 b < c then (1 : Int32) else 0) = 0) = (r == neg) := h1
  clear h1
  by_cases hx : D.2.1 b < c
  · rw [decide_eq_true hx]
    rw [if_pos hx] at h2
    revert h2
    cases r <;> cases neg <;> decide
  · rw [decide_eq_false hx]
    rw [if_neg hx] at h2
    revert h2
    cases r <;> cases neg <;> decide
theorem zx_askG {D : zx_D} {o : zx_O} {neg : Bool} {b : UInt32} {c : Int32} {r : Bool} (ho : zx_oo D o) (h : zx_askB o 2 neg b c = some r) : b ≠ 0 ∧ decide (D.2.1 b ≤ c) = (r != neg) := by
  obtain ⟨h0, h1⟩ := zx_askB_ok ho h
  refine ⟨h0, ?_⟩
  have h2 : decide ((if D.2.1 b ≤ c then (1 : Int32) else 0) = 0) = (r == neg) := h1
  clear h1
  by_cases hx : D.2.1 b ≤ c
  · rw [decide_eq_true hx]
    rw [if_pos hx] at h2
    revert h2
    cases r <;> cases neg <;> decide
  · rw [decide_eq_false hx]
    rw [if_neg hx] at h2
    revert h2
    cases r <;> cases neg <;> decide
/-- a number laid down -/
noncomputable def zx_ci (v : Value) (npc : Nat) : zx_F := fun _ L st h sl k => k npc L (v :: st) h sl
theorem zx_iconst_ok {P : zx_P} {G : zx_G} {M : zx_M} {pc : Nat} {n : Int} {v : Int32} (hd : decode M.2.1 pc = .ok (.iconst n, 1)) (hv : Int32.ofInt n = v) : zx_ok P G M pc (zx_ci (.int v) (pc + 1)) := by
  refine zx_pure (fun rec k L st h sl res hr => ⟨_, _, _, hr, fun p l e R s m args below meth c H locs cells slots Q C ls CL cst g1 g2 g3 kk => ?_⟩)
  exact lv_iconst C.1 C.2.1 hd hv (kk ls CL (.int v :: cst) g1 g2 ⟨rfl, g3⟩)
theorem zx_bipush_ok {P : zx_P} {G : zx_G} {M : zx_M} {pc : Nat} {n : Int} {v : Int32} (hd : decode M.2.1 pc = .ok (.bipush n, 2)) (hv : (Int8.ofInt n).toInt32 = v) : zx_ok P G M pc (zx_ci (.int v) (pc + 2)) := by
  refine zx_pure (fun rec k L st h sl res hr => ⟨_, _, _, hr, fun p l e R s m args below meth c H locs cells slots Q C ls CL cst g1 g2 g3 kk => ?_⟩)
  exact lv_bipush C.1 C.2.1 hd hv (kk ls CL (.int v :: cst) g1 g2 ⟨rfl, g3⟩)
theorem zx_sipush_ok {P : zx_P} {G : zx_G} {M : zx_M} {pc : Nat} {n : Int} {v : Int32} (hd : decode M.2.1 pc = .ok (.sipush n, 3)) (hv : (Int16.ofInt n).toInt32 = v) : zx_ok P G M pc (zx_ci (.int v) (pc + 3)) := by
  refine zx_pure (fun rec k L st h sl res hr => ⟨_, _, _, hr, fun p l e R s m args below meth c H locs cells slots Q C ls CL cst g1 g2 g3 kk => ?_⟩)
  exact lv_sipush C.1 C.2.1 hd hv (kk ls CL (.int v :: cst) g1 g2 ⟨rfl, g3⟩)
theorem zx_lconst_ok {P : zx_P} {G : zx_G} {M : zx_M} {pc : Nat} {n : Fin 2} {v : Int64} (hd : decode M.2.1 pc = .ok (.lconst n, 1)) (hv : Int64.ofNat (n : Nat) = v) : zx_ok P G M pc (zx_ci (.long v) (pc + 1)) := by
  refine zx_pure (fun rec k L st h sl res hr => ⟨_, _, _, hr, fun p l e R s m args below meth c H locs cells slots Q C ls CL cst g1 g2 g3 kk => ?_⟩)
  exact lv_lconst C.1 C.2.1 hd hv (kk ls CL (.long v :: cst) g1 g2 ⟨rfl, g3⟩)
theorem zx_null_ok {P : zx_P} {G : zx_G} {M : zx_M} {pc : Nat} (hd : decode M.2.1 pc = .ok (.aconst_null, 1)) : zx_ok P G M pc (zx_ci .null (pc + 1)) := by
  refine zx_pure (fun rec k L st h sl res hr => ⟨_, _, _, hr, fun p l e R s m args below meth c H locs cells slots Q C ls CL cst g1 g2 g3 kk => ?_⟩)
  exact lv_null C.1 C.2.1 hd (kk ls CL (.null :: cst) g1 g2 ⟨rfl, g3⟩)
theorem zx_ldc_ok {P : zx_P} {G : zx_G} {M : zx_M} {pc : Nat} {index : Nat} {v : Int32} (hw : Cond.constant M.1.cls index v ∈ P.2.2.1) (hd : decode M.2.1 pc = .ok (.ldc index, 2)) : zx_ok P G M pc (zx_ci (.int v) (pc + 2)) := by
  refine zx_pure (fun rec k L st h sl res hr => ⟨_, _, _, hr, fun p l e R s m args below meth c H locs cells slots Q C ls CL cst g1 g2 g3 kk => ?_⟩)
  exact lv_ldc C.1 C.2.1 C.2.2.2.2.1 (C.2.2.2.2.2.1 _ hw) hd (kk ls CL (.int v :: cst) g1 g2 ⟨rfl, g3⟩)
theorem zx_ldcw_ok {P : zx_P} {G : zx_G} {M : zx_M} {pc : Nat} {index : Nat} {v : Int32} (hw : Cond.constant M.1.cls index v ∈ P.2.2.1) (hd : decode M.2.1 pc = .ok (.ldc_w index, 3)) : zx_ok P G M pc (zx_ci (.int v) (pc + 3)) := by
  refine zx_pure (fun rec k L st h sl res hr => ⟨_, _, _, hr, fun p l e R s m args below meth c H locs cells slots Q C ls CL cst g1 g2 g3 kk => ?_⟩)
  exact lv_ldcw C.1 C.2.1 C.2.2.2.2.1 (C.2.2.2.2.2.1 _ hw) hd (kk ls CL (.int v :: cst) g1 g2 ⟨rfl, g3⟩)
theorem zx_ldc2_ok {P : zx_P} {G : zx_G} {M : zx_M} {pc : Nat} {index : Nat} {v : Int64} (hw : Cond.constantLong M.1.cls index v ∈ P.2.2.1) (hd : decode M.2.1 pc = .ok (.ldc2_w index, 3)) : zx_ok P G M pc (zx_ci (.long v) (pc + 3)) := by
  refine zx_pure (fun rec k L st h sl res hr => ⟨_, _, _, hr, fun p l e R s m args below meth c H locs cells slots Q C ls CL cst g1 g2 g3 kk => ?_⟩)
  exact lv_ldc2 C.1 C.2.1 C.2.2.2.2.1 (C.2.2.2.2.2.1 _ hw) hd (kk ls CL (.long v :: cst) g1 g2 ⟨rfl, g3⟩)
noncomputable def zx_loI (i npc : Nat) : zx_F := fun _ L st h sl k => match zx_ld L i with
  | some (.int x) => k npc L (.int x :: st) h sl
  | some (.float b) => k npc L (.float b :: st) h sl
  | _ => none
noncomputable def zx_loJ (i npc : Nat) : zx_F := fun _ L st h sl k => match zx_ld L i with
  | some (.long x) => k npc L (.long x :: st) h sl
  | some (.double b) => k npc L (.double b :: st) h sl
  | _ => none
noncomputable def zx_loA (i npc : Nat) : zx_F := fun _ L st h sl k => match zx_ld L i with
  | some (.ref x) => k npc L (.ref x :: st) h sl
  | some .null => k npc L (.null :: st) h sl
  | _ => none
theorem zx_iload_ok {P : zx_P} {G : zx_G} {M : zx_M} {pc : Nat} {i : Nat} (hd : decode M.2.1 pc = .ok (.iload i, 2)) : zx_ok P G M pc (zx_loI i (pc + 2)) := by
  refine zx_pure (fun rec k L st h sl res hr => ?_)
  unfold zx_loI at hr
  split at hr
  · next x e1 =>
    refine ⟨_, _, _, hr, fun p l e R s m args below meth c H locs cells slots Q C ls CL cst g1 g2 g3 kk => ?_⟩
    obtain ⟨v, hv1, hv2⟩ := zx_lv_mem g2 (zx_ld_mem e1)
    cases hv2
    exact lv_iload C.1 C.2.1 hd (g1.2.2 _ hv1) (kk ls CL (.int x :: cst) g1 g2 ⟨rfl, g3⟩)
  · next b e1 =>
    refine ⟨_, _, _, hr, fun p l e R s m args below meth c H locs cells slots Q C ls CL cst g1 g2 g3 kk => ?_⟩
    obtain ⟨v, hv1, hv2⟩ := zx_lv_mem g2 (zx_ld_mem e1)
    obtain ⟨x, rfl, hx⟩ := hv2
    exact lv_iload C.1 C.2.1 hd (g1.2.2 _ hv1) (kk ls CL (.int x :: cst) g1 g2 ⟨⟨x, rfl, hx⟩, g3⟩)
  · cases hr
theorem zx_iload_n_ok {P : zx_P} {G : zx_G} {M : zx_M} {pc : Nat} {i : Nat} {kn : Fin 4} (hd : decode M.2.1 pc = .ok (.iload_n kn, 1)) (hi : (kn : Nat) = i) : zx_ok P G M pc (zx_loI i (pc + 1)) := by
  refine zx_pure (fun rec k L st h sl res hr => ?_)
  unfold zx_loI at hr
  split at hr
  · next x e1 =>
    refine ⟨_, _, _, hr, fun p l e R s m args below meth c H locs cells slots Q C ls CL cst g1 g2 g3 kk => ?_⟩
    obtain ⟨v, hv1, hv2⟩ := zx_lv_mem g2 (zx_ld_mem e1)
    cases hv2
    exact lv_iload_n C.1 C.2.1 hd hi (g1.2.2 _ hv1) (kk ls CL (.int x :: cst) g1 g2 ⟨rfl, g3⟩)
  · next b e1 =>
    refine ⟨_, _, _, hr, fun p l e R s m args below meth c H locs cells slots Q C ls CL cst g1 g2 g3 kk => ?_⟩
    obtain ⟨v, hv1, hv2⟩ := zx_lv_mem g2 (zx_ld_mem e1)
    obtain ⟨x, rfl, hx⟩ := hv2
    exact lv_iload_n C.1 C.2.1 hd hi (g1.2.2 _ hv1) (kk ls CL (.int x :: cst) g1 g2 ⟨⟨x, rfl, hx⟩, g3⟩)
  · cases hr
theorem zx_lload_ok {P : zx_P} {G : zx_G} {M : zx_M} {pc : Nat} {i : Nat} (hd : decode M.2.1 pc = .ok (.lload i, 2)) : zx_ok P G M pc (zx_loJ i (pc + 2)) := by
  refine zx_pure (fun rec k L st h sl res hr => ?_)
  unfold zx_loJ at hr
  split at hr
  · next x e1 =>
    refine ⟨_, _, _, hr, fun p l e R s m args below meth c H locs cells slots Q C ls CL cst g1 g2 g3 kk => ?_⟩
    obtain ⟨v, hv1, hv2⟩ := zx_lv_mem g2 (zx_ld_mem e1)
    cases hv2
    exact lv_lload C.1 C.2.1 hd (g1.2.2 _ hv1) (kk ls CL (.long x :: cst) g1 g2 ⟨rfl, g3⟩)
  · next b e1 =>
    refine ⟨_, _, _, hr, fun p l e R s m args below meth c H locs cells slots Q C ls CL cst g1 g2 g3 kk => ?_⟩
    obtain ⟨v, hv1, hv2⟩ := zx_lv_mem g2 (zx_ld_mem e1)
    obtain ⟨x, rfl, hx⟩ := hv2
    exact lv_lload C.1 C.2.1 hd (g1.2.2 _ hv1) (kk ls CL (.long x :: cst) g1 g2 ⟨⟨x, rfl, hx⟩, g3⟩)
  · cases hr
theorem zx_lload_n_ok {P : zx_P} {G : zx_G} {M : zx_M} {pc : Nat} {i : Nat} {kn : Fin 4} (hd : decode M.2.1 pc = .ok (.lload_n kn, 1)) (hi : (kn : Nat) = i) : zx_ok P G M pc (zx_loJ i (pc + 1)) := by
  refine zx_pure (fun rec k L st h sl res hr => ?_)
  unfold zx_loJ at hr
  split at hr
  · next x e1 =>
    refine ⟨_, _, _, hr, fun p l e R s m args below meth c H locs cells slots Q C ls CL cst g1 g2 g3 kk => ?_⟩
    obtain ⟨v, hv1, hv2⟩ := zx_lv_mem g2 (zx_ld_mem e1)
    cases hv2
    exact lv_lload_n C.1 C.2.1 hd hi (g1.2.2 _ hv1) (kk ls CL (.long x :: cst) g1 g2 ⟨rfl, g3⟩)
  · next b e1 =>
    refine ⟨_, _, _, hr, fun p l e R s m args below meth c H locs cells slots Q C ls CL cst g1 g2 g3 kk => ?_⟩
    obtain ⟨v, hv1, hv2⟩ := zx_lv_mem g2 (zx_ld_mem e1)
    obtain ⟨x, rfl, hx⟩ := hv2
    exact lv_lload_n C.1 C.2.1 hd hi (g1.2.2 _ hv1) (kk ls CL (.long x :: cst) g1 g2 ⟨⟨x, rfl, hx⟩, g3⟩)
  · cases hr
theorem zx_aload_ok {P : zx_P} {G : zx_G} {M : zx_M} {pc : Nat} {i : Nat} (hd : decode M.2.1 pc = .ok (.aload i, 2)) : zx_ok P G M pc (zx_loA i (pc + 2)) := by
  refine zx_pure (fun rec k L st h sl res hr => ?_)
  unfold zx_loA at hr
  split at hr
  · next x e1 =>
    refine ⟨_, _, _, hr, fun p l e R s m args below meth c H locs cells slots Q C ls CL cst g1 g2 g3 kk => ?_⟩
    obtain ⟨v, hv1, hv2⟩ := zx_lv_mem g2 (zx_ld_mem e1)
    cases hv2
    exact lv_aload C.1 C.2.1 hd (g1.2.2 _ hv1) (kk ls CL (.ref _ :: cst) g1 g2 ⟨rfl, g3⟩)
  · next e1 =>
    refine ⟨_, _, _, hr, fun p l e R s m args below meth c H locs cells slots Q C ls CL cst g1 g2 g3 kk => ?_⟩
    obtain ⟨v, hv1, hv2⟩ := zx_lv_mem g2 (zx_ld_mem e1)
    cases hv2
    exact lv_aloadN C.1 C.2.1 hd (g1.2.2 _ hv1) (kk ls CL (.null :: cst) g1 g2 ⟨rfl, g3⟩)
  · cases hr
theorem zx_aload_n_ok {P : zx_P} {G : zx_G} {M : zx_M} {pc : Nat} {i : Nat} {kn : Fin 4} (hd : decode M.2.1 pc = .ok (.aload_n kn, 1)) (hi : (kn : Nat) = i) : zx_ok P G M pc (zx_loA i (pc + 1)) := by
  refine zx_pure (fun rec k L st h sl res hr => ?_)
  unfold zx_loA at hr
  split at hr
  · next x e1 =>
    refine ⟨_, _, _, hr, fun p l e R s m args below meth c H locs cells slots Q C ls CL cst g1 g2 g3 kk => ?_⟩
    obtain ⟨v, hv1, hv2⟩ := zx_lv_mem g2 (zx_ld_mem e1)
    cases hv2
    exact lv_aload_n C.1 C.2.1 hd hi (g1.2.2 _ hv1) (kk ls CL (.ref _ :: cst) g1 g2 ⟨rfl, g3⟩)
  · next e1 =>
    refine ⟨_, _, _, hr, fun p l e R s m args below meth c H locs cells slots Q C ls CL cst g1 g2 g3 kk => ?_⟩
    obtain ⟨v, hv1, hv2⟩ := zx_lv_mem g2 (zx_ld_mem e1)
    cases hv2
    exact lv_aload_nN C.1 C.2.1 hd hi (g1.2.2 _ hv1) (kk ls CL (.null :: cst) g1 g2 ⟨rfl, g3⟩)
  · cases hr
noncomputable def zx_soI (i npc : Nat) : zx_F := fun _ L st h sl k => match st with
  | .int x :: r => zx_st false i L (fun L2 => k npc ((i, .int x) :: L2) r h sl)
  | .float b :: r => zx_st false i L (fun L2 => k npc ((i, .float b) :: L2) r h sl)
  | _ => none
noncomputable def zx_soJ (i npc : Nat) : zx_F := fun _ L st h sl k => match st with
  | .long x :: r => zx_st true i L (fun L2 => k npc ((i, .long x) :: L2) r h sl)
  | .double b :: r => zx_st true i L (fun L2 => k npc ((i, .double b) :: L2) r h sl)
  | _ => none
noncomputable def zx_soA (i npc : Nat) : zx_F := fun _ L st h sl k => match st with
  | .ref x :: r => zx_st false i L (fun L2 => k npc ((i, .ref x) :: L2) r h sl)
  | .null :: r => zx_st false i L (fun L2 => k npc ((i, .null) :: L2) r h sl)
  | _ => none
theorem zx_istore_ok {P : zx_P} {G : zx_G} {M : zx_M} {pc : Nat} {i : Nat} (hd : decode M.2.1 pc = .ok (.istore i, 2)) (hn : i < M.2.2.1) : zx_ok P G M pc (zx_soI i (pc + 2)) := by
  refine zx_pure (fun rec k L st h sl res hr => ?_)
  unfold zx_soI at hr
  split at hr
  · next x r =>
    rw [zx_st_eq] at hr
    refine ⟨_, _, _, hr, fun p l e R s m args below meth c H locs cells slots Q C ls CL cst g1 g2 g3 kk => ?_⟩
    obtain ⟨v, vs, rfl, hv, hvs⟩ := zx_vs_cons g3
    cases hv
    exact lv_istore C.1 C.2.1 hd g1 hn rfl (fun ls2 hl2 => kk ls2 ((i, .int x) :: CL.filter (zx_cv false i)) vs (by rw [zx_cv_i] at hl2; exact hl2) ⟨⟨rfl, rfl⟩, zx_lv_filter false i g2⟩ hvs)
  · next b r =>
    rw [zx_st_eq] at hr
    refine ⟨_, _, _, hr, fun p l e R s m args below meth c H locs cells slots Q C ls CL cst g1 g2 g3 kk => ?_⟩
    obtain ⟨v, vs, rfl, hv, hvs⟩ := zx_vs_cons g3
    obtain ⟨x, rfl, hx⟩ := hv
    exact lv_istore C.1 C.2.1 hd g1 hn rfl (fun ls2 hl2 => kk ls2 ((i, .int x) :: CL.filter (zx_cv false i)) vs (by rw [zx_cv_i] at hl2; exact hl2) ⟨⟨rfl, ⟨x, rfl, hx⟩⟩, zx_lv_filter false i g2⟩ hvs)
  · cases hr
theorem zx_istore_n_ok {P : zx_P} {G : zx_G} {M : zx_M} {pc : Nat} {i : Nat} {kn : Fin 4} (hd : decode M.2.1 pc = .ok (.istore_n kn, 1)) (hi : (kn : Nat) = i) (hn : i < M.2.2.1) : zx_ok P G M pc (zx_soI i (pc + 1)) := by
  refine zx_pure (fun rec k L st h sl res hr => ?_)
  unfold zx_soI at hr
  split at hr
  · next x r =>
    rw [zx_st_eq] at hr
    refine ⟨_, _, _, hr, fun p l e R s m args below meth c H locs cells slots Q C ls CL cst g1 g2 g3 kk => ?_⟩
    obtain ⟨v, vs, rfl, hv, hvs⟩ := zx_vs_cons g3
    cases hv
    exact lv_istore_n C.1 C.2.1 hd hi g1 hn rfl (fun ls2 hl2 => kk ls2 ((i, .int x) :: CL.filter (zx_cv false i)) vs (by rw [zx_cv_i] at hl2; exact hl2) ⟨⟨rfl, rfl⟩, zx_lv_filter false i g2⟩ hvs)
  · next b r =>
    rw [zx_st_eq] at hr
    refine ⟨_, _, _, hr, fun p l e R s m args below meth c H locs cells slots Q C ls CL cst g1 g2 g3 kk => ?_⟩
    obtain ⟨v, vs, rfl, hv, hvs⟩ := zx_vs_cons g3
    obtain ⟨x, rfl, hx⟩ := hv
    exact lv_istore_n C.1 C.2.1 hd hi g1 hn rfl (fun ls2 hl2 => kk ls2 ((i, .int x) :: CL.filter (zx_cv false i)) vs (by rw [zx_cv_i] at hl2; exact hl2) ⟨⟨rfl, ⟨x, rfl, hx⟩⟩, zx_lv_filter false i g2⟩ hvs)
  · cases hr
theorem zx_lstore_ok {P : zx_P} {G : zx_G} {M : zx_M} {pc : Nat} {i : Nat} (hd : decode M.2.1 pc = .ok (.lstore i, 2)) (hn : i + 1 < M.2.2.1) : zx_ok P G M pc (zx_soJ i (pc + 2)) := by
  refine zx_pure (fun rec k L st h sl res hr => ?_)
  unfold zx_soJ at hr
  split at hr
  · next x r =>
    rw [zx_st_eq] at hr
    refine ⟨_, _, _, hr, fun p l e R s m args below meth c H locs cells slots Q C ls CL cst g1 g2 g3 kk => ?_⟩
    obtain ⟨v, vs, rfl, hv, hvs⟩ := zx_vs_cons g3
    cases hv
    exact lv_lstore C.1 C.2.1 hd g1 hn rfl (fun ls2 hl2 => kk ls2 ((i, .long x) :: CL.filter (zx_cv true i)) vs (by rw [zx_cv_l] at hl2; exact hl2) ⟨⟨rfl, rfl⟩, zx_lv_filter true i g2⟩ hvs)
  · next b r =>
    rw [zx_st_eq] at hr
    refine ⟨_, _, _, hr, fun p l e R s m args below meth c H locs cells slots Q C ls CL cst g1 g2 g3 kk => ?_⟩
    obtain ⟨v, vs, rfl, hv, hvs⟩ := zx_vs_cons g3
    obtain ⟨x, rfl, hx⟩ := hv
    exact lv_lstore C.1 C.2.1 hd g1 hn rfl (fun ls2 hl2 => kk ls2 ((i, .long x) :: CL.filter (zx_cv true i)) vs (by rw [zx_cv_l] at hl2; exact hl2) ⟨⟨rfl, ⟨x, rfl, hx⟩⟩, zx_lv_filter true i g2⟩ hvs)
  · cases hr
theorem zx_lstore_n_ok {P : zx_P} {G : zx_G} {M : zx_M} {pc : Nat} {i : Nat} {kn : Fin 4} (hd : decode M.2.1 pc = .ok (.lstore_n kn, 1)) (hi : (kn : Nat) = i) (hn : i + 1 < M.2.2.1) : zx_ok P G M pc (zx_soJ i (pc + 1)) := by
  refine zx_pure (fun rec k L st h sl res hr => ?_)
  unfold zx_soJ at hr
  split at hr
  · next x r =>
    rw [zx_st_eq] at hr
    refine ⟨_, _, _, hr, fun p l e R s m args below meth c H locs cells slots Q C ls CL cst g1 g2 g3 kk => ?_⟩
    obtain ⟨v, vs, rfl, hv, hvs⟩ := zx_vs_cons g3
    cases hv
    exact lv_lstore_n C.1 C.2.1 hd hi g1 hn rfl (fun ls2 hl2 => kk ls2 ((i, .long x) :: CL.filter (zx_cv true i)) vs (by rw [zx_cv_l] at hl2; exact hl2) ⟨⟨rfl, rfl⟩, zx_lv_filter true i g2⟩ hvs)
  · next b r =>
    rw [zx_st_eq] at hr
    refine ⟨_, _, _, hr, fun p l e R s m args below meth c H locs cells slots Q C ls CL cst g1 g2 g3 kk => ?_⟩
    obtain ⟨v, vs, rfl, hv, hvs⟩ := zx_vs_cons g3
    obtain ⟨x, rfl, hx⟩ := hv
    exact lv_lstore_n C.1 C.2.1 hd hi g1 hn rfl (fun ls2 hl2 => kk ls2 ((i, .long x) :: CL.filter (zx_cv true i)) vs (by rw [zx_cv_l] at hl2; exact hl2) ⟨⟨rfl, ⟨x, rfl, hx⟩⟩, zx_lv_filter true i g2⟩ hvs)
  · cases hr
theorem zx_astore_ok {P : zx_P} {G : zx_G} {M : zx_M} {pc : Nat} {i : Nat} (hd : decode M.2.1 pc = .ok (.astore i, 2)) (hn : i < M.2.2.1) : zx_ok P G M pc (zx_soA i (pc + 2)) := by
  refine zx_pure (fun rec k L st h sl res hr => ?_)
  unfold zx_soA at hr
  split at hr
  · next x r =>
    rw [zx_st_eq] at hr
    refine ⟨_, _, _, hr, fun p l e R s m args below meth c H locs cells slots Q C ls CL cst g1 g2 g3 kk => ?_⟩
    obtain ⟨v, vs, rfl, hv, hvs⟩ := zx_vs_cons g3
    cases hv
    exact lv_astore C.1 C.2.1 hd g1 hn rfl (fun ls2 hl2 => kk ls2 ((i, .ref (G.2.2.2.1.1 x)) :: CL.filter (zx_cv false i)) vs (by rw [zx_cv_i] at hl2; exact hl2) ⟨⟨rfl, rfl⟩, zx_lv_filter false i g2⟩ hvs)
  · next r =>
    rw [zx_st_eq] at hr
    refine ⟨_, _, _, hr, fun p l e R s m args below meth c H locs cells slots Q C ls CL cst g1 g2 g3 kk => ?_⟩
    obtain ⟨v, vs, rfl, hv, hvs⟩ := zx_vs_cons g3
    cases hv
    exact lv_astoreN C.1 C.2.1 hd g1 hn rfl (fun ls2 hl2 => kk ls2 ((i, .null) :: CL.filter (zx_cv false i)) vs (by rw [zx_cv_i] at hl2; exact hl2) ⟨⟨rfl, rfl⟩, zx_lv_filter false i g2⟩ hvs)
  · cases hr
theorem zx_astore_n_ok {P : zx_P} {G : zx_G} {M : zx_M} {pc : Nat} {i : Nat} {kn : Fin 4} (hd : decode M.2.1 pc = .ok (.astore_n kn, 1)) (hi : (kn : Nat) = i) (hn : i < M.2.2.1) : zx_ok P G M pc (zx_soA i (pc + 1)) := by
  refine zx_pure (fun rec k L st h sl res hr => ?_)
  unfold zx_soA at hr
  split at hr
  · next x r =>
    rw [zx_st_eq] at hr
    refine ⟨_, _, _, hr, fun p l e R s m args below meth c H locs cells slots Q C ls CL cst g1 g2 g3 kk => ?_⟩
    obtain ⟨v, vs, rfl, hv, hvs⟩ := zx_vs_cons g3
    cases hv
    exact lv_astore_n C.1 C.2.1 hd hi g1 hn rfl (fun ls2 hl2 => kk ls2 ((i, .ref (G.2.2.2.1.1 x)) :: CL.filter (zx_cv false i)) vs (by rw [zx_cv_i] at hl2; exact hl2) ⟨⟨rfl, rfl⟩, zx_lv_filter false i g2⟩ hvs)
  · next r =>
    rw [zx_st_eq] at hr
    refine ⟨_, _, _, hr, fun p l e R s m args below meth c H locs cells slots Q C ls CL cst g1 g2 g3 kk => ?_⟩
    obtain ⟨v, vs, rfl, hv, hvs⟩ := zx_vs_cons g3
    cases hv
    exact lv_astore_nN C.1 C.2.1 hd hi g1 hn rfl (fun ls2 hl2 => kk ls2 ((i, .null) :: CL.filter (zx_cv false i)) vs (by rw [zx_cv_i] at hl2; exact hl2) ⟨⟨rfl, rfl⟩, zx_lv_filter false i g2⟩ hvs)
  · cases hr
noncomputable def zx_inc (i : Nat) (n : Int32) (npc : Nat) : zx_F := fun _ L st h sl k => match zx_ld L i with
  | some (.int x) => zx_st false i L (fun L2 => k npc ((i, zx_i (x + n)) :: L2) st h sl)
  | some (.float _) => zx_st false i L (fun L2 => k npc ((i, .float 0) :: L2) st h sl)
  | _ => none
theorem zx_iinc_ok {P : zx_P} {G : zx_G} {M : zx_M} {pc : Nat} {i : Nat} {n : Int} {n2 : Int32} (hd : decode M.2.1 pc = .ok (.iinc i n, 3)) (hn2 : Int32.ofInt n = n2) (hn : i < M.2.2.1) : zx_ok P G M pc (zx_inc i n2 (pc + 3)) := by
  subst hn2
  refine zx_pure (fun rec k L st h sl res hr => ?_)
  unfold zx_inc at hr
  split at hr
  · next x e1 =>
    rw [zx_st_eq] at hr
    refine ⟨_, _, _, hr, fun p l e R s m args below meth c H locs cells slots Q C ls CL cst g1 g2 g3 kk => ?_⟩
    obtain ⟨v, hv1, hv2⟩ := zx_lv_mem g2 (zx_ld_mem e1)
    cases hv2
    obtain ⟨q, hq⟩ := List.getElem?_of_mem hv1
    exact lv_iinc C.1 C.2.1 hd g1 hq rfl hn rfl (fun ls2 hl2 => kk ls2 ((i, .int (x + Int32.ofInt n)) :: CL.filter (zx_cv false i)) cst (by rw [zx_cv_i] at hl2; exact hl2) ⟨⟨rfl, by rw [zx_i_eq]; rfl⟩, zx_lv_filter false i g2⟩ g3)
  · next b e1 =>
    rw [zx_st_eq] at hr
    refine ⟨_, _, _, hr, fun p l e R s m args below meth c H locs cells slots Q C ls CL cst g1 g2 g3 kk => ?_⟩
    obtain ⟨v, hv1, hv2⟩ := zx_lv_mem g2 (zx_ld_mem e1)
    obtain ⟨x, rfl, -⟩ := hv2
    obtain ⟨q, hq⟩ := List.getElem?_of_mem hv1
    exact lv_iinc C.1 C.2.1 hd g1 hq rfl hn rfl (fun ls2 hl2 => kk ls2 ((i, .int (x + Int32.ofInt n)) :: CL.filter (zx_cv false i)) cst (by rw [zx_cv_i] at hl2; exact hl2) ⟨⟨rfl, zx_fz _⟩, zx_lv_filter false i g2⟩ g3)
  · cases hr
noncomputable def zx_bI (q : UInt32 → Int32 → Option Value) (f : Int32 → Int32 → Int32) (npc : Nat) : zx_F := fun _ L st h sl k => match st with
  | .int b :: .int a :: r => k npc L (zx_i (f a b) :: r) h sl
  | .float _ :: .int _ :: r => k npc L (.float 0 :: r) h sl
  | .int b :: .float a :: r => match q a b with
    | some v => k npc L (v :: r) h sl
    | none => k npc L (.float 0 :: r) h sl
  | .float _ :: .float _ :: r => k npc L (.float 0 :: r) h sl
  | _ => none
theorem zx_bI_ok {P : zx_P} {G : zx_G} {M : zx_M} {pc : Nat} {q : UInt32 → Int32 → Option Value} {f : Int32 → Int32 → Int32} {npc : Nat} (hq : ∀ a b v, q a b = some v → a ≠ 0 ∧ zx_v G.2.2.2.1 v (.int (f (G.2.2.2.1.2.1 a) b))) (row : ∀ (p : Program) (l : Launch) (e : Env) (R : Room) (s : State) (m : MethodId) (args : Array Value) (below : List Frame) (meth : Method) (c : Code) (H : Heap) (locs : List Loc) (cells slots : Nat) (Q : State → Prop) (ls : Array Slot) (rest : List Value) (a : Int32) (b : Int32), p.tables.exec = Jvm.exec → c.code = M.2.1 → W p l e R s m args below meth c H locs cells slots Q (F0 m npc ls (.int (f a b) :: rest)) → W p l e R s m args below meth c H locs cells slots Q (F0 m pc ls (.int b :: .int a :: rest))) : zx_ok P G M pc (zx_bI q f npc) := by
  refine zx_pure (fun rec k L st h sl res hr => ?_)
  unfold zx_bI at hr
  split at hr
  · next b a r =>
    refine ⟨_, _, _, hr, fun p l e R s m args below meth c H locs cells slots Q C ls CL cst g1 g2 g3 kk => ?_⟩
    obtain ⟨v, vs, rfl, hv, hvs⟩ := zx_vs_cons g3
    obtain ⟨v2, vs2, rfl, hv2, hvs2⟩ := zx_vs_cons hvs
    cases hv
    cases hv2
    exact row p l e R s m args below meth c H locs cells slots Q ls vs2 a b C.1 C.2.1 (kk ls CL (.int (f a b) :: vs2) g1 g2 ⟨by rw [zx_i_eq]; rfl, hvs2⟩)
  · refine ⟨_, _, _, hr, fun p l e R s m args below meth c H locs cells slots Q C ls CL cst g1 g2 g3 kk => ?_⟩
    obtain ⟨v, vs, rfl, hv, hvs⟩ := zx_vs_cons g3
    obtain ⟨v2, vs2, rfl, hv2, hvs2⟩ := zx_vs_cons hvs
    obtain ⟨b, rfl, hb⟩ := hv
    cases hv2
    exact row p l e R s m args below meth c H locs cells slots Q ls vs2 _ b C.1 C.2.1 (kk ls CL (.int (f _ b) :: vs2) g1 g2 ⟨zx_fz _, hvs2⟩)
  · next b a r =>
    split at hr
    · next v0 e1 =>
      refine ⟨_, _, _, hr, fun p l e R s m args below meth c H locs cells slots Q C ls CL cst g1 g2 g3 kk => ?_⟩
      obtain ⟨v, vs, rfl, hv, hvs⟩ := zx_vs_cons g3
      obtain ⟨v2, vs2, rfl, hv2, hvs2⟩ := zx_vs_cons hvs
      obtain ⟨x, rfl, hx⟩ := hv2
      cases hv
      obtain ⟨h0, h1⟩ := hq a b v0 e1
      rw [← hx h0] at h1
      exact row p l e R s m args below meth c H locs cells slots Q ls vs2 x _ C.1 C.2.1 (kk ls CL (.int (f x _) :: vs2) g1 g2 ⟨h1, hvs2⟩)
    · refine ⟨_, _, _, hr, fun p l e R s m args below meth c H locs cells slots Q C ls CL cst g1 g2 g3 kk => ?_⟩
      obtain ⟨v, vs, rfl, hv, hvs⟩ := zx_vs_cons g3
      obtain ⟨v2, vs2, rfl, hv2, hvs2⟩ := zx_vs_cons hvs
      obtain ⟨x, rfl, hx⟩ := hv2
      cases hv
      exact row p l e R s m args below meth c H locs cells slots Q ls vs2 x _ C.1 C.2.1 (kk ls CL (.int (f x _) :: vs2) g1 g2 ⟨zx_fz _, hvs2⟩)
  · refine ⟨_, _, _, hr, fun p l e R s m args below meth c H locs cells slots Q C ls CL cst g1 g2 g3 kk => ?_⟩
    obtain ⟨v, vs, rfl, hv, hvs⟩ := zx_vs_cons g3
    obtain ⟨v2, vs2, rfl, hv2, hvs2⟩ := zx_vs_cons hvs
    obtain ⟨b, rfl, hb⟩ := hv
    obtain ⟨a, rfl, ha⟩ := hv2
    exact row p l e R s m args below meth c H locs cells slots Q ls vs2 a b C.1 C.2.1 (kk ls CL (.int (f a b) :: vs2) g1 g2 ⟨zx_fz _, hvs2⟩)
  · cases hr
noncomputable def zx_bJ (f : Int64 → Int64 → Int64) (npc : Nat) : zx_F := fun _ L st h sl k => match st with
  | .long b :: .long a :: r => k npc L (zx_l (f a b) :: r) h sl
  | .double _ :: .long _ :: r => k npc L (.double 0 :: r) h sl
  | .long _ :: .double _ :: r => k npc L (.double 0 :: r) h sl
  | .double _ :: .double _ :: r => k npc L (.double 0 :: r) h sl
  | _ => none
theorem zx_bJ_ok {P : zx_P} {G : zx_G} {M : zx_M} {pc : Nat} {f : Int64 → Int64 → Int64} {npc : Nat} (row : ∀ (p : Program) (l : Launch) (e : Env) (R : Room) (s : State) (m : MethodId) (args : Array Value) (below : List Frame) (meth : Method) (c : Code) (H : Heap) (locs : List Loc) (cells slots : Nat) (Q : State → Prop) (ls : Array Slot) (rest : List Value) (a : Int64) (b : Int64), p.tables.exec = Jvm.exec → c.code = M.2.1 → W p l e R s m args below meth c H locs cells slots Q (F0 m npc ls (.long (f a b) :: rest)) → W p l e R s m args below meth c H locs cells slots Q (F0 m pc ls (.long b :: .long a :: rest))) : zx_ok P G M pc (zx_bJ f npc) := by
  refine zx_pure (fun rec k L st h sl res hr => ?_)
  unfold zx_bJ at hr
  split at hr
  · next b a r =>
    refine ⟨_, _, _, hr, fun p l e R s m args below meth c H locs cells slots Q C ls CL cst g1 g2 g3 kk => ?_⟩
    obtain ⟨v, vs, rfl, hv, hvs⟩ := zx_vs_cons g3
    obtain ⟨v2, vs2, rfl, hv2, hvs2⟩ := zx_vs_cons hvs
    cases hv
    cases hv2
    exact row p l e R s m args below meth c H locs cells slots Q ls vs2 a b C.1 C.2.1 (kk ls CL (.long (f a b) :: vs2) g1 g2 ⟨by rw [zx_l_eq]; rfl, hvs2⟩)
  · refine ⟨_, _, _, hr, fun p l e R s m args below meth c H locs cells slots Q C ls CL cst g1 g2 g3 kk => ?_⟩
    obtain ⟨v, vs, rfl, hv, hvs⟩ := zx_vs_cons g3
    obtain ⟨v2, vs2, rfl, hv2, hvs2⟩ := zx_vs_cons hvs
    obtain ⟨b, rfl, hb⟩ := hv
    cases hv2
    exact row p l e R s m args below meth c H locs cells slots Q ls vs2 _ b C.1 C.2.1 (kk ls CL (.long (f _ b) :: vs2) g1 g2 ⟨zx_dz _, hvs2⟩)
  · refine ⟨_, _, _, hr, fun p l e R s m args below meth c H locs cells slots Q C ls CL cst g1 g2 g3 kk => ?_⟩
    obtain ⟨v, vs, rfl, hv, hvs⟩ := zx_vs_cons g3
    obtain ⟨v2, vs2, rfl, hv2, hvs2⟩ := zx_vs_cons hvs
    obtain ⟨a, rfl, ha⟩ := hv2
    cases hv
    exact row p l e R s m args below meth c H locs cells slots Q ls vs2 a _ C.1 C.2.1 (kk ls CL (.long (f a _) :: vs2) g1 g2 ⟨zx_dz _, hvs2⟩)
  · refine ⟨_, _, _, hr, fun p l e R s m args below meth c H locs cells slots Q C ls CL cst g1 g2 g3 kk => ?_⟩
    obtain ⟨v, vs, rfl, hv, hvs⟩ := zx_vs_cons g3
    obtain ⟨v2, vs2, rfl, hv2, hvs2⟩ := zx_vs_cons hvs
    obtain ⟨b, rfl, hb⟩ := hv
    obtain ⟨a, rfl, ha⟩ := hv2
    exact row p l e R s m args below meth c H locs cells slots Q ls vs2 a b C.1 C.2.1 (kk ls CL (.long (f a b) :: vs2) g1 g2 ⟨zx_dz _, hvs2⟩)
  · cases hr
noncomputable def zx_bS (f : Int64 → Int32 → Int64) (npc : Nat) : zx_F := fun _ L st h sl k => match st with
  | .int b :: .long a :: r => k npc L (zx_l (f a b) :: r) h sl
  | .float _ :: .long _ :: r => k npc L (.double 0 :: r) h sl
  | .int _ :: .double _ :: r => k npc L (.double 0 :: r) h sl
  | .float _ :: .double _ :: r => k npc L (.double 0 :: r) h sl
  | _ => none
theorem zx_bS_ok {P : zx_P} {G : zx_G} {M : zx_M} {pc : Nat} {f : Int64 → Int32 → Int64} {npc : Nat} (row : ∀ (p : Program) (l : Launch) (e : Env) (R : Room) (s : State) (m : MethodId) (args : Array Value) (below : List Frame) (meth : Method) (c : Code) (H : Heap) (locs : List Loc) (cells slots : Nat) (Q : State → Prop) (ls : Array Slot) (rest : List Value) (a : Int64) (b : Int32), p.tables.exec = Jvm.exec → c.code = M.2.1 → W p l e R s m args below meth c H locs cells slots Q (F0 m npc ls (.long (f a b) :: rest)) → W p l e R s m args below meth c H locs cells slots Q (F0 m pc ls (.int b :: .long a :: rest))) : zx_ok P G M pc (zx_bS f npc) := by
  refine zx_pure (fun rec k L st h sl res hr => ?_)
  unfold zx_bS at hr
  split at hr
  · next b a r =>
    refine ⟨_, _, _, hr, fun p l e R s m args below meth c H locs cells slots Q C ls CL cst g1 g2 g3 kk => ?_⟩
    obtain ⟨v, vs, rfl, hv, hvs⟩ := zx_vs_cons g3
    obtain ⟨v2, vs2, rfl, hv2, hvs2⟩ := zx_vs_cons hvs
    cases hv
    cases hv2
    exact row p l e R s m args below meth c H locs cells slots Q ls vs2 a b C.1 C.2.1 (kk ls CL (.long (f a b) :: vs2) g1 g2 ⟨by rw [zx_l_eq]; rfl, hvs2⟩)
  · refine ⟨_, _, _, hr, fun p l e R s m args below meth c H locs cells slots Q C ls CL cst g1 g2 g3 kk => ?_⟩
    obtain ⟨v, vs, rfl, hv, hvs⟩ := zx_vs_cons g3
    obtain ⟨v2, vs2, rfl, hv2, hvs2⟩ := zx_vs_cons hvs
    obtain ⟨b, rfl, hb⟩ := hv
    cases hv2
    exact row p l e R s m args below meth c H locs cells slots Q ls vs2 _ b C.1 C.2.1 (kk ls CL (.long (f _ b) :: vs2) g1 g2 ⟨zx_dz _, hvs2⟩)
  · refine ⟨_, _, _, hr, fun p l e R s m args below meth c H locs cells slots Q C ls CL cst g1 g2 g3 kk => ?_⟩
    obtain ⟨v, vs, rfl, hv, hvs⟩ := zx_vs_cons g3
    obtain ⟨v2, vs2, rfl, hv2, hvs2⟩ := zx_vs_cons hvs
    obtain ⟨a, rfl, ha⟩ := hv2
    cases hv
    exact row p l e R s m args below meth c H locs cells slots Q ls vs2 a _ C.1 C.2.1 (kk ls CL (.long (f a _) :: vs2) g1 g2 ⟨zx_dz _, hvs2⟩)
  · refine ⟨_, _, _, hr, fun p l e R s m args below meth c H locs cells slots Q C ls CL cst g1 g2 g3 kk => ?_⟩
    obtain ⟨v, vs, rfl, hv, hvs⟩ := zx_vs_cons g3
    obtain ⟨v2, vs2, rfl, hv2, hvs2⟩ := zx_vs_cons hvs
    obtain ⟨b, rfl, hb⟩ := hv
    obtain ⟨a, rfl, ha⟩ := hv2
    exact row p l e R s m args below meth c H locs cells slots Q ls vs2 a b C.1 C.2.1 (kk ls CL (.long (f a b) :: vs2) g1 g2 ⟨zx_dz _, hvs2⟩)
  · cases hr
noncomputable def zx_bC (f : Int64 → Int64 → Int32) (npc : Nat) : zx_F := fun _ L st h sl k => match st with
  | .long b :: .long a :: r => k npc L (zx_i (f a b) :: r) h sl
  | .double _ :: .long _ :: r => k npc L (.float 0 :: r) h sl
  | .long _ :: .double _ :: r => k npc L (.float 0 :: r) h sl
  | .double _ :: .double _ :: r => k npc L (.float 0 :: r) h sl
  | _ => none
theorem zx_bC_ok {P : zx_P} {G : zx_G} {M : zx_M} {pc : Nat} {f : Int64 → Int64 → Int32} {npc : Nat} (row : ∀ (p : Program) (l : Launch) (e : Env) (R : Room) (s : State) (m : MethodId) (args : Array Value) (below : List Frame) (meth : Method) (c : Code) (H : Heap) (locs : List Loc) (cells slots : Nat) (Q : State → Prop) (ls : Array Slot) (rest : List Value) (a : Int64) (b : Int64), p.tables.exec = Jvm.exec → c.code = M.2.1 → W p l e R s m args below meth c H locs cells slots Q (F0 m npc ls (.int (f a b) :: rest)) → W p l e R s m args below meth c H locs cells slots Q (F0 m pc ls (.long b :: .long a :: rest))) : zx_ok P G M pc (zx_bC f npc) := by
  refine zx_pure (fun rec k L st h sl res hr => ?_)
  unfold zx_bC at hr
  split at hr
  · next b a r =>
    refine ⟨_, _, _, hr, fun p l e R s m args below meth c H locs cells slots Q C ls CL cst g1 g2 g3 kk => ?_⟩
    obtain ⟨v, vs, rfl, hv, hvs⟩ := zx_vs_cons g3
    obtain ⟨v2, vs2, rfl, hv2, hvs2⟩ := zx_vs_cons hvs
    cases hv
    cases hv2
    exact row p l e R s m args below meth c H locs cells slots Q ls vs2 a b C.1 C.2.1 (kk ls CL (.int (f a b) :: vs2) g1 g2 ⟨by rw [zx_i_eq]; rfl, hvs2⟩)
  · refine ⟨_, _, _, hr, fun p l e R s m args below meth c H locs cells slots Q C ls CL cst g1 g2 g3 kk => ?_⟩
    obtain ⟨v, vs, rfl, hv, hvs⟩ := zx_vs_cons g3
    obtain ⟨v2, vs2, rfl, hv2, hvs2⟩ := zx_vs_cons hvs
    obtain ⟨b, rfl, hb⟩ := hv
    cases hv2
    exact row p l e R s m args below meth c H locs cells slots Q ls vs2 _ b C.1 C.2.1 (kk ls CL (.int (f _ b) :: vs2) g1 g2 ⟨zx_fz _, hvs2⟩)
  · refine ⟨_, _, _, hr, fun p l e R s m args below meth c H locs cells slots Q C ls CL cst g1 g2 g3 kk => ?_⟩
    obtain ⟨v, vs, rfl, hv, hvs⟩ := zx_vs_cons g3
    obtain ⟨v2, vs2, rfl, hv2, hvs2⟩ := zx_vs_cons hvs
    obtain ⟨a, rfl, ha⟩ := hv2
    cases hv
    exact row p l e R s m args below meth c H locs cells slots Q ls vs2 a _ C.1 C.2.1 (kk ls CL (.int (f a _) :: vs2) g1 g2 ⟨zx_fz _, hvs2⟩)
  · refine ⟨_, _, _, hr, fun p l e R s m args below meth c H locs cells slots Q C ls CL cst g1 g2 g3 kk => ?_⟩
    obtain ⟨v, vs, rfl, hv, hvs⟩ := zx_vs_cons g3
    obtain ⟨v2, vs2, rfl, hv2, hvs2⟩ := zx_vs_cons hvs
    obtain ⟨b, rfl, hb⟩ := hv
    obtain ⟨a, rfl, ha⟩ := hv2
    exact row p l e R s m args below meth c H locs cells slots Q ls vs2 a b C.1 C.2.1 (kk ls CL (.int (f a b) :: vs2) g1 g2 ⟨zx_fz _, hvs2⟩)
  · cases hr
noncomputable def zx_iadd (o : zx_O) (npc : Nat) : zx_F := zx_bI (zx_ask o 7) (fun a b => a + b) npc
theorem zx_iadd_ok {P : zx_P} {G : zx_G} {M : zx_M} {pc : Nat} {o : zx_O} (ho : zx_oo G.2.2.2.1 o) (hd : decode M.2.1 pc = .ok (.iadd, 1)) : zx_ok P G M pc (zx_iadd o (pc + 1)) := zx_bI_ok (fun _ _ _ h => zx_ask_ok ho h) (fun p l e R s m args below meth c H locs cells slots Q ls rest a b hx hb k => lv_iadd hx hb hd k)
noncomputable def zx_isub (o : zx_O) (npc : Nat) : zx_F := zx_bI (zx_ask o 8) (fun a b => a - b) npc
theorem zx_isub_ok {P : zx_P} {G : zx_G} {M : zx_M} {pc : Nat} {o : zx_O} (ho : zx_oo G.2.2.2.1 o) (hd : decode M.2.1 pc = .ok (.isub, 1)) : zx_ok P G M pc (zx_isub o (pc + 1)) := zx_bI_ok (fun _ _ _ h => zx_ask_ok ho h) (fun p l e R s m args below meth c H locs cells slots Q ls rest a b hx hb k => lv_isub hx hb hd k)
noncomputable def zx_imul (npc : Nat) : zx_F := zx_bI (fun _ _ => none) (fun a b => a * b) npc
theorem zx_imul_ok {P : zx_P} {G : zx_G} {M : zx_M} {pc : Nat} (hd : decode M.2.1 pc = .ok (.imul, 1)) : zx_ok P G M pc (zx_imul (pc + 1)) := zx_bI_ok (fun _ _ _ h => nomatch h) (fun p l e R s m args below meth c H locs cells slots Q ls rest a b hx hb k => lv_imul hx hb hd k)
noncomputable def zx_iand (o : zx_O) (npc : Nat) : zx_F := zx_bI (zx_ask o 3) (fun a b => a &&& b) npc
theorem zx_iand_ok {P : zx_P} {G : zx_G} {M : zx_M} {pc : Nat} {o : zx_O} (ho : zx_oo G.2.2.2.1 o) (hd : decode M.2.1 pc = .ok (.iand, 1)) : zx_ok P G M pc (zx_iand o (pc + 1)) := zx_bI_ok (fun _ _ _ h => zx_ask_ok ho h) (fun p l e R s m args below meth c H locs cells slots Q ls rest a b hx hb k => lv_iand hx hb hd k)
noncomputable def zx_ior (npc : Nat) : zx_F := zx_bI (fun _ _ => none) (fun a b => a ||| b) npc
theorem zx_ior_ok {P : zx_P} {G : zx_G} {M : zx_M} {pc : Nat} (hd : decode M.2.1 pc = .ok (.ior, 1)) : zx_ok P G M pc (zx_ior (pc + 1)) := zx_bI_ok (fun _ _ _ h => nomatch h) (fun p l e R s m args below meth c H locs cells slots Q ls rest a b hx hb k => lv_ior hx hb hd k)
noncomputable def zx_ixor (npc : Nat) : zx_F := zx_bI (fun _ _ => none) (fun a b => a ^^^ b) npc
theorem zx_ixor_ok {P : zx_P} {G : zx_G} {M : zx_M} {pc : Nat} (hd : decode M.2.1 pc = .ok (.ixor, 1)) : zx_ok P G M pc (zx_ixor (pc + 1)) := zx_bI_ok (fun _ _ _ h => nomatch h) (fun p l e R s m args below meth c H locs cells slots Q ls rest a b hx hb k => lv_ixor hx hb hd k)
noncomputable def zx_ishl (npc : Nat) : zx_F := zx_bI (fun _ _ => none) (fun a b => a <<< (b &&& 31)) npc
theorem zx_ishl_ok {P : zx_P} {G : zx_G} {M : zx_M} {pc : Nat} (hd : decode M.2.1 pc = .ok (.ishl, 1)) : zx_ok P G M pc (zx_ishl (pc + 1)) := zx_bI_ok (fun _ _ _ h => nomatch h) (fun p l e R s m args below meth c H locs cells slots Q ls rest a b hx hb k => lv_ishl hx hb hd k)
noncomputable def zx_ishr (o : zx_O) (npc : Nat) : zx_F := zx_bI (zx_ask o 5) (fun a b => a >>> (b &&& 31)) npc
theorem zx_ishr_ok {P : zx_P} {G : zx_G} {M : zx_M} {pc : Nat} {o : zx_O} (ho : zx_oo G.2.2.2.1 o) (hd : decode M.2.1 pc = .ok (.ishr, 1)) : zx_ok P G M pc (zx_ishr o (pc + 1)) := zx_bI_ok (fun _ _ _ h => zx_ask_ok ho h) (fun p l e R s m args below meth c H locs cells slots Q ls rest a b hx hb k => lv_ishr hx hb hd k)
noncomputable def zx_iushr (o : zx_O) (npc : Nat) : zx_F := zx_bI (zx_ask o 10) (fun a b => (a.toUInt32 >>> (b.toUInt32 &&& Int32.toUInt32 31)).toInt32) npc
theorem zx_iushr_ok {P : zx_P} {G : zx_G} {M : zx_M} {pc : Nat} {o : zx_O} (ho : zx_oo G.2.2.2.1 o) (hd : decode M.2.1 pc = .ok (.iushr, 1)) : zx_ok P G M pc (zx_iushr o (pc + 1)) := zx_bI_ok (fun _ _ _ h => zx_ask_ok ho h) (fun p l e R s m args below meth c H locs cells slots Q ls rest a b hx hb k => lv_iushr hx hb hd rfl k)
noncomputable def zx_ladd (npc : Nat) : zx_F := zx_bJ (fun a b => a + b) npc
theorem zx_ladd_ok {P : zx_P} {G : zx_G} {M : zx_M} {pc : Nat} (hd : decode M.2.1 pc = .ok (.ladd, 1)) : zx_ok P G M pc (zx_ladd (pc + 1)) := zx_bJ_ok (fun p l e R s m args below meth c H locs cells slots Q ls rest a b hx hb k => lv_ladd hx hb hd k)
noncomputable def zx_lsub (npc : Nat) : zx_F := zx_bJ (fun a b => a - b) npc
theorem zx_lsub_ok {P : zx_P} {G : zx_G} {M : zx_M} {pc : Nat} (hd : decode M.2.1 pc = .ok (.lsub, 1)) : zx_ok P G M pc (zx_lsub (pc + 1)) := zx_bJ_ok (fun p l e R s m args below meth c H locs cells slots Q ls rest a b hx hb k => lv_lsub hx hb hd k)
noncomputable def zx_lmul (npc : Nat) : zx_F := zx_bJ (fun a b => a * b) npc
theorem zx_lmul_ok {P : zx_P} {G : zx_G} {M : zx_M} {pc : Nat} (hd : decode M.2.1 pc = .ok (.lmul, 1)) : zx_ok P G M pc (zx_lmul (pc + 1)) := zx_bJ_ok (fun p l e R s m args below meth c H locs cells slots Q ls rest a b hx hb k => lv_lmul hx hb hd k)
noncomputable def zx_land (npc : Nat) : zx_F := zx_bJ (fun a b => a &&& b) npc
theorem zx_land_ok {P : zx_P} {G : zx_G} {M : zx_M} {pc : Nat} (hd : decode M.2.1 pc = .ok (.land, 1)) : zx_ok P G M pc (zx_land (pc + 1)) := zx_bJ_ok (fun p l e R s m args below meth c H locs cells slots Q ls rest a b hx hb k => lv_land hx hb hd k)
noncomputable def zx_lor (npc : Nat) : zx_F := zx_bJ (fun a b => a ||| b) npc
theorem zx_lor_ok {P : zx_P} {G : zx_G} {M : zx_M} {pc : Nat} (hd : decode M.2.1 pc = .ok (.lor, 1)) : zx_ok P G M pc (zx_lor (pc + 1)) := zx_bJ_ok (fun p l e R s m args below meth c H locs cells slots Q ls rest a b hx hb k => lv_lor hx hb hd k)
noncomputable def zx_lshl (npc : Nat) : zx_F := zx_bS (fun a b => a <<< (b.toInt64 &&& 63)) npc
theorem zx_lshl_ok {P : zx_P} {G : zx_G} {M : zx_M} {pc : Nat} (hd : decode M.2.1 pc = .ok (.lshl, 1)) : zx_ok P G M pc (zx_lshl (pc + 1)) := zx_bS_ok (fun p l e R s m args below meth c H locs cells slots Q ls rest a b hx hb k => lv_lshl hx hb hd rfl k)
noncomputable def zx_lshr (npc : Nat) : zx_F := zx_bS (fun a b => a >>> (b.toInt64 &&& 63)) npc
theorem zx_lshr_ok {P : zx_P} {G : zx_G} {M : zx_M} {pc : Nat} (hd : decode M.2.1 pc = .ok (.lshr, 1)) : zx_ok P G M pc (zx_lshr (pc + 1)) := zx_bS_ok (fun p l e R s m args below meth c H locs cells slots Q ls rest a b hx hb k => lv_lshr hx hb hd rfl k)
noncomputable def zx_lushr (npc : Nat) : zx_F := zx_bS (fun a b => (a.toUInt64 >>> (b.toInt64.toUInt64 &&& Int64.toUInt64 63)).toInt64) npc
theorem zx_lushr_ok {P : zx_P} {G : zx_G} {M : zx_M} {pc : Nat} (hd : decode M.2.1 pc = .ok (.lushr, 1)) : zx_ok P G M pc (zx_lushr (pc + 1)) := zx_bS_ok (fun p l e R s m args below meth c H locs cells slots Q ls rest a b hx hb k => lv_lushr hx hb hd rfl k)
noncomputable def zx_idiv (o : zx_O) (npc : Nat) : zx_F := fun _ L st h sl k => match st with
  | .int b :: .int a :: r => if b = 0 then none else k npc L (zx_i (a / b) :: r) h sl
  | .int b :: .float a :: r => if b = 0 then none else match zx_ask o 6 a b with
    | some v => k npc L (v :: r) h sl
    | none => k npc L (.float 0 :: r) h sl
  | _ => none
theorem zx_idiv_ok {P : zx_P} {G : zx_G} {M : zx_M} {pc : Nat} {o : zx_O} (ho : zx_oo G.2.2.2.1 o) (hd : decode M.2.1 pc = .ok (.idiv, 1)) : zx_ok P G M pc (zx_idiv o (pc + 1)) := by
  refine zx_pure (fun rec k L st h sl res hr => ?_)
  unfold zx_idiv at hr
  split at hr
  · next b a r =>
    split at hr
    · cases hr
    · next hne =>
      refine ⟨_, _, _, hr, fun p l e R s m args below meth c H locs cells slots Q C ls CL cst g1 g2 g3 kk => ?_⟩
      obtain ⟨v, vs, rfl, hv, hvs⟩ := zx_vs_cons g3
      obtain ⟨v2, vs2, rfl, hv2, hvs2⟩ := zx_vs_cons hvs
      cases hv
      cases hv2
      exact lv_idiv C.1 C.2.1 hd hne (kk ls CL (.int (a / b) :: vs2) g1 g2 ⟨by rw [zx_i_eq]; rfl, hvs2⟩)
  · next b a r =>
    split at hr
    · cases hr
    · next hne =>
      split at hr
      · next v0 e1 =>
        refine ⟨_, _, _, hr, fun p l e R s m args below meth c H locs cells slots Q C ls CL cst g1 g2 g3 kk => ?_⟩
        obtain ⟨v, vs, rfl, hv, hvs⟩ := zx_vs_cons g3
        obtain ⟨v2, vs2, rfl, hv2, hvs2⟩ := zx_vs_cons hvs
        obtain ⟨x, rfl, hx⟩ := hv2
        cases hv
        obtain ⟨h0, h1⟩ := zx_ask_ok ho e1
        rw [← hx h0] at h1
        exact lv_idiv C.1 C.2.1 hd hne (kk ls CL (.int (zx_os 6 x b) :: vs2) g1 g2 ⟨h1, hvs2⟩)
      · refine ⟨_, _, _, hr, fun p l e R s m args below meth c H locs cells slots Q C ls CL cst g1 g2 g3 kk => ?_⟩
        obtain ⟨v, vs, rfl, hv, hvs⟩ := zx_vs_cons g3
        obtain ⟨v2, vs2, rfl, hv2, hvs2⟩ := zx_vs_cons hvs
        obtain ⟨x, rfl, hx⟩ := hv2
        cases hv
        exact lv_idiv C.1 C.2.1 hd hne (kk ls CL (.int (zx_os 6 x b) :: vs2) g1 g2 ⟨zx_fz _, hvs2⟩)
  · cases hr
noncomputable def zx_irem (o : zx_O) (npc : Nat) : zx_F := fun _ L st h sl k => match st with
  | .int b :: .int a :: r => if b = 0 then none else k npc L (zx_i (a - a / b * b) :: r) h sl
  | .int b :: .float a :: r => if b = 0 then none else match zx_ask o 4 a b with
    | some v => k npc L (v :: r) h sl
    | none => k npc L (.float 0 :: r) h sl
  | _ => none
theorem zx_irem_ok {P : zx_P} {G : zx_G} {M : zx_M} {pc : Nat} {o : zx_O} (ho : zx_oo G.2.2.2.1 o) (hd : decode M.2.1 pc = .ok (.irem, 1)) : zx_ok P G M pc (zx_irem o (pc + 1)) := by
  refine zx_pure (fun rec k L st h sl res hr => ?_)
  unfold zx_irem at hr
  split at hr
  · next b a r =>
    split at hr
    · cases hr
    · next hne =>
      refine ⟨_, _, _, hr, fun p l e R s m args below meth c H locs cells slots Q C ls CL cst g1 g2 g3 kk => ?_⟩
      obtain ⟨v, vs, rfl, hv, hvs⟩ := zx_vs_cons g3
      obtain ⟨v2, vs2, rfl, hv2, hvs2⟩ := zx_vs_cons hvs
      cases hv
      cases hv2
      exact lv_irem C.1 C.2.1 hd hne (kk ls CL (.int (a - a / b * b) :: vs2) g1 g2 ⟨by rw [zx_i_eq]; rfl, hvs2⟩)
  · next b a r =>
    split at hr
    · cases hr
    · next hne =>
      split at hr
      · next v0 e1 =>
        refine ⟨_, _, _, hr, fun p l e R s m args below meth c H locs cells slots Q C ls CL cst g1 g2 g3 kk => ?_⟩
        obtain ⟨v, vs, rfl, hv, hvs⟩ := zx_vs_cons g3
        obtain ⟨v2, vs2, rfl, hv2, hvs2⟩ := zx_vs_cons hvs
        obtain ⟨x, rfl, hx⟩ := hv2
        cases hv
        obtain ⟨h0, h1⟩ := zx_ask_ok ho e1
        rw [← hx h0] at h1
        exact lv_irem C.1 C.2.1 hd hne (kk ls CL (.int (zx_os 4 x b) :: vs2) g1 g2 ⟨h1, hvs2⟩)
      · refine ⟨_, _, _, hr, fun p l e R s m args below meth c H locs cells slots Q C ls CL cst g1 g2 g3 kk => ?_⟩
        obtain ⟨v, vs, rfl, hv, hvs⟩ := zx_vs_cons g3
        obtain ⟨v2, vs2, rfl, hv2, hvs2⟩ := zx_vs_cons hvs
        obtain ⟨x, rfl, hx⟩ := hv2
        cases hv
        exact lv_irem C.1 C.2.1 hd hne (kk ls CL (.int (zx_os 4 x b) :: vs2) g1 g2 ⟨zx_fz _, hvs2⟩)
  · cases hr
noncomputable def zx_ldiv (npc : Nat) : zx_F := fun _ L st h sl k => match st with
  | .long b :: .long a :: r => if b = 0 then none else k npc L (zx_l (a / b) :: r) h sl
  | _ => none
theorem zx_ldiv_ok {P : zx_P} {G : zx_G} {M : zx_M} {pc : Nat} (hd : decode M.2.1 pc = .ok (.ldiv, 1)) : zx_ok P G M pc (zx_ldiv (pc + 1)) := by
  refine zx_pure (fun rec k L st h sl res hr => ?_)
  unfold zx_ldiv at hr
  split at hr
  · next b a r =>
    split at hr
    · cases hr
    · next hne =>
      refine ⟨_, _, _, hr, fun p l e R s m args below meth c H locs cells slots Q C ls CL cst g1 g2 g3 kk => ?_⟩
      obtain ⟨v, vs, rfl, hv, hvs⟩ := zx_vs_cons g3
      obtain ⟨v2, vs2, rfl, hv2, hvs2⟩ := zx_vs_cons hvs
      cases hv
      cases hv2
      exact lv_ldiv C.1 C.2.1 hd hne (kk ls CL (.long (a / b) :: vs2) g1 g2 ⟨by rw [zx_l_eq]; rfl, hvs2⟩)
  · cases hr
noncomputable def zx_lrem (npc : Nat) : zx_F := fun _ L st h sl k => match st with
  | .long b :: .long a :: r => if b = 0 then none else k npc L (zx_l (a - a / b * b) :: r) h sl
  | _ => none
theorem zx_lrem_ok {P : zx_P} {G : zx_G} {M : zx_M} {pc : Nat} (hd : decode M.2.1 pc = .ok (.lrem, 1)) : zx_ok P G M pc (zx_lrem (pc + 1)) := by
  refine zx_pure (fun rec k L st h sl res hr => ?_)
  unfold zx_lrem at hr
  split at hr
  · next b a r =>
    split at hr
    · cases hr
    · next hne =>
      refine ⟨_, _, _, hr, fun p l e R s m args below meth c H locs cells slots Q C ls CL cst g1 g2 g3 kk => ?_⟩
      obtain ⟨v, vs, rfl, hv, hvs⟩ := zx_vs_cons g3
      obtain ⟨v2, vs2, rfl, hv2, hvs2⟩ := zx_vs_cons hvs
      cases hv
      cases hv2
      exact lv_lrem C.1 C.2.1 hd hne (kk ls CL (.long (a - a / b * b) :: vs2) g1 g2 ⟨by rw [zx_l_eq]; rfl, hvs2⟩)
  · cases hr
noncomputable def zx_uI (f : Int32 → Int32) (npc : Nat) : zx_F := fun _ L st h sl k => match st with
  | .int a :: r => k npc L (zx_i (f a) :: r) h sl
  | .float _ :: r => k npc L (.float 0 :: r) h sl
  | _ => none
theorem zx_uI_ok {P : zx_P} {G : zx_G} {M : zx_M} {pc : Nat} {f : Int32 → Int32} {npc : Nat} (row : ∀ (p : Program) (l : Launch) (e : Env) (R : Room) (s : State) (m : MethodId) (args : Array Value) (below : List Frame) (meth : Method) (c : Code) (H : Heap) (locs : List Loc) (cells slots : Nat) (Q : State → Prop) (ls : Array Slot) (rest : List Value) (a : Int32), p.tables.exec = Jvm.exec → c.code = M.2.1 → W p l e R s m args below meth c H locs cells slots Q (F0 m npc ls (.int (f a) :: rest)) → W p l e R s m args below meth c H locs cells slots Q (F0 m pc ls (.int a :: rest))) : zx_ok P G M pc (zx_uI f npc) := by
  refine zx_pure (fun rec k L st h sl res hr => ?_)
  unfold zx_uI at hr
  split at hr
  · next a r =>
    refine ⟨_, _, _, hr, fun p l e R s m args below meth c H locs cells slots Q C ls CL cst g1 g2 g3 kk => ?_⟩
    obtain ⟨v, vs, rfl, hv, hvs⟩ := zx_vs_cons g3
    cases hv
    exact row p l e R s m args below meth c H locs cells slots Q ls vs a C.1 C.2.1 (kk ls CL (.int (f a) :: vs) g1 g2 ⟨by rw [zx_i_eq]; rfl, hvs⟩)
  · refine ⟨_, _, _, hr, fun p l e R s m args below meth c H locs cells slots Q C ls CL cst g1 g2 g3 kk => ?_⟩
    obtain ⟨v, vs, rfl, hv, hvs⟩ := zx_vs_cons g3
    obtain ⟨a, rfl, ha⟩ := hv
    exact row p l e R s m args below meth c H locs cells slots Q ls vs a C.1 C.2.1 (kk ls CL (.int (f a) :: vs) g1 g2 ⟨zx_fz _, hvs⟩)
  · cases hr
noncomputable def zx_uJ (f : Int64 → Int64) (npc : Nat) : zx_F := fun _ L st h sl k => match st with
  | .long a :: r => k npc L (zx_l (f a) :: r) h sl
  | .double _ :: r => k npc L (.double 0 :: r) h sl
  | _ => none
theorem zx_uJ_ok {P : zx_P} {G : zx_G} {M : zx_M} {pc : Nat} {f : Int64 → Int64} {npc : Nat} (row : ∀ (p : Program) (l : Launch) (e : Env) (R : Room) (s : State) (m : MethodId) (args : Array Value) (below : List Frame) (meth : Method) (c : Code) (H : Heap) (locs : List Loc) (cells slots : Nat) (Q : State → Prop) (ls : Array Slot) (rest : List Value) (a : Int64), p.tables.exec = Jvm.exec → c.code = M.2.1 → W p l e R s m args below meth c H locs cells slots Q (F0 m npc ls (.long (f a) :: rest)) → W p l e R s m args below meth c H locs cells slots Q (F0 m pc ls (.long a :: rest))) : zx_ok P G M pc (zx_uJ f npc) := by
  refine zx_pure (fun rec k L st h sl res hr => ?_)
  unfold zx_uJ at hr
  split at hr
  · next a r =>
    refine ⟨_, _, _, hr, fun p l e R s m args below meth c H locs cells slots Q C ls CL cst g1 g2 g3 kk => ?_⟩
    obtain ⟨v, vs, rfl, hv, hvs⟩ := zx_vs_cons g3
    cases hv
    exact row p l e R s m args below meth c H locs cells slots Q ls vs a C.1 C.2.1 (kk ls CL (.long (f a) :: vs) g1 g2 ⟨by rw [zx_l_eq]; rfl, hvs⟩)
  · refine ⟨_, _, _, hr, fun p l e R s m args below meth c H locs cells slots Q C ls CL cst g1 g2 g3 kk => ?_⟩
    obtain ⟨v, vs, rfl, hv, hvs⟩ := zx_vs_cons g3
    obtain ⟨a, rfl, ha⟩ := hv
    exact row p l e R s m args below meth c H locs cells slots Q ls vs a C.1 C.2.1 (kk ls CL (.long (f a) :: vs) g1 g2 ⟨zx_dz _, hvs⟩)
  · cases hr
noncomputable def zx_uW (f : Int32 → Int64) (npc : Nat) : zx_F := fun _ L st h sl k => match st with
  | .int a :: r => k npc L (zx_l (f a) :: r) h sl
  | .float _ :: r => k npc L (.double 0 :: r) h sl
  | _ => none
theorem zx_uW_ok {P : zx_P} {G : zx_G} {M : zx_M} {pc : Nat} {f : Int32 → Int64} {npc : Nat} (row : ∀ (p : Program) (l : Launch) (e : Env) (R : Room) (s : State) (m : MethodId) (args : Array Value) (below : List Frame) (meth : Method) (c : Code) (H : Heap) (locs : List Loc) (cells slots : Nat) (Q : State → Prop) (ls : Array Slot) (rest : List Value) (a : Int32), p.tables.exec = Jvm.exec → c.code = M.2.1 → W p l e R s m args below meth c H locs cells slots Q (F0 m npc ls (.long (f a) :: rest)) → W p l e R s m args below meth c H locs cells slots Q (F0 m pc ls (.int a :: rest))) : zx_ok P G M pc (zx_uW f npc) := by
  refine zx_pure (fun rec k L st h sl res hr => ?_)
  unfold zx_uW at hr
  split at hr
  · next a r =>
    refine ⟨_, _, _, hr, fun p l e R s m args below meth c H locs cells slots Q C ls CL cst g1 g2 g3 kk => ?_⟩
    obtain ⟨v, vs, rfl, hv, hvs⟩ := zx_vs_cons g3
    cases hv
    exact row p l e R s m args below meth c H locs cells slots Q ls vs a C.1 C.2.1 (kk ls CL (.long (f a) :: vs) g1 g2 ⟨by rw [zx_l_eq]; rfl, hvs⟩)
  · refine ⟨_, _, _, hr, fun p l e R s m args below meth c H locs cells slots Q C ls CL cst g1 g2 g3 kk => ?_⟩
    obtain ⟨v, vs, rfl, hv, hvs⟩ := zx_vs_cons g3
    obtain ⟨a, rfl, ha⟩ := hv
    exact row p l e R s m args below meth c H locs cells slots Q ls vs a C.1 C.2.1 (kk ls CL (.long (f a) :: vs) g1 g2 ⟨zx_dz _, hvs⟩)
  · cases hr
noncomputable def zx_uN (f : Int64 → Int32) (npc : Nat) : zx_F := fun _ L st h sl k => match st with
  | .long a :: r => k npc L (zx_i (f a) :: r) h sl
  | .double _ :: r => k npc L (.float 0 :: r) h sl
  | _ => none
theorem zx_uN_ok {P : zx_P} {G : zx_G} {M : zx_M} {pc : Nat} {f : Int64 → Int32} {npc : Nat} (row : ∀ (p : Program) (l : Launch) (e : Env) (R : Room) (s : State) (m : MethodId) (args : Array Value) (below : List Frame) (meth : Method) (c : Code) (H : Heap) (locs : List Loc) (cells slots : Nat) (Q : State → Prop) (ls : Array Slot) (rest : List Value) (a : Int64), p.tables.exec = Jvm.exec → c.code = M.2.1 → W p l e R s m args below meth c H locs cells slots Q (F0 m npc ls (.int (f a) :: rest)) → W p l e R s m args below meth c H locs cells slots Q (F0 m pc ls (.long a :: rest))) : zx_ok P G M pc (zx_uN f npc) := by
  refine zx_pure (fun rec k L st h sl res hr => ?_)
  unfold zx_uN at hr
  split at hr
  · next a r =>
    refine ⟨_, _, _, hr, fun p l e R s m args below meth c H locs cells slots Q C ls CL cst g1 g2 g3 kk => ?_⟩
    obtain ⟨v, vs, rfl, hv, hvs⟩ := zx_vs_cons g3
    cases hv
    exact row p l e R s m args below meth c H locs cells slots Q ls vs a C.1 C.2.1 (kk ls CL (.int (f a) :: vs) g1 g2 ⟨by rw [zx_i_eq]; rfl, hvs⟩)
  · refine ⟨_, _, _, hr, fun p l e R s m args below meth c H locs cells slots Q C ls CL cst g1 g2 g3 kk => ?_⟩
    obtain ⟨v, vs, rfl, hv, hvs⟩ := zx_vs_cons g3
    obtain ⟨a, rfl, ha⟩ := hv
    exact row p l e R s m args below meth c H locs cells slots Q ls vs a C.1 C.2.1 (kk ls CL (.int (f a) :: vs) g1 g2 ⟨zx_fz _, hvs⟩)
  · cases hr
noncomputable def zx_ineg (npc : Nat) : zx_F := zx_uI (fun a => -a) npc
theorem zx_ineg_ok {P : zx_P} {G : zx_G} {M : zx_M} {pc : Nat} (hd : decode M.2.1 pc = .ok (.ineg, 1)) : zx_ok P G M pc (zx_ineg (pc + 1)) := zx_uI_ok (fun p l e R s m args below meth c H locs cells slots Q ls rest a hx hb k => lv_ineg hx hb hd k)
noncomputable def zx_i2b (npc : Nat) : zx_F := zx_uI (fun a => a.toInt8.toInt32) npc
theorem zx_i2b_ok {P : zx_P} {G : zx_G} {M : zx_M} {pc : Nat} (hd : decode M.2.1 pc = .ok (.i2b, 1)) : zx_ok P G M pc (zx_i2b (pc + 1)) := zx_uI_ok (fun p l e R s m args below meth c H locs cells slots Q ls rest a hx hb k => lv_i2b hx hb hd rfl k)
noncomputable def zx_i2s (npc : Nat) : zx_F := zx_uI (fun a => a.toInt16.toInt32) npc
theorem zx_i2s_ok {P : zx_P} {G : zx_G} {M : zx_M} {pc : Nat} (hd : decode M.2.1 pc = .ok (.i2s, 1)) : zx_ok P G M pc (zx_i2s (pc + 1)) := zx_uI_ok (fun p l e R s m args below meth c H locs cells slots Q ls rest a hx hb k => lv_i2s hx hb hd rfl k)
noncomputable def zx_i2c (npc : Nat) : zx_F := zx_uI (fun a => (a.toUInt32 % 65536).toInt32) npc
theorem zx_i2c_ok {P : zx_P} {G : zx_G} {M : zx_M} {pc : Nat} (hd : decode M.2.1 pc = .ok (.i2c, 1)) : zx_ok P G M pc (zx_i2c (pc + 1)) := zx_uI_ok (fun p l e R s m args below meth c H locs cells slots Q ls rest a hx hb k => lv_i2c hx hb hd rfl k)
noncomputable def zx_lneg (npc : Nat) : zx_F := zx_uJ (fun a => -a) npc
theorem zx_lneg_ok {P : zx_P} {G : zx_G} {M : zx_M} {pc : Nat} (hd : decode M.2.1 pc = .ok (.lneg, 1)) : zx_ok P G M pc (zx_lneg (pc + 1)) := zx_uJ_ok (fun p l e R s m args below meth c H locs cells slots Q ls rest a hx hb k => lv_lneg hx hb hd k)
noncomputable def zx_i2l (npc : Nat) : zx_F := zx_uW (fun a => a.toInt64) npc
theorem zx_i2l_ok {P : zx_P} {G : zx_G} {M : zx_M} {pc : Nat} (hd : decode M.2.1 pc = .ok (.i2l, 1)) : zx_ok P G M pc (zx_i2l (pc + 1)) := zx_uW_ok (fun p l e R s m args below meth c H locs cells slots Q ls rest a hx hb k => lv_i2l hx hb hd rfl k)
noncomputable def zx_l2i (npc : Nat) : zx_F := zx_uN (fun a => a.toInt32) npc
theorem zx_l2i_ok {P : zx_P} {G : zx_G} {M : zx_M} {pc : Nat} (hd : decode M.2.1 pc = .ok (.l2i, 1)) : zx_ok P G M pc (zx_l2i (pc + 1)) := zx_uN_ok (fun p l e R s m args below meth c H locs cells slots Q ls rest a hx hb k => lv_l2i hx hb hd rfl k)
noncomputable def zx_if (q : UInt32 → Option Bool) (f : Int32 → Bool) (tgt npc : Nat) : zx_F := fun _ L st h sl k => match st with
  | .int x :: r => match f x with
    | true => k tgt L r h sl
    | false => k npc L r h sl
  | .float b :: r => match q b with
    | some true => k tgt L r h sl
    | some false => k npc L r h sl
    | none => none
  | _ => none
theorem zx_if_ok {P : zx_P} {G : zx_G} {M : zx_M} {pc : Nat} {q : UInt32 → Option Bool} {f : Int32 → Bool} {tgt npc : Nat} (hq : ∀ b r, q b = some r → b ≠ 0 ∧ f (G.2.2.2.1.2.1 b) = r) (row : ∀ (p : Program) (l : Launch) (e : Env) (R : Room) (s : State) (m : MethodId) (args : Array Value) (below : List Frame) (meth : Method) (c : Code) (H : Heap) (locs : List Loc) (cells slots : Nat) (Q : State → Prop) (ls : Array Slot) (rest : List Value) (a : Int32), p.tables.exec = Jvm.exec → c.code = M.2.1 → W p l e R s m args below meth c H locs cells slots Q (F0 m (match f a with | true => tgt | false => npc) ls rest) → W p l e R s m args below meth c H locs cells slots Q (F0 m pc ls (.int a :: rest))) : zx_ok P G M pc (zx_if q f tgt npc) := by
  refine zx_pure (fun rec k L st h sl res hr => ?_)
  unfold zx_if at hr
  split at hr
  · next x r =>
    split at hr
    · next e1 =>
      refine ⟨_, _, _, hr, fun p l e R s m args below meth c H locs cells slots Q C ls CL cst g1 g2 g3 kk => ?_⟩
      obtain ⟨v, vs, rfl, hv, hvs⟩ := zx_vs_cons g3
      cases hv
      exact row p l e R s m args below meth c H locs cells slots Q ls vs x C.1 C.2.1 (by rw [e1]; exact kk ls CL vs g1 g2 hvs)
    · next e1 =>
      refine ⟨_, _, _, hr, fun p l e R s m args below meth c H locs cells slots Q C ls CL cst g1 g2 g3 kk => ?_⟩
      obtain ⟨v, vs, rfl, hv, hvs⟩ := zx_vs_cons g3
      cases hv
      exact row p l e R s m args below meth c H locs cells slots Q ls vs x C.1 C.2.1 (by rw [e1]; exact kk ls CL vs g1 g2 hvs)
  · next b r =>
    split at hr
    · next e1 =>
      refine ⟨_, _, _, hr, fun p l e R s m args below meth c H locs cells slots Q C ls CL cst g1 g2 g3 kk => ?_⟩
      obtain ⟨v, vs, rfl, hv, hvs⟩ := zx_vs_cons g3
      obtain ⟨x, rfl, hx⟩ := hv
      obtain ⟨h0, h1⟩ := hq b true e1
      rw [← hx h0] at h1
      exact row p l e R s m args below meth c H locs cells slots Q ls vs x C.1 C.2.1 (by rw [h1]; exact kk ls CL vs g1 g2 hvs)
    · next e1 =>
      refine ⟨_, _, _, hr, fun p l e R s m args below meth c H locs cells slots Q C ls CL cst g1 g2 g3 kk => ?_⟩
      obtain ⟨v, vs, rfl, hv, hvs⟩ := zx_vs_cons g3
      obtain ⟨x, rfl, hx⟩ := hv
      obtain ⟨h0, h1⟩ := hq b false e1
      rw [← hx h0] at h1
      exact row p l e R s m args below meth c H locs cells slots Q ls vs x C.1 C.2.1 (by rw [h1]; exact kk ls CL vs g1 g2 hvs)
    · cases hr
  · cases hr
noncomputable def zx_ic (q q2 : UInt32 → Int32 → Option Bool) (f : Int32 → Int32 → Bool) (tgt npc : Nat) : zx_F := fun _ L st h sl k => match st with
  | .int y :: .int x :: r => match f x y with
    | true => k tgt L r h sl
    | false => k npc L r h sl
  | .int y :: .float b :: r => match q b y with
    | some true => k tgt L r h sl
    | some false => k npc L r h sl
    | none => none
  | .float b :: .int x :: r => match q2 b x with
    | some true => k tgt L r h sl
    | some false => k npc L r h sl
    | none => none
  | _ => none
theorem zx_ic_ok {P : zx_P} {G : zx_G} {M : zx_M} {pc : Nat} {q q2 : UInt32 → Int32 → Option Bool} {f : Int32 → Int32 → Bool} {tgt npc : Nat} (hq : ∀ b y r, q b y = some r → b ≠ 0 ∧ f (G.2.2.2.1.2.1 b) y = r) (hq2 : ∀ b x r, q2 b x = some r → b ≠ 0 ∧ f x (G.2.2.2.1.2.1 b) = r) (row : ∀ (p : Program) (l : Launch) (e : Env) (R : Room) (s : State) (m : MethodId) (args : Array Value) (below : List Frame) (meth : Method) (c : Code) (H : Heap) (locs : List Loc) (cells slots : Nat) (Q : State → Prop) (ls : Array Slot) (rest : List Value) (a b : Int32), p.tables.exec = Jvm.exec → c.code = M.2.1 → W p l e R s m args below meth c H locs cells slots Q (F0 m (match f a b with | true => tgt | false => npc) ls rest) → W p l e R s m args below meth c H locs cells slots Q (F0 m pc ls (.int b :: .int a :: rest))) : zx_ok P G M pc (zx_ic q q2 f tgt npc) := by
  refine zx_pure (fun rec k L st h sl res hr => ?_)
  unfold zx_ic at hr
  split at hr
  · next y x r =>
    split at hr
    · next e1 =>
      refine ⟨_, _, _, hr, fun p l e R s m args below meth c H locs cells slots Q C ls CL cst g1 g2 g3 kk => ?_⟩
      obtain ⟨v, vs, rfl, hv, hvs⟩ := zx_vs_cons g3
      obtain ⟨v2, vs2, rfl, hv2, hvs2⟩ := zx_vs_cons hvs
      cases hv
      cases hv2
      exact row p l e R s m args below meth c H locs cells slots Q ls vs2 x y C.1 C.2.1 (by rw [e1]; exact kk ls CL vs2 g1 g2 hvs2)
    · next e1 =>
      refine ⟨_, _, _, hr, fun p l e R s m args below meth c H locs cells slots Q C ls CL cst g1 g2 g3 kk => ?_⟩
      obtain ⟨v, vs, rfl, hv, hvs⟩ := zx_vs_cons g3
      obtain ⟨v2, vs2, rfl, hv2, hvs2⟩ := zx_vs_cons hvs
      cases hv
      cases hv2
      exact row p l e R s m args below meth c H locs cells slots Q ls vs2 x y C.1 C.2.1 (by rw [e1]; exact kk ls CL vs2 g1 g2 hvs2)
  · next y b r =>
    split at hr
    · next e1 =>
      refine ⟨_, _, _, hr, fun p l e R s m args below meth c H locs cells slots Q C ls CL cst g1 g2 g3 kk => ?_⟩
      obtain ⟨v, vs, rfl, hv, hvs⟩ := zx_vs_cons g3
      obtain ⟨v2, vs2, rfl, hv2, hvs2⟩ := zx_vs_cons hvs
      cases hv
      obtain ⟨x, rfl, hx⟩ := hv2
      obtain ⟨h0, h1⟩ := hq b _ true e1
      rw [← hx h0] at h1
      exact row p l e R s m args below meth c H locs cells slots Q ls vs2 x _ C.1 C.2.1 (by rw [h1]; exact kk ls CL vs2 g1 g2 hvs2)
    · next e1 =>
      refine ⟨_, _, _, hr, fun p l e R s m args below meth c H locs cells slots Q C ls CL cst g1 g2 g3 kk => ?_⟩
      obtain ⟨v, vs, rfl, hv, hvs⟩ := zx_vs_cons g3
      obtain ⟨v2, vs2, rfl, hv2, hvs2⟩ := zx_vs_cons hvs
      cases hv
      obtain ⟨x, rfl, hx⟩ := hv2
      obtain ⟨h0, h1⟩ := hq b _ false e1
      rw [← hx h0] at h1
      exact row p l e R s m args below meth c H locs cells slots Q ls vs2 x _ C.1 C.2.1 (by rw [h1]; exact kk ls CL vs2 g1 g2 hvs2)
    · cases hr
  · next b x r =>
    split at hr
    · next e1 =>
      refine ⟨_, _, _, hr, fun p l e R s m args below meth c H locs cells slots Q C ls CL cst g1 g2 g3 kk => ?_⟩
      obtain ⟨v, vs, rfl, hv, hvs⟩ := zx_vs_cons g3
      obtain ⟨v2, vs2, rfl, hv2, hvs2⟩ := zx_vs_cons hvs
      cases hv2
      obtain ⟨y, rfl, hy⟩ := hv
      obtain ⟨h0, h1⟩ := hq2 b _ true e1
      rw [← hy h0] at h1
      exact row p l e R s m args below meth c H locs cells slots Q ls vs2 _ y C.1 C.2.1 (by rw [h1]; exact kk ls CL vs2 g1 g2 hvs2)
    · next e1 =>
      refine ⟨_, _, _, hr, fun p l e R s m args below meth c H locs cells slots Q C ls CL cst g1 g2 g3 kk => ?_⟩
      obtain ⟨v, vs, rfl, hv, hvs⟩ := zx_vs_cons g3
      obtain ⟨v2, vs2, rfl, hv2, hvs2⟩ := zx_vs_cons hvs
      cases hv2
      obtain ⟨y, rfl, hy⟩ := hv
      obtain ⟨h0, h1⟩ := hq2 b _ false e1
      rw [← hy h0] at h1
      exact row p l e R s m args below meth c H locs cells slots Q ls vs2 _ y C.1 C.2.1 (by rw [h1]; exact kk ls CL vs2 g1 g2 hvs2)
    · cases hr
  · cases hr
theorem zx_lt_ge (x y : Int32) : decide (y ≤ x) = !decide (x < y) := by
  by_cases h : x < y
  · rw [decide_eq_true h, decide_eq_false (Int32.not_le.mpr h)]; rfl
  · rw [decide_eq_false h, decide_eq_true (Int32.not_lt.mp h)]; rfl
theorem zx_xb (r : Bool) : (r != false) = r := by cases r <;> rfl
theorem zx_xt {a r : Bool} (h : a = (r != true)) : (!a) = r := by cases a <;> cases r <;> first | rfl | cases h
noncomputable def zx_ifeq (o : zx_O) (tgt npc : Nat) : zx_F := zx_if (fun b => zx_askB o 0 false b 0) (fun a => decide (a = 0)) tgt npc
theorem zx_ifeq_ok {P : zx_P} {G : zx_G} {M : zx_M} {pc : Nat} {o : zx_O} {off : Int} {tgt : Nat} (ho : zx_oo G.2.2.2.1 o) (hd : decode M.2.1 pc = .ok (.ifCond .eq off, 3)) (ht : (pc : Int) + off = (tgt : Int)) : zx_ok P G M pc (zx_ifeq o tgt (pc + 3)) := zx_if_ok (fun b r h => by obtain ⟨h0, h1⟩ := zx_askE ho h; refine ⟨h0, ?_⟩; exact h1.trans (zx_xb _)) (fun p l e R s m args below meth c H locs cells slots Q ls rest a hx hb k => by
  exact lv_if_eq hx hb hd ht (fun q => by rw [show decide (a = 0) = true from decide_eq_true q] at k; exact k) (fun q => by rw [show decide (a = 0) = false from decide_eq_false q] at k; exact k))
noncomputable def zx_iceq (o : zx_O) (tgt npc : Nat) : zx_F := zx_ic (zx_askB o 0 false) (zx_askB o 0 false) (fun a b => decide (a = b)) tgt npc
theorem zx_iceq_ok {P : zx_P} {G : zx_G} {M : zx_M} {pc : Nat} {o : zx_O} {off : Int} {tgt : Nat} (ho : zx_oo G.2.2.2.1 o) (hd : decode M.2.1 pc = .ok (.if_icmp .eq off, 3)) (ht : (pc : Int) + off = (tgt : Int)) : zx_ok P G M pc (zx_iceq o tgt (pc + 3)) := zx_ic_ok (fun b y r h => by obtain ⟨h0, h1⟩ := zx_askE ho h; refine ⟨h0, ?_⟩; exact h1.trans (zx_xb _)) (fun b y r h => by obtain ⟨h0, h1⟩ := zx_askE ho h; refine ⟨h0, ?_⟩; exact (show decide (_ = _) = decide (_ = _) from decide_eq_decide.mpr eq_comm).trans (h1.trans (zx_xb _))) (fun p l e R s m args below meth c H locs cells slots Q ls rest a b hx hb k => by
  exact lv_icmp_eq hx hb hd ht (fun q => by rw [show decide (a = b) = true from decide_eq_true q] at k; exact k) (fun q => by rw [show decide (a = b) = false from decide_eq_false q] at k; exact k))
noncomputable def zx_ifne (o : zx_O) (tgt npc : Nat) : zx_F := zx_if (fun b => zx_askB o 0 true b 0) (fun a => decide (¬ a = 0)) tgt npc
theorem zx_ifne_ok {P : zx_P} {G : zx_G} {M : zx_M} {pc : Nat} {o : zx_O} {off : Int} {tgt : Nat} (ho : zx_oo G.2.2.2.1 o) (hd : decode M.2.1 pc = .ok (.ifCond .ne off, 3)) (ht : (pc : Int) + off = (tgt : Int)) : zx_ok P G M pc (zx_ifne o tgt (pc + 3)) := zx_if_ok (fun b r h => by obtain ⟨h0, h1⟩ := zx_askE ho h; refine ⟨h0, ?_⟩; exact (decide_not ..).trans (zx_xt h1)) (fun p l e R s m args below meth c H locs cells slots Q ls rest a hx hb k => by
  exact lv_if_ne hx hb hd ht (fun q => by rw [show decide (¬ a = 0) = true from decide_eq_true q] at k; exact k) (fun q => by rw [show decide (¬ a = 0) = false from decide_eq_false (fun w => w q)] at k; exact k))
noncomputable def zx_icne (o : zx_O) (tgt npc : Nat) : zx_F := zx_ic (zx_askB o 0 true) (zx_askB o 0 true) (fun a b => decide (¬ a = b)) tgt npc
theorem zx_icne_ok {P : zx_P} {G : zx_G} {M : zx_M} {pc : Nat} {o : zx_O} {off : Int} {tgt : Nat} (ho : zx_oo G.2.2.2.1 o) (hd : decode M.2.1 pc = .ok (.if_icmp .ne off, 3)) (ht : (pc : Int) + off = (tgt : Int)) : zx_ok P G M pc (zx_icne o tgt (pc + 3)) := zx_ic_ok (fun b y r h => by obtain ⟨h0, h1⟩ := zx_askE ho h; refine ⟨h0, ?_⟩; exact (decide_not ..).trans (zx_xt h1)) (fun b y r h => by obtain ⟨h0, h1⟩ := zx_askE ho h; refine ⟨h0, ?_⟩; exact (decide_not ..).trans (zx_xt ((show decide (_ = _) = decide (_ = _) from decide_eq_decide.mpr eq_comm).trans h1))) (fun p l e R s m args below meth c H locs cells slots Q ls rest a b hx hb k => by
  exact lv_icmp_ne hx hb hd ht (fun q => by rw [show decide (¬ a = b) = true from decide_eq_true q] at k; exact k) (fun q => by rw [show decide (¬ a = b) = false from decide_eq_false (fun w => w q)] at k; exact k))
noncomputable def zx_iflt (o : zx_O) (tgt npc : Nat) : zx_F := zx_if (fun b => zx_askB o 1 false b 0) (fun a => decide (a < 0)) tgt npc
theorem zx_iflt_ok {P : zx_P} {G : zx_G} {M : zx_M} {pc : Nat} {o : zx_O} {off : Int} {tgt : Nat} (ho : zx_oo G.2.2.2.1 o) (hd : decode M.2.1 pc = .ok (.ifCond .lt off, 3)) (ht : (pc : Int) + off = (tgt : Int)) : zx_ok P G M pc (zx_iflt o tgt (pc + 3)) := zx_if_ok (fun b r h => by obtain ⟨h0, h1⟩ := zx_askL ho h; refine ⟨h0, ?_⟩; exact h1.trans (zx_xb _)) (fun p l e R s m args below meth c H locs cells slots Q ls rest a hx hb k => by
  exact lv_if_lt hx hb hd ht (fun q => by rw [show decide (a < 0) = true from decide_eq_true q] at k; exact k) (fun q => by rw [show decide (a < 0) = false from decide_eq_false q] at k; exact k))
noncomputable def zx_iclt (o : zx_O) (tgt npc : Nat) : zx_F := zx_ic (zx_askB o 1 false) (zx_askB o 2 true) (fun a b => decide (a < b)) tgt npc
theorem zx_iclt_ok {P : zx_P} {G : zx_G} {M : zx_M} {pc : Nat} {o : zx_O} {off : Int} {tgt : Nat} (ho : zx_oo G.2.2.2.1 o) (hd : decode M.2.1 pc = .ok (.if_icmp .lt off, 3)) (ht : (pc : Int) + off = (tgt : Int)) : zx_ok P G M pc (zx_iclt o tgt (pc + 3)) := zx_ic_ok (fun b y r h => by obtain ⟨h0, h1⟩ := zx_askL ho h; refine ⟨h0, ?_⟩; exact h1.trans (zx_xb _)) (fun b y r h => by obtain ⟨h0, h1⟩ := zx_askG ho h; refine ⟨h0, ?_⟩; have h2 := zx_lt_ge; exact (show decide (_ < _) = !decide (_ ≤ _) from by rw [h2]; simp).trans (zx_xt h1)) (fun p l e R s m args below meth c H locs cells slots Q ls rest a b hx hb k => by
  exact lv_icmp_lt hx hb hd ht (fun q => by rw [show decide (a < b) = true from decide_eq_true q] at k; exact k) (fun q => by rw [show decide (a < b) = false from decide_eq_false q] at k; exact k))
noncomputable def zx_ifge (o : zx_O) (tgt npc : Nat) : zx_F := zx_if (fun b => zx_askB o 1 true b 0) (fun a => decide (0 ≤ a)) tgt npc
theorem zx_ifge_ok {P : zx_P} {G : zx_G} {M : zx_M} {pc : Nat} {o : zx_O} {off : Int} {tgt : Nat} (ho : zx_oo G.2.2.2.1 o) (hd : decode M.2.1 pc = .ok (.ifCond .ge off, 3)) (ht : (pc : Int) + off = (tgt : Int)) : zx_ok P G M pc (zx_ifge o tgt (pc + 3)) := zx_if_ok (fun b r h => by obtain ⟨h0, h1⟩ := zx_askL ho h; refine ⟨h0, ?_⟩; exact (zx_lt_ge _ _).trans (zx_xt h1)) (fun p l e R s m args below meth c H locs cells slots Q ls rest a hx hb k => by
  exact lv_if_ge hx hb hd ht (fun q => by rw [show decide (0 ≤ a) = true from decide_eq_true q] at k; exact k) (fun q => by rw [show decide (0 ≤ a) = false from decide_eq_false q] at k; exact k))
noncomputable def zx_icge (o : zx_O) (tgt npc : Nat) : zx_F := zx_ic (zx_askB o 1 true) (zx_askB o 2 false) (fun a b => decide (b ≤ a)) tgt npc
theorem zx_icge_ok {P : zx_P} {G : zx_G} {M : zx_M} {pc : Nat} {o : zx_O} {off : Int} {tgt : Nat} (ho : zx_oo G.2.2.2.1 o) (hd : decode M.2.1 pc = .ok (.if_icmp .ge off, 3)) (ht : (pc : Int) + off = (tgt : Int)) : zx_ok P G M pc (zx_icge o tgt (pc + 3)) := zx_ic_ok (fun b y r h => by obtain ⟨h0, h1⟩ := zx_askL ho h; refine ⟨h0, ?_⟩; exact (zx_lt_ge _ _).trans (zx_xt h1)) (fun b y r h => by obtain ⟨h0, h1⟩ := zx_askG ho h; refine ⟨h0, ?_⟩; exact h1.trans (zx_xb _)) (fun p l e R s m args below meth c H locs cells slots Q ls rest a b hx hb k => by
  exact lv_icmp_ge hx hb hd ht (fun q => by rw [show decide (b ≤ a) = true from decide_eq_true q] at k; exact k) (fun q => by rw [show decide (b ≤ a) = false from decide_eq_false q] at k; exact k))
noncomputable def zx_ifgt (o : zx_O) (tgt npc : Nat) : zx_F := zx_if (fun b => zx_askB o 2 true b 0) (fun a => decide (0 < a)) tgt npc
theorem zx_ifgt_ok {P : zx_P} {G : zx_G} {M : zx_M} {pc : Nat} {o : zx_O} {off : Int} {tgt : Nat} (ho : zx_oo G.2.2.2.1 o) (hd : decode M.2.1 pc = .ok (.ifCond .gt off, 3)) (ht : (pc : Int) + off = (tgt : Int)) : zx_ok P G M pc (zx_ifgt o tgt (pc + 3)) := zx_if_ok (fun b r h => by obtain ⟨h0, h1⟩ := zx_askG ho h; refine ⟨h0, ?_⟩; have h2 := zx_lt_ge; exact (show decide (_ < _) = !decide (_ ≤ _) from by rw [h2]; simp).trans (zx_xt h1)) (fun p l e R s m args below meth c H locs cells slots Q ls rest a hx hb k => by
  exact lv_if_gt hx hb hd ht (fun q => by rw [show decide (0 < a) = true from decide_eq_true q] at k; exact k) (fun q => by rw [show decide (0 < a) = false from decide_eq_false q] at k; exact k))
noncomputable def zx_icgt (o : zx_O) (tgt npc : Nat) : zx_F := zx_ic (zx_askB o 2 true) (zx_askB o 1 false) (fun a b => decide (b < a)) tgt npc
theorem zx_icgt_ok {P : zx_P} {G : zx_G} {M : zx_M} {pc : Nat} {o : zx_O} {off : Int} {tgt : Nat} (ho : zx_oo G.2.2.2.1 o) (hd : decode M.2.1 pc = .ok (.if_icmp .gt off, 3)) (ht : (pc : Int) + off = (tgt : Int)) : zx_ok P G M pc (zx_icgt o tgt (pc + 3)) := zx_ic_ok (fun b y r h => by obtain ⟨h0, h1⟩ := zx_askG ho h; refine ⟨h0, ?_⟩; have h2 := zx_lt_ge; exact (show decide (_ < _) = !decide (_ ≤ _) from by rw [h2]; simp).trans (zx_xt h1)) (fun b y r h => by obtain ⟨h0, h1⟩ := zx_askL ho h; refine ⟨h0, ?_⟩; exact h1.trans (zx_xb _)) (fun p l e R s m args below meth c H locs cells slots Q ls rest a b hx hb k => by
  exact lv_icmp_gt hx hb hd ht (fun q => by rw [show decide (b < a) = true from decide_eq_true q] at k; exact k) (fun q => by rw [show decide (b < a) = false from decide_eq_false q] at k; exact k))
noncomputable def zx_ifle (o : zx_O) (tgt npc : Nat) : zx_F := zx_if (fun b => zx_askB o 2 false b 0) (fun a => decide (a ≤ 0)) tgt npc
theorem zx_ifle_ok {P : zx_P} {G : zx_G} {M : zx_M} {pc : Nat} {o : zx_O} {off : Int} {tgt : Nat} (ho : zx_oo G.2.2.2.1 o) (hd : decode M.2.1 pc = .ok (.ifCond .le off, 3)) (ht : (pc : Int) + off = (tgt : Int)) : zx_ok P G M pc (zx_ifle o tgt (pc + 3)) := zx_if_ok (fun b r h => by obtain ⟨h0, h1⟩ := zx_askG ho h; refine ⟨h0, ?_⟩; exact h1.trans (zx_xb _)) (fun p l e R s m args below meth c H locs cells slots Q ls rest a hx hb k => by
  exact lv_if_le hx hb hd ht (fun q => by rw [show decide (a ≤ 0) = true from decide_eq_true q] at k; exact k) (fun q => by rw [show decide (a ≤ 0) = false from decide_eq_false q] at k; exact k))
noncomputable def zx_icle (o : zx_O) (tgt npc : Nat) : zx_F := zx_ic (zx_askB o 2 false) (zx_askB o 1 true) (fun a b => decide (a ≤ b)) tgt npc
theorem zx_icle_ok {P : zx_P} {G : zx_G} {M : zx_M} {pc : Nat} {o : zx_O} {off : Int} {tgt : Nat} (ho : zx_oo G.2.2.2.1 o) (hd : decode M.2.1 pc = .ok (.if_icmp .le off, 3)) (ht : (pc : Int) + off = (tgt : Int)) : zx_ok P G M pc (zx_icle o tgt (pc + 3)) := zx_ic_ok (fun b y r h => by obtain ⟨h0, h1⟩ := zx_askG ho h; refine ⟨h0, ?_⟩; exact h1.trans (zx_xb _)) (fun b y r h => by obtain ⟨h0, h1⟩ := zx_askL ho h; refine ⟨h0, ?_⟩; exact (zx_lt_ge _ _).trans (zx_xt h1)) (fun p l e R s m args below meth c H locs cells slots Q ls rest a b hx hb k => by
  exact lv_icmp_le hx hb hd ht (fun q => by rw [show decide (a ≤ b) = true from decide_eq_true q] at k; exact k) (fun q => by rw [show decide (a ≤ b) = false from decide_eq_false q] at k; exact k))
noncomputable def zx_goto (tgt : Nat) : zx_F := fun _ L st h sl k => k tgt L st h sl
theorem zx_goto_ok {P : zx_P} {G : zx_G} {M : zx_M} {pc : Nat} {off : Int} {tgt : Nat} (hd : decode M.2.1 pc = .ok (.goto off, 3)) (ht : (pc : Int) + off = (tgt : Int)) : zx_ok P G M pc (zx_goto tgt) := by
  refine zx_pure (fun rec k L st h sl res hr => ⟨_, _, _, hr, fun p l e R s m args below meth c H locs cells slots Q C ls CL cst g1 g2 g3 kk => ?_⟩)
  exact lv_goto C.1 C.2.1 hd ht (kk ls CL cst g1 g2 g3)
noncomputable def zx_ifn (tr tn : Nat) : zx_F := fun _ L st h sl k => match st with
  | .ref _ :: r => k tr L r h sl
  | .null :: r => k tn L r h sl
  | _ => none
theorem zx_ifnull_ok {P : zx_P} {G : zx_G} {M : zx_M} {pc : Nat} {off : Int} {tgt : Nat} (hd : decode M.2.1 pc = .ok (.ifnull off, 3)) (ht : (pc : Int) + off = (tgt : Int)) : zx_ok P G M pc (zx_ifn (pc + 3) tgt) := by
  refine zx_pure (fun rec k L st h sl res hr => ?_)
  unfold zx_ifn at hr
  split at hr
  · refine ⟨_, _, _, hr, fun p l e R s m args below meth c H locs cells slots Q C ls CL cst g1 g2 g3 kk => ?_⟩
    obtain ⟨v, vs, rfl, hv, hvs⟩ := zx_vs_cons g3
    cases hv
    exact lv_ifnull C.1 C.2.1 hd (kk ls CL vs g1 g2 hvs)
  · refine ⟨_, _, _, hr, fun p l e R s m args below meth c H locs cells slots Q C ls CL cst g1 g2 g3 kk => ?_⟩
    obtain ⟨v, vs, rfl, hv, hvs⟩ := zx_vs_cons g3
    cases hv
    exact lv_ifnullN C.1 C.2.1 hd ht (kk ls CL vs g1 g2 hvs)
  · cases hr
theorem zx_ifnonnull_ok {P : zx_P} {G : zx_G} {M : zx_M} {pc : Nat} {off : Int} {tgt : Nat} (hd : decode M.2.1 pc = .ok (.ifnonnull off, 3)) (ht : (pc : Int) + off = (tgt : Int)) : zx_ok P G M pc (zx_ifn tgt (pc + 3)) := by
  refine zx_pure (fun rec k L st h sl res hr => ?_)
  unfold zx_ifn at hr
  split at hr
  · refine ⟨_, _, _, hr, fun p l e R s m args below meth c H locs cells slots Q C ls CL cst g1 g2 g3 kk => ?_⟩
    obtain ⟨v, vs, rfl, hv, hvs⟩ := zx_vs_cons g3
    cases hv
    exact lv_ifnonnull C.1 C.2.1 hd ht (kk ls CL vs g1 g2 hvs)
  · refine ⟨_, _, _, hr, fun p l e R s m args below meth c H locs cells slots Q C ls CL cst g1 g2 g3 kk => ?_⟩
    obtain ⟨v, vs, rfl, hv, hvs⟩ := zx_vs_cons g3
    cases hv
    exact lv_ifnonnullN C.1 C.2.1 hd (kk ls CL vs g1 g2 hvs)
  · cases hr
noncomputable def zx_dup (npc : Nat) : zx_F := fun _ L st h sl k => match st with
  | a :: r => if a.category = 1 then k npc L (a :: a :: r) h sl else none
  | _ => none
theorem zx_dup_ok {P : zx_P} {G : zx_G} {M : zx_M} {pc : Nat} (hd : decode M.2.1 pc = .ok (.dup, 1)) : zx_ok P G M pc (zx_dup (pc + 1)) := by
  refine zx_pure (fun rec k L st h sl res hr => ?_)
  unfold zx_dup at hr
  split at hr
  · split at hr
    · next hc =>
      refine ⟨_, _, _, hr, fun p l e R s m args below meth c H locs cells slots Q C ls CL cst g1 g2 g3 kk => ?_⟩
      obtain ⟨v, vs, rfl, hv, hvs⟩ := zx_vs_cons g3
      exact lv_dup C.1 C.2.1 hd (by rw [← zx_cat hv]; exact hc) (kk ls CL (v :: v :: vs) g1 g2 ⟨hv, hv, hvs⟩)
    · cases hr
  · cases hr
noncomputable def zx_pop (npc : Nat) : zx_F := fun _ L st h sl k => match st with
  | a :: r => if a.category = 1 then k npc L r h sl else none
  | _ => none
theorem zx_pop_ok {P : zx_P} {G : zx_G} {M : zx_M} {pc : Nat} (hd : decode M.2.1 pc = .ok (.pop, 1)) : zx_ok P G M pc (zx_pop (pc + 1)) := by
  refine zx_pure (fun rec k L st h sl res hr => ?_)
  unfold zx_pop at hr
  split at hr
  · split at hr
    · next hc =>
      refine ⟨_, _, _, hr, fun p l e R s m args below meth c H locs cells slots Q C ls CL cst g1 g2 g3 kk => ?_⟩
      obtain ⟨v, vs, rfl, hv, hvs⟩ := zx_vs_cons g3
      exact lv_pop C.1 C.2.1 hd (by rw [← zx_cat hv]; exact hc) (kk ls CL vs g1 g2 hvs)
    · cases hr
  · cases hr
noncomputable def zx_dup2 (npc : Nat) : zx_F := fun _ L st h sl k => match st with
  | a :: r => if a.category = 2 then k npc L (a :: a :: r) h sl else match r with
    | b :: r2 => if a.category = 1 ∧ b.category = 1 then k npc L (a :: b :: a :: b :: r2) h sl else none
    | [] => none
  | _ => none
theorem zx_dup2_ok {P : zx_P} {G : zx_G} {M : zx_M} {pc : Nat} (hd : decode M.2.1 pc = .ok (.dup2, 1)) : zx_ok P G M pc (zx_dup2 (pc + 1)) := by
  refine zx_pure (fun rec k L st h sl res hr => ?_)
  unfold zx_dup2 at hr
  split at hr
  · split at hr
    · next hc =>
      refine ⟨_, _, _, hr, fun p l e R s m args below meth c H locs cells slots Q C ls CL cst g1 g2 g3 kk => ?_⟩
      obtain ⟨v, vs, rfl, hv, hvs⟩ := zx_vs_cons g3
      exact lv_dup2_2 C.1 C.2.1 hd (by rw [← zx_cat hv]; exact hc) (kk ls CL (v :: v :: vs) g1 g2 ⟨hv, hv, hvs⟩)
    · split at hr
      · split at hr
        · next hc =>
          refine ⟨_, _, _, hr, fun p l e R s m args below meth c H locs cells slots Q C ls CL cst g1 g2 g3 kk => ?_⟩
          obtain ⟨v, vs, rfl, hv, hvs⟩ := zx_vs_cons g3
          obtain ⟨v2, vs2, rfl, hv2, hvs2⟩ := zx_vs_cons hvs
          exact lv_dup2_11 C.1 C.2.1 hd (by rw [← zx_cat hv]; exact hc.1) (by rw [← zx_cat hv2]; exact hc.2) (kk ls CL (v :: v2 :: v :: v2 :: vs2) g1 g2 ⟨hv, hv2, hv, hv2, hvs2⟩)
        · cases hr
      · cases hr
  · cases hr
/-- a switch over a stretch -/
noncomputable def zx_tsw (o : zx_O) (lI hI : Int32) (lo hi : Int) (ts : List Nat) (dflt : Nat) : zx_F := fun _ L st h sl k => match st with
  | .int x :: r => if x.toInt < lo ∨ hi < x.toInt then k dflt L r h sl else match zx_nth ts (x.toInt - lo).toNat with
    | some t => k t L r h sl
    | none => none
  | .float b :: r => match zx_askB o 1 false b lI with
    | some true => k dflt L r h sl
    | _ => match zx_askB o 2 true b hI with
      | some true => k dflt L r h sl
      | _ => none
  | _ => none
theorem zx_tableswitch_ok {P : zx_P} {G : zx_G} {M : zx_M} {pc : Nat} {o : zx_O} {lI hI : Int32} {dflt lo hi : Int} {offs : Array Int} {len : Nat} {ts : List Nat} {dt : Nat} (ho : zx_oo G.2.2.2.1 o) (hlI : lI.toInt = lo) (hhI : hI.toInt = hi) (hd : decode M.2.1 pc = .ok (.tableswitch dflt lo hi offs, len)) (hdt : (pc : Int) + dflt = (dt : Int)) (ht : offs.toList.map (fun o => (pc : Int) + o) = ts.map (fun t : Nat => (t : Int))) : zx_ok P G M pc (zx_tsw o lI hI lo hi ts dt) := by
  refine zx_pure (fun rec k L st h sl res hr => ?_)
  unfold zx_tsw at hr
  split at hr
  · next x r =>
    split at hr
    · next hc =>
      refine ⟨_, _, _, hr, fun p l e R s m args below meth c H locs cells slots Q C ls CL cst g1 g2 g3 kk => ?_⟩
      obtain ⟨v, vs, rfl, hv, hvs⟩ := zx_vs_cons g3
      cases hv
      exact lv_tableOut C.1 C.2.1 hd hc hdt (kk ls CL vs g1 g2 hvs)
    · next hc =>
      split at hr
      · next t e1 =>
        refine ⟨_, _, _, hr, fun p l e R s m args below meth c H locs cells slots Q C ls CL cst g1 g2 g3 kk => ?_⟩
        obtain ⟨v, vs, rfl, hv, hvs⟩ := zx_vs_cons g3
        cases hv
        rw [zx_nth_eq] at e1
        have h1 : (ts.map (fun t : Nat => (t : Int)))[(x.toInt - lo).toNat]? = some (t : Int) := by rw [List.getElem?_map, e1]; rfl
        rw [← ht, List.getElem?_map] at h1
        cases e2 : offs.toList[(x.toInt - lo).toNat]? with
        | none => rw [e2] at h1; cases h1
        | some off =>
          rw [e2] at h1
          have h2 : (pc : Int) + off = (t : Int) := Option.some.inj h1
          exact lv_tableIn C.1 C.2.1 hd (fun q => hc (Or.inl q)) (fun q => hc (Or.inr q)) (by rw [← Array.getElem?_toList]; exact e2) h2 (kk ls CL vs g1 g2 hvs)
      · cases hr
  · next b r =>
    split at hr
    · next e1 =>
      refine ⟨_, _, _, hr, fun p l e R s m args below meth c H locs cells slots Q C ls CL cst g1 g2 g3 kk => ?_⟩
      obtain ⟨v, vs, rfl, hv, hvs⟩ := zx_vs_cons g3
      obtain ⟨x, rfl, hx⟩ := hv
      obtain ⟨h0, h1⟩ := zx_askL ho e1
      rw [← hx h0] at h1
      have h2 : x < lI := of_decide_eq_true h1
      exact lv_tableOut C.1 C.2.1 hd (Or.inl (by rw [← hlI]; exact Int32.lt_iff_toInt_lt.mp h2)) hdt (kk ls CL vs g1 g2 hvs)
    · split at hr
      · next e1 =>
        refine ⟨_, _, _, hr, fun p l e R s m args below meth c H locs cells slots Q C ls CL cst g1 g2 g3 kk => ?_⟩
        obtain ⟨v, vs, rfl, hv, hvs⟩ := zx_vs_cons g3
        obtain ⟨x, rfl, hx⟩ := hv
        obtain ⟨h0, h1⟩ := zx_askG ho e1
        rw [← hx h0] at h1
        have h2 : ¬ x ≤ hI := of_decide_eq_false h1
        exact lv_tableOut C.1 C.2.1 hd (Or.inr (by rw [← hhI]; exact Int32.lt_iff_toInt_lt.mp (Int32.not_le.mp h2))) hdt (kk ls CL vs g1 g2 hvs)
      · cases hr
  · cases hr
/-- a switch by a list -/
noncomputable def zx_lsw (ps : List (Int × Int)) (dflt : Int) (pc : Nat) : zx_F := fun _ L st h sl k => match st with
  | .int x :: r => if 0 ≤ (pc : Int) + Op.lookupswitch.offset ps dflt x.toInt then zx_fn ((pc : Int) + Op.lookupswitch.offset ps dflt x.toInt).toNat (fun t => k t L r h sl) else none
  | _ => none
theorem zx_lookupswitch_ok {P : zx_P} {G : zx_G} {M : zx_M} {pc : Nat} {dflt : Int} {ps : Array (Int × Int)} {len : Nat} (hd : decode M.2.1 pc = .ok (.lookupswitch dflt ps, len)) (hp : (ps.toList.zip (ps.toList.drop 1)).all (fun (a, next) => a.1 < next.1) = true) {psl : List (Int × Int)} (hl : ps.toList = psl) : zx_ok P G M pc (zx_lsw psl dflt pc) := by
  subst hl
  refine zx_pure (fun rec k L st h sl res hr => ?_)
  unfold zx_lsw at hr
  split at hr
  · next x r =>
    split at hr
    · next hc =>
      rw [zx_fn_eq] at hr
      refine ⟨_, _, _, hr, fun p l e R s m args below meth c H locs cells slots Q C ls CL cst g1 g2 g3 kk => ?_⟩
      obtain ⟨v, vs, rfl, hv, hvs⟩ := zx_vs_cons g3
      cases hv
      exact lv_lookup C.1 C.2.1 hd hp rfl (Int.toNat_of_nonneg hc).symm (kk ls CL vs g1 g2 hvs)
    · cases hr
  · cases hr
