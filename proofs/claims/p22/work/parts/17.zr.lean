/-! ===== each place's step out of what it decodes to ===== -/
noncomputable abbrev zr_R : Type := Instr → Nat → Option zx_F
noncomputable def zr_snd (P : zx_P) (G : zx_G) (M : zx_M) (pc : Nat) (f : zr_R) : Prop := ∀ (i : Instr) (n : Nat) (g : zx_F), f i n = some g → decode M.2.1 pc = .ok (i, n) → zx_ok P G M pc g
noncomputable def zr_n {α : Type} (k n : Nat) (g : Option α) : Option α := match Nat.beq n k with
  | true => g
  | false => none
theorem zr_n_in {α : Type} {k n : Nat} {g : Option α} {x : α} (h : zr_n k n g = some x) : n = k ∧ g = some x := by
  unfold zr_n at h
  split at h
  · next e => exact ⟨Nat.eq_of_beq_eq_true e, h⟩
  · cases h
noncomputable def zr_b {α : Type} (c : Bool) (x : α) : Option α := match c with
  | true => some x
  | false => none
theorem zr_b_in {α : Type} {c : Bool} {x y : α} (h : zr_b c x = some y) : c = true ∧ x = y := by
  unfold zr_b at h
  split at h
  · exact ⟨rfl, Option.some.inj h⟩
  · cases h
/-- a place to go to -/
noncomputable def zr_t {α : Type} (pc : Nat) (off : Int) (k : Nat → α) : Option α := match decide (0 ≤ (pc : Int) + off) with
  | true => some (k ((pc : Int) + off).toNat)
  | false => none
theorem zr_t_in {α : Type} {pc : Nat} {off : Int} {k : Nat → α} {x : α} (h : zr_t pc off k = some x) : ∃ t : Nat, (pc : Int) + off = (t : Int) ∧ k t = x := by
  unfold zr_t at h
  split at h
  · next e => exact ⟨_, (Int.toNat_of_nonneg (of_decide_eq_true e)).symm, Option.some.inj h⟩
  · cases h
/-- one or, where it can't, the other -/
noncomputable def zr_alt (A B : zx_F) : zx_F := fun rec L st h sl k => match A rec L st h sl k with
  | some r => some r
  | none => B rec L st h sl k
theorem zr_alt_ok {P : zx_P} {G : zx_G} {M : zx_M} {pc : Nat} {A B : zx_F} (hA : zx_ok P G M pc A) (hB : zx_ok P G M pc B) : zx_ok P G M pc (zr_alt A B) := by
  intro E d k0 s0 res rec k L st h sl hE hr hrec hk
  unfold zr_alt at hr
  split at hr
  · next r e =>
    cases hr
    exact hA E d k0 s0 _ rec k L st h sl hE e hrec hk
  · exact hB E d k0 s0 res rec k L st h sl hE hr hrec hk
noncomputable def zr_no : zx_F := fun _ _ _ _ _ _ => none
theorem zr_no_ok {P : zx_P} {G : zx_G} {M : zx_M} {pc : Nat} : zx_ok P G M pc zr_no := by
  intro E d k0 s0 res rec k L st h sl hE hr hrec hk
  cases hr
theorem zr_o {D : zx_D} : zx_oo D [] := fun _ h => absurd h List.not_mem_nil
/-- the numbers of array types of references that rows of rows may have -/
noncomputable def zr_aa (npc : Nat) : List Nat → zx_F
  | [] => zr_no
  | t :: r => zr_alt (zx_ald [] t npc) (zr_aa npc r)
theorem zr_aa_ok {P : zx_P} {G : zx_G} {M : zx_M} {pc : Nat} (hA : zx_ad P G) (hd : decode M.2.1 pc = .ok (.aaload, 1)) : ∀ {l : List Nat}, (∀ t ∈ l, ∃ fty, P.2.1[t]? = some fty ∧ fty.isReference = true) → zx_ok P G M pc (zr_aa (pc + 1) l)
  | [], _ => zr_no_ok
  | t :: r, h => by
    obtain ⟨fty, h1, h2⟩ := h t List.mem_cons_self
    exact zr_alt_ok (zx_aaload_ok zr_o hA h1 h2 hd) (zr_aa_ok hA hd (fun q hq => h q (List.mem_cons_of_mem _ hq)))
/-- what a pool's number means: its sort, three numbers, a value, a field's type -/
noncomputable abbrev zr_E : Type := Nat × Nat × Nat × Nat × Value × FieldType
noncomputable def zr_pe (P : zx_P) (G : zx_G) (C0 : String) (idx : Nat) (q : zr_E) : Prop := match q.1 with
  | 0 => ∃ x, q.2.2.2.2.1 = .int x ∧ Cond.constant C0 idx x ∈ P.2.2.1
  | 1 => ∃ x, q.2.2.2.2.1 = .long x ∧ Cond.constantLong C0 idx x ∈ P.2.2.1
  | 2 => ∃ (j bt : Nat) (tx : String) (l : List (String × Nat)), P.2.2.2.2.2.2.1[j]? = some (q.2.1, bt, tx, l) ∧ (C0, idx) ∈ l
  | 3 => ∃ (N : Nat) (C : String) (T : u_T) (ty0 : Nat → FieldType), zx_cls P q.2.1 C T N ty0 ∧ q.2.2.1 < N ∧ (T q.2.2.1).2.2.2 = Nat.beq q.2.2.2.1 1 ∧ (Nat.beq q.2.2.2.1 1 = true → (T q.2.2.1).1 = C0) ∧ parseFieldDescriptor (T q.2.2.1).2.2.1 = some q.2.2.2.2.2 ∧ Cond.fieldLink C0 idx (T q.2.2.1).1 (T q.2.2.1).2.1 (T q.2.2.1).2.2.1 ∈ P.2.2.1
  | 4 => ∃ (N : Nat) (C host : String) (T : u_T) (ty0 : Nat → FieldType), zx_cls P q.2.1 C T N ty0 ∧ q.2.2.1 < N ∧ (T q.2.2.1).2.2.2 = false ∧ parseFieldDescriptor (T q.2.2.1).2.2.1 = some q.2.2.2.2.2 ∧ Cond.fieldLinkNest C0 idx (T q.2.2.1).1 (T q.2.2.1).2.1 (T q.2.2.1).2.2.1 host ∈ P.2.2.2.2.2.2.2.2
  | 5 => ∃ (C n d : String), P.2.2.2.2.2.1[q.2.1]? = some (C, n, d, q.2.2.2.2.1) ∧ Cond.fieldLink C0 idx C n d ∈ P.2.2.1
  | 6 => ∃ (C n d host : String), P.2.2.2.2.2.1[q.2.1]? = some (C, n, d, q.2.2.2.2.1) ∧ Cond.fieldLinkNest C0 idx C n d host ∈ P.2.2.2.2.2.2.2.2
  | 7 => ∃ M2 : zx_M, P.2.2.2.1[q.2.1]? = some M2 ∧ zx_mok P M2 ∧ Cond.methodLink C0 idx M2.1 ∈ P.2.2.1 ∧ Cond.static M2.1 ∈ P.2.2.1 ∧ (parseMethodDescriptor M2.1.desc).map (fun d => d.parameters.length) = some q.2.2.1
  | 8 => ∃ (M2 : zx_M) (host : String), P.2.2.2.1[q.2.1]? = some M2 ∧ zx_mok P M2 ∧ Cond.methodLinkNest C0 idx M2.1 host ∈ P.2.2.2.2.2.2.2.2 ∧ Cond.static M2.1 ∈ P.2.2.1 ∧ (parseMethodDescriptor M2.1.desc).map (fun d => d.parameters.length) = some q.2.2.1
  | 9 => ∃ (M2 : zx_M) (r : vw_C), P.1[q.2.2.2.1]? = some r ∧ P.2.2.2.1[q.2.1]? = some M2 ∧ zx_mok P M2 ∧ Cond.methodLink C0 idx M2.1 ∈ P.2.2.1 ∧ Cond.instanceMethod M2.1 ∈ P.2.2.1 ∧ Cond.selects r.1 M2.1 M2.1 ∈ P.2.2.1 ∧ (parseMethodDescriptor M2.1.desc).map (fun d => d.parameters.length) = some q.2.2.1
  | 10 => ∃ (M2 : zx_M) (r : vw_C) (host : String), P.1[q.2.2.2.1]? = some r ∧ P.2.2.2.1[q.2.1]? = some M2 ∧ zx_mok P M2 ∧ Cond.methodLinkNest C0 idx M2.1 host ∈ P.2.2.2.2.2.2.2.2 ∧ Cond.instanceMethod M2.1 ∈ P.2.2.1 ∧ Cond.selects r.1 M2.1 M2.1 ∈ P.2.2.1 ∧ (parseMethodDescriptor M2.1.desc).map (fun d => d.parameters.length) = some q.2.2.1
  | 11 => ∃ (M2 : zx_M), P.2.2.2.1[q.2.1]? = some M2 ∧ zx_mok P M2 ∧ Cond.methodLink C0 idx M2.1 ∈ P.2.2.1 ∧ Cond.instanceMethod M2.1 ∈ P.2.2.1 ∧ Cond.selects "java/lang/String" M2.1 M2.1 ∈ P.2.2.1 ∧ (parseMethodDescriptor M2.1.desc).map (fun d => d.parameters.length) = some q.2.2.1
  | 12 => Cond.methodLink C0 idx Lib.Math.max.name ∈ P.2.2.1 ∧ Cond.static Lib.Math.max.name ∈ P.2.2.1 ∧ Cond.initialized "java/lang/Math" ∈ P.2.2.1 ∧ Cond.code Lib.Math.max.name Lib.Math.max.code 2 (some .int) ∈ P.2.2.1
  | 13 => Cond.methodLink C0 idx Lib.Math.min.name ∈ P.2.2.1 ∧ Cond.static Lib.Math.min.name ∈ P.2.2.1 ∧ Cond.initialized "java/lang/Math" ∈ P.2.2.1 ∧ Cond.code Lib.Math.min.name Lib.Math.min.code 2 (some .int) ∈ P.2.2.1
  | 14 => Cond.fieldLink C0 idx "java/lang/String" "value" "[B" ∈ P.2.2.1
  | 15 => Cond.fieldLink C0 idx "java/lang/String" "coder" "B" ∈ P.2.2.1
  | _ => False
/-- what stands besides: addresses, older rows, the numbers of the types of rows, good words -/
noncomputable def zr_H (P : zx_P) (G : zx_G) (O : List zx_W) (K0 : Nat) (rt : List Nat) (T : List zx_X) : Prop := zx_ad P G ∧ zx_ho P G O ∧ K0 = P.2.2.2.2.1 ∧ P.2.1[0]? = some .int ∧ P.2.1[1]? = some .long ∧ P.2.1[2]? = some .byte ∧ P.2.1[3]? = some .boolean ∧ (∀ t ∈ rt, ∃ fty, P.2.1[t]? = some fty ∧ fty.isReference = true) ∧ P.2.2.1.all goodWord = true ∧ T = P.2.2.2.2.2.2.1

noncomputable def zr_iconst (pc : Nat) : zr_R := fun i n => match i with
  | .iconst v => zr_n 1 n (some (zx_ci (.int (Int32.ofInt v)) (pc + 1)))
  | _ => none
theorem zr_iconst_s {P : zx_P} {G : zx_G} {M : zx_M} {pc K0 : Nat} {O : List zx_W} {rt : List Nat} {T : List zx_X} {pool : zx_Tr zr_E} (H : zr_H P G O K0 rt T) (HP : ∀ j q, zx_g10 pool j = some q → zr_pe P G M.1.cls j q) : zr_snd P G M pc (zr_iconst pc) := by
  intro i n g h hd
  unfold zr_iconst at h
  split at h
  · next v =>
    replace h := zr_n_in h
    obtain ⟨e9, h⟩ := h
    subst e9
    cases h
    exact zx_iconst_ok hd rfl
  · cases h
noncomputable def zr_bipush (pc : Nat) : zr_R := fun i n => match i with
  | .bipush v => zr_n 2 n (some (zx_ci (.int (Int8.ofInt v).toInt32) (pc + 2)))
  | _ => none
theorem zr_bipush_s {P : zx_P} {G : zx_G} {M : zx_M} {pc K0 : Nat} {O : List zx_W} {rt : List Nat} {T : List zx_X} {pool : zx_Tr zr_E} (H : zr_H P G O K0 rt T) (HP : ∀ j q, zx_g10 pool j = some q → zr_pe P G M.1.cls j q) : zr_snd P G M pc (zr_bipush pc) := by
  intro i n g h hd
  unfold zr_bipush at h
  split at h
  · next v =>
    replace h := zr_n_in h
    obtain ⟨e9, h⟩ := h
    subst e9
    cases h
    exact zx_bipush_ok hd rfl
  · cases h
noncomputable def zr_sipush (pc : Nat) : zr_R := fun i n => match i with
  | .sipush v => zr_n 3 n (some (zx_ci (.int (Int16.ofInt v).toInt32) (pc + 3)))
  | _ => none
theorem zr_sipush_s {P : zx_P} {G : zx_G} {M : zx_M} {pc K0 : Nat} {O : List zx_W} {rt : List Nat} {T : List zx_X} {pool : zx_Tr zr_E} (H : zr_H P G O K0 rt T) (HP : ∀ j q, zx_g10 pool j = some q → zr_pe P G M.1.cls j q) : zr_snd P G M pc (zr_sipush pc) := by
  intro i n g h hd
  unfold zr_sipush at h
  split at h
  · next v =>
    replace h := zr_n_in h
    obtain ⟨e9, h⟩ := h
    subst e9
    cases h
    exact zx_sipush_ok hd rfl
  · cases h
noncomputable def zr_lconst (pc : Nat) : zr_R := fun i n => match i with
  | .lconst v => zr_n 1 n (some (zx_ci (.long (Int64.ofNat (v : Nat))) (pc + 1)))
  | _ => none
theorem zr_lconst_s {P : zx_P} {G : zx_G} {M : zx_M} {pc K0 : Nat} {O : List zx_W} {rt : List Nat} {T : List zx_X} {pool : zx_Tr zr_E} (H : zr_H P G O K0 rt T) (HP : ∀ j q, zx_g10 pool j = some q → zr_pe P G M.1.cls j q) : zr_snd P G M pc (zr_lconst pc) := by
  intro i n g h hd
  unfold zr_lconst at h
  split at h
  · next v =>
    replace h := zr_n_in h
    obtain ⟨e9, h⟩ := h
    subst e9
    cases h
    exact zx_lconst_ok hd rfl
  · cases h
noncomputable def zr_null (pc : Nat) : zr_R := fun i n => match i with
  | .aconst_null => zr_n 1 n (some (zx_ci .null (pc + 1)))
  | _ => none
theorem zr_null_s {P : zx_P} {G : zx_G} {M : zx_M} {pc K0 : Nat} {O : List zx_W} {rt : List Nat} {T : List zx_X} {pool : zx_Tr zr_E} (H : zr_H P G O K0 rt T) (HP : ∀ j q, zx_g10 pool j = some q → zr_pe P G M.1.cls j q) : zr_snd P G M pc (zr_null pc) := by
  intro i n g h hd
  unfold zr_null at h
  split at h
  · skip
    replace h := zr_n_in h
    obtain ⟨e9, h⟩ := h
    subst e9
    cases h
    exact zx_null_ok hd
  · cases h
noncomputable def zr_iload (pc : Nat) : zr_R := fun i n => match i with
  | .iload v => zr_n 2 n (some (zx_loI v (pc + 2)))
  | _ => none
theorem zr_iload_s {P : zx_P} {G : zx_G} {M : zx_M} {pc K0 : Nat} {O : List zx_W} {rt : List Nat} {T : List zx_X} {pool : zx_Tr zr_E} (H : zr_H P G O K0 rt T) (HP : ∀ j q, zx_g10 pool j = some q → zr_pe P G M.1.cls j q) : zr_snd P G M pc (zr_iload pc) := by
  intro i n g h hd
  unfold zr_iload at h
  split at h
  · next v =>
    replace h := zr_n_in h
    obtain ⟨e9, h⟩ := h
    subst e9
    cases h
    exact zx_iload_ok hd
  · cases h
noncomputable def zr_iload_n (pc : Nat) : zr_R := fun i n => match i with
  | .iload_n v => zr_n 1 n (some (zx_loI (v : Nat) (pc + 1)))
  | _ => none
theorem zr_iload_n_s {P : zx_P} {G : zx_G} {M : zx_M} {pc K0 : Nat} {O : List zx_W} {rt : List Nat} {T : List zx_X} {pool : zx_Tr zr_E} (H : zr_H P G O K0 rt T) (HP : ∀ j q, zx_g10 pool j = some q → zr_pe P G M.1.cls j q) : zr_snd P G M pc (zr_iload_n pc) := by
  intro i n g h hd
  unfold zr_iload_n at h
  split at h
  · next v =>
    replace h := zr_n_in h
    obtain ⟨e9, h⟩ := h
    subst e9
    cases h
    exact zx_iload_n_ok hd rfl
  · cases h
noncomputable def zr_istore (ml : Nat) (pc : Nat) : zr_R := fun i n => match i with
  | .istore v => zr_n 2 n (zr_b (Nat.blt (v) ml) (zx_soI v (pc + 2)))
  | _ => none
theorem zr_istore_s {P : zx_P} {G : zx_G} {M : zx_M} {pc K0 : Nat} {O : List zx_W} {rt : List Nat} {T : List zx_X} {pool : zx_Tr zr_E} (H : zr_H P G O K0 rt T) (HP : ∀ j q, zx_g10 pool j = some q → zr_pe P G M.1.cls j q) : zr_snd P G M pc (zr_istore M.2.2.1 pc) := by
  intro i n g h hd
  unfold zr_istore at h
  split at h
  · next v =>
    replace h := zr_n_in h
    obtain ⟨e9, h⟩ := h
    subst e9
    obtain ⟨e, rfl⟩ := zr_b_in h
    exact zx_istore_ok hd (Nat.le_of_ble_eq_true e)
  · cases h
noncomputable def zr_istore_n (ml : Nat) (pc : Nat) : zr_R := fun i n => match i with
  | .istore_n v => zr_n 1 n (zr_b (Nat.blt ((v : Nat)) ml) (zx_soI (v : Nat) (pc + 1)))
  | _ => none
theorem zr_istore_n_s {P : zx_P} {G : zx_G} {M : zx_M} {pc K0 : Nat} {O : List zx_W} {rt : List Nat} {T : List zx_X} {pool : zx_Tr zr_E} (H : zr_H P G O K0 rt T) (HP : ∀ j q, zx_g10 pool j = some q → zr_pe P G M.1.cls j q) : zr_snd P G M pc (zr_istore_n M.2.2.1 pc) := by
  intro i n g h hd
  unfold zr_istore_n at h
  split at h
  · next v =>
    replace h := zr_n_in h
    obtain ⟨e9, h⟩ := h
    subst e9
    obtain ⟨e, rfl⟩ := zr_b_in h
    exact zx_istore_n_ok hd rfl (Nat.le_of_ble_eq_true e)
  · cases h
noncomputable def zr_lload (pc : Nat) : zr_R := fun i n => match i with
  | .lload v => zr_n 2 n (some (zx_loJ v (pc + 2)))
  | _ => none
theorem zr_lload_s {P : zx_P} {G : zx_G} {M : zx_M} {pc K0 : Nat} {O : List zx_W} {rt : List Nat} {T : List zx_X} {pool : zx_Tr zr_E} (H : zr_H P G O K0 rt T) (HP : ∀ j q, zx_g10 pool j = some q → zr_pe P G M.1.cls j q) : zr_snd P G M pc (zr_lload pc) := by
  intro i n g h hd
  unfold zr_lload at h
  split at h
  · next v =>
    replace h := zr_n_in h
    obtain ⟨e9, h⟩ := h
    subst e9
    cases h
    exact zx_lload_ok hd
  · cases h
noncomputable def zr_lload_n (pc : Nat) : zr_R := fun i n => match i with
  | .lload_n v => zr_n 1 n (some (zx_loJ (v : Nat) (pc + 1)))
  | _ => none
theorem zr_lload_n_s {P : zx_P} {G : zx_G} {M : zx_M} {pc K0 : Nat} {O : List zx_W} {rt : List Nat} {T : List zx_X} {pool : zx_Tr zr_E} (H : zr_H P G O K0 rt T) (HP : ∀ j q, zx_g10 pool j = some q → zr_pe P G M.1.cls j q) : zr_snd P G M pc (zr_lload_n pc) := by
  intro i n g h hd
  unfold zr_lload_n at h
  split at h
  · next v =>
    replace h := zr_n_in h
    obtain ⟨e9, h⟩ := h
    subst e9
    cases h
    exact zx_lload_n_ok hd rfl
  · cases h
noncomputable def zr_lstore (ml : Nat) (pc : Nat) : zr_R := fun i n => match i with
  | .lstore v => zr_n 2 n (zr_b (Nat.blt (v + 1) ml) (zx_soJ v (pc + 2)))
  | _ => none
theorem zr_lstore_s {P : zx_P} {G : zx_G} {M : zx_M} {pc K0 : Nat} {O : List zx_W} {rt : List Nat} {T : List zx_X} {pool : zx_Tr zr_E} (H : zr_H P G O K0 rt T) (HP : ∀ j q, zx_g10 pool j = some q → zr_pe P G M.1.cls j q) : zr_snd P G M pc (zr_lstore M.2.2.1 pc) := by
  intro i n g h hd
  unfold zr_lstore at h
  split at h
  · next v =>
    replace h := zr_n_in h
    obtain ⟨e9, h⟩ := h
    subst e9
    obtain ⟨e, rfl⟩ := zr_b_in h
    exact zx_lstore_ok hd (Nat.le_of_ble_eq_true e)
  · cases h
noncomputable def zr_lstore_n (ml : Nat) (pc : Nat) : zr_R := fun i n => match i with
  | .lstore_n v => zr_n 1 n (zr_b (Nat.blt ((v : Nat) + 1) ml) (zx_soJ (v : Nat) (pc + 1)))
  | _ => none
theorem zr_lstore_n_s {P : zx_P} {G : zx_G} {M : zx_M} {pc K0 : Nat} {O : List zx_W} {rt : List Nat} {T : List zx_X} {pool : zx_Tr zr_E} (H : zr_H P G O K0 rt T) (HP : ∀ j q, zx_g10 pool j = some q → zr_pe P G M.1.cls j q) : zr_snd P G M pc (zr_lstore_n M.2.2.1 pc) := by
  intro i n g h hd
  unfold zr_lstore_n at h
  split at h
  · next v =>
    replace h := zr_n_in h
    obtain ⟨e9, h⟩ := h
    subst e9
    obtain ⟨e, rfl⟩ := zr_b_in h
    exact zx_lstore_n_ok hd rfl (Nat.le_of_ble_eq_true e)
  · cases h
noncomputable def zr_aload (pc : Nat) : zr_R := fun i n => match i with
  | .aload v => zr_n 2 n (some (zx_loA v (pc + 2)))
  | _ => none
theorem zr_aload_s {P : zx_P} {G : zx_G} {M : zx_M} {pc K0 : Nat} {O : List zx_W} {rt : List Nat} {T : List zx_X} {pool : zx_Tr zr_E} (H : zr_H P G O K0 rt T) (HP : ∀ j q, zx_g10 pool j = some q → zr_pe P G M.1.cls j q) : zr_snd P G M pc (zr_aload pc) := by
  intro i n g h hd
  unfold zr_aload at h
  split at h
  · next v =>
    replace h := zr_n_in h
    obtain ⟨e9, h⟩ := h
    subst e9
    cases h
    exact zx_aload_ok hd
  · cases h
noncomputable def zr_aload_n (pc : Nat) : zr_R := fun i n => match i with
  | .aload_n v => zr_n 1 n (some (zx_loA (v : Nat) (pc + 1)))
  | _ => none
theorem zr_aload_n_s {P : zx_P} {G : zx_G} {M : zx_M} {pc K0 : Nat} {O : List zx_W} {rt : List Nat} {T : List zx_X} {pool : zx_Tr zr_E} (H : zr_H P G O K0 rt T) (HP : ∀ j q, zx_g10 pool j = some q → zr_pe P G M.1.cls j q) : zr_snd P G M pc (zr_aload_n pc) := by
  intro i n g h hd
  unfold zr_aload_n at h
  split at h
  · next v =>
    replace h := zr_n_in h
    obtain ⟨e9, h⟩ := h
    subst e9
    cases h
    exact zx_aload_n_ok hd rfl
  · cases h
noncomputable def zr_astore (ml : Nat) (pc : Nat) : zr_R := fun i n => match i with
  | .astore v => zr_n 2 n (zr_b (Nat.blt (v) ml) (zx_soA v (pc + 2)))
  | _ => none
theorem zr_astore_s {P : zx_P} {G : zx_G} {M : zx_M} {pc K0 : Nat} {O : List zx_W} {rt : List Nat} {T : List zx_X} {pool : zx_Tr zr_E} (H : zr_H P G O K0 rt T) (HP : ∀ j q, zx_g10 pool j = some q → zr_pe P G M.1.cls j q) : zr_snd P G M pc (zr_astore M.2.2.1 pc) := by
  intro i n g h hd
  unfold zr_astore at h
  split at h
  · next v =>
    replace h := zr_n_in h
    obtain ⟨e9, h⟩ := h
    subst e9
    obtain ⟨e, rfl⟩ := zr_b_in h
    exact zx_astore_ok hd (Nat.le_of_ble_eq_true e)
  · cases h
noncomputable def zr_astore_n (ml : Nat) (pc : Nat) : zr_R := fun i n => match i with
  | .astore_n v => zr_n 1 n (zr_b (Nat.blt ((v : Nat)) ml) (zx_soA (v : Nat) (pc + 1)))
  | _ => none
theorem zr_astore_n_s {P : zx_P} {G : zx_G} {M : zx_M} {pc K0 : Nat} {O : List zx_W} {rt : List Nat} {T : List zx_X} {pool : zx_Tr zr_E} (H : zr_H P G O K0 rt T) (HP : ∀ j q, zx_g10 pool j = some q → zr_pe P G M.1.cls j q) : zr_snd P G M pc (zr_astore_n M.2.2.1 pc) := by
  intro i n g h hd
  unfold zr_astore_n at h
  split at h
  · next v =>
    replace h := zr_n_in h
    obtain ⟨e9, h⟩ := h
    subst e9
    obtain ⟨e, rfl⟩ := zr_b_in h
    exact zx_astore_n_ok hd rfl (Nat.le_of_ble_eq_true e)
  · cases h
noncomputable def zr_iinc (ml : Nat) (pc : Nat) : zr_R := fun i n => match i with
  | .iinc v c => zr_n 3 n (zr_b (Nat.blt v ml) (zx_inc v (Int32.ofInt c) (pc + 3)))
  | _ => none
theorem zr_iinc_s {P : zx_P} {G : zx_G} {M : zx_M} {pc K0 : Nat} {O : List zx_W} {rt : List Nat} {T : List zx_X} {pool : zx_Tr zr_E} (H : zr_H P G O K0 rt T) (HP : ∀ j q, zx_g10 pool j = some q → zr_pe P G M.1.cls j q) : zr_snd P G M pc (zr_iinc M.2.2.1 pc) := by
  intro i n g h hd
  unfold zr_iinc at h
  split at h
  · next v c =>
    replace h := zr_n_in h
    obtain ⟨e9, h⟩ := h
    subst e9
    obtain ⟨e, rfl⟩ := zr_b_in h
    exact zx_iinc_ok hd rfl (Nat.le_of_ble_eq_true e)
  · cases h
noncomputable def zr_iadd (pc : Nat) : zr_R := fun i n => match i with
  | .iadd => zr_n 1 n (some (zx_iadd [] (pc + 1)))
  | _ => none
theorem zr_iadd_s {P : zx_P} {G : zx_G} {M : zx_M} {pc K0 : Nat} {O : List zx_W} {rt : List Nat} {T : List zx_X} {pool : zx_Tr zr_E} (H : zr_H P G O K0 rt T) (HP : ∀ j q, zx_g10 pool j = some q → zr_pe P G M.1.cls j q) : zr_snd P G M pc (zr_iadd pc) := by
  intro i n g h hd
  unfold zr_iadd at h
  split at h
  · skip
    replace h := zr_n_in h
    obtain ⟨e9, h⟩ := h
    subst e9
    cases h
    exact zx_iadd_ok zr_o hd
  · cases h
noncomputable def zr_isub (pc : Nat) : zr_R := fun i n => match i with
  | .isub => zr_n 1 n (some (zx_isub [] (pc + 1)))
  | _ => none
theorem zr_isub_s {P : zx_P} {G : zx_G} {M : zx_M} {pc K0 : Nat} {O : List zx_W} {rt : List Nat} {T : List zx_X} {pool : zx_Tr zr_E} (H : zr_H P G O K0 rt T) (HP : ∀ j q, zx_g10 pool j = some q → zr_pe P G M.1.cls j q) : zr_snd P G M pc (zr_isub pc) := by
  intro i n g h hd
  unfold zr_isub at h
  split at h
  · skip
    replace h := zr_n_in h
    obtain ⟨e9, h⟩ := h
    subst e9
    cases h
    exact zx_isub_ok zr_o hd
  · cases h
noncomputable def zr_iand (pc : Nat) : zr_R := fun i n => match i with
  | .iand => zr_n 1 n (some (zx_iand [] (pc + 1)))
  | _ => none
theorem zr_iand_s {P : zx_P} {G : zx_G} {M : zx_M} {pc K0 : Nat} {O : List zx_W} {rt : List Nat} {T : List zx_X} {pool : zx_Tr zr_E} (H : zr_H P G O K0 rt T) (HP : ∀ j q, zx_g10 pool j = some q → zr_pe P G M.1.cls j q) : zr_snd P G M pc (zr_iand pc) := by
  intro i n g h hd
  unfold zr_iand at h
  split at h
  · skip
    replace h := zr_n_in h
    obtain ⟨e9, h⟩ := h
    subst e9
    cases h
    exact zx_iand_ok zr_o hd
  · cases h
noncomputable def zr_ishr (pc : Nat) : zr_R := fun i n => match i with
  | .ishr => zr_n 1 n (some (zx_ishr [] (pc + 1)))
  | _ => none
theorem zr_ishr_s {P : zx_P} {G : zx_G} {M : zx_M} {pc K0 : Nat} {O : List zx_W} {rt : List Nat} {T : List zx_X} {pool : zx_Tr zr_E} (H : zr_H P G O K0 rt T) (HP : ∀ j q, zx_g10 pool j = some q → zr_pe P G M.1.cls j q) : zr_snd P G M pc (zr_ishr pc) := by
  intro i n g h hd
  unfold zr_ishr at h
  split at h
  · skip
    replace h := zr_n_in h
    obtain ⟨e9, h⟩ := h
    subst e9
    cases h
    exact zx_ishr_ok zr_o hd
  · cases h
noncomputable def zr_iushr (pc : Nat) : zr_R := fun i n => match i with
  | .iushr => zr_n 1 n (some (zx_iushr [] (pc + 1)))
  | _ => none
theorem zr_iushr_s {P : zx_P} {G : zx_G} {M : zx_M} {pc K0 : Nat} {O : List zx_W} {rt : List Nat} {T : List zx_X} {pool : zx_Tr zr_E} (H : zr_H P G O K0 rt T) (HP : ∀ j q, zx_g10 pool j = some q → zr_pe P G M.1.cls j q) : zr_snd P G M pc (zr_iushr pc) := by
  intro i n g h hd
  unfold zr_iushr at h
  split at h
  · skip
    replace h := zr_n_in h
    obtain ⟨e9, h⟩ := h
    subst e9
    cases h
    exact zx_iushr_ok zr_o hd
  · cases h
noncomputable def zr_idiv (pc : Nat) : zr_R := fun i n => match i with
  | .idiv => zr_n 1 n (some (zx_idiv [] (pc + 1)))
  | _ => none
theorem zr_idiv_s {P : zx_P} {G : zx_G} {M : zx_M} {pc K0 : Nat} {O : List zx_W} {rt : List Nat} {T : List zx_X} {pool : zx_Tr zr_E} (H : zr_H P G O K0 rt T) (HP : ∀ j q, zx_g10 pool j = some q → zr_pe P G M.1.cls j q) : zr_snd P G M pc (zr_idiv pc) := by
  intro i n g h hd
  unfold zr_idiv at h
  split at h
  · skip
    replace h := zr_n_in h
    obtain ⟨e9, h⟩ := h
    subst e9
    cases h
    exact zx_idiv_ok zr_o hd
  · cases h
noncomputable def zr_irem (pc : Nat) : zr_R := fun i n => match i with
  | .irem => zr_n 1 n (some (zx_irem [] (pc + 1)))
  | _ => none
theorem zr_irem_s {P : zx_P} {G : zx_G} {M : zx_M} {pc K0 : Nat} {O : List zx_W} {rt : List Nat} {T : List zx_X} {pool : zx_Tr zr_E} (H : zr_H P G O K0 rt T) (HP : ∀ j q, zx_g10 pool j = some q → zr_pe P G M.1.cls j q) : zr_snd P G M pc (zr_irem pc) := by
  intro i n g h hd
  unfold zr_irem at h
  split at h
  · skip
    replace h := zr_n_in h
    obtain ⟨e9, h⟩ := h
    subst e9
    cases h
    exact zx_irem_ok zr_o hd
  · cases h
noncomputable def zr_imul (pc : Nat) : zr_R := fun i n => match i with
  | .imul => zr_n 1 n (some (zx_imul (pc + 1)))
  | _ => none
theorem zr_imul_s {P : zx_P} {G : zx_G} {M : zx_M} {pc K0 : Nat} {O : List zx_W} {rt : List Nat} {T : List zx_X} {pool : zx_Tr zr_E} (H : zr_H P G O K0 rt T) (HP : ∀ j q, zx_g10 pool j = some q → zr_pe P G M.1.cls j q) : zr_snd P G M pc (zr_imul pc) := by
  intro i n g h hd
  unfold zr_imul at h
  split at h
  · skip
    replace h := zr_n_in h
    obtain ⟨e9, h⟩ := h
    subst e9
    cases h
    exact zx_imul_ok hd
  · cases h
noncomputable def zr_ior (pc : Nat) : zr_R := fun i n => match i with
  | .ior => zr_n 1 n (some (zx_ior (pc + 1)))
  | _ => none
theorem zr_ior_s {P : zx_P} {G : zx_G} {M : zx_M} {pc K0 : Nat} {O : List zx_W} {rt : List Nat} {T : List zx_X} {pool : zx_Tr zr_E} (H : zr_H P G O K0 rt T) (HP : ∀ j q, zx_g10 pool j = some q → zr_pe P G M.1.cls j q) : zr_snd P G M pc (zr_ior pc) := by
  intro i n g h hd
  unfold zr_ior at h
  split at h
  · skip
    replace h := zr_n_in h
    obtain ⟨e9, h⟩ := h
    subst e9
    cases h
    exact zx_ior_ok hd
  · cases h
noncomputable def zr_ixor (pc : Nat) : zr_R := fun i n => match i with
  | .ixor => zr_n 1 n (some (zx_ixor (pc + 1)))
  | _ => none
theorem zr_ixor_s {P : zx_P} {G : zx_G} {M : zx_M} {pc K0 : Nat} {O : List zx_W} {rt : List Nat} {T : List zx_X} {pool : zx_Tr zr_E} (H : zr_H P G O K0 rt T) (HP : ∀ j q, zx_g10 pool j = some q → zr_pe P G M.1.cls j q) : zr_snd P G M pc (zr_ixor pc) := by
  intro i n g h hd
  unfold zr_ixor at h
  split at h
  · skip
    replace h := zr_n_in h
    obtain ⟨e9, h⟩ := h
    subst e9
    cases h
    exact zx_ixor_ok hd
  · cases h
noncomputable def zr_ishl (pc : Nat) : zr_R := fun i n => match i with
  | .ishl => zr_n 1 n (some (zx_ishl (pc + 1)))
  | _ => none
theorem zr_ishl_s {P : zx_P} {G : zx_G} {M : zx_M} {pc K0 : Nat} {O : List zx_W} {rt : List Nat} {T : List zx_X} {pool : zx_Tr zr_E} (H : zr_H P G O K0 rt T) (HP : ∀ j q, zx_g10 pool j = some q → zr_pe P G M.1.cls j q) : zr_snd P G M pc (zr_ishl pc) := by
  intro i n g h hd
  unfold zr_ishl at h
  split at h
  · skip
    replace h := zr_n_in h
    obtain ⟨e9, h⟩ := h
    subst e9
    cases h
    exact zx_ishl_ok hd
  · cases h
noncomputable def zr_ladd (pc : Nat) : zr_R := fun i n => match i with
  | .ladd => zr_n 1 n (some (zx_ladd (pc + 1)))
  | _ => none
theorem zr_ladd_s {P : zx_P} {G : zx_G} {M : zx_M} {pc K0 : Nat} {O : List zx_W} {rt : List Nat} {T : List zx_X} {pool : zx_Tr zr_E} (H : zr_H P G O K0 rt T) (HP : ∀ j q, zx_g10 pool j = some q → zr_pe P G M.1.cls j q) : zr_snd P G M pc (zr_ladd pc) := by
  intro i n g h hd
  unfold zr_ladd at h
  split at h
  · skip
    replace h := zr_n_in h
    obtain ⟨e9, h⟩ := h
    subst e9
    cases h
    exact zx_ladd_ok hd
  · cases h
noncomputable def zr_lsub (pc : Nat) : zr_R := fun i n => match i with
  | .lsub => zr_n 1 n (some (zx_lsub (pc + 1)))
  | _ => none
theorem zr_lsub_s {P : zx_P} {G : zx_G} {M : zx_M} {pc K0 : Nat} {O : List zx_W} {rt : List Nat} {T : List zx_X} {pool : zx_Tr zr_E} (H : zr_H P G O K0 rt T) (HP : ∀ j q, zx_g10 pool j = some q → zr_pe P G M.1.cls j q) : zr_snd P G M pc (zr_lsub pc) := by
  intro i n g h hd
  unfold zr_lsub at h
  split at h
  · skip
    replace h := zr_n_in h
    obtain ⟨e9, h⟩ := h
    subst e9
    cases h
    exact zx_lsub_ok hd
  · cases h
noncomputable def zr_lmul (pc : Nat) : zr_R := fun i n => match i with
  | .lmul => zr_n 1 n (some (zx_lmul (pc + 1)))
  | _ => none
theorem zr_lmul_s {P : zx_P} {G : zx_G} {M : zx_M} {pc K0 : Nat} {O : List zx_W} {rt : List Nat} {T : List zx_X} {pool : zx_Tr zr_E} (H : zr_H P G O K0 rt T) (HP : ∀ j q, zx_g10 pool j = some q → zr_pe P G M.1.cls j q) : zr_snd P G M pc (zr_lmul pc) := by
  intro i n g h hd
  unfold zr_lmul at h
  split at h
  · skip
    replace h := zr_n_in h
    obtain ⟨e9, h⟩ := h
    subst e9
    cases h
    exact zx_lmul_ok hd
  · cases h
noncomputable def zr_land (pc : Nat) : zr_R := fun i n => match i with
  | .land => zr_n 1 n (some (zx_land (pc + 1)))
  | _ => none
theorem zr_land_s {P : zx_P} {G : zx_G} {M : zx_M} {pc K0 : Nat} {O : List zx_W} {rt : List Nat} {T : List zx_X} {pool : zx_Tr zr_E} (H : zr_H P G O K0 rt T) (HP : ∀ j q, zx_g10 pool j = some q → zr_pe P G M.1.cls j q) : zr_snd P G M pc (zr_land pc) := by
  intro i n g h hd
  unfold zr_land at h
  split at h
  · skip
    replace h := zr_n_in h
    obtain ⟨e9, h⟩ := h
    subst e9
    cases h
    exact zx_land_ok hd
  · cases h
noncomputable def zr_lor (pc : Nat) : zr_R := fun i n => match i with
  | .lor => zr_n 1 n (some (zx_lor (pc + 1)))
  | _ => none
theorem zr_lor_s {P : zx_P} {G : zx_G} {M : zx_M} {pc K0 : Nat} {O : List zx_W} {rt : List Nat} {T : List zx_X} {pool : zx_Tr zr_E} (H : zr_H P G O K0 rt T) (HP : ∀ j q, zx_g10 pool j = some q → zr_pe P G M.1.cls j q) : zr_snd P G M pc (zr_lor pc) := by
  intro i n g h hd
  unfold zr_lor at h
  split at h
  · skip
    replace h := zr_n_in h
    obtain ⟨e9, h⟩ := h
    subst e9
    cases h
    exact zx_lor_ok hd
  · cases h
noncomputable def zr_lshl (pc : Nat) : zr_R := fun i n => match i with
  | .lshl => zr_n 1 n (some (zx_lshl (pc + 1)))
  | _ => none
theorem zr_lshl_s {P : zx_P} {G : zx_G} {M : zx_M} {pc K0 : Nat} {O : List zx_W} {rt : List Nat} {T : List zx_X} {pool : zx_Tr zr_E} (H : zr_H P G O K0 rt T) (HP : ∀ j q, zx_g10 pool j = some q → zr_pe P G M.1.cls j q) : zr_snd P G M pc (zr_lshl pc) := by
  intro i n g h hd
  unfold zr_lshl at h
  split at h
  · skip
    replace h := zr_n_in h
    obtain ⟨e9, h⟩ := h
    subst e9
    cases h
    exact zx_lshl_ok hd
  · cases h
noncomputable def zr_lshr (pc : Nat) : zr_R := fun i n => match i with
  | .lshr => zr_n 1 n (some (zx_lshr (pc + 1)))
  | _ => none
theorem zr_lshr_s {P : zx_P} {G : zx_G} {M : zx_M} {pc K0 : Nat} {O : List zx_W} {rt : List Nat} {T : List zx_X} {pool : zx_Tr zr_E} (H : zr_H P G O K0 rt T) (HP : ∀ j q, zx_g10 pool j = some q → zr_pe P G M.1.cls j q) : zr_snd P G M pc (zr_lshr pc) := by
  intro i n g h hd
  unfold zr_lshr at h
  split at h
  · skip
    replace h := zr_n_in h
    obtain ⟨e9, h⟩ := h
    subst e9
    cases h
    exact zx_lshr_ok hd
  · cases h
noncomputable def zr_lushr (pc : Nat) : zr_R := fun i n => match i with
  | .lushr => zr_n 1 n (some (zx_lushr (pc + 1)))
  | _ => none
theorem zr_lushr_s {P : zx_P} {G : zx_G} {M : zx_M} {pc K0 : Nat} {O : List zx_W} {rt : List Nat} {T : List zx_X} {pool : zx_Tr zr_E} (H : zr_H P G O K0 rt T) (HP : ∀ j q, zx_g10 pool j = some q → zr_pe P G M.1.cls j q) : zr_snd P G M pc (zr_lushr pc) := by
  intro i n g h hd
  unfold zr_lushr at h
  split at h
  · skip
    replace h := zr_n_in h
    obtain ⟨e9, h⟩ := h
    subst e9
    cases h
    exact zx_lushr_ok hd
  · cases h
noncomputable def zr_ldiv (pc : Nat) : zr_R := fun i n => match i with
  | .ldiv => zr_n 1 n (some (zx_ldiv (pc + 1)))
  | _ => none
theorem zr_ldiv_s {P : zx_P} {G : zx_G} {M : zx_M} {pc K0 : Nat} {O : List zx_W} {rt : List Nat} {T : List zx_X} {pool : zx_Tr zr_E} (H : zr_H P G O K0 rt T) (HP : ∀ j q, zx_g10 pool j = some q → zr_pe P G M.1.cls j q) : zr_snd P G M pc (zr_ldiv pc) := by
  intro i n g h hd
  unfold zr_ldiv at h
  split at h
  · skip
    replace h := zr_n_in h
    obtain ⟨e9, h⟩ := h
    subst e9
    cases h
    exact zx_ldiv_ok hd
  · cases h
noncomputable def zr_lrem (pc : Nat) : zr_R := fun i n => match i with
  | .lrem => zr_n 1 n (some (zx_lrem (pc + 1)))
  | _ => none
theorem zr_lrem_s {P : zx_P} {G : zx_G} {M : zx_M} {pc K0 : Nat} {O : List zx_W} {rt : List Nat} {T : List zx_X} {pool : zx_Tr zr_E} (H : zr_H P G O K0 rt T) (HP : ∀ j q, zx_g10 pool j = some q → zr_pe P G M.1.cls j q) : zr_snd P G M pc (zr_lrem pc) := by
  intro i n g h hd
  unfold zr_lrem at h
  split at h
  · skip
    replace h := zr_n_in h
    obtain ⟨e9, h⟩ := h
    subst e9
    cases h
    exact zx_lrem_ok hd
  · cases h
noncomputable def zr_ineg (pc : Nat) : zr_R := fun i n => match i with
  | .ineg => zr_n 1 n (some (zx_ineg (pc + 1)))
  | _ => none
theorem zr_ineg_s {P : zx_P} {G : zx_G} {M : zx_M} {pc K0 : Nat} {O : List zx_W} {rt : List Nat} {T : List zx_X} {pool : zx_Tr zr_E} (H : zr_H P G O K0 rt T) (HP : ∀ j q, zx_g10 pool j = some q → zr_pe P G M.1.cls j q) : zr_snd P G M pc (zr_ineg pc) := by
  intro i n g h hd
  unfold zr_ineg at h
  split at h
  · skip
    replace h := zr_n_in h
    obtain ⟨e9, h⟩ := h
    subst e9
    cases h
    exact zx_ineg_ok hd
  · cases h
noncomputable def zr_i2b (pc : Nat) : zr_R := fun i n => match i with
  | .i2b => zr_n 1 n (some (zx_i2b (pc + 1)))
  | _ => none
theorem zr_i2b_s {P : zx_P} {G : zx_G} {M : zx_M} {pc K0 : Nat} {O : List zx_W} {rt : List Nat} {T : List zx_X} {pool : zx_Tr zr_E} (H : zr_H P G O K0 rt T) (HP : ∀ j q, zx_g10 pool j = some q → zr_pe P G M.1.cls j q) : zr_snd P G M pc (zr_i2b pc) := by
  intro i n g h hd
  unfold zr_i2b at h
  split at h
  · skip
    replace h := zr_n_in h
    obtain ⟨e9, h⟩ := h
    subst e9
    cases h
    exact zx_i2b_ok hd
  · cases h
noncomputable def zr_i2s (pc : Nat) : zr_R := fun i n => match i with
  | .i2s => zr_n 1 n (some (zx_i2s (pc + 1)))
  | _ => none
theorem zr_i2s_s {P : zx_P} {G : zx_G} {M : zx_M} {pc K0 : Nat} {O : List zx_W} {rt : List Nat} {T : List zx_X} {pool : zx_Tr zr_E} (H : zr_H P G O K0 rt T) (HP : ∀ j q, zx_g10 pool j = some q → zr_pe P G M.1.cls j q) : zr_snd P G M pc (zr_i2s pc) := by
  intro i n g h hd
  unfold zr_i2s at h
  split at h
  · skip
    replace h := zr_n_in h
    obtain ⟨e9, h⟩ := h
    subst e9
    cases h
    exact zx_i2s_ok hd
  · cases h
noncomputable def zr_i2c (pc : Nat) : zr_R := fun i n => match i with
  | .i2c => zr_n 1 n (some (zx_i2c (pc + 1)))
  | _ => none
theorem zr_i2c_s {P : zx_P} {G : zx_G} {M : zx_M} {pc K0 : Nat} {O : List zx_W} {rt : List Nat} {T : List zx_X} {pool : zx_Tr zr_E} (H : zr_H P G O K0 rt T) (HP : ∀ j q, zx_g10 pool j = some q → zr_pe P G M.1.cls j q) : zr_snd P G M pc (zr_i2c pc) := by
  intro i n g h hd
  unfold zr_i2c at h
  split at h
  · skip
    replace h := zr_n_in h
    obtain ⟨e9, h⟩ := h
    subst e9
    cases h
    exact zx_i2c_ok hd
  · cases h
noncomputable def zr_lneg (pc : Nat) : zr_R := fun i n => match i with
  | .lneg => zr_n 1 n (some (zx_lneg (pc + 1)))
  | _ => none
theorem zr_lneg_s {P : zx_P} {G : zx_G} {M : zx_M} {pc K0 : Nat} {O : List zx_W} {rt : List Nat} {T : List zx_X} {pool : zx_Tr zr_E} (H : zr_H P G O K0 rt T) (HP : ∀ j q, zx_g10 pool j = some q → zr_pe P G M.1.cls j q) : zr_snd P G M pc (zr_lneg pc) := by
  intro i n g h hd
  unfold zr_lneg at h
  split at h
  · skip
    replace h := zr_n_in h
    obtain ⟨e9, h⟩ := h
    subst e9
    cases h
    exact zx_lneg_ok hd
  · cases h
noncomputable def zr_i2l (pc : Nat) : zr_R := fun i n => match i with
  | .i2l => zr_n 1 n (some (zx_i2l (pc + 1)))
  | _ => none
theorem zr_i2l_s {P : zx_P} {G : zx_G} {M : zx_M} {pc K0 : Nat} {O : List zx_W} {rt : List Nat} {T : List zx_X} {pool : zx_Tr zr_E} (H : zr_H P G O K0 rt T) (HP : ∀ j q, zx_g10 pool j = some q → zr_pe P G M.1.cls j q) : zr_snd P G M pc (zr_i2l pc) := by
  intro i n g h hd
  unfold zr_i2l at h
  split at h
  · skip
    replace h := zr_n_in h
    obtain ⟨e9, h⟩ := h
    subst e9
    cases h
    exact zx_i2l_ok hd
  · cases h
noncomputable def zr_l2i (pc : Nat) : zr_R := fun i n => match i with
  | .l2i => zr_n 1 n (some (zx_l2i (pc + 1)))
  | _ => none
theorem zr_l2i_s {P : zx_P} {G : zx_G} {M : zx_M} {pc K0 : Nat} {O : List zx_W} {rt : List Nat} {T : List zx_X} {pool : zx_Tr zr_E} (H : zr_H P G O K0 rt T) (HP : ∀ j q, zx_g10 pool j = some q → zr_pe P G M.1.cls j q) : zr_snd P G M pc (zr_l2i pc) := by
  intro i n g h hd
  unfold zr_l2i at h
  split at h
  · skip
    replace h := zr_n_in h
    obtain ⟨e9, h⟩ := h
    subst e9
    cases h
    exact zx_l2i_ok hd
  · cases h
noncomputable def zr_lcmp (pc : Nat) : zr_R := fun i n => match i with
  | .lcmp => zr_n 1 n (some (zx_lcmp (pc + 1)))
  | _ => none
theorem zr_lcmp_s {P : zx_P} {G : zx_G} {M : zx_M} {pc K0 : Nat} {O : List zx_W} {rt : List Nat} {T : List zx_X} {pool : zx_Tr zr_E} (H : zr_H P G O K0 rt T) (HP : ∀ j q, zx_g10 pool j = some q → zr_pe P G M.1.cls j q) : zr_snd P G M pc (zr_lcmp pc) := by
  intro i n g h hd
  unfold zr_lcmp at h
  split at h
  · skip
    replace h := zr_n_in h
    obtain ⟨e9, h⟩ := h
    subst e9
    cases h
    exact zx_lcmp_ok hd
  · cases h
noncomputable def zr_dup (pc : Nat) : zr_R := fun i n => match i with
  | .dup => zr_n 1 n (some (zx_dup (pc + 1)))
  | _ => none
theorem zr_dup_s {P : zx_P} {G : zx_G} {M : zx_M} {pc K0 : Nat} {O : List zx_W} {rt : List Nat} {T : List zx_X} {pool : zx_Tr zr_E} (H : zr_H P G O K0 rt T) (HP : ∀ j q, zx_g10 pool j = some q → zr_pe P G M.1.cls j q) : zr_snd P G M pc (zr_dup pc) := by
  intro i n g h hd
  unfold zr_dup at h
  split at h
  · skip
    replace h := zr_n_in h
    obtain ⟨e9, h⟩ := h
    subst e9
    cases h
    exact zx_dup_ok hd
  · cases h
noncomputable def zr_pop (pc : Nat) : zr_R := fun i n => match i with
  | .pop => zr_n 1 n (some (zx_pop (pc + 1)))
  | _ => none
theorem zr_pop_s {P : zx_P} {G : zx_G} {M : zx_M} {pc K0 : Nat} {O : List zx_W} {rt : List Nat} {T : List zx_X} {pool : zx_Tr zr_E} (H : zr_H P G O K0 rt T) (HP : ∀ j q, zx_g10 pool j = some q → zr_pe P G M.1.cls j q) : zr_snd P G M pc (zr_pop pc) := by
  intro i n g h hd
  unfold zr_pop at h
  split at h
  · skip
    replace h := zr_n_in h
    obtain ⟨e9, h⟩ := h
    subst e9
    cases h
    exact zx_pop_ok hd
  · cases h
noncomputable def zr_dup2 (pc : Nat) : zr_R := fun i n => match i with
  | .dup2 => zr_n 1 n (some (zx_dup2 (pc + 1)))
  | _ => none
theorem zr_dup2_s {P : zx_P} {G : zx_G} {M : zx_M} {pc K0 : Nat} {O : List zx_W} {rt : List Nat} {T : List zx_X} {pool : zx_Tr zr_E} (H : zr_H P G O K0 rt T) (HP : ∀ j q, zx_g10 pool j = some q → zr_pe P G M.1.cls j q) : zr_snd P G M pc (zr_dup2 pc) := by
  intro i n g h hd
  unfold zr_dup2 at h
  split at h
  · skip
    replace h := zr_n_in h
    obtain ⟨e9, h⟩ := h
    subst e9
    cases h
    exact zx_dup2_ok hd
  · cases h
noncomputable def zr_ifeq (pc : Nat) : zr_R := fun i n => match i with
  | .ifCond c off => zr_n 3 n (match c with | .eq => zr_t pc off (fun t => zx_ifeq [] t (pc + 3)) | _ => none)
  | _ => none
theorem zr_ifeq_s {P : zx_P} {G : zx_G} {M : zx_M} {pc K0 : Nat} {O : List zx_W} {rt : List Nat} {T : List zx_X} {pool : zx_Tr zr_E} (H : zr_H P G O K0 rt T) (HP : ∀ j q, zx_g10 pool j = some q → zr_pe P G M.1.cls j q) : zr_snd P G M pc (zr_ifeq pc) := by
  intro i n g h hd
  unfold zr_ifeq at h
  split at h
  · next c off =>
    replace h := zr_n_in h
    obtain ⟨e9, h⟩ := h
    subst e9
    split at h
    · obtain ⟨t, ht, rfl⟩ := zr_t_in h
      exact zx_ifeq_ok zr_o hd ht
    · cases h
  · cases h
noncomputable def zr_iceq (pc : Nat) : zr_R := fun i n => match i with
  | .if_icmp c off => zr_n 3 n (match c with | .eq => zr_t pc off (fun t => zx_iceq [] t (pc + 3)) | _ => none)
  | _ => none
theorem zr_iceq_s {P : zx_P} {G : zx_G} {M : zx_M} {pc K0 : Nat} {O : List zx_W} {rt : List Nat} {T : List zx_X} {pool : zx_Tr zr_E} (H : zr_H P G O K0 rt T) (HP : ∀ j q, zx_g10 pool j = some q → zr_pe P G M.1.cls j q) : zr_snd P G M pc (zr_iceq pc) := by
  intro i n g h hd
  unfold zr_iceq at h
  split at h
  · next c off =>
    replace h := zr_n_in h
    obtain ⟨e9, h⟩ := h
    subst e9
    split at h
    · obtain ⟨t, ht, rfl⟩ := zr_t_in h
      exact zx_iceq_ok zr_o hd ht
    · cases h
  · cases h
noncomputable def zr_ifne (pc : Nat) : zr_R := fun i n => match i with
  | .ifCond c off => zr_n 3 n (match c with | .ne => zr_t pc off (fun t => zx_ifne [] t (pc + 3)) | _ => none)
  | _ => none
theorem zr_ifne_s {P : zx_P} {G : zx_G} {M : zx_M} {pc K0 : Nat} {O : List zx_W} {rt : List Nat} {T : List zx_X} {pool : zx_Tr zr_E} (H : zr_H P G O K0 rt T) (HP : ∀ j q, zx_g10 pool j = some q → zr_pe P G M.1.cls j q) : zr_snd P G M pc (zr_ifne pc) := by
  intro i n g h hd
  unfold zr_ifne at h
  split at h
  · next c off =>
    replace h := zr_n_in h
    obtain ⟨e9, h⟩ := h
    subst e9
    split at h
    · obtain ⟨t, ht, rfl⟩ := zr_t_in h
      exact zx_ifne_ok zr_o hd ht
    · cases h
  · cases h
noncomputable def zr_icne (pc : Nat) : zr_R := fun i n => match i with
  | .if_icmp c off => zr_n 3 n (match c with | .ne => zr_t pc off (fun t => zx_icne [] t (pc + 3)) | _ => none)
  | _ => none
theorem zr_icne_s {P : zx_P} {G : zx_G} {M : zx_M} {pc K0 : Nat} {O : List zx_W} {rt : List Nat} {T : List zx_X} {pool : zx_Tr zr_E} (H : zr_H P G O K0 rt T) (HP : ∀ j q, zx_g10 pool j = some q → zr_pe P G M.1.cls j q) : zr_snd P G M pc (zr_icne pc) := by
  intro i n g h hd
  unfold zr_icne at h
  split at h
  · next c off =>
    replace h := zr_n_in h
    obtain ⟨e9, h⟩ := h
    subst e9
    split at h
    · obtain ⟨t, ht, rfl⟩ := zr_t_in h
      exact zx_icne_ok zr_o hd ht
    · cases h
  · cases h
noncomputable def zr_iflt (pc : Nat) : zr_R := fun i n => match i with
  | .ifCond c off => zr_n 3 n (match c with | .lt => zr_t pc off (fun t => zx_iflt [] t (pc + 3)) | _ => none)
  | _ => none
theorem zr_iflt_s {P : zx_P} {G : zx_G} {M : zx_M} {pc K0 : Nat} {O : List zx_W} {rt : List Nat} {T : List zx_X} {pool : zx_Tr zr_E} (H : zr_H P G O K0 rt T) (HP : ∀ j q, zx_g10 pool j = some q → zr_pe P G M.1.cls j q) : zr_snd P G M pc (zr_iflt pc) := by
  intro i n g h hd
  unfold zr_iflt at h
  split at h
  · next c off =>
    replace h := zr_n_in h
    obtain ⟨e9, h⟩ := h
    subst e9
    split at h
    · obtain ⟨t, ht, rfl⟩ := zr_t_in h
      exact zx_iflt_ok zr_o hd ht
    · cases h
  · cases h
noncomputable def zr_iclt (pc : Nat) : zr_R := fun i n => match i with
  | .if_icmp c off => zr_n 3 n (match c with | .lt => zr_t pc off (fun t => zx_iclt [] t (pc + 3)) | _ => none)
  | _ => none
theorem zr_iclt_s {P : zx_P} {G : zx_G} {M : zx_M} {pc K0 : Nat} {O : List zx_W} {rt : List Nat} {T : List zx_X} {pool : zx_Tr zr_E} (H : zr_H P G O K0 rt T) (HP : ∀ j q, zx_g10 pool j = some q → zr_pe P G M.1.cls j q) : zr_snd P G M pc (zr_iclt pc) := by
  intro i n g h hd
  unfold zr_iclt at h
  split at h
  · next c off =>
    replace h := zr_n_in h
    obtain ⟨e9, h⟩ := h
    subst e9
    split at h
    · obtain ⟨t, ht, rfl⟩ := zr_t_in h
      exact zx_iclt_ok zr_o hd ht
    · cases h
  · cases h
noncomputable def zr_ifge (pc : Nat) : zr_R := fun i n => match i with
  | .ifCond c off => zr_n 3 n (match c with | .ge => zr_t pc off (fun t => zx_ifge [] t (pc + 3)) | _ => none)
  | _ => none
theorem zr_ifge_s {P : zx_P} {G : zx_G} {M : zx_M} {pc K0 : Nat} {O : List zx_W} {rt : List Nat} {T : List zx_X} {pool : zx_Tr zr_E} (H : zr_H P G O K0 rt T) (HP : ∀ j q, zx_g10 pool j = some q → zr_pe P G M.1.cls j q) : zr_snd P G M pc (zr_ifge pc) := by
  intro i n g h hd
  unfold zr_ifge at h
  split at h
  · next c off =>
    replace h := zr_n_in h
    obtain ⟨e9, h⟩ := h
    subst e9
    split at h
    · obtain ⟨t, ht, rfl⟩ := zr_t_in h
      exact zx_ifge_ok zr_o hd ht
    · cases h
  · cases h
noncomputable def zr_icge (pc : Nat) : zr_R := fun i n => match i with
  | .if_icmp c off => zr_n 3 n (match c with | .ge => zr_t pc off (fun t => zx_icge [] t (pc + 3)) | _ => none)
  | _ => none
theorem zr_icge_s {P : zx_P} {G : zx_G} {M : zx_M} {pc K0 : Nat} {O : List zx_W} {rt : List Nat} {T : List zx_X} {pool : zx_Tr zr_E} (H : zr_H P G O K0 rt T) (HP : ∀ j q, zx_g10 pool j = some q → zr_pe P G M.1.cls j q) : zr_snd P G M pc (zr_icge pc) := by
  intro i n g h hd
  unfold zr_icge at h
  split at h
  · next c off =>
    replace h := zr_n_in h
    obtain ⟨e9, h⟩ := h
    subst e9
    split at h
    · obtain ⟨t, ht, rfl⟩ := zr_t_in h
      exact zx_icge_ok zr_o hd ht
    · cases h
  · cases h
noncomputable def zr_ifgt (pc : Nat) : zr_R := fun i n => match i with
  | .ifCond c off => zr_n 3 n (match c with | .gt => zr_t pc off (fun t => zx_ifgt [] t (pc + 3)) | _ => none)
  | _ => none
theorem zr_ifgt_s {P : zx_P} {G : zx_G} {M : zx_M} {pc K0 : Nat} {O : List zx_W} {rt : List Nat} {T : List zx_X} {pool : zx_Tr zr_E} (H : zr_H P G O K0 rt T) (HP : ∀ j q, zx_g10 pool j = some q → zr_pe P G M.1.cls j q) : zr_snd P G M pc (zr_ifgt pc) := by
  intro i n g h hd
  unfold zr_ifgt at h
  split at h
  · next c off =>
    replace h := zr_n_in h
    obtain ⟨e9, h⟩ := h
    subst e9
    split at h
    · obtain ⟨t, ht, rfl⟩ := zr_t_in h
      exact zx_ifgt_ok zr_o hd ht
    · cases h
  · cases h
noncomputable def zr_icgt (pc : Nat) : zr_R := fun i n => match i with
  | .if_icmp c off => zr_n 3 n (match c with | .gt => zr_t pc off (fun t => zx_icgt [] t (pc + 3)) | _ => none)
  | _ => none
theorem zr_icgt_s {P : zx_P} {G : zx_G} {M : zx_M} {pc K0 : Nat} {O : List zx_W} {rt : List Nat} {T : List zx_X} {pool : zx_Tr zr_E} (H : zr_H P G O K0 rt T) (HP : ∀ j q, zx_g10 pool j = some q → zr_pe P G M.1.cls j q) : zr_snd P G M pc (zr_icgt pc) := by
  intro i n g h hd
  unfold zr_icgt at h
  split at h
  · next c off =>
    replace h := zr_n_in h
    obtain ⟨e9, h⟩ := h
    subst e9
    split at h
    · obtain ⟨t, ht, rfl⟩ := zr_t_in h
      exact zx_icgt_ok zr_o hd ht
    · cases h
  · cases h
noncomputable def zr_ifle (pc : Nat) : zr_R := fun i n => match i with
  | .ifCond c off => zr_n 3 n (match c with | .le => zr_t pc off (fun t => zx_ifle [] t (pc + 3)) | _ => none)
  | _ => none
theorem zr_ifle_s {P : zx_P} {G : zx_G} {M : zx_M} {pc K0 : Nat} {O : List zx_W} {rt : List Nat} {T : List zx_X} {pool : zx_Tr zr_E} (H : zr_H P G O K0 rt T) (HP : ∀ j q, zx_g10 pool j = some q → zr_pe P G M.1.cls j q) : zr_snd P G M pc (zr_ifle pc) := by
  intro i n g h hd
  unfold zr_ifle at h
  split at h
  · next c off =>
    replace h := zr_n_in h
    obtain ⟨e9, h⟩ := h
    subst e9
    split at h
    · obtain ⟨t, ht, rfl⟩ := zr_t_in h
      exact zx_ifle_ok zr_o hd ht
    · cases h
  · cases h
noncomputable def zr_icle (pc : Nat) : zr_R := fun i n => match i with
  | .if_icmp c off => zr_n 3 n (match c with | .le => zr_t pc off (fun t => zx_icle [] t (pc + 3)) | _ => none)
  | _ => none
theorem zr_icle_s {P : zx_P} {G : zx_G} {M : zx_M} {pc K0 : Nat} {O : List zx_W} {rt : List Nat} {T : List zx_X} {pool : zx_Tr zr_E} (H : zr_H P G O K0 rt T) (HP : ∀ j q, zx_g10 pool j = some q → zr_pe P G M.1.cls j q) : zr_snd P G M pc (zr_icle pc) := by
  intro i n g h hd
  unfold zr_icle at h
  split at h
  · next c off =>
    replace h := zr_n_in h
    obtain ⟨e9, h⟩ := h
    subst e9
    split at h
    · obtain ⟨t, ht, rfl⟩ := zr_t_in h
      exact zx_icle_ok zr_o hd ht
    · cases h
  · cases h
noncomputable def zr_goto (pc : Nat) : zr_R := fun i n => match i with
  | .goto off => zr_n 3 n (zr_t pc off (fun t => zx_goto t))
  | _ => none
theorem zr_goto_s {P : zx_P} {G : zx_G} {M : zx_M} {pc K0 : Nat} {O : List zx_W} {rt : List Nat} {T : List zx_X} {pool : zx_Tr zr_E} (H : zr_H P G O K0 rt T) (HP : ∀ j q, zx_g10 pool j = some q → zr_pe P G M.1.cls j q) : zr_snd P G M pc (zr_goto pc) := by
  intro i n g h hd
  unfold zr_goto at h
  split at h
  · next off =>
    replace h := zr_n_in h
    obtain ⟨e9, h⟩ := h
    subst e9
    obtain ⟨t, ht, rfl⟩ := zr_t_in h
    exact zx_goto_ok hd ht
  · cases h
noncomputable def zr_ifnull (pc : Nat) : zr_R := fun i n => match i with
  | .ifnull off => zr_n 3 n (zr_t pc off (fun t => zx_ifn (pc + 3) t))
  | _ => none
theorem zr_ifnull_s {P : zx_P} {G : zx_G} {M : zx_M} {pc K0 : Nat} {O : List zx_W} {rt : List Nat} {T : List zx_X} {pool : zx_Tr zr_E} (H : zr_H P G O K0 rt T) (HP : ∀ j q, zx_g10 pool j = some q → zr_pe P G M.1.cls j q) : zr_snd P G M pc (zr_ifnull pc) := by
  intro i n g h hd
  unfold zr_ifnull at h
  split at h
  · next off =>
    replace h := zr_n_in h
    obtain ⟨e9, h⟩ := h
    subst e9
    obtain ⟨t, ht, rfl⟩ := zr_t_in h
    exact zx_ifnull_ok hd ht
  · cases h
noncomputable def zr_ifnonnull (pc : Nat) : zr_R := fun i n => match i with
  | .ifnonnull off => zr_n 3 n (zr_t pc off (fun t => zx_ifn t (pc + 3)))
  | _ => none
theorem zr_ifnonnull_s {P : zx_P} {G : zx_G} {M : zx_M} {pc K0 : Nat} {O : List zx_W} {rt : List Nat} {T : List zx_X} {pool : zx_Tr zr_E} (H : zr_H P G O K0 rt T) (HP : ∀ j q, zx_g10 pool j = some q → zr_pe P G M.1.cls j q) : zr_snd P G M pc (zr_ifnonnull pc) := by
  intro i n g h hd
  unfold zr_ifnonnull at h
  split at h
  · next off =>
    replace h := zr_n_in h
    obtain ⟨e9, h⟩ := h
    subst e9
    obtain ⟨t, ht, rfl⟩ := zr_t_in h
    exact zx_ifnonnull_ok hd ht
  · cases h
noncomputable def zr_tsw (pc : Nat) : zr_R := fun i n => match i with
  | .tableswitch df lo hi offs => zr_b (decide ((Int32.ofInt lo).toInt = lo) && (decide ((Int32.ofInt hi).toInt = hi) && (decide ((pc : Int) + df = ((((pc : Int) + df).toNat : Nat) : Int)) && decide (offs.toList.map (fun q => (pc : Int) + q) = (offs.toList.map (fun q => ((pc : Int) + q).toNat)).map (fun t : Nat => (t : Int)))))) (zx_tsw [] (Int32.ofInt lo) (Int32.ofInt hi) lo hi (offs.toList.map (fun q => ((pc : Int) + q).toNat)) ((pc : Int) + df).toNat)
  | _ => none
theorem zr_tsw_s {P : zx_P} {G : zx_G} {M : zx_M} {pc K0 : Nat} {O : List zx_W} {rt : List Nat} {T : List zx_X} {pool : zx_Tr zr_E} (H : zr_H P G O K0 rt T) (HP : ∀ j q, zx_g10 pool j = some q → zr_pe P G M.1.cls j q) : zr_snd P G M pc (zr_tsw pc) := by
  intro i n g h hd
  unfold zr_tsw at h
  split at h
  · next df lo hi offs =>
    obtain ⟨e, rfl⟩ := zr_b_in h
    simp only [Bool.and_eq_true] at e
    exact zx_tableswitch_ok zr_o (of_decide_eq_true e.1) (of_decide_eq_true e.2.1) hd (of_decide_eq_true e.2.2.1) (of_decide_eq_true e.2.2.2)
  · cases h
noncomputable def zr_lsw (pc : Nat) : zr_R := fun i n => match i with
  | .lookupswitch df ps => zr_b ((ps.toList.zip (ps.toList.drop 1)).all (fun (a, next) => a.1 < next.1)) (zx_lsw ps.toList df pc)
  | _ => none
theorem zr_lsw_s {P : zx_P} {G : zx_G} {M : zx_M} {pc K0 : Nat} {O : List zx_W} {rt : List Nat} {T : List zx_X} {pool : zx_Tr zr_E} (H : zr_H P G O K0 rt T) (HP : ∀ j q, zx_g10 pool j = some q → zr_pe P G M.1.cls j q) : zr_snd P G M pc (zr_lsw pc) := by
  intro i n g h hd
  unfold zr_lsw at h
  split at h
  · next df ps =>
    obtain ⟨e, rfl⟩ := zr_b_in h
    exact zx_lookupswitch_ok hd e rfl
  · cases h
noncomputable def zr_iaload (O : List zx_W) (K0 : Nat) (pc : Nat) : zr_R := fun i n => match i with
  | .iaload => zr_n 1 n (some (zx_aldO [] O K0 0 (pc + 1)))
  | _ => none
theorem zr_iaload_s {P : zx_P} {G : zx_G} {M : zx_M} {pc K0 : Nat} {O : List zx_W} {rt : List Nat} {T : List zx_X} {pool : zx_Tr zr_E} (H : zr_H P G O K0 rt T) (HP : ∀ j q, zx_g10 pool j = some q → zr_pe P G M.1.cls j q) : zr_snd P G M pc (zr_iaload O K0 pc) := by
  intro i n g h hd
  unfold zr_iaload at h
  split at h
  · skip
    replace h := zr_n_in h
    obtain ⟨e9, h⟩ := h
    subst e9
    cases h
    exact zx_ialoadO_ok zr_o H.1 H.2.1 H.2.2.2.1 hd
  · cases h
noncomputable def zr_laload (pc : Nat) : zr_R := fun i n => match i with
  | .laload => zr_n 1 n (some (zx_ald [] 1 (pc + 1)))
  | _ => none
theorem zr_laload_s {P : zx_P} {G : zx_G} {M : zx_M} {pc K0 : Nat} {O : List zx_W} {rt : List Nat} {T : List zx_X} {pool : zx_Tr zr_E} (H : zr_H P G O K0 rt T) (HP : ∀ j q, zx_g10 pool j = some q → zr_pe P G M.1.cls j q) : zr_snd P G M pc (zr_laload pc) := by
  intro i n g h hd
  unfold zr_laload at h
  split at h
  · skip
    replace h := zr_n_in h
    obtain ⟨e9, h⟩ := h
    subst e9
    cases h
    exact zx_laload_ok zr_o H.1 H.2.2.2.2.1 hd
  · cases h
/-- by whether a row is older -/
noncomputable def zr_byK (K0 : Nat) (A B : zx_F) : zx_F := fun rec L st h sl k => match st with
  | _ :: .ref i :: _ => (match Nat.blt i K0 with
    | true => A rec L st h sl k
    | false => B rec L st h sl k)
  | _ => none
theorem zr_byK_ok {P : zx_P} {G : zx_G} {M : zx_M} {pc K0 : Nat} {A B : zx_F} (hA : zx_ok P G M pc A) (hB : zx_ok P G M pc B) : zx_ok P G M pc (zr_byK K0 A B) := by
  intro E d k0 s0 res rec k L st h sl hE hr hrec hk
  unfold zr_byK at hr
  split at hr
  · split at hr
    · exact hA E d k0 s0 res rec k L _ h sl hE hr hrec hk
    · exact hB E d k0 s0 res rec k L _ h sl hE hr hrec hk
  · cases hr
noncomputable def zr_baload (O : List zx_W) (K0 : Nat) (pc : Nat) : zr_R := fun i n => match i with
  | .baload => zr_n 1 n (some (zr_byK K0 (zx_aldO [] O K0 2 (pc + 1)) (zr_alt (zx_aldO [] O K0 2 (pc + 1)) (zx_ald [] 3 (pc + 1)))))
  | _ => none
theorem zr_baload_s {P : zx_P} {G : zx_G} {M : zx_M} {pc K0 : Nat} {O : List zx_W} {rt : List Nat} {T : List zx_X} {pool : zx_Tr zr_E} (H : zr_H P G O K0 rt T) (HP : ∀ j q, zx_g10 pool j = some q → zr_pe P G M.1.cls j q) : zr_snd P G M pc (zr_baload O K0 pc) := by
  intro i n g h hd
  unfold zr_baload at h
  split at h
  · skip
    replace h := zr_n_in h
    obtain ⟨e9, h⟩ := h
    subst e9
    cases h
    exact zr_byK_ok (zx_baloadO_ok zr_o H.1 H.2.1 H.2.2.2.2.2.1 hd) (zr_alt_ok (zx_baloadO_ok zr_o H.1 H.2.1 H.2.2.2.2.2.1 hd) (zx_zaload_ok zr_o H.1 H.2.2.2.2.2.2.1 hd))
  · cases h
noncomputable def zr_aaload (rt : List Nat) (pc : Nat) : zr_R := fun i n => match i with
  | .aaload => zr_n 1 n (some (zr_aa (pc + 1) rt))
  | _ => none
theorem zr_aaload_s {P : zx_P} {G : zx_G} {M : zx_M} {pc K0 : Nat} {O : List zx_W} {rt : List Nat} {T : List zx_X} {pool : zx_Tr zr_E} (H : zr_H P G O K0 rt T) (HP : ∀ j q, zx_g10 pool j = some q → zr_pe P G M.1.cls j q) : zr_snd P G M pc (zr_aaload rt pc) := by
  intro i n g h hd
  unfold zr_aaload at h
  split at h
  · skip
    replace h := zr_n_in h
    obtain ⟨e9, h⟩ := h
    subst e9
    cases h
    exact zr_aa_ok H.1 hd H.2.2.2.2.2.2.2.1
  · cases h
noncomputable def zr_iastore (K0 : Nat) (pc : Nat) : zr_R := fun i n => match i with
  | .iastore => zr_n 1 n (some (zx_ast K0 0 zx_cvI (pc + 1)))
  | _ => none
theorem zr_iastore_s {P : zx_P} {G : zx_G} {M : zx_M} {pc K0 : Nat} {O : List zx_W} {rt : List Nat} {T : List zx_X} {pool : zx_Tr zr_E} (H : zr_H P G O K0 rt T) (HP : ∀ j q, zx_g10 pool j = some q → zr_pe P G M.1.cls j q) : zr_snd P G M pc (zr_iastore K0 pc) := by
  intro i n g h hd
  unfold zr_iastore at h
  split at h
  · skip
    replace h := zr_n_in h
    obtain ⟨e9, h⟩ := h
    subst e9
    cases h
    exact zx_iastore_ok H.1 H.2.2.1 H.2.2.2.1 hd
  · cases h
noncomputable def zr_lastore (K0 : Nat) (pc : Nat) : zr_R := fun i n => match i with
  | .lastore => zr_n 1 n (some (zx_ast K0 1 zx_cvJ (pc + 1)))
  | _ => none
theorem zr_lastore_s {P : zx_P} {G : zx_G} {M : zx_M} {pc K0 : Nat} {O : List zx_W} {rt : List Nat} {T : List zx_X} {pool : zx_Tr zr_E} (H : zr_H P G O K0 rt T) (HP : ∀ j q, zx_g10 pool j = some q → zr_pe P G M.1.cls j q) : zr_snd P G M pc (zr_lastore K0 pc) := by
  intro i n g h hd
  unfold zr_lastore at h
  split at h
  · skip
    replace h := zr_n_in h
    obtain ⟨e9, h⟩ := h
    subst e9
    cases h
    exact zx_lastore_ok H.1 H.2.2.1 H.2.2.2.2.1 hd
  · cases h
noncomputable def zr_bastore (K0 : Nat) (pc : Nat) : zr_R := fun i n => match i with
  | .bastore => zr_n 1 n (some (zr_alt (zx_ast K0 2 zx_cvB (pc + 1)) (zx_ast K0 3 zx_cvZ (pc + 1))))
  | _ => none
theorem zr_bastore_s {P : zx_P} {G : zx_G} {M : zx_M} {pc K0 : Nat} {O : List zx_W} {rt : List Nat} {T : List zx_X} {pool : zx_Tr zr_E} (H : zr_H P G O K0 rt T) (HP : ∀ j q, zx_g10 pool j = some q → zr_pe P G M.1.cls j q) : zr_snd P G M pc (zr_bastore K0 pc) := by
  intro i n g h hd
  unfold zr_bastore at h
  split at h
  · skip
    replace h := zr_n_in h
    obtain ⟨e9, h⟩ := h
    subst e9
    cases h
    exact zr_alt_ok (zx_bastore_ok H.1 H.2.2.1 H.2.2.2.2.2.1 hd) (zx_zastore_ok H.1 H.2.2.1 H.2.2.2.2.2.2.1 hd)
  · cases h
noncomputable def zr_alen (O : List zx_W) (K0 : Nat) (pc : Nat) : zr_R := fun i n => match i with
  | .arraylength => zr_n 1 n (some (zx_alenO O K0 (pc + 1)))
  | _ => none
theorem zr_alen_s {P : zx_P} {G : zx_G} {M : zx_M} {pc K0 : Nat} {O : List zx_W} {rt : List Nat} {T : List zx_X} {pool : zx_Tr zr_E} (H : zr_H P G O K0 rt T) (HP : ∀ j q, zx_g10 pool j = some q → zr_pe P G M.1.cls j q) : zr_snd P G M pc (zr_alen O K0 pc) := by
  intro i n g h hd
  unfold zr_alen at h
  split at h
  · skip
    replace h := zr_n_in h
    obtain ⟨e9, h⟩ := h
    subst e9
    cases h
    exact zx_arraylengthO_ok H.2.1 hd
  · cases h
noncomputable def zr_iret (rty : Option FieldType) (pc : Nat) : zr_R := fun i n => match i with
  | .ireturn => zr_n 1 n (match rty with | some .int => some zx_iret | some ty => some (zx_zret ty) | none => none)
  | _ => none
theorem zr_iret_s {P : zx_P} {G : zx_G} {M : zx_M} {pc K0 : Nat} {O : List zx_W} {rt : List Nat} {T : List zx_X} {pool : zx_Tr zr_E} (H : zr_H P G O K0 rt T) (HP : ∀ j q, zx_g10 pool j = some q → zr_pe P G M.1.cls j q) : zr_snd P G M pc (zr_iret M.2.2.2.1 pc) := by
  intro i n g h hd
  unfold zr_iret at h
  split at h
  · skip
    replace h := zr_n_in h
    obtain ⟨e9, h⟩ := h
    subst e9
    split at h
    · next e =>
      cases h
      exact zx_ireturn_ok e hd
    · next ty e _ =>
      cases h
      exact zx_zreturn_ok (by assumption) hd
    · cases h
  · cases h
noncomputable def zr_lret (rty : Option FieldType) (pc : Nat) : zr_R := fun i n => match i with
  | .lreturn => zr_n 1 n (match rty with | some .long => some zx_lret | _ => none)
  | _ => none
theorem zr_lret_s {P : zx_P} {G : zx_G} {M : zx_M} {pc K0 : Nat} {O : List zx_W} {rt : List Nat} {T : List zx_X} {pool : zx_Tr zr_E} (H : zr_H P G O K0 rt T) (HP : ∀ j q, zx_g10 pool j = some q → zr_pe P G M.1.cls j q) : zr_snd P G M pc (zr_lret M.2.2.2.1 pc) := by
  intro i n g h hd
  unfold zr_lret at h
  split at h
  · skip
    replace h := zr_n_in h
    obtain ⟨e9, h⟩ := h
    subst e9
    split at h
    · next e =>
      cases h
      exact zx_lreturn_ok e hd
    · cases h
  · cases h
noncomputable def zr_aret (rty : Option FieldType) (pc : Nat) : zr_R := fun i n => match i with
  | .areturn => zr_n 1 n (match rty with | some (.object _) => some zx_aret | some (.array _) => some zx_aret | _ => none)
  | _ => none
theorem zr_aret_s {P : zx_P} {G : zx_G} {M : zx_M} {pc K0 : Nat} {O : List zx_W} {rt : List Nat} {T : List zx_X} {pool : zx_Tr zr_E} (H : zr_H P G O K0 rt T) (HP : ∀ j q, zx_g10 pool j = some q → zr_pe P G M.1.cls j q) : zr_snd P G M pc (zr_aret M.2.2.2.1 pc) := by
  intro i n g h hd
  unfold zr_aret at h
  split at h
  · skip
    replace h := zr_n_in h
    obtain ⟨e9, h⟩ := h
    subst e9
    split at h
    · next x e =>
      cases h
      exact zx_areturn_ok e (Or.inl ⟨x, rfl⟩) hd
    · next x e =>
      cases h
      exact zx_areturn_ok e (Or.inr ⟨x, rfl⟩) hd
    · cases h
  · cases h
noncomputable def zr_vret (rty : Option FieldType) (pc : Nat) : zr_R := fun i n => match i with
  | .return_ => zr_n 1 n (match rty with | none => some zx_vret | _ => none)
  | _ => none
theorem zr_vret_s {P : zx_P} {G : zx_G} {M : zx_M} {pc K0 : Nat} {O : List zx_W} {rt : List Nat} {T : List zx_X} {pool : zx_Tr zr_E} (H : zr_H P G O K0 rt T) (HP : ∀ j q, zx_g10 pool j = some q → zr_pe P G M.1.cls j q) : zr_snd P G M pc (zr_vret M.2.2.2.1 pc) := by
  intro i n g h hd
  unfold zr_vret at h
  split at h
  · skip
    replace h := zr_n_in h
    obtain ⟨e9, h⟩ := h
    subst e9
    split at h
    · next e =>
      cases h
      exact zx_return_ok e hd
    · cases h
  · cases h
noncomputable def zr_ldc (pool : zx_Tr zr_E) (pc : Nat) : zr_R := fun i n => match i with
  | .ldc x => zr_n 2 n (match zx_g10 pool x with | none => none | some q => (match q.1 with | 0 => some (zx_ci q.2.2.2.2.1 (pc + 2)) | 2 => some (zx_ldcs q.2.1 (pc + 2)) | _ => none))
  | _ => none
theorem zr_ldc_s {P : zx_P} {G : zx_G} {M : zx_M} {pc K0 : Nat} {O : List zx_W} {rt : List Nat} {T : List zx_X} {pool : zx_Tr zr_E} (H : zr_H P G O K0 rt T) (HP : ∀ j q, zx_g10 pool j = some q → zr_pe P G M.1.cls j q) : zr_snd P G M pc (zr_ldc pool pc) := by
  intro i n g h hd
  unfold zr_ldc at h
  split at h
  · next x =>
    replace h := zr_n_in h
    obtain ⟨e9, h⟩ := h
    subst e9
    split at h
    · cases h
    · next q eq =>
      have hq := HP _ _ eq
      obtain ⟨q1, q2, q3, q4, q5, q6⟩ := q
      dsimp only at h
      split at h
      · skip
        obtain ⟨v, rfl, hw⟩ := hq
        cases h
        exact zx_ldc_ok hw hd
      · skip
        obtain ⟨j, bt, tx, l, h1, h2⟩ := hq
        cases h
        exact zx_ldcs_ok h1 h2 hd
      · cases h
  · cases h
theorem zx_ldcsw_ok {P : zx_P} {G : zx_G} {M : zx_M} {pc j i bt index : Nat} {tx : String} {l : List (String × Nat)} (hz : P.2.2.2.2.2.2.1[j]? = some (i, bt, tx, l)) (hl : (M.1.cls, index) ∈ l) (hd : decode M.2.1 pc = .ok (.ldc_w index, 3)) : zx_ok P G M pc (zx_ldcs i (pc + 3)) := by
  refine zx_read (fun rec kk L st h sl res hr => ⟨_, _, hr, fun p lz e R s m args below meth c H locs cells slots Q X hh ls cst g3 kk => ?_⟩)
  have hR : vk_R M.1.cls index tx (G.2.2.2.1.1 i) s := (X.2.2.2.2.2.2.2.2.2.2.1 j _ hz).2.2.2.2 _ hl
  intro T hT XX
  obtain ⟨t, a1, b1⟩ := kk (.ref _ :: cst) ⟨rfl, g3⟩ T hT XX
  exact ⟨t, XX.ldcStringW X.1 X.2.2.2.2.1 (text := tx) hR.1 hR.2 (g := F0 m pc ls cst) rfl (by rw [X.2.1]; exact hd) t a1, b1⟩
noncomputable def zr_ldcw (pool : zx_Tr zr_E) (pc : Nat) : zr_R := fun i n => match i with
  | .ldc_w x => zr_n 3 n (match zx_g10 pool x with | none => none | some q => (match q.1 with | 0 => some (zx_ci q.2.2.2.2.1 (pc + 3)) | 2 => some (zx_ldcs q.2.1 (pc + 3)) | _ => none))
  | _ => none
theorem zr_ldcw_s {P : zx_P} {G : zx_G} {M : zx_M} {pc K0 : Nat} {O : List zx_W} {rt : List Nat} {T : List zx_X} {pool : zx_Tr zr_E} (H : zr_H P G O K0 rt T) (HP : ∀ j q, zx_g10 pool j = some q → zr_pe P G M.1.cls j q) : zr_snd P G M pc (zr_ldcw pool pc) := by
  intro i n g h hd
  unfold zr_ldcw at h
  split at h
  · next x =>
    replace h := zr_n_in h
    obtain ⟨e9, h⟩ := h
    subst e9
    split at h
    · cases h
    · next q eq =>
      have hq := HP _ _ eq
      obtain ⟨q1, q2, q3, q4, q5, q6⟩ := q
      dsimp only at h
      split at h
      · skip
        obtain ⟨v, rfl, hw⟩ := hq
        cases h
        exact zx_ldcw_ok hw hd
      · skip
        obtain ⟨j, bt, tx, l, h1, h2⟩ := hq
        cases h
        exact zx_ldcsw_ok h1 h2 hd
      · cases h
  · cases h
noncomputable def zr_ldc2 (pool : zx_Tr zr_E) (pc : Nat) : zr_R := fun i n => match i with
  | .ldc2_w x => zr_n 3 n (match zx_g10 pool x with | none => none | some q => (match q.1 with | 1 => some (zx_ci q.2.2.2.2.1 (pc + 3)) | _ => none))
  | _ => none
theorem zr_ldc2_s {P : zx_P} {G : zx_G} {M : zx_M} {pc K0 : Nat} {O : List zx_W} {rt : List Nat} {T : List zx_X} {pool : zx_Tr zr_E} (H : zr_H P G O K0 rt T) (HP : ∀ j q, zx_g10 pool j = some q → zr_pe P G M.1.cls j q) : zr_snd P G M pc (zr_ldc2 pool pc) := by
  intro i n g h hd
  unfold zr_ldc2 at h
  split at h
  · next x =>
    replace h := zr_n_in h
    obtain ⟨e9, h⟩ := h
    subst e9
    split at h
    · cases h
    · next q eq =>
      have hq := HP _ _ eq
      obtain ⟨q1, q2, q3, q4, q5, q6⟩ := q
      dsimp only at h
      split at h
      · skip
        obtain ⟨v, rfl, hw⟩ := hq
        cases h
        exact zx_ldc2_ok hw hd
      · cases h
  · cases h
noncomputable def zr_getf (pool : zx_Tr zr_E) (T : List zx_X) (pc : Nat) : zr_R := fun i n => match i with
  | .getfield x => zr_n 3 n (match zx_g10 pool x with | none => none | some q => (match q.1 with | 3 => some (zx_getf q.2.1 q.2.2.1 (pc + 3)) | 4 => some (zx_getf q.2.1 q.2.2.1 (pc + 3)) | 14 => some (zx_gett T zx_tv (pc + 3)) | 15 => some (zx_gett T zx_tc (pc + 3)) | _ => none))
  | _ => none
theorem zr_getf_s {P : zx_P} {G : zx_G} {M : zx_M} {pc K0 : Nat} {O : List zx_W} {rt : List Nat} {T : List zx_X} {pool : zx_Tr zr_E} (H : zr_H P G O K0 rt T) (HP : ∀ j q, zx_g10 pool j = some q → zr_pe P G M.1.cls j q) : zr_snd P G M pc (zr_getf pool T pc) := by
  intro i n g h hd
  unfold zr_getf at h
  split at h
  · next x =>
    replace h := zr_n_in h
    obtain ⟨e9, h⟩ := h
    subst e9
    split at h
    · cases h
    · next q eq =>
      have hq := HP _ _ eq
      obtain ⟨q1, q2, q3, q4, q5, q6⟩ := q
      dsimp only at h
      split at h
      · skip
        obtain ⟨N, C, T9, ty0, h1, h2, h3, h4, h5, h6⟩ := hq
        cases h
        exact zx_getfield_ok h1 h2 h6 hd
      · skip
        obtain ⟨N, C, host, T9, ty0, h1, h2, h3, h5, h6⟩ := hq
        cases h
        exact zx_getfieldN_ok h1 h2 h6 hd
      · skip
        cases h
        exact zx_gettv_ok T H.2.2.2.2.2.2.2.2.2 hq hd
      · skip
        cases h
        exact zx_gettc_ok T H.2.2.2.2.2.2.2.2.2 hq hd
      · cases h
  · cases h
noncomputable def zr_putf (pool : zx_Tr zr_E) (K0 : Nat) (pc : Nat) : zr_R := fun i n => match i with
  | .putfield x => zr_n 3 n (match zx_g10 pool x with | none => none | some q => (match q.1 with | 3 => zr_b (Nat.beq q.2.2.2.1 0) (zx_putf K0 q.2.1 q.2.2.1 q.2.2.2.2.2 (pc + 3)) | 4 => some (zx_putf K0 q.2.1 q.2.2.1 q.2.2.2.2.2 (pc + 3)) | _ => none))
  | _ => none
theorem zr_putf_s {P : zx_P} {G : zx_G} {M : zx_M} {pc K0 : Nat} {O : List zx_W} {rt : List Nat} {T : List zx_X} {pool : zx_Tr zr_E} (H : zr_H P G O K0 rt T) (HP : ∀ j q, zx_g10 pool j = some q → zr_pe P G M.1.cls j q) : zr_snd P G M pc (zr_putf pool K0 pc) := by
  intro i n g h hd
  unfold zr_putf at h
  split at h
  · next x =>
    replace h := zr_n_in h
    obtain ⟨e9, h⟩ := h
    subst e9
    split at h
    · cases h
    · next q eq =>
      have hq := HP _ _ eq
      obtain ⟨q1, q2, q3, q4, q5, q6⟩ := q
      dsimp only at h
      split at h
      · skip
        obtain ⟨N, C, T9, ty0, h1, h2, h3, h4, h5, h6⟩ := hq
        obtain ⟨e, rfl⟩ := zr_b_in h
        have e0 : q4 = 0 := Nat.eq_of_beq_eq_true e
        subst e0
        exact zx_putfield_ok H.1 H.2.2.1 h1 h2 h3 h5 h6 hd
      · skip
        obtain ⟨N, C, host, T9, ty0, h1, h2, h3, h5, h6⟩ := hq
        cases h
        exact zx_putfieldN_ok H.1 H.2.2.1 h1 h2 h3 h5 h6 hd
      · cases h
  · cases h
noncomputable def zr_gets (pool : zx_Tr zr_E) (pc : Nat) : zr_R := fun i n => match i with
  | .getstatic x => zr_n 3 n (match zx_g10 pool x with | none => none | some q => (match q.1 with | 5 => some (zx_gets q.2.2.2.2.1 (pc + 3)) | 6 => some (zx_gets q.2.2.2.2.1 (pc + 3)) | _ => none))
  | _ => none
theorem zr_gets_s {P : zx_P} {G : zx_G} {M : zx_M} {pc K0 : Nat} {O : List zx_W} {rt : List Nat} {T : List zx_X} {pool : zx_Tr zr_E} (H : zr_H P G O K0 rt T) (HP : ∀ j q, zx_g10 pool j = some q → zr_pe P G M.1.cls j q) : zr_snd P G M pc (zr_gets pool pc) := by
  intro i n g h hd
  unfold zr_gets at h
  split at h
  · next x =>
    replace h := zr_n_in h
    obtain ⟨e9, h⟩ := h
    subst e9
    split at h
    · cases h
    · next q eq =>
      have hq := HP _ _ eq
      obtain ⟨q1, q2, q3, q4, q5, q6⟩ := q
      dsimp only at h
      split at h
      · skip
        obtain ⟨C, n9, d9, h1, h2⟩ := hq
        cases h
        exact zx_getstatic_ok h1 h2 hd
      · skip
        obtain ⟨C, n9, d9, host, h1, h2⟩ := hq
        cases h
        exact zx_getstaticN_ok h1 h2 hd
      · cases h
  · cases h
noncomputable def zr_invs (pool : zx_Tr zr_E) (pc : Nat) : zr_R := fun i n => match i with
  | .invokestatic x => zr_n 3 n (match zx_g10 pool x with | none => none | some q => (match q.1 with | 7 => some (zx_call q.2.1 q.2.2.1 zx_ok0 (pc + 3)) | 8 => some (zx_call q.2.1 q.2.2.1 zx_ok0 (pc + 3)) | 12 => some (zx_max (pc + 3)) | 13 => some (zx_min (pc + 3)) | _ => none))
  | _ => none
theorem zr_invs_s {P : zx_P} {G : zx_G} {M : zx_M} {pc K0 : Nat} {O : List zx_W} {rt : List Nat} {T : List zx_X} {pool : zx_Tr zr_E} (H : zr_H P G O K0 rt T) (HP : ∀ j q, zx_g10 pool j = some q → zr_pe P G M.1.cls j q) : zr_snd P G M pc (zr_invs pool pc) := by
  intro i n g h hd
  unfold zr_invs at h
  split at h
  · next x =>
    replace h := zr_n_in h
    obtain ⟨e9, h⟩ := h
    subst e9
    split at h
    · cases h
    · next q eq =>
      have hq := HP _ _ eq
      obtain ⟨q1, q2, q3, q4, q5, q6⟩ := q
      dsimp only at h
      split at h
      · skip
        obtain ⟨M2, h1, h2, h3, h4, h5⟩ := hq
        cases h
        exact zx_invokestatic_ok h1 h2 H.2.2.2.2.2.2.2.2.1 h3 h4 h5 hd
      · skip
        obtain ⟨M2, host, h1, h2, h3, h4, h5⟩ := hq
        cases h
        exact zx_invokestaticN_ok h1 h2 H.2.2.2.2.2.2.2.2.1 h3 h4 h5 hd
      · skip
        obtain ⟨h1, h2, h3, h4⟩ := hq
        cases h
        exact zx_max_ok h1 h2 h3 h4 hd
      · skip
        obtain ⟨h1, h2, h3, h4⟩ := hq
        cases h
        exact zx_min_ok h1 h2 h3 h4 hd
      · cases h
  · cases h
noncomputable def zr_invv (pool : zx_Tr zr_E) (T : List zx_X) (pc : Nat) : zr_R := fun i n => match i with
  | .invokevirtual x => zr_n 3 n (match zx_g10 pool x with | none => none | some q => (match q.1 with | 9 => some (zx_call q.2.1 (q.2.2.1 + 1) (zx_okV q.2.2.2.1) (pc + 3)) | 10 => some (zx_call q.2.1 (q.2.2.1 + 1) (zx_okV q.2.2.2.1) (pc + 3)) | 11 => some (zx_call q.2.1 (q.2.2.1 + 1) (zx_okT T) (pc + 3)) | _ => none))
  | _ => none
theorem zr_invv_s {P : zx_P} {G : zx_G} {M : zx_M} {pc K0 : Nat} {O : List zx_W} {rt : List Nat} {T : List zx_X} {pool : zx_Tr zr_E} (H : zr_H P G O K0 rt T) (HP : ∀ j q, zx_g10 pool j = some q → zr_pe P G M.1.cls j q) : zr_snd P G M pc (zr_invv pool T pc) := by
  intro i n g h hd
  unfold zr_invv at h
  split at h
  · next x =>
    replace h := zr_n_in h
    obtain ⟨e9, h⟩ := h
    subst e9
    split at h
    · cases h
    · next q eq =>
      have hq := HP _ _ eq
      obtain ⟨q1, q2, q3, q4, q5, q6⟩ := q
      dsimp only at h
      split at h
      · skip
        obtain ⟨M2, r, h0, h1, h2, h3, h4, h5, h6⟩ := hq
        cases h
        exact zx_invokevirtual_ok h0 h1 h2 H.2.2.2.2.2.2.2.2.1 h3 h4 h5 h6 hd
      · skip
        obtain ⟨M2, r, host, h0, h1, h2, h3, h4, h5, h6⟩ := hq
        cases h
        exact zx_invokevirtualN_ok h0 h1 h2 H.2.2.2.2.2.2.2.2.1 h3 h4 h5 h6 hd
      · skip
        obtain ⟨M2, h1, h2, h3, h4, h5, h6⟩ := hq
        cases h
        exact zx_invokevirtualT_ok T H.2.2.2.2.2.2.2.2.2 h1 h2 H.2.2.2.2.2.2.2.2.1 h3 h4 h5 h6 hd
      · cases h
  · cases h
noncomputable def zr_try : List zr_R → zr_R
  | [] => fun _ _ => none
  | f :: r => fun i n => match f i n with
    | some g => some g
    | none => zr_try r i n
theorem zr_try_s {P : zx_P} {G : zx_G} {M : zx_M} {pc : Nat} : ∀ {l : List zr_R}, (∀ f ∈ l, zr_snd P G M pc f) → zr_snd P G M pc (zr_try l)
  | [], _ => fun i n g h hd => nomatch h
  | f :: r, hl => fun i n g h hd => by
    have h9 : (match f i n with | some g => some g | none => zr_try r i n) = some g := h
    cases e : f i n with
    | some g2 =>
      rw [e] at h9
      cases h9
      exact hl f List.mem_cons_self i n _ e hd
    | none =>
      rw [e] at h9
      exact zr_try_s (fun q hq => hl q (List.mem_cons_of_mem _ hq)) i n g h9 hd
noncomputable def zr_rows (O : List zx_W) (K0 : Nat) (rt : List Nat) (T : List zx_X) (pool : zx_Tr zr_E) (ml : Nat) (rty : Option FieldType) (pc : Nat) : List zr_R := [zr_aload_n pc, zr_iload_n pc, zr_iconst pc, zr_invv pool T pc, zr_iload pc, zr_bipush pc, zr_getf pool T pc, zr_iret rty pc, zr_sipush pc, zr_lconst pc, zr_null pc, zr_istore ml pc, zr_istore_n ml pc, zr_lload pc, zr_lload_n pc, zr_lstore ml pc, zr_lstore_n ml pc, zr_aload pc, zr_astore ml pc, zr_astore_n ml pc, zr_iinc ml pc, zr_iadd pc, zr_isub pc, zr_iand pc, zr_ishr pc, zr_iushr pc, zr_idiv pc, zr_irem pc, zr_imul pc, zr_ior pc, zr_ixor pc, zr_ishl pc, zr_ladd pc, zr_lsub pc, zr_lmul pc, zr_land pc, zr_lor pc, zr_lshl pc, zr_lshr pc, zr_lushr pc, zr_ldiv pc, zr_lrem pc, zr_ineg pc, zr_i2b pc, zr_i2s pc, zr_i2c pc, zr_lneg pc, zr_i2l pc, zr_l2i pc, zr_lcmp pc, zr_dup pc, zr_pop pc, zr_dup2 pc, zr_ifeq pc, zr_iceq pc, zr_ifne pc, zr_icne pc, zr_iflt pc, zr_iclt pc, zr_ifge pc, zr_icge pc, zr_ifgt pc, zr_icgt pc, zr_ifle pc, zr_icle pc, zr_goto pc, zr_ifnull pc, zr_ifnonnull pc, zr_tsw pc, zr_lsw pc, zr_iaload O K0 pc, zr_laload pc, zr_baload O K0 pc, zr_aaload rt pc, zr_iastore K0 pc, zr_lastore K0 pc, zr_bastore K0 pc, zr_alen O K0 pc, zr_lret rty pc, zr_aret rty pc, zr_vret rty pc, zr_ldc pool pc, zr_ldcw pool pc, zr_ldc2 pool pc, zr_putf pool K0 pc, zr_gets pool pc, zr_invs pool pc]
theorem zr_rows_s {P : zx_P} {G : zx_G} {M : zx_M} {pc K0 : Nat} {O : List zx_W} {rt : List Nat} {T : List zx_X} {pool : zx_Tr zr_E} (H : zr_H P G O K0 rt T) (HP : ∀ j q, zx_g10 pool j = some q → zr_pe P G M.1.cls j q) : ∀ f ∈ zr_rows O K0 rt T pool M.2.2.1 M.2.2.2.1 pc, zr_snd P G M pc f := List.forall_mem_cons.mpr ⟨zr_aload_n_s H HP, List.forall_mem_cons.mpr ⟨zr_iload_n_s H HP, List.forall_mem_cons.mpr ⟨zr_iconst_s H HP, List.forall_mem_cons.mpr ⟨zr_invv_s H HP, List.forall_mem_cons.mpr ⟨zr_iload_s H HP, List.forall_mem_cons.mpr ⟨zr_bipush_s H HP, List.forall_mem_cons.mpr ⟨zr_getf_s H HP, List.forall_mem_cons.mpr ⟨zr_iret_s H HP, List.forall_mem_cons.mpr ⟨zr_sipush_s H HP, List.forall_mem_cons.mpr ⟨zr_lconst_s H HP, List.forall_mem_cons.mpr ⟨zr_null_s H HP, List.forall_mem_cons.mpr ⟨zr_istore_s H HP, List.forall_mem_cons.mpr ⟨zr_istore_n_s H HP, List.forall_mem_cons.mpr ⟨zr_lload_s H HP, List.forall_mem_cons.mpr ⟨zr_lload_n_s H HP, List.forall_mem_cons.mpr ⟨zr_lstore_s H HP, List.forall_mem_cons.mpr ⟨zr_lstore_n_s H HP, List.forall_mem_cons.mpr ⟨zr_aload_s H HP, List.forall_mem_cons.mpr ⟨zr_astore_s H HP, List.forall_mem_cons.mpr ⟨zr_astore_n_s H HP, List.forall_mem_cons.mpr ⟨zr_iinc_s H HP, List.forall_mem_cons.mpr ⟨zr_iadd_s H HP, List.forall_mem_cons.mpr ⟨zr_isub_s H HP, List.forall_mem_cons.mpr ⟨zr_iand_s H HP, List.forall_mem_cons.mpr ⟨zr_ishr_s H HP, List.forall_mem_cons.mpr ⟨zr_iushr_s H HP, List.forall_mem_cons.mpr ⟨zr_idiv_s H HP, List.forall_mem_cons.mpr ⟨zr_irem_s H HP, List.forall_mem_cons.mpr ⟨zr_imul_s H HP, List.forall_mem_cons.mpr ⟨zr_ior_s H HP, List.forall_mem_cons.mpr ⟨zr_ixor_s H HP, List.forall_mem_cons.mpr ⟨zr_ishl_s H HP, List.forall_mem_cons.mpr ⟨zr_ladd_s H HP, List.forall_mem_cons.mpr ⟨zr_lsub_s H HP, List.forall_mem_cons.mpr ⟨zr_lmul_s H HP, List.forall_mem_cons.mpr ⟨zr_land_s H HP, List.forall_mem_cons.mpr ⟨zr_lor_s H HP, List.forall_mem_cons.mpr ⟨zr_lshl_s H HP, List.forall_mem_cons.mpr ⟨zr_lshr_s H HP, List.forall_mem_cons.mpr ⟨zr_lushr_s H HP, List.forall_mem_cons.mpr ⟨zr_ldiv_s H HP, List.forall_mem_cons.mpr ⟨zr_lrem_s H HP, List.forall_mem_cons.mpr ⟨zr_ineg_s H HP, List.forall_mem_cons.mpr ⟨zr_i2b_s H HP, List.forall_mem_cons.mpr ⟨zr_i2s_s H HP, List.forall_mem_cons.mpr ⟨zr_i2c_s H HP, List.forall_mem_cons.mpr ⟨zr_lneg_s H HP, List.forall_mem_cons.mpr ⟨zr_i2l_s H HP, List.forall_mem_cons.mpr ⟨zr_l2i_s H HP, List.forall_mem_cons.mpr ⟨zr_lcmp_s H HP, List.forall_mem_cons.mpr ⟨zr_dup_s H HP, List.forall_mem_cons.mpr ⟨zr_pop_s H HP, List.forall_mem_cons.mpr ⟨zr_dup2_s H HP, List.forall_mem_cons.mpr ⟨zr_ifeq_s H HP, List.forall_mem_cons.mpr ⟨zr_iceq_s H HP, List.forall_mem_cons.mpr ⟨zr_ifne_s H HP, List.forall_mem_cons.mpr ⟨zr_icne_s H HP, List.forall_mem_cons.mpr ⟨zr_iflt_s H HP, List.forall_mem_cons.mpr ⟨zr_iclt_s H HP, List.forall_mem_cons.mpr ⟨zr_ifge_s H HP, List.forall_mem_cons.mpr ⟨zr_icge_s H HP, List.forall_mem_cons.mpr ⟨zr_ifgt_s H HP, List.forall_mem_cons.mpr ⟨zr_icgt_s H HP, List.forall_mem_cons.mpr ⟨zr_ifle_s H HP, List.forall_mem_cons.mpr ⟨zr_icle_s H HP, List.forall_mem_cons.mpr ⟨zr_goto_s H HP, List.forall_mem_cons.mpr ⟨zr_ifnull_s H HP, List.forall_mem_cons.mpr ⟨zr_ifnonnull_s H HP, List.forall_mem_cons.mpr ⟨zr_tsw_s H HP, List.forall_mem_cons.mpr ⟨zr_lsw_s H HP, List.forall_mem_cons.mpr ⟨zr_iaload_s H HP, List.forall_mem_cons.mpr ⟨zr_laload_s H HP, List.forall_mem_cons.mpr ⟨zr_baload_s H HP, List.forall_mem_cons.mpr ⟨zr_aaload_s H HP, List.forall_mem_cons.mpr ⟨zr_iastore_s H HP, List.forall_mem_cons.mpr ⟨zr_lastore_s H HP, List.forall_mem_cons.mpr ⟨zr_bastore_s H HP, List.forall_mem_cons.mpr ⟨zr_alen_s H HP, List.forall_mem_cons.mpr ⟨zr_lret_s H HP, List.forall_mem_cons.mpr ⟨zr_aret_s H HP, List.forall_mem_cons.mpr ⟨zr_vret_s H HP, List.forall_mem_cons.mpr ⟨zr_ldc_s H HP, List.forall_mem_cons.mpr ⟨zr_ldcw_s H HP, List.forall_mem_cons.mpr ⟨zr_ldc2_s H HP, List.forall_mem_cons.mpr ⟨zr_putf_s H HP, List.forall_mem_cons.mpr ⟨zr_gets_s H HP, List.forall_mem_cons.mpr ⟨zr_invs_s H HP,  fun _ h => absurd h List.not_mem_nil⟩⟩⟩⟩⟩⟩⟩⟩⟩⟩⟩⟩⟩⟩⟩⟩⟩⟩⟩⟩⟩⟩⟩⟩⟩⟩⟩⟩⟩⟩⟩⟩⟩⟩⟩⟩⟩⟩⟩⟩⟩⟩⟩⟩⟩⟩⟩⟩⟩⟩⟩⟩⟩⟩⟩⟩⟩⟩⟩⟩⟩⟩⟩⟩⟩⟩⟩⟩⟩⟩⟩⟩⟩⟩⟩⟩⟩⟩⟩⟩⟩⟩⟩⟩⟩⟩⟩
/-- the step at a place of a method -/
noncomputable def zr_F (O : List zx_W) (K0 : Nat) (rt : List Nat) (T : List zx_X) (pool : zx_Tr zr_E) (M : zx_M) (pc : Nat) : Option zx_F := match decode M.2.1 pc with
  | .ok (i, n) => zr_try (zr_rows O K0 rt T pool M.2.2.1 M.2.2.2.1 pc) i n
  | _ => none
theorem zr_F_ok {P : zx_P} {G : zx_G} {M : zx_M} {pc K0 : Nat} {O : List zx_W} {rt : List Nat} {T : List zx_X} {pool : zx_Tr zr_E} {g : zx_F} (H : zr_H P G O K0 rt T) (HP : ∀ j q, zx_g10 pool j = some q → zr_pe P G M.1.cls j q) (h : zr_F O K0 rt T pool M pc = some g) : zx_ok P G M pc g := by
  unfold zr_F at h
  split at h
  · next i n e => exact zr_try_s (zr_rows_s H HP) i n g h e
  · cases h
/-- the run: fuel, how deep calls may go, the method and its pool, where it stands -/
noncomputable def zr_run (Fo : zx_M → zx_Tr zr_E → Nat → Option zx_F) (Q : List (zx_M × zx_Tr zr_E)) : Nat → Nat → (zx_M × zx_Tr zr_E) → Nat → zx_L → List Value → zx_H → Nat → zx_R
  | 0, _, _, _, _, _, _, _ => none
  | f + 1, d, M, pc, L, st, h, sl => match Fo M.1 M.2 pc with
    | none => none
    | some F => F (fun mi as h1 s1 => match d with
      | 0 => none
      | d2 + 1 => match zx_nth Q mi with
        | none => none
        | some M2 => match Nat.ble (zx_cats as) M2.1.2.2.1 with
          | true => zr_run Fo Q f d2 M2 0 (lv_args 0 as) [] h1 s1
          | false => none) L st h sl (fun pc2 L2 st2 h2 s2 => zr_run Fo Q f d M pc2 L2 st2 h2 s2)
theorem zr_run_ok {P : zx_P} {G : zx_G} {Fo : zx_M → zx_Tr zr_E → Nat → Option zx_F} {Q : List (zx_M × zx_Tr zr_E)} (hQ : Q.map Prod.fst = P.2.2.2.1) (hok : ∀ M ∈ Q, zx_mok P M.1 ∧ ∀ pc g, Fo M.1 M.2 pc = some g → zx_ok P G M.1 pc g) : ∀ (f d : Nat) (M : zx_M × zx_Tr zr_E) (E : zx_E) (k0 s0 : Nat) (pc : Nat) (L : zx_L) (st : List Value) (h : zx_H) (sl : Nat) (res : zx_T), (∀ pc g, Fo M.1 M.2 pc = some g → zx_okF P G M.1 E d k0 s0 res pc g) → zx_EE P G E k0 s0 res → zr_run Fo Q f d M pc L st h sl = some res →
    h.1 ≤ res.2.1.1 ∧ sl ≤ res.2.2 ∧ zx_w P G M.1 E d k0 s0 res pc L st h sl := by
  intro f
  induction f with
  | zero => intro d M E k0 s0 pc L st h sl res _ _ hr; cases hr
  | succ f ih =>
    intro d M E k0 s0 pc L st h sl res hcode hE hr
    unfold zr_run at hr
    split at hr
    · cases hr
    · next F e1 =>
      refine hcode _ _ e1 _ _ L st h sl hE hr ?_ (fun pc2 L2 st2 h2 s2 hq => ih d M E k0 s0 pc2 L2 st2 h2 s2 res hcode hE hq)
      intro mi as h1 s1 r hq
      split at hq
      · cases hq
      · next d2 =>
        split at hq
        · cases hq
        · next M2 e3 =>
          split at hq
          · next e4 =>
            rw [zx_nth_eq] at e3
            have hM2 : M2 ∈ Q := List.mem_of_getElem? e3
            have e5 : P.2.2.2.1[mi]? = some M2.1 := by rw [← hQ, List.getElem?_map, e3]; rfl
            obtain ⟨a1, a2, a3⟩ := ih d2 M2 (zx_EM P G h1.1 s1 r) h1.1 s1 0 _ _ h1 s1 r (fun pc g hg => (hok M2 hM2).2 pc g hg _ _ _ _ _) (fun _ _ _ _ _ _ _ _ _ z => z) hq
            exact ⟨a1, a2, d2, Nat.lt_succ_self d2, M2.1, e5, zx_entry (hok M2 hM2).1 (Nat.le_of_ble_eq_true e4) a3⟩
          · cases hq
/-- a call's run, by its number -/
noncomputable def zr_call (Fo : zx_M → zx_Tr zr_E → Nat → Option zx_F) (Q : List (zx_M × zx_Tr zr_E)) (f d mi : Nat) (as : List Value) (h : zx_H) (sl : Nat) : zx_R := match zx_nth Q mi with
  | none => none
  | some M2 => match Nat.ble (zx_cats as) M2.1.2.2.1 with
    | true => zr_run Fo Q f d M2 0 (lv_args 0 as) [] h sl
    | false => none
theorem zr_call_ok {P : zx_P} {G : zx_G} {Fo : zx_M → zx_Tr zr_E → Nat → Option zx_F} {Q : List (zx_M × zx_Tr zr_E)} (hQ : Q.map Prod.fst = P.2.2.2.1) (hok : ∀ M ∈ Q, zx_mok P M.1 ∧ ∀ pc g, Fo M.1 M.2 pc = some g → zx_ok P G M.1 pc g) {f d mi : Nat} {as : List Value} {h : zx_H} {sl : Nat} {r : zx_T} (hr : zr_call Fo Q f d mi as h sl = some r) : zx_met P G (d + 1) mi as h sl r := by
  unfold zr_call at hr
  split at hr
  · cases hr
  · next M2 e3 =>
    split at hr
    · next e4 =>
      rw [zx_nth_eq] at e3
      have hM2 : M2 ∈ Q := List.mem_of_getElem? e3
      have e5 : P.2.2.2.1[mi]? = some M2.1 := by rw [← hQ, List.getElem?_map, e3]; rfl
      obtain ⟨a1, a2, a3⟩ := zr_run_ok hQ hok f d M2 (zx_EM P G h.1 sl r) h.1 sl 0 _ _ h sl r (fun pc g hg => (hok M2 hM2).2 pc g hg _ _ _ _ _) (fun _ _ _ _ _ _ _ _ _ z => z) hr
      exact ⟨a1, a2, d, Nat.lt_succ_self d, M2.1, e5, zx_entry (hok M2 hM2).1 (Nat.le_of_ble_eq_true e4) a3⟩
    · cases hr
