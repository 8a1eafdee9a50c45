/-! ===== runs in numbers: values, cells and steps as data and functions; what a step's function says of the machine ===== -/
abbrev zx_L : Type := List (Nat × Value)
/-- a cell: an object (its class's number, its fields), or an array (its type's number, its length, what its places hold but those that are told) -/
noncomputable abbrev zx_A : Type := (Nat × zx_Tr Value) ⊕ (Nat × Nat × Value × zx_Tr Value)
/-- the cells: how many, and they -/
noncomputable abbrev zx_H : Type := Nat × zx_Tr zx_A
/-- where cells lie, what the named unknown ints and longs are -/
noncomputable abbrev zx_D : Type := (Nat → Nat) × (UInt32 → Int32) × (UInt64 → Int64)
noncomputable abbrev zx_T : Type := Option Value × zx_H × Nat
noncomputable abbrev zx_R : Type := Option zx_T
noncomputable abbrev zx_C : Type := Nat → List Value → zx_H → Nat → zx_R
noncomputable abbrev zx_K : Type := Nat → zx_L → List Value → zx_H → Nat → zx_R
noncomputable abbrev zx_F : Type := zx_C → zx_L → List Value → zx_H → Nat → zx_K → zx_R
/-- a method: its name, its code, locals, result, the steps by their places -/
noncomputable abbrev zx_M : Type := MethodName × ByteArray × Nat × Option FieldType × List (Nat × zx_F)
/-- the program: classes, array types, words, methods, how many cells are older than the run, static fields, texts (each with its row of bytes), what rows of references are over, links among nest mates -/
noncomputable abbrev zx_P : Type := List vw_C × List FieldType × List Cond × List zx_M × Nat × List (String × String × String × Value) × List (Nat × Nat × String × List (String × Nat)) × List FieldType × List Cond
/-- the world around: the launch, where classes and fields are, the array classes, the addresses, where new ones begin, the heap at first, what else stands for good -/
noncomputable abbrev zx_G : Type := Launch × va_G × List (ClassId × FieldType) × zx_D × Nat × Heap × (State → Prop)
noncomputable def zx_fn {α : Type} (n : Nat) (k : Nat → α) : α := match n with
  | 0 => k 0
  | m + 1 => k (m + 1)
theorem zx_fn_eq {α : Type} (n : Nat) (k : Nat → α) : zx_fn n k = k n := by cases n <;> rfl
noncomputable def zx_i (x : Int32) : Value := zx_fn x.toBitVec.toNat (fun n => .int (nI n))
theorem zx_nI (x : Int32) : nI x.toBitVec.toNat = x := by
  unfold nI
  apply Int32.toBitVec_inj.mp
  simp
theorem zx_i_eq (x : Int32) : zx_i x = .int x := by
  unfold zx_i
  rw [zx_fn_eq, zx_nI]
noncomputable def zx_l (x : Int64) : Value := zx_fn x.toBitVec.toNat (fun n => .long (lN n))
theorem zx_lN (x : Int64) : lN x.toBitVec.toNat = x := by
  unfold lN
  apply Int64.toBitVec_inj.mp
  simp
theorem zx_l_eq (x : Int64) : zx_l x = .long x := by
  unfold zx_l
  rw [zx_fn_eq, zx_lN]
noncomputable def zx_nth {α : Type} (l : List α) : Nat → Option α := List.rec (motive := fun _ => Nat → Option α) (fun _ => none) (fun a _ ih n => Nat.rec (motive := fun _ => Option α) (some a) (fun k _ => ih k) n) l
theorem zx_nth_eq {α : Type} : ∀ (l : List α) (n : Nat), zx_nth l n = l[n]?
  | [], _ => rfl
  | a :: l, 0 => rfl
  | a :: l, n + 1 => zx_nth_eq l n
noncomputable def zx_ld : zx_L → Nat → Option Value
  | [], _ => none
  | (i, v) :: r, k => if Nat.beq i k then some v else zx_ld r k
theorem zx_ld_mem : ∀ {L : zx_L} {k : Nat} {v : Value}, zx_ld L k = some v → (k, v) ∈ L
  | [], k, v, h => by simp [zx_ld] at h
  | (i, w) :: r, k, v, h => by
    unfold zx_ld at h
    split at h
    · next e =>
      have e2 : i = k := Nat.eq_of_beq_eq_true e
      cases h
      subst e2
      exact List.mem_cons_self
    · exact List.mem_cons_of_mem _ (zx_ld_mem h)
noncomputable def zx_cv (w : Bool) (i : Nat) (q : Nat × Value) : Bool := !(q.1 == i || (w && q.1 == i + 1) || (q.1 + 1 == i && q.2.category == 2))
/-- the locals with those left out that a store covers; laid down whole -/
noncomputable def zx_st {β : Type} (w : Bool) (i : Nat) : zx_L → (zx_L → β) → β
  | [], k => k []
  | q :: r, k => match zx_cv w i q with
    | true => zx_st w i r (fun r2 => k (q :: r2))
    | false => zx_st w i r k
theorem zx_st_eq {β : Type} (w : Bool) (i : Nat) : ∀ (L : zx_L) (k : zx_L → β), zx_st w i L k = k (L.filter (zx_cv w i))
  | [], k => rfl
  | q :: r, k => by
    unfold zx_st
    cases h : zx_cv w i q
    · rw [List.filter_cons_of_neg (by rw [h]; decide)]
      exact zx_st_eq w i r k
    · rw [List.filter_cons_of_pos h]
      exact zx_st_eq w i r _
noncomputable def zx_rd (d : Value) (u : zx_Tr Value) (j : Nat) : Value := match zx_g10 u j with
  | some v => v
  | none => d
theorem zx_rd_put (d v : Value) (u : zx_Tr Value) (i j : Nat) (hi : i < 300000) : zx_rd d (zx_s10 v u i) j = if j = i then v else zx_rd d u j := by
  unfold zx_rd
  rw [zx_tg_ts v u i j hi]
  by_cases h : j = i
  · rw [if_pos h, if_pos h]
  · rw [if_neg h, if_neg h]
theorem zx_rd_e (d : Value) (j : Nat) : zx_rd d (zx_e10 Value) j = d := by
  unfold zx_rd
  rw [zx_tg_e]
noncomputable def zx_hg (h : zx_H) (i : Nat) : Option zx_A := match h with
  | (_, t) => zx_g10 t i
noncomputable def zx_hs (h : zx_H) (i : Nat) (a : zx_A) : zx_H := (h.1, zx_s10 a h.2 i)
noncomputable def zx_hsC {β : Type} (h : zx_H) (i : Nat) (a : zx_A) (k : zx_H → β) : β := match h with
  | (n, t) => k (n, zx_s10 a t i)
theorem zx_hsC_eq {β : Type} (h : zx_H) (i : Nat) (a : zx_A) (k : zx_H → β) : zx_hsC h i a k = k (zx_hs h i a) := rfl
theorem zx_hg_hs (h : zx_H) (i j : Nat) (a : zx_A) (hi : i < 300000) : zx_hg (zx_hs h i a) j = if j = i then some a else zx_hg h j := zx_tg_ts a h.2 i j hi
noncomputable def zx_ha : zx_H → List zx_A → zx_H
  | h, [] => h
  | h, a :: l => zx_ha (h.1 + 1, zx_s10 a h.2 h.1) l
noncomputable def zx_haL {β : Type} : List zx_A → zx_H → (zx_H → β) → β
  | [], h, k => k h
  | a :: l, h, k => match h with
    | (n, t) => zx_fn (Nat.succ n) (fun m => zx_haL l (m, zx_s10 a t n) k)
theorem zx_haL_eq {β : Type} : ∀ (l : List zx_A) (h : zx_H) (k : zx_H → β), zx_haL l h k = k (zx_ha h l)
  | [], h, k => rfl
  | a :: l, (n, t), k => by
    show zx_fn (Nat.succ n) (fun m => zx_haL l (m, zx_s10 a t n) k) = _
    rw [zx_fn_eq, zx_haL_eq l]
    rfl
theorem zx_ha_len : ∀ (l : List zx_A) (h : zx_H), (zx_ha h l).1 = h.1 + l.length
  | [], h => rfl
  | a :: l, h => by
    unfold zx_ha
    rw [zx_ha_len l, List.length_cons]
    show h.1 + 1 + l.length = _
    omega
theorem zx_hg_ha : ∀ (l : List zx_A) (h : zx_H) (j : Nat) (b : zx_A), h.1 + l.length ≤ 300000 → zx_hg (zx_ha h l) j = some b → (zx_hg h j = some b ∧ (j < h.1 ∨ h.1 + l.length ≤ j)) ∨ (h.1 ≤ j ∧ l[j - h.1]? = some b)
  | [], h, j, b, hl, hg => Or.inl ⟨hg, by show j < h.1 ∨ h.1 + 0 ≤ j; omega⟩
  | a :: l, h, j, b, hl, hg => by
    unfold zx_ha at hg
    rw [List.length_cons] at hl
    have ih := zx_hg_ha l (h.1 + 1, zx_s10 a h.2 h.1) j b (by show h.1 + 1 + l.length ≤ _; omega) hg
    rcases ih with ⟨e1, e2⟩ | ⟨e1, e2⟩
    · have e3 : (if j = h.1 then some a else zx_hg h j) = some b := by
        rw [← zx_hg_hs h h.1 j a (by omega)]
        exact e1
      have e4 : j < h.1 + 1 ∨ h.1 + 1 + l.length ≤ j := e2
      by_cases e : j = h.1
      · rw [if_pos e] at e3
        exact Or.inr ⟨by omega, by rw [e, Nat.sub_self]; exact e3⟩
      · rw [if_neg e] at e3
        exact Or.inl ⟨e3, by rw [List.length_cons]; omega⟩
    · have e4 : h.1 + 1 ≤ j := e1
      have e5 : l[j - (h.1 + 1)]? = some b := e2
      refine Or.inr ⟨by omega, ?_⟩
      rw [show j - h.1 = (j - (h.1 + 1)) + 1 by omega, List.getElem?_cons_succ]
      exact e5
/-- the fields of an object of a class; a row's length, default, places; any row's length -/
noncomputable def zx_go (h : zx_H) (i ci : Nat) : Option (zx_Tr Value) := match zx_hg h i with
  | none => none
  | some a => match a with
    | .inl o => match Nat.beq o.1 ci with
      | true => some o.2
      | false => none
    | .inr _ => none
noncomputable def zx_ga (h : zx_H) (i ty : Nat) : Option (Nat × Value × zx_Tr Value) := match zx_hg h i with
  | none => none
  | some a => match a with
    | .inl _ => none
    | .inr x => match Nat.beq x.1 ty with
      | true => some x.2
      | false => none
noncomputable def zx_gl (h : zx_H) (i : Nat) : Option Nat := match zx_hg h i with
  | none => none
  | some a => match a with
    | .inl _ => none
    | .inr x => some x.2.1
theorem zx_go_in {h : zx_H} {i ci : Nat} {fs : zx_Tr Value} (hr : zx_go h i ci = some fs) : zx_hg h i = some (.inl (ci, fs)) := by
  unfold zx_go at hr
  cases e1 : zx_hg h i with
  | none => rw [e1] at hr; exact nomatch hr
  | some a =>
    rw [e1] at hr
    cases a with
    | inr x => exact nomatch hr
    | inl o =>
      obtain ⟨cj, gs⟩ := o
      dsimp only at hr
      cases e2 : Nat.beq cj ci with
      | false => rw [e2] at hr; exact nomatch hr
      | true =>
        rw [e2] at hr
        obtain rfl : cj = ci := Nat.eq_of_beq_eq_true e2
        rw [Option.some.inj hr]
theorem zx_ga_in {h : zx_H} {i ty : Nat} {x : Nat × Value × zx_Tr Value} (hr : zx_ga h i ty = some x) : zx_hg h i = some (.inr (ty, x)) := by
  unfold zx_ga at hr
  cases e1 : zx_hg h i with
  | none => rw [e1] at hr; exact nomatch hr
  | some a =>
    rw [e1] at hr
    cases a with
    | inl o => exact nomatch hr
    | inr y =>
      obtain ⟨t, z⟩ := y
      dsimp only at hr
      cases e2 : Nat.beq t ty with
      | false => rw [e2] at hr; exact nomatch hr
      | true =>
        rw [e2] at hr
        obtain rfl : t = ty := Nat.eq_of_beq_eq_true e2
        rw [Option.some.inj hr]
theorem zx_gl_in {h : zx_H} {i n : Nat} (hr : zx_gl h i = some n) : ∃ t d u, zx_hg h i = some (.inr (t, n, d, u)) := by
  unfold zx_gl at hr
  cases e1 : zx_hg h i with
  | none => rw [e1] at hr; exact nomatch hr
  | some a =>
    rw [e1] at hr
    cases a with
    | inl o => exact nomatch hr
    | inr y =>
      obtain ⟨t, m, d, u⟩ := y
      dsimp only at hr
      cases hr
      exact ⟨t, d, u, rfl⟩
/-- a list laid down by places -/
noncomputable def zx_ofA : List Value → Nat → zx_Tr Value → zx_Tr Value
  | [], _, t => t
  | a :: l, i, t => zx_ofA l (i + 1) (zx_s10 a t i)
theorem zx_ofA_g : ∀ (l : List Value) (i : Nat) (t : zx_Tr Value) (j : Nat), i + l.length ≤ 300000 → zx_g10 (zx_ofA l i t) j = if i ≤ j ∧ j < i + l.length then l[j - i]? else zx_g10 t j
  | [], i, t, j, h => by
    rw [if_neg (by show ¬ (i ≤ j ∧ j < i + 0); omega)]
    rfl
  | a :: l, i, t, j, h => by
    rw [List.length_cons] at h ⊢
    show zx_g10 (zx_ofA l (i + 1) (zx_s10 a t i)) j = _
    rw [zx_ofA_g l (i + 1) _ j (by omega), zx_tg_ts a t i j (by omega)]
    by_cases e : j = i
    · subst e
      rw [if_neg (by omega), if_pos rfl, if_pos (by omega), Nat.sub_self]
      rfl
    · rw [if_neg e]
      by_cases e2 : i + 1 ≤ j ∧ j < i + 1 + l.length
      · rw [if_pos e2, if_pos (by omega), show j - i = (j - (i + 1)) + 1 by omega, List.getElem?_cons_succ]
      · rw [if_neg e2, if_neg (by omega)]
noncomputable def zx_of (l : List Value) : zx_Tr Value := zx_ofA l 0 (zx_e10 Value)
theorem zx_of_g (l : List Value) (j : Nat) (h : l.length ≤ 300000) : zx_g10 (zx_of l) j = l[j]? := by
  unfold zx_of
  rw [zx_ofA_g l 0 _ j (by omega), zx_tg_e]
  by_cases e : j < l.length
  · rw [if_pos (by omega), Nat.sub_zero]
  · rw [if_neg (by omega), List.getElem?_eq_none (by omega)]
-- ===== what stands for what =====
noncomputable def zx_v (ad : zx_D) (a v : Value) : Prop := match a with
  | .float b => ∃ x : Int32, v = .int x ∧ (b ≠ 0 → x = ad.2.1 b)
  | .double b => ∃ x : Int64, v = .long x ∧ (b ≠ 0 → x = ad.2.2 b)
  | .ref i => v = .ref (ad.1 i)
  | .retAddr n => n = 0 ∧ (v = .null ∨ ∃ a, v = .ref a)
  | .int x => v = .int x
  | .long x => v = .long x
  | .null => v = .null
noncomputable def zx_vs (ad : zx_D) : List Value → List Value → Prop
  | [], [] => True
  | a :: as, v :: vs => zx_v ad a v ∧ zx_vs ad as vs
  | _, _ => False
noncomputable def zx_lv (ad : zx_D) : zx_L → zx_L → Prop
  | [], [] => True
  | a :: as, v :: vs => (a.1 = v.1 ∧ zx_v ad a.2 v.2) ∧ zx_lv ad as vs
  | _, _ => False
theorem zx_fz {ad : zx_D} (x : Int32) : zx_v ad (.float 0) (.int x) := ⟨x, rfl, fun q => absurd rfl q⟩
theorem zx_dz {ad : zx_D} (x : Int64) : zx_v ad (.double 0) (.long x) := ⟨x, rfl, fun q => absurd rfl q⟩
theorem zx_cat {ad : zx_D} {a v : Value} (h : zx_v ad a v) : a.category = v.category := by
  cases a
  case float => obtain ⟨x, rfl, -⟩ := h; rfl
  case double => obtain ⟨x, rfl, -⟩ := h; rfl
  case retAddr => obtain ⟨-, rfl | ⟨a, rfl⟩⟩ := h <;> rfl
  all_goals (cases h; rfl)
theorem zx_vs_cons {ad : zx_D} {a : Value} {as cst : List Value} (h : zx_vs ad (a :: as) cst) : ∃ v vs, cst = v :: vs ∧ zx_v ad a v ∧ zx_vs ad as vs := by
  cases cst with
  | nil => exact absurd h (fun q => q)
  | cons v vs => exact ⟨v, vs, rfl, h.1, h.2⟩
theorem zx_vs_nil {ad : zx_D} {cst : List Value} (h : zx_vs ad [] cst) : cst = [] := by
  cases cst with
  | nil => rfl
  | cons v vs => exact absurd h (fun q => q)
theorem zx_lv_mem {ad : zx_D} : ∀ {L CL : zx_L} {k : Nat} {a : Value}, zx_lv ad L CL → (k, a) ∈ L → ∃ v, (k, v) ∈ CL ∧ zx_v ad a v
  | [], CL, k, a, _, hm => absurd hm List.not_mem_nil
  | q :: L, [], k, a, h, _ => absurd h (fun q => q)
  | q :: L, r :: CL, k, a, h, hm => by
    rcases List.mem_cons.mp hm with e | e
    · subst e
      obtain ⟨rk, rv⟩ := r
      obtain ⟨⟨h1, h2⟩, -⟩ := h
      dsimp only at h1 h2
      subst h1
      exact ⟨rv, List.mem_cons_self, h2⟩
    · obtain ⟨v, h1, h2⟩ := zx_lv_mem h.2 e
      exact ⟨v, List.mem_cons_of_mem _ h1, h2⟩
theorem zx_lv_filter {ad : zx_D} (w : Bool) (i : Nat) : ∀ {L CL : zx_L}, zx_lv ad L CL → zx_lv ad (L.filter (zx_cv w i)) (CL.filter (zx_cv w i))
  | [], [], h => h
  | [], _ :: _, h => absurd h (fun q => q)
  | _ :: _, [], h => absurd h (fun q => q)
  | q :: L, r :: CL, h => by
    have ih := zx_lv_filter w i h.2
    have hc : zx_cv w i q = zx_cv w i r := by
      unfold zx_cv
      rw [h.1.1, zx_cat h.1.2]
    cases hp : zx_cv w i q
    · rw [List.filter_cons_of_neg (by rw [hp]; decide), List.filter_cons_of_neg (by rw [← hc, hp]; decide)]
      exact ih
    · rw [List.filter_cons_of_pos hp, List.filter_cons_of_pos (by rw [← hc, hp])]
      exact ⟨h.1, ih⟩
noncomputable def zx_at (P : zx_P) (G : zx_G) (a : zx_A) (q : Nat) (H : Heap) : Prop := match a with
  | .inl o => ∃ r : vw_C, P.1[o.1]? = some r ∧ ∃ V : Nat → Value, t_OB q (G.2.1.1 o.1) r.2.2 (G.2.1.2 o.1) H V ∧ ∀ (k : Nat) (b : Value), zx_g10 o.2 k = some b → zx_v G.2.2.2.1 b (V k)
  | .inr x => ∃ r : ClassId × FieldType, G.2.2.1[x.1]? = some r ∧ ∃ f : Nat → Value, H[q]? = some (arrV r.1 x.2.1 f) ∧ ∀ j, j < x.2.1 → zx_v G.2.2.2.1 (zx_rd x.2.2.1 x.2.2.2 j) (f j)
noncomputable def zx_hp (P : zx_P) (G : zx_G) (h : zx_H) (H : Heap) : Prop :=
  P.2.2.2.2.1 ≤ h.1 ∧ h.1 ≤ 300000 ∧ (h.1 < 300000 → H.size = G.2.2.2.2.1 + (h.1 - P.2.2.2.2.1)) ∧ (∀ (i : Nat) (a : zx_A), zx_hg h i = some a → i < h.1 ∧ zx_at P G a (G.2.2.2.1.1 i) H) ∧ ∀ q, q < G.2.2.2.2.1 → H[q]? = G.2.2.2.2.2.1[q]?
/-- the addresses: the older cells' ones lie below, the new ones' follow one another -/
noncomputable def zx_ad (P : zx_P) (G : zx_G) : Prop := (∀ i, P.2.2.2.2.1 ≤ i → i < 300000 → G.2.2.2.1.1 i = G.2.2.2.2.1 + (i - P.2.2.2.2.1)) ∧ (∀ i, i < P.2.2.2.2.1 ∨ 300000 ≤ i → G.2.2.2.1.1 i < G.2.2.2.2.1) ∧ G.2.2.1.map Prod.snd = P.2.1
noncomputable def zx_o (ad : zx_D) (a v : Option Value) : Prop := match a, v with
  | none, none => True
  | some a, some v => zx_v ad a v
  | _, _ => False
noncomputable def zx_ws (P : zx_P) (M : zx_M) : List Cond := Cond.code M.1 M.2.1 M.2.2.1 M.2.2.2.1 :: P.2.2.1
noncomputable def zx_rm (d mc ms : Nat) : Room := { frames := d + 1, cells := mc, slots := ms, locals := 60 * d + 20 }
/-- rows of references are there over this type -/
noncomputable def zx_AO (ty : FieldType) (U : State) : Prop := match ty with
  | .object C => va_AO C U
  | .array t => (Cond.arrayOver (.array t)).before #[] U = true
  | _ => False
theorem zx_AO_use {ty : FieldType} {A : Array Value} {U : State} (h : zx_AO ty U) : (Cond.arrayOver ty).before A U = true := by
  cases ty with
  | object C => exact va_AO.use h
  | array t => exact h
  | _ => exact absurd h (fun q => q)
theorem zx_AO_moved {ty : FieldType} {u U : State} (hvm : u.vm.Alike U.vm) (h : zx_AO ty u) : zx_AO ty U := by
  cases ty with
  | object C => exact va_AO.moved hvm h
  | array t =>
    obtain ⟨comp, c, k, h1, h2, h3, h4, h5⟩ := arrayOverA_spec (show (Cond.arrayOver (.array t)).holds #[] u none u [] = true from h)
    obtain ⟨k', hk', he⟩ := hvm.2.2 _ _ h3
    have hi : (U.vm.classes.findIdx? fun (x : Class) => match x.kind with | .array component _ => component == comp | _ => false) = some c := by
      have e0 := va_idx_bare U.vm comp
      have e1 := va_idx_bare u.vm comp
      have eb : u.vm.bare = U.vm.bare := by first | exact hvm.bare_eq | exact hvm.bare_eq.symm
      rw [eb] at e1
      exact e0.symm.trans (e1.trans h2)
    have hkind : k'.kind = .array comp (.array t) := by rw [he]; exact h4
    have f1 : U.vm.findClass (FieldType.array t).toString = some comp := by rw [hvm.findClass]; exact h1
    have f2 : U.vm.findClass ("[" ++ (FieldType.array t).toString) = some c := by rw [hvm.findClass]; exact h5
    show (Cond.arrayOver (.array t)).before #[] U = true
    unfold Cond.before Cond.holds
    simp only [Cond.value]
    rw [f1, Option.bind_some]
    refine (congrArg (fun o : Option Nat => (o.bind (fun c => (U.vm.classes[c]?).map fun (k : Class) => match k.kind with | .array _ ty => decide (ty = FieldType.array t) && decide (U.vm.findClass ("[" ++ (FieldType.array t).toString) = some c) | _ => false) == some true)) hi).trans ?_
    simp [hk', hkind, f2]
  | _ => exact absurd h (fun q => q)
/-- a link among nest mates -/
noncomputable def zx_nst (w : Cond) (U : State) : Prop := match w with
  | .fieldLinkNest a i b n d h => va_Nw (.fieldLinkNest a i b n d h) U
  | .methodLinkNest a i x h => va_Nw (.methodLinkNest a i x h) U
  | _ => False
theorem zx_nst_moved {w : Cond} {s U : State} (hW : s.WarmedH U.vm) (h : zx_nst w s) : zx_nst w U := by
  cases w <;> first | exact va_Nw.warmF hW h | exact va_Nw.warmM hW h | exact absurd h (fun q => q)
/-- what stands of static fields and texts, for good -/
noncomputable def zx_x (P : zx_P) (G : zx_G) (U : State) : Prop :=
  (∀ (j : Nat) (z : String × String × String × Value), P.2.2.2.2.2.1[j]? = some z → ∃ v, zx_v G.2.2.2.1 z.2.2.2 v ∧ va_Z z.1 z.2.1 z.2.2.1 v (fun a => G.2.2.2.2.1 ≤ a) U G.2.2.2.2.2.1) ∧
  (∀ (j : Nat) (z : Nat × Nat × String × List (String × Nat)), P.2.2.2.2.2.2.1[j]? = some z → 300000 ≤ z.1 ∧ va_OF "java/lang/String" "value" "[B" (.ref (G.2.2.2.1.1 z.2.1)) (G.2.2.2.1.1 z.1) (fun a => G.2.2.2.2.1 ≤ a) U G.2.2.2.2.2.1 ∧ va_OF "java/lang/String" "coder" "B" (.int 0) (G.2.2.2.1.1 z.1) (fun a => G.2.2.2.2.1 ≤ a) U G.2.2.2.2.2.1 ∧ va_O "java/lang/String" (G.2.2.2.1.1 z.1) (fun a => G.2.2.2.2.1 ≤ a) U G.2.2.2.2.2.1 ∧ ∀ q ∈ z.2.2.2, vk_R q.1 q.2 z.2.2.1 (G.2.2.2.1.1 z.1) U) ∧
  (∀ ty ∈ P.2.2.2.2.2.2.2.1, zx_AO ty U) ∧ (∀ w ∈ P.2.2.2.2.2.2.2.2, zx_nst w U) ∧ (∀ (s2 U2 : State), s2.WarmedH U2.vm → G.2.2.2.2.2.2 s2 → G.2.2.2.2.2.2 U2) ∧ G.2.2.2.2.2.2 U
noncomputable def zx_c (P : zx_P) (G : zx_G) (M : zx_M) (p : Program) (s : State) (m : MethodId) (args : Array Value) (meth : Method) (c : Code) : Prop :=
  p.tables.exec = Jvm.exec ∧ c.code = M.2.1 ∧ meth.sig.returnType = M.2.2.2.1 ∧ c.maxLocals = M.2.2.1 ∧ s.vm.findClass M.1.cls = some m.cls ∧ (∀ w ∈ P.2.2.1, w.before args s = true) ∧ meth.locks = false ∧ va_K G.2.1 P.1 G.2.2.1 s ∧ (M.1.name = "<init>" → meth.name = "<init>") ∧ zx_x P G s
noncomputable def zx_q (P : zx_P) (G : zx_G) (res : zx_T) : Array Value → State → Outcome → State → Prop := fun _ _ o t => (∃ cv, o = .returned cv ∧ zx_o G.2.2.2.1 res.1 cv) ∧ zx_hp P G res.2.1 t.heap
noncomputable def zx_pc (P : zx_P) (G : zx_G) (as : List Value) (h : zx_H) : Array Value → State → Prop := fun v U => (∃ cs, zx_vs G.2.2.2.1 as cs ∧ v = cs.toArray) ∧ zx_hp P G h U.heap ∧ va_K G.2.1 P.1 G.2.2.1 U ∧ zx_x P G U
/-- what is to be come to, by the method that is being run -/
noncomputable abbrev zx_E : Type := Program → Env → State → MethodId → Array Value → List Frame → Method → Code → State → Prop
noncomputable def zx_EM (P : zx_P) (G : zx_G) (k0 s0 : Nat) (res : zx_T) : zx_E := fun _ _ s _ args below _ _ => MQ below (zx_q P G res) args s (res.2.1.1 - k0) (res.2.2 - s0) (fun a => G.2.2.2.2.1 ≤ a)
/-- a method's own end is one such -/
noncomputable def zx_EE (P : zx_P) (G : zx_G) (E : zx_E) (k0 s0 : Nat) (res : zx_T) : Prop := ∀ p e s m args below meth c t, zx_EM P G k0 s0 res p e s m args below meth c t → E p e s m args below meth c t
/-- the machine, standing at a place with what the numbers tell, comes to the run's end -/
noncomputable def zx_w (P : zx_P) (G : zx_G) (M : zx_M) (E : zx_E) (d k0 s0 : Nat) (res : zx_T) (pc : Nat) (L : zx_L) (st : List Value) (h : zx_H) (sl : Nat) : Prop :=
  ∀ (p : Program) (e : Env) (s : State) (m : MethodId) (args : Array Value) (below : List Frame) (meth : Method) (c : Code), zx_c P G M p s m args meth c →
  ∀ (H : Heap) (locs : List Loc) (ls : Array Slot) (CL : zx_L) (cst : List Value), zx_hp P G h H → (∀ q ∈ locs, G.2.2.2.2.1 ≤ q.base) → lv_has ls M.2.2.1 CL → zx_lv G.2.2.2.1 L CL → zx_vs G.2.2.2.1 st cst → k0 ≤ h.1 → s0 ≤ sl →
  W p G.1 e (zx_rm d (res.2.1.1 - k0) (res.2.2 - s0)) s m args below meth c H locs (h.1 - k0) (sl - s0) (E p e s m args below meth c) (F0 m pc ls cst)
theorem zx_Wmono {p : Program} {l : Launch} {e : Env} {R : Room} {s : State} {m : MethodId} {args : Array Value} {below : List Frame} {meth : Method} {c : Code} {H : Heap} {locs : List Loc} {cells slots : Nat} {Q Q2 : State → Prop} {g : JFrame} (hq : ∀ t, Q t → Q2 t) (k : W p l e R s m args below meth c H locs cells slots Q g) : W p l e R s m args below meth c H locs cells slots Q2 g := by
  intro T hT X
  obtain ⟨t, a, b⟩ := k T hT X
  exact ⟨t, a, hq t b⟩
/-- what a call's run says -/
noncomputable def zx_met (P : zx_P) (G : zx_G) (d mi : Nat) (as : List Value) (h : zx_H) (sl : Nat) (res : zx_T) : Prop :=
  h.1 ≤ res.2.1.1 ∧ sl ≤ res.2.2 ∧ ∃ d2, d2 < d ∧ ∃ M, P.2.2.2.1[mi]? = some M ∧ Met G.1 M.1 (zx_ws P M) (zx_rm d2 (res.2.1.1 - h.1) (res.2.2 - sl)) (zx_pc P G as h) (zx_q P G res) (res.2.1.1 - h.1) (res.2.2 - sl) (fun a => G.2.2.2.2.1 ≤ a)
/-- a step's function is right at a place of a method -/
noncomputable def zx_okF (P : zx_P) (G : zx_G) (M : zx_M) (E : zx_E) (d k0 s0 : Nat) (res : zx_T) (pc : Nat) (f : zx_F) : Prop :=
  ∀ (rec : zx_C) (k : zx_K) (L : zx_L) (st : List Value) (h : zx_H) (sl : Nat), zx_EE P G E k0 s0 res → f rec L st h sl k = some res →
    (∀ mi as h1 s1 r, rec mi as h1 s1 = some r → zx_met P G d mi as h1 s1 r) →
    (∀ pc2 L2 st2 h2 s2, k pc2 L2 st2 h2 s2 = some res → h2.1 ≤ res.2.1.1 ∧ s2 ≤ res.2.2 ∧ zx_w P G M E d k0 s0 res pc2 L2 st2 h2 s2) →
    h.1 ≤ res.2.1.1 ∧ sl ≤ res.2.2 ∧ zx_w P G M E d k0 s0 res pc L st h sl
noncomputable def zx_ok (P : zx_P) (G : zx_G) (M : zx_M) (pc : Nat) (f : zx_F) : Prop := ∀ (E : zx_E) (d k0 s0 : Nat) (res : zx_T), zx_okF P G M E d k0 s0 res pc f
/-- a step that leaves the cells as they are -/
theorem zx_pure {P : zx_P} {G : zx_G} {M : zx_M} {pc : Nat} {f : zx_F}
    (hf : ∀ (rec : zx_C) (k : zx_K) (L : zx_L) (st : List Value) (h : zx_H) (sl : Nat) (res : zx_T), f rec L st h sl k = some res → ∃ pc2 L2 st2, k pc2 L2 st2 h sl = some res ∧
      ∀ (p : Program) (l : Launch) (e : Env) (R : Room) (s : State) (m : MethodId) (args : Array Value) (below : List Frame) (meth : Method) (c : Code) (H : Heap) (locs : List Loc) (cells slots : Nat) (Q : State → Prop), zx_c P G M p s m args meth c →
        ∀ (ls : Array Slot) (CL : zx_L) (cst : List Value), lv_has ls M.2.2.1 CL → zx_lv G.2.2.2.1 L CL → zx_vs G.2.2.2.1 st cst →
        (∀ (ls2 : Array Slot) (CL2 : zx_L) (cst2 : List Value), lv_has ls2 M.2.2.1 CL2 → zx_lv G.2.2.2.1 L2 CL2 → zx_vs G.2.2.2.1 st2 cst2 → W p l e R s m args below meth c H locs cells slots Q (F0 m pc2 ls2 cst2)) →
        W p l e R s m args below meth c H locs cells slots Q (F0 m pc ls cst)) : zx_ok P G M pc f := by
  intro E d k0 s0 res rec k L st h sl _ hr _ hk
  obtain ⟨pc2, L2, st2, h1, h2⟩ := hf rec k L st h sl res hr
  obtain ⟨a1, a2, a3⟩ := hk pc2 L2 st2 h sl h1
  refine ⟨a1, a2, fun p e s m args below meth c C H locs ls CL cst hh hl g1 g2 g3 hk0 hs0 => ?_⟩
  exact h2 p _ e _ s m args below meth c H locs _ _ _ C ls CL cst g1 g2 g3 (fun ls2 CL2 cst2 b1 b2 b3 => a3 p e s m args below meth c C H locs ls2 CL2 cst2 hh hl b1 b2 b3 hk0 hs0)
