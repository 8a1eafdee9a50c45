/-! ===== heaps held against one another; stops; the room ===== -/
noncomputable def zy_v (a b : Value) : Bool := match a, b with
  | .int x, .int y => Nat.beq x.toBitVec.toNat y.toBitVec.toNat
  | .long x, .long y => Nat.beq x.toBitVec.toNat y.toBitVec.toNat
  | .float x, .float y => Nat.beq x.toNat y.toNat
  | .double x, .double y => Nat.beq x.toNat y.toNat
  | .ref i, .ref j => Nat.beq i j
  | .null, .null => true
  | _, _ => false
theorem zy_v_in {a b : Value} (h : zy_v a b = true) : a = b := by
  unfold zy_v at h
  split at h
  · exact congrArg Value.int (Int32.toBitVec_inj.mp (BitVec.eq_of_toNat_eq (Nat.eq_of_beq_eq_true h)))
  · exact congrArg Value.long (Int64.toBitVec_inj.mp (BitVec.eq_of_toNat_eq (Nat.eq_of_beq_eq_true h)))
  · exact congrArg Value.float (UInt32.toNat_inj.mp (Nat.eq_of_beq_eq_true h))
  · exact congrArg Value.double (UInt64.toNat_inj.mp (Nat.eq_of_beq_eq_true h))
  · exact congrArg Value.ref (Nat.eq_of_beq_eq_true h)
  · rfl
  · cases h
noncomputable def zy_oe {α : Type} (ea : α → α → Bool) (a b : Option α) : Bool := match a with
  | none => match b with
    | none => true
    | some _ => false
  | some p => match b with
    | none => false
    | some q => ea p q
theorem zy_oe_in {α : Type} {ea : α → α → Bool} (ha : ∀ p q, ea p q = true → p = q) {a b : Option α} (h : zy_oe ea a b = true) : a = b := by
  cases a with
  | none =>
    cases b with
    | none => rfl
    | some q => exact nomatch h
  | some p =>
    cases b with
    | none => exact nomatch h
    | some q => exact congrArg some (ha p q h)
noncomputable def zy_be {α β : Type} (ea : α → α → Bool) (eb : β → β → Bool) (x y : zx_B α β) : Bool := match x with
  | none => match y with
    | none => true
    | some _ => false
  | some (a, (t0, t1), (t2, t3)) => match y with
    | none => false
    | some (b, (u0, u1), (u2, u3)) => zy_oe ea a b && (eb t0 u0 && (eb t1 u1 && (eb t2 u2 && eb t3 u3)))
theorem zy_be_in {α β : Type} {ea : α → α → Bool} {eb : β → β → Bool} (ha : ∀ p q, ea p q = true → p = q) (hb : ∀ p q, eb p q = true → p = q) (x y : zx_B α β) (h : zy_be ea eb x y = true) : x = y := by
  rcases x with _ | ⟨a, ⟨t0, t1⟩, ⟨t2, t3⟩⟩ <;> rcases y with _ | ⟨b, ⟨u0, u1⟩, ⟨u2, u3⟩⟩
  · rfl
  · exact nomatch h
  · exact nomatch h
  · have h9 : (zy_oe ea a b && (eb t0 u0 && (eb t1 u1 && (eb t2 u2 && eb t3 u3)))) = true := h
    simp only [Bool.and_eq_true] at h9
    obtain ⟨h0, h1, h2, h3, h4⟩ := h9
    rw [zy_oe_in ha h0, hb _ _ h1, hb _ _ h2, hb _ _ h3, hb _ _ h4]
noncomputable def zy_os {α : Type} (ea : α → α → Bool) (a b : Option α) : Bool := match a with
  | none => true
  | some p => match b with
    | none => false
    | some q => ea p q
/-- what the first holds, the second holds -/
noncomputable def zy_bs {α β : Type} (ea : α → α → Bool) (eb : β → β → Bool) (x y : zx_B α β) : Bool := match x with
  | none => true
  | some (a, (t0, t1), (t2, t3)) => match y with
    | none => false
    | some (b, (u0, u1), (u2, u3)) => zy_os ea a b && (eb t0 u0 && (eb t1 u1 && (eb t2 u2 && eb t3 u3)))
noncomputable def zy_lw {α β : Type} (g : β → Nat → Option α) (eb : β → β → Bool) : Prop := ∀ p q, eb p q = true → ∀ i a, g p i = some a → g q i = some a
theorem zy_lw_up {α β : Type} {g : β → Nat → Option α} {ea : α → α → Bool} {eb : β → β → Bool} (ha : ∀ p q, ea p q = true → p = q) (hb : zy_lw g eb) : zy_lw (zx_bg g) (zy_bs ea eb) := by
  intro x y h i v hg
  rcases x with _ | ⟨a, ⟨t0, t1⟩, ⟨t2, t3⟩⟩
  · exact nomatch hg
  · rcases y with _ | ⟨b, ⟨u0, u1⟩, ⟨u2, u3⟩⟩
    · exact nomatch h
    · have h9 : (zy_os ea a b && (eb t0 u0 && (eb t1 u1 && (eb t2 u2 && eb t3 u3)))) = true := h
      simp only [Bool.and_eq_true] at h9
      obtain ⟨h0, h1, h2, h3, h4⟩ := h9
      cases i with
      | zero =>
        have hg2 : a = some v := hg
        subst hg2
        cases b with
        | none => exact nomatch h0
        | some q => exact congrArg some (ha v q h0).symm
      | succ k =>
        rcases zx_mod4 k with e | e | e | e <;> simp only [zx_bg_eq, e] at hg ⊢
        · exact hb _ _ h1 _ _ hg
        · exact hb _ _ h2 _ _ hg
        · exact hb _ _ h3 _ _ hg
        · exact hb _ _ h4 _ _ hg
noncomputable def zy_e0 {α : Type} (_ _ : zx_T0 α) : Bool := true
theorem zy_f0 {α : Type} : ∀ p q : zx_T0 α, zy_e0 p q = true → p = q := fun _ _ _ => rfl
noncomputable def zy_s0 {α : Type} (_ _ : zx_T0 α) : Bool := true
theorem zy_g0 {α : Type} : zy_lw (zx_g0 (α := α)) zy_s0 := fun _ _ _ _ _ h => nomatch h
noncomputable def zy_e1 {α : Type} (ea : α → α → Bool) (x y : zx_T1 α) : Bool := zy_be ea zy_e0 x y
theorem zy_f1 {α : Type} {ea : α → α → Bool} (ha : ∀ p q, ea p q = true → p = q) : ∀ p q : zx_T1 α, zy_e1 ea p q = true → p = q := fun p q h => zy_be_in ha zy_f0 p q h
noncomputable def zy_s1 {α : Type} (ea : α → α → Bool) (x y : zx_T1 α) : Bool := zy_bs ea zy_s0 x y
theorem zy_g1 {α : Type} {ea : α → α → Bool} (ha : ∀ p q, ea p q = true → p = q) : zy_lw (zx_g1 (α := α)) (zy_s1 ea) := zy_lw_up ha zy_g0
noncomputable def zy_e2 {α : Type} (ea : α → α → Bool) (x y : zx_T2 α) : Bool := zy_be ea (zy_e1 ea) x y
theorem zy_f2 {α : Type} {ea : α → α → Bool} (ha : ∀ p q, ea p q = true → p = q) : ∀ p q : zx_T2 α, zy_e2 ea p q = true → p = q := fun p q h => zy_be_in ha (zy_f1 ha) p q h
noncomputable def zy_s2 {α : Type} (ea : α → α → Bool) (x y : zx_T2 α) : Bool := zy_bs ea (zy_s1 ea) x y
theorem zy_g2 {α : Type} {ea : α → α → Bool} (ha : ∀ p q, ea p q = true → p = q) : zy_lw (zx_g2 (α := α)) (zy_s2 ea) := zy_lw_up ha (zy_g1 ha)
noncomputable def zy_e3 {α : Type} (ea : α → α → Bool) (x y : zx_T3 α) : Bool := zy_be ea (zy_e2 ea) x y
theorem zy_f3 {α : Type} {ea : α → α → Bool} (ha : ∀ p q, ea p q = true → p = q) : ∀ p q : zx_T3 α, zy_e3 ea p q = true → p = q := fun p q h => zy_be_in ha (zy_f2 ha) p q h
noncomputable def zy_s3 {α : Type} (ea : α → α → Bool) (x y : zx_T3 α) : Bool := zy_bs ea (zy_s2 ea) x y
theorem zy_g3 {α : Type} {ea : α → α → Bool} (ha : ∀ p q, ea p q = true → p = q) : zy_lw (zx_g3 (α := α)) (zy_s3 ea) := zy_lw_up ha (zy_g2 ha)
noncomputable def zy_e4 {α : Type} (ea : α → α → Bool) (x y : zx_T4 α) : Bool := zy_be ea (zy_e3 ea) x y
theorem zy_f4 {α : Type} {ea : α → α → Bool} (ha : ∀ p q, ea p q = true → p = q) : ∀ p q : zx_T4 α, zy_e4 ea p q = true → p = q := fun p q h => zy_be_in ha (zy_f3 ha) p q h
noncomputable def zy_s4 {α : Type} (ea : α → α → Bool) (x y : zx_T4 α) : Bool := zy_bs ea (zy_s3 ea) x y
theorem zy_g4 {α : Type} {ea : α → α → Bool} (ha : ∀ p q, ea p q = true → p = q) : zy_lw (zx_g4 (α := α)) (zy_s4 ea) := zy_lw_up ha (zy_g3 ha)
noncomputable def zy_e5 {α : Type} (ea : α → α → Bool) (x y : zx_T5 α) : Bool := zy_be ea (zy_e4 ea) x y
theorem zy_f5 {α : Type} {ea : α → α → Bool} (ha : ∀ p q, ea p q = true → p = q) : ∀ p q : zx_T5 α, zy_e5 ea p q = true → p = q := fun p q h => zy_be_in ha (zy_f4 ha) p q h
noncomputable def zy_s5 {α : Type} (ea : α → α → Bool) (x y : zx_T5 α) : Bool := zy_bs ea (zy_s4 ea) x y
theorem zy_g5 {α : Type} {ea : α → α → Bool} (ha : ∀ p q, ea p q = true → p = q) : zy_lw (zx_g5 (α := α)) (zy_s5 ea) := zy_lw_up ha (zy_g4 ha)
noncomputable def zy_e6 {α : Type} (ea : α → α → Bool) (x y : zx_T6 α) : Bool := zy_be ea (zy_e5 ea) x y
theorem zy_f6 {α : Type} {ea : α → α → Bool} (ha : ∀ p q, ea p q = true → p = q) : ∀ p q : zx_T6 α, zy_e6 ea p q = true → p = q := fun p q h => zy_be_in ha (zy_f5 ha) p q h
noncomputable def zy_s6 {α : Type} (ea : α → α → Bool) (x y : zx_T6 α) : Bool := zy_bs ea (zy_s5 ea) x y
theorem zy_g6 {α : Type} {ea : α → α → Bool} (ha : ∀ p q, ea p q = true → p = q) : zy_lw (zx_g6 (α := α)) (zy_s6 ea) := zy_lw_up ha (zy_g5 ha)
noncomputable def zy_e7 {α : Type} (ea : α → α → Bool) (x y : zx_T7 α) : Bool := zy_be ea (zy_e6 ea) x y
theorem zy_f7 {α : Type} {ea : α → α → Bool} (ha : ∀ p q, ea p q = true → p = q) : ∀ p q : zx_T7 α, zy_e7 ea p q = true → p = q := fun p q h => zy_be_in ha (zy_f6 ha) p q h
noncomputable def zy_s7 {α : Type} (ea : α → α → Bool) (x y : zx_T7 α) : Bool := zy_bs ea (zy_s6 ea) x y
theorem zy_g7 {α : Type} {ea : α → α → Bool} (ha : ∀ p q, ea p q = true → p = q) : zy_lw (zx_g7 (α := α)) (zy_s7 ea) := zy_lw_up ha (zy_g6 ha)
noncomputable def zy_e8 {α : Type} (ea : α → α → Bool) (x y : zx_T8 α) : Bool := zy_be ea (zy_e7 ea) x y
theorem zy_f8 {α : Type} {ea : α → α → Bool} (ha : ∀ p q, ea p q = true → p = q) : ∀ p q : zx_T8 α, zy_e8 ea p q = true → p = q := fun p q h => zy_be_in ha (zy_f7 ha) p q h
noncomputable def zy_s8 {α : Type} (ea : α → α → Bool) (x y : zx_T8 α) : Bool := zy_bs ea (zy_s7 ea) x y
theorem zy_g8 {α : Type} {ea : α → α → Bool} (ha : ∀ p q, ea p q = true → p = q) : zy_lw (zx_g8 (α := α)) (zy_s8 ea) := zy_lw_up ha (zy_g7 ha)
noncomputable def zy_e9 {α : Type} (ea : α → α → Bool) (x y : zx_T9 α) : Bool := zy_be ea (zy_e8 ea) x y
theorem zy_f9 {α : Type} {ea : α → α → Bool} (ha : ∀ p q, ea p q = true → p = q) : ∀ p q : zx_T9 α, zy_e9 ea p q = true → p = q := fun p q h => zy_be_in ha (zy_f8 ha) p q h
noncomputable def zy_s9 {α : Type} (ea : α → α → Bool) (x y : zx_T9 α) : Bool := zy_bs ea (zy_s8 ea) x y
theorem zy_g9 {α : Type} {ea : α → α → Bool} (ha : ∀ p q, ea p q = true → p = q) : zy_lw (zx_g9 (α := α)) (zy_s9 ea) := zy_lw_up ha (zy_g8 ha)
noncomputable def zy_e10 {α : Type} (ea : α → α → Bool) (x y : zx_T10 α) : Bool := zy_be ea (zy_e9 ea) x y
theorem zy_f10 {α : Type} {ea : α → α → Bool} (ha : ∀ p q, ea p q = true → p = q) : ∀ p q : zx_T10 α, zy_e10 ea p q = true → p = q := fun p q h => zy_be_in ha (zy_f9 ha) p q h
noncomputable def zy_s10 {α : Type} (ea : α → α → Bool) (x y : zx_T10 α) : Bool := zy_bs ea (zy_s9 ea) x y
theorem zy_g10 {α : Type} {ea : α → α → Bool} (ha : ∀ p q, ea p q = true → p = q) : zy_lw (zx_g10 (α := α)) (zy_s10 ea) := zy_lw_up ha (zy_g9 ha)
noncomputable def zy_a (a b : zx_A) : Bool := match a with
  | .inl x => match b with
    | .inl y => Nat.beq x.1 y.1 && zy_e10 zy_v x.2 y.2
    | .inr _ => false
  | .inr x => match b with
    | .inl _ => false
    | .inr y => Nat.beq x.1 y.1 && (Nat.beq x.2.1 y.2.1 && (zy_v x.2.2.1 y.2.2.1 && zy_e10 zy_v x.2.2.2 y.2.2.2))
theorem zy_a_in (a b : zx_A) (h : zy_a a b = true) : a = b := by
  rcases a with ⟨ci, fs⟩ | ⟨t, n, d, u⟩ <;> rcases b with ⟨cj, gs⟩ | ⟨t2, n2, d2, u2⟩
  · have h9 : (Nat.beq ci cj && zy_e10 zy_v fs gs) = true := h
    simp only [Bool.and_eq_true] at h9
    rw [Nat.eq_of_beq_eq_true h9.1, zy_f10 (fun _ _ => zy_v_in) _ _ h9.2]
  · exact nomatch h
  · exact nomatch h
  · have h9 : (Nat.beq t t2 && (Nat.beq n n2 && (zy_v d d2 && zy_e10 zy_v u u2))) = true := h
    simp only [Bool.and_eq_true] at h9
    rw [Nat.eq_of_beq_eq_true h9.1, Nat.eq_of_beq_eq_true h9.2.1, zy_v_in h9.2.2.1, zy_f10 (fun _ _ => zy_v_in) _ _ h9.2.2.2]
/-- the second heap tells nothing that the first doesn't -/
noncomputable def zy_h (h h2 : zx_H) : Bool := Nat.beq h.1 h2.1 && zy_s10 zy_a h2.2 h.2
theorem zy_hp {P : zx_P} {G : zx_G} {h h2 : zx_H} {H : Heap} (hs : zy_h h h2 = true) (hh : zx_hp P G h H) : zx_hp P G h2 H := by
  unfold zy_h at hs
  simp only [Bool.and_eq_true] at hs
  have e1 : h.1 = h2.1 := Nat.eq_of_beq_eq_true hs.1
  obtain ⟨b1, b9, b2, b3, b4⟩ := hh
  refine ⟨by rw [← e1]; exact b1, by rw [← e1]; exact b9, by rw [← e1]; exact b2, fun i a hi => ?_, b4⟩
  have h3 := b3 i a (zy_g10 zy_a_in _ _ hs.2 i a hi)
  exact ⟨by rw [← e1]; exact h3.1, h3.2⟩
noncomputable def zy_l : zx_L → zx_L → Bool
  | [], [] => true
  | (i, v) :: r, (j, x) :: s => Nat.beq i j && (zy_v v x && zy_l r s)
  | _, _ => false
theorem zy_l_in : ∀ {a b : zx_L}, zy_l a b = true → a = b
  | [], [], _ => rfl
  | [], _ :: _, h => nomatch h
  | _ :: _, [], h => nomatch h
  | (i, v) :: r, (j, x) :: s, h => by
    have h9 : (Nat.beq i j && (zy_v v x && zy_l r s)) = true := h
    simp only [Bool.and_eq_true] at h9
    rw [Nat.eq_of_beq_eq_true h9.1, zy_v_in h9.2.1, zy_l_in h9.2.2]
noncomputable def zy_k : List Value → List Value → Bool
  | [], [] => true
  | v :: r, x :: s => zy_v v x && zy_k r s
  | _, _ => false
theorem zy_k_in : ∀ {a b : List Value}, zy_k a b = true → a = b
  | [], [], _ => rfl
  | [], _ :: _, h => nomatch h
  | _ :: _, [], h => nomatch h
  | v :: r, x :: s, h => by
    have h9 : (zy_v v x && zy_k r s) = true := h
    simp only [Bool.and_eq_true] at h9
    rw [zy_v_in h9.1, zy_k_in h9.2]
/-- a place that is known to come to the end: the run stops there -/
noncomputable def zy_stop (L0 : zx_L) (st0 : List Value) (h0 : zx_H) (s0 : Nat) (r : zx_T) : zx_F := fun _ L st h sl _ => match zy_l L L0 && (zy_k st st0 && (Nat.beq sl s0 && zy_h h h0)) with
  | true => some r
  | false => none
theorem zy_stop_ok {P : zx_P} {G : zx_G} {M : zx_M} {E : zx_E} {d k0 s0 pc : Nat} {L0 : zx_L} {st0 : List Value} {h0 : zx_H} {sl0 : Nat} {r : zx_T} (hr : h0.1 ≤ r.2.1.1 ∧ sl0 ≤ r.2.2) (hw : zx_w P G M E d k0 s0 r pc L0 st0 h0 sl0) : zx_okF P G M E d k0 s0 r pc (zy_stop L0 st0 h0 sl0 r) := by
  intro rec k L st h sl _ hf _ _
  unfold zy_stop at hf
  cases e : zy_l L L0 && (zy_k st st0 && (Nat.beq sl sl0 && zy_h h h0)) with
  | false => rw [e] at hf; exact nomatch hf
  | true =>
    rw [e] at hf
    cases hf
    simp only [Bool.and_eq_true] at e
    obtain ⟨e1, e2, e3, e4⟩ := e
    obtain rfl := zy_l_in e1
    obtain rfl := zy_k_in e2
    obtain rfl : sl = sl0 := Nat.eq_of_beq_eq_true e3
    have e5 : h.1 = h0.1 := by
      unfold zy_h at e4
      simp only [Bool.and_eq_true] at e4
      exact Nat.eq_of_beq_eq_true e4.1
    refine ⟨by rw [e5]; exact hr.1, hr.2, fun p e s m args below meth c C H locs ls CL cst hh hl g1 g2 g3 hk0 hs0 => ?_⟩
    rw [e5]
    exact hw p e s m args below meth c C H locs ls CL cst (zy_hp e4 hh) hl g1 g2 g3 (by rw [← e5]; exact hk0) hs0
/-- an end at which a boolean true comes back; what the heap is isn't told -/
noncomputable def zy_fin (mc ms : Nat) : zx_F := fun _ _ st h sl _ => match st with
  | [.int x] => match Nat.beq x.toBitVec.toNat 1 && (Nat.ble h.1 mc && Nat.ble sl ms) with
    | true => some (some (.int 1), (mc, zx_e10 zx_A), ms)
    | false => none
  | _ => none
theorem zy_fin_ok {P : zx_P} {G : zx_G} {M : zx_M} {E : zx_E} {d k0 s0 pc ms : Nat} {ty : FieldType} (hr : M.2.2.2.1 = some ty) (hn : narrow ty (.int 1) = .int 1) (hd : decode M.2.1 pc = .ok (.ireturn, 1)) : zx_okF P G M E d k0 s0 (some (.int 1), (300000, zx_e10 zx_A), ms) pc (zy_fin 300000 ms) := by
  intro rec k L st h sl hE hf _ _
  unfold zy_fin at hf
  split at hf
  · next x =>
    cases e : Nat.beq x.toBitVec.toNat 1 && (Nat.ble h.1 300000 && Nat.ble sl ms) with
    | false => rw [e] at hf; exact nomatch hf
    | true =>
      rw [e] at hf
      cases hf
      simp only [Bool.and_eq_true] at e
      have e1 : x = 1 := Int32.toBitVec_inj.mp (BitVec.eq_of_toNat_eq (Nat.eq_of_beq_eq_true e.1))
      have e2 : h.1 ≤ 300000 := Nat.le_of_ble_eq_true e.2.1
      have e3 : sl ≤ ms := Nat.le_of_ble_eq_true e.2.2
      subst e1
      refine ⟨e2, e3, fun p e s m args below meth c C H locs ls CL cst hh hl g1 g2 g3 hk0 hs0 => ?_⟩
      obtain ⟨cv, vs, rfl, hv, hvs⟩ := zx_vs_cons g3
      obtain rfl := zx_vs_nil hvs
      cases hv
      refine zx_Wmono (fun t ht => hE p e s m args below meth c t ht) ?_
      refine W.widen (k := 300000 - k0) (n := ms - s0) (by omega) (by omega) ?_
      refine W.zret C.1 C.2.1 (C.2.2.1.trans hr) hn (fun t ht _ => ⟨⟨_, rfl, rfl⟩, ?_⟩) hl hd C.2.2.2.2.2.2.1
      obtain ⟨b1, b9, b2, b3, b4⟩ := hh
      refine ⟨Nat.le_trans b1 b9, Nat.le_refl _, fun q => absurd q (Nat.lt_irrefl _), fun i a hi => ?_, fun q hq => by rw [ht]; exact b4 q hq⟩
      have hi2 : zx_g10 (zx_e10 zx_A) i = some a := hi
      rw [zx_tg_e] at hi2
      exact nomatch hi2
  · cases hf
/-- more room is room enough -/
theorem zy_room {p : Program} {l : Launch} {e : Env} {R R' : Room} {s : State} {m : MethodId} {args : Array Value} {below : List Frame} {meth : Method} {c : Code} {H : Heap} {locs : List Loc} {cells slots : Nat} {Q : State → Prop} {g : JFrame} (hf : R'.frames ≤ R.frames) (hl : R'.locals ≤ R.locals) (hc : R'.cells ≤ R.cells) (hs : R'.slots ≤ R.slots) (k : W p l e R' s m args below meth c H locs cells slots Q g) : W p l e R s m args below meth c H locs cells slots Q g := by
  intro T hT X
  refine k T hT { X with room := ?_ }
  have h := X.room
  simp only [State.hasRoom, Bool.and_eq_true, decide_eq_true_eq] at h ⊢
  obtain ⟨⟨⟨⟨h1, h2⟩, h3⟩, h4⟩, h5⟩ := h
  exact ⟨⟨⟨⟨by omega, by omega⟩, by omega⟩, by omega⟩, h5⟩
/-- an older cell that is known of the start is known of later -/
theorem zy_old {P : zx_P} {G : zx_G} {h : zx_H} {H : Heap} (hh : zx_hp P G h H) {i : Nat} {a : zx_A} (hi : i < P.2.2.2.2.1) (hb : G.2.2.2.1.1 i < G.2.2.2.2.1) (ha : zx_at P G a (G.2.2.2.1.1 i) G.2.2.2.2.2.1) : zx_hp P G (zx_hs h i a) H := by
  obtain ⟨b1, b9, b2, b3, b4⟩ := hh
  refine ⟨b1, b9, b2, fun j c hj => ?_, b4⟩
  rw [zx_hg_hs h i j a (by omega)] at hj
  by_cases e : j = i
  · rw [if_pos e] at hj
    cases hj
    subst e
    exact ⟨by show _ < h.1; omega, zx_at_kept ha (b4 _ hb)⟩
  · rw [if_neg e] at hj
    exact b3 j c hj
