/-! ===== rows of things by their places, sparse: a root, and four of the same below ===== -/
/-- this claim is read over the whole library (part 07 needs it): told at once -/
theorem zx_far : Multi.outerC = Multi.outerC := rfl
abbrev zx_B (α β : Type) : Type := Option (Option α × (β × β) × (β × β))
noncomputable def zx_bg {α β : Type} (g : β → Nat → Option α) (t : zx_B α β) (i : Nat) : Option α := Option.rec (motive := fun _ => Option α) none (fun x => Prod.rec (motive := fun _ => Option α) (fun a y => Prod.rec (motive := fun _ => Option α) (fun p q => Nat.rec (motive := fun _ => Option α) a (fun k _ => Bool.rec (motive := fun _ => Option α) (Prod.rec (motive := fun _ => Option α) (fun t2 t3 => Bool.rec (motive := fun _ => Option α) (g t3 (Nat.div k 4)) (g t2 (Nat.div k 4)) (Nat.beq (Nat.mod k 4) 2)) q) (Prod.rec (motive := fun _ => Option α) (fun t0 t1 => Bool.rec (motive := fun _ => Option α) (g t1 (Nat.div k 4)) (g t0 (Nat.div k 4)) (Nat.beq (Nat.mod k 4) 0)) p) (Nat.ble (Nat.mod k 4) 1)) i) y) x) t
theorem zx_bg_eq {α β : Type} (g : β → Nat → Option α) (t : zx_B α β) (i : Nat) : zx_bg g t i = (match t with
  | none => none
  | some (a, (t0, t1), (t2, t3)) => match i with
    | 0 => a
    | k + 1 => match Nat.mod k 4 with
      | 0 => g t0 (Nat.div k 4)
      | 1 => g t1 (Nat.div k 4)
      | 2 => g t2 (Nat.div k 4)
      | _ => g t3 (Nat.div k 4)) := by
  rcases t with _ | ⟨a, ⟨t0, t1⟩, ⟨t2, t3⟩⟩
  · rfl
  · cases i with
    | zero => rfl
    | succ k =>
      show Bool.rec (motive := fun _ => Option α) (Bool.rec (motive := fun _ => Option α) (g t3 (Nat.div k 4)) (g t2 (Nat.div k 4)) (Nat.beq (Nat.mod k 4) 2)) (Bool.rec (motive := fun _ => Option α) (g t1 (Nat.div k 4)) (g t0 (Nat.div k 4)) (Nat.beq (Nat.mod k 4) 0)) (Nat.ble (Nat.mod k 4) 1) = (match Nat.mod k 4 with
      | 0 => g t0 (Nat.div k 4)
      | 1 => g t1 (Nat.div k 4)
      | 2 => g t2 (Nat.div k 4)
      | _ => g t3 (Nat.div k 4))
      have h4 : Nat.mod k 4 = 0 ∨ Nat.mod k 4 = 1 ∨ Nat.mod k 4 = 2 ∨ Nat.mod k 4 = 3 := by
        show k % 4 = 0 ∨ k % 4 = 1 ∨ k % 4 = 2 ∨ k % 4 = 3
        omega
      rcases h4 with e | e | e | e <;> rw [e] <;> rfl
noncomputable def zx_bs {α β : Type} (e : β) (s : α → β → Nat → β) (v : α) (t : zx_B α β) (i : Nat) : zx_B α β := match t with
  | none => match i with
    | 0 => some (some v, (e, e), (e, e))
    | k + 1 => match Nat.mod k 4 with
      | 0 => some (none, (s v e (Nat.div k 4), e), (e, e))
      | 1 => some (none, (e, s v e (Nat.div k 4)), (e, e))
      | 2 => some (none, (e, e), (s v e (Nat.div k 4), e))
      | _ => some (none, (e, e), (e, s v e (Nat.div k 4)))
  | some (a, (t0, t1), (t2, t3)) => match i with
    | 0 => some (some v, (t0, t1), (t2, t3))
    | k + 1 => match Nat.mod k 4 with
      | 0 => some (a, (s v t0 (Nat.div k 4), t1), (t2, t3))
      | 1 => some (a, (t0, s v t1 (Nat.div k 4)), (t2, t3))
      | 2 => some (a, (t0, t1), (s v t2 (Nat.div k 4), t3))
      | _ => some (a, (t0, t1), (t2, s v t3 (Nat.div k 4)))
def zx_law {α β : Type} (e : β) (g : β → Nat → Option α) (s : α → β → Nat → β) (c : Nat) : Prop := (∀ i, g e i = none) ∧ ∀ v t i j, i < c → g (s v t i) j = if j = i then some v else g t j
theorem zx_mod4 (k : Nat) : Nat.mod k 4 = 0 ∨ Nat.mod k 4 = 1 ∨ Nat.mod k 4 = 2 ∨ Nat.mod k 4 = 3 := by
  show k % 4 = 0 ∨ k % 4 = 1 ∨ k % 4 = 2 ∨ k % 4 = 3
  omega
theorem zx_law_up {α β : Type} {e : β} {g : β → Nat → Option α} {s : α → β → Nat → β} {c : Nat} (h : zx_law e g s c) : zx_law (none : zx_B α β) (zx_bg g) (zx_bs e s) (1 + 4 * c) := by
  refine ⟨fun i => rfl, fun v t i j hi => ?_⟩
  have hb : ∀ k, i = k + 1 → Nat.div k 4 < c := fun k hk => by
    show k / 4 < _
    omega
  have h1 : ∀ k q : Nat, Nat.mod k 4 = Nat.mod q 4 → ((Nat.div q 4 = Nat.div k 4) ↔ (q + 1 = k + 1)) := fun k q e => by
    show (q / 4 = k / 4) ↔ _
    have e2 : k % 4 = q % 4 := e
    omega
  have h2 : ∀ k q : Nat, Nat.mod k 4 ≠ Nat.mod q 4 → ¬ (q + 1 = k + 1) := fun k q e e2 => e (by rw [Nat.succ.inj e2])
  rcases t with _ | ⟨a, ⟨u0, u1⟩, ⟨u2, u3⟩⟩
  · cases i with
    | zero =>
      cases j with
      | zero => rfl
      | succ q => rcases zx_mod4 q with e | e | e | e <;> simp [zx_bg_eq, zx_bs, e, h.1]
    | succ k =>
      cases j with
      | zero =>
        rw [if_neg (by omega)]
        rcases zx_mod4 k with e | e | e | e <;> simp only [zx_bg_eq, zx_bs, e]
      | succ q =>
        by_cases hm : Nat.mod k 4 = Nat.mod q 4
        · have hk := h.2 v
          rcases zx_mod4 q with e9 | e9 | e9 | e9 <;> simp only [zx_bg_eq, zx_bs, hm, e9, h.2 v _ _ _ (hb k rfl), h1 k q hm, h.1]
        · rw [if_neg (h2 k q hm)]
          rcases zx_mod4 k with e | e | e | e <;> rcases zx_mod4 q with e9 | e9 | e9 | e9 <;> first | exact absurd (e.trans e9.symm) hm | simp only [zx_bg_eq, zx_bs, e, e9, h.1]
  · cases i with
    | zero =>
      cases j with
      | zero => rfl
      | succ q => rcases zx_mod4 q with e | e | e | e <;> simp [zx_bg_eq, zx_bs, e]
    | succ k =>
      cases j with
      | zero =>
        rw [if_neg (by omega)]
        rcases zx_mod4 k with e | e | e | e <;> simp only [zx_bg_eq, zx_bs, e]
      | succ q =>
        by_cases hm : Nat.mod k 4 = Nat.mod q 4
        · rcases zx_mod4 q with e9 | e9 | e9 | e9 <;> simp only [zx_bg_eq, zx_bs, hm, e9, h.2 v _ _ _ (hb k rfl), h1 k q hm]
        · rw [if_neg (h2 k q hm)]
          rcases zx_mod4 k with e | e | e | e <;> rcases zx_mod4 q with e9 | e9 | e9 | e9 <;> first | exact absurd (e.trans e9.symm) hm | simp only [zx_bg_eq, zx_bs, e, e9]
def zx_T0 (_α : Type) : Type := Unit
noncomputable def zx_e0 (α : Type) : zx_T0 α := ()
noncomputable def zx_g0 {α : Type} (_ : zx_T0 α) (_ : Nat) : Option α := none
noncomputable def zx_s0 {α : Type} (_ : α) (t : zx_T0 α) (_ : Nat) : zx_T0 α := t
theorem zx_l0 (α : Type) : zx_law (zx_e0 α) zx_g0 zx_s0 0 := ⟨fun _ => rfl, fun _ _ _ _ h => absurd h (Nat.not_lt_zero _)⟩
def zx_T1 (α : Type) : Type := zx_B α (zx_T0 α)
noncomputable def zx_e1 (α : Type) : zx_T1 α := none
noncomputable def zx_g1 {α : Type} (t : zx_T1 α) (i : Nat) : Option α := zx_bg (zx_g0 (α := α)) t i
noncomputable def zx_s1 {α : Type} (v : α) (t : zx_T1 α) (i : Nat) : zx_T1 α := zx_bs (zx_e0 α) zx_s0 v t i
theorem zx_l1 (α : Type) : zx_law (zx_e1 α) zx_g1 zx_s1 1 := zx_law_up (zx_l0 α)
def zx_T2 (α : Type) : Type := zx_B α (zx_T1 α)
noncomputable def zx_e2 (α : Type) : zx_T2 α := none
noncomputable def zx_g2 {α : Type} (t : zx_T2 α) (i : Nat) : Option α := zx_bg (zx_g1 (α := α)) t i
noncomputable def zx_s2 {α : Type} (v : α) (t : zx_T2 α) (i : Nat) : zx_T2 α := zx_bs (zx_e1 α) zx_s1 v t i
theorem zx_l2 (α : Type) : zx_law (zx_e2 α) zx_g2 zx_s2 5 := zx_law_up (zx_l1 α)
def zx_T3 (α : Type) : Type := zx_B α (zx_T2 α)
noncomputable def zx_e3 (α : Type) : zx_T3 α := none
noncomputable def zx_g3 {α : Type} (t : zx_T3 α) (i : Nat) : Option α := zx_bg (zx_g2 (α := α)) t i
noncomputable def zx_s3 {α : Type} (v : α) (t : zx_T3 α) (i : Nat) : zx_T3 α := zx_bs (zx_e2 α) zx_s2 v t i
theorem zx_l3 (α : Type) : zx_law (zx_e3 α) zx_g3 zx_s3 21 := zx_law_up (zx_l2 α)
def zx_T4 (α : Type) : Type := zx_B α (zx_T3 α)
noncomputable def zx_e4 (α : Type) : zx_T4 α := none
noncomputable def zx_g4 {α : Type} (t : zx_T4 α) (i : Nat) : Option α := zx_bg (zx_g3 (α := α)) t i
noncomputable def zx_s4 {α : Type} (v : α) (t : zx_T4 α) (i : Nat) : zx_T4 α := zx_bs (zx_e3 α) zx_s3 v t i
theorem zx_l4 (α : Type) : zx_law (zx_e4 α) zx_g4 zx_s4 85 := zx_law_up (zx_l3 α)
def zx_T5 (α : Type) : Type := zx_B α (zx_T4 α)
noncomputable def zx_e5 (α : Type) : zx_T5 α := none
noncomputable def zx_g5 {α : Type} (t : zx_T5 α) (i : Nat) : Option α := zx_bg (zx_g4 (α := α)) t i
noncomputable def zx_s5 {α : Type} (v : α) (t : zx_T5 α) (i : Nat) : zx_T5 α := zx_bs (zx_e4 α) zx_s4 v t i
theorem zx_l5 (α : Type) : zx_law (zx_e5 α) zx_g5 zx_s5 341 := zx_law_up (zx_l4 α)
def zx_T6 (α : Type) : Type := zx_B α (zx_T5 α)
noncomputable def zx_e6 (α : Type) : zx_T6 α := none
noncomputable def zx_g6 {α : Type} (t : zx_T6 α) (i : Nat) : Option α := zx_bg (zx_g5 (α := α)) t i
noncomputable def zx_s6 {α : Type} (v : α) (t : zx_T6 α) (i : Nat) : zx_T6 α := zx_bs (zx_e5 α) zx_s5 v t i
theorem zx_l6 (α : Type) : zx_law (zx_e6 α) zx_g6 zx_s6 1365 := zx_law_up (zx_l5 α)
def zx_T7 (α : Type) : Type := zx_B α (zx_T6 α)
noncomputable def zx_e7 (α : Type) : zx_T7 α := none
noncomputable def zx_g7 {α : Type} (t : zx_T7 α) (i : Nat) : Option α := zx_bg (zx_g6 (α := α)) t i
noncomputable def zx_s7 {α : Type} (v : α) (t : zx_T7 α) (i : Nat) : zx_T7 α := zx_bs (zx_e6 α) zx_s6 v t i
theorem zx_l7 (α : Type) : zx_law (zx_e7 α) zx_g7 zx_s7 5461 := zx_law_up (zx_l6 α)
def zx_T8 (α : Type) : Type := zx_B α (zx_T7 α)
noncomputable def zx_e8 (α : Type) : zx_T8 α := none
noncomputable def zx_g8 {α : Type} (t : zx_T8 α) (i : Nat) : Option α := zx_bg (zx_g7 (α := α)) t i
noncomputable def zx_s8 {α : Type} (v : α) (t : zx_T8 α) (i : Nat) : zx_T8 α := zx_bs (zx_e7 α) zx_s7 v t i
theorem zx_l8 (α : Type) : zx_law (zx_e8 α) zx_g8 zx_s8 21845 := zx_law_up (zx_l7 α)
def zx_T9 (α : Type) : Type := zx_B α (zx_T8 α)
noncomputable def zx_e9 (α : Type) : zx_T9 α := none
noncomputable def zx_g9 {α : Type} (t : zx_T9 α) (i : Nat) : Option α := zx_bg (zx_g8 (α := α)) t i
noncomputable def zx_s9 {α : Type} (v : α) (t : zx_T9 α) (i : Nat) : zx_T9 α := zx_bs (zx_e8 α) zx_s8 v t i
theorem zx_l9 (α : Type) : zx_law (zx_e9 α) zx_g9 zx_s9 87381 := zx_law_up (zx_l8 α)
def zx_T10 (α : Type) : Type := zx_B α (zx_T9 α)
noncomputable def zx_e10 (α : Type) : zx_T10 α := none
noncomputable def zx_g10 {α : Type} (t : zx_T10 α) (i : Nat) : Option α := zx_bg (zx_g9 (α := α)) t i
noncomputable def zx_s10 {α : Type} (v : α) (t : zx_T10 α) (i : Nat) : zx_T10 α := zx_bs (zx_e9 α) zx_s9 v t i
theorem zx_l10 (α : Type) : zx_law (zx_e10 α) zx_g10 zx_s10 349525 := zx_law_up (zx_l9 α)
abbrev zx_Tr (α : Type) : Type := zx_T10 α
theorem zx_tg_e {α : Type} (i : Nat) : zx_g10 (zx_e10 α) i = none := (zx_l10 α).1 i
theorem zx_tg_ts {α : Type} (v : α) (t : zx_Tr α) (i j : Nat) (h : i < 300000) : zx_g10 (zx_s10 v t i) j = if j = i then some v else zx_g10 t j := (zx_l10 α).2 v t i j (by omega)
