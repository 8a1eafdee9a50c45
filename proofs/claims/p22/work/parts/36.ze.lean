/-! ===== facts told ahead, and a run that is led ===== -/
/-- what is told: its sort, numbers, linear things, words -/
abbrev ze_J : Type := Nat × List Nat × List zt_E × List ze_P
/-- facts, each so many times -/
noncomputable def ze_sm : List Nat → List zt_E → zt_E
  | m :: ms, f :: fs => zt_add (zt_sc (Int.ofNat m) f) (ze_sm ms fs)
  | _, _ => (0, [])
theorem ze_sm_in {r : Nat → Int} {F : List zt_E} (hF : zt_ok r F) : ∀ {ms : List Nat} {fs : List zt_E}, ze_all (fun f => zt_q0 f.1 f.2 F) fs = true → 0 ≤ zt_ev r (ze_sm ms fs)
  | [], _, _ => by
    unfold ze_sm
    exact Int.le_refl _
  | _ :: _, [], _ => by
    unfold ze_sm
    exact Int.le_refl _
  | m :: ms, f :: fs, h => by
    rw [ze_all_c] at h
    split at h
    · next e1 =>
      have h1 : 0 ≤ zt_ev r f := zt_q0_in hF e1
      have h2 := ze_sm_in hF (ms := ms) h
      unfold ze_sm
      rw [zt_add_ev, zt_sc_ev]
      have h3 : 0 ≤ Int.ofNat m * zt_ev r f := Int.mul_nonneg (Int.natCast_nonneg m) h1
      omega
    · cases h
noncomputable def ze_gz (k : Nat) (d : zt_E) : Bool := match Nat.blt 0 k with
  | false => false
  | true => match d.2 with
    | [] => decide (-(Int.ofNat k) < d.1)
    | _ => false
theorem ze_gz_in {r : Nat → Int} {k : Nat} {e s : zt_E} (h : ze_gz k (zt_sub (zt_sc (Int.ofNat k) e) s) = true) (hs : 0 ≤ zt_ev r s) : 0 ≤ zt_ev r e := by
  unfold ze_gz at h
  split at h
  · cases h
  · next e1 =>
    split at h
    · next e2 =>
      have h1 := of_decide_eq_true h
      have h2 : zt_ev r (zt_sub (zt_sc (Int.ofNat k) e) s) = (zt_sub (zt_sc (Int.ofNat k) e) s).1 := by
        show (zt_sub (zt_sc (Int.ofNat k) e) s).1 + zt_tv r (zt_sub (zt_sc (Int.ofNat k) e) s).2 = _
        rw [e2]
        exact Int.add_zero _
      rw [zt_sub_ev, zt_sc_ev] at h2
      have hk : 0 < Int.ofNat k := Int.ofNat_lt.mpr (Nat.le_of_ble_eq_true e1)
      have h3 : Int.ofNat k * (-1) < Int.ofNat k * zt_ev r e := by omega
      have h4 := Int.lt_of_mul_lt_mul_left h3 (Int.le_of_lt hk)
      omega
    · cases h
/-- a fact that follows from others -/
noncomputable def ze_ga (ms : List Nat) (es : List zt_E) (S : ze_S) : Option (List ze_S) := match ms, es with
  | k :: ms, e :: fs => match ze_all (fun f => zt_q0 f.1 f.2 S.1.2.2.2.2) fs && (ze_gz k (zt_sub (zt_sc (Int.ofNat k) e) (ze_sm ms fs)) && zt_ltb S.1.1 e.2) with
    | false => none
    | true => some [(zt_fact e S.1, S.2)]
  | _, _ => none
theorem ze_ga_in {Z : ze_Z} {T : zx_Tr zt_C} {K0 : Nat} {ms : List Nat} {es : List zt_E} : ze_cov Z T K0 (ze_ga ms es) := by
  intro S l r R L st h hk hg hA
  unfold ze_ga at hA
  split at hA
  · next k ms e fs =>
    split at hA
    · cases hA
    · next e1 =>
      cases hA
      simp only [Bool.and_eq_true] at e1
      obtain ⟨h1, h2, h3⟩ := e1
      exact ⟨_, List.mem_cons_self, r, R, fun _ _ => rfl, fun _ _ => rfl, Nat.le_refl _, Nat.le_refl _, zt_fact_in hg.1 (ze_gz_in h2 (ze_sm_in hg.1.1 h1)) (zt_ltb_in h3), hg.2⟩
  · cases hA
/-- states one after the other, what is told handed on -/
noncomputable def ze_fo {α σ : Type} (g : α → σ → Option σ) (l : List α) : σ → Option σ := List.rec (motive := fun _ => σ → Option σ) (fun s => some s) (fun a t ih s => List.rec (motive := fun _ => Option σ) (g a s) (fun _ _ _ => Option.rec (motive := fun _ => Option σ) none (fun s2 => ih s2) (g a s)) t) l
theorem ze_fo_in {α σ : Type} {g : α → σ → Option σ} : ∀ {l : List α} {s s2 : σ} {a : α}, ze_fo g l s = some s2 → a ∈ l → ∃ s3 s4, g a s3 = some s4
  | [], _, _, a, _, ha => nomatch ha
  | [b], s, s2, a, h, ha => by
    rw [List.mem_singleton.mp ha]
    exact ⟨s, s2, h⟩
  | b :: c :: l, s, s2, a, h, ha => by
    have h9 : Option.rec (motive := fun _ => Option σ) none (fun s2 => ze_fo g (c :: l) s2) (g b s) = some s2 := h
    cases e1 : g b s with
    | none =>
      rw [e1] at h9
      exact nomatch h9
    | some s3 =>
      rw [e1] at h9
      have h8 : ze_fo g (c :: l) s3 = some s2 := h9
      rcases List.mem_cons.mp ha with z | z
      · rw [z]
        exact ⟨s, s3, e1⟩
      · exact ze_fo_in h8 z
/-- what is told may take what comes behind it -/
abbrev ze_W : Type := ze_J → List ze_J → ze_S → Option (List ze_S × List ze_J)
def ze_gc (Z : ze_Z) (T : zx_Tr zt_C) (K0 : Nat) (G : ze_W) : Prop := ∀ (j : ze_J) (s : List ze_J) (S : ze_S) (l : List ze_S) (s2 : List ze_J) (r : Nat → Int) (R : Nat → Nat → Int) (L : zx_L) (st : List Value) (h : zx_H), zt_hk T K0 h → ze_g Z r R S L st h → G j s S = some (l, s2) →
  ∃ q ∈ l, ∃ (r2 : Nat → Int) (R2 : Nat → Nat → Int), (∀ i, i < S.1.1 → r2 i = r i) ∧ (∀ i, i < S.2.1 → R2 i = R i) ∧ S.1.1 ≤ q.1.1 ∧ S.2.1 ≤ q.2.1 ∧ ze_g Z r2 R2 q L st h
/-- the run that is led: what is told first of all (50: a cut), then the place's own -/
noncomputable def ze_rx3 (k0 kr : Nat) (rk : Option (List zt_E)) (ts : List ze_T) (S : ze_S) (j : ze_J) (s : List ze_J) : Option (List ze_J) := Option.rec (motive := fun _ => Option (List ze_J)) none (fun t => Bool.rec (motive := fun _ => Option (List ze_J)) none (some s) (zm_ct k0 kr rk t j.2.2.1 j.2.1.tail S)) (zx_nth ts (j.2.1.headD 0))
noncomputable def ze_rx4 (KS : zx_Tr ze_K) (top dp : Nat) (md : List (Nat × Nat)) (rec : Bool → Nat → ze_S → List ze_J → Option (List ze_J)) (S : ze_S) (j : ze_J) (s : List ze_J) (c : Nat × Nat × (List zt_V → Bool) × Nat) : Option (List ze_J) := Option.rec (motive := fun _ => Option (List ze_J)) none (fun K => Bool.rec (motive := fun _ => Option (List ze_J)) none (Option.rec (motive := fun _ => Option (List ze_J)) none (fun l => ze_fo (fun q s2 => rec false q.1 q.2 s2) l s) (zm_ca K c.2.1 c.2.2.1 c.2.2.2 md j.2.2.1 j.2.1.tail S)) (Nat.blt (j.2.1.headD 0) top && (Nat.blt K.2.1 dp && Nat.beq K.1 c.1))) (zx_g10 KS (j.2.1.headD 0))
noncomputable def ze_rx5 (k0 kr : Nat) (ps : List ze_S) (S : ze_S) (j : ze_J) (s : List ze_J) (rc : zt_S → Bool) : Option (List ze_J) := Option.rec (motive := fun _ => Option (List ze_J)) none (fun p => Bool.rec (motive := fun _ => Option (List ze_J)) none (some s) (rc S.1 && zm_ok (zm_su k0 j.2.2.1) (zm_ru kr j.2.1.tail) (zh_dr (Nat.sub p.1.1 k0) j.2.2.1) (ze_nl S) p)) (zx_nth ps (j.2.1.headD 0))
noncomputable def ze_rx2 (KS : zx_Tr ze_K) (top dp : Nat) (C : ze_Q) (k0 kr : Nat) (ps : List ze_S) (md : List (Nat × Nat)) (rec : Bool → Nat → ze_S → List ze_J → Option (List ze_J)) (pc : Nat) (S : ze_S) (j : ze_J) (s : List ze_J) : Option (List ze_J) := Option.rec (motive := fun _ => Option (List ze_J)) none (fun o => Sum.rec (motive := fun _ => Option (List ze_J)) (fun A => Option.rec (motive := fun _ => Option (List ze_J)) none (fun l => ze_fo (fun q s2 => rec false q.1 q.2 s2) l s) (zq_A j.2.1 A S)) (fun o2 => Sum.rec (motive := fun _ => Option (List ze_J)) (fun c => ze_rx4 KS top dp md rec S j s c) (fun rc => ze_rx5 k0 kr ps S j s rc) o2) o) (C.1 pc)
/-- the place's number as it is laid down: what was looked up of it once is known -/
noncomputable def ze_pn {α : Type} (f : Nat → α) (pc : Nat) : α := Nat.rec (motive := fun _ => α) (f 0) (fun m _ => f (Nat.succ m)) pc
theorem ze_pn_eq {α : Type} (f : Nat → α) (pc : Nat) : ze_pn f pc = f pc := by
  cases pc <;> rfl
noncomputable def ze_rx1 (G : ze_W) (KS : zx_Tr ze_K) (top dp : Nat) (C : ze_Q) (k0 kr : Nat) (ps : List ze_S) (md : List (Nat × Nat)) (rk : Option (List zt_E)) (rec : Bool → Nat → ze_S → List ze_J → Option (List ze_J)) (first : Bool) (pc : Nat) (S : ze_S) (j : ze_J) (s : List ze_J) : Option (List ze_J) := Nat.rec (motive := fun _ => Option (List ze_J)) (ze_pn (fun p => ze_rx2 KS top dp C k0 kr ps md rec p S j s) pc) (fun _ _ => Bool.rec (motive := fun _ => Option (List ze_J)) (Option.rec (motive := fun _ => Option (List ze_J)) none (fun x => ze_fo (fun q s2 => rec first pc q s2) x.1 x.2) (G j s S)) (Option.rec (motive := fun _ => Option (List ze_J)) none (fun ts => ze_rx3 k0 kr rk ts S j s) (ze_fd pc C.2.1)) (Nat.beq j.1 50)) j.1
noncomputable def ze_rx (G : ze_W) (KS : zx_Tr ze_K) (top dp : Nat) (C : ze_Q) (k0 kr : Nat) (ps : List ze_S) (md : List (Nat × Nat)) (rk : Option (List zt_E)) (f : Nat) : Bool → Nat → ze_S → List ze_J → Option (List ze_J) := Nat.rec (motive := fun _ => Bool → Nat → ze_S → List ze_J → Option (List ze_J)) (fun _ _ _ _ => none) (fun _ ih first pc S js => List.rec (motive := fun _ => Option (List ze_J)) none (fun j s _ => ze_rx1 G KS top dp C k0 kr ps md rk ih first pc S j s) js) f
theorem zo_in {α β : Type} {f : α → Option β} {o : Option α} {x : β} (h : Option.rec (motive := fun _ => Option β) none f o = some x) : ∃ a, o = some a ∧ f a = some x := by
  cases o with
  | none => exact nomatch h
  | some a => exact ⟨a, rfl, h⟩
theorem zb_in {β : Type} {y : Option β} {b : Bool} {x : β} (h : Bool.rec (motive := fun _ => Option β) none y b = some x) : b = true ∧ y = some x := by
  cases b with
  | false => exact nomatch h
  | true => exact ⟨rfl, h⟩
