/-! ===== linear things over named integers: what follows from facts (each fact: it isn't below 0) ===== -/
/-- ints by their makers: quick for the kernel -/
noncomputable def zi_sn (m n : Nat) : Int := Nat.rec (motive := fun _ => Int) (Int.ofNat (Nat.sub m n)) (fun k _ => Int.negSucc k) (Nat.sub n m)
theorem zi_sn_eq (m n : Nat) : zi_sn m n = (m : Int) - (n : Int) := by
  unfold zi_sn
  cases h : Nat.sub n m with
  | zero =>
    have h1 : n - m = 0 := h
    show ((m - n : Nat) : Int) = _
    omega
  | succ k =>
    have h1 : n - m = k + 1 := h
    show Int.negSucc k = _
    rw [Int.negSucc_eq]
    omega
noncomputable def zi_add (a b : Int) : Int := Int.rec (motive := fun _ => Int) (fun m => Int.rec (motive := fun _ => Int) (fun n => Int.ofNat (Nat.add m n)) (fun n => zi_sn m (Nat.succ n)) b) (fun m => Int.rec (motive := fun _ => Int) (fun n => zi_sn n (Nat.succ m)) (fun n => Int.negSucc (Nat.succ (Nat.add m n))) b) a
theorem zi_add_eq (a b : Int) : zi_add a b = a + b := by
  cases a with
  | ofNat m => cases b with
    | ofNat n => rfl
    | negSucc n =>
      show zi_sn m (n + 1) = (m : Int) + Int.negSucc n
      rw [zi_sn_eq, Int.negSucc_eq]
      omega
  | negSucc m => cases b with
    | ofNat n =>
      show zi_sn n (m + 1) = Int.negSucc m + (n : Int)
      rw [zi_sn_eq, Int.negSucc_eq]
      omega
    | negSucc n => rfl
noncomputable def zi_neg (a : Int) : Int := Int.rec (motive := fun _ => Int) (fun m => Nat.rec (motive := fun _ => Int) (Int.ofNat 0) (fun k _ => Int.negSucc k) m) (fun m => Int.ofNat (Nat.succ m)) a
theorem zi_neg_eq (a : Int) : zi_neg a = -a := by
  cases a with
  | ofNat m => cases m with
    | zero => rfl
    | succ k => rfl
  | negSucc m => rfl
noncomputable def zi_mul (a b : Int) : Int := Int.rec (motive := fun _ => Int) (fun m => Int.rec (motive := fun _ => Int) (fun n => Int.ofNat (Nat.mul m n)) (fun n => zi_neg (Int.ofNat (Nat.mul m (Nat.succ n)))) b) (fun m => Int.rec (motive := fun _ => Int) (fun n => zi_neg (Int.ofNat (Nat.mul (Nat.succ m) n))) (fun n => Int.ofNat (Nat.mul (Nat.succ m) (Nat.succ n))) b) a
theorem zi_mul_eq (a b : Int) : zi_mul a b = a * b := by
  cases a with
  | ofNat m => cases b with
    | ofNat n => rfl
    | negSucc n =>
      show zi_neg (Int.ofNat (m * (n + 1))) = (m : Int) * Int.negSucc n
      rw [zi_neg_eq, Int.negSucc_eq, Int.mul_neg]
      show -(((m * (n + 1) : Nat)) : Int) = _
      rw [Int.natCast_mul]
      rfl
  | negSucc m => cases b with
    | ofNat n =>
      show zi_neg (Int.ofNat ((m + 1) * n)) = Int.negSucc m * (n : Int)
      rw [zi_neg_eq, Int.negSucc_eq, Int.neg_mul]
      show -((((m + 1) * n : Nat)) : Int) = _
      rw [Int.natCast_mul]
      rfl
    | negSucc n =>
      show Int.ofNat ((m + 1) * (n + 1)) = Int.negSucc m * Int.negSucc n
      rw [Int.negSucc_eq, Int.negSucc_eq, Int.neg_mul_neg]
      show ((((m + 1) * (n + 1) : Nat)) : Int) = _
      rw [Int.natCast_mul]
      rfl
noncomputable def zi_eq (a b : Int) : Bool := Int.rec (motive := fun _ => Bool) (fun m => Int.rec (motive := fun _ => Bool) (fun n => Nat.beq m n) (fun _ => false) b) (fun m => Int.rec (motive := fun _ => Bool) (fun _ => false) (fun n => Nat.beq m n) b) a
theorem zi_eq_iff (a b : Int) : zi_eq a b = true ↔ a = b := by
  cases a with
  | ofNat m => cases b with
    | ofNat n => exact ⟨fun h => by rw [Nat.eq_of_beq_eq_true h], fun h => by rw [Int.ofNat.inj h]; exact Nat.beq_refl n⟩
    | negSucc n => exact ⟨fun h => (nomatch h), fun h => (nomatch h)⟩
  | negSucc m => cases b with
    | ofNat n => exact ⟨fun h => (nomatch h), fun h => (nomatch h)⟩
    | negSucc n => exact ⟨fun h => by rw [Nat.eq_of_beq_eq_true h], fun h => by rw [Int.negSucc.inj h]; exact Nat.beq_refl n⟩
theorem zi_eq_eq (a b : Int) : zi_eq a b = decide (a = b) := Bool.eq_iff_iff.mpr ((zi_eq_iff a b).trans decide_eq_true_iff.symm)
noncomputable def zi_le (a b : Int) : Bool := Int.rec (motive := fun _ => Bool) (fun m => Int.rec (motive := fun _ => Bool) (fun n => Nat.ble m n) (fun _ => false) b) (fun m => Int.rec (motive := fun _ => Bool) (fun _ => true) (fun n => Nat.ble n m) b) a
theorem zi_le_iff (a b : Int) : zi_le a b = true ↔ a ≤ b := by
  cases a with
  | ofNat m => cases b with
    | ofNat n => exact ⟨fun h => Int.ofNat_le.mpr (Nat.le_of_ble_eq_true h), fun h => Nat.ble_eq_true_of_le (Int.ofNat_le.mp h)⟩
    | negSucc n =>
      refine ⟨fun h => (nomatch h), fun h => ?_⟩
      have h1 : (m : Int) ≤ Int.negSucc n := h
      rw [Int.negSucc_eq] at h1
      omega
  | negSucc m => cases b with
    | ofNat n =>
      refine ⟨fun _ => ?_, fun _ => rfl⟩
      show Int.negSucc m ≤ (n : Int)
      rw [Int.negSucc_eq]
      omega
    | negSucc n =>
      rw [Int.negSucc_eq, Int.negSucc_eq]
      refine ⟨fun h => ?_, fun h => ?_⟩
      · have h1 : n ≤ m := Nat.le_of_ble_eq_true h
        omega
      · exact Nat.ble_eq_true_of_le (by omega)
theorem zi_le_eq (a b : Int) : zi_le a b = decide (a ≤ b) := Bool.eq_iff_iff.mpr ((zi_le_iff a b).trans decide_eq_true_iff.symm)
noncomputable def zi_pos (a : Int) : Bool := Int.rec (motive := fun _ => Bool) (fun m => Nat.rec (motive := fun _ => Bool) false (fun _ _ => true) m) (fun _ => false) a
theorem zi_pos_eq (a : Int) : zi_pos a = decide (0 < a) := by
  refine Bool.eq_iff_iff.mpr (Iff.trans ?_ decide_eq_true_iff.symm)
  cases a with
  | ofNat m => cases m with
    | zero => exact ⟨fun h => (nomatch h), fun h => absurd h (Int.lt_irrefl 0)⟩
    | succ k =>
      refine ⟨fun _ => ?_, fun _ => rfl⟩
      show (0 : Int) < ((k + 1 : Nat) : Int)
      omega
  | negSucc m =>
    refine ⟨fun h => (nomatch h), fun h => ?_⟩
    rw [Int.negSucc_eq] at h
    omega
noncomputable def zi_nn (a : Int) : Bool := Int.rec (motive := fun _ => Bool) (fun _ => true) (fun _ => false) a
theorem zi_nn_in {a : Int} (h : zi_nn a = true) : 0 ≤ a := by
  cases a with
  | ofNat m => exact Int.natCast_nonneg m
  | negSucc m => exact nomatch h
noncomputable def zi_abs (a : Int) : Int := Bool.rec (motive := fun _ => Int) (zi_neg a) a (zi_pos a)
theorem zi_abs_eq (a : Int) : zi_abs a = (match decide (0 < a) with | true => a | false => -a) := by
  unfold zi_abs
  rw [zi_pos_eq]
  cases decide (0 < a) with
  | true => rfl
  | false => exact zi_neg_eq a
abbrev zt_T : Type := Nat × Int
abbrev zt_E : Type := Int × List zt_T
noncomputable def zt_tv (r : Nat → Int) : List zt_T → Int
  | [] => 0
  | q :: l => q.2 * r q.1 + zt_tv r l
noncomputable def zt_ev (r : Nat → Int) (e : zt_E) : Int := e.1 + zt_tv r e.2
noncomputable def zt_tc (k : Int) (l : List zt_T) : List zt_T := List.rec (motive := fun _ => List zt_T) [] (fun q _ ih => (q.1, zi_mul k q.2) :: ih) l
theorem zt_tc_c (k : Int) (q : zt_T) (l : List zt_T) : zt_tc k (q :: l) = (q.1, k * q.2) :: zt_tc k l := by
  show (q.1, zi_mul k q.2) :: zt_tc k l = _
  rw [zi_mul_eq]
theorem zt_tc_ev (r : Nat → Int) (k : Int) : ∀ l : List zt_T, zt_tv r (zt_tc k l) = k * zt_tv r l
  | [] => by simp [zt_tc, zt_tv]
  | q :: l => by
    rw [zt_tc_c]
    show k * q.2 * r q.1 + zt_tv r (zt_tc k l) = k * (q.2 * r q.1 + zt_tv r l)
    rw [zt_tc_ev r k l, Int.mul_add, Int.mul_assoc]
noncomputable def zt_ta (f : Nat) : List zt_T → List zt_T → List zt_T := Nat.rec (motive := fun _ => List zt_T → List zt_T → List zt_T) (fun a b => a ++ b) (fun _ ih a b => List.rec (motive := fun _ => List zt_T) b (fun p a1 _ => List.rec (motive := fun _ => List zt_T) (p :: a1) (fun q b1 _ => Bool.rec (motive := fun _ => List zt_T) (Bool.rec (motive := fun _ => List zt_T) (q :: ih (p :: a1) b1) (p :: ih a1 (q :: b1)) (Nat.ble (Nat.succ p.1) q.1)) (Bool.rec (motive := fun _ => List zt_T) ((p.1, zi_add p.2 q.2) :: ih a1 b1) (ih a1 b1) (zi_eq (zi_add p.2 q.2) (Int.ofNat 0))) (Nat.beq p.1 q.1)) b) a) f
theorem zt_ta_s (f : Nat) (a b : List zt_T) : zt_ta (f + 1) a b = (match a with
    | [] => b
    | p :: a1 => match b with
      | [] => p :: a1
      | q :: b1 => match Nat.beq p.1 q.1 with
        | true => match decide (p.2 + q.2 = 0) with
          | true => zt_ta f a1 b1
          | false => (p.1, p.2 + q.2) :: zt_ta f a1 b1
        | false => match Nat.blt p.1 q.1 with
          | true => p :: zt_ta f a1 (q :: b1)
          | false => q :: zt_ta f (p :: a1) b1) := by
  cases a with
  | nil => rfl
  | cons p a1 => cases b with
    | nil => rfl
    | cons q b1 =>
      show Bool.rec (motive := fun _ => List zt_T) (Bool.rec (motive := fun _ => List zt_T) (q :: zt_ta f (p :: a1) b1) (p :: zt_ta f a1 (q :: b1)) (Nat.blt p.1 q.1)) (Bool.rec (motive := fun _ => List zt_T) ((p.1, zi_add p.2 q.2) :: zt_ta f a1 b1) (zt_ta f a1 b1) (zi_eq (zi_add p.2 q.2) 0)) (Nat.beq p.1 q.1) = (match Nat.beq p.1 q.1 with
        | true => match decide (p.2 + q.2 = 0) with
          | true => zt_ta f a1 b1
          | false => (p.1, p.2 + q.2) :: zt_ta f a1 b1
        | false => match Nat.blt p.1 q.1 with
          | true => p :: zt_ta f a1 (q :: b1)
          | false => q :: zt_ta f (p :: a1) b1)
      rw [zi_add_eq, zi_eq_eq]
      cases Nat.beq p.1 q.1 with
      | true => cases decide (p.2 + q.2 = 0) <;> rfl
      | false => cases Nat.blt p.1 q.1 <;> rfl
theorem zt_tv_app (r : Nat → Int) : ∀ a b : List zt_T, zt_tv r (a ++ b) = zt_tv r a + zt_tv r b
  | [], b => by simp [zt_tv]
  | p :: a, b => by
    show p.2 * r p.1 + zt_tv r (a ++ b) = p.2 * r p.1 + zt_tv r a + zt_tv r b
    rw [zt_tv_app r a b, Int.add_assoc]
theorem zt_ta_ev (r : Nat → Int) : ∀ (f : Nat) (a b : List zt_T), zt_tv r (zt_ta f a b) = zt_tv r a + zt_tv r b
  | 0, a, b => zt_tv_app r a b
  | f + 1, [], b => by
    show zt_tv r b = 0 + zt_tv r b
    omega
  | f + 1, p :: a, [] => by
    show zt_tv r (p :: a) = zt_tv r (p :: a) + 0
    omega
  | f + 1, p :: a, q :: b => by
    have hp : zt_tv r (p :: a) = p.2 * r p.1 + zt_tv r a := rfl
    have hq : zt_tv r (q :: b) = q.2 * r q.1 + zt_tv r b := rfl
    rw [zt_ta_s]
    dsimp only
    split
    · next e =>
      have e1 : p.1 = q.1 := Nat.eq_of_beq_eq_true e
      have e2 : p.2 * r p.1 + q.2 * r q.1 = (p.2 + q.2) * r p.1 := by rw [← e1, Int.add_mul]
      split
      · next e3 =>
        have e4 : p.2 + q.2 = 0 := of_decide_eq_true e3
        rw [e4, Int.zero_mul] at e2
        rw [zt_ta_ev r f a b, hp, hq]
        omega
      · show (p.2 + q.2) * r p.1 + zt_tv r (zt_ta f a b) = _
        rw [zt_ta_ev r f a b, hp, hq, ← e2]
        omega
    · split
      · show p.2 * r p.1 + zt_tv r (zt_ta f a (q :: b)) = _
        rw [zt_ta_ev r f a (q :: b), hp]
        omega
      · show q.2 * r q.1 + zt_tv r (zt_ta f (p :: a) b) = _
        rw [zt_ta_ev r f (p :: a) b, hq]
        omega
noncomputable def zt_add (a b : zt_E) : zt_E := (zi_add a.1 b.1, zt_ta 1000 a.2 b.2)
theorem zt_add_ev (r : Nat → Int) (a b : zt_E) : zt_ev r (zt_add a b) = zt_ev r a + zt_ev r b := by
  show zi_add a.1 b.1 + zt_tv r (zt_ta 1000 a.2 b.2) = a.1 + zt_tv r a.2 + (b.1 + zt_tv r b.2)
  rw [zt_ta_ev, zi_add_eq]
  omega
noncomputable def zt_sc (k : Int) (a : zt_E) : zt_E := Bool.rec (motive := fun _ => zt_E) (zi_mul k a.1, zt_tc k a.2) a (zi_eq k (Int.ofNat 1))
theorem zt_sc_eq (k : Int) (a : zt_E) : zt_sc k a = (match decide (k = 1) with
  | true => a
  | false => (k * a.1, zt_tc k a.2)) := by
  show Bool.rec (motive := fun _ => zt_E) (zi_mul k a.1, zt_tc k a.2) a (zi_eq k 1) = _
  rw [zi_mul_eq, zi_eq_eq]
  cases decide (k = 1) <;> rfl
theorem zt_sc_ev (r : Nat → Int) (k : Int) (a : zt_E) : zt_ev r (zt_sc k a) = k * zt_ev r a := by
  rw [zt_sc_eq]
  split
  · next e =>
    rw [of_decide_eq_true e, Int.one_mul]
  · show k * a.1 + zt_tv r (zt_tc k a.2) = k * (a.1 + zt_tv r a.2)
    rw [zt_tc_ev, Int.mul_add]
noncomputable def zt_sub (a b : zt_E) : zt_E := zt_add a (zt_sc (Int.negSucc 0) b)
theorem zt_sub_ev (r : Nat → Int) (a b : zt_E) : zt_ev r (zt_sub a b) = zt_ev r a - zt_ev r b := by
  unfold zt_sub
  rw [zt_add_ev, zt_sc_ev]
  show zt_ev r a + (-1) * zt_ev r b = _
  omega
noncomputable def zt_k (c : Int) : zt_E := (c, [])
theorem zt_k_ev (r : Nat → Int) (c : Int) : zt_ev r (zt_k c) = c := by
  show c + 0 = c
  omega
noncomputable def zt_s (n : Nat) : zt_E := (0, [(n, 1)])
theorem zt_s_ev (r : Nat → Int) (n : Nat) : zt_ev r (zt_s n) = r n := by
  show 0 + (1 * r n + 0) = r n
  omega
/-- a symbol's number in a thing -/
noncomputable def zt_co (n : Nat) : List zt_T → Int
  | [] => 0
  | q :: l => match Nat.beq q.1 n with
    | true => q.2
    | false => zt_co n l
/-- all facts hold -/
def zt_ok (r : Nat → Int) (F : List zt_E) : Prop := ∀ f ∈ F, 0 ≤ zt_ev r f
noncomputable def zt_sgn (up : Bool) : Int := match up with
  | true => 1
  | false => -1
/-- the least c of the facts c + s (c - s) of a symbol -/
noncomputable def zt_b1 (n : Nat) (up : Bool) (l : List zt_E) : Option Int := List.rec (motive := fun _ => Option Int) none (fun f _ ih => List.rec (motive := fun _ => Option Int) ih (fun t ts _ => List.rec (motive := fun _ => Option Int) (Bool.rec (motive := fun _ => Option Int) ih (Bool.rec (motive := fun _ => Option Int) ih (Option.rec (motive := fun _ => Option Int) (some f.1) (fun c => Bool.rec (motive := fun _ => Option Int) (some f.1) (some c) (zi_le c f.1)) ih) (zi_eq t.2 (zt_sgn up))) (Nat.beq t.1 n)) (fun _ _ _ => ih) ts) f.2) l
theorem zt_b1_c (n : Nat) (up : Bool) (f : zt_E) (l : List zt_E) : zt_b1 n up (f :: l) = (match f.2 with
    | [t] => match Nat.beq t.1 n with
      | false => zt_b1 n up l
      | true => match decide (t.2 = zt_sgn up) with
        | false => zt_b1 n up l
        | true => match zt_b1 n up l with
          | none => some f.1
          | some c => match decide (c ≤ f.1) with
            | true => some c
            | false => some f.1
    | _ => zt_b1 n up l) := by
  rcases f with ⟨c0, _ | ⟨t, _ | ⟨u, w⟩⟩⟩
  · rfl
  · show Bool.rec (motive := fun _ => Option Int) (zt_b1 n up l) (Bool.rec (motive := fun _ => Option Int) (zt_b1 n up l) (Option.rec (motive := fun _ => Option Int) (some c0) (fun c => Bool.rec (motive := fun _ => Option Int) (some c0) (some c) (zi_le c c0)) (zt_b1 n up l)) (zi_eq t.2 (zt_sgn up))) (Nat.beq t.1 n) = (match Nat.beq t.1 n with
      | false => zt_b1 n up l
      | true => match decide (t.2 = zt_sgn up) with
        | false => zt_b1 n up l
        | true => match zt_b1 n up l with
          | none => some c0
          | some c => match decide (c ≤ c0) with
            | true => some c
            | false => some c0)
    rw [zi_eq_eq]
    cases Nat.beq t.1 n with
    | false => rfl
    | true => cases decide (t.2 = zt_sgn up) with
      | false => rfl
      | true => cases zt_b1 n up l with
        | none => rfl
        | some c =>
          show Bool.rec (motive := fun _ => Option Int) (some c0) (some c) (zi_le c c0) = (match decide (c ≤ c0) with
            | true => some c
            | false => some c0)
          rw [zi_le_eq]
          cases decide (c ≤ c0) <;> rfl
  · rfl
theorem zt_b1_in {r : Nat → Int} {n : Nat} {up : Bool} : ∀ {l : List zt_E} {c : Int}, zt_ok r l → zt_b1 n up l = some c → 0 ≤ c + zt_sgn up * r n
  | [], c, _, h => nomatch h
  | f :: l, c, hl, h => by
    have hf : 0 ≤ zt_ev r f := hl f List.mem_cons_self
    have hl2 : zt_ok r l := fun q hq => hl q (List.mem_cons_of_mem _ hq)
    rw [zt_b1_c] at h
    split at h
    · next t e0 =>
      split at h
      · exact zt_b1_in hl2 h
      · next e1 =>
        split at h
        · exact zt_b1_in hl2 h
        · next e2 =>
          have e3 : t.1 = n := Nat.eq_of_beq_eq_true e1
          have e4 := of_decide_eq_true e2
          have hf2 : 0 ≤ f.1 + zt_sgn up * r n := by
            have : zt_ev r f = f.1 + (t.2 * r t.1 + 0) := by
              show f.1 + zt_tv r f.2 = _
              rw [e0]
              rfl
            rw [this, e3, e4] at hf
            omega
          split at h
          · cases h
            exact hf2
          · next c2 e5 =>
            split at h
            · cases h
              exact zt_b1_in hl2 e5
            · cases h
              exact hf2
    · exact zt_b1_in hl2 h
/-- not above it, by what is known of each symbol -/
noncomputable def zt_il (F : List zt_E) (l : List zt_T) : Option Int := List.rec (motive := fun _ => Option Int) (some (Int.ofNat 0)) (fun t _ ih => Option.rec (motive := fun _ => Option Int) none (fun c => Option.rec (motive := fun _ => Option Int) none (fun x => some (zi_add x (zi_neg (zi_mul (zi_abs t.2) c)))) ih) (zt_b1 t.1 (zi_pos t.2) F)) l
theorem zt_il_c (F : List zt_E) (t : zt_T) (l : List zt_T) : zt_il F (t :: l) = (match zt_b1 t.1 (decide (0 < t.2)) F with
    | none => none
    | some c => match zt_il F l with
      | none => none
      | some x => some (x - (match decide (0 < t.2) with | true => t.2 | false => -t.2) * c)) := by
  show Option.rec (motive := fun _ => Option Int) none (fun c => Option.rec (motive := fun _ => Option Int) none (fun x => some (zi_add x (zi_neg (zi_mul (zi_abs t.2) c)))) (zt_il F l)) (zt_b1 t.1 (zi_pos t.2) F) = _
  rw [zi_pos_eq]
  cases zt_b1 t.1 (decide (0 < t.2)) F with
  | none => rfl
  | some c => cases zt_il F l with
    | none => rfl
    | some x =>
      show some (zi_add x (zi_neg (zi_mul (zi_abs t.2) c))) = some (x - (match decide (0 < t.2) with | true => t.2 | false => -t.2) * c)
      rw [zi_add_eq, zi_neg_eq, zi_mul_eq, zi_abs_eq, Int.sub_eq_add_neg]
theorem zt_il_in {r : Nat → Int} {F : List zt_E} (hF : zt_ok r F) : ∀ {l : List zt_T} {x : Int}, zt_il F l = some x → x ≤ zt_tv r l
  | [], x, h => by
    cases h
    exact Int.le_refl _
  | t :: l, x, h => by
    rw [zt_il_c] at h
    split at h
    · cases h
    · next c e1 =>
      split at h
      · cases h
      · next y e2 =>
        have h1 := zt_il_in hF e2
        have h2 := zt_b1_in hF e1
        show x ≤ t.2 * r t.1 + zt_tv r l
        have hx := Option.some.inj h
        by_cases hp : 0 < t.2
        · rw [decide_eq_true hp] at h2 hx
          dsimp only at hx
          have h3 : 0 ≤ t.2 * (c + 1 * r t.1) := Int.mul_nonneg (Int.le_of_lt hp) h2
          rw [Int.one_mul, Int.mul_add] at h3
          omega
        · rw [decide_eq_false hp] at h2 hx
          dsimp only at hx
          have h3 : 0 ≤ (-t.2) * (c + -1 * r t.1) := Int.mul_nonneg (by omega) h2
          rw [Int.mul_add, ← Int.mul_assoc, Int.neg_mul_neg, Int.mul_one] at h3
          omega
noncomputable def zt_i0 (F : List zt_E) (s : Int) (e : zt_E) : Bool := match zt_il F e.2 with
  | none => false
  | some x => decide (-s < e.1 + x)
theorem zt_i0_in {r : Nat → Int} {F : List zt_E} (hF : zt_ok r F) {s : Int} {e : zt_E} (h : zt_i0 F s e = true) : -s < zt_ev r e := by
  unfold zt_i0 at h
  split at h
  · cases h
  · next x e1 =>
    have h1 := zt_il_in hF e1
    have h2 := of_decide_eq_true h
    show -s < e.1 + zt_tv r e.2
    omega
/-- stretches: what is not above it, not below it -/
noncomputable def zt_lo (F : List zt_E) (e : zt_E) : Option Int := match zt_il F e.2 with
  | none => none
  | some x => some (e.1 + x)
theorem zt_lo_in {r : Nat → Int} {F : List zt_E} (hF : zt_ok r F) {e : zt_E} {x : Int} (h : zt_lo F e = some x) : x ≤ zt_ev r e := by
  unfold zt_lo at h
  split at h
  · cases h
  · next y e1 =>
    cases h
    have := zt_il_in hF e1
    show e.1 + y ≤ e.1 + zt_tv r e.2
    omega
noncomputable def zt_hi (F : List zt_E) (e : zt_E) : Option Int := match zt_lo F (zt_sc (-1) e) with
  | none => none
  | some x => some (-x)
theorem zt_hi_in {r : Nat → Int} {F : List zt_E} (hF : zt_ok r F) {e : zt_E} {x : Int} (h : zt_hi F e = some x) : zt_ev r e ≤ x := by
  unfold zt_hi at h
  split at h
  · cases h
  · next y e1 =>
    cases h
    have := zt_lo_in hF e1
    rw [zt_sc_ev] at this
    omega
theorem zt_qeq {a c q : Int} (hc : 0 < c) (h1 : c * q ≤ a) (h2 : a ≤ c * q + (c - 1)) : a / c = q := by
  have h3 : a = (a - c * q) + c * q := by omega
  rw [h3, Int.add_mul_ediv_left _ _ (Int.ne_of_gt hc), Int.ediv_eq_zero_of_lt (by omega) (by omega)]
  omega
/-- a quotient's stretch -/
noncomputable def zt_qb (F : List zt_E) (a : zt_E) (c : Int) (s : zt_E) : List zt_E := (match zt_lo F a with
  | some x => [zt_sub s (zt_k (x / c))]
  | none => []) ++ (match zt_hi F a with
  | some x => [zt_sub (zt_k (x / c)) s]
  | none => [])
theorem zt_qb_in {r r2 : Nat → Int} {F : List zt_E} (hF : zt_ok r F) {a s : zt_E} {c q : Int} (hc : 0 < c) (h1 : c * q ≤ zt_ev r a) (h2 : zt_ev r a ≤ c * q + (c - 1)) (hs : zt_ev r2 s = q) : zt_ok r2 (zt_qb F a c s) := by
  intro f hf
  have h3 := zt_qeq hc h1 h2
  rcases List.mem_append.mp hf with hf | hf
  · split at hf
    · next x e =>
      have h4 := Int.ediv_le_ediv hc (zt_lo_in hF e)
      rw [List.mem_singleton.mp hf, zt_sub_ev, zt_k_ev, hs]
      omega
    · cases hf
  · split at hf
    · next x e =>
      have h4 := Int.ediv_le_ediv hc (zt_hi_in hF e)
      rw [List.mem_singleton.mp hf, zt_sub_ev, zt_k_ev, hs]
      omega
    · cases hf
/-- the facts of more symbols than one -/
noncomputable def zt_rl : List zt_E → List zt_E
  | [] => []
  | f :: l => match f.2 with
    | _ :: _ :: _ => f :: zt_rl l
    | _ => zt_rl l
theorem zt_rl_in : ∀ {l : List zt_E} {f : zt_E}, f ∈ zt_rl l → f ∈ l
  | [], f, h => nomatch h
  | g :: l, f, h => by
    unfold zt_rl at h
    split at h
    · rcases List.mem_cons.mp h with e | e
      · rw [e]
        exact List.mem_cons_self
      · exact List.mem_cons_of_mem _ (zt_rl_in e)
    · exact List.mem_cons_of_mem _ (zt_rl_in h)
/-- a fact taken off, to be rid of a symbol, by each of the symbols -/
noncomputable def zt_pt (rec : Int → zt_E → Bool) (s : Int) (e f : zt_E) : List zt_T → Bool
  | [] => false
  | t :: l => match decide (0 < zt_co t.1 f.2 * t.2) with
    | false => zt_pt rec s e f l
    | true => match rec (Int.ofNat (zt_co t.1 f.2).natAbs * s) (zt_sub (zt_sc (Int.ofNat (zt_co t.1 f.2).natAbs) e) (zt_sc (Int.ofNat t.2.natAbs) f)) with
      | true => true
      | false => zt_pt rec s e f l
noncomputable def zt_pf (rec : Int → zt_E → Bool) (s : Int) (e : zt_E) : List zt_E → Bool
  | [] => false
  | f :: l => match zt_pt rec s e f e.2 with
    | true => true
    | false => zt_pf rec s e l
/-- above -s -/
noncomputable def zt_ps (F rl : List zt_E) : Nat → Int → zt_E → Bool
  | 0, s, e => zt_i0 F s e
  | d + 1, s, e => match zt_i0 F s e with
    | true => true
    | false => match e.2 with
      | [] => false
      | _ => zt_pf (fun s2 e2 => zt_ps F rl d s2 e2) s e rl
theorem zt_pt_in {r : Nat → Int} {rec : Int → zt_E → Bool} (hrec : ∀ s e, rec s e = true → -s < zt_ev r e) {s : Int} {e f : zt_E} (hf : 0 ≤ zt_ev r f) : ∀ {l : List zt_T}, zt_pt rec s e f l = true → -s < zt_ev r e
  | [], h => nomatch h
  | t :: l, h => by
    unfold zt_pt at h
    split at h
    · exact zt_pt_in hrec hf h
    · next e1 =>
      split at h
      · next e2 =>
        have h1 := hrec _ _ e2
        rw [zt_sub_ev, zt_sc_ev, zt_sc_ev] at h1
        have hm : zt_co t.1 f.2 ≠ 0 := fun z => by
          rw [z, Int.zero_mul] at e1
          exact absurd (of_decide_eq_true e1) (Int.lt_irrefl _)
        have hm2 : 0 < Int.ofNat (zt_co t.1 f.2).natAbs := Int.ofNat_lt.mpr (Int.natAbs_pos.mpr hm)
        have hk2 : 0 ≤ Int.ofNat t.2.natAbs * zt_ev r f := Int.mul_nonneg (Int.natCast_nonneg _) hf
        have h3 : -(Int.ofNat (zt_co t.1 f.2).natAbs * s) < Int.ofNat (zt_co t.1 f.2).natAbs * zt_ev r e := by omega
        rw [← Int.mul_neg] at h3
        exact Int.lt_of_mul_lt_mul_left h3 (Int.le_of_lt hm2)
      · exact zt_pt_in hrec hf h
theorem zt_pf_in {r : Nat → Int} {rec : Int → zt_E → Bool} (hrec : ∀ s e, rec s e = true → -s < zt_ev r e) {s : Int} {e : zt_E} : ∀ {l : List zt_E}, zt_ok r l → zt_pf rec s e l = true → -s < zt_ev r e
  | [], _, h => nomatch h
  | f :: l, hl, h => by
    unfold zt_pf at h
    split at h
    · next e1 => exact zt_pt_in hrec (hl f List.mem_cons_self) e1
    · exact zt_pf_in hrec (fun q hq => hl q (List.mem_cons_of_mem _ hq)) h
theorem zt_ps_in {r : Nat → Int} {F rl : List zt_E} (hF : zt_ok r F) (hl : zt_ok r rl) : ∀ (d : Nat) (s : Int) (e : zt_E), zt_ps F rl d s e = true → -s < zt_ev r e
  | 0, s, e, h => zt_i0_in hF h
  | d + 1, s, e, h => by
    unfold zt_ps at h
    split at h
    · next e1 => exact zt_i0_in hF e1
    · split at h
      · cases h
      · exact zt_pf_in (fun s2 e2 h2 => zt_ps_in hF hl d s2 e2 h2) hl h
/-- terms alike, place by place -/
noncomputable def zt_t0 (l : List zt_T) : List zt_T → Bool := List.rec (motive := fun _ => List zt_T → Bool) (fun m => List.rec (motive := fun _ => Bool) true (fun _ _ _ => false) m) (fun a _ ih m => List.rec (motive := fun _ => Bool) false (fun b m2 _ => Bool.rec (motive := fun _ => Bool) false (Bool.rec (motive := fun _ => Bool) false (ih m2) (zi_eq a.2 b.2)) (Nat.beq a.1 b.1)) m) l
theorem zt_t0_c (a b : zt_T) (l m : List zt_T) : zt_t0 (a :: l) (b :: m) = (match Nat.beq a.1 b.1 with
    | false => false
    | true => match decide (a.2 = b.2) with
      | false => false
      | true => zt_t0 l m) := by
  show Bool.rec (motive := fun _ => Bool) false (Bool.rec (motive := fun _ => Bool) false (zt_t0 l m) (zi_eq a.2 b.2)) (Nat.beq a.1 b.1) = _
  rw [zi_eq_eq]
  cases Nat.beq a.1 b.1 with
  | false => rfl
  | true => cases decide (a.2 = b.2) <;> rfl
theorem zt_t0_in : ∀ {l m : List zt_T}, zt_t0 l m = true → l = m
  | [], [], _ => rfl
  | [], _ :: _, h => nomatch h
  | _ :: _, [], h => nomatch h
  | a :: l, b :: m, h => by
    rw [zt_t0_c] at h
    split at h
    · cases h
    · next e1 =>
      split at h
      · cases h
      · next e2 =>
        rw [zt_t0_in h]
        obtain ⟨a1, a2⟩ := a
        obtain ⟨b1, b2⟩ := b
        have h1 : a1 = b1 := Nat.eq_of_beq_eq_true e1
        have h2 : a2 = b2 := of_decide_eq_true e2
        rw [h1, h2]
/-- one of the facts is this, or says more -/
noncomputable def zt_q0 (c : Int) (l : List zt_T) (F : List zt_E) : Bool := List.rec (motive := fun _ => Bool) false (fun f _ ih => Bool.rec (motive := fun _ => Bool) ih (Bool.rec (motive := fun _ => Bool) ih true (zi_le f.1 c)) (zt_t0 f.2 l)) F
theorem zt_q0_c (c : Int) (l : List zt_T) (f : zt_E) (F : List zt_E) : zt_q0 c l (f :: F) = (match zt_t0 f.2 l with
    | false => zt_q0 c l F
    | true => match decide (f.1 ≤ c) with
      | false => zt_q0 c l F
      | true => true) := by
  show Bool.rec (motive := fun _ => Bool) (zt_q0 c l F) (Bool.rec (motive := fun _ => Bool) (zt_q0 c l F) true (zi_le f.1 c)) (zt_t0 f.2 l) = _
  rw [zi_le_eq]
  cases zt_t0 f.2 l with
  | false => rfl
  | true => cases decide (f.1 ≤ c) <;> rfl
theorem zt_q0_in {r : Nat → Int} {c : Int} {l : List zt_T} : ∀ {F : List zt_E}, zt_ok r F → zt_q0 c l F = true → 0 ≤ zt_ev r (c, l)
  | [], _, h => nomatch h
  | f :: F, hF, h => by
    rw [zt_q0_c] at h
    split at h
    · exact zt_q0_in (fun q hq => hF q (List.mem_cons_of_mem _ hq)) h
    · next e1 =>
      split at h
      · exact zt_q0_in (fun q hq => hF q (List.mem_cons_of_mem _ hq)) h
      · next e2 =>
        have h1 := hF f List.mem_cons_self
        have h2 := of_decide_eq_true e2
        rw [← zt_t0_in e1]
        show 0 ≤ c + zt_tv r f.2
        have h3 : 0 ≤ f.1 + zt_tv r f.2 := h1
        omega
/-- above -s, by stretches or one fact; what takes more is made a fact ahead -/
noncomputable def zt_j0 (F : List zt_E) (s : Int) (e : zt_E) : Bool := Option.rec (motive := fun _ => Bool) false (fun x => zi_pos (zi_add s (zi_add e.1 x))) (zt_il F e.2)
theorem zt_j0_in {r : Nat → Int} {F : List zt_E} (hF : zt_ok r F) {s : Int} {e : zt_E} (h : zt_j0 F s e = true) : -s < zt_ev r e := by
  unfold zt_j0 at h
  cases e1 : zt_il F e.2 with
  | none =>
    rw [e1] at h
    exact nomatch h
  | some x =>
    rw [e1] at h
    have h2 : zi_pos (zi_add s (zi_add e.1 x)) = true := h
    rw [zi_pos_eq, zi_add_eq, zi_add_eq] at h2
    have h3 := of_decide_eq_true h2
    have h1 := zt_il_in hF e1
    show -s < e.1 + zt_tv r e.2
    omega
noncomputable def zt_pr (F : List zt_E) (_ : Nat) (s : Int) (e : zt_E) : Bool := List.rec (motive := fun _ => Bool) (zt_j0 F s e) (fun _ _ _ => Bool.rec (motive := fun _ => Bool) (zt_j0 F s e) true (zt_q0 (zi_add e.1 (zi_add s (Int.negSucc 0))) e.2 F)) e.2
theorem zt_pr_in {r : Nat → Int} {F : List zt_E} (hF : zt_ok r F) (d : Nat) (s : Int) (e : zt_E) (h : zt_pr F d s e = true) : -s < zt_ev r e := by
  obtain ⟨c, _ | ⟨t, l⟩⟩ := e
  · exact zt_j0_in hF h
  · have h9 : Bool.rec (motive := fun _ => Bool) (zt_j0 F s (c, t :: l)) true (zt_q0 (zi_add c (zi_add s (Int.negSucc 0))) (t :: l) F) = true := h
    cases e1 : zt_q0 (zi_add c (zi_add s (Int.negSucc 0))) (t :: l) F with
    | true =>
      have h1 : 0 ≤ zi_add c (zi_add s (Int.negSucc 0)) + zt_tv r (t :: l) := zt_q0_in hF e1
      rw [zi_add_eq, zi_add_eq] at h1
      have h2 : 0 ≤ c + (s + -1) + zt_tv r (t :: l) := h1
      show -s < c + zt_tv r (t :: l)
      omega
    | false =>
      rw [e1] at h9
      exact zt_j0_in hF h9
/-- isn't below 0 -/
noncomputable def zt_g0 (F : List zt_E) (e : zt_E) : Bool := Option.rec (motive := fun _ => Bool) false (fun x => zi_nn (zi_add e.1 x)) (zt_il F e.2)
theorem zt_g0_in {r : Nat → Int} {F : List zt_E} (hF : zt_ok r F) {e : zt_E} (h : zt_g0 F e = true) : 0 ≤ zt_ev r e := by
  unfold zt_g0 at h
  cases e1 : zt_il F e.2 with
  | none =>
    rw [e1] at h
    exact nomatch h
  | some x =>
    rw [e1] at h
    have h2 : 0 ≤ zi_add e.1 x := zi_nn_in h
    have h1 := zt_il_in hF e1
    rw [zi_add_eq] at h2
    show 0 ≤ e.1 + zt_tv r e.2
    omega
noncomputable def zt_ge (F : List zt_E) (e : zt_E) : Bool := List.rec (motive := fun _ => Bool) (zt_g0 F e) (fun _ _ _ => Bool.rec (motive := fun _ => Bool) (zt_g0 F e) true (zt_q0 e.1 e.2 F)) e.2
theorem zt_ge_in {r : Nat → Int} {F : List zt_E} (hF : zt_ok r F) {e : zt_E} (h : zt_ge F e = true) : 0 ≤ zt_ev r e := by
  obtain ⟨c, _ | ⟨t, l⟩⟩ := e
  · exact zt_g0_in hF h
  · have h9 : Bool.rec (motive := fun _ => Bool) (zt_g0 F (c, t :: l)) true (zt_q0 c (t :: l) F) = true := h
    cases e1 : zt_q0 c (t :: l) F with
    | true => exact zt_q0_in hF e1
    | false =>
      rw [e1] at h9
      exact zt_g0_in hF h9
/-- symbols below a number alone -/
def zt_lt (n : Nat) (e : zt_E) : Prop := ∀ t ∈ e.2, t.1 < n
theorem zt_lt_mono {n m : Nat} {e : zt_E} (h : zt_lt n e) (hm : n ≤ m) : zt_lt m e := fun t ht => Nat.lt_of_lt_of_le (h t ht) hm
theorem zt_tv_upd {r : Nat → Int} {n : Nat} {x : Int} : ∀ {l : List zt_T}, (∀ t ∈ l, t.1 < n) → zt_tv (fun i => if i = n then x else r i) l = zt_tv r l
  | [], _ => rfl
  | q :: l, h => by
    show q.2 * (if q.1 = n then x else r q.1) + zt_tv _ l = q.2 * r q.1 + zt_tv r l
    rw [if_neg (Nat.ne_of_lt (h q List.mem_cons_self)), zt_tv_upd (fun t ht => h t (List.mem_cons_of_mem _ ht))]
theorem zt_ev_upd {r : Nat → Int} {n : Nat} {x : Int} {e : zt_E} (h : zt_lt n e) : zt_ev (fun i => if i = n then x else r i) e = zt_ev r e := by
  show e.1 + zt_tv _ e.2 = e.1 + zt_tv r e.2
  rw [zt_tv_upd h]
theorem zt_ta_mem : ∀ (f : Nat) (a b : List zt_T) (t : zt_T), t ∈ zt_ta f a b → (∃ q ∈ a, q.1 = t.1) ∨ ∃ q ∈ b, q.1 = t.1
  | 0, a, b, t, h => (List.mem_append.mp h).elim (fun z => Or.inl ⟨t, z, rfl⟩) (fun z => Or.inr ⟨t, z, rfl⟩)
  | f + 1, [], b, t, h => Or.inr ⟨t, h, rfl⟩
  | f + 1, p :: a, [], t, h => Or.inl ⟨t, h, rfl⟩
  | f + 1, p :: a, q :: b, t, h => by
    have up : ((∃ x ∈ a, x.1 = t.1) ∨ ∃ x ∈ b, x.1 = t.1) → (∃ x ∈ p :: a, x.1 = t.1) ∨ ∃ x ∈ q :: b, x.1 = t.1 := fun z => z.elim (fun ⟨x, h1, h2⟩ => Or.inl ⟨x, List.mem_cons_of_mem _ h1, h2⟩) (fun ⟨x, h1, h2⟩ => Or.inr ⟨x, List.mem_cons_of_mem _ h1, h2⟩)
    rw [zt_ta_s] at h
    dsimp only at h
    split at h
    · split at h
      · exact up (zt_ta_mem f a b t h)
      · rcases List.mem_cons.mp h with e | e
        · rw [e]
          exact Or.inl ⟨p, List.mem_cons_self, rfl⟩
        · exact up (zt_ta_mem f a b t e)
    · split at h
      · rcases List.mem_cons.mp h with e | e
        · rw [e]
          exact Or.inl ⟨p, List.mem_cons_self, rfl⟩
        · exact (zt_ta_mem f a (q :: b) t e).elim (fun ⟨x, h1, h2⟩ => Or.inl ⟨x, List.mem_cons_of_mem _ h1, h2⟩) Or.inr
      · rcases List.mem_cons.mp h with e | e
        · rw [e]
          exact Or.inr ⟨q, List.mem_cons_self, rfl⟩
        · exact (zt_ta_mem f (p :: a) b t e).elim Or.inl (fun ⟨x, h1, h2⟩ => Or.inr ⟨x, List.mem_cons_of_mem _ h1, h2⟩)
theorem zt_add_lt {n : Nat} {a b : zt_E} (ha : zt_lt n a) (hb : zt_lt n b) : zt_lt n (zt_add a b) := fun t ht =>
  (zt_ta_mem 1000 a.2 b.2 t ht).elim (fun ⟨q, h1, h2⟩ => h2 ▸ ha q h1) (fun ⟨q, h1, h2⟩ => h2 ▸ hb q h1)
theorem zt_tc_mem (k : Int) : ∀ (l : List zt_T) (t : zt_T), t ∈ zt_tc k l → ∃ q ∈ l, q.1 = t.1
  | [], t, h => nomatch h
  | q :: l, t, h => by
    rcases List.mem_cons.mp h with e | e
    · exact ⟨q, List.mem_cons_self, by rw [e]⟩
    · obtain ⟨x, h1, h2⟩ := zt_tc_mem k l t e
      exact ⟨x, List.mem_cons_of_mem _ h1, h2⟩
theorem zt_sc_lt {n : Nat} {k : Int} {a : zt_E} (ha : zt_lt n a) : zt_lt n (zt_sc k a) := by
  rw [zt_sc_eq]
  split
  · exact ha
  · intro t ht
    obtain ⟨q, h1, h2⟩ := zt_tc_mem k a.2 t ht
    exact h2 ▸ ha q h1
theorem zt_sub_lt {n : Nat} {a b : zt_E} (ha : zt_lt n a) (hb : zt_lt n b) : zt_lt n (zt_sub a b) := zt_add_lt ha (zt_sc_lt hb)
theorem zt_k_lt {n : Nat} {c : Int} : zt_lt n (zt_k c) := fun _ h => nomatch h
theorem zt_s_lt {n m : Nat} (h : n < m) : zt_lt m (zt_s n) := fun t ht => by
  rcases List.mem_cons.mp ht with e | e
  · rw [e]
    exact h
  · exact nomatch e
theorem zt_qb_lt {n : Nat} {F : List zt_E} {a s : zt_E} {c : Int} (hs : zt_lt n s) : ∀ f ∈ zt_qb F a c s, zt_lt n f := by
  intro f hf
  rcases List.mem_append.mp hf with hf | hf
  · split at hf
    · rw [List.mem_singleton.mp hf]
      exact zt_sub_lt hs zt_k_lt
    · cases hf
  · split at hf
    · rw [List.mem_singleton.mp hf]
      exact zt_sub_lt zt_k_lt hs
    · cases hf
/-- a thing with things in the symbols' place -/
noncomputable def zt_tsu (su : Nat → zt_E) (l : List zt_T) : zt_E := List.rec (motive := fun _ => zt_E) (Int.ofNat 0, []) (fun q _ ih => zt_add (zt_sc q.2 (su q.1)) ih) l
noncomputable def zt_su (su : Nat → zt_E) (e : zt_E) : zt_E := zt_add (e.1, []) (zt_tsu su e.2)
theorem zt_tsu_ev (r : Nat → Int) (su : Nat → zt_E) : ∀ l : List zt_T, zt_ev r (zt_tsu su l) = zt_tv (fun i => zt_ev r (su i)) l
  | [] => rfl
  | q :: l => by
    show zt_ev r (zt_add (zt_sc q.2 (su q.1)) (zt_tsu su l)) = q.2 * zt_ev r (su q.1) + zt_tv _ l
    rw [zt_add_ev, zt_sc_ev, zt_tsu_ev r su l]
theorem zt_su_ev (r : Nat → Int) (su : Nat → zt_E) (e : zt_E) : zt_ev r (zt_su su e) = zt_ev (fun i => zt_ev r (su i)) e := by
  unfold zt_su
  rw [zt_add_ev, zt_tsu_ev]
  show e.1 + 0 + zt_tv _ e.2 = e.1 + zt_tv _ e.2
  omega
