/-! ===== the start ===== -/
def zs_F : List Jvm.Cond := flatC (Jvm.Cond.and given_1 narrow_1)
def zs_el (tm : Term) : List Int32 → Nat → List Cond
  | [], _ => []
  | v :: r, j => Cond.eq (.elem tm (.int (Int32.ofNat j))) (.int v) :: zs_el tm r (j + 1)
theorem zs_el_get (tm : Term) : ∀ (l : List Int32) (j0 j : Nat), j < l.length → (zs_el tm l j0)[j]? = some (Cond.eq (.elem tm (.int (Int32.ofNat (j0 + j)))) (.int (l.getD j 0)))
  | [], _, _, h => absurd h (Nat.not_lt_zero _)
  | v :: r, j0, 0, _ => by simp [zs_el]
  | v :: r, j0, j + 1, h => by
    show (zs_el tm r (j0 + 1))[j]? = _
    rw [zs_el_get tm r (j0 + 1) j (Nat.lt_of_succ_lt_succ h), show j0 + 1 + j = j0 + (j + 1) by omega]
    simp
theorem zs_mem {F : List Cond} {tm : Term} {l : List Int32} {i : Nat} (h3 : (F.drop i).take l.length = zs_el tm l 0) {j : Nat} (hj : j < l.length) : Cond.eq (.elem tm (.int (Int32.ofNat j))) (.int (l.getD j 0)) ∈ F := by
  have e := zs_el_get tm l 0 j hj
  rw [← h3, Nat.zero_add] at e
  exact List.mem_of_mem_drop (List.mem_of_mem_take (List.mem_of_getElem? e))
theorem zs_row {A : Array Value} {s : State} {F : List Cond} {C n d : String} {ty : FieldType} {l : List Int32} {i : Nat} (hF : ∀ c ∈ F, c.before A s = true) (h1 : F[i]? = some (Cond.arrayOf (.static C n d) ty)) (h2 : F[i + 1]? = some (Cond.eq (.length (.static C n d)) (.int (Int32.ofNat l.length)))) (h3 : (F.drop (i + 2)).take l.length = zs_el (.static C n d) l 0) (hN : l.length < 2 ^ 31) :
    ∃ t : Nat, (Term.static C n d).eval A s none [] s = some (.ref t) ∧ va_T ty t l.length (fun j => .int (l.getD j 0)) (fun q => s.heap.size ≤ q) s s.heap :=
  va_Tof hN (hF _ (List.mem_of_getElem? h1)) (va_eqt (hF _ (List.mem_of_getElem? h2))) (fun j hj => va_eqt (hF _ (zs_mem h3 hj))) (fun a h => Nat.not_le.mpr h)
theorem zs_text {A : Array Value} {s : State} {F : List Cond} {own : String} {k : Nat} {l : List Int32} {i : Nat} (hF : ∀ c ∈ F, c.before A s = true) (h0 : F[i]? = some (Cond.exactly (.string own k) "java/lang/String")) (h1 : F[i + 1]? = some (Cond.eq (.field (.string own k) "java/lang/String" "coder" "B") (.int 0))) (h2 : F[i + 2]? = some (Cond.arrayOf (.field (.string own k) "java/lang/String" "value" "[B") .byte)) (h3 : F[i + 3]? = some (Cond.eq (.length (.field (.string own k) "java/lang/String" "value" "[B")) (.int (Int32.ofNat l.length)))) (h4 : (F.drop (i + 4)).take l.length = zs_el (.field (.string own k) "java/lang/String" "value" "[B") l 0) (hN : l.length < 2 ^ 31) :
    ∃ a v : Nat, (va_O "java/lang/String" a (fun q => s.heap.size ≤ q) s s.heap ∧ va_OF "java/lang/String" "coder" "B" (.int 0) a (fun q => s.heap.size ≤ q) s s.heap ∧ va_OF "java/lang/String" "value" "[B" (.ref v) a (fun q => s.heap.size ≤ q) s s.heap ∧ va_T .byte v l.length (fun j => .int (l.getD j 0)) (fun q => s.heap.size ≤ q) s s.heap) ∧ (Term.string own k).eval A s none [] s = some (.ref a) := by
  obtain ⟨adK, adV, g1, g2⟩ := vk_Sof (N := 1) (tm := fun _ => .string own k) (len := [l.length]) (byt := [l]) (A := fun q => s.heap.size ≤ q) (args := A) (s := s) (fun i hi => by
    obtain rfl : i = 0 := by omega
    exact hN) (fun i _ => hF _ (List.mem_of_getElem? h0)) (fun i _ => hF _ (List.mem_of_getElem? h1)) (fun i _ => hF _ (List.mem_of_getElem? h2)) (fun i hi => by
    obtain rfl : i = 0 := by omega
    exact hF _ (List.mem_of_getElem? h3)) (fun i hi j hj => by
    obtain rfl : i = 0 := by omega
    exact hF _ (zs_mem h4 hj)) (fun i j hi hj hij => absurd (show i = j by omega) hij) (fun a h => Nat.not_le.mpr h)
  exact ⟨adK 0, adV 0, g1.1 0 (by omega), g2 0 (by omega)⟩
theorem zs_arr {A : Array Value} {s : State} {ty : FieldType} (h : (Cond.arrayClass ty).before A s = true) : ∃ c, ArrOfT s c ty ∧ s.vm.findClass ("[" ++ ty.toString) = some c := by
  obtain ⟨c, k, comp, h1, h2, h3⟩ := Cond.arrayClass_spec (show (Cond.arrayClass ty).holds A s none s [] = true from h)
  exact ⟨c, fun n z => ⟨(fun q hq => by cases hq), k, h2, comp, h3⟩, h1⟩
theorem zs_arrA {A : Array Value} {s : State} {ty : FieldType} (h : (Cond.arrayOver (.array ty)).before A s = true) : ∃ c, ArrOfT s c (.array ty) ∧ s.vm.findClass ("[" ++ (FieldType.array ty).toString) = some c := by
  obtain ⟨comp, c, k, h1, h2, h3, h4, h5⟩ := arrayOverA_spec (show (Cond.arrayOver (.array ty)).holds A s none s [] = true from h)
  exact ⟨c, fun n z => ⟨(fun q hq => by cases hq), k, h3, comp, h4⟩, h5⟩
theorem zs_arrO {A : Array Value} {s : State} {C : String} (h : (Cond.arrayOver (.object C)).before A s = true) : ∃ c, ArrOfT s c (.object C) ∧ va_RA s c (.object C) := by
  obtain ⟨comp, c, k, h1, h2, h3, h4, h5⟩ := Cond.arrayOver_spec (show (Cond.arrayOver (.object C)).holds A s none s [] = true from h)
  exact ⟨c, fun n z => ⟨(fun q hq => by cases hq), k, h3, comp, h4⟩, k, comp, h3, h4, h1, h5⟩
/-- a row's places, as a sparse row tells them -/
noncomputable def zs_same (d : Value) (u : zx_Tr Value) : List Int32 → Nat → Bool
  | [], _ => true
  | v :: r, j => zy_v (zx_rd d u j) (.int v) && zs_same d u r (j + 1)
theorem zs_same_in {d : Value} {u : zx_Tr Value} : ∀ {l : List Int32} {j0 : Nat}, zs_same d u l j0 = true → ∀ j, j < l.length → zx_rd d u (j0 + j) = .int (l.getD j 0)
  | [], _, _, j, h => absurd h (Nat.not_lt_zero _)
  | v :: r, j0, h, j, hj => by
    have h9 : (zy_v (zx_rd d u j0) (.int v) && zs_same d u r (j0 + 1)) = true := h
    simp only [Bool.and_eq_true] at h9
    cases j with
    | zero => simpa using zy_v_in h9.1
    | succ j =>
      have := zs_same_in h9.2 j (Nat.lt_of_succ_lt_succ hj)
      rw [show j0 + (j + 1) = j0 + 1 + j by omega, this]
      simp
def zs_l0 : List Int32 := [nI 127, nI 69, nI 76, nI 70, nI 1, nI 1, nI 1, nI 0, nI 0, nI 0, nI 0, nI 0, nI 0, nI 0, nI 0, nI 0]
theorem zs_r0 {A : Array Value} {s : State} (hF : ∀ c ∈ zs_F, c.before A s = true) : ∃ t : Nat, (Term.static "ChainHouse$Bytes" "IDENTITY" "[I").eval A s none [] s = some (.ref t) ∧ va_T .int t 16 (fun j => .int (zs_l0.getD j 0)) (fun q => s.heap.size ≤ q) s s.heap := zs_row (l := zs_l0) (i := 5) hF (by decide +kernel) (by decide +kernel) (by decide +kernel) (by decide +kernel)
theorem zs_e0 : zs_same (.int 0) zu_o0.2.2.2 zs_l0 0 = true := by decide +kernel
def zs_l1 : List Int32 := [nI 1, nI 1, nI 1, nI 1, nI 2, nI 4, nI 4, nI 4, nI 4, nI 1, nI 1]
theorem zs_r1 {A : Array Value} {s : State} (hF : ∀ c ∈ zs_F, c.before A s = true) : ∃ t : Nat, (Term.static "ChainHouse$ObjectFile" "ALIGNMENTS" "[I").eval A s none [] s = some (.ref t) ∧ va_T .int t 11 (fun j => .int (zs_l1.getD j 0)) (fun q => s.heap.size ≤ q) s s.heap := zs_row (l := zs_l1) (i := 834) hF (by decide +kernel) (by decide +kernel) (by decide +kernel) (by decide +kernel)
theorem zs_e1 : zs_same (.int 0) zu_o1.2.2.2 zs_l1 0 = true := by decide +kernel
def zs_l2 : List Int32 := [nI 0, nI 0, nI 0, nI 0, nI 2, nI 12, nI 12, nI 12, nI 16, nI 0, nI 0]
theorem zs_r2 {A : Array Value} {s : State} (hF : ∀ c ∈ zs_F, c.before A s = true) : ∃ t : Nat, (Term.static "ChainHouse$ObjectFile" "EACH" "[I").eval A s none [] s = some (.ref t) ∧ va_T .int t 11 (fun j => .int (zs_l2.getD j 0)) (fun q => s.heap.size ≤ q) s s.heap := zs_row (l := zs_l2) (i := 876) hF (by decide +kernel) (by decide +kernel) (by decide +kernel) (by decide +kernel)
theorem zs_e2 : zs_same (.int 0) zu_o2.2.2.2 zs_l2 0 = true := by decide +kernel
def zs_l3 : List Int32 := [nI 6, nI 2, nI 3, nI 3, nI 0, nI 64, nI 64, nI 64, nI 0, nI 0, nI 0]
theorem zs_r3 {A : Array Value} {s : State} (hF : ∀ c ∈ zs_F, c.before A s = true) : ∃ t : Nat, (Term.static "ChainHouse$ObjectFile" "FLAGS" "[I").eval A s none [] s = some (.ref t) ∧ va_T .int t 11 (fun j => .int (zs_l3.getD j 0)) (fun q => s.heap.size ≤ q) s s.heap := zs_row (l := zs_l3) (i := 862) hF (by decide +kernel) (by decide +kernel) (by decide +kernel) (by decide +kernel)
theorem zs_e3 : zs_same (.int 0) zu_o3.2.2.2 zs_l3 0 = true := by decide +kernel
def zs_l4 : List Int32 := [nI 1, nI 1, nI 1, nI 8, nI 1, nI 4, nI 4, nI 4, nI 2, nI 3, nI 3]
theorem zs_r4 {A : Array Value} {s : State} (hF : ∀ c ∈ zs_F, c.before A s = true) : ∃ t : Nat, (Term.static "ChainHouse$ObjectFile" "SORTS" "[I").eval A s none [] s = some (.ref t) ∧ va_T .int t 11 (fun j => .int (zs_l4.getD j 0)) (fun q => s.heap.size ≤ q) s s.heap := zs_row (l := zs_l4) (i := 848) hF (by decide +kernel) (by decide +kernel) (by decide +kernel) (by decide +kernel)
theorem zs_e4 : zs_same (.int 0) zu_o4.2.2.2 zs_l4 0 = true := by decide +kernel
def zs_l5 : List Int32 := [nI 4294967295, nI 4294967295, nI 15, nI 15, nI 15, nI 15, nI 15, nI 4294967295, nI 4294967295, nI 71, nI 71, nI 4294967295, nI 4294967295, nI 4294967295, nI 4294967295, nI 4294967295, nI 4294967295, nI 4294967295, nI 4294967295, nI 4294967295, nI 71, nI 4294967295, nI 4294967295, nI 39, nI 4294967295, nI 4294967295]
theorem zs_r5 {A : Array Value} {s : State} (hF : ∀ c ∈ zs_F, c.before A s = true) : ∃ t : Nat, (Term.static "ChainHouse$Word" "A_AT" "[I").eval A s none [] s = some (.ref t) ∧ va_T .int t 26 (fun j => .int (zs_l5.getD j 0)) (fun q => s.heap.size ≤ q) s s.heap := zs_row (l := zs_l5) (i := 273) hF (by decide +kernel) (by decide +kernel) (by decide +kernel) (by decide +kernel)
theorem zs_e5 : zs_same (.int 0) zu_o5.2.2.2 zs_l5 0 = true := by decide +kernel
def zs_l6 : List Int32 := [nI 4294967295, nI 4294967295, nI 4294967295, nI 20, nI 20, nI 4294967295, nI 20, nI 4294967295, nI 4294967295, nI 4294967295, nI 66, nI 4294967295, nI 4294967295, nI 4294967295, nI 4294967295, nI 4294967295, nI 4294967295, nI 4294967295, nI 4294967295, nI 66, nI 4294967295, nI 4294967295, nI 4294967295, nI 4294967295, nI 34, nI 2]
theorem zs_r6 {A : Array Value} {s : State} (hF : ∀ c ∈ zs_F, c.before A s = true) : ∃ t : Nat, (Term.static "ChainHouse$Word" "B_AT" "[I").eval A s none [] s = some (.ref t) ∧ va_T .int t 26 (fun j => .int (zs_l6.getD j 0)) (fun q => s.heap.size ≤ q) s s.heap := zs_row (l := zs_l6) (i := 302) hF (by decide +kernel) (by decide +kernel) (by decide +kernel) (by decide +kernel)
theorem zs_e6 : zs_same (.int 0) zu_o6.2.2.2 zs_l6 0 = true := by decide +kernel
def zs_l7 : List Int32 := [nI 7, nI 7, nI 7, nI 4294967295, nI 4294967295, nI 7, nI 7, nI 4294967295, nI 66, nI 66, nI 4294967295, nI 4294967295, nI 39, nI 4294967295, nI 39, nI 4294967295, nI 39, nI 71, nI 71, nI 71, nI 4294967295, nI 39, nI 39, nI 4294967295, nI 39, nI 4294967295]
theorem zs_r7 {A : Array Value} {s : State} (hF : ∀ c ∈ zs_F, c.before A s = true) : ∃ t : Nat, (Term.static "ChainHouse$Word" "D_AT" "[I").eval A s none [] s = some (.ref t) ∧ va_T .int t 26 (fun j => .int (zs_l7.getD j 0)) (fun q => s.heap.size ≤ q) s s.heap := zs_row (l := zs_l7) (i := 244) hF (by decide +kernel) (by decide +kernel) (by decide +kernel) (by decide +kernel)
theorem zs_e7 : zs_same (.int 0) zu_o7.2.2.2 zs_l7 0 = true := by decide +kernel
def zs_l8 : List Int32 := [nI 0, nI 0, nI 1, nI 2, nI 3, nI 3, nI 3, nI 3, nI 3, nI 3, nI 2, nI 2, nI 2, nI 2, nI 2, nI 4, nI 4, nI 4, nI 2, nI 2, nI 2, nI 2, nI 2, nI 2, nI 5, nI 5, nI 5, nI 6, nI 6, nI 6, nI 6, nI 6, nI 6, nI 6, nI 6, nI 6, nI 6, nI 6, nI 6, nI 6, nI 6, nI 6, nI 6, nI 6, nI 6, nI 7, nI 7, nI 7, nI 8, nI 9, nI 10, nI 11, nI 12, nI 13, nI 14, nI 15, nI 16, nI 17, nI 17, nI 18, nI 19, nI 19, nI 19, nI 19, nI 13, nI 20, nI 20, nI 21, nI 22, nI 23, nI 24, nI 11, nI 23, nI 24, nI 25]
theorem zs_r8 {A : Array Value} {s : State} (hF : ∀ c ∈ zs_F, c.before A s = true) : ∃ t : Nat, (Term.static "ChainHouse$Word" "FORM" "[I").eval A s none [] s = some (.ref t) ∧ va_T .int t 75 (fun j => .int (zs_l8.getD j 0)) (fun q => s.heap.size ≤ q) s s.heap := zs_row (l := zs_l8) (i := 59) hF (by decide +kernel) (by decide +kernel) (by decide +kernel) (by decide +kernel)
theorem zs_e8 : zs_same (.int 0) zu_o8.2.2.2 zs_l8 0 = true := by decide +kernel
def zs_l9 : List Int32 := [nI 0, nI 4293918720, nI 4294965248, nI 4294963200, nI 4294965248, nI 0, nI 0, nI 0, nI 4, nI 0, nI 0, nI 0, nI 4294967264, nI 4294965248, nI 4294967264, nI 4294966784, nI 4294967264, nI 1, nI 4294967264, nI 0, nI 4294967040, nI 1, nI 0, nI 0, nI 0, nI 0]
theorem zs_r9 {A : Array Value} {s : State} (hF : ∀ c ∈ zs_F, c.before A s = true) : ∃ t : Nat, (Term.static "ChainHouse$Word" "LOW" "[I").eval A s none [] s = some (.ref t) ∧ va_T .int t 26 (fun j => .int (zs_l9.getD j 0)) (fun q => s.heap.size ≤ q) s s.heap := zs_row (l := zs_l9) (i := 532) hF (by decide +kernel) (by decide +kernel) (by decide +kernel) (by decide +kernel)
theorem zs_e9 : zs_same (.int 0) zu_o9.2.2.2 zs_l9 0 = true := by decide +kernel
def zs_l10 : List Int32 := [nI 127, nI 127, nI 28799, nI 28799, nI 28799, nI 4261441663, nI 4261441663, nI 4294967295, nI 57347, nI 57347, nI 57347, nI 65535, nI 57347, nI 57347, nI 57347, nI 61315, nI 57347, nI 64515, nI 60419, nI 64611, nI 57347, nI 61443, nI 57347, nI 61567, nI 61443, nI 57347]
theorem zs_r10 {A : Array Value} {s : State} (hF : ∀ c ∈ zs_F, c.before A s = true) : ∃ t : Nat, (Term.static "ChainHouse$Word" "MASK" "[I").eval A s none [] s = some (.ref t) ∧ va_T .int t 26 (fun j => .int (zs_l10.getD j 0)) (fun q => s.heap.size ≤ q) s s.heap := zs_row (l := zs_l10) (i := 137) hF (by decide +kernel) (by decide +kernel) (by decide +kernel) (by decide +kernel)
theorem zs_e10 : zs_same (.int 0) zu_o10.2.2.2 zs_l10 0 = true := by decide +kernel
def zs_l11 : List Int32 := [nI 55, nI 23, nI 111, nI 103, nI 99, nI 4195, nI 16483, nI 20579, nI 24675, nI 28771, nI 3, nI 4099, nI 8195, nI 16387, nI 20483, nI 35, nI 4131, nI 8227, nI 19, nI 8211, nI 12307, nI 16403, nI 24595, nI 28691, nI 4115, nI 20499, nI 1073762323, nI 51, nI 1073741875, nI 4147, nI 8243, nI 12339, nI 16435, nI 20531, nI 1073762355, nI 24627, nI 28723, nI 33554483, nI 33558579, nI 33562675, nI 33566771, nI 33570867, nI 33574963, nI 33579059, nI 33583155, nI 267386895, nI 115, nI 1048691, nI 0, nI 16384, nI 49152, nI 1, nI 1, nI 8193, nI 16385, nI 24833, nI 24577, nI 32769, nI 33793, nI 34817, nI 35841, nI 35873, nI 35905, nI 35937, nI 40961, nI 49153, nI 57345, nI 2, nI 16386, nI 32770, nI 32770, nI 36866, nI 36866, nI 36866, nI 49154]
theorem zs_r11 {A : Array Value} {s : State} (hF : ∀ c ∈ zs_F, c.before A s = true) : ∃ t : Nat, (Term.static "ChainHouse$Word" "MATCH" "[I").eval A s none [] s = some (.ref t) ∧ va_T .int t 75 (fun j => .int (zs_l11.getD j 0)) (fun q => s.heap.size ≤ q) s s.heap := zs_row (l := zs_l11) (i := 166) hF (by decide +kernel) (by decide +kernel) (by decide +kernel) (by decide +kernel)
theorem zs_e11 : zs_same (.int 0) zu_o11.2.2.2 zs_l11 0 = true := by decide +kernel
def zs_l12 : List Int32 := [nI 0, nI 12, nI 20, nI 20, nI 31, nI 1, nI 1, nI 21, nI 10, nI 11, nI 20, nI 1, nI 12, nI 12, nI 8, nI 0, nI 20, nI 12, nI 12, nI 31, nI 1, nI 5, nI 25, nI 6, nI 1, nI 8, nI 4, nI 11, nI 7, nI 1, nI 5, nI 25, nI 7, nI 0, nI 7, nI 5, nI 0, nI 20, nI 5, nI 4, nI 11, nI 2, nI 6, nI 7, nI 4, nI 2, nI 6, nI 1, nI 3, nI 5, nI 1, nI 3, nI 10, nI 3, nI 2, nI 6, nI 1, nI 6, nI 5, nI 1, nI 3, nI 10, nI 3, nI 2, nI 6, nI 1, nI 6, nI 5, nI 1, nI 5, nI 12, nI 1, nI 0, nI 2, nI 5, nI 11, nI 12, nI 1, nI 4, nI 11, nI 1, nI 8, nI 9, nI 2, nI 10, nI 8, nI 1, nI 6, nI 7, nI 1, nI 7, nI 6, nI 1, nI 1, nI 3, nI 3, nI 5, nI 2, nI 1, nI 5, nI 12, nI 1, nI 0, nI 2, nI 5, nI 9, nI 12, nI 1, nI 4, nI 6, nI 1, nI 6, nI 5, nI 1, nI 7, nI 3, nI 2, nI 5, nI 2, nI 1, nI 5, nI 12, nI 1, nI 0, nI 2, nI 5, nI 0, nI 2, nI 5, nI 5, nI 12, nI 1, nI 0, nI 2, nI 5, nI 8, nI 12, nI 1, nI 3, nI 10, nI 2, nI 6, nI 5, nI 2, nI 1, nI 3, nI 2, nI 5, nI 2, nI 1, nI 0, nI 2, nI 5, nI 5, nI 12, nI 1, nI 2, nI 4, nI 3, nI 6, nI 2, nI 2, nI 2, nI 9, nI 4, nI 6, nI 7, nI 2]
theorem zs_r12 {A : Array Value} {s : State} (hF : ∀ c ∈ zs_F, c.before A s = true) : ∃ t : Nat, (Term.static "ChainHouse$Word" "RUNS" "[I").eval A s none [] s = some (.ref t) ∧ va_T .int t 168 (fun j => .int (zs_l12.getD j 0)) (fun q => s.heap.size ≤ q) s s.heap := zs_row (l := zs_l12) (i := 361) hF (by decide +kernel) (by decide +kernel) (by decide +kernel) (by decide +kernel)
theorem zs_e12 : zs_same (.int 0) zu_o12.2.2.2 zs_l12 0 = true := by decide +kernel
def zs_l13 : List Int32 := [nI 0, nI 1, nI 5, nI 6, nI 10, nI 12, nI 13, nI 13, nI 13, nI 17, nI 20, nI 23, nI 23, nI 25, nI 33, nI 35, nI 40, nI 42, nI 43, nI 45, nI 45, nI 50, nI 51, nI 54, nI 54, nI 54, nI 56]
theorem zs_r13 {A : Array Value} {s : State} (hF : ∀ c ∈ zs_F, c.before A s = true) : ∃ t : Nat, (Term.static "ChainHouse$Word" "RUN_FROM" "[I").eval A s none [] s = some (.ref t) ∧ va_T .int t 27 (fun j => .int (zs_l13.getD j 0)) (fun q => s.heap.size ≤ q) s s.heap := zs_row (l := zs_l13) (i := 331) hF (by decide +kernel) (by decide +kernel) (by decide +kernel) (by decide +kernel)
theorem zs_e13 : zs_same (.int 0) zu_o13.2.2.2 zs_l13 0 = true := by decide +kernel
def zs_l14 : List Int32 := [nI 46, nI 104, nI 97, nI 108, nI 102, nI 32, nI 46, nI 119, nI 111, nI 114, nI 100]
theorem zs_r14 {A : Array Value} {s : State} (hF : ∀ c ∈ zs_F, c.before A s = true) : ∃ a v : Nat, (va_O "java/lang/String" a (fun q => s.heap.size ≤ q) s s.heap ∧ va_OF "java/lang/String" "coder" "B" (.int 0) a (fun q => s.heap.size ≤ q) s s.heap ∧ va_OF "java/lang/String" "value" "[B" (.ref v) a (fun q => s.heap.size ≤ q) s s.heap ∧ va_T .byte v 11 (fun j => .int (zs_l14.getD j 0)) (fun q => s.heap.size ≤ q) s s.heap) ∧ (Term.string "ChainHouse$Word" 140).eval A s none [] s = some (.ref a) := zs_text (l := zs_l14) (i := 988) hF (by decide +kernel) (by decide +kernel) (by decide +kernel) (by decide +kernel) (by decide +kernel) (by decide +kernel)
theorem zs_e14 : zs_same (.int 0) zu_o14.2.2.2 zs_l14 0 = true := by decide +kernel
def zs_l15 : List Int32 := [nI 46, nI 116, nI 101, nI 120, nI 116, nI 32, nI 46, nI 114, nI 111, nI 100, nI 97, nI 116, nI 97, nI 32, nI 46, nI 100, nI 97, nI 116, nI 97, nI 32, nI 46, nI 98, nI 115, nI 115, nI 32, nI 46, nI 115, nI 116, nI 97, nI 114, nI 116, nI 115, nI 32, nI 46, nI 114, nI 101, nI 108, nI 97, nI 46, nI 116, nI 101, nI 120, nI 116, nI 32, nI 46, nI 114, nI 101, nI 108, nI 97, nI 46, nI 114, nI 111, nI 100, nI 97, nI 116, nI 97, nI 32, nI 46, nI 114, nI 101, nI 108, nI 97, nI 46, nI 100, nI 97, nI 116, nI 97, nI 32, nI 46, nI 115, nI 121, nI 109, nI 116, nI 97, nI 98, nI 32, nI 46, nI 115, nI 116, nI 114, nI 116, nI 97, nI 98, nI 32, nI 46, nI 115, nI 104, nI 115, nI 116, nI 114, nI 116, nI 97, nI 98]
theorem zs_r15 {A : Array Value} {s : State} (hF : ∀ c ∈ zs_F, c.before A s = true) : ∃ a v : Nat, (va_O "java/lang/String" a (fun q => s.heap.size ≤ q) s s.heap ∧ va_OF "java/lang/String" "coder" "B" (.int 0) a (fun q => s.heap.size ≤ q) s s.heap ∧ va_OF "java/lang/String" "value" "[B" (.ref v) a (fun q => s.heap.size ≤ q) s s.heap ∧ va_T .byte v 93 (fun j => .int (zs_l15.getD j 0)) (fun q => s.heap.size ≤ q) s s.heap) ∧ (Term.string "ChainHouse$ObjectFile" 175).eval A s none [] s = some (.ref a) := zs_text (l := zs_l15) (i := 2602) hF (by decide +kernel) (by decide +kernel) (by decide +kernel) (by decide +kernel) (by decide +kernel) (by decide +kernel)
theorem zs_e15 : zs_same (.int 0) zu_o15.2.2.2 zs_l15 0 = true := by decide +kernel
theorem zs_K {A : Array Value} {s : State} (hts : ∀ w ∈ lw_tbl, w.before A s = true) : ∃ (D : va_G) (ts : List (ClassId × FieldType)), va_K D zu_cl ts s ∧ ts.map Prod.snd = [.int, .long, .byte, .boolean, .array .long, .array .int, .object "ChainHouse$Bytes", .object "ChainHouse$Contents"] := by
  have hz : ∀ w ∈ zu_ws, w.before A s = true := fun w hw => hts w (zt_in w hw)
  obtain ⟨c0, i0, k0⟩ := u_known (C := RX0) (T := TX0) (N := 17) (n := 17) hz zk0_0 (hz _ zu_m478)
  obtain ⟨c1, i1, k1⟩ := u_known (C := RX1) (T := TX1) (N := 2) (n := 2) hz zk0_1 (hz _ zu_m329)
  obtain ⟨c2, i2, k2⟩ := u_known (C := RX2) (T := TX2) (N := 10) (n := 10) hz zk0_2 (hz _ zu_m354)
  obtain ⟨c3, i3, k3⟩ := u_known (C := RX3) (T := TX3) (N := 4) (n := 4) hz zk0_3 (hz _ zu_m424)
  obtain ⟨c4, i4, k4⟩ := u_known (C := RX4) (T := TX4) (N := 13) (n := 13) hz zk0_4 (hz _ zu_m435)
  obtain ⟨c5, i5, k5⟩ := u_known (C := RX5) (T := TX5) (N := 8) (n := 8) hz zk0_5 (hz _ zu_m430)
  obtain ⟨c6, i6, k6⟩ := u_known (C := RX6) (T := TX6) (N := 19) (n := 19) hz zk0_6 (hz _ zu_m488)
  obtain ⟨c7, i7, k7⟩ := u_known (C := RX7) (T := TX7) (N := 19) (n := 19) hz zk0_7 (hz _ zu_m497)
  obtain ⟨c8, i8, k8⟩ := u_known (C := RX8) (T := TX8) (N := 15) (n := 15) hz zk0_8 (hz _ zu_m483)
  obtain ⟨c9, i9, k9⟩ := u_known (C := RX9) (T := TX9) (N := 16) (n := 16) hz zk0_9 (hz _ zu_m369)
  obtain ⟨c10, i10, k10⟩ := u_known (C := RX10) (T := TX10) (N := 18) (n := 18) hz zk0_10 (hz _ zu_m349)
  obtain ⟨c11, i11, k11⟩ := u_known (C := RX11) (T := TX11) (N := 5) (n := 5) hz zk0_11 (hz _ zu_m441)
  obtain ⟨c12, i12, k12⟩ := u_known (C := RX12) (T := TX12) (N := 15) (n := 15) hz zk0_12 (hz _ zu_m1527)
  obtain ⟨c13, i13, k13⟩ := u_known (C := RX13) (T := TX13) (N := 6) (n := 6) hz zk0_13 (hz _ zu_m1089)
  obtain ⟨c14, i14, k14⟩ := u_known (C := RX14) (T := TX14) (N := 16) (n := 16) hz zk0_14 (hz _ zu_m1114)
  obtain ⟨c15, i15, k15⟩ := u_known (C := RX15) (T := TX15) (N := 41) (n := 41) hz zk0_15 (hz _ zu_m1101)
  obtain ⟨c16, i16, k16⟩ := u_known (C := RX16) (T := TX16) (N := 28) (n := 28) hz zk0_16 (hz _ zu_m1108)
  obtain ⟨c17, i17, k17⟩ := u_known (C := RX17) (T := TX17) (N := 29) (n := 29) hz zk0_17 (hz _ zu_m1120)
  obtain ⟨c18, i18, k18⟩ := u_known (C := RX18) (T := TX18) (N := 36) (n := 36) hz zk0_18 (hz _ zu_m1095)
  obtain ⟨c19, i19, k19⟩ := u_known (C := RX19) (T := TX19) (N := 119) (n := 119) hz zk0_19 (hz _ zu_m1532)
  obtain ⟨a0, e0, f0⟩ := zs_arr (ty := .int) (hts _ (zt_1 _ (List.mem_of_getElem? (i := 152) (by decide +kernel))))
  obtain ⟨a1, e1, f1⟩ := zs_arr (ty := .long) (hts _ (zt_1 _ (List.mem_of_getElem? (i := 151) (by decide +kernel))))
  obtain ⟨a2, e2, f2⟩ := zs_arr (ty := .byte) (hts _ (zt_1 _ (List.mem_of_getElem? (i := 57) (by decide +kernel))))
  obtain ⟨a3, e3, f3⟩ := zs_arr (ty := .boolean) (hts _ (zt_3 _ (List.mem_of_getElem? (i := 33) (by decide +kernel))))
  obtain ⟨a4, e4, f4⟩ := zs_arrA (ty := .long) (hts _ (zt_1 _ (List.mem_of_getElem? (i := 78) (by decide +kernel))))
  obtain ⟨a5, e5, f5⟩ := zs_arrA (ty := .int) (hts _ (zt_1 _ (List.mem_of_getElem? (i := 80) (by decide +kernel))))
  obtain ⟨a6, e6, f6⟩ := zs_arrO (C := "ChainHouse$Bytes") (hts _ (zt_1 _ (List.mem_of_getElem? (i := 58) (by decide +kernel))))
  obtain ⟨a7, e7, f7⟩ := zs_arrO (C := "ChainHouse$Contents") (hts _ (zt_2 _ (List.mem_of_getElem? (i := 152) (by decide +kernel))))
  refine ⟨(fun k => [c0, c1, c2, c3, c4, c5, c6, c7, c8, c9, c10, c11, c12, c13, c14, c15, c16, c17, c18, c19].getD k 0, fun k => [i0, i1, i2, i3, i4, i5, i6, i7, i8, i9, i10, i11, i12, i13, i14, i15, i16, i17, i18, i19].getD k (fun _ => 0)), [(a0, .int), (a1, .long), (a2, .byte), (a3, .boolean), (a4, .array .long), (a5, .array .int), (a6, .object "ChainHouse$Bytes"), (a7, .object "ChainHouse$Contents")], ⟨?_, ?_⟩, rfl⟩
  · intro k q hq
    match k, hq with
    | 0, hq => cases hq; exact k0
    | 1, hq => cases hq; exact k1
    | 2, hq => cases hq; exact k2
    | 3, hq => cases hq; exact k3
    | 4, hq => cases hq; exact k4
    | 5, hq => cases hq; exact k5
    | 6, hq => cases hq; exact k6
    | 7, hq => cases hq; exact k7
    | 8, hq => cases hq; exact k8
    | 9, hq => cases hq; exact k9
    | 10, hq => cases hq; exact k10
    | 11, hq => cases hq; exact k11
    | 12, hq => cases hq; exact k12
    | 13, hq => cases hq; exact k13
    | 14, hq => cases hq; exact k14
    | 15, hq => cases hq; exact k15
    | 16, hq => cases hq; exact k16
    | 17, hq => cases hq; exact k17
    | 18, hq => cases hq; exact k18
    | 19, hq => cases hq; exact k19
    | k + 20, hq => exact absurd hq (by simp [zu_cl])
  · intro k q hq
    match k, hq with
    | 0, hq => cases hq; exact ⟨e0, f0⟩
    | 1, hq => cases hq; exact ⟨e1, f1⟩
    | 2, hq => cases hq; exact ⟨e2, f2⟩
    | 3, hq => cases hq; exact ⟨e3, f3⟩
    | 4, hq => cases hq; exact ⟨e4, f4⟩
    | 5, hq => cases hq; exact ⟨e5, f5⟩
    | 6, hq => cases hq; exact ⟨e6, f6⟩
    | 7, hq => cases hq; exact ⟨e7, f7⟩
    | k + 8, hq => exact absurd hq (by simp)
