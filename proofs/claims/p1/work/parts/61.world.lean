/-! ===== one call's claim ===== -/
def R_law : String := "ChainHouseLaw"
def lw_P (b : Addr) (xs : List Int32) (args : Array Value) (s : State) : Prop := args = #[.ref b] ∧ s.IntsAt b xs ∧ xs.length ≤ 6 ∧ (Jvm.Cond.and given_1 narrow_1).before args s = true
def lw_Q (_ : Array Value) (s : State) (o : Outcome) (t : State) : Prop := o = .returned (some (.int 1)) ∧ Framed s o t [] 600002 7302232
def lw_Z (below : List Frame) (a : Array Value) (s : State) : State → Prop := fun t => ∃ o, t.status = .running ∧ Ended t below o ∧ lw_Q a s o t
theorem zs_getD {n : Nat} : ∀ {l : List Nat} (i : Nat), (∀ x ∈ l, x < n) → 0 < n → l.getD i 0 < n
  | [], _, _, h0 => h0
  | a :: l, 0, h, _ => h a List.mem_cons_self
  | a :: l, i + 1, h, h0 => by
    show l.getD i 0 < n
    exact zs_getD i (fun x hx => h x (List.mem_cons_of_mem _ hx)) h0
theorem zs_lt {ty : FieldType} {t N : Nat} {f : Nat → Value} {A : Nat → Prop} {U : State} {H : Heap} (h : va_T ty t N f A U H) : t < H.size := by
  obtain ⟨cell, h1, -⟩ := h
  exact (Array.getElem?_eq_some_iff.mp h1).1
theorem zs_ltO {E : String} {t : Nat} {A : Nat → Prop} {U : State} {H : Heap} (h : va_O E t A U H) : t < H.size := by
  obtain ⟨cell, h1, -⟩ := h
  exact (Array.getElem?_eq_some_iff.mp h1).1
noncomputable def zs_ad (sz : Nat) (old tx : List Nat) (i : Nat) : Nat := if i < 17 then old.getD i 0 else if i < 300000 then sz + (i - 17) else tx.getD (i - 300000) 0
/-- the names: the script's ints, and what is made of its second -/
noncomputable def zs_nm (xs : Nat → Int32) (b : UInt32) : Int32 := match b.toNat with
  | 1 => xs 0
  | 2 => xs 1
  | 3 => xs 2
  | 4 => xs 3
  | 5 => xs 4
  | 6 => xs 5
  | 7 => xs 1 >>> ((2 : Int32) &&& 31)
  | 8 => xs 1 + 3
  | 9 => xs 1 + 2
  | 10 => xs 1 + 1
  | 11 => (xs 1 + 3) >>> ((2 : Int32) &&& 31)
  | 12 => (xs 1 + 2) >>> ((2 : Int32) &&& 31)
  | 13 => (xs 1 + 1) >>> ((2 : Int32) &&& 31)
  | 14 => xs 1 / 2
  | _ => 0
noncomputable def zs_nl (xs : Nat → Int32) (b : UInt64) : Int64 := (zs_nm xs b.toUInt32).toInt64
theorem zs_base {ad : Nat → Nat} {xs : Nat → Int32} : zx_oo (ad, zs_nm xs, zs_nl xs) zl_b := by
  intro q hq
  unfold zl_b at hq
  simp only [List.mem_cons, List.not_mem_nil, or_false] at hq
  rcases hq with e | e | e | e | e | e | e | e | e | e | e <;> subst e <;> refine ⟨by decide, ?_⟩ <;> first | exact ⟨_, rfl, fun _ => rfl⟩ | exact ⟨_, rfl, fun _ => Int32.add_zero _⟩ | exact ⟨_, rfl, fun _ => Int32.sub_zero _⟩
/-- what is known of the older rows -/
noncomputable def zs_old (D : zx_D) (O : List zx_W) (sz : Nat) (H : Heap) (U : State) : Prop := ∀ (i : Nat) (z : zx_W), O[i]? = some z → ∃ (ty : FieldType) (f : Nat → Value), ([.int, .long, .byte, .boolean, .array .long, .array .int, .object "ChainHouse$Bytes", .object "ChainHouse$Contents"] : List FieldType)[z.1]? = some ty ∧ va_T ty (D.1 i) z.2.1 f (fun a => sz ≤ a) U H ∧ ∀ j, j < z.2.1 → zx_v D (zx_rd z.2.2.1 z.2.2.2 j) (f j)
theorem zs_old_moved {D : zx_D} {O : List zx_W} {sz : Nat} {H : Heap} (s U : State) (hW : s.WarmedH U.vm) (h : zs_old D O sz H s) : zs_old D O sz H U := fun i z hz => by
  obtain ⟨ty, f, h1, h2, h3⟩ := h i z hz
  exact ⟨ty, f, h1, va_T.moved hW.alike h2, h3⟩
theorem zs_aoA {t : FieldType} {A : Array Value} {U : State} (h : (Cond.arrayOver (.array t)).before A U = true) : zx_AO (.array t) U := h
theorem zs_aoO {C : String} {A : Array Value} {U : State} (h : (Cond.arrayOver (.object C)).before A U = true) : zx_AO (.object C) U := va_AO.of h
noncomputable def zs_E (base : Nat) : zx_E := fun _ _ s _ args below _ _ t => s.heap.size ≤ base → lw_Z below args s t
theorem zs_E_ok {P : zx_P} {G : zx_G} : zx_EE P G (zs_E G.2.2.2.2.1) 17 0 zl_U := by
  intro p e s m args below meth c t h hb
  obtain ⟨o, b1, b2, ⟨⟨cv, hcv, ho⟩, hh⟩, L, ⟨f1, f2, f3⟩, hf⟩ := h
  have e1 : cv = some (.int 1) := by
    cases cv with
    | none => exact absurd ho (fun z => z)
    | some w => exact congrArg some ho
  exact ⟨o, b1, b2, by rw [hcv, e1], f1, f2, f3.weaken (fun y hy hlt => absurd hlt (Nat.not_lt.mpr (Nat.le_trans hb (hf y hy)))) (Nat.le_of_ble_eq_true rfl) (Nat.le_of_ble_eq_true rfl)⟩
theorem zs_world {l : Launch} (hlt : l.stackTraces = false) {s : State} {b Ln : Nat} {xs : Nat → Int32} (hts : ∀ w ∈ lw_tbl, w.before #[Value.ref b] s = true) (hgv : (Jvm.Cond.and given_1 narrow_1).before #[Value.ref b] s = true) (hbl : b < s.heap.size) (hX : va_X b Ln xs s s.heap) (sc : zx_W) (hsc0 : sc.1 = 0) (hsc1 : sc.2.1 = Ln) (hL : Ln < 2 ^ 31)
    (hsc : ∀ (ad : Nat → Nat) (j : Nat), j < Ln → zx_v (ad, zs_nm xs, zs_nl xs) (zx_rd sc.2.2.1 sc.2.2.2 j) (.int (xs j))) :
    ∃ G : zx_G, G.1 = l ∧ G.2.2.2.2.1 = s.heap.size ∧ G.2.2.2.2.2.1 = s.heap ∧ G.2.2.2.1.1 16 = b ∧ G.2.2.2.1.2.1 = zs_nm xs ∧ zx_oo G.2.2.2.1 zl_b ∧ zx_ll G.2.2.2.1 ∧ zx_ad (zu_P []) G ∧ zx_ho (zu_P []) G (zu_OL sc) ∧ (∀ s, G.2.2.2.2.2.2 s → zy_B zl_B zl_N G.2.2.2.2.1 G.2.2.2.2.2.1 s) ∧ va_K G.2.1 (zu_P []).1 G.2.2.1 s ∧ zx_x (zu_P []) G s := by
  have hF : ∀ c ∈ zs_F, c.before #[Value.ref b] s = true := flat_of_before _ hgv
  have hz : ∀ w ∈ zu_ws, w.before #[Value.ref b] s = true := fun w hw => hts w (zt_in w hw)
  have hA0 : ∀ a : Nat, a < s.heap.size → ¬ s.heap.size ≤ a := fun a h => Nat.not_le.mpr h
  obtain ⟨DG, ts, hK, hts2⟩ := zs_K hts
  obtain ⟨t0, v0, w0⟩ := zs_r0 hF
  obtain ⟨t1, v1, w1⟩ := zs_r1 hF
  obtain ⟨t2, v2, w2⟩ := zs_r2 hF
  obtain ⟨t3, v3, w3⟩ := zs_r3 hF
  obtain ⟨t4, v4, w4⟩ := zs_r4 hF
  obtain ⟨t5, v5, w5⟩ := zs_r5 hF
  obtain ⟨t6, v6, w6⟩ := zs_r6 hF
  obtain ⟨t7, v7, w7⟩ := zs_r7 hF
  obtain ⟨t8, v8, w8⟩ := zs_r8 hF
  obtain ⟨t9, v9, w9⟩ := zs_r9 hF
  obtain ⟨t10, v10, w10⟩ := zs_r10 hF
  obtain ⟨t11, v11, w11⟩ := zs_r11 hF
  obtain ⟨t12, v12, w12⟩ := zs_r12 hF
  obtain ⟨t13, v13, w13⟩ := zs_r13 hF
  obtain ⟨x0, t14, ⟨O0, C0, V0, w14⟩, S0⟩ := zs_r14 hF
  obtain ⟨x1, t15, ⟨O1, C1, V1, w15⟩, S1⟩ := zs_r15 hF
  have hbs : va_T .int b Ln (fun j => .int (xs j)) (fun a => s.heap.size ≤ a) s s.heap := by
    obtain ⟨scr, h1, h2, h3, h4, h5⟩ := hX
    exact ⟨scr, h1, h2, h3, Nat.le_of_eq h4.symm, by rw [h4], h5, Nat.not_le.mpr hbl⟩
  have hold : zs_old (zs_ad s.heap.size [t0, t1, t2, t3, t4, t5, t6, t7, t8, t9, t10, t11, t12, t13, t14, t15, b] [x0, x1], zs_nm xs, zs_nl xs) (zu_OL sc) s.heap.size s.heap s := by
    intro i z hz9
    match i, hz9 with
    | 0, hz9 =>
      cases hz9
      refine ⟨.int, _, rfl, w0, fun j hj => ?_⟩
      have := zs_same_in zs_e0 j hj
      rw [Nat.zero_add] at this
      show zx_v _ (zx_rd (.int 0) zu_o0.2.2.2 j) _
      rw [this]
      rfl
    | 1, hz9 =>
      cases hz9
      refine ⟨.int, _, rfl, w1, fun j hj => ?_⟩
      have := zs_same_in zs_e1 j hj
      rw [Nat.zero_add] at this
      show zx_v _ (zx_rd (.int 0) zu_o1.2.2.2 j) _
      rw [this]
      rfl
    | 2, hz9 =>
      cases hz9
      refine ⟨.int, _, rfl, w2, fun j hj => ?_⟩
      have := zs_same_in zs_e2 j hj
      rw [Nat.zero_add] at this
      show zx_v _ (zx_rd (.int 0) zu_o2.2.2.2 j) _
      rw [this]
      rfl
    | 3, hz9 =>
      cases hz9
      refine ⟨.int, _, rfl, w3, fun j hj => ?_⟩
      have := zs_same_in zs_e3 j hj
      rw [Nat.zero_add] at this
      show zx_v _ (zx_rd (.int 0) zu_o3.2.2.2 j) _
      rw [this]
      rfl
    | 4, hz9 =>
      cases hz9
      refine ⟨.int, _, rfl, w4, fun j hj => ?_⟩
      have := zs_same_in zs_e4 j hj
      rw [Nat.zero_add] at this
      show zx_v _ (zx_rd (.int 0) zu_o4.2.2.2 j) _
      rw [this]
      rfl
    | 5, hz9 =>
      cases hz9
      refine ⟨.int, _, rfl, w5, fun j hj => ?_⟩
      have := zs_same_in zs_e5 j hj
      rw [Nat.zero_add] at this
      show zx_v _ (zx_rd (.int 0) zu_o5.2.2.2 j) _
      rw [this]
      rfl
    | 6, hz9 =>
      cases hz9
      refine ⟨.int, _, rfl, w6, fun j hj => ?_⟩
      have := zs_same_in zs_e6 j hj
      rw [Nat.zero_add] at this
      show zx_v _ (zx_rd (.int 0) zu_o6.2.2.2 j) _
      rw [this]
      rfl
    | 7, hz9 =>
      cases hz9
      refine ⟨.int, _, rfl, w7, fun j hj => ?_⟩
      have := zs_same_in zs_e7 j hj
      rw [Nat.zero_add] at this
      show zx_v _ (zx_rd (.int 0) zu_o7.2.2.2 j) _
      rw [this]
      rfl
    | 8, hz9 =>
      cases hz9
      refine ⟨.int, _, rfl, w8, fun j hj => ?_⟩
      have := zs_same_in zs_e8 j hj
      rw [Nat.zero_add] at this
      show zx_v _ (zx_rd (.int 0) zu_o8.2.2.2 j) _
      rw [this]
      rfl
    | 9, hz9 =>
      cases hz9
      refine ⟨.int, _, rfl, w9, fun j hj => ?_⟩
      have := zs_same_in zs_e9 j hj
      rw [Nat.zero_add] at this
      show zx_v _ (zx_rd (.int 0) zu_o9.2.2.2 j) _
      rw [this]
      rfl
    | 10, hz9 =>
      cases hz9
      refine ⟨.int, _, rfl, w10, fun j hj => ?_⟩
      have := zs_same_in zs_e10 j hj
      rw [Nat.zero_add] at this
      show zx_v _ (zx_rd (.int 0) zu_o10.2.2.2 j) _
      rw [this]
      rfl
    | 11, hz9 =>
      cases hz9
      refine ⟨.int, _, rfl, w11, fun j hj => ?_⟩
      have := zs_same_in zs_e11 j hj
      rw [Nat.zero_add] at this
      show zx_v _ (zx_rd (.int 0) zu_o11.2.2.2 j) _
      rw [this]
      rfl
    | 12, hz9 =>
      cases hz9
      refine ⟨.int, _, rfl, w12, fun j hj => ?_⟩
      have := zs_same_in zs_e12 j hj
      rw [Nat.zero_add] at this
      show zx_v _ (zx_rd (.int 0) zu_o12.2.2.2 j) _
      rw [this]
      rfl
    | 13, hz9 =>
      cases hz9
      refine ⟨.int, _, rfl, w13, fun j hj => ?_⟩
      have := zs_same_in zs_e13 j hj
      rw [Nat.zero_add] at this
      show zx_v _ (zx_rd (.int 0) zu_o13.2.2.2 j) _
      rw [this]
      rfl
    | 14, hz9 =>
      cases hz9
      refine ⟨.byte, _, rfl, w14, fun j hj => ?_⟩
      have := zs_same_in zs_e14 j hj
      rw [Nat.zero_add] at this
      show zx_v _ (zx_rd (.int 0) zu_o14.2.2.2 j) _
      rw [this]
      rfl
    | 15, hz9 =>
      cases hz9
      refine ⟨.byte, _, rfl, w15, fun j hj => ?_⟩
      have := zs_same_in zs_e15 j hj
      rw [Nat.zero_add] at this
      show zx_v _ (zx_rd (.int 0) zu_o15.2.2.2 j) _
      rw [this]
      rfl
    | 16, hz9 =>
      cases hz9
      exact ⟨.int, _, by rw [hsc0]; rfl, by rw [hsc1]; exact hbs, fun j hj => hsc _ j (by rw [← hsc1]; exact hj)⟩
    | k + 17, hz9 => exact absurd hz9 (by simp [zu_OL, zu_O])
  have hB : zy_B zl_B zl_N s.heap.size s.heap s := by
    refine ⟨List.forall_mem_cons.mpr ⟨⟨rfl, rfl, va_tabs rfl rfl (hts _ (zt_6 _ (List.mem_of_getElem? (i := 192) (by decide +kernel))))⟩, List.forall_mem_cons.mpr ⟨⟨rfl, rfl, va_tabs rfl rfl (hts _ (zt_6 _ (List.mem_of_getElem? (i := 193) (by decide +kernel))))⟩, List.forall_mem_cons.mpr ⟨⟨rfl, rfl, va_tabs rfl rfl (hts _ (zt_6 _ (List.mem_of_getElem? (i := 194) (by decide +kernel))))⟩, List.forall_mem_cons.mpr ⟨⟨rfl, rfl, va_tabs rfl rfl (hts _ (zt_6 _ (List.mem_of_getElem? (i := 195) (by decide +kernel))))⟩, List.forall_mem_cons.mpr ⟨⟨rfl, rfl, va_tabs rfl rfl (hts _ (zt_6 _ (List.mem_of_getElem? (i := 196) (by decide +kernel))))⟩, List.forall_mem_cons.mpr ⟨⟨rfl, rfl, va_tabs rfl rfl (hts _ (zt_6 _ (List.mem_of_getElem? (i := 197) (by decide +kernel))))⟩, List.forall_mem_cons.mpr ⟨⟨rfl, rfl, va_tabs rfl rfl (hts _ (zt_6 _ (List.mem_of_getElem? (i := 198) (by decide +kernel))))⟩, List.forall_mem_cons.mpr ⟨⟨rfl, rfl, va_tabs rfl rfl (hts _ (zt_6 _ (List.mem_of_getElem? (i := 228) (by decide +kernel))))⟩, List.forall_mem_cons.mpr ⟨⟨rfl, rfl, va_tabs rfl rfl (hts _ (zt_9 _ (List.mem_of_getElem? (i := 216) (by decide +kernel))))⟩, List.forall_mem_cons.mpr ⟨⟨rfl, rfl, va_tabs rfl rfl (hts _ (zt_12 _ (List.mem_of_getElem? (i := 19) (by decide +kernel))))⟩, List.forall_mem_cons.mpr ⟨⟨rfl, rfl, va_tabs rfl rfl (hts _ (zt_12 _ (List.mem_of_getElem? (i := 47) (by decide +kernel))))⟩,  fun _ h => absurd h List.not_mem_nil⟩⟩⟩⟩⟩⟩⟩⟩⟩⟩⟩, ⟨vx_Zqof (C := "java/lang/Throwable") (n := "UNASSIGNED_STACK") (d := "[Ljava/lang/StackTraceElement;") (hts _ (zt_6 _ (List.mem_of_getElem? (i := 217) (by decide +kernel)))) (hts _ (zt_1 _ (List.mem_of_getElem? (i := 22) (by decide +kernel)))) (hF _ (List.mem_of_getElem? (i := 803) (by decide +kernel))) hA0, vx_Zqof (C := "java/lang/Throwable") (n := "SUPPRESSED_SENTINEL") (d := "Ljava/util/List;") (hts _ (zt_6 _ (List.mem_of_getElem? (i := 219) (by decide +kernel)))) (hts _ (zt_1 _ (List.mem_of_getElem? (i := 22) (by decide +kernel)))) (hF _ (List.mem_of_getElem? (i := 804) (by decide +kernel))) hA0⟩, fun q hq => ?_⟩
    obtain rfl := List.mem_singleton.mp hq
    exact va_Nc.of (hF _ (List.mem_of_getElem? (i := 940) (by decide +kernel)))
  have hcl : ∀ (s2 U2 : State), s2.WarmedH U2.vm → (zy_B zl_B zl_N s.heap.size s.heap s2 ∧ zs_old (zs_ad s.heap.size [t0, t1, t2, t3, t4, t5, t6, t7, t8, t9, t10, t11, t12, t13, t14, t15, b] [x0, x1], zs_nm xs, zs_nl xs) (zu_OL sc) s.heap.size s.heap s2) → zy_B zl_B zl_N s.heap.size s.heap U2 ∧ zs_old (zs_ad s.heap.size [t0, t1, t2, t3, t4, t5, t6, t7, t8, t9, t10, t11, t12, t13, t14, t15, b] [x0, x1], zs_nm xs, zs_nl xs) (zu_OL sc) s.heap.size s.heap U2 := fun s2 U2 hW h => ⟨zy_B_moved s2 U2 hW h.1, zs_old_moved s2 U2 hW h.2⟩
  refine ⟨(l, DG, ts, (zs_ad s.heap.size [t0, t1, t2, t3, t4, t5, t6, t7, t8, t9, t10, t11, t12, t13, t14, t15, b] [x0, x1], zs_nm xs, zs_nl xs), s.heap.size, s.heap, fun U => zy_B zl_B zl_N s.heap.size s.heap U ∧ zs_old (zs_ad s.heap.size [t0, t1, t2, t3, t4, t5, t6, t7, t8, t9, t10, t11, t12, t13, t14, t15, b] [x0, x1], zs_nm xs, zs_nl xs) (zu_OL sc) s.heap.size s.heap U), rfl, rfl, rfl, rfl, rfl, zs_base, fun q => ?_, ⟨fun i h1 h2 => ?_, fun i h => ?_, hts2⟩, fun s2 h => h.2, fun s2 h => h.1, hK, ⟨?_, ?_, ?_, ?_, hcl, hB, hold⟩⟩
  · show (zs_nm xs q.toUInt64.toUInt32).toInt64 = _
    rw [UInt32.toUInt32_toUInt64]
  · have h1 : 17 ≤ i := h1
    show zs_ad _ _ _ i = _
    unfold zs_ad
    rw [if_neg (by omega), if_pos h2]
    rfl
  · show zs_ad _ _ _ i < s.heap.size
    unfold zs_ad
    rcases h with h | h
    · have h : i < 17 := h
      rw [if_pos h]
      exact zs_getD i (List.forall_mem_cons.mpr ⟨zs_lt w0, List.forall_mem_cons.mpr ⟨zs_lt w1, List.forall_mem_cons.mpr ⟨zs_lt w2, List.forall_mem_cons.mpr ⟨zs_lt w3, List.forall_mem_cons.mpr ⟨zs_lt w4, List.forall_mem_cons.mpr ⟨zs_lt w5, List.forall_mem_cons.mpr ⟨zs_lt w6, List.forall_mem_cons.mpr ⟨zs_lt w7, List.forall_mem_cons.mpr ⟨zs_lt w8, List.forall_mem_cons.mpr ⟨zs_lt w9, List.forall_mem_cons.mpr ⟨zs_lt w10, List.forall_mem_cons.mpr ⟨zs_lt w11, List.forall_mem_cons.mpr ⟨zs_lt w12, List.forall_mem_cons.mpr ⟨zs_lt w13, List.forall_mem_cons.mpr ⟨zs_lt w14, List.forall_mem_cons.mpr ⟨zs_lt w15, List.forall_mem_cons.mpr ⟨hbl,  fun _ h => absurd h List.not_mem_nil⟩⟩⟩⟩⟩⟩⟩⟩⟩⟩⟩⟩⟩⟩⟩⟩⟩) (by omega)
    · have h : 300000 ≤ i := h
      rw [if_neg (by omega), if_neg (by omega)]
      exact zs_getD _ (List.forall_mem_cons.mpr ⟨zs_ltO O0, List.forall_mem_cons.mpr ⟨zs_ltO O1,  fun _ h => absurd h List.not_mem_nil⟩⟩) (by omega)
  · intro j z hz9
    exact match j, hz9 with
    | 0, hz9 => by cases hz9; exact ⟨_, rfl, va_Zref (hts _ (zt_4 _ (List.mem_of_getElem? (i := 151) (by decide +kernel)))) (hts _ (zt_1 _ (List.mem_of_getElem? (i := 2) (by decide +kernel)))) v0 hA0⟩
    | 1, hz9 => by cases hz9; exact ⟨_, rfl, va_Zref (hts _ (zt_9 _ (List.mem_of_getElem? (i := 144) (by decide +kernel)))) (hts _ (zt_1 _ (List.mem_of_getElem? (i := 8) (by decide +kernel)))) v1 hA0⟩
    | 2, hz9 => by cases hz9; exact ⟨_, rfl, va_Zref (hts _ (zt_9 _ (List.mem_of_getElem? (i := 211) (by decide +kernel)))) (hts _ (zt_1 _ (List.mem_of_getElem? (i := 8) (by decide +kernel)))) v2 hA0⟩
    | 3, hz9 => by cases hz9; exact ⟨_, rfl, va_Zref (hts _ (zt_9 _ (List.mem_of_getElem? (i := 196) (by decide +kernel)))) (hts _ (zt_1 _ (List.mem_of_getElem? (i := 8) (by decide +kernel)))) v3 hA0⟩
    | 4, hz9 => by cases hz9; exact ⟨_, rfl, va_Zref (hts _ (zt_9 _ (List.mem_of_getElem? (i := 194) (by decide +kernel)))) (hts _ (zt_1 _ (List.mem_of_getElem? (i := 8) (by decide +kernel)))) v4 hA0⟩
    | 5, hz9 => by cases hz9; exact ⟨_, rfl, va_Zref (hts _ (zt_5 _ (List.mem_of_getElem? (i := 115) (by decide +kernel)))) (hts _ (zt_1 _ (List.mem_of_getElem? (i := 13) (by decide +kernel)))) v5 hA0⟩
    | 6, hz9 => by cases hz9; exact ⟨_, rfl, va_Zref (hts _ (zt_5 _ (List.mem_of_getElem? (i := 117) (by decide +kernel)))) (hts _ (zt_1 _ (List.mem_of_getElem? (i := 13) (by decide +kernel)))) v6 hA0⟩
    | 7, hz9 => by cases hz9; exact ⟨_, rfl, va_Zref (hts _ (zt_5 _ (List.mem_of_getElem? (i := 110) (by decide +kernel)))) (hts _ (zt_1 _ (List.mem_of_getElem? (i := 13) (by decide +kernel)))) v7 hA0⟩
    | 8, hz9 => by cases hz9; exact ⟨_, rfl, va_Zref (hts _ (zt_5 _ (List.mem_of_getElem? (i := 104) (by decide +kernel)))) (hts _ (zt_1 _ (List.mem_of_getElem? (i := 13) (by decide +kernel)))) v8 hA0⟩
    | 9, hz9 => by cases hz9; exact ⟨_, rfl, va_Zref (hts _ (zt_5 _ (List.mem_of_getElem? (i := 126) (by decide +kernel)))) (hts _ (zt_1 _ (List.mem_of_getElem? (i := 13) (by decide +kernel)))) v9 hA0⟩
    | 10, hz9 => by cases hz9; exact ⟨_, rfl, va_Zref (hts _ (zt_5 _ (List.mem_of_getElem? (i := 106) (by decide +kernel)))) (hts _ (zt_1 _ (List.mem_of_getElem? (i := 13) (by decide +kernel)))) v10 hA0⟩
    | 11, hz9 => by cases hz9; exact ⟨_, rfl, va_Zref (hts _ (zt_5 _ (List.mem_of_getElem? (i := 108) (by decide +kernel)))) (hts _ (zt_1 _ (List.mem_of_getElem? (i := 13) (by decide +kernel)))) v11 hA0⟩
    | 12, hz9 => by cases hz9; exact ⟨_, rfl, va_Zref (hts _ (zt_5 _ (List.mem_of_getElem? (i := 124) (by decide +kernel)))) (hts _ (zt_1 _ (List.mem_of_getElem? (i := 13) (by decide +kernel)))) v12 hA0⟩
    | 13, hz9 => by cases hz9; exact ⟨_, rfl, va_Zref (hts _ (zt_5 _ (List.mem_of_getElem? (i := 122) (by decide +kernel)))) (hts _ (zt_1 _ (List.mem_of_getElem? (i := 13) (by decide +kernel)))) v13 hA0⟩
    | 14, hz9 => by cases hz9; exact ⟨_, rfl, va_Zof (hts _ (zt_6 _ (List.mem_of_getElem? (i := 95) (by decide +kernel)))) (hts _ (zt_1 _ (List.mem_of_getElem? (i := 26) (by decide +kernel)))) (va_eqt (z := 1) (hF _ (List.mem_of_getElem? (i := 720) (by decide +kernel)))) hA0⟩
    | 15, hz9 => by
      cases hz9
      rcases va_Zqof (C := "jdk/internal/util/Preconditions") (n := "SIOOBE_FORMATTER") (d := "Ljava/util/function/BiFunction;") (A := fun a => s.heap.size ≤ a) (hts _ (zt_6 _ (List.mem_of_getElem? (i := 111) (by decide +kernel)))) (hts _ (zt_1 _ (List.mem_of_getElem? (i := 28) (by decide +kernel)))) (hF _ (List.mem_of_getElem? (i := 721) (by decide +kernel))) hA0 with h | ⟨t, h⟩
      · exact ⟨_, ⟨rfl, Or.inl rfl⟩, h⟩
      · exact ⟨_, ⟨rfl, Or.inr ⟨t, rfl⟩⟩, h⟩
    | k + 16, hz9 => absurd hz9 (by simp [zu_P])
  · intro j z hz9
    exact match j, hz9 with
    | 0, hz9 => by
      cases hz9
      refine ⟨by decide, V0, C0, O0, fun q hq => ?_⟩
      obtain rfl := List.mem_singleton.mp hq
      exact vk_R.of (hts _ (zt_6 _ (List.mem_of_getElem? (i := 78) (by decide +kernel)))) S0
    | 1, hz9 => by
      cases hz9
      refine ⟨by decide, V1, C1, O1, fun q hq => ?_⟩
      obtain rfl := List.mem_singleton.mp hq
      exact vk_R.of (hts _ (zt_9 _ (List.mem_of_getElem? (i := 179) (by decide +kernel)))) S1
    | k + 2, hz9 => absurd hz9 (by simp [zu_P, zu_T])
  · exact List.forall_mem_cons.mpr ⟨zs_aoA (hts _ (zt_1 _ (List.mem_of_getElem? (i := 78) (by decide +kernel)))), List.forall_mem_cons.mpr ⟨zs_aoA (hts _ (zt_1 _ (List.mem_of_getElem? (i := 80) (by decide +kernel)))), List.forall_mem_cons.mpr ⟨zs_aoO (hts _ (zt_1 _ (List.mem_of_getElem? (i := 58) (by decide +kernel)))), List.forall_mem_cons.mpr ⟨zs_aoO (hts _ (zt_2 _ (List.mem_of_getElem? (i := 152) (by decide +kernel)))),  fun _ h => absurd h List.not_mem_nil⟩⟩⟩⟩
  · exact List.forall_mem_cons.mpr ⟨va_Nw.of rfl (hts _ (zt_1 _ (List.mem_of_getElem? (i := 73) (by decide +kernel)))), List.forall_mem_cons.mpr ⟨va_Nw.of rfl (hts _ (zt_1 _ (List.mem_of_getElem? (i := 67) (by decide +kernel)))), List.forall_mem_cons.mpr ⟨va_Nw.of rfl (hts _ (zt_2 _ (List.mem_of_getElem? (i := 155) (by decide +kernel)))), List.forall_mem_cons.mpr ⟨va_Nw.of rfl (hts _ (zt_2 _ (List.mem_of_getElem? (i := 179) (by decide +kernel)))), List.forall_mem_cons.mpr ⟨va_Nw.of rfl (hts _ (zt_3 _ (List.mem_of_getElem? (i := 36) (by decide +kernel)))), List.forall_mem_cons.mpr ⟨va_Nw.of rfl (hts _ (zt_3 _ (List.mem_of_getElem? (i := 144) (by decide +kernel)))), List.forall_mem_cons.mpr ⟨va_Nw.of rfl (hts _ (zt_1 _ (List.mem_of_getElem? (i := 61) (by decide +kernel)))), List.forall_mem_cons.mpr ⟨va_Nw.of rfl (hts _ (zt_2 _ (List.mem_of_getElem? (i := 90) (by decide +kernel)))), List.forall_mem_cons.mpr ⟨va_Nw.of rfl (hts _ (zt_3 _ (List.mem_of_getElem? (i := 135) (by decide +kernel)))), List.forall_mem_cons.mpr ⟨va_Nw.of rfl (hts _ (zt_13 _ (List.mem_of_getElem? (i := 36) (by decide +kernel)))), List.forall_mem_cons.mpr ⟨va_Nw.of rfl (hts _ (zt_13 _ (List.mem_of_getElem? (i := 38) (by decide +kernel)))), List.forall_mem_cons.mpr ⟨va_Nw.of rfl (hts _ (zt_12 _ (List.mem_of_getElem? (i := 155) (by decide +kernel)))), List.forall_mem_cons.mpr ⟨va_Nw.of rfl (hts _ (zt_13 _ (List.mem_of_getElem? (i := 58) (by decide +kernel)))), List.forall_mem_cons.mpr ⟨va_Nw.of rfl (hts _ (zt_13 _ (List.mem_of_getElem? (i := 59) (by decide +kernel)))), List.forall_mem_cons.mpr ⟨va_Nw.of rfl (hts _ (zt_14 _ (List.mem_of_getElem? (i := 44) (by decide +kernel)))), List.forall_mem_cons.mpr ⟨va_Nw.of rfl (hts _ (zt_14 _ (List.mem_of_getElem? (i := 143) (by decide +kernel)))),  fun _ h => absurd h List.not_mem_nil⟩⟩⟩⟩⟩⟩⟩⟩⟩⟩⟩⟩⟩⟩⟩⟩
